
/-! ===== the class reads items: both ways over the text ===== -/
section MCJ
variable {e : my_E} {d : Nat} {κ : my_K} {σ : my_S} {Q : my_O → my_K → my_S → Prop} {t : Nat → Int32} {n p : Nat} {I : List It} {w : Bool} {rv cu : Nat} {S : St}
theorem set_last {I : List It} {x y : It} : (I ++ [x]).set I.length y = I ++ [y] := by
  rw [List.set_append_right _ _ (Nat.le_refl _)]
  simp
theorem itA_last {I : List It} {x : It} : itA (I ++ [x]) I.length = x := by
  unfold itA
  simp
/-- nothing is needed by the items so far -/
def ND (m rv : Nat) (σ : my_S) : Prop := ∀ k, k < m → σ.1 (rv + 4 + 3 * k) 14 = 0
/-- the beginning of an item -/
theorem y_59s {v1 : Int32} (ht : txt t n) (hκ : 1 ≤ κ.2.1 ∧ 6 ≤ κ.2.2) (hd : 8 ≤ d) (h : CB t n I w rv S p σ)
    (hf : ∀ q, (¬ (300 ≤ tkk t n p ∧ tkk t n p ≤ 304) ∧ q = p) ∨ ((300 ≤ tkk t n p ∧ tkk t n p ≤ 304) ∧ tkk t n (nx t n p) ≠ 2 ∧ q = nx t n p) → fL κ Q t n rv σ q)
    (hQ : ∀ f σ', tkk t n p = f + 300 → f ≤ 4 → tkk t n (nx t n p) = 2 → CB t n I w rv S (nx t n p) σ' → eqp nF σ σ' → if (σ'.1 39 3) = 0 then (∃ a4, (σ'.2.2 39 1) = some a4 ∧ my_in 10 a4 ∧ (my_M e d 194 [.inr (.inr (some a4)), .inl (Int32.ofNat f), .inr (.inl (σ'.2.1 33 10))] κ σ' (my_kA (fun x7 κ8 σ9 => ys_59_91 e d (Int32.ofNat f) x7 κ8 σ9 Q) (fun y10 κ11 σ12 => Q (.inr y10) κ11 σ12)))) else (∃ a13, (σ'.2.2 39 1) = some a13 ∧ my_in 10 a13 ∧ (my_M e d 193 [.inr (.inr (some a13)), .inl v1] κ σ' (my_kA (fun x16 κ17 σ18 => ys_59_91 e d (Int32.ofNat f) x16 κ17 σ18 Q) (fun y19 κ20 σ21 => Q (.inr y19) κ20 σ21))))) : ys_59_0 e d v1 κ σ Q := by
  have hg := tkk_gap (p := p) ht
  have ek := clT_tk h.1
  have hn := ht.1
  unfold ys_59_0
  rw [ek]
  have bad : ¬ (300 ≤ tkk t n p ∧ tkk t n p ≤ 304) → ∀ v, ys_59_26 e d v1 v κ σ Q := fun hh v => by
    unfold ys_59_26 ys_59_27
    exact x_60 (by omega) hκ (fun h0 => absurd rfl h0) (fun _ => hf p (Or.inl ⟨hh, rfl⟩) σ h.1 eqp_rf)
  by_cases h3 : 300 ≤ tkk t n p
  · obtain ⟨f, hfp⟩ : ∃ f, tkk t n p = f + 300 := ⟨tkk t n p - 300, by omega⟩
    have hf17 : f < 17 := by omega
    rw [hfp]
    have es : Int32.ofNat (f + 300) - 300 = Int32.ofNat f := by
      rw [Int32.ofNat_add]
      exact Int32.add_sub_cancel _ _
    rw [es, if_neg (oN_0 (by omega))]
    refine my_if (fun h4 => bad (fun hh => ?_) _) (fun h4 => ?_)
    · have := (oN_lt (p := 4) (by omega) (by omega)).mp h4
      omega
    · have hf4 : f ≤ 4 := by
        rcases Nat.lt_or_ge 4 f with hx | hx
        · exact absurd ((oN_lt (p := 4) (by omega) (by omega)).mpr hx) h4
        · exact hx
      unfold ys_59_27
      refine x_60 (by omega) hκ (fun _ => ?_) (fun h0 => absurd h0 (by decide))
      rw [my_k0_v]
      refine B_55 h (by omega) (fun σ1 g1 f1 => ?_)
      rw [my_k0_v]
      have T2 := tcl ht g1.1 2 (y := 2) (by omega) rfl
      refine my_if (fun h2 => ?_) (fun h2 => ?_)
      · unfold ys_59_54
        refine x_60 (by omega) hκ (fun _ => ?_) (fun h0 => absurd h0 (by decide))
        rw [my_k0_v]
        exact hQ f σ1 hfp hf4 (T2.mp h2) g1 f1
      · unfold ys_59_54
        refine x_60 (by omega) hκ (fun h0 => absurd rfl h0) (fun _ => ?_)
        exact hf (nx t n p) (Or.inr ⟨by omega, fun hh => h2 (T2.mpr hh), rfl⟩) σ1 g1.1 (eqp_mo f1 (fun c k hh => by unfold nF at hh; unfold lF; omega))
  · have hb := bad (fun hh => h3 hh.1)
    refine my_if (fun _ => hb _) (fun h0 => ?_)
    exfalso
    apply h0
    have hlt : tkk t n p < 300 := by omega
    have e1 : Int32.ofNat (tkk t n p) - 300 = Int32.ofInt ((tkk t n p : Int) - 300) := by
      rw [Int32.ofInt_sub]
      rfl
    rw [e1, Int32.lt_iff_toInt_lt, Int32.toInt_ofInt_of_le (by omega) (by omega)]
    show (tkk t n p : Int) - 300 < 0
    omega
/-- what an item takes at most -/
def rdF (rv cu c k : Nat) : Prop := nF c k ∨ (c = 39 ∧ k = 2) ∨ hdF rv cu c k
theorem lF_r {c k : Nat} (hrv : rv = 108 ∨ rv = 238 ∨ rv = 368) (hcu : cu < 42) (h : rdF rv cu c k) : lF rv c k := by
  rcases h with h | h | h
  · unfold nF at h; unfold lF; omega
  · unfold lF; omega
  · exact lF_h hrv hcu h
theorem fin_f {fm : Nat} {As : List Ri} (hB : itsB As) (hfm : fm ≤ 4) : (cnF (As.map (fun a => a.1)) (kdf fm) < mst (kdf fm) → As.length < 42) ∧ cnF (As.map (fun a => a.1)) (kdf fm) ≤ 42 := by
  have hk := hB.1 (kdf fm)
  rw [cnK_F] at hk
  have hs := cnK_s (fun a ha => (hB.2 a ha).1)
  have h0 := hB.1 0
  have h1 := hB.1 1
  have h2 := hB.1 2
  have h3 := hB.1 3
  rw [← cnK_F] at hk ⊢
  have hk4 := kdf_lt hfm
  simp only [mst] at h0 h1 h2 h3
  simp at h0 h1 h2 h3
  refine ⟨fun hh => ?_, ?_⟩
  · have h4 : kdf fm = 0 ∨ kdf fm = 1 ∨ kdf fm = 2 ∨ kdf fm = 3 := by omega
    rcases h4 with h | h | h | h <;> rw [h] at hh <;> simp [mst] at hh <;> omega
  · have h4 : kdf fm = 0 ∨ kdf fm = 1 ∨ kdf fm = 2 ∨ kdf fm = 3 := by omega
    rcases h4 with h | h | h | h <;> rw [h] <;> omega
/-- an item on the first way -/
theorem y_59a {As : List Ri} {i : Nat} {v1 : Int32} (ht : txt t n) (hκ : 1 ≤ κ.2.1 ∧ 6 ≤ κ.2.2) (hd : 190 ≤ d) (hB : itsB As) (hrel : iRel As I) (h : CB t n I false rv S p σ) (hod : OD (As.map (fun a => a.1)) rv σ) (hnd : ND I.length rv σ)
    (hf : ∀ q, pit t n As i p = .inl q → fL κ Q t n rv σ q)
    (hQ : ∀ a q it σ', pit t n As i p = .inr (a, q) → iOf a it → CB t n (I ++ [it]) false rv S q σ' → OD ((As ++ [a]).map (fun a => a.1)) rv σ' → ND (I.length + 1) rv σ' → eqp (lF rv) σ σ' → Q (.inl none) κ σ') : my_M e d 59 [.inr (.inr (some 39)), .inl v1] κ σ Q := by
  obtain ⟨d, rfl⟩ := dS 1 (show 1 ≤ d by omega)
  have hrv := h.2.2.1.2
  have h42 := h.2.2.2.1.2.1
  have hn := ht.1
  have hp := clT_le ht h.1
  refine ys_59 ?_
  refine y_59s ht hκ (by omega) h (fun q hq => ?_) (fun f σ1 hfp hf4 h2 g1 f1 => ?_)
  · rcases hq with ⟨h1, hq1⟩ | ⟨h1, h2, hq1⟩
    · rw [hq1]; exact hf p (by unfold pit; rw [if_neg h1])
    · rw [hq1]; exact hf _ (by unfold pit; rw [if_pos h1, if_neg (fun hh => h2 hh.1)])
  rw [g1.2.1, if_pos (by decide)]
  refine ⟨rv, g1.2.2.1.1, in10 hrv, ?_⟩
  rw [clT_nm ht g1.1 h2]
  have hNm := (tk2_N h2 ht).1
  have hpit : ∀ {x : Rj}, x = pit t n As i p → x = if kwi (rno As) (tkm t n (nx t n p)) 0 = none ∧ cnK As (kdf f) < mst (kdf f) then pi2 t n (rno As) f i (tkm t n (nx t n p)) (nx t n (nx t n p)) else .inl (nx t n p) := fun {x} hx => by
    rw [hx]
    unfold pit
    rw [hfp, if_pos (by omega), Nat.add_sub_cancel]
    by_cases hc : kwi (rno As) (tkm t n (nx t n p)) 0 = none ∧ cnK As (kdf f) < mst (kdf f)
    · rw [if_pos ⟨h2, hc⟩, if_pos hc]
    · rw [if_neg (fun hh => hc hh.2), if_neg hc]
  have hitK : itK I (tkm t n (nx t n p)) = kwi (rno As) (tkm t n (nx t n p)) 0 := by unfold itK; rw [iRel_n hrel]
  have f1l : eqp (lF rv) σ σ1 := eqp_mo f1 (fun c k hh => by unfold nF at hh; unfold lF; omega)
  have hod1 : OD (As.map (fun a => a.1)) rv σ1 := OD_o hod (by rw [List.length_map, ← hrel.1]; exact h42) f1 (fun c k hh => by unfold nF at hh; exact ⟨by omega, fun j hj => by omega⟩)
  obtain ⟨hF1, hF2⟩ := fin_f (fm := f) hB hf4
  refine z_194 (Fs := As.map (fun a => a.1)) hrv hNm g1.2.2.2.1 hod1 (by rw [List.length_map, hrel.1]) hf4 (fun hh => by rw [hrel.1]; exact hF1 hh) hF2 (by omega) (fun hno => ?_) (fun pt σ2 hk hc hI2 hod2 h14 f2 => ?_)
  · rw [my_kA_v]
    unfold ys_59_91
    rw [if_pos rfl]
    unfold ys_59_107
    refine x_60 (by omega) hκ (fun h0 => absurd rfl h0) (fun _ => ?_)
    have hx : pit t n As i p = .inl (nx t n p) := by
      rw [hpit rfl, if_neg]
      intro hh
      rw [hitK, ← cnK_F] at hno
      rcases hno with hno | hno
      · exact hno hh.1
      · exact hno hh.2
    have he : eqp (fun c k => c = 39 ∧ k = 2) σ1 (my_uA σ1 39 2 none) := eqp_A eqp_rf ⟨rfl, rfl⟩
    exact hf _ hx _ (clT_o g1.1 he (fun c k hh => by omega)) (eqp_tr f1l (eqp_mo he (fun c k hh => by unfold lF; omega)))
  · rw [my_kA_v]
    unfold ys_59_91
    rw [if_neg (by simp)]
    unfold ys_59_107
    refine x_60 (by omega) hκ (fun _ => ?_) (fun h0 => absurd h0 (by decide))
    rw [my_k0_v]
    have hl41 : I.length < 42 := by rw [hrel.1]; exact hF1 hc
    have hx : pit t n As i p = pi2 t n (rno As) f i (tkm t n (nx t n p)) (nx t n (nx t n p)) := by
      rw [hpit rfl, if_pos ⟨by rw [← hitK]; exact hk, by rw [cnK_F]; exact hc⟩]
    rw [hx] at hf hQ
    -- the state with the item at hand
    have he3 : eqp (fun c k => c = 39 ∧ k = 2) σ2 (my_uA σ2 39 2 (some (rv + 4 + 3 * I.length))) := eqp_A eqp_rf ⟨rfl, rfl⟩
    have f2d : eqp (fun c k => c = rv + 4 + 3 * I.length ∨ c = rv + 3 ∨ (c = rv ∧ k = 3)) σ1 σ2 := f2
    have gB3 : CB t n (I ++ [it0 (tkm t n (nx t n p)) f pt]) false rv S (nx t n p) (my_uA σ2 39 2 (some (rv + 4 + 3 * I.length))) := by
      obtain ⟨a1, a2, ⟨a3, a3'⟩, a4, a5, a6, ⟨a7, a8, a9⟩⟩ := g1
      have f3 : eqp (fun c k => c = rv + 4 + 3 * I.length ∨ c = rv + 3 ∨ (c = rv ∧ k = 3) ∨ (c = 39 ∧ k = 2)) σ1 (my_uA σ2 39 2 (some (rv + 4 + 3 * I.length))) := eqp_tr (eqp_mo f2d (fun c k hh => by omega)) (eqp_mo he3 (fun c k hh => by omega))
      exact ⟨clT_o a1 f3 (fun c k hh => by omega), (eqp_g f3 (by omega)).trans a2, ⟨((f3 _ _ (by omega)).2.2).trans a3, a3'⟩, CIm_o hI2 he3 (fun c k hh => ⟨by omega, by omega, fun j hj => ⟨by omega, by omega⟩⟩), (eqp_g f3 (by omega)).trans a5, (eqp_g f3 (by omega)).trans a6, ⟨(eqp_g f3 (by omega)).trans a7, a8, fun i x hx => (eqp_g f3 (by omega)).trans (a9 i x hx)⟩⟩
    have e2 : (my_uA σ2 39 2 (some (rv + 4 + 3 * I.length))).2.2 39 2 = some (rv + 4 + 3 * I.length) := by rw [my_uA_3, if_pos ⟨rfl, rfl⟩]
    have hod3 : OD (As.map (fun a => a.1) ++ [f]) rv (my_uA σ2 39 2 (some (rv + 4 + 3 * I.length))) := OD_o hod2 (by simp; rw [← hrel.1]; omega) he3 (fun c k hh => ⟨by omega, fun j hj => by omega⟩)
    have h14' : (my_uA σ2 39 2 (some (rv + 4 + 3 * I.length))).1 (rv + 4 + 3 * I.length) 14 = 0 := h14
    have fl3 : eqp (lF rv) σ (my_uA σ2 39 2 (some (rv + 4 + 3 * I.length))) := eqp_tr f1l (eqp_tr (eqp_mo f2d (fun c k hh => by unfold lF; omega)) (eqp_mo he3 (fun c k hh => by unfold lF; omega)))
    have hnd3 : ND I.length rv (my_uA σ2 39 2 (some (rv + 4 + 3 * I.length))) := fun k hk => by
      rw [eqp_g he3 (by omega), eqp_g f2d (by omega), eqp_g f1 (by unfold nF; omega)]
      exact hnd k hk
    generalize my_uA σ2 39 2 (some (rv + 4 + 3 * I.length)) = σ3 at gB3 e2 hod3 h14' fl3 hnd3 ⊢
    refine B_55 gB3 (by omega) (fun σ4 g4 f4 => ?_)
    rw [my_k0_v]
    have g5 := CB_R (cu := I.length) g4 hl41 (((f4 _ _ (by unfold nF; omega)).2.2).trans e2) ((eqp_g f4 (by unfold nF; omega)).trans h14')
    have f45 : eqp (fun c k => nF c k ∨ (c = 39 ∧ k = 9)) σ3 (my_uI σ4 39 9 0) := eqp_I (eqp_mo f4 (fun _ _ => Or.inl)) (Or.inr ⟨rfl, rfl⟩)
    have fl5 : eqp (lF rv) σ (my_uI σ4 39 9 0) := eqp_tr fl3 (eqp_mo f45 (fun c k hh => by unfold nF at hh; unfold lF; omega))
    have hod5 : OD (As.map (fun a => a.1) ++ [f]) rv (my_uI σ4 39 9 0) := OD_o hod3 (by simp; rw [← hrel.1]; omega) f45 (fun c k hh => by unfold nF at hh; exact ⟨by omega, fun j hj => by omega⟩)
    have hnd5 : ND I.length rv (my_uI σ4 39 9 0) := fun k hk => (eqp_g f45 (by unfold nF; omega)).trans (hnd3 k hk)
    generalize my_uI σ4 39 9 0 = σ5 at g5 fl5 hod5 hnd5 ⊢
    have hcu : I.length < (I ++ [it0 (tkm t n (nx t n p)) f pt]).length := by simp
    have hil : itA (I ++ [it0 (tkm t n (nx t n p)) f pt]) I.length = it0 (tkm t n (nx t n p)) f pt := itA_last
    have hNf : nF0 (I ++ [it0 (tkm t n (nx t n p)) f pt]) I.length = rno As ++ [tkm t n (nx t n p)] := by
      unfold nF0
      rw [List.map_append, iRel_n hrel, List.take_of_length_le (by simp [rno, hrel.1])]
      rfl
    -- at the end
    have fin : ∀ (a : Ri) (q : Nat) (it : It) (S' : St) (σ' : my_S) (F : Nat → Nat → Prop), pi2 t n (rno As) f i (tkm t n (nx t n p)) (nx t n (nx t n p)) = .inr (a, q) → iOf a it → CR0 t n (I ++ [it]) false rv I.length S' q 0 σ' → S' = nd0 S → eqp F σ5 σ' → (∀ c k, F c k → hdF rv I.length c k) → riF a = f → ys_59_157 e d κ σ' Q := fun a q it S' σ' F hpa hio g hS f' hF hfa => by
      unfold ys_59_157
      subst hS
      have f'' : eqp (hdF rv I.length) σ5 σ' := eqp_mo f' hF
      refine hQ a q it σ' hpa hio (CB_S (CR0_B g) rfl rfl rfl) ?_ ?_ (eqp_tr fl5 (eqp_mo f'' (fun c k hh => lF_h hrv hl41 hh)))
      · rw [List.map_append]
        show OD (As.map (fun a => a.1) ++ [a.1]) rv σ'
        rw [show a.1 = f from hfa]
        exact OD_o hod5 (by simp; rw [← hrel.1]; omega) f'' (fun c k hh => by unfold hdF yF xF at hh; exact ⟨by omega, fun j hj => by omega⟩)
      · intro k hk
        by_cases hkl : k < I.length
        · rw [eqp_g f'' (by unfold hdF yF xF; omega)]
          exact hnd5 k hkl
        · rw [show k = I.length by omega]
          exact g.2.2.2.2.2.2.1
    unfold pi2 at hf fin
    by_cases c0 : f = 0
    · subst c0
      rw [if_pos rfl] at hf fin
      rw [if_pos (by decide)]
      refine y_61 (nm := tkm t n (nx t n p)) ht hκ (by omega) g5 hcu (fun q hq => fL_mo (hf q hq) fl5) (fun a q σ6 hx6 g6 c6 f6 => ?_)
      rw [my_k0_v]
      have hpb := (pgl_B (nm := tkm t n (nx t n p)) (p := nx t n (nx t n p)) ht (clT_le ht g5.1)).2 a q hx6
      have hRe : riR a = [] ∧ riQ a = [] := hpb.2.2.2.2.2.2.2.2.2.2.2.2.2.1 (by omega)
      rw [gSt_f] at g6
      unfold setT at g6
      rw [hil, set_last] at g6
      refine fin a q _ _ σ6 _ hx6 ⟨hpb.2.2.2.1.symm, ?_, ?_, rfl, ?_, ?_⟩ g6 rfl f6 (fun c k hh => hdF_w hh) hpb.2.2.1
      · rw [hpb.2.2.1]; rfl
      · rw [hpb.2.2.1]; rfl
      · rw [hRe.2]; rfl
      · rw [hRe.2]; intro j x hj; simp at hj
    · rw [if_neg c0] at hf fin
      rw [if_neg (fun hh => c0 (by have := (oN_e (a := f) (b := 0) (by omega) (by omega)).mp hh; omega))]
      by_cases c1 : f = 1
      · subst c1
        rw [if_pos rfl] at hf fin
        rw [if_pos (by decide)]
        refine y_68 (nm := tkm t n (nx t n p)) ht hκ (by omega) g5 hcu (fun q hq => fL_mo (hf q hq) fl5) (fun a q σ6 hx6 g6 c6 f6 => ?_)
        rw [my_k0_v]
        have hpb := (par_B (nm := tkm t n (nx t n p)) (p := nx t n (nx t n p)) ht (clT_le ht g5.1)).2 a q hx6
        have hRe : riR a = [] ∧ riQ a = [] := hpb.2.2.2.2.2.2.2.2.2.2.2.2.2.1 (by omega)
        have hT2 : riT a = 2 := hpb.2.2.2.2.2.2.2.2.1 (by omega) (by omega)
        rw [aSt_f] at g6
        refine fin a q _ _ σ6 _ hx6 ⟨hpb.2.2.2.1.symm, ?_, ?_, hT2.symm, ?_, ?_⟩ g6 rfl f6 (fun c k hh => hdF_w hh) hpb.2.2.1
        · rw [hpb.2.2.1]; rfl
        · rw [hpb.2.2.1]; rfl
        · rw [hRe.2]; rfl
        · rw [hRe.2]; intro j x hj; simp at hj
      · rw [if_neg c1] at hf fin
        rw [if_neg (fun hh => c1 (by have := (oN_e (a := f) (b := 1) (by omega) (by omega)).mp hh; omega))]
        refine y_bd (fm := f) (i := i) (nm := tkm t n (nx t n p)) (Nf := rno As ++ [tkm t n (nx t n p)]) ht hκ (by omega) (by omega) hcu hNf (by rw [hil]; rfl) (fun _ => by rw [hil]; rfl) g5 h.2.2.2.2.2.2.2.1 (fun k hk => ?_) (fun q hq => fL_mo (hf q hq) fl5) (fun a q I' S' cF cl σ6 hx6 hbd g6 w9 w10 w11 w12 w13 f6 => ?_)
        · have hk2 : k < (As.map (fun a => a.1) ++ [f]).length := by simp at hk ⊢; rw [← hrel.1]; exact hk
          exact (hod5.1 k _ (List.getElem?_eq_getElem hk2)).1
        · have hpb := (pbd_B (nm := tkm t n (nx t n p)) (Nf := rno As ++ [tkm t n (nx t n p)]) (i := i) (fm := f) (p := nx t n (nx t n p)) ht (clT_le ht g5.1) (by omega)).2 a q hx6
          have hS' := bdR_f hbd
          obtain ⟨L, T, ty, q1, q2, pt', LT, LT', c', B', S2, b1, b2, b3, b4, b5, b6, b7, b8, b9, b10, b11, b12⟩ := hbd
          rw [b3] at g6
          unfold iB at g6
          rw [hil, set_last] at g6
          refine fin a q _ S' σ6 _ hx6 ⟨hpb.2.2.2.1.symm, ?_, ?_, b10.symm, ?_, ?_⟩ g6 (by rw [hS']; rfl) f6 (fun c k hh => hh) hpb.2.2.1
          · rw [hpb.2.2.1]; rfl
          · rw [hpb.2.2.1]; rfl
          · rw [b11]
          · rw [b11]; exact b4.1
end MCJ
