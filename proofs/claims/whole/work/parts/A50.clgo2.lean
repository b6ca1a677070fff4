
/-! ===== the class reads items: the second way, and both over all items ===== -/
/-- what is read stays ahead -/
theorem pis_pre {t : Nat → Int32} {n : Nat} : ∀ (f : Nat) (As : List Ri) (i p : Nat) {B : List Ri}, pis t n f As i p = .inr B → ∃ r, B = As ++ r := by
  intro f
  induction f with
  | zero => intro As i p B h; unfold pis at h; cases h
  | succ f ih =>
    intro As i p B h
    unfold pis at h
    cases hx : pit t n As i p with
    | inl q => rw [hx] at h; cases h
    | inr v =>
      obtain ⟨a, q⟩ := v
      rw [hx] at h
      dsimp only at h
      by_cases h0 : tkk t n q = 0
      · rw [if_pos h0] at h
        cases h
        exact ⟨[a], rfl⟩
      · rw [if_neg h0] at h
        obtain ⟨r, hr⟩ := ih _ _ _ h
        exact ⟨[a] ++ r, by rw [hr, List.append_assoc]⟩
theorem pis_len {t : Nat → Int32} {n : Nat} (f : Nat) (As : List Ri) (i p : Nat) {B : List Ri} (h : pis t n f As i p = .inr B) : As.length < B.length := by
  cases f with
  | zero => unfold pis at h; cases h
  | succ f =>
    unfold pis at h
    cases hx : pit t n As i p with
    | inl q => rw [hx] at h; cases h
    | inr v =>
      obtain ⟨a, q⟩ := v
      rw [hx] at h
      dsimp only at h
      by_cases h0 : tkk t n q = 0
      · rw [if_pos h0] at h
        cases h
        simp
      · rw [if_neg h0] at h
        obtain ⟨r, hr⟩ := pis_pre _ _ _ _ h
        have := congrArg List.length hr
        simp only [List.length_append, List.length_singleton] at this
        omega
section MCK
variable {e : my_E} {d : Nat} {κ : my_K} {σ : my_S} {Q : my_O → my_K → my_S → Prop} {t : Nat → Int32} {n p : Nat} {I : List It} {rv : Nat} {S : St}
theorem set_same {k : Nat} {it : It} (hk : k < I.length) (h : it = itA I k) : I.set k it = I := by
  apply List.ext_getElem?
  intro j
  by_cases hj : j = k
  · subst hj
    rw [List.getElem?_set_self hk, h, itA_e hk]
  · rw [List.getElem?_set_ne (fun hh => hj hh.symm)]
/-- what is told of an item that is compiled -/
def cDn (rv k : Nat) (a : Ri) (S S' : St) (cF cl : Int32) (σ : my_S) : Prop := (riF a ≤ 1 → σ.1 (rv + 4 + 3 * k) 8 = riV a) ∧ σ.1 (rv + 4 + 3 * k) 10 = Int32.ofNat S.2.2.1.length ∧ σ.1 (rv + 4 + 3 * k) 11 = Int32.ofNat S'.2.2.1.length - Int32.ofNat S.2.2.1.length ∧ (2 ≤ riF a → σ.1 (rv + 4 + 3 * k) 9 = Int32.ofNat (riL a).length ∧ σ.1 (rv + 4 + 3 * k) 12 = cF ∧ σ.1 (rv + 4 + 3 * k) 13 = cl ∧ σ.1 (rv + 4 + 3 * k) 14 = Int32.ofNat S'.2.2.2.length ∧ S'.2.2.2.length ≤ 30 ∧ ∀ i x, S'.2.2.2[i]? = some x → x < 42 ∧ σ.2.2 (rv + 4 + 3 * k + 2) i = some (rv + 4 + 3 * x))
/-- what an item makes -/
def itR (t : Nat → Int32) (n : Nat) (As : List Ri) (I : List It) (k p : Nat) (a : Ri) (q : Nat) (S S' : St) (cF cl : Int32) : Prop := if riF a = 0 then S' = gSt true (Int32.ofNat (riF a)) a (nd0 S) else if riF a = 1 then S' = aSt true (Int32.ofNat (riF a)) a (nd0 S) else bdR t n true I k (riF a) (rno (As.take k) ++ [riN a]) (nd0 S) (nx t n (nx t n p)) a q I S' cF cl
/-- an item on the second way -/
theorem y_59b {As : List Ri} {k i q : Nat} {a : Ri} (ht : txt t n) (hκ : 1 ≤ κ.2.1 ∧ 6 ≤ κ.2.2) (hd : 190 ≤ d) (hB : itsB As) (hrel : iRel As I) (hk : As[k]? = some a) (h : CB t n I true rv S p σ) (hod : OD (As.map (fun a => a.1)) rv σ) (h14 : ∀ j, k ≤ j → j < I.length → σ.1 (rv + 4 + 3 * j) 14 = 0) (hpit : pit t n (As.take k) i p = .inr (a, q))
    (hQ : ∀ S' cF cl σ', itR t n As I k p a q S S' cF cl → CB t n I true rv S' q σ' → OD (As.map (fun a => a.1)) rv σ' → (∀ j, k + 1 ≤ j → j < I.length → σ'.1 (rv + 4 + 3 * j) 14 = 0) → cDn rv k a S S' cF cl σ' → eqp (rdF rv k) σ σ' → Q (.inl none) κ σ') : my_M e d 59 [.inr (.inr (some 39)), .inl (Int32.ofNat k)] κ σ Q := by
  obtain ⟨d, rfl⟩ := dS 1 (show 1 ≤ d by omega)
  have hrv := h.2.2.1.2
  have h42 := h.2.2.2.1.2.1
  have hn := ht.1
  have hp := clT_le ht h.1
  have hkA := (List.getElem?_eq_some_iff.mp hk).1
  have hkl : k < I.length := by rw [hrel.1]; exact hkA
  have hk42 : k < 42 := by omega
  have hPB := (pit_B (As := As.take k) (i := i) ht hp).2 a q hpit
  have hW := pit_W ht hp hpit
  have hio := hrel.2 k a _ hk (itA_e hkl)
  have h300 : 300 ≤ tkk t n p ∧ tkk t n p ≤ 304 := by have := hPB.2.2.1; have := hPB.2.2.2.1; omega
  have hpi : pi2 t n (rno (As.take k)) (riF a) i (riN a) (nx t n (nx t n p)) = .inr (a, q) := by
    have hx := hpit
    unfold pit at hx
    rw [if_pos h300] at hx
    by_cases hc : tkk t n (nx t n p) = 2 ∧ kwi (rno (As.take k)) (tkm t n (nx t n p)) 0 = none ∧ cnK (As.take k) (kdf (tkk t n p - 300)) < mst (kdf (tkk t n p - 300))
    · rw [if_pos hc, hPB.2.2.1, Nat.add_sub_cancel, ← hPB.2.2.2.2.2.1] at hx
      exact hx
    · rw [if_neg hc] at hx; cases hx
  refine ys_59 ?_
  refine y_59s ht hκ (by omega) h (fun q hq => ?_) (fun f σ1 hfp hf4 h2 g1 f1 => ?_)
  · rcases hq with ⟨h1, rfl⟩ | ⟨h1, h2, rfl⟩
    · exact absurd h300 h1
    · exact absurd hPB.2.2.2.2.1 h2
  have hfa : f = riF a := by have := hPB.2.2.1; omega
  subst hfa
  rw [g1.2.1, if_neg (by decide)]
  refine ⟨rv, g1.2.2.1.1, in10 hrv, ?_⟩
  obtain ⟨d, rfl⟩ := dS 1 (show 1 ≤ d by omega)
  refine ys_193 (in10 hrv) ?_
  unfold ys_193_0 ys_193_31
  rw [if_neg (oN_0 (by omega)), g1.2.2.2.1.1, if_pos ((oN_lt (by omega) (by omega)).mpr hkl), if_pos ((oN_lt1 (b := 42) (c := 42) rfl (by omega) (by omega)).mpr hk42), oN_n (by omega), g1.2.2.2.1.2.2.1 k hk42]
  refine ⟨⟨by rw [oN_i (by omega)]; omega, by rw [oN_i (by omega)]; omega⟩, ?_⟩
  rw [my_kA_v]
  unfold ys_59_91
  rw [if_neg (by simp)]
  unfold ys_59_107
  refine x_60 (by omega) hκ (fun _ => ?_) (fun h0 => absurd h0 (by decide))
  rw [my_k0_v]
  have he3 : eqp (fun c k => c = 39 ∧ k = 2) σ1 (my_uA σ1 39 2 (some (rv + 4 + 3 * k))) := eqp_A eqp_rf ⟨rfl, rfl⟩
  have gB3 : CB t n I true rv S (nx t n p) (my_uA σ1 39 2 (some (rv + 4 + 3 * k))) := CB_o g1 (clT_o g1.1 he3 (fun c k hh => by omega)) he3 (fun c k hh => by omega)
  have e2 : (my_uA σ1 39 2 (some (rv + 4 + 3 * k))).2.2 39 2 = some (rv + 4 + 3 * k) := by rw [my_uA_3, if_pos ⟨rfl, rfl⟩]
  have fr3 : eqp (fun c j => nF c j ∨ (c = 39 ∧ j = 2)) σ (my_uA σ1 39 2 (some (rv + 4 + 3 * k))) := eqp_tr (eqp_mo f1 (fun _ _ => Or.inl)) (eqp_mo he3 (fun _ _ => Or.inr))
  generalize my_uA σ1 39 2 (some (rv + 4 + 3 * k)) = σ3 at gB3 e2 fr3 ⊢
  refine B_55 gB3 (by omega) (fun σ4 g4 f4 => ?_)
  rw [my_k0_v]
  have fr4 : eqp (fun c j => nF c j ∨ (c = 39 ∧ j = 2)) σ σ4 := eqp_tr fr3 (eqp_mo f4 (fun _ _ => Or.inl))
  have g5 := CB_R (cu := k) g4 hk42 (((f4 _ _ (by unfold nF; omega)).2.2).trans e2) ((eqp_g fr4 (by unfold nF; omega)).trans (h14 k (Nat.le_refl k) hkl))
  have fr5 : eqp (fun c j => nF c j ∨ (c = 39 ∧ (j = 2 ∨ j = 9))) σ (my_uI σ4 39 9 0) := eqp_I (eqp_mo fr4 (fun c k hh => by unfold nF at hh ⊢; omega)) (by unfold nF; omega)
  generalize my_uI σ4 39 9 0 = σ5 at g5 fr5 ⊢
  have hod5 : OD (As.map (fun a => a.1)) rv σ5 := OD_o hod (by rw [List.length_map, ← hrel.1]; exact h42) fr5 (fun c k hh => by unfold nF at hh; exact ⟨by omega, fun j hj => by omega⟩)
  have hNf : nF0 I k = rno (As.take k) ++ [riN a] := by
    unfold nF0
    rw [iRel_n hrel]
    unfold rno
    rw [← List.map_take, List.take_succ, hk]
    simp
  have fin : ∀ (S' : St) (cF cl : Int32) (σ' : my_S), itR t n As I k p a q S S' cF cl → CR0 t n I true rv k S' q 0 σ' → cDn rv k a S S' cF cl σ' → eqp (hdF rv k) σ5 σ' → ys_59_157 e (d + 1) κ σ' Q := fun S' cF cl σ' hR g hD f' => by
    unfold ys_59_157
    have frd : eqp (rdF rv k) σ σ' := eqp_tr (eqp_mo fr5 (fun c j hh => by unfold rdF hdF yF xF; unfold nF at hh ⊢; omega)) (eqp_mo f' (fun _ _ hh => Or.inr (Or.inr hh)))
    refine hQ S' cF cl σ' hR (CR0_B g) (OD_o hod5 (by rw [List.length_map, ← hrel.1]; exact h42) f' (fun c j hh => by unfold hdF yF xF at hh; exact ⟨by omega, fun j hj => by omega⟩)) (fun j hj1 hj2 => ?_) hD frd
    rw [eqp_g f' (by unfold hdF yF xF; omega), eqp_g fr5 (by unfold nF; omega)]
    exact h14 j (by omega) hj2
  unfold itR at fin
  unfold pi2 at hpi
  by_cases c0 : riF a = 0
  · rw [if_pos c0] at hpi
    simp only [if_pos c0] at fin
    rw [c0, if_pos (by decide)]
    refine y_61 (nm := riN a) ht hκ (by omega) g5 hkl (fun q' hq' => by rw [hpi] at hq'; cases hq') (fun a' q' σ6 hx6 g6 c6 f6 => ?_)
    rw [my_k0_v]
    rw [hpi] at hx6
    cases hx6
    have eI : setT I k (riT a) = I := by
      unfold setT
      refine set_same hkl ?_
      rw [← hio.2.2.2.1]
    have eF : (itA I k).2.1 = Int32.ofNat (riF a) := hio.2.1
    rw [eI, eF] at g6
    rw [eF] at c6
    refine fin _ 0 0 σ6 rfl g6 ⟨fun _ => c6.1, c6.2.1, c6.2.2, fun h2' => by omega⟩ (eqp_mo f6 (fun c k hh => hdF_w hh))
  · rw [if_neg c0] at hpi
    simp only [if_neg c0] at fin
    rw [if_neg (fun hh => c0 (by have := (oN_e (a := riF a) (b := 0) (by have := hW.1; omega) (by omega)).mp hh; omega))]
    by_cases c1 : riF a = 1
    · rw [if_pos c1] at hpi
      simp only [if_pos c1] at fin
      rw [c1, if_pos (by decide)]
      refine y_68 (nm := riN a) ht hκ (by omega) g5 hkl (fun q' hq' => by rw [hpi] at hq'; cases hq') (fun a' q' σ6 hx6 g6 c6 f6 => ?_)
      rw [my_k0_v]
      rw [hpi] at hx6
      cases hx6
      have eF : (itA I k).2.1 = Int32.ofNat (riF a) := hio.2.1
      rw [eF] at g6 c6
      refine fin _ 0 0 σ6 rfl g6 ⟨fun _ => c6.1, c6.2.1, c6.2.2, fun h2' => by omega⟩ (eqp_mo f6 (fun c k hh => hdF_w hh))
    · rw [if_neg c1] at hpi
      simp only [if_neg c1] at fin
      rw [if_neg (fun hh => c1 (by have := (oN_e (a := riF a) (b := 1) (by have := hW.1; omega) (by omega)).mp hh; omega))]
      refine y_bd (fm := riF a) (i := i) (nm := riN a) (Nf := rno (As.take k) ++ [riN a]) ht hκ (by omega) (by have := hW.1; omega) hkl hNf hio.2.1 (fun h2' => by rw [hio.2.2.2.1]; exact hW.2.2.2.2.2.1 (by omega) h2') g5 h.2.2.2.2.2.2.2.1 (fun j hj => ?_) (fun q' hq' => by rw [hpi] at hq'; cases hq') (fun a' q' I' S' cF cl σ6 hx6 hbd g6 w9 w10 w11 w12 w13 f6 => ?_)
      · have hk2 : j < (As.map (fun a => a.1)).length := by rw [List.length_map, ← hrel.1]; exact hj
        exact (hod5.1 j _ (List.getElem?_eq_getElem hk2)).1
      · rw [hpi] at hx6
        cases hx6
        have hbd' := hbd
        obtain ⟨L, T, ty, q1, q2, pt', LT, LT', c', B', S2, b1, b2, b3, b4, b5, b6, b7, b8, b9, b10, b11, b12⟩ := hbd'
        have eI : I' = I := by
          rw [b3]
          unfold iB
          refine set_same hkl ?_
          have ept : pt' = (itA I k).2.2.2.2.2 := by
            funext j
            by_cases hj : j < T.length
            · rw [b4.1 j _ (List.getElem?_eq_getElem hj), hio.2.2.2.2.2 j _ (by rw [b11]; exact List.getElem?_eq_getElem hj)]
            · exact b4.2.2 j (by omega)
          rw [ept, ← b10, ← hio.2.2.2.1, ← b11, ← hio.2.2.2.2.1]
        subst eI
        refine fin S' cF cl σ6 hbd g6 ⟨fun h1 => by omega, w10, w11, fun _ => ⟨w9, w12, w13, g6.2.2.2.2.2.2⟩⟩ f6
/-- the first way over all items -/
theorem y_58l {S : St} (ht : txt t n) (hκ : 1 ≤ κ.2.1 ∧ 6 ≤ κ.2.2) (hd : 190 ≤ d) : ∀ (f : Nat) (As : List Ri) (I : List It) (p : Nat) (σ : my_S), 43 ≤ f + As.length → itsB As → iRel As I → CB t n I false rv S p σ → OD (As.map (fun a => a.1)) rv σ → ND I.length rv σ →
    (∀ q σ', pis t n f As (rwA As).length p = .inl q → clT t n q σ' → eqp (lF rv) σ σ' → Q (.inl (some (.inl 0))) (κ.1 + 1, κ.2.1 - 1, κ.2.2 - 6) σ') →
    (∀ As' I' p' σ', pis t n f As (rwA As).length p = .inr As' → itsB As' → iRel As' I' → CB t n I' false rv S p' σ' → OD (As'.map (fun a => a.1)) rv σ' → ND I'.length rv σ' → eqp (lF rv) σ σ' → Q (.inl (some (.inl 1))) κ σ') →
    my_M e d 59 [.inr (.inr (some 39)), .inl (Int32.ofNat As.length)] κ σ (my_k0 (fun κ2 σ3 => my_W e d mp_58 42 [(0, .inr (.inr (some 39))), (3, .inl (Int32.ofNat As.length + 1))] [] κ2 σ3 Q) (fun y4 κ5 σ6 => if y4.2 = 13 then (Q (.inl (some (.inl 0))) κ5 σ6) else (False))) := by
  intro f
  induction f with
  | zero =>
    intro As I p σ h43 hB
    have := itsB_42 hB
    omega
  | succ f ih =>
    intro As I p σ h43 hB hrel h hod hnd hf hQ
    have h42 := itsB_42 hB
    unfold pis at hf hQ
    refine y_59a (As := As) (i := (rwA As).length) ht hκ hd hB hrel h hod hnd (fun q hq σ' g' f' => ?_) (fun a q it σ1 hx hio g1 hod1 hnd1 f1 => ?_)
    · rw [hq] at hf
      show if ((κ.1, 13) : Nat × Nat).2 = 13 then _ else False
      rw [if_pos rfl]
      exact hf q σ' rfl g' f'
    · rw [my_k0_v, oN_s]
      rw [hx] at hf hQ
      dsimp only at hf hQ
      have hB1 := itsB_a ht (clT_le ht h.1) hB hx
      have hrel1 := iRel_a hrel hio
      have h421 := itsB_42 hB1
      have e2 : (rwA As).length + (riR a).length = (rwA (As ++ [a])).length := by rw [rwA_a, List.length_append]; simp [rwA]
      rw [e2] at hf hQ
      have el : (As ++ [a]).length = As.length + 1 := by simp
      refine ys_58_42_ok ?_
      unfold ys_58_42 ys_58_69
      rw [if_neg (by rw [show (42 : Int32) = Int32.ofNat 42 from rfl, oN_lt (by omega) (by omega)]; omega)]
      have T0 := tcl ht g1.1 0 (y := 0) (by omega) rfl
      refine my_if (fun h0 => ?_) (fun h0 => ?_)
      · have h0 := T0.mp h0
        rw [if_pos h0] at hQ
        exact hQ _ _ q σ1 rfl hB1 hrel1 g1 hod1 (by rw [List.length_append]; exact hnd1) f1
      · have h0 : ¬ tkk t n q = 0 := fun hh => h0 (T0.mpr hh)
        rw [if_neg h0] at hf hQ
        have := ih (As ++ [a]) (I ++ [it]) q σ1 (by simp; omega) hB1 hrel1 g1 hod1 (by rw [List.length_append]; exact hnd1) (fun q' σ' hx' g f' => hf q' σ' hx' g (eqp_tr f1 f')) (fun As' I' p' σ' hx' b r g o d' f' => hQ As' I' p' σ' hx' b r g o d' (eqp_tr f1 f'))
        rw [el] at this
        exact this
/-- .. the second way -/
def pR2 (t : Nat → Int32) (n : Nat) (As : List Ri) (I : List It) (rv : Nat) : Nat → St → St → Nat → my_S → Prop
  | 0, S0, S, p, _ => S = S0 ∧ p = ps t n 0
  | k + 1, S0, S, q, σ => ∃ (S1 : St) (a : Ri) (p : Nat) (cF cl : Int32), pR2 t n As I rv k S0 S1 p σ ∧ As[k]? = some a ∧ pit t n (As.take k) (rwA (As.take k)).length p = .inr (a, q) ∧ itR t n As I k p a q S1 S cF cl ∧ cDn rv k a S1 S cF cl σ
theorem pR2_o {F : Nat → Nat → Prop} {As : List Ri} {S0 : St} {σ' : my_S} (he : eqp F σ σ') : ∀ {k : Nat} {S : St} {p : Nat}, (∀ c j, F c j → ∀ i, i < k → c ≠ rv + 4 + 3 * i ∧ c ≠ rv + 4 + 3 * i + 2) → pR2 t n As I rv k S0 S p σ → pR2 t n As I rv k S0 S p σ'
  | 0, _, _, _, h => h
  | k + 1, S, q, hF, h => by
    obtain ⟨S1, a, p, cF, cl, h1, h2, h3, h4, ⟨d1, d2, d3, d4⟩⟩ := h
    have g : ∀ {j}, ¬ F (rv + 4 + 3 * k) j := fun hh => (hF _ _ hh k (by omega)).1 rfl
    refine ⟨S1, a, p, cF, cl, pR2_o he (fun c j hh i hi => hF c j hh i (by omega)) h1, h2, h3, h4, fun hx => (eqp_g he g).trans (d1 hx), (eqp_g he g).trans d2, (eqp_g he g).trans d3, fun hx => ?_⟩
    obtain ⟨x1, x2, x3, x4, x5, x6⟩ := d4 hx
    exact ⟨(eqp_g he g).trans x1, (eqp_g he g).trans x2, (eqp_g he g).trans x3, (eqp_g he g).trans x4, x5, fun i x hi => ⟨(x6 i x hi).1, ((he _ _ (fun hh => (hF _ _ hh k (by omega)).2 rfl)).2.2).trans (x6 i x hi).2⟩⟩
theorem y_58m {As : List Ri} {S0 : St} (ht : txt t n) (hκ : 1 ≤ κ.2.1 ∧ 6 ≤ κ.2.2) (hd : 190 ≤ d) (hB : itsB As) (hrel : iRel As I) : ∀ (f k : Nat) (S : St) (p : Nat) (σ : my_S), k < As.length → pis t n f (As.take k) (rwA (As.take k)).length p = .inr As → CB t n I true rv S p σ → OD (As.map (fun a => a.1)) rv σ → (∀ j, k ≤ j → j < I.length → σ.1 (rv + 4 + 3 * j) 14 = 0) → pR2 t n As I rv k S0 S p σ →
    (∀ S' p' σ', CB t n I true rv S' p' σ' → OD (As.map (fun a => a.1)) rv σ' → pR2 t n As I rv As.length S0 S' p' σ' → eqp (lF rv) σ σ' → Q (.inl (some (.inl 1))) κ σ') →
    my_M e d 59 [.inr (.inr (some 39)), .inl (Int32.ofNat k)] κ σ (my_k0 (fun κ2 σ3 => my_W e d mp_58 42 [(0, .inr (.inr (some 39))), (3, .inl (Int32.ofNat k + 1))] [] κ2 σ3 Q) (fun y4 κ5 σ6 => if y4.2 = 13 then (Q (.inl (some (.inl 0))) κ5 σ6) else (False))) := by
  intro f
  induction f with
  | zero => intro k S p σ _ hx; unfold pis at hx; cases hx
  | succ f ih =>
    intro k S p σ hk hx h hod h14 hp2 hQ
    have h42 := itsB_42 hB
    have hrv := h.2.2.1.2
    unfold pis at hx
    cases hpi : pit t n (As.take k) (rwA (As.take k)).length p with
    | inl q => rw [hpi] at hx; cases hx
    | inr v =>
      obtain ⟨a, q⟩ := v
      rw [hpi] at hx
      dsimp only at hx
      have hpre : ∃ r, As = As.take k ++ [a] ++ r := by
        by_cases h0 : tkk t n q = 0
        · rw [if_pos h0] at hx
          exact ⟨[], by rw [List.append_nil]; exact (Sum.inr.inj hx).symm⟩
        · rw [if_neg h0] at hx
          exact pis_pre _ _ _ _ hx
      obtain ⟨r, hr⟩ := hpre
      have htk : (As.take k).length = k := by simp; omega
      have hka : As[k]? = some a := by
        rw [hr, List.append_assoc, List.getElem?_append_right (by omega), htk]
        simp
      have htk1 : As.take (k + 1) = As.take k ++ [a] := by rw [List.take_succ, hka]; rfl
      refine y_59b (k := k) (a := a) (q := q) (i := (rwA (As.take k)).length) ht hκ hd hB hrel hka h hod h14 hpi (fun S' cF cl σ1 hR g1 hod1 h141 hD f1 => ?_)
      rw [my_k0_v, oN_s]
      have f1l : eqp (lF rv) σ σ1 := eqp_mo f1 (fun c j hh => lF_r hrv (by omega) hh)
      have hp21 : pR2 t n As I rv (k + 1) S0 S' q σ1 := ⟨S, a, p, cF, cl, pR2_o f1 (fun c j hh i hi => by unfold rdF nF hdF yF xF at hh; omega) hp2, hka, hpi, hR, hD⟩
      refine ys_58_42_ok ?_
      unfold ys_58_42 ys_58_69
      rw [if_neg (by rw [show (42 : Int32) = Int32.ofNat 42 from rfl, oN_lt (by omega) (by omega)]; omega)]
      have T0 := tcl ht g1.1 0 (y := 0) (by omega) rfl
      refine my_if (fun h0 => ?_) (fun h0 => ?_)
      · have h0 := T0.mp h0
        rw [if_pos h0] at hx
        have hk1 : As.length = k + 1 := by
          have := congrArg List.length (Sum.inr.inj hx)
          simp at this
          omega
        rw [hk1] at hQ
        exact hQ S' q σ1 g1 hod1 hp21 f1l
      · have h0 : ¬ tkk t n q = 0 := fun hh => h0 (T0.mpr hh)
        rw [if_neg h0, ← htk1] at hx
        have e2 : (rwA (As.take k)).length + (riR a).length = (rwA (As.take (k + 1))).length := by rw [htk1, rwA_a, List.length_append]; simp [rwA]
        rw [e2] at hx
        have hlt : k + 1 < As.length := by
          rcases Nat.lt_or_ge (k + 1) As.length with hh | hh
          · exact hh
          · have hxl := pis_len _ _ _ _ hx
            rw [List.take_of_length_le hh] at hxl
            omega
        exact ih (k + 1) S' q σ1 hlt hx g1 hod1 h141 hp21 (fun S'' p' σ' g o pp f' => hQ S'' p' σ' g o pp (eqp_tr f1l f'))
end MCK
