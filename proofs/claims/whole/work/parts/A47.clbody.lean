
/-! ===== the class reads items: heads, bodies ===== -/
abbrev Rh := Nat ⊕ (List (List Nat) × List Int32 × Int32 × Nat)
/-- what a head comes to -/
def phd (t : Nat → Int32) (n : Nat) (Nf : List (List Nat)) (fm p : Nat) : Rh := match ppl t n Nf fm p with
  | .inl q => .inl q
  | .inr (L, T, q) => if fm = 2 then (if tkk t n q = 58 then (match tyq t n (nx t n q) with
    | none => .inl (nx t n q)
    | some ty => .inr (L, T, ty, nx t n (nx t n q))) else .inl q)
    else .inr (L, T, 2, q)
theorem pbd_h {t : Nat → Int32} {n : Nat} {nm : List Nat} {Nf : List (List Nat)} {fm i p : Nat} : pbd t n nm Nf fm i p = (match phd t n Nf fm p with
  | .inl q => .inl q
  | .inr (L, T, ty, q) => pb2 t n nm Nf fm i L T ty q) := by
  unfold pbd phd
  cases ppl t n Nf fm p with
  | inl q => rfl
  | inr v =>
    obtain ⟨L, T, q⟩ := v
    simp only []
    unfold pb1
    by_cases h2 : fm = 2
    · rw [if_pos h2, if_pos h2]
      by_cases h5 : tkk t n q = 58
      · rw [if_pos h5, if_pos h5]
        cases tyq t n (nx t n q) with
        | none => rfl
        | some ty => rfl
      · rw [if_neg h5, if_neg h5]
    · rw [if_neg h2, if_neg h2]
/-- the item as its head tells it -/
def iB (I : List It) (cu : Nat) (ty : Int32) (c : Nat) (pt : Nat → Int32) : List It := I.set cu ((itA I cu).1, (itA I cu).2.1, (itA I cu).2.2.1, ty, Int32.ofNat c, pt)
theorem iB_f {I : List It} {cu c : Nat} {ty : Int32} {pt : Nat → Int32} (hcu : cu < I.length) : itA (iB I cu ty c pt) cu = ((itA I cu).1, (itA I cu).2.1, (itA I cu).2.2.1, ty, Int32.ofNat c, pt) ∧ (iB I cu ty c pt).length = I.length := by
  unfold iB
  rw [itA_set hcu, if_pos rfl, List.length_set]
  exact ⟨rfl, rfl⟩
theorem setT_P {I : List It} {cu c : Nat} {ty : Int32} {pt : Nat → Int32} (hcu : cu < I.length) : setT (setP I cu c pt) cu ty = iB I cu ty c pt := by
  have h := (setP_f (c := c) (pt := pt) hcu).1
  unfold setT
  rw [h]
  unfold setP iB
  rw [List.set_set]
theorem iB_P {I : List It} {cu c : Nat} {pt : Nat → Int32} (h : (itA I cu).2.2.2.1 = 2) : setP I cu c pt = iB I cu 2 c pt := by
  unfold setP iB
  rw [h]
section MCB
variable {e : my_E} {d : Nat} {κ : my_K} {σ : my_S} {Q : my_O → my_K → my_S → Prop} {t : Nat → Int32} {n p o : Nat} {I : List It} {w : Bool} {rv cu : Nat} {S : St}
/-- what a head takes -/
def hdF (rv cu c k : Nat) : Prop := yF rv cu c k ∨ (c = rv + 4 + 3 * cu ∧ (k = 5 ∨ (7 ≤ k ∧ k ≤ 14))) ∨ c = rv + 4 + 3 * cu + 1
theorem hdF_x {c k : Nat} (h : xF rv cu c k) : hdF rv cu c k := Or.inl (xF_y h)
theorem hdF_y {c k : Nat} (h : yF rv cu c k) : hdF rv cu c k := Or.inl h
theorem hdF_p {c k : Nat} (h : prF rv cu c k) : hdF rv cu c k := by unfold prF xF at h; unfold hdF yF xF; omega
theorem hdF_w {c k : Nat} (h : wF rv cu c k) : hdF rv cu c k := by unfold wF xF at h; unfold hdF yF xF; omega
theorem lF_h {c k : Nat} (hrv : rv = 108 ∨ rv = 238 ∨ rv = 368) (hcu : cu < 42) (h : hdF rv cu c k) : lF rv c k := by unfold hdF yF xF at h; unfold lF; omega
/-- the types of the parameters are written -/
theorem y_71l {L : List (List Nat)} {LT : Nat → Int32} {T : List Int32} {ls cF0 : Int32} (hcu : cu < I.length) (hd : 3 ≤ d) (hnp : (itA I cu).2.2.2.2.1 = Int32.ofNat T.length) (hT4 : T.length ≤ 4) (hpt : ∀ j x, T[j]? = some x → (itA I cu).2.2.2.2.2 j = x) : ∀ (m k : Nat) (S : St) (σ : my_S), k + m = T.length → CR t n L LT I w rv cu S p o σ → CU I rv cu 0 ls [] cF0 σ →
    (∀ σ', CR t n L LT I w rv cu (wr w 0 3 (wr w (itA I cu).2.2.2.1 1 (wpt w (T.drop k) S))) p o σ' → CU I rv cu 0 ls [] (Int32.ofNat (wr w 0 3 (wr w (itA I cu).2.2.2.1 1 (wpt w (T.drop k) S))).2.2.1.length) σ' → eqp (fun c k => xF rv cu c k ∨ (c = rv + 4 + 3 * cu ∧ k = 12)) σ σ' → Q (.inl none) κ σ') → ys_71_97 e d (Int32.ofNat k) κ σ Q := by
  intro m
  induction m with
  | zero =>
    intro k S σ hk h hU hQ
    have h0 := CR_0 h
    have hrv := C0_rv h0
    have hc42 := C0_c h0
    obtain ⟨_, _, _, b3, _, b5, b6, _⟩ := CIm_it (C0_im h0) hcu
    unfold ys_71_97
    refine ⟨_, C0_2 h0, C0_11 h0, ?_⟩
    rw [b6, hnp, if_neg (by rw [oN_lt (by omega) (by omega)]; omega)]
    refine ⟨_, C0_2 h0, C0_11 h0, ?_⟩
    rw [b5]
    rw [List.drop_of_length_le (by omega)] at hQ
    refine x_67 (k := 1) h (by omega) (by omega) rfl (fun σ1 g1 f1 => ?_)
    rw [my_k0_v]
    refine x_67 (k := 3) g1 (by omega) (by omega) rfl (fun σ2 g2 f2 => ?_)
    rw [my_k0_v]
    have g0 := CR_0 g2
    refine ⟨_, C0_1 g0, C0_10 g0, _, C0_2 g0, C0_11 g0, ?_⟩
    rw [C0_sz g0]
    obtain ⟨g3, f3⟩ := C0_w (k := 12) (x := Int32.ofNat (wr w 0 3 (wr w (itA I cu).2.2.2.1 1 S)).2.2.1.length) g0 (by omega)
    have hU2 := CU_x h hU (eqp_tr f1 f2)
    refine hQ _ (CR_f g2 g3 f3 (fun c k hh => by omega)) ?_ (eqp_tr (eqp_mo (eqp_tr f1 f2) (fun _ _ => Or.inl)) (eqp_mo f3 (fun _ _ => Or.inr)))
    obtain ⟨u1, u2, ⟨u3, u4, u5⟩, u6, u7, u8⟩ := hU2
    have h42 := h.2.2.1.2.2.2.2.1
    exact ⟨(eqp_g f3 (by omega)).trans u1, (eqp_g f3 (by omega)).trans u2, ⟨(eqp_g f3 (by omega)).trans u3, u4, fun j x hj => (eqp_g f3 (by omega)).trans (u5 j x hj)⟩, uI_s, fun k hk => (eqp_g f3 (by omega)).trans (u7 k hk), u8⟩
  | succ m ih =>
    intro k S σ hk h hU hQ
    have h0 := CR_0 h
    have hrv := C0_rv h0
    have hc42 := C0_c h0
    obtain ⟨_, _, _, b3, _, b5, b6, _⟩ := CIm_it (C0_im h0) hcu
    have hkl : k < T.length := by omega
    unfold ys_71_97
    refine ⟨_, C0_2 h0, C0_11 h0, ?_⟩
    rw [b6, hnp, if_pos (by rw [oN_lt (by omega) (by omega)]; omega)]
    refine ⟨_, C0_2 h0, C0_11 h0, ?_⟩
    refine x_207 h.2.2.1 (by omega) hcu (by omega) ?_
    rw [my_kI_v]
    have hp : pty I (some cu) k = T[k] := by
      unfold pty
      simp only []
      rw [hnp, if_pos ((oN_lt (by omega) (by omega)).mpr hkl), if_pos (by omega)]
      exact hpt k _ (List.getElem?_eq_getElem hkl)
    rw [hp]
    refine x_67 (k := 1) h (by omega) (by omega) rfl (fun σ1 g1 f1 => ?_)
    rw [my_k0_v, oN_s]
    rw [List.drop_eq_getElem_cons hkl] at hQ
    exact ys_71_97_ok (ih (k + 1) _ σ1 (by omega) g1 (CU_x h hU f1) (fun σ' g u f => hQ σ' g u (eqp_tr (eqp_mo f1 (fun _ _ => Or.inl)) f)))
/-- from the bytes on -/
theorem y_71b {L : List (List Nat)} {LT : Nat → Int32} {T : List Int32} {ls cF0 : Int32} {fm : Nat} (hcu : cu < I.length) (hd : 4 ≤ d) (hform : (itA I cu).2.1 = Int32.ofNat fm) (hnp : (itA I cu).2.2.2.2.1 = Int32.ofNat T.length) (hT4 : T.length ≤ 4) (hpt : ∀ j x, T[j]? = some x → (itA I cu).2.2.2.2.2 j = x) (h : CR t n L LT I w rv cu (nd0 S) p o σ) (hU : CU I rv cu 0 ls [] cF0 σ)
    (hQ : ∀ σ', CR t n L LT I w rv cu (hSt w (Int32.ofNat fm) T (itA I cu).2.2.2.1 S) p o σ' → CU I rv cu 0 ls [] (Int32.ofNat (hSt w (Int32.ofNat fm) T (itA I cu).2.2.2.1 S).2.2.1.length) σ' → σ'.1 (rv + 4 + 3 * cu) 10 = Int32.ofNat S.2.2.1.length → eqp (hdF rv cu) σ σ' → Q (.inl none) κ σ') : ys_71_79 e d κ σ Q := by
  have h0 := CR_0 h
  have hrv := C0_rv h0
  have hc42 := C0_c h0
  unfold ys_71_79
  refine z_66 h0 hcu (by omega) (fun σ1 g1 e10 f1 => ?_)
  rw [my_k0_v]
  have g1' := CR_f h g1 f1 (fun c k hh => by unfold bF xF at hh; omega)
  have h42 := h.2.2.1.2.2.2.2.1
  have hU1 := CU_f hU rfl h42 f1 (fun c k hh => by unfold bF xF at hh; exact ⟨by omega, by omega, fun j hj => by omega, by omega⟩)
  refine ⟨_, C0_2 g1, C0_11 g1, ?_⟩
  obtain ⟨_, _, _, _, _, _, b6, _⟩ := CIm_it (C0_im g1) hcu
  rw [b6, hnp]
  refine x_67 (k := 1) g1' (by omega) (by omega) rfl (fun σ2 g2 f2 => ?_)
  rw [my_k0_v]
  refine ys_71_97_ok (y_71l hcu (by omega) hnp hT4 hpt T.length 0 _ σ2 (by omega) g2 (CU_x g1' hU1 f2) (fun σ3 g3 u3 f3 => ?_))
  rw [List.drop_zero, hform] at g3 u3
  refine hQ σ3 g3 u3 ?_ (eqp_tr (eqp_tr (eqp_mo f1 (fun c k hh => by unfold bF xF at hh; unfold hdF yF xF; omega)) (eqp_mo f2 (fun _ _ => hdF_x))) (eqp_mo f3 (fun c k hh => by unfold xF at hh; unfold hdF yF xF; omega)))
  rw [eqp_g f3 (by unfold xF; omega), eqp_g f2 (by unfold xF; omega), e10]
  rfl
/-- a head -/
theorem y_71 {fm : Nat} {Nf : List (List Nat)} (ht : txt t n) (hκ : 1 ≤ κ.2.1 ∧ 6 ≤ κ.2.2) (hd : 12 ≤ d) (hfm : fm = 2 ∨ fm = 3 ∨ fm = 4) (hcu : cu < I.length) (hNf : nF0 I cu = Nf) (hform : (itA I cu).2.1 = Int32.ofNat fm) (hty2 : fm ≠ 2 → (itA I cu).2.2.2.1 = 2) (h : CR0 t n I w rv cu S p 0 σ) (hod : ∀ k, k < I.length → σ.1 (rv + 4 + 3 * k) 3 = Int32.ofNat k)
    (hf : ∀ q, phd t n Nf fm p = .inl q → fL κ Q t n rv σ q)
    (hQ : ∀ L T ty q pt LT σ', phd t n Nf fm p = .inr (L, T, ty, q) → ptI I cu T pt LT → CR t n L LT (iB I cu ty T.length pt) w rv cu (hSt w (Int32.ofNat fm) T ty S) q 0 σ' → CU (iB I cu ty T.length pt) rv cu 0 (Int32.ofInt (-1)) [] (Int32.ofNat (hSt w (Int32.ofNat fm) T ty S).2.2.1.length) σ' → σ'.1 (rv + 4 + 3 * cu) 10 = Int32.ofNat S.2.2.1.length → eqp (hdF rv cu) σ σ' → Q (.inl none) κ σ') : my_M e d 71 [.inr (.inr (some 39))] κ σ Q := by
  obtain ⟨d, rfl⟩ := dS 1 (show 1 ≤ d by omega)
  have hrv := C0_rv h
  have hc42 := C0_c h
  have h42 := (C0_im h).2.1
  obtain ⟨_, b1, b2, b3, b4, b5, b6, b7⟩ := CIm_it (C0_im h) hcu
  refine ys_71 ?_
  unfold ys_71_0
  refine ⟨_, C0_2 h, C0_11 h, _, C0_2 h, C0_11 h, _, C0_2 h, C0_11 h, ?_⟩
  have he : eqp (fun c k => (c = 39 ∧ (k = 8 ∨ k = 10 ∨ k = 13 ∨ k = 11)) ∨ (c = rv + 4 + 3 * cu ∧ (k = 14 ∨ k = 5))) σ (my_uI (my_uI (my_uI (my_uI (my_uI (my_uI σ 39 8 0) 39 10 0) 39 13 0) 39 11 (Int32.ofInt (-1))) (rv + 4 + 3 * cu) 14 0) (rv + 4 + 3 * cu) 5 0) := eqp_I (eqp_I (eqp_I (eqp_I (eqp_I (eqp_I eqp_rf (by omega)) (by omega)) (by omega)) (by omega)) (by omega)) (by omega)
  have v8 : (my_uI (my_uI (my_uI (my_uI (my_uI (my_uI σ 39 8 0) 39 10 0) 39 13 0) 39 11 (Int32.ofInt (-1))) (rv + 4 + 3 * cu) 14 0) (rv + 4 + 3 * cu) 5 0).1 39 8 = 0 := by rw [uI_o (by omega), uI_o (by omega), my_uI_1, if_neg (by omega), my_uI_1, if_neg (by omega), my_uI_1, if_neg (by omega), uI_s]
  have v10 : (my_uI (my_uI (my_uI (my_uI (my_uI (my_uI σ 39 8 0) 39 10 0) 39 13 0) 39 11 (Int32.ofInt (-1))) (rv + 4 + 3 * cu) 14 0) (rv + 4 + 3 * cu) 5 0).1 39 10 = 0 := by rw [uI_o (by omega), uI_o (by omega), my_uI_1, if_neg (by omega), my_uI_1, if_neg (by omega), uI_s]
  have v13 : (my_uI (my_uI (my_uI (my_uI (my_uI (my_uI σ 39 8 0) 39 10 0) 39 13 0) 39 11 (Int32.ofInt (-1))) (rv + 4 + 3 * cu) 14 0) (rv + 4 + 3 * cu) 5 0).1 39 13 = 0 := by rw [uI_o (by omega), uI_o (by omega), my_uI_1, if_neg (by omega), uI_s]
  have v11 : (my_uI (my_uI (my_uI (my_uI (my_uI (my_uI σ 39 8 0) 39 10 0) 39 13 0) 39 11 (Int32.ofInt (-1))) (rv + 4 + 3 * cu) 14 0) (rv + 4 + 3 * cu) 5 0).1 39 11 = Int32.ofInt (-1) := by rw [uI_o (by omega), uI_o (by omega), uI_s]
  have v14 : (my_uI (my_uI (my_uI (my_uI (my_uI (my_uI σ 39 8 0) 39 10 0) 39 13 0) 39 11 (Int32.ofInt (-1))) (rv + 4 + 3 * cu) 14 0) (rv + 4 + 3 * cu) 5 0).1 (rv + 4 + 3 * cu) 14 = 0 := by rw [my_uI_1, if_neg (by omega), uI_s]
  have v5 : (my_uI (my_uI (my_uI (my_uI (my_uI (my_uI σ 39 8 0) 39 10 0) 39 13 0) 39 11 (Int32.ofInt (-1))) (rv + 4 + 3 * cu) 14 0) (rv + 4 + 3 * cu) 5 0).1 (rv + 4 + 3 * cu) 5 = 0 := uI_s
  generalize my_uI (my_uI (my_uI (my_uI (my_uI (my_uI σ 39 8 0) 39 10 0) 39 13 0) 39 11 (Int32.ofInt (-1))) (rv + 4 + 3 * cu) 14 0) (rv + 4 + 3 * cu) 5 0 = σ1 at he v8 v10 v13 v11 v14 v5 ⊢
  have fh : eqp (hdF rv cu) σ σ1 := eqp_mo he (fun c k hh => by unfold hdF yF xF; omega)
  have fl : eqp (lF rv) σ σ1 := eqp_mo fh (fun c k hh => lF_h hrv hc42 hh)
  have g0 : CR0 t n (setP I cu 0 (itA I cu).2.2.2.2.2) w rv cu (nd0 S) p 0 σ1 := by
    obtain ⟨h1, h2, ⟨a1, a2, ⟨a3, a4, a5, a6⟩, a7⟩, ⟨c1, c2, ⟨c3, c4, c5⟩, _⟩⟩ := h
    exact ⟨clT_o h1 he (fun c k hh => by omega), (eqp_g he (by omega)).trans h2, ⟨(eqp_g he (by omega)).trans a1, a2, ⟨((he _ _ (by omega)).2.2).trans a3, a4, ((he _ _ (by omega)).2.2).trans a5, a6⟩, CIm_set a7 he (fun c k hh => ⟨by omega, by omega, fun j hj hjc => ⟨by omega, by omega⟩⟩) ⟨b1, ((he _ _ (by omega)).2.1).trans b2, (eqp_g he (by omega)).trans b3, (eqp_g he (by omega)).trans b4, (eqp_g he (by omega)).trans b5, v5, fun j hj => (eqp_g he (by omega)).trans (b7 j hj)⟩⟩, ⟨(eqp_g he (by omega)).trans c1, (eqp_g he (by omega)).trans c2, ⟨(eqp_g he (by omega)).trans c3, c4, fun i x hx => (eqp_g he (by omega)).trans (c5 i x hx)⟩, ⟨v14, by simp [nd0], fun i x hx => by simp [nd0] at hx⟩⟩⟩
  have gL : CLc [] (fun j => σ1.1 41 j) σ1 := ⟨v8, by simp, by simp, fun j l hj => by simp at hj, fun j _ => rfl⟩
  have g1 := CR_of g0 gL
  have hsl := (setP_f (c := 0) (pt := (itA I cu).2.2.2.2.2) hcu).2
  have hU1 : CU (setP I cu 0 (itA I cu).2.2.2.2.2) rv cu 0 (Int32.ofInt (-1)) [] (σ1.1 (rv + 4 + 3 * cu) 12) σ1 := ⟨v10, v11, ⟨v13, by simp, fun j x hj => by simp at hj⟩, rfl, fun k hk => by rw [hsl] at hk; exact (eqp_g he (by omega)).trans (hod k hk), by omega⟩
  have e0 : σ1.1 (rv + 4 + 3 * cu) 0 = Int32.ofNat fm := ((eqp_g he (by omega)).trans b3).trans hform
  rw [e0]
  unfold phd at hf hQ
  -- behind the parameters
  have e51 : ∀ (L : List (List Nat)) (T : List Int32) (q : Nat) (pt LT : Nat → Int32) (σ2 : my_S), ppl t n Nf fm p = .inr (L, T, q) → T.length ≤ 4 → ptI I cu T pt LT → CR t n L LT (setP I cu T.length pt) w rv cu (nd0 S) q 0 σ2 → CU (setP I cu T.length pt) rv cu 0 (Int32.ofInt (-1)) [] (σ1.1 (rv + 4 + 3 * cu) 12) σ2 → eqp (hdF rv cu) σ σ2 → ys_71_51 e d κ σ2 Q := fun L T q pt LT σ2 hpp hT4 hp g2 u2 f2 => by
    have g20 := CR_0 g2
    have hsf := (setP_f (c := T.length) (pt := pt) hcu).1
    have hsl2 := (setP_f (c := T.length) (pt := pt) hcu).2
    have hcuS : cu < (setP I cu T.length pt).length := by omega
    have bS := CIm_it (C0_im g20) hcuS
    have e0' : σ2.1 (rv + 4 + 3 * cu) 0 = Int32.ofNat fm := by rw [bS.2.2.2.1, hsf]; exact hform
    rw [hpp] at hf hQ
    dsimp only at hf hQ
    unfold ys_71_51
    refine ⟨_, C0_2 g20, C0_11 g20, ?_⟩
    rw [e0']
    by_cases h2 : fm = 2
    · subst h2
      rw [if_pos rfl] at hf hQ
      rw [if_pos (by decide)]
      refine x_62 (k := 58) ht g2 (by omega) hκ (by omega) rfl (fun h58 σ3 g3 f3 => ?_) (fun h58 => ?_)
      · rw [my_k0_v]
        rw [if_pos h58] at hf hQ
        refine z_63 ht (CR_0 g3) (by omega) hκ (fun ty σ4 hty g4 f4 => ?_) (fun hty => ?_)
        · rw [my_kI_v]
          rw [hty] at hQ
          refine ⟨_, C0_2 (CR_0 g3), C0_11 (CR_0 g3), ?_⟩
          have g4' := CR_f g3 g4 f4 (fun c k hh => xF_l hrv hh)
          obtain ⟨g5, f5⟩ := C0_ty (ty := ty) g4 hcuS
          rw [setT_P hcu] at g5
          have g5' := CR_f g4' g5 f5 (fun c k hh => by omega)
          have hbf := iB_f (I := I) (cu := cu) (ty := ty) (c := T.length) (pt := pt) hcu
          have hU5 : CU (iB I cu ty T.length pt) rv cu 0 (Int32.ofInt (-1)) [] (σ1.1 (rv + 4 + 3 * cu) 12) (my_uI σ4 (rv + 4 + 3 * cu) 7 ty) := CU_f (CU_x g2 u2 (eqp_tr f3 f4)) (by rw [hbf.2, hsl2]) (by rw [hsl2]; exact h42) f5 (fun c k hh => ⟨by omega, by omega, fun j hj => by omega, by omega⟩)
          have f25 : eqp (hdF rv cu) σ (my_uI σ4 (rv + 4 + 3 * cu) 7 ty) := eqp_tr (eqp_tr f2 (eqp_mo (eqp_tr f3 f4) (fun _ _ => hdF_x))) (eqp_mo f5 (fun c k hh => by unfold hdF yF xF; omega))
          have hcuB : cu < (iB I cu ty T.length pt).length := by omega
          refine y_71b (T := T) (fm := 2) hcuB (by omega) (by rw [hbf.1]; exact hform) (by rw [hbf.1]) hT4 (fun j x hj => by rw [hbf.1]; exact hp.1 j x hj) g5' hU5 (fun σ6 g6 u6 e10 f6 => ?_)
          rw [hbf.1] at g6 u6
          exact hQ L T ty _ pt LT σ6 rfl hp g6 u6 e10 (eqp_tr f25 f6)
        · rw [hty] at hf
          exact fL_mo (hf _ rfl) (eqp_mo f2 (fun c k hh => lF_h hrv hc42 hh)) σ3 g3.1 (eqp_mo f3 (fun c k hh => lF_x hrv hc42 hh))
      · rw [if_neg h58] at hf
        exact hf _ rfl σ2 g2.1 (eqp_mo f2 (fun c k hh => lF_h hrv hc42 hh))
    · rw [if_neg h2] at hQ
      rw [if_neg (fun hh => h2 (by have := (oN_e (a := fm) (b := 2) (by omega) (by omega)).mp hh; omega))]
      rw [iB_P (hty2 h2)] at g2 u2
      have hbf := iB_f (I := I) (cu := cu) (ty := 2) (c := T.length) (pt := pt) hcu
      have hcuB : cu < (iB I cu 2 T.length pt).length := by omega
      refine y_71b (T := T) (fm := fm) hcuB (by omega) (by rw [hbf.1]; exact hform) (by rw [hbf.1]) hT4 (fun j x hj => by rw [hbf.1]; exact hp.1 j x hj) g2 u2 (fun σ6 g6 u6 e10 f6 => ?_)
      rw [hbf.1] at g6 u6
      exact hQ L T 2 q pt LT σ6 rfl hp g6 u6 e10 (eqp_tr f2 f6)
  by_cases h4 : fm = 4
  · subst h4
    rw [if_pos (by decide)]
    exact e51 [] [] p (itA I cu).2.2.2.2.2 _ σ1 (by unfold ppl; rw [if_pos rfl]) (by simp) ⟨fun j x hj => by simp at hj, fun j x hj => by simp at hj, fun j _ => rfl⟩ g1 hU1 fh
  · rw [if_neg (fun hh => h4 (by have := (oN_e (a := fm) (b := 4) (by omega) (by omega)).mp hh; omega))]
    have hB := ppl_B (Nf := Nf) (fm := fm) ht (clT_le ht h.1)
    refine y_72 (fm := fm) (I0 := I) (Nf := Nf) ht hκ (by omega) h4 hcu hNf (fun _ => rfl) g1 hU1 (fun q hq => ?_) (fun L T q pt LT σ2 hx g2 u2 hp f2 => ?_)
    · rw [hq] at hf
      exact fL_mo (hf q rfl) fl
    · rw [my_k0_v]
      exact e51 L T q pt LT σ2 hx ((hB.2 L T q hx).2.2.2.1) hp g2 u2 (eqp_tr fh (eqp_mo f2 (fun _ _ => hdF_p)))
/-- what a body makes -/
def bdR (t : Nat → Int32) (n : Nat) (w : Bool) (I : List It) (cu fm : Nat) (Nf : List (List Nat)) (S : St) (p : Nat) (a : Ri) (q : Nat) (I' : List It) (S' : St) (cF : Int32) (cl : Int32) : Prop :=
  ∃ (L : List (List Nat)) (T : List Int32) (ty : Int32) (q1 q2 : Nat) (pt LT LT' : Nat → Int32) (c' : Nat) (B' : List Int32) (S2 : St), phd t n Nf fm p = .inr (L, T, ty, q1) ∧ tkk t n q1 = 123 ∧ I' = iB I cu ty T.length pt ∧ ptI I cu T pt LT ∧ cF = Int32.ofNat (hSt w (Int32.ofNat fm) T ty S).2.2.1.length ∧ cst t n fm ty cF I' w Nf 3002 0 (nx t n q1) 1 L LT 0 (Int32.ofInt (-1)) [] (hSt w (Int32.ofNat fm) T ty S) = some (.inr (q2, riL a, LT', c', B', S2)) ∧ q = nx t n q2 ∧ S' = tSt w I' fm ty cF (riL a).length S2 ∧ cl = cpl cF (tcS w fm ty S2) ∧ riT a = ty ∧ riQ a = T ∧ (∀ x ∈ S2.2.2.2, x < I'.length)
theorem hSt_N {fm ty : Int32} {T : List Int32} : (hSt w fm T ty S).2.2.2 = [] := by
  unfold hSt
  rw [wr_N, wr_N]
  have : ∀ (T : List Int32) (S : St), (wpt w T S).2.2.2 = S.2.2.2 := fun T => by
    induction T with
    | nil => intro S; rfl
    | cons x T ih => intro S; rw [wpt, ih, wr_N]
  rw [this, wr_N, wr_N]
  rfl
/-- a body -/
theorem y_bd {fm i : Nat} {nm : List Nat} {Nf : List (List Nat)} (ht : txt t n) (hκ : 1 ≤ κ.2.1 ∧ 6 ≤ κ.2.2) (hd : 180 ≤ d) (hfm : fm = 2 ∨ fm = 3 ∨ fm = 4) (hcu : cu < I.length) (hNf : nF0 I cu = Nf) (hform : (itA I cu).2.1 = Int32.ofNat fm) (hty2 : fm ≠ 2 → (itA I cu).2.2.2.1 = 2) (h : CR0 t n I w rv cu S p 0 σ) (hS6 : S.2.2.1.length ≤ 6144) (hod : ∀ k, k < I.length → σ.1 (rv + 4 + 3 * k) 3 = Int32.ofNat k)
    (hf : ∀ q, pbd t n nm Nf fm i p = .inl q → fL κ Q t n rv σ q)
    (hQ : ∀ a q I' S' cF cl σ', pbd t n nm Nf fm i p = .inr (a, q) → bdR t n w I cu fm Nf S p a q I' S' cF cl → CR0 t n I' w rv cu S' q 0 σ' → σ'.1 (rv + 4 + 3 * cu) 9 = Int32.ofNat (riL a).length → σ'.1 (rv + 4 + 3 * cu) 10 = Int32.ofNat S.2.2.1.length → σ'.1 (rv + 4 + 3 * cu) 11 = Int32.ofNat S'.2.2.1.length - Int32.ofNat S.2.2.1.length → σ'.1 (rv + 4 + 3 * cu) 12 = cF → σ'.1 (rv + 4 + 3 * cu) 13 = cl → eqp (hdF rv cu) σ σ' → Q (.inl none) κ σ') : my_M e d 71 [.inr (.inr (some 39))] κ σ (my_k0 (fun κ8 σ9 => my_M e d 76 [.inr (.inr (some 39))] κ8 σ9 (my_k0 (fun κ11 σ12 => my_M e d 99 [.inr (.inr (some 39))] κ11 σ12 (my_k0 (fun κ14 σ15 => Q (.inl none) κ14 σ15) (fun y16 κ17 σ18 => Q (.inr y16) κ17 σ18))) (fun y19 κ20 σ21 => Q (.inr y19) κ20 σ21))) (fun y22 κ23 σ24 => Q (.inr y22) κ23 σ24)) := by
  have hrv := C0_rv h
  have hc42 := C0_c h
  have hn := ht.1
  rw [pbd_h] at hf hQ
  refine y_71 (fm := fm) (Nf := Nf) ht hκ (by omega) hfm hcu hNf hform hty2 h hod (fun q hq => ?_) (fun L T ty q1 pt LT σ1 hx hp g1 u1 e10 f1 => ?_)
  · rw [hq] at hf
    exact hf q rfl
  rw [my_k0_v]
  rw [hx] at hf hQ
  dsimp only at hf hQ
  have fl1 : eqp (lF rv) σ σ1 := eqp_mo f1 (fun c k hh => lF_h hrv hc42 hh)
  have hbf := iB_f (I := I) (cu := cu) (ty := ty) (c := T.length) (pt := pt) hcu
  have hcuB : cu < (iB I cu ty T.length pt).length := by omega
  have hNfB : nF0 (iB I cu ty T.length pt) cu = Nf := by unfold iB; refine Eq.trans (nF0_set hcu ?_) hNf; rfl
  have hL10 : L.length ≤ 10 := g1.2.2.1.2.1.2.1
  have hq1 := clT_le ht g1.1
  have hlen := g1.2.2.2.2.2.1.2.1
  have hcf : cfP (Int32.ofNat (hSt w (Int32.ofNat fm) T ty S).2.2.1.length) (hSt w (Int32.ofNat fm) T ty S) := ⟨_, rfl, Nat.le_refl _, hlen⟩
  have hls : lsP (Int32.ofInt (-1)) none := ⟨fun _ => rfl, fun _ => rfl⟩
  have iB' := (CST (e := e) (κ := κ) (t := t) (n := n) (I := iB I cu ty T.length pt) (w := w) (rv := rv) (cu := cu) (fm := fm) (cF := Int32.ofNat (hSt w (Int32.ofNat fm) T ty S).2.2.1.length) ht hκ hfm (by rw [hbf.1]; exact hform) 3002).2
  have hity : (itA (iB I cu ty T.length pt) cu).2.2.2.1 = ty := by rw [hbf.1]
  unfold pb2 pblk at hf hQ
  by_cases c1 : tkk t n q1 = 123 ∧ 0 < 12
  · rw [if_pos c1] at hf hQ
    have bp := nx_b (p := q1) ht (by omega)
    have hne := pS_n (fm := fm) (Nf := Nf) (o := 0 + 1) (i := i) (ck := 0) (lp := none) (L := L) ht (p := nx t n q1) bp.2.2 hL10
    have hsm := cst_s (t := t) (n := n) (I := iB I cu ty T.length pt) (w := w) (fm := fm) (ity := ty) (cF := Int32.ofNat (hSt w (Int32.ofNat fm) T ty S).2.2.1.length) (Nf := Nf) ht 3002 0 (nx t n q1) (0 + 1) i L LT 0 (Int32.ofInt (-1)) none [] (hSt w (Int32.ofNat fm) T ty S) hls hcf
    have hmk := cst_mk (t := t) (n := n) (I := iB I cu ty T.length pt) (w := w) (fm := fm) (ity := ty) (cF := Int32.ofNat (hSt w (Int32.ofNat fm) T ty S).2.2.1.length) (Nf := Nf) 3002 0 (nx t n q1) (0 + 1) L LT 0 (Int32.ofInt (-1)) [] (hSt w (Int32.ofNat fm) T ty S)
    cases hxs : pS t n fm Nf 0 (nx t n q1) (0 + 1) i L 0 none with
    | none => exact absurd hxs hne
    | some res =>
      rw [hxs] at hf hQ
      have hsm' : smv (cst t n fm ty (Int32.ofNat (hSt w (Int32.ofNat fm) T ty S).2.2.1.length) (iB I cu ty T.length pt) w Nf 3002 0 (nx t n q1) (0 + 1) L LT 0 (Int32.ofInt (-1)) [] (hSt w (Int32.ofNat fm) T ty S)) (some res) := by
        have := hsm
        rw [show pst t n fm Nf 3002 0 (nx t n q1) (0 + 1) i L 0 none = some res from hxs] at this
        exact this
      rcases hsm' with ⟨_, hh⟩ | ⟨q, hc, hh⟩ | ⟨q2, L', LT', c', B', S2, r, b, hc, hh⟩
      · cases hh
      · cases hh
        refine y_76 (k := fun v => some (.inr v)) (res := .inl q) ht hκ iB' (by unfold cblk; rw [if_pos c1, hity, hNfB, hc]; rfl) g1 u1 hcf (by omega) (by omega) (fun q' hq' => ?_) (fun v σ' hk => by cases hk)
        cases hq'
        intro σ' g' f'
        exact hf q rfl σ' g' (eqp_tr fl1 (eqp_mo f' (fun c k hh => lF_y hrv hc42 hh)))
      · cases hh
        refine y_76 (k := fun v => some (.inr v)) (res := .inr (nx t n q2, L', LT', c', B', S2)) ht hκ iB' (by unfold cblk; rw [if_pos c1, hity, hNfB, hc]; rfl) g1 u1 hcf (by omega) (by omega) (fun q' hq' => by cases hq') (fun v σ2 hk hml _ g2 f2 => ?_)
        cases hk
        rw [my_k0_v]
        obtain ⟨g2, u2⟩ := g2
        have g20 := CR_0 g2
        have f02 : eqp (hdF rv cu) σ σ2 := eqp_tr f1 (eqp_mo f2 (fun _ _ => hdF_y))
        have hNN : ∀ x ∈ S2.2.2.2, x < (iB I cu ty T.length pt).length := (hmk _ hc).1 (by rw [hSt_N]; simp)
        refine y_99 (fm := fm) (nl := L'.length) (ty := ty) (b0 := S.2.2.1.length) g20 hcuB (by omega) hfm (by rw [hbf.1]; exact hform) hity g2.2.2.1.2.1.1 u2.2.2.2.1 ((eqp_g f2 (by unfold yF xF; omega)).trans e10) hNN (fun σ3 g3 w9 w10 w11 w12 w13 f3 => ?_)
        rw [my_k0_v]
        refine hQ _ _ _ _ _ _ σ3 rfl ⟨L, T, ty, q1, q2, pt, LT, LT', c', B', S2, hx, c1.1, rfl, hp, rfl, hc, rfl, rfl, rfl, rfl, rfl, hNN⟩ g3 w9 w10 w11 w12 w13 (eqp_tr f02 (eqp_mo f3 (fun _ _ => hdF_w)))
  · rw [if_neg c1] at hf
    refine y_76 (k := fun v => some (.inr v)) (res := .inl q1) ht hκ iB' (by unfold cblk; rw [if_neg c1]) g1 u1 hcf (by omega) (by omega) (fun q' hq' => ?_) (fun v σ' hk => by cases hk)
    cases hq'
    intro σ' g' f'
    exact hf q1 rfl σ' g' (eqp_tr fl1 (eqp_mo f' (fun c k hh => lF_y hrv hc42 hh)))
end MCB
