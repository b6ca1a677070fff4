/-! ===== frames by cell and place; the token at hand ===== -/
def eqp (F : Nat → Nat → Prop) (σ σ' : my_S) : Prop := ∀ c k, ¬ F c k → σ'.1 c k = σ.1 c k ∧ σ'.2.1 c k = σ.2.1 c k ∧ σ'.2.2 c k = σ.2.2 c k
theorem eqp_rf {F : Nat → Nat → Prop} {σ : my_S} : eqp F σ σ := fun _ _ _ => ⟨rfl, rfl, rfl⟩
theorem eqp_tr {F : Nat → Nat → Prop} {σ σ' σ'' : my_S} (h1 : eqp F σ σ') (h2 : eqp F σ' σ'') : eqp F σ σ'' := fun c k hc => ⟨(h2 c k hc).1.trans (h1 c k hc).1, (h2 c k hc).2.1.trans (h1 c k hc).2.1, (h2 c k hc).2.2.trans (h1 c k hc).2.2⟩
theorem eqp_mo {F G : Nat → Nat → Prop} {σ σ' : my_S} (h : eqp F σ σ') (hFG : ∀ c k, F c k → G c k) : eqp G σ σ' := fun c k hc => h c k (fun hh => hc (hFG c k hh))
theorem eqp_I {F : Nat → Nat → Prop} {σ σ' : my_S} {a k : Nat} {x : Int32} (h : eqp F σ σ') (ha : F a k) : eqp F σ (my_uI σ' a k x) := fun c j hc => by
  refine ⟨?_, (h c j hc).2.1, (h c j hc).2.2⟩
  rw [← (h c j hc).1, my_uI_1, if_neg (fun hh => hc (by rw [hh.1, hh.2]; exact ha))]
theorem eqp_L {F : Nat → Nat → Prop} {σ σ' : my_S} {a k : Nat} {x : Int64} (h : eqp F σ σ') (ha : F a k) : eqp F σ (my_uL σ' a k x) := fun c j hc => by
  refine ⟨(h c j hc).1, ?_, (h c j hc).2.2⟩
  rw [← (h c j hc).2.1, my_uL_2, if_neg (fun hh => hc (by rw [hh.1, hh.2]; exact ha))]
theorem eqp_A {F : Nat → Nat → Prop} {σ σ' : my_S} {a k : Nat} {x : Option Nat} (h : eqp F σ σ') (ha : F a k) : eqp F σ (my_uA σ' a k x) := fun c j hc => by
  refine ⟨(h c j hc).1, (h c j hc).2.1, ?_⟩
  rw [← (h c j hc).2.2, my_uA_3, if_neg (fun hh => hc (by rw [hh.1, hh.2]; exact ha))]
theorem eqo_p {F : Nat → Prop} {σ σ' : my_S} (h : eqo F σ σ') : eqp (fun c _ => F c) σ σ' := fun c k hc => ⟨by rw [(h c hc).1], by rw [(h c hc).2.1], by rw [(h c hc).2.2]⟩
/-- names and numbers of tokens -/
theorem tk2 {t : Nat → Int32} {n p : Nat} (h : tkk t n p = 2) (ht : txt t n) : p < n ∧ iL (t p) = true ∧ ll t (n - p) p ≤ 8 := by
  unfold tkk at h
  by_cases hp : p < n
  · rw [if_pos hp] at h
    cases h1 : iL (t p) with
    | true =>
      simp only [h1, if_true] at h
      split at h
      · cases h
      · exact ⟨hp, rfl, by omega⟩
    | false =>
      simp only [h1, Bool.false_eq_true, if_false] at h
      split at h
      · split at h <;> cases h
      · split at h
        · split at h
          · cases h
          · split at h <;> cases h
        · split at h
          · have hb := sg_bd (ht.2 p hp)
            have hc := (sg_cl (ht.2 p hp)).1
            rw [h] at hc
            rw [← hc] at hb
            exact absurd hb.1 (by decide)
          · cases h
  · rw [if_neg hp] at h; cases h
theorem tk3 {t : Nat → Int32} {n p : Nat} (h : tkk t n p = 3) (ht : txt t n) : p < n ∧ iL (t p) = false ∧ iD (t p) = true ∧ dl t (n - p) p ≤ 6 := by
  unfold tkk at h
  by_cases hp : p < n
  · rw [if_pos hp] at h
    cases h1 : iL (t p) with
    | true =>
      simp only [h1, if_true] at h
      split at h
      · cases h
      · split at h
        · omega
        · cases h
    | false =>
      simp only [h1, Bool.false_eq_true, if_false] at h
      cases h2 : iD (t p) with
      | true =>
        simp only [h2, if_true] at h
        split at h
        · cases h
        · exact ⟨hp, rfl, rfl, by omega⟩
      | false =>
        simp only [h2, Bool.false_eq_true, if_false] at h
        split at h
        · split at h
          · cases h
          · split at h <;> cases h
        · split at h
          · have hb := sg_bd (ht.2 p hp)
            have hc := (sg_cl (ht.2 p hp)).1
            rw [h] at hc
            rw [← hc] at hb
            exact absurd hb.1 (by decide)
          · cases h
  · rw [if_neg hp] at h; cases h
theorem tk2_N {t : Nat → Int32} {n p : Nat} (h : tkk t n p = 2) (ht : txt t n) : isN (tkm t n p) ∧ wv t n p = nmC (tkm t n p) ∧ nR t p (ll t (n - p) p) = nmR (tkm t n p) ∧ (tkm t n p).length = tkl t n p := by
  obtain ⟨h1, h2, h3⟩ := tk2 h ht
  have hl := ll_lets t (n - p) p
  refine ⟨lw_isN h3 hl, ?_, nR_nm h3 hl, ?_⟩
  · unfold wv; rw [if_pos h1, if_pos h2]; exact nC_nm h3 hl
  · unfold tkm tkl; rw [lw_len, if_pos h1, if_pos h2]
theorem tk3_v {t : Nat → Int32} {n p : Nat} (h : tkk t n p = 3) (ht : txt t n) : (wv t n p).toInt32 = tkv t n p := by
  obtain ⟨h1, h2, h3, h4⟩ := tk3 h ht
  unfold wv tkv
  rw [if_pos h1, h2, if_neg (by decide), if_pos h3, vC_vR _ _ _ h4]
  simp
/-- the class's tokens stand at p -/
def clT (t : Nat → Int32) (n p : Nat) (σ : my_S) : Prop := ∃ j c, tkn t n c σ ∧ j < c ∧ ps t n j = p ∧ σ.1 33 6 = Int32.ofNat j ∧ σ.1 33 8 = Int32.ofNat (tkk t n p) ∧ σ.1 33 9 = Int32.ofNat p ∧ σ.2.1 33 10 = wv t n p ∧ σ.1 33 11 = (wv t n p).toInt32
def nF (c k : Nat) : Prop := c = 33 ∧ (k = 6 ∨ 8 ≤ k)
theorem tkn_o {F : Nat → Nat → Prop} {t : Nat → Int32} {n c : Nat} {σ σ' : my_S} (h : tkn t n c σ) (he : eqp F σ σ') (hF : ∀ c k, F c k → (c = 33 → k ≠ 5) ∧ (c < 35 ∨ 37 < c)) : tkn t n c σ' := by
  obtain ⟨h1, h2, h3, h4, h5⟩ := h
  refine ⟨((he 33 5 (fun hh => (hF _ _ hh).1 rfl rfl)).1).trans h1, h2, h3, fun i hi => ?_, h5⟩
  obtain ⟨a, b, c⟩ := h4 i hi
  exact ⟨((he 35 i (fun hh => by have := (hF _ _ hh).2; omega)).1).trans a, ((he 36 i (fun hh => by have := (hF _ _ hh).2; omega)).1).trans b, ((he 37 i (fun hh => by have := (hF _ _ hh).2; omega)).2.1).trans c⟩
theorem clT_o {F : Nat → Nat → Prop} {t : Nat → Int32} {n p : Nat} {σ σ' : my_S} (h : clT t n p σ) (he : eqp F σ σ') (hF : ∀ c k, F c k → c < 33 ∨ 37 < c) : clT t n p σ' := by
  obtain ⟨j, c, h1, h2, h3, h4, h5, h6, h7, h8⟩ := h
  have g : ∀ k, ¬ F 33 k := fun k hh => by have := hF _ _ hh; omega
  exact ⟨j, c, tkn_o h1 he (fun c k hh => by have := hF _ _ hh; omega), h2, h3, ((he 33 6 (g 6)).1).trans h4, ((he 33 8 (g 8)).1).trans h5, ((he 33 9 (g 9)).1).trans h6, ((he 33 10 (g 10)).2.1).trans h7, ((he 33 11 (g 11)).1).trans h8⟩
theorem clT_le {t : Nat → Int32} {n p : Nat} {σ : my_S} (ht : txt t n) (h : clT t n p σ) : p ≤ n := by
  obtain ⟨j, c, h1, h2, h3, _⟩ := h
  rw [← h3]; exact ps_le ht j
section MYTK
variable {e : my_E} {d : Nat} {κ : my_K} {σ : my_S} {Q : my_O → my_K → my_S → Prop} {t : Nat → Int32} {n p : Nat}
theorem c_55_a {j c : Nat} (h1 : tkn t n c σ) (h2 : j < c) (h4 : σ.1 33 6 = Int32.ofNat j) (hQ : ∀ σ', clT t n (ps t n j) σ' → eqp nF σ σ' → Q (.inl none) κ σ') : ys_55_23 e d κ σ Q := by
  have hc := h1.2.2.1
  unfold ys_55_23
  rw [h4, if_neg (oN_0 (by omega)), if_pos (show Int32.ofNat j < 1501 from (oN_lt (n := 1501) (by omega) (by omega)).mpr (by omega)), oN_n (by omega)]
  have b : my_bd (Int32.ofNat j) 1501 := ⟨by rw [oN_i (by omega)]; omega, by rw [oN_i (by omega)]; omega⟩
  refine ⟨b, b, b, b, ?_⟩
  obtain ⟨a1, a2, a3⟩ := h1.2.2.2.1 j h2
  rw [a1, a2, a3]
  unfold ys_55_95
  have he : eqp nF σ (my_uI (my_uL (my_uI (my_uI σ 33 8 (Int32.ofNat (tkk t n (ps t n j)))) 33 9 (Int32.ofNat (ps t n j))) 33 10 (wv t n (ps t n j))) 33 11 (wv t n (ps t n j)).toInt32) :=
    eqp_I (eqp_L (eqp_I (eqp_I eqp_rf ⟨rfl, by omega⟩) ⟨rfl, by omega⟩) ⟨rfl, by omega⟩) ⟨rfl, by omega⟩
  refine hQ _ ⟨j, c, tkn_o h1 he (fun c k hh => by unfold nF at hh; omega), h2, rfl, ?_, ?_, ?_, ?_, ?_⟩ he
  · simp [my_uI, my_uL, h4]
  · simp [my_uI, my_uL]
  · simp [my_uI, my_uL]
  · simp [my_uI, my_uL]
  · simp [my_uI, my_uL]
/-- the class's next -/
theorem c_55 (h : clT t n p σ) (hQ : ∀ σ', clT t n (nx t n p) σ' → eqp nF σ σ' → Q (.inl none) κ σ') : my_M e (d + 1) 55 [.inr (.inr (some 33))] κ σ Q := by
  obtain ⟨j, c, h1, h2, h3, h4, _⟩ := h
  have hc := h1.2.2.1
  refine ys_55 ?_
  unfold ys_55_0
  rw [h4, h1.1, oN_s]
  refine my_if (fun hh => ?_) (fun hh => ?_)
  · have hj : j + 1 < c := (oN_lt (by omega) (by omega)).mp hh
    have he : eqp nF σ (my_uI σ 33 6 (Int32.ofNat (j + 1))) := eqp_I eqp_rf ⟨rfl, Or.inl rfl⟩
    refine c_55_a (tkn_o h1 he (fun c k hh => by unfold nF at hh; omega)) hj (by simp [my_uI]) (fun σ' g1 g2 => hQ σ' ?_ (eqp_tr he g2))
    rw [← h3]
    exact g1
  · have hj : ¬ j + 1 < c := fun h => hh ((oN_lt (by omega) (by omega)).mpr h)
    have : j = c - 1 := by omega
    have e1 : ps t n j = n := by rw [this]; exact h1.2.2.2.2.2
    refine c_55_a h1 h2 h4 (fun σ' g1 g2 => hQ σ' ?_ g2)
    rw [nx_end (h3.symm.trans e1)]
    rwa [e1] at g1
/-- rewind -/
theorem c_54 {c : Nat} (h1 : tkn t n c σ) (hQ : ∀ σ', clT t n (ps t n 0) σ' → eqp nF σ σ' → Q (.inl none) κ σ') : my_M e (d + 2) 54 [.inr (.inr (some 33))] κ σ Q := by
  have hc := h1.2.2.1
  refine ys_54 ?_
  unfold ys_54_0
  refine ys_55 ?_
  unfold ys_55_0
  have he : eqp nF σ (my_uI σ 33 6 (Int32.ofInt (-1))) := eqp_I eqp_rf ⟨rfl, Or.inl rfl⟩
  have h2 := tkn_o h1 he (fun c k hh => by unfold nF at hh; omega)
  have e6 : (my_uI σ 33 6 (Int32.ofInt (-1))).1 33 6 = Int32.ofInt (-1) := by simp [my_uI]
  rw [h2.1, e6, show Int32.ofInt (-1) + 1 = Int32.ofNat 0 by decide, if_pos ((oN_lt (by omega) (by omega)).mpr (by have := h1.2.1; omega))]
  have he2 : eqp nF σ (my_uI (my_uI σ 33 6 (Int32.ofInt (-1))) 33 6 (Int32.ofNat 0)) := eqp_I he ⟨rfl, Or.inl rfl⟩
  have h3 := tkn_o h1 he2 (fun c k hh => by unfold nF at hh; omega)
  have g6 : (my_uI (my_uI σ 33 6 (Int32.ofInt (-1))) 33 6 (Int32.ofNat 0)).1 33 6 = Int32.ofNat 0 := by rw [my_uI_1, if_pos ⟨rfl, rfl⟩]
  have g0 : 0 < c := h1.2.1
  generalize my_uI (my_uI σ 33 6 (Int32.ofInt (-1))) 33 6 (Int32.ofNat 0) = σ2 at h3 g6 he2 ⊢
  refine c_55_a h3 g0 g6 (fun σ' g1 g2 => ?_)
  rw [my_k0_v]
  exact hQ σ' g1 (eqp_tr he2 g2)
end MYTK
/-- the reference stands at p -/
def rfT (t : Nat → Int32) (n p : Nat) (σ : my_S) : Prop := p ≤ n ∧ txR t n σ ∧ kwR σ ∧ σ.1 498 4 = Int32.ofNat (kR (tkk t n p)) ∧ σ.1 498 5 = Int32.ofNat p ∧ σ.1 498 6 = Int32.ofNat (p + tkl t n p) ∧ (tkk t n p = 2 → σ.2.1 498 8 = nmR (tkm t n p)) ∧ (tkk t n p = 3 → σ.1 498 7 = tkv t n p)
def rnF (c k : Nat) : Prop := c = 498 ∧ 4 ≤ k ∧ k ≤ 8
theorem rfT_o {F : Nat → Nat → Prop} {t : Nat → Int32} {n p : Nat} {σ σ' : my_S} (h : rfT t n p σ) (he : eqp F σ σ') (hF : ∀ c k, F c k → (c = 498 → 8 < k) ∧ c ≠ 499 ∧ c ≠ 500) : rfT t n p σ' := by
  obtain ⟨h1, h2, h3, h4, h5, h6, h7, h8⟩ := h
  have g : ∀ k, k ≤ 8 → ¬ F 498 k := fun k hk hh => by have := (hF _ _ hh).1 rfl; omega
  refine ⟨h1, ⟨((he 498 2 (g 2 (by omega))).1).trans h2.1, fun j hj => ((he 499 j (fun hh => (hF _ _ hh).2.1 rfl)).1).trans (h2.2 j hj)⟩, fun j hj => ((he 500 j (fun hh => (hF _ _ hh).2.2 rfl)).2.1).trans (h3 j hj), ((he 498 4 (g 4 (by omega))).1).trans h4, ((he 498 5 (g 5 (by omega))).1).trans h5, ((he 498 6 (g 6 (by omega))).1).trans h6, fun hh => ((he 498 8 (g 8 (by omega))).2.1).trans (h7 hh), fun hh => ((he 498 7 (g 7 (by omega))).1).trans (h8 hh)⟩
theorem nxR_p {t : Nat → Int32} {n p : Nat} {σ : my_S} (ht : txt t n) (hp : p ≤ n) (hx : txR t n σ) (hw : kwR σ) : rfT t n p (nxR t n p σ) ∧ eqp rnF σ (nxR t n p σ) := by
  have he : eqp rnF σ (nxR t n p σ) := by
    unfold nxR
    simp only
    refine eqp_I ?_ ⟨rfl, by omega, by omega⟩
    have h1 : eqp rnF σ (my_uI (my_uI σ 498 6 (Int32.ofNat p)) 498 5 (Int32.ofNat p)) := eqp_I (eqp_I eqp_rf ⟨rfl, by omega, by omega⟩) ⟨rfl, by omega, by omega⟩
    split
    · split
      · exact eqp_I (eqp_L h1 ⟨rfl, by omega, by omega⟩) ⟨rfl, by omega, by omega⟩
      · split
        · exact eqp_I (eqp_I h1 ⟨rfl, by omega, by omega⟩) ⟨rfl, by omega, by omega⟩
        · exact eqp_I h1 ⟨rfl, by omega, by omega⟩
    · exact h1
  refine ⟨⟨hp, ⟨((he 498 2 (by unfold rnF; omega)).1).trans hx.1, fun j hj => ((he 499 j (by unfold rnF; omega)).1).trans (hx.2 j hj)⟩, fun j hj => ((he 500 j (by unfold rnF; omega)).2.1).trans (hw j hj), ?_, ?_, ?_, ?_, ?_⟩, he⟩
  · rw [← tkR_tok ht]
    unfold nxR
    simp only
    rw [my_uI_1, if_pos ⟨rfl, rfl⟩]
  · unfold nxR
    simp only
    rw [my_uI_1, if_neg (by decide)]
    split
    · split
      · simp [stN, my_uI, my_uL]
      · split
        · simp [stV, my_uI]
        · simp [my_uI]
    · simp [my_uI]
  · unfold nxR
    simp only
    rw [my_uI_1, if_neg (by decide)]
    by_cases h : p < n
    · rw [if_pos h]
      split
      · rename_i h1
        simp [stN, my_uI, my_uL, tkl, h, h1]
      · rename_i h1
        split
        · rename_i h2
          simp [stV, my_uI, tkl, h, h1, h2]
        · simp [my_uI]
    · rw [if_neg h]
      simp [my_uI, tkl, h]
  · intro h2
    obtain ⟨a1, a2, a3⟩ := tk2 h2 ht
    rw [← (tk2_N h2 ht).2.2.1]
    unfold nxR
    simp only
    rw [if_pos a1, if_pos a2]
    simp [stN, my_uI, my_uL]
  · intro h3
    obtain ⟨a1, a2, a3, a4⟩ := tk3 h3 ht
    unfold nxR tkv
    simp only
    rw [if_pos a1, a2, if_neg (by decide), if_pos a3]
    simp [stV, my_uI]
section MYTK2
variable {e : my_E} {d : Nat} {κ : my_K} {σ : my_S} {Q : my_O → my_K → my_S → Prop} {t : Nat → Int32} {n p : Nat}
/-- the reference's next -/
theorem r_218n (ht : txt t n) (h : rfT t n p σ) (hQ : ∀ σ', rfT t n (nx t n p) σ' → eqp rnF σ σ' → Q (.inl none) κ σ') : my_M e (d + 3) 218 [.inr (.inr (some 498))] κ σ Q := by
  obtain ⟨h1, h2, h3, h4, h5, h6, _⟩ := h
  have hq : p + tkl t n p ≤ n := by
    by_cases hp : p < n
    · exact (tkl_bd ht hp).2
    · unfold tkl; rw [if_neg hp]; omega
  refine r_218 ht h2 h3 hq h6 ?_
  obtain ⟨g1, g2⟩ := nxR_p ht (nx_le ht h1).2 h2 h3
  exact hQ _ g1 g2
/-- .. the first token -/
theorem r_218f (ht : txt t n) (hx : txR t n σ) (hw : kwR σ) (h6 : σ.1 498 6 = 0) (hQ : ∀ σ', rfT t n (ps t n 0) σ' → eqp rnF σ σ' → Q (.inl none) κ σ') : my_M e (d + 3) 218 [.inr (.inr (some 498))] κ σ Q := by
  refine r_218 (q := 0) ht hx hw (by omega) h6 ?_
  obtain ⟨g1, g2⟩ := nxR_p ht (ps_le ht 0) hx hw
  exact hQ _ g1 g2
end MYTK2
