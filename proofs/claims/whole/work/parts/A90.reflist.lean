
/-! ===== the reference's listing: signs and names ===== -/
def RLs (Z : List Int32) (σ : my_S) : Prop := σ.1 498 132 = Int32.ofNat Z.length ∧ ∀ i x, Z[i]? = some x → σ.1 576 i = x
def lsF (c k : Nat) : Prop := c = 576 ∨ (c = 498 ∧ k = 132)
section MLS
variable {e : my_E} {d : Nat} {κ : my_K} {σ : my_S} {Q : my_O → my_K → my_S → Prop} {Z : List Int32} {l : List Nat}
theorem w_359 {v : Int32} (h : RLs Z σ) (hl : Z.length < 40000) (hd : 1 ≤ d) (hQ : ∀ σ', RLs (Z ++ [v]) σ' → eqp lsF σ σ' → Q (.inl none) κ σ') : my_M e d 359 [.inr (.inr (some 498)), .inl v] κ σ Q := by
  obtain ⟨d, rfl⟩ := dS 1 hd
  refine ys_359 ?_
  unfold ys_359_0
  rw [h.1]
  refine ⟨bdk (by omega) (by omega), ?_⟩
  rw [oN_n (by omega), oN_s]
  refine hQ _ ⟨by rw [uI_s, List.length_append]; rfl, fun i y hi => ?_⟩ (eqp_I (eqp_I eqp_rf (Or.inl rfl)) (Or.inr ⟨rfl, rfl⟩))
  rw [my_uI_1, if_neg (by omega), my_uI_1]
  by_cases hil : i < Z.length
  · rw [List.getElem?_append_left hil] at hi
    rw [if_neg (by omega)]
    exact h.2 i y hi
  · rw [List.getElem?_append_right (by omega)] at hi
    have hi0 : i - Z.length = 0 := by
      by_cases hh : i - Z.length = 0
      · exact hh
      · rw [List.getElem?_eq_none (by simp; omega)] at hi; cases hi
    rw [hi0] at hi
    cases hi
    rw [if_pos (by omega)]
/-- the letters of a name -/
def lts (l : List Nat) : List Int32 := l.map (fun a => Int32.ofNat (a + 96))
theorem w_360l (hl : isN l) (hd : 3 ≤ d) : ∀ (m j : Nat) (Z : List Int32) (σ : my_S), j + m = l.length → RLs Z σ → Z.length + m ≤ 40000 → (∀ σ', RLs (Z ++ lts (l.drop j)) σ' → eqp lsF σ σ' → Q (.inl none) κ σ') → ys_360_2 e d (nmR l) (Int32.ofNat j) κ σ Q := by
  have h8 := hl.2
  intro m
  induction m with
  | zero =>
    intro j Z σ hj h hZ hQ
    unfold ys_360_2
    refine u_278 hl (by omega) ?_
    rw [my_kI_v, if_neg (by rw [oN_lt (by omega) (by omega)]; omega)]
    rw [List.drop_of_length_le (by omega)] at hQ
    exact hQ σ (by rw [show lts [] = [] from rfl, List.append_nil]; exact h) eqp_rf
  | succ m ih =>
    intro j Z σ hj h hZ hQ
    have hjl : j < l.length := by omega
    unfold ys_360_2
    refine u_278 hl (by omega) ?_
    rw [my_kI_v, if_pos (by rw [oN_lt (by omega) (by omega)]; omega)]
    refine u_279 hl hjl (by omega) ?_
    rw [my_kI_v]
    refine w_359 h (by omega) (by omega) (fun σ1 g1 f1 => ?_)
    rw [my_k0_v, oN_s]
    refine ys_360_2_ok (ih (j + 1) _ σ1 (by omega) g1 (by rw [List.length_append, List.length_singleton]; omega) (fun σ2 g2 f2 => hQ σ2 ?_ (eqp_tr f1 f2)))
    rw [List.drop_eq_getElem_cons hjl]
    rw [List.append_assoc] at g2
    exact g2
theorem w_360 (hl : isN l) (h : RLs Z σ) (hZ : Z.length + l.length ≤ 40000) (hd : 4 ≤ d) (hQ : ∀ σ', RLs (Z ++ lts l) σ' → eqp lsF σ σ' → Q (.inl none) κ σ') : my_M e d 360 [.inr (.inr (some 498)), .inr (.inl (nmR l))] κ σ Q := by
  obtain ⟨d, rfl⟩ := dS 1 (show 1 ≤ d by omega)
  refine ys_360 ?_
  unfold ys_360_0
  exact ys_360_2_ok (w_360l hl (by omega) l.length 0 Z σ (by omega) h hZ hQ)
end MLS
