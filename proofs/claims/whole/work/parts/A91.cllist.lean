
/-! ===== the class's listing: signs and names; quotients ===== -/
/-- the sign that is wanted, if it is there yet -/
def wnt (Z : List Int32) (w : Nat) : Int32 := match Z[w]? with | some x => x | none => Int32.ofInt (-1)
def CLs (w : Nat) (Z : List Int32) (σ : my_S) : Prop := σ.1 43 0 = Int32.ofNat w ∧ w < 2147483648 ∧ σ.1 43 1 = Int32.ofNat Z.length ∧ σ.1 43 2 = wnt Z w
def csF (c k : Nat) : Prop := c = 43 ∧ (k = 1 ∨ k = 2)
section MLC
variable {e : my_E} {d : Nat} {κ : my_K} {σ : my_S} {Q : my_O → my_K → my_S → Prop} {Z : List Int32} {l : List Nat} {w : Nat}
theorem wnt_a {v : Int32} : wnt (Z ++ [v]) w = if Z.length = w then v else wnt Z w := by
  unfold wnt
  by_cases h : Z.length = w
  · rw [if_pos h, ← h, List.getElem?_append_right (Nat.le_refl _), Nat.sub_self]
    rfl
  · rw [if_neg h]
    by_cases h2 : w < Z.length
    · rw [List.getElem?_append_left h2]
    · rw [List.getElem?_eq_none (by simp; omega), List.getElem?_eq_none (by omega)]
theorem s_105 {v : Int32} (h : CLs w Z σ) (hl : Z.length < 1000000) (hd : 1 ≤ d) (hQ : ∀ σ', CLs w (Z ++ [v]) σ' → eqp csF σ σ' → Q (.inl none) κ σ') : my_M e d 105 [.inr (.inr (some 43)), .inl v] κ σ Q := by
  obtain ⟨d, rfl⟩ := dS 1 hd
  obtain ⟨h1, h2, h3, h4⟩ := h
  refine ys_105 ?_
  unfold ys_105_0 ys_105_16
  rw [h3, h1]
  refine my_if (fun c => ?_) (fun c => ?_)
  · have c := (oN_e (by omega) h2).mp c
    refine hQ _ ⟨?_, h2, ?_, ?_⟩ (eqp_I (eqp_I eqp_rf ⟨rfl, Or.inr rfl⟩) ⟨rfl, Or.inl rfl⟩)
    · rw [my_uI_1, if_neg (by omega), my_uI_1, if_neg (by omega)]; exact h1
    · rw [uI_s, my_uI_1, if_neg (by omega), h3, oN_s, List.length_append]; rfl
    · rw [my_uI_1, if_neg (by omega), uI_s, wnt_a, if_pos c]
  · have c : ¬ Z.length = w := fun hh => c (by rw [hh])
    refine hQ _ ⟨?_, h2, ?_, ?_⟩ (eqp_I eqp_rf ⟨rfl, Or.inl rfl⟩)
    · rw [my_uI_1, if_neg (by omega)]; exact h1
    · rw [uI_s, oN_s, List.length_append]; rfl
    · rw [my_uI_1, if_neg (by omega), wnt_a, if_neg c]; exact h4
theorem s_107l {a1 : Nat} (hl : isN l) (hin : my_in 11 a1) (h43 : a1 ≠ 43) (hd : 2 ≤ d) : ∀ (m j : Nat) (Z : List Int32) (σ : my_S), j + m = l.length → CLs w Z σ → σ.2.1 a1 4 = nmC l → Z.length + m ≤ 1000000 → (∀ σ', CLs w (Z ++ lts (l.drop j)) σ' → eqp csF σ σ' → Q (.inl none) κ σ') → ys_107_18 e d (some a1) (Int32.ofNat l.length) (Int32.ofNat j) κ σ Q := by
  have h8 := hl.2
  intro m
  induction m with
  | zero =>
    intro j Z σ hj h ha hZ hQ
    unfold ys_107_18
    rw [if_neg (by rw [oN_lt (by omega) (by omega)]; omega)]
    rw [List.drop_of_length_le (by omega)] at hQ
    exact hQ σ (by rw [show lts [] = [] from rfl, List.append_nil]; exact h) eqp_rf
  | succ m ih =>
    intro j Z σ hj h ha hZ hQ
    have hjl : j < l.length := by omega
    unfold ys_107_18
    rw [if_pos (by rw [oN_lt (by omega) (by omega)]; omega)]
    refine ⟨a1, rfl, hin, ?_⟩
    rw [ha]
    refine c_5 hl (by omega) (by omega) ?_
    rw [my_kI_v]
    have el : ltr l j = l[j] + 96 := by unfold ltr; rw [List.getElem?_eq_getElem hjl]
    rw [el]
    refine s_105 h (by omega) (by omega) (fun σ1 g1 f1 => ?_)
    rw [my_k0_v, oN_s]
    refine ys_107_18_ok (ih (j + 1) _ σ1 (by omega) g1 (((f1 _ _ (by unfold csF; omega)).2.1).trans ha) (by rw [List.length_append, List.length_singleton]; omega) (fun σ2 g2 f2 => hQ σ2 ?_ (eqp_tr f1 f2)))
    rw [List.drop_eq_getElem_cons hjl]
    rw [List.append_assoc] at g2
    exact g2
theorem s_107 {a1 : Nat} (hl : isN l) (hin : my_in 11 a1) (h43 : a1 ≠ 43) (h : CLs w Z σ) (ha : σ.2.1 a1 4 = nmC l) (hZ : Z.length + l.length ≤ 1000000) (hd : 3 ≤ d) (hQ : ∀ σ', CLs w (Z ++ lts l) σ' → eqp csF σ σ' → Q (.inl none) κ σ') : my_M e d 107 [.inr (.inr (some 43)), .inr (.inr (some a1))] κ σ Q := by
  obtain ⟨d, rfl⟩ := dS 1 (show 1 ≤ d by omega)
  refine ys_107 ?_
  unfold ys_107_0
  rw [if_neg (by simp)]
  refine ⟨a1, rfl, hin, ?_⟩
  rw [ha]
  refine c_4 hl (by omega) ?_
  rw [my_kI_v]
  unfold ys_107_15
  exact ys_107_18_ok (s_107l hl hin h43 (by omega) l.length 0 Z σ (by omega) h ha hZ hQ)
/-- quotients of what is not below nought -/
theorem di {a b : Nat} (ha : a < 9223372036854775808) (hb : b < 9223372036854775808) : Int64.ofNat a / Int64.ofNat b = Int64.ofNat (a / b) := by
  have hq : a / b ≤ a := Nat.div_le_self a b
  apply Int64.toInt_inj.mp
  rw [Int64.toInt_div, Int64.toInt_ofNat_of_lt ha, Int64.toInt_ofNat_of_lt hb, Int64.toInt_ofNat_of_lt (by omega), Int.tdiv_eq_ediv_of_nonneg (by omega), ← Int.natCast_ediv]
  rw [Int.bmod_def]
  have h3 : ((a / b : Nat) : Int) % (2 ^ 64 : Nat) = ((a / b : Nat) : Int) := by
    generalize a / b = q at *
    omega
  rw [h3, if_pos (by generalize a / b = q at *; omega)]
end MLC
