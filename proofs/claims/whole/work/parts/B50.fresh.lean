
/-! ===== what the reference is about to put behind its log ===== -/
def FRy (E : List Int32) (σ : my_S) : Prop := σ.1 498 97 = Int32.ofNat E.length ∧ ∀ i x, E[i]? = some x → σ.1 551 i = x &&& 255
def fyF (c k : Nat) : Prop := c = 551 ∨ (c = 498 ∧ k = 97)
theorem FRy_o {F : Nat → Nat → Prop} {E : List Int32} {σ σ' : my_S} (h : FRy E σ) (he : eqp F σ σ') (hF : ∀ c k, F c k → c ≠ 551 ∧ (c = 498 → k ≠ 97)) : FRy E σ' := ⟨(eqp_g he (fun hh => (hF _ _ hh).2 rfl rfl)).trans h.1, fun i x hi => (eqp_g he (fun hh => (hF _ _ hh).1 rfl)).trans (h.2 i x hi)⟩
section MfB
variable {e : my_E} {d : Nat} {κ : my_K} {σ : my_S} {Q : my_O → my_K → my_S → Prop} {E : List Int32}
theorem f_316 {x v : Int32} (h : FRy E σ) (hx : x &&& 255 = v &&& 255) (hl : E.length < 20000) (hd : 1 ≤ d) (hQ : ∀ σ', FRy (E ++ [x]) σ' → eqp fyF σ σ' → Q (.inl none) κ σ') : my_M e d 316 [.inr (.inr (some 498)), .inl v] κ σ Q := by
  obtain ⟨d, rfl⟩ := dS 1 hd
  refine ys_316 ?_
  unfold ys_316_0
  rw [h.1]
  refine ⟨⟨by rw [oN_i (by omega)]; omega, by rw [oN_i (by omega)]; omega⟩, ?_⟩
  rw [oN_n (by omega), oN_s]
  refine hQ _ ⟨by rw [uI_s, List.length_append]; rfl, fun i y hi => ?_⟩ (eqp_I (eqp_I eqp_rf (Or.inl rfl)) (Or.inr ⟨rfl, rfl⟩))
  rw [my_uI_1, if_neg (by omega), my_uI_1]
  by_cases hil : i < E.length
  · rw [List.getElem?_append_left hil] at hi
    rw [if_neg (by omega)]
    exact h.2 i y hi
  · rw [List.getElem?_append_right (by omega)] at hi
    have hi0 : i - E.length = 0 := by
      by_cases hh : i - E.length = 0
      · exact hh
      · rw [List.getElem?_eq_none (by simp; omega)] at hi; cases hi
    rw [hi0] at hi
    cases hi
    rw [if_pos (by omega), hx]
theorem f_316b {v : Int32} (h : FRy E σ) (hl : E.length + 1 ≤ 20000) (hd : 1 ≤ d) (hQ : ∀ σ', FRy (E ++ bts v 1 0) σ' → eqp fyF σ σ' → Q (.inl none) κ σ') : my_M e d 316 [.inr (.inr (some 498)), .inl v] κ σ Q := f_316 h (bt_0 v) (by omega) hd hQ
theorem f_315 {v : Int32} (h : FRy E σ) (hl : E.length + 2 ≤ 20000) (hd : 2 ≤ d) (hQ : ∀ σ', FRy (E ++ bts v 2 0) σ' → eqp fyF σ σ' → Q (.inl none) κ σ') : my_M e d 315 [.inr (.inr (some 498)), .inl v] κ σ Q := by
  obtain ⟨d, rfl⟩ := dS 1 (show 1 ≤ d by omega)
  refine ys_315 ?_
  unfold ys_315_0
  refine f_316 h (bt_0 v) (by omega) (by omega) (fun σ1 g1 f1 => ?_)
  rw [my_k0_v]
  refine f_316 g1 (bt_1 v) (by simp; omega) (by omega) (fun σ2 g2 f2 => ?_)
  rw [my_k0_v]
  rw [List.append_assoc] at g2
  exact hQ σ2 g2 (eqp_tr f1 f2)
variable {l : List Nat}
theorem f_317l (hl : isN l) (hd : 3 ≤ d) : ∀ (m j : Nat) (E : List Int32) (σ : my_S), j + m = l.length → FRy E σ → E.length + m ≤ 20000 → (∀ σ', FRy (E ++ ltb (l.drop j)) σ' → eqp fyF σ σ' → Q (.inl none) κ σ') → ys_317_10 e d (nmR l) (Int32.ofNat j) κ σ Q := by
  have h8 := hl.2
  intro m
  induction m with
  | zero =>
    intro j E σ hj h hE hQ
    unfold ys_317_10
    refine u_278 hl (by omega) ?_
    rw [my_kI_v, if_neg (by rw [oN_lt (by omega) (by omega)]; omega)]
    rw [List.drop_of_length_le (by omega)] at hQ
    exact hQ σ (by rw [show ltb [] = [] from rfl, List.append_nil]; exact h) eqp_rf
  | succ m ih =>
    intro j E σ hj h hE hQ
    have hjl : j < l.length := by omega
    unfold ys_317_10
    refine u_278 hl (by omega) ?_
    rw [my_kI_v, if_pos (by rw [oN_lt (by omega) (by omega)]; omega)]
    refine u_279 hl hjl (by omega) ?_
    rw [my_kI_v]
    refine f_316b h (by omega) (by omega) (fun σ1 g1 f1 => ?_)
    rw [my_k0_v, oN_s]
    refine ys_317_10_ok (ih (j + 1) _ σ1 (by omega) g1 (by rw [List.length_append, bts_l]; omega) (fun σ2 g2 f2 => hQ σ2 ?_ (eqp_tr f1 f2)))
    rw [List.drop_eq_getElem_cons hjl]
    rw [List.append_assoc] at g2
    exact g2
theorem f_317 (hl : isN l) (h : FRy E σ) (hE : E.length + 1 + l.length ≤ 20000) (hd : 4 ≤ d) (hQ : ∀ σ', FRy (E ++ (bts (Int32.ofNat l.length) 1 0 ++ ltb l)) σ' → eqp fyF σ σ' → Q (.inl none) κ σ') : my_M e d 317 [.inr (.inr (some 498)), .inr (.inl (nmR l))] κ σ Q := by
  obtain ⟨d, rfl⟩ := dS 1 (show 1 ≤ d by omega)
  refine ys_317 ?_
  unfold ys_317_0
  refine u_278 hl (by omega) ?_
  rw [my_kI_v]
  refine f_316b h (by omega) (by omega) (fun σ1 g1 f1 => ?_)
  rw [my_k0_v]
  refine ys_317_10_ok (f_317l hl (by omega) l.length 0 _ σ1 (by omega) g1 (by rw [List.length_append, bts_l]; omega) (fun σ2 g2 f2 => hQ σ2 ?_ (eqp_tr f1 f2)))
  rw [List.append_assoc] at g2
  exact g2
end MfB
