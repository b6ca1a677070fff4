/-! ===== reading the statements ===== -/
section MYH
variable {κ : my_K} {σ : my_S}
theorem my_k0_v {A : my_K → my_S → Prop} {B : Nat × Nat → my_K → my_S → Prop} : my_k0 A B (.inl none) κ σ = A κ σ := rfl
theorem my_k0_x {A : my_K → my_S → Prop} {B : Nat × Nat → my_K → my_S → Prop} {y : Nat × Nat} : my_k0 A B (.inr y) κ σ = B y κ σ := rfl
theorem my_kI_v {A : Int32 → my_K → my_S → Prop} {B : Nat × Nat → my_K → my_S → Prop} {x : Int32} : my_kI A B (.inl (some (.inl x))) κ σ = A x κ σ := rfl
theorem my_kI_x {A : Int32 → my_K → my_S → Prop} {B : Nat × Nat → my_K → my_S → Prop} {y : Nat × Nat} : my_kI A B (.inr y) κ σ = B y κ σ := rfl
theorem my_kL_v {A : Int64 → my_K → my_S → Prop} {B : Nat × Nat → my_K → my_S → Prop} {x : Int64} : my_kL A B (.inl (some (.inr (.inl x)))) κ σ = A x κ σ := rfl
theorem my_kL_x {A : Int64 → my_K → my_S → Prop} {B : Nat × Nat → my_K → my_S → Prop} {y : Nat × Nat} : my_kL A B (.inr y) κ σ = B y κ σ := rfl
theorem my_kA_v {A : Option Nat → my_K → my_S → Prop} {B : Nat × Nat → my_K → my_S → Prop} {x : Option Nat} : my_kA A B (.inl (some (.inr (.inr x)))) κ σ = A x κ σ := rfl
theorem my_kA_x {A : Option Nat → my_K → my_S → Prop} {B : Nat × Nat → my_K → my_S → Prop} {y : Nat × Nat} : my_kA A B (.inr y) κ σ = B y κ σ := rfl
theorem my_uI_1 {a k b j : Nat} {x : Int32} : (my_uI σ a k x).1 b j = if b = a ∧ j = k then x else σ.1 b j := rfl
theorem my_uI_2 {a k : Nat} {x : Int32} : (my_uI σ a k x).2 = σ.2 := rfl
theorem my_uL_1 {a k : Nat} {x : Int64} : (my_uL σ a k x).1 = σ.1 := rfl
theorem my_uL_2 {a k b j : Nat} {x : Int64} : (my_uL σ a k x).2.1 b j = if b = a ∧ j = k then x else σ.2.1 b j := rfl
theorem my_uL_3 {a k : Nat} {x : Int64} : (my_uL σ a k x).2.2 = σ.2.2 := rfl
theorem my_uA_1 {a k : Nat} {x : Option Nat} : (my_uA σ a k x).1 = σ.1 := rfl
theorem my_uA_2 {a k : Nat} {x : Option Nat} : (my_uA σ a k x).2.1 = σ.2.1 := rfl
theorem my_uA_3 {a k b j : Nat} {x : Option Nat} : (my_uA σ a k x).2.2 b j = if b = a ∧ j = k then x else σ.2.2 b j := rfl
end MYH
section MYI
variable {e : my_E} {d : Nat} {κ : my_K} {σ : my_S} {Q : my_O → my_K → my_S → Prop} {v v1 v2 v3 : Int32}
/-- the reference's refuse: where one is said -/
theorem r_215_1 (hQ : Q (.inl (some (.inl 1))) κ (my_uI σ 498 0 1)) : my_M e (d + 1) 215 [.inr (.inr (some 498)), .inl 1, .inl v] κ σ Q :=
  ys_215 (by
    unfold ys_215_0
    rw [if_neg (by decide)]
    unfold ys_215_18
    rw [if_pos (by decide)]
    exact ⟨Or.inr rfl, hQ⟩)
theorem r_215_2 (hQ : Q (.inl (some (.inl 1))) κ (my_uI σ 498 0 2)) : my_M e (d + 1) 215 [.inr (.inr (some 498)), .inl 0, .inl 1] κ σ Q :=
  ys_215 (by
    unfold ys_215_0
    rw [if_pos rfl, if_neg (by decide)]
    unfold ys_215_18
    rw [if_pos (by decide)]
    exact ⟨Or.inr rfl, hQ⟩)
theorem r_215_0 (hQ : Q (.inl (some (.inl 0))) κ (my_uI σ 498 0 0)) : my_M e (d + 1) 215 [.inr (.inr (some 498)), .inl 0, .inl 0] κ σ Q :=
  ys_215 (by
    unfold ys_215_0
    rw [if_pos rfl, if_pos rfl]
    unfold ys_215_18
    rw [if_neg (by decide)]
    exact ⟨Or.inl rfl, hQ⟩)
theorem r_213 (hQ : Q (.inl (some (.inl (σ.1 498 0)))) κ σ) : my_M e (d + 1) 213 [.inr (.inr (some 498))] κ σ Q := ys_213 hQ
/-- no revision, no trace -/
theorem c_10 (h : σ.1 32 10 = 0) (hd : 5 ≤ d) (hc : 1 ≤ κ.2.1) (hs : 6 ≤ κ.2.2) (hQ : Q (.inr (κ.1, 13)) (κ.1 + 1, κ.2.1 - 1, κ.2.2 - 6) σ) : my_M e (d + 1) 10 [.inr (.inr (some 32))] κ σ Q :=
  ys_10 (by unfold ys_10_0; rw [if_pos h]; exact ⟨⟨hd, hc, hs⟩, hQ⟩)
theorem c_28 (h : σ.1 32 11 = 0) (hd : 5 ≤ d) (hc : 1 ≤ κ.2.1) (hs : 6 ≤ κ.2.2) (hQ : Q (.inr (κ.1, 13)) (κ.1 + 1, κ.2.1 - 1, κ.2.2 - 6) σ) : my_M e (d + 1) 28 [.inr (.inr (some 32))] κ σ Q :=
  ys_28 (by unfold ys_28_0; rw [if_pos h]; exact ⟨⟨hd, hc, hs⟩, hQ⟩)
theorem c_17 (h : σ.1 32 10 = 0) (hd : 5 ≤ d) (hc : 1 ≤ κ.2.1) (hs : 6 ≤ κ.2.2) (hQ : Q (.inr (κ.1, 13)) (κ.1 + 1, κ.2.1 - 1, κ.2.2 - 6) σ) : my_M e (d + 2) 17 [.inr (.inr (some 32)), .inl v1, .inl v2] κ σ Q :=
  ys_17 (by unfold ys_17_0; exact c_10 h hd hc hs hQ)
end MYI
section MYJ
variable {e : my_E} {d : Nat} {κ : my_K} {σ : my_S} {Q : my_O → my_K → my_S → Prop} {v v1 v2 v3 : Int32}
/-! the class, where there is no revision, or no trace -/
theorem c_9 (h : σ.1 32 10 = 0) (hd : 5 ≤ d) (hc : 1 ≤ κ.2.1) (hs : 6 ≤ κ.2.2) (hQ : Q (.inr (κ.1, 13)) (κ.1 + 1, κ.2.1 - 1, κ.2.2 - 6) σ) : my_M e (d + 2) 9 [.inr (.inr (some 32)), .inl v1] κ σ Q := ys_9 (by unfold ys_9_0; exact c_10 h hd hc hs hQ)
theorem c_16 (h : σ.1 32 10 = 0) (hd : 5 ≤ d) (hc : 1 ≤ κ.2.1) (hs : 6 ≤ κ.2.2) (hQ : Q (.inr (κ.1, 13)) (κ.1 + 1, κ.2.1 - 1, κ.2.2 - 6) σ) : my_M e (d + 3) 16 [.inr (.inr (some 32)), .inl v1, .inl v2, .inl v3] κ σ Q := ys_16 (by unfold ys_16_0; exact c_17 h hd hc hs hQ)
theorem c_19 (h : σ.1 32 10 = 0) (hd : 5 ≤ d) (hc : 1 ≤ κ.2.1) (hs : 6 ≤ κ.2.2) (hQ : Q (.inr (κ.1, 13)) (κ.1 + 1, κ.2.1 - 1, κ.2.2 - 6) σ) : my_M e (d + 3) 19 [.inr (.inr (some 32)), .inl v1, .inl v2] κ σ Q := ys_19 (by unfold ys_19_0; exact c_17 h hd hc hs hQ)
theorem c_20 (h : σ.1 32 10 = 0) (hd : 5 ≤ d) (hc : 1 ≤ κ.2.1) (hs : 6 ≤ κ.2.2) (hQ : Q (.inr (κ.1, 13)) (κ.1 + 1, κ.2.1 - 1, κ.2.2 - 6) σ) : my_M e (d + 3) 20 [.inr (.inr (some 32)), .inl v1, .inl v2] κ σ Q := ys_20 (by unfold ys_20_0; exact c_17 h hd hc hs hQ)
theorem c_21 (h : σ.1 32 10 = 0) (hd : 5 ≤ d) (hc : 1 ≤ κ.2.1) (hs : 6 ≤ κ.2.2) (hQ : Q (.inr (κ.1, 13)) (κ.1 + 1, κ.2.1 - 1, κ.2.2 - 6) σ) : my_M e (d + 2) 21 [.inr (.inr (some 32)), .inl v1, .inl v2] κ σ Q := ys_21 (by unfold ys_21_0; exact c_10 h hd hc hs hQ)
theorem c_23 (h : σ.1 32 10 = 0) (hd : 5 ≤ d) (hc : 1 ≤ κ.2.1) (hs : 6 ≤ κ.2.2) (hQ : Q (.inr (κ.1, 13)) (κ.1 + 1, κ.2.1 - 1, κ.2.2 - 6) σ) : my_M e (d + 3) 23 [.inr (.inr (some 32)), .inl v1, .inl v2, .inl v3] κ σ Q := ys_23 (by unfold ys_23_0; exact c_17 h hd hc hs hQ)
theorem c_24 (h : σ.1 32 10 = 0) (hd : 5 ≤ d) (hc : 1 ≤ κ.2.1) (hs : 6 ≤ κ.2.2) (hQ : Q (.inr (κ.1, 13)) (κ.1 + 1, κ.2.1 - 1, κ.2.2 - 6) σ) : my_M e (d + 3) 24 [.inr (.inr (some 32)), .inl v1] κ σ Q := ys_24 (by unfold ys_24_0; exact c_17 h hd hc hs hQ)
theorem c_25 (h : σ.1 32 10 = 0) (hd : 5 ≤ d) (hc : 1 ≤ κ.2.1) (hs : 6 ≤ κ.2.2) (hQ : Q (.inr (κ.1, 13)) (κ.1 + 1, κ.2.1 - 1, κ.2.2 - 6) σ) : my_M e (d + 3) 25 [.inr (.inr (some 32)), .inl v1, .inl v2] κ σ Q := ys_25 (by unfold ys_25_0; exact c_17 h hd hc hs hQ)
theorem c_26 (h : σ.1 32 10 = 0) (hd : 5 ≤ d) (hc : 1 ≤ κ.2.1) (hs : 6 ≤ κ.2.2) (hQ : Q (.inr (κ.1, 13)) (κ.1 + 1, κ.2.1 - 1, κ.2.2 - 6) σ) : my_M e (d + 3) 26 [.inr (.inr (some 32)), .inl v1] κ σ Q := ys_26 (by unfold ys_26_0; exact c_17 h hd hc hs hQ)
theorem c_27 (h : σ.1 32 11 = 0) (hd : 5 ≤ d) (hc : 1 ≤ κ.2.1) (hs : 6 ≤ κ.2.2) (hQ : Q (.inr (κ.1, 13)) (κ.1 + 1, κ.2.1 - 1, κ.2.2 - 6) σ) : my_M e (d + 2) 27 [.inr (.inr (some 32)), .inl v1] κ σ Q := ys_27 (by unfold ys_27_0; exact c_28 h hd hc hs hQ)
theorem c_29 (h : σ.1 32 11 = 0) (hd : 5 ≤ d) (hc : 1 ≤ κ.2.1) (hs : 6 ≤ κ.2.2) (hQ : Q (.inr (κ.1, 13)) (κ.1 + 1, κ.2.1 - 1, κ.2.2 - 6) σ) : my_M e (d + 2) 29 [.inr (.inr (some 32)), .inl v1] κ σ Q := ys_29 (by unfold ys_29_0; exact c_28 h hd hc hs hQ)
theorem c_30 (h : σ.1 32 11 = 0) (hd : 5 ≤ d) (hc : 1 ≤ κ.2.1) (hs : 6 ≤ κ.2.2) (hQ : Q (.inr (κ.1, 13)) (κ.1 + 1, κ.2.1 - 1, κ.2.2 - 6) σ) : my_M e (d + 2) 30 [.inr (.inr (some 32)), .inl v1] κ σ Q := ys_30 (by unfold ys_30_0; exact c_28 h hd hc hs hQ)
theorem c_31 (h : σ.1 32 11 = 0) (hd : 5 ≤ d) (hc : 1 ≤ κ.2.1) (hs : 6 ≤ κ.2.2) (hQ : Q (.inr (κ.1, 13)) (κ.1 + 1, κ.2.1 - 1, κ.2.2 - 6) σ) : my_M e (d + 2) 31 [.inr (.inr (some 32)), .inl v1] κ σ Q := ys_31 (by unfold ys_31_0; exact c_28 h hd hc hs hQ)
theorem c_32 (h : σ.1 32 11 = 0) (hd : 5 ≤ d) (hc : 1 ≤ κ.2.1) (hs : 6 ≤ κ.2.2) (hQ : Q (.inr (κ.1, 13)) (κ.1 + 1, κ.2.1 - 1, κ.2.2 - 6) σ) : my_M e (d + 2) 32 [.inr (.inr (some 32)), .inl v1] κ σ Q := ys_32 (by unfold ys_32_0; exact c_28 h hd hc hs hQ)
theorem c_33 (h : σ.1 32 11 = 0) (hd : 5 ≤ d) (hc : 1 ≤ κ.2.1) (hs : 6 ≤ κ.2.2) (hQ : Q (.inr (κ.1, 13)) (κ.1 + 1, κ.2.1 - 1, κ.2.2 - 6) σ) : my_M e (d + 2) 33 [.inr (.inr (some 32)), .inl v1, .inl v2] κ σ Q := ys_33 (by unfold ys_33_0; exact c_28 h hd hc hs hQ)
theorem c_34 (h : σ.1 32 11 = 0) (hd : 5 ≤ d) (hc : 1 ≤ κ.2.1) (hs : 6 ≤ κ.2.2) (hQ : Q (.inr (κ.1, 13)) (κ.1 + 1, κ.2.1 - 1, κ.2.2 - 6) σ) : my_M e (d + 2) 34 [.inr (.inr (some 32)), .inl v1, .inl v2] κ σ Q := ys_34 (by unfold ys_34_0; exact c_28 h hd hc hs hQ)
theorem c_36 (h : σ.1 32 10 = 0) (hd : 5 ≤ d) (hc : 1 ≤ κ.2.1) (hs : 6 ≤ κ.2.2) (hQ : Q (.inr (κ.1, 13)) (κ.1 + 1, κ.2.1 - 1, κ.2.2 - 6) σ) : my_M e (d + 2) 36 [.inr (.inr (some 32)), .inl v1, .inl v2] κ σ Q := ys_36 (by unfold ys_36_0; exact c_10 h hd hc hs hQ)
theorem c_38 (h : σ.1 32 10 = 0) (hd : 5 ≤ d) (hc : 1 ≤ κ.2.1) (hs : 6 ≤ κ.2.2) (hQ : Q (.inr (κ.1, 13)) (κ.1 + 1, κ.2.1 - 1, κ.2.2 - 6) σ) : my_M e (d + 2) 38 [.inr (.inr (some 32)), .inl v1, .inl v2] κ σ Q := ys_38 (by unfold ys_38_0; exact c_10 h hd hc hs hQ)
theorem c_39 (h : σ.1 32 10 = 0) (hd : 5 ≤ d) (hc : 1 ≤ κ.2.1) (hs : 6 ≤ κ.2.2) (hQ : Q (.inr (κ.1, 13)) (κ.1 + 1, κ.2.1 - 1, κ.2.2 - 6) σ) : my_M e (d + 3) 39 [.inr (.inr (some 32)), .inl v1] κ σ Q := ys_39 (by unfold ys_39_0; exact c_17 h hd hc hs hQ)
theorem c_40 (h : σ.1 32 10 = 0) (hd : 5 ≤ d) (hc : 1 ≤ κ.2.1) (hs : 6 ≤ κ.2.2) (hQ : Q (.inr (κ.1, 13)) (κ.1 + 1, κ.2.1 - 1, κ.2.2 - 6) σ) : my_M e (d + 3) 40 [.inr (.inr (some 32)), .inl v1, .inl v2] κ σ Q := ys_40 (by unfold ys_40_0; exact c_17 h hd hc hs hQ)
theorem c_42 (h : σ.1 32 10 = 0) (hd : 5 ≤ d) (hc : 1 ≤ κ.2.1) (hs : 6 ≤ κ.2.2) (hQ : Q (.inr (κ.1, 13)) (κ.1 + 1, κ.2.1 - 1, κ.2.2 - 6) σ) : my_M e (d + 3) 42 [.inr (.inr (some 32)), .inl v1, .inl v2, .inl v3] κ σ Q := ys_42 (by unfold ys_42_0; exact c_17 h hd hc hs hQ)
/-! the reference, where there is no revision, or no trace: 1, and it gives something -/
theorem r_333 (h : σ.1 498 65 = 0) (hQ : ∀ x, Q (.inl (some (.inl x))) κ (my_uI σ 498 0 1)) : my_M e (d + 2) 333 [.inr (.inr (some 498)), .inl v1] κ σ Q := by
  refine ys_333 ?_
  unfold ys_333_0
  rw [if_pos h]
  unfold ys_333_13
  have key : ∀ w, ys_333_28 e (d + 1) v1 w 1 κ σ Q := fun w => by
    unfold ys_333_28
    exact r_215_1 (by rw [my_kI_v, if_neg (by decide)]; exact hQ _)
  repeat' split
  all_goals exact key _
theorem r_280 (h : σ.1 498 65 = 0) (hQ : ∀ x, Q (.inl (some (.inl x))) κ (my_uI σ 498 0 1)) : my_M e (d + 2) 280 [.inr (.inr (some 498)), .inl v1, .inl v2, .inl v3] κ σ Q := by
  refine ys_280 ?_
  unfold ys_280_0
  rw [if_pos h]
  unfold ys_280_13
  have key : ∀ w, ys_280_35 e (d + 1) v1 v2 v3 w 1 κ σ Q := fun w => by
    unfold ys_280_35
    exact r_215_1 (by rw [my_kI_v, if_neg (by decide)]; exact hQ _)
  repeat' split
  all_goals exact key _
theorem r_347 (h : σ.1 498 65 = 0) (hQ : Q (.inl (some (.inl (Int32.ofInt (-1))))) κ (my_uI σ 498 0 1)) : my_M e (d + 2) 347 [.inr (.inr (some 498)), .inl v1, .inl v2, .inl v3] κ σ Q := by
  refine ys_347 ?_
  unfold ys_347_0
  rw [if_pos h]
  unfold ys_347_13
  have key : ∀ w, ys_347_35 e (d + 1) v1 v2 w 1 κ σ Q := fun w => by
    unfold ys_347_35
    exact r_215_1 (by rw [my_kI_v, if_neg (by decide)]; exact hQ)
  repeat' split
  all_goals exact key _
theorem r_346 (h : σ.1 498 65 = 0) (hQ : ∀ x, Q (.inl (some (.inl x))) κ (my_uI σ 498 0 1)) : my_M e (d + 3) 346 [.inr (.inr (some 498)), .inl v1, .inl v2] κ σ Q := by
  refine ys_346 ?_
  unfold ys_346_0
  refine r_347 h ?_
  rw [my_kI_v, if_pos (by decide)]
  unfold ys_346_25
  refine ys_346_27_ok ?_
  unfold ys_346_27
  rw [if_pos (by decide)]
  unfold ys_346_63
  rw [if_pos (by decide)]
  exact hQ _
theorem r_348 (h : σ.1 498 65 = 0) (hQ : ∀ x, Q (.inl (some (.inl x))) κ (my_uI σ 498 0 1)) : my_M e (d + 3) 348 [.inr (.inr (some 498)), .inl v1, .inl v2] κ σ Q := by
  refine ys_348 ?_
  unfold ys_348_0
  refine r_347 h ?_
  rw [my_kI_v, if_pos (by decide)]
  exact hQ _
theorem r_355 (h : σ.1 498 65 = 0) (hQ : ∀ x, Q (.inl (some (.inl x))) κ (my_uI σ 498 0 1)) : my_M e (d + 3) 355 [.inr (.inr (some 498)), .inl v1, .inl v2, .inl v3] κ σ Q := by
  refine ys_355 ?_
  unfold ys_355_0
  have key : ∀ w, ys_355_17 e (d + 2) v3 w v2 v1 κ σ Q := fun w => by
    unfold ys_355_17
    exact r_347 h (by rw [my_kI_v, if_pos (by decide)]; exact hQ _)
  repeat' split
  all_goals exact key _
theorem r_351 (h : σ.1 498 124 = 0) (hQ : Q (.inl (some (.inl (Int32.ofInt (-1))))) κ σ) : my_M e (d + 1) 351 [.inr (.inr (some 498)), .inl v1] κ σ Q := by
  have h4 : ys_351_4 e d v1 4 κ σ Q := by
    unfold ys_351_4
    rw [if_neg (by decide)]
    exact hQ
  have key : ∀ (v3 w : Int32), ys_351_4 e d v1 (v3 + 1) κ σ Q → ys_351_40 e d v1 v3 w κ σ Q := fun v3 w hn => by
    unfold ys_351_40
    refine ys_351_45_ok ?_
    unfold ys_351_45
    rw [h, if_neg (by decide)]
    exact ys_351_4_ok hn
  have h3 : ys_351_4 e d v1 3 κ σ Q := by
    unfold ys_351_4
    rw [if_pos (by decide), if_neg (by decide), if_neg (by decide), if_neg (by decide)]
    exact key 3 _ h4
  have h2 : ys_351_4 e d v1 2 κ σ Q := by
    unfold ys_351_4
    rw [if_pos (by decide), if_neg (by decide), if_neg (by decide), if_pos (by decide)]
    exact key 2 _ h3
  have h1 : ys_351_4 e d v1 1 κ σ Q := by
    unfold ys_351_4
    rw [if_pos (by decide), if_neg (by decide), if_pos (by decide)]
    exact key 1 _ h2
  have h0 : ys_351_4 e d v1 0 κ σ Q := by
    unfold ys_351_4
    rw [if_pos (by decide), if_pos (by decide)]
    exact key 0 _ h1
  exact ys_351 (by unfold ys_351_0; exact ys_351_4_ok h0)
theorem r_350 (h : σ.1 498 65 = 0) (h2 : σ.1 498 124 = 0) (hQ : ∀ x, Q (.inl (some (.inl x))) κ (my_uI σ 498 0 1)) : my_M e (d + 2) 350 [.inr (.inr (some 498)), .inl v1, .inl v2] κ σ Q := by
  have key : ∀ w u, ys_350_40 e (d + 1) v2 u w 1 κ σ Q := fun w u => by
    unfold ys_350_40
    exact r_215_1 (by rw [my_kI_v, if_neg (by decide)]; exact hQ _)
  have key2 : ∀ u, ys_350_13 e (d + 1) v2 u κ σ Q := fun u => by
    unfold ys_350_13
    rw [if_pos h]
    unfold ys_350_27
    repeat' split
    all_goals exact key _ _
  refine ys_350 ?_
  unfold ys_350_0
  split
  · exact key2 _
  · exact r_351 h2 (by rw [my_kI_v]; exact key2 _)
theorem r_340 (h : σ.1 498 65 = 0) (hQ : Q (.inl (some (.inl 1))) κ (my_uI σ 498 0 1)) : my_M e (d + 2) 340 [.inr (.inr (some 498)), .inl v1] κ σ Q := by
  refine ys_340 ?_
  unfold ys_340_0
  rw [if_pos h]
  unfold ys_340_13
  have key : ∀ w, ys_340_30 e (d + 1) w 1 κ σ Q := fun w => by
    unfold ys_340_30
    exact r_215_1 (by rw [my_kI_v]; exact ⟨Or.inr rfl, hQ⟩)
  repeat' split
  all_goals exact key _
theorem r_352 (h : σ.1 498 65 = 0) (hQ : ∀ x, Q (.inl (some (.inl x))) κ (my_uI σ 498 0 1)) : my_M e (d + 3) 352 [.inr (.inr (some 498)), .inl v1] κ σ Q := by
  refine ys_352 ?_
  unfold ys_352_0
  refine r_340 h ?_
  rw [my_kI_v, if_neg (by decide)]
  exact hQ _
theorem r_354 (h : σ.1 498 65 = 0) (hQ : ∀ x, Q (.inl (some (.inl x))) κ (my_uI σ 498 0 1)) : my_M e (d + 2) 354 [.inr (.inr (some 498)), .inl v1, .inl v2] κ σ Q := by
  refine ys_354 ?_
  unfold ys_354_0
  rw [if_pos h]
  unfold ys_354_13
  have key : ∀ w, ys_354_34 e (d + 1) v1 v2 w 1 κ σ Q := fun w => by
    unfold ys_354_34
    exact r_215_1 (by rw [my_kI_v, if_neg (by decide)]; exact hQ _)
  repeat' split
  all_goals exact key _
theorem r_361 (h : σ.1 498 65 = 0) (hQ : Q (.inl none) κ (my_uI σ 498 0 1)) : my_M e (d + 3) 361 [.inr (.inr (some 498)), .inl v1] κ σ Q := by
  refine ys_361 ?_
  unfold ys_361_0
  refine r_340 h ?_
  rw [my_kI_v, if_neg (by decide)]
  exact hQ
theorem r_364 (h : σ.1 498 133 = 0) (hQ : ∀ x, Q (.inl (some (.inl x))) κ (my_uI σ 498 0 1)) : my_M e (d + 2) 364 [.inr (.inr (some 498)), .inl v1] κ σ Q := by
  refine ys_364 ?_
  unfold ys_364_0
  rw [if_pos h]
  unfold ys_364_13
  have key : ∀ w, ys_364_29 e (d + 1) v1 w 1 κ σ Q := fun w => by
    unfold ys_364_29
    exact r_215_1 (by rw [my_kI_v, if_neg (by decide)]; exact hQ _)
  repeat' split
  all_goals exact key _
theorem r_366 (h : σ.1 498 133 = 0) (hQ : ∀ x, Q (.inl (some (.inl x))) κ (my_uI σ 498 0 1)) : my_M e (d + 2) 366 [.inr (.inr (some 498)), .inl v1] κ σ Q := by
  refine ys_366 ?_
  unfold ys_366_0
  rw [if_pos h]
  unfold ys_366_13
  have key : ∀ w, ys_366_28 e (d + 1) v1 w 1 κ σ Q := fun w => by
    unfold ys_366_28
    exact r_215_1 (by rw [my_kI_v, if_neg (by decide)]; exact hQ _)
  repeat' split
  all_goals exact key _
theorem r_369 (h : σ.1 498 133 = 0) (hQ : ∀ x, Q (.inl (some (.inl x))) κ (my_uI σ 498 0 1)) : my_M e (d + 2) 369 [.inr (.inr (some 498)), .inl v1] κ σ Q := by
  refine ys_369 ?_
  unfold ys_369_0
  rw [if_pos h]
  unfold ys_369_13
  rw [if_pos h]
  unfold ys_369_36 ys_369_37
  exact r_215_1 (by rw [my_kI_v, if_neg (by decide)]; exact hQ _)
theorem r_370 (h : σ.1 498 133 = 0) (h2 : σ.1 498 139 = 0) (h3 : σ.1 583 0 = 0) (hQ : ∀ x, Q (.inl (some (.inl x))) κ (my_uI σ 498 0 1)) : my_M e (d + 2) 370 [.inr (.inr (some 498)), .inl v1] κ σ Q := by
  refine ys_370 ?_
  have e1 : (0 : Int32).toNatClampNeg = 0 := rfl
  unfold ys_370_0
  rw [h2, e1, h3, if_pos h]
  refine ⟨⟨by decide, by decide⟩, ⟨by decide, by decide⟩, ?_⟩
  unfold ys_370_43
  rw [if_pos h]
  unfold ys_370_57
  have key : ∀ w, ys_370_71 e (d + 1) v1 w 1 κ σ Q := fun w => by
    unfold ys_370_71
    exact r_215_1 (by rw [my_kI_v, if_neg (by decide)]; exact hQ _)
  repeat' split
  all_goals exact key _
theorem r_371 (h : σ.1 498 133 = 0) (hQ : ∀ x, Q (.inl (some (.inl x))) κ (my_uI σ 498 0 1)) : my_M e (d + 2) 371 [.inr (.inr (some 498)), .inl v1] κ σ Q := by
  refine ys_371 ?_
  unfold ys_371_0
  rw [if_pos h]
  unfold ys_371_13
  have key : ∀ w, ys_371_30 e (d + 1) v1 w 1 κ σ Q := fun w => by
    unfold ys_371_30
    exact r_215_1 (by rw [my_kI_v, if_neg (by decide)]; exact hQ _)
  repeat' split
  all_goals exact key _
theorem r_372 (h : σ.1 498 133 = 0) (hQ : ∀ x, Q (.inl (some (.inl x))) κ (my_uI σ 498 0 1)) : my_M e (d + 2) 372 [.inr (.inr (some 498)), .inl v1, .inl v2] κ σ Q := by
  refine ys_372 ?_
  unfold ys_372_0
  rw [if_pos h]
  unfold ys_372_13
  have key : ∀ w, ys_372_30 e (d + 1) v1 v2 w 1 κ σ Q := fun w => by
    unfold ys_372_30
    exact r_215_1 (by rw [my_kI_v, if_neg (by decide)]; exact hQ _)
  repeat' split
  all_goals exact key _
theorem r_373 (h : σ.1 498 133 = 0) (hQ : ∀ x, Q (.inl (some (.inl x))) κ (my_uI σ 498 0 1)) : my_M e (d + 2) 373 [.inr (.inr (some 498)), .inl v1, .inl v2] κ σ Q := by
  refine ys_373 ?_
  unfold ys_373_0
  rw [if_pos h]
  unfold ys_373_13
  have key : ∀ w, ys_373_31 e (d + 1) v1 v2 w 1 κ σ Q := fun w => by
    unfold ys_373_31
    exact r_215_1 (by rw [my_kI_v, if_neg (by decide)]; exact hQ _)
  repeat' split
  all_goals exact key _
theorem r_282 (h : σ.1 498 65 = 0) (hQ : ∀ x, Q (.inl (some (.inl x))) κ (my_uI σ 498 0 1)) : my_M e (d + 2) 282 [.inr (.inr (some 498)), .inl v1, .inl v2] κ σ Q := by
  refine ys_282 ?_
  unfold ys_282_0
  rw [if_pos h]
  unfold ys_282_13
  have key : ∀ w, ys_282_33 e (d + 1) v1 v2 w 1 κ σ Q := fun w => by
    unfold ys_282_33
    exact r_215_1 (by rw [my_kI_v, if_neg (by decide)]; exact hQ _)
  repeat' split
  all_goals exact key _
theorem r_338 (h : σ.1 498 65 = 0) (hQ : ∀ x, Q (.inl (some (.inl x))) κ (my_uI σ 498 0 1)) : my_M e (d + 2) 338 [.inr (.inr (some 498)), .inl v1, .inl v2] κ σ Q := by
  refine ys_338 ?_
  unfold ys_338_0
  rw [if_pos h]
  unfold ys_338_15 ys_338_20
  have key : ∀ w, ys_338_37 e (d + 1) v1 v2 w 1 κ σ Q := fun w => by
    unfold ys_338_37
    exact r_215_1 (by rw [my_kI_v, if_neg (by decide)]; exact hQ _)
  repeat' split
  all_goals exact key _
theorem r_339 (h : σ.1 498 65 = 0) (hQ : ∀ x, Q (.inl (some (.inl x))) κ (my_uI σ 498 0 1)) : my_M e (d + 3) 339 [.inr (.inr (some 498)), .inl v1] κ σ Q := by
  refine ys_339 ?_
  unfold ys_339_0
  refine r_340 h ?_
  rw [my_kI_v, if_neg (by decide)]
  exact hQ _
theorem r_343 (h : σ.1 498 65 = 0) (hQ : Q (.inl (some (.inl (Int32.ofInt (-1))))) κ (my_uI σ 498 0 1)) : my_M e (d + 3) 343 [.inr (.inr (some 498)), .inl v1] κ σ Q := by
  refine ys_343 ?_
  unfold ys_343_0
  refine r_340 h ?_
  rw [my_kI_v, if_neg (by decide)]
  exact hQ
theorem r_342 (h : σ.1 498 65 = 0) (hQ : ∀ x, Q (.inl (some (.inl x))) κ (my_uI σ 498 0 1)) : my_M e (d + 4) 342 [.inr (.inr (some 498)), .inl v1, .inl v2] κ σ Q := by
  refine ys_342 ?_
  unfold ys_342_0
  refine r_343 h ?_
  rw [my_kI_v, if_pos (by decide)]
  exact hQ _
theorem r_344 (h : σ.1 498 65 = 0) (hQ : ∀ x, Q (.inl (some (.inl x))) κ (my_uI σ 498 0 1)) : my_M e (d + 4) 344 [.inr (.inr (some 498)), .inl v1, .inl v2, .inl v3] κ σ Q := by
  refine ys_344 ?_
  unfold ys_344_0
  refine r_343 h ?_
  rw [my_kI_v, if_pos (by decide)]
  exact hQ _
end MYJ
