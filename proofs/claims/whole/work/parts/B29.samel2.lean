
/-! ===== sameBytes at the pairs with a log, what it answers ===== -/
section MSB
variable {e : my_E} {d : Nat} {κ : my_K} {σ : my_S} {Q : my_O → my_K → my_S → Prop} {X Y : List Int32} {o1 o2 : Nat}
theorem c13_109_95 (hXY : Y.length = X.length) (h1 : o1 + X.length ≤ 6144) (h2 : o2 + X.length ≤ 7747) (vX : ∀ i x, X[i]? = some x → σ.1 109 (o1 + i) = x) (vY : ∀ i x, Y[i]? = some x → σ.1 95 (o2 + i) = x) (hd : 1 ≤ d) (hQ : Q (.inl (some (.inl (bI (decide (X = Y)))))) κ σ) : my_M e d 13 [.inr (.inr (some 109)), .inl (Int32.ofNat o1), .inr (.inr (some 95)), .inl (Int32.ofNat o2), .inl (Int32.ofNat X.length)] κ σ Q := by
  obtain ⟨d, rfl⟩ := dS 1 hd
  have lp : ∀ (m i : Nat), i + m = X.length → Q (.inl (some (.inl (bI (decide (X.drop i = Y.drop i)))))) κ σ → yp109x95_13_31 e d (Int32.ofNat o1) (Int32.ofNat o2) (Int32.ofNat X.length) (Int32.ofNat i) κ σ Q := fun m => by
    induction m with
    | zero =>
      intro i hi hq
      unfold yp109x95_13_31
      rw [if_neg (by rw [oN_lt (by omega) (by omega)]; omega)]
      rw [List.drop_of_length_le (by omega), List.drop_of_length_le (by omega)] at hq
      exact hq
    | succ m ih =>
      intro i hi hq
      have hiX : i < X.length := by omega
      have hiY : i < Y.length := by omega
      unfold yp109x95_13_31
      rw [if_pos (by rw [oN_lt (by omega) (by omega)]; omega), ← Int32.ofNat_add, ← Int32.ofNat_add, oN_n (by omega), oN_n (by omega), vX i _ (List.getElem?_eq_getElem hiX), vY i _ (List.getElem?_eq_getElem hiY), oN_s]
      refine ⟨bdk (by omega) (by omega), bdk (by omega) (by omega), ?_⟩
      refine my_if (fun c => ?_) (fun c => ?_)
      · refine yp109x95_13_31_ok (ih (i + 1) (by omega) ?_)
        rw [show decide (X.drop i = Y.drop i) = decide (X.drop (i + 1) = Y.drop (i + 1)) from decide_eq_decide.mpr ((dr_e hiX hiY).trans ⟨fun hh => hh.2, fun hh => ⟨c, hh⟩⟩)] at hq
        exact hq
      · rw [decide_eq_false (fun hh => c ((dr_e hiX hiY).mp hh).1)] at hq
        exact hq
  refine yp109x95_13 ?_
  unfold yp109x95_13_0
  rw [if_neg (oN_0 (by omega)), if_neg (oN_0 (by omega)), ← Int32.ofNat_add, ← Int32.ofNat_add, if_neg (fun hh => by have := (oN_lt (p := 6144) (by omega) (by omega)).mp hh; omega), if_neg (fun hh => by have := (oN_lt (p := 7747) (by omega) (by omega)).mp hh; omega)]
  exact yp109x95_13_31_ok (lp X.length 0 (by omega) hQ)
theorem c13_109_102 (hXY : Y.length = X.length) (h1 : o1 + X.length ≤ 6144) (h2 : o2 + X.length ≤ 7747) (vX : ∀ i x, X[i]? = some x → σ.1 109 (o1 + i) = x) (vY : ∀ i x, Y[i]? = some x → σ.1 102 (o2 + i) = x) (hd : 1 ≤ d) (hQ : Q (.inl (some (.inl (bI (decide (X = Y)))))) κ σ) : my_M e d 13 [.inr (.inr (some 109)), .inl (Int32.ofNat o1), .inr (.inr (some 102)), .inl (Int32.ofNat o2), .inl (Int32.ofNat X.length)] κ σ Q := by
  obtain ⟨d, rfl⟩ := dS 1 hd
  have lp : ∀ (m i : Nat), i + m = X.length → Q (.inl (some (.inl (bI (decide (X.drop i = Y.drop i)))))) κ σ → yp109x102_13_31 e d (Int32.ofNat o1) (Int32.ofNat o2) (Int32.ofNat X.length) (Int32.ofNat i) κ σ Q := fun m => by
    induction m with
    | zero =>
      intro i hi hq
      unfold yp109x102_13_31
      rw [if_neg (by rw [oN_lt (by omega) (by omega)]; omega)]
      rw [List.drop_of_length_le (by omega), List.drop_of_length_le (by omega)] at hq
      exact hq
    | succ m ih =>
      intro i hi hq
      have hiX : i < X.length := by omega
      have hiY : i < Y.length := by omega
      unfold yp109x102_13_31
      rw [if_pos (by rw [oN_lt (by omega) (by omega)]; omega), ← Int32.ofNat_add, ← Int32.ofNat_add, oN_n (by omega), oN_n (by omega), vX i _ (List.getElem?_eq_getElem hiX), vY i _ (List.getElem?_eq_getElem hiY), oN_s]
      refine ⟨bdk (by omega) (by omega), bdk (by omega) (by omega), ?_⟩
      refine my_if (fun c => ?_) (fun c => ?_)
      · refine yp109x102_13_31_ok (ih (i + 1) (by omega) ?_)
        rw [show decide (X.drop i = Y.drop i) = decide (X.drop (i + 1) = Y.drop (i + 1)) from decide_eq_decide.mpr ((dr_e hiX hiY).trans ⟨fun hh => hh.2, fun hh => ⟨c, hh⟩⟩)] at hq
        exact hq
      · rw [decide_eq_false (fun hh => c ((dr_e hiX hiY).mp hh).1)] at hq
        exact hq
  refine yp109x102_13 ?_
  unfold yp109x102_13_0
  rw [if_neg (oN_0 (by omega)), if_neg (oN_0 (by omega)), ← Int32.ofNat_add, ← Int32.ofNat_add, if_neg (fun hh => by have := (oN_lt (p := 6144) (by omega) (by omega)).mp hh; omega), if_neg (fun hh => by have := (oN_lt (p := 7747) (by omega) (by omega)).mp hh; omega)]
  exact yp109x102_13_31_ok (lp X.length 0 (by omega) hQ)
theorem c13_239_95 (hXY : Y.length = X.length) (h1 : o1 + X.length ≤ 6144) (h2 : o2 + X.length ≤ 7747) (vX : ∀ i x, X[i]? = some x → σ.1 239 (o1 + i) = x) (vY : ∀ i x, Y[i]? = some x → σ.1 95 (o2 + i) = x) (hd : 1 ≤ d) (hQ : Q (.inl (some (.inl (bI (decide (X = Y)))))) κ σ) : my_M e d 13 [.inr (.inr (some 239)), .inl (Int32.ofNat o1), .inr (.inr (some 95)), .inl (Int32.ofNat o2), .inl (Int32.ofNat X.length)] κ σ Q := by
  obtain ⟨d, rfl⟩ := dS 1 hd
  have lp : ∀ (m i : Nat), i + m = X.length → Q (.inl (some (.inl (bI (decide (X.drop i = Y.drop i)))))) κ σ → yp239x95_13_31 e d (Int32.ofNat o1) (Int32.ofNat o2) (Int32.ofNat X.length) (Int32.ofNat i) κ σ Q := fun m => by
    induction m with
    | zero =>
      intro i hi hq
      unfold yp239x95_13_31
      rw [if_neg (by rw [oN_lt (by omega) (by omega)]; omega)]
      rw [List.drop_of_length_le (by omega), List.drop_of_length_le (by omega)] at hq
      exact hq
    | succ m ih =>
      intro i hi hq
      have hiX : i < X.length := by omega
      have hiY : i < Y.length := by omega
      unfold yp239x95_13_31
      rw [if_pos (by rw [oN_lt (by omega) (by omega)]; omega), ← Int32.ofNat_add, ← Int32.ofNat_add, oN_n (by omega), oN_n (by omega), vX i _ (List.getElem?_eq_getElem hiX), vY i _ (List.getElem?_eq_getElem hiY), oN_s]
      refine ⟨bdk (by omega) (by omega), bdk (by omega) (by omega), ?_⟩
      refine my_if (fun c => ?_) (fun c => ?_)
      · refine yp239x95_13_31_ok (ih (i + 1) (by omega) ?_)
        rw [show decide (X.drop i = Y.drop i) = decide (X.drop (i + 1) = Y.drop (i + 1)) from decide_eq_decide.mpr ((dr_e hiX hiY).trans ⟨fun hh => hh.2, fun hh => ⟨c, hh⟩⟩)] at hq
        exact hq
      · rw [decide_eq_false (fun hh => c ((dr_e hiX hiY).mp hh).1)] at hq
        exact hq
  refine yp239x95_13 ?_
  unfold yp239x95_13_0
  rw [if_neg (oN_0 (by omega)), if_neg (oN_0 (by omega)), ← Int32.ofNat_add, ← Int32.ofNat_add, if_neg (fun hh => by have := (oN_lt (p := 6144) (by omega) (by omega)).mp hh; omega), if_neg (fun hh => by have := (oN_lt (p := 7747) (by omega) (by omega)).mp hh; omega)]
  exact yp239x95_13_31_ok (lp X.length 0 (by omega) hQ)
theorem c13_239_102 (hXY : Y.length = X.length) (h1 : o1 + X.length ≤ 6144) (h2 : o2 + X.length ≤ 7747) (vX : ∀ i x, X[i]? = some x → σ.1 239 (o1 + i) = x) (vY : ∀ i x, Y[i]? = some x → σ.1 102 (o2 + i) = x) (hd : 1 ≤ d) (hQ : Q (.inl (some (.inl (bI (decide (X = Y)))))) κ σ) : my_M e d 13 [.inr (.inr (some 239)), .inl (Int32.ofNat o1), .inr (.inr (some 102)), .inl (Int32.ofNat o2), .inl (Int32.ofNat X.length)] κ σ Q := by
  obtain ⟨d, rfl⟩ := dS 1 hd
  have lp : ∀ (m i : Nat), i + m = X.length → Q (.inl (some (.inl (bI (decide (X.drop i = Y.drop i)))))) κ σ → yp239x102_13_31 e d (Int32.ofNat o1) (Int32.ofNat o2) (Int32.ofNat X.length) (Int32.ofNat i) κ σ Q := fun m => by
    induction m with
    | zero =>
      intro i hi hq
      unfold yp239x102_13_31
      rw [if_neg (by rw [oN_lt (by omega) (by omega)]; omega)]
      rw [List.drop_of_length_le (by omega), List.drop_of_length_le (by omega)] at hq
      exact hq
    | succ m ih =>
      intro i hi hq
      have hiX : i < X.length := by omega
      have hiY : i < Y.length := by omega
      unfold yp239x102_13_31
      rw [if_pos (by rw [oN_lt (by omega) (by omega)]; omega), ← Int32.ofNat_add, ← Int32.ofNat_add, oN_n (by omega), oN_n (by omega), vX i _ (List.getElem?_eq_getElem hiX), vY i _ (List.getElem?_eq_getElem hiY), oN_s]
      refine ⟨bdk (by omega) (by omega), bdk (by omega) (by omega), ?_⟩
      refine my_if (fun c => ?_) (fun c => ?_)
      · refine yp239x102_13_31_ok (ih (i + 1) (by omega) ?_)
        rw [show decide (X.drop i = Y.drop i) = decide (X.drop (i + 1) = Y.drop (i + 1)) from decide_eq_decide.mpr ((dr_e hiX hiY).trans ⟨fun hh => hh.2, fun hh => ⟨c, hh⟩⟩)] at hq
        exact hq
      · rw [decide_eq_false (fun hh => c ((dr_e hiX hiY).mp hh).1)] at hq
        exact hq
  refine yp239x102_13 ?_
  unfold yp239x102_13_0
  rw [if_neg (oN_0 (by omega)), if_neg (oN_0 (by omega)), ← Int32.ofNat_add, ← Int32.ofNat_add, if_neg (fun hh => by have := (oN_lt (p := 6144) (by omega) (by omega)).mp hh; omega), if_neg (fun hh => by have := (oN_lt (p := 7747) (by omega) (by omega)).mp hh; omega)]
  exact yp239x102_13_31_ok (lp X.length 0 (by omega) hQ)
theorem c13_369_95 (hXY : Y.length = X.length) (h1 : o1 + X.length ≤ 6144) (h2 : o2 + X.length ≤ 7747) (vX : ∀ i x, X[i]? = some x → σ.1 369 (o1 + i) = x) (vY : ∀ i x, Y[i]? = some x → σ.1 95 (o2 + i) = x) (hd : 1 ≤ d) (hQ : Q (.inl (some (.inl (bI (decide (X = Y)))))) κ σ) : my_M e d 13 [.inr (.inr (some 369)), .inl (Int32.ofNat o1), .inr (.inr (some 95)), .inl (Int32.ofNat o2), .inl (Int32.ofNat X.length)] κ σ Q := by
  obtain ⟨d, rfl⟩ := dS 1 hd
  have lp : ∀ (m i : Nat), i + m = X.length → Q (.inl (some (.inl (bI (decide (X.drop i = Y.drop i)))))) κ σ → yp369x95_13_31 e d (Int32.ofNat o1) (Int32.ofNat o2) (Int32.ofNat X.length) (Int32.ofNat i) κ σ Q := fun m => by
    induction m with
    | zero =>
      intro i hi hq
      unfold yp369x95_13_31
      rw [if_neg (by rw [oN_lt (by omega) (by omega)]; omega)]
      rw [List.drop_of_length_le (by omega), List.drop_of_length_le (by omega)] at hq
      exact hq
    | succ m ih =>
      intro i hi hq
      have hiX : i < X.length := by omega
      have hiY : i < Y.length := by omega
      unfold yp369x95_13_31
      rw [if_pos (by rw [oN_lt (by omega) (by omega)]; omega), ← Int32.ofNat_add, ← Int32.ofNat_add, oN_n (by omega), oN_n (by omega), vX i _ (List.getElem?_eq_getElem hiX), vY i _ (List.getElem?_eq_getElem hiY), oN_s]
      refine ⟨bdk (by omega) (by omega), bdk (by omega) (by omega), ?_⟩
      refine my_if (fun c => ?_) (fun c => ?_)
      · refine yp369x95_13_31_ok (ih (i + 1) (by omega) ?_)
        rw [show decide (X.drop i = Y.drop i) = decide (X.drop (i + 1) = Y.drop (i + 1)) from decide_eq_decide.mpr ((dr_e hiX hiY).trans ⟨fun hh => hh.2, fun hh => ⟨c, hh⟩⟩)] at hq
        exact hq
      · rw [decide_eq_false (fun hh => c ((dr_e hiX hiY).mp hh).1)] at hq
        exact hq
  refine yp369x95_13 ?_
  unfold yp369x95_13_0
  rw [if_neg (oN_0 (by omega)), if_neg (oN_0 (by omega)), ← Int32.ofNat_add, ← Int32.ofNat_add, if_neg (fun hh => by have := (oN_lt (p := 6144) (by omega) (by omega)).mp hh; omega), if_neg (fun hh => by have := (oN_lt (p := 7747) (by omega) (by omega)).mp hh; omega)]
  exact yp369x95_13_31_ok (lp X.length 0 (by omega) hQ)
theorem c13_369_102 (hXY : Y.length = X.length) (h1 : o1 + X.length ≤ 6144) (h2 : o2 + X.length ≤ 7747) (vX : ∀ i x, X[i]? = some x → σ.1 369 (o1 + i) = x) (vY : ∀ i x, Y[i]? = some x → σ.1 102 (o2 + i) = x) (hd : 1 ≤ d) (hQ : Q (.inl (some (.inl (bI (decide (X = Y)))))) κ σ) : my_M e d 13 [.inr (.inr (some 369)), .inl (Int32.ofNat o1), .inr (.inr (some 102)), .inl (Int32.ofNat o2), .inl (Int32.ofNat X.length)] κ σ Q := by
  obtain ⟨d, rfl⟩ := dS 1 hd
  have lp : ∀ (m i : Nat), i + m = X.length → Q (.inl (some (.inl (bI (decide (X.drop i = Y.drop i)))))) κ σ → yp369x102_13_31 e d (Int32.ofNat o1) (Int32.ofNat o2) (Int32.ofNat X.length) (Int32.ofNat i) κ σ Q := fun m => by
    induction m with
    | zero =>
      intro i hi hq
      unfold yp369x102_13_31
      rw [if_neg (by rw [oN_lt (by omega) (by omega)]; omega)]
      rw [List.drop_of_length_le (by omega), List.drop_of_length_le (by omega)] at hq
      exact hq
    | succ m ih =>
      intro i hi hq
      have hiX : i < X.length := by omega
      have hiY : i < Y.length := by omega
      unfold yp369x102_13_31
      rw [if_pos (by rw [oN_lt (by omega) (by omega)]; omega), ← Int32.ofNat_add, ← Int32.ofNat_add, oN_n (by omega), oN_n (by omega), vX i _ (List.getElem?_eq_getElem hiX), vY i _ (List.getElem?_eq_getElem hiY), oN_s]
      refine ⟨bdk (by omega) (by omega), bdk (by omega) (by omega), ?_⟩
      refine my_if (fun c => ?_) (fun c => ?_)
      · refine yp369x102_13_31_ok (ih (i + 1) (by omega) ?_)
        rw [show decide (X.drop i = Y.drop i) = decide (X.drop (i + 1) = Y.drop (i + 1)) from decide_eq_decide.mpr ((dr_e hiX hiY).trans ⟨fun hh => hh.2, fun hh => ⟨c, hh⟩⟩)] at hq
        exact hq
      · rw [decide_eq_false (fun hh => c ((dr_e hiX hiY).mp hh).1)] at hq
        exact hq
  refine yp369x102_13 ?_
  unfold yp369x102_13_0
  rw [if_neg (oN_0 (by omega)), if_neg (oN_0 (by omega)), ← Int32.ofNat_add, ← Int32.ofNat_add, if_neg (fun hh => by have := (oN_lt (p := 6144) (by omega) (by omega)).mp hh; omega), if_neg (fun hh => by have := (oN_lt (p := 7747) (by omega) (by omega)).mp hh; omega)]
  exact yp369x102_13_31_ok (lp X.length 0 (by omega) hQ)
theorem c13_95_109 (hXY : Y.length = X.length) (h1 : o1 + X.length ≤ 7747) (h2 : o2 + X.length ≤ 6144) (vX : ∀ i x, X[i]? = some x → σ.1 95 (o1 + i) = x) (vY : ∀ i x, Y[i]? = some x → σ.1 109 (o2 + i) = x) (hd : 1 ≤ d) (hQ : Q (.inl (some (.inl (bI (decide (X = Y)))))) κ σ) : my_M e d 13 [.inr (.inr (some 95)), .inl (Int32.ofNat o1), .inr (.inr (some 109)), .inl (Int32.ofNat o2), .inl (Int32.ofNat X.length)] κ σ Q := by
  obtain ⟨d, rfl⟩ := dS 1 hd
  have lp : ∀ (m i : Nat), i + m = X.length → Q (.inl (some (.inl (bI (decide (X.drop i = Y.drop i)))))) κ σ → yp95x109_13_31 e d (Int32.ofNat o1) (Int32.ofNat o2) (Int32.ofNat X.length) (Int32.ofNat i) κ σ Q := fun m => by
    induction m with
    | zero =>
      intro i hi hq
      unfold yp95x109_13_31
      rw [if_neg (by rw [oN_lt (by omega) (by omega)]; omega)]
      rw [List.drop_of_length_le (by omega), List.drop_of_length_le (by omega)] at hq
      exact hq
    | succ m ih =>
      intro i hi hq
      have hiX : i < X.length := by omega
      have hiY : i < Y.length := by omega
      unfold yp95x109_13_31
      rw [if_pos (by rw [oN_lt (by omega) (by omega)]; omega), ← Int32.ofNat_add, ← Int32.ofNat_add, oN_n (by omega), oN_n (by omega), vX i _ (List.getElem?_eq_getElem hiX), vY i _ (List.getElem?_eq_getElem hiY), oN_s]
      refine ⟨bdk (by omega) (by omega), bdk (by omega) (by omega), ?_⟩
      refine my_if (fun c => ?_) (fun c => ?_)
      · refine yp95x109_13_31_ok (ih (i + 1) (by omega) ?_)
        rw [show decide (X.drop i = Y.drop i) = decide (X.drop (i + 1) = Y.drop (i + 1)) from decide_eq_decide.mpr ((dr_e hiX hiY).trans ⟨fun hh => hh.2, fun hh => ⟨c, hh⟩⟩)] at hq
        exact hq
      · rw [decide_eq_false (fun hh => c ((dr_e hiX hiY).mp hh).1)] at hq
        exact hq
  refine yp95x109_13 ?_
  unfold yp95x109_13_0
  rw [if_neg (oN_0 (by omega)), if_neg (oN_0 (by omega)), ← Int32.ofNat_add, ← Int32.ofNat_add, if_neg (fun hh => by have := (oN_lt (p := 7747) (by omega) (by omega)).mp hh; omega), if_neg (fun hh => by have := (oN_lt (p := 6144) (by omega) (by omega)).mp hh; omega)]
  exact yp95x109_13_31_ok (lp X.length 0 (by omega) hQ)
theorem c13_95_239 (hXY : Y.length = X.length) (h1 : o1 + X.length ≤ 7747) (h2 : o2 + X.length ≤ 6144) (vX : ∀ i x, X[i]? = some x → σ.1 95 (o1 + i) = x) (vY : ∀ i x, Y[i]? = some x → σ.1 239 (o2 + i) = x) (hd : 1 ≤ d) (hQ : Q (.inl (some (.inl (bI (decide (X = Y)))))) κ σ) : my_M e d 13 [.inr (.inr (some 95)), .inl (Int32.ofNat o1), .inr (.inr (some 239)), .inl (Int32.ofNat o2), .inl (Int32.ofNat X.length)] κ σ Q := by
  obtain ⟨d, rfl⟩ := dS 1 hd
  have lp : ∀ (m i : Nat), i + m = X.length → Q (.inl (some (.inl (bI (decide (X.drop i = Y.drop i)))))) κ σ → yp95x239_13_31 e d (Int32.ofNat o1) (Int32.ofNat o2) (Int32.ofNat X.length) (Int32.ofNat i) κ σ Q := fun m => by
    induction m with
    | zero =>
      intro i hi hq
      unfold yp95x239_13_31
      rw [if_neg (by rw [oN_lt (by omega) (by omega)]; omega)]
      rw [List.drop_of_length_le (by omega), List.drop_of_length_le (by omega)] at hq
      exact hq
    | succ m ih =>
      intro i hi hq
      have hiX : i < X.length := by omega
      have hiY : i < Y.length := by omega
      unfold yp95x239_13_31
      rw [if_pos (by rw [oN_lt (by omega) (by omega)]; omega), ← Int32.ofNat_add, ← Int32.ofNat_add, oN_n (by omega), oN_n (by omega), vX i _ (List.getElem?_eq_getElem hiX), vY i _ (List.getElem?_eq_getElem hiY), oN_s]
      refine ⟨bdk (by omega) (by omega), bdk (by omega) (by omega), ?_⟩
      refine my_if (fun c => ?_) (fun c => ?_)
      · refine yp95x239_13_31_ok (ih (i + 1) (by omega) ?_)
        rw [show decide (X.drop i = Y.drop i) = decide (X.drop (i + 1) = Y.drop (i + 1)) from decide_eq_decide.mpr ((dr_e hiX hiY).trans ⟨fun hh => hh.2, fun hh => ⟨c, hh⟩⟩)] at hq
        exact hq
      · rw [decide_eq_false (fun hh => c ((dr_e hiX hiY).mp hh).1)] at hq
        exact hq
  refine yp95x239_13 ?_
  unfold yp95x239_13_0
  rw [if_neg (oN_0 (by omega)), if_neg (oN_0 (by omega)), ← Int32.ofNat_add, ← Int32.ofNat_add, if_neg (fun hh => by have := (oN_lt (p := 7747) (by omega) (by omega)).mp hh; omega), if_neg (fun hh => by have := (oN_lt (p := 6144) (by omega) (by omega)).mp hh; omega)]
  exact yp95x239_13_31_ok (lp X.length 0 (by omega) hQ)
theorem c13_95_369 (hXY : Y.length = X.length) (h1 : o1 + X.length ≤ 7747) (h2 : o2 + X.length ≤ 6144) (vX : ∀ i x, X[i]? = some x → σ.1 95 (o1 + i) = x) (vY : ∀ i x, Y[i]? = some x → σ.1 369 (o2 + i) = x) (hd : 1 ≤ d) (hQ : Q (.inl (some (.inl (bI (decide (X = Y)))))) κ σ) : my_M e d 13 [.inr (.inr (some 95)), .inl (Int32.ofNat o1), .inr (.inr (some 369)), .inl (Int32.ofNat o2), .inl (Int32.ofNat X.length)] κ σ Q := by
  obtain ⟨d, rfl⟩ := dS 1 hd
  have lp : ∀ (m i : Nat), i + m = X.length → Q (.inl (some (.inl (bI (decide (X.drop i = Y.drop i)))))) κ σ → yp95x369_13_31 e d (Int32.ofNat o1) (Int32.ofNat o2) (Int32.ofNat X.length) (Int32.ofNat i) κ σ Q := fun m => by
    induction m with
    | zero =>
      intro i hi hq
      unfold yp95x369_13_31
      rw [if_neg (by rw [oN_lt (by omega) (by omega)]; omega)]
      rw [List.drop_of_length_le (by omega), List.drop_of_length_le (by omega)] at hq
      exact hq
    | succ m ih =>
      intro i hi hq
      have hiX : i < X.length := by omega
      have hiY : i < Y.length := by omega
      unfold yp95x369_13_31
      rw [if_pos (by rw [oN_lt (by omega) (by omega)]; omega), ← Int32.ofNat_add, ← Int32.ofNat_add, oN_n (by omega), oN_n (by omega), vX i _ (List.getElem?_eq_getElem hiX), vY i _ (List.getElem?_eq_getElem hiY), oN_s]
      refine ⟨bdk (by omega) (by omega), bdk (by omega) (by omega), ?_⟩
      refine my_if (fun c => ?_) (fun c => ?_)
      · refine yp95x369_13_31_ok (ih (i + 1) (by omega) ?_)
        rw [show decide (X.drop i = Y.drop i) = decide (X.drop (i + 1) = Y.drop (i + 1)) from decide_eq_decide.mpr ((dr_e hiX hiY).trans ⟨fun hh => hh.2, fun hh => ⟨c, hh⟩⟩)] at hq
        exact hq
      · rw [decide_eq_false (fun hh => c ((dr_e hiX hiY).mp hh).1)] at hq
        exact hq
  refine yp95x369_13 ?_
  unfold yp95x369_13_0
  rw [if_neg (oN_0 (by omega)), if_neg (oN_0 (by omega)), ← Int32.ofNat_add, ← Int32.ofNat_add, if_neg (fun hh => by have := (oN_lt (p := 7747) (by omega) (by omega)).mp hh; omega), if_neg (fun hh => by have := (oN_lt (p := 6144) (by omega) (by omega)).mp hh; omega)]
  exact yp95x369_13_31_ok (lp X.length 0 (by omega) hQ)
theorem c13_102_109 (hXY : Y.length = X.length) (h1 : o1 + X.length ≤ 7747) (h2 : o2 + X.length ≤ 6144) (vX : ∀ i x, X[i]? = some x → σ.1 102 (o1 + i) = x) (vY : ∀ i x, Y[i]? = some x → σ.1 109 (o2 + i) = x) (hd : 1 ≤ d) (hQ : Q (.inl (some (.inl (bI (decide (X = Y)))))) κ σ) : my_M e d 13 [.inr (.inr (some 102)), .inl (Int32.ofNat o1), .inr (.inr (some 109)), .inl (Int32.ofNat o2), .inl (Int32.ofNat X.length)] κ σ Q := by
  obtain ⟨d, rfl⟩ := dS 1 hd
  have lp : ∀ (m i : Nat), i + m = X.length → Q (.inl (some (.inl (bI (decide (X.drop i = Y.drop i)))))) κ σ → yp102x109_13_31 e d (Int32.ofNat o1) (Int32.ofNat o2) (Int32.ofNat X.length) (Int32.ofNat i) κ σ Q := fun m => by
    induction m with
    | zero =>
      intro i hi hq
      unfold yp102x109_13_31
      rw [if_neg (by rw [oN_lt (by omega) (by omega)]; omega)]
      rw [List.drop_of_length_le (by omega), List.drop_of_length_le (by omega)] at hq
      exact hq
    | succ m ih =>
      intro i hi hq
      have hiX : i < X.length := by omega
      have hiY : i < Y.length := by omega
      unfold yp102x109_13_31
      rw [if_pos (by rw [oN_lt (by omega) (by omega)]; omega), ← Int32.ofNat_add, ← Int32.ofNat_add, oN_n (by omega), oN_n (by omega), vX i _ (List.getElem?_eq_getElem hiX), vY i _ (List.getElem?_eq_getElem hiY), oN_s]
      refine ⟨bdk (by omega) (by omega), bdk (by omega) (by omega), ?_⟩
      refine my_if (fun c => ?_) (fun c => ?_)
      · refine yp102x109_13_31_ok (ih (i + 1) (by omega) ?_)
        rw [show decide (X.drop i = Y.drop i) = decide (X.drop (i + 1) = Y.drop (i + 1)) from decide_eq_decide.mpr ((dr_e hiX hiY).trans ⟨fun hh => hh.2, fun hh => ⟨c, hh⟩⟩)] at hq
        exact hq
      · rw [decide_eq_false (fun hh => c ((dr_e hiX hiY).mp hh).1)] at hq
        exact hq
  refine yp102x109_13 ?_
  unfold yp102x109_13_0
  rw [if_neg (oN_0 (by omega)), if_neg (oN_0 (by omega)), ← Int32.ofNat_add, ← Int32.ofNat_add, if_neg (fun hh => by have := (oN_lt (p := 7747) (by omega) (by omega)).mp hh; omega), if_neg (fun hh => by have := (oN_lt (p := 6144) (by omega) (by omega)).mp hh; omega)]
  exact yp102x109_13_31_ok (lp X.length 0 (by omega) hQ)
theorem c13_102_239 (hXY : Y.length = X.length) (h1 : o1 + X.length ≤ 7747) (h2 : o2 + X.length ≤ 6144) (vX : ∀ i x, X[i]? = some x → σ.1 102 (o1 + i) = x) (vY : ∀ i x, Y[i]? = some x → σ.1 239 (o2 + i) = x) (hd : 1 ≤ d) (hQ : Q (.inl (some (.inl (bI (decide (X = Y)))))) κ σ) : my_M e d 13 [.inr (.inr (some 102)), .inl (Int32.ofNat o1), .inr (.inr (some 239)), .inl (Int32.ofNat o2), .inl (Int32.ofNat X.length)] κ σ Q := by
  obtain ⟨d, rfl⟩ := dS 1 hd
  have lp : ∀ (m i : Nat), i + m = X.length → Q (.inl (some (.inl (bI (decide (X.drop i = Y.drop i)))))) κ σ → yp102x239_13_31 e d (Int32.ofNat o1) (Int32.ofNat o2) (Int32.ofNat X.length) (Int32.ofNat i) κ σ Q := fun m => by
    induction m with
    | zero =>
      intro i hi hq
      unfold yp102x239_13_31
      rw [if_neg (by rw [oN_lt (by omega) (by omega)]; omega)]
      rw [List.drop_of_length_le (by omega), List.drop_of_length_le (by omega)] at hq
      exact hq
    | succ m ih =>
      intro i hi hq
      have hiX : i < X.length := by omega
      have hiY : i < Y.length := by omega
      unfold yp102x239_13_31
      rw [if_pos (by rw [oN_lt (by omega) (by omega)]; omega), ← Int32.ofNat_add, ← Int32.ofNat_add, oN_n (by omega), oN_n (by omega), vX i _ (List.getElem?_eq_getElem hiX), vY i _ (List.getElem?_eq_getElem hiY), oN_s]
      refine ⟨bdk (by omega) (by omega), bdk (by omega) (by omega), ?_⟩
      refine my_if (fun c => ?_) (fun c => ?_)
      · refine yp102x239_13_31_ok (ih (i + 1) (by omega) ?_)
        rw [show decide (X.drop i = Y.drop i) = decide (X.drop (i + 1) = Y.drop (i + 1)) from decide_eq_decide.mpr ((dr_e hiX hiY).trans ⟨fun hh => hh.2, fun hh => ⟨c, hh⟩⟩)] at hq
        exact hq
      · rw [decide_eq_false (fun hh => c ((dr_e hiX hiY).mp hh).1)] at hq
        exact hq
  refine yp102x239_13 ?_
  unfold yp102x239_13_0
  rw [if_neg (oN_0 (by omega)), if_neg (oN_0 (by omega)), ← Int32.ofNat_add, ← Int32.ofNat_add, if_neg (fun hh => by have := (oN_lt (p := 7747) (by omega) (by omega)).mp hh; omega), if_neg (fun hh => by have := (oN_lt (p := 6144) (by omega) (by omega)).mp hh; omega)]
  exact yp102x239_13_31_ok (lp X.length 0 (by omega) hQ)
theorem c13_102_369 (hXY : Y.length = X.length) (h1 : o1 + X.length ≤ 7747) (h2 : o2 + X.length ≤ 6144) (vX : ∀ i x, X[i]? = some x → σ.1 102 (o1 + i) = x) (vY : ∀ i x, Y[i]? = some x → σ.1 369 (o2 + i) = x) (hd : 1 ≤ d) (hQ : Q (.inl (some (.inl (bI (decide (X = Y)))))) κ σ) : my_M e d 13 [.inr (.inr (some 102)), .inl (Int32.ofNat o1), .inr (.inr (some 369)), .inl (Int32.ofNat o2), .inl (Int32.ofNat X.length)] κ σ Q := by
  obtain ⟨d, rfl⟩ := dS 1 hd
  have lp : ∀ (m i : Nat), i + m = X.length → Q (.inl (some (.inl (bI (decide (X.drop i = Y.drop i)))))) κ σ → yp102x369_13_31 e d (Int32.ofNat o1) (Int32.ofNat o2) (Int32.ofNat X.length) (Int32.ofNat i) κ σ Q := fun m => by
    induction m with
    | zero =>
      intro i hi hq
      unfold yp102x369_13_31
      rw [if_neg (by rw [oN_lt (by omega) (by omega)]; omega)]
      rw [List.drop_of_length_le (by omega), List.drop_of_length_le (by omega)] at hq
      exact hq
    | succ m ih =>
      intro i hi hq
      have hiX : i < X.length := by omega
      have hiY : i < Y.length := by omega
      unfold yp102x369_13_31
      rw [if_pos (by rw [oN_lt (by omega) (by omega)]; omega), ← Int32.ofNat_add, ← Int32.ofNat_add, oN_n (by omega), oN_n (by omega), vX i _ (List.getElem?_eq_getElem hiX), vY i _ (List.getElem?_eq_getElem hiY), oN_s]
      refine ⟨bdk (by omega) (by omega), bdk (by omega) (by omega), ?_⟩
      refine my_if (fun c => ?_) (fun c => ?_)
      · refine yp102x369_13_31_ok (ih (i + 1) (by omega) ?_)
        rw [show decide (X.drop i = Y.drop i) = decide (X.drop (i + 1) = Y.drop (i + 1)) from decide_eq_decide.mpr ((dr_e hiX hiY).trans ⟨fun hh => hh.2, fun hh => ⟨c, hh⟩⟩)] at hq
        exact hq
      · rw [decide_eq_false (fun hh => c ((dr_e hiX hiY).mp hh).1)] at hq
        exact hq
  refine yp102x369_13 ?_
  unfold yp102x369_13_0
  rw [if_neg (oN_0 (by omega)), if_neg (oN_0 (by omega)), ← Int32.ofNat_add, ← Int32.ofNat_add, if_neg (fun hh => by have := (oN_lt (p := 7747) (by omega) (by omega)).mp hh; omega), if_neg (fun hh => by have := (oN_lt (p := 6144) (by omega) (by omega)).mp hh; omega)]
  exact yp102x369_13_31_ok (lp X.length 0 (by omega) hQ)
theorem c13_95_102 (hXY : Y.length = X.length) (h1 : o1 + X.length ≤ 7747) (h2 : o2 + X.length ≤ 7747) (vX : ∀ i x, X[i]? = some x → σ.1 95 (o1 + i) = x) (vY : ∀ i x, Y[i]? = some x → σ.1 102 (o2 + i) = x) (hd : 1 ≤ d) (hQ : Q (.inl (some (.inl (bI (decide (X = Y)))))) κ σ) : my_M e d 13 [.inr (.inr (some 95)), .inl (Int32.ofNat o1), .inr (.inr (some 102)), .inl (Int32.ofNat o2), .inl (Int32.ofNat X.length)] κ σ Q := by
  obtain ⟨d, rfl⟩ := dS 1 hd
  have lp : ∀ (m i : Nat), i + m = X.length → Q (.inl (some (.inl (bI (decide (X.drop i = Y.drop i)))))) κ σ → yp95x102_13_31 e d (Int32.ofNat o1) (Int32.ofNat o2) (Int32.ofNat X.length) (Int32.ofNat i) κ σ Q := fun m => by
    induction m with
    | zero =>
      intro i hi hq
      unfold yp95x102_13_31
      rw [if_neg (by rw [oN_lt (by omega) (by omega)]; omega)]
      rw [List.drop_of_length_le (by omega), List.drop_of_length_le (by omega)] at hq
      exact hq
    | succ m ih =>
      intro i hi hq
      have hiX : i < X.length := by omega
      have hiY : i < Y.length := by omega
      unfold yp95x102_13_31
      rw [if_pos (by rw [oN_lt (by omega) (by omega)]; omega), ← Int32.ofNat_add, ← Int32.ofNat_add, oN_n (by omega), oN_n (by omega), vX i _ (List.getElem?_eq_getElem hiX), vY i _ (List.getElem?_eq_getElem hiY), oN_s]
      refine ⟨bdk (by omega) (by omega), bdk (by omega) (by omega), ?_⟩
      refine my_if (fun c => ?_) (fun c => ?_)
      · refine yp95x102_13_31_ok (ih (i + 1) (by omega) ?_)
        rw [show decide (X.drop i = Y.drop i) = decide (X.drop (i + 1) = Y.drop (i + 1)) from decide_eq_decide.mpr ((dr_e hiX hiY).trans ⟨fun hh => hh.2, fun hh => ⟨c, hh⟩⟩)] at hq
        exact hq
      · rw [decide_eq_false (fun hh => c ((dr_e hiX hiY).mp hh).1)] at hq
        exact hq
  refine yp95x102_13 ?_
  unfold yp95x102_13_0
  rw [if_neg (oN_0 (by omega)), if_neg (oN_0 (by omega)), ← Int32.ofNat_add, ← Int32.ofNat_add, if_neg (fun hh => by have := (oN_lt (p := 7747) (by omega) (by omega)).mp hh; omega), if_neg (fun hh => by have := (oN_lt (p := 7747) (by omega) (by omega)).mp hh; omega)]
  exact yp95x102_13_31_ok (lp X.length 0 (by omega) hQ)
theorem c13_102_95 (hXY : Y.length = X.length) (h1 : o1 + X.length ≤ 7747) (h2 : o2 + X.length ≤ 7747) (vX : ∀ i x, X[i]? = some x → σ.1 102 (o1 + i) = x) (vY : ∀ i x, Y[i]? = some x → σ.1 95 (o2 + i) = x) (hd : 1 ≤ d) (hQ : Q (.inl (some (.inl (bI (decide (X = Y)))))) κ σ) : my_M e d 13 [.inr (.inr (some 102)), .inl (Int32.ofNat o1), .inr (.inr (some 95)), .inl (Int32.ofNat o2), .inl (Int32.ofNat X.length)] κ σ Q := by
  obtain ⟨d, rfl⟩ := dS 1 hd
  have lp : ∀ (m i : Nat), i + m = X.length → Q (.inl (some (.inl (bI (decide (X.drop i = Y.drop i)))))) κ σ → yp102x95_13_31 e d (Int32.ofNat o1) (Int32.ofNat o2) (Int32.ofNat X.length) (Int32.ofNat i) κ σ Q := fun m => by
    induction m with
    | zero =>
      intro i hi hq
      unfold yp102x95_13_31
      rw [if_neg (by rw [oN_lt (by omega) (by omega)]; omega)]
      rw [List.drop_of_length_le (by omega), List.drop_of_length_le (by omega)] at hq
      exact hq
    | succ m ih =>
      intro i hi hq
      have hiX : i < X.length := by omega
      have hiY : i < Y.length := by omega
      unfold yp102x95_13_31
      rw [if_pos (by rw [oN_lt (by omega) (by omega)]; omega), ← Int32.ofNat_add, ← Int32.ofNat_add, oN_n (by omega), oN_n (by omega), vX i _ (List.getElem?_eq_getElem hiX), vY i _ (List.getElem?_eq_getElem hiY), oN_s]
      refine ⟨bdk (by omega) (by omega), bdk (by omega) (by omega), ?_⟩
      refine my_if (fun c => ?_) (fun c => ?_)
      · refine yp102x95_13_31_ok (ih (i + 1) (by omega) ?_)
        rw [show decide (X.drop i = Y.drop i) = decide (X.drop (i + 1) = Y.drop (i + 1)) from decide_eq_decide.mpr ((dr_e hiX hiY).trans ⟨fun hh => hh.2, fun hh => ⟨c, hh⟩⟩)] at hq
        exact hq
      · rw [decide_eq_false (fun hh => c ((dr_e hiX hiY).mp hh).1)] at hq
        exact hq
  refine yp102x95_13 ?_
  unfold yp102x95_13_0
  rw [if_neg (oN_0 (by omega)), if_neg (oN_0 (by omega)), ← Int32.ofNat_add, ← Int32.ofNat_add, if_neg (fun hh => by have := (oN_lt (p := 7747) (by omega) (by omega)).mp hh; omega), if_neg (fun hh => by have := (oN_lt (p := 7747) (by omega) (by omega)).mp hh; omega)]
  exact yp102x95_13_31_ok (lp X.length 0 (by omega) hQ)
def lg2 (A : Nat) : Prop := A = 94 ∨ A = 101
theorem c13_rl {rv A : Nat} (hrv : rv = 108 ∨ rv = 238 ∨ rv = 368) (hA : lg2 A) (hXY : Y.length = X.length) (h1 : o1 + X.length ≤ 6144) (h2 : o2 + X.length ≤ 7747) (vX : ∀ i x, X[i]? = some x → σ.1 (rv + 1) (o1 + i) = x) (vY : ∀ i x, Y[i]? = some x → σ.1 (A + 1) (o2 + i) = x) (hd : 1 ≤ d) (hQ : Q (.inl (some (.inl (bI (decide (X = Y)))))) κ σ) : my_M e d 13 [.inr (.inr (some (rv + 1))), .inl (Int32.ofNat o1), .inr (.inr (some (A + 1))), .inl (Int32.ofNat o2), .inl (Int32.ofNat X.length)] κ σ Q := by
  rcases hrv with rfl | rfl | rfl <;> rcases hA with rfl | rfl
  · exact c13_109_95 hXY h1 h2 vX vY hd hQ
  · exact c13_109_102 hXY h1 h2 vX vY hd hQ
  · exact c13_239_95 hXY h1 h2 vX vY hd hQ
  · exact c13_239_102 hXY h1 h2 vX vY hd hQ
  · exact c13_369_95 hXY h1 h2 vX vY hd hQ
  · exact c13_369_102 hXY h1 h2 vX vY hd hQ
theorem c13_lr {rv A : Nat} (hrv : rv = 108 ∨ rv = 238 ∨ rv = 368) (hA : lg2 A) (hXY : Y.length = X.length) (h1 : o1 + X.length ≤ 7747) (h2 : o2 + X.length ≤ 6144) (vX : ∀ i x, X[i]? = some x → σ.1 (A + 1) (o1 + i) = x) (vY : ∀ i x, Y[i]? = some x → σ.1 (rv + 1) (o2 + i) = x) (hd : 1 ≤ d) (hQ : Q (.inl (some (.inl (bI (decide (X = Y)))))) κ σ) : my_M e d 13 [.inr (.inr (some (A + 1))), .inl (Int32.ofNat o1), .inr (.inr (some (rv + 1))), .inl (Int32.ofNat o2), .inl (Int32.ofNat X.length)] κ σ Q := by
  rcases hrv with rfl | rfl | rfl <;> rcases hA with rfl | rfl
  · exact c13_95_109 hXY h1 h2 vX vY hd hQ
  · exact c13_102_109 hXY h1 h2 vX vY hd hQ
  · exact c13_95_239 hXY h1 h2 vX vY hd hQ
  · exact c13_102_239 hXY h1 h2 vX vY hd hQ
  · exact c13_95_369 hXY h1 h2 vX vY hd hQ
  · exact c13_102_369 hXY h1 h2 vX vY hd hQ
theorem c13_ll {A B : Nat} (hA : lg2 A) (hB : lg2 B) (hne : A ≠ B) (hXY : Y.length = X.length) (h1 : o1 + X.length ≤ 7747) (h2 : o2 + X.length ≤ 7747) (vX : ∀ i x, X[i]? = some x → σ.1 (A + 1) (o1 + i) = x) (vY : ∀ i x, Y[i]? = some x → σ.1 (B + 1) (o2 + i) = x) (hd : 1 ≤ d) (hQ : Q (.inl (some (.inl (bI (decide (X = Y)))))) κ σ) : my_M e d 13 [.inr (.inr (some (A + 1))), .inl (Int32.ofNat o1), .inr (.inr (some (B + 1))), .inl (Int32.ofNat o2), .inl (Int32.ofNat X.length)] κ σ Q := by
  rcases hA with rfl | rfl <;> rcases hB with rfl | rfl
  · exact absurd rfl hne
  · exact c13_95_102 hXY h1 h2 vX vY hd hQ
  · exact c13_102_95 hXY h1 h2 vX vY hd hQ
  · exact absurd rfl hne
end MSB
