
/-! ===== change: the class's ===== -/
section MKJ
variable {e : my_E} {d : Nat} {κ : my_K} {σ : my_S} {Q : my_O → my_K → my_S → Prop} {As Bs : List Ri} {I I' : List It} {rv ol : Nat} {X Y : List Int32} {o1 o2 : Nat}
theorem dr_e {i : Nat} (h1 : i < X.length) (h2 : i < Y.length) : (X.drop i = Y.drop i) ↔ (X[i] = Y[i] ∧ X.drop (i + 1) = Y.drop (i + 1)) := by
  rw [List.drop_eq_getElem_cons h1, List.drop_eq_getElem_cons h2, List.cons.injEq]
theorem c13_109_239 (hXY : Y.length = X.length) (h1 : o1 + X.length ≤ 6144) (h2 : o2 + X.length ≤ 6144) (vX : ∀ i x, X[i]? = some x → σ.1 109 (o1 + i) = x) (vY : ∀ i x, Y[i]? = some x → σ.1 239 (o2 + i) = x) (hd : 1 ≤ d) (hQ : Q (.inl (some (.inl (bI (decide (X = Y)))))) κ σ) : my_M e d 13 [.inr (.inr (some 109)), .inl (Int32.ofNat o1), .inr (.inr (some 239)), .inl (Int32.ofNat o2), .inl (Int32.ofNat X.length)] κ σ Q := by
  obtain ⟨d, rfl⟩ := dS 1 hd
  have lp : ∀ (m i : Nat), i + m = X.length → Q (.inl (some (.inl (bI (decide (X.drop i = Y.drop i)))))) κ σ → yp109x239_13_31 e d (Int32.ofNat o1) (Int32.ofNat o2) (Int32.ofNat X.length) (Int32.ofNat i) κ σ Q := fun m => by
    induction m with
    | zero =>
      intro i hi hq
      unfold yp109x239_13_31
      rw [if_neg (by rw [oN_lt (by omega) (by omega)]; omega)]
      rw [List.drop_of_length_le (by omega), List.drop_of_length_le (by omega)] at hq
      exact hq
    | succ m ih =>
      intro i hi hq
      have hiX : i < X.length := by omega
      have hiY : i < Y.length := by omega
      unfold yp109x239_13_31
      rw [if_pos (by rw [oN_lt (by omega) (by omega)]; omega), ← Int32.ofNat_add, ← Int32.ofNat_add, oN_n (by omega), oN_n (by omega), vX i _ (List.getElem?_eq_getElem hiX), vY i _ (List.getElem?_eq_getElem hiY), oN_s]
      refine ⟨bdk (by omega) (by omega), bdk (by omega) (by omega), ?_⟩
      refine my_if (fun c => ?_) (fun c => ?_)
      · refine yp109x239_13_31_ok (ih (i + 1) (by omega) ?_)
        rw [show decide (X.drop i = Y.drop i) = decide (X.drop (i + 1) = Y.drop (i + 1)) from decide_eq_decide.mpr ((dr_e hiX hiY).trans ⟨fun hh => hh.2, fun hh => ⟨c, hh⟩⟩)] at hq
        exact hq
      · rw [decide_eq_false (fun hh => c ((dr_e hiX hiY).mp hh).1)] at hq
        exact hq
  refine yp109x239_13 ?_
  unfold yp109x239_13_0
  rw [if_neg (oN_0 (by omega)), if_neg (oN_0 (by omega)), ← Int32.ofNat_add, ← Int32.ofNat_add, if_neg (fun hh => by have := (oN_lt (p := 6144) (by omega) (by omega)).mp hh; omega), if_neg (fun hh => by have := (oN_lt (p := 6144) (by omega) (by omega)).mp hh; omega)]
  exact yp109x239_13_31_ok (lp X.length 0 (by omega) hQ)
theorem c13_109_369 (hXY : Y.length = X.length) (h1 : o1 + X.length ≤ 6144) (h2 : o2 + X.length ≤ 6144) (vX : ∀ i x, X[i]? = some x → σ.1 109 (o1 + i) = x) (vY : ∀ i x, Y[i]? = some x → σ.1 369 (o2 + i) = x) (hd : 1 ≤ d) (hQ : Q (.inl (some (.inl (bI (decide (X = Y)))))) κ σ) : my_M e d 13 [.inr (.inr (some 109)), .inl (Int32.ofNat o1), .inr (.inr (some 369)), .inl (Int32.ofNat o2), .inl (Int32.ofNat X.length)] κ σ Q := by
  obtain ⟨d, rfl⟩ := dS 1 hd
  have lp : ∀ (m i : Nat), i + m = X.length → Q (.inl (some (.inl (bI (decide (X.drop i = Y.drop i)))))) κ σ → yp109x369_13_31 e d (Int32.ofNat o1) (Int32.ofNat o2) (Int32.ofNat X.length) (Int32.ofNat i) κ σ Q := fun m => by
    induction m with
    | zero =>
      intro i hi hq
      unfold yp109x369_13_31
      rw [if_neg (by rw [oN_lt (by omega) (by omega)]; omega)]
      rw [List.drop_of_length_le (by omega), List.drop_of_length_le (by omega)] at hq
      exact hq
    | succ m ih =>
      intro i hi hq
      have hiX : i < X.length := by omega
      have hiY : i < Y.length := by omega
      unfold yp109x369_13_31
      rw [if_pos (by rw [oN_lt (by omega) (by omega)]; omega), ← Int32.ofNat_add, ← Int32.ofNat_add, oN_n (by omega), oN_n (by omega), vX i _ (List.getElem?_eq_getElem hiX), vY i _ (List.getElem?_eq_getElem hiY), oN_s]
      refine ⟨bdk (by omega) (by omega), bdk (by omega) (by omega), ?_⟩
      refine my_if (fun c => ?_) (fun c => ?_)
      · refine yp109x369_13_31_ok (ih (i + 1) (by omega) ?_)
        rw [show decide (X.drop i = Y.drop i) = decide (X.drop (i + 1) = Y.drop (i + 1)) from decide_eq_decide.mpr ((dr_e hiX hiY).trans ⟨fun hh => hh.2, fun hh => ⟨c, hh⟩⟩)] at hq
        exact hq
      · rw [decide_eq_false (fun hh => c ((dr_e hiX hiY).mp hh).1)] at hq
        exact hq
  refine yp109x369_13 ?_
  unfold yp109x369_13_0
  rw [if_neg (oN_0 (by omega)), if_neg (oN_0 (by omega)), ← Int32.ofNat_add, ← Int32.ofNat_add, if_neg (fun hh => by have := (oN_lt (p := 6144) (by omega) (by omega)).mp hh; omega), if_neg (fun hh => by have := (oN_lt (p := 6144) (by omega) (by omega)).mp hh; omega)]
  exact yp109x369_13_31_ok (lp X.length 0 (by omega) hQ)
theorem c13_239_109 (hXY : Y.length = X.length) (h1 : o1 + X.length ≤ 6144) (h2 : o2 + X.length ≤ 6144) (vX : ∀ i x, X[i]? = some x → σ.1 239 (o1 + i) = x) (vY : ∀ i x, Y[i]? = some x → σ.1 109 (o2 + i) = x) (hd : 1 ≤ d) (hQ : Q (.inl (some (.inl (bI (decide (X = Y)))))) κ σ) : my_M e d 13 [.inr (.inr (some 239)), .inl (Int32.ofNat o1), .inr (.inr (some 109)), .inl (Int32.ofNat o2), .inl (Int32.ofNat X.length)] κ σ Q := by
  obtain ⟨d, rfl⟩ := dS 1 hd
  have lp : ∀ (m i : Nat), i + m = X.length → Q (.inl (some (.inl (bI (decide (X.drop i = Y.drop i)))))) κ σ → yp239x109_13_31 e d (Int32.ofNat o1) (Int32.ofNat o2) (Int32.ofNat X.length) (Int32.ofNat i) κ σ Q := fun m => by
    induction m with
    | zero =>
      intro i hi hq
      unfold yp239x109_13_31
      rw [if_neg (by rw [oN_lt (by omega) (by omega)]; omega)]
      rw [List.drop_of_length_le (by omega), List.drop_of_length_le (by omega)] at hq
      exact hq
    | succ m ih =>
      intro i hi hq
      have hiX : i < X.length := by omega
      have hiY : i < Y.length := by omega
      unfold yp239x109_13_31
      rw [if_pos (by rw [oN_lt (by omega) (by omega)]; omega), ← Int32.ofNat_add, ← Int32.ofNat_add, oN_n (by omega), oN_n (by omega), vX i _ (List.getElem?_eq_getElem hiX), vY i _ (List.getElem?_eq_getElem hiY), oN_s]
      refine ⟨bdk (by omega) (by omega), bdk (by omega) (by omega), ?_⟩
      refine my_if (fun c => ?_) (fun c => ?_)
      · refine yp239x109_13_31_ok (ih (i + 1) (by omega) ?_)
        rw [show decide (X.drop i = Y.drop i) = decide (X.drop (i + 1) = Y.drop (i + 1)) from decide_eq_decide.mpr ((dr_e hiX hiY).trans ⟨fun hh => hh.2, fun hh => ⟨c, hh⟩⟩)] at hq
        exact hq
      · rw [decide_eq_false (fun hh => c ((dr_e hiX hiY).mp hh).1)] at hq
        exact hq
  refine yp239x109_13 ?_
  unfold yp239x109_13_0
  rw [if_neg (oN_0 (by omega)), if_neg (oN_0 (by omega)), ← Int32.ofNat_add, ← Int32.ofNat_add, if_neg (fun hh => by have := (oN_lt (p := 6144) (by omega) (by omega)).mp hh; omega), if_neg (fun hh => by have := (oN_lt (p := 6144) (by omega) (by omega)).mp hh; omega)]
  exact yp239x109_13_31_ok (lp X.length 0 (by omega) hQ)
theorem c13_239_369 (hXY : Y.length = X.length) (h1 : o1 + X.length ≤ 6144) (h2 : o2 + X.length ≤ 6144) (vX : ∀ i x, X[i]? = some x → σ.1 239 (o1 + i) = x) (vY : ∀ i x, Y[i]? = some x → σ.1 369 (o2 + i) = x) (hd : 1 ≤ d) (hQ : Q (.inl (some (.inl (bI (decide (X = Y)))))) κ σ) : my_M e d 13 [.inr (.inr (some 239)), .inl (Int32.ofNat o1), .inr (.inr (some 369)), .inl (Int32.ofNat o2), .inl (Int32.ofNat X.length)] κ σ Q := by
  obtain ⟨d, rfl⟩ := dS 1 hd
  have lp : ∀ (m i : Nat), i + m = X.length → Q (.inl (some (.inl (bI (decide (X.drop i = Y.drop i)))))) κ σ → yp239x369_13_31 e d (Int32.ofNat o1) (Int32.ofNat o2) (Int32.ofNat X.length) (Int32.ofNat i) κ σ Q := fun m => by
    induction m with
    | zero =>
      intro i hi hq
      unfold yp239x369_13_31
      rw [if_neg (by rw [oN_lt (by omega) (by omega)]; omega)]
      rw [List.drop_of_length_le (by omega), List.drop_of_length_le (by omega)] at hq
      exact hq
    | succ m ih =>
      intro i hi hq
      have hiX : i < X.length := by omega
      have hiY : i < Y.length := by omega
      unfold yp239x369_13_31
      rw [if_pos (by rw [oN_lt (by omega) (by omega)]; omega), ← Int32.ofNat_add, ← Int32.ofNat_add, oN_n (by omega), oN_n (by omega), vX i _ (List.getElem?_eq_getElem hiX), vY i _ (List.getElem?_eq_getElem hiY), oN_s]
      refine ⟨bdk (by omega) (by omega), bdk (by omega) (by omega), ?_⟩
      refine my_if (fun c => ?_) (fun c => ?_)
      · refine yp239x369_13_31_ok (ih (i + 1) (by omega) ?_)
        rw [show decide (X.drop i = Y.drop i) = decide (X.drop (i + 1) = Y.drop (i + 1)) from decide_eq_decide.mpr ((dr_e hiX hiY).trans ⟨fun hh => hh.2, fun hh => ⟨c, hh⟩⟩)] at hq
        exact hq
      · rw [decide_eq_false (fun hh => c ((dr_e hiX hiY).mp hh).1)] at hq
        exact hq
  refine yp239x369_13 ?_
  unfold yp239x369_13_0
  rw [if_neg (oN_0 (by omega)), if_neg (oN_0 (by omega)), ← Int32.ofNat_add, ← Int32.ofNat_add, if_neg (fun hh => by have := (oN_lt (p := 6144) (by omega) (by omega)).mp hh; omega), if_neg (fun hh => by have := (oN_lt (p := 6144) (by omega) (by omega)).mp hh; omega)]
  exact yp239x369_13_31_ok (lp X.length 0 (by omega) hQ)
theorem c13_369_109 (hXY : Y.length = X.length) (h1 : o1 + X.length ≤ 6144) (h2 : o2 + X.length ≤ 6144) (vX : ∀ i x, X[i]? = some x → σ.1 369 (o1 + i) = x) (vY : ∀ i x, Y[i]? = some x → σ.1 109 (o2 + i) = x) (hd : 1 ≤ d) (hQ : Q (.inl (some (.inl (bI (decide (X = Y)))))) κ σ) : my_M e d 13 [.inr (.inr (some 369)), .inl (Int32.ofNat o1), .inr (.inr (some 109)), .inl (Int32.ofNat o2), .inl (Int32.ofNat X.length)] κ σ Q := by
  obtain ⟨d, rfl⟩ := dS 1 hd
  have lp : ∀ (m i : Nat), i + m = X.length → Q (.inl (some (.inl (bI (decide (X.drop i = Y.drop i)))))) κ σ → yp369x109_13_31 e d (Int32.ofNat o1) (Int32.ofNat o2) (Int32.ofNat X.length) (Int32.ofNat i) κ σ Q := fun m => by
    induction m with
    | zero =>
      intro i hi hq
      unfold yp369x109_13_31
      rw [if_neg (by rw [oN_lt (by omega) (by omega)]; omega)]
      rw [List.drop_of_length_le (by omega), List.drop_of_length_le (by omega)] at hq
      exact hq
    | succ m ih =>
      intro i hi hq
      have hiX : i < X.length := by omega
      have hiY : i < Y.length := by omega
      unfold yp369x109_13_31
      rw [if_pos (by rw [oN_lt (by omega) (by omega)]; omega), ← Int32.ofNat_add, ← Int32.ofNat_add, oN_n (by omega), oN_n (by omega), vX i _ (List.getElem?_eq_getElem hiX), vY i _ (List.getElem?_eq_getElem hiY), oN_s]
      refine ⟨bdk (by omega) (by omega), bdk (by omega) (by omega), ?_⟩
      refine my_if (fun c => ?_) (fun c => ?_)
      · refine yp369x109_13_31_ok (ih (i + 1) (by omega) ?_)
        rw [show decide (X.drop i = Y.drop i) = decide (X.drop (i + 1) = Y.drop (i + 1)) from decide_eq_decide.mpr ((dr_e hiX hiY).trans ⟨fun hh => hh.2, fun hh => ⟨c, hh⟩⟩)] at hq
        exact hq
      · rw [decide_eq_false (fun hh => c ((dr_e hiX hiY).mp hh).1)] at hq
        exact hq
  refine yp369x109_13 ?_
  unfold yp369x109_13_0
  rw [if_neg (oN_0 (by omega)), if_neg (oN_0 (by omega)), ← Int32.ofNat_add, ← Int32.ofNat_add, if_neg (fun hh => by have := (oN_lt (p := 6144) (by omega) (by omega)).mp hh; omega), if_neg (fun hh => by have := (oN_lt (p := 6144) (by omega) (by omega)).mp hh; omega)]
  exact yp369x109_13_31_ok (lp X.length 0 (by omega) hQ)
theorem c13_369_239 (hXY : Y.length = X.length) (h1 : o1 + X.length ≤ 6144) (h2 : o2 + X.length ≤ 6144) (vX : ∀ i x, X[i]? = some x → σ.1 369 (o1 + i) = x) (vY : ∀ i x, Y[i]? = some x → σ.1 239 (o2 + i) = x) (hd : 1 ≤ d) (hQ : Q (.inl (some (.inl (bI (decide (X = Y)))))) κ σ) : my_M e d 13 [.inr (.inr (some 369)), .inl (Int32.ofNat o1), .inr (.inr (some 239)), .inl (Int32.ofNat o2), .inl (Int32.ofNat X.length)] κ σ Q := by
  obtain ⟨d, rfl⟩ := dS 1 hd
  have lp : ∀ (m i : Nat), i + m = X.length → Q (.inl (some (.inl (bI (decide (X.drop i = Y.drop i)))))) κ σ → yp369x239_13_31 e d (Int32.ofNat o1) (Int32.ofNat o2) (Int32.ofNat X.length) (Int32.ofNat i) κ σ Q := fun m => by
    induction m with
    | zero =>
      intro i hi hq
      unfold yp369x239_13_31
      rw [if_neg (by rw [oN_lt (by omega) (by omega)]; omega)]
      rw [List.drop_of_length_le (by omega), List.drop_of_length_le (by omega)] at hq
      exact hq
    | succ m ih =>
      intro i hi hq
      have hiX : i < X.length := by omega
      have hiY : i < Y.length := by omega
      unfold yp369x239_13_31
      rw [if_pos (by rw [oN_lt (by omega) (by omega)]; omega), ← Int32.ofNat_add, ← Int32.ofNat_add, oN_n (by omega), oN_n (by omega), vX i _ (List.getElem?_eq_getElem hiX), vY i _ (List.getElem?_eq_getElem hiY), oN_s]
      refine ⟨bdk (by omega) (by omega), bdk (by omega) (by omega), ?_⟩
      refine my_if (fun c => ?_) (fun c => ?_)
      · refine yp369x239_13_31_ok (ih (i + 1) (by omega) ?_)
        rw [show decide (X.drop i = Y.drop i) = decide (X.drop (i + 1) = Y.drop (i + 1)) from decide_eq_decide.mpr ((dr_e hiX hiY).trans ⟨fun hh => hh.2, fun hh => ⟨c, hh⟩⟩)] at hq
        exact hq
      · rw [decide_eq_false (fun hh => c ((dr_e hiX hiY).mp hh).1)] at hq
        exact hq
  refine yp369x239_13 ?_
  unfold yp369x239_13_0
  rw [if_neg (oN_0 (by omega)), if_neg (oN_0 (by omega)), ← Int32.ofNat_add, ← Int32.ofNat_add, if_neg (fun hh => by have := (oN_lt (p := 6144) (by omega) (by omega)).mp hh; omega), if_neg (fun hh => by have := (oN_lt (p := 6144) (by omega) (by omega)).mp hh; omega)]
  exact yp369x239_13_31_ok (lp X.length 0 (by omega) hQ)
theorem c_13 (hrv : rv = 108 ∨ rv = 238 ∨ rv = 368) (hol : ol = 108 ∨ ol = 238 ∨ ol = 368) (hne : rv ≠ ol) (hXY : Y.length = X.length) (h1 : o1 + X.length ≤ 6144) (h2 : o2 + X.length ≤ 6144) (vX : ∀ i x, X[i]? = some x → σ.1 (rv + 1) (o1 + i) = x) (vY : ∀ i x, Y[i]? = some x → σ.1 (ol + 1) (o2 + i) = x) (hd : 1 ≤ d) (hQ : Q (.inl (some (.inl (bI (decide (X = Y)))))) κ σ) : my_M e d 13 [.inr (.inr (some (rv + 1))), .inl (Int32.ofNat o1), .inr (.inr (some (ol + 1))), .inl (Int32.ofNat o2), .inl (Int32.ofNat X.length)] κ σ Q := by
  rcases hrv with rfl | rfl | rfl <;> rcases hol with rfl | rfl | rfl
  · exact absurd rfl hne
  · exact c13_109_239 hXY h1 h2 vX vY hd hQ
  · exact c13_109_369 hXY h1 h2 vX vY hd hQ
  · exact c13_239_109 hXY h1 h2 vX vY hd hQ
  · exact absurd rfl hne
  · exact c13_239_369 hXY h1 h2 vX vY hd hQ
  · exact c13_369_109 hXY h1 h2 vX vY hd hQ
  · exact c13_369_239 hXY h1 h2 vX vY hd hQ
  · exact absurd rfl hne
/-- what change answers -/
def chg (As : List Ri) (I : List It) (Bs : List Ri) (I' : List It) (k : Nat) (a : Ri) : Int32 := match kwi (rno Bs) (riN a) 0 with
  | none => 2
  | some j => match Bs[j]? with
    | none => 2
    | some b => if ib I (rwA (As.take k)).length a = ib I' (rwA (Bs.take j)).length b then 0 else 1
theorem lt2 {x : Int32} : ¬ x < 2 ↔ (1 : Int32) < x := by
  rw [Int32.lt_iff_toInt_lt, Int32.lt_iff_toInt_lt]
  have h1 : (2 : Int32).toInt = 2 := by decide
  have h2 : (1 : Int32).toInt = 1 := by decide
  omega
theorem c_20b {v1 v2 : Int32} (h : LD As I rv σ) (ho : OLC Bs I' ol σ) (hne : rv ≠ ol) (hκ : 1 ≤ κ.2.1 ∧ 6 ≤ κ.2.2) (hd : 8 ≤ d) (hx : fkA As v1 v2 As.length 0 = none → Q (.inr (κ.1, 15)) (κ.1 + 1, κ.2.1 - 1, κ.2.2 - 6) σ) (hQ : ∀ k a, fkA As v1 v2 As.length 0 = some k → As[k]? = some a → Q (.inl (some (.inl (if σ.1 32 10 < 2 then Int32.ofInt (-1) else chg As I Bs I' k a)))) κ σ) : my_M e d 20 [.inr (.inr (some 32)), .inl v1, .inl v2] κ σ Q := by
  obtain ⟨d, rfl⟩ := dS 1 (show 1 ≤ d by omega)
  refine ys_20 ?_
  unfold ys_20_0
  refine c_17b h hκ (by omega) (fun hn => ?_) (fun k hk => ?_)
  · rw [my_kA_x]; exact hx hn
  rw [my_kA_v]
  obtain ⟨a, ha⟩ : ∃ a, As[k]? = some a := ⟨_, List.getElem?_eq_getElem (fkA_lt hk)⟩
  have hfin := hQ k a hk ha
  have hkA := (List.getElem?_eq_some_iff.mp ha).1
  obtain ⟨h1, h2, h3, h4, h5, h6, h7, h8⟩ := h
  have h42 := itsB_42 h1
  refine my_if (fun c => ?_) (fun c => ?_)
  · rw [if_pos c] at hfin
    exact hfin
  · rw [if_neg c] at hfin
    rcases ho with ⟨o1, _⟩ | ⟨o1, o2, o3, o4, o5, o6⟩
    · exact absurd (lt2.mp c) o1
    refine ⟨_, rfl, in11 h3 (by omega), ol, o2, in10 o3, ?_⟩
    obtain ⟨b', hb', hio⟩ := iRel_a2 h2 (k := k) (by rw [h2.1]; exact hkA)
    rw [ha] at hb'
    cases hb'
    obtain ⟨z1, z2, _⟩ := h7.1.2.2.2 k _ (itA_e (I := I) (by rw [h2.1]; exact hkA))
    have hNa : isN (riN a) := (h1.2 a (List.mem_of_getElem? ha)).2.1
    rw [z2, hio.1]
    refine z_195 hNa o3 o6.1 (by omega) ?_
    rw [my_kA_v, iRel_k o5]
    unfold chg at hfin
    cases hkw : kwi (rno Bs) (riN a) 0 with
    | none =>
      rw [hkw] at hfin
      rw [if_pos (by simp [itO])]
      exact hfin
    | some j =>
      rw [hkw] at hfin
      have hjl : j < Bs.length := by
        have := (kwi_lt hkw).2
        unfold rno at this
        rw [List.length_map] at this
        omega
      have h42b := itsB_42 o4
      obtain ⟨b, hb⟩ : ∃ b, Bs[j]? = some b := ⟨_, List.getElem?_eq_getElem hjl⟩
      dsimp only at hfin
      rw [hb] at hfin
      dsimp only at hfin
      rw [if_neg (by simp [itO])]
      refine ⟨ol, o2, in10 o3, ol + 4 + 3 * j, rfl, in11 o3 (by omega), ol + 4 + 3 * j, rfl, in11 o3 (by omega), rv, h6, in10 h3, ?_⟩
      obtain ⟨c1, c2, c3, c4⟩ := h7.2.2.2.2 k a ha
      obtain ⟨d1, d2, d3, d4⟩ := o6.2.2.2.2 j b hb
      have hil := ib_l (I := I) ha
      have hil2 := ib_l (I := I') hb
      have h61 := h7.2.2.2.1
      have h62 := o6.2.2.2.1
      rw [d2, d3]
      have e70 : ∀ v : Bool, v = decide (ib I (rwA (As.take k)).length a = ib I' (rwA (Bs.take j)).length b) → (if bI v = 0 then ys_20_70 e d 1 κ σ Q else ys_20_70 e d 0 κ σ Q) := fun v hv => by
        unfold ys_20_70
        by_cases he : ib I (rwA (As.take k)).length a = ib I' (rwA (Bs.take j)).length b
        · rw [if_pos he] at hfin
          rw [hv, decide_eq_true he, if_neg (show ¬ bI true = 0 by decide)]
          exact hfin
        · rw [if_neg he] at hfin
          rw [hv, decide_eq_false he, if_pos (show bI false = 0 from rfl)]
          exact hfin
      obtain ⟨d, rfl⟩ := dS 1 (show 1 ≤ d by omega)
      refine ys_201 (in10 h3) ?_
      unfold ys_201_0
      refine ⟨_, rfl, in11 h3 (by omega), ?_⟩
      rw [c3]
      refine my_if (fun cl => ?_) (fun cl => ?_)
      · have cl := (oN_e (by omega) (by omega)).mp cl
        refine ⟨_, rfl, in11 h3 (by omega), ?_⟩
        rw [c2, ← cl]
        refine c_13 (X := ib I (rwA (As.take k)).length a) (Y := ib I' (rwA (Bs.take j)).length b) h3 o3 hne cl.symm (by omega) (by omega) (fun i x hi => ?_) (fun i x hi => ?_) (by omega) ?_
        · have hil3 := (List.getElem?_eq_some_iff.mp hi).1
          have := ib_e (I := I) ha hil3
          rw [List.getElem?_eq_getElem hil3] at hi
          rw [Option.some.inj hi] at this
          exact h7.2.2.1.2 _ x this
        · have hil3 := (List.getElem?_eq_some_iff.mp hi).1
          have := ib_e (I := I') hb hil3
          rw [List.getElem?_eq_getElem hil3] at hi
          rw [Option.some.inj hi] at this
          exact o6.2.2.1.2 _ x this
        · rw [my_kI_v]
          have := e70 _ rfl
          unfold ys_201_31 ys_201_32
          cases hv : decide (ib I (rwA (As.take k)).length a = ib I' (rwA (Bs.take j)).length b) with
          | true =>
            rw [hv] at this
            rw [if_neg (show ¬ bI true = 0 by decide), my_kI_v]
            exact ⟨Or.inr rfl, this⟩
          | false =>
            rw [hv] at this
            rw [if_pos (show bI false = 0 from rfl), my_kI_v]
            exact ⟨Or.inl rfl, this⟩
      · unfold ys_201_31 ys_201_32
        rw [my_kI_v]
        have hne2 : ¬ ib I (rwA (As.take k)).length a = ib I' (rwA (Bs.take j)).length b := fun hh => cl (by rw [hh])
        exact ⟨Or.inl rfl, e70 false (decide_eq_false hne2).symm⟩
end MKJ
