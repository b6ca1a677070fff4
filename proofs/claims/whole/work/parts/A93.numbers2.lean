
/-! ===== numbers in listings: both sides whole ===== -/
/-- a number as it is written -/
def nmb (v : Int32) : List Int32 := (if v < 0 then [45] else []) ++ dgs v.toInt.natAbs (kDf v.toInt.natAbs 10 0)
theorem nab {v : Int32} : v.toInt.natAbs ≤ 4294967296 := by
  have h1 := Int32.le_toInt v
  have h2 := Int32.toInt_lt v
  omega
theorem ab64 {v : Int32} : (v < 0 → -(v.toInt64) = Int64.ofNat v.toInt.natAbs) ∧ (¬ v < 0 → v.toInt64 = Int64.ofNat v.toInt.natAbs) := by
  have h1 := Int32.le_toInt v
  have h2 := Int32.toInt_lt v
  have h0 : (0 : Int32).toInt = 0 := rfl
  have hb := nab (v := v)
  refine ⟨fun h => ?_, fun h => ?_⟩
  · rw [Int32.lt_iff_toInt_lt] at h
    apply Int64.toInt_inj.mp
    rw [Int64.toInt_neg, Int32.toInt_toInt64, Int64.toInt_ofNat_of_lt (by omega), Int.bmod_def]
    split <;> omega
  · rw [Int32.lt_iff_toInt_lt] at h
    apply Int64.toInt_inj.mp
    rw [Int32.toInt_toInt64, Int64.toInt_ofNat_of_lt (by omega)]
    omega
section MLO
variable {e : my_E} {d : Nat} {κ : my_K} {σ : my_S} {Q : my_O → my_K → my_S → Prop} {Z : List Int32} {w m : Nat} {v : Int32}
theorem w_358 (h : RLs Z σ) (hZ : Z.length + 12 ≤ 40000) (hd : 2 ≤ d) (hQ : ∀ σ', RLs (Z ++ nmb v) σ' → eqp lsF σ σ' → Q (.inl none) κ σ') : my_M e d 358 [.inr (.inr (some 498)), .inl v] κ σ Q := by
  obtain ⟨d, rfl⟩ := dS 1 (show 1 ≤ d by omega)
  have hb := nab (v := v)
  have hk := kDf_le (m := v.toInt.natAbs) (f := 10) (k := 0)
  have st : ∀ (Z : List Int32) (σ : my_S), RLs Z σ → Z.length + 11 ≤ 40000 → (∀ σ', RLs (Z ++ dgs v.toInt.natAbs (kDf v.toInt.natAbs 10 0)) σ' → eqp lsF σ σ' → Q (.inl none) κ σ') → ys_358_10 e d v κ σ Q := fun Z σ h hZ hq => by
    have s22 : ys_358_22 e d (Int64.ofNat v.toInt.natAbs) κ σ Q := by
      unfold ys_358_22
      refine ys_358_26_ok ?_
      exact w_358a hb (by omega) (w_358b hb (by omega) _ Z σ (by omega) h (by omega) hq) 10 0 rfl rfl
    unfold ys_358_10
    refine my_if (fun c => ?_) (fun c => ?_)
    · rw [ab64.1 c]; exact s22
    · rw [ab64.2 c]; exact s22
  refine ys_358 ?_
  unfold ys_358_0
  unfold nmb at hQ
  refine my_if (fun c => ?_) (fun c => ?_)
  · rw [if_pos c] at hQ
    refine w_359 h (by omega) (by omega) (fun σ1 g1 f1 => ?_)
    rw [my_k0_v]
    refine st _ σ1 g1 (by rw [List.length_append, List.length_singleton]; omega) (fun σ2 g2 f2 => hQ σ2 ?_ (eqp_tr f1 f2))
    rw [List.append_assoc] at g2
    exact g2
  · rw [if_neg c, List.nil_append] at hQ
    exact st Z σ h (by omega) hQ
theorem s_104a (hm : m ≤ 4294967296) (hQ : ys_104_61 e d (Int64.ofNat m) (Int64.ofNat (10 ^ kDf m 10 0)) κ σ Q) : ∀ (f k : Nat), k + f = 10 → kDf m f k = kDf m 10 0 → ys_104_29 e d (Int64.ofNat m) (Int64.ofNat (10 ^ k)) (Int32.ofNat k) κ σ Q := by
  intro f
  induction f with
  | zero =>
    intro k hk he
    unfold ys_104_29
    rw [if_neg (by rw [oN_lt1 (b := 10) (c := 10) rfl (by omega) (by omega)]; omega)]
    rw [← he] at hQ
    exact hQ
  | succ f ih =>
    intro k hk he
    have h10 := p10 (k := k) (by omega)
    have hq : m / 10 ^ k ≤ m := Nat.div_le_self _ _
    rw [show kDf m (f + 1) k = if m / 10 ^ k < 10 then k else kDf m f (k + 1) from rfl] at he
    unfold ys_104_29
    have hlt := lg_lt (a := m / 10 ^ k) (b := 10) (by omega) (by omega)
    rw [if_pos ((oN_lt1 (b := 10) (c := 10) rfl (by omega) (by omega)).mpr (by omega)), di (by omega) (by omega)]
    refine ⟨pn0 (by omega), ?_⟩
    by_cases c : m / 10 ^ k < 10
    · rw [show (10 : Int64) = Int64.ofNat 10 from rfl, if_pos (hlt.mpr c)]
      rw [if_pos c] at he
      rw [← he] at hQ
      exact hQ
    · rw [if_neg (show ¬ lg_cmp (Int64.ofNat (m / 10 ^ k)) 10 < 0 from fun hh => c (hlt.mp hh))]
      rw [if_neg c] at he
      have : Int64.ofNat (10 ^ k) * 10 = Int64.ofNat (10 ^ (k + 1)) := by
        rw [Nat.pow_succ, Int64.ofNat_mul]; rfl
      rw [this, oN_s]
      exact ys_104_29_ok (ih (k + 1) (by omega) he)
theorem s_104b (hm : m ≤ 4294967296) (hd : 1 ≤ d) : ∀ (k j : Nat) (Z : List Int32) (σ : my_S), k + j ≤ 10 → CLs w Z σ → Z.length + (k + 1) ≤ 1000000 → (∀ σ', CLs w (Z ++ dgs m k) σ' → eqp csF σ σ' → Q (.inl none) κ σ') → ys_104_64 e d (Int64.ofNat m) (Int64.ofNat (10 ^ k)) (Int32.ofNat j) κ σ Q := by
  have val : ∀ q : Nat, q ≤ m → (48 + (Int64.ofNat q - Int64.ofNat q / 10 * 10)).toInt32 = Int32.ofNat (48 + q % 10) := fun q hq => by
    rw [md10 (by omega), show (48 : Int64) = Int64.ofNat 48 from rfl, ← Int64.ofNat_add]
    exact Int64.toInt32_ofNat'
  intro k
  induction k with
  | zero =>
    intro j Z σ hk h hZ hQ
    have hq : m / 10 ^ 0 ≤ m := Nat.div_le_self _ _
    unfold ys_104_64
    rw [if_neg (fun hh => by have := (oN_lt (p := 10) (by omega) (by omega)).mp hh; omega), if_pos ((lg_pos (a := 10 ^ 0) (by decide)).mpr (by decide)), di (by omega) (by decide), val _ hq]
    refine ⟨pn0 (by omega), ?_⟩
    refine s_105 h (by omega) hd (fun σ1 g1 f1 => ?_)
    rw [my_k0_v, oN_s]
    refine ys_104_64_ok ?_
    unfold ys_104_64 ys_104_109
    rw [show Int64.ofNat (10 ^ 0) / 10 = Int64.ofNat 0 from by rw [show (10 : Int64) = Int64.ofNat 10 from rfl, di (by decide) (by decide)]]
    refine my_if (fun _ => hQ σ1 g1 f1) (fun _ => ?_)
    rw [if_neg (fun hh => by have := (lg_pos (a := 0) (by omega)).mp hh; omega)]
    exact hQ σ1 g1 f1
  | succ k ih =>
    intro j Z σ hk h hZ hQ
    have h10 := p10 (k := k + 1) (by omega)
    have hq : m / 10 ^ (k + 1) ≤ m := Nat.div_le_self _ _
    unfold ys_104_64
    rw [if_neg (fun hh => by have := (oN_lt (p := 10) (by omega) (by omega)).mp hh; omega), if_pos ((lg_pos (by omega)).mpr (by omega)), di (by omega) (by omega), val _ hq]
    refine ⟨pn0 (by omega), ?_⟩
    refine s_105 h (by omega) hd (fun σ1 g1 f1 => ?_)
    rw [my_k0_v, oN_s]
    have : Int64.ofNat (10 ^ (k + 1)) / 10 = Int64.ofNat (10 ^ k) := by
      rw [show (10 : Int64) = Int64.ofNat 10 from rfl, di (by omega) (by omega), Nat.pow_succ, Nat.mul_div_cancel _ (by omega)]
    rw [this]
    refine ys_104_64_ok (ih (j + 1) _ σ1 (by omega) g1 (by rw [List.length_append, List.length_singleton]; omega) (fun σ2 g2 f2 => hQ σ2 ?_ (eqp_tr f1 f2)))
    rw [List.append_assoc] at g2
    exact g2
theorem s_104 (h : CLs w Z σ) (hZ : Z.length + 12 ≤ 1000000) (hd : 2 ≤ d) (hQ : ∀ σ', CLs w (Z ++ nmb v) σ' → eqp csF σ σ' → Q (.inl none) κ σ') : my_M e d 104 [.inr (.inr (some 43)), .inl v] κ σ Q := by
  obtain ⟨d, rfl⟩ := dS 1 (show 1 ≤ d by omega)
  have hb := nab (v := v)
  have hk := kDf_le (m := v.toInt.natAbs) (f := 10) (k := 0)
  have st : ∀ (Z : List Int32) (σ : my_S), CLs w Z σ → Z.length + 11 ≤ 1000000 → (∀ σ', CLs w (Z ++ dgs v.toInt.natAbs (kDf v.toInt.natAbs 10 0)) σ' → eqp csF σ σ' → Q (.inl none) κ σ') → ys_104_23 e d (Int64.ofNat v.toInt.natAbs) κ σ Q := fun Z σ h hZ hq => by
    unfold ys_104_23
    refine ys_104_29_ok ?_
    refine s_104a hb ?_ 10 0 rfl rfl
    unfold ys_104_61
    exact ys_104_64_ok (s_104b hb (by omega) _ 0 Z σ (by omega) h (by omega) hq)
  have s12 : ys_104_12 e d v (Int64.ofNat v.toInt.natAbs) κ σ Q := by
    unfold ys_104_12
    unfold nmb at hQ
    refine my_if (fun c => ?_) (fun c => ?_)
    · rw [if_pos c] at hQ
      refine s_105 h (by omega) (by omega) (fun σ1 g1 f1 => ?_)
      rw [my_k0_v]
      refine st _ σ1 g1 (by rw [List.length_append, List.length_singleton]; omega) (fun σ2 g2 f2 => hQ σ2 ?_ (eqp_tr f1 f2))
      rw [List.append_assoc] at g2
      exact g2
    · rw [if_neg c, List.nil_append] at hQ
      exact st Z σ h (by omega) hQ
  refine ys_104 ?_
  unfold ys_104_0
  refine my_if (fun c => ?_) (fun c => ?_)
  · rw [ab64.1 c]; exact s12
  · rw [ab64.2 c]; exact s12
end MLO
