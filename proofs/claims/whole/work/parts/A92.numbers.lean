
/-! ===== numbers in listings ===== -/
def dgs (m : Nat) : Nat → List Int32
  | 0 => [Int32.ofNat (48 + m / 10 ^ 0 % 10)]
  | k + 1 => Int32.ofNat (48 + m / 10 ^ (k + 1) % 10) :: dgs m k
def kDf (m : Nat) : Nat → Nat → Nat
  | 0, k => k
  | f + 1, k => if m / 10 ^ k < 10 then k else kDf m f (k + 1)
theorem dgs_l {m : Nat} : ∀ {k : Nat}, (dgs m k).length = k + 1
  | 0 => rfl
  | k + 1 => by show (dgs m k).length + 1 = _; rw [dgs_l]
theorem kDf_le {m : Nat} : ∀ {f k : Nat}, kDf m f k ≤ k + f
  | 0, k => Nat.le_refl _
  | f + 1, k => by
    unfold kDf
    split
    · omega
    · have := kDf_le (m := m) (f := f) (k := k + 1); omega
theorem p10 {k : Nat} (h : k ≤ 10) : 1 ≤ 10 ^ k ∧ 10 ^ k ≤ 10000000000 := by
  refine ⟨Nat.pow_pos (by omega), ?_⟩
  have : 10 ^ k ≤ 10 ^ 10 := Nat.pow_le_pow_right (by omega) h
  have h2 : (10 : Nat) ^ 10 = 10000000000 := by decide
  omega
theorem lg_gt {a b : Nat} (ha : a < 9223372036854775808) (hb : b < 9223372036854775808) : ((0 : Int32) < lg_cmp (Int64.ofNat a) (Int64.ofNat b)) ↔ b < a := by
  have h1 : (Int64.ofNat a).toInt = a := Int64.toInt_ofNat_of_lt ha
  have h2 : (Int64.ofNat b).toInt = b := Int64.toInt_ofNat_of_lt hb
  unfold lg_cmp
  by_cases c : Int64.ofNat a > Int64.ofNat b
  · rw [if_pos c]
    have := Int64.lt_iff_toInt_lt.mp c
    exact ⟨fun _ => by omega, fun _ => by decide⟩
  · rw [if_neg c]
    have hn : ¬ b < a := fun hh => c (Int64.lt_iff_toInt_lt.mpr (by omega))
    refine ⟨fun hh => ?_, fun hh => absurd hh hn⟩
    split at hh
    · exact absurd hh (by decide)
    · exact absurd hh (by decide)
theorem lg_lt {a b : Nat} (ha : a < 9223372036854775808) (hb : b < 9223372036854775808) : (lg_cmp (Int64.ofNat a) (Int64.ofNat b) < (0 : Int32)) ↔ a < b := by
  have h1 : (Int64.ofNat a).toInt = a := Int64.toInt_ofNat_of_lt ha
  have h2 : (Int64.ofNat b).toInt = b := Int64.toInt_ofNat_of_lt hb
  unfold lg_cmp
  by_cases c : Int64.ofNat a > Int64.ofNat b
  · rw [if_pos c]
    have := Int64.lt_iff_toInt_lt.mp c
    exact ⟨fun hh => absurd hh (by decide), fun hh => by omega⟩
  · rw [if_neg c]
    have hn : ¬ b < a := fun hh => c (Int64.lt_iff_toInt_lt.mpr (by omega))
    by_cases c2 : Int64.ofNat a = Int64.ofNat b
    · rw [if_pos c2]
      have := congrArg Int64.toInt c2
      exact ⟨fun hh => absurd hh (by decide), fun hh => by omega⟩
    · rw [if_neg c2]
      refine ⟨fun _ => ?_, fun _ => by decide⟩
      have : ¬ a = b := fun hh => c2 (by rw [hh])
      omega
theorem md10 {q : Nat} (h : q < 9223372036854775808) : Int64.ofNat q - Int64.ofNat q / 10 * 10 = Int64.ofNat (q % 10) := by
  rw [show (10 : Int64) = Int64.ofNat 10 from rfl, di h (by omega)]
  conv => lhs; lhs; rw [show q = q % 10 + q / 10 * 10 by omega]
  rw [Int64.ofNat_add, Int64.ofNat_mul, Int64.add_sub_cancel]
theorem pn0 {k : Nat} (h : k ≤ 10) : Int64.ofNat (10 ^ k) ≠ 0 := fun hh => by
  have := congrArg Int64.toInt hh
  have h10 := p10 h
  generalize 10 ^ k = z at *
  rw [Int64.toInt_ofNat_of_lt (by omega)] at this
  have h0 : (0 : Int64).toInt = 0 := rfl
  omega
section MLN
variable {e : my_E} {d : Nat} {κ : my_K} {σ : my_S} {Q : my_O → my_K → my_S → Prop} {Z : List Int32} {w m : Nat}
theorem w_358a (hm : m ≤ 4294967296) (hd : 1 ≤ d) (hQ : ys_358_48 e d (Int64.ofNat m) (Int64.ofNat (10 ^ kDf m 10 0)) κ σ Q) : ∀ (f k : Nat), k + f = 10 → kDf m f k = kDf m 10 0 → ys_358_26 e d (Int64.ofNat m) (Int64.ofNat (10 ^ k)) κ σ Q := by
  intro f
  induction f with
  | zero =>
    intro k hk he
    have h10 := p10 (k := k) (by omega)
    have hq : m / 10 ^ k ≤ m := Nat.div_le_self _ _
    unfold ys_358_26
    have hgt := lg_gt (a := m / 10 ^ k) (b := 9) (by omega) (by omega)
    rw [di (by omega) (by omega), show (9 : Int64) = Int64.ofNat 9 from rfl]
    have hz : m / 10 ^ k = 0 := by
      rw [show k = 10 by omega]
      have hp : (10 : Nat) ^ 10 = 10000000000 := by decide
      exact Nat.div_eq_of_lt (by omega)
    rw [if_neg (fun hh => by have := hgt.mp hh; omega)]
    refine ⟨pn0 (by omega), ys_358_48_ok ?_⟩
    rw [← he] at hQ
    exact hQ
  | succ f ih =>
    intro k hk he
    have h10 := p10 (k := k) (by omega)
    have hq : m / 10 ^ k ≤ m := Nat.div_le_self _ _
    rw [show kDf m (f + 1) k = if m / 10 ^ k < 10 then k else kDf m f (k + 1) from rfl] at he
    unfold ys_358_26
    have hgt := lg_gt (a := m / 10 ^ k) (b := 9) (by omega) (by omega)
    rw [di (by omega) (by omega), show (9 : Int64) = Int64.ofNat 9 from rfl]
    refine ⟨pn0 (by omega), ?_⟩
    by_cases c : m / 10 ^ k < 10
    · rw [if_neg (fun hh => by have := hgt.mp hh; omega)]
      rw [if_pos c] at he
      rw [← he] at hQ
      exact ys_358_48_ok hQ
    · rw [if_pos (hgt.mpr (by omega))]
      rw [if_neg c] at he
      have : Int64.ofNat (10 ^ k) * 10 = Int64.ofNat (10 ^ (k + 1)) := by
        rw [Nat.pow_succ, Int64.ofNat_mul]; rfl
      rw [this]
      exact ys_358_26_ok (ih (k + 1) (by omega) he)
theorem w_358b (hm : m ≤ 4294967296) (hd : 1 ≤ d) : ∀ (k : Nat) (Z : List Int32) (σ : my_S), k ≤ 10 → RLs Z σ → Z.length + (k + 1) ≤ 40000 → (∀ σ', RLs (Z ++ dgs m k) σ' → eqp lsF σ σ' → Q (.inl none) κ σ') → ys_358_48 e d (Int64.ofNat m) (Int64.ofNat (10 ^ k)) κ σ Q := by
  intro k
  induction k with
  | zero =>
    intro Z σ hk h hZ hQ
    have hq : m / 10 ^ 0 ≤ m := Nat.div_le_self _ _
    unfold ys_358_48
    rw [if_pos ((lg_pos (a := 10 ^ 0) (by decide)).mpr (by decide)), di (by omega) (by decide), md10 (by omega)]
    refine ⟨pn0 (by omega), ?_⟩
    rw [show (Int64.ofNat (m / 10 ^ 0 % 10)).toInt32 = Int32.ofNat (m / 10 ^ 0 % 10) from Int64.toInt32_ofNat', show (48 : Int32) = Int32.ofNat 48 from rfl, ← Int32.ofNat_add]
    refine w_359 h (by omega) hd (fun σ1 g1 f1 => ?_)
    rw [my_k0_v]
    refine ys_358_48_ok ?_
    unfold ys_358_48
    rw [show Int64.ofNat (10 ^ 0) / 10 = Int64.ofNat 0 from by rw [show (10 : Int64) = Int64.ofNat 10 from rfl, di (by decide) (by decide)], if_neg (fun hh => by have := (lg_pos (a := 0) (by omega)).mp hh; omega)]
    exact hQ σ1 g1 f1
  | succ k ih =>
    intro Z σ hk h hZ hQ
    have h10 := p10 (k := k + 1) (by omega)
    have hq : m / 10 ^ (k + 1) ≤ m := Nat.div_le_self _ _
    unfold ys_358_48
    rw [if_pos ((lg_pos (by omega)).mpr (by omega)), di (by omega) (by omega), md10 (by omega)]
    refine ⟨pn0 (by omega), ?_⟩
    rw [show (Int64.ofNat (m / 10 ^ (k + 1) % 10)).toInt32 = Int32.ofNat (m / 10 ^ (k + 1) % 10) from Int64.toInt32_ofNat', show (48 : Int32) = Int32.ofNat 48 from rfl, ← Int32.ofNat_add]
    refine w_359 h (by omega) hd (fun σ1 g1 f1 => ?_)
    rw [my_k0_v]
    have : Int64.ofNat (10 ^ (k + 1)) / 10 = Int64.ofNat (10 ^ k) := by
      rw [show (10 : Int64) = Int64.ofNat 10 from rfl, di (by omega) (by omega), Nat.pow_succ, Nat.mul_div_cancel _ (by omega)]
    rw [this]
    refine ys_358_48_ok (ih _ σ1 (by omega) g1 (by rw [List.length_append, List.length_singleton]; omega) (fun σ2 g2 f2 => hQ σ2 ?_ (eqp_tr f1 f2)))
    rw [List.append_assoc] at g2
    exact g2
end MLN
