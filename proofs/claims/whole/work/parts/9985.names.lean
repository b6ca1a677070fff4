/-! ===== names and numbers of a text ===== -/
def iL (x : Int32) : Bool := !decide (x < 97) && !decide (122 < x)
def iD (x : Int32) : Bool := !decide (x < 48) && !decide (57 < x)
/-- how many letters, digits, from p on; m signs are left -/
def ll (t : Nat → Int32) : Nat → Nat → Nat
  | 0, _ => 0
  | m + 1, p => if iL (t p) = true then ll t m (p + 1) + 1 else 0
def dl (t : Nat → Int32) : Nat → Nat → Nat
  | 0, _ => 0
  | m + 1, p => if iD (t p) = true then dl t m (p + 1) + 1 else 0
theorem ll_le (t : Nat → Int32) : ∀ m p, ll t m p ≤ m
  | 0, _ => Nat.le_refl _
  | m + 1, p => by
    have := ll_le t m (p + 1)
    unfold ll; split <;> omega
theorem dl_le (t : Nat → Int32) : ∀ m p, dl t m p ≤ m
  | 0, _ => Nat.le_refl _
  | m + 1, p => by
    have := dl_le t m (p + 1)
    unfold dl; split <;> omega
/-- what the first k signs from p on make: names of the class, of the reference; numbers of both -/
def nC (t : Nat → Int32) (p : Nat) : Nat → Int64
  | 0 => 0
  | k + 1 => if k < 8 then nC t p k ||| (((t (p + k) &&& 255) : Int32).toInt64 <<< (((8 * Int32.ofNat k) : Int32).toInt64 &&& 63)) else nC t p k
def nR (t : Nat → Int32) (p : Nat) : Nat → Int64
  | 0 => 0
  | k + 1 => if k < 8 then (((27 * nR t p k) + (t (p + k)).toInt64) - 97) + 1 else nR t p k
def vC (t : Nat → Int32) (p : Nat) : Nat → Int32
  | 0 => 0
  | k + 1 => ((10 * vC t p k) + t (p + k)) - 48
def vR (t : Nat → Int32) (p : Nat) : Nat → Int32
  | 0 => 0
  | k + 1 => if k < 6 then ((10 * vR t p k) + t (p + k)) - 48 else vR t p k
theorem vC_vR (t : Nat → Int32) (p : Nat) : ∀ k, k ≤ 6 → vC t p k = vR t p k
  | 0, _ => rfl
  | k + 1, h => by
    unfold vC vR
    rw [if_pos (by omega), vC_vR t p k (by omega)]
section MYN
variable {e : my_E} {d : Nat} {κ : my_K} {σ : my_S} {Q : my_O → my_K → my_S → Prop} {t : Nat → Int32} {n p : Nat} {x : Int32}
theorem c_48 (hQ : Q (.inl (some (.inl (bI (iL x))))) κ σ) : my_M e (d + 1) 48 [.inl x] κ σ Q := by
  refine ys_48 ?_
  unfold ys_48_0
  by_cases h1 : x < 97
  · rw [if_pos h1]
    have : iL x = false := by simp [iL, h1]
    rw [this] at hQ
    exact ⟨Or.inl rfl, hQ⟩
  · rw [if_neg h1]
    by_cases h2 : 122 < x
    · rw [if_pos h2]
      have : iL x = false := by simp [iL, h2]
      rw [this] at hQ
      exact ⟨Or.inl rfl, hQ⟩
    · rw [if_neg h2]
      have : iL x = true := by simp [iL, h1, h2]
      rw [this] at hQ
      exact ⟨Or.inr rfl, hQ⟩
theorem c_52 (hQ : Q (.inl (some (.inl (bI (iD x))))) κ σ) : my_M e (d + 1) 52 [.inl x] κ σ Q := by
  refine ys_52 ?_
  unfold ys_52_0
  by_cases h1 : x < 48
  · rw [if_pos h1]
    have : iD x = false := by simp [iD, h1]
    rw [this] at hQ
    exact ⟨Or.inl rfl, hQ⟩
  · rw [if_neg h1]
    by_cases h2 : 57 < x
    · rw [if_pos h2]
      have : iD x = false := by simp [iD, h2]
      rw [this] at hQ
      exact ⟨Or.inl rfl, hQ⟩
    · rw [if_neg h2]
      have : iD x = true := by simp [iD, h1, h2]
      rw [this] at hQ
      exact ⟨Or.inr rfl, hQ⟩
theorem oN_a (a b : Nat) : Int32.ofNat a + Int32.ofNat b = Int32.ofNat (a + b) := (Int32.ofNat_add a b).symm
theorem c_1 {k : Nat} {v : Int64} (hk : k < 4000) (hQ : Q (.inl (some (.inr (.inl (if k < 8 then v ||| (((x &&& 255) : Int32).toInt64 <<< (((8 * Int32.ofNat k) : Int32).toInt64 &&& 63)) else v))))) κ σ) : my_M e (d + 1) 1 [.inr (.inl v), .inl (Int32.ofNat k), .inl x] κ σ Q := by
  refine ys_1 ?_
  unfold ys_1_0
  rw [if_neg (oN_0 (by omega))]
  by_cases h : k < 8
  · rw [if_pos (show Int32.ofNat k < 8 from (oN_lt (n := 8) (by omega) (by omega)).mpr h)]
    rw [if_pos h] at hQ
    exact hQ
  · rw [if_neg (fun hh : Int32.ofNat k < 8 => h ((oN_lt (n := 8) (by omega) (by omega)).mp hh))]
    rw [if_neg h] at hQ
    exact hQ
theorem c_49_l (ht : txt t n) (hx : txC t n σ) : ∀ (m k : Nat), p + k + m = n → ys_49_43 e (d + 2) (Int32.ofNat p) (Int32.ofNat (k + ll t m (p + k))) (nC t p (k + ll t m (p + k))) κ σ Q → ys_49_4 e (d + 2) (Int32.ofNat p) (Int32.ofNat k) (nC t p k) κ σ Q := by
  intro m
  have hn := ht.1
  induction m with
  | zero =>
    intro k hp h
    have h : ys_49_43 e (d + 2) (Int32.ofNat p) (Int32.ofNat k) (nC t p k) κ σ Q := h
    unfold ys_49_4
    split
    · rw [oN_a]
      refine c_46 ht hx (by omega) ?_
      have hs : sgn t n (p + k) = 0 := by unfold sgn; rw [if_neg (by omega)]
      rw [my_kI_v, hs]
      refine c_48 ?_
      rw [my_kI_v, if_pos (by decide)]
      exact h
    · exact h
  | succ m ih =>
    intro k hp h
    have hpn : p + k < n := by omega
    unfold ys_49_4
    rw [if_pos (show Int32.ofNat k < 1500 from (oN_lt (n := 1500) (by omega) (by omega)).mpr (by omega)), oN_a]
    refine c_46 ht hx (by omega) ?_
    have hs : sgn t n (p + k) = t (p + k) := by unfold sgn; rw [if_pos hpn]
    rw [my_kI_v, hs]
    refine c_48 ?_
    rw [my_kI_v]
    unfold ll at h
    by_cases hl : iL (t (p + k)) = true
    · rw [hl, if_neg (by decide)]
      rw [if_pos hl] at h
      refine c_46 ht hx (by omega) ?_
      rw [my_kI_v, hs]
      refine c_1 (by omega) ?_
      rw [my_kL_v, oN_s]
      refine ys_49_4_ok ?_
      have h2 := ih (k + 1) (by omega) (by rw [show k + 1 + ll t m (p + (k + 1)) = k + (ll t m (p + k + 1) + 1) by rw [show p + (k + 1) = p + k + 1 by omega]; omega]; exact h)
      exact h2
    · have hl : iL (t (p + k)) = false := by simpa using hl
      rw [hl, if_pos (by decide)]
      rw [hl, if_neg (by decide), Nat.add_zero] at h
      exact h
theorem c_53_l (ht : txt t n) (hx : txC t n σ) : ∀ (m k : Nat), p + k + m = n → ys_53_46 e (d + 2) (Int32.ofNat p) (Int32.ofNat (k + dl t m (p + k))) (vC t p (k + dl t m (p + k))) κ σ Q → ys_53_4 e (d + 2) (Int32.ofNat p) (Int32.ofNat k) (vC t p k) κ σ Q := by
  intro m
  have hn := ht.1
  induction m with
  | zero =>
    intro k hp h
    have h : ys_53_46 e (d + 2) (Int32.ofNat p) (Int32.ofNat k) (vC t p k) κ σ Q := h
    unfold ys_53_4
    split
    · rw [oN_a]
      refine c_46 ht hx (by omega) ?_
      have hs : sgn t n (p + k) = 0 := by unfold sgn; rw [if_neg (by omega)]
      rw [my_kI_v, hs]
      refine c_52 ?_
      rw [my_kI_v, if_pos (by decide)]
      exact h
    · exact h
  | succ m ih =>
    intro k hp h
    have hpn : p + k < n := by omega
    unfold ys_53_4
    rw [if_pos (show Int32.ofNat k < 1500 from (oN_lt (n := 1500) (by omega) (by omega)).mpr (by omega)), oN_a]
    refine c_46 ht hx (by omega) ?_
    have hs : sgn t n (p + k) = t (p + k) := by unfold sgn; rw [if_pos hpn]
    rw [my_kI_v, hs]
    refine c_52 ?_
    rw [my_kI_v]
    unfold dl at h
    by_cases hl : iD (t (p + k)) = true
    · rw [hl, if_neg (by decide)]
      rw [if_pos hl] at h
      refine c_46 ht hx (by omega) ?_
      rw [my_kI_v, hs, oN_s]
      refine ys_53_4_ok ?_
      have h2 := ih (k + 1) (by omega) (by rw [show k + 1 + dl t m (p + (k + 1)) = k + (dl t m (p + k + 1) + 1) by rw [show p + (k + 1) = p + k + 1 by omega]; omega]; exact h)
      exact h2
    · have hl : iD (t (p + k)) = false := by simpa using hl
      rw [hl, if_pos (by decide)]
      rw [hl, if_neg (by decide), Nat.add_zero] at h
      exact h
end MYN
