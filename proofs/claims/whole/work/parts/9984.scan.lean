/-! ===== the text; blanks ===== -/
theorem oN_i {p : Nat} (hp : p < 2147483648) : (Int32.ofNat p).toInt = (p : Int) := Int32.toInt_ofNat_of_lt hp
theorem oN_lt {p n : Nat} (hp : p < 2147483648) (hn : n < 2147483648) : Int32.ofNat p < Int32.ofNat n ↔ p < n := by
  rw [Int32.lt_iff_toInt_lt, oN_i hp, oN_i hn]; omega
theorem oN_n {p : Nat} (hp : p < 2147483648) : (Int32.ofNat p).toNatClampNeg = p := by
  unfold Int32.toNatClampNeg; rw [oN_i hp]; simp
theorem oN_s (p : Nat) : Int32.ofNat p + 1 = Int32.ofNat (p + 1) := by rw [Int32.ofNat_add]; rfl
theorem oN_0 {p : Nat} (hp : p < 2147483648) : ¬ Int32.ofNat p < 0 := by
  rw [Int32.lt_iff_toInt_lt, oN_i hp]; simp
theorem uI_uI {σ : my_S} {a k : Nat} {x y : Int32} : my_uI (my_uI σ a k x) a k y = my_uI σ a k y := by
  unfold my_uI
  refine Prod.ext ?_ rfl
  funext b j
  simp only
  split <;> rfl
theorem uI_id {σ : my_S} {a k : Nat} {x : Int32} (h : σ.1 a k = x) : my_uI σ a k x = σ := by
  unfold my_uI
  refine Prod.ext ?_ rfl
  funext b j
  simp only
  split
  · rename_i hh
    rw [hh.1, hh.2, h]
  · rfl
/-- a sign of a text -/
def sg (x : Int32) : Prop := x = 10 ∨ (32 ≤ x.toInt ∧ x.toInt ≤ 126)
theorem sg_bd {x : Int32} (h : sg x) : 10 ≤ x.toInt ∧ x.toInt ≤ 126 := by
  rcases h with rfl | h
  · decide
  · omega
theorem sg_and {x : Int32} (h : sg x) : x &&& 255 = x := by
  have hb := sg_bd h
  apply Int32.toBitVec_inj.mp
  show x.toBitVec &&& 255#32 = x.toBitVec
  have h1 : x.toBitVec.toNat < 256 := by
    have h2 : x.toBitVec.toInt = x.toInt := rfl
    have h3 := x.toBitVec.isLt
    rw [BitVec.toInt_eq_toNat_cond] at h2
    split at h2 <;> omega
  apply BitVec.eq_of_toNat_eq
  rw [BitVec.toNat_and]
  show x.toBitVec.toNat &&& 255 = _
  rw [show (255 : Nat) = 2 ^ 8 - 1 from rfl, Nat.and_two_pow_sub_one_eq_mod]
  exact Nat.mod_eq_of_lt h1
/-- the text of the class, of the reference -/
def txC (t : Nat → Int32) (n : Nat) (σ : my_S) : Prop := σ.1 33 1 = Int32.ofNat n ∧ ∀ j, j < n → σ.1 34 j = t j
def txR (t : Nat → Int32) (n : Nat) (σ : my_S) : Prop := σ.1 498 2 = Int32.ofNat n ∧ ∀ j, j < n → σ.1 499 j = t j
def txt (t : Nat → Int32) (n : Nat) : Prop := n ≤ 1500 ∧ ∀ j, j < n → sg (t j)
/-- the sign at a place, 0 behind the end -/
def sgn (t : Nat → Int32) (n p : Nat) : Int32 := if p < n then t p else 0
section MYS
variable {e : my_E} {d : Nat} {κ : my_K} {σ : my_S} {Q : my_O → my_K → my_S → Prop} {t : Nat → Int32} {n p : Nat}
theorem c_46 (ht : txt t n) (hx : txC t n σ) (hp : p < 4000) (hQ : Q (.inl (some (.inl (sgn t n p)))) κ σ) : my_M e (d + 2) 46 [.inr (.inr (some 33)), .inl (Int32.ofNat p)] κ σ Q := by
  refine ys_46 ?_
  unfold ys_46_0
  have hn := ht.1
  rw [hx.1]
  unfold sgn at hQ
  by_cases h : p < n
  · rw [if_pos ((oN_lt (by omega) (by omega)).mpr h)]
    rw [if_pos h] at hQ
    refine yb34_3 ?_
    unfold yb34_3_0
    rw [if_neg (oN_0 (by omega)), if_pos (show Int32.ofNat p < 1500 from (oN_lt (n := 1500) (by omega) (by omega)).mpr (by omega))]
    refine ⟨⟨by rw [oN_i (by omega)]; omega, by rw [oN_i (by omega)]; omega⟩, ?_⟩
    unfold yb34_3_21
    rw [my_kI_v]
    unfold ys_46_20
    rw [oN_n (by omega), hx.2 p h, sg_and (ht.2 p h)]
    exact hQ
  · rw [if_neg (fun hh => h ((oN_lt (by omega) (by omega)).mp hh))]
    rw [if_neg h] at hQ
    exact hQ
theorem r_220 (ht : txt t n) (hx : txR t n σ) (hp : p < 4000) (hQ : Q (.inl (some (.inl (sgn t n p)))) κ σ) : my_M e (d + 1) 220 [.inr (.inr (some 498)), .inl (Int32.ofNat p)] κ σ Q := by
  refine ys_220 ?_
  unfold ys_220_0
  have hn := ht.1
  rw [hx.1]
  unfold sgn at hQ
  by_cases h : p < n
  · rw [if_pos ((oN_lt (by omega) (by omega)).mpr h)]
    rw [if_pos h] at hQ
    refine ⟨⟨by rw [oN_i (by omega)]; omega, by rw [oN_i (by omega)]; omega⟩, ?_⟩
    unfold ys_220_18
    rw [oN_n (by omega), hx.2 p h]
    exact hQ
  · rw [if_neg (fun hh => h ((oN_lt (by omega) (by omega)).mp hh))]
    rw [if_neg h] at hQ
    exact hQ
end MYS
/-- behind blanks and remarks: m signs are left from p on; c: within a remark -/
def sk (t : Nat → Int32) : Nat → Bool → Nat → Nat
  | 0, _, p => p
  | m + 1, c, p => if t p = 10 then sk t m false (p + 1) else if t p = 35 then sk t m true (p + 1) else if c = true then sk t m c (p + 1) else if t p = 32 then sk t m c (p + 1) else p
theorem sk_le (t : Nat → Int32) : ∀ (m : Nat) (c : Bool) (p : Nat), p ≤ sk t m c p ∧ sk t m c p ≤ p + m
  | 0, _, p => by simp [sk]
  | m + 1, c, p => by
    have h1 := sk_le t m false (p + 1)
    have h2 := sk_le t m true (p + 1)
    have h3 := sk_le t m c (p + 1)
    unfold sk
    split
    · omega
    · split
      · omega
      · split
        · omega
        · split
          · omega
          · omega
section MYS2
variable {e : my_E} {d : Nat} {κ : my_K} {σ : my_S} {Q : my_O → my_K → my_S → Prop} {t : Nat → Int32} {n : Nat}
def bI (c : Bool) : Int32 := if c then 1 else 0
theorem c_45_l (ht : txt t n) (hx : txC t n σ) : ∀ (m : Nat) (c : Bool) (p : Nat), p + m = n → Q (.inl (some (.inl (Int32.ofNat (sk t m c p))))) κ σ → ys_45_4 e (d + 2) (bI c) (Int32.ofNat p) κ σ Q := by
  intro m
  have hn := ht.1
  induction m with
  | zero =>
    intro c p hp hQ
    have : p = n := by omega
    subst this
    unfold ys_45_4
    rw [hx.1, if_neg (fun hh => absurd ((oN_lt (by omega) (by omega)).mp hh) (by omega))]
    exact hQ
  | succ m ih =>
    intro c p hp hQ
    have hpn : p < n := by omega
    unfold ys_45_4
    rw [hx.1, if_pos ((oN_lt (by omega) (by omega)).mpr hpn)]
    refine c_46 ht hx (by omega) ?_
    have hs : sgn t n p = t p := by unfold sgn; rw [if_pos hpn]
    rw [my_kI_v, hs]
    have go : ∀ c' : Bool, Q (.inl (some (.inl (Int32.ofNat (sk t m c' (p + 1)))))) κ σ → ys_45_56 e (d + 2) (bI c') (Int32.ofNat p) κ σ Q := fun c' hQ' => by
      unfold ys_45_56
      rw [oN_s]
      exact ys_45_4_ok (ih c' (p + 1) (by omega) hQ')
    unfold sk at hQ
    by_cases h1 : t p = 10
    · rw [if_pos h1]
      rw [if_pos h1] at hQ
      exact go false hQ
    · rw [if_neg h1]
      rw [if_neg h1] at hQ
      by_cases h2 : t p = 35
      · rw [if_pos h2]
        rw [if_pos h2] at hQ
        exact go true hQ
      · rw [if_neg h2]
        rw [if_neg h2] at hQ
        cases c with
        | true =>
          rw [if_pos rfl] at hQ
          rw [if_neg (by decide)]
          exact go true hQ
        | false =>
          rw [if_neg (by decide)] at hQ
          rw [if_pos (by decide)]
          by_cases h3 : t p = 32
          · rw [if_pos h3]
            rw [if_pos h3] at hQ
            exact go false hQ
          · rw [if_neg h3]
            rw [if_neg h3] at hQ
            exact hQ
/-- behindBlanks -/
theorem c_45 (ht : txt t n) (hx : txC t n σ) {p : Nat} (hp : p ≤ n) (hQ : Q (.inl (some (.inl (Int32.ofNat (sk t (n - p) false p))))) κ σ) : my_M e (d + 3) 45 [.inr (.inr (some 33)), .inl (Int32.ofNat p)] κ σ Q := by
  refine ys_45 ?_
  unfold ys_45_0
  exact ys_45_4_ok (c_45_l ht hx (n - p) false p (by omega) hQ)
theorem txR_6 {x : Int32} (hx : txR t n σ) : txR t n (my_uI σ 498 6 x) := by
  refine ⟨?_, fun j hj => ?_⟩
  · rw [my_uI_1, if_neg (by decide)]; exact hx.1
  · rw [my_uI_1, if_neg (by omega)]; exact hx.2 j hj
/-- the rest of a remark, in the reference: up to the end of the row -/
def rw1 (t : Nat → Int32) : Nat → Nat → Nat
  | 0, p => p
  | m + 1, p => if t p = 10 then p else rw1 t m (p + 1)
theorem rw1_le (t : Nat → Int32) : ∀ (m p : Nat), p ≤ rw1 t m p ∧ rw1 t m p ≤ p + m
  | 0, p => by simp [rw1]
  | m + 1, p => by
    have h := rw1_le t m (p + 1)
    unfold rw1
    split <;> omega
/-- a remark ends where its row ends -/
theorem sk_rw1 (t : Nat → Int32) : ∀ (m p : Nat), sk t m true p = sk t (p + m - rw1 t m p) false (rw1 t m p)
  | 0, p => by simp [rw1, sk]
  | m + 1, p => by
    have hl := rw1_le t m (p + 1)
    unfold rw1
    by_cases h : t p = 10
    · rw [if_pos h]
      have : p + (m + 1) - p = m + 1 := by omega
      rw [this]
      conv => lhs; unfold sk
      conv => rhs; unfold sk
      rw [if_pos h, if_pos h]
    · rw [if_neg h]
      conv => lhs; unfold sk
      rw [if_neg h]
      have e1 : p + (m + 1) - rw1 t m (p + 1) = (p + 1) + m - rw1 t m (p + 1) := by omega
      rw [e1, ← sk_rw1 t m (p + 1)]
      split
      · rfl
      · rfl
theorem r_219_i (ht : txt t n) : ∀ (m p : Nat) (σ : my_S), txR t n σ → p + m = n → σ.1 498 6 = Int32.ofNat p → ys_219_82 e (d + 1) 1 35 κ (my_uI σ 498 6 (Int32.ofNat (rw1 t m p))) Q → ys_219_39 e (d + 1) 1 35 κ σ Q := by
  intro m
  have hn := ht.1
  induction m with
  | zero =>
    intro p σ hx hp he h
    unfold ys_219_39
    rw [if_pos rfl, he, hx.1, if_neg (fun hh => absurd ((oN_lt (by omega) (by omega)).mp hh) (by omega))]
    unfold rw1 at h
    rw [uI_id he] at h
    exact h
  | succ m ih =>
    intro p σ hx hp he h
    unfold ys_219_39
    have hpn : p < n := by omega
    rw [if_pos rfl, he, hx.1, if_pos ((oN_lt (by omega) (by omega)).mpr hpn)]
    refine r_220 ht hx (by omega) ?_
    have hs : sgn t n p = t p := by unfold sgn; rw [if_pos hpn]
    rw [my_kI_v, hs]
    unfold rw1 at h
    by_cases h1 : t p = 10
    · rw [if_pos h1]
      rw [if_pos h1, uI_id he] at h
      exact h
    · rw [if_neg h1, he, oN_s]
      rw [if_neg h1] at h
      refine ys_219_39_ok (ih (p + 1) _ (txR_6 hx) (by omega) ?_ ?_)
      · rw [my_uI_1, if_pos ⟨rfl, rfl⟩]
      · rw [uI_uI]
        exact h
theorem r_219_l (ht : txt t n) : ∀ (m : Nat) (p : Nat) (σ : my_S), txR t n σ → p + m = n → σ.1 498 6 = Int32.ofNat p → Q (.inl none) κ (my_uI σ 498 6 (Int32.ofNat (sk t m false p))) → ys_219_2 e (d + 1) 1 κ σ Q := by
  intro m
  have hn := ht.1
  induction m using Nat.strongRecOn with
  | ind m ih =>
    intro p σ hx hp he hQ
    unfold ys_219_2
    rw [if_neg (by decide), he]
    refine r_220 ht hx (by omega) ?_
    rw [my_kI_v]
    have stop : ∀ x : Int32, ¬ x = 35 → sk t m false p = p → ys_219_38 e (d + 1) x 0 κ σ Q := fun x hx35 hsk => by
      unfold ys_219_38
      refine ys_219_39_ok ?_
      unfold ys_219_39
      rw [if_neg hx35]
      unfold ys_219_82
      rw [if_pos rfl, he]
      unfold ys_219_101 ys_219_102
      refine ys_219_2_ok ?_
      unfold ys_219_2
      rw [if_pos rfl]
      rw [hsk] at hQ
      rw [show Int32.ofNat p + 0 = Int32.ofNat p by simp]
      exact hQ
    cases m with
    | zero =>
      have hs : sgn t n p = 0 := by unfold sgn; rw [if_neg (by omega)]
      rw [hs, if_neg (by decide), if_neg (by decide), if_neg (by decide)]
      exact stop 0 (by decide) rfl
    | succ m =>
      have hpn : p < n := by omega
      have hs : sgn t n p = t p := by unfold sgn; rw [if_pos hpn]
      rw [hs]
      have on : ∀ x : Int32, ¬ x = 35 → sk t (m + 1) false p = sk t m false (p + 1) → ys_219_33 e (d + 1) x κ σ Q := fun x hx35 hsk => by
        unfold ys_219_33 ys_219_38
        refine ys_219_39_ok ?_
        unfold ys_219_39
        rw [if_neg hx35]
        unfold ys_219_82
        rw [if_neg (by decide), if_neg hx35, he]
        unfold ys_219_102
        rw [oN_s]
        refine ys_219_2_ok (ih m (by omega) (p + 1) _ (txR_6 hx) (by omega) (by rw [my_uI_1, if_pos ⟨rfl, rfl⟩]) ?_)
        rw [uI_uI, ← hsk]
        exact hQ
      by_cases h1 : t p = 32
      · rw [if_pos h1, h1]
        refine on 32 (by decide) ?_
        conv => lhs; unfold sk
        rw [if_neg (by rw [h1]; decide), if_neg (by rw [h1]; decide), if_neg (by decide), if_pos h1]
      · rw [if_neg h1]
        by_cases h2 : t p = 10
        · rw [if_pos h2, h2]
          refine on 10 (by decide) ?_
          conv => lhs; unfold sk
          rw [if_pos h2]
        · rw [if_neg h2]
          by_cases h3 : t p = 35
          · rw [if_pos h3, h3]
            unfold ys_219_33 ys_219_38
            refine ys_219_39_ok (r_219_i ht (m + 1) p σ hx (by omega) he ?_)
            have hl := rw1_le t m (p + 1)
            have hr : rw1 t (m + 1) p = rw1 t m (p + 1) := by
              conv => lhs; unfold rw1
              rw [if_neg h2]
            rw [hr]
            unfold ys_219_82
            rw [if_neg (by decide), if_pos rfl]
            have e6 : (my_uI σ 498 6 (Int32.ofNat (rw1 t m (p + 1)))).1 498 6 = Int32.ofNat (rw1 t m (p + 1)) := by rw [my_uI_1, if_pos ⟨rfl, rfl⟩]
            rw [e6]
            unfold ys_219_101 ys_219_102
            rw [uI_uI, show Int32.ofNat (rw1 t m (p + 1)) + 0 = Int32.ofNat (rw1 t m (p + 1)) by simp]
            refine ys_219_2_ok (ih (n - rw1 t m (p + 1)) (by omega) (rw1 t m (p + 1)) _ (txR_6 hx) (by omega) e6 ?_)
            rw [uI_uI]
            have e7 : sk t (m + 1) false p = sk t (n - rw1 t m (p + 1)) false (rw1 t m (p + 1)) := by
              conv => lhs; unfold sk
              rw [if_neg h2, if_pos h3, sk_rw1, show p + 1 + m = n by omega]
            rw [← e7]
            exact hQ
          · rw [if_neg h3]
            refine stop (t p) h3 ?_
            unfold sk
            rw [if_neg h2, if_neg h3, if_neg (by decide), if_neg h1]
/-- pass -/
theorem r_219 (ht : txt t n) (hx : txR t n σ) {p : Nat} (hp : p ≤ n) (he : σ.1 498 6 = Int32.ofNat p) (hQ : Q (.inl none) κ (my_uI σ 498 6 (Int32.ofNat (sk t (n - p) false p)))) : my_M e (d + 2) 219 [.inr (.inr (some 498))] κ σ Q := by
  refine ys_219 ?_
  unfold ys_219_0
  exact ys_219_2_ok (r_219_l ht (n - p) p σ hx (by omega) he hQ)
end MYS2
