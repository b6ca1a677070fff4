/-! ===== .. in the reference ===== -/
theorem oN_d (p k : Nat) : Int32.ofNat (p + k) - Int32.ofNat p = Int32.ofNat k := by
  rw [Int32.ofNat_add, Int32.add_comm, Int32.add_sub_cancel]
def stN (σ : my_S) (a : Int64) (b : Int32) : my_S := my_uI (my_uL σ 498 8 a) 498 6 b
def stV (σ : my_S) (a b : Int32) : my_S := my_uI (my_uI σ 498 7 a) 498 6 b
theorem stN_N {σ : my_S} {a c : Int64} {b d : Int32} : stN (stN σ a b) c d = stN σ c d := by
  unfold stN my_uI my_uL
  refine Prod.ext ?_ (Prod.ext ?_ rfl)
  · funext x j
    simp only
    split <;> rfl
  · funext x j
    simp only
    split <;> rfl
theorem stN_id {σ : my_S} {a : Int64} {b : Int32} (h1 : σ.2.1 498 8 = a) (h2 : σ.1 498 6 = b) : stN σ a b = σ := by
  unfold stN my_uI my_uL
  refine Prod.ext ?_ (Prod.ext ?_ rfl)
  · funext x j
    simp only
    split
    · rename_i hh
      rw [hh.1, hh.2, h2]
    · rfl
  · funext x j
    simp only
    split
    · rename_i hh
      rw [hh.1, hh.2, h1]
    · rfl
theorem stV_V {σ : my_S} {a c b d : Int32} : stV (stV σ a b) c d = stV σ c d := by
  unfold stV my_uI
  refine Prod.ext ?_ rfl
  funext x j
  simp only
  split
  · rfl
  · split
    · rfl
    · rfl
theorem stV_id {σ : my_S} {a b : Int32} (h1 : σ.1 498 7 = a) (h2 : σ.1 498 6 = b) : stV σ a b = σ := by
  unfold stV my_uI
  refine Prod.ext ?_ rfl
  funext x j
  simp only
  split
  · rename_i hh
    rw [hh.1, hh.2, h2]
  · split
    · rename_i hh
      rw [hh.1, hh.2, h1]
    · rfl
theorem txR_N {t : Nat → Int32} {n : Nat} {σ : my_S} {a : Int64} {b : Int32} (hx : txR t n σ) : txR t n (stN σ a b) := by
  refine ⟨?_, fun j hj => ?_⟩
  · unfold stN; rw [my_uI_1, if_neg (by decide)]; exact hx.1
  · unfold stN; rw [my_uI_1, if_neg (by omega)]; exact hx.2 j hj
theorem txR_V {t : Nat → Int32} {n : Nat} {σ : my_S} {a b : Int32} (hx : txR t n σ) : txR t n (stV σ a b) := by
  refine ⟨?_, fun j hj => ?_⟩
  · unfold stV; rw [my_uI_1, if_neg (by decide), my_uI_1, if_neg (by decide)]; exact hx.1
  · unfold stV; rw [my_uI_1, if_neg (by omega), my_uI_1, if_neg (by omega)]; exact hx.2 j hj
section MYN2
variable {e : my_E} {d : Nat} {κ : my_K} {Q : my_O → my_K → my_S → Prop} {t : Nat → Int32} {n p : Nat} {x : Int32}
theorem iL_t {x : Int32} (h : iL x = true) : ¬ x < 97 ∧ ¬ 122 < x := by
  simpa [iL] using h
theorem iD_t {x : Int32} (h : iD x = true) : ¬ x < 48 ∧ ¬ 57 < x := by
  simpa [iD] using h
theorem r_221_l (ht : txt t n) : ∀ (m k : Nat) (σ : my_S), txR t n σ → p + k + m = n → σ.1 498 6 = Int32.ofNat (p + k) → σ.1 498 5 = Int32.ofNat p → σ.2.1 498 8 = nR t p k → ys_221_84 e (d + 1) κ (stN σ (nR t p (k + ll t m (p + k))) (Int32.ofNat (p + k + ll t m (p + k)))) Q → ys_221_5 e (d + 1) κ σ Q := by
  intro m
  have hn := ht.1
  induction m with
  | zero =>
    intro k σ hx hp h6 h5 h8 h
    unfold ys_221_5
    rw [h6]
    refine r_220 ht hx (by omega) ?_
    have hs : sgn t n (p + k) = 0 := by unfold sgn; rw [if_neg (by omega)]
    rw [my_kI_v, hs, if_pos (by decide)]
    have h : ys_221_84 e (d + 1) κ (stN σ (nR t p k) (Int32.ofNat (p + k))) Q := h
    rwa [stN_id h8 h6] at h
  | succ m ih =>
    intro k σ hx hp h6 h5 h8 h
    have hpn : p + k < n := by omega
    have hs : sgn t n (p + k) = t (p + k) := by unfold sgn; rw [if_pos hpn]
    unfold ys_221_5
    rw [h6]
    refine r_220 ht hx (by omega) ?_
    rw [my_kI_v, hs]
    unfold ll at h
    have stop : iL (t (p + k)) = false → ys_221_84 e (d + 1) κ σ Q := fun hl => by
      rw [hl, if_neg (by decide)] at h
      have h : ys_221_84 e (d + 1) κ (stN σ (nR t p k) (Int32.ofNat (p + k))) Q := h
      rwa [stN_id h8 h6] at h
    by_cases h1 : t (p + k) < 97
    · rw [if_pos h1]
      exact stop (by simp [iL, h1])
    · rw [if_neg h1, h6]
      refine r_220 ht hx (by omega) ?_
      rw [my_kI_v, hs]
      by_cases h2 : 122 < t (p + k)
      · rw [if_pos h2]
        exact stop (by simp [iL, h2])
      · have hl : iL (t (p + k)) = true := by simp [iL, h1, h2]
        rw [if_pos hl] at h
        rw [if_neg h2, h6, h5, oN_d]
        have nxt : ∀ w, w = nR t p (k + 1) → ys_221_68 e (d + 1) w κ σ Q := fun w hw => by
          unfold ys_221_68
          rw [h6, oN_s, hw]
          refine ys_221_5_ok (ih (k + 1) (stN σ (nR t p (k + 1)) (Int32.ofNat (p + k + 1))) (txR_N hx) (by omega) ?_ ?_ ?_ ?_)
          · unfold stN; rw [my_uI_1, if_pos ⟨rfl, rfl⟩]; rfl
          · unfold stN; rw [my_uI_1, if_neg (by decide)]; exact h5
          · unfold stN; simp [my_uI, my_uL]
          · rw [stN_N]
            rw [show k + 1 + ll t m (p + (k + 1)) = k + (ll t m (p + k + 1) + 1) by rw [show p + (k + 1) = p + k + 1 by omega]; omega, show p + (k + 1) + ll t m (p + (k + 1)) = p + k + (ll t m (p + k + 1) + 1) by rw [show p + (k + 1) = p + k + 1 by omega]; omega]
            exact h
        by_cases h8k : k < 8
        · rw [if_pos (show Int32.ofNat k < 8 from (oN_lt (n := 8) (by omega) (by omega)).mpr h8k)]
          refine r_220 ht hx (by omega) ?_
          rw [my_kI_v, hs]
          refine ys_212 ?_
          unfold ys_212_0
          rw [if_neg (fun h0 : t (p + k) = 0 => h1 (by rw [h0]; decide))]
          unfold ys_212_22
          rw [my_kL_v]
          refine nxt _ ?_
          rw [h8]
          conv => rhs; unfold nR
          rw [if_pos h8k]
        · rw [if_neg (fun hh : Int32.ofNat k < 8 => h8k ((oN_lt (n := 8) (by omega) (by omega)).mp hh))]
          refine nxt _ ?_
          rw [h8]
          conv => rhs; unfold nR
          rw [if_neg h8k]
theorem r_222_l (ht : txt t n) : ∀ (m k : Nat) (σ : my_S), txR t n σ → p + k + m = n → σ.1 498 6 = Int32.ofNat (p + k) → σ.1 498 5 = Int32.ofNat p → σ.1 498 7 = vR t p k → ys_222_88 e (d + 1) κ (stV σ (vR t p (k + dl t m (p + k))) (Int32.ofNat (p + k + dl t m (p + k)))) Q → ys_222_5 e (d + 1) κ σ Q := by
  intro m
  have hn := ht.1
  induction m with
  | zero =>
    intro k σ hx hp h6 h5 h8 h
    unfold ys_222_5
    rw [h6]
    refine r_220 ht hx (by omega) ?_
    have hs : sgn t n (p + k) = 0 := by unfold sgn; rw [if_neg (by omega)]
    rw [my_kI_v, hs, if_pos (by decide)]
    have h : ys_222_88 e (d + 1) κ (stV σ (vR t p k) (Int32.ofNat (p + k))) Q := h
    rwa [stV_id h8 h6] at h
  | succ m ih =>
    intro k σ hx hp h6 h5 h8 h
    have hpn : p + k < n := by omega
    have hs : sgn t n (p + k) = t (p + k) := by unfold sgn; rw [if_pos hpn]
    unfold ys_222_5
    rw [h6]
    refine r_220 ht hx (by omega) ?_
    rw [my_kI_v, hs]
    unfold dl at h
    have stop : iD (t (p + k)) = false → ys_222_88 e (d + 1) κ σ Q := fun hl => by
      rw [hl, if_neg (by decide)] at h
      have h : ys_222_88 e (d + 1) κ (stV σ (vR t p k) (Int32.ofNat (p + k))) Q := h
      rwa [stV_id h8 h6] at h
    by_cases h1 : t (p + k) < 48
    · rw [if_pos h1]
      exact stop (by simp [iD, h1])
    · rw [if_neg h1, h6]
      refine r_220 ht hx (by omega) ?_
      rw [my_kI_v, hs]
      by_cases h2 : 57 < t (p + k)
      · rw [if_pos h2]
        exact stop (by simp [iD, h2])
      · have hl : iD (t (p + k)) = true := by simp [iD, h1, h2]
        rw [if_pos hl] at h
        rw [if_neg h2, h6, h5, oN_d]
        have nxt : ∀ w, w = vR t p (k + 1) → ys_222_72 e (d + 1) w κ σ Q := fun w hw => by
          unfold ys_222_72
          rw [h6, oN_s, hw]
          refine ys_222_5_ok (ih (k + 1) (stV σ (vR t p (k + 1)) (Int32.ofNat (p + k + 1))) (txR_V hx) (by omega) ?_ ?_ ?_ ?_)
          · unfold stV; rw [my_uI_1, if_pos ⟨rfl, rfl⟩]; rfl
          · unfold stV; rw [my_uI_1, if_neg (by decide), my_uI_1, if_neg (by decide)]; exact h5
          · unfold stV; simp [my_uI]
          · rw [stV_V]
            rw [show k + 1 + dl t m (p + (k + 1)) = k + (dl t m (p + k + 1) + 1) by rw [show p + (k + 1) = p + k + 1 by omega]; omega, show p + (k + 1) + dl t m (p + (k + 1)) = p + k + (dl t m (p + k + 1) + 1) by rw [show p + (k + 1) = p + k + 1 by omega]; omega]
            exact h
        by_cases h8k : k < 6
        · rw [if_pos (show Int32.ofNat k < 6 from (oN_lt (n := 6) (by omega) (by omega)).mpr h8k)]
          refine r_220 ht hx (by omega) ?_
          rw [my_kI_v, hs]
          refine nxt _ ?_
          rw [h8]
          conv => rhs; unfold vR
          rw [if_pos h8k]
        · rw [if_neg (fun hh : Int32.ofNat k < 6 => h8k ((oN_lt (n := 6) (by omega) (by omega)).mp hh))]
          refine nxt _ ?_
          rw [h8]
          conv => rhs; unfold vR
          rw [if_neg h8k]
end MYN2
