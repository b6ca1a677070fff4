/-! ===== tokens of signs, in the reference ===== -/
def isS (c : Int32) : Bool := decide (c = 40) || decide (c = 41) || decide (c = 123) || decide (c = 125) || decide (c = 91) || decide (c = 93) || decide (c = 44) || decide (c = 59) || decide (c = 58) || decide (c = 61) || decide (c = 60) || decide (c = 43) || decide (c = 45) || decide (c = 42) || decide (c = 47) || decide (c = 37) || decide (c = 38) || decide (c = 124) || decide (c = 33)
/-- two signs that are one -/
def is2 (c q : Int32) : Bool := decide (q = 61) && (decide (c = 61) || decide (c = 33) || decide (c = 60))
def k2R (c : Int32) : Int32 := if c = 61 then 4 else if c = 33 then 5 else 6
section MYU2
variable {e : my_E} {d : Nat} {κ : my_K} {σ : my_S} {Q : my_O → my_K → my_S → Prop} {t : Nat → Int32} {n p : Nat} {c : Int32}
theorem r_223_s (hQ : Q (.inl (some (.inl (if isS c = true then c else 1)))) κ σ) : ys_223_74 e d c κ σ Q := by
  have yes : isS c = true → ys_223_198 e d c κ σ Q := fun h => by
    rw [if_pos h] at hQ
    exact hQ
  have no : isS c = false → ys_223_203 e d 1 κ σ Q := fun h => by
    rw [h, if_neg (by decide)] at hQ
    exact hQ
  have y1 : isS c = true → ys_223_140 e d c κ σ Q := fun h => by
    unfold ys_223_140 ys_223_145
    rw [if_neg (by decide)]
    exact yes h
  unfold ys_223_74
  refine my_if (fun h => y1 (by simp [isS, h])) (fun a1 => ?_)
  refine my_if (fun h => y1 (by simp [isS, h])) (fun a2 => ?_)
  refine my_if (fun h => y1 (by simp [isS, h])) (fun a3 => ?_)
  refine my_if (fun h => y1 (by simp [isS, h])) (fun a4 => ?_)
  refine my_if (fun h => y1 (by simp [isS, h])) (fun a5 => ?_)
  refine my_if (fun h => y1 (by simp [isS, h])) (fun a6 => ?_)
  refine my_if (fun h => y1 (by simp [isS, h])) (fun a7 => ?_)
  refine my_if (fun h => y1 (by simp [isS, h])) (fun a8 => ?_)
  refine my_if (fun h => y1 (by simp [isS, h])) (fun a9 => ?_)
  refine my_if (fun h => y1 (by simp [isS, h])) (fun a10 => ?_)
  refine my_if (fun h => y1 (by simp [isS, h])) (fun a11 => ?_)
  unfold ys_223_145
  rw [if_pos rfl]
  refine my_if (fun h => yes (by simp [isS, h])) (fun b1 => ?_)
  refine my_if (fun h => yes (by simp [isS, h])) (fun b2 => ?_)
  refine my_if (fun h => yes (by simp [isS, h])) (fun b3 => ?_)
  refine my_if (fun h => yes (by simp [isS, h])) (fun b4 => ?_)
  refine my_if (fun h => yes (by simp [isS, h])) (fun b5 => ?_)
  refine my_if (fun h => yes (by simp [isS, h])) (fun b6 => ?_)
  refine my_if (fun h => yes (by simp [isS, h])) (fun b7 => ?_)
  refine my_if (fun h => yes (by simp [isS, h])) (fun b8 => ?_)
  exact no (by simp [isS, a1, a2, a3, a4, a5, a6, a7, a8, a9, a10, a11, b1, b2, b3, b4, b5, b6, b7, b8])
/-- signToken -/
theorem r_223 (ht : txt t n) (hx : txR t n σ) (hp : p < n) (h6 : σ.1 498 6 = Int32.ofNat p)
    (hQ : Q (.inl (some (.inl (if is2 c (sgn t n (p + 1)) = true then k2R c else if isS c = true then c else 1)))) κ (my_uI σ 498 6 (Int32.ofNat (p + if is2 c (sgn t n (p + 1)) = true then 2 else 1)))) : my_M e (d + 2) 223 [.inr (.inr (some 498)), .inl c] κ σ Q := by
  have hn := ht.1
  refine ys_223 ?_
  unfold ys_223_0
  rw [h6, oN_s]
  refine r_220 ht (txR_6 hx) (by omega) ?_
  rw [my_kI_v]
  have one : is2 c (sgn t n (p + 1)) = false → ys_223_74 e (d + 1) c κ (my_uI σ 498 6 (Int32.ofNat (p + 1))) Q := fun h => by
    simp only [h, Bool.false_eq_true, if_false] at hQ
    exact r_223_s hQ
  have two : is2 c (sgn t n (p + 1)) = true → ys_223_41 e (d + 1) c κ (my_uI σ 498 6 (Int32.ofNat (p + 1))) Q := fun h => by
    simp only [h, if_true] at hQ
    unfold ys_223_41
    have e6 : (my_uI σ 498 6 (Int32.ofNat (p + 1))).1 498 6 = Int32.ofNat (p + 1) := by rw [my_uI_1, if_pos ⟨rfl, rfl⟩]
    rw [e6, oN_s, uI_uI]
    unfold k2R at hQ
    refine my_if (fun h1 => ?_) (fun h1 => ?_)
    · rw [if_pos h1] at hQ; exact hQ
    · rw [if_neg h1] at hQ
      refine my_if (fun h2 => ?_) (fun h2 => ?_)
      · rw [if_pos h2] at hQ; exact hQ
      · rw [if_neg h2] at hQ; exact hQ
  refine my_if (fun h61 => ?_) (fun h61 => one (by simp [is2, h61]))
  refine my_if (fun h => two (by simp [is2, h61, h])) (fun c1 => ?_)
  refine my_if (fun h => two (by simp [is2, h61, h])) (fun c2 => ?_)
  refine my_if (fun h => two (by simp [is2, h61, h])) (fun c3 => ?_)
  exact one (by simp [is2, c1, c2, c3])
end MYU2
/-- the token at a place that is behind the blanks: what it is in the reference; how many signs it has -/
def tkR (t : Nat → Int32) (n p : Nat) : Int32 := if p < n then (if iL (t p) = true then (if 8 < ll t (n - p) p then 1 else ktR (lw t p (ll t (n - p) p))) else if iD (t p) = true then (if 6 < dl t (n - p) p then 1 else 3) else if is2 (t p) (sgn t n (p + 1)) = true then k2R (t p) else if isS (t p) = true then t p else 1) else 0
def tkl (t : Nat → Int32) (n p : Nat) : Nat := if p < n then (if iL (t p) = true then ll t (n - p) p else if iD (t p) = true then dl t (n - p) p else if is2 (t p) (sgn t n (p + 1)) = true then 2 else 1) else 0
/-- the reference's memory at the token at p: end, place, token; the name or the number where it is one -/
def nxR (t : Nat → Int32) (n p : Nat) (σ : my_S) : my_S :=
  let σ1 := my_uI (my_uI σ 498 6 (Int32.ofNat p)) 498 5 (Int32.ofNat p)
  my_uI (if p < n then (if iL (t p) = true then stN σ1 (nR t p (ll t (n - p) p)) (Int32.ofNat (p + ll t (n - p) p)) else if iD (t p) = true then stV σ1 (vR t p (dl t (n - p) p)) (Int32.ofNat (p + dl t (n - p) p)) else my_uI σ1 498 6 (Int32.ofNat (p + tkl t n p))) else σ1) 498 4 (tkR t n p)
section MYU3
variable {e : my_E} {d : Nat} {κ : my_K} {σ : my_S} {Q : my_O → my_K → my_S → Prop} {t : Nat → Int32} {n q : Nat}
theorem txR_5 {x : Int32} (hx : txR t n σ) : txR t n (my_uI σ 498 5 x) := by
  refine ⟨?_, fun j hj => ?_⟩
  · rw [my_uI_1, if_neg (by decide)]; exact hx.1
  · rw [my_uI_1, if_neg (by omega)]; exact hx.2 j hj
/-- next -/
theorem r_218 (ht : txt t n) (hx : txR t n σ) (hw : kwR σ) (hq : q ≤ n) (h6 : σ.1 498 6 = Int32.ofNat q) (hQ : Q (.inl none) κ (nxR t n (sk t (n - q) false q) σ)) : my_M e (d + 3) 218 [.inr (.inr (some 498))] κ σ Q := by
  have hn := ht.1
  refine ys_218 ?_
  unfold ys_218_0
  refine r_219 ht hx hq h6 ?_
  rw [my_k0_v]
  have hsk := sk_le t (n - q) false q
  generalize sk t (n - q) false q = p at *
  have e6 : (my_uI σ 498 6 (Int32.ofNat p)).1 498 6 = Int32.ofNat p := by rw [my_uI_1, if_pos ⟨rfl, rfl⟩]
  rw [e6]
  have hx1 : txR t n (my_uI (my_uI σ 498 6 (Int32.ofNat p)) 498 5 (Int32.ofNat p)) := txR_5 (txR_6 hx)
  have g6 : (my_uI (my_uI σ 498 6 (Int32.ofNat p)) 498 5 (Int32.ofNat p)).1 498 6 = Int32.ofNat p := by rw [my_uI_1, if_neg (by decide)]; exact e6
  have g5 : (my_uI (my_uI σ 498 6 (Int32.ofNat p)) 498 5 (Int32.ofNat p)).1 498 5 = Int32.ofNat p := by rw [my_uI_1, if_pos ⟨rfl, rfl⟩]
  have gw : kwR (my_uI (my_uI σ 498 6 (Int32.ofNat p)) 498 5 (Int32.ofNat p)) := hw
  refine r_220 ht hx1 (by omega) ?_
  rw [my_kI_v]
  unfold nxR tkR at hQ
  simp only at hQ
  by_cases hp : p < n
  · have hs : sgn t n p = t p := by unfold sgn; rw [if_pos hp]
    have hsg := sg_bd (ht.2 p hp)
    rw [hs, if_neg (fun h0 : t p = 0 => by rw [h0] at hsg; exact absurd hsg.1 (by decide))]
    rw [if_pos hp, if_pos hp] at hQ
    have rest : iL (t p) = false → ys_218_49 e (d + 2) (t p) κ (my_uI (my_uI σ 498 6 (Int32.ofNat p)) 498 5 (Int32.ofNat p)) Q := fun hl => by
      simp only [hl, Bool.false_eq_true, if_false] at hQ
      have sign : iD (t p) = false → ys_218_68 e (d + 2) (t p) κ (my_uI (my_uI σ 498 6 (Int32.ofNat p)) 498 5 (Int32.ofNat p)) Q := fun hd => by
        simp only [hd, Bool.false_eq_true, if_false] at hQ
        unfold ys_218_68
        refine r_223 ht hx1 hp g6 ?_
        rw [my_kI_v]
        unfold ys_218_73
        have ek : tkl t n p = if is2 (t p) (sgn t n (p + 1)) = true then 2 else 1 := by
          unfold tkl; simp only [hp, hl, hd, Bool.false_eq_true, if_false, if_true]
        rw [ek] at hQ
        exact hQ
      unfold ys_218_49
      refine my_if (fun h => sign (by simp [iD, h])) (fun h1 => ?_)
      refine my_if (fun h => sign (by simp [iD, h])) (fun h2 => ?_)
      have hd : iD (t p) = true := by simp [iD, h1, h2]
      simp only [hd, if_true] at hQ
      refine r_222 ht hx1 (by omega) g6 g5 ?_
      rw [my_kI_v]
      exact hQ
    refine my_if (fun h => rest (by simp [iL, h])) (fun h1 => ?_)
    refine my_if (fun h => rest (by simp [iL, h])) (fun h2 => ?_)
    have hl : iL (t p) = true := by simp [iL, h1, h2]
    simp only [hl, if_true] at hQ
    refine r_221 ht hx1 gw (by omega) g6 g5 ?_
    rw [my_kI_v]
    exact hQ
  · have hs : sgn t n p = 0 := by unfold sgn; rw [if_neg hp]
    rw [hs, if_pos rfl]
    rw [if_neg hp, if_neg hp] at hQ
    exact hQ
end MYU3
