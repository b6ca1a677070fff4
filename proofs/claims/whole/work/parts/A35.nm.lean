/-! ===== how many bytes there are at most ===== -/
theorem nx_nm {t : Nat → Int32} {n p : Nat} (ht : txt t n) (h : tkk t n p = 2) : p + (tkm t n p).length ≤ nx t n p ∧ 1 ≤ (tkm t n p).length := by
  have hp : p < n := tk_lt (t := t) (n := n) (p := p) (by rw [h]; decide)
  have h1 := (tk2_N h ht).2.2.2
  have h2 := sk_le t (n - (p + tkl t n p)) false (p + tkl t n p)
  have h3 := tkl_bd ht hp
  rw [h1]
  unfold nx
  omega
