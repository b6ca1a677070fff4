/-! ===== the word break has five signs ===== -/
theorem kwi_at {l : List Nat} : ∀ {K : List (List Nat)} {j i : Nat}, kwi K l j = some i → j ≤ i ∧ K[i - j]? = some l
  | [], j, i, h => by cases h
  | a :: K, j, i, h => by
    unfold kwi at h
    by_cases hh : a = l
    · rw [if_pos hh] at h
      cases h
      exact ⟨Nat.le_refl _, by simp [hh]⟩
    · rw [if_neg hh] at h
      obtain ⟨h1, h2⟩ := kwi_at h
      refine ⟨by omega, ?_⟩
      rw [show i - j = (i - (j + 1)) + 1 by omega, List.getElem?_cons_succ]
      exact h2
theorem tk_break {t : Nat → Int32} {n p : Nat} (ht : txt t n) (h : tkk t n p = 311) : p + 5 ≤ nx t n p := by
  have hp : p < n := tk_lt (t := t) (n := n) (p := p) (by rw [h]; decide)
  have hl : iL (t p) = true ∧ (ll t (n - p) p) = 5 := by
    unfold tkk at h
    rw [if_pos hp] at h
    cases h1 : iL (t p) with
    | true =>
      simp only [h1, if_true] at h
      refine ⟨rfl, ?_⟩
      by_cases h8 : 8 < ll t (n - p) p
      · rw [if_pos h8] at h; cases h
      · rw [if_neg h8] at h
        cases hk : kx (lw t p (ll t (n - p) p)) with
        | none => rw [hk] at h; cases h
        | some j =>
          rw [hk] at h
          have hj : j = 11 := by simp only [] at h; omega
          subst hj
          have key : ∀ l : List Nat, kx l = some 11 → l.length = 5 := by
            intro l hl
            have h5 := (kwi_at hl).2
            have h6 : kw[11 - 0]? = some [2, 18, 5, 1, 11] := by decide
            rw [h6] at h5
            cases h5
            rfl
          have := key _ hk
          rwa [lw_len] at this
    | false =>
      exfalso
      simp only [h1, Bool.false_eq_true, if_false] at h
      split at h
      · split at h <;> cases h
      · split at h
        · split at h
          · cases h
          · split at h <;> cases h
        · split at h
          · have := (sg_cl (ht.2 p hp)).2
            omega
          · cases h
  have h2 := sk_le t (n - (p + tkl t n p)) false (p + tkl t n p)
  have h3 : tkl t n p = 5 := by unfold tkl; rw [if_pos hp, if_pos hl.1]; exact hl.2
  unfold nx
  omega
