/-! ===== a run that never looks at the script goes on the same whatever it is ===== -/
def my_pz : va_E := .inl (999, 0, .inl (fun _ => 0))
def my_le (f f' : Nat → va_E) : Prop := (∀ k, k ≠ 0 → f k = f' k) ∧ f 0 = my_pz
theorem my_le_up {f f' : Nat → va_E} (h : my_le f f') {a : Nat} {v : va_E} (ha : a ≠ 0) : my_le (va_up f a v) (va_up f' a v) := by
  refine ⟨fun k hk => ?_, ?_⟩
  · unfold va_up
    split
    · rfl
    · exact h.1 k hk
  · rw [va_up_ne _ _ (fun e => ha e.symm)]
    exact h.2
theorem my_nz {a : Nat} (h : 32 ≤ a) : a ≠ 0 := by omega
def my_r3 : Option (Nat × (Nat → va_E) × List Value) → Option (Nat × (Nat → va_E) × List Value) → Prop
  | none, none => True
  | some (p, f, s), some (p', f', s') => p = p' ∧ s = s' ∧ my_le f f'
  | _, _ => False
section MYZ
variable {f f' : Nat → va_E} {i : Instr} {pc n C S cs ss d : Nat} {st : List Value}
theorem my_z2 (hle : my_le f f') : mj_g2 mc_TY i pc n f st = mj_g2 mc_TY i pc n f' st := by
  cases i <;> simp only [mj_g2] <;> split <;> try rfl
  all_goals
    rename_i a r
    by_cases h : 32 ≤ a ∧ a < n
    · rw [if_pos h, if_pos h, hle.1 a (my_nz h.1)]
    · rw [if_neg h, if_neg h]
theorem my_z4 (hle : my_le f f') {cty : Nat → Nat → FieldType} {pf : Nat → Option (Nat × Nat × Nat)} {ini : Bool} : my_r3 (mj_g4 cty pf ini i pc n f st) (mj_g4 cty pf ini i pc n f' st) := by
  cases i <;> simp only [mj_g4] <;> try trivial
  · split
    · rename_i a r
      by_cases h : 32 ≤ a ∧ a < n
      · rw [if_pos h, if_pos h, ← hle.1 a (my_nz h.1)]
        split
        · split
          · split
            · split
              · exact ⟨rfl, rfl, hle⟩
              · trivial
            · trivial
          · trivial
        · trivial
      · rw [if_neg h, if_neg h]; trivial
    · trivial
  · split
    · rename_i v a r
      by_cases h : 32 ≤ a ∧ a < n
      · rw [if_pos h, if_pos h, ← hle.1 a (my_nz h.1)]
        split
        · split
          · split
            · exact ⟨rfl, rfl, my_le_up hle (my_nz h.1)⟩
            · trivial
          · trivial
        · trivial
      · rw [if_neg h, if_neg h]; trivial
    · trivial
theorem my_z3 (hle : my_le f f') : my_r3 (mj_g3 mc_TY mc_cm i pc n f st) (mj_g3 mc_TY mc_cm i pc n f' st) := by
  cases i <;> simp only [mj_g3] <;> try trivial
  case aastore =>
    split
    · rename_i v j a r
      by_cases h : (32 ≤ a ∧ a < n) ∧ 32 ≤ v ∧ v < n
      · rw [if_pos h, if_pos h, ← hle.1 a (my_nz h.1.1), ← hle.1 v (my_nz h.2.1)]
        split
        · split
          · split
            · split
              · split
                · trivial
                · exact ⟨rfl, rfl, my_le_up hle (my_nz h.1.1)⟩
              · trivial
            · trivial
          · trivial
        · trivial
      · rw [if_neg h, if_neg h]; trivial
    · rename_i j a r
      by_cases h : 32 ≤ a ∧ a < n
      · rw [if_pos h, if_pos h, ← hle.1 a (my_nz h.1)]
        split
        · split
          · split
            · trivial
            · exact ⟨rfl, rfl, my_le_up hle (my_nz h.1)⟩
          · trivial
        · trivial
      · rw [if_neg h, if_neg h]; trivial
    · trivial
  case bastore =>
    split
    · rename_i x j a r
      by_cases h : 32 ≤ a ∧ a < n
      · rw [if_pos h, if_pos h, ← hle.1 a (my_nz h.1)]
        split
        · split
          · trivial
          · split
            · exact ⟨rfl, rfl, my_le_up hle (my_nz h.1)⟩
            · split
              · exact ⟨rfl, rfl, my_le_up hle (my_nz h.1)⟩
              · trivial
        · trivial
      · rw [if_neg h, if_neg h]; trivial
    · trivial
  all_goals
    split
    · rename_i x j a r
      by_cases h : 32 ≤ a ∧ a < n
      · rw [if_pos h, if_pos h, ← hle.1 a (my_nz h.1)]
        split
        · split
          · split
            · trivial
            · exact ⟨rfl, rfl, my_le_up hle (my_nz h.1)⟩
          · trivial
        · trivial
      · rw [if_neg h, if_neg h]; trivial
    · trivial
def my_r5 : Option (Nat × Nat × (Nat → va_E) × Nat × Nat × List Value) → Option (Nat × Nat × (Nat → va_E) × Nat × Nat × List Value) → Prop
  | none, none => True
  | some (p, n, f, c, s, st), some (p', n', f', c', s', st') => p = p' ∧ n = n' ∧ c = c' ∧ s = s' ∧ st = st' ∧ my_le f f' ∧ 32 ≤ n
  | _, _ => False
theorem my_z5 (hle : my_le f f') (hn : 32 ≤ n) {pk : Nat → Option (Nat × Nat)} {pa : Nat → Option Nat} {cty : Nat → Nat → FieldType} : my_r5 (mj_g5 mc_TY mc_cm cty pk pa C S i pc n f cs ss st) (mj_g5 mc_TY mc_cm cty pk pa C S i pc n f' cs ss st) := by
  cases i <;> simp only [mj_g5] <;> try trivial
  case new idx =>
    split
    · split
      · split
        · exact ⟨rfl, rfl, rfl, rfl, rfl, my_le_up hle (by omega), by omega⟩
        · trivial
      · trivial
    · trivial
  case newarray at' =>
    split
    · split
      · exact ⟨rfl, rfl, rfl, rfl, rfl, my_le_up hle (by omega), by omega⟩
      · trivial
    · trivial
  case anewarray idx =>
    split
    · split
      · split
        · exact ⟨rfl, rfl, rfl, rfl, rfl, my_le_up hle (by omega), by omega⟩
        · trivial
      · trivial
    · trivial
theorem my_zt (hle : my_le f f') (hn : 32 ≤ n) {own : String} {pk : Nat → Option (Nat × Nat)} {ps : Nat → Option Nat} {tb : List (Nat × Instr)} : my_r5 (mj_gt mc_PT mc_cm own pk ps tb d C S i pc n f cs ss st) (mj_gt mc_PT mc_cm own pk ps tb d C S i pc n f' cs ss st) := by
  cases i <;> simp only [mj_gt] <;> try trivial
  split
  · split
    · split
      · split
        · split
          · split
            · split
              · split
                · split
                  · exact ⟨rfl, rfl, rfl, rfl, rfl, my_le_up hle (by omega), by omega⟩
                  · trivial
                · trivial
              · trivial
            · trivial
          · trivial
        · trivial
      · trivial
    · trivial
  · trivial
theorem my_zx (hle : my_le f f') {ps : Nat → Option Nat} {pg : Nat → Option Value} {pe : Nat → Option Nat} {r : Nat × List Value} (h : mj_gx mc_TY ps pg pe i pc f st = some r) : mj_gx mc_TY ps pg pe i pc f' st = some r := by
  have key : ∀ a, f a = f' a ∨ f a = my_pz := fun a => by
    by_cases ha : a = 0
    · subst ha; exact Or.inr hle.2
    · exact Or.inl (hle.1 a ha)
  have t9 : mc_TY[999]? = none := rfl
  cases i <;> simp only [mj_gx, reduceCtorEq] at h ⊢ <;> try exact h
  all_goals
    split at h <;> try (cases h; done)
    rename_i a r0
    rcases key a with e | e
    · simpa only [← e] using h
    · rw [e] at h
      first
        | (simp [my_pz, t9] at h; done)
        | (simp only [my_pz, Option.ite_none_right_eq_some] at h
           obtain ⟨-, h⟩ := h
           split at h <;> cases h)
end MYZ
