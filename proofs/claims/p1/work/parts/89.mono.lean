/-! ===== the small machine: more fuel, the same answer ===== -/
def mj_isInv : Instr → Bool
  | .invokestatic _ => true
  | .invokevirtual _ => true
  | .invokespecial _ => true
  | _ => false
def mj_le (call call' : mj_CF) : Prop := ∀ (mi : Nat) (av : List Value) (n : Nat) (f : Nat → va_E) (C S : Nat) (r : mj_End), call mi av n f C S = some r → call' mi av n f C S = some r
theorem mj_fin_mono {pc n cs ss : Nat} {rest : List Value} {o o' : Option mj_End} (h : ∀ r, o = some r → o' = some r) {res : (Nat × List Value × Nat × (Nat → va_E) × Nat × Nat) ⊕ mj_End} (hf : mj_fin pc n cs ss rest o = some res) : mj_fin pc n cs ss rest o' = some res := by
  cases o with
  | none => simp [mj_fin] at hf
  | some r => rw [h r rfl]; exact hf
theorem mj_g7_mono {call call' : mj_CF} (hc : mj_le call call') {pm : Nat → Option (Nat × Nat × Nat × Nat)} {C S : Nat} {i : Instr} {pc : Nat} {st : List Value} {n : Nat} {f : Nat → va_E} {cs ss : Nat} {res : (Nat × List Value × Nat × (Nat → va_E) × Nat × Nat) ⊕ mj_End} (h : mj_g7 call pm C S i pc st n f cs ss = some res) : mj_g7 call' pm C S i pc st n f cs ss = some res := by
  cases i <;> simp only [mj_g7, reduceCtorEq] at h ⊢
  case invokestatic idx =>
    split at h <;> (try simp only [reduceCtorEq] at h)
    rename_i mi k ci hp
    simp only [Option.ite_none_right_eq_some] at h
    obtain ⟨h1, h⟩ := h
    rw [if_pos h1]
    exact mj_fin_mono (fun r hr => hc _ _ _ _ _ _ r hr) h
  case invokevirtual idx =>
    split at h <;> (try simp only [reduceCtorEq] at h)
    rename_i mi k ci hp
    split at h <;> (try simp only [reduceCtorEq] at h)
    rename_i b r hd
    simp only [Option.ite_none_right_eq_some] at h
    obtain ⟨h1, h⟩ := h
    split at h <;> (try simp only [reduceCtorEq] at h)
    rename_i cj fs e2
    simp only [Option.ite_none_right_eq_some] at h
    obtain ⟨h2, h⟩ := h
    rw [if_pos h1, if_pos h2]
    exact mj_fin_mono (fun r hr => hc _ _ _ _ _ _ r hr) h
  case invokespecial idx =>
    split at h <;> (try simp only [reduceCtorEq] at h)
    · rename_i mi k ci hp
      split at h <;> (try simp only [reduceCtorEq] at h)
      rename_i b r hd
      simp only [Option.ite_none_right_eq_some] at h
      obtain ⟨h1, h⟩ := h
      rw [if_pos h1]
      exact mj_fin_mono (fun r hr => hc _ _ _ _ _ _ r hr) h
    · rename_i mi k ci hp
      exact h
/-- no entry of a pool is both a method of the program and one of the two of Math -/
def mj_dis (MT : List (String × Nat × Bool)) (po : mj_Po) : Prop := ∀ (idx : Nat) (b : Bool), MT.contains (po.1, idx, b) = true → po.2.2.2.2.2.2.1 idx = none
theorem mj_step_mono {PT : List (String × Nat × Nat)} {MT : List (String × Nat × Bool)} {d : Nat} {TY : List FieldType} {cl : List vw_C} {cty : Nat → Nat → FieldType} {po : mj_Po} {call call' : mj_CF} (hdis : mj_dis MT po) (hc : mj_le call call') {C S : Nat} {q : mj_Mi} {i : Instr} {pc : Nat} {lv : List (Nat × Value)} {st : List Value} {n : Nat} {f : Nat → va_E} {cs ss : Nat} {r : mj_Cfg ⊕ mj_End}
    (h : mj_step PT MT d TY cl cty po call C S q i pc lv st n f cs ss = some r) : mj_step PT MT d TY cl cty po call' C S q i pc lv st n f cs ss = some r := by
  by_cases hinv : mj_isInv i = true
  · cases hg : mj_g7 call po.2.2.2.2.2.2.1 C S i pc st n f cs ss with
    | some x =>
      have hg' := mj_g7_mono hc hg
      unfold mj_step at h ⊢
      rw [hg] at h
      rw [hg']
      exact h
    | none =>
      have hg' : mj_g7 call' po.2.2.2.2.2.2.1 C S i pc st n f cs ss = none := by
        cases i <;> simp only [mj_isInv, reduceCtorEq, Bool.false_eq_true] at hinv
        case invokestatic idx =>
          have hm : ∃ y, mj_gm MT po.1 (.invokestatic idx) pc st = some y := by
            unfold mj_step at h
            rw [hg] at h
            cases hgm : mj_gm MT po.1 (.invokestatic idx) pc st with
            | some y => exact ⟨y, rfl⟩
            | none =>
              simp [mj_sw, mj_g1a, mj_g4, mj_g1d, mj_bin, mj_binL, mj_g2, mj_g1b, mj_g8, mj_g1c, mj_g3, mj_g6, mj_gt, mj_g5, mj_g9, mj_gx, hgm] at h
          obtain ⟨y, hy⟩ := hm
          have hpm : po.2.2.2.2.2.2.1 idx = none := by
            simp only [mj_gm] at hy
            split at hy <;> (try simp only [reduceCtorEq] at hy)
            simp only [Option.ite_none_right_eq_some] at hy
            obtain ⟨-, hy⟩ := hy
            split at hy
            · rename_i h1; exact hdis idx true h1
            · split at hy
              · rename_i h1; exact hdis idx false h1
              · cases hy
          simp [mj_g7, hpm]
        case invokevirtual idx =>
          exfalso
          unfold mj_step at h
          rw [hg] at h
          simp [mj_sw, mj_g1a, mj_g4, mj_g1d, mj_bin, mj_binL, mj_g2, mj_g1b, mj_g8, mj_g1c, mj_g3, mj_g6, mj_gt, mj_g5, mj_g9, mj_gx, mj_gm] at h
        case invokespecial idx =>
          exfalso
          unfold mj_step at h
          rw [hg] at h
          simp [mj_sw, mj_g1a, mj_g4, mj_g1d, mj_bin, mj_binL, mj_g2, mj_g1b, mj_g8, mj_g1c, mj_g3, mj_g6, mj_gt, mj_g5, mj_g9, mj_gx, mj_gm] at h
      unfold mj_step at h ⊢
      rw [hg] at h
      rw [hg']
      exact h
  · have e1 : ∀ c : mj_CF, mj_g7 c po.2.2.2.2.2.2.1 C S i pc st n f cs ss = none := by
      intro c
      cases i <;> first | rfl | exact absurd rfl hinv
    unfold mj_step at h ⊢
    rw [e1] at h ⊢
    exact h
theorem mj_loop_mono {PT : List (String × Nat × Nat)} {MT : List (String × Nat × Bool)} {d : Nat} {TY : List FieldType} {cl : List vw_C} {cty : Nat → Nat → FieldType} {po : mj_Po} {call call' : mj_CF} (hdis : mj_dis MT po) (hc : mj_le call call') {C S : Nat} {q : mj_Mi} {r : mj_End} :
    ∀ (k k' pc : Nat) (lv : List (Nat × Value)) (st : List Value) (n : Nat) (f : Nat → va_E) (cs ss : Nat), k ≤ k' → mj_loop PT MT d TY cl cty po call C S q k pc lv st n f cs ss = some r → mj_loop PT MT d TY cl cty po call' C S q k' pc lv st n f cs ss = some r := by
  intro k
  induction k with
  | zero =>
    intro k' pc lv st n f cs ss _ h
    simp [mj_loop] at h
  | succ k ih =>
    intro k' pc lv st n f cs ss hk h
    obtain ⟨k2, rfl⟩ : ∃ k2, k' = k2 + 1 := ⟨k' - 1, by omega⟩
    have hk2 : k ≤ k2 := by omega
    unfold mj_loop at h ⊢
    cases hat : mj_at q.2.2.2.2.1 pc with
    | none => rw [hat] at h; cases h
    | some i =>
      rw [hat] at h
      simp only at h ⊢
      cases hst : mj_step PT MT d TY cl cty po call C S q i pc lv st n f cs ss with
      | none => rw [hst] at h; cases h
      | some x =>
        rw [hst] at h
        rw [mj_step_mono hdis hc hst]
        rcases x with ⟨pc1, lv1, st1, n1, f1, cs1, ss1⟩ | ⟨v | x, n1, f1, cs1, ss1⟩
        · exact ih _ _ _ _ _ _ _ _ hk2 h
        · exact h
        · simp only at h ⊢
          cases hh : q.2.2.2.2.2.2.2 with
          | nil => rw [hh] at h; exact h
          | cons h0 hs =>
            rw [hh] at h
            simp only at h ⊢
            cases hct : mj_ct po.2.2.2.2.2.2.2.2.2.1 pc (h0 :: hs) n1 f1 x with
            | none => rw [hct] at h; cases h
            | some hp =>
              rw [hct] at h
              exact ih _ _ _ _ _ _ _ _ hk2 h
theorem mj_call_mono {PT : List (String × Nat × Nat)} {MT : List (String × Nat × Bool)} {TY : List FieldType} {cl : List vw_C} {cty : Nat → Nat → FieldType} {PO : Nat → mj_Po} {PR : Nat → Option mj_Mi} (hdis : ∀ k, mj_dis MT (PO k)) {fuel fuel' : Nat} (hf : fuel ≤ fuel') : ∀ d : Nat, mj_le (mj_call PT MT TY cl cty PO PR fuel d) (mj_call PT MT TY cl cty PO PR fuel' d) := by
  intro d
  induction d with
  | zero =>
    intro mi av n f C S r h
    simp [mj_call] at h
  | succ d ih =>
    intro mi av n f C S r h
    unfold mj_call at h ⊢
    cases hq : PR mi with
    | none => rw [hq] at h; cases h
    | some q =>
      rw [hq] at h
      simp only [Option.ite_none_right_eq_some] at h ⊢
      exact ⟨h.1, mj_loop_mono (hdis _) ih _ _ _ _ _ _ _ _ _ hf h.2⟩
