/-! ===== the same where any cells are not looked at ===== -/
/-- not such a cell -/
def my_tg : va_E → Bool
  | .inl (t, _, .inl _) => !Nat.beq t 999
  | _ => true
theorem my_tg_of {t z : Nat} {g : Nat → Int32} {ty : FieldType} (h : mc_TY[t]? = some ty) : my_tg (.inl (t, z, .inl g)) = true := by
  show (!Nat.beq t 999) = true
  cases hb : Nat.beq t 999 with
  | false => rfl
  | true =>
    have := Nat.eq_of_beq_eq_true hb
    subst this
    cases h
def my_lp (bb f f' : Nat → va_E) : Prop := ∀ k, (f k = f' k ∧ my_tg (f k) = true) ∨ (f k = my_pz ∧ f' k = bb k)
theorem my_lp_up {bb f f' : Nat → va_E} (h : my_lp bb f f') {a : Nat} {v : va_E} (hv : my_tg v = true) : my_lp bb (va_up f a v) (va_up f' a v) := by
  intro k
  unfold va_up
  split
  · exact Or.inl ⟨rfl, hv⟩
  · exact h k
def my_qr (bb : Nat → va_E) : mj_Cfg ⊕ mj_End → mj_Cfg ⊕ mj_End → Prop
  | .inl (p, lv, st, n, f, c, s), .inl (p', lv', st', n', f', c', s') => p = p' ∧ lv = lv' ∧ st = st' ∧ n = n' ∧ c = c' ∧ s = s' ∧ my_lp bb f f'
  | .inr (o, n, f, c, s), .inr (o', n', f', c', s') => o = o' ∧ n = n' ∧ c = c' ∧ s = s' ∧ my_lp bb f f'
  | _, _ => False
def my_qe (bb : Nat → va_E) (r r' : mj_End) : Prop := r.1 = r'.1 ∧ r.2.1 = r'.2.1 ∧ r.2.2.2 = r'.2.2.2 ∧ my_lp bb r.2.2.1 r'.2.2.1
def my_qc (bb : Nat → va_E) (call : mj_CF) : Prop := ∀ (mi : Nat) (av : List Value) (n : Nat) (f f' : Nat → va_E) (C S : Nat) (r : mj_End), my_lp bb f f' → call mi av n f C S = some r → ∃ r', call mi av n f' C S = some r' ∧ my_qe bb r r'
section MYX
variable {bb f f' f1 : Nat → va_E} {i : Instr} {pc n C S cs ss d p : Nat} {st s : List Value} {lv : List (Nat × Value)} {call : mj_CF} {po : mj_Po} {q : mj_Mi}
theorem my_q9 : mc_TY[999]? = none := rfl
theorem my_q2 (hle : my_lp bb f f') {r : Nat × List Value} (h : mj_g2 mc_TY i pc n f st = some r) : mj_g2 mc_TY i pc n f' st = some r := by
  have t9 := my_q9
  cases i <;> simp only [mj_g2, reduceCtorEq] at h ⊢
  all_goals
    split at h <;> try (cases h; done)
    rename_i a r0
    rcases hle a with ⟨e, -⟩ | ⟨e, -⟩
    · simpa only [← e] using h
    · rw [e] at h
      simp [my_pz, t9] at h
theorem my_q4 (hle : my_lp bb f f') {cty : Nat → Nat → FieldType} {pf : Nat → Option (Nat × Nat × Nat)} {ini : Bool} (h : mj_g4 cty pf ini i pc n f st = some (p, f1, s)) : ∃ f1', mj_g4 cty pf ini i pc n f' st = some (p, f1', s) ∧ my_lp bb f1 f1' := by
  cases i <;> simp only [mj_g4, reduceCtorEq] at h ⊢
  · split at h
    · rename_i a r
      simp only [Option.ite_none_right_eq_some] at h
      obtain ⟨h0, h⟩ := h
      rw [if_pos h0]
      have e : f a = f' a := by
        rcases hle a with ⟨e, -⟩ | ⟨e, -⟩
        · exact e
        · rw [e] at h
          simp [my_pz] at h
          split at h <;> cases h
      rw [← e]
      split at h
      · split at h
        · split at h
          · split at h
            · simp only [Option.some.injEq, Prod.mk.injEq] at h
              obtain ⟨rfl, rfl, rfl⟩ := h
              exact ⟨f', by simp [*], hle⟩
            · cases h
          · cases h
        · cases h
      · cases h
    · cases h
  · split at h
    · rename_i v a r
      simp only [Option.ite_none_right_eq_some] at h
      obtain ⟨h0, h⟩ := h
      rw [if_pos h0]
      have e : f a = f' a := by
        rcases hle a with ⟨e, -⟩ | ⟨e, -⟩
        · exact e
        · rw [e] at h
          simp [my_pz] at h
          split at h <;> cases h
      rw [← e]
      split at h
      · split at h
        · split at h
          · rename_i hcond
            simp only [Option.some.injEq, Prod.mk.injEq] at h
            obtain ⟨rfl, rfl, rfl⟩ := h
            exact ⟨_, if_pos hcond ▸ by simp [*], my_lp_up hle rfl⟩
          · cases h
        · cases h
      · cases h
    · cases h
theorem my_q3 (hle : my_lp bb f f') (h : mj_g3 mc_TY mc_cm i pc n f st = some (p, f1, s)) : ∃ f1', mj_g3 mc_TY mc_cm i pc n f' st = some (p, f1', s) ∧ my_lp bb f1 f1' := by
  have t9 := my_q9
  cases i <;> simp only [mj_g3, reduceCtorEq] at h ⊢
  case aastore =>
    split at h
    · rename_i v j a r
      simp only [Option.ite_none_right_eq_some] at h
      obtain ⟨h0, h⟩ := h
      rw [if_pos h0]
      have e1 : f a = f' a := by
        rcases hle a with ⟨e, -⟩ | ⟨e, -⟩
        · exact e
        · rw [e] at h; simp [my_pz] at h
      have e2 : f v = f' v := by
        rcases hle v with ⟨e, -⟩ | ⟨e, -⟩
        · exact e
        · rw [e] at h
          split at h <;> simp [my_pz] at h
      rw [← e1, ← e2]
      split at h
      · split at h
        · split at h
          · split at h
            · split at h
              · cases h
              · simp only [Option.some.injEq, Prod.mk.injEq] at h
                obtain ⟨rfl, rfl, rfl⟩ := h
                exact ⟨_, by simp [*], my_lp_up hle (by first | rfl | exact my_tg_of (by assumption) | exact my_tg_of ht2.1)⟩
            · cases h
          · cases h
        · cases h
      · cases h
    · rename_i j a r
      simp only [Option.ite_none_right_eq_some] at h
      obtain ⟨h0, h⟩ := h
      rw [if_pos h0]
      have e1 : f a = f' a := by
        rcases hle a with ⟨e, -⟩ | ⟨e, -⟩
        · exact e
        · rw [e] at h; simp [my_pz] at h
      rw [← e1]
      split at h
      · split at h
        · split at h
          · cases h
          · simp only [Option.some.injEq, Prod.mk.injEq] at h
            obtain ⟨rfl, rfl, rfl⟩ := h
            exact ⟨_, by simp [*], my_lp_up hle (by first | rfl | exact my_tg_of (by assumption) | exact my_tg_of ht2.1)⟩
        · cases h
      · cases h
    · cases h
  case bastore =>
    split at h
    · rename_i x j a r
      simp only [Option.ite_none_right_eq_some] at h
      obtain ⟨h0, h⟩ := h
      rw [if_pos h0]
      have e1 : f a = f' a := by
        rcases hle a with ⟨e, -⟩ | ⟨e, -⟩
        · exact e
        · rw [e] at h; simp [my_pz, t9] at h
      rw [← e1]
      split at h
      · split at h
        · cases h
        · rename_i hj
          split at h
          · rename_i ht
            simp only [Option.some.injEq, Prod.mk.injEq] at h
            obtain ⟨rfl, rfl, rfl⟩ := h
            exact ⟨_, by simp [*], my_lp_up hle (by first | rfl | exact my_tg_of (by assumption) | exact my_tg_of ht2.1)⟩
          · rename_i ht
            split at h
            · rename_i ht2
              simp only [Option.some.injEq, Prod.mk.injEq] at h
              obtain ⟨rfl, rfl, rfl⟩ := h
              exact ⟨_, by simp [*], my_lp_up hle (by first | rfl | exact my_tg_of (by assumption) | exact my_tg_of ht2.1)⟩
            · cases h
      · cases h
    · cases h
  all_goals
    split at h
    · rename_i x j a r
      simp only [Option.ite_none_right_eq_some] at h
      obtain ⟨h0, h⟩ := h
      rw [if_pos h0]
      have e1 : f a = f' a := by
        rcases hle a with ⟨e, -⟩ | ⟨e, -⟩
        · exact e
        · rw [e] at h; simp [my_pz, t9] at h
      rw [← e1]
      split at h
      · split at h
        · rename_i ht
          split at h
          · cases h
          · rename_i hj
            simp only [Option.some.injEq, Prod.mk.injEq] at h
            obtain ⟨rfl, rfl, rfl⟩ := h
            exact ⟨_, by simp [*], my_lp_up hle (by first | rfl | exact my_tg_of (by assumption) | exact my_tg_of ht2.1)⟩
        · cases h
      · cases h
    · cases h
def my_q5r (bb : Nat → va_E) : Option (Nat × Nat × (Nat → va_E) × Nat × Nat × List Value) → Option (Nat × Nat × (Nat → va_E) × Nat × Nat × List Value) → Prop
  | none, none => True
  | some (p, n, f, c, s, st), some (p', n', f', c', s', st') => p = p' ∧ n = n' ∧ c = c' ∧ s = s' ∧ st = st' ∧ my_lp bb f f'
  | _, _ => False
theorem my_q5 (hle : my_lp bb f f') {pk : Nat → Option (Nat × Nat)} {pa : Nat → Option Nat} {cty : Nat → Nat → FieldType} : my_q5r bb (mj_g5 mc_TY mc_cm cty pk pa C S i pc n f cs ss st) (mj_g5 mc_TY mc_cm cty pk pa C S i pc n f' cs ss st) := by
  cases i <;> simp only [mj_g5] <;> try trivial
  case new idx =>
    split
    · split
      · split
        · exact ⟨rfl, rfl, rfl, rfl, rfl, my_lp_up hle (by first | rfl | (cases at' <;> rfl))⟩
        · trivial
      · trivial
    · trivial
  case newarray at' =>
    split
    · split
      · exact ⟨rfl, rfl, rfl, rfl, rfl, my_lp_up hle (by first | rfl | (cases at' <;> rfl))⟩
      · trivial
    · trivial
  case anewarray idx =>
    split
    · split
      · split
        · exact ⟨rfl, rfl, rfl, rfl, rfl, my_lp_up hle (by first | rfl | (cases at' <;> rfl))⟩
        · trivial
      · trivial
    · trivial
theorem my_qt (hle : my_lp bb f f') {own : String} {pk : Nat → Option (Nat × Nat)} {ps : Nat → Option Nat} {tb : List (Nat × Instr)} : my_q5r bb (mj_gt mc_PT mc_cm own pk ps tb d C S i pc n f cs ss st) (mj_gt mc_PT mc_cm own pk ps tb d C S i pc n f' cs ss st) := by
  cases i <;> simp only [mj_gt] <;> try trivial
  split
  · split
    · split
      · split
        · split
          · split
            · split
              · split
                · split
                  · exact ⟨rfl, rfl, rfl, rfl, rfl, my_lp_up hle (by first | rfl | (cases at' <;> rfl))⟩
                  · trivial
                · trivial
              · trivial
            · trivial
          · trivial
        · trivial
      · trivial
    · trivial
  · trivial
theorem my_qx (hle : my_lp bb f f') {ps : Nat → Option Nat} {pg : Nat → Option Value} {pe : Nat → Option Nat} {r : Nat × List Value} (h : mj_gx mc_TY ps pg pe i pc f st = some r) : mj_gx mc_TY ps pg pe i pc f' st = some r := by
  have t9 := my_q9
  cases i <;> simp only [mj_gx, reduceCtorEq] at h ⊢ <;> try exact h
  all_goals
    split at h <;> try (cases h; done)
    rename_i a r0
    rcases hle a with ⟨e, -⟩ | ⟨e, -⟩
    · simpa only [← e] using h
    · rw [e] at h
      first
        | (simp [my_pz, t9] at h; done)
        | (simp only [my_pz, Option.ite_none_right_eq_some] at h
           obtain ⟨-, h⟩ := h
           split at h <;> cases h)
/-- what is read outside is not read inside -/
theorem my_qn4 {F : Nat → va_E} {ps : Nat → Option Nat} {pg : Nat → Option Value} {pe : Nat → Option Nat} {r : Nat × List Value} {cty : Nat → Nat → FieldType} {pf : Nat → Option (Nat × Nat × Nat)} {ini : Bool} (h : mj_gx mc_TY ps pg pe i pc f st = some r) : mj_g4 cty pf ini i pc n F st = none := by
  cases i <;> first | rfl | skip
  · simp only [mj_gx] at h
    simp only [mj_g4]
    split
    · rename_i a r0
      simp only [Option.ite_none_right_eq_some] at h
      rw [if_neg (fun hh => Nat.not_lt.mpr hh.1 h.1)]
    · rfl
  · simp [mj_gx] at h
theorem my_qn2 {F : Nat → va_E} {ps : Nat → Option Nat} {pg : Nat → Option Value} {pe : Nat → Option Nat} {r : Nat × List Value} (h : mj_gx mc_TY ps pg pe i pc f st = some r) : mj_g2 mc_TY i pc n F st = none := by
  cases i <;> first | rfl | (simp [mj_gx] at h; done) | skip
  all_goals
    simp only [mj_gx] at h
    simp only [mj_g2]
    split
    · rename_i a r0
      simp only [Option.ite_none_right_eq_some] at h
      rw [if_neg (fun hh => Nat.not_lt.mpr hh.1 h.1)]
    · rfl
def my_q7r (bb : Nat → va_E) : (Nat × List Value × Nat × (Nat → va_E) × Nat × Nat) ⊕ mj_End → (Nat × List Value × Nat × (Nat → va_E) × Nat × Nat) ⊕ mj_End → Prop
  | .inl (p, st, n, f, c, s), .inl (p', st', n', f', c', s') => p = p' ∧ st = st' ∧ n = n' ∧ c = c' ∧ s = s' ∧ my_lp bb f f'
  | .inr (o, n, f, c, s), .inr (o', n', f', c', s') => o = o' ∧ n = n' ∧ c = c' ∧ s = s' ∧ my_lp bb f f'
  | _, _ => False
theorem my_q7 (hcc : my_qc bb call) (hle : my_lp bb f f') {pm : Nat → Option (Nat × Nat × Nat × Nat)} {x : (Nat × List Value × Nat × (Nat → va_E) × Nat × Nat) ⊕ mj_End} (h : mj_g7 call pm C S i pc st n f cs ss = some x) : ∃ x', mj_g7 call pm C S i pc st n f' cs ss = some x' ∧ my_q7r bb x x' := by
  have hfin : ∀ {rest : List Value} {mi : Nat} {av : List Value} {A B : Nat}, mj_fin pc n cs ss rest (call mi av n f A B) = some x → ∃ x', mj_fin pc n cs ss rest (call mi av n f' A B) = some x' ∧ my_q7r bb x x' := by
    intro rest mi av A B h
    cases hc : call mi av n f A B with
    | none => rw [hc] at h; simp [mj_fin] at h
    | some r =>
      rw [hc] at h
      obtain ⟨r', hr1, hr2⟩ := hcc mi av n f f' A B r hle hc
      rw [hr1]
      obtain ⟨o, m, g, c, s⟩ := r
      obtain ⟨o', m', g', c', s'⟩ := r'
      obtain ⟨e1, e2, e3, e4⟩ := hr2
      simp only at e1 e2 e3 e4
      subst e1; subst e2
      cases e3
      rcases o with v | y
      · simp only [mj_fin, Option.ite_none_right_eq_some, Option.some.injEq] at h
        obtain ⟨h1, rfl⟩ := h
        refine ⟨_, by simp only [mj_fin]; rw [if_pos h1], ?_⟩
        exact ⟨rfl, rfl, rfl, rfl, rfl, e4⟩
      · simp only [mj_fin, Option.ite_none_right_eq_some, Option.some.injEq] at h
        obtain ⟨h1, rfl⟩ := h
        refine ⟨_, by simp only [mj_fin]; rw [if_pos h1], ?_⟩
        exact ⟨rfl, rfl, rfl, rfl, e4⟩
  cases i <;> simp only [mj_g7, reduceCtorEq] at h ⊢
  case invokestatic idx =>
    split at h <;> (try simp only [reduceCtorEq] at h)
    rename_i mi k ci hp
    simp only [Option.ite_none_right_eq_some] at h
    obtain ⟨h1, h⟩ := h
    rw [if_pos h1]
    exact hfin h
  case invokevirtual idx =>
    split at h <;> (try simp only [reduceCtorEq] at h)
    rename_i mi k ci hp
    split at h <;> (try simp only [reduceCtorEq] at h)
    rename_i b r hd
    simp only [Option.ite_none_right_eq_some] at h
    obtain ⟨h1, h⟩ := h
    have hb : f b = f' b := by
      rcases hle b with ⟨e, -⟩ | ⟨e, -⟩
      · exact e
      · rw [e] at h
        simp [my_pz] at h
    rw [hb] at h
    split at h <;> (try simp only [reduceCtorEq] at h)
    rename_i cj fs e2
    simp only [Option.ite_none_right_eq_some] at h
    obtain ⟨h2, h⟩ := h
    rw [if_pos h1]
    rw [if_pos h2]
    exact hfin h
  case invokespecial idx =>
    split at h <;> (try simp only [reduceCtorEq] at h)
    · rename_i mi k ci hp
      split at h <;> (try simp only [reduceCtorEq] at h)
      rename_i b r hd
      simp only [Option.ite_none_right_eq_some] at h
      obtain ⟨h1, h⟩ := h
      rw [if_pos h1]
      exact hfin h
    · rename_i mi k ci hp
      split at h <;> (try simp only [reduceCtorEq] at h)
      rename_i b r
      simp only [Option.ite_none_right_eq_some, Option.some.injEq] at h
      obtain ⟨h1, rfl⟩ := h
      refine ⟨_, by rw [if_pos h1], ?_⟩
      exact ⟨rfl, rfl, rfl, rfl, rfl, hle⟩
theorem my_qs (hdis : mj_dis mc_MT po) (hcc : my_qc bb call) (hle : my_lp bb f f') {r : mj_Cfg ⊕ mj_End} (h : my_fs d po call C S q i pc lv st n f cs ss = some r) : ∃ r', my_fs d po call C S q i pc lv st n f' cs ss = some r' ∧ my_qr bb r r' := by
  unfold my_fs at h ⊢
  generalize hcl : my_cls i = c at h ⊢
  rcases c with _ | _ | _ | _ | _ | _ | _ | _ | _ | _ | _ | _ | _ | _ | c <;> simp only at h ⊢
  · split at h
    · cases h; exact ⟨_, rfl, rfl, rfl, rfl, rfl, rfl, rfl, hle⟩
    · cases h
  · split at h
    · rename_i p1 f1 s1 h4
      obtain ⟨f1', a, b⟩ := my_q4 hle h4
      cases h
      rw [a]
      exact ⟨_, rfl, rfl, rfl, rfl, rfl, rfl, rfl, b⟩
    · split at h
      · rename_i hx
        rw [my_qn4 hx, my_qx hle hx]
        cases h
        exact ⟨_, rfl, rfl, rfl, rfl, rfl, rfl, rfl, hle⟩
      · cases h
  · split at h
    · cases h; exact ⟨_, rfl, rfl, rfl, rfl, rfl, rfl, rfl, hle⟩
    · cases h
  · cases hg : mj_g7 call po.2.2.2.2.2.2.1 C S i pc st n f cs ss with
    | some x =>
      rw [hg] at h
      obtain ⟨x', hx1, hx2⟩ := my_q7 hcc hle hg
      rw [hx1]
      rcases x with ⟨p, s1, n1, f1, c1, k1⟩ | ⟨o, n1, f1, c1, k1⟩ <;> rcases x' with ⟨p', s1', n1', f1', c1', k1'⟩ | ⟨o', n1', f1', c1', k1'⟩ <;> (try (cases hx2; done)) <;> simp only [Option.some.injEq] at h <;> subst h
      · obtain ⟨a1, a2, a3, a4, a5, a6⟩ := hx2
        exact ⟨_, rfl, a1, rfl, a2, a3, a4, a5, a6⟩
      · obtain ⟨a1, a2, a3, a4, a5⟩ := hx2
        exact ⟨_, rfl, a1, a2, a3, a4, a5⟩
    | none =>
      rw [hg] at h
      simp only [Option.ite_none_right_eq_some] at h
      obtain ⟨h1, h⟩ := h
      cases hgm : mj_gm mc_MT po.1 i pc st with
      | none => rw [hgm] at h; cases h
      | some y =>
        rw [hgm] at h
        obtain ⟨y1, y2⟩ := y
        cases h
        have hnone : mj_g7 call po.2.2.2.2.2.2.1 C S i pc st n f' cs ss = none := by
          cases i <;> first | rfl | (simp [mj_gm] at hgm; done) | skip
          rename_i idx
          have hpm : po.2.2.2.2.2.2.1 idx = none := by
            simp only [mj_gm] at hgm
            split at hgm <;> (try simp only [reduceCtorEq] at hgm)
            simp only [Option.ite_none_right_eq_some] at hgm
            obtain ⟨-, hgm⟩ := hgm
            split at hgm
            · rename_i h2; exact hdis idx true h2
            · split at hgm
              · rename_i h2; exact hdis idx false h2
              · cases hgm
          simp [mj_g7, hpm]
        rw [hnone]
        simp only
        rw [if_pos h1]
        exact ⟨_, rfl, rfl, rfl, rfl, rfl, rfl, rfl, hle⟩
  · split at h
    · rename_i h2
      rw [my_q2 hle h2]
      cases h
      exact ⟨_, rfl, rfl, rfl, rfl, rfl, rfl, rfl, hle⟩
    · split at h
      · rename_i hx
        rw [my_qn2 hx, my_qx hle hx]
        cases h
        exact ⟨_, rfl, rfl, rfl, rfl, rfl, rfl, rfl, hle⟩
      · cases h
  · split at h
    · cases h; exact ⟨_, rfl, rfl, rfl, rfl, rfl, rfl, rfl, hle⟩
    · cases h
  · split at h
    · cases h; exact ⟨_, rfl, rfl, rfl, rfl, rfl, hle⟩
    · cases h
  · split at h
    · cases h; exact ⟨_, rfl, rfl, rfl, rfl, rfl, rfl, rfl, hle⟩
    · cases h
  · split at h
    · rename_i p1 f1 s1 h3
      obtain ⟨f1', a, b⟩ := my_q3 hle h3
      cases h
      rw [a]
      exact ⟨_, rfl, rfl, rfl, rfl, rfl, rfl, rfl, b⟩
    · cases h
  · split at h
    · cases h; exact ⟨_, rfl, rfl, rfl, rfl, rfl, rfl, rfl, hle⟩
    · split at h
      · rename_i hx
        rw [my_qx hle hx]
        cases h
        exact ⟨_, rfl, rfl, rfl, rfl, rfl, rfl, rfl, hle⟩
      · cases h
  · have zt := my_qt hle (i := i) (pc := pc) (st := st) (C := C) (S := S) (cs := cs) (ss := ss) (d := d) (n := n) (own := po.1) (pk := po.2.2.1) (ps := po.2.2.2.2.2.2.2.1) (tb := q.2.2.2.2.1)
    have z5 := my_q5 hle (i := i) (pc := pc) (st := st) (C := C) (S := S) (cs := cs) (ss := ss) (n := n) (pk := po.2.2.1) (pa := po.2.2.2.1) (cty := mc_ty)
    cases gt : mj_gt mc_PT mc_cm po.1 po.2.2.1 po.2.2.2.2.2.2.2.1 q.2.2.2.2.1 d C S i pc n f cs ss st with
    | some w =>
      rw [gt] at h zt
      cases gt' : mj_gt mc_PT mc_cm po.1 po.2.2.1 po.2.2.2.2.2.2.2.1 q.2.2.2.2.1 d C S i pc n f' cs ss st with
      | none => rw [gt'] at zt; cases zt
      | some w' =>
        rw [gt'] at zt
        obtain ⟨w1, w2, w3, w4, w5, w6⟩ := w
        obtain ⟨w1', w2', w3', w4', w5', w6'⟩ := w'
        obtain ⟨b1, b2, b3, b4, b5, b6⟩ := zt
        simp only [Option.some.injEq] at h; subst h
        exact ⟨_, rfl, b1, rfl, b5, b2, b3, b4, b6⟩
    | none =>
      rw [gt] at h zt
      cases gt' : mj_gt mc_PT mc_cm po.1 po.2.2.1 po.2.2.2.2.2.2.2.1 q.2.2.2.2.1 d C S i pc n f' cs ss st with
      | some w => rw [gt'] at zt; cases zt
      | none =>
        cases g5 : mj_g5 mc_TY mc_cm mc_ty po.2.2.1 po.2.2.2.1 C S i pc n f cs ss st with
        | none => rw [g5] at h; cases h
        | some w =>
          rw [g5] at h z5
          cases g5' : mj_g5 mc_TY mc_cm mc_ty po.2.2.1 po.2.2.2.1 C S i pc n f' cs ss st with
          | none => rw [g5'] at z5; cases z5
          | some w' =>
            rw [g5'] at z5
            obtain ⟨w1, w2, w3, w4, w5, w6⟩ := w
            obtain ⟨w1', w2', w3', w4', w5', w6'⟩ := w'
            obtain ⟨b1, b2, b3, b4, b5, b6⟩ := z5
            simp only [Option.some.injEq] at h; subst h
            exact ⟨_, rfl, b1, rfl, b5, b2, b3, b4, b6⟩
  · have z5 := my_q5 hle (i := i) (pc := pc) (st := st) (C := C) (S := S) (cs := cs) (ss := ss) (n := n) (pk := po.2.2.1) (pa := po.2.2.2.1) (cty := mc_ty)
    cases g5 : mj_g5 mc_TY mc_cm mc_ty po.2.2.1 po.2.2.2.1 C S i pc n f cs ss st with
    | none => rw [g5] at h; cases h
    | some w =>
      rw [g5] at h z5
      cases g5' : mj_g5 mc_TY mc_cm mc_ty po.2.2.1 po.2.2.2.1 C S i pc n f' cs ss st with
      | none => rw [g5'] at z5; cases z5
      | some w' =>
        rw [g5'] at z5
        obtain ⟨w1, w2, w3, w4, w5, w6⟩ := w
        obtain ⟨w1', w2', w3', w4', w5', w6'⟩ := w'
        obtain ⟨b1, b2, b3, b4, b5, b6⟩ := z5
        simp only [Option.some.injEq] at h; subst h
        exact ⟨_, rfl, b1, rfl, b5, b2, b3, b4, b6⟩
  · split at h
    · cases h; exact ⟨_, rfl, rfl, rfl, rfl, rfl, rfl, rfl, hle⟩
    · cases h
  · split at h
    · rename_i hx
      rw [my_qx hle hx]
      cases h
      exact ⟨_, rfl, rfl, rfl, rfl, rfl, rfl, rfl, hle⟩
    · cases h
  · split at h
    · cases h; exact ⟨_, rfl, rfl, rfl, rfl, rfl, rfl, rfl, hle⟩
    · cases h
end MYX
theorem my_ql {bb : Nat → va_E} {d : Nat} {po : mj_Po} {call : mj_CF} {C S : Nat} {q : mj_Mi} (hdis : mj_dis mc_MT po) (hcc : my_qc bb call) : ∀ (k pc : Nat) (lv : List (Nat × Value)) (st : List Value) (n : Nat) (f f' : Nat → va_E) (cs ss : Nat) (r : mj_End), my_lp bb f f' → my_fL d po call C S q k pc lv st n f cs ss = some r → ∃ r', my_fL d po call C S q k pc lv st n f' cs ss = some r' ∧ my_qe bb r r' := by
  intro k
  induction k with
  | zero =>
    intro pc lv st n f f' cs ss r _ h
    simp [my_fL] at h
  | succ k ih =>
    intro pc lv st n f f' cs ss r hle h
    unfold my_fL at h ⊢
    cases hat : my_at3 q.2.2.2.2.1 pc with
    | none => rw [hat] at h; cases h
    | some i =>
      rw [hat] at h
      simp only at h ⊢
      cases hst : my_fs d po call C S q i pc lv st n f cs ss with
      | none => rw [hst] at h; cases h
      | some x =>
        rw [hst] at h
        obtain ⟨x', hx1, hx2⟩ := my_qs hdis hcc hle hst
        rw [hx1]
        rcases x with ⟨pc1, lv1, st1, n1, f1, cs1, ss1⟩ | ⟨o1, n1, f1, cs1, ss1⟩ <;> rcases x' with ⟨pc2, lv2, st2, n2, f2, cs2, ss2⟩ | ⟨o2, n2, f2, cs2, ss2⟩ <;> try (cases hx2; done)
        · obtain ⟨rfl, rfl, rfl, rfl, rfl, rfl, a7⟩ := hx2
          exact ih _ _ _ _ _ _ _ _ _ a7 h
        · obtain ⟨rfl, rfl, rfl, rfl, a5⟩ := hx2
          rcases o1 with v | x
          · simp only [Option.some.injEq] at h ⊢
            subst h
            exact ⟨_, rfl, rfl, rfl, rfl, a5⟩
          · cases h
theorem my_qcc {bb : Nat → va_E} (fv : Value) (fuel : Nat) : ∀ d : Nat, my_qc bb (my_fC fv fuel d) := by
  intro d
  induction d with
  | zero =>
    intro mi av n f f' C S r _ h
    simp [my_fC] at h
  | succ d ih =>
    intro mi av n f f' C S r hle h
    unfold my_fC at h ⊢
    cases hq : mc_PR mi with
    | none => rw [hq] at h; cases h
    | some q =>
      rw [hq] at h
      simp only [Option.ite_none_right_eq_some] at h
      obtain ⟨h1, h⟩ := h
      obtain ⟨r', a, b⟩ := my_ql (mc_dis fv _) ih _ _ _ _ _ _ _ _ _ _ hle h
      exact ⟨r', by simp only; rw [if_pos h1]; exact a, b⟩
theorem my_fgo_z {bb : Nat → va_E} {fv : Value} {fuel d : Nat} {q : mj_Mi} {C S : Nat} : ∀ (k : Nat) (pc : Nat) (lv : List (Nat × Value)) (st : List Value) (n : Nat) (f g : Nat → va_E) (cs ss : Nat) (c' : mj_Cfg), my_lp bb f g → my_fgo fv fuel d q C S k (pc, lv, st, n, f, cs, ss) = some c' → ∃ c2, my_fgo fv fuel d q C S k (pc, lv, st, n, g, cs, ss) = some c2 ∧ my_qr bb (.inl c') (.inl c2) := by
  intro k
  induction k with
  | zero =>
    intro pc lv st n f g cs ss c' hle h
    simp only [my_fgo, Option.some.injEq] at h ⊢
    subst h
    exact ⟨_, rfl, rfl, rfl, rfl, rfl, rfl, rfl, hle⟩
  | succ k ih =>
    intro pc lv st n f g cs ss c' hle h
    unfold my_fgo at h ⊢
    cases hat : my_at3 q.2.2.2.2.1 pc with
    | none => rw [hat] at h; cases h
    | some i =>
      rw [hat] at h
      simp only at h ⊢
      cases hst : my_fs d (mc_PO fv q.2.2.2.2.2.1) (my_fC fv fuel d) C S q i pc lv st n f cs ss with
      | none => rw [hst] at h; cases h
      | some x =>
        rw [hst] at h
        obtain ⟨x', hx1, hx2⟩ := my_qs (mc_dis fv _) (my_qcc fv fuel d) hle hst
        rw [hx1]
        rcases x with ⟨pc1, lv1, st1, n1, f1, cs1, ss1⟩ | ⟨o1, n1, f1, cs1, ss1⟩
        · rcases x' with ⟨pc2, lv2, st2, n2, f2, cs2, ss2⟩ | ⟨o2, n2, f2, cs2, ss2⟩
          · obtain ⟨rfl, rfl, rfl, rfl, rfl, rfl, a7⟩ := hx2
            exact ih _ _ _ _ _ _ _ _ _ a7 h
          · cases hx2
        · cases h
