/-! ===== .. a step, a method ===== -/
def my_rr : mj_Cfg ⊕ mj_End → mj_Cfg ⊕ mj_End → Prop
  | .inl (p, lv, st, n, f, c, s), .inl (p', lv', st', n', f', c', s') => p = p' ∧ lv = lv' ∧ st = st' ∧ n = n' ∧ c = c' ∧ s = s' ∧ my_le f f' ∧ 32 ≤ n
  | .inr (o, n, f, c, s), .inr (o', n', f', c', s') => o = o' ∧ n = n' ∧ c = c' ∧ s = s' ∧ my_le f f' ∧ 32 ≤ n
  | _, _ => False
def my_re (r r' : mj_End) : Prop := r.1 = r'.1 ∧ r.2.1 = r'.2.1 ∧ r.2.2.2 = r'.2.2.2 ∧ my_le r.2.2.1 r'.2.2.1 ∧ 32 ≤ r.2.1
def my_cc (call : mj_CF) : Prop := ∀ (mi : Nat) (av : List Value) (n : Nat) (f f' : Nat → va_E) (C S : Nat) (r : mj_End), 32 ≤ n → my_le f f' → call mi av n f C S = some r → ∃ r', call mi av n f' C S = some r' ∧ my_re r r'
section MYY
variable {f f' : Nat → va_E} {i : Instr} {pc n C S cs ss d : Nat} {st : List Value} {lv : List (Nat × Value)} {call : mj_CF} {po : mj_Po} {q : mj_Mi}
def my_r7 : (Nat × List Value × Nat × (Nat → va_E) × Nat × Nat) ⊕ mj_End → (Nat × List Value × Nat × (Nat → va_E) × Nat × Nat) ⊕ mj_End → Prop
  | .inl (p, st, n, f, c, s), .inl (p', st', n', f', c', s') => p = p' ∧ st = st' ∧ n = n' ∧ c = c' ∧ s = s' ∧ my_le f f' ∧ 32 ≤ n
  | .inr (o, n, f, c, s), .inr (o', n', f', c', s') => o = o' ∧ n = n' ∧ c = c' ∧ s = s' ∧ my_le f f' ∧ 32 ≤ n
  | _, _ => False
theorem my_zf {rest : List Value} {r r' : mj_End} {x : (Nat × List Value × Nat × (Nat → va_E) × Nat × Nat) ⊕ mj_End} (hr : my_re r r') (h : mj_fin pc n cs ss rest (some r) = some x) : ∃ x', mj_fin pc n cs ss rest (some r') = some x' ∧ my_r7 x x' := by
  obtain ⟨o, m, g, c, s⟩ := r
  obtain ⟨o', m', g', c', s'⟩ := r'
  obtain ⟨e1, e2, e3, e4, e5⟩ := hr
  simp only at e1 e2 e3 e4 e5
  subst e1; subst e2
  cases e3
  rcases o with v | y
  · simp only [mj_fin, Option.ite_none_right_eq_some, Option.some.injEq] at h
    obtain ⟨h1, rfl⟩ := h
    refine ⟨_, by simp only [mj_fin]; rw [if_pos h1], ?_⟩
    exact ⟨rfl, rfl, rfl, rfl, rfl, e4, e5⟩
  · simp only [mj_fin, Option.ite_none_right_eq_some, Option.some.injEq] at h
    obtain ⟨h1, rfl⟩ := h
    refine ⟨_, by simp only [mj_fin]; rw [if_pos h1], ?_⟩
    exact ⟨rfl, rfl, rfl, rfl, e4, e5⟩
theorem my_z7 (hcc : my_cc call) (hle : my_le f f') (hn : 32 ≤ n) {pm : Nat → Option (Nat × Nat × Nat × Nat)} {x : (Nat × List Value × Nat × (Nat → va_E) × Nat × Nat) ⊕ mj_End} (h : mj_g7 call pm C S i pc st n f cs ss = some x) : ∃ x', mj_g7 call pm C S i pc st n f' cs ss = some x' ∧ my_r7 x x' := by
  have hfin : ∀ {rest : List Value} {mi : Nat} {av : List Value} {A B : Nat}, mj_fin pc n cs ss rest (call mi av n f A B) = some x → ∃ x', mj_fin pc n cs ss rest (call mi av n f' A B) = some x' ∧ my_r7 x x' := by
    intro rest mi av A B h
    cases hc : call mi av n f A B with
    | none => rw [hc] at h; simp [mj_fin] at h
    | some r =>
      rw [hc] at h
      obtain ⟨r', hr1, hr2⟩ := hcc mi av n f f' A B r hn hle hc
      rw [hr1]
      exact my_zf hr2 h
  cases i <;> simp only [mj_g7, reduceCtorEq] at h ⊢
  case invokestatic idx =>
    split at h <;> (try simp only [reduceCtorEq] at h)
    rename_i mi k ci hp
    simp only [Option.ite_none_right_eq_some] at h
    obtain ⟨h1, h⟩ := h
    rw [if_pos h1]
    exact hfin h
  case invokevirtual idx =>
    split at h <;> (try simp only [reduceCtorEq] at h)
    rename_i mi k ci hp
    split at h <;> (try simp only [reduceCtorEq] at h)
    rename_i b r hd
    simp only [Option.ite_none_right_eq_some] at h
    obtain ⟨h1, h⟩ := h
    have hb : f b = f' b := by
      by_cases hb : b = 0
      · subst hb
        rw [hle.2] at h
        simp [my_pz] at h
      · exact hle.1 b hb
    rw [hb] at h
    split at h <;> (try simp only [reduceCtorEq] at h)
    rename_i cj fs e2
    simp only [Option.ite_none_right_eq_some] at h
    obtain ⟨h2, h⟩ := h
    rw [if_pos h1]
    rw [if_pos h2]
    exact hfin h
  case invokespecial idx =>
    split at h <;> (try simp only [reduceCtorEq] at h)
    · rename_i mi k ci hp
      split at h <;> (try simp only [reduceCtorEq] at h)
      rename_i b r hd
      simp only [Option.ite_none_right_eq_some] at h
      obtain ⟨h1, h⟩ := h
      rw [if_pos h1]
      exact hfin h
    · rename_i mi k ci hp
      split at h <;> (try simp only [reduceCtorEq] at h)
      rename_i b r
      simp only [Option.ite_none_right_eq_some, Option.some.injEq] at h
      obtain ⟨h1, rfl⟩ := h
      refine ⟨_, by rw [if_pos h1], ?_⟩
      exact ⟨rfl, rfl, rfl, rfl, rfl, hle, hn⟩
theorem my_zs (hdis : mj_dis mc_MT po) (hcc : my_cc call) (hle : my_le f f') (hn : 32 ≤ n) {r : mj_Cfg ⊕ mj_End} (h : mj_step mc_PT mc_MT d mc_TY mc_cm mc_ty po call C S q i pc lv st n f cs ss = some r) : ∃ r', mj_step mc_PT mc_MT d mc_TY mc_cm mc_ty po call C S q i pc lv st n f' cs ss = some r' ∧ my_rr r r' := by
  by_cases hinv : mj_isInv i = true
  · cases hg : mj_g7 call po.2.2.2.2.2.2.1 C S i pc st n f cs ss with
    | some x =>
      obtain ⟨x', hx1, hx2⟩ := my_z7 hcc hle hn hg
      have hA : mj_step mc_PT mc_MT d mc_TY mc_cm mc_ty po call C S q i pc lv st n f cs ss = (match x with
        | .inl (pc', st', n', f', cs', ss') => some (.inl (pc', lv, st', n', f', cs', ss'))
        | .inr r => some (.inr r)) := by
        cases i <;> simp only [mj_isInv, reduceCtorEq, Bool.false_eq_true] at hinv <;> simp [mj_step, mj_sw, mj_g1a, mj_g4, mj_g1d, mj_bin, mj_binL, hg] <;> rcases x with ⟨_, _, _, _, _, _⟩ | _ <;> rfl
      have hB : mj_step mc_PT mc_MT d mc_TY mc_cm mc_ty po call C S q i pc lv st n f' cs ss = (match x' with
        | .inl (pc', st', n', f', cs', ss') => some (.inl (pc', lv, st', n', f', cs', ss'))
        | .inr r => some (.inr r)) := by
        cases i <;> simp only [mj_isInv, reduceCtorEq, Bool.false_eq_true] at hinv <;> simp [mj_step, mj_sw, mj_g1a, mj_g4, mj_g1d, mj_bin, mj_binL, hx1] <;> rcases x' with ⟨_, _, _, _, _, _⟩ | _ <;> rfl
      rw [hA] at h
      rw [hB]
      rcases x with ⟨p, s1, n1, f1, c1, k1⟩ | ⟨o, n1, f1, c1, k1⟩ <;> rcases x' with ⟨p', s1', n1', f1', c1', k1'⟩ | ⟨o', n1', f1', c1', k1'⟩ <;> (try (cases hx2; done)) <;> simp only [Option.some.injEq] at h <;> subst h
      · obtain ⟨a1, a2, a3, a4, a5, a6, a7⟩ := hx2
        exact ⟨_, rfl, a1, rfl, a2, a3, a4, a5, a6, a7⟩
      · obtain ⟨a1, a2, a3, a4, a5, a6⟩ := hx2
        exact ⟨_, rfl, a1, a2, a3, a4, a5, a6⟩
    | none =>
      cases i <;> simp only [mj_isInv, reduceCtorEq, Bool.false_eq_true] at hinv
      case invokestatic idx =>
        have hA : ∀ F : Nat → va_E, mj_g7 call po.2.2.2.2.2.2.1 C S (.invokestatic idx) pc st n F cs ss = none → mj_step mc_PT mc_MT d mc_TY mc_cm mc_ty po call C S q (.invokestatic idx) pc lv st n F cs ss = if cs ≤ C ∧ ss ≤ S then (match mj_gm mc_MT po.1 (.invokestatic idx) pc st with
          | some (pc', st') => some (.inl (pc', lv, st', n, F, cs, ss))
          | none => none) else none := by
          intro F hF
          simp [mj_step, mj_sw, mj_g1a, mj_g4, mj_g1d, mj_bin, mj_binL, hF, mj_g2, mj_g1b, mj_g8, mj_g1c, mj_g3, mj_g6, mj_gt, mj_g5, mj_g9, mj_gx]
          rfl
        rw [hA f hg] at h
        simp only [Option.ite_none_right_eq_some] at h
        obtain ⟨h1, h⟩ := h
        cases hgm : mj_gm mc_MT po.1 (.invokestatic idx) pc st with
        | none => rw [hgm] at h; cases h
        | some y =>
          rw [hgm] at h
          have hpm : po.2.2.2.2.2.2.1 idx = none := by
            simp only [mj_gm] at hgm
            split at hgm <;> (try simp only [reduceCtorEq] at hgm)
            simp only [Option.ite_none_right_eq_some] at hgm
            obtain ⟨-, hgm⟩ := hgm
            split at hgm
            · rename_i h2; exact hdis idx true h2
            · split at hgm
              · rename_i h2; exact hdis idx false h2
              · cases hgm
          rw [hA f' (by simp [mj_g7, hpm]), if_pos h1, hgm]
          obtain ⟨y1, y2⟩ := y
          simp only [Option.some.injEq] at h
          subst h
          exact ⟨_, rfl, rfl, rfl, rfl, rfl, rfl, rfl, hle, hn⟩
      case invokevirtual idx =>
        exfalso
        simp [mj_step, mj_sw, mj_g1a, mj_g4, mj_g1d, mj_bin, mj_binL, hg, mj_g2, mj_g1b, mj_g8, mj_g1c, mj_g3, mj_g6, mj_gt, mj_g5, mj_g9, mj_gx, mj_gm] at h
      case invokespecial idx =>
        exfalso
        simp [mj_step, mj_sw, mj_g1a, mj_g4, mj_g1d, mj_bin, mj_binL, hg, mj_g2, mj_g1b, mj_g8, mj_g1c, mj_g3, mj_g6, mj_gt, mj_g5, mj_g9, mj_gx, mj_gm] at h
  · have e7 : ∀ F : Nat → va_E, mj_g7 call po.2.2.2.2.2.2.1 C S i pc st n F cs ss = none := by
      intro F
      cases i <;> first | rfl | exact absurd rfl hinv
    have em : mj_gm mc_MT po.1 i pc st = none := by
      cases i <;> first | rfl | exact absurd rfl hinv
    unfold mj_step at h ⊢
    rw [e7, em] at h ⊢
    split
    · rename_i hsw
      rw [if_pos hsw] at h
      split at h
      · simp only [Option.some.injEq] at h; subst h
        exact ⟨_, rfl, rfl, rfl, rfl, rfl, rfl, rfl, hle, hn⟩
      · cases h
    · rename_i hsw
      rw [if_neg hsw] at h
      cases g1 : mj_g1a i pc q.2.2.1 lv st with
      | some w =>
        rw [g1] at h
        obtain ⟨w1, w2, w3⟩ := w
        simp only [Option.some.injEq] at h; subst h
        exact ⟨_, rfl, rfl, rfl, rfl, rfl, rfl, rfl, hle, hn⟩
      | none =>
      rw [g1] at h
      have z4 := my_z4 hle (i := i) (pc := pc) (n := n) (st := st) (cty := mc_ty) (pf := po.2.1) (ini := q.2.2.2.2.2.2.1)
      cases g4 : mj_g4 mc_ty po.2.1 q.2.2.2.2.2.2.1 i pc n f st with
      | some w =>
        rw [g4] at h z4
        cases g4' : mj_g4 mc_ty po.2.1 q.2.2.2.2.2.2.1 i pc n f' st with
        | none => rw [g4'] at z4; cases z4
        | some w' =>
          rw [g4'] at z4
          obtain ⟨w1, w2, w3⟩ := w
          obtain ⟨w1', w2', w3'⟩ := w'
          obtain ⟨b1, b2, b3⟩ := z4
          simp only [Option.some.injEq] at h; subst h
          exact ⟨_, rfl, b1, rfl, b2, rfl, rfl, rfl, b3, hn⟩
      | none =>
      rw [g4] at h z4
      cases g4' : mj_g4 mc_ty po.2.1 q.2.2.2.2.2.2.1 i pc n f' st with
      | some w => rw [g4'] at z4; cases z4
      | none =>
      cases g1d : mj_g1d i pc lv st with
      | some w =>
        rw [g1d] at h
        obtain ⟨w1, w2, w3⟩ := w
        simp only [Option.some.injEq] at h; subst h
        exact ⟨_, rfl, rfl, rfl, rfl, rfl, rfl, rfl, hle, hn⟩
      | none =>
      rw [g1d] at h
      rw [my_z2 hle] at h
      cases g2 : mj_g2 mc_TY i pc n f' st with
      | some w =>
        rw [g2] at h
        obtain ⟨w1, w2⟩ := w
        simp only [Option.some.injEq] at h; subst h
        exact ⟨_, rfl, rfl, rfl, rfl, rfl, rfl, rfl, hle, hn⟩
      | none =>
      rw [g2] at h
      cases g1b : mj_g1b i pc q.2.2.1 lv st with
      | some w =>
        rw [g1b] at h
        obtain ⟨w1, w2, w3⟩ := w
        simp only [Option.some.injEq] at h; subst h
        exact ⟨_, rfl, rfl, rfl, rfl, rfl, rfl, rfl, hle, hn⟩
      | none =>
      rw [g1b] at h
      cases g8 : mj_g8 q.2.2.2.1 i st with
      | some w =>
        rw [g8] at h
        simp only [Option.some.injEq] at h; subst h
        exact ⟨_, rfl, rfl, rfl, rfl, rfl, hle, hn⟩
      | none =>
      rw [g8] at h
      cases g1c : mj_g1c i pc lv st with
      | some w =>
        rw [g1c] at h
        obtain ⟨w1, w2, w3⟩ := w
        simp only [Option.some.injEq] at h; subst h
        exact ⟨_, rfl, rfl, rfl, rfl, rfl, rfl, rfl, hle, hn⟩
      | none =>
      rw [g1c] at h
      have z3 := my_z3 hle (i := i) (pc := pc) (n := n) (st := st)
      cases g3 : mj_g3 mc_TY mc_cm i pc n f st with
      | some w =>
        rw [g3] at h z3
        cases g3' : mj_g3 mc_TY mc_cm i pc n f' st with
        | none => rw [g3'] at z3; cases z3
        | some w' =>
          rw [g3'] at z3
          obtain ⟨w1, w2, w3⟩ := w
          obtain ⟨w1', w2', w3'⟩ := w'
          obtain ⟨b1, b2, b3⟩ := z3
          simp only [Option.some.injEq] at h; subst h
          exact ⟨_, rfl, b1, rfl, b2, rfl, rfl, rfl, b3, hn⟩
      | none =>
      rw [g3] at h z3
      cases g3' : mj_g3 mc_TY mc_cm i pc n f' st with
      | some w => rw [g3'] at z3; cases z3
      | none =>
      cases g6 : mj_g6 po.2.2.2.2.1 po.2.2.2.2.2.1 i pc st with
      | some w =>
        rw [g6] at h
        obtain ⟨w1, w2⟩ := w
        simp only [Option.some.injEq] at h; subst h
        exact ⟨_, rfl, rfl, rfl, rfl, rfl, rfl, rfl, hle, hn⟩
      | none =>
      rw [g6] at h
      have zt := my_zt hle hn (i := i) (pc := pc) (st := st) (C := C) (S := S) (cs := cs) (ss := ss) (d := d) (own := po.1) (pk := po.2.2.1) (ps := po.2.2.2.2.2.2.2.1) (tb := q.2.2.2.2.1)
      cases gt : mj_gt mc_PT mc_cm po.1 po.2.2.1 po.2.2.2.2.2.2.2.1 q.2.2.2.2.1 d C S i pc n f cs ss st with
      | some w =>
        rw [gt] at h zt
        cases gt' : mj_gt mc_PT mc_cm po.1 po.2.2.1 po.2.2.2.2.2.2.2.1 q.2.2.2.2.1 d C S i pc n f' cs ss st with
        | none => rw [gt'] at zt; cases zt
        | some w' =>
          rw [gt'] at zt
          obtain ⟨w1, w2, w3, w4, w5, w6⟩ := w
          obtain ⟨w1', w2', w3', w4', w5', w6'⟩ := w'
          obtain ⟨b1, b2, b3, b4, b5, b6, b7⟩ := zt
          simp only [Option.some.injEq] at h; subst h
          exact ⟨_, rfl, b1, rfl, b5, b2, b3, b4, b6, b7⟩
      | none =>
      rw [gt] at h zt
      cases gt' : mj_gt mc_PT mc_cm po.1 po.2.2.1 po.2.2.2.2.2.2.2.1 q.2.2.2.2.1 d C S i pc n f' cs ss st with
      | some w => rw [gt'] at zt; cases zt
      | none =>
      have z5 := my_z5 hle hn (i := i) (pc := pc) (st := st) (C := C) (S := S) (cs := cs) (ss := ss) (pk := po.2.2.1) (pa := po.2.2.2.1) (cty := mc_ty)
      cases g5 : mj_g5 mc_TY mc_cm mc_ty po.2.2.1 po.2.2.2.1 C S i pc n f cs ss st with
      | some w =>
        rw [g5] at h z5
        cases g5' : mj_g5 mc_TY mc_cm mc_ty po.2.2.1 po.2.2.2.1 C S i pc n f' cs ss st with
        | none => rw [g5'] at z5; cases z5
        | some w' =>
          rw [g5'] at z5
          obtain ⟨w1, w2, w3, w4, w5, w6⟩ := w
          obtain ⟨w1', w2', w3', w4', w5', w6'⟩ := w'
          obtain ⟨b1, b2, b3, b4, b5, b6, b7⟩ := z5
          simp only [Option.some.injEq] at h; subst h
          exact ⟨_, rfl, b1, rfl, b5, b2, b3, b4, b6, b7⟩
      | none =>
      rw [g5] at h z5
      cases g5' : mj_g5 mc_TY mc_cm mc_ty po.2.2.1 po.2.2.2.1 C S i pc n f' cs ss st with
      | some w => rw [g5'] at z5; cases z5
      | none =>
      cases g9 : mj_g9 i pc st with
      | some w =>
        rw [g9] at h
        obtain ⟨w1, w2⟩ := w
        simp only [Option.some.injEq] at h; subst h
        exact ⟨_, rfl, rfl, rfl, rfl, rfl, rfl, rfl, hle, hn⟩
      | none =>
      rw [g9] at h
      cases gx : mj_gx mc_TY po.2.2.2.2.2.2.2.1 po.2.2.2.2.2.2.2.2.1 po.2.2.2.2.2.2.2.2.2.2 i pc f st with
      | some w =>
        rw [gx] at h
        rw [my_zx hle gx]
        obtain ⟨w1, w2⟩ := w
        simp only [Option.some.injEq] at h; subst h
        exact ⟨_, rfl, rfl, rfl, rfl, rfl, rfl, rfl, hle, hn⟩
      | none =>
        rw [gx] at h
        simp at h
end MYY
