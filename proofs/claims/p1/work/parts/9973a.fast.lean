/-! ===== a step that looks only where it must: for running closed code ===== -/
def my_cls : Instr → Nat
  | .iconst _ => 0
  | .bipush _ => 0
  | .sipush _ => 0
  | .lconst _ => 0
  | .aconst_null => 0
  | .iload_n _ => 0
  | .iload _ => 0
  | .lload_n _ => 0
  | .lload _ => 0
  | .aload_n _ => 0
  | .aload _ => 0
  | .getfield _ => 1
  | .putfield _ => 1
  | .goto _ => 2
  | .ifCond _ _ => 2
  | .if_icmp _ _ => 2
  | .ifnull _ => 2
  | .ifnonnull _ => 2
  | .iadd => 2
  | .isub => 2
  | .imul => 2
  | .iand => 2
  | .ior => 2
  | .ixor => 2
  | .ishl => 2
  | .ishr => 2
  | .iushr => 2
  | .ladd => 2
  | .lsub => 2
  | .lmul => 2
  | .land => 2
  | .lor => 2
  | .lxor => 2
  | .invokestatic _ => 3
  | .invokevirtual _ => 3
  | .invokespecial _ => 3
  | .iaload => 4
  | .baload => 4
  | .laload => 4
  | .aaload => 4
  | .arraylength => 4
  | .istore_n _ => 5
  | .istore _ => 5
  | .lstore_n _ => 5
  | .lstore _ => 5
  | .astore_n _ => 5
  | .astore _ => 5
  | .iinc _ _ => 5
  | .ireturn => 6
  | .lreturn => 6
  | .areturn => 6
  | .return_ => 6
  | .athrow => 6
  | .iastore => 8
  | .bastore => 8
  | .lastore => 8
  | .aastore => 8
  | .ldc _ => 9
  | .ldc_w _ => 9
  | .ldc2_w _ => 9
  | .new _ => 10
  | .newarray _ => 11
  | .anewarray _ => 11
  | .if_acmp _ _ => 12
  | .getstatic _ => 13
  | .tableswitch _ _ _ _ => 14
  | .lookupswitch _ _ => 14
  | _ => 7
def my_fs (d : Nat) (po : mj_Po) (call : mj_CF) (C S : Nat) (q : mj_Mi) (i : Instr) (pc : Nat) (lv : List (Nat × Value)) (st : List Value) (n : Nat) (f : Nat → va_E) (cs ss : Nat) : Option (mj_Cfg ⊕ mj_End) :=
  match my_cls i with
  | 0 => match mj_g1a i pc q.2.2.1 lv st with
    | some (pc', lv', st') => some (.inl (pc', lv', st', n, f, cs, ss))
    | none => none
  | 1 => match mj_g4 mc_ty po.2.1 q.2.2.2.2.2.2.1 i pc n f st with
    | some (pc', f', st') => some (.inl (pc', lv, st', n, f', cs, ss))
    | none => match mj_gx mc_TY po.2.2.2.2.2.2.2.1 po.2.2.2.2.2.2.2.2.1 po.2.2.2.2.2.2.2.2.2.2 i pc f st with
      | some (pc', st') => some (.inl (pc', lv, st', n, f, cs, ss))
      | none => none
  | 2 => match mj_g1d i pc lv st with
    | some (pc', lv', st') => some (.inl (pc', lv', st', n, f, cs, ss))
    | none => none
  | 3 => match mj_g7 call po.2.2.2.2.2.2.1 C S i pc st n f cs ss with
    | some (.inl (pc', st', n', f', cs', ss')) => some (.inl (pc', lv, st', n', f', cs', ss'))
    | some (.inr r) => some (.inr r)
    | none => if cs ≤ C ∧ ss ≤ S then match mj_gm mc_MT po.1 i pc st with
      | some (pc', st') => some (.inl (pc', lv, st', n, f, cs, ss))
      | none => none else none
  | 4 => match mj_g2 mc_TY i pc n f st with
    | some (pc', st') => some (.inl (pc', lv, st', n, f, cs, ss))
    | none => match mj_gx mc_TY po.2.2.2.2.2.2.2.1 po.2.2.2.2.2.2.2.2.1 po.2.2.2.2.2.2.2.2.2.2 i pc f st with
      | some (pc', st') => some (.inl (pc', lv, st', n, f, cs, ss))
      | none => none
  | 5 => match mj_g1b i pc q.2.2.1 lv st with
    | some (pc', lv', st') => some (.inl (pc', lv', st', n, f, cs, ss))
    | none => none
  | 6 => match mj_g8 q.2.2.2.1 i st with
    | some o => some (.inr (o, n, f, cs, ss))
    | none => none
  | 7 => match mj_g1c i pc lv st with
    | some (pc', lv', st') => some (.inl (pc', lv', st', n, f, cs, ss))
    | none => none
  | 8 => match mj_g3 mc_TY mc_cm i pc n f st with
    | some (pc', f', st') => some (.inl (pc', lv, st', n, f', cs, ss))
    | none => none
  | 9 => match mj_g6 po.2.2.2.2.1 po.2.2.2.2.2.1 i pc st with
    | some (pc', st') => some (.inl (pc', lv, st', n, f, cs, ss))
    | none => match mj_gx mc_TY po.2.2.2.2.2.2.2.1 po.2.2.2.2.2.2.2.2.1 po.2.2.2.2.2.2.2.2.2.2 i pc f st with
      | some (pc', st') => some (.inl (pc', lv, st', n, f, cs, ss))
      | none => none
  | 10 => match mj_gt mc_PT mc_cm po.1 po.2.2.1 po.2.2.2.2.2.2.2.1 q.2.2.2.2.1 d C S i pc n f cs ss st with
    | some (pc', n', f', cs', ss', st') => some (.inl (pc', lv, st', n', f', cs', ss'))
    | none => match mj_g5 mc_TY mc_cm mc_ty po.2.2.1 po.2.2.2.1 C S i pc n f cs ss st with
      | some (pc', n', f', cs', ss', st') => some (.inl (pc', lv, st', n', f', cs', ss'))
      | none => none
  | 11 => match mj_g5 mc_TY mc_cm mc_ty po.2.2.1 po.2.2.2.1 C S i pc n f cs ss st with
    | some (pc', n', f', cs', ss', st') => some (.inl (pc', lv, st', n', f', cs', ss'))
    | none => none
  | 12 => match mj_g9 i pc st with
    | some (pc', st') => some (.inl (pc', lv, st', n, f, cs, ss))
    | none => none
  | 13 => match mj_gx mc_TY po.2.2.2.2.2.2.2.1 po.2.2.2.2.2.2.2.2.1 po.2.2.2.2.2.2.2.2.2.2 i pc f st with
    | some (pc', st') => some (.inl (pc', lv, st', n, f, cs, ss))
    | none => none
  | _ => match mj_g1e i pc lv st with
    | some (pc', lv', st') => some (.inl (pc', lv', st', n, f, cs, ss))
    | none => none
theorem my_fs_ok {d : Nat} {po : mj_Po} {call : mj_CF} {C S : Nat} {q : mj_Mi} {i : Instr} {pc : Nat} {lv : List (Nat × Value)} {st : List Value} {n : Nat} {f : Nat → va_E} {cs ss : Nat} {r : mj_Cfg ⊕ mj_End} (h : my_fs d po call C S q i pc lv st n f cs ss = some r) : mj_step mc_PT mc_MT d mc_TY mc_cm mc_ty po call C S q i pc lv st n f cs ss = some r := by
  rw [← h]
  cases i <;> first
    | rfl
    | (simp only [my_fs, my_cls, mj_step, mj_sw, mj_g1a, mj_g4, mj_g1d, mj_bin, mj_binL, mj_g7, mj_g2, mj_g1b, mj_g8, mj_g1c, mj_g3, mj_g6, mj_gt, mj_g5, mj_g9, mj_gx, mj_gm, Bool.false_eq_true, if_false, if_true, ite_self]; done)
    | (simp only [my_fs, my_cls, mj_step, mj_sw, mj_g1a, mj_g4, mj_g1d, mj_bin, mj_binL, mj_g7, mj_g2, mj_g1b, mj_g8, mj_g1c, mj_g3, mj_g6, mj_gt, mj_g5, mj_g9, mj_gx, mj_gm, Bool.false_eq_true, if_false, if_true, ite_self]
       first | rfl | (split <;> first | rfl | (simp_all; done)))
def my_at3 : List (Nat × Instr) → Nat → Option Instr
  | [], _ => none
  | q :: r, pc => bif Nat.beq q.1 pc then some q.2 else my_at3 r pc
theorem my_at3_ok {pc : Nat} {i : Instr} : ∀ {l : List (Nat × Instr)}, my_at3 l pc = some i → mj_at l pc = some i
  | [], h => by simp [my_at3] at h
  | q :: r, h => by
    unfold my_at3 at h
    unfold mj_at
    cases hb : Nat.beq q.1 pc with
    | true =>
      rw [hb] at h
      rw [if_pos (Nat.eq_of_beq_eq_true hb)]
      exact h
    | false =>
      rw [hb] at h
      rw [if_neg (Nat.ne_of_beq_eq_false hb)]
      exact my_at3_ok h
def my_fL (d : Nat) (po : mj_Po) (call : mj_CF) (C S : Nat) (q : mj_Mi) : Nat → Nat → List (Nat × Value) → List Value → Nat → (Nat → va_E) → Nat → Nat → Option mj_End
  | 0, _, _, _, _, _, _, _ => none
  | k + 1, pc, lv, st, n, f, cs, ss => match my_at3 q.2.2.2.2.1 pc with
    | none => none
    | some i => match my_fs d po call C S q i pc lv st n f cs ss with
      | some (.inl (pc', lv', st', n', f', cs', ss')) => my_fL d po call C S q k pc' lv' st' n' f' cs' ss'
      | some (.inr (.inl v, n', f', cs', ss')) => some (.inl v, n', f', cs', ss')
      | _ => none
theorem my_fL_ok {d : Nat} {po : mj_Po} {call call' : mj_CF} (hdis : mj_dis mc_MT po) (hc : mj_le call call') {C S : Nat} {q : mj_Mi} {r : mj_End} : ∀ (k pc : Nat) (lv : List (Nat × Value)) (st : List Value) (n : Nat) (f : Nat → va_E) (cs ss : Nat), my_fL d po call C S q k pc lv st n f cs ss = some r → mj_loop mc_PT mc_MT d mc_TY mc_cm mc_ty po call' C S q k pc lv st n f cs ss = some r := by
  intro k
  induction k with
  | zero =>
    intro pc lv st n f cs ss h
    simp [my_fL] at h
  | succ k ih =>
    intro pc lv st n f cs ss h
    unfold my_fL at h
    unfold mj_loop
    cases hat : my_at3 q.2.2.2.2.1 pc with
    | none => rw [hat] at h; cases h
    | some i =>
      rw [hat] at h
      rw [my_at3_ok hat]
      simp only at h ⊢
      cases hst : my_fs d po call C S q i pc lv st n f cs ss with
      | none => rw [hst] at h; cases h
      | some x =>
        rw [hst] at h
        rw [mj_step_mono hdis hc (my_fs_ok hst)]
        rcases x with ⟨pc1, lv1, st1, n1, f1, cs1, ss1⟩ | ⟨v | y, n1, f1, cs1, ss1⟩
        · exact ih _ _ _ _ _ _ _ h
        · exact h
        · cases h
def my_fC (fv : Value) (fuel : Nat) : Nat → mj_CF
  | 0 => fun _ _ _ _ _ _ => none
  | d + 1 => fun mi av n f C S => match mc_PR mi with
    | none => none
    | some q => if (lg_sl av).length ≤ q.2.2.1 then my_fL d (mc_PO fv q.2.2.2.2.2.1) (my_fC fv fuel d) C S q fuel 0 (lv_args 0 av) [] n f 0 0 else none
theorem my_fC_ok (fv : Value) (fuel : Nat) : ∀ d : Nat, mj_le (my_fC fv fuel d) (mj_call mc_PT mc_MT mc_TY mc_cm mc_ty (mc_PO fv) mc_PR fuel d) := by
  intro d
  induction d with
  | zero =>
    intro mi av n f C S r h
    simp [my_fC] at h
  | succ d ih =>
    intro mi av n f C S r h
    unfold my_fC at h
    unfold mj_call
    cases hq : mc_PR mi with
    | none => rw [hq] at h; cases h
    | some q =>
      rw [hq] at h
      simp only [Option.ite_none_right_eq_some] at h ⊢
      exact ⟨h.1, my_fL_ok (mc_dis fv _) ih _ _ _ _ _ _ _ _ h.2⟩
def my_fgo (fv : Value) (fuel d : Nat) (q : mj_Mi) (C S : Nat) : Nat → mj_Cfg → Option mj_Cfg
  | 0, c => some c
  | k + 1, (pc, lv, st, n, f, cs, ss) => match my_at3 q.2.2.2.2.1 pc with
    | none => none
    | some i => match my_fs d (mc_PO fv q.2.2.2.2.2.1) (my_fC fv fuel d) C S q i pc lv st n f cs ss with
      | some (.inl c) => my_fgo fv fuel d q C S k c
      | _ => none
theorem my_fgo_ok {fv : Value} {fuel d : Nat} {q : mj_Mi} {C S : Nat} : ∀ (k : Nat) (c c' : mj_Cfg), my_fgo fv fuel d q C S k c = some c' → my_go fv fuel d q C S k c = some c' := by
  intro k
  induction k with
  | zero => intro c c' h; exact h
  | succ k ih =>
    rintro ⟨pc, lv, st, n, f, cs, ss⟩ c' h
    unfold my_fgo at h
    unfold my_go
    cases hat : my_at3 q.2.2.2.2.1 pc with
    | none => rw [hat] at h; cases h
    | some i =>
      rw [hat] at h
      rw [my_at3_ok hat]
      simp only at h ⊢
      cases hst : my_fs d (mc_PO fv q.2.2.2.2.2.1) (my_fC fv fuel d) C S q i pc lv st n f cs ss with
      | none => rw [hst] at h; cases h
      | some x =>
        rw [hst] at h
        rw [mj_step_mono (mc_dis fv _) (my_fC_ok fv fuel d) (my_fs_ok hst)]
        rcases x with c1 | y
        · exact ih _ _ h
        · cases h
