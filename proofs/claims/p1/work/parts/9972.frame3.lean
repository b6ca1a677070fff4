/-! ===== .. runs; so many steps of a method ===== -/
theorem my_zl {d : Nat} {po : mj_Po} {call : mj_CF} {C S : Nat} {q : mj_Mi} (hdis : mj_dis mc_MT po) (hcc : my_cc call) : ∀ (k pc : Nat) (lv : List (Nat × Value)) (st : List Value) (n : Nat) (f f' : Nat → va_E) (cs ss : Nat) (r : mj_End), 32 ≤ n → my_le f f' → mj_loop mc_PT mc_MT d mc_TY mc_cm mc_ty po call C S q k pc lv st n f cs ss = some r → ∃ r', mj_loop mc_PT mc_MT d mc_TY mc_cm mc_ty po call C S q k pc lv st n f' cs ss = some r' ∧ my_re r r' := by
  intro k
  induction k with
  | zero =>
    intro pc lv st n f f' cs ss r _ _ h
    simp [mj_loop] at h
  | succ k ih =>
    intro pc lv st n f f' cs ss r hn hle h
    unfold mj_loop at h ⊢
    cases hat : mj_at q.2.2.2.2.1 pc with
    | none => rw [hat] at h; cases h
    | some i =>
      rw [hat] at h
      simp only at h ⊢
      cases hst : mj_step mc_PT mc_MT d mc_TY mc_cm mc_ty po call C S q i pc lv st n f cs ss with
      | none => rw [hst] at h; cases h
      | some x =>
        rw [hst] at h
        obtain ⟨x', hx1, hx2⟩ := my_zs hdis hcc hle hn hst
        rw [hx1]
        rcases x with ⟨pc1, lv1, st1, n1, f1, cs1, ss1⟩ | ⟨o1, n1, f1, cs1, ss1⟩ <;> rcases x' with ⟨pc2, lv2, st2, n2, f2, cs2, ss2⟩ | ⟨o2, n2, f2, cs2, ss2⟩ <;> try (cases hx2; done)
        · obtain ⟨rfl, rfl, rfl, rfl, rfl, rfl, a7, a8⟩ := hx2
          exact ih _ _ _ _ _ _ _ _ _ a8 a7 h
        · obtain ⟨rfl, rfl, rfl, rfl, a5, a6⟩ := hx2
          rcases o1 with v | x
          · simp only [Option.some.injEq] at h ⊢
            subst h
            exact ⟨_, rfl, rfl, rfl, rfl, a5, a6⟩
          · simp only at h ⊢
            cases hh : q.2.2.2.2.2.2.2 with
            | nil =>
              rw [hh] at h
              simp only [Option.some.injEq] at h ⊢
              subst h
              exact ⟨_, rfl, rfl, rfl, rfl, a5, a6⟩
            | cons h0 hs =>
              rw [hh] at h
              simp only at h ⊢
              have hct : mj_ct po.2.2.2.2.2.2.2.2.2.1 pc (h0 :: hs) n1 f1 x = mj_ct po.2.2.2.2.2.2.2.2.2.1 pc (h0 :: hs) n1 f2 x := by
                unfold mj_ct
                by_cases hx : 32 ≤ x ∧ x < n1
                · rw [if_pos hx, if_pos hx, a5.1 x (my_nz hx.1)]
                · rw [if_neg hx, if_neg hx]
              rw [hct] at h
              cases hc2 : mj_ct po.2.2.2.2.2.2.2.2.2.1 pc (h0 :: hs) n1 f2 x with
              | none => rw [hc2] at h; cases h
              | some hp =>
                rw [hc2] at h
                exact ih _ _ _ _ _ _ _ _ _ a6 a5 h
theorem my_zc (fv : Value) (fuel : Nat) : ∀ d : Nat, my_cc (mj_call mc_PT mc_MT mc_TY mc_cm mc_ty (mc_PO fv) mc_PR fuel d) := by
  intro d
  induction d with
  | zero =>
    intro mi av n f f' C S r _ _ h
    simp [mj_call] at h
  | succ d ih =>
    intro mi av n f f' C S r hn hle h
    unfold mj_call at h ⊢
    cases hq : mc_PR mi with
    | none => rw [hq] at h; cases h
    | some q =>
      rw [hq] at h
      simp only [Option.ite_none_right_eq_some] at h
      obtain ⟨h1, h⟩ := h
      obtain ⟨r', a, b⟩ := my_zl (mc_dis fv _) ih _ _ _ _ _ _ _ _ _ _ hn hle h
      exact ⟨r', by simp only; rw [if_pos h1]; exact a, b⟩
/-- so many steps -/
def my_go (fv : Value) (fuel d : Nat) (q : mj_Mi) (C S : Nat) : Nat → mj_Cfg → Option mj_Cfg
  | 0, c => some c
  | k + 1, (pc, lv, st, n, f, cs, ss) => match mj_at q.2.2.2.2.1 pc with
    | none => none
    | some i => match mj_step mc_PT mc_MT d mc_TY mc_cm mc_ty (mc_PO fv q.2.2.2.2.2.1) (mj_call mc_PT mc_MT mc_TY mc_cm mc_ty (mc_PO fv) mc_PR fuel d) C S q i pc lv st n f cs ss with
      | some (.inl c) => my_go fv fuel d q C S k c
      | _ => none
theorem my_go_R {fv : Value} {fuel d : Nat} {q : mj_Mi} {C S : Nat} {r : mj_End} : ∀ (k : Nat) (pc : Nat) (lv : List (Nat × Value)) (st : List Value) (n : Nat) (f : Nat → va_E) (cs ss : Nat) (pc' : Nat) (lv' : List (Nat × Value)) (st' : List Value) (n' : Nat) (f' : Nat → va_E) (cs' ss' : Nat), my_go fv fuel d q C S k (pc, lv, st, n, f, cs, ss) = some (pc', lv', st', n', f', cs', ss') → mc_R fv d q C S pc' lv' st' n' f' cs' ss' r → mc_R fv d q C S pc lv st n f cs ss r := by
  intro k
  induction k with
  | zero =>
    intro pc lv st n f cs ss pc' lv' st' n' f' cs' ss' h hr
    simp only [my_go, Option.some.injEq, Prod.mk.injEq] at h
    obtain ⟨rfl, rfl, rfl, rfl, rfl, rfl, rfl⟩ := h
    exact hr
  | succ k ih =>
    intro pc lv st n f cs ss pc' lv' st' n' f' cs' ss' h hr
    unfold my_go at h
    split at h
    · cases h
    · rename_i i hat
      split at h
      · rename_i c hst
        obtain ⟨pc1, lv1, st1, n1, f1, cs1, ss1⟩ := c
        obtain ⟨K, hK⟩ := (ih _ _ _ _ _ _ _ _ _ _ _ _ _ _ h hr).up
        refine ⟨max fuel K, K + 1, ?_⟩
        unfold mj_loop
        rw [hat]
        have e1 := mj_step_mono (mc_dis fv q.2.2.2.2.2.1) (mj_call_mono (mc_dis fv) (Nat.le_max_left fuel K) d) hst
        simp only [e1]
        exact hK _ _ (Nat.le_max_right _ _) (Nat.le_refl _)
      · cases h
theorem my_go_z {fv : Value} {fuel d : Nat} {q : mj_Mi} {C S : Nat} : ∀ (k : Nat) (pc : Nat) (lv : List (Nat × Value)) (st : List Value) (n : Nat) (f g : Nat → va_E) (cs ss : Nat) (c' : mj_Cfg), 32 ≤ n → my_le f g → my_go fv fuel d q C S k (pc, lv, st, n, f, cs, ss) = some c' → ∃ c2, my_go fv fuel d q C S k (pc, lv, st, n, g, cs, ss) = some c2 ∧ my_rr (.inl c') (.inl c2) := by
  intro k
  induction k with
  | zero =>
    intro pc lv st n f g cs ss c' hn hle h
    simp only [my_go, Option.some.injEq] at h ⊢
    subst h
    exact ⟨_, rfl, rfl, rfl, rfl, rfl, rfl, rfl, hle, hn⟩
  | succ k ih =>
    intro pc lv st n f g cs ss c' hn hle h
    unfold my_go at h ⊢
    cases hat : mj_at q.2.2.2.2.1 pc with
    | none => rw [hat] at h; cases h
    | some i =>
      rw [hat] at h
      simp only at h ⊢
      cases hst : mj_step mc_PT mc_MT d mc_TY mc_cm mc_ty (mc_PO fv q.2.2.2.2.2.1) (mj_call mc_PT mc_MT mc_TY mc_cm mc_ty (mc_PO fv) mc_PR fuel d) C S q i pc lv st n f cs ss with
      | none => rw [hst] at h; cases h
      | some x =>
        rw [hst] at h
        obtain ⟨x', hx1, hx2⟩ := my_zs (mc_dis fv _) (my_zc fv fuel d) hle hn hst
        rw [hx1]
        rcases x with ⟨pc1, lv1, st1, n1, f1, cs1, ss1⟩ | ⟨o1, n1, f1, cs1, ss1⟩
        · rcases x' with ⟨pc2, lv2, st2, n2, f2, cs2, ss2⟩ | ⟨o2, n2, f2, cs2, ss2⟩
          · obtain ⟨rfl, rfl, rfl, rfl, rfl, rfl, a7, a8⟩ := hx2
            exact ih _ _ _ _ _ _ _ _ _ a8 a7 h
          · cases hx2
        · cases h
def my_f0 : Nat → va_E := fun k => if k = 0 then my_pz else mc_fx 0 (fun _ => 0) k
theorem my_f0_le (L : Nat) (xs : Nat → Int32) : my_le my_f0 (mc_fx L xs) := by
  refine ⟨fun k hk => ?_, rfl⟩
  unfold my_f0
  rw [if_neg hk]
  unfold mc_fx
  split <;> first | rfl | exact absurd rfl hk
