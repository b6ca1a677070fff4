/-! ===== things outside stay as they are ===== -/
def my_pr (f f' : Nat → va_E) : Prop := ∀ k, k < 32 → f' k = f k
theorem my_pr_up {f : Nat → va_E} {a : Nat} {v : va_E} (h : 32 ≤ a) : my_pr f (va_up f a v) := fun k hk => va_up_ne _ _ (by omega)
section MYQ
variable {f f1 : Nat → va_E} {i : Instr} {pc n C S cs ss d p : Nat} {st s : List Value} {lv : List (Nat × Value)} {call : mj_CF} {po : mj_Po} {q : mj_Mi}
theorem my_p4 {cty : Nat → Nat → FieldType} {pf : Nat → Option (Nat × Nat × Nat)} {ini : Bool} (h : mj_g4 cty pf ini i pc n f st = some (p, f1, s)) : my_pr f f1 := by
  cases i <;> simp only [mj_g4, reduceCtorEq] at h
  · split at h
    · simp only [Option.ite_none_right_eq_some] at h
      obtain ⟨h0, h⟩ := h
      split at h
      · split at h
        · split at h
          · split at h
            · simp only [Option.some.injEq, Prod.mk.injEq] at h
              obtain ⟨-, rfl, -⟩ := h
              exact fun _ _ => rfl
            · cases h
          · cases h
        · cases h
      · cases h
    · cases h
  · split at h
    · simp only [Option.ite_none_right_eq_some] at h
      obtain ⟨h0, h⟩ := h
      split at h
      · split at h
        · split at h
          · simp only [Option.some.injEq, Prod.mk.injEq] at h
            obtain ⟨-, rfl, -⟩ := h
            exact my_pr_up h0.1
          · cases h
        · cases h
      · cases h
    · cases h
theorem my_p3 (h : mj_g3 mc_TY mc_cm i pc n f st = some (p, f1, s)) : my_pr f f1 := by
  cases i <;> simp only [mj_g3, reduceCtorEq] at h
  case aastore =>
    split at h
    · simp only [Option.ite_none_right_eq_some] at h
      obtain ⟨h0, h⟩ := h
      split at h
      · split at h
        · split at h
          · split at h
            · split at h
              · cases h
              · simp only [Option.some.injEq, Prod.mk.injEq] at h
                obtain ⟨-, rfl, -⟩ := h
                exact my_pr_up h0.1.1
            · cases h
          · cases h
        · cases h
      · cases h
    · simp only [Option.ite_none_right_eq_some] at h
      obtain ⟨h0, h⟩ := h
      split at h
      · split at h
        · split at h
          · cases h
          · simp only [Option.some.injEq, Prod.mk.injEq] at h
            obtain ⟨-, rfl, -⟩ := h
            exact my_pr_up h0.1
        · cases h
      · cases h
    · cases h
  case bastore =>
    split at h
    · simp only [Option.ite_none_right_eq_some] at h
      obtain ⟨h0, h⟩ := h
      split at h
      · split at h
        · cases h
        · split at h
          · simp only [Option.some.injEq, Prod.mk.injEq] at h
            obtain ⟨-, rfl, -⟩ := h
            exact my_pr_up h0.1
          · split at h
            · simp only [Option.some.injEq, Prod.mk.injEq] at h
              obtain ⟨-, rfl, -⟩ := h
              exact my_pr_up h0.1
            · cases h
      · cases h
    · cases h
  all_goals
    split at h
    · simp only [Option.ite_none_right_eq_some] at h
      obtain ⟨h0, h⟩ := h
      split at h
      · split at h
        · split at h
          · cases h
          · simp only [Option.some.injEq, Prod.mk.injEq] at h
            obtain ⟨-, rfl, -⟩ := h
            exact my_pr_up h0.1
        · cases h
      · cases h
    · cases h
theorem my_p5 (hn : 32 ≤ n) {pk : Nat → Option (Nat × Nat)} {pa : Nat → Option Nat} {cty : Nat → Nat → FieldType} {n' c' s' : Nat} (h : mj_g5 mc_TY mc_cm cty pk pa C S i pc n f cs ss st = some (p, n', f1, c', s', s)) : my_pr f f1 ∧ 32 ≤ n' := by
  cases i <;> simp only [mj_g5, reduceCtorEq] at h
  case new idx =>
    split at h
    · split at h
      · simp only [Option.ite_none_right_eq_some, Option.some.injEq, Prod.mk.injEq] at h
        obtain ⟨-, -, rfl, rfl, -⟩ := h
        exact ⟨my_pr_up hn, by omega⟩
      · cases h
    · cases h
  case newarray at' =>
    split at h
    · simp only [Option.ite_none_right_eq_some, Option.some.injEq, Prod.mk.injEq] at h
      obtain ⟨-, -, rfl, rfl, -⟩ := h
      exact ⟨my_pr_up hn, by omega⟩
    · cases h
  case anewarray idx =>
    split at h
    · split at h
      · simp only [Option.ite_none_right_eq_some, Option.some.injEq, Prod.mk.injEq] at h
        obtain ⟨-, -, rfl, rfl, -⟩ := h
        exact ⟨my_pr_up hn, by omega⟩
      · cases h
    · cases h
theorem my_pt (hn : 32 ≤ n) {own : String} {pk : Nat → Option (Nat × Nat)} {ps : Nat → Option Nat} {tb : List (Nat × Instr)} {n' c' s' : Nat} (h : mj_gt mc_PT mc_cm own pk ps tb d C S i pc n f cs ss st = some (p, n', f1, c', s', s)) : my_pr f f1 ∧ 32 ≤ n' := by
  cases i <;> simp only [mj_gt, reduceCtorEq] at h
  split at h
  · split at h
    · split at h
      · split at h
        · split at h
          · split at h
            · split at h
              · split at h
                · simp only [Option.ite_none_right_eq_some, Option.some.injEq, Prod.mk.injEq] at h
                  obtain ⟨-, -, rfl, rfl, -⟩ := h
                  exact ⟨my_pr_up hn, by omega⟩
                · cases h
              · cases h
            · cases h
          · cases h
        · cases h
      · cases h
    · cases h
  · cases h
def my_pc2 (call : mj_CF) : Prop := ∀ (mi : Nat) (av : List Value) (n : Nat) (f : Nat → va_E) (C S : Nat) (r : mj_End), 32 ≤ n → call mi av n f C S = some r → my_pr f r.2.2.1 ∧ 32 ≤ r.2.1
def my_p7r (f : Nat → va_E) : (Nat × List Value × Nat × (Nat → va_E) × Nat × Nat) ⊕ mj_End → Prop
  | .inl (_, _, n, f', _, _) => my_pr f f' ∧ 32 ≤ n
  | .inr (_, n, f', _, _) => my_pr f f' ∧ 32 ≤ n
theorem my_p7 (hcc : my_pc2 call) (hn : 32 ≤ n) {pm : Nat → Option (Nat × Nat × Nat × Nat)} {x : (Nat × List Value × Nat × (Nat → va_E) × Nat × Nat) ⊕ mj_End} (h : mj_g7 call pm C S i pc st n f cs ss = some x) : my_p7r f x := by
  have hfin : ∀ {rest : List Value} {mi : Nat} {av : List Value} {A B : Nat}, mj_fin pc n cs ss rest (call mi av n f A B) = some x → my_p7r f x := by
    intro rest mi av A B h
    cases hc : call mi av n f A B with
    | none => rw [hc] at h; simp [mj_fin] at h
    | some r =>
      rw [hc] at h
      have h2 := hcc mi av n f A B r hn hc
      obtain ⟨o, m, g, c, s⟩ := r
      rcases o with v | y
      · simp only [mj_fin, Option.ite_none_right_eq_some, Option.some.injEq] at h
        obtain ⟨h1, rfl⟩ := h
        exact h2
      · simp only [mj_fin, Option.ite_none_right_eq_some, Option.some.injEq] at h
        obtain ⟨h1, rfl⟩ := h
        exact h2
  cases i <;> simp only [mj_g7, reduceCtorEq] at h
  case invokestatic idx =>
    split at h <;> (try simp only [reduceCtorEq] at h)
    simp only [Option.ite_none_right_eq_some] at h
    exact hfin h.2
  case invokevirtual idx =>
    split at h <;> (try simp only [reduceCtorEq] at h)
    split at h <;> (try simp only [reduceCtorEq] at h)
    simp only [Option.ite_none_right_eq_some] at h
    obtain ⟨h1, h⟩ := h
    split at h <;> (try simp only [reduceCtorEq] at h)
    simp only [Option.ite_none_right_eq_some] at h
    exact hfin h.2
  case invokespecial idx =>
    split at h <;> (try simp only [reduceCtorEq] at h)
    · split at h <;> (try simp only [reduceCtorEq] at h)
      simp only [Option.ite_none_right_eq_some] at h
      exact hfin h.2
    · split at h <;> (try simp only [reduceCtorEq] at h)
      simp only [Option.ite_none_right_eq_some, Option.some.injEq] at h
      obtain ⟨h1, rfl⟩ := h
      exact ⟨fun _ _ => rfl, hn⟩
def my_psr (f : Nat → va_E) : mj_Cfg ⊕ mj_End → Prop
  | .inl (_, _, _, n, f', _, _) => my_pr f f' ∧ 32 ≤ n
  | .inr (_, n, f', _, _) => my_pr f f' ∧ 32 ≤ n
theorem my_ps (hcc : my_pc2 call) (hn : 32 ≤ n) {r : mj_Cfg ⊕ mj_End} (h : mj_step mc_PT mc_MT d mc_TY mc_cm mc_ty po call C S q i pc lv st n f cs ss = some r) : my_psr f r := by
  have same : my_pr f f ∧ 32 ≤ n := ⟨fun _ _ => rfl, hn⟩
  unfold mj_step at h
  split at h
  · split at h
    · cases h; exact same
    · cases h
  · split at h
    · cases h; exact same
    · split at h
      · rename_i h4; cases h; exact ⟨my_p4 h4, hn⟩
      · split at h
        · cases h; exact same
        · split at h
          · rename_i h7; cases h; exact my_p7 hcc hn h7
          · rename_i h7; cases h; exact my_p7 hcc hn h7
          · split at h
            · cases h; exact same
            · split at h
              · cases h; exact same
              · split at h
                · cases h; exact same
                · split at h
                  · cases h; exact same
                  · split at h
                    · rename_i h3; cases h; exact ⟨my_p3 h3, hn⟩
                    · split at h
                      · cases h; exact same
                      · split at h
                        · rename_i ht; cases h; exact my_pt hn ht
                        · split at h
                          · rename_i h5; cases h; exact my_p5 hn h5
                          · split at h
                            · cases h; exact same
                            · split at h
                              · cases h; exact same
                              · split at h
                                · split at h
                                  · cases h; exact same
                                  · cases h
                                · cases h
end MYQ
theorem my_pl {d : Nat} {po : mj_Po} {call : mj_CF} {C S : Nat} {q : mj_Mi} (hcc : my_pc2 call) : ∀ (k pc : Nat) (lv : List (Nat × Value)) (st : List Value) (n : Nat) (f : Nat → va_E) (cs ss : Nat) (r : mj_End), 32 ≤ n → mj_loop mc_PT mc_MT d mc_TY mc_cm mc_ty po call C S q k pc lv st n f cs ss = some r → my_pr f r.2.2.1 ∧ 32 ≤ r.2.1 := by
  intro k
  induction k with
  | zero =>
    intro pc lv st n f cs ss r _ h
    simp [mj_loop] at h
  | succ k ih =>
    intro pc lv st n f cs ss r hn h
    unfold mj_loop at h
    cases hat : mj_at q.2.2.2.2.1 pc with
    | none => rw [hat] at h; cases h
    | some i =>
      rw [hat] at h
      simp only at h
      cases hst : mj_step mc_PT mc_MT d mc_TY mc_cm mc_ty po call C S q i pc lv st n f cs ss with
      | none => rw [hst] at h; cases h
      | some x =>
        rw [hst] at h
        have hp := my_ps hcc hn hst
        rcases x with ⟨pc1, lv1, st1, n1, f1, cs1, ss1⟩ | ⟨o1, n1, f1, cs1, ss1⟩
        · have h2 := ih _ _ _ _ _ _ _ _ hp.2 h
          exact ⟨fun k hk => (h2.1 k hk).trans (hp.1 k hk), h2.2⟩
        · rcases o1 with v | x
          · simp only [Option.some.injEq] at h
            subst h
            exact hp
          · simp only at h
            cases hh : q.2.2.2.2.2.2.2 with
            | nil =>
              rw [hh] at h
              simp only [Option.some.injEq] at h
              subst h
              exact hp
            | cons h0 hs =>
              rw [hh] at h
              simp only at h
              cases hc2 : mj_ct po.2.2.2.2.2.2.2.2.2.1 pc (h0 :: hs) n1 f1 x with
              | none => rw [hc2] at h; cases h
              | some hp2 =>
                rw [hc2] at h
                have h2 := ih _ _ _ _ _ _ _ _ hp.2 h
                exact ⟨fun k hk => (h2.1 k hk).trans (hp.1 k hk), h2.2⟩
theorem my_pcc (fv : Value) (fuel : Nat) : ∀ d : Nat, my_pc2 (mj_call mc_PT mc_MT mc_TY mc_cm mc_ty (mc_PO fv) mc_PR fuel d) := by
  intro d
  induction d with
  | zero =>
    intro mi av n f C S r _ h
    simp [mj_call] at h
  | succ d ih =>
    intro mi av n f C S r hn h
    unfold mj_call at h
    cases hq : mc_PR mi with
    | none => rw [hq] at h; cases h
    | some q =>
      rw [hq] at h
      simp only [Option.ite_none_right_eq_some] at h
      exact my_pl ih _ _ _ _ _ _ _ _ _ hn h.2
theorem my_go_p {fv : Value} {fuel d : Nat} {q : mj_Mi} {C S : Nat} : ∀ (k : Nat) (pc : Nat) (lv : List (Nat × Value)) (st : List Value) (n : Nat) (f : Nat → va_E) (cs ss : Nat) (pc' : Nat) (lv' : List (Nat × Value)) (st' : List Value) (n' : Nat) (f' : Nat → va_E) (cs' ss' : Nat), 32 ≤ n → my_go fv fuel d q C S k (pc, lv, st, n, f, cs, ss) = some (pc', lv', st', n', f', cs', ss') → my_pr f f' := by
  intro k
  induction k with
  | zero =>
    intro pc lv st n f cs ss pc' lv' st' n' f' cs' ss' hn h
    simp only [my_go, Option.some.injEq, Prod.mk.injEq] at h
    obtain ⟨-, -, -, -, rfl, -⟩ := h
    exact fun _ _ => rfl
  | succ k ih =>
    intro pc lv st n f cs ss pc' lv' st' n' f' cs' ss' hn h
    unfold my_go at h
    split at h
    · cases h
    · rename_i i hat
      split at h
      · rename_i c hst
        obtain ⟨pc1, lv1, st1, n1, f1, cs1, ss1⟩ := c
        have hp := my_ps (my_pcc fv fuel d) hn hst
        have h2 := ih _ _ _ _ _ _ _ _ _ _ _ _ _ _ hp.2 h
        exact fun k hk => (h2 k hk).trans (hp.1 k hk)
      · cases h
