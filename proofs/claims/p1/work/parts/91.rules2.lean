/-! ===== rules: a callee that throws; the law ===== -/
section MJS
variable {fv : Value} {d mi : Nat} {q : mj_Mi} {C S pc : Nat} {lv : List (Nat × Value)} {st av : List Value} {n n' : Nat} {f f' : Nat → va_E} {cs ss cs' ss' x : Nat} {r r0 : mj_End} {i : Instr}
theorem mc_R.thrown (hh : q.2.2.2.2.2.2.2 = []) (hat : mj_at q.2.2.2.2.1 pc = some i) (hc : mc_Ret fv d mi av n f (C - cs) (S - ss) r0) (hs : ∀ call : mj_CF, call mi av n f (C - cs) (S - ss) = some r0 → mj_step mc_PT mc_MT d mc_TY mc_cm mc_ty (mc_PO fv q.2.2.2.2.2.1) call C S q i pc lv st n f cs ss = some (.inr (.inr x, n', f', cs', ss'))) : mc_R fv d q C S pc lv st n f cs ss (.inr x, n', f', cs', ss') := by
  obtain ⟨k0, hc⟩ := hc.up
  refine ⟨k0, 1, ?_⟩
  unfold mj_loop
  rw [hat]
  have e1 := hs (mj_call mc_PT mc_MT mc_TY mc_cm mc_ty (mc_PO fv) mc_PR k0 d) (hc _ (Nat.le_refl _))
  simp only [e1]
  rw [hh]
theorem mc_R.caught {h0 : Nat × Nat × Nat × Nat} {hl : List (Nat × Nat × Nat × Nat)} {hp : Nat} (hh : q.2.2.2.2.2.2.2 = h0 :: hl) (hat : mj_at q.2.2.2.2.1 pc = some i) (hc : mc_Ret fv d mi av n f (C - cs) (S - ss) r0) (hs : ∀ call : mj_CF, call mi av n f (C - cs) (S - ss) = some r0 → mj_step mc_PT mc_MT d mc_TY mc_cm mc_ty (mc_PO fv q.2.2.2.2.2.1) call C S q i pc lv st n f cs ss = some (.inr (.inr x, n', f', cs', ss')))
    (hct : mj_ct (mc_PO fv q.2.2.2.2.2.1).2.2.2.2.2.2.2.2.2.1 pc (h0 :: hl) n' f' x = some hp) (h : mc_R fv d q C S hp lv [.ref x] n' f' cs' ss' r) : mc_R fv d q C S pc lv st n f cs ss r := by
  obtain ⟨k0, hc⟩ := hc.up
  obtain ⟨k1, h⟩ := h.up
  refine ⟨max k0 k1, k1 + 1, ?_⟩
  unfold mj_loop
  rw [hat]
  have e1 := hs (mj_call mc_PT mc_MT mc_TY mc_cm mc_ty (mc_PO fv) mc_PR (max k0 k1) d) (hc _ (Nat.le_max_left k0 k1))
  simp only [e1]
  rw [hh]
  simp only [hct]
  exact h _ _ (Nat.le_max_right k0 k1) (Nat.le_refl _)
end MJS
theorem mc_true_of {L : Nat} {xs : Nat → Int32} (h : ∀ fv : Value, fv = .null ∨ fv = .ref 31 → ∃ (n' : Nat) (f' : Nat → va_E) (c' s' : Nat), mc_R fv 1049 mp_law 600002 7302232 0 (lv_args 0 [.ref 0]) [] 32 (mc_fx L xs) 0 0 (.inl (some (.int 1)), n', f', c', s') ∧ c' ≤ 600002 ∧ s' ≤ 7302232) : mc_true L xs := by
  intro fv hfv
  obtain ⟨n', f', c', s', hR, h1, h2⟩ := h fv hfv
  obtain ⟨K, hK⟩ := hR.up
  exact ⟨K, n', f', c', s', hK K K (Nat.le_refl _) (Nat.le_refl _), h1, h2⟩
