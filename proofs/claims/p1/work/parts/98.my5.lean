/-! ===== calls and exceptions ===== -/
section MYC
variable {e : my_E} {d mi np ci idx : Nat} {q : mj_Mi} {pc : Nat} {lv : List (Nat × my_V)} {st r : List my_V} {κ : my_K} {σ : my_S} {Q : my_O → my_K → my_S → Prop}
/-- what is to be shown where a call has come back: of a value, of an exception -/
theorem my_W_inv {i : Instr} {av : List my_V} {Qc : my_O → my_K → my_S → Prop} (hat : mj_at q.2.2.2.2.1 pc = some i)
    (hs : ∀ (lv' : List (Nat × Value)) (f : Nat → va_E) (C S cs ss : Nat), my_rep e κ.1 f σ → (cs ≤ C ∧ ss ≤ S) → ∀ (call : mj_CF) (r0 : mj_End), κ.1 ≤ r0.2.1 → call mi (av.map my_v) κ.1 f (C - cs) (S - ss) = some r0 → mj_step mc_PT mc_MT d mc_TY mc_cm mc_ty (mc_PO e.1 q.2.2.2.2.2.1) call C S q i pc lv' (st.map my_v) κ.1 f cs ss = match r0 with
      | (.inl v, n', f', c', s') => some (.inl (pc + 3, lv', v.toList ++ r.map my_v, n', f', cs + c', ss + s'))
      | (.inr x, n', f', c', s') => some (.inr (.inr x, n', f', cs + c', ss + s')))
    (hm : my_M e d mi av κ σ Qc)
    (hv : ∀ (v : Option my_V) (κ' : my_K) (σ' : my_S), Qc (.inl v) κ' σ' → my_W e d q (pc + 3) lv (v.toList ++ r) κ' σ' Q)
    (hx : ∀ (x cx : Nat) (κ' : my_K) (σ' : my_S), Qc (.inr (x, cx)) κ' σ' → (q.2.2.2.2.2.2.2 = [] ∧ Q (.inr (x, cx)) κ' σ') ∨ ∃ (h0 : Nat × Nat × Nat × Nat) (hl : List (Nat × Nat × Nat × Nat)) (hp : Nat), q.2.2.2.2.2.2.2 = h0 :: hl ∧ mj_hd (mc_PO e.1 q.2.2.2.2.2.1).2.2.2.2.2.2.2.2.2.1 pc cx (h0 :: hl) = some hp ∧ my_W e d q hp lv [.inr (.inr (some x))] κ' σ' Q) : my_W e d q pc lv st κ σ Q := by
  intro lv' f C S cs ss h1 h2 h3 h4
  obtain ⟨o, n', f', c', s', o', σ', b1, b2, b3, b4, b5⟩ := hm f h2
  have b1 : mc_Ret e.1 d mi (av.map my_v) κ.1 f (C - cs) (S - ss) (o, n', f', c', s') := by rw [h4.1, h4.2]; exact b1
  have k1 : cs + c' ≤ C := by omega
  have k2 : ss + s' ≤ S := by omega
  have k3 : κ.2.1 - c' = C - (cs + c') := by omega
  have k4 : κ.2.2 - s' = S - (ss + s') := by omega
  rw [k3, k4] at b5
  rcases o with v | x
  · rcases o' with w | ⟨y, cy⟩
    · have b4 : v = w.map my_v := b4
      subst b4
      have hW := hv w _ _ b5
      obtain ⟨o2, n2, f2, c2, s2, o2', σ2, d1, d2, d3⟩ := hW lv' f' C S (cs + c') (ss + s') h1 b3 ⟨k1, k2⟩ ⟨rfl, rfl⟩
      refine ⟨o2, n2, f2, c2, s2, o2', σ2, mc_R.call hat b1 (fun call hcall => hs lv' f C S cs ss h2 h3 call _ b2.1 hcall) ?_, ⟨Nat.le_trans b2.1 d2.1, d2.2⟩, d3⟩
      have e1 : (w.map my_v).toList ++ r.map my_v = (w.toList ++ r).map my_v := by cases w <;> rfl
      rw [e1]
      exact d1
    · cases b4
  · rcases o' with w | ⟨y, cy⟩
    · cases b4
    · obtain ⟨rfl, b4, fs, b6⟩ := b4
      rcases hx x cy _ _ b5 with ⟨hh, hq⟩ | ⟨h0, hl, hp, hh, hd, hW⟩
      · exact ⟨.inr x, n', f', cs + c', ss + s', .inr (x, cy), σ', mc_R.thrown hh hat b1 (fun call hcall => hs lv' f C S cs ss h2 h3 call _ b2.1 hcall), ⟨b2.1, k1, k2⟩, b3, ⟨rfl, b4, fs, b6⟩, hq⟩
      · obtain ⟨o2, n2, f2, c2, s2, o2', σ2, d1, d2, d3⟩ := hW lv' f' C S (cs + c') (ss + s') h1 b3 ⟨k1, k2⟩ ⟨rfl, rfl⟩
        refine ⟨o2, n2, f2, c2, s2, o2', σ2, mc_R.caught hh hat b1 (fun call hcall => hs lv' f C S cs ss h2 h3 call _ b2.1 hcall) ?_ d1, ⟨Nat.le_trans b2.1 d2.1, d2.2⟩, d3⟩
        simp only [mj_ct, b4, b6, and_self, if_true, hd]
theorem my_fin {pc n cs ss : Nat} {rest : List Value} {r0 : mj_End} (h : n ≤ r0.2.1) : mj_fin pc n cs ss rest (some r0) = match r0 with
      | (.inl v, n', f', c', s') => some (.inl (pc + 3, v.toList ++ rest, n', f', cs + c', ss + s'))
      | (.inr x, n', f', c', s') => some (.inr (.inr x, n', f', cs + c', ss + s')) := by
  obtain ⟨o, n', f', c', s'⟩ := r0
  rcases o with v | x <;> simp [mj_fin, show n ≤ n' from h]
theorem my_st_static {lv' : List (Nat × Value)} {f : Nat → va_E} {C S cs ss cx : Nat} (hp : (mc_PO e.1 q.2.2.2.2.2.1).2.2.2.2.2.2.1 idx = some (0, mi, np, cx)) (hn : np ≤ st.length) (hw : my_wt (st.drop np) ≤ 24) (h3 : cs ≤ C ∧ ss ≤ S) (call : mj_CF) (r0 : mj_End) (hn' : κ.1 ≤ r0.2.1) (hc : call mi ((st.take np).reverse.map my_v) κ.1 f (C - cs) (S - ss) = some r0) : mj_step mc_PT mc_MT d mc_TY mc_cm mc_ty (mc_PO e.1 q.2.2.2.2.2.1) call C S q (.invokestatic idx) pc lv' (st.map my_v) κ.1 f cs ss = match r0 with
      | (.inl v, n', f', c', s') => some (.inl (pc + 3, lv', v.toList ++ (st.drop np).map my_v, n', f', cs + c', ss + s'))
      | (.inr x, n', f', c', s') => some (.inr (.inr x, n', f', cs + c', ss + s')) := by
  have e1 : mj_g7 call (mc_PO e.1 q.2.2.2.2.2.1).2.2.2.2.2.2.1 C S (.invokestatic idx) pc (st.map my_v) κ.1 f cs ss = mj_fin pc κ.1 cs ss ((st.drop np).map my_v) (some r0) := by
    simp only [mj_g7, hp]
    rw [if_pos ⟨⟨by simpa using hn, by rw [← List.map_drop, my_wt_ok]; exact hw⟩, h3⟩, ← List.map_drop, ← List.map_take, ← List.map_reverse, hc]
  rw [my_fin hn'] at e1
  obtain ⟨o, n', f', c', s'⟩ := r0
  rcases o with v | x
  · simp only at e1 ⊢
    simp [mj_step, mj_sw, mj_g1a, mj_g4, mj_g1d, mj_bin, mj_binL, e1]
  · simp only at e1 ⊢
    simp [mj_step, mj_sw, mj_g1a, mj_g4, mj_g1d, mj_bin, mj_binL, e1]
theorem my_st_virtual {lv' : List (Nat × Value)} {f : Nat → va_E} {C S cs ss a : Nat} {fs : List Value} (hp : (mc_PO e.1 q.2.2.2.2.2.1).2.2.2.2.2.2.1 idx = some (1, mi, np, ci)) (hn : np ≤ st.length) (hd : st.drop np = .inr (.inr (some a)) :: r) (hw : my_wt r ≤ 24) (ha : a < κ.1) (hf : f a = .inr (ci, fs)) (h3 : cs ≤ C ∧ ss ≤ S) (call : mj_CF) (r0 : mj_End) (hn' : κ.1 ≤ r0.2.1) (hc : call mi (((.inr (.inr (some a)) :: (st.take np).reverse : List my_V)).map my_v) κ.1 f (C - cs) (S - ss) = some r0) : mj_step mc_PT mc_MT d mc_TY mc_cm mc_ty (mc_PO e.1 q.2.2.2.2.2.1) call C S q (.invokevirtual idx) pc lv' (st.map my_v) κ.1 f cs ss = match r0 with
      | (.inl v, n', f', c', s') => some (.inl (pc + 3, lv', v.toList ++ r.map my_v, n', f', cs + c', ss + s'))
      | (.inr x, n', f', c', s') => some (.inr (.inr x, n', f', cs + c', ss + s')) := by
  have e1 : mj_g7 call (mc_PO e.1 q.2.2.2.2.2.1).2.2.2.2.2.2.1 C S (.invokevirtual idx) pc (st.map my_v) κ.1 f cs ss = mj_fin pc κ.1 cs ss (r.map my_v) (some r0) := by
    have e2 : (st.map my_v).drop np = .ref a :: r.map my_v := by rw [← List.map_drop, hd]; rfl
    have e3 : call mi (.ref a :: ((st.map my_v).take np).reverse) κ.1 f (C - cs) (S - ss) = some r0 := by
      rw [← hc, List.map_cons, ← List.map_take, ← List.map_reverse]; rfl
    simp only [mj_g7, hp, e2]
    rw [if_pos ⟨⟨by simpa using hn, by rw [my_wt_ok]; exact hw⟩, h3, ha⟩]
    simp only [hf, if_true, e3]
  rw [my_fin hn'] at e1
  obtain ⟨o, n', f', c', s'⟩ := r0
  rcases o with v | x
  · simp only at e1 ⊢
    simp [mj_step, mj_sw, mj_g1a, mj_g4, mj_g1d, mj_bin, mj_binL, e1]
  · simp only at e1 ⊢
    simp [mj_step, mj_sw, mj_g1a, mj_g4, mj_g1d, mj_bin, mj_binL, e1]
theorem my_W_max {x y : Int32} {b : Bool} (hat : mj_at q.2.2.2.2.1 pc = some (.invokestatic idx)) (hp : (mc_PO e.1 q.2.2.2.2.2.1).2.2.2.2.2.2.1 idx = none) (hm : mj_gm mc_MT (mc_PO e.1 q.2.2.2.2.2.1).1 (.invokestatic idx) pc (.int y :: .int x :: st.map my_v) = some (pc + 3, .int (if b then (if x < y then y else x) else (if y < x then y else x)) :: st.map my_v)) (h : my_W e d q (pc + 3) lv (.inl (if b then (if x < y then y else x) else (if y < x then y else x)) :: st) κ σ Q) : my_W e d q pc lv (.inl y :: .inl x :: st) κ σ Q :=
  my_W_step hat (fun lv' f C S cs ss h1 h2 h3 => ⟨lv', f, h1, h2, fun call => by
    have e1 : mj_g7 call (mc_PO e.1 q.2.2.2.2.2.1).2.2.2.2.2.2.1 C S (.invokestatic idx) pc (.int y :: .int x :: st.map my_v) κ.1 f cs ss = none := by simp [mj_g7, hp]
    have e2 : my_v (.inl y) = .int y := rfl
    have e3 : my_v (.inl x) = .int x := rfl
    simp only [List.map_cons, e2, e3]
    simp [mj_step, mj_sw, mj_g1a, mj_g4, mj_g1d, mj_bin, mj_binL, e1, mj_g2, mj_g1b, mj_g8, mj_g1c, mj_g3, mj_g6, mj_gt, mj_g5, mj_g9, mj_gx, hm, h3.1, h3.2, my_v]⟩) h
/-- an exception is made and thrown -/
theorem my_W_throw {z k : Nat} (hh : q.2.2.2.2.2.2.2 = []) (hat : mj_at q.2.2.2.2.1 pc = some (.new idx)) (hgt : ∀ (C S : Nat) (f : Nat → va_E) (cs ss : Nat), (cs + 1 ≤ C ∧ ss + z ≤ S) → mj_gt mc_PT mc_cm (mc_PO e.1 q.2.2.2.2.2.1).1 (mc_PO e.1 q.2.2.2.2.2.1).2.2.1 (mc_PO e.1 q.2.2.2.2.2.1).2.2.2.2.2.2.2.1 q.2.2.2.2.1 d C S (.new idx) pc κ.1 f cs ss (st.map my_v) = some (k, κ.1 + 1, va_up f κ.1 (.inr (ci, [])), cs + 1, ss + z, .ref κ.1 :: st.map my_v)) (hat2 : mj_at q.2.2.2.2.1 k = some .athrow) (h1 : 1 ≤ κ.2.1) (h2 : z ≤ κ.2.2) (h : Q (.inr (κ.1, ci)) (κ.1 + 1, κ.2.1 - 1, κ.2.2 - z) σ) : my_W e d q pc lv st κ σ Q := by
  intro lv' f C S cs ss a1 a2 a3 a4
  have b1 : cs + 1 ≤ C := by omega
  have b2 : ss + z ≤ S := by omega
  refine ⟨.inr κ.1, κ.1 + 1, va_up f κ.1 (.inr (ci, [])), cs + 1, ss + z, .inr (κ.1, ci), σ, ?_, ⟨Nat.le_succ _, b1, b2⟩, my_rep_new a2, ⟨rfl, ⟨a2.1.1, Nat.lt_succ_self _⟩, [], va_up_self _ _ _⟩, ?_⟩
  · refine mc_R.step (pc' := k) (lv' := lv') (st' := .ref κ.1 :: st.map my_v) (n' := κ.1 + 1) (f' := va_up f κ.1 (.inr (ci, []))) (cs' := cs + 1) (ss' := ss + z) hat (fun call => ?_) (mc_R.throws hh hat2 (fun call => ?_))
    · simp [mj_step, mj_sw, mj_g1a, mj_g4, mj_g1d, mj_bin, mj_binL, mj_g7, mj_g2, mj_g1b, mj_g8, mj_g1c, mj_g3, mj_g6, hgt C S f cs ss ⟨b1, b2⟩]
    · simp [mj_step, mj_sw, mj_g1a, mj_g4, mj_g1d, mj_bin, mj_binL, mj_g7, mj_g2, mj_g1b, mj_g8]
  · have c1 : κ.2.1 - 1 = C - (cs + 1) := by omega
    have c2 : κ.2.2 - z = S - (ss + z) := by omega
    rw [← c1, ← c2]
    exact h
end MYC
