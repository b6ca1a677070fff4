/-! ===== runs of the program without fuel: rules ===== -/
theorem mj_dis_of {MT : List (String × Nat × Bool)} {po : mj_Po} (h : MT.all (fun q => !decide (q.1 = po.1) || (po.2.2.2.2.2.2.1 q.2.1).isNone) = true) : mj_dis MT po := by
  intro idx b hc
  have h1 := List.all_eq_true.mp h _ (List.contains_iff_mem.mp hc)
  simpa using h1
theorem mz_0 : mc_MT.all (fun q => !decide (q.1 = "SuiteKeeper") || (mj_fd (mo_0 ++ mm_0.map mj_eM) q.2.1).isNone) = true := by decide +kernel
theorem mz_1 : mc_MT.all (fun q => !decide (q.1 = "SuiteKeeper$Tokens") || (mj_fd (mo_1 ++ mm_1.map mj_eM) q.2.1).isNone) = true := by decide +kernel
theorem mz_2 : mc_MT.all (fun q => !decide (q.1 = "SuiteKeeper$Reader") || (mj_fd (mo_2 ++ mm_2.map mj_eM) q.2.1).isNone) = true := by decide +kernel
theorem mz_3 : mc_MT.all (fun q => !decide (q.1 = "SuiteKeeper$Listing") || (mj_fd (mo_3 ++ mm_3.map mj_eM) q.2.1).isNone) = true := by decide +kernel
theorem mz_4 : mc_MT.all (fun q => !decide (q.1 = "SuiteKeeper$Machine") || (mj_fd (mo_4 ++ mm_4.map mj_eM) q.2.1).isNone) = true := by decide +kernel
theorem mz_5 : mc_MT.all (fun q => !decide (q.1 = "SuiteKeeper$Crew") || (mj_fd (mo_5 ++ mm_5.map mj_eM) q.2.1).isNone) = true := by decide +kernel
theorem mz_6 : mc_MT.all (fun q => !decide (q.1 = "SuiteKeeper$Slot") || (mj_fd (mo_6 ++ mm_6.map mj_eM) q.2.1).isNone) = true := by decide +kernel
theorem mz_7 : mc_MT.all (fun q => !decide (q.1 = "SuiteKeeper$Store") || (mj_fd (mo_7 ++ mm_7.map mj_eM) q.2.1).isNone) = true := by decide +kernel
theorem mz_8 : mc_MT.all (fun q => !decide (q.1 = "SuiteKeeper$Log") || (mj_fd (mo_8 ++ mm_8.map mj_eM) q.2.1).isNone) = true := by decide +kernel
theorem mz_9 : mc_MT.all (fun q => !decide (q.1 = "SuiteKeeper$Outcome") || (mj_fd (mo_9 ++ mm_9.map mj_eM) q.2.1).isNone) = true := by decide +kernel
theorem mz_10 : mc_MT.all (fun q => !decide (q.1 = "SuiteKeeper$Revision") || (mj_fd (mo_10 ++ mm_10.map mj_eM) q.2.1).isNone) = true := by decide +kernel
theorem mz_11 : mc_MT.all (fun q => !decide (q.1 = "SuiteKeeper$Item") || (mj_fd (mo_11 ++ mm_11.map mj_eM) q.2.1).isNone) = true := by decide +kernel
theorem mz_12 : mc_MT.all (fun q => !decide (q.1 = "SuiteKeeperModel") || (mj_fd (mo_12 ++ mm_12.map mj_eM) q.2.1).isNone) = true := by decide +kernel
theorem mz_13 : mc_MT.all (fun q => !decide (q.1 = "java/lang/Math") || (mj_fd (mo_13 ++ mm_13.map mj_eM) q.2.1).isNone) = true := by decide +kernel
theorem mz_14 : mc_MT.all (fun q => !decide (q.1 = "SuiteKeeperLaw") || (mj_fd (mo_14 ++ mm_14.map mj_eM) q.2.1).isNone) = true := by decide +kernel
theorem mz_15 : mc_MT.all (fun q => !decide (q.1 = "java/lang/String") || (mj_fd (mo_15 ++ mm_15.map mj_eM) q.2.1).isNone) = true := by decide +kernel
theorem mz_16 : mc_MT.all (fun q => !decide (q.1 = "java/lang/StringLatin1") || (mj_fd (mo_16 ++ mm_16.map mj_eM) q.2.1).isNone) = true := by decide +kernel
theorem mz_17 : mc_MT.all (fun q => !decide (q.1 = "jdk/internal/util/Preconditions") || (mj_fd (mo_17 ++ mm_17.map mj_eM) q.2.1).isNone) = true := by decide +kernel
theorem mc_dis (fv : Value) : ∀ k : Nat, mj_dis mc_MT (mc_PO fv k)
  | 0 => mj_dis_of (po := mq_0 fv) mz_0
  | 1 => mj_dis_of (po := mq_1 fv) mz_1
  | 2 => mj_dis_of (po := mq_2 fv) mz_2
  | 3 => mj_dis_of (po := mq_3 fv) mz_3
  | 4 => mj_dis_of (po := mq_4 fv) mz_4
  | 5 => mj_dis_of (po := mq_5 fv) mz_5
  | 6 => mj_dis_of (po := mq_6 fv) mz_6
  | 7 => mj_dis_of (po := mq_7 fv) mz_7
  | 8 => mj_dis_of (po := mq_8 fv) mz_8
  | 9 => mj_dis_of (po := mq_9 fv) mz_9
  | 10 => mj_dis_of (po := mq_10 fv) mz_10
  | 11 => mj_dis_of (po := mq_11 fv) mz_11
  | 12 => mj_dis_of (po := mq_12 fv) mz_12
  | 13 => mj_dis_of (po := mq_13 fv) mz_13
  | 14 => mj_dis_of (po := mq_14 fv) mz_14
  | 15 => mj_dis_of (po := mq_15 fv) mz_15
  | 16 => mj_dis_of (po := mq_16 fv) mz_16
  | 17 => mj_dis_of (po := mq_17 fv) mz_17
  | k + 18 => mj_dis_of (po := mq_0 fv) mz_0
/-- the method mi comes to r -/
def mc_Ret (fv : Value) (d mi : Nat) (av : List Value) (n : Nat) (f : Nat → va_E) (C S : Nat) (r : mj_End) : Prop := ∃ fuel : Nat, mc_run fv fuel d mi av n f C S = some r
/-- within the method q, from pc on, it comes to r -/
def mc_R (fv : Value) (d : Nat) (q : mj_Mi) (C S pc : Nat) (lv : List (Nat × Value)) (st : List Value) (n : Nat) (f : Nat → va_E) (cs ss : Nat) (r : mj_End) : Prop := ∃ fuel k : Nat, mj_loop mc_PT mc_MT d mc_TY mc_cm mc_ty (mc_PO fv q.2.2.2.2.2.1) (mj_call mc_PT mc_MT mc_TY mc_cm mc_ty (mc_PO fv) mc_PR fuel d) C S q k pc lv st n f cs ss = some r
section MJR
variable {fv : Value} {d mi : Nat} {q : mj_Mi} {C S pc pc' : Nat} {lv lv' : List (Nat × Value)} {st st' av : List Value} {n n' : Nat} {f f' : Nat → va_E} {cs ss cs' ss' : Nat} {r r0 : mj_End} {i : Instr}
theorem mc_Ret.up (h : mc_Ret fv d mi av n f C S r) : ∃ k : Nat, ∀ fuel, k ≤ fuel → mc_run fv fuel d mi av n f C S = some r := by
  obtain ⟨k, h⟩ := h
  exact ⟨k, fun fuel hk => mj_call_mono (mc_dis fv) hk d mi av n f C S r h⟩
theorem mc_Ret.uniq (h : mc_Ret fv d mi av n f C S r) (h0 : mc_Ret fv d mi av n f C S r0) : r = r0 := by
  obtain ⟨k, h⟩ := h.up
  obtain ⟨k0, h0⟩ := h0.up
  exact Option.some.inj ((h (max k k0) (Nat.le_max_left _ _)).symm.trans (h0 (max k k0) (Nat.le_max_right _ _)))
theorem mc_R.up (h : mc_R fv d q C S pc lv st n f cs ss r) : ∃ K : Nat, ∀ fuel k, K ≤ fuel → K ≤ k → mj_loop mc_PT mc_MT d mc_TY mc_cm mc_ty (mc_PO fv q.2.2.2.2.2.1) (mj_call mc_PT mc_MT mc_TY mc_cm mc_ty (mc_PO fv) mc_PR fuel d) C S q k pc lv st n f cs ss = some r := by
  obtain ⟨a, b, h⟩ := h
  exact ⟨max a b, fun fuel k h1 h2 => mj_loop_mono (mc_dis fv _) (mj_call_mono (mc_dis fv) (Nat.le_trans (Nat.le_max_left a b) h1) d) b k pc lv st n f cs ss (Nat.le_trans (Nat.le_max_right a b) h2) h⟩
theorem mc_R.step (hat : mj_at q.2.2.2.2.1 pc = some i) (hs : ∀ call : mj_CF, mj_step mc_PT mc_MT d mc_TY mc_cm mc_ty (mc_PO fv q.2.2.2.2.2.1) call C S q i pc lv st n f cs ss = some (.inl (pc', lv', st', n', f', cs', ss'))) (h : mc_R fv d q C S pc' lv' st' n' f' cs' ss' r) : mc_R fv d q C S pc lv st n f cs ss r := by
  obtain ⟨fuel, k, h⟩ := h
  refine ⟨fuel, k + 1, ?_⟩
  unfold mj_loop
  rw [hat]
  simp only [hs]
  exact h
theorem mc_R.ends {v : Option Value} (hat : mj_at q.2.2.2.2.1 pc = some i) (hs : ∀ call : mj_CF, mj_step mc_PT mc_MT d mc_TY mc_cm mc_ty (mc_PO fv q.2.2.2.2.2.1) call C S q i pc lv st n f cs ss = some (.inr (.inl v, n', f', cs', ss'))) : mc_R fv d q C S pc lv st n f cs ss (.inl v, n', f', cs', ss') := by
  refine ⟨0, 1, ?_⟩
  unfold mj_loop
  rw [hat]
  simp only [hs]
theorem mc_R.throws {x : Nat} (hh : q.2.2.2.2.2.2.2 = []) (hat : mj_at q.2.2.2.2.1 pc = some i) (hs : ∀ call : mj_CF, mj_step mc_PT mc_MT d mc_TY mc_cm mc_ty (mc_PO fv q.2.2.2.2.2.1) call C S q i pc lv st n f cs ss = some (.inr (.inr x, n', f', cs', ss'))) : mc_R fv d q C S pc lv st n f cs ss (.inr x, n', f', cs', ss') := by
  refine ⟨0, 1, ?_⟩
  unfold mj_loop
  rw [hat]
  simp only [hs]
  rw [hh]
theorem mc_R.call (hat : mj_at q.2.2.2.2.1 pc = some i) (hc : mc_Ret fv d mi av n f (C - cs) (S - ss) r0) (hs : ∀ call : mj_CF, call mi av n f (C - cs) (S - ss) = some r0 → mj_step mc_PT mc_MT d mc_TY mc_cm mc_ty (mc_PO fv q.2.2.2.2.2.1) call C S q i pc lv st n f cs ss = some (.inl (pc', lv', st', n', f', cs', ss'))) (h : mc_R fv d q C S pc' lv' st' n' f' cs' ss' r) : mc_R fv d q C S pc lv st n f cs ss r := by
  obtain ⟨k0, hc⟩ := hc.up
  obtain ⟨k1, h⟩ := h.up
  refine ⟨max k0 k1, k1 + 1, ?_⟩
  unfold mj_loop
  rw [hat]
  have e1 := hs (mj_call mc_PT mc_MT mc_TY mc_cm mc_ty (mc_PO fv) mc_PR (max k0 k1) d) (hc _ (Nat.le_max_left k0 k1))
  simp only [e1]
  exact h _ _ (Nat.le_max_right k0 k1) (Nat.le_refl _)
theorem mc_Ret.of (hq : mc_PR mi = some q) (hsz : (lg_sl av).length ≤ q.2.2.1) (h : mc_R fv d q C S 0 (lv_args 0 av) [] n f 0 0 r) : mc_Ret fv (d + 1) mi av n f C S r := by
  obtain ⟨K, h⟩ := h.up
  refine ⟨K, ?_⟩
  unfold mc_run mj_call
  rw [hq]
  simp only
  rw [if_pos hsz]
  exact h K K (Nat.le_refl _) (Nat.le_refl _)
end MJR
