/-! ===== the program's run by the small machine: what is known beside, and that it goes on holding ===== -/
def mc_PT : List (String × Nat × Nat) := [("SuiteKeeper", 73, 14), ("SuiteKeeper", 84, 16), ("SuiteKeeper", 208, 15), ("SuiteKeeper", 223, 17), ("SuiteKeeper", 372, 13), ("SuiteKeeper$Reader", 62, 13)]
def mc_MT : List (String × Nat × Bool) := [("java/lang/StringLatin1", 92, true), ("java/lang/StringLatin1", 38, false), ("SuiteKeeper$Reader", 303, false), ("SuiteKeeper$Log", 111, false), ("SuiteKeeper$Crew", 55, true), ("SuiteKeeper$Machine", 171, true), ("SuiteKeeper$Store", 186, true), ("SuiteKeeper$Store", 200, false)]
/-- the kinds of what is made -/
def mc_cm : List vw_C := mc_cl.take 18
theorem mc_sub : mj_sub mc_cm mc_cl := by
  refine ⟨fun c q h => ?_, fun c q he h => ?_⟩
  · unfold mc_cm at h
    rw [List.getElem?_take] at h
    split at h
    · exact h
    · cases h
  · unfold mc_cm
    rw [List.getElem?_take, if_pos]
    · exact h
    · simp only [mj_ex, Bool.and_eq_true, decide_eq_true_eq] at he
      omega
/-- a run of the method mi -/
def mc_run (fv : Value) (fuel d mi : Nat) (av : List Value) (n : Nat) (f : Nat → va_E) (C S : Nat) : Option mj_End := mj_call mc_PT mc_MT mc_TY mc_cm mc_ty (mc_PO fv) mc_PR fuel d mi av n f C S
def mc_b0 : List Int32 := [103, 108, 111, 98, 97, 108, 32, 97, 114, 114, 97, 121, 32, 102, 117, 110, 99, 32, 112, 114, 111, 99, 32, 116, 101, 115, 116, 32, 105, 110, 116, 32, 98, 111, 111, 108, 32, 108, 101, 116, 32, 105, 102, 32, 101, 108, 115, 101, 32, 119, 104, 105, 108, 101, 32, 98, 114, 101, 97, 107, 32, 99, 111, 110, 116, 105, 110, 117, 101, 32, 114, 101, 116, 117, 114, 110, 32, 99, 104, 101, 99, 107, 32, 116, 114, 117, 101, 32, 102, 97, 108, 115, 101, 32]
def mc_b1 : List Int32 := [40, 41, 123, 125, 91, 93, 44, 59, 58, 61, 60, 43, 45, 42, 47, 37, 38, 124, 33]
def mc_b2 : List Int32 := [105, 110, 116, 32, 116, 114, 117, 101, 32, 102, 97, 108, 115, 101, 32, 108, 111, 99, 97, 108, 32, 115, 101, 116, 32, 114, 101, 97, 100, 32, 119, 114, 105, 116, 101, 32, 99, 101, 108, 108, 32, 112, 117, 116, 32, 99, 97, 108, 108, 32, 103, 105, 118, 101, 32, 114, 101, 116, 117, 114, 110, 32, 101, 110, 100, 32, 106, 117, 109, 112, 32, 117, 110, 108, 101, 115, 115, 32, 114, 111, 117, 110, 100, 32, 99, 104, 101, 99, 107, 32, 100, 114, 111, 112, 32, 109, 105, 110, 117, 115, 32, 110, 111, 116, 32, 111, 114, 32, 97, 110, 100, 32, 115, 97, 109, 101, 32, 117, 110, 108, 105, 107, 101, 32, 98, 101, 108, 111, 119, 32, 109, 111, 115, 116, 32, 112, 108, 117, 115, 32, 108, 101, 115, 115, 32, 116, 105, 109, 101, 115, 32, 111, 118, 101, 114, 32, 114, 101, 115, 116]
def mc_w : List Int32 := [0, 4, 0, 0, 1, 1, 1, 1, 1, 1, 1, 0, 0, 0, 2, 2, 0, 1, 0, 0, 0, 0, 0, 0, 0, 0, 0, 0, 0, 0, 0, 0]
/-- the things outside: the script, three texts and their bytes, WIDTHS -/
def mc_fx (L : Nat) (xs : Nat → Int32) : Nat → va_E := fun k => match k with
  | 0 => .inl (0, L, .inl xs)
  | 1 => .inr (18, [.ref 28, .int 0])
  | 2 => .inr (18, [.ref 29, .int 0])
  | 13 => .inr (18, [.ref 30, .int 0])
  | 27 => .inl (0, 32, .inl fun j => mc_w.getD j 0)
  | 28 => .inl (1, 94, .inl fun j => mc_b0.getD j 0)
  | 29 => .inl (1, 19, .inl fun j => mc_b1.getD j 0)
  | 30 => .inl (1, 160, .inl fun j => mc_b2.getD j 0)
  | _ => .inr (99, [])
/-- words of the tables, one by one -/
theorem mj_word {c : Cond} (hc : (c.onTables && c.keepsFace) = true) {A A' : Array Value} {s U : State} (hW : s.WarmedH U.vm) (h : c.before A s = true) : c.before A' U = true := by
  obtain ⟨h1, h2⟩ := Bool.and_eq_true_iff.mp hc
  exact va_tabs h1 (rfl : (s.setVm U.vm).vm = U.vm) (Cond.rides hW.wide h2 h)
theorem mj_Wm1 : ∀ w ∈ mj_Ts, ∀ s U : State, s.WarmedH U.vm → (∀ A : Array Value, w.before A s = true) → ∀ A : Array Value, w.before A U = true := by
  intro w hw s U hW h A
  have hk : mj_wk w = true := (List.mem_filter.mp hw).2
  cases w <;> first | (exact absurd (show false = true from hk) (by decide)) | (exact word_at hW (good_of_word rfl) (h A)) | (exact va_Nw.use rfl (va_Nw.warmF hW (va_Nw.of rfl (h A)))) | (exact va_Nw.use rfl (va_Nw.warmM hW (va_Nw.of rfl (h A)))) | (exact mj_word rfl hW (h A)) | (exact (Cond.arrayOver_setVmC (args := A) hW.alike _).trans (h A))
/-- the words that speak of the statics' cell -/
def mj_four : List Cond := [.isRef (.static Bundle.tN "UNASSIGNED_STACK" Bundle.steD), .isRef (.static Bundle.tN "SUPPRESSED_SENTINEL" Bundle.listD), .laysStatic Bundle.tN "UNASSIGNED_STACK" Bundle.steD, .laysStatic Bundle.tN "SUPPRESSED_SENTINEL" Bundle.listD]
theorem mj_tw_kind {own E : String} {ic ix : Nat} {bs : ByteArray} : ∀ w ∈ mj_tw own ic E ix bs, (w.onTables && w.keepsFace) = true ∨ w ∈ mj_four := by
  intro w hw
  simp only [mj_tw, List.mem_append] at hw
  rcases hw with ((hw | hw) | (hw | hw)) | hw
  · simp only [Bundle.throwableAtoms, List.mem_cons, List.not_mem_nil, or_false] at hw
    rcases hw with rfl | rfl | rfl | rfl | rfl | rfl | rfl | rfl | rfl | rfl | rfl | rfl | rfl | rfl | rfl | rfl | rfl | rfl | rfl | rfl | rfl | rfl | rfl | rfl <;> first | exact Or.inl rfl | exact Or.inr (by simp [mj_four])
  · exact Or.inl (List.all_eq_true.mp (show Bundle.throwableSAtoms.all (fun w => w.onTables && w.keepsFace) = true from rfl) w hw)
  · exact Or.inl (List.all_eq_true.mp (show (Bundle.passSAtoms E "java/lang/RuntimeException" ix bs).all (fun w => w.onTables && w.keepsFace) = true from rfl) w hw)
  · exact Or.inl (List.all_eq_true.mp (show (Bundle.chainSAtoms "java/lang/RuntimeException" ["java/lang/Exception"]).all (fun w => w.onTables && w.keepsFace) = true from rfl) w hw)
  · simp only [List.mem_cons, List.not_mem_nil, or_false] at hw
    rcases hw with rfl | rfl | rfl | rfl | rfl | rfl | rfl | rfl | rfl | rfl | rfl | rfl | rfl <;> first | exact Or.inl rfl | exact Or.inr (by simp [mj_four])
/-- the statics' cell goes on being laid -/
theorem mj_lays {C n d : String} {base : Nat} {s U : State} (hW : s.WarmedH U.vm) (hH : ∀ q : Nat, q < base → U.heap[q]? = s.heap[q]?) (hz : va_Zq C n d (mj_B base) s s.heap) {A A' : Array Value} (h : (Cond.laysStatic C n d).before A s = true) : (Cond.laysStatic C n d).before A' U = true := by
  have h1 : (Cond.laysStatic C n d).before A (s.setVm U.vm) = true := Cond.rides hW.wide rfl h
  obtain ⟨c, k, i, f, a, cell, hc, hi, hst, ha, hcell, hs, hcls, hlt, hty⟩ := Cond.laysStatic_spec h1
  have hi' : U.fieldFound? C n d = some (c, k, i, f) := hi
  have hc' : U.vm.findClass C = some c := hc
  have hz' := hz.moved hW.alike
  have hlow : a < base := by
    rcases hz' with hz' | ⟨t, hz'⟩ <;> obtain ⟨cf, kf, fi, f', a', cell', g1, g2, g3, g4, g5, g6, g7, g8⟩ := hz'
    · cases hi'.symm.trans g1
      cases ha.symm.trans g4
      exact Nat.not_le.mp g8
    · cases hi'.symm.trans g1
      cases ha.symm.trans g4
      exact Nat.not_le.mp g8
  have hcell' : U.heap[a]? = some cell := by rw [hH a hlow]; exact hcell
  simp [Cond.before, Cond.holds, Cond.value, hc', hi', ha, hcell', hst, hs, hcls, hlt, hty]
theorem mj_isRef {C n d : String} {A : Array Value} {B : Nat → Prop} {U : State} (h : va_Zq C n d B U U.heap) : (Cond.isRef (.static C n d)).before A U = true := by
  rcases h with h | ⟨t, h⟩ <;> obtain ⟨cf, kf, fi, f, a, cell, h1, h2, h3, h4, h5, h6, h7, h8⟩ := h <;> simp [Cond.before, Cond.holds, Cond.value, Term.eval, State.fieldNamed?, h1, h2, h4, h5, h6, h7]
/-- what is known of a state beside the words -/
def mc_XF (fv : Value) (ext : Nat → Nat) (fx : Nat → va_E) (base : Nat) (U : State) : Prop :=
  mj_XO mc_cl mc_TY mc_STR (mc_SG fv) mc_EXF ext fx base U ∧
  (va_Zq Bundle.tN "UNASSIGNED_STACK" Bundle.steD (mj_B base) U U.heap ∧ ∀ A : Array Value, (Cond.laysStatic Bundle.tN "UNASSIGNED_STACK" Bundle.steD).before A U = true) ∧
  (va_Zq Bundle.tN "SUPPRESSED_SENTINEL" Bundle.listD (mj_B base) U U.heap ∧ ∀ A : Array Value, (Cond.laysStatic Bundle.tN "SUPPRESSED_SENTINEL" Bundle.listD).before A U = true) ∧
  (∀ q ∈ mc_PT, ∀ k : vw_C, mc_cl[q.2.2]? = some k → Bundle.fit k.1 = true ∧ ∃ (ix : Nat) (bs : ByteArray), mj_pass ix bs ∧ ∀ A : Array Value, ∀ w ∈ mj_tw q.1 q.2.1 k.1 ix bs, (w.onTables && w.keepsFace) = true → w.before A U = true) ∧
  (mj_XP mc_cl [] mc_MT U)
theorem mc_XF_XO {fv : Value} {ext : Nat → Nat} {fx : Nat → va_E} {base : Nat} : ∀ U, mc_XF fv ext fx base U → mj_XO mc_cl mc_TY mc_STR (mc_SG fv) mc_EXF ext fx base U := fun _ h => h.1
theorem mc_XF_XP {fv : Value} {ext : Nat → Nat} {fx : Nat → va_E} {base : Nat} : ∀ U, mc_XF fv ext fx base U → mj_XP mc_cl mc_PT mc_MT U := by
  intro U hU
  obtain ⟨-, h2, h3, h4, h5⟩ := hU
  refine ⟨fun q hq k hk => ?_, h5.2⟩
  obtain ⟨g1, ix, bs, g2, g3⟩ := h4 q hq k hk
  refine ⟨g1, ix, bs, g2, fun A w hw => ?_⟩
  rcases mj_tw_kind w hw with hk | hk
  · exact g3 A w hw hk
  · simp only [mj_four, List.mem_cons, List.not_mem_nil, or_false] at hk
    rcases hk with rfl | rfl | rfl | rfl
    · exact mj_isRef h2.1
    · exact mj_isRef h3.1
    · exact h2.2 A
    · exact h3.2 A
theorem mc_Wm {fv : Value} {ext : Nat → Nat} {fx : Nat → va_E} {base : Nat} : mj_Wm base mj_Ts (mc_XF fv ext fx base) := by
  refine ⟨mj_Wm1, fun s U hW hH hX => ?_⟩
  have hkeep : ∀ a : Nat, a < s.heap.size → ¬ mj_B base a → U.heap[a]? = s.heap[a]? := fun a _ ha => hH a (Nat.not_le.mp ha)
  obtain ⟨⟨x1, x2, x3, x4, x5⟩, h2, h3, h4, -, h6, h7⟩ := hX
  refine ⟨⟨fun j q hq => (x1 j q hq).warm hW, x2, fun q hq => ((x3 q hq).moved hW.alike).kept hkeep, fun k t z g ty hk hf ht => ((x4 k t z g ty hk hf ht).moved hW.alike).kept hkeep, fun k ci fs hk hf => ⟨fun q hq => (((x5 k ci fs hk hf).1 q hq).moved hW.alike).kept hkeep, fun j v o n d hj he => (((x5 k ci fs hk hf).2 j v o n d hj he).moved hW.alike).kept hkeep⟩⟩, ⟨(h2.1.moved hW.alike).kept hkeep, fun A => mj_lays hW hH h2.1 (h2.2 A)⟩, ⟨(h3.1.moved hW.alike).kept hkeep, fun A => mj_lays hW hH h3.1 (h3.2 A)⟩, ?_, ?_, ?_, ?_⟩
  · intro q hq k hk
    obtain ⟨g1, ix, bs, g2, g3⟩ := h4 q hq k hk
    exact ⟨g1, ix, bs, g2, fun A w hw hkd => mj_word hkd hW (g3 A w hw hkd)⟩
  · intro q hq
    cases hq
  · intro q hq A
    obtain ⟨g0, g1, g2⟩ := h6 q hq A
    refine ⟨mj_word rfl hW g0, fun hb => ?_, fun hb => ?_⟩
    · obtain ⟨a1, a2, a3⟩ := g1 hb
      exact ⟨mj_word rfl hW a1, mj_word rfl hW a2, mj_word rfl hW a3⟩
    · obtain ⟨a1, a2, a3⟩ := g2 hb
      exact ⟨mj_word rfl hW a1, mj_word rfl hW a2, mj_word rfl hW a3⟩
  · intro ci cj q r c c' h1 e1 e2 k1 k2 f1 f2
    rw [hW.alike.assignable]
    exact h7 ci cj q r c c' h1 e1 e2 k1 k2 (by rw [← hW.alike.findClass]; exact f1) (by rw [← hW.alike.findClass]; exact f2)
/-- a run of the program by the small machine is a contract of the machine -/
theorem mc_met {l : Launch} (hNT : ∀ e : Env, l.admits e → e.platform.stackTraces = false) {D : va_G} {tc : Nat → ClassId} {fv : Value} {ext : Nat → Nat} {fx : Nat → va_E} {base fuel d mi : Nat} {av : List Value} {n : Nat} {f : Nat → va_E} {C S : Nat} {out : mj_Out} {n' : Nat} {f' : Nat → va_E} {c' s' : Nat}
    (h : mc_run fv fuel d mi av n f C S = some (out, n', f', c', s')) {q : mj_Mi} (hq : mc_PR mi = some q) : mj_Met l D mc_cm tc mc_TY mj_Ts (mc_XF fv ext fx base) ext fx base d C S q av n f out n' f' c' s' :=
  mj_main mc_sub mc_XF_XO mc_XF_XP hNT mc_Wm (mc_Ok fv) d mi av n f C S out n' f' c' s' h q hq
