/-! ===== the law's start: what the small machine needs holds there ===== -/
theorem mj_anyA {w : Cond} (hw : w ∈ mj_Ts) {s : State} {A0 : Array Value} (h : w.before A0 s = true) (A : Array Value) : w.before A s = true := by
  have hk : mj_wk w = true := (List.mem_filter.mp hw).2
  cases w <;> first | (exact absurd (show false = true from hk) (by decide)) | (exact va_tabs rfl rfl h) | (exact h)
theorem mc_words {s : State} {A0 : Array Value} (hts : ∀ w ∈ lw_tbl, w.before A0 s = true) : ∀ w ∈ mj_Ts, ∀ A : Array Value, w.before A s = true := fun w hw A => mj_anyA hw (hts w (List.mem_filter.mp hw).1) A
theorem mj_tyP {s : State} {ty : FieldType} (h : (Cond.arrayClass ty).before #[] s = true) : ∃ cA : ClassId, ArrOfT s cA ty ∧ s.vm.findClass ("[" ++ ty.toString) = some cA := by
  obtain ⟨cA, kA, comp, a1, a2, a3⟩ := Cond.arrayClass_spec h
  exact ⟨cA, fun n z => ⟨fun k h => (by cases h), kA, a2, comp, a3⟩, a1⟩
theorem mj_tyO {s : State} {C : String} (h : (Cond.arrayOver (.object C)).before #[] s = true) : ∃ cA : ClassId, ArrOfT s cA (.object C) ∧ va_RA s cA (.object C) := by
  obtain ⟨comp, cA, k, a1, a2, a3, a4, a5⟩ := Cond.arrayOver_spec h
  exact ⟨cA, fun n z => ⟨fun k h => (by cases h), k, a3, comp, a4⟩, k, comp, a3, a4, a1, a5⟩
theorem mc_Mall : ∀ c : Nat, c < 18 → ∃ z : Nat, (c, z) ∈ mc_M := by
  intro c hc
  match c, hc with
  | 0, _ => exact ⟨_, List.mem_of_getElem? (i := 0) rfl⟩
  | 1, _ => exact ⟨_, List.mem_of_getElem? (i := 1) rfl⟩
  | 2, _ => exact ⟨_, List.mem_of_getElem? (i := 2) rfl⟩
  | 3, _ => exact ⟨_, List.mem_of_getElem? (i := 3) rfl⟩
  | 4, _ => exact ⟨_, List.mem_of_getElem? (i := 4) rfl⟩
  | 5, _ => exact ⟨_, List.mem_of_getElem? (i := 5) rfl⟩
  | 6, _ => exact ⟨_, List.mem_of_getElem? (i := 6) rfl⟩
  | 7, _ => exact ⟨_, List.mem_of_getElem? (i := 7) rfl⟩
  | 8, _ => exact ⟨_, List.mem_of_getElem? (i := 8) rfl⟩
  | 9, _ => exact ⟨_, List.mem_of_getElem? (i := 9) rfl⟩
  | 10, _ => exact ⟨_, List.mem_of_getElem? (i := 10) rfl⟩
  | 11, _ => exact ⟨_, List.mem_of_getElem? (i := 11) rfl⟩
  | 12, _ => exact ⟨_, List.mem_of_getElem? (i := 12) rfl⟩
  | 13, _ => exact ⟨_, List.mem_of_getElem? (i := 13) rfl⟩
  | 14, _ => exact ⟨_, List.mem_of_getElem? (i := 14) rfl⟩
  | 15, _ => exact ⟨_, List.mem_of_getElem? (i := 15) rfl⟩
  | 16, _ => exact ⟨_, List.mem_of_getElem? (i := 16) rfl⟩
  | 17, _ => exact ⟨_, List.mem_of_getElem? (i := 17) rfl⟩
  | n + 18, h => omega
theorem mc_K {s : State} (hts : ∀ w ∈ mj_Ts, ∀ A : Array Value, w.before A s = true) : ∃ (D : va_G) (tc : Nat → ClassId), va_K D mc_cm (mj_tys mc_TY tc) s := by
  have h1 : ∀ c : Nat, ∃ d : ClassId × (Nat → Nat), ∀ q : vw_C, mc_cm[c]? = some q → u_Kn s q.1 q.2.1 q.2.2 d.1 d.2 := by
    intro c
    cases hq : mc_cm[c]? with
    | none => exact ⟨(0, fun _ => 0), fun q h => by cases h⟩
    | some q =>
      have hc := mc_sub.1 c q hq
      have hlt : c < 18 := by
        have h9 := (List.getElem?_eq_some_iff.mp hq).1
        have h8 : mc_cm.length ≤ 18 := List.length_take_le 18 mc_cl
        omega
      obtain ⟨z, hz⟩ := mc_Mall c hlt
      obtain ⟨k, hk, w1, -⟩ := mc_MM _ hz
      cases hc.symm.trans hk
      obtain ⟨cC, iS, h⟩ := u_known (ws := mj_Ts) (args := #[]) (fun w hw => hts w hw #[]) (mc_CL c _ hc).1 (hts _ w1 #[])
      exact ⟨(cC, iS), fun q' h' => by cases h'; exact h⟩
  have h2 : ∀ t : Nat, ∃ cA : ClassId, ∀ ty, mc_TY[t]? = some ty → ArrOfT s cA ty ∧ va_RA s cA ty := by
    intro t
    match t with
    | 0 =>
      obtain ⟨cA, a1, a2⟩ := mj_tyP (hts _ (mc_AC .int (by decide)) #[])
      exact ⟨cA, fun ty h => by cases h; exact ⟨a1, a2⟩⟩
    | 1 =>
      obtain ⟨cA, a1, a2⟩ := mj_tyP (hts _ (mc_AC .byte (by decide)) #[])
      exact ⟨cA, fun ty h => by cases h; exact ⟨a1, a2⟩⟩
    | 2 =>
      obtain ⟨cA, a1, a2⟩ := mj_tyP (hts _ (mc_AC .long (by decide)) #[])
      exact ⟨cA, fun ty h => by cases h; exact ⟨a1, a2⟩⟩
    | 3 =>
      obtain ⟨cA, a1, a2⟩ := mj_tyP (hts _ (mc_AC .boolean (by decide)) #[])
      exact ⟨cA, fun ty h => by cases h; exact ⟨a1, a2⟩⟩
    | 4 =>
      obtain ⟨cA, a1, a2⟩ := mj_tyO (hts _ mcO_SuiteKeeper_Item #[])
      exact ⟨cA, fun ty h => by cases h; exact ⟨a1, a2⟩⟩
    | 5 =>
      obtain ⟨cA, a1, a2⟩ := mj_tyO (hts _ mcO_SuiteKeeper_Slot #[])
      exact ⟨cA, fun ty h => by cases h; exact ⟨a1, a2⟩⟩
    | 6 =>
      obtain ⟨cA, a1, a2⟩ := mj_tyO (hts _ mcO_SuiteKeeper_Log #[])
      exact ⟨cA, fun ty h => by cases h; exact ⟨a1, a2⟩⟩
    | k + 7 => exact ⟨0, fun ty h => by simp [mc_TY] at h⟩
  obtain ⟨d, hd⟩ := Classical.axiomOfChoice h1
  obtain ⟨tc, htc⟩ := Classical.axiomOfChoice h2
  refine ⟨(fun c => (d c).1, fun c => (d c).2), tc, fun c q hq => hd c q hq, fun k q hk => ?_⟩
  simp only [mj_tys, List.getElem?_map, Option.map_eq_some_iff] at hk
  obtain ⟨y, hy, rfl⟩ := hk
  rw [List.getElem?_zipIdx] at hy
  simp only [Option.map_eq_some_iff] at hy
  obtain ⟨ty, hty, rfl⟩ := hy
  simpa using htc k ty hty
theorem mj_strR {own tx : String} {k : Nat} {A : Array Value} {s : State} (h : (Cond.stringRef own k tx).before A s = true) : ∃ a : Nat, vk_R own k tx a s := by
  have hcur : ∃ cur, s.vm.findClass own = some cur := by
    have h1 := h
    simp only [Cond.before, Cond.holds, Cond.value] at h1
    cases hc : s.vm.findClass own with
    | none => simp [hc] at h1
    | some cur => exact ⟨cur, rfl⟩
  obtain ⟨cur, hcur⟩ := hcur
  obtain ⟨k', cf, i, a', hk, hcf, hcp, -, hr, hev⟩ := Cond.stringRef_spec hcur h
  exact ⟨a', vk_R.of h hev⟩
theorem mc_strs : mc_STR.all (fun q => lw_tbl.contains (Cond.stringRef q.1 q.2.1 q.2.2)) = true := by decide +kernel
theorem mj_tw_in {own E : String} {ic ix : Nat} {bs : ByteArray} {p sk : List Nat} (h0 : sk.length = p.length) (h1 : mj_seq (sk.zip (p.map fun i => (mj_tw own ic E ix bs).getD i .tt)) lw_tbl = true) (h2 : (mj_tw own ic E ix bs).all (fun w => !(w.onTables && w.keepsFace) || (p.map fun i => (mj_tw own ic E ix bs).getD i .tt).contains w) = true) : ∀ w ∈ mj_tw own ic E ix bs, (w.onTables && w.keepsFace) = true → w ∈ lw_tbl := by
  intro w hw hk
  have h3 := List.all_eq_true.mp h2 w hw
  rw [hk] at h3
  have h4 : w ∈ (p.map fun i => (mj_tw own ic E ix bs).getD i .tt) := List.contains_iff_mem.mp (by simpa using h3)
  obtain ⟨j, hj⟩ := List.mem_iff_getElem?.mp h4
  have hjl : j < p.length := by
    have h9 := (List.getElem?_eq_some_iff.mp hj).1
    simpa using h9
  have h9 : (sk.zip (p.map fun i => (mj_tw own ic E ix bs).getD i .tt))[j]? = some (sk[j]'(by omega), w) := by
    rw [List.getElem?_zip_eq_some]
    exact ⟨by simp, hj⟩
  exact mj_seq_mem _ _ h1 _ (List.mem_of_getElem? h9)
def mw_ns : ByteArray := ⟨#[0x2a, 0x2b, 0xb7, 0x00, 0x0d, 0xb1]⟩
set_option maxRecDepth 100000 in
theorem mw_0 : ∀ w ∈ mj_tw "SuiteKeeper" 73 "java/lang/IllegalArgumentException" 7 Bundle.six, (w.onTables && w.keepsFace) = true → w ∈ lw_tbl := mj_tw_in (p := [0, 8, 9, 32, 37, 42, 14, 16, 18, 23, 54, 53, 1, 6, 7, 10, 19, 20, 21, 22, 11, 2, 46, 3, 12, 4, 5, 31, 34, 35, 36, 39, 40, 24, 25, 26, 13, 15, 17, 44, 45, 47, 48, 49, 50, 55, 43, 28, 29, 30]) (sk := [244, 15, 0, 751, 1, 1, 3, 1, 1, 1, 1, 0, 0, 0, 0, 0, 0, 0, 0, 0, 0, 0, 1, 3, 0, 1, 1, 5, 0, 0, 0, 0, 0, 0, 0, 1, 0, 0, 0, 242, 1, 0, 0, 0, 0, 0, 1, 0, 0, 0]) (by decide) (by decide +kernel) (by decide +kernel)
set_option maxRecDepth 100000 in
theorem mw_1 : ∀ w ∈ mj_tw "SuiteKeeper" 84 "java/lang/UnsupportedOperationException" 7 Bundle.six, (w.onTables && w.keepsFace) = true → w ∈ lw_tbl := mj_tw_in (p := [0, 8, 9, 32, 37, 42, 14, 16, 18, 23, 54, 53, 1, 6, 7, 10, 19, 20, 21, 22, 11, 2, 46, 3, 12, 4, 5, 31, 34, 35, 36, 39, 40, 24, 25, 26, 13, 15, 17, 44, 45, 47, 48, 49, 50, 55, 43, 28, 29, 30]) (sk := [244, 15, 0, 751, 1, 1, 3, 1, 1, 1, 1, 0, 0, 0, 0, 0, 0, 0, 0, 0, 0, 0, 3, 1, 0, 1, 1, 5, 0, 0, 0, 0, 0, 0, 0, 1, 0, 0, 0, 258, 1, 0, 0, 0, 0, 0, 1, 0, 0, 0]) (by decide) (by decide +kernel) (by decide +kernel)
set_option maxRecDepth 100000 in
theorem mw_2 : ∀ w ∈ mj_tw "SuiteKeeper" 208 "java/lang/IndexOutOfBoundsException" 7 Bundle.six, (w.onTables && w.keepsFace) = true → w ∈ lw_tbl := mj_tw_in (p := [0, 8, 9, 32, 37, 42, 14, 16, 18, 23, 54, 53, 1, 6, 7, 10, 19, 20, 21, 22, 11, 2, 46, 3, 12, 4, 5, 31, 34, 35, 36, 39, 40, 24, 25, 26, 13, 15, 17, 44, 45, 47, 48, 49, 50, 55, 43, 28, 29, 30]) (sk := [244, 15, 0, 751, 1, 1, 3, 1, 1, 1, 1, 0, 0, 0, 0, 0, 0, 0, 0, 0, 0, 0, 2, 2, 0, 1, 1, 5, 0, 0, 0, 0, 0, 0, 0, 1, 0, 0, 0, 392, 1, 0, 0, 0, 0, 0, 1, 0, 0, 0]) (by decide) (by decide +kernel) (by decide +kernel)
set_option maxRecDepth 100000 in
theorem mw_3 : ∀ w ∈ mj_tw "SuiteKeeper" 223 "java/util/NoSuchElementException" 13 mw_ns, (w.onTables && w.keepsFace) = true → w ∈ lw_tbl := mj_tw_in (p := [0, 8, 9, 32, 37, 42, 14, 16, 18, 23, 54, 53, 1, 6, 7, 10, 19, 20, 21, 22, 11, 2, 46, 3, 12, 4, 5, 31, 34, 35, 36, 39, 40, 24, 25, 26, 13, 15, 17, 44, 45, 47, 48, 49, 50, 55, 43, 28, 29, 30]) (sk := [244, 15, 0, 751, 1, 1, 3, 1, 1, 1, 1, 0, 0, 0, 0, 0, 0, 0, 0, 0, 0, 0, 4, 0, 0, 1, 1, 5, 0, 0, 0, 0, 0, 0, 0, 1, 0, 0, 0, 507, 1, 0, 0, 0, 0, 0, 1, 0, 0, 0]) (by decide) (by decide +kernel) (by decide +kernel)
set_option maxRecDepth 100000 in
theorem mw_4 : ∀ w ∈ mj_tw "SuiteKeeper" 372 "java/lang/IllegalStateException" 7 Bundle.six, (w.onTables && w.keepsFace) = true → w ∈ lw_tbl := mj_tw_in (p := [0, 8, 9, 44, 32, 37, 42, 45, 46, 47, 14, 48, 16, 49, 18, 50, 23, 55, 54, 53, 1, 6, 7, 10, 19, 20, 21, 22, 11, 2, 3, 12, 4, 5, 28, 29, 30, 31, 34, 35, 36, 39, 40, 24, 25, 26, 13, 15, 17, 43]) (sk := [244, 15, 0, 748, 2, 1, 1, 0, 0, 0, 0, 0, 0, 0, 0, 0, 0, 0, 0, 0, 0, 0, 0, 0, 0, 0, 0, 0, 0, 0, 5, 0, 1, 1, 2, 0, 0, 0, 0, 0, 0, 0, 0, 0, 0, 1, 0, 0, 0, 299]) (by decide) (by decide +kernel) (by decide +kernel)
set_option maxRecDepth 100000 in
theorem mw_5 : ∀ w ∈ mj_tw "SuiteKeeper$Reader" 62 "java/lang/IllegalStateException" 7 Bundle.six, (w.onTables && w.keepsFace) = true → w ∈ lw_tbl := mj_tw_in (p := [0, 8, 9, 44, 32, 37, 42, 45, 46, 47, 14, 48, 16, 49, 18, 50, 23, 55, 54, 53, 1, 6, 7, 10, 19, 20, 21, 22, 11, 2, 3, 12, 4, 5, 43, 28, 29, 30, 31, 34, 35, 36, 39, 40, 24, 25, 26, 13, 15, 17]) (sk := [244, 15, 0, 748, 2, 1, 1, 0, 0, 0, 0, 0, 0, 0, 0, 0, 0, 0, 0, 0, 0, 0, 0, 0, 0, 0, 0, 0, 0, 0, 5, 0, 1, 1, 1, 0, 0, 0, 0, 0, 0, 0, 0, 0, 0, 0, 1, 0, 0, 0]) (by decide) (by decide +kernel) (by decide +kernel)
theorem mw_ms : mj_seq [(249, .initialized "java/lang/Math"), (691, .methodLink "java/lang/StringLatin1" 92 Lib.Math.max.name), (0, .static Lib.Math.max.name), (0, .code Lib.Math.max.name Lib.Math.max.code 2 (some .int)), (0, .methodLink "java/lang/StringLatin1" 38 Lib.Math.min.name), (0, .static Lib.Math.min.name), (0, .code Lib.Math.min.name Lib.Math.min.code 2 (some .int)), (175, .methodLink "SuiteKeeper$Reader" 303 Lib.Math.min.name), (268, .methodLink "SuiteKeeper$Log" 111 Lib.Math.min.name), (51, .methodLink "SuiteKeeper$Crew" 55 Lib.Math.max.name), (246, .methodLink "SuiteKeeper$Machine" 171 Lib.Math.max.name), (215, .methodLink "SuiteKeeper$Store" 186 Lib.Math.max.name), (16, .methodLink "SuiteKeeper$Store" 200 Lib.Math.min.name)] lw_tbl = true := by decide +kernel
theorem mw_mt : ∀ q ∈ mc_MT, Cond.initialized "java/lang/Math" ∈ lw_tbl ∧ (q.2.2 = true → Cond.methodLink q.1 q.2.1 Lib.Math.max.name ∈ lw_tbl ∧ Cond.static Lib.Math.max.name ∈ lw_tbl ∧ Cond.code Lib.Math.max.name Lib.Math.max.code 2 (some .int) ∈ lw_tbl) ∧ (q.2.2 = false → Cond.methodLink q.1 q.2.1 Lib.Math.min.name ∈ lw_tbl ∧ Cond.static Lib.Math.min.name ∈ lw_tbl ∧ Cond.code Lib.Math.min.name Lib.Math.min.code 2 (some .int) ∈ lw_tbl) := List.forall_mem_cons.mpr ⟨⟨(mj_seq_mem _ _ mw_ms (_, .initialized "java/lang/Math") (List.mem_of_getElem? (i := 0) rfl)), fun _ => ⟨(mj_seq_mem _ _ mw_ms (_, .methodLink "java/lang/StringLatin1" 92 Lib.Math.max.name) (List.mem_of_getElem? (i := 1) rfl)), (mj_seq_mem _ _ mw_ms (_, .static Lib.Math.max.name) (List.mem_of_getElem? (i := 2) rfl)), (mj_seq_mem _ _ mw_ms (_, .code Lib.Math.max.name Lib.Math.max.code 2 (some .int)) (List.mem_of_getElem? (i := 3) rfl))⟩, fun h => absurd h (by decide)⟩, List.forall_mem_cons.mpr ⟨⟨(mj_seq_mem _ _ mw_ms (_, .initialized "java/lang/Math") (List.mem_of_getElem? (i := 0) rfl)), fun h => absurd h (by decide), fun _ => ⟨(mj_seq_mem _ _ mw_ms (_, .methodLink "java/lang/StringLatin1" 38 Lib.Math.min.name) (List.mem_of_getElem? (i := 4) rfl)), (mj_seq_mem _ _ mw_ms (_, .static Lib.Math.min.name) (List.mem_of_getElem? (i := 5) rfl)), (mj_seq_mem _ _ mw_ms (_, .code Lib.Math.min.name Lib.Math.min.code 2 (some .int)) (List.mem_of_getElem? (i := 6) rfl))⟩⟩, List.forall_mem_cons.mpr ⟨⟨(mj_seq_mem _ _ mw_ms (_, .initialized "java/lang/Math") (List.mem_of_getElem? (i := 0) rfl)), fun h => absurd h (by decide), fun _ => ⟨(mj_seq_mem _ _ mw_ms (_, .methodLink "SuiteKeeper$Reader" 303 Lib.Math.min.name) (List.mem_of_getElem? (i := 7) rfl)), (mj_seq_mem _ _ mw_ms (_, .static Lib.Math.min.name) (List.mem_of_getElem? (i := 5) rfl)), (mj_seq_mem _ _ mw_ms (_, .code Lib.Math.min.name Lib.Math.min.code 2 (some .int)) (List.mem_of_getElem? (i := 6) rfl))⟩⟩, List.forall_mem_cons.mpr ⟨⟨(mj_seq_mem _ _ mw_ms (_, .initialized "java/lang/Math") (List.mem_of_getElem? (i := 0) rfl)), fun h => absurd h (by decide), fun _ => ⟨(mj_seq_mem _ _ mw_ms (_, .methodLink "SuiteKeeper$Log" 111 Lib.Math.min.name) (List.mem_of_getElem? (i := 8) rfl)), (mj_seq_mem _ _ mw_ms (_, .static Lib.Math.min.name) (List.mem_of_getElem? (i := 5) rfl)), (mj_seq_mem _ _ mw_ms (_, .code Lib.Math.min.name Lib.Math.min.code 2 (some .int)) (List.mem_of_getElem? (i := 6) rfl))⟩⟩, List.forall_mem_cons.mpr ⟨⟨(mj_seq_mem _ _ mw_ms (_, .initialized "java/lang/Math") (List.mem_of_getElem? (i := 0) rfl)), fun _ => ⟨(mj_seq_mem _ _ mw_ms (_, .methodLink "SuiteKeeper$Crew" 55 Lib.Math.max.name) (List.mem_of_getElem? (i := 9) rfl)), (mj_seq_mem _ _ mw_ms (_, .static Lib.Math.max.name) (List.mem_of_getElem? (i := 2) rfl)), (mj_seq_mem _ _ mw_ms (_, .code Lib.Math.max.name Lib.Math.max.code 2 (some .int)) (List.mem_of_getElem? (i := 3) rfl))⟩, fun h => absurd h (by decide)⟩, List.forall_mem_cons.mpr ⟨⟨(mj_seq_mem _ _ mw_ms (_, .initialized "java/lang/Math") (List.mem_of_getElem? (i := 0) rfl)), fun _ => ⟨(mj_seq_mem _ _ mw_ms (_, .methodLink "SuiteKeeper$Machine" 171 Lib.Math.max.name) (List.mem_of_getElem? (i := 10) rfl)), (mj_seq_mem _ _ mw_ms (_, .static Lib.Math.max.name) (List.mem_of_getElem? (i := 2) rfl)), (mj_seq_mem _ _ mw_ms (_, .code Lib.Math.max.name Lib.Math.max.code 2 (some .int)) (List.mem_of_getElem? (i := 3) rfl))⟩, fun h => absurd h (by decide)⟩, List.forall_mem_cons.mpr ⟨⟨(mj_seq_mem _ _ mw_ms (_, .initialized "java/lang/Math") (List.mem_of_getElem? (i := 0) rfl)), fun _ => ⟨(mj_seq_mem _ _ mw_ms (_, .methodLink "SuiteKeeper$Store" 186 Lib.Math.max.name) (List.mem_of_getElem? (i := 11) rfl)), (mj_seq_mem _ _ mw_ms (_, .static Lib.Math.max.name) (List.mem_of_getElem? (i := 2) rfl)), (mj_seq_mem _ _ mw_ms (_, .code Lib.Math.max.name Lib.Math.max.code 2 (some .int)) (List.mem_of_getElem? (i := 3) rfl))⟩, fun h => absurd h (by decide)⟩, List.forall_mem_cons.mpr ⟨⟨(mj_seq_mem _ _ mw_ms (_, .initialized "java/lang/Math") (List.mem_of_getElem? (i := 0) rfl)), fun h => absurd h (by decide), fun _ => ⟨(mj_seq_mem _ _ mw_ms (_, .methodLink "SuiteKeeper$Store" 200 Lib.Math.min.name) (List.mem_of_getElem? (i := 12) rfl)), (mj_seq_mem _ _ mw_ms (_, .static Lib.Math.min.name) (List.mem_of_getElem? (i := 5) rfl)), (mj_seq_mem _ _ mw_ms (_, .code Lib.Math.min.name Lib.Math.min.code 2 (some .int)) (List.mem_of_getElem? (i := 6) rfl))⟩⟩, fun _ h => absurd h List.not_mem_nil⟩⟩⟩⟩⟩⟩⟩⟩
theorem mw_p7 : mj_pass 7 Bundle.six := ⟨by decide +kernel, by decide +kernel, by decide +kernel, by decide +kernel⟩
theorem mw_p13 : mj_pass 13 mw_ns := ⟨by decide +kernel, by decide +kernel, by decide +kernel, by decide +kernel⟩
theorem mc_ptw {s : State} {A0 : Array Value} (hts : ∀ w ∈ lw_tbl, w.before A0 s = true) : ∀ q ∈ mc_PT, ∀ k : vw_C, mc_cl[q.2.2]? = some k → Bundle.fit k.1 = true ∧ ∃ (ix : Nat) (bs : ByteArray), mj_pass ix bs ∧ ∀ A : Array Value, ∀ w ∈ mj_tw q.1 q.2.1 k.1 ix bs, (w.onTables && w.keepsFace) = true → w.before A s = true := List.forall_mem_cons.mpr ⟨fun k hk => by cases hk; exact ⟨by decide +kernel, _, _, mw_p7, fun A w hw hkd => va_tabs (Bool.and_eq_true_iff.mp hkd).1 rfl (hts w (mw_0 w hw hkd))⟩, List.forall_mem_cons.mpr ⟨fun k hk => by cases hk; exact ⟨by decide +kernel, _, _, mw_p7, fun A w hw hkd => va_tabs (Bool.and_eq_true_iff.mp hkd).1 rfl (hts w (mw_1 w hw hkd))⟩, List.forall_mem_cons.mpr ⟨fun k hk => by cases hk; exact ⟨by decide +kernel, _, _, mw_p7, fun A w hw hkd => va_tabs (Bool.and_eq_true_iff.mp hkd).1 rfl (hts w (mw_2 w hw hkd))⟩, List.forall_mem_cons.mpr ⟨fun k hk => by cases hk; exact ⟨by decide +kernel, _, _, mw_p13, fun A w hw hkd => va_tabs (Bool.and_eq_true_iff.mp hkd).1 rfl (hts w (mw_3 w hw hkd))⟩, List.forall_mem_cons.mpr ⟨fun k hk => by cases hk; exact ⟨by decide +kernel, _, _, mw_p7, fun A w hw hkd => va_tabs (Bool.and_eq_true_iff.mp hkd).1 rfl (hts w (mw_4 w hw hkd))⟩, List.forall_mem_cons.mpr ⟨fun k hk => by cases hk; exact ⟨by decide +kernel, _, _, mw_p7, fun A w hw hkd => va_tabs (Bool.and_eq_true_iff.mp hkd).1 rfl (hts w (mw_5 w hw hkd))⟩, fun _ h => absurd h List.not_mem_nil⟩⟩⟩⟩⟩⟩
