/-! ===== the small machine: an exception with a text is made ===== -/
/-- the words for making an exception of the kind E with a text, in the code of 'own': the entry of its constructor; in E's own pool: the entry of its parent's -/
def mj_tw (own : String) (ic : Nat) (E : String) (ix : Nat) (bs : ByteArray) : List Cond :=
  Bundle.throwableAtoms ++ Bundle.throwableSAtoms ++ (Bundle.passSAtoms E "java/lang/RuntimeException" ix bs ++ Bundle.chainSAtoms "java/lang/RuntimeException" ["java/lang/Exception"]) ++
  [.methodLink own ic (Bundle.initS E), .instantiable E 6, .selects E Bundle.tFill0 Bundle.tFill0, .selects E Bundle.tFill Bundle.tFill,
   .lays E Bundle.tN "cause" "Ljava/lang/Throwable;", .lays E Bundle.tN "stackTrace" Bundle.steD, .lays E Bundle.tN "suppressedExceptions" Bundle.listD, .lays E Bundle.tN "detailMessage" "Ljava/lang/String;",
   .isRef (.static Bundle.tN "UNASSIGNED_STACK" Bundle.steD), .isRef (.static Bundle.tN "SUPPRESSED_SENTINEL" Bundle.listD),
   .fieldLink Bundle.tN 198 Bundle.tN "backtrace" "Ljava/lang/Object;", .lays Bundle.tN Bundle.tN "backtrace" "Ljava/lang/Object;", .lays E Bundle.tN "backtrace" "Ljava/lang/Object;"]
/-- a constructor that hands its text on -/
def mj_pass (ix : Nat) (bs : ByteArray) : Prop := decode bs 0 = .ok (.aload_n 0, 1) ∧ decode bs 1 = .ok (.aload_n 1, 1) ∧ decode bs 2 = .ok (.invokespecial ix, 3) ∧ decode bs 5 = .ok (.return_, 1)
section MJT
variable {p : Program} {l : Launch} {e : Env} {R : Room} {s : State} {m : MethodId} {args : Array Value} {below : List Frame} {meth : Method} {c : Code} {H : Heap} {locs : List Loc} {cells slots : Nat} {Q : State → Prop}
set_option maxHeartbeats 1000000 in
/-- the constructor with a text, over a cell that 'new' has just laid: it comes back, and that cell alone was written -/
theorem mj_ctor {V : State} (X : Stand p l e R s m args below meth c V locs cells slots) (hexec : p.tables.exec = Jvm.exec) (htr : e.platform.stackTraces = false) {own E : String} {ix ic : Nat} {bs : ByteArray}
    (hown : s.vm.findClass own = some m.cls) (hE : Bundle.fit E = true) (hbs : mj_pass ix bs) (hat : ∀ w ∈ mj_tw own ic E ix bs, w.before args s = true)
    (hlocs : ∀ x ∈ locs, ∀ cell, s.heap[x.base]? = some cell → cell.vm.isStatics = false)
    {a : Addr} {cE : ClassId} {kE : Class} (hfE : s.vm.findClass E = some cE) (hkE : s.vm.classes[cE]? = some kE) (hcell : V.heap[a]? = some (blank cE kE)) (hnew : s.heap.size ≤ a)
    {tx : Addr} {pc : Nat} {ls : Array Slot} (hls : ls.size = c.maxLocals) {rest : List Value} (hd : decode c.code pc = .ok (.invokespecial ic, 3))
    (hRf : 5 < R.frames) (hRl : ((Value.ref a :: rest).map fun v => v.category).sum + 81 ≤ R.locals) :
    ∃ (vm' : Vm) (ce : Cell) (L : List Loc), ce.cls = cE ∧ ce.vm = .none ∧ (∀ x ∈ L, x.base = a) ∧ Stand p l e R s m args below meth c ((V.setVm vm').setCell a ce) (locs ++ L) cells slots ∧
      ∀ target, Steps p.tables e below (((V.setVm vm').setCell a ce).setTop (F0 m (pc + 3) ls (.ref a :: rest))) target → Steps p.tables e below (V.setTop (F0 m pc ls (.ref tx :: .ref a :: .ref a :: rest))) target := by
  have hmon : e.platform.frameOwnsMonitors = true := by rw [X.admits.platform]
  have hfin : e.platform.finalization = false := by rw [X.admits.platform]
  have hmag : e.platform.magicAccessors = ({} : Platform).magicAccessors := by rw [X.admits.platform]
  have g0 : ∀ w, w ∈ mj_tw own ic E ix bs → w.holds args s none s [] = true := fun w hw => hat w hw
  obtain ⟨T, Z0, L, -, Y⟩ := ThrowableC.of_atoms (args := args) hmon hfin hmag (fun w hw => hat w (by simp [mj_tw, hw]))
  obtain ⟨Z, M, LZ, LM, hnZ⟩ := Init0T.ofS_atoms (args := args) hmag L Y (fun w hw => hat w (by simp [mj_tw, hw]))
  obtain ⟨P1, L1, hP1, hsup⟩ := PassC.ofS_atoms (args := args) (s := s) hmag (X := E) (Y := "java/lang/RuntimeException") (Bundle.fit_spec hE).1 (by decide) hbs.1 hbs.2.1 hbs.2.2.1 hbs.2.2.2 (fun w hw => hat w (by simp [mj_tw, hw]))
  obtain ⟨P2, Ps, hlen, L2, hL, hP2, hk1, hk2⟩ := Bundle.chainS (args := args) hmag hnZ ["java/lang/Exception"] "java/lang/RuntimeException" (by decide) (by decide) (fun w hw => hat w (by simp [mj_tw, hw]))
  have hf1 : s.vm.findClass E = some P1.m.cls := findClass_of_methodNamed hP1
  have ecE : cE = P1.m.cls := Option.some.inj (hfE.symm.trans hf1)
  subst ecE
  obtain ⟨c1, k1, hc1, hk, hord, -, -, -⟩ := Cond.instantiable_spec (g0 (.instantiable E 6) (by simp [mj_tw]))
  have ec1 : c1 = P1.m.cls := Option.some.inj (hc1.symm.trans hf1)
  subst ec1
  have ek1 : k1 = kE := Option.some.inj (hk.symm.trans hkE)
  subst ek1
  have hs0 : selectMethod e.platform s.vm P1.m.cls T.fill0 = .method T.fill0 := by
    obtain ⟨c2, r2, m2, q1, q2, q3, q4, -⟩ := Cond.selects_spec (g0 (.selects E Bundle.tFill0 Bundle.tFill0) (by simp [mj_tw]))
    cases q1.symm.trans hf1
    cases q2.symm.trans (State.methodFound?_of_named Y.fill0 (by decide))
    cases q3.symm.trans Y.fill0
    rw [Launch.admits_selectMethod X.admits]; exact q4
  have hsF : selectMethod e.platform s.vm P1.m.cls T.fill = .method T.fill := by
    obtain ⟨c2, r2, m2, q1, q2, q3, q4, -⟩ := Cond.selects_spec (g0 (.selects E Bundle.tFill Bundle.tFill) (by simp [mj_tw]))
    cases q1.symm.trans hf1
    cases q2.symm.trans (State.methodFound?_of_named Y.fill (by decide))
    cases q3.symm.trans Y.fill
    rw [Launch.admits_selectMethod X.admits]; exact q4
  obtain ⟨cs0, hcs0, hst0⟩ := Y.statics
  obtain ⟨u0, hu0⟩ := Cond.staticRefV Y.unassigned L.unassignedStatic L.statics hcs0 hst0 (g0 (.isRef (.static Bundle.tN "UNASSIGNED_STACK" Bundle.steD)) (by simp [mj_tw]))
  obtain ⟨sen, hsen⟩ := Cond.staticRefV Y.sentinel L.sentinelStatic L.statics hcs0 hst0 (g0 (.isRef (.static Bundle.tN "SUPPRESSED_SENTINEL" Bundle.listD)) (by simp [mj_tw]))
  obtain ⟨ci198, i198, fB, hk198, hg198, ha198, hsB, -, hnB, htB, hfB⟩ := Cond.ownField (t := .object "java/lang/Object") Y.found L.cls (by decide +kernel) (g0 (.fieldLink Bundle.tN 198 Bundle.tN "backtrace" "Ljava/lang/Object;") (by simp [mj_tw])) (g0 (.lays Bundle.tN Bundle.tN "backtrace" "Ljava/lang/Object;") (by simp [mj_tw])) e.platform hmag
  obtain ⟨csV, hcsV, hcsE, -, hkeep⟩ := X.same.2.2.2.2.2 T.aS cs0 hcs0
  have hcsV' : V.heap[T.aS]? = some csV := hcsV
  have hnot : ∀ i, (⟨T.aS, i⟩ : Loc) ∉ locs := fun i hi => by
    have h9 := hlocs _ hi cs0 hcs0
    rw [hst0] at h9; cases h9
  have hkn : csV.vm ≠ .unknown := by
    rw [hcsE]; intro hu
    rw [show cs0.vm = .unknown from hu] at hst0
    cases hst0
  have hne : T.aS ≠ a := Nat.ne_of_lt (Nat.lt_of_lt_of_le (Array.getElem?_eq_some_iff.mp hcs0).1 hnew)
  obtain ⟨iM, hfM⟩ := Y.msg
  obtain ⟨tyC, dC, hdC, hnC⟩ := Cond.laysAt hf1 hk Y.cause (g0 (.lays E Bundle.tN "cause" "Ljava/lang/Throwable;") (by simp [mj_tw]))
  obtain ⟨tyS, dS, hdS, hnS⟩ := Cond.laysAt hf1 hk Y.stack (g0 (.lays E Bundle.tN "stackTrace" Bundle.steD) (by simp [mj_tw]))
  obtain ⟨tyP, dP, hdP, hnP⟩ := Cond.laysAt hf1 hk Y.supp (g0 (.lays E Bundle.tN "suppressedExceptions" Bundle.listD) (by simp [mj_tw]))
  obtain ⟨tyM, dM, hdM, hnM⟩ := Cond.laysAt hf1 hk hfM (g0 (.lays E Bundle.tN "detailMessage" "Ljava/lang/String;") (by simp [mj_tw]))
  obtain ⟨tyB, dB, hdB, hnB'⟩ := Cond.laysAt hf1 hk hfB (g0 (.lays E Bundle.tN "backtrace" "Ljava/lang/Object;") (by simp [mj_tw]))
  have bC := Cond.laysApart hdB hdC hnB' hnC (by rw [hnB, Y.causeName]; decide)
  have bS := Cond.laysApart hdB hdS hnB' hnS (by rw [hnB, Y.stackName]; decide)
  have bP := Cond.laysApart hdB hdP hnB' hnP (by rw [hnB, Y.suppName]; decide)
  have hskip : SkipFacts T e.platform s (fun u => u) u0 ((preparedCellV T.toThrowableT (freshCell P1.m.cls k1) a u0 sen).withEntry V.cur) :=
    ⟨{ ci198 := ci198, i198 := i198, fBack := fB }, ⟨hk198, hg198, ha198, hsB⟩, by
      have := fresh_default (c := P1.m.cls) tyB
      rw [htB] at this
      simpa [preparedCellV, Cell.setSlot, Cell.withEntry, Array.getElem?_setIfInBounds, bC, bS, bP, bC.symm, bS.symm, bP.symm, defaultValue] using this, fun _ _ => rfl⟩
  obtain ⟨tm, methC, cdC, kC, vm1, hnC', -, -, -, -, -, -, -, hW1, st1⟩ := Steps.initColdS (tb := p.tables) (e := e) (below := below) (s := s) (U := V) X.here hexec X.warmed hmag hown (t := Bundle.initS E) rfl rfl (Bundle.fit_spec hE).2
    (g0 (.methodLink own ic (Bundle.initS E)) (by simp [mj_tw])) (hat (.instanceMethod (Bundle.initS E)) (by simp [mj_tw, Bundle.passSAtoms])) (bytes := bs) (maxL := 2) (hat (.code (Bundle.initS E) bs 2 none) (by simp [mj_tw, Bundle.passSAtoms]))
    (f := F0 m pc ls (.ref tx :: .ref a :: .ref a :: rest)) rfl (a := a) (msg := .ref tx) (rest := .ref a :: rest) rfl hd
  cases hnC'.symm.trans hP1
  have X1 := X.noted hW1
  obtain ⟨vm2, X2, st2⟩ := X1.ctorMessageOffV hexec (g := F0 m pc ls (.ref a :: rest)) rfl hls T L Z LZ M LM (P1 :: P2 :: Ps)
    (fun P hP => by
      rcases List.mem_cons.mp hP with rfl | hP
      · exact L1
      rcases List.mem_cons.mp hP with rfl | hP
      · exact L2
      · exact hL P hP) ⟨Option.some.inj (hsup.symm.trans hP2), hk1, hk2⟩ (u0 := u0) (sen := sen) (self := a) (msg := .ref tx) rfl (cell := freshCell P1.m.cls k1) (cellS := csV)
    hcell (fun _ => by simp) (by simp) rfl rfl hs0 hsF hcsV' hne hkn (by rw [hkeep _ (hnot _)]; exact hu0) (by rw [hkeep _ (hnot _)]; exact hsen)
    (Takes.of_laid hk hord tyC (by rw [Y.causeType]; rfl)) (Takes.of_laid hk hord tyS (by rw [Y.stackType]; exact fits_refV_array _ u0)) (Takes.of_laid hk hord tyP (by rw [Y.suppType]; exact fits_refV_object _ sen))
    (Takes.of_laid hk hord tyM (by rw [Y.msgType]; rfl)) Y.objLocals hskip htr [] hd
    (by simp only [List.length_cons, hlen, List.length_nil]; omega) (by
      simp only [List.length_cons, hlen, List.length_nil]
      show 2 * 0 + ((Value.ref a :: rest).map fun v => v.category).sum + (13 * (0 + 1 + 1 + 1) + 42) ≤ R.locals
      omega)
  refine ⟨vm2, _, _, ?_, ?_, ?_, X2, fun target hr => st1 _ fun acts => ?_⟩
  · simp [plainBareV, preparedCellV, Cell.setSlot]
  · simp [plainBareV, preparedCellV, Cell.setSlot]
  · intro x hx
    simp only [List.mem_cons, List.not_mem_nil, or_false] at hx
    rcases hx with rfl | rfl | rfl | rfl | rfl <;> rfl
  · rw [doInvoke_state]
    exact st2 _ hr
end MJT
