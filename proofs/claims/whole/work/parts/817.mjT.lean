/-! ===== the small machine: an exception with a text is made ===== -/
section MJT
open Jvm.Bundle
variable {p : Program} {l : Launch} {e : Env} {R : Room} {s : State} {m : MethodId} {args : Array Value} {below : List Frame} {meth : Method} {c : Code} {H : Heap} {locs : List Loc} {cells slots : Nat} {Q : State → Prop}
set_option maxHeartbeats 1000000 in
/-- the constructor with a text, over a cell that 'new' has just laid: it comes back, and that cell alone was written -/
theorem mj_ctor {V : State} (X : Stand p l e R s m args below meth c V locs cells slots) (hexec : p.tables.exec = Jvm.exec) (htr : e.platform.stackTraces = false) {own E : String} {up : List String} {ic : Nat}
    (hown : s.vm.findClass own = some m.cls) (hE : fit E = true) (hup : ∀ n ∈ up, fit n = true) (hat : ∀ w ∈ ownAtoms own ic E up, w.before args s = true)
    (hlocs : ∀ x ∈ locs, ∀ cell, s.heap[x.base]? = some cell → cell.vm.isStatics = false)
    {a : Addr} {cE : ClassId} {kE : Class} (hfE : s.vm.findClass E = some cE) (hkE : s.vm.classes[cE]? = some kE) (hcell : V.heap[a]? = some (blank cE kE)) (hnew : s.heap.size ≤ a)
    {tx : Addr} {pc : Nat} {ls : Array Slot} (hls : ls.size = c.maxLocals) {rest : List Value} (hd : decode c.code pc = .ok (.invokespecial ic, 3))
    (hRf : up.length + 3 < R.frames) (hRl : ((Value.ref a :: rest).map fun v => v.category).sum + (13 * (up.length + 1) + 42) ≤ R.locals) :
    ∃ (vm' : Vm) (ce : Cell) (L : List Loc), ce.cls = cE ∧ ce.vm = .none ∧ (∀ x ∈ L, x.base = a) ∧ Stand p l e R s m args below meth c ((V.setVm vm').setCell a ce) (locs ++ L) cells slots ∧
      ∀ target, Steps p.tables e below (((V.setVm vm').setCell a ce).setTop (F0 m (pc + 3) ls (.ref a :: rest))) target → Steps p.tables e below (V.setTop (F0 m pc ls (.ref tx :: .ref a :: .ref a :: rest))) target := by
  have hmon : e.platform.frameOwnsMonitors = true := by rw [X.admits.platform]
  have hfin : e.platform.finalization = false := by rw [X.admits.platform]
  have hmag : e.platform.magicAccessors = ({} : Platform).magicAccessors := by rw [X.admits.platform]
  have g0 : ∀ w, w ∈ ownAtoms own ic E up → w.holds args s none s [] = true := fun w hw => hat w hw
  obtain ⟨T, Z0, L, -, Y⟩ := ThrowableC.of_atoms (args := args) hmon hfin hmag (fun w hw => hat w (by simp [ownAtoms, hw]))
  obtain ⟨Z, M, LZ, LM, hnZ⟩ := Init0T.ofS_atoms (args := args) hmag L Y (fun w hw => hat w (by simp [ownAtoms, hw]))
  obtain ⟨P1, Ps, hlen, L1, hL, hP1, hk1, hk2⟩ := chainS (args := args) hmag hnZ up E hE hup (fun w hw => hat w (by simp [ownAtoms, hw]))
  have hf1 : s.vm.findClass E = some P1.m.cls := findClass_of_methodNamed hP1
  have ecE : cE = P1.m.cls := Option.some.inj (hfE.symm.trans hf1)
  subst ecE
  obtain ⟨c1, k1, hc1, hk, hord, -, -, -⟩ := Cond.instantiable_spec (g0 (.instantiable E 6) (by simp [ownAtoms]))
  have ec1 : c1 = P1.m.cls := Option.some.inj (hc1.symm.trans hf1)
  subst ec1
  have ek1 : k1 = kE := Option.some.inj (hk.symm.trans hkE)
  subst ek1
  have hs0 : selectMethod e.platform s.vm P1.m.cls T.fill0 = .method T.fill0 := by
    obtain ⟨c2, r2, m2, q1, q2, q3, q4, -⟩ := Cond.selects_spec (g0 (.selects E tFill0 tFill0) (by simp [ownAtoms]))
    cases q1.symm.trans hf1
    cases q2.symm.trans (State.methodFound?_of_named Y.fill0 (by decide))
    cases q3.symm.trans Y.fill0
    rw [Launch.admits_selectMethod X.admits]; exact q4
  have hsF : selectMethod e.platform s.vm P1.m.cls T.fill = .method T.fill := by
    obtain ⟨c2, r2, m2, q1, q2, q3, q4, -⟩ := Cond.selects_spec (g0 (.selects E tFill tFill) (by simp [ownAtoms]))
    cases q1.symm.trans hf1
    cases q2.symm.trans (State.methodFound?_of_named Y.fill (by decide))
    cases q3.symm.trans Y.fill
    rw [Launch.admits_selectMethod X.admits]; exact q4
  obtain ⟨cs0, hcs0, hst0⟩ := Y.statics
  obtain ⟨u0, hu0⟩ := Cond.staticRefV Y.unassigned L.unassignedStatic L.statics hcs0 hst0 (g0 (.isRef (.static tN "UNASSIGNED_STACK" steD)) (by simp [ownAtoms]))
  obtain ⟨sen, hsen⟩ := Cond.staticRefV Y.sentinel L.sentinelStatic L.statics hcs0 hst0 (g0 (.isRef (.static tN "SUPPRESSED_SENTINEL" listD)) (by simp [ownAtoms]))
  obtain ⟨ci198, i198, fB, hk198, hg198, ha198, hsB, -, hnB, htB, hfB⟩ := Cond.ownField (t := .object "java/lang/Object") Y.found L.cls (by decide +kernel) (g0 (.fieldLink tN 198 tN "backtrace" "Ljava/lang/Object;") (by simp [ownAtoms])) (g0 (.lays tN tN "backtrace" "Ljava/lang/Object;") (by simp [ownAtoms])) e.platform hmag
  obtain ⟨csV, hcsV, hcsE, -, hkeep⟩ := X.same.2.2.2.2.2 T.aS cs0 hcs0
  have hcsV' : V.heap[T.aS]? = some csV := hcsV
  have hnot : ∀ i, (⟨T.aS, i⟩ : Loc) ∉ locs := fun i hi => by
    have h9 := hlocs _ hi cs0 hcs0
    rw [hst0] at h9; cases h9
  have hkn : csV.vm ≠ .unknown := by
    rw [hcsE]; intro hu
    rw [show cs0.vm = .unknown from hu] at hst0
    cases hst0
  have hne : T.aS ≠ a := Nat.ne_of_lt (Nat.lt_of_lt_of_le (Array.getElem?_eq_some_iff.mp hcs0).1 hnew)
  obtain ⟨iM, hfM⟩ := Y.msg
  obtain ⟨tyC, dC, hdC, hnC⟩ := Cond.laysAt hf1 hk Y.cause (g0 (.lays E tN "cause" "Ljava/lang/Throwable;") (by simp [ownAtoms]))
  obtain ⟨tyS, dS, hdS, hnS⟩ := Cond.laysAt hf1 hk Y.stack (g0 (.lays E tN "stackTrace" steD) (by simp [ownAtoms]))
  obtain ⟨tyP, dP, hdP, hnP⟩ := Cond.laysAt hf1 hk Y.supp (g0 (.lays E tN "suppressedExceptions" listD) (by simp [ownAtoms]))
  obtain ⟨tyM, dM, hdM, hnM⟩ := Cond.laysAt hf1 hk hfM (g0 (.lays E tN "detailMessage" "Ljava/lang/String;") (by simp [ownAtoms]))
  obtain ⟨tyB, dB, hdB, hnB'⟩ := Cond.laysAt hf1 hk hfB (g0 (.lays E tN "backtrace" "Ljava/lang/Object;") (by simp [ownAtoms]))
  have bC := Cond.laysApart hdB hdC hnB' hnC (by rw [hnB, Y.causeName]; decide)
  have bS := Cond.laysApart hdB hdS hnB' hnS (by rw [hnB, Y.stackName]; decide)
  have bP := Cond.laysApart hdB hdP hnB' hnP (by rw [hnB, Y.suppName]; decide)
  have hskip : SkipFacts T e.platform s (fun u => u) u0 ((preparedCellV T.toThrowableT (freshCell P1.m.cls k1) a u0 sen).withEntry V.cur) :=
    ⟨{ ci198 := ci198, i198 := i198, fBack := fB }, ⟨hk198, hg198, ha198, hsB⟩, by
      have := fresh_default (c := P1.m.cls) tyB
      rw [htB] at this
      simpa [preparedCellV, Cell.setSlot, Cell.withEntry, Array.getElem?_setIfInBounds, bC, bS, bP, bC.symm, bS.symm, bP.symm, defaultValue] using this, fun _ _ => rfl⟩
  obtain ⟨tm, methC, cdC, kC, vm1, hnC', -, -, -, -, -, -, -, hW1, st1⟩ := Steps.initColdS (tb := p.tables) (e := e) (below := below) (s := s) (U := V) X.here hexec X.warmed hmag hown (t := initS E) rfl rfl (fit_spec hE).2
    (g0 (.methodLink own ic (initS E)) (by simp [ownAtoms])) (hat (.instanceMethod (initS E)) (by cases up <;> simp [ownAtoms, chainSAtoms, passSAtoms])) (bytes := six) (maxL := 2) (hat (.code (initS E) six 2 none) (by cases up <;> simp [ownAtoms, chainSAtoms, passSAtoms]))
    (f := F0 m pc ls (.ref tx :: .ref a :: .ref a :: rest)) rfl (a := a) (msg := .ref tx) (rest := .ref a :: rest) rfl hd
  cases hnC'.symm.trans hP1
  have X1 := X.noted hW1
  obtain ⟨vm2, X2, st2⟩ := X1.ctorMessageOffV hexec (g := F0 m pc ls (.ref a :: rest)) rfl hls T L Z LZ M LM (P1 :: Ps)
    (fun P hP => by rcases List.mem_cons.mp hP with rfl | hP; exact L1; exact hL P hP) ⟨hk1, hk2⟩ (u0 := u0) (sen := sen) (self := a) (msg := .ref tx) rfl (cell := freshCell P1.m.cls k1) (cellS := csV)
    hcell (fun _ => by simp) (by simp) rfl rfl hs0 hsF hcsV' hne hkn (by rw [hkeep _ (hnot _)]; exact hu0) (by rw [hkeep _ (hnot _)]; exact hsen)
    (Takes.of_laid hk hord tyC (by rw [Y.causeType]; rfl)) (Takes.of_laid hk hord tyS (by rw [Y.stackType]; exact fits_refV_array _ u0)) (Takes.of_laid hk hord tyP (by rw [Y.suppType]; exact fits_refV_object _ sen))
    (Takes.of_laid hk hord tyM (by rw [Y.msgType]; rfl)) Y.objLocals hskip htr [] hd
    (by simp only [List.length_cons, hlen]; omega) (by
      simp only [List.length_cons, hlen]
      show 2 * 0 + ((Value.ref a :: rest).map fun v => v.category).sum + (13 * (up.length + 1) + 42) ≤ R.locals
      omega)
  refine ⟨vm2, _, _, ?_, ?_, ?_, X2, fun target hr => st1 _ fun acts => ?_⟩
  · simp [plainBareV, preparedCellV, Cell.setSlot]
  · simp [plainBareV, preparedCellV, Cell.setSlot]
  · intro x hx
    simp only [List.mem_cons, List.not_mem_nil, or_false] at hx
    rcases hx with rfl | rfl | rfl | rfl | rfl <;> rfl
  · rw [doInvoke_state]
    exact st2 _ hr
end MJT
