/-! ===== the small machine: what is thrown is caught; the kinds that are caught may not be resolved yet ===== -/
theorem mj_go_cold {E : CtlPost} {e : Env} {d : Bool} {acts : List Action} {s : State} {f : JFrame} {a : Addr} {Q : Handler → Pre} {x : ExceptionTableEntry} {t : List ExceptionTableEntry} {c : ClassId} {vm' : Vm} {cell : Cell} (hx : covers x f.pc = true) (h0 : x.catchType ≠ 0)
    (hg : (Jvm.resolveClass f.method.cls x.catchType).Gives e.toSetting s.vm (.ok c) vm') (hsz : vm'.classes.size ≤ s.vm.classes.size) (hcell : s.heap[a]? = some cell) (hobj : ∀ k, cell.vm ≠ .statics k)
    (hk : ∃ k, vm'.classes[cell.cls]? = some k) (hc : ∃ k, vm'.classes[c]? = some k) :
    wp (findHandler.go f a (x :: t)) Q E e d acts s ↔ if vm'.assignable cell.cls c = true then Q (.found x.handlerPc) d acts (s.setVm vm') else wp (findHandler.go f a t) Q E e d acts (s.setVm vm') := by
  simp only [covers] at hx
  obtain ⟨ha, ht⟩ := hg.op (op := VmOp.resolveClass f.method.cls x.catchType) rfl
  cases hfit : vm'.assignable cell.cls c <;>
    simp [findHandler.go, hx, h0, ha, ht, hsz, hcell, hobj, hk, hc, hfit, VmOp.dirties, VmOp.acts]
section MJK
variable {p : Program} {l : Launch} {e : Env} {R : Room} {s : State} {m : MethodId} {args : Array Value} {below : List Frame} {meth : Method} {c : Code} {H : Heap} {locs : List Loc} {cells slots : Nat}
variable {D : va_G} {cl cl0 : List vw_C} {tys : List (ClassId × FieldType)} {Ts : List Cond} {own : String} {px : Nat → Option Nat} {PT : List (String × Nat × Nat)} {MT : List (String × Nat × Bool)}
theorem mj_find {f : JFrame} {a : Addr} (hpl : e.platform.magicAccessors = ({} : Platform).magicAccessors) (hown : s.vm.findClass own = some f.method.cls) (hts : ∀ w ∈ Ts, w.before args s = true) (hsub : mj_sub cl cl0) (hPX : mj_PX cl0 Ts own px) (hK : va_K D cl tys s) (hXP : mj_XP cl0 PT MT s)
    {ci : Nat} {q : vw_C} (hci : cl[ci]? = some q) {cell : Cell} (hcls : cell.cls = D.1 ci) (hvm : cell.vm = .none) :
    ∀ (L : List ExceptionTableEntry) (U : State), s.WarmedH U.vm → U.heap[a]? = some cell → ∀ h, mj_hd px f.pc ci (L.map fun x => (x.startPc, x.endPc, x.handlerPc, x.catchType)) = some h →
      ∃ vm', s.WarmedH vm' ∧ ∀ (Q : Handler → Pre) (E : CtlPost) (d : Bool) (acts : List Action), wp (findHandler.go f a L) Q E e d acts U ↔ Q (.found h) d acts (U.setVm vm') := by
  intro L
  induction L with
  | nil =>
    intro U hW hcell h hh
    simp [mj_hd] at hh
  | cons x t ih =>
    intro U hW hcell h hh
    simp only [List.map_cons, mj_hd] at hh
    split at hh
    · rename_i hcov
      have hx : covers x f.pc = true := by simp [covers, hcov.1, hcov.2]
      split at hh
      · cases hh
      rename_i h0
      split at hh
      · rename_i cj hpx
        obtain ⟨r, hr0, hl⟩ := hPX _ _ hpx
        simp only [Option.ite_none_right_eq_some] at hh
        obtain ⟨hexj, hh⟩ := hh
        have hr := hsub.2 cj r hexj hr0
        obtain ⟨c', hc', hcl⟩ := Cond.classLink_spec hown (hts _ hl) e.platform hpl
        obtain ⟨dk, _, _, kt, hd, _, _, _, _, hkt, _, hopen⟩ := hcl.here
        have hcl0 := hW.classLinks hcl
        have hW' : s.WarmedH (U.vm.noted f.method.cls x.catchType (.cls c')) := hW.noted hd hopen (State.rightAt_cls hcl)
        have hg : (Jvm.resolveClass f.method.cls x.catchType).Gives e.toSetting U.vm (.ok c') (U.vm.noted f.method.cls x.catchType (.cls c')) := resolveClass_links e.toSetting hcl0
        generalize U.vm.noted f.method.cls x.catchType (.cls c') = vm1 at hW' hg
        have hcj : c' = D.1 cj := Option.some.inj (hc'.symm.trans (hK.1 cj r hr).2.1)
        obtain ⟨-, hfc, kS, hkS, -⟩ := hK.1 ci q hci
        obtain ⟨kS', hkS', -⟩ := hW'.alike.2.2 _ _ hkS
        obtain ⟨kt', hkt', -⟩ := hW'.alike.2.2 _ _ hkt
        have hsz : vm1.classes.size ≤ U.vm.classes.size := by rw [hW'.alike.2.1, hW.alike.2.1]; exact Nat.le_refl _
        have key := fun (Q : Handler → Pre) (E : CtlPost) (d : Bool) (acts : List Action) => mj_go_cold (E := E) (Q := Q) (d := d) (acts := acts) (t := t) hx h0 hg hsz hcell (fun k hk => by rw [hvm] at hk; cases hk) ⟨kS', by rw [hcls]; exact hkS'⟩ ⟨kt', hkt'⟩
        split at hh
        · rename_i e1
          subst e1
          cases hh
          refine ⟨vm1, hW', fun Q E d acts => ?_⟩
          rw [key, if_pos (by rw [hcls, hcj]; exact va_asg _ _)]
        · rename_i hne
          split at hh
          · rename_i hex
            have hA : vm1.assignable cell.cls c' = false := by
              rw [hW'.alike.assignable, hcls, hcj]
              exact hXP.2.2 ci cj q r _ _ (Ne.symm hne) hex hexj (hsub.1 _ _ hci) hr0 hfc (hK.1 cj r hr).2.1
            obtain ⟨vm2, hW2, hk2⟩ := ih (U.setVm vm1) hW' hcell h hh
            refine ⟨vm2, hW2, fun Q E d acts => ?_⟩
            rw [key, if_neg (by rw [hA]; decide)]
            exact hk2 Q E d acts
          · cases hh
      · cases hh
    · rename_i hcov
      have hx : covers x f.pc = false := by
        simp only [covers, Bool.and_eq_false_iff, decide_eq_false_iff_not]
        exact Decidable.not_and_iff_or_not.mp hcov
      obtain ⟨vm2, hW2, hk2⟩ := ih U hW hcell h hh
      exact ⟨vm2, hW2, fun Q E d acts => (Jvm.W.findHandler_go_skip hx).trans (hk2 Q E d acts)⟩
theorem mj_stepCatch {V V' : State} {a : Addr} {f : JFrame} {r : List Frame} {pc : Nat} (hfind : ∀ (Q : Handler → Pre) (E : CtlPost) (d : Bool) (acts : List Action), wp (findHandler f a) Q E e d acts V ↔ Q (.found pc) d acts V') :
    (stepThrowing e V a (.java f :: r)).Is (V'.setFrames (.java { f with pc := pc, stack := [.ref a] } :: r)) [] := by
  simp only [stepThrowing, searchFrame, vmDo]
  generalize hr : Sem.go _ e false [] V = res
  obtain ⟨as, rfl, ha⟩ := Sem.eq_ok_of hr (a := Handler.found pc) (s' := V') (acts' := []) (by simp [hfind _ _ _ _])
  exact ⟨rfl, ha⟩
theorem mj_catch {T : State} (X : Stand p l e R s m args below meth c T locs cells slots) (hown : s.vm.findClass own = some m.cls) (hts : ∀ w ∈ Ts, w.before args s = true) (hsub : mj_sub cl cl0) (hPX : mj_PX cl0 Ts own px) (hK : va_K D cl tys s) (hXP : mj_XP cl0 PT MT s)
    {ci : Nat} {q : vw_C} (hci : cl[ci]? = some q) {a : Addr} {cell : Cell} (hcell : T.heap[a]? = some cell) (hcls : cell.cls = D.1 ci) (hvm : cell.vm = .none) {pc h : Nat} {ls : Array Slot} {st : List Value}
    (hh : mj_hd px pc ci (c.exceptionTable.toList.map fun x => (x.startPc, x.endPc, x.handlerPc, x.catchType)) = some h) :
    ∃ vm', s.WarmedH vm' ∧ ∀ target, Steps p.tables e below ((T.setVm vm').setTop (F0 m h ls [.ref a])) target → Steps p.tables e below ((T.setTop (F0 m pc ls st)).pushFrame (.throwing a)) target := by
  have hpl : e.platform.magicAccessors = ({} : Platform).magicAccessors := by rw [X.admits.platform]
  obtain ⟨vm', hW', hgo⟩ := mj_find (e := e) (f := F0 m pc ls st) (a := a) hpl hown hts hsub hPX hK hXP hci hcls hvm c.exceptionTable.toList ((T.setTop (F0 m pc ls st)).pushFrame (.throwing a)) (by rw [Stand.throwing_vm]; exact X.warmed) (by rw [Stand.throwing_heap]; exact hcell) h hh
  refine ⟨vm', hW', fun target hrest => ?_⟩
  have hat : At T (F0 m pc ls st).method c below := X.here
  obtain ⟨hgoes, hw⟩ := hat.throwing a
  refine Steps.head hgoes hw ?_
  have hm : ((T.setTop (F0 m pc ls st)).pushFrame (.throwing a)).vm.method? (F0 m pc ls st).method = some meth := by rw [Stand.throwing_vm]; exact X.method'
  rw [stepThread_throwing (frames_entered hat.top _), (mj_stepCatch (V := (T.setTop (F0 m pc ls st)).pushFrame (.throwing a)) (fun Q E d acts => (Jvm.W.findHandler_eq hm X.code).trans (hgo Q E d acts))).1]
  obtain ⟨g₀, hg⟩ := Option.isSome_iff_exists.mp hat.top
  obtain ⟨r, hr⟩ := State.topJava?_eq_some.mp hg
  have hr' : (T.setVm vm').frames = .java g₀ :: r := hr
  rw [State.setTop_of_frames _ hr'] at hrest
  have e9 : ∀ X1 Y1 : List Frame, ((T.setFrames X1).setVm vm').setFrames Y1 = (T.setVm vm').setFrames Y1 := fun X1 Y1 => by
    show ((T.setVm vm').setFrames X1).setFrames Y1 = _
    rw [State.setFrames_setFrames]
  rw [State.pushFrame, State.setTop_of_frames _ hr, State.setFrames_setFrames, hr, e9]
  exact hrest
end MJK
theorem mj_cw_tab {q : mj_Mi} {A : Array Value} {U : State} {mk : MethodId} {meth : Method} {c : Code} (hn : U.methodNamed? q.1 = some mk) (hm : U.vm.method? mk = some meth) (hc : meth.code = some c) (h : (mj_cw q).before A U = true) : c.exceptionTable.toList.map (fun x => (x.startPc, x.endPc, x.handlerPc, x.catchType)) = q.2.2.2.2.2.2.2 := by
  unfold mj_cw at h
  split at h
  · rename_i e1
    obtain ⟨meth', c', h1, h2, h3, h4, h5, h6, h7, h8⟩ := Cond.code_spec hn h
    cases hm.symm.trans h1
    cases hc.symm.trans h2
    rw [e1]
    have h9 : c.exceptionTable.toList = [] := by simpa using h7
    rw [h9]; rfl
  · rename_i h0 t0 e1
    obtain ⟨m', meth', c', hname', hmeth, hcode, hbytes, hlocals, htable, hret, hlocks, hsig⟩ := Cond.codeWith_spec h
    cases hn.symm.trans hname'
    cases hm.symm.trans hmeth
    cases hc.symm.trans hcode
    rw [e1]
    exact htable
