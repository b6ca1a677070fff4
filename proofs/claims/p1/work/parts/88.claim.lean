/-! ===== the claim, out of a run of the small machine over the law's own body ===== -/
def mc_law (fv : Value) (fuel L : Nat) (xs : Nat → Int32) : Option mj_End := mj_loop mc_PT mc_MT 1049 mc_TY mc_cm mc_ty (mc_PO fv 14) (mj_call mc_PT mc_MT mc_TY mc_cm mc_ty (mc_PO fv) mc_PR fuel 1049) 600002 7302232 mp_law fuel 0 (lv_args 0 [.ref 0]) [] 32 (mc_fx L xs) 0 0
/-- the law says true of the script xs of L ints, by the small machine -/
def mc_true (L : Nat) (xs : Nat → Int32) : Prop := ∀ fv : Value, fv = .null ∨ fv = .ref 31 → ∃ (fuel n' : Nat) (f' : Nat → va_E) (c' s' : Nat), mc_law fv fuel L xs = some (.inl (some (.int 1)), n', f', c', s') ∧ c' ≤ 600002 ∧ s' ≤ 7302232
def R_law : String := "SuiteKeeperLaw"
def lw_P (b : Addr) (xs : List Int32) (args : Array Value) (s : State) : Prop := args = #[.ref b] ∧ s.IntsAt b xs ∧ xs.length ≤ 4 ∧ (Jvm.Cond.and given_1 narrow_1).before args s = true
def lw_Q (_ : Array Value) (s : State) (o : Outcome) (t : State) : Prop := o = .returned (some (.int 1)) ∧ Framed s o t [] 600002 7302232
def lw_Z (below : List Frame) (a : Array Value) (s : State) : State → Prop := fun t => ∃ o, t.status = .running ∧ Ended t below o ∧ lw_Q a s o t
def lw_At (p : Program) (s : State) (m : MethodId) (meth : Method) (c : Code) (b L : Nat) (xs : Nat → Int32) : Prop :=
  p.tables.exec = Jvm.exec ∧ c.code = code ∧ meth.sig.returnType = ret ∧ c.maxLocals = 7 ∧ s.vm.findClass R_law = some m.cls ∧ (∀ w ∈ lw_tbl, w.before #[Value.ref b] s = true) ∧ va_X b L xs s s.heap ∧ b < s.heap.size ∧ meth.locks = false ∧ (Jvm.Cond.and given_1 narrow_1).before #[Value.ref b] s = true
theorem mc_room {s : State} {pl : Platform} (h : s.hasRoom pl room_1 = true) : s.hasRoom pl (mj_rm (1049 + 1) 600002 7302232) = true := by
  unfold State.hasRoom at h ⊢
  simp only [Bool.and_eq_true, decide_eq_true_eq] at h ⊢
  have r1 : room_1.frames = 2048 := rfl
  have r2 : room_1.cells = 600002 := rfl
  have r3 : room_1.slots = 7302232 := rfl
  have r4 : room_1.locals = 84000 := rfl
  have m1 : (mj_rm (1049 + 1) 600002 7302232).frames = 1050 := rfl
  have m2 : (mj_rm (1049 + 1) 600002 7302232).cells = 600002 := rfl
  have m3 : (mj_rm (1049 + 1) 600002 7302232).slots = 7302232 := rfl
  have m4 : (mj_rm (1049 + 1) 600002 7302232).locals = 84000 := rfl
  rw [r1, r2, r3, r4] at h
  rw [m1, m2, m3, m4]
  obtain ⟨⟨⟨⟨h1, h2, h3, h4, h5, h6⟩, h7⟩, h8⟩, h9⟩ := h
  exact ⟨⟨⟨⟨by omega, by omega, by omega, by omega, by omega, h6⟩, by omega⟩, by omega⟩, h9⟩
theorem whole_start {p : Program} {e : Env} {s : State} {m : MethodId} {below : List Frame} {meth : Method} {c : Code} (l : Launch) {b L : Nat} {xs : Nat → Int32} (hNT : ∀ e : Env, l.admits e → e.platform.stackTraces = false) (hnone : c.exceptionTable.isEmpty = true) (hp : mc_true L xs) (C0 : lw_At p s m meth c b L xs) : W p l e room_1 s m #[Value.ref b] below meth c s.heap [] 0 0 (lw_Z below #[Value.ref b] s) (entryFrame m ([Value.ref b] : List Value).toArray 7) := by
  obtain ⟨hexec, hb, hr, hml, hown, hts, hX, hbl, hlocks, hgv⟩ := C0
  obtain ⟨fv, ext, hfv, hb0, hXF⟩ := mc_start hts hX hbl hgv
  obtain ⟨D, tc, hK⟩ := mc_K (mc_words hts)
  obtain ⟨fuel, n', f', c', s', hrun, hc', hs'⟩ := hp fv hfv
  have hG : mj_G D mc_cm tc mc_TY mj_Ts (mc_XF fv ext (mc_fx L xs) s.heap.size) s := ⟨mc_words hts, hK, hXF⟩
  have hM : mj_M D mc_cm tc ext (mc_fx L xs) s.heap.size 32 (mc_fx L xs) s.heap := ⟨Nat.le_refl _, rfl, fun k h1 h2 => absurd h2 (Nat.not_lt.mpr h1), fun k _ => rfl⟩
  have htab : c.exceptionTable.toList.map (fun x => (x.startPc, x.endPc, x.handlerPc, x.catchType)) = mp_law.2.2.2.2.2.2.2 := by
    have h9 : c.exceptionTable.toList = [] := by simpa using hnone
    rw [h9]; rfl
  have hNS : ∀ q : Nat, s.heap.size ≤ q → ∀ cell, s.heap[q]? = some cell → cell.vm.isStatics = false := fun q hq cell hc => absurd (Array.getElem?_eq_some_iff.mp hc).1 (Nat.not_lt.mpr hq)
  have e0 : mj_st (mj_r ext s.heap.size) [.ref 0] = [Value.ref b] := by
    show [Value.ref (mj_r ext s.heap.size 0)] = _
    rw [show mj_r ext s.heap.size 0 = ext 0 from rfl, hb0]
  have hl := lv_entry (mj_st (mj_r ext s.heap.size) [.ref 0]) (n := 7) (by rw [mj_sl]; decide)
  rw [mj_la, e0] at hl
  intro T hT X
  have X' : Stand p l e (mj_rm (1049 + 1) 600002 7302232) s m #[Value.ref b] below meth c T [] 0 0 := { X with room := mc_room X.room }
  have K := mj_loop_ok (p := p) (l := l) (e := e) (R := mj_rm (1049 + 1) 600002 7302232) (s := s) (m := m) (args := #[Value.ref b]) (below := below) (meth := meth) (c := c) (cl := mc_cm) (cl0 := mc_cl) (tc := tc) (ext := ext) (fx := mc_fx L xs) (D := D) (XF := mc_XF fv ext (mc_fx L xs) s.heap.size) (PR := mc_PR) (PT := mc_PT) (MT := mc_MT) (q := mp_law) (po := mc_PO fv 14) (STR := mc_STR) (SG := mc_SG fv) (EXF := mc_EXF) (TY := mc_TY) (Ts := mj_Ts) (cty := mc_ty) (d := 1049) (base := s.heap.size) (C := 600002) (S := 7302232) (cc := code)
    hexec hb (mj_TB_of mb_law) hml hown hr hlocks htab hNT hNS mc_sub (mc_XF_XP s hXF) (fun h => by cases h) rfl hXF.1 (Nat.le_refl _) mc_Wm hG mc_CL mc_AC (mr_14 fv) (fun mi av n f C S out n' f' c' s' hc q hq => mc_met hNT hc hq)
    fuel 0 (lv_args 0 [.ref 0]) [] 32 (mc_fx L xs) 0 0 hrun s.heap [] _ hl hM va_S.rf
  have e1 : entryFrame m ([Value.ref b] : List Value).toArray 7 = F0 m 0 ((lg_sl [Value.ref b] ++ List.replicate (7 - (lg_sl [Value.ref b]).length) Slot.unset).toArray) [] := lg_entry_eq m [Value.ref b] 7
  rw [e1]
  obtain ⟨t, a1, o, b1, b2, ⟨ho, -, -⟩, LL, ⟨g1, g2⟩, g3⟩ := K T hT X'
  have ho' : o = .returned (some (.int 1)) := ho
  refine ⟨t, a1, o, b1, b2, ho', ⟨_, ho'⟩, g1, ?_⟩
  exact g2.weaken (fun y hy hlt => absurd (show s.heap.size ≤ y.base from g3 y hy) (Nat.not_le.mpr hlt)) hc' hs'
set_option maxHeartbeats 4000000 in
theorem lw_walk (l : Launch) (hNT : ∀ e : Env, l.admits e → e.platform.stackTraces = false) (hp : ∀ (L : Nat) (xs : Nat → Int32), L ≤ 4 → mc_true L xs) (b : Addr) (xs : List Int32) : MetFree l x (headSpec (Jvm.Cond.code x code maxLocals ret :: tables_1) room_1) (lw_P b xs) (fun _ _ _ _ _ => True) lw_Q := by
  refine MetFree.of_bodyS (code := code) (maxLocals := maxLocals) (ret := ret) (by decide) ?_ ?_
  · intro args s m h hn
    obtain ⟨meth, c, h1, h2, h3, h4, h5, h6, -, -⟩ := Cond.code_spec hn (atoms_spec (ws := Jvm.Cond.code x code maxLocals ret :: tables_1) h _ List.mem_cons_self)
    exact ⟨meth, c, h1, h2, h3, h4, h5, h6⟩
  · intro p e s m args below meth c s₁ B hml0 hP _
    obtain ⟨rfl, hx, hbd, hgv⟩ := hP
    obtain ⟨scr, harrAt, hlist, hof, hsmall⟩ := hx
    obtain ⟨hcb, hkn, -, -⟩ := State.arrayAt?_spec harrAt
    have hown : s.vm.findClass R_law = some m.cls := findClass_of_methodNamed B.named
    have hts0 : ∀ c ∈ (Jvm.Cond.code x code maxLocals ret :: tables_1), c.before #[Value.ref b] s = true := atoms_spec (ws := Jvm.Cond.code x code maxLocals ret :: tables_1) B.pre
    have hts : ∀ w ∈ lw_tbl, w.before #[Value.ref b] s = true := k2_hts_sels lw_privs (fun w hw => hts0 w (List.mem_cons_of_mem _ hw)) lw_privs_ok
    have hml : c.maxLocals = 7 := B.maxLocals_eq (hts0 _ List.mem_cons_self)
    have hnone : c.exceptionTable.isEmpty = true := B.noHandlers (hts0 _ List.mem_cons_self)
    have X₀ : Stand p l e room_1 s m #[Value.ref b] below meth c s₁ [] 0 0 := Stand.of_body B
    have hh0 : s₁.heap = s.heap := by rw [B.state]; rfl
    have hsz : scr.slots.size = xs.length := by rw [← Array.length_toList, hlist, List.length_map]
    have hval : ∀ j : Nat, j < xs.length → scr.slots[j]? = some (.int (xs.getD j 0)) := fun j hj => by
      rw [← Array.getElem?_toList, hlist]
      simp [hj]
    have hbl : b < s.heap.size := (Array.getElem?_eq_some_iff.mp hcb).1
    have hX : va_X b xs.length (fun j => xs.getD j 0) s s.heap := ⟨scr, hcb, hof, hkn, hsz, hval⟩
    have K : W p l e room_1 s m #[Value.ref b] below meth c s₁.heap [] 0 0 (lw_Z below #[Value.ref b] s) (entryFrame m ([Value.ref b] : List Value).toArray 7) := by
      rw [hh0]
      exact whole_start l hNT hnone (hp _ _ hbd) ⟨B.exec, B.bytes, B.returns, hml, hown, hts, hX, hbl, B.notSynchronized, hgv⟩
    obtain ⟨t, a1, o, b1, b2, b3⟩ := K s₁ rfl X₀
    exact ⟨t, o, a1, b1, b2, b3⟩
theorem lw_pre_spec {args : Array Value} {s : State} (h : (Jvm.Cond.and given_1 narrow_1).before args s = true) (hr : rest_1_c.before args s = true) : ∃ (b : Addr) (xs : List Int32), lw_P b xs args s := by
  have hs := flat_of_before _ h
  have hq := flat_of_before _ hr
  have hc : (Cond.count 1).before args s = true := hs _ (by decide +kernel)
  have harr : (Cond.arrayOf (.arg 0) .int).before args s = true := hs _ (by decide +kernel)
  have hle : (Cond.le (.length (.arg 0)) (.int 4)).before args s = true := hs _ (by decide +kernel)
  have hlen : (Cond.isInt (.length (.arg 0))).before args s = true := hq _ (by decide +kernel)
  have hall : (Cond.all (.arg 0) (.isInt (.elem (.arg 0) (.index 0)))).before args s = true := hq _ (by decide +kernel)
  obtain ⟨b, xs, hb, hx⟩ := State.ints_of_pre rfl harr hlen hall
  have hsm : xs.length < 2 ^ 31 := hx.choose_spec.2.2.2
  have hev : (Term.length (.arg 0)).eval args s none [] s = some (.int xs.length.toInt32) := hx.length_eval hb
  have hv := Cond.le_ints hev (show (Term.int 4).eval args s none [] s = some (.int 4) from rfl)
  have hd : xs.length.toInt32 ≤ 4 := by
    simpa [Cond.before, Cond.holds, hv] using hle
  have hN : xs.length ≤ 4 := (Int32.ofNat_le_ofNat hsm (by decide)).mp (show Int32.ofNat xs.length ≤ Int32.ofNat 4 from hd)
  exact ⟨b, xs, Cond.one_arg hc (show args[0]? = some (.ref b) from hb), hx, hN, h⟩
theorem lw_comes (l : Launch) (hNT : ∀ e : Env, l.admits e → e.platform.stackTraces = false) (hp : ∀ (L : Nat) (xs : Nat → Int32), L ≤ 4 → mc_true L xs) : Comes l x (Jvm.Cond.code x code maxLocals ret :: tables_1) room_1 (fun tb e args s => Calls_1 tb e args s ∧ rest_1 tb e args s ∧ Pre_1 tb e args s)
    (fun _ _ args s o t => lw_Q args s o t) := by
  intro p e ha hc hk s m args below hf hfit hheap happ hpre
  obtain ⟨b, xs, hP⟩ := lw_pre_spec hpre.2.2 hpre.2.1
  obtain ⟨k, o, h1, h2, h3, hQ⟩ := lw_walk l hNT hp b xs p e ha hc hk s m args below hf ((Spec.applies_iff_loose hf).mp happ).1 hP trivial
  exact ⟨k, o, h1, h2, h3, hQ⟩
theorem lw_frame {s t : State} {o : Outcome} {args : Array Value} (h : Framed s o t [] 600002 7302232) :
    Framed s o t (fieldLocs frame_1_writes args s ++ arrayLocs frame_1_arrays args s ++ staticLocs frame_1_statics s) 600002 7302232 := h
theorem lw_limb (hp : ∀ (L : Nat) (xs : Nat → Int32), L ≤ 4 → mc_true L xs) (L : Cond) (hL : ∀ (args : Array Value) (s t : State), L.after args s (.returned (some (.int 1))) t = true) :
    ArmFor flags0 classFile x code maxLocals ret World_1 tables_1 room_1 Calls_1 rest_1 Pre_1
      (fun tb e a s o t => postC L tb e a s o t ∧ Framed s o t (fieldLocs frame_1_writes a s ++ arrayLocs frame_1_arrays a s ++ staticLocs frame_1_statics s) 600002 7302232) := by
  intro l hfl _ _ p e ha hc hk s m args below hf hfit hheap happ hpre
  obtain ⟨k, o, h1, h2, h3, rfl, hF⟩ := lw_comes l (fun e' ha' => Launch.traces_off hfl ha') hp p e ha hc hk s m args below hf hfit hheap happ hpre
  exact ⟨k, _, h1, h2, h3, hL args s _, lw_frame hF⟩
theorem mc_claim (hp : ∀ (L : Nat) (xs : Nat → Int32), L ≤ 4 → mc_true L xs) : Claimed_1_1 ∧ Claimed_1_2 := ⟨lw_limb hp limb_1_1 (fun args s t => by simp [limb_1_1, Cond.after, Cond.holds, Cond.value]), lw_limb hp limb_1_2 (fun args s t => Cond.after_iff.mpr (by
  first | (rw [show limb_1_2 = Cond.eq .result (.int 1) from rfl, Cond.eq_ints (x := 1) (y := 1) rfl rfl]; simp; done) | (simp [limb_1_2, Cond.value, Term.eval]; done)))⟩
