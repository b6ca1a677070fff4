/-! ===== THE SMALL MACHINE IS THE MACHINE ===== -/
section MJE
variable {p : Program} {l : Launch} {e : Env} {R : Room} {s : State} {m : MethodId} {args : Array Value} {below : List Frame} {meth : Method} {c : Code} {H : Heap} {locs : List Loc}
variable {cc : ByteArray} {pc nL n base C S cs ss d : Nat} {ls : Array Slot} {lv : List (Nat × Value)} {st : List Value} {i : Instr} {D : va_G} {cl cl0 : List vw_C} {tc : Nat → ClassId} {ext : Nat → Nat} {fx : Nat → va_E} {f : Nat → va_E} {TY : List FieldType} {Ts : List Cond} {XF : State → Prop} {own : String} {ret : Option FieldType} {cty : Nat → Nat → FieldType} {po : mj_Po} {call : mj_CF} {STR : List (String × Nat × String)} {SG : List (String × String × String × Value)} {EXF : List (String × String × String)} {PR : Nat → Option mj_Mi} {PO : Nat → mj_Po} {q : mj_Mi} {PT : List (String × Nat × Nat)} {MT : List (String × Nat × Bool)}
theorem mj_g8_ok {o : mj_Out} {Q : State → Prop} (hexec : p.tables.exec = Jvm.exec) (hb : c.code = cc) (hdg : decode cc pc = .ok (i, mj_ln i)) (hr : meth.sig.returnType = ret) (hlocks : meth.locks = false) (hbase : base ≤ s.heap.size) (hM : mj_M D cl tc ext fx base n f H) (hS : va_S (mj_B base) s.heap H locs)
    (h : mj_g8 ret i st = some o) (kr : ∀ v, o = .inl v → Q = mj_MQ below (mj_Post D cl tc ext fx base (.inl v) n f) s cs ss (mj_B base))
    (kt : ∀ x, o = .inr x → ∀ st1 : List Value, mj_TH p l e R s m args below meth c H locs cs ss Q (F0 m pc ls (mj_st (mj_r ext base) st1)) (mj_r ext base x)) : W p l e R s m args below meth c H locs cs ss Q (F0 m pc ls (mj_st (mj_r ext base) st)) := by
  have fin : ∀ (out : mj_Out) (t : State), t.heap = H → mj_Post D cl tc ext fx base out n f s (mj_Ou (mj_r ext base) out) t := fun out t ht => ⟨rfl, by rw [ht]; exact hM, fun q hq => by rw [ht]; exact mj_S_below hbase hS hq⟩
  cases i <;> simp only [mj_g8, reduceCtorEq] at h
  case ireturn =>
    split at h <;> (try simp only [reduceCtorEq] at h)
    split at h <;> simp only [Option.ite_none_right_eq_some, Option.some.injEq, reduceCtorEq] at h
    obtain ⟨h1, rfl⟩ := h
    rw [kr _ rfl]
    exact mj_Wmono (fun t ht => mj_MQ_of (a := args) ht) (W.zret (Qc := fun _ => mj_Post D cl tc ext fx base _ n f) hexec hb hr (mj_fit_ok h1 (fun x => x)).1 (fun t ht _ => fin (.inl (some (.int _))) t ht) hS.2.2 hdg hlocks)
  case lreturn =>
    split at h <;> simp only [Option.ite_none_right_eq_some, Option.some.injEq, reduceCtorEq] at h
    obtain ⟨h1, rfl⟩ := h
    rw [kr _ rfl]
    exact mj_Wmono (fun t ht => mj_MQ_of (a := args) ht) (W.lret (Qc := fun _ => mj_Post D cl tc ext fx base _ n f) hexec hb (hr.trans h1) (fun t ht _ => fin (.inl (some (.long _))) t ht) hS.2.2 hdg hlocks)
  case areturn =>
    split at h <;> (try simp only [reduceCtorEq] at h)
    rename_i C0
    split at h <;> simp only [Option.some.injEq, reduceCtorEq] at h
    · subst h
      rw [kr _ rfl]
      exact mj_Wmono (fun t ht => mj_MQ_of (a := args) ht) (W.aret (Qc := fun _ => mj_Post D cl tc ext fx base _ n f) hexec hb hr (Or.inl ⟨C0, rfl⟩) (Or.inr ⟨_, rfl⟩) (fun t ht _ => fin (.inl (some (.ref _))) t ht) hS.2.2 hdg hlocks)
    · subst h
      rw [kr _ rfl]
      exact mj_Wmono (fun t ht => mj_MQ_of (a := args) ht) (W.aret (Qc := fun _ => mj_Post D cl tc ext fx base _ n f) hexec hb hr (Or.inl ⟨C0, rfl⟩) (Or.inl rfl) (fun t ht _ => fin (.inl (some .null)) t ht) hS.2.2 hdg hlocks)
  case return_ =>
    split at h <;> simp only [Option.ite_none_right_eq_some, Option.some.injEq, reduceCtorEq] at h
    obtain ⟨h1, rfl⟩ := h
    rw [kr _ rfl]
    exact mj_Wmono (fun t ht => mj_MQ_of (a := args) ht) (W.vret (Qc := fun _ => mj_Post D cl tc ext fx base _ n f) hexec hb (hr.trans h1) (fun t ht _ => fin (.inl none) t ht) hS.2.2 hdg hlocks)
  case athrow =>
    split at h <;> simp only [Option.some.injEq, reduceCtorEq] at h
    rename_i a r
    subst h
    intro T hT X
    obtain ⟨t, a1, b1⟩ := kt a rfl r T hT X
    refine ⟨t, ?_, b1⟩
    have hat : At T (F0 m pc ls (mj_st (mj_r ext base) (.ref a :: r))).method c below := X.here
    have hd9 : decode c.code (F0 m pc ls (mj_st (mj_r ext base) (.ref a :: r))).pc = .ok (.athrow, 1) := by rw [hb]; exact hdg
    have hst9 : (F0 m pc ls (mj_st (mj_r ext base) (.ref a :: r))).stack = .ref (mj_r ext base a) :: mj_st (mj_r ext base) r := rfl
    jvm_step hat [hexec, hd9, athrow.wp_sem, hst9]
    exact ⟨_, _, rfl, a1⟩
theorem mj_step_ok {r : mj_Cfg ⊕ mj_End} {Q : State → Prop}
    (hexec : p.tables.exec = Jvm.exec) (hb : c.code = cc) {len : Nat} (hdg : decode cc pc = .ok (i, len)) (hlen : mj_sw i = false → len = mj_ln i) (hml : c.maxLocals = q.2.2.1) (hown : s.vm.findClass po.1 = some m.cls) (hr : meth.sig.returnType = q.2.2.2.1) (hlocks : meth.locks = false) (hTB : mj_TB cc q.2.2.2.2.1) (hNT : ∀ e : Env, l.admits e → e.platform.stackTraces = false) (hNS : ∀ q : Nat, base ≤ q → ∀ cell, s.heap[q]? = some cell → cell.vm.isStatics = false) (hsub : mj_sub cl cl0) (hXP : mj_XP cl0 PT MT s) (hini : q.2.2.2.2.2.2.1 = true → meth.name = "<init>") (hR : R = mj_rm (d + 1) C S)
    (hXO : mj_XO cl0 TY STR SG EXF ext fx base s) (hbase : base ≤ s.heap.size) (hWm : mj_Wm base Ts XF) (hG : mj_G D cl tc TY Ts XF s) (hCL : mj_CL cl0 Ts cty) (hAC : mj_AC TY Ts) (hPl : mj_Pl cl0 Ts TY STR SG EXF PR po)
    (hcall : ∀ mi av n f C S out n' f' c' s', call mi av n f C S = some (out, n', f', c', s') → ∀ q, PR mi = some q → mj_Met l D cl tc TY Ts XF ext fx base d C S q av n f out n' f' c' s')
    (hl : lv_has ls q.2.2.1 (mj_l (mj_r ext base) lv)) (hM : mj_M D cl tc ext fx base n f H) (hS : va_S (mj_B base) s.heap H locs) (h : mj_step PT MT d TY cl cty po call C S q i pc lv st n f cs ss = some r)
    (kl : ∀ pc' lv' st' n' f' cs' ss', r = .inl (pc', lv', st', n', f', cs', ss') → ∀ (H1 : Heap) (locs1 : List Loc) (ls1 : Array Slot), lv_has ls1 q.2.2.1 (mj_l (mj_r ext base) lv') → mj_M D cl tc ext fx base n' f' H1 → va_S (mj_B base) s.heap H1 locs1 → W p l e R s m args below meth c H1 locs1 cs' ss' Q (F0 m pc' ls1 (mj_st (mj_r ext base) st')))
    (kr : ∀ v n' f' cs' ss', r = .inr (.inl v, n', f', cs', ss') → Q = mj_MQ below (mj_Post D cl tc ext fx base (.inl v) n' f') s cs' ss' (mj_B base))
    (kt : ∀ x n' f' cs' ss', r = .inr (.inr x, n', f', cs', ss') → ∀ (H1 : Heap) (locs1 : List Loc) (st1 : List Value), mj_M D cl tc ext fx base n' f' H1 → va_S (mj_B base) s.heap H1 locs1 → mj_TH p l e R s m args below meth c H1 locs1 cs' ss' Q (F0 m pc ls (mj_st (mj_r ext base) st1)) (mj_r ext base x)) :
    W p l e R s m args below meth c H locs cs ss Q (F0 m pc ls (mj_st (mj_r ext base) st)) := by
  obtain ⟨hPF, hPC, hPA, hPI, hPL, hPM, hPO, hPS, hPG, hPX, hPE⟩ := hPl
  have hts : ∀ w ∈ Ts, w.before args s = true := fun w hw => hG.1 w hw args
  unfold mj_step at h
  split at h
  · split at h <;> simp only [Option.some.injEq, reduceCtorEq] at h
    rename_i h1
    exact mj_g1e_ok hexec hb hdg hl h1 (fun ls1 hl1 => kl _ _ _ _ _ _ _ h.symm H locs ls1 hl1 hM hS)
  · rename_i hsw
    have hln := hlen (by simpa using hsw)
    subst hln
    split at h
    · simp only [Option.some.injEq] at h
      rename_i h1
      exact mj_g1a_ok hexec hb hdg hl h1 (fun ls1 hl1 => kl _ _ _ _ _ _ _ h.symm H locs ls1 hl1 hM hS)
    split at h
    · simp only [Option.some.injEq] at h
      rename_i h1
      exact mj_g4_ok hexec hb hdg hts hown hini hsub hCL hPF hG.2.1 hM hS h1 (fun H1 locs1 hM1 hS1 => kl _ _ _ _ _ _ _ h.symm H1 locs1 ls hl hM1 hS1)
    split at h
    · simp only [Option.some.injEq] at h
      rename_i h1
      exact mj_g1d_ok hexec hb hdg hl h1 (fun ls1 hl1 => kl _ _ _ _ _ _ _ h.symm H locs ls1 hl1 hM hS)
    split at h
    · simp only [Option.some.injEq] at h
      rename_i h1
      exact mj_g7_ok hexec hb hdg hml hl.1 hown hR hsub hXO hbase hWm hG hPM hPO hcall hM hS h1 (fun pc1 st1 n1 f1 cs1 ss1 e1 H1 locs1 hM1 hS1 => by cases e1; exact kl _ _ _ _ _ _ _ h.symm H1 locs1 ls hl hM1 hS1) (fun x1 n1 f1 cs1 ss1 e1 => by cases e1)
    · simp only [Option.some.injEq] at h
      rename_i h1
      exact mj_g7_ok hexec hb hdg hml hl.1 hown hR hsub hXO hbase hWm hG hPM hPO hcall hM hS h1 (fun pc1 st1 n1 f1 cs1 ss1 e1 => by cases e1) (fun x1 n1 f1 cs1 ss1 e1 => by cases e1; exact kt _ _ _ _ _ h.symm)
    split at h
    · simp only [Option.some.injEq] at h
      rename_i h1
      exact mj_g2_ok hexec hb hdg hG.2.1 hM h1 (kl _ _ _ _ _ _ _ h.symm H locs ls hl hM hS)
    split at h
    · simp only [Option.some.injEq] at h
      rename_i h1
      exact mj_g1b_ok hexec hb hdg hl h1 (fun ls1 hl1 => kl _ _ _ _ _ _ _ h.symm H locs ls1 hl1 hM hS)
    split at h
    · simp only [Option.some.injEq] at h
      rename_i h1
      exact mj_g8_ok hexec hb hdg hr hlocks hbase hM hS h1 (fun v hv => by subst hv; exact kr _ _ _ _ _ h.symm) (fun x hx st1 => by subst hx; exact kt _ _ _ _ _ h.symm H locs st1 hM hS)
    split at h
    · simp only [Option.some.injEq] at h
      rename_i h1
      exact mj_g1c_ok hexec hb hdg hl h1 (fun ls1 hl1 => kl _ _ _ _ _ _ _ h.symm H locs ls1 hl1 hM hS)
    split at h
    · simp only [Option.some.injEq] at h
      rename_i h1
      exact mj_g3_ok hexec hb hdg hG.2.1 hM hS h1 (fun H1 locs1 hM1 hS1 => kl _ _ _ _ _ _ _ h.symm H1 locs1 ls hl hM1 hS1)
    split at h
    · simp only [Option.some.injEq] at h
      rename_i h1
      exact mj_g6_ok hexec hb hdg hts hown hPI hPL h1 (kl _ _ _ _ _ _ _ h.symm H locs ls hl hM hS)
    split at h
    · simp only [Option.some.injEq] at h
      rename_i h1
      exact mj_gt_ok hexec hb hdg hTB hml hl.1 hts hown hR hNT hNS hsub hXO hXP hPC hPS hG.2.1 hM hS h1 (fun H1 locs1 hM1 hS1 => kl _ _ _ _ _ _ _ h.symm H1 locs1 ls hl hM1 hS1)
    split at h
    · simp only [Option.some.injEq] at h
      rename_i h1
      exact mj_g5_ok hexec hb hdg hts hown (by rw [hR]; exact Nat.le_refl C) (by rw [hR]; exact Nat.le_refl S) hsub hCL hPC hPA hAC hG.2.1 hM hS h1 (fun H1 hM1 hS1 => kl _ _ _ _ _ _ _ h.symm H1 locs ls hl hM1 hS1)
    split at h
    · simp only [Option.some.injEq] at h
      rename_i h1
      exact mj_g9_ok hexec hb hdg h1 (kl _ _ _ _ _ _ _ h.symm H locs ls hl hM hS)
    split at h
    · simp only [Option.some.injEq] at h
      rename_i h1
      exact mj_gx_ok hexec hb hdg hts hown hXO hPS hPG hPE hM hS h1 (kl _ _ _ _ _ _ _ h.symm H locs ls hl hM hS)
    split at h
    · rename_i hCS
      split at h
      · simp only [Option.some.injEq] at h
        rename_i h1
        exact mj_gm_ok hexec hb hdg hml hl.1 hown hR hCS.1 hCS.2 hXP h1 (kl _ _ _ _ _ _ _ h.symm H locs ls hl hM hS)
      · cases h
    · cases h
theorem mj_loop_ok
    (hexec : p.tables.exec = Jvm.exec) (hb : c.code = cc) (hTB : mj_TB cc q.2.2.2.2.1) (hml : c.maxLocals = q.2.2.1) (hown : s.vm.findClass po.1 = some m.cls) (hr : meth.sig.returnType = q.2.2.2.1) (hlocks : meth.locks = false) (htab : c.exceptionTable.toList.map (fun x => (x.startPc, x.endPc, x.handlerPc, x.catchType)) = q.2.2.2.2.2.2.2) (hNT : ∀ e : Env, l.admits e → e.platform.stackTraces = false) (hNS : ∀ q : Nat, base ≤ q → ∀ cell, s.heap[q]? = some cell → cell.vm.isStatics = false) (hsub : mj_sub cl cl0) (hXP : mj_XP cl0 PT MT s) (hini : q.2.2.2.2.2.2.1 = true → meth.name = "<init>") (hR : R = mj_rm (d + 1) C S)
    (hXO : mj_XO cl0 TY STR SG EXF ext fx base s) (hbase : base ≤ s.heap.size) (hWm : mj_Wm base Ts XF) (hG : mj_G D cl tc TY Ts XF s) (hCL : mj_CL cl0 Ts cty) (hAC : mj_AC TY Ts) (hPl : mj_Pl cl0 Ts TY STR SG EXF PR po)
    (hcall : ∀ mi av n f C S out n' f' c' s', call mi av n f C S = some (out, n', f', c', s') → ∀ q, PR mi = some q → mj_Met l D cl tc TY Ts XF ext fx base d C S q av n f out n' f' c' s')
    {out : mj_Out} {n' : Nat} {f' : Nat → va_E} {c' s' : Nat} :
    ∀ (k pc : Nat) (lv : List (Nat × Value)) (st : List Value) (n : Nat) (f : Nat → va_E) (cs ss : Nat), mj_loop PT MT d TY cl cty po call C S q k pc lv st n f cs ss = some (out, n', f', c', s') → ∀ (H : Heap) (locs : List Loc) (ls : Array Slot), lv_has ls q.2.2.1 (mj_l (mj_r ext base) lv) → mj_M D cl tc ext fx base n f H → va_S (mj_B base) s.heap H locs →
      W p l e R s m args below meth c H locs cs ss (mj_MQ below (mj_Post D cl tc ext fx base out n' f') s c' s' (mj_B base)) (F0 m pc ls (mj_st (mj_r ext base) st)) := by
  intro k
  induction k with
  | zero =>
    intro pc lv st n f cs ss h
    simp [mj_loop] at h
  | succ k ih =>
    intro pc lv st n f cs ss h H locs ls hl hM hS
    unfold mj_loop at h
    split at h
    · cases h
    rename_i i hi
    obtain ⟨len, hdg, hlen⟩ := hTB pc i hi
    split at h
    · rename_i hst
      exact mj_step_ok hexec hb hdg hlen hml hown hr hlocks hTB hNT hNS hsub hXP hini hR hXO hbase hWm hG hCL hAC hPl hcall hl hM hS hst (fun pc1 lv1 st1 n1 f1 cs1 ss1 e1 H1 locs1 ls1 hl1 hM1 hS1 => by cases e1; exact ih _ _ _ _ _ _ _ h H1 locs1 ls1 hl1 hM1 hS1) (fun v1 n1 f1 cs1 ss1 e1 => by cases e1) (fun x1 n1 f1 cs1 ss1 e1 => by cases e1)
    · rename_i hst
      cases h
      exact mj_step_ok hexec hb hdg hlen hml hown hr hlocks hTB hNT hNS hsub hXP hini hR hXO hbase hWm hG hCL hAC hPl hcall hl hM hS hst (fun pc1 lv1 st1 n1 f1 cs1 ss1 e1 => by cases e1) (fun v1 n1 f1 cs1 ss1 e1 => by cases e1; rfl) (fun x1 n1 f1 cs1 ss1 e1 => by cases e1)
    · rename_i x n2 f2 cs2 ss2 hst
      refine mj_step_ok hexec hb hdg hlen hml hown hr hlocks hTB hNT hNS hsub hXP hini hR hXO hbase hWm hG hCL hAC hPl hcall hl hM hS hst (fun pc1 lv1 st1 n1 f1 cs1 ss1 e1 => by cases e1) (fun v1 n1 f1 cs1 ss1 e1 => by cases e1) (fun x1 n1 f1 cs1 ss1 e1 H1 locs1 st1 hM1 hS1 => ?_)
      cases e1
      intro T hT X
      split at h
      · rename_i hnil
        cases h
        obtain ⟨w1, w2, w3, w4, w5⟩ := X.leaveThrown (mj_r ext base x) (g := F0 m pc ls (mj_st (mj_r ext base) st1)) rfl rfl rfl (fun y hy => by
          have h9 : c.exceptionTable.toList = [] := by
            rw [hnil] at htab
            exact List.map_eq_nil_iff.mp htab
          rw [h9] at hy; cases hy) hlocks
        refine ⟨_, w1, .threw (mj_r ext base x), w2, w3, ⟨rfl, ?_, fun q hq => ?_⟩, locs1, ⟨w4, w5⟩, hS1.2.2⟩
        · show mj_M D cl tc ext fx base _ _ T.heap
          rw [hT]; exact hM1
        · show T.heap[q]? = s.heap[q]?
          rw [hT]; exact mj_S_below hbase hS1 hq
      · rename_i h0 hs0 hcons
        split at h
        · rename_i hp hct
          unfold mj_ct at hct
          simp only [Option.ite_none_right_eq_some] at hct
          obtain ⟨⟨g1, g2⟩, hct⟩ := hct
          split at hct
          · rename_i ci fs e3
            have hP := hM1.2.2.1 x g1 g2
            rw [e3] at hP
            obtain ⟨r, hr1, cell, q1, q2, q3, -⟩ := hP
            obtain ⟨hPF, hPC, hPA, hPI, hPL, hPM, hPO, hPS, hPG, hPX, hPE⟩ := hPl
            obtain ⟨vm', hW', hst'⟩ := mj_catch X hown (fun w hw => hG.1 w hw args) hsub hPX hG.2.1 hXP hr1 (a := mj_r ext base x) (by rw [hT]; exact q1) q2 q3 (pc := pc) (h := hp) (ls := ls) (st := mj_st (mj_r ext base) st1) (by rw [htab, hcons]; exact hct)
            obtain ⟨t, a1, b1⟩ := ih _ _ _ _ _ _ _ h H1 locs1 ls hl hM1 hS1 (T.setVm vm') hT (X.noted hW')
            exact ⟨t, hst' t a1, b1⟩
          · cases hct
        · cases h
    · cases h
end MJE
