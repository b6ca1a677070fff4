section MJC
variable {p : Program} {l : Launch} {e : Env} {R : Room} {s : State} {m : MethodId} {args : Array Value} {below : List Frame} {meth : Method} {c : Code} {H : Heap} {locs : List Loc} {Q : State → Prop}
variable {cc : ByteArray} {pc nL n n' base C S cs ss c' s' d : Nat} {ls : Array Slot} {st rest : List Value} {i : Instr} {D : va_G} {cl cl0 : List vw_C} {tc : Nat → ClassId} {ext : Nat → Nat} {fx : Nat → va_E} {f f' : Nat → va_E} {TY : List FieldType} {Ts : List Cond} {XF : State → Prop} {own : String} {out : mj_Out}
theorem mj_do {T : State} {vm₁ : Vm} {mk : MethodId} {q : mj_Mi} {av : List Value} {ig : Instr} (hbase : base ≤ s.heap.size) (hml : c.maxLocals = nL) (hls : ls.size = nL) (hdg : decode c.code pc = .ok (ig, 3)) (hR : R = mj_rm (d + 1) C S) (hWm : mj_Wm base Ts XF) (hG : mj_G D cl tc TY Ts XF s) (hS : va_S (mj_B base) s.heap H locs) (hM : mj_M D cl tc ext fx base n f H)
    (hT : T.heap = H) (hW₁ : s.WarmedH vm₁) (X₁ : Stand p l e R s m args below meth c (T.setVm vm₁) locs cs ss) (hn : (T.setVm vm₁).methodNamed? q.1 = some mk)
    (hMet : mj_Met l D cl tc TY Ts XF ext fx base d (C - cs) (S - ss) q av n f out n' f' c' s') (hw1 : mj_cw q ∈ Ts) (hw2 : Cond.initialized q.1.cls ∈ Ts) (hmx : q.2.2.1 ≤ 45) (hwt : mj_wt rest ≤ 24) (hcs : cs ≤ C) (hss : ss ≤ S) :
    mj_Came p l e R s m args below meth c locs cs ss c' s' (mj_B base) (mj_Post D cl tc ext fx base out n' f') (F0 m pc ls (mj_st (mj_r ext base) rest)) 3 (mj_st (mj_r ext base) rest) ((T.setVm vm₁).calling (F0 m pc ls (mj_st (mj_r ext base) rest)) mk (mj_st (mj_r ext base) av).toArray)
      (doInvoke e ((T.setVm vm₁).setTop (F0 m pc ls (mj_st (mj_r ext base) rest))) [] mk (mj_st (mj_r ext base) av).toArray).1 := by
  have hGU : mj_G D cl tc TY Ts XF (T.setVm vm₁) := hG.warm hWm hW₁ (fun q hq => by show T.heap[q]? = _; rw [hT]; exact mj_S_below hbase hS hq)
  obtain ⟨methY, cY, hmY, hcY, -, hlY, -, -, -⟩ := mj_cw_spec hn (hGU.1 _ hw1 #[])
  subst hR
  refine mj_back X₁ hMet (g := F0 m pc ls (mj_st (mj_r ext base) rest)) rfl (hls.trans hml.symm) hdg (Wt := 24) ?_ hn hmY hcY ?_ (hGU.1 _ hw2 _) (Nat.le_refl _) ?_ ?_ ?_ ⟨rfl, ?_, ?_⟩
  · have h1 := mj_wt_r (mj_r ext base) rest
    unfold mj_wt at h1 hwt
    show 2 * 0 + ((mj_st (mj_r ext base) rest).map fun v => v.category).sum ≤ 24
    rw [h1]
    omega
  · exact atoms_intro (ws := [mj_cw q]) (fun w hw => by
      rw [List.mem_singleton.mp hw]; exact hGU.1 _ hw1 _)
  · rw [hlY]
    show 24 + (q.2.2.1 + 11) + 80 * d ≤ 80 * (d + 1)
    omega
  · show cs + (C - cs) ≤ C
    omega
  · show ss + (S - ss) ≤ S
    omega
  · exact hGU.warm hWm (State.WarmedH.refl _) (fun _ _ => rfl)
  · show mj_M D cl tc ext fx base n f T.heap
    rw [hT]; exact hM
theorem mj_fin_ok {o : Option (mj_Out × Nat × (Nat → va_E) × Nat × Nat)} {res : (Nat × List Value × Nat × (Nat → va_E) × Nat × Nat) ⊕ (mj_Out × Nat × (Nat → va_E) × Nat × Nat)} (h : mj_fin pc n cs ss rest o = some res) :
    ∃ out n' f' c' s', o = some (out, n', f', c', s') ∧ n ≤ n' ∧ (∀ v, out = .inl v → res = .inl (pc + 3, v.toList ++ rest, n', f', cs + c', ss + s')) ∧ (∀ x, out = .inr x → res = .inr (.inr x, n', f', cs + c', ss + s')) := by
  unfold mj_fin at h
  split at h
  · simp only [Option.ite_none_right_eq_some, Option.some.injEq] at h
    obtain ⟨h1, rfl⟩ := h
    exact ⟨_, _, _, _, _, rfl, h1, fun v hv => (by cases hv; rfl), fun x hx => (by cases hx)⟩
  · simp only [Option.ite_none_right_eq_some, Option.some.injEq] at h
    obtain ⟨h1, rfl⟩ := h
    exact ⟨_, _, _, _, _, rfl, h1, fun v hv => (by cases hv), fun x hx => (by cases hx; rfl)⟩
  · cases h
theorem mj_take {k : Nat} (ρ : Nat → Nat) (st : List Value) : mj_st ρ st = (mj_st ρ (st.take k).reverse).reverse ++ mj_st ρ (st.drop k) := by
  unfold mj_st
  rw [List.map_reverse, List.reverse_reverse, ← List.map_append, List.take_append_drop]
theorem mj_lk_of {idx : Nat} {y : MethodName} (hG : mj_G D cl tc TY Ts XF s) (h : Cond.methodLink own idx y ∈ Ts ∨ ∃ host : String, Cond.methodLinkNest own idx y host ∈ Ts) : mj_Lk args s own idx y := by
  rcases h with h | ⟨host, h⟩
  · exact Or.inl (hG.1 _ h _)
  · exact Or.inr ⟨host, hG.1 _ h _⟩
theorem mj_g7_ok {STR : List (String × Nat × String)} {SG : List (String × String × String × Value)} {EXF : List (String × String × String)} {call : mj_CF} {pm : Nat → Option (Nat × Nat × Nat × Nat)} {PR : Nat → Option mj_Mi} {res : (Nat × List Value × Nat × (Nat → va_E) × Nat × Nat) ⊕ (mj_Out × Nat × (Nat → va_E) × Nat × Nat)}
    (hexec : p.tables.exec = Jvm.exec) (hb : c.code = cc) (hdg : decode cc pc = .ok (i, mj_ln i)) (hml : c.maxLocals = nL) (hls : ls.size = nL) (hown : s.vm.findClass own = some m.cls) (hR : R = mj_rm (d + 1) C S)
    (hsub : mj_sub cl cl0) (hXO : mj_XO cl0 TY STR SG EXF ext fx base s) (hbase : base ≤ s.heap.size) (hWm : mj_Wm base Ts XF) (hG : mj_G D cl tc TY Ts XF s) (hPM : mj_PM cl0 Ts PR own pm) (hPO : mj_PO Ts own pm)
    (hcall : ∀ mi av n f C S out n' f' c' s', call mi av n f C S = some (out, n', f', c', s') → ∀ q, PR mi = some q → mj_Met l D cl tc TY Ts XF ext fx base d C S q av n f out n' f' c' s')
    (hM : mj_M D cl tc ext fx base n f H) (hS : va_S (mj_B base) s.heap H locs) (h : mj_g7 call pm C S i pc st n f cs ss = some res)
    (kl : ∀ pc' st' n' f' cs' ss', res = .inl (pc', st', n', f', cs', ss') → ∀ (H1 : Heap) (locs1 : List Loc), mj_M D cl tc ext fx base n' f' H1 → va_S (mj_B base) s.heap H1 locs1 → W p l e R s m args below meth c H1 locs1 cs' ss' Q (F0 m pc' ls (mj_st (mj_r ext base) st')))
    (kt : ∀ x n' f' cs' ss', res = .inr (.inr x, n', f', cs', ss') → ∀ (H1 : Heap) (locs1 : List Loc) (st1 : List Value), mj_M D cl tc ext fx base n' f' H1 → va_S (mj_B base) s.heap H1 locs1 → mj_TH p l e R s m args below meth c H1 locs1 cs' ss' Q (F0 m pc ls (mj_st (mj_r ext base) st1)) (mj_r ext base x)) :
    W p l e R s m args below meth c H locs cs ss Q (F0 m pc ls (mj_st (mj_r ext base) st)) := by
  cases i <;> simp only [mj_g7, reduceCtorEq] at h
  case invokestatic idx =>
    split at h <;> simp only [Option.ite_none_right_eq_some, reduceCtorEq] at h
    rename_i mi k ci hp
    obtain ⟨⟨⟨h1, h2⟩, h3, h4⟩, h⟩ := h
    obtain ⟨out, n', f', c', s', e1, hn', hl, hr⟩ := mj_fin_ok h
    obtain ⟨q, hq, w1, w2, w3, w4, w5, w6, w7, -, -⟩ := hPM _ _ _ _ _ hp (by omega)
    have hMet := hcall _ _ _ _ _ _ _ _ _ _ _ e1 q hq
    obtain ⟨mk, hnamed⟩ := mj_cw_named (hG.1 _ w2 #[])
    obtain ⟨methM, cM, hmethM, -, -, -, -, -, hsigM⟩ := mj_cw_spec hnamed (hG.1 _ w2 #[])
    intro T hT X
    have hlen : (mj_st (mj_r ext base) (st.take k).reverse).length = methM.sig.parameters.length := by
      rw [hsigM] at w5
      have h9 : methM.sig.parameters.length = k := Option.some.inj w5
      simp [mj_st, h9, h1]
    obtain ⟨vm₁, hW₁, X₁, hn1, hst⟩ := mj_invS X hexec hown (mj_lk_of hG w1) (hG.1 _ (w7 rfl) _) (hG.1 _ w3 _) hnamed hmethM w4 (g := F0 m pc ls (mj_st (mj_r ext base) st)) rfl (argsL := mj_st (mj_r ext base) (st.take k).reverse) (rest := mj_st (mj_r ext base) (st.drop k)) hlen (mj_take _ _) (by rw [hb]; exact hdg)
    have hcame := mj_do (e := e) hbase hml hls (by rw [hb]; exact hdg) hR hWm hG hS hM hT hW₁ X₁ hn1 hMet w2 w3 w6 h2 h3 h4
    obtain ⟨t, a1, b1⟩ := mj_after hbase hcame hT hS (by rw [hM.2.1]; omega) (fun v hv => kl _ _ _ _ _ _ (hl v hv)) (fun x hx H1 locs1 hM1 hS1 => kt _ _ _ _ _ (hr x hx) H1 locs1 _ hM1 hS1)
    exact ⟨t, hst t a1, b1⟩
  case invokevirtual idx =>
    split at h <;> (try simp only [reduceCtorEq] at h)
    rename_i mi k ci hp
    split at h <;> simp only [Option.ite_none_right_eq_some, reduceCtorEq] at h
    rename_i b r hd
    obtain ⟨⟨⟨h1, h2⟩, ⟨h3, h4⟩, h6⟩, h⟩ := h
    split at h <;> simp only [Option.ite_none_right_eq_some, reduceCtorEq] at h
    rename_i cj fs e2
    obtain ⟨rfl, h⟩ := h
    obtain ⟨out, n', f', c', s', e1, hn', hl, hr⟩ := mj_fin_ok h
    obtain ⟨q, hq, w1, w2, w3, w4, w5, w6, -, w7, -⟩ := hPM _ _ _ _ _ hp (by omega)
    obtain ⟨w8, w9, kk, hkk, hkc⟩ := w7 rfl
    have hMet := hcall _ _ _ _ _ _ _ _ _ _ _ e1 q hq
    intro T hT X
    obtain ⟨cell, q1, q3, hcls⟩ : ∃ cell : Cell, H[mj_r ext base b]? = some cell ∧ cell.vm.isStatics = false ∧ s.vm.findClass q.1.cls = some cell.cls := by
      by_cases h5 : 32 ≤ b
      · have hP := hM.2.2.1 _ h5 h6
        rw [e2] at hP
        obtain ⟨q', hq', cell, q1, q2, q3, q4⟩ := hP
        cases hkk.symm.trans (hsub.1 _ _ hq')
        exact ⟨cell, q1, by rw [q3]; rfl, by rw [q2, ← hkc]; exact (hG.2.1.1 cj kk hq').2.1⟩
      · have h7 : b < 32 := Nat.not_le.mp h5
        have e3 := (hM.2.2.2 b h7).symm.trans e2
        obtain ⟨cell, r1, r2, r3, r4⟩ := (hXO.2.2.2.2 b cj fs h7 e3).1 kk hkk
        have e4 : mj_r ext base b = ext b := by unfold mj_r; rw [if_pos h7]
        refine ⟨cell, ?_, r2, by rw [← hkc]; exact r3⟩
        rw [e4, mj_S_below hbase hS (Nat.not_le.mp r4)]
        exact r1
    have hlen : ∀ mk methM, s.methodNamed? q.1 = some mk → s.vm.method? mk = some methM → (mj_st (mj_r ext base) (st.take k).reverse).length = methM.sig.parameters.length := by
      intro mk methM hnamed hmethM
      obtain ⟨methM', cM, hmethM', -, -, -, -, -, hsigM⟩ := mj_cw_spec hnamed (hG.1 _ w2 #[])
      cases hmethM.symm.trans hmethM'
      rw [hsigM] at w5
      have h9 : methM.sig.parameters.length = k := Option.some.inj w5
      simp [mj_st, h9, h1]
    have hstk : mj_st (mj_r ext base) st = (mj_st (mj_r ext base) (st.take k).reverse).reverse ++ .ref (mj_r ext base b) :: mj_st (mj_r ext base) r := by
      rw [mj_take (k := k), hd]; rfl
    obtain ⟨vm₁, mk, hW₁, X₁, -, hn1, hst⟩ := mj_invV X hexec hown (mj_lk_of hG w1) (hG.1 _ w8 _) (hG.1 _ w9 _) w4 (b := mj_r ext base b) (cellB := cell) (by rw [hT]; exact q1) q3 hcls (g := F0 m pc ls (mj_st (mj_r ext base) st)) rfl hlen hstk (by rw [hb]; exact hdg)
    have hcame := mj_do (e := e) hbase hml hls (by rw [hb]; exact hdg) hR hWm hG hS hM hT hW₁ X₁ hn1 hMet w2 w3 w6 h2 h3 h4
    obtain ⟨t, a1, b1⟩ := mj_after hbase hcame hT hS (by rw [hM.2.1]; omega) (fun v hv => kl _ _ _ _ _ _ (hl v hv)) (fun x hx H1 locs1 hM1 hS1 => kt _ _ _ _ _ (hr x hx) H1 locs1 _ hM1 hS1)
    exact ⟨t, hst t a1, b1⟩
  case invokespecial idx =>
    split at h <;> (try simp only [reduceCtorEq] at h)
    · rename_i mi k ci hp
      split at h <;> simp only [Option.ite_none_right_eq_some, reduceCtorEq] at h
      rename_i b r hd
      obtain ⟨⟨⟨h1, h2⟩, h3, h4⟩, h⟩ := h
      obtain ⟨out, n', f', c', s', e1, hn', hl, hr⟩ := mj_fin_ok h
      obtain ⟨q, hq, w1, w2, w3, w4, w5, w6, -, -, w7⟩ := hPM _ _ _ _ _ hp (by omega)
      obtain ⟨w8, w9, w10, w11⟩ := w7 rfl
      have hMet := hcall _ _ _ _ _ _ _ _ _ _ _ e1 q hq
      intro T hT X
      have hlen : ∀ sig, parseMethodDescriptor q.1.desc = some sig → (mj_st (mj_r ext base) (st.take k).reverse).length = sig.parameters.length := by
        intro sig hsig
        rw [hsig] at w5
        have h9 : sig.parameters.length = k := Option.some.inj w5
        simp [mj_st, h9, h1]
      have hstk : mj_st (mj_r ext base) st = (mj_st (mj_r ext base) (st.take k).reverse).reverse ++ .ref (mj_r ext base b) :: mj_st (mj_r ext base) r := by
        rw [mj_take (k := k), hd]; rfl
      have w2' : (Cond.code q.1 q.2.1 q.2.2.1 none).before args s = true := by
        have h9 := hG.1 _ w2 args
        unfold mj_cw at h9
        rw [w11, w10] at h9
        exact h9
      obtain ⟨vm₁, mk, hW₁, X₁, -, hn1, hst⟩ := mj_invI X hexec hown w9 (mj_lk_of hG w1) (hG.1 _ w8 _) w2' w4 (g := F0 m pc ls (mj_st (mj_r ext base) st)) rfl hlen hstk (by rw [hb]; exact hdg)
      have hcame := mj_do (e := e) hbase hml hls (by rw [hb]; exact hdg) hR hWm hG hS hM hT hW₁ X₁ hn1 hMet w2 w3 w6 h2 h3 h4
      obtain ⟨t, a1, b1⟩ := mj_after hbase hcame hT hS (by rw [hM.2.1]; omega) (fun v hv => kl _ _ _ _ _ _ (hl v hv)) (fun x hx H1 locs1 hM1 hS1 => kt _ _ _ _ _ (hr x hx) H1 locs1 _ hM1 hS1)
      exact ⟨t, hst t a1, b1⟩
    · rename_i mi k ci hp
      split at h <;> simp only [Option.ite_none_right_eq_some, Option.some.injEq, reduceCtorEq] at h
      rename_i b r
      obtain ⟨h2, rfl⟩ := h
      obtain ⟨w1, w2, w3⟩ := hPO _ _ _ _ hp
      refine W.objInit hexec hb hown (hG.1 _ w1 _) (hG.1 _ w2 _) (hG.1 _ w3 _) rfl (hls.trans hml.symm) rfl hdg ?_ ?_ ?_
      · rw [hR]; show 1 ≤ d + 1; omega
      · rw [hR]
        have h9 := mj_wt_r (mj_r ext base) r
        unfold mj_wt at h9 h2
        show 2 * 0 + ((mj_st (mj_r ext base) r).map fun v => v.category).sum + 12 ≤ 80 * (d + 1)
        rw [h9]; omega
      · exact kl _ _ _ _ _ _ rfl H locs hM hS
end MJC
