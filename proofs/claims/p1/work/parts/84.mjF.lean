/-! ===== a run of the small machine is a contract of the machine ===== -/
theorem mj_main {l : Launch} {D : va_G} {cl cl0 : List vw_C} {tc : Nat → ClassId} {ext : Nat → Nat} {fx : Nat → va_E} {base : Nat} {TY : List FieldType} {Ts : List Cond} {XF : State → Prop} {STR : List (String × Nat × String)} {SG : List (String × String × String × Value)} {EXF : List (String × String × String)} {cty : Nat → Nat → FieldType} {PO : Nat → mj_Po} {PR : Nat → Option mj_Mi} {PT : List (String × Nat × Nat)} {MT : List (String × Nat × Bool)} {fuel : Nat}
    (hsub : mj_sub cl cl0) (hX : ∀ U, XF U → mj_XO cl0 TY STR SG EXF ext fx base U) (hXP : ∀ U, XF U → mj_XP cl0 PT MT U) (hNT : ∀ e : Env, l.admits e → e.platform.stackTraces = false) (hWm : mj_Wm base Ts XF) (hOk : mj_Ok cl0 Ts TY STR SG EXF cty PO PR) : ∀ (d mi : Nat) (av : List Value) (n : Nat) (f : Nat → va_E) (C S : Nat) (out : mj_Out) (n' : Nat) (f' : Nat → va_E) (c' s' : Nat),
      mj_call PT MT TY cl cty PO PR fuel d mi av n f C S = some (out, n', f', c', s') → ∀ q, PR mi = some q → mj_Met l D cl tc TY Ts XF ext fx base d C S q av n f out n' f' c' s' := by
  intro d
  induction d with
  | zero =>
    intro mi av n f C S out n' f' c' s' h
    simp [mj_call] at h
  | succ d ih =>
    intro mi av n f C S out n' f' c' s' h q hq
    unfold mj_call at h
    rw [hq] at h
    simp only [Option.ite_none_right_eq_some] at h
    obtain ⟨hsz, h⟩ := h
    obtain ⟨hCL, hAC, hall⟩ := hOk
    obtain ⟨hpn, hpo, hTB, hini, hPl⟩ := hall mi q hq
    refine MetFree.of_bodyS (code := q.2.1) (maxLocals := q.2.2.1) (ret := q.2.2.2.1) hpn ?_ ?_
    · intro args s m hpre hn
      obtain ⟨meth, c, h1, h2, h3, h4, h5, h6, -⟩ := mj_cw_spec hn (atoms_spec (ws := [mj_cw q]) hpre _ (List.mem_singleton.mpr rfl))
      exact ⟨meth, c, h1, h2, h3, h4, h5, h6⟩
    · intro p e s m args below meth c s₁ B hml hP _
      obtain ⟨rfl, hG, hM⟩ := hP
      have hh0 : s₁.heap = s.heap := by rw [B.state]; rfl
      have htab := mj_cw_tab (q := q) B.named B.method (Stand.of_body B).code (atoms_spec (ws := [mj_cw q]) B.pre _ (List.mem_singleton.mpr rfl))
      have hNS : ∀ j : Nat, base ≤ j → ∀ cell, s.heap[j]? = some cell → cell.vm.isStatics = false := by
        intro j hj cell hcell
        have hlt : j < s.heap.size := (Array.getElem?_eq_some_iff.mp hcell).1
        have e0 := hM.1
        have e1 := hM.2.1
        have hk := hM.2.2.1 (32 + (j - base)) (by omega) (by omega)
        rw [mj_r_in (by omega), show base + (32 + (j - base) - 32) = j by omega] at hk
        generalize f (32 + (j - base)) = y at hk
        rcases y with ⟨t, z⟩ | ⟨ci, fs⟩
        · obtain ⟨y', e2, -⟩ := mj_c_inl (mj_r ext base) tc t z
          rw [e2] at hk
          have hk2 : s.heap[j]? = some (vp_cell (tc t) y') := hk
          cases hcell.symm.trans hk2
          obtain ⟨n0, g | g | g | g | g⟩ := y' <;> rfl
        · obtain ⟨r, -, cell', q1, -, q3, -⟩ := hk
          cases hcell.symm.trans q1
          rw [q3]; rfl
      have hbase : base ≤ s.heap.size := by rw [hM.2.1]; exact Nat.le_add_right _ _
      have hl := lv_entry (mj_st (mj_r ext base) av) (n := q.2.2.1) (by rw [mj_sl]; exact hsz)
      rw [mj_la] at hl
      have K := mj_loop_ok (p := p) (l := l) (e := e) (R := mj_rm (d + 1) C S) (s := s) (m := m) (args := (mj_st (mj_r ext base) av).toArray) (below := below) (meth := meth) (c := c) (tc := tc) (ext := ext) (fx := fx) (D := D) (XF := XF) (PR := PR) (PT := PT) (MT := MT)
        B.exec B.bytes hTB hml (by rw [hpo]; exact findClass_of_methodNamed B.named) B.returns B.notSynchronized htab hNT hNS hsub (hXP s hG.2.2) (fun hi => by rw [(name_of_methodNamed B.named B.method).1]; exact hini hi) rfl (hX s hG.2.2) hbase hWm hG hCL hAC hPl (fun mi av n f C S out n' f' c' s' hc q hq => ih mi av n f C S out n' f' c' s' hc q hq)
        fuel 0 (lv_args 0 av) [] n f 0 0 h s.heap [] _ hl hM va_S.rf
      have K2 : W p l e (mj_rm (d + 1) C S) s m (mj_st (mj_r ext base) av).toArray below meth c s.heap [] 0 0 (mj_MQ below (mj_Post D cl tc ext fx base out n' f') s c' s' (mj_B base)) (entryFrame m (mj_st (mj_r ext base) av).toArray q.2.2.1) := by
        rw [lg_entry_eq]
        exact K
      obtain ⟨t, a1, o, b1, b2, b3⟩ := K2 s₁ hh0 (Stand.of_body B)
      exact ⟨t, o, a1, b1, b2, b3⟩
