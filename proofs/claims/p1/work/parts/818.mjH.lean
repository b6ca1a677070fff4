/-! ===== the small machine: an exception is made; it is caught; the less and the greater of two ints ===== -/
/-- what is known beside: the constructors of exceptions; the less and the greater; kinds that are no kind of each other -/
def mj_XP (cl : List vw_C) (PT : List (String × Nat × Nat)) (MT : List (String × Nat × Bool)) (U : State) : Prop :=
  (∀ q ∈ PT, ∀ k : vw_C, cl[q.2.2]? = some k → Bundle.fit k.1 = true ∧ ∃ (ix : Nat) (bs : ByteArray), mj_pass ix bs ∧ ∀ A : Array Value, ∀ w ∈ mj_tw q.1 q.2.1 k.1 ix bs, w.before A U = true) ∧
  (∀ q ∈ MT, ∀ A : Array Value, (Cond.initialized "java/lang/Math").before A U = true ∧
    (q.2.2 = true → (Cond.methodLink q.1 q.2.1 Lib.Math.max.name).before A U = true ∧ (Cond.static Lib.Math.max.name).before A U = true ∧ (Cond.code Lib.Math.max.name Lib.Math.max.code 2 (some .int)).before A U = true) ∧
    (q.2.2 = false → (Cond.methodLink q.1 q.2.1 Lib.Math.min.name).before A U = true ∧ (Cond.static Lib.Math.min.name).before A U = true ∧ (Cond.code Lib.Math.min.name Lib.Math.min.code 2 (some .int)).before A U = true)) ∧
  (∀ (ci cj : Nat) (q r : vw_C) (c c' : ClassId), ci ≠ cj → mj_ex ci = true → mj_ex cj = true → cl[ci]? = some q → cl[cj]? = some r → U.vm.findClass q.1 = some c → U.vm.findClass r.1 = some c' → U.vm.assignable c c' = false)
def mj_tx : Instr → Option (Nat × Nat)
  | .ldc k => some (k, 2)
  | .ldc_w k => some (k, 3)
  | _ => none
/-- new, dup, a text, the constructor: in one -/
def mj_gt (PT : List (String × Nat × Nat)) (cl : List vw_C) (own : String) (pk : Nat → Option (Nat × Nat)) (ps : Nat → Option Nat) (tb : List (Nat × Instr)) (d C S : Nat) (i : Instr) (pc n : Nat) (f : Nat → va_E) (cs ss : Nat) (st : List Value) : Option (Nat × Nat × (Nat → va_E) × Nat × Nat × List Value) :=
  match i with
  | .new idx => match pk idx with
    | some (ci, z) => match cl[ci]? with
      | some q => if q.2.2 = 0 then match mj_at tb (pc + 3) with
        | some .dup => match mj_at tb (pc + 4) with
          | some j => match mj_tx j with
            | some (k, len) => match ps k with
              | some _ => match mj_at tb (pc + 4 + len) with
                | some (.invokespecial ic) => if (PT.contains (own, ic, ci) = true ∧ 5 ≤ d) ∧ mj_wt st ≤ 24 ∧ cs + 1 ≤ C ∧ ss + z ≤ S then some (pc + 4 + len + 3, n + 1, va_up f n (.inr (ci, [])), cs + 1, ss + z, .ref n :: st) else none
                | _ => none
              | none => none
            | none => none
          | none => none
        | _ => none else none
      | none => none
    | none => none
  | _ => none
def mj_gm (MT : List (String × Nat × Bool)) (own : String) (i : Instr) (pc : Nat) (st : List Value) : Option (Nat × List Value) :=
  match i with
  | .invokestatic idx => match st with
    | .int y :: .int x :: r => if mj_wt r ≤ 24 then (if MT.contains (own, idx, true) = true then some (pc + 3, .int (if x < y then y else x) :: r) else if MT.contains (own, idx, false) = true then some (pc + 3, .int (if y < x then y else x) :: r) else none) else none
    | _ => none
  | _ => none
/-- which handler takes a thing of the kind ci that is thrown at pc -/
def mj_hd (px : Nat → Option Nat) (pc ci : Nat) : List (Nat × Nat × Nat × Nat) → Option Nat
  | [] => none
  | (a, b, h, t) :: r => if a ≤ pc ∧ pc < b then (if t = 0 then none else match px t with
    | some cj => if mj_ex cj = true then (if cj = ci then some h else if mj_ex ci = true then mj_hd px pc ci r else none) else none
    | none => none) else mj_hd px pc ci r
section MJH
variable {p : Program} {l : Launch} {e : Env} {R : Room} {s : State} {m : MethodId} {args : Array Value} {below : List Frame} {meth : Method} {c : Code} {H : Heap} {locs : List Loc} {cells slots : Nat} {Q : State → Prop}
variable {cc : ByteArray} {pc pc' nL n n' base C S cs ss cs' ss' d : Nat} {ls : Array Slot} {st st' : List Value} {i : Instr} {D : va_G} {cl cl0 : List vw_C} {tc : Nat → ClassId} {ext : Nat → Nat} {fx : Nat → va_E} {f f' : Nat → va_E} {TY : List FieldType} {Ts : List Cond} {own : String} {pk : Nat → Option (Nat × Nat)} {ps px : Nat → Option Nat} {STR : List (String × Nat × String)} {SG : List (String × String × String × Value)} {EXF : List (String × String × String)} {PT : List (String × Nat × Nat)} {MT : List (String × Nat × Bool)} {tb : List (Nat × Instr)}
theorem mj_ldcT {j : Instr} {k len q : Nat} {tx : String} {rest : List Value} (hexec : p.tables.exec = Jvm.exec) (hb : c.code = cc) (hown : s.vm.findClass own = some m.cls) (hZ : vk_R own k tx q s) (ht : mj_tx j = some (k, len)) (hdg : decode cc pc = .ok (j, mj_ln j))
    (kk : W p l e R s m args below meth c H locs cells slots Q (F0 m (pc + len) ls (.ref q :: rest))) : W p l e R s m args below meth c H locs cells slots Q (F0 m pc ls rest) := by
  unfold mj_tx at ht
  split at ht
  · cases ht
    exact va_ldcS hexec hb hown hZ hdg kk
  · cases ht
    intro T hT X
    obtain ⟨t, a1, b1⟩ := kk T hT X
    exact ⟨t, X.ldcStringW hexec hown (text := tx) (a := q) hZ.1 hZ.2 (g := F0 m pc ls rest) rfl (by rw [hb]; exact hdg) t a1, b1⟩
  · cases ht
theorem mj_gt_ok (hexec : p.tables.exec = Jvm.exec) (hb : c.code = cc) (hdg : decode cc pc = .ok (i, mj_ln i)) (hTB : mj_TB cc tb) (hml : c.maxLocals = nL) (hls : ls.size = nL) (hts : ∀ w ∈ Ts, w.before args s = true) (hown : s.vm.findClass own = some m.cls) (hR : R = mj_rm (d + 1) C S) (hNT : ∀ e : Env, l.admits e → e.platform.stackTraces = false)
    (hNS : ∀ q : Nat, base ≤ q → ∀ cell, s.heap[q]? = some cell → cell.vm.isStatics = false) (hsub : mj_sub cl cl0) (hXO : mj_XO cl0 TY STR SG EXF ext fx base s) (hXP : mj_XP cl0 PT MT s) (hPC : mj_PC cl0 Ts own pk) (hPS : mj_PS STR own ps) (hK : va_K D cl (mj_tys TY tc) s) (hM : mj_M D cl tc ext fx base n f H) (hS : va_S (mj_B base) s.heap H locs) (h : mj_gt PT cl own pk ps tb d C S i pc n f cs ss st = some (pc', n', f', cs', ss', st'))
    (kk : ∀ (H1 : Heap) (locs1 : List Loc), mj_M D cl tc ext fx base n' f' H1 → va_S (mj_B base) s.heap H1 locs1 → W p l e R s m args below meth c H1 locs1 cs' ss' Q (F0 m pc' ls (mj_st (mj_r ext base) st'))) : W p l e R s m args below meth c H locs cs ss Q (F0 m pc ls (mj_st (mj_r ext base) st)) := by
  have hrn : mj_r ext base n = H.size := by rw [mj_r_in hM.1, hM.2.1]
  cases i <;> simp only [mj_gt, reduceCtorEq] at h
  case new idx =>
    split at h <;> (try simp only [reduceCtorEq] at h)
    rename_i ci z hp
    split at h <;> (try simp only [reduceCtorEq] at h)
    rename_i q hc
    simp only [Option.ite_none_right_eq_some] at h
    obtain ⟨hN, h⟩ := h
    split at h <;> (try simp only [reduceCtorEq] at h)
    rename_i hdup
    split at h <;> (try simp only [reduceCtorEq] at h)
    rename_i j hj
    split at h <;> (try simp only [reduceCtorEq] at h)
    rename_i k len htx
    split at h <;> (try simp only [reduceCtorEq] at h)
    rename_i kx hps
    split at h <;> (try simp only [reduceCtorEq] at h)
    rename_i ic hic
    simp only [Option.ite_none_right_eq_some, Option.some.injEq, Prod.mk.injEq] at h
    obtain ⟨⟨⟨hPT, hd5⟩, hwt, h1, h2⟩, rfl, rfl, rfl, rfl, rfl, rfl⟩ := h
    obtain ⟨q', hc', l1, l2, l3⟩ := hPC _ _ _ hp
    cases (hsub.1 _ _ hc).symm.trans hc'
    have hKn := hK.1 ci _ hc
    have hRC : R.cells = C := by rw [hR]; rfl
    have hRS : R.slots = S := by rw [hR]; rfl
    refine W.newcK hexec hb hown (hts _ l1) (hts _ l2) (hts _ l3) rfl hdg (by omega) (by omega) hKn.2.1 rfl fun H1 kC hkC e1 z1 o1 => ?_
    obtain ⟨len1, hd1, hl1⟩ := hTB (pc + 3) .dup hdup
    have e3 := hl1 rfl
    subst e3
    refine lv_dup hexec hb hd1 rfl ?_
    obtain ⟨len2, hd2, hl2⟩ := hTB (pc + 4) j hj
    have e4 := hl2 (by unfold mj_tx at htx; split at htx <;> first | rfl | cases htx)
    subst e4
    obtain ⟨jj, tx, rfl, hq⟩ := hPS _ _ hps
    refine mj_ldcT (pc := pc + 4) hexec hb hown (hXO.1 jj _ hq) htx hd2 ?_
    obtain ⟨len3, hd3, hl3⟩ := hTB (pc + 4 + len) _ hic
    have e5 := hl3 rfl
    subst e5
    obtain ⟨hfit, ix, bs, hbs, hw⟩ := hXP.1 _ (List.contains_iff_mem.mp hPT) q hc'
    intro T hT X
    obtain ⟨vm', ce, L, hce1, hce2, hL, X2, hst⟩ := mj_ctor X hexec (hNT e X.admits) hown hfit hbs (hw args) (fun x hx cell hcell => hNS x.base (hS.2.2 x hx) cell hcell) hKn.2.1 hkC (a := H.size) (by rw [hT]; exact e1) hS.1 (tx := ext (1 + jj)) (pc := pc + 4 + len) (ls := ls) (hls.trans hml.symm) (rest := mj_st (mj_r ext base) st) (by rw [hb]; exact hd3)
      (by rw [hR]; show 5 < d + 1; omega) (by
        have h9 := mj_wt_r (mj_r ext base) st
        unfold mj_wt at h9 hwt
        rw [hR]
        show (Value.ref H.size).category + ((mj_st (mj_r ext base) st).map fun v => v.category).sum + 81 ≤ 80 * (d + 1)
        rw [h9]
        show 1 + _ + 81 ≤ 80 * (d + 1)
        omega)
    have hH2 : ((T.setVm vm').setCell H.size ce).heap = H1.setIfInBounds H.size ce := by rw [← hT]; rfl
    generalize hG2 : ((T.setVm vm').setCell H.size ce).heap = H2 at hH2
    have z2 : H2.size = H.size + 1 := by rw [hH2, Array.size_setIfInBounds, z1]
    have e6 : H2[H.size]? = some ce := by rw [hH2]; simp [z1]
    have o2 : ∀ q : Nat, q < H.size → H2[q]? = H[q]? := fun q hq => by
      rw [hH2, Array.getElem?_setIfInBounds_ne (Ne.symm (Nat.ne_of_lt hq))]
      exact o1 q hq
    have hM2 : mj_M D cl tc ext fx base (n + 1) (va_up f n (.inr (ci, []))) H2 := hM.push z2 ⟨q, hc, ce, e6, hce1, hce2, fun k hk => absurd hk (by rw [hN]; exact Nat.not_lt_zero k)⟩ o2
    have hS2 : va_S (mj_B base) s.heap H2 (locs ++ L) := by
      obtain ⟨s1, s2, s3⟩ := mj_S_push hM hS z2 o2
      refine ⟨s1, s2, fun x hx => ?_⟩
      rcases List.mem_append.mp hx with hx | hx
      · exact s3 x hx
      · show base ≤ x.base
        rw [hL x hx, hM.2.1]
        exact Nat.le_add_right _ _
    obtain ⟨t, a1, b1⟩ := kk H2 (locs ++ L) hM2 hS2 _ hG2 X2
    have e7 : mj_st (mj_r ext base) (.ref n :: st) = .ref H.size :: mj_st (mj_r ext base) st := by rw [← hrn]; rfl
    rw [e7] at a1
    exact ⟨t, hst t a1, b1⟩
theorem mj_gm_ok (hexec : p.tables.exec = Jvm.exec) (hb : c.code = cc) (hdg : decode cc pc = .ok (i, mj_ln i)) (hml : c.maxLocals = nL) (hls : ls.size = nL) (hown : s.vm.findClass own = some m.cls) (hR : R = mj_rm (d + 1) C S) (hcs : cs ≤ C) (hss : ss ≤ S) (hXP : mj_XP cl PT MT s) (h : mj_gm MT own i pc st = some (pc', st'))
    (kk : W p l e R s m args below meth c H locs cs ss Q (F0 m pc' ls (mj_st (mj_r ext base) st'))) : W p l e R s m args below meth c H locs cs ss Q (F0 m pc ls (mj_st (mj_r ext base) st)) := by
  cases i <;> simp only [mj_gm, reduceCtorEq] at h
  case invokestatic idx =>
    split at h <;> simp only [Option.ite_none_right_eq_some, reduceCtorEq] at h
    rename_i y x r
    obtain ⟨hw, h⟩ := h
    have hfr : 1 ≤ R.frames := by rw [hR]; show 1 ≤ d + 1; omega
    have hlo : ((mj_st (mj_r ext base) r).map fun v => v.category).sum + 13 ≤ R.locals := by
      have h9 := mj_wt_r (mj_r ext base) r
      unfold mj_wt at h9 hw
      rw [hR, h9]
      show _ ≤ 80 * (d + 1)
      omega
    split at h
    · rename_i hc
      simp only [Option.some.injEq, Prod.mk.injEq] at h
      obtain ⟨rfl, rfl⟩ := h
      obtain ⟨w0, w1, -⟩ := hXP.2.1 _ (List.contains_iff_mem.mp hc) args
      obtain ⟨w2, w3, w4⟩ := w1 rfl
      exact va_mmax hexec hb (hml.trans hls.symm) hown w2 w3 w0 w4 hfr hlo (by rw [hR]; exact hcs) (by rw [hR]; exact hss) hdg kk
    · split at h
      · rename_i hc
        simp only [Option.some.injEq, Prod.mk.injEq] at h
        obtain ⟨rfl, rfl⟩ := h
        obtain ⟨w0, -, w1⟩ := hXP.2.1 _ (List.contains_iff_mem.mp hc) args
        obtain ⟨w2, w3, w4⟩ := w1 rfl
        exact va_mmin hexec hb (hml.trans hls.symm) hown w2 w3 w0 w4 hfr hlo (by rw [hR]; exact hcs) (by rw [hR]; exact hss) hdg kk
      · cases h
end MJH
