/-! ===== the small machine: what is made; constants ===== -/
def mj_tag : ArrayType → Nat
  | .int => 0
  | .byte => 1
  | .long => 2
  | .boolean => 3
  | _ => 999
def mj_zero : ArrayType → Nat → va_E
  | .int, z => .inl (0, z, .inl (fun _ => 0))
  | .byte, z => .inl (1, z, .inl (fun _ => 0))
  | .boolean, z => .inl (3, z, .inl (fun _ => 0))
  | _, z => .inl (2, z, .inr (.inl (fun _ => 0)))
def mj_def (cty : Nat → Nat → FieldType) (ci N : Nat) : List Value := (List.range N).map (fun j => defaultValue (cty ci j))
theorem mj_def_v (ρ : Nat → Nat) (ty : FieldType) : mj_v ρ (defaultValue ty) = defaultValue ty := by cases ty <;> rfl
theorem mj_def_at (ρ : Nat → Nat) (cty : Nat → Nat → FieldType) (ci N j : Nat) (h : j < N) : defaultValue (cty ci j) = vp_V ((mj_def cty ci N).map (mj_v ρ)) j := by
  simp [vp_V, mj_def, h, mj_def_v]
/-- C, S: how many cells and slots may be made; cs, ss: how many were -/
def mj_g5 (TY : List FieldType) (cl : List vw_C) (cty : Nat → Nat → FieldType) (pk : Nat → Option (Nat × Nat)) (pa : Nat → Option Nat) (C S : Nat) (i : Instr) (pc n : Nat) (f : Nat → va_E) (cs ss : Nat) (st : List Value) : Option (Nat × Nat × (Nat → va_E) × Nat × Nat × List Value) :=
  match i with
  | .new idx => match pk idx with
    | some (ci, z) => match cl[ci]? with
      | some q => if cs + 1 ≤ C ∧ ss + z ≤ S then some (pc + 3, n + 1, va_up f n (.inr (ci, mj_def cty ci q.2.2)), cs + 1, ss + z, .ref n :: st) else none
      | none => none
    | none => none
  | .newarray at' => match st with
    | .int x :: r => if (¬ x < 0 ∧ x.toNatClampNeg * 8 ≤ 536870912) ∧ (cs + 1 ≤ C ∧ ss + x.toNatClampNeg ≤ S) ∧ TY[mj_tag at']? = some (newarray.typeOf at') ∧ mj_tag at' < 4 then some (pc + 2, n + 1, va_up f n (mj_zero at' x.toNatClampNeg), cs + 1, ss + x.toNatClampNeg, .ref n :: r) else none
    | _ => none
  | .anewarray idx => match pa idx with
    | some t => match st with
      | .int x :: r => if (¬ x < 0 ∧ x.toNatClampNeg * 4 ≤ 536870912) ∧ cs + 1 ≤ C ∧ ss + x.toNatClampNeg ≤ S then some (pc + 3, n + 1, va_up f n (.inl (t, x.toNatClampNeg, .inr (.inr (.inr (.inr (fun _ => none)))))), cs + 1, ss + x.toNatClampNeg, .ref n :: r) else none
      | _ => none
    | none => none
  | _ => none
def mj_g6 (pi : Nat → Option Int32) (pl : Nat → Option Int64) (i : Instr) (pc : Nat) (st : List Value) : Option (Nat × List Value) :=
  match i with
  | .ldc idx => (pi idx).map fun v => (pc + 2, .int v :: st)
  | .ldc_w idx => (pi idx).map fun v => (pc + 3, .int v :: st)
  | .ldc2_w idx => (pl idx).map fun v => (pc + 3, .long v :: st)
  | _ => none
section MJ7
variable {p : Program} {l : Launch} {e : Env} {R : Room} {s : State} {m : MethodId} {args : Array Value} {below : List Frame} {meth : Method} {c : Code} {H H0 : Heap} {locs : List Loc} {Q : State → Prop}
variable {cc : ByteArray} {pc pc' nL n n' base C S cs ss cs' ss' : Nat} {ls : Array Slot} {st st' : List Value} {i : Instr} {D : va_G} {cl cl0 : List vw_C} {tc : Nat → ClassId} {ext : Nat → Nat} {fx : Nat → va_E} {f f' : Nat → va_E} {TY : List FieldType} {Ts : List Cond} {own : String} {cty : Nat → Nat → FieldType} {pk : Nat → Option (Nat × Nat)} {pa : Nat → Option Nat} {pi : Nat → Option Int32} {pl : Nat → Option Int64}
theorem mj_S_push {H1 : Heap} (hM : mj_M D cl tc ext fx base n f H) (hS : va_S (mj_B base) H0 H locs) (hz : H1.size = H.size + 1) (ho : ∀ q : Nat, q < H.size → H1[q]? = H[q]?) : va_S (mj_B base) H0 H1 locs :=
  ⟨Nat.le_trans hS.1 (by omega), fun q h1 h2 => (ho q (Nat.lt_of_lt_of_le h1 hS.1)).trans (hS.2.1 q h1 h2), hS.2.2⟩
theorem mj_g5_ok (hexec : p.tables.exec = Jvm.exec) (hb : c.code = cc) (hdg : decode cc pc = .ok (i, mj_ln i)) (hts : ∀ w ∈ Ts, w.before args s = true) (hown : s.vm.findClass own = some m.cls) (hRC : C ≤ R.cells) (hRS : S ≤ R.slots) (hsub : mj_sub cl cl0) (hCL : mj_CL cl0 Ts cty) (hPC : mj_PC cl0 Ts own pk) (hPA : mj_PA TY Ts own pa) (hAC : mj_AC TY Ts) (hK : va_K D cl (mj_tys TY tc) s) (hM : mj_M D cl tc ext fx base n f H) (hS : va_S (mj_B base) H0 H locs) (h : mj_g5 TY cl cty pk pa C S i pc n f cs ss st = some (pc', n', f', cs', ss', st'))
    (kk : ∀ (H1 : Heap), mj_M D cl tc ext fx base n' f' H1 → va_S (mj_B base) H0 H1 locs → W p l e R s m args below meth c H1 locs cs' ss' Q (F0 m pc' ls (mj_st (mj_r ext base) st'))) : W p l e R s m args below meth c H locs cs ss Q (F0 m pc ls (mj_st (mj_r ext base) st)) := by
  have hrn : mj_r ext base n = H.size := by rw [mj_r_in hM.1, hM.2.1]
  cases i <;> simp only [mj_g5, reduceCtorEq] at h
  case new idx =>
    split at h <;> (try simp only [reduceCtorEq] at h)
    rename_i ci z hp
    split at h <;> simp only [Option.ite_none_right_eq_some, Option.some.injEq, Prod.mk.injEq, reduceCtorEq] at h
    rename_i q hc
    obtain ⟨⟨h1, h2⟩, rfl, rfl, rfl, rfl, rfl, rfl⟩ := h
    obtain ⟨q', hc', l1, l2, l3⟩ := hPC _ _ _ hp
    cases (hsub.1 _ _ hc).symm.trans hc'
    obtain ⟨w1, w2, w3⟩ := hCL _ _ hc'
    have hKn := hK.1 ci _ hc
    refine W.newcK hexec hb hown (hts _ l1) (hts _ l2) (hts _ l3) rfl hdg (by omega) (by omega) hKn.2.1 rfl fun H1 kC hkC e1 z1 o1 => ?_
    have k1 := kk H1 (hM.push z1 ⟨_, hc, (u_born (cty ci) hts w1 hKn hkC e1 w2).to (fun j hj => mj_def_at _ _ _ _ _ hj)⟩ o1) (mj_S_push hM hS z1 o1)
    have e2 : mj_st (mj_r ext base) (.ref n :: st) = .ref H.size :: mj_st (mj_r ext base) st := by rw [← hrn]; rfl
    rw [e2] at k1
    exact k1
  case newarray at' =>
    split at h <;> simp only [Option.ite_none_right_eq_some, Option.some.injEq, Prod.mk.injEq, reduceCtorEq] at h
    rename_i x r
    obtain ⟨⟨⟨h0, hby⟩, ⟨h1, h2⟩, h3, h4⟩, rfl, rfl, rfl, rfl, rfl, rfl⟩ := h
    have hmem : newarray.typeOf at' ∈ TY := List.mem_of_getElem? h3
    have hcb : x.toNatClampNeg * componentBytes (newarray.typeOf at') ≤ 536870912 := by
      have : componentBytes (newarray.typeOf at') ≤ 8 := by cases at' <;> decide
      exact Nat.le_trans (Nat.mul_le_mul_left _ this) hby
    refine va_newaK hexec hb (hts _ (hAC _ hmem)) rfl hdg rfl h0 rfl hcb (by omega) (by omega) rfl fun H1 cA e1 z1 o1 hAr hNm => ?_
    have hcA : cA = tc (mj_tag at') := by
      have h5 := (hK.2 _ _ (mj_tys_at h3)).2
      have h6 : s.vm.findClass ("[" ++ (newarray.typeOf at').toString) = some (tc (mj_tag at')) := by cases at' <;> exact h5
      exact Option.some.inj (hNm.symm.trans h6)
    subst hcA
    have k1 := kk H1 (hM.push z1 (x := mj_zero at' x.toNatClampNeg) (by cases at' <;> first | exact e1 | (simp [mj_tag] at h4)) o1) (mj_S_push hM hS z1 o1)
    have e2 : mj_st (mj_r ext base) (.ref n :: r) = .ref H.size :: mj_st (mj_r ext base) r := by rw [← hrn]; rfl
    rw [e2] at k1
    exact k1
  case anewarray idx =>
    split at h <;> (try simp only [reduceCtorEq] at h)
    rename_i t hp
    split at h <;> simp only [Option.ite_none_right_eq_some, Option.some.injEq, Prod.mk.injEq, reduceCtorEq] at h
    rename_i x r
    obtain ⟨⟨⟨h0, hby⟩, h1, h2⟩, rfl, rfl, rfl, rfl, rfl, rfl⟩ := h
    obtain ⟨E, h3, l1, l2⟩ := hPA _ _ hp
    refine W.anew hexec hb hown (hts _ l1) (hts _ l2) rfl hdg rfl h0 hby (by omega) (by omega) fun cA kA comp f1 f2 f3 f4 => ?_
    generalize hH1 : H.push ({ cls := cA, slots := Array.replicate x.toNatClampNeg .null, vm := .none } : Cell) = H1
    have z1 : H1.size = H.size + 1 := by rw [← hH1, Array.size_push]
    have e1 : H1[H.size]? = some (arrV cA x.toNatClampNeg (fun _ => .null)) := by rw [← hH1, Array.getElem?_push_size, ← arrV_new]
    have o1 : ∀ q : Nat, q < H.size → H1[q]? = H[q]? := fun q hq => by rw [← hH1, Array.getElem?_push, if_neg (Nat.ne_of_lt hq)]
    have hcA : cA = tc t := by
      obtain ⟨_, _, _, _, _, h6⟩ := (hK.2 _ _ (mj_tys_at h3)).2
      exact Option.some.inj (f1.symm.trans h6)
    subst hcA
    have k1 := kk H1 (hM.push z1 e1 o1) (mj_S_push hM hS z1 o1)
    have e2 : mj_st (mj_r ext base) (.ref n :: r) = .ref H.size :: mj_st (mj_r ext base) r := by rw [← hrn]; rfl
    rw [e2] at k1
    exact k1
theorem mj_g6_ok {cells slots : Nat} {ρ : Nat → Nat} (hexec : p.tables.exec = Jvm.exec) (hb : c.code = cc) (hdg : decode cc pc = .ok (i, mj_ln i)) (hts : ∀ w ∈ Ts, w.before args s = true) (hown : s.vm.findClass own = some m.cls) (hPI : mj_PI Ts own pi) (hPL : mj_PL Ts own pl) (h : mj_g6 pi pl i pc st = some (pc', st'))
    (kk : W p l e R s m args below meth c H locs cells slots Q (F0 m pc' ls (mj_st ρ st'))) : W p l e R s m args below meth c H locs cells slots Q (F0 m pc ls (mj_st ρ st)) := by
  cases i <;> simp only [mj_g6, Option.map_eq_some_iff, Prod.mk.injEq, reduceCtorEq] at h
  case ldc idx =>
    obtain ⟨v, hv, rfl, rfl⟩ := h
    exact lv_ldc hexec hb hown (hts _ (hPI _ _ hv)) hdg kk
  case ldc_w idx =>
    obtain ⟨v, hv, rfl, rfl⟩ := h
    exact lv_ldcw hexec hb hown (hts _ (hPI _ _ hv)) hdg kk
  case ldc2_w idx =>
    obtain ⟨v, hv, rfl, rfl⟩ := h
    exact lv_ldc2 hexec hb hown (hts _ (hPL _ _ hv)) hdg kk
end MJ7
