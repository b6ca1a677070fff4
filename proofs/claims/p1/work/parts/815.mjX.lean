/-! ===== the small machine: reads of what lies outside ===== -/
def mj_gx (TY : List FieldType) (ps : Nat → Option Nat) (pg : Nat → Option Value) (pe : Nat → Option Nat) (i : Instr) (pc : Nat) (f : Nat → va_E) (st : List Value) : Option (Nat × List Value) :=
  match i with
  | .iaload => match st with
    | .int j :: .ref a :: r => if a < 32 then match f a with
      | .inl (t, z, .inl g) => if TY[t]? = some .int then (if j < 0 ∨ z ≤ j.toNatClampNeg then none else some (pc + 1, .int (g j.toNatClampNeg) :: r)) else none
      | _ => none else none
    | _ => none
  | .baload => match st with
    | .int j :: .ref a :: r => if a < 32 then match f a with
      | .inl (t, z, .inl g) => if TY[t]? = some .byte then (if j < 0 ∨ z ≤ j.toNatClampNeg then none else some (pc + 1, .int (g j.toNatClampNeg) :: r)) else none
      | _ => none else none
    | _ => none
  | .arraylength => match st with
    | .ref a :: r => if a < 32 then match f a with
      | .inl (t, z, .inl _) => if (TY[t]?).isSome then some (pc + 1, .int (Int32.ofNat z) :: r) else none
      | _ => none else none
    | _ => none
  | .getfield idx => match st with
    | .ref a :: r => if a < 32 then match pe idx with
      | some k => match f a with
        | .inr (_, fs) => match fs[k]? with
          | some v => some (pc + 3, v :: r)
          | none => none
        | _ => none
      | none => none else none
    | _ => none
  | .ldc idx => match ps idx with
    | some k => some (pc + 2, .ref k :: st)
    | none => none
  | .getstatic idx => match pg idx with
    | some v => some (pc + 3, v :: st)
    | none => none
  | _ => none
section MJX
variable {p : Program} {l : Launch} {e : Env} {R : Room} {s : State} {m : MethodId} {args : Array Value} {below : List Frame} {meth : Method} {c : Code} {H : Heap} {locs : List Loc} {cells slots : Nat} {Q : State → Prop}
variable {cc : ByteArray} {pc pc' nL n base : Nat} {ls : Array Slot} {st st' : List Value} {i : Instr} {D : va_G} {cl cl0 : List vw_C} {tc : Nat → ClassId} {ext : Nat → Nat} {fx : Nat → va_E} {f : Nat → va_E} {TY : List FieldType} {Ts : List Cond} {own : String} {STR : List (String × Nat × String)} {SG : List (String × String × String × Value)} {EXF : List (String × String × String)} {ps : Nat → Option Nat} {pg : Nat → Option Value} {pe : Nat → Option Nat}
theorem mj_r_ex {k : Nat} (h : k < 32) : mj_r ext base k = ext k := by unfold mj_r; rw [if_pos h]
theorem mj_gx_ok (hexec : p.tables.exec = Jvm.exec) (hb : c.code = cc) (hdg : decode cc pc = .ok (i, mj_ln i)) (hts : ∀ w ∈ Ts, w.before args s = true) (hown : s.vm.findClass own = some m.cls) (hXO : mj_XO cl0 TY STR SG EXF ext fx base s) (hPS : mj_PS STR own ps) (hPG : mj_PG Ts SG own pg) (hPE : mj_PE Ts EXF own pe) (hM : mj_M D cl tc ext fx base n f H) (hS : va_S (mj_B base) s.heap H locs) (h : mj_gx TY ps pg pe i pc f st = some (pc', st'))
    (kk : W p l e R s m args below meth c H locs cells slots Q (F0 m pc' ls (mj_st (mj_r ext base) st'))) : W p l e R s m args below meth c H locs cells slots Q (F0 m pc ls (mj_st (mj_r ext base) st)) := by
  obtain ⟨x1, x2, x3, x4, x5⟩ := hXO
  cases i <;> simp only [mj_gx, reduceCtorEq] at h
  case iaload =>
    split at h <;> simp only [Option.ite_none_right_eq_some, reduceCtorEq] at h
    rename_i j a r
    obtain ⟨h1, h⟩ := h
    split at h <;> simp only [Option.ite_none_right_eq_some, Option.ite_none_left_eq_some, Option.some.injEq, Prod.mk.injEq, reduceCtorEq] at h
    rename_i t z g e1
    obtain ⟨h3, h4, rfl, rfl⟩ := h
    have hT := x4 a t z g _ h1 ((hM.2.2.2 a h1).symm.trans e1) h3
    have e2 : mj_st (mj_r ext base) (.int j :: .ref a :: r) = .int j :: .ref (ext a) :: mj_st (mj_r ext base) r := by rw [← mj_r_ex (ext := ext) (base := base) h1]; rfl
    rw [e2]
    exact va_ti hexec hb hT hS (mj_in h4) rfl hdg kk
  case baload =>
    split at h <;> simp only [Option.ite_none_right_eq_some, reduceCtorEq] at h
    rename_i j a r
    obtain ⟨h1, h⟩ := h
    split at h <;> simp only [Option.ite_none_right_eq_some, Option.ite_none_left_eq_some, Option.some.injEq, Prod.mk.injEq, reduceCtorEq] at h
    rename_i t z g e1
    obtain ⟨h3, h4, rfl, rfl⟩ := h
    have hT := x4 a t z g _ h1 ((hM.2.2.2 a h1).symm.trans e1) h3
    have e2 : mj_st (mj_r ext base) (.int j :: .ref a :: r) = .int j :: .ref (ext a) :: mj_st (mj_r ext base) r := by rw [← mj_r_ex (ext := ext) (base := base) h1]; rfl
    rw [e2]
    exact va_tb hexec hb hT hS (mj_in h4) rfl hdg kk
  case arraylength =>
    split at h <;> simp only [Option.ite_none_right_eq_some, reduceCtorEq] at h
    rename_i a r
    obtain ⟨h1, h⟩ := h
    split at h <;> simp only [Option.ite_none_right_eq_some, Option.some.injEq, Prod.mk.injEq, reduceCtorEq] at h
    rename_i t z g e1
    obtain ⟨h3, rfl, rfl⟩ := h
    obtain ⟨ty, h3⟩ := Option.isSome_iff_exists.mp h3
    have hT := x4 a t z g _ h1 ((hM.2.2.2 a h1).symm.trans e1) h3
    have e2 : mj_st (mj_r ext base) (.ref a :: r) = .ref (ext a) :: mj_st (mj_r ext base) r := by rw [← mj_r_ex (ext := ext) (base := base) h1]; rfl
    rw [e2]
    exact va_tlen hexec hb hT hS rfl hdg kk
  case getfield idx =>
    split at h <;> simp only [Option.ite_none_right_eq_some, reduceCtorEq] at h
    rename_i a r
    obtain ⟨h1, h⟩ := h
    split at h <;> (try simp only [reduceCtorEq] at h)
    rename_i k hp
    split at h <;> (try simp only [reduceCtorEq] at h)
    rename_i ci fs e1
    split at h <;> simp only [Option.some.injEq, Prod.mk.injEq, reduceCtorEq] at h
    rename_i v hv
    obtain ⟨rfl, rfl⟩ := h
    obtain ⟨o, nn, d, w1, w2⟩ := hPE _ _ hp
    have hO := (x5 a ci fs h1 ((hM.2.2.2 a h1).symm.trans e1)).2 k v o nn d hv w1
    have e2 : mj_st (mj_r ext base) (.ref a :: r) = .ref (ext a) :: mj_st (mj_r ext base) r := by rw [← mj_r_ex (ext := ext) (base := base) h1]; rfl
    rw [e2]
    exact vk_getf hexec hb hO hS hown (hts _ w2) (fun _ h9 => h9) hdg kk
  case ldc idx =>
    split at h <;> simp only [Option.some.injEq, Prod.mk.injEq, reduceCtorEq] at h
    rename_i k hp
    obtain ⟨rfl, rfl⟩ := h
    obtain ⟨j, tx, rfl, hq⟩ := hPS _ _ hp
    have hj : j < STR.length := (List.getElem?_eq_some_iff.mp hq).1
    refine va_ldcS hexec hb hown (x1 j _ hq) hdg ?_
    have e2 : mj_st (mj_r ext base) (.ref (1 + j) :: st) = .ref (ext (1 + j)) :: mj_st (mj_r ext base) st := by rw [← mj_r_ex (ext := ext) (base := base) (show 1 + j < 32 by omega)]; rfl
    rw [← e2]
    exact kk
  case getstatic idx =>
    split at h <;> simp only [Option.some.injEq, Prod.mk.injEq, reduceCtorEq] at h
    rename_i v hp
    obtain ⟨rfl, rfl⟩ := h
    obtain ⟨C, nn, d, w1, w2⟩ := hPG _ _ hp
    rcases w2 with w2 | ⟨host, w2⟩
    · exact va_gets hexec hb (x3 _ w1) hS hown (hts _ w2) (fun _ h9 => h9) hdg kk
    · exact va_getsN hexec hb (x3 _ w1) hS hown (hts _ w2) (fun _ h9 => h9) hdg kk
end MJX
