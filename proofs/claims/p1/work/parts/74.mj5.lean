/-! ===== the small machine: stores into arrays ===== -/
theorem mj_arr_i (cA : ClassId) (z k : Nat) (g : Nat → Int32) (x : Int32) : (vp_cell cA (z, .inl g)).setSlot k (.int x) = vp_cell cA (z, .inl (upd g k x)) := by
  rw [vp_cell_i, vp_cell_i, arrV_store]
  congr 2
  funext q
  by_cases hq : q = k
  · subst hq
    simp [updV, upd]
  · simp [updV, upd, hq]
theorem mj_arr_b (cA : ClassId) (z k : Nat) (g : Nat → Int32) (x : Int32) : (vp_cell cA (z, .inl g)).setSlot k (narrow .byte (.int x)) = vp_cell cA (z, .inl (upd g k x.toInt8.toInt32)) := by
  rw [vp_cell_i, vp_cell_i, arrV_store]
  congr 2
  funext q
  by_cases hq : q = k
  · subst hq
    simp [updV, upd]
    rfl
  · simp [updV, upd, hq]
theorem mj_arr_l (cA : ClassId) (z k : Nat) (g : Nat → Int64) (x : Int64) : (vp_cell cA (z, .inr (.inl g))).setSlot k (.long x) = vp_cell cA (z, .inr (.inl (vp_updL g k x))) := by
  rw [vp_cell_l, vp_cell_l, arrV_store]
  congr 2
  funext q
  by_cases hq : q = k
  · subst hq
    simp [updV, vp_updL]
  · simp [updV, vp_updL, hq]
theorem mj_arr_q (ρ : Nat → Nat) (cA : ClassId) (z k : Nat) (g : Nat → Option Nat) (o : Option Nat) : (vp_cell cA (z, .inr (.inr (.inr (.inr (fun j => (g j).map ρ)))))).setSlot k (va_rf (o.map ρ)) = vp_cell cA (z, .inr (.inr (.inr (.inr (fun j => (va_up g k o j).map ρ))))) := by
  rw [vp_cell_q, vp_cell_q, arrV_store]
  congr 2
  funext q
  by_cases hq : q = k
  · subst hq
    simp [updV, va_up]
  · simp [updV, va_up, hq]
def mj_g3 (TY : List FieldType) (cl : List vw_C) (i : Instr) (pc n : Nat) (f : Nat → va_E) (st : List Value) : Option (Nat × (Nat → va_E) × List Value) :=
  match i with
  | .iastore => match st with
    | .int x :: .int j :: .ref a :: r => if 32 ≤ a ∧ a < n then match f a with
      | .inl (t, z, .inl g) => if TY[t]? = some .int then (if j < 0 ∨ z ≤ j.toNatClampNeg then none else some (pc + 1, va_up f a (.inl (t, z, .inl (upd g j.toNatClampNeg x))), r)) else none
      | _ => none else none
    | _ => none
  | .bastore => match st with
    | .int x :: .int j :: .ref a :: r => if 32 ≤ a ∧ a < n then match f a with
      | .inl (t, z, .inl g) => if j < 0 ∨ z ≤ j.toNatClampNeg then none else (if TY[t]? = some .byte then some (pc + 1, va_up f a (.inl (t, z, .inl (upd g j.toNatClampNeg x.toInt8.toInt32))), r) else if TY[t]? = some .boolean ∧ (x = 0 ∨ x = 1) then some (pc + 1, va_up f a (.inl (t, z, .inl (upd g j.toNatClampNeg x))), r) else none)
      | _ => none else none
    | _ => none
  | .lastore => match st with
    | .long x :: .int j :: .ref a :: r => if 32 ≤ a ∧ a < n then match f a with
      | .inl (t, z, .inr (.inl g)) => if TY[t]? = some .long then (if j < 0 ∨ z ≤ j.toNatClampNeg then none else some (pc + 1, va_up f a (.inl (t, z, .inr (.inl (vp_updL g j.toNatClampNeg x)))), r)) else none
      | _ => none else none
    | _ => none
  | .aastore => match st with
    | .ref v :: .int j :: .ref a :: r => if (32 ≤ a ∧ a < n) ∧ 32 ≤ v ∧ v < n then match f a with
      | .inl (t, z, .inr (.inr (.inr (.inr g)))) => match f v with
        | .inr (ci, _) => match cl[ci]? with
          | some q => if TY[t]? = some (.object q.1) then (if j < 0 ∨ z ≤ j.toNatClampNeg then none else some (pc + 1, va_up f a (.inl (t, z, .inr (.inr (.inr (.inr (va_up g j.toNatClampNeg (some v))))))), r)) else none
          | none => none
        | _ => none
      | _ => none else none
    | .null :: .int j :: .ref a :: r => if 32 ≤ a ∧ a < n then match f a with
      | .inl (t, z, .inr (.inr (.inr (.inr g)))) => match TY[t]? with
        | some (.object _) => if j < 0 ∨ z ≤ j.toNatClampNeg then none else some (pc + 1, va_up f a (.inl (t, z, .inr (.inr (.inr (.inr (va_up g j.toNatClampNeg none)))))), r)
        | _ => none
      | _ => none else none
    | _ => none
  | _ => none
section MJ5
variable {p : Program} {l : Launch} {e : Env} {R : Room} {s : State} {m : MethodId} {args : Array Value} {below : List Frame} {meth : Method} {c : Code} {H H0 : Heap} {locs : List Loc} {cells slots : Nat} {Q : State → Prop}
variable {cc : ByteArray} {pc pc' nL n base : Nat} {ls : Array Slot} {st st' : List Value} {i : Instr} {D : va_G} {cl : List vw_C} {tc : Nat → ClassId} {ext : Nat → Nat} {fx : Nat → va_E} {f f' : Nat → va_E} {TY : List FieldType}
theorem mj_g3_ok (hexec : p.tables.exec = Jvm.exec) (hb : c.code = cc) (hdg : decode cc pc = .ok (i, mj_ln i)) (hK : va_K D cl (mj_tys TY tc) s) (hM : mj_M D cl tc ext fx base n f H) (hS : va_S (mj_B base) H0 H locs) (h : mj_g3 TY cl i pc n f st = some (pc', f', st'))
    (kk : ∀ (H1 : Heap) (locs1 : List Loc), mj_M D cl tc ext fx base n f' H1 → va_S (mj_B base) H0 H1 locs1 → W p l e R s m args below meth c H1 locs1 cells slots Q (F0 m pc' ls (mj_st (mj_r ext base) st'))) : W p l e R s m args below meth c H locs cells slots Q (F0 m pc ls (mj_st (mj_r ext base) st)) := by
  cases i <;> simp only [mj_g3, reduceCtorEq] at h
  case iastore =>
    split at h <;> simp only [Option.ite_none_right_eq_some, reduceCtorEq] at h
    obtain ⟨⟨h1, h2⟩, h⟩ := h
    split at h <;> simp only [Option.ite_none_right_eq_some, Option.ite_none_left_eq_some, Option.some.injEq, Prod.mk.injEq, reduceCtorEq] at h
    rename_i t z g e1
    obtain ⟨h3, h4, rfl, rfl, rfl⟩ := h
    have hP := hM.2.2.1 _ h1 h2
    rw [e1] at hP
    refine W.iast hexec hb hP ((hK.2 _ _ (mj_tys_at h3)).1 z (fun j => .int (g j))) (fun q => by cases q) (by show ¬ (_ < 0 ∨ (arrV _ _ _).slots.size ≤ _); rw [arrV_size]; exact h4) rfl rfl hdg fun H1 q1 q2 q3 => ?_
    refine kk H1 _ (hM.put h1 h2 q2 ?_ q3) (hS.put q2 q3 (mj_r_B h1))
    exact q1.trans (congrArg some (mj_arr_i _ _ _ _ _))
  case bastore =>
    split at h <;> simp only [Option.ite_none_right_eq_some, reduceCtorEq] at h
    obtain ⟨⟨h1, h2⟩, h⟩ := h
    split at h <;> simp only [Option.ite_none_left_eq_some, reduceCtorEq] at h
    rename_i t z g e1
    obtain ⟨h4, h⟩ := h
    have hP := hM.2.2.1 _ h1 h2
    rw [e1] at hP
    split at h
    · rename_i h3
      simp only [Option.some.injEq, Prod.mk.injEq] at h
      obtain ⟨rfl, rfl, rfl⟩ := h
      refine W.bast hexec hb hP ((hK.2 _ _ (mj_tys_at h3)).1 z (fun j => .int (g j))) (fun q => by cases q) (by show ¬ (_ < 0 ∨ (arrV _ _ _).slots.size ≤ _); rw [arrV_size]; exact h4) rfl rfl hdg fun H1 q1 q2 q3 => ?_
      refine kk H1 _ (hM.put h1 h2 q2 ?_ q3) (hS.put q2 q3 (mj_r_B h1))
      exact q1.trans (congrArg some (mj_arr_b _ _ _ _ _))
    · simp only [Option.ite_none_right_eq_some, Option.some.injEq, Prod.mk.injEq] at h
      obtain ⟨⟨h3, h5⟩, rfl, rfl, rfl⟩ := h
      refine W.zast hexec hb hP ((hK.2 _ _ (mj_tys_at h3)).1 z (fun j => .int (g j))) (fun q => by cases q) (by show ¬ (_ < 0 ∨ (arrV _ _ _).slots.size ≤ _); rw [arrV_size]; exact h4) rfl rfl hdg fun H1 q1 q2 q3 => ?_
      refine kk H1 _ (hM.put h1 h2 q2 ?_ q3) (hS.put q2 q3 (mj_r_B h1))
      refine q1.trans (congrArg some ?_)
      rcases h5 with rfl | rfl <;> exact mj_arr_i _ _ _ _ _
  case lastore =>
    split at h <;> simp only [Option.ite_none_right_eq_some, reduceCtorEq] at h
    obtain ⟨⟨h1, h2⟩, h⟩ := h
    split at h <;> simp only [Option.ite_none_right_eq_some, Option.ite_none_left_eq_some, Option.some.injEq, Prod.mk.injEq, reduceCtorEq] at h
    rename_i t z g e1
    obtain ⟨h3, h4, rfl, rfl, rfl⟩ := h
    have hP := hM.2.2.1 _ h1 h2
    rw [e1] at hP
    refine W.last hexec hb hP ((hK.2 _ _ (mj_tys_at h3)).1 z (fun j => .long (g j))) (fun q => by cases q) (by show ¬ (_ < 0 ∨ (arrV _ _ _).slots.size ≤ _); rw [arrV_size]; exact h4) rfl rfl hdg fun H1 q1 q2 q3 => ?_
    refine kk H1 _ (hM.put h1 h2 q2 ?_ q3) (hS.put q2 q3 (mj_r_B h1))
    exact q1.trans (congrArg some (mj_arr_l _ _ _ _ _))
  case aastore =>
    split at h
    · simp only [Option.ite_none_right_eq_some] at h
      obtain ⟨⟨⟨h1, h2⟩, h5, h6⟩, h⟩ := h
      split at h <;> (try simp only [reduceCtorEq] at h)
      rename_i t z g e1
      split at h <;> (try simp only [reduceCtorEq] at h)
      rename_i ci vs e2
      split at h <;> simp only [Option.ite_none_right_eq_some, Option.ite_none_left_eq_some, Option.some.injEq, Prod.mk.injEq, reduceCtorEq] at h
      rename_i q hc
      obtain ⟨h3, h4, rfl, rfl, rfl⟩ := h
      have hP := hM.2.2.1 _ h1 h2
      rw [e1] at hP
      have hV := hM.2.2.1 _ h5 h6
      rw [e2] at hV
      obtain ⟨r', hr', cellV, g1, g2, g3, -⟩ := hV
      have hcls := (hK.1 ci q hc).2
      obtain ⟨kA, comp, k1, k2, k3, -⟩ := (hK.2 _ _ (mj_tys_at h3)).2
      have hcomp : comp = D.1 ci := Option.some.inj (k3.symm.trans hcls.1)
      subst hcomp
      obtain ⟨kC, hkC, -⟩ := hcls.2
      refine W.aast hexec hb hP (fun q h => by cases h) (fun h => by cases h) k1 k2 rfl hkC ⟨fun q => h4 (Or.inl q), by show _ < (arrV _ _ _).slots.size; rw [arrV_size]; exact Nat.not_le.mp fun q => h4 (Or.inr q)⟩ g1 (fun q h => by rw [g3] at h; cases h) (by rw [g2]; exact hkC) (by rw [g2]; exact va_assign hcls) rfl rfl hdg fun H1 q1 q2 q3 => ?_
      refine kk H1 _ (hM.put h1 h2 q2 ?_ q3) (hS.put q2 q3 (mj_r_B h1))
      exact q1.trans (congrArg some (mj_arr_q _ _ _ _ _ (some _)))
    · simp only [Option.ite_none_right_eq_some] at h
      obtain ⟨⟨h1, h2⟩, h⟩ := h
      split at h <;> (try simp only [reduceCtorEq] at h)
      rename_i t z g e1
      split at h <;> simp only [Option.ite_none_left_eq_some, Option.some.injEq, Prod.mk.injEq, reduceCtorEq] at h
      rename_i C h3
      obtain ⟨h4, rfl, rfl, rfl⟩ := h
      have hP := hM.2.2.1 _ h1 h2
      rw [e1] at hP
      refine va_WaastN (C := C) hexec hb hP ((hK.2 _ _ (mj_tys_at h3)).1 z (fun j => va_rf ((g j).map (mj_r ext base)))) (fun h => by cases h) (by show ¬ (_ < 0 ∨ (arrV _ _ _).slots.size ≤ _); rw [arrV_size]; exact h4) rfl rfl hdg fun H1 q1 q2 q3 => ?_
      refine kk H1 _ (hM.put h1 h2 q2 ?_ q3) (hS.put q2 q3 (mj_r_B h1))
      exact q1.trans (congrArg some (mj_arr_q (mj_r ext base) _ _ _ _ none))
    · cases h
end MJ5
