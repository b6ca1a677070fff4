def mj_g1c (i : Instr) (pc : Nat) (lv : List (Nat × Value)) (st : List Value) : Option (Nat × List (Nat × Value) × List Value) :=
  match i with
  | .idiv => match st with
    | .int y :: .int x :: r => if y = 0 then none else some (pc + 1, lv, .int (x / y) :: r)
    | _ => none
  | .irem => match st with
    | .int y :: .int x :: r => if y = 0 then none else some (pc + 1, lv, .int (x - x / y * y) :: r)
    | _ => none
  | .ldiv => match st with
    | .long y :: .long x :: r => if y = 0 then none else some (pc + 1, lv, .long (x / y) :: r)
    | _ => none
  | .lrem => match st with
    | .long y :: .long x :: r => if y = 0 then none else some (pc + 1, lv, .long (x - x / y * y) :: r)
    | _ => none
  | .ineg => match st with
    | .int x :: r => some (pc + 1, lv, .int (-x) :: r)
    | _ => none
  | .lneg => match st with
    | .long x :: r => some (pc + 1, lv, .long (-x) :: r)
    | _ => none
  | .i2l => match st with
    | .int x :: r => some (pc + 1, lv, .long x.toInt64 :: r)
    | _ => none
  | .l2i => match st with
    | .long x :: r => some (pc + 1, lv, .int x.toInt32 :: r)
    | _ => none
  | .i2b => match st with
    | .int x :: r => some (pc + 1, lv, .int x.toInt8.toInt32 :: r)
    | _ => none
  | .i2s => match st with
    | .int x :: r => some (pc + 1, lv, .int x.toInt16.toInt32 :: r)
    | _ => none
  | .i2c => match st with
    | .int x :: r => some (pc + 1, lv, .int (x.toUInt32 % 65536).toInt32 :: r)
    | _ => none
  | .lushr => match st with
    | .int y :: .long x :: r => some (pc + 1, lv, .long (x.toUInt64 >>> (y.toInt64.toUInt64 &&& Int64.toUInt64 63)).toInt64 :: r)
    | _ => none
  | .lshl => match st with
    | .int y :: .long x :: r => some (pc + 1, lv, .long (x <<< (y.toInt64 &&& 63)) :: r)
    | _ => none
  | .lshr => match st with
    | .int y :: .long x :: r => some (pc + 1, lv, .long (x >>> (y.toInt64 &&& 63)) :: r)
    | _ => none
  | .lcmp => match st with
    | .long y :: .long x :: r => some (pc + 1, lv, .int (lg_cmp x y) :: r)
    | _ => none
  | .dup => match st with
    | v :: r => if v.category = 1 then some (pc + 1, lv, v :: v :: r) else none
    | _ => none
  | .pop => match st with
    | v :: r => if v.category = 1 then some (pc + 1, lv, r) else none
    | _ => none
  | .dup_x1 => match st with
    | v :: w :: r => if v.category = 1 ∧ w.category = 1 then some (pc + 1, lv, v :: w :: v :: r) else none
    | _ => none
  | .dup_x2 => match st with
    | v :: w :: u :: r => if v.category = 1 ∧ w.category = 1 ∧ u.category = 1 then some (pc + 1, lv, v :: w :: u :: v :: r) else none
    | _ => none
  | .dup2 => match st with
    | v :: w :: r => if v.category = 1 ∧ w.category = 1 then some (pc + 1, lv, v :: w :: v :: w :: r) else none
    | _ => none
  | _ => none
def mj_g1d (i : Instr) (pc : Nat) (lv : List (Nat × Value)) (st : List Value) : Option (Nat × List (Nat × Value) × List Value) :=
  match i with
  | .goto off => (mj_tgt pc off).map fun t => (t, lv, st)
  | .ifCond cd off => match st with
    | .int x :: r => (mj_tgt pc off).map fun t => (if mj_cmp cd x 0 then t else pc + 3, lv, r)
    | _ => none
  | .if_icmp cd off => match st with
    | .int y :: .int x :: r => (mj_tgt pc off).map fun t => (if mj_cmp cd x y then t else pc + 3, lv, r)
    | _ => none
  | .ifnull off => match st with
    | .ref _ :: r => some (pc + 3, lv, r)
    | .null :: r => (mj_tgt pc off).map fun t => (t, lv, r)
    | _ => none
  | .ifnonnull off => match st with
    | .ref _ :: r => (mj_tgt pc off).map fun t => (t, lv, r)
    | .null :: r => some (pc + 3, lv, r)
    | _ => none
  | _ => match mj_bin i with
    | some g => match st with
      | .int y :: .int x :: r => some (pc + 1, lv, .int (g x y) :: r)
      | _ => none
    | none => match mj_binL i with
      | some g => match st with
        | .long y :: .long x :: r => some (pc + 1, lv, .long (g x y) :: r)
        | _ => none
      | none => none
/-- switches -/
def mj_g1e (i : Instr) (pc : Nat) (lv : List (Nat × Value)) (st : List Value) : Option (Nat × List (Nat × Value) × List Value) :=
  match i with
  | .tableswitch d lo hi offs => match st with
    | .int x :: r => if x.toInt < lo ∨ hi < x.toInt then (mj_tgt pc d).map fun t => (t, lv, r) else match offs[(x.toInt - lo).toNat]? with
      | some off => (mj_tgt pc off).map fun t => (t, lv, r)
      | none => none
    | _ => none
  | .lookupswitch d ps => match st with
    | .int x :: r => if (ps.toList.zip (ps.toList.drop 1)).all (fun (a, next) => a.1 < next.1) = true then (mj_tgt pc (Op.lookupswitch.offset ps.toList d x.toInt)).map fun t => (t, lv, r) else none
    | _ => none
  | _ => none
theorem mj_bin_ln {i : Instr} {g : Int32 → Int32 → Int32} (h : mj_bin i = some g) : mj_ln i = 1 := by
  cases i <;> simp only [mj_bin, reduceCtorEq] at h <;> rfl
theorem mj_binL_ln {i : Instr} {g : Int64 → Int64 → Int64} (h : mj_binL i = some g) : mj_ln i = 1 := by
  cases i <;> simp only [mj_binL, reduceCtorEq] at h <;> rfl
section MJ3
variable {p : Program} {l : Launch} {e : Env} {R : Room} {s : State} {m : MethodId} {args : Array Value} {below : List Frame} {meth : Method} {c : Code} {H : Heap} {locs : List Loc} {cells slots : Nat} {Q : State → Prop}
variable {cc : ByteArray} {pc pc' nL len : Nat} {ls : Array Slot} {lv lv' : List (Nat × Value)} {st st' : List Value} {ρ : Nat → Nat} {i : Instr}
theorem mj_g1c_ok (hexec : p.tables.exec = Jvm.exec) (hb : c.code = cc) (hdg : decode cc pc = .ok (i, mj_ln i)) (hl : lv_has ls nL (mj_l ρ lv)) (h : mj_g1c i pc lv st = some (pc', lv', st'))
    (kk : ∀ ls' : Array Slot, lv_has ls' nL (mj_l ρ lv') → W p l e R s m args below meth c H locs cells slots Q (F0 m pc' ls' (mj_st ρ st'))) : W p l e R s m args below meth c H locs cells slots Q (F0 m pc ls (mj_st ρ st)) := by
  cases i <;> simp only [mj_g1c, reduceCtorEq] at h
  case idiv =>
    split at h <;> simp only [Option.ite_none_left_eq_some, Option.some.injEq, Prod.mk.injEq, reduceCtorEq] at h
    obtain ⟨hn, rfl, rfl, rfl⟩ := h
    exact lv_idiv hexec hb hdg hn (kk ls hl)
  case irem =>
    split at h <;> simp only [Option.ite_none_left_eq_some, Option.some.injEq, Prod.mk.injEq, reduceCtorEq] at h
    obtain ⟨hn, rfl, rfl, rfl⟩ := h
    exact lv_irem hexec hb hdg hn (kk ls hl)
  case ldiv =>
    split at h <;> simp only [Option.ite_none_left_eq_some, Option.some.injEq, Prod.mk.injEq, reduceCtorEq] at h
    obtain ⟨hn, rfl, rfl, rfl⟩ := h
    exact lv_ldiv hexec hb hdg hn (kk ls hl)
  case lrem =>
    split at h <;> simp only [Option.ite_none_left_eq_some, Option.some.injEq, Prod.mk.injEq, reduceCtorEq] at h
    obtain ⟨hn, rfl, rfl, rfl⟩ := h
    exact lv_lrem hexec hb hdg hn (kk ls hl)
  case ineg =>
    split at h <;> simp only [Option.some.injEq, Prod.mk.injEq, reduceCtorEq] at h
    obtain ⟨rfl, rfl, rfl⟩ := h
    exact lv_ineg hexec hb hdg (kk ls hl)
  case lneg =>
    split at h <;> simp only [Option.some.injEq, Prod.mk.injEq, reduceCtorEq] at h
    obtain ⟨rfl, rfl, rfl⟩ := h
    exact lv_lneg hexec hb hdg (kk ls hl)
  case i2l =>
    split at h <;> simp only [Option.some.injEq, Prod.mk.injEq, reduceCtorEq] at h
    obtain ⟨rfl, rfl, rfl⟩ := h
    exact lv_i2l hexec hb hdg rfl (kk ls hl)
  case l2i =>
    split at h <;> simp only [Option.some.injEq, Prod.mk.injEq, reduceCtorEq] at h
    obtain ⟨rfl, rfl, rfl⟩ := h
    exact lv_l2i hexec hb hdg rfl (kk ls hl)
  case i2b =>
    split at h <;> simp only [Option.some.injEq, Prod.mk.injEq, reduceCtorEq] at h
    obtain ⟨rfl, rfl, rfl⟩ := h
    exact lv_i2b hexec hb hdg rfl (kk ls hl)
  case i2s =>
    split at h <;> simp only [Option.some.injEq, Prod.mk.injEq, reduceCtorEq] at h
    obtain ⟨rfl, rfl, rfl⟩ := h
    exact lv_i2s hexec hb hdg rfl (kk ls hl)
  case i2c =>
    split at h <;> simp only [Option.some.injEq, Prod.mk.injEq, reduceCtorEq] at h
    obtain ⟨rfl, rfl, rfl⟩ := h
    exact lv_i2c hexec hb hdg rfl (kk ls hl)
  case lushr =>
    split at h <;> simp only [Option.some.injEq, Prod.mk.injEq, reduceCtorEq] at h
    obtain ⟨rfl, rfl, rfl⟩ := h
    exact lv_lushr hexec hb hdg rfl (kk ls hl)
  case lshl =>
    split at h <;> simp only [Option.some.injEq, Prod.mk.injEq, reduceCtorEq] at h
    obtain ⟨rfl, rfl, rfl⟩ := h
    exact lv_lshl hexec hb hdg rfl (kk ls hl)
  case lshr =>
    split at h <;> simp only [Option.some.injEq, Prod.mk.injEq, reduceCtorEq] at h
    obtain ⟨rfl, rfl, rfl⟩ := h
    exact lv_lshr hexec hb hdg rfl (kk ls hl)
  case lcmp =>
    split at h <;> simp only [Option.some.injEq, Prod.mk.injEq, reduceCtorEq] at h
    obtain ⟨rfl, rfl, rfl⟩ := h
    exact W.lcmp hexec hb hdg (kk ls hl)
  case dup =>
    split at h <;> simp only [Option.ite_none_right_eq_some, Option.some.injEq, Prod.mk.injEq, reduceCtorEq] at h
    obtain ⟨hn, rfl, rfl, rfl⟩ := h
    exact lv_dup hexec hb hdg (by rw [mj_cat]; exact hn) (kk ls hl)
  case pop =>
    split at h <;> simp only [Option.ite_none_right_eq_some, Option.some.injEq, Prod.mk.injEq, reduceCtorEq] at h
    obtain ⟨hn, rfl, rfl, rfl⟩ := h
    exact lv_pop hexec hb hdg (by rw [mj_cat]; exact hn) (kk ls hl)
  case dup_x1 =>
    split at h <;> simp only [Option.ite_none_right_eq_some, Option.some.injEq, Prod.mk.injEq, reduceCtorEq] at h
    obtain ⟨hn, rfl, rfl, rfl⟩ := h
    exact lv_dup_x1 hexec hb hdg (by rw [mj_cat]; exact hn.1) (by rw [mj_cat]; exact hn.2) (kk ls hl)
  case dup_x2 =>
    split at h <;> simp only [Option.ite_none_right_eq_some, Option.some.injEq, Prod.mk.injEq, reduceCtorEq] at h
    obtain ⟨hn, rfl, rfl, rfl⟩ := h
    exact lv_dup_x2 hexec hb hdg (by rw [mj_cat]; exact hn.1) (by rw [mj_cat]; exact hn.2.1) (by rw [mj_cat]; exact hn.2.2) (kk ls hl)
  case dup2 =>
    split at h <;> simp only [Option.ite_none_right_eq_some, Option.some.injEq, Prod.mk.injEq, reduceCtorEq] at h
    obtain ⟨hn, rfl, rfl, rfl⟩ := h
    exact lv_dup2_11 hexec hb hdg (by rw [mj_cat]; exact hn.1) (by rw [mj_cat]; exact hn.2) (kk ls hl)
theorem mj_g1d_ok (hexec : p.tables.exec = Jvm.exec) (hb : c.code = cc) (hdg : decode cc pc = .ok (i, mj_ln i)) (hl : lv_has ls nL (mj_l ρ lv)) (h : mj_g1d i pc lv st = some (pc', lv', st'))
    (kk : ∀ ls' : Array Slot, lv_has ls' nL (mj_l ρ lv') → W p l e R s m args below meth c H locs cells slots Q (F0 m pc' ls' (mj_st ρ st'))) : W p l e R s m args below meth c H locs cells slots Q (F0 m pc ls (mj_st ρ st)) := by
  unfold mj_g1d at h
  split at h
  · obtain ⟨t, ht, h⟩ := Option.map_eq_some_iff.mp h
    cases h
    exact lv_goto hexec hb hdg (mj_tgt_ok ht) (kk ls hl)
  · split at h
    · obtain ⟨t, ht, h⟩ := Option.map_eq_some_iff.mp h
      cases h
      exact mj_if_ok hexec hb hdg ht (kk ls hl)
    · cases h
  · split at h
    · obtain ⟨t, ht, h⟩ := Option.map_eq_some_iff.mp h
      cases h
      exact mj_icmp_ok hexec hb hdg ht (kk ls hl)
    · cases h
  · split at h
    · cases h
      exact lv_ifnull hexec hb hdg (kk ls hl)
    · obtain ⟨t, ht, h⟩ := Option.map_eq_some_iff.mp h
      cases h
      exact lv_ifnullN hexec hb hdg (mj_tgt_ok ht) (kk ls hl)
    · cases h
  · split at h
    · obtain ⟨t, ht, h⟩ := Option.map_eq_some_iff.mp h
      cases h
      exact lv_ifnonnull hexec hb hdg (mj_tgt_ok ht) (kk ls hl)
    · cases h
      exact lv_ifnonnullN hexec hb hdg (kk ls hl)
    · cases h
  · split at h
    · rename_i g hg
      rw [mj_bin_ln hg] at hdg
      split at h
      · cases h
        exact mj_bin_ok hexec hb hg hdg (kk ls hl)
      · cases h
    · split at h
      · rename_i g hg
        rw [mj_binL_ln hg] at hdg
        split at h
        · cases h
          exact mj_binL_ok hexec hb hg hdg (kk ls hl)
        · cases h
      · cases h
theorem mj_g1e_ok (hexec : p.tables.exec = Jvm.exec) (hb : c.code = cc) (hdg : decode cc pc = .ok (i, len)) (hl : lv_has ls nL (mj_l ρ lv)) (h : mj_g1e i pc lv st = some (pc', lv', st'))
    (kk : ∀ ls' : Array Slot, lv_has ls' nL (mj_l ρ lv') → W p l e R s m args below meth c H locs cells slots Q (F0 m pc' ls' (mj_st ρ st'))) : W p l e R s m args below meth c H locs cells slots Q (F0 m pc ls (mj_st ρ st)) := by
  unfold mj_g1e at h
  split at h
  · split at h
    · split at h
      · rename_i hx
        obtain ⟨t, ht, h⟩ := Option.map_eq_some_iff.mp h
        cases h
        exact lv_tableOut hexec hb hdg hx (mj_tgt_ok ht) (kk ls hl)
      · rename_i hx
        split at h
        · rename_i off ho
          obtain ⟨t, ht, h⟩ := Option.map_eq_some_iff.mp h
          cases h
          exact lv_tableIn hexec hb hdg (fun q => hx (Or.inl q)) (fun q => hx (Or.inr q)) ho (mj_tgt_ok ht) (kk ls hl)
        · cases h
    · cases h
  · split at h
    · split at h
      · rename_i hx
        obtain ⟨t, ht, h⟩ := Option.map_eq_some_iff.mp h
        cases h
        exact lv_lookup hexec hb hdg hx rfl (mj_tgt_ok ht) (kk ls hl)
      · cases h
    · cases h
  · cases h
end MJ3
