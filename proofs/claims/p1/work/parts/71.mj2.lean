/-- loads -/
def mj_load (lv : List (Nat × Value)) (i : Nat) (ok : Value → Bool) : Option Value := match mj_lk lv i with
  | some v => if ok v then some v else none
  | none => none
def mj_isI : Value → Bool
  | .int _ => true
  | _ => false
def mj_isL : Value → Bool
  | .long _ => true
  | _ => false
def mj_isA : Value → Bool
  | .ref _ => true
  | .null => true
  | _ => false
def mj_g1a (i : Instr) (pc nL : Nat) (lv : List (Nat × Value)) (st : List Value) : Option (Nat × List (Nat × Value) × List Value) :=
  match i with
  | .iconst z => some (pc + 1, lv, .int (Int32.ofInt z) :: st)
  | .bipush z => some (pc + 2, lv, .int (Int8.ofInt z).toInt32 :: st)
  | .sipush z => some (pc + 3, lv, .int (Int16.ofInt z).toInt32 :: st)
  | .lconst k => some (pc + 1, lv, .long (Int64.ofNat (k : Nat)) :: st)
  | .aconst_null => some (pc + 1, lv, .null :: st)
  | .iload_n k => (mj_load lv k mj_isI).map fun v => (pc + 1, lv, v :: st)
  | .iload k => (mj_load lv k mj_isI).map fun v => (pc + 2, lv, v :: st)
  | .lload_n k => (mj_load lv k mj_isL).map fun v => (pc + 1, lv, v :: st)
  | .lload k => (mj_load lv k mj_isL).map fun v => (pc + 2, lv, v :: st)
  | .aload_n k => (mj_load lv k mj_isA).map fun v => (pc + 1, lv, v :: st)
  | .aload k => (mj_load lv k mj_isA).map fun v => (pc + 2, lv, v :: st)
  | _ => none
def mj_g1b (i : Instr) (pc nL : Nat) (lv : List (Nat × Value)) (st : List Value) : Option (Nat × List (Nat × Value) × List Value) :=
  match i with
  | .istore_n k => match st with
    | .int x :: r => if (k : Nat) < nL then some (pc + 1, mj_s1 lv k (.int x), r) else none
    | _ => none
  | .istore k => match st with
    | .int x :: r => if k < nL then some (pc + 2, mj_s1 lv k (.int x), r) else none
    | _ => none
  | .lstore_n k => match st with
    | .long x :: r => if (k : Nat) + 1 < nL then some (pc + 1, mj_s2 lv k (.long x), r) else none
    | _ => none
  | .lstore k => match st with
    | .long x :: r => if k + 1 < nL then some (pc + 2, mj_s2 lv k (.long x), r) else none
    | _ => none
  | .astore_n k => match st with
    | .ref x :: r => if (k : Nat) < nL then some (pc + 1, mj_s1 lv k (.ref x), r) else none
    | .null :: r => if (k : Nat) < nL then some (pc + 1, mj_s1 lv k .null, r) else none
    | _ => none
  | .astore k => match st with
    | .ref x :: r => if k < nL then some (pc + 2, mj_s1 lv k (.ref x), r) else none
    | .null :: r => if k < nL then some (pc + 2, mj_s1 lv k .null, r) else none
    | _ => none
  | .iinc k z => match mj_lk lv k with
    | some (.int x) => if k < nL then some (pc + 3, mj_s1 lv k (.int (x + Int32.ofInt z)), st) else none
    | _ => none
  | _ => none
section MJ2
variable {p : Program} {l : Launch} {e : Env} {R : Room} {s : State} {m : MethodId} {args : Array Value} {below : List Frame} {meth : Method} {c : Code} {H : Heap} {locs : List Loc} {cells slots : Nat} {Q : State → Prop}
variable {cc : ByteArray} {pc pc' nL : Nat} {ls : Array Slot} {lv lv' : List (Nat × Value)} {st st' : List Value} {ρ : Nat → Nat} {i : Instr}
theorem mj_load_ok {k : Nat} {ok : Value → Bool} {v : Value} (h : mj_load lv k ok = some v) : mj_lk lv k = some v ∧ ok v = true := by
  unfold mj_load at h
  split at h
  · split at h
    · cases h
      exact ⟨by assumption, by assumption⟩
    · cases h
  · cases h
theorem mj_g1a_ok (hexec : p.tables.exec = Jvm.exec) (hb : c.code = cc) (hdg : decode cc pc = .ok (i, mj_ln i)) (hl : lv_has ls nL (mj_l ρ lv)) (h : mj_g1a i pc nL lv st = some (pc', lv', st'))
    (kk : ∀ ls' : Array Slot, lv_has ls' nL (mj_l ρ lv') → W p l e R s m args below meth c H locs cells slots Q (F0 m pc' ls' (mj_st ρ st'))) : W p l e R s m args below meth c H locs cells slots Q (F0 m pc ls (mj_st ρ st)) := by
  cases i <;> simp only [mj_g1a, Option.map_eq_some_iff, reduceCtorEq, Option.some.injEq, Prod.mk.injEq] at h
  case iconst z =>
    obtain ⟨rfl, rfl, rfl⟩ := h
    exact lv_iconst hexec hb hdg rfl (kk ls hl)
  case bipush z =>
    obtain ⟨rfl, rfl, rfl⟩ := h
    exact lv_bipush hexec hb hdg rfl (kk ls hl)
  case sipush z =>
    obtain ⟨rfl, rfl, rfl⟩ := h
    exact lv_sipush hexec hb hdg rfl (kk ls hl)
  case lconst z =>
    obtain ⟨rfl, rfl, rfl⟩ := h
    exact lv_lconst hexec hb hdg rfl (kk ls hl)
  case aconst_null =>
    obtain ⟨rfl, rfl, rfl⟩ := h
    exact lv_null hexec hb hdg (kk ls hl)
  case iload_n k =>
    obtain ⟨v, hv, rfl, rfl, rfl⟩ := h
    obtain ⟨h1, h2⟩ := mj_load_ok hv
    have h3 := mj_lk_at hl h1
    cases v <;> simp [mj_isI] at h2
    exact lv_iload_n hexec hb hdg rfl h3 (kk ls hl)
  case iload k =>
    obtain ⟨v, hv, rfl, rfl, rfl⟩ := h
    obtain ⟨h1, h2⟩ := mj_load_ok hv
    have h3 := mj_lk_at hl h1
    cases v <;> simp [mj_isI] at h2
    exact lv_iload hexec hb hdg h3 (kk ls hl)
  case lload_n k =>
    obtain ⟨v, hv, rfl, rfl, rfl⟩ := h
    obtain ⟨h1, h2⟩ := mj_load_ok hv
    have h3 := mj_lk_at hl h1
    cases v <;> simp [mj_isL] at h2
    exact lv_lload_n hexec hb hdg rfl h3 (kk ls hl)
  case lload k =>
    obtain ⟨v, hv, rfl, rfl, rfl⟩ := h
    obtain ⟨h1, h2⟩ := mj_load_ok hv
    have h3 := mj_lk_at hl h1
    cases v <;> simp [mj_isL] at h2
    exact lv_lload hexec hb hdg h3 (kk ls hl)
  case aload_n k =>
    obtain ⟨v, hv, rfl, rfl, rfl⟩ := h
    obtain ⟨h1, h2⟩ := mj_load_ok hv
    have h3 := mj_lk_at hl h1
    cases v <;> simp [mj_isA] at h2
    · exact lv_aload_nN hexec hb hdg rfl h3 (kk ls hl)
    · exact lv_aload_n hexec hb hdg rfl h3 (kk ls hl)
  case aload k =>
    obtain ⟨v, hv, rfl, rfl, rfl⟩ := h
    obtain ⟨h1, h2⟩ := mj_load_ok hv
    have h3 := mj_lk_at hl h1
    cases v <;> simp [mj_isA] at h2
    · exact lv_aloadN hexec hb hdg h3 (kk ls hl)
    · exact lv_aload hexec hb hdg h3 (kk ls hl)
theorem mj_g1b_ok (hexec : p.tables.exec = Jvm.exec) (hb : c.code = cc) (hdg : decode cc pc = .ok (i, mj_ln i)) (hl : lv_has ls nL (mj_l ρ lv)) (h : mj_g1b i pc nL lv st = some (pc', lv', st'))
    (kk : ∀ ls' : Array Slot, lv_has ls' nL (mj_l ρ lv') → W p l e R s m args below meth c H locs cells slots Q (F0 m pc' ls' (mj_st ρ st'))) : W p l e R s m args below meth c H locs cells slots Q (F0 m pc ls (mj_st ρ st)) := by
  cases i <;> simp only [mj_g1b, reduceCtorEq] at h
  case istore_n k =>
    split at h <;> simp only [Option.ite_none_right_eq_some, Option.some.injEq, Prod.mk.injEq, reduceCtorEq] at h
    obtain ⟨hn, rfl, rfl, rfl⟩ := h
    exact lv_istore_n hexec hb hdg rfl hl hn (mj_s1_l ρ lv k (.int _)) kk
  case istore k =>
    split at h <;> simp only [Option.ite_none_right_eq_some, Option.some.injEq, Prod.mk.injEq, reduceCtorEq] at h
    obtain ⟨hn, rfl, rfl, rfl⟩ := h
    exact lv_istore hexec hb hdg hl hn (mj_s1_l ρ lv k (.int _)) kk
  case lstore_n k =>
    split at h <;> simp only [Option.ite_none_right_eq_some, Option.some.injEq, Prod.mk.injEq, reduceCtorEq] at h
    obtain ⟨hn, rfl, rfl, rfl⟩ := h
    exact lv_lstore_n hexec hb hdg rfl hl hn (mj_s2_l ρ lv k (.long _)) kk
  case lstore k =>
    split at h <;> simp only [Option.ite_none_right_eq_some, Option.some.injEq, Prod.mk.injEq, reduceCtorEq] at h
    obtain ⟨hn, rfl, rfl, rfl⟩ := h
    exact lv_lstore hexec hb hdg hl hn (mj_s2_l ρ lv k (.long _)) kk
  case astore_n k =>
    split at h <;> simp only [Option.ite_none_right_eq_some, Option.some.injEq, Prod.mk.injEq, reduceCtorEq] at h
    · obtain ⟨hn, rfl, rfl, rfl⟩ := h
      exact lv_astore_n hexec hb hdg rfl hl hn (mj_s1_l ρ lv k (.ref _)) kk
    · obtain ⟨hn, rfl, rfl, rfl⟩ := h
      exact lv_astore_nN hexec hb hdg rfl hl hn (mj_s1_l ρ lv k .null) kk
  case astore k =>
    split at h <;> simp only [Option.ite_none_right_eq_some, Option.some.injEq, Prod.mk.injEq, reduceCtorEq] at h
    · obtain ⟨hn, rfl, rfl, rfl⟩ := h
      exact lv_astore hexec hb hdg hl hn (mj_s1_l ρ lv k (.ref _)) kk
    · obtain ⟨hn, rfl, rfl, rfl⟩ := h
      exact lv_astoreN hexec hb hdg hl hn (mj_s1_l ρ lv k .null) kk
  case iinc k z =>
    split at h <;> simp only [Option.ite_none_right_eq_some, Option.some.injEq, Prod.mk.injEq, reduceCtorEq] at h
    obtain ⟨hn, rfl, rfl, rfl⟩ := h
    rename_i x hx
    obtain ⟨q, hq⟩ := List.mem_iff_getElem?.mp (List.mem_map.mpr ⟨(k, Value.int x), mj_lk_mem hx, rfl⟩ : (k, mj_v ρ (.int x)) ∈ mj_l ρ lv)
    exact lv_iinc hexec hb hdg hl (k := q) hq rfl hn (mj_s1_l ρ lv k (.int _)) kk
end MJ2
