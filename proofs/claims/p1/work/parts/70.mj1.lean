/-! ===== A SMALL MACHINE (mj): bytecode over relative references, as a program; its first part: what touches no heap ===== -/
/-- the kinds of exceptions -/
def mj_ex (c : Nat) : Bool := decide (13 ≤ c) && decide (c ≤ 17)
/-- the kinds of what can be made are kinds of the program -/
def mj_sub (cl cl0 : List vw_C) : Prop := (∀ (c : Nat) (q : vw_C), cl[c]? = some q → cl0[c]? = some q) ∧ ∀ (c : Nat) (q : vw_C), mj_ex c = true → cl0[c]? = some q → cl[c]? = some q
/-- a value whose references are numbers of ours, as the machine has it -/
def mj_v (ρ : Nat → Nat) : Value → Value
  | .ref a => .ref (ρ a)
  | v => v
def mj_l (ρ : Nat → Nat) (lv : List (Nat × Value)) : List (Nat × Value) := lv.map (fun q => (q.1, mj_v ρ q.2))
def mj_st (ρ : Nat → Nat) (st : List Value) : List Value := st.map (mj_v ρ)
theorem mj_cat (ρ : Nat → Nat) (v : Value) : (mj_v ρ v).category = v.category := by cases v <;> rfl
/-- the variable i -/
def mj_lk : List (Nat × Value) → Nat → Option Value
  | [], _ => none
  | q :: r, i => if q.1 = i then some q.2 else mj_lk r i
theorem mj_lk_mem {lv : List (Nat × Value)} {i : Nat} {v : Value} (h : mj_lk lv i = some v) : (i, v) ∈ lv := by
  induction lv with
  | nil => simp [mj_lk] at h
  | cons q r ih =>
    unfold mj_lk at h
    split at h
    · rename_i e
      cases h
      subst e
      exact List.mem_cons_self
    · exact List.mem_cons_of_mem _ (ih h)
theorem mj_lk_at {ρ : Nat → Nat} {ls : Array Slot} {nL : Nat} {lv : List (Nat × Value)} {i : Nat} {v : Value} (h : lv_has ls nL (mj_l ρ lv)) (hk : mj_lk lv i = some v) : ls[i]? = some (.val (mj_v ρ v)) :=
  h.2.2 (i, mj_v ρ v) (List.mem_map.mpr ⟨(i, v), mj_lk_mem hk, rfl⟩)
def mj_s1 (lv : List (Nat × Value)) (i : Nat) (v : Value) : List (Nat × Value) := (i, v) :: lv.filter (fun q => !(q.1 == i) && !(q.1 + 1 == i && q.2.category == 2))
def mj_s2 (lv : List (Nat × Value)) (i : Nat) (v : Value) : List (Nat × Value) := (i, v) :: lv.filter (fun q => !(q.1 == i) && (!(q.1 == i + 1) && !(q.1 + 1 == i && q.2.category == 2)))
theorem mj_s1_l (ρ : Nat → Nat) (lv : List (Nat × Value)) (i : Nat) (v : Value) : (i, mj_v ρ v) :: (mj_l ρ lv).filter (fun q => !(q.1 == i) && !(q.1 + 1 == i && q.2.category == 2)) = mj_l ρ (mj_s1 lv i v) := by
  simp only [mj_l, mj_s1, List.map_cons, List.filter_map]
  congr 3
  funext q
  simp [Function.comp, mj_cat]
theorem mj_s2_l (ρ : Nat → Nat) (lv : List (Nat × Value)) (i : Nat) (v : Value) : (i, mj_v ρ v) :: (mj_l ρ lv).filter (fun q => !(q.1 == i) && (!(q.1 == i + 1) && !(q.1 + 1 == i && q.2.category == 2))) = mj_l ρ (mj_s2 lv i v) := by
  simp only [mj_l, mj_s2, List.map_cons, List.filter_map]
  congr 3
  funext q
  simp [Function.comp, mj_cat]
/-- where a jump goes -/
def mj_tgt (pc : Nat) (off : Int) : Option Nat := if 0 ≤ (pc : Int) + off then some ((pc : Int) + off).toNat else none
theorem mj_tgt_ok {pc : Nat} {off : Int} {t : Nat} (h : mj_tgt pc off = some t) : (pc : Int) + off = (t : Int) := by
  unfold mj_tgt at h
  split at h
  · cases h
    omega
  · cases h
/-- what two ints give -/
def mj_bin : Instr → Option (Int32 → Int32 → Int32)
  | .iadd => some (fun x y => x + y)
  | .isub => some (fun x y => x - y)
  | .imul => some (fun x y => x * y)
  | .iand => some (fun x y => x &&& y)
  | .ior => some (fun x y => x ||| y)
  | .ixor => some (fun x y => x ^^^ y)
  | .ishl => some (fun x y => x <<< (y &&& 31))
  | .ishr => some (fun x y => x >>> (y &&& 31))
  | .iushr => some (fun x y => (x.toUInt32 >>> (y.toUInt32 &&& Int32.toUInt32 31)).toInt32)
  | _ => none
def mj_binL : Instr → Option (Int64 → Int64 → Int64)
  | .ladd => some (fun x y => x + y)
  | .lsub => some (fun x y => x - y)
  | .lmul => some (fun x y => x * y)
  | .land => some (fun x y => x &&& y)
  | .lor => some (fun x y => x ||| y)
  | .lxor => some (fun x y => x ^^^ y)
  | _ => none
def mj_cmp : ClassFile.Cond → Int32 → Int32 → Bool
  | .eq, x, y => decide (x = y)
  | .ne, x, y => !decide (x = y)
  | .lt, x, y => decide (x < y)
  | .ge, x, y => decide (y ≤ x)
  | .gt, x, y => decide (y < x)
  | .le, x, y => decide (x ≤ y)
section MJ1
variable {p : Program} {l : Launch} {e : Env} {R : Room} {s : State} {m : MethodId} {args : Array Value} {below : List Frame} {meth : Method} {c : Code} {H : Heap} {locs : List Loc} {cells slots : Nat} {Q : State → Prop}
variable {cc : ByteArray} {pc : Nat} {ls : Array Slot} {rest : List Value}
theorem mj_bin_ok (hexec : p.tables.exec = Jvm.exec) (hb : c.code = cc) {i : Instr} {g : Int32 → Int32 → Int32} (hg : mj_bin i = some g) {x y : Int32} (hdg : decode cc pc = .ok (i, 1))
    (k : W p l e R s m args below meth c H locs cells slots Q (F0 m (pc + 1) ls (.int (g x y) :: rest))) : W p l e R s m args below meth c H locs cells slots Q (F0 m pc ls (.int y :: .int x :: rest)) := by
  unfold mj_bin at hg
  split at hg <;> first | (cases hg; done) | skip
  · cases hg; exact lv_iadd hexec hb hdg k
  · cases hg; exact lv_isub hexec hb hdg k
  · cases hg; exact lv_imul hexec hb hdg k
  · cases hg; exact lv_iand hexec hb hdg k
  · cases hg; exact lv_ior hexec hb hdg k
  · cases hg; exact lv_ixor hexec hb hdg k
  · cases hg; exact lv_ishl hexec hb hdg k
  · cases hg; exact lv_ishr hexec hb hdg k
  · cases hg; exact lv_iushr hexec hb hdg rfl k
theorem mj_binL_ok (hexec : p.tables.exec = Jvm.exec) (hb : c.code = cc) {i : Instr} {g : Int64 → Int64 → Int64} (hg : mj_binL i = some g) {x y : Int64} (hdg : decode cc pc = .ok (i, 1))
    (k : W p l e R s m args below meth c H locs cells slots Q (F0 m (pc + 1) ls (.long (g x y) :: rest))) : W p l e R s m args below meth c H locs cells slots Q (F0 m pc ls (.long y :: .long x :: rest)) := by
  unfold mj_binL at hg
  split at hg <;> first | (cases hg; done) | skip
  · cases hg; exact lv_ladd hexec hb hdg k
  · cases hg; exact lv_lsub hexec hb hdg k
  · cases hg; exact lv_lmul hexec hb hdg k
  · cases hg; exact lv_land hexec hb hdg k
  · cases hg; exact lv_lor hexec hb hdg k
  · cases hg; exact lv_lxor hexec hb hdg k
theorem mj_if_ok (hexec : p.tables.exec = Jvm.exec) (hb : c.code = cc) {cd : ClassFile.Cond} {x : Int32} {off : Int} {tgt : Nat} (hdg : decode cc pc = .ok (.ifCond cd off, 3)) (ht : mj_tgt pc off = some tgt)
    (k : W p l e R s m args below meth c H locs cells slots Q (F0 m (if mj_cmp cd x 0 then tgt else pc + 3) ls rest)) : W p l e R s m args below meth c H locs cells slots Q (F0 m pc ls (.int x :: rest)) := by
  have ht := mj_tgt_ok ht
  cases cd
  · exact lv_if_eq hexec hb hdg ht (fun h => by simpa [mj_cmp, h] using k) (fun h => by simpa [mj_cmp, h] using k)
  · exact lv_if_ne hexec hb hdg ht (fun h => by simpa [mj_cmp, h] using k) (fun h => by simpa [mj_cmp, h] using k)
  · exact lv_if_lt hexec hb hdg ht (fun h => by simpa [mj_cmp, h] using k) (fun h => by simpa [mj_cmp, h] using k)
  · exact lv_if_ge hexec hb hdg ht (fun h => by simpa [mj_cmp, h] using k) (fun h => by simpa [mj_cmp, h] using k)
  · exact lv_if_gt hexec hb hdg ht (fun h => by simpa [mj_cmp, h] using k) (fun h => by simpa [mj_cmp, h] using k)
  · exact lv_if_le hexec hb hdg ht (fun h => by simpa [mj_cmp, h] using k) (fun h => by simpa [mj_cmp, h] using k)
theorem mj_icmp_ok (hexec : p.tables.exec = Jvm.exec) (hb : c.code = cc) {cd : ClassFile.Cond} {x y : Int32} {off : Int} {tgt : Nat} (hdg : decode cc pc = .ok (.if_icmp cd off, 3)) (ht : mj_tgt pc off = some tgt)
    (k : W p l e R s m args below meth c H locs cells slots Q (F0 m (if mj_cmp cd x y then tgt else pc + 3) ls rest)) : W p l e R s m args below meth c H locs cells slots Q (F0 m pc ls (.int y :: .int x :: rest)) := by
  have ht := mj_tgt_ok ht
  cases cd
  · exact lv_icmp_eq hexec hb hdg ht (fun h => by simpa [mj_cmp, h] using k) (fun h => by simpa [mj_cmp, h] using k)
  · exact lv_icmp_ne hexec hb hdg ht (fun h => by simpa [mj_cmp, h] using k) (fun h => by simpa [mj_cmp, h] using k)
  · exact lv_icmp_lt hexec hb hdg ht (fun h => by simpa [mj_cmp, h] using k) (fun h => by simpa [mj_cmp, h] using k)
  · exact lv_icmp_ge hexec hb hdg ht (fun h => by simpa [mj_cmp, h] using k) (fun h => by simpa [mj_cmp, h] using k)
  · exact lv_icmp_gt hexec hb hdg ht (fun h => by simpa [mj_cmp, h] using k) (fun h => by simpa [mj_cmp, h] using k)
  · exact lv_icmp_le hexec hb hdg ht (fun h => by simpa [mj_cmp, h] using k) (fun h => by simpa [mj_cmp, h] using k)
end MJ1
