/-! ===== the small machine's memory: cells by numbers from 32 on, laid one behind the other from 'base' on; numbers below 32 are things outside ===== -/
def mj_r (ext : Nat → Nat) (base : Nat) : Nat → Nat := fun k => if k < 32 then ext k else base + (k - 32)
def mj_c (ρ : Nat → Nat) (tc : Nat → ClassId) : va_E → va_E
  | .inl (t, n, .inr (.inr (.inr (.inr g)))) => .inl (tc t, n, .inr (.inr (.inr (.inr (fun j => (g j).map ρ)))))
  | .inl (t, n, .inr (.inr (.inr (.inl g)))) => .inl (tc t, n, .inr (.inr (.inr (.inl g))))
  | .inl (t, n, .inr (.inr (.inl g))) => .inl (tc t, n, .inr (.inr (.inl g)))
  | .inl (t, n, .inr (.inl g)) => .inl (tc t, n, .inr (.inl g))
  | .inl (t, n, .inl g) => .inl (tc t, n, .inl g)
  | .inr (ci, fs) => .inr (ci, fs.map (mj_v ρ))
def mj_M (D : va_G) (cl : List vw_C) (tc : Nat → ClassId) (ext : Nat → Nat) (fx : Nat → va_E) (base n : Nat) (f : Nat → va_E) (H : Heap) : Prop :=
  32 ≤ n ∧ H.size = base + (n - 32) ∧ (∀ k : Nat, 32 ≤ k → k < n → va_at D cl (mj_r ext base k, mj_c (mj_r ext base) tc (f k)) H) ∧ ∀ k : Nat, k < 32 → f k = fx k
def mj_tys (TY : List FieldType) (tc : Nat → ClassId) : List (ClassId × FieldType) := TY.zipIdx.map (fun q => (tc q.2, q.1))
theorem mj_tys_at {TY : List FieldType} {tc : Nat → ClassId} {t : Nat} {ty : FieldType} (h : TY[t]? = some ty) : (mj_tys TY tc)[t]? = some (tc t, ty) := by
  simp [mj_tys, List.getElem?_zipIdx, h]
theorem mj_r_in {ext : Nat → Nat} {base k : Nat} (h : 32 ≤ k) : mj_r ext base k = base + (k - 32) := by
  unfold mj_r
  rw [if_neg (by omega)]
theorem mj_r_inj {ext : Nat → Nat} {base a b : Nat} (ha : 32 ≤ a) (hb : 32 ≤ b) (h : mj_r ext base a = mj_r ext base b) : a = b := by
  rw [mj_r_in ha, mj_r_in hb] at h
  omega
theorem mj_M.one {D : va_G} {cl : List vw_C} {tc : Nat → ClassId} {ext : Nat → Nat} {fx : Nat → va_E} {base n : Nat} {f : Nat → va_E} {H : Heap} (h : mj_M D cl tc ext fx base n f H) {k : Nat} {x : va_E} (h1 : 32 ≤ k) (h2 : k < n) (e : f k = x) :
    va_P D cl [(mj_r ext base k, mj_c (mj_r ext base) tc x)] H := by
  intro j q hq
  have hj : j < 1 := (List.getElem?_eq_some_iff.mp hq).1
  rw [show j = 0 by omega] at hq
  cases hq
  rw [← e]
  exact h.2.2.1 k h1 h2
/-- one cell is written -/
theorem mj_M.put {D : va_G} {cl : List vw_C} {tc : Nat → ClassId} {ext : Nat → Nat} {fx : Nat → va_E} {base n : Nat} {f : Nat → va_E} {H H1 : Heap} (h : mj_M D cl tc ext fx base n f H) {k : Nat} {x : va_E} (h1 : 32 ≤ k) (h2 : k < n)
    (hz : H1.size = H.size) (hx : va_at D cl (mj_r ext base k, mj_c (mj_r ext base) tc x) H1) (ho : ∀ q : Nat, q ≠ mj_r ext base k → H1[q]? = H[q]?) : mj_M D cl tc ext fx base n (va_up f k x) H1 := by
  refine ⟨h.1, by rw [hz]; exact h.2.1, fun j hj1 hj2 => ?_, fun j hj => ?_⟩
  case refine_2 =>
    have e9 : va_up f k x j = f j := by
      have h9 : ¬ j = k := by omega
      simp [va_up, h9]
    rw [e9]
    exact h.2.2.2 j hj
  by_cases hjk : j = k
  · subst hjk
    simpa [va_up] using hx
  · have e1 : va_up f k x j = f j := by simp [va_up, hjk]
    rw [e1]
    refine (h.2.2.1 j hj1 hj2).kept (ho _ ?_)
    intro hh
    exact hjk (mj_r_inj hj1 h1 hh)
/-- one cell is made -/
theorem mj_M.push {D : va_G} {cl : List vw_C} {tc : Nat → ClassId} {ext : Nat → Nat} {fx : Nat → va_E} {base n : Nat} {f : Nat → va_E} {H H1 : Heap} (h : mj_M D cl tc ext fx base n f H) {x : va_E}
    (hz : H1.size = H.size + 1) (hx : va_at D cl (H.size, mj_c (mj_r ext base) tc x) H1) (ho : ∀ q : Nat, q < H.size → H1[q]? = H[q]?) : mj_M D cl tc ext fx base (n + 1) (va_up f n x) H1 := by
  obtain ⟨a1, a2, a3, a4⟩ := h
  refine ⟨by omega, by rw [hz, a2]; omega, fun j hj1 hj2 => ?_, fun j hj => ?_⟩
  case refine_2 =>
    have e9 : va_up f n x j = f j := by
      have h9 : ¬ j = n := by omega
      simp [va_up, h9]
    rw [e9]
    exact a4 j hj
  by_cases hjk : j = n
  · subst hjk
    have e1 : va_up f j x j = x := by simp [va_up]
    rw [e1, mj_r_in hj1, ← a2]
    exact hx
  · have e1 : va_up f n x j = f j := by simp [va_up, hjk]
    rw [e1]
    refine (a3 j hj1 (by omega)).kept (ho _ ?_)
    rw [mj_r_in hj1, a2]
    show base + (j - 32) < base + (n - 32)
    omega
def mj_B (base : Nat) : Nat → Prop := fun q => base ≤ q
theorem mj_r_B {ext : Nat → Nat} {base k : Nat} (h : 32 ≤ k) : mj_B base (mj_r ext base k) := by
  rw [mj_r_in h]
  exact Nat.le_add_right _ _
/-- an index that is within -/
theorem mj_in {i : Int32} {n : Nat} (h : ¬ (i < 0 ∨ n ≤ i.toNatClampNeg)) : vp_in i n := h
/-- reads of arrays -/
def mj_g2 (TY : List FieldType) (i : Instr) (pc n : Nat) (f : Nat → va_E) (st : List Value) : Option (Nat × List Value) :=
  match i with
  | .iaload => match st with
    | .int j :: .ref a :: r => if 32 ≤ a ∧ a < n then match f a with
      | .inl (t, z, .inl g) => if TY[t]? = some .int then (if j < 0 ∨ z ≤ j.toNatClampNeg then none else some (pc + 1, .int (g j.toNatClampNeg) :: r)) else none
      | _ => none else none
    | _ => none
  | .baload => match st with
    | .int j :: .ref a :: r => if 32 ≤ a ∧ a < n then match f a with
      | .inl (t, z, .inl g) => if TY[t]? = some .byte ∨ TY[t]? = some .boolean then (if j < 0 ∨ z ≤ j.toNatClampNeg then none else some (pc + 1, .int (g j.toNatClampNeg) :: r)) else none
      | _ => none else none
    | _ => none
  | .laload => match st with
    | .int j :: .ref a :: r => if 32 ≤ a ∧ a < n then match f a with
      | .inl (t, z, .inr (.inl g)) => if TY[t]? = some .long then (if j < 0 ∨ z ≤ j.toNatClampNeg then none else some (pc + 1, .long (g j.toNatClampNeg) :: r)) else none
      | _ => none else none
    | _ => none
  | .aaload => match st with
    | .int j :: .ref a :: r => if 32 ≤ a ∧ a < n then match f a with
      | .inl (t, z, .inr (.inr (.inr (.inr g)))) => match TY[t]? with
        | some (.object _) => if j < 0 ∨ z ≤ j.toNatClampNeg then none else some (pc + 1, va_rf (g j.toNatClampNeg) :: r)
        | _ => none
      | _ => none else none
    | _ => none
  | .arraylength => match st with
    | .ref a :: r => if 32 ≤ a ∧ a < n then match f a with
      | .inl (t, x) => if (TY[t]?).isSome then some (pc + 1, .int (Int32.ofNat x.1) :: r) else none
      | _ => none else none
    | _ => none
  | _ => none
theorem mj_v_rf (ρ : Nat → Nat) (o : Option Nat) : va_rf (o.map ρ) = mj_v ρ (va_rf o) := by cases o <;> rfl
theorem mj_c_inl (ρ : Nat → Nat) (tc : Nat → ClassId) (t : Nat) (x : vp_A) : ∃ y : vp_A, mj_c ρ tc (.inl (t, x)) = .inl (tc t, y) ∧ y.1 = x.1 := by
  obtain ⟨n, g | g | g | g | g⟩ := x
  · exact ⟨(n, .inl g), rfl, rfl⟩
  · exact ⟨(n, .inr (.inl g)), rfl, rfl⟩
  · exact ⟨(n, .inr (.inr (.inl g))), rfl, rfl⟩
  · exact ⟨(n, .inr (.inr (.inr (.inl g)))), rfl, rfl⟩
  · exact ⟨(n, .inr (.inr (.inr (.inr (fun j => (g j).map ρ))))), rfl, rfl⟩
/-- two references -/
def mj_on : Value → Option (Option Nat)
  | .null => some none
  | .ref a => if 32 ≤ a then some (some a) else none
  | _ => none
theorem mj_on_ok {v : Value} {x : Option Nat} {ext : Nat → Nat} {base : Nat} (h : mj_on v = some x) : mj_v (mj_r ext base) v = va_rf (x.map (mj_r ext base)) ∧ ∀ a, x = some a → 32 ≤ a := by
  unfold mj_on at h
  split at h
  · cases h
    exact ⟨rfl, fun a ha => by cases ha⟩
  · simp only [Option.ite_none_right_eq_some, Option.some.injEq] at h
    obtain ⟨h1, rfl⟩ := h
    exact ⟨rfl, fun a ha => by cases ha; exact h1⟩
  · cases h
def mj_g9 (i : Instr) (pc : Nat) (st : List Value) : Option (Nat × List Value) :=
  match i with
  | .if_acmp cd off => match st with
    | vy :: vx :: r => match mj_on vx, mj_on vy with
      | some x, some y => (mj_tgt pc off).map fun t => (match cd with
        | .eq => if x = y then t else pc + 3
        | .ne => if x = y then pc + 3 else t, r)
      | _, _ => none
    | _ => none
  | _ => none
section MJ4
variable {p : Program} {l : Launch} {e : Env} {R : Room} {s : State} {m : MethodId} {args : Array Value} {below : List Frame} {meth : Method} {c : Code} {H : Heap} {locs : List Loc} {cells slots : Nat} {Q : State → Prop}
variable {cc : ByteArray} {pc pc' nL n base : Nat} {ls : Array Slot} {st st' : List Value} {i : Instr} {D : va_G} {cl : List vw_C} {tc : Nat → ClassId} {ext : Nat → Nat} {fx : Nat → va_E} {f : Nat → va_E} {TY : List FieldType}
theorem mj_g2_ok (hexec : p.tables.exec = Jvm.exec) (hb : c.code = cc) (hdg : decode cc pc = .ok (i, mj_ln i)) (hK : va_K D cl (mj_tys TY tc) s) (hM : mj_M D cl tc ext fx base n f H) (h : mj_g2 TY i pc n f st = some (pc', st'))
    (kk : W p l e R s m args below meth c H locs cells slots Q (F0 m pc' ls (mj_st (mj_r ext base) st'))) : W p l e R s m args below meth c H locs cells slots Q (F0 m pc ls (mj_st (mj_r ext base) st)) := by
  cases i <;> simp only [mj_g2, reduceCtorEq] at h
  case iaload =>
    split at h <;> simp only [Option.ite_none_right_eq_some, reduceCtorEq] at h
    obtain ⟨⟨h1, h2⟩, h⟩ := h
    split at h <;> simp only [Option.ite_none_right_eq_some, Option.ite_none_left_eq_some, Option.some.injEq, Prod.mk.injEq, reduceCtorEq] at h
    rename_i e1
    obtain ⟨h3, h4, rfl, rfl⟩ := h
    exact va_iald hexec hb hK (hM.one h1 h2 e1) 0 _ rfl (mj_tys_at h3) (mj_in h4) hdg kk
  case baload =>
    split at h <;> simp only [Option.ite_none_right_eq_some, reduceCtorEq] at h
    obtain ⟨⟨h1, h2⟩, h⟩ := h
    split at h <;> simp only [Option.ite_none_right_eq_some, Option.ite_none_left_eq_some, Option.some.injEq, Prod.mk.injEq, reduceCtorEq] at h
    rename_i e1
    obtain ⟨h3, h4, rfl, rfl⟩ := h
    rcases h3 with h3 | h3
    · exact va_bald hexec hb hK (hM.one h1 h2 e1) 0 _ rfl (mj_tys_at h3) (mj_in h4) hdg kk
    · exact va_zald hexec hb hK (hM.one h1 h2 e1) 0 _ rfl (mj_tys_at h3) (mj_in h4) hdg kk
  case laload =>
    split at h <;> simp only [Option.ite_none_right_eq_some, reduceCtorEq] at h
    obtain ⟨⟨h1, h2⟩, h⟩ := h
    split at h <;> simp only [Option.ite_none_right_eq_some, Option.ite_none_left_eq_some, Option.some.injEq, Prod.mk.injEq, reduceCtorEq] at h
    rename_i e1
    obtain ⟨h3, h4, rfl, rfl⟩ := h
    exact va_lald hexec hb hK (hM.one h1 h2 e1) 0 _ rfl (mj_tys_at h3) (mj_in h4) hdg kk
  case aaload =>
    split at h <;> simp only [Option.ite_none_right_eq_some, reduceCtorEq] at h
    obtain ⟨⟨h1, h2⟩, h⟩ := h
    split at h <;> (try simp only [reduceCtorEq] at h)
    rename_i e1
    split at h <;> simp only [Option.ite_none_left_eq_some, Option.some.injEq, Prod.mk.injEq, reduceCtorEq] at h
    rename_i h3
    obtain ⟨h4, rfl, rfl⟩ := h
    refine va_aldq hexec hb hK (hM.one h1 h2 e1) 0 _ rfl (mj_tys_at h3) (mj_in h4) hdg ?_
    rw [mj_v_rf]
    exact kk
  case arraylength =>
    split at h <;> simp only [Option.ite_none_right_eq_some, reduceCtorEq] at h
    obtain ⟨⟨h1, h2⟩, h⟩ := h
    split at h <;> simp only [Option.ite_none_right_eq_some, Option.some.injEq, Prod.mk.injEq, reduceCtorEq] at h
    rename_i t x e1
    obtain ⟨h3, rfl, rfl⟩ := h
    obtain ⟨ty, h3⟩ := Option.isSome_iff_exists.mp h3
    obtain ⟨y, e2, e3⟩ := mj_c_inl (mj_r ext base) tc t x
    have hP := hM.one h1 h2 e1
    rw [e2] at hP
    exact va_alen hexec hb hK hP 0 t rfl (mj_tys_at h3) (by rw [e3]) hdg kk
theorem mj_g9_ok (hexec : p.tables.exec = Jvm.exec) (hb : c.code = cc) (hdg : decode cc pc = .ok (i, mj_ln i)) (h : mj_g9 i pc st = some (pc', st'))
    (kk : W p l e R s m args below meth c H locs cells slots Q (F0 m pc' ls (mj_st (mj_r ext base) st'))) : W p l e R s m args below meth c H locs cells slots Q (F0 m pc ls (mj_st (mj_r ext base) st)) := by
  cases i <;> simp only [mj_g9, reduceCtorEq] at h
  case if_acmp cd off =>
    split at h <;> (try simp only [reduceCtorEq] at h)
    rename_i vy vx r
    split at h <;> (try simp only [reduceCtorEq] at h)
    rename_i x y hx hy
    obtain ⟨t, ht, h⟩ := Option.map_eq_some_iff.mp h
    cases h
    have ht := mj_tgt_ok ht
    have e1 : mj_v (mj_r ext base) vx = va_rf (x.map (mj_r ext base)) := (mj_on_ok (ext := ext) (base := base) hx).1
    have e2 : mj_v (mj_r ext base) vy = va_rf (y.map (mj_r ext base)) := (mj_on_ok (ext := ext) (base := base) hy).1
    have e3 : x.map (mj_r ext base) = y.map (mj_r ext base) ↔ x = y := by
      constructor
      · intro q
        cases x with
        | none => cases y with
          | none => rfl
          | some b => simp at q
        | some a => cases y with
          | none => simp at q
          | some b =>
            simp only [Option.map_some, Option.some.injEq] at q
            rw [mj_r_inj ((mj_on_ok (ext := ext) (base := base) hx).2 a rfl) ((mj_on_ok (ext := ext) (base := base) hy).2 b rfl) q]
      · intro q; rw [q]
    have e4 : mj_st (mj_r ext base) (vy :: vx :: st') = va_rf (y.map (mj_r ext base)) :: va_rf (x.map (mj_r ext base)) :: mj_st (mj_r ext base) st' := by rw [← e1, ← e2]; rfl
    rw [e4]
    cases cd
    · refine lv_acmp_eq hexec hb hdg ht (fun q => ?_) (fun q => ?_)
      · simpa [e3.mp q] using kk
      · simpa [show ¬ x = y from fun z => q (e3.mpr z)] using kk
    · refine lv_acmp_ne hexec hb hdg ht (fun q => ?_) (fun q => ?_)
      · simpa [show ¬ x = y from fun z => q (e3.mpr z)] using kk
      · simpa [e3.mp q] using kk
end MJ4
