/-! ===== the small machine: words for its programs, and how they are checked ===== -/
/-- how long an instruction is (switches apart) -/
def mj_ln : Instr → Nat
  | .bipush _ => 2
  | .sipush _ => 3
  | .iload _ => 2
  | .lload _ => 2
  | .aload _ => 2
  | .istore _ => 2
  | .lstore _ => 2
  | .astore _ => 2
  | .iinc _ _ => 3
  | .goto _ => 3
  | .ifCond _ _ => 3
  | .if_icmp _ _ => 3
  | .if_acmp _ _ => 3
  | .ifnull _ => 3
  | .ifnonnull _ => 3
  | .getfield _ => 3
  | .putfield _ => 3
  | .getstatic _ => 3
  | .invokevirtual _ => 3
  | .invokespecial _ => 3
  | .invokestatic _ => 3
  | .new _ => 3
  | .newarray _ => 2
  | .anewarray _ => 3
  | .ldc _ => 2
  | .ldc_w _ => 3
  | .ldc2_w _ => 3
  | .checkcast _ => 3
  | _ => 1
def mj_sw : Instr → Bool
  | .tableswitch .. => true
  | .lookupswitch .. => true
  | _ => false
def mj_at : List (Nat × Instr) → Nat → Option Instr
  | [], _ => none
  | q :: r, pc => if q.1 = pc then some q.2 else mj_at r pc
/-- what came out: a value, or nothing; or the number of what was thrown -/
abbrev mj_Out : Type := Option Value ⊕ Nat
/-- a method: its name, its bytes, how many variables, what it gives, its instructions by their places, the number of its pool, whether it is a constructor, its handlers -/
abbrev mj_Mi : Type := MethodName × ByteArray × Nat × Option FieldType × List (Nat × Instr) × Nat × Bool × List (Nat × Nat × Nat × Nat)
/-- a pool: whose it is; fields; kinds; arrays; ints; longs; methods (how it is called, its number, how many parameters, the receiver's kind); texts; statics; kinds that are caught; fields of things outside -/
abbrev mj_Po : Type := String × (Nat → Option (Nat × Nat × Nat)) × (Nat → Option (Nat × Nat)) × (Nat → Option Nat) × (Nat → Option Int32) × (Nat → Option Int64) × (Nat → Option (Nat × Nat × Nat × Nat)) × (Nat → Option Nat) × (Nat → Option Value) × (Nat → Option Nat) × (Nat → Option Nat)
/-- the word of a method's code -/
def mj_cw (q : mj_Mi) : Cond := match q.2.2.2.2.2.2.2 with
  | [] => .code q.1 q.2.1 q.2.2.1 q.2.2.2.1
  | h :: t => .codeWith q.1 q.2.1 q.2.2.1 q.2.2.2.1 (h :: t)
/-- what the tables say of the kinds of objects: the words of their fields, the fields' types, their names apart -/
def mj_CL (cl : List vw_C) (Ts : List Cond) (cty : Nat → Nat → FieldType) : Prop := ∀ (ci : Nat) (q : vw_C), cl[ci]? = some q →
  (∀ w ∈ u_ws q.1 q.2.1 q.2.2, w ∈ Ts) ∧ (∀ k, k < q.2.2 → parseFieldDescriptor (q.2.1 k).2.2.1 = some (cty ci k)) ∧ (∀ a, a < q.2.2 → ∀ b, b < q.2.2 → a ≠ b → (q.2.1 a).2.1 ≠ (q.2.1 b).2.1)
/-- the fields that the code of 'own' names: the entry's number, the kind of object, the field, 0 where it may be written, 1 in constructors alone -/
def mj_PF (cl : List vw_C) (Ts : List Cond) (own : String) (pf : Nat → Option (Nat × Nat × Nat)) : Prop := ∀ idx ci k t : Nat, pf idx = some (ci, k, t) → ∃ q : vw_C, cl[ci]? = some q ∧ k < q.2.2 ∧
  (Cond.fieldLink own idx (q.2.1 k).1 (q.2.1 k).2.1 (q.2.1 k).2.2.1 ∈ Ts ∨ ∃ host : String, Cond.fieldLinkNest own idx (q.2.1 k).1 (q.2.1 k).2.1 (q.2.1 k).2.2.1 host ∈ Ts) ∧
  (t = 0 → (q.2.1 k).2.2.2 = false) ∧ (t = 1 → (q.2.1 k).2.2.2 = true ∧ (q.2.1 k).1 = own ∧ Cond.fieldLink own idx (q.2.1 k).1 (q.2.1 k).2.1 (q.2.1 k).2.2.1 ∈ Ts)
/-- the kinds that the code of 'own' makes: the entry's number, the kind, how many slots it has -/
def mj_PC (cl : List vw_C) (Ts : List Cond) (own : String) (pk : Nat → Option (Nat × Nat)) : Prop := ∀ idx ci z : Nat, pk idx = some (ci, z) → ∃ q : vw_C, cl[ci]? = some q ∧ Cond.classLink own idx q.1 ∈ Ts ∧ Cond.instantiable q.1 z ∈ Ts ∧ Cond.initialized q.1 ∈ Ts
/-- .. of which it makes arrays: the entry's number, the array's type -/
def mj_PA (TY : List FieldType) (Ts : List Cond) (own : String) (pa : Nat → Option Nat) : Prop := ∀ idx t : Nat, pa idx = some t → ∃ C : String, TY[t]? = some (.object C) ∧ Cond.classLink own idx C ∈ Ts ∧ Cond.arrayOver (.object C) ∈ Ts
def mj_PI (Ts : List Cond) (own : String) (pi : Nat → Option Int32) : Prop := ∀ (idx : Nat) (v : Int32), pi idx = some v → Cond.constant own idx v ∈ Ts
def mj_PL (Ts : List Cond) (own : String) (pl : Nat → Option Int64) : Prop := ∀ (idx : Nat) (v : Int64), pl idx = some v → Cond.constantLong own idx v ∈ Ts
/-- the arrays of numbers that can be made -/
def mj_AC (TY : List FieldType) (Ts : List Cond) : Prop := ∀ at' : ArrayType, newarray.typeOf at' ∈ TY → Cond.arrayClass (newarray.typeOf at') ∈ Ts
/-- the methods that the code of 'own' calls -/
def mj_PM (cl : List vw_C) (Ts : List Cond) (PR : Nat → Option mj_Mi) (own : String) (pm : Nat → Option (Nat × Nat × Nat × Nat)) : Prop := ∀ idx kd mi np ci : Nat, pm idx = some (kd, mi, np, ci) → kd ≤ 2 → ∃ (q : mj_Mi), PR mi = some q ∧
  (Cond.methodLink own idx q.1 ∈ Ts ∨ ∃ host : String, Cond.methodLinkNest own idx q.1 host ∈ Ts) ∧ mj_cw q ∈ Ts ∧ Cond.initialized q.1.cls ∈ Ts ∧ (q.1.cls ≠ "java/lang/invoke/MethodHandle" ∧ q.1.cls ≠ "java/lang/invoke/VarHandle") ∧
  (parseMethodDescriptor q.1.desc).map (fun d => d.parameters.length) = some np ∧ q.2.2.1 ≤ 45 ∧ (kd = 0 → Cond.static q.1 ∈ Ts) ∧ (kd = 1 → Cond.instanceMethod q.1 ∈ Ts ∧ Cond.selects q.1.cls q.1 q.1 ∈ Ts ∧ ∃ k : vw_C, cl[ci]? = some k ∧ k.1 = q.1.cls) ∧ (kd = 2 → Cond.instanceMethod q.1 ∈ Ts ∧ q.1.name = "<init>" ∧ q.2.2.2.1 = none ∧ q.2.2.2.2.2.2.2 = [])
/-- Object's constructor -/
def mj_PO (Ts : List Cond) (own : String) (pm : Nat → Option (Nat × Nat × Nat × Nat)) : Prop := ∀ idx mi np ci : Nat, pm idx = some (3, mi, np, ci) → Cond.methodLink own idx objectInit ∈ Ts ∧ Cond.instanceMethod objectInit ∈ Ts ∧ Cond.code objectInit ⟨#[0xb1]⟩ 1 none ∈ Ts
/-- the texts: k is one more than the place in the list of all -/
def mj_PS (STR : List (String × Nat × String)) (own : String) (ps : Nat → Option Nat) : Prop := ∀ idx k : Nat, ps idx = some k → ∃ (j : Nat) (tx : String), k = 1 + j ∧ STR[j]? = some (own, idx, tx)
/-- the statics that are read -/
def mj_PG (Ts : List Cond) (SG : List (String × String × String × Value)) (own : String) (pg : Nat → Option Value) : Prop := ∀ (idx : Nat) (v : Value), pg idx = some v → ∃ C n d : String, (C, n, d, v) ∈ SG ∧ (Cond.fieldLink own idx C n d ∈ Ts ∨ ∃ host : String, Cond.fieldLinkNest own idx C n d host ∈ Ts)
/-- the kinds that are caught -/
def mj_PX (cl : List vw_C) (Ts : List Cond) (own : String) (px : Nat → Option Nat) : Prop := ∀ idx ci : Nat, px idx = some ci → ∃ q : vw_C, cl[ci]? = some q ∧ Cond.classLink own idx q.1 ∈ Ts
/-- fields of things outside -/
def mj_PE (Ts : List Cond) (EXF : List (String × String × String)) (own : String) (pe : Nat → Option Nat) : Prop := ∀ idx k : Nat, pe idx = some k → ∃ o n d : String, EXF[k]? = some (o, n, d) ∧ Cond.fieldLink own idx o n d ∈ Ts
/-- the listed instructions are the bytes' -/
def mj_TB (bytes : ByteArray) (tb : List (Nat × Instr)) : Prop := ∀ (pc : Nat) (i : Instr), mj_at tb pc = some i → ∃ len : Nat, decode bytes pc = .ok (i, len) ∧ (mj_sw i = false → len = mj_ln i)
/-- a pool is right -/
def mj_Pl (cl : List vw_C) (Ts : List Cond) (TY : List FieldType) (STR : List (String × Nat × String)) (SG : List (String × String × String × Value)) (EXF : List (String × String × String)) (PR : Nat → Option mj_Mi) (po : mj_Po) : Prop := mj_PF cl Ts po.1 po.2.1 ∧ mj_PC cl Ts po.1 po.2.2.1 ∧ mj_PA TY Ts po.1 po.2.2.2.1 ∧ mj_PI Ts po.1 po.2.2.2.2.1 ∧ mj_PL Ts po.1 po.2.2.2.2.2.1 ∧ mj_PM cl Ts PR po.1 po.2.2.2.2.2.2.1 ∧ mj_PO Ts po.1 po.2.2.2.2.2.2.1 ∧ mj_PS STR po.1 po.2.2.2.2.2.2.2.1 ∧ mj_PG Ts SG po.1 po.2.2.2.2.2.2.2.2.1 ∧ mj_PX cl Ts po.1 po.2.2.2.2.2.2.2.2.2.1 ∧ mj_PE Ts EXF po.1 po.2.2.2.2.2.2.2.2.2.2
/-- a program is right -/
def mj_Ok (cl : List vw_C) (Ts : List Cond) (TY : List FieldType) (STR : List (String × Nat × String)) (SG : List (String × String × String × Value)) (EXF : List (String × String × String)) (cty : Nat → Nat → FieldType) (PO : Nat → mj_Po) (PR : Nat → Option mj_Mi) : Prop := mj_CL cl Ts cty ∧ mj_AC TY Ts ∧ ∀ (mi : Nat) (q : mj_Mi), PR mi = some q →
  plainName q.1.cls = true ∧ (PO q.2.2.2.2.2.1).1 = q.1.cls ∧ mj_TB q.2.1 q.2.2.2.2.1 ∧ (q.2.2.2.2.2.2.1 = true → q.1.name = "<init>") ∧ mj_Pl cl Ts TY STR SG EXF PR (PO q.2.2.2.2.2.1)
/-! ===== checking a program of the small machine by computation ===== -/
/-- each word of the first list, so many places behind the one before, in the second list -/
def mj_seq : List (Nat × Cond) → List Cond → Bool
  | [], _ => true
  | _ :: _, [] => false
  | (0, w) :: r, x :: t => decide (w = x) && mj_seq r t
  | (k + 1, w) :: r, _ :: t => mj_seq ((k, w) :: r) t
theorem mj_seq_mem : ∀ (tb : List Cond) (hs : List (Nat × Cond)), mj_seq hs tb = true → ∀ q ∈ hs, q.2 ∈ tb
  | _, [], _, q, hq => by cases hq
  | [], (k, w) :: r, h, q, hq => by cases k <;> simp [mj_seq] at h
  | x :: t, (0, w) :: r, h, q, hq => by
    simp only [mj_seq, Bool.and_eq_true, decide_eq_true_eq] at h
    rcases List.mem_cons.mp hq with rfl | hq
    · rw [h.1]; exact List.mem_cons_self
    · exact List.mem_cons_of_mem _ (mj_seq_mem t r h.2 q hq)
  | x :: t, (k + 1, w) :: r, h, q, hq => by
    simp only [mj_seq] at h
    rcases List.mem_cons.mp hq with rfl | hq
    · exact List.mem_cons_of_mem _ (mj_seq_mem t ((k, w) :: r) h (k, w) List.mem_cons_self)
    · exact List.mem_cons_of_mem _ (mj_seq_mem t ((k, w) :: r) h q (List.mem_cons_of_mem _ hq))
/-- the kinds of words that are kept -/
def mj_wk : Cond → Bool
  | .code .. => true
  | .codeWith .. => true
  | .initialized .. => true
  | .methodLink .. => true
  | .fieldLink .. => true
  | .classLink .. => true
  | .instanceMethod .. => true
  | .selects .. => true
  | .static .. => true
  | .lays .. => true
  | .laysFinal .. => true
  | .instantiable .. => true
  | .constant .. => true
  | .constantLong .. => true
  | .arrayClass .. => true
  | .arrayOver .. => true
  | .fieldLinkNest .. => true
  | .methodLinkNest .. => true
  | _ => false
def mj_Ts : List Cond := lw_tbl.filter mj_wk
theorem mj_in_Ts {w : Cond} (h : w ∈ lw_tbl) (hk : mj_wk w = true) : w ∈ mj_Ts := List.mem_filter.mpr ⟨h, hk⟩
def mj_fd {α : Type} : List (Nat × α) → Nat → Option α
  | [], _ => none
  | q :: r, i => if q.1 = i then some q.2 else mj_fd r i
theorem mj_fd_mem {α : Type} {i : Nat} {a : α} : ∀ {l : List (Nat × α)}, mj_fd l i = some a → (i, a) ∈ l
  | [], h => by simp [mj_fd] at h
  | q :: r, h => by
    unfold mj_fd at h
    split at h
    · rename_i e
      cases h
      subst e
      exact List.mem_cons_self
    · exact List.mem_cons_of_mem _ (mj_fd_mem h)
/-- fields: places, whether by a mate, entry, kind, field, how it may be written -/
abbrev mj_EF : Type := Nat × Bool × Nat × Nat × Nat × Nat
def mj_eF (e : mj_EF) : Nat × (Nat × Nat × Nat) := (e.2.2.1, e.2.2.2.1, e.2.2.2.2.1, e.2.2.2.2.2)
def mj_wF (cl : List vw_C) (own : String) (e : mj_EF) : Cond := match cl[e.2.2.2.1]? with
  | some q => if e.2.1 then .fieldLinkNest own e.2.2.1 (q.2.1 e.2.2.2.2.1).1 (q.2.1 e.2.2.2.2.1).2.1 (q.2.1 e.2.2.2.2.1).2.2.1 "SuiteKeeper" else .fieldLink own e.2.2.1 (q.2.1 e.2.2.2.2.1).1 (q.2.1 e.2.2.2.2.1).2.1 (q.2.1 e.2.2.2.2.1).2.2.1
  | none => .tt
def mj_kF (cl : List vw_C) (own : String) (e : mj_EF) : Bool := match cl[e.2.2.2.1]? with
  | some q => decide (e.2.2.2.2.1 < q.2.2) && (!decide (e.2.2.2.2.2 = 0) || !(q.2.1 e.2.2.2.2.1).2.2.2) && (!decide (e.2.2.2.2.2 = 1) || ((q.2.1 e.2.2.2.2.1).2.2.2 && decide ((q.2.1 e.2.2.2.2.1).1 = own) && !e.2.1))
  | none => false
theorem mj_PF_of {cl : List vw_C} {own : String} {E : List mj_EF} (h1 : mj_seq (E.map fun e => (e.1, mj_wF cl own e)) lw_tbl = true) (h2 : E.all (mj_kF cl own) = true) : mj_PF cl mj_Ts own (mj_fd (E.map mj_eF)) := by
  intro idx ci k t hp
  obtain ⟨e, he, hq⟩ := List.mem_map.mp (mj_fd_mem hp)
  obtain ⟨sk, ne, i0, c0, k0, t0⟩ := e
  simp only [mj_eF, Prod.mk.injEq] at hq
  obtain ⟨rfl, rfl, rfl, rfl⟩ := hq
  have h3 := mj_seq_mem _ _ h1 _ (List.mem_map.mpr ⟨_, he, rfl⟩)
  have h4 := List.all_eq_true.mp h2 _ he
  simp only [mj_wF, mj_kF] at h3 h4
  cases hc : cl[c0]? with
  | none => simp [hc] at h4
  | some q =>
    rw [hc] at h3 h4
    simp only [Bool.and_eq_true, Bool.or_eq_true, Bool.not_eq_true', decide_eq_true_eq, decide_eq_false_iff_not] at h4
    obtain ⟨⟨a1, a2⟩, a3⟩ := h4
    refine ⟨q, rfl, a1, ?_, fun e0 => (a2.resolve_left (fun h => h e0)), fun e1 => ?_⟩
    · cases ne with
      | true => exact Or.inr ⟨_, mj_in_Ts (by simpa using h3) rfl⟩
      | false => exact Or.inl (mj_in_Ts (by simpa using h3) rfl)
    · obtain ⟨⟨b1, b2⟩, b3⟩ := a3.resolve_left (fun h => h e1)
      subst b3
      exact ⟨b1, b2, mj_in_Ts (by simpa using h3) rfl⟩
/-- kinds that are made: places of the link; entry, kind, slots -/
abbrev mj_EK : Type := Nat × Nat × Nat × Nat
def mj_eK (e : mj_EK) : Nat × (Nat × Nat) := (e.2.1, e.2.2.1, e.2.2.2)
def mj_nm (cl : List vw_C) (ci : Nat) : String := match cl[ci]? with
  | some q => q.1
  | none => ""
/-- the kinds that can be made at all: places of 'instantiable'; kind, slots -/
theorem mj_PC_of {cl : List vw_C} {own : String} {E : List mj_EK} {M : List (Nat × Nat)} (hM : ∀ q ∈ M, ∃ k : vw_C, cl[q.1]? = some k ∧ Cond.instantiable k.1 q.2 ∈ mj_Ts ∧ Cond.initialized k.1 ∈ mj_Ts) (h1 : mj_seq (E.map fun e => (e.1, Cond.classLink own e.2.1 (mj_nm cl e.2.2.1))) lw_tbl = true) (h2 : E.all (fun e => M.contains (e.2.2.1, e.2.2.2)) = true) : mj_PC cl mj_Ts own (mj_fd (E.map mj_eK)) := by
  intro idx ci z hp
  obtain ⟨e, he, hq⟩ := List.mem_map.mp (mj_fd_mem hp)
  obtain ⟨sk, i0, c0, z0⟩ := e
  simp only [mj_eK, Prod.mk.injEq] at hq
  obtain ⟨rfl, rfl, rfl⟩ := hq
  have h3 := mj_seq_mem _ _ h1 _ (List.mem_map.mpr ⟨_, he, rfl⟩)
  have h4 := List.all_eq_true.mp h2 _ he
  obtain ⟨k, hk, w1, w2⟩ := hM _ (List.contains_iff_mem.mp h4)
  refine ⟨k, hk, mj_in_Ts ?_ rfl, w1, w2⟩
  have e9 : mj_nm cl c0 = k.1 := by
    have hk' : cl[c0]? = some k := hk
    simp [mj_nm, hk']
  rw [← e9]
  exact h3
/-- arrays of objects -/
theorem mj_PA_of {TY : List FieldType} {own : String} {E : List (Nat × Nat × Nat × String)} (hA : ∀ e ∈ E, Cond.arrayOver (.object e.2.2.2) ∈ mj_Ts) (h1 : mj_seq (E.map fun e => (e.1, Cond.classLink own e.2.1 e.2.2.2)) lw_tbl = true) (h2 : E.all (fun e => decide (TY[e.2.2.1]? = some (.object e.2.2.2))) = true) : mj_PA TY mj_Ts own (mj_fd (E.map fun e => (e.2.1, e.2.2.1))) := by
  intro idx t hp
  obtain ⟨e, he, hq⟩ := List.mem_map.mp (mj_fd_mem hp)
  simp only [Prod.mk.injEq] at hq
  obtain ⟨rfl, rfl⟩ := hq
  have h3 := mj_seq_mem _ _ h1 _ (List.mem_map.mpr ⟨_, he, rfl⟩)
  have h4 := List.all_eq_true.mp h2 _ he
  exact ⟨_, of_decide_eq_true h4, mj_in_Ts h3 rfl, hA e he⟩
theorem mj_PI_of {own : String} {E : List (Nat × Nat × Int32)} (h1 : mj_seq (E.map fun e => (e.1, Cond.constant own e.2.1 e.2.2)) lw_tbl = true) : mj_PI mj_Ts own (mj_fd (E.map fun e => (e.2.1, e.2.2))) := by
  intro idx v hp
  obtain ⟨e, he, hq⟩ := List.mem_map.mp (mj_fd_mem hp)
  simp only [Prod.mk.injEq] at hq
  obtain ⟨rfl, rfl⟩ := hq
  exact mj_in_Ts (mj_seq_mem _ _ h1 _ (List.mem_map.mpr ⟨_, he, rfl⟩)) rfl
theorem mj_PL_of {own : String} {E : List (Nat × Nat × Int64)} (h1 : mj_seq (E.map fun e => (e.1, Cond.constantLong own e.2.1 e.2.2)) lw_tbl = true) : mj_PL mj_Ts own (mj_fd (E.map fun e => (e.2.1, e.2.2))) := by
  intro idx v hp
  obtain ⟨e, he, hq⟩ := List.mem_map.mp (mj_fd_mem hp)
  simp only [Prod.mk.injEq] at hq
  obtain ⟨rfl, rfl⟩ := hq
  exact mj_in_Ts (mj_seq_mem _ _ h1 _ (List.mem_map.mpr ⟨_, he, rfl⟩)) rfl
/-- what a method must have to be called: how it is called, the receiver's kind -/
def mj_MF (cl : List vw_C) (q : mj_Mi) (kd ci : Nat) : Prop := mj_cw q ∈ mj_Ts ∧ Cond.initialized q.1.cls ∈ mj_Ts ∧ (q.1.cls ≠ "java/lang/invoke/MethodHandle" ∧ q.1.cls ≠ "java/lang/invoke/VarHandle") ∧ q.2.2.1 ≤ 45 ∧
  (kd = 0 → Cond.static q.1 ∈ mj_Ts) ∧ (kd = 1 → Cond.instanceMethod q.1 ∈ mj_Ts ∧ Cond.selects q.1.cls q.1 q.1 ∈ mj_Ts ∧ ∃ k : vw_C, cl[ci]? = some k ∧ k.1 = q.1.cls) ∧ (kd = 2 → Cond.instanceMethod q.1 ∈ mj_Ts ∧ q.1.name = "<init>" ∧ q.2.2.2.1 = none ∧ q.2.2.2.2.2.2.2 = [])
/-- calls: places, whether by a mate, entry, how, method, parameters, kind -/
abbrev mj_EM : Type := Nat × Bool × Nat × Nat × Nat × Nat × Nat
def mj_eM (e : mj_EM) : Nat × (Nat × Nat × Nat × Nat) := (e.2.2.1, e.2.2.2.1, e.2.2.2.2.1, e.2.2.2.2.2.1, e.2.2.2.2.2.2)
def mj_wM (PR : Nat → Option mj_Mi) (own : String) (e : mj_EM) : Cond := match PR e.2.2.2.2.1 with
  | some q => if e.2.1 then .methodLinkNest own e.2.2.1 q.1 "SuiteKeeper" else .methodLink own e.2.2.1 q.1
  | none => .tt
def mj_kM (PR : Nat → Option mj_Mi) (KD : List (Nat × Nat × Nat)) (e : mj_EM) : Bool := match PR e.2.2.2.2.1 with
  | some q => decide ((parseMethodDescriptor q.1.desc).map (fun d => d.parameters.length) = some e.2.2.2.2.2.1) && KD.contains (e.2.2.2.2.1, e.2.2.2.1, e.2.2.2.2.2.2) && decide (e.2.2.2.1 ≤ 2)
  | none => false
theorem mj_PM_of {cl : List vw_C} {own : String} {PR : Nat → Option mj_Mi} {KD : List (Nat × Nat × Nat)} {E : List mj_EM} {ob : List (Nat × (Nat × Nat × Nat × Nat))} (hob : ∀ q ∈ ob, q.2.1 = 3) (hKD : ∀ k ∈ KD, ∀ q, PR k.1 = some q → mj_MF cl q k.2.1 k.2.2) (h1 : mj_seq (E.map fun e => (e.1, mj_wM PR own e)) lw_tbl = true) (h2 : E.all (mj_kM PR KD) = true) : mj_PM cl mj_Ts PR own (mj_fd (ob ++ E.map mj_eM)) := by
  intro idx kd mi np ci hp hk2
  rcases List.mem_append.mp (mj_fd_mem hp) with hp | hp
  · have := hob _ hp
    simp only at this
    omega
  obtain ⟨e, he, hq⟩ := List.mem_map.mp hp
  obtain ⟨sk, ne, i0, k0, m0, n0, c0⟩ := e
  simp only [mj_eM, Prod.mk.injEq] at hq
  obtain ⟨rfl, rfl, rfl, rfl, rfl⟩ := hq
  have h3 := mj_seq_mem _ _ h1 _ (List.mem_map.mpr ⟨_, he, rfl⟩)
  have h4 := List.all_eq_true.mp h2 _ he
  simp only [mj_wM, mj_kM] at h3 h4
  cases hc : PR m0 with
  | none => simp [hc] at h4
  | some q =>
    rw [hc] at h3 h4
    simp only [Bool.and_eq_true, decide_eq_true_eq] at h4
    obtain ⟨⟨a1, a2⟩, a3⟩ := h4
    obtain ⟨w1, w2, w3, w4, w5, w6, w7⟩ := hKD _ (List.contains_iff_mem.mp a2) q hc
    refine ⟨q, rfl, ?_, w1, w2, w3, a1, w4, w5, w6, w7⟩
    cases ne with
    | true => exact Or.inr ⟨_, mj_in_Ts (by simpa using h3) rfl⟩
    | false => exact Or.inl (mj_in_Ts (by simpa using h3) rfl)
theorem mj_PO_of {own : String} {ob : List (Nat × (Nat × Nat × Nat × Nat))} {E : List mj_EM} (hE : E.all (fun e => decide (e.2.2.2.1 ≤ 2)) = true) (hob : ∀ q ∈ ob, Cond.methodLink own q.1 objectInit ∈ mj_Ts) (h2 : Cond.instanceMethod objectInit ∈ mj_Ts) (h3 : Cond.code objectInit ⟨#[0xb1]⟩ 1 none ∈ mj_Ts) : mj_PO mj_Ts own (mj_fd (ob ++ E.map mj_eM)) := by
  intro idx mi np ci hp
  rcases List.mem_append.mp (mj_fd_mem hp) with hp | hp
  · exact ⟨hob _ hp, h2, h3⟩
  · obtain ⟨e, he, hq⟩ := List.mem_map.mp hp
    have h4 := of_decide_eq_true (List.all_eq_true.mp hE _ he)
    simp only [mj_eM, Prod.mk.injEq] at hq
    rw [hq.2.1] at h4
    omega
/-- the bytes -/
def mj_dk (bytes : ByteArray) (q : Nat × Instr) : Bool := match decode bytes q.1 with
  | .ok (j, len) => decide (j = q.2) && (mj_sw j || decide (len = mj_ln j))
  | _ => false
theorem mj_at_mem {pc : Nat} {i : Instr} : ∀ {tb : List (Nat × Instr)}, mj_at tb pc = some i → (pc, i) ∈ tb
  | [], h => by simp [mj_at] at h
  | q :: r, h => by
    unfold mj_at at h
    split at h
    · rename_i e
      cases h
      subst e
      exact List.mem_cons_self
    · exact List.mem_cons_of_mem _ (mj_at_mem h)
theorem mj_TB_of {bytes : ByteArray} {tb : List (Nat × Instr)} (h : tb.all (mj_dk bytes) = true) : mj_TB bytes tb := by
  intro pc i hi
  have h1 := List.all_eq_true.mp h _ (mj_at_mem hi)
  unfold mj_dk at h1
  split at h1
  · rename_i j len hd
    simp only [Bool.and_eq_true, decide_eq_true_eq, Bool.or_eq_true] at h1
    obtain ⟨rfl, h2⟩ := h1
    exact ⟨len, hd, fun hs => h2.resolve_left (by rw [hs]; decide)⟩
  · cases h1
/-- names apart -/
def mj_nd : List String → Bool
  | [] => true
  | a :: r => r.all (fun b => decide (a ≠ b)) && mj_nd r
theorem mj_nd_ne : ∀ {L : List String}, mj_nd L = true → ∀ (i j : Nat) (a b : String), L[i]? = some a → L[j]? = some b → i ≠ j → a ≠ b
  | [], _, i, j, a, b, h1, _, _ => by simp at h1
  | c :: r, h, i, j, a, b, h1, h2, hij => by
    simp only [mj_nd, Bool.and_eq_true] at h
    cases i with
    | zero =>
      cases j with
      | zero => exact absurd rfl hij
      | succ j =>
        simp only [List.getElem?_cons_zero, Option.some.injEq] at h1
        simp only [List.getElem?_cons_succ] at h2
        subst h1
        exact of_decide_eq_true (List.all_eq_true.mp h.1 _ (List.mem_of_getElem? h2))
    | succ i =>
      cases j with
      | zero =>
        simp only [List.getElem?_cons_zero, Option.some.injEq] at h2
        simp only [List.getElem?_cons_succ] at h1
        subst h2
        exact (of_decide_eq_true (List.all_eq_true.mp h.1 _ (List.mem_of_getElem? h1))).symm
      | succ j =>
        simp only [List.getElem?_cons_succ] at h1 h2
        exact mj_nd_ne h.2 i j a b h1 h2 (by omega)
/-- a kind's fields, as a list -/
def mj_T (F : List (String × String × String × Bool)) : u_T := fun k => F.getD k ("", "", "", false)
theorem mj_T_nd {F : List (String × String × String × Bool)} (h : mj_nd (F.map (·.2.1)) = true) : ∀ a, a < F.length → ∀ b, b < F.length → a ≠ b → (mj_T F a).2.1 ≠ (mj_T F b).2.1 := by
  intro a ha b hb hab
  refine mj_nd_ne h a b _ _ ?_ ?_ hab
  · simp [mj_T, ha]
  · simp [mj_T, hb]
def mj_tyL (F : List (String × String × String × Bool)) (ty : Nat → FieldType) : Bool := (List.range F.length).all (fun k => decide (parseFieldDescriptor (mj_T F k).2.2.1 = some (ty k)))
theorem mj_tyL_ok {F : List (String × String × String × Bool)} {ty : Nat → FieldType} (h : mj_tyL F ty = true) : ∀ k, k < F.length → parseFieldDescriptor (mj_T F k).2.2.1 = some (ty k) := fun k hk => of_decide_eq_true (List.all_eq_true.mp h k (List.mem_range.mpr hk))
theorem mj_u_ws {C : String} {T : u_T} {N : Nat} {sk : List Nat} (hl : sk.length = N) (h : mj_seq (sk.zip (u_ws C T N)) lw_tbl = true) : ∀ w ∈ u_ws C T N, w ∈ mj_Ts := by
  intro w hw
  have hw2 := hw
  obtain ⟨k, hk, rfl⟩ := List.mem_map.mp hw2
  refine mj_in_Ts ?_ (by unfold u_lay; split <;> rfl)
  obtain ⟨j, hj⟩ := List.mem_iff_getElem?.mp hw
  have hlen : (u_ws C T N).length = N := by simp [u_ws]
  have hjl : j < N := by rw [← hlen]; exact (List.getElem?_eq_some_iff.mp hj).1
  have h9 : (sk.zip (u_ws C T N))[j]? = some (sk[j]'(by omega), u_lay C T k) := by
    rw [List.getElem?_zip_eq_some]
    exact ⟨by simp, hj⟩
  exact mj_seq_mem _ _ h _ (List.mem_of_getElem? h9)
theorem mj_PS_of {STR : List (String × Nat × String)} {own : String} {E : List (Nat × Nat)} (h : E.all (fun e => decide (1 ≤ e.2) && match STR[e.2 - 1]? with | some q => decide (q.1 = own) && decide (q.2.1 = e.1) | none => false) = true) : mj_PS STR own (mj_fd E) := by
  intro idx k hp
  have h1 := List.all_eq_true.mp h _ (mj_fd_mem hp)
  simp only [Bool.and_eq_true, decide_eq_true_eq] at h1
  obtain ⟨h2, h3⟩ := h1
  split at h3
  · rename_i q hq
    simp only [Bool.and_eq_true, decide_eq_true_eq] at h3
    obtain ⟨o, i, tx⟩ := q
    obtain ⟨rfl, rfl⟩ := h3
    exact ⟨k - 1, tx, by omega, hq⟩
  · cases h3
theorem mj_PG_of {SG : List (String × String × String × Value)} {own : String} {E : List (Nat × Bool × Nat × String × String × String)} {vs : Nat → Value} (hv : ∀ e ∈ E, (e.2.2.2.1, e.2.2.2.2.1, e.2.2.2.2.2, vs e.2.2.1) ∈ SG) (h1 : mj_seq (E.map fun e => (e.1, if e.2.1 then Cond.fieldLinkNest own e.2.2.1 e.2.2.2.1 e.2.2.2.2.1 e.2.2.2.2.2 "SuiteKeeper" else Cond.fieldLink own e.2.2.1 e.2.2.2.1 e.2.2.2.2.1 e.2.2.2.2.2)) lw_tbl = true) : mj_PG mj_Ts SG own (mj_fd (E.map fun e => (e.2.2.1, vs e.2.2.1))) := by
  intro idx v hp
  obtain ⟨e, he, hq⟩ := List.mem_map.mp (mj_fd_mem hp)
  simp only [Prod.mk.injEq] at hq
  obtain ⟨rfl, rfl⟩ := hq
  have h3 := mj_seq_mem _ _ h1 _ (List.mem_map.mpr ⟨_, he, rfl⟩)
  refine ⟨_, _, _, hv e he, ?_⟩
  obtain ⟨sk, ne, i0, C, n, d⟩ := e
  cases ne with
  | true => exact Or.inr ⟨_, mj_in_Ts (by simpa using h3) rfl⟩
  | false => exact Or.inl (mj_in_Ts (by simpa using h3) rfl)
theorem mj_PX_of {cl : List vw_C} {own : String} {E : List (Nat × Nat × Nat)} (h1 : mj_seq (E.map fun e => (e.1, Cond.classLink own e.2.1 (mj_nm cl e.2.2))) lw_tbl = true) (h2 : E.all (fun e => (cl[e.2.2]?).isSome) = true) : mj_PX cl mj_Ts own (mj_fd (E.map fun e => (e.2.1, e.2.2))) := by
  intro idx ci hp
  obtain ⟨e, he, hq⟩ := List.mem_map.mp (mj_fd_mem hp)
  simp only [Prod.mk.injEq] at hq
  obtain ⟨rfl, rfl⟩ := hq
  have h3 := mj_seq_mem _ _ h1 _ (List.mem_map.mpr ⟨_, he, rfl⟩)
  obtain ⟨q, hq⟩ := Option.isSome_iff_exists.mp (List.all_eq_true.mp h2 _ he)
  refine ⟨q, hq, mj_in_Ts ?_ rfl⟩
  have e9 : mj_nm cl e.2.2 = q.1 := by simp [mj_nm, hq]
  rw [← e9]
  exact h3
theorem mj_PE_of {EXF : List (String × String × String)} {own : String} {E : List (Nat × Nat × Nat × String × String × String)} (h1 : mj_seq (E.map fun e => (e.1, Cond.fieldLink own e.2.1 e.2.2.2.1 e.2.2.2.2.1 e.2.2.2.2.2)) lw_tbl = true) (h2 : E.all (fun e => decide (EXF[e.2.2.1]? = some (e.2.2.2.1, e.2.2.2.2.1, e.2.2.2.2.2))) = true) : mj_PE mj_Ts EXF own (mj_fd (E.map fun e => (e.2.1, e.2.2.1))) := by
  intro idx k hp
  obtain ⟨e, he, hq⟩ := List.mem_map.mp (mj_fd_mem hp)
  simp only [Prod.mk.injEq] at hq
  obtain ⟨rfl, rfl⟩ := hq
  exact ⟨_, _, _, of_decide_eq_true (List.all_eq_true.mp h2 _ he), mj_in_Ts (mj_seq_mem _ _ h1 _ (List.mem_map.mpr ⟨_, he, rfl⟩)) rfl⟩
