/-! ===== the small machine: its programs, its memory's promises, one step that calls ===== -/
/-- what came out: a value, or nothing; or the number of what was thrown -/
abbrev mj_Out : Type := Option Value ⊕ Nat
/-- a method: its name, its bytes, how many variables, what it gives, its instructions by their places, the number of its pool, whether it is a constructor -/
abbrev mj_Mi : Type := MethodName × ByteArray × Nat × Option FieldType × List (Nat × Instr) × Nat × Bool
/-- a pool: whose it is; fields; kinds; arrays; ints; longs; methods (how it is called, its number, how many parameters, the receiver's kind) -/
abbrev mj_Po : Type := String × (Nat → Option (Nat × Nat × Nat)) × (Nat → Option (Nat × Nat)) × (Nat → Option Nat) × (Nat → Option Int32) × (Nat → Option Int64) × (Nat → Option (Nat × Nat × Nat × Nat))
abbrev mj_CF : Type := Nat → List Value → Nat → (Nat → va_E) → Nat → Nat → Option (mj_Out × Nat × (Nat → va_E) × Nat × Nat)
def mj_rm (d C S : Nat) : Room := { frames := d, cells := C, slots := S, locals := 80 * d }
def mj_wt (st : List Value) : Nat := (st.map fun v => v.category).sum
/-- what holds of the tables, and of what lies outside, at a state -/
def mj_G (D : va_G) (cl : List vw_C) (tc : Nat → ClassId) (TY : List FieldType) (Ts : List Cond) (XF : State → Prop) (U : State) : Prop := (∀ w ∈ Ts, ∀ A : Array Value, w.before A U = true) ∧ va_K D cl (mj_tys TY tc) U ∧ XF U
/-- it goes on holding -/
def mj_Wm (base : Nat) (Ts : List Cond) (XF : State → Prop) : Prop := (∀ w ∈ Ts, ∀ s U : State, s.WarmedH U.vm → (∀ A : Array Value, w.before A s = true) → ∀ A : Array Value, w.before A U = true) ∧
  ∀ s U : State, s.WarmedH U.vm → (∀ q : Nat, q < base → U.heap[q]? = s.heap[q]?) → XF s → XF U
theorem mj_G.warm {D : va_G} {cl : List vw_C} {tc : Nat → ClassId} {TY : List FieldType} {Ts : List Cond} {XF : State → Prop} {base : Nat} {s U : State} (hw : mj_Wm base Ts XF) (h : mj_G D cl tc TY Ts XF s) (hW : s.WarmedH U.vm) (hH : ∀ q : Nat, q < base → U.heap[q]? = s.heap[q]?) : mj_G D cl tc TY Ts XF U :=
  ⟨fun w hw' => hw.1 w hw' s U hW (h.1 w hw'), va_K.moved hW.alike h.2.1, hw.2 s U hW hH h.2.2⟩
def mj_Pre (D : va_G) (cl : List vw_C) (tc : Nat → ClassId) (TY : List FieldType) (Ts : List Cond) (XF : State → Prop) (ext : Nat → Nat) (base n : Nat) (f : Nat → va_E) (av : List Value) : Array Value → State → Prop := fun v U =>
  v = (mj_st (mj_r ext base) av).toArray ∧ mj_G D cl tc TY Ts XF U ∧ mj_M D cl tc ext base n f U.heap
def mj_Ou (ρ : Nat → Nat) : mj_Out → Outcome
  | .inl v => .returned (v.map (mj_v ρ))
  | .inr x => .threw (ρ x)
def mj_Post (D : va_G) (cl : List vw_C) (tc : Nat → ClassId) (ext : Nat → Nat) (base : Nat) (out : mj_Out) (n : Nat) (f : Nat → va_E) : State → Outcome → State → Prop := fun st o t =>
  o = mj_Ou (mj_r ext base) out ∧ mj_M D cl tc ext base n f t.heap ∧ ∀ q : Nat, q < base → t.heap[q]? = st.heap[q]?
/-- the contract of one run -/
def mj_Met (l : Launch) (D : va_G) (cl : List vw_C) (tc : Nat → ClassId) (TY : List FieldType) (Ts : List Cond) (XF : State → Prop) (ext : Nat → Nat) (base d C S : Nat) (mi : mj_Mi) (av : List Value) (n : Nat) (f : Nat → va_E) (out : mj_Out) (n' : Nat) (f' : Nat → va_E) (c' s' : Nat) : Prop :=
  MetFree l mi.1 (headSpec [Cond.code mi.1 mi.2.1 mi.2.2.1 mi.2.2.2.1] (mj_rm d C S)) (mj_Pre D cl tc TY Ts XF ext base n f av) (fun _ _ _ _ _ => True) (fun _ st o t => mj_QX (mj_Post D cl tc ext base out n' f') c' s' (mj_B base) st o t)
/-- the methods that the code of 'own' calls -/
def mj_PM (cl : List vw_C) (Ts : List Cond) (PR : Nat → Option mj_Mi) (own : String) (pm : Nat → Option (Nat × Nat × Nat × Nat)) : Prop := ∀ idx kd mi np ci : Nat, pm idx = some (kd, mi, np, ci) → kd ≤ 2 → ∃ (q : mj_Mi), PR mi = some q ∧
  (Cond.methodLink own idx q.1 ∈ Ts ∨ ∃ host : String, Cond.methodLinkNest own idx q.1 host ∈ Ts) ∧ Cond.code q.1 q.2.1 q.2.2.1 q.2.2.2.1 ∈ Ts ∧ Cond.initialized q.1.cls ∈ Ts ∧ (q.1.cls ≠ "java/lang/invoke/MethodHandle" ∧ q.1.cls ≠ "java/lang/invoke/VarHandle") ∧
  (parseMethodDescriptor q.1.desc).map (fun d => d.parameters.length) = some np ∧ q.2.2.1 ≤ 45 ∧ (kd = 0 → Cond.static q.1 ∈ Ts) ∧ (kd = 1 → Cond.instanceMethod q.1 ∈ Ts ∧ Cond.selects q.1.cls q.1 q.1 ∈ Ts ∧ ∃ k : vw_C, cl[ci]? = some k ∧ k.1 = q.1.cls) ∧ (kd = 2 → Cond.instanceMethod q.1 ∈ Ts ∧ q.1.name = "<init>" ∧ q.2.2.2.1 = none)
/-- Object's constructor -/
def mj_PO (Ts : List Cond) (own : String) (pm : Nat → Option (Nat × Nat × Nat × Nat)) : Prop := ∀ idx mi np ci : Nat, pm idx = some (3, mi, np, ci) → Cond.methodLink own idx objectInit ∈ Ts ∧ Cond.instanceMethod objectInit ∈ Ts ∧ Cond.code objectInit ⟨#[0xb1]⟩ 1 none ∈ Ts
/-- behind a call -/
def mj_fin (pc n cs ss : Nat) (rest : List Value) : Option (mj_Out × Nat × (Nat → va_E) × Nat × Nat) → Option ((Nat × List Value × Nat × (Nat → va_E) × Nat × Nat) ⊕ (mj_Out × Nat × (Nat → va_E) × Nat × Nat))
  | some (.inl v, n', f', c', s') => if n ≤ n' then some (.inl (pc + 3, v.toList ++ rest, n', f', cs + c', ss + s')) else none
  | some (.inr x, n', f', c', s') => if n ≤ n' then some (.inr (.inr x, n', f', cs + c', ss + s')) else none
  | none => none
def mj_g7 (call : mj_CF) (pm : Nat → Option (Nat × Nat × Nat × Nat)) (C S : Nat) (i : Instr) (pc : Nat) (st : List Value) (n : Nat) (f : Nat → va_E) (cs ss : Nat) : Option ((Nat × List Value × Nat × (Nat → va_E) × Nat × Nat) ⊕ (mj_Out × Nat × (Nat → va_E) × Nat × Nat)) :=
  match i with
  | .invokestatic idx => match pm idx with
    | some (0, mi, k, _) => if (k ≤ st.length ∧ mj_wt (st.drop k) ≤ 24) ∧ cs ≤ C ∧ ss ≤ S then mj_fin pc n cs ss (st.drop k) (call mi (st.take k).reverse n f (C - cs) (S - ss)) else none
    | _ => none
  | .invokevirtual idx => match pm idx with
    | some (1, mi, k, ci) => match st.drop k with
      | .ref b :: r => if (k ≤ st.length ∧ mj_wt r ≤ 24) ∧ (cs ≤ C ∧ ss ≤ S) ∧ 32 ≤ b ∧ b < n then match f b with
        | .inr (cj, _) => if cj = ci then mj_fin pc n cs ss r (call mi (.ref b :: (st.take k).reverse) n f (C - cs) (S - ss)) else none
        | _ => none else none
      | _ => none
    | _ => none
  | .invokespecial idx => match pm idx with
    | some (2, mi, k, _) => match st.drop k with
      | .ref b :: r => if (k ≤ st.length ∧ mj_wt r ≤ 24) ∧ cs ≤ C ∧ ss ≤ S then mj_fin pc n cs ss r (call mi (.ref b :: (st.take k).reverse) n f (C - cs) (S - ss)) else none
      | _ => none
    | some (3, _, _, _) => match st with
      | .ref b :: r => if mj_wt r ≤ 24 then some (.inl (pc + 3, r, n, f, cs, ss)) else none
      | _ => none
    | _ => none
  | _ => none
def mj_MQ (below : List Frame) (Qc : State → Outcome → State → Prop) (s : State) (mc ms : Nat) (free : Addr → Prop) : State → Prop := fun t => ∃ o, t.status = .running ∧ Ended t below o ∧ mj_QX Qc mc ms free s o t
theorem mj_MQ_of {below : List Frame} {Qc : State → Outcome → State → Prop} {a : Array Value} {s t : State} {mc ms : Nat} {free : Addr → Prop} (h : MQ below (fun _ => Qc) a s mc ms free t) : mj_MQ below Qc s mc ms free t := by
  obtain ⟨o, h1, h2, h3, L, ⟨-, h4, h5⟩, h6⟩ := h
  exact ⟨o, h1, h2, h3, L, ⟨h4, h5⟩, h6⟩
theorem mj_Wmono {p : Program} {l : Launch} {e : Env} {R : Room} {s : State} {m : MethodId} {args : Array Value} {below : List Frame} {meth : Method} {c : Code} {H : Heap} {locs : List Loc} {cells slots : Nat} {Q Q' : State → Prop} {g : JFrame} (h : ∀ t, Q t → Q' t) (k : W p l e R s m args below meth c H locs cells slots Q g) : W p l e R s m args below meth c H locs cells slots Q' g := fun T hT X => by
  obtain ⟨t, a, b⟩ := k T hT X
  exact ⟨t, a, h t b⟩
theorem mj_wt_r (ρ : Nat → Nat) (st : List Value) : mj_wt (mj_st ρ st) = mj_wt st := by
  simp [mj_wt, mj_st, Function.comp_def, mj_cat]
