/-! ===== the small machine: its programs, its memory's promises, one step that calls ===== -/
abbrev mj_CF : Type := Nat → List Value → Nat → (Nat → va_E) → Nat → Nat → Option (mj_Out × Nat × (Nat → va_E) × Nat × Nat)
def mj_rm (d C S : Nat) : Room := { frames := d, cells := C, slots := S, locals := 80 * d }
def mj_wt (st : List Value) : Nat := (st.map fun v => v.category).sum
/-- what holds of the tables, and of what lies outside, at a state -/
def mj_G (D : va_G) (cl : List vw_C) (tc : Nat → ClassId) (TY : List FieldType) (Ts : List Cond) (XF : State → Prop) (U : State) : Prop := (∀ w ∈ Ts, ∀ A : Array Value, w.before A U = true) ∧ va_K D cl (mj_tys TY tc) U ∧ XF U
/-- it goes on holding -/
def mj_Wm (base : Nat) (Ts : List Cond) (XF : State → Prop) : Prop := (∀ w ∈ Ts, ∀ s U : State, s.WarmedH U.vm → (∀ A : Array Value, w.before A s = true) → ∀ A : Array Value, w.before A U = true) ∧
  ∀ s U : State, s.WarmedH U.vm → (∀ q : Nat, q < base → U.heap[q]? = s.heap[q]?) → XF s → XF U
theorem mj_G.warm {D : va_G} {cl : List vw_C} {tc : Nat → ClassId} {TY : List FieldType} {Ts : List Cond} {XF : State → Prop} {base : Nat} {s U : State} (hw : mj_Wm base Ts XF) (h : mj_G D cl tc TY Ts XF s) (hW : s.WarmedH U.vm) (hH : ∀ q : Nat, q < base → U.heap[q]? = s.heap[q]?) : mj_G D cl tc TY Ts XF U :=
  ⟨fun w hw' => hw.1 w hw' s U hW (h.1 w hw'), va_K.moved hW.alike h.2.1, hw.2 s U hW hH h.2.2⟩
/-- what lies outside: texts, statics, arrays of numbers, objects -/
def mj_XO (cl : List vw_C) (TY : List FieldType) (STR : List (String × Nat × String)) (SG : List (String × String × String × Value)) (EXF : List (String × String × String)) (ext : Nat → Nat) (fx : Nat → va_E) (base : Nat) (U : State) : Prop :=
  (∀ (j : Nat) (q : String × Nat × String), STR[j]? = some q → vk_R q.1 q.2.1 q.2.2 (ext (1 + j)) U) ∧ STR.length ≤ 31 ∧
  (∀ q ∈ SG, va_Z q.1 q.2.1 q.2.2.1 (mj_v (mj_r ext base) q.2.2.2) (mj_B base) U U.heap) ∧
  (∀ (k t z : Nat) (g : Nat → Int32) (ty : FieldType), k < 32 → fx k = .inl (t, z, .inl g) → TY[t]? = some ty → va_T ty (ext k) z (fun j => .int (g j)) (mj_B base) U U.heap) ∧
  (∀ (k ci : Nat) (fs : List Value), k < 32 → fx k = .inr (ci, fs) → (∀ q, cl[ci]? = some q → va_O q.1 (ext k) (mj_B base) U U.heap) ∧ ∀ (j : Nat) (v : Value) (o n d : String), fs[j]? = some v → EXF[j]? = some (o, n, d) → va_OF o n d (mj_v (mj_r ext base) v) (ext k) (mj_B base) U U.heap)
def mj_Pre (D : va_G) (cl : List vw_C) (tc : Nat → ClassId) (TY : List FieldType) (Ts : List Cond) (XF : State → Prop) (ext : Nat → Nat) (fx : Nat → va_E) (base n : Nat) (f : Nat → va_E) (av : List Value) : Array Value → State → Prop := fun v U =>
  v = (mj_st (mj_r ext base) av).toArray ∧ mj_G D cl tc TY Ts XF U ∧ mj_M D cl tc ext fx base n f U.heap
def mj_Ou (ρ : Nat → Nat) : mj_Out → Outcome
  | .inl v => .returned (v.map (mj_v ρ))
  | .inr x => .threw (ρ x)
def mj_Post (D : va_G) (cl : List vw_C) (tc : Nat → ClassId) (ext : Nat → Nat) (fx : Nat → va_E) (base : Nat) (out : mj_Out) (n : Nat) (f : Nat → va_E) : State → Outcome → State → Prop := fun st o t =>
  o = mj_Ou (mj_r ext base) out ∧ mj_M D cl tc ext fx base n f t.heap ∧ ∀ q : Nat, q < base → t.heap[q]? = st.heap[q]?
/-- the contract of one run -/
def mj_Met (l : Launch) (D : va_G) (cl : List vw_C) (tc : Nat → ClassId) (TY : List FieldType) (Ts : List Cond) (XF : State → Prop) (ext : Nat → Nat) (fx : Nat → va_E) (base d C S : Nat) (mi : mj_Mi) (av : List Value) (n : Nat) (f : Nat → va_E) (out : mj_Out) (n' : Nat) (f' : Nat → va_E) (c' s' : Nat) : Prop :=
  MetFree l mi.1 (headSpec [mj_cw mi] (mj_rm d C S)) (mj_Pre D cl tc TY Ts XF ext fx base n f av) (fun _ _ _ _ _ => True) (fun _ st o t => mj_QX (mj_Post D cl tc ext fx base out n' f') c' s' (mj_B base) st o t)
/-- behind a call -/
def mj_fin (pc n cs ss : Nat) (rest : List Value) : Option (mj_Out × Nat × (Nat → va_E) × Nat × Nat) → Option ((Nat × List Value × Nat × (Nat → va_E) × Nat × Nat) ⊕ (mj_Out × Nat × (Nat → va_E) × Nat × Nat))
  | some (.inl v, n', f', c', s') => if n ≤ n' then some (.inl (pc + 3, v.toList ++ rest, n', f', cs + c', ss + s')) else none
  | some (.inr x, n', f', c', s') => if n ≤ n' then some (.inr (.inr x, n', f', cs + c', ss + s')) else none
  | none => none
def mj_g7 (call : mj_CF) (pm : Nat → Option (Nat × Nat × Nat × Nat)) (C S : Nat) (i : Instr) (pc : Nat) (st : List Value) (n : Nat) (f : Nat → va_E) (cs ss : Nat) : Option ((Nat × List Value × Nat × (Nat → va_E) × Nat × Nat) ⊕ (mj_Out × Nat × (Nat → va_E) × Nat × Nat)) :=
  match i with
  | .invokestatic idx => match pm idx with
    | some (0, mi, k, _) => if (k ≤ st.length ∧ mj_wt (st.drop k) ≤ 24) ∧ cs ≤ C ∧ ss ≤ S then mj_fin pc n cs ss (st.drop k) (call mi (st.take k).reverse n f (C - cs) (S - ss)) else none
    | _ => none
  | .invokevirtual idx => match pm idx with
    | some (1, mi, k, ci) => match st.drop k with
      | .ref b :: r => if (k ≤ st.length ∧ mj_wt r ≤ 24) ∧ (cs ≤ C ∧ ss ≤ S) ∧ b < n then match f b with
        | .inr (cj, _) => if cj = ci then mj_fin pc n cs ss r (call mi (.ref b :: (st.take k).reverse) n f (C - cs) (S - ss)) else none
        | _ => none else none
      | _ => none
    | _ => none
  | .invokespecial idx => match pm idx with
    | some (2, mi, k, _) => match st.drop k with
      | .ref b :: r => if (k ≤ st.length ∧ mj_wt r ≤ 24) ∧ cs ≤ C ∧ ss ≤ S then mj_fin pc n cs ss r (call mi (.ref b :: (st.take k).reverse) n f (C - cs) (S - ss)) else none
      | _ => none
    | some (3, _, _, _) => match st with
      | .ref b :: r => if mj_wt r ≤ 24 then some (.inl (pc + 3, r, n, f, cs, ss)) else none
      | _ => none
    | _ => none
  | _ => none
def mj_MQ (below : List Frame) (Qc : State → Outcome → State → Prop) (s : State) (mc ms : Nat) (free : Addr → Prop) : State → Prop := fun t => ∃ o, t.status = .running ∧ Ended t below o ∧ mj_QX Qc mc ms free s o t
theorem mj_MQ_of {below : List Frame} {Qc : State → Outcome → State → Prop} {a : Array Value} {s t : State} {mc ms : Nat} {free : Addr → Prop} (h : MQ below (fun _ => Qc) a s mc ms free t) : mj_MQ below Qc s mc ms free t := by
  obtain ⟨o, h1, h2, h3, L, ⟨-, h4, h5⟩, h6⟩ := h
  exact ⟨o, h1, h2, h3, L, ⟨h4, h5⟩, h6⟩
theorem mj_Wmono {p : Program} {l : Launch} {e : Env} {R : Room} {s : State} {m : MethodId} {args : Array Value} {below : List Frame} {meth : Method} {c : Code} {H : Heap} {locs : List Loc} {cells slots : Nat} {Q Q' : State → Prop} {g : JFrame} (h : ∀ t, Q t → Q' t) (k : W p l e R s m args below meth c H locs cells slots Q g) : W p l e R s m args below meth c H locs cells slots Q' g := fun T hT X => by
  obtain ⟨t, a, b⟩ := k T hT X
  exact ⟨t, a, h t b⟩
theorem mj_wt_r (ρ : Nat → Nat) (st : List Value) : mj_wt (mj_st ρ st) = mj_wt st := by
  simp [mj_wt, mj_st, Function.comp_def, mj_cat]
/-- what a method's word says -/
theorem mj_cw_spec {q : mj_Mi} {A : Array Value} {U : State} {mk : MethodId} (hn : U.methodNamed? q.1 = some mk) (h : (mj_cw q).before A U = true) : ∃ (meth : Method) (c : Code), U.vm.method? mk = some meth ∧ meth.code = some c ∧ c.code = q.2.1 ∧ c.maxLocals = q.2.2.1 ∧ meth.sig.returnType = q.2.2.2.1 ∧ meth.locks = false ∧ parseMethodDescriptor q.1.desc = some meth.sig := by
  unfold mj_cw at h
  split at h
  · obtain ⟨meth, c, h1, h2, h3, h4, h5, h6, h7, h8⟩ := Cond.code_spec hn h
    exact ⟨meth, c, h1, h2, h3, h4, h5, h6, h8⟩
  · obtain ⟨m', meth, c, hname', hmeth, hcode, hbytes, hlocals, htable, hret, hlocks, hsig⟩ := Cond.codeWith_spec h
    cases hn.symm.trans hname'
    exact ⟨meth, c, hmeth, hcode, hbytes, hlocals, hret, hlocks, hsig⟩
theorem mj_cw_named {q : mj_Mi} {A : Array Value} {U : State} (h : (mj_cw q).before A U = true) : ∃ mk, U.methodNamed? q.1 = some mk := by
  unfold mj_cw at h
  split at h
  · exact Cond.code_named h
  · obtain ⟨m', meth, c, hname', -⟩ := Cond.codeWith_spec h
    exact ⟨m', hname'⟩
