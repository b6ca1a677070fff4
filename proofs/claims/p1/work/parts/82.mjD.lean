/-! ===== the small machine: ends; a step; runs ===== -/
def mj_g8 (ret : Option FieldType) (i : Instr) (st : List Value) : Option mj_Out :=
  match i with
  | .ireturn => match ret with
    | some ty => match st with
      | [.int x] => if mj_fit ty (.int x) = true then some (.inl (some (.int x))) else none
      | _ => none
    | none => none
  | .lreturn => match st with
    | [.long x] => if ret = some .long then some (.inl (some (.long x))) else none
    | _ => none
  | .areturn => match ret with
    | some (.object _) => match st with
      | [.ref a] => some (.inl (some (.ref a)))
      | [.null] => some (.inl (some .null))
      | _ => none
    | _ => none
  | .return_ => match st with
    | [] => if ret = none then some (.inl none) else none
    | _ => none
  | .athrow => match st with
    | .ref a :: _ => some (.inr a)
    | _ => none
  | _ => none
abbrev mj_Cfg : Type := Nat × List (Nat × Value) × List Value × Nat × (Nat → va_E) × Nat × Nat
abbrev mj_End : Type := mj_Out × Nat × (Nat → va_E) × Nat × Nat
def mj_step (PT : List (String × Nat × Nat)) (MT : List (String × Nat × Bool)) (d : Nat) (TY : List FieldType) (cl : List vw_C) (cty : Nat → Nat → FieldType) (po : mj_Po) (call : mj_CF) (C S : Nat) (q : mj_Mi) (i : Instr) (pc : Nat) (lv : List (Nat × Value)) (st : List Value) (n : Nat) (f : Nat → va_E) (cs ss : Nat) : Option (mj_Cfg ⊕ mj_End) :=
  if mj_sw i = true then match mj_g1e i pc lv st with
    | some (pc', lv', st') => some (.inl (pc', lv', st', n, f, cs, ss))
    | none => none
  else match mj_g1a i pc q.2.2.1 lv st with
  | some (pc', lv', st') => some (.inl (pc', lv', st', n, f, cs, ss))
  | none => match mj_g4 cty po.2.1 q.2.2.2.2.2.2.1 i pc n f st with
  | some (pc', f', st') => some (.inl (pc', lv, st', n, f', cs, ss))
  | none => match mj_g1d i pc lv st with
  | some (pc', lv', st') => some (.inl (pc', lv', st', n, f, cs, ss))
  | none => match mj_g7 call po.2.2.2.2.2.2.1 C S i pc st n f cs ss with
  | some (.inl (pc', st', n', f', cs', ss')) => some (.inl (pc', lv, st', n', f', cs', ss'))
  | some (.inr r) => some (.inr r)
  | none => match mj_g2 TY i pc n f st with
  | some (pc', st') => some (.inl (pc', lv, st', n, f, cs, ss))
  | none => match mj_g1b i pc q.2.2.1 lv st with
  | some (pc', lv', st') => some (.inl (pc', lv', st', n, f, cs, ss))
  | none => match mj_g8 q.2.2.2.1 i st with
  | some o => some (.inr (o, n, f, cs, ss))
  | none => match mj_g1c i pc lv st with
  | some (pc', lv', st') => some (.inl (pc', lv', st', n, f, cs, ss))
  | none => match mj_g3 TY cl i pc n f st with
  | some (pc', f', st') => some (.inl (pc', lv, st', n, f', cs, ss))
  | none => match mj_g6 po.2.2.2.2.1 po.2.2.2.2.2.1 i pc st with
  | some (pc', st') => some (.inl (pc', lv, st', n, f, cs, ss))
  | none => match mj_gt PT cl po.1 po.2.2.1 po.2.2.2.2.2.2.2.1 q.2.2.2.2.1 d C S i pc n f cs ss st with
  | some (pc', n', f', cs', ss', st') => some (.inl (pc', lv, st', n', f', cs', ss'))
  | none => match mj_g5 TY cl cty po.2.2.1 po.2.2.2.1 C S i pc n f cs ss st with
  | some (pc', n', f', cs', ss', st') => some (.inl (pc', lv, st', n', f', cs', ss'))
  | none => match mj_g9 i pc st with
  | some (pc', st') => some (.inl (pc', lv, st', n, f, cs, ss))
  | none => match mj_gx TY po.2.2.2.2.2.2.2.1 po.2.2.2.2.2.2.2.2.1 po.2.2.2.2.2.2.2.2.2.2 i pc f st with
  | some (pc', st') => some (.inl (pc', lv, st', n, f, cs, ss))
  | none => if cs ≤ C ∧ ss ≤ S then match mj_gm MT po.1 i pc st with
    | some (pc', st') => some (.inl (pc', lv, st', n, f, cs, ss))
    | none => none else none
/-- where what is thrown is caught -/
def mj_ct (px : Nat → Option Nat) (pc : Nat) (hs : List (Nat × Nat × Nat × Nat)) (n : Nat) (f : Nat → va_E) (x : Nat) : Option Nat := if 32 ≤ x ∧ x < n then match f x with
  | .inr (ci, _) => mj_hd px pc ci hs
  | _ => none else none
def mj_loop (PT : List (String × Nat × Nat)) (MT : List (String × Nat × Bool)) (d : Nat) (TY : List FieldType) (cl : List vw_C) (cty : Nat → Nat → FieldType) (po : mj_Po) (call : mj_CF) (C S : Nat) (q : mj_Mi) : Nat → Nat → List (Nat × Value) → List Value → Nat → (Nat → va_E) → Nat → Nat → Option mj_End
  | 0, _, _, _, _, _, _, _ => none
  | k + 1, pc, lv, st, n, f, cs, ss => match mj_at q.2.2.2.2.1 pc with
    | none => none
    | some i => match mj_step PT MT d TY cl cty po call C S q i pc lv st n f cs ss with
      | some (.inl (pc', lv', st', n', f', cs', ss')) => mj_loop PT MT d TY cl cty po call C S q k pc' lv' st' n' f' cs' ss'
      | some (.inr (.inl v, n', f', cs', ss')) => some (.inl v, n', f', cs', ss')
      | some (.inr (.inr x, n', f', cs', ss')) => match q.2.2.2.2.2.2.2 with
        | [] => some (.inr x, n', f', cs', ss')
        | h0 :: hs => match mj_ct po.2.2.2.2.2.2.2.2.2.1 pc (h0 :: hs) n' f' x with
          | some hp => mj_loop PT MT d TY cl cty po call C S q k hp lv [.ref x] n' f' cs' ss'
          | none => none
      | none => none
def mj_call (PT : List (String × Nat × Nat)) (MT : List (String × Nat × Bool)) (TY : List FieldType) (cl : List vw_C) (cty : Nat → Nat → FieldType) (PO : Nat → mj_Po) (PR : Nat → Option mj_Mi) (fuel : Nat) : Nat → mj_CF
  | 0 => fun _ _ _ _ _ _ => none
  | d + 1 => fun mi av n f C S => match PR mi with
    | none => none
    | some q => if (lg_sl av).length ≤ q.2.2.1 then mj_loop PT MT d TY cl cty (PO q.2.2.2.2.2.1) (mj_call PT MT TY cl cty PO PR fuel d) C S q fuel 0 (lv_args 0 av) [] n f 0 0 else none
theorem mj_la (ρ : Nat → Nat) : ∀ (av : List Value) (i : Nat), lv_args i (mj_st ρ av) = mj_l ρ (lv_args i av)
  | [], i => rfl
  | v :: vs, i => by
    show (i, mj_v ρ v) :: lv_args (if (mj_v ρ v).category = 2 then i + 2 else i + 1) (mj_st ρ vs) = (i, mj_v ρ v) :: mj_l ρ (lv_args (if v.category = 2 then i + 2 else i + 1) vs)
    rw [mj_cat, mj_la ρ vs]
theorem mj_sl (ρ : Nat → Nat) (av : List Value) : (lg_sl (mj_st ρ av)).length = (lg_sl av).length := by
  induction av with
  | nil => rfl
  | cons v vs ih =>
    have e1 : lg_sl (v :: vs) = (if v.category = 2 then [Slot.val v, Slot.second] else [Slot.val v]) ++ lg_sl vs := by simp [lg_sl]
    have e2 : lg_sl (mj_st ρ (v :: vs)) = (if (mj_v ρ v).category = 2 then [Slot.val (mj_v ρ v), Slot.second] else [Slot.val (mj_v ρ v)]) ++ lg_sl (mj_st ρ vs) := by simp [lg_sl, mj_st]
    rw [e1, e2, List.length_append, List.length_append, ih, mj_cat]
    split <;> rfl
