/-! ===== a block is what the code does ===== -/
/-- pools and the formatter -/
def my_pe (a b : mj_Po) : Prop := a.1 = b.1 ∧ a.2.1 = b.2.1 ∧ a.2.2.1 = b.2.2.1 ∧ a.2.2.2.2.1 = b.2.2.2.2.1 ∧ a.2.2.2.2.2.1 = b.2.2.2.2.2.1 ∧ a.2.2.2.2.2.2.1 = b.2.2.2.2.2.2.1 ∧ a.2.2.2.2.2.2.2.1 = b.2.2.2.2.2.2.2.1 ∧ a.2.2.2.2.2.2.2.2.2.1 = b.2.2.2.2.2.2.2.2.2.1
theorem my_pe_0 (fv : Value) : my_pe (mq_0 fv) (mq_0 .null) := ⟨rfl, rfl, rfl, rfl, rfl, rfl, rfl, rfl⟩
theorem my_pe_1 (fv : Value) : my_pe (mq_1 fv) (mq_1 .null) := ⟨rfl, rfl, rfl, rfl, rfl, rfl, rfl, rfl⟩
theorem my_pe_2 (fv : Value) : my_pe (mq_2 fv) (mq_2 .null) := ⟨rfl, rfl, rfl, rfl, rfl, rfl, rfl, rfl⟩
theorem my_pe_3 (fv : Value) : my_pe (mq_3 fv) (mq_3 .null) := ⟨rfl, rfl, rfl, rfl, rfl, rfl, rfl, rfl⟩
theorem my_pe_4 (fv : Value) : my_pe (mq_4 fv) (mq_4 .null) := ⟨rfl, rfl, rfl, rfl, rfl, rfl, rfl, rfl⟩
theorem my_pe_5 (fv : Value) : my_pe (mq_5 fv) (mq_5 .null) := ⟨rfl, rfl, rfl, rfl, rfl, rfl, rfl, rfl⟩
theorem my_pe_6 (fv : Value) : my_pe (mq_6 fv) (mq_6 .null) := ⟨rfl, rfl, rfl, rfl, rfl, rfl, rfl, rfl⟩
theorem my_pe_7 (fv : Value) : my_pe (mq_7 fv) (mq_7 .null) := ⟨rfl, rfl, rfl, rfl, rfl, rfl, rfl, rfl⟩
theorem my_pe_8 (fv : Value) : my_pe (mq_8 fv) (mq_8 .null) := ⟨rfl, rfl, rfl, rfl, rfl, rfl, rfl, rfl⟩
theorem my_pe_9 (fv : Value) : my_pe (mq_9 fv) (mq_9 .null) := ⟨rfl, rfl, rfl, rfl, rfl, rfl, rfl, rfl⟩
theorem my_pe_10 (fv : Value) : my_pe (mq_10 fv) (mq_10 .null) := ⟨rfl, rfl, rfl, rfl, rfl, rfl, rfl, rfl⟩
theorem my_pe_11 (fv : Value) : my_pe (mq_11 fv) (mq_11 .null) := ⟨rfl, rfl, rfl, rfl, rfl, rfl, rfl, rfl⟩
theorem my_pe_12 (fv : Value) : my_pe (mq_12 fv) (mq_12 .null) := ⟨rfl, rfl, rfl, rfl, rfl, rfl, rfl, rfl⟩
theorem my_pe_13 (fv : Value) : my_pe (mq_13 fv) (mq_13 .null) := ⟨rfl, rfl, rfl, rfl, rfl, rfl, rfl, rfl⟩
theorem my_pe_14 (fv : Value) : my_pe (mq_14 fv) (mq_14 .null) := ⟨rfl, rfl, rfl, rfl, rfl, rfl, rfl, rfl⟩
theorem my_pe_15 (fv : Value) : my_pe (mq_15 fv) (mq_15 .null) := ⟨rfl, rfl, rfl, rfl, rfl, rfl, rfl, rfl⟩
theorem my_pe_16 (fv : Value) : my_pe (mq_16 fv) (mq_16 .null) := ⟨rfl, rfl, rfl, rfl, rfl, rfl, rfl, rfl⟩
theorem my_pe_17 (fv : Value) : my_pe (mq_17 fv) (mq_17 .null) := ⟨rfl, rfl, rfl, rfl, rfl, rfl, rfl, rfl⟩
theorem my_po (fv : Value) : ∀ k : Nat, my_pe (mc_PO fv k) (mc_PO .null k)
  | 0 => my_pe_0 fv
  | 1 => my_pe_1 fv
  | 2 => my_pe_2 fv
  | 3 => my_pe_3 fv
  | 4 => my_pe_4 fv
  | 5 => my_pe_5 fv
  | 6 => my_pe_6 fv
  | 7 => my_pe_7 fv
  | 8 => my_pe_8 fv
  | 9 => my_pe_9 fv
  | 10 => my_pe_10 fv
  | 11 => my_pe_11 fv
  | 12 => my_pe_12 fv
  | 13 => my_pe_13 fv
  | 14 => my_pe_14 fv
  | 15 => my_pe_15 fv
  | 16 => my_pe_16 fv
  | 17 => my_pe_17 fv
  | k + 18 => my_pe_0 fv
theorem my_pg_0 (fv : Value) : (mq_0 fv).2.2.2.2.2.2.2.2.1 = (mq_0 .null).2.2.2.2.2.2.2.2.1 := rfl
theorem my_pg_1 (fv : Value) : (mq_1 fv).2.2.2.2.2.2.2.2.1 = (mq_1 .null).2.2.2.2.2.2.2.2.1 := rfl
theorem my_pg_2 (fv : Value) : (mq_2 fv).2.2.2.2.2.2.2.2.1 = (mq_2 .null).2.2.2.2.2.2.2.2.1 := rfl
theorem my_pg_3 (fv : Value) : (mq_3 fv).2.2.2.2.2.2.2.2.1 = (mq_3 .null).2.2.2.2.2.2.2.2.1 := rfl
theorem my_pg_4 (fv : Value) : (mq_4 fv).2.2.2.2.2.2.2.2.1 = (mq_4 .null).2.2.2.2.2.2.2.2.1 := rfl
theorem my_pg_5 (fv : Value) : (mq_5 fv).2.2.2.2.2.2.2.2.1 = (mq_5 .null).2.2.2.2.2.2.2.2.1 := rfl
theorem my_pg_6 (fv : Value) : (mq_6 fv).2.2.2.2.2.2.2.2.1 = (mq_6 .null).2.2.2.2.2.2.2.2.1 := rfl
theorem my_pg_7 (fv : Value) : (mq_7 fv).2.2.2.2.2.2.2.2.1 = (mq_7 .null).2.2.2.2.2.2.2.2.1 := rfl
theorem my_pg_8 (fv : Value) : (mq_8 fv).2.2.2.2.2.2.2.2.1 = (mq_8 .null).2.2.2.2.2.2.2.2.1 := rfl
theorem my_pg_9 (fv : Value) : (mq_9 fv).2.2.2.2.2.2.2.2.1 = (mq_9 .null).2.2.2.2.2.2.2.2.1 := rfl
theorem my_pg_10 (fv : Value) : (mq_10 fv).2.2.2.2.2.2.2.2.1 = (mq_10 .null).2.2.2.2.2.2.2.2.1 := rfl
theorem my_pg_11 (fv : Value) : (mq_11 fv).2.2.2.2.2.2.2.2.1 = (mq_11 .null).2.2.2.2.2.2.2.2.1 := rfl
theorem my_pg_12 (fv : Value) : (mq_12 fv).2.2.2.2.2.2.2.2.1 = (mq_12 .null).2.2.2.2.2.2.2.2.1 := rfl
theorem my_pg (fv : Value) : ∀ k : Nat, Nat.ble k 12 = true → (mc_PO fv k).2.2.2.2.2.2.2.2.1 = (mc_PO .null k).2.2.2.2.2.2.2.2.1
  | 0, _ => my_pg_0 fv
  | 1, _ => my_pg_1 fv
  | 2, _ => my_pg_2 fv
  | 3, _ => my_pg_3 fv
  | 4, _ => my_pg_4 fv
  | 5, _ => my_pg_5 fv
  | 6, _ => my_pg_6 fv
  | 7, _ => my_pg_7 fv
  | 8, _ => my_pg_8 fv
  | 9, _ => my_pg_9 fv
  | 10, _ => my_pg_10 fv
  | 11, _ => my_pg_11 fv
  | 12, _ => my_pg_12 fv
  | k + 13, h => absurd (Nat.le_of_ble_eq_true h) (by omega)
/-- the rows of a switch -/
def my_sk (pc : Nat) : List (Int × Int) → Int → List (List Nat) → Bool
  | [], dft, [x] => decide ((pc : Int) + dft = (my_h0 x : Int))
  | (k, off) :: ps, dft, (k' :: x) :: y :: r => decide (k = (k' : Int)) && decide (k' < 2147483648) && decide ((pc : Int) + off = (my_h0 x : Int)) && my_sk pc ps dft (y :: r)
  | _, _, _ => false
theorem my_key {v : Int32} {k : Nat} (hk : k < 2147483648) : v = Int32.ofNat k ↔ (k : Int) = v.toInt := by
  have e1 : (Int32.ofNat k).toInt = (k : Int) := Int32.toInt_ofNat_of_lt hk
  constructor
  · rintro rfl; exact e1.symm
  · intro h; exact Int32.toInt_inj.mp (by rw [e1, h])
theorem my_sws_ok {e : my_E} {d : Nat} {q : mj_Mi} {Q : my_O → my_K → my_S → Prop} {v : Int32} {lv : List (Nat × my_V)} {st : List my_V} {κ : my_K} {σ : my_S} {pc : Nat} {dft : Int} : ∀ {ps : List (Int × Int)} {rows : List (List Nat)}, my_sk pc ps dft rows = true → my_sws e d q Q v lv st κ σ rows → ∃ t : Nat, (pc : Int) + Op.lookupswitch.offset ps dft v.toInt = (t : Int) ∧ my_W e d q t lv st κ σ Q
  | [], [], h, _ => by simp [my_sk] at h
  | [], [x], h, hs => ⟨my_h0 x, of_decide_eq_true h, my_lf_ok hs⟩
  | [], _ :: _ :: _, h, _ => by simp [my_sk] at h
  | (k, off) :: ps, [], h, _ => by simp [my_sk] at h
  | (k, off) :: ps, [x], h, _ => by cases x <;> simp [my_sk] at h
  | (k, off) :: ps, [] :: _ :: _, h, _ => by simp [my_sk] at h
  | (k, off) :: ps, (k' :: x) :: y :: r, h, hs => by
    simp only [my_sk, Bool.and_eq_true, decide_eq_true_eq] at h
    obtain ⟨⟨⟨rfl, h1⟩, h2⟩, h3⟩ := h
    simp only [my_sws] at hs
    rw [Op.lookupswitch.offset_cons]
    split at hs
    · rename_i hv
      rw [if_pos ((my_key h1).mp hv)]
      exact ⟨my_h0 x, h2, my_lf_ok hs⟩
    · rename_i hv
      rw [if_neg (fun e => hv ((my_key h1).mpr e))]
      exact my_sws_ok h3 hs
def my_tl : Int → List Int → List (Int × Int)
  | _, [] => []
  | lo, o :: r => (lo, o) :: my_tl (lo + 1) r
theorem my_tl_off {dft k : Int} : ∀ {l : List Int} {lo : Int}, Op.lookupswitch.offset (my_tl lo l) dft k = if k < lo ∨ lo + l.length ≤ k then dft else l.getD (k - lo).toNat 0
  | [], lo => by
    have : k < lo ∨ lo + (([] : List Int).length : Int) ≤ k := by simp; omega
    rw [if_pos this]; rfl
  | o :: r, lo => by
    simp only [my_tl]
    rw [Op.lookupswitch.offset_cons, my_tl_off (l := r)]
    by_cases e1 : lo = k
    · subst e1
      rw [if_pos rfl, if_neg (by simp only [List.length_cons]; omega)]
      simp
    · rw [if_neg e1]
      by_cases e2 : k < lo
      · rw [if_pos (by omega), if_pos (by omega)]
      · by_cases e3 : lo + 1 + (r.length : Int) ≤ k
        · rw [if_pos (by omega), if_pos (by simp only [List.length_cons]; omega)]
        · rw [if_neg (by omega), if_neg (by simp only [List.length_cons]; omega)]
          have e4 : (k - lo).toNat = (k - (lo + 1)).toNat + 1 := by omega
          rw [e4]
          simp
def my_lit (m A : Nat) (l : Nat ⊕ (Nat × Nat)) : Bool := !Nat.beq m 1 || decide (my_lay A = some l)
theorem my_lit_ok {m A : Nat} {l : Nat ⊕ (Nat × Nat)} (h : my_lit m A l = true) (hm : m = 1) : my_lay A = some l := by
  subst hm
  simpa [my_lit] using h
def my_pc (ty : Nat) (c : Int) (T : FieldType) : Bool := match ty with
  | 0 => decide (c = -1) && decide (T = .int)
  | 1 => decide (c = -2) && decide (T = .boolean)
  | 2 => decide (c = -3) && decide (T = .long)
  | 3 => decide (c = -4) && match T with
    | .object _ => true
    | _ => false
  | _ => false
def my_hk (q : mj_Mi) (pc : Nat) (hs : List (List Nat)) : Bool := match hs with
  | [] => q.2.2.2.2.2.2.2.isEmpty
  | h :: t => !q.2.2.2.2.2.2.2.isEmpty && (h :: t).all (fun row => match row with
    | ci :: hp :: _ => decide (mj_hd (mc_PO .null q.2.2.2.2.2.1).2.2.2.2.2.2.2.2.2.1 pc ci q.2.2.2.2.2.2.2 = some hp)
    | [] => true
    | _ => false)
def my_c1 (q : mj_Mi) (i : Instr) (x : List (List Nat)) (pc : Nat) : Bool := match i with
  | .getfield idx => match x with
    | [[m, A, ci, k, ty, B]] => (match (mc_PO .null q.2.2.2.2.2.1).2.1 idx with
      | some (ci', k', _) => Nat.beq ci' ci && Nat.beq k' k
      | none => false) && (match (my_cd ci)[k]? with
      | some c => my_fc m A ty B c
      | none => false) && my_lit m A (.inl ci)
    | _ => false
  | .putfield idx => match x with
    | [[m, A, ci, k, ty]] => decide ((mc_PO .null q.2.2.2.2.2.1).2.1 idx = some (ci, k, 0)) && (match (my_cd ci)[k]? with
      | some c => my_pc ty c (mc_ty ci k)
      | none => false) && my_lit m A (.inl ci)
    | _ => false
  | .iaload => match x with
    | [[m, A, z]] => my_lit m A (.inr (0, z))
    | [[_]] => true
    | _ => false
  | .baload => match x with
    | [[m, A, t, z]] => (decide (t = 1) || decide (t = 3)) && my_lit m A (.inr (t, z))
    | _ => false
  | .laload => match x with
    | [[m, A, z]] => my_lit m A (.inr (2, z))
    | _ => false
  | .aaload => match x with
    | [[m, A, t, z]] => decide (4 ≤ t) && (match mc_TY[t]? with
      | some (.object _) => true
      | _ => false) && my_lit m A (.inr (t, z))
    | _ => false
  | .arraylength => match x with
    | [[m, A, t, z]] => (mc_TY[t]?).isSome && my_lit m A (.inr (t, z))
    | [[_]] => true
    | _ => false
  | .iastore => match x with
    | [[m, A, z]] => my_lit m A (.inr (0, z))
    | _ => false
  | .bastore => match x with
    | [[m, A, t, z]] => my_lit m A (.inr (t, z))
    | _ => false
  | .lastore => match x with
    | [[m, A, z]] => my_lit m A (.inr (2, z))
    | _ => false
  | .aastore => match x with
    | [[m, A, t, z, ci]] => decide (4 ≤ t) && (match mc_cm[ci]? with
      | some r => decide (mc_TY[t]? = some (.object r.1))
      | none => false) && my_lit m A (.inr (t, z))
    | _ => false
  | .getstatic idx => Nat.ble q.2.2.2.2.2.1 12 && decide ((mc_PO .null q.2.2.2.2.2.1).2.2.2.2.2.2.2.2.1 idx = some (.ref 27))
  | .ldc idx => match x with
    | [[w]] => decide ((mc_PO .null q.2.2.2.2.2.1).2.2.2.2.1 idx = some (Int32.ofNat w))
    | _ => false
  | .ldc_w idx => match x with
    | [[w]] => decide ((mc_PO .null q.2.2.2.2.2.1).2.2.2.2.1 idx = some (Int32.ofNat w))
    | _ => false
  | .ldc2_w idx => match x with
    | [[w]] => decide ((mc_PO .null q.2.2.2.2.2.1).2.2.2.2.2.1 idx = some (Int64.ofNat w))
    | _ => false
  | .ifCond _ off => match x with
    | [t, u] => decide ((pc : Int) + off = (my_h0 t : Int)) && decide (pc + 3 = my_h0 u)
    | _ => false
  | .if_icmp _ off => match x with
    | [t, u] => decide ((pc : Int) + off = (my_h0 t : Int)) && decide (pc + 3 = my_h0 u)
    | _ => false
  | .ifnull off => match x with
    | [t, u] => decide ((pc : Int) + off = (my_h0 t : Int)) && decide (pc + 3 = my_h0 u)
    | _ => false
  | .ifnonnull off => match x with
    | [t, u] => decide ((pc : Int) + off = (my_h0 t : Int)) && decide (pc + 3 = my_h0 u)
    | _ => false
  | .if_acmp _ off => match x with
    | [t, u] => decide ((pc : Int) + off = (my_h0 t : Int)) && decide (pc + 3 = my_h0 u)
    | _ => false
  | .tableswitch dft lo hi offs => decide (hi = lo + offs.toList.length - 1) && my_sk pc (my_tl lo offs.toList) dft x
  | .lookupswitch dft ps => (ps.toList.zip (ps.toList.drop 1)).all (fun (a, next) => a.1 < next.1) && my_sk pc ps.toList dft x
  | .ireturn => match x with
    | [[0]] => decide (q.2.2.2.1 = some .int)
    | [[1]] => decide (q.2.2.2.1 = some .boolean)
    | _ => false
  | .lreturn => decide (q.2.2.2.1 = some .long)
  | .areturn => match q.2.2.2.1 with
    | some (.object _) => true
    | _ => false
  | .return_ => decide (q.2.2.2.1 = none)
  | .new idx => match x with
    | [[ci, z, k]] => q.2.2.2.2.2.2.2.isEmpty && decide ((mc_PO .null q.2.2.2.2.2.1).2.2.1 idx = some (ci, z)) && (match mc_cm[ci]? with
      | some r => decide (r.2.2 = 0)
      | none => false) && decide (mj_at q.2.2.2.2.1 (pc + 3) = some .dup) && (match mj_at q.2.2.2.2.1 (pc + 4) with
      | some j => match mj_tx j with
        | some (kk, len) => ((mc_PO .null q.2.2.2.2.2.1).2.2.2.2.2.2.2.1 kk).isSome && (match mj_at q.2.2.2.2.1 (pc + 4 + len) with
          | some (.invokespecial ic) => mc_PT.contains ((mc_PO .null q.2.2.2.2.2.1).1, ic, ci)
          | _ => false) && decide (k = pc + 4 + len + 3)
        | none => false
      | none => false) && decide (mj_at q.2.2.2.2.1 k = some .athrow)
    | _ => false
  | .invokestatic idx => match x with
    | [[b]] => decide ((mc_PO .null q.2.2.2.2.2.1).2.2.2.2.2.2.1 idx = none) && (if b = 1 then mc_MT.contains ((mc_PO .null q.2.2.2.2.2.1).1, idx, true) else mc_MT.contains ((mc_PO .null q.2.2.2.2.2.1).1, idx, false) && !mc_MT.contains ((mc_PO .null q.2.2.2.2.2.1).1, idx, true))
    | [mi, np, _] :: lf :: hs => (match (mc_PO .null q.2.2.2.2.2.1).2.2.2.2.2.2.1 idx with
      | some (0, mi', np', _) => Nat.beq mi' mi && Nat.beq np' np
      | _ => false) && decide (my_h0 lf = pc + 3) && my_hk q pc hs
    | _ => false
  | .invokevirtual idx => match x with
    | [mi, np, _, m, A, ci] :: lf :: hs => decide ((mc_PO .null q.2.2.2.2.2.1).2.2.2.2.2.2.1 idx = some (1, mi, np, ci)) && decide (my_h0 lf = pc + 3) && my_hk q pc hs && my_lit m A (.inl ci)
    | _ => false
  | i => my_pk q.2.2.1 i && my_gk i pc
/-- the block's rows are the code's -/
def my_ck (q : mj_Mi) : List (Instr × List (List Nat)) → Nat → Bool
  | [], _ => true
  | (.nop, x) :: _, pc => match x with
    | [y] => decide (my_h0 y = pc)
    | _ => false
  | (i, x) :: r, pc => decide (mj_at q.2.2.2.2.1 pc = some i) && my_c1 q i x pc && my_ck q r (my_nx i pc)
