/-! ===== blocks of instructions, as statements about the memory: the pure ones ===== -/
def my_get : List (Nat × my_V) → Nat → Option my_V
  | [], _ => none
  | q :: r, k => bif Nat.beq q.1 k then some q.2 else my_get r k
def my_two : my_V → Bool
  | .inr (.inl _) => true
  | _ => false
/-- a variable of one slot is set; of two -/
def my_del1 (k : Nat) : List (Nat × my_V) → List (Nat × my_V)
  | [] => []
  | q :: r => bif Nat.beq q.1 k then my_del1 k r else bif Nat.beq (q.1 + 1) k && my_two q.2 then my_del1 k r else q :: my_del1 k r
def my_del2 (k : Nat) : List (Nat × my_V) → List (Nat × my_V)
  | [] => []
  | q :: r => bif Nat.beq q.1 k then my_del2 k r else bif Nat.beq q.1 (k + 1) then my_del2 k r else bif Nat.beq (q.1 + 1) k && my_two q.2 then my_del2 k r else q :: my_del2 k r
theorem my_get_mem {k : Nat} {v : my_V} : ∀ {lv : List (Nat × my_V)}, my_get lv k = some v → (k, v) ∈ lv
  | [], h => by simp [my_get] at h
  | q :: r, h => by
    unfold my_get at h
    cases hb : Nat.beq q.1 k with
    | true =>
      rw [hb] at h
      have e1 := Nat.eq_of_beq_eq_true hb
      simp only [cond_true, Option.some.injEq] at h
      subst h; subst e1
      exact List.mem_cons_self
    | false =>
      rw [hb] at h
      exact List.mem_cons_of_mem _ (my_get_mem h)
theorem my_del1_mem {k : Nat} {x : Nat × my_V} : ∀ {lv : List (Nat × my_V)}, x ∈ my_del1 k lv → x ∈ lv ∧ x.1 ≠ k ∧ ¬ (x.1 + 1 = k ∧ my_two x.2 = true)
  | [], h => by simp [my_del1] at h
  | q :: r, h => by
    unfold my_del1 at h
    cases hb : Nat.beq q.1 k with
    | true =>
      rw [hb] at h
      obtain ⟨a, b⟩ := my_del1_mem (lv := r) h
      exact ⟨List.mem_cons_of_mem _ a, b⟩
    | false =>
      rw [hb] at h
      simp only [cond_false] at h
      have n1 := Nat.ne_of_beq_eq_false hb
      cases hb2 : Nat.beq (q.1 + 1) k && my_two q.2 with
      | true =>
        rw [hb2] at h
        obtain ⟨a, b⟩ := my_del1_mem (lv := r) h
        exact ⟨List.mem_cons_of_mem _ a, b⟩
      | false =>
        rw [hb2] at h
        simp only [cond_false, List.mem_cons] at h
        rcases h with rfl | h
        · refine ⟨List.mem_cons_self, n1, ?_⟩
          rintro ⟨e1, e2⟩
          have e3 : Nat.beq (x.1 + 1) k = true := by rw [e1]; exact Nat.beq_refl k
          rw [e3, e2] at hb2
          cases hb2
        · obtain ⟨a, b⟩ := my_del1_mem (lv := r) h
          exact ⟨List.mem_cons_of_mem _ a, b⟩
theorem my_del2_mem {k : Nat} {x : Nat × my_V} : ∀ {lv : List (Nat × my_V)}, x ∈ my_del2 k lv → x ∈ lv ∧ x.1 ≠ k ∧ x.1 ≠ k + 1 ∧ ¬ (x.1 + 1 = k ∧ my_two x.2 = true)
  | [], h => by simp [my_del2] at h
  | q :: r, h => by
    unfold my_del2 at h
    cases hb : Nat.beq q.1 k with
    | true =>
      rw [hb] at h
      obtain ⟨a, b⟩ := my_del2_mem (lv := r) h
      exact ⟨List.mem_cons_of_mem _ a, b⟩
    | false =>
      rw [hb] at h
      simp only [cond_false] at h
      have n1 := Nat.ne_of_beq_eq_false hb
      cases hb1 : Nat.beq q.1 (k + 1) with
      | true =>
        rw [hb1] at h
        obtain ⟨a, b⟩ := my_del2_mem (lv := r) h
        exact ⟨List.mem_cons_of_mem _ a, b⟩
      | false =>
        rw [hb1] at h
        simp only [cond_false] at h
        have n2 := Nat.ne_of_beq_eq_false hb1
        cases hb2 : Nat.beq (q.1 + 1) k && my_two q.2 with
        | true =>
          rw [hb2] at h
          obtain ⟨a, b⟩ := my_del2_mem (lv := r) h
          exact ⟨List.mem_cons_of_mem _ a, b⟩
        | false =>
          rw [hb2] at h
          simp only [cond_false, List.mem_cons] at h
          rcases h with rfl | h
          · refine ⟨List.mem_cons_self, n1, n2, ?_⟩
            rintro ⟨e1, e2⟩
            have e3 : Nat.beq (x.1 + 1) k = true := by rw [e1]; exact Nat.beq_refl k
            rw [e3, e2] at hb2
            cases hb2
          · obtain ⟨a, b⟩ := my_del2_mem (lv := r) h
            exact ⟨List.mem_cons_of_mem _ a, b⟩
theorem my_cat2 {v : my_V} (h : (my_v v).category = 2) : my_two v = true := by
  rcases v with x | x | o
  · simp [my_v, Value.category] at h
  · rfl
  · rw [my_v, my_v_cat] at h; cases h
theorem my_lk_filter {p : Nat × Value → Bool} {i : Nat} {v : Value} : ∀ {l : List (Nat × Value)}, mj_lk l i = some v → p (i, v) = true → mj_lk (l.filter p) i = some v
  | [], h, _ => by simp [mj_lk] at h
  | (j, w) :: r, h, hp => by
    unfold mj_lk at h
    by_cases hj : j = i
    · subst hj
      simp only [if_true, Option.some.injEq] at h
      subst h
      rw [List.filter_cons_of_pos hp]
      exact my_lk_eq
    · simp only [hj, if_false] at h
      by_cases hpj : p (j, w) = true
      · rw [List.filter_cons_of_pos hpj, my_lk_ne hj]
        exact my_lk_filter h hp
      · rw [List.filter_cons_of_neg hpj]
        exact my_lk_filter h hp
theorem my_sub_s1 {lv : List (Nat × my_V)} {lv' : List (Nat × Value)} {k : Nat} {v : my_V} (h : my_sub lv lv') : my_sub ((k, v) :: my_del1 k lv) (mj_s1 lv' k (my_v v)) := by
  intro x hx
  rcases List.mem_cons.mp hx with rfl | hx
  · exact my_lk_eq
  · obtain ⟨a, b, c⟩ := my_del1_mem hx
    unfold mj_s1
    rw [my_lk_ne (fun e => b e.symm)]
    refine my_lk_filter (h x a) ?_
    simp only [Bool.and_eq_true, Bool.not_eq_true', beq_eq_false_iff_ne, ne_eq, Bool.and_eq_false_iff]
    refine ⟨b, ?_⟩
    by_cases e1 : x.1 + 1 = k
    · right
      intro e2
      exact c ⟨e1, my_cat2 e2⟩
    · left; exact e1
theorem my_sub_s2 {lv : List (Nat × my_V)} {lv' : List (Nat × Value)} {k : Nat} {v : my_V} (h : my_sub lv lv') : my_sub ((k, v) :: my_del2 k lv) (mj_s2 lv' k (my_v v)) := by
  intro x hx
  rcases List.mem_cons.mp hx with rfl | hx
  · exact my_lk_eq
  · obtain ⟨a, b, b2, c⟩ := my_del2_mem hx
    unfold mj_s2
    rw [my_lk_ne (fun e => b e.symm)]
    refine my_lk_filter (h x a) ?_
    simp only [Bool.and_eq_true, Bool.not_eq_true', beq_eq_false_iff_ne, ne_eq, Bool.and_eq_false_iff]
    refine ⟨b, b2, ?_⟩
    by_cases e1 : x.1 + 1 = k
    · right
      intro e2
      exact c ⟨e1, my_cat2 e2⟩
    · left; exact e1
/-- the pure instructions -/
def my_pu (i : Instr) (lv : List (Nat × my_V)) (st : List my_V) : Option (List (Nat × my_V) × List my_V) := match i with
  | .iconst z => some (lv, .inl (Int32.ofInt z) :: st)
  | .bipush z => some (lv, .inl (Int32.ofInt z) :: st)
  | .sipush z => some (lv, .inl (Int32.ofInt z) :: st)
  | .lconst k => some (lv, .inr (.inl (Int64.ofNat (k : Nat))) :: st)
  | .aconst_null => some (lv, .inr (.inr none) :: st)
  | .iload_n k => match my_get lv k with
    | some (.inl x) => some (lv, .inl x :: st)
    | _ => none
  | .iload k => match my_get lv k with
    | some (.inl x) => some (lv, .inl x :: st)
    | _ => none
  | .lload_n k => match my_get lv k with
    | some (.inr (.inl x)) => some (lv, .inr (.inl x) :: st)
    | _ => none
  | .lload k => match my_get lv k with
    | some (.inr (.inl x)) => some (lv, .inr (.inl x) :: st)
    | _ => none
  | .aload_n k => match my_get lv k with
    | some (.inr (.inr x)) => some (lv, .inr (.inr x) :: st)
    | _ => none
  | .aload k => match my_get lv k with
    | some (.inr (.inr x)) => some (lv, .inr (.inr x) :: st)
    | _ => none
  | .istore_n k => match st with
    | .inl x :: r => some (((k : Nat), .inl x) :: my_del1 k lv, r)
    | _ => none
  | .istore k => match st with
    | .inl x :: r => some ((k, .inl x) :: my_del1 k lv, r)
    | _ => none
  | .lstore_n k => match st with
    | .inr (.inl x) :: r => some (((k : Nat), .inr (.inl x)) :: my_del2 k lv, r)
    | _ => none
  | .lstore k => match st with
    | .inr (.inl x) :: r => some ((k, .inr (.inl x)) :: my_del2 k lv, r)
    | _ => none
  | .astore_n k => match st with
    | .inr (.inr x) :: r => some (((k : Nat), .inr (.inr x)) :: my_del1 k lv, r)
    | _ => none
  | .astore k => match st with
    | .inr (.inr x) :: r => some ((k, .inr (.inr x)) :: my_del1 k lv, r)
    | _ => none
  | .iinc k z => match my_get lv k with
    | some (.inl x) => some ((k, .inl (x + Int32.ofInt z)) :: my_del1 k lv, st)
    | _ => none
  | .ineg => match st with
    | .inl x :: r => some (lv, .inl (-x) :: r)
    | _ => none
  | .lneg => match st with
    | .inr (.inl x) :: r => some (lv, .inr (.inl (-x)) :: r)
    | _ => none
  | .i2l => match st with
    | .inl x :: r => some (lv, .inr (.inl x.toInt64) :: r)
    | _ => none
  | .l2i => match st with
    | .inr (.inl x) :: r => some (lv, .inl x.toInt32 :: r)
    | _ => none
  | .i2b => match st with
    | .inl x :: r => some (lv, .inl x.toInt8.toInt32 :: r)
    | _ => none
  | .i2c => match st with
    | .inl x :: r => some (lv, .inl (x.toUInt32 % 65536).toInt32 :: r)
    | _ => none
  | .lushr => match st with
    | .inl y :: .inr (.inl x) :: r => some (lv, .inr (.inl (x.toUInt64 >>> (y.toInt64.toUInt64 &&& Int64.toUInt64 63)).toInt64) :: r)
    | _ => none
  | .lshl => match st with
    | .inl y :: .inr (.inl x) :: r => some (lv, .inr (.inl (x <<< (y.toInt64 &&& 63))) :: r)
    | _ => none
  | .lcmp => match st with
    | .inr (.inl y) :: .inr (.inl x) :: r => some (lv, .inl (lg_cmp x y) :: r)
    | _ => none
  | .dup => match st with
    | .inl x :: r => some (lv, .inl x :: .inl x :: r)
    | .inr (.inr x) :: r => some (lv, .inr (.inr x) :: .inr (.inr x) :: r)
    | _ => none
  | .pop => match st with
    | .inl _ :: r => some (lv, r)
    | .inr (.inr _) :: r => some (lv, r)
    | _ => none
  | .dup2 => match st with
    | .inl y :: .inr (.inr x) :: r => some (lv, .inl y :: .inr (.inr x) :: .inl y :: .inr (.inr x) :: r)
    | _ => none
  | .iadd => match st with
    | .inl y :: .inl x :: r => some (lv, .inl (x + y) :: r)
    | _ => none
  | .isub => match st with
    | .inl y :: .inl x :: r => some (lv, .inl (x - y) :: r)
    | _ => none
  | .imul => match st with
    | .inl y :: .inl x :: r => some (lv, .inl (x * y) :: r)
    | _ => none
  | .iand => match st with
    | .inl y :: .inl x :: r => some (lv, .inl (x &&& y) :: r)
    | _ => none
  | .ior => match st with
    | .inl y :: .inl x :: r => some (lv, .inl (x ||| y) :: r)
    | _ => none
  | .ishl => match st with
    | .inl y :: .inl x :: r => some (lv, .inl (x <<< (y &&& 31)) :: r)
    | _ => none
  | .ishr => match st with
    | .inl y :: .inl x :: r => some (lv, .inl (x >>> (y &&& 31)) :: r)
    | _ => none
  | .iushr => match st with
    | .inl y :: .inl x :: r => some (lv, .inl (x.toUInt32 >>> (y.toUInt32 &&& Int32.toUInt32 31)).toInt32 :: r)
    | _ => none
  | .ladd => match st with
    | .inr (.inl y) :: .inr (.inl x) :: r => some (lv, .inr (.inl (x + y)) :: r)
    | _ => none
  | .lsub => match st with
    | .inr (.inl y) :: .inr (.inl x) :: r => some (lv, .inr (.inl (x - y)) :: r)
    | _ => none
  | .lmul => match st with
    | .inr (.inl y) :: .inr (.inl x) :: r => some (lv, .inr (.inl (x * y)) :: r)
    | _ => none
  | .lor => match st with
    | .inr (.inl y) :: .inr (.inl x) :: r => some (lv, .inr (.inl (x ||| y)) :: r)
    | _ => none
  | .goto _ => some (lv, st)
  | _ => none
/-- what is asked of a pure instruction ahead: room for the variable, numbers that are what they say -/
def my_pk (nL : Nat) : Instr → Bool
  | .bipush z => decide ((Int8.ofInt z).toInt32 = Int32.ofInt z)
  | .sipush z => decide ((Int16.ofInt z).toInt32 = Int32.ofInt z)
  | .istore_n k => decide ((k : Nat) < nL)
  | .istore k => decide (k < nL)
  | .lstore_n k => decide ((k : Nat) + 1 < nL)
  | .lstore k => decide (k + 1 < nL)
  | .astore_n k => decide ((k : Nat) < nL)
  | .astore k => decide (k < nL)
  | .iinc k _ => decide (k < nL)
  | _ => true
/-- where it goes on -/
def my_nx (i : Instr) (pc : Nat) : Nat := match i with
  | .goto off => ((pc : Int) + off).toNat
  | i => pc + mj_ln i
def my_gk (i : Instr) (pc : Nat) : Bool := match i with
  | .goto off => decide (0 ≤ (pc : Int) + off)
  | _ => true
section MYP
variable {PT : List (String × Nat × Nat)} {MT : List (String × Nat × Bool)} {d : Nat} {TY : List FieldType} {cl : List vw_C} {cty : Nat → Nat → FieldType} {po : mj_Po} {C S : Nat} {q : mj_Mi} {i : Instr} {pc : Nat} {lv lv1 : List (Nat × my_V)} {lv' : List (Nat × Value)} {st st1 : List my_V} {n : Nat} {f : Nat → va_E} {cs ss : Nat}
theorem my_isA (o : Option Nat) : mj_isA (va_rf o) = true := by cases o <;> rfl
theorem my_pu_ok (h : my_pu i lv st = some (lv1, st1)) (hk : my_pk q.2.2.1 i = true) (hg : my_gk i pc = true) (hs : my_sub lv lv') :
    ∃ lv1', my_sub lv1 lv1' ∧ ∀ call : mj_CF, mj_step PT MT d TY cl cty po call C S q i pc lv' (st.map my_v) n f cs ss = some (.inl (my_nx i pc, lv1', st1.map my_v, n, f, cs, ss)) := by
  cases i <;> simp only [my_pu, reduceCtorEq, Option.some.injEq, Prod.mk.injEq] at h
  case iconst z => obtain ⟨rfl, rfl⟩ := h; exact ⟨lv', hs, fun _ => rfl⟩
  case bipush z =>
    obtain ⟨rfl, rfl⟩ := h
    have hk := of_decide_eq_true hk
    exact ⟨lv', hs, fun _ => by simp [mj_step, mj_sw, mj_g1a, my_nx, mj_ln, my_v, hk]⟩
  case sipush z =>
    obtain ⟨rfl, rfl⟩ := h
    have hk := of_decide_eq_true hk
    exact ⟨lv', hs, fun _ => by simp [mj_step, mj_sw, mj_g1a, my_nx, mj_ln, my_v, hk]⟩
  case lconst k => obtain ⟨rfl, rfl⟩ := h; exact ⟨lv', hs, fun _ => rfl⟩
  case aconst_null => obtain ⟨rfl, rfl⟩ := h; exact ⟨lv', hs, fun _ => rfl⟩
  case iload_n k =>
    split at h <;> simp only [reduceCtorEq, Option.some.injEq, Prod.mk.injEq] at h
    rename_i x hx
    obtain ⟨rfl, rfl⟩ := h
    have h1 := hs _ (my_get_mem hx)
    exact ⟨lv', hs, fun _ => by simp [mj_step, mj_sw, mj_g1a, mj_load, h1, my_v, mj_isI, my_nx, mj_ln]⟩
  case iload k =>
    split at h <;> simp only [reduceCtorEq, Option.some.injEq, Prod.mk.injEq] at h
    rename_i x hx
    obtain ⟨rfl, rfl⟩ := h
    have h1 := hs _ (my_get_mem hx)
    exact ⟨lv', hs, fun _ => by simp [mj_step, mj_sw, mj_g1a, mj_load, h1, my_v, mj_isI, my_nx, mj_ln]⟩
  case lload_n k =>
    split at h <;> simp only [reduceCtorEq, Option.some.injEq, Prod.mk.injEq] at h
    rename_i x hx
    obtain ⟨rfl, rfl⟩ := h
    have h1 := hs _ (my_get_mem hx)
    exact ⟨lv', hs, fun _ => by simp [mj_step, mj_sw, mj_g1a, mj_load, h1, my_v, mj_isL, my_nx, mj_ln]⟩
  case lload k =>
    split at h <;> simp only [reduceCtorEq, Option.some.injEq, Prod.mk.injEq] at h
    rename_i x hx
    obtain ⟨rfl, rfl⟩ := h
    have h1 := hs _ (my_get_mem hx)
    exact ⟨lv', hs, fun _ => by simp [mj_step, mj_sw, mj_g1a, mj_load, h1, my_v, mj_isL, my_nx, mj_ln]⟩
  case aload_n k =>
    split at h <;> simp only [reduceCtorEq, Option.some.injEq, Prod.mk.injEq] at h
    rename_i x hx
    obtain ⟨rfl, rfl⟩ := h
    have h1 := hs _ (my_get_mem hx)
    exact ⟨lv', hs, fun _ => by simp [mj_step, mj_sw, mj_g1a, mj_load, h1, my_v, my_isA, my_nx, mj_ln]⟩
  case aload k =>
    split at h <;> simp only [reduceCtorEq, Option.some.injEq, Prod.mk.injEq] at h
    rename_i x hx
    obtain ⟨rfl, rfl⟩ := h
    have h1 := hs _ (my_get_mem hx)
    exact ⟨lv', hs, fun _ => by simp [mj_step, mj_sw, mj_g1a, mj_load, h1, my_v, my_isA, my_nx, mj_ln]⟩
  case istore_n k =>
    split at h <;> simp only [reduceCtorEq, Option.some.injEq, Prod.mk.injEq] at h
    obtain ⟨rfl, rfl⟩ := h
    have hk := of_decide_eq_true hk
    exact ⟨_, my_sub_s1 hs, fun _ => by simp [mj_step, mj_sw, mj_g1a, mj_g4, mj_g1d, mj_bin, mj_binL, mj_g7, mj_g2, mj_g1b, my_v, hk, my_nx, mj_ln]⟩
  case istore k =>
    split at h <;> simp only [reduceCtorEq, Option.some.injEq, Prod.mk.injEq] at h
    obtain ⟨rfl, rfl⟩ := h
    have hk := of_decide_eq_true hk
    exact ⟨_, my_sub_s1 hs, fun _ => by simp [mj_step, mj_sw, mj_g1a, mj_g4, mj_g1d, mj_bin, mj_binL, mj_g7, mj_g2, mj_g1b, my_v, hk, my_nx, mj_ln]⟩
  case lstore_n k =>
    split at h <;> simp only [reduceCtorEq, Option.some.injEq, Prod.mk.injEq] at h
    obtain ⟨rfl, rfl⟩ := h
    have hk := of_decide_eq_true hk
    exact ⟨_, my_sub_s2 hs, fun _ => by simp [mj_step, mj_sw, mj_g1a, mj_g4, mj_g1d, mj_bin, mj_binL, mj_g7, mj_g2, mj_g1b, my_v, hk, my_nx, mj_ln]⟩
  case lstore k =>
    split at h <;> simp only [reduceCtorEq, Option.some.injEq, Prod.mk.injEq] at h
    obtain ⟨rfl, rfl⟩ := h
    have hk := of_decide_eq_true hk
    exact ⟨_, my_sub_s2 hs, fun _ => by simp [mj_step, mj_sw, mj_g1a, mj_g4, mj_g1d, mj_bin, mj_binL, mj_g7, mj_g2, mj_g1b, my_v, hk, my_nx, mj_ln]⟩
  case astore_n k =>
    split at h <;> simp only [reduceCtorEq, Option.some.injEq, Prod.mk.injEq] at h
    obtain ⟨rfl, rfl⟩ := h
    have hk := of_decide_eq_true hk
    rename_i x r
    cases x <;> exact ⟨_, my_sub_s1 hs, fun _ => by simp [mj_step, mj_sw, mj_g1a, mj_g4, mj_g1d, mj_bin, mj_binL, mj_g7, mj_g2, mj_g1b, my_v, va_rf, hk, my_nx, mj_ln]⟩
  case astore k =>
    split at h <;> simp only [reduceCtorEq, Option.some.injEq, Prod.mk.injEq] at h
    obtain ⟨rfl, rfl⟩ := h
    have hk := of_decide_eq_true hk
    rename_i x r
    cases x <;> exact ⟨_, my_sub_s1 hs, fun _ => by simp [mj_step, mj_sw, mj_g1a, mj_g4, mj_g1d, mj_bin, mj_binL, mj_g7, mj_g2, mj_g1b, my_v, va_rf, hk, my_nx, mj_ln]⟩
  case iinc k z =>
    split at h <;> simp only [reduceCtorEq, Option.some.injEq, Prod.mk.injEq] at h
    rename_i x hx
    obtain ⟨rfl, rfl⟩ := h
    have hk := of_decide_eq_true hk
    have h1 := hs _ (my_get_mem hx)
    exact ⟨_, my_sub_s1 hs, fun _ => by simp [mj_step, mj_sw, mj_g1a, mj_g4, mj_g1d, mj_bin, mj_binL, mj_g7, mj_g2, mj_g1b, h1, my_v, hk, my_nx, mj_ln]⟩
  case goto off =>
    obtain ⟨rfl, rfl⟩ := h
    have hg := of_decide_eq_true hg
    exact ⟨lv', hs, fun _ => by simp [mj_step, mj_sw, mj_g1a, mj_g4, mj_g1d, mj_tgt, hg, my_nx]⟩
  case dup =>
    split at h <;> simp only [reduceCtorEq, Option.some.injEq, Prod.mk.injEq] at h
    · obtain ⟨rfl, rfl⟩ := h
      exact ⟨lv', hs, fun _ => by simp [mj_step, mj_sw, mj_g1a, mj_g4, mj_g1d, mj_bin, mj_binL, mj_g7, mj_g2, mj_g1b, mj_g8, mj_g1c, my_v, Value.category, my_nx, mj_ln]⟩
    · obtain ⟨rfl, rfl⟩ := h
      exact ⟨lv', hs, fun _ => by simp [mj_step, mj_sw, mj_g1a, mj_g4, mj_g1d, mj_bin, mj_binL, mj_g7, mj_g2, mj_g1b, mj_g8, mj_g1c, my_v, my_v_cat, my_nx, mj_ln]⟩
  case pop =>
    split at h <;> simp only [reduceCtorEq, Option.some.injEq, Prod.mk.injEq] at h
    · obtain ⟨rfl, rfl⟩ := h
      exact ⟨lv', hs, fun _ => by simp [mj_step, mj_sw, mj_g1a, mj_g4, mj_g1d, mj_bin, mj_binL, mj_g7, mj_g2, mj_g1b, mj_g8, mj_g1c, my_v, Value.category, my_nx, mj_ln]⟩
    · obtain ⟨rfl, rfl⟩ := h
      exact ⟨lv', hs, fun _ => by simp [mj_step, mj_sw, mj_g1a, mj_g4, mj_g1d, mj_bin, mj_binL, mj_g7, mj_g2, mj_g1b, mj_g8, mj_g1c, my_v, my_v_cat, my_nx, mj_ln]⟩
  case dup2 =>
    split at h <;> simp only [reduceCtorEq, Option.some.injEq, Prod.mk.injEq] at h
    obtain ⟨rfl, rfl⟩ := h
    have c1 : ∀ y : Int32, (Value.int y).category = 1 := fun _ => rfl
    exact ⟨lv', hs, fun _ => by simp [mj_step, mj_sw, mj_g1a, mj_g4, mj_g1d, mj_bin, mj_binL, mj_g7, mj_g2, mj_g1b, mj_g8, mj_g1c, my_v, my_v_cat, c1, my_nx, mj_ln]⟩
  all_goals
    split at h <;> simp only [reduceCtorEq, Option.some.injEq, Prod.mk.injEq] at h
    obtain ⟨rfl, rfl⟩ := h
    exact ⟨lv', hs, fun _ => by simp [mj_step, mj_sw, mj_g1a, mj_g4, mj_g1d, mj_bin, mj_binL, mj_g7, mj_g2, mj_g1b, mj_g8, mj_g1c, my_v, my_nx, mj_ln]⟩
end MYP
