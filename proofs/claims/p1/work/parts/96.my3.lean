/-! ===== .. those that read and write, branch, end, call ===== -/
section MYR
variable {e : my_E} {d : Nat} {q : mj_Mi} {i : Instr} {pc pc1 : Nat} {lv lv1 : List (Nat × my_V)} {st st1 : List my_V} {κ : my_K} {σ σ1 : my_S} {Q : my_O → my_K → my_S → Prop}
theorem my_W_step (hat : mj_at q.2.2.2.2.1 pc = some i) (hs : ∀ (lv' : List (Nat × Value)) (f : Nat → va_E) (C S cs ss : Nat), my_sub lv lv' → my_rep e κ.1 f σ → (cs ≤ C ∧ ss ≤ S) → ∃ lv1' f1, my_sub lv1 lv1' ∧ my_rep e κ.1 f1 σ1 ∧ ∀ call : mj_CF, mj_step mc_PT mc_MT d mc_TY mc_cm mc_ty (mc_PO e.1 q.2.2.2.2.2.1) call C S q i pc lv' (st.map my_v) κ.1 f cs ss = some (.inl (pc1, lv1', st1.map my_v, κ.1, f1, cs, ss)))
    (h : my_W e d q pc1 lv1 st1 κ σ1 Q) : my_W e d q pc lv st κ σ Q := by
  intro lv' f C S cs ss h1 h2 h3 h4
  obtain ⟨lv1', f1, a1, a2, a3⟩ := hs lv' f C S cs ss h1 h2 h3
  obtain ⟨o, n', f', c', s', o', σ', b1, b2⟩ := h lv1' f1 C S cs ss a1 a2 h3 h4
  exact ⟨o, n', f', c', s', o', σ', mc_R.step hat a3 b1, b2⟩
theorem my_W_pure (hat : mj_at q.2.2.2.2.1 pc = some i) (hp : my_pu i lv st = some (lv1, st1)) (hk : my_pk q.2.2.1 i = true) (hg : my_gk i pc = true) (h : my_W e d q (my_nx i pc) lv1 st1 κ σ Q) : my_W e d q pc lv st κ σ Q :=
  my_W_step hat (fun lv' f C S cs ss h1 h2 _ => by
    obtain ⟨lv1', a, b⟩ := my_pu_ok (PT := mc_PT) (MT := mc_MT) (d := d) (TY := mc_TY) (cl := mc_cm) (cty := mc_ty) (po := mc_PO e.1 q.2.2.2.2.2.1) (C := C) (S := S) (q := q) (pc := pc) (n := κ.1) (f := f) (cs := cs) (ss := ss) hp hk hg h1
    exact ⟨lv1', f, a, h2, b⟩) h
/-- the same at the end -/
theorem my_W_end {o : Option my_V} (hat : mj_at q.2.2.2.2.1 pc = some i) (hs : ∀ (lv' : List (Nat × Value)) (f : Nat → va_E) (C S cs ss : Nat), ∀ call : mj_CF, mj_step mc_PT mc_MT d mc_TY mc_cm mc_ty (mc_PO e.1 q.2.2.2.2.2.1) call C S q i pc lv' (st.map my_v) κ.1 f cs ss = some (.inr (.inl (o.map my_v), κ.1, f, cs, ss))) (h : Q (.inl o) κ σ) : my_W e d q pc lv st κ σ Q := by
  intro lv' f C S cs ss h1 h2 h3 h4
  refine ⟨.inl (o.map my_v), κ.1, f, cs, ss, .inl o, σ, mc_R.ends hat (hs lv' f C S cs ss), ⟨Nat.le_refl _, h3.1, h3.2⟩, h2, rfl, ?_⟩
  rw [h4.1, h4.2]
  exact h
end MYR
def my_in (ci a : Nat) : Prop := my_lay a = some (.inl ci)
def my_ar (t z a : Nat) : Prop := my_lay a = some (.inr (t, z))
/-- what a reference means: known to be one; this one; perhaps none -/
def my_rf (m A : Nat) (o : Option Nat) (P K : Nat → Prop) : Prop := match m with
  | 0 => match o with
    | some a => P a ∧ K a
    | none => False
  | 1 => o = some A ∧ K A
  | _ => ∃ a, o = some a ∧ P a ∧ K a
theorem my_rf_ok {m A : Nat} {o : Option Nat} {P K : Nat → Prop} (h : my_rf m A o P K) (h1 : m = 1 → P A) : ∃ a, o = some a ∧ P a ∧ K a := by
  unfold my_rf at h
  split at h
  · split at h
    · exact ⟨_, rfl, h⟩
    · cases h
  · exact ⟨A, h.1, h1 rfl, h.2⟩
  · exact h
def my_bd (j : Int32) (z : Nat) : Prop := 0 ≤ j.toInt ∧ j.toInt < (z : Int)
theorem my_bd_ok {j : Int32} {z : Nat} (h : my_bd j z) : ¬ (j < 0 ∨ z ≤ j.toNatClampNeg) := by
  obtain ⟨h1, h2⟩ := h
  rintro (h3 | h3)
  · rw [Int32.lt_iff_toInt_lt] at h3
    simp at h3
    omega
  · unfold Int32.toNatClampNeg at h3
    omega
/-- the value of a field, as it is told -/
def my_fx (ty B : Nat) (σ : my_S) (a k : Nat) : my_V := match ty with
  | 0 => .inl (σ.1 a k)
  | 1 => .inr (.inl (σ.2.1 a k))
  | 2 => .inr (.inr (σ.2.2 a k))
  | 3 => .inr (.inr (some (a + B)))
  | _ => .inr (.inr (some B))
/-- .. and whether that is what it is -/
def my_fc (m A ty B : Nat) (c : Int) : Bool := match ty with
  | 0 => decide (c = -1) || decide (c = -2)
  | 1 => decide (c = -3)
  | 2 => decide (c = -4)
  | 3 => decide (c = Int.ofNat B)
  | _ => Nat.beq m 1 && match c with
    | .ofNat δ => Nat.beq (A + δ) B
    | .negSucc (k + 4) => Nat.beq (A - k) B
    | _ => false
theorem my_fc_ok {m A ty B : Nat} {c : Int} {σ : my_S} {a k : Nat} (h : my_fc m A ty B c = true) (ha : m = 1 → a = A) : my_fld c σ a k = my_v (my_fx ty B σ a k) := by
  rcases ty with _ | _ | _ | _ | ty
  · simp only [my_fc, Bool.or_eq_true, decide_eq_true_eq] at h
    rcases h with rfl | rfl <;> rfl
  · have := of_decide_eq_true h; subst this; rfl
  · have := of_decide_eq_true h; subst this; rfl
  · have := of_decide_eq_true h; subst this; rfl
  · simp only [my_fc, Bool.and_eq_true] at h
    have hm := ha (Nat.eq_of_beq_eq_true h.1)
    subst hm
    have h := h.2
    split at h
    · have := Nat.eq_of_beq_eq_true h
      subst this
      rfl
    · have := Nat.eq_of_beq_eq_true h
      subst this
      rfl
    · cases h
section MYG
variable {e : my_E} {d : Nat} {q : mj_Mi} {pc : Nat} {lv : List (Nat × my_V)} {st : List my_V} {κ : my_K} {σ : my_S} {Q : my_O → my_K → my_S → Prop} {a ci k idx t z : Nat} {c : Int} {v : my_V} {j x : Int32}
theorem my_W_get (hat : mj_at q.2.2.2.2.1 pc = some (.getfield idx)) (hp : (mc_PO e.1 q.2.2.2.2.2.1).2.1 idx = some (ci, k, t)) (hc : (my_cd ci)[k]? = some c) (hin : my_in ci a) (hv : my_fld c σ a k = my_v v) (h : my_W e d q (pc + 3) lv (v :: st) κ σ Q) : my_W e d q pc lv (.inr (.inr (some a)) :: st) κ σ Q :=
  my_W_step hat (fun lv' f C S cs ss h1 h2 _ => by
    obtain ⟨⟨a1, a2⟩, a3, a4⟩ := my_gf h2 hin hc
    refine ⟨lv', f, h1, h2, fun call => ?_⟩
    rw [hv] at a4
    simp [mj_step, mj_sw, mj_g1a, mj_g4, my_v, va_rf, a1, a2, hp, a3, a4]) h
theorem my_W_putI (hat : mj_at q.2.2.2.2.1 pc = some (.putfield idx)) (hp : (mc_PO e.1 q.2.2.2.2.2.1).2.1 idx = some (ci, k, 0)) (hc : (my_cd ci)[k]? = some c) (hk : c = -1 ∨ c = -2) (hin : my_in ci a) (hf : mj_fit (mc_ty ci k) (.int x) = true) (h : my_W e d q (pc + 3) lv st κ (my_uI σ a k x) Q) : my_W e d q pc lv (.inl x :: .inr (.inr (some a)) :: st) κ σ Q :=
  my_W_step hat (fun lv' f C S cs ss h1 h2 _ => by
    obtain ⟨⟨a1, a2⟩, a3, a4⟩ := my_gf h2 hin hc
    refine ⟨lv', _, h1, my_putI (x := x) h2 hin hc hk, fun call => ?_⟩
    have a5 : k < (my_fl σ a (my_cd ci) 0).length := (List.getElem?_eq_some_iff.mp a4).1
    simp [mj_step, mj_sw, mj_g1a, mj_g4, my_v, va_rf, a1, a2, hp, a3, a5, hf]) h
theorem my_W_putL {x : Int64} (hat : mj_at q.2.2.2.2.1 pc = some (.putfield idx)) (hp : (mc_PO e.1 q.2.2.2.2.2.1).2.1 idx = some (ci, k, 0)) (hc : (my_cd ci)[k]? = some c) (hk : c = -3) (hin : my_in ci a) (hf : mj_fit (mc_ty ci k) (.long x) = true) (h : my_W e d q (pc + 3) lv st κ (my_uL σ a k x) Q) : my_W e d q pc lv (.inr (.inl x) :: .inr (.inr (some a)) :: st) κ σ Q :=
  my_W_step hat (fun lv' f C S cs ss h1 h2 _ => by
    obtain ⟨⟨a1, a2⟩, a3, a4⟩ := my_gf h2 hin hc
    refine ⟨lv', _, h1, my_putL (x := x) h2 hin hc hk, fun call => ?_⟩
    have a5 : k < (my_fl σ a (my_cd ci) 0).length := (List.getElem?_eq_some_iff.mp a4).1
    simp [mj_step, mj_sw, mj_g1a, mj_g4, my_v, va_rf, a1, a2, hp, a3, a5, hf]) h
theorem my_W_putA {x : Option Nat} (hat : mj_at q.2.2.2.2.1 pc = some (.putfield idx)) (hp : (mc_PO e.1 q.2.2.2.2.2.1).2.1 idx = some (ci, k, 0)) (hc : (my_cd ci)[k]? = some c) (hk : c = -4) (hin : my_in ci a) (hf : mj_fit (mc_ty ci k) (va_rf x) = true) (h : my_W e d q (pc + 3) lv st κ (my_uA σ a k x) Q) : my_W e d q pc lv (.inr (.inr x) :: .inr (.inr (some a)) :: st) κ σ Q :=
  my_W_step hat (fun lv' f C S cs ss h1 h2 _ => by
    obtain ⟨⟨a1, a2⟩, a3, a4⟩ := my_gf h2 hin hc
    refine ⟨lv', _, h1, my_putA (x := x) h2 hin hc hk, fun call => ?_⟩
    have a5 : k < (my_fl σ a (my_cd ci) 0).length := (List.getElem?_eq_some_iff.mp a4).1
    have e1 : my_v (.inr (.inr (some a))) = .ref a := rfl
    simp only [List.map_cons, e1]
    simp [mj_step, mj_sw, mj_g1a, mj_g4, my_v, a1, a2, hp, a3, a5, hf]) h
theorem my_W_iald (hat : mj_at q.2.2.2.2.1 pc = some .iaload) (har : my_ar 0 z a) (hj : my_bd j z) (h : my_W e d q (pc + 1) lv (.inl (σ.1 a j.toNatClampNeg) :: st) κ σ Q) : my_W e d q pc lv (.inl j :: .inr (.inr (some a)) :: st) κ σ Q :=
  my_W_step hat (fun lv' f C S cs ss h1 h2 _ => by
    obtain ⟨⟨a1, a2⟩, a3⟩ := my_arr h2 har
    refine ⟨lv', f, h1, h2, fun call => ?_⟩
    have e1 : mj_g2 mc_TY .iaload pc κ.1 f (.int j :: .ref a :: st.map my_v) = some (pc + 1, .int (σ.1 a j.toNatClampNeg) :: st.map my_v) := by
      simp only [mj_g2, a1, a2, a3, and_self, if_true, my_ac]
      rw [if_pos (show mc_TY[0]? = some FieldType.int from rfl), if_neg (my_bd_ok hj)]
    simp [mj_step, mj_sw, mj_g1a, mj_g4, mj_g1d, mj_bin, mj_binL, mj_g7, my_v, va_rf, e1]) h
theorem my_W_bald (hat : mj_at q.2.2.2.2.1 pc = some .baload) (ht : t = 1 ∨ t = 3) (har : my_ar t z a) (hj : my_bd j z) (h : my_W e d q (pc + 1) lv (.inl (σ.1 a j.toNatClampNeg) :: st) κ σ Q) : my_W e d q pc lv (.inl j :: .inr (.inr (some a)) :: st) κ σ Q :=
  my_W_step hat (fun lv' f C S cs ss h1 h2 _ => by
    obtain ⟨⟨a1, a2⟩, a3⟩ := my_arr h2 har
    refine ⟨lv', f, h1, h2, fun call => ?_⟩
    have e1 : mj_g2 mc_TY .baload pc κ.1 f (.int j :: .ref a :: st.map my_v) = some (pc + 1, .int (σ.1 a j.toNatClampNeg) :: st.map my_v) := by
      rcases ht with rfl | rfl
      · simp only [mj_g2, a1, a2, a3, and_self, if_true, my_ac]
        rw [if_pos (Or.inl (show mc_TY[1]? = some FieldType.byte from rfl)), if_neg (my_bd_ok hj)]
      · simp only [mj_g2, a1, a2, a3, and_self, if_true, my_ac]
        rw [if_pos (Or.inr (show mc_TY[3]? = some FieldType.boolean from rfl)), if_neg (my_bd_ok hj)]
    simp [mj_step, mj_sw, mj_g1a, mj_g4, mj_g1d, mj_bin, mj_binL, mj_g7, my_v, va_rf, e1]) h
theorem my_W_lald (hat : mj_at q.2.2.2.2.1 pc = some .laload) (har : my_ar 2 z a) (hj : my_bd j z) (h : my_W e d q (pc + 1) lv (.inr (.inl (σ.2.1 a j.toNatClampNeg)) :: st) κ σ Q) : my_W e d q pc lv (.inl j :: .inr (.inr (some a)) :: st) κ σ Q :=
  my_W_step hat (fun lv' f C S cs ss h1 h2 _ => by
    obtain ⟨⟨a1, a2⟩, a3⟩ := my_arr h2 har
    refine ⟨lv', f, h1, h2, fun call => ?_⟩
    have e1 : mj_g2 mc_TY .laload pc κ.1 f (.int j :: .ref a :: st.map my_v) = some (pc + 1, .long (σ.2.1 a j.toNatClampNeg) :: st.map my_v) := by
      simp only [mj_g2, a1, a2, a3, and_self, if_true, my_ac]
      rw [if_pos (show mc_TY[2]? = some FieldType.long from rfl), if_neg (my_bd_ok hj)]
    simp [mj_step, mj_sw, mj_g1a, mj_g4, mj_g1d, mj_bin, mj_binL, mj_g7, my_v, va_rf, e1]) h
theorem my_W_aald {s : String} (hat : mj_at q.2.2.2.2.1 pc = some .aaload) (ht : 4 ≤ t) (ht2 : mc_TY[t]? = some (.object s)) (har : my_ar t z a) (hj : my_bd j z) (h : my_W e d q (pc + 1) lv (.inr (.inr (σ.2.2 a j.toNatClampNeg)) :: st) κ σ Q) : my_W e d q pc lv (.inl j :: .inr (.inr (some a)) :: st) κ σ Q :=
  my_W_step hat (fun lv' f C S cs ss h1 h2 _ => by
    obtain ⟨⟨a1, a2⟩, a3⟩ := my_arr h2 har
    refine ⟨lv', f, h1, h2, fun call => ?_⟩
    have e1 : mj_g2 mc_TY .aaload pc κ.1 f (.int j :: .ref a :: st.map my_v) = some (pc + 1, va_rf (σ.2.2 a j.toNatClampNeg) :: st.map my_v) := by
      simp only [mj_g2, a1, a2, a3, and_self, if_true, my_ac_A ht, ht2]
      rw [if_neg (my_bd_ok hj)]
    have e2 : my_v (.inr (.inr (some a))) = .ref a := rfl
    have e3 : my_v (.inl j) = .int j := rfl
    simp only [List.map_cons, e2, e3]
    simp [mj_step, mj_sw, mj_g1a, mj_g4, mj_g1d, mj_bin, mj_binL, mj_g7, e1, my_v]) h
theorem my_W_len (hat : mj_at q.2.2.2.2.1 pc = some .arraylength) (ht : (mc_TY[t]?).isSome = true) (har : my_ar t z a) (h : my_W e d q (pc + 1) lv (.inl (Int32.ofNat z) :: st) κ σ Q) : my_W e d q pc lv (.inr (.inr (some a)) :: st) κ σ Q :=
  my_W_step hat (fun lv' f C S cs ss h1 h2 _ => by
    obtain ⟨⟨a1, a2⟩, a3⟩ := my_arr h2 har
    refine ⟨lv', f, h1, h2, fun call => ?_⟩
    have e1 : mj_g2 mc_TY .arraylength pc κ.1 f (.ref a :: st.map my_v) = some (pc + 1, .int (Int32.ofNat z) :: st.map my_v) := by
      simp only [mj_g2, a1, a2, a3, and_self, if_true, ht]
    simp [mj_step, mj_sw, mj_g1a, mj_g4, mj_g1d, mj_bin, mj_binL, mj_g7, my_v, va_rf, e1]) h
theorem my_W_iast (hat : mj_at q.2.2.2.2.1 pc = some .iastore) (har : my_ar 0 z a) (hj : my_bd j z) (h : my_W e d q (pc + 1) lv st κ (my_uI σ a j.toNatClampNeg x) Q) : my_W e d q pc lv (.inl x :: .inl j :: .inr (.inr (some a)) :: st) κ σ Q :=
  my_W_step hat (fun lv' f C S cs ss h1 h2 _ => by
    obtain ⟨⟨a1, a2⟩, a3⟩ := my_arr h2 har
    refine ⟨lv', _, h1, my_astI (j := j.toNatClampNeg) (x := x) h2 har (Or.inl rfl), fun call => ?_⟩
    have e1 : mj_g3 mc_TY mc_cm .iastore pc κ.1 f (.int x :: .int j :: .ref a :: st.map my_v) = some (pc + 1, va_up f a (.inl (0, z, .inl (upd (σ.1 a) j.toNatClampNeg x))), st.map my_v) := by
      simp only [mj_g3, a1, a2, a3, and_self, if_true, my_ac]
      rw [if_pos (show mc_TY[0]? = some FieldType.int from rfl), if_neg (my_bd_ok hj)]
    simp [mj_step, mj_sw, mj_g1a, mj_g4, mj_g1d, mj_bin, mj_binL, mj_g7, mj_g2, mj_g1b, mj_g8, mj_g1c, my_v, va_rf, e1]) h
theorem my_W_bast (hat : mj_at q.2.2.2.2.1 pc = some .bastore) (har : my_ar 1 z a) (hj : my_bd j z) (h : my_W e d q (pc + 1) lv st κ (my_uI σ a j.toNatClampNeg x.toInt8.toInt32) Q) : my_W e d q pc lv (.inl x :: .inl j :: .inr (.inr (some a)) :: st) κ σ Q :=
  my_W_step hat (fun lv' f C S cs ss h1 h2 _ => by
    obtain ⟨⟨a1, a2⟩, a3⟩ := my_arr h2 har
    refine ⟨lv', _, h1, my_astI (j := j.toNatClampNeg) (x := x.toInt8.toInt32) h2 har (Or.inr (Or.inl rfl)), fun call => ?_⟩
    have e1 : mj_g3 mc_TY mc_cm .bastore pc κ.1 f (.int x :: .int j :: .ref a :: st.map my_v) = some (pc + 1, va_up f a (.inl (1, z, .inl (upd (σ.1 a) j.toNatClampNeg x.toInt8.toInt32))), st.map my_v) := by
      simp only [mj_g3, a1, a2, a3, and_self, if_true, my_ac]
      rw [if_neg (my_bd_ok hj), if_pos (show mc_TY[1]? = some FieldType.byte from rfl)]
    simp [mj_step, mj_sw, mj_g1a, mj_g4, mj_g1d, mj_bin, mj_binL, mj_g7, mj_g2, mj_g1b, mj_g8, mj_g1c, my_v, va_rf, e1]) h
theorem my_W_zast (hat : mj_at q.2.2.2.2.1 pc = some .bastore) (har : my_ar 3 z a) (hx : x = 0 ∨ x = 1) (hj : my_bd j z) (h : my_W e d q (pc + 1) lv st κ (my_uI σ a j.toNatClampNeg x) Q) : my_W e d q pc lv (.inl x :: .inl j :: .inr (.inr (some a)) :: st) κ σ Q :=
  my_W_step hat (fun lv' f C S cs ss h1 h2 _ => by
    obtain ⟨⟨a1, a2⟩, a3⟩ := my_arr h2 har
    refine ⟨lv', _, h1, my_astI (j := j.toNatClampNeg) (x := x) h2 har (Or.inr (Or.inr rfl)), fun call => ?_⟩
    have e1 : mj_g3 mc_TY mc_cm .bastore pc κ.1 f (.int x :: .int j :: .ref a :: st.map my_v) = some (pc + 1, va_up f a (.inl (3, z, .inl (upd (σ.1 a) j.toNatClampNeg x))), st.map my_v) := by
      simp only [mj_g3, a1, a2, a3, and_self, if_true, my_ac]
      rw [if_neg (my_bd_ok hj), if_neg (show ¬ mc_TY[3]? = some FieldType.byte by decide), if_pos ⟨show mc_TY[3]? = some FieldType.boolean from rfl, hx⟩]
    simp [mj_step, mj_sw, mj_g1a, mj_g4, mj_g1d, mj_bin, mj_binL, mj_g7, mj_g2, mj_g1b, mj_g8, mj_g1c, my_v, va_rf, e1]) h
theorem my_W_last {x : Int64} (hat : mj_at q.2.2.2.2.1 pc = some .lastore) (har : my_ar 2 z a) (hj : my_bd j z) (h : my_W e d q (pc + 1) lv st κ (my_uL σ a j.toNatClampNeg x) Q) : my_W e d q pc lv (.inr (.inl x) :: .inl j :: .inr (.inr (some a)) :: st) κ σ Q :=
  my_W_step hat (fun lv' f C S cs ss h1 h2 _ => by
    obtain ⟨⟨a1, a2⟩, a3⟩ := my_arr h2 har
    refine ⟨lv', _, h1, my_astL (j := j.toNatClampNeg) (x := x) h2 har, fun call => ?_⟩
    have e1 : mj_g3 mc_TY mc_cm .lastore pc κ.1 f (.long x :: .int j :: .ref a :: st.map my_v) = some (pc + 1, va_up f a (.inl (2, z, .inr (.inl (vp_updL (σ.2.1 a) j.toNatClampNeg x)))), st.map my_v) := by
      simp only [mj_g3, a1, a2, a3, and_self, if_true, my_ac]
      rw [if_pos (show mc_TY[2]? = some FieldType.long from rfl), if_neg (my_bd_ok hj)]
    simp [mj_step, mj_sw, mj_g1a, mj_g4, mj_g1d, mj_bin, mj_binL, mj_g7, mj_g2, mj_g1b, mj_g8, mj_g1c, my_v, va_rf, e1]) h
theorem my_W_aast {x : Option Nat} {r : vw_C} (hat : mj_at q.2.2.2.2.1 pc = some .aastore) (ht : 4 ≤ t) (hci : mc_cm[ci]? = some r) (ht2 : mc_TY[t]? = some (.object r.1)) (har : my_ar t z a) (hx : ∀ v, x = some v → my_in ci v) (hj : my_bd j z) (h : my_W e d q (pc + 1) lv st κ (my_uA σ a j.toNatClampNeg x) Q) : my_W e d q pc lv (.inr (.inr x) :: .inl j :: .inr (.inr (some a)) :: st) κ σ Q :=
  my_W_step hat (fun lv' f C S cs ss h1 h2 _ => by
    obtain ⟨⟨a1, a2⟩, a3⟩ := my_arr h2 har
    refine ⟨lv', _, h1, my_astA (j := j.toNatClampNeg) (x := x) h2 har ht, fun call => ?_⟩
    have e1 : mj_g3 mc_TY mc_cm .aastore pc κ.1 f (va_rf x :: .int j :: .ref a :: st.map my_v) = some (pc + 1, va_up f a (.inl (t, z, .inr (.inr (.inr (.inr (va_up (σ.2.2 a) j.toNatClampNeg x)))))), st.map my_v) := by
      cases x with
      | none =>
        simp only [va_rf, mj_g3, a1, a2, a3, and_self, if_true, my_ac_A ht, ht2]
        rw [if_neg (my_bd_ok hj)]
      | some v =>
        have hv := hx v rfl
        have b1 := my_lay_ge hv
        have b2 := h2.1.2 v _ hv
        have b3 := h2.2.1 v _ hv
        simp only [va_rf, mj_g3, a1, a2, a3, b1, b2, b3, and_self, if_true, my_ac_A ht, ht2, my_cell, hci]
        rw [if_neg (my_bd_ok hj)]
    have e2 : my_v (.inr (.inr (some a))) = .ref a := rfl
    have e3 : my_v (.inr (.inr x)) = va_rf x := rfl
    simp only [List.map_cons, e2, e3]
    cases x <;> simp only [va_rf] at e1 <;> simp [mj_step, mj_sw, mj_g1a, mj_g4, mj_g1d, mj_bin, mj_binL, mj_g7, mj_g2, mj_g1b, mj_g8, mj_g1c, my_v, va_rf, e1]) h
end MYG
