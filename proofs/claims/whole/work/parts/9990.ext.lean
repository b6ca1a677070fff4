/-! ===== blocks that look at things outside: strings and their bytes ===== -/
def my_xb (k : Nat) : Option (Nat × List Int32) := match k with
  | 28 => some (94, mc_b0)
  | 29 => some (19, mc_b1)
  | 30 => some (160, mc_b2)
  | _ => none
def my_xs (k : Nat) : Option Nat := match k with
  | 1 => some 28
  | 2 => some 29
  | 13 => some 30
  | _ => none
theorem my_xb_ok {e : my_E} {k z : Nat} {l : List Int32} (h : my_xb k = some (z, l)) : mc_fx e.2.1 e.2.2 k = .inl (1, z, .inl fun j => l.getD j 0) ∧ k < 32 := by
  unfold my_xb at h
  split at h <;> first | (cases h; exact ⟨rfl, by omega⟩) | cases h
theorem my_xs_ok {e : my_E} {k b : Nat} (h : my_xs k = some b) : mc_fx e.2.1 e.2.2 k = .inr (18, [.ref b, .int 0]) ∧ k < 32 := by
  unfold my_xs at h
  split at h <;> first | (cases h; exact ⟨rfl, by omega⟩) | cases h
def my_e2 (e : my_E) (d : Nat) (q : mj_Mi) (Q : my_O → my_K → my_S → Prop) (i : Instr) (x : List (List Nat)) (lv : List (Nat × my_V)) (st : List my_V) (κ : my_K) (σ : my_S) (K : List my_V → my_S → Prop) : Prop := match i, x with
  | .ldc _, [[k, _]] => K (.inr (.inr (some k)) :: st) σ
  | .getfield _, [[A, B, j]] => match st with
    | .inr (.inr o) :: r => o = some A ∧ K ((bif Nat.beq j 0 then .inr (.inr (some B)) else .inl 0) :: r) σ
    | _ => False
  | .baload, [[A]] => match st, my_xb A with
    | .inl j :: .inr (.inr o) :: r, some (z, l) => o = some A ∧ my_bd j z ∧ K (.inl (l.getD j.toNatClampNeg 0) :: r) σ
    | _, _ => False
  | .arraylength, [[A, _]] => match st, my_xb A with
    | .inr (.inr o) :: r, some (z, _) => o = some A ∧ K (.inl (Int32.ofNat z) :: r) σ
    | _, _ => False
  | .getstatic _, [[1, 1]] => K (.inl 1 :: st) σ
  | .invokevirtual _, [mi, np, rk, A] :: lf :: hs => Nat.ble np st.length = true ∧ match st.drop np with
    | .inr (.inr o) :: r => Nat.ble (my_wt r) 24 = true ∧ o = some A ∧ my_iv e d q Q rk mi (.inr (.inr (some A)) :: (st.take np).reverse) r lf hs lv κ σ
    | _ => False
  | .ireturn, [[2, t]] => match st with
    | [.inl v] => ((bif Nat.beq t 0 then (v : Int32).toInt8.toInt32 else ((v : Int32).toUInt32 % 65536).toInt32) = v) ∧ Q (.inl (some (.inl v))) κ σ
    | _ => False
  | i, x => my_ef e d q Q i x lv st κ σ K
def my_b2 (e : my_E) (d : Nat) (q : mj_Mi) (Q : my_O → my_K → my_S → Prop) : List (Instr × List (List Nat)) → List (Nat × my_V) → List my_V → my_K → my_S → Prop
  | [], _, _, _, _ => False
  | (.nop, x) :: _, lv, st, κ, σ => my_lf e d q Q (match x with | [y] => y | _ => []) lv st κ σ
  | (i, x) :: r, lv, st, κ, σ => match my_pu i lv st with
    | some (lv1, st1) => my_b2 e d q Q r lv1 st1 κ σ
    | none => my_e2 e d q Q i x lv st κ σ (fun st' σ' => my_b2 e d q Q r lv st' κ σ')
def my_c2 (q : mj_Mi) (i : Instr) (x : List (List Nat)) (pc : Nat) : Bool := match i, x with
  | .ldc idx, [[k, _]] => decide ((mc_PO .null q.2.2.2.2.2.1).2.2.2.2.1 idx = none) && decide ((mc_PO .null q.2.2.2.2.2.1).2.2.2.2.2.2.2.1 idx = some k)
  | .getfield idx, [[A, B, j]] => decide ((mc_PO .null q.2.2.2.2.2.1).2.2.2.2.2.2.2.2.2.2 idx = some j) && decide (my_xs A = some B) && decide (j < 2)
  | .baload, [[_]] => true
  | .arraylength, [[_, _]] => true
  | .getstatic idx, [[1, 1]] => decide (idx = 38) && decide (q.2.2.2.2.2.1 = 15)
  | .invokevirtual idx, [mi, np, _, A] :: lf :: hs => decide ((mc_PO .null q.2.2.2.2.2.1).2.2.2.2.2.2.1 idx = some (1, mi, np, 18)) && decide (my_h0 lf = pc + 3) && my_hk q pc hs && (my_xs A).isSome
  | .ireturn, [[2, t]] => decide (q.2.2.2.1 = some (bif Nat.beq t 0 then .byte else .char))
  | i, x => my_c1 q i x pc
def my_ck2 (q : mj_Mi) : List (Instr × List (List Nat)) → Nat → Bool
  | [], _ => true
  | (.nop, x) :: _, pc => match x with
    | [y] => decide (my_h0 y = pc)
    | _ => false
  | (i, x) :: r, pc => decide (mj_at q.2.2.2.2.1 pc = some i) && my_c2 q i x pc && my_ck2 q r (my_nx i pc)
theorem my_ppe_0 (fv : Value) : (mq_0 fv).2.2.2.2.2.2.2.2.2.2 = (mq_0 .null).2.2.2.2.2.2.2.2.2.2 := rfl
theorem my_ppe_1 (fv : Value) : (mq_1 fv).2.2.2.2.2.2.2.2.2.2 = (mq_1 .null).2.2.2.2.2.2.2.2.2.2 := rfl
theorem my_ppe_2 (fv : Value) : (mq_2 fv).2.2.2.2.2.2.2.2.2.2 = (mq_2 .null).2.2.2.2.2.2.2.2.2.2 := rfl
theorem my_ppe_3 (fv : Value) : (mq_3 fv).2.2.2.2.2.2.2.2.2.2 = (mq_3 .null).2.2.2.2.2.2.2.2.2.2 := rfl
theorem my_ppe_4 (fv : Value) : (mq_4 fv).2.2.2.2.2.2.2.2.2.2 = (mq_4 .null).2.2.2.2.2.2.2.2.2.2 := rfl
theorem my_ppe_5 (fv : Value) : (mq_5 fv).2.2.2.2.2.2.2.2.2.2 = (mq_5 .null).2.2.2.2.2.2.2.2.2.2 := rfl
theorem my_ppe_6 (fv : Value) : (mq_6 fv).2.2.2.2.2.2.2.2.2.2 = (mq_6 .null).2.2.2.2.2.2.2.2.2.2 := rfl
theorem my_ppe_7 (fv : Value) : (mq_7 fv).2.2.2.2.2.2.2.2.2.2 = (mq_7 .null).2.2.2.2.2.2.2.2.2.2 := rfl
theorem my_ppe_8 (fv : Value) : (mq_8 fv).2.2.2.2.2.2.2.2.2.2 = (mq_8 .null).2.2.2.2.2.2.2.2.2.2 := rfl
theorem my_ppe_9 (fv : Value) : (mq_9 fv).2.2.2.2.2.2.2.2.2.2 = (mq_9 .null).2.2.2.2.2.2.2.2.2.2 := rfl
theorem my_ppe_10 (fv : Value) : (mq_10 fv).2.2.2.2.2.2.2.2.2.2 = (mq_10 .null).2.2.2.2.2.2.2.2.2.2 := rfl
theorem my_ppe_11 (fv : Value) : (mq_11 fv).2.2.2.2.2.2.2.2.2.2 = (mq_11 .null).2.2.2.2.2.2.2.2.2.2 := rfl
theorem my_ppe_12 (fv : Value) : (mq_12 fv).2.2.2.2.2.2.2.2.2.2 = (mq_12 .null).2.2.2.2.2.2.2.2.2.2 := rfl
theorem my_ppe_13 (fv : Value) : (mq_13 fv).2.2.2.2.2.2.2.2.2.2 = (mq_13 .null).2.2.2.2.2.2.2.2.2.2 := rfl
theorem my_ppe_14 (fv : Value) : (mq_14 fv).2.2.2.2.2.2.2.2.2.2 = (mq_14 .null).2.2.2.2.2.2.2.2.2.2 := rfl
theorem my_ppe_15 (fv : Value) : (mq_15 fv).2.2.2.2.2.2.2.2.2.2 = (mq_15 .null).2.2.2.2.2.2.2.2.2.2 := rfl
theorem my_ppe_16 (fv : Value) : (mq_16 fv).2.2.2.2.2.2.2.2.2.2 = (mq_16 .null).2.2.2.2.2.2.2.2.2.2 := rfl
theorem my_ppe_17 (fv : Value) : (mq_17 fv).2.2.2.2.2.2.2.2.2.2 = (mq_17 .null).2.2.2.2.2.2.2.2.2.2 := rfl
theorem my_ppe (fv : Value) : ∀ k : Nat, (mc_PO fv k).2.2.2.2.2.2.2.2.2.2 = (mc_PO .null k).2.2.2.2.2.2.2.2.2.2
  | 0 => my_ppe_0 fv
  | 1 => my_ppe_1 fv
  | 2 => my_ppe_2 fv
  | 3 => my_ppe_3 fv
  | 4 => my_ppe_4 fv
  | 5 => my_ppe_5 fv
  | 6 => my_ppe_6 fv
  | 7 => my_ppe_7 fv
  | 8 => my_ppe_8 fv
  | 9 => my_ppe_9 fv
  | 10 => my_ppe_10 fv
  | 11 => my_ppe_11 fv
  | 12 => my_ppe_12 fv
  | 13 => my_ppe_13 fv
  | 14 => my_ppe_14 fv
  | 15 => my_ppe_15 fv
  | 16 => my_ppe_16 fv
  | 17 => my_ppe_17 fv
  | k + 18 => my_ppe_0 fv
theorem my_p38 (fv : Value) : (mq_15 fv).2.2.2.2.2.2.2.2.1 38 = some (.int 1) := rfl
section MYE2
variable {e : my_E} {d : Nat} {q : mj_Mi} {i : Instr} {x : List (List Nat)} {pc : Nat} {lv : List (Nat × my_V)} {st : List my_V} {κ : my_K} {σ : my_S} {Q : my_O → my_K → my_S → Prop} {K : List my_V → my_S → Prop}
theorem my_W_ldcs {idx k : Nat} (hat : mj_at q.2.2.2.2.1 pc = some (.ldc idx)) (h1 : (mc_PO e.1 q.2.2.2.2.2.1).2.2.2.2.1 idx = none) (h2 : (mc_PO e.1 q.2.2.2.2.2.1).2.2.2.2.2.2.2.1 idx = some k) (h : my_W e d q (pc + 2) lv (.inr (.inr (some k)) :: st) κ σ Q) : my_W e d q pc lv st κ σ Q :=
  my_W_step hat (fun lv' f C S cs ss a b _ => ⟨lv', f, a, b, fun call => by simp [mj_step, mj_sw, mj_g1a, mj_g4, mj_g1d, mj_bin, mj_binL, mj_g7, mj_g2, mj_g1b, mj_g8, mj_g1c, mj_g3, mj_g6, mj_gt, mj_g5, mj_g9, mj_gx, my_v, va_rf, h1, h2]⟩) h
theorem my_W_xget {idx A B j : Nat} {v : my_V} (hat : mj_at q.2.2.2.2.1 pc = some (.getfield idx)) (h1 : (mc_PO e.1 q.2.2.2.2.2.1).2.2.2.2.2.2.2.2.2.2 idx = some j) (h2 : my_xs A = some B) (h3 : ([Value.ref B, Value.int 0] : List Value)[j]? = some (my_v v)) (h : my_W e d q (pc + 3) lv (v :: st) κ σ Q) : my_W e d q pc lv (.inr (.inr (some A)) :: st) κ σ Q :=
  my_W_step hat (fun lv' f C S cs ss a b _ => by
    obtain ⟨g1, g2⟩ := my_xs_ok (e := e) h2
    have g3 := b.2.2 A g2
    rw [g1] at g3
    refine ⟨lv', f, a, b, fun call => ?_⟩
    have e2 : ¬ 32 ≤ A := by omega
    simp [mj_step, mj_sw, mj_g1a, mj_g4, e2, mj_g1d, mj_bin, mj_binL, mj_g7, mj_g2, mj_g1b, mj_g8, mj_g1c, mj_g3, mj_g6, mj_gt, mj_g5, mj_g9, mj_gx, my_v, va_rf, h1, g2, g3, h3]) h
theorem my_W_xbald {A z : Nat} {l : List Int32} {j : Int32} (hat : mj_at q.2.2.2.2.1 pc = some .baload) (hA : my_xb A = some (z, l)) (hj : my_bd j z) (h : my_W e d q (pc + 1) lv (.inl (l.getD j.toNatClampNeg 0) :: st) κ σ Q) : my_W e d q pc lv (.inl j :: .inr (.inr (some A)) :: st) κ σ Q :=
  my_W_step hat (fun lv' f C S cs ss h1 h2 _ => by
    obtain ⟨g1, g2⟩ := my_xb_ok (e := e) hA
    have a3 := h2.2.2 A g2
    rw [g1] at a3
    refine ⟨lv', f, h1, h2, fun call => ?_⟩
    have e1 : mj_gx mc_TY (mc_PO e.1 q.2.2.2.2.2.1).2.2.2.2.2.2.2.1 (mc_PO e.1 q.2.2.2.2.2.1).2.2.2.2.2.2.2.2.1 (mc_PO e.1 q.2.2.2.2.2.1).2.2.2.2.2.2.2.2.2.2 .baload pc f (.int j :: .ref A :: st.map my_v) = some (pc + 1, .int (l.getD j.toNatClampNeg 0) :: st.map my_v) := by
      simp only [mj_gx, g2, a3, if_true]
      rw [if_pos (show mc_TY[1]? = some FieldType.byte from rfl), if_neg (my_bd_ok hj)]
    have e2 : ¬ 32 ≤ A := by omega
    simp [mj_step, mj_sw, mj_g1a, mj_g4, mj_g1d, mj_bin, mj_binL, mj_g7, mj_g2, e2, mj_g1b, mj_g8, mj_g1c, mj_g3, mj_g6, mj_gt, mj_g5, mj_g9, my_v, va_rf, e1]) h
theorem my_W_xlen {A z : Nat} {l : List Int32} (hat : mj_at q.2.2.2.2.1 pc = some .arraylength) (hA : my_xb A = some (z, l)) (h : my_W e d q (pc + 1) lv (.inl (Int32.ofNat z) :: st) κ σ Q) : my_W e d q pc lv (.inr (.inr (some A)) :: st) κ σ Q :=
  my_W_step hat (fun lv' f C S cs ss h1 h2 _ => by
    obtain ⟨g1, g2⟩ := my_xb_ok (e := e) hA
    have a3 := h2.2.2 A g2
    rw [g1] at a3
    refine ⟨lv', f, h1, h2, fun call => ?_⟩
    have e1 : mj_gx mc_TY (mc_PO e.1 q.2.2.2.2.2.1).2.2.2.2.2.2.2.1 (mc_PO e.1 q.2.2.2.2.2.1).2.2.2.2.2.2.2.2.1 (mc_PO e.1 q.2.2.2.2.2.1).2.2.2.2.2.2.2.2.2.2 .arraylength pc f (.ref A :: st.map my_v) = some (pc + 1, .int (Int32.ofNat z) :: st.map my_v) := by
      simp only [mj_gx, g2, a3, if_true]
      rw [if_pos (show (mc_TY[1]?).isSome = true from rfl)]
    have e2 : ¬ 32 ≤ A := by omega
    simp [mj_step, mj_sw, mj_g1a, mj_g4, mj_g1d, mj_bin, mj_binL, mj_g7, mj_g2, e2, mj_g1b, mj_g8, mj_g1c, mj_g3, mj_g6, mj_gt, mj_g5, mj_g9, my_v, va_rf, e1]) h
theorem my_W_gsi {idx : Nat} {v : Int32} (hat : mj_at q.2.2.2.2.1 pc = some (.getstatic idx)) (hp : (mc_PO e.1 q.2.2.2.2.2.1).2.2.2.2.2.2.2.2.1 idx = some (.int v)) (h : my_W e d q (pc + 3) lv (.inl v :: st) κ σ Q) : my_W e d q pc lv st κ σ Q :=
  my_W_step hat (fun lv' f C S cs ss h1 h2 _ => ⟨lv', f, h1, h2, fun call => by simp [mj_step, mj_sw, mj_g1a, mj_g4, mj_g1d, mj_bin, mj_binL, mj_g7, mj_g2, mj_g1b, mj_g8, mj_g1c, mj_g3, mj_g6, mj_gt, mj_g5, mj_g9, mj_gx, my_v, va_rf, hp]⟩) h
theorem my_e2_ok (hp : my_pu i lv st = none) (hat : mj_at q.2.2.2.2.1 pc = some i) (hc : my_c2 q i x pc = true) (hK : ∀ st' σ', K st' σ' → my_W e d q (my_nx i pc) lv st' κ σ' Q) (h : my_e2 e d q Q i x lv st κ σ K) : my_W e d q pc lv st κ σ Q := by
  unfold my_e2 at h
  split at h
  · rename_i idx k k2
    simp only [my_c2, Bool.and_eq_true, decide_eq_true_eq] at hc
    exact my_W_ldcs hat (by rw [(my_po e.1 q.2.2.2.2.2.1).2.2.2.1]; exact hc.1) (by rw [(my_po e.1 q.2.2.2.2.2.1).2.2.2.2.2.2.1]; exact hc.2) (hK _ _ h)
  · rename_i idx A B j
    simp only [my_c2, Bool.and_eq_true, decide_eq_true_eq] at hc
    obtain ⟨⟨c1, c2⟩, c3⟩ := hc
    split at h
    · rename_i o r
      obtain ⟨rfl, h⟩ := h
      refine my_W_xget hat (by rw [my_ppe]; exact c1) c2 ?_ (hK _ _ h)
      have : j = 0 ∨ j = 1 := by omega
      rcases this with rfl | rfl <;> rfl
    · cases h
  · split at h
    · rename_i j o r z l hA
      obtain ⟨rfl, hj, h⟩ := h
      exact my_W_xbald hat hA hj (hK _ _ h)
    · cases h
  · split at h
    · rename_i o r z l hA
      obtain ⟨rfl, h⟩ := h
      exact my_W_xlen hat hA (hK _ _ h)
    · cases h
  · rename_i idx
    simp only [my_c2, Bool.and_eq_true, decide_eq_true_eq] at hc
    obtain ⟨rfl, c2⟩ := hc
    exact my_W_gsi hat (by rw [c2]; exact my_p38 e.1) (hK _ _ h)
  · rename_i idx mi np rk A lf hs
    simp only [my_c2, Bool.and_eq_true] at hc
    obtain ⟨⟨⟨c1, c2⟩, c3⟩, c4⟩ := hc
    have c1 := of_decide_eq_true c1
    have c2 := of_decide_eq_true c2
    obtain ⟨B, hB⟩ := Option.isSome_iff_exists.mp c4
    obtain ⟨h1, h⟩ := h
    split at h
    · rename_i o r hd
      obtain ⟨h2, rfl, b2⟩ := h
      obtain ⟨Qc, p1, p2, p3⟩ := my_iv_ok b2
      rw [← (my_po e.1 q.2.2.2.2.2.1).2.2.2.2.2.1] at c1
      obtain ⟨g1, g2⟩ := my_xs_ok (e := e) hB
      refine my_W_inv (r := r) hat (fun lv' f C S cs ss hr hb call r0 hn hcall => by
        have g3 := hr.2.2 A g2
        rw [g1] at g3
        have g4 : A < κ.1 := Nat.lt_of_lt_of_le g2 hr.1.1
        rcases r0 with ⟨v | x, n', f', c', s'⟩ <;> exact my_st_virtual c1 (Nat.le_of_ble_eq_true h1) hd (Nat.le_of_ble_eq_true h2) g4 g3 hb call _ hn hcall) p1 (fun v κ' σ' hv => ?_) (fun a b κ' σ' hv => my_ex_ok c3 (p3 a b κ' σ' hv))
      rw [← c2]
      exact p2 v κ' σ' hv
    · cases h
  · rename_i t
    simp only [my_c2] at hc
    have hc := of_decide_eq_true hc
    split at h
    · rename_i v
      refine my_W_ireturn hat hc ?_ h.2
      have h1 := h.1
      cases ht : Nat.beq t 0 with
      | true => rw [ht] at h1; simp only [cond_true] at h1; simp [mj_fit, h1]
      | false => rw [ht] at h1; simp only [cond_false] at h1; simp only [cond_false, mj_fit, decide_eq_true_eq]; exact h1
    · cases h
  · rename_i n1 n2 n3 n4 n5 n6 n7
    refine my_ef_ok hp hat ?_ hK h
    unfold my_c2 at hc
    split at hc
    · exact absurd rfl (n1 _ _ _ rfl)
    · exact absurd rfl (n2 _ _ _ _ rfl)
    · exact absurd rfl (n3 _ rfl)
    · exact absurd rfl (n4 _ _ rfl)
    · exact absurd rfl (n5 _ rfl)
    · exact absurd rfl (n6 _ _ _ _ _ _ _ rfl)
    · exact absurd rfl (n7 _ rfl)
    · exact hc
end MYE2
theorem my_b2_ok {e : my_E} {d : Nat} {q : mj_Mi} {Q : my_O → my_K → my_S → Prop} : ∀ {ops : List (Instr × List (List Nat))} {pc : Nat} {lv : List (Nat × my_V)} {st : List my_V} {κ : my_K} {σ : my_S}, my_ck2 q ops pc = true → my_b2 e d q Q ops lv st κ σ → my_W e d q pc lv st κ σ Q
  | [], _, _, _, _, _, _, h => by simp [my_b2] at h
  | (i, x) :: r, pc, lv, st, κ, σ, hc, h => by
    by_cases hn : i = .nop
    · subst hn
      simp only [my_ck2] at hc
      simp only [my_b2] at h
      split at hc
      · have := of_decide_eq_true hc
        subst this
        exact my_lf_ok h
      · cases hc
    · rw [my_ck2] at hc
      · simp only [Bool.and_eq_true] at hc
        obtain ⟨⟨c1, c2⟩, c3⟩ := hc
        have c1 := of_decide_eq_true c1
        rw [my_b2] at h
        · cases hp : my_pu i lv st with
          | some w =>
            obtain ⟨lv1, st1⟩ := w
            rw [hp] at h
            have c4 : my_c1 q i x pc = true := by
              cases i <;> first | (simp only [my_pu, reduceCtorEq] at hp; done) | exact c2 | (simp only [my_c2] at c2; exact c2)
            obtain ⟨k1, k2⟩ := my_pu_ck hp c4
            exact my_W_pure c1 hp k1 k2 (my_b2_ok c3 h)
          | none =>
            rw [hp] at h
            exact my_e2_ok hp c1 c2 (fun st' σ' hk => my_b2_ok c3 hk) h
        · exact hn
      · exact hn
