/-! ===== .. and soundness ===== -/
section MYB
variable {e : my_E} {d : Nat} {q : mj_Mi} {i : Instr} {x : List (List Nat)} {pc : Nat} {lv : List (Nat × my_V)} {st : List my_V} {κ : my_K} {σ : my_S} {Q : my_O → my_K → my_S → Prop} {K : List my_V → my_S → Prop}
theorem my_tgt {pc t : Nat} {off : Int} (h : (pc : Int) + off = (t : Int)) : mj_tgt pc off = some t := by
  unfold mj_tgt
  rw [h, if_pos (by omega)]
  simp
theorem my_hs_ok {y : Nat × Nat} {px : Nat → Option Nat} {hl : List (Nat × Nat × Nat × Nat)} : ∀ {hs : List (List Nat)}, my_hs e d q Q lv y κ σ hs → hs.all (fun row => match row with | ci :: hp :: _ => decide (mj_hd px pc ci hl = some hp) | [] => true | _ => false) = true → ∃ hp, mj_hd px pc y.2 hl = some hp ∧ my_W e d q hp lv [.inr (.inr (some y.1))] κ σ Q
  | [], h, _ => by cases h
  | [] :: _, h, _ => by cases h
  | (ci :: x) :: r, h, hk => by
    simp only [List.all_cons, Bool.and_eq_true] at hk
    simp only [my_hs] at h
    split at h
    · rename_i e1
      cases x with
      | nil => simp at hk
      | cons hp l =>
        have hk1 := of_decide_eq_true hk.1
        exact ⟨hp, by rw [e1]; exact hk1, my_lf_ok h⟩
    · exact my_hs_ok h hk.2
theorem my_ex_ok {hs : List (List Nat)} (hk : my_hk q pc hs = true) {a b : Nat} {κ' : my_K} {σ' : my_S} (h : my_ex e d q Q lv hs (a, b) κ' σ') : (q.2.2.2.2.2.2.2 = [] ∧ Q (.inr (a, b)) κ' σ') ∨ ∃ (h0 : Nat × Nat × Nat × Nat) (hl : List (Nat × Nat × Nat × Nat)) (hp : Nat), q.2.2.2.2.2.2.2 = h0 :: hl ∧ mj_hd (mc_PO e.1 q.2.2.2.2.2.1).2.2.2.2.2.2.2.2.2.1 pc b (h0 :: hl) = some hp ∧ my_W e d q hp lv [.inr (.inr (some a))] κ' σ' Q := by
  cases hs with
  | nil => exact Or.inl ⟨List.isEmpty_iff.mp hk, h⟩
  | cons h0 t =>
    simp only [my_hk, Bool.and_eq_true, Bool.not_eq_true'] at hk
    obtain ⟨k1, k2⟩ := hk
    cases hq : q.2.2.2.2.2.2.2 with
    | nil => rw [hq] at k1; cases k1
    | cons g0 gl =>
      rw [hq] at k2
      obtain ⟨hp, p1, p2⟩ := my_hs_ok (y := (a, b)) (px := (mc_PO .null q.2.2.2.2.2.1).2.2.2.2.2.2.2.2.2.1) h k2
      rw [← (my_po e.1 q.2.2.2.2.2.1).2.2.2.2.2.2.2] at p1
      exact Or.inr ⟨g0, gl, hp, rfl, p1, p2⟩
/-- a call: what the block says of it -/
theorem my_iv_ok {rk mi : Nat} {av r : List my_V} {lf : List Nat} {hs : List (List Nat)} (h : my_iv e d q Q rk mi av r lf hs lv κ σ) : ∃ Qc, my_M e d mi av κ σ Qc ∧ (∀ v κ' σ', Qc (.inl v) κ' σ' → my_W e d q (my_h0 lf) lv (v.toList ++ r) κ' σ' Q) ∧ ∀ a b κ' σ', Qc (.inr (a, b)) κ' σ' → my_ex e d q Q lv hs (a, b) κ' σ' := by
  rcases rk with _ | _ | _ | rk
  · refine ⟨_, h, fun v κ' σ' hv => ?_, fun a b κ' σ' hv => hv⟩
    rcases v with _ | (v | v | v) <;> first | cases hv | exact my_lf_ok hv
  · refine ⟨_, h, fun v κ' σ' hv => ?_, fun a b κ' σ' hv => hv⟩
    rcases v with _ | (v | v | v) <;> first | (exact my_lf_ok hv) | cases hv
  · refine ⟨_, h, fun v κ' σ' hv => ?_, fun a b κ' σ' hv => hv⟩
    rcases v with _ | (v | v | v) <;> first | (exact my_lf_ok hv) | cases hv
  · refine ⟨_, h, fun v κ' σ' hv => ?_, fun a b κ' σ' hv => hv⟩
    rcases v with _ | (v | v | v) <;> first | (exact my_lf_ok hv) | cases hv
theorem my_ef_get {idx : Nat} (hat : mj_at q.2.2.2.2.1 pc = some (.getfield idx)) (hc : my_c1 q (.getfield idx) x pc = true) (hK : ∀ st' σ', K st' σ' → my_W e d q (pc + 3) lv st' κ σ' Q) (h : my_ef e d q Q (.getfield idx) x lv st κ σ K) : my_W e d q pc lv st κ σ Q := by
  simp only [my_ef] at h
  split at h
  · rename_i m A ci k ty B o r
    simp only [my_c1, Bool.and_eq_true] at hc
    obtain ⟨⟨c1, c2⟩, c3⟩ := hc
    split at c1
    · rename_i ci' k' t' hp
      simp only [Bool.and_eq_true] at c1
      have e1 := Nat.eq_of_beq_eq_true c1.1
      have e2 := Nat.eq_of_beq_eq_true c1.2
      subst e1; subst e2
      split at c2
      · rename_i c hcd
        obtain ⟨a, rfl, a1, a2⟩ : ∃ a, o = some a ∧ (my_in ci' a ∧ (m = 1 → a = A)) ∧ K (my_fx ty B σ a k' :: r) σ := by
          unfold my_rf at h
          split at h
          · split at h
            · exact ⟨_, rfl, ⟨h.1, fun e => by cases e⟩, h.2⟩
            · cases h
          · exact ⟨A, h.1, ⟨my_lit_ok c3 rfl, fun _ => rfl⟩, h.2⟩
          · rename_i m1 m2 m3
            obtain ⟨a, b1, b2, b3⟩ := h
            exact ⟨a, b1, ⟨b2, fun e => absurd e m3⟩, b3⟩
        rw [← (my_po e.1 q.2.2.2.2.2.1).2.1] at hp
        exact my_W_get hat hp hcd a1.1 (my_fc_ok c2 a1.2) (hK _ _ a2)
      · cases c2
    · cases c1
  · cases h
theorem my_ef_put {idx : Nat} (hat : mj_at q.2.2.2.2.1 pc = some (.putfield idx)) (hc : my_c1 q (.putfield idx) x pc = true) (hK : ∀ st' σ', K st' σ' → my_W e d q (pc + 3) lv st' κ σ' Q) (h : my_ef e d q Q (.putfield idx) x lv st κ σ K) : my_W e d q pc lv st κ σ Q := by
  simp only [my_ef] at h
  have hpp : ∀ {m A ci k ty : Nat}, my_c1 q (.putfield idx) [[m, A, ci, k, ty]] pc = true → (mc_PO e.1 q.2.2.2.2.2.1).2.1 idx = some (ci, k, 0) ∧ (∃ c, (my_cd ci)[k]? = some c ∧ my_pc ty c (mc_ty ci k) = true) ∧ (m = 1 → my_in ci A) := by
    intro m A ci k ty hc
    simp only [my_c1, Bool.and_eq_true] at hc
    obtain ⟨⟨c1, c2⟩, c3⟩ := hc
    refine ⟨by rw [(my_po e.1 q.2.2.2.2.2.1).2.1]; exact of_decide_eq_true c1, ?_, fun hm => my_lit_ok c3 hm⟩
    split at c2
    · exact ⟨_, by assumption, c2⟩
    · cases c2
  split at h
  · obtain ⟨p1, ⟨c, p2, p3⟩, p4⟩ := hpp hc
    obtain ⟨a, rfl, b1, b2⟩ := my_rf_ok h p4
    simp only [my_pc, Bool.and_eq_true, decide_eq_true_eq] at p3
    exact my_W_putI hat p1 p2 (Or.inl p3.1) b1 (by rw [p3.2]; rfl) (hK _ _ b2)
  · obtain ⟨p1, ⟨c, p2, p3⟩, p4⟩ := hpp hc
    obtain ⟨hv, h⟩ := h
    obtain ⟨a, rfl, b1, b2⟩ := my_rf_ok h p4
    simp only [my_pc, Bool.and_eq_true, decide_eq_true_eq] at p3
    exact my_W_putI hat p1 p2 (Or.inr p3.1) b1 (by rw [p3.2]; simpa [mj_fit] using hv) (hK _ _ b2)
  · obtain ⟨p1, ⟨c, p2, p3⟩, p4⟩ := hpp hc
    obtain ⟨a, rfl, b1, b2⟩ := my_rf_ok h p4
    simp only [my_pc, Bool.and_eq_true, decide_eq_true_eq] at p3
    exact my_W_putL hat p1 p2 p3.1 b1 (by rw [p3.2]; rfl) (hK _ _ b2)
  · rename_i m A ci k v o r
    obtain ⟨p1, ⟨c, p2, p3⟩, p4⟩ := hpp hc
    obtain ⟨a, rfl, b1, b2⟩ := my_rf_ok h p4
    simp only [my_pc, Bool.and_eq_true, decide_eq_true_eq] at p3
    refine my_W_putA hat p1 p2 p3.1 b1 ?_ (hK _ _ b2)
    have p5 := p3.2
    split at p5
    · rename_i s hs
      rw [hs]
      cases v <;> rfl
    · cases p5
  · cases h
theorem my_W_eald {k z : Nat} {g : Nat → Int32} {j : Int32} {r : List my_V} (hk : k < 32) (hat : mj_at q.2.2.2.2.1 pc = some .iaload) (hf : mc_fx e.2.1 e.2.2 k = .inl (0, z, .inl g)) (hj : my_bd j z) (h : my_W e d q (pc + 1) lv (.inl (g j.toNatClampNeg) :: r) κ σ Q) : my_W e d q pc lv (.inl j :: .inr (.inr (some k)) :: r) κ σ Q :=
  my_W_step hat (fun lv' f C S cs ss h1 h2 _ => by
    have a3 := h2.2.2 k hk
    rw [hf] at a3
    refine ⟨lv', f, h1, h2, fun call => ?_⟩
    have e1 : mj_gx mc_TY (mc_PO e.1 q.2.2.2.2.2.1).2.2.2.2.2.2.2.1 (mc_PO e.1 q.2.2.2.2.2.1).2.2.2.2.2.2.2.2.1 (mc_PO e.1 q.2.2.2.2.2.1).2.2.2.2.2.2.2.2.2.2 .iaload pc f (.int j :: .ref k :: r.map my_v) = some (pc + 1, .int (g j.toNatClampNeg) :: r.map my_v) := by
      simp only [mj_gx, hk, a3, if_true]
      rw [if_pos (show mc_TY[0]? = some FieldType.int from rfl), if_neg (my_bd_ok hj)]
    have e2 : ¬ 32 ≤ k := by omega
    simp [mj_step, mj_sw, mj_g1a, mj_g4, mj_g1d, mj_bin, mj_binL, mj_g7, mj_g2, e2, mj_g1b, mj_g8, mj_g1c, mj_g3, mj_g6, mj_gt, mj_g5, mj_g9, my_v, va_rf, e1]) h
theorem my_W_elen {k z : Nat} {g : Nat → Int32} {r : List my_V} (hk : k < 32) (hat : mj_at q.2.2.2.2.1 pc = some .arraylength) (hf : mc_fx e.2.1 e.2.2 k = .inl (0, z, .inl g)) (h : my_W e d q (pc + 1) lv (.inl (Int32.ofNat z) :: r) κ σ Q) : my_W e d q pc lv (.inr (.inr (some k)) :: r) κ σ Q :=
  my_W_step hat (fun lv' f C S cs ss h1 h2 _ => by
    have a3 := h2.2.2 k hk
    rw [hf] at a3
    refine ⟨lv', f, h1, h2, fun call => ?_⟩
    have e1 : mj_gx mc_TY (mc_PO e.1 q.2.2.2.2.2.1).2.2.2.2.2.2.2.1 (mc_PO e.1 q.2.2.2.2.2.1).2.2.2.2.2.2.2.2.1 (mc_PO e.1 q.2.2.2.2.2.1).2.2.2.2.2.2.2.2.2.2 .arraylength pc f (.ref k :: r.map my_v) = some (pc + 1, .int (Int32.ofNat z) :: r.map my_v) := by
      simp only [mj_gx, hk, a3, if_true]
      rw [if_pos (show (mc_TY[0]?).isSome = true from rfl)]
    have e2 : ¬ 32 ≤ k := by omega
    simp [mj_step, mj_sw, mj_g1a, mj_g4, mj_g1d, mj_bin, mj_binL, mj_g7, mj_g2, e2, mj_g1b, mj_g8, mj_g1c, mj_g3, mj_g6, mj_gt, mj_g5, mj_g9, my_v, va_rf, e1]) h
theorem my_W_gst {idx : Nat} {k : Nat} (hat : mj_at q.2.2.2.2.1 pc = some (.getstatic idx)) (hp : (mc_PO e.1 q.2.2.2.2.2.1).2.2.2.2.2.2.2.2.1 idx = some (.ref k)) (h : my_W e d q (pc + 3) lv (.inr (.inr (some k)) :: st) κ σ Q) : my_W e d q pc lv st κ σ Q :=
  my_W_step hat (fun lv' f C S cs ss h1 h2 _ => ⟨lv', f, h1, h2, fun call => by simp [mj_step, mj_sw, mj_g1a, mj_g4, mj_g1d, mj_bin, mj_binL, mj_g7, mj_g2, mj_g1b, mj_g8, mj_g1c, mj_g3, mj_g6, mj_gt, mj_g5, mj_g9, mj_gx, my_v, va_rf, hp]⟩) h
end MYB
