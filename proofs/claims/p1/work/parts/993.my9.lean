/-! ===== .. the other instructions; blocks ===== -/
section MYD
variable {e : my_E} {d : Nat} {q : mj_Mi} {i : Instr} {x : List (List Nat)} {pc : Nat} {lv : List (Nat × my_V)} {st : List my_V} {κ : my_K} {σ : my_S} {Q : my_O → my_K → my_S → Prop} {K : List my_V → my_S → Prop}
theorem my_ef_arr (hi : i = .iaload ∨ i = .baload ∨ i = .laload ∨ i = .aaload ∨ i = .arraylength ∨ i = .iastore ∨ i = .bastore ∨ i = .lastore ∨ i = .aastore) (hat : mj_at q.2.2.2.2.1 pc = some i) (hc : my_c1 q i x pc = true) (hK : ∀ st' σ', K st' σ' → my_W e d q (pc + 1) lv st' κ σ' Q) (h : my_ef e d q Q i x lv st κ σ K) : my_W e d q pc lv st κ σ Q := by
  rcases hi with rfl | rfl | rfl | rfl | rfl | rfl | rfl | rfl | rfl <;> simp only [my_ef] at h <;> split at h <;> try (cases h; done)
  · obtain ⟨a, rfl, b1, b2, b3⟩ := my_rf_ok h (fun hm => my_lit_ok hc hm)
    exact my_W_iald hat b1 b2 (hK _ _ b3)
  · obtain ⟨rfl, b2, b3⟩ := h
    exact my_W_eald (k := 27) (by omega) hat rfl b2 (hK _ _ b3)
  · obtain ⟨rfl, b2, b3⟩ := h
    exact my_W_eald (k := 0) (by omega) hat rfl b2 (hK _ _ b3)
  · simp only [my_c1, Bool.and_eq_true, Bool.or_eq_true, decide_eq_true_eq] at hc
    obtain ⟨a, rfl, b1, b2, b3⟩ := my_rf_ok h (fun hm => my_lit_ok hc.2 hm)
    exact my_W_bald hat hc.1 b1 b2 (hK _ _ b3)
  · obtain ⟨a, rfl, b1, b2, b3⟩ := my_rf_ok h (fun hm => my_lit_ok hc hm)
    exact my_W_lald hat b1 b2 (hK _ _ b3)
  · simp only [my_c1, Bool.and_eq_true, decide_eq_true_eq] at hc
    obtain ⟨⟨c1, c2⟩, c3⟩ := hc
    obtain ⟨a, rfl, b1, b2, b3⟩ := my_rf_ok h (fun hm => my_lit_ok c3 hm)
    split at c2
    · exact my_W_aald hat c1 (by assumption) b1 b2 (hK _ _ b3)
    · cases c2
  · simp only [my_c1, Bool.and_eq_true] at hc
    obtain ⟨a, rfl, b1, b2⟩ := my_rf_ok h (fun hm => my_lit_ok hc.2 hm)
    exact my_W_len hat hc.1 b1 (hK _ _ b2)
  · obtain ⟨rfl, b3⟩ := h
    exact my_W_elen (k := 27) (z := 32) (by omega) hat rfl (hK _ _ b3)
  · obtain ⟨rfl, b3⟩ := h
    exact my_W_elen (k := 0) (z := e.2.1) (by omega) hat rfl (hK _ _ b3)
  · obtain ⟨a, rfl, b1, b2, b3⟩ := my_rf_ok h (fun hm => my_lit_ok hc hm)
    exact my_W_iast hat b1 b2 (hK _ _ b3)
  · obtain ⟨a, rfl, b1, b2, b3⟩ := my_rf_ok h (fun hm => my_lit_ok hc hm)
    exact my_W_bast hat b1 b2 (hK _ _ b3)
  · obtain ⟨a, rfl, b1, b2, b3⟩ := my_rf_ok h.2 (fun hm => my_lit_ok hc hm)
    exact my_W_zast hat b1 h.1 b2 (hK _ _ b3)
  · obtain ⟨a, rfl, b1, b2, b3⟩ := my_rf_ok h (fun hm => my_lit_ok hc hm)
    exact my_W_last hat b1 b2 (hK _ _ b3)
  · simp only [my_c1, Bool.and_eq_true, decide_eq_true_eq] at hc
    obtain ⟨⟨c1, c2⟩, c3⟩ := hc
    obtain ⟨a, rfl, b1, b2, b3⟩ := my_rf_ok h.2 (fun hm => my_lit_ok c3 hm)
    split at c2
    · exact my_W_aast hat c1 (by assumption) (of_decide_eq_true c2) b1 h.1 b2 (hK _ _ b3)
    · cases c2
theorem my_ef_br (hi : (∃ cd off, i = .ifCond cd off) ∨ (∃ cd off, i = .if_icmp cd off) ∨ (∃ off, i = .ifnull off) ∨ (∃ off, i = .ifnonnull off) ∨ ∃ cd off, i = .if_acmp cd off) (hat : mj_at q.2.2.2.2.1 pc = some i) (hc : my_c1 q i x pc = true) (h : my_ef e d q Q i x lv st κ σ K) : my_W e d q pc lv st κ σ Q := by
  rcases hi with ⟨cd, off, rfl⟩ | ⟨cd, off, rfl⟩ | ⟨off, rfl⟩ | ⟨off, rfl⟩ | ⟨cd, off, rfl⟩ <;> simp only [my_ef] at h <;> split at h <;> (try (cases h; done)) <;> simp only [my_c1, Bool.and_eq_true, decide_eq_true_eq] at hc
  · refine my_W_if hat (my_tgt hc.1) ?_
    rw [hc.2]
    unfold my_cmp at h ⊢
    split at h <;> split at h <;> rename_i hh <;> simp only [hh, if_true, if_false] <;> exact my_lf_ok h
  · refine my_W_icmp hat (my_tgt hc.1) ?_
    rw [hc.2]
    unfold my_cmp at h ⊢
    split at h <;> split at h <;> rename_i hh <;> simp only [hh, if_true, if_false] <;> exact my_lf_ok h
  · refine my_W_null hat (my_tgt hc.1) ?_
    rw [hc.2]
    split at h <;> rename_i hh <;> simp only [hh, if_true, if_false] <;> exact my_lf_ok h
  · refine my_W_nonnull hat (my_tgt hc.1) ?_
    rw [hc.2]
    split at h <;> rename_i hh <;> simp only [hh, if_true, if_false] <;> exact my_lf_ok h
  · refine my_W_acmp hat (my_tgt hc.1) h.1.1 h.1.2 ?_
    have h := h.2
    rw [hc.2]
    cases cd <;> simp only at h <;> split at h <;> rename_i hh <;> simp only [hh, if_true, if_false, my_ae] <;> exact my_lf_ok h
theorem my_ef_sw (hi : (∃ a b c l, i = .tableswitch a b c l) ∨ ∃ a l, i = .lookupswitch a l) (hat : mj_at q.2.2.2.2.1 pc = some i) (hc : my_c1 q i x pc = true) (h : my_ef e d q Q i x lv st κ σ K) : my_W e d q pc lv st κ σ Q := by
  rcases hi with ⟨dft, lo, hi, offs, rfl⟩ | ⟨dft, ps, rfl⟩ <;> simp only [my_ef] at h <;> split at h <;> (try (cases h; done)) <;> simp only [my_c1, Bool.and_eq_true] at hc <;> rename_i v r
  · obtain ⟨c1, c2⟩ := hc
    have c1 := of_decide_eq_true c1
    obtain ⟨t, t1, t2⟩ := my_sws_ok c2 h
    refine my_W_step hat (fun lv' f C S cs ss h1 h2 _ => ⟨lv', f, h1, h2, fun call => ?_⟩) t2
    rw [my_tl_off] at t1
    have e1 : mj_g1e (.tableswitch dft lo hi offs) pc lv' (.int v :: r.map my_v) = some (t, lv', r.map my_v) := by
      simp only [mj_g1e]
      by_cases hh : v.toInt < lo ∨ hi < v.toInt
      · rw [if_pos hh]
        rw [if_pos (by omega)] at t1
        rw [my_tgt t1]
        rfl
      · rw [if_neg hh]
        rw [if_neg (by omega)] at t1
        have hlt : (v.toInt - lo).toNat < offs.size := by
          have : offs.toList.length = offs.size := Array.length_toList
          omega
        rw [Array.getElem?_eq_getElem hlt]
        have e2 : offs.toList.getD (v.toInt - lo).toNat 0 = offs[(v.toInt - lo).toNat] := by
          rw [List.getD_eq_getElem?_getD, List.getElem?_eq_getElem (by simpa using hlt)]
          simp
        rw [e2] at t1
        simp only
        rw [my_tgt t1]
        rfl
    simp only [List.map_cons]
    have e3 : my_v (.inl v) = .int v := rfl
    rw [e3]
    simp [mj_step, mj_sw, e1]
  · obtain ⟨c1, c2⟩ := hc
    obtain ⟨t, t1, t2⟩ := my_sws_ok c2 h
    refine my_W_step hat (fun lv' f C S cs ss h1 h2 _ => ⟨lv', f, h1, h2, fun call => ?_⟩) t2
    have e1 : mj_g1e (.lookupswitch dft ps) pc lv' (.int v :: r.map my_v) = some (t, lv', r.map my_v) := by
      simp only [mj_g1e]
      rw [if_pos c1, my_tgt t1]
      rfl
    simp only [List.map_cons]
    have e3 : my_v (.inl v) = .int v := rfl
    rw [e3]
    simp [mj_step, mj_sw, e1]
theorem my_ef_end (hi : i = .ireturn ∨ i = .lreturn ∨ i = .areturn ∨ i = .return_) (hat : mj_at q.2.2.2.2.1 pc = some i) (hc : my_c1 q i x pc = true) (h : my_ef e d q Q i x lv st κ σ K) : my_W e d q pc lv st κ σ Q := by
  rcases hi with rfl | rfl | rfl | rfl <;> simp only [my_ef] at h <;> split at h <;> try (cases h; done)
  · exact my_W_ireturn hat (of_decide_eq_true hc) rfl h
  · exact my_W_ireturn hat (of_decide_eq_true hc) (by simpa [mj_fit] using h.1) h.2
  · exact my_W_lreturn hat (of_decide_eq_true hc) h
  · simp only [my_c1] at hc
    split at hc
    · exact my_W_areturn hat (by assumption) h
    · cases hc
  · exact my_W_return hat (of_decide_eq_true hc) h
theorem my_ef_con (hi : (∃ k, i = .ldc k) ∨ (∃ k, i = .ldc_w k) ∨ (∃ k, i = .ldc2_w k) ∨ (∃ k, i = .getstatic k) ∨ i = .idiv ∨ i = .irem ∨ i = .ldiv ∨ i = .lrem) (hat : mj_at q.2.2.2.2.1 pc = some i) (hc : my_c1 q i x pc = true) (hK : ∀ st' σ', K st' σ' → my_W e d q (pc + mj_ln i) lv st' κ σ' Q) (h : my_ef e d q Q i x lv st κ σ K) : my_W e d q pc lv st κ σ Q := by
  rcases hi with ⟨k, rfl⟩ | ⟨k, rfl⟩ | ⟨k, rfl⟩ | ⟨k, rfl⟩ | rfl | rfl | rfl | rfl <;> simp only [my_ef] at h <;> split at h <;> try (cases h; done)
  · exact my_W_ldc hat (by rw [(my_po e.1 q.2.2.2.2.2.1).2.2.2.1]; exact of_decide_eq_true hc) (hK _ _ h)
  · exact my_W_ldcw hat (by rw [(my_po e.1 q.2.2.2.2.2.1).2.2.2.1]; exact of_decide_eq_true hc) (hK _ _ h)
  · exact my_W_ldc2 hat (by rw [(my_po e.1 q.2.2.2.2.2.1).2.2.2.2.1]; exact of_decide_eq_true hc) (hK _ _ h)
  · simp only [my_c1, Bool.and_eq_true] at hc
    exact my_W_gst hat (by rw [my_pg e.1 q.2.2.2.2.2.1 hc.1]; exact of_decide_eq_true hc.2) (hK _ _ h)
  · exact my_W_div hat h.1 (hK _ _ h.2)
  · exact my_W_rem hat h.1 (hK _ _ h.2)
  · exact my_W_ldiv hat h.1 (hK _ _ h.2)
  · exact my_W_lrem hat h.1 (hK _ _ h.2)
theorem my_ef_new {idx : Nat} (hat : mj_at q.2.2.2.2.1 pc = some (.new idx)) (hc : my_c1 q (.new idx) x pc = true) (h : my_ef e d q Q (.new idx) x lv st κ σ K) : my_W e d q pc lv st κ σ Q := by
  simp only [my_ef] at h
  split at h
  · rename_i ci z k
    simp only [my_c1, Bool.and_eq_true] at hc
    obtain ⟨⟨⟨⟨⟨c1, c2⟩, c3⟩, c4⟩, c5⟩, c6⟩ := hc
    obtain ⟨⟨h1, h2⟩, ⟨h3, h4⟩, h5⟩ := h
    have c2 := of_decide_eq_true c2
    have c4 := of_decide_eq_true c4
    rw [← (my_po e.1 q.2.2.2.2.2.1).2.2.1] at c2
    refine my_W_throw (z := z) (k := k) (ci := ci) (List.isEmpty_iff.mp c1) hat (fun C S f cs ss hb => ?_) (of_decide_eq_true c6) h3 h4 h5
    have h2 := Nat.le_of_ble_eq_true h2
    rw [← my_wt_ok] at h2
    split at c3
    · rename_i r hr
      have c3 := of_decide_eq_true c3
      split at c5
      · rename_i j hj
        split at c5
        · rename_i kk len htx
          simp only [Bool.and_eq_true] at c5
          obtain ⟨⟨c7, c8⟩, c9⟩ := c5
          have c9 := of_decide_eq_true c9
          rw [← (my_po e.1 q.2.2.2.2.2.1).2.2.2.2.2.2.1] at c7
          obtain ⟨w, hw⟩ := Option.isSome_iff_exists.mp c7
          split at c8
          · rename_i ic hic
            rw [← (my_po e.1 q.2.2.2.2.2.1).1] at c8
            simp only [mj_gt, c2, hr, c3, c4, hj, htx, hw, hic, if_true]
            rw [if_pos ⟨⟨c8, h1⟩, h2, hb.1, hb.2⟩, c9]
          · cases c8
        · cases c5
      · cases c5
    · cases c3
  · cases h
theorem my_ef_inv (hi : (∃ k, i = .invokestatic k) ∨ ∃ k, i = .invokevirtual k) (hat : mj_at q.2.2.2.2.1 pc = some i) (hc : my_c1 q i x pc = true) (hK : ∀ st' σ', K st' σ' → my_W e d q (pc + 3) lv st' κ σ' Q) (h : my_ef e d q Q i x lv st κ σ K) : my_W e d q pc lv st κ σ Q := by
  rcases hi with ⟨idx, rfl⟩ | ⟨idx, rfl⟩
  · simp only [my_ef] at h
    split at h
    · rename_i b
      split at h
      · rename_i v u r
        simp only [my_c1, Bool.and_eq_true] at hc
        obtain ⟨c1, c2⟩ := hc
        have c1 := of_decide_eq_true c1
        have hw := Nat.le_of_ble_eq_true h.1
        rw [← my_wt_ok] at hw
        rw [← (my_po e.1 q.2.2.2.2.2.1).2.2.2.2.2.1] at c1
        rw [← (my_po e.1 q.2.2.2.2.2.1).1] at c2
        refine my_W_max (b := Nat.beq b 1) hat c1 ?_ ?_
        · simp only [mj_gm]
          rw [if_pos hw]
          by_cases hb : b = 1
          · subst hb
            rw [if_pos (by simpa using c2)]
            rfl
          · rw [if_neg hb] at c2
            simp only [Bool.and_eq_true, Bool.not_eq_true'] at c2
            have hb' : Nat.beq b 1 = false := by
              cases hbb : Nat.beq b 1 with
              | true => exact absurd (Nat.eq_of_beq_eq_true hbb) hb
              | false => rfl
            rw [if_neg (by rw [c2.2]; decide), if_pos c2.1, hb']
            rfl
        · have h2 := hK _ _ h.2
          cases hb : Nat.beq b 1 <;> rw [hb] at h2 <;> exact h2
      · cases h
    · rename_i mi np rk lf hs
      simp only [my_c1, Bool.and_eq_true] at hc
      obtain ⟨⟨c1, c2⟩, c3⟩ := hc
      have c2 := of_decide_eq_true c2
      obtain ⟨⟨h1, h2⟩, h3⟩ := h
      split at c1
      · rename_i mi' np' cx hp
        simp only [Bool.and_eq_true] at c1
        have e1 := Nat.eq_of_beq_eq_true c1.1
        have e2 := Nat.eq_of_beq_eq_true c1.2
        subst e1; subst e2
        rw [← (my_po e.1 q.2.2.2.2.2.1).2.2.2.2.2.1] at hp
        obtain ⟨Qc, p1, p2, p3⟩ := my_iv_ok h3
        refine my_W_inv (r := st.drop np') hat (fun lv' f C S cs ss _ hb call r0 hn hcall => by rcases r0 with ⟨v | x, n', f', c', s'⟩ <;> exact my_st_static hp (Nat.le_of_ble_eq_true h1) (Nat.le_of_ble_eq_true h2) hb call _ hn hcall) p1 (fun v κ' σ' hv => ?_) (fun a b κ' σ' hv => my_ex_ok c3 (p3 a b κ' σ' hv))
        rw [← c2]
        exact p2 v κ' σ' hv
      · cases c1
    · cases h
  · simp only [my_ef] at h
    split at h
    · rename_i mi np rk m A ci lf hs
      simp only [my_c1, Bool.and_eq_true] at hc
      obtain ⟨⟨⟨c1, c2⟩, c3⟩, c4⟩ := hc
      have c1 := of_decide_eq_true c1
      have c2 := of_decide_eq_true c2
      obtain ⟨h1, h⟩ := h
      split at h
      · rename_i o r hd
        obtain ⟨h2, h⟩ := h
        obtain ⟨a, rfl, b1, b2⟩ := my_rf_ok h (fun hm => my_lit_ok c4 hm)
        obtain ⟨Qc, p1, p2, p3⟩ := my_iv_ok b2
        rw [← (my_po e.1 q.2.2.2.2.2.1).2.2.2.2.2.1] at c1
        refine my_W_inv (r := r) hat (fun lv' f C S cs ss hr hb call r0 hn hcall => by rcases r0 with ⟨v | x, n', f', c', s'⟩ <;> exact my_st_virtual c1 (Nat.le_of_ble_eq_true h1) hd (Nat.le_of_ble_eq_true h2) (hr.1.2 a _ b1) (hr.2.1 a _ b1) hb call _ hn hcall) p1 (fun v κ' σ' hv => ?_) (fun a b κ' σ' hv => my_ex_ok c3 (p3 a b κ' σ' hv))
        rw [← c2]
        exact p2 v κ' σ' hv
      · cases h
    · cases h
theorem my_pu_ck {lv1 : List (Nat × my_V)} {st1 : List my_V} (h : my_pu i lv st = some (lv1, st1)) (hc : my_c1 q i x pc = true) : my_pk q.2.2.1 i = true ∧ my_gk i pc = true := by
  cases i <;> first | (simp only [my_pu, reduceCtorEq] at h; done) | exact ⟨rfl, rfl⟩ | (simpa [my_c1] using hc)
theorem my_ef_ok (hp : my_pu i lv st = none) (hat : mj_at q.2.2.2.2.1 pc = some i) (hc : my_c1 q i x pc = true) (hK : ∀ st' σ', K st' σ' → my_W e d q (my_nx i pc) lv st' κ σ' Q) (h : my_ef e d q Q i x lv st κ σ K) : my_W e d q pc lv st κ σ Q := by
  cases i
  case getfield idx => exact my_ef_get hat hc hK h
  case putfield idx => exact my_ef_put hat hc hK h
  case iaload => exact my_ef_arr (by simp) hat hc hK h
  case baload => exact my_ef_arr (by simp) hat hc hK h
  case laload => exact my_ef_arr (by simp) hat hc hK h
  case aaload => exact my_ef_arr (by simp) hat hc hK h
  case arraylength => exact my_ef_arr (by simp) hat hc hK h
  case iastore => exact my_ef_arr (by simp) hat hc hK h
  case bastore => exact my_ef_arr (by simp) hat hc hK h
  case lastore => exact my_ef_arr (by simp) hat hc hK h
  case aastore => exact my_ef_arr (by simp) hat hc hK h
  case ifCond cd off => exact my_ef_br (Or.inl ⟨_, _, rfl⟩) hat hc h
  case if_icmp cd off => exact my_ef_br (Or.inr (Or.inl ⟨_, _, rfl⟩)) hat hc h
  case ifnull off => exact my_ef_br (Or.inr (Or.inr (Or.inl ⟨_, rfl⟩))) hat hc h
  case ifnonnull off => exact my_ef_br (Or.inr (Or.inr (Or.inr (Or.inl ⟨_, rfl⟩)))) hat hc h
  case if_acmp cd off => exact my_ef_br (Or.inr (Or.inr (Or.inr (Or.inr ⟨_, _, rfl⟩)))) hat hc h
  case tableswitch a b c l => exact my_ef_sw (Or.inl ⟨_, _, _, _, rfl⟩) hat hc h
  case lookupswitch a l => exact my_ef_sw (Or.inr ⟨_, _, rfl⟩) hat hc h
  case ireturn => exact my_ef_end (by simp) hat hc h
  case lreturn => exact my_ef_end (by simp) hat hc h
  case areturn => exact my_ef_end (by simp) hat hc h
  case return_ => exact my_ef_end (by simp) hat hc h
  case ldc k => exact my_ef_con (Or.inl ⟨_, rfl⟩) hat hc hK h
  case ldc_w k => exact my_ef_con (Or.inr (Or.inl ⟨_, rfl⟩)) hat hc hK h
  case ldc2_w k => exact my_ef_con (Or.inr (Or.inr (Or.inl ⟨_, rfl⟩))) hat hc hK h
  case getstatic k => exact my_ef_con (Or.inr (Or.inr (Or.inr (Or.inl ⟨_, rfl⟩)))) hat hc hK h
  case idiv => exact my_ef_con (by simp) hat hc hK h
  case irem => exact my_ef_con (by simp) hat hc hK h
  case ldiv => exact my_ef_con (by simp) hat hc hK h
  case lrem => exact my_ef_con (by simp) hat hc hK h
  case new idx => exact my_ef_new hat hc h
  case invokestatic idx => exact my_ef_inv (Or.inl ⟨_, rfl⟩) hat hc hK h
  case invokevirtual idx => exact my_ef_inv (Or.inr ⟨_, rfl⟩) hat hc hK h
  all_goals cases h
end MYD
theorem my_blk_ok {e : my_E} {d : Nat} {q : mj_Mi} {Q : my_O → my_K → my_S → Prop} : ∀ {ops : List (Instr × List (List Nat))} {pc : Nat} {lv : List (Nat × my_V)} {st : List my_V} {κ : my_K} {σ : my_S}, my_ck q ops pc = true → my_blk e d q Q ops lv st κ σ → my_W e d q pc lv st κ σ Q
  | [], _, _, _, _, _, _, h => by simp [my_blk] at h
  | (i, x) :: r, pc, lv, st, κ, σ, hc, h => by
    by_cases hn : i = .nop
    · subst hn
      simp only [my_ck] at hc
      simp only [my_blk] at h
      split at hc
      · have := of_decide_eq_true hc
        subst this
        exact my_lf_ok h
      · cases hc
    · rw [my_ck] at hc
      · simp only [Bool.and_eq_true] at hc
        obtain ⟨⟨c1, c2⟩, c3⟩ := hc
        have c1 := of_decide_eq_true c1
        rw [my_blk] at h
        · cases hp : my_pu i lv st with
          | some w =>
            obtain ⟨lv1, st1⟩ := w
            rw [hp] at h
            obtain ⟨k1, k2⟩ := my_pu_ck hp c2
            exact my_W_pure c1 hp k1 k2 (my_blk_ok c3 h)
          | none =>
            rw [hp] at h
            exact my_ef_ok hp c1 c2 (fun st' σ' hk => my_blk_ok c3 hk) h
        · exact hn
      · exact hn
