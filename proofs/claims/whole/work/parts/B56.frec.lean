
/-! ===== the reference writes a record ===== -/
section MFR
variable {As : List Ri} {I : List It} {rv : Nat} {e : my_E} {d : Nat} {κ : my_K} {σ σ' : my_S} {Q : my_O → my_K → my_S → Prop} {G : List Int32} {L : List Nat} {ws : List Int32}
theorem f_311e (hw : ws.length = L.length) (hL : L.length ≤ 30) (hG : G.length + 2 * L.length ≤ 20000) (hT : TLR L σ) (h554 : ∀ (j : Nat) w, ws[j]? = some w → σ.1 554 j = w) (hd : 2 ≤ d) (hQ : ∀ σ', FRy (G ++ ws.flatMap (fun w => bts w 2 0)) σ' → eqp fyF σ σ' → Q (.inl none) κ σ') : ∀ (m j : Nat) (σ' : my_S), j + m = L.length → FRy (G ++ (ws.take j).flatMap (fun w => bts w 2 0)) σ' → eqp fyF σ σ' → ys_311_216 e d (Int32.ofNat j) κ σ' Q := by
  intro m
  induction m with
  | zero =>
    intro j σ' hj h f
    have hT' := TLR_o hT f (fun c k hh => by unfold fyF at hh; unfold tdF; omega)
    rw [List.take_of_length_le (by omega)] at h
    unfold ys_311_216
    rw [hT'.1, if_neg (by rw [oN_lt (by omega) (by omega)]; omega)]
    exact hQ σ' h f
  | succ m ih =>
    intro j σ' hj h f
    have hjl : j < ws.length := by omega
    have hT' := TLR_o hT f (fun c k hh => by unfold fyF at hh; unfold tdF; omega)
    unfold ys_311_216
    rw [hT'.1, if_pos ((oN_lt (by omega) (by omega)).mpr (by omega)), oN_n (by omega), eqp_g f (by unfold fyF; omega), h554 j _ (List.getElem?_eq_getElem hjl)]
    refine ⟨bdk (by omega) (by omega), f_315 h ?_ hd (fun σ2 h2 f2 => ?_)⟩
    · rw [List.length_append, fm2_l, List.length_take]; omega
    · rw [my_k0_v, oN_s]
      refine ys_311_216_ok (ih (j + 1) σ2 (by omega) ?_ (eqp_tr f f2))
      rw [tk_s hjl, List.flatMap_append, ← List.append_assoc]
      rw [show [ws[j]].flatMap (fun w => bts w 2 0) = bts ws[j] 2 0 by rw [List.flatMap_cons, List.flatMap_nil, List.append_nil]]
      exact h2
theorem f_311r {i kt k : Nat} {a : Ri} {f1 f2 f3 f4 f5 f6 t0 : Int32} (h : LD As I rv σ) (ha : As[kt]? = some a) (hi : i < 12) (hw : ws.length = L.length) (hL : L.length ≤ 30) (hg : FRy G σ) (hG : G.length + 40 + 2 * L.length ≤ 20000) (hT : TLR L σ) (h554 : ∀ (j : Nat) w, ws[j]? = some w → σ.1 554 j = w) (h562 : σ.1 562 i = f1) (h563 : σ.1 563 i = f4) (h65 : σ.1 498 65 = f5) (ht0 : (t0 = 0 ∧ f3 = 0) ∨ (t0 = 1 ∧ σ.1 565 i = f3)) (hd : 6 ≤ d) (hQ : ∀ σ', FRy (G ++ e1 (2, riN a, rcC f1 f2 f3 f4 f5 f6 ws) k) σ' → eqp fyF σ σ' → Q (.inl none) κ σ') : ys_311_105 e d (Int32.ofNat i) (Int32.ofNat kt) f6 t0 f2 κ σ Q := by
  have h42 := itsB_42 h.1
  have hkA := (List.getElem?_eq_some_iff.mp ha).1
  have hl := (h.1.2 a (List.mem_of_getElem? ha)).2.1
  have h8 := hl.2
  have y2 := (h.2.2.2.2.2.2.2.2.1 kt a ha).2.1
  have bk : my_bd (Int32.ofNat kt) 48 := bdk (by omega) (by omega)
  have bi : my_bd (Int32.ofNat i) 12 := bdk (by omega) (by omega)
  have r1 : ∀ {τ : my_S} {c q : Nat}, eqp fyF σ τ → c ≠ 551 → (c = 498 → q ≠ 97) → τ.1 c q = σ.1 c q := fun f c1 c2 => eqp_g f (fun hh => by unfold fyF at hh; rcases hh with hh | hh; exact c1 hh; exact c2 hh.1 hh.2)
  unfold ys_311_105
  rw [oN_n (p := kt) (by omega), y2]
  refine ⟨bk, u_278 hl (by omega) ?_⟩
  rw [my_kI_v, hT.1, show (2 : Int32) = Int32.ofNat 2 from rfl, show (11 : Int32) = Int32.ofNat 11 from rfl, ← Int32.ofNat_mul, oN_a, oN_a, oN_a]
  refine f_315 hg (by omega) (by omega) (fun σ1 k1 g1 => ?_)
  rw [my_k0_v]
  refine f_316b k1 (by rw [List.length_append, bts_l]; omega) (by omega) (fun σ2 k2 g2 => ?_)
  rw [my_k0_v]
  have g02 : eqp fyF σ σ2 := eqp_tr g1 g2
  rw [(g02 530 kt (by unfold fyF; omega)).2.1, y2]
  refine ⟨bk, f_317 hl k2 (by rw [List.length_append, List.length_append, bts_l, bts_l]; omega) (by omega) (fun σ3 k3 g3 => ?_)⟩
  rw [my_k0_v]
  have g03 : eqp fyF σ σ3 := eqp_tr g02 g3
  rw [oN_n (p := i) (by omega), r1 g03 (by omega) (by omega), h562]
  refine ⟨bi, f_316b k3 (by simp only [List.length_append, bts_l, ltb_l]; omega) (by omega) (fun σ4 k4 g4 => ?_)⟩
  rw [my_k0_v]
  refine f_315 k4 (by simp only [List.length_append, bts_l, ltb_l]; omega) (by omega) (fun σ5 k5 g5 => ?_)
  rw [my_k0_v]
  have g05 : eqp fyF σ σ5 := eqp_tr g03 (eqp_tr g4 g5)
  have rest : ∀ t : Int32, t = f3 → ys_311_179 e d (Int32.ofNat i) f6 t κ σ5 Q := fun t ht => by
    unfold ys_311_179
    rw [ht]
    refine f_316b k5 (by simp only [List.length_append, bts_l, ltb_l]; omega) (by omega) (fun σ6 k6 g6 => ?_)
    rw [my_k0_v]
    have g06 : eqp fyF σ σ6 := eqp_tr g05 g6
    rw [oN_n (p := i) (by omega), r1 g06 (by omega) (by omega), h563]
    refine ⟨bi, f_315 k6 (by simp only [List.length_append, bts_l, ltb_l]; omega) (by omega) (fun σ7 k7 g7 => ?_)⟩
    rw [my_k0_v]
    have g07 : eqp fyF σ σ7 := eqp_tr g06 g7
    rw [r1 g07 (by omega) (by omega), h65]
    refine f_315 k7 (by simp only [List.length_append, bts_l, ltb_l]; omega) (by omega) (fun σ8 k8 g8 => ?_)
    rw [my_k0_v]
    refine f_315 k8 (by simp only [List.length_append, bts_l, ltb_l]; omega) (by omega) (fun σ9 k9 g9 => ?_)
    rw [my_k0_v]
    have g09 : eqp fyF σ σ9 := eqp_tr g07 (eqp_tr g8 g9)
    have hT9 := TLR_o hT g09 (fun c k hh => by unfold fyF at hh; unfold tdF; omega)
    rw [hT9.1]
    refine f_316b k9 (by simp only [List.length_append, bts_l, ltb_l]; omega) (by omega) (fun σ10 k10 g10 => ?_)
    rw [my_k0_v]
    have g010 : eqp fyF σ σ10 := eqp_tr g09 g10
    have hlen := k10
    generalize hH : G ++ bts (Int32.ofNat (2 + (riN a).length + 11 + 2 * L.length)) 2 0 ++ bts (Int32.ofNat 2) 1 0 ++ (bts (Int32.ofNat (riN a).length) 1 0 ++ ltb (riN a)) ++ bts f1 1 0 ++ bts f2 2 0 ++ bts f3 1 0 ++ bts f4 2 0 ++ bts f5 2 0 ++ bts f6 2 0 ++ bts (Int32.ofNat L.length) 1 0 = H at k10
    have hHl : H.length ≤ G.length + 30 := by rw [← hH]; simp only [List.length_append, bts_l, ltb_l]; omega
    refine ys_311_216_ok (f_311e (G := H) (L := L) (ws := ws) (σ := σ10) hw hL (by omega) (TLR_o hT g010 (fun c k hh => by unfold fyF at hh; unfold tdF; omega)) (fun j w hj => (r1 g010 (by omega) (by omega)).trans (h554 j w hj)) (by omega) (fun σ11 k11 g11 => ?_) L.length 0 σ10 (Nat.zero_add _) (by rw [List.take_zero, List.flatMap_nil, List.append_nil]; exact k10) eqp_rf)
    refine hQ σ11 ?_ (eqp_tr g010 g11)
    have ee : e1 (2, riN a, rcC f1 f2 f3 f4 f5 f6 ws) k = bts (Int32.ofNat (2 + (riN a).length + 11 + 2 * L.length)) 2 0 ++ bts (Int32.ofNat 2) 1 0 ++ (bts (Int32.ofNat (riN a).length) 1 0 ++ ltb (riN a) ++ rcC f1 f2 f3 f4 f5 f6 ws) := by
      unfold e1 eh nmE
      rw [if_neg (show ¬ (2 : Nat) = 1 by omega)]
      show bts (Int32.ofNat (2 + (riN a).length + (rcC f1 f2 f3 f4 f5 f6 ws).length)) 2 0 ++ bts 2 1 0 ++ _ = _
      rw [rcC_l, hw, show 2 + (riN a).length + (11 + 2 * L.length) = 2 + (riN a).length + 11 + 2 * L.length by omega]
      rfl
    rw [ee]
    rw [← hH] at k11
    unfold rcC
    rw [hw]
    simp only [List.append_assoc] at k11 ⊢
    exact k11
  rcases ht0 with ⟨ht, h3⟩ | ⟨ht, h3⟩
  · rw [ht, if_pos rfl]
    exact rest 0 h3.symm
  · rw [ht, if_neg (by decide), r1 g05 (by omega) (by omega), h3]
    exact ⟨bi, rest f3 rfl⟩
end MFR
