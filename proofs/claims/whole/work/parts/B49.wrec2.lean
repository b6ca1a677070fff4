
/-! ===== the class: addRecord ===== -/
section MWS
variable {e : my_E} {d : Nat} {κ : my_K} {σ σ' : my_S} {Q : my_O → my_K → my_S → Prop} {A : Nat} {E E' : List Et} {B : List Int32} {R : List (List Nat × Nat)} {nm : List Nat} {f1 f2 f3 f4 f5 f6 : Int32} {ws : List Int32}
theorem w_180w {k : Nat} (hA : lg2 A) (hl : isN nm) (hw : ws.length ≤ 30) (hd : 2 ≤ d) (hO : OcW nm f1 f2 f3 f4 f5 f6 ws σ) (hN : NR A R σ) (h : WB A B σ) (hc : R.length = 500 → 7747 < B.length) (hQ : ∀ σ' R', (R.length < 500 → R' = R ++ [(nm, min (B.length + 4 + nm.length) 7747)]) → (R.length = 500 → R' = R) → WB A (B ++ e1 (2, nm, rcC f1 f2 f3 f4 f5 f6 ws) k) σ' → NR A R' σ' → eqp (wrF A) σ σ' → Q (.inl none) κ σ') : my_M e d 180 [.inr (.inr (some A)), .inr (.inr (some 92))] κ σ Q := by
  obtain ⟨d, rfl⟩ := dS 1 (show 1 ≤ d by omega)
  have hA' := hA
  unfold lg2 at hA'
  have h8 := hl.2
  refine ys_180 (in8 hA) ?_
  unfold ys_180_0
  refine ⟨92, rfl, in9, ?_⟩
  rw [hO.1]
  refine c_4 hl (by omega) ?_
  rw [my_kI_v]
  refine ⟨92, rfl, in9, ?_⟩
  rw [hO.2.2.2.2.2.2.2.1, show (13 : Int32) = Int32.ofNat 13 from rfl, show (2 : Int32) = Int32.ofNat 2 from rfl, ← Int32.ofNat_mul, oN_a, oN_a]
  refine w_178 (w := 2) (by omega) hA h (by omega) (fun σ1 h1 g1 => ?_)
  rw [my_k0_v]
  refine w_178 (w := 1) (by omega) hA h1 (by omega) (fun σ2 h2 g2 => ?_)
  rw [my_k0_v]
  refine w_178 (w := 1) (by omega) hA h2 (by omega) (fun σ3 h3 g3 => ?_)
  rw [my_k0_v]
  have g13 : eqp (wbF A) σ σ3 := eqp_tr g1 (eqp_tr g2 g3)
  have hbl : (B ++ bts (Int32.ofNat (13 + nm.length + 2 * ws.length)) 2 0 ++ bts (Int32.ofNat 2) 1 0 ++ bts (Int32.ofNat nm.length) 1 0).length = B.length + 4 := by
    rw [List.length_append, List.length_append, List.length_append, bts_l, bts_l, bts_l]
  generalize hG : B ++ bts (Int32.ofNat (13 + nm.length + 2 * ws.length)) 2 0 ++ bts (Int32.ofNat 2) 1 0 ++ bts (Int32.ofNat nm.length) 1 0 = G at h3 hbl
  refine ys_180_38_ok (in8 hA) (w_180n (σ := σ3) (B := G) hA hl hw (by omega) (OcW_o hO g13 (fun c k hh => by unfold wbF at hh; omega)) (NR_o hN g13 (fun c k hh => by unfold wbF at hh; omega)) (fun hh => by have := hc hh; omega) (fun σ' R' q1 q2 q3 q4 q5 => ?_) nm.length 0 σ3 (Nat.zero_add _) (by rw [List.take_zero, List.append_nil]; exact h3) eqp_rf)
  rw [hbl] at q1
  rw [← hG] at q3
  refine hQ σ' R' q1 q2 ?_ q4 (eqp_tr (eqp_mo g13 (fun c k hh => by unfold wbF at hh; unfold wrF; omega)) q5)
  have ee : e1 (2, nm, rcC f1 f2 f3 f4 f5 f6 ws) k = bts (Int32.ofNat (13 + nm.length + 2 * ws.length)) 2 0 ++ bts (Int32.ofNat 2) 1 0 ++ (bts (Int32.ofNat nm.length) 1 0 ++ ltb nm ++ rcC f1 f2 f3 f4 f5 f6 ws) := by
    unfold e1 eh nmE
    rw [if_neg (show ¬ (2 : Nat) = 1 by omega)]
    show bts (Int32.ofNat (2 + nm.length + (rcC f1 f2 f3 f4 f5 f6 ws).length)) 2 0 ++ bts 2 1 0 ++ _ = _
    rw [rcC_l, show 2 + nm.length + (11 + 2 * ws.length) = 13 + nm.length + 2 * ws.length by omega]
    rfl
  rw [ee]
  simp only [List.append_assoc] at q3 ⊢
  exact q3
theorem rcL2_s {x : Et} (h : ¬ eK x = 1) : rcL2 (E ++ [x]) = rcL2 E ++ [(eN x, els E + 4 + (eN x).length)] ∧ itL3 (E ++ [x]) = itL3 E := by
  obtain ⟨s1, s2⟩ := rcp_s (E := E) h
  have hl : hL1 x = 3 := if_neg h
  unfold itL3 rcL2
  rw [s1, s2, List.map_append]
  refine ⟨?_, rfl⟩
  show _ ++ [(eN x, els E + hL1 x + 1 + (eN x).length)] = _
  rw [hl]
theorem c_180 (hA : lg2 A) (hl : isN nm) (hw : ws.length ≤ 30) (hd : 2 ≤ d) (hO : OcW nm f1 f2 f3 f4 f5 f6 ws σ) (h : WX A E E' σ) (hwf : els (E' ++ [(2, nm, rcC f1 f2 f3 f4 f5 f6 ws)]) ≤ 7747 → wfe (2, nm, rcC f1 f2 f3 f4 f5 f6 ws) (nit E')) (hQ : ∀ σ', WX A E (E' ++ [(2, nm, rcC f1 f2 f3 f4 f5 f6 ws)]) σ' → eqp (wrF A) σ σ' → Q (.inl none) κ σ') : my_M e d 180 [.inr (.inr (some A)), .inr (.inr (some 92))] κ σ Q := by
  have h8 := hl.2
  obtain ⟨⟨F, hF⟩, h⟩ := h
  have hEE : ∃ F3, E' ++ [(2, nm, rcC f1 f2 f3 f4 f5 f6 ws)] = E ++ F3 := ⟨F ++ [(2, nm, rcC f1 f2 f3 f4 f5 f6 ws)], by rw [hF, List.append_assoc]⟩
  have hls : els (E' ++ [(2, nm, rcC f1 f2 f3 f4 f5 f6 ws)]) = els E' + (4 + nm.length + (11 + 2 * ws.length)) := by
    rw [els_a, els, els]
    show els E' + (3 + 1 + nm.length + (rcC f1 f2 f3 f4 f5 f6 ws).length + 0) = _
    rw [rcC_l]
    omega
  rcases h with ⟨hW, hC, h0⟩ | ⟨hel, B, L, R, b1, b2, b3, b4, b5, b6, b7, b8⟩
  · obtain ⟨w1, w2, w3⟩ := LgC_W hW hC h0
    have hn := LgW_n hW
    have hlen : (rcL2 E').length = (rcp E').length := by unfold rcL2; rw [List.length_map]
    refine w_180w (k := nit E') hA hl hw hd hO w3 w1 (fun hh => by omega) (fun σ1 R' q1 q2 q3 q4 q5 => ?_)
    have q1 := q1 (by omega)
    rw [en_l] at q1
    have he : en E' 0 ++ e1 (2, nm, rcC f1 f2 f3 f4 f5 f6 ws) (nit E') = en (E' ++ [(2, nm, rcC f1 f2 f3 f4 f5 f6 ws)]) 0 := by rw [en_a, en, en, List.append_nil, Nat.zero_add]
    rw [he] at q3
    have r2 : NI A (itL3 E') σ1 := NI_o w2 q5 (fun c k hh => by unfold wrF at hh; omega)
    obtain ⟨s1, s2⟩ := rcL2_s (E := E') (x := (2, nm, rcC f1 f2 f3 f4 f5 f6 ws)) (by show ¬ (2 : Nat) = 1; omega)
    refine hQ σ1 ⟨hEE, ?_⟩ q5
    by_cases c : els (E' ++ [(2, nm, rcC f1 f2 f3 f4 f5 f6 ws)]) ≤ 7747
    · left
      have hmin : min (els E' + 4 + nm.length) 7747 = els E' + 4 + nm.length := by omega
      rw [hmin] at q1
      obtain ⟨g1, g2⟩ := W_LgC c q3 (by rw [s2]; exact r2) (by rw [s1]; rw [q1] at q4; exact q4)
      exact ⟨⟨wfl_a.mpr ⟨hW.1, by rw [Nat.zero_add]; exact hwf c, trivial⟩, c⟩, g1, g2⟩
    · right
      refine ⟨by omega, en (E' ++ [(2, nm, rcC f1 f2 f3 f4 f5 f6 ws)]) 0, itL3 E', R', by rw [en_l]; omega, q3, r2, itL3_p hW, q4, ?_, ?_, ?_⟩
      · rw [hF, List.append_assoc, en_a]
        exact List.prefix_append _ _
      · rw [hF]
        exact (itL3_a (E := E) (F := F)).1
      · rw [q1, hF]
        exact (itL3_a (E := E) (F := F)).2.trans (List.prefix_append _ _)
  · refine w_180w (k := 0) hA hl hw hd hO b5 b2 (fun _ => b1) (fun σ1 R' q1 q2 q3 q4 q5 => ?_)
    refine hQ σ1 ⟨hEE, Or.inr ⟨by omega, _, L, R', ?_, q3, NI_o b3 q5 (fun c k hh => by unfold wrF at hh; omega), b4, q4, b6.trans (List.prefix_append _ _), b7, ?_⟩⟩ q5
    · rw [List.length_append]; omega
    · by_cases c : R.length < 500
      · rw [q1 c]; exact b8.trans (List.prefix_append _ _)
      · have := b5.2.1
        rw [q2 (by omega)]; exact b8
/-- what is left where the log was full: size, items, records are set back -/
theorem WX_back {s i r : Int32} {σ2 : my_S} (hA : lg2 A) (hW : LgW E) (h : WX A E E' σ) (hf : 7747 < els E') (hs : s = Int32.ofNat (els E)) (hi : i = Int32.ofNat (itp E).length) (hr : r = Int32.ofNat (rcp E).length) (hσ : σ2 = my_uI (my_uI (my_uI σ A 1 s) A 6 i) A 9 r) : LgC A E σ2 := by
  have hA' := hA
  unfold lg2 at hA'
  obtain ⟨_, h⟩ := h
  rcases h with ⟨hW2, _, _⟩ | ⟨hel, B, L, R, b1, b2, b3, b4, b5, b6, b7, b8⟩
  · have := hW2.2; omega
  have hw := hW.2
  subst hσ
  have rd : ∀ {c k : Nat}, c ≠ A → (my_uI (my_uI (my_uI σ A 1 s) A 6 i) A 9 r).1 c k = σ.1 c k := fun hc => by
    rw [my_uI_1, if_neg (by omega), my_uI_1, if_neg (by omega), my_uI_1, if_neg (by omega)]
  refine ⟨?_, fun j x hx => ?_, ⟨?_, fun j y hy => ?_⟩, ?_, fun j y hy => ?_⟩
  · rw [my_uI_1, if_neg (by omega), my_uI_1, if_neg (by omega), uI_s, hs]
  · have hj := (List.getElem?_eq_some_iff.mp hx).1
    rw [en_l] at hj
    rw [rd (by omega)]
    obtain ⟨t, ht⟩ := b6
    refine b2.2.1 j x (by omega) ?_
    rw [← ht, List.getElem?_append_left (by rw [en_l]; exact hj)]
    exact hx
  · rw [my_uI_1, if_neg (by omega), uI_s, hi]
  · have hx : (itL3 E)[j]? = some (eN y.2, y.1 + 1 + (eN y.2).length, (eC y.2).length) := by unfold itL3; rw [List.getElem?_map, hy]; rfl
    have hj := (List.getElem?_eq_some_iff.mp hx).1
    obtain ⟨t, ht⟩ := b7
    have := b3.2.2 j _ (by rw [← ht, List.getElem?_append_left hj]; exact hx)
    rw [rd (by omega), rd (by omega), my_uI_2, my_uI_2, my_uI_2]
    exact this
  · rw [uI_s, hr]
  · have hx : (rcL2 E)[j]? = some (eN y.2, y.1 + 1 + (eN y.2).length) := by unfold rcL2; rw [List.getElem?_map, hy]; rfl
    have hj := (List.getElem?_eq_some_iff.mp hx).1
    obtain ⟨t, ht⟩ := b8
    have := b5.2.2 j _ (by rw [← ht, List.getElem?_append_left hj]; exact hx)
    rw [rd (by omega), my_uI_2, my_uI_2, my_uI_2]
    exact this
end MWS
