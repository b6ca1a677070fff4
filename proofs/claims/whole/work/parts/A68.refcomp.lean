
/-! ===== the reference compiles ===== -/
/-- what a body changes -/
def boF (k c q : Nat) : Prop := pwF c q ∨ c = 536 ∨ (c = 533 ∧ q = k) ∨ (c = 534 ∧ 50 * k ≤ q ∧ q < 50 * k + 50)
section MRC
variable {e : my_E} {d : Nat} {κ : my_K} {σ : my_S} {Q : my_O → my_K → my_S → Prop} {E : List Int32} {As : List Ri} {I : List It} {R : List Rw} {k i : Nat} {a : Ri}
theorem NKr_F {r : List Rw} (h : NKr I r) : NFr I r := fun x hx h1 h2 => by
  obtain ⟨y, hy, _⟩ := h x hx h1 h2
  rw [hy]; simp
theorem u_272 (hB : itsB As) (hrel : iRel As I) (hR : R.length ≤ 3200) (ha : As[k]? = some a) (h2 : 2 ≤ riF a) (hi : i = (rwA (As.take k)).length) (hRA : ∀ j x, (riR a)[j]? = some x → R[i + j]? = some x) (hl : i + (riR a).length ≤ 3200) (hNK : NKr I (riR a)) (hH : itH i a) (hd : 7 ≤ d) (h : PV As R E σ) (hE : E.length + (ib I i a).length + 5 ≤ 20000)
    (hQ : ∀ σ', PV As R (E ++ ib I i a) σ' → σ'.1 533 k = Int32.ofNat (E.length + (hdB a).length + 3) → (∀ u x, (ndF I a)[u]? = some x → σ'.1 534 (50 * k + u) = Int32.ofNat x) → eqp (boF k) σ σ' → Q (.inl none) κ σ') : my_M e d 272 [.inr (.inr (some 498)), .inl (Int32.ofNat k)] κ σ Q := by
  obtain ⟨d, rfl⟩ := dS 1 (show 1 ≤ d by omega)
  have h42 := itsB_42 hB
  have hkA := (List.getElem?_eq_some_iff.mp ha).1
  have hW := hB.2 a (List.mem_of_getElem? ha)
  have h4 := hW.2.2.1
  have hF4 := hW.1
  have hL := hW.2.2.2.1
  have hV := (itH_a hH h2).2.2.2.1
  have hNF := NKr_F hNK
  have hnd : ndF I a = ndl I (riR a) [] := by unfold ndF; rw [if_neg (by omega)]
  have hib : ib I i a = hdB a ++ (bts (Int32.ofNat (riL a).length) 1 0 ++ bts (Int32.ofNat (lens (riR a))) 2 0) ++ (eb I (jOf i a) (riR a) [] ++ (bts (Int32.ofNat (ndF I a).length) 1 0 ++ nmsB I (ndF I a))) := by
    unfold ib
    rw [if_neg (by omega), if_neg (by omega)]
  have hil : (ib I i a).length = (hdB a).length + 3 + lens (riR a) + 1 + (nmsB I (ndF I a)).length := by
    rw [hib]
    simp [bts_l, eb_l hNF]
    omega
  have hdl := hdB_l (a := a)
  have r1 := PV_r ha h
  rw [← hi] at r1
  refine ys_272 ?_
  unfold ys_272_0
  rw [oN_n (by omega), r1.1]
  refine ⟨bdk (m := 48) (by omega) (by omega), ?_⟩
  refine u_273 hF4 (by omega) ?_
  rw [my_kI_v]
  refine u_269b h.1 (by omega) (by omega) (fun σ1 g1 f1 => ?_)
  rw [my_k0_v]
  have w1 := PV_b hB h g1 f1
  rw [(PV_r ha w1).2.2.2.2.2.1]
  refine ⟨bdk (m := 48) (by omega) (by omega), ?_⟩
  refine u_269b w1.1 (by rw [List.length_append, bts_l]; omega) (by omega) (fun σ2 g2 f2 => ?_)
  rw [my_k0_v]
  have w2 := PV_b hB w1 g2 f2
  refine ys_272_25_ok (u_25 hB ha (by omega) (riQ a).length 0 _ σ2 (by omega) w2 (by rw [List.length_append, List.length_append, bts_l, bts_l]; omega) (fun σ3 w3 f3 => ?_))
  rw [List.drop_zero] at w3
  have r3 := PV_r ha w3
  rw [← hi] at r3
  unfold ys_272_25
  rw [oN_n (by omega), r3.2.2.2.2.2.1, if_neg (by rw [oN_lt (by omega) (by omega)]; omega), r3.2.2.1 (by omega)]
  refine ⟨bdk (m := 48) (by omega) (by omega), bdk (m := 48) (by omega) (by omega), ?_⟩
  refine u_269b w3.1 (by rw [List.length_append, List.length_append, List.length_append, bts_l, bts_l, b1s_l]; omega) (by omega) (fun σ4 g4 f4 => ?_)
  rw [my_k0_v]
  have w4 := PV_b hB w3 g4 f4
  have r4 := PV_r ha w4
  rw [← hi] at r4
  rw [(r4.2.2.2.2.2.2.2 h2).2.2]
  have hE4 : E ++ bts (Int32.ofNat (riF a)) 1 0 ++ bts (Int32.ofNat (riQ a).length) 1 0 ++ b1s (riQ a) ++ bts (riT a) 1 0 = E ++ hdB a := by
    unfold hdB
    simp only [List.append_assoc]
  rw [hE4] at w4
  refine ⟨bdk (m := 48) (by omega) (by omega), ?_⟩
  refine u_269b w4.1 (by rw [List.length_append]; omega) (by omega) (fun σ5 g5 f5 => ?_)
  rw [my_k0_v]
  have w5 := PV_b hB w4 g5 f5
  have r5 := PV_r ha w5
  rw [← hi] at r5
  rw [(r5.2.2.2.2.2.2.2 h2).1]
  refine ⟨bdk (m := 48) (by omega) (by omega), ys_272_84_ok ?_⟩
  have lp := u_84 (e := e) (d := d) (κ := κ) (Q := Q) (E := E ++ hdB a ++ bts (Int32.ofNat (riL a).length) 1 0) hB hR ha h2 hi hRA hl hV (by omega) (riR a).length 0 σ5 (by omega) (fun x h1 h2 => by omega) w5
  rw [List.take_zero, Nat.add_zero] at lp
  refine lp (fun σ6 o6 w6 f6 => ?_)
  have r6 := PV_r ha w6
  rw [← hi] at r6
  unfold ys_272_84
  rw [oN_n (by omega), (r6.2.2.2.2.2.2.2 h2).2.1, if_neg (by rw [oN_lt (by omega) (by omega)]; omega), oN_n (by omega)]
  refine ⟨bdk (m := 48) (by omega) (by omega), bdk (m := 48) (by omega) (by omega), bdk (m := 3201) (by omega) (by omega), ?_⟩
  have f7 : eqp (fun c _ => c = 536) σ6 (my_uI σ6 536 (i + (riR a).length) (Int32.ofNat (lens (riR a)))) := eqp_I eqp_rf rfl
  have w7 := PV_o hB w6 f7 (fun c k hh => by omega)
  have o7 : ∀ x, i ≤ x → x ≤ i + (riR a).length → (my_uI σ6 536 (i + (riR a).length) (Int32.ofNat (lens (riR a)))).1 536 x = jOf i a x := fun x h1 h2 => by
    by_cases hx : x = i + (riR a).length
    · subst hx
      rw [uI_s]
      unfold jOf
      rw [Nat.add_sub_cancel_left, List.take_length]
    · rw [my_uI_1, if_neg (by omega)]
      exact o6 x h1 (by omega)
  generalize my_uI σ6 536 (i + (riR a).length) (Int32.ofNat (lens (riR a))) = σ7 at f7 w7 o7 ⊢
  refine u_271 w7.1 (by rw [List.length_append, List.length_append, bts_l]; omega) (by omega) (fun σ8 g8 f8 => ?_)
  rw [my_k0_v]
  have w8 := PV_b hB w7 g8 f8
  have hE8 : E ++ hdB a ++ bts (Int32.ofNat (riL a).length) 1 0 ++ bts (Int32.ofNat (lens (riR a))) 2 0 = E ++ (hdB a ++ (bts (Int32.ofNat (riL a).length) 1 0 ++ bts (Int32.ofNat (lens (riR a))) 2 0)) := by simp only [List.append_assoc]
  rw [hE8] at w8
  have r8 := PV_r ha w8
  rw [← hi] at r8
  rw [(r8.2.2.2.2.2.2.2 h2).1]
  refine ⟨bdk (m := 48) (by omega) (by omega), bdk (m := 48) (by omega) (by omega), ys_272_158_ok ?_⟩
  have f9 : eqp (fun c q => (c = 533 ∧ q = k) ∨ (c = 498 ∧ q = 60)) σ8 (my_uI (my_uI σ8 533 k (σ8.1 498 57)) 498 60 0) := eqp_I (eqp_I eqp_rf (Or.inl ⟨rfl, rfl⟩)) (Or.inr ⟨rfl, rfl⟩)
  have v9 : (my_uI (my_uI σ8 533 k (σ8.1 498 57)) 498 60 0).1 533 k = Int32.ofNat (E.length + (hdB a).length + 3) := by
    rw [my_uI_1, if_neg (by omega), uI_s, w8.1.1]
    congr 1
    simp [bts_l]
    omega
  have n9 : RNd I [] (my_uI (my_uI σ8 533 k (σ8.1 498 57)) 498 60 0) := ⟨uI_s, fun i x hi => by simp at hi⟩
  have w9v := PV_o hB w8 f9 (fun c k hh => by omega)
  generalize my_uI (my_uI σ8 533 k (σ8.1 498 57)) 498 60 0 = σ9 at f9 v9 n9 w9v ⊢
  have w9 : PW I As R (E ++ (hdB a ++ (bts (Int32.ofNat (riL a).length) 1 0 ++ bts (Int32.ofNat (lens (riR a))) 2 0))) [] σ9 := ⟨w9v.1, n9, ⟨List.nodup_nil, fun x hx => absurd hx List.not_mem_nil⟩, w9v.2⟩
  have hE9 : (E ++ (hdB a ++ (bts (Int32.ofNat (riL a).length) 1 0 ++ bts (Int32.ofNat (lens (riR a))) 2 0))).length = E.length + (hdB a).length + 3 := by
    simp [bts_l]
    omega
  have lp2 := u_158 (e := e) (d := d) (κ := κ) (Q := Q) hB hrel hR ha h2 hi hRA hl hV hNK hH (by omega) (riR a) 0 _ [] σ9 rfl (by omega) (fun x x1 x2 => by
    rw [eqp_g f9 (by omega), eqp_g f8 (show ¬ byF 536 x by unfold byF; omega)]
    exact o7 x x1 x2) w9 (by rw [hE9]; omega)
  rw [Nat.add_zero] at lp2
  refine lp2 (fun σ10 w10 f10 => ?_)
  rw [← hnd] at w10
  have r10 := PW_r hB ha w10
  rw [← hi] at r10
  have hE10 : (E ++ (hdB a ++ (bts (Int32.ofNat (riL a).length) 1 0 ++ bts (Int32.ofNat (lens (riR a))) 2 0)) ++ eb I (jOf i a) (riR a) []).length = E.length + (hdB a).length + 3 + lens (riR a) := by
    rw [List.length_append, hE9, eb_l hNF]
  have h30 := NK_30 hB hrel w10.2.2.1
  unfold ys_272_158
  rw [oN_n (by omega), (r10.2.2.2.2.2.2.2 h2).2.1, if_neg (by rw [oN_lt (by omega) (by omega)]; omega), w10.2.1.1]
  refine ⟨bdk (m := 48) (by omega) (by omega), ?_⟩
  refine u_269b w10.1 (by rw [hE10]; omega) (by omega) (fun σ11 g11 f11 => ?_)
  rw [my_k0_v]
  have w11 := PW_b hB w10 g11 f11
  refine ys_272_189_ok (u_189 hB hrel (by omega) (by omega) (ndF I a).length 0 _ σ11 (by omega) w11 (by rw [List.length_append, hE10, bts_l, List.drop_zero]; omega) (fun u x hu => by omega) (fun σ12 w12 v12 f12 => ?_))
  rw [List.drop_zero] at w12
  have hfin : E ++ (hdB a ++ (bts (Int32.ofNat (riL a).length) 1 0 ++ bts (Int32.ofNat (lens (riR a))) 2 0)) ++ eb I (jOf i a) (riR a) [] ++ bts (Int32.ofNat (ndF I a).length) 1 0 ++ nmsB I (ndF I a) = E ++ ib I i a := by
    rw [hib]
    simp only [List.append_assoc]
  rw [hfin] at w12
  refine hQ σ12 (PW_v w12) ?_ v12 ?_
  · rw [eqp_g f12 (by unfold byF; omega), eqp_g f11 (by unfold byF; omega), eqp_g f10 (by unfold pwF byF ndFr; omega)]
    exact v9
  · refine eqp_tr (eqp_mo (eqp_tr f1 (eqp_tr f2 (eqp_tr f3 (eqp_tr f4 f5)))) (fun c q hh => Or.inl (Or.inl hh))) ?_
    refine eqp_tr (eqp_mo (eqp_tr f6 f7) (fun c q hh => Or.inr (Or.inl hh))) ?_
    refine eqp_tr (eqp_mo f8 (fun c q hh => Or.inl (Or.inl hh))) ?_
    refine eqp_tr (eqp_mo f9 (fun c q hh => ?_)) ?_
    · unfold boF pwF ndFr; omega
    refine eqp_tr (eqp_mo f10 (fun c q hh => Or.inl hh)) ?_
    refine eqp_tr (eqp_mo f11 (fun c q hh => Or.inl (Or.inl hh))) ?_
    refine eqp_mo f12 (fun c q hh => ?_)
    rcases hh with hh | hh
    · exact Or.inl (Or.inl hh)
    · exact Or.inr (Or.inr (Or.inr hh))
end MRC
