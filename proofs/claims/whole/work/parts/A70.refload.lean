
/-! ===== the reference loads ===== -/
/-- what the reference has of what is loaded -/
def NowR (I : List It) (As : List Ri) (σ : my_S) : Prop := RBy (ibA I 0 As) σ ∧ (∀ k a, As[k]? = some a → rnC I As k a σ) ∧ σ.1 498 49 = Int32.ofNat As.length ∧ σ.1 498 61 = Int32.ofNat (cnK As 0) ∧ σ.1 498 62 = Int32.ofNat (cnK As 1) ∧ σ.1 498 63 = Int32.ofNat (cnK As 2) ∧ σ.1 498 64 = Int32.ofNat (cnK As 3)
/-- .. and of what was loaded before it -/
def OldR (m l : Nat) (σ0 σ : my_S) : Prop := σ.1 498 124 = Int32.ofNat m ∧ (∀ j, j < m → σ.1 570 j = σ0.1 529 j ∧ σ.2.1 571 j = σ0.2.1 530 j ∧ σ.1 572 j = σ0.1 531 j ∧ σ.1 573 j = σ0.1 532 j) ∧ ∀ j, j < l → σ.1 574 j = σ0.1 535 j
def olF (c k : Nat) : Prop := (c = 498 ∧ k = 124) ∨ (570 ≤ c ∧ c ≤ 574)
section MRL
variable {e : my_E} {d : Nat} {κ : my_K} {σ : my_S} {Q : my_O → my_K → my_S → Prop} {As : List Ri} {I : List It} {R : List Rw} {t : Nat → Int32} {n : Nat}
theorem u_268 (hB : itsB As) (hrel : iRel As I) (hRR : R = rwA As) (hR : R.length ≤ 3200) (hH : ∀ k a, As[k]? = some a → itH (rwA (As.take k)).length a) (hNK : ∀ a ∈ As, 2 ≤ riF a → NKr I (riR a) ∧ (ndF I a).length ≤ 30) (hlen : (ibA I 0 As).length + 5 ≤ 20000) (hd : 9 ≤ d) (h : TM As R σ) (hQ : ∀ σ', NowR I As σ' → eqp coF σ σ' → Q (.inl none) κ σ') : my_M e d 268 [.inr (.inr (some 498))] κ σ Q := by
  obtain ⟨d, rfl⟩ := dS 1 (show 1 ≤ d by omega)
  have h42 := itsB_42 hB
  refine ys_268 ?_
  unfold ys_268_0
  rw [h.1.1]
  have f1 : eqp (fun c q => c = 498 ∧ (q = 57 ∨ q = 49)) σ (my_uI (my_uI σ 498 57 0) 498 49 (Int32.ofNat As.length)) := eqp_I (eqp_I eqp_rf (by omega)) (by omega)
  have v1 : (my_uI (my_uI σ 498 57 0) 498 49 (Int32.ofNat As.length)).1 498 49 = Int32.ofNat As.length := uI_s
  have w1 : PV As R [] (my_uI (my_uI σ 498 57 0) 498 49 (Int32.ofNat As.length)) := ⟨⟨by rw [my_uI_1, if_neg (by omega), uI_s]; rfl, fun i x hi => by simp at hi⟩, TM_p hB h f1 (fun c q hh => by omega)⟩
  generalize my_uI (my_uI σ 498 57 0) 498 49 (Int32.ofNat As.length) = σ1 at f1 v1 w1 ⊢
  refine ys_268_15_ok (u_268l hB hrel hRR hR hH hNK hlen (by omega) As.length 0 σ1 (by omega) w1 (fun j a hj => by omega) (fun σ2 w2 c2 f2 => ?_))
  unfold ys_268_15
  rw [w2.2.1.1, if_neg (by rw [oN_lt (by omega) (by omega)]; omega)]
  refine r_227 (f := 0) (by omega) hB w2.2.1 (by omega) ?_
  rw [my_kI_v]
  have e3 : eqp (fun c q => c = 498 ∧ q = 61) σ2 (my_uI σ2 498 61 (Int32.ofNat (cnK As (kdf 0)))) := eqp_I eqp_rf ⟨rfl, rfl⟩
  have w3 := PV_o hB w2 e3 (fun c q hh => by omega)
  have v3 : (my_uI σ2 498 61 (Int32.ofNat (cnK As (kdf 0)))).1 498 61 = Int32.ofNat (cnK As 0) := uI_s
  generalize my_uI σ2 498 61 (Int32.ofNat (cnK As (kdf 0))) = σ3 at e3 w3 v3 ⊢
  refine r_227 (f := 1) (by omega) hB w3.2.1 (by omega) ?_
  rw [my_kI_v]
  have e4 : eqp (fun c q => c = 498 ∧ q = 62) σ3 (my_uI σ3 498 62 (Int32.ofNat (cnK As (kdf 1)))) := eqp_I eqp_rf ⟨rfl, rfl⟩
  have w4 := PV_o hB w3 e4 (fun c q hh => by omega)
  have v4 : (my_uI σ3 498 62 (Int32.ofNat (cnK As (kdf 1)))).1 498 62 = Int32.ofNat (cnK As 1) := uI_s
  generalize my_uI σ3 498 62 (Int32.ofNat (cnK As (kdf 1))) = σ4 at e4 w4 v4 ⊢
  refine r_227 (f := 2) (by omega) hB w4.2.1 (by omega) ?_
  rw [my_kI_v]
  have e5 : eqp (fun c q => c = 498 ∧ q = 63) σ4 (my_uI σ4 498 63 (Int32.ofNat (cnK As (kdf 2)))) := eqp_I eqp_rf ⟨rfl, rfl⟩
  have w5 := PV_o hB w4 e5 (fun c q hh => by omega)
  have v5 : (my_uI σ4 498 63 (Int32.ofNat (cnK As (kdf 2)))).1 498 63 = Int32.ofNat (cnK As 2) := uI_s
  generalize my_uI σ4 498 63 (Int32.ofNat (cnK As (kdf 2))) = σ5 at e5 w5 v5 ⊢
  refine r_227 (f := 4) (by omega) hB w5.2.1 (by omega) ?_
  rw [my_kI_v]
  have e6 : eqp (fun c q => c = 498 ∧ q = 64) σ5 (my_uI σ5 498 64 (Int32.ofNat (cnK As (kdf 4)))) := eqp_I eqp_rf ⟨rfl, rfl⟩
  have w6 := PV_o hB w5 e6 (fun c q hh => by omega)
  have v6 : (my_uI σ5 498 64 (Int32.ofNat (cnK As (kdf 4)))).1 498 64 = Int32.ofNat (cnK As 3) := uI_s
  generalize my_uI σ5 498 64 (Int32.ofNat (cnK As (kdf 4))) = σ6 at e6 w6 v6 ⊢
  have hn30 : ∀ a ∈ As, (ndF I a).length ≤ 30 := fun a ha => by
    by_cases h2 : 2 ≤ riF a
    · exact (hNK a ha h2).2
    · unfold ndF; rw [if_pos (by omega)]; simp
  have e36 : eqp (fun c q => c = 498 ∧ 61 ≤ q ∧ q ≤ 64) σ2 σ6 := eqp_tr (eqp_mo e3 (fun c q hh => by omega)) (eqp_tr (eqp_mo e4 (fun c q hh => by omega)) (eqp_tr (eqp_mo e5 (fun c q hh => by omega)) (eqp_mo e6 (fun c q hh => by omega))))
  refine hQ σ6 ⟨w6.1, fun k a ha => rnC_o hB hrel (hn30 a (List.mem_of_getElem? ha)) (c2 k a ha) e36 (fun c q hh => by omega), ?_, ?_, ?_, ?_, v6⟩ ?_
  · rw [eqp_g e36 (by omega), eqp_g f2 (by omega)]; exact v1
  · rw [eqp_g e6 (by omega), eqp_g e5 (by omega), eqp_g e4 (by omega)]; exact v3
  · rw [eqp_g e6 (by omega), eqp_g e5 (by omega)]; exact v4
  · rw [eqp_g e6 (by omega)]; exact v5
  · refine eqp_tr (eqp_mo f1 (fun c q hh => ?_)) (eqp_tr (eqp_mo f2 (fun c q hh => ?_)) (eqp_mo e36 (fun c q hh => ?_)))
    all_goals (unfold coF; omega)
theorem u_267 {m l : Nat} (hm : (if σ.1 498 65 = 0 then 0 else σ.1 498 49) = Int32.ofNat m) (hm48 : m ≤ 48) (hl : σ.1 498 57 = Int32.ofNat l) (hl2 : l ≤ 20000) (hd : 1 ≤ d) (hQ : ∀ σ', OldR m l σ σ' → eqp olF σ σ' → Q (.inl none) κ σ') : my_M e d 267 [.inr (.inr (some 498))] κ σ Q := by
  obtain ⟨d, rfl⟩ := dS 1 hd
  -- the bytes
  have lb : ∀ (c j : Nat) (σ1 : my_S), j + c = l → eqp olF σ σ1 → σ1.1 498 124 = Int32.ofNat m → (∀ u, u < m → σ1.1 570 u = σ.1 529 u ∧ σ1.2.1 571 u = σ.2.1 530 u ∧ σ1.1 572 u = σ.1 531 u ∧ σ1.1 573 u = σ.1 532 u) → (∀ u, u < j → σ1.1 574 u = σ.1 535 u) → ys_267_85 e d (Int32.ofNat j) κ σ1 Q := fun c => by
    induction c with
    | zero =>
      intro j σ1 hj f1 v1 v2 v3
      unfold ys_267_85
      rw [eqp_g f1 (show ¬ olF 498 57 by unfold olF; omega), hl, if_neg (by rw [oN_lt (by omega) (by omega)]; omega)]
      exact hQ σ1 ⟨v1, v2, fun u hu => v3 u (by omega)⟩ f1
    | succ c ih =>
      intro j σ1 hj f1 v1 v2 v3
      unfold ys_267_85
      rw [eqp_g f1 (show ¬ olF 498 57 by unfold olF; omega), hl, if_pos (by rw [oN_lt (by omega) (by omega)]; omega), oN_n (by omega), oN_s, eqp_g f1 (show ¬ olF 535 j by unfold olF; omega)]
      refine ⟨bdk (m := 20000) (by omega) (by omega), bdk (m := 20000) (by omega) (by omega), ys_267_85_ok ?_⟩
      have e2 : eqp (fun c q => c = 574) σ1 (my_uI σ1 574 j (σ.1 535 j)) := eqp_I eqp_rf rfl
      refine ih (j + 1) _ (by omega) (eqp_tr f1 (eqp_mo e2 (fun c q hh => by unfold olF; omega))) ((eqp_g e2 (by omega)).trans v1) (fun u hu => ?_) (fun u hu => ?_)
      · obtain ⟨x1, x2, x3, x4⟩ := v2 u hu
        exact ⟨(eqp_g e2 (by omega)).trans x1, ((e2 _ _ (by omega)).2.1).trans x2, (eqp_g e2 (by omega)).trans x3, (eqp_g e2 (by omega)).trans x4⟩
      · by_cases huj : u = j
        · subst huj; exact uI_s
        · rw [my_uI_1, if_neg (by omega)]
          exact v3 u (by omega)
  have la : ∀ (c j : Nat) (σ1 : my_S), j + c = m → eqp olF σ σ1 → σ1.1 498 124 = Int32.ofNat m → (∀ u, u < j → σ1.1 570 u = σ.1 529 u ∧ σ1.2.1 571 u = σ.2.1 530 u ∧ σ1.1 572 u = σ.1 531 u ∧ σ1.1 573 u = σ.1 532 u) → ys_267_21 e d (Int32.ofNat j) κ σ1 Q := fun c => by
    induction c with
    | zero =>
      intro j σ1 hj f1 v1 v2
      unfold ys_267_21
      rw [v1, if_neg (by rw [oN_lt (by omega) (by omega)]; omega)]
      exact ys_267_85_ok (lb l 0 σ1 (by omega) f1 v1 (fun u hu => v2 u (by omega)) (fun u hu => by omega))
    | succ c ih =>
      intro j σ1 hj f1 v1 v2
      have bd : my_bd (Int32.ofNat j) 48 := bdk (by omega) (by omega)
      unfold ys_267_21
      rw [v1, if_pos (by rw [oN_lt (by omega) (by omega)]; omega), oN_n (by omega), oN_s, eqp_g f1 (show ¬ olF 529 j by unfold olF; omega), (f1 530 j (by unfold olF; omega)).2.1, eqp_g f1 (show ¬ olF 531 j by unfold olF; omega), eqp_g f1 (show ¬ olF 532 j by unfold olF; omega)]
      refine ⟨bd, bd, bd, bd, bd, bd, bd, bd, ys_267_21_ok ?_⟩
      have e2 : eqp (fun c q => 570 ≤ c ∧ c ≤ 573 ∧ q = j) σ1 (my_uI (my_uI (my_uL (my_uI σ1 570 j (σ.1 529 j)) 571 j (σ.2.1 530 j)) 572 j (σ.1 531 j)) 573 j (σ.1 532 j)) := eqp_I (eqp_I (eqp_L (eqp_I eqp_rf (by omega)) (by omega)) (by omega)) (by omega)
      have a1 : (my_uI (my_uI (my_uL (my_uI σ1 570 j (σ.1 529 j)) 571 j (σ.2.1 530 j)) 572 j (σ.1 531 j)) 573 j (σ.1 532 j)).1 570 j = σ.1 529 j := by rw [my_uI_1, if_neg (by omega), my_uI_1, if_neg (by omega), my_uL_1, uI_s]
      have a2 : (my_uI (my_uI (my_uL (my_uI σ1 570 j (σ.1 529 j)) 571 j (σ.2.1 530 j)) 572 j (σ.1 531 j)) 573 j (σ.1 532 j)).2.1 571 j = σ.2.1 530 j := by
        show (if 571 = 571 ∧ j = j then _ else _) = _
        rw [if_pos ⟨rfl, rfl⟩]
      have a3 : (my_uI (my_uI (my_uL (my_uI σ1 570 j (σ.1 529 j)) 571 j (σ.2.1 530 j)) 572 j (σ.1 531 j)) 573 j (σ.1 532 j)).1 572 j = σ.1 531 j := by rw [my_uI_1, if_neg (by omega), uI_s]
      have a4 : (my_uI (my_uI (my_uL (my_uI σ1 570 j (σ.1 529 j)) 571 j (σ.2.1 530 j)) 572 j (σ.1 531 j)) 573 j (σ.1 532 j)).1 573 j = σ.1 532 j := uI_s
      generalize my_uI (my_uI (my_uL (my_uI σ1 570 j (σ.1 529 j)) 571 j (σ.2.1 530 j)) 572 j (σ.1 531 j)) 573 j (σ.1 532 j) = σ2 at e2 a1 a2 a3 a4 ⊢
      refine ih (j + 1) σ2 (by omega) (eqp_tr f1 (eqp_mo e2 (fun c q hh => by unfold olF; omega))) ((eqp_g e2 (by omega)).trans v1) (fun u hu => ?_)
      by_cases huj : u = j
      · subst huj; exact ⟨a1, a2, a3, a4⟩
      · obtain ⟨x1, x2, x3, x4⟩ := v2 u (by omega)
        exact ⟨(eqp_g e2 (by omega)).trans x1, ((e2 _ _ (by omega)).2.1).trans x2, (eqp_g e2 (by omega)).trans x3, (eqp_g e2 (by omega)).trans x4⟩
  have st : ∀ v : Int32, v = Int32.ofNat m → ys_267_16 e d v κ σ Q := fun v hv => by
    unfold ys_267_16
    rw [hv]
    exact ys_267_21_ok (la m 0 _ (by omega) (eqp_I eqp_rf (Or.inl ⟨rfl, rfl⟩)) uI_s (fun u hu => by omega))
  refine ys_267 ?_
  unfold ys_267_0
  refine my_if (fun c => st 0 ?_) (fun c => st _ ?_)
  · rw [if_pos c] at hm; exact hm
  · rw [if_neg c] at hm; exact hm
theorem tmR_n {a : Ri} {m : Option Nat} (h : tmR I a m none) : m = none ∧ (2 ≤ riF a → NKr I (riR a)) := by
  unfold tmR at h
  by_cases h0 : riF a = 0
  · rw [if_pos h0] at h
    refine ⟨?_, fun h2 => by omega⟩
    by_cases c : riC a = riT a
    · rw [if_pos c] at h; exact h.symm
    · rw [if_neg c] at h; exact (omin_0.mp h.symm).1
  rw [if_neg h0] at h
  by_cases h1 : riF a = 1
  · rw [if_pos h1] at h
    exact ⟨h.symm, fun h2 => by omega⟩
  rw [if_neg h1] at h
  obtain ⟨LTr, _, h3⟩ := h
  have := trs2_n h3.symm
  exact ⟨this.1, fun _ => this.2⟩
theorem tmA_n : ∀ {As : List Ri} {m : Option Nat}, tmA I As m none → m = none ∧ ∀ a ∈ As, 2 ≤ riF a → NKr I (riR a)
  | [], m, h => ⟨h.symm, fun a ha => absurd ha List.not_mem_nil⟩
  | a :: As, m, h => by
    obtain ⟨m1, h1, h2⟩ := h
    obtain ⟨h3, h4⟩ := tmA_n h2
    subst h3
    obtain ⟨h5, h6⟩ := tmR_n h1
    refine ⟨h5, fun b hb => ?_⟩
    rcases List.mem_cons.mp hb with h7 | h7
    · rw [h7]; exact h6
    · exact h4 b h7
end MRL
