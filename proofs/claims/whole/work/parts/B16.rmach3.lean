
/-! ===== the reference's machine: a call ===== -/
section MRR
variable {e : my_E} {d : Nat} {κ : my_K} {σ σ' : my_S} {Q : my_O → my_K → my_S → Prop} {s : Ms} {As : List Ri} {I : List It}
/-- how many parameters a routine has, in its bytes -/
theorem r_np {j : Nat} {b : Ri} (hR : NowR I As σ) (hb : As[j]? = some b) (hf : 2 ≤ riF b) (h4 : (riQ b).length ≤ 4) (h61 : (ibA I 0 As).length ≤ 6144) : σ.1 531 j = Int32.ofNat (ibA I 0 (As.take j)).length ∧ (ibA I 0 (As.take j)).length + 1 < 6144 ∧ σ.1 535 ((ibA I 0 (As.take j)).length + 1) = Int32.ofNat (riQ b).length ∧ σ.1 533 j = Int32.ofNat (cdB I As j b) := by
  have h1 : (ib I (rwA (As.take j)).length b)[1]? = some (bt (Int32.ofNat (riQ b).length) (Int32.ofNat 0)) := by rw [ib_2 hf]; rfl
  have h2 := ib_q hb h1
  have h3 := (List.getElem?_eq_some_iff.mp h2).1
  refine ⟨(hR.2.1 j b hb).2.2.1, by omega, ?_, ((hR.2.1 j b hb).2.2.2.2 hf).1⟩
  rw [hR.1.2 _ _ h2, bt_0, and255, Nat.mod_eq_of_lt (by omega)]
/-- while a frame is made -/
def frX (D : Nat) (c k : Nat) : Prop := (c = 498 ∧ (k = 75 ∨ k = 70)) ∨ (c = 543 ∧ k = D + 1) ∨ (c = 544 ∧ k = D + 1) ∨ (c = 542 ∧ 10 * (D + 1) ≤ k)
theorem n_304a {j : Nat} {b : Ri} (hR : NowR I As σ) (h61 : (ibA I 0 As).length ≤ 6144) (h : RMs As I s σ) (hb : As[j]? = some b) (hf : 2 ≤ riF b) (hB : itsB As) (hD : zD s < 20) (hT : zT s ≤ 8000) (hc : (riQ b).length ≤ zT s) (hQ : ∀ σ', RMs As I (zopn j (riQ b).length s) σ' → eqp rmF σ σ' → Q (.inl none) κ σ') : ∀ (m i : Nat) (σ1 : my_S), i + m = (riQ b).length → eqp (frX (zD s)) σ σ1 → σ1.1 498 75 = Int32.ofNat (zD s + 1) → σ1.1 498 70 = Int32.ofNat (zT s - (riQ b).length) → σ1.1 543 (zD s + 1) = Int32.ofNat (cbk As I (zw s (zD s)) + zP s (zD s)) → σ1.1 544 (zD s + 1) = Int32.ofNat j → (∀ u, u < 10 → σ1.1 542 (10 * (zD s + 1) + u) = if u < i then zV s (zT s - (riQ b).length + u) else 0) → ys_304_118 e d (Int32.ofNat j) (Int32.ofNat (riQ b).length) (Int32.ofNat i) κ σ1 Q := by
  have h4 : (riQ b).length ≤ 4 := (hB.2 b (List.mem_of_getElem? hb)).2.2.1
  have hj42 := (nmk_lt hB hb).2
  obtain ⟨a1, a2, a3, a4⟩ := r_np hR hb hf h4 h61
  intro m
  induction m with
  | zero =>
    intro i σ1 hi f q1 q2 q3 q4 q5
    have : i = (riQ b).length := by omega
    subst this
    unfold ys_304_118
    rw [if_neg (by rw [oN_lt (by omega) (by omega)]; omega), q1, q2, oN_n (by omega), oN_n (by omega), (eqp_g f (by unfold frX; omega)).trans a4]
    refine ⟨bdk (by omega) (by omega), bdk (by omega) (by omega), ?_⟩
    obtain ⟨h2, h3, hP, h4', h5, h6, h7, h8⟩ := h
    have f2 : eqp (fun c k => frX (zD s) c k ∨ (c = 545 ∧ k = zD s + 1) ∨ (c = 498 ∧ k = 77)) σ (my_uI (my_uI σ1 545 (zD s + 1) (Int32.ofNat (zT s - (riQ b).length))) 498 77 (Int32.ofNat (cdB I As j b))) := eqp_I (eqp_I (eqp_mo f (fun c k hh => Or.inl hh)) (Or.inr (Or.inl ⟨rfl, rfl⟩))) (Or.inr (Or.inr ⟨rfl, rfl⟩))
    have r : ∀ {c k : Nat}, (c = 545 → k ≠ zD s + 1) → (c = 498 → k ≠ 77) → (my_uI (my_uI σ1 545 (zD s + 1) (Int32.ofNat (zT s - (riQ b).length))) 498 77 (Int32.ofNat (cdB I As j b))).1 c k = σ1.1 c k := fun c1 c2 => by
      rw [my_uI_1, if_neg (fun hh => c2 hh.1 hh.2), my_uI_1, if_neg (fun hh => c1 hh.1 hh.2)]
    have e45 : (my_uI (my_uI σ1 545 (zD s + 1) (Int32.ofNat (zT s - (riQ b).length))) 498 77 (Int32.ofNat (cdB I As j b))).1 545 (zD s + 1) = Int32.ofNat (zT s - (riQ b).length) := by rw [my_uI_1, if_neg (by omega), uI_s]
    have e77 : (my_uI (my_uI σ1 545 (zD s + 1) (Int32.ofNat (zT s - (riQ b).length))) 498 77 (Int32.ofNat (cdB I As j b))).1 498 77 = Int32.ofNat (cdB I As j b) := uI_s
    have q1' := (r (c := 498) (k := 75) (by omega) (by omega)).trans q1
    have q2' := (r (c := 498) (k := 70) (by omega) (by omega)).trans q2
    have q3' := (r (c := 543) (k := zD s + 1) (by omega) (by omega)).trans q3
    have q4' := (r (c := 544) (k := zD s + 1) (by omega) (by omega)).trans q4
    have q5' : ∀ u, u < 10 → (my_uI (my_uI σ1 545 (zD s + 1) (Int32.ofNat (zT s - (riQ b).length))) 498 77 (Int32.ofNat (cdB I As j b))).1 542 (10 * (zD s + 1) + u) = if u < (riQ b).length then zV s (zT s - (riQ b).length + u) else 0 := fun u hu => (r (by omega) (by omega)).trans (q5 u hu)
    generalize my_uI (my_uI σ1 545 (zD s + 1) (Int32.ofNat (zT s - (riQ b).length))) 498 77 (Int32.ofNat (cdB I As j b)) = σ2 at f2 e45 e77 q1' q2' q3' q4' q5' ⊢
    have hcb : cbk As I j = cdB I As j b := by unfold cbk; rw [hb]
    refine hQ σ2 ⟨⟨q2', fun i hi => ?_⟩, ⟨q1', fun u hu => ?_⟩, ⟨?_, fun u hu => ?_⟩, fun i hi => ?_, rq5_o h5 f2 (fun c k hh => by unfold frX at hh; omega), rq6_o h6 f2 (fun c k hh => by unfold frX at hh; omega), rq7_o h7 f2 (fun c k hh => by unfold frX at hh; omega), rq8_o h8 f2 (fun c k hh => by unfold frX at hh; omega)⟩ (eqp_mo f2 (fun c k hh => by unfold frX at hh; unfold rmF; omega))
    · have hi : i < zT s - (riQ b).length := hi
      exact (eqp_g f2 (by unfold frX; omega)).trans (h2.2 i (by omega))
    · have hu : u ≤ zD s + 1 := hu
      show _ = Int32.ofNat (upN (zw s) (zD s + 1) j u) ∧ _ = Int32.ofNat (upN (zB s) (zD s + 1) (zT s - (riQ b).length) u)
      by_cases c : u = zD s + 1
      · subst c
        rw [upN_s, upN_s]
        exact ⟨q4', e45⟩
      · rw [upN_o c, upN_o c]
        have h' := h3.2 u (by omega)
        exact ⟨(eqp_g f2 (by unfold frX; omega)).trans h'.1, (eqp_g f2 (by unfold frX; omega)).trans h'.2⟩
    · show _ = Int32.ofNat (cbk As I (upN (zw s) (zD s + 1) j (zD s + 1)) + upN (zP s) (zD s + 1) 0 (zD s + 1))
      rw [upN_s, upN_s, e77, hcb]
      rfl
    · have hu : u < zD s + 1 := hu
      show _ = Int32.ofNat (cbk As I (upN (zw s) (zD s + 1) j u) + upN (zP s) (zD s + 1) 0 u)
      rw [upN_o (by omega), upN_o (by omega)]
      by_cases c : u = zD s
      · subst c
        exact q3'
      · exact (eqp_g f2 (by unfold frX; omega)).trans (hP.2 u (by omega))
    · have hi : i < 10 * (zD s + 1 + 1) := hi
      show _ = if 10 * (zD s + 1) ≤ i then (if i - 10 * (zD s + 1) < (riQ b).length then zV s (zT s - (riQ b).length + (i - 10 * (zD s + 1))) else 0) else zL s i
      by_cases c : 10 * (zD s + 1) ≤ i
      · rw [if_pos c]
        have := q5' (i - 10 * (zD s + 1)) (by omega)
        rw [show 10 * (zD s + 1) + (i - 10 * (zD s + 1)) = i by omega] at this
        exact this
      · rw [if_neg c]
        exact (eqp_g f2 (by unfold frX; omega)).trans (h4' i (by omega))
  | succ m ih =>
    intro i σ1 hi f q1 q2 q3 q4 q5
    unfold ys_304_118
    have hv : σ1.1 541 (zT s - (riQ b).length + i) = zV s (zT s - (riQ b).length + i) := (eqp_g f (by unfold frX; omega)).trans (h.1.2 _ (by omega))
    rw [if_pos ((oN_lt (by omega) (by omega)).mpr (by omega)), q1, q2, ← Int32.ofNat_add, show (10 : Int32) * Int32.ofNat (zD s + 1) + Int32.ofNat i = Int32.ofNat (10 * (zD s + 1) + i) by rw [show (10 : Int32) = Int32.ofNat 10 from rfl, ← Int32.ofNat_mul, ← Int32.ofNat_add], oN_n (by omega), oN_n (by omega), hv, oN_s]
    refine ⟨bdk (by omega) (by omega), bdk (by omega) (by omega), ys_304_118_ok (ih (i + 1) _ (by omega) (eqp_I f (Or.inr (Or.inr (Or.inr ⟨rfl, by omega⟩)))) ?_ ?_ ?_ ?_ (fun u hu => ?_))⟩
    · rw [my_uI_1, if_neg (by omega)]; exact q1
    · rw [my_uI_1, if_neg (by omega)]; exact q2
    · rw [my_uI_1, if_neg (by omega)]; exact q3
    · rw [my_uI_1, if_neg (by omega)]; exact q4
    · rw [my_uI_1]
      by_cases c : u = i
      · subst c
        rw [if_pos ⟨rfl, rfl⟩, if_pos (by omega)]
      · rw [if_neg (by omega), q5 u hu]
        by_cases c2 : u < i
        · rw [if_pos c2, if_pos (by omega)]
        · rw [if_neg c2, if_neg (by omega)]
theorem n_304b {j : Nat} {b : Ri} (hR : NowR I As σ) (h61 : (ibA I 0 As).length ≤ 6144) (h : RMs As I s σ) (hb : As[j]? = some b) (hf : 2 ≤ riF b) (hB : itsB As) (hD : zD s < 20) (hT : zT s ≤ 8000) (hc : (riQ b).length ≤ zT s) (hQ : ∀ σ', RMs As I (zopn j (riQ b).length s) σ' → eqp rmF σ σ' → Q (.inl none) κ σ') : ∀ (m i : Nat) (σ1 : my_S), i + m = 10 → eqp (frX (zD s)) σ σ1 → σ1.1 498 75 = Int32.ofNat (zD s + 1) → σ1.1 498 70 = Int32.ofNat (zT s) → σ1.1 543 (zD s + 1) = Int32.ofNat (cbk As I (zw s (zD s)) + zP s (zD s)) → σ1.1 544 (zD s + 1) = Int32.ofNat j → (∀ u, u < i → σ1.1 542 (10 * (zD s + 1) + u) = 0) → ys_304_65 e d (Int32.ofNat j) (Int32.ofNat i) κ σ1 Q := by
  have h4 : (riQ b).length ≤ 4 := (hB.2 b (List.mem_of_getElem? hb)).2.2.1
  have hj42 := (nmk_lt hB hb).2
  obtain ⟨a1, a2, a3, a4⟩ := r_np hR hb hf h4 h61
  intro m
  induction m with
  | zero =>
    intro i σ1 hi f q1 q2 q3 q4 q5
    have : i = 10 := by omega
    subst this
    unfold ys_304_65
    rw [if_neg (by decide), oN_n (by omega), (eqp_g f (by unfold frX; omega)).trans a1, oN_s, oN_n (by omega), (eqp_g f (by unfold frX; omega)).trans a3, q2]
    have em : Int32.ofNat (zT s) - Int32.ofNat (riQ b).length = Int32.ofNat (zT s - (riQ b).length) := by
      conv => lhs; rw [show zT s = zT s - (riQ b).length + (riQ b).length by omega, Int32.ofNat_add, Int32.add_sub_cancel]
    rw [em]
    refine ⟨bdk (by omega) (by omega), bdk (by omega) (by omega), ?_⟩
    refine ys_304_118_ok (n_304a hR h61 h hb hf hB hD hT hc hQ (riQ b).length 0 _ (by omega) (eqp_I f (Or.inl ⟨rfl, Or.inr rfl⟩)) ?_ uI_s ?_ ?_ (fun u hu => ?_))
    · rw [my_uI_1, if_neg (by omega)]; exact q1
    · rw [my_uI_1, if_neg (by omega)]; exact q3
    · rw [my_uI_1, if_neg (by omega)]; exact q4
    · rw [my_uI_1, if_neg (by omega), if_neg (by omega)]; exact q5 u (by omega)
  | succ m ih =>
    intro i σ1 hi f q1 q2 q3 q4 q5
    unfold ys_304_65
    rw [if_pos ((oN_lt1 (b := 10) (c := 10) rfl (by omega) (by omega)).mpr (by omega)), q1, show (10 : Int32) * Int32.ofNat (zD s + 1) + Int32.ofNat i = Int32.ofNat (10 * (zD s + 1) + i) by rw [show (10 : Int32) = Int32.ofNat 10 from rfl, ← Int32.ofNat_mul, ← Int32.ofNat_add], oN_n (by omega), oN_s]
    refine ⟨bdk (by omega) (by omega), ys_304_65_ok (ih (i + 1) _ (by omega) (eqp_I f (Or.inr (Or.inr (Or.inr ⟨rfl, by omega⟩)))) ?_ ?_ ?_ ?_ (fun u hu => ?_))⟩
    · rw [my_uI_1, if_neg (by omega)]; exact q1
    · rw [my_uI_1, if_neg (by omega)]; exact q2
    · rw [my_uI_1, if_neg (by omega)]; exact q3
    · rw [my_uI_1, if_neg (by omega)]; exact q4
    · rw [my_uI_1]
      by_cases c : u = i
      · subst c
        rw [if_pos ⟨rfl, rfl⟩]
      · rw [if_neg (by omega)]; exact q5 u (by omega)
theorem n_304 {j : Nat} {b : Ri} (hR : NowR I As σ) (hrel : iRel As I) (h30 : ∀ a ∈ As, (ndF I a).length ≤ 30) (h61 : (ibA I 0 As).length ≤ 6144) (h : RMs As I s σ) (hb : As[j]? = some b) (hf : riF b = 2 ∨ riF b = 3) (hB : itsB As) (hF : zF s ≤ 3000) (hD : zD s ≤ 20) (hT : zT s ≤ 8000) (hc : (riQ b).length ≤ zT s) (hd : 3 ≤ d) (hQ : ∀ σ', RMs As I (zcal As j s) σ' → eqp rmF σ σ' → Q (.inl none) κ σ') : my_M e d 304 [.inr (.inr (some 498)), .inl (Int32.ofNat j)] κ σ Q := by
  obtain ⟨d, rfl⟩ := dS 1 (show 1 ≤ d by omega)
  have hj42 := (nmk_lt hB hb).2
  have hnp : npA As j = (riQ b).length := by unfold npA; rw [hb]
  have hk2 : kdf (riF b) = 2 := by rcases hf with hf | hf <;> (rw [hf]; rfl)
  unfold zcal at hQ
  rw [hnp] at hQ
  refine ys_304 ?_
  unfold ys_304_0
  refine n_305 h hF (by omega) (fun σ1 hf1 g1 f1 => ?_) (fun σ1 hf1 g1 f1 => ?_)
  · rw [if_pos hf1] at hQ
    have gt := RMs_t g1 hb
    rw [hk2] at gt
    obtain ⟨g2, f2'⟩ := gt
    have f2 : eqp rmF σ1 (my_uI σ1 540 j 1) := eqp_mo f2' (fun c k hh => by unfold rmF; omega)
    have hD1 : σ1.1 498 75 = Int32.ofNat (zD s) := g1.2.1.1
    have hD2 : (my_uI σ1 540 j 1).1 498 75 = Int32.ofNat (zD s) := g2.2.1.1
    have hP2 : (my_uI σ1 540 j 1).1 498 77 = Int32.ofNat (cbk As I (zw s (zD s)) + zP s (zD s)) := g2.2.2.1.1
    have hT2 : (my_uI σ1 540 j 1).1 498 70 = Int32.ofNat (zT s) := g2.1.1
    rw [my_kI_v, if_neg (by decide), oN_n (by omega), hD1]
    refine ⟨bdk (by omega) (by omega), ?_⟩
    by_cases h20 : zD s < 20
    · rw [if_pos h20] at hQ
      rw [if_neg (fun hh => by have := (oN_e (b := 20) (by omega) (by omega)).mp hh; omega), hD2, oN_s, hP2, oN_n (by omega)]
      refine ⟨bdk (by omega) (by omega), bdk (by omega) (by omega), ?_⟩
      have f12 := eqp_tr f1 f2
      have R2 : NowR I As (my_uI σ1 540 j 1) := NowR_o hB hrel h30 hR f12 (fun c k hh => by unfold rmF at hh; unfold coF; omega)
      generalize my_uI σ1 540 j 1 = σ2 at g2 f12 hD2 hP2 hT2 R2 ⊢
      have fx : eqp (frX (zD s)) σ2 (my_uI (my_uI (my_uI σ2 498 75 (Int32.ofNat (zD s + 1))) 543 (zD s + 1) (Int32.ofNat (cbk As I (zw s (zD s)) + zP s (zD s)))) 544 (zD s + 1) (Int32.ofNat j)) := eqp_I (eqp_I (eqp_I eqp_rf (Or.inl ⟨rfl, Or.inl rfl⟩)) (Or.inr (Or.inl ⟨rfl, rfl⟩))) (Or.inr (Or.inr (Or.inl ⟨rfl, rfl⟩)))
      refine ys_304_65_ok (n_304b (s := ztch 2 (nmk As j) (zbr s)) R2 h61 g2 hb (by omega) hB h20 hT hc (fun σ3 g3 f3 => hQ σ3 g3 (eqp_tr f12 f3)) 10 0 _ (by omega) fx ?_ ?_ ?_ uI_s (fun u hu => by omega))
      · rw [my_uI_1, if_neg (by omega), my_uI_1, if_neg (by omega), uI_s]; rfl
      · rw [my_uI_1, if_neg (by omega), my_uI_1, if_neg (by omega), my_uI_1, if_neg (by omega)]; exact hT2
      · rw [my_uI_1, if_neg (by omega)]; exact uI_s
    · rw [if_neg h20] at hQ
      rw [if_pos (by rw [show zD s = 20 by omega]; rfl)]
      refine n_303 (n := 4) (s := ztch 2 (nmk As j) (zbr s)) g2 (by omega) (fun σ3 g3 f3 => ?_)
      rw [my_k0_v]
      exact hQ σ3 g3 (eqp_tr f1 (eqp_tr f2 f3))
  · rw [if_neg hf1] at hQ
    rw [my_kI_v, if_pos rfl]
    exact hQ σ1 g1 f1
end MRR
