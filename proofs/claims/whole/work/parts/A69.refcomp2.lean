
/-! ===== the reference compiles all items ===== -/
/-- what the reference tells of an item -/
def rnC (I : List It) (As : List Ri) (k : Nat) (a : Ri) (σ : my_S) : Prop := σ.1 529 k = Int32.ofNat (riF a + 10) ∧ σ.2.1 530 k = nmR (riN a) ∧ σ.1 531 k = Int32.ofNat (ibA I 0 (As.take k)).length ∧ σ.1 532 k = Int32.ofNat ((ibA I 0 (As.take k)).length + (ib I (rwA (As.take k)).length a).length) ∧ (2 ≤ riF a → σ.1 533 k = Int32.ofNat ((ibA I 0 (As.take k)).length + (hdB a).length + 3) ∧ ∀ u x, (ndF I a)[u]? = some x → σ.1 534 (50 * k + u) = Int32.ofNat x)
def coF (c q : Nat) : Prop := (529 ≤ c ∧ c ≤ 537) ∨ (c = 498 ∧ (q = 49 ∨ q = 57 ∨ q = 60 ∨ (61 ≤ q ∧ q ≤ 64)))
section MRD
variable {e : my_E} {d : Nat} {κ : my_K} {σ : my_S} {Q : my_O → my_K → my_S → Prop} {As : List Ri} {I : List It} {R : List Rw}
theorem ibA_take {k : Nat} {a : Ri} (ha : As[k]? = some a) : ibA I 0 (As.take (k + 1)) = ibA I 0 (As.take k) ++ ib I (rwA (As.take k)).length a := by
  rw [List.take_succ, ha, ibA_a, Nat.zero_add]
  show _ ++ (ib I (rwA (As.take k)).length a ++ []) = _
  rw [List.append_nil]
theorem ibA_le {k : Nat} : (ibA I 0 (As.take k)).length ≤ (ibA I 0 As).length := by
  have := congrArg (fun l => (ibA I 0 l).length) (List.take_append_drop k As)
  simp only [ibA_a, List.length_append] at this
  omega
theorem rnC_o {F : Nat → Nat → Prop} {σ' : my_S} {k : Nat} {a : Ri} (hB : itsB As) (hrel : iRel As I) (hn : (ndF I a).length ≤ 30) (h : rnC I As k a σ) (he : eqp F σ σ') (hF : ∀ c q, F c q → (529 ≤ c → c ≤ 533 → q ≠ k) ∧ (c = 534 → q < 50 * k ∨ 50 * k + 50 ≤ q)) : rnC I As k a σ' := by
  obtain ⟨h1, h2, h3, h4, h5⟩ := h
  have g : ∀ {c}, 529 ≤ c → c ≤ 533 → ¬ F c k := fun h1 h2 hh => (hF _ _ hh).1 h1 h2 rfl
  refine ⟨(eqp_g he (g (by omega) (by omega))).trans h1, ((he _ _ (g (by omega) (by omega))).2.1).trans h2, (eqp_g he (g (by omega) (by omega))).trans h3, (eqp_g he (g (by omega) (by omega))).trans h4, fun hf => ⟨(eqp_g he (g (by omega) (by omega))).trans (h5 hf).1, fun u x hu => ?_⟩⟩
  have hul := (List.getElem?_eq_some_iff.mp hu).1
  exact (eqp_g he (fun hh => by have := (hF _ _ hh).2 rfl; omega)).trans ((h5 hf).2 u x hu)
theorem u_268l (hB : itsB As) (hrel : iRel As I) (hRR : R = rwA As) (hR : R.length ≤ 3200) (hH : ∀ k a, As[k]? = some a → itH (rwA (As.take k)).length a) (hNK : ∀ a ∈ As, 2 ≤ riF a → NKr I (riR a) ∧ (ndF I a).length ≤ 30) (hlen : (ibA I 0 As).length + 5 ≤ 20000) (hd : 8 ≤ d) : ∀ (m k : Nat) (σ : my_S), k + m = As.length → PV As R (ibA I 0 (As.take k)) σ → (∀ j a, j < k → As[j]? = some a → rnC I As j a σ) → (∀ σ', PV As R (ibA I 0 As) σ' → (∀ j a, As[j]? = some a → rnC I As j a σ') → eqp (fun c q => (529 ≤ c ∧ c ≤ 537) ∨ (c = 498 ∧ (q = 57 ∨ q = 60))) σ σ' → ys_268_15 e d (Int32.ofNat As.length) κ σ' Q) → ys_268_15 e d (Int32.ofNat k) κ σ Q := by
  have h42 := itsB_42 hB
  have hn30 : ∀ a ∈ As, (ndF I a).length ≤ 30 := fun a ha => by
    by_cases h2 : 2 ≤ riF a
    · exact (hNK a ha h2).2
    · unfold ndF; rw [if_pos (by omega)]; simp
  intro m
  induction m with
  | zero =>
    intro k σ hk h hj hQ
    have hkk : k = As.length := by omega
    subst hkk
    rw [List.take_length] at h
    exact hQ σ h (fun j a ha => hj j a (List.getElem?_eq_some_iff.mp ha).1 ha) eqp_rf
  | succ m ih =>
    intro k σ hk h hj hQ
    have hkA : k < As.length := by omega
    obtain ⟨a, ha⟩ : ∃ a, As[k]? = some a := ⟨_, List.getElem?_eq_getElem hkA⟩
    have hmem := List.mem_of_getElem? ha
    have hW := hB.2 a hmem
    have r0 := PV_r ha h
    have hle := ibA_le (I := I) (As := As) (k := k + 1)
    have htk := ibA_take (I := I) ha
    have htl : (ibA I 0 (As.take (k + 1))).length = (ibA I 0 (As.take k)).length + (ib I (rwA (As.take k)).length a).length := by rw [htk, List.length_append]
    have hsp : As = As.take k ++ a :: As.drop (k + 1) := by
      have h1 := (List.take_append_drop k As).symm
      rw [List.drop_eq_getElem_cons hkA] at h1
      rw [List.getElem?_eq_getElem hkA] at ha
      rw [Option.some.inj ha] at h1
      exact h1
    have hrA : rwA As = rwA (As.take k) ++ (riR a ++ rwA (As.drop (k + 1))) := by
      have := congrArg rwA hsp
      rw [rwA_a] at this
      exact this
    have bd : my_bd (Int32.ofNat k) 48 := bdk (by omega) (by omega)
    -- the end of an item
    have fin : ∀ σ2, PV As R (ibA I 0 (As.take k) ++ ib I (rwA (As.take k)).length a) σ2 → σ2.1 529 k = Int32.ofNat (riF a + 10) → σ2.2.1 530 k = nmR (riN a) → σ2.1 531 k = Int32.ofNat (ibA I 0 (As.take k)).length → (2 ≤ riF a → σ2.1 533 k = Int32.ofNat ((ibA I 0 (As.take k)).length + (hdB a).length + 3) ∧ ∀ u x, (ndF I a)[u]? = some x → σ2.1 534 (50 * k + u) = Int32.ofNat x) → eqp (fun c q => boF k c q ∨ (529 ≤ c ∧ c ≤ 531 ∧ q = k)) σ σ2 → ys_268_130 e d (Int32.ofNat k) κ σ2 Q := fun σ2 w2 v1 v2 v3 v4 f2 => by
      unfold ys_268_130
      rw [oN_n (by omega), w2.1.1, oN_s]
      refine ⟨bd, ys_268_15_ok ?_⟩
      have f3 : eqp (fun c q => c = 532 ∧ q = k) σ2 (my_uI σ2 532 k (Int32.ofNat (ibA I 0 (As.take k) ++ ib I (rwA (As.take k)).length a).length)) := eqp_I eqp_rf ⟨rfl, rfl⟩
      have w3 := PV_o hB w2 f3 (fun c q hh => by omega)
      have v5 : (my_uI σ2 532 k (Int32.ofNat (ibA I 0 (As.take k) ++ ib I (rwA (As.take k)).length a).length)).1 532 k = Int32.ofNat ((ibA I 0 (As.take k)).length + (ib I (rwA (As.take k)).length a).length) := by rw [uI_s, List.length_append]
      generalize my_uI σ2 532 k (Int32.ofNat (ibA I 0 (As.take k) ++ ib I (rwA (As.take k)).length a).length) = σ3 at f3 w3 v5 ⊢
      rw [← htk] at w3
      have f23 : eqp (fun c q => boF k c q ∨ (529 ≤ c ∧ c ≤ 532 ∧ q = k)) σ σ3 := eqp_tr (eqp_mo f2 (fun c q hh => by rcases hh with hh | hh; exact Or.inl hh; exact Or.inr (by omega))) (eqp_mo f3 (fun c q hh => Or.inr (by omega)))
      refine ih (k + 1) σ3 (by omega) w3 (fun j b hjk hb => ?_) (fun σ4 w4 c4 f4 => hQ σ4 w4 c4 (eqp_tr (eqp_mo f23 (fun c q hh => ?_)) f4))
      · by_cases hjk2 : j = k
        · subst hjk2
          rw [ha] at hb
          cases hb
          refine ⟨(eqp_g f3 (by omega)).trans v1, ((f3 _ _ (by omega)).2.1).trans v2, (eqp_g f3 (by omega)).trans v3, v5, fun hf => ⟨(eqp_g f3 (by omega)).trans (v4 hf).1, fun u x hu => (eqp_g f3 (by omega)).trans ((v4 hf).2 u x hu)⟩⟩
        · have hbm := List.mem_of_getElem? hb
          refine rnC_o hB hrel (hn30 b hbm) (hj j b (by omega) hb) f23 (fun c q hh => ?_)
          unfold boF pwF byF ndFr at hh
          omega
      · unfold boF pwF byF ndFr at hh
        omega
    unfold ys_268_15
    rw [h.2.1.1, if_pos (by rw [oN_lt (by omega) (by omega)]; omega), oN_n (by omega), r0.1, r0.2.1, h.1.1]
    refine ⟨bd, bd, bd, bd, bd, bd, ?_⟩
    have f1 : eqp (fun c q => 529 ≤ c ∧ c ≤ 531 ∧ q = k) σ (my_uI (my_uL (my_uI σ 529 k (Int32.ofNat (riF a + 10))) 530 k (nmR (riN a))) 531 k (Int32.ofNat (ibA I 0 (As.take k)).length)) := eqp_I (eqp_L (eqp_I eqp_rf (by omega)) (by omega)) (by omega)
    have a1 : (my_uI (my_uL (my_uI σ 529 k (Int32.ofNat (riF a + 10))) 530 k (nmR (riN a))) 531 k (Int32.ofNat (ibA I 0 (As.take k)).length)).1 529 k = Int32.ofNat (riF a + 10) := by
      rw [my_uI_1, if_neg (by omega), my_uL_1, uI_s]
    have a2 : (my_uI (my_uL (my_uI σ 529 k (Int32.ofNat (riF a + 10))) 530 k (nmR (riN a))) 531 k (Int32.ofNat (ibA I 0 (As.take k)).length)).2.1 530 k = nmR (riN a) := by
      show (if 530 = 530 ∧ k = k then nmR (riN a) else _) = _
      rw [if_pos ⟨rfl, rfl⟩]
    have a3 : (my_uI (my_uL (my_uI σ 529 k (Int32.ofNat (riF a + 10))) 530 k (nmR (riN a))) 531 k (Int32.ofNat (ibA I 0 (As.take k)).length)).1 531 k = Int32.ofNat (ibA I 0 (As.take k)).length := uI_s
    have w1 := PV_o hB h f1 (fun c q hh => by omega)
    generalize my_uI (my_uL (my_uI σ 529 k (Int32.ofNat (riF a + 10))) 530 k (nmR (riN a))) 531 k (Int32.ofNat (ibA I 0 (As.take k)).length) = σ1 at f1 a1 a2 a3 w1 ⊢
    have r1 := PV_r ha w1
    have hF4 := hW.1
    refine my_if (fun c0 => ?_) (fun c0 => ⟨bd, ?_⟩)
    · have hf0 : riF a = 0 := by have := (oN_e (b := 10) (by omega) (by omega)).mp c0; omega
      have hib : ib I (rwA (As.take k)).length a = bts (Int32.ofNat (riF a)) 1 0 ++ (bts (riT a) 1 0 ++ bts (riV a) 4 0) := by unfold ib; rw [if_pos hf0]
      have hil : (ib I (rwA (As.take k)).length a).length = 6 := by rw [hib]; simp [bts_l]
      refine u_269b w1.1 (by omega) (by omega) (fun σ2 g2 f2 => ?_)
      rw [my_k0_v]
      have w2 := PV_b hB w1 g2 f2
      rw [(PV_r ha w2).2.2.1 (by omega)]
      refine ⟨bd, ?_⟩
      refine u_269b w2.1 (by rw [List.length_append, bts_l]; omega) (by omega) (fun σ3 g3 f3 => ?_)
      rw [my_k0_v]
      have w3 := PV_b hB w2 g3 f3
      rw [(PV_r ha w3).2.2.2.1 (by omega)]
      refine ⟨bd, ?_⟩
      refine u_270 w3.1 (by rw [List.length_append, List.length_append, bts_l, bts_l]; omega) (by omega) (fun σ4 g4 f4 => ?_)
      rw [my_k0_v]
      have w4 := PV_b hB w3 g4 f4
      have f24 := eqp_tr f2 (eqp_tr f3 f4)
      refine fin σ4 ?_ ((eqp_g f24 (by unfold byF; omega)).trans a1) (((f24 _ _ (by unfold byF; omega)).2.1).trans a2) ((eqp_g f24 (by unfold byF; omega)).trans a3) (fun hf => by omega) (eqp_tr (eqp_mo f1 (fun c q hh => Or.inr hh)) (eqp_mo f24 (fun c q hh => Or.inl (Or.inl (Or.inl hh)))))
      rw [hib, hf0, ← List.append_assoc, ← List.append_assoc]
      exact w4
    · rw [r1.1]
      refine my_if (fun c1 => ?_) (fun c1 => ?_)
      · have hf1 : riF a = 1 := by have := (oN_e (b := 11) (by omega) (by omega)).mp c1; omega
        have hib : ib I (rwA (As.take k)).length a = bts (Int32.ofNat (riF a)) 1 0 ++ bts (riV a) 1 0 := by unfold ib; rw [if_neg (by omega), if_pos hf1]
        have hil : (ib I (rwA (As.take k)).length a).length = 2 := by rw [hib]; simp [bts_l]
        refine u_269b w1.1 (by omega) (by omega) (fun σ2 g2 f2 => ?_)
        rw [my_k0_v]
        have w2 := PV_b hB w1 g2 f2
        rw [(PV_r ha w2).2.2.2.1 (by omega)]
        refine ⟨bd, ?_⟩
        refine u_269b w2.1 (by rw [List.length_append, bts_l]; omega) (by omega) (fun σ3 g3 f3 => ?_)
        rw [my_k0_v]
        have w3 := PV_b hB w2 g3 f3
        have f24 := eqp_tr f2 f3
        refine fin σ3 ?_ ((eqp_g f24 (by unfold byF; omega)).trans a1) (((f24 _ _ (by unfold byF; omega)).2.1).trans a2) ((eqp_g f24 (by unfold byF; omega)).trans a3) (fun hf => by omega) (eqp_tr (eqp_mo f1 (fun c q hh => Or.inr hh)) (eqp_mo f24 (fun c q hh => Or.inl (Or.inl (Or.inl hh)))))
        rw [hib, hf1, ← List.append_assoc]
        exact w3
      · have n0 : riF a ≠ 0 := fun hh => c0 (by rw [hh]; rfl)
        have n1 : riF a ≠ 1 := fun hh => c1 (by rw [hh]; rfl)
        have h2 : 2 ≤ riF a := by omega
        refine u_272 hB hrel hR ha h2 rfl (fun j x hj => ?_) ?_ (hNK a hmem h2).1 (hH k a ha) (by omega) w1 (by omega) (fun σ2 w2 b1 b2 f2 => ?_)
        · rw [hRR, hrA, List.getElem?_append_right (by omega), Nat.add_sub_cancel_left, List.getElem?_append_left (List.getElem?_eq_some_iff.mp hj).1]
          exact hj
        · rw [hRR, hrA] at hR
          simp at hR
          omega
        rw [my_k0_v]
        exact fin σ2 w2 ((eqp_g f2 (by unfold boF pwF byF ndFr; omega)).trans a1) (((f2 _ _ (by unfold boF pwF byF ndFr; omega)).2.1).trans a2) ((eqp_g f2 (by unfold boF pwF byF ndFr; omega)).trans a3) (fun _ => ⟨b1, b2⟩) (eqp_tr (eqp_mo f1 (fun c q hh => Or.inr hh)) (eqp_mo f2 (fun c q hh => Or.inl hh)))
end MRD
