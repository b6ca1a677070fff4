
/-! ===== whyName of the law ===== -/
theorem fF_c {E : List Et} {As : List Ri} {I : List It} {C : List Int32} : ∀ {m i : Nat}, fF E As I C m i = 0 ∨ ∃ j, i ≤ j ∧ j < i + m ∧ fF E As I C m i = Int32.ofNat (3 + j)
  | 0, i => Or.inl rfl
  | m + 1, i => by
    rw [fF]
    split
    · rcases fF_c (E := E) (As := As) (I := I) (C := C) (m := m) (i := i + 1) with h | ⟨j, h1, h2, h3⟩
      · exact Or.inl h
      · exact Or.inr ⟨j, by omega, by omega, h3⟩
    · exact Or.inr ⟨i, by omega, by omega, rfl⟩
theorem rsn_c {E : List Et} {As : List Ri} {I : List It} {k : Nat} {a : Ri} : rsn E As I k a = 0 ∨ rsn E As I k a = 1 ∨ rsn E As I k a = 2 ∨ ∃ y j, lrc (rcp E) (riN a) (rcp E).length = some y ∧ j < g1 (eC y.2) 10 ∧ rsn E As I k a = Int32.ofNat (3 + j) := by
  unfold rsn
  cases hn : lrc (rcp E) (riN a) (rcp E).length with
  | none => exact Or.inr (Or.inl rfl)
  | some y =>
    dsimp only
    split
    · rcases fF_c (E := E) (As := As) (I := I) (C := eC y.2) (m := g1 (eC y.2) 10) (i := 0) with h | ⟨j, h1, h2, h3⟩
      · exact Or.inl h
      · exact Or.inr (Or.inr (Or.inr ⟨y, j, rfl, by omega, h3⟩))
    · exact Or.inr (Or.inr (Or.inl rfl))
section MLN
variable {As Bs : List Ri} {I I' : List It} {cnt cu ol sp A : Nat} {e : my_E} {d : Nat} {κ : my_K} {σ σ' : my_S} {Q : my_O → my_K → my_S → Prop} {E : List Et} {v4 : Int32}
theorem c_25y {k : Nat} {a : Ri} {v w : Int32} (h : LD As I cu σ) (hS : LVs A E σ) (hf : fkA As 3 v As.length 0 = some k) (ha : As[k]? = some a) (hκ : 1 ≤ κ.2.1 ∧ 6 ≤ κ.2.2) (hd : 9 ≤ d) (hw : w < 0 → Q (.inr (κ.1, 15)) (κ.1 + 1, κ.2.1 - 1, κ.2.2 - 6) σ) (hx : ¬ w < 0 → rsn E As I k a < 3 → ∀ σ', eqp oF σ σ' → Q (.inr (κ.1, 17)) (κ.1 + 1, κ.2.1 - 1, κ.2.2 - 6) σ') (hQ : ∀ y j n, w = Int32.ofNat n → n < 2147483648 → lrc (rcp E) (riN a) (rcp E).length = some y → j < g1 (eC y.2) 10 → rsn E As I k a = Int32.ofNat (3 + j) → ∀ σ', eqp oF σ σ' → Q (.inl (some (.inl (lno (eN (eAt E (g2 (eC y.2) (11 + 2 * j)))) n)))) κ σ') : my_M e d 25 [.inr (.inr (some 32)), .inl v, .inl w] κ σ Q := by
  obtain ⟨d, rfl⟩ := dS 1 (show 1 ≤ d by omega)
  obtain ⟨d', rfl⟩ := dS 1 (show 1 ≤ d by omega)
  refine ys_25 ?_
  unfold ys_25_0
  refine c_17b h hκ (by omega) (fun hf' => by rw [hf] at hf'; cases hf') (fun k' hf' => ?_)
  rw [hf] at hf'
  cases hf'
  rw [my_kA_v]
  refine ys_18 ?_
  unfold ys_18_0
  refine my_if (fun c => ⟨⟨by omega, hκ⟩, ?_⟩) (fun c => ?_)
  · rw [my_k0_x]; exact hw c
  rw [my_k0_v, h.2.2.2.2.2.1]
  refine c_154 h hS ha (by omega) (fun σ1 o1 ld1 ls1 f1 => ?_)
  rw [my_kI_v]
  refine my_if (fun c3 => ⟨⟨by omega, hκ⟩, hx c c3 σ1 f1⟩) (fun c3 => ?_)
  rcases rsn_c (E := E) (As := As) (I := I) (k := k) (a := a) with hr | hr | hr | ⟨y, j, hl, hj, hr⟩
  · rw [hr] at c3; exact absurd (by decide) c3
  · rw [hr] at c3; exact absurd (by decide) c3
  · rw [hr] at c3; exact absurd (by decide) c3
  obtain ⟨n, hn, hn2⟩ := nn_of c
  have hQ := hQ y j n hn hn2 hl hj hr
  have hym := (lrc_m hl).1
  obtain ⟨r1, r2, r3, r4, r5, r6⟩ := rec_w hS.2.1 hym
  obtain ⟨z, hz, hz2⟩ := itp_e (r6 j hj)
  have hzn := (wfl_p hS.2.1.1 (itp_m (List.mem_of_getElem? hz)).1).1
  rw [hz2] at hQ
  obtain ⟨z2, hk42⟩ := cl_nm ld1 ha
  rw [hr, show (3 : Int32) = Int32.ofNat 3 from rfl, oN_d]
  refine ys_156 ?_
  unfold ys_156_0
  refine ⟨_, rfl, in11 h.2.2.1 hk42, ?_⟩
  rw [z2]
  refine c_157 ls1 (h.1.2 a (List.mem_of_getElem? ha)).2.1 (by omega) (fun hl' => by rw [hl] at hl'; cases hl') (fun y' hl' σ2 o2 f2 => ?_)
  rw [hl] at hl'
  cases hl'
  have hA := hS.1
  have ls2 : LVs A E σ2 := LVs_o ls1 f2 (fun c q hh => by unfold lsN; unfold lg2 at hA; omega)
  rw [my_kI_v, if_neg (by decide)]
  refine c_155 ls2 (by omega) ?_
  rw [my_kA_v]
  refine c_190 o2 r3 hj (by omega) ?_
  rw [my_kI_v]
  refine ⟨A, rfl, in8 hA, c_176 hA hS.2.1 ls2.2.2.2.1 hz (by omega) ?_⟩
  rw [my_kL_v]
  unfold ys_156_30
  rw [my_kL_v, hn]
  refine c_22 hzn hn2 (by omega) ?_
  rw [my_kI_v]
  exact hQ σ2 (eqp_tr f1 f2)
theorem r_354y {k : Nat} {a : Ri} {v w : Int32} (h : LD As I cu σ) (hS : LVs A E σ) (hf : fkA As 3 v As.length 0 = some k) (ha : As[k]? = some a) (hd : 9 ≤ d) (hw : w < 0 → ∀ σ' x, σ'.1 498 0 = 2 → eqp (fun c k => (c = 498 ∧ k = 0) ∨ plF c k) σ σ' → Q (.inl (some (.inl x))) κ σ') (hx : ¬ w < 0 → rsn E As I k a < 3 → ∀ σ' x, σ'.1 498 0 = 3 → eqp (fun c k => (c = 498 ∧ k = 0) ∨ plF c k) σ σ' → Q (.inl (some (.inl x))) κ σ') (hQ : ∀ y j n, w = Int32.ofNat n → n < 2147483648 → lrc (rcp E) (riN a) (rcp E).length = some y → j < g1 (eC y.2) 10 → rsn E As I k a = Int32.ofNat (3 + j) → ∀ σ', σ'.1 498 0 = 0 → eqp (fun c k => (c = 498 ∧ k = 0) ∨ plF c k) σ σ' → Q (.inl (some (.inl (lno (eN (eAt E (g2 (eC y.2) (11 + 2 * j)))) n)))) κ σ') : my_M e d 354 [.inr (.inr (some 498)), .inl v, .inl w] κ σ Q := by
  obtain ⟨d, rfl⟩ := dS 2 (show 2 ≤ d by omega)
  have h42 := itsB_42 h.1
  have hcl := cnK_le (A := As) (k := 3)
  have v0 := (fkA_ok h.1 hf).2.2
  obtain ⟨nv, hnv, hnv2⟩ := nn_of v0
  have hlt : nv < cnK As 3 := (fkA_w (K := 3) h.1 (by omega) hnv2).2 k (by rw [show Int32.ofNat 3 = 3 from rfl, ← hnv]; exact hf)
  refine ys_354 ?_
  unfold ys_354_0
  rw [if_neg h.2.2.2.2.1]
  unfold ys_354_13
  rw [if_neg v0, h.2.2.2.2.2.2.2.2.2.2.2.2.2, if_pos (by rw [hnv]; exact (oN_lt hnv2 (by omega)).mpr hlt)]
  refine my_if (fun c => ?_) (fun c => ?_)
  · unfold ys_354_29 ys_354_34
    refine r_215_2 ?_
    rw [my_kI_v, if_neg (by decide)]
    exact hw c _ _ uI_s (eqp_I eqp_rf (Or.inl ⟨rfl, rfl⟩))
  unfold ys_354_34
  refine r_215_0 ?_
  rw [my_kI_v, if_pos rfl]
  have f1 : eqp (fun c k => (c = 498 ∧ k = 0) ∨ plF c k) σ (my_uI σ 498 0 0) := eqp_I eqp_rf (Or.inl ⟨rfl, rfl⟩)
  have u1 : (my_uI σ 498 0 0).1 498 0 = 0 := uI_s
  generalize my_uI σ 498 0 0 = σ1 at f1 u1 ⊢
  have f1' : eqp skF σ σ1 := eqp_mo f1 (fun c k hh => by unfold skF; rcases hh with hh | hh; exact Or.inl hh; exact Or.inr (Or.inr (Or.inl hh)))
  refine r_341 (LD_r h f1') (LVs_r hS f1') hf ha (by omega) (fun σ4 p4 ld4 ls4 f4 => ?_)
  have hR := ls4.2.2.2.2.1
  have f14 : eqp (fun c k => (c = 498 ∧ k = 0) ∨ plF c k) σ σ4 := eqp_tr f1 (eqp_mo f4 (fun c k hh => Or.inr hh))
  have u4 : σ4.1 498 0 = 0 := by rw [eqp_g f4 (by unfold plF; omega)]; exact u1
  rw [my_kI_v]
  refine r_353 ld4 hS.2.1 hS.2.2.1 hR p4 hf ha (by omega) ?_
  rw [my_kI_v]
  refine my_if (fun c3 => hx c c3 _ _ uI_s (eqp_I f14 (Or.inl ⟨rfl, rfl⟩))) (fun c3 => ?_)
  rcases rsn_c (E := E) (As := As) (I := I) (k := k) (a := a) with hr | hr | hr | ⟨y, j, hl, hj, hr⟩
  · rw [hr] at c3; exact absurd (by decide) c3
  · rw [hr] at c3; exact absurd (by decide) c3
  · rw [hr] at c3; exact absurd (by decide) c3
  obtain ⟨n, hn, hn2⟩ := nn_of c
  have hQ := hQ y j n hn hn2 hl hj hr σ4 u4 f14
  have hym := (lrc_m hl).1
  obtain ⟨r1, r2, r3, r4, r5, r6⟩ := rec_w hS.2.1 hym
  have r6j := r6 j hj
  obtain ⟨z, hz, hz2⟩ := itp_e r6j
  have hzp := (itp_m (List.mem_of_getElem? hz)).1
  have hzn := (wfl_p hS.2.1.1 hzp).1
  have hz8 := hzn.2
  have hzb := (pse_b hzp).2
  have hw2 := hS.2.1.2
  have hnW := LgW_n hS.2.1
  rw [hz2] at hQ
  rw [hr, hl, show (3 : Int32) = Int32.ofNat 3 from rfl, oN_d]
  show my_M e (d + 1) 294 [.inr (.inr (some 498)), .inl (Int32.ofNat y.1), .inl (Int32.ofNat j)] κ σ4 _
  refine r_294 hS.2.1 hR r1 (by omega) (by omega) ?_
  rw [my_kI_v, oN_n (by omega), (p4.1.2 _ z hz).1, oN_n (by omega), lr_n hR hzp hzn, hn]
  refine ⟨bdk (by omega) (by omega), bdk (by omega) (by omega), ?_⟩
  unfold ys_354_111
  unfold lno at hQ
  refine my_if (fun c5 => ?_) (fun c5 => ?_)
  · have c5 := (oN_lt hn2 (by omega)).mp c5
    rw [List.getElem?_eq_getElem c5] at hQ
    rw [oN_s, oN_a, oN_n (by omega), lr_l hR hzp hzn c5]
    exact ⟨bdk (by omega) (by omega), hQ⟩
  · have c5 : ¬ n < (eN z.2).length := fun hh => c5 ((oN_lt hn2 (by omega)).mpr hh)
    rw [List.getElem?_eq_none (by omega)] at hQ
    exact hQ
theorem l_10z (h : LD As I cu σ) (hS : LVs A E σ) (hκ : 1 ≤ κ.2.1 ∧ 6 ≤ κ.2.2) (b1 : my_bd (v4 + 1) e.2.1) (b2 : my_bd (v4 + 2) e.2.1) (hn : ∀ κ' σ', (κ' = κ ∨ κ' = (κ.1 + 1, κ.2.1 - 1, κ.2.2 - 6)) → eqp skF σ σ' → ys_law_1663 e 1049 v4 κ' σ' Q) : ys_law_733 e 1049 v4 κ σ Q := by
  unfold ys_law_733
  refine ⟨b1, b2, ys_385 ?_⟩
  unfold ys_385_0
  generalize e.2.2 (v4 + 1 : Int32).toNatClampNeg = x1
  generalize e.2.2 (v4 + 2 : Int32).toNatClampNeg = x2
  have toS : ∀ {σ1 σ2 : my_S}, eqp skF σ σ1 → eqp (fun c k => (c = 498 ∧ k = 0) ∨ plF c k) σ1 σ2 → eqp skF σ σ2 := fun f1 f2 => eqp_tr f1 (eqp_mo f2 (fun c k hh => by unfold skF; rcases hh with hh | hh; exact Or.inl hh; exact Or.inr (Or.inr (Or.inl hh))))
  cases hf : fkA As 3 x1 As.length 0 with
  | none =>
    refine ys_25 ?_
    unfold ys_25_0
    refine c_17b h hκ (by omega) (fun _ => ?_) (fun k hf' => by rw [hf] at hf'; cases hf')
    rw [my_kA_x, my_kI_x, if_neg (show ¬ (15 : Nat) = 13 by decide), if_pos rfl, my_kI_v]
    have fin : ∀ σ1 : my_S, σ1.1 498 0 = 2 → eqp skF σ σ1 → my_M e 1049 213 [.inr (.inr (some 498))] (κ.1 + 1, κ.2.1 - 1, κ.2.2 - 6) σ1 (my_kI (fun x7 κ8 σ9 => if x7 = 2 then (if (2 : Int32) = 0 then (if (lg_cmp (σ9.2.1 585 0) (0 : Int32).toInt64) = 0 then (ys_law_798 e 1049 v4 κ8 σ9 Q) else (Q (.inl (some (.inl 0))) κ8 σ9)) else (ys_law_798 e 1049 v4 κ8 σ9 Q)) else (Q (.inl (some (.inl 0))) κ8 σ9)) (fun y10 κ11 σ12 => Q (.inr y10) κ11 σ12)) := fun σ1 u1 f1 => by
      refine r_213 ?_
      rw [my_kI_v, u1, if_pos rfl, if_neg (by decide)]
      exact hn _ σ1 (Or.inr rfl) f1
    refine ⟨b1, b2, ys_354 ?_⟩
    unfold ys_354_0
    rw [if_neg h.2.2.2.2.1]
    unfold ys_354_13
    have bad : ∀ {P : my_O → my_K → my_S → Prop} {κ' : my_K}, P (.inl (some (.inl 0))) κ' (my_uI σ 498 0 2) → ys_354_29 e 1048 x1 x2 0 κ' σ P := fun hP => by
      unfold ys_354_29 ys_354_34
      refine r_215_2 ?_
      rw [my_kI_v, if_neg (by decide)]
      exact hP
    have f1 : eqp skF σ (my_uI σ 498 0 2) := eqp_I eqp_rf (Or.inl ⟨rfl, rfl⟩)
    have hall : ∀ {P : my_O → my_K → my_S → Prop} {κ' : my_K}, P (.inl (some (.inl 0))) κ' (my_uI σ 498 0 2) → (if x1 < 0 then ys_354_29 e 1048 x1 x2 0 κ' σ P else if x1 < σ.1 498 64 then (if x2 < 0 then ys_354_29 e 1048 x1 x2 0 κ' σ P else ys_354_34 e 1048 x1 x2 0 0 κ' σ P) else ys_354_29 e 1048 x1 x2 0 κ' σ P) := fun hP => by
      refine my_if (fun _ => bad hP) (fun c => ?_)
      refine my_if (fun c2 => ?_) (fun _ => bad hP)
      exfalso
      obtain ⟨nv, hnv, hnv2⟩ := nn_of c
      have h42 := itsB_42 h.1
      have hcl := cnK_le (A := As) (k := 3)
      rw [h.2.2.2.2.2.2.2.2.2.2.2.2.2, hnv] at c2
      obtain ⟨k, hk⟩ := (fkA_w (K := 3) h.1 (by omega) hnv2).1 ((oN_lt hnv2 (by omega)).mp c2)
      rw [show Int32.ofNat 3 = 3 from rfl, ← hnv, hf] at hk
      cases hk
    refine hall ?_
    rw [my_kI_v]
    exact fin _ uI_s f1
  | some k =>
    obtain ⟨a, ha⟩ := fk3 hf
    refine c_25y h hS hf ha hκ (by omega) (fun c => ?_) (fun c hr σ1 f1 => ?_) (fun y j n hw hw2 hl hj hr σ1 f1 => ?_)
    · rw [my_kI_x, if_neg (show ¬ (15 : Nat) = 13 by decide), if_pos rfl, my_kI_v]
      refine ⟨b1, b2, r_354y h hS hf ha (by omega) (fun _ σ2 x u2 f2 => ?_) (fun c' => absurd c c') (fun y j n hw hw2 => by rw [hw] at c; exact absurd c (oN_0 hw2))⟩
      rw [my_kI_v]
      refine r_213 ?_
      rw [my_kI_v, u2, if_pos rfl, if_neg (by decide)]
      exact hn _ σ2 (Or.inr rfl) (toS eqp_rf f2)
    · have f1' : eqp skF σ σ1 := eqp_mo f1 (fun c k hh => by unfold skF; omega)
      rw [my_kI_x, if_neg (show ¬ (17 : Nat) = 13 by decide), if_neg (show ¬ (17 : Nat) = 15 by decide), if_pos rfl, my_kI_v]
      refine ⟨b1, b2, r_354y (LD_r h f1') (LVs_r hS f1') hf ha (by omega) (fun c' => absurd c' c) (fun _ _ σ2 x u2 f2 => ?_) (fun y j n hw hw2 hl hj hr' => ?_)⟩
      · rw [my_kI_v]
        refine r_213 ?_
        rw [my_kI_v, u2, if_pos rfl, if_neg (by decide)]
        exact hn _ σ2 (Or.inr rfl) (toS f1' f2)
      · obtain ⟨r1, r2, r3, _⟩ := rec_w hS.2.1 (lrc_m hl).1
        rw [hr'] at hr
        have := (oN_lt1 (b := 3) (c := 3) rfl (by omega) (by omega)).mp hr
        omega
    · rw [my_kI_v, my_kI_v]
      generalize hx : lno (eN (eAt E (g2 (eC y.2) (11 + 2 * j)))) n = x
      generalize hy : x.toInt64 = z
      have f2 : eqp skF σ (my_uL σ1 585 0 z) := eqp_L (eqp_mo f1 (fun c k hh => by unfold skF; omega)) (Or.inr (Or.inl ⟨rfl, rfl⟩))
      have u2 : (my_uL σ1 585 0 z).2.1 585 0 = z := by rw [my_uL_2, if_pos ⟨rfl, rfl⟩]
      generalize my_uL σ1 585 0 z = σ2 at f2 u2 ⊢
      obtain ⟨r1, r2, r3, _⟩ := rec_w hS.2.1 (lrc_m hl).1
      refine ⟨b1, b2, r_354y (LD_r h f2) (LVs_r hS f2) hf ha (by omega) (fun c' => by rw [hw] at c'; exact absurd c' (oN_0 hw2)) (fun _ c3 => ?_) (fun y' j' n' hw' hw2' hl' hj' hr' σ4 u5 f4 => ?_)⟩
      · rw [hr] at c3
        have := (oN_lt1 (b := 3) (c := 3) rfl (by omega) (by omega)).mp c3
        omega
      · rw [hl] at hl'
        cases hl'
        have e1 : n' = n := (oN_e hw2' hw2).mp (hw'.symm.trans hw)
        have e2 : 3 + j' = 3 + j := (oN_e (by omega) (by omega)).mp (hr'.symm.trans hr)
        have e3 : j' = j := by omega
        rw [e1, e3, hx, my_kI_v]
        refine r_213 ?_
        have u6 : σ4.2.1 585 0 = z := by rw [(f4 585 0 (by unfold plF; omega)).2.1]; exact u2
        rw [my_kI_v, u5, if_pos rfl, if_pos rfl, hy, if_pos (lg_cmp_0.mpr u6)]
        exact hn _ σ4 (Or.inl rfl) (toS f2 f4)
end MLN
