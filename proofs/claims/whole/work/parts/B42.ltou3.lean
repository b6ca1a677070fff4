
/-! ===== touched: the reference's, the law's ===== -/
section MLV
variable {As Bs : List Ri} {I I' : List It} {cnt cu ol sp A : Nat} {e : my_E} {d : Nat} {κ : my_K} {σ σ' : my_S} {Q : my_O → my_K → my_S → Prop} {E : List Et} {T : List Int32} {y z : Nat × Et} {v4 : Int32}
theorem r_344y {k : Nat} {a : Ri} {u v w : Int32} (h : LD As I cu σ) (hS : LVs A E σ) (hf : fkA As 3 u As.length 0 = some k) (ha : As[k]? = some a) (hd : 9 ≤ d) (hx : lrc (rcp E) (riN a) (rcp E).length = none → ∀ σ' x, σ'.1 498 0 = 3 → eqp (fun c k => (c = 498 ∧ k = 0) ∨ plF c k) σ σ' → Q (.inl (some (.inl x))) κ σ') (hy : ∀ y, lrc (rcp E) (riN a) (rcp E).length = some y → toA E As (eC y.2) v w = none → ∀ σ' x, σ'.1 498 0 = 4 → eqp (fun c k => (c = 498 ∧ k = 0) ∨ plF c k) σ σ' → Q (.inl (some (.inl x))) κ σ') (hQ : ∀ y b, lrc (rcp E) (riN a) (rcp E).length = some y → toA E As (eC y.2) v w = some b → ∀ σ', σ'.1 498 0 = 0 → eqp (fun c k => (c = 498 ∧ k = 0) ∨ plF c k) σ σ' → Q (.inl (some (.inl (bI b)))) κ σ') : my_M e d 344 [.inr (.inr (some 498)), .inl u, .inl v, .inl w] κ σ Q := by
  obtain ⟨d, rfl⟩ := dS 1 (show 1 ≤ d by omega)
  refine ys_344 ?_
  unfold ys_344_0
  refine r_343y h hS hf ha (by omega) (fun hn σ1 u1 f1 => ?_) (fun y hn σ1 u1 p1 f1 => ?_)
  · rw [my_kI_v, if_pos (by decide)]
    exact hx hn σ1 _ u1 f1
  have hy := hy y hn
  have hQ := fun b hh => hQ y b hn hh σ1 u1 f1
  have hym := (lrc_m hn).1
  obtain ⟨r1, r2, r3, r4, r5, r6⟩ := rec_w hS.2.1 hym
  have hp := (pse_b r1).2
  have hw := hS.2.1.2
  have f1' : eqp skF σ σ1 := eqp_mo f1 (fun c k hh => by unfold skF; rcases hh with hh | hh; exact Or.inl hh; exact Or.inr (Or.inr (Or.inl hh)))
  have ld1 := LD_r h f1'
  have ls1 := LVs_r hS f1'
  have hR := ls1.2.2.2.2.1
  have h42 := itsB_42 h.1
  have e0 := lr_c (i := 0) hR r1 (by omega)
  rw [Nat.add_zero] at e0
  have b0 : my_bd (Int32.ofNat (y.1 + 1 + (eN y.2).length)) 7800 := bdk (by omega) (by omega)
  have g0 := g1_lt (eC y.2) 0
  have q1 := g2_lt (eC y.2) 1
  have q8 := g2_lt (eC y.2) 8
  have n9 := oN_n (p := y.1 + 1 + (eN y.2).length) (by omega)
  rw [my_kI_v, if_neg (oN_0 (by omega))]
  clear hx
  have bad : toA E As (eC y.2) v w = none → ys_344_71 e d κ σ1 Q := fun hh => by
    unfold ys_344_71
    exact hy hh _ _ uI_s (eqp_I f1 (Or.inl ⟨rfl, rfl⟩))
  have fall : ¬ (v = 3 ∧ w = Int32.ofInt (-1)) → ys_344_29 e d v w (Int32.ofNat y.1) 0 κ σ1 Q := fun hno => by
    have go : ∀ s : Int32, s = (if v = 3 then 2 else v) → ys_344_41 e d v w (Int32.ofNat y.1) 0 s κ σ1 Q := fun s hs => by
      have tn : (v < 0 ∨ (3 : Int32) < v) → toA E As (eC y.2) v w = none := fun hv => by unfold toA; rw [if_neg hno, if_pos hv]
      unfold ys_344_41
      refine my_if (fun c => bad (tn (Or.inl c))) (fun c => my_if (fun c2 => bad (tn (Or.inr c2))) (fun c2 => ?_))
      rw [if_pos rfl]
      obtain ⟨V, hV, hV2⟩ := nn_of c
      have hV3 : V ≤ 3 := by
        by_cases hh : V ≤ 3
        · exact hh
        · exfalso
          apply c2
          rw [hV]
          exact (oN_lt (p := 3) (by omega) hV2).mpr (by omega)
      obtain ⟨K, hK, hsK⟩ : ∃ K, K ≤ 2 ∧ s = Int32.ofNat K := by
        by_cases c3 : v = 3
        · exact ⟨2, by omega, by rw [hs, if_pos c3]; rfl⟩
        · refine ⟨V, ?_, by rw [hs, if_neg c3, hV]⟩
          by_cases hh : V = 3
          · exact absurd (by rw [hV, hh]; rfl) c3
          · omega
      have tm : toA E As (eC y.2) v w = match fkA As s w As.length 0 with
          | none => none
          | some k => match As[k]? with
            | none => none
            | some a => some (if v = 3 then decide (g1 (eC y.2) 0 = 1) && isO (eAt E (g2 (eC y.2) 1)) a else aO E (eC y.2) a (g1 (eC y.2) 10) 0) := by
        unfold toA
        rw [if_neg hno, if_neg (fun hh => by rcases hh with hh | hh; exact c hh; exact c2 hh), hs]
        generalize fkA As (if v = 3 then 2 else v) w As.length 0 = o
        cases o with
        | none => rfl
        | some k3 =>
          dsimp only
          cases As[k3]? <;> rfl
      have tnf : fkA As s w As.length 0 = none → toA E As (eC y.2) v w = none := fun hh => by rw [tm, hh]
      refine my_if (fun c4 => bad (tnf ?_)) (fun c4 => ?_)
      · cases hf2 : fkA As s w As.length 0 with
        | none => rfl
        | some k2 => exact absurd c4 (fkA_ok h.1 hf2).2.2
      obtain ⟨W, hW', hW2⟩ := nn_of c4
      have hcl := cnK_le (A := As) (k := K)
      have fw := fkA_w (K := K) h.1 (by omega) hW2
      rw [← hsK, ← hW'] at fw
      rw [hsK]
      refine r_313y ld1 hK (by omega) ?_
      rw [my_kI_v, ← hsK]
      refine my_if (fun c5 => ?_) (fun c5 => bad (tnf ?_))
      · rw [hW'] at c5
        obtain ⟨k2, hk2⟩ := fw.1 ((oN_lt hW2 (by omega)).mp c5)
        obtain ⟨a2, ha2, _⟩ := fkA_k hk2
        rw [hk2] at tm
        dsimp only at tm
        rw [ha2] at tm
        dsimp only at tm
        have hQ := hQ _ tm
        have hk42 := (List.getElem?_eq_some_iff.mp ha2).1
        unfold ys_344_78
        refine r_289 hS.2.1 hR r1 (by omega) ?_
        rw [my_kI_v, if_pos rfl, hsK]
        refine r_281 h.1 (fun k a ha => (ld1.2.2.2.2.2.2.2.2.1 k a ha).1) ld1.2.2.2.2.2.2.2.2.2.1 (by omega) (by omega) ?_
        rw [my_kI_v, ← hsK, hk2]
        show if v = 3 then (my_bd (Int32.ofNat (y.1 + 1 + (eN y.2).length)) 7800 ∧ if σ1.1 547 (Int32.ofNat (y.1 + 1 + (eN y.2).length)).toNatClampNeg = 1 then _ else _) else _
        rw [n9, e0]
        by_cases c3 : v = 3
        · rw [if_pos c3] at hQ ⊢
          refine ⟨b0, my_if (fun c6 => ?_) (fun c6 => ?_)⟩
          · have c6 := g1_1.mp c6
            obtain ⟨z, hz, hz2⟩ := itp_e (r5 c6)
            rw [decide_eq_true c6, Bool.true_and, hz2] at hQ
            refine r_285y hS.2.1 hR r1 (show 1 + 1 < _ by omega) (oN_s _) (by omega) ?_
            rw [my_kI_v]
            show my_M e d 345 [.inr (.inr (some 498)), .inl (Int32.ofNat (g2 (eC y.2) 1)), .inl (Int32.ofNat k2)] κ σ1 _
            refine r_345y ld1 hS.2.1 hR p1 hz ha2 (by omega) ?_
            rw [my_kI_v]
            unfold ys_344_174 ys_344_175
            cases hb : isO z.2 a2 with
            | false => rw [hb] at hQ; rw [if_pos (show bI false = 0 from rfl)]; exact ⟨Or.inl rfl, hQ⟩
            | true => rw [hb] at hQ; rw [if_neg (by decide)]; exact ⟨Or.inr rfl, hQ⟩
          · rw [decide_eq_false (fun hh => c6 (g1_1.mpr hh)), Bool.false_and] at hQ
            unfold ys_344_174 ys_344_175
            exact ⟨Or.inl rfl, hQ⟩
        · rw [if_neg c3] at hQ ⊢
          exact ys_344_182_ok (r_344l ld1 hS.2.1 hR p1 hym ha2 (by omega) _ 0 false (Nat.zero_add _) (by rw [Bool.false_or]; exact hQ))
      · cases hf2 : fkA As s w As.length 0 with
        | none => rfl
        | some k2 =>
          exfalso
          apply c5
          rw [hW']
          exact (oN_lt hW2 (by omega)).mpr (fw.2 k2 hf2)
    unfold ys_344_29
    by_cases c3 : v = 3
    · rw [if_pos c3]; exact go 2 (by rw [if_pos c3])
    · rw [if_neg c3]; exact go v (by rw [if_neg c3])
  by_cases c3 : v = 3
  · rw [if_pos c3]
    refine my_if (fun cm => ?_) (fun cm => ?_)
    · have hto : toA E As (eC y.2) v w = some (decide (g1 (eC y.2) 0 = 1) && decide (g2 (eC y.2) 1 = g2 (eC y.2) 8)) := by unfold toA; rw [if_pos ⟨c3, cm⟩]
      have hQ := hQ _ hto
      unfold ys_344_29
      rw [if_pos c3]
      unfold ys_344_41
      rw [c3, if_neg (by decide), if_neg (by decide), if_neg (by decide)]
      unfold ys_344_78
      refine r_289 hS.2.1 hR r1 (by omega) ?_
      rw [my_kI_v, if_neg (by decide), n9, e0]
      refine ⟨b0, my_if (fun c6 => ?_) (fun c6 => ?_)⟩
      · rw [decide_eq_true (g1_1.mp c6), Bool.true_and] at hQ
        refine r_285y hS.2.1 hR r1 (show 1 + 1 < _ by omega) (oN_s _) (by omega) ?_
        rw [my_kI_v]
        refine r_285y hS.2.1 hR r1 (show 8 + 1 < _ by omega) (oN_a _ 8) (by omega) ?_
        rw [my_kI_v]
        unfold ys_344_126 ys_344_127
        refine my_if (fun c5 => ?_) (fun c5 => ?_)
        · rw [decide_eq_true ((oN_e (by omega) (by omega)).mp c5)] at hQ
          exact ⟨Or.inr rfl, hQ⟩
        · rw [decide_eq_false (fun hh => c5 (by rw [hh]))] at hQ
          exact ⟨Or.inl rfl, hQ⟩
      · rw [decide_eq_false (fun hh => c6 (g1_1.mpr hh)), Bool.false_and] at hQ
        unfold ys_344_126 ys_344_127
        exact ⟨Or.inl rfl, hQ⟩
    · unfold ys_344_28
      exact fall (fun hh => cm hh.2)
  · rw [if_neg c3]
    unfold ys_344_28
    exact fall (fun hh => c3 hh.1)
theorem l_24z (h : LD As I cu σ) (hS : LVs A E σ) (hκ : 1 ≤ κ.2.1 ∧ 6 ≤ κ.2.2) (b1 : my_bd (v4 + 1) e.2.1) (b2 : my_bd (v4 + 2) e.2.1) (b3 : my_bd (v4 + 3) e.2.1) (hn : ∀ κ' σ', (κ' = κ ∨ κ' = (κ.1 + 1, κ.2.1 - 1, κ.2.2 - 6)) → eqp skF σ σ' → ys_law_1663 e 1049 v4 κ' σ' Q) : ys_law_1576 e 1049 v4 κ σ Q := by
  unfold ys_law_1576
  refine ⟨b1, b2, b3, ys_399 ?_⟩
  unfold ys_399_0
  generalize e.2.2 (v4 + 1 : Int32).toNatClampNeg = x1
  generalize e.2.2 (v4 + 2 : Int32).toNatClampNeg = x2
  generalize e.2.2 (v4 + 3 : Int32).toNatClampNeg = x3
  have toS : ∀ {σ1 σ2 : my_S}, eqp skF σ σ1 → eqp (fun c k => (c = 498 ∧ k = 0) ∨ plF c k) σ1 σ2 → eqp skF σ σ2 := fun f1 f2 => eqp_tr f1 (eqp_mo f2 (fun c k hh => by unfold skF; rcases hh with hh | hh; exact Or.inl hh; exact Or.inr (Or.inr (Or.inl hh))))
  cases hf : fkA As 3 x1 As.length 0 with
  | none =>
    refine ys_42 ?_
    unfold ys_42_0
    refine c_17b h hκ (by omega) (fun _ => ?_) (fun k hf' => by rw [hf] at hf'; cases hf')
    rw [my_kA_x, my_kI_x, if_neg (show ¬ (15 : Nat) = 13 by decide), if_pos rfl, my_kI_v]
    refine ⟨b1, b2, b3, ys_344 ?_⟩
    unfold ys_344_0
    refine ys_343 ?_
    unfold ys_343_0
    refine r_340b h (by omega) (fun _ σ1 u1 f1 => ?_) (fun k hk' => by rw [hf] at hk'; cases hk')
    rw [my_kI_v, if_neg (by decide), my_kI_v, if_pos (by decide), my_kI_v]
    refine r_213 ?_
    rw [my_kI_v, u1, if_pos rfl, if_neg (by decide)]
    exact hn _ σ1 (Or.inr rfl) (eqp_mo f1 (fun c k hh => Or.inl hh))
  | some k =>
    obtain ⟨a, ha⟩ := fk3 hf
    refine c_42y h hS hf ha hκ (by omega) (fun hl => ?_) (fun y hl hr σ1 f1 => ?_) (fun y b hl hr σ1 f1 => ?_)
    · rw [my_kI_x, if_neg (show ¬ (17 : Nat) = 13 by decide), if_neg (show ¬ (17 : Nat) = 15 by decide), if_pos rfl, my_kI_v]
      refine ⟨b1, b2, b3, r_344y h hS hf ha (by omega) (fun _ σ2 x u2 f2 => ?_) (fun y hl' => by rw [hl] at hl'; cases hl') (fun y x hl' => by rw [hl] at hl'; cases hl')⟩
      rw [my_kI_v]
      refine r_213 ?_
      rw [my_kI_v, u2, if_pos rfl, if_neg (by decide)]
      exact hn _ σ2 (Or.inr rfl) (toS eqp_rf f2)
    · have f1' : eqp skF σ σ1 := eqp_mo f1 (fun c k hh => by unfold skF; omega)
      rw [my_kI_x, if_neg (show ¬ (14 : Nat) = 13 by decide), if_neg (show ¬ (14 : Nat) = 15 by decide), if_neg (show ¬ (14 : Nat) = 17 by decide), if_pos rfl, my_kI_v]
      refine ⟨b1, b2, b3, r_344y (LD_r h f1') (LVs_r hS f1') hf ha (by omega) (fun hl' => by rw [hl] at hl'; cases hl') (fun y' hl' hr' σ2 x u2 f2 => ?_) (fun y' x hl' hr' => by rw [hl] at hl'; cases hl'; rw [hr] at hr'; cases hr')⟩
      rw [my_kI_v]
      refine r_213 ?_
      rw [my_kI_v, u2, if_pos rfl, if_neg (by decide)]
      exact hn _ σ2 (Or.inr rfl) (toS f1' f2)
    · rw [my_kI_v]
      have go : ∀ t : Int64, t = (if b = true then 1 else 0) → ys_399_18 e 1048 t 0 κ σ1 (my_kI (fun x1' κ2 σ3 => my_bd (v4 + 1) e.2.1 ∧ my_bd (v4 + 2) e.2.1 ∧ my_bd (v4 + 3) e.2.1 ∧ my_M e 1049 344 [.inr (.inr (some 498)), .inl x1, .inl x2, .inl x3] κ2 σ3 (my_kI (fun x4 κ5 σ6 => my_M e 1049 213 [.inr (.inr (some 498))] κ5 σ6 (my_kI (fun x7 κ8 σ9 => if x7 = x1' then (if x1' = 0 then (if x4 = 0 then (ys_law_1654 e 1049 v4 0 (σ9.2.1 585 0) κ8 σ9 Q) else (ys_law_1654 e 1049 v4 1 (σ9.2.1 585 0) κ8 σ9 Q)) else (ys_law_1660 e 1049 v4 κ8 σ9 Q)) else (Q (.inl (some (.inl 0))) κ8 σ9)) (fun y10 κ11 σ12 => Q (.inr y10) κ11 σ12))) (fun y13 κ14 σ15 => Q (.inr y13) κ14 σ15))) (fun y16 κ17 σ18 => Q (.inr y16) κ17 σ18)) := fun t ht => by
        unfold ys_399_18
        refine ⟨bdk (k := 0) (by omega) (by omega), ?_⟩
        rw [show (0 : Int32).toNatClampNeg = 0 from rfl]
        have f2 : eqp skF σ (my_uL σ1 585 0 t) := eqp_L (eqp_mo f1 (fun c k hh => by unfold skF; omega)) (Or.inr (Or.inl ⟨rfl, rfl⟩))
        have u2 : (my_uL σ1 585 0 t).2.1 585 0 = t := by rw [my_uL_2, if_pos ⟨rfl, rfl⟩]
        generalize my_uL σ1 585 0 t = σ2 at f2 u2 ⊢
        rw [my_kI_v]
        refine ⟨b1, b2, b3, r_344y (LD_r h f2) (LVs_r hS f2) hf ha (by omega) (fun hl' => by rw [hl] at hl'; cases hl') (fun y' hl' hr' => by rw [hl] at hl'; cases hl'; rw [hr] at hr'; cases hr') (fun y' b' hl' hr' σ4 u5 f4 => ?_)⟩
        rw [hl] at hl'
        cases hl'
        rw [hr] at hr'
        cases hr'
        rw [my_kI_v]
        refine r_213 ?_
        have u6 : σ4.2.1 585 0 = t := by rw [(f4 585 0 (by unfold plF; omega)).2.1]; exact u2
        have fin := hn _ σ4 (Or.inl rfl) (toS f2 f4)
        rw [my_kI_v, u5, if_pos rfl, if_pos rfl]
        unfold ys_law_1654
        cases b with
        | false =>
          rw [if_pos (show bI false = 0 from rfl), if_pos (lg_cmp_0.mpr (show σ4.2.1 585 0 = 0 from u6.trans ht))]
          exact fin
        | true =>
          rw [if_neg (by decide), if_pos (lg_cmp_0.mpr (show σ4.2.1 585 0 = 1 from u6.trans ht))]
          exact fin
      cases b with
      | false => rw [if_pos (show bI false = 0 from rfl)]; exact go 0 rfl
      | true => rw [if_neg (by decide)]; exact go 1 rfl
end MLV
