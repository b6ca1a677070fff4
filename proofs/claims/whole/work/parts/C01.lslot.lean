
/-! ===== slot, of the law ===== -/
def soF (c k : Nat) : Prop := (c = 498 ∧ k = 0) ∨ (c = 585 ∧ k = 0)
section MSO
variable {As Bs : List Ri} {I I' : List It} {cnt cu ol sp M : Nat} {e : my_E} {d : Nat} {κ : my_K} {σ σ' : my_S} {Q : my_O → my_K → my_S → Prop} {v4 : Int32}
theorem l_21i (h : INVr cnt cu ol sp As I Bs I' σ) (hcr : INVc cu As σ) (hκ : 1 ≤ κ.2.1 ∧ 6 ≤ κ.2.2) (b1 : my_bd (v4 + 1) e.2.1) (b2 : my_bd (v4 + 2) e.2.1) (hn : ∀ κ' σ', (κ' = κ ∨ κ' = (κ.1 + 1, κ.2.1 - 1, κ.2.2 - 6)) → eqp soF σ σ' → ys_law_1663 e 1049 v4 κ' σ' Q) : ys_law_1384 e 1049 v4 κ σ Q := by
  have one : ∀ v : Int32, eqp soF σ (my_uI σ 498 0 v) := fun v => eqp_I eqp_rf (Or.inl ⟨rfl, rfl⟩)
  by_cases hc : cnt = 0
  · exact l_21 (by rw [h.1.1, hc]; rfl) (by rw [h.1.2.1, hc]; rfl) hκ.1 hκ.2 b1 b2 (hn _ _ (Or.inr rfl) (one 1))
  · have ld := INVr_LD h (by omega)
    have hrv := ld.2.2.1
    have hB := ld.1
    unfold ys_law_1384
    refine ⟨b1, b2, ys_396 ?_⟩
    unfold ys_396_0
    generalize e.2.2 (v4 + 1 : Int32).toNatClampNeg = x1
    generalize e.2.2 (v4 + 2 : Int32).toNatClampNeg = x2
    refine ys_38 ?_
    unfold ys_38_0
    refine ys_10 ?_
    unfold ys_10_0
    rw [if_neg ld.2.2.2.1, my_k0_v]
    obtain ⟨P, hP, hr, hcr⟩ := hcr
    rcases hcr with ⟨a, b, c, _⟩ | ⟨W, Z, pl, st, a1, a2, a3, a4, a5, a6, a7⟩
    · rw [a, if_pos rfl]
      refine ⟨⟨by omega, hκ.1, hκ.2⟩, ?_⟩
      rw [my_kI_x, if_pos rfl, my_kI_v]
      refine ⟨b1, b2, ys_338 ?_⟩
      unfold ys_338_0
      rw [if_neg ld.2.2.2.2.1, c, if_pos (show Int32.ofInt (-1) < 0 by decide)]
      unfold ys_338_15 ys_338_20
      have bad : ∀ t0 : Int32, ys_338_37 e 1048 x1 x2 t0 1 (κ.1 + 1, κ.2.1 - 1, κ.2.2 - 6) σ (my_kI (fun x4 κ5 σ6 => my_M e 1049 213 [.inr (.inr (some 498))] κ5 σ6 (my_kI (fun x7 κ8 σ9 => if x7 = 1 then (if (1 : Int32) = 0 then (if (lg_cmp (σ9.2.1 585 0) (x4 : Int32).toInt64) = 0 then (ys_law_1449 e 1049 v4 κ8 σ9 Q) else (Q (.inl (some (.inl 0))) κ8 σ9)) else (ys_law_1449 e 1049 v4 κ8 σ9 Q)) else (Q (.inl (some (.inl 0))) κ8 σ9)) (fun y10 κ11 σ12 => Q (.inr y10) κ11 σ12))) (fun y13 κ14 σ15 => Q (.inr y13) κ14 σ15)) := fun t0 => by
        unfold ys_338_37
        refine r_215_1 ?_
        rw [my_kI_v, if_neg (by decide), my_kI_v]
        refine r_213 ?_
        rw [my_kI_v, if_pos (show (my_uI σ 498 0 1).1 498 0 = 1 from rfl), if_neg (by decide)]
        exact hn _ _ (Or.inr rfl) (one 1)
      by_cases c1 : x1 < 0
      · rw [if_pos c1]
        exact bad 1
      · rw [if_neg c1]
        by_cases c2 : x1 < σ.1 498 107
        · rw [if_pos c2]
          exact bad 0
        · rw [if_neg c2]
          exact bad 1
    · obtain ⟨p1, p2, p3, p4, p5, p6, p7⟩ := a3
      obtain ⟨q1, q2, q3⟩ := a4
      rw [p6, if_neg (by decide)]
      by_cases cv : x1 < 0 ∨ ¬ x1 < Int32.ofNat pl.length
      · -- no such slot
        have cls : ∀ {R : my_O → my_K → my_S → Prop}, R (.inl (some (.inr (.inr none)))) κ σ → my_M e 1047 146 [.inr (.inr (some 62)), .inl x1] κ σ R := fun {R} hR => by
          refine ys_146 ?_
          unfold ys_146_0 ys_146_21 ys_146_31
          by_cases c1 : x1 < 0
          · rw [if_pos c1]; exact hR
          · rw [if_neg c1, p3]
            rcases cv with cv | cv
            · exact absurd cv c1
            · rw [if_neg cv]; exact hR
        refine cls ?_
        rw [my_kA_v, if_pos rfl]
        unfold ys_38_45
        refine ⟨⟨by omega, hκ.1, hκ.2⟩, ?_⟩
        rw [my_kI_x, if_neg (show ¬ (15 : Nat) = 13 by decide), if_pos rfl, my_kI_v]
        refine ⟨b1, b2, ys_338 ?_⟩
        unfold ys_338_0
        rw [if_neg ld.2.2.2.2.1, q1, if_neg (oN_0 (by omega))]
        unfold ys_338_20
        have bad : ys_338_32 e 1048 x1 x2 0 (κ.1 + 1, κ.2.1 - 1, κ.2.2 - 6) σ (my_kI (fun x4 κ5 σ6 => my_M e 1049 213 [.inr (.inr (some 498))] κ5 σ6 (my_kI (fun x7 κ8 σ9 => if x7 = 2 then (if (2 : Int32) = 0 then (if (lg_cmp (σ9.2.1 585 0) (x4 : Int32).toInt64) = 0 then (ys_law_1449 e 1049 v4 κ8 σ9 Q) else (Q (.inl (some (.inl 0))) κ8 σ9)) else (ys_law_1449 e 1049 v4 κ8 σ9 Q)) else (Q (.inl (some (.inl 0))) κ8 σ9)) (fun y10 κ11 σ12 => Q (.inr y10) κ11 σ12))) (fun y13 κ14 σ15 => Q (.inr y13) κ14 σ15)) := by
          unfold ys_338_32 ys_338_37
          refine r_215_2 ?_
          rw [my_kI_v, if_neg (by decide), my_kI_v]
          refine r_213 ?_
          rw [my_kI_v, if_pos (show (my_uI σ 498 0 2).1 498 0 = 2 from rfl), if_neg (by decide)]
          exact hn _ _ (Or.inr rfl) (one 2)
        by_cases c1 : x1 < 0
        · rw [if_pos c1]; exact bad
        · rw [if_neg c1, q1]
          rcases cv with cv | cv
          · exact absurd cv c1
          · rw [if_neg cv]; exact bad
      · have c1 : ¬ x1 < 0 := fun hh => cv (Or.inl hh)
        have c2 : x1 < Int32.ofNat pl.length := by
          by_cases hh : x1 < Int32.ofNat pl.length
          · exact hh
          · exact absurd (Or.inr hh) cv
        obtain ⟨i, hi, hil⟩ := i32_p c1
        subst hi
        have hip : i < pl.length := (oN_lt hil (by omega)).mp c2
        have hp := List.getElem?_eq_getElem hip
        generalize pl[i] = p at hp
        obtain ⟨⟨sC, s2, s3, s4⟩, s5, s6⟩ := p7 i p hp
        obtain ⟨⟨rS, r2, r3, r4⟩, r5, r6⟩ := q3 i p hp
        obtain ⟨⟨ai, hai, _⟩, hw⟩ := a6 i p hp
        obtain ⟨k1, k2, k3, k4⟩ := slo_b p1 (show i < 12 by omega)
        have hk42 := (cl_nm ld hai).2
        have hin := in11 (rv := cu) (k := p.1) hrv hk42
        have hnum := (itf hB ld.2.1 ld.2.2.2.2.2.2.1 hai).2.1
        have bi := bdk (k := i) (m := 12) (by omega) (by omega)
        refine c_146 p2 p3 p4 hip (by omega) ?_
        rw [my_kA_v, if_neg (by simp)]
        refine ⟨_, rfl, k3, ?_⟩
        rw [sC.2.1, if_neg (by simp)]
        -- the reference's side, where the answer is v
        have ref : ∀ (v : Int32) (y : Int64), v.toInt64 = y → (∀ σ2, eqp soF σ σ2 → ∀ {R : my_O → my_K → my_S → Prop}, R (.inl (some (.inl v))) κ (my_uI σ2 498 0 0) → my_M e 1049 338 [.inr (.inr (some 498)), .inl (Int32.ofNat i), .inl x2] κ σ2 R) → (my_bd (v4 + 1) e.2.1) ∧ (my_bd (v4 + 2) e.2.1) ∧ my_M e 1049 338 [.inr (.inr (some 498)), .inl (Int32.ofNat i), .inl x2] κ (my_uL σ 585 0 y) (my_kI (fun x4 κ5 σ6 => my_M e 1049 213 [.inr (.inr (some 498))] κ5 σ6 (my_kI (fun x7 κ8 σ9 => if x7 = 0 then (if (0 : Int32) = 0 then (if (lg_cmp (σ9.2.1 585 0) (x4 : Int32).toInt64) = 0 then (ys_law_1449 e 1049 v4 κ8 σ9 Q) else (Q (.inl (some (.inl 0))) κ8 σ9)) else (ys_law_1449 e 1049 v4 κ8 σ9 Q)) else (Q (.inl (some (.inl 0))) κ8 σ9)) (fun y10 κ11 σ12 => Q (.inr y10) κ11 σ12))) (fun y13 κ14 σ15 => Q (.inr y13) κ14 σ15)) := fun v y hy hr => by
          have f2 : eqp soF σ (my_uL σ 585 0 y) := eqp_L eqp_rf (Or.inr ⟨rfl, rfl⟩)
          have u2 : (my_uL σ 585 0 y).2.1 585 0 = y := by rw [my_uL_2, if_pos ⟨rfl, rfl⟩]
          generalize my_uL σ 585 0 y = σ2 at f2 u2 ⊢
          refine ⟨b1, b2, hr σ2 f2 ?_⟩
          rw [my_kI_v]
          refine r_213 ?_
          rw [my_kI_v, if_pos (show (my_uI σ2 498 0 0).1 498 0 = 0 from rfl), if_pos rfl, hy, if_pos (lg_cmp_0.mpr (show (my_uI σ2 498 0 0).2.1 585 0 = y from u2))]
          exact hn _ _ (Or.inl rfl) (eqp_I f2 (Or.inl ⟨rfl, rfl⟩))
        -- what the reference does up to the question
        have pre : ∀ σ2, eqp soF σ σ2 → ∀ {R : my_O → my_K → my_S → Prop}, (if x2 = 0 then ((my_bd (Int32.ofNat i) 12) ∧ R (.inl (some (.inl (σ.1 557 i)))) κ (my_uI σ2 498 0 0)) else (if x2 = 1 then ((my_bd (Int32.ofNat i) 12) ∧ R (.inl (some (.inl (σ.1 558 i)))) κ (my_uI σ2 498 0 0)) else (if x2 = 2 then ((my_bd (Int32.ofNat i) 12) ∧ R (.inl (some (.inl (σ.1 559 i)))) κ (my_uI σ2 498 0 0)) else (if x2 = 3 then ((my_bd (Int32.ofNat i) 12) ∧ R (.inl (some (.inl (σ.1 560 i)))) κ (my_uI σ2 498 0 0)) else (if x2 = 4 then ((my_bd (Int32.ofNat i) 12) ∧ if (σ.1 561 i) = 2 then R (.inl (some (.inl 1))) κ (my_uI σ2 498 0 0) else R (.inl (some (.inl 0))) κ (my_uI σ2 498 0 0)) else (R (.inl (some (.inl 0))) κ (my_uI (my_uI σ2 498 0 0) 498 0 3))))))) → my_M e 1049 338 [.inr (.inr (some 498)), .inl (Int32.ofNat i), .inl x2] κ σ2 R := fun σ2 f2 {R} hR => by
          have g : ∀ {c k : Nat}, ¬ soF c k → σ2.1 c k = σ.1 c k := fun hh => eqp_g f2 hh
          refine ys_338 ?_
          unfold ys_338_0
          rw [g (show ¬ soF 498 65 by unfold soF; omega), g (show ¬ soF 498 107 by unfold soF; omega), if_neg ld.2.2.2.2.1, q1, if_neg (oN_0 (by omega))]
          unfold ys_338_20
          rw [if_neg c1, g (show ¬ soF 498 107 by unfold soF; omega), q1, if_pos c2]
          unfold ys_338_37
          refine r_215_0 ?_
          rw [my_kI_v, if_pos rfl]
          have g2 : ∀ {c : Nat}, c ≠ 498 → c ≠ 585 → (my_uI σ2 498 0 0).1 c i = σ.1 c i := fun h1 h2 => by rw [my_uI_1, if_neg (by omega)]; exact g (by unfold soF; omega)
          unfold ys_338_123
          rw [oN_n hil, g2 (by omega) (by omega), g2 (by omega) (by omega), g2 (by omega) (by omega), g2 (by omega) (by omega), g2 (by omega) (by omega)]
          exact hR
        by_cases v0 : x2 = 0
        · rw [if_pos v0]
          refine ⟨_, rfl, k3, _, sC.2.1, hin, ?_⟩
          rw [my_kI_v, my_kI_v]
          refine ref _ _ rfl (fun σ2 f2 {R} hR => pre σ2 f2 ?_)
          rw [if_pos v0, rS.1, ← hnum]
          exact ⟨bi, hR⟩
        rw [if_neg v0]
        by_cases v1 : x2 = 1
        · rw [if_pos v1]
          refine ⟨_, rfl, k3, ?_⟩
          rw [my_kI_v, my_kI_v]
          refine ref _ _ rfl (fun σ2 f2 {R} hR => pre σ2 f2 ?_)
          rw [if_neg v0, if_pos v1, r2, ← s2]
          exact ⟨bi, hR⟩
        rw [if_neg v1]
        by_cases v2 : x2 = 2
        · rw [if_pos v2]
          refine ⟨_, rfl, k3, ?_⟩
          rw [my_kI_v, my_kI_v]
          refine ref _ _ rfl (fun σ2 f2 {R} hR => pre σ2 f2 ?_)
          rw [if_neg v0, if_neg v1, if_pos v2, r3, ← s3]
          exact ⟨bi, hR⟩
        rw [if_neg v2]
        by_cases v3 : x2 = 3
        · rw [if_pos v3]
          refine ⟨_, rfl, k3, ?_⟩
          rw [my_kI_v, my_kI_v]
          refine ref _ _ rfl (fun σ2 f2 {R} hR => pre σ2 f2 ?_)
          rw [if_neg v0, if_neg v1, if_neg v2, if_pos v3, r4, ← s4]
          exact ⟨bi, hR⟩
        rw [if_neg v3]
        by_cases v4' : x2 = 4
        · rw [if_pos v4']
          refine ⟨_, rfl, k3, ?_⟩
          rw [s6]
          unfold ys_38_127
          by_cases cs : st i = 2
          · rw [if_pos cs, if_neg (by decide), my_kI_v, my_kI_v]
            refine ref 1 _ rfl (fun σ2 f2 {R} hR => pre σ2 f2 ?_)
            rw [if_neg v0, if_neg v1, if_neg v2, if_neg v3, if_pos v4', r5, cs, if_pos (show Int32.ofNat 2 = 2 from rfl)]
            exact ⟨bi, hR⟩
          · rw [if_neg cs, if_pos rfl, my_kI_v, my_kI_v]
            refine ref 0 _ rfl (fun σ2 f2 {R} hR => pre σ2 f2 ?_)
            rw [if_neg v0, if_neg v1, if_neg v2, if_neg v3, if_pos v4', r5, if_neg (fun hh => cs ((oN_e1 (b := 2) (c := 2) rfl (by omega) (by omega)).mp hh))]
            exact ⟨bi, hR⟩
        rw [if_neg v4']
        refine ⟨⟨by omega, hκ.1, hκ.2⟩, ?_⟩
        rw [my_kI_x, if_neg (show ¬ (14 : Nat) = 13 by decide), if_neg (show ¬ (14 : Nat) = 15 by decide), if_pos rfl, my_kI_v]
        refine ⟨b1, b2, ys_338 ?_⟩
        unfold ys_338_0
        rw [if_neg ld.2.2.2.2.1, q1, if_neg (oN_0 (by omega))]
        unfold ys_338_20
        rw [if_neg c1, q1, if_pos c2]
        unfold ys_338_37
        refine r_215_0 ?_
        rw [my_kI_v, if_pos rfl, if_neg v0, if_neg v1, if_neg v2, if_neg v3, if_neg v4', my_kI_v]
        refine r_213 ?_
        rw [my_kI_v, if_pos (show (my_uI (my_uI σ 498 0 0) 498 0 3).1 498 0 = 3 from rfl), if_neg (by decide)]
        exact hn _ _ (Or.inr rfl) (eqp_I (one 0) (Or.inl ⟨rfl, rfl⟩))
end MSO
