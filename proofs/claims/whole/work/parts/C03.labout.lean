
/-! ===== about, of the law ===== -/
def abF (c k : Nat) : Prop := (c = 498 ∧ k = 0) ∨ (c = 585 ∧ k = 0) ∨ c = 92 ∨ c = 93 ∨ plF c k ∨ c = 568 ∨ c = 569
theorem abF_c {c k : Nat} (h : abF c k) : (c = 498 ∧ (k = 0 ∨ k = 90 ∨ k = 93 ∨ k = 95)) ∨ (c = 585 ∧ k = 0) ∨ c = 92 ∨ c = 93 ∨ (548 ≤ c ∧ c ≤ 550) ∨ c = 568 ∨ c = 569 := by unfold abF plF at h; omega
section MAB
variable {As Bs : List Ri} {I I' : List It} {cnt cu ol sp M : Nat} {e : my_E} {d : Nat} {κ : my_K} {σ σ' : my_S} {Q : my_O → my_K → my_S → Prop} {v4 : Int32}
theorem r_313z {K : Nat} (ld : LD As I cu σ) (hK : K ≤ 3) (hd : 1 ≤ d) (hQ : Q (.inl (some (.inl (Int32.ofNat (cnK As K))))) κ σ) : my_M e d 313 [.inr (.inr (some 498)), .inl (Int32.ofNat K)] κ σ Q := by
  by_cases c : K ≤ 2
  · exact r_313y ld c hd hQ
  · have : K = 3 := by omega
    subst this
    obtain ⟨d, rfl⟩ := dS 1 hd
    have h64 : σ.1 498 64 = Int32.ofNat (cnK As 3) := ld.2.2.2.2.2.2.2.2.2.2.2.2.2
    refine ys_313 ?_
    unfold ys_313_0 ys_313_39
    rw [if_neg (show ¬ Int32.ofNat 3 = 0 by decide), if_neg (show ¬ Int32.ofNat 3 = 1 by decide), if_neg (show ¬ Int32.ofNat 3 = 2 by decide), h64]
    exact hQ
/-- the times, where nothing ran since the load -/
theorem c_142n (h2 : σ.1 62 2 = 0) (hd : 1 ≤ d) (hQ : Q (.inl (some (.inl 0))) κ σ) : my_M e d 142 [.inr (.inr (some 62))] κ σ Q := by
  obtain ⟨d, rfl⟩ := dS 1 hd
  refine ys_142 ?_
  unfold ys_142_0
  refine ys_142_4_ok ?_
  unfold ys_142_4 ys_142_41
  rw [h2, if_neg (by decide)]
  exact hQ
theorem c_143n {W0 : Nat} (h2 : σ.1 62 2 = 0) (hW : W0 ≤ 64) (h3 : σ.1 62 3 = Int32.ofNat W0) (hd : 1 ≤ d) (hQ : Q (.inl (some (.inl 0))) κ σ) : my_M e d 143 [.inr (.inr (some 62))] κ σ Q := by
  obtain ⟨d, rfl⟩ := dS 1 hd
  refine ys_143 ?_
  unfold ys_143_0
  refine ys_143_6_ok ?_
  unfold ys_143_6 ys_143_59 ys_143_88
  rw [h2, if_neg (by decide), h3]
  by_cases c : W0 = 0
  · rw [c, if_pos (show Int32.ofNat 0 < 1 by decide)]
    exact hQ
  · rw [if_neg (fun hh => by have := (oN_lt1 (b := 1) (c := 1) rfl (by omega) (by omega)).mp hh; omega)]
    refine ⟨fun hh => by have := (oN_e1 (b := 0) (c := 0) rfl (by omega) (by omega)).mp hh; omega, ?_⟩
    have e1 : ((0 : Int32) + Int32.ofNat W0 - 1) / Int32.ofNat W0 = 0 := by
      rw [Int32.zero_add, show (1 : Int32) = Int32.ofNat 1 from rfl, oN_sub (by omega), di3 (by omega) (by omega), Nat.div_eq_of_lt (by omega)]
      rfl
    rw [e1, if_neg (by decide)]
    exact hQ
theorem r_336n {v : Int32} (h1 : σ.1 498 107 = Int32.ofInt (-1)) (hd : 1 ≤ d) (hQ : Q (.inl (some (.inl 0))) κ σ) : my_M e d 336 [.inr (.inr (some 498)), .inl v] κ σ Q := by
  obtain ⟨d, rfl⟩ := dS 1 hd
  refine ys_336 ?_
  unfold ys_336_0
  refine ys_336_10_ok ?_
  unfold ys_336_10 ys_336_96
  rw [h1, if_neg (by decide)]
  by_cases cv : v = 0
  · rw [if_pos cv, if_neg (by decide)]
    exact hQ
  · rw [if_neg cv]
    exact hQ
theorem l_3i (h : INVr cnt cu ol sp As I Bs I' σ) (hdk : INVd M σ) (hcr : INVc cu As σ) (hκ : 1 ≤ κ.2.1 ∧ 6 ≤ κ.2.2) (b1 : my_bd (v4 + 1) e.2.1) (hn : ∀ κ' σ', (κ' = κ ∨ κ' = (κ.1 + 1, κ.2.1 - 1, κ.2.2 - 6)) → eqp abF σ σ' → ys_law_1663 e 1049 v4 κ' σ' Q) : ys_law_257 e 1049 v4 κ σ Q := by
  have one : ∀ v : Int32, eqp abF σ (my_uI σ 498 0 v) := fun v => eqp_I eqp_rf (Or.inl ⟨rfl, rfl⟩)
  by_cases hc : cnt = 0
  · exact l_3 (by rw [h.1.1, hc]; rfl) (by rw [h.1.2.1, hc]; rfl) hκ.1 hκ.2 b1 (hn _ _ (Or.inr rfl) (one 1))
  · have ld := INVr_LD h (by omega)
    have hL := (h.2.2.2.2.2.1 (by omega)).1
    have hU := LOf_U hL
    have hrv := ld.2.2.1
    have hB := ld.1
    have hBb := INVr_B h
    have hol := INVr_OLC h
    have hor := (h.2.2.2.2.2.1 (by omega)).2.2.2.1
    obtain ⟨D, h0, ep, E, w, ⟨k1, k2, k3⟩, ⟨d1, d2, d3, d4, d5, d6, d7⟩, ⟨c1, c2, c3, c4, c5⟩, hrec, hle⟩ := hdk
    have hb0 := hA2_b (h := h0)
    have hS : LVs (hA2 h0) E σ := by
      refine ⟨hA2_l, k2, k3, d2, c2, ?_, d5, d6⟩
      rw [d3]
      have hh := k1.1.1
      by_cases c : h0 = 1
      · rw [c]; rfl
      · have : h0 = 0 := by omega
        rw [this]; rfl
    unfold ys_law_257
    refine ⟨b1, ys_378 ?_⟩
    unfold ys_378_0
    generalize e.2.2 (v4 + 1 : Int32).toNatClampNeg = x1
    refine ys_9 ?_
    unfold ys_9_0
    refine ys_10 ?_
    unfold ys_10_0
    rw [if_neg ld.2.2.2.1, my_k0_v]
    -- what comes behind the class's answer
    have fin : ∀ (v : Int32) (σ1 : my_S), eqp abF σ σ1 → (∀ σ2, eqp abF σ σ2 → ∀ {R : my_O → my_K → my_S → Prop}, (∀ σ3, eqp abF σ2 σ3 → σ3.1 498 0 = 0 → σ3.2.1 585 0 = σ2.2.1 585 0 → R (.inl (some (.inl v))) κ σ3) → my_M e 1049 333 [.inr (.inr (some 498)), .inl x1] κ σ2 R) → my_kI (fun x1_1 κ2 σ3 => (my_kI (fun x1_2 κ2 σ3 => (my_bd (v4 + 1) e.2.1) ∧ my_M e 1049 333 [.inr (.inr (some 498)), .inl x1] κ2 σ3 (my_kI (fun x4 κ5 σ6 => my_M e 1049 213 [.inr (.inr (some 498))] κ5 σ6 (my_kI (fun x7 κ8 σ9 => if x7 = x1_2 then (if x1_2 = 0 then (if (lg_cmp (σ9.2.1 585 0) (x4 : Int32).toInt64) = 0 then (ys_law_310 e 1049 v4 κ8 σ9 Q) else (Q (.inl (some (.inl 0))) κ8 σ9)) else (ys_law_310 e 1049 v4 κ8 σ9 Q)) else (Q (.inl (some (.inl 0))) κ8 σ9)) (fun y10 κ11 σ12 => Q (.inr y10) κ11 σ12))) (fun y13 κ14 σ15 => Q (.inr y13) κ14 σ15))) (fun y16 κ17 σ18 => Q (.inr y16) κ17 σ18)) (.inl (some (.inl 0))) κ2 (my_uL σ3 585 0 (x1_1 : Int32).toInt64)) (fun y4 κ5 σ6 => if y4.2 = 13 then ((my_kI (fun x1_2 κ2 σ3 => (my_bd (v4 + 1) e.2.1) ∧ my_M e 1049 333 [.inr (.inr (some 498)), .inl x1] κ2 σ3 (my_kI (fun x4 κ5 σ6 => my_M e 1049 213 [.inr (.inr (some 498))] κ5 σ6 (my_kI (fun x7 κ8 σ9 => if x7 = x1_2 then (if x1_2 = 0 then (if (lg_cmp (σ9.2.1 585 0) (x4 : Int32).toInt64) = 0 then (ys_law_310 e 1049 v4 κ8 σ9 Q) else (Q (.inl (some (.inl 0))) κ8 σ9)) else (ys_law_310 e 1049 v4 κ8 σ9 Q)) else (Q (.inl (some (.inl 0))) κ8 σ9)) (fun y10 κ11 σ12 => Q (.inr y10) κ11 σ12))) (fun y13 κ14 σ15 => Q (.inr y13) κ14 σ15))) (fun y16 κ17 σ18 => Q (.inr y16) κ17 σ18)) (.inl (some (.inl 1))) κ5 σ6) else (if y4.2 = 14 then ((my_kI (fun x1_2 κ2 σ3 => (my_bd (v4 + 1) e.2.1) ∧ my_M e 1049 333 [.inr (.inr (some 498)), .inl x1] κ2 σ3 (my_kI (fun x4 κ5 σ6 => my_M e 1049 213 [.inr (.inr (some 498))] κ5 σ6 (my_kI (fun x7 κ8 σ9 => if x7 = x1_2 then (if x1_2 = 0 then (if (lg_cmp (σ9.2.1 585 0) (x4 : Int32).toInt64) = 0 then (ys_law_310 e 1049 v4 κ8 σ9 Q) else (Q (.inl (some (.inl 0))) κ8 σ9)) else (ys_law_310 e 1049 v4 κ8 σ9 Q)) else (Q (.inl (some (.inl 0))) κ8 σ9)) (fun y10 κ11 σ12 => Q (.inr y10) κ11 σ12))) (fun y13 κ14 σ15 => Q (.inr y13) κ14 σ15))) (fun y16 κ17 σ18 => Q (.inr y16) κ17 σ18)) (.inl (some (.inl 2))) κ5 σ6) else (False))) (.inl (some (.inl v))) κ σ1 := by
      intro v σ1 f1 hr
      rw [my_kI_v, my_kI_v]
      have f2 : eqp abF σ (my_uL σ1 585 0 v.toInt64) := eqp_L f1 (Or.inr (Or.inl ⟨rfl, rfl⟩))
      have u2 : (my_uL σ1 585 0 v.toInt64).2.1 585 0 = v.toInt64 := by rw [my_uL_2, if_pos ⟨rfl, rfl⟩]
      generalize my_uL σ1 585 0 v.toInt64 = σ2 at f2 u2 ⊢
      refine ⟨b1, hr σ2 f2 (fun σ3 f3 z0 u3 => ?_)⟩
      rw [my_kI_v]
      refine r_213 ?_
      rw [my_kI_v, z0, if_pos rfl, if_pos rfl, if_pos (lg_cmp_0.mpr (u3.trans u2))]
      exact hn _ σ3 (Or.inl rfl) (eqp_tr f2 f3)
    -- the reference up to the question
    have pre : ∀ σ2, eqp abF σ σ2 → ¬ x1 < 0 → ¬ (14 : Int32) < x1 → ∀ {R : my_O → my_K → my_S → Prop}, (∀ σ3, eqp (fun c k => c = 498 ∧ k = 0) σ2 σ3 → σ3.1 498 0 = 0 → LD As I cu σ3 → (if x1 = 4 then (R (.inl (some (.inl (σ3.1 498 65)))) κ σ3) else (if x1 = 5 then (my_M e 1048 283 [.inr (.inr (some 498))] κ σ3 (my_k0 (fun κ17 σ18 => my_W e 1048 mp_333 109 [(0, .inr (.inr (some 498))), (2, .inl 0), (3, .inl 0)] [] κ17 σ18 R) (fun y19 κ20 σ21 => R (.inr y19) κ20 σ21))) else (if x1 = 6 then (R (.inl (some (.inl (σ3.1 498 118)))) κ σ3) else (if x1 = 7 then (R (.inl (some (.inl (σ3.1 498 87)))) κ σ3) else (if x1 = 8 then (R (.inl (some (.inl (σ3.1 498 119)))) κ σ3) else (if x1 = 9 then (R (.inl (some (.inl (σ3.1 498 86)))) κ σ3) else (if x1 = 10 then (R (.inl (some (.inl (σ3.1 498 83)))) κ σ3) else (if x1 = 11 then (R (.inl (some (.inl (σ3.1 498 84)))) κ σ3) else (if x1 = 12 then (my_M e 1048 334 [.inr (.inr (some 498))] κ σ3 (my_kI (fun x10 κ11 σ12 => R (.inl (some (.inl x10))) κ11 σ12) (fun y13 κ14 σ15 => R (.inr y13) κ14 σ15))) else (if x1 = 13 then (ys_333_177 e 1048 x1 κ σ3 R) else (if x1 = 14 then (ys_333_177 e 1048 x1 κ σ3 R) else (my_M e 1048 313 [.inr (.inr (some 498)), .inl x1] κ σ3 (my_kI (fun x4 κ5 σ6 => R (.inl (some (.inl x4))) κ5 σ6) (fun y7 κ8 σ9 => R (.inr y7) κ8 σ9))))))))))))))) → my_M e 1049 333 [.inr (.inr (some 498)), .inl x1] κ σ2 R := fun σ2 f2 n1 n2 {R} hR => by
      have ld2 : LD As I cu σ2 := LD_o (LD_30 ld) ld f2 (fun c k hh => by have := abF_c hh; unfold coF; omega)
      refine ys_333 ?_
      unfold ys_333_0
      rw [if_neg ld2.2.2.2.2.1]
      unfold ys_333_13
      rw [if_neg n1, if_neg n2]
      unfold ys_333_28
      refine r_215_0 ?_
      rw [my_kI_v, if_pos rfl]
      have f3 : eqp (fun c k => c = 498 ∧ k = 0) σ2 (my_uI σ2 498 0 0) := eqp_I eqp_rf ⟨rfl, rfl⟩
      exact hR _ f3 rfl (LD_o (LD_30 ld2) ld2 f3 (fun c k hh => by unfold coF; omega))
    -- an answer that is read off
    have rd : ∀ (q : Nat) (σ2 σ3 : my_S), eqp abF σ σ2 → eqp (fun c k => c = 498 ∧ k = 0) σ2 σ3 → (q = 65 ∨ (83 ≤ q ∧ q ≤ 87) ∨ q = 107 ∨ q = 118 ∨ q = 119 ∨ q = 123) → σ3.1 498 q = σ.1 498 q := fun q σ2 σ3 f2 f3 hq => (eqp_g f3 (by omega)).trans (eqp_g f2 (fun hh => by have := abF_c hh; omega))
    have ab3 : ∀ {σ2 σ3 : my_S}, eqp (fun c k => c = 498 ∧ k = 0) σ2 σ3 → eqp abF σ2 σ3 := fun f3 => eqp_mo f3 (fun c k hh => Or.inl hh)
    have u5 : ∀ {σ2 σ3 : my_S}, eqp (fun c k => c = 498 ∧ k = 0) σ2 σ3 → σ3.2.1 585 0 = σ2.2.1 585 0 := fun f3 => (f3 585 0 (by omega)).2.1
    by_cases cv : x1 < 0 ∨ (14 : Int32) < x1
    · -- no such question
      have ne : ∀ (k : Nat), k ≤ 14 → ¬ x1 = Int32.ofNat k := fun k hk hh => by
        subst hh
        rcases cv with cv | cv
        · exact oN_0 (by omega) cv
        · have := (oN_lt2 (b := 14) (c := 14) rfl (by omega) (by omega)).mp cv
          omega
      rw [if_neg (show ¬ x1 = 0 from ne 0 (by omega)), if_neg (show ¬ x1 = 1 from ne 1 (by omega)), if_neg (show ¬ x1 = 2 from ne 2 (by omega)), if_neg (show ¬ x1 = 3 from ne 3 (by omega)), if_neg (show ¬ x1 = 4 from ne 4 (by omega)), if_neg (show ¬ x1 = 5 from ne 5 (by omega)), if_neg (show ¬ x1 = 6 from ne 6 (by omega)), if_neg (show ¬ x1 = 7 from ne 7 (by omega)), if_neg (show ¬ x1 = 8 from ne 8 (by omega)), if_neg (show ¬ x1 = 9 from ne 9 (by omega)), if_neg (show ¬ x1 = 10 from ne 10 (by omega)), if_neg (show ¬ x1 = 11 from ne 11 (by omega)), if_neg (show ¬ x1 = 12 from ne 12 (by omega)), if_neg (show ¬ x1 = 13 from ne 13 (by omega)), if_neg (show ¬ x1 = 14 from ne 14 (by omega))]
      refine ⟨⟨by omega, hκ.1, hκ.2⟩, ?_⟩
      rw [my_kI_x, if_neg (show ¬ (14 : Nat) = 13 by decide), if_pos rfl, my_kI_v]
      refine ⟨b1, ys_333 ?_⟩
      unfold ys_333_0
      rw [if_neg ld.2.2.2.2.1]
      have bad : ys_333_23 e 1048 x1 0 (κ.1 + 1, κ.2.1 - 1, κ.2.2 - 6) σ (my_kI (fun x4 κ5 σ6 => my_M e 1049 213 [.inr (.inr (some 498))] κ5 σ6 (my_kI (fun x7 κ8 σ9 => if x7 = 2 then (if (2 : Int32) = 0 then (if (lg_cmp (σ9.2.1 585 0) (x4 : Int32).toInt64) = 0 then (ys_law_310 e 1049 v4 κ8 σ9 Q) else (Q (.inl (some (.inl 0))) κ8 σ9)) else (ys_law_310 e 1049 v4 κ8 σ9 Q)) else (Q (.inl (some (.inl 0))) κ8 σ9)) (fun y10 κ11 σ12 => Q (.inr y10) κ11 σ12))) (fun y13 κ14 σ15 => Q (.inr y13) κ14 σ15)) := by
        unfold ys_333_23 ys_333_28
        refine r_215_2 ?_
        rw [my_kI_v, if_neg (by decide), my_kI_v]
        refine r_213 ?_
        rw [my_kI_v, if_pos (show (my_uI σ 498 0 2).1 498 0 = 2 from rfl), if_neg (by decide)]
        exact hn _ _ (Or.inr rfl) (one 2)
      unfold ys_333_13
      by_cases n1 : x1 < 0
      · rw [if_pos n1]; exact bad
      · rw [if_neg n1]
        rcases cv with cv | cv
        · exact absurd cv n1
        · rw [if_pos cv]; exact bad
    · have n1 : ¬ x1 < 0 := fun hh => cv (Or.inl hh)
      have n2 : ¬ (14 : Int32) < x1 := fun hh => cv (Or.inr hh)
      obtain ⟨k, hk, hkl⟩ := i32_p n1
      subst hk
      have hk14 : k ≤ 14 := by
        by_cases c : k ≤ 14
        · exact c
        · exact absurd ((oN_lt2 (b := 14) (c := 14) rfl (by omega) hkl).mpr (by omega)) n2
      have ek : ∀ (q : Nat), q ≤ 14 → (Int32.ofNat k = Int32.ofNat q ↔ k = q) := fun q hq => oN_e hkl (by omega)
      -- counts of the kinds
      by_cases q3 : k ≤ 3
      · have cls : ys_9_80 e 1047 (Int32.ofNat k) κ σ (my_kI (fun x1_1 κ2 σ3 => (my_kI (fun x1_2 κ2 σ3 => (my_bd (v4 + 1) e.2.1) ∧ my_M e 1049 333 [.inr (.inr (some 498)), .inl (Int32.ofNat k)] κ2 σ3 (my_kI (fun x4 κ5 σ6 => my_M e 1049 213 [.inr (.inr (some 498))] κ5 σ6 (my_kI (fun x7 κ8 σ9 => if x7 = x1_2 then (if x1_2 = 0 then (if (lg_cmp (σ9.2.1 585 0) (x4 : Int32).toInt64) = 0 then (ys_law_310 e 1049 v4 κ8 σ9 Q) else (Q (.inl (some (.inl 0))) κ8 σ9)) else (ys_law_310 e 1049 v4 κ8 σ9 Q)) else (Q (.inl (some (.inl 0))) κ8 σ9)) (fun y10 κ11 σ12 => Q (.inr y10) κ11 σ12))) (fun y13 κ14 σ15 => Q (.inr y13) κ14 σ15))) (fun y16 κ17 σ18 => Q (.inr y16) κ17 σ18)) (.inl (some (.inl 0))) κ2 (my_uL σ3 585 0 (x1_1 : Int32).toInt64)) (fun y4 κ5 σ6 => if y4.2 = 13 then ((my_kI (fun x1_2 κ2 σ3 => (my_bd (v4 + 1) e.2.1) ∧ my_M e 1049 333 [.inr (.inr (some 498)), .inl (Int32.ofNat k)] κ2 σ3 (my_kI (fun x4 κ5 σ6 => my_M e 1049 213 [.inr (.inr (some 498))] κ5 σ6 (my_kI (fun x7 κ8 σ9 => if x7 = x1_2 then (if x1_2 = 0 then (if (lg_cmp (σ9.2.1 585 0) (x4 : Int32).toInt64) = 0 then (ys_law_310 e 1049 v4 κ8 σ9 Q) else (Q (.inl (some (.inl 0))) κ8 σ9)) else (ys_law_310 e 1049 v4 κ8 σ9 Q)) else (Q (.inl (some (.inl 0))) κ8 σ9)) (fun y10 κ11 σ12 => Q (.inr y10) κ11 σ12))) (fun y13 κ14 σ15 => Q (.inr y13) κ14 σ15))) (fun y16 κ17 σ18 => Q (.inr y16) κ17 σ18)) (.inl (some (.inl 1))) κ5 σ6) else (if y4.2 = 14 then ((my_kI (fun x1_2 κ2 σ3 => (my_bd (v4 + 1) e.2.1) ∧ my_M e 1049 333 [.inr (.inr (some 498)), .inl (Int32.ofNat k)] κ2 σ3 (my_kI (fun x4 κ5 σ6 => my_M e 1049 213 [.inr (.inr (some 498))] κ5 σ6 (my_kI (fun x7 κ8 σ9 => if x7 = x1_2 then (if x1_2 = 0 then (if (lg_cmp (σ9.2.1 585 0) (x4 : Int32).toInt64) = 0 then (ys_law_310 e 1049 v4 κ8 σ9 Q) else (Q (.inl (some (.inl 0))) κ8 σ9)) else (ys_law_310 e 1049 v4 κ8 σ9 Q)) else (Q (.inl (some (.inl 0))) κ8 σ9)) (fun y10 κ11 σ12 => Q (.inr y10) κ11 σ12))) (fun y13 κ14 σ15 => Q (.inr y13) κ14 σ15))) (fun y16 κ17 σ18 => Q (.inr y16) κ17 σ18)) (.inl (some (.inl 2))) κ5 σ6) else (False)))) := by
          unfold ys_9_80
          refine ⟨cu, ld.2.2.2.2.2.1, in10 hrv, c_196y ld (by omega) (by omega) ?_⟩
          rw [my_kI_v]
          refine fin _ σ eqp_rf (fun σ2 f2 {R} hR => pre σ2 f2 n1 n2 (fun σ3 f3 z0 ld3 => ?_))
          rw [if_neg (fun hh => by have := (ek 4 (by omega)).mp hh; omega), if_neg (fun hh => by have := (ek 5 (by omega)).mp hh; omega), if_neg (fun hh => by have := (ek 6 (by omega)).mp hh; omega), if_neg (fun hh => by have := (ek 7 (by omega)).mp hh; omega), if_neg (fun hh => by have := (ek 8 (by omega)).mp hh; omega), if_neg (fun hh => by have := (ek 9 (by omega)).mp hh; omega), if_neg (fun hh => by have := (ek 10 (by omega)).mp hh; omega), if_neg (fun hh => by have := (ek 11 (by omega)).mp hh; omega), if_neg (fun hh => by have := (ek 12 (by omega)).mp hh; omega), if_neg (fun hh => by have := (ek 13 (by omega)).mp hh; omega), if_neg (fun hh => by have := (ek 14 (by omega)).mp hh; omega)]
          refine r_313z ld3 q3 (by omega) ?_
          rw [my_kI_v]
          exact hR σ3 (ab3 f3) z0 (u5 f3)
        have : k = 0 ∨ k = 1 ∨ k = 2 ∨ k = 3 := by omega
        rcases this with hq | hq | hq | hq <;> subst hq
        · rw [if_pos (show Int32.ofNat 0 = 0 from rfl)]; exact cls
        · rw [if_neg (show ¬ Int32.ofNat 1 = 0 by decide), if_pos (show Int32.ofNat 1 = 1 from rfl)]; exact cls
        · rw [if_neg (show ¬ Int32.ofNat 2 = 0 by decide), if_neg (show ¬ Int32.ofNat 2 = 1 by decide), if_pos (show Int32.ofNat 2 = 2 from rfl)]; exact cls
        · rw [if_neg (show ¬ Int32.ofNat 3 = 0 by decide), if_neg (show ¬ Int32.ofNat 3 = 1 by decide), if_neg (show ¬ Int32.ofNat 3 = 2 by decide), if_pos (show Int32.ofNat 3 = 3 from rfl)]; exact cls
      · rw [if_neg (fun hh => by have := (ek 0 (by omega)).mp hh; omega), if_neg (fun hh => by have := (ek 1 (by omega)).mp hh; omega), if_neg (fun hh => by have := (ek 2 (by omega)).mp hh; omega), if_neg (fun hh => by have := (ek 3 (by omega)).mp hh; omega)]
        by_cases v4c : Int32.ofNat k = 4
        · rw [if_pos v4c, h.1.1]
          refine fin _ σ eqp_rf (fun σ2 f2 {R} hR => pre σ2 f2 n1 n2 (fun σ3 f3 z0 ld3 => ?_))
          rw [if_pos v4c, rd 65 σ2 σ3 f2 f3 (by omega), h.1.2.1]
          exact hR σ3 (ab3 f3) z0 (u5 f3)
        rw [if_neg v4c]
        by_cases v5c : Int32.ofNat k = 5
        · rw [if_pos v5c]
          refine c_11 ld hS (by omega) (fun σ1 f1 => ?_)
          rw [my_kI_v]
          refine fin _ σ1 (eqp_mo f1 (fun c k hh => by unfold abF; unfold oF at hh; omega)) (fun σ2 f2 {R} hR => pre σ2 f2 n1 n2 (fun σ3 f3 z0 ld3 => ?_))
          rw [if_neg v4c, if_pos v5c]
          have f03 : eqp abF σ σ3 := eqp_tr f2 (ab3 f3)
          refine f_283 hU ld3 k2 k3 (LgR_o c2 f03 (fun c k hh => by have := abF_c hh; omega)) (by omega) (fun σ4 fp4 f4 => ?_)
          rw [my_k0_v]
          have f4' : eqp abF σ3 σ4 := eqp_mo f4 (fun c k hh => by rcases hh with hh | hh; exact Or.inr (Or.inr (Or.inr (Or.inr (Or.inl hh)))); exact Or.inr (Or.inr (Or.inr (Or.inr (Or.inr hh)))))
          have ld4 : LD As I cu σ4 := LD_o (LD_30 ld3) ld3 f4' (fun c k hh => by have := abF_c hh; unfold coF; omega)
          have h64 : σ4.1 498 64 = Int32.ofNat (cnK As 3) := ld4.2.2.2.2.2.2.2.2.2.2.2.2.2
          have g0 : ¬ (plF 498 0 ∨ (498 : Nat) = 568 ∨ (498 : Nat) = 569) := by unfold plF; omega
          have g5 : ¬ (plF 585 0 ∨ (585 : Nat) = 568 ∨ (585 : Nat) = 569) := by unfold plF; omega
          exact ys_333_109_ok (r_333c hB h64 fp4 (hR σ4 (eqp_tr (ab3 f3) f4') ((eqp_g f4 g0).trans z0) (((f4 585 0 g5).2.1).trans (u5 f3))) (cnK As 3) 0 0 (Nat.zero_add _) (Nat.zero_add _))
        rw [if_neg v5c]
        by_cases v6c : Int32.ofNat k = 6
        · rw [if_pos v6c]
          refine fin _ σ eqp_rf (fun σ2 f2 {R} hR => pre σ2 f2 n1 n2 (fun σ3 f3 z0 ld3 => ?_))
          rw [if_neg v4c, if_neg v5c, if_pos v6c, rd 118 σ2 σ3 f2 f3 (by omega), ← hrec]
          exact hR σ3 (ab3 f3) z0 (u5 f3)
        rw [if_neg v6c]
        by_cases v7c : Int32.ofNat k = 7
        · rw [if_pos v7c]
          refine fin _ σ eqp_rf (fun σ2 f2 {R} hR => pre σ2 f2 n1 n2 (fun σ3 f3 z0 ld3 => ?_))
          rw [if_neg v4c, if_neg v5c, if_neg v6c, if_pos v7c, rd 87 σ2 σ3 f2 f3 (by omega), c5, ← d7]
          exact hR σ3 (ab3 f3) z0 (u5 f3)
        rw [if_neg v7c]
        by_cases v8c : Int32.ofNat k = 8
        · rw [if_pos v8c]
          refine fin _ σ eqp_rf (fun σ2 f2 {R} hR => pre σ2 f2 n1 n2 (fun σ3 f3 z0 ld3 => ?_))
          rw [if_neg v4c, if_neg v5c, if_neg v6c, if_neg v7c, if_pos v8c, rd 119 σ2 σ3 f2 f3 (by omega), ← hle]
          exact hR σ3 (ab3 f3) z0 (u5 f3)
        rw [if_neg v8c]
        by_cases v9c : Int32.ofNat k = 9
        · rw [if_pos v9c]
          refine c_155 hS (by omega) ?_
          rw [my_kA_v]
          refine ⟨_, rfl, in8 hA2_l, ?_⟩
          refine fin _ σ eqp_rf (fun σ2 f2 {R} hR => pre σ2 f2 n1 n2 (fun σ3 f3 z0 ld3 => ?_))
          rw [if_neg v4c, if_neg v5c, if_neg v6c, if_neg v7c, if_neg v8c, if_pos v9c, rd 86 σ2 σ3 f2 f3 (by omega), c2.1, List.length_nil, Nat.add_zero, ← d2.1]
          exact hR σ3 (ab3 f3) z0 (u5 f3)
        rw [if_neg v9c]
        by_cases v10 : Int32.ofNat k = 10
        · rw [if_pos v10]
          refine fin _ σ eqp_rf (fun σ2 f2 {R} hR => pre σ2 f2 n1 n2 (fun σ3 f3 z0 ld3 => ?_))
          rw [if_neg v4c, if_neg v5c, if_neg v6c, if_neg v7c, if_neg v8c, if_neg v9c, if_pos v10, rd 83 σ2 σ3 f2 f3 (by omega), c3, ← d3]
          exact hR σ3 (ab3 f3) z0 (u5 f3)
        rw [if_neg v10]
        by_cases v11 : Int32.ofNat k = 11
        · rw [if_pos v11]
          refine c_155 hS (by omega) ?_
          rw [my_kA_v]
          refine ⟨_, rfl, in8 hA2_l, ?_⟩
          refine fin _ σ eqp_rf (fun σ2 f2 {R} hR => pre σ2 f2 n1 n2 (fun σ3 f3 z0 ld3 => ?_))
          rw [if_neg v4c, if_neg v5c, if_neg v6c, if_neg v7c, if_neg v8c, if_neg v9c, if_neg v10, if_pos v11, rd 84 σ2 σ3 f2 f3 (by omega), c4, ← d4]
          exact hR σ3 (ab3 f3) z0 (u5 f3)
        rw [if_neg v11]
        by_cases v12 : Int32.ofNat k = 12
        · rw [if_pos v12]
          refine c_14 ld hBb hol (by omega) ?_
          rw [my_kI_v]
          refine fin _ σ eqp_rf (fun σ2 f2 {R} hR => pre σ2 f2 n1 n2 (fun σ3 f3 z0 ld3 => ?_))
          rw [if_neg v4c, if_neg v5c, if_neg v6c, if_neg v7c, if_neg v8c, if_neg v9c, if_neg v10, if_neg v11, if_pos v12]
          have f03 : eqp abF σ σ3 := eqp_tr f2 (ab3 f3)
          refine r_334 hB hBb ld3.2.2.2.2.2.2.2.2.2.1 (fun k a ha => (ld3.2.2.2.2.2.2.2.2.1 k a ha).2.1) (OLR_o hor f03 (fun c k hh => by have := abF_c hh; omega)) (by omega) ?_
          rw [my_kI_v]
          exact hR σ3 (ab3 f3) z0 (u5 f3)
        rw [if_neg v12]
        obtain ⟨P, hP, hr, hcr⟩ := hcr
        by_cases v13 : Int32.ofNat k = 13
        · rw [if_pos v13]
          rcases hcr with ⟨a, b, c, W0, w1, w2⟩ | ⟨W, Z, pl, st, a1, a2, a3, a4, a5, a6, a7⟩
          · refine c_142n b (by omega) ?_
            rw [my_kI_v]
            refine fin _ σ eqp_rf (fun σ2 f2 {R} hR => pre σ2 f2 n1 n2 (fun σ3 f3 z0 ld3 => ?_))
            rw [if_neg v4c, if_neg v5c, if_neg v6c, if_neg v7c, if_neg v8c, if_neg v9c, if_neg v10, if_neg v11, if_neg v12, if_pos v13]
            unfold ys_333_177 ys_333_189
            rw [if_pos v13]
            refine r_336n ((rd 107 σ2 σ3 f2 f3 (by omega)).trans c) (by omega) ?_
            rw [my_kI_v]
            exact hR σ3 (ab3 f3) z0 (u5 f3)
          · refine c_142 a3 (by omega) ?_
            rw [my_kI_v]
            refine fin _ σ eqp_rf (fun σ2 f2 {R} hR => pre σ2 f2 n1 n2 (fun σ3 f3 z0 ld3 => ?_))
            rw [if_neg v4c, if_neg v5c, if_neg v6c, if_neg v7c, if_neg v8c, if_neg v9c, if_neg v10, if_neg v11, if_neg v12, if_pos v13]
            unfold ys_333_177 ys_333_189
            rw [if_pos v13]
            have f03 : eqp abF σ σ3 := eqp_tr f2 (ab3 f3)
            refine r_336 (RPL_o hB a4 f03 (fun c k hh => by have := abF_c hh; omega)) a7 ((rd 123 σ2 σ3 f2 f3 (by omega)).trans a5) ⟨a1, a2⟩ (by omega) (fun _ => ?_) (fun hh => absurd hh (by decide))
            rw [my_kI_v]
            exact hR σ3 (ab3 f3) z0 (u5 f3)
        rw [if_neg v13]
        have v14 : Int32.ofNat k = 14 := by
          have e13 : ¬ k = 13 := fun hh => v13 ((ek 13 (by omega)).mpr hh)
          have e12 : ¬ k = 12 := fun hh => v12 ((ek 12 (by omega)).mpr hh)
          have e11 : ¬ k = 11 := fun hh => v11 ((ek 11 (by omega)).mpr hh)
          have e10 : ¬ k = 10 := fun hh => v10 ((ek 10 (by omega)).mpr hh)
          have e9 : ¬ k = 9 := fun hh => v9c ((ek 9 (by omega)).mpr hh)
          have e8 : ¬ k = 8 := fun hh => v8c ((ek 8 (by omega)).mpr hh)
          have e7 : ¬ k = 7 := fun hh => v7c ((ek 7 (by omega)).mpr hh)
          have e6 : ¬ k = 6 := fun hh => v6c ((ek 6 (by omega)).mpr hh)
          have e5 : ¬ k = 5 := fun hh => v5c ((ek 5 (by omega)).mpr hh)
          have e4 : ¬ k = 4 := fun hh => v4c ((ek 4 (by omega)).mpr hh)
          exact (ek 14 (by omega)).mpr (by omega)
        rw [if_pos v14]
        rcases hcr with ⟨a, b, c, W0, w1, w2⟩ | ⟨W, Z, pl, st, a1, a2, a3, a4, a5, a6, a7⟩
        · refine c_143n b w1 w2 (by omega) ?_
          rw [my_kI_v]
          refine fin _ σ eqp_rf (fun σ2 f2 {R} hR => pre σ2 f2 n1 n2 (fun σ3 f3 z0 ld3 => ?_))
          rw [if_neg v4c, if_neg v5c, if_neg v6c, if_neg v7c, if_neg v8c, if_neg v9c, if_neg v10, if_neg v11, if_neg v12, if_neg v13, if_pos v14]
          unfold ys_333_177 ys_333_189
          rw [if_neg v13]
          refine r_336n ((rd 107 σ2 σ3 f2 f3 (by omega)).trans c) (by omega) ?_
          rw [my_kI_v]
          exact hR σ3 (ab3 f3) z0 (u5 f3)
        · refine c_143 a3 ⟨a1, a2⟩ (by omega) ?_
          rw [my_kI_v]
          refine fin _ σ eqp_rf (fun σ2 f2 {R} hR => pre σ2 f2 n1 n2 (fun σ3 f3 z0 ld3 => ?_))
          rw [if_neg v4c, if_neg v5c, if_neg v6c, if_neg v7c, if_neg v8c, if_neg v9c, if_neg v10, if_neg v11, if_neg v12, if_neg v13, if_pos v14]
          unfold ys_333_177 ys_333_189
          rw [if_neg v13]
          have f03 : eqp abF σ σ3 := eqp_tr f2 (ab3 f3)
          refine r_336 (RPL_o hB a4 f03 (fun c k hh => by have := abF_c hh; omega)) a7 ((rd 123 σ2 σ3 f2 f3 (by omega)).trans a5) ⟨a1, a2⟩ (by omega) (fun hh => absurd rfl hh) (fun _ => ?_)
          rw [my_kI_v]
          exact hR σ3 (ab3 f3) z0 (u5 f3)
end MAB
