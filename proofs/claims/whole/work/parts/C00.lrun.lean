
/-! ===== run, of the law ===== -/
/-- what holds of the disk between the calls -/
def INVd (M : Nat) (σ : my_S) : Prop := ∃ D h ep E w, DKP D h ep E M ∧ DKC D h ep E w σ ∧ DKR D h ep E w σ ∧ σ.1 89 5 = σ.1 498 118 ∧ σ.1 32 12 = σ.1 498 119
/-- a slot ends when its run is done -/
def EDe (Z : Nat → Ms) (pl : List Sp) : Prop := ∀ (i : Nat) p, pl[i]? = some p → p.2.2.2 = p.2.2.1 + Int32.ofNat (zF (Z p.1)) + 1
theorem plcS_e {Z : Nat → Ms} {W : Nat} : ∀ {L : List Nat} {fr : Nat → Int32}, EDe Z (plcS Z W L fr)
  | [], _ => fun i p hp => by rw [plcS] at hp; simp at hp
  | k :: r, fr => fun i p hp => by
    cases i with
    | zero =>
      rw [plcS, List.getElem?_cons_zero] at hp
      cases hp
      rfl
    | succ i =>
      rw [plcS, List.getElem?_cons_succ] at hp
      exact plcS_e i p hp
/-- .. and of the slots -/
def INVc (cu : Nat) (As : List Ri) (σ : my_S) : Prop := ∃ P, slo P ∧ SLr P σ ∧ ((σ.1 62 4 = 0 ∧ σ.1 62 2 = 0 ∧ σ.1 498 107 = Int32.ofInt (-1) ∧ ∃ W0, W0 ≤ 64 ∧ σ.1 62 3 = Int32.ofNat W0) ∨ ∃ W Z pl st, 1 ≤ W ∧ W ≤ 64 ∧ CPL cu W Z P pl st σ ∧ RPL As Z pl st σ ∧ σ.1 498 123 = Int32.ofNat W ∧ TST As pl ∧ EDe Z pl)
def idF (c k : Nat) : Prop := (89 ≤ c ∧ c ≤ 91) ∨ (94 ≤ c ∧ c ≤ 107) ∨ c = 546 ∨ c = 547 ∨ (c = 498 ∧ (k = 83 ∨ k = 84 ∨ k = 86 ∨ k = 87 ∨ k = 118 ∨ k = 119)) ∨ (c = 32 ∧ k = 12)
def icF (c k : Nat) : Prop := (62 ≤ c ∧ c ≤ 88) ∨ (557 ≤ c ∧ c ≤ 566) ∨ (c = 498 ∧ (k = 107 ∨ k = 123))
section MLN2
variable {As Bs : List Ri} {I I' : List It} {cnt cu ol sp M : Nat} {e : my_E} {d : Nat} {κ : my_K} {σ σ' : my_S} {Q : my_O → my_K → my_S → Prop} {v4 : Int32} {F : Nat → Nat → Prop}
theorem INVd_o (h : INVd M σ) (f : eqp F σ σ') (hF : ∀ c k, F c k → ¬ idF c k) : INVd M σ' := by
  obtain ⟨D, h0, ep, E, w, a, ⟨b1, b2, b3, b4, b5, b6, b7⟩, ⟨c1, c2, c3, c4, c5⟩, d1, d2⟩ := h
  have hb := hA2_b (h := h0)
  have g : ∀ {c k : Nat}, idF c k → σ'.1 c k = σ.1 c k := fun hh => eqp_g f (fun h2 => hF _ _ h2 hh)
  have ga : ∀ {c k : Nat}, idF c k → σ'.2.2 c k = σ.2.2 c k := fun {c k} hh => (f c k (fun h2 => hF _ _ h2 hh)).2.2
  have hF' : ∀ c k, F c k → ¬ ((89 ≤ c ∧ c ≤ 91) ∨ (94 ≤ c ∧ c ≤ 107) ∨ c = 546 ∨ c = 547 ∨ (c = 498 ∧ (k = 83 ∨ k = 84 ∨ k = 86 ∨ k = 87 ∨ k = 118 ∨ k = 119)) ∨ (c = 32 ∧ k = 12)) := fun c k hh => hF c k hh
  refine ⟨D, h0, ep, E, w, a, ⟨DC_o b1 f (fun c k hh => by have := hF' c k hh; omega), LgC_o b2 f (fun c k hh => by have := hF' c k hh; omega), (g (by unfold idF; omega)).trans b3, (g (by unfold idF; omega)).trans b4, (ga (by unfold idF; omega)).trans b5, (ga (by unfold idF; omega)).trans b6, (g (by unfold idF; omega)).trans b7⟩, ⟨DR_o c1 f (fun c k hh => by have := hF' c k hh; omega), LgR_o c2 f (fun c k hh => by have := hF' c k hh; omega), (g (by unfold idF; omega)).trans c3, (g (by unfold idF; omega)).trans c4, (g (by unfold idF; omega)).trans c5⟩, ?_, ?_⟩
  · rw [g (c := 89) (k := 5) (by unfold idF; omega), g (c := 498) (k := 118) (by unfold idF; omega)]; exact d1
  · rw [g (c := 32) (k := 12) (by unfold idF; omega), g (c := 498) (k := 119) (by unfold idF; omega)]; exact d2
theorem INVd_M {M' : Nat} (hM : M ≤ M') (hM' : M' < 65535) (h : INVd M σ) : INVd M' σ := by
  obtain ⟨D, h0, ep, E, w, ⟨a1, a2, a3⟩, b⟩ := h
  exact ⟨D, h0, ep, E, w, ⟨DSK_M hM hM' a1, a2, a3⟩, b⟩
theorem INVc_o (hB : itsB As) (h : INVc cu As σ) (f : eqp F σ σ') (hF : ∀ c k, F c k → ¬ icF c k) : INVc cu As σ' := by
  obtain ⟨P, h1, h2, h3⟩ := h
  have g : ∀ {c k : Nat}, icF c k → σ'.1 c k = σ.1 c k := fun hh => eqp_g f (fun h2 => hF _ _ h2 hh)
  have hF' : ∀ c k, F c k → ¬ ((62 ≤ c ∧ c ≤ 88) ∨ (557 ≤ c ∧ c ≤ 566) ∨ (c = 498 ∧ (k = 107 ∨ k = 123))) := fun c k hh => hF c k hh
  refine ⟨P, h1, SLr_o h2 f (fun c k hh => by have := hF' c k hh; omega), ?_⟩
  rcases h3 with ⟨a, b, c, W0, w1, w2⟩ | ⟨W, Z, pl, st, a1, a2, a3, a4, a5, a6⟩
  · exact Or.inl ⟨(g (by unfold icF; omega)).trans a, (g (by unfold icF; omega)).trans b, (g (by unfold icF; omega)).trans c, W0, w1, (g (by unfold icF; omega)).trans w2⟩
  · exact Or.inr ⟨W, Z, pl, st, a1, a2, CPL_o a3 f (fun c k hh => by have := hF' c k hh; omega), RPL_o hB a4 f (fun c k hh => by have := hF' c k hh; omega), (g (by unfold icF; omega)).trans a5, a6⟩
theorem INVd_S (h : INVd M σ) : ∃ A E, LVs A E σ := by
  obtain ⟨D, h0, ep, E, w, ⟨a1, a2, a3⟩, ⟨b1, b2, b3, b4, b5, b6, b7⟩, ⟨c1, c2, c3, c4, c5⟩, _⟩ := h
  refine ⟨hA2 h0, E, hA2_l, a2, a3, b2, c2, ?_, b5, b6⟩
  rw [b3]
  have hh := a1.1.1
  by_cases c : h0 = 1
  · rw [c]; rfl
  · have : h0 = 0 := by omega
    rw [this]; rfl
theorem INVk_c (h : INVk cnt cu As I σ) (hb : bck σ') (f : eqp F σ σ') (hF : ∀ c k, F c k → ¬ ((c = 498 ∧ (k = 133 ∨ k = 135 ∨ (136 ≤ k ∧ k ≤ 141))) ∨ (577 ≤ c ∧ c ≤ 584) ∨ (c = 32 ∧ k = 11) ∨ (53 ≤ c ∧ c ≤ 61))) : INVk cnt cu As I σ' := by
  obtain ⟨_, _, ha, ht⟩ := h
  refine ⟨hb.2, hb.1, asB_o ha f (fun c k hh => by have := hF c k hh; omega), ?_⟩
  rcases ht with ⟨t1, t2⟩ | ⟨t1, t2, t3, t4, s, t5, t6, t7, t8⟩
  · exact Or.inl ⟨(eqp_g f (fun hh => by have := hF _ _ hh; omega)).trans t1, (eqp_g f (fun hh => by have := hF _ _ hh; omega)).trans t2⟩
  · refine Or.inr ⟨t1, (eqp_g f (fun hh => by have := hF _ _ hh; omega)).trans t2, (eqp_g f (fun hh => by have := hF _ _ hh; omega)).trans t3, ?_, s, CMs_o t5 f (fun c k hh => by have := hF c k hh; omega), t6, t7, RAs_o t8 f (fun c k hh => by have := hF c k hh; unfold raF; omega)⟩
    rw [eqp_g f (show ¬ F 498 135 from fun hh => by have := hF _ _ hh; omega), eqp_g f (show ¬ F 53 13 from fun hh => by have := hF _ _ hh; omega)]
    exact t4
theorem i32_p {x : Int32} (h : ¬ x < 0) : ∃ n, x = Int32.ofNat n ∧ n < 2147483648 := by
  rw [Int32.lt_iff_toInt_lt] at h
  have a0 : (0 : Int32).toInt = 0 := rfl
  have a1 := Int32.toInt_lt x
  refine ⟨x.toInt.toNat, ?_, by omega⟩
  apply Int32.toInt_inj.mp
  rw [oN_i (by omega)]
  omega
def ruF (c k : Nat) : Prop := c36F c k ∨ c82F c k ∨ (c = 585 ∧ k = 0)
theorem ruF_c {c k : Nat} (h : ruF c k) : (44 ≤ c ∧ c ≤ 52) ∨ (62 ≤ c ∧ c ≤ 88) ∨ c = 90 ∨ (92 ≤ c ∧ c ≤ 107) ∨ (c = 89 ∧ 3 ≤ k ∧ k ≤ 7) ∨ (c = 32 ∧ k = 12) ∨ (538 ≤ c ∧ c ≤ 569) ∨ (c = 498 ∧ (k = 0 ∨ (70 ≤ k ∧ k ≤ 107) ∨ k = 118 ∨ k = 119 ∨ k = 123)) ∨ (c = 585 ∧ k = 0) := by
  unfold ruF c36F c82F at h; omega
theorem l_20i (h : INVr cnt cu ol sp As I Bs I' σ) (ht : INVt σ) (hk : INVk cnt cu As I σ) (hdk : INVd M σ) (hcr : INVc cu As σ) (hM : M + 14 < 65535) (hκ : 1 ≤ κ.2.1 ∧ 6 ≤ κ.2.2) (b1 : my_bd (v4 + 1) e.2.1) (b2 : my_bd (v4 + 2) e.2.1) (hn : ∀ κ' σ', (κ' = κ ∨ κ' = (κ.1 + 1, κ.2.1 - 1, κ.2.2 - 6)) → INVr cnt cu ol sp As I Bs I' σ' → INVt σ' → INVk cnt cu As I σ' → INVd (M + 13) σ' → INVc cu As σ' → eqp ruF σ σ' → ys_law_1663 e 1049 v4 κ' σ' Q) : ys_law_1316 e 1049 v4 κ σ Q := by
  have fin : ∀ κ' σ', (κ' = κ ∨ κ' = (κ.1 + 1, κ.2.1 - 1, κ.2.2 - 6)) → bck σ' → INVd (M + 13) σ' → INVc cu As σ' → eqp ruF σ σ' → ys_law_1663 e 1049 v4 κ' σ' Q := fun κ' σ' hk' hb hd' hc' f => hn κ' σ' hk' (INVr_o h f (fun c k hh => by have := ruF_c hh; unfold ivF coF olF; omega)) (INVt_o ht f (fun c k hh => by have := ruF_c hh; omega)) (INVk_c hk hb f (fun c k hh => by have := ruF_c hh; omega)) hd' hc' f
  have hbk : bck σ := ⟨hk.2.1, hk.1⟩
  -- a code alone is set
  have one : ∀ (v : Int32), (INVr cnt cu ol sp As I Bs I' σ → itsB As ∨ cnt = 0) → ys_law_1663 e 1049 v4 (κ.1 + 1, κ.2.1 - 1, κ.2.2 - 6) (my_uI σ 498 0 v) Q := fun v _ => by
    have f : eqp (fun c k => c = 498 ∧ k = 0) σ (my_uI σ 498 0 v) := eqp_I eqp_rf ⟨rfl, rfl⟩
    have hc' : INVc cu As (my_uI σ 498 0 v) := by
      obtain ⟨P, h1, h2, h3⟩ := hcr
      refine ⟨P, h1, SLr_o h2 f (fun c k hh => by omega), ?_⟩
      rcases h3 with ⟨a, b, c, W0, w1, w2⟩ | ⟨W, Z, pl, st, a1, a2, a3, ⟨r1, r2, r3⟩, a5, a6⟩
      · exact Or.inl ⟨(eqp_g f (by omega)).trans a, (eqp_g f (by omega)).trans b, (eqp_g f (by omega)).trans c, W0, w1, (eqp_g f (by omega)).trans w2⟩
      · refine Or.inr ⟨W, Z, pl, st, a1, a2, CPL_o a3 f (fun c k hh => by omega), ⟨(eqp_g f (by omega)).trans r1, r2, fun i p hp => ?_⟩, (eqp_g f (by omega)).trans a5, a6⟩
        obtain ⟨⟨⟨q1, q2, q3, q4, q5, q6⟩, q7, q8, q9⟩, q10, q11⟩ := r3 i p hp
        exact ⟨⟨⟨(eqp_g f (by omega)).trans q1, (eqp_g f (by omega)).trans q2, (eqp_g f (by omega)).trans q3, fun c hc => (eqp_g f (by omega)).trans (q4 c hc), (eqp_g f (by omega)).trans q5, fun k b hb => (eqp_g f (by omega)).trans (q6 k b hb)⟩, (eqp_g f (by omega)).trans q7, (eqp_g f (by omega)).trans q8, (eqp_g f (by omega)).trans q9⟩, (eqp_g f (by omega)).trans q10, q11⟩
    exact fin _ _ (Or.inr rfl) (bck_o hbk f (fun c k hh => by omega)) (INVd_M (by omega) (by omega) (INVd_o hdk f (fun c k hh => by unfold idF; omega))) hc' (eqp_mo f (fun c k hh => by unfold ruF c82F; omega))
  by_cases hc : cnt = 0
  · exact l_20 (by rw [h.1.1, hc]; rfl) (by rw [h.1.2.1, hc]; rfl) hκ.1 hκ.2 b1 b2 (one 1 (fun _ => Or.inr hc))
  · have ld := INVr_LD h (by omega)
    have hL := (h.2.2.2.2.2.1 (by omega)).1
    have hU := LOf_U hL
    have hB := ld.1
    unfold ys_law_1316
    refine ⟨b1, b2, ys_395 ?_⟩
    unfold ys_395_0
    generalize e.2.2 (v4 + 1 : Int32).toNatClampNeg = x1
    generalize e.2.2 (v4 + 2 : Int32).toNatClampNeg = x2
    by_cases cv : x1 < 1 ∨ (64 : Int32) < x1 ∨ x2 < 0
    · -- refused
      have cls : ∀ {P : my_O → my_K → my_S → Prop}, P (.inr (κ.1, 14)) (κ.1 + 1, κ.2.1 - 1, κ.2.2 - 6) σ → my_M e 1048 36 [.inr (.inr (some 32)), .inl x1, .inl x2] κ σ P := fun {P} hP => by
        refine ys_36 ?_
        unfold ys_36_0
        refine ys_10 ?_
        unfold ys_10_0
        rw [if_neg ld.2.2.2.1, my_k0_v]
        unfold ys_36_19
        by_cases c1 : x1 < 1
        · rw [if_pos c1]; exact ⟨⟨by omega, hκ.1, hκ.2⟩, hP⟩
        · rw [if_neg c1]
          by_cases c2 : (64 : Int32) < x1
          · rw [if_pos c2]; exact ⟨⟨by omega, hκ.1, hκ.2⟩, hP⟩
          · rw [if_neg c2]
            by_cases c3 : x2 < 0
            · rw [if_pos c3]; exact ⟨⟨by omega, hκ.1, hκ.2⟩, hP⟩
            · rcases cv with cv | cv | cv
              · exact absurd cv c1
              · exact absurd cv c2
              · exact absurd cv c3
      refine cls ?_
      rw [my_kI_x, if_neg (show ¬ (14 : Nat) = 13 by decide), if_pos rfl, my_kI_v]
      refine ⟨b1, b2, ys_282 ?_⟩
      unfold ys_282_0
      rw [if_neg ld.2.2.2.2.1]
      have bad : ys_282_28 e 1048 x1 x2 0 (κ.1 + 1, κ.2.1 - 1, κ.2.2 - 6) σ (my_kI (fun x4 κ5 σ6 => my_M e 1049 213 [.inr (.inr (some 498))] κ5 σ6 (my_kI (fun x7 κ8 σ9 => if x7 = 2 then (if (2 : Int32) = 0 then (if (lg_cmp (σ9.2.1 585 0) (x4 : Int32).toInt64) = 0 then (ys_law_1381 e 1049 v4 κ8 σ9 Q) else (Q (.inl (some (.inl 0))) κ8 σ9)) else (ys_law_1381 e 1049 v4 κ8 σ9 Q)) else (Q (.inl (some (.inl 0))) κ8 σ9)) (fun y10 κ11 σ12 => Q (.inr y10) κ11 σ12))) (fun y13 κ14 σ15 => Q (.inr y13) κ14 σ15)) := by
        unfold ys_282_28 ys_282_33
        refine r_215_2 ?_
        rw [my_kI_v, if_neg (by decide), my_kI_v]
        refine r_213 ?_
        rw [my_kI_v, if_pos (show (my_uI σ 498 0 2).1 498 0 = 2 from rfl), if_neg (by decide)]
        exact one 2 (fun _ => Or.inl hB)
      unfold ys_282_13
      by_cases c1 : x1 < 1
      · rw [if_pos c1]; exact bad
      · rw [if_neg c1]
        by_cases c2 : (64 : Int32) < x1
        · rw [if_pos c2]; exact bad
        · rw [if_neg c2]
          by_cases c3 : x2 < 0
          · rw [if_pos c3]; exact bad
          · rcases cv with cv | cv | cv
            · exact absurd cv c1
            · exact absurd cv c2
            · exact absurd cv c3
    · have cv1 : ¬ x1 < 1 := fun hh => cv (Or.inl hh)
      have cv2 : ¬ (64 : Int32) < x1 := fun hh => cv (Or.inr (Or.inl hh))
      have cv3 : ¬ x2 < 0 := fun hh => cv (Or.inr (Or.inr hh))
      obtain ⟨W, hW, hWl⟩ := i32_p (x := x1) (fun hh => cv1 (by rw [Int32.lt_iff_toInt_lt] at hh ⊢; have a0 : (0 : Int32).toInt = 0 := rfl; have a1 : (1 : Int32).toInt = 1 := rfl; omega))
      obtain ⟨n, hn2, hnl⟩ := i32_p cv3
      subst hW
      subst hn2
      have hW1 : 1 ≤ W ∧ W ≤ 64 := ⟨by
        by_cases c : 1 ≤ W
        · exact c
        · exact absurd ((oN_lt1 (b := 1) (c := 1) rfl hWl (by omega)).mpr (by omega)) cv1, by
        by_cases c : W ≤ 64
        · exact c
        · exact absurd ((oN_lt2 (b := 64) (c := 64) rfl (by omega) hWl).mpr (by omega)) cv2⟩
      obtain ⟨D, h0, ep, E, w, hdp, hdc, hdr, hrec, hle⟩ := hdk
      obtain ⟨P, hP, hr, _⟩ := hcr
      obtain ⟨Z, hZ⟩ := RZ_ex hL
      have hS : LVs (hA2 h0) E σ := by
        obtain ⟨a1, a2, a3⟩ := hdp
        obtain ⟨b1, b2, b3, b4, b5, b6, b7⟩ := hdc
        refine ⟨hA2_l, a2, a3, b2, hdr.2.1, ?_, b5, b6⟩
        rw [b3]
        have hh := a1.1.1
        by_cases c : h0 = 1
        · rw [c]; rfl
        · have : h0 = 0 := by omega
          rw [this]; rfl
      have hT := TPI_l (m := cnK As 3) (TPI_0 (As := As) (I := I) (E := E))
      rw [Nat.zero_add] at hT
      have h12 : cnK As 3 ≤ 12 := hB.1 3
      generalize hpl : plcS Z W ((tpl As I E (cnK As 3) 0 []).map (fun x => x.1)) (fun _ => 0) = pl
      have hpn : pl.length ≤ 12 := by rw [← hpl, plcS_l, List.length_map]; have := hT.2.1; omega
      have htst : TST As pl := by rw [← hpl]; exact plcS_t hW1.2 (pl_t hB)
      have hede : EDe Z pl := by rw [← hpl]; exact plcS_e
      have hrn := rnA_ok (I := I) (v3 := Int32.ofNat cnt) hU hB hZ htst pl.length M (D, h0, ep, E, n, w) (fun _ => 0) 0 0 (by omega) ⟨hdp.1, hdp.2.1, hdp.2.2, hnl⟩
      have hwit : ∃ h' ep' E' T, (rnA As I (Int32.ofNat cnt) Z pl pl.length (D, h0, ep, E, n, w) (fun _ => 0) 0 0).2.2.2.2 = true → CUT (kD (rnA As I (Int32.ofNat cnt) Z pl pl.length (D, h0, ep, E, n, w) (fun _ => 0) 0 0).1) h' ep' E' T (M + pl.length) := by
        by_cases c : (rnA As I (Int32.ofNat cnt) Z pl pl.length (D, h0, ep, E, n, w) (fun _ => 0) 0 0).2.2.2.2 = true
        · obtain ⟨⟨h', ep', E', T, hc⟩, _⟩ := hrn.2 c
          exact ⟨h', ep', E', T, fun _ => hc⟩
        · exact ⟨0, 0, [], [], fun hh => absurd hh c⟩
      obtain ⟨h', ep', E', T, hcut⟩ := hwit
      have hfn := fnS_ok (As := As) (M := M + pl.length) (h := h') (ep := ep') (E := E') (T := T) hU hB (by omega) hrn.1 hcut
      refine c_36r (P := P) (D := D) (ep := ep) (w := w) (M := M) (n := n) (pl := pl) (v3 := Int32.ofNat cnt) hU hL ld hS hZ hW1 hP hr hdc hdp (by omega) hnl h.1.1 hpl.symm hcut (by omega) (fun σ1 P1 F hF dk1 cp1 y5 y12 f1 => ?_)
      rw [my_kI_v, my_kI_v]
      generalize hR : rnA As I (Int32.ofNat cnt) Z pl pl.length (D, h0, ep, E, n, w) (fun _ => 0) 0 0 = R at hcut hfn hF cp1 y5 y12 ⊢
      generalize hy : R.2.2.1.toInt64 = y
      have f2 : eqp ruF σ (my_uL σ1 585 0 y) := eqp_L (eqp_mo f1 (fun c k hh => Or.inl hh)) (Or.inr (Or.inr ⟨rfl, rfl⟩))
      have u2 : (my_uL σ1 585 0 y).2.1 585 0 = y := by rw [my_uL_2, if_pos ⟨rfl, rfl⟩]
      have f12 : eqp (fun c k => c = 585 ∧ k = 0) σ1 (my_uL σ1 585 0 y) := eqp_L eqp_rf ⟨rfl, rfl⟩
      have fc : eqp (fun c k => c36F c k ∨ (c = 585 ∧ k = 0)) σ (my_uL σ1 585 0 y) := eqp_tr (eqp_mo f1 (fun c k hh => Or.inl hh)) (eqp_mo f12 (fun c k hh => Or.inr hh))
      generalize my_uL σ1 585 0 y = σ2 at f2 u2 f12 fc ⊢
      have fc' : ∀ c k, (c36F c k ∨ (c = 585 ∧ k = 0)) → (44 ≤ c ∧ c ≤ 52) ∨ (62 ≤ c ∧ c ≤ 88) ∨ c = 90 ∨ (92 ≤ c ∧ c ≤ 107) ∨ (c = 89 ∧ 3 ≤ k ∧ k ≤ 7) ∨ (c = 32 ∧ k = 12) ∨ c = 585 := fun c k hh => by unfold c36F at hh; omega
      have ld2 : LD As I cu σ2 := LD_o (LD_30 ld) ld fc (fun c k hh => by have := fc' c k hh; have := ld.2.2.1; unfold coF; omega)
      have dr2 : DKR D h0 ep E w σ2 := by
        obtain ⟨c1, c2, c3, c4, c5⟩ := hdr
        exact ⟨DR_o c1 fc (fun c k hh => by have := fc' c k hh; omega), LgR_o c2 fc (fun c k hh => by have := fc' c k hh; omega), (eqp_g fc (fun hh => by have := fc' _ _ hh; omega)).trans c3, (eqp_g fc (fun hh => by have := fc' _ _ hh; omega)).trans c4, (eqp_g fc (fun hh => by have := fc' _ _ hh; omega)).trans c5⟩
      have bk2 : bck σ2 := bck_o hbk fc (fun c k hh => by have := fc' c k hh; omega)
      refine ⟨b1, b2, f_282r (D := D) (h := h0) (ep := ep) (E := E) (w := w) (M := M) (n := n) (pl := pl) (v3 := Int32.ofNat cnt) (h' := h') (ep' := ep') (E' := E') (T := T) hU hL ld2 hZ hW1 dr2 hdp (by omega) hnl bk2 ((eqp_g fc (fun hh => by have := fc' _ _ hh; omega)).trans h.1.2.1) hpl.symm (by rw [hR]; exact hcut) (by omega) (fun σ3 F3 hF3 dk3 rp3 bk3 z0 z123 z118 z119 f3 => ?_)⟩
      rw [hR] at hF3 rp3 z118 z119 ⊢
      rw [my_kI_v]
      refine r_213 ?_
      have u3 : σ3.2.1 585 0 = y := by rw [(f3 585 0 (by unfold c82F; omega)).2.1]; exact u2
      rw [my_kI_v, z0, if_pos rfl, if_pos rfl, hy, if_pos (lg_cmp_0.mpr u3)]
      have f23 : eqp (fun c k => c82F c k ∨ (c = 585 ∧ k = 0)) σ1 σ3 := eqp_tr (eqp_mo f12 (fun c k hh => Or.inr hh)) (eqp_mo f3 (fun c k hh => Or.inl hh))
      have g23 : ∀ c k, (c82F c k ∨ (c = 585 ∧ k = 0)) → (538 ≤ c ∧ c ≤ 585) ∨ c = 498 := fun c k hh => by unfold c82F at hh; omega
      have hF33 : F3 = F := by rw [hF3, hF]
      subst hF33
      rw [← hF] at hfn
      obtain ⟨e1, e2, e3, e4, e5, e6, e7⟩ := dk1
      have hb0 := hA2_b (h := F3.2.1)
      have dkc3 : DKC F3.1 F3.2.1 F3.2.2.1 F3.2.2.2.1 F3.2.2.2.2 σ3 := ⟨DC_o e1 f23 (fun c k hh => by have := g23 c k hh; omega), LgC_o e2 f23 (fun c k hh => by have := g23 c k hh; omega), (eqp_g f23 (fun hh => by have := g23 _ _ hh; omega)).trans e3, (eqp_g f23 (fun hh => by have := g23 _ _ hh; omega)).trans e4, ((f23 91 0 (fun hh => by have := g23 _ _ hh; omega)).2.2).trans e5, ((f23 91 1 (fun hh => by have := g23 _ _ hh; omega)).2.2).trans e6, (eqp_g f23 (fun hh => by have := g23 _ _ hh; omega)).trans e7⟩
      have v5 : σ3.1 89 5 = σ3.1 498 118 := by
        rw [eqp_g f23 (show ¬ (c82F 89 5 ∨ (89 = 585 ∧ 5 = 0)) from fun hh => by have := g23 _ _ hh; omega), y5, z118, hrec, eqp_g fc (show ¬ (c36F 498 118 ∨ _) from fun hh => by have := fc' _ _ hh; omega)]
      have v12 : σ3.1 32 12 = σ3.1 498 119 := by
        rw [eqp_g f23 (show ¬ (c82F 32 12 ∨ (32 = 585 ∧ 12 = 0)) from fun hh => by have := g23 _ _ hh; omega), y12, z119]
      have hcp3 : CPL cu W Z P1 pl R.2.1 σ3 := CPL_o cp1 f23 (fun c k hh => by have := g23 c k hh; omega)
      refine fin κ σ3 (Or.inl rfl) bk3 ?_ ⟨P1, hcp3.1, hcp3.2.1, Or.inr ⟨W, Z, pl, R.2.1, hW1.1, hW1.2, hcp3, rp3, z123, htst, hede⟩⟩ (eqp_tr f2 (eqp_mo f3 (fun c k hh => Or.inr (Or.inl hh))))
      obtain ⟨k1, k2, k3⟩ := hfn
      exact ⟨F3.1, F3.2.1, F3.2.2.1, F3.2.2.2.1, F3.2.2.2.2, ⟨DSK_M (by omega) (by omega) k1, k2, k3⟩, dkc3, dk3, v5, v12⟩
end MLN2
