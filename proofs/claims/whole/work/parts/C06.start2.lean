/-! ===== the start, with all that holds then ===== -/
def my_fr2 (σ : my_S) : Prop := ((σ.1 32 10 = 0 ∧ σ.1 32 11 = 0 ∧ σ.1 32 12 = 0) ∧ (σ.2.2 32 7 = some 108 ∧ σ.2.2 32 8 = some 238 ∧ σ.2.2 32 9 = some 368) ∧ σ.1 33 1 = 0 ∧ (σ.1 62 2 = 0 ∧ σ.1 62 3 = 0 ∧ σ.1 62 4 = 0) ∧ (σ.1 89 3 = 0 ∧ σ.1 89 4 = 0 ∧ σ.1 89 5 = 0) ∧ σ.1 94 1 = 0 ∧ σ.1 94 2 = 1 ∧ σ.1 94 6 = 0 ∧ σ.1 94 9 = 0) ∧ ((σ.1 498 65 = 0 ∧ σ.1 498 133 = 0 ∧ σ.1 498 124 = 0 ∧ σ.1 498 139 = 0 ∧ σ.1 498 2 = 0 ∧ σ.1 498 57 = 0 ∧ σ.1 498 79 = 0 ∧ σ.1 498 80 = 0) ∧ (σ.1 498 83 = 0 ∧ σ.1 498 84 = 1 ∧ σ.1 498 86 = 0 ∧ σ.1 498 87 = 0) ∧ σ.1 498 107 = -1 ∧ σ.1 498 118 = 0 ∧ σ.1 498 119 = 0) ∧ σ.1 583 0 = 0 ∧ (∀ j : Nat, j < 16384 → σ.1 90 j = my_dz j ∧ σ.1 546 j = my_dz j) ∧ (∀ i, i < 12 → σ.2.2 63 i = wP i) ∧ (∀ i, i < 2 → σ.2.2 91 i = wL i) ∧ ((∀ k, k < 42 → σ.2.2 110 k = wV 108 k) ∧ (∀ k, k < 42 → σ.2.2 240 k = wV 238 k) ∧ ∀ k, k < 42 → σ.2.2 370 k = wV 368 k) ∧ (∀ j, j < 17 → σ.2.1 38 j = wK j) ∧ (∀ j, j < 17 → σ.2.1 500 j = wR j) ∧ (∀ j, j < 32 → σ.2.1 575 j = wC j) ∧ ∀ j, j < 48 → σ.1 540 j = 0
set_option maxRecDepth 100000 in
theorem my_start2 (fv : Value) (hA : my_chkA fv = true) (hB : my_chkB fv = true) (hC : my_chkC fv = true) (hD : my_chkD fv = true) (L : Nat) (xs : Nat → Int32) : ∃ (f : Nat → va_E) (σ : my_S), my_rep (fv, L, xs) 586 f σ ∧ my_fr2 σ ∧ ∀ r, mc_R fv 1049 mp_law 601024 7293034 23 [(4, .int 0), (3, .ref 585), (2, .ref 498), (1, .ref 32), (0, .ref 0)] [] 586 f 554 275688 r → mc_R fv 1049 mp_law 601024 7293034 0 (lv_args 0 [.ref 0]) [] 32 (mc_fx L xs) 0 0 r := by
  unfold my_chkA at hA
  unfold my_chkC at hC
  generalize hgo : my_fgo fv 100000 1049 mp_law 601024 7293034 4 (0, lv_args 0 [.ref 0], [], 32, my_fP, 0, 0) = R at hA hC
  rcases R with _ | ⟨pc, lv, st, n, f, cs, ss⟩
  · cases hA
  · simp only [Bool.and_eq_true] at hA
    obtain ⟨⟨⟨⟨⟨⟨⟨⟨⟨k1, k2⟩, k3⟩, k4⟩, k5⟩, k6⟩, k7⟩, k8⟩, k9⟩, k10⟩ := hA
    have e1 := Nat.eq_of_beq_eq_true k1
    have e2 := List.isEmpty_iff.mp k2
    have e3 := Nat.eq_of_beq_eq_true k3
    have e4 := Nat.eq_of_beq_eq_true k4
    have e5 := Nat.eq_of_beq_eq_true k5
    subst e1; subst e2; subst e3; subst e4; subst e5
    have e6 := my_vql_ok k6
    have e7 := of_decide_eq_true k7
    have e8 : lv = [(1, .ref 32), (0, .ref 0)] := by rw [my_zip lv, e7, e6]; rfl
    subst e8
    obtain ⟨c2, g1, g2⟩ := my_fgo_z (bb := mc_fx L xs) _ _ _ _ _ _ _ _ _ _ (my_lp_0 (L := L) (xs := xs) (fun _ _ => rfl)) hgo
    obtain ⟨pc2, lv2, st2, n2, gA, cs2, ss2⟩ := c2
    obtain ⟨rfl, rfl, rfl, rfl, rfl, rfl, g3⟩ := g2
    have g4 := my_go_p _ _ _ _ _ _ _ _ _ _ _ _ _ _ _ (Nat.le_refl 32) (my_fgo_ok _ _ _ g1)
    have hxA : ∀ k, k < 32 → gA k = mc_fx L xs k := g4
    unfold my_chkB at hB
    unfold my_chkD at hD
    generalize hgoB : my_fgo fv 100000 1049 mp_law 601024 7293034 9 (8, [(1, .ref 32), (0, .ref 0)], [], 498, my_fP, 466, 76095) = RB at hB hD
    rcases RB with _ | ⟨pcB, lvB, stB, nB, fB, csB, ssB⟩
    · cases hB
    · simp only [Bool.and_eq_true] at hB
      obtain ⟨⟨⟨⟨⟨⟨⟨⟨⟨⟨⟨m1, m2⟩, m3⟩, m4⟩, m5⟩, m6⟩, m7⟩, m8⟩, m9⟩, m10⟩, m11⟩, m12⟩ := hB
      have e1 := Nat.eq_of_beq_eq_true m1
      have e2 := List.isEmpty_iff.mp m2
      have e3 := Nat.eq_of_beq_eq_true m3
      have e4 := Nat.eq_of_beq_eq_true m4
      have e5 := Nat.eq_of_beq_eq_true m5
      subst e1; subst e2; subst e3; subst e4; subst e5
      have e6 := my_vql_ok m6
      have e7 := of_decide_eq_true m7
      have e8 : lvB = [(4, .int 0), (3, .ref 585), (2, .ref 498), (1, .ref 32), (0, .ref 0)] := by rw [my_zip lvB, e7, e6]; rfl
      subst e8
      obtain ⟨c3, p1, p2⟩ := my_fgo_z (bb := gA) _ _ _ _ _ _ _ _ _ _ (my_lp_0 (L := L) (xs := xs) hxA) hgoB
      obtain ⟨pc3, lv3, st3, n3, gB, cs3, ss3⟩ := c3
      obtain ⟨rfl, rfl, rfl, rfl, rfl, rfl, p3⟩ := p2
      have p4 := my_go_p _ _ _ _ _ _ _ _ _ _ _ _ _ _ _ (by omega) (my_fgo_ok _ _ _ p1)
      have hxB : ∀ k, k < 32 → gB k = mc_fx L xs k := fun k hk => (p4 k hk).trans (hxA k hk)
      have hlo : ∀ a, 32 ≤ a → a < 498 → gB a = gA a := by
        intro a h1 h2
        have t := List.all_eq_true.mp m12 (a - 32) (List.mem_range.mpr (by omega))
        rw [show a - 32 + 32 = a by omega] at t
        rcases p3 a with ⟨_, hh⟩ | ⟨_, hh⟩
        · rw [hh] at t; cases t
        · exact hh
      have hAf : ∀ a l, my_cf a l (f a) = true → f a = gA a := by
        intro a l h
        rcases g3 a with ⟨hh, _⟩ | ⟨hh, _⟩
        · exact hh
        · rw [hh] at h; exact (my_tg_cf h).elim
      have hBf : ∀ a l, my_cf a l (fB a) = true → fB a = gB a := by
        intro a l h
        rcases p3 a with ⟨hh, _⟩ | ⟨hh, _⟩
        · exact hh
        · rw [hh] at h; exact (my_tg_cf h).elim
      have hlen : my_tb.length = 554 := by decide +kernel
      have hcell : ∀ a l, my_lay a = some l → (32 ≤ a ∧ a < 586) ∧ my_cf a l (gB a) = true := by
        intro a l hl
        have h1 := my_lay_ge hl
        unfold my_lay at hl
        rw [if_neg (by omega)] at hl
        have h2 := (List.getElem?_eq_some_iff.mp hl).1
        refine ⟨⟨h1, by omega⟩, ?_⟩
        by_cases h3 : a < 498
        · have h4 := my_cfa_ok (my_tb.take 466) 32 (a - 32) l k8 (by rw [List.getElem?_take_of_lt (by omega)]; exact hl)
          rw [show 32 + (a - 32) = a by omega] at h4
          rw [hlo a h1 h3, ← hAf a l h4]
          exact h4
        · have h4 := my_cfa_ok (my_tb.drop 466) 498 (a - 498) l m8 (by rw [List.getElem?_drop, show 466 + (a - 498) = a - 32 by omega]; exact hl)
          rw [show 498 + (a - 498) = a by omega] at h4
          rw [← hBf a l h4]
          exact h4
      have hobA : ∀ {a ci : Nat} {vs : List Value}, 32 ≤ a → a < 498 → f a = .inr (ci, vs) → gB a = .inr (ci, vs) := by
        intro a ci vs h1 h2 h3
        rw [hlo a h1 h2]
        rcases g3 a with ⟨hh, _⟩ | ⟨hh, _⟩
        · rw [← hh]; exact h3
        · rw [hh] at h3; cases h3
      have hobB : ∀ {a ci : Nat} {vs : List Value}, fB a = .inr (ci, vs) → gB a = .inr (ci, vs) := by
        intro a ci vs h3
        rcases p3 a with ⟨hh, _⟩ | ⟨hh, _⟩
        · rw [← hh]; exact h3
        · rw [hh] at h3; cases h3
      refine ⟨gB, my_rd gB, ⟨⟨by omega, fun a l hl => (hcell a l hl).1.2⟩, fun a l hl => my_cf_ok (hcell a l hl).2, hxB⟩, ?_, fun r hr => my_go_R _ _ _ _ _ _ _ _ _ _ _ _ _ _ _ (my_fgo_ok _ _ _ g1) (my_go_R _ _ _ _ _ _ _ _ _ _ _ _ _ _ _ (my_fgo_ok _ _ _ p1) hr)⟩
      obtain ⟨⟨⟨⟨⟨n1, n2⟩, n3⟩, n4⟩, n5⟩, n6⟩ : ((((my_dA f 63 12 wP = true ∧ my_dA f 91 2 wL = true) ∧ my_dA f 110 42 (wV 108) = true) ∧ my_dA f 240 42 (wV 238) = true) ∧ my_dA f 370 42 (wV 368) = true) ∧ my_dL f 38 17 wK = true := by
        have hC' : my_qA f = true := hC
        unfold my_qA at hC'
        simpa only [Bool.and_eq_true] using hC'
      obtain ⟨⟨s1, s2⟩, s3⟩ : (my_dL fB 500 17 wR = true ∧ my_dL fB 575 32 wC = true) ∧ my_dI fB 540 48 (fun _ => 0) = true := by
        have hD' : my_qB fB = true := hD
        unfold my_qB at hD'
        simpa only [Bool.and_eq_true] using hD'
      obtain ⟨c0, o0⟩ := my_fo_at k9 (j := 0) rfl
      obtain ⟨c1, o1⟩ := my_fo_at k9 (j := 1) rfl
      obtain ⟨c6, o6⟩ := my_fo_at k9 (j := 6) rfl
      obtain ⟨c7, o7⟩ := my_fo_at k9 (j := 7) rfl
      obtain ⟨c9, o9⟩ := my_fo_at k9 (j := 9) rfl
      obtain ⟨c14, o14⟩ := my_fo_at m9 (j := 0) rfl
      have o0 := hobA (by omega) (by omega) o0
      have o1 := hobA (by omega) (by omega) o1
      have o6 := hobA (by omega) (by omega) o6
      have o7 := hobA (by omega) (by omega) o7
      have o9 := hobA (by omega) (by omega) o9
      have o14 := hobB o14
      have d90 : f 90 = gB 90 := by
        have h4 := my_cfa_ok (my_tb.take 466) 32 58 (.inr (1, 16384)) k8 (by decide +kernel)
        rw [hlo 90 (by omega) (by omega), ← hAf 90 _ h4]
      have d546 : fB 546 = gB 546 := hBf 546 _ (my_cfa_ok (my_tb.drop 466) 498 48 (.inr (0, 16384)) m8 (by decide +kernel))
      have d583 : fB 583 = gB 583 := hBf 583 _ (my_cfa_ok (my_tb.drop 466) 498 85 (.inr (0, 24)) m8 (by decide +kernel))
      have dA : ∀ a, 32 ≤ a → a < 498 → (my_tb.take 466)[a - 32]?.isSome = true → f a = gB a := fun a h1 h2 h3 => by
        obtain ⟨l, hl⟩ := Option.isSome_iff_exists.mp h3
        have h4 := my_cfa_ok (my_tb.take 466) 32 (a - 32) l k8 hl
        rw [show 32 + (a - 32) = a by omega] at h4
        rw [hlo a h1 h2, ← hAf a l h4]
      have dB : ∀ a, 498 ≤ a → (my_tb.drop 466)[a - 498]?.isSome = true → fB a = gB a := fun a h1 h3 => by
        obtain ⟨l, hl⟩ := Option.isSome_iff_exists.mp h3
        have h4 := my_cfa_ok (my_tb.drop 466) 498 (a - 498) l m8 hl
        rw [show 498 + (a - 498) = a by omega] at h4
        exact hBf a l h4
      refine ⟨⟨⟨my_rd_I o0 rfl, my_rd_I o0 rfl, my_rd_I o0 rfl⟩, ⟨my_rd_A o0 rfl, my_rd_A o0 rfl, my_rd_A o0 rfl⟩, my_rd_I o1 rfl, ⟨my_rd_I o6 rfl, my_rd_I o6 rfl, my_rd_I o6 rfl⟩, ⟨my_rd_I o7 rfl, my_rd_I o7 rfl, my_rd_I o7 rfl⟩, my_rd_I o9 rfl, my_rd_I o9 rfl, my_rd_I o9 rfl, my_rd_I o9 rfl⟩, ⟨⟨my_rd_I o14 rfl, my_rd_I o14 rfl, my_rd_I o14 rfl, my_rd_I o14 rfl, my_rd_I o14 rfl, my_rd_I o14 rfl, my_rd_I o14 rfl, my_rd_I o14 rfl⟩, ⟨my_rd_I o14 rfl, my_rd_I o14 rfl, my_rd_I o14 rfl, my_rd_I o14 rfl⟩, my_rd_I o14 rfl, my_rd_I o14 rfl, my_rd_I o14 rfl⟩, my_da_at m11 d583 0 (by omega), fun j hj => ⟨my_da_at k10 d90 j hj, my_da_at m10 d546 j hj⟩, fun i hi => my_dA_at n1 (dA 63 (by omega) (by omega) (by decide +kernel)) i hi, fun i hi => my_dA_at n2 (dA 91 (by omega) (by omega) (by decide +kernel)) i hi, ⟨fun k hk => my_dA_at n3 (dA 110 (by omega) (by omega) (by decide +kernel)) k hk, fun k hk => my_dA_at n4 (dA 240 (by omega) (by omega) (by decide +kernel)) k hk, fun k hk => my_dA_at n5 (dA 370 (by omega) (by omega) (by decide +kernel)) k hk⟩, fun j hj => my_dL_at n6 (dA 38 (by omega) (by omega) (by decide +kernel)) j hj, fun j hj => my_dL_at s1 (dB 500 (by omega) (by decide +kernel)) j hj, fun j hj => my_dL_at s2 (dB 575 (by omega) (by decide +kernel)) j hj, fun j hj => my_dI_at s3 (dB 540 (by omega) (by decide +kernel)) j hj⟩
