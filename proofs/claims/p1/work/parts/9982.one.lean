/-! ===== the start ===== -/
theorem my_fo_at {F : List (Nat × List Value)} {f : Nat → va_E} (h : my_fo F f = true) {j a : Nat} {vs : List Value} (hj : F[j]? = some (a, vs)) : ∃ ci, f a = .inr (ci, vs) := by
  have h1 := List.all_eq_true.mp h _ (List.mem_of_getElem? hj)
  simp only at h1
  split at h1
  · rename_i ci fs hf
    exact ⟨ci, by rw [hf, my_vql_ok h1]⟩
  · cases h1
theorem my_rd_I {f : Nat → va_E} {a ci k : Nat} {vs : List Value} {x : Int32} (hf : f a = .inr (ci, vs)) (hk : vs[k]? = some (.int x)) : (my_rd f).1 a k = x := by
  simp [my_rd, hf, hk]
theorem my_rd_A {f : Nat → va_E} {a ci k b : Nat} {vs : List Value} (hf : f a = .inr (ci, vs)) (hk : vs[k]? = some (.ref b)) : (my_rd f).2.2 a k = some b := by
  simp [my_rd, hf, hk]
theorem my_da_at {f g : Nat → va_E} {a z : Nat} {w : Nat → Int32} (h : my_da f a z w = true) (hg : f a = g a) (k : Nat) (hk : k < z) : (my_rd g).1 a k = w k := by
  unfold my_da at h
  split at h
  · rename_i t z' g0 hf
    have := of_decide_eq_true (List.all_eq_true.mp h k (List.mem_range.mpr hk))
    rw [hg] at hf
    simp [my_rd, hf, this]
  · cases h
theorem my_lp_0 {L : Nat} {xs : Nat → Int32} {g : Nat → va_E} (hg : ∀ k, k < 32 → g k = mc_fx L xs k) : my_lp g my_fP g := by
  intro k
  by_cases h0 : k = 0
  · subst h0
    exact Or.inr ⟨rfl, rfl⟩
  · by_cases h1 : k < 32
    · refine Or.inl ?_
      have e1 : my_fP k = mc_fx 0 (fun _ => 0) k := by
        unfold my_fP
        rw [if_neg h0, if_pos h1]
      have e2 : mc_fx 0 (fun _ => 0) k = mc_fx L xs k := by
        unfold mc_fx
        split <;> first | rfl | exact absurd rfl h0
      refine ⟨by rw [e1, e2, hg k h1], ?_⟩
      rw [e1]
      unfold mc_fx
      split <;> first | rfl | exact absurd rfl h0
    · refine Or.inr ⟨?_, rfl⟩
      unfold my_fP
      rw [if_neg h0, if_neg h1]
theorem my_tg_cf {a : Nat} {l : Nat ⊕ (Nat × Nat)} (h : my_cf a l my_pz = true) : False := by
  rcases l with ci | ⟨t, z⟩
  · simp [my_cf, my_pz] at h
  · simp only [my_cf, my_pz, Bool.and_eq_true] at h
    have e1 := Nat.eq_of_beq_eq_true h.1.1
    subst e1
    have h2 : false = true := h.2
    cases h2
/-- what is so at first -/
def my_fr (σ : my_S) : Prop := (σ.1 32 10 = 0 ∧ σ.1 32 11 = 0 ∧ σ.1 33 1 = 0 ∧ σ.2.2 32 9 = some 368) ∧ (σ.1 498 65 = 0 ∧ σ.1 498 133 = 0 ∧ σ.1 498 124 = 0 ∧ σ.1 498 139 = 0 ∧ σ.1 498 2 = 0 ∧ σ.1 583 0 = 0) ∧ ∀ j : Nat, j < 16384 → σ.1 90 j = my_dz j ∧ σ.1 546 j = my_dz j
theorem my_zip : ∀ lv : List (Nat × Value), lv = (lv.map (·.1)).zip (lv.map (·.2))
  | [] => rfl
  | q :: r => by
    simp only [List.map_cons, List.zip_cons_cons]
    rw [← my_zip r]
theorem my_if {c : Prop} [Decidable c] {A B : Prop} (h1 : c → A) (h2 : ¬ c → B) : if c then A else B := by
  by_cases hc : c
  · rw [if_pos hc]; exact h1 hc
  · rw [if_neg hc]; exact h2 hc
set_option maxRecDepth 100000 in
theorem my_start (fv : Value) (hA : my_chkA fv = true) (hB : my_chkB fv = true) (L : Nat) (xs : Nat → Int32) : ∃ (f : Nat → va_E) (σ : my_S), my_rep (fv, L, xs) 586 f σ ∧ my_fr σ ∧ ∀ r, mc_R fv 1049 mp_law 600002 7302232 23 [(4, .int 0), (3, .ref 585), (2, .ref 498), (1, .ref 32), (0, .ref 0)] [] 586 f 554 275688 r → mc_R fv 1049 mp_law 600002 7302232 0 (lv_args 0 [.ref 0]) [] 32 (mc_fx L xs) 0 0 r := by
  unfold my_chkA at hA
  generalize hgo : my_fgo fv 100000 1049 mp_law 600002 7302232 4 (0, lv_args 0 [.ref 0], [], 32, my_fP, 0, 0) = R at hA
  rcases R with _ | ⟨pc, lv, st, n, f, cs, ss⟩
  · cases hA
  · simp only [Bool.and_eq_true] at hA
    obtain ⟨⟨⟨⟨⟨⟨⟨⟨⟨k1, k2⟩, k3⟩, k4⟩, k5⟩, k6⟩, k7⟩, k8⟩, k9⟩, k10⟩ := hA
    have e1 := Nat.eq_of_beq_eq_true k1
    have e2 := List.isEmpty_iff.mp k2
    have e3 := Nat.eq_of_beq_eq_true k3
    have e4 := Nat.eq_of_beq_eq_true k4
    have e5 := Nat.eq_of_beq_eq_true k5
    subst e1; subst e2; subst e3; subst e4; subst e5
    have e6 := my_vql_ok k6
    have e7 := of_decide_eq_true k7
    have e8 : lv = [(1, .ref 32), (0, .ref 0)] := by rw [my_zip lv, e7, e6]; rfl
    subst e8
    obtain ⟨c2, g1, g2⟩ := my_fgo_z (bb := mc_fx L xs) _ _ _ _ _ _ _ _ _ _ (my_lp_0 (L := L) (xs := xs) (fun _ _ => rfl)) hgo
    obtain ⟨pc2, lv2, st2, n2, gA, cs2, ss2⟩ := c2
    obtain ⟨rfl, rfl, rfl, rfl, rfl, rfl, g3⟩ := g2
    have g4 := my_go_p _ _ _ _ _ _ _ _ _ _ _ _ _ _ _ (Nat.le_refl 32) (my_fgo_ok _ _ _ g1)
    have hxA : ∀ k, k < 32 → gA k = mc_fx L xs k := g4
    unfold my_chkB at hB
    generalize hgoB : my_fgo fv 100000 1049 mp_law 600002 7302232 9 (8, [(1, .ref 32), (0, .ref 0)], [], 498, my_fP, 466, 76095) = RB at hB
    rcases RB with _ | ⟨pcB, lvB, stB, nB, fB, csB, ssB⟩
    · cases hB
    · simp only [Bool.and_eq_true] at hB
      obtain ⟨⟨⟨⟨⟨⟨⟨⟨⟨⟨⟨m1, m2⟩, m3⟩, m4⟩, m5⟩, m6⟩, m7⟩, m8⟩, m9⟩, m10⟩, m11⟩, m12⟩ := hB
      have e1 := Nat.eq_of_beq_eq_true m1
      have e2 := List.isEmpty_iff.mp m2
      have e3 := Nat.eq_of_beq_eq_true m3
      have e4 := Nat.eq_of_beq_eq_true m4
      have e5 := Nat.eq_of_beq_eq_true m5
      subst e1; subst e2; subst e3; subst e4; subst e5
      have e6 := my_vql_ok m6
      have e7 := of_decide_eq_true m7
      have e8 : lvB = [(4, .int 0), (3, .ref 585), (2, .ref 498), (1, .ref 32), (0, .ref 0)] := by rw [my_zip lvB, e7, e6]; rfl
      subst e8
      obtain ⟨c3, p1, p2⟩ := my_fgo_z (bb := gA) _ _ _ _ _ _ _ _ _ _ (my_lp_0 (L := L) (xs := xs) hxA) hgoB
      obtain ⟨pc3, lv3, st3, n3, gB, cs3, ss3⟩ := c3
      obtain ⟨rfl, rfl, rfl, rfl, rfl, rfl, p3⟩ := p2
      have p4 := my_go_p _ _ _ _ _ _ _ _ _ _ _ _ _ _ _ (by omega) (my_fgo_ok _ _ _ p1)
      have hxB : ∀ k, k < 32 → gB k = mc_fx L xs k := fun k hk => (p4 k hk).trans (hxA k hk)
      have hlo : ∀ a, 32 ≤ a → a < 498 → gB a = gA a := by
        intro a h1 h2
        have t := List.all_eq_true.mp m12 (a - 32) (List.mem_range.mpr (by omega))
        rw [show a - 32 + 32 = a by omega] at t
        rcases p3 a with ⟨_, hh⟩ | ⟨_, hh⟩
        · rw [hh] at t; cases t
        · exact hh
      have hAf : ∀ a l, my_cf a l (f a) = true → f a = gA a := by
        intro a l h
        rcases g3 a with ⟨hh, _⟩ | ⟨hh, _⟩
        · exact hh
        · rw [hh] at h; exact (my_tg_cf h).elim
      have hBf : ∀ a l, my_cf a l (fB a) = true → fB a = gB a := by
        intro a l h
        rcases p3 a with ⟨hh, _⟩ | ⟨hh, _⟩
        · exact hh
        · rw [hh] at h; exact (my_tg_cf h).elim
      have hlen : my_tb.length = 554 := by decide +kernel
      have hcell : ∀ a l, my_lay a = some l → (32 ≤ a ∧ a < 586) ∧ my_cf a l (gB a) = true := by
        intro a l hl
        have h1 := my_lay_ge hl
        unfold my_lay at hl
        rw [if_neg (by omega)] at hl
        have h2 := (List.getElem?_eq_some_iff.mp hl).1
        refine ⟨⟨h1, by omega⟩, ?_⟩
        by_cases h3 : a < 498
        · have h4 := my_cfa_ok (my_tb.take 466) 32 (a - 32) l k8 (by rw [List.getElem?_take_of_lt (by omega)]; exact hl)
          rw [show 32 + (a - 32) = a by omega] at h4
          rw [hlo a h1 h3, ← hAf a l h4]
          exact h4
        · have h4 := my_cfa_ok (my_tb.drop 466) 498 (a - 498) l m8 (by rw [List.getElem?_drop, show 466 + (a - 498) = a - 32 by omega]; exact hl)
          rw [show 498 + (a - 498) = a by omega] at h4
          rw [← hBf a l h4]
          exact h4
      have hobA : ∀ {a ci : Nat} {vs : List Value}, 32 ≤ a → a < 498 → f a = .inr (ci, vs) → gB a = .inr (ci, vs) := by
        intro a ci vs h1 h2 h3
        rw [hlo a h1 h2]
        rcases g3 a with ⟨hh, _⟩ | ⟨hh, _⟩
        · rw [← hh]; exact h3
        · rw [hh] at h3; cases h3
      have hobB : ∀ {a ci : Nat} {vs : List Value}, fB a = .inr (ci, vs) → gB a = .inr (ci, vs) := by
        intro a ci vs h3
        rcases p3 a with ⟨hh, _⟩ | ⟨hh, _⟩
        · rw [← hh]; exact h3
        · rw [hh] at h3; cases h3
      refine ⟨gB, my_rd gB, ⟨⟨by omega, fun a l hl => (hcell a l hl).1.2⟩, fun a l hl => my_cf_ok (hcell a l hl).2, hxB⟩, ?_, fun r hr => my_go_R _ _ _ _ _ _ _ _ _ _ _ _ _ _ _ (my_fgo_ok _ _ _ g1) (my_go_R _ _ _ _ _ _ _ _ _ _ _ _ _ _ _ (my_fgo_ok _ _ _ p1) hr)⟩
      obtain ⟨c0, o0⟩ := my_fo_at k9 (j := 0) rfl
      obtain ⟨c1, o1⟩ := my_fo_at k9 (j := 1) rfl
      obtain ⟨c14, o14⟩ := my_fo_at m9 (j := 0) rfl
      have o0 := hobA (by omega) (by omega) o0
      have o1 := hobA (by omega) (by omega) o1
      have o14 := hobB o14
      have l90 : my_lay 90 = some (.inr (1, 16384)) := by decide +kernel
      have l546 : my_lay 546 = some (.inr (0, 16384)) := by decide +kernel
      have l583 : my_lay 583 = some (.inr (0, 24)) := by decide +kernel
      have d90 : f 90 = gB 90 := by
        have h4 := my_cfa_ok (my_tb.take 466) 32 58 (.inr (1, 16384)) k8 (by decide +kernel)
        rw [hlo 90 (by omega) (by omega), ← hAf 90 _ h4]
      have d546 : fB 546 = gB 546 := hBf 546 _ (my_cfa_ok (my_tb.drop 466) 498 48 (.inr (0, 16384)) m8 (by decide +kernel))
      have d583 : fB 583 = gB 583 := hBf 583 _ (my_cfa_ok (my_tb.drop 466) 498 85 (.inr (0, 24)) m8 (by decide +kernel))
      exact ⟨⟨my_rd_I o0 rfl, my_rd_I o0 rfl, my_rd_I o1 rfl, my_rd_A o0 rfl⟩, ⟨my_rd_I o14 rfl, my_rd_I o14 rfl, my_rd_I o14 rfl, my_rd_I o14 rfl, my_rd_I o14 rfl, my_da_at m11 d583 0 (by omega)⟩, fun j hj => ⟨my_da_at k10 d90 j hj, my_da_at m10 d546 j hj⟩⟩
/-! ===== one call on a fresh object ===== -/
def my_Q1 : my_O → my_K → my_S → Prop := fun o _ _ => o = .inl (some (.inl 1))
theorem one_end {fv : Value} {L : Nat} {xs : Nat → Int32} (v : Int32) (hL : Int32.ofNat L - 4 < v) (κ : my_K) (σ : my_S) : ys_law_23 (fv, L, xs) 1049 v κ σ my_Q1 := by
  unfold ys_law_23
  rw [if_pos hL]
  rfl
theorem one_call {fv : Value} {xs : Nat → Int32} {κ : my_K} {σ : my_S} (hf : my_fr σ) (hc : 1 ≤ κ.2.1) (hs : 6 ≤ κ.2.2) : ys_law_23 (fv, 4, xs) 1049 0 κ σ my_Q1 := by
  obtain ⟨⟨a1, a2, a3, a4⟩, ⟨r1, r2, r3, r4, r5, r6⟩, hd⟩ := hf
  have hn : ∀ κ σ, ys_law_1663 (fv, 4, xs) 1049 0 κ σ my_Q1 := fun κ σ => by
    unfold ys_law_1663
    exact ys_law_23_ok (one_end _ (by decide) κ σ)
  have b0 : my_bd 0 4 := ⟨by decide, by decide⟩
  have b1 : my_bd (0 + 1) 4 := ⟨by decide, by decide⟩
  have b2 : my_bd (0 + 2) 4 := ⟨by decide, by decide⟩
  have b3 : my_bd (0 + 3) 4 := ⟨by decide, by decide⟩
  have hsz : σ.1 33 1 = σ.1 498 2 := a3.trans r5.symm
  have hdk : ∀ j : Nat, j < 16384 → (σ.1 90 j) &&& 255 = σ.1 546 j := fun j hj => by
    rw [(hd j hj).1, (hd j hj).2]
    unfold my_dz
    split
    · decide
    · split <;> decide
  unfold ys_law_23
  rw [if_neg (show ¬ (Int32.ofNat 4 - 4 < (0 : Int32)) by decide)]
  refine ⟨b0, ?_⟩
  refine my_if (fun _ => l_0 (m := 0) rfl (by rw [a3]; rfl) (by omega) hsz hc hs b1 (fun _ => hn _ _) (fun _ _ => hn _ _) (fun _ _ => hn _ _)) (fun _ => ?_)
  refine my_if (fun _ => l_1 rfl hsz hc hs b1 (fun _ => hn _ _) (fun _ _ => hn _ _)) (fun _ => ?_)
  refine my_if (fun _ => l_2_0 a3 r5 a4 hc hs (fun κ' σ' h => r_217_0 (d := 1044) h (fun κ2 σ2 => by rw [my_kI_v, if_pos rfl]; exact hn _ _))) (fun _ => ?_)
  refine my_if (fun _ => l_3 a1 r1 hc hs b1 (hn _ _)) (fun _ => ?_)
  refine my_if (fun _ => l_4 a1 r1 hc hs b1 b2 b3 (hn _ _)) (fun _ => ?_)
  refine my_if (fun _ => l_5 a1 r1 hc hs b1 b2 (hn _ _)) (fun _ => ?_)
  refine my_if (fun _ => l_6 a1 r1 hc hs b1 b2 (hn _ _)) (fun _ => ?_)
  refine my_if (fun _ => l_7 a1 r1 r3 hc hs b1 b2 (hn _ _)) (fun _ => ?_)
  refine my_if (fun _ => l_8 a1 r1 hc hs b1 b2 b3 (hn _ _)) (fun _ => ?_)
  refine my_if (fun _ => l_9 a1 r1 hc hs b1 (hn _ _)) (fun _ => ?_)
  refine my_if (fun _ => l_10 a1 r1 hc hs b1 b2 (hn _ _)) (fun _ => ?_)
  refine my_if (fun _ => l_11 a1 r1 hc hs b1 (hn _ _)) (fun _ => ?_)
  refine my_if (fun _ => l_12 a2 r2 hc hs b1 (hn _ _)) (fun _ => ?_)
  refine my_if (fun _ => l_13 a2 r2 hc hs b1 (hn _ _)) (fun _ => ?_)
  refine my_if (fun _ => l_14 a2 r2 hc hs b1 (hn _ _)) (fun _ => ?_)
  refine my_if (fun _ => l_15 a2 r2 r4 r6 hc hs b1 (hn _ _)) (fun _ => ?_)
  refine my_if (fun _ => l_16 a2 r2 hc hs b1 (hn _ _)) (fun _ => ?_)
  refine my_if (fun _ => l_17 a2 r2 hc hs b1 b2 (hn _ _)) (fun _ => ?_)
  refine my_if (fun _ => l_18 a2 r2 hc hs b1 b2 (hn _ _)) (fun _ => ?_)
  refine my_if (fun _ => l_19 rfl hdk hc hs b1 (fun _ => hn _ _) (fun _ _ => hn _ _)) (fun _ => ?_)
  refine my_if (fun _ => l_20 a1 r1 hc hs b1 b2 (hn _ _)) (fun _ => ?_)
  refine my_if (fun _ => l_21 a1 r1 hc hs b1 b2 (hn _ _)) (fun _ => ?_)
  refine my_if (fun _ => l_22 a1 r1 hc hs b1 (hn _ _)) (fun _ => ?_)
  refine my_if (fun _ => l_23 a1 r1 hc hs b1 b2 (hn _ _)) (fun _ => ?_)
  refine my_if (fun _ => l_24 a1 r1 hc hs b1 b2 b3 (hn _ _)) (fun _ => ?_)
  exact hn _ _
theorem one_true {L : Nat} {xs : Nat → Int32} (hL : L ≤ 4) : mc_true L xs := by
  refine mc_true_of (fun fv hfv => ?_)
  have hAB : my_chkA fv = true ∧ my_chkB fv = true := by
    rcases hfv with rfl | rfl
    · exact ⟨my_chkA_n, my_chkB_n⟩
    · exact ⟨my_chkA_r, my_chkB_r⟩
  obtain ⟨f, σ, h1, h2, h3⟩ := my_start fv hAB.1 hAB.2 L xs
  have hW : ys_law_23 (fv, L, xs) 1049 0 (586, 600002 - 554, 7302232 - 275688) σ my_Q1 := by
    by_cases h4 : L = 4
    · subst h4
      exact one_call h2 (by decide) (by decide)
    · refine one_end _ ?_ _ _
      have : L = 0 ∨ L = 1 ∨ L = 2 ∨ L = 3 := by omega
      rcases this with rfl | rfl | rfl | rfl <;> decide
  have hsub : my_sub [(0, .inr (.inr (some 0))), (1, .inr (.inr (some 32))), (2, .inr (.inr (some 498))), (3, .inr (.inr (some 585))), (4, .inl 0)] [(4, .int 0), (3, .ref 585), (2, .ref 498), (1, .ref 32), (0, .ref 0)] := by
    intro x hx
    simp only [List.mem_cons, List.not_mem_nil, or_false] at hx
    rcases hx with rfl | rfl | rfl | rfl | rfl <;> rfl
  obtain ⟨o, n', f', c', s', o', σ', q1, q2, q3, q4, q5⟩ := ys_law_23_ok hW [(4, .int 0), (3, .ref 585), (2, .ref 498), (1, .ref 32), (0, .ref 0)] f 600002 7302232 554 275688 hsub h1 ⟨by omega, by omega⟩ ⟨rfl, rfl⟩
  have q5 : o' = .inl (some (.inl 1)) := q5
  subst q5
  rcases o with v | x
  · have q4 : v = some (.int 1) := q4
    subst q4
    exact ⟨n', f', c', s', h3 _ q1, q2.2.1, q2.2.2⟩
  · cases q4
