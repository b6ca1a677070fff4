
/-! ===== each call keeps it ===== -/
section MST
variable {cnt M : Nat} {e : my_E} {κ : my_K} {σ : my_S} {Q : my_O → my_K → my_S → Prop} {v4 : Int32}
theorem INV_step (he : fmO e) (h : INV cnt M σ) (hc : cnt < 1000000000) (hM : M + 14 < 65535) (hκ : 1 ≤ κ.2.1 ∧ 6 ≤ κ.2.2) (b0 : my_bd v4 e.2.1) (b1 : my_bd (v4 + 1) e.2.1) (b2 : my_bd (v4 + 2) e.2.1) (b3 : my_bd (v4 + 3) e.2.1) (hend : ¬ Int32.ofNat e.2.1 - 4 < v4)
    (hn : ∀ κ' σ' cnt', (κ' = κ ∨ κ' = (κ.1 + 1, κ.2.1 - 1, κ.2.2 - 6)) → cnt' ≤ cnt + 1 → INV cnt' (M + 13) σ' → ys_law_1663 e 1049 v4 κ' σ' Q) : ys_law_23 e 1049 v4 κ σ Q := by
  obtain ⟨cu, ol, sp, As, I, Bs, I', hB, hr, ht, hk, hd, hs, hw⟩ := h
  have hsp := hr.2.1.2.2.1
  have hd13 : INVd (M + 13) σ := INVd_M (by omega) (by omega) hd
  -- the texts, the revisions and the machine are told; the rest is as it was
  have fr : ∀ (F : Nat → Nat → Prop), (∀ c k, F c k → ¬ idF c k ∧ ¬ icF c k ∧ c ≠ 575) → ∀ κ' σ', (κ' = κ ∨ κ' = (κ.1 + 1, κ.2.1 - 1, κ.2.2 - 6)) → INVr cnt cu ol sp As I Bs I' σ' → INVt σ' → INVk cnt cu As I σ' → eqp F σ σ' → ys_law_1663 e 1049 v4 κ' σ' Q := fun F hF κ' σ' hk' q1 q2 q3 f => hn κ' σ' cnt hk' (by omega) ⟨cu, ol, sp, As, I, Bs, I', hB, q1, q2, q3, INVd_o hd13 f (fun c k hh => (hF c k hh).1), INVc_o hB hs f (fun c k hh => (hF c k hh).2.1), cwR_o hw f (fun k hh => (hF _ k hh).2.2 rfl)⟩
  have fr2 : ∀ (F : Nat → Nat → Prop), (∀ c k, F c k → ¬ idF c k ∧ ¬ icF c k ∧ c ≠ 575 ∧ ¬ ikF c k) → ∀ κ' σ', (κ' = κ ∨ κ' = (κ.1 + 1, κ.2.1 - 1, κ.2.2 - 6)) → INVr cnt cu ol sp As I Bs I' σ' → INVt σ' → eqp F σ σ' → ys_law_1663 e 1049 v4 κ' σ' Q := fun F hF κ' σ' hk' q1 q2 f => fr F (fun c k hh => ⟨(hF c k hh).1, (hF c k hh).2.1, (hF c k hh).2.2.1⟩) κ' σ' hk' q1 q2 (INVk_o hk f (fun c k hh => (hF c k hh).2.2.2)) f
  have fr3 : ∀ (F : Nat → Nat → Prop), (∀ c k, F c k → (¬ idF c k ∧ ¬ icF c k ∧ c ≠ 575 ∧ ¬ ikF c k) ∧ ivF c k ∧ (c = 33 → k ≠ 1) ∧ c ≠ 34 ∧ c ≠ 38 ∧ (c = 498 → k ≠ 2) ∧ c ≠ 499 ∧ c ≠ 500) → ∀ κ' σ', (κ' = κ ∨ κ' = (κ.1 + 1, κ.2.1 - 1, κ.2.2 - 6)) → eqp F σ σ' → ys_law_1663 e 1049 v4 κ' σ' Q := fun F hF κ' σ' hk' f => fr2 F (fun c k hh => (hF c k hh).1) κ' σ' hk' (INVr_o hr f (fun c k hh => (hF c k hh).2.1)) (INVt_o ht f (fun c k hh => (hF c k hh).2.2)) f
  have g1 : ∀ c k, tpF c k → ¬ idF c k ∧ ¬ icF c k ∧ c ≠ 575 ∧ ¬ ikF c k := fun c k hh => by unfold tpF at hh; unfold idF icF ikF; omega
  have g2 : ∀ c k, rtF c k → ¬ idF c k ∧ ¬ icF c k ∧ c ≠ 575 ∧ ¬ ikF c k := fun c k hh => by unfold rtF at hh; unfold idF icF ikF; omega
  have g2' : ∀ c k, rtF c k → ¬ idF c k ∧ ¬ icF c k ∧ c ≠ 575 := fun c k hh => by unfold rtF at hh; unfold idF icF; omega
  have g3 : ∀ c k, trF c k → ¬ idF c k ∧ ¬ icF c k ∧ c ≠ 575 := fun c k hh => by unfold trF rtF rmF raF at hh; unfold idF icF; omega
  have g4 : ∀ c k, rtF c k → (¬ idF c k ∧ ¬ icF c k ∧ c ≠ 575 ∧ ¬ ikF c k) ∧ ivF c k ∧ (c = 33 → k ≠ 1) ∧ c ≠ 34 ∧ c ≠ 38 ∧ (c = 498 → k ≠ 2) ∧ c ≠ 499 ∧ c ≠ 500 := fun c k hh => ⟨g2 c k hh, by unfold rtF at hh; unfold ivF coF olF; omega⟩
  have g5 : ∀ c k, skF c k → (¬ idF c k ∧ ¬ icF c k ∧ c ≠ 575 ∧ ¬ ikF c k) ∧ ivF c k ∧ (c = 33 → k ≠ 1) ∧ c ≠ 34 ∧ c ≠ 38 ∧ (c = 498 → k ≠ 2) ∧ c ≠ 499 ∧ c ≠ 500 := fun c k hh => by unfold skF plF at hh; unfold idF icF ikF ivF coF olF; omega
  have g6 : ∀ c k, abF c k → (¬ idF c k ∧ ¬ icF c k ∧ c ≠ 575 ∧ ¬ ikF c k) ∧ ivF c k ∧ (c = 33 → k ≠ 1) ∧ c ≠ 34 ∧ c ≠ 38 ∧ (c = 498 → k ≠ 2) ∧ c ≠ 499 ∧ c ≠ 500 := fun c k hh => by unfold abF plF at hh; unfold idF icF ikF ivF coF olF; omega
  have x1 : ys_law_1663 e 1049 v4 (κ.1 + 1, κ.2.1 - 1, κ.2.2 - 6) (my_uI σ 498 0 1) Q := fr3 rtF g4 _ _ (Or.inr rfl) (eqp_I eqp_rf (Or.inl ⟨rfl, rfl⟩))
  -- without a revision: f1, f2
  have z0 : cnt = 0 → σ.1 32 10 = 0 ∧ σ.1 498 65 = 0 := fun hh => ⟨by rw [hr.1.1, hh]; rfl, by rw [hr.1.2.1, hh]; rfl⟩
  obtain ⟨A, E, hS⟩ := INVd_S hd
  have hU : 1 ≤ cnt → nmU As := fun hh => LOf_U (hr.2.2.2.2.2.1 hh).1
  have two : ∀ {P : Prop}, (cnt = 0 → P) → (1 ≤ cnt → P) → P := fun p q => by
    by_cases hc0 : cnt = 0
    · exact p hc0
    · exact q (by omega)
  unfold ys_law_23
  rw [if_neg hend]
  refine ⟨b0, ?_⟩
  refine my_if (fun _ => l_0i hr ht hκ b1 (fr2 tpF g1)) (fun _ => ?_)
  refine my_if (fun _ => l_1i hr ht hκ b1 (fr2 tpF g1)) (fun _ => ?_)
  refine my_if (fun _ => l_2i hr ht hc hκ (fr2 _ (fun c k hh => by unfold clF ldF at hh; unfold idF icF ikF; omega)) (fun As' J σ' q1 q2 y1 y2 y3 y4 y5 f => ?_)) (fun _ => ?_)
  · have hF : ∀ c k, (clG sp c k ∨ lgF c k) → ¬ idF c k ∧ c ≠ 575 ∧ ¬ ((c = 498 ∧ (k = 79 ∨ k = 80 ∨ (136 ≤ k ∧ k ≤ 141))) ∨ c = 540 ∨ (577 ≤ c ∧ c ≤ 584)) ∧ ¬ (c = 63 ∨ (c = 62 ∧ k = 3)) := fun c k hh => by unfold clG clF lgF ldF coF olF at hh; unfold idF; omega
    have hF' := fun c k hh => (hF c k hh).2.2
    have g : ∀ {c k : Nat}, (((c = 498 ∧ (k = 79 ∨ k = 80 ∨ (136 ≤ k ∧ k ≤ 141))) ∨ c = 540 ∨ (577 ≤ c ∧ c ≤ 584)) ∨ (c = 63 ∨ (c = 62 ∧ k = 3))) → σ'.1 c k = σ.1 c k := fun {c k} hh => eqp_g f (fun h2 => by have := hF' c k h2; omega)
    obtain ⟨q1', q2'⟩ := hk
    obtain ⟨hbb, ⟨D, w, w1, w2, w3, w4⟩, _⟩ := q2'
    obtain ⟨q, k1, k2⟩ := q1'
    obtain ⟨P, p1, p2, p3⟩ := hs
    have hW : ∃ W0, W0 ≤ 64 ∧ σ.1 62 3 = Int32.ofNat W0 := by
      rcases p3 with ⟨_, _, _, hh⟩ | ⟨W, Z, pl, st, _, m2, m3, _⟩
      · exact hh
      · exact ⟨W, m2, m3.2.2.2.2.1⟩
    obtain ⟨W0, m1, m2⟩ := hW
    have hB' : itsB As' := by
      obtain ⟨_, _, _, _, hh, _⟩ := (q1.2.2.2.2.2.1 (by omega)).1
      exact hh
    refine hn κ σ' (cnt + 1) (Or.inl rfl) (by omega) ⟨sp, cu, ol, As', J, _, _, hB', q1, q2, ⟨⟨q, (g (by omega)).trans k1, (g (by omega)).trans k2⟩, fun v hv => ?_, ⟨D, w, w1, w2, (g (by omega)).trans w3, (g (by omega)).trans w4⟩, Or.inl ⟨y1, y5⟩⟩, INVd_o hd13 f (fun c k hh => (hF c k hh).1), ⟨P, p1, fun i hi => ((f 63 i (fun hh => by have := hF' 63 i hh; omega)).2.2).trans (p2 i hi), Or.inl ⟨y3, y2, y4, W0, m1, (g (by omega)).trans m2⟩⟩, cwR_o hw f (fun k hh => (hF _ k hh).2.1 rfl)⟩
    rw [g (by omega)]
    exact hbb v hv
  refine my_if (fun _ => l_3i hr hd hs hκ b1 (fr3 abF g6)) (fun _ => ?_)
  refine my_if (fun _ => l_4i hr ht hκ b1 b2 b3 (fr2 rtF g2)) (fun _ => ?_)
  refine my_if (fun _ => l_5i hr ht hκ b1 b2 (fr2 rtF g2)) (fun _ => ?_)
  refine my_if (fun _ => l_6i hr ht hκ b1 b2 (fr2 rtF g2)) (fun _ => ?_)
  refine my_if (fun _ => l_7i hr ht hκ b1 b2 (fr2 rtF g2)) (fun _ => ?_)
  refine my_if (fun _ => l_8i he hr ht hw hκ b1 b2 b3 (fun κ' σ' hk' q1 q2 _ f => fr2 l8F (fun c k hh => by unfold l8F rtF liF lsF at hh; unfold idF icF ikF; omega) κ' σ' hk' q1 q2 f)) (fun _ => ?_)
  refine my_if (fun _ => two (fun h0 => l_9 (z0 h0).1 (z0 h0).2 hκ.1 hκ.2 b1 x1) (fun h1 => l_9z (INVr_LD hr h1) hS hκ b1 (fr3 skF g5))) (fun _ => ?_)
  refine my_if (fun _ => two (fun h0 => l_10 (z0 h0).1 (z0 h0).2 hκ.1 hκ.2 b1 b2 x1) (fun h1 => l_10z (INVr_LD hr h1) hS hκ b1 b2 (fr3 skF g5))) (fun _ => ?_)
  refine my_if (fun _ => l_11i hr ht hk hκ b1 (fr trF g3)) (fun _ => ?_)
  refine my_if (fun _ => l_12i hr ht hk hκ b1 (fr trF g3)) (fun _ => ?_)
  refine my_if (fun _ => l_13i hr ht hk hκ b1 (fr rtF g2')) (fun _ => ?_)
  refine my_if (fun _ => l_14i hr ht hk hκ b1 (fr rtF g2')) (fun _ => ?_)
  refine my_if (fun _ => l_15i hr ht hk hκ b1 (fr rtF g2')) (fun _ => ?_)
  refine my_if (fun _ => l_16i hr ht hk hκ b1 (fr rtF g2')) (fun _ => ?_)
  refine my_if (fun _ => l_17i hr ht hk hκ b1 b2 (fr rtF g2')) (fun _ => ?_)
  refine my_if (fun _ => l_18i hr ht hk hκ b1 b2 (fr rtF g2')) (fun _ => ?_)
  refine my_if (fun _ => l_19 rfl (fun j hj => ?_) hκ.1 hκ.2 b1 (fun _ => x1) (fun _ _ => fr3 rtF g4 _ _ (Or.inl rfl) (eqp_I (eqp_L eqp_rf (Or.inr ⟨rfl, rfl⟩)) (Or.inl ⟨rfl, rfl⟩)))) (fun _ => ?_)
  · obtain ⟨D, h0, ep, E0, w, _, d1, d2, _⟩ := hd
    rw [d1.1 j hj, d2.1 j hj]
  refine my_if (fun _ => l_20i hr ht hk hd hs hM hκ b1 b2 (fun κ' σ' hk' q1 q2 q3 q4 q5 f => hn κ' σ' cnt hk' (by omega) ⟨cu, ol, sp, As, I, Bs, I', hB, q1, q2, q3, q4, q5, cwR_o hw f (fun k hh => by have := ruF_c hh; omega)⟩)) (fun _ => ?_)
  refine my_if (fun _ => l_21i hr hs hκ b1 b2 (fr3 soF (fun c k hh => g4 c k hh))) (fun _ => ?_)
  refine my_if (fun _ => two (fun h0 => l_22 (z0 h0).1 (z0 h0).2 hκ.1 hκ.2 b1 x1) (fun h1 => l_22z (INVr_LD hr h1) (hU h1) hS hκ b1 (fr3 skF g5))) (fun _ => ?_)
  refine my_if (fun _ => two (fun h0 => l_23 (z0 h0).1 (z0 h0).2 hκ.1 hκ.2 b1 b2 x1) (fun h1 => l_23z (INVr_LD hr h1) (hU h1) hS hκ b1 b2 (fr3 skF g5))) (fun _ => ?_)
  refine my_if (fun _ => two (fun h0 => l_24 (z0 h0).1 (z0 h0).2 hκ.1 hκ.2 b1 b2 b3 x1) (fun h1 => l_24z (INVr_LD hr h1) hS hκ b1 b2 b3 (fr3 skF g5))) (fun _ => ?_)
  exact hn κ σ cnt (Or.inl rfl) (by omega) ⟨cu, ol, sp, As, I, Bs, I', hB, hr, ht, hk, hd13, hs, hw⟩
end MST
