
/-! ===== the class's machine: one instruction ===== -/
section MCR
variable {e : my_E} {d : Nat} {κ : my_K} {σ σ' : my_S} {Q : my_O → my_K → my_S → Prop} {A rv : Nat} {s : Ms} {As : List Ri} {I : List It}
theorem zop_b {c k j : Nat} {o : Int32} (h : 21 ≤ c ∧ c ≤ 31) : zop As k c o j s = zbin c s := by
  unfold zop
  rw [if_neg (by omega), if_neg (by omega), if_neg (by omega), if_neg (by omega), if_neg (by omega), if_neg (by omega), if_neg (by omega), if_neg (by omega), if_neg (by omega), if_neg (by omega), if_neg (by omega), if_neg (by omega), if_neg (by omega), if_neg (by omega), if_neg (by omega), if_neg (by omega), if_neg (by omega), if_neg (by omega)]
theorem m_130 {c k j : Nat} {o : Int32} (hA : A = 44 ∨ A = 53) (h : CMs A rv s σ) (hc : c = 1 ∨ c = 2 ∨ c = 3 ∨ c = 4 ∨ c = 5 ∨ c = 19 ∨ c = 20) (hT : zT s < 2200) (hT1 : c = 5 ∨ c = 19 ∨ c = 20 → 1 ≤ zT s) (hD : zD s ≤ 20) (hi : c = 4 ∨ c = 5 → ∃ i, i < 10 ∧ o = Int32.ofNat i) (hd : 2 ≤ d) (hQ : ∀ σ', CMs A rv (zop As k c o j s) σ' → eqp (cmF A) σ σ' → Q (.inl none) κ σ') : my_M e d 130 [.inr (.inr (some A)), .inl (Int32.ofNat c), .inl o] κ σ Q := by
  obtain ⟨d, rfl⟩ := dS 1 (show 1 ≤ d by omega)
  refine ys_130 (in4 hA) ?_
  unfold ys_130_0
  rcases hc with rfl | rfl | rfl | rfl | rfl | rfl | rfl
  · rw [if_pos (by decide)]
    refine m_117 hA h hT (by omega) (fun σ1 g1 f1 => ?_)
    rw [my_k0_v]
    exact hQ σ1 g1 f1
  · rw [if_neg (by decide), if_pos (by decide)]
    refine m_117 hA h hT (by omega) (fun σ1 g1 f1 => ?_)
    rw [my_k0_v]
    exact hQ σ1 g1 f1
  · rw [if_neg (by decide), if_neg (by decide), if_pos (by decide)]
    unfold ys_130_169
    refine m_117 hA h hT (by omega) (fun σ1 g1 f1 => ?_)
    rw [my_k0_v]
    exact hQ σ1 g1 f1
  · rw [if_neg (by decide), if_neg (by decide), if_neg (by decide), if_pos (by decide)]
    obtain ⟨i, hi10, rfl⟩ := hi (Or.inl rfl)
    refine m_131 hA h hD hi10 (by omega) ?_
    rw [my_kI_v]
    refine m_117 hA h hT (by omega) (fun σ1 g1 f1 => ?_)
    rw [my_k0_v]
    refine hQ σ1 ?_ f1
    rw [zop_4, oN_n (by omega)]
    exact g1
  · rw [if_neg (by decide), if_neg (by decide), if_neg (by decide), if_neg (by decide), if_pos (by decide)]
    obtain ⟨i, hi10, rfl⟩ := hi (Or.inr rfl)
    refine m_118 hA h (by omega) (hT1 (by omega)) (by omega) (fun σ1 g1 f1 => ?_)
    rw [my_kI_v]
    refine m_111 (s := zpop s) hA g1 hD hi10 (by omega) (fun σ2 g2 f2 => ?_)
    rw [my_k0_v]
    refine hQ σ2 ?_ (eqp_tr f1 (eqp_mo f2 (fun c k hh => by unfold cmF; omega)))
    rw [zop_5, oN_n (by omega)]
    exact g2
  · rw [if_neg (by decide), if_neg (by decide), if_neg (by decide), if_neg (by decide), if_neg (by decide), if_neg (by decide), if_neg (by decide), if_neg (by decide), if_neg (by decide), if_neg (by decide), if_neg (by decide), if_neg (by decide), if_neg (by decide), if_neg (by decide), if_neg (by decide), if_neg (by decide), if_neg (by decide), if_neg (by decide), if_pos (by decide)]
    refine m_118 hA h (by omega) (hT1 (by omega)) (by omega) (fun σ1 g1 f1 => ?_)
    rw [my_kI_v]
    refine m_117 (s := zpop s) hA g1 (by show zT s - 1 < 2200; omega) (by omega) (fun σ2 g2 f2 => ?_)
    rw [my_k0_v]
    exact hQ σ2 g2 (eqp_tr f1 f2)
  · rw [if_neg (by decide), if_neg (by decide), if_neg (by decide), if_neg (by decide), if_neg (by decide), if_neg (by decide), if_neg (by decide), if_neg (by decide), if_neg (by decide), if_neg (by decide), if_neg (by decide), if_neg (by decide), if_neg (by decide), if_neg (by decide), if_neg (by decide), if_neg (by decide), if_neg (by decide), if_neg (by decide), if_neg (by decide), if_pos (by decide)]
    refine m_118 hA h (by omega) (hT1 (by omega)) (by omega) (fun σ1 g1 f1 => ?_)
    rw [my_kI_v]
    refine m_117 (s := zpop s) hA g1 (by show zT s - 1 < 2200; omega) (by omega) (fun σ2 g2 f2 => ?_)
    rw [my_k0_v]
    exact hQ σ2 g2 (eqp_tr f1 f2)
theorem m_125 {c : Nat} (hA : A = 44 ∨ A = 53) (h : CMs A rv s σ) (hc : 21 ≤ c ∧ c ≤ 31) (hT : zT s ≤ 2200) (hT2 : 2 ≤ zT s) (hd : 3 ≤ d) (hQ : ∀ σ', CMs A rv (zbin c s) σ' → eqp (cmF A) σ σ' → Q (.inl none) κ σ') : my_M e d 125 [.inr (.inr (some A)), .inl (Int32.ofNat c)] κ σ Q := by
  obtain ⟨d, rfl⟩ := dS 1 (show 1 ≤ d by omega)
  refine ys_125 (in4 hA) ?_
  unfold ys_125_0
  refine m_118 hA h hT (by omega) (by omega) (fun σ1 g1 f1 => ?_)
  rw [my_kI_v]
  refine m_118 (s := zpop s) hA g1 (by show zT s - 1 ≤ 2200; omega) (by show 1 ≤ zT s - 1; omega) (by omega) (fun σ2 g2 f2 => ?_)
  rw [my_kI_v]
  have f12 := eqp_tr f1 f2
  have hT3 : zT (zpop (zpop s)) < 2200 := by show zT s - 1 - 1 < 2200; omega
  have psh : ∀ v : Int32, ∀ d', 1 ≤ d' → bop c (ztop (zpop s)) (ztop s) = v → ¬ (30 ≤ c ∧ ztop s = 0) → ∀ (Q' : my_O → my_K → my_S → Prop), (∀ σ', CMs A rv (zbin c s) σ' → eqp (cmF A) σ σ' → Q' (.inl none) κ σ') → my_M e d' 117 [.inr (.inr (some A)), .inl v] κ σ2 Q' := fun v d' hd' hv hn Q' hq => by
    refine m_117 hA g2 hT3 hd' (fun σ3 g3 f3 => hq σ3 ?_ (eqp_tr f12 f3))
    unfold zbin
    rw [if_neg hn, hv]
    exact g3
  have fin : ∀ σ', CMs A rv (zbin c s) σ' → eqp (cmF A) σ σ' → my_k0 (fun κ σ => Q (.inl none) κ σ) (fun y κ σ => Q (.inr y) κ σ) (.inl none) κ σ' := fun σ' g f => by rw [my_k0_v]; exact hQ σ' g f
  have hcs : c = 21 ∨ c = 22 ∨ c = 23 ∨ c = 24 ∨ c = 25 ∨ c = 26 ∨ c = 27 ∨ c = 28 ∨ c = 29 ∨ c = 30 ∨ c = 31 := by omega
  rcases hcs with rfl | rfl | rfl | rfl | rfl | rfl | rfl | rfl | rfl | rfl | rfl
  · rw [if_pos (by decide)]
    exact psh _ d (by omega) rfl (by omega) _ fin
  · rw [if_neg (by decide), if_pos (by decide)]
    exact psh _ d (by omega) rfl (by omega) _ fin
  · rw [if_neg (by decide), if_neg (by decide), if_pos (by decide)]
    unfold ys_125_79
    refine my_if (fun hh => psh _ d (by omega) ?_ (by omega) _ fin) (fun hh => psh _ d (by omega) ?_ (by omega) _ fin)
    · show (if _ then (1 : Int32) else 0) = 1
      rw [if_pos hh]
    · show (if _ then (1 : Int32) else 0) = 0
      rw [if_neg hh]
  · rw [if_neg (by decide), if_neg (by decide), if_neg (by decide), if_pos (by decide)]
    unfold ys_125_96
    refine my_if (fun hh => psh _ d (by omega) ?_ (by omega) _ fin) (fun hh => psh _ d (by omega) ?_ (by omega) _ fin)
    · show (if _ then (0 : Int32) else 1) = 0
      rw [if_pos hh]
    · show (if _ then (0 : Int32) else 1) = 1
      rw [if_neg hh]
  · rw [if_neg (by decide), if_neg (by decide), if_neg (by decide), if_neg (by decide), if_pos (by decide)]
    unfold ys_125_113
    refine my_if (fun hh => psh _ d (by omega) ?_ (by omega) _ fin) (fun hh => psh _ d (by omega) ?_ (by omega) _ fin)
    · show (if _ then (1 : Int32) else 0) = 1
      rw [if_pos hh]
    · show (if _ then (1 : Int32) else 0) = 0
      rw [if_neg hh]
  · rw [if_neg (by decide), if_neg (by decide), if_neg (by decide), if_neg (by decide), if_neg (by decide), if_pos (by decide)]
    unfold ys_125_130
    refine my_if (fun hh => psh _ d (by omega) ?_ (by omega) _ fin) (fun hh => psh _ d (by omega) ?_ (by omega) _ fin)
    · show (if _ then (0 : Int32) else 1) = 0
      rw [if_pos hh]
    · show (if _ then (0 : Int32) else 1) = 1
      rw [if_neg hh]
  all_goals rw [if_neg (by decide), if_neg (by decide), if_neg (by decide), if_neg (by decide), if_neg (by decide), if_neg (by decide)]
  all_goals obtain ⟨d, rfl⟩ := dS 1 (show 1 ≤ d by omega)
  all_goals refine ys_126 (in4 hA) ?_
  all_goals unfold ys_126_0
  · rw [if_pos (by decide)]
    refine psh _ d (by omega) rfl (by omega) _ (fun σ' g f => ?_)
    rw [my_k0_v]
    exact fin σ' g f
  · rw [if_neg (by decide), if_pos (by decide)]
    refine psh _ d (by omega) rfl (by omega) _ (fun σ' g f => ?_)
    rw [my_k0_v]
    exact fin σ' g f
  · rw [if_neg (by decide), if_neg (by decide), if_pos (by decide)]
    refine psh _ d (by omega) rfl (by omega) _ (fun σ' g f => ?_)
    rw [my_k0_v]
    exact fin σ' g f
  · rw [if_neg (by decide), if_neg (by decide), if_neg (by decide)]
    by_cases h0 : ztop s = 0
    · rw [if_pos h0]
      have := CMs_end (n := 2) g2
      refine fin _ ?_ (eqp_tr f12 this.2)
      unfold zbin
      rw [if_pos ⟨by omega, h0⟩]
      exact this.1
    · rw [if_neg h0, if_pos (by decide)]
      refine ⟨h0, ?_⟩
      unfold ys_126_86
      refine psh _ d (by omega) rfl (fun hh => h0 hh.2) _ (fun σ' g f => ?_)
      rw [my_k0_v]
      exact fin σ' g f
  · rw [if_neg (by decide), if_neg (by decide), if_neg (by decide)]
    by_cases h0 : ztop s = 0
    · rw [if_pos h0]
      have := CMs_end (n := 2) g2
      refine fin _ ?_ (eqp_tr f12 this.2)
      unfold zbin
      rw [if_pos ⟨by omega, h0⟩]
      exact this.1
    · rw [if_neg h0, if_neg (by decide)]
      refine ⟨h0, ?_⟩
      unfold ys_126_86
      refine psh _ d (by omega) rfl (fun hh => h0 hh.2) _ (fun σ' g f => ?_)
      rw [my_k0_v]
      exact fin σ' g f
theorem m_127 {c k j : Nat} {o : Int32} (hA : A = 44 ∨ A = 53) (h : CMs A rv s σ) (hc : 11 ≤ c ∧ c ≤ 17) (hT : zT s < 2200) (hT1 : c = 11 ∨ c = 15 ∨ c = 17 → 1 ≤ zT s) (hD : zD s ≤ 20) (hD1 : c = 11 ∨ c = 12 → 1 ≤ zD s) (hF : zF s ≤ 3000) (ho : c = 14 ∨ c = 15 → ∃ p : Nat, o = Int32.ofNat p ∧ p < 65536) (hd : 2 ≤ d) (hQ : ∀ σ', CMs A rv (zop As k c o j s) σ' → eqp (cmF A) σ σ' → Q (.inl none) κ σ') : my_M e d 127 [.inr (.inr (some A)), .inl (Int32.ofNat c), .inl o, .inr (.inr (some (rv + 4 + 3 * k)))] κ σ Q := by
  obtain ⟨d, rfl⟩ := dS 1 (show 1 ≤ d by omega)
  refine ys_127 (in4 hA) ?_
  unfold ys_127_0
  have hcs : c = 11 ∨ c = 12 ∨ c = 13 ∨ c = 14 ∨ c = 15 ∨ c = 16 ∨ c = 17 := by omega
  rcases hcs with rfl | rfl | rfl | rfl | rfl | rfl | rfl
  · rw [if_pos (by decide)]
    have h1 := hT1 (by omega)
    refine m_118 hA h (by omega) h1 (by omega) (fun σ1 g1 f1 => ?_)
    rw [my_kI_v]
    refine m_128 (s := zpop s) hA g1 (hD1 (by omega)) hD (by omega) (fun σ2 g2 f2 => ?_)
    rw [my_k0_v]
    refine m_117 (s := zlv (zpop s)) hA g2 (by show zT s - 1 < 2200; omega) (by omega) (fun σ3 g3 f3 => ?_)
    rw [my_k0_v]
    refine hQ σ3 ?_ (eqp_tr f1 (eqp_tr f2 f3))
    have e1 : zpsh (ztop s) (zlv (zpop s)) = ((zT s - 1 + 1, upN (zV s) (zT s - 1) (ztop s)), (zlv s).2) := rfl
    have e2 : upN (zV s) (zT s - 1) (ztop s) = zV s := by
      funext i
      by_cases hi : i = zT s - 1
      · rw [hi, upN_s]; rfl
      · rw [upN_o hi]
    rw [e1, e2, show zT s - 1 + 1 = zT s by omega] at g3
    rw [zop_11]
    exact g3
  · rw [if_neg (by decide), if_pos (by decide)]
    refine m_128 hA h (hD1 (by omega)) hD (by omega) (fun σ2 g2 f2 => ?_)
    rw [my_k0_v]
    exact hQ σ2 g2 f2
  · rw [if_neg (by decide), if_neg (by decide), if_pos (by decide)]
    have := CMs_end (n := 0) h
    exact hQ _ this.1 this.2
  · rw [if_neg (by decide), if_neg (by decide), if_neg (by decide), if_pos (by decide)]
    obtain ⟨p, rfl, hp⟩ := ho (Or.inl rfl)
    refine m_129 hA h hD (by omega) (fun σ2 g2 f2 => ?_)
    rw [my_k0_v]
    refine hQ σ2 ?_ f2
    rw [zop_14, oN_n (by omega)]
    exact g2
  · rw [if_neg (by decide), if_neg (by decide), if_neg (by decide), if_neg (by decide), if_pos (by decide)]
    obtain ⟨p, rfl, hp⟩ := ho (Or.inr rfl)
    refine m_118 hA h (by omega) (hT1 (by omega)) (by omega) (fun σ1 g1 f1 => ?_)
    rw [my_kI_v]
    rw [zop_15, oN_n (by omega)] at hQ
    refine my_if (fun h0 => ?_) (fun h0 => ?_)
    · rw [if_pos h0] at hQ
      refine m_129 (s := zpop s) hA g1 hD (by omega) (fun σ2 g2 f2 => ?_)
      rw [my_k0_v]
      exact hQ σ2 g2 (eqp_tr f1 f2)
    · rw [if_neg h0] at hQ
      exact hQ σ1 g1 f1
  · rw [if_neg (by decide), if_neg (by decide), if_neg (by decide), if_neg (by decide), if_neg (by decide), if_pos (by decide)]
    rw [zop_16] at hQ
    unfold zbrn at hQ
    refine m_124 hA h hF (by omega) (fun σ1 hf g1 f1 => ?_) (fun σ1 hf g1 f1 => ?_)
    · rw [if_pos hf] at hQ
      rw [my_kI_v]
      exact hQ σ1 g1 f1
    · rw [if_neg hf] at hQ
      rw [my_kI_v]
      exact hQ σ1 g1 f1
  · rw [if_neg (by decide), if_neg (by decide), if_neg (by decide), if_neg (by decide), if_neg (by decide), if_neg (by decide), if_pos (by decide)]
    refine m_118 hA h (by omega) (hT1 (by omega)) (by omega) (fun σ1 g1 f1 => ?_)
    rw [my_kI_v]
    rw [zop_17] at hQ
    refine my_if (fun h0 => ?_) (fun h0 => ?_)
    · rw [if_pos h0] at hQ
      unfold ys_127_131
      have ce := CMs_end (n := 1) g1
      have f2 : eqp (fun c k => c = A ∧ (k = 14 ∨ k = 15)) (my_uI σ1 A 12 1) (my_uI (my_uA (my_uI σ1 A 12 1) A 14 (some (rv + 4 + 3 * k))) A 15 o) := eqp_I (eqp_A eqp_rf ⟨rfl, Or.inl rfl⟩) ⟨rfl, Or.inr rfl⟩
      refine hQ _ ?_ (eqp_tr f1 (eqp_tr ce.2 (eqp_mo f2 (fun c k hh => by unfold cmF; omega))))
      obtain ⟨h1, h2, h3, h4, h5, h6, h7, h8⟩ := ce.1
      refine ⟨kc1_o h1 f2 (fun c k hh => by omega), kc2_o h2 f2 (fun c k hh => by omega), kc3_o h3 f2 (fun c k hh => by omega), kc4_o h4 f2 (fun c k hh => by omega), kc5_o h5 f2 (fun c k hh => by omega), kc6_o h6 f2 (fun c k hh => by omega), kc7_o h7 f2 (fun c k hh => by omega), (eqp_g f2 (by omega)).trans h8.1, (eqp_g f2 (by omega)).trans h8.2.1, ?_, uI_s⟩
      show (my_uA (my_uI σ1 A 12 1) A 14 (some (rv + 4 + 3 * k))).2.2 A 14 = _
      rw [my_uA_3, if_pos ⟨rfl, rfl⟩]
      rfl
    · rw [if_neg h0] at hQ
      exact hQ σ1 g1 f1
end MCR
