
/-! ===== it goes on holding ===== -/
section MIO
variable {e : my_E} {κ : my_K} {σ σ' : my_S} {Q : my_O → my_K → my_S → Prop} {As Bs : List Ri} {I I' : List It} {cnt cu ol sp : Nat} {v4 : Int32}
/-- what lies outside -/
def ivF (c k : Nat) : Prop := ¬ (108 ≤ c ∧ c < 498) ∧ (c = 32 → k < 7 ∨ 10 < k) ∧ (c = 498 → k ≠ 65) ∧ ¬ coF c k ∧ ¬ olF c k
theorem INVr_o {F : Nat → Nat → Prop} (h : INVr cnt cu ol sp As I Bs I' σ) (he : eqp F σ σ') (hF : ∀ c k, F c k → ivF c k) : INVr cnt cu ol sp As I Bs I' σ' := by
  have g : ∀ {c k}, ¬ ivF c k → ¬ F c k := fun p hh => p (hF _ _ hh)
  have h' := h
  obtain ⟨⟨h1, h2, h3⟩, h4, h5, ⟨h6, h7, h7'⟩, h8, h9, h10, h11⟩ := h
  have hcs := h4.1
  have hos := h4.2.1
  refine ⟨⟨(eqp_g he (g (by unfold ivF; omega))).trans h1, (eqp_g he (g (by unfold ivF; omega))).trans h2, h3⟩, h4, fun rv hrv k hk => ((he _ _ (g (by unfold ivF; omega))).2.2).trans (h5 rv hrv k hk), ⟨((he _ _ (g (by unfold ivF; omega))).2.2).trans h6, ((he _ _ (g (by unfold ivF; omega))).2.2).trans h7, ((he _ _ (g (by unfold ivF; omega))).2.2).trans h7'⟩, fun hc => ⟨(eqp_g he (g (by unfold ivF olF; omega))).trans (h8 hc).1, (eqp_g he (g (by unfold ivF coF; omega))).trans (h8 hc).2⟩, fun hc => ?_, h10, fun hc => ?_⟩
  · obtain ⟨hL, hR, hN, hO⟩ := h9 hc
    have hrel := hL
    obtain ⟨_, _, _, _, hB, hrel, _⟩ := hrel
    refine ⟨hL, RevC_o hrel hR he (fun c k hh => ?_), NowR_o hB hrel (LD_30 (INVr_LD h' hc)) hN he (fun c k hh => (hF c k hh).2.2.2.1), OLB_o hO he (fun c k hh => ?_)⟩
    · have := (hF c k hh).1
      omega
    · have := (hF c k hh).2.2.2.2
      unfold olF at this
      omega
  · obtain ⟨hL, hR⟩ := h11 hc
    have hrel := hL
    obtain ⟨_, _, _, _, hB, hrel, _⟩ := hrel
    refine ⟨hL, RevC_o hrel hR he (fun c k hh => ?_)⟩
    have := (hF c k hh).1
    omega
theorem INVt_o {F : Nat → Nat → Prop} (h : INVt σ) (he : eqp F σ σ') (hF : ∀ c k, F c k → (c = 33 → k ≠ 1) ∧ c ≠ 34 ∧ c ≠ 38 ∧ (c = 498 → k ≠ 2) ∧ c ≠ 499 ∧ c ≠ 500) : INVt σ' := by
  obtain ⟨⟨t, n, h1, h2, h3⟩, h4, h5⟩ := h
  exact ⟨⟨t, n, h1, ⟨(eqp_g he (fun hh => (hF _ _ hh).1 rfl rfl)).trans h2.1, fun j hj => (eqp_g he (fun hh => (hF _ _ hh).2.1 rfl)).trans (h2.2 j hj)⟩, ⟨(eqp_g he (fun hh => (hF _ _ hh).2.2.2.1 rfl rfl)).trans h3.1, fun j hj => (eqp_g he (fun hh => (hF _ _ hh).2.2.2.2.1 rfl)).trans (h3.2 j hj)⟩⟩, fun j hj => ((he _ _ (fun hh => (hF _ _ hh).2.2.1 rfl)).2.1).trans (h4 j hj), fun j hj => ((he _ _ (fun hh => (hF _ _ hh).2.2.2.2.2 rfl)).2.1).trans (h5 j hj)⟩
theorem rtF_iv {c k : Nat} (h : rtF c k) : ivF c k := by
  unfold rtF at h
  unfold ivF coF olF
  omega
/-- code, mark, change, gone keep it -/
theorem l_4i (h : INVr cnt cu ol sp As I Bs I' σ) (ht : INVt σ) (hκ : 1 ≤ κ.2.1 ∧ 6 ≤ κ.2.2) (b1 : my_bd (v4 + 1) e.2.1) (b2 : my_bd (v4 + 2) e.2.1) (b3 : my_bd (v4 + 3) e.2.1) (hn : ∀ κ' σ', (κ' = κ ∨ κ' = (κ.1 + 1, κ.2.1 - 1, κ.2.2 - 6)) → INVr cnt cu ol sp As I Bs I' σ' → INVt σ' → eqp rtF σ σ' → ys_law_1663 e 1049 v4 κ' σ' Q) : ys_law_313 e 1049 v4 κ σ Q := by
  have go : ∀ κ' σ', (κ' = κ ∨ κ' = (κ.1 + 1, κ.2.1 - 1, κ.2.2 - 6)) → eqp rtF σ σ' → ys_law_1663 e 1049 v4 κ' σ' Q := fun κ' σ' hk f => hn κ' σ' hk (INVr_o h f (fun _ _ => rtF_iv)) (INVt_o ht f (fun c k hh => by unfold rtF at hh; omega)) f
  by_cases hc : cnt = 0
  · exact l_4 (by rw [h.1.1, hc]; rfl) (by rw [h.1.2.1, hc]; rfl) hκ.1 hκ.2 b1 b2 b3 (go _ _ (Or.inr rfl) (eqp_I eqp_rf (Or.inl ⟨rfl, rfl⟩)))
  · exact l_4b (INVr_LD h (by omega)) hκ b1 b2 b3 go
theorem l_5i (h : INVr cnt cu ol sp As I Bs I' σ) (ht : INVt σ) (hκ : 1 ≤ κ.2.1 ∧ 6 ≤ κ.2.2) (b1 : my_bd (v4 + 1) e.2.1) (b2 : my_bd (v4 + 2) e.2.1) (hn : ∀ κ' σ', (κ' = κ ∨ κ' = (κ.1 + 1, κ.2.1 - 1, κ.2.2 - 6)) → INVr cnt cu ol sp As I Bs I' σ' → INVt σ' → eqp rtF σ σ' → ys_law_1663 e 1049 v4 κ' σ' Q) : ys_law_393 e 1049 v4 κ σ Q := by
  have go : ∀ κ' σ', (κ' = κ ∨ κ' = (κ.1 + 1, κ.2.1 - 1, κ.2.2 - 6)) → eqp rtF σ σ' → ys_law_1663 e 1049 v4 κ' σ' Q := fun κ' σ' hk f => hn κ' σ' hk (INVr_o h f (fun _ _ => rtF_iv)) (INVt_o ht f (fun c k hh => by unfold rtF at hh; omega)) f
  by_cases hc : cnt = 0
  · exact l_5 (by rw [h.1.1, hc]; rfl) (by rw [h.1.2.1, hc]; rfl) hκ.1 hκ.2 b1 b2 (go _ _ (Or.inr rfl) (eqp_I eqp_rf (Or.inl ⟨rfl, rfl⟩)))
  · exact l_5b (INVr_LD h (by omega)) hκ b1 b2 go
theorem l_6i (h : INVr cnt cu ol sp As I Bs I' σ) (ht : INVt σ) (hκ : 1 ≤ κ.2.1 ∧ 6 ≤ κ.2.2) (b1 : my_bd (v4 + 1) e.2.1) (b2 : my_bd (v4 + 2) e.2.1) (hn : ∀ κ' σ', (κ' = κ ∨ κ' = (κ.1 + 1, κ.2.1 - 1, κ.2.2 - 6)) → INVr cnt cu ol sp As I Bs I' σ' → INVt σ' → eqp rtF σ σ' → ys_law_1663 e 1049 v4 κ' σ' Q) : ys_law_461 e 1049 v4 κ σ Q := by
  have go : ∀ κ' σ', (κ' = κ ∨ κ' = (κ.1 + 1, κ.2.1 - 1, κ.2.2 - 6)) → eqp rtF σ σ' → ys_law_1663 e 1049 v4 κ' σ' Q := fun κ' σ' hk f => hn κ' σ' hk (INVr_o h f (fun _ _ => rtF_iv)) (INVt_o ht f (fun c k hh => by unfold rtF at hh; omega)) f
  by_cases hc : cnt = 0
  · exact l_6 (by rw [h.1.1, hc]; rfl) (by rw [h.1.2.1, hc]; rfl) hκ.1 hκ.2 b1 b2 (go _ _ (Or.inr rfl) (eqp_I eqp_rf (Or.inl ⟨rfl, rfl⟩)))
  · have h3 := h.1.2.2
    refine l_6b (INVr_LD h (by omega)) (INVr_B h) (INVr_OLC h) (h.2.2.2.2.2.1 (by omega)).2.2.2 h.2.1.2.2.2.1 ?_ hκ b1 b2 go
    rw [h.1.1, h.1.2.1, oN_lt1 (b := 2) (c := 2) rfl (by omega) (by omega)]
    have := oN_e (a := cnt) (b := 1) (by omega) (by omega)
    exact ⟨fun hh => this.mpr (by omega), fun hh => by have := this.mp hh; omega⟩
theorem l_7i (h : INVr cnt cu ol sp As I Bs I' σ) (ht : INVt σ) (hκ : 1 ≤ κ.2.1 ∧ 6 ≤ κ.2.2) (b1 : my_bd (v4 + 1) e.2.1) (b2 : my_bd (v4 + 2) e.2.1) (hn : ∀ κ' σ', (κ' = κ ∨ κ' = (κ.1 + 1, κ.2.1 - 1, κ.2.2 - 6)) → INVr cnt cu ol sp As I Bs I' σ' → INVt σ' → eqp rtF σ σ' → ys_law_1663 e 1049 v4 κ' σ' Q) : ys_law_529 e 1049 v4 κ σ Q := by
  have go : ∀ κ' σ', (κ' = κ ∨ κ' = (κ.1 + 1, κ.2.1 - 1, κ.2.2 - 6)) → eqp rtF σ σ' → ys_law_1663 e 1049 v4 κ' σ' Q := fun κ' σ' hk f => hn κ' σ' hk (INVr_o h f (fun _ _ => rtF_iv)) (INVt_o ht f (fun c k hh => by unfold rtF at hh; omega)) f
  by_cases hc : cnt = 0
  · exact l_7 (by rw [h.1.1, hc]; rfl) (by rw [h.1.2.1, hc]; rfl) (h.2.2.2.2.1 hc).1 hκ.1 hκ.2 b1 b2 (go _ _ (Or.inr rfl) (eqp_I eqp_rf (Or.inl ⟨rfl, rfl⟩)))
  · exact l_7b (INVr_LD h (by omega)) (INVr_B h) h.2.1.2.1 (INVr_OLC h) (h.2.2.2.2.2.1 (by omega)).2.2.2.1 hκ b1 b2 go
end MIO
