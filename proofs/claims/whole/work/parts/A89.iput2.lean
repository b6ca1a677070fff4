
/-! ===== put keeps it ===== -/
section MIQ
variable {e : my_E} {κ : my_K} {σ σ' : my_S} {Q : my_O → my_K → my_S → Prop} {As Bs : List Ri} {I I' : List It} {cnt cu ol sp : Nat} {v4 : Int32} {t : Nat → Int32} {n : Nat} {b : Int32}
def ext (p : (Nat → Int32) × Nat) (b : Int32) : (Nat → Int32) × Nat := if b = 0 then p else (fun j => if j = p.2 then b else p.1 j, p.2 + 1)
theorem ext_n {p : (Nat → Int32) × Nat} : (ext p b).2 = p.2 + nzN b := by
  unfold ext nzN
  split <;> rfl
theorem sgb_of (h0 : ¬ b = 0) (hb : ¬ bs b) : sg b := by
  unfold bs at hb
  unfold sg
  by_cases h10 : b = 10
  · exact Or.inl h10
  · refine Or.inr ?_
    have h1 : ¬ b < 32 := fun hh => hb ⟨h0, h10, Or.inl hh⟩
    have h2 : ¬ 126 < b := fun hh => hb ⟨h0, h10, Or.inr hh⟩
    rw [Int32.lt_iff_toInt_lt] at h1 h2
    have e1 : (32 : Int32).toInt = 32 := by decide
    have e2 : (126 : Int32).toInt = 126 := by decide
    omega
theorem sg_r (h : sg b) : 0 ≤ b.toInt ∧ b.toInt ≤ 126 := by
  rcases h with h | h
  · rw [h]; decide
  · omega
theorem sg_x (h : sg b) : b.toInt8.toInt32.toInt8.toInt32 = b := by
  have hr := sg_r h
  have k : b.toInt8.toInt32 = b := by
    apply Int32.toInt_inj.mp
    rw [Int8.toInt_toInt32, Int32.toInt_toInt8, Int.bmod_def]
    split <;> omega
  rw [k, k]
theorem ext_t {p : (Nat → Int32) × Nat} (h : txt p.1 p.2) (hb : ¬ bs b) (hn : p.2 + nzN b ≤ 1500) : txt (ext p b).1 (ext p b).2 := by
  refine ⟨by rw [ext_n]; exact hn, fun j hj => ?_⟩
  rw [ext_n] at hj
  unfold ext
  by_cases h0 : b = 0
  · rw [if_pos h0]
    unfold nzN at hj
    rw [if_pos h0] at hj
    exact h.2 j hj
  · rw [if_neg h0]
    unfold nzN at hj
    rw [if_neg h0] at hj
    show sg (if j = p.2 then b else p.1 j)
    by_cases hjn : j = p.2
    · rw [if_pos hjn]; exact sgb_of h0 hb
    · rw [if_neg hjn]; exact h.2 j (by omega)
theorem cad_t {p : (Nat → Int32) × Nat} (h : txC p.1 p.2 σ) (hb : ¬ bs b) (hn : p.2 + nzN b ≤ 1500) : txC (ext p b).1 (ext p b).2 (cad σ b) ∧ eqp (fun c k => (c = 33 ∧ k = 1) ∨ c = 34) σ (cad σ b) := by
  unfold ext cad
  by_cases h0 : b = 0
  · rw [if_pos h0, if_pos h0]
    exact ⟨h, eqp_rf⟩
  · rw [if_neg h0, if_neg h0]
    unfold nzN at hn
    rw [if_neg h0] at hn
    rw [h.1, oN_n (by omega), sg_x (sgb_of h0 hb), oN_s]
    refine ⟨⟨uI_s, fun j hj => ?_⟩, eqp_I (eqp_I eqp_rf (Or.inr rfl)) (Or.inl ⟨rfl, rfl⟩)⟩
    show _ = if j = p.2 then b else p.1 j
    rw [my_uI_1, if_neg (by omega), my_uI_1]
    by_cases hjn : j = p.2
    · rw [if_pos ⟨rfl, hjn⟩, if_pos hjn]
    · rw [if_neg (by omega), if_neg hjn]
      exact h.2 j (by simp at hj; omega)
theorem rad_t {p : (Nat → Int32) × Nat} (h : txR p.1 p.2 σ) (hn : p.2 + nzN b ≤ 1500) : txR (ext p b).1 (ext p b).2 (rad σ b) ∧ eqp (fun c k => (c = 498 ∧ k = 2) ∨ c = 499) σ (rad σ b) := by
  unfold ext rad
  by_cases h0 : b = 0
  · rw [if_pos h0, if_pos h0]
    exact ⟨h, eqp_rf⟩
  · rw [if_neg h0, if_neg h0]
    unfold nzN at hn
    rw [if_neg h0] at hn
    rw [h.1, oN_n (by omega), oN_s]
    refine ⟨⟨uI_s, fun j hj => ?_⟩, eqp_I (eqp_I eqp_rf (Or.inr rfl)) (Or.inl ⟨rfl, rfl⟩)⟩
    show _ = if j = p.2 then b else p.1 j
    rw [my_uI_1, if_neg (by omega), my_uI_1]
    by_cases hjn : j = p.2
    · rw [if_pos ⟨rfl, hjn⟩, if_pos hjn]
    · rw [if_neg (by omega), if_neg hjn]
      exact h.2 j (by simp at hj; omega)
theorem l_0i (h : INVr cnt cu ol sp As I Bs I' σ) (ht : INVt σ) (hκ : 1 ≤ κ.2.1 ∧ 6 ≤ κ.2.2) (b1 : my_bd (v4 + 1) e.2.1) (hn : ∀ κ' σ', (κ' = κ ∨ κ' = (κ.1 + 1, κ.2.1 - 1, κ.2.2 - 6)) → INVr cnt cu ol sp As I Bs I' σ' → INVt σ' → eqp tpF σ σ' → ys_law_1663 e 1049 v4 κ' σ' Q) : ys_law_152 e 1049 v4 κ σ Q := by
  have ht0 := ht
  obtain ⟨⟨t, n, h1, h2, h3⟩, h4, h5⟩ := ht
  have hn15 := h1.1
  have bad : ∀ x : Int32, ys_law_1663 e 1049 v4 (κ.1 + 1, κ.2.1 - 1, κ.2.2 - 6) (my_uI σ 498 0 x) Q := fun x => by
    have f : eqp (fun c k => c = 498 ∧ k = 0) σ (my_uI σ 498 0 x) := eqp_I eqp_rf ⟨rfl, rfl⟩
    have f' : eqp tpF σ (my_uI σ 498 0 x) := eqp_mo f (fun c k hh => by unfold tpF; omega)
    exact hn _ _ (Or.inr rfl) (INVr_o h f' (fun _ _ => tpF_iv)) (INVt_o ht0 f (fun c k hh => by omega)) f'
  refine l_0 (m := n) rfl (by rw [h2.1, oN_i (by omega)]) hn15 (by rw [h2.1, h3.1]) hκ.1 hκ.2 b1 (fun _ => bad 1) (fun _ _ => bad 2) (fun ha hl => ?_)
  generalize e.2.2 (v4 + 1 : Int32).toNatClampNeg = v at ha hl ⊢
  unfold any4 at ha
  have a0 : ¬ bs (rb v 0) := fun hh => ha (Or.inl hh)
  have a1 : ¬ bs (rb v 8) := fun hh => ha (Or.inr (Or.inl hh))
  have a2 : ¬ bs (rb v 16) := fun hh => ha (Or.inr (Or.inr (Or.inl hh)))
  have a3 : ¬ bs (rb v 24) := fun hh => ha (Or.inr (Or.inr (Or.inr hh)))
  unfold cN at hl
  have n1 : (ext (t, n) (rb v 0)).2 = n + nzN (rb v 0) := ext_n
  have n2 : (ext (ext (t, n) (rb v 0)) (rb v 8)).2 = n + nzN (rb v 0) + nzN (rb v 8) := by rw [ext_n, n1]
  have n3 : (ext (ext (ext (t, n) (rb v 0)) (rb v 8)) (rb v 16)).2 = n + nzN (rb v 0) + nzN (rb v 8) + nzN (rb v 16) := by rw [ext_n, n2]
  have x1 := ext_t (p := (t, n)) (b := rb v 0) h1 a0 (by show n + _ ≤ _; omega)
  have x2 := ext_t (b := rb v 8) x1 a1 (by rw [n1]; omega)
  have x3 := ext_t (b := rb v 16) x2 a2 (by rw [n2]; omega)
  have x4 := ext_t (b := rb v 24) x3 a3 (by rw [n3]; omega)
  have c1 := cad_t (p := (t, n)) (b := rb v 0) h2 a0 (by show n + _ ≤ _; omega)
  have c2 := cad_t (b := rb v 8) c1.1 a1 (by rw [n1]; omega)
  have c3 := cad_t (b := rb v 16) c2.1 a2 (by rw [n2]; omega)
  have c4 := cad_t (b := rb v 24) c3.1 a3 (by rw [n3]; omega)
  have fc : eqp (fun c k => (c = 33 ∧ k = 1) ∨ c = 34) σ (cad4 σ v) := eqp_tr c1.2 (eqp_tr c2.2 (eqp_tr c3.2 c4.2))
  have tc : txC (ext (ext (ext (ext (t, n) (rb v 0)) (rb v 8)) (rb v 16)) (rb v 24)).1 (ext (ext (ext (ext (t, n) (rb v 0)) (rb v 8)) (rb v 16)) (rb v 24)).2 (cad4 σ v) := c4.1
  unfold put4
  have fm : eqp (fun c k => (c = 585 ∧ k = 0) ∨ (c = 498 ∧ k = 0)) (cad4 σ v) (my_uI (my_uL (cad4 σ v) 585 0 ((cad4 σ v).1 33 1).toInt64) 498 0 0) := eqp_I (eqp_L eqp_rf (Or.inl ⟨rfl, rfl⟩)) (Or.inr ⟨rfl, rfl⟩)
  generalize my_uI (my_uL (cad4 σ v) 585 0 ((cad4 σ v).1 33 1).toInt64) 498 0 0 = σm at fm ⊢
  have hR0 : txR t n σm := ⟨((eqp_g fm (by omega)).trans (eqp_g fc (by omega))).trans h3.1, fun j hj => ((eqp_g fm (by omega)).trans (eqp_g fc (by omega))).trans (h3.2 j hj)⟩
  have r1 := rad_t (p := (t, n)) (b := rb v 0) hR0 (by show n + _ ≤ _; omega)
  have r2 := rad_t (b := rb v 8) r1.1 (by rw [n1]; omega)
  have r3 := rad_t (b := rb v 16) r2.1 (by rw [n2]; omega)
  have r4 := rad_t (b := rb v 24) r3.1 (by rw [n3]; omega)
  have fr : eqp (fun c k => (c = 498 ∧ k = 2) ∨ c = 499) σm (rad4 σm v) := eqp_tr r1.2 (eqp_tr r2.2 (eqp_tr r3.2 r4.2))
  have tr : txR (ext (ext (ext (ext (t, n) (rb v 0)) (rb v 8)) (rb v 16)) (rb v 24)).1 (ext (ext (ext (ext (t, n) (rb v 0)) (rb v 8)) (rb v 16)) (rb v 24)).2 (rad4 σm v) := r4.1
  generalize rad4 σm v = σr at fr tr ⊢
  have f : eqp tpF σ σr := eqp_tr (eqp_mo fc (fun c k hh => by unfold tpF; omega)) (eqp_tr (eqp_mo fm (fun c k hh => by unfold tpF; omega)) (eqp_mo fr (fun c k hh => by unfold tpF; omega)))
  refine hn _ _ (Or.inl rfl) (INVr_o h f (fun _ _ => tpF_iv)) ⟨⟨_, _, x4, ⟨?_, fun j hj => ?_⟩, tr⟩, fun j hj => ((f _ _ (by unfold tpF; omega)).2.1).trans (h4 j hj), fun j hj => ((f _ _ (by unfold tpF; omega)).2.1).trans (h5 j hj)⟩ f
  · rw [eqp_g fr (by omega), eqp_g fm (by omega)]
    exact tc.1
  · rw [eqp_g fr (by omega), eqp_g fm (by omega)]
    exact tc.2 j hj
end MIQ
