
/-! ===== put and end keep it ===== -/
section MIP
variable {e : my_E} {κ : my_K} {σ σ' : my_S} {Q : my_O → my_K → my_S → Prop} {As Bs : List Ri} {I I' : List It} {cnt cu ol sp : Nat} {v4 : Int32}
def tpF (c k : Nat) : Prop := (c = 33 ∧ k = 1) ∨ c = 34 ∨ (c = 498 ∧ (k = 0 ∨ k = 2)) ∨ c = 499 ∨ (c = 585 ∧ k = 0)
theorem tpF_iv {c k : Nat} (h : tpF c k) : ivF c k := by
  unfold tpF at h
  unfold ivF coF olF
  omega
theorem l_1i (h : INVr cnt cu ol sp As I Bs I' σ) (ht : INVt σ) (hκ : 1 ≤ κ.2.1 ∧ 6 ≤ κ.2.2) (b1 : my_bd (v4 + 1) e.2.1) (hn : ∀ κ' σ', (κ' = κ ∨ κ' = (κ.1 + 1, κ.2.1 - 1, κ.2.2 - 6)) → INVr cnt cu ol sp As I Bs I' σ' → INVt σ' → eqp tpF σ σ' → ys_law_1663 e 1049 v4 κ' σ' Q) : ys_law_208 e 1049 v4 κ σ Q := by
  obtain ⟨⟨t, n, h1, h2, h3⟩, h4, h5⟩ := ht
  have hn15 := h1.1
  refine l_1 rfl (by rw [h2.1, h3.1]) hκ.1 hκ.2 b1 (fun _ => ?_) (fun c1 c2 => ?_)
  · have f : eqp tpF σ (my_uI σ 498 0 1) := eqp_I eqp_rf (by unfold tpF; omega)
    exact hn _ _ (Or.inr rfl) (INVr_o h f (fun _ _ => tpF_iv)) (INVt_o ⟨⟨t, n, h1, h2, h3⟩, h4, h5⟩ (eqp_I (F := fun c k => c = 498 ∧ k = 0) eqp_rf ⟨rfl, rfl⟩) (fun c k hh => by omega)) f
  · generalize e.2.2 (v4 + 1 : Int32).toNatClampNeg = v at c1 c2 ⊢
    obtain ⟨w, hw, hw2⟩ := nn_of c1
    have hwn : w ≤ n := by
      rw [h2.1, hw, oN_lt (by omega) hw2] at c2
      omega
    have f : eqp tpF σ (my_uI (my_uI (my_uI σ 33 1 v) 498 0 0) 498 2 v) := eqp_I (eqp_I (eqp_I eqp_rf (by unfold tpF; omega)) (by unfold tpF; omega)) (by unfold tpF; omega)
    have a1 : (my_uI (my_uI (my_uI σ 33 1 v) 498 0 0) 498 2 v).1 33 1 = v := by rw [my_uI_1, if_neg (by omega), my_uI_1, if_neg (by omega), uI_s]
    have a2 : (my_uI (my_uI (my_uI σ 33 1 v) 498 0 0) 498 2 v).1 498 2 = v := uI_s
    have f' : eqp (fun c k => (c = 33 ∧ k = 1) ∨ (c = 498 ∧ (k = 0 ∨ k = 2))) σ (my_uI (my_uI (my_uI σ 33 1 v) 498 0 0) 498 2 v) := eqp_I (eqp_I (eqp_I eqp_rf (by omega)) (by omega)) (by omega)
    generalize my_uI (my_uI (my_uI σ 33 1 v) 498 0 0) 498 2 v = σ1 at f f' a1 a2 ⊢
    refine hn _ _ (Or.inl rfl) (INVr_o h f (fun _ _ => tpF_iv)) ⟨⟨t, w, ⟨by omega, fun j hj => h1.2 j (by omega)⟩, ⟨by rw [a1, hw], fun j hj => (eqp_g f' (by omega)).trans (h2.2 j (by omega))⟩, ⟨by rw [a2, hw], fun j hj => (eqp_g f' (by omega)).trans (h3.2 j (by omega))⟩⟩, fun j hj => ((f' _ _ (by omega)).2.1).trans (h4 j hj), fun j hj => ((f' _ _ (by omega)).2.1).trans (h5 j hj)⟩ f
end MIP
