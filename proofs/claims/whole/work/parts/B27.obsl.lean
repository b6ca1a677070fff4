
/-! ===== what is asked of a trace, in the law ===== -/
section MOL
variable {As Bs : List Ri} {I I' : List It} {cnt cu ol sp : Nat} {e : my_E} {κ : my_K} {σ : my_S} {Q : my_O → my_K → my_S → Prop} {v4 : Int32}
theorem TRz_of (h : INVr cnt cu ol sp As I Bs I' σ) (hk : INVk cnt cu As I σ) : (σ.1 32 11 = 0 ∧ σ.1 498 133 = 0) ∨ ∃ s u, TRz cu As I s u σ := by
  rcases hk.2.2.2 with t | ⟨t1, t2, t3, t4, s, t5, t6, t7, t8⟩
  · exact Or.inl t
  · exact Or.inr ⟨s, σ.1 53 13, (h.2.2.2.2.2.1 t1).1, INVr_LD h t1, t2, t3, t4, rfl, t5, t6.1, t8⟩
theorem l_15a (f1 : σ.1 32 11 = 0) (f2 : σ.1 498 133 = 0) (ha : asB σ) (hc : 1 ≤ κ.2.1) (hs : 6 ≤ κ.2.2) (b1 : my_bd (v4 + 1) e.2.1) (hn : ys_law_1663 e 1049 v4 (κ.1 + 1, κ.2.1 - 1, κ.2.2 - 6) (my_uI σ 498 0 1) Q) : ys_law_1005 e 1049 v4 κ σ Q := by
  obtain ⟨D, w, d1, d2, d3, d4⟩ := ha
  unfold ys_law_1005
  refine ⟨b1, ys_390 ?_⟩
  unfold ys_390_0
  refine c_31 f1 (by decide) hc hs ?_
  rw [my_kI_x, if_pos rfl, my_kI_v]
  refine ⟨b1, ys_370 ?_⟩
  unfold ys_370_0
  rw [d3, oN_n (by omega), d4, f2, if_pos rfl]
  refine ⟨bdk (by omega) (by omega), bdk (by omega) (by omega), ?_⟩
  unfold ys_370_43
  rw [f2, if_pos rfl]
  generalize e.2.2 (v4 + 1 : Int32).toNatClampNeg = x1
  have fin : ∀ (t : Int32) {κ : my_K} {P : my_O → my_K → my_S → Prop}, (∀ x, P (.inl (some (.inl x))) κ (my_uI σ 498 0 1)) → ys_370_71 e 1048 x1 t 1 κ σ P := fun t κ P hP => by
    unfold ys_370_71
    refine r_215_1 ?_
    rw [my_kI_v, if_neg (by decide)]
    exact hP 0
  have fin2 : ys_370_57 e 1048 x1 0 1 (κ.1 + 1, κ.2.1 - 1, κ.2.2 - 6) σ (my_kI (fun x4 κ5 σ6 => my_M e 1049 213 [.inr (.inr (some 498))] κ5 σ6 (my_kI (fun x7 κ8 σ9 => if x7 = 1 then (if (1 : Int32) = 0 then (if (lg_cmp (σ9.2.1 585 0) (x4 : Int32).toInt64) = 0 then (ys_law_1058 e 1049 v4 κ8 σ9 Q) else (Q (.inl (some (.inl 0))) κ8 σ9)) else (ys_law_1058 e 1049 v4 κ8 σ9 Q)) else (Q (.inl (some (.inl 0))) κ8 σ9)) (fun y10 κ11 σ12 => Q (.inr y10) κ11 σ12))) (fun y13 κ14 σ15 => Q (.inr y13) κ14 σ15)) := by
    have gg : ∀ t, ys_370_71 e 1048 x1 t 1 (κ.1 + 1, κ.2.1 - 1, κ.2.2 - 6) σ (my_kI (fun x4 κ5 σ6 => my_M e 1049 213 [.inr (.inr (some 498))] κ5 σ6 (my_kI (fun x7 κ8 σ9 => if x7 = 1 then (if (1 : Int32) = 0 then (if (lg_cmp (σ9.2.1 585 0) (x4 : Int32).toInt64) = 0 then (ys_law_1058 e 1049 v4 κ8 σ9 Q) else (Q (.inl (some (.inl 0))) κ8 σ9)) else (ys_law_1058 e 1049 v4 κ8 σ9 Q)) else (Q (.inl (some (.inl 0))) κ8 σ9)) (fun y10 κ11 σ12 => Q (.inr y10) κ11 σ12))) (fun y13 κ14 σ15 => Q (.inr y13) κ14 σ15)) := fun t => by
      refine fin t (fun x => ?_)
      rw [my_kI_v]
      refine r_213 ?_
      rw [my_kI_v, if_pos (show (my_uI σ 498 0 1).1 498 0 = 1 from rfl), if_neg (by decide)]
      exact hn
    unfold ys_370_57
    refine my_if (fun c => ?_) (fun c => my_if (fun c2 => absurd c2 c) (fun c2 => ?_))
    · exact gg 1
    · exact gg 1
  exact fin2
theorem l_13z {s : Ms} {u : Int32} (h : TRz cu As I s u σ) (hκ : 1 ≤ κ.2.1 ∧ 6 ≤ κ.2.2) (b1 : my_bd (v4 + 1) e.2.1) (hn : ∀ κ' σ', (κ' = κ ∨ κ' = (κ.1 + 1, κ.2.1 - 1, κ.2.2 - 6)) → eqp (fun c k => (c = 498 ∧ k = 0) ∨ (c = 585 ∧ k = 0)) σ σ' → ys_law_1663 e 1049 v4 κ' σ' Q) : ys_law_893 e 1049 v4 κ σ Q := by
  unfold ys_law_893
  refine ⟨b1, ys_388 ?_⟩
  unfold ys_388_0
  generalize e.2.2 (v4 + 1 : Int32).toNatClampNeg = x1
  refine c_29b h hκ (by omega) (fun hv => ?_) (fun x hv => ?_)
  · rw [my_kI_x, if_neg (show ¬ (14 : Nat) = 13 by decide), if_pos rfl, my_kI_v]
    refine ⟨b1, r_366b h (by omega) (fun _ σ1 u1 f1 x => ?_) (fun x hv' => by rw [hv] at hv'; cases hv')⟩
    rw [my_kI_v]
    refine r_213 ?_
    rw [my_kI_v, u1, if_pos rfl, if_neg (by decide)]
    exact hn _ σ1 (Or.inr rfl) (eqp_mo f1 (fun c k hh => Or.inl hh))
  · rw [my_kI_v, my_kI_v]
    generalize hy : x.toInt64 = y
    have f2 : eqp (fun c k => (c = 498 ∧ k = 0) ∨ (c = 585 ∧ k = 0)) σ (my_uL σ 585 0 y) := eqp_L eqp_rf (Or.inr ⟨rfl, rfl⟩)
    have u2 : (my_uL σ 585 0 y).2.1 585 0 = y := by rw [my_uL_2, if_pos ⟨rfl, rfl⟩]
    generalize my_uL σ 585 0 y = σ2 at f2 u2 ⊢
    refine ⟨b1, r_366b (TRz_o h f2 (fun c k hh => by omega)) (by omega) (fun hv' => by rw [hv] at hv'; cases hv') (fun x' hv' σ3 u3 f3 => ?_)⟩
    rw [hv] at hv'
    cases hv'
    rw [my_kI_v]
    refine r_213 ?_
    have u4 : σ3.2.1 585 0 = y := by rw [(f3 585 0 (by omega)).2.1]; exact u2
    rw [my_kI_v, u3, if_pos rfl, if_pos rfl, hy, if_pos (lg_cmp_0.mpr u4)]
    exact hn _ σ3 (Or.inl rfl) (eqp_tr f2 (eqp_mo f3 (fun c k hh => Or.inl hh)))
theorem l_13i (h : INVr cnt cu ol sp As I Bs I' σ) (ht : INVt σ) (hk : INVk cnt cu As I σ) (hκ : 1 ≤ κ.2.1 ∧ 6 ≤ κ.2.2) (b1 : my_bd (v4 + 1) e.2.1) (hn : ∀ κ' σ', (κ' = κ ∨ κ' = (κ.1 + 1, κ.2.1 - 1, κ.2.2 - 6)) → INVr cnt cu ol sp As I Bs I' σ' → INVt σ' → INVk cnt cu As I σ' → eqp rtF σ σ' → ys_law_1663 e 1049 v4 κ' σ' Q) : ys_law_893 e 1049 v4 κ σ Q := by
  have go : ∀ κ' σ', (κ' = κ ∨ κ' = (κ.1 + 1, κ.2.1 - 1, κ.2.2 - 6)) → eqp (fun c k => (c = 498 ∧ k = 0) ∨ (c = 585 ∧ k = 0)) σ σ' → ys_law_1663 e 1049 v4 κ' σ' Q := fun κ' σ' hk' f => hn κ' σ' hk' (INVr_o h f (fun c k hh => by unfold ivF coF olF; omega)) (INVt_o ht f (fun c k hh => by omega)) (INVk_o hk f (fun c k hh => by unfold ikF; omega)) (eqp_mo f (fun c k hh => by unfold rtF; omega))
  rcases TRz_of h hk with ⟨t1, t2⟩ | ⟨s, u, hz⟩
  · exact l_13 t1 t2 hκ.1 hκ.2 b1 (go _ _ (Or.inr rfl) (eqp_I eqp_rf (Or.inl ⟨rfl, rfl⟩)))
  · exact l_13z hz hκ b1 go
theorem l_14z {s : Ms} {u : Int32} (h : TRz cu As I s u σ) (hκ : 1 ≤ κ.2.1 ∧ 6 ≤ κ.2.2) (b1 : my_bd (v4 + 1) e.2.1) (hn : ∀ κ' σ', (κ' = κ ∨ κ' = (κ.1 + 1, κ.2.1 - 1, κ.2.2 - 6)) → eqp (fun c k => (c = 498 ∧ k = 0) ∨ (c = 585 ∧ k = 0)) σ σ' → ys_law_1663 e 1049 v4 κ' σ' Q) : ys_law_949 e 1049 v4 κ σ Q := by
  unfold ys_law_949
  refine ⟨b1, ys_389 ?_⟩
  unfold ys_389_0
  generalize e.2.2 (v4 + 1 : Int32).toNatClampNeg = x1
  refine c_30b h hκ (by omega) (fun hv => ?_) (fun x hv => ?_)
  · rw [my_kI_x, if_neg (show ¬ (15 : Nat) = 13 by decide), if_pos rfl, my_kI_v]
    refine ⟨b1, r_369b h (by omega) (fun _ σ1 u1 f1 x => ?_) (fun x hv' => by rw [hv] at hv'; cases hv')⟩
    rw [my_kI_v]
    refine r_213 ?_
    rw [my_kI_v, u1, if_pos rfl, if_neg (by decide)]
    exact hn _ σ1 (Or.inr rfl) (eqp_mo f1 (fun c k hh => Or.inl hh))
  · rw [my_kI_v, my_kI_v]
    generalize hy : x.toInt64 = y
    have f2 : eqp (fun c k => (c = 498 ∧ k = 0) ∨ (c = 585 ∧ k = 0)) σ (my_uL σ 585 0 y) := eqp_L eqp_rf (Or.inr ⟨rfl, rfl⟩)
    have u2 : (my_uL σ 585 0 y).2.1 585 0 = y := by rw [my_uL_2, if_pos ⟨rfl, rfl⟩]
    generalize my_uL σ 585 0 y = σ2 at f2 u2 ⊢
    refine ⟨b1, r_369b (TRz_o h f2 (fun c k hh => by omega)) (by omega) (fun hv' => by rw [hv] at hv'; cases hv') (fun x' hv' σ3 u3 f3 => ?_)⟩
    rw [hv] at hv'
    cases hv'
    rw [my_kI_v]
    refine r_213 ?_
    have u4 : σ3.2.1 585 0 = y := by rw [(f3 585 0 (by omega)).2.1]; exact u2
    rw [my_kI_v, u3, if_pos rfl, if_pos rfl, hy, if_pos (lg_cmp_0.mpr u4)]
    exact hn _ σ3 (Or.inl rfl) (eqp_tr f2 (eqp_mo f3 (fun c k hh => Or.inl hh)))
theorem l_14i (h : INVr cnt cu ol sp As I Bs I' σ) (ht : INVt σ) (hk : INVk cnt cu As I σ) (hκ : 1 ≤ κ.2.1 ∧ 6 ≤ κ.2.2) (b1 : my_bd (v4 + 1) e.2.1) (hn : ∀ κ' σ', (κ' = κ ∨ κ' = (κ.1 + 1, κ.2.1 - 1, κ.2.2 - 6)) → INVr cnt cu ol sp As I Bs I' σ' → INVt σ' → INVk cnt cu As I σ' → eqp rtF σ σ' → ys_law_1663 e 1049 v4 κ' σ' Q) : ys_law_949 e 1049 v4 κ σ Q := by
  have go : ∀ κ' σ', (κ' = κ ∨ κ' = (κ.1 + 1, κ.2.1 - 1, κ.2.2 - 6)) → eqp (fun c k => (c = 498 ∧ k = 0) ∨ (c = 585 ∧ k = 0)) σ σ' → ys_law_1663 e 1049 v4 κ' σ' Q := fun κ' σ' hk' f => hn κ' σ' hk' (INVr_o h f (fun c k hh => by unfold ivF coF olF; omega)) (INVt_o ht f (fun c k hh => by omega)) (INVk_o hk f (fun c k hh => by unfold ikF; omega)) (eqp_mo f (fun c k hh => by unfold rtF; omega))
  rcases TRz_of h hk with ⟨t1, t2⟩ | ⟨s, u, hz⟩
  · exact l_14 t1 t2 hκ.1 hκ.2 b1 (go _ _ (Or.inr rfl) (eqp_I eqp_rf (Or.inl ⟨rfl, rfl⟩)))
  · exact l_14z hz hκ b1 go
theorem l_15z {s : Ms} {u : Int32} (h : TRz cu As I s u σ) (hκ : 1 ≤ κ.2.1 ∧ 6 ≤ κ.2.2) (b1 : my_bd (v4 + 1) e.2.1) (hn : ∀ κ' σ', (κ' = κ ∨ κ' = (κ.1 + 1, κ.2.1 - 1, κ.2.2 - 6)) → eqp (fun c k => (c = 498 ∧ k = 0) ∨ (c = 585 ∧ k = 0)) σ σ' → ys_law_1663 e 1049 v4 κ' σ' Q) : ys_law_1005 e 1049 v4 κ σ Q := by
  unfold ys_law_1005
  refine ⟨b1, ys_390 ?_⟩
  unfold ys_390_0
  generalize e.2.2 (v4 + 1 : Int32).toNatClampNeg = x1
  refine c_31b h hκ (by omega) (fun hv => ?_) (fun x hv => ?_)
  · rw [my_kI_x, if_neg (show ¬ (15 : Nat) = 13 by decide), if_pos rfl, my_kI_v]
    refine ⟨b1, r_370b h (by omega) (fun _ σ1 u1 f1 x => ?_) (fun x hv' => by rw [hv] at hv'; cases hv')⟩
    rw [my_kI_v]
    refine r_213 ?_
    rw [my_kI_v, u1, if_pos rfl, if_neg (by decide)]
    exact hn _ σ1 (Or.inr rfl) (eqp_mo f1 (fun c k hh => Or.inl hh))
  · rw [my_kI_v, my_kI_v]
    generalize hy : x.toInt64 = y
    have f2 : eqp (fun c k => (c = 498 ∧ k = 0) ∨ (c = 585 ∧ k = 0)) σ (my_uL σ 585 0 y) := eqp_L eqp_rf (Or.inr ⟨rfl, rfl⟩)
    have u2 : (my_uL σ 585 0 y).2.1 585 0 = y := by rw [my_uL_2, if_pos ⟨rfl, rfl⟩]
    generalize my_uL σ 585 0 y = σ2 at f2 u2 ⊢
    refine ⟨b1, r_370b (TRz_o h f2 (fun c k hh => by omega)) (by omega) (fun hv' => by rw [hv] at hv'; cases hv') (fun x' hv' σ3 u3 f3 => ?_)⟩
    rw [hv] at hv'
    cases hv'
    rw [my_kI_v]
    refine r_213 ?_
    have u4 : σ3.2.1 585 0 = y := by rw [(f3 585 0 (by omega)).2.1]; exact u2
    rw [my_kI_v, u3, if_pos rfl, if_pos rfl, hy, if_pos (lg_cmp_0.mpr u4)]
    exact hn _ σ3 (Or.inl rfl) (eqp_tr f2 (eqp_mo f3 (fun c k hh => Or.inl hh)))
theorem l_15i (h : INVr cnt cu ol sp As I Bs I' σ) (ht : INVt σ) (hk : INVk cnt cu As I σ) (hκ : 1 ≤ κ.2.1 ∧ 6 ≤ κ.2.2) (b1 : my_bd (v4 + 1) e.2.1) (hn : ∀ κ' σ', (κ' = κ ∨ κ' = (κ.1 + 1, κ.2.1 - 1, κ.2.2 - 6)) → INVr cnt cu ol sp As I Bs I' σ' → INVt σ' → INVk cnt cu As I σ' → eqp rtF σ σ' → ys_law_1663 e 1049 v4 κ' σ' Q) : ys_law_1005 e 1049 v4 κ σ Q := by
  have go : ∀ κ' σ', (κ' = κ ∨ κ' = (κ.1 + 1, κ.2.1 - 1, κ.2.2 - 6)) → eqp (fun c k => (c = 498 ∧ k = 0) ∨ (c = 585 ∧ k = 0)) σ σ' → ys_law_1663 e 1049 v4 κ' σ' Q := fun κ' σ' hk' f => hn κ' σ' hk' (INVr_o h f (fun c k hh => by unfold ivF coF olF; omega)) (INVt_o ht f (fun c k hh => by omega)) (INVk_o hk f (fun c k hh => by unfold ikF; omega)) (eqp_mo f (fun c k hh => by unfold rtF; omega))
  rcases TRz_of h hk with ⟨t1, t2⟩ | ⟨s, u, hz⟩
  · exact l_15a t1 t2 hk.2.2.1 hκ.1 hκ.2 b1 (go _ _ (Or.inr rfl) (eqp_I eqp_rf (Or.inl ⟨rfl, rfl⟩)))
  · exact l_15z hz hκ b1 go
theorem l_16z {s : Ms} {u : Int32} (h : TRz cu As I s u σ) (hκ : 1 ≤ κ.2.1 ∧ 6 ≤ κ.2.2) (b1 : my_bd (v4 + 1) e.2.1) (hn : ∀ κ' σ', (κ' = κ ∨ κ' = (κ.1 + 1, κ.2.1 - 1, κ.2.2 - 6)) → eqp (fun c k => (c = 498 ∧ k = 0) ∨ (c = 585 ∧ k = 0)) σ σ' → ys_law_1663 e 1049 v4 κ' σ' Q) : ys_law_1061 e 1049 v4 κ σ Q := by
  unfold ys_law_1061
  refine ⟨b1, ys_391 ?_⟩
  unfold ys_391_0
  generalize e.2.2 (v4 + 1 : Int32).toNatClampNeg = x1
  refine c_32b h hκ (by omega) (fun hv => ?_) (fun x hv => ?_)
  · rw [my_kI_x, if_neg (show ¬ (15 : Nat) = 13 by decide), if_pos rfl, my_kI_v]
    refine ⟨b1, r_371b h (by omega) (fun _ σ1 u1 f1 x => ?_) (fun x hv' => by rw [hv] at hv'; cases hv')⟩
    rw [my_kI_v]
    refine r_213 ?_
    rw [my_kI_v, u1, if_pos rfl, if_neg (by decide)]
    exact hn _ σ1 (Or.inr rfl) (eqp_mo f1 (fun c k hh => Or.inl hh))
  · rw [my_kI_v, my_kI_v]
    generalize hy : x.toInt64 = y
    have f2 : eqp (fun c k => (c = 498 ∧ k = 0) ∨ (c = 585 ∧ k = 0)) σ (my_uL σ 585 0 y) := eqp_L eqp_rf (Or.inr ⟨rfl, rfl⟩)
    have u2 : (my_uL σ 585 0 y).2.1 585 0 = y := by rw [my_uL_2, if_pos ⟨rfl, rfl⟩]
    generalize my_uL σ 585 0 y = σ2 at f2 u2 ⊢
    refine ⟨b1, r_371b (TRz_o h f2 (fun c k hh => by omega)) (by omega) (fun hv' => by rw [hv] at hv'; cases hv') (fun x' hv' σ3 u3 f3 => ?_)⟩
    rw [hv] at hv'
    cases hv'
    rw [my_kI_v]
    refine r_213 ?_
    have u4 : σ3.2.1 585 0 = y := by rw [(f3 585 0 (by omega)).2.1]; exact u2
    rw [my_kI_v, u3, if_pos rfl, if_pos rfl, hy, if_pos (lg_cmp_0.mpr u4)]
    exact hn _ σ3 (Or.inl rfl) (eqp_tr f2 (eqp_mo f3 (fun c k hh => Or.inl hh)))
theorem l_16i (h : INVr cnt cu ol sp As I Bs I' σ) (ht : INVt σ) (hk : INVk cnt cu As I σ) (hκ : 1 ≤ κ.2.1 ∧ 6 ≤ κ.2.2) (b1 : my_bd (v4 + 1) e.2.1) (hn : ∀ κ' σ', (κ' = κ ∨ κ' = (κ.1 + 1, κ.2.1 - 1, κ.2.2 - 6)) → INVr cnt cu ol sp As I Bs I' σ' → INVt σ' → INVk cnt cu As I σ' → eqp rtF σ σ' → ys_law_1663 e 1049 v4 κ' σ' Q) : ys_law_1061 e 1049 v4 κ σ Q := by
  have go : ∀ κ' σ', (κ' = κ ∨ κ' = (κ.1 + 1, κ.2.1 - 1, κ.2.2 - 6)) → eqp (fun c k => (c = 498 ∧ k = 0) ∨ (c = 585 ∧ k = 0)) σ σ' → ys_law_1663 e 1049 v4 κ' σ' Q := fun κ' σ' hk' f => hn κ' σ' hk' (INVr_o h f (fun c k hh => by unfold ivF coF olF; omega)) (INVt_o ht f (fun c k hh => by omega)) (INVk_o hk f (fun c k hh => by unfold ikF; omega)) (eqp_mo f (fun c k hh => by unfold rtF; omega))
  rcases TRz_of h hk with ⟨t1, t2⟩ | ⟨s, u, hz⟩
  · exact l_16 t1 t2 hκ.1 hκ.2 b1 (go _ _ (Or.inr rfl) (eqp_I eqp_rf (Or.inl ⟨rfl, rfl⟩)))
  · exact l_16z hz hκ b1 go
theorem l_17z {s : Ms} {u : Int32} (h : TRz cu As I s u σ) (hκ : 1 ≤ κ.2.1 ∧ 6 ≤ κ.2.2) (b1 : my_bd (v4 + 1) e.2.1) (b2 : my_bd (v4 + 2) e.2.1) (hn : ∀ κ' σ', (κ' = κ ∨ κ' = (κ.1 + 1, κ.2.1 - 1, κ.2.2 - 6)) → eqp (fun c k => (c = 498 ∧ k = 0) ∨ (c = 585 ∧ k = 0)) σ σ' → ys_law_1663 e 1049 v4 κ' σ' Q) : ys_law_1117 e 1049 v4 κ σ Q := by
  unfold ys_law_1117
  refine ⟨b1, b2, ys_392 ?_⟩
  unfold ys_392_0
  generalize e.2.2 (v4 + 1 : Int32).toNatClampNeg = x1
  generalize e.2.2 (v4 + 2 : Int32).toNatClampNeg = x2
  refine c_33b h hκ (by omega) (fun hv => ?_) (fun x hv => ?_)
  · rw [my_kI_x, if_neg (show ¬ (15 : Nat) = 13 by decide), if_pos rfl, my_kI_v]
    refine ⟨b1, b2, r_372b h (by omega) (fun _ σ1 u1 f1 x => ?_) (fun x hv' => by rw [hv] at hv'; cases hv')⟩
    rw [my_kI_v]
    refine r_213 ?_
    rw [my_kI_v, u1, if_pos rfl, if_neg (by decide)]
    exact hn _ σ1 (Or.inr rfl) (eqp_mo f1 (fun c k hh => Or.inl hh))
  · rw [my_kI_v, my_kI_v]
    generalize hy : x.toInt64 = y
    have f2 : eqp (fun c k => (c = 498 ∧ k = 0) ∨ (c = 585 ∧ k = 0)) σ (my_uL σ 585 0 y) := eqp_L eqp_rf (Or.inr ⟨rfl, rfl⟩)
    have u2 : (my_uL σ 585 0 y).2.1 585 0 = y := by rw [my_uL_2, if_pos ⟨rfl, rfl⟩]
    generalize my_uL σ 585 0 y = σ2 at f2 u2 ⊢
    refine ⟨b1, b2, r_372b (TRz_o h f2 (fun c k hh => by omega)) (by omega) (fun hv' => by rw [hv] at hv'; cases hv') (fun x' hv' σ3 u3 f3 => ?_)⟩
    rw [hv] at hv'
    cases hv'
    rw [my_kI_v]
    refine r_213 ?_
    have u4 : σ3.2.1 585 0 = y := by rw [(f3 585 0 (by omega)).2.1]; exact u2
    rw [my_kI_v, u3, if_pos rfl, if_pos rfl, hy, if_pos (lg_cmp_0.mpr u4)]
    exact hn _ σ3 (Or.inl rfl) (eqp_tr f2 (eqp_mo f3 (fun c k hh => Or.inl hh)))
theorem l_17i (h : INVr cnt cu ol sp As I Bs I' σ) (ht : INVt σ) (hk : INVk cnt cu As I σ) (hκ : 1 ≤ κ.2.1 ∧ 6 ≤ κ.2.2) (b1 : my_bd (v4 + 1) e.2.1) (b2 : my_bd (v4 + 2) e.2.1) (hn : ∀ κ' σ', (κ' = κ ∨ κ' = (κ.1 + 1, κ.2.1 - 1, κ.2.2 - 6)) → INVr cnt cu ol sp As I Bs I' σ' → INVt σ' → INVk cnt cu As I σ' → eqp rtF σ σ' → ys_law_1663 e 1049 v4 κ' σ' Q) : ys_law_1117 e 1049 v4 κ σ Q := by
  have go : ∀ κ' σ', (κ' = κ ∨ κ' = (κ.1 + 1, κ.2.1 - 1, κ.2.2 - 6)) → eqp (fun c k => (c = 498 ∧ k = 0) ∨ (c = 585 ∧ k = 0)) σ σ' → ys_law_1663 e 1049 v4 κ' σ' Q := fun κ' σ' hk' f => hn κ' σ' hk' (INVr_o h f (fun c k hh => by unfold ivF coF olF; omega)) (INVt_o ht f (fun c k hh => by omega)) (INVk_o hk f (fun c k hh => by unfold ikF; omega)) (eqp_mo f (fun c k hh => by unfold rtF; omega))
  rcases TRz_of h hk with ⟨t1, t2⟩ | ⟨s, u, hz⟩
  · exact l_17 t1 t2 hκ.1 hκ.2 b1 b2 (go _ _ (Or.inr rfl) (eqp_I eqp_rf (Or.inl ⟨rfl, rfl⟩)))
  · exact l_17z hz hκ b1 b2 go
theorem l_18z {s : Ms} {u : Int32} (h : TRz cu As I s u σ) (hκ : 1 ≤ κ.2.1 ∧ 6 ≤ κ.2.2) (b1 : my_bd (v4 + 1) e.2.1) (b2 : my_bd (v4 + 2) e.2.1) (hn : ∀ κ' σ', (κ' = κ ∨ κ' = (κ.1 + 1, κ.2.1 - 1, κ.2.2 - 6)) → eqp (fun c k => (c = 498 ∧ k = 0) ∨ (c = 585 ∧ k = 0)) σ σ' → ys_law_1663 e 1049 v4 κ' σ' Q) : ys_law_1185 e 1049 v4 κ σ Q := by
  unfold ys_law_1185
  refine ⟨b1, b2, ys_393 ?_⟩
  unfold ys_393_0
  generalize e.2.2 (v4 + 1 : Int32).toNatClampNeg = x1
  generalize e.2.2 (v4 + 2 : Int32).toNatClampNeg = x2
  refine c_34b h hκ (by omega) (fun hv => ?_) (fun x hv h01 => ?_)
  · rw [my_kI_x, if_neg (show ¬ (15 : Nat) = 13 by decide), if_pos rfl, my_kI_v]
    refine ⟨b1, b2, r_373b h (by omega) (fun _ σ1 u1 f1 x => ?_) (fun x hv' => by rw [hv] at hv'; cases hv')⟩
    rw [my_kI_v]
    refine r_213 ?_
    rw [my_kI_v, u1, if_pos rfl, if_neg (by decide)]
    exact hn _ σ1 (Or.inr rfl) (eqp_mo f1 (fun c k hh => Or.inl hh))
  · rw [my_kI_v]
    have go : ∀ y : Int64, y = (if x = 0 then 0 else 1) → ys_393_16 e 1048 y 0 κ σ (my_kI (fun x1' κ2 σ3 => my_bd (v4 + 1) e.2.1 ∧ my_bd (v4 + 2) e.2.1 ∧ my_M e 1049 373 [.inr (.inr (some 498)), .inl x1, .inl x2] κ2 σ3 (my_kI (fun x4 κ5 σ6 => my_M e 1049 213 [.inr (.inr (some 498))] κ5 σ6 (my_kI (fun x7 κ8 σ9 => if x7 = x1' then (if x1' = 0 then (if x4 = 0 then (ys_law_1251 e 1049 v4 0 (σ9.2.1 585 0) κ8 σ9 Q) else (ys_law_1251 e 1049 v4 1 (σ9.2.1 585 0) κ8 σ9 Q)) else (ys_law_1257 e 1049 v4 κ8 σ9 Q)) else (Q (.inl (some (.inl 0))) κ8 σ9)) (fun y10 κ11 σ12 => Q (.inr y10) κ11 σ12))) (fun y13 κ14 σ15 => Q (.inr y13) κ14 σ15))) (fun y16 κ17 σ18 => Q (.inr y16) κ17 σ18)) := fun y hy => by
      unfold ys_393_16
      refine ⟨bdk (k := 0) (by omega) (by omega), ?_⟩
      rw [show (0 : Int32).toNatClampNeg = 0 from rfl]
      have f2 : eqp (fun c k => (c = 498 ∧ k = 0) ∨ (c = 585 ∧ k = 0)) σ (my_uL σ 585 0 y) := eqp_L eqp_rf (Or.inr ⟨rfl, rfl⟩)
      have u2 : (my_uL σ 585 0 y).2.1 585 0 = y := by rw [my_uL_2, if_pos ⟨rfl, rfl⟩]
      generalize my_uL σ 585 0 y = σ2 at f2 u2 ⊢
      rw [my_kI_v]
      refine ⟨b1, b2, r_373b (TRz_o h f2 (fun c k hh => by omega)) (by omega) (fun hv' => by rw [hv] at hv'; cases hv') (fun x' hv' σ3 u3 f3 => ?_)⟩
      rw [hv] at hv'
      cases hv'
      rw [my_kI_v]
      refine r_213 ?_
      have u4 : σ3.2.1 585 0 = y := by rw [(f3 585 0 (by omega)).2.1]; exact u2
      have fin := hn _ σ3 (Or.inl rfl) (eqp_tr f2 (eqp_mo f3 (fun c k hh => Or.inl hh)))
      rw [my_kI_v, u3, if_pos rfl, if_pos rfl]
      by_cases c : x = 0
      · rw [if_pos c] at hy ⊢
        unfold ys_law_1251
        rw [if_pos (lg_cmp_0.mpr (u4.trans hy))]
        exact fin
      · rw [if_neg c] at hy ⊢
        unfold ys_law_1251
        rw [if_pos (lg_cmp_0.mpr (u4.trans hy))]
        exact fin
    by_cases c : x = 0
    · rw [if_pos c]; exact go 0 (by rw [if_pos c])
    · rw [if_neg c]; exact go 1 (by rw [if_neg c])
theorem l_18i (h : INVr cnt cu ol sp As I Bs I' σ) (ht : INVt σ) (hk : INVk cnt cu As I σ) (hκ : 1 ≤ κ.2.1 ∧ 6 ≤ κ.2.2) (b1 : my_bd (v4 + 1) e.2.1) (b2 : my_bd (v4 + 2) e.2.1) (hn : ∀ κ' σ', (κ' = κ ∨ κ' = (κ.1 + 1, κ.2.1 - 1, κ.2.2 - 6)) → INVr cnt cu ol sp As I Bs I' σ' → INVt σ' → INVk cnt cu As I σ' → eqp rtF σ σ' → ys_law_1663 e 1049 v4 κ' σ' Q) : ys_law_1185 e 1049 v4 κ σ Q := by
  have go : ∀ κ' σ', (κ' = κ ∨ κ' = (κ.1 + 1, κ.2.1 - 1, κ.2.2 - 6)) → eqp (fun c k => (c = 498 ∧ k = 0) ∨ (c = 585 ∧ k = 0)) σ σ' → ys_law_1663 e 1049 v4 κ' σ' Q := fun κ' σ' hk' f => hn κ' σ' hk' (INVr_o h f (fun c k hh => by unfold ivF coF olF; omega)) (INVt_o ht f (fun c k hh => by omega)) (INVk_o hk f (fun c k hh => by unfold ikF; omega)) (eqp_mo f (fun c k hh => by unfold rtF; omega))
  rcases TRz_of h hk with ⟨t1, t2⟩ | ⟨s, u, hz⟩
  · exact l_18 t1 t2 hκ.1 hκ.2 b1 b2 (go _ _ (Or.inr rfl) (eqp_I eqp_rf (Or.inl ⟨rfl, rfl⟩)))
  · exact l_18z hz hκ b1 b2 go
end MOL
