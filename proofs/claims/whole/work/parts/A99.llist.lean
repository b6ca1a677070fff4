
/-! ===== listing, the law's ===== -/
section MLL
variable {e : my_E} {d : Nat} {κ : my_K} {σ : my_S} {Q : my_O → my_K → my_S → Prop} {As Bs : List Ri} {I I' : List It} {rv cnt cu ol sp : Nat} {v1 v2 v3 v4 : Int32}
theorem fkA_k : ∀ {m j k : Nat}, fkA As v1 v2 m j = some k → ∃ a, As[k]? = some a ∧ Int32.ofNat (kdf (riF a)) = v1
  | 0, j, k, h => by unfold fkA at h; cases h
  | m + 1, j, k, h => by
    unfold fkA at h
    cases ha : As[j]? with
    | none => rw [ha] at h; cases h
    | some a =>
      rw [ha] at h
      dsimp only at h
      split at h
      · rename_i hc
        cases h
        exact ⟨a, ha, hc.1⟩
      · exact fkA_k h
def liF (c k : Nat) : Prop := c = 43 ∧ k ≤ 2
theorem c_23b (he : fmO e) (h : LD As I rv σ) (hL : LOf As I) (hκ : 1 ≤ κ.2.1 ∧ 6 ≤ κ.2.2) (hd : 9 ≤ d)
    (hx : (fkA As v1 v2 As.length 0 = none ∨ v1 < 2 ∨ v3 < 0) → Q (.inr (κ.1, 15)) (κ.1 + 1, κ.2.1 - 1, κ.2.2 - 6) σ)
    (hQ : ∀ k a w σ', fkA As v1 v2 As.length 0 = some k → As[k]? = some a → 2 ≤ riF a → ¬ v1 < 2 → v3 = Int32.ofNat w → w < 2147483648 → eqp liF σ σ' → Q (.inl (some (.inl (wnt (lsS I (jO As k a) (riR a) 0 []) w)))) κ σ') : my_M e d 23 [.inr (.inr (some 32)), .inl v1, .inl v2, .inl v3] κ σ Q := by
  obtain ⟨d, rfl⟩ := dS 2 (show 2 ≤ d by omega)
  refine ys_23 ?_
  unfold ys_23_0
  refine c_17b h hκ (by omega) (fun hn => ?_) (fun k hk => ?_)
  · rw [my_kA_x]; exact hx (Or.inl hn)
  rw [my_kA_v]
  obtain ⟨a, ha, hka⟩ := fkA_k hk
  have hF := (h.1.2 a (List.mem_of_getElem? ha)).1
  have hlt := kdf_lt hF
  have go : 2 ≤ riF a → ¬ v1 < 2 → ys_23_28 e (d + 1) v3 (some (rv + 4 + 3 * k)) κ σ Q := fun h2 hv1 => by
    unfold ys_23_28
    refine ys_18 ?_
    unfold ys_18_0
    refine my_if (fun c => ?_) (fun c => ?_)
    · rw [my_k0_x]
      exact ⟨⟨by omega, hκ.1, hκ.2⟩, hx (Or.inr (Or.inr c))⟩
    · rw [my_k0_v, h.2.2.2.2.2.1]
      obtain ⟨w, hw, hw2⟩ := nn_of c
      rw [hw]
      refine s_102 he (CDO_of hL ha h2) h hw2 (by omega) (fun σ' f => ?_)
      rw [my_kI_v]
      exact hQ k a w σ' hk ha h2 hv1 hw hw2 f
  have kd : ∀ {b : Nat}, b < 2147483648 → v1 = Int32.ofNat b → kdf (riF a) = b := fun hb hv => by
    rw [← hka] at hv
    exact (oN_e (by omega) hb).mp hv
  refine my_if (fun c => ?_) (fun c => my_if (fun c2 => ?_) (fun c2 => ?_))
  · have := kd (b := 2) (by omega) c
    exact go (by unfold kdf at this; split at this <;> omega) (by rw [c]; decide)
  · have := kd (b := 3) (by omega) c2
    exact go (by unfold kdf at this; split at this <;> omega) (by rw [c2]; decide)
  · refine ⟨⟨by omega, hκ.1, hκ.2⟩, hx (Or.inr (Or.inl ?_))⟩
    rw [← hka]
    refine (oN_lt1 (b := 2) (c := 2) rfl (by omega) (by omega)).mpr ?_
    have n2 : kdf (riF a) ≠ 2 := fun hh => c (by rw [← hka, hh]; rfl)
    have n3 : kdf (riF a) ≠ 3 := fun hh => c2 (by rw [← hka, hh]; rfl)
    omega
theorem r_347c {t : Int32} (h : LD As I rv σ) (ht : t = 1) (hd : 2 ≤ d) (hx : ∀ σ', σ'.1 498 0 = 2 → eqp (fun c k => c = 498 ∧ k = 0) σ σ' → Q (.inl (some (.inl (Int32.ofInt (-1))))) κ σ') : my_M e d 347 [.inr (.inr (some 498)), .inl v1, .inl v2, .inl t] κ σ Q := by
  obtain ⟨h1, h2, h3, h4, h5, h6, h7, h8⟩ := h
  obtain ⟨d, rfl⟩ := dS 2 (show 2 ≤ d by omega)
  refine ys_347 ?_
  unfold ys_347_0
  rw [if_neg h5]
  unfold ys_347_13
  rw [ht, if_neg (by decide)]
  unfold ys_347_30 ys_347_35
  refine r_215_2 ?_
  rw [my_kI_v, if_neg (by decide)]
  exact hx _ uI_s (eqp_I eqp_rf ⟨rfl, rfl⟩)
def rlF (c k : Nat) : Prop := (c = 498 ∧ k = 0) ∨ lsF c k
theorem r_355b (h : LD As I rv σ) (hL : LOf As I) (hw : cwR σ) (hd : 7 ≤ d)
    (hx : (fkA As v1 v2 As.length 0 = none ∨ v1 < 2 ∨ v3 < 0) → ∀ σ', σ'.1 498 0 = 2 → eqp (fun c k => c = 498 ∧ k = 0) σ σ' → Q (.inl (some (.inl 0))) κ σ')
    (hQ : ∀ k a w σ', fkA As v1 v2 As.length 0 = some k → As[k]? = some a → ¬ v1 < 2 → v3 = Int32.ofNat w → w < 2147483648 → σ'.1 498 0 = 0 → eqp rlF σ σ' → Q (.inl (some (.inl (wnt (lsS I (jO As k a) (riR a) 0 []) w)))) κ σ') : my_M e d 355 [.inr (.inr (some 498)), .inl v1, .inl v2, .inl v3] κ σ Q := by
  obtain ⟨d, rfl⟩ := dS 1 (show 1 ≤ d by omega)
  have bad : (fkA As v1 v2 As.length 0 = none ∨ v1 < 2 ∨ v3 < 0) → ys_355_12 e d v3 v2 v1 κ σ Q := fun hb => by
    unfold ys_355_12 ys_355_17
    refine r_347c h rfl (by omega) (fun σ1 u1 f1 => ?_)
    rw [my_kI_v, if_pos (by decide)]
    exact hx hb σ1 u1 f1
  refine ys_355 ?_
  unfold ys_355_0
  refine my_if (fun c => bad (Or.inr (Or.inr c))) (fun c => my_if (fun c2 => bad (Or.inr (Or.inl c2))) (fun c2 => ?_))
  unfold ys_355_17
  refine r_347b h (by omega) (fun hn σ1 u1 f1 => ?_) (fun k σ1 hk u1 f1 => ?_)
  · rw [my_kI_v, if_pos (by decide)]
    exact hx (Or.inl hn) σ1 u1 f1
  obtain ⟨a, ha, hka⟩ := fkA_k hk
  have hF := (h.1.2 a (List.mem_of_getElem? ha)).1
  have hlt := kdf_lt hF
  have h42 := itsB_42 h.1
  have hkA := fkA_lt hk
  have h2 : 2 ≤ riF a := by
    have : ¬ kdf (riF a) < 2 := fun hh => c2 (by rw [← hka]; exact (oN_lt1 (b := 2) (c := 2) rfl (by omega) (by omega)).mpr hh)
    unfold kdf at this
    split at this <;> omega
  have hc := CDO_of hL ha h2
  have ld1 : LD As I rv σ1 := LD_o (LD_30 h) h f1 (fun c k hh => by
    have := h.2.2.1
    unfold coF
    omega)
  have cw1 : cwR σ1 := fun c h1 h2 => ((f1 575 c (by omega)).2.1).trans (hw c h1 h2)
  rw [my_kI_v, if_neg (oN_0 (by omega))]
  refine w_356 hc ld1 cw1 (by omega) (fun σ2 g2 f2 => ?_)
  have f12 : eqp rlF σ σ2 := eqp_tr (eqp_mo f1 (fun _ _ hh => Or.inl hh)) (eqp_mo f2 (fun _ _ hh => Or.inr hh))
  have u2 : σ2.1 498 0 = 0 := (eqp_g f2 (by unfold lsF; omega)).trans u1
  obtain ⟨w, hw1, hw2⟩ := nn_of c
  have fin := hQ k a w σ2 hk ha c2 hw1 hw2 u2 f12
  have hcl := code_l hc
  have h61 := h.2.2.2.2.2.2.1.2.2.2.1
  have hll := lsS_l (I := I) (J := jO As k a) (N := []) (p := 0) hc.2.2.1 (by omega)
  have h15 := hc.2.2.2.2.2
  rw [my_k0_v, g2.1, hw1]
  generalize lsS I (jO As k a) (riR a) 0 [] = Z at *
  refine my_if (fun cc => ?_) (fun cc => ?_)
  · have cc := (oN_lt hw2 (by omega)).mp cc
    rw [oN_n hw2]
    have hz := List.getElem?_eq_getElem cc
    rw [g2.2 w _ hz]
    refine ⟨bdk (by omega) (by omega), ?_⟩
    unfold ys_355_53
    unfold wnt at fin
    rw [hz] at fin
    exact fin
  · have cc : ¬ w < Z.length := fun hh => cc ((oN_lt hw2 (by omega)).mpr hh)
    unfold ys_355_53
    unfold wnt at fin
    rw [List.getElem?_eq_none (by omega)] at fin
    exact fin
def l8F (c k : Nat) : Prop := rtF c k ∨ liF c k ∨ lsF c k
theorem l_8b (he : fmO e) (h : LD As I rv σ) (hL : LOf As I) (hw : cwR σ) (hκ : 1 ≤ κ.2.1 ∧ 6 ≤ κ.2.2) (b1 : my_bd (v4 + 1) e.2.1) (b2 : my_bd (v4 + 2) e.2.1) (b3 : my_bd (v4 + 3) e.2.1) (hn : ∀ κ' σ', (κ' = κ ∨ κ' = (κ.1 + 1, κ.2.1 - 1, κ.2.2 - 6)) → eqp l8F σ σ' → ys_law_1663 e 1049 v4 κ' σ' Q) : ys_law_597 e 1049 v4 κ σ Q := by
  unfold ys_law_597
  refine ⟨b1, b2, b3, ys_383 ?_⟩
  unfold ys_383_0
  generalize e.2.2 (v4 + 1 : Int32).toNatClampNeg = x1
  generalize e.2.2 (v4 + 2 : Int32).toNatClampNeg = x2
  generalize e.2.2 (v4 + 3 : Int32).toNatClampNeg = x3
  refine c_23b he h hL hκ (by omega) (fun hb => ?_) (fun k a w σ1 hk ha h2 hv1 hw1 hw2 f1 => ?_)
  · rw [my_kI_x, if_neg (show ¬ (15 : Nat) = 13 by decide), if_pos rfl, my_kI_v]
    refine ⟨b1, b2, b3, r_355b h hL hw (by omega) (fun _ σ1 u1 f1 => ?_) (fun k a w σ1 hk ha hv1 hw1 hw2 => ?_)⟩
    · rw [my_kI_v]
      refine r_213 ?_
      rw [my_kI_v, u1, if_pos rfl, if_neg (by decide)]
      unfold ys_law_674
      exact hn _ σ1 (Or.inr rfl) (eqp_mo f1 (fun _ _ hh => Or.inl (Or.inl hh)))
    · exfalso
      rcases hb with hb | hb | hb
      · rw [hk] at hb; cases hb
      · exact hv1 hb
      · rw [hw1] at hb; exact absurd hb (oN_0 hw2)
  · rw [my_kI_v, my_kI_v]
    generalize hy : wnt (lsS I (jO As k a) (riR a) 0 []) w = y
    have f0 : eqp l8F σ (my_uL σ1 585 0 y.toInt64) := eqp_L (eqp_mo f1 (fun _ _ hh => Or.inr (Or.inl hh))) (Or.inl (Or.inr ⟨rfl, rfl⟩))
    have u0 : (my_uL σ1 585 0 y.toInt64).2.1 585 0 = y.toInt64 := by
      rw [my_uL_2, if_pos ⟨rfl, rfl⟩]
    generalize my_uL σ1 585 0 y.toInt64 = σ0 at f0 u0 ⊢
    have h' : LD As I rv σ0 := LD_o (LD_30 h) h f0 (fun c k hh => by
      have := h.2.2.1
      unfold l8F rtF liF lsF at hh
      unfold coF
      omega)
    have cw' : cwR σ0 := fun c h1 h2 => ((f0 575 c (by unfold l8F rtF liF lsF; omega)).2.1).trans (hw c h1 h2)
    refine ⟨b1, b2, b3, r_355b h' hL cw' (by omega) (fun hb => ?_) (fun k' a' w' σ2 hk' ha' _ hw1' hw2' u2 f2 => ?_)⟩
    · exfalso
      rcases hb with hb | hb | hb
      · rw [hk] at hb; cases hb
      · exact hv1 hb
      · rw [hw1] at hb; exact absurd hb (oN_0 hw2)
    · rw [hk] at hk'
      cases hk'
      rw [ha] at ha'
      cases ha'
      have hww : w' = w := by
        rw [hw1] at hw1'
        exact ((oN_e hw2 hw2').mp hw1').symm
      subst hww
      rw [my_kI_v]
      refine r_213 ?_
      rw [my_kI_v, u2, if_pos rfl, if_pos rfl, hy]
      have u3 : σ2.2.1 585 0 = y.toInt64 := by rw [← u0]; exact (f2 _ _ (by unfold rlF lsF; omega)).2.1
      rw [if_pos (lg_cmp_0.mpr u3)]
      unfold ys_law_674
      exact hn _ σ2 (Or.inl rfl) (eqp_tr f0 (eqp_mo f2 (fun c k hh => by unfold rlF lsF at hh; unfold l8F rtF lsF; omega)))
theorem l8F_iv {c k : Nat} (h : l8F c k) : ivF c k := by
  unfold l8F rtF liF lsF at h
  unfold ivF coF olF
  omega
theorem l_8i (he : fmO e) (h : INVr cnt cu ol sp As I Bs I' σ) (ht : INVt σ) (hw : cwR σ) (hκ : 1 ≤ κ.2.1 ∧ 6 ≤ κ.2.2) (b1 : my_bd (v4 + 1) e.2.1) (b2 : my_bd (v4 + 2) e.2.1) (b3 : my_bd (v4 + 3) e.2.1) (hn : ∀ κ' σ', (κ' = κ ∨ κ' = (κ.1 + 1, κ.2.1 - 1, κ.2.2 - 6)) → INVr cnt cu ol sp As I Bs I' σ' → INVt σ' → cwR σ' → eqp l8F σ σ' → ys_law_1663 e 1049 v4 κ' σ' Q) : ys_law_597 e 1049 v4 κ σ Q := by
  have go : ∀ κ' σ', (κ' = κ ∨ κ' = (κ.1 + 1, κ.2.1 - 1, κ.2.2 - 6)) → eqp l8F σ σ' → ys_law_1663 e 1049 v4 κ' σ' Q := fun κ' σ' hk f => hn κ' σ' hk (INVr_o h f (fun _ _ => l8F_iv)) (INVt_o ht f (fun c k hh => by unfold l8F rtF liF lsF at hh; omega)) (fun c h1 h2 => ((f 575 c (by unfold l8F rtF liF lsF; omega)).2.1).trans (hw c h1 h2)) f
  by_cases hc : cnt = 0
  · exact l_8 (by rw [h.1.1, hc]; rfl) (by rw [h.1.2.1, hc]; rfl) hκ.1 hκ.2 b1 b2 b3 (go _ _ (Or.inr rfl) (eqp_I eqp_rf (Or.inl (Or.inl ⟨rfl, rfl⟩))))
  · exact l_8b he (INVr_LD h (by omega)) (h.2.2.2.2.2.1 (by omega)).1 hw hκ b1 b2 b3 go
end MLL
