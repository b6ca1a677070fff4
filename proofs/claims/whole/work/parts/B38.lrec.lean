
/-! ===== record of the law ===== -/
def rcA (E : List Et) (As : List Ri) (I : List It) (k : Nat) (a : Ri) (C : List Int32) (v : Int32) : Option Int32 := if v = 0 then some (Int32.ofNat (g1 C 0)) else if v = 1 then some (if g1 C 0 = 1 then Int32.ofNat (g1 C 3) else Int32.ofInt (-1)) else if v = 2 then some (Int32.ofNat (g2 C 4)) else if v = 3 then some (Int32.ofNat (g1 C 10)) else if v = 4 then some (Int32.ofNat (g2 C 6)) else if v = 5 then some (if rsn E As I k a = 0 then 1 else 0) else none
section MLQ
variable {As Bs : List Ri} {I I' : List It} {cnt cu ol sp A : Nat} {e : my_E} {d : Nat} {κ : my_K} {σ σ' : my_S} {Q : my_O → my_K → my_S → Prop} {E : List Et} {v4 : Int32}
theorem g1_1 {C : List Int32} {i : Nat} : Int32.ofNat (g1 C i) = 1 ↔ g1 C i = 1 := by
  have := g1_lt C i
  exact oN_e (b := 1) (by omega) (by omega)
/-- the item's name, the class's -/
theorem cl_nm {k : Nat} {a : Ri} (h : LD As I cu σ) (ha : As[k]? = some a) : σ.2.1 (cu + 4 + 3 * k) 4 = nmC (riN a) ∧ k < 42 := by
  have h42 := itsB_42 h.1
  have hkA := (List.getElem?_eq_some_iff.mp ha).1
  have hkI : k < I.length := by rw [h.2.1.1]; exact hkA
  obtain ⟨b', hb', hio⟩ := iRel_a2 h.2.1 hkI
  rw [ha] at hb'
  cases hb'
  obtain ⟨z1, z2, _⟩ := h.2.2.2.2.2.2.1.1.2.2.2 k _ (itA_e hkI)
  rw [hio.1] at z2
  exact ⟨z2, by omega⟩
theorem c_157 {nm : List Nat} (hS : LVs A E σ) (hl : isN nm) (hd : 6 ≤ d) (hx : lrc (rcp E) nm (rcp E).length = none → Q (.inl (some (.inl 0))) κ σ) (hQ : ∀ y, lrc (rcp E) nm (rcp E).length = some y → ∀ σ', OcC (eC y.2) σ' → eqp oF σ σ' → Q (.inl (some (.inl 1))) κ σ') : my_M e d 157 [.inr (.inr (some 89)), .inr (.inl (nmC nm))] κ σ Q := by
  obtain ⟨d, rfl⟩ := dS 1 (show 1 ≤ d by omega)
  refine ys_157 ?_
  unfold ys_157_0
  refine c_155 hS (by omega) ?_
  rw [my_kA_v]
  refine ⟨A, rfl, in8 hS.1, c_172 hS.1 hS.2.1 hS.2.2.2.1 hl (by omega) (fun hn => ?_) (fun y hn σ1 o1 f1 => ?_)⟩
  · rw [my_kI_v]; exact ⟨Or.inl rfl, hx hn⟩
  · rw [my_kI_v]; exact ⟨Or.inr rfl, hQ y hn σ1 o1 f1⟩
theorem c_41 {k : Nat} {a : Ri} (h : LD As I cu σ) (hS : LVs A E σ) (ha : As[k]? = some a) (hκ : 1 ≤ κ.2.1 ∧ 6 ≤ κ.2.2) (hd : 7 ≤ d) (hx : lrc (rcp E) (riN a) (rcp E).length = none → Q (.inr (κ.1, 17)) (κ.1 + 1, κ.2.1 - 1, κ.2.2 - 6) σ) (hQ : ∀ y, lrc (rcp E) (riN a) (rcp E).length = some y → ∀ σ', OcC (eC y.2) σ' → eqp oF σ σ' → Q (.inl (some (.inr (.inr (some 92))))) κ σ') : my_M e d 41 [.inr (.inr (some 32)), .inr (.inr (some (cu + 4 + 3 * k)))] κ σ Q := by
  obtain ⟨d, rfl⟩ := dS 1 (show 1 ≤ d by omega)
  obtain ⟨z2, hk42⟩ := cl_nm h ha
  refine ys_41 ?_
  unfold ys_41_0
  refine ⟨_, rfl, in11 h.2.2.1 hk42, ?_⟩
  rw [z2]
  refine c_157 hS (h.1.2 a (List.mem_of_getElem? ha)).2.1 (by omega) (fun hn => ?_) (fun y hn σ1 o1 f1 => ?_)
  · rw [my_kI_v, if_pos rfl]; exact ⟨⟨by omega, hκ⟩, hx hn⟩
  · rw [my_kI_v, if_neg (by decide)]; exact hQ y hn σ1 o1 f1
theorem c_40y {k : Nat} {a : Ri} {v w : Int32} (h : LD As I cu σ) (hS : LVs A E σ) (hf : fkA As 3 v As.length 0 = some k) (ha : As[k]? = some a) (hκ : 1 ≤ κ.2.1 ∧ 6 ≤ κ.2.2) (hd : 8 ≤ d) (hx : lrc (rcp E) (riN a) (rcp E).length = none → Q (.inr (κ.1, 17)) (κ.1 + 1, κ.2.1 - 1, κ.2.2 - 6) σ) (hy : ∀ y, lrc (rcp E) (riN a) (rcp E).length = some y → rcA E As I k a (eC y.2) w = none → ∀ σ', eqp oF σ σ' → Q (.inr (κ.1, 14)) (κ.1 + 1, κ.2.1 - 1, κ.2.2 - 6) σ') (hQ : ∀ y x, lrc (rcp E) (riN a) (rcp E).length = some y → rcA E As I k a (eC y.2) w = some x → ∀ σ', eqp oF σ σ' → Q (.inl (some (.inl x))) κ σ') : my_M e d 40 [.inr (.inr (some 32)), .inl v, .inl w] κ σ Q := by
  obtain ⟨d, rfl⟩ := dS 1 (show 1 ≤ d by omega)
  refine ys_40 ?_
  unfold ys_40_0
  refine c_17b h hκ (by omega) (fun hf' => by rw [hf] at hf'; cases hf') (fun k' hf' => ?_)
  rw [hf] at hf'
  cases hf'
  rw [my_kA_v]
  refine c_41 h hS ha hκ (by omega) (fun hn => ?_) (fun y hn σ1 o1 f1 => ?_)
  · rw [my_kA_x]; exact hx hn
  have hy := hy y hn
  have hQ := fun x => hQ y x hn
  rw [my_kA_v]
  unfold rcA at hy hQ
  have i9 : ∃ a28, (some 92 : Option Nat) = some a28 ∧ my_in 9 a28 ∧ a28 = 92 := ⟨92, rfl, in9, rfl⟩
  by_cases c0 : w = 0
  · rw [if_pos c0] at hQ ⊢
    refine ⟨92, rfl, in9, ?_⟩
    rw [o1.1.1]
    exact hQ _ rfl σ1 f1
  rw [if_neg c0] at hy hQ ⊢
  by_cases c1 : w = 1
  · rw [if_pos c1] at hQ ⊢
    refine ⟨92, rfl, in9, ?_⟩
    have hQ := hQ _ rfl σ1 f1
    rw [o1.1.1]
    unfold ys_40_76
    refine my_if (fun c => ⟨92, rfl, in9, ?_⟩) (fun c => ?_)
    · rw [if_pos (g1_1.mp c)] at hQ
      rw [o1.1.2.2.1]
      exact hQ
    · rw [if_neg (fun hh => c (g1_1.mpr hh))] at hQ
      exact hQ
  rw [if_neg c1] at hy hQ ⊢
  by_cases c2 : w = 2
  · rw [if_pos c2] at hQ ⊢
    refine ⟨92, rfl, in9, ?_⟩
    rw [o1.1.2.2.2.1]
    exact hQ _ rfl σ1 f1
  rw [if_neg c2] at hy hQ ⊢
  by_cases c3 : w = 3
  · rw [if_pos c3] at hQ ⊢
    refine ⟨92, rfl, in9, ?_⟩
    rw [o1.2.1]
    exact hQ _ rfl σ1 f1
  rw [if_neg c3] at hy hQ ⊢
  by_cases c4 : w = 4
  · rw [if_pos c4] at hQ ⊢
    refine ⟨92, rfl, in9, ?_⟩
    rw [o1.1.2.2.2.2.1]
    exact hQ _ rfl σ1 f1
  rw [if_neg c4] at hy hQ ⊢
  by_cases c5 : w = 5
  · rw [if_pos c5] at hQ ⊢
    have f1' : eqp skF σ σ1 := eqp_mo f1 (fun c k hh => by unfold skF; omega)
    have ld1 := LD_r h f1'
    rw [ld1.2.2.2.2.2.1]
    refine c_154 ld1 (LVs_r hS f1') ha (by omega) (fun σ2 _ _ _ f2 => ?_)
    have hQ := hQ _ rfl σ2 (eqp_tr f1 f2)
    rw [my_kI_v]
    unfold ys_40_115
    refine my_if (fun c => ?_) (fun c => ?_)
    · rw [if_pos c] at hQ; exact hQ
    · rw [if_neg c] at hQ; exact hQ
  rw [if_neg c5] at hy ⊢
  exact ⟨⟨by omega, hκ⟩, hy rfl σ1 f1⟩
theorem r_343y {k : Nat} {a : Ri} {v : Int32} (h : LD As I cu σ) (hS : LVs A E σ) (hf : fkA As 3 v As.length 0 = some k) (ha : As[k]? = some a) (hd : 7 ≤ d) (hx : lrc (rcp E) (riN a) (rcp E).length = none → ∀ σ', σ'.1 498 0 = 3 → eqp (fun c k => (c = 498 ∧ k = 0) ∨ plF c k) σ σ' → Q (.inl (some (.inl (Int32.ofInt (-1))))) κ σ') (hQ : ∀ y, lrc (rcp E) (riN a) (rcp E).length = some y → ∀ σ', σ'.1 498 0 = 0 → PrR E σ' → eqp (fun c k => (c = 498 ∧ k = 0) ∨ plF c k) σ σ' → Q (.inl (some (.inl (Int32.ofNat y.1)))) κ σ') : my_M e d 343 [.inr (.inr (some 498)), .inl v] κ σ Q := by
  obtain ⟨d, rfl⟩ := dS 1 (show 1 ≤ d by omega)
  refine ys_343 ?_
  unfold ys_343_0
  refine r_340b h (by omega) (fun hf' => by rw [hf] at hf'; cases hf') (fun _ _ σ3 u3 f3 => ?_)
  have f23 : eqp skF σ σ3 := eqp_mo f3 (fun c k hh => Or.inl hh)
  rw [my_kI_v, if_pos rfl]
  refine r_341 (LD_r h f23) (LVs_r hS f23) hf ha (by omega) (fun σ4 p4 ld4 ls4 f4 => ?_)
  have f5 : ∀ t : Int32, eqp (fun c k => (c = 498 ∧ k = 0) ∨ plF c k) σ (my_uI σ4 498 0 t) := fun t => eqp_I (eqp_tr (eqp_mo f3 (fun c k hh => Or.inl hh)) (eqp_mo f4 (fun c k hh => Or.inr hh))) (Or.inl ⟨rfl, rfl⟩)
  rw [my_kI_v]
  unfold ys_343_26
  cases hl : lrc (rcp E) (riN a) (rcp E).length with
  | none =>
    rw [if_pos (show fP none < 0 by decide)]
    exact hx hl _ uI_s (f5 3)
  | some y =>
    have hym := (lrc_m hl).1
    obtain ⟨r1, r2, _⟩ := rec_w hS.2.1 hym
    have hp := (pse_b r1).2
    have hw := hS.2.1.2
    rw [if_neg (show ¬ fP (some y) < 0 from oN_0 (p := y.1) (by omega))]
    have f6 : eqp (fun c k => c = 498 ∧ k = 0) σ4 (my_uI σ4 498 0 0) := eqp_I eqp_rf ⟨rfl, rfl⟩
    exact hQ y hl _ uI_s (PrR_o p4 f6 (fun c k hh => by omega)) (f5 0)
theorem r_342y {k : Nat} {a : Ri} {v w : Int32} (h : LD As I cu σ) (hU : nmU As) (hS : LVs A E σ) (hf : fkA As 3 v As.length 0 = some k) (ha : As[k]? = some a) (hd : 8 ≤ d) (hx : lrc (rcp E) (riN a) (rcp E).length = none → ∀ σ' x, σ'.1 498 0 = 3 → eqp (fun c k => (c = 498 ∧ k = 0) ∨ plF c k) σ σ' → Q (.inl (some (.inl x))) κ σ') (hy : ∀ y, lrc (rcp E) (riN a) (rcp E).length = some y → rcA E As I k a (eC y.2) w = none → ∀ σ' x, σ'.1 498 0 = 4 → eqp (fun c k => (c = 498 ∧ k = 0) ∨ plF c k) σ σ' → Q (.inl (some (.inl x))) κ σ') (hQ : ∀ y x, lrc (rcp E) (riN a) (rcp E).length = some y → rcA E As I k a (eC y.2) w = some x → ∀ σ', σ'.1 498 0 = 0 → eqp (fun c k => (c = 498 ∧ k = 0) ∨ plF c k) σ σ' → Q (.inl (some (.inl x))) κ σ') : my_M e d 342 [.inr (.inr (some 498)), .inl v, .inl w] κ σ Q := by
  obtain ⟨d, rfl⟩ := dS 1 (show 1 ≤ d by omega)
  refine ys_342 ?_
  unfold ys_342_0
  refine r_343y h hS hf ha (by omega) (fun hn σ1 u1 f1 => ?_) (fun y hn σ1 u1 p1 f1 => ?_)
  · rw [my_kI_v, if_pos (by decide)]
    exact hx hn σ1 _ u1 f1
  have hy := hy y hn
  have hQ := fun x hh => hQ y x hn hh σ1 u1 f1
  have hym := (lrc_m hn).1
  obtain ⟨r1, r2, r3, r4, r5, r6⟩ := rec_w hS.2.1 hym
  have hp := (pse_b r1).2
  have hw := hS.2.1.2
  have f1' : eqp skF σ σ1 := eqp_mo f1 (fun c k hh => by unfold skF; rcases hh with hh | hh; exact Or.inl hh; exact Or.inr (Or.inr (Or.inl hh)))
  have ld1 := LD_r h f1'
  have ls1 := LVs_r hS f1'
  have hR := ls1.2.2.2.2.1
  rw [my_kI_v, if_neg (oN_0 (by omega))]
  refine r_289 hS.2.1 hR r1 (by omega) ?_
  rw [my_kI_v]
  have e0 := lr_c (i := 0) hR r1 (by omega)
  have e3 := lr_c (i := 3) hR r1 (by omega)
  rw [Nat.add_zero] at e0
  unfold rcA at hy hQ
  have b0 : my_bd (Int32.ofNat (y.1 + 1 + (eN y.2).length)) 7800 := bdk (by omega) (by omega)
  by_cases c0 : w = 0
  · rw [if_pos c0] at hQ ⊢
    rw [oN_n (by omega), e0]
    exact ⟨b0, hQ _ rfl⟩
  rw [if_neg c0] at hy hQ ⊢
  by_cases c1 : w = 1
  · rw [if_pos c1] at hQ ⊢
    have hQ := hQ _ rfl
    rw [oN_n (by omega), e0]
    refine ⟨b0, ?_⟩
    unfold ys_342_92
    refine my_if (fun c => ?_) (fun c => ?_)
    · rw [if_pos (g1_1.mp c)] at hQ
      rw [show (3 : Int32) = Int32.ofNat 3 from rfl, oN_a, oN_n (by omega), e3]
      exact ⟨bdk (by omega) (by omega), hQ⟩
    · rw [if_neg (fun hh => c (g1_1.mpr hh))] at hQ
      exact hQ
  rw [if_neg c1] at hy hQ ⊢
  by_cases c2 : w = 2
  · rw [if_pos c2] at hQ ⊢
    refine r_285y hS.2.1 hR r1 (show 4 + 1 < _ by omega) (oN_a _ 4) (by omega) ?_
    rw [my_kI_v]
    exact hQ _ rfl
  rw [if_neg c2] at hy hQ ⊢
  by_cases c3 : w = 3
  · rw [if_pos c3] at hQ ⊢
    refine r_293 hS.2.1 hR r1 (by omega) (by omega) ?_
    rw [my_kI_v]
    exact hQ _ rfl
  rw [if_neg c3] at hy hQ ⊢
  by_cases c4 : w = 4
  · rw [if_pos c4] at hQ ⊢
    refine r_285y hS.2.1 hR r1 (show 6 + 1 < _ by omega) (oN_a _ 6) (by omega) ?_
    rw [my_kI_v]
    exact hQ _ rfl
  rw [if_neg c4] at hy hQ ⊢
  by_cases c5 : w = 5
  · rw [if_pos c5] at hQ ⊢
    have hQ := hQ _ rfl
    have hh := rsn_h (I := I) hU hS.2.1 hS.2.2.1 ha
    rw [hn] at hh
    refine r_288 (o := some y) ld1 hS.2.1 hR p1 (fun y' hy' => by cases hy'; exact hym) (by omega) ?_
    rw [my_kI_v]
    unfold ys_342_131
    by_cases c : rsn E As I k a = 0
    · rw [if_pos c] at hQ
      rw [hh.mpr c, if_neg (by decide)]
      exact hQ
    · rw [if_neg c] at hQ
      have : hD E As I (some y) = false := by
        cases hb : hD E As I (some y) with
        | false => rfl
        | true => exact absurd (hh.mp hb) c
      rw [this, if_pos (show bI false = 0 from rfl)]
      exact hQ
  rw [if_neg c5] at hy ⊢
  exact hy rfl _ _ uI_s (eqp_I f1 (Or.inl ⟨rfl, rfl⟩))
theorem l_23z (h : LD As I cu σ) (hU : nmU As) (hS : LVs A E σ) (hκ : 1 ≤ κ.2.1 ∧ 6 ≤ κ.2.2) (b1 : my_bd (v4 + 1) e.2.1) (b2 : my_bd (v4 + 2) e.2.1) (hn : ∀ κ' σ', (κ' = κ ∨ κ' = (κ.1 + 1, κ.2.1 - 1, κ.2.2 - 6)) → eqp skF σ σ' → ys_law_1663 e 1049 v4 κ' σ' Q) : ys_law_1508 e 1049 v4 κ σ Q := by
  unfold ys_law_1508
  refine ⟨b1, b2, ys_398 ?_⟩
  unfold ys_398_0
  generalize e.2.2 (v4 + 1 : Int32).toNatClampNeg = x1
  generalize e.2.2 (v4 + 2 : Int32).toNatClampNeg = x2
  have toS : ∀ {σ1 σ2 : my_S}, eqp skF σ σ1 → eqp (fun c k => (c = 498 ∧ k = 0) ∨ plF c k) σ1 σ2 → eqp skF σ σ2 := fun f1 f2 => eqp_tr f1 (eqp_mo f2 (fun c k hh => by unfold skF; rcases hh with hh | hh; exact Or.inl hh; exact Or.inr (Or.inr (Or.inl hh))))
  cases hf : fkA As 3 x1 As.length 0 with
  | none =>
    refine ys_40 ?_
    unfold ys_40_0
    refine c_17b h hκ (by omega) (fun _ => ?_) (fun k hf' => by rw [hf] at hf'; cases hf')
    rw [my_kA_x, my_kI_x, if_neg (show ¬ (15 : Nat) = 13 by decide), if_pos rfl, my_kI_v]
    refine ⟨b1, b2, ys_342 ?_⟩
    unfold ys_342_0
    refine ys_343 ?_
    unfold ys_343_0
    refine r_340b h (by omega) (fun _ σ1 u1 f1 => ?_) (fun k hk' => by rw [hf] at hk'; cases hk')
    rw [my_kI_v, if_neg (by decide), my_kI_v, if_pos (by decide), my_kI_v]
    refine r_213 ?_
    rw [my_kI_v, u1, if_pos rfl, if_neg (by decide)]
    exact hn _ σ1 (Or.inr rfl) (eqp_mo f1 (fun c k hh => Or.inl hh))
  | some k =>
    obtain ⟨a, ha⟩ := fk3 hf
    refine c_40y h hS hf ha hκ (by omega) (fun hl => ?_) (fun y hl hr σ1 f1 => ?_) (fun y x hl hr σ1 f1 => ?_)
    · rw [my_kI_x, if_neg (show ¬ (17 : Nat) = 13 by decide), if_neg (show ¬ (17 : Nat) = 15 by decide), if_pos rfl, my_kI_v]
      refine ⟨b1, b2, r_342y h hU hS hf ha (by omega) (fun _ σ2 x u2 f2 => ?_) (fun y hl' => by rw [hl] at hl'; cases hl') (fun y x hl' => by rw [hl] at hl'; cases hl')⟩
      rw [my_kI_v]
      refine r_213 ?_
      rw [my_kI_v, u2, if_pos rfl, if_neg (by decide)]
      exact hn _ σ2 (Or.inr rfl) (toS eqp_rf f2)
    · have f1' : eqp skF σ σ1 := eqp_mo f1 (fun c k hh => by unfold skF; omega)
      rw [my_kI_x, if_neg (show ¬ (14 : Nat) = 13 by decide), if_neg (show ¬ (14 : Nat) = 15 by decide), if_neg (show ¬ (14 : Nat) = 17 by decide), if_pos rfl, my_kI_v]
      refine ⟨b1, b2, r_342y (LD_r h f1') hU (LVs_r hS f1') hf ha (by omega) (fun hl' => by rw [hl] at hl'; cases hl') (fun y' hl' hr' σ2 x u2 f2 => ?_) (fun y' x hl' hr' => by rw [hl] at hl'; cases hl'; rw [hr] at hr'; cases hr')⟩
      rw [my_kI_v]
      refine r_213 ?_
      rw [my_kI_v, u2, if_pos rfl, if_neg (by decide)]
      exact hn _ σ2 (Or.inr rfl) (toS f1' f2)
    · rw [my_kI_v, my_kI_v]
      generalize hy : x.toInt64 = z
      have f2 : eqp skF σ (my_uL σ1 585 0 z) := eqp_L (eqp_mo f1 (fun c k hh => by unfold skF; omega)) (Or.inr (Or.inl ⟨rfl, rfl⟩))
      have u2 : (my_uL σ1 585 0 z).2.1 585 0 = z := by rw [my_uL_2, if_pos ⟨rfl, rfl⟩]
      generalize my_uL σ1 585 0 z = σ2 at f2 u2 ⊢
      refine ⟨b1, b2, r_342y (LD_r h f2) hU (LVs_r hS f2) hf ha (by omega) (fun hl' => by rw [hl] at hl'; cases hl') (fun y' hl' hr' => by rw [hl] at hl'; cases hl'; rw [hr] at hr'; cases hr') (fun y' x' hl' hr' σ4 u5 f4 => ?_)⟩
      rw [hl] at hl'
      cases hl'
      rw [hr] at hr'
      cases hr'
      rw [my_kI_v]
      refine r_213 ?_
      have u6 : σ4.2.1 585 0 = z := by rw [(f4 585 0 (by unfold plF; omega)).2.1]; exact u2
      rw [my_kI_v, u5, if_pos rfl, if_pos rfl, hy, if_pos (lg_cmp_0.mpr u6)]
      exact hn _ σ4 (Or.inl rfl) (toS f2 f4)
end MLQ
