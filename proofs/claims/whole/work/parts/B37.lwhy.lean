
/-! ===== why, verdict, of the law ===== -/
def skF (c k : Nat) : Prop := (c = 498 ∧ k = 0) ∨ (c = 585 ∧ k = 0) ∨ plF c k ∨ c = 92 ∨ c = 93
/-- what verdict answers -/
def vdA (E : List Et) (As : List Ri) (I : List It) (k : Nat) (a : Ri) : Int32 := if rsn E As I k a = 0 then (match lrc (rcp E) (riN a) (rcp E).length with
  | none => Int32.ofInt (-1)
  | some y => Int32.ofNat (g1 (eC y.2) 0)) else Int32.ofInt (-1)
section MLW
variable {As Bs : List Ri} {I I' : List It} {cnt cu ol sp A : Nat} {e : my_E} {d : Nat} {κ : my_K} {σ σ' : my_S} {Q : my_O → my_K → my_S → Prop} {E : List Et} {v4 : Int32}
theorem LVs_r (h : LVs A E σ) (f : eqp skF σ σ') : LVs A E σ' := by
  have hA := h.1
  exact LVs_o h f (fun c k hh => by unfold skF plF at hh; unfold lsN; unfold lg2 at hA; omega)
theorem LD_r (h : LD As I cu σ) (f : eqp skF σ σ') : LD As I cu σ' := by
  have := h.2.2.1
  exact LD_o (LD_30 h) h f (fun c k hh => by unfold skF plF at hh; unfold coF; omega)
theorem fk3 {v : Int32} {k : Nat} (h : fkA As 3 v As.length 0 = some k) : ∃ a, As[k]? = some a := by
  obtain ⟨a, ha, _⟩ := fkA_k h
  exact ⟨a, ha⟩
theorem l_9z (h : LD As I cu σ) (hS : LVs A E σ) (hκ : 1 ≤ κ.2.1 ∧ 6 ≤ κ.2.2) (b1 : my_bd (v4 + 1) e.2.1) (hn : ∀ κ' σ', (κ' = κ ∨ κ' = (κ.1 + 1, κ.2.1 - 1, κ.2.2 - 6)) → eqp skF σ σ' → ys_law_1663 e 1049 v4 κ' σ' Q) : ys_law_677 e 1049 v4 κ σ Q := by
  unfold ys_law_677
  refine ⟨b1, ys_384 ?_⟩
  unfold ys_384_0
  generalize e.2.2 (v4 + 1 : Int32).toNatClampNeg = x1
  refine ys_24 ?_
  unfold ys_24_0
  refine c_17b h hκ (by omega) (fun hf => ?_) (fun k hf => ?_)
  · rw [my_kA_x, my_kI_x, if_neg (show ¬ (15 : Nat) = 13 by decide), if_pos rfl, my_kI_v]
    refine ⟨b1, ys_352 ?_⟩
    unfold ys_352_0
    refine r_340b h (by omega) (fun _ σ1 u1 f1 => ?_) (fun k hk' => by rw [hf] at hk'; cases hk')
    rw [my_kI_v, if_neg (by decide)]
    unfold ys_352_22
    rw [my_kI_v]
    refine r_213 ?_
    rw [my_kI_v, u1, if_pos rfl, if_neg (by decide)]
    exact hn _ σ1 (Or.inr rfl) (eqp_mo f1 (fun c k hh => Or.inl hh))
  · obtain ⟨a, ha⟩ := fk3 hf
    rw [my_kA_v, h.2.2.2.2.2.1]
    refine c_154 h hS ha (by omega) (fun σ1 o1 ld1 ls1 f1 => ?_)
    rw [my_kI_v, my_kI_v, my_kI_v]
    generalize hx : rsn E As I k a = x
    generalize hy : x.toInt64 = y
    have f2 : eqp skF σ (my_uL σ1 585 0 y) := eqp_L (eqp_mo f1 (fun c k hh => by unfold skF; omega)) (Or.inr (Or.inl ⟨rfl, rfl⟩))
    have u2 : (my_uL σ1 585 0 y).2.1 585 0 = y := by rw [my_uL_2, if_pos ⟨rfl, rfl⟩]
    generalize my_uL σ1 585 0 y = σ2 at f2 u2 ⊢
    refine ⟨b1, ys_352 ?_⟩
    unfold ys_352_0
    refine r_340b (LD_r h f2) (by omega) (fun hf' => by rw [hf] at hf'; cases hf') (fun _ _ σ3 u3 f3 => ?_)
    have f23 : eqp skF σ σ3 := eqp_tr f2 (eqp_mo f3 (fun c k hh => Or.inl hh))
    rw [my_kI_v, if_pos rfl]
    refine r_341 (LD_r h f23) (LVs_r hS f23) hf ha (by omega) (fun σ4 p4 ld4 ls4 f4 => ?_)
    rw [my_kI_v]
    refine r_353 ld4 hS.2.1 hS.2.2.1 ls4.2.2.2.2.1 p4 hf ha (by omega) ?_
    rw [my_kI_v]
    unfold ys_352_22
    rw [my_kI_v, hx]
    refine r_213 ?_
    have u5 : σ4.1 498 0 = 0 := by rw [eqp_g f4 (by unfold plF; omega)]; exact u3
    have u6 : σ4.2.1 585 0 = y := by rw [(f4 585 0 (by unfold plF; omega)).2.1, (f3 585 0 (by omega)).2.1]; exact u2
    rw [my_kI_v, u5, if_pos rfl, if_pos rfl, hy, if_pos (lg_cmp_0.mpr u6)]
    exact hn _ σ4 (Or.inl rfl) (eqp_tr f23 (eqp_mo f4 (fun c k hh => Or.inr (Or.inr (Or.inl hh)))))
theorem c_39y {k : Nat} {a : Ri} {v : Int32} (h : LD As I cu σ) (hS : LVs A E σ) (hf : fkA As 3 v As.length 0 = some k) (ha : As[k]? = some a) (hκ : 1 ≤ κ.2.1 ∧ 6 ≤ κ.2.2) (hd : 8 ≤ d) (hQ : ∀ σ', eqp oF σ σ' → Q (.inl (some (.inl (vdA E As I k a)))) κ σ') : my_M e d 39 [.inr (.inr (some 32)), .inl v] κ σ Q := by
  obtain ⟨d, rfl⟩ := dS 1 (show 1 ≤ d by omega)
  refine ys_39 ?_
  unfold ys_39_0
  refine c_17b h hκ (by omega) (fun hf' => by rw [hf] at hf'; cases hf') (fun k' hf' => ?_)
  rw [hf] at hf'
  cases hf'
  rw [my_kA_v, h.2.2.2.2.2.1]
  refine c_154 h hS ha (by omega) (fun σ1 o1 ld1 ls1 f1 => ?_)
  have hQ := hQ σ1 f1
  rw [my_kI_v]
  unfold vdA at hQ
  unfold ys_39_36
  refine my_if (fun c => ?_) (fun c => ?_)
  · rw [if_pos c] at hQ
    cases hl : lrc (rcp E) (riN a) (rcp E).length with
    | none => unfold rsn at c; rw [hl] at c; exact absurd (show (1 : Int32) = 0 from c) (by decide)
    | some y =>
      rw [hl] at hQ
      rw [(o1 y hl).1.1]
      exact hQ
  · rw [if_neg c] at hQ
    exact hQ
theorem r_339y {k : Nat} {a : Ri} {v : Int32} (h : LD As I cu σ) (hU : nmU As) (hS : LVs A E σ) (hf : fkA As 3 v As.length 0 = some k) (ha : As[k]? = some a) (hd : 8 ≤ d) (hQ : ∀ σ', σ'.1 498 0 = 0 → eqp (fun c k => (c = 498 ∧ k = 0) ∨ plF c k) σ σ' → Q (.inl (some (.inl (vdA E As I k a)))) κ σ') : my_M e d 339 [.inr (.inr (some 498)), .inl v] κ σ Q := by
  obtain ⟨d, rfl⟩ := dS 1 (show 1 ≤ d by omega)
  refine ys_339 ?_
  unfold ys_339_0
  refine r_340b h (by omega) (fun hf' => by rw [hf] at hf'; cases hf') (fun _ _ σ3 u3 f3 => ?_)
  have f23 : eqp skF σ σ3 := eqp_mo f3 (fun c k hh => Or.inl hh)
  rw [my_kI_v, if_pos rfl]
  refine r_341 (LD_r h f23) (LVs_r hS f23) hf ha (by omega) (fun σ4 p4 ld4 ls4 f4 => ?_)
  have u5 : σ4.1 498 0 = 0 := by rw [eqp_g f4 (by unfold plF; omega)]; exact u3
  have hQ := hQ σ4 u5 (eqp_tr (eqp_mo f3 (fun c k hh => Or.inl hh)) (eqp_mo f4 (fun c k hh => Or.inr hh)))
  rw [my_kI_v]
  refine r_288 ld4 hS.2.1 ls4.2.2.2.2.1 p4 (fun y hy => (lrc_m hy).1) (by omega) ?_
  rw [my_kI_v]
  have hh := rsn_h (I := I) hU hS.2.1 hS.2.2.1 ha
  unfold vdA at hQ
  unfold ys_339_38
  by_cases c : rsn E As I k a = 0
  · rw [if_pos c] at hQ
    rw [hh.mpr c, if_neg (by decide)]
    cases hl : lrc (rcp E) (riN a) (rcp E).length with
    | none => unfold rsn at c; rw [hl] at c; exact absurd (show (1 : Int32) = 0 from c) (by decide)
    | some y =>
      rw [hl] at hQ
      have hym := (lrc_m hl).1
      obtain ⟨r1, r2, r3, r4, r5, r6⟩ := rec_w hS.2.1 hym
      have hp := (pse_b r1).2
      have hw := hS.2.1.2
      show my_M e d 289 [.inr (.inr (some 498)), .inl (Int32.ofNat y.1)] κ σ4 _
      refine r_289 hS.2.1 ls4.2.2.2.2.1 r1 (by omega) ?_
      rw [my_kI_v, oN_n (by omega)]
      have := lr_c (i := 0) ls4.2.2.2.2.1 r1 (by omega)
      rw [Nat.add_zero] at this
      rw [this]
      exact ⟨bdk (by omega) (by omega), hQ⟩
  · rw [if_neg c] at hQ
    have : hD E As I (lrc (rcp E) (riN a) (rcp E).length) = false := by
      cases hb : hD E As I (lrc (rcp E) (riN a) (rcp E).length) with
      | false => rfl
      | true => exact absurd (hh.mp hb) c
    rw [this, if_pos (show bI false = 0 from rfl)]
    exact hQ
theorem l_22z (h : LD As I cu σ) (hU : nmU As) (hS : LVs A E σ) (hκ : 1 ≤ κ.2.1 ∧ 6 ≤ κ.2.2) (b1 : my_bd (v4 + 1) e.2.1) (hn : ∀ κ' σ', (κ' = κ ∨ κ' = (κ.1 + 1, κ.2.1 - 1, κ.2.2 - 6)) → eqp skF σ σ' → ys_law_1663 e 1049 v4 κ' σ' Q) : ys_law_1452 e 1049 v4 κ σ Q := by
  unfold ys_law_1452
  refine ⟨b1, ys_397 ?_⟩
  unfold ys_397_0
  generalize e.2.2 (v4 + 1 : Int32).toNatClampNeg = x1
  cases hf : fkA As 3 x1 As.length 0 with
  | none =>
    refine ys_39 ?_
    unfold ys_39_0
    refine c_17b h hκ (by omega) (fun _ => ?_) (fun k hf' => by rw [hf] at hf'; cases hf')
    rw [my_kA_x, my_kI_x, if_neg (show ¬ (15 : Nat) = 13 by decide), if_pos rfl, my_kI_v]
    refine ⟨b1, ys_339 ?_⟩
    unfold ys_339_0
    refine r_340b h (by omega) (fun _ σ1 u1 f1 => ?_) (fun k hk' => by rw [hf] at hk'; cases hk')
    rw [my_kI_v, if_neg (by decide), my_kI_v]
    refine r_213 ?_
    rw [my_kI_v, u1, if_pos rfl, if_neg (by decide)]
    exact hn _ σ1 (Or.inr rfl) (eqp_mo f1 (fun c k hh => Or.inl hh))
  | some k =>
    obtain ⟨a, ha⟩ := fk3 hf
    refine c_39y h hS hf ha hκ (by omega) (fun σ1 f1 => ?_)
    rw [my_kI_v, my_kI_v]
    generalize hx : vdA E As I k a = x
    generalize hy : x.toInt64 = y
    have f2 : eqp skF σ (my_uL σ1 585 0 y) := eqp_L (eqp_mo f1 (fun c k hh => by unfold skF; omega)) (Or.inr (Or.inl ⟨rfl, rfl⟩))
    have u2 : (my_uL σ1 585 0 y).2.1 585 0 = y := by rw [my_uL_2, if_pos ⟨rfl, rfl⟩]
    generalize my_uL σ1 585 0 y = σ2 at f2 u2 ⊢
    refine ⟨b1, r_339y (LD_r h f2) hU (LVs_r hS f2) hf ha (by omega) (fun σ4 u5 f4 => ?_)⟩
    rw [my_kI_v, hx]
    refine r_213 ?_
    have u6 : σ4.2.1 585 0 = y := by rw [(f4 585 0 (by unfold plF; omega)).2.1]; exact u2
    rw [my_kI_v, u5, if_pos rfl, if_pos rfl, hy, if_pos (lg_cmp_0.mpr u6)]
    exact hn _ σ4 (Or.inl rfl) (eqp_tr f2 (eqp_mo f4 (fun c k hh => by unfold skF; rcases hh with hh | hh; exact Or.inl hh; exact Or.inr (Or.inr (Or.inl hh)))))
end MLW
