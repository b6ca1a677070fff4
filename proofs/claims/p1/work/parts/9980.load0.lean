/-! ===== load of an empty text; disk ===== -/
section MYL0
variable {e : my_E} {d : Nat} {κ : my_K} {σ : my_S} {Q : my_O → my_K → my_S → Prop} {v v4 : Int32}
/-- a revision is emptied -/
def clr (σ : my_S) (a : Nat) : my_S := my_uI (my_uI (my_uI (my_uI (my_uI (my_uI σ a 1 0) a 3 0) (a + 3) 0 0) (a + 3) 1 0) (a + 3) 2 0) (a + 3) 3 0
theorem c_192 {a : Nat} (ha : my_in 10 a) (hQ : Q (.inl none) κ (clr σ a)) : my_M e (d + 1) 192 [.inr (.inr (some a))] κ σ Q := by
  refine ys_192 ha ?_
  unfold ys_192_0
  have st : ∀ (k : Int32) (σ : my_S), k < 4 → my_bd k 4 → ys_192_12 e d a (k + 1) κ (my_uI σ (a + 3) k.toNatClampNeg 0) Q → ys_192_12 e d a k κ σ Q := by
    intro k σ hk hb h
    unfold ys_192_12
    rw [if_pos hk]
    exact ⟨hb, ys_192_12_ok ha h⟩
  refine ys_192_12_ok ha ?_
  refine st 0 _ (by decide) ⟨by decide, by decide⟩ ?_
  refine st 1 _ (by decide) ⟨by decide, by decide⟩ ?_
  refine st 2 _ (by decide) ⟨by decide, by decide⟩ ?_
  refine st 3 _ (by decide) ⟨by decide, by decide⟩ ?_
  unfold ys_192_12
  rw [if_neg (by decide)]
  exact hQ
theorem in_368 : my_in 10 368 := by unfold my_in; decide +kernel
theorem c_2_0 (hsz : σ.1 33 1 = 0) (hsp : σ.2.2 32 9 = some 368) (hd : 5 ≤ d + 1) (hc : 1 ≤ κ.2.1) (hs : 6 ≤ κ.2.2) (hQ : ∀ κ' σ', σ'.1 498 2 = σ.1 498 2 → Q (.inl (some (.inl 0))) κ' σ') : my_M e (d + 5) 2 [.inr (.inr (some 32))] κ σ Q := by
  have b0 : my_bd 0 1501 := ⟨by decide, by decide⟩
  refine ys_2 ?_
  unfold ys_2_0
  refine ys_44 ?_
  unfold ys_44_0
  refine ys_45 ?_
  unfold ys_45_0
  refine ys_45_4_ok ?_
  unfold ys_45_4
  have q1 : (my_uI σ 33 5 0).1 33 1 = 0 := by simp [my_uI, hsz]
  have q2 : (my_uI σ 33 5 0).1 33 5 = 0 := by simp [my_uI]
  rw [q1, if_neg (by decide), my_kI_v]
  refine ys_44_13_ok ?_
  unfold ys_44_13
  rw [if_pos (by decide), q1, if_neg (by decide)]
  unfold ys_44_46
  rw [q1]
  refine ys_51 ?_
  unfold ys_51_0
  rw [q2, if_neg (by decide), if_pos (by decide)]
  refine ⟨b0, b0, b0, ?_⟩
  unfold ys_51_59
  rw [my_k0_v, my_k0_v]
  generalize hσ : my_uI (my_uL (my_uI (my_uI (my_uI σ 33 5 0) 35 (0 : Int32).toNatClampNeg 0) 36 (0 : Int32).toNatClampNeg 0) 37 (0 : Int32).toNatClampNeg 0) 33 5 (0 + 1) = σ2
  have f1 : σ2.1 33 5 = 1 := by rw [← hσ]; simp [my_uI]
  have f2 : σ2.1 35 0 = 0 := by rw [← hσ]; simp [my_uI, my_uL]
  have f3 : σ2.1 36 0 = 0 := by rw [← hσ]; simp [my_uI, my_uL]
  have f4 : σ2.2.2 32 9 = some 368 := by rw [← hσ]; exact hsp
  have f9 : σ2.1 498 2 = σ.1 498 2 := by rw [← hσ]; simp [my_uI, my_uL]
  clear hσ
  refine ys_58 ?_
  unfold ys_58_0
  rw [if_pos rfl]
  refine ⟨Or.inl rfl, 368, f4, in_368, c_192 in_368 ?_⟩
  rw [my_k0_v]
  generalize hσ : clr (my_uI (my_uI (my_uI (my_uA σ2 39 1 (σ2.2.2 32 9)) 39 3 0) 39 4 (Int32.ofInt (-1))) 39 5 0) 368 = σ3
  have g1 : σ3.1 33 5 = 1 := by rw [← hσ]; simp [clr, my_uI, my_uA, f1]
  have g2 : σ3.1 35 0 = 0 := by rw [← hσ]; simp [clr, my_uI, my_uA, f2]
  have g3 : σ3.1 36 0 = 0 := by rw [← hσ]; simp [clr, my_uI, my_uA, f3]
  have g9 : σ3.1 498 2 = σ.1 498 2 := by rw [← hσ]; simp [clr, my_uI, my_uA, f9]
  clear hσ f1 f2 f3 f4 f9
  unfold ys_58_28
  refine ys_54 ?_
  unfold ys_54_0
  refine ys_55 ?_
  unfold ys_55_0
  generalize hσ : my_uI σ3 33 6 (Int32.ofInt (-1)) = σ4
  have i0 : σ4.1 33 6 = Int32.ofInt (-1) := by rw [← hσ]; simp [my_uI]
  have i1 : σ4.1 33 5 = 1 := by rw [← hσ]; simp [my_uI, g1]
  have i2 : σ4.1 35 0 = 0 := by rw [← hσ]; simp [my_uI, g2]
  have i3 : σ4.1 36 0 = 0 := by rw [← hσ]; simp [my_uI, g3]
  have i9 : σ4.1 498 2 = σ.1 498 2 := by rw [← hσ]; simp [my_uI, g9]
  clear hσ g1 g2 g3 g9
  rw [i0, i1, if_pos (by decide)]
  unfold ys_55_23
  generalize hσ : my_uI σ4 33 6 (Int32.ofInt (-1) + 1) = σ5
  have j0 : σ5.1 33 6 = 0 := by rw [← hσ]; simp [my_uI]
  have j2 : σ5.1 35 0 = 0 := by rw [← hσ]; simp [my_uI, i2]
  have j3 : σ5.1 36 0 = 0 := by rw [← hσ]; simp [my_uI, i3]
  have j9 : σ5.1 498 2 = σ.1 498 2 := by rw [← hσ]; simp [my_uI, i9]
  clear hσ i0 i1 i2 i3 i9
  have z0 : (0 : Int32).toNatClampNeg = 0 := rfl
  rw [j0, if_neg (by decide), if_pos (by decide), z0, j2, j3]
  refine ⟨b0, b0, b0, b0, ?_⟩
  unfold ys_55_95
  rw [my_k0_v, my_k0_v]
  generalize hσ : my_uI (my_uL (my_uI (my_uI σ5 33 8 0) 33 9 0) 33 10 (σ5.2.1 37 0)) 33 11 ((σ5.2.1 37 0) : Int64).toInt32 = σ6
  have k1 : σ6.1 33 8 = 0 := by rw [← hσ]; simp [my_uI, my_uL]
  have k2 : σ6.1 33 9 = 0 := by rw [← hσ]; simp [my_uI, my_uL]
  have k9 : σ6.1 498 2 = σ.1 498 2 := by rw [← hσ]; simp [my_uI, my_uL, j9]
  clear hσ
  refine ys_59 ?_
  unfold ys_59_0
  rw [k1, if_pos (by decide)]
  unfold ys_59_26 ys_59_27
  refine ys_60 ?_
  unfold ys_60_0
  rw [if_pos rfl]
  refine ⟨⟨hd, hc, hs⟩, ?_⟩
  rw [my_k0_x, my_k0_x, if_pos rfl, my_kI_v, if_pos rfl, k2]
  unfold ys_2_84
  rw [if_neg (by decide)]
  exact hQ _ _ (by simp [my_uI, k9])
theorem r_220_0 {k : Int32} (hsz : σ.1 498 2 = 0) (hk : 0 ≤ k.toInt) (hQ : Q (.inl (some (.inl 0))) κ σ) : my_M e (d + 1) 220 [.inr (.inr (some 498)), .inl k] κ σ Q := by
  refine ys_220 ?_
  unfold ys_220_0
  rw [hsz, if_neg (by rw [Int32.lt_iff_toInt_lt]; simpa using hk)]
  exact hQ
theorem r_217_0 (hsz : σ.1 498 2 = 0) (hQ : ∀ κ' σ', Q (.inl (some (.inl 0))) κ' σ') : my_M e (d + 5) 217 [.inr (.inr (some 498))] κ σ Q := by
  refine ys_217 ?_
  unfold ys_217_0
  refine ys_218 ?_
  unfold ys_218_0
  generalize hσ : my_uI (my_uI (my_uI (my_uI (my_uI (my_uI σ 498 0 0) 498 9 (Int32.ofInt (-1))) 498 10 0) 498 11 0) 498 23 0) 498 6 0 = σ1
  have f1 : σ1.1 498 2 = 0 := by rw [← hσ]; simp [my_uI, hsz]
  have f2 : σ1.1 498 6 = 0 := by rw [← hσ]; simp [my_uI]
  have f3 : σ1.1 498 9 = Int32.ofInt (-1) := by rw [← hσ]; simp [my_uI]
  clear hσ
  refine ys_219 ?_
  unfold ys_219_0
  refine ys_219_2_ok ?_
  unfold ys_219_2
  rw [if_neg (by decide), f2]
  refine r_220_0 f1 (by decide) ?_
  rw [my_kI_v, if_neg (by decide), if_neg (by decide), if_neg (by decide)]
  unfold ys_219_38
  refine ys_219_39_ok ?_
  unfold ys_219_39
  rw [if_neg (by decide)]
  unfold ys_219_82
  rw [if_pos rfl, f2]
  unfold ys_219_101 ys_219_102
  refine ys_219_2_ok ?_
  unfold ys_219_2
  rw [if_pos rfl, my_k0_v]
  generalize hσ : my_uI σ1 498 6 (0 + 0) = σ2
  have g1 : σ2.1 498 2 = 0 := by rw [← hσ]; simp [my_uI, f1]
  have g2 : σ2.1 498 6 = 0 := by rw [← hσ]; simp [my_uI]
  have g3 : σ2.1 498 9 = Int32.ofInt (-1) := by rw [← hσ]; simp [my_uI, f3]
  clear hσ f1 f2 f3
  rw [g2]
  generalize hσ : my_uI σ2 498 5 0 = σ3
  have h1 : σ3.1 498 2 = 0 := by rw [← hσ]; simp [my_uI, g1]
  have h3 : σ3.1 498 9 = Int32.ofInt (-1) := by rw [← hσ]; simp [my_uI, g3]
  have h5 : σ3.1 498 5 = 0 := by rw [← hσ]; simp [my_uI]
  clear hσ g1 g2 g3
  refine r_220_0 h1 (by decide) ?_
  rw [my_kI_v, if_pos rfl]
  unfold ys_218_73
  rw [my_k0_v]
  generalize hσ : my_uI σ3 498 4 0 = σ4
  have i3 : σ4.1 498 9 = Int32.ofInt (-1) := by rw [← hσ]; simp [my_uI, h3]
  have i4 : σ4.1 498 4 = 0 := by rw [← hσ]; simp [my_uI]
  have i5 : σ4.1 498 5 = 0 := by rw [← hσ]; simp [my_uI, h5]
  clear hσ h1 h3 h5
  refine ys_217_36_ok ?_
  unfold ys_217_36
  rw [if_neg (by decide), i3, if_pos (by decide)]
  refine ys_224 ?_
  unfold ys_224_0
  rw [i4, if_neg (by decide), if_neg (by decide), if_neg (by decide)]
  unfold ys_224_39
  rw [if_pos (by decide)]
  unfold ys_224_52
  refine ys_225 ?_
  unfold ys_225_0
  rw [i3, if_pos (by decide), i5]
  unfold ys_225_16
  rw [my_k0_v, my_k0_v]
  have k1 : ∀ t, ys_217_63 e (d + 4) t κ (my_uI σ4 498 9 0) Q := fun t => by
    unfold ys_217_63
    refine ys_217_36_ok ?_
    have k2 : ys_217_67 e (d + 4) κ (my_uI σ4 498 9 0) Q := by
      unfold ys_217_67
      have k3 : (my_uI σ4 498 9 0).1 498 9 = 0 := by simp [my_uI]
      have k4 : (my_uI (my_uI σ4 498 9 0) 498 2 0).1 498 9 = 0 := by simp [my_uI]
      rw [k3, if_neg (by decide), k4]
      exact hQ _ _
    unfold ys_217_36
    split
    · exact k2
    · have k3 : (my_uI σ4 498 9 0).1 498 9 = 0 := by simp [my_uI]
      rw [k3, if_neg (by decide)]
      exact k2
  split
  · exact k1 _
  · exact k1 _
theorem c_3_90 (h0 : ¬ v < 0) (h1 : v < 16384) (hQ : Q (.inl (some (.inl ((σ.1 90 v.toNatClampNeg) &&& 255)))) κ σ) : my_M e (d + 1) 3 [.inr (.inr (some 90)), .inl v] κ σ Q := by
  refine yb90_3 ?_
  unfold yb90_3_0
  rw [if_neg h0, if_pos h1]
  rw [Int32.lt_iff_toInt_lt] at h0 h1
  exact ⟨⟨by simpa using h0, by simpa using h1⟩, hQ⟩
theorem l_19 (hv : v = e.2.2 ((v4 + 1 : Int32)).toNatClampNeg) (hdk : ∀ j : Nat, j < 16384 → (σ.1 90 j) &&& 255 = σ.1 546 j) (hc : 1 ≤ κ.2.1) (hs : 6 ≤ κ.2.2) (b1 : my_bd (v4 + 1) e.2.1)
    (h1 : (v < 0 ∨ ¬ v < 16384) → ys_law_1663 e 1049 v4 (κ.1 + 1, κ.2.1 - 1, κ.2.2 - 6) (my_uI σ 498 0 1) Q)
    (h2 : ¬ v < 0 → v < 16384 → ys_law_1663 e 1049 v4 κ (my_uI (my_uL σ 585 0 (σ.1 546 v.toNatClampNeg).toInt64) 498 0 0) Q) : ys_law_1260 e 1049 v4 κ σ Q := by
  unfold ys_law_1260
  rw [← hv]
  refine ⟨b1, ys_394 ?_⟩
  unfold ys_394_0
  refine ys_35 ?_
  have rbad : ∀ {κ' : my_K} {Q' : my_O → my_K → my_S → Prop}, (v < 0 ∨ ¬ v < 16384) → (∀ x, Q' (.inl (some (.inl x))) κ' (my_uI σ 498 0 1)) → my_M e 1049 337 [.inr (.inr (some 498)), .inl v] κ' σ Q' := by
    intro κ' Q' hb hq
    refine ys_337 ?_
    have key : ys_337_17 e 1048 v 1 κ' σ Q' := by
      unfold ys_337_17
      exact r_215_1 (by rw [my_kI_v, if_neg (by decide)]; exact hq _)
    unfold ys_337_0
    split
    · exact key
    · rename_i h0
      split
      · rename_i h3
        exact absurd hb (fun h => h.elim h0 (fun h => h h3))
      · exact key
  have cbad : ∀ {Q' : my_O → my_K → my_S → Prop}, Q' (.inr (κ.1, 15)) (κ.1 + 1, κ.2.1 - 1, κ.2.2 - 6) σ → ys_35_11 e 1047 κ σ Q' := fun hq => ⟨⟨by decide, hc, hs⟩, hq⟩
  have fin : (v < 0 ∨ ¬ v < 16384) → my_bd (v4 + 1) e.2.1 ∧ my_M e 1049 337 [.inr (.inr (some 498)), .inl v] (κ.1 + 1, κ.2.1 - 1, κ.2.2 - 6) σ (my_kI (fun x4 κ5 σ6 => my_M e 1049 213 [.inr (.inr (some 498))] κ5 σ6 (my_kI (fun x7 κ8 σ9 => if x7 = 1 then (if (1 : Int32) = 0 then (if (lg_cmp (σ9.2.1 585 0) (x4 : Int32).toInt64) = 0 then (ys_law_1313 e 1049 v4 κ8 σ9 Q) else (Q (.inl (some (.inl 0))) κ8 σ9)) else (ys_law_1313 e 1049 v4 κ8 σ9 Q)) else (Q (.inl (some (.inl 0))) κ8 σ9)) (fun y10 κ11 σ12 => Q (.inr y10) κ11 σ12))) (fun y13 κ14 σ15 => Q (.inr y13) κ14 σ15)) := fun hb => by
    refine ⟨b1, rbad hb (fun x => ?_)⟩
    rw [my_kI_v]
    refine r_213 ?_
    rw [my_kI_v, if_pos (show (my_uI σ 498 0 1).1 498 0 = 1 from rfl), if_neg (by decide)]
    exact h1 hb
  unfold ys_35_0
  split
  · rename_i h0
    refine cbad ?_
    rw [my_kI_x, if_pos rfl, my_kI_v]
    exact fin (Or.inl h0)
  · rename_i h0
    split
    · rename_i h3
      refine c_3_90 h0 h3 ?_
      rw [my_kI_v, my_kI_v, my_kI_v]
      have hlt : v.toNatClampNeg < 16384 := by
        rw [Int32.lt_iff_toInt_lt] at h0 h3
        have a1 : (0 : Int32).toInt = 0 := rfl
        have a2 : (16384 : Int32).toInt = 16384 := rfl
        unfold Int32.toNatClampNeg
        omega
      rw [hdk _ hlt]
      refine ⟨b1, ys_337 ?_⟩
      unfold ys_337_0
      rw [if_neg h0, if_pos h3]
      unfold ys_337_17
      refine r_215_0 ?_
      rw [my_kI_v, if_pos rfl]
      refine ⟨⟨by rw [Int32.lt_iff_toInt_lt] at h0; simpa using h0, by rw [Int32.lt_iff_toInt_lt] at h3; simpa using h3⟩, ?_⟩
      rw [my_kI_v]
      refine r_213 ?_
      have q1 : (my_uI (my_uL σ 585 0 (σ.1 546 v.toNatClampNeg).toInt64) 498 0 0).1 498 0 = 0 := by simp [my_uI]
      have q2 : (my_uI (my_uL σ 585 0 (σ.1 546 v.toNatClampNeg).toInt64) 498 0 0).2.1 585 0 = (σ.1 546 v.toNatClampNeg).toInt64 := by simp [my_uI, my_uL]
      have q3 : (my_uI (my_uL σ 585 0 (σ.1 546 v.toNatClampNeg).toInt64) 498 0 0).1 546 v.toNatClampNeg = σ.1 546 v.toNatClampNeg := by simp [my_uI, my_uL]
      rw [my_kI_v, if_pos q1, if_pos rfl, q2, q3, lg_cmp_self, if_pos rfl]
      exact h2 h0 h3
    · rename_i h3
      refine cbad ?_
      rw [my_kI_x, if_pos rfl, my_kI_v]
      exact fin (Or.inr h3)
theorem l_2_0 (hsz : σ.1 33 1 = 0) (hszr : σ.1 498 2 = 0) (hsp : σ.2.2 32 9 = some 368) (hc : 1 ≤ κ.2.1) (hs : 6 ≤ κ.2.2) (hr : ∀ κ' σ', σ'.1 498 2 = 0 → my_M e 1049 217 [.inr (.inr (some 498))] κ' σ' (my_kI (fun x κ2 σ2 => if (0 : Int32) = x then ys_law_1663 e 1049 v4 κ2 σ2 Q else Q (.inl (some (.inl 0))) κ2 σ2) (fun y κ2 σ2 => Q (.inr y) κ2 σ2))) : ys_law_244 e 1049 v4 κ σ Q := by
  unfold ys_law_244
  exact c_2_0 (d := 1044) hsz hsp (by decide) hc hs (fun κ' σ' h => hr κ' σ' (h.trans hszr))
end MYL0
