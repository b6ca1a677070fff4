/-! ===== put of the reference; the law's put, end ===== -/
section MYP8
variable {e : my_E} {d : Nat} {κ : my_K} {σ : my_S} {Q : my_O → my_K → my_S → Prop} {v n k : Int32}
theorem r_214_s {w : Int32} (hk : k < 32) (hb : (w = 1 ∨ (w = 0 ∧ bs (rb v k))) → ys_214_7 e d v (n + nz (rb v k)) 1 (k + 8) κ σ Q) (hg : w = 0 → ¬ bs (rb v k) → ys_214_7 e d v (n + nz (rb v k)) 0 (k + 8) κ σ Q) (hw : w = 0 ∨ w = 1) : ys_214_7 e d v n w k κ σ Q := by
  have k59 : ∀ t : Int32, ys_214_7 e d v (n + nz (rb v k)) t (k + 8) κ σ Q → ys_214_59 e d v n k (rb v k) t κ σ Q := fun t h => by
    unfold ys_214_59
    split
    · rename_i h0
      have := ys_214_7_ok h
      unfold nz at this
      rw [if_pos h0] at this
      exact this
    · rename_i h0
      have := ys_214_7_ok h
      unfold nz at this
      rw [if_neg h0] at this
      exact this
  unfold ys_214_7
  rw [if_pos hk]
  change if w = 0 then (if rb v k = 0 then ys_214_58 e d v n k (rb v k) κ σ Q else (if rb v k = 10 then ys_214_58 e d v n k (rb v k) κ σ Q else (if rb v k < 32 then ys_214_54 e d v n k (rb v k) κ σ Q else (if 126 < rb v k then ys_214_54 e d v n k (rb v k) κ σ Q else ys_214_58 e d v n k (rb v k) κ σ Q)))) else ys_214_54 e d v n k (rb v k) κ σ Q
  split
  · rename_i hw0
    split
    · rename_i h
      exact k59 0 (hg hw0 (fun hh => hh.1 h))
    · rename_i h0
      split
      · rename_i h
        exact k59 0 (hg hw0 (fun hh => hh.2.1 h))
      · rename_i h10
        split
        · rename_i h
          exact k59 1 (hb (Or.inr ⟨hw0, h0, h10, Or.inl h⟩))
        · rename_i h32
          split
          · rename_i h
            exact k59 1 (hb (Or.inr ⟨hw0, h0, h10, Or.inr h⟩))
          · rename_i h126
            exact k59 0 (hg hw0 (fun hh => hh.2.2.elim h32 h126))
  · rename_i hw0
    exact k59 1 (hb (Or.inl (hw.resolve_left hw0)))
theorem r_214_a (hb : any4 v → ys_214_7 e d v (cnt4 v) 1 32 κ σ Q) (hg : ¬ any4 v → ys_214_7 e d v (cnt4 v) 0 32 κ σ Q) : ys_214_7 e d v 0 0 0 κ σ Q := by
  have s1 : ∀ (n k w : Int32), k < 32 → (w = 0 ∨ w = 1) → (∀ w', (w' = 0 ∨ w' = 1) → (w' = 1 ↔ (w = 1 ∨ bs (rb v k))) → ys_214_7 e d v (n + nz (rb v k)) w' (k + 8) κ σ Q) → ys_214_7 e d v n w k κ σ Q := by
    intro n k w hk hw h
    refine r_214_s hk (fun h1 => h 1 (Or.inr rfl) ⟨fun _ => h1.elim Or.inl (fun h => Or.inr h.2), fun _ => rfl⟩) (fun h0 h1 => h 0 (Or.inl rfl) ⟨fun h => absurd h (by decide), fun h => h.elim (fun h => absurd (h0.symm.trans h) (by decide)) (fun h => absurd h h1)⟩) hw
  refine s1 0 0 0 (by decide) (Or.inl rfl) (fun w0 g0 i0 => ?_)
  refine s1 _ 8 w0 (by decide) g0 (fun w1 g1 i1 => ?_)
  refine s1 _ 16 w1 (by decide) g1 (fun w2 g2 i2 => ?_)
  refine s1 _ 24 w2 (by decide) g2 (fun w3 g3 i3 => ?_)
  have i4 : w3 = 1 ↔ any4 v := by
    rw [i3, i2, i1, i0]
    unfold any4
    constructor
    · rintro (((( h | h) | h) | h) | h)
      · exact absurd h (by decide)
      · exact Or.inl h
      · exact Or.inr (Or.inl h)
      · exact Or.inr (Or.inr (Or.inl h))
      · exact Or.inr (Or.inr (Or.inr h))
    · rintro (h | h | h | h)
      · exact Or.inl (Or.inl (Or.inl (Or.inr h)))
      · exact Or.inl (Or.inl (Or.inr h))
      · exact Or.inl (Or.inr h)
      · exact Or.inr h
  by_cases ha : any4 v
  · have := i4.mpr ha
    subst this
    exact hb ha
  · have : w3 = 0 := g3.resolve_right (fun h => ha (i4.mp h))
    subst this
    exact hg ha
theorem r_214_t (hk : k < 32) (hr : ¬ rb v k = 0 → 0 ≤ (σ.1 498 2).toInt ∧ (σ.1 498 2).toInt < 1500) (hn : ys_214_109 e d v (k + 8) κ (rad σ (rb v k)) Q) : ys_214_109 e d v k κ σ Q := by
  unfold ys_214_109
  rw [if_pos hk]
  change if rb v k = 0 then _ else _
  split
  · rename_i h
    unfold rad at hn
    rw [if_pos h] at hn
    exact ys_214_109_ok hn
  · rename_i h
    obtain ⟨h0, h1⟩ := hr h
    unfold rad at hn
    rw [if_neg h] at hn
    exact ⟨⟨h0, h1⟩, ys_214_109_ok hn⟩
theorem r_214_b {m : Nat} (hm : (σ.1 498 2).toInt = (m : Int)) (hr : m + cN v ≤ 1500) (hQ : Q (.inl (some (.inl ((rad4 σ v).1 498 2)))) κ (rad4 σ v)) : ys_214_109 e d v 0 κ σ Q := by
  unfold cN at hr
  have s1 := nz_add (b := rb v 0) hm (by omega)
  rw [← rad_r] at s1
  have s2 := nz_add (b := rb v 8) s1 (by omega)
  rw [← rad_r] at s2
  have s3 := nz_add (b := rb v 16) s2 (by omega)
  rw [← rad_r] at s3
  have key : ∀ {b : Int32} {t : Int32} {m' : Nat}, t.toInt = (m' : Int) → m' + nzN b ≤ 1500 → ¬ b = 0 → 0 ≤ t.toInt ∧ t.toInt < 1500 := by
    intro b t m' h1 h2 h3
    unfold nzN at h2
    rw [if_neg h3] at h2
    omega
  have a := nzN_le (rb v 8)
  have b := nzN_le (rb v 16)
  have c := nzN_le (rb v 24)
  refine r_214_t (by decide) (fun h => key (b := rb v 0) hm (by omega) h) ?_
  refine r_214_t (k := 8) (by decide) (fun h => key (b := rb v 8) s1 (by omega) h) ?_
  refine r_214_t (k := 16) (by decide) (fun h => key (b := rb v 16) s2 (by omega) h) ?_
  refine r_214_t (k := 24) (by decide) (fun h => key (b := rb v 24) s3 (by omega) h) ?_
  unfold ys_214_109
  rw [if_neg (by decide)]
  exact hQ
theorem r_214 {m : Nat} (hm : (σ.1 498 2).toInt = (m : Int)) (hm1 : m ≤ 1500)
    (h1 : any4 v → ∀ x, Q (.inl (some (.inl x))) κ (my_uI σ 498 0 1))
    (h2 : ¬ any4 v → 1500 < m + cN v → ∀ x, Q (.inl (some (.inl x))) κ (my_uI σ 498 0 2))
    (h3 : ¬ any4 v → m + cN v ≤ 1500 → Q (.inl (some (.inl ((rad4 (my_uI σ 498 0 0) v).1 498 2)))) κ (rad4 (my_uI σ 498 0 0) v)) : my_M e (d + 2) 214 [.inr (.inr (some 498)), .inl v] κ σ Q := by
  refine ys_214 ?_
  unfold ys_214_0
  refine ys_214_7_ok ?_
  have e1 : (σ.1 498 2 + cnt4 v).toInt = ((m + cN v : Nat) : Int) := by
    have a := nzN_le (rb v 0)
    have b := nzN_le (rb v 8)
    have c := nzN_le (rb v 16)
    have d := nzN_le (rb v 24)
    have hcn : cN v ≤ 4 := by unfold cN; omega
    rw [Int32.toInt_add, hm, cnt4_toInt, Int.bmod_eq_of_le (by omega) (by omega)]
    simp
  have e2 : (1500 : Int32) < σ.1 498 2 + cnt4 v ↔ 1500 < m + cN v := by
    rw [Int32.lt_iff_toInt_lt, e1]
    have : (1500 : Int32).toInt = 1500 := rfl
    omega
  refine r_214_a (fun h => ?_) (fun h => ?_)
  · unfold ys_214_7
    rw [if_neg (by decide)]
    have key : ∀ t, ys_214_98 e (d + 1) v t 1 κ σ Q := fun t => by
      unfold ys_214_98
      exact r_215_1 (by rw [my_kI_v, if_neg (by decide)]; exact h1 h _)
    split
    · exact key 1
    · exact key 0
  · unfold ys_214_7
    rw [if_neg (by decide)]
    split
    · rename_i hh
      unfold ys_214_98
      exact r_215_2 (by rw [my_kI_v, if_neg (by decide)]; exact h2 h (e2.mp hh) _)
    · rename_i hh
      have hle : m + cN v ≤ 1500 := Nat.le_of_not_lt (fun h => hh (e2.mpr h))
      unfold ys_214_98
      exact r_215_0 (by
        rw [my_kI_v, if_pos rfl]
        exact ys_214_109_ok (r_214_b (m := m) (by simpa [my_uI] using hm) hle (h3 h hle)))
end MYP8
theorem lg_cmp_self (x : Int64) : lg_cmp x x = 0 := by
  simp [lg_cmp]
/-- what put comes to, in both -/
def put4 (σ : my_S) (v : Int32) : my_S := rad4 (my_uI (my_uL (cad4 σ v) 585 0 ((cad4 σ v).1 33 1).toInt64) 498 0 0) v
theorem cad4_r (σ : my_S) (v : Int32) : (cad4 σ v).1 498 = σ.1 498 := by
  unfold cad4
  rw [cad_r, cad_r, cad_r, cad_r]
theorem cad4_c (σ : my_S) (v : Int32) : (cad4 σ v).1 33 1 = (((σ.1 33 1 + nz (rb v 0)) + nz (rb v 8)) + nz (rb v 16)) + nz (rb v 24) := by
  unfold cad4
  rw [cad_c, cad_c, cad_c, cad_c]
theorem rad4_r (σ : my_S) (v : Int32) : (rad4 σ v).1 498 2 = (((σ.1 498 2 + nz (rb v 0)) + nz (rb v 8)) + nz (rb v 16)) + nz (rb v 24) := by
  unfold rad4
  rw [rad_r, rad_r, rad_r, rad_r]
theorem rad_L (σ : my_S) (b : Int32) : (rad σ b).2 = σ.2 := by
  unfold rad
  split <;> rfl
theorem rad_0 (σ : my_S) (b : Int32) : (rad σ b).1 498 0 = σ.1 498 0 := by
  unfold rad
  split
  · rfl
  · simp [my_uI]
section MYP9
variable {e : my_E} {κ : my_K} {σ : my_S} {Q : my_O → my_K → my_S → Prop} {v4 v : Int32}
theorem l_0 {m : Nat} (hv : v = e.2.2 ((v4 + 1 : Int32)).toNatClampNeg) (hm : (σ.1 33 1).toInt = (m : Int)) (hm1 : m ≤ 1500) (hsz : σ.1 33 1 = σ.1 498 2) (hc : 1 ≤ κ.2.1) (hs : 6 ≤ κ.2.2) (b1 : my_bd (v4 + 1) e.2.1)
    (h1 : any4 v → ys_law_1663 e 1049 v4 (κ.1 + 1, κ.2.1 - 1, κ.2.2 - 6) (my_uI σ 498 0 1) Q)
    (h2 : ¬ any4 v → 1500 < m + cN v → ys_law_1663 e 1049 v4 (κ.1 + 1, κ.2.1 - 1, κ.2.2 - 6) (my_uI σ 498 0 2) Q)
    (h3 : ¬ any4 v → m + cN v ≤ 1500 → ys_law_1663 e 1049 v4 κ (put4 σ v) Q) : ys_law_152 e 1049 v4 κ σ Q := by
  unfold ys_law_152
  rw [← hv]
  refine ⟨b1, ys_376 ?_⟩
  unfold ys_376_0
  refine c_7 hm hm1 (by decide) hc hs (fun h => ?_) (fun h hh => ?_) (fun h hh => ?_)
  · rw [my_kI_x, if_pos rfl, my_kI_v]
    refine ⟨b1, r_214 (m := m) (by rw [← hsz]; exact hm) hm1 (fun _ x => ?_) (fun h' => absurd h h') (fun h' => absurd h h')⟩
    rw [my_kI_v]
    refine r_213 ?_
    rw [my_kI_v, if_pos (show (my_uI σ 498 0 1).1 498 0 = 1 from rfl), if_neg (by decide)]
    exact h1 h
  · rw [my_kI_x, if_neg (show ¬ (16 : Nat) = 14 by decide), if_pos rfl, my_kI_v]
    refine ⟨b1, r_214 (m := m) (by rw [← hsz]; exact hm) hm1 (fun h' => absurd h' h) (fun _ _ x => ?_) (fun _ h' => absurd h' (by omega))⟩
    rw [my_kI_v]
    refine r_213 ?_
    rw [my_kI_v, if_pos (show (my_uI σ 498 0 2).1 498 0 = 2 from rfl), if_neg (by decide)]
    exact h2 h hh
  · rw [my_kI_v, my_kI_v]
    have q1 : (my_uL (cad4 σ v) 585 0 ((cad4 σ v).1 33 1).toInt64).1 498 2 = σ.1 498 2 := by
      show (cad4 σ v).1 498 2 = _
      rw [cad4_r]
    refine ⟨b1, r_214 (m := m) (by rw [q1, ← hsz]; exact hm) hm1 (fun h' => absurd h' h) (fun _ h' => absurd hh (by omega)) (fun _ _ => ?_)⟩
    rw [my_kI_v]
    refine r_213 ?_
    have q2 : (put4 σ v).1 498 0 = 0 := by
      unfold put4 rad4
      rw [rad_0, rad_0, rad_0, rad_0]
      simp [my_uI]
    have q3 : (put4 σ v).2.1 585 0 = ((put4 σ v).1 498 2).toInt64 := by
      have a1 : (put4 σ v).2.1 585 0 = ((cad4 σ v).1 33 1).toInt64 := by
        unfold put4 rad4
        rw [rad_L, rad_L, rad_L, rad_L]
        simp [my_uI, my_uL]
      have a2 : (put4 σ v).1 498 2 = (cad4 σ v).1 33 1 := by
        have this : (my_uI (my_uL (cad4 σ v) 585 0 ((cad4 σ v).1 33 1).toInt64) 498 0 0).1 498 2 = σ.1 498 2 := by
          simp only [my_uI_1]
          rw [if_neg (by decide)]
          exact q1
        unfold put4
        rw [rad4_r, this, cad4_c, hsz]
      rw [a1, a2]
    change my_kI _ _ (.inl (some (.inl ((put4 σ v).1 498 0)))) κ (put4 σ v)
    rw [my_kI_v, if_pos q2, if_pos rfl]
    change if lg_cmp ((put4 σ v).2.1 585 0) ((put4 σ v).1 498 2).toInt64 = 0 then _ else _
    rw [q3, lg_cmp_self, if_pos rfl]
    exact h3 h hh
theorem l_1 (hv : v = e.2.2 ((v4 + 1 : Int32)).toNatClampNeg) (hsz : σ.1 33 1 = σ.1 498 2) (hc : 1 ≤ κ.2.1) (hs : 6 ≤ κ.2.2) (b1 : my_bd (v4 + 1) e.2.1)
    (h1 : (v < 0 ∨ σ.1 33 1 < v) → ys_law_1663 e 1049 v4 (κ.1 + 1, κ.2.1 - 1, κ.2.2 - 6) (my_uI σ 498 0 1) Q)
    (h2 : ¬ v < 0 → ¬ σ.1 33 1 < v → ys_law_1663 e 1049 v4 κ (my_uI (my_uI (my_uI σ 33 1 v) 498 0 0) 498 2 v) Q) : ys_law_208 e 1049 v4 κ σ Q := by
  unfold ys_law_208
  rw [← hv]
  refine ⟨b1, ys_377 ?_⟩
  unfold ys_377_0
  refine ys_8 ?_
  have bad : (v < 0 ∨ σ.1 33 1 < v) → ys_8_15 e 1047 κ σ (my_k0 (fun κ2 σ3 => (my_kI (fun x1 κ2 σ3 => my_bd (v4 + 1) e.2.1 ∧ my_M e 1049 216 [.inr (.inr (some 498)), .inl v] κ2 σ3 (my_k0 (fun κ5 σ6 => my_M e 1049 213 [.inr (.inr (some 498))] κ5 σ6 (my_kI (fun x7 κ8 σ9 => if x7 = x1 then ys_law_1663 e 1049 v4 κ8 σ9 Q else Q (.inl (some (.inl 0))) κ8 σ9) (fun y10 κ11 σ12 => Q (.inr y10) κ11 σ12))) (fun y13 κ14 σ15 => Q (.inr y13) κ14 σ15))) (fun y16 κ17 σ18 => Q (.inr y16) κ17 σ18)) (.inl (some (.inl 0))) κ2 σ3) (fun y4 κ5 σ6 => if y4.2 = 14 then (my_kI (fun x1 κ2 σ3 => my_bd (v4 + 1) e.2.1 ∧ my_M e 1049 216 [.inr (.inr (some 498)), .inl v] κ2 σ3 (my_k0 (fun κ5 σ6 => my_M e 1049 213 [.inr (.inr (some 498))] κ5 σ6 (my_kI (fun x7 κ8 σ9 => if x7 = x1 then ys_law_1663 e 1049 v4 κ8 σ9 Q else Q (.inl (some (.inl 0))) κ8 σ9) (fun y10 κ11 σ12 => Q (.inr y10) κ11 σ12))) (fun y13 κ14 σ15 => Q (.inr y13) κ14 σ15))) (fun y16 κ17 σ18 => Q (.inr y16) κ17 σ18)) (.inl (some (.inl 1))) κ5 σ6 else False)) := fun hb => by
    unfold ys_8_15
    refine ⟨⟨by decide, hc, hs⟩, ?_⟩
    rw [my_k0_x, if_pos rfl, my_kI_v]
    refine ⟨b1, ys_216 ?_⟩
    have key : ys_216_13 e 1048 v (κ.1 + 1, κ.2.1 - 1, κ.2.2 - 6) σ (my_k0 (fun κ5 σ6 => my_M e 1049 213 [.inr (.inr (some 498))] κ5 σ6 (my_kI (fun x7 κ8 σ9 => if x7 = 1 then ys_law_1663 e 1049 v4 κ8 σ9 Q else Q (.inl (some (.inl 0))) κ8 σ9) (fun y10 κ11 σ12 => Q (.inr y10) κ11 σ12))) (fun y13 κ14 σ15 => Q (.inr y13) κ14 σ15)) := by
      unfold ys_216_13 ys_216_18
      refine r_215_1 ?_
      rw [my_kI_v, if_neg (by decide)]
      unfold ys_216_30
      rw [my_k0_v]
      refine r_213 ?_
      rw [my_kI_v, if_pos (show (my_uI σ 498 0 1).1 498 0 = 1 from rfl)]
      exact h1 hb
    unfold ys_216_0
    split
    · exact key
    · rename_i h0
      rw [← hsz]
      split
      · exact key
      · rename_i h3
        exact absurd hb (fun h => h.elim h0 h3)
  unfold ys_8_0
  split
  · rename_i h
    exact bad (Or.inl h)
  · rename_i h0
    split
    · rename_i h
      exact bad (Or.inr h)
    · rename_i h3
      rw [my_k0_v, my_kI_v]
      refine ⟨b1, ys_216 ?_⟩
      unfold ys_216_0
      have q1 : (my_uI σ 33 1 v).1 498 2 = σ.1 498 2 := by simp [my_uI]
      rw [if_neg h0, q1, ← hsz, if_neg h3]
      unfold ys_216_18
      refine r_215_0 ?_
      rw [my_kI_v, if_pos rfl]
      unfold ys_216_30
      rw [my_k0_v]
      refine r_213 ?_
      rw [my_kI_v, if_pos (by simp [my_uI])]
      exact h2 h0 h3
end MYP9
