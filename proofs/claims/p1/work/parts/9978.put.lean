/-! ===== put and end ===== -/
/-- the sign at a place, as the class has it, and as the reference has it -/
def cb (v k : Int32) : Int32 := (((v).toUInt32 >>> (((8 * k) : Int32).toUInt32 &&& Int32.toUInt32 31)).toInt32 &&& 255)
def rb (v k : Int32) : Int32 := ((v >>> (k &&& 31)) &&& 255)
theorem cb_rb_of {v : Int32} {c : Nat} (hc : c + 8 ≤ 32) : (v.toBitVec >>> c) &&& 255#32 = (v.toBitVec.sshiftRight c) &&& 255#32 := by
  apply BitVec.eq_of_getLsbD_eq
  intro i hi
  simp only [BitVec.getLsbD_and, BitVec.getLsbD_ushiftRight, BitVec.getLsbD_sshiftRight]
  have h32 : ¬ 32 ≤ i := by omega
  by_cases h8 : i < 8
  · have h1 : c + i < 32 := by omega
    simp [h1, h32]
  · have h1 := (by decide : ∀ i : Fin 32, 8 ≤ i.val → (255#32).getLsbD i.val = false) ⟨i, hi⟩ (by show 8 ≤ i; omega)
    rw [show (255#32).getLsbD i = false from h1]
    simp
theorem cb_rb (v : Int32) : cb v 0 = rb v 0 ∧ cb v 1 = rb v 8 ∧ cb v 2 = rb v 16 ∧ cb v 3 = rb v 24 := by
  refine ⟨?_, ?_, ?_, ?_⟩
  · have := cb_rb_of (v := v) (c := 0) (by omega)
    exact Int32.toBitVec_inj.mp this
  · have := cb_rb_of (v := v) (c := 8) (by omega)
    exact Int32.toBitVec_inj.mp this
  · have := cb_rb_of (v := v) (c := 16) (by omega)
    exact Int32.toBitVec_inj.mp this
  · have := cb_rb_of (v := v) (c := 24) (by omega)
    exact Int32.toBitVec_inj.mp this
theorem rb_bd (v k : Int32) : 0 ≤ (rb v k).toInt ∧ (rb v k).toInt ≤ 255 := by
  unfold rb
  have h1 : ((v >>> (k &&& 31)) &&& 255).toBitVec = (v >>> (k &&& 31)).toBitVec &&& 255#32 := rfl
  have h2 : ((v >>> (k &&& 31)) &&& 255).toBitVec.toNat ≤ 255 := by
    rw [h1, BitVec.toNat_and]
    exact Nat.and_le_right
  have h3 : ((v >>> (k &&& 31)) &&& 255).toInt = (((v >>> (k &&& 31)) &&& 255).toBitVec.toNat : Int) := by
    show ((v >>> (k &&& 31)) &&& 255).toBitVec.toInt = _
    rw [BitVec.toInt_eq_toNat_of_lt (by omega)]
  omega
/-- no sign of a text -/
def bs (b : Int32) : Prop := ¬ b = 0 ∧ ¬ b = 10 ∧ (b < 32 ∨ 126 < b)
def nz (b : Int32) : Int32 := if b = 0 then 0 else 1
theorem nz_0 {b : Int32} (h : b = 0) (n : Int32) : n + nz b = n := by simp [nz, h]
theorem nz_1 {b : Int32} (h : ¬ b = 0) (n : Int32) : n + nz b = n + 1 := by simp [nz, h]
section MYP7
variable {e : my_E} {d : Nat} {κ : my_K} {σ : my_S} {Q : my_O → my_K → my_S → Prop} {v n k : Int32}
theorem c_7_s (hk : k < 4) (hb : bs (cb v k) → ys_7_47 e d κ σ Q) (hg : ¬ bs (cb v k) → ys_7_4 e d v (n + nz (cb v k)) (k + 1) κ σ Q) : ys_7_4 e d v n k κ σ Q := by
  have hg0 : ¬ bs (cb v k) → ys_7_60 e d v (n + nz (cb v k)) k κ σ Q := fun h => ys_7_4_ok (hg h)
  unfold ys_7_4
  rw [if_pos hk]
  change if cb v k = 0 then _ else (if cb v k = 10 then _ else (if cb v k < 32 then _ else (if 126 < cb v k then _ else _)))
  split
  · rename_i h
    have := hg0 (fun hh => hh.1 h)
    rwa [nz_0 h] at this
  · rename_i h0
    have key : ¬ bs (cb v k) → ys_7_57 e d v n k κ σ Q := fun h => by
      have := hg0 h
      rwa [nz_1 h0] at this
    split
    · rename_i h
      exact key (fun hh => hh.2.1 h)
    · rename_i h10
      split
      · rename_i h
        exact hb ⟨h0, h10, Or.inl h⟩
      · rename_i h32
        split
        · rename_i h
          exact hb ⟨h0, h10, Or.inr h⟩
        · rename_i h126
          exact key (fun hh => hh.2.2.elim h32 h126)
def any4 (v : Int32) : Prop := bs (rb v 0) ∨ bs (rb v 8) ∨ bs (rb v 16) ∨ bs (rb v 24)
def cnt4 (v : Int32) : Int32 := (((0 + nz (rb v 0)) + nz (rb v 8)) + nz (rb v 16)) + nz (rb v 24)
theorem c_7_a (hb : any4 v → ys_7_47 e d κ σ Q) (hg : ¬ any4 v → ys_7_4 e d v (cnt4 v) 4 κ σ Q) : ys_7_4 e d v 0 0 κ σ Q := by
  obtain ⟨e0, e1, e2, e3⟩ := cb_rb v
  refine c_7_s (by decide) (fun h => hb (Or.inl (e0 ▸ h))) (fun h0 => ?_)
  refine c_7_s (by decide) (fun h => hb (Or.inr (Or.inl (e1 ▸ h)))) (fun h1 => ?_)
  refine c_7_s (by decide) (fun h => hb (Or.inr (Or.inr (Or.inl (e2 ▸ h))))) (fun h2 => ?_)
  refine c_7_s (by decide) (fun h => hb (Or.inr (Or.inr (Or.inr (e3 ▸ h))))) (fun h3 => ?_)
  have := hg (fun h => h.elim (fun h => h0 (e0.symm ▸ h)) (fun h => h.elim (fun h => h1 (e1.symm ▸ h)) (fun h => h.elim (fun h => h2 (e2.symm ▸ h)) (fun h => h3 (e3.symm ▸ h)))))
  unfold cnt4 at this
  rw [← e0, ← e1, ← e2, ← e3] at this
  exact this
/-- a sign is added, as the class does it, and as the reference does it -/
def cad (σ : my_S) (b : Int32) : my_S := if b = 0 then σ else my_uI (my_uI σ 34 (σ.1 33 1).toNatClampNeg b.toInt8.toInt32.toInt8.toInt32) 33 1 (σ.1 33 1 + 1)
def rad (σ : my_S) (b : Int32) : my_S := if b = 0 then σ else my_uI (my_uI σ 499 (σ.1 498 2).toNatClampNeg b) 498 2 (σ.1 498 2 + 1)
theorem cad_c (σ : my_S) (b : Int32) : (cad σ b).1 33 1 = σ.1 33 1 + nz b := by
  unfold cad nz
  split
  · simp
  · simp [my_uI]
theorem cad_r (σ : my_S) (b : Int32) : (cad σ b).1 498 = σ.1 498 := by
  unfold cad
  split
  · rfl
  · funext j; simp [my_uI]
theorem rad_r (σ : my_S) (b : Int32) : (rad σ b).1 498 2 = σ.1 498 2 + nz b := by
  unfold rad nz
  split
  · simp
  · simp [my_uI]
theorem c_56 {b : Int32} (h0 : 0 ≤ (σ.1 33 1).toInt) (h1 : (σ.1 33 1).toInt < 1500) (hb : ¬ b = 0) (hQ : Q (.inl none) κ (cad σ b)) : my_M e (d + 1) 56 [.inr (.inr (some 33)), .inl b] κ σ Q := by
  refine ys_56 ?_
  unfold ys_56_0
  rw [if_neg (by rw [Int32.lt_iff_toInt_lt]; simpa using h0), if_pos (by rw [Int32.lt_iff_toInt_lt]; simpa using h1)]
  refine ⟨⟨h0, h1⟩, ?_⟩
  unfold ys_56_40
  unfold cad at hQ
  rwa [if_neg hb] at hQ
theorem c_7_t (hk : k < 4) (hr : ¬ cb v k = 0 → 0 ≤ (σ.1 33 1).toInt ∧ (σ.1 33 1).toInt < 1500) (hn : ys_7_93 e (d + 1) v (k + 1) κ (cad σ (cb v k)) Q) : ys_7_93 e (d + 1) v k κ σ Q := by
  unfold ys_7_93
  rw [if_pos hk]
  change if cb v k = 0 then _ else _
  split
  · rename_i h
    unfold cad at hn
    rw [if_pos h] at hn
    exact ys_7_93_ok hn
  · rename_i h
    obtain ⟨h0, h1⟩ := hr h
    exact c_56 h0 h1 h (by rw [my_k0_v]; exact ys_7_93_ok hn)
def nzN (b : Int32) : Nat := if b = 0 then 0 else 1
theorem nz_add {n : Int32} {b : Int32} {m : Nat} (h : n.toInt = (m : Int)) (hm : m + 1 < 2147483648) : (n + nz b).toInt = ((m + nzN b : Nat) : Int) := by
  unfold nz nzN
  split
  · simp [h]
  · rw [Int32.toInt_add, h]
    have : (1 : Int32).toInt = 1 := rfl
    rw [this, Int.bmod_eq_of_le (by omega) (by omega)]
    simp
def cN (v : Int32) : Nat := nzN (rb v 0) + nzN (rb v 8) + nzN (rb v 16) + nzN (rb v 24)
theorem nzN_le (b : Int32) : nzN b ≤ 1 := by unfold nzN; split <;> omega
theorem cnt4_toInt (v : Int32) : (cnt4 v).toInt = (cN v : Int) := by
  have a := nzN_le (rb v 0)
  have b := nzN_le (rb v 8)
  have c := nzN_le (rb v 16)
  unfold cnt4 cN
  have h0 := nz_add (n := 0) (b := rb v 0) (m := 0) rfl (by omega)
  have h1 := nz_add (b := rb v 8) h0 (by omega)
  have h2 := nz_add (b := rb v 16) h1 (by omega)
  have h3 := nz_add (b := rb v 24) h2 (by omega)
  rw [h3]
  congr 1
  omega
def cad4 (σ : my_S) (v : Int32) : my_S := cad (cad (cad (cad σ (rb v 0)) (rb v 8)) (rb v 16)) (rb v 24)
def rad4 (σ : my_S) (v : Int32) : my_S := rad (rad (rad (rad σ (rb v 0)) (rb v 8)) (rb v 16)) (rb v 24)
theorem c_7_b {m : Nat} (hm : (σ.1 33 1).toInt = (m : Int)) (hr : m + cN v ≤ 1500) (hQ : Q (.inl (some (.inl ((cad4 σ v).1 33 1)))) κ (cad4 σ v)) : ys_7_93 e (d + 1) v 0 κ σ Q := by
  obtain ⟨e0, e1, e2, e3⟩ := cb_rb v
  unfold cN at hr
  have s1 := nz_add (b := rb v 0) hm (by omega)
  rw [← cad_c] at s1
  have s2 := nz_add (b := rb v 8) s1 (by omega)
  rw [← cad_c] at s2
  have s3 := nz_add (b := rb v 16) s2 (by omega)
  rw [← cad_c] at s3
  have key : ∀ {b : Int32} {t : Int32} {m' : Nat}, t.toInt = (m' : Int) → m' + nzN b ≤ 1500 → ¬ b = 0 → 0 ≤ t.toInt ∧ t.toInt < 1500 := by
    intro b t m' h1 h2 h3
    unfold nzN at h2
    rw [if_neg h3] at h2
    omega
  have a := nzN_le (rb v 8)
  have b := nzN_le (rb v 16)
  have c := nzN_le (rb v 24)
  refine c_7_t (by decide) (fun h => key (b := cb v 0) hm (by rw [e0]; omega) h) ?_
  rw [e0]
  refine c_7_t (by decide) (fun h => key (b := cb v 1) s1 (by rw [e1]; omega) h) ?_
  change ys_7_93 e (d + 1) v (1 + 1) κ (cad _ (cb v 1)) Q
  rw [e1]
  refine c_7_t (by decide) (fun h => key (b := cb v 2) s2 (by rw [e2]; omega) h) ?_
  change ys_7_93 e (d + 1) v (2 + 1) κ (cad _ (cb v 2)) Q
  rw [e2]
  refine c_7_t (by decide) (fun h => key (b := cb v 3) s3 (by rw [e3]; omega) h) ?_
  change ys_7_93 e (d + 1) v (3 + 1) κ (cad _ (cb v 3)) Q
  rw [e3]
  unfold ys_7_93
  rw [if_neg (by decide)]
  exact hQ
theorem c_7 {m : Nat} (hm : (σ.1 33 1).toInt = (m : Int)) (hm1 : m ≤ 1500) (hd : 5 ≤ d + 1) (hc : 1 ≤ κ.2.1) (hs : 6 ≤ κ.2.2)
    (h1 : any4 v → Q (.inr (κ.1, 14)) (κ.1 + 1, κ.2.1 - 1, κ.2.2 - 6) σ)
    (h2 : ¬ any4 v → 1500 < m + cN v → Q (.inr (κ.1, 16)) (κ.1 + 1, κ.2.1 - 1, κ.2.2 - 6) σ)
    (h3 : ¬ any4 v → m + cN v ≤ 1500 → Q (.inl (some (.inl ((cad4 σ v).1 33 1)))) κ (cad4 σ v)) : my_M e (d + 2) 7 [.inr (.inr (some 32)), .inl v] κ σ Q := by
  refine ys_7 ?_
  unfold ys_7_0
  refine ys_7_4_ok ?_
  refine c_7_a (fun h => ⟨⟨hd, hc, hs⟩, h1 h⟩) (fun h => ?_)
  unfold ys_7_4
  rw [if_neg (by decide)]
  have e1 : (σ.1 33 1 + cnt4 v).toInt = ((m + cN v : Nat) : Int) := by
    have a := nzN_le (rb v 0)
    have b := nzN_le (rb v 8)
    have c := nzN_le (rb v 16)
    have d := nzN_le (rb v 24)
    have hcn : cN v ≤ 4 := by unfold cN; omega
    rw [Int32.toInt_add, hm, cnt4_toInt, Int.bmod_eq_of_le (by omega) (by omega)]
    simp
  split
  · rename_i hh
    rw [Int32.lt_iff_toInt_lt, e1] at hh
    have : (1500 : Int32).toInt = 1500 := rfl
    exact ⟨⟨hd, hc, hs⟩, h2 h (by omega)⟩
  · rename_i hh
    rw [Int32.lt_iff_toInt_lt, e1] at hh
    have : (1500 : Int32).toInt = 1500 := rfl
    have hle : m + cN v ≤ 1500 := by omega
    exact ys_7_93_ok (c_7_b hm hle (h3 h hle))
end MYP7
