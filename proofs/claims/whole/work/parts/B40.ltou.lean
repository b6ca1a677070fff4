
/-! ===== touched of the law ===== -/
def isO (z : Et) (a : Ri) : Bool := decide (eN z = riN a) && decide (kdf (g1 (eC z) 0) = kdf (riF a))
def aO (E : List Et) (C : List Int32) (a : Ri) : Nat → Nat → Bool
  | 0, _ => false
  | m + 1, i => isO (eAt E (g2 C (11 + 2 * i))) a || aO E C a m (i + 1)
def toA (E : List Et) (As : List Ri) (C : List Int32) (v w : Int32) : Option Bool := if v = 3 ∧ w = Int32.ofInt (-1) then some (decide (g1 C 0 = 1) && decide (g2 C 1 = g2 C 8)) else if v < 0 ∨ (3 : Int32) < v then none else match fkA As (if v = 3 then 2 else v) w As.length 0 with
  | none => none
  | some k => match As[k]? with
    | none => none
    | some a => some (if v = 3 then decide (g1 C 0 = 1) && isO (eAt E (g2 C 1)) a else aO E C a (g1 C 10) 0)
section MLT
variable {As Bs : List Ri} {I I' : List It} {cnt cu ol sp A : Nat} {e : my_E} {d : Nat} {κ : my_K} {σ σ' : my_S} {Q : my_O → my_K → my_S → Prop} {E : List Et} {T : List Int32} {z : Nat × Et} {v4 : Int32}
theorem c_169 {j k : Nat} {a : Ri} (h : LD As I cu σ) (hS : LVs A E σ) (hz : (itp E)[j]? = some z) (ha : As[k]? = some a) (hd : 3 ≤ d) (hQ : Q (.inl (some (.inl (bI (isO z.2 a))))) κ σ) : my_M e d 169 [.inr (.inr (some 89)), .inl (Int32.ofNat j), .inr (.inr (some (cu + 4 + 3 * k)))] κ σ Q := by
  obtain ⟨d, rfl⟩ := dS 2 (show 2 ≤ d by omega)
  obtain ⟨z2, hk42⟩ := cl_nm h ha
  have hin := in11 h.2.2.1 hk42
  obtain ⟨i1, _⟩ := itf h.1 h.2.1 h.2.2.2.2.2.2.1 ha
  obtain ⟨hzp, hzk⟩ := itp_m (List.mem_of_getElem? hz)
  have hwf := wfl_p hS.2.1.1 hzp
  have hlen : 2 ≤ (eC z.2).length := by
    rcases hwf.2.2.2 with hh | hh
    · exact hh.2
    · omega
  have hl := (h.1.2 a (List.mem_of_getElem? ha))
  have hlt := kdf_lt hl.1
  have hg := g1_lt (eC z.2) 0
  have fin : ∀ b : Bool, b = isO z.2 a → ys_169_53 e (d + 1) (bI b) κ σ Q := fun b hb => by
    unfold ys_169_53
    rw [hb]
    exact ⟨by cases isO z.2 a; exact Or.inl rfl; exact Or.inr rfl, hQ⟩
  have two : ∀ t, t = Int32.ofNat (kdf (g1 (eC z.2) 0)) → ys_169_21 e (d + 1) (Int32.ofNat j) (some (cu + 4 + 3 * k)) t κ σ Q := fun t ht => by
    unfold ys_169_21
    refine c_155 hS (by omega) ?_
    rw [my_kA_v]
    refine ⟨A, rfl, in8 hS.1, c_176 hS.1 hS.2.1 hS.2.2.2.1 hz (by omega) ?_⟩
    rw [my_kL_v]
    refine ⟨_, rfl, hin, ?_⟩
    rw [z2]
    have hkl : kdf (g1 (eC z.2) 0) < 2147483648 := by unfold kdf; split <;> omega
    refine my_if (fun c => ⟨_, rfl, hin, ?_⟩) (fun c => ?_)
    · have c1 := (nmC_inj hwf.1 hl.2.1).mp (lg_cmp_0.mp c)
      rw [i1, ht]
      refine my_if (fun c2 => ?_) (fun c2 => ?_)
      · have c3 := (oN_e hkl (by omega)).mp c2
        exact fin true (by unfold isO; rw [decide_eq_true c1, decide_eq_true c3]; rfl)
      · have c3 : ¬ kdf (g1 (eC z.2) 0) = kdf (riF a) := fun hh => c2 (by rw [hh])
        unfold ys_169_52
        exact fin false (by unfold isO; rw [decide_eq_false c3, Bool.and_false])
    · have c1 : ¬ eN z.2 = riN a := fun hh => c (lg_cmp_0.mpr (by rw [hh]))
      unfold ys_169_52
      exact fin false (by unfold isO; rw [decide_eq_false c1, Bool.false_and])
  refine ys_169 ?_
  unfold ys_169_0
  refine c_155 hS (by omega) ?_
  rw [my_kA_v]
  refine ⟨A, rfl, in8 hS.1, ys_187 (in8 hS.1) ?_⟩
  unfold ys_187_0
  refine c_174 hS.1 hS.2.1 hS.2.2.2.1 hz (by omega) ?_
  rw [my_kI_v]
  refine c_3y (i := 0) hS.1 hS.2.1 hS.2.2.2.1 eqp_rf hzp (by omega) rfl (by omega) ?_
  rw [my_kI_v, my_kI_v]
  refine my_if (fun c => ?_) (fun c => ?_)
  · have c := (oN_lt (p := 2) (by omega) (by omega)).mp c
    refine two _ ?_
    unfold kdf
    rw [if_neg (by omega), show g1 (eC z.2) 0 = g1 (eC z.2) 0 - 1 + 1 by omega, oN_m]
    congr 1
  · have c : ¬ 2 < g1 (eC z.2) 0 := fun hh => c ((oN_lt (p := 2) (by omega) (by omega)).mpr hh)
    refine two _ ?_
    unfold kdf
    rw [if_pos (by omega)]
theorem r_345y {j k : Nat} {a : Ri} (h : LD As I cu σ) (hW : LgW E) (hR : LgR E T σ) (hP : PrR E σ) (hz : (itp E)[j]? = some z) (ha : As[k]? = some a) (hd : 4 ≤ d) (hQ : Q (.inl (some (.inl (bI (isO z.2 a))))) κ σ) : my_M e d 345 [.inr (.inr (some 498)), .inl (Int32.ofNat j), .inl (Int32.ofNat k)] κ σ Q := by
  obtain ⟨d, rfl⟩ := dS 1 (show 1 ≤ d by omega)
  have h42 := itsB_42 h.1
  have hkA := (List.getElem?_eq_some_iff.mp ha).1
  have hjE := (List.getElem?_eq_some_iff.mp hz).1
  have hnW := LgW_n hW
  obtain ⟨hzp, hzk⟩ := itp_m (List.mem_of_getElem? hz)
  have hwf := wfl_p hW.1 hzp
  have hzb := (pse_b hzp).2
  have hw2 := hW.2
  have hlen : 2 ≤ (eC z.2).length := by
    rcases hwf.2.2.2 with hh | hh
    · exact hh.2
    · omega
  have hl := (h.1.2 a (List.mem_of_getElem? ha))
  have hg := g1_lt (eC z.2) 0
  have e0 := lr_c (i := 0) hR hzp (by omega)
  rw [Nat.add_zero] at e0
  obtain ⟨y1, y2, _⟩ := h.2.2.2.2.2.2.2.2.1 k a ha
  have yes : kdf (g1 (eC z.2) 0) = kdf (riF a) → ys_345_66 e d (Int32.ofNat k) (Int32.ofNat z.1) κ σ Q := fun hk => by
    unfold ys_345_66 ys_345_71
    rw [if_neg (by decide), oN_n (by omega), y2]
    refine ⟨bdk (by omega) (by omega), r_287 hW hR hzp hl.2.1 (by omega) ?_⟩
    rw [my_kI_v]
    by_cases c : eN z.2 = riN a
    · rw [decide_eq_true c, if_neg (by decide)]
      unfold ys_345_97
      unfold isO at hQ
      rw [decide_eq_true c, decide_eq_true hk] at hQ
      exact ⟨Or.inr rfl, hQ⟩
    · rw [decide_eq_false c, if_pos (by decide)]
      unfold ys_345_96 ys_345_97
      unfold isO at hQ
      rw [decide_eq_false c, Bool.false_and] at hQ
      exact ⟨Or.inl rfl, hQ⟩
  have no : ¬ kdf (g1 (eC z.2) 0) = kdf (riF a) → ys_345_70 e d (Int32.ofNat k) (Int32.ofNat z.1) κ σ Q := fun hk => by
    unfold ys_345_70 ys_345_71 ys_345_96 ys_345_97
    rw [if_pos rfl]
    unfold isO at hQ
    rw [decide_eq_false hk, Bool.and_false] at hQ
    exact ⟨Or.inl rfl, hQ⟩
  have hf4 := hl.1
  have i2 : ∀ {n : Nat}, n < 300 → (Int32.ofNat n = 2 ↔ n = 2) := fun hn => oN_e (b := 2) (by omega) (by omega)
  have i3 : ∀ {n : Nat}, n < 300 → (Int32.ofNat n = 3 ↔ n = 3) := fun hn => oN_e (b := 3) (by omega) (by omega)
  have mid : (g1 (eC z.2) 0 = 2 ∨ g1 (eC z.2) 0 = 3) → ys_345_54 e d (Int32.ofNat k) (Int32.ofNat z.1) (Int32.ofNat (riF a)) κ σ Q := fun hm => by
    unfold ys_345_54
    refine my_if (fun c => yes ?_) (fun c => my_if (fun c2 => yes ?_) (fun c2 => no ?_))
    · have c := (i2 (by omega)).mp c
      rw [c]
      rcases hm with hm | hm <;> rw [hm] <;> rfl
    · have c2 := (i3 (by omega)).mp c2
      rw [c2]
      rcases hm with hm | hm <;> rw [hm] <;> rfl
    · have c : ¬ riF a = 2 := fun hh => c ((i2 (by omega)).mpr hh)
      have c2 : ¬ riF a = 3 := fun hh => c2 ((i3 (by omega)).mpr hh)
      unfold kdf
      split <;> split <;> omega
  refine ys_345 ?_
  unfold ys_345_0
  rw [oN_n (p := j) (by omega), (hP.1.2 j z hz).1, oN_n (p := z.1) (by omega), lr_n hR hzp hwf.1, oN_s, oN_a, oN_n (p := z.1 + 1 + (eN z.2).length) (by omega), e0, oN_n (p := k) (by omega), y1]
  refine ⟨bdk (by omega) (by omega), bdk (by omega) (by omega), bdk (by omega) (by omega), bdk (by omega) (by omega), u_273 hf4 (by omega) ?_⟩
  rw [my_kI_v]
  refine my_if (fun c => yes ?_) (fun c => my_if (fun c2 => mid ?_) (fun c2 => my_if (fun c3 => mid ?_) (fun c3 => no ?_)))
  · rw [(oN_e (by omega) (by omega)).mp c]
  · exact Or.inl ((i2 (by omega)).mp c2)
  · exact Or.inr ((i3 (by omega)).mp c3)
  · have c : ¬ g1 (eC z.2) 0 = riF a := fun hh => c (by rw [hh])
    have c2 : ¬ g1 (eC z.2) 0 = 2 := fun hh => c2 ((i2 (by omega)).mpr hh)
    have c3 : ¬ g1 (eC z.2) 0 = 3 := fun hh => c3 ((i3 (by omega)).mpr hh)
    unfold kdf
    split <;> split <;> omega
end MLT
