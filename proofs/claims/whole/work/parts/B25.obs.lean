
/-! ===== what is asked of a trace: both machines answer alike ===== -/
theorem fkA_n {As : List Ri} {v1 v2 : Int32} : ∀ {m j k : Nat}, fkA As v1 v2 m j = some k → ∃ b, As[k]? = some b ∧ Int32.ofNat (kdf (riF b)) = v1 ∧ Int32.ofNat (nmk As k) = v2
  | 0, j, k, h => by unfold fkA at h; cases h
  | m + 1, j, k, h => by
    unfold fkA at h
    cases ha : As[j]? with
    | none => rw [ha] at h; cases h
    | some a =>
      rw [ha] at h
      dsimp only at h
      split at h
      · rename_i hc
        cases h
        refine ⟨a, ha, hc.1, ?_⟩
        unfold nmk
        rw [ha]
        exact hc.2
      · exact fkA_n h
def nlA (As : List Ri) (j : Nat) : Nat := match As[j]? with
  | none => 0
  | some b => (riL b).length
def trV (As : List Ri) (s : Ms) (u v : Int32) : Option Int32 := if v = 0 then some (enI (zE s)) else if v = 1 then some (Int32.ofNat (zF s)) else if v = 2 then some (Int32.ofNat (zD s)) else if v = 3 then some (if zD s = 0 then Int32.ofInt (-1) else Int32.ofNat (nmk As (zw s (zD s)))) else if v = 4 then some (Int32.ofNat (zP s (zD s))) else if v = 5 then some (Int32.ofNat (zT s - zB s (zD s))) else if v = 6 then some u else none
def vlV (s : Ms) (v : Int32) : Option Int32 := if v < 0 then none else if v < Int32.ofNat (zT s - zB s (zD s)) then some (zV s (zT s - 1 - v.toNatClampNeg)) else none
def loV (As : List Ri) (s : Ms) (v : Int32) : Option Int32 := if v < 0 then none else if v < Int32.ofNat (nlA As (zw s (zD s))) then some (zL s (10 * zD s + v.toNatClampNeg)) else none
def glV (As : List Ri) (s : Ms) (v : Int32) : Option Int32 := if v < 0 then none else if v < Int32.ofNat (cnK As 0) then some (zG s v.toNatClampNeg) else none
def ceV (As : List Ri) (s : Ms) (v w : Int32) : Option Int32 := match fkA As 1 v As.length 0 with
  | none => none
  | some k => if w < 0 then none else if w < alA As k then some (zC s (32 * nmk As k + w.toNatClampNeg)) else none
def toV (As : List Ri) (s : Ms) (v w : Int32) : Option Int32 := if v < 0 then none else if v < 3 then (match fkA As v w As.length 0 with
  | none => none
  | some k => some (if zt s v.toNatClampNeg (nmk As k) = true then 1 else 0)) else none
def TRz (cu : Nat) (As : List Ri) (I : List It) (s : Ms) (u : Int32) (σ : my_S) : Prop := LOf As I ∧ LD As I cu σ ∧ σ.1 32 11 = 1 ∧ σ.1 498 133 = 1 ∧ σ.1 498 135 = u ∧ σ.1 53 13 = u ∧ CMs 53 cu s σ ∧ WE As I s ∧ RAs As I s σ
section MOB
variable {As : List Ri} {I : List It} {cu : Nat} {e : my_E} {d : Nat} {κ : my_K} {σ : my_S} {Q : my_O → my_K → my_S → Prop} {s : Ms} {u v w : Int32}
theorem TRz_o {F : Nat → Nat → Prop} {σ' : my_S} (h : TRz cu As I s u σ) (f : eqp F σ σ') (hF : ∀ c k, F c k → (c = 498 ∧ k = 0) ∨ c = 585) : TRz cu As I s u σ' := by
  obtain ⟨h1, h2, h3, h4, h5, h6, h7, h8, h9⟩ := h
  have hcu := h2.2.2.1
  exact ⟨h1, LD_o (LD_30 h2) h2 f (fun c k hh => by have := hF c k hh; unfold coF; omega), (eqp_g f (fun hh => by have := hF _ _ hh; omega)).trans h3, (eqp_g f (fun hh => by have := hF _ _ hh; omega)).trans h4, (eqp_g f (fun hh => by have := hF _ _ hh; omega)).trans h5, (eqp_g f (fun hh => by have := hF _ _ hh; omega)).trans h6, CMs_o h7 f (fun c k hh => by have := hF c k hh; omega), h8, RAs_o h9 f (fun c k hh => by have := hF c k hh; unfold raF; omega)⟩
/-- the routine on top -/
theorem TRz_t (h : TRz cu As I s u σ) : ∃ a, CDO As I (zw s (zD s)) a ∧ (zD s = 0 ↔ riF a = 4) ∧ zw s (zD s) < 42 ∧ zD s ≤ 20 ∧ riF a ≤ 4 ∧ zT s ≤ 2016 ∧ zB s (zD s) ≤ zT s ∧ zF s ≤ 3000 := by
  obtain ⟨h1, h2, h3, h4, h5, h6, h7, h8, h9⟩ := h
  have h42 := itsB_42 h2.1
  obtain ⟨w1, w2, w3, w4, w5⟩ := h8
  obtain ⟨a, cd, _, q⟩ := w5 (zD s) (Nat.le_refl _)
  have := (List.getElem?_eq_some_iff.mp cd.1).1
  exact ⟨a, cd, q, by omega, w1, (h2.1.2 a (List.mem_of_getElem? cd.1)).1, w3, w4, w2⟩
theorem m_133 (h : TRz cu As I s u σ) (hd : 1 ≤ d) (hQ : Q (.inl (some (.inr (.inr (some (cu + 4 + 3 * zw s (zD s))))))) κ σ) : my_M e d 133 [.inr (.inr (some 53))] κ σ Q := by
  obtain ⟨d, rfl⟩ := dS 1 hd
  obtain ⟨a, cd, q, q2, q3, _⟩ := TRz_t h
  obtain ⟨h1, h2, h3, h4, h5, h6, h7, h8, h9⟩ := h
  refine ys_133 (in4 (Or.inr rfl)) ?_
  unfold ys_133_0 ys_133_32
  rw [h7.2.2.1.1, if_neg (oN_0 (by omega)), if_pos ((oN_lt1 (b := 21) (c := 21) rfl (by omega) (by omega)).mpr (by omega)), oN_n (by omega), (h7.2.2.1.2 _ (Nat.le_refl _)).1]
  exact ⟨bdk (by omega) (by omega), hQ⟩
theorem m_132 (h : TRz cu As I s u σ) (hd : 2 ≤ d) (hQ : Q (.inl (some (.inl (if zD s = 0 then Int32.ofInt (-1) else Int32.ofNat (nmk As (zw s (zD s))))))) κ σ) : my_M e d 132 [.inr (.inr (some 53))] κ σ Q := by
  obtain ⟨d, rfl⟩ := dS 1 (show 1 ≤ d by omega)
  obtain ⟨a, cd, q, q2, q3, q4, _⟩ := TRz_t h
  have h' := h
  obtain ⟨h1, h2, h3, h4, h5, h6, h7, h8, h9⟩ := h
  obtain ⟨i1, i2, _⟩ := itf h2.1 h2.2.1 h2.2.2.2.2.2.2.1 cd.1
  have hin := in11 h2.2.2.1 q2
  refine ys_132 (in4 (Or.inr rfl)) ?_
  unfold ys_132_0
  refine m_133 h' (by omega) ?_
  rw [my_kA_v, if_neg (by simp)]
  refine ⟨_, rfl, hin, ?_⟩
  rw [i1]
  have hlt := kdf_lt q4
  have cd2 := cd.2.1
  by_cases c : zD s = 0
  · have h4 := q.mp c
    rw [if_pos c] at hQ
    rw [if_neg (fun hh => by have := (oN_e (b := 2) (by omega) (by omega)).mp hh; rw [h4] at this; exact absurd this (by decide))]
    unfold ys_132_17 ys_132_25
    exact hQ
  · have h4 : ¬ riF a = 4 := fun hh => c (q.mpr hh)
    rw [if_neg c] at hQ
    have e2 : kdf (riF a) = 2 := by unfold kdf; split <;> omega
    rw [e2, if_pos (show Int32.ofNat 2 = 2 from rfl)]
    refine ⟨_, rfl, hin, ?_⟩
    unfold ys_132_25
    rw [i2]
    exact hQ
theorem m_134 (h : TRz cu As I s u σ) (hd : 1 ≤ d) (hQ : Q (.inl (some (.inl (Int32.ofNat (zP s (zD s)))))) κ σ) : my_M e d 134 [.inr (.inr (some 53))] κ σ Q := by
  obtain ⟨d, rfl⟩ := dS 1 hd
  obtain ⟨a, cd, q, q2, q3, _⟩ := TRz_t h
  obtain ⟨h1, h2, h3, h4, h5, h6, h7, h8, h9⟩ := h
  refine ys_134 (in4 (Or.inr rfl)) ?_
  unfold ys_134_0 ys_134_32
  rw [h7.2.2.1.1, if_neg (oN_0 (by omega)), if_pos ((oN_lt1 (b := 21) (c := 21) rfl (by omega) (by omega)).mpr (by omega)), oN_n (by omega), (h7.2.2.1.2 _ (Nat.le_refl _)).2.1]
  exact ⟨bdk (by omega) (by omega), hQ⟩
theorem m_135 (h : TRz cu As I s u σ) (hd : 1 ≤ d) (hQ : Q (.inl (some (.inl (Int32.ofNat (zT s - zB s (zD s)))))) κ σ) : my_M e d 135 [.inr (.inr (some 53))] κ σ Q := by
  obtain ⟨d, rfl⟩ := dS 1 hd
  obtain ⟨a, cd, q, q2, q3, _, q5, q6, _⟩ := TRz_t h
  obtain ⟨h1, h2, h3, h4, h5, h6, h7, h8, h9⟩ := h
  refine ys_135 (in4 (Or.inr rfl)) ?_
  unfold ys_135_0 ys_135_37
  rw [h7.2.2.1.1, if_neg (oN_0 (by omega)), if_pos ((oN_lt1 (b := 21) (c := 21) rfl (by omega) (by omega)).mpr (by omega)), oN_n (by omega), (h7.2.2.1.2 _ (Nat.le_refl _)).2.2, h7.2.1.1]
  refine ⟨bdk (by omega) (by omega), ?_⟩
  conv at hQ => rw [← oN_d (zB s (zD s)) (zT s - zB s (zD s)), show zB s (zD s) + (zT s - zB s (zD s)) = zT s by omega]
  exact hQ
theorem r_368b (h : TRz cu As I s u σ) (hd : 1 ≤ d) (hQ : Q (.inl (some (.inl (Int32.ofNat (zT s - zB s (zD s)))))) κ σ) : my_M e d 368 [.inr (.inr (some 498))] κ σ Q := by
  obtain ⟨d, rfl⟩ := dS 1 hd
  obtain ⟨a, cd, q, q2, q3, _, q5, q6, _⟩ := TRz_t h
  obtain ⟨h1, h2, h3, h4, h5, h6, h7, h8, h9⟩ := h
  refine ys_368 ?_
  unfold ys_368_0
  rw [h9.2.1.1, oN_n (by omega), (h9.2.1.2 _ (Nat.le_refl _)).2, h9.1.1]
  refine ⟨bdk (by omega) (by omega), ?_⟩
  conv at hQ => rw [← oN_d (zB s (zD s)) (zT s - zB s (zD s)), show zB s (zD s) + (zT s - zB s (zD s)) = zT s by omega]
  exact hQ
/-- how many routines come before -/
theorem r_367l (hB : itsB As) (hn : ∀ k a, As[k]? = some a → σ.1 529 k = Int32.ofNat (riF a + 10)) (hd : 1 ≤ d) {K : Nat} (hK : K ≤ As.length) (hQ : Q (.inl (some (.inl (Int32.ofNat (cnK (As.take K) 2))))) κ σ) : ∀ (m j : Nat), j + m = K → ys_367_4 e d (Int32.ofNat K) (Int32.ofNat (cnK (As.take j) 2)) (Int32.ofNat j) κ σ Q := by
  have h42 := itsB_42 hB
  intro m
  induction m with
  | zero =>
    intro j hj
    have : j = K := by omega
    subst this
    unfold ys_367_4
    rw [if_neg (by rw [oN_lt (by omega) (by omega)]; omega)]
    exact hQ
  | succ m ih =>
    intro j hj
    have hl : j < As.length := by omega
    have ha := List.getElem?_eq_getElem hl
    generalize As[j] = a at ha
    have hF := (hB.2 a (List.mem_of_getElem? ha)).1
    have ht : As.take (j + 1) = As.take j ++ [a] := by rw [List.take_succ, ha]; rfl
    have ih1 := ih (j + 1) (by omega)
    rw [ht, cnK_a] at ih1
    simp only [cnK] at ih1
    unfold ys_367_4
    rw [if_pos ((oN_lt (by omega) (by omega)).mpr (by omega)), oN_n (by omega), hn j a ha]
    refine ⟨bdk (by omega) (by omega), r_228 hF hd ?_⟩
    rw [my_kI_v]
    have hs : srt (riF a) = 2 ↔ kdf (riF a) = 2 := srt_k (g := 2) hF (by omega)
    have hse : srt (riF a) ≤ 4 := by unfold srt; split <;> omega
    by_cases c : kdf (riF a) = 2
    · rw [if_pos (by rw [hs.mpr c]; rfl)]
      unfold ys_367_29
      rw [if_pos (show kdf a.1 = 2 from c)] at ih1
      rw [oN_s, oN_s]
      refine ys_367_4_ok ?_
      rw [Nat.add_zero] at ih1
      exact ih1
    · rw [if_neg (fun hh => c (hs.mp (by have := (oN_e (b := 12) (by omega) (by omega)).mp hh; omega)))]
      unfold ys_367_29
      rw [if_neg (show ¬ kdf a.1 = 2 from c)] at ih1
      rw [oN_s, Int32.add_zero]
      refine ys_367_4_ok ?_
      rw [Nat.add_zero, Nat.add_zero] at ih1
      exact ih1
theorem r_367 (hB : itsB As) (hn : ∀ k a, As[k]? = some a → σ.1 529 k = Int32.ofNat (riF a + 10)) (hd : 2 ≤ d) {K : Nat} (hK : K ≤ As.length) (hQ : Q (.inl (some (.inl (Int32.ofNat (cnK (As.take K) 2))))) κ σ) : my_M e d 367 [.inr (.inr (some 498)), .inl (Int32.ofNat K)] κ σ Q := by
  obtain ⟨d, rfl⟩ := dS 1 (show 1 ≤ d by omega)
  refine ys_367 ?_
  unfold ys_367_0
  exact ys_367_4_ok (r_367l hB hn (by omega) hK hQ K 0 (by omega))
theorem trV_n (h0 : ¬ v < 0) (h6 : ¬ (6 : Int32) < v) : ¬ trV As s u v = none := by
  obtain ⟨w, hw, hw2⟩ := nn_of h0
  have hw6 : w ≤ 6 := by
    by_cases hh : w ≤ 6
    · exact hh
    · exfalso
      apply h6
      rw [hw]
      exact (oN_lt (p := 6) (by omega) hw2).mpr (by omega)
  have hc : w = 0 ∨ w = 1 ∨ w = 2 ∨ w = 3 ∨ w = 4 ∨ w = 5 ∨ w = 6 := by omega
  clear hw2 hw6 h0 h6
  rcases hc with rfl | rfl | rfl | rfl | rfl | rfl | rfl
  · have hw : v = 0 := hw
    subst hw
    intro hh
    unfold trV at hh
    rw [if_pos rfl] at hh
    cases hh
  · have hw : v = 1 := hw
    subst hw
    intro hh
    unfold trV at hh
    rw [if_neg (by decide), if_pos rfl] at hh
    cases hh
  · have hw : v = 2 := hw
    subst hw
    intro hh
    unfold trV at hh
    rw [if_neg (by decide), if_neg (by decide), if_pos rfl] at hh
    cases hh
  · have hw : v = 3 := hw
    subst hw
    intro hh
    unfold trV at hh
    rw [if_neg (by decide), if_neg (by decide), if_neg (by decide), if_pos rfl] at hh
    cases hh
  · have hw : v = 4 := hw
    subst hw
    intro hh
    unfold trV at hh
    rw [if_neg (by decide), if_neg (by decide), if_neg (by decide), if_neg (by decide), if_pos rfl] at hh
    cases hh
  · have hw : v = 5 := hw
    subst hw
    intro hh
    unfold trV at hh
    rw [if_neg (by decide), if_neg (by decide), if_neg (by decide), if_neg (by decide), if_neg (by decide), if_pos rfl] at hh
    cases hh
  · have hw : v = 6 := hw
    subst hw
    intro hh
    unfold trV at hh
    rw [if_neg (by decide), if_neg (by decide), if_neg (by decide), if_neg (by decide), if_neg (by decide), if_neg (by decide), if_pos rfl] at hh
    cases hh
theorem c_29b (h : TRz cu As I s u σ) (hκ : 1 ≤ κ.2.1 ∧ 6 ≤ κ.2.2) (hd : 6 ≤ d) (hx : trV As s u v = none → Q (.inr (κ.1, 14)) (κ.1 + 1, κ.2.1 - 1, κ.2.2 - 6) σ) (hQ : ∀ x, trV As s u v = some x → Q (.inl (some (.inl x))) κ σ) : my_M e d 29 [.inr (.inr (some 32)), .inl v] κ σ Q := by
  obtain ⟨d, rfl⟩ := dS 2 (show 2 ≤ d by omega)
  have h' := h
  obtain ⟨h1, h2, h3, h4, h5, h6, h7, h8, h9⟩ := h
  refine ys_29 ?_
  unfold ys_29_0
  refine ys_28 ?_
  unfold ys_28_0
  rw [h3, if_neg (by decide), my_k0_v]
  unfold trV at hx hQ
  by_cases c0 : v = 0
  · rw [if_pos c0] at hQ ⊢; rw [h7.2.2.2.2.2.2.2.2.1]; exact hQ _ rfl
  rw [if_neg c0] at hx hQ ⊢
  by_cases c1 : v = 1
  · rw [if_pos c1] at hQ ⊢; rw [h7.2.2.2.2.2.2.2.1]; exact hQ _ rfl
  rw [if_neg c1] at hx hQ ⊢
  by_cases c2 : v = 2
  · rw [if_pos c2] at hQ ⊢; rw [h7.2.2.1.1]; exact hQ _ rfl
  rw [if_neg c2] at hx hQ ⊢
  by_cases c3 : v = 3
  · rw [if_pos c3] at hQ ⊢
    refine m_132 h' (by omega) ?_
    rw [my_kI_v]; exact hQ _ rfl
  rw [if_neg c3] at hx hQ ⊢
  by_cases c4 : v = 4
  · rw [if_pos c4] at hQ ⊢
    refine m_134 h' (by omega) ?_
    rw [my_kI_v]; exact hQ _ rfl
  rw [if_neg c4] at hx hQ ⊢
  by_cases c5 : v = 5
  · rw [if_pos c5] at hQ ⊢
    refine m_135 h' (by omega) ?_
    rw [my_kI_v]; exact hQ _ rfl
  rw [if_neg c5] at hx hQ ⊢
  by_cases c6 : v = 6
  · rw [if_pos c6] at hQ ⊢; rw [h6]; exact hQ _ rfl
  rw [if_neg c6] at hx ⊢
  exact ⟨⟨by omega, hκ⟩, hx rfl⟩
theorem r_366b (h : TRz cu As I s u σ) (hd : 4 ≤ d) (hx : trV As s u v = none → ∀ σ', σ'.1 498 0 = 2 → eqp (fun c k => c = 498 ∧ k = 0) σ σ' → ∀ x, Q (.inl (some (.inl x))) κ σ') (hQ : ∀ x, trV As s u v = some x → ∀ σ', σ'.1 498 0 = 0 → eqp (fun c k => c = 498 ∧ k = 0) σ σ' → Q (.inl (some (.inl x))) κ σ') : my_M e d 366 [.inr (.inr (some 498)), .inl v] κ σ Q := by
  obtain ⟨d, rfl⟩ := dS 2 (show 2 ≤ d by omega)
  refine ys_366 ?_
  unfold ys_366_0
  rw [h.2.2.2.1, if_neg (by decide)]
  unfold ys_366_13
  have bad : trV As s u v = none → ys_366_23 e (d + 1) v 0 κ σ Q := fun hv => by
    unfold ys_366_23 ys_366_28
    refine r_215_2 ?_
    rw [my_kI_v, if_neg (by decide)]
    exact hx hv _ uI_s (eqp_I eqp_rf ⟨rfl, rfl⟩) _
  have nn : ∀ {n : Nat}, n ≤ 6 → v = Int32.ofNat n → ¬ v < 0 ∧ ¬ (6 : Int32) < v := fun {n} hn hv => by
    rw [hv]
    exact ⟨oN_0 (by omega), fun hh => by have := (oN_lt (p := 6) (by omega) (by omega)).mp hh; omega⟩
  have out : (v < 0 ∨ (6 : Int32) < v) → trV As s u v = none := fun hv => by
    have k : ∀ n : Nat, n ≤ 6 → v ≠ Int32.ofNat n := fun n hn hh => by
      have := nn hn hh
      rcases hv with hv | hv
      · exact this.1 hv
      · exact this.2 hv
    unfold trV
    rw [if_neg (show ¬ v = 0 from k 0 (by omega)), if_neg (show ¬ v = 1 from k 1 (by omega)), if_neg (show ¬ v = 2 from k 2 (by omega)), if_neg (show ¬ v = 3 from k 3 (by omega)), if_neg (show ¬ v = 4 from k 4 (by omega)), if_neg (show ¬ v = 5 from k 5 (by omega)), if_neg (show ¬ v = 6 from k 6 (by omega))]
  refine my_if (fun c => bad (out (Or.inl c))) (fun c => my_if (fun c2 => bad (out (Or.inr c2))) (fun c2 => ?_))
  have hnn := trV_n (As := As) (s := s) (u := u) c c2
  clear bad out nn hx
  unfold ys_366_28
  refine r_215_0 ?_
  rw [my_kI_v, if_pos rfl]
  have f1 : eqp (fun c k => c = 498 ∧ k = 0) σ (my_uI σ 498 0 0) := eqp_I eqp_rf ⟨rfl, rfl⟩
  have u1 : (my_uI σ 498 0 0).1 498 0 = 0 := uI_s
  have hh := TRz_o h f1 (fun c k hh => Or.inl hh)
  generalize my_uI σ 498 0 0 = σ1 at f1 u1 hh ⊢
  have hQ1 : ∀ x, trV As s u v = some x → Q (.inl (some (.inl x))) κ σ1 := fun x hv => hQ x hv σ1 u1 f1
  clear hQ
  obtain ⟨a, cd, q, q2, q3, q4, q5, q6, q7⟩ := TRz_t hh
  have h' := hh
  obtain ⟨h1, h2, h3, h4, h5, h6, h7, h8, h9⟩ := hh
  have hA := (List.getElem?_eq_some_iff.mp cd.1).1
  unfold trV at hQ1 hnn
  by_cases c0 : v = 0
  · rw [if_pos c0] at hQ1 ⊢
    have hQ1 := hQ1 _ rfl
    rw [h9.2.2.2.2.2.2.2.2.1]
    unfold ys_366_91
    cases hE : zE s with
    | none => rw [hE] at hQ1; rw [if_pos rfl, if_pos rfl]; exact hQ1
    | some n => rw [hE] at hQ1; rw [if_neg (by simp), h9.2.2.2.2.2.2.2.2.2 n hE]; exact hQ1
  rw [if_neg c0] at hQ1 hnn ⊢
  by_cases c1 : v = 1
  · rw [if_pos c1] at hQ1 ⊢; rw [h9.2.2.2.2.2.2.2.1]; exact hQ1 _ rfl
  rw [if_neg c1] at hQ1 hnn ⊢
  by_cases c2 : v = 2
  · rw [if_pos c2] at hQ1 ⊢; rw [h9.2.1.1]; exact hQ1 _ rfl
  rw [if_neg c2] at hQ1 hnn ⊢
  by_cases c3 : v = 3
  · rw [if_pos c3] at hQ1 ⊢
    have hQ1 := hQ1 _ rfl
    rw [h9.2.1.1, oN_n (by omega), (h9.2.1.2 _ (Nat.le_refl _)).1]
    by_cases c : zD s = 0
    · rw [if_pos c] at hQ1
      rw [c, if_pos (show Int32.ofNat 0 = 0 from rfl)]
      exact hQ1
    · rw [if_neg c] at hQ1
      rw [if_neg (show ¬ Int32.ofNat (zD s) = 0 from fun hh => c ((oN_e (b := 0) (by omega) (by omega)).mp hh))]
      refine ⟨bdk (by omega) (by omega), r_367 h2.1 (fun k a ha => (h2.2.2.2.2.2.2.2.2.1 k a ha).1) (by omega) (by omega) ?_⟩
      rw [my_kI_v]
      unfold ys_366_126
      have e2 : kdf (riF a) = 2 := by
        have := cd.2.1
        have h4 : ¬ riF a = 4 := fun hh => c (q.mpr hh)
        unfold kdf
        split <;> omega
      have en : nmk As (zw s (zD s)) = cnK (As.take (zw s (zD s))) 2 := by
        unfold nmk
        rw [cd.1]
        dsimp only
        rw [e2]
      rw [en] at hQ1
      exact hQ1
  rw [if_neg c3] at hQ1 hnn ⊢
  by_cases c4 : v = 4
  · rw [if_pos c4] at hQ1 ⊢
    rw [h9.2.1.1, oN_n (by omega), (h9.2.1.2 _ (Nat.le_refl _)).1, oN_n (by omega), h9.2.2.1.1, ((h2.2.2.2.2.2.2.2.2.1 _ a cd.1).2.2.2.2 cd.2.1).1]
    refine ⟨bdk (by omega) (by omega), bdk (by omega) (by omega), ?_⟩
    have ec : cbk As I (zw s (zD s)) = (ibA I 0 (As.take (zw s (zD s)))).length + (hdB a).length + 3 := by
      unfold cbk
      rw [cd.1]
      rfl
    rw [ec, oN_d]
    exact hQ1 _ rfl
  rw [if_neg c4] at hQ1 hnn ⊢
  by_cases c5 : v = 5
  · rw [if_pos c5] at hQ1 ⊢
    refine r_368b h' (by omega) ?_
    rw [my_kI_v]
    exact hQ1 _ rfl
  rw [if_neg c5] at hQ1 hnn ⊢
  by_cases c6 : v = 6
  · rw [if_pos c6] at hQ1; rw [h5]; exact hQ1 _ rfl
  rw [if_neg c6] at hnn
  exact absurd rfl hnn
end MOB
