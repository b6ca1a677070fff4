
/-! ===== the reference's types: one raw step, one item ===== -/
theorem rwV_op {x : Rw} (h : rwV x) : x.1 = 1 ∨ x.1 = 2 ∨ x.1 = 3 ∨ x.1 = 4 ∨ x.1 = 5 ∨ x.1 = 11 ∨ x.1 = 12 ∨ x.1 = 13 ∨ x.1 = 14 ∨ x.1 = 15 ∨ x.1 = 16 ∨ x.1 = 17 ∨ x.1 = 19 ∨ x.1 = 20 ∨ (21 ≤ x.1 ∧ x.1 ≤ 31) ∨ x.1 = 200 ∨ x.1 = 201 ∨ x.1 = 202 ∨ x.1 = 203 ∨ x.1 = 204 ∨ x.1 = 205 ∨ x.1 = 206 ∨ x.1 = 207 ∨ x.1 = 208 := by
  have := h.2.2.2.2.1
  omega
/-- the pile's height goes as it should -/
theorem tr2_len {I : List It} {ity : Int32} {x : Rw} {s : T3} (hV : rwV x) (h : hnd x ≤ s.2.1.length) : (tr2 I ity x s).2.1.length = hst x s.2.1.length := by
  obtain ⟨LT, P, mf⟩ := s
  dsimp only at h
  have hop := rwV_op hV
  unfold hst
  rcases hop with h1 | h1 | h1 | h1 | h1 | h1 | h1 | h1 | h1 | h1 | h1 | h1 | h1 | h1 | h1 | h1 | h1 | h1 | h1 | h1 | h1 | h1 | h1 | h1
  · have e1 : hnd x = 0 := by unfold hnd; simp [h1]
    have e2 : hpu x = 1 := by unfold hpu; simp [h1]
    rw [e1, e2]
    simp [tr2, tr1, h1]
  · have e1 : hnd x = 0 := by unfold hnd; simp [h1]
    have e2 : hpu x = 1 := by unfold hpu; simp [h1]
    rw [e1, e2]
    simp [tr2, tr1, h1]
  · have e1 : hnd x = 0 := by unfold hnd; simp [h1]
    have e2 : hpu x = 1 := by unfold hpu; simp [h1]
    rw [e1, e2]
    simp [tr2, tr1, h1]
  · have e1 : hnd x = 0 := by unfold hnd; simp [h1]
    have e2 : hpu x = 1 := by unfold hpu; simp [h1]
    rw [e1, e2]
    simp [tr2, tr1, h1]
  · have e1 : hnd x = 1 := by unfold hnd; simp [h1]
    have e2 : hpu x = 0 := by unfold hpu; simp [h1]
    rw [e1] at h
    rw [e1, e2]
    match P, h with
    | a :: P, _ => simp [tr2, tpop, h1]
  · have e1 : hnd x = 1 := by unfold hnd; simp [h1]
    have e2 : hpu x = 0 := by unfold hpu; simp [h1]
    rw [e1] at h
    rw [e1, e2]
    match P, h with
    | a :: P, _ => simp [tr2, tpop, h1]
  · have e1 : hnd x = 0 := by unfold hnd; simp [h1]
    have e2 : hpu x = 0 := by unfold hpu; simp [h1]
    rw [e1, e2]
    simp [tr2, h1]
  · have e1 : hnd x = 0 := by unfold hnd; simp [h1]
    have e2 : hpu x = 0 := by unfold hpu; simp [h1]
    rw [e1, e2]
    simp [tr2, h1]
  · have e1 : hnd x = 0 := by unfold hnd; simp [h1]
    have e2 : hpu x = 0 := by unfold hpu; simp [h1]
    rw [e1, e2]
    simp [tr2, h1]
  · have e1 : hnd x = 1 := by unfold hnd; simp [h1]
    have e2 : hpu x = 0 := by unfold hpu; simp [h1]
    rw [e1, e2]
    simp [tr2, h1]
  · have e1 : hnd x = 0 := by unfold hnd; simp [h1]
    have e2 : hpu x = 0 := by unfold hpu; simp [h1]
    rw [e1, e2]
    simp [tr2, h1]
  · have e1 : hnd x = 1 := by unfold hnd; simp [h1]
    have e2 : hpu x = 0 := by unfold hpu; simp [h1]
    rw [e1, e2]
    simp [tr2, h1]
  · have e1 : hnd x = 1 := by unfold hnd; simp [h1]
    have e2 : hpu x = 1 := by unfold hpu; simp [h1]
    rw [e1] at h
    rw [e1, e2]
    match P, h with
    | a :: P, _ => simp [tr2, tr1, tun, h1]
  · have e1 : hnd x = 1 := by unfold hnd; simp [h1]
    have e2 : hpu x = 1 := by unfold hpu; simp [h1]
    rw [e1] at h
    rw [e1, e2]
    match P, h with
    | a :: P, _ => simp [tr2, tr1, tun, h1]
  · have e1 : hnd x = 2 := by unfold hnd; rw [if_neg (by omega), if_pos (by omega)]
    have e2 : hpu x = 1 := by unfold hpu; rw [if_pos (by omega)]
    rw [e1] at h
    rw [e1, e2]
    match P, h with
    | b :: a :: P, _ =>
      have e3 : tr2 I ity x (LT, b :: a :: P, mf) = tbi x.1 (LT, b :: a :: P, mf) := by
        unfold tr2 tr1
        rw [if_neg (by omega), if_neg (by omega), if_neg (by omega), if_neg (by omega), if_neg (by omega), if_neg (by omega), if_neg (by omega), if_neg (by omega), if_neg (by omega), if_neg (by omega), if_neg (by omega), if_neg (by omega), if_neg (by omega), if_neg (by omega), if_neg (by omega), if_neg (by omega), if_neg (by omega), if_neg (by omega)]
      rw [e3]
      unfold tbi
      dsimp only
      split <;> simp
  · have e1 : hnd x = 0 := by unfold hnd; simp [h1]
    have e2 : hpu x = 1 := by unfold hpu; simp [h1]
    rw [e1, e2]
    simp [tr2, tr1, h1]
  · have e1 : hnd x = 1 := by unfold hnd; simp [h1]
    have e2 : hpu x = 0 := by unfold hpu; simp [h1]
    rw [e1] at h
    rw [e1, e2]
    match P, h with
    | a :: P, _ => simp [tr2, tasg, h1]
  · have e1 : hnd x = 1 := by unfold hnd; simp [h1]
    have e2 : hpu x = 1 := by unfold hpu; simp [h1]
    rw [e1] at h
    rw [e1, e2]
    match P, h with
    | a :: P, _ => simp [tr2, tr1, tcel, h1]
  · have e1 : hnd x = 2 := by unfold hnd; simp [h1]
    have e2 : hpu x = 0 := by unfold hpu; simp [h1]
    rw [e1] at h
    rw [e1, e2]
    match P, h with
    | b :: a :: P, _ => simp [tr2, tse2, h1]
  · have e1 : hnd x = x.2.1.toNatClampNeg := by unfold hnd; simp [h1]
    have e2 : hpu x = 1 := by unfold hpu; simp [h1]
    rw [e1, e2]
    simp [tr2, tr1, h1]
  · have e1 : hnd x = x.2.1.toNatClampNeg := by unfold hnd; simp [h1]
    have e2 : hpu x = 0 := by unfold hpu; simp [h1]
    rw [e1, e2]
    simp [tr2, h1]
  · have e1 : hnd x = 1 := by unfold hnd; simp [h1]
    have e2 : hpu x = 1 := by unfold hpu; simp [h1]
    rw [e1] at h
    rw [e1, e2]
    match P, h with
    | a :: P, _ => simp [tr2, tr1, tpar, h1]
  · have e1 : hnd x = 1 := by unfold hnd; simp [h1]
    have e2 : hpu x = 0 := by unfold hpu; simp [h1]
    rw [e1] at h
    rw [e1, e2]
    match P, h with
    | a :: P, _ => simp [tr2, tdcl, h1]
  · have e1 : hnd x = 1 := by unfold hnd; simp [h1]
    have e2 : hpu x = 1 := by unfold hpu; simp [h1]
    rw [e1] at h
    rw [e1, e2]
    match P, h with
    | a :: P, _ => simp [tr2, tr1, tchk, h1]
section MTW
variable {σ : my_S} {As : List Ri} {I : List It} {R : List Rw}
theorem mns_at {nm : List Nat} {kd pl i : Nat} {mf : Option Nat} (hB : itsB As) (hrel : iRel As I) (hM : TM As R σ) (hkd : kd < 4) (h : (mns I nm (Int32.ofNat kd) pl mf).1 = some i) : ∃ a, As[i]? = some a ∧ kdf (riF a) = kd ∧ (riF a ≠ 1 → σ.1 503 i = (itA I i).2.2.2.1) ∧ i < 42 := by
  have h42 := itsB_42 hB
  unfold mns at h
  cases hk : itK I nm with
  | none => rw [hk] at h; cases h
  | some j =>
    rw [hk] at h
    simp only [] at h
    by_cases c1 : (itA I j).2.2.1 = Int32.ofNat kd
    · rw [if_pos c1] at h
      cases h
      have hjI := itK_lt hk
      obtain ⟨a, ha, hio⟩ := iRel_a2 hrel hjI
      have hW := hB.2 a (List.mem_of_getElem? ha)
      have hr := rit_at hM.1.2 ha
      rw [Nat.zero_add] at hr
      have hk4 := kdf_lt hW.1
      refine ⟨a, ha, ?_, fun hf => by rw [hr.2.2.1 hf]; exact hio.2.2.2.1.symm, ?_⟩
      · rw [hio.2.2.1] at c1
        exact (oN_e (by omega) (by omega)).mp c1
      · have := (List.getElem?_eq_some_iff.mp ha).1
        omega
    · rw [if_neg c1] at h
      cases h
end MTW
section MTV
variable {e : my_E} {d : Nat} {κ : my_K} {σ : my_S} {Q : my_O → my_K → my_S → Prop} {s : T3} {As : List Ri} {I : List It} {R : List Rw}
theorem TS_1 {y : Int32} (h : TS s σ) (hl : 1 ≤ s.2.1.length) (hl2 : s.2.1.length < 2147483648) (hy : y = σ.1 498 47 - 1) : TS (s.1, s.2.1.drop 1, s.2.2) (my_uI σ 498 47 y) ∧ eqp tyF σ (my_uI σ 498 47 y) := by
  refine TS_pop h hl hl2 ?_
  rw [hy, h.2.1.1, Int32.ofNat_sub _ _ hl]
  rfl
/-- one raw step -/
theorem t_260 {j k : Nat} {x : Rw} {a : Ri} (hB : itsB As) (hrel : iRel As I) (hM : TM As R σ) (h : TS s σ) (hR : R.length ≤ 3200) (hj : R[j]? = some x) (hV : rwV x) (ha : As[k]? = some a) (hf : riF a ≠ 1) (hnx : hnd x ≤ s.2.1.length) (hl : s.2.1.length ≤ 799) (hl2 : hst x s.2.1.length ≤ 799) (hd : 7 ≤ d) (hQ : ∀ σ', TS (tr2 I (riT a) x s) σ' → eqp tyF σ σ' → Q (.inl none) κ σ') : my_M e d 260 [.inr (.inr (some 498)), .inl (Int32.ofNat j), .inl (Int32.ofNat k)] κ σ Q := by
  obtain ⟨d, rfl⟩ := dS 1 (show 1 ≤ d by omega)
  have h42 := itsB_42 hB
  obtain ⟨hj3, bd⟩ := rws_at hM.2 hj hR
  obtain ⟨k1, k2, k3, k4⟩ := hM.2.2 j x hj
  have hkl := (List.getElem?_eq_some_iff.mp ha).1
  have hp := hV.2.1
  have hr := rit_at hM.1.2 ha
  rw [Nat.zero_add] at hr
  have bdk : my_bd (Int32.ofNat k) 48 := ⟨by rw [oN_i (by omega)]; omega, by rw [oN_i (by omega)]; omega⟩
  obtain ⟨LT, P, mf⟩ := s
  dsimp only at hnx hl hl2
  refine ys_260 ?_
  unfold ys_260_0
  rw [oN_n (by omega), k1, k4]
  refine ⟨bd, bd, ?_⟩
  have fin : ∀ σ', TS (tr2 I (riT a) x (LT, P, mf)) σ' → eqp tyF σ σ' → ys_260_546 e d κ σ' Q := fun σ' g f => by unfold ys_260_546; exact hQ σ' g f
  have psh : ∀ (v : Int32), tr2 I (riT a) x (LT, P, mf) = (LT, (v, x.2.2.2) :: P, mf) → P.length < 800 → my_M e d 261 [.inr (.inr (some 498)), .inl v, .inl (Int32.ofNat x.2.2.2)] κ σ (my_k0 (fun κ2 σ3 => ys_260_546 e d κ2 σ3 Q) (fun y4 κ5 σ6 => Q (.inr y4) κ5 σ6)) := fun v ht hl' => by
    refine t_261 hp h hl' (by omega) (fun σ' g f => ?_)
    rw [my_k0_v]
    exact fin σ' (by rw [ht]; exact g) f
  have loc : (x.1 = 4 ∨ x.1 = 5 ∨ x.1 = 207) → ∃ i, i < 10 ∧ x.2.1 = Int32.ofNat i ∧ σ.1 513 j = Int32.ofNat i ∧ σ.1 528 i = LT i ∧ my_bd (Int32.ofNat i) 10 := fun hh => by
    obtain ⟨i, hi, hxi⟩ := hV.2.2.1 hh
    refine ⟨i, hi, hxi, ?_, h.1 i hi, ⟨by rw [oN_i (by omega)]; omega, by rw [oN_i (by omega)]; omega⟩⟩
    rcases k2 with hk | hk | hk
    · omega
    · omega
    · rw [hk, hxi]
  have sub1 : ∀ {m : Nat}, 1 ≤ m → Int32.ofNat m - 1 = Int32.ofNat (m - 1) := fun hm => by rw [Int32.ofNat_sub _ _ hm]; rfl
  have hop := rwV_op hV
  rcases hop with h1 | h1 | h1 | h1 | h1 | h1 | h1 | h1 | h1 | h1 | h1 | h1 | h1 | h1 | h1 | h1 | h1 | h1 | h1 | h1 | h1 | h1 | h1 | h1
  · rw [h1, if_pos (by decide)]
    have e2 : hst x P.length = P.length + 1 := by unfold hst hnd hpu; simp [h1]
    exact ⟨bd, psh 0 (by simp [tr2, tr1, h1]) (by omega)⟩
  · rw [h1]
    repeat rw [if_neg (by decide)]
    rw [if_pos (by decide)]
    have e2 : hst x P.length = P.length + 1 := by unfold hst hnd hpu; simp [h1]
    unfold ys_260_178
    rw [oN_n (by omega), k4]
    exact ⟨bd, psh 1 (by simp [tr2, tr1, h1]) (by omega)⟩
  · rw [h1]
    repeat rw [if_neg (by decide)]
    rw [if_pos (by decide)]
    have e2 : hst x P.length = P.length + 1 := by unfold hst hnd hpu; simp [h1]
    unfold ys_260_178
    rw [oN_n (by omega), k4]
    exact ⟨bd, psh 1 (by simp [tr2, tr1, h1]) (by omega)⟩
  · obtain ⟨i, hi, hxi, h513, h528, bdi⟩ := loc (Or.inl h1)
    rw [h1]
    repeat rw [if_neg (by decide)]
    rw [if_pos (by decide), h513, oN_n (by omega), h528]
    have e2 : hst x P.length = P.length + 1 := by unfold hst hnd hpu; simp [h1]
    exact ⟨bdi, bd, psh _ (by simp only [tr2, tr1, h1, hxi]; simp [oN_n (show i < 2147483648 by omega)]) (by omega)⟩
  · obtain ⟨i, hi, hxi, h513, h528, bdi⟩ := loc (Or.inr (Or.inl h1))
    have e1 : hnd x = 1 := by unfold hnd; simp [h1]
    rw [e1] at hnx
    rw [h1]
    repeat rw [if_neg (by decide)]
    rw [if_pos (by decide), h513, oN_n (by omega), h528]
    refine ⟨bdi, ?_⟩
    match P, hnx, hl, h, fin with
    | b :: P, _, hl, h, fin =>
      refine t_264 (k := 0) (x := b) h rfl (by dsimp only; omega) (by omega) (fun σ1 g1 f1 => ?_)
      rw [my_kI_v]
      obtain ⟨g2, f2⟩ := TS_1 (y := σ1.1 498 47 - 1) g1 (by simp) (by simp at hl ⊢; omega) rfl
      refine fin _ ?_ (eqp_tr f1 f2)
      have et : tr2 I (riT a) x (LT, b :: P, mf) = (LT, P, omin mf (fl b.1 (LT i) b.2)) := by
        simp only [tr2, h1, hxi, tpop]
        simp [oN_n (show i < 2147483648 by omega)]
      rw [et]
      exact g2
  · have e1 : hnd x = 1 := by unfold hnd; simp [h1]
    rw [e1] at hnx
    rw [h1]
    repeat rw [if_neg (by decide)]
    rw [if_pos (by decide), oN_n (by omega), hr.2.2.1 hf]
    refine ⟨bdk, ?_⟩
    match P, hnx, hl, h, fin with
    | b :: P, _, hl, h, fin =>
      refine t_264 (k := 0) (x := b) h rfl (by dsimp only; omega) (by omega) (fun σ1 g1 f1 => ?_)
      rw [my_kI_v]
      obtain ⟨g2, f2⟩ := TS_1 (y := σ1.1 498 47 - 1) g1 (by simp) (by simp at hl ⊢; omega) rfl
      refine fin _ ?_ (eqp_tr f1 f2)
      have et : tr2 I (riT a) x (LT, b :: P, mf) = (LT, P, omin mf (fl b.1 (riT a) b.2)) := by simp [tr2, h1, tpop]
      rw [et]
      exact g2
  · rw [h1]
    repeat rw [if_neg (by decide)]
    rw [if_pos (by decide)]
    exact fin σ (by rw [show tr2 I (riT a) x (LT, P, mf) = (LT, P, mf) by simp [tr2, h1]]; exact h) eqp_rf
  · rw [h1]
    repeat rw [if_neg (by decide)]
    rw [if_pos (by decide)]
    exact fin σ (by rw [show tr2 I (riT a) x (LT, P, mf) = (LT, P, mf) by simp [tr2, h1]]; exact h) eqp_rf
  · rw [h1]
    repeat rw [if_neg (by decide)]
    rw [if_pos (by decide)]
    exact fin σ (by rw [show tr2 I (riT a) x (LT, P, mf) = (LT, P, mf) by simp [tr2, h1]]; exact h) eqp_rf
  · have e1 : hnd x = 1 := by unfold hnd; simp [h1]
    rw [e1] at hnx
    rw [h1]
    repeat rw [if_neg (by decide)]
    rw [if_pos (by decide)]
    unfold ys_260_510
    obtain ⟨g2, f2⟩ := TS_1 (y := σ.1 498 47 - 1) h hnx (by dsimp only; omega) rfl
    exact fin _ (by rw [show tr2 I (riT a) x (LT, P, mf) = (LT, P.drop 1, mf) by simp [tr2, h1]]; exact g2) f2
  · rw [h1]
    repeat rw [if_neg (by decide)]
    rw [if_pos (by decide)]
    exact fin σ (by rw [show tr2 I (riT a) x (LT, P, mf) = (LT, P, mf) by simp [tr2, h1]]; exact h) eqp_rf
  · have e1 : hnd x = 1 := by unfold hnd; simp [h1]
    rw [e1] at hnx
    rw [h1]
    repeat rw [if_neg (by decide)]
    rw [if_pos (by decide)]
    unfold ys_260_510
    obtain ⟨g2, f2⟩ := TS_1 (y := σ.1 498 47 - 1) h hnx (by dsimp only; omega) rfl
    exact fin _ (by rw [show tr2 I (riT a) x (LT, P, mf) = (LT, P.drop 1, mf) by simp [tr2, h1]]; exact g2) f2
  · have e1 : hnd x = 1 := by unfold hnd; simp [h1]
    rw [e1] at hnx
    rw [h1]
    repeat rw [if_neg (by decide)]
    skip
    refine ⟨bd, ?_⟩
    match P, hnx, hl, h, fin with
    | b :: P, _, hl, h, fin =>
      refine t_266u (op := 19) (a := b) (P := P) (by omega) hp h rfl (by dsimp only; omega) (by omega) (fun σ1 g1 f1 => ?_)
      rw [my_k0_v]
      exact fin σ1 (by rw [show tr2 I (riT a) x (LT, b :: P, mf) = tun (if (19 : Nat) = 19 then 0 else 1) x.2.2.2 (LT, b :: P, mf) by simp [tr2, tr1, h1]]; exact g1) f1
  · have e1 : hnd x = 1 := by unfold hnd; simp [h1]
    rw [e1] at hnx
    rw [h1]
    repeat rw [if_neg (by decide)]
    skip
    refine ⟨bd, ?_⟩
    match P, hnx, hl, h, fin with
    | b :: P, _, hl, h, fin =>
      refine t_266u (op := 20) (a := b) (P := P) (by omega) hp h rfl (by dsimp only; omega) (by omega) (fun σ1 g1 f1 => ?_)
      rw [my_k0_v]
      exact fin σ1 (by rw [show tr2 I (riT a) x (LT, b :: P, mf) = tun (if (20 : Nat) = 19 then 0 else 1) x.2.2.2 (LT, b :: P, mf) by simp [tr2, tr1, h1]]; exact g1) f1
  · have e1 : hnd x = 2 := by unfold hnd; rw [if_neg (by omega), if_pos (by omega)]
    rw [e1] at hnx
    have ne : ∀ m : Nat, m < 1000 → x.1 ≠ m → ¬ Int32.ofNat x.1 = Int32.ofNat m := fun m hm hh h2 => hh ((oN_e (by omega) (by omega)).mp h2)
    rw [if_neg (show ¬ Int32.ofNat x.1 = 1 from ne 1 (by omega) (by omega)), if_neg (show ¬ Int32.ofNat x.1 = 2 from ne 2 (by omega) (by omega)), if_neg (show ¬ Int32.ofNat x.1 = 3 from ne 3 (by omega) (by omega)), if_neg (show ¬ Int32.ofNat x.1 = 4 from ne 4 (by omega) (by omega)), if_neg (show ¬ Int32.ofNat x.1 = 5 from ne 5 (by omega) (by omega)), if_neg (show ¬ Int32.ofNat x.1 = 11 from ne 11 (by omega) (by omega)), if_neg (show ¬ Int32.ofNat x.1 = 15 from ne 15 (by omega) (by omega)), if_neg (show ¬ Int32.ofNat x.1 = 17 from ne 17 (by omega) (by omega)), if_neg (show ¬ Int32.ofNat x.1 = 200 from ne 200 (by omega) (by omega)), if_neg (show ¬ Int32.ofNat x.1 = 201 from ne 201 (by omega) (by omega)), if_neg (show ¬ Int32.ofNat x.1 = 202 from ne 202 (by omega) (by omega)), if_neg (show ¬ Int32.ofNat x.1 = 203 from ne 203 (by omega) (by omega)), if_neg (show ¬ Int32.ofNat x.1 = 204 from ne 204 (by omega) (by omega)), if_neg (show ¬ Int32.ofNat x.1 = 205 from ne 205 (by omega) (by omega)), if_neg (show ¬ Int32.ofNat x.1 = 206 from ne 206 (by omega) (by omega)), if_neg (show ¬ Int32.ofNat x.1 = 207 from ne 207 (by omega) (by omega)), if_neg (show ¬ Int32.ofNat x.1 = 208 from ne 208 (by omega) (by omega))]
    rw [if_neg (fun hh => by have := (oN_lt1 (b := 19) (c := 19) rfl (by omega) (by omega)).mp hh; omega), if_neg (fun hh => by have := (oN_lt (p := 31) (by omega) (by omega)).mp hh; omega)]
    refine ⟨bd, ?_⟩
    match P, hnx, hl, h, fin with
    | b :: a' :: P, _, hl, h, fin =>
      refine t_266b (op := x.1) (a := a') (b := b) (P := P) h1 h rfl (by dsimp only; omega) (by omega) (fun σ1 g1 f1 => ?_)
      rw [my_k0_v]
      refine fin σ1 ?_ f1
      have e3 : tr2 I (riT a) x (LT, b :: a' :: P, mf) = tbi x.1 (LT, b :: a' :: P, mf) := by
        unfold tr2 tr1
        rw [if_neg (by omega), if_neg (by omega), if_neg (by omega), if_neg (by omega), if_neg (by omega), if_neg (by omega), if_neg (by omega), if_neg (by omega), if_neg (by omega), if_neg (by omega), if_neg (by omega), if_neg (by omega), if_neg (by omega), if_neg (by omega), if_neg (by omega), if_neg (by omega), if_neg (by omega), if_neg (by omega)]
      rw [e3]
      exact g1
  · have hN := hV.1 (by omega) (by omega)
    have e2 : hst x P.length = P.length + 1 := by unfold hst hnd hpu; simp [h1]
    rw [h1]
    repeat rw [if_neg (by decide)]
    rw [if_pos (by decide)]
    refine t_262 (kd := 0) (x := x) hB hrel hM h hR hj hN hp (by omega) (by omega) (fun σ1 g1 f1 => ?_)
    rw [my_kI_v]
    rw [show Int32.ofNat 0 = 0 from rfl] at g1 ⊢
    dsimp only at g1 ⊢
    have hM1 := TM_o hB hM f1
    have k4' := (hM1.2.2 j x hj).2.2.2
    have et : tr2 I (riT a) x (LT, P, mf) = (LT, (tyO I (mns I x.2.2.1 0 x.2.2.2 mf).1, x.2.2.2) :: P, (mns I x.2.2.1 0 x.2.2.2 mf).2) := by simp [tr2, tr1, h1]
    have psh2 : ∀ v : Int32, v = tyO I (mns I x.2.2.1 0 x.2.2.2 mf).1 → ys_260_238 e d (Int32.ofNat j) v κ σ1 Q := fun v hv => by
      unfold ys_260_238
      rw [oN_n (by omega), k4']
      refine ⟨bd, ?_⟩
      refine t_261 hp g1 (by dsimp only; omega) (by omega) (fun σ' g f => ?_)
      rw [my_k0_v]
      exact fin σ' (by rw [et, ← hv]; exact g) (eqp_tr f1 f)
    cases hmn : (mns I x.2.2.1 0 x.2.2.2 mf).1 with
    | none =>
      show if Int32.ofInt (-1) < 0 then _ else _
      rw [if_pos (by decide)]
      exact psh2 3 (by rw [hmn]; rfl)
    | some i =>
      obtain ⟨ai, hai, hfi, hti, hil⟩ := mns_at hB hrel hM1 (kd := 0) (by omega) hmn
      rw [show ixO (some i) = Int32.ofNat i from rfl, if_neg (oN_0 (by omega)), oN_n (by omega), hti (by unfold kdf at hfi; split at hfi <;> omega)]
      exact ⟨⟨by rw [oN_i (by omega)]; omega, by rw [oN_i (by omega)]; omega⟩, psh2 _ (by rw [hmn]; rfl)⟩
  · have hN := hV.1 (by omega) (by omega)
    have e1 : hnd x = 1 := by unfold hnd; simp [h1]
    rw [e1] at hnx
    rw [h1]
    repeat rw [if_neg (by decide)]
    rw [if_pos (by decide)]
    refine t_262 (kd := 0) (x := x) hB hrel hM h hR hj hN hp (by omega) (by omega) (fun σ1 g1 f1 => ?_)
    rw [my_kI_v]
    rw [show Int32.ofNat 0 = 0 from rfl] at g1 ⊢
    dsimp only at g1 ⊢
    have hM1 := TM_o hB hM f1
    have pop : ∀ v : Int32, v = tyO I (mns I x.2.2.1 0 x.2.2.2 mf).1 → ys_260_332 e d v 0 κ σ1 Q := fun v hv => by
      unfold ys_260_332
      match P, hnx, hl, g1, fin with
      | b :: P, _, hl, g1, fin =>
        refine t_264 (k := 0) (x := b) g1 rfl (by dsimp only; omega) (by omega) (fun σ2 g2 f2 => ?_)
        rw [my_kI_v]
        obtain ⟨g3, f3⟩ := TS_1 (y := σ2.1 498 47 - 1) g2 (by simp) (by simp at hl ⊢; omega) rfl
        refine fin _ ?_ (eqp_tr f1 (eqp_tr f2 f3))
        have et : tr2 I (riT a) x (LT, b :: P, mf) = (LT, P, omin (mns I x.2.2.1 0 x.2.2.2 mf).2 (fl b.1 (tyO I (mns I x.2.2.1 0 x.2.2.2 mf).1) b.2)) := by simp [tr2, h1, tasg]
        rw [et, ← hv]
        exact g3
    cases hmn : (mns I x.2.2.1 0 x.2.2.2 mf).1 with
    | none =>
      show if Int32.ofInt (-1) < 0 then _ else _
      rw [if_pos (by decide)]
      exact pop 3 (by rw [hmn]; rfl)
    | some i =>
      obtain ⟨ai, hai, hfi, hti, hil⟩ := mns_at hB hrel hM1 (kd := 0) (by omega) hmn
      rw [show ixO (some i) = Int32.ofNat i from rfl, if_neg (oN_0 (by omega)), oN_n (by omega), hti (by unfold kdf at hfi; split at hfi <;> omega)]
      exact ⟨⟨by rw [oN_i (by omega)]; omega, by rw [oN_i (by omega)]; omega⟩, pop _ (by rw [hmn]; rfl)⟩
  · have hN := hV.1 (by omega) (by omega)
    have e1 : hnd x = 1 := by unfold hnd; simp [h1]
    rw [e1] at hnx
    rw [h1]
    repeat rw [if_neg (by decide)]
    rw [if_pos (by decide)]
    match P, hnx, hl, h, fin with
    | b :: P, _, hl, h, fin =>
      refine t_264 (k := 0) (x := b) h rfl (by dsimp only; omega) (by omega) (fun σ1 g1 f1 => ?_)
      rw [my_kI_v]
      obtain ⟨g2, f2⟩ := TS_1 (y := σ1.1 498 47 - 1) g1 (by simp) (by simp at hl ⊢; omega) rfl
      dsimp only [List.drop_succ_cons, List.drop_zero] at g2
      have hM2 := TM_o hB hM (eqp_tr f1 f2)
      refine t_262 (kd := 1) (x := x) hB hrel hM2 g2 hR hj hN hp (by omega) (by omega) (fun σ3 g3 f3 => ?_)
      rw [my_kI_v]
      rw [show Int32.ofNat 1 = 1 from rfl] at g3 ⊢
      dsimp only at g3 ⊢
      have hM3 := TM_o hB hM2 f3
      have k4' := (hM3.2.2 j x hj).2.2.2
      have psh2 : ∀ v : Int32, v = (if (mns I x.2.2.1 1 x.2.2.2 (omin mf (fl b.1 0 b.2))).1 ≠ none ∧ mstB b.1 0 = true then 0 else 3) → ys_260_400 e d (Int32.ofNat j) v κ σ3 Q := fun v hv => by
        unfold ys_260_400
        rw [oN_n (by omega), k4']
        refine ⟨bd, ?_⟩
        refine t_261 hp g3 (by simp at hl ⊢; omega) (by omega) (fun σ' g f => ?_)
        rw [my_k0_v]
        refine fin σ' ?_ (eqp_tr (eqp_tr f1 f2) (eqp_tr f3 f))
        have et : tr2 I (riT a) x (LT, b :: P, mf) = tcel I x (LT, b :: P, mf) := by simp [tr2, tr1, h1]
        rw [et]
        unfold tcel
        dsimp only
        rw [← hv]
        exact g
      have no : ¬ ((mns I x.2.2.1 1 x.2.2.2 (omin mf (fl b.1 0 b.2))).1 ≠ none ∧ mstB b.1 0 = true) → ys_260_386 e d (Int32.ofNat j) κ σ3 Q := fun hh => by
        unfold ys_260_386 ys_260_387
        rw [if_pos rfl]
        exact psh2 3 (by rw [if_neg hh])
      cases hmn : (mns I x.2.2.1 1 x.2.2.2 (omin mf (fl b.1 0 b.2))).1 with
      | none =>
        show if Int32.ofInt (-1) < 0 then _ else _
        rw [if_pos (by decide)]
        exact no (fun hh => hh.1 hmn)
      | some i =>
        obtain ⟨ai, hai, hfi, hti, hil⟩ := mns_at hB hrel hM3 (kd := 1) (by omega) hmn
        show if Int32.ofNat i < 0 then _ else _
        rw [if_neg (oN_0 (by omega))]
        refine my_if (fun h0 => no (fun hh => ?_)) (fun h0 => ?_)
        · rw [bI_0.mp h0] at hh
          exact absurd hh.2 (by decide)
        · unfold ys_260_387
          rw [if_neg (by decide)]
          refine psh2 0 ?_
          rw [if_pos]
          refine ⟨by rw [hmn]; simp, ?_⟩
          cases hm : mstB b.1 0 with
          | true => rfl
          | false => exact absurd (bI_0.mpr hm) h0
  · have hN := hV.1 (by omega) (by omega)
    have e1 : hnd x = 2 := by unfold hnd; simp [h1]
    rw [e1] at hnx
    rw [h1]
    repeat rw [if_neg (by decide)]
    rw [if_pos (by decide)]
    refine t_262 (kd := 1) (x := x) hB hrel hM h hR hj hN hp (by omega) (by omega) (fun σ1 g1 f1 => ?_)
    rw [my_kI_v]
    rw [show Int32.ofNat 1 = 1 from rfl] at g1
    dsimp only at g1
    match P, hnx, hl, g1, fin with
    | b :: a' :: P, _, hl, g1, fin =>
      refine t_264 (k := 0) (x := b) g1 rfl (by dsimp only; omega) (by omega) (fun σ2 g2 f2 => ?_)
      rw [my_kI_v]
      refine t_264 (k := 1) (x := a') g2 rfl (by dsimp only; omega) (by omega) (fun σ3 g3 f3 => ?_)
      rw [my_kI_v]
      obtain ⟨g4, f4⟩ := TS_pop (k := 2) (y := (σ3.1 498 47) - 2) g3 (by simp) (by simp at hl ⊢; omega) (by
        rw [g3.2.1.1, Int32.ofNat_sub _ _ (by simp)]
        rfl)
      refine fin _ ?_ (eqp_tr f1 (eqp_tr f2 (eqp_tr f3 f4)))
      have et : tr2 I (riT a) x (LT, b :: a' :: P, mf) = (LT, P, omin (omin (mns I x.2.2.1 1 x.2.2.2 mf).2 (fl b.1 0 b.2)) (fl a'.1 0 a'.2)) := by simp [tr2, h1, tse2]
      rw [et]
      exact g4
  · have hN := hV.1 (by omega) (by omega)
    obtain ⟨c, hc, hxc⟩ := hV.2.2.2.1 (Or.inl h1)
    have e1 : hnd x = c := by unfold hnd; simp only [h1]; simp [hxc, oN_n (show c < 2147483648 by omega)]
    rw [e1] at hnx
    rw [h1]
    repeat rw [if_neg (by decide)]
    rw [if_pos (by decide)]
    unfold ys_260_447
    refine t_265 (c := c) hB hrel hM h hR hj (Or.inl h1) hxc hc hN hp hnx hl (by omega) (fun σ1 g1 f1 => ?_)
    rw [my_k0_v]
    refine fin σ1 ?_ f1
    rw [if_pos h1] at g1
    have et : tr2 I (riT a) x (LT, P, mf) = (LT, ((tcal I x P mf).1, x.2.2.2) :: P.drop x.2.1.toNatClampNeg, (tcal I x P mf).2) := by simp [tr2, tr1, h1]
    rw [et, hxc, oN_n (by omega)]
    exact g1
  · have hN := hV.1 (by omega) (by omega)
    obtain ⟨c, hc, hxc⟩ := hV.2.2.2.1 (Or.inr h1)
    have e1 : hnd x = c := by unfold hnd; simp only [h1]; simp [hxc, oN_n (show c < 2147483648 by omega)]
    rw [e1] at hnx
    rw [h1]
    repeat rw [if_neg (by decide)]
    rw [if_pos (by decide)]
    unfold ys_260_447
    refine t_265 (c := c) hB hrel hM h hR hj (Or.inr h1) hxc hc hN hp hnx hl (by omega) (fun σ1 g1 f1 => ?_)
    rw [my_k0_v]
    refine fin σ1 ?_ f1
    rw [if_neg (by omega)] at g1
    have et : tr2 I (riT a) x (LT, P, mf) = (LT, P.drop x.2.1.toNatClampNeg, (tcal I x P mf).2) := by simp [tr2, tr1, h1]
    rw [et, hxc, oN_n (by omega)]
    exact g1
  · have e1 : hnd x = 1 := by unfold hnd; simp [h1]
    rw [e1] at hnx
    rw [h1]
    repeat rw [if_neg (by decide)]
    rw [if_pos (by decide)]
    match P, hnx, hl, h, fin with
    | b :: P, _, hl, h, fin =>
      rw [h.2.1.1, sub1 (by simp), oN_n (by simp at hl ⊢; omega)]
      simp only [List.length_cons, Nat.add_sub_cancel]
      refine ⟨bd, ⟨by rw [oN_i (by simp at hl; omega)]; omega, by rw [oN_i (by simp at hl; omega)]; simp at hl; omega⟩, ?_⟩
      have he : eqp (fun c k => c = 527 ∧ k = P.length) σ (my_uI σ 527 P.length (Int32.ofNat x.2.2.2)) := eqp_I eqp_rf ⟨rfl, rfl⟩
      obtain ⟨t1, ⟨t2, t3⟩, t4, t5, t6⟩ := h
      refine fin _ ?_ (eqp_mo he (fun c k hh => by unfold tyF; omega))
      have et : tr2 I (riT a) x (LT, b :: P, mf) = (LT, (b.1, x.2.2.2) :: P, mf) := by simp [tr2, tr1, h1, tpar]
      rw [et]
      refine ⟨fun i hi => (eqp_g he (by omega)).trans (t1 i hi), ⟨(eqp_g he (by omega)).trans t2, ⟨(eqp_g he (by omega)).trans t3.1.1, uI_s⟩, tpk_o he t3.2 (fun c k hh hk => by omega)⟩, (eqp_g he (by omega)).trans t4, t5, fun y hy => ?_⟩
      rcases List.mem_cons.mp hy with hy | hy
      · rw [hy]; exact hp
      · exact t6 y (List.mem_cons_of_mem _ hy)
  · obtain ⟨i, hi, hxi, h513, h528, bdi⟩ := loc (Or.inr (Or.inr h1))
    have e1 : hnd x = 1 := by unfold hnd; simp [h1]
    rw [e1] at hnx
    rw [h1]
    repeat rw [if_neg (by decide)]
    rw [if_pos (by decide), h513, oN_n (by omega)]
    match P, hnx, hl, h, fin with
    | b :: P, _, hl, h, fin =>
      have hl' : P.length + 1 ≤ 799 := by simpa using hl
      rw [h.2.1.1, sub1 (by simp), oN_n (by simp; omega)]
      simp only [List.length_cons, Nat.add_sub_cancel]
      refine ⟨⟨by rw [oN_i (by omega)]; omega, by rw [oN_i (by omega)]; omega⟩, bdi, ?_⟩
      have he : eqp (fun c k => (c = 498 ∧ k = 47) ∨ (c = 528 ∧ k = i)) σ (my_uI (my_uI σ 498 47 (Int32.ofNat P.length)) 528 i (σ.1 526 P.length)) := eqp_I (eqp_I eqp_rf (by omega)) (by omega)
      obtain ⟨t1, ⟨t2, t3⟩, t4, t5, t6⟩ := h
      refine fin _ ?_ (eqp_mo he (fun c k hh => by unfold tyF; omega))
      have et : tr2 I (riT a) x (LT, b :: P, mf) = (ltU LT i b.1, P, mf) := by
        simp only [tr2, h1, hxi, tdcl]
        simp [oN_n (show i < 2147483648 by omega)]
      rw [et]
      refine ⟨fun m hm => ?_, ⟨by rw [uI_o (by omega), uI_s], tpk_o he t3.2 (fun c k hh hk => by omega)⟩, (eqp_g he (by omega)).trans t4, t5, fun y hy => t6 y (List.mem_cons_of_mem _ hy)⟩
      show _ = (if m = i then b.1 else LT m)
      by_cases hmi : m = i
      · rw [if_pos hmi, hmi, uI_s]; exact t3.1.1
      · rw [if_neg hmi]
        exact (eqp_g he (by omega)).trans (t1 m hm)
  · have e1 : hnd x = 1 := by unfold hnd; simp [h1]
    rw [e1] at hnx
    rw [h1]
    repeat rw [if_neg (by decide)]
    rw [if_pos (by decide)]
    match P, hnx, hl, h, fin with
    | b :: P, _, hl, h, fin =>
      refine t_264 (k := 0) (x := b) h rfl (by dsimp only; omega) (by omega) (fun σ1 g1 f1 => ?_)
      rw [my_kI_v]
      exact fin σ1 (by rw [show tr2 I (riT a) x (LT, b :: P, mf) = (LT, b :: P, omin mf (fl b.1 1 b.2)) by simp [tr2, h1, tchk]]; exact g1) f1
end MTV
