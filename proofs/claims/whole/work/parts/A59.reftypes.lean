
/-! ===== the reference's types, item by item ===== -/
section MTI
variable {t : Nat → Int32} {n : Nat}
theorem phd_B {Nf : List (List Nat)} {fm p : Nat} {L : List (List Nat)} {T : List Int32} {ty : Int32} {q : Nat} (ht : txt t n) (hp : p ≤ n) (hx : phd t n Nf fm p = .inr (L, T, ty, q)) : p ≤ q ∧ q ≤ n ∧ L.length = T.length ∧ T.length ≤ 4 ∧ ∀ x ∈ T, x = 0 ∨ x = 1 := by
  unfold phd at hx
  have hB := ppl_B (Nf := Nf) (fm := fm) ht hp
  cases hy : ppl t n Nf fm p with
  | inl q => rw [hy] at hx; cases hx
  | inr v =>
    obtain ⟨L1, T1, q1⟩ := v
    have hh := (hy ▸ hB).2 L1 T1 q1 rfl
    rw [hy] at hx
    dsimp only at hx
    by_cases h2 : fm = 2
    · rw [if_pos h2] at hx
      by_cases h5 : tkk t n q1 = 58
      · rw [if_pos h5] at hx
        have b1 := nx_b (p := q1) ht (by omega)
        cases hty : tyq t n (nx t n q1) with
        | none => rw [hty] at hx; cases hx
        | some ty =>
          rw [hty] at hx
          have h3 := tyq_t hty
          have b2 := nx_b (p := nx t n q1) ht (by omega)
          cases hx
          exact ⟨by omega, by omega, hh.2.2.1, hh.2.2.2.1, hh.2.2.2.2.1⟩
      · rw [if_neg h5] at hx; cases hx
    · rw [if_neg h2] at hx
      cases hx
      exact ⟨hh.1, hh.2.1, hh.2.2.1, hh.2.2.2.1, hh.2.2.2.2.1⟩
/-- an item with a body -/
theorem pit_bd {As : List Ri} {i p : Nat} {a : Ri} {q : Nat} (ht : txt t n) (hp : p ≤ n) (hx : pit t n As i p = .inr (a, q)) (h2 : 2 ≤ riF a) : ∃ L T ty q1 q2 r c b, phd t n (rno As ++ [riN a]) (riF a) (nx t n (nx t n p)) = .inr (L, T, ty, q1) ∧ tkk t n q1 = 123 ∧ nx t n (nx t n p) ≤ q1 ∧ q1 ≤ n ∧ L.length = T.length ∧ T.length ≤ 4 ∧ (∀ x ∈ T, x = 0 ∨ x = 1) ∧ pst t n (riF a) (rno As ++ [riN a]) 3002 0 (nx t n q1) 1 i L 0 none = some (.inr (r, riL a, c, b, q2)) ∧ q = nx t n q2 ∧ riT a = ty ∧ riQ a = T ∧ riR a = r ++ ptl (riF a) ty := by
  have hB := (pit_B (As := As) (i := i) ht hp).2 a q hx
  have hF := hB.2.2.1
  have hN := hB.2.2.2.2.2.1
  have h1 := hB.2.2.2.1
  have b1 := nx_b (p := p) ht (by omega)
  have b2 := nx_b (p := nx t n p) ht (by have := hB.2.2.2.2.1; omega)
  unfold pit at hx
  rw [if_pos (by omega), show tkk t n p - 300 = riF a by omega, ← hN] at hx
  by_cases hc : tkk t n (nx t n p) = 2 ∧ kwi (rno As) (riN a) 0 = none ∧ cnK As (kdf (riF a)) < mst (kdf (riF a))
  · rw [if_pos hc] at hx
    unfold pi2 at hx
    rw [if_neg (by omega), if_neg (by omega), pbd_h] at hx
    cases hy : phd t n (rno As ++ [riN a]) (riF a) (nx t n (nx t n p)) with
    | inl q => rw [hy] at hx; cases hx
    | inr v =>
      obtain ⟨L, T, ty, q1⟩ := v
      rw [hy] at hx
      dsimp only at hx
      have hP := phd_B ht (by omega) hy
      unfold pb2 pblk at hx
      by_cases c1 : tkk t n q1 = 123 ∧ 0 < 12
      · rw [if_pos c1] at hx
        unfold pS at hx
        cases hs : pst t n (riF a) (rno As ++ [riN a]) 3002 0 (nx t n q1) (0 + 1) i L 0 none with
        | none => rw [hs] at hx; cases hx
        | some res =>
          rw [hs] at hx
          rcases res with q3 | ⟨r, L', c, b, q2⟩
          · cases hx
          · have e2 := Prod.mk.inj (Sum.inr.inj hx)
            have e1 := e2.1
            have eT : riT a = ty := by rw [← e1]
            have eQ : riQ a = T := by rw [← e1]
            have eL : riL a = L' := by rw [← e1]
            have eR : riR a = r ++ ptl (riF a) ty := (congrArg riR e1).symm
            exact ⟨L, T, ty, q1, q2, r, c, b, rfl, c1.1, hP.1, hP.2.1, hP.2.2.1, hP.2.2.2.1, hP.2.2.2.2, by rw [eL]; exact hs, e2.2.symm, eT, eQ, eR⟩
      · rw [if_neg c1] at hx; cases hx
  · rw [if_neg hc] at hx; cases hx
/-- the steps of an item: the pile, the jumps -/
def itH (i : Nat) (a : Ri) : Prop := 2 ≤ riF a → ∃ r, riR a = r ++ ptl (riF a) (riT a) ∧ STH i r none 0 1 ∧ rVs r
theorem pit_H {As : List Ri} {i p : Nat} {a : Ri} {q : Nat} (ht : txt t n) (hp : p ≤ n) (hx : pit t n As i p = .inr (a, q)) : itH i a := fun h2 => by
  obtain ⟨L, T, ty, q1, q2, r, c, b, h3, h4, h5, h6, h7, h8, h9, h10, h11, h12, h13, h14⟩ := pit_bd ht hp hx h2
  have b1 := nx_b (p := q1) ht (by omega)
  exact ⟨r, by rw [h12]; exact h14, pst_T ht _ _ _ _ _ _ _ _ _ _ _ _ _ _ b1.2.2 (by omega) (by omega) (by omega) h10, pst_V ht _ _ _ _ _ _ _ _ _ _ _ _ _ b1.2.2 (by omega) h10⟩
theorem ptl_H {fm : Nat} {ty : Int32} : hok (ptl fm ty) 0 ∧ hmx 1 (ptl fm ty) 0 ∧ rVs (ptl fm ty) ∧ flat (ptl fm ty) ∧ hrn (ptl fm ty) 0 = 0 ∧ cal4 (ptl fm ty) := by
  have key : ∀ (op : Nat), op = 12 ∨ op = 13 → hok [((op, 0, [], 0) : Rw)] 0 ∧ hmx 1 [((op, 0, [], 0) : Rw)] 0 ∧ rVs [((op, 0, [], 0) : Rw)] ∧ flat [((op, 0, [], 0) : Rw)] ∧ hrn [((op, 0, [], 0) : Rw)] 0 = 0 ∧ cal4 [((op, 0, [], 0) : Rw)] := fun op h => by
    have e1 : hnd ((op, 0, [], 0) : Rw) = 0 := by rcases h with rfl | rfl <;> simp [hnd]
    have e2 : hst ((op, 0, [], 0) : Rw) 0 = 0 := by unfold hst; rw [e1]; rcases h with rfl | rfl <;> simp [hpu]
    refine ⟨⟨by rw [e1]; omega, trivial⟩, hmx_1 (by omega) (by omega), fun x hx => ?_, flat_1 (by show op ≠ 14 ∧ op ≠ 15 ∧ op ≠ 16; omega), e2, fun x hx h4 => ?_⟩
    · rw [List.mem_singleton.mp hx]
      exact ⟨fun h5 => (by change 200 ≤ op at h5; omega), by simp, fun h5 => (by change op = 4 ∨ op = 5 ∨ op = 207 at h5; omega), fun h5 => (by change op = 204 ∨ op = 205 at h5; omega), Or.inr (Or.inl (by show 11 ≤ op ∧ op ≤ 17; omega)), fun _ _ _ => rfl⟩
    · rw [List.mem_singleton.mp hx] at h4
      change op = 204 ∨ op = 205 at h4
      omega
  unfold ptl
  by_cases h2 : fm = 2
  · rw [if_pos h2]
    have key2 : ∀ (op : Nat), op = 1 ∨ op = 3 → hok [((op, 0, [], 0) : Rw), (11, 0, [], 0)] 0 ∧ hmx 1 [((op, 0, [], 0) : Rw), (11, 0, [], 0)] 0 ∧ rVs [((op, 0, [], 0) : Rw), (11, 0, [], 0)] ∧ flat [((op, 0, [], 0) : Rw), (11, 0, [], 0)] ∧ hrn [((op, 0, [], 0) : Rw), (11, 0, [], 0)] 0 = 0 ∧ cal4 [((op, 0, [], 0) : Rw), (11, 0, [], 0)] := fun op h => by
      have e1 : hnd ((op, 0, [], 0) : Rw) = 0 := by rcases h with rfl | rfl <;> simp [hnd]
      have e2 : hst ((op, 0, [], 0) : Rw) 0 = 1 := by unfold hst; rw [e1]; rcases h with rfl | rfl <;> simp [hpu]
      have e3 : hnd ((11, 0, [], 0) : Rw) = 1 := by simp [hnd]
      have e4 : hst ((11, 0, [], 0) : Rw) 1 = 0 := by unfold hst; rw [e3]; simp [hpu]
      refine ⟨⟨by rw [e1]; omega, by rw [e2, e3]; omega, trivial⟩, ⟨by omega, by rw [e2]; exact hmx_1 (by omega) (by omega)⟩, fun x hx => ?_, fun x hx => ?_, by rw [hrn, e2]; exact e4, fun x hx h4 => ?_⟩
      · rcases List.mem_cons.mp hx with h5 | h5
        · rw [h5]
          exact ⟨fun h5 => (by change 200 ≤ op at h5; omega), by simp, fun h5 => (by change op = 4 ∨ op = 5 ∨ op = 207 at h5; omega), fun h5 => (by change op = 204 ∨ op = 205 at h5; omega), Or.inl (by show 1 ≤ op ∧ op ≤ 5; omega), fun _ _ _ => rfl⟩
        · rw [List.mem_singleton.mp h5]
          exact ⟨fun h5 => (by simp at h5), by simp, fun h5 => (by simp at h5), fun h5 => (by simp at h5), Or.inr (Or.inl (by simp)), fun _ _ _ => rfl⟩
      · rcases List.mem_cons.mp hx with h5 | h5
        · rw [h5]; show op ≠ 14 ∧ op ≠ 15 ∧ op ≠ 16; omega
        · rw [List.mem_singleton.mp h5]; simp
      · rcases List.mem_cons.mp hx with h5 | h5
        · rw [h5] at h4; change op = 204 ∨ op = 205 at h4; omega
        · rw [List.mem_singleton.mp h5] at h4; simp at h4
    by_cases h0 : ty = 0
    · rw [if_pos h0]; exact key2 1 (Or.inl rfl)
    · rw [if_neg h0]; exact key2 3 (Or.inr rfl)
  rw [if_neg h2]
  by_cases h3 : fm = 3
  · rw [if_pos h3]; exact key 12 (Or.inl rfl)
  · rw [if_neg h3]; exact key 13 (Or.inr rfl)
/-- .. of all of it -/
theorem itH_a {i : Nat} {a : Ri} (h : itH i a) (h2 : 2 ≤ riF a) : hok (riR a) 0 ∧ hmx 752 (riR a) 0 ∧ (cal4 (riR a) → hmx 96 (riR a) 0) ∧ rVs (riR a) ∧ hrn (riR a) 0 = 0 := by
  obtain ⟨r, h3, h4, h5⟩ := h h2
  obtain ⟨k1, k2, k3, k4, k5, k6⟩ := ptl_H (fm := riF a) (ty := riT a)
  obtain ⟨a1, a2, a3, a4⟩ := h4.1
  rw [h3]
  refine ⟨hok_a a2 (by rw [a1]; exact k1), hmx_a a3 (by rw [a1]; exact hmx_m (by omega) k2), fun hc => hmx_a (a4 (cal4_l hc)) (by rw [a1]; exact hmx_m (by omega) k2), fun x hx => ?_, by rw [hrn_a, a1, k5]⟩
  rcases List.mem_append.mp hx with h6 | h6
  · exact h5 x h6
  · exact k3 x h6
end MTI
/-- the misfit of an item -/
def tmR (I : List It) (a : Ri) (m m' : Option Nat) : Prop := if riF a = 0 then m' = (if riC a = riT a then m else omin m (some (riP a))) else if riF a = 1 then m' = m else ∃ LTr : Nat → Int32, (∀ j x, (riQ a)[j]? = some x → LTr j = x) ∧ m' = (trs2 I (riT a) (riR a) (LTr, [], m)).2.2
def tmA (I : List It) : List Ri → Option Nat → Option Nat → Prop
  | [], m, m' => m' = m
  | a :: r, m, m' => ∃ m1, tmR I a m m1 ∧ tmA I r m1 m'
/-- what is kept of the misfit -/
def TG (m : Option Nat) (σ : my_S) : Prop := σ.1 498 44 = mfI m ∧ okM m
section MTJ
variable {e : my_E} {d : Nat} {κ : my_K} {σ : my_S} {Q : my_O → my_K → my_S → Prop} {As : List Ri} {I : List It} {R : List Rw}
theorem t_259g {p : Nat} {m : Option Nat} (hp : p ≤ 1500) (h : TG m σ) (hd : 1 ≤ d) (hQ : ∀ σ', TG (omin m (some p)) σ' → eqp tyF σ σ' → Q (.inl none) κ σ') : my_M e d 259 [.inr (.inr (some 498)), .inl (Int32.ofNat p)] κ σ Q := by
  obtain ⟨d, rfl⟩ := dS 1 hd
  have hTS : ys_259_0 e d (Int32.ofNat p) κ σ Q := by
    have fin : ∀ v, v = mfI (omin m (some p)) → ys_259_24 e d v κ σ Q := fun v hv => by
      unfold ys_259_24
      have he : eqp (fun c k => c = 498 ∧ k = 44) σ (my_uI σ 498 44 v) := eqp_I eqp_rf ⟨rfl, rfl⟩
      exact hQ _ ⟨by rw [uI_s]; exact hv, okM_m h.2 (okM_s hp)⟩ (eqp_mo he (fun c k hh => by unfold tyF; omega))
    unfold ys_259_0
    rw [h.1]
    refine my_if (fun hn => ?_) (fun hn => ?_)
    · have := (mfI_lt h.2).mp hn
      unfold ys_259_16
      exact fin _ (by rw [this]; rfl)
    · cases hm : m with
      | none => exact absurd ((mfI_lt h.2).mpr hm) hn
      | some x =>
        have hx : x < 2147483648 := h.2 x hm
        rw [hm] at fin
        show if Int32.ofNat p < Int32.ofNat x then _ else _
        refine my_if (fun hl => ?_) (fun hl => ?_)
        · have := (oN_lt (by omega) hx).mp hl
          unfold ys_259_16
          refine fin _ ?_
          show _ = Int32.ofNat (min x p)
          rw [Nat.min_eq_right (by omega)]
        · have : ¬ p < x := fun hh => hl ((oN_lt (by omega) hx).mpr hh)
          refine fin _ ?_
          show Int32.ofNat x = Int32.ofNat (min x p)
          rw [Nat.min_eq_left (by omega)]
  exact ys_259 hTS
/-- the steps of an item -/
theorem t_258l {k i : Nat} {a : Ri} (hB : itsB As) (hrel : iRel As I) (hR : R.length ≤ 3200) (ha : As[k]? = some a) (h2 : 2 ≤ riF a) (hi : i = (rwA (As.take k)).length) (hRA : ∀ j x, (riR a)[j]? = some x → R[i + j]? = some x) (hl : i + (riR a).length ≤ 3200) (hd : 7 ≤ d) : ∀ (r : List Rw) (j : Nat) (s : T3) (σ : my_S), (riR a).drop j = r → j ≤ (riR a).length → rVs r → hok r s.2.1.length → hmx 799 r s.2.1.length → TM As R σ → TS s σ → (∀ σ', TS (trs2 I (riT a) r s) σ' → eqp tyF σ σ' → Q (.inl none) κ σ') → ys_258_95 e d (Int32.ofNat k) (Int32.ofNat (i + j)) κ σ Q := by
  have h42 := itsB_42 hB
  have hkA := (List.getElem?_eq_some_iff.mp ha).1
  intro r
  induction r with
  | nil =>
    intro j s σ hr hj hV ho hm hM h hQ
    have hjl : (riR a).length ≤ j := by
      have := congrArg List.length hr
      simp at this
      omega
    have hrt := (rit_at hM.1.2 ha).2.2.2.2.2.2.2 h2
    rw [Nat.zero_add, Nat.zero_add] at hrt
    unfold ys_258_95
    refine ⟨⟨by rw [oN_i (by omega)]; omega, by rw [oN_i (by omega)]; omega⟩, ?_⟩
    rw [oN_n (by omega), hrt.2.1, ← hi, if_neg (by rw [oN_lt (by omega) (by omega)]; omega)]
    exact hQ σ h eqp_rf
  | cons x r ih =>
    intro j s σ hr hj hV ho hm hM h hQ
    have hjx : (riR a)[j]? = some x := by
      have := congrArg (fun l => l[0]?) hr
      simpa using this
    have hjl := (List.getElem?_eq_some_iff.mp hjx).1
    have hrt := (rit_at hM.1.2 ha).2.2.2.2.2.2.2 h2
    rw [Nat.zero_add, Nat.zero_add] at hrt
    unfold ys_258_95
    refine ⟨⟨by rw [oN_i (by omega)]; omega, by rw [oN_i (by omega)]; omega⟩, ?_⟩
    rw [oN_n (by omega), hrt.2.1, ← hi, if_pos (by rw [oN_lt (by omega) (by omega)]; omega)]
    have hVx := hV x (List.mem_cons_self ..)
    refine t_260 hB hrel hM h hR (hRA j x hjx) hVx ha (by omega) ho.1 hm.1 (hmx_0 hm.2) hd (fun σ1 g1 f1 => ?_)
    rw [my_k0_v, oN_s]
    refine ys_258_95_ok ?_
    have hln := tr2_len (I := I) (ity := riT a) (x := x) (s := s) hVx ho.1
    have hr2 : (riR a).drop (j + 1) = r := by
      rw [← List.tail_drop, hr]
      rfl
    rw [Nat.add_assoc]
    exact ih (j + 1) (tr2 I (riT a) x s) σ1 hr2 (by omega) (fun y hy => hV y (List.mem_cons_of_mem _ hy)) (by rw [hln]; exact ho.2) (by rw [hln]; exact hm.2) (TM_o hB hM f1) g1 (fun σ2 g2 f2 => hQ σ2 g2 (eqp_tr f1 f2))
/-- an item -/
theorem t_258 {k i : Nat} {a : Ri} {m : Option Nat} (hB : itsB As) (hrel : iRel As I) (hR : R.length ≤ 3200) (ha : As[k]? = some a) (hi : i = (rwA (As.take k)).length) (hRA : ∀ j x, (riR a)[j]? = some x → R[i + j]? = some x) (hl : i + (riR a).length ≤ 3200) (hH : itH i a) (hd : 8 ≤ d) (hM : TM As R σ) (h : TG m σ) (hQ : ∀ m' σ', tmR I a m m' → TG m' σ' → TM As R σ' → eqp tyF σ σ' → Q (.inl none) κ σ') : my_M e d 258 [.inr (.inr (some 498)), .inl (Int32.ofNat k)] κ σ Q := by
  obtain ⟨d, rfl⟩ := dS 1 (show 1 ≤ d by omega)
  have h42 := itsB_42 hB
  have hkA := (List.getElem?_eq_some_iff.mp ha).1
  have hW := hB.2 a (List.mem_of_getElem? ha)
  have hr := rit_at hM.1.2 ha
  rw [Nat.zero_add, Nat.zero_add] at hr
  obtain ⟨r1, r2, r3, r4, r5, r6, r7, r8⟩ := hr
  have bd : my_bd (Int32.ofNat k) 48 := ⟨by rw [oN_i (by omega)]; omega, by rw [oN_i (by omega)]; omega⟩
  have hF := hW.1
  refine ys_258 ?_
  unfold ys_258_0
  rw [oN_n (by omega), r1]
  refine ⟨bd, ?_⟩
  refine my_if (fun h0 => ?_) (fun h0 => ⟨bd, my_if (fun h1 => ?_) (fun h1 => ?_)⟩)
  · have h0 := (oN_e (b := 10) (by omega) (by omega)).mp h0
    have hf0 : riF a = 0 := by omega
    refine ⟨bd, bd, ?_⟩
    rw [(r5 hf0).1, r3 (by omega)]
    refine my_if (fun h1 => ?_) (fun h1 => ⟨bd, ?_⟩)
    · unfold ys_258_36
      exact hQ m σ (by unfold tmR; rw [if_pos hf0, if_pos h1]) h hM eqp_rf
    · rw [(r5 hf0).2]
      refine t_259g hW.2.2.2.2.2.2.2.2.1 h (by omega) (fun σ1 g1 f1 => ?_)
      rw [my_k0_v]
      unfold ys_258_36
      exact hQ _ σ1 (by unfold tmR; rw [if_pos hf0, if_neg h1]) g1 (TM_o hB hM f1) f1
  · have h1 := (oN_e (b := 11) (by omega) (by omega)).mp h1
    exact hQ m σ (by unfold tmR; rw [if_neg (by omega), if_pos (by omega)]) h hM eqp_rf
  · have n0 : riF a ≠ 0 := fun hh => h0 (by rw [hh]; rfl)
    have n1 : riF a ≠ 1 := fun hh => h1 (by rw [hh]; rfl)
    have h2 : 2 ≤ riF a := by omega
    have hq4 := hW.2.2.1
    have loop : ∀ (c j : Nat) (σ1 : my_S), j + c = (riQ a).length → (∀ u x, u < j → (riQ a)[u]? = some x → σ1.1 528 u = x) → eqp tyF σ σ1 → TG m σ1 → ys_258_51 e d (Int32.ofNat k) (Int32.ofNat j) κ σ1 Q := fun c => by
      induction c with
      | zero =>
        intro j σ1 hj hu f1 g1
        have hM1 := TM_o hB hM f1
        have hr1 := rit_at hM1.1.2 ha
        rw [Nat.zero_add, Nat.zero_add] at hr1
        unfold ys_258_51
        rw [oN_n (by omega), hr1.2.2.2.2.2.1, if_neg (by rw [oN_lt (by omega) (by omega)]; omega)]
        refine ⟨bd, bd, ?_⟩
        rw [(hr1.2.2.2.2.2.2.2 h2).1, ← hi]
        refine ys_258_95_ok ?_
        obtain ⟨k1, k2, k3, k4, k5⟩ := itH_a hH h2
        have f2 : eqp tyF σ1 (my_uI σ1 498 47 0) := eqp_I eqp_rf (by unfold tyF; omega)
        have hTS : TS (fun j => σ1.1 528 j, [], m) (my_uI σ1 498 47 0) := ⟨fun j hj => by show (my_uI σ1 498 47 0).1 528 j = σ1.1 528 j; rw [my_uI_1, if_neg (by omega)], ⟨uI_s, trivial⟩, (by rw [my_uI_1, if_neg (by omega)]; exact g1.1), g1.2, fun x hx => absurd hx List.not_mem_nil⟩
        have := t_258l (e := e) (d := d) (κ := κ) (Q := Q) (I := I) hB hrel hR ha h2 hi hRA hl (by omega) (riR a) 0 (fun j => σ1.1 528 j, [], m) (my_uI σ1 498 47 0) rfl (by omega) k4 k1 (hmx_m (by omega) k2) (TM_o hB hM1 f2) hTS (fun σ3 g3 f3 => hQ _ σ3 (by unfold tmR; rw [if_neg n0, if_neg n1]; exact ⟨fun j => σ1.1 528 j, fun j x hj => hu j x (by have := (List.getElem?_eq_some_iff.mp hj).1; omega) hj, rfl⟩) ⟨g3.2.2.1, g3.2.2.2.1⟩ (TM_o hB (TM_o hB hM1 f2) f3) (eqp_tr f1 (eqp_tr f2 f3)))
        rw [Nat.add_zero] at this
        exact this
      | succ c ih =>
        intro j σ1 hj hu f1 g1
        have hM1 := TM_o hB hM f1
        have hr1 := rit_at hM1.1.2 ha
        rw [Nat.zero_add, Nat.zero_add] at hr1
        unfold ys_258_51
        rw [oN_n (by omega), hr1.2.2.2.2.2.1, if_pos (by rw [oN_lt (by omega) (by omega)]; omega)]
        have e4 : (4 : Int32) * Int32.ofNat k + Int32.ofNat j = Int32.ofNat (4 * k + j) := by
          rw [show (4 : Int32) = Int32.ofNat 4 from rfl, ← Int32.ofNat_mul, ← Int32.ofNat_add]
        rw [e4, oN_n (by omega), oN_n (by omega), oN_s]
        refine ⟨bd, ⟨by rw [oN_i (by omega)]; omega, by rw [oN_i (by omega)]; omega⟩, ⟨by rw [oN_i (by omega)]; omega, by rw [oN_i (by omega)]; omega⟩, ys_258_51_ok ?_⟩
        have hjq : j < (riQ a).length := by omega
        rw [hr1.2.2.2.2.2.2.1 j _ (List.getElem?_eq_getElem hjq)]
        refine ih (j + 1) _ (by omega) (fun u x hu2 hx => ?_) (eqp_I f1 (by unfold tyF; omega)) ⟨(uI_o (by omega)).trans g1.1, g1.2⟩
        by_cases huj : u = j
        · subst huj
          rw [uI_s]
          rw [List.getElem?_eq_getElem hjq] at hx
          exact Option.some.inj hx
        · rw [my_uI_1, if_neg (by omega)]
          exact hu u x (by omega) hx
    refine ys_258_51_ok ?_
    exact loop (riQ a).length 0 σ (by omega) (fun u x hu => by omega) eqp_rf h
/-- all items -/
theorem t_217 {Hs : List Ri} (hB : itsB As) (hrel : iRel As I) (hRR : R = rwA As) (hR : R.length ≤ 3200) (hH : ∀ k a, As[k]? = some a → itH (rwA (As.take k)).length a) (hd : 9 ≤ d) : ∀ (Bs : List Ri) (k : Nat) (m : Option Nat) (σ : my_S), As.drop k = Bs → k ≤ As.length → TM As R σ → TG m σ → (∀ m' σ', tmA I Bs m m' → TG m' σ' → TM As R σ' → eqp tyF σ σ' → ys_217_91 e d (Int32.ofNat As.length) κ σ' Q) → ys_217_91 e d (Int32.ofNat k) κ σ Q := by
  have h42 := itsB_42 hB
  intro Bs
  induction Bs with
  | nil =>
    intro k m σ hk hkl hM h hQ
    have : As.length ≤ k := by
      have := congrArg List.length hk
      simp at this
      omega
    have hkk : k = As.length := by omega
    subst hkk
    exact hQ m σ rfl h hM eqp_rf
  | cons a Bs ih =>
    intro k m σ hk hkl hM h hQ
    have ha : As[k]? = some a := by
      have := congrArg (fun l => l[0]?) hk
      simpa using this
    have hkA := (List.getElem?_eq_some_iff.mp ha).1
    have hsp : As = As.take k ++ a :: Bs := by rw [← hk, List.take_append_drop]
    have hrA : rwA As = rwA (As.take k) ++ (riR a ++ rwA Bs) := by
      have := congrArg rwA hsp
      rw [rwA_a] at this
      exact this
    unfold ys_217_91
    rw [hM.1.1, if_pos (by rw [oN_lt (by omega) (by omega)]; omega)]
    refine t_258 (i := (rwA (As.take k)).length) hB hrel hR ha rfl (fun j x hj => ?_) ?_ (hH k a ha) (by omega) hM h (fun m1 σ1 w1 g1 hM1 f1 => ?_)
    · rw [hRR, hrA, List.getElem?_append_right (by omega), Nat.add_sub_cancel_left, List.getElem?_append_left (List.getElem?_eq_some_iff.mp hj).1]
      exact hj
    · rw [hRR, hrA] at hR
      simp at hR
      omega
    rw [my_k0_v, oN_s]
    refine ys_217_91_ok ?_
    exact ih (k + 1) m1 σ1 (by rw [← List.tail_drop, hk]; rfl) (by omega) hM1 g1 (fun m' σ' w g hM' f => hQ m' σ' ⟨m1, w1, w⟩ g hM' (eqp_tr f1 f))
end MTJ
