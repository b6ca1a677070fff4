/-! ===== loops on both sides; all statements ===== -/
section MTY3
variable {t : Nat → Int32} {n : Nat} {L L1 L2 : List (List Nat)} {LT LT1 LT2 LTr : Nat → Int32} {I : List It} {ity cF : Int32}
theorem ptc_t {b : List Nat} : ∀ {r : List Rw} {base T : Nat}, T < 2147483648 → (∀ j ∈ b, ∃ l, l < 2147483648 ∧ r[j - base]? = some (jmp 14 l)) → ∀ s, trs2 I ity (ptc b base T r) s = trs2 I ity r s := by
  induction b with
  | nil => intro r base T _ _ s; rfl
  | cons j b ih =>
    intro r base T hT h s
    obtain ⟨l, hl, hj⟩ := h j (by simp)
    have hjl : j - base < r.length := by
      by_cases hh : j - base < r.length
      · exact hh
      · rw [List.getElem?_eq_none (by omega)] at hj; cases hj
    show trs2 I ity (ptc b base T (r.set (j - base) (jmp 14 T))) s = _
    rw [ih hT (fun i hi => ?_), trs2_set hj]
    obtain ⟨l', hl', hi'⟩ := h i (by simp [hi])
    by_cases hh : i - base = j - base
    · exact ⟨T, hT, by rw [hh, List.getElem?_set_self hjl]⟩
    · exact ⟨l', hl', by rw [List.getElem?_set_ne (fun h2 => hh h2.symm)]; exact hi'⟩
theorem cpl_l {S S' : St} (h : S'.2.2.1.length = S.2.2.1.length) : cpl cF S' = cpl cF S := by unfold cpl; rw [h]
theorem lnds_p {J : Nat → Int32} {base T : Nat} (hT : T < 2147483648) {A C : List Int32} {N : List Nat} : ∀ {b : List Nat} {rb : List Rw} {S : St}, S.2.2.1 = A ++ (eb I J rb N ++ C) → S.2.2.1.length ≤ 6144 → cpl cF S = J T → (∀ j ∈ b, ∃ l, l < 2147483648 ∧ rb[j - base]? = some (jmp 14 l)) → NFr I rb → lnds true cF (b.map (fun j => Int32.ofNat (A.length + lens (rb.take (j - base)) + 1))) S = (S.1, S.2.1, A ++ (eb I J (ptc b base T rb) N ++ C), S.2.2.2) := by
  intro b
  induction b with
  | nil =>
    intro rb S hB hl hc h hN
    show S = _
    rw [show ptc [] base T rb = rb from rfl, ← hB]
  | cons j b ih =>
    intro rb S hB hl hc h hN
    obtain ⟨l, hl2, hj⟩ := h j (by simp)
    have hjl : j - base < rb.length := by
      by_cases hh : j - base < rb.length
      · exact hh
      · rw [List.getElem?_eq_none (by omega)] at hj; cases hj
    obtain ⟨P, E, e1, e2, e3⟩ := eb_set (J := J) hT hl2 hj hN N
    have hB2 : S.2.2.1 = (A ++ P) ++ bt (J l) 0 :: bt (J l) 1 :: (E ++ C) := by
      rw [hB, e1, bts2]
      simp
    have e4 := lnd_e (cF := cF) hB2 hl
    have hPl : (A ++ P).length = A.length + lens (rb.take (j - base)) + 1 := by rw [List.length_append, e3]; omega
    rw [hPl, hc] at e4
    show lnds true cF (b.map _) (lnd true cF (Int32.ofNat (A.length + lens (rb.take (j - base)) + 1)) S) = _
    rw [e4]
    have hm : b.map (fun j => Int32.ofNat (A.length + lens (rb.take (j - base)) + 1)) = b.map (fun i => Int32.ofNat (A.length + lens ((rb.set (j - base) (jmp 14 T)).take (i - base)) + 1)) := map_c (fun i _ => by rw [lens_set hj])
    rw [hm]
    have hl5 : (S.1, S.2.1, (A ++ P) ++ (bts (J T) 2 0 ++ (E ++ C)), S.2.2.2).2.2.1.length = S.2.2.1.length := by
      rw [hB2]
      simp only [List.length_append, List.length_cons, bts_l]
      omega
    have := ih (rb := rb.set (j - base) (jmp 14 T)) (S := (S.1, S.2.1, (A ++ P) ++ (bts (J T) 2 0 ++ (E ++ C)), S.2.2.2)) (by rw [e2]; simp) (by rw [hl5]; exact hl) (by rw [cpl_l hl5]; exact hc) (fun i hi => ?_) (NFr_set hj hN)
    · rw [this]
      rfl
    · obtain ⟨l', hl', hi'⟩ := h i (by simp [hi])
      by_cases hh : i - base = j - base
      · exact ⟨T, hT, by rw [hh, List.getElem?_set_self hjl]⟩
      · exact ⟨l', hl', by rw [List.getElem?_set_ne (fun h2 => hh h2.symm)]; exact hi'⟩
theorem STY_p {S S1 : St} {p q : Nat} {r r' : List Rw} {X : Prop} (h : STY I ity L LT LTr S p r L1 q LT1 S1 X) (h1 : ∀ s, trs2 I ity r' s = trs2 I ity r s) (h2 : NFr I r → NFr I r') : STY I ity L LT LTr S p r' L1 q LT1 S1 X := by
  obtain ⟨mm, mR, LTr', a1, a2, a3, a4, a5⟩ := h
  refine ⟨mm, mR, LTr', a1, a2, a3, fun mf => by rw [h1]; exact a4 mf, fun a b => ⟨(a5 a b).1, fun h0 => ?_⟩⟩
  obtain ⟨g1, g2, g3, g4⟩ := (a5 a b).2 h0
  exact ⟨g1, g2, h2 g3, g4⟩
theorem NFr_l {r r' : List Rw} (h : NFr I (r ++ r')) : NFr I r := fun x hx => h x (by simp [hx])
theorem NFr_r {r r' : List Rw} (h : NFr I (r ++ r')) : NFr I r' := fun x hx => h x (by simp [hx])
/-- while -/
theorem STT_wh {i p q q1 T : Nat} {lp : Option Nat} {ls : Int32} {S SA S4 : St} {B B1 : List Int32} {rc rb : List Rw} {b : List Nat} (hp : p ≤ q) (hq : q ≤ q1) (hT : T = i + rc.length + 2 + rb.length + 1) (hT2 : T < 2147483648)
    (h1 : STY I ity L LT LTr S p (rc ++ [jmp 15 T]) L q LT (wjS true 15 0 SA) (S.2.2.1.length + lens (rc ++ [jmp 15 T]) ≤ 6144 → ∀ J, SA = (S.1, S.2.1, S.2.2.1 ++ eb I J rc S.2.2.2, ndl I rc S.2.2.2)))
    (h2 : ∀ LTr1, STT I ity cF L LT LTr1 (i + rc.length + 2) (some i) (cpl cF S) (wr true 16 1 (wjS true 15 0 SA)) B q rb L1 b q1 LT1 B1 S4) (hbk : ∀ j ∈ b, rb[j - (i + rc.length + 2)]? = some (jmp 14 i)) (hbl : b.length * 6 + q ≤ q1) (hq15 : q1 ≤ 1500) : STT I ity cF L LT LTr i lp ls S B p (rc ++ jmp 15 T :: (16, 0, [], 0) :: (ptc b (i + rc.length + 2) T rb ++ [jmp 14 i])) L1 [] q1 LT1 B (lnds true cF (B1.drop B.length) (lnd true cF (wjP true 15 0 SA) (wjS true 14 (cpl cF S) S4))) := by
  have hbk' : ∀ j ∈ b, ∃ l, l < 2147483648 ∧ rb[j - (i + rc.length + 2)]? = some (jmp 14 l) := fun j hj => ⟨i, by omega, hbk j hj⟩
  have er : rc ++ jmp 15 T :: (16, 0, [], 0) :: (ptc b (i + rc.length + 2) T rb ++ [jmp 14 i]) = (((rc ++ [jmp 15 T]) ++ [(16, 0, [], 0)]) ++ ptc b (i + rc.length + 2) T rb) ++ [jmp 14 i] := by simp
  rw [er]
  have z1 := STY_n (x := (16, 0, [], 0)) (STY_c (S2 := wr true 16 1 (wjS true 15 0 SA)) h1 wr_1 (Nat.le_refl _)) (fun s => rfl) (NFr_1 (fun hh => by simp only [] at hh; omega))
  have z2 := STY_s hp hq z1 h2
  have z3 := STY_n (x := jmp 14 i) (STY_c (S2 := lnds true cF (B1.drop B.length) (lnd true cF (wjP true 15 0 SA) (wjS true 14 (cpl cF S) S4))) z2 (lnds_1.trans (lnd_1.trans wjS_1)) (Nat.le_refl _)) (fun s => tr2_j) (NFr_1 (fun hh => by unfold jmp at hh; simp only [] at hh; omega))
  refine STY_m (STY_p z3 (fun s => ?_) (fun hN => ?_)) (fun _ ⟨hN1, hN2, X1, X2⟩ => ?_)
  · rw [trs2_a, trs2_a, trs2_a (r2 := [jmp 14 i]), trs2_a (r2 := rb), ptc_t hT2 hbk']
  · exact NFr_a (NFr_a (NFr_l (NFr_l hN)) (ptc_k (ity := ity) hT2 hbk' (NFr_r (NFr_l hN))).1) (NFr_r hN)
  intro hBp J c0 hc0 hc1 hJ hB hls hBl
  obtain ⟨pk1, _, pk3, pk4⟩ := ptc_k (I := I) (ity := ity) (b := b) (r := rb) (base := i + rc.length + 2) (T := T) hT2 hbk' hN2
  have hlp : lens (ptc b (i + rc.length + 2) T rb) = lens rb := by
    have := pk3 rb.length
    rw [List.take_length, show rb.length = (ptc b (i + rc.length + 2) T rb).length from ptc_len.symm, List.take_length] at this
    exact this
  have hNc := NFr_l (NFr_l hN1)
  have l16 : lens [((16, 0, [], 0) : Rw)] = 1 := rfl
  have hB2 : S.2.2.1.length + (lens rc + 3 + 1 + lens rb + 3) ≤ 6144 := by
    rw [lens_a, lens_a, lens_a, lens_a, hlp, jmp_ln (Or.inl rfl), jmp_ln (Or.inr rfl), l16] at hB
    omega
  have hlA : lens (rc ++ [jmp 15 T]) = lens rc + 3 := by rw [lens_a, jmp_ln (Or.inr rfl)]
  have sA := X1 (by omega) J
  have lA := BYT_len (i := i) hNc sA
  have wj : wjS true 15 0 SA = apB SA (bts 15 1 0 ++ bts 0 2 0) := wjS_ap (by omega)
  have lW : (wjS true 15 0 SA).2.2.1.length = SA.2.2.1.length + 3 := by rw [wj]; unfold apB; simp [bts_l]
  have w16 : wr true 16 1 (wjS true 15 0 SA) = apB (wjS true 15 0 SA) (bts 16 1 0) := wr1_ap (by omega)
  have l3 : (wr true 16 1 (wjS true 15 0 SA)).2.2.1.length = S.2.2.1.length + (lens rc + 3 + 1) := by rw [w16]; unfold apB; simp [bts_l]; omega
  have hlP : lens ((rc ++ [jmp 15 T]) ++ [((16, 0, [], 0) : Rw)]) = lens rc + 3 + 1 := by rw [lens_a (r := rc ++ [jmp 15 T]), hlA, l16]
  have hnP : ((rc ++ [jmp 15 T]) ++ [((16, 0, [], 0) : Rw)]).length = rc.length + 2 := by simp
  have hJ2 := HJ_r (HJ_l hJ)
  rw [hlP, hnP, show S.2.2.1.length - c0 + (lens rc + 3 + 1) = (wr true 16 1 (wjS true 15 0 SA)).2.2.1.length - c0 by omega, show i + (rc.length + 2) = i + rc.length + 2 by omega] at hJ2
  have hJ3 : HJ J (i + rc.length + 2) rb ((wr true 16 1 (wjS true 15 0 SA)).2.2.1.length - c0) := fun k hk => by
    have := hJ2 k (by rw [ptc_len]; exact hk)
    rw [pk3] at this
    exact this
  have hJi : cpl cF S = J i := by
    rw [cpl_e hc0 hc1]
    have := hJ 0 (by omega)
    rw [Nat.add_zero, List.take_zero] at this
    exact this.symm
  obtain ⟨s4, t4⟩ := X2 (by omega) J c0 hc0 (by omega) hJ3 (by omega) (fun l hl => by cases hl; exact hJi) (by omega)
  have l4 := BYT_len (i := i) hN2 s4
  have wj4 : wjS true 14 (cpl cF S) S4 = apB S4 (bts 14 1 0 ++ bts (J i) 2 0) := by rw [hJi]; exact wjS_ap (by omega)
  have l5 : (wjS true 14 (cpl cF S) S4).2.2.1.length = S4.2.2.1.length + 3 := by rw [wj4]; unfold apB; simp [bts_l]
  have hBs : (wjS true 14 (cpl cF S) S4).2.2.1 = (SA.2.2.1 ++ bts 15 1 0) ++ bt 0 0 :: bt 0 1 :: (bts 16 1 0 ++ (eb I J rb (wr true 16 1 (wjS true 15 0 SA)).2.2.2 ++ (bts 14 1 0 ++ bts (J i) 2 0))) := by
    rw [wj4, s4, w16, wj]
    unfold apB
    simp [bts2]
  have hPl : (SA.2.2.1 ++ bts 15 1 0).length = SA.2.2.1.length + 1 := by simp [bts_l]
  have e1 := lnd_e (cF := cF) hBs (by omega)
  rw [hPl] at e1
  have hcp : cpl cF (wjS true 14 (cpl cF S) S4) = J T := by
    rw [cpl_e hc0 (by omega), l5, l4, l3]
    have := hJ ((((rc ++ [jmp 15 T]) ++ [((16, 0, [], 0) : Rw)]) ++ ptc b (i + rc.length + 2) T rb) ++ [jmp 14 i]).length (Nat.le_refl _)
    have eT : i + ((((rc ++ [jmp 15 T]) ++ [((16, 0, [], 0) : Rw)]) ++ ptc b (i + rc.length + 2) T rb) ++ [jmp 14 i]).length = T := by simp [ptc_len]; omega
    rw [eT, List.take_length, lens_a, lens_a, hlP, hlp, jmp_ln (Or.inl rfl)] at this
    rw [this]
    exact congrArg Int32.ofNat (by omega)
  have hwP : wjP true 15 0 SA = Int32.ofNat (SA.2.2.1.length + 1) := wjP_e (by omega)
  rw [← hwP, hcp] at e1
  have l6 : (lnd true cF (wjP true 15 0 SA) (wjS true 14 (cpl cF S) S4)).2.2.1.length = (wjS true 14 (cpl cF S) S4).2.2.1.length := by
    rw [e1, hBs]
    simp only [List.length_append, List.length_cons, bts_l]
    omega
  have hBs6 : (lnd true cF (wjP true 15 0 SA) (wjS true 14 (cpl cF S) S4)).2.2.1 = ((SA.2.2.1 ++ bts 15 1 0) ++ (bts (J T) 2 0 ++ bts 16 1 0)) ++ (eb I J rb (wr true 16 1 (wjS true 15 0 SA)).2.2.2 ++ (bts 14 1 0 ++ bts (J i) 2 0)) := by
    rw [e1]
    simp
  have hAl : ((SA.2.2.1 ++ bts 15 1 0) ++ (bts (J T) 2 0 ++ bts 16 1 0)).length = (wr true 16 1 (wjS true 15 0 SA)).2.2.1.length := by
    rw [l3]
    simp only [List.length_append, bts_l]
    omega
  have e7 := lnds_p (cF := cF) (I := I) (base := i + rc.length + 2) (T := T) (J := J) hT2 (b := b) (rb := rb) hBs6 (by omega) (by rw [cpl_l l6]; exact hcp) hbk' hN2
  rw [hAl] at e7
  have hdrop : B1.drop B.length = b.map (fun j => Int32.ofNat ((wr true 16 1 (wjS true 15 0 SA)).2.2.1.length + lens (rb.take (j - (i + rc.length + 2))) + 1)) := by
    rw [t4]; simp
  rw [hdrop, e7]
  refine ⟨?_, by simp⟩
  rw [e1, wj4, s4, w16, wj, sA]
  unfold apB
  have e16 : ∀ N, eb1 I J ((16, 0, [], 0) : Rw) N = bts 16 1 0 := fun N => rfl
  have n16 : ∀ N, nd1 I ((16, 0, [], 0) : Rw) N = N := fun N => rfl
  simp [eb_a, ndl_a, eb, ndl, jmp_eb (Or.inr rfl) hT2, jmp_eb (Or.inl rfl) (show i < 2147483648 by omega), jmp_nd (Or.inr rfl), jmp_nd (Or.inl rfl), pk4, e16, n16]
end MTY3
