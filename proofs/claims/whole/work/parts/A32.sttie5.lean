/-! ===== if with else; loops ===== -/
section MTX2
variable {t : Nat → Int32} {n : Nat} {L L1 L2 : List (List Nat)} {LT LT1 LT2 LTr : Nat → Int32} {I : List It} {ity cF : Int32}
theorem STT_el {i p q q1 q2 T T2 : Nat} {lp : Option Nat} {ls : Int32} {S SA S3 S6 : St} {B B1 B2 : List Int32} {rc rb re : List Rw} {b b2 : List Nat} (hp : p ≤ q) (hq : q ≤ q1) (hq2 : q1 ≤ q2) (hbl1 : b.length * 6 + q ≤ q1) (hT : T = i + rc.length + 1 + rb.length + 1) (hTT : T2 = T + re.length) (hT2 : T2 < 2147483648) (hNc : NFr I (rc ++ [jmp 15 T]) → NFr I rc)
    (h1 : STY I ity L LT LTr S p (rc ++ [jmp 15 T]) L q LT (wjS true 15 0 SA) (S.2.2.1.length + lens (rc ++ [jmp 15 T]) ≤ 6144 → ∀ J, SA = (S.1, S.2.1, S.2.2.1 ++ eb I J rc S.2.2.2, ndl I rc S.2.2.2)))
    (h2 : ∀ LTr1, STT I ity cF L LT LTr1 (i + rc.length + 1) lp ls (wjS true 15 0 SA) B q rb L1 b q1 LT1 B1 S3) (hb : ∀ j ∈ b, i + rc.length + 1 ≤ j ∧ j < i + rc.length + 1 + rb.length)
    (h3 : ∀ LTr1, STT I ity cF L1 LT1 LTr1 T lp ls (lnd true cF (wjP true 15 0 SA) (wjS true 14 0 S3)) B1 q1 re L2 b2 q2 LT2 B2 S6) (hb2 : ∀ j ∈ b2, T ≤ j ∧ j < T + re.length) : STT I ity cF L LT LTr i lp ls S B p (rc ++ jmp 15 T :: (rb ++ jmp 14 T2 :: re)) L2 (b ++ b2) q2 LT2 B2 (lnd true cF (wjP true 14 0 S3) S6) := by
  have er : rc ++ jmp 15 T :: (rb ++ jmp 14 T2 :: re) = (((rc ++ [jmp 15 T]) ++ rb) ++ [jmp 14 T2]) ++ re := by simp
  rw [er]
  have z1 := STY_n (x := jmp 14 T2) (STY_c (S2 := lnd true cF (wjP true 15 0 SA) (wjS true 14 0 S3)) (STY_s hp hq h1 h2) (lnd_1.trans wjS_1) (Nat.le_refl _)) (fun s => rfl) (NFr_1 (fun hh => by unfold jmp at hh; simp only [] at hh; omega))
  refine STY_m (STY_c (STY_s (Nat.le_trans hp hq) hq2 z1 h3) lnd_1 (Nat.le_refl _)) (fun _ ⟨_, hN3, ⟨hN1, hN2, X1, X2⟩, X3⟩ => ?_)
  intro hBp J c0 hc0 hc1 hJ hB hls hBl
  have hB' := hB
  rw [lens_a, lens_a, lens_a, jmp_ln (Or.inl rfl)] at hB
  rw [List.length_append] at hBl
  have hlA : lens (rc ++ [jmp 15 T]) = lens rc + 3 := by rw [lens_a, jmp_ln (Or.inr rfl)]
  have sA := X1 (by omega) J
  have hNc' := hNc hN1
  have lA := BYT_len (i := i) hNc' sA
  have wj : wjS true 15 0 SA = apB SA (bts 15 1 0 ++ bts 0 2 0) := wjS_ap (by omega)
  have lW : (wjS true 15 0 SA).2.2.1.length = S.2.2.1.length + lens (rc ++ [jmp 15 T]) := by rw [wj]; unfold apB; simp [bts_l]; omega
  have hJ1 := HJ_l (HJ_l hJ)
  have hJ2 := HJ_r hJ1
  rw [show S.2.2.1.length - c0 + lens (rc ++ [jmp 15 T]) = (wjS true 15 0 SA).2.2.1.length - c0 by omega, List.length_append, List.length_cons, List.length_nil, show i + (rc.length + (0 + 1)) = i + rc.length + 1 by omega] at hJ2
  obtain ⟨s3, t3⟩ := X2 (by omega) J c0 hc0 (by omega) hJ2 (by omega) hls (by omega)
  have l3 := BYT_len (i := i) hN2 s3
  have wj3 : wjS true 14 0 S3 = apB S3 (bts 14 1 0 ++ bts 0 2 0) := wjS_ap (by omega)
  have l4 : (wjS true 14 0 S3).2.2.1.length = S3.2.2.1.length + 3 := by rw [wj3]; unfold apB; simp [bts_l]
  have hBs : (wjS true 14 0 S3).2.2.1 = (SA.2.2.1 ++ bts 15 1 0) ++ bt 0 0 :: bt 0 1 :: (eb I J rb (wjS true 15 0 SA).2.2.2 ++ (bts 14 1 0 ++ bts 0 2 0)) := by
    rw [wj3, s3, wj]
    unfold apB
    simp [bts2]
  have hPl : (SA.2.2.1 ++ bts 15 1 0).length = SA.2.2.1.length + 1 := by simp [bts_l]
  have e1 := lnd_e (cF := cF) hBs (by omega)
  rw [hPl] at e1
  have hJT : J T = Int32.ofNat (S.2.2.1.length - c0 + (lens (rc ++ [jmp 15 T]) + lens rb + 3)) := by
    have := hJ (((rc ++ [jmp 15 T]) ++ rb) ++ [jmp 14 T2]).length (by rw [List.length_append (as := ((rc ++ [jmp 15 T]) ++ rb) ++ [jmp 14 T2])]; omega)
    rw [List.take_append_of_le_length (Nat.le_refl _), List.take_length, lens_a, lens_a, jmp_ln (Or.inl rfl)] at this
    have eT : i + (((rc ++ [jmp 15 T]) ++ rb) ++ [jmp 14 T2]).length = T := by simp; omega
    rw [eT] at this
    exact this
  have hcp : cpl cF (wjS true 14 0 S3) = J T := by
    rw [cpl_e hc0 (by omega), l4, l3, lW, hJT]
    exact congrArg Int32.ofNat (by omega)
  have hwP : wjP true 15 0 SA = Int32.ofNat (SA.2.2.1.length + 1) := wjP_e (by omega)
  rw [← hwP, hcp] at e1
  have l5 : (lnd true cF (wjP true 15 0 SA) (wjS true 14 0 S3)).2.2.1.length = S.2.2.1.length + (lens (rc ++ [jmp 15 T]) + lens rb + 3) := by
    have : (lnd true cF (wjP true 15 0 SA) (wjS true 14 0 S3)).2.2.1.length = (wjS true 14 0 S3).2.2.1.length := by
      rw [e1, hBs]
      simp only [List.length_append, List.length_cons, bts_l]
      omega
    rw [this, l4, l3, lW]
    omega
  have hJ3 := HJ_r hJ
  have eT : i + (((rc ++ [jmp 15 T]) ++ rb) ++ [jmp 14 T2]).length = T := by simp; omega
  rw [eT, lens_a, lens_a, jmp_ln (Or.inl rfl), show S.2.2.1.length - c0 + (lens (rc ++ [jmp 15 T]) + lens rb + 3) = (lnd true cF (wjP true 15 0 SA) (wjS true 14 0 S3)).2.2.1.length - c0 by omega] at hJ3
  obtain ⟨s6, t6⟩ := X3 (by rw [t3]; simp; omega) J c0 hc0 (by omega) hJ3 (by omega) hls (by rw [t3]; simp; omega)
  have l6 := BYT_len (i := i) hN3 s6
  have hBs6 : S6.2.2.1 = ((SA.2.2.1 ++ bts 15 1 0) ++ (bts (J T) 2 0 ++ (eb I J rb (wjS true 15 0 SA).2.2.2 ++ bts 14 1 0))) ++ bt 0 0 :: bt 0 1 :: eb I J re (lnd true cF (wjP true 15 0 SA) (wjS true 14 0 S3)).2.2.2 := by
    rw [s6, e1]
    simp [bts2]
  have hPl6 : ((SA.2.2.1 ++ bts 15 1 0) ++ (bts (J T) 2 0 ++ (eb I J rb (wjS true 15 0 SA).2.2.2 ++ bts 14 1 0))).length = S3.2.2.1.length + 1 := by
    simp only [List.length_append, bts_l, eb_l hN2]
    omega
  have e6 := lnd_e (cF := cF) hBs6 (by omega)
  rw [hPl6] at e6
  have hcp6 : cpl cF S6 = J T2 := by
    rw [cpl_e hc0 (by omega), l6, l5]
    have := hJ ((((rc ++ [jmp 15 T]) ++ rb) ++ [jmp 14 T2]) ++ re).length (Nat.le_refl _)
    rw [List.take_length, lens_a, lens_a, lens_a, jmp_ln (Or.inl rfl)] at this
    have eT2 : i + ((((rc ++ [jmp 15 T]) ++ rb) ++ [jmp 14 T2]) ++ re).length = T2 := by simp; omega
    rw [eT2] at this
    rw [this]
    exact congrArg Int32.ofNat (by omega)
  rw [wjP_e (by omega), e6, hcp6]
  have n5 : (lnd true cF (wjP true 15 0 SA) (wjS true 14 0 S3)).2.2.2 = S3.2.2.2 := by rw [e1, wj3]; rfl
  refine ⟨?_, ?_⟩
  · rw [n5, s6, e1, wj3, s3, wj, sA]
    unfold apB
    simp [eb_a, ndl_a, eb, ndl, jmp_eb (Or.inr rfl) (show T < 2147483648 by omega), jmp_eb (Or.inl rfl) hT2, jmp_nd (Or.inr rfl), jmp_nd (Or.inl rfl)]
  · rw [t6, t3, List.append_assoc, List.map_append]
    refine congrArg (fun z => B ++ z) ?_
    have hlA3 : lens (((rc ++ [jmp 15 T]) ++ rb) ++ [jmp 14 T2]) = lens (rc ++ [jmp 15 T]) + lens rb + 3 := by rw [lens_a (r := (rc ++ [jmp 15 T]) ++ rb), lens_a (r := rc ++ [jmp 15 T]), jmp_ln (Or.inl rfl)]
    have m1 : b.map (fun j => Int32.ofNat ((wjS true 15 0 SA).2.2.1.length + lens (rb.take (j - (i + rc.length + 1))) + 1)) = b.map (fun j => Int32.ofNat (S.2.2.1.length + lens (((((rc ++ [jmp 15 T]) ++ rb) ++ [jmp 14 T2]) ++ re).take (j - i)) + 1)) := map_c (fun j hj => by
      have := hb j hj
      have e := plc_m (S := S) (S2 := wjS true 15 0 SA) (A := rc ++ [jmp 15 T]) (r := rb) (C := [jmp 14 T2] ++ re) (i := i) (j := j) lW (by simp; omega) (by simp; omega)
      rw [List.length_append, List.length_cons, List.length_nil, show i + (rc.length + (0 + 1)) = i + rc.length + 1 by omega, ← List.append_assoc, ← List.append_assoc] at e
      exact e)
    have m2 : b2.map (fun j => Int32.ofNat ((lnd true cF (wjP true 15 0 SA) (wjS true 14 0 S3)).2.2.1.length + lens (re.take (j - T)) + 1)) = b2.map (fun j => Int32.ofNat (S.2.2.1.length + lens (((((rc ++ [jmp 15 T]) ++ rb) ++ [jmp 14 T2]) ++ re).take (j - i)) + 1)) := map_c (fun j hj => by
      have := hb2 j hj
      have e := plc_m (S := S) (S2 := lnd true cF (wjP true 15 0 SA) (wjS true 14 0 S3)) (A := ((rc ++ [jmp 15 T]) ++ rb) ++ [jmp 14 T2]) (r := re) (C := []) (i := i) (j := j) (by rw [l5, hlA3]) (by rw [eT]; omega) (by rw [eT]; omega)
      rw [List.append_nil, eT] at e
      exact e)
    rw [m1, m2]
/-! loops -/
theorem lens_set {r : List Rw} {k T l : Nat} (h : r[k]? = some (jmp 14 l)) : ∀ m, lens ((r.set k (jmp 14 T)).take m) = lens (r.take m) := by
  induction r generalizing k with
  | nil => intro m; simp at h
  | cons x r ih =>
    intro m
    cases m with
    | zero => rfl
    | succ m =>
      cases k with
      | zero =>
        simp only [List.getElem?_cons_zero, Option.some.injEq] at h
        subst h
        rfl
      | succ k =>
        simp only [List.getElem?_cons_succ] at h
        show ln1 x.1 + lens ((r.set k (jmp 14 T)).take m) = ln1 x.1 + lens (r.take m)
        rw [ih h]
theorem NFr_set {r : List Rw} {k T l : Nat} (h : r[k]? = some (jmp 14 l)) (hN : NFr I r) : NFr I (r.set k (jmp 14 T)) := fun x hx => by
  rcases List.mem_or_eq_of_mem_set hx with hx | hx
  · exact hN x hx
  · rw [hx]; intro hh1 hh2; unfold jmp at hh1; simp only [] at hh1; omega
theorem tr2_j {T : Nat} {s : T3} : tr2 I ity (jmp 14 T) s = s := by
  unfold tr2 jmp
  simp
theorem trs2_set {r : List Rw} {k T l : Nat} (h : r[k]? = some (jmp 14 l)) : ∀ s, trs2 I ity (r.set k (jmp 14 T)) s = trs2 I ity r s := by
  induction r generalizing k with
  | nil => intro s; simp at h
  | cons x r ih =>
    intro s
    cases k with
    | zero =>
      simp only [List.getElem?_cons_zero, Option.some.injEq] at h
      subst h
      show trs2 I ity r (tr2 I ity (jmp 14 T) s) = trs2 I ity r (tr2 I ity (jmp 14 l) s)
      rw [tr2_j, tr2_j]
    | succ k =>
      simp only [List.getElem?_cons_succ] at h
      show trs2 I ity (r.set k (jmp 14 T)) _ = trs2 I ity r _
      rw [ih h]
theorem eb_set {r : List Rw} {k T l : Nat} {J : Nat → Int32} (hT : T < 2147483648) (hl : l < 2147483648) (h : r[k]? = some (jmp 14 l)) (hN : NFr I r) : ∀ N, ∃ P E, eb I J r N = P ++ (bts (J l) 2 0 ++ E) ∧ eb I J (r.set k (jmp 14 T)) N = P ++ (bts (J T) 2 0 ++ E) ∧ P.length = lens (r.take k) + 1 := by
  induction r generalizing k with
  | nil => intro N; simp at h
  | cons x r ih =>
    intro N
    cases k with
    | zero =>
      simp only [List.getElem?_cons_zero, Option.some.injEq] at h
      subst h
      refine ⟨bts (Int32.ofNat 14) 1 0, eb I J r N, ?_, ?_, ?_⟩
      · show eb1 I J (jmp 14 l) N ++ eb I J r (nd1 I (jmp 14 l) N) = _
        rw [jmp_eb (Or.inl rfl) hl, jmp_nd (Or.inl rfl), List.append_assoc]
      · show eb1 I J (jmp 14 T) N ++ eb I J r (nd1 I (jmp 14 T) N) = _
        rw [jmp_eb (Or.inl rfl) hT, jmp_nd (Or.inl rfl), List.append_assoc]
      · simp [bts_l, lens]
    | succ k =>
      simp only [List.getElem?_cons_succ] at h
      obtain ⟨P, E, h1, h2, h3⟩ := ih h (fun y hy => hN y (by simp [hy])) (nd1 I x N)
      refine ⟨eb1 I J x N ++ P, E, ?_, ?_, ?_⟩
      · show eb1 I J x N ++ eb I J r (nd1 I x N) = _
        rw [h1, List.append_assoc]
      · show eb1 I J x N ++ eb I J (r.set k (jmp 14 T)) (nd1 I x N) = _
        rw [h2, List.append_assoc]
      · rw [List.length_append, eb1_l (hN x (by simp)), h3]
        show _ = (ln1 x.1 + lens (r.take k)) + 1
        omega
theorem ndl_set {r : List Rw} {k T l : Nat} (h : r[k]? = some (jmp 14 l)) : ∀ N, ndl I (r.set k (jmp 14 T)) N = ndl I r N := by
  induction r generalizing k with
  | nil => intro N; simp at h
  | cons x r ih =>
    intro N
    cases k with
    | zero =>
      simp only [List.getElem?_cons_zero, Option.some.injEq] at h
      subst h
      rfl
    | succ k =>
      simp only [List.getElem?_cons_succ] at h
      show ndl I (r.set k (jmp 14 T)) _ = ndl I r _
      rw [ih h]
/-- what patching the breaks leaves as it is -/
theorem ptc_k {b : List Nat} : ∀ {r : List Rw} {base T : Nat}, T < 2147483648 → (∀ j ∈ b, ∃ l, l < 2147483648 ∧ r[j - base]? = some (jmp 14 l)) → NFr I r → NFr I (ptc b base T r) ∧ (∀ s, trs2 I ity (ptc b base T r) s = trs2 I ity r s) ∧ (∀ m, lens ((ptc b base T r).take m) = lens (r.take m)) ∧ (∀ N, ndl I (ptc b base T r) N = ndl I r N) := by
  induction b with
  | nil => intro r base T _ _ hN; exact ⟨hN, fun _ => rfl, fun _ => rfl, fun _ => rfl⟩
  | cons j b ih =>
    intro r base T hT h hN
    obtain ⟨l, hl, hj⟩ := h j (by simp)
    have hjl : j - base < r.length := by
      by_cases hh : j - base < r.length
      · exact hh
      · rw [List.getElem?_eq_none (by omega)] at hj; cases hj
    have := ih (r := r.set (j - base) (jmp 14 T)) (base := base) (T := T) hT (fun i hi => ?_) (NFr_set hj hN)
    · obtain ⟨g1, g2, g3, g4⟩ := this
      exact ⟨g1, fun s => (g2 s).trans (trs2_set hj s), fun m => (g3 m).trans (lens_set hj m), fun N => (g4 N).trans (ndl_set hj N)⟩
    · obtain ⟨l', hl', hi'⟩ := h i (by simp [hi])
      by_cases hh : i - base = j - base
      · exact ⟨T, hT, by rw [hh, List.getElem?_set_self hjl]⟩
      · exact ⟨l', hl', by rw [List.getElem?_set_ne (fun h2 => hh h2.symm)]; exact hi'⟩
end MTX2
