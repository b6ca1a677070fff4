/-! ===== class and reference agree on sequences, conditions, loops ===== -/
def plc (S : St) (i : Nat) (r : List Rw) (j : Nat) : Int32 := Int32.ofNat (S.2.2.1.length + lens (r.take (j - i)) + 1)
theorem lens_mid {A r C : List Rw} {i j : Nat} (h1 : i + A.length ≤ j) (h2 : j ≤ i + A.length + r.length) : lens ((A ++ (r ++ C)).take (j - i)) = lens A + lens (r.take (j - (i + A.length))) := by
  have e : j - i = A.length + (j - (i + A.length)) := by omega
  rw [e, List.take_length_add_append, lens_a, List.take_append_of_le_length (by omega)]
theorem plc_m {S S2 : St} {A r C : List Rw} {i j : Nat} (hS : S2.2.2.1.length = S.2.2.1.length + lens A) (h1 : i + A.length ≤ j) (h2 : j ≤ i + A.length + r.length) : plc S2 (i + A.length) r j = plc S i (A ++ (r ++ C)) j := by
  unfold plc
  rw [lens_mid h1 h2, hS, Nat.add_assoc S.2.2.1.length]
theorem map_c {b : List Nat} {f g : Nat → Int32} (h : ∀ j ∈ b, f j = g j) : b.map f = b.map g := List.map_congr_left h
section MTW
variable {t : Nat → Int32} {n : Nat} {L L1 L2 : List (List Nat)} {LT LT1 LT2 LTr : Nat → Int32} {I : List It} {ity cF : Int32}
theorem STY_w {S S1 : St} {p p' q q' : Nat} {r : List Rw} {X : Prop} (h : STY I ity L LT LTr S p r L1 q LT1 S1 X) (hp : p' ≤ p) (hq : q ≤ q') : STY I ity L LT LTr S p' r L1 q' LT1 S1 X := by
  obtain ⟨mm, mR, LTr', h1, h2, h3, h4, h5⟩ := h
  exact ⟨mm, mR, LTr', h1, okT_w h2 hp hq, okT_w h3 hp hq, h4, h5⟩
theorem BYT_len {i : Nat} {r : List Rw} {S S' : St} {J : Nat → Int32} (hN : NFr I r) (h : S' = (S.1, S.2.1, S.2.2.1 ++ eb I J r S.2.2.2, ndl I r S.2.2.2)) : S'.2.2.1.length = S.2.2.1.length + lens r := by rw [h]; simp [eb_l hN]
theorem STT_seq {i p q1 q2 : Nat} {lp : Option Nat} {ls : Int32} {S S1 S2 : St} {B B1 B2 : List Int32} {r1 r2 : List Rw} {b1 b2 : List Nat} (hp : p ≤ q1) (hq : q1 ≤ q2) (hbl1 : b1.length * 6 + p ≤ q1) (h1 : STT I ity cF L LT LTr i lp ls S B p r1 L1 b1 q1 LT1 B1 S1) (hb1 : ∀ j ∈ b1, i ≤ j ∧ j < i + r1.length) (h2 : ∀ LTr1, STT I ity cF L1 LT1 LTr1 (i + r1.length) lp ls S1 B1 q1 r2 L2 b2 q2 LT2 B2 S2) (hb2 : ∀ j ∈ b2, i + r1.length ≤ j ∧ j < i + r1.length + r2.length) : STT I ity cF L LT LTr i lp ls S B p (r1 ++ r2) L2 (b1 ++ b2) q2 LT2 B2 S2 := by
  refine STY_m (STY_s hp hq h1 h2) (fun _ ⟨hN1, hN2, X1, X2⟩ => ?_)
  intro hBp J c0 hc0 hc1 hJ hB hls hBl
  rw [lens_a] at hB
  rw [List.length_append] at hBl
  obtain ⟨s1, t1⟩ := X1 hBp J c0 hc0 hc1 (HJ_l hJ) (by omega) hls (by omega)
  have hl1 := BYT_len (i := i) hN1 s1
  have hJ2 := HJ_r hJ
  rw [show S.2.2.1.length - c0 + lens r1 = S1.2.2.1.length - c0 by omega] at hJ2
  obtain ⟨s2, t2⟩ := X2 (by rw [t1]; simp; omega) J c0 hc0 (by omega) hJ2 (by omega) hls (by rw [t1]; simp; omega)
  refine ⟨?_, ?_⟩
  · rw [s2, s1]
    simp [eb_a, ndl_a]
  · rw [t2, t1, List.append_assoc, List.map_append]
    congr 1
    congr 1
    · refine map_c (fun j hj => ?_)
      have := hb1 j hj
      rw [List.take_append_of_le_length (by omega)]
    · refine map_c (fun j hj => ?_)
      have := hb2 j hj
      have e := plc_m (S := S) (S2 := S1) (A := r1) (r := r2) (C := []) (i := i) (j := j) hl1 this.1 (by omega)
      rw [List.append_nil] at e
      exact e
theorem jmp_eb {op T : Nat} {J : Nat → Int32} {N : List Nat} (hop : op = 14 ∨ op = 15) (hT : T < 2147483648) : eb1 I J (jmp op T) N = bts (Int32.ofNat op) 1 0 ++ bts (J T) 2 0 := by
  rcases hop with rfl | rfl
  · show bts (Int32.ofNat 14) 1 0 ++ bts (J (Int32.ofNat T).toNatClampNeg) 2 0 = _
    rw [oN_n hT]
  · show bts (Int32.ofNat 15) 1 0 ++ bts (J (Int32.ofNat T).toNatClampNeg) 2 0 = _
    rw [oN_n hT]
theorem jmp_ln {op T : Nat} (hop : op = 14 ∨ op = 15) : lens [jmp op T] = 3 := by rcases hop with rfl | rfl <;> rfl
theorem jmp_nd {op T : Nat} {N : List Nat} (hop : op = 14 ∨ op = 15) : nd1 I (jmp op T) N = N := by rcases hop with rfl | rfl <;> rfl
theorem bts2 {v : Int32} : bts v 2 0 = [bt v 0, bt v 1] := rfl
/-- if, without else -/
theorem STT_if {i p q q1 T : Nat} {lp : Option Nat} {ls : Int32} {S SA S3 : St} {B B1 : List Int32} {rc rb : List Rw} {b : List Nat} (hp : p ≤ q) (hq : q ≤ q1) (hT : T = i + rc.length + 1 + rb.length) (hT2 : T < 2147483648) (hNc : NFr I (rc ++ [jmp 15 T]) → NFr I rc)
    (h1 : STY I ity L LT LTr S p (rc ++ [jmp 15 T]) L q LT (wjS true 15 0 SA) (S.2.2.1.length + lens (rc ++ [jmp 15 T]) ≤ 6144 → ∀ J, SA = (S.1, S.2.1, S.2.2.1 ++ eb I J rc S.2.2.2, ndl I rc S.2.2.2)))
    (h2 : ∀ LTr1, STT I ity cF L LT LTr1 (i + rc.length + 1) lp ls (wjS true 15 0 SA) B q rb L1 b q1 LT1 B1 S3) (hb : ∀ j ∈ b, i + rc.length + 1 ≤ j ∧ j < i + rc.length + 1 + rb.length) : STT I ity cF L LT LTr i lp ls S B p (rc ++ jmp 15 T :: rb) L1 b q1 LT1 B1 (lnd true cF (wjP true 15 0 SA) S3) := by
  have er : rc ++ jmp 15 T :: rb = (rc ++ [jmp 15 T]) ++ rb := by simp
  rw [er]
  refine STY_m (STY_c (STY_s hp hq h1 h2) lnd_1 (Nat.le_refl _)) (fun _ ⟨hN1, hN2, X1, X2⟩ => ?_)
  intro hBp J c0 hc0 hc1 hJ hB hls hBl
  have hB' := hB
  rw [lens_a] at hB
  have hlA : lens (rc ++ [jmp 15 T]) = lens rc + 3 := by rw [lens_a, jmp_ln (Or.inr rfl)]
  have sA := X1 (by omega) J
  have hNc' := hNc hN1
  have lA := BYT_len (i := i) hNc' sA
  have wj : wjS true 15 0 SA = apB SA (bts 15 1 0 ++ bts 0 2 0) := wjS_ap (by omega)
  have lW : (wjS true 15 0 SA).2.2.1.length = S.2.2.1.length + lens (rc ++ [jmp 15 T]) := by rw [wj]; unfold apB; simp [bts_l]; omega
  have hJ2 := HJ_r hJ
  rw [show S.2.2.1.length - c0 + lens (rc ++ [jmp 15 T]) = (wjS true 15 0 SA).2.2.1.length - c0 by omega, List.length_append, List.length_cons, List.length_nil, show i + (rc.length + (0 + 1)) = i + rc.length + 1 by omega] at hJ2
  obtain ⟨s3, t3⟩ := X2 (by omega) J c0 hc0 (by omega) hJ2 (by omega) hls hBl
  have l3 := BYT_len (i := i) hN2 s3
  have hBs : S3.2.2.1 = (SA.2.2.1 ++ bts 15 1 0) ++ bt 0 0 :: bt 0 1 :: eb I J rb (wjS true 15 0 SA).2.2.2 := by
    rw [s3, wj]
    unfold apB
    simp [bts2]
  have hPl : (SA.2.2.1 ++ bts 15 1 0).length = SA.2.2.1.length + 1 := by simp [bts_l]
  have e1 := lnd_e (cF := cF) hBs (by omega)
  rw [hPl] at e1
  have hcp : cpl cF S3 = J T := by
    rw [cpl_e hc0 (by omega), l3, lW]
    have := hJ ((rc ++ [jmp 15 T]) ++ rb).length (Nat.le_refl _)
    rw [List.take_length, lens_a] at this
    have eT : i + ((rc ++ [jmp 15 T]) ++ rb).length = T := by simp; omega
    rw [eT] at this
    rw [this]
    congr 1
    omega
  rw [wjP_e (by omega), e1, hcp]
  refine ⟨?_, ?_⟩
  · rw [s3, wj, sA]
    unfold apB
    simp [eb_a, ndl_a, eb, ndl, jmp_eb (Or.inr rfl) hT2, jmp_nd (Or.inr rfl)]
  · rw [t3]
    refine congrArg (fun z => B ++ z) (map_c (fun j hj => ?_))
    have := hb j hj
    have e := plc_m (S := S) (S2 := wjS true 15 0 SA) (A := rc ++ [jmp 15 T]) (r := rb) (C := []) (i := i) (j := j) lW (by simp; omega) (by simp; omega)
    rw [List.append_nil, List.length_append, List.length_cons, List.length_nil, show i + (rc.length + (0 + 1)) = i + rc.length + 1 by omega] at e
    exact e
end MTW
