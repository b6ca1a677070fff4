/-! ===== class and reference agree on statements: put together ===== -/
def STY (I : List It) (ity : Int32) (L : List (List Nat)) (LT LTr : Nat → Int32) (S : St) (p : Nat) (r : List Rw) (L' : List (List Nat)) (q : Nat) (LT' : Nat → Int32) (S' : St) (X : Prop) : Prop := ∃ mm mR LTr', CEm S S' mm ∧ okT mm p q ∧ okT mR p q ∧ (∀ mf, trs2 I ity r (LTr, [], mf) = (LTr', [], omin mf mR)) ∧ (LTc L LT → agr L LT LTr → mR = mm ∧ (mm = none → LTc L' LT' ∧ agr L' LT' LTr' ∧ NFr I r ∧ X))
theorem omin_lo {x q q' : Nat} {m : Option Nat} (hx : x < q) (h : okT m q q') : omin (some x) m = some x := by
  cases m with
  | none => rfl
  | some y =>
    have := h y rfl
    simp only [omin]
    rw [Nat.min_eq_left (by omega)]
section MTV
variable {t : Nat → Int32} {n : Nat} {L L1 L2 : List (List Nat)} {LT LT1 LT2 LTr : Nat → Int32} {I : List It} {ity cF : Int32} {S S1 S2 : St} {p q1 q2 : Nat} {r1 r2 : List Rw} {X X1 X2 : Prop}
theorem STY_m (h : STY I ity L LT LTr S p r1 L1 q1 LT1 S1 X) {X' : Prop} (hX : NFr I r1 → X → X') : STY I ity L LT LTr S p r1 L1 q1 LT1 S1 X' := by
  obtain ⟨mm, mR, LTr', h1, h2, h3, h4, h5⟩ := h
  refine ⟨mm, mR, LTr', h1, h2, h3, h4, fun a b => ⟨(h5 a b).1, fun h0 => ?_⟩⟩
  obtain ⟨g1, g2, g3, g4⟩ := (h5 a b).2 h0
  exact ⟨g1, g2, g3, hX g3 g4⟩
/-- the class does something more that touches no misfit -/
theorem STY_c (h : STY I ity L LT LTr S p r1 L1 q1 LT1 S1 X) (hS : S2.1 = S1.1) (hq : q1 ≤ q2) : STY I ity L LT LTr S p r1 L1 q2 LT1 S2 X := by
  obtain ⟨mm, mR, LTr', h1, h2, h3, h4, h5⟩ := h
  exact ⟨mm, mR, LTr', CEm_r h1 hS, okT_w h2 (Nat.le_refl _) hq, okT_w h3 (Nat.le_refl _) hq, h4, h5⟩
/-- the reference passes a step that does nothing to the pile -/
theorem STY_n {x : Rw} (h : STY I ity L LT LTr S p r1 L1 q1 LT1 S1 X) (hx : ∀ s, tr2 I ity x s = s) (hN : NFr I [x]) : STY I ity L LT LTr S p (r1 ++ [x]) L1 q1 LT1 S1 X := by
  obtain ⟨mm, mR, LTr', h1, h2, h3, h4, h5⟩ := h
  refine ⟨mm, mR, LTr', h1, h2, h3, fun mf => ?_, fun a b => ⟨(h5 a b).1, fun h0 => ?_⟩⟩
  · rw [trs2_a, h4]
    show tr2 I ity x _ = _
    rw [hx]
  · obtain ⟨g1, g2, g3, g4⟩ := (h5 a b).2 h0
    exact ⟨g1, g2, NFr_a g3 hN, g4⟩
theorem STY_s (hp : p ≤ q1) (hq : q1 ≤ q2) (h1 : STY I ity L LT LTr S p r1 L1 q1 LT1 S1 X1) (h2 : ∀ LTr1, STY I ity L1 LT1 LTr1 S1 q1 r2 L2 q2 LT2 S2 X2) : STY I ity L LT LTr S p (r1 ++ r2) L2 q2 LT2 S2 (NFr I r1 ∧ NFr I r2 ∧ X1 ∧ X2) := by
  obtain ⟨m1, mR1, LTr1, a1, a2, a3, a4, a5⟩ := h1
  obtain ⟨m2, mR2, LTr2, b1, b2, b3, b4, b5⟩ := h2 LTr1
  refine ⟨omin m1 m2, omin mR1 mR2, LTr2, CEm_t a1 b1, okT_m (okT_w a2 (Nat.le_refl _) hq) (okT_w b2 hp (Nat.le_refl _)), okT_m (okT_w a3 (Nat.le_refl _) hq) (okT_w b3 hp (Nat.le_refl _)), fun mf => by rw [trs2_a, a4, b4, omin_s], fun hc hag => ?_⟩
  obtain ⟨e1, e2⟩ := a5 hc hag
  cases hm : m1 with
  | none =>
    obtain ⟨g1, g2, g3, g4⟩ := e2 hm
    obtain ⟨f1, f2⟩ := b5 g1 g2
    refine ⟨by rw [e1, hm, omin_l, omin_l, f1], fun h0 => ?_⟩
    rw [omin_l] at h0
    obtain ⟨k1, k2, k3, k4⟩ := f2 h0
    exact ⟨k1, k2, NFr_a g3 k3, g3, k3, g4, k4⟩
  | some x =>
    have hx := a2 x hm
    refine ⟨by rw [e1, hm, omin_lo hx.2 b2, omin_lo hx.2 b3], fun h0 => ?_⟩
    rw [omin_lo hx.2 b2] at h0
    cases h0
/-- a patch -/
theorem lnd_e {P E : List Int32} {x0 x1 : Int32} (hB : S.2.2.1 = P ++ x0 :: x1 :: E) (hl : S.2.2.1.length ≤ 6144) : lnd true cF (Int32.ofNat P.length) S = (S.1, S.2.1, P ++ (bts (cpl cF S) 2 0 ++ E), S.2.2.2) := by
  have hlen : P.length + 2 ≤ 6144 := by rw [hB] at hl; simp at hl; omega
  unfold lnd
  rw [if_pos rfl]
  have e0 : Int32.ofNat P.length + 0 = Int32.ofNat P.length := by simp
  have e1 : Int32.ofNat P.length + 1 = Int32.ofNat (P.length + 1) := by rw [show (1 : Int32) = Int32.ofNat 1 from rfl, oN_a]
  have n0 : ∀ k : Nat, k < 6144 → ¬ Int32.ofNat k < 0 := fun k hk => by
    rw [Int32.lt_iff_toInt_lt, oN_i (by omega)]; simp
  have n6 : ∀ k : Nat, k < 6144 → Int32.ofNat k < 6144 := fun k hk => (oN_lt (n := 6144) (by omega) (by omega)).mpr hk
  rw [e0, e1]
  have s1 : p1 (Int32.ofNat P.length) (bt (cpl cF S) 0) S = (S.1, S.2.1, P ++ bt (cpl cF S) 0 :: x1 :: E, S.2.2.2) := by
    unfold p1
    rw [if_neg (n0 _ (by omega)), if_pos (n6 _ (by omega)), oN_n (by omega), hB]
    simp
  rw [s1]
  unfold p1
  rw [if_neg (n0 _ (by omega)), if_pos (n6 _ (by omega)), oN_n (by omega)]
  have s2 : (P ++ bt (cpl cF S) 0 :: x1 :: E).set (P.length + 1) (bt (cpl cF S) 1) = P ++ (bts (cpl cF S) 2 0 ++ E) := by
    rw [List.set_append_right _ _ (by omega), show P.length + 1 - P.length = 1 by omega]
    rfl
  rw [s2]
theorem lnd_1 {j : Int32} : (lnd true cF j S).1 = S.1 := by
  have h1 : ∀ (k x : Int32) (S : St), (p1 k x S).1 = S.1 := fun k x S => by
    unfold p1
    split
    · rfl
    · split <;> rfl
  unfold lnd
  rw [if_pos rfl]
  exact (h1 _ _ _).trans (h1 _ _ _)
theorem lnds_1 : ∀ {B : List Int32} {S : St}, (lnds true cF B S).1 = S.1
  | [], _ => rfl
  | j :: B, S => by
    show (lnds true cF B (lnd true cF j S)).1 = _
    rw [lnds_1, lnd_1]
theorem wjS_1 {c v : Int32} : (wjS true c v S).1 = S.1 := wr_1.trans wr_1
theorem wjS_ap {c v : Int32} (h : S.2.2.1.length + 3 ≤ 6144) : wjS true c v S = apB S (bts c 1 0 ++ bts v 2 0) := by
  unfold wjS wr
  rw [if_pos rfl, if_pos rfl, wn_ap (S := S) (by omega), wn_ap (by unfold apB; simp [bts_l]; omega)]
  unfold apB
  simp
theorem wjP_e {c v : Int32} (h : S.2.2.1.length + 3 ≤ 6144) : wjP true c v S = Int32.ofNat (S.2.2.1.length + 1) := by
  unfold wjP
  rw [wjS_ap h]
  unfold apB
  simp only [List.length_append, bts_l]
  rw [show S.2.2.1.length + (1 + 2) = (S.2.2.1.length + 1) + 2 by omega, ← oN_a, show (2 : Int32) = Int32.ofNat 2 from rfl, Int32.add_sub_cancel]
theorem cpl_e {c0 : Nat} (h : cF = Int32.ofNat c0) (hc : c0 ≤ S.2.2.1.length) : cpl cF S = Int32.ofNat (S.2.2.1.length - c0) := by
  unfold cpl
  rw [h]
  have : Int32.ofNat S.2.2.1.length = Int32.ofNat (S.2.2.1.length - c0) + Int32.ofNat c0 := by rw [oN_a]; congr 1; omega
  rw [this, Int32.add_sub_cancel]
/-- a condition and its jump, with nothing yet at the jump's place -/
theorem CON {p o q : Nat} {S S1 : St} {a : Int32} {c c' T : Nat} {r : List Rw} (ht : txt t n) (hI : IC I) (hL : L.length ≤ 10) (hp : nx t n p ≤ n) (hp0 : p < nx t n p) (h1 : cE t n L LT I true (nx t n p) o S = some (.inr (a, c, q, S1))) (h2 : pX t n L (nx t n p) o = some (.inr (r, c', q))) (h41 : tkk t n q = 41) : p + 2 ≤ q ∧ q < nx t n q ∧ nx t n q ≤ n ∧ STY I ity L LT LTr S p (r ++ [(208, 1, [], 0)] ++ [jmp 15 T]) L (nx t n q) LT (wjS true 15 0 (wf true a 1 (nx t n p) S1)) (S.2.2.1.length + lens (r ++ [(208, 1, [], 0)] ++ [jmp 15 T]) ≤ 6144 → ∀ J, wf true a 1 (nx t n p) S1 = (S.1, S.2.1, S.2.2.1 ++ eb I J (r ++ [(208, 1, [], 0)]) S.2.2.2, ndl I (r ++ [(208, 1, [], 0)]) S.2.2.2)) := by
  have hn := ht.1
  obtain ⟨b1, b2, hE, mm, mR, a', k1, k2, k3, k4, k5⟩ := EXP (ity := ity) (LTr := LTr) ht hI hL hp h1 h2
  have a2 := nx_bd ht (tk_lt (t := t) (n := n) (p := q) (by omega))
  refine ⟨by omega, a2.1, a2.2, omin mm (fl a 1 (nx t n p)), omin mR (fl a' 1 (nx t n p)), LTr, CEm_r (CEm_t k1 (ite_fl (by omega))) wjS_1, okT_m (okT_w k2 (by omega) (by omega)) (fl_T (by omega) (by omega)), okT_m (okT_w k3 (by omega) (by omega)) (fl_T (by omega) (by omega)), fun mf => ?_, fun hc hag => ?_⟩
  · rw [trs2_a, trs2_a, k4, ← omin_s]
    rfl
  · obtain ⟨e1, e2, e3, e4⟩ := k5 hc hag
    subst e1
    refine ⟨by rw [e2], fun h0 => ?_⟩
    rw [omin_0] at h0
    obtain ⟨y1, y2, y3⟩ := e3 h0.1
    refine ⟨hc, hag, NFr_a (NFr_a y2 (NFr_1 (fun hh1 hh2 => by simp only [] at hh2; omega))) (NFr_1 (fun hh1 hh2 => by unfold jmp at hh1; simp only [] at hh1; omega)), fun hl J => ?_⟩
    rw [lens_a, lens_a] at hl
    rw [wf_0 h0.2, y3, ers_eb (J := J) hE y2 (by omega)]
    simp [eb_a, ndl_a, eb, ndl, eb1, nd1]
end MTV
