
/-! ===== the class: keep ===== -/
def KC (S : KSt) (σ : my_S) : Prop := WSc (kD S) (kN S) (kW S) σ ∧ LgC (hA2 (kH S)) (kL S) σ ∧ σ.1 89 3 = Int32.ofNat (kH S) ∧ σ.1 (hA2 (kH S)) 2 = Int32.ofNat (kP S) ∧ σ.2.2 91 0 = some 94 ∧ σ.2.2 91 1 = some 101
def kpF (c k : Nat) : Prop := (94 ≤ c ∧ c ≤ 107) ∨ c = 92 ∨ c = 93 ∨ c = 90 ∨ (c = 89 ∧ (k = 3 ∨ k = 4 ∨ k = 5 ∨ k = 6 ∨ k = 7))
section MCK
variable {As : List Ri} {I : List It} {rv a kt : Nat} {e : my_E} {d : Nat} {κ : my_K} {σ σ' : my_S} {Q : my_O → my_K → my_S → Prop} {S : KSt} {M : Nat} {s : Ms} {v3 : Int32} {X : List Et}
theorem KC_o {F : Nat → Nat → Prop} (h : KC S σ) (f : eqp F σ σ') (hF : ∀ c k, F c k → ¬ (94 ≤ c ∧ c ≤ 107) ∧ c ≠ 90 ∧ c ≠ 91 ∧ (c = 89 → k ≠ 3 ∧ k ≠ 4 ∧ k ≠ 6)) : KC S σ' := by
  obtain ⟨h1, h2, h3, h4, h5, h6⟩ := h
  have hb := hA2_b (h := kH S)
  refine ⟨WSc_o h1 f (fun c k hh => by have := hF c k hh; omega), LgC_o h2 f (fun c k hh => by have := hF c k hh; omega), (eqp_g f (fun hh => by have := hF _ _ hh; omega)).trans h3, (eqp_g f (fun hh => by have := hF _ _ hh; omega)).trans h4, ((f 91 0 (fun hh => by have := hF _ _ hh; omega)).2.2).trans h5, ((f 91 1 (fun hh => by have := hF _ _ hh; omega)).2.2).trans h6⟩
theorem KC_V (h : KC S σ) (hP : KP S M) : LVc (hA2 (kH S)) (kL S) σ := by
  obtain ⟨h1, h2, h3, h4, h5, h6⟩ := h
  refine ⟨hA2_l, hP.2.1, hP.2.2.1, h2, ?_, h5, h6⟩
  rw [h3]
  have hh := hP.1.1.1
  by_cases c : kH S = 1
  · rw [c]; rfl
  · have : kH S = 0 := by omega
    rw [this]; rfl
/-- a log is written behind what is on the disk -/
theorem c_160w (hP : KP S M) (hW : LgW X) (hX : ∃ F, X = kL S ++ F) (hs : WSc (kD S) (kN S) (kW S) σ) (hC : LgC (hA2 (kH S)) X σ) (h3 : σ.1 89 3 = Int32.ofNat (kH S)) (hep : σ.1 (hA2 (kH S)) 2 = Int32.ofNat (kP S)) (l0 : σ.2.2 91 0 = some 94) (l1 : σ.2.2 91 1 = some 101) (hd : 4 ≤ d) (hQ1 : (ap1 S X).1 = 1 → ∀ σ', KC (ap1 S X).2 σ' → σ'.1 89 7 = σ.1 89 7 → σ'.1 89 5 = σ.1 89 5 + 1 → eqp kpF σ σ' → Q (.inl (some (.inl 1))) κ σ') (hQ2 : (ap1 S X).1 = 2 → ∀ σ', WSc (kD (ap1 S X).2) (kN (ap1 S X).2) (kW (ap1 S X).2) σ' → σ'.1 89 7 = 1 → σ'.1 89 5 = σ.1 89 5 → eqp kpF σ σ' → Q (.inl (some (.inl 0))) κ σ') : ys_160_66 e d (Int32.ofNat (els (kL S))) κ σ Q := by
  obtain ⟨p1, p2, p3, p4⟩ := hP
  obtain ⟨F, hF⟩ := hX
  have hb := hA2_b (h := kH S)
  have hlx : (en X 0).length = els X := en_l
  have hw := hW.2
  have hm : els (kL S) ≤ els X := by rw [hF, els_a]; omega
  have dk : ∀ c k, dkF c k → kpF c k := fun c k hh => by unfold dkF at hh; unfold kpF; omega
  unfold ys_160_66
  rw [h3]
  have ea : apm S X = nbk (en X 0) - els (kL S) / 61 := rfl
  refine c_164 (h := kH S) (q := els (kL S)) (ep := kP S) (B := en X 0) (D := kD S) (n := kN S) (w := kW S) p1.1.1 (by omega) (by omega) (aB_en hW.1) p4 (by omega) l0 l1 hC.2.1 (by rw [hlx]; exact hC.1) hep hs (fun hm σ1 s1 x1 f1 => ?_) (fun hm σ1 s1 x1 f1 => ?_)
  · rw [my_kI_v, if_neg (by decide)]
    have ha : ap1 S X = (1, apS S X (apm S X) X) := by unfold ap1; rw [if_pos (by omega)]
    rw [ha] at hQ1
    have f2 : eqp (fun c k => c = 89 ∧ k = 5) σ1 (my_uI σ1 89 5 (σ1.1 89 5 + 1)) := eqp_I eqp_rf ⟨rfl, rfl⟩
    have g5 : (my_uI σ1 89 5 (σ1.1 89 5 + 1)).1 89 5 = σ.1 89 5 + 1 := by rw [uI_s, eqp_g f1 (by unfold dkF; omega)]
    generalize my_uI σ1 89 5 (σ1.1 89 5 + 1) = σ2 at f2 g5 ⊢
    have lc1 : LgC (hA2 (kH S)) X σ1 := LgC_o hC f1 (fun c k hh => by unfold dkF at hh; omega)
    have ep1 : σ1.1 (hA2 (kH S)) 2 = Int32.ofNat (kP S) := (eqp_g f1 (by unfold dkF; omega)).trans hep
    have k1 : KC (apS S X (apm S X) X) σ1 := ⟨s1, lc1, (eqp_g f1 (by unfold dkF; omega)).trans h3, ep1, ((f1 91 0 (by unfold dkF; omega)).2.2).trans l0, ((f1 91 1 (by unfold dkF; omega)).2.2).trans l1⟩
    exact hQ1 rfl σ2 (KC_o k1 f2 (fun c k hh => by omega)) ((eqp_g f2 (by omega)).trans x1) g5 (eqp_tr (eqp_mo f1 dk) (eqp_mo f2 (fun c k hh => by unfold kpF; omega)))
  · rw [my_kI_v, if_pos rfl]
    have ha : ap1 S X = (2, apS S X (kN S) X) := by unfold ap1; rw [if_neg (by omega)]
    rw [ha] at hQ2
    refine hQ2 rfl σ1 ?_ x1 (eqp_g f1 (by unfold dkF; omega)) (eqp_mo f1 dk)
    show WSc _ (kN S - kN S) _ σ1
    rw [Nat.sub_self]
    exact s1
theorem nmk_b {k : Nat} (hB : itsB As) (hk : k < As.length) : nmk As k < 2147483648 ∧ ∀ at', As[k]? = some at' → riF at' = 4 → nmk As k < 12 ∧ fkA As 3 (Int32.ofNat (nmk As k)) As.length 0 = some k := by
  have ha := List.getElem?_eq_getElem hk
  generalize As[k] = a at ha
  have hn : nmk As k = cnK (As.take k) (kdf (riF a)) := by unfold nmk; rw [ha]
  have h1 := (nmk_lt hB ha).1
  have h2 := mst_16 (kdf (riF a))
  refine ⟨by omega, fun at' hat h4 => ?_⟩
  rw [ha] at hat
  cases hat
  have hk3 : kdf (riF a) = 3 := by rw [h4]; rfl
  have h3 := fkA_at (Bs := As) (K := 3) hB ha hk3 k 0 (by omega)
  rw [hk3] at h1 hn
  have h4 : mst 3 = 12 := rfl
  rw [hn]
  exact ⟨by omega, h3⟩
theorem c_160 {n : Nat} {at' : Ri} (hU : nmU As) (ld : LD As I rv σ) (hK : KC S σ) (hP : KP S M) (hM : M + 1 < 65535) (ha : 65 ≤ a ∧ a < 88) (sl : SlC rv a kt s σ) (hat : As[kt]? = some at') (h4 : riF at' = 4) (hE : zE s = some n) (hn6 : n < 6) (hck : CKd As s) (hd : 8 ≤ d) (hQ1 : (kp As I v3 kt s S).1 = 1 → ∀ σ', KC (kp As I v3 kt s S).2 σ' → σ'.1 89 7 = σ.1 89 7 → σ'.1 89 5 = σ.1 89 5 + 1 → eqp kpF σ σ' → Q (.inl (some (.inl 1))) κ σ') (hQ0 : (kp As I v3 kt s S).1 = 0 → ∀ σ', KC (kp As I v3 kt s S).2 σ' → σ'.1 89 7 = σ.1 89 7 → σ'.1 89 5 = σ.1 89 5 → eqp kpF σ σ' → Q (.inl (some (.inl 0))) κ σ') (hQ2 : (kp As I v3 kt s S).1 = 2 → ∀ σ', WSc (kD (kp As I v3 kt s S).2) (kN (kp As I v3 kt s S).2) (kW (kp As I v3 kt s S).2) σ' → σ'.1 89 7 = 1 → σ'.1 89 5 = σ.1 89 5 → eqp kpF σ σ' → Q (.inl (some (.inl 0))) κ σ') : my_M e d 160 [.inr (.inr (some 89)), .inr (.inr (some rv)), .inr (.inr (some a)), .inl v3] κ σ Q := by
  obtain ⟨d, rfl⟩ := dS 1 (show 1 ≤ d by omega)
  have hkt := (List.getElem?_eq_some_iff.mp hat).1
  have hrv := ld.2.2.1
  have hB := ld.1
  obtain ⟨q1, q2⟩ := nmk_b hB hkt
  obtain ⟨q3, q4⟩ := q2 at' hat h4
  have hb := hA2_b (h := kH S)
  have hb' := hA2_b (h := 1 - kH S)
  have hv := KC_V hK hP
  obtain ⟨z2, hk42⟩ := cl_nm ld hat
  have hin := in11 (rv := rv) (k := kt) hrv hk42
  have en1 : ∀ {h : Nat} {c k : Nat}, enG (hA2 h) c k → ((94 ≤ c ∧ c ≤ 107) ∨ c = 92 ∨ c = 93) ∧ ¬ (c = hA2 h ∧ k = 2) := fun {h c k} hh => by have := hA2_b (h := h); unfold enG at hh; omega
  have h5 : ∀ {h : Nat} {σ1 σ2 : my_S}, eqp (enG (hA2 h)) σ1 σ2 → (∀ {k : Nat}, σ2.1 89 k = σ1.1 89 k) ∧ σ2.2.2 91 0 = σ1.2.2 91 0 ∧ σ2.2.2 91 1 = σ1.2.2 91 1 ∧ σ2.1 (hA2 h) 2 = σ1.1 (hA2 h) 2 := fun {h σ1 σ2} f => ⟨fun {k} => eqp_g f (fun hh => by have := en1 hh; omega), (f 91 0 (fun hh => by have := en1 hh; omega)).2.2, (f 91 1 (fun hh => by have := en1 hh; omega)).2.2, eqp_g f (fun hh => (en1 hh).2 ⟨rfl, rfl⟩)⟩
  have en2 : ∀ {h : Nat} {c k : Nat}, enG (hA2 h) c k → kpF c k := fun {h c k} hh => by have := (en1 hh).1; unfold kpF; omega
  obtain ⟨p1, p2, p3, p4⟩ := hP
  obtain ⟨k1, k2, k3, k4, k5, k6⟩ := hK
  have h12 : cnK As 3 ≤ 12 := hB.1 3
  refine ys_160 ?_
  unfold ys_160_0
  refine ⟨a, rfl, sl.1, ?_⟩
  rw [sl.2.1, if_neg (by simp)]
  refine c_155c hv (by omega) ?_
  rw [my_kA_v]
  refine ⟨_, rfl, in8 hv.1, ?_⟩
  unfold kp at hQ1 hQ0 hQ2
  refine c_161c (n := n) hU ld hv ha sl hkt hE hn6 hck (by omega) (fun hx σ1 w1 t1 l1 f1 => ?_) (fun hx σ1 l1 f1 => ?_)
  · rw [my_kI_v, if_neg (by decide)]
    rw [if_pos hx] at hQ1 hQ2
    obtain ⟨g89, g0, g1, ge⟩ := h5 f1
    rw [k2.1]
    exact c_160w (S := S) (M := M) ⟨p1, p2, p3, p4⟩ w1 (rcX_ok hU hB p2 p3 hkt hE hn6 hck hx).2.2 (WSc_o k1 f1 (fun c k hh => by have := en1 hh; omega)) l1 (g89.trans k3) (ge.trans k4) (g0.trans k5) (g1.trans k6) (by omega) (fun h1 σ2 c2 x7 x5 f2 => hQ1 h1 σ2 c2 (x7.trans g89) (x5.trans (by rw [g89])) (eqp_tr (eqp_mo f1 (fun c k hh => en2 hh)) f2)) (fun h1 σ2 c2 x7 x5 f2 => hQ2 h1 σ2 c2 x7 (x5.trans g89) (eqp_tr (eqp_mo f1 (fun c k hh => en2 hh)) f2))
  · rw [my_kI_v, if_pos rfl]
    rw [if_neg (by omega)] at hQ1 hQ0 hQ2
    obtain ⟨g89, g0, g1, ge⟩ := h5 f1
    have ld1 : LD As I rv σ1 := LD_o (LD_30 ld) ld f1 (fun c k hh => by have := en1 hh; unfold coF; omega)
    have sl1 : SlC rv a kt s σ1 := SlC_o sl f1 (fun c k hh => by have := en1 hh; omega)
    obtain ⟨z21, _⟩ := cl_nm ld1 hat
    have hNok : CPI (kL S) (cpA As (kL S) (nmk As kt) (cnK As 3) 0 []) (tSn As (0 + cnK As 3)) := cpA_ok hU p2 p3 _ _ _ (by omega) CPI_0
    have hNW := CPI_W p2 hNok
    have hNT := hNok.2.2.2.1
    refine ⟨a, rfl, sl.1, _, sl1.2.1, hin, ?_⟩
    rw [z21]
    have hs1 : WSc (kD S) (kN S) (kW S) σ1 := WSc_o k1 f1 (fun c k hh => by have := en1 hh; omega)
    have hex : ∀ t k b, t < 12 → fkA As 3 (Int32.ofNat t) As.length 0 = some k → As[k]? = some b → (nmC (riN b) = nmC (riN at') ↔ t = nmk As kt) := fun t k b ht hf hb2 => by
      constructor
      · intro hh
        have hnb := (hB.2 b (List.mem_of_getElem? hb2)).2.1
        have hna := (hB.2 at' (List.mem_of_getElem? hat)).2.1
        have e1 := (nmC_inj hnb hna).mp hh
        have u1 := (hU k b hb2).1
        have u2 := (hU kt at' hat).1
        rw [e1, u2] at u1
        cases u1
        obtain ⟨_, _, _, n1⟩ := fkA_n hf
        exact ((oN_e (by omega) (by omega)).mp n1).symm
      · intro hh
        rw [hh, q4] at hf
        cases hf
        rw [hat] at hb2
        cases hb2
        rfl
    generalize hN : cpA As (kL S) (nmk As kt) (cnK As 3) 0 [] = N at hQ1 hQ0 hQ2 hNW hNT
    refine c_163 (D := kD S) (h := kH S) (ep := kP S) (n := kN S) (w := kW S) (x := nmk As kt) (B := en (kL S) 0) (N := N) (E := kL S) hU ld1 p2 p3 l1 (g89.trans k3) (g0.trans k5) (g1.trans k6) (ge.trans k4) p1 hM p4 hs1 hex (by omega) hN.symm (fun hm σ2 s2 x7 y3 nW nT l2 y2 f2 => ?_) (fun hm σ2 s2 x7 f2 => ?_)
    · rw [my_kI_v, if_neg (by decide)]
      have hm' : anm N ≤ kN S := hm
      rw [if_pos hm'] at hQ1 hQ0 hQ2
      have an1 : ∀ c k, anF (kH S) c k → kpF c k := fun c k hh => by unfold anF at hh; unfold kpF; omega
      have m91 : ∀ {i : Nat}, σ2.2.2 91 i = σ1.2.2 91 i := fun {i} => (f2 91 i (by unfold anF; omega)).2.2
      have m5 : σ2.1 89 5 = σ.1 89 5 := (eqp_g f2 (by unfold anF; omega)).trans g89
      have kc2 : KC (anS S N (anm N)) σ2 := ⟨s2, l2, y3, y2, m91.trans (g0.trans k5), m91.trans (g1.trans k6)⟩
      have kp2 := anS_ok hM ⟨p1, p2, p3, p4⟩ hNW hNT hm'
      have hv2 := KC_V kc2 kp2
      have F2 : eqp kpF σ σ2 := eqp_tr (eqp_mo f1 (fun c k hh => en2 hh)) (eqp_mo f2 an1)
      have ld2 : LD As I rv σ2 := LD_o (LD_30 ld) ld F2 (fun c k hh => by unfold kpF at hh; unfold coF; omega)
      have sl2 : SlC rv a kt s σ2 := SlC_o sl F2 (fun c k hh => by unfold kpF at hh; omega)
      refine c_155c hv2 (by omega) ?_
      rw [my_kA_v]
      refine ⟨_, rfl, in8 hv2.1, ?_⟩
      refine c_161c (n := n) hU ld2 hv2 ha sl2 hkt hE hn6 hck (by omega) (fun hx2 σ3 w3 t3 l3 f3 => ?_) (fun hx2 σ3 l3 f3 => ?_)
      · rw [my_kI_v, if_neg (by decide)]
        have hx2' : els (rcX As I v3 kt s N) ≤ 7747 := hx2
        rw [if_pos hx2'] at hQ1 hQ2
        obtain ⟨r89, r0, r1, re⟩ := h5 f3
        rw [kc2.2.1.1]
        exact c_160w (S := anS S N (anm N)) (M := M + 1) kp2 w3 (rcX_ok hU hB hNW hNT hkt hE hn6 hck hx2').2.2 (WSc_o kc2.1 f3 (fun c k hh => by have := en1 hh; omega)) l3 (r89.trans kc2.2.2.1) (re.trans kc2.2.2.2.1) (r0.trans kc2.2.2.2.2.1) (r1.trans kc2.2.2.2.2.2) (by omega) (fun h1 σ4 c4 x74 x54 f4 => hQ1 h1 σ4 c4 (x74.trans (r89.trans (x7.trans g89))) (x54.trans (by rw [r89, m5])) (eqp_tr F2 (eqp_tr (eqp_mo f3 (fun c k hh => en2 hh)) f4))) (fun h1 σ4 c4 x74 x54 f4 => hQ2 h1 σ4 c4 x74 (x54.trans (r89.trans m5)) (eqp_tr F2 (eqp_tr (eqp_mo f3 (fun c k hh => en2 hh)) f4)))
      · rw [my_kI_v, if_pos rfl]
        have hx2' : ¬ els (rcX As I v3 kt s N) ≤ 7747 := by
          have : 7747 < els (rcX As I v3 kt s N) := hx2
          omega
        rw [if_neg hx2'] at hQ0
        obtain ⟨r89, r0, r1, re⟩ := h5 f3
        refine hQ0 rfl σ3 ⟨WSc_o kc2.1 f3 (fun c k hh => by have := en1 hh; omega), l3, r89.trans kc2.2.2.1, re.trans kc2.2.2.2.1, r0.trans kc2.2.2.2.2.1, r1.trans kc2.2.2.2.2.2⟩ (r89.trans (x7.trans g89)) (r89.trans m5) (eqp_tr F2 (eqp_mo f3 (fun c k hh => en2 hh)))
    · rw [my_kI_v, if_pos rfl]
      have hm' : ¬ anm N ≤ kN S := by
        have : kN S < anm N := hm
        omega
      rw [if_neg hm'] at hQ2
      refine hQ2 rfl σ2 ?_ x7 ((eqp_g f2 (by unfold anF; omega)).trans g89) (eqp_tr (eqp_mo f1 (fun c k hh => en2 hh)) (eqp_mo f2 (fun c k hh => by unfold anF at hh; unfold kpF; omega)))
      show WSc _ (kN S - kN S) _ σ2
      rw [Nat.sub_self]
      exact s2
end MCK
