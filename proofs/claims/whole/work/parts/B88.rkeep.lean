
/-! ===== the reference: recordRun ===== -/
def KR (S : KSt) (σ : my_S) : Prop := WSr (kD S) (kN S) (kW S) σ ∧ LgR (kL S) [] σ ∧ σ.1 498 83 = Int32.ofNat (kH S) ∧ σ.1 498 84 = Int32.ofNat (kP S)
def rpF (c k : Nat) : Prop := mkF c k ∨ rnwF c k ∨ apF c k
section MRK
variable {As : List Ri} {I : List It} {rv i kt : Nat} {e : my_E} {d : Nat} {κ : my_K} {σ σ' : my_S} {Q : my_O → my_K → my_S → Prop} {S : KSt} {M : Nat} {s : Ms} {v3 : Int32} {X : List Et}
theorem KR_o {F : Nat → Nat → Prop} (h : KR S σ) (f : eqp F σ σ') (hF : ∀ c k, F c k → c ≠ 546 ∧ c ≠ 547 ∧ (c = 498 → k ≠ 83 ∧ k ≠ 84 ∧ k ≠ 86 ∧ k ≠ 87 ∧ k ≠ 88)) : KR S σ' := by
  obtain ⟨h1, h2, h3, h4⟩ := h
  refine ⟨WSr_o h1 f (fun c k hh => by have := hF c k hh; omega), LgR_o h2 f (fun c k hh => by have := hF c k hh; omega), (eqp_g f (fun hh => by have := hF _ _ hh; omega)).trans h3, (eqp_g f (fun hh => by have := hF _ _ hh; omega)).trans h4⟩
theorem SlR_o {F : Nat → Nat → Prop} (h : SlR As i kt s σ) (f : eqp F σ σ') (hF : ∀ c k, F c k → ¬ (557 ≤ c ∧ c ≤ 566)) : SlR As i kt s σ' := by
  have g : ∀ {c k : Nat}, 557 ≤ c → c ≤ 566 → σ'.1 c k = σ.1 c k := fun h1 h2 => eqp_g f (fun hh => hF _ _ hh ⟨h1, h2⟩)
  obtain ⟨a, b, c, d, e1, f1⟩ := h
  exact ⟨(g (by omega) (by omega)).trans a, (g (by omega) (by omega)).trans b, (g (by omega) (by omega)).trans c, fun q hq => (g (by omega) (by omega)).trans (d q hq), (g (by omega) (by omega)).trans e1, fun k b hb => (g (by omega) (by omega)).trans (f1 k b hb)⟩
theorem mkF_c {c k : Nat} (hh : mkF c k) : c = 551 ∨ c = 552 ∨ c = 553 ∨ c = 554 ∨ (c = 498 ∧ (k = 97 ∨ k = 99 ∨ k = 101)) := by unfold mkF rsF frF fyF tdF at hh; omega
theorem rnwF_c {c k : Nat} (hh : rnwF c k) : (546 ≤ c ∧ c ≤ 550) ∨ (554 ≤ c ∧ c ≤ 556) ∨ (c = 498 ∧ (k = 83 ∨ k = 84 ∨ k = 86 ∨ k = 87 ∨ k = 88 ∨ k = 89 ∨ k = 90 ∨ k = 93 ∨ k = 95 ∨ k = 104 ∨ k = 105)) := by unfold rnwF twF rwF nyF drF rrlF plF at hh; omega
theorem f_310w {F : List Et} (hP : KP S M) (hX : X = kL S ++ F) (hW : LgW X) (hG : FRy (en F (nit (kL S))) σ) (hK : KR S σ) (h0 : σ.1 498 89 = 0) (hd : 3 ≤ d) (hQ1 : (ap1 S X).1 = 1 → ∀ σ', KR (ap1 S X).2 σ' → σ'.1 498 89 = 0 → eqp apF σ σ' → Q (.inl (some (.inl 1))) κ σ') (hQ2 : (ap1 S X).1 = 2 → ∀ σ', WSr (kD (ap1 S X).2) (kN (ap1 S X).2) (kW (ap1 S X).2) σ' → σ'.1 498 89 = 1 → eqp apF σ σ' → Q (.inl (some (.inl 0))) κ σ') : ys_310_49 e d κ σ Q := by
  obtain ⟨p1, p2, p3, p4⟩ := hP
  obtain ⟨k1, k2, k3, k4⟩ := hK
  have hx : en X 0 = en (kL S) 0 ++ en F (nit (kL S)) := by rw [hX, en_a, Nat.zero_add]
  have hlx : (en X 0).length = els X := en_l
  have hl0 : (en (kL S) 0).length = els (kL S) := en_l
  have hw := hW.2
  have hpe := p1.1
  have hlb : lgB (en (kL S) 0) σ := by
    have := lgB_R.mpr k2
    rw [List.append_nil] at this
    exact this
  have hlen : (en (kL S) 0).length + (en F (nit (kL S))).length ≤ 7747 := by rw [← List.length_append, ← hx, hlx]; exact hw
  have ea : apm S X = nbk (en X 0) - els (kL S) / 61 := rfl
  unfold ys_310_49
  refine f_331 (h := kH S) (ep := kP S) (D := kD S) (n := kN S) (w := kW S) (B := en (kL S) 0) (G := en F (nit (kL S))) hpe.1 hlb hG hlen (by omega) p4 hd k3 k4 k1 h0 (fun hm σ1 l1 s1 x1 f1 => ?_) (fun hm σ1 l1 s1 x1 f1 => ?_)
  · rw [my_k0_v, x1, if_pos rfl]
    unfold ys_310_65
    rw [← hx, hl0] at hm s1
    rw [← hx] at l1
    have ha : ap1 S X = (1, apS S X (apm S X) X) := by unfold ap1; rw [if_pos (by omega)]
    rw [ha] at hQ1
    refine ⟨Or.inr rfl, hQ1 rfl σ1 ⟨s1, ?_, (eqp_g f1 (by unfold apF drF; omega)).trans k3, (eqp_g f1 (by unfold apF drF; omega)).trans k4⟩ x1 f1⟩
    show LgR X [] σ1
    rw [← lgB_R, List.append_nil]
    exact l1
  · rw [my_k0_v, x1, if_neg (by decide)]
    unfold ys_310_65
    rw [← hx, hl0] at hm s1
    have ha : ap1 S X = (2, apS S X (kN S) X) := by unfold ap1; rw [if_neg (by omega)]
    rw [ha] at hQ2
    refine ⟨Or.inl rfl, hQ2 rfl σ1 ?_ x1 f1⟩
    show WSr _ (kN S - kN S) _ σ1
    rw [Nat.sub_self]
    exact s1
theorem f_310 {n : Nat} {at' : Ri} (hU : nmU As) (ld : LD As I rv σ) (hK : KR S σ) (hP : KP S M) (hM : M + 1 < 65535) (hi : i < 12) (sl : SlR As i kt s σ) (hat : As[kt]? = some at') (h4 : riF at' = 4) (hE : zE s = some n) (hn6 : n < 6) (hck : CKd As s) (h65 : σ.1 498 65 = v3) (h0 : σ.1 498 89 = 0) (hd : 9 ≤ d) (hQ1 : (kp As I v3 kt s S).1 = 1 → ∀ σ', KR (kp As I v3 kt s S).2 σ' → σ'.1 498 89 = 0 → eqp rpF σ σ' → Q (.inl (some (.inl 1))) κ σ') (hQ0 : (kp As I v3 kt s S).1 = 0 → ∀ σ', KR (kp As I v3 kt s S).2 σ' → σ'.1 498 89 = 0 → eqp rpF σ σ' → Q (.inl (some (.inl 0))) κ σ') (hQ2 : (kp As I v3 kt s S).1 = 2 → ∀ σ', WSr (kD (kp As I v3 kt s S).2) (kN (kp As I v3 kt s S).2) (kW (kp As I v3 kt s S).2) σ' → σ'.1 498 89 = 1 → eqp rpF σ σ' → Q (.inl (some (.inl 0))) κ σ') : my_M e d 310 [.inr (.inr (some 498)), .inl (Int32.ofNat i)] κ σ Q := by
  obtain ⟨d, rfl⟩ := dS 1 (show 1 ≤ d by omega)
  have hkt := (List.getElem?_eq_some_iff.mp hat).1
  have hrv := ld.2.2.1
  have hB := ld.1
  have h12 : cnK As 3 ≤ 12 := hB.1 3
  obtain ⟨q1, q2⟩ := nmk_b hB hkt
  have hE' : ∃ n, zE s = some n ∧ n < 6 := ⟨n, hE, hn6⟩
  obtain ⟨p1, p2, p3, p4⟩ := hP
  obtain ⟨k1, k2, k3, k4⟩ := hK
  have pl : ∀ c k, plF c k → rpF c k := fun c k hh => Or.inr (Or.inl (Or.inr (Or.inr (Or.inr hh))))
  have mk : ∀ c k, mkF c k → rpF c k := fun c k hh => Or.inl hh
  have rn : ∀ c k, rnwF c k → rpF c k := fun c k hh => Or.inr (Or.inl hh)
  have ap : ∀ c k, apF c k → rpF c k := fun c k hh => Or.inr (Or.inr hh)
  unfold kp at hQ1 hQ0 hQ2
  refine ys_310 ?_
  unfold ys_310_0
  refine r_284 p2 k2 (by have := p2.2; simpa using this) (Or.inl (by simp)) (by omega) (fun σ1 pr1 _ f1 => ?_)
  rw [my_k0_v]
  have ld1 : LD As I rv σ1 := LD_o (LD_30 ld) ld f1 (fun c q hh => by unfold plF at hh; unfold coF; omega)
  have kr1 : KR S σ1 := KR_o ⟨k1, k2, k3, k4⟩ f1 (fun c k hh => by unfold plF at hh; omega)
  have sl1 : SlR As i kt s σ1 := SlR_o sl f1 (fun c k hh => by unfold plF at hh; omega)
  have g65 : σ1.1 498 65 = v3 := (eqp_g f1 (by unfold plF; omega)).trans h65
  have g89 : σ1.1 498 89 = 0 := (eqp_g f1 (by unfold plF; omega)).trans h0
  refine f_311 hU p2 ld1 kr1.2.1 pr1 hi hat h4 sl1 hE' hck (by omega) (fun σ2 Fs hrx fr2 hfs f2 => ?_)
  rw [my_k0_v]
  rw [g65] at hrx
  have ld2 : LD As I rv σ2 := LD_o (LD_30 ld1) ld1 f2 (fun c q hh => by have := mkF_c hh; unfold coF; omega)
  have kr2 : KR S σ2 := KR_o kr1 f2 (fun c k hh => by have := mkF_c hh; omega)
  have pr2 : PrR (kL S) σ2 := PrR_o pr1 f2 (fun c k hh => by have := mkF_c hh; omega)
  have sl2 : SlR As i kt s σ2 := SlR_o sl1 f2 (fun c k hh => by have := mkF_c hh; omega)
  have g892 : σ2.1 498 89 = 0 := (eqp_g f2 (fun hh => by have := mkF_c hh; omega)).trans g89
  have g652 : σ2.1 498 65 = v3 := (eqp_g f2 (fun hh => by have := mkF_c hh; omega)).trans g65
  have hel : els (rcX As I v3 kt s (kL S)) = els (kL S) + els Fs := by rw [hrx, els_a]
  have hfl : (en Fs (nit (kL S))).length = els Fs := en_l
  have F2 : eqp rpF σ σ2 := eqp_tr (eqp_mo f1 pl) (eqp_mo f2 mk)
  refine f_318 kr2.2.1 fr2 p2.2 (by omega) (by omega) ?_
  rw [my_kI_v, hfl, ← hel]
  by_cases c1 : els (rcX As I v3 kt s (kL S)) ≤ 7747
  · rw [decide_eq_true c1, if_neg (by decide)]
    rw [if_pos c1] at hQ1 hQ2
    obtain ⟨w1, _, _⟩ := rcX_ok hU hB p2 p3 hkt hE hn6 hck c1
    exact f_310w (M := M) ⟨p1, p2, p3, p4⟩ hrx w1 fr2 kr2 g892 (by omega) (fun h1 σ3 kr3 x3 f3 => hQ1 h1 σ3 kr3 x3 (eqp_tr F2 (eqp_mo f3 ap))) (fun h1 σ3 kr3 x3 f3 => hQ2 h1 σ3 kr3 x3 (eqp_tr F2 (eqp_mo f3 ap)))
  · rw [decide_eq_false c1, if_pos (show bI false = 0 from rfl), oN_n (by omega), sl2.1]
    rw [if_neg c1] at hQ1 hQ0 hQ2
    have hNok : CPI (kL S) (cpA As (kL S) (nmk As kt) (cnK As 3) 0 []) (tSn As (0 + cnK As 3)) := cpA_ok hU p2 p3 _ _ _ (by omega) CPI_0
    have hNW := CPI_W p2 hNok
    have hNT := hNok.2.2.2.1
    generalize hN : cpA As (kL S) (nmk As kt) (cnK As 3) 0 [] = N at hQ1 hQ0 hQ2 hNW hNT
    have hl0 : (en (kL S) 0).length = els (kL S) := en_l
    have hw := p2.2
    refine ⟨bdk hi (by omega), f_319 (D := kD S) (h := kH S) (ep := kP S) (n := kN S) (w := kW S) (x := nmk As kt) (B := en (kL S) 0) (N := N) (E := kL S) hU ld2 p2 p3 kr2.2.1 pr2 (by omega) p1 hM p4 kr2.1 g892 kr2.2.2.1 kr2.2.2.2 (fun t ht => oN_e (by omega) (by omega)) (by omega) hN.symm (fun hm σ3 s3 x9 x83 x84 nW nT l3 pr3 f3 => ?_) (fun hm σ3 s3 x9 f3 => ?_)⟩
    · have hm' : anm N ≤ kN S := hm
      rw [if_pos hm'] at hQ1 hQ0 hQ2
      rw [my_k0_v, x9, if_pos rfl]
      have kr3 : KR (anS S N (anm N)) σ3 := ⟨s3, l3, x83, x84⟩
      have kp3 := anS_ok hM ⟨p1, p2, p3, p4⟩ hNW hNT hm'
      have ld3 : LD As I rv σ3 := LD_o (LD_30 ld2) ld2 f3 (fun c q hh => by have := rnwF_c hh; unfold coF; omega)
      have sl3 : SlR As i kt s σ3 := SlR_o sl2 f3 (fun c k hh => by have := rnwF_c hh; omega)
      have g653 : σ3.1 498 65 = v3 := (eqp_g f3 (fun hh => by have := rnwF_c hh; omega)).trans g652
      have F3 : eqp rpF σ σ3 := eqp_tr F2 (eqp_mo f3 rn)
      refine f_311 hU hNW ld3 l3 pr3 hi hat h4 sl3 hE' hck (by omega) (fun σ4 Gs hrx4 fr4 hgs f4 => ?_)
      rw [my_k0_v]
      rw [g653] at hrx4
      have kr4 : KR (anS S N (anm N)) σ4 := KR_o kr3 f4 (fun c k hh => by have := mkF_c hh; omega)
      have g894 : σ4.1 498 89 = 0 := (eqp_g f4 (fun hh => by have := mkF_c hh; omega)).trans x9
      have hel4 : els (rcX As I v3 kt s N) = els N + els Gs := by rw [hrx4, els_a]
      have hgl : (en Gs (nit N)).length = els Gs := en_l
      refine f_318 (E := N) kr4.2.1 fr4 hNW.2 (by omega) (by omega) ?_
      rw [my_kI_v, hgl, ← hel4]
      by_cases c3 : els (rcX As I v3 kt s N) ≤ 7747
      · rw [decide_eq_true c3, if_neg (by decide)]
        rw [if_pos c3] at hQ1 hQ2
        obtain ⟨w4, _, _⟩ := rcX_ok hU hB hNW hNT hkt hE hn6 hck c3
        exact f_310w (S := anS S N (anm N)) (M := M + 1) kp3 hrx4 w4 fr4 kr4 g894 (by omega) (fun h1 σ5 kr5 x5 f5 => hQ1 h1 σ5 kr5 x5 (eqp_tr F3 (eqp_tr (eqp_mo f4 mk) (eqp_mo f5 ap)))) (fun h1 σ5 kr5 x5 f5 => hQ2 h1 σ5 kr5 x5 (eqp_tr F3 (eqp_tr (eqp_mo f4 mk) (eqp_mo f5 ap))))
      · rw [decide_eq_false c3, if_pos (show bI false = 0 from rfl)]
        rw [if_neg c3] at hQ0
        exact hQ0 rfl σ4 kr4 g894 (eqp_tr F3 (eqp_mo f4 mk))
    · have hm' : ¬ anm N ≤ kN S := by
        have : kN S < anm N := hm
        omega
      rw [if_neg hm'] at hQ2
      rw [my_k0_v, x9, if_neg (by decide)]
      refine hQ2 rfl σ3 ?_ x9 (eqp_tr F2 (eqp_mo f3 rn))
      show WSr _ (kN S - kN S) _ σ3
      rw [Nat.sub_self]
      exact s3
end MRK
