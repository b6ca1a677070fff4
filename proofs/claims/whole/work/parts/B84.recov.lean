
/-! ===== what a crash leaves, and how it is read ===== -/
theorem cut_e : ∀ {E : List Et} {k q : Nat}, wfl E k → els E ≤ 7747 → ∃ E1 E2 T, E = E1 ++ E2 ∧ (en E k).take q = en E1 k ++ T ∧ tlB T
  | [], k, q, _, _ => ⟨[], [], [], rfl, by rw [en, List.take_nil, List.append_nil], Or.inl (by decide)⟩
  | x :: r, k, q, hw, hl => by
    rw [els] at hl
    have hx := hw.1
    have hk : eK x = 1 ∨ eK x = 2 := by
      rcases hx.2.2.2 with q | q
      · exact Or.inl q.1
      · exact Or.inr q.1
    by_cases c : el x ≤ q
    · obtain ⟨E1, E2, T, h1, h2, h3⟩ := cut_e (q := q - el x) hw.2 (by omega)
      refine ⟨x :: E1, E2, T, by rw [h1]; rfl, ?_, h3⟩
      rw [en, en, List.take_append, e1_l, h2, List.take_of_length_le (by rw [e1_l]; exact c), List.append_assoc]
    · refine ⟨[], x :: r, (e1 x k).take q, rfl, ?_, ?_⟩
      · rw [en, en, List.nil_append, List.take_append, e1_l, show q - el x = 0 by omega, List.take_zero, List.append_nil]
      · have hlen : ((e1 x k).take q).length = q := by rw [List.length_take, e1_l]; omega
        by_cases c2 : q < 2
        · exact Or.inl (by omega)
        · right
          obtain ⟨q1, q2, _⟩ := eh_b (k := k) hk
          have a1 : g1 ((e1 x k).take q) 0 = (el x - 2) / 2 ^ (8 * 0) % 256 := by
            unfold g1
            rw [List.getElem?_take, if_pos (by omega), q1]
            exact b8_bt (by omega) (by omega)
          have a2 : g1 ((e1 x k).take q) 1 = (el x - 2) / 2 ^ (8 * 1) % 256 := by
            unfold g1
            rw [List.getElem?_take, if_pos (by omega), q2]
            exact b8_bt (by omega) (by omega)
          have a3 : g2 ((e1 x k).take q) 0 = el x - 2 := by
            unfold g2
            rw [Nat.zero_add, a1, a2]
            exact two_e (by omega)
          rw [hlen, a3]
          omega
theorem LgT_pre {E1 E2 : List Et} (hW : LgW (E1 ++ E2)) (h : LgT (E1 ++ E2)) : LgW E1 ∧ LgT E1 := by
  have hW1 : LgW E1 := ⟨(wfl_a.mp hW.1).1, by have := hW.2; rw [els_a] at this; omega⟩
  refine ⟨hW1, fun y hy => ?_⟩
  obtain ⟨z, h1, h2⟩ := h y (rcp_ap hy)
  obtain ⟨r1, r2, r3, r4, r5, r6⟩ := rec_w hW1 hy
  obtain ⟨u, hu, _⟩ := itp_e r4
  have := itp_ap (F := E2) hu
  rw [h1] at this
  cases this
  exact ⟨z, hu, h2⟩
/-- on the disk is a log, perhaps with a cut entry behind it -/
def CUT (D : Nat → Int32) (h ep : Nat) (E : List Et) (T : List Int32) (M : Nat) : Prop := DSK D h ep (en E 0 ++ T) M ∧ LgW E ∧ LgT E ∧ tlB T ∧ els E + T.length ≤ 7747 ∧ aB T
theorem CUT_e {D : Nat → Int32} {h ep M q : Nat} {E : List Et} (hW : LgW E) (hT : LgT E) (hk : DSK D h ep ((en E 0).take q) M) : ∃ E1 T, CUT D h ep E1 T M := by
  obtain ⟨E1, E2, T, h1, h2, h3⟩ := cut_e (q := q) hW.1 hW.2
  have hW' := hW
  have hT' := hT
  rw [h1] at hW' hT'
  obtain ⟨w1, t1⟩ := LgT_pre hW' hT'
  refine ⟨E1, T, by rw [← h2]; exact hk, w1, t1, h3, ?_, fun x hx => ?_⟩
  · have hl := congrArg List.length h2
    rw [List.length_take, List.length_append, en_l, en_l] at hl
    have := hW.2
    omega
  · have hm : x ∈ (en E 0).take q := by rw [h2]; exact List.mem_append_right _ hx
    exact aB_en hW.1 x (List.mem_of_mem_take hm)
section MRC
variable {As : List Ri} {I : List It} {rv : Nat} {e : my_E} {d : Nat} {κ : my_K} {σ σ' : my_S} {Q : my_O → my_K → my_S → Prop} {D : Nat → Int32} {h ep M : Nat} {w : Int32} {T : List Int32} {E N : List Et}
def rvF (c k : Nat) : Prop := (94 ≤ c ∧ c ≤ 107) ∨ c = 92 ∨ c = 93 ∨ c = 90 ∨ (c = 89 ∧ (k = 3 ∨ k = 4 ∨ k = 6 ∨ k = 7))
theorem hA2_b {h : Nat} : 94 ≤ hA2 h ∧ hA2 h ≤ 101 := by unfold hA2; split <;> omega
theorem c_168 (hU : nmU As) (ld : LD As I rv σ) (hc : CUT D h ep E T M) (hM : M + 1 < 65535) (l0 : σ.2.2 91 0 = some 94) (l1 : σ.2.2 91 1 = some 101) (hD : DC D σ) (hw : σ.1 89 4 = w) (hd : 7 ≤ d) (hNN : N = cpA As E 1000 (cnK As 3) 0 []) (hQa : T = [] → ∀ σ', DC D σ' → σ'.1 89 4 = w → σ'.1 89 3 = Int32.ofNat h → LgC (hA2 h) E σ' → σ'.1 (hA2 h) 2 = Int32.ofNat ep → eqp rvF σ σ' → Q (.inl none) κ σ') (hQb : ¬ T = [] → ∀ σ', DC (rnD D h ep (en N 0) (nbk (en N 0) + 2)) σ' → σ'.1 89 4 = w + Int32.ofNat (nbk (en N 0) + 2) → σ'.1 89 3 = Int32.ofNat (1 - h) → LgC (hA2 (1 - h)) N σ' → σ'.1 (hA2 (1 - h)) 2 = Int32.ofNat (nxE D h ep) → eqp rvF σ σ' → Q (.inl none) κ σ') : my_M e d 168 [.inr (.inr (some 89)), .inr (.inr (some rv))] κ σ Q := by
  obtain ⟨d, rfl⟩ := dS 1 (show 1 ≤ d by omega)
  obtain ⟨hk, hW, hT, ht, hl, haT⟩ := hc
  have hs := DSK_s hk
  have hkk := hk
  obtain ⟨⟨hh1, e1, e2, e3⟩, k1, k2, k3, k4, k5, k6⟩ := hk
  have hAb := hA2_b (h := h)
  have hAb' := hA2_b (h := 1 - h)
  have hrv := ld.2.2.1
  have h12 : cnK As 3 ≤ 12 := ld.1.1 3
  have key : ys_168_85 e d (some rv) (Int32.ofNat h) κ σ Q := by
    unfold ys_168_85
    have f0 : eqp (fun c k => c = 89 ∧ k = 3) σ (my_uI σ 89 3 (Int32.ofNat h)) := eqp_I eqp_rf ⟨rfl, rfl⟩
    have g0 : (my_uI σ 89 3 (Int32.ofNat h)).1 89 3 = Int32.ofNat h := uI_s
    generalize my_uI σ 89 3 (Int32.ofNat h) = σ1 at f0 g0 ⊢
    obtain ⟨d, rfl⟩ := dS 1 (show 1 ≤ d by omega)
    refine ys_159 ?_
    unfold ys_159_0
    rw [my_k0_v]
    have f1 : eqp (fun c k => c = 89 ∧ (k = 6 ∨ k = 7)) σ1 (my_uI (my_uI σ1 89 6 256) 89 7 0) := eqp_I (eqp_I eqp_rf ⟨rfl, Or.inl rfl⟩) ⟨rfl, Or.inr rfl⟩
    have g6 : (my_uI (my_uI σ1 89 6 256) 89 7 0).1 89 6 = 256 := by rw [my_uI_1, if_neg (by omega)]; exact uI_s
    generalize my_uI (my_uI σ1 89 6 256) 89 7 0 = σ2 at f1 g6 ⊢
    have f01 : eqp (fun c k => c = 89 ∧ (k = 3 ∨ k = 6 ∨ k = 7)) σ σ2 := eqp_tr (eqp_mo f0 (fun c k hh => by omega)) (eqp_mo f1 (fun c k hh => by omega))
    have g3 : σ2.1 89 3 = Int32.ofNat h := (eqp_g f1 (by omega)).trans g0
    have m0 : σ2.2.2 91 0 = some 94 := (f01 91 0 (by omega)).2.2.trans l0
    have m1 : σ2.2.2 91 1 = some 101 := (f01 91 1 (by omega)).2.2.trans l1
    have hD2 : DC D σ2 := DC_o hD f01 (fun c k hh => by omega)
    have live : ∀ {P : my_O → my_K → my_S → Prop}, P (.inl (some (.inr (.inr (some (hA2 h)))))) κ σ2 → my_M e (d + 1) 155 [.inr (.inr (some 89))] κ σ2 P := fun {P} hP => by
      refine ys_155 ?_
      unfold ys_155_0
      rw [g3]
      by_cases c : h = 1
      · subst c
        rw [if_pos (show Int32.ofNat 1 = 1 from rfl)]
        unfold ys_155_17
        rw [show ((1 : Int32)).toNatClampNeg = 1 from rfl, m1]
        exact ⟨bdk (k := 1) (by omega) (by omega), hP⟩
      · have : h = 0 := by omega
        subst this
        rw [if_neg (show ¬ Int32.ofNat 0 = 1 by decide)]
        unfold ys_155_17
        rw [show ((0 : Int32)).toNatClampNeg = 0 from rfl, m0]
        exact ⟨bdk (k := 0) (by omega) (by omega), hP⟩
    refine live ?_
    rw [my_kA_v, g3]
    refine ⟨_, rfl, in8 hA2_l, c_184 (D := D) (h := h) (ep := ep) (E := E) (T := T) hA2_l hh1 hl (aB_a (aB_en hW.1) haT) hW ht k1 (by omega) k2 hD2 (by omega) (fun σ3 l3 x10 x11 x2 f3 => ?_)⟩
    rw [my_k0_v]
    refine ⟨_, rfl, in8 hA2_l, ?_⟩
    have f03 : eqp rvF σ σ3 := eqp_tr (eqp_mo f01 (fun c k hh => by unfold rvF; omega)) (eqp_mo f3 (fun c k hh => by unfold lodF at hh; unfold rvF; omega))
    rw [x11]
    by_cases cT : T = []
    · rw [if_pos cT, if_neg (by decide)]
      unfold ys_168_129
      exact hQa cT σ3 (DC_o hD2 f3 (fun c k hh => by unfold lodF at hh; omega)) ((eqp_g f3 (by unfold lodF; omega)).trans ((eqp_g f01 (by omega)).trans hw)) ((eqp_g f3 (by unfold lodF; omega)).trans g3) l3 x2 f03
    · rw [if_neg cT, if_pos rfl]
      have ld3 : LD As I rv σ3 := LD_o (LD_30 ld) ld f03 (fun c k hh => by unfold rvF at hh; unfold coF; omega)
      have hNok : CPI E N (tSn As (0 + cnK As 3)) := by rw [hNN]; exact cpA_ok hU hW hT _ _ _ (by omega) CPI_0
      have hN7 := (CPI_W hW hNok).2
      have hNl : (en N 0).length = els N := en_l
      have hbk : nbk (en N 0) ≤ 127 := by unfold nbk; omega
      have hz : ∀ t k a, t < 12 → fkA As 3 (Int32.ofNat t) As.length 0 = some k → As[k]? = some a → (nmC (riN a) = 0 ↔ t = 1000) := fun t k a ht hf ha => by
        constructor
        · intro h0
          exfalso
          have hl1 := (hU k a ha).2
          have hnn := (ld.1.2 a (List.mem_of_getElem? ha)).2.1
          have h00 : nmC (riN a) = nmC [] := h0
          have h01 := (nmC_inj hnn ⟨fun _ hq => absurd hq List.not_mem_nil, by decide⟩).mp h00
          rw [h01] at hl1
          simp at hl1
        · intro h0
          omega
      refine c_163 (D := D) (n := 256) (w := w) (x := 1000) (B := en E 0 ++ T) (N := N) hU ld3 hW hT l3 ((eqp_g f3 (by unfold lodF; omega)).trans g3) ((f3 91 0 (by unfold lodF; omega)).2.2.trans m0) ((f3 91 1 (by unfold lodF; omega)).2.2.trans m1) x2 hkk hM (by omega) ⟨DC_o hD2 f3 (fun c k hh => by unfold lodF at hh; omega), (eqp_g f3 (by unfold lodF; omega)).trans g6, (eqp_g f3 (by unfold lodF; omega)).trans ((eqp_g f01 (by omega)).trans hw)⟩ hz (by omega) hNN (fun hm σ4 s4 x7 y3 nW nT l4 y2 f4 => ?_) (fun hm => by omega)
      rw [my_kI_v]
      unfold ys_168_129
      exact hQb cT σ4 s4.1 s4.2.2 y3 l4 y2 (eqp_tr f03 (eqp_mo f4 (fun c k hh => by unfold anF at hh; unfold rvF; omega)))
  refine ys_168 ?_
  unfold ys_168_0
  refine c_3d (i := 2) hD (by omega) rfl (by omega) ?_
  rw [my_kI_v]
  have b2 := b8_lt (D 2)
  have b94 := b8_lt (D 8194)
  have l8 := eD_lt (D := D) (a := 8192)
  have l0' := eD_lt (D := D) (a := 0)
  have rest : ∀ (p : Bool), p = decide (b8 (D 2) = 1) → ys_168_17 e d (some rv) (bI p) κ σ Q := by
    intro p hp
    unfold ys_168_17
    refine c_3d (i := 8194) hD (by omega) rfl (by omega) ?_
    rw [my_kI_v]
    have rest2 : ∀ (q : Bool), q = decide (b8 (D 8194) = 1) → ys_168_37 e d (some rv) (bI p) (bI q) κ σ Q := by
      intro q hq
      unfold ys_168_37
      refine c_12d (i := 8192) hD (by omega) rfl (by omega) ?_
      rw [my_kI_v]
      refine c_12d (i := 0) hD (by omega) rfl (by omega) ?_
      rw [my_kI_v]
      have rest3 : ∀ (r : Bool), r = decide (eD D 0 < eD D 8192) → ys_168_64 e d (some rv) (bI p) (bI q) (bI r) κ σ Q := by
        intro r hr
        unfold ys_168_64 ys_168_80 ys_168_84
        have cq : selH D = if q = true ∧ (¬ p = true ∨ r = true) then 1 else 0 := by
          unfold selH
          rw [hq, hp, hr]
          simp only [decide_eq_true_eq]
        rw [hs] at cq
        cases q with
        | false =>
          rw [if_pos (show bI false = 0 from rfl)]
          rw [if_neg (by simp)] at cq
          subst cq
          exact key
        | true =>
          rw [if_neg (show ¬ bI true = 0 by decide)]
          cases p with
          | false =>
            rw [if_pos (show bI false = 0 from rfl)]
            rw [if_pos (by simp)] at cq
            subst cq
            exact key
          | true =>
            rw [if_neg (show ¬ bI true = 0 by decide)]
            cases r with
            | false =>
              rw [if_pos (show bI false = 0 from rfl)]
              rw [if_neg (by simp)] at cq
              subst cq
              exact key
            | true =>
              rw [if_neg (show ¬ bI true = 0 by decide)]
              rw [if_pos (by simp)] at cq
              subst cq
              exact key
      by_cases c3 : eD D 0 < eD D 8192
      · rw [if_pos ((oN_lt (by omega) (by omega)).mpr c3)]
        exact rest3 true (decide_eq_true c3).symm
      · rw [if_neg (fun hh => c3 ((oN_lt (by omega) (by omega)).mp hh))]
        exact rest3 false (decide_eq_false c3).symm
    by_cases c2 : b8 (D 8194) = 1
    · rw [c2, if_pos (show Int32.ofNat 1 = 1 from rfl)]
      exact rest2 true (decide_eq_true c2).symm
    · rw [if_neg (fun hh => c2 ((oN_e1 (b := 1) (c := 1) rfl (by omega) (by omega)).mp hh))]
      exact rest2 false (decide_eq_false c2).symm
  by_cases c1 : b8 (D 2) = 1
  · rw [c1, if_pos (show Int32.ofNat 1 = 1 from rfl)]
    exact rest true (decide_eq_true c1).symm
  · rw [if_neg (fun hh => c1 ((oN_e1 (b := 1) (c := 1) rfl (by omega) (by omega)).mp hh))]
    exact rest false (decide_eq_false c1).symm
theorem f_332 (hU : nmU As) (ld : LD As I rv σ) (hc : CUT D h ep E T M) (hM : M + 1 < 65535) (hD : DR D σ) (hw : σ.1 498 87 = w) (hd : 7 ≤ d) (hNN : N = cpA As E 1000 (cnK As 3) 0 []) (hQa : T = [] → ∀ σ', DR D σ' → σ'.1 498 87 = w → σ'.1 498 89 = 0 → σ'.1 498 83 = Int32.ofNat h → σ'.1 498 84 = Int32.ofNat ep → LgR E [] σ' → eqp rnwF σ σ' → Q (.inl none) κ σ') (hQb : ¬ T = [] → ∀ σ', DR (rnD D h ep (en N 0) (nbk (en N 0) + 2)) σ' → σ'.1 498 87 = w + Int32.ofNat (nbk (en N 0) + 2) → σ'.1 498 89 = 0 → σ'.1 498 83 = Int32.ofNat (1 - h) → σ'.1 498 84 = Int32.ofNat (nxE D h ep) → LgR N [] σ' → eqp rnwF σ σ' → Q (.inl none) κ σ') : my_M e d 332 [.inr (.inr (some 498))] κ σ Q := by
  obtain ⟨d, rfl⟩ := dS 1 (show 1 ≤ d by omega)
  obtain ⟨hk, hW, hT, ht, hl, haT⟩ := hc
  have hkk := hk
  obtain ⟨⟨hh1, e1, e2, e3⟩, k1, k2, k3, k4, k5, k6⟩ := hk
  have hrv := ld.2.2.1
  have h12 : cnK As 3 ≤ 12 := ld.1.1 3
  have hBl : (en E 0 ++ T).length = els E + T.length := by rw [List.length_append, en_l]
  refine ys_332 ?_
  unfold ys_332_0
  have f0 : eqp (fun c k => c = 498 ∧ (k = 88 ∨ k = 89)) σ (my_uI (my_uI σ 498 89 0) 498 88 1000000) := eqp_I (eqp_I eqp_rf ⟨rfl, Or.inr rfl⟩) ⟨rfl, Or.inl rfl⟩
  have g9 : (my_uI (my_uI σ 498 89 0) 498 88 1000000).1 498 89 = 0 := by rw [my_uI_1, if_neg (by omega)]; exact uI_s
  have g8 : (my_uI (my_uI σ 498 89 0) 498 88 1000000).1 498 88 = 1000000 := uI_s
  generalize my_uI (my_uI σ 498 89 0) 498 88 1000000 = σ1 at f0 g9 g8 ⊢
  have hD1 : DR D σ1 := DR_o hD f0 (fun c k hh => by omega)
  refine f_328 (M := M) (by omega) hkk hD1 (by omega) (fun σ2 l2 x83 x84 f2 => ?_)
  rw [my_k0_v]
  have lr : LgR E T σ2 := lgB_R.mp l2
  refine r_284 hW lr hl ht (by omega) (fun σ3 p3 x95 f3 => ?_)
  rw [my_k0_v]
  have lr3 : LgR E T σ3 := LgR_o lr f3 (fun c k hh => by unfold plF at hh; omega)
  have f03 : eqp (fun c k => (c = 498 ∧ (k = 88 ∨ k = 89)) ∨ rrlF c k ∨ plF c k) σ σ3 := eqp_tr (eqp_mo f0 (fun c k hh => Or.inl hh)) (eqp_tr (eqp_mo f2 (fun c k hh => Or.inr (Or.inl hh))) (eqp_mo f3 (fun c k hh => Or.inr (Or.inr hh))))
  have F3 : eqp rnwF σ σ3 := eqp_mo f03 (fun c k hh => by
    rcases hh with hh | hh | hh
    · exact Or.inr (Or.inl (by unfold drF; omega))
    · exact Or.inr (Or.inr (Or.inl hh))
    · exact Or.inr (Or.inr (Or.inr hh)))
  have y9 : σ3.1 498 89 = 0 := (eqp_g f3 (by unfold plF; omega)).trans ((eqp_g f2 (by unfold rrlF; omega)).trans g9)
  have y8 : σ3.1 498 88 = 1000000 := (eqp_g f3 (by unfold plF; omega)).trans ((eqp_g f2 (by unfold rrlF; omega)).trans g8)
  have y83 := (eqp_g f3 (show ¬ plF 498 83 by unfold plF; omega)).trans x83
  have y84 := (eqp_g f3 (show ¬ plF 498 84 by unfold plF; omega)).trans x84
  have y87 : σ3.1 498 87 = w := (eqp_g f03 (by unfold rrlF plF; omega)).trans hw
  have hD3 : DR D σ3 := DR_o hD f03 (fun c k hh => by unfold rrlF plF at hh; omega)
  rw [x95, lr3.1]
  by_cases cT : T = []
  · subst cT
    rw [List.length_nil, Nat.add_zero, if_neg (fun hh => by have := (oN_lt (by omega) (by omega)).mp hh; omega)]
    unfold ys_332_44
    exact hQa rfl σ3 hD3 y87 y9 y83 y84 lr3 F3
  · have hT1 : 1 ≤ T.length := by
      cases T with
      | nil => exact absurd rfl cT
      | cons a r => rw [List.length_cons]; omega
    rw [if_pos ((oN_lt (by omega) (by omega)).mpr (by omega))]
    have f4 : eqp (fun c k => c = 498 ∧ k = 86) σ3 (my_uI σ3 498 86 (Int32.ofNat (els E))) := eqp_I eqp_rf ⟨rfl, rfl⟩
    have lr4 : LgR E [] (my_uI σ3 498 86 (Int32.ofNat (els E))) := ⟨by rw [uI_s]; rfl, fun i x hx => (eqp_g f4 (by omega)).trans (lr3.2 i x (by
      rw [List.append_nil] at hx
      rw [List.getElem?_append_left (List.getElem?_eq_some_iff.mp hx).1]
      exact hx))⟩
    generalize my_uI σ3 498 86 (Int32.ofNat (els E)) = σ4 at f4 lr4 ⊢
    have F4 : eqp rnwF σ σ4 := eqp_tr F3 (eqp_mo f4 (fun c k hh => Or.inr (Or.inr (Or.inl (by unfold rrlF; omega)))))
    have ld4 : LD As I rv σ4 := LD_o (LD_30 ld) ld (eqp_tr f03 (eqp_mo f4 (fun c k hh => Or.inr (Or.inl (by unfold rrlF; omega))))) (fun c k hh => by unfold rrlF plF at hh; unfold coF; omega)
    have hNok : CPI E N (tSn As (0 + cnK As 3)) := by rw [hNN]; exact cpA_ok hU hW hT _ _ _ (by omega) CPI_0
    have hN7 := (CPI_W hW hNok).2
    have hNl : (en N 0).length = els N := en_l
    have hbk : nbk (en N 0) ≤ 127 := by unfold nbk; omega
    refine f_319 (D := D) (n := 1000000) (w := w) (x := 1000) (B := en E 0 ++ T) (N := N) (v1 := Int32.ofInt (-1)) hU ld4 hW hT lr4 (PrR_o p3 f4 (fun c k hh => by omega)) (by omega) hkk hM (by omega) ⟨DR_o hD3 f4 (fun c k hh => by omega), (eqp_g f4 (by omega)).trans y8, (eqp_g f4 (by omega)).trans y87⟩ ((eqp_g f4 (by omega)).trans y9) ((eqp_g f4 (by omega)).trans y83) ((eqp_g f4 (by omega)).trans y84) (fun t ht2 => ⟨fun hh => ?_, fun hh => by omega⟩) (by omega) hNN (fun hm σ5 s5 z9 z83 z84 nW nT l5 p5 f5 => ?_) (fun hm => by omega)
    · exfalso
      have := congrArg Int32.toInt hh
      rw [oN_i (by omega), show (Int32.ofInt (-1)).toInt = -1 from rfl] at this
      omega
    · rw [my_k0_v]
      unfold ys_332_44
      exact hQb cT σ5 s5.1 s5.2.2 z9 z83 z84 l5 (eqp_tr F4 f5)
end MRC
