
/-! ===== the class: which slot ends next; the recording ===== -/
def TST (As : List Ri) (pl : List Sp) : Prop := ∀ (i : Nat) p, pl[i]? = some p → (∃ a, As[p.1]? = some a ∧ riF a = 4) ∧ p.2.1 < 64
section MRX
variable {As : List Ri} {I : List It} {Z : Nat → Ms} {pl : List Sp} {v3 : Int32}
theorem rnA_ok (hU : nmU As) (hB : itsB As) (hZ : RZ As I Z) (ht : TST As pl) : ∀ (f M : Nat) (S : KSt) (st : Nat → Nat) (md le : Int32), M + f + 1 < 65535 → KP S M → ((rnA As I v3 Z pl f S st md le).2.2.2.2 = false → KP (rnA As I v3 Z pl f S st md le).1 (M + f)) ∧ ((rnA As I v3 Z pl f S st md le).2.2.2.2 = true → KX (rnA As I v3 Z pl f S st md le).1 (M + f))
  | 0, M, S, st, md, le, hM, h => ⟨fun _ => h, fun hh => by cases hh⟩
  | f + 1, M, S, st, md, le, hM, h => by
    have stop : ((S, st, md, le, false) : KSt × (Nat → Nat) × Int32 × Int32 × Bool).2.2.2.2 = false → KP S (M + (f + 1)) := fun _ => KP_M (by omega) (by omega) h
    rw [rnA]
    cases hn : nxs pl st pl.length with
    | none => exact ⟨stop, fun hh => by cases hh⟩
    | some i =>
      dsimp only
      cases hp : pl[i]? with
      | none => exact ⟨stop, fun hh => by cases hh⟩
      | some p =>
        dsimp only
        obtain ⟨⟨a, ha, h4⟩, _⟩ := ht i p hp
        obtain ⟨_, ⟨en, hen6, hen⟩, hck⟩ := hZ p.1 a ha h4
        have hk := kp_ok (I := I) (v3 := v3) hU hB (List.getElem?_eq_some_iff.mp ha).1 hen hen6 hck (show M + 1 < 65535 by omega) h
        by_cases c1 : (kp As I v3 p.1 (Z p.1) S).1 = 1
        · rw [if_pos c1]
          rcases hk with ⟨_, hk⟩ | ⟨hk, _⟩
          · have := rnA_ok hU hB hZ ht f (M + 1) (kp As I v3 p.1 (Z p.1) S).2 (fun j => if j = i then 2 else st j) (md + 1) p.2.2.2 (by omega) hk
            rw [show M + (f + 1) = M + 1 + f by omega]
            exact this
          · omega
        · rw [if_neg c1]
          by_cases c2 : (kp As I v3 p.1 (Z p.1) S).1 = 2
          · rw [if_pos c2]
            rcases hk with ⟨hk, _⟩ | ⟨_, hk⟩
            · omega
            · exact ⟨fun hh => (by cases hh), fun _ => KX_M (by omega) (by omega) hk⟩
          · rw [if_neg c2]
            rcases hk with ⟨_, hk⟩ | ⟨hk, _⟩
            · have := rnA_ok hU hB hZ ht f (M + 1) (kp As I v3 p.1 (Z p.1) S).2 (fun j => if j = i then 1 else st j) md le (by omega) hk
              rw [show M + (f + 1) = M + 1 + f by omega]
              exact this
            · omega
end MRX
section MRV
variable {As : List Ri} {I : List It} {rv W : Nat} {e : my_E} {d : Nat} {κ : my_K} {σ σ' : my_S} {Q : my_O → my_K → my_S → Prop} {P : Nat → Nat} {pl : List Sp} {st : Nat → Nat} {Z : Nat → Ms} {v3 : Int32}
theorem CPL_o {F : Nat → Nat → Prop} (h : CPL rv W Z P pl st σ) (f : eqp F σ σ') (hF : ∀ c k, F c k → ¬ (62 ≤ c ∧ c ≤ 88)) : CPL rv W Z P pl st σ' := by
  obtain ⟨h1, h2, h3, h4, h5, h6, h7⟩ := h
  refine ⟨h1, SLr_o h2 f (fun c k hh => by have := hF c k hh; omega), (eqp_g f (fun hh => by have := hF _ _ hh; omega)).trans h3, h4, (eqp_g f (fun hh => by have := hF _ _ hh; omega)).trans h5, (eqp_g f (fun hh => by have := hF _ _ hh; omega)).trans h6, fun i p hp => ?_⟩
  have hi := (List.getElem?_eq_some_iff.mp hp).1
  obtain ⟨b1, b2, b3, b4⟩ := slo_b h1 (show i < 12 by omega)
  obtain ⟨q1, q2, q3⟩ := h7 i p hp
  exact ⟨SlF_o q1 f (fun c k hh => by have := hF c k hh; omega), (eqp_g f (fun hh => by have := hF _ _ hh; omega)).trans q2, (eqp_g f (fun hh => by have := hF _ _ hh; omega)).trans q3⟩
theorem c_148 (h : CPL rv W Z P pl st σ) (ht : TST As pl) (hd : 1 ≤ d) (hx : nxs pl st pl.length = none → Q (.inl (some (.inr (.inr none)))) κ σ) (hQ : ∀ i, nxs pl st pl.length = some i → ∀ σ', σ'.1 (P i) 5 = 1 → eqp (fun c k => c = P i ∧ k = 5) σ σ' → Q (.inl (some (.inr (.inr (some (P i)))))) κ σ') : my_M e d 148 [.inr (.inr (some 62))] κ σ Q := by
  obtain ⟨d, rfl⟩ := dS 1 hd
  obtain ⟨h1, h2, h3, h4, h5, h6, h7⟩ := h
  refine ys_148 ?_
  unfold ys_148_0
  have lp : ∀ (m' m : Nat), m + m' = pl.length → ys_148_4 e d ((nxs pl st m).map P) (Int32.ofNat m) κ σ Q := by
    intro m'
    induction m' with
    | zero =>
      intro m hm
      have : m = pl.length := by omega
      subst this
      unfold ys_148_4
      rw [h3, if_neg (fun hh => by have := (oN_lt (by omega) (by omega)).mp hh; omega)]
      unfold ys_148_80
      cases hn : nxs pl st pl.length with
      | none =>
        rw [Option.map_none, if_pos rfl]
        unfold ys_148_89
        exact hx hn
      | some i =>
        obtain ⟨_, _, hi⟩ := nxs_b hn
        obtain ⟨b1, b2, b3, b4⟩ := slo_b h1 (show i < 12 by omega)
        rw [Option.map_some, if_neg (by simp)]
        refine ⟨_, rfl, b3, ?_⟩
        unfold ys_148_89
        exact hQ i hn _ uI_s (eqp_I eqp_rf ⟨rfl, rfl⟩)
    | succ m' ih =>
      intro m hm
      have hp := List.getElem?_eq_getElem (show m < pl.length by omega)
      generalize pl[m] = p at hp
      obtain ⟨b1, b2, b3, b4⟩ := slo_b h1 (show m < 12 by omega)
      obtain ⟨q1, q2, q3⟩ := h7 m p hp
      have key := ih (m + 1) (by omega)
      have hw := (ht m p hp).2
      unfold ys_148_4
      rw [h3, if_pos ((oN_lt (by omega) (by omega)).mpr (by omega)), if_pos ((oN_lt1 (b := 12) (c := 12) rfl (by omega) (by omega)).mpr (by omega)), oN_n (by omega), h2 m (by omega)]
      refine ⟨bdk (by omega) (by omega), _, rfl, b3, ?_⟩
      rw [q2]
      unfold nxs at key
      rw [hp] at key
      dsimp only at key
      by_cases cs : st m = 0
      · rw [if_pos cs] at key
        rw [if_pos cs, if_pos rfl]
        cases hn : nxs pl st m with
        | none =>
          rw [hn] at key
          rw [Option.map_none, if_pos rfl]
          unfold ys_148_72 ys_148_74
          rw [oN_s]
          exact ys_148_4_ok key
        | some j =>
          obtain ⟨_, _, hj⟩ := nxs_b hn
          have hq := List.getElem?_eq_getElem hj
          generalize pl[j] = q at hq
          have hwq := (ht j q hq).2
          obtain ⟨j1, j2, j3, j4⟩ := slo_b h1 (show j < 12 by omega)
          obtain ⟨r1, _, _⟩ := h7 j q hq
          rw [hn] at key
          dsimp only at key
          rw [hq] at key
          dsimp only at key
          unfold ahd at key
          rw [Option.map_some, if_neg (by simp)]
          refine ⟨_, rfl, b3, _, rfl, j3, ?_⟩
          rw [q1.2.2.2, r1.2.2.2]
          by_cases c1 : p.2.2.2 < q.2.2.2
          · rw [if_pos c1]
            rw [if_pos (by simp [c1])] at key
            unfold ys_148_72 ys_148_74
            rw [oN_s]
            exact ys_148_4_ok key
          · rw [if_neg c1]
            refine ⟨_, rfl, b3, _, rfl, j3, ?_⟩
            rw [q1.2.2.2, r1.2.2.2]
            by_cases c2 : p.2.2.2 = q.2.2.2
            · rw [if_pos c2]
              refine ⟨_, rfl, b3, _, rfl, j3, ?_⟩
              rw [q1.2.1, r1.2.1]
              by_cases c3 : p.2.1 < q.2.1
              · rw [if_pos ((oN_lt (by omega) (by omega)).mpr c3)]
                rw [if_pos (by simp [c2, c3])] at key
                unfold ys_148_72 ys_148_74
                rw [oN_s]
                exact ys_148_4_ok key
              · rw [if_neg (fun hh => c3 ((oN_lt (by omega) (by omega)).mp hh))]
                rw [if_neg (by simp [c1, c3])] at key
                unfold ys_148_74
                rw [oN_s]
                exact ys_148_4_ok key
            · rw [if_neg c2]
              rw [if_neg (by simp [c1, c2])] at key
              unfold ys_148_74
              rw [oN_s]
              exact ys_148_4_ok key
      · rw [if_neg cs] at key
        rw [if_neg cs, if_neg (by decide)]
        unfold ys_148_74
        rw [oN_s]
        exact ys_148_4_ok key
  exact ys_148_4_ok (lp pl.length 0 (Nat.zero_add _))
/-- a slot was asked for -/
theorem CPL_6 {i v : Nat} (h : CPL rv W Z P pl st σ) (hi : i < pl.length) (hv : v = 1 ∨ v = 2) (h5 : σ'.1 (P i) 5 = 1) (h6 : σ'.1 (P i) 6 = if v = 2 then 1 else 0) (f : eqp (fun c k => (c = P i ∧ (k = 5 ∨ k = 6)) ∨ ¬ (62 ≤ c ∧ c ≤ 88)) σ σ') : CPL rv W Z P pl (fun j => if j = i then v else st j) σ' := by
  obtain ⟨h1, h2, h3, h4, h5', h6', h7⟩ := h
  obtain ⟨b1, b2, b3, b4⟩ := slo_b h1 (show i < 12 by omega)
  refine ⟨h1, SLr_o h2 f (fun c k hh => by omega), (eqp_g f (by omega)).trans h3, h4, (eqp_g f (by omega)).trans h5', (eqp_g f (by omega)).trans h6', fun j p hp => ?_⟩
  have hj := (List.getElem?_eq_some_iff.mp hp).1
  obtain ⟨q1, q2, q3⟩ := h7 j p hp
  obtain ⟨j1, j2, j3, j4⟩ := slo_b h1 (show j < 12 by omega)
  by_cases c : j = i
  · subst c
    refine ⟨SlF_o q1 f (fun c k hh => by omega), ?_, ?_⟩
    · show σ'.1 (P j) 5 = if (if j = j then v else st j) = 0 then 0 else 1
      rw [h5, if_pos (show j = j from rfl), if_neg (by omega)]
    · show σ'.1 (P j) 6 = if (if j = j then v else st j) = 2 then 1 else 0
      rw [h6, if_pos (show j = j from rfl)]
  · have hne : P j ≠ P i := fun hh => c (h1.2 j i (by omega) (by omega) hh)
    refine ⟨SlF_o q1 f (fun c k hh => by omega), ?_, ?_⟩
    · show σ'.1 (P j) 5 = if (if j = i then v else st j) = 0 then 0 else 1
      rw [if_neg c]; exact (eqp_g f (by omega)).trans q2
    · show σ'.1 (P j) 6 = if (if j = i then v else st j) = 2 then 1 else 0
      rw [if_neg c]; exact (eqp_g f (by omega)).trans q3
def r36F (c k : Nat) : Prop := kpF c k ∨ (65 ≤ c ∧ c ≤ 88) ∨ (c = 32 ∧ k = 12)
theorem c_36l (hU : nmU As) (ld : LD As I rv σ) (hZ : RZ As I Z) (ht : TST As pl) (h10 : σ.1 32 10 = v3) (hd : 9 ≤ d) : ∀ (f M : Nat) (S : KSt) (st : Nat → Nat) (md le : Int32) (σ' : my_S), M + f + 1 < 65535 → unh st pl.length = f → f ≤ pl.length → KP S M → KC S σ' → CPL rv W Z P pl st σ' → σ'.1 89 7 = 0 → σ'.1 89 5 = σ.1 89 5 + md → σ'.1 32 12 = le → eqp r36F σ σ' → ((rnA As I v3 Z pl f S st md le).2.2.2.2 = false → ∀ σ2, KC (rnA As I v3 Z pl f S st md le).1 σ2 → CPL rv W Z P pl (rnA As I v3 Z pl f S st md le).2.1 σ2 → σ2.1 89 7 = 0 → σ2.1 89 5 = σ.1 89 5 + (rnA As I v3 Z pl f S st md le).2.2.1 → σ2.1 32 12 = (rnA As I v3 Z pl f S st md le).2.2.2.1 → eqp r36F σ σ2 → ys_36_133 e d (rnA As I v3 Z pl f S st md le).2.2.1 κ σ2 Q) → ((rnA As I v3 Z pl f S st md le).2.2.2.2 = true → ∀ σ2, WSc (kD (rnA As I v3 Z pl f S st md le).1) (kN (rnA As I v3 Z pl f S st md le).1) (kW (rnA As I v3 Z pl f S st md le).1) σ2 → CPL rv W Z P pl (rnA As I v3 Z pl f S st md le).2.1 σ2 → σ2.1 89 7 = 1 → σ2.1 89 5 = σ.1 89 5 + (rnA As I v3 Z pl f S st md le).2.2.1 → σ2.1 32 12 = (rnA As I v3 Z pl f S st md le).2.2.2.1 → eqp r36F σ σ2 → ys_36_133 e d (rnA As I v3 Z pl f S st md le).2.2.1 κ σ2 Q) → ys_36_53 e d md (Int32.ofNat (pl.length - f)) κ σ' Q := by
  have hB := ld.1
  have hrv := ld.2.2.1
  intro f
  induction f with
  | zero =>
    intro M S st md le σ' hM hu hf hP hK hC h7 h5 h12 fr hQa hQb
    obtain ⟨c1, c2, c3, c4, c5, c6, c7⟩ := hC
    unfold ys_36_53
    rw [c3, Nat.sub_zero, if_neg (fun hh => by have := (oN_lt (by omega) (by omega)).mp hh; omega)]
    exact hQa rfl σ' hK ⟨c1, c2, c3, c4, c5, c6, c7⟩ h7 h5 h12 fr
  | succ f ih =>
    intro M S st md le σ' hM hu hf hP hK hC h7 h5 h12 fr hQa hQb
    have hCC := hC
    obtain ⟨c1, c2, c3, c4, c5, c6, c7⟩ := hC
    have hnn : nxs pl st pl.length ≠ none := fun hh => by
      have := (nxs_0 (Nat.le_refl _)).mp hh
      omega
    unfold ys_36_53
    rw [c3, if_pos ((oN_lt (by omega) (by omega)).mpr (by omega)), h7, if_pos rfl]
    refine c_148 hCC ht (by omega) (fun hh => absurd hh hnn) (fun i hi σ1 g5 f1 => ?_)
    obtain ⟨_, hsi, hil⟩ := nxs_b hi
    have hp := List.getElem?_eq_getElem hil
    generalize pl[i] = p at hp
    obtain ⟨⟨a, ha, h4⟩, hw⟩ := ht i p hp
    obtain ⟨_, ⟨en, hen6, hen⟩, hck⟩ := hZ p.1 a ha h4
    obtain ⟨b1, b2, b3, b4⟩ := slo_b c1 (show i < 12 by omega)
    obtain ⟨sf, s5, s6⟩ := c7 i p hp
    rw [if_neg (by omega)] at s6
    have rx : ∀ c k, r36F c k → (94 ≤ c ∧ c ≤ 107) ∨ c = 92 ∨ c = 93 ∨ c = 90 ∨ (c = 89 ∧ 3 ≤ k ∧ k ≤ 7) ∨ (65 ≤ c ∧ c ≤ 88) ∨ (c = 32 ∧ k = 12) := fun c k hh => by unfold r36F kpF at hh; omega
    have fr1 : eqp r36F σ σ1 := eqp_tr fr (eqp_mo f1 (fun c k hh => by unfold r36F; omega))
    have ld1 : LD As I rv σ1 := LD_o (LD_30 ld) ld fr1 (fun c k hh => by have := rx c k hh; unfold coF; omega)
    have k1 : KC S σ1 := KC_o hK f1 (fun c k hh => by omega)
    have sl1 : SlC rv (P i) p.1 (Z p.1) σ1 := (SlF_o sf f1 (fun c k hh => by omega)).1
    have t10 : σ1.1 32 10 = v3 := (eqp_g fr1 (fun hh => by have := rx _ _ hh; omega)).trans h10
    have hrn : rnA As I v3 Z pl (f + 1) S st md le = (if (kp As I v3 p.1 (Z p.1) S).1 = 1 then rnA As I v3 Z pl f (kp As I v3 p.1 (Z p.1) S).2 (fun j => if j = i then 2 else st j) (md + 1) p.2.2.2 else if (kp As I v3 p.1 (Z p.1) S).1 = 2 then ((kp As I v3 p.1 (Z p.1) S).2, (fun j => if j = i then 1 else st j), md, le, true) else rnA As I v3 Z pl f (kp As I v3 p.1 (Z p.1) S).2 (fun j => if j = i then 1 else st j) md le) := by
      rw [rnA, hi]
      dsimp only
      rw [hp]
    rw [hrn] at hQa hQb
    have hkok := kp_ok (I := I) (v3 := v3) hU hB (List.getElem?_eq_some_iff.mp ha).1 hen hen6 hck (show M + 1 < 65535 by omega) hP
    have hun : ∀ v, v ≠ 0 → unh (fun j => if j = i then v else st j) pl.length = f := fun v hv => by
      have := unh_u (m := pl.length) hv hsi
      rw [if_pos hil] at this
      omega
    rw [my_kA_v, if_neg (by simp), ld1.2.2.2.2.2.1, t10]
    have e8 : pl.length - (f + 1) + 1 = pl.length - f := by omega
    refine c_160 (M := M) hU ld1 k1 hP (by omega) ⟨b1, by omega⟩ sl1 ha h4 hen hen6 hck (by omega) (fun q1 σ2 kc2 x7 x5 f2 => ?_) (fun q0 σ2 kc2 x7 x5 f2 => ?_) (fun q2 σ2 kc2 x7 x5 f2 => ?_)
    · rw [my_kI_v, if_neg (by decide)]
      rw [if_pos q1] at hQa hQb
      refine ⟨_, rfl, b3, _, rfl, b3, ?_⟩
      unfold ys_36_127
      rw [oN_s, e8]
      have y4 : (my_uI σ2 (P i) 6 1).1 (P i) 4 = p.2.2.2 := by
        rw [my_uI_1, if_neg (by omega), eqp_g f2 (by unfold kpF; omega), eqp_g f1 (by omega)]
        exact sf.2.2.2
      rw [y4]
      have f3 : eqp (fun c k => (c = P i ∧ k = 6) ∨ (c = 32 ∧ k = 12)) σ2 (my_uI (my_uI σ2 (P i) 6 1) 32 12 p.2.2.2) := eqp_I (eqp_I eqp_rf (Or.inl ⟨rfl, rfl⟩)) (Or.inr ⟨rfl, rfl⟩)
      have y6 : (my_uI (my_uI σ2 (P i) 6 1) 32 12 p.2.2.2).1 (P i) 6 = 1 := by rw [my_uI_1, if_neg (by omega)]; exact uI_s
      have y12 : (my_uI (my_uI σ2 (P i) 6 1) 32 12 p.2.2.2).1 32 12 = p.2.2.2 := uI_s
      generalize my_uI (my_uI σ2 (P i) 6 1) 32 12 p.2.2.2 = σ3 at f3 y6 y12 ⊢
      have y5 : σ3.1 (P i) 5 = 1 := by rw [eqp_g f3 (by omega), eqp_g f2 (by unfold kpF; omega)]; exact g5
      rcases hkok with ⟨_, hk⟩ | ⟨hk, _⟩
      · have hc3 : CPL rv W Z P pl (fun j => if j = i then 2 else st j) σ3 := by
          -- first everything outside the crew, then the slot itself
          have hmid : eqp (fun c k => (c = P i ∧ (k = 5 ∨ k = 6)) ∨ ¬ (62 ≤ c ∧ c ≤ 88)) σ' σ3 := eqp_tr (eqp_mo f1 (fun c k hh => by omega)) (eqp_tr (eqp_mo f2 (fun c k hh => by unfold kpF at hh; omega)) (eqp_mo f3 (fun c k hh => by omega)))
          exact CPL_6 hCC hil (Or.inr rfl) y5 (by rw [if_pos rfl]; exact y6) hmid
        refine ys_36_53_ok (ih (M + 1) _ _ (md + 1) p.2.2.2 σ3 (by omega) (hun 2 (by omega)) (by omega) hk (KC_o kc2 f3 (fun c k hh => by omega)) hc3 ?_ ?_ y12 (eqp_tr fr1 (eqp_tr (eqp_mo f2 (fun c k hh => Or.inl hh)) (eqp_mo f3 (fun c k hh => by unfold r36F; omega)))) hQa hQb)
        · rw [eqp_g f3 (by omega), x7, eqp_g f1 (by omega)]; exact h7
        · rw [eqp_g f3 (by omega), x5, eqp_g f1 (by omega), h5, Int32.add_assoc]
      · omega
    · rw [my_kI_v, if_pos rfl]
      rw [if_neg (by omega), if_neg (by omega)] at hQa hQb
      unfold ys_36_127
      rw [oN_s, e8]
      have y5 : σ2.1 (P i) 5 = 1 := by rw [eqp_g f2 (by unfold kpF; omega)]; exact g5
      have y6 : σ2.1 (P i) 6 = 0 := by rw [eqp_g f2 (by unfold kpF; omega), eqp_g f1 (by omega)]; exact s6
      rcases hkok with ⟨_, hk⟩ | ⟨hk, _⟩
      · have hmid : eqp (fun c k => (c = P i ∧ (k = 5 ∨ k = 6)) ∨ ¬ (62 ≤ c ∧ c ≤ 88)) σ' σ2 := eqp_tr (eqp_mo f1 (fun c k hh => by omega)) (eqp_mo f2 (fun c k hh => by unfold kpF at hh; omega))
        refine ys_36_53_ok (ih (M + 1) _ _ md le σ2 (by omega) (hun 1 (by omega)) (by omega) hk kc2 (CPL_6 hCC hil (Or.inl rfl) y5 (by rw [if_neg (by decide)]; exact y6) hmid) ?_ ?_ ?_ (eqp_tr fr1 (eqp_mo f2 (fun c k hh => Or.inl hh))) hQa hQb)
        · rw [x7, eqp_g f1 (by omega)]; exact h7
        · rw [x5, eqp_g f1 (by omega)]; exact h5
        · rw [eqp_g f2 (by unfold kpF; omega), eqp_g f1 (by omega)]; exact h12
      · omega
    · rw [my_kI_v, if_pos rfl]
      rw [if_neg (by omega), if_pos q2] at hQb
      unfold ys_36_127
      rw [oN_s, e8]
      have y5 : σ2.1 (P i) 5 = 1 := by rw [eqp_g f2 (by unfold kpF; omega)]; exact g5
      have y6 : σ2.1 (P i) 6 = 0 := by rw [eqp_g f2 (by unfold kpF; omega), eqp_g f1 (by omega)]; exact s6
      have hmid : eqp (fun c k => (c = P i ∧ (k = 5 ∨ k = 6)) ∨ ¬ (62 ≤ c ∧ c ≤ 88)) σ' σ2 := eqp_tr (eqp_mo f1 (fun c k hh => by omega)) (eqp_mo f2 (fun c k hh => by unfold kpF at hh; omega))
      have fin : ys_36_133 e d md κ σ2 Q := hQb rfl σ2 kc2 (CPL_6 hCC hil (Or.inl rfl) y5 (by rw [if_neg (by decide)]; exact y6) hmid) x7 (by rw [x5, eqp_g f1 (by omega)]; exact h5) (by rw [eqp_g f2 (by unfold kpF; omega), eqp_g f1 (by omega)]; exact h12) (eqp_tr fr1 (eqp_mo f2 (fun c k hh => Or.inl hh)))
      refine ys_36_53_ok ?_
      unfold ys_36_53
      rw [x7]
      by_cases c : Int32.ofNat (pl.length - f) < σ2.1 62 2
      · rw [if_pos c, if_neg (by decide)]
        exact fin
      · rw [if_neg c]
        exact fin
end MRV
