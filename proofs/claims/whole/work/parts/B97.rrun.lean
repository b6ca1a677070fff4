
/-! ===== the reference: the recording ===== -/
def RPL (As : List Ri) (Z : Nat → Ms) (pl : List Sp) (st : Nat → Nat) (σ : my_S) : Prop := σ.1 498 107 = Int32.ofNat pl.length ∧ pl.length ≤ 12 ∧ ∀ (i : Nat) p, pl[i]? = some p → SRf As Z i p σ ∧ σ.1 561 i = Int32.ofNat (st i) ∧ st i < 3
section MRN
variable {As : List Ri} {I : List It} {rv : Nat} {e : my_E} {d : Nat} {κ : my_K} {σ σ' : my_S} {Q : my_O → my_K → my_S → Prop} {pl : List Sp} {st : Nat → Nat} {Z : Nat → Ms} {v3 : Int32}
theorem RPL_o {F : Nat → Nat → Prop} (hB : itsB As) (h : RPL As Z pl st σ) (f : eqp F σ σ') (hF : ∀ c k, F c k → ¬ (557 ≤ c ∧ c ≤ 566) ∧ (c = 498 → k ≠ 107)) : RPL As Z pl st σ' := by
  obtain ⟨h1, h2, h3⟩ := h
  refine ⟨(eqp_g f (fun hh => by have := hF _ _ hh; omega)).trans h1, h2, fun i p hp => ?_⟩
  obtain ⟨q1, q2, q3⟩ := h3 i p hp
  exact ⟨SRf_o q1 f hB (fun c k hh => by have := hF c k hh; omega), (eqp_g f (fun hh => by have := hF _ _ hh; omega)).trans q2, q3⟩
theorem f_309 (h : RPL As Z pl st σ) (ht : TST As pl) (hd : 1 ≤ d) (hQ : Q (.inl (some (.inl (fkI (nxs pl st pl.length))))) κ σ) : my_M e d 309 [.inr (.inr (some 498))] κ σ Q := by
  obtain ⟨d, rfl⟩ := dS 1 hd
  obtain ⟨h1, h2, h3⟩ := h
  refine ys_309 ?_
  unfold ys_309_0
  have lp : ∀ (m' m : Nat), m + m' = pl.length → ys_309_4 e d (fkI (nxs pl st m)) (Int32.ofNat m) κ σ Q := by
    intro m'
    induction m' with
    | zero =>
      intro m hm
      have : m = pl.length := by omega
      subst this
      unfold ys_309_4
      rw [h1, if_neg (fun hh => by have := (oN_lt (by omega) (by omega)).mp hh; omega)]
      exact hQ
    | succ m' ih =>
      intro m hm
      have hp := List.getElem?_eq_getElem (show m < pl.length by omega)
      generalize pl[m] = p at hp
      obtain ⟨q1, q2, q3⟩ := h3 m p hp
      have key := ih (m + 1) (by omega)
      have hw := (ht m p hp).2
      have bm := bdk (k := m) (m := 12) (by omega) (by omega)
      unfold nxs at key
      rw [hp] at key
      dsimp only at key
      -- where it isn't asked for any more
      have skip : ∀ t0 : Int32, ¬ st m = 0 → ys_309_66 e d (fkI (nxs pl st m)) (Int32.ofNat m) t0 κ σ Q := fun t0 cs => by
        rw [if_neg cs] at key
        unfold ys_309_66
        rw [oN_n (by omega), q2, if_neg (fun hh => cs ((oN_e1 (b := 0) (c := 0) rfl (by omega) (by omega)).mp hh))]
        refine ⟨bm, ?_⟩
        unfold ys_309_84 ys_309_85
        rw [oN_s]
        exact ys_309_4_ok key
      have take : st m = 0 → (ys_309_4 e d (Int32.ofNat m) (Int32.ofNat (m + 1)) κ σ Q) → ys_309_61 e d (fkI (nxs pl st m)) (Int32.ofNat m) κ σ Q := fun cs kk => by
        unfold ys_309_61 ys_309_66
        rw [oN_n (by omega), q2, cs, if_pos (show Int32.ofNat 0 = 0 from rfl), if_neg (by decide)]
        refine ⟨bm, ?_⟩
        unfold ys_309_85
        rw [oN_s]
        exact ys_309_4_ok kk
      have keep : st m = 0 → (ys_309_4 e d (fkI (nxs pl st m)) (Int32.ofNat (m + 1)) κ σ Q) → ys_309_65 e d (fkI (nxs pl st m)) (Int32.ofNat m) κ σ Q := fun cs kk => by
        unfold ys_309_65 ys_309_66
        rw [oN_n (by omega), q2, cs, if_pos (show Int32.ofNat 0 = 0 from rfl), if_pos rfl]
        refine ⟨bm, ?_⟩
        unfold ys_309_84 ys_309_85
        rw [oN_s]
        exact ys_309_4_ok kk
      unfold ys_309_4
      rw [h1, if_pos ((oN_lt (by omega) (by omega)).mpr (by omega))]
      cases hn : nxs pl st m with
      | none =>
        rw [if_pos (show fkI none < 0 by decide)]
        rw [hn] at key skip take
        by_cases cs : st m = 0
        · rw [if_pos cs] at key
          exact take cs key
        · unfold ys_309_61
          exact skip 1 cs
      | some j =>
        obtain ⟨_, _, hj⟩ := nxs_b hn
        have hq := List.getElem?_eq_getElem hj
        generalize pl[j] = q at hq
        have hwq := (ht j q hq).2
        obtain ⟨r1, _, _⟩ := h3 j q hq
        have bj := bdk (k := j) (m := 12) (by omega) (by omega)
        rw [hn] at key skip take keep
        dsimp only at key
        rw [hq] at key
        dsimp only at key
        unfold ahd at key
        have ej : fkI (some j) = Int32.ofNat j := rfl
        rw [ej] at skip take keep ⊢
        rw [if_neg (oN_0 (by omega)), oN_n (show m < 2147483648 by omega), oN_n (show j < 2147483648 by omega), q1.2.2.2, r1.2.2.2, q1.2.1, r1.2.1]
        refine ⟨bm, bj, ?_⟩
        by_cases c1 : p.2.2.2 < q.2.2.2
        · rw [if_pos c1]
          by_cases cs : st m = 0
          · rw [if_pos cs, if_pos (by simp [c1])] at key
            exact take cs key
          · unfold ys_309_61
            exact skip 1 cs
        · rw [if_neg c1]
          refine ⟨bm, bj, ?_⟩
          by_cases c2 : p.2.2.2 = q.2.2.2
          · rw [if_pos c2]
            refine ⟨bm, bj, ?_⟩
            by_cases c3 : p.2.1 < q.2.1
            · rw [if_pos ((oN_lt (by omega) (by omega)).mpr c3)]
              by_cases cs : st m = 0
              · rw [if_pos cs, if_pos (by simp [c2, c3])] at key
                exact take cs key
              · unfold ys_309_61
                exact skip 1 cs
            · rw [if_neg (fun hh => c3 ((oN_lt (by omega) (by omega)).mp hh))]
              by_cases cs : st m = 0
              · rw [if_pos cs, if_neg (by simp [c1, c3])] at key
                exact keep cs key
              · unfold ys_309_65
                exact skip 0 cs
          · rw [if_neg c2]
            by_cases cs : st m = 0
            · rw [if_pos cs, if_neg (by simp [c1, c2])] at key
              exact keep cs key
            · unfold ys_309_65
              exact skip 0 cs
  exact ys_309_4_ok (lp pl.length 0 (Nat.zero_add _))
theorem RPL_6 {i v : Nat} (hB : itsB As) (h : RPL As Z pl st σ) (hi : i < pl.length) (hv : v < 3) (h5 : σ'.1 561 i = Int32.ofNat v) (f : eqp (fun c k => (c = 561 ∧ k = i) ∨ (¬ (557 ≤ c ∧ c ≤ 566) ∧ ¬ (c = 498 ∧ k = 107))) σ σ') : RPL As Z pl (fun j => if j = i then v else st j) σ' := by
  obtain ⟨h1, h2, h3⟩ := h
  refine ⟨(eqp_g f (by omega)).trans h1, h2, fun j p hp => ?_⟩
  obtain ⟨q1, q2, q3⟩ := h3 j p hp
  refine ⟨SRf_o q1 f hB (fun c k hh => by omega), ?_, ?_⟩
  · show σ'.1 561 j = Int32.ofNat (if j = i then v else st j)
    by_cases c : j = i
    · rw [if_pos c, c]
      exact h5
    · rw [if_neg c, eqp_g f (by omega)]
      exact q2
  · show (if j = i then v else st j) < 3
    by_cases c : j = i
    · rw [if_pos c]; exact hv
    · rw [if_neg c]; exact q3
def r82F (c k : Nat) : Prop := rpF c k ∨ c = 561 ∨ (c = 498 ∧ (k = 118 ∨ k = 119))
theorem rpF_c {c k : Nat} (hh : rpF c k) : (546 ≤ c ∧ c ≤ 556) ∨ (c = 498 ∧ (k = 83 ∨ k = 84 ∨ k = 86 ∨ k = 87 ∨ k = 88 ∨ k = 89 ∨ k = 90 ∨ k = 93 ∨ k = 95 ∨ k = 97 ∨ k = 99 ∨ k = 101 ∨ k = 104 ∨ k = 105)) := by
  rcases hh with hh | hh | hh
  · have := mkF_c hh; omega
  · have := rnwF_c hh; omega
  · unfold apF drF at hh; omega
theorem f_282l (hU : nmU As) (ld : LD As I rv σ) (hZ : RZ As I Z) (ht : TST As pl) (h65 : σ.1 498 65 = v3) (hd : 9 ≤ d) : ∀ (f M : Nat) (S : KSt) (st : Nat → Nat) (md le : Int32) (σ' : my_S), M + f + 1 < 65535 → unh st pl.length = f → KP S M → KR S σ' → RPL As Z pl st σ' → σ'.1 498 89 = 0 → σ'.1 498 118 = σ.1 498 118 + md → σ'.1 498 119 = le → eqp r82F σ σ' → ((rnA As I v3 Z pl f S st md le).2.2.2.2 = false → ∀ σ2, KR (rnA As I v3 Z pl f S st md le).1 σ2 → RPL As Z pl (rnA As I v3 Z pl f S st md le).2.1 σ2 → σ2.1 498 89 = 0 → σ2.1 498 118 = σ.1 498 118 + (rnA As I v3 Z pl f S st md le).2.2.1 → σ2.1 498 119 = (rnA As I v3 Z pl f S st md le).2.2.2.1 → eqp r82F σ σ2 → ys_282_205 e d (rnA As I v3 Z pl f S st md le).2.2.1 κ σ2 Q) → ((rnA As I v3 Z pl f S st md le).2.2.2.2 = true → ∀ σ2, WSr (kD (rnA As I v3 Z pl f S st md le).1) (kN (rnA As I v3 Z pl f S st md le).1) (kW (rnA As I v3 Z pl f S st md le).1) σ2 → RPL As Z pl (rnA As I v3 Z pl f S st md le).2.1 σ2 → σ2.1 498 89 = 1 → σ2.1 498 118 = σ.1 498 118 + (rnA As I v3 Z pl f S st md le).2.2.1 → σ2.1 498 119 = (rnA As I v3 Z pl f S st md le).2.2.2.1 → eqp r82F σ σ2 → ys_282_205 e d (rnA As I v3 Z pl f S st md le).2.2.1 κ σ2 Q) → ys_282_130 e d md (fkI (nxs pl st pl.length)) κ σ' Q := by
  have hB := ld.1
  have hrv := ld.2.2.1
  intro f
  induction f with
  | zero =>
    intro M S st md le σ' hM hu hP hK hC h9 h118 h119 fr hQa hQb
    rw [(nxs_0 (Nat.le_refl _)).mpr hu]
    unfold ys_282_130
    rw [if_pos (show fkI none < 0 by decide)]
    exact hQa rfl σ' hK hC h9 h118 h119 fr
  | succ f ih =>
    intro M S st md le σ' hM hu hP hK hC h9 h118 h119 fr hQa hQb
    have hCC := hC
    obtain ⟨c1, c2, c3⟩ := hC
    cases hi : nxs pl st pl.length with
    | none =>
      have := (nxs_0 (Nat.le_refl _)).mp hi
      omega
    | some i =>
      obtain ⟨_, hsi, hil⟩ := nxs_b hi
      have hp := List.getElem?_eq_getElem hil
      generalize pl[i] = p at hp
      obtain ⟨⟨a, ha, h4⟩, hw⟩ := ht i p hp
      obtain ⟨_, ⟨en, hen6, hen⟩, hck⟩ := hZ p.1 a ha h4
      obtain ⟨sf, s5, _⟩ := c3 i p hp
      have rx : ∀ c k, r82F c k → (546 ≤ c ∧ c ≤ 556) ∨ c = 561 ∨ (c = 498 ∧ (83 ≤ k ∧ k ≤ 105 ∨ k = 118 ∨ k = 119)) := fun c k hh => by
        rcases hh with hh | hh | hh
        · have := rpF_c hh; omega
        · omega
        · omega
      have ld' : LD As I rv σ' := LD_o (LD_30 ld) ld fr (fun c k hh => by have := rx c k hh; unfold coF; omega)
      have t65 : σ'.1 498 65 = v3 := (eqp_g fr (fun hh => by have := rx _ _ hh; omega)).trans h65
      have hrn : rnA As I v3 Z pl (f + 1) S st md le = (if (kp As I v3 p.1 (Z p.1) S).1 = 1 then rnA As I v3 Z pl f (kp As I v3 p.1 (Z p.1) S).2 (fun j => if j = i then 2 else st j) (md + 1) p.2.2.2 else if (kp As I v3 p.1 (Z p.1) S).1 = 2 then ((kp As I v3 p.1 (Z p.1) S).2, (fun j => if j = i then 1 else st j), md, le, true) else rnA As I v3 Z pl f (kp As I v3 p.1 (Z p.1) S).2 (fun j => if j = i then 1 else st j) md le) := by
        rw [rnA, hi]
        dsimp only
        rw [hp]
      rw [hrn] at hQa hQb
      have hkok := kp_ok (I := I) (v3 := v3) hU hB (List.getElem?_eq_some_iff.mp ha).1 hen hen6 hck (show M + 1 < 65535 by omega) hP
      have hun : ∀ v, v ≠ 0 → unh (fun j => if j = i then v else st j) pl.length = f := fun v hv => by
        have := unh_u (m := pl.length) hv hsi
        rw [if_pos hil] at this
        omega
      have bi := bdk (k := i) (m := 12) (by omega) (by omega)
      have ei : fkI (some i) = Int32.ofNat i := rfl
      unfold ys_282_130
      rw [ei, if_neg (oN_0 (by omega)), h9, if_pos rfl]
      refine f_310 (M := M) hU ld' hK hP (by omega) (by omega) sf.1 ha h4 hen hen6 hck t65 h9 (by omega) (fun q1 σ2 kr2 x9 f2 => ?_) (fun q0 σ2 kr2 x9 f2 => ?_) (fun q2 σ2 kr2 x9 f2 => ?_)
      · rw [my_kI_v, if_neg (by decide)]
        rw [if_pos q1] at hQa hQb
        unfold ys_282_166
        rw [oN_n (by omega), if_neg (by decide)]
        refine ⟨bi, bi, ?_⟩
        have e18 : (my_uI σ2 561 i 2).1 498 118 = σ.1 498 118 + md := by rw [my_uI_1, if_neg (by omega), eqp_g f2 (fun hh => by have := rpF_c hh; omega)]; exact h118
        have e60 : (my_uI σ2 561 i 2).1 560 i = p.2.2.2 := by rw [my_uI_1, if_neg (by omega), eqp_g f2 (fun hh => by have := rpF_c hh; omega)]; exact sf.2.2.2
        rw [e18, e60]
        have f3 : eqp (fun c k => (c = 561 ∧ k = i) ∨ (c = 498 ∧ (k = 118 ∨ k = 119))) σ2 (my_uI (my_uI (my_uI σ2 561 i 2) 498 118 (σ.1 498 118 + md + 1)) 498 119 p.2.2.2) := eqp_I (eqp_I (eqp_I eqp_rf (Or.inl ⟨rfl, rfl⟩)) (Or.inr ⟨rfl, Or.inl rfl⟩)) (Or.inr ⟨rfl, Or.inr rfl⟩)
        have y1 : (my_uI (my_uI (my_uI σ2 561 i 2) 498 118 (σ.1 498 118 + md + 1)) 498 119 p.2.2.2).1 561 i = 2 := by rw [my_uI_1, if_neg (by omega), my_uI_1, if_neg (by omega)]; exact uI_s
        have y18 : (my_uI (my_uI (my_uI σ2 561 i 2) 498 118 (σ.1 498 118 + md + 1)) 498 119 p.2.2.2).1 498 118 = σ.1 498 118 + (md + 1) := by rw [my_uI_1, if_neg (by omega), uI_s, Int32.add_assoc]
        have y19 : (my_uI (my_uI (my_uI σ2 561 i 2) 498 118 (σ.1 498 118 + md + 1)) 498 119 p.2.2.2).1 498 119 = p.2.2.2 := uI_s
        generalize my_uI (my_uI (my_uI σ2 561 i 2) 498 118 (σ.1 498 118 + md + 1)) 498 119 p.2.2.2 = σ3 at f3 y1 y18 y19 ⊢
        have hr3 : RPL As Z pl (fun j => if j = i then 2 else st j) σ3 := RPL_6 hB hCC hil (by omega) y1 (eqp_tr (eqp_mo f2 (fun c k hh => by have := rpF_c hh; omega)) (eqp_mo f3 (fun c k hh => by omega)))
        unfold ys_282_196
        refine f_309 hr3 ht (by omega) ?_
        rw [my_kI_v]
        rcases hkok with ⟨_, hk⟩ | ⟨hk, _⟩
        · exact ys_282_130_ok (ih (M + 1) _ _ (md + 1) p.2.2.2 σ3 (by omega) (hun 2 (by omega)) hk (KR_o kr2 f3 (fun c k hh => by omega)) hr3 ((eqp_g f3 (by omega)).trans x9) y18 y19 (eqp_tr fr (eqp_tr (eqp_mo f2 (fun c k hh => Or.inl hh)) (eqp_mo f3 (fun c k hh => by unfold r82F; omega)))) hQa hQb)
        · omega
      · rw [my_kI_v, if_pos rfl]
        rw [if_neg (by omega), if_neg (by omega)] at hQa hQb
        unfold ys_282_166
        rw [oN_n (by omega), if_pos rfl]
        refine ⟨bi, ?_⟩
        have f3 : eqp (fun c k => c = 561 ∧ k = i) σ2 (my_uI σ2 561 i 1) := eqp_I eqp_rf ⟨rfl, rfl⟩
        have y1 : (my_uI σ2 561 i 1).1 561 i = 1 := uI_s
        generalize my_uI σ2 561 i 1 = σ3 at f3 y1 ⊢
        have hr3 : RPL As Z pl (fun j => if j = i then 1 else st j) σ3 := RPL_6 hB hCC hil (by omega) y1 (eqp_tr (eqp_mo f2 (fun c k hh => by have := rpF_c hh; omega)) (eqp_mo f3 (fun c k hh => by omega)))
        unfold ys_282_196
        refine f_309 hr3 ht (by omega) ?_
        rw [my_kI_v]
        rcases hkok with ⟨_, hk⟩ | ⟨hk, _⟩
        · refine ys_282_130_ok (ih (M + 1) _ _ md le σ3 (by omega) (hun 1 (by omega)) hk (KR_o kr2 f3 (fun c k hh => by omega)) hr3 ((eqp_g f3 (by omega)).trans x9) ?_ ?_ (eqp_tr fr (eqp_tr (eqp_mo f2 (fun c k hh => Or.inl hh)) (eqp_mo f3 (fun c k hh => by unfold r82F; omega)))) hQa hQb)
          · rw [eqp_g f3 (by omega), eqp_g f2 (fun hh => by have := rpF_c hh; omega)]; exact h118
          · rw [eqp_g f3 (by omega), eqp_g f2 (fun hh => by have := rpF_c hh; omega)]; exact h119
        · omega
      · rw [my_kI_v, if_pos rfl]
        rw [if_neg (by omega), if_pos q2] at hQb
        unfold ys_282_166
        rw [oN_n (by omega), if_pos rfl]
        refine ⟨bi, ?_⟩
        have f3 : eqp (fun c k => c = 561 ∧ k = i) σ2 (my_uI σ2 561 i 1) := eqp_I eqp_rf ⟨rfl, rfl⟩
        have y1 : (my_uI σ2 561 i 1).1 561 i = 1 := uI_s
        generalize my_uI σ2 561 i 1 = σ3 at f3 y1 ⊢
        have hr3 : RPL As Z pl (fun j => if j = i then 1 else st j) σ3 := RPL_6 hB hCC hil (by omega) y1 (eqp_tr (eqp_mo f2 (fun c k hh => by have := rpF_c hh; omega)) (eqp_mo f3 (fun c k hh => by omega)))
        have x93 : σ3.1 498 89 = 1 := (eqp_g f3 (by omega)).trans x9
        have fin : ys_282_205 e d md κ σ3 Q := hQb rfl σ3 (WSr_o kr2 f3 (fun c k hh => by omega)) hr3 x93 (by rw [eqp_g f3 (by omega), eqp_g f2 (fun hh => by have := rpF_c hh; omega)]; exact h118) (by rw [eqp_g f3 (by omega), eqp_g f2 (fun hh => by have := rpF_c hh; omega)]; exact h119) (eqp_tr fr (eqp_tr (eqp_mo f2 (fun c k hh => Or.inl hh)) (eqp_mo f3 (fun c k hh => by unfold r82F; omega))))
        unfold ys_282_196
        refine f_309 hr3 ht (by omega) ?_
        rw [my_kI_v]
        refine ys_282_130_ok ?_
        unfold ys_282_130
        rw [x93]
        by_cases c : fkI (nxs pl (fun j => if j = i then 1 else st j) pl.length) < 0
        · rw [if_pos c]
          exact fin
        · rw [if_neg c, if_neg (by decide)]
          exact fin
end MRN
