/-! ===== the reference's expressions: memory ===== -/
theorem oN_e {a b : Nat} (ha : a < 2147483648) (hb : b < 2147483648) : Int32.ofNat a = Int32.ofNat b ↔ a = b := by
  constructor
  · intro h
    have := congrArg Int32.toInt h
    rw [oN_i ha, oN_i hb] at this
    omega
  · rintro rfl; rfl
theorem nmR_nil : nmR [] = 0 := rfl
abbrev Wt := Nat × List Nat × Nat × Nat
def fNo : Int32 := Int32.ofInt (-1)
theorem fNo_lt : fNo < 0 := by decide
def rwk (x : Rw) (j : Nat) (σ : my_S) : Prop := σ.1 512 j = Int32.ofNat x.1 ∧ (x.1 = 2 ∨ x.1 = 3 ∨ σ.1 513 j = x.2.1) ∧ σ.2.1 514 j = nmR x.2.2.1 ∧ σ.1 515 j = Int32.ofNat x.2.2.2
def rws (R : List Rw) (σ : my_S) : Prop := σ.1 498 23 = Int32.ofNat R.length ∧ ∀ j x, R[j]? = some x → rwk x j σ
def wtk : List Wt → my_S → Prop
  | [], _ => True
  | w :: W, σ => (σ.1 517 W.length = Int32.ofNat w.1 ∧ σ.2.1 518 W.length = nmR w.2.1 ∧ σ.1 519 W.length = Int32.ofNat w.2.2.1 ∧ σ.1 520 W.length = Int32.ofNat w.2.2.2) ∧ wtk W σ
def wts (W : List Wt) (σ : my_S) : Prop := σ.1 498 36 = Int32.ofNat W.length ∧ wtk W σ
def rlc (L : List (List Nat)) (σ : my_S) : Prop := σ.1 498 29 = Int32.ofNat L.length ∧ L.length ≤ 10 ∧ (∀ l ∈ L, isN l) ∧ ∀ j l, L[j]? = some l → σ.2.1 516 j = nmR l
def RE (t : Nat → Int32) (n : Nat) (L : List (List Nat)) (R : List Rw) (W : List Wt) (p o : Nat) (σ : my_S) : Prop := rfT t n p σ ∧ σ.1 498 9 = fNo ∧ σ.1 498 10 = Int32.ofNat o ∧ rws R σ ∧ wts W σ ∧ rlc L σ
/-- a fault was found at q; N: at most so many raw steps -/
def RF (t : Nat → Int32) (n q N : Nat) (σ : my_S) : Prop := σ.1 498 9 = Int32.ofNat q ∧ (∃ p, rfT t n p σ) ∧ ∃ m, m ≤ N ∧ σ.1 498 23 = Int32.ofNat m
def eF (c k : Nat) : Prop := (c = 498 ∧ ((4 ≤ k ∧ k ≤ 10) ∨ k = 23 ∨ k = 36)) ∨ (512 ≤ c ∧ c ≤ 515) ∨ (517 ≤ c ∧ c ≤ 520)
def mF (c k : Nat) : Prop := (c = 498 ∧ k = 23) ∨ (512 ≤ c ∧ c ≤ 515)
theorem mF_e {c k : Nat} (h : mF c k) : eF c k := by unfold mF at h; unfold eF; omega
theorem oN_pos {a : Nat} (h : 0 < a) (ha : a < 2147483648) : (0 : Int32) < Int32.ofNat a := (oN_lt (p := 0) (by omega) ha).mpr h
theorem eqp_g {F : Nat → Nat → Prop} {σ σ' : my_S} (h : eqp F σ σ') {c k : Nat} (hF : ¬ F c k) : σ'.1 c k = σ.1 c k := (h c k hF).1
theorem rws_o {F : Nat → Nat → Prop} {R : List Rw} {σ σ' : my_S} (h : rws R σ) (he : eqp F σ σ') (hF : ∀ c k, F c k → (c = 498 → k ≠ 23) ∧ (c < 512 ∨ 515 < c)) : rws R σ' := by
  refine ⟨((he 498 23 (fun hh => (hF _ _ hh).1 rfl rfl)).1).trans h.1, fun j x hx => ?_⟩
  obtain ⟨a, b, c, d⟩ := h.2 j x hx
  have g : ∀ c, 512 ≤ c → c ≤ 515 → ¬ F c j := fun c h1 h2 hh => by have := (hF _ _ hh).2; omega
  refine ⟨((he 512 j (g _ (by omega) (by omega))).1).trans a, ?_, ((he 514 j (g _ (by omega) (by omega))).2.1).trans c, ((he 515 j (g _ (by omega) (by omega))).1).trans d⟩
  rw [(he 513 j (g _ (by omega) (by omega))).1]
  exact b
theorem wtk_o {F : Nat → Nat → Prop} {σ σ' : my_S} (he : eqp F σ σ') : ∀ {W : List Wt}, wtk W σ → (∀ c k, F c k → k < W.length → (c < 517 ∨ 520 < c)) → wtk W σ'
  | [], _, _ => trivial
  | w :: W, h, hF => by
    have g : ∀ c, 517 ≤ c → c ≤ 520 → ¬ F c W.length := fun c h1 h2 hh => by have := hF _ _ hh (by simp); omega
    obtain ⟨⟨a, b, c, d⟩, h2⟩ := h
    exact ⟨⟨((he 517 _ (g _ (by omega) (by omega))).1).trans a, ((he 518 _ (g _ (by omega) (by omega))).2.1).trans b, ((he 519 _ (g _ (by omega) (by omega))).1).trans c, ((he 520 _ (g _ (by omega) (by omega))).1).trans d⟩, wtk_o he h2 (fun c k hh hk => hF c k hh (by simp; omega))⟩
theorem wts_o {F : Nat → Nat → Prop} {W : List Wt} {σ σ' : my_S} (h : wts W σ) (he : eqp F σ σ') (hF : ∀ c k, F c k → (c = 498 → k ≠ 36) ∧ (c < 517 ∨ 520 < c)) : wts W σ' :=
  ⟨((he 498 36 (fun hh => (hF _ _ hh).1 rfl rfl)).1).trans h.1, wtk_o he h.2 (fun c k hh _ => (hF c k hh).2)⟩
theorem rlc_o {F : Nat → Nat → Prop} {L : List (List Nat)} {σ σ' : my_S} (h : rlc L σ) (he : eqp F σ σ') (hF : ∀ c k, F c k → (c = 498 → k ≠ 29) ∧ c ≠ 516) : rlc L σ' :=
  ⟨((he 498 29 (fun hh => (hF _ _ hh).1 rfl rfl)).1).trans h.1, h.2.1, h.2.2.1, fun j l hj => ((he 516 j (fun hh => (hF _ _ hh).2 rfl)).2.1).trans (h.2.2.2 j l hj)⟩
section MRE
variable {e : my_E} {d : Nat} {κ : my_K} {σ : my_S} {Q : my_O → my_K → my_S → Prop} {t : Nat → Int32} {n p o : Nat} {L : List (List Nat)} {R : List Rw} {W : List Wt}
theorem RE_next (ht : txt t n) (h : RE t n L R W p o σ) (hQ : ∀ σ', RE t n L R W (nx t n p) o σ' → eqp eF σ σ' → Q (.inl none) κ σ') : my_M e (d + 3) 218 [.inr (.inr (some 498))] κ σ Q := by
  obtain ⟨h1, h2, h3, h4, h5, h6⟩ := h
  refine r_218n ht h1 (fun σ' g1 g2 => hQ σ' ⟨g1, ?_, ?_, ?_, ?_, ?_⟩ (eqp_mo g2 (fun c k hh => by unfold rnF at hh; unfold eF; omega)))
  · exact (eqp_g g2 (by unfold rnF; omega)).trans h2
  · exact (eqp_g g2 (by unfold rnF; omega)).trans h3
  · exact rws_o h4 g2 (fun c k hh => by unfold rnF at hh; omega)
  · exact wts_o h5 g2 (fun c k hh => by unfold rnF at hh; omega)
  · exact rlc_o h6 g2 (fun c k hh => by unfold rnF at hh; omega)
theorem RF_next {q N : Nat} (ht : txt t n) (h : RF t n q N σ) (hQ : ∀ σ', RF t n q N σ' → eqp eF σ σ' → Q (.inl none) κ σ') : my_M e (d + 3) 218 [.inr (.inr (some 498))] κ σ Q := by
  obtain ⟨h1, ⟨p, h2⟩, m, h3, h4⟩ := h
  refine r_218n ht h2 (fun σ' g1 g2 => hQ σ' ⟨(eqp_g g2 (by unfold rnF; omega)).trans h1, ⟨_, g1⟩, m, h3, (eqp_g g2 (by unfold rnF; omega)).trans h4⟩ (eqp_mo g2 (fun c k hh => by unfold rnF at hh; unfold eF; omega)))
theorem emit_eq {v1 v2 v5 : Int32} {v3 : Int64} {m : Nat} : eqp (fun c k => (c = 498 ∧ k = 23) ∨ (512 ≤ c ∧ c ≤ 515 ∧ k = m)) σ (my_uI (my_uI (my_uL (my_uI (my_uI σ 512 m v1) 513 m v2) 514 m v3) 515 m v5) 498 23 (Int32.ofNat (m + 1))) :=
  eqp_I (eqp_I (eqp_L (eqp_I (eqp_I eqp_rf (by omega)) (by omega)) (by omega)) (by omega)) (by omega)
theorem rws_len {m : Nat} (hm : m < 3200) (h : σ.1 498 23 = Int32.ofNat m) : my_bd (σ.1 498 23) 3200 := by
  rw [h]; exact ⟨by rw [oN_i (by omega)]; omega, by rw [oN_i (by omega)]; omega⟩
theorem oN_m (p : Nat) : Int32.ofNat (p + 1) - 1 = Int32.ofNat p := by rw [← oN_s, Int32.add_sub_cancel]
/-- emit -/
theorem RE_emit {x : Rw} {v2 : Int32} {v1 v5 : Int32} {v3 : Int64} (h : RE t n L R W p o σ) (hR : R.length < 3200) (e1 : v1 = Int32.ofNat x.1) (e2 : x.1 = 2 ∨ x.1 = 3 ∨ v2 = x.2.1) (e3 : v3 = nmR x.2.2.1) (e5 : v5 = Int32.ofNat x.2.2.2) (hQ : ∀ σ', RE t n L (R ++ [x]) W p o σ' → eqp mF σ σ' → Q (.inl (some (.inl (Int32.ofNat R.length)))) κ σ') : my_M e (d + 1) 243 [.inr (.inr (some 498)), .inl v1, .inl v2, .inr (.inl v3), .inl v5] κ σ Q := by
  obtain ⟨h1, h2, h3, h4, h5, h6⟩ := h
  refine ys_243 ?_
  unfold ys_243_0
  have b := rws_len hR h4.1
  refine ⟨b, b, b, b, ?_⟩
  rw [h4.1, oN_n (by omega), oN_s, oN_m]
  have he := emit_eq (σ := σ) (m := R.length) (v1 := v1) (v2 := v2) (v3 := v3) (v5 := v5)
  refine hQ _ ⟨rfT_o h1 he (fun c k hh => by omega), (eqp_g he (by omega)).trans h2, (eqp_g he (by omega)).trans h3, ⟨?_, fun j y hy => ?_⟩, wts_o h5 he (fun c k hh => by omega), rlc_o h6 he (fun c k hh => by omega)⟩ (eqp_mo he (fun c k hh => by unfold mF; omega))
  · rw [my_uI_1, if_pos ⟨rfl, rfl⟩]; simp
  · by_cases hj : j < R.length
    · rw [List.getElem?_append_left hj] at hy
      obtain ⟨a, b, c, dd⟩ := h4.2 j y hy
      refine ⟨((he 512 j (by omega)).1).trans a, ?_, ((he 514 j (by omega)).2.1).trans c, ((he 515 j (by omega)).1).trans dd⟩
      rw [(he 513 j (by omega)).1]
      exact b
    · rw [List.getElem?_append_right (by omega)] at hy
      have : j = R.length := by
        refine Decidable.byContradiction (fun hne => ?_)
        rw [List.getElem?_eq_none (by simp; omega)] at hy
        cases hy
      subst this
      simp only [Nat.sub_self, List.getElem?_cons_zero, Option.some.injEq] at hy
      subst hy
      refine ⟨?_, ?_, ?_, ?_⟩
      · simp [my_uI, my_uL, e1]
      · rcases e2 with h | h | h
        · exact Or.inl h
        · exact Or.inr (Or.inl h)
        · exact Or.inr (Or.inr (by simp [my_uI, my_uL, h]))
      · simp [my_uI, my_uL, e3]
      · simp [my_uI, my_uL, e5]
theorem RF_emit {q N : Nat} {v1 v2 v5 : Int32} {v3 : Int64} (h : RF t n q N σ) (hN : N < 3200) (hQ : ∀ σ' m, RF t n q (N + 1) σ' → eqp eF σ σ' → m ≤ N → Q (.inl (some (.inl (Int32.ofNat m)))) κ σ') : my_M e (d + 1) 243 [.inr (.inr (some 498)), .inl v1, .inl v2, .inr (.inl v3), .inl v5] κ σ Q := by
  obtain ⟨h1, ⟨p, h2⟩, m, h3, h4⟩ := h
  refine ys_243 ?_
  unfold ys_243_0
  have b := rws_len (m := m) (by omega) h4
  refine ⟨b, b, b, b, ?_⟩
  rw [h4, oN_n (by omega), oN_s, oN_m]
  have he := emit_eq (σ := σ) (m := m) (v1 := v1) (v2 := v2) (v3 := v3) (v5 := v5)
  refine hQ _ m ⟨(eqp_g he (by omega)).trans h1, ⟨p, rfT_o h2 he (fun c k hh => by omega)⟩, m + 1, by omega, ?_⟩ (eqp_mo he (fun c k hh => by unfold eF; omega)) h3
  rw [my_uI_1, if_pos ⟨rfl, rfl⟩]
/-- push -/
theorem push_eq {v1 v4 v5 : Int32} {v2 : Int64} {m : Nat} : eqp (fun c k => (c = 498 ∧ k = 36) ∨ (517 ≤ c ∧ c ≤ 520 ∧ k = m)) σ (my_uI (my_uI (my_uI (my_uL (my_uI σ 517 m v1) 518 m v2) 519 m v4) 520 m v5) 498 36 (Int32.ofNat (m + 1))) :=
  eqp_I (eqp_I (eqp_I (eqp_L (eqp_I eqp_rf (by omega)) (by omega)) (by omega)) (by omega)) (by omega)
theorem RE_push {w : Wt} {v1 v4 v5 : Int32} {v2 : Int64} (h : RE t n L R W p o σ) (hW : W.length < 600) (e1 : v1 = Int32.ofNat w.1) (e2 : v2 = nmR w.2.1) (e4 : v4 = Int32.ofNat w.2.2.1) (e5 : v5 = Int32.ofNat w.2.2.2) (hQ : ∀ σ', RE t n L R (w :: W) p o σ' → eqp eF σ σ' → Q (.inl none) κ σ') : my_M e (d + 1) 247 [.inr (.inr (some 498)), .inl v1, .inr (.inl v2), .inl v4, .inl v5] κ σ Q := by
  obtain ⟨h1, h2, h3, h4, h5, h6⟩ := h
  refine ys_247 ?_
  unfold ys_247_0
  have b : my_bd (σ.1 498 36) 600 := by rw [h5.1]; exact ⟨by rw [oN_i (by omega)]; omega, by rw [oN_i (by omega)]; omega⟩
  refine ⟨b, b, b, b, ?_⟩
  rw [h5.1, oN_n (by omega), oN_s]
  have he := push_eq (σ := σ) (m := W.length) (v1 := v1) (v2 := v2) (v4 := v4) (v5 := v5)
  refine hQ _ ⟨rfT_o h1 he (fun c k hh => by omega), (eqp_g he (by omega)).trans h2, (eqp_g he (by omega)).trans h3, rws_o h4 he (fun c k hh => by omega), ⟨?_, ⟨?_, ?_, ?_, ?_⟩, ?_⟩, rlc_o h6 he (fun c k hh => by omega)⟩ (eqp_mo he (fun c k hh => by unfold eF; omega))
  · rw [my_uI_1, if_pos ⟨rfl, rfl⟩]; simp
  · simp [my_uI, my_uL, e1]
  · simp [my_uI, my_uL, e2]
  · simp [my_uI, my_uL, e4]
  · simp [my_uI, my_uL, e5]
  · exact wtk_o he h5.2 (fun c k hh hk => by omega)
theorem RF_push {q N m : Nat} {v1 v4 v5 : Int32} {v2 : Int64} (h : RF t n q N σ) (hW : σ.1 498 36 = Int32.ofNat m) (hm : m < 600) (hQ : ∀ σ', RF t n q N σ' → eqp eF σ σ' → Q (.inl none) κ σ') : my_M e (d + 1) 247 [.inr (.inr (some 498)), .inl v1, .inr (.inl v2), .inl v4, .inl v5] κ σ Q := by
  obtain ⟨h1, ⟨p, h2⟩, m', h3, h4⟩ := h
  refine ys_247 ?_
  unfold ys_247_0
  have b : my_bd (σ.1 498 36) 600 := by rw [hW]; exact ⟨by rw [oN_i (by omega)]; omega, by rw [oN_i (by omega)]; omega⟩
  refine ⟨b, b, b, b, ?_⟩
  rw [hW, oN_n (by omega), oN_s]
  have he := push_eq (σ := σ) (m := m) (v1 := v1) (v2 := v2) (v4 := v4) (v5 := v5)
  exact hQ _ ⟨(eqp_g he (by omega)).trans h1, ⟨p, rfT_o h2 he (fun c k hh => by omega)⟩, m', h3, (eqp_g he (by omega)).trans h4⟩ (eqp_mo he (fun c k hh => by unfold eF; omega))
/-- bad: where there is no fault yet, where there is -/
theorem RE_bad {q N : Nat} (h : RE t n L R W p o σ) (hN : R.length ≤ N) (hQ : ∀ σ', RF t n q N σ' → σ'.1 498 36 = Int32.ofNat W.length → σ'.1 498 10 = Int32.ofNat o → eqp eF σ σ' → Q (.inl none) κ σ') : my_M e (d + 1) 225 [.inr (.inr (some 498)), .inl (Int32.ofNat q)] κ σ Q := by
  obtain ⟨h1, h2, h3, h4, h5, h6⟩ := h
  refine ys_225 ?_
  unfold ys_225_0
  rw [h2, if_pos fNo_lt]
  unfold ys_225_16
  have he : eqp (fun c k => c = 498 ∧ k = 9) σ (my_uI σ 498 9 (Int32.ofNat q)) := eqp_I eqp_rf ⟨rfl, rfl⟩
  exact hQ _ ⟨by simp [my_uI], ⟨p, rfT_o h1 he (fun c k hh => by omega)⟩, R.length, hN, (eqp_g he (by omega)).trans h4.1⟩ ((eqp_g he (by omega)).trans h5.1) ((eqp_g he (by omega)).trans h3) (eqp_mo he (fun c k hh => by unfold eF; omega))
theorem RF_bad {q N : Nat} {v : Int32} (h : RF t n q N σ) (hq : q < 2147483648) (hQ : Q (.inl none) κ σ) : my_M e (d + 1) 225 [.inr (.inr (some 498)), .inl v] κ σ Q := by
  refine ys_225 ?_
  unfold ys_225_0
  rw [h.1, if_neg (oN_0 hq)]
  unfold ys_225_16
  rw [uI_id h.1]
  exact hQ
theorem RF_lt {q N : Nat} (h : RF t n q N σ) (hq : q < 2147483648) : ¬ σ.1 498 9 < 0 := by rw [h.1]; exact oN_0 hq
/-- take -/
theorem RE_take {k : Nat} {N : Nat} (ht : txt t n) (h : RE t n L R W p o σ) (hk : k < 1000) (hN : R.length ≤ N) (hy : kR (tkk t n p) = k → ∀ σ', RE t n L R W (nx t n p) o σ' → eqp eF σ σ' → Q (.inl none) κ σ') (hn : kR (tkk t n p) ≠ k → ∀ σ', RF t n p N σ' → σ'.1 498 36 = Int32.ofNat W.length → σ'.1 498 10 = Int32.ofNat o → eqp eF σ σ' → Q (.inl none) κ σ') (hT : kR (tkk t n p) < 1000) : my_M e (d + 4) 230 [.inr (.inr (some 498)), .inl (Int32.ofNat k)] κ σ Q := by
  have h0 := h
  obtain ⟨h1, h2, h3, h4, h5, h6⟩ := h
  have hpn : p ≤ 1500 := Nat.le_trans h1.1 ht.1
  refine ys_230 ?_
  unfold ys_230_0
  rw [h2, if_pos fNo_lt, h1.2.2.2.1, h1.2.2.2.2.1]
  refine my_if (fun hh => ?_) (fun hh => ?_)
  · have hkk := (oN_e (by omega) (by omega)).mp hh
    unfold ys_230_23
    rw [h2, if_pos fNo_lt]
    refine RE_next ht h0 (fun σ' g1 g2 => ?_)
    rw [my_k0_v]
    exact hy hkk σ' g1 g2
  · have hkk : kR (tkk t n p) ≠ k := fun hh2 => hh (by rw [hh2])
    refine RE_bad (q := p) (N := N) h0 hN (fun σ' g1 g2 g2b g3 => ?_)
    rw [my_k0_v]
    unfold ys_230_23
    rw [if_neg (RF_lt g1 (by omega))]
    exact hn hkk σ' g1 g2 g2b g3
theorem RF_take {q N : Nat} {v : Int32} (h : RF t n q N σ) (hq : q < 2147483648) (hQ : Q (.inl none) κ σ) : my_M e (d + 1) 230 [.inr (.inr (some 498)), .inl v] κ σ Q := by
  refine ys_230 ?_
  unfold ys_230_0
  rw [if_neg (RF_lt h hq)]
  unfold ys_230_23
  rw [if_neg (RF_lt h hq)]
  exact hQ
end MRE
