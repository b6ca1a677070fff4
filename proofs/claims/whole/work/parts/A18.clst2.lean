/-! ===== the class's statements: small steps ===== -/
def CU (I : List It) (rv cu ck : Nat) (ls : Int32) (B : List Int32) (cF : Int32) (σ : my_S) : Prop := σ.1 39 10 = Int32.ofNat ck ∧ σ.1 39 11 = ls ∧ (σ.1 39 13 = Int32.ofNat B.length ∧ B.length ≤ 256 ∧ ∀ j x, B[j]? = some x → σ.1 42 j = x) ∧ σ.1 (rv + 4 + 3 * cu) 12 = cF ∧ (∀ k, k < I.length → σ.1 (rv + 4 + 3 * k) 3 = Int32.ofNat k) ∧ cu < I.length
def yF (rv cu c k : Nat) : Prop := xF rv cu c k ∨ (c = 39 ∧ (k = 8 ∨ k = 10 ∨ k = 11 ∨ k = 13)) ∨ c = 40 ∨ c = 41 ∨ c = 42
theorem xF_y {rv cu c k : Nat} (h : xF rv cu c k) : yF rv cu c k := Or.inl h
theorem CU_o {F : Nat → Nat → Prop} {I : List It} {rv cu ck : Nat} {ls : Int32} {B : List Int32} {cF : Int32} {σ σ' : my_S} (hrv : rv = 108 ∨ rv = 238 ∨ rv = 368) (h : CU I rv cu ck ls B cF σ) (he : eqp F σ σ') (hF : ∀ c k, F c k → xF rv cu c k) : CU I rv cu ck ls B cF σ' := by
  obtain ⟨h1, h2, ⟨h3, h4, h5⟩, h6, h7, h8⟩ := h
  have g : ∀ {c k}, ¬ xF rv cu c k → σ'.1 c k = σ.1 c k := fun hn => (he _ _ (fun hh => hn (hF _ _ hh))).1
  exact ⟨(g (by unfold xF; omega)).trans h1, (g (by unfold xF; omega)).trans h2, ⟨(g (by unfold xF; omega)).trans h3, h4, fun j x hx => (g (by unfold xF; omega)).trans (h5 j x hx)⟩, (g (by unfold xF; omega)).trans h6, fun k hk => (g (by unfold xF; omega)).trans (h7 k hk), h8⟩
section MCV
variable {e : my_E} {d : Nat} {κ : my_K} {σ : my_S} {Q : my_O → my_K → my_S → Prop} {t : Nat → Int32} {n p o : Nat} {L : List (List Nat)} {LT : Nat → Int32} {I : List It} {w : Bool} {rv cu : Nat} {S : St} {ck : Nat} {ls : Int32} {B : List Int32} {cF : Int32}
theorem CU_x (h0 : CR t n L LT I w rv cu S p o σ) (h : CU I rv cu ck ls B cF σ) {σ' : my_S} (he : eqp (xF rv cu) σ σ') : CU I rv cu ck ls B cF σ' := CU_o h0.2.2.1.2.2.1.2.1 h he (fun _ _ hh => hh)
/-- a new local may stand there -/
theorem kwi_take {l : List Nat} : ∀ {K : List (List Nat)} {m j : Nat}, kwi (K.take m) l j = none ↔ ∀ i, kwi K l j = some i → j + m ≤ i
  | [], m, j => by simp [kwi]
  | a :: K, 0, j => by
    rw [List.take_zero]
    refine ⟨fun _ i hi => by have := (kwi_lt hi).1; omega, fun _ => rfl⟩
  | a :: K, m + 1, j => by
    rw [List.take_succ_cons]
    unfold kwi
    by_cases h : a = l
    · rw [if_pos h, if_pos h]
      refine ⟨fun hh => (by cases hh), fun hh => ?_⟩
      have := hh j rfl
      omega
    · rw [if_neg h, if_neg h, kwi_take]
      refine ⟨fun hh i hi => (by have := hh i hi; omega), fun hh i hi => (by have := hh i hi; omega)⟩
def nF0 (I : List It) (cu : Nat) : List (List Nat) := (I.map (fun i => i.1)).take (cu + 1)
theorem x_73 (ht : txt t n) (h : CR t n L LT I w rv cu S p o σ) (hU : CU I rv cu ck ls B cF σ) (hd : 2 ≤ d) (hQ : Q (.inl (some (.inl (bI (nwL t n L (nF0 I cu) 10 p))))) κ σ) : my_M e d 73 [.inr (.inr (some 39))] κ σ Q := by
  obtain ⟨d, rfl⟩ := dS 1 (show 1 ≤ d by omega)
  refine ys_73 ?_
  unfold ys_73_0 ys_73_35 ys_73_70 ys_73_75
  have T := tcl ht h.1 2 (y := 2) (by omega) rfl
  have hr := h.2.2.1.2.2.1
  have hL := h.2.2.1.2.1
  have no : nwL t n L (nF0 I cu) 10 p = false → Q (.inl (some (.inl 0))) κ σ := fun hh => by rw [hh] at hQ; exact hQ
  have yes : nwL t n L (nF0 I cu) 10 p = true → Q (.inl (some (.inl 1))) κ σ := fun hh => by rw [hh] at hQ; exact hQ
  have ff : ¬ (tkk t n p = 2 ∧ kwi (nF0 I cu) (tkm t n p) 0 = none ∧ kwi L (tkm t n p) 0 = none ∧ L.length < 10) → Q (.inl (some (.inl 0))) κ σ := fun hh => no (by rw [Bool.eq_false_iff]; exact fun h2 => hh (nwL_t.mp h2))
  refine my_if (fun h2 => ?_) (fun h2 => ff (fun hh => h2 (T.mpr hh.1)))
  have h2 := T.mp h2
  have hN := (tk2_N h2 ht).1
  rw [hL.1]
  refine my_if (fun h10 => ?_) (fun h10 => ff (fun hh => h10 ((oN_lt1 (b := 10) (c := 10) rfl (by omega) (by omega)).mpr hh.2.2.2)))
  have h10 : L.length < 10 := (oN_lt1 (b := 10) (c := 10) rfl (by omega) (by omega)).mp h10
  rw [clT_nm ht h.1 h2]
  refine x_74 hN h.2.2.1 (by omega) ?_
  rw [my_kI_v]
  cases hkw : kwi L (tkm t n p) 0 with
  | some j =>
    have hj := kwi_lt hkw
    show if Int32.ofNat j = Int32.ofInt (-1) then _ else _
    rw [if_neg (fun hh => absurd (congrArg Int32.toInt hh) (by rw [oN_i (by omega)]; rw [show (Int32.ofInt (-1)).toInt = -1 from rfl]; omega))]
    exact ff (fun hh => by rw [hh.2.2.1] at hkw; cases hkw)
  | none =>
    show if Int32.ofInt (-1) = Int32.ofInt (-1) then _ else _
    rw [if_pos rfl]
    refine ⟨rv, hr.1, in10 hr.2.1, ?_⟩
    rw [clT_nm ht h.1 h2]
    refine x_195 hN h.2.2.1 (by omega) ?_
    rw [my_kA_v]
    cases hk : itK I (tkm t n p) with
    | none =>
      rw [show itO rv none = none from rfl, if_pos rfl]
      refine ⟨Or.inr rfl, yes (nwL_t.mpr ⟨h2, ?_, hkw, h10⟩)⟩
      unfold nF0
      rw [kwi_take]
      intro i hi
      unfold itK at hk
      rw [hk] at hi
      cases hi
    | some k =>
      have hki := itK_lt hk
      have hb := CS_it h.2.2.1 hki
      rw [show itO rv (some k) = some (rv + 4 + 3 * k) from rfl, if_neg (by simp)]
      refine ⟨_, rfl, hb.2.1, ?_⟩
      refine ⟨_, hr.2.2.1, in11 hr.2.1 hr.2.2.2, ?_⟩
      have hI := h.2.2.1.2.2.2.2.1
      rw [hU.2.2.2.2.1 cu hU.2.2.2.2.2, hU.2.2.2.2.1 k hki]
      refine my_if (fun hh => ?_) (fun hh => ?_)
      · have hh := (oN_lt (by have := hr.2.2.2; omega) (by omega)).mp hh
        refine ⟨Or.inr rfl, yes (nwL_t.mpr ⟨h2, ?_, hkw, h10⟩)⟩
        unfold nF0
        rw [kwi_take]
        intro i hi
        unfold itK at hk
        rw [hk] at hi
        cases hi
        omega
      · have hh : ¬ cu < k := fun h4 => hh ((oN_lt (by have := hr.2.2.2; omega) (by omega)).mpr h4)
        refine ⟨Or.inl rfl, ff (fun h4 => ?_)⟩
        have h5 := h4.2.1
        unfold nF0 at h5
        rw [kwi_take] at h5
        have := h5 k hk
        omega
/-- one more local -/
theorem x_75 {l : List Nat} {a : Int32} (hl : isN l) (h : CR t n L LT I w rv cu S p o σ) (hL : L.length < 10) (hd : 1 ≤ d) (hQ : ∀ σ', CR t n (L ++ [l]) (ltU LT L.length a) I w rv cu S p o σ' → eqp (fun c k => (c = 39 ∧ k = 8) ∨ c = 40 ∨ c = 41) σ σ' → Q (.inl none) κ σ') : my_M e d 75 [.inr (.inr (some 39)), .inr (.inl (nmC l)), .inl a] κ σ Q := by
  obtain ⟨d, rfl⟩ := dS 1 hd
  have hLm := h.2.2.1.2.1
  have hrv := h.2.2.1.2.2.1.2.1
  refine ys_75 ?_
  unfold ys_75_0 ys_75_61
  have h10 : Int32.ofNat L.length < 10 := (oN_lt1 (b := 10) (c := 10) rfl (by omega) (by omega)).mpr hL
  have bd : my_bd (Int32.ofNat L.length) 10 := ⟨by rw [oN_i (by omega)]; omega, by rw [oN_i (by omega)]; omega⟩
  rw [hLm.1, if_neg (oN_0 (by omega)), if_pos h10, if_pos h10, oN_n (by omega), oN_s]
  refine ⟨bd, bd, ?_⟩
  have he : eqp (fun c k => (c = 39 ∧ k = 8) ∨ (c = 40 ∧ k = L.length) ∨ (c = 41 ∧ k = L.length)) σ (my_uI (my_uI (my_uL σ 40 L.length (nmC l)) 41 L.length a) 39 8 (Int32.ofNat (L.length + 1))) := eqp_I (eqp_I (eqp_L eqp_rf (by omega)) (by omega)) (by omega)
  obtain ⟨h1, h2, ⟨c1, ⟨c2, c3, c4, c5, c6⟩, ⟨c7, c8, c9, c10⟩, ⟨c11, c12, c13, c14⟩⟩, h4⟩ := h
  have g : ∀ {c k}, ¬ ((c = 39 ∧ k = 8) ∨ (c = 40 ∧ k = L.length) ∨ (c = 41 ∧ k = L.length)) → _ := fun {c k} hn => he c k hn
  refine hQ _ ⟨clT_o h1 he (fun c k hh => by omega), (g (by omega)).1.trans h2, ⟨(g (by omega)).1.trans c1, ⟨?_, by simp; omega, fun x hx => ?_, fun j x hx => ?_, fun j hj => ?_⟩, ⟨(g (by omega)).2.2.trans c7, c8, (g (by omega)).2.2.trans c9, c10⟩, ⟨(g (by omega)).1.trans c11, c12, fun k hk => (g (by omega)).2.2.trans (c13 k hk), fun k it hk => ?_⟩⟩, CD_o h4 he (fun c k hh => by unfold dF; omega)⟩ (eqp_mo he (fun c k hh => by omega))
  · rw [my_uI_1, if_pos ⟨rfl, rfl⟩]; simp
  · rcases List.mem_append.mp hx with hx | hx
    · exact c4 x hx
    · rw [List.mem_singleton.mp hx]; exact hl
  · by_cases hj : j < L.length
    · rw [List.getElem?_append_left hj] at hx
      exact (g (by omega)).2.1.trans (c5 j x hx)
    · rw [List.getElem?_append_right (by omega)] at hx
      have hi0 : j - L.length = 0 := by
        by_cases h0 : j - L.length = 0
        · exact h0
        · rw [List.getElem?_eq_none (by simp; omega)] at hx
          cases hx
      rw [hi0] at hx
      simp only [List.getElem?_cons_zero, Option.some.injEq] at hx
      have : j = L.length := by omega
      rw [this, ← hx, my_uI_2, my_uI_2, my_uL_2, if_pos ⟨rfl, rfl⟩]
  · unfold ltU
    by_cases hjL : j = L.length
    · rw [if_pos hjL, hjL, my_uI_1, if_neg (by omega), my_uI_1, if_pos ⟨rfl, rfl⟩]
    · rw [if_neg hjL]
      exact (g (by omega)).1.trans (c6 j hj)
  · obtain ⟨a1, a2, a3, a4, a5, a6, a7⟩ := c14 k it hk
    exact ⟨a1, (g (by omega)).2.1.trans a2, (g (by omega)).1.trans a3, (g (by omega)).1.trans a4, (g (by omega)).1.trans a5, (g (by omega)).1.trans a6, fun j hj => (g (by omega)).1.trans (a7 j hj)⟩
theorem x_95 (h : CR t n L LT I w rv cu S p o σ) (hU : CU I rv cu ck ls B cF σ) (hd : 1 ≤ d) (hQ : Q (.inl (some (.inl (cpl cF S)))) κ σ) : my_M e d 95 [.inr (.inr (some 39))] κ σ Q := by
  obtain ⟨d, rfl⟩ := dS 1 hd
  have hr := h.2.2.1.2.2.1
  refine ys_95 ?_
  unfold ys_95_0
  refine ⟨rv, hr.1, in10 hr.2.1, _, hr.2.2.1, in11 hr.2.1 hr.2.2.2, ?_⟩
  rw [h.2.2.2.2.2.1.1, hU.2.2.2.1]
  exact hQ
theorem x_93 {c v : Int32} (h : CR t n L LT I w rv cu S p o σ) (hd : 3 ≤ d) (hQ : ∀ σ', CR t n L LT I w rv cu (wjS w c v S) p o σ' → eqp (xF rv cu) σ σ' → Q (.inl (some (.inl (wjP w c v S)))) κ σ') : my_M e d 93 [.inr (.inr (some 39)), .inl c, .inl v] κ σ Q := by
  obtain ⟨d, rfl⟩ := dS 1 (show 1 ≤ d by omega)
  refine ys_93 ?_
  unfold ys_93_0
  refine x_67 (k := 1) h (by omega) (by omega) rfl (fun σ1 g1 f1 => ?_)
  rw [my_k0_v]
  refine x_67 (k := 2) g1 (by omega) (by omega) rfl (fun σ2 g2 f2 => ?_)
  rw [my_k0_v]
  have hr := g2.2.2.1.2.2.1
  refine ⟨rv, hr.1, in10 hr.2.1, ?_⟩
  rw [g2.2.2.2.2.2.1.1]
  exact hQ σ2 g2 (eqp_tr f1 f2)
/-- a byte changed -/
theorem x_p1 {k x : Int32} (h : CR t n L LT I w rv cu S p o σ) : (0 ≤ k → k < 6144 → CR t n L LT I w rv cu (p1 k x S) p o (my_uI σ (rv + 1) k.toNatClampNeg x) ∧ eqp (xF rv cu) σ (my_uI σ (rv + 1) k.toNatClampNeg x)) := by
  intro h0 h6
  have he : eqp (fun c j => c = rv + 1 ∧ j = k.toNatClampNeg) σ (my_uI σ (rv + 1) k.toNatClampNeg x) := eqp_I eqp_rf ⟨rfl, rfl⟩
  have hrv := h.2.2.1.2.2.1.2.1
  obtain ⟨a1, a2, a3, a4⟩ := h.2.2.2
  refine CR_st h he (fun c k hh => by unfold dF; omega) ?_
  unfold p1
  rw [if_neg (Int32.not_lt.mpr h0), if_pos h6]
  refine ⟨(eqp_g he (by omega)).trans a1, (eqp_g he (by omega)).trans a2, ⟨?_, ?_, fun i y hy => ?_⟩, ⟨(eqp_g he (by omega)).trans a4.1, a4.2.1, fun i x hx => ⟨(a4.2.2 i x hx).1, ((he _ _ (by omega)).2.2).trans (a4.2.2 i x hx).2⟩⟩⟩
  · rw [eqp_g he (by omega)]; simpa using a3.1
  · simpa using a3.2.1
  · simp only [] at hy
    by_cases hi : i = k.toNatClampNeg
    · have hl : k.toNatClampNeg < S.2.2.1.length := by
        by_cases hh : k.toNatClampNeg < S.2.2.1.length
        · exact hh
        · rw [hi, List.getElem?_eq_none (by simp; omega)] at hy; cases hy
      rw [hi, List.getElem?_set_self hl] at hy
      cases hy
      rw [hi, my_uI_1, if_pos ⟨rfl, rfl⟩]
    · rw [List.getElem?_set_ne (fun hh => hi hh.symm)] at hy
      exact (eqp_g he (by omega)).trans (a3.2.2 i y hy)
theorem x_199a {j v : Int32} {m : Int32} (h : CR t n L LT I w rv cu S p o σ) (hQ : ∀ σ', CR t n L LT I w rv cu (p1 (j + m) (bt v m) S) p o σ' → eqp (xF rv cu) σ σ' → ys_199_45 e d rv j v 2 m κ σ' Q) (hm : m < 2) : ys_199_3 e d rv j v 2 m κ σ Q := by
  unfold ys_199_3
  rw [if_pos hm]
  refine my_if (fun h0 => ?_) (fun h0 => ?_)
  · have : p1 (j + m) (bt v m) S = S := by unfold p1; rw [if_pos h0]
    rw [this] at hQ
    exact hQ σ h eqp_rf
  · refine my_if (fun h6 => ?_) (fun h6 => ?_)
    · obtain ⟨g1, g2⟩ := x_p1 (k := j + m) (x := bt v m) h (Int32.not_lt.mp h0) h6
      refine ⟨⟨?_, ?_⟩, hQ _ g1 g2⟩
      · have := Int32.not_lt.mp h0
        rw [Int32.le_iff_toInt_le] at this
        simpa using this
      · rw [Int32.lt_iff_toInt_lt] at h6
        simpa using h6
    · have : p1 (j + m) (bt v m) S = S := by unfold p1; rw [if_neg h0, if_neg h6]
      rw [this] at hQ
      exact hQ σ h eqp_rf
theorem x_94 {j : Int32} (h : CR t n L LT I w rv cu S p o σ) (hU : CU I rv cu ck ls B cF σ) (hd : 2 ≤ d) (hQ : ∀ σ', CR t n L LT I w rv cu (lnd w cF j S) p o σ' → eqp (xF rv cu) σ σ' → Q (.inl none) κ σ') : my_M e d 94 [.inr (.inr (some 39)), .inl j] κ σ Q := by
  obtain ⟨d, rfl⟩ := dS 1 (show 1 ≤ d by omega)
  refine ys_94 ?_
  unfold ys_94_0 ys_94_20
  have hw := h.2.2.1.1
  have hr := h.2.2.1.2.2.1
  unfold lnd at hQ
  cases w with
  | false =>
    rw [hw, if_pos (by decide)]
    exact hQ σ h eqp_rf
  | true =>
    rw [hw, if_neg (by decide)]
    refine x_95 h hU (by omega) ?_
    rw [my_kI_v]
    refine ⟨rv, hr.1, in10 hr.2.1, ?_⟩
    obtain ⟨d, rfl⟩ := dS 1 (show 1 ≤ d by omega)
    refine ys_199 (in10 hr.2.1) ?_
    unfold ys_199_0
    refine ys_199_3_ok (in10 hr.2.1) ?_
    refine x_199a (m := 0) h (fun σ1 g1 f1 => ?_) (by decide)
    unfold ys_199_45
    refine ys_199_3_ok (in10 hr.2.1) ?_
    rw [show (0 : Int32) + 1 = 1 from rfl]
    refine x_199a (m := 1) g1 (fun σ2 g2 f2 => ?_) (by decide)
    unfold ys_199_45
    refine ys_199_3_ok (in10 hr.2.1) ?_
    unfold ys_199_3
    rw [if_neg (by decide), my_k0_v]
    exact hQ σ2 g2 (eqp_tr f1 f2)
end MCV
