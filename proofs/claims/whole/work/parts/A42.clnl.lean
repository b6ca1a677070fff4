
/-! ===== the class's small steps, whatever the locals are ===== -/
/-- the items -/
def CIm (I : List It) (rv : Nat) (σ : my_S) : Prop := σ.1 rv 3 = Int32.ofNat I.length ∧ I.length ≤ 42 ∧ (∀ k, k < 42 → σ.2.2 (rv + 2) k = some (rv + 4 + 3 * k)) ∧ ∀ k it, I[k]? = some it → isN it.1 ∧ σ.2.1 (rv + 4 + 3 * k) 4 = nmC it.1 ∧ σ.1 (rv + 4 + 3 * k) 0 = it.2.1 ∧ σ.1 (rv + 4 + 3 * k) 1 = it.2.2.1 ∧ σ.1 (rv + 4 + 3 * k) 7 = it.2.2.2.1 ∧ σ.1 (rv + 4 + 3 * k) 5 = it.2.2.2.2.1 ∧ ∀ j, j < 4 → σ.1 (rv + 4 + 3 * k + 1) j = it.2.2.2.2.2 j
/-- the locals -/
def CLc (L : List (List Nat)) (LT : Nat → Int32) (σ : my_S) : Prop := σ.1 39 8 = Int32.ofNat L.length ∧ L.length ≤ 10 ∧ (∀ l ∈ L, isN l) ∧ (∀ j l, L[j]? = some l → σ.2.1 40 j = nmC l) ∧ ∀ j, j < 10 → σ.1 41 j = LT j
def CS0 (I : List It) (w : Bool) (rv cu : Nat) (σ : my_S) : Prop := (σ.1 39 3 = if w = true then 1 else 0) ∧ True ∧ (σ.2.2 39 1 = some rv ∧ (rv = 108 ∨ rv = 238 ∨ rv = 368) ∧ σ.2.2 39 2 = some (rv + 4 + 3 * cu) ∧ cu < 42) ∧ CIm I rv σ
theorem CIm_o {F : Nat → Nat → Prop} {I : List It} {rv : Nat} {σ σ' : my_S} (h : CIm I rv σ) (he : eqp F σ σ') (hF : ∀ c k, F c k → (c = rv → k ≠ 3) ∧ c ≠ rv + 2 ∧ ∀ j, j < 42 → (c = rv + 4 + 3 * j → k ≠ 0 ∧ k ≠ 1 ∧ k ≠ 4 ∧ k ≠ 5 ∧ k ≠ 7) ∧ c ≠ rv + 4 + 3 * j + 1) : CIm I rv σ' := by
  obtain ⟨h1, h2, h3, h4⟩ := h
  refine ⟨(eqp_g he (fun hh => (hF _ _ hh).1 rfl rfl)).trans h1, h2, fun k hk => ((he _ _ (fun hh => (hF _ _ hh).2.1 rfl)).2.2).trans (h3 k hk), fun k it hk => ?_⟩
  have hk42 : k < 42 := Nat.lt_of_lt_of_le (List.getElem?_eq_some_iff.mp hk).1 h2
  obtain ⟨a1, a2, a3, a4, a5, a6, a7⟩ := h4 k it hk
  have g : ∀ {j}, j = 0 ∨ j = 1 ∨ j = 4 ∨ j = 5 ∨ j = 7 → ¬ F (rv + 4 + 3 * k) j := fun hj hh => by have := ((hF _ _ hh).2.2 k hk42).1 rfl; omega
  exact ⟨a1, ((he _ _ (g (by omega))).2.1).trans a2, (eqp_g he (g (by omega))).trans a3, (eqp_g he (g (by omega))).trans a4, (eqp_g he (g (by omega))).trans a5, (eqp_g he (g (by omega))).trans a6, fun j hj => (eqp_g he (fun hh => ((hF _ _ hh).2.2 k hk42).2 rfl)).trans (a7 j hj)⟩
theorem CS0_o {F : Nat → Nat → Prop} {I : List It} {w : Bool} {rv cu : Nat} {σ σ' : my_S} (h : CS0 I w rv cu σ) (he : eqp F σ σ') (hF : ∀ c k, F c k → xF rv cu c k) : CS0 I w rv cu σ' := by
  obtain ⟨h1, h2, ⟨h3, h4, h5, h6⟩, h7⟩ := h
  have g : ∀ {c k}, ¬ xF rv cu c k → ¬ F c k := fun hx hh => hx (hF _ _ hh)
  refine ⟨(eqp_g he (g (by unfold xF; omega))).trans h1, h2, ⟨((he _ _ (g (by unfold xF; omega))).2.2).trans h3, h4, ((he _ _ (g (by unfold xF; omega))).2.2).trans h5, h6⟩, CIm_o h7 he (fun c k hh => ?_)⟩
  have hx := hF c k hh
  unfold xF at hx
  exact ⟨by omega, by omega, fun j hj => ⟨by omega, by omega⟩⟩
def CR0 (t : Nat → Int32) (n : Nat) (I : List It) (w : Bool) (rv cu : Nat) (S : St) (p o : Nat) (σ : my_S) : Prop := clT t n p σ ∧ σ.1 39 9 = Int32.ofNat o ∧ CS0 I w rv cu σ ∧ CD rv cu S σ
theorem CR_0 {t : Nat → Int32} {n : Nat} {L : List (List Nat)} {LT : Nat → Int32} {I : List It} {w : Bool} {rv cu : Nat} {S : St} {p o : Nat} {σ : my_S} (h : CR t n L LT I w rv cu S p o σ) : CR0 t n I w rv cu S p o σ := ⟨h.1, h.2.1, ⟨h.2.2.1.1, trivial, h.2.2.1.2.2.1, h.2.2.1.2.2.2⟩, h.2.2.2⟩
theorem CR_of {t : Nat → Int32} {n : Nat} {L : List (List Nat)} {LT : Nat → Int32} {I : List It} {w : Bool} {rv cu : Nat} {S : St} {p o : Nat} {σ : my_S} (h : CR0 t n I w rv cu S p o σ) (hl : CLc L LT σ) : CR t n L LT I w rv cu S p o σ := ⟨h.1, h.2.1, ⟨h.2.2.1.1, hl, h.2.2.1.2.2.1, h.2.2.1.2.2.2⟩, h.2.2.2⟩
section MCA0
variable {e : my_E} {d : Nat} {κ : my_K} {σ : my_S} {Q : my_O → my_K → my_S → Prop} {t : Nat → Int32} {n p o : Nat} {I : List It} {w : Bool} {rv cu : Nat} {S : St}
theorem z_55 (h : CR0 t n I w rv cu S p o σ) (hd : 1 ≤ d) (hQ : ∀ σ', CR0 t n I w rv cu S (nx t n p) o σ' → eqp (xF rv cu) σ σ' → Q (.inl none) κ σ') : my_M e d 55 [.inr (.inr (some 33))] κ σ Q := by
  obtain ⟨d, rfl⟩ := dS 1 hd
  obtain ⟨h1, h2, h3, h4⟩ := h
  have hrv := h3.2.2.1.2.1
  have gx : ∀ c k, nF c k → xF rv cu c k := fun c k hh => by unfold nF at hh; unfold xF; omega
  exact c_55 h1 (fun σ' g1 g2 => hQ σ' ⟨g1, (eqp_g g2 (by unfold nF; omega)).trans h2, CS0_o h3 g2 gx, CD_o h4 g2 (fun c k hh => by unfold nF at hh; unfold dF; omega)⟩ (eqp_mo g2 gx))
theorem CR0_open {x : Nat} (h : CR0 t n I w rv cu S p o σ) : CR0 t n I w rv cu S p x (my_uI σ 39 9 (Int32.ofNat x)) ∧ eqp (xF rv cu) σ (my_uI σ 39 9 (Int32.ofNat x)) := by
  have he : eqp (fun c k => c = 39 ∧ k = 9) σ (my_uI σ 39 9 (Int32.ofNat x)) := eqp_I eqp_rf ⟨rfl, rfl⟩
  obtain ⟨h1, h2, h3, h4⟩ := h
  have hrv := h3.2.2.1.2.1
  have gx : ∀ c k, (c = 39 ∧ k = 9) → xF rv cu c k := fun c k hh => by unfold xF; omega
  exact ⟨⟨clT_o h1 he (fun c k hh => by omega), by rw [my_uI_1, if_pos ⟨rfl, rfl⟩], CS0_o h3 he gx, CD_o h4 he (fun c k hh => by unfold dF; omega)⟩, eqp_mo he gx⟩
theorem z_62 {k : Nat} {y : Int32} (ht : txt t n) (h : CR0 t n I w rv cu S p o σ) (hd : 6 ≤ d) (hκ : 1 ≤ κ.2.1 ∧ 6 ≤ κ.2.2) (hk : k < 1000) (hy : y = Int32.ofNat k) (hQ : tkk t n p = k → ∀ σ', CR0 t n I w rv cu S (nx t n p) o σ' → eqp (xF rv cu) σ σ' → Q (.inl none) κ σ') (hn : tkk t n p ≠ k → thr κ Q σ) : my_M e d 62 [.inr (.inr (some 39)), .inl y] κ σ Q := by
  obtain ⟨d, rfl⟩ := dS 1 (show 1 ≤ d by omega)
  refine ys_62 ?_
  unfold ys_62_0
  have T := tcl ht h.1 k hk hy
  refine my_if (fun hh => ?_) (fun hh => ⟨⟨by omega, hκ⟩, hn (fun h2 => hh (T.mpr h2))⟩)
  refine z_55 h (by omega) (fun σ' g1 g2 => ?_)
  rw [my_k0_v]
  exact hQ (T.mp hh) σ' g1 g2
theorem z_69 {k : Nat} {y : Int32} (ht : txt t n) (h : CR0 t n I w rv cu S p o σ) (ho : o ≤ 12) (hd : 6 ≤ d) (hκ : 1 ≤ κ.2.1 ∧ 6 ≤ κ.2.2) (hk : k < 1000) (hy : y = Int32.ofNat k) (hQ : tkk t n p = k → o < 12 → ∀ σ', CR0 t n I w rv cu S (nx t n p) (o + 1) σ' → eqp (xF rv cu) σ σ' → Q (.inl none) κ σ') (hn : tkk t n p ≠ k ∨ 12 ≤ o → thr κ Q σ) : my_M e d 69 [.inr (.inr (some 39)), .inl y] κ σ Q := by
  obtain ⟨d, rfl⟩ := dS 1 (show 1 ≤ d by omega)
  refine ys_69 ?_
  unfold ys_69_0 ys_69_20
  have T := tcl ht h.1 k hk hy
  refine my_if (fun hh => ?_) (fun hh => ⟨⟨by omega, hκ⟩, hn (Or.inl (fun h2 => hh (T.mpr h2)))⟩)
  rw [h.2.1]
  refine my_if (fun h12 => ?_) (fun h12 => ⟨⟨by omega, hκ⟩, hn (Or.inr ?_)⟩)
  · have ho2 : o < 12 := (oN_lt1 (b := 12) (c := 12) rfl (by omega) (by omega)).mp h12
    rw [oN_s]
    obtain ⟨g1, g2⟩ := CR0_open (x := o + 1) h
    refine z_55 g1 (by omega) (fun σ' g3 g4 => ?_)
    rw [my_k0_v]
    exact hQ (T.mp hh) ho2 σ' g3 (eqp_tr g2 g4)
  · have : ¬ o < 12 := fun hh => h12 ((oN_lt1 (b := 12) (c := 12) rfl (by omega) (by omega)).mpr hh)
    omega
theorem z_70 {k : Nat} {y : Int32} (ht : txt t n) (h : CR0 t n I w rv cu S p (o + 1) σ) (hd : 6 ≤ d) (hκ : 1 ≤ κ.2.1 ∧ 6 ≤ κ.2.2) (hk : k < 1000) (hy : y = Int32.ofNat k) (hQ : tkk t n p = k → ∀ σ', CR0 t n I w rv cu S (nx t n p) o σ' → eqp (xF rv cu) σ σ' → Q (.inl none) κ σ') (hn : tkk t n p ≠ k → thr κ Q σ) : my_M e d 70 [.inr (.inr (some 39)), .inl y] κ σ Q := by
  obtain ⟨d, rfl⟩ := dS 1 (show 1 ≤ d by omega)
  refine ys_70 ?_
  unfold ys_70_0
  have T := tcl ht h.1 k hk hy
  refine my_if (fun hh => ?_) (fun hh => ⟨⟨by omega, hκ⟩, hn (fun h2 => hh (T.mpr h2))⟩)
  rw [h.2.1, oN_m]
  obtain ⟨g1, g2⟩ := CR0_open (x := o) h
  refine z_55 g1 (by omega) (fun σ' g3 g4 => ?_)
  rw [my_k0_v]
  exact hQ (T.mp hh) σ' g3 (eqp_tr g2 g4)
theorem CR0_st {F : Nat → Nat → Prop} {σ' : my_S} {S' : St} (h : CR0 t n I w rv cu S p o σ) (he : eqp F σ σ') (hF : ∀ c k, F c k → dF rv cu c k) (hD : CD rv cu S' σ') : CR0 t n I w rv cu S' p o σ' ∧ eqp (xF rv cu) σ σ' := by
  obtain ⟨h1, h2, h3, h4⟩ := h
  have hrv := h3.2.2.1.2.1
  have gx : ∀ c k, F c k → xF rv cu c k := fun c k hh => by have := hF c k hh; unfold dF at this; unfold xF; omega
  exact ⟨⟨clT_o h1 he (fun c k hh => by have := hF c k hh; unfold dF at this; omega), (eqp_g he (fun hh => by have := hF _ _ hh; unfold dF at this; omega)).trans h2, CS0_o h3 he gx, hD⟩, eqp_mo he gx⟩
theorem z_65 {pl : Nat} {y : Int32} (h : CR0 t n I w rv cu S p o σ) (hd : 1 ≤ d) (hy : y = Int32.ofNat pl) (hQ : ∀ σ', CR0 t n I w rv cu (wm w pl S) p o σ' → eqp (xF rv cu) σ σ' → Q (.inl none) κ σ') : my_M e d 65 [.inr (.inr (some 39)), .inl y] κ σ Q := by
  obtain ⟨d, rfl⟩ := dS 1 hd
  subst hy
  refine ys_65 ?_
  unfold ys_65_0
  have hw := h.2.2.1.1
  have hrv := h.2.2.1.2.2.1.2.1
  cases w with
  | false =>
    rw [hw, if_pos (by decide)]
    exact hQ σ h eqp_rf
  | true =>
    rw [hw, if_neg (by decide)]
    obtain ⟨a1, a2, a3, a4⟩ := h.2.2.2
    have a4' : (my_uI σ 39 5 (σ.1 39 5 + 1)).1 39 4 = S.1 := by rw [my_uI_1, if_neg (by omega)]; exact a1
    have key : ys_65_38 e d (wmm pl S.1) κ (my_uI σ 39 5 (σ.1 39 5 + 1)) Q := by
      unfold ys_65_38 ys_65_41
      rw [a2]
      have he : eqp (fun c k => c = 39 ∧ (k = 4 ∨ k = 5)) σ (my_uI (my_uI σ 39 5 (S.2.1 + 1)) 39 4 (wmm pl S.1)) := eqp_I (eqp_I eqp_rf (by omega)) (by omega)
      have hD : CD rv cu (wm true pl S) (my_uI (my_uI σ 39 5 (S.2.1 + 1)) 39 4 (wmm pl S.1)) := by
        unfold wm
        rw [if_pos rfl]
        refine ⟨by rw [my_uI_1, if_pos ⟨rfl, rfl⟩], by rw [my_uI_1, if_neg (by omega), my_uI_1, if_pos ⟨rfl, rfl⟩], ⟨(eqp_g he (by omega)).trans a3.1, a3.2.1, fun i x hx => (eqp_g he (by omega)).trans (a3.2.2 i x hx)⟩, ⟨(eqp_g he (by omega)).trans a4.1, a4.2.1, fun i x hx => ⟨(a4.2.2 i x hx).1, ((he _ _ (by omega)).2.2).trans (a4.2.2 i x hx).2⟩⟩⟩
      obtain ⟨g1, g2⟩ := CR0_st h he (fun c k hh => by unfold dF; omega) hD
      exact hQ _ g1 g2
    rw [a4', a1]
    unfold wmm at key
    by_cases hm : S.1 = Int32.ofInt (-1)
    · rw [if_pos hm] at key ⊢
      exact key
    · rw [if_neg hm] at key ⊢
      exact key
theorem z_64 {pl : Nat} {a b y : Int32} (h : CR0 t n I w rv cu S p o σ) (hd : 2 ≤ d) (hy : y = Int32.ofNat pl) (hQ : ∀ σ', CR0 t n I w rv cu (wf w a b pl S) p o σ' → eqp (xF rv cu) σ σ' → Q (.inl none) κ σ') : my_M e d 64 [.inr (.inr (some 39)), .inl a, .inl b, .inl y] κ σ Q := by
  obtain ⟨d, rfl⟩ := dS 1 (show 1 ≤ d by omega)
  refine ys_64 ?_
  unfold ys_64_0 ys_64_20
  unfold wf at hQ
  refine my_if (fun h3 => ?_) (fun h3 => my_if (fun h4 => ?_) (fun h4 => my_if (fun h5 => ?_) (fun h5 => ?_)))
  · rw [if_pos h3] at hQ
    exact hQ σ h eqp_rf
  · rw [if_neg h3, if_pos h4] at hQ
    exact hQ σ h eqp_rf
  · rw [if_neg h3, if_neg h4, if_pos h5] at hQ
    exact hQ σ h eqp_rf
  · rw [if_neg h3, if_neg h4, if_neg h5] at hQ
    refine z_65 h (by omega) hy (fun σ' g1 g2 => ?_)
    rw [my_k0_v]
    exact hQ σ' g1 g2
theorem z_w1 {x : Int32} (h : CR0 t n I w rv cu S p o σ) (hl : S.2.2.1.length < 6144) : CR0 t n I w rv cu (w1 x S) p o (my_uI (my_uI σ (rv + 1) S.2.2.1.length x) rv 1 (Int32.ofNat (S.2.2.1.length + 1))) ∧ eqp (xF rv cu) σ (my_uI (my_uI σ (rv + 1) S.2.2.1.length x) rv 1 (Int32.ofNat (S.2.2.1.length + 1))) := by
  have he : eqp (fun c k => (c = rv ∧ k = 1) ∨ (c = rv + 1 ∧ k = S.2.2.1.length)) σ (my_uI (my_uI σ (rv + 1) S.2.2.1.length x) rv 1 (Int32.ofNat (S.2.2.1.length + 1))) := eqp_I (eqp_I eqp_rf (by omega)) (by omega)
  have hrv := h.2.2.1.2.2.1.2.1
  obtain ⟨a1, a2, a3, a4⟩ := h.2.2.2
  refine CR0_st h he (fun c k hh => by unfold dF; omega) ?_
  unfold w1
  rw [if_pos hl]
  refine ⟨(eqp_g he (by omega)).trans a1, (eqp_g he (by omega)).trans a2, ⟨?_, ?_, fun i y hy => ?_⟩, ⟨(eqp_g he (by omega)).trans a4.1, a4.2.1, fun i x hx => ⟨(a4.2.2 i x hx).1, ((he _ _ (by omega)).2.2).trans (a4.2.2 i x hx).2⟩⟩⟩
  · rw [my_uI_1, if_pos ⟨rfl, rfl⟩]; simp
  · simp; omega
  · by_cases hi : i < S.2.2.1.length
    · simp only [] at hy
      rw [List.getElem?_append_left hi] at hy
      exact (eqp_g he (by omega)).trans (a3.2.2 i y hy)
    · simp only [] at hy
      rw [List.getElem?_append_right (by omega)] at hy
      have hi0 : i - S.2.2.1.length = 0 := by
        by_cases h0 : i - S.2.2.1.length = 0
        · exact h0
        · rw [List.getElem?_eq_none (by simp; omega)] at hy
          cases hy
      rw [hi0] at hy
      simp only [List.getElem?_cons_zero, Option.some.injEq] at hy
      have : i = S.2.2.1.length := by omega
      rw [this, my_uI_1, if_neg (by omega), my_uI_1, if_pos ⟨rfl, rfl⟩]
      exact hy
theorem z_198l {x : Int32} : ∀ (m j k : Nat) (S : St) (σ : my_S), j + m = k → k ≤ 4 → CR0 t n I w rv cu S p o σ → (∀ σ', CR0 t n I w rv cu (wn x m j S) p o σ' → eqp (xF rv cu) σ σ' → Q (.inl none) κ σ') → ys_198_2 e d rv x (Int32.ofNat k) (Int32.ofNat j) κ σ Q := by
  intro m
  induction m with
  | zero =>
    intro j k S σ hj hk h hQ
    unfold ys_198_2
    rw [if_neg (fun hh => absurd ((oN_lt (by omega) (by omega)).mp hh) (by omega))]
    exact hQ σ h eqp_rf
  | succ m ih =>
    intro j k S σ hj hk h hQ
    have hrv := h.2.2.1.2.2.1.2.1
    have hb := h.2.2.2.2.2.1
    unfold ys_198_2
    rw [if_pos ((oN_lt (by omega) (by omega)).mpr (by omega)), hb.1, if_neg (oN_0 (by omega))]
    unfold wn at hQ
    refine my_if (fun h6 => ?_) (fun h6 => ?_)
    · have hl : S.2.2.1.length < 6144 := (oN_lt1 (b := 6144) (c := 6144) rfl (by omega) (by omega)).mp h6
      refine ⟨⟨by rw [oN_i (by omega)]; omega, by rw [oN_i (by omega)]; omega⟩, ?_⟩
      unfold ys_198_52
      rw [oN_n (by omega), my_uI_1, if_neg (by omega), hb.1, oN_s, oN_s]
      obtain ⟨g1, g2⟩ := z_w1 (x := bt x (Int32.ofNat j)) h hl
      exact ys_198_2_ok (in10 hrv) (ih (j + 1) k _ _ (by omega) hk g1 (fun σ' g3 g4 => hQ σ' g3 (eqp_tr g2 g4)))
    · have hl : ¬ S.2.2.1.length < 6144 := fun hh => h6 ((oN_lt1 (b := 6144) (c := 6144) rfl (by omega) (by omega)).mpr hh)
      unfold ys_198_52
      rw [oN_s]
      have hs : w1 (bt x (Int32.ofNat j)) S = S := by unfold w1; rw [if_neg hl]
      rw [hs] at hQ
      exact ys_198_2_ok (in10 hrv) (ih (j + 1) k _ _ (by omega) hk h hQ)
theorem z_198 {x y : Int32} {k : Nat} (h : CR0 t n I w rv cu S p o σ) (hd : 1 ≤ d) (hk : k ≤ 4) (hy : y = Int32.ofNat k) (hQ : ∀ σ', CR0 t n I w rv cu (wn x k 0 S) p o σ' → eqp (xF rv cu) σ σ' → Q (.inl none) κ σ') : my_M e d 198 [.inr (.inr (some rv)), .inl x, .inl y] κ σ Q := by
  obtain ⟨d, rfl⟩ := dS 1 hd
  subst hy
  have hrv := h.2.2.1.2.2.1.2.1
  refine ys_198 (in10 hrv) ?_
  unfold ys_198_0
  exact ys_198_2_ok (in10 hrv) (z_198l k 0 k S σ (by omega) hk h hQ)
theorem z_67 {x y : Int32} {k : Nat} (h : CR0 t n I w rv cu S p o σ) (hd : 2 ≤ d) (hk : k ≤ 4) (hy : y = Int32.ofNat k) (hQ : ∀ σ', CR0 t n I w rv cu (wr w x k S) p o σ' → eqp (xF rv cu) σ σ' → Q (.inl none) κ σ') : my_M e d 67 [.inr (.inr (some 39)), .inl x, .inl y] κ σ Q := by
  obtain ⟨d, rfl⟩ := dS 1 (show 1 ≤ d by omega)
  have hw := h.2.2.1.1
  have hr := h.2.2.1.2.2.1
  refine ys_67 ?_
  unfold ys_67_0 ys_67_16
  unfold wr at hQ
  cases w with
  | false =>
    rw [hw, if_pos (by decide)]
    exact hQ σ h eqp_rf
  | true =>
    rw [hw, if_neg (by decide)]
    refine ⟨rv, hr.1, in10 hr.2.1, ?_⟩
    refine z_198 h (by omega) hk hy (fun σ' g1 g2 => ?_)
    rw [my_k0_v]
    exact hQ σ' g1 g2
end MCA0
