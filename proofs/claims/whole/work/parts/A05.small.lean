/-! ===== the class's small steps ===== -/
theorem dS {d : Nat} (k : Nat) (h : k ≤ d) : ∃ d', d = d' + k := ⟨d - k, by omega⟩
theorem ofc {c : Prop} {A B : Prop} [Decidable c] (h : if c then A else B) : (c → A) ∧ (¬ c → B) := ⟨fun hc => by rwa [if_pos hc] at h, fun hc => by rwa [if_neg hc] at h⟩
section MCA
variable {e : my_E} {d : Nat} {κ : my_K} {σ : my_S} {Q : my_O → my_K → my_S → Prop} {t : Nat → Int32} {n p o : Nat} {L : List (List Nat)} {LT : Nat → Int32} {I : List It} {w : Bool} {rv cu : Nat} {S : St}
theorem tcl (ht : txt t n) (h : clT t n p σ) (k : Nat) {y : Int32} (hk : k < 1000) (hy : y = Int32.ofNat k) : σ.1 33 8 = y ↔ tkk t n p = k := by
  obtain ⟨j, c, _, _, _, _, h5, _⟩ := h
  rw [h5, hy]
  have := tkk_bd (p := p) ht
  exact oN_e (by omega) (by omega)
theorem clT_pl (h : clT t n p σ) : σ.1 33 9 = Int32.ofNat p := by
  obtain ⟨j, c, _, _, _, _, _, h6, _⟩ := h
  exact h6
theorem clT_tk (h : clT t n p σ) : σ.1 33 8 = Int32.ofNat (tkk t n p) := by
  obtain ⟨j, c, _, _, _, _, h6, _⟩ := h
  exact h6
theorem clT_nm (ht : txt t n) (h : clT t n p σ) (h2 : tkk t n p = 2) : σ.2.1 33 10 = nmC (tkm t n p) := by
  obtain ⟨j, c, _, _, _, _, _, _, h6, _⟩ := h
  rw [h6, (tk2_N h2 ht).2.1]
theorem clT_nu (ht : txt t n) (h : clT t n p σ) (h3 : tkk t n p = 3) : σ.1 33 11 = tkv t n p := by
  obtain ⟨j, c, _, _, _, _, _, _, _, h6⟩ := h
  rw [h6, tk3_v h3 ht]
theorem CR_bd (ht : txt t n) (h : CR t n L LT I w rv cu S p o σ) : p ≤ n ∧ n ≤ 1500 := ⟨clT_le ht h.1, ht.1⟩
/-- next -/
theorem x_55 (h : CR t n L LT I w rv cu S p o σ) (hd : 1 ≤ d) (hQ : ∀ σ', CR t n L LT I w rv cu S (nx t n p) o σ' → eqp (xF rv cu) σ σ' → Q (.inl none) κ σ') : my_M e d 55 [.inr (.inr (some 33))] κ σ Q := by
  obtain ⟨d, rfl⟩ := dS 1 hd
  obtain ⟨h1, h2, h3, h4⟩ := h
  have hrv := h3.2.2.1.2.1
  have gx : ∀ c k, nF c k → xF rv cu c k := fun c k hh => by unfold nF at hh; unfold xF; omega
  exact c_55 h1 (fun σ' g1 g2 => hQ σ' ⟨g1, (eqp_g g2 (by unfold nF; omega)).trans h2, CS_o h3 g2 gx, CD_o h4 g2 (fun c k hh => by unfold nF at hh; unfold dF; omega)⟩ (eqp_mo g2 gx))
theorem CR_open {x : Nat} (h : CR t n L LT I w rv cu S p o σ) : CR t n L LT I w rv cu S p x (my_uI σ 39 9 (Int32.ofNat x)) ∧ eqp (xF rv cu) σ (my_uI σ 39 9 (Int32.ofNat x)) := by
  have he : eqp (fun c k => c = 39 ∧ k = 9) σ (my_uI σ 39 9 (Int32.ofNat x)) := eqp_I eqp_rf ⟨rfl, rfl⟩
  obtain ⟨h1, h2, h3, h4⟩ := h
  have hrv := h3.2.2.1.2.1
  have gx : ∀ c k, (c = 39 ∧ k = 9) → xF rv cu c k := fun c k hh => by unfold xF; omega
  exact ⟨⟨clT_o h1 he (fun c k hh => by omega), by rw [my_uI_1, if_pos ⟨rfl, rfl⟩], CS_o h3 he gx, CD_o h4 he (fun c k hh => by unfold dF; omega)⟩, eqp_mo he gx⟩
/-- a throw of the class -/
def thr (κ : my_K) (Q : my_O → my_K → my_S → Prop) (σ : my_S) : Prop := Q (.inr (κ.1, 13)) (κ.1 + 1, κ.2.1 - 1, κ.2.2 - 6) σ
theorem x_60 {v : Int32} (hd : 6 ≤ d) (hκ : 1 ≤ κ.2.1 ∧ 6 ≤ κ.2.2) (hy : v ≠ 0 → Q (.inl none) κ σ) (hn : v = 0 → thr κ Q σ) : my_M e d 60 [.inr (.inr (some 39)), .inl v] κ σ Q := by
  obtain ⟨d, rfl⟩ := dS 1 (show 1 ≤ d by omega)
  refine ys_60 ?_
  unfold ys_60_0
  exact my_if (fun h => ⟨⟨by omega, hκ⟩, hn h⟩) hy
theorem x_62 {k : Nat} {y : Int32} (ht : txt t n) (h : CR t n L LT I w rv cu S p o σ) (hd : 6 ≤ d) (hκ : 1 ≤ κ.2.1 ∧ 6 ≤ κ.2.2) (hk : k < 1000) (hy : y = Int32.ofNat k) (hQ : tkk t n p = k → ∀ σ', CR t n L LT I w rv cu S (nx t n p) o σ' → eqp (xF rv cu) σ σ' → Q (.inl none) κ σ') (hn : tkk t n p ≠ k → thr κ Q σ) : my_M e d 62 [.inr (.inr (some 39)), .inl y] κ σ Q := by
  obtain ⟨d, rfl⟩ := dS 1 (show 1 ≤ d by omega)
  refine ys_62 ?_
  unfold ys_62_0
  have T := tcl ht h.1 k hk hy
  refine my_if (fun hh => ?_) (fun hh => ⟨⟨by omega, hκ⟩, hn (fun h2 => hh (T.mpr h2))⟩)
  refine x_55 h (by omega) (fun σ' g1 g2 => ?_)
  rw [my_k0_v]
  exact hQ (T.mp hh) σ' g1 g2
theorem x_69 {k : Nat} {y : Int32} (ht : txt t n) (h : CR t n L LT I w rv cu S p o σ) (ho : o ≤ 12) (hd : 6 ≤ d) (hκ : 1 ≤ κ.2.1 ∧ 6 ≤ κ.2.2) (hk : k < 1000) (hy : y = Int32.ofNat k) (hQ : tkk t n p = k → o < 12 → ∀ σ', CR t n L LT I w rv cu S (nx t n p) (o + 1) σ' → eqp (xF rv cu) σ σ' → Q (.inl none) κ σ') (hn : tkk t n p ≠ k ∨ 12 ≤ o → thr κ Q σ) : my_M e d 69 [.inr (.inr (some 39)), .inl y] κ σ Q := by
  obtain ⟨d, rfl⟩ := dS 1 (show 1 ≤ d by omega)
  refine ys_69 ?_
  unfold ys_69_0 ys_69_20
  have T := tcl ht h.1 k hk hy
  refine my_if (fun hh => ?_) (fun hh => ⟨⟨by omega, hκ⟩, hn (Or.inl (fun h2 => hh (T.mpr h2)))⟩)
  rw [h.2.1]
  refine my_if (fun h12 => ?_) (fun h12 => ⟨⟨by omega, hκ⟩, hn (Or.inr ?_)⟩)
  · have ho2 : o < 12 := (oN_lt1 (b := 12) (c := 12) rfl (by omega) (by omega)).mp h12
    rw [oN_s]
    obtain ⟨g1, g2⟩ := CR_open (x := o + 1) h
    refine x_55 g1 (by omega) (fun σ' g3 g4 => ?_)
    rw [my_k0_v]
    exact hQ (T.mp hh) ho2 σ' g3 (eqp_tr g2 g4)
  · have : ¬ o < 12 := fun hh => h12 ((oN_lt1 (b := 12) (c := 12) rfl (by omega) (by omega)).mpr hh)
    omega
theorem x_70 {k : Nat} {y : Int32} (ht : txt t n) (h : CR t n L LT I w rv cu S p (o + 1) σ) (hd : 6 ≤ d) (hκ : 1 ≤ κ.2.1 ∧ 6 ≤ κ.2.2) (hk : k < 1000) (hy : y = Int32.ofNat k) (hQ : tkk t n p = k → ∀ σ', CR t n L LT I w rv cu S (nx t n p) o σ' → eqp (xF rv cu) σ σ' → Q (.inl none) κ σ') (hn : tkk t n p ≠ k → thr κ Q σ) : my_M e d 70 [.inr (.inr (some 39)), .inl y] κ σ Q := by
  obtain ⟨d, rfl⟩ := dS 1 (show 1 ≤ d by omega)
  refine ys_70 ?_
  unfold ys_70_0
  have T := tcl ht h.1 k hk hy
  refine my_if (fun hh => ?_) (fun hh => ⟨⟨by omega, hκ⟩, hn (fun h2 => hh (T.mpr h2))⟩)
  rw [h.2.1, oN_m]
  obtain ⟨g1, g2⟩ := CR_open (x := o) h
  refine x_55 g1 (by omega) (fun σ' g3 g4 => ?_)
  rw [my_k0_v]
  exact hQ (T.mp hh) σ' g3 (eqp_tr g2 g4)
/-- another state -/
theorem CR_st {F : Nat → Nat → Prop} {σ' : my_S} {S' : St} (h : CR t n L LT I w rv cu S p o σ) (he : eqp F σ σ') (hF : ∀ c k, F c k → dF rv cu c k) (hD : CD rv cu S' σ') : CR t n L LT I w rv cu S' p o σ' ∧ eqp (xF rv cu) σ σ' := by
  obtain ⟨h1, h2, h3, h4⟩ := h
  have hrv := h3.2.2.1.2.1
  have gx : ∀ c k, F c k → xF rv cu c k := fun c k hh => by have := hF c k hh; unfold dF at this; unfold xF; omega
  exact ⟨⟨clT_o h1 he (fun c k hh => by have := hF c k hh; unfold dF at this; omega), (eqp_g he (fun hh => by have := hF _ _ hh; unfold dF at this; omega)).trans h2, CS_o h3 he gx, hD⟩, eqp_mo he gx⟩
theorem x_65 {pl : Nat} {y : Int32} (h : CR t n L LT I w rv cu S p o σ) (hd : 1 ≤ d) (hy : y = Int32.ofNat pl) (hQ : ∀ σ', CR t n L LT I w rv cu (wm w pl S) p o σ' → eqp (xF rv cu) σ σ' → Q (.inl none) κ σ') : my_M e d 65 [.inr (.inr (some 39)), .inl y] κ σ Q := by
  obtain ⟨d, rfl⟩ := dS 1 hd
  subst hy
  refine ys_65 ?_
  unfold ys_65_0
  have hw := h.2.2.1.1
  have hrv := h.2.2.1.2.2.1.2.1
  cases w with
  | false =>
    rw [hw, if_pos (by decide)]
    exact hQ σ h eqp_rf
  | true =>
    rw [hw, if_neg (by decide)]
    obtain ⟨a1, a2, a3, a4⟩ := h.2.2.2
    have a4' : (my_uI σ 39 5 (σ.1 39 5 + 1)).1 39 4 = S.1 := by rw [my_uI_1, if_neg (by omega)]; exact a1
    have key : ys_65_38 e d (wmm pl S.1) κ (my_uI σ 39 5 (σ.1 39 5 + 1)) Q := by
      unfold ys_65_38 ys_65_41
      rw [a2]
      have he : eqp (fun c k => c = 39 ∧ (k = 4 ∨ k = 5)) σ (my_uI (my_uI σ 39 5 (S.2.1 + 1)) 39 4 (wmm pl S.1)) := eqp_I (eqp_I eqp_rf (by omega)) (by omega)
      have hD : CD rv cu (wm true pl S) (my_uI (my_uI σ 39 5 (S.2.1 + 1)) 39 4 (wmm pl S.1)) := by
        unfold wm
        rw [if_pos rfl]
        refine ⟨by rw [my_uI_1, if_pos ⟨rfl, rfl⟩], by rw [my_uI_1, if_neg (by omega), my_uI_1, if_pos ⟨rfl, rfl⟩], ⟨(eqp_g he (by omega)).trans a3.1, a3.2.1, fun i x hx => (eqp_g he (by omega)).trans (a3.2.2 i x hx)⟩, ⟨(eqp_g he (by omega)).trans a4.1, a4.2.1, fun i x hx => ⟨(a4.2.2 i x hx).1, ((he _ _ (by omega)).2.2).trans (a4.2.2 i x hx).2⟩⟩⟩
      obtain ⟨g1, g2⟩ := CR_st h he (fun c k hh => by unfold dF; omega) hD
      exact hQ _ g1 g2
    rw [a4', a1]
    unfold wmm at key
    by_cases hm : S.1 = Int32.ofInt (-1)
    · rw [if_pos hm] at key ⊢
      exact key
    · rw [if_neg hm] at key ⊢
      exact key
theorem x_64 {pl : Nat} {a b y : Int32} (h : CR t n L LT I w rv cu S p o σ) (hd : 2 ≤ d) (hy : y = Int32.ofNat pl) (hQ : ∀ σ', CR t n L LT I w rv cu (wf w a b pl S) p o σ' → eqp (xF rv cu) σ σ' → Q (.inl none) κ σ') : my_M e d 64 [.inr (.inr (some 39)), .inl a, .inl b, .inl y] κ σ Q := by
  obtain ⟨d, rfl⟩ := dS 1 (show 1 ≤ d by omega)
  refine ys_64 ?_
  unfold ys_64_0 ys_64_20
  unfold wf at hQ
  refine my_if (fun h3 => ?_) (fun h3 => my_if (fun h4 => ?_) (fun h4 => my_if (fun h5 => ?_) (fun h5 => ?_)))
  · rw [if_pos h3] at hQ
    exact hQ σ h eqp_rf
  · rw [if_neg h3, if_pos h4] at hQ
    exact hQ σ h eqp_rf
  · rw [if_neg h3, if_neg h4, if_pos h5] at hQ
    exact hQ σ h eqp_rf
  · rw [if_neg h3, if_neg h4, if_neg h5] at hQ
    refine x_65 h (by omega) hy (fun σ' g1 g2 => ?_)
    rw [my_k0_v]
    exact hQ σ' g1 g2
/-- a byte -/
theorem x_w1 {x : Int32} (h : CR t n L LT I w rv cu S p o σ) (hl : S.2.2.1.length < 6144) : CR t n L LT I w rv cu (w1 x S) p o (my_uI (my_uI σ (rv + 1) S.2.2.1.length x) rv 1 (Int32.ofNat (S.2.2.1.length + 1))) ∧ eqp (xF rv cu) σ (my_uI (my_uI σ (rv + 1) S.2.2.1.length x) rv 1 (Int32.ofNat (S.2.2.1.length + 1))) := by
  have he : eqp (fun c k => (c = rv ∧ k = 1) ∨ (c = rv + 1 ∧ k = S.2.2.1.length)) σ (my_uI (my_uI σ (rv + 1) S.2.2.1.length x) rv 1 (Int32.ofNat (S.2.2.1.length + 1))) := eqp_I (eqp_I eqp_rf (by omega)) (by omega)
  have hrv := h.2.2.1.2.2.1.2.1
  obtain ⟨a1, a2, a3, a4⟩ := h.2.2.2
  refine CR_st h he (fun c k hh => by unfold dF; omega) ?_
  unfold w1
  rw [if_pos hl]
  refine ⟨(eqp_g he (by omega)).trans a1, (eqp_g he (by omega)).trans a2, ⟨?_, ?_, fun i y hy => ?_⟩, ⟨(eqp_g he (by omega)).trans a4.1, a4.2.1, fun i x hx => ⟨(a4.2.2 i x hx).1, ((he _ _ (by omega)).2.2).trans (a4.2.2 i x hx).2⟩⟩⟩
  · rw [my_uI_1, if_pos ⟨rfl, rfl⟩]; simp
  · simp; omega
  · by_cases hi : i < S.2.2.1.length
    · simp only [] at hy
      rw [List.getElem?_append_left hi] at hy
      exact (eqp_g he (by omega)).trans (a3.2.2 i y hy)
    · simp only [] at hy
      rw [List.getElem?_append_right (by omega)] at hy
      have hi0 : i - S.2.2.1.length = 0 := by
        by_cases h0 : i - S.2.2.1.length = 0
        · exact h0
        · rw [List.getElem?_eq_none (by simp; omega)] at hy
          cases hy
      rw [hi0] at hy
      simp only [List.getElem?_cons_zero, Option.some.injEq] at hy
      have : i = S.2.2.1.length := by omega
      rw [this, my_uI_1, if_neg (by omega), my_uI_1, if_pos ⟨rfl, rfl⟩]
      exact hy
theorem x_198l {x : Int32} : ∀ (m j k : Nat) (S : St) (σ : my_S), j + m = k → k ≤ 4 → CR t n L LT I w rv cu S p o σ → (∀ σ', CR t n L LT I w rv cu (wn x m j S) p o σ' → eqp (xF rv cu) σ σ' → Q (.inl none) κ σ') → ys_198_2 e d rv x (Int32.ofNat k) (Int32.ofNat j) κ σ Q := by
  intro m
  induction m with
  | zero =>
    intro j k S σ hj hk h hQ
    unfold ys_198_2
    rw [if_neg (fun hh => absurd ((oN_lt (by omega) (by omega)).mp hh) (by omega))]
    exact hQ σ h eqp_rf
  | succ m ih =>
    intro j k S σ hj hk h hQ
    have hrv := h.2.2.1.2.2.1.2.1
    have hb := h.2.2.2.2.2.1
    unfold ys_198_2
    rw [if_pos ((oN_lt (by omega) (by omega)).mpr (by omega)), hb.1, if_neg (oN_0 (by omega))]
    unfold wn at hQ
    refine my_if (fun h6 => ?_) (fun h6 => ?_)
    · have hl : S.2.2.1.length < 6144 := (oN_lt1 (b := 6144) (c := 6144) rfl (by omega) (by omega)).mp h6
      refine ⟨⟨by rw [oN_i (by omega)]; omega, by rw [oN_i (by omega)]; omega⟩, ?_⟩
      unfold ys_198_52
      rw [oN_n (by omega), my_uI_1, if_neg (by omega), hb.1, oN_s, oN_s]
      obtain ⟨g1, g2⟩ := x_w1 (x := bt x (Int32.ofNat j)) h hl
      exact ys_198_2_ok (in10 hrv) (ih (j + 1) k _ _ (by omega) hk g1 (fun σ' g3 g4 => hQ σ' g3 (eqp_tr g2 g4)))
    · have hl : ¬ S.2.2.1.length < 6144 := fun hh => h6 ((oN_lt1 (b := 6144) (c := 6144) rfl (by omega) (by omega)).mpr hh)
      unfold ys_198_52
      rw [oN_s]
      have hs : w1 (bt x (Int32.ofNat j)) S = S := by unfold w1; rw [if_neg hl]
      rw [hs] at hQ
      exact ys_198_2_ok (in10 hrv) (ih (j + 1) k _ _ (by omega) hk h hQ)
theorem x_198 {x y : Int32} {k : Nat} (h : CR t n L LT I w rv cu S p o σ) (hd : 1 ≤ d) (hk : k ≤ 4) (hy : y = Int32.ofNat k) (hQ : ∀ σ', CR t n L LT I w rv cu (wn x k 0 S) p o σ' → eqp (xF rv cu) σ σ' → Q (.inl none) κ σ') : my_M e d 198 [.inr (.inr (some rv)), .inl x, .inl y] κ σ Q := by
  obtain ⟨d, rfl⟩ := dS 1 hd
  subst hy
  have hrv := h.2.2.1.2.2.1.2.1
  refine ys_198 (in10 hrv) ?_
  unfold ys_198_0
  exact ys_198_2_ok (in10 hrv) (x_198l k 0 k S σ (by omega) hk h hQ)
theorem x_67 {x y : Int32} {k : Nat} (h : CR t n L LT I w rv cu S p o σ) (hd : 2 ≤ d) (hk : k ≤ 4) (hy : y = Int32.ofNat k) (hQ : ∀ σ', CR t n L LT I w rv cu (wr w x k S) p o σ' → eqp (xF rv cu) σ σ' → Q (.inl none) κ σ') : my_M e d 67 [.inr (.inr (some 39)), .inl x, .inl y] κ σ Q := by
  obtain ⟨d, rfl⟩ := dS 1 (show 1 ≤ d by omega)
  have hw := h.2.2.1.1
  have hr := h.2.2.1.2.2.1
  refine ys_67 ?_
  unfold ys_67_0 ys_67_16
  unfold wr at hQ
  cases w with
  | false =>
    rw [hw, if_pos (by decide)]
    exact hQ σ h eqp_rf
  | true =>
    rw [hw, if_neg (by decide)]
    refine ⟨rv, hr.1, in10 hr.2.1, ?_⟩
    refine x_198 h (by omega) hk hy (fun σ' g1 g2 => ?_)
    rw [my_k0_v]
    exact hQ σ' g1 g2
/-- the number of a local -/
def ixO (x : Option Nat) : Int32 := match x with | some i => Int32.ofNat i | none => Int32.ofInt (-1)
theorem x_74l {l : List Nat} (hl : isN l) (h : CS L LT I w rv cu σ) : ∀ (m j : Nat), j + m = L.length → Q (.inl (some (.inl (ixO (kwi (L.drop j) l j))))) κ σ → ys_74_2 e d (nmC l) (Int32.ofNat j) κ σ Q := by
  intro m
  obtain ⟨h1, h2, h3, h4, h5⟩ := h.2.1
  induction m with
  | zero =>
    intro j hj hQ
    unfold ys_74_2
    rw [h1, if_neg (fun hh => absurd ((oN_lt (by omega) (by omega)).mp hh) (by omega))]
    rw [List.drop_eq_nil_of_le (by omega)] at hQ
    exact hQ
  | succ m ih =>
    intro j hj hQ
    have hjl : j < L.length := by omega
    unfold ys_74_2
    rw [h1, if_pos ((oN_lt (by omega) (by omega)).mpr hjl), if_pos ((oN_lt1 (b := 10) (c := 10) rfl (by omega) (by omega)).mpr (by omega)), oN_n (by omega), h4 j L[j] (List.getElem?_eq_getElem hjl)]
    refine ⟨⟨by rw [oN_i (by omega)]; omega, by rw [oN_i (by omega)]; omega⟩, ?_⟩
    rw [List.drop_eq_getElem_cons hjl] at hQ
    unfold kwi at hQ
    by_cases hh : L[j] = l
    · rw [if_pos (lg_cmp_0.mpr (by rw [hh]))]
      rw [if_pos hh] at hQ
      exact hQ
    · rw [if_neg (fun h5 => hh ((nmC_inj (h3 _ (List.getElem_mem hjl)) hl).mp (lg_cmp_0.mp h5))), oN_s]
      rw [if_neg hh] at hQ
      exact ys_74_2_ok (ih (j + 1) (by omega) hQ)
theorem x_74 {l : List Nat} (hl : isN l) (h : CS L LT I w rv cu σ) (hd : 1 ≤ d) (hQ : Q (.inl (some (.inl (ixO (kwi L l 0))))) κ σ) : my_M e d 74 [.inr (.inr (some 39)), .inr (.inl (nmC l))] κ σ Q := by
  obtain ⟨d, rfl⟩ := dS 1 hd
  refine ys_74 ?_
  unfold ys_74_0
  exact ys_74_2_ok (x_74l hl h L.length 0 (by omega) hQ)
theorem x_88 {j : Nat} (h : CS L LT I w rv cu σ) (hd : 1 ≤ d) (hj : j < 10) (hQ : Q (.inl (some (.inl (LT j)))) κ σ) : my_M e d 88 [.inr (.inr (some 39)), .inl (Int32.ofNat j)] κ σ Q := by
  obtain ⟨d, rfl⟩ := dS 1 hd
  refine ys_88 ?_
  unfold ys_88_0
  rw [if_neg (oN_0 (by omega)), if_pos ((oN_lt1 (b := 10) (c := 10) rfl (by omega) (by omega)).mpr hj), oN_n (by omega), h.2.1.2.2.2.2 j hj]
  exact ⟨⟨by rw [oN_i (by omega)]; omega, by rw [oN_i (by omega)]; omega⟩, hQ⟩
/-- an item by its name -/
def itO (rv : Nat) (x : Option Nat) : Option Nat := match x with | some k => some (rv + 4 + 3 * k) | none => none
theorem x_195l {l : List Nat} (hl : isN l) (h : CS L LT I w rv cu σ) : ∀ (m j : Nat), j + m = I.length → Q (.inl (some (.inr (.inr (itO rv (kwi ((I.map (fun i => i.1)).drop j) l j)))))) κ σ → ys_195_2 e d rv (nmC l) (Int32.ofNat j) κ σ Q := by
  intro m
  obtain ⟨h1, h2, h3, h4⟩ := h.2.2.2
  have hrv := h.2.2.1.2.1
  induction m with
  | zero =>
    intro j hj hQ
    unfold ys_195_2
    rw [h1, if_neg (fun hh => absurd ((oN_lt (by omega) (by omega)).mp hh) (by omega))]
    rw [List.drop_eq_nil_of_le (by simp; omega)] at hQ
    exact hQ
  | succ m ih =>
    intro j hj hQ
    have hjl : j < I.length := by omega
    have hjm : j < (I.map (fun i => i.1)).length := by simp; omega
    obtain ⟨a1, a2, _⟩ := h4 j I[j] (List.getElem?_eq_getElem hjl)
    have b : my_bd (Int32.ofNat j) 42 := ⟨by rw [oN_i (by omega)]; omega, by rw [oN_i (by omega)]; omega⟩
    unfold ys_195_2
    rw [h1, if_pos ((oN_lt (by omega) (by omega)).mpr hjl), if_pos ((oN_lt1 (b := 42) (c := 42) rfl (by omega) (by omega)).mpr (by omega)), oN_n (by omega), h3 j (by omega)]
    refine ⟨b, rv + 4 + 3 * j, rfl, in11 hrv (by omega), ?_⟩
    rw [List.drop_eq_getElem_cons hjm] at hQ
    unfold kwi at hQ
    rw [List.getElem_map] at hQ
    rw [a2]
    by_cases hh : (I[j]).1 = l
    · rw [if_pos (lg_cmp_0.mpr (by rw [hh]))]
      rw [if_pos hh] at hQ
      exact ⟨b, hQ⟩
    · rw [if_neg (fun h5 => hh ((nmC_inj a1 hl).mp (lg_cmp_0.mp h5))), oN_s]
      rw [if_neg hh] at hQ
      exact ys_195_2_ok (in10 hrv) (ih (j + 1) (by omega) hQ)
theorem x_195 {l : List Nat} (hl : isN l) (h : CS L LT I w rv cu σ) (hd : 1 ≤ d) (hQ : Q (.inl (some (.inr (.inr (itO rv (itK I l)))))) κ σ) : my_M e d 195 [.inr (.inr (some rv)), .inr (.inl (nmC l))] κ σ Q := by
  obtain ⟨d, rfl⟩ := dS 1 hd
  have hrv := h.2.2.1.2.1
  refine ys_195 (in10 hrv) ?_
  unfold ys_195_0
  exact ys_195_2_ok (in10 hrv) (x_195l hl h I.length 0 (by omega) hQ)
theorem itK_lt {l : List Nat} {k : Nat} (h : itK I l = some k) : k < I.length := by
  have := (kwi_lt h).2
  simp at this
  exact this
theorem itA_e {k : Nat} (h : k < I.length) : I[k]? = some (itA I k) := by
  unfold itA
  rw [List.getElem?_eq_getElem h]
  rfl
theorem CS_it {k : Nat} (h : CS L LT I w rv cu σ) (hk : k < I.length) : k < 42 ∧ my_in 11 (rv + 4 + 3 * k) ∧ σ.1 (rv + 4 + 3 * k) 0 = (itA I k).2.1 ∧ σ.1 (rv + 4 + 3 * k) 1 = (itA I k).2.2.1 ∧ σ.1 (rv + 4 + 3 * k) 7 = (itA I k).2.2.2.1 ∧ σ.1 (rv + 4 + 3 * k) 5 = (itA I k).2.2.2.2.1 ∧ ∀ j, j < 4 → σ.1 (rv + 4 + 3 * k + 1) j = (itA I k).2.2.2.2.2 j := by
  obtain ⟨h1, h2, h3, h4⟩ := h.2.2.2
  obtain ⟨a1, a2, a3⟩ := h4 k _ (itA_e hk)
  exact ⟨by omega, in11 h.2.2.1.2.1 (by omega), a3⟩
/-- of the right kind, or a misfit -/
theorem x_80 {l : List Nat} {kd y : Int32} {pl : Nat} (h : CR t n L LT I w rv cu S p o σ) (hd : 2 ≤ d) (hy : y = Int32.ofNat pl) (hQ : ∀ σ', CR t n L LT I w rv cu (mnt I w l kd pl S).2 p o σ' → eqp (xF rv cu) σ σ' → Q (.inl (some (.inr (.inr (itO rv (mnt I w l kd pl S).1))))) κ σ') : my_M e d 80 [.inr (.inr (some 39)), .inr (.inr (itO rv (itK I l))), .inl kd, .inl y] κ σ Q := by
  obtain ⟨d, rfl⟩ := dS 1 (show 1 ≤ d by omega)
  refine ys_80 ?_
  unfold ys_80_0
  unfold mnt at hQ
  have bad : (∀ σ', CR t n L LT I w rv cu (wm w pl S) p o σ' → eqp (xF rv cu) σ σ' → Q (.inl (some (.inr (.inr none)))) κ σ') → ys_80_14 e d y κ σ Q := fun hq => by
    unfold ys_80_14
    refine x_65 h (by omega) hy (fun σ' g1 g2 => ?_)
    rw [my_k0_v]
    exact hq σ' g1 g2
  cases hk : itK I l with
  | none =>
    rw [hk] at hQ
    rw [show itO rv none = none from rfl, if_pos rfl]
    exact bad hQ
  | some k =>
    rw [hk] at hQ
    obtain ⟨b1, b2, b3, b4, b5⟩ := CS_it h.2.2.1 (itK_lt hk)
    rw [show itO rv (some k) = some (rv + 4 + 3 * k) from rfl, if_neg (by simp)]
    refine ⟨_, rfl, b2, ?_⟩
    rw [b4]
    simp only [] at hQ
    refine my_if (fun hh => ?_) (fun hh => ?_)
    · rw [if_pos hh] at hQ
      exact hQ σ h eqp_rf
    · rw [if_neg hh] at hQ
      exact bad hQ
theorem x_207 {k c : Nat} (h : CS L LT I w rv cu σ) (hd : 1 ≤ d) (hk : k < I.length) (hc : c < 1600) (hQ : Q (.inl (some (.inl (pty I (some k) c)))) κ σ) : my_M e d 207 [.inr (.inr (some (rv + 4 + 3 * k))), .inl (Int32.ofNat c)] κ σ Q := by
  obtain ⟨d, rfl⟩ := dS 1 hd
  obtain ⟨b1, b2, b3, b4, b5, b6, b7⟩ := CS_it h hk
  refine ys_207 b2 ?_
  unfold ys_207_0
  rw [if_neg (oN_0 (by omega)), b6]
  unfold pty at hQ
  refine my_if (fun hh => ?_) (fun hh => ?_)
  · simp only [] at hQ
    rw [if_pos hh] at hQ
    refine my_if (fun h4 => ?_) (fun h4 => ?_)
    · have h4' : c < 4 := (oN_lt1 (b := 4) (c := 4) rfl (by omega) (by omega)).mp h4
      rw [if_pos h4'] at hQ
      rw [oN_n (by omega), b7 c h4']
      exact ⟨⟨by rw [oN_i (by omega)]; omega, by rw [oN_i (by omega)]; omega⟩, hQ⟩
    · have h4' : ¬ c < 4 := fun hh => h4 ((oN_lt1 (b := 4) (c := 4) rfl (by omega) (by omega)).mpr hh)
      rw [if_neg h4'] at hQ
      exact hQ
  · simp only [] at hQ
    rw [if_neg hh] at hQ
    exact hQ
/-- the number by which the code tells an item -/
theorem x_208l {k : Nat} (h : CR t n L LT I w rv cu S p o σ) (hk : k < 42) : ∀ (m j : Nat), j + m = S.2.2.2.length → (∀ i, ix (S.2.2.2.drop j) k j = some i → Q (.inl (some (.inl (Int32.ofNat i)))) κ σ) → (ix (S.2.2.2.drop j) k j = none → ys_208_37 e d (rv + 4 + 3 * cu) (some (rv + 4 + 3 * k)) κ σ Q) → ys_208_2 e d (rv + 4 + 3 * cu) (some (rv + 4 + 3 * k)) (Int32.ofNat j) κ σ Q := by
  intro m
  obtain ⟨h1, h2, h3⟩ := h.2.2.2.2.2.2
  have hcu := in11 h.2.2.1.2.2.1.2.1 h.2.2.1.2.2.1.2.2.2
  induction m with
  | zero =>
    intro j hj hs hn
    unfold ys_208_2
    rw [h1, if_neg (fun hh => absurd ((oN_lt (by omega) (by omega)).mp hh) (by omega))]
    exact hn (by rw [List.drop_eq_nil_of_le (by omega)]; rfl)
  | succ m ih =>
    intro j hj hs hn
    have hjl : j < S.2.2.2.length := by omega
    obtain ⟨a1, a2⟩ := h3 j _ (List.getElem?_eq_getElem hjl)
    unfold ys_208_2
    rw [h1, if_pos ((oN_lt (by omega) (by omega)).mpr hjl), if_pos ((oN_lt1 (b := 30) (c := 30) rfl (by omega) (by omega)).mpr (by omega)), oN_n (by omega), a2]
    have hrv := h.2.2.1.2.2.1.2.1
    refine ⟨⟨by rw [oN_i (by omega)]; omega, by rw [oN_i (by omega)]; omega⟩, ⟨fun c hc => by cases hc; omega, fun c hc => by cases hc; omega⟩, ?_⟩
    rw [List.drop_eq_getElem_cons hjl] at hs hn
    unfold ix at hs hn
    by_cases hh : S.2.2.2[j] = k
    · rw [if_pos (by rw [hh])]
      rw [if_pos hh] at hs
      exact hs j rfl
    · rw [if_neg (fun h5 => hh (by have := Option.some.inj h5; omega)), oN_s]
      rw [if_neg hh] at hs hn
      exact ys_208_2_ok hcu (ih (j + 1) (by omega) hs hn)
theorem ix_lt {N : List Nat} {x : Nat} : ∀ {j i : Nat}, ix N x j = some i → j ≤ i ∧ i < j + N.length := by
  induction N with
  | nil => intro j i h; simp [ix] at h
  | cons a N ih =>
    intro j i h
    unfold ix at h
    by_cases hh : a = x
    · rw [if_pos hh] at h
      cases h
      simp
    · rw [if_neg hh] at h
      have := ih h
      simp only [List.length_cons]
      omega
theorem x_208 {k : Nat} (h : CR t n L LT I w rv cu S p o σ) (hk : k < 42) (hd : 1 ≤ d) (hQ : ∀ σ', CR t n L LT I w rv cu (ndS k S) p o σ' → eqp (xF rv cu) σ σ' → Q (.inl (some (.inl (Int32.ofNat (nid S.2.2.2 k).1)))) κ σ') : my_M e d 208 [.inr (.inr (some (rv + 4 + 3 * cu))), .inr (.inr (some (rv + 4 + 3 * k)))] κ σ Q := by
  obtain ⟨d, rfl⟩ := dS 1 hd
  have hrv := h.2.2.1.2.2.1.2.1
  have hcu := in11 hrv h.2.2.1.2.2.1.2.2.2
  obtain ⟨a1, a2, a3, a4⟩ := h.2.2.2
  refine ys_208 hcu ?_
  unfold ys_208_0
  unfold ndS nid at hQ
  refine ys_208_2_ok hcu (x_208l h hk S.2.2.2.length 0 (by omega) (fun i hi => ?_) (fun hi => ?_))
  · rw [List.drop_zero] at hi
    rw [hi] at hQ
    exact hQ σ h eqp_rf
  · rw [List.drop_zero] at hi
    rw [hi] at hQ
    simp only [] at hQ
    unfold ys_208_37
    rw [a4.1, if_neg (oN_0 (by omega))]
    refine my_if (fun h30 => ?_) (fun h30 => ?_)
    · have hl : S.2.2.2.length < 30 := (oN_lt1 (b := 30) (c := 30) rfl (by omega) (by omega)).mp h30
      rw [if_pos hl] at hQ
      refine ⟨fun b hb => by cases hb; exact in11 hrv hk, ⟨by rw [oN_i (by omega)]; omega, by rw [oN_i (by omega)]; omega⟩, ?_⟩
      unfold ys_208_76
      rw [my_uI_1, if_pos ⟨rfl, rfl⟩, oN_n (by omega), oN_s, oN_m]
      have he : eqp (fun c k => (c = rv + 4 + 3 * cu ∧ k = 14) ∨ (c = rv + 4 + 3 * cu + 2 ∧ k = S.2.2.2.length)) σ (my_uI (my_uA σ (rv + 4 + 3 * cu + 2) S.2.2.2.length (some (rv + 4 + 3 * k))) (rv + 4 + 3 * cu) 14 (Int32.ofNat (S.2.2.2.length + 1))) := eqp_I (eqp_A eqp_rf (by omega)) (by omega)
      have hD : CD rv cu (S.1, S.2.1, S.2.2.1, S.2.2.2 ++ [k]) (my_uI (my_uA σ (rv + 4 + 3 * cu + 2) S.2.2.2.length (some (rv + 4 + 3 * k))) (rv + 4 + 3 * cu) 14 (Int32.ofNat (S.2.2.2.length + 1))) := by
        refine ⟨(eqp_g he (by omega)).trans a1, (eqp_g he (by omega)).trans a2, ⟨(eqp_g he (by omega)).trans a3.1, a3.2.1, fun i x hx => (eqp_g he (by omega)).trans (a3.2.2 i x hx)⟩, ⟨?_, by simp; omega, fun i y hy => ?_⟩⟩
        · rw [my_uI_1, if_pos ⟨rfl, rfl⟩]; simp
        · simp only [] at hy
          by_cases hi : i < S.2.2.2.length
          · rw [List.getElem?_append_left hi] at hy
            exact ⟨(a4.2.2 i y hy).1, ((he _ _ (by omega)).2.2).trans (a4.2.2 i y hy).2⟩
          · rw [List.getElem?_append_right (by omega)] at hy
            have hi0 : i - S.2.2.2.length = 0 := by
              by_cases h0 : i - S.2.2.2.length = 0
              · exact h0
              · rw [List.getElem?_eq_none (by simp; omega)] at hy
                cases hy
            rw [hi0] at hy
            simp only [List.getElem?_cons_zero, Option.some.injEq] at hy
            have : i = S.2.2.2.length := by omega
            subst hy
            refine ⟨hk, ?_⟩
            rw [this, my_uI_2, my_uA_3, if_pos ⟨rfl, rfl⟩]
      obtain ⟨g1, g2⟩ := CR_st h he (fun c k hh => by unfold dF; omega) hD
      exact hQ _ g1 g2
    · have hl : ¬ S.2.2.2.length < 30 := fun hh => h30 ((oN_lt1 (b := 30) (c := 30) rfl (by omega) (by omega)).mpr hh)
      rw [if_neg hl] at hQ
      have h30 : S.2.2.2.length = 30 := by have := a4.2.1; omega
      unfold ys_208_76
      rw [a4.1, h30, show Int32.ofNat 30 - 1 = Int32.ofNat 29 from rfl]
      exact hQ σ h eqp_rf
theorem x_87 {r : Option Nat} {c : Int32} (h : CR t n L LT I w rv cu S p o σ) (hr : ∀ k, r = some k → k < 42) (hd : 2 ≤ d) (hQ : ∀ σ', CR t n L LT I w rv cu (wnm w c r S) p o σ' → eqp (xF rv cu) σ σ' → Q (.inl none) κ σ') : my_M e d 87 [.inr (.inr (some 39)), .inl c, .inr (.inr (itO rv r))] κ σ Q := by
  obtain ⟨d, rfl⟩ := dS 1 (show 1 ≤ d by omega)
  refine ys_87 ?_
  unfold ys_87_0 ys_87_36
  unfold wnm at hQ
  have hw := h.2.2.1.1
  have hrr := h.2.2.1.2.2.1
  cases w with
  | false =>
    rw [hw, if_pos (by decide)]
    exact hQ σ h eqp_rf
  | true =>
    rw [hw, if_neg (by decide)]
    rw [if_pos rfl] at hQ
    cases r with
    | none =>
      rw [if_pos (show itO rv none = none from rfl)]
      exact hQ σ h eqp_rf
    | some k =>
      rw [show itO rv (some k) = some (rv + 4 + 3 * k) from rfl, if_neg (by simp)]
      refine ⟨rv, hrr.1, in10 hrr.2.1, ?_⟩
      refine x_198 (k := 1) h (by omega) (by omega) rfl (fun σ1 g1 f1 => ?_)
      rw [my_k0_v]
      have hr1 := g1.2.2.1.2.2.1
      refine ⟨_, hr1.2.2.1, in11 hr1.2.1 hr1.2.2.2, ?_⟩
      refine x_208 g1 (hr k rfl) (by omega) (fun σ2 g2 f2 => ?_)
      rw [my_kI_v]
      refine ⟨rv, hr1.1, in10 hrr.2.1, ?_⟩
      refine x_198 (k := 1) g2 (by omega) (by omega) rfl (fun σ3 g3 f3 => ?_)
      rw [my_k0_v]
      exact hQ σ3 g3 (eqp_tr (eqp_tr f1 f2) f3)
/-- the code of the sign at hand -/
def opC (k m : Nat) : Int32 := if rnk k = m + 1 then Int32.ofNat (cod k) else Int32.ofInt (-1)
theorem x_89 {m : Nat} (ht : txt t n) (h : clT t n p σ) (hd : 1 ≤ d) (hm : m < 5) (hQ : Q (.inl (some (.inl (opC (tkk t n p) m)))) κ σ) : my_M e d 89 [.inr (.inr (some 39)), .inl (Int32.ofNat m)] κ σ Q := by
  obtain ⟨d, rfl⟩ := dS 1 hd
  refine ys_89 ?_
  have T : ∀ (k : Nat) (y : Int32), k < 1000 → y = Int32.ofNat k → (σ.1 33 8 = y ↔ tkk t n p = k) := fun k y hk hy => tcl ht h k hk hy
  unfold ys_89_0 ys_89_52 ys_89_65 ys_89_114 ys_89_138 ys_89_173
  simp only [T 124 124 (by omega) rfl, T 38 38 (by omega) rfl, T 256 256 (by omega) rfl, T 257 257 (by omega) rfl, T 60 60 (by omega) rfl, T 258 258 (by omega) rfl, T 43 43 (by omega) rfl, T 45 45 (by omega) rfl, T 42 42 (by omega) rfl, T 47 47 (by omega) rfl, T 37 37 (by omega) rfl]
  generalize tkk t n p = k at hQ ⊢
  have key : ∀ v : Int32, v = opC k m → Q (.inl (some (.inl v))) κ σ := fun v hv => by rw [hv]; exact hQ
  have hm5 : m = 0 ∨ m = 1 ∨ m = 2 ∨ m = 3 ∨ m = 4 := by omega
  rcases hm5 with rfl | rfl | rfl | rfl | rfl
  · rw [if_pos (by decide)]
    refine my_if (fun h1 => key _ (by subst h1; rfl)) (fun h1 => key _ ?_)
    unfold opC rnk; rw [if_neg (by repeat' split
                                   all_goals omega)]
  · rw [if_neg (by decide), if_pos (by decide)]
    refine my_if (fun h1 => key _ (by subst h1; rfl)) (fun h1 => key _ ?_)
    unfold opC rnk; rw [if_neg (by repeat' split
                                   all_goals omega)]
  · rw [if_neg (by decide), if_neg (by decide), if_pos (by decide)]
    refine my_if (fun h1 => key _ (by subst h1; rfl)) (fun h1 => my_if (fun h2 => key _ (by subst h2; rfl)) (fun h2 => my_if (fun h3 => key _ (by subst h3; rfl)) (fun h3 => my_if (fun h4 => key _ (by subst h4; rfl)) (fun h4 => key _ ?_))))
    unfold opC rnk; rw [if_neg (by repeat' split
                                   all_goals omega)]
  · rw [if_neg (by decide), if_neg (by decide), if_neg (by decide), if_pos (by decide)]
    refine my_if (fun h1 => key _ (by subst h1; rfl)) (fun h1 => my_if (fun h2 => key _ (by subst h2; rfl)) (fun h2 => key _ ?_))
    unfold opC rnk; rw [if_neg (by repeat' split
                                   all_goals omega)]
  · rw [if_neg (by decide), if_neg (by decide), if_neg (by decide), if_neg (by decide)]
    refine my_if (fun h1 => key _ (by subst h1; rfl)) (fun h1 => my_if (fun h2 => key _ (by subst h2; rfl)) (fun h2 => my_if (fun h3 => key _ (by subst h3; rfl)) (fun h3 => key _ ?_)))
    unfold opC rnk; rw [if_neg (by repeat' split
                                   all_goals omega)]
end MCA
