
/-! ===== the reference reads items: globals and arrays ===== -/
theorem i32_n (x : Int32) : Int32.ofNat x.toUInt32.toNat = x := by
  rw [← UInt32.toInt32_ofNat', UInt32.ofNat_toNat, Int32.toInt32_toUInt32]
theorem i64_n (x : Int64) : Int64.ofNat x.toUInt64.toNat = x := by
  rw [← UInt64.toInt64_ofNat', UInt64.ofNat_toNat, Int64.toInt64_toUInt64]
theorem nmR_1 (x : Nat) : nmR [x] = Int64.ofNat x := by
  unfold nmR
  simp [pR]
theorem wtk_ex (σ : my_S) : ∀ m : Nat, ∃ W : List Wt, W.length = m ∧ wtk W σ
  | 0 => ⟨[], rfl, trivial⟩
  | m + 1 => by
    obtain ⟨W, h1, h2⟩ := wtk_ex σ m
    refine ⟨((σ.1 517 m).toUInt32.toNat, [(σ.2.1 518 m).toUInt64.toNat], (σ.1 519 m).toUInt32.toNat, (σ.1 520 m).toUInt32.toNat) :: W, by simp [h1], ?_, h2⟩
    rw [h1]
    exact ⟨(i32_n _).symm, ((nmR_1 _).trans (i64_n _)).symm, (i32_n _).symm, (i32_n _).symm⟩
theorem wts_ex (σ : my_S) : ∃ W, wts W σ := by
  obtain ⟨W, h1, h2⟩ := wtk_ex σ (σ.1 498 36).toUInt32.toNat
  exact ⟨W, by rw [h1, i32_n], h2⟩
def RG (t : Nat → Int32) (n : Nat) (R : List Rw) (p o : Nat) (σ : my_S) : Prop := rfT t n p σ ∧ σ.1 498 9 = fNo ∧ σ.1 498 10 = Int32.ofNat o ∧ rws R σ
def RK (t : Nat → Int32) (n : Nat) (X : Xs) (σ : my_S) : Prop := match X with
  | .inl (q, N) => RF t n q N σ
  | .inr (p, o, R) => RG t n R p o σ
theorem RM_K {t : Nat → Int32} {n : Nat} {L : List (List Nat)} {X : Xs} {σ : my_S} (h : RM t n L X σ) : RK t n X σ := by
  rcases X with ⟨q, m⟩ | ⟨p, o, R⟩
  · exact h
  · obtain ⟨W, h⟩ := h
    exact ⟨h.1, h.2.1, h.2.2.1, h.2.2.2.1⟩
theorem RK_M {t : Nat → Int32} {n : Nat} {L : List (List Nat)} {X : Xs} {σ : my_S} (h : RK t n X σ) (hl : ∀ p o R, X = .inr (p, o, R) → rlc L σ) : RM t n L X σ := by
  rcases X with ⟨q, m⟩ | ⟨p, o, R⟩
  · exact h
  · obtain ⟨W, hW⟩ := wts_ex σ
    exact ⟨W, h.1, h.2.1, h.2.2.1, h.2.2.2, hW, hl p o R rfl⟩
theorem RF_o {F : Nat → Nat → Prop} {t : Nat → Int32} {n q N : Nat} {σ σ' : my_S} (h : RF t n q N σ) (he : eqp F σ σ') (hF : ∀ c k, F c k → (c = 498 → 8 < k ∧ k ≠ 9 ∧ k ≠ 23) ∧ c ≠ 499 ∧ c ≠ 500) : RF t n q N σ' := by
  obtain ⟨h1, ⟨p, h2⟩, m, h3, h4⟩ := h
  exact ⟨(eqp_g he (fun hh => ((hF _ _ hh).1 rfl).2.1 rfl)).trans h1, ⟨p, rfT_o h2 he (fun c k hh => ⟨fun h' => ((hF c k hh).1 h').1, (hF c k hh).2⟩)⟩, m, h3, (eqp_g he (fun hh => ((hF _ _ hh).1 rfl).2.2 rfl)).trans h4⟩
theorem RG_o {F : Nat → Nat → Prop} {t : Nat → Int32} {n p o : Nat} {R : List Rw} {σ σ' : my_S} (h : RG t n R p o σ) (he : eqp F σ σ') (hF : ∀ c k, F c k → (c = 498 → 10 < k ∧ k ≠ 23) ∧ c ≠ 499 ∧ c ≠ 500 ∧ (c < 512 ∨ 515 < c)) : RG t n R p o σ' := by
  obtain ⟨h1, h2, h3, h4⟩ := h
  exact ⟨rfT_o h1 he (fun c k hh => ⟨fun h' => by have := ((hF c k hh).1 h').1; omega, (hF c k hh).2.1, (hF c k hh).2.2.1⟩), (eqp_g he (fun hh => by have := ((hF _ _ hh).1 rfl).1; omega)).trans h2, (eqp_g he (fun hh => by have := ((hF _ _ hh).1 rfl).1; omega)).trans h3, rws_o h4 he (fun c k hh => ⟨fun h' => ((hF c k hh).1 h').2, (hF c k hh).2.2.2⟩)⟩
theorem RK_o {F : Nat → Nat → Prop} {t : Nat → Int32} {n : Nat} {X : Xs} {σ σ' : my_S} (h : RK t n X σ) (he : eqp F σ σ') (hF : ∀ c k, F c k → (c = 498 → 10 < k ∧ k ≠ 23) ∧ c ≠ 499 ∧ c ≠ 500 ∧ (c < 512 ∨ 515 < c)) : RK t n X σ' := by
  rcases X with ⟨q, m⟩ | ⟨p, o, R⟩
  · exact RF_o h he (fun c k hh => ⟨fun h' => by have := (hF c k hh).1 h'; omega, (hF c k hh).2.1, (hF c k hh).2.2.1⟩)
  · exact RG_o h he hF
section MIG
variable {e : my_E} {d : Nat} {κ : my_K} {σ : my_S} {Q : my_O → my_K → my_S → Prop} {t : Nat → Int32} {n N : Nat} {X : Xs} {R : List Rw} {p o : Nat}
theorem RG_next (ht : txt t n) (h : RG t n R p o σ) (hQ : ∀ σ', RG t n R (nx t n p) o σ' → eqp eF σ σ' → Q (.inl none) κ σ') : my_M e (d + 3) 218 [.inr (.inr (some 498))] κ σ Q := by
  obtain ⟨h1, h2, h3, h4⟩ := h
  exact r_218n ht h1 (fun σ' g1 g2 => hQ σ' ⟨g1, (eqp_g g2 (by unfold rnF; omega)).trans h2, (eqp_g g2 (by unfold rnF; omega)).trans h3, rws_o h4 g2 (fun c k hh => by unfold rnF at hh; omega)⟩ (eqp_mo g2 (fun c k hh => by unfold rnF at hh; unfold eF; omega)))
theorem RG_bad {q : Nat} (h : RG t n R p o σ) (hN : R.length ≤ N) (hQ : ∀ σ', RF t n q N σ' → eqp eF σ σ' → Q (.inl none) κ σ') : my_M e (d + 1) 225 [.inr (.inr (some 498)), .inl (Int32.ofNat q)] κ σ Q := by
  obtain ⟨h1, h2, h3, h4⟩ := h
  refine ys_225 ?_
  unfold ys_225_0
  rw [h2, if_pos fNo_lt]
  unfold ys_225_16
  have he : eqp (fun c k => c = 498 ∧ k = 9) σ (my_uI σ 498 9 (Int32.ofNat q)) := eqp_I eqp_rf ⟨rfl, rfl⟩
  exact hQ _ ⟨by simp [my_uI], ⟨p, rfT_o h1 he (fun c k hh => by omega)⟩, R.length, hN, (eqp_g he (by omega)).trans h4.1⟩ (eqp_mo he (fun c k hh => by unfold eF; omega))
theorem K_nx (ht : txt t n) (hd : 3 ≤ d) (h : RK t n X σ) (hQ : ∀ σ', RK t n (xnx t n X) σ' → eqp eF σ σ' → Q (.inl none) κ σ') : my_M e d 218 [.inr (.inr (some 498))] κ σ Q := by
  obtain ⟨d, rfl⟩ := dS 3 hd
  rcases X with ⟨q, m⟩ | ⟨p, o, R⟩
  · exact RF_next ht h hQ
  · exact RG_next ht h hQ
theorem K_tk {k : Nat} {y : Int32} (ht : txt t n) (hd : 4 ≤ d) (hb : bX n N X) (hk : (33 ≤ k ∧ k < 127) ∨ (256 ≤ k ∧ k < 259) ∨ (300 ≤ k ∧ k < 317) ∨ k ≤ 3) (hy : y = Int32.ofNat (kR k)) (h : RK t n X σ) (hQ : ∀ σ', RK t n (xtk t n k X) σ' → eqp eF σ σ' → Q (.inl none) κ σ') : my_M e d 230 [.inr (.inr (some 498)), .inl y] κ σ Q := by
  rcases X with ⟨q, m⟩ | ⟨p, o, R⟩
  · obtain ⟨d, rfl⟩ := dS 1 (show 1 ≤ d by omega)
    have := hb.1
    exact RF_take h (by omega) (hQ σ h eqp_rf)
  · obtain ⟨d, rfl⟩ := dS 4 hd
    change RG t n R p o σ at h
    have T := tkq (p := p) ht k hk h.1.2.2.2.1 hy
    obtain ⟨h1, h2, h3⟩ := hb
    have hn := ht.1
    refine ys_230 ?_
    unfold ys_230_0
    rw [h.2.1, if_pos fNo_lt]
    unfold xtk at hQ
    simp only [] at hQ
    refine my_if (fun hh => ?_) (fun hh => ?_)
    · rw [if_pos (T.mp hh)] at hQ
      unfold ys_230_23 ys_230_34
      rw [h.2.1, if_pos fNo_lt]
      refine RG_next ht h (fun σ' g f => ?_)
      rw [my_k0_v]
      exact hQ σ' g f
    · rw [if_neg (fun h2 => hh (T.mpr h2))] at hQ
      rw [h.1.2.2.2.2.1]
      refine RG_bad (q := p) (N := R.length) h (Nat.le_refl _) (fun σ' g f => ?_)
      rw [my_k0_v]
      unfold ys_230_23 ys_230_34
      rw [if_neg (RF_lt g (by omega))]
      exact hQ σ' g f
/-- a type that stands there -/
def xty (t : Nat → Int32) (n : Nat) (X : Xs) : Xs := match X with
  | .inl a => .inl a
  | .inr (p, o, R) => if tkk t n p = 305 ∨ tkk t n p = 306 then .inr (nx t n p, o, R) else .inl (p, R.length)
theorem bX_ty (ht : txt t n) (hN : N ≤ 1000) (h : bX n N X) : bX n N (xty t n X) := by
  rcases X with ⟨q, m⟩ | ⟨p, o, R⟩
  · exact h
  · unfold xty
    simp only []
    by_cases hh : tkk t n p = 305 ∨ tkk t n p = 306
    · rw [if_pos hh]
      exact bX_nx (X := .inr (p, o, R)) ht h
    · rw [if_neg hh]
      exact bX_f ht hN h.2.1 h.2.2
theorem K_ty (ht : txt t n) (hd : 4 ≤ d) (hb : bX n N X) (h : RK t n X σ) (hQ : ∀ σ' v, RK t n (xty t n X) σ' → eqp eF σ σ' → (∀ p o R a, X = .inr (p, o, R) → tyq t n p = some a → v = a) → Q (.inl (some (.inl v))) κ σ') : my_M e d 231 [.inr (.inr (some 498))] κ σ Q := by
  obtain ⟨d, rfl⟩ := dS 4 hd
  rcases X with ⟨q, m⟩ | ⟨p, o, R⟩
  · have hq := hb.1
    change RF t n q m σ at h
    have fin : ∀ v, ys_231_14 e (d + 3) v κ σ Q := fun v => by
      unfold ys_231_14
      rw [if_neg (RF_lt h (by omega))]
      unfold ys_231_48 ys_231_59
      rw [if_neg (RF_lt h (by omega))]
      exact hQ σ v h eqp_rf (fun _ _ _ _ hh => by cases hh)
    refine ys_231 ?_
    unfold ys_231_0
    exact my_if (fun _ => fin _) (fun _ => fin _)
  · change RG t n R p o σ at h
    have T15 := tkq (p := p) ht 305 (by omega) h.1.2.2.2.1 (y := 15) rfl
    have T16 := tkq (p := p) ht 306 (by omega) h.1.2.2.2.1 (y := 16) rfl
    obtain ⟨b1, b2, b3⟩ := hb
    have hn := ht.1
    unfold xty at hQ
    simp only [] at hQ
    have adv : ∀ v, (tkk t n p = 305 ∨ tkk t n p = 306) → tyq t n p = some v → ys_231_48 e (d + 3) v κ σ Q := fun v h0 h1 => by
      rw [if_pos h0] at hQ
      unfold ys_231_48
      rw [h.2.1, if_pos fNo_lt]
      refine RG_next ht h (fun σ1 g1 f1 => ?_)
      rw [my_k0_v]
      unfold ys_231_59
      refine hQ σ1 v g1 f1 (fun p' o' R' a' hX ha => ?_)
      cases hX
      rw [h1] at ha
      cases ha
      rfl
    refine ys_231 ?_
    unfold ys_231_0
    refine my_if (fun h15 => ?_) (fun h15 => ?_)
    · unfold ys_231_14
      rw [h.2.1, if_pos fNo_lt, if_pos h15]
      exact adv 0 (Or.inl (T15.mp h15)) (by unfold tyq; rw [if_pos (T15.mp h15)])
    · unfold ys_231_14
      rw [h.2.1, if_pos fNo_lt, if_neg h15]
      have n15 : ¬ tkk t n p = 305 := fun hh => h15 (T15.mpr hh)
      refine my_if (fun h16 => ?_) (fun h16 => ?_)
      · exact adv 1 (Or.inr (T16.mp h16)) (by unfold tyq; rw [if_neg n15, if_pos (T16.mp h16)])
      · have n16 : ¬ tkk t n p = 306 := fun hh => h16 (T16.mpr hh)
        rw [if_neg (by omega)] at hQ
        rw [h.1.2.2.2.2.1]
        refine RG_bad (q := p) (N := R.length) h (Nat.le_refl _) (fun σ1 g1 f1 => ?_)
        rw [my_k0_v]
        unfold ys_231_48 ys_231_59
        rw [if_neg (RF_lt g1 (by omega))]
        refine hQ σ1 1 g1 f1 (fun p' o' R' a' hX ha => ?_)
        cases hX
        unfold tyq at ha
        rw [if_neg n15, if_neg n16] at ha
        cases ha
end MIG
/-- what the arrays of items take -/
def gF (k0 c k : Nat) : Prop := eF c k ∨ (503 ≤ c ∧ c ≤ 506 ∧ k = k0)
theorem gF_e {k0 c k : Nat} (h : eF c k) : gF k0 c k := Or.inl h
theorem gF_w {k0 c : Nat} {σ σ1 : my_S} {x : Int32} (h : 503 ≤ c ∧ c ≤ 506) (f : eqp (gF k0) σ σ1) : eqp (gF k0) σ (my_uI σ1 c k0 x) := eqp_I f (Or.inr ⟨h.1, h.2, rfl⟩)
theorem RK_w {t : Nat → Int32} {n k0 c : Nat} {X : Xs} {σ : my_S} {x : Int32} (hc : 503 ≤ c ∧ c ≤ 511) (h : RK t n X σ) : RK t n X (my_uI σ c k0 x) := RK_o (F := fun c' k' => c' = c ∧ k' = k0) h (eqp_I eqp_rf ⟨rfl, rfl⟩) (fun c' k' hh => by omega)
theorem uI_o {σ : my_S} {a k b j : Nat} {x : Int32} (h : b ≠ a) : (my_uI σ a k x).1 b j = σ.1 b j := by rw [my_uI_1, if_neg (fun hh => h hh.1)]
theorem uI_s {σ : my_S} {a k : Nat} {x : Int32} : (my_uI σ a k x).1 a k = x := by rw [my_uI_1, if_pos ⟨rfl, rfl⟩]
theorem bd48 {k : Nat} (h : k ≤ 42) : my_bd (Int32.ofNat k) 48 := ⟨by rw [oN_i (by omega)]; omega, by rw [oN_i (by omega)]; omega⟩
section MIH
variable {e : my_E} {d : Nat} {κ : my_K} {σ : my_S} {Q : my_O → my_K → my_S → Prop} {t : Nat → Int32} {n k0 : Nat} {R : List Rw}
/-- a global, where there was a fault -/
theorem r_229f {q N : Nat} {v : Int32} (ht : txt t n) (hd : 3 ≤ d) (hq : q ≤ 1500) (hk : k0 ≤ 42) (h : RF t n q N σ) (h11 : σ.1 498 11 = Int32.ofNat k0) (hQ : ∀ σ', RF t n q N σ' → eqp (gF k0) σ σ' → Q (.inl none) κ σ') : ys_229_61 e d v κ σ Q := by
  have bd := bd48 hk
  have up : ∀ {σ1 : my_S}, eqp (gF k0) σ σ1 → σ1.1 498 11 = Int32.ofNat k0 := fun f => (eqp_g f (by unfold gF eF; omega)).trans h11
  have e166 : ∀ σ1, RF t n q N σ1 → eqp (gF k0) σ σ1 → ys_229_166 e d κ σ1 Q := fun σ1 g f => by
    unfold ys_229_166
    obtain ⟨d, rfl⟩ := dS 1 (show 1 ≤ d by omega)
    refine RF_take g (by omega) ?_
    rw [my_k0_v]
    exact hQ σ1 g f
  have e165 : ∀ x σ1, RF t n q N σ1 → eqp (gF k0) σ σ1 → ys_229_165 e d x (σ1.1 498 11) κ σ1 Q := fun x σ1 g f => by
    unfold ys_229_165
    rw [up f, oN_n (by omega)]
    exact ⟨bd, e166 _ (RK_w (X := .inl (q, N)) (by omega) g) (gF_w (by omega) f)⟩
  have e137 : ∀ x σ1, RF t n q N σ1 → eqp (gF k0) σ σ1 → ys_229_137 e d x κ σ1 Q := fun x σ1 g f => by
    unfold ys_229_137
    obtain ⟨d, rfl⟩ := dS 1 (show 1 ≤ d by omega)
    refine RF_take g (by omega) ?_
    rw [my_k0_v]
    exact my_if (fun _ => e165 _ σ1 g f) (fun _ => e165 _ σ1 g f)
  have e128 : ∀ x σ1, RF t n q N σ1 → eqp (gF k0) σ σ1 → ys_229_128 e d x κ σ1 Q := fun x σ1 g f => by
    unfold ys_229_128
    refine my_if (fun _ => e137 x σ1 g f) (fun _ => ?_)
    obtain ⟨d, rfl⟩ := dS 3 hd
    refine RF_next ht g (fun σ2 g2 f2 => ?_)
    rw [my_k0_v]
    exact e137 x σ2 g2 (eqp_tr f (eqp_mo f2 (fun _ _ => gF_e)))
  have e106 : ∀ x σ1, RF t n q N σ1 → eqp (gF k0) σ σ1 → ys_229_106 e d x (σ1.1 498 11) κ σ1 Q := fun x σ1 g f => by
    unfold ys_229_106
    rw [up f, oN_n (by omega)]
    refine ⟨bd, ?_⟩
    obtain ⟨d, rfl⟩ := dS 3 hd
    refine RF_next ht (RK_w (X := .inl (q, N)) (c := 504) (k0 := k0) (x := x) (by omega) g) (fun σ2 g2 f2 => ?_)
    rw [my_k0_v]
    exact e166 σ2 g2 (eqp_tr (gF_w (by omega) f) (eqp_mo f2 (fun _ _ => gF_e)))
  have e79 : ∀ v x, ys_229_79 e d v x (σ.1 498 11) κ σ Q := fun v x => by
    unfold ys_229_79
    rw [h11, oN_n (by omega)]
    have g1 : RF t n q N (my_uI σ 505 k0 x) := RK_w (X := .inl (q, N)) (by omega) h
    have f1 : eqp (gF k0) σ (my_uI σ 505 k0 x) := gF_w (by omega) eqp_rf
    refine ⟨bd, my_if (fun _ => my_if (fun _ => e128 _ _ g1 f1) (fun _ => e128 _ _ g1 f1)) (fun _ => my_if (fun _ => e106 _ _ g1 f1) (fun _ => e106 _ _ g1 f1))⟩
  unfold ys_229_61
  exact my_if (fun _ => e79 _ _) (fun _ => e79 _ _)
/-- what is told of a global in the end -/
def gT (k0 : Nat) (R : List Rw) (ty : Int32) (x : Rj) (X : Xs) (σ : my_S) : Prop := (∀ q, x = .inl q → ∃ N, X = .inl (q, N)) ∧ ∀ a q, x = .inr (a, q) → X = .inr (q, 0, R) ∧ σ.1 503 k0 = ty ∧ σ.1 504 k0 = riV a ∧ σ.1 505 k0 = riC a ∧ σ.1 506 k0 = Int32.ofNat (riP a)
/-- .. its end -/
theorem r_229e {nm : List Nat} {P cp : Nat} {ty v ct : Int32} (ht : txt t n) (hd : 4 ≤ d) (hb : bX n 0 (.inr (P, 0, R))) (h : RG t n R P 0 σ) (v3 : σ.1 503 k0 = ty) (v4 : σ.1 504 k0 = v) (v5 : σ.1 505 k0 = ct) (v6 : σ.1 506 k0 = Int32.ofNat cp) (hQ : ∀ X σ', bX n 0 X → RK t n X σ' → gT k0 R ty (pg4 t n nm ty v ct cp P) X σ' → eqp eF σ σ' → Q (.inl none) κ σ') : ys_229_166 e d κ σ Q := by
  unfold ys_229_166
  refine K_tk (X := .inr (P, 0, R)) (k := 59) ht hd hb (by omega) rfl h (fun σ1 g1 f1 => ?_)
  rw [my_k0_v]
  have b1 := bX_tk (k := 59) ht (by omega) hb
  refine hQ _ σ1 b1 g1 ?_ f1
  have g : ∀ {c}, 503 ≤ c → c ≤ 506 → σ1.1 c k0 = σ.1 c k0 := fun h1 h2 => eqp_g f1 (by unfold eF; omega)
  unfold pg4 xtk
  simp only []
  by_cases h59 : tkk t n P = 59
  · rw [if_pos h59, if_pos h59]
    refine ⟨fun q hq => (by cases hq), fun a q hq => ?_⟩
    cases hq
    exact ⟨rfl, (g (by omega) (by omega)).trans v3, (g (by omega) (by omega)).trans v4, (g (by omega) (by omega)).trans v5, (g (by omega) (by omega)).trans v6⟩
  · rw [if_neg h59, if_neg h59]
    exact ⟨fun q hq => by cases hq; exact ⟨_, rfl⟩, fun a q hq => by cases hq⟩
/-- .. from its constant on -/
theorem r_229g {nm : List Nat} {P : Nat} {ty : Int32} (ht : txt t n) (hd : 4 ≤ d) (hk : k0 ≤ 42) (hb : bX n 0 (.inr (P, 0, R))) (h : RG t n R P 0 σ) (h11 : σ.1 498 11 = Int32.ofNat k0) (v3 : σ.1 503 k0 = ty) (v6 : σ.1 506 k0 = Int32.ofNat P) (hQ : ∀ X σ', bX n 0 X → RK t n X σ' → gT k0 R ty (pg3 t n nm ty P) X σ' → eqp (gF k0) σ σ' → Q (.inl none) κ σ') : ys_229_61 e d (if tkk t n P = 315 ∨ tkk t n P = 316 then 1 else 0) κ σ Q := by
  have bd := bd48 hk
  have hn := ht.1
  obtain ⟨_, b2, b3⟩ := hb
  have T25 := tkq (p := P) ht 315 (by omega) h.1.2.2.2.1 (y := 25) rfl
  have T45 := tkq (p := P) ht 45 (by omega) h.1.2.2.2.1 (y := 45) rfl
  unfold ys_229_61
  by_cases hw : tkk t n P = 315 ∨ tkk t n P = 316
  · rw [if_pos hw, if_neg (by decide)]
    unfold ys_229_79
    rw [h11, oN_n (by omega), if_neg (by decide)]
    have g1 : RG t n R P 0 (my_uI σ 505 k0 1) := RK_w (X := .inr (P, 0, R)) (by omega) h
    refine ⟨bd, ?_⟩
    have hPn : P < n := tk_lt (t := t) (by omega)
    have hx := nx_bd ht hPn
    have fin : ∀ x : Int32, (x = if tkk t n P = 315 then 1 else 0) → ys_229_106 e d x ((my_uI σ 505 k0 1).1 498 11) κ (my_uI σ 505 k0 1) Q := fun x hx1 => by
      unfold ys_229_106
      rw [uI_o (by omega), h11, oN_n (by omega)]
      refine ⟨bd, ?_⟩
      obtain ⟨d, rfl⟩ := dS 3 (show 3 ≤ d by omega)
      have g2 : RG t n R P 0 (my_uI (my_uI σ 505 k0 1) 504 k0 x) := RK_w (X := .inr (P, 0, R)) (by omega) g1
      refine RG_next ht g2 (fun σ2 g3 f3 => ?_)
      rw [my_k0_v]
      have gg : ∀ {c}, 503 ≤ c → c ≤ 506 → σ2.1 c k0 = (my_uI (my_uI σ 505 k0 1) 504 k0 x).1 c k0 := fun h1 h2 => eqp_g f3 (by unfold eF; omega)
      have fr : eqp (gF k0) σ σ2 := eqp_tr (gF_w (c := 504) (x := x) (by omega) (gF_w (c := 505) (x := 1) (by omega) eqp_rf)) (eqp_mo f3 (fun _ _ => gF_e))
      refine r_229e (k0 := k0) (nm := nm) (ty := ty) (v := x) (ct := 1) (cp := P) ht hd ⟨by omega, by omega, by omega⟩ g3 ?_ ?_ ?_ ?_ (fun X σ' hb' hX hg f => hQ X σ' hb' hX ?_ (eqp_tr fr (eqp_mo f (fun _ _ => gF_e))))
      · rw [gg (by omega) (by omega), uI_o (by omega), uI_o (by omega)]; exact v3
      · rw [gg (by omega) (by omega), uI_s]
      · rw [gg (by omega) (by omega), uI_o (by omega), uI_s]
      · rw [gg (by omega) (by omega), uI_o (by omega), uI_o (by omega)]; exact v6
      · unfold pg3
        rcases hw with hw | hw
        · rw [if_pos hw]
          rw [if_pos hw] at hx1
          rw [hx1] at hg; exact hg
        · rw [if_neg (by omega), if_pos hw]
          rw [if_neg (by omega)] at hx1
          rw [hx1] at hg; exact hg
    rw [uI_o (by omega)]
    refine my_if (fun h25 => fin 1 ?_) (fun h25 => fin 0 ?_)
    · rw [if_pos (T25.mp h25)]
    · rw [if_neg (fun hh => h25 (T25.mpr hh))]
  · rw [if_neg hw, if_pos rfl]
    unfold ys_229_79
    rw [h11, oN_n (by omega), if_pos rfl]
    have g1 : RG t n R P 0 (my_uI σ 505 k0 0) := RK_w (X := .inr (P, 0, R)) (by omega) h
    have f1 : eqp (gF k0) σ (my_uI σ 505 k0 0) := gF_w (by omega) eqp_rf
    have w3 : (my_uI σ 505 k0 0).1 503 k0 = ty := (uI_o (by omega)).trans v3
    have w5 : (my_uI σ 505 k0 0).1 505 k0 = 0 := uI_s
    have w6 : (my_uI σ 505 k0 0).1 506 k0 = Int32.ofNat P := (uI_o (by omega)).trans v6
    have w11 : (my_uI σ 505 k0 0).1 498 11 = Int32.ofNat k0 := (uI_o (by omega)).trans h11
    have w4 : (my_uI σ 505 k0 0).1 498 4 = σ.1 498 4 := uI_o (by omega)
    refine ⟨bd, ?_⟩
    rw [w4]
    generalize my_uI σ 505 k0 0 = σa at g1 f1 w3 w5 w6 w11 w4 ⊢
    -- from the number on
    have num : ∀ (m : Int32) (P' : Nat) (σb : my_S), bX n 0 (.inr (P', 0, R)) → RG t n R P' 0 σb → eqp eF σa σb → (∀ v, v = (if m = 0 then tkv t n P' else -(tkv t n P')) → tkk t n P' = 3 → pg3 t n nm ty P = pg4 t n nm ty v 0 P (nx t n P')) → (tkk t n P' ≠ 3 → pg3 t n nm ty P = .inl P') → ys_229_137 e d m κ σb Q := fun m P' σb hb' gb fb hy hno => by
      unfold ys_229_137
      refine K_tk (X := .inr (P', 0, R)) (k := 3) ht hd hb' (by omega) rfl gb (fun σ2 g2 f2 => ?_)
      rw [my_k0_v]
      have fr : eqp eF σa σ2 := eqp_tr fb f2
      have gg : ∀ {c}, 503 ≤ c → c ≤ 506 → σ2.1 c k0 = σa.1 c k0 := fun h1 h2 => eqp_g fr (by unfold eF; omega)
      have e11 : σ2.1 498 11 = Int32.ofNat k0 := (eqp_g fr (by unfold eF; omega)).trans w11
      by_cases h3 : tkk t n P' = 3
      · have g2' : RG t n R (nx t n P') 0 σ2 := by
          have := g2
          unfold xtk at this
          simp only [if_pos h3] at this
          exact this
        have hPn : P' < n := tk_lt (t := t) (by omega)
        have hx := nx_bd ht hPn
        have h7 : σb.1 498 7 = tkv t n P' := gb.1.2.2.2.2.2.2.2 h3
        have fin : ∀ v, v = (if m = 0 then tkv t n P' else -(tkv t n P')) → ys_229_165 e d v (σ2.1 498 11) κ σ2 Q := fun v hv => by
          unfold ys_229_165
          rw [e11, oN_n (by omega)]
          refine ⟨bd, ?_⟩
          have g3 : RG t n R (nx t n P') 0 (my_uI σ2 504 k0 v) := RK_w (X := .inr (nx t n P', 0, R)) (by omega) g2'
          have hb3 : bX n 0 (.inr (nx t n P', 0, R)) := ⟨by omega, hx.2, by have := hb'.2.2; omega⟩
          have fr3 : eqp (gF k0) σ (my_uI σ2 504 k0 v) := gF_w (by omega) (eqp_tr f1 (eqp_mo fr (fun _ _ => gF_e)))
          refine r_229e (k0 := k0) (nm := nm) (ty := ty) (v := v) (ct := 0) (cp := P) ht hd hb3 g3 ?_ uI_s ?_ ?_ (fun X σ' hb'' hX hg f => hQ X σ' hb'' hX ?_ (eqp_tr fr3 (eqp_mo f (fun _ _ => gF_e))))
          · rw [uI_o (by omega), gg (by omega) (by omega)]; exact w3
          · rw [uI_o (by omega), gg (by omega) (by omega)]; exact w5
          · rw [uI_o (by omega), gg (by omega) (by omega)]; exact w6
          · rw [hy v hv h3]; exact hg
        refine my_if (fun h0 => ?_) (fun h0 => ?_)
        · exact fin _ (by rw [if_pos h0]; exact h7)
        · exact fin _ (by rw [if_neg h0, h7])
      · have g2' : RF t n P' R.length σ2 := by
          have := g2
          unfold xtk at this
          simp only [if_neg h3] at this
          exact this
        have fin : ∀ v, ys_229_165 e d v (σ2.1 498 11) κ σ2 Q := fun v => by
          unfold ys_229_165
          rw [e11, oN_n (by omega)]
          refine ⟨bd, ?_⟩
          unfold ys_229_166
          obtain ⟨d, rfl⟩ := dS 1 (show 1 ≤ d by omega)
          have hP' : P' ≤ 1500 := by have := hb'.2.1; omega
          refine RF_take (RK_w (X := .inl (P', R.length)) (c := 504) (k0 := k0) (x := v) (by omega) g2') (by omega) ?_
          rw [my_k0_v]
          refine hQ (.inl (P', R.length)) _ ⟨hP', by have := hb'.2.2; have := hb'.2.1; omega⟩ (RK_w (X := .inl (P', R.length)) (by omega) g2') ?_ (gF_w (by omega) (eqp_tr f1 (eqp_mo fr (fun _ _ => gF_e))))
          rw [hno h3]
          exact ⟨fun q hq => by cases hq; exact ⟨_, rfl⟩, fun a q hq => by cases hq⟩
        exact my_if (fun _ => fin _) (fun _ => fin _)
    refine my_if (fun h45 => ?_) (fun h45 => ?_)
    · have h45 := T45.mp h45
      unfold ys_229_128
      rw [if_neg (by decide)]
      obtain ⟨d, rfl⟩ := dS 3 (show 3 ≤ d by omega)
      have hPn : P < n := tk_lt (t := t) (by omega)
      have hx := nx_bd ht hPn
      refine RG_next ht g1 (fun σ2 g2 f2 => ?_)
      rw [my_k0_v]
      refine num 1 (nx t n P) σ2 ⟨by omega, hx.2, by omega⟩ g2 f2 (fun v hv h3 => ?_) (fun h3 => ?_)
      · rw [if_neg (by decide)] at hv
        unfold pg3
        rw [if_neg (by omega), if_neg (by omega), if_neg (by omega), if_pos h45, if_pos h3, hv]
      · unfold pg3
        rw [if_neg (by omega), if_neg (by omega), if_neg (by omega), if_pos h45, if_neg h3]
    · have h45 : ¬ tkk t n P = 45 := fun hh => h45 (T45.mpr hh)
      unfold ys_229_128
      rw [if_pos rfl]
      refine num 0 P σa ⟨by omega, b2, b3⟩ g1 eqp_rf (fun v hv h3 => ?_) (fun h3 => ?_)
      · rw [if_pos rfl] at hv
        unfold pg3
        rw [if_neg (by omega), if_neg (by omega), if_pos h3, hv]
      · unfold pg3
        rw [if_neg (by omega), if_neg (by omega), if_neg h3, if_neg h45]
theorem pg3_T {nm : List Nat} {ty : Int32} {P : Nat} {a : Ri} {q : Nat} (h : pg3 t n nm ty P = .inr (a, q)) : riT a = ty := by
  unfold pg3 pg4 at h
  repeat' split at h
  all_goals first
    | (cases h; rfl)
    | cases h
/-- a global -/
theorem r_229 {nm : List Nat} {p : Nat} (ht : txt t n) (hd : 5 ≤ d) (hk : k0 ≤ 42) (hb : bX n 0 (.inr (p, 0, R))) (h : RG t n R p 0 σ) (h11 : σ.1 498 11 = Int32.ofNat k0) (hQ : ∀ X σ', bX n 0 X → RK t n X σ' → (∀ q, pgl t n nm p = .inl q → ∃ N, X = .inl (q, N)) → (∀ a q, pgl t n nm p = .inr (a, q) → X = .inr (q, 0, R) ∧ σ'.1 503 k0 = riT a ∧ σ'.1 504 k0 = riV a ∧ σ'.1 505 k0 = riC a ∧ σ'.1 506 k0 = Int32.ofNat (riP a)) → eqp (gF k0) σ σ' → Q (.inl none) κ σ') : my_M e d 229 [.inr (.inr (some 498))] κ σ Q := by
  obtain ⟨d, rfl⟩ := dS 1 (show 1 ≤ d by omega)
  have bd := bd48 hk
  have hn := ht.1
  refine ys_229 ?_
  unfold ys_229_0
  refine K_tk (X := .inr (p, 0, R)) (k := 58) ht (by omega) hb (by omega) rfl h (fun σ1 g1 f1 => ?_)
  rw [my_k0_v]
  have b1 := bX_tk (k := 58) ht (show 0 ≤ 1000 by omega) hb
  refine K_ty ht (by omega) b1 g1 (fun σ2 v g2 f2 hv => ?_)
  rw [my_kI_v]
  have b2 := bX_ty ht (show 0 ≤ 1000 by omega) b1
  have e1 : σ1.1 498 11 = Int32.ofNat k0 := (eqp_g f1 (by unfold eF; omega)).trans h11
  rw [e1, oN_n (by omega)]
  refine ⟨bd, ?_⟩
  have g3 := RK_w (c := 503) (k0 := k0) (x := v) (by omega) g2
  refine K_tk (k := 61) ht (by omega) b2 (by omega) rfl g3 (fun σ3 g4 f4 => ?_)
  rw [my_k0_v]
  have b3 := bX_tk (k := 61) ht (show 0 ≤ 1000 by omega) b2
  have fr : eqp (gF k0) σ σ3 := eqp_tr (gF_w (by omega) (eqp_mo (eqp_tr f1 f2) (fun _ _ => gF_e))) (eqp_mo f4 (fun _ _ => gF_e))
  have e3 : σ3.1 498 11 = Int32.ofNat k0 := (eqp_g fr (by unfold gF eF; omega)).trans h11
  have v3 : σ3.1 503 k0 = v := (eqp_g f4 (by unfold eF; omega)).trans uI_s
  rw [e3, oN_n (by omega)]
  refine ⟨bd, ?_⟩
  have g5 := RK_w (c := 506) (k0 := k0) (x := σ3.1 498 5) (by omega) g4
  have fr5 : eqp (gF k0) σ (my_uI σ3 506 k0 (σ3.1 498 5)) := gF_w (by omega) fr
  rw [uI_o (by omega)]
  have e5 : (my_uI σ3 506 k0 (σ3.1 498 5)).1 498 11 = Int32.ofNat k0 := (uI_o (by omega)).trans e3
  -- what it comes to, by where it stands
  rcases hX : xtk t n 61 (xty t n (xtk t n 58 (.inr (p, 0, R)))) with ⟨q, N⟩ | ⟨P, o, R'⟩
  · rw [hX] at g5 b3
    have hp : pgl t n nm p = .inl q := by
      unfold pgl
      unfold xtk at hX
      simp only [] at hX
      by_cases c1 : tkk t n p = 58
      · rw [if_pos c1] at hX ⊢
        unfold xty pg2 at *
        simp only [] at hX
        by_cases c2 : tkk t n (nx t n p) = 305 ∨ tkk t n (nx t n p) = 306
        · rw [if_pos c2] at hX
          simp only [] at hX
          have hty : ∃ a, tyq t n (nx t n p) = some a := by
            unfold tyq
            rcases c2 with c2 | c2
            · exact ⟨0, by rw [if_pos c2]⟩
            · exact ⟨1, by rw [if_neg (by omega), if_pos c2]⟩
          obtain ⟨a, ha⟩ := hty
          rw [ha]
          dsimp only
          by_cases c3 : tkk t n (nx t n (nx t n p)) = 61
          · rw [if_pos c3] at hX; cases hX
          · rw [if_neg c3] at hX ⊢
            cases hX; rfl
        · rw [if_neg c2] at hX
          simp only [] at hX
          have hty : tyq t n (nx t n p) = none := by unfold tyq; rw [if_neg (by omega), if_neg (by omega)]
          rw [hty]
          cases hX; rfl
      · rw [if_neg c1] at hX ⊢
        simp only [xty] at hX
        cases hX; rfl
    have fin : ∀ v, ys_229_61 e d v κ (my_uI σ3 506 k0 (σ3.1 498 5)) Q := fun v => r_229f ht (by omega) b3.1 hk g5 e5 (fun σ' g f => hQ (.inl (q, N)) σ' b3 g (fun q' hq => by rw [hp] at hq; cases hq; exact ⟨_, rfl⟩) (fun a q' hq => by rw [hp] at hq; cases hq) (eqp_tr fr5 f))
    unfold ys_229_56
    exact my_if (fun _ => fin _) (fun _ => my_if (fun _ => fin _) (fun _ => fin _))
  · rw [hX] at g5 b3 g4
    have hp : ∃ a, tyq t n (nx t n p) = some a ∧ pgl t n nm p = pg3 t n nm a P ∧ P = nx t n (nx t n (nx t n p)) ∧ o = 0 ∧ R' = R ∧ tkk t n p = 58 := by
      unfold pgl
      unfold xtk at hX
      simp only [] at hX
      by_cases c1 : tkk t n p = 58
      · rw [if_pos c1] at hX ⊢
        unfold xty pg2 at *
        simp only [] at hX
        by_cases c2 : tkk t n (nx t n p) = 305 ∨ tkk t n (nx t n p) = 306
        · rw [if_pos c2] at hX
          simp only [] at hX
          have hty : ∃ a, tyq t n (nx t n p) = some a := by
            unfold tyq
            rcases c2 with c2 | c2
            · exact ⟨0, by rw [if_pos c2]⟩
            · exact ⟨1, by rw [if_neg (by omega), if_pos c2]⟩
          obtain ⟨a, ha⟩ := hty
          refine ⟨a, ha, ?_⟩
          rw [ha]
          dsimp only
          by_cases c3 : tkk t n (nx t n (nx t n p)) = 61
          · rw [if_pos c3] at hX ⊢
            cases hX
            exact ⟨rfl, rfl, rfl, rfl, c1⟩
          · rw [if_neg c3] at hX; cases hX
        · rw [if_neg c2] at hX
          simp only [] at hX
          cases hX
      · rw [if_neg c1] at hX
        simp only [xty] at hX
        cases hX
    obtain ⟨a, ha, hp, hP, rfl, rfl, c1⟩ := hp
    have hva : v = a := hv (nx t n p) 0 R' a (by unfold xtk; simp only [if_pos c1]) ha
    subst hva
    change RG t n R' P 0 σ3 at g4
    have h5 : σ3.1 498 5 = Int32.ofNat P := g4.1.2.2.2.2.1
    rw [h5] at g5 fr5 e5 ⊢
    have T25 := tkq (p := P) ht 315 (by omega) g4.1.2.2.2.1 (y := 25) rfl
    have T26 := tkq (p := P) ht 316 (by omega) g4.1.2.2.2.1 (y := 26) rfl
    have key := r_229g (e := e) (d := d) (κ := κ) (Q := Q) (nm := nm) (P := P) (ty := v) (R := R') (σ := my_uI σ3 506 k0 (Int32.ofNat P)) ht (by omega) hk b3 g5 e5 ((uI_o (by omega)).trans v3) uI_s (fun X σ' hb' hX' hg f => hQ X σ' hb' hX' (fun q hq => hg.1 q (by rw [← hp]; exact hq)) (fun x q hq => by
      have hh := hg.2 x q (by rw [← hp]; exact hq)
      refine ⟨hh.1, ?_, hh.2.2⟩
      have hB := (pg3_T (t := t) (n := n) (nm := nm) (ty := v) (P := P) (a := x) (q := q) (by rw [← hp]; exact hq))
      rw [hB]; exact hh.2.1) (eqp_tr fr5 f))
    unfold ys_229_56
    refine my_if (fun h25 => ?_) (fun h25 => my_if (fun h26 => ?_) (fun h26 => ?_))
    · rw [if_pos (Or.inl (T25.mp h25))] at key; exact key
    · rw [if_pos (Or.inr (T26.mp h26))] at key; exact key
    · rw [if_neg (fun hh => by rcases hh with hh | hh; exact h25 (T25.mpr hh); exact h26 (T26.mpr hh))] at key; exact key
end MIH
