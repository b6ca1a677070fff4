
/-! ===== the reference reads items: arrays and parameters ===== -/
section MIJ
variable {e : my_E} {d : Nat} {κ : my_K} {σ : my_S} {Q : my_O → my_K → my_S → Prop} {t : Nat → Int32} {n k0 : Nat} {R : List Rw}
/-- an array -/
theorem r_232 {nm : List Nat} {p : Nat} (ht : txt t n) (hd : 5 ≤ d) (hk : k0 ≤ 42) (hb : bX n 0 (.inr (p, 0, R))) (h : RG t n R p 0 σ) (h11 : σ.1 498 11 = Int32.ofNat k0) (hQ : ∀ X σ', bX n 0 X → RK t n X σ' → (∀ q, par t n nm p = .inl q → ∃ N, X = .inl (q, N)) → (∀ a q, par t n nm p = .inr (a, q) → X = .inr (q, 0, R) ∧ σ'.1 504 k0 = riV a) → eqp (gF k0) σ σ' → Q (.inl none) κ σ') : my_M e d 232 [.inr (.inr (some 498))] κ σ Q := by
  obtain ⟨d, rfl⟩ := dS 1 (show 1 ≤ d by omega)
  have bd := bd48 hk
  have hn := ht.1
  have e46 : ∀ X σ1, bX n 0 X → RK t n X σ1 → eqp (gF k0) σ σ1 → (∀ σ', RK t n (xtk t n 59 (xtk t n 93 (xtk t n 3 X))) σ' → σ'.1 504 k0 = σ1.1 498 7 → eqp (gF k0) σ σ' → Q (.inl none) κ σ') → ys_232_46 e d κ σ1 Q := fun X σ1 hb1 g1 f1 hq => by
    unfold ys_232_46
    have e11 : σ1.1 498 11 = Int32.ofNat k0 := (eqp_g f1 (by unfold gF eF; omega)).trans h11
    rw [e11, oN_n (by omega)]
    refine ⟨bd, ?_⟩
    have g2 := RK_w (c := 504) (k0 := k0) (x := σ1.1 498 7) (by omega) g1
    have b2 := bX_tk (k := 3) ht (show 0 ≤ 1000 by omega) hb1
    have b3 := bX_tk (k := 93) ht (show 0 ≤ 1000 by omega) b2
    refine K_tk (k := 3) ht (by omega) hb1 (by omega) rfl g2 (fun σ2 g3 f3 => ?_)
    rw [my_k0_v]
    refine K_tk (k := 93) ht (by omega) b2 (by omega) rfl g3 (fun σ3 g4 f4 => ?_)
    rw [my_k0_v]
    refine K_tk (k := 59) ht (by omega) b3 (by omega) rfl g4 (fun σ4 g5 f5 => ?_)
    rw [my_k0_v]
    have fe := eqp_tr (eqp_tr f3 f4) f5
    refine hq σ4 g5 ?_ (eqp_tr (gF_w (c := 504) (x := σ1.1 498 7) (by omega) f1) (eqp_mo fe (fun _ _ => gF_e)))
    rw [eqp_g fe (by unfold eF; omega), uI_s]
  refine ys_232 ?_
  unfold ys_232_0
  refine K_tk (X := .inr (p, 0, R)) (k := 91) ht (by omega) hb (by omega) rfl h (fun σ1 g1 f1 => ?_)
  rw [my_k0_v]
  have b1 := bX_tk (k := 91) ht (show 0 ≤ 1000 by omega) hb
  have f1g : eqp (gF k0) σ σ1 := eqp_mo f1 (fun _ _ => gF_e)
  unfold xtk at g1 b1
  simp only [] at g1 b1
  unfold par at hQ
  by_cases c1 : tkk t n p = 91
  · rw [if_pos c1] at g1 b1 hQ
    change RG t n R (nx t n p) 0 σ1 at g1
    have hPn : p < n := tk_lt (t := t) (by omega)
    have hx := nx_bd ht hPn
    rw [g1.2.1, if_pos fNo_lt]
    have T3 := tkq (p := nx t n p) ht 3 (by omega) g1.1.2.2.2.1 (y := 3) rfl
    have bad : ¬ (tkk t n (nx t n p) = 3 ∧ ¬ tkv t n (nx t n p) < 1 ∧ ¬ (32 : Int32) < tkv t n (nx t n p)) → ys_232_38 e d κ σ1 Q := fun hh => by
      rw [if_neg hh] at hQ
      unfold ys_232_38
      rw [g1.1.2.2.2.2.1]
      obtain ⟨d, rfl⟩ := dS 1 (show 1 ≤ d by omega)
      refine RG_bad (q := nx t n p) (N := R.length) g1 (Nat.le_refl _) (fun σ2 g2 f2 => ?_)
      rw [my_k0_v]
      have bf : bX n 0 (.inl (nx t n p, R.length)) := ⟨by omega, by have := b1.2.2; omega⟩
      exact e46 (.inl (nx t n p, R.length)) σ2 bf g2 (eqp_tr f1g (eqp_mo f2 (fun _ _ => gF_e))) (fun σ' g' _ f' => hQ _ σ' bf g' (fun q hq => by cases hq; exact ⟨_, rfl⟩) (fun a q hq => by cases hq) f')
    refine my_if (fun h3 => ?_) (fun h3 => bad (fun hh => h3 (T3.mpr hh.1)))
    have h3 := T3.mp h3
    have h7 : σ1.1 498 7 = tkv t n (nx t n p) := g1.1.2.2.2.2.2.2.2 h3
    rw [h7]
    refine my_if (fun hl => bad (fun hh => hh.2.1 hl)) (fun hl => my_if (fun hg => bad (fun hh => hh.2.2 hg)) (fun hg => ?_))
    rw [if_pos ⟨h3, hl, hg⟩] at hQ
    have hP2 : nx t n p < n := tk_lt (t := t) (by omega)
    have hx2 := nx_bd ht hP2
    have B1 : bX n 0 (xtk t n 59 (xtk t n 93 (xtk t n 3 (.inr (nx t n p, 0, R))))) := bX_tk ht (by omega) (bX_tk ht (by omega) (bX_tk ht (by omega) b1))
    refine e46 (.inr (nx t n p, 0, R)) σ1 b1 g1 f1g (fun σ' g' v4 f' => hQ _ σ' B1 g' (fun q hq => ?_) (fun a q hq => ?_) f')
    · unfold pr3 at hq
      unfold xtk
      simp only [if_pos h3]
      by_cases c2 : tkk t n (nx t n (nx t n p)) = 93
      · rw [if_pos c2] at hq
        simp only [if_pos c2]
        by_cases c3 : tkk t n (nx t n (nx t n (nx t n p))) = 59
        · rw [if_pos c3] at hq; cases hq
        · rw [if_neg c3] at hq
          simp only [if_neg c3]
          cases hq
          exact ⟨_, rfl⟩
      · rw [if_neg c2] at hq
        simp only [if_neg c2]
        cases hq
        exact ⟨_, rfl⟩
    · unfold pr3 at hq
      unfold xtk
      simp only [if_pos h3]
      by_cases c2 : tkk t n (nx t n (nx t n p)) = 93
      · rw [if_pos c2] at hq
        simp only [if_pos c2]
        by_cases c3 : tkk t n (nx t n (nx t n (nx t n p))) = 59
        · rw [if_pos c3] at hq
          simp only [if_pos c3]
          cases hq
          exact ⟨rfl, v4.trans h7⟩
        · rw [if_neg c3] at hq; cases hq
      · rw [if_neg c2] at hq; cases hq
  · rw [if_neg c1] at g1 b1 hQ
    change RF t n p R.length σ1 at g1
    have hp := b1.1
    rw [if_neg (RF_lt g1 (by omega))]
    exact e46 (.inl (p, R.length)) σ1 b1 g1 f1g (fun σ' g' _ f' => hQ _ σ' b1 g' (fun q hq => by cases hq; exact ⟨_, rfl⟩) (fun a q hq => by cases hq) f')
/-- one more local -/
theorem rlc_a {L : List (List Nat)} {l : List Nat} {i : Nat} {x y : Int32} (h : rlc L σ) (hl : isN l) (h10 : L.length < 10) (h5 : σ.2.1 516 L.length = nmR l) (hy : y = Int32.ofNat (L.length + 1)) : rlc (L ++ [l]) (my_uI (my_uI σ 508 i x) 498 29 y) := by
  refine ⟨?_, by simp; omega, fun m hm => ?_, fun j m hj => ?_⟩
  · rw [uI_s, hy]; simp
  · rcases List.mem_append.mp hm with hm | hm
    · exact h.2.2.1 m hm
    · rw [List.mem_singleton.mp hm]; exact hl
  · rw [my_uI_2, my_uI_2]
    by_cases hjl : j < L.length
    · rw [List.getElem?_append_left hjl] at hj
      exact h.2.2.2 j m hj
    · rw [List.getElem?_append_right (by omega)] at hj
      have hi0 : j - L.length = 0 := by
        by_cases h0 : j - L.length = 0
        · exact h0
        · rw [List.getElem?_eq_none (by simp; omega)] at hj
          cases hj
      rw [hi0] at hj
      simp only [List.getElem?_cons_zero, Option.some.injEq] at hj
      rw [show j = L.length by omega, ← hj]
      exact h5
/-- parameters and locals, what they take -/
def hpF (k0 c k : Nat) : Prop := eF c k ∨ c = 516 ∨ (c = 498 ∧ k = 29) ∨ (c = 508 ∧ 4 * k0 ≤ k)
theorem hpF_e {c k : Nat} (h : eF c k) : hpF k0 c k := Or.inl h
theorem rnm_h {NL : List (List Nat)} {σ' : my_S} (h : rnm NL σ) (he : eqp (hpF k0) σ σ') : rnm NL σ' := rnm_o h he (fun c k hh => by unfold hpF eF at hh; omega)
def ptm (k0 : Nat) (T : List Int32) (σ : my_S) : Prop := ∀ j x, T[j]? = some x → σ.1 508 (4 * k0 + j) = x
theorem ptm_o {F : Nat → Nat → Prop} {T : List Int32} {σ' : my_S} (h : ptm k0 T σ) (he : eqp F σ σ') (hF : ∀ c k, F c k → c ≠ 508) : ptm k0 T σ' := fun j x hj => (eqp_g he (fun hh => hF _ _ hh rfl)).trans (h j x hj)
theorem ptm_a {T : List Int32} {x y : Int32} (h : ptm k0 T σ) : ptm k0 (T ++ [x]) (my_uI (my_uI σ 508 (4 * k0 + T.length) x) 498 29 y) := fun j z hj => by
  rw [uI_o (by omega)]
  by_cases hjl : j < T.length
  · rw [List.getElem?_append_left hjl] at hj
    rw [my_uI_1, if_neg (by omega)]
    exact h j z hj
  · rw [List.getElem?_append_right (by omega)] at hj
    have hi0 : j - T.length = 0 := by
      by_cases h0 : j - T.length = 0
      · exact h0
      · rw [List.getElem?_eq_none (by simp; omega)] at hj
        cases hj
    rw [hi0] at hj
    simp only [List.getElem?_cons_zero, Option.some.injEq] at hj
    rw [show j = T.length by omega, uI_s]
    exact hj
/-- what the list of parameters comes to -/
def ppT (t : Nat → Int32) (n k0 : Nat) (R : List Rw) (x : Rp) (σ : my_S) : Prop := match x with
  | .inl q => ∃ N, RF t n q N σ ∧ bX n 0 (.inl (q, N))
  | .inr (L, T, q) => RM t n L (.inr (q, 0, R)) σ ∧ bX n 0 (.inr (q, 0, R)) ∧ ptm k0 T σ
theorem r_234z {q N : Nat} (ht : txt t n) (hd : 5 ≤ d) (hb : bX n 0 (.inl (q, N))) (h : RF t n q N σ) (hQ : ∀ σ', RF t n q N σ' → eqp eF σ σ' → Q (.inl none) κ σ') : ys_234_128 e d κ σ Q := by
  unfold ys_234_128
  refine M_cl (L := []) (X := .inl (q, N)) (k := 41) ht hd hb (by omega) (by omega) rfl (fun _ _ _ hh => by cases hh) h (fun σ' g f => ?_)
  rw [my_k0_v]
  exact hQ σ' g f
theorem r_234y {q : Nat} {L : List (List Nat)} {T : List Int32} (ht : txt t n) (hd : 5 ≤ d) (hb : bX n 0 (.inr (q, 1, R))) (h : RM t n L (.inr (q, 1, R)) σ) (hp : ptm k0 T σ) (hQ : ∀ σ', ppT t n k0 R (if tkk t n q = 41 then .inr (L, T, nx t n q) else .inl q) σ' → eqp eF σ σ' → Q (.inl none) κ σ') : ys_234_128 e d κ σ Q := by
  unfold ys_234_128
  refine M_cl (X := .inr (q, 1, R)) (k := 41) ht hd hb (by omega) (by omega) rfl (fun _ _ _ hh => by cases hh; exact Nat.le_refl 1) h (fun σ' g f => ?_)
  rw [my_k0_v]
  have b' := bX_cl (k := 41) ht (show 0 ≤ 1000 by omega) hb
  refine hQ σ' ?_ f
  unfold xcl at g b'
  simp only [] at g b'
  by_cases c : tkk t n q = 41
  · rw [if_pos c] at g b' ⊢
    exact ⟨g, b', ptm_o hp f (fun c k hh => by unfold eF at hh; omega)⟩
  · rw [if_neg c] at g b' ⊢
    exact ⟨_, g, b'⟩
/-- the loop -/
theorem r_234l {NL : List (List Nat)} {own : List Nat} (ht : txt t n) (hd : 6 ≤ d) (hk : k0 ≤ 42) : ∀ (f p : Nat) (L : List (List Nat)) (T : List Int32) (σ : my_S), tkk t n p = 2 → L.length = T.length → L.length + f = 5 → 1 ≤ f → σ.1 498 11 = Int32.ofNat k0 → RM t n L (.inr (p, 1, R)) σ → bX n 0 (.inr (p, 1, R)) → RN NL own σ → ptm k0 T σ → (∀ σ', ppT t n k0 R (ppr t n (NL ++ [own]) f p L T) σ' → eqp (hpF k0) σ σ' → Q (.inl none) κ σ') → ys_234_27 e d 1 κ σ Q := by
  intro f
  induction f with
  | zero => intro p L T σ _ _ _ h; omega
  | succ f ih =>
    intro p L T σ h2 hLT hLf _ h11 h hb hN hp hQ
    have hn := ht.1
    have hbp := hb.2.1
    have hb3 := hb.2.2
    unfold ys_234_27
    rw [if_neg (by decide), if_pos (RM_R h)]
    refine r_237 (most := 4) (NL := NL) (own := own) ht (by omega) (by omega) rfl hb hN.1 hN.2 (by omega) h (fun σ1 g1 l1 f1 => ?_)
    rw [my_k0_v]
    have b1 := bX_nl (L := L) (Nf := NL ++ [own]) (most := 4) ht (show 0 ≤ 1000 by omega) hb
    have b2 := bX_tk (k := 58) ht (show 0 ≤ 1000 by omega) b1
    have b3 := bX_ty ht (show 0 ≤ 1000 by omega) b2
    refine M_tk (k := 58) ht (by omega) b1 (by omega) (by omega) rfl g1 (fun σ2 g2 f2 => ?_)
    rw [my_k0_v]
    refine K_ty ht (by omega) b2 (RM_K g2) (fun σ3 v g3 f3 hv => ?_)
    rw [my_kI_v]
    have fA : eqp (hpF k0) σ σ2 := eqp_tr (eqp_mo f1 (fun c k hh => by unfold nlF eF at hh; unfold hpF eF; omega)) (eqp_mo f2 (fun _ _ => hpF_e))
    have fB : eqp (hpF k0) σ σ3 := eqp_tr fA (eqp_mo f3 (fun _ _ => hpF_e))
    have hl0 : rlc L σ := by obtain ⟨W, h⟩ := h; exact h.2.2.2.2.2
    have e29 : ∀ {σ' : my_S}, eqp nlF σ σ1 → eqp eF σ1 σ' → σ'.1 498 29 = Int32.ofNat L.length := fun fa fb => ((eqp_g fb (by unfold eF; omega)).trans (eqp_g fa (by unfold nlF eF; omega))).trans hl0.1
    have e11 : ∀ {σ' : my_S}, eqp nlF σ σ1 → eqp eF σ1 σ' → σ'.1 498 11 = Int32.ofNat k0 := fun fa fb => ((eqp_g fb (by unfold eF; omega)).trans (eqp_g fa (by unfold nlF eF; omega))).trans h11
    rw [e29 f1 f2, e11 f1 f2, e29 f1 (eqp_tr f2 f3)]
    have e4 : (4 : Int32) * Int32.ofNat k0 + Int32.ofNat L.length = Int32.ofNat (4 * k0 + L.length) := by
      rw [Int32.ofNat_add, Int32.ofNat_mul]; rfl
    rw [e4, oN_n (by omega), oN_s]
    refine ⟨⟨by rw [oN_i (by omega)]; omega, by rw [oN_i (by omega)]; omega⟩, ?_⟩
    have fC : eqp (hpF k0) σ (my_uI (my_uI σ3 508 (4 * k0 + L.length) v) 498 29 (Int32.ofNat (L.length + 1))) := eqp_I (eqp_I fB (by unfold hpF; omega)) (by unfold hpF; omega)
    have gC : RK t n (xty t n (xtk t n 58 (xnl t n L (NL ++ [own]) 4 (.inr (p, 1, R))))) (my_uI (my_uI σ3 508 (4 * k0 + L.length) v) 498 29 (Int32.ofNat (L.length + 1))) := RK_o (F := fun c k => c = 508 ∨ (c = 498 ∧ k = 29)) g3 (eqp_I (eqp_I eqp_rf (by omega)) (by omega)) (fun c k hh => by omega)
    have c9 : (my_uI (my_uI σ3 508 (4 * k0 + L.length) v) 498 29 (Int32.ofNat (L.length + 1))).1 498 4 = σ3.1 498 4 := by rw [my_uI_1, if_neg (by omega), uI_o (by omega)]
    rw [c9]
    have stop : ∀ (q N : Nat), xty t n (xtk t n 58 (xnl t n L (NL ++ [own]) 4 (.inr (p, 1, R)))) = .inl (q, N) → ppr t n (NL ++ [own]) (f + 1) p L T = .inl q → (if (σ3.1 498 9) < 0 then (if σ3.1 498 4 = 44 then ys_234_100 e d 1 κ (my_uI (my_uI σ3 508 (4 * k0 + L.length) v) 498 29 (Int32.ofNat (L.length + 1))) Q else ys_234_99 e d κ (my_uI (my_uI σ3 508 (4 * k0 + L.length) v) 498 29 (Int32.ofNat (L.length + 1))) Q) else ys_234_99 e d κ (my_uI (my_uI σ3 508 (4 * k0 + L.length) v) 498 29 (Int32.ofNat (L.length + 1))) Q) := fun q N hX hp2 => by
      rw [hX] at gC g3 b3
      have hq := b3.1
      change RF t n q N σ3 at g3
      rw [if_neg (RF_lt g3 (by omega))]
      unfold ys_234_99 ys_234_100
      rw [if_pos rfl]
      refine ys_234_27_ok ?_
      unfold ys_234_27
      rw [if_pos rfl]
      refine r_234z ht (by omega) b3 gC (fun σ' g' f' => hQ σ' ?_ (eqp_tr fC (eqp_mo f' (fun _ _ => hpF_e))))
      rw [hp2]
      exact ⟨N, g', b3⟩
    unfold ppr pp2 at hQ stop
    by_cases hnw : nwL t n L (NL ++ [own]) 4 p = true
    · have hw := nwL_t.mp hnw
      have x1 : xnl t n L (NL ++ [own]) 4 (.inr (p, 1, R)) = .inr (nx t n p, 1, R) := by unfold xnl; simp only [if_pos hnw]
      have bp := nx_b (p := p) ht (by omega)
      rw [x1] at stop gC b1 b2 b3 g1 g2 g3
      rw [if_pos hnw] at hQ stop
      by_cases h58 : tkk t n (nx t n p) = 58
      · have x2 : xtk t n 58 (.inr (nx t n p, 1, R)) = .inr (nx t n (nx t n p), 1, R) := by unfold xtk; simp only [if_pos h58]
        rw [x2] at stop gC b2 b3 g2 g3
        rw [if_pos h58] at hQ stop
        have bp2 := nx_b (p := nx t n p) ht (by omega)
        cases hty : tyq t n (nx t n (nx t n p)) with
        | none =>
          rw [hty] at hQ stop
          have hh := tyq_n hty
          exact stop _ R.length (by unfold xty; simp only []; rw [if_neg (by omega)]) rfl
        | some a =>
          rw [hty] at hQ stop
          dsimp only at hQ stop
          have hh := tyq_t hty
          have hva : v = a := hv (nx t n (nx t n p)) 1 R a (by rw [x1, x2]) hty
          have x3 : xty t n (.inr (nx t n (nx t n p), 1, R)) = .inr (nx t n (nx t n (nx t n p)), 1, R) := by unfold xty; simp only []; rw [if_pos (by omega)]
          have bp3 := nx_b (p := nx t n (nx t n p)) ht (by omega)
          rw [x3] at gC b3 g3
          change RG t n R (nx t n (nx t n (nx t n p))) 1 σ3 at g3
          have T44 := tkq (p := nx t n (nx t n (nx t n p))) ht 44 (by omega) g3.1.2.2.2.1 (y := 44) rfl
          have hlL : rlc (L ++ [tkm t n p]) (my_uI (my_uI σ3 508 (4 * k0 + L.length) v) 498 29 (Int32.ofNat (L.length + 1))) := by
            have hl3 : rlc L σ3 := rlc_o (rlc_o (by obtain ⟨W, g⟩ := RK_M (L := L) (RM_K g1) (fun _ _ _ _ => (by obtain ⟨W, g⟩ := g1; exact g.2.2.2.2.2)); exact g.2.2.2.2.2) f2 (fun c k hh => by unfold eF at hh; omega)) f3 (fun c k hh => by unfold eF at hh; omega)
            refine rlc_a hl3 (tk2_N h2 ht).1 (by omega) ?_ rfl
            rw [((eqp_tr f2 f3) 516 L.length (by unfold eF; omega)).2.1]
            exact l1 p 1 R rfl hnw
          have gM : RM t n (L ++ [tkm t n p]) (.inr (nx t n (nx t n (nx t n p)), 1, R)) (my_uI (my_uI σ3 508 (4 * k0 + L.length) v) 498 29 (Int32.ofNat (L.length + 1))) := RK_M gC (fun _ _ _ _ => hlL)
          have hpT : ptm k0 (T ++ [a]) (my_uI (my_uI σ3 508 (4 * k0 + L.length) v) 498 29 (Int32.ofNat (L.length + 1))) := by
            rw [hLT, hva]
            refine ptm_a (ptm_o (ptm_o (ptm_o hp f1 ?_) f2 ?_) f3 ?_)
            · intro c k hh; unfold nlF eF at hh; omega
            · intro c k hh; unfold eF at hh; omega
            · intro c k hh; unfold eF at hh; omega
          have hNC : RN NL own (my_uI (my_uI σ3 508 (4 * k0 + L.length) v) 498 29 (Int32.ofNat (L.length + 1))) := ⟨rnm_h hN.1 fC, hN.2.1, ((fC 498 31 (by unfold hpF eF; omega)).2.1).trans hN.2.2⟩
          have hkC : (my_uI (my_uI σ3 508 (4 * k0 + L.length) v) 498 29 (Int32.ofNat (L.length + 1))).1 498 11 = Int32.ofNat k0 := by rw [my_uI_1, if_neg (by omega), uI_o (by omega)]; exact e11 f1 (eqp_tr f2 f3)
          generalize my_uI (my_uI σ3 508 (4 * k0 + L.length) v) 498 29 (Int32.ofNat (L.length + 1)) = σ4 at gM hpT hNC hkC fC ⊢
          rw [g3.2.1, if_pos fNo_lt]
          refine my_if (fun h44 => ?_) (fun h44 => ?_)
          · have h44 := T44.mp h44
            rw [if_pos h44] at hQ
            have bp4 := nx_b (p := nx t n (nx t n (nx t n p))) ht (by omega)
            unfold ys_234_100
            rw [if_neg (by decide)]
            have b4 := bX_nx ht b3
            refine M_nx ht (by omega) gM (fun σ5 g5 f5 => ?_)
            rw [my_k0_v]
            change bX n 0 (.inr (nx t n (nx t n (nx t n (nx t n p))), 1, R)) at b4
            change RM t n (L ++ [tkm t n p]) (.inr (nx t n (nx t n (nx t n (nx t n p))), 1, R)) σ5 at g5
            have fD : eqp (hpF k0) σ σ5 := eqp_tr fC (eqp_mo f5 (fun _ _ => hpF_e))
            have T2 := RM_T ht g5 2 (y := 2) (by omega) rfl
            refine my_if (fun hn2 => ?_) (fun hn2 => ?_)
            · have hn2 := T2.mp hn2
              have hf1 : 1 ≤ f := by have := hw.2.2.2; omega
              exact ys_234_27_ok (ih _ (L ++ [tkm t n p]) (T ++ [a]) σ5 hn2 (by simp [hLT]) (by simp; omega) hf1 ((eqp_g f5 (by unfold eF; omega)).trans hkC) g5 b4 ⟨rnm_o hNC.1 f5 (fun c k hh => by unfold eF at hh; omega), hNC.2.1, ((f5 498 31 (by unfold eF; omega)).2.1).trans hNC.2.2⟩ (ptm_o hpT f5 (fun c k hh => by unfold eF at hh; omega)) (fun σ' hx fx => hQ σ' hx (eqp_tr fD fx)))
            · have hn2 : ¬ tkk t n (nx t n (nx t n (nx t n (nx t n p)))) = 2 := fun hh => hn2 (T2.mpr hh)
              have g5' := RM_K g5
              change RG t n R (nx t n (nx t n (nx t n (nx t n p)))) 1 σ5 at g5'
              rw [g5'.1.2.2.2.2.1]
              obtain ⟨d, rfl⟩ := dS 1 (show 1 ≤ d by omega)
              refine RG_bad (q := nx t n (nx t n (nx t n (nx t n p)))) (N := R.length) g5' (Nat.le_refl _) (fun σ6 g6 f6 => ?_)
              rw [my_k0_v]
              have b6 : bX n 0 (.inl (nx t n (nx t n (nx t n (nx t n p))), R.length)) := ⟨by omega, by omega⟩
              refine ys_234_27_ok ?_
              unfold ys_234_27
              rw [if_neg (by decide), if_neg (RF_lt g6 (by omega))]
              refine r_234z ht (by omega) b6 g6 (fun σ' g' f' => hQ σ' ?_ (eqp_tr fD (eqp_mo (eqp_tr f6 f') (fun _ _ => hpF_e))))
              have : ppr t n (NL ++ [own]) f (nx t n (nx t n (nx t n (nx t n p)))) (L ++ [tkm t n p]) (T ++ [a]) = .inl (nx t n (nx t n (nx t n (nx t n p)))) := by
                cases f with
                | zero => rfl
                | succ f =>
                  unfold ppr
                  rw [if_neg (fun hh => hn2 (nwL_t.mp hh).1)]
              rw [this]
              exact ⟨_, g', b6⟩
          · have h44 : ¬ tkk t n (nx t n (nx t n (nx t n p))) = 44 := fun hh => h44 (T44.mpr hh)
            rw [if_neg h44] at hQ
            unfold ys_234_99 ys_234_100
            rw [if_pos rfl]
            refine ys_234_27_ok ?_
            unfold ys_234_27
            rw [if_pos rfl]
            exact r_234y ht (by omega) b3 gM hpT (fun σ' hx f' => hQ σ' hx (eqp_tr fC (eqp_mo f' (fun _ _ => hpF_e))))
      · rw [if_neg h58] at hQ stop
        exact stop _ R.length (by unfold xtk; simp only [if_neg h58, xty]) rfl
    · rw [if_neg hnw] at hQ stop
      exact stop _ R.length (by unfold xnl; simp only [if_neg hnw, xtk, xty]) rfl
/-- the list of parameters -/
theorem r_234 {NL : List (List Nat)} {own : List Nat} {p fm : Nat} (ht : txt t n) (hd : 7 ≤ d) (hk : k0 ≤ 42) (hfm : fm ≠ 4) (h11 : σ.1 498 11 = Int32.ofNat k0) (h : RM t n [] (.inr (p, 0, R)) σ) (hb : bX n 0 (.inr (p, 0, R))) (hN : RN NL own σ) (hQ : ∀ σ', ppT t n k0 R (ppl t n (NL ++ [own]) fm p) σ' → eqp (hpF k0) σ σ' → Q (.inl none) κ σ') : my_M e d 234 [.inr (.inr (some 498))] κ σ Q := by
  obtain ⟨d, rfl⟩ := dS 1 (show 1 ≤ d by omega)
  have hn := ht.1
  refine ys_234 ?_
  unfold ys_234_0
  refine M_op (k := 40) ht (by omega) hb (by omega) (by omega) rfl h (fun σ1 g1 f1 => ?_)
  rw [my_k0_v]
  have b1 := bX_op (k := 40) ht (show 0 ≤ 1000 by omega) hb
  have f1h : eqp (hpF k0) σ σ1 := eqp_mo f1 (fun _ _ => hpF_e)
  unfold ppl at hQ
  rw [if_neg hfm] at hQ
  unfold xop at g1 b1
  simp only [] at g1 b1
  by_cases c1 : tkk t n p = 40
  · rw [if_pos ⟨c1, by omega⟩] at g1 b1
    rw [if_pos c1] at hQ
    rw [if_pos (RM_R g1)]
    have T2 := RM_T ht g1 2 (y := 2) (by omega) rfl
    have hN1 : RN NL own σ1 := ⟨rnm_h hN.1 f1h, hN.2.1, ((f1 498 31 (by unfold eF; omega)).2.1).trans hN.2.2⟩
    refine my_if (fun h2 => ?_) (fun h2 => ?_)
    · have h2 := T2.mp h2
      rw [if_neg (by omega)] at hQ
      unfold ys_234_26
      exact ys_234_27_ok (r_234l (NL := NL) (own := own) ht (by omega) hk 5 (nx t n p) [] [] σ1 h2 rfl rfl (by omega) ((eqp_g f1 (by unfold eF; omega)).trans h11) g1 b1 hN1 (fun j x hj => by simp at hj) (fun σ' hx f' => hQ σ' hx (eqp_tr f1h f')))
    · have h2 : ¬ tkk t n (nx t n p) = 2 := fun hh => h2 (T2.mpr hh)
      unfold ys_234_25 ys_234_26
      refine ys_234_27_ok ?_
      unfold ys_234_27
      rw [if_pos rfl]
      refine r_234y (k0 := k0) (T := []) ht (by omega) b1 g1 (fun j x hj => by simp at hj) (fun σ' hx f' => hQ σ' ?_ (eqp_tr f1h (eqp_mo f' (fun _ _ => hpF_e))))
      by_cases c2 : tkk t n (nx t n p) = 41
      · rw [if_pos c2] at hx ⊢
        exact hx
      · rw [if_neg c2] at hx ⊢
        have : ppr t n (NL ++ [own]) 5 (nx t n p) [] [] = .inl (nx t n p) := by
          unfold ppr
          rw [if_neg (fun hh => h2 (nwL_t.mp hh).1)]
        rw [this]
        exact hx
  · rw [if_neg (fun hh => c1 hh.1)] at g1 b1
    rw [if_neg c1] at hQ
    have hq := b1.1
    rw [if_neg (RF_lt g1 (by omega))]
    unfold ys_234_25 ys_234_26
    refine ys_234_27_ok ?_
    unfold ys_234_27
    rw [if_pos rfl]
    exact r_234z ht (by omega) b1 g1 (fun σ' g' f' => hQ σ' ⟨_, g', b1⟩ (eqp_tr f1h (eqp_mo f' (fun _ _ => hpF_e))))
end MIJ
