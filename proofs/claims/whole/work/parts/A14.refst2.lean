/-! ===== the reference: blocks, loops, breaks ===== -/
/-- kind, jump, loop -/
abbrev Bd := Nat × Nat × Nat
def bks : List Bd → my_S → Prop
  | [], _ => True
  | b :: D, σ => (σ.1 521 D.length = Int32.ofNat b.1 ∧ σ.1 522 D.length = Int32.ofNat b.2.1 ∧ σ.1 523 D.length = Int32.ofNat b.2.2) ∧ bks D σ
def brs (K : List (Nat × Nat)) (σ : my_S) : Prop := σ.1 498 43 = Int32.ofNat K.length ∧ ∀ j x, K[j]? = some x → σ.1 524 j = Int32.ofNat x.1 ∧ σ.1 525 j = Int32.ofNat x.2
def RD (D : List Bd) (K : List (Nat × Nat)) (ck : Nat) (σ : my_S) : Prop := (σ.1 498 40 = Int32.ofNat D.length ∧ bks D σ) ∧ brs K σ ∧ σ.1 498 30 = Int32.ofNat ck
def sF (c k : Nat) : Prop := eF c k ∨ (c = 498 ∧ (k = 29 ∨ k = 30 ∨ k = 40 ∨ k = 43)) ∨ c = 516 ∨ (521 ≤ c ∧ c ≤ 525)
theorem eF_s {c k : Nat} (h : eF c k) : sF c k := Or.inl h
theorem bks_o {F : Nat → Nat → Prop} {σ σ' : my_S} (he : eqp F σ σ') : ∀ {D : List Bd}, bks D σ → (∀ c k, F c k → k < D.length → c < 521 ∨ 523 < c) → bks D σ'
  | [], _, _ => trivial
  | b :: D, h, hF => by
    have g : ∀ c, 521 ≤ c → c ≤ 523 → ¬ F c D.length := fun c h1 h2 hh => by have := hF _ _ hh (by simp); omega
    obtain ⟨⟨a, b, c⟩, h2⟩ := h
    exact ⟨⟨((he 521 _ (g _ (by omega) (by omega))).1).trans a, ((he 522 _ (g _ (by omega) (by omega))).1).trans b, ((he 523 _ (g _ (by omega) (by omega))).1).trans c⟩, bks_o he h2 (fun c k hh hk => hF c k hh (by simp; omega))⟩
theorem RD_o {F : Nat → Nat → Prop} {D : List Bd} {K : List (Nat × Nat)} {ck : Nat} {σ σ' : my_S} (h : RD D K ck σ) (he : eqp F σ σ') (hF : ∀ c k, F c k → (c < 521 ∨ 525 < c) ∧ (c = 498 → k ≠ 40 ∧ k ≠ 43 ∧ k ≠ 30)) : RD D K ck σ' := by
  obtain ⟨⟨h1, h2⟩, ⟨h3, h4⟩, h5⟩ := h
  refine ⟨⟨(eqp_g he (fun hh => ((hF _ _ hh).2 rfl).1 rfl)).trans h1, bks_o he h2 (fun c k hh _ => by have := (hF _ _ hh).1; omega)⟩, ⟨(eqp_g he (fun hh => ((hF _ _ hh).2 rfl).2.1 rfl)).trans h3, fun j x hx => ⟨(eqp_g he (fun hh => by have := (hF _ _ hh).1; omega)).trans (h4 j x hx).1, (eqp_g he (fun hh => by have := (hF _ _ hh).1; omega)).trans (h4 j x hx).2⟩⟩, (eqp_g he (fun hh => ((hF _ _ hh).2 rfl).2.2 rfl)).trans h5⟩
theorem RD_e {D : List Bd} {K : List (Nat × Nat)} {ck : Nat} {σ σ' : my_S} (h : RD D K ck σ) (he : eqp eF σ σ') : RD D K ck σ' := RD_o h he (fun c k hh => by unfold eF at hh; omega)
/-- the innermost loop: where it lies, its first step -/
def lwB : List Bd → Option (Nat × Nat)
  | [] => none
  | b :: D => if b.1 = 3 then some (D.length, b.2.2) else lwB D
def lwJ (D : List Bd) : Int32 := ixO ((lwB D).map (fun x => x.1))
def lwN (D : List Bd) : Nat := ((lwB D).map (fun x => x.1)).getD 0
theorem lwB_lt : ∀ {D : List Bd} {j l : Nat}, lwB D = some (j, l) → j < D.length
  | [], j, l, h => by cases h
  | b :: D, j, l, h => by
    unfold lwB at h
    split at h
    · cases h; simp
    · have := lwB_lt h; simp; omega
theorem bks_kd : ∀ {D : List Bd} {σ : my_S}, bks D σ → ∀ {j : Nat} (hj : j < D.length), σ.1 521 j = Int32.ofNat (D[D.length - 1 - j]'(by omega)).1 ∧ σ.1 522 j = Int32.ofNat (D[D.length - 1 - j]'(by omega)).2.1 ∧ σ.1 523 j = Int32.ofNat (D[D.length - 1 - j]'(by omega)).2.2
  | [], σ, _, j, hj => by simp at hj
  | b :: D, σ, h, j, hj => by
    obtain ⟨h1, h2⟩ := h
    by_cases hh : j = D.length
    · subst hh
      simpa using h1
    · have hj' : j < D.length := by simp at hj; omega
      have := bks_kd h2 hj'
      have e : (b :: D).length - 1 - j = (D.length - 1 - j) + 1 := by simp only [List.length_cons] at hj ⊢; omega
      simp only [e, List.getElem_cons_succ]
      exact this
section MSU
variable {e : my_E} {d : Nat} {κ : my_K} {Q : my_O → my_K → my_S → Prop} {t : Nat → Int32} {n : Nat} {L : List (List Nat)}
/-- innerWhile -/
theorem r_256l {σ : my_S} : ∀ {D : List Bd}, D.length ≤ 20 → (∀ b ∈ D, b.1 ≤ 3) → bks D σ → Q (.inl (some (.inl (lwJ D)))) κ σ → ys_256_7 e d (Int32.ofNat D.length - 1) κ σ Q
  | [], _, _, _, hQ => by
    unfold ys_256_7 ys_256_27
    rw [if_pos (by decide)]
    exact hQ
  | b :: D, hD, hb, h, hQ => by
    obtain ⟨⟨h1, h2⟩, h3⟩ := h
    simp only [List.length_cons] at hD
    unfold ys_256_7 ys_256_27
    rw [List.length_cons, oN_m, if_neg (oN_0 (by omega)), oN_n (by omega), h1]
    refine ⟨⟨by rw [oN_i (by omega)]; omega, by rw [oN_i (by omega)]; omega⟩, ?_⟩
    have hb3 := hb b (by simp)
    have e3 : Int32.ofNat b.1 = 3 ↔ b.1 = 3 := oN_e (b := 3) (by omega) (by omega)
    unfold lwJ lwB at hQ
    refine my_if (fun hh => ?_) (fun hh => ?_)
    · rw [if_pos (e3.mp hh)] at hQ
      exact hQ
    · rw [if_neg (fun h4 => hh (e3.mpr h4))] at hQ
      have e1 : Int32.ofNat D.length + Int32.ofInt (-1) = Int32.ofNat D.length - 1 := by rw [Int32.sub_eq_add_neg]; rfl
      rw [e1]
      exact ys_256_7_ok (r_256l (by omega) (fun b hb' => hb b (by simp [hb'])) h3 hQ)
theorem r_256 {σ : my_S} {D : List Bd} (hd : 1 ≤ d) (h40 : σ.1 498 40 = Int32.ofNat D.length) (hD : D.length ≤ 20) (hb : ∀ b ∈ D, b.1 ≤ 3) (h : bks D σ) (hQ : Q (.inl (some (.inl (lwJ D)))) κ σ) : my_M e d 256 [.inr (.inr (some 498))] κ σ Q := by
  obtain ⟨d, rfl⟩ := dS 1 hd
  refine ys_256 ?_
  unfold ys_256_0
  rw [h40]
  exact ys_256_7_ok (r_256l hD hb h hQ)
theorem lwB_loop {σ : my_S} : ∀ {D : List Bd} {j l : Nat}, bks D σ → lwB D = some (j, l) → σ.1 523 j = Int32.ofNat l
  | [], j, l, _, h => by cases h
  | b :: D, j, l, hb, h => by
    unfold lwB at h
    split at h
    · cases h
      exact hb.1.2.2
    · exact lwB_loop hb.2 h
/-- break and continue -/
theorem r_255 {p o ck : Nat} {R : List Rw} {D : List Bd} {K : List (Nat × Nat)} {σ : my_S} {res : Nat ⊕ (List Rw × List (List Nat) × Nat × List Nat × Nat)} {y : Int32} (ht : txt t n) (hd : 6 ≤ d) (h2 : tkk t n p = 311 ∨ tkk t n p = 312) (hy : y = if tkk t n p = 311 then 1 else 0) (hp : plv t n L ck p R.length ((lwB D).map (fun x => x.2)) = some res) (hb : bX n 0 (.inr (p, o, R))) (h : RM t n L (.inr (p, o, R)) σ) (hD : D.length ≤ 20) (hDb : ∀ b ∈ D, b.1 ≤ 3) (hK : K.length < 400) (hR : RD D K ck σ) (hQ : ∀ X' σ', bX n 1 X' → RM t n L X' σ' → rX o R res X' → (∀ r L' c b q, res = .inr (r, L', c, b, q) → RD D (K ++ b.map (fun j => (j, lwN D))) ck σ') → eqp sF σ σ' → Q (.inl none) κ σ') : my_M e d 255 [.inr (.inr (some 498)), .inl y] κ σ Q := by
  obtain ⟨d, rfl⟩ := dS 1 (show 1 ≤ d by omega)
  have hn := ht.1
  refine ys_255 ?_
  unfold ys_255_0
  refine r_256 (by omega) hR.1.1 hD hDb hR.1.2 ?_
  rw [my_kI_v]
  unfold plv at hp
  unfold lwJ
  have b1 := bX_nx ht hb
  cases hl : lwB D with
  | none =>
    rw [hl] at hp
    cases hp
    show if Int32.ofInt (-1) < 0 then _ else _
    rw [if_pos (by decide)]
    obtain ⟨W, h⟩ := h
    rw [RE_pl h]
    obtain ⟨d, rfl⟩ := dS 1 (show 1 ≤ d by omega)
    refine RE_bad (q := p) (N := R.length) h (Nat.le_refl _) (fun σ2 g2 _ _ f2 => ?_)
    rw [my_k0_v]
    exact hQ (.inl (p, R.length)) σ2 (bX_w (bX_f ht (by omega) hb.2.1 hb.2.2) (by omega)) g2 ⟨_, rfl⟩ (fun _ _ _ _ _ hh => by cases hh) (eqp_mo f2 (fun _ _ => eF_s))
  | some x =>
    obtain ⟨j, l⟩ := x
    rw [hl] at hp
    have hj := lwB_lt hl
    have hix : ixO (Option.map (fun x => x.1) (some (j, l))) = Int32.ofNat j := rfl
    rw [hix, if_neg (oN_0 (by omega))]
    refine M_nx ht (by omega) h (fun σ1 g1 f1 => ?_)
    rw [my_k0_v]
    have hR1 := RD_e hR f1
    refine ⟨⟨by rw [oN_i (by omega)]; omega, by rw [oN_i (by omega)]; omega⟩, ?_⟩
    rw [oN_n (by omega), lwB_loop hR1.1.2 hl]
    refine M_em (x := (14, Int32.ofNat l, [], 0)) ht (by omega) b1 (by omega) rfl (Or.inr (Or.inr rfl)) rfl rfl g1 (fun σ2 v g2 f2 hv => ?_)
    rw [my_kI_v]
    have hv := hv _ _ _ rfl
    have hR2 := RD_e hR1 f2
    have b2 := bX_em (x := (14, Int32.ofNat l, [], 0)) b1
    have fin : ∀ σ3, RM t n L (xem (14, Int32.ofNat l, [], 0) (xnx t n (.inr (p, o, R)))) σ3 → RD D (K ++ (if tkk t n p = 311 then [R.length] else []).map (fun i => (i, j))) ck σ3 → eqp sF σ σ3 → ys_255_71 e d κ σ3 Q := fun σ3 g3 hR3 f3 => by
      unfold ys_255_71
      refine M_tk (k := 59) ht (by omega) b2 (by omega) (by omega) rfl g3 (fun σ4 g4 f4 => ?_)
      rw [my_k0_v]
      have b3 := bX_tk (k := 59) ht (by omega) b2
      have hR4 := RD_e hR3 f4
      simp only [Option.map] at hp
      unfold tT at hp
      have e1 : xtk t n 59 (xem (14, Int32.ofNat l, [], 0) (xnx t n (.inr (p, o, R)))) = if tkk t n (nx t n p) = 59 then .inr (nx t n (nx t n p), o, R ++ [(14, Int32.ofNat l, [], 0)]) else .inl (nx t n p, (R ++ [((14, Int32.ofNat l, [], 0) : Rw)]).length) := rfl
      refine hQ _ σ4 b3 g4 ?_ ?_ (eqp_tr f3 (eqp_mo f4 (fun _ _ => eF_s)))
      · rw [e1]
        by_cases hq : tkk t n (nx t n p) = 59
        · rw [if_pos hq] at hp ⊢
          cases hp
          rfl
        · rw [if_neg hq] at hp ⊢
          cases hp
          exact ⟨_, rfl⟩
      · intro r L' c b q hh
        subst hh
        by_cases hq : tkk t n (nx t n p) = 59
        · rw [if_pos hq] at hp
          cases hp
          unfold lwN
          rw [hl]
          exact hR4
        · rw [if_neg hq] at hp
          cases hp
    refine my_if (fun h0 => ?_) (fun h0 => ?_)
    · have h12 : tkk t n p ≠ 311 := fun hh => by rw [hy, if_pos hh] at h0; exact absurd h0 (by decide)
      refine fin σ2 g2 ?_ (eqp_mo (eqp_tr f1 f2) (fun _ _ => eF_s))
      rw [if_neg h12]
      simpa using hR2
    · have h11 : tkk t n p = 311 := by
        by_cases hh : tkk t n p = 311
        · exact hh
        · rw [hy, if_neg hh] at h0; exact absurd rfl h0
      obtain ⟨⟨a1, a2⟩, ⟨a3, a4⟩, a5⟩ := hR2
      rw [a3, oN_n (by omega), oN_s, hv]
      have bd : my_bd (Int32.ofNat K.length) 400 := ⟨by rw [oN_i (by omega)]; omega, by rw [oN_i (by omega)]; omega⟩
      refine ⟨bd, bd, ?_⟩
      have he : eqp (fun c k => (c = 498 ∧ k = 43) ∨ ((c = 524 ∨ c = 525) ∧ k = K.length)) σ2 (my_uI (my_uI (my_uI σ2 524 K.length (Int32.ofNat R.length)) 525 K.length (Int32.ofNat j)) 498 43 (Int32.ofNat (K.length + 1))) := eqp_I (eqp_I (eqp_I eqp_rf (by omega)) (by omega)) (by omega)
      refine fin _ ?_ ?_ (eqp_tr (eqp_mo (eqp_tr f1 f2) (fun _ _ => eF_s)) (eqp_mo he (fun c k hh => by unfold sF; omega)))
      · obtain ⟨W, g⟩ := g2
        obtain ⟨c1, c2, c3, c4, c5, c6⟩ := g
        exact ⟨W, rfT_o c1 he (fun c k hh => by omega), (eqp_g he (by omega)).trans c2, (eqp_g he (by omega)).trans c3, rws_o c4 he (fun c k hh => by omega), wts_o c5 he (fun c k hh => by omega), rlc_o c6 he (fun c k hh => by omega)⟩
      · rw [if_pos h11]
        refine ⟨⟨(eqp_g he (by omega)).trans a1, bks_o he a2 (fun c k hh _ => by omega)⟩, ⟨?_, fun i x hx => ?_⟩, (eqp_g he (by omega)).trans a5⟩
        · rw [my_uI_1, if_pos ⟨rfl, rfl⟩]; simp
        · by_cases hi : i < K.length
          · rw [List.getElem?_append_left hi] at hx
            exact ⟨(eqp_g he (by omega)).trans (a4 i x hx).1, (eqp_g he (by omega)).trans (a4 i x hx).2⟩
          · rw [List.getElem?_append_right (by omega)] at hx
            have hi0 : i - K.length = 0 := by
              by_cases h0 : i - K.length = 0
              · exact h0
              · rw [List.getElem?_eq_none (by simp; omega)] at hx
                cases hx
            rw [hi0] at hx
            simp only [List.map_cons, List.map_nil, List.getElem?_cons_zero, Option.some.injEq] at hx
            have : i = K.length := by omega
            subst hx
            rw [this]
            exact ⟨by rw [my_uI_1, if_neg (by omega), my_uI_1, if_neg (by omega), my_uI_1, if_pos ⟨rfl, rfl⟩], by rw [my_uI_1, if_neg (by omega), my_uI_1, if_pos ⟨rfl, rfl⟩]⟩
/-- return -/
theorem r_257 {p o ck fm : Nat} {R : List Rw} {σ : my_S} {res : Nat ⊕ (List Rw × List (List Nat) × Nat × List Nat × Nat)} (ht : txt t n) (hd : 9 ≤ d) (h2 : tkk t n p = 313) (hfm : fm = 2 ∨ fm = 3) (hp : pret t n fm L ck p o = some res) (hb : bX n 0 (.inr (p, o, R))) (h : RM t n L (.inr (p, o, R)) σ) (hQ : ∀ X' σ', bX n 1 X' → RM t n L X' σ' → rX o R res X' → eqp eF σ σ' → Q (.inl none) κ σ') : my_M e d 257 [.inr (.inr (some 498)), .inl (Int32.ofNat (fm + 10))] κ σ Q := by
  obtain ⟨d, rfl⟩ := dS 1 (show 1 ≤ d by omega)
  have hn := ht.1
  refine ys_257 ?_
  unfold ys_257_0 ys_257_37
  unfold pret at hp
  rw [if_neg (by omega)] at hp
  have b1 := bX_nx ht hb
  change bX n 0 (.inr (nx t n p, o, R)) at b1
  refine M_nx ht (by omega) h (fun σ1 g1 f1 => ?_)
  rw [my_k0_v]
  change RM t n L (.inr (nx t n p, o, R)) σ1 at g1
  rcases hfm with rfl | rfl
  · rw [if_pos rfl] at hp
    rw [if_pos (by decide)]
    refine M_ex ht (by omega) b1 (by omega) g1 (fun σ2 g2 f2 => ?_)
    rw [my_k0_v]
    have b2 := bX_ex (L := L) ht b1
    refine M_em (x := (11, 0, [], 0)) ht (by omega) b2 (by omega) rfl (Or.inr (Or.inr rfl)) rfl rfl g2 (fun σ3 v g3 f3 _ => ?_)
    rw [my_kI_v]
    have b3 := bX_em (x := (11, 0, [], 0)) b2
    refine M_tk (k := 59) ht (by omega) b3 (by omega) (by omega) rfl g3 (fun σ4 g4 f4 => ?_)
    rw [my_k0_v]
    refine hQ _ σ4 (bX_tk ht (by omega) b3) g4 ?_ (eqp_tr (eqp_tr (eqp_tr f1 f2) f3) f4)
    unfold eT at hp
    unfold xex xexr
    simp only []
    cases hx : pX t n L (nx t n p) o with
    | none => rw [hx] at hp; cases hp
    | some r1 =>
      rw [hx] at hp
      rcases r1 with q | ⟨r, c, q⟩
      · cases hp
        exact ⟨_, rfl⟩
      · simp only [] at hp ⊢
        by_cases hq : tkk t n q = 59
        · rw [if_pos hq] at hp
          cases hp
          rw [if_pos (by rw [hq]; rfl)]
          show rX o R _ (if tkk t n q = 59 then _ else _)
          rw [if_pos hq]
          show Sum.inr _ = Sum.inr _
          rw [List.append_assoc]
        · rw [if_neg hq] at hp
          cases hp
          by_cases h0 : rnk (tkk t n q) = 0
          · rw [if_pos h0]
            show rX o R _ (if tkk t n q = 59 then _ else _)
            rw [if_neg hq]
            exact ⟨_, rfl⟩
          · rw [if_neg h0]
            exact ⟨_, rfl⟩
  · rw [if_neg (by omega)] at hp
    rw [if_neg (by decide)]
    refine M_em (x := (12, 0, [], 0)) ht (by omega) b1 (by omega) rfl (Or.inr (Or.inr rfl)) rfl rfl g1 (fun σ3 v g3 f3 _ => ?_)
    rw [my_kI_v]
    have b3 := bX_em (x := (12, 0, [], 0)) b1
    refine M_tk (k := 59) ht (by omega) b3 (by omega) (by omega) rfl g3 (fun σ4 g4 f4 => ?_)
    rw [my_k0_v]
    refine hQ _ σ4 (bX_tk ht (by omega) b3) g4 ?_ (eqp_tr (eqp_tr f1 f3) f4)
    unfold tT at hp
    show rX o R _ (if tkk t n (nx t n p) = 59 then _ else _)
    by_cases hq : tkk t n (nx t n p) = 59
    · rw [if_pos hq] at hp ⊢
      cases hp
      rfl
    · rw [if_neg hq] at hp ⊢
      cases hp
      exact ⟨_, rfl⟩
end MSU
