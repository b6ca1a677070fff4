/-! ===== the reference: conditions, blocks' beginnings and ends ===== -/
/-- the condition: a fault's place, or its steps and the place behind -/
def pcnr (t : Nat → Int32) (n : Nat) (x : Rs) : Nat ⊕ (List Rw × Nat) := match x with
  | none => .inl 0
  | some (.inl q) => .inl q
  | some (.inr (r, _, q)) => if tkk t n q = 41 then .inr (r ++ [(208, 1, [], 0)], nx t n q) else .inl q
def pcn (t : Nat → Int32) (n : Nat) (L : List (List Nat)) (p o : Nat) : Nat ⊕ (List Rw × Nat) := if tkk t n (nx t n p) = 40 ∧ o < 12 then pcnr t n (pX t n L (nx t n (nx t n p)) (o + 1)) else .inl (nx t n p)
def pcnk (x : Nat ⊕ (List Rw × Nat)) (k : List Rw → Nat → Ss) : Ss := match x with
  | .inl q => some (.inl q)
  | .inr (rc, q) => k rc q
theorem pcon_e {t : Nat → Int32} {n : Nat} {L : List (List Nat)} {p o : Nat} {k : List Rw → Nat → Ss} (ht : txt t n) (h2 : tkk t n p ≠ 0) : pcon t n L p o k = pcnk (pcn t n L p o) k := by
  have nl : ∀ {p}, tkk t n p ≠ 0 → p < nx t n p ∧ nx t n p ≤ n := fun h => nx_bd ht (tk_lt h)
  unfold pcon pcn
  by_cases hc : tkk t n (nx t n p) = 40 ∧ o < 12
  · rw [if_pos hc, if_pos hc]
    have a2 := nl (p := nx t n p) (by omega)
    unfold eT
    cases hx : pX t n L (nx t n (nx t n p)) (o + 1) with
    | none => exact absurd hx (pX_n ht a2.2)
    | some res =>
      rcases res with q | ⟨r, c, q⟩
      · rfl
      · show (if tkk t n q = 41 then _ else _) = pcnk (if tkk t n q = 41 then _ else _) k
        by_cases hq : tkk t n q = 41
        · rw [if_pos hq, if_pos hq]; rfl
        · rw [if_neg hq, if_neg hq]; rfl
  · rw [if_neg hc, if_neg hc]; rfl
theorem pcn_b {t : Nat → Int32} {n : Nat} {L : List (List Nat)} {p o : Nat} {rc : List Rw} {q : Nat} (ht : txt t n) (h2 : tkk t n p ≠ 0) (h : pcn t n L p o = .inr (rc, q)) : p + 4 ≤ q ∧ q ≤ n ∧ rc.length + p + 2 ≤ q := by
  have nl : ∀ {p}, tkk t n p ≠ 0 → p < nx t n p ∧ nx t n p ≤ n := fun h => nx_bd ht (tk_lt h)
  have a1 := nl (p := p) h2
  unfold pcn at h
  by_cases hc : tkk t n (nx t n p) = 40 ∧ o < 12
  · rw [if_pos hc] at h
    have a2 := nl (p := nx t n p) (by omega)
    unfold pcnr at h
    cases hx : pX t n L (nx t n (nx t n p)) (o + 1) with
    | none => rw [hx] at h; cases h
    | some res =>
      rw [hx] at h
      rcases res with q1 | ⟨r, c, q1⟩
      · cases h
      · have a3 := pX_b ht a2.2 hx
        simp only [] at h
        by_cases hq : tkk t n q1 = 41
        · rw [if_pos hq] at h
          have a4 := nl (p := q1) (by omega)
          cases h
          exact ⟨by omega, a4.2, by simp; omega⟩
        · rw [if_neg hq] at h; cases h
  · rw [if_neg hc] at h; cases h
section MSV
variable {e : my_E} {d : Nat} {κ : my_K} {Q : my_O → my_K → my_S → Prop} {t : Nat → Int32} {n : Nat} {L : List (List Nat)}
theorem RM_o {F : Nat → Nat → Prop} {X : Xs} {σ σ' : my_S} (h : RM t n L X σ) (he : eqp F σ σ') (hF : ∀ c k, F c k → (c = 498 ∧ (k = 30 ∨ k = 40 ∨ k = 43)) ∨ (521 ≤ c ∧ c ≤ 525)) : RM t n L X σ' := by
  have g : ∀ {c k}, ¬ ((c = 498 ∧ (k = 30 ∨ k = 40 ∨ k = 43)) ∨ (521 ≤ c ∧ c ≤ 525)) → ¬ F c k := fun hn hh => hn (hF _ _ hh)
  rcases X with ⟨q, m⟩ | ⟨p, o, R⟩
  · obtain ⟨a1, ⟨p', a2⟩, m', a3, a4⟩ := h
    exact ⟨(eqp_g he (g (by omega))).trans a1, ⟨p', rfT_o a2 he (fun c k hh => by have := hF _ _ hh; omega)⟩, m', a3, (eqp_g he (g (by omega))).trans a4⟩
  · obtain ⟨W, c1, c2, c3, c4, c5, c6⟩ := h
    exact ⟨W, rfT_o c1 he (fun c k hh => by have := hF _ _ hh; omega), (eqp_g he (g (by omega))).trans c2, (eqp_g he (g (by omega))).trans c3, rws_o c4 he (fun c k hh => by have := hF _ _ hh; omega), wts_o c5 he (fun c k hh => by have := hF _ _ hh; omega), rlc_o c6 he (fun c k hh => by have := hF _ _ hh; omega)⟩
/-- a number of a raw step is changed -/
theorem RE_set {W : List Wt} {R : List Rw} {p o j : Nat} {σ : my_S} {v : Int32} {x : Rw} (h : RE t n L R W p o σ) (hx : R[j]? = some x) : RE t n L (R.set j (x.1, v, x.2.2.1, x.2.2.2)) W p o (my_uI σ 513 j v) := by
  have he : eqp (fun c k => c = 513 ∧ k = j) σ (my_uI σ 513 j v) := eqp_I eqp_rf ⟨rfl, rfl⟩
  obtain ⟨c1, c2, c3, c4, c5, c6⟩ := h
  refine ⟨rfT_o c1 he (fun c k hh => by omega), (eqp_g he (by omega)).trans c2, (eqp_g he (by omega)).trans c3, ⟨(eqp_g he (by omega)).trans (by simpa using c4.1), fun i y hy => ?_⟩, wts_o c5 he (fun c k hh => by omega), rlc_o c6 he (fun c k hh => by omega)⟩
  by_cases hi : i = j
  · subst hi
    have hl : i < R.length := by
      by_cases hh : i < R.length
      · exact hh
      · rw [List.getElem?_eq_none (by omega)] at hx; cases hx
    rw [List.getElem?_set_self hl] at hy
    cases hy
    obtain ⟨a1, a2, a3, a4⟩ := c4.2 i x hx
    exact ⟨(eqp_g he (by omega)).trans a1, Or.inr (Or.inr (by rw [my_uI_1, if_pos ⟨rfl, rfl⟩])), ((he _ _ (by omega)).2.1).trans a3, (eqp_g he (by omega)).trans a4⟩
  · rw [List.getElem?_set_ne (fun hh => hi hh.symm)] at hy
    obtain ⟨a1, a2, a3, a4⟩ := c4.2 i y hy
    exact ⟨(eqp_g he (by omega)).trans a1, by rw [eqp_g he (by omega)]; exact a2, ((he _ _ (by omega)).2.1).trans a3, (eqp_g he (by omega)).trans a4⟩
theorem set_F {σ : my_S} {j : Nat} {v : Int32} : eqp eF σ (my_uI σ 513 j v) := eqp_I eqp_rf (by unfold eF; omega)
/-- a block begins -/
theorem r_240 {X : Xs} {N kd j l ck : Nat} {D : List Bd} {K : List (Nat × Nat)} {σ : my_S} {v1 v2 v3 : Int32} (ht : txt t n) (hd : 6 ≤ d) (hb : bX n N X) (hN : N ≤ 50) (hv1 : v1 = Int32.ofNat kd) (hv2 : ∀ p o R, X = .inr (p, o, R) → v2 = Int32.ofNat j) (hv3 : v3 = Int32.ofNat l) (hD : D.length < 20) (hR : RD D K ck σ) (h : RM t n L X σ) (hQ : ∀ σ', RM t n L (xop t n 123 X) σ' → (∀ p o R, xop t n 123 X = .inr (p, o, R) → RD ((kd, j, l) :: D) K ck σ') → eqp sF σ σ' → Q (.inl none) κ σ') : my_M e d 240 [.inr (.inr (some 498)), .inl v1, .inl v2, .inl v3] κ σ Q := by
  obtain ⟨d, rfl⟩ := dS 1 (show 1 ≤ d by omega)
  refine ys_240 ?_
  unfold ys_240_0 ys_240_53
  refine M_op (k := 123) ht (by omega) hb hN (by omega) rfl h (fun σ1 g1 f1 => ?_)
  rw [my_k0_v]
  have b1 := bX_op (k := 123) ht (show N ≤ 1000 by omega) hb
  have hR1 := RD_e hR f1
  have hsrc : ∀ p o R, xop t n 123 X = .inr (p, o, R) → ∃ p' o' R', X = .inr (p', o', R') := fun p o R hh => by
    rcases X with ⟨q, m⟩ | ⟨p', o', R'⟩
    · cases hh
    · exact ⟨_, _, _, rfl⟩
  cases hX : xop t n 123 X with
  | inl a =>
    obtain ⟨q, m⟩ := a
    rw [hX] at g1 b1
    rw [if_neg (RF_lt g1 (by have := b1.1; omega))]
    exact hQ σ1 (by rw [hX]; exact g1) (fun p o R hh => by rw [hX] at hh; cases hh) (eqp_mo f1 (fun _ _ => eF_s))
  | inr a =>
    obtain ⟨p, o, R⟩ := a
    rw [hX] at g1
    obtain ⟨p', o', R', hX'⟩ := hsrc p o R hX
    rw [hv1, hv2 _ _ _ hX', hv3]
    have h9 : σ1.1 498 9 < 0 := by
      obtain ⟨W, g⟩ := g1
      rw [g.2.1]; exact fNo_lt
    rw [if_pos h9, hR1.1.1, oN_n (by omega), oN_s]
    have bd : my_bd (Int32.ofNat D.length) 20 := ⟨by rw [oN_i (by omega)]; omega, by rw [oN_i (by omega)]; omega⟩
    refine ⟨bd, bd, bd, ?_⟩
    have he : eqp (fun c k => (c = 498 ∧ k = 40) ∨ ((521 ≤ c ∧ c ≤ 523) ∧ k = D.length)) σ1 (my_uI (my_uI (my_uI (my_uI σ1 521 D.length (Int32.ofNat kd)) 522 D.length (Int32.ofNat j)) 523 D.length (Int32.ofNat l)) 498 40 (Int32.ofNat (D.length + 1))) := eqp_I (eqp_I (eqp_I (eqp_I eqp_rf (by omega)) (by omega)) (by omega)) (by omega)
    refine hQ _ (by rw [hX]; exact RM_o g1 he (fun c k hh => by omega)) (fun _ _ _ _ => ?_) (eqp_tr (eqp_mo f1 (fun _ _ => eF_s)) (eqp_mo he (fun c k hh => by unfold sF; omega)))
    obtain ⟨⟨a1, a2⟩, ⟨a3, a4⟩, a5⟩ := hR1
    refine ⟨⟨?_, ⟨?_, ?_, ?_⟩, bks_o he a2 (fun c k hh hk => by omega)⟩, ⟨(eqp_g he (by omega)).trans a3, fun i x hx => ⟨(eqp_g he (by omega)).trans (a4 i x hx).1, (eqp_g he (by omega)).trans (a4 i x hx).2⟩⟩, (eqp_g he (by omega)).trans a5⟩
    · rw [my_uI_1, if_pos ⟨rfl, rfl⟩]; simp
    · rw [my_uI_1, if_neg (by omega), my_uI_1, if_neg (by omega), my_uI_1, if_neg (by omega), my_uI_1, if_pos ⟨rfl, rfl⟩]
    · rw [my_uI_1, if_neg (by omega), my_uI_1, if_neg (by omega), my_uI_1, if_pos ⟨rfl, rfl⟩]
    · rw [my_uI_1, if_neg (by omega), my_uI_1, if_pos ⟨rfl, rfl⟩]
/-- a condition and the block behind it -/
theorem r_254 {p o ck kd : Nat} {R : List Rw} {D : List Bd} {K : List (Nat × Nat)} {σ : my_S} (ht : txt t n) (hd : 9 ≤ d) (h2 : tkk t n p ≠ 0) (hkd : kd = 1 ∨ kd = 3) (hb : bX n 0 (.inr (p, o, R))) (h : RM t n L (.inr (p, o, R)) σ) (hD : D.length < 20) (hR : RD D K ck σ)
    (hf : ∀ q N σ', (pcn t n L p o = .inl q ∨ ∃ rc, pcn t n L p o = .inr (rc, q) ∧ ¬ (tkk t n q = 123 ∧ o < 12)) → RM t n L (.inl (q, N)) σ' → bX n 3 (.inl (q, N)) → eqp sF σ σ' → Q (.inl none) κ σ')
    (hk : ∀ rc q σ', pcn t n L p o = .inr (rc, q) → tkk t n q = 123 → o < 12 → RM t n L (.inr (nx t n q, o + 1, R ++ (rc ++ (15, 0, [], 0) :: (if kd = 3 then [(16, 0, [], 0)] else [])))) σ' → RD ((kd, R.length + rc.length, R.length) :: D) K ck σ' → eqp sF σ σ' → Q (.inl none) κ σ') : my_M e d 254 [.inr (.inr (some 498)), .inl (Int32.ofNat kd)] κ σ Q := by
  obtain ⟨d, rfl⟩ := dS 1 (show 1 ≤ d by omega)
  have hn := ht.1
  refine ys_254 ?_
  unfold ys_254_0 ys_254_61
  have h23 : σ.1 498 23 = Int32.ofNat R.length := by
    obtain ⟨W, h⟩ := h
    exact h.2.2.2.1.1
  rw [h23]
  have b1 := bX_nx ht hb
  refine M_nx ht (by omega) h (fun σ1 g1 f1 => ?_)
  rw [my_k0_v]
  have b2 := bX_op (k := 40) ht (by omega) b1
  refine M_op (k := 40) ht (by omega) b1 (by omega) (by omega) rfl g1 (fun σ2 g2 f2 => ?_)
  rw [my_k0_v]
  have b3 := bX_ex (L := L) ht b2
  refine M_ex ht (by omega) b2 (by omega) g2 (fun σ3 g3 f3 => ?_)
  rw [my_k0_v]
  have o3 : ∀ p' o' R', xex t n L (xop t n 40 (xnx t n (.inr (p, o, R)))) = .inr (p', o', R') → 1 ≤ o' := fun p' o' R' hh => by
    change xex t n L (if tkk t n (nx t n p) = 40 ∧ o < 12 then .inr (nx t n (nx t n p), o + 1, R) else .inl (nx t n p, R.length)) = _ at hh
    by_cases hc : tkk t n (nx t n p) = 40 ∧ o < 12
    · rw [if_pos hc] at hh
      have := xex_o hh
      omega
    · rw [if_neg hc] at hh; cases hh
  have b4 := bX_cl (k := 41) ht (by omega) b3
  refine M_cl (k := 41) ht (by omega) b3 (by omega) (by omega) rfl o3 g3 (fun σ4 g4 f4 => ?_)
  rw [my_k0_v]
  have b5 := bX_em (x := (208, 1, [], 0)) b4
  refine M_em (x := (208, 1, [], 0)) ht (by omega) b4 (by omega) rfl (Or.inr (Or.inr rfl)) rfl rfl g4 (fun σ5 v5 g5 f5 _ => ?_)
  rw [my_kI_v]
  have b6 := bX_em (x := (15, 0, [], 0)) b5
  refine M_em (x := (15, 0, [], 0)) ht (by omega) b5 (by omega) rfl (Or.inr (Or.inr rfl)) rfl rfl g5 (fun σ6 v6 g6 f6 hv6 => ?_)
  rw [my_kI_v]
  have fr6 := eqp_tr (eqp_tr (eqp_tr (eqp_tr (eqp_tr f1 f2) f3) f4) f5) f6
  -- what the condition comes to
  have hX4 : (∃ q N, pcn t n L p o = .inl q ∧ xcl t n 41 (xex t n L (xop t n 40 (xnx t n (.inr (p, o, R))))) = .inl (q, N)) ∨ ∃ r q, pcn t n L p o = .inr (r ++ [(208, 1, [], 0)], q) ∧ o < 12 ∧ xcl t n 41 (xex t n L (xop t n 40 (xnx t n (.inr (p, o, R))))) = .inr (q, o, R ++ r) := by
    have e1 : xop t n 40 (xnx t n (.inr (p, o, R))) = if tkk t n (nx t n p) = 40 ∧ o < 12 then .inr (nx t n (nx t n p), o + 1, R) else .inl (nx t n p, R.length) := rfl
    rw [e1]
    unfold pcn
    by_cases hc : tkk t n (nx t n p) = 40 ∧ o < 12
    · rw [if_pos hc, if_pos hc, xex_cl (by decide)]
      have a2 := nx_bd ht (tk_lt (t := t) (n := n) (p := nx t n p) (by omega))
      unfold xdu pcnr
      cases hx : pX t n L (nx t n (nx t n p)) (o + 1) with
      | none => exact absurd hx (pX_n ht a2.2)
      | some r1 =>
        rcases r1 with q | ⟨r, c, q⟩
        · exact Or.inl ⟨q, _, rfl, rfl⟩
        · simp only []
          by_cases hq : tkk t n q = 41
          · rw [if_pos hq, if_pos hq]
            exact Or.inr ⟨r, _, rfl, hc.2, by rw [show o + 1 - 1 = o by omega]⟩
          · rw [if_neg hq, if_neg hq]
            exact Or.inl ⟨q, _, rfl, rfl⟩
    · rw [if_neg hc, if_neg hc]
      exact Or.inl ⟨_, _, rfl, rfl⟩
  have e3 : Int32.ofNat kd = 3 ↔ kd = 3 := oN_e (b := 3) (by omega) (by omega)
  have go : ∀ (y : List Rw) (X7 : Xs) (σ7 : my_S), y.length ≤ 1 → y = (if kd = 3 then [(16, 0, [], 0)] else []) → (∀ q N, xcl t n 41 (xex t n L (xop t n 40 (xnx t n (.inr (p, o, R))))) = .inl (q, N) → ∃ N', X7 = .inl (q, N')) → (∀ q r, xcl t n 41 (xex t n L (xop t n 40 (xnx t n (.inr (p, o, R))))) = .inr (q, o, R ++ r) → X7 = .inr (q, o, R ++ r ++ [(208, 1, [], 0)] ++ [(15, 0, [], 0)] ++ y)) → bX n 3 X7 → RM t n L X7 σ7 → eqp eF σ σ7 → my_M e d 240 [.inr (.inr (some 498)), .inl (Int32.ofNat kd), .inl v6, .inl (Int32.ofNat R.length)] κ σ7 (my_k0 (fun κ2 σ3 => Q (.inl none) κ2 σ3) (fun y4 κ5 σ6 => Q (.inr y4) κ5 σ6)) := fun y X7 σ7 hy1 hy hl hr b7 g7 f7 => by
    have hR7 := RD_e hR f7
    refine r_240 (kd := kd) (j := v6.toNatClampNeg) (l := R.length) ht (by omega) b7 (by omega) rfl (fun p' o' R' hX => ?_) rfl hD hR7 g7 (fun σ8 g8 hR8 f8 => ?_)
    · rcases hX4 with ⟨q, N, a1, a2⟩ | ⟨r, q, a1, a2, a3⟩
      · obtain ⟨N', hN'⟩ := hl q N a2
        rw [hN'] at hX; cases hX
      · have := hv6 _ _ _ (by rw [a3]; rfl)
        rw [this, oN_n]
        have b4' := b4
        rw [a3] at b4'
        have z1 := b4'.2.2
        have z2 := b4'.2.1
        simp only [List.length_append, List.length_cons, List.length_nil] at z1 ⊢
        omega
    · rw [my_k0_v]
      have fr := eqp_tr (eqp_mo f7 (fun _ _ => eF_s)) f8
      rcases hX4 with ⟨q, N, a1, a2⟩ | ⟨r, q, a1, a2, a3⟩
      · obtain ⟨N', hN'⟩ := hl q N a2
        rw [hN'] at g8 b7
        exact hf q N' σ8 (Or.inl a1) g8 b7 fr
      · have hX7 := hr q r a3
        rw [hX7] at g8 b7 hR8
        have hv := hv6 _ _ _ (by rw [a3]; rfl)
        by_cases hc : tkk t n q = 123 ∧ o < 12
        · have e1 : xop t n 123 (.inr (q, o, R ++ r ++ [((208, 1, [], 0) : Rw)] ++ [(15, 0, [], 0)] ++ y)) = .inr (nx t n q, o + 1, R ++ r ++ [((208, 1, [], 0) : Rw)] ++ [(15, 0, [], 0)] ++ y) := by
            show (if tkk t n q = 123 ∧ o < 12 then _ else _) = _
            rw [if_pos hc]
          rw [e1] at g8
          have hR8' := hR8 _ _ _ e1
          refine hk _ q σ8 a1 hc.1 a2 ?_ ?_ fr
          · rw [← hy]
            have e2 : R ++ ((r ++ [((208, 1, [], 0) : Rw)]) ++ (15, 0, [], 0) :: y) = R ++ r ++ [((208, 1, [], 0) : Rw)] ++ [(15, 0, [], 0)] ++ y := by simp
            rw [e2]
            exact g8
          · have hj : v6.toNatClampNeg = R.length + (r ++ [((208, 1, [], 0) : Rw)]).length := by
              rw [hv, oN_n]
              · simp
              · have := b7.2.2
                simp only [List.length_append, List.length_cons, List.length_nil] at this ⊢
                have := b7.2.1
                omega
            rw [hj] at hR8'
            exact hR8'
        · have e1 : xop t n 123 (.inr (q, o, R ++ r ++ [((208, 1, [], 0) : Rw)] ++ [(15, 0, [], 0)] ++ y)) = .inl (q, (R ++ r ++ [((208, 1, [], 0) : Rw)] ++ [(15, 0, [], 0)] ++ y).length) := by
            show (if tkk t n q = 123 ∧ o < 12 then _ else _) = _
            rw [if_neg hc]
          rw [e1] at g8
          exact hf q _ σ8 (Or.inr ⟨_, a1, hc⟩) g8 (bX_f ht (by omega) b7.2.1 b7.2.2) fr
  refine my_if (fun h3 => ?_) (fun h3 => ?_)
  · have h3 := e3.mp h3
    refine M_em (x := (16, 0, [], 0)) ht (by omega) b6 (by omega) rfl (Or.inr (Or.inr rfl)) rfl rfl g6 (fun σ7 v7 g7 f7 _ => ?_)
    rw [my_kI_v]
    refine go [(16, 0, [], 0)] _ σ7 (by simp) (by rw [if_pos h3]) (fun q N hh => ?_) (fun q r hh => ?_) (bX_em b6) g7 (eqp_tr fr6 f7)
    · rw [hh]; exact ⟨_, rfl⟩
    · rw [hh]; rfl
  · rw [e3] at h3
    refine go [] _ σ6 (by simp) (by rw [if_neg h3]) (fun q N hh => ?_) (fun q r hh => ?_) (bX_w b6 (by omega)) g6 fr6
    · rw [hh]; exact ⟨_, rfl⟩
    · rw [hh, List.append_nil]; rfl
end MSV
