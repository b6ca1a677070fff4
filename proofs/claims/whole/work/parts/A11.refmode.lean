/-! ===== the reference, with a fault or without ===== -/
abbrev Xs := (Nat × Nat) ⊕ (Nat × Nat × List Rw)
def RM (t : Nat → Int32) (n : Nat) (L : List (List Nat)) (X : Xs) (σ : my_S) : Prop := match X with
  | .inl (q, N) => RF t n q N σ
  | .inr (p, o, R) => ∃ W, RE t n L R W p o σ
def bX (n N : Nat) (X : Xs) : Prop := match X with
  | .inl (q, N') => q ≤ 1500 ∧ N' ≤ 3100 + N
  | .inr (p, o, R) => o ≤ 12 ∧ p ≤ n ∧ R.length ≤ p + N
def xnx (t : Nat → Int32) (n : Nat) (X : Xs) : Xs := match X with
  | .inl a => .inl a
  | .inr (p, o, R) => .inr (nx t n p, o, R)
def xtk (t : Nat → Int32) (n k : Nat) (X : Xs) : Xs := match X with
  | .inl a => .inl a
  | .inr (p, o, R) => if tkk t n p = k then .inr (nx t n p, o, R) else .inl (p, R.length)
def xos (X : Xs) : Xs := match X with
  | .inl a => .inl a
  | .inr (p, o, R) => if o < 12 then .inr (p, o + 1, R) else .inl (p, R.length)
def xop (t : Nat → Int32) (n k : Nat) (X : Xs) : Xs := match X with
  | .inl a => .inl a
  | .inr (p, o, R) => if tkk t n p = k ∧ o < 12 then .inr (nx t n p, o + 1, R) else .inl (p, R.length)
def xcl (t : Nat → Int32) (n k : Nat) (X : Xs) : Xs := match X with
  | .inl a => .inl a
  | .inr (p, o, R) => if tkk t n p = k then .inr (nx t n p, o - 1, R) else .inl (p, R.length)
def xem (x : Rw) (X : Xs) : Xs := match X with
  | .inl (q, N) => .inl (q, N + 1)
  | .inr (p, o, R) => .inr (p, o, R ++ [x])
/-- an expression, with fuel enough -/
def pX (t : Nat → Int32) (n : Nat) (L : List (List Nat)) (p o : Nat) : Rs := px t n L 21100 0 [] 0 p o
def xexr (t : Nat → Int32) (n o : Nat) (R : List Rw) (x : Rs) : Xs := match x with
  | none => .inl (0, 0)
  | some (.inl q) => .inl (q, 3100)
  | some (.inr (r, _, q)) => if rnk (tkk t n q) = 0 then .inr (q, o, R ++ r) else .inl (q, 3100)
def xex (t : Nat → Int32) (n : Nat) (L : List (List Nat)) (X : Xs) : Xs := match X with
  | .inl a => .inl a
  | .inr (p, o, R) => xexr t n o R (pX t n L p o)
theorem pX_n {t : Nat → Int32} {n : Nat} {L : List (List Nat)} {p o : Nat} (ht : txt t n) (hp : p ≤ n) : pX t n L p o ≠ none := by
  have := ht.1
  exact px_tot ht _ _ _ _ _ _ (by omega) hp (by unfold wgt; rw [if_pos (by omega)]; omega)
section MXB
variable {t : Nat → Int32} {n N : Nat} {L : List (List Nat)} {X : Xs}
theorem bX_w {N' : Nat} (h : bX n N X) (hN : N ≤ N') : bX n N' X := by
  rcases X with ⟨q, m⟩ | ⟨p, o, R⟩
  · exact ⟨h.1, by have := h.2; omega⟩
  · exact ⟨h.1, h.2.1, by have := h.2.2; omega⟩
theorem bX_nx (ht : txt t n) (h : bX n N X) : bX n N (xnx t n X) := by
  rcases X with ⟨q, m⟩ | ⟨p, o, R⟩
  · exact h
  · obtain ⟨h1, h2, h3⟩ := h
    have := nx_le ht h2
    exact ⟨h1, this.2, by omega⟩
theorem bX_f {q : Nat} {R : List Rw} (ht : txt t n) (hN : N ≤ 1000) (h : q ≤ n) (hR : R.length ≤ q + N) : bX n N (.inl (q, R.length)) := by
  have := ht.1
  exact ⟨by omega, by omega⟩
theorem bX_tk {k : Nat} (ht : txt t n) (hN : N ≤ 1000) (h : bX n N X) : bX n N (xtk t n k X) := by
  rcases X with ⟨q, m⟩ | ⟨p, o, R⟩
  · exact h
  · obtain ⟨h1, h2, h3⟩ := h
    have := nx_le ht h2
    unfold xtk
    refine my_ite (P := bX n N) (fun _ => ⟨h1, this.2, by omega⟩) (fun _ => bX_f ht hN h2 h3)
theorem bX_os (ht : txt t n) (hN : N ≤ 1000) (h : bX n N X) : bX n N (xos X) := by
  rcases X with ⟨q, m⟩ | ⟨p, o, R⟩
  · exact h
  · obtain ⟨h1, h2, h3⟩ := h
    unfold xos
    refine my_ite (P := bX n N) (fun ho => ⟨by omega, h2, h3⟩) (fun _ => bX_f ht hN h2 h3)
theorem bX_op {k : Nat} (ht : txt t n) (hN : N ≤ 1000) (h : bX n N X) : bX n N (xop t n k X) := by
  rcases X with ⟨q, m⟩ | ⟨p, o, R⟩
  · exact h
  · obtain ⟨h1, h2, h3⟩ := h
    have := nx_le ht h2
    unfold xop
    refine my_ite (P := bX n N) (fun ho => ⟨by omega, this.2, by omega⟩) (fun _ => bX_f ht hN h2 h3)
theorem bX_cl {k : Nat} (ht : txt t n) (hN : N ≤ 1000) (h : bX n N X) : bX n N (xcl t n k X) := by
  rcases X with ⟨q, m⟩ | ⟨p, o, R⟩
  · exact h
  · obtain ⟨h1, h2, h3⟩ := h
    have := nx_le ht h2
    unfold xcl
    refine my_ite (P := bX n N) (fun ho => ⟨by omega, this.2, by omega⟩) (fun _ => bX_f ht hN h2 h3)
theorem bX_em {x : Rw} (h : bX n N X) : bX n (N + 1) (xem x X) := by
  rcases X with ⟨q, m⟩ | ⟨p, o, R⟩
  · exact ⟨h.1, by have := h.2; omega⟩
  · obtain ⟨h1, h2, h3⟩ := h
    exact ⟨h1, h2, by simp only [List.length_append, List.length_cons, List.length_nil]; omega⟩
theorem bX_ex (ht : txt t n) (h : bX n N X) : bX n N (xex t n L X) := by
  rcases X with ⟨q, m⟩ | ⟨p, o, R⟩
  · exact h
  · obtain ⟨h1, h2, h3⟩ := h
    have hn := ht.1
    have hb := px_bd (L := L) ht 21100 0 [] 0 p o h2
    have hz := pX_n (L := L) (o := o) ht h2
    unfold xex
    simp only []
    cases hx : pX t n L p o with
    | none => exact absurd hx hz
    | some res =>
      rcases res with q | ⟨r, c, q⟩
      · have := hb.1 q hx
        exact ⟨by omega, by omega⟩
      · have := hb.2 r c q hx
        simp only [List.length_nil] at this
        unfold xexr
        refine my_ite (P := bX n N) (fun ho => ⟨h1, by omega, by simp only [List.length_append]; omega⟩) (fun _ => ⟨by omega, by omega⟩)
end MXB
section MXM
variable {e : my_E} {d : Nat} {κ : my_K} {σ : my_S} {Q : my_O → my_K → my_S → Prop} {t : Nat → Int32} {n N : Nat} {L : List (List Nat)} {X : Xs}
theorem M_nx (ht : txt t n) (hd : 3 ≤ d) (h : RM t n L X σ) (hQ : ∀ σ', RM t n L (xnx t n X) σ' → eqp eF σ σ' → Q (.inl none) κ σ') : my_M e d 218 [.inr (.inr (some 498))] κ σ Q := by
  obtain ⟨d, rfl⟩ := dS 3 hd
  rcases X with ⟨q, m⟩ | ⟨p, o, R⟩
  · exact RF_next ht h hQ
  · obtain ⟨W, h⟩ := h
    exact RE_next ht h (fun σ' g f => hQ σ' ⟨W, g⟩ f)
theorem M_tk {k : Nat} {y : Int32} (ht : txt t n) (hd : 4 ≤ d) (hb : bX n N X) (hN : N ≤ 50) (hk : (33 ≤ k ∧ k < 127) ∨ (256 ≤ k ∧ k < 259) ∨ (300 ≤ k ∧ k < 317) ∨ k ≤ 3) (hy : y = Int32.ofNat (kR k)) (h : RM t n L X σ) (hQ : ∀ σ', RM t n L (xtk t n k X) σ' → eqp eF σ σ' → Q (.inl none) κ σ') : my_M e d 230 [.inr (.inr (some 498)), .inl y] κ σ Q := by
  rcases X with ⟨q, m⟩ | ⟨p, o, R⟩
  · obtain ⟨d, rfl⟩ := dS 1 (show 1 ≤ d by omega)
    have := hb.1
    exact RF_take h (by omega) (hQ σ h eqp_rf)
  · obtain ⟨d, rfl⟩ := dS 4 hd
    obtain ⟨W, h⟩ := h
    have T := tkq (p := p) ht k hk (RE_tok h) hy
    obtain ⟨h1, h2, h3⟩ := hb
    have hl := RE_le ht h
    refine ys_230 ?_
    unfold ys_230_0
    rw [h.2.1, if_pos fNo_lt]
    unfold xtk at hQ
    simp only [] at hQ
    refine my_if (fun hh => ?_) (fun hh => ?_)
    · rw [if_pos (T.mp hh)] at hQ
      unfold ys_230_23 ys_230_34
      rw [h.2.1, if_pos fNo_lt]
      refine RE_next ht h (fun σ' g f => ?_)
      rw [my_k0_v]
      exact hQ σ' ⟨W, g⟩ f
    · rw [if_neg (fun h2 => hh (T.mpr h2))] at hQ
      rw [RE_pl h]
      refine RE_bad (q := p) (N := R.length) h (Nat.le_refl _) (fun σ' g _ _ f => ?_)
      rw [my_k0_v]
      unfold ys_230_23 ys_230_34
      rw [if_neg (RF_lt g (by omega))]
      exact hQ σ' g f
theorem M_os (ht : txt t n) (hd : 2 ≤ d) (hb : bX n N X) (h : RM t n L X σ) (hQ : ∀ σ', RM t n L (xos X) σ' → eqp eF σ σ' → Q (.inl none) κ σ') : my_M e d 236 [.inr (.inr (some 498))] κ σ Q := by
  obtain ⟨d, rfl⟩ := dS 2 hd
  rcases X with ⟨q, m⟩ | ⟨p, o, R⟩
  · refine ys_236 ?_
    unfold ys_236_0 ys_236_17
    have fin : ∀ x, Q (.inl none) κ (my_uI σ 498 10 x) := fun x => by
      obtain ⟨g1, g2⟩ := RF_open (x := x) h
      exact hQ _ g1 g2
    refine my_if (fun hh => ?_) (fun hh => fin _)
    have := hb.1
    refine RF_bad h (by omega) ?_
    rw [my_k0_v]
    exact fin _
  · obtain ⟨W, h⟩ := h
    obtain ⟨h1, h2, h3⟩ := hb
    unfold xos at hQ
    simp only [] at hQ
    refine RE_opens (N := R.length) ht h h1 (Nat.le_refl _) (fun ho σ' g f => ?_) (fun ho σ' g _ f => ?_)
    · rw [if_pos ho] at hQ
      exact hQ σ' ⟨W, g⟩ f
    · rw [if_neg (by omega)] at hQ
      exact hQ σ' g f
theorem M_op {k : Nat} {y : Int32} (ht : txt t n) (hd : 5 ≤ d) (hb : bX n N X) (hN : N ≤ 50) (hk : (33 ≤ k ∧ k < 127) ∨ (256 ≤ k ∧ k < 259) ∨ (300 ≤ k ∧ k < 317) ∨ k ≤ 3) (hy : y = Int32.ofNat (kR k)) (h : RM t n L X σ) (hQ : ∀ σ', RM t n L (xop t n k X) σ' → eqp eF σ σ' → Q (.inl none) κ σ') : my_M e d 235 [.inr (.inr (some 498)), .inl y] κ σ Q := by
  obtain ⟨d, rfl⟩ := dS 1 (show 1 ≤ d by omega)
  refine ys_235 ?_
  unfold ys_235_0 ys_235_19
  rcases X with ⟨q, m⟩ | ⟨p, o, R⟩
  · have := hb.1
    rw [if_neg (RF_lt h (by omega))]
    refine M_tk (X := .inl (q, m)) ht (by omega) hb hN hk hy h (fun σ' g f => ?_)
    rw [my_k0_v]
    exact hQ σ' g f
  · obtain ⟨W, h⟩ := h
    have T := tkq (p := p) ht k hk (RE_tok h) hy
    rw [h.2.1, if_pos fNo_lt]
    have hb' := hb
    obtain ⟨h1, h2, h3⟩ := hb
    unfold xop at hQ
    simp only [] at hQ
    refine my_if (fun hh => ?_) (fun hh => ?_)
    · refine M_os (X := .inr (p, o, R)) ht (by omega) hb' ⟨W, h⟩ (fun σ1 g1 f1 => ?_)
      rw [my_k0_v]
      have hb1 := bX_os ht (show N ≤ 1000 by omega) hb'
      refine M_tk (k := k) ht (by omega) hb1 hN hk hy g1 (fun σ2 g2 f2 => ?_)
      rw [my_k0_v]
      by_cases ho : o < 12
      · rw [if_pos ⟨T.mp hh, ho⟩] at hQ
        refine hQ σ2 ?_ (eqp_tr f1 f2)
        unfold xos xtk at g2
        simp only [if_pos ho, if_pos (T.mp hh)] at g2
        exact g2
      · rw [if_neg (fun h4 => ho h4.2)] at hQ
        refine hQ σ2 ?_ (eqp_tr f1 f2)
        unfold xos xtk at g2
        simp only [if_neg ho] at g2
        exact g2
    · rw [if_neg (fun h4 => hh (T.mpr h4.1))] at hQ
      refine M_tk (X := .inr (p, o, R)) (k := k) ht (by omega) hb' hN hk hy ⟨W, h⟩ (fun σ2 g2 f2 => ?_)
      rw [my_k0_v]
      refine hQ σ2 ?_ f2
      unfold xtk at g2
      simp only [if_neg (fun h4 => hh (T.mpr h4))] at g2
      exact g2
theorem M_cl {k : Nat} {y : Int32} (ht : txt t n) (hd : 5 ≤ d) (hb : bX n N X) (hN : N ≤ 50) (hk : (33 ≤ k ∧ k < 127)) (hy : y = Int32.ofNat (kR k)) (ho : ∀ p o R, X = .inr (p, o, R) → 1 ≤ o) (h : RM t n L X σ) (hQ : ∀ σ', RM t n L (xcl t n k X) σ' → eqp eF σ σ' → Q (.inl none) κ σ') : my_M e d 239 [.inr (.inr (some 498)), .inl y] κ σ Q := by
  obtain ⟨d, rfl⟩ := dS 1 (show 1 ≤ d by omega)
  refine ys_239 ?_
  unfold ys_239_0
  refine M_tk (k := k) ht (by omega) hb hN (Or.inl hk) hy h (fun σ' g f => ?_)
  rw [my_k0_v]
  rcases X with ⟨q, m⟩ | ⟨p, o, R⟩
  · obtain ⟨g1, g2⟩ := RF_open (x := σ'.1 498 10 - 1) g
    exact hQ _ g1 (eqp_tr f g2)
  · have ho1 := ho p o R rfl
    unfold xtk at g
    unfold xcl at hQ
    simp only [] at g hQ
    by_cases hh : tkk t n p = k
    · rw [if_pos hh] at g hQ
      obtain ⟨W, g⟩ := g
      rw [g.2.2.1, show Int32.ofNat o - 1 = Int32.ofNat (o - 1) from (by rw [show o = (o - 1) + 1 by omega, oN_m]; rfl)]
      exact hQ _ ⟨W, RE_open g⟩ (eqp_tr f (eqp_I eqp_rf (by unfold eF; omega)))
    · rw [if_neg hh] at g hQ
      obtain ⟨g1, g2⟩ := RF_open (x := σ'.1 498 10 - 1) g
      exact hQ _ g1 (eqp_tr f g2)
theorem M_em {x : Rw} {v1 v2 v5 : Int32} {v3 : Int64} (ht : txt t n) (hd : 1 ≤ d) (hb : bX n N X) (hN : N ≤ 50) (e1 : v1 = Int32.ofNat x.1) (e2 : x.1 = 2 ∨ x.1 = 3 ∨ v2 = x.2.1) (e3 : v3 = nmR x.2.2.1) (e5 : v5 = Int32.ofNat x.2.2.2) (h : RM t n L X σ) (hQ : ∀ σ' v, RM t n L (xem x X) σ' → eqp eF σ σ' → (∀ p o R, X = .inr (p, o, R) → v = Int32.ofNat R.length) → Q (.inl (some (.inl v))) κ σ') : my_M e d 243 [.inr (.inr (some 498)), .inl v1, .inl v2, .inr (.inl v3), .inl v5] κ σ Q := by
  obtain ⟨d, rfl⟩ := dS 1 hd
  have hn := ht.1
  rcases X with ⟨q, m⟩ | ⟨p, o, R⟩
  · have := hb.2
    exact RF_emit h (by omega) (fun σ' m' g f _ => hQ σ' _ g f (fun p o R hh => by cases hh))
  · obtain ⟨W, h⟩ := h
    obtain ⟨h1, h2, h3⟩ := hb
    exact RE_emit h (by omega) e1 e2 e3 e5 (fun σ' g f => hQ σ' _ ⟨W, g⟩ (eqp_mo f (fun _ _ => mF_e)) (fun p' o' R' hh => by cases hh; rfl))
theorem M_ex (ht : txt t n) (hd : 7 ≤ d) (hb : bX n N X) (hN : N ≤ 50) (h : RM t n L X σ) (hQ : ∀ σ', RM t n L (xex t n L X) σ' → eqp eF σ σ' → Q (.inl none) κ σ') : my_M e d 244 [.inr (.inr (some 498))] κ σ Q := by
  obtain ⟨d, rfl⟩ := dS 7 hd
  have hn := ht.1
  rcases X with ⟨q, m⟩ | ⟨p, o, R⟩
  · refine ys_244 ?_
    unfold ys_244_0
    refine ys_244_7_ok ?_
    have hq := hb.1
    have he : eqp (fun c k => c = 498 ∧ k = 36) σ (my_uI σ 498 36 0) := eqp_I eqp_rf ⟨rfl, rfl⟩
    obtain ⟨a1, ⟨p', a2⟩, m', a3, a4⟩ := h
    have g0 : RF t n q m (my_uI σ 498 36 0) := ⟨(eqp_g he (by omega)).trans a1, ⟨p', rfT_o a2 he (fun c k hh => by omega)⟩, m', a3, (eqp_g he (by omega)).trans a4⟩
    exact RF_loop g0 (by omega) (hQ _ g0 (eqp_mo he (fun c k hh => by unfold eF; omega)))
  · obtain ⟨W, h⟩ := h
    obtain ⟨h1, h2, h3⟩ := hb
    unfold xex at hQ
    simp only [] at hQ
    cases hx : pX t n L p o with
    | none => exact absurd hx (pX_n ht h2)
    | some res =>
      rw [hx] at hQ
      refine r_244 ht hx h h1 (by omega) (fun q hq => ?_) (fun r c q hq h3 => ?_) (fun r c q hq h0 => ?_)
      · subst hq
        exact fun σ' g f => hQ σ' g f
      · subst hq
        unfold xexr at hQ
        simp only [] at hQ
        rw [if_neg (by omega)] at hQ
        exact fun σ' g f => hQ σ' g f
      · subst hq
        unfold xexr at hQ
        simp only [] at hQ
        rw [if_pos h0] at hQ
        exact fun σ' g f => hQ σ' ⟨[], g⟩ f
end MXM
