/-! ===== the reference: the ends of blocks ===== -/
theorem my_uI_same {σ : my_S} {a k : Nat} {x : Int32} (h : σ.1 a k = x) : my_uI σ a k x = σ := by
  subst h
  unfold my_uI
  have : (fun b j => if b = a ∧ j = k then σ.1 a k else σ.1 b j) = σ.1 := by
    funext b j
    by_cases hh : b = a ∧ j = k
    · rw [if_pos hh, hh.1, hh.2]
    · rw [if_neg hh]
  show ((fun b j => if b = a ∧ j = k then σ.1 a k else σ.1 b j), σ.2) = σ
  rw [this]
section MSX
variable {e : my_E} {d : Nat} {κ : my_K} {Q : my_O → my_K → my_S → Prop} {t : Nat → Int32} {n : Nat} {L : List (List Nat)}
/-- the breaks of an outer loop stay where they are -/
theorem r_242k {D : List Bd} {K0 K1 : List (Nat × Nat)} {ck : Nat} {σ : my_S} (hD : D.length < 20) (hK : (K0 ++ K1).length < 400) (h0 : ∀ x ∈ K0, x.2 < D.length) (hR : RD D (K0 ++ K1) ck σ) (hQ : ys_242_71 e d (Int32.ofNat K0.length) (Int32.ofNat K0.length) κ σ Q) : ∀ m j, j + m = K0.length → ys_242_71 e d (Int32.ofNat j) (Int32.ofNat j) κ σ Q := by
  intro m
  induction m with
  | zero => intro j hj; rw [show j = K0.length by omega]; exact hQ
  | succ m ih =>
    intro j hj
    obtain ⟨⟨a1, a2⟩, ⟨a3, a4⟩, a5⟩ := hR
    simp only [List.length_append] at hK
    have hjl : j < K0.length := by omega
    have hx : (K0 ++ K1)[j]? = some K0[j] := by rw [List.getElem?_append_left hjl, List.getElem?_eq_getElem hjl]
    obtain ⟨e1, e2⟩ := a4 j _ hx
    have hdp := h0 _ (List.getElem_mem hjl)
    have bd : my_bd (Int32.ofNat j) 400 := ⟨by rw [oN_i (by omega)]; omega, by rw [oN_i (by omega)]; omega⟩
    unfold ys_242_71
    rw [a3, if_pos ((oN_lt (by omega) (by simp; omega)).mpr (by simp; omega)), oN_n (by omega), e2, a1]
    refine ⟨bd, ?_⟩
    rw [if_neg (fun hh => by have := (oN_e (by omega) (by omega)).mp hh; omega)]
    refine ⟨bd, bd, bd, bd, ?_⟩
    unfold ys_242_137
    rw [oN_s, my_uI_same (σ := σ) (a := 524) (k := j) rfl, my_uI_same (σ := σ) (a := 525) (k := j) e2]
    exact ys_242_71_ok (ih (j + 1) (by omega))
/-- those of the loop get where they go -/
theorem r_242b {D : List Bd} {K0 : List (Nat × Nat)} {b : List Nat} {ck p o T : Nat} (ht : txt t n) (hD : D.length < 20) (hK : (K0 ++ b.map (fun i => (i, D.length))).length < 400) : ∀ (m j : Nat) (R : List Rw) (σ : my_S), j + m = b.length → R.length = T → T < 3200 → (∀ i ∈ b, ∃ v, R[i]? = some (14, v, [], 0)) → RM t n L (.inr (p, o, R)) σ → RD D (K0 ++ b.map (fun i => (i, D.length))) ck σ → (∀ σ', RM t n L (.inr (p, o, ptc (b.drop j) 0 T R)) σ' → RD D K0 ck σ' → eqp sF σ σ' → Q (.inl none) κ σ') → ys_242_71 e d (Int32.ofNat K0.length) (Int32.ofNat (K0.length + j)) κ σ Q := by
  intro m
  induction m with
  | zero =>
    intro j R σ hj hRl hT hbk h hR hQ
    simp only [List.length_append, List.length_map] at hK
    obtain ⟨⟨a1, a2⟩, ⟨a3, a4⟩, a5⟩ := hR
    unfold ys_242_71 ys_242_236
    rw [a3, if_neg (fun hh => by have := (oN_lt (by omega) (by simp; omega)).mp hh; simp at this; omega)]
    rw [List.drop_eq_nil_of_le (by omega)] at hQ
    have he : eqp (fun c k => c = 498 ∧ k = 43) σ (my_uI σ 498 43 (Int32.ofNat K0.length)) := eqp_I eqp_rf ⟨rfl, rfl⟩
    refine hQ _ (RM_o h he (fun c k hh => by omega)) ⟨⟨(eqp_g he (by omega)).trans a1, bks_o he a2 (fun c k hh _ => by omega)⟩, ⟨by rw [my_uI_1, if_pos ⟨rfl, rfl⟩], fun i x hx => ?_⟩, (eqp_g he (by omega)).trans a5⟩ (eqp_mo he (fun c k hh => by unfold sF; omega))
    have hil : i < K0.length := by
      by_cases hh : i < K0.length
      · exact hh
      · rw [List.getElem?_eq_none (by omega)] at hx; cases hx
    have := a4 i x (by rw [List.getElem?_append_left hil]; exact hx)
    exact ⟨(eqp_g he (by omega)).trans this.1, (eqp_g he (by omega)).trans this.2⟩
  | succ m ih =>
    intro j R σ hj hRl hT hbk h hR hQ
    have hK' := hK
    simp only [List.length_append, List.length_map] at hK'
    have hR' := hR
    obtain ⟨⟨a1, a2⟩, ⟨a3, a4⟩, a5⟩ := hR
    have hjl : j < b.length := by omega
    have hx : (K0 ++ b.map (fun i => (i, D.length)))[K0.length + j]? = some (b[j], D.length) := by
      rw [List.getElem?_append_right (by omega), show K0.length + j - K0.length = j by omega, List.getElem?_map, List.getElem?_eq_getElem hjl]
      rfl
    obtain ⟨e1, e2⟩ := a4 _ _ hx
    have bd : my_bd (Int32.ofNat (K0.length + j)) 400 := ⟨by rw [oN_i (by omega)]; omega, by rw [oN_i (by omega)]; omega⟩
    obtain ⟨v, hv⟩ := hbk b[j] (List.getElem_mem hjl)
    have hbl : b[j] < R.length := by
      by_cases hh : b[j] < R.length
      · exact hh
      · rw [List.getElem?_eq_none (by omega)] at hv; cases hv
    unfold ys_242_71
    rw [a3, if_pos ((oN_lt (by omega) (by simp; omega)).mpr (by simp; omega)), oN_n (by omega), e2, a1]
    refine ⟨bd, ?_⟩
    rw [if_pos rfl, e1]
    have h23 : σ.1 498 23 = Int32.ofNat R.length := by
      obtain ⟨W, h⟩ := h
      exact h.2.2.2.1.1
    refine ⟨bd, ⟨by rw [oN_i (by omega)]; omega, by rw [oN_i (by omega)]; omega⟩, ?_⟩
    unfold ys_242_137
    rw [oN_n (by omega), h23, oN_s, hRl]
    obtain ⟨W, hE⟩ := h
    have hE2 := RE_set (v := Int32.ofNat T) hE hv
    have hR2 := RD_e hR' (set_F (j := b[j]) (v := Int32.ofNat T))
    rw [List.drop_eq_getElem_cons hjl] at hQ
    refine ys_242_71_ok (ih (j + 1) (R.set b[j] (14, Int32.ofNat T, [], 0)) _ (by omega) (by simp [hRl]) hT (fun i hi => ?_) ⟨W, hE2⟩ hR2 (fun σ' g1 g2 g3 => hQ σ' g1 g2 (eqp_tr (eqp_mo set_F (fun _ _ => eF_s)) g3)))
    by_cases hib : i = b[j]
    · rw [hib]
      exact ⟨_, List.getElem?_set_self hbl⟩
    · rw [List.getElem?_set_ne (fun hh => hib hh.symm)]
      exact hbk i hi
/-- the end of a block -/
theorem r_242 {q o ck kd j l : Nat} {R : List Rw} {D : List Bd} {K : List (Nat × Nat)} {σ : my_S} {x : Rw} (ht : txt t n) (hd : 7 ≤ d) (h125 : tkk t n q = 125) (hb : bX n 0 (.inr (q, o + 1, R))) (h : RM t n L (.inr (q, o + 1, R)) σ) (hR : RD ((kd, j, l) :: D) K ck σ) (hD : D.length < 20) (hkd : kd ≤ 3) (hx : 0 < kd → R[j]? = some x)
    (c0 : kd = 0 → ∀ σ', RM t n L (.inr (nx t n q, o, R)) σ' → RD D K ck σ' → eqp sF σ σ' → Q (.inl none) κ σ')
    (c1 : (kd = 2 ∨ kd = 1 ∧ tkk t n (nx t n q) ≠ 309) → ∀ σ', RM t n L (.inr (nx t n q, o, R.set j (x.1, Int32.ofNat R.length, x.2.2.1, x.2.2.2))) σ' → RD D K ck σ' → eqp sF σ σ' → Q (.inl none) κ σ')
    (ce : kd = 1 → tkk t n (nx t n q) = 309 → ∀ σ', RM t n L (xop t n 123 (.inr (nx t n (nx t n q), o, (R ++ [(14, 0, [], 0)]).set j (x.1, Int32.ofNat (R.length + 1), x.2.2.1, x.2.2.2)))) σ' → (∀ p' o' R', xop t n 123 (.inr (nx t n (nx t n q), o, (R ++ [(14, 0, [], 0)]).set j (x.1, Int32.ofNat (R.length + 1), x.2.2.1, x.2.2.2))) = .inr (p', o', R') → RD ((2, R.length, 0) :: D) K ck σ') → eqp sF σ σ' → Q (.inl none) κ σ')
    (c3 : kd = 3 → ∀ σ', RM t n L (.inr (nx t n q, o, (R ++ [(14, Int32.ofNat l, [], 0)]).set j (x.1, Int32.ofNat (R.length + 1), x.2.2.1, x.2.2.2))) σ' → RD D K ck σ' → eqp sF σ σ' → ys_242_71 e (d - 1) 0 0 κ σ' Q) : my_M e d 242 [.inr (.inr (some 498))] κ σ Q := by
  obtain ⟨d, rfl⟩ := dS 1 (show 1 ≤ d by omega)
  rw [show d + 1 - 1 = d by omega] at c3
  have hn := ht.1
  refine ys_242 ?_
  unfold ys_242_0 ys_242_236
  refine M_cl (k := 125) ht (by omega) hb (by omega) (by omega) rfl (fun p' o' R' hh => by cases hh; omega) h (fun σ1 g1 f1 => ?_)
  rw [my_k0_v]
  have e1 : xcl t n 125 (.inr (q, o + 1, R)) = .inr (nx t n q, o, R) := by
    show (if tkk t n q = 125 then _ else _) = _
    rw [if_pos h125, show o + 1 - 1 = o by omega]
  rw [e1] at g1
  have b1 : bX n 0 (.inr (nx t n q, o, R)) := by rw [← e1]; exact bX_cl ht (by omega) hb
  have hR1 := RD_e hR f1
  obtain ⟨⟨a1, ⟨a2k, a2j, a2l⟩, a2⟩, a3, a5⟩ := hR1
  rw [a1, List.length_cons, oN_m, oN_n (by omega)]
  have bd : my_bd (Int32.ofNat D.length) 20 := ⟨by rw [oN_i (by omega)]; omega, by rw [oN_i (by omega)]; omega⟩
  refine ⟨bd, ?_⟩
  have he : eqp (fun c k => c = 498 ∧ k = 40) σ1 (my_uI σ1 498 40 (Int32.ofNat D.length)) := eqp_I eqp_rf ⟨rfl, rfl⟩
  have g2 := RM_o g1 he (fun c k hh => by omega)
  have hR2 : RD D K ck (my_uI σ1 498 40 (Int32.ofNat D.length)) := ⟨⟨by rw [my_uI_1, if_pos ⟨rfl, rfl⟩], bks_o he a2 (fun c k hh _ => by omega)⟩, ⟨(eqp_g he (by omega)).trans a3.1, fun i x hx => ⟨(eqp_g he (by omega)).trans (a3.2 i x hx).1, (eqp_g he (by omega)).trans (a3.2 i x hx).2⟩⟩, (eqp_g he (by omega)).trans a5⟩
  have k2j : (my_uI σ1 498 40 (Int32.ofNat D.length)).1 522 D.length = Int32.ofNat j := (eqp_g he (by omega)).trans a2j
  have k2l : (my_uI σ1 498 40 (Int32.ofNat D.length)).1 523 D.length = Int32.ofNat l := (eqp_g he (by omega)).trans a2l
  have f2 : eqp sF σ (my_uI σ1 498 40 (Int32.ofNat D.length)) := eqp_tr (eqp_mo f1 (fun _ _ => eF_s)) (eqp_mo he (fun c k hh => by unfold sF; omega))
  rw [a2k]
  generalize my_uI σ1 498 40 (Int32.ofNat D.length) = σ2 at g2 hR2 k2j k2l f2 ⊢
  have ek : ∀ k : Nat, k < 100 → (Int32.ofNat kd = Int32.ofNat k ↔ kd = k) := fun k hk => oN_e (by omega) (by omega)
  have hjl : 0 < kd → j < R.length := fun h0 => by
    have := hx h0
    by_cases hh : j < R.length
    · exact hh
    · rw [List.getElem?_eq_none (by omega)] at this; cases this
  have hRl := b1.2.2
  have hpn := b1.2.1
  refine my_if (fun h3 => ?_) (fun h3 => ?_)
  · have h3 : kd = 3 := (ek 3 (by omega)).mp h3
    have hj := hjl (by omega)
    rw [hR2.1.1, oN_n (by omega), k2l]
    refine ⟨bd, ?_⟩
    refine M_em (x := (14, Int32.ofNat l, [], 0)) ht (by omega) b1 (by omega) rfl (Or.inr (Or.inr rfl)) rfl rfl g2 (fun σ3 v g3 f3 _ => ?_)
    rw [my_kI_v]
    have hR3 := RD_e hR2 f3
    have k3j : σ3.1 522 D.length = Int32.ofNat j := (eqp_g f3 (by unfold eF; omega)).trans k2j
    rw [hR3.1.1, oN_n (by omega), k3j]
    refine ⟨bd, ⟨by rw [oN_i (by omega)]; omega, by rw [oN_i (by omega)]; omega⟩, ?_⟩
    rw [oN_n (by omega)]
    obtain ⟨W, hE⟩ := g3
    have h23 : σ3.1 498 23 = Int32.ofNat (R.length + 1) := by rw [hE.2.2.2.1.1]; simp
    rw [h23]
    have hE2 := RE_set (j := j) (v := Int32.ofNat (R.length + 1)) (x := x) hE (by rw [List.getElem?_append_left hj]; exact hx (by omega))
    exact ys_242_71_ok (c3 h3 _ ⟨W, hE2⟩ (RD_e hR3 set_F) (eqp_tr (eqp_tr f2 (eqp_mo f3 (fun _ _ => eF_s))) (eqp_mo set_F (fun _ _ => eF_s))))
  have n3 : kd ≠ 3 := fun hh => h3 ((ek 3 (by omega)).mpr hh)
  -- not a loop, no else
  have pl : (kd = 1 → tkk t n (nx t n q) ≠ 309) → ys_242_214 e d (Int32.ofNat kd) κ σ2 Q := fun hne => by
    unfold ys_242_214 ys_242_236
    refine my_if (fun h0 => ?_) (fun h0 => ?_)
    · have h0 : 0 < kd := (oN_lt (p := 0) (by omega) (by omega)).mp h0
      have hj := hjl h0
      rw [hR2.1.1, oN_n (by omega), k2j]
      refine ⟨bd, ⟨by rw [oN_i (by omega)]; omega, by rw [oN_i (by omega)]; omega⟩, ?_⟩
      rw [oN_n (by omega)]
      obtain ⟨W, hE⟩ := g2
      rw [hE.2.2.2.1.1]
      have hE2 := RE_set (j := j) (v := Int32.ofNat R.length) (x := x) hE (hx h0)
      exact c1 (by
        by_cases hk : kd = 1
        · exact Or.inr ⟨hk, hne hk⟩
        · exact Or.inl (by omega)) _ ⟨W, hE2⟩ (RD_e hR2 set_F) (eqp_tr f2 (eqp_mo set_F (fun _ _ => eF_s)))
    · have h0 : ¬ 0 < kd := fun hh => h0 ((oN_lt (p := 0) (by omega) (by omega)).mpr hh)
      exact c0 (by omega) σ2 g2 hR2 f2
  refine my_if (fun h1 => ?_) (fun h1 => ?_)
  · have h1 : kd = 1 := (ek 1 (by omega)).mp h1
    have hj := hjl (by omega)
    have g2' := g2
    obtain ⟨W, hE⟩ := g2'
    rw [hE.2.1, if_pos fNo_lt]
    have T := tkq (p := nx t n q) ht 309 (by omega) (RE_tok hE) (y := 19) rfl
    refine my_if (fun h309 => ?_) (fun h309 => pl (fun _ hh => h309 (T.mpr hh)))
    have h309 := T.mp h309
    refine M_em (x := (14, 0, [], 0)) ht (by omega) b1 (by omega) rfl (Or.inr (Or.inr rfl)) rfl rfl g2 (fun σ3 v g3 f3 hv => ?_)
    rw [my_kI_v]
    have hv := hv _ _ _ rfl
    have hR3 := RD_e hR2 f3
    have k3j : σ3.1 522 D.length = Int32.ofNat j := (eqp_g f3 (by unfold eF; omega)).trans k2j
    rw [hR3.1.1, oN_n (by omega), k3j]
    refine ⟨bd, ⟨by rw [oN_i (by omega)]; omega, by rw [oN_i (by omega)]; omega⟩, ?_⟩
    rw [oN_n (by omega)]
    obtain ⟨W3, hE3⟩ := g3
    have h23 : σ3.1 498 23 = Int32.ofNat (R.length + 1) := by rw [hE3.2.2.2.1.1]; simp
    rw [h23]
    have hE4 := RE_set (j := j) (v := Int32.ofNat (R.length + 1)) (x := x) hE3 (by rw [List.getElem?_append_left hj]; exact hx (by omega))
    have hR4 := RD_e hR3 (set_F (j := j) (v := Int32.ofNat (R.length + 1)))
    have f4 := eqp_tr (eqp_tr f2 (eqp_mo f3 (fun _ _ => eF_s))) (eqp_mo (set_F (σ := σ3) (j := j) (v := Int32.ofNat (R.length + 1))) (fun _ _ => eF_s))
    generalize my_uI σ3 513 j (Int32.ofNat (R.length + 1)) = σ4 at hE4 hR4 f4 ⊢
    refine M_nx (X := .inr (nx t n q, o, (R ++ [(14, 0, [], 0)]).set j (x.1, Int32.ofNat (R.length + 1), x.2.2.1, x.2.2.2))) ht (by omega) ⟨W3, hE4⟩ (fun σ5 g5 f5 => ?_)
    rw [my_k0_v]
    have hR5 := RD_e hR4 f5
    have hnx := nx_bd ht (tk_lt (t := t) (n := n) (p := nx t n q) (by omega))
    have b5 : bX n 1 (.inr (nx t n (nx t n q), o, (R ++ [(14, 0, [], 0)]).set j (x.1, Int32.ofNat (R.length + 1), x.2.2.1, x.2.2.2))) := ⟨b1.1, hnx.2, by simp; omega⟩
    refine r_240 (kd := 2) (j := R.length) (l := 0) ht (by omega) b5 (by omega) rfl (fun _ _ _ _ => hv) rfl hD hR5 g5 (fun σ6 g6 hR6 f6 => ?_)
    rw [my_k0_v]
    exact ce h1 h309 σ6 g6 hR6 (eqp_tr (eqp_tr f4 (eqp_mo f5 (fun _ _ => eF_s))) f6)
  · exact pl (fun hh => absurd ((ek 1 (by omega)).mpr hh) h1)
end MSX
