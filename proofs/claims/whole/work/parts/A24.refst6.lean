/-! ===== the reference reads statements: all ===== -/
theorem pnam_k {t : Nat → Int32} {n : Nat} {L : List (List Nat)} {ck p o : Nat} {r : List Rw} {L' : List (List Nat)} {c : Nat} {b : List Nat} {q : Nat} (h : pnam t n L ck p o = some (.inr (r, L', c, b, q))) : L' = L ∧ c = ck ∧ b = [] := by
  have e0 : ∀ {x : Rs} {due : Nat} {k : List Rw → Nat → Ss}, (∀ r1 q1, k r1 q1 = some (.inr (r, L', c, b, q)) → L' = L ∧ c = ck ∧ b = []) → eT t n x due k = some (.inr (r, L', c, b, q)) → L' = L ∧ c = ck ∧ b = [] := fun hk h => by
    rcases eT_r h with ⟨q, g1, g2⟩ | ⟨r, c, q, g1, ⟨g2, g3⟩ | ⟨g2, g3⟩⟩
    · cases g2
    · exact hk _ _ g3
    · cases g3
  have t0 : ∀ {p due : Nat} {k : Nat → Ss}, (∀ q1, k q1 = some (.inr (r, L', c, b, q)) → L' = L ∧ c = ck ∧ b = []) → tT t n p due k = some (.inr (r, L', c, b, q)) → L' = L ∧ c = ck ∧ b = [] := fun hk h => by
    rcases tT_r h with ⟨g1, g2⟩ | ⟨g1, g2⟩
    · exact hk _ g2
    · cases g2
  unfold pnam at h
  split at h
  · split at h
    · cases h
    · split at h
      · exact t0 (fun q1 h => by cases h; exact ⟨rfl, rfl, rfl⟩) h
      · rcases aT_r h with ⟨q, g1, g2⟩ | ⟨r, c, q, g1, g2⟩
        · cases g2
        · exact t0 (fun q1 h => by cases h; exact ⟨rfl, rfl, rfl⟩) g2
  · split at h
    · split at h
      · cases h
      · exact e0 (fun r1 q1 h => t0 (fun q1 h => e0 (fun r1 q1 h => by cases h; exact ⟨rfl, rfl, rfl⟩) h) h) h
    · exact t0 (fun q1 h => e0 (fun r1 q1 h => by cases h; exact ⟨rfl, rfl, rfl⟩) h) h
theorem pret_k {t : Nat → Int32} {n fm : Nat} {L : List (List Nat)} {ck p o : Nat} {r : List Rw} {L' : List (List Nat)} {c : Nat} {b : List Nat} {q : Nat} (h : pret t n fm L ck p o = some (.inr (r, L', c, b, q))) : L' = L ∧ c = ck ∧ b = [] := by
  unfold pret at h
  split at h
  · cases h
  · split at h
    · rcases eT_r h with ⟨q, g1, g2⟩ | ⟨r, c, q, g1, ⟨g2, g3⟩ | ⟨g2, g3⟩⟩
      · cases g2
      · cases g3; exact ⟨rfl, rfl, rfl⟩
      · cases g3
    · rcases tT_r h with ⟨g1, g2⟩ | ⟨g1, g2⟩
      · cases g2; exact ⟨rfl, rfl, rfl⟩
      · cases g2
section MSZ
variable {e : my_E} {d : Nat} {κ : my_K} {Q : my_O → my_K → my_S → Prop} {t : Nat → Int32} {n : Nat} {NL : List (List Nat)} {own : List Nat} {fm : Nat}
/-- one round of the loop -/
theorem lp_st {L : List (List Nat)} {p o ck : Nat} {R : List Rw} {D : List Bd} {K : List (Nat × Nat)} {σ : my_S} {v1 : Int32} (hd : 1 ≤ d) (h : RM t n L (.inr (p, o, R)) σ) (hR : RD D K ck σ) (hD : 0 < D.length) (hD2 : D.length ≤ 12) (hM : ∀ Q', (∀ κ' σ', ys_233_111 e d v1 κ' σ' Q → Q' (.inl none) κ' σ') → ys_241_0 e (d - 1) v1 κ σ Q') : ys_233_111 e d v1 κ σ Q := by
  obtain ⟨d, rfl⟩ := dS 1 hd
  unfold ys_233_111
  rw [if_pos (RM_R h), hR.1.1, if_pos (oN_pos hD (by omega))]
  exact ys_241 (hM _ (fun κ' σ' hh => by rw [my_k0_v]; exact ys_233_111_ok hh))
/-- the end of a block, in the loop -/
theorem lp_e {q o ck kd j l : Nat} {L : List (List Nat)} {R : List Rw} {D : List Bd} {K0 : List (Nat × Nat)} {b : List Nat} {σ : my_S} {x : Rw} {v1 : Int32} (ht : txt t n) (hd : 9 ≤ d) (h125 : tkk t n q = 125) (hb : bX n 0 (.inr (q, o + 1, R))) (h : RM t n L (.inr (q, o + 1, R)) σ) (hR : RD ((kd, j, l) :: D) (K0 ++ b.map (fun i => (i, D.length))) ck σ) (hD : D.length < 12) (hkd : kd ≤ 3) (hx : 0 < kd → R[j]? = some x) (hb0 : kd ≠ 3 → b = []) (hK : (K0 ++ b.map (fun i => (i, D.length))).length < 400) (hK0 : kd = 3 → ∀ x ∈ K0, x.2 < D.length) (hbk : kd = 3 → ∀ i ∈ b, i ≠ j ∧ ∃ v, R[i]? = some (14, v, [], 0))
    (c0 : kd = 0 → ∀ σ', RM t n L (.inr (nx t n q, o, R)) σ' → RD D K0 ck σ' → eqp sF σ σ' → ys_233_111 e d v1 κ σ' Q)
    (c1 : (kd = 2 ∨ kd = 1 ∧ tkk t n (nx t n q) ≠ 309) → ∀ σ', RM t n L (.inr (nx t n q, o, R.set j (x.1, Int32.ofNat R.length, x.2.2.1, x.2.2.2))) σ' → RD D K0 ck σ' → eqp sF σ σ' → ys_233_111 e d v1 κ σ' Q)
    (ce : kd = 1 → tkk t n (nx t n q) = 309 → ∀ σ', RM t n L (xop t n 123 (.inr (nx t n (nx t n q), o, (R ++ [(14, 0, [], 0)]).set j (x.1, Int32.ofNat (R.length + 1), x.2.2.1, x.2.2.2)))) σ' → (∀ p' o' R', xop t n 123 (.inr (nx t n (nx t n q), o, (R ++ [(14, 0, [], 0)]).set j (x.1, Int32.ofNat (R.length + 1), x.2.2.1, x.2.2.2))) = .inr (p', o', R') → RD ((2, R.length, 0) :: D) K0 ck σ') → eqp sF σ σ' → ys_233_111 e d v1 κ σ' Q)
    (c3 : kd = 3 → ∀ σ', RM t n L (.inr (nx t n q, o, ptc b 0 (R.length + 1) ((R ++ [(14, Int32.ofNat l, [], 0)]).set j (x.1, Int32.ofNat (R.length + 1), x.2.2.1, x.2.2.2)))) σ' → RD D K0 ck σ' → eqp sF σ σ' → ys_233_111 e d v1 κ σ' Q) : ys_233_111 e d v1 κ σ Q := by
  have hn := ht.1
  refine lp_st (by omega) h hR (by simp) (by simp; omega) (fun Q' hQ' => ?_)
  unfold ys_241_0 ys_241_257
  rw [if_pos ((RM_T ht h 125 (y := 125) (by omega) rfl).mpr h125)]
  have hb3 : kd ≠ 3 → K0 ++ b.map (fun i => (i, D.length)) = K0 := fun h3 => by rw [hb0 h3]; simp
  refine r_242 (x := x) ht (by omega) h125 hb h hR (by omega) hkd hx (fun h0 σ' g1 g2 g3 => ?_) (fun h1 σ' g1 g2 g3 => ?_) (fun h1 h2 σ' g1 g2 g3 => ?_) (fun h3 σ' g1 g2 g3 => ?_)
  · rw [my_k0_v]
    rw [hb3 (by omega)] at g2
    exact hQ' κ σ' (c0 h0 σ' g1 g2 g3)
  · rw [my_k0_v]
    rw [hb3 (by omega)] at g2
    exact hQ' κ σ' (c1 h1 σ' g1 g2 g3)
  · rw [my_k0_v]
    rw [hb3 (by omega)] at g2
    exact hQ' κ σ' (ce h1 h2 σ' g1 g2 g3)
  · have hj := hx (by omega)
    have hjl : j < R.length := by
      by_cases hh : j < R.length
      · exact hh
      · rw [List.getElem?_eq_none (by omega)] at hj; cases hj
    have hRl := hb.2.2
    have hqn := hb.2.1
    have nxt : ys_242_71 e (d - 1 - 1) (Int32.ofNat K0.length) (Int32.ofNat K0.length) κ σ' (my_k0 (fun κ62 σ63 => Q' (.inl none) κ62 σ63) (fun y64 κ65 σ66 => Q' (.inr y64) κ65 σ66)) := by
      have := r_242b (e := e) (d := d - 1 - 1) (κ := κ) (Q := my_k0 (fun κ62 σ63 => Q' (.inl none) κ62 σ63) (fun y64 κ65 σ66 => Q' (.inr y64) κ65 σ66)) (L := L) (K0 := K0) (b := b) (ck := ck) (p := nx t n q) (o := o) (T := R.length + 1) ht (D := D) (by omega) hK b.length 0 _ σ' (by omega) (by simp) (by omega) (fun i hi => ?_) g1 g2 (fun σ2 g4 g5 g6 => ?_)
      · rw [Nat.add_zero] at this
        exact this
      · obtain ⟨hne, v, hv⟩ := hbk h3 i hi
        have hil : i < R.length := by
          by_cases hh : i < R.length
          · exact hh
          · rw [List.getElem?_eq_none (by omega)] at hv; cases hv
        exact ⟨v, by rw [List.getElem?_set_ne (fun hh => hne hh.symm), List.getElem?_append_left hil]; exact hv⟩
      · rw [my_k0_v]
        rw [List.drop_zero] at g4
        exact hQ' κ σ2 (c3 h3 σ2 g4 g5 (eqp_tr g3 g6))
    have := r_242k (K0 := K0) (K1 := b.map (fun i => (i, D.length))) (D := D) (by omega) hK (hK0 h3) g2 nxt K0.length 0 (by omega)
    exact this
def SX1 (e : my_E) (d : Nat) (κ : my_K) (Q : my_O → my_K → my_S → Prop) (t : Nat → Int32) (n : Nat) (NL : List (List Nat)) (own : List Nat) (fm m f : Nat) : Prop := ∀ (p o : Nat) (L : List (List Nat)) (ck : Nat) (R : List Rw) (D : List Bd) (K : List (Nat × Nat)) (σ : my_S) (res : Nat ⊕ (List Rw × List (List Nat) × Nat × List Nat × Nat)), pst t n fm (NL ++ [own]) f m p o R.length L ck ((lwB D).map (fun x => x.2)) = some res → (m ≠ 0 → tkk t n p ≠ 125) → RM t n L (.inr (p, o, R)) σ → bX n 0 (.inr (p, o, R)) → RD D K ck σ → RN NL own σ → L.length ≤ 10 → 0 < D.length → D.length ≤ o → (∀ b ∈ D, b.1 ≤ 3) → (∀ x ∈ K, x.2 < D.length) → K.length * 6 ≤ p → (∀ q N σ', res = .inl q → RM t n L (.inl (q, N)) σ' → bX n 5 (.inl (q, N)) → eqp sF σ σ' → ys_233_111 e d (Int32.ofNat (fm + 10)) κ σ' Q) → (∀ r L' c b q σ', res = .inr (r, L', c, b, q) → RM t n L' (.inr (q, o, R ++ r)) σ' → RD D (K ++ b.map (fun i => (i, lwN D))) c σ' → eqp sF σ σ' → ys_233_111 e d (Int32.ofNat (fm + 10)) κ σ' Q) → ys_233_111 e d (Int32.ofNat (fm + 10)) κ σ Q
theorem SX_0 {f : Nat} (ht : txt t n) (i1 : SX1 e d κ Q t n NL own fm 1 f) (i0 : SX1 e d κ Q t n NL own fm 0 f) : SX1 e d κ Q t n NL own fm 0 (f + 1) := by
  intro p o L ck R D K σ res hp _ h hb hR hN hL hD0 hDo hDb hK hKp hf hQ
  unfold pst at hp
  rw [if_pos rfl] at hp
  by_cases h125 : tkk t n p = 125
  · rw [if_pos h125] at hp
    cases hp
    refine hQ _ _ _ _ _ σ rfl (by rw [List.append_nil]; exact h) (by simpa using hR) eqp_rf
  · rw [if_neg h125] at hp
    rcases bs_r hp with ⟨q, g1, g2⟩ | ⟨r, L1, c1, b, q, g1, g2⟩
    · exact i1 p o L ck R D K σ _ g1 (fun _ => h125) h hb hR hN hL hD0 hDo hDb hK hKp (fun q' N σ' hh a b c => by cases hh; exact hf q N σ' g2 a b c) (fun _ _ _ _ _ _ hh => by cases hh)
    · have hB := (pst_B ht _ _ _ _ _ _ _ _ _ hb.2.1 hL g1).2 _ _ _ _ _ rfl
      obtain ⟨b1, b2, b3, b4, b5, b6, b7, b8, b9, b10⟩ := hB
      refine i1 p o L ck R D K σ _ g1 (fun _ => h125) h hb hR hN hL hD0 hDo hDb hK hKp (fun q' N σ' hh => by cases hh) (fun r' L' c' b' q' σ1 hh h1 hR1 f1 => ?_)
      cases hh
      have hb1 : bX n 0 (.inr (q, o, R ++ r)) := ⟨hb.1, b2, by have := hb.2.2; simp only [List.length_append]; omega⟩
      have hK1 : ∀ x ∈ K ++ b.map (fun i => (i, lwN D)), x.2 < D.length := fun x hx => by
        rcases List.mem_append.mp hx with hx | hx
        · exact hK x hx
        · obtain ⟨i, hi, rfl⟩ := List.mem_map.mp hx
          show lwN D < D.length
          unfold lwN
          cases hl : lwB D with
          | none => exact hD0
          | some y => obtain ⟨jj, ll⟩ := y; exact lwB_lt hl
      rcases bs_r g2 with ⟨q2, g3, g4⟩ | ⟨r2, L2, c2, bb, q2, g3, g4⟩
      · refine i0 q o L1 c1 (R ++ r) D _ σ1 _ (by rw [List.length_append]; exact g3) (fun hh => absurd rfl hh) h1 hb1 hR1 (RN_s hN f1) b6 hD0 hDo hDb hK1 (by simp only [List.length_append, List.length_map]; omega) (fun q' N σ' hh a b c => ?_) (fun _ _ _ _ _ _ hh => by cases hh)
        cases hh
        exact hf q2 N σ' g4 a b (eqp_tr f1 c)
      · refine i0 q o L1 c1 (R ++ r) D _ σ1 _ (by rw [List.length_append]; exact g3) (fun hh => absurd rfl hh) h1 hb1 hR1 (RN_s hN f1) b6 hD0 hDo hDb hK1 (by simp only [List.length_append, List.length_map]; omega) (fun q' N σ' hh => by cases hh) (fun r' L' c' b' q' σ2 hh h2 hR2 f2 => ?_)
        cases hh
        cases g4
        refine hQ _ _ _ _ _ σ2 rfl (by rw [← List.append_assoc]; exact h2) ?_ (eqp_tr f1 f2)
        rw [List.map_append, ← List.append_assoc]
        exact hR2
end MSZ
