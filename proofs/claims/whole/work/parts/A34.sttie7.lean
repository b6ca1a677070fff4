/-! ===== class and reference agree on all statements ===== -/
section MTZ4
variable {t : Nat → Int32} {n fm : Nat} {I : List It} {ity cF : Int32} {Nf : List (List Nat)}
/-- the block, on both sides -/
theorem blk_2 {f p o i ck : Nat} {L : List (List Nat)} {LT : Nat → Int32} {ls : Int32} {lp : Option Nat} {B : List Int32} {S : St} {k : Cv → Cq} {k' : List Rw → List (List Nat) → Nat → List Nat → Nat → Ss} {v : Cv} {res : List Rw × List (List Nat) × Nat × List Nat × Nat} (ht : txt t n) (hls : lsP ls lp) (hcf : cfP cF S) (h1 : cblk t n (cst t n fm ity cF I true Nf f) p o L LT ck ls B S k = some (.inr v)) (h2 : bsq (pblk t n (pst t n fm Nf f) p o i L ck lp) k' = some (.inr res)) : tkk t n p = 123 ∧ ∃ q1 L1 LT1 c1 B1 S1 rb b, cst t n fm ity cF I true Nf f 0 (nx t n p) (o + 1) L LT ck ls B S = some (.inr (q1, L1, LT1, c1, B1, S1)) ∧ pst t n fm Nf f 0 (nx t n p) (o + 1) i L ck lp = some (.inr (rb, L1, c1, b, q1)) ∧ k (nx t n q1, L1, LT1, c1, B1, S1) = some (.inr v) ∧ k' rb L1 c1 b (nx t n q1) = some (.inr res) := by
  rcases cblk_r h1 with ⟨_, g2⟩ | ⟨g1, ⟨_, _, g2⟩ | ⟨u, g2, g3⟩⟩
  · cases g2
  · cases g2
  have h2' : (∃ rb L1 c1 b q1, pst t n fm Nf f 0 (nx t n p) (o + 1) i L ck lp = some (.inr (rb, L1, c1, b, q1)) ∧ k' rb L1 c1 b (nx t n q1) = some (.inr res)) := by
    rcases bs_r h2 with ⟨_, _, g5⟩ | ⟨rb, L1, c1, b, q1, g4, g5⟩
    · cases g5
    · unfold pblk at g4
      rw [if_pos g1] at g4
      rcases bs_r g4 with ⟨_, _, g7⟩ | ⟨r2, L2, c2, b2, q2, g6, g7⟩
      · cases g7
      · cases g7
        exact ⟨_, _, _, _, _, g6, g5⟩
  obtain ⟨rb, L1, c1, b, q1, g6, g7⟩ := h2'
  rcases cst_s (I := I) (w := true) (fm := fm) (ity := ity) (Nf := Nf) ht f 0 (nx t n p) (o + 1) i L LT ck ls lp B S hls hcf with ⟨a1, _⟩ | ⟨_, a1, _⟩ | ⟨q9, L9, LT9, c9, B9, S9, r9, b9, a1, a2⟩
  · rw [g2] at a1; cases a1
  · rw [g2] at a1; cases a1
  · rw [g6] at a2
    cases a2
    rw [g2] at a1
    cases a1
    exact ⟨g1.1, q1, L1, LT9, c1, B9, S9, rb, b, g2, g6, g3, g7⟩
theorem cst_t (ht : txt t n) (hI : IC I) : ∀ (f m p o i : Nat) (L : List (List Nat)) (LT LTr : Nat → Int32) (ck : Nat) (ls : Int32) (lp : Option Nat) (B : List Int32) (S : St) (q : Nat) (L' : List (List Nat)) (LT' : Nat → Int32) (c : Nat) (B' : List Int32) (S' : St) (r : List Rw) (c' : Nat) (b : List Nat), cst t n fm ity cF I true Nf f m p o L LT ck ls B S = some (.inr (q, L', LT', c, B', S')) → pst t n fm Nf f m p o i L ck lp = some (.inr (r, L', c', b, q)) → p ≤ n → L.length ≤ 10 → lsP ls lp → cfP cF S → i ≤ p + 10000 → (∀ l, lp = some l → l < 2147483648) → STT I ity cF L LT LTr i lp ls S B p r L' b q LT' B' S' := by
  intro f
  induction f with
  | zero => intro m p o i L LT LTr ck ls lp B S q L' LT' c B' S' r c' b h; simp [cst] at h
  | succ f ih =>
    intro m p o i L LT LTr ck ls lp B S q L' LT' c B' S' r c' b h1 h2 hp hL hls hcf hi hlp
    have hn := ht.1
    have nl : ∀ {p}, tkk t n p ≠ 0 → p < nx t n p ∧ nx t n p ≤ n := fun h => nx_bd ht (tk_lt h)
    have h2o := h2
    unfold cst at h1
    unfold pst at h2
    by_cases hm : m = 0
    · rw [if_pos hm] at h1 h2
      by_cases h125 : tkk t n p = 125
      · rw [if_pos h125] at h1 h2
        cases h1
        cases h2
        exact ⟨none, none, LTr, CEm_0 rfl, okT_n, okT_n, fun mf => by rw [omin_r]; rfl, fun hc hag => ⟨rfl, fun _ => ⟨hc, hag, fun x hx => by simp at hx, fun _ J c0 _ _ _ _ _ _ => ⟨by simp [eb, ndl], by simp⟩⟩⟩⟩
      · rw [if_neg h125] at h1 h2
        rcases bq_s h1 with ⟨_, _, g2⟩ | ⟨u, g1, g2⟩
        · cases g2
        rcases bs_r h2 with ⟨_, _, g4⟩ | ⟨r1, L1, c1, b1, q1, g3, g4⟩
        · cases g4
        rcases bs_r g4 with ⟨_, _, g6⟩ | ⟨r2, L2, c2, b2, q2, g5, g6⟩
        · cases g6
        have hml := cst_ml _ _ _ _ _ _ _ _ _ _ u g1
        rcases cst_s (I := I) (w := true) (fm := fm) (ity := ity) (Nf := Nf) ht f 1 p o i L LT ck ls lp B S hls hcf with ⟨a1, _⟩ | ⟨_, a1, _⟩ | ⟨q9, L9, LT9, c9, B9, S9, r9, b9, a1, a2⟩
        · rw [g1] at a1; cases a1
        · rw [g1] at a1; cases a1
        rw [g3] at a2
        cases a2
        rw [g1] at a1
        cases a1
        obtain ⟨b1', b2', b3', b4', b5', b6', b7', _⟩ := (pst_B ht _ _ _ _ _ _ _ _ _ hp hL g3).2 _ _ _ _ _ rfl
        obtain ⟨d1, d2, d3, d4, d5, d6, d7, _⟩ := (pst_B ht _ _ _ _ _ _ _ _ _ b2' b6' g5).2 _ _ _ _ _ rfl
        cases g6
        exact STT_seq b1' d1 b7' (ih 1 p o i L LT LTr ck ls lp B S q1 L1 LT9 c1 B9 S9 r1 c1 b1 g1 g3 hp hL hls hcf hi hlp) b5' (fun LTr1 => ih 0 q1 o (i + r1.length) L1 LT9 LTr1 c1 ls lp B9 S9 q L' LT' c B' S' r2 c' b2 g2 g5 b2' b6' hls (cfP_m hcf hml) (by omega) hlp) d5
    rw [if_neg hm] at h1 h2
    by_cases h2t : tkk t n p = 2
    · rw [if_pos h2t] at h1 h2
      exact cnam_t ht hI hL h2t h1 h2
    rw [if_neg h2t] at h1 h2
    by_cases h307 : tkk t n p = 307
    · rw [if_pos h307] at h1 h2
      exact clet_t ht hI hL h307 h1 h2
    rw [if_neg h307] at h1 h2
    by_cases h308 : tkk t n p = 308
    · rw [if_pos h308] at h1 h2
      have a1 := nl (p := p) (by omega)
      unfold cif ccon at h1
      unfold pif pcon at h2
      by_cases hc40 : tkk t n (nx t n p) = 40 ∧ o < 12
      · rw [if_pos hc40] at h1 h2
        have a2 := nl (p := nx t n p) (by omega)
        rcases ce_s h1 with ⟨_, _, g2⟩ | ⟨a, c1, q1, S1, g1, g2⟩
        · cases g2
        rcases eT_r h2 with ⟨_, _, g4⟩ | ⟨r0, c2, q2, g3, ⟨g4, g5⟩ | ⟨g4, g5⟩⟩
        · cases g4
        · obtain ⟨_, rfl⟩ := sim_rr cE_s g1 g3
          rw [if_pos g4] at g2
          have hml1 : ml S (wf true a 1 (nx t n (nx t n p)) S1) := ml_t (cx_ml _ _ _ _ _ _ _ _ _ _ _ _ _ _ g1) ml_wf
          obtain ⟨h123, q3, L3, LT3, c3, B3, S3, rb, b3, k1, k2, k3, k4⟩ := blk_2 ht hls (cfP_m hcf (ml_t hml1 ml_wjS)) g2 g5
          have a4 := nl (p := q1) (by omega)
          have a5 := nl (p := nx t n q1) (by omega)
          obtain ⟨e1, e2, e3, e4, e5, e6, e7, e8, _⟩ := (pst_B ht _ _ _ _ _ _ _ _ _ a5.2 hL k2).2 _ _ _ _ _ rfl
          have a6 := nl (p := q3) (by have := e8 rfl; omega)
          have hlr := (pX_b ht a2.2 g3).2.2
          have hml3 := cst_ml _ _ _ _ _ _ _ _ _ _ _ k1
          by_cases h309 : tkk t n (nx t n q3) = 309
          · rw [if_pos h309] at k4
            simp only [if_pos h309] at k3
            obtain ⟨h123', q5, L5, LT5, c5, B5, S5, re, b5, m1, m2, m3, m4⟩ := blk_2 ht hls (cfP_m hcf (ml_t hml1 (ml_t ml_wjS (ml_t hml3 (ml_t ml_wjS ml_lnd))))) k3 k4
            have a7 := nl (p := nx t n q3) (by omega)
            have a8 := nl (p := nx t n (nx t n q3)) (by omega)
            obtain ⟨f1, f2, f3, f4, f5, f6, f7, f8, _⟩ := (pst_B ht _ _ _ _ _ _ _ _ _ a8.2 e6 m2).2 _ _ _ _ _ rfl
            have a9 := nl (p := q5) (by have := f8 rfl; omega)
            cases m3
            cases m4
            obtain ⟨x1, x2, x3, x4⟩ := CON (ity := ity) (LTr := LTr) (T := i + (r0 ++ [((208, 1, [], 0) : Rw)]).length + 1 + rb.length + 1) ht hI hL a2.2 a2.1 g1 g3 g4
            have x4' := STY_w (p' := p) x4 (by omega) (Nat.le_refl _)
            refine STT_el (B1 := B3) (L1 := L3) (LT1 := LT3) (q := nx t n q1) (q1 := nx t n q3) (by omega) (by omega) (by omega) (by omega) rfl rfl (by simp only [List.length_append, List.length_cons, List.length_nil]; omega) NFr_l x4' (fun LTr1 => ?_) e5 (fun LTr1 => ?_) f5
            · have := ih 0 (nx t n (nx t n q1)) (o + 1) (i + (r0 ++ [((208, 1, [], 0) : Rw)]).length + 1) L LT LTr1 ck ls lp B _ q3 _ _ _ _ S3 rb _ b3 k1 k2 a5.2 hL hls (cfP_m hcf (ml_t hml1 ml_wjS)) (by simp; omega) hlp
              obtain ⟨mm, mR, LTr', z1, z2, z3, z4, z5⟩ := this
              refine ⟨mm, mR, LTr', z1, okT_w z2 (by omega) (by omega), okT_w z3 (by omega) (by omega), z4, fun aa bb => ⟨(z5 aa bb).1, fun h0 => ?_⟩⟩
              obtain ⟨y1, y2, y3, y4⟩ := (z5 aa bb).2 h0
              exact ⟨y1, y2, y3, fun hh => y4 (by omega)⟩
            · have := ih 0 (nx t n (nx t n (nx t n q3))) (o + 1) (i + (r0 ++ [((208, 1, [], 0) : Rw)]).length + 1 + rb.length + 1) L3 LT3 LTr1 c3 ls lp B3 _ q5 _ _ _ _ S5 re _ b5 m1 m2 a8.2 e6 hls (cfP_m hcf (ml_t hml1 (ml_t ml_wjS (ml_t hml3 (ml_t ml_wjS ml_lnd))))) (by simp only [List.length_append, List.length_cons, List.length_nil]; omega) hlp
              obtain ⟨mm, mR, LTr', z1, z2, z3, z4, z5⟩ := this
              refine ⟨mm, mR, LTr', z1, okT_w z2 (by omega) (by omega), okT_w z3 (by omega) (by omega), z4, fun aa bb => ⟨(z5 aa bb).1, fun h0 => ?_⟩⟩
              obtain ⟨y1, y2, y3, y4⟩ := (z5 aa bb).2 h0
              exact ⟨y1, y2, y3, fun hh => y4 (by omega)⟩
          · rw [if_neg h309] at k4
            simp only [if_neg h309] at k3
            cases k3
            cases k4
            obtain ⟨x1, x2, x3, x4⟩ := CON (ity := ity) (LTr := LTr) (T := i + (r0 ++ [((208, 1, [], 0) : Rw)]).length + 1 + rb.length) ht hI hL a2.2 a2.1 g1 g3 g4
            have x4' := STY_w (p' := p) x4 (by omega) (Nat.le_refl _)
            refine STT_if (q := nx t n q1) (q1 := nx t n q3) (by omega) (by omega) rfl (by simp only [List.length_append, List.length_cons, List.length_nil]; omega) NFr_l x4' (fun LTr1 => ?_) e5
            have := ih 0 (nx t n (nx t n q1)) (o + 1) (i + (r0 ++ [((208, 1, [], 0) : Rw)]).length + 1) L LT LTr1 ck ls lp B _ q3 _ _ _ _ S3 rb _ _ k1 k2 a5.2 hL hls (cfP_m hcf (ml_t hml1 ml_wjS)) (by simp; omega) hlp
            obtain ⟨mm, mR, LTr', z1, z2, z3, z4, z5⟩ := this
            refine ⟨mm, mR, LTr', z1, okT_w z2 (by omega) (by omega), okT_w z3 (by omega) (by omega), z4, fun aa bb => ⟨(z5 aa bb).1, fun h0 => ?_⟩⟩
            obtain ⟨y1, y2, y3, y4⟩ := (z5 aa bb).2 h0
            exact ⟨y1, y2, y3, fun hh => y4 (by omega)⟩
        · cases g5
      · rw [if_neg hc40] at h1
        cases h1
    rw [if_neg h308] at h1 h2
    by_cases h310 : tkk t n p = 310
    · rw [if_pos h310] at h1 h2
      have a1 := nl (p := p) (by omega)
      unfold cwh ccon at h1
      unfold pwh pcon at h2
      by_cases hc40 : tkk t n (nx t n p) = 40 ∧ o < 12
      · rw [if_pos hc40] at h1 h2
        have a2 := nl (p := nx t n p) (by omega)
        rcases ce_s h1 with ⟨_, _, g2⟩ | ⟨a, c1, q1, S1, g1, g2⟩
        · cases g2
        rcases eT_r h2 with ⟨_, _, g4⟩ | ⟨r0, c2, q2, g3, ⟨g4, g5⟩ | ⟨g4, g5⟩⟩
        · cases g4
        · obtain ⟨_, rfl⟩ := sim_rr cE_s g1 g3
          rw [if_pos g4] at g2
          have hml1 : ml S (wf true a 1 (nx t n (nx t n p)) S1) := ml_t (cx_ml _ _ _ _ _ _ _ _ _ _ _ _ _ _ g1) ml_wf
          have hls2 : lsP (cpl cF S) (some i) := ⟨fun h => absurd h (cpl_0 hcf), fun h => by cases h⟩
          obtain ⟨h123, q3, L3, LT3, c3, B3, S3, rb, b3, k1, k2, k3, k4⟩ := blk_2 ht hls2 (cfP_m hcf (ml_t hml1 (ml_t ml_wjS ml_wr))) g2 g5
          have a4 := nl (p := q1) (by omega)
          have a5 := nl (p := nx t n q1) (by omega)
          obtain ⟨e1, e2, e3, e4, e5, e6, e7, e8, _⟩ := (pst_B ht _ _ _ _ _ _ _ _ _ a5.2 hL k2).2 _ _ _ _ _ rfl
          have a6 := nl (p := q3) (by have := e8 rfl; omega)
          have hlr := (pX_b ht a2.2 g3).2.2
          have hbk := pst_bk _ _ _ _ _ _ _ _ _ _ _ _ _ k2
          cases k3
          cases k4
          obtain ⟨x1, x2, x3, x4⟩ := CON (ity := ity) (LTr := LTr) (T := i + (r0 ++ [((208, 1, [], 0) : Rw)]).length + 2 + rb.length + 1) ht hI hL a2.2 a2.1 g1 g3 g4
          have x4' := STY_w (p' := p) x4 (by omega) (Nat.le_refl _)
          refine STT_wh (q := nx t n q1) (q1 := nx t n q3) (by omega) (by omega) rfl (by simp only [List.length_append, List.length_cons, List.length_nil]; omega) x4' (fun LTr1 => ?_) (fun j hj => ?_) (by omega) (by omega)
          · have := ih 0 (nx t n (nx t n q1)) (o + 1) (i + (r0 ++ [((208, 1, [], 0) : Rw)]).length + 2) L LT LTr1 ck (cpl cF S) (some i) B _ q3 _ _ _ B3 S3 rb _ b3 k1 k2 a5.2 hL hls2 (cfP_m hcf (ml_t hml1 (ml_t ml_wjS ml_wr))) (by simp; omega) (fun l hl => by cases hl; omega)
            obtain ⟨mm, mR, LTr', z1, z2, z3, z4, z5⟩ := this
            refine ⟨mm, mR, LTr', z1, okT_w z2 (by omega) (by omega), okT_w z3 (by omega) (by omega), z4, fun aa bb => ⟨(z5 aa bb).1, fun h0 => ?_⟩⟩
            obtain ⟨y1, y2, y3, y4⟩ := (z5 aa bb).2 h0
            exact ⟨y1, y2, y3, fun hh => y4 (by omega)⟩
          · obtain ⟨_, l, hl, hj2⟩ := hbk j hj
            cases hl
            exact hj2
        · cases g5
      · rw [if_neg hc40] at h1
        cases h1
    rw [if_neg h310] at h1 h2
    by_cases h311 : tkk t n p = 311 ∨ tkk t n p = 312
    · rw [if_pos h311] at h1 h2
      exact clv_t ht hlp h1 h2
    rw [if_neg h311] at h1 h2
    by_cases h313 : tkk t n p = 313
    · rw [if_pos h313] at h1 h2
      exact cret_t ht hI hL h313 h1 h2
    rw [if_neg h313] at h1 h2
    by_cases h314 : tkk t n p = 314
    · rw [if_pos h314] at h1 h2
      exact cchk_t ht hI hL h314 h1 h2
    rw [if_neg h314] at h1
    cases h1
end MTZ4
