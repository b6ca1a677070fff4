/-! ===== how many bytes there are at most: expressions and statements ===== -/
/-- bytes of a step, with what its name may cost in the list of names -/
def wt1 (x : Rw) : Nat := ln1 x.1 + (if 200 ≤ x.1 ∧ x.1 ≤ 205 then 2 + x.2.2.1.length else 0)
def wts2 : List Rw → Nat
  | [] => 0
  | x :: r => wt1 x + wts2 r
theorem wts2_a : ∀ {r r' : List Rw}, wts2 (r ++ r') = wts2 r + wts2 r'
  | [], r' => by simp [wts2]
  | x :: r, r' => by
    show wt1 x + wts2 (r ++ r') = wt1 x + wts2 r + wts2 r'
    rw [wts2_a, Nat.add_assoc]
theorem wts2_1 {x : Rw} : wts2 [x] = wt1 x := rfl
theorem lens_w : ∀ {r : List Rw}, lens r ≤ wts2 r
  | [] => Nat.le_refl _
  | x :: r => by
    show ln1 x.1 + lens r ≤ wt1 x + wts2 r
    have := lens_w (r := r)
    unfold wt1
    omega
theorem wt_n {k v p : Nat} {y : Int32} {nm : List Nat} (h1 : 200 ≤ k) (h2 : k ≤ 205) : wt1 (k, y, nm, p) = 4 + nm.length := by
  unfold wt1 ln1
  simp only []
  rw [if_neg (by omega), if_neg (by omega), if_neg (by omega), if_pos (by omega), if_pos (by omega)]
  omega
theorem wt_o {k p : Nat} {y : Int32} {nm : List Nat} (h : k < 200 ∨ 205 < k) : wt1 (k, y, nm, p) = ln1 k := by
  unfold wt1
  simp only []
  rw [if_neg (by omega)]
  rfl
theorem ln1_le {k : Nat} : ln1 k ≤ 5 := by
  unfold ln1
  split
  · omega
  · split
    · omega
    · split
      · omega
      · split <;> omega
def pxW (m : Nat) (r : List Rw) (p : Nat) (x : Rs) : Prop := ∀ r' c q, x = some (.inr (r', c, q)) → wts2 r' ≤ wts2 r + 4 * (q - p) + (if m ≤ 5 ∨ m = 11 then 1 else 0)
theorem pxW_l {m p q : Nat} {r : List Rw} : pxW m r p (some (.inl q)) := fun _ _ _ h => by cases h
theorem pfac_W {t : Nat → Int32} {n : Nat} {L : List (List Nat)} (ht : txt t n) {g : Nat → List Rw → Nat → Nat → Nat → Rs} (hb : ∀ m p o, p ≤ n → pxB n m [] p (g m [] 0 p o)) (ih : ∀ m p o, m ≤ 11 → p ≤ n → pxW m [] p (g m [] 0 p o)) {p o : Nat} (hp : p ≤ n) : pxW 5 [] p (pfac t n L g p o) := by
  have nl : ∀ {p}, tkk t n p ≠ 0 → p < nx t n p ∧ nx t n p ≤ n := fun h => nx_bd ht (tk_lt h)
  intro r c q h
  rw [if_pos (by omega)]
  show wts2 r ≤ 0 + _ + _
  unfold pfac at h
  by_cases hs : tkk t n p = 45 ∨ tkk t n p = 33
  · rw [if_pos hs] at h
    have a1 := nl (p := p) (by omega)
    by_cases ho : 12 ≤ o
    · rw [if_pos ho] at h; cases h
    rw [if_neg ho] at h
    obtain ⟨r1, c1, q1, h1, h2⟩ := bnd_r h
    have i1 := ih 5 _ _ (by omega) a1.2 _ _ _ h1
    have j1 := (hb 5 _ _ a1.2).2 _ _ _ h1
    cases h2
    rw [if_pos (by omega)] at i1
    rw [wts2_a, wts2_1, wt_o (by left; split <;> omega)]
    have : ln1 (if tkk t n p = 45 then 19 else 20) = 1 := by split <;> rfl
    rw [this]
    have : wts2 ([] : List Rw) = 0 := rfl
    omega
  rw [if_neg hs] at h
  by_cases h40 : tkk t n p = 40
  · rw [if_pos h40] at h
    have a1 := nl (p := p) (by omega)
    by_cases ho : 12 ≤ o
    · rw [if_pos ho] at h; cases h
    rw [if_neg ho] at h
    obtain ⟨r1, c1, q1, h1, h2⟩ := bnd_r h
    have i1 := ih 0 _ _ (by omega) a1.2 _ _ _ h1
    have j1 := (hb 0 _ _ a1.2).2 _ _ _ h1
    by_cases h41 : tkk t n q1 = 41
    · rw [if_pos h41] at h2
      have a2 := nl (p := q1) (by omega)
      cases h2
      rw [if_pos (by omega)] at i1
      rw [wts2_a, wts2_1, wt_o (by omega)]
      have : ln1 206 = 0 := rfl
      have : wts2 ([] : List Rw) = 0 := rfl
      omega
    · rw [if_neg h41] at h2; cases h2
  rw [if_neg h40] at h
  by_cases h3 : tkk t n p = 3
  · rw [if_pos h3] at h
    have a1 := nl (p := p) (by omega)
    cases h
    rw [wts2_1, wt_o (by omega)]
    have : ln1 1 = 5 := rfl
    omega
  rw [if_neg h3] at h
  by_cases h315 : tkk t n p = 315
  · rw [if_pos h315] at h
    have a1 := nl (p := p) (by omega)
    cases h
    rw [wts2_1, wt_o (by omega)]
    have : ln1 2 = 1 := rfl
    omega
  rw [if_neg h315] at h
  by_cases h316 : tkk t n p = 316
  · rw [if_pos h316] at h
    have a1 := nl (p := p) (by omega)
    cases h
    rw [wts2_1, wt_o (by omega)]
    have : ln1 3 = 1 := rfl
    omega
  rw [if_neg h316] at h
  by_cases h2t : tkk t n p = 2
  · rw [if_pos h2t] at h
    have a1 := nl (p := p) (by omega)
    have an := nx_nm ht h2t
    by_cases h91 : tkk t n (nx t n p) = 91
    · rw [if_pos h91] at h
      have a2 := nl (p := nx t n p) (by omega)
      by_cases ho : 12 ≤ o
      · rw [if_pos ho] at h; cases h
      rw [if_neg ho] at h
      obtain ⟨r1, c1, q1, h1, h2⟩ := bnd_r h
      have i1 := ih 0 _ _ (by omega) a2.2 _ _ _ h1
      have j1 := (hb 0 _ _ a2.2).2 _ _ _ h1
      by_cases h93 : tkk t n q1 = 93
      · rw [if_pos h93] at h2
        have a3 := nl (p := q1) (by omega)
        cases h2
        rw [if_pos (by omega)] at i1
        rw [wts2_a, wts2_1, wt_n (v := 0) (by omega) (by omega)]
        have : wts2 ([] : List Rw) = 0 := rfl
        omega
      · rw [if_neg h93] at h2; cases h2
    rw [if_neg h91] at h
    by_cases h40' : tkk t n (nx t n p) = 40
    · rw [if_pos h40'] at h
      have a2 := nl (p := nx t n p) (by omega)
      by_cases ho : 12 ≤ o
      · rw [if_pos ho] at h; cases h
      rw [if_neg ho] at h
      by_cases h41 : tkk t n (nx t n (nx t n p)) = 41
      · rw [if_pos h41] at h
        have a3 := nl (p := nx t n (nx t n p)) (by omega)
        cases h
        rw [wts2_1, wt_n (v := 0) (by omega) (by omega)]
        omega
      · rw [if_neg h41] at h
        obtain ⟨r1, c1, q1, h1, h2⟩ := bnd_r h
        have i1 := ih 11 _ _ (by omega) a2.2 _ _ _ h1
        have j1 := (hb 11 _ _ a2.2).2 _ _ _ h1
        have a3 := nx_le ht j1.2.1
        cases h2
        rw [if_pos (by omega)] at i1
        rw [wts2_a, wts2_1, wt_n (v := 0) (by omega) (by omega)]
        have : wts2 ([] : List Rw) = 0 := rfl
        omega
    rw [if_neg h40'] at h
    cases hk : kwi L (tkm t n p) 0 with
    | none =>
      rw [hk] at h
      cases h
      rw [wts2_1, wt_n (v := 0) (by omega) (by omega)]
      omega
    | some j =>
      rw [hk] at h
      cases h
      rw [wts2_1, wt_o (by omega)]
      have : ln1 4 = 2 := rfl
      omega
  · rw [if_neg h2t] at h; cases h
theorem px_W {t : Nat → Int32} {n : Nat} {L : List (List Nat)} (ht : txt t n) : ∀ (f m : Nat) (r : List Rw) (c p o : Nat), m ≤ 11 → p ≤ n → (m ≤ 5 → r = []) → pxW m r p (px t n L f m r c p o) := by
  intro f
  induction f with
  | zero => intro m r c p o _ hp _ r' c' q h; simp [px] at h
  | succ f ih =>
    intro m r c p o hm12 hp hr
    have n0 : wts2 ([] : List Rw) = 0 := rfl
    unfold px
    by_cases hm : m < 5
    · rw [if_pos hm]
      intro r' c' q h
      obtain ⟨r1, c1, q1, h1, h2⟩ := bnd_r h
      have i1 := ih _ _ _ _ _ (by omega) hp (fun _ => rfl) _ _ _ h1
      have j1 := (px_bd (L := L) ht f _ _ _ p o hp).2 _ _ _ h1
      have i2 := ih _ _ _ _ _ (by omega) j1.2.1 (fun hh => by omega) _ _ _ h2
      have j2 := (px_bd (L := L) ht f _ _ _ q1 o j1.2.1).2 _ _ _ h2
      rw [if_pos (by omega)] at i1
      rw [if_neg (by omega)] at i2
      rw [if_pos (by omega), hr (by omega)]
      omega
    rw [if_neg hm]
    by_cases hm5 : m = 5
    · rw [if_pos hm5]
      subst hm5
      rw [hr (by omega)]
      exact pfac_W ht (fun m p o hp => px_bd ht f m [] 0 p o hp) (fun m p o hm hp => ih m [] 0 p o hm hp (fun _ => rfl)) hp
    rw [if_neg hm5]
    by_cases hm11 : m < 11
    · rw [if_pos hm11]
      by_cases hrk : rnk (tkk t n p) = m - 5
      · rw [if_pos hrk]
        have hlt := nx_bd ht (tk_lt (rnk_tk (k := tkk t n p) (by omega)))
        intro r' c' q h
        obtain ⟨r1, c1, q1, h1, h2⟩ := bnd_r h
        have i1 := ih _ _ _ _ _ (by omega) hlt.2 (fun _ => rfl) _ _ _ h1
        have j1 := (px_bd (L := L) ht f _ _ _ _ o hlt.2).2 _ _ _ h1
        rw [if_pos (by omega)] at i1
        have hcb := cod_bd (tkk t n p)
        have hw1 : wts2 (r ++ r1 ++ [((cod (tkk t n p), 0, [], p) : Rw)]) = wts2 r + wts2 r1 + 1 := by
          rw [wts2_a, wts2_a, wts2_1, wt_o (by omega)]
          have : ln1 (cod (tkk t n p)) = 1 := by unfold ln1; rw [if_neg (by omega), if_neg (by omega), if_neg (by omega), if_neg (by omega)]
          rw [this]
        rw [if_neg (by omega)]
        by_cases h8 : m = 8
        · rw [if_pos h8] at h2
          cases h2
          omega
        · rw [if_neg h8] at h2
          have i2 := ih _ _ _ _ _ (by omega) j1.2.1 (fun hh => by omega) _ _ _ h2
          have j2 := (px_bd (L := L) ht f _ _ _ q1 o j1.2.1).2 _ _ _ h2
          rw [if_neg (by omega)] at i2
          omega
      · rw [if_neg hrk]
        intro r' c' q h
        cases h
        omega
    rw [if_neg hm11]
    intro r' c' q h
    obtain ⟨r1, c1, q1, h1, h2⟩ := bnd_r h
    have i1 := ih _ _ _ _ _ (by omega) hp (fun _ => rfl) _ _ _ h1
    have j1 := (px_bd (L := L) ht f _ _ _ p o hp).2 _ _ _ h1
    rw [if_pos (by omega)] at i1
    by_cases h44 : tkk t n q1 = 44
    · rw [if_pos h44] at h2
      have hlt := nx_bd ht (tk_lt (t := t) (n := n) (p := q1) (by omega))
      have i2 := ih _ _ _ _ _ (by omega) hlt.2 (fun hh => by omega) _ _ _ h2
      have j2 := (px_bd (L := L) ht f _ _ _ _ o hlt.2).2 _ _ _ h2
      rw [wts2_a] at i2
      have hm0 : m = 11 := by omega
      subst hm0
      rw [if_pos (by omega)] at i2 ⊢
      omega
    · rw [if_neg h44] at h2
      by_cases h41 : tkk t n q1 = 41
      · rw [if_pos h41] at h2
        cases h2
        rw [wts2_a, if_pos (by omega)]
        omega
      · rw [if_neg h41] at h2; cases h2
section MWS
variable {t : Nat → Int32} {n : Nat} {L : List (List Nat)}
theorem pX_w {p o : Nat} {r : List Rw} {c q : Nat} (ht : txt t n) (hp : p ≤ n) (h : pX t n L p o = some (.inr (r, c, q))) : wts2 r ≤ 4 * (q - p) + 1 := by
  have := px_W ht 21100 0 [] 0 p o (by omega) hp (fun _ => rfl) _ _ _ h
  have n0 : wts2 ([] : List Rw) = 0 := rfl
  rw [if_pos (by omega)] at this
  omega
theorem pA_w {p o : Nat} {r : List Rw} {c q : Nat} (ht : txt t n) (hp : p ≤ n) (h : pA t n L p o = some (.inr (r, c, q))) : wts2 r ≤ 4 * (q - p) + 1 := by
  have := px_W ht 21100 11 [] 0 p o (by omega) hp (fun hh => by omega) _ _ _ h
  have n0 : wts2 ([] : List Rw) = 0 := rfl
  rw [if_pos (by omega)] at this
  omega
theorem wts2_set {r : List Rw} {k T l : Nat} (h : r[k]? = some (jmp 14 l)) : wts2 (r.set k (jmp 14 T)) = wts2 r := by
  induction r generalizing k with
  | nil => simp at h
  | cons x r ih =>
    cases k with
    | zero =>
      simp only [List.getElem?_cons_zero, Option.some.injEq] at h
      subst h
      rfl
    | succ k =>
      simp only [List.getElem?_cons_succ] at h
      show wt1 x + wts2 (r.set k (jmp 14 T)) = wt1 x + wts2 r
      rw [ih h]
theorem ptc_w {b : List Nat} : ∀ {r : List Rw} {base T : Nat}, (∀ j ∈ b, ∃ l, r[j - base]? = some (jmp 14 l)) → wts2 (ptc b base T r) = wts2 r := by
  induction b with
  | nil => intro r base T _; rfl
  | cons j b ih =>
    intro r base T h
    obtain ⟨l, hj⟩ := h j (by simp)
    have hjl : j - base < r.length := by
      by_cases hh : j - base < r.length
      · exact hh
      · rw [List.getElem?_eq_none (by omega)] at hj; cases hj
    show wts2 (ptc b base T (r.set (j - base) (jmp 14 T))) = _
    rw [ih (fun i hi => ?_), wts2_set hj]
    obtain ⟨l', hi'⟩ := h i (by simp [hi])
    by_cases hh : i - base = j - base
    · exact ⟨T, by rw [hh, List.getElem?_set_self hjl]⟩
    · exact ⟨l', by rw [List.getElem?_set_ne (fun h2 => hh h2.symm)]; exact hi'⟩
theorem jmp_w {op T : Nat} (hop : op = 14 ∨ op = 15) : wts2 [jmp op T] = 3 := by rcases hop with rfl | rfl <;> rfl
theorem pst_W {fm : Nat} {Nf : List (List Nat)} (ht : txt t n) : ∀ (f m p o i : Nat) (L : List (List Nat)) (ck : Nat) (lp : Option Nat) (r : List Rw) (L' : List (List Nat)) (c : Nat) (b : List Nat) (q : Nat), p ≤ n → L.length ≤ 10 → pst t n fm Nf f m p o i L ck lp = some (.inr (r, L', c, b, q)) → wts2 r ≤ 4 * (q - p) := by
  intro f
  induction f with
  | zero => intro m p o i L ck lp r L' c b q _ _ h; simp [pst] at h
  | succ f ih =>
    intro m p o i L ck lp r L' c b q hp hL h
    have nl : ∀ {p}, tkk t n p ≠ 0 → p < nx t n p ∧ nx t n p ≤ n := fun h => nx_bd ht (tk_lt h)
    have n0 : wts2 ([] : List Rw) = 0 := rfl
    unfold pst at h
    by_cases hm : m = 0
    · rw [if_pos hm] at h
      by_cases h125 : tkk t n p = 125
      · rw [if_pos h125] at h; cases h; rw [n0]; omega
      · rw [if_neg h125] at h
        rcases bs_r h with ⟨_, _, g2⟩ | ⟨r1, L1, c1, b1, q1, g1, g2⟩
        · cases g2
        rcases bs_r g2 with ⟨_, _, g4⟩ | ⟨r2, L2, c2, b2, q2, g3, g4⟩
        · cases g4
        obtain ⟨e1, e2, e3, e4, e5, e6, _⟩ := (pst_B ht _ _ _ _ _ _ _ _ _ hp hL g1).2 _ _ _ _ _ rfl
        obtain ⟨d1, d2, _⟩ := (pst_B ht _ _ _ _ _ _ _ _ _ e2 e6 g3).2 _ _ _ _ _ rfl
        have i1 := ih _ _ _ _ _ _ _ _ _ _ _ _ hp hL g1
        have i2 := ih _ _ _ _ _ _ _ _ _ _ _ _ e2 e6 g3
        cases g4
        rw [wts2_a]
        omega
    rw [if_neg hm] at h
    by_cases h2t : tkk t n p = 2
    · rw [if_pos h2t] at h
      have a1 := nl (p := p) (by omega)
      have an := nx_nm ht h2t
      unfold pnam at h
      by_cases h40 : tkk t n (nx t n p) = 40
      · rw [if_pos h40] at h
        have a2 := nl (p := nx t n p) (by omega)
        by_cases ho : 12 ≤ o
        · rw [if_pos ho] at h; cases h
        rw [if_neg ho] at h
        by_cases h41 : tkk t n (nx t n (nx t n p)) = 41
        · rw [if_pos h41] at h
          have a3 := nl (p := nx t n (nx t n p)) (by omega)
          rcases tT_r h with ⟨g1, g2⟩ | ⟨g1, g2⟩
          · have a4 := nl (p := nx t n (nx t n (nx t n p))) (by omega)
            cases g2
            rw [wts2_1, wt_n (v := 0) (by omega) (by omega)]
            omega
          · cases g2
        · rw [if_neg h41] at h
          rcases aT_r h with ⟨_, _, g2⟩ | ⟨r1, c1, q1, g1, g2⟩
          · cases g2
          have hb := pA_b ht a2.2 g1
          have hw := pA_w ht a2.2 g1
          have a3 := nl (p := q1) (by omega)
          rcases tT_r g2 with ⟨g3, g4⟩ | ⟨g3, g4⟩
          · have a4 := nl (p := nx t n q1) (by omega)
            cases g4
            rw [wts2_a, wts2_1, wt_n (v := 0) (by omega) (by omega)]
            omega
          · cases g4
      rw [if_neg h40] at h
      by_cases h91 : tkk t n (nx t n p) = 91
      · rw [if_pos h91] at h
        have a2 := nl (p := nx t n p) (by omega)
        by_cases ho : 12 ≤ o
        · rw [if_pos ho] at h; cases h
        rw [if_neg ho] at h
        rcases eT_r h with ⟨_, _, g2⟩ | ⟨r1, c1, q1, g1, ⟨g2, g3⟩ | ⟨g2, g3⟩⟩
        · cases g2
        · have hb := pX_b ht a2.2 g1
          have hw := pX_w ht a2.2 g1
          have a3 := nl (p := q1) (by omega)
          rcases tT_r g3 with ⟨g4, g5⟩ | ⟨g4, g5⟩
          · have a4 := nl (p := nx t n q1) (by omega)
            rcases eT_r g5 with ⟨_, _, g7⟩ | ⟨r2, c2, q2, g6, ⟨g7, g8⟩ | ⟨g7, g8⟩⟩
            · cases g7
            · have hb2 := pX_b ht a4.2 g6
              have hw2 := pX_w ht a4.2 g6
              have a5 := nl (p := q2) (by omega)
              cases g8
              rw [wts2_a, wts2_a, wts2_1, wt_n (v := 0) (by omega) (by omega)]
              omega
            · cases g8
          · cases g5
        · cases g3
      rw [if_neg h91] at h
      rcases tT_r h with ⟨g4, g5⟩ | ⟨g4, g5⟩
      · have a2 := nl (p := nx t n p) (by omega)
        rcases eT_r g5 with ⟨_, _, g7⟩ | ⟨r2, c2, q2, g6, ⟨g7, g8⟩ | ⟨g7, g8⟩⟩
        · cases g7
        · have hb2 := pX_b ht a2.2 g6
          have hw2 := pX_w ht a2.2 g6
          have a5 := nl (p := q2) (by omega)
          cases g8
          rw [wts2_a, wts2_1]
          have : wt1 (asg L (tkm t n p) p) ≤ 4 + (tkm t n p).length := by
            unfold asg
            cases kwi L (tkm t n p) 0 with
            | none => exact Nat.le_of_eq (wt_n (v := 0) (by omega) (by omega))
            | some j =>
              show wt1 (5, _, _, _) ≤ _
              rw [wt_o (by omega)]
              have : ln1 5 = 2 := rfl
              omega
          omega
        · cases g8
      · cases g5
    rw [if_neg h2t] at h
    by_cases h307 : tkk t n p = 307
    · rw [if_pos h307] at h
      have a1 := nl (p := p) (by omega)
      unfold plet at h
      by_cases hnw : nwL t n L Nf 10 (nx t n p) = true
      · rw [if_pos hnw] at h
        have n1 := (nwL_t.mp hnw).1
        have a2 := nl (p := nx t n p) (by omega)
        rcases tT_r h with ⟨g4, g5⟩ | ⟨g4, g5⟩
        · have a3 := nl (p := nx t n (nx t n p)) (by omega)
          rcases eT_r g5 with ⟨_, _, g7⟩ | ⟨r2, c2, q2, g6, ⟨g7, g8⟩ | ⟨g7, g8⟩⟩
          · cases g7
          · have hb2 := pX_b ht a3.2 g6
            have hw2 := pX_w ht a3.2 g6
            have a5 := nl (p := q2) (by omega)
            cases g8
            rw [wts2_a, wts2_1, wt_o (by omega)]
            have : ln1 207 = 2 := rfl
            omega
          · cases g8
        · cases g5
      · rw [if_neg hnw] at h; cases h
    rw [if_neg h307] at h
    have con : ∀ {k : List Rw → Nat → Ss} {x : List Rw × List (List Nat) × Nat × List Nat × Nat}, tkk t n p ≠ 0 → pcon t n L p o k = some (.inr x) → ∃ rc q1, p + 4 ≤ q1 ∧ q1 ≤ n ∧ wts2 rc + 11 ≤ 4 * (q1 - p) ∧ k rc q1 = some (.inr x) := fun h0 hk => by
      have a1 := nl (p := p) h0
      unfold pcon at hk
      by_cases hc : tkk t n (nx t n p) = 40 ∧ o < 12
      · rw [if_pos hc] at hk
        have a2 := nl (p := nx t n p) (by omega)
        rcases eT_r hk with ⟨_, _, g7⟩ | ⟨r2, c2, q2, g6, ⟨g7, g8⟩ | ⟨g7, g8⟩⟩
        · cases g7
        · have hb2 := pX_b ht a2.2 g6
          have hw2 := pX_w ht a2.2 g6
          have a5 := nl (p := q2) (by omega)
          refine ⟨_, _, by omega, a5.2, ?_, g8⟩
          rw [wts2_a, wts2_1, wt_o (by omega)]
          have : ln1 208 = 0 := rfl
          omega
        · cases g8
      · rw [if_neg hc] at hk; cases hk
    have blk : ∀ {p o i : Nat} {L : List (List Nat)} {ck : Nat} {lp : Option Nat} {r : List Rw} {L' : List (List Nat)} {c : Nat} {b : List Nat} {q : Nat}, p ≤ n → L.length ≤ 10 → pblk t n (pst t n fm Nf f) p o i L ck lp = some (.inr (r, L', c, b, q)) → wts2 r + 8 ≤ 4 * (q - p) ∧ p < q ∧ q ≤ n ∧ L'.length ≤ 10 ∧ ∃ q1, pst t n fm Nf f 0 (nx t n p) (o + 1) i L ck lp = some (.inr (r, L', c, b, q1)) := fun hp hL hb => by
      unfold pblk at hb
      split at hb
      · rename_i hc
        have a1 := nx_bd ht (tk_lt (t := t) (n := n) (p := _) (by rw [hc.1]; decide))
        rcases bs_r hb with ⟨_, _, g2⟩ | ⟨r1, L1, c1, b1, q1, g1, g2⟩
        · cases g2
        · obtain ⟨e1, e2, e3, e4, e5, e6, e7, e8, _⟩ := (pst_B ht _ _ _ _ _ _ _ _ _ a1.2 hL g1).2 _ _ _ _ _ rfl
          have a2 := nl (p := q1) (by have := e8 rfl; omega)
          have i1 := ih _ _ _ _ _ _ _ _ _ _ _ _ a1.2 hL g1
          cases g2
          exact ⟨by omega, by omega, a2.2, e6, q1, g1⟩
      · cases hb
    by_cases h308 : tkk t n p = 308
    · rw [if_pos h308] at h
      unfold pif at h
      obtain ⟨rc, q1, e1, e2, e3, h⟩ := con (by omega) h
      rcases bs_r h with ⟨_, _, g2⟩ | ⟨rb, L1, c1, b1, q2, g1, g2⟩
      · cases g2
      obtain ⟨d1, d2, d3, d4, _⟩ := blk e2 hL g1
      by_cases h309 : tkk t n q2 = 309
      · rw [if_pos h309] at g2
        have a1 := nl (p := q2) (by omega)
        rcases bs_r g2 with ⟨_, _, g4⟩ | ⟨re, L2, c2, b2, q3, g3, g4⟩
        · cases g4
        obtain ⟨f1, f2, f3, f4, _⟩ := blk a1.2 d4 g3
        cases g4
        have e : ∀ x y : Rw, rc ++ x :: (rb ++ y :: re) = rc ++ ([x] ++ (rb ++ ([y] ++ re))) := fun x y => by simp
        rw [e, wts2_a, wts2_a, wts2_a, wts2_a, jmp_w (Or.inr rfl), jmp_w (Or.inl rfl)]
        omega
      · rw [if_neg h309] at g2
        cases g2
        have e : ∀ x : Rw, rc ++ x :: rb = rc ++ ([x] ++ rb) := fun x => by simp
        rw [e, wts2_a, wts2_a, jmp_w (Or.inr rfl)]
        omega
    rw [if_neg h308] at h
    by_cases h310 : tkk t n p = 310
    · rw [if_pos h310] at h
      unfold pwh at h
      obtain ⟨rc, q1, e1, e2, e3, h⟩ := con (by omega) h
      rcases bs_r h with ⟨_, _, g2⟩ | ⟨rb, L1, c1, b1, q2, g1, g2⟩
      · cases g2
      obtain ⟨d1, d2, d3, d4, q3, g3⟩ := blk e2 hL g1
      have hbk := pst_bk _ _ _ _ _ _ _ _ _ _ _ _ _ g3
      cases g2
      have e : ∀ x y z : Rw, ∀ w : List Rw, rc ++ x :: y :: (w ++ [z]) = rc ++ ([x] ++ ([y] ++ (w ++ [z]))) := fun x y z w => by simp
      rw [e, wts2_a, wts2_a, wts2_a, wts2_a, jmp_w (Or.inr rfl), jmp_w (Or.inl rfl), ptc_w (fun j hj => by obtain ⟨_, l, _, hh⟩ := hbk j hj; exact ⟨l, hh⟩), wts2_1, wt_o (by omega)]
      have : ln1 16 = 1 := rfl
      omega
    rw [if_neg h310] at h
    by_cases h311 : tkk t n p = 311 ∨ tkk t n p = 312
    · rw [if_pos h311] at h
      have a1 := nl (p := p) (by omega)
      unfold plv at h
      cases lp with
      | none => cases h
      | some l =>
        rcases tT_r h with ⟨g1, g2⟩ | ⟨g1, g2⟩
        · cases g2
          rw [wts2_1, wt_o (by omega)]
          have : ln1 14 = 3 := rfl
          have a2 := nl (p := nx t n p) (by omega)
          omega
        · cases g2
    rw [if_neg h311] at h
    by_cases h313 : tkk t n p = 313
    · rw [if_pos h313] at h
      have a1 := nl (p := p) (by omega)
      unfold pret at h
      by_cases h4 : fm = 4
      · rw [if_pos h4] at h; cases h
      rw [if_neg h4] at h
      by_cases h22 : fm = 2
      · rw [if_pos h22] at h
        rcases eT_r h with ⟨_, _, g7⟩ | ⟨r2, c2, q2, g6, ⟨g7, g8⟩ | ⟨g7, g8⟩⟩
        · cases g7
        · have hb2 := pX_b ht a1.2 g6
          have hw2 := pX_w ht a1.2 g6
          have a5 := nl (p := q2) (by omega)
          cases g8
          rw [wts2_a, wts2_1, wt_o (by omega)]
          have : ln1 11 = 1 := rfl
          omega
        · cases g8
      · rw [if_neg h22] at h
        rcases tT_r h with ⟨g1, g2⟩ | ⟨g1, g2⟩
        · cases g2
          rw [wts2_1, wt_o (by omega)]
          have : ln1 12 = 1 := rfl
          have a2 := nl (p := nx t n p) (by omega)
          omega
        · cases g2
    rw [if_neg h313] at h
    by_cases h314 : tkk t n p = 314
    · rw [if_pos h314] at h
      have a1 := nl (p := p) (by omega)
      unfold pchk at h
      rcases eT_r h with ⟨_, _, g7⟩ | ⟨r2, c2, q2, g6, ⟨g7, g8⟩ | ⟨g7, g8⟩⟩
      · cases g7
      · have hb2 := pX_b ht a1.2 g6
        have hw2 := pX_w ht a1.2 g6
        have a5 := nl (p := q2) (by omega)
        cases g8
        have e : [((208, 1, [], 0) : Rw), (17, Int32.ofNat ck, [], 0)] = [((208, 1, [], 0) : Rw)] ++ [(17, Int32.ofNat ck, [], 0)] := rfl
        rw [wts2_a, e, wts2_a, wts2_1, wts2_1, wt_o (by omega), wt_o (by omega)]
        have : ln1 17 = 2 := rfl
        have : ln1 208 = 0 := rfl
        omega
      · cases g8
    rw [if_neg h314] at h
    cases h
end MWS
