/-! there is fuel enough for statements; the breaks that wait -/
theorem bs_n {x : Ss} {k : List Rw → List (List Nat) → Nat → List Nat → Nat → Ss} (h : x ≠ none) (hk : ∀ r L c b q, x = some (.inr (r, L, c, b, q)) → k r L c b q ≠ none) : bsq x k ≠ none := by
  unfold bsq
  split
  · exact absurd rfl h
  · simp
  · exact hk _ _ _ _ _ rfl
theorem eT_n {t : Nat → Int32} {n : Nat} {x : Rs} {due : Nat} {k : List Rw → Nat → Ss} (h : x ≠ none) (hk : ∀ r c q, x = some (.inr (r, c, q)) → tkk t n q = due → k r (nx t n q) ≠ none) : eT t n x due k ≠ none := by
  unfold eT
  split
  · exact absurd rfl h
  · simp
  · rename_i r c q
    exact my_ite (P := fun x => x ≠ none) (fun hd => hk r c q rfl hd) (fun _ => by simp)
theorem tT_n {t : Nat → Int32} {n p due : Nat} {k : Nat → Ss} (hk : tkk t n p = due → k (nx t n p) ≠ none) : tT t n p due k ≠ none := my_ite (P := fun x => x ≠ none) hk (fun _ => by simp)
theorem pA_n {t : Nat → Int32} {n : Nat} {L : List (List Nat)} {p o : Nat} (ht : txt t n) (hp : p ≤ n) : pA t n L p o ≠ none := by
  have := ht.1
  exact px_tot ht _ _ _ _ _ _ (by omega) hp (by unfold wgt; rw [if_neg (by omega), if_neg (by omega)]; omega)
section MSN
variable {t : Nat → Int32} {n : Nat} {L : List (List Nat)}
theorem pnam_n {ck p o : Nat} (ht : txt t n) (h2 : tkk t n p = 2) : pnam t n L ck p o ≠ none := by
  have nl : ∀ {p}, tkk t n p ≠ 0 → p < nx t n p ∧ nx t n p ≤ n := fun h => nx_bd ht (tk_lt h)
  have a1 := nl (p := p) (by omega)
  unfold pnam
  refine my_ite (P := fun x => x ≠ none) (fun h40 => ?_) (fun _ => my_ite (P := fun x => x ≠ none) (fun h91 => ?_) (fun _ => tT_n (fun h61 => ?_)))
  · have a2 := nl (p := nx t n p) (by omega)
    refine my_ite (P := fun x => x ≠ none) (fun _ => by simp) (fun _ => my_ite (P := fun x => x ≠ none) (fun h41 => tT_n (fun _ => by simp)) (fun _ => ?_))
    unfold aT
    have := pA_n (L := L) (o := o + 1) ht a2.2
    split
    · rename_i h; exact absurd h this
    · simp
    · exact tT_n (fun _ => by simp)
  · have a2 := nl (p := nx t n p) (by omega)
    refine my_ite (P := fun x => x ≠ none) (fun _ => by simp) (fun _ => eT_n (pX_n ht a2.2) (fun r c q hq h93 => tT_n (fun h61 => ?_)))
    have a4 := nl (p := nx t n q) (by omega)
    exact eT_n (pX_n ht a4.2) (fun _ _ _ _ _ => by simp)
  · have a2 := nl (p := nx t n p) (by omega)
    exact eT_n (pX_n ht a2.2) (fun _ _ _ _ _ => by simp)
theorem pblk_n {g : Pg} {p o i ck : Nat} {lp : Option Nat} (ht : txt t n) (hg : ∀ q o, p < q → q ≤ n → g 0 q o i L ck lp ≠ none) : pblk t n g p o i L ck lp ≠ none := by
  unfold pblk
  refine my_ite (P := fun x => x ≠ none) (fun h => ?_) (fun _ => by simp)
  have a1 := nx_bd ht (tk_lt (t := t) (n := n) (p := p) (by omega))
  exact bs_n (hg _ _ a1.1 a1.2) (fun _ _ _ _ _ _ => by simp)
theorem pcon_nn {p o : Nat} {k : List Rw → Nat → Ss} (ht : txt t n) (h2 : tkk t n p ≠ 0) (hk : ∀ rc q, p + 4 ≤ q → q ≤ n → k rc q ≠ none) : pcon t n L p o k ≠ none := by
  have nl : ∀ {p}, tkk t n p ≠ 0 → p < nx t n p ∧ nx t n p ≤ n := fun h => nx_bd ht (tk_lt h)
  have a1 := nl (p := p) h2
  unfold pcon
  refine my_ite (P := fun x => x ≠ none) (fun h => ?_) (fun _ => by simp)
  have a2 := nl (p := nx t n p) (by omega)
  refine eT_n (pX_n ht a2.2) (fun r c q hq h41 => ?_)
  have a3 := pX_b ht a2.2 hq
  have a4 := nl (p := q) (by omega)
  exact hk _ _ (by omega) a4.2
theorem pst_tot {fm : Nat} {Nf : List (List Nat)} (ht : txt t n) : ∀ (f m p o i : Nat) (L : List (List Nat)) (ck : Nat) (lp : Option Nat), p ≤ n → L.length ≤ 10 → 2 * (n - p) + (if m = 0 then 2 else 1) ≤ f → pst t n fm Nf f m p o i L ck lp ≠ none := by
  intro f
  induction f with
  | zero => intro m p o i L ck lp _ _ hf; split at hf <;> omega
  | succ f ih =>
    intro m p o i L ck lp hp hL hf
    have nl : ∀ {p}, tkk t n p ≠ 0 → p < nx t n p ∧ nx t n p ≤ n := fun h => nx_bd ht (tk_lt h)
    unfold pst
    refine my_ite (P := fun x => x ≠ none) (fun hm => ?_) (fun hm => ?_)
    · rw [if_pos hm] at hf
      refine my_ite (P := fun x => x ≠ none) (fun _ => by simp) (fun _ => ?_)
      refine bs_n (ih _ _ _ _ _ _ _ hp hL (by rw [if_neg (by omega)]; omega)) (fun r L1 c1 b q hq => ?_)
      obtain ⟨b1, b2, b3, b4, b5, b6, _⟩ := (pst_B ht _ _ _ _ _ _ _ _ _ hp hL hq).2 _ _ _ _ _ rfl
      have := b3 (by omega)
      exact bs_n (ih _ _ _ _ _ _ _ b2 b6 (by rw [if_pos rfl]; omega)) (fun _ _ _ _ _ _ => by simp)
    rw [if_neg hm] at hf
    have hg : ∀ p' i L ck lp, p < p' → L.length ≤ 10 → ∀ q o, p' < q → q ≤ n → pst t n fm Nf f 0 q o i L ck lp ≠ none := fun p' i L ck lp hp' hL q o hq hn => ih 0 q o i L ck lp hn hL (by rw [if_pos rfl]; omega)
    refine my_ite (P := fun x => x ≠ none) (fun h2 => pnam_n ht h2) (fun _ => ?_)
    refine my_ite (P := fun x => x ≠ none) (fun h2 => ?_) (fun _ => ?_)
    · have a1 := nl (p := p) (by omega)
      unfold plet
      refine my_ite (P := fun x => x ≠ none) (fun hn => tT_n (fun h61 => ?_)) (fun _ => by simp)
      have a3 := nl (p := nx t n (nx t n p)) (by omega)
      exact eT_n (pX_n ht a3.2) (fun _ _ _ _ _ => by simp)
    refine my_ite (P := fun x => x ≠ none) (fun h2 => ?_) (fun _ => ?_)
    · unfold pif
      refine pcon_nn ht (by omega) (fun rc q hq hqn => bs_n (pblk_n ht (hg q _ _ _ _ (by omega) hL)) (fun rb L1 c1 b q1 hq1 => ?_))
      obtain ⟨b1, b2, b3, b5, b6, _⟩ := (pblk_B ht hqn (fun q o res hq hh => pst_B ht f 0 q o _ L ck lp res hq hL hh) hq1).2 _ _ _ _ _ rfl
      refine my_ite (P := fun x => x ≠ none) (fun h309 => ?_) (fun _ => by simp)
      have a1 := nl (p := q1) (by omega)
      exact bs_n (pblk_n ht (hg _ _ _ _ _ (by omega) b6)) (fun _ _ _ _ _ _ => by simp)
    refine my_ite (P := fun x => x ≠ none) (fun h2 => ?_) (fun _ => ?_)
    · unfold pwh
      exact pcon_nn ht (by omega) (fun rc q hq hqn => bs_n (pblk_n ht (hg q _ _ _ _ (by omega) hL)) (fun rb L1 c1 b q1 hq1 => by simp))
    refine my_ite (P := fun x => x ≠ none) (fun h2 => ?_) (fun _ => ?_)
    · unfold plv
      cases lp with
      | none => simp
      | some l => exact tT_n (fun _ => by simp)
    refine my_ite (P := fun x => x ≠ none) (fun h2 => ?_) (fun _ => ?_)
    · have a1 := nl (p := p) (by omega)
      unfold pret
      exact my_ite (P := fun x => x ≠ none) (fun _ => by simp) (fun _ => my_ite (P := fun x => x ≠ none) (fun _ => eT_n (pX_n ht a1.2) (fun _ _ _ _ _ => by simp)) (fun _ => tT_n (fun _ => by simp)))
    refine my_ite (P := fun x => x ≠ none) (fun h2 => ?_) (fun _ => by simp)
    have a1 := nl (p := p) (by omega)
    unfold pchk
    exact eT_n (pX_n ht a1.2) (fun _ _ _ _ _ => by simp)
/-- the breaks that wait are jumps to the loop's first step -/
def bkP (i : Nat) (lp : Option Nat) (r : List Rw) (b : List Nat) : Prop := ∀ j ∈ b, i ≤ j ∧ ∃ l, lp = some l ∧ r[j - i]? = some (jmp 14 l)
theorem bkP_a {i : Nat} {lp : Option Nat} {r r' : List Rw} {b : List Nat} (h : bkP i lp r b) : bkP i lp (r ++ r') b := fun j hj => by
  obtain ⟨h1, l, h2, h3⟩ := h j hj
  refine ⟨h1, l, h2, ?_⟩
  have : j - i < r.length := by
    by_cases hh : j - i < r.length
    · exact hh
    · rw [List.getElem?_eq_none (by omega)] at h3; cases h3
  rw [List.getElem?_append_left this]
  exact h3
theorem bkP_s {i : Nat} {lp : Option Nat} {r r' : List Rw} {b : List Nat} (h : bkP (i + r.length) lp r' b) : bkP i lp (r ++ r') b := fun j hj => by
  obtain ⟨h1, l, h2, h3⟩ := h j hj
  refine ⟨by omega, l, h2, ?_⟩
  rw [List.getElem?_append_right (by omega), show j - i - r.length = j - (i + r.length) by omega]
  exact h3
theorem bkP_2 {i : Nat} {lp : Option Nat} {r : List Rw} {b b' : List Nat} (h : bkP i lp r b) (h' : bkP i lp r b') : bkP i lp r (b ++ b') := fun j hj => by
  rcases List.mem_append.mp hj with hj | hj
  · exact h j hj
  · exact h' j hj
theorem bkP_0 {i : Nat} {lp : Option Nat} {r : List Rw} : bkP i lp r [] := fun j hj => by simp at hj
theorem pst_bk {fm : Nat} {Nf : List (List Nat)} : ∀ (f m p o i : Nat) (L : List (List Nat)) (ck : Nat) (lp : Option Nat) (r : List Rw) (L' : List (List Nat)) (c : Nat) (b : List Nat) (q : Nat), pst t n fm Nf f m p o i L ck lp = some (.inr (r, L', c, b, q)) → bkP i lp r b := by
  intro f
  induction f with
  | zero => intro m p o i L ck lp r L' c b q h; simp [pst] at h
  | succ f ih =>
    intro m p o i L ck lp r L' c b q h
    have blk : ∀ p o i L ck lp r L' c b q, pblk t n (pst t n fm Nf f) p o i L ck lp = some (.inr (r, L', c, b, q)) → bkP i lp r b := fun p o i L ck lp r L' c b q h => by
      unfold pblk at h
      split at h
      · rcases bs_r h with ⟨q1, g1, g2⟩ | ⟨rb, L1, k1, b1, q1, g1, g2⟩
        · cases g2
        · cases g2
          exact ih _ _ _ _ _ _ _ _ _ _ _ _ g1
      · cases h
    unfold pst at h
    by_cases hm : m = 0
    · rw [if_pos hm] at h
      by_cases h125 : tkk t n p = 125
      · rw [if_pos h125] at h
        cases h
        exact bkP_0
      · rw [if_neg h125] at h
        rcases bs_r h with ⟨q, g1, g2⟩ | ⟨r1, L1, c1, b1, q1, g1, g2⟩
        · cases g2
        · rcases bs_r g2 with ⟨q2, g3, g4⟩ | ⟨r2, L2, c2, b2, q2, g3, g4⟩
          · cases g4
          · cases g4
            exact bkP_2 (bkP_a (ih _ _ _ _ _ _ _ _ _ _ _ _ g1)) (bkP_s (ih _ _ _ _ _ _ _ _ _ _ _ _ g3))
    rw [if_neg hm] at h
    have e0 : ∀ {x : Rs} {due : Nat} {k : List Rw → Nat → Ss}, (∀ r1 q1, k r1 q1 = some (.inr (r, L', c, b, q)) → b = []) → eT t n x due k = some (.inr (r, L', c, b, q)) → b = [] := fun hk h => by
      rcases eT_r h with ⟨q, g1, g2⟩ | ⟨r, c, q, g1, ⟨g2, g3⟩ | ⟨g2, g3⟩⟩
      · cases g2
      · exact hk _ _ g3
      · cases g3
    have t0 : ∀ {p due : Nat} {k : Nat → Ss}, (∀ q1, k q1 = some (.inr (r, L', c, b, q)) → b = []) → tT t n p due k = some (.inr (r, L', c, b, q)) → b = [] := fun hk h => by
      rcases tT_r h with ⟨g1, g2⟩ | ⟨g1, g2⟩
      · exact hk _ g2
      · cases g2
    have z : b = [] → bkP i lp r b := fun hb => by rw [hb]; exact bkP_0
    by_cases h2 : tkk t n p = 2
    · rw [if_pos h2] at h
      unfold pnam at h
      apply z
      split at h
      · split at h
        · cases h
        · split at h
          · exact t0 (fun q1 h => by cases h; rfl) h
          · rcases aT_r h with ⟨q, g1, g2⟩ | ⟨r, c, q, g1, g2⟩
            · cases g2
            · exact t0 (fun q1 h => by cases h; rfl) g2
      · split at h
        · split at h
          · cases h
          · exact e0 (fun r1 q1 h => t0 (fun q1 h => e0 (fun r1 q1 h => by cases h; rfl) h) h) h
        · exact t0 (fun q1 h => e0 (fun r1 q1 h => by cases h; rfl) h) h
    rw [if_neg h2] at h
    by_cases h307 : tkk t n p = 307
    · rw [if_pos h307] at h
      unfold plet at h
      apply z
      split at h
      · exact t0 (fun q1 h => e0 (fun r1 q1 h => by cases h; rfl) h) h
      · cases h
    rw [if_neg h307] at h
    have c0 : ∀ {k : List Rw → Nat → Ss}, pcon t n L p o k = some (.inr (r, L', c, b, q)) → ∃ rc q1, k rc q1 = some (.inr (r, L', c, b, q)) := fun h => by
      unfold pcon at h
      split at h
      · rcases eT_r h with ⟨q, g1, g2⟩ | ⟨r, c, q, g1, ⟨g2, g3⟩ | ⟨g2, g3⟩⟩
        · cases g2
        · exact ⟨_, _, g3⟩
        · cases g3
      · cases h
    by_cases h308 : tkk t n p = 308
    · rw [if_pos h308] at h
      unfold pif at h
      obtain ⟨rc, q1, h⟩ := c0 h
      rcases bs_r h with ⟨q2, g1, g2⟩ | ⟨rb, L1, k1, b1, q2, g1, g2⟩
      · cases g2
      · have i1 := blk _ _ _ _ _ _ _ _ _ _ _ g1
        by_cases h309 : tkk t n q2 = 309
        · rw [if_pos h309] at g2
          rcases bs_r g2 with ⟨q3, g3, g4⟩ | ⟨re, L2, k2, b2, q3, g3, g4⟩
          · cases g4
          · have i2 := blk _ _ _ _ _ _ _ _ _ _ _ g3
            cases g4
            have e1 : ∀ (x y : Rw), rc ++ x :: (rb ++ y :: re) = (rc ++ [x]) ++ (rb ++ ([y] ++ re)) := fun x y => by simp
            rw [e1]
            refine bkP_2 (bkP_s (by simp only [List.length_append, List.length_cons, List.length_nil, Nat.zero_add]; exact bkP_a i1)) ?_
            have e2 : ∀ (x y : Rw), (rc ++ [x]) ++ (rb ++ ([y] ++ re)) = (rc ++ [x] ++ rb ++ [y]) ++ re := fun x y => by simp
            rw [e2]
            refine bkP_s ?_
            simp only [List.length_append, List.length_cons, List.length_nil, Nat.zero_add]
            rw [show i + (rc.length + 1 + rb.length + 1) = i + rc.length + 1 + rb.length + 1 by omega]
            exact i2
        · rw [if_neg h309] at g2
          cases g2
          have e1 : ∀ (x : Rw), rc ++ x :: rb = (rc ++ [x]) ++ rb := fun x => by simp
          rw [e1]
          exact bkP_s (by simp only [List.length_append, List.length_cons, List.length_nil, Nat.zero_add]; exact i1)
    rw [if_neg h308] at h
    by_cases h310 : tkk t n p = 310
    · rw [if_pos h310] at h
      unfold pwh at h
      obtain ⟨rc, q1, h⟩ := c0 h
      apply z
      rcases bs_r h with ⟨q2, g1, g2⟩ | ⟨rb, L1, k1, b1, q2, g1, g2⟩
      · cases g2
      · cases g2; rfl
    rw [if_neg h310] at h
    by_cases h311 : tkk t n p = 311 ∨ tkk t n p = 312
    · rw [if_pos h311] at h
      unfold plv at h
      cases lp with
      | none => cases h
      | some l =>
        rcases tT_r h with ⟨g1, g2⟩ | ⟨g1, g2⟩
        · cases g2
          intro j hj
          split at hj
          · simp at hj
            subst hj
            exact ⟨Nat.le_refl _, l, rfl, by simp [jmp]⟩
          · simp at hj
        · cases g2
    rw [if_neg h311] at h
    by_cases h313 : tkk t n p = 313
    · rw [if_pos h313] at h
      unfold pret at h
      apply z
      split at h
      · cases h
      · split at h
        · exact e0 (fun r1 q1 h => by cases h; rfl) h
        · exact t0 (fun q1 h => by cases h; rfl) h
    rw [if_neg h313] at h
    by_cases h314 : tkk t n p = 314
    · rw [if_pos h314] at h
      unfold pchk at h
      exact z (e0 (fun r1 q1 h => by cases h; rfl) h)
    rw [if_neg h314] at h
    cases h
end MSN
