/-! ===== statements, as they are to be read ===== -/
/-- a fault's place, or: raw steps, locals, checks, breaks that wait, the place behind -/
abbrev Ss := Option (Nat ⊕ (List Rw × List (List Nat) × Nat × List Nat × Nat))
def bsq (x : Ss) (k : List Rw → List (List Nat) → Nat → List Nat → Nat → Ss) : Ss := match x with
  | none => none
  | some (.inl q) => some (.inl q)
  | some (.inr (r, L, c, b, q)) => k r L c b q
/-- an expression, then a token that is due -/
def eT (t : Nat → Int32) (n : Nat) (x : Rs) (due : Nat) (k : List Rw → Nat → Ss) : Ss := match x with
  | none => none
  | some (.inl q) => some (.inl q)
  | some (.inr (r, _, q)) => if tkk t n q = due then k r (nx t n q) else some (.inl q)
def tT (t : Nat → Int32) (n p due : Nat) (k : Nat → Ss) : Ss := if tkk t n p = due then k (nx t n p) else some (.inl p)
def aT (x : Rs) (k : List Rw → Nat → Nat → Ss) : Ss := match x with
  | none => none
  | some (.inl q) => some (.inl q)
  | some (.inr (r, c, q)) => k r c q
def pA (t : Nat → Int32) (n : Nat) (L : List (List Nat)) (p o : Nat) : Rs := px t n L 21100 11 [] 0 p o
def asg (L : List (List Nat)) (nm : List Nat) (p : Nat) : Rw := match kwi L nm 0 with
  | some j => (5, Int32.ofNat j, nm, p)
  | none => (201, Int32.ofInt (-1), nm, p)
def pnam (t : Nat → Int32) (n : Nat) (L : List (List Nat)) (ck p o : Nat) : Ss :=
  if tkk t n (nx t n p) = 40 then
    if 12 ≤ o then some (.inl (nx t n p)) else
    if tkk t n (nx t n (nx t n p)) = 41 then tT t n (nx t n (nx t n (nx t n p))) 59 (fun q => some (.inr ([(205, 0, tkm t n p, p)], L, ck, [], q)))
    else aT (pA t n L (nx t n (nx t n p)) (o + 1)) (fun r c q1 => tT t n (nx t n q1) 59 (fun q => some (.inr (r ++ [(205, Int32.ofNat c, tkm t n p, p)], L, ck, [], q))))
  else if tkk t n (nx t n p) = 91 then
    if 12 ≤ o then some (.inl (nx t n p)) else
    eT t n (pX t n L (nx t n (nx t n p)) (o + 1)) 93 (fun r1 q1 => tT t n q1 61 (fun q2 => eT t n (pX t n L q2 o) 59 (fun r2 q3 => some (.inr (r1 ++ r2 ++ [(203, 0, tkm t n p, p)], L, ck, [], q3)))))
  else tT t n (nx t n p) 61 (fun q1 => eT t n (pX t n L q1 o) 59 (fun r q2 => some (.inr (r ++ [asg L (tkm t n p) p], L, ck, [], q2))))
/-- may a new local stand there -/
def nwL (t : Nat → Int32) (n : Nat) (L Nf : List (List Nat)) (most q : Nat) : Bool := decide (tkk t n q = 2) && (kwi Nf (tkm t n q) 0).isNone && (kwi L (tkm t n q) 0).isNone && decide (L.length < most)
theorem nwL_t {t : Nat → Int32} {n : Nat} {L Nf : List (List Nat)} {most q : Nat} : nwL t n L Nf most q = true ↔ tkk t n q = 2 ∧ kwi Nf (tkm t n q) 0 = none ∧ kwi L (tkm t n q) 0 = none ∧ L.length < most := by
  unfold nwL
  simp [and_assoc]
def plet (t : Nat → Int32) (n : Nat) (Nf L : List (List Nat)) (ck p o : Nat) : Ss :=
  if nwL t n L Nf 10 (nx t n p) = true then tT t n (nx t n (nx t n p)) 61 (fun q1 => eT t n (pX t n L q1 o) 59 (fun r q2 => some (.inr (r ++ [(207, Int32.ofNat L.length, [], 0)], L ++ [tkm t n (nx t n p)], ck, [], q2))))
  else some (.inl (nx t n p))
def pret (t : Nat → Int32) (n fm : Nat) (L : List (List Nat)) (ck p o : Nat) : Ss :=
  if fm = 4 then some (.inl p) else
  if fm = 2 then eT t n (pX t n L (nx t n p) o) 59 (fun r q => some (.inr (r ++ [(11, 0, [], 0)], L, ck, [], q)))
  else tT t n (nx t n p) 59 (fun q => some (.inr ([(12, 0, [], 0)], L, ck, [], q)))
def pchk (t : Nat → Int32) (n : Nat) (L : List (List Nat)) (ck p o : Nat) : Ss := eT t n (pX t n L (nx t n p) o) 59 (fun r q => some (.inr (r ++ [(208, 1, [], 0), (17, Int32.ofNat ck, [], 0)], L, ck + 1, [], q)))
def plv (t : Nat → Int32) (n : Nat) (L : List (List Nat)) (ck p i : Nat) (lp : Option Nat) : Ss := match lp with
  | none => some (.inl p)
  | some l => tT t n (nx t n p) 59 (fun q => some (.inr ([(14, Int32.ofNat l, [], 0)], L, ck, if tkk t n p = 311 then [i] else [], q)))
/-- (mode, place, open, raw steps so far, locals, checks, the loop's first step) -/
abbrev Pg := Nat → Nat → Nat → Nat → List (List Nat) → Nat → Option Nat → Ss
def pblk (t : Nat → Int32) (n : Nat) (g : Pg) (p o i : Nat) (L : List (List Nat)) (ck : Nat) (lp : Option Nat) : Ss :=
  if tkk t n p = 123 ∧ o < 12 then bsq (g 0 (nx t n p) (o + 1) i L ck lp) (fun r L1 c1 b q => some (.inr (r, L1, c1, b, nx t n q))) else some (.inl p)
/-- the condition, from the word on: its steps, and the place of the block -/
def pcon (t : Nat → Int32) (n : Nat) (L : List (List Nat)) (p o : Nat) (k : List Rw → Nat → Ss) : Ss :=
  if tkk t n (nx t n p) = 40 ∧ o < 12 then eT t n (pX t n L (nx t n (nx t n p)) (o + 1)) 41 (fun r q => k (r ++ [(208, 1, [], 0)]) q) else some (.inl (nx t n p))
def jmp (op T : Nat) : Rw := (op, Int32.ofNat T, [], 0)
def pif (t : Nat → Int32) (n : Nat) (g : Pg) (p o i : Nat) (L : List (List Nat)) (ck : Nat) (lp : Option Nat) : Ss :=
  pcon t n L p o (fun rc q => bsq (pblk t n g q o (i + rc.length + 1) L ck lp) (fun rb L1 c1 b q1 =>
    if tkk t n q1 = 309 then bsq (pblk t n g (nx t n q1) o (i + rc.length + 1 + rb.length + 1) L1 c1 lp) (fun re L2 c2 b2 q2 => some (.inr (rc ++ jmp 15 (i + rc.length + 1 + rb.length + 1) :: (rb ++ jmp 14 (i + rc.length + 1 + rb.length + 1 + re.length) :: re), L2, c2, b ++ b2, q2)))
    else some (.inr (rc ++ jmp 15 (i + rc.length + 1 + rb.length) :: rb, L1, c1, b, q1))))
/-- the breaks of a loop get where they go -/
def ptc (b : List Nat) (i T : Nat) (r : List Rw) : List Rw := match b with
  | [] => r
  | j :: b => ptc b i T (r.set (j - i) (jmp 14 T))
def pwh (t : Nat → Int32) (n : Nat) (g : Pg) (p o i : Nat) (L : List (List Nat)) (ck : Nat) : Ss :=
  pcon t n L p o (fun rc q => bsq (pblk t n g q o (i + rc.length + 2) L ck (some i)) (fun rb L1 c1 b q1 =>
    some (.inr (rc ++ jmp 15 (i + rc.length + 2 + rb.length + 1) :: (16, 0, [], 0) :: (ptc b (i + rc.length + 2) (i + rc.length + 2 + rb.length + 1) rb ++ [jmp 14 i]), L1, c1, [], q1))))
def pst (t : Nat → Int32) (n fm : Nat) (Nf : List (List Nat)) : Nat → Pg
  | 0, _, _, _, _, _, _, _ => none
  | f + 1, m, p, o, i, L, ck, lp =>
    if m = 0 then
      if tkk t n p = 125 then some (.inr ([], L, ck, [], p)) else
      bsq (pst t n fm Nf f 1 p o i L ck lp) (fun r L1 c1 b q => bsq (pst t n fm Nf f 0 q o (i + r.length) L1 c1 lp) (fun r2 L2 c2 b2 q2 => some (.inr (r ++ r2, L2, c2, b ++ b2, q2))))
    else if tkk t n p = 2 then pnam t n L ck p o
    else if tkk t n p = 307 then plet t n Nf L ck p o
    else if tkk t n p = 308 then pif t n (pst t n fm Nf f) p o i L ck lp
    else if tkk t n p = 310 then pwh t n (pst t n fm Nf f) p o i L ck
    else if tkk t n p = 311 ∨ tkk t n p = 312 then plv t n L ck p i lp
    else if tkk t n p = 313 then pret t n fm L ck p o
    else if tkk t n p = 314 then pchk t n L ck p o
    else some (.inl p)
/-! where they end, how much they make -/
theorem bs_r {x : Ss} {k : List Rw → List (List Nat) → Nat → List Nat → Nat → Ss} {res : Nat ⊕ (List Rw × List (List Nat) × Nat × List Nat × Nat)} (h : bsq x k = some res) : (∃ q, x = some (.inl q) ∧ res = .inl q) ∨ ∃ r L c b q, x = some (.inr (r, L, c, b, q)) ∧ k r L c b q = some res := by
  unfold bsq at h
  split at h
  · cases h
  · cases h; exact Or.inl ⟨_, rfl, rfl⟩
  · exact Or.inr ⟨_, _, _, _, _, rfl, h⟩
theorem eT_r {t : Nat → Int32} {n : Nat} {x : Rs} {due : Nat} {k : List Rw → Nat → Ss} {res : Nat ⊕ (List Rw × List (List Nat) × Nat × List Nat × Nat)} (h : eT t n x due k = some res) : (∃ q, x = some (.inl q) ∧ res = .inl q) ∨ ∃ r c q, x = some (.inr (r, c, q)) ∧ ((tkk t n q = due ∧ k r (nx t n q) = some res) ∨ (tkk t n q ≠ due ∧ res = .inl q)) := by
  unfold eT at h
  split at h
  · cases h
  · cases h; exact Or.inl ⟨_, rfl, rfl⟩
  · rename_i r c q
    refine Or.inr ⟨r, c, q, rfl, ?_⟩
    by_cases hd : tkk t n q = due
    · rw [if_pos hd] at h; exact Or.inl ⟨hd, h⟩
    · rw [if_neg hd] at h; cases h; exact Or.inr ⟨hd, rfl⟩
theorem tT_r {t : Nat → Int32} {n p due : Nat} {k : Nat → Ss} {res : Nat ⊕ (List Rw × List (List Nat) × Nat × List Nat × Nat)} (h : tT t n p due k = some res) : (tkk t n p = due ∧ k (nx t n p) = some res) ∨ (tkk t n p ≠ due ∧ res = .inl p) := by
  unfold tT at h
  by_cases hd : tkk t n p = due
  · rw [if_pos hd] at h; exact Or.inl ⟨hd, h⟩
  · rw [if_neg hd] at h; cases h; exact Or.inr ⟨hd, rfl⟩
theorem aT_r {x : Rs} {k : List Rw → Nat → Nat → Ss} {res : Nat ⊕ (List Rw × List (List Nat) × Nat × List Nat × Nat)} (h : aT x k = some res) : (∃ q, x = some (.inl q) ∧ res = .inl q) ∨ ∃ r c q, x = some (.inr (r, c, q)) ∧ k r c q = some res := by
  unfold aT at h
  split at h
  · cases h
  · cases h; exact Or.inl ⟨_, rfl, rfl⟩
  · exact Or.inr ⟨_, _, _, rfl, h⟩
theorem ptc_len {b : List Nat} : ∀ {i T : Nat} {r : List Rw}, (ptc b i T r).length = r.length := by
  induction b with
  | nil => intro i T r; rfl
  | cons j b ih => intro i T r; show (ptc b i T (r.set (j - i) (jmp 14 T))).length = _; rw [ih]; simp
/-- bounds of a reading of statements -/
def sB (t : Nat → Int32) (n m p i : Nat) (L : List (List Nat)) (res : Nat ⊕ (List Rw × List (List Nat) × Nat × List Nat × Nat)) : Prop := (∀ q, res = .inl q → p ≤ q ∧ q ≤ n) ∧ ∀ r L' c b q, res = .inr (r, L', c, b, q) → p ≤ q ∧ q ≤ n ∧ (m ≠ 0 → p < q) ∧ r.length + p ≤ q ∧ (∀ j ∈ b, i ≤ j ∧ j < i + r.length) ∧ L'.length ≤ 10 ∧ b.length * 6 + p ≤ q ∧ (m = 0 → tkk t n q = 125) ∧ (∀ x ∈ L, x ∈ L') ∧ ∀ x ∈ L', x ∈ L ∨ ∃ y, tkk t n y = 2 ∧ x = tkm t n y
theorem pX_b {t : Nat → Int32} {n : Nat} {L : List (List Nat)} {p o : Nat} {r : List Rw} {c q : Nat} (ht : txt t n) (hp : p ≤ n) (h : pX t n L p o = some (.inr (r, c, q))) : p < q ∧ q ≤ n ∧ r.length + p ≤ q := by
  have := (px_bd (L := L) ht 21100 0 [] 0 p o hp).2 _ _ _ h
  have h2 := this.2.2.1 (by omega)
  simp only [List.length_nil] at this
  exact ⟨h2, this.2.1, by omega⟩
theorem pX_f {t : Nat → Int32} {n : Nat} {L : List (List Nat)} {p o q : Nat} (ht : txt t n) (hp : p ≤ n) (h : pX t n L p o = some (.inl q)) : p ≤ q ∧ q ≤ n := (px_bd (L := L) ht 21100 0 [] 0 p o hp).1 _ h
theorem pA_b {t : Nat → Int32} {n : Nat} {L : List (List Nat)} {p o : Nat} {r : List Rw} {c q : Nat} (ht : txt t n) (hp : p ≤ n) (h : pA t n L p o = some (.inr (r, c, q))) : p < q ∧ q ≤ n ∧ r.length + p ≤ q ∧ tkk t n q = 41 := by
  have := (px_bd (L := L) ht 21100 11 [] 0 p o hp).2 _ _ _ h
  have h2 := this.2.2.1 (by omega)
  simp only [List.length_nil] at this
  exact ⟨h2, this.2.1, by omega, px_a41 _ _ _ _ _ _ _ _ h⟩
theorem pA_f {t : Nat → Int32} {n : Nat} {L : List (List Nat)} {p o q : Nat} (ht : txt t n) (hp : p ≤ n) (h : pA t n L p o = some (.inl q)) : p ≤ q ∧ q ≤ n := (px_bd (L := L) ht 21100 11 [] 0 p o hp).1 _ h
section MSB
variable {t : Nat → Int32} {n m p i : Nat} {L : List (List Nat)}
theorem sB_l {q : Nat} (h : p ≤ q ∧ q ≤ n) : sB t n m p i L (.inl q) := ⟨fun q' hh => by cases hh; exact h, fun _ _ _ _ _ hh => by cases hh⟩
theorem sB_1 {r : List Rw} {c q : Nat} {b : List Nat} (hm : m ≠ 0) (hL : L.length ≤ 10) (h1 : p < q) (h2 : q ≤ n) (h3 : r.length + p ≤ q) (h4 : ∀ j ∈ b, i ≤ j ∧ j < i + r.length) (h5 : b.length * 6 + p ≤ q) : sB t n m p i L (.inr (r, L, c, b, q)) := by
  refine ⟨fun q' hh => (by cases hh), fun r' L' c' b' q' hh => ?_⟩
  cases hh
  exact ⟨by omega, h2, fun _ => h1, h3, h4, hL, h5, fun h => absurd h hm, fun x hx => hx, fun x hx => Or.inl hx⟩
theorem pnam_B {ck o : Nat} {res : Nat ⊕ (List Rw × List (List Nat) × Nat × List Nat × Nat)} (ht : txt t n) (hm : m ≠ 0) (hL : L.length ≤ 10) (h2 : tkk t n p = 2) (h : pnam t n L ck p o = some res) : sB t n m p i L res := by
  have nl : ∀ {p}, tkk t n p ≠ 0 → p < nx t n p ∧ nx t n p ≤ n := fun h => nx_bd ht (tk_lt h)
  have a1 := nl (p := p) (by omega)
  have no : ∀ j : Nat, j ∈ ([] : List Nat) → i ≤ j ∧ j < i + 0 := fun j hj => by simp at hj
  unfold pnam at h
  by_cases h40 : tkk t n (nx t n p) = 40
  · rw [if_pos h40] at h
    have a2 := nl (p := nx t n p) (by omega)
    by_cases ho : 12 ≤ o
    · rw [if_pos ho] at h; cases h; exact sB_l ⟨by omega, a1.2⟩
    · rw [if_neg ho] at h
      by_cases h41 : tkk t n (nx t n (nx t n p)) = 41
      · rw [if_pos h41] at h
        have a3 := nl (p := nx t n (nx t n p)) (by omega)
        rcases tT_r h with ⟨g1, g2⟩ | ⟨g1, g2⟩
        · have a4 := nl (p := nx t n (nx t n (nx t n p))) (by omega)
          cases g2
          exact sB_1 hm hL (by omega) a4.2 (by simp; omega) (by simp) (by simp; omega)
        · rw [g2]; exact sB_l ⟨by omega, a3.2⟩
      · rw [if_neg h41] at h
        rcases aT_r h with ⟨q, g1, g2⟩ | ⟨r, c, q, g1, g2⟩
        · have := pA_f ht a2.2 g1
          rw [g2]; exact sB_l ⟨by omega, this.2⟩
        · have a3 := pA_b ht a2.2 g1
          have a4 := nl (p := q) (by omega)
          rcases tT_r g2 with ⟨g3, g4⟩ | ⟨g3, g4⟩
          · have a5 := nl (p := nx t n q) (by omega)
            cases g4
            exact sB_1 hm hL (by omega) a5.2 (by simp; omega) (by simp) (by simp; omega)
          · rw [g4]; exact sB_l ⟨by omega, a4.2⟩
  rw [if_neg h40] at h
  by_cases h91 : tkk t n (nx t n p) = 91
  · rw [if_pos h91] at h
    have a2 := nl (p := nx t n p) (by omega)
    by_cases ho : 12 ≤ o
    · rw [if_pos ho] at h; cases h; exact sB_l ⟨by omega, a1.2⟩
    · rw [if_neg ho] at h
      rcases eT_r h with ⟨q, g1, g2⟩ | ⟨r, c, q, g1, ⟨g2, g3⟩ | ⟨g2, g3⟩⟩
      · have := pX_f ht a2.2 g1
        rw [g2]; exact sB_l ⟨by omega, this.2⟩
      · have a3 := pX_b ht a2.2 g1
        have a4 := nl (p := q) (by omega)
        rcases tT_r g3 with ⟨g4, g5⟩ | ⟨g4, g5⟩
        · have a5 := nl (p := nx t n q) (by omega)
          rcases eT_r g5 with ⟨q2, g6, g7⟩ | ⟨r2, c2, q2, g6, ⟨g7, g8⟩ | ⟨g7, g8⟩⟩
          · have := pX_f ht a5.2 g6
            rw [g7]; exact sB_l ⟨by omega, this.2⟩
          · have a6 := pX_b ht a5.2 g6
            have a7 := nl (p := q2) (by omega)
            cases g8
            exact sB_1 hm hL (by omega) a7.2 (by simp; omega) (by simp) (by simp; omega)
          · have a6 := pX_b ht a5.2 g6
            rw [g8]; exact sB_l ⟨by omega, a6.2.1⟩
        · rw [g5]; exact sB_l ⟨by omega, a4.2⟩
      · have a3 := pX_b ht a2.2 g1
        rw [g3]; exact sB_l ⟨by omega, a3.2.1⟩
  rw [if_neg h91] at h
  rcases tT_r h with ⟨g1, g2⟩ | ⟨g1, g2⟩
  · have a2 := nl (p := nx t n p) (by omega)
    rcases eT_r g2 with ⟨q, g3, g4⟩ | ⟨r, c, q, g3, ⟨g4, g5⟩ | ⟨g4, g5⟩⟩
    · have := pX_f ht a2.2 g3
      rw [g4]; exact sB_l ⟨by omega, this.2⟩
    · have a3 := pX_b ht a2.2 g3
      have a4 := nl (p := q) (by omega)
      cases g5
      exact sB_1 hm hL (by omega) a4.2 (by simp; omega) (by simp) (by simp; omega)
    · have a3 := pX_b ht a2.2 g3
      rw [g5]; exact sB_l ⟨by omega, a3.2.1⟩
  · rw [g2]; exact sB_l ⟨by omega, a1.2⟩
theorem plet_B {Nf : List (List Nat)} {ck o : Nat} {res : Nat ⊕ (List Rw × List (List Nat) × Nat × List Nat × Nat)} (ht : txt t n) (hm : m ≠ 0) (h2 : tkk t n p = 307) (h : plet t n Nf L ck p o = some res) : sB t n m p i L res := by
  have nl : ∀ {p}, tkk t n p ≠ 0 → p < nx t n p ∧ nx t n p ≤ n := fun h => nx_bd ht (tk_lt h)
  have a1 := nl (p := p) (by omega)
  unfold plet at h
  by_cases hn : nwL t n L Nf 10 (nx t n p) = true
  · rw [if_pos hn] at h
    rw [nwL_t] at hn
    have a2 := nl (p := nx t n p) (by omega)
    rcases tT_r h with ⟨g1, g2⟩ | ⟨g1, g2⟩
    · have a3 := nl (p := nx t n (nx t n p)) (by omega)
      rcases eT_r g2 with ⟨q, g3, g4⟩ | ⟨r, c, q, g3, ⟨g4, g5⟩ | ⟨g4, g5⟩⟩
      · have := pX_f ht a3.2 g3
        rw [g4]; exact sB_l ⟨by omega, this.2⟩
      · have a4 := pX_b ht a3.2 g3
        have a5 := nl (p := q) (by omega)
        cases g5
        refine ⟨fun q' hh => (by cases hh), fun r' L' c' b' q' hh => ?_⟩
        cases hh
        exact ⟨by omega, a5.2, fun _ => by omega, by simp; omega, by simp, by simp; omega, by simp; omega, fun h => absurd h hm, fun x hx => by simp [hx], fun x hx => by
          rcases List.mem_append.mp hx with hx | hx
          · exact Or.inl hx
          · exact Or.inr ⟨nx t n p, hn.1, List.mem_singleton.mp hx⟩⟩
      · have a4 := pX_b ht a3.2 g3
        rw [g5]; exact sB_l ⟨by omega, a4.2.1⟩
    · rw [g2]; exact sB_l ⟨by omega, a2.2⟩
  · rw [if_neg hn] at h
    cases h
    exact sB_l ⟨by omega, a1.2⟩
theorem pret_B {fm ck o : Nat} {res : Nat ⊕ (List Rw × List (List Nat) × Nat × List Nat × Nat)} (ht : txt t n) (hm : m ≠ 0) (hL : L.length ≤ 10) (h2 : tkk t n p = 313) (h : pret t n fm L ck p o = some res) : sB t n m p i L res := by
  have nl : ∀ {p}, tkk t n p ≠ 0 → p < nx t n p ∧ nx t n p ≤ n := fun h => nx_bd ht (tk_lt h)
  have a1 := nl (p := p) (by omega)
  unfold pret at h
  by_cases h4 : fm = 4
  · rw [if_pos h4] at h; cases h; exact sB_l ⟨by omega, by omega⟩
  rw [if_neg h4] at h
  by_cases h22 : fm = 2
  · rw [if_pos h22] at h
    rcases eT_r h with ⟨q, g3, g4⟩ | ⟨r, c, q, g3, ⟨g4, g5⟩ | ⟨g4, g5⟩⟩
    · have := pX_f ht a1.2 g3
      rw [g4]; exact sB_l ⟨by omega, this.2⟩
    · have a4 := pX_b ht a1.2 g3
      have a5 := nl (p := q) (by omega)
      cases g5
      exact sB_1 hm hL (by omega) a5.2 (by simp; omega) (by simp) (by simp; omega)
    · have a4 := pX_b ht a1.2 g3
      rw [g5]; exact sB_l ⟨by omega, a4.2.1⟩
  · rw [if_neg h22] at h
    rcases tT_r h with ⟨g1, g2⟩ | ⟨g1, g2⟩
    · have a2 := nl (p := nx t n p) (by omega)
      cases g2
      exact sB_1 hm hL (by omega) a2.2 (by simp; omega) (by simp) (by simp; omega)
    · rw [g2]; exact sB_l ⟨by omega, a1.2⟩
theorem pchk_B {ck o : Nat} {res : Nat ⊕ (List Rw × List (List Nat) × Nat × List Nat × Nat)} (ht : txt t n) (hm : m ≠ 0) (hL : L.length ≤ 10) (h2 : tkk t n p = 314) (h : pchk t n L ck p o = some res) : sB t n m p i L res := by
  have nl : ∀ {p}, tkk t n p ≠ 0 → p < nx t n p ∧ nx t n p ≤ n := fun h => nx_bd ht (tk_lt h)
  have a1 := nl (p := p) (by omega)
  unfold pchk at h
  rcases eT_r h with ⟨q, g3, g4⟩ | ⟨r, c, q, g3, ⟨g4, g5⟩ | ⟨g4, g5⟩⟩
  · have := pX_f ht a1.2 g3
    rw [g4]; exact sB_l ⟨by omega, this.2⟩
  · have a4 := pX_b ht a1.2 g3
    have a5 := nl (p := q) (by omega)
    cases g5
    exact sB_1 hm hL (by omega) a5.2 (by simp; omega) (by simp) (by simp; omega)
  · have a4 := pX_b ht a1.2 g3
    rw [g5]; exact sB_l ⟨by omega, a4.2.1⟩
theorem plv_B {ck : Nat} {lp : Option Nat} {res : Nat ⊕ (List Rw × List (List Nat) × Nat × List Nat × Nat)} (ht : txt t n) (hm : m ≠ 0) (hL : L.length ≤ 10) (h2 : tkk t n p = 311 ∨ tkk t n p = 312) (h : plv t n L ck p i lp = some res) : sB t n m p i L res := by
  have nl : ∀ {p}, tkk t n p ≠ 0 → p < nx t n p ∧ nx t n p ≤ n := fun h => nx_bd ht (tk_lt h)
  have a1 := nl (p := p) (by omega)
  unfold plv at h
  cases lp with
  | none => cases h; exact sB_l ⟨by omega, by omega⟩
  | some l =>
    rcases tT_r h with ⟨g1, g2⟩ | ⟨g1, g2⟩
    · have a2 := nl (p := nx t n p) (by omega)
      cases g2
      refine sB_1 hm hL (by omega) a2.2 (by simp; omega) ?_ ?_
      · intro j hj
        split at hj
        · simp at hj; simp; omega
        · simp at hj
      · split
        · rename_i h311
          have := tk_break ht h311
          simp; omega
        · simp; omega
    · rw [g2]; exact sB_l ⟨by omega, a1.2⟩
/-- a block -/
theorem pblk_B {g : Pg} {o ck : Nat} {lp : Option Nat} {res : Nat ⊕ (List Rw × List (List Nat) × Nat × List Nat × Nat)} (ht : txt t n) (hp : p ≤ n) (hg : ∀ q o res, q ≤ n → g 0 q o i L ck lp = some res → sB t n 0 q i L res) (h : pblk t n g p o i L ck lp = some res) : (∀ q, res = .inl q → p ≤ q ∧ q ≤ n) ∧ ∀ r L' c b q, res = .inr (r, L', c, b, q) → p + 2 ≤ q ∧ q ≤ n ∧ r.length + p + 2 ≤ q ∧ (∀ j ∈ b, i ≤ j ∧ j < i + r.length) ∧ L'.length ≤ 10 ∧ b.length * 6 + p ≤ q ∧ (∀ x ∈ L, x ∈ L') ∧ ∀ x ∈ L', x ∈ L ∨ ∃ y, tkk t n y = 2 ∧ x = tkm t n y := by
  have nl : ∀ {p}, tkk t n p ≠ 0 → p < nx t n p ∧ nx t n p ≤ n := fun h => nx_bd ht (tk_lt h)
  unfold pblk at h
  by_cases hc : tkk t n p = 123 ∧ o < 12
  · rw [if_pos hc] at h
    have a1 := nl (p := p) (by omega)
    rcases bs_r h with ⟨q, g1, g2⟩ | ⟨r, L1, c, b, q, g1, g2⟩
    · have := (hg _ _ _ a1.2 g1).1 q rfl
      subst g2
      exact ⟨fun q' hh => (by cases hh; omega), fun _ _ _ _ _ hh => by cases hh⟩
    · obtain ⟨b1, b2, b3, b4, b5, b6, b7, b8, b9, b10⟩ := (hg _ _ _ a1.2 g1).2 _ _ _ _ _ rfl
      have a2 := nl (p := q) (by have := b8 rfl; omega)
      cases g2
      refine ⟨fun q' hh => (by cases hh), fun r' L' c' b' q' hh => ?_⟩
      cases hh
      exact ⟨by omega, a2.2, by omega, b5, b6, by omega, b9, b10⟩
  · rw [if_neg hc] at h
    cases h
    exact ⟨fun q' hh => (by cases hh; exact ⟨Nat.le_refl _, hp⟩), fun _ _ _ _ _ hh => by cases hh⟩
theorem pcon_B {o : Nat} {k : List Rw → Nat → Ss} {res : Nat ⊕ (List Rw × List (List Nat) × Nat × List Nat × Nat)} (ht : txt t n) (h2 : tkk t n p ≠ 0) (h : pcon t n L p o k = some res) : (∃ q, res = .inl q ∧ p ≤ q ∧ q ≤ n) ∨ ∃ rc q, p + 4 ≤ q ∧ q ≤ n ∧ rc.length + p + 2 ≤ q ∧ k rc q = some res := by
  have nl : ∀ {p}, tkk t n p ≠ 0 → p < nx t n p ∧ nx t n p ≤ n := fun h => nx_bd ht (tk_lt h)
  have a1 := nl (p := p) h2
  unfold pcon at h
  by_cases hc : tkk t n (nx t n p) = 40 ∧ o < 12
  · rw [if_pos hc] at h
    have a2 := nl (p := nx t n p) (by omega)
    rcases eT_r h with ⟨q, g3, g4⟩ | ⟨r, c, q, g3, ⟨g4, g5⟩ | ⟨g4, g5⟩⟩
    · have := pX_f ht a2.2 g3
      exact Or.inl ⟨q, g4, by omega, this.2⟩
    · have a4 := pX_b ht a2.2 g3
      have a5 := nl (p := q) (by omega)
      exact Or.inr ⟨_, _, by omega, a5.2, by simp; omega, g5⟩
    · have a4 := pX_b ht a2.2 g3
      exact Or.inl ⟨q, g5, by omega, a4.2.1⟩
  · rw [if_neg hc] at h
    cases h
    exact Or.inl ⟨_, rfl, by omega, a1.2⟩
theorem pst_B {fm : Nat} {Nf : List (List Nat)} (ht : txt t n) : ∀ (f m p o i : Nat) (L : List (List Nat)) (ck : Nat) (lp : Option Nat) (res : Nat ⊕ (List Rw × List (List Nat) × Nat × List Nat × Nat)), p ≤ n → L.length ≤ 10 → pst t n fm Nf f m p o i L ck lp = some res → sB t n m p i L res := by
  intro f
  induction f with
  | zero => intro m p o i L ck lp res hp hL h; simp [pst] at h
  | succ f ih =>
    intro m p o i L ck lp res hp hL h
    have nl : ∀ {p}, tkk t n p ≠ 0 → p < nx t n p ∧ nx t n p ≤ n := fun h => nx_bd ht (tk_lt h)
    unfold pst at h
    by_cases hm : m = 0
    · rw [if_pos hm] at h
      by_cases h125 : tkk t n p = 125
      · rw [if_pos h125] at h
        cases h
        refine ⟨fun q' hh => (by cases hh), fun r' L' c' b' q' hh => ?_⟩
        cases hh
        exact ⟨by omega, hp, fun h => absurd hm h, by simp, by simp, hL, by simp, fun _ => h125, fun x hx => hx, fun x hx => Or.inl hx⟩
      · rw [if_neg h125] at h
        rcases bs_r h with ⟨q, g1, g2⟩ | ⟨r, L1, c, b, q, g1, g2⟩
        · have := (ih _ _ _ _ _ _ _ _ hp hL g1).1 q rfl
          rw [g2]; exact sB_l this
        · obtain ⟨b1, b2, b3, b4, b5, b6, b7, b8, b9, b10⟩ := (ih _ _ _ _ _ _ _ _ hp hL g1).2 _ _ _ _ _ rfl
          rcases bs_r g2 with ⟨q2, g3, g4⟩ | ⟨r2, L2, c2, bb, q2, g3, g4⟩
          · have := (ih _ _ _ _ _ _ _ _ b2 b6 g3).1 q2 rfl
            rw [g4]; exact sB_l ⟨by omega, this.2⟩
          · obtain ⟨d1, d2, d3, d4, d5, d6, d7, d8, d9, d10⟩ := (ih _ _ _ _ _ _ _ _ b2 b6 g3).2 _ _ _ _ _ rfl
            cases g4
            refine ⟨fun q' hh => (by cases hh), fun r' L' c' b' q' hh => ?_⟩
            cases hh
            refine ⟨by omega, d2, fun h => absurd hm h, by simp only [List.length_append]; omega, fun j hj => ?_, d6, by simp only [List.length_append]; omega, fun _ => d8 rfl, fun x hx => d9 x (b9 x hx), fun x hx => ?_⟩
            · simp only [List.length_append]
              rcases List.mem_append.mp hj with hj | hj
              · have := b5 j hj; omega
              · have := d5 j hj; omega
            · rcases d10 x hx with hx | hx
              · exact b10 x hx
              · exact Or.inr hx
    rw [if_neg hm] at h
    by_cases h2 : tkk t n p = 2
    · rw [if_pos h2] at h
      exact pnam_B ht hm hL h2 h
    rw [if_neg h2] at h
    by_cases h307 : tkk t n p = 307
    · rw [if_pos h307] at h
      exact plet_B ht hm h307 h
    rw [if_neg h307] at h
    by_cases h308 : tkk t n p = 308
    · rw [if_pos h308] at h
      unfold pif at h
      rcases pcon_B ht (by omega) h with ⟨q, rfl, g2⟩ | ⟨rc, q, c1, c2, c3, h⟩
      · exact sB_l g2
      rcases bs_r h with ⟨q1, g1, g2⟩ | ⟨rb, L1, k1, b, q1, g1, g2⟩
      · have := (pblk_B ht c2 (fun q o res hq hh => ih 0 q o _ L ck lp res hq hL hh) g1).1 q1 rfl
        rw [g2]; exact sB_l ⟨by omega, this.2⟩
      · obtain ⟨b1, b2, b3, b5, b6, b7, b9, b10⟩ := (pblk_B ht c2 (fun q o res hq hh => ih 0 q o _ L ck lp res hq hL hh) g1).2 _ _ _ _ _ rfl
        by_cases h309 : tkk t n q1 = 309
        · rw [if_pos h309] at g2
          have a2 := nl (p := q1) (by omega)
          rcases bs_r g2 with ⟨q2, g3, g4⟩ | ⟨re, L2, k2, bb, q2, g3, g4⟩
          · have := (pblk_B ht a2.2 (fun q o res hq hh => ih 0 q o _ L1 k1 lp res hq b6 hh) g3).1 q2 rfl
            rw [g4]; exact sB_l ⟨by omega, this.2⟩
          · obtain ⟨d1, d2, d3, d5, d6, d7, d9, d10⟩ := (pblk_B ht a2.2 (fun q o res hq hh => ih 0 q o _ L1 k1 lp res hq b6 hh) g3).2 _ _ _ _ _ rfl
            cases g4
            refine ⟨fun q' hh => (by cases hh), fun r' L' c' b' q' hh => ?_⟩
            cases hh
            refine ⟨by omega, d2, fun _ => by omega, by simp only [List.length_append, List.length_cons]; omega, fun j hj => ?_, d6, by simp only [List.length_append]; omega, fun h => absurd h hm, fun x hx => d9 x (b9 x hx), fun x hx => ?_⟩
            · simp only [List.length_append, List.length_cons]
              rcases List.mem_append.mp hj with hj | hj
              · have := b5 j hj; omega
              · have := d5 j hj; omega
            · rcases d10 x hx with hx | hx
              · exact b10 x hx
              · exact Or.inr hx
        · rw [if_neg h309] at g2
          cases g2
          refine ⟨fun q' hh => (by cases hh), fun r' L' c' b' q' hh => ?_⟩
          cases hh
          refine ⟨by omega, b2, fun _ => by omega, by simp only [List.length_append, List.length_cons]; omega, fun j hj => ?_, b6, by omega, fun h => absurd h hm, b9, b10⟩
          simp only [List.length_append, List.length_cons]
          have := b5 j hj
          omega
    rw [if_neg h308] at h
    by_cases h310 : tkk t n p = 310
    · rw [if_pos h310] at h
      unfold pwh at h
      rcases pcon_B ht (by omega) h with ⟨q, rfl, g2⟩ | ⟨rc, q, c1, c2, c3, h⟩
      · exact sB_l g2
      rcases bs_r h with ⟨q1, g1, g2⟩ | ⟨rb, L1, k1, b, q1, g1, g2⟩
      · have := (pblk_B ht c2 (fun q o res hq hh => ih 0 q o _ L ck _ res hq hL hh) g1).1 q1 rfl
        rw [g2]; exact sB_l ⟨by omega, this.2⟩
      · obtain ⟨b1, b2, b3, b5, b6, b7, b9, b10⟩ := (pblk_B ht c2 (fun q o res hq hh => ih 0 q o _ L ck _ res hq hL hh) g1).2 _ _ _ _ _ rfl
        cases g2
        refine ⟨fun q' hh => (by cases hh), fun r' L' c' b' q' hh => ?_⟩
        cases hh
        exact ⟨by omega, b2, fun _ => by omega, by simp only [List.length_append, List.length_cons, List.length_nil, ptc_len]; omega, by simp, b6, by simp; omega, fun h => absurd h hm, b9, b10⟩
    rw [if_neg h310] at h
    by_cases h311 : tkk t n p = 311 ∨ tkk t n p = 312
    · rw [if_pos h311] at h
      exact plv_B ht hm hL h311 h
    rw [if_neg h311] at h
    by_cases h313 : tkk t n p = 313
    · rw [if_pos h313] at h
      exact pret_B ht hm hL h313 h
    rw [if_neg h313] at h
    by_cases h314 : tkk t n p = 314
    · rw [if_pos h314] at h
      exact pchk_B ht hm hL h314 h
    rw [if_neg h314] at h
    cases h
    exact sB_l ⟨Nat.le_refl _, hp⟩
end MSB
/-! more fuel, the same -/
theorem bnd_m {x x' : Rs} {k k' : List Rw → Nat → Nat → Rs} {res : Nat ⊕ (List Rw × Nat × Nat)} (h : bnd x k = some res) (hx : ∀ y, x = some y → x' = some y) (hk : ∀ r c q y, k r c q = some y → k' r c q = some y) : bnd x' k' = some res := by
  unfold bnd at h
  split at h
  · cases h
  · rw [hx _ rfl]; exact h
  · rw [hx _ rfl]; exact hk _ _ _ _ h
theorem ite_m {c : Prop} [Decidable c] {x y x' y' : Rs} {res : Nat ⊕ (List Rw × Nat × Nat)} (h : (if c then x else y) = some res) (h1 : x = some res → x' = some res) (h2 : y = some res → y' = some res) : (if c then x' else y') = some res := by
  by_cases hc : c
  · rw [if_pos hc] at h ⊢; exact h1 h
  · rw [if_neg hc] at h ⊢; exact h2 h
theorem pfac_m {t : Nat → Int32} {n : Nat} {L : List (List Nat)} {g g' : Nat → List Rw → Nat → Nat → Nat → Rs} {p o : Nat} {res : Nat ⊕ (List Rw × Nat × Nat)} (hg : ∀ m r c p o y, g m r c p o = some y → g' m r c p o = some y) (h : pfac t n L g p o = some res) : pfac t n L g' p o = some res := by
  unfold pfac at h ⊢
  refine ite_m h (fun h => ite_m h id (fun h => bnd_m h (hg _ _ _ _ _) (fun _ _ _ _ => id))) (fun h => ite_m h (fun h => ite_m h id (fun h => bnd_m h (hg _ _ _ _ _) (fun _ _ _ _ => id))) (fun h => ite_m h id (fun h => ite_m h id (fun h => ite_m h id (fun h => ite_m h (fun h => ite_m h (fun h => ite_m h id (fun h => bnd_m h (hg _ _ _ _ _) (fun _ _ _ _ => id))) (fun h => ite_m h (fun h => ite_m h id (fun h => ite_m h id (fun h => bnd_m h (hg _ _ _ _ _) (fun _ _ _ _ => id)))) id)) id)))))
theorem px_m1 {t : Nat → Int32} {n : Nat} {L : List (List Nat)} : ∀ (f m : Nat) (r : List Rw) (c p o : Nat) (res : Nat ⊕ (List Rw × Nat × Nat)), px t n L f m r c p o = some res → px t n L (f + 1) m r c p o = some res := by
  intro f
  induction f with
  | zero => intro m r c p o res h; simp [px] at h
  | succ f ih =>
    intro m r c p o res h
    rw [px] at h ⊢
    refine ite_m h (fun h => bnd_m h (fun y => ih _ _ _ _ _ y) (fun _ _ _ y => ih _ _ _ _ _ y)) (fun h => ite_m h (fun h => pfac_m (fun m r c p o y => ih m r c p o y) h) (fun h => ite_m h (fun h => ite_m h (fun h => bnd_m h (fun y => ih _ _ _ _ _ y) (fun _ _ _ y h => ite_m h id (ih _ _ _ _ _ y))) id) (fun h => bnd_m h (fun y => ih _ _ _ _ _ y) (fun _ _ _ y h => ite_m h (ih _ _ _ _ _ y) id))))
theorem px_mo {t : Nat → Int32} {n : Nat} {L : List (List Nat)} {f f' m : Nat} {r : List Rw} {c p o : Nat} {res : Nat ⊕ (List Rw × Nat × Nat)} (h : px t n L f m r c p o = some res) (hf : f ≤ f') : px t n L f' m r c p o = some res := by
  obtain ⟨k, rfl⟩ : ∃ k, f' = f + k := ⟨f' - f, by omega⟩
  clear hf
  induction k with
  | zero => exact h
  | succ k ih => exact px_m1 _ _ _ _ _ _ _ ih
