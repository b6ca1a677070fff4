/-! ===== what the class makes of statements, as it goes ===== -/
/-- place behind, locals, their types, checks, breaks' places, state -/
abbrev Cv := Nat × List (List Nat) × (Nat → Int32) × Nat × List Int32 × St
abbrev Cq := Option (Nat ⊕ Cv)
def ce (x : Cs) (k : Int32 → Nat → St → Cq) : Cq := match x with
  | none => none
  | some (.inl q) => some (.inl q)
  | some (.inr (a, _, q, S)) => k a q S
def bq (x : Cq) (k : Cv → Cq) : Cq := match x with
  | none => none
  | some (.inl q) => some (.inl q)
  | some (.inr v) => k v
def tQ (t : Nat → Int32) (n p due : Nat) (k : Nat → Cq) : Cq := if tkk t n p = due then k (nx t n p) else some (.inl p)
def cE (t : Nat → Int32) (n : Nat) (L : List (List Nat)) (LT : Nat → Int32) (I : List It) (w : Bool) (p o : Nat) (S : St) : Cs := cx t n L LT I w 21100 0 0 0 0 none 0 p o S
/-- a byte changed; where one lands -/
def p1 (k x : Int32) (S : St) : St := if k < 0 then S else if k < 6144 then (S.1, S.2.1, S.2.2.1.set k.toNatClampNeg x, S.2.2.2) else S
def cpl (cF : Int32) (S : St) : Int32 := Int32.ofNat S.2.2.1.length - cF
def lnd (w : Bool) (cF j : Int32) (S : St) : St := if w = true then p1 (j + 1) (bt (cpl cF S) 1) (p1 (j + 0) (bt (cpl cF S) 0) S) else S
/-- a jump is written: where its place stands, and the state -/
def wjS (w : Bool) (c v : Int32) (S : St) : St := wr w v 2 (wr w c 1 S)
def wjP (w : Bool) (c v : Int32) (S : St) : Int32 := Int32.ofNat (wjS w c v S).2.2.1.length - 2
def lnds (w : Bool) (cF : Int32) : List Int32 → St → St
  | [], S => S
  | j :: B, S => lnds w cF B (lnd w cF j S)
def cnam (t : Nat → Int32) (n : Nat) (L : List (List Nat)) (LT : Nat → Int32) (I : List It) (w : Bool) (ck : Nat) (B : List Int32) (p o : Nat) (S : St) : Cq :=
  if tkk t n (nx t n p) = 40 then ce (ccal t n I w (cx t n L LT I w 21100) true (tkm t n p) p (nx t n p) o S) (fun _ q S1 => tQ t n q 59 (fun q1 => some (.inr (q1, L, LT, ck, B, S1))))
  else if tkk t n (nx t n p) = 91 then ce (cidx t n I w (cx t n L LT I w 21100) (tkm t n p) p (nx t n p) o S) (fun _ q S1 => tQ t n q 61 (fun q2 => ce (cE t n L LT I w q2 o S1) (fun a q3 S2 => tQ t n q3 59 (fun q4 => some (.inr (q4, L, LT, ck, B, wnm w 9 (mnt I w (tkm t n p) 1 p S).1 (wf w a 0 q2 S2)))))))
  else match kwi L (tkm t n p) 0 with
    | some j => tQ t n (nx t n p) 61 (fun q2 => ce (cE t n L LT I w q2 o S) (fun a q3 S1 => tQ t n q3 59 (fun q4 => some (.inr (q4, L, LT, ck, B, wr w (Int32.ofNat j) 1 (wr w 5 1 (wf w a (LT j) q2 S1)))))))
    | none => tQ t n (nx t n p) 61 (fun q2 => ce (cE t n L LT I w q2 o (mnt I w (tkm t n p) 0 p S).2) (fun a q3 S1 => tQ t n q3 59 (fun q4 => some (.inr (q4, L, LT, ck, B, wnm w 7 (mnt I w (tkm t n p) 0 p S).1 (wf w a (tyO I (mnt I w (tkm t n p) 0 p S).1) q2 S1))))))
def ltU (LT : Nat → Int32) (k : Nat) (a : Int32) : Nat → Int32 := fun j => if j = k then a else LT j
def clet (t : Nat → Int32) (n : Nat) (L : List (List Nat)) (LT : Nat → Int32) (I : List It) (w : Bool) (Nf : List (List Nat)) (ck : Nat) (B : List Int32) (p o : Nat) (S : St) : Cq :=
  if nwL t n L Nf 10 (nx t n p) = true then tQ t n (nx t n (nx t n p)) 61 (fun q1 => ce (cE t n L LT I w q1 o S) (fun a q2 S1 => tQ t n q2 59 (fun q3 => some (.inr (q3, L ++ [tkm t n (nx t n p)], ltU LT L.length a, ck, B, wr w (Int32.ofNat L.length) 1 (wr w 5 1 S1))))))
  else some (.inl (nx t n p))
def cret (t : Nat → Int32) (n fm : Nat) (ity : Int32) (L : List (List Nat)) (LT : Nat → Int32) (I : List It) (w : Bool) (ck : Nat) (B : List Int32) (p o : Nat) (S : St) : Cq :=
  if fm = 4 then some (.inl p) else
  if fm = 2 then ce (cE t n L LT I w (nx t n p) o S) (fun a q S1 => tQ t n q 59 (fun q1 => some (.inr (q1, L, LT, ck, B, wr w 11 1 (wf w a ity (nx t n p) S1)))))
  else tQ t n (nx t n p) 59 (fun q1 => some (.inr (q1, L, LT, ck, B, wr w 12 1 S)))
def cchk (t : Nat → Int32) (n : Nat) (L : List (List Nat)) (LT : Nat → Int32) (I : List It) (w : Bool) (ck : Nat) (B : List Int32) (p o : Nat) (S : St) : Cq :=
  ce (cE t n L LT I w (nx t n p) o S) (fun a q S1 => tQ t n q 59 (fun q1 => some (.inr (q1, L, LT, ck + 1, B, wr w (Int32.ofNat ck) 1 (wr w 17 1 (wf w a 1 (nx t n p) S1))))))
def clv (t : Nat → Int32) (n : Nat) (L : List (List Nat)) (LT : Nat → Int32) (w : Bool) (ck : Nat) (ls : Int32) (B : List Int32) (p : Nat) (S : St) : Cq :=
  if ls = Int32.ofInt (-1) then some (.inl p) else tQ t n (nx t n p) 59 (fun q => some (.inr (q, L, LT, ck, if tkk t n p = 311 ∧ B.length < 256 then B ++ [wjP w 14 ls S] else B, wjS w 14 ls S)))
/-- (mode, place, open, locals, types, checks, loop's start, breaks, state) -/
abbrev Ch := Nat → Nat → Nat → List (List Nat) → (Nat → Int32) → Nat → Int32 → List Int32 → St → Cq
def cblk (t : Nat → Int32) (n : Nat) (g : Ch) (p o : Nat) (L : List (List Nat)) (LT : Nat → Int32) (ck : Nat) (ls : Int32) (B : List Int32) (S : St) (k : Cv → Cq) : Cq :=
  if tkk t n p = 123 ∧ o < 12 then bq (g 0 (nx t n p) (o + 1) L LT ck ls B S) (fun v => k (nx t n v.1, v.2)) else some (.inl p)
def ccon (t : Nat → Int32) (n : Nat) (L : List (List Nat)) (LT : Nat → Int32) (I : List It) (w : Bool) (p o : Nat) (S : St) (k : Nat → St → Cq) : Cq :=
  if tkk t n (nx t n p) = 40 ∧ o < 12 then ce (cE t n L LT I w (nx t n (nx t n p)) (o + 1) S) (fun a q S1 => if tkk t n q = 41 then k (nx t n q) (wf w a 1 (nx t n (nx t n p)) S1) else some (.inl q)) else some (.inl (nx t n p))
def cif (t : Nat → Int32) (n : Nat) (I : List It) (w : Bool) (cF : Int32) (g : Ch) (p o : Nat) (L : List (List Nat)) (LT : Nat → Int32) (ck : Nat) (ls : Int32) (B : List Int32) (S : St) : Cq :=
  ccon t n L LT I w p o S (fun q S1 => cblk t n g q o L LT ck ls B (wjS w 15 0 S1) (fun v =>
    if tkk t n v.1 = 309 then cblk t n g (nx t n v.1) o v.2.1 v.2.2.1 v.2.2.2.1 ls v.2.2.2.2.1 (lnd w cF (wjP w 15 0 S1) (wjS w 14 0 v.2.2.2.2.2)) (fun u => some (.inr (u.1, u.2.1, u.2.2.1, u.2.2.2.1, u.2.2.2.2.1, lnd w cF (wjP w 14 0 v.2.2.2.2.2) u.2.2.2.2.2)))
    else some (.inr (v.1, v.2.1, v.2.2.1, v.2.2.2.1, v.2.2.2.2.1, lnd w cF (wjP w 15 0 S1) v.2.2.2.2.2))))
def cwh (t : Nat → Int32) (n : Nat) (I : List It) (w : Bool) (cF : Int32) (g : Ch) (p o : Nat) (L : List (List Nat)) (LT : Nat → Int32) (ck : Nat) (B : List Int32) (S : St) : Cq :=
  ccon t n L LT I w p o S (fun q S1 => cblk t n g q o L LT ck (cpl cF S) B (wr w 16 1 (wjS w 15 0 S1)) (fun v =>
    some (.inr (v.1, v.2.1, v.2.2.1, v.2.2.2.1, B, lnds w cF (v.2.2.2.2.1.drop B.length) (lnd w cF (wjP w 15 0 S1) (wjS w 14 (cpl cF S) v.2.2.2.2.2))))))
def cst (t : Nat → Int32) (n fm : Nat) (ity cF : Int32) (I : List It) (w : Bool) (Nf : List (List Nat)) : Nat → Ch
  | 0, _, _, _, _, _, _, _, _, _ => none
  | f + 1, m, p, o, L, LT, ck, ls, B, S =>
    if m = 0 then
      if tkk t n p = 125 then some (.inr (p, L, LT, ck, B, S)) else
      bq (cst t n fm ity cF I w Nf f 1 p o L LT ck ls B S) (fun v => cst t n fm ity cF I w Nf f 0 v.1 o v.2.1 v.2.2.1 v.2.2.2.1 ls v.2.2.2.2.1 v.2.2.2.2.2)
    else if tkk t n p = 2 then cnam t n L LT I w ck B p o S
    else if tkk t n p = 307 then clet t n L LT I w Nf ck B p o S
    else if tkk t n p = 308 then cif t n I w cF (cst t n fm ity cF I w Nf f) p o L LT ck ls B S
    else if tkk t n p = 310 then cwh t n I w cF (cst t n fm ity cF I w Nf f) p o L LT ck B S
    else if tkk t n p = 311 ∨ tkk t n p = 312 then clv t n L LT w ck ls B p S
    else if tkk t n p = 313 then cret t n fm ity L LT I w ck B p o S
    else if tkk t n p = 314 then cchk t n L LT I w ck B p o S
    else some (.inl p)
theorem ce_v {a : Int32} {c q : Nat} {S : St} {k : Int32 → Nat → St → Cq} : ce (some (.inr (a, c, q, S))) k = k a q S := rfl
theorem bc_v {a : Int32} {c q : Nat} {S : St} {k : Int32 → Nat → Nat → St → Cs} : bc (some (.inr (a, c, q, S))) k = k a c q S := rfl
theorem aT_v {r : List Rw} {c q : Nat} {k : List Rw → Nat → Nat → Ss} : aT (some (.inr (r, c, q))) k = k r c q := rfl
/-! they go as pst goes -/
def smv (x : Cq) (y : Ss) : Prop := (x = none ∧ y = none) ∨ (∃ q, x = some (.inl q) ∧ y = some (.inl q)) ∨ ∃ q L LT c B S r b, x = some (.inr (q, L, LT, c, B, S)) ∧ y = some (.inr (r, L, c, b, q))
theorem smv_l {q : Nat} : smv (some (.inl q)) (some (.inl q)) := Or.inr (Or.inl ⟨q, rfl, rfl⟩)
theorem smv_r {q : Nat} {L : List (List Nat)} {LT : Nat → Int32} {c : Nat} {B : List Int32} {S : St} {r : List Rw} {b : List Nat} : smv (some (.inr (q, L, LT, c, B, S))) (some (.inr (r, L, c, b, q))) := Or.inr (Or.inr ⟨_, _, _, _, _, _, _, _, rfl, rfl⟩)
theorem smv_i {c : Prop} [Decidable c] {x x' : Cq} {y y' : Ss} (h1 : c → smv x y) (h2 : ¬ c → smv x' y') : smv (if c then x else x') (if c then y else y') := by
  by_cases hc : c
  · rw [if_pos hc, if_pos hc]; exact h1 hc
  · rw [if_neg hc, if_neg hc]; exact h2 hc
theorem smv_e {t : Nat → Int32} {n due : Nat} {x : Cs} {y : Rs} {k : Int32 → Nat → St → Cq} {k' : List Rw → Nat → Ss} (h : sim x y) (hk : ∀ a c q S r, x = some (.inr (a, c, q, S)) → y = some (.inr (r, c, q)) → smv (k a q S) (if tkk t n q = due then k' r (nx t n q) else some (.inl q))) : smv (ce x k) (eT t n y due k') := by
  rcases h with ⟨rfl, rfl⟩ | ⟨q, rfl, rfl⟩ | ⟨a, c, q, S, r, rfl, rfl⟩
  · exact Or.inl ⟨rfl, rfl⟩
  · exact smv_l
  · exact hk a c q S r rfl rfl
theorem smv_t {t : Nat → Int32} {n p due : Nat} {k : Nat → Cq} {k' : Nat → Ss} (h : tkk t n p = due → smv (k (nx t n p)) (k' (nx t n p))) : smv (tQ t n p due k) (tT t n p due k') := smv_i h (fun _ => smv_l)
theorem smv_t2 {t : Nat → Int32} {n p due : Nat} {k : Nat → Cq} {k' : Ss} (h : tkk t n p = due → smv (k (nx t n p)) k') : smv (tQ t n p due k) (if tkk t n p = due then k' else some (.inl p)) := smv_i h (fun _ => smv_l)
theorem smv_b {x : Cq} {y : Ss} {k : Cv → Cq} {k' : List Rw → List (List Nat) → Nat → List Nat → Nat → Ss} (h : smv x y) (hk : ∀ q L LT c B S r b, x = some (.inr (q, L, LT, c, B, S)) → y = some (.inr (r, L, c, b, q)) → smv (k (q, L, LT, c, B, S)) (k' r L c b q)) : smv (bq x k) (bsq y k') := by
  rcases h with ⟨rfl, rfl⟩ | ⟨q, rfl, rfl⟩ | ⟨q, L, LT, c, B, S, r, b, rfl, rfl⟩
  · exact Or.inl ⟨rfl, rfl⟩
  · exact smv_l
  · exact hk q L LT c B S r b rfl rfl
section MSM
variable {t : Nat → Int32} {n : Nat} {L : List (List Nat)} {LT : Nat → Int32} {I : List It} {w : Bool}
theorem cE_s {p o : Nat} {S : St} : sim (cE t n L LT I w p o S) (pX t n L p o) := cx_px _ _ _ _ _ _ _ _ _ _ _
theorem cnam_s {ck p o : Nat} {B : List Int32} {S : St} (ht : txt t n) (h2 : tkk t n p = 2) : smv (cnam t n L LT I w ck B p o S) (pnam t n L ck p o) := by
  have nl : ∀ {p}, tkk t n p ≠ 0 → p < nx t n p ∧ nx t n p ≤ n := fun h => nx_bd ht (tk_lt h)
  have a1 := nl (p := p) (by omega)
  unfold cnam pnam
  refine smv_i (fun h40 => ?_) (fun h40 => smv_i (fun h91 => ?_) (fun h91 => ?_))
  · have a2 := nl (p := nx t n p) (by omega)
    unfold ccal
    by_cases ho : 12 ≤ o
    · rw [if_pos ho, if_pos ho]; exact smv_l
    · rw [if_neg ho, if_neg ho]
      by_cases h41 : tkk t n (nx t n (nx t n p)) = 41
      · rw [if_pos h41, if_pos h41, ce_v]
        exact smv_t (fun _ => smv_r)
      · rw [if_neg h41, if_neg h41]
        have hs := cx_px (t := t) (n := n) (L := L) (LT := LT) (I := I) (w := w) 21100 11 0 0 0 (mnt I w (tkm t n p) 2 p S).1 0 (nx t n (nx t n p)) (o + 1) (mnt I w (tkm t n p) 2 p S).2 []
        unfold pA
        rcases hs with ⟨g1, g2⟩ | ⟨q, g1, g2⟩ | ⟨a, c, q, S1, r, g1, g2⟩
        · rw [g1, g2]; exact Or.inl ⟨rfl, rfl⟩
        · rw [g1, g2]; exact smv_l
        · rw [g1, g2, bc_v, ce_v, aT_v]
          exact smv_t (fun _ => smv_r)
  · have a2 := nl (p := nx t n p) (by omega)
    unfold cidx
    by_cases ho : 12 ≤ o
    · rw [if_pos ho, if_pos ho]; exact smv_l
    · rw [if_neg ho, if_neg ho]
      have hs : sim (cx t n L LT I w 21100 0 0 0 0 none 0 (nx t n (nx t n p)) (o + 1) (mnt I w (tkm t n p) 1 p S).2) (pX t n L (nx t n (nx t n p)) (o + 1)) := cx_px _ _ _ _ _ _ _ _ _ _ _
      rcases hs with ⟨g1, g2⟩ | ⟨q, g1, g2⟩ | ⟨a, c, q, S1, r, g1, g2⟩
      · rw [g1, g2]; exact Or.inl ⟨rfl, rfl⟩
      · rw [g1, g2]; exact smv_l
      · rw [g1, g2]
        rw [bc_v]
        show smv _ (if tkk t n q = 93 then _ else _)
        by_cases h93 : tkk t n q = 93
        · rw [if_pos h93, if_pos h93, ce_v]
          exact smv_t (fun _ => smv_e cE_s (fun _ _ _ _ _ _ _ => smv_t2 (fun _ => smv_r)))
        · rw [if_neg h93, if_neg h93]; exact smv_l
  · cases kwi L (tkm t n p) 0 with
    | none => exact smv_t (fun _ => smv_e cE_s (fun _ _ _ _ _ _ _ => smv_t2 (fun _ => smv_r)))
    | some j => exact smv_t (fun _ => smv_e cE_s (fun _ _ _ _ _ _ _ => smv_t2 (fun _ => smv_r)))
theorem ccon_s {p o : Nat} {S : St} {k : Nat → St → Cq} {k' : List Rw → Nat → Ss} (hk : ∀ q S1 rc, ml S S1 → smv (k q S1) (k' rc q)) : smv (ccon t n L LT I w p o S k) (pcon t n L p o k') := by
  unfold ccon pcon
  exact smv_i (fun _ => smv_e cE_s (fun a c q S r h1 _ => smv_i (fun _ => hk _ _ _ (ml_t (cx_ml _ _ _ _ _ _ _ _ _ _ _ _ _ _ h1) ml_wf)) (fun _ => smv_l))) (fun _ => smv_l)
theorem cblk_s {g : Ch} {g' : Pg} {p o i ck : Nat} {ls : Int32} {lp : Option Nat} {B : List Int32} {S : St} {k : Cv → Cq} {k' : List Rw → List (List Nat) → Nat → List Nat → Nat → Ss} (hg : smv (g 0 (nx t n p) (o + 1) L LT ck ls B S) (g' 0 (nx t n p) (o + 1) i L ck lp)) (hm : ∀ v, g 0 (nx t n p) (o + 1) L LT ck ls B S = some (.inr v) → ml S v.2.2.2.2.2) (hk : ∀ q L LT c B S1 r b, ml S S1 → smv (k (q, L, LT, c, B, S1)) (k' r L c b q)) : smv (cblk t n g p o L LT ck ls B S k) (bsq (pblk t n g' p o i L ck lp) k') := by
  unfold cblk pblk
  by_cases hc : tkk t n p = 123 ∧ o < 12
  · rw [if_pos hc, if_pos hc]
    rcases hg with ⟨g1, g2⟩ | ⟨q, g1, g2⟩ | ⟨q, L1, LT1, c, B1, S1, r, b, g1, g2⟩
    · rw [g1, g2]; exact Or.inl ⟨rfl, rfl⟩
    · rw [g1, g2]; exact smv_l
    · have hm1 := hm _ g1
      rw [g1, g2]; exact hk _ _ _ _ _ _ _ _ hm1
  · rw [if_neg hc, if_neg hc]; exact smv_l
theorem ml_p1 {k x : Int32} {S : St} : ml S (p1 k x S) := my_ite (P := ml S) (fun _ => ml_r) (fun _ => my_ite (P := ml S) (fun _ => ml_e (by simp)) (fun _ => ml_r))
theorem ml_lnd {cF j : Int32} {S : St} : ml S (lnd w cF j S) := my_ite (P := ml S) (fun _ => ml_t ml_p1 ml_p1) (fun _ => ml_r)
theorem ml_lnds {cF : Int32} : ∀ {B : List Int32} {S : St}, ml S (lnds w cF B S)
  | [], _ => ml_r
  | j :: B, S => ml_t ml_lnd ml_lnds
theorem ml_wjS {c v : Int32} {S : St} : ml S (wjS w c v S) := ml_t ml_wr ml_wr
def mlQ (S : St) (x : Cq) : Prop := ∀ v, x = some (.inr v) → ml S v.2.2.2.2.2
theorem mlQ_l {S : St} {q : Nat} : mlQ S (some (.inl q)) := fun _ h => by cases h
theorem mlQ_v {S : St} {v : Cv} (h : ml S v.2.2.2.2.2) : mlQ S (some (.inr v)) := fun _ hh => by cases hh; exact h
theorem mlQ_e {S S1 : St} {x : Cs} {k : Int32 → Nat → St → Cq} (h0 : ml S S1) (h : mlC S1 x) (hk : ∀ a q S2, ml S S2 → mlQ S (k a q S2)) : mlQ S (ce x k) := fun v hh => by
  unfold ce at hh
  split at hh
  · cases hh
  · cases hh
  · exact hk _ _ _ (ml_t h0 (h _ _ _ _ rfl)) v hh
theorem mlQ_t {S : St} {p due : Nat} {k : Nat → Cq} (h : ∀ q, mlQ S (k q)) : mlQ S (tQ t n p due k) := my_ite (P := mlQ S) (fun _ => h _) (fun _ => mlQ_l)
theorem mlQ_b {S S1 : St} {x : Cq} {k : Cv → Cq} (h0 : ml S S1) (h : mlQ S1 x) (hk : ∀ v, ml S v.2.2.2.2.2 → mlQ S (k v)) : mlQ S (bq x k) := fun v hh => by
  unfold bq at hh
  split at hh
  · cases hh
  · cases hh
  · exact hk _ (ml_t h0 (h _ rfl)) v hh
theorem cE_ml {p o : Nat} {S : St} : mlC S (cE t n L LT I w p o S) := cx_ml _ _ _ _ _ _ _ _ _ _
theorem mlQ_blk {g : Ch} {p o ck : Nat} {ls : Int32} {B : List Int32} {S S1 : St} {k : Cv → Cq} (hg : ∀ m p o L LT ck ls B S, mlQ S (g m p o L LT ck ls B S)) (h0 : ml S S1) (hk : ∀ v, ml S v.2.2.2.2.2 → mlQ S (k v)) : mlQ S (cblk t n g p o L LT ck ls B S1 k) := my_ite (P := mlQ S) (fun _ => mlQ_b h0 (hg _ _ _ _ _ _ _ _ _) (fun v h => hk _ h)) (fun _ => mlQ_l)
theorem mlQ_con {p o : Nat} {S : St} {k : Nat → St → Cq} (hk : ∀ q S1, ml S S1 → mlQ S (k q S1)) : mlQ S (ccon t n L LT I w p o S k) := my_ite (P := mlQ S) (fun _ => mlQ_e ml_r cE_ml (fun _ _ _ h => my_ite (P := mlQ S) (fun _ => hk _ _ (ml_t h ml_wf)) (fun _ => mlQ_l))) (fun _ => mlQ_l)
theorem cst_ml {fm : Nat} {ity cF : Int32} {Nf : List (List Nat)} : ∀ (f m p o : Nat) (L : List (List Nat)) (LT : Nat → Int32) (ck : Nat) (ls : Int32) (B : List Int32) (S : St), mlQ S (cst t n fm ity cF I w Nf f m p o L LT ck ls B S) := by
  intro f
  induction f with
  | zero => intro m p o L LT ck ls B S v h; simp [cst] at h
  | succ f ih =>
    intro m p o L LT ck ls B S
    unfold cst
    refine my_ite (P := mlQ S) (fun _ => my_ite (P := mlQ S) (fun _ => mlQ_v ml_r) (fun _ => mlQ_b ml_r (ih _ _ _ _ _ _ _ _ _) (fun v h => fun _ hh => ml_t h (ih _ _ _ _ _ _ _ _ _ _ hh)))) (fun _ => ?_)
    refine my_ite (P := mlQ S) (fun _ => ?_) (fun _ => ?_)
    · unfold cnam
      refine my_ite (P := mlQ S) (fun _ => mlQ_e ml_r (ccal_ml (cx_ml _)) (fun _ _ _ h => mlQ_t (fun _ => mlQ_v h))) (fun _ => my_ite (P := mlQ S) (fun _ => mlQ_e ml_r (cidx_ml (cx_ml _)) (fun _ _ _ h => mlQ_t (fun _ => mlQ_e h cE_ml (fun _ _ _ h => mlQ_t (fun _ => mlQ_v (ml_t h (ml_t ml_wf ml_wnm))))))) (fun _ => ?_))
      cases kwi L (tkm t n p) 0 with
      | none => exact mlQ_t (fun _ => mlQ_e ml_mnt cE_ml (fun _ _ _ h => mlQ_t (fun _ => mlQ_v (ml_t h (ml_t ml_wf ml_wnm)))))
      | some j => exact mlQ_t (fun _ => mlQ_e ml_r cE_ml (fun _ _ _ h => mlQ_t (fun _ => mlQ_v (ml_t h (ml_t ml_wf (ml_t ml_wr ml_wr))))))
    refine my_ite (P := mlQ S) (fun _ => ?_) (fun _ => ?_)
    · unfold clet
      exact my_ite (P := mlQ S) (fun _ => mlQ_t (fun _ => mlQ_e ml_r cE_ml (fun _ _ _ h => mlQ_t (fun _ => mlQ_v (ml_t h (ml_t ml_wr ml_wr)))))) (fun _ => mlQ_l)
    refine my_ite (P := mlQ S) (fun _ => ?_) (fun _ => ?_)
    · unfold cif
      exact mlQ_con (fun q S1 h => mlQ_blk ih (ml_t h ml_wjS) (fun v h => my_ite (P := mlQ S) (fun _ => mlQ_blk ih (ml_t h (ml_t ml_wjS ml_lnd)) (fun u h => mlQ_v (ml_t h ml_lnd))) (fun _ => mlQ_v (ml_t h ml_lnd))))
    refine my_ite (P := mlQ S) (fun _ => ?_) (fun _ => ?_)
    · unfold cwh
      exact mlQ_con (fun q S1 h => mlQ_blk ih (ml_t h (ml_t ml_wjS ml_wr)) (fun v h => mlQ_v (ml_t h (ml_t ml_wjS (ml_t ml_lnd ml_lnds)))))
    refine my_ite (P := mlQ S) (fun _ => ?_) (fun _ => ?_)
    · unfold clv
      exact my_ite (P := mlQ S) (fun _ => mlQ_l) (fun _ => mlQ_t (fun _ => mlQ_v ml_wjS))
    refine my_ite (P := mlQ S) (fun _ => ?_) (fun _ => ?_)
    · unfold cret
      exact my_ite (P := mlQ S) (fun _ => mlQ_l) (fun _ => my_ite (P := mlQ S) (fun _ => mlQ_e ml_r cE_ml (fun _ _ _ h => mlQ_t (fun _ => mlQ_v (ml_t h (ml_t ml_wf ml_wr))))) (fun _ => mlQ_t (fun _ => mlQ_v ml_wr)))
    refine my_ite (P := mlQ S) (fun _ => ?_) (fun _ => mlQ_l)
    unfold cchk
    exact mlQ_e ml_r cE_ml (fun _ _ _ h => mlQ_t (fun _ => mlQ_v (ml_t h (ml_t ml_wf (ml_t ml_wr ml_wr)))))
/-- the code's beginning lies ahead -/
def cfP (cF : Int32) (S : St) : Prop := ∃ c, cF = Int32.ofNat c ∧ c ≤ S.2.2.1.length ∧ S.2.2.1.length ≤ 6144
theorem cfP_m {cF : Int32} {S S' : St} (h : cfP cF S) (hm : ml S S') : cfP cF S' := by
  obtain ⟨c, h1, h2, h3⟩ := h
  exact ⟨c, h1, by have := hm.1; omega, hm.2 h3⟩
theorem cpl_n {cF : Int32} {S : St} (h : cfP cF S) : ∃ k, cpl cF S = Int32.ofNat k ∧ k ≤ 6144 := by
  obtain ⟨c, h1, h2, h3⟩ := h
  refine ⟨S.2.2.1.length - c, ?_, by omega⟩
  unfold cpl
  rw [h1]
  have : Int32.ofNat S.2.2.1.length = Int32.ofNat (S.2.2.1.length - c) + Int32.ofNat c := by rw [oN_a]; congr 1; omega
  rw [this, Int32.add_sub_cancel]
theorem cpl_0 {cF : Int32} {S : St} (h : cfP cF S) : cpl cF S ≠ Int32.ofInt (-1) := by
  obtain ⟨k, h1, h2⟩ := cpl_n h
  rw [h1]
  intro hh
  have := congrArg Int32.toInt hh
  rw [oN_i (by omega), show (Int32.ofInt (-1)).toInt = -1 from rfl] at this
  omega
/-- the loop's start is there where there is a loop -/
def lsP (ls : Int32) (lp : Option Nat) : Prop := ls = Int32.ofInt (-1) ↔ lp = none
theorem cst_s {fm : Nat} {ity cF : Int32} {Nf : List (List Nat)} (ht : txt t n) : ∀ (f m p o i : Nat) (L : List (List Nat)) (LT : Nat → Int32) (ck : Nat) (ls : Int32) (lp : Option Nat) (B : List Int32) (S : St), lsP ls lp → cfP cF S → smv (cst t n fm ity cF I w Nf f m p o L LT ck ls B S) (pst t n fm Nf f m p o i L ck lp) := by
  intro f
  induction f with
  | zero => intro m p o i L LT ck ls lp B S _ _; exact Or.inl ⟨rfl, rfl⟩
  | succ f ih =>
    intro m p o i L LT ck ls lp B S hls hc
    unfold cst pst
    refine smv_i (fun _ => smv_i (fun _ => smv_r) (fun _ => ?_)) (fun _ => ?_)
    · refine smv_b (ih 1 p o i L LT ck ls lp B S hls hc) (fun q L1 LT1 c1 B1 S1 r b h1 _ => ?_)
      have hs := ih 0 q o (i + r.length) L1 LT1 c1 ls lp B1 S1 hls (cfP_m hc (cst_ml _ _ _ _ _ _ _ _ _ _ _ h1))
      rcases hs with ⟨g1, g2⟩ | ⟨q2, g1, g2⟩ | ⟨q2, L2, LT2, c2, B2, S2, r2, b2, g1, g2⟩
      · simp only []; rw [g1, g2]; exact Or.inl ⟨rfl, rfl⟩
      · simp only []; rw [g1, g2]; exact smv_l
      · simp only []; rw [g1, g2]; exact smv_r
    refine smv_i (fun h2 => cnam_s ht h2) (fun _ => ?_)
    refine smv_i (fun h2 => ?_) (fun _ => ?_)
    · unfold clet plet
      exact smv_i (fun _ => smv_t (fun _ => smv_e cE_s (fun _ _ _ _ _ _ _ => smv_t2 (fun _ => smv_r)))) (fun _ => smv_l)
    refine smv_i (fun h2 => ?_) (fun _ => ?_)
    · unfold cif pif
      refine ccon_s (fun q S1 rc m1 => cblk_s (ih _ _ _ _ _ _ _ _ _ _ _ hls (cfP_m hc (ml_t m1 ml_wjS))) (fun v h => cst_ml _ _ _ _ _ _ _ _ _ _ v h) (fun q1 L1 LT1 c1 B1 S2 rb b m2 => ?_))
      refine smv_i (fun _ => ?_) (fun _ => smv_r)
      exact cblk_s (ih _ _ _ _ _ _ _ _ _ _ _ hls (cfP_m hc (ml_t m1 (ml_t ml_wjS (ml_t m2 (ml_t ml_wjS ml_lnd)))))) (fun v h => cst_ml _ _ _ _ _ _ _ _ _ _ v h) (fun q1 L1 LT1 c1 B1 S2 rb b _ => smv_r)
    refine smv_i (fun h2 => ?_) (fun _ => ?_)
    · unfold cwh pwh
      exact ccon_s (fun q S1 rc m1 => cblk_s (ih _ _ _ _ _ _ _ _ _ _ _ ⟨fun h => absurd h (cpl_0 hc), fun h => by cases h⟩ (cfP_m hc (ml_t m1 (ml_t ml_wjS ml_wr)))) (fun v h => cst_ml _ _ _ _ _ _ _ _ _ _ v h) (fun q1 L1 LT1 c1 B1 S2 rb b _ => smv_r))
    refine smv_i (fun h2 => ?_) (fun _ => ?_)
    · unfold clv plv
      cases lp with
      | none => rw [if_pos (hls.mpr rfl)]; exact smv_l
      | some l =>
        rw [if_neg (fun h => by cases hls.mp h)]
        exact smv_t (fun _ => smv_r)
    refine smv_i (fun h2 => ?_) (fun _ => ?_)
    · unfold cret pret
      exact smv_i (fun _ => smv_l) (fun _ => smv_i (fun _ => smv_e cE_s (fun _ _ _ _ _ _ _ => smv_t2 (fun _ => smv_r))) (fun _ => smv_t (fun _ => smv_r)))
    refine smv_i (fun h2 => ?_) (fun _ => smv_l)
    unfold cchk pchk
    exact smv_e cE_s (fun _ _ _ _ _ _ _ => smv_t2 (fun _ => smv_r))
end MSM
