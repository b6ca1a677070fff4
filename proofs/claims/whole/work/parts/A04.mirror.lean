/-! ===== what the class makes of an expression, as it goes ===== -/
/-- an item: name, form, kind, type, parameters, the parameters' types -/
abbrev It := List Nat × Int32 × Int32 × Int32 × Int32 × (Nat → Int32)
/-- misfit, misfits, the bytes written, the items needed -/
abbrev St := Int32 × Int32 × List Int32 × List Nat
/-- a fault's place, or type, count, the place behind, the state -/
abbrev Cs := Option (Nat ⊕ (Int32 × Nat × Nat × St))
def bc (x : Cs) (k : Int32 → Nat → Nat → St → Cs) : Cs := match x with
  | none => none
  | some (.inl q) => some (.inl q)
  | some (.inr (a, c, q, S)) => k a c q S
def bt (x j : Int32) : Int32 := ((((x).toUInt32 >>> (((8 * j) : Int32).toUInt32 &&& Int32.toUInt32 31)).toInt32 : Int32).toInt8.toInt32 : Int32).toInt8.toInt32
def w1 (x : Int32) (S : St) : St := if S.2.2.1.length < 6144 then (S.1, S.2.1, S.2.2.1 ++ [x], S.2.2.2) else S
def wn (x : Int32) : Nat → Nat → St → St
  | 0, _, S => S
  | k + 1, j, S => wn x k (j + 1) (w1 (bt x (Int32.ofNat j)) S)
def wr (w : Bool) (x : Int32) (k : Nat) (S : St) : St := if w = true then wn x k 0 S else S
def wmm (pl : Nat) (x : Int32) : Int32 := if x = Int32.ofInt (-1) then Int32.ofNat pl else if Int32.ofNat pl < x then Int32.ofNat pl else x
def wm (w : Bool) (pl : Nat) (S : St) : St := if w = true then (wmm pl S.1, S.2.1 + 1, S.2.2) else S
def wf (w : Bool) (a b : Int32) (pl : Nat) (S : St) : St := if a = 3 then S else if b = 3 then S else if a = b then S else wm w pl S
def ix : List Nat → Nat → Nat → Option Nat
  | [], _, _ => none
  | a :: l, x, j => if a = x then some j else ix l x (j + 1)
def nid (N : List Nat) (x : Nat) : Nat × List Nat := match ix N x 0 with
  | some k => (k, N)
  | none => if N.length < 30 then (N.length, N ++ [x]) else (29, N)
def ndS (x : Nat) (S : St) : St := (S.1, S.2.1, S.2.2.1, (nid S.2.2.2 x).2)
def wnm (w : Bool) (c : Int32) (r : Option Nat) (S : St) : St := if w = true then (match r with
  | none => S
  | some x => wn (Int32.ofNat (nid (wn c 1 0 S).2.2.2 x).1) 1 0 (ndS x (wn c 1 0 S))) else S
def itK (I : List It) (nm : List Nat) : Option Nat := kwi (I.map (fun i => i.1)) nm 0
def itA (I : List It) (k : Nat) : It := (I[k]?).getD ([], 0, 0, 0, 0, fun _ => 0)
def mnt (I : List It) (w : Bool) (nm : List Nat) (kd : Int32) (pl : Nat) (S : St) : Option Nat × St := match itK I nm with
  | none => (none, wm w pl S)
  | some k => if (itA I k).2.2.1 = kd then (some k, S) else (none, wm w pl S)
def pty (I : List It) (r : Option Nat) (c : Nat) : Int32 := match r with
  | none => 3
  | some k => if Int32.ofNat c < (itA I k).2.2.2.2.1 then (if c < 4 then (itA I k).2.2.2.2.2 c else 3) else 3
def tyO (I : List It) (r : Option Nat) : Int32 := match r with
  | none => 3
  | some k => (itA I k).2.2.2.1
def cenS (I : List It) (w as : Bool) (k c pl : Nat) (S : St) : St := wnm w 10 (some k) (if Int32.ofNat c = (itA I k).2.2.2.2.1 ∧ as = decide ((itA I k).2.1 = 3) then S else wm w pl S)
def cend (I : List It) (w as : Bool) (r : Option Nat) (c pl : Nat) (b : Int32) (S : St) : Int32 × St := match r with
  | none => (3, S)
  | some k => (if (cenS I w as k c pl S).2.1 = b then (itA I k).2.2.2.1 else 3, cenS I w as k c pl S)
/-- what is wanted on both sides of a sign -/
def wtd (k : Nat) (ty : Int32) : Int32 := if cod k = 23 ∨ cod k = 24 then ty else if 22 < cod k then 0 else 1
def chS (w : Bool) (k : Nat) (wt ty2 : Int32) (pl : Nat) (S : St) : St := wr w (Int32.ofNat (cod k)) 1 (wf w ty2 wt pl S)
def chT (k : Nat) (b : Int32) (S : St) : Int32 := if S.2.1 = b then (if 26 < cod k then 0 else 1) else 3
abbrev Cg := Nat → Int32 → Int32 → Nat → Option Nat → Nat → Nat → Nat → St → Cs
def ccal (t : Nat → Int32) (n : Nat) (I : List It) (w : Bool) (g : Cg) (as : Bool) (nm : List Nat) (pl q o : Nat) (S : St) : Cs :=
  if 12 ≤ o then some (.inl q) else
  if tkk t n (nx t n q) = 41 then some (.inr ((cend I w as (mnt I w nm 2 pl S).1 0 pl S.2.1 (mnt I w nm 2 pl S).2).1, 0, nx t n (nx t n q), (cend I w as (mnt I w nm 2 pl S).1 0 pl S.2.1 (mnt I w nm 2 pl S).2).2)) else
  bc (g 11 0 0 0 (mnt I w nm 2 pl S).1 0 (nx t n q) (o + 1) (mnt I w nm 2 pl S).2) (fun _ c q1 S1 => some (.inr ((cend I w as (mnt I w nm 2 pl S).1 c pl S.2.1 S1).1, 0, nx t n q1, (cend I w as (mnt I w nm 2 pl S).1 c pl S.2.1 S1).2)))
def cidx (t : Nat → Int32) (n : Nat) (I : List It) (w : Bool) (g : Cg) (nm : List Nat) (pl q o : Nat) (S : St) : Cs :=
  if 12 ≤ o then some (.inl q) else
  bc (g 0 0 0 0 none 0 (nx t n q) (o + 1) (mnt I w nm 1 pl S).2) (fun ty _ q1 S1 => if tkk t n q1 = 93 then some (.inr (0, 0, nx t n q1, wf w ty 0 (nx t n q) S1)) else some (.inl q1))
def sgS (w : Bool) (k : Nat) (ty : Int32) (pl : Nat) (S : St) : St := wr w (if k = 45 then 19 else 20) 1 (wf w ty (if k = 45 then 0 else 1) pl S)
def cfac (t : Nat → Int32) (n : Nat) (L : List (List Nat)) (LT : Nat → Int32) (I : List It) (w : Bool) (g : Cg) (p o : Nat) (S : St) : Cs :=
  if tkk t n p = 45 ∨ tkk t n p = 33 then
    if 12 ≤ o then some (.inl p) else bc (g 5 0 0 0 none 0 (nx t n p) (o + 1) S) (fun ty _ q S1 => some (.inr (if (sgS w (tkk t n p) ty (nx t n p) S1).2.1 = S.2.1 then (if tkk t n p = 45 then 0 else 1) else 3, 0, q, sgS w (tkk t n p) ty (nx t n p) S1)))
  else if tkk t n p = 40 then
    if 12 ≤ o then some (.inl p) else bc (g 0 0 0 0 none 0 (nx t n p) (o + 1) S) (fun ty _ q S1 => if tkk t n q = 41 then some (.inr (ty, 0, nx t n q, S1)) else some (.inl q))
  else if tkk t n p = 3 then some (.inr (0, 0, nx t n p, wr w (tkv t n p) 4 (wr w 1 1 S)))
  else if tkk t n p = 315 then some (.inr (1, 0, nx t n p, wr w 2 1 S))
  else if tkk t n p = 316 then some (.inr (1, 0, nx t n p, wr w 3 1 S))
  else if tkk t n p = 2 then
    if tkk t n (nx t n p) = 91 then
      bc (cidx t n I w g (tkm t n p) p (nx t n p) o S) (fun _ _ q S1 => some (.inr (if (wnm w 8 (mnt I w (tkm t n p) 1 p S).1 S1).2.1 = S.2.1 then 0 else 3, 0, q, wnm w 8 (mnt I w (tkm t n p) 1 p S).1 S1)))
    else if tkk t n (nx t n p) = 40 then ccal t n I w g false (tkm t n p) p (nx t n p) o S
    else match kwi L (tkm t n p) 0 with
      | some j => some (.inr (LT j, 0, nx t n p, wr w (Int32.ofNat j) 1 (wr w 4 1 S)))
      | none => some (.inr (tyO I (mnt I w (tkm t n p) 0 p S).1, 0, nx t n p, wnm w 6 (mnt I w (tkm t n p) 0 p S).1 (mnt I w (tkm t n p) 0 p S).2))
  else some (.inl p)
/-- modes as in px; (mode, type so far, misfits before, the level's place, routine, count, place, open, state) -/
def cx (t : Nat → Int32) (n : Nat) (L : List (List Nat)) (LT : Nat → Int32) (I : List It) (w : Bool) : Nat → Cg
  | 0, _, _, _, _, _, _, _, _, _ => none
  | f + 1, m, ty, b, pl, rt, c, p, o, S =>
    if m < 5 then bc (cx t n L LT I w f (m + 1) 0 0 0 none 0 p o S) (fun ty1 _ q S1 => cx t n L LT I w f (m + 6) ty1 S.2.1 p none 0 q o S1)
    else if m = 5 then cfac t n L LT I w (cx t n L LT I w f) p o S
    else if m < 11 then
      if rnk (tkk t n p) = m - 5 then bc (cx t n L LT I w f (m - 5) 0 0 0 none 0 (nx t n p) o (wf w ty (wtd (tkk t n p) ty) pl S)) (fun ty2 _ q S2 => if m = 8 then some (.inr (chT (tkk t n p) b (chS w (tkk t n p) (wtd (tkk t n p) ty) ty2 (nx t n p) S2), 0, q, chS w (tkk t n p) (wtd (tkk t n p) ty) ty2 (nx t n p) S2)) else cx t n L LT I w f m (chT (tkk t n p) b (chS w (tkk t n p) (wtd (tkk t n p) ty) ty2 (nx t n p) S2)) b pl none 0 q o (chS w (tkk t n p) (wtd (tkk t n p) ty) ty2 (nx t n p) S2))
      else some (.inr (ty, 0, p, S))
    else bc (cx t n L LT I w f 0 0 0 0 none 0 p o S) (fun ty1 _ q S1 => if tkk t n q = 44 then cx t n L LT I w f 11 0 0 0 rt (c + 1) (nx t n q) o (wf w ty1 (pty I rt c) p S1) else if tkk t n q = 41 then some (.inr (0, c + 1, q, wf w ty1 (pty I rt c) p S1)) else some (.inl q))
/-! the class's memory -/
def CS (L : List (List Nat)) (LT : Nat → Int32) (I : List It) (w : Bool) (rv cu : Nat) (σ : my_S) : Prop :=
  (σ.1 39 3 = if w = true then 1 else 0) ∧ (σ.1 39 8 = Int32.ofNat L.length ∧ L.length ≤ 10 ∧ (∀ l ∈ L, isN l) ∧ (∀ j l, L[j]? = some l → σ.2.1 40 j = nmC l) ∧ ∀ j, j < 10 → σ.1 41 j = LT j)
  ∧ (σ.2.2 39 1 = some rv ∧ (rv = 108 ∨ rv = 238 ∨ rv = 368) ∧ σ.2.2 39 2 = some (rv + 4 + 3 * cu) ∧ cu < 42)
  ∧ (σ.1 rv 3 = Int32.ofNat I.length ∧ I.length ≤ 42 ∧ (∀ k, k < 42 → σ.2.2 (rv + 2) k = some (rv + 4 + 3 * k)) ∧ ∀ k it, I[k]? = some it → isN it.1 ∧ σ.2.1 (rv + 4 + 3 * k) 4 = nmC it.1 ∧ σ.1 (rv + 4 + 3 * k) 0 = it.2.1 ∧ σ.1 (rv + 4 + 3 * k) 1 = it.2.2.1 ∧ σ.1 (rv + 4 + 3 * k) 7 = it.2.2.2.1 ∧ σ.1 (rv + 4 + 3 * k) 5 = it.2.2.2.2.1 ∧ ∀ j, j < 4 → σ.1 (rv + 4 + 3 * k + 1) j = it.2.2.2.2.2 j)
def CD (rv cu : Nat) (S : St) (σ : my_S) : Prop := σ.1 39 4 = S.1 ∧ σ.1 39 5 = S.2.1 ∧ (σ.1 rv 1 = Int32.ofNat S.2.2.1.length ∧ S.2.2.1.length ≤ 6144 ∧ ∀ i x, S.2.2.1[i]? = some x → σ.1 (rv + 1) i = x)
  ∧ (σ.1 (rv + 4 + 3 * cu) 14 = Int32.ofNat S.2.2.2.length ∧ S.2.2.2.length ≤ 30 ∧ ∀ i x, S.2.2.2[i]? = some x → x < 42 ∧ σ.2.2 (rv + 4 + 3 * cu + 2) i = some (rv + 4 + 3 * x))
def xF (rv cu c k : Nat) : Prop := (c = 33 ∧ (k = 6 ∨ 8 ≤ k)) ∨ (c = 39 ∧ (k = 4 ∨ k = 5 ∨ k = 9)) ∨ (c = rv ∧ k = 1) ∨ c = rv + 1 ∨ (c = rv + 4 + 3 * cu ∧ k = 14) ∨ c = rv + 4 + 3 * cu + 2
def CR (t : Nat → Int32) (n : Nat) (L : List (List Nat)) (LT : Nat → Int32) (I : List It) (w : Bool) (rv cu : Nat) (S : St) (p o : Nat) (σ : my_S) : Prop := clT t n p σ ∧ σ.1 39 9 = Int32.ofNat o ∧ CS L LT I w rv cu σ ∧ CD rv cu S σ
theorem CS_o {F : Nat → Nat → Prop} {L : List (List Nat)} {LT : Nat → Int32} {I : List It} {w : Bool} {rv cu : Nat} {σ σ' : my_S} (h : CS L LT I w rv cu σ) (he : eqp F σ σ') (hF : ∀ c k, F c k → xF rv cu c k) : CS L LT I w rv cu σ' := by
  obtain ⟨h1, ⟨h2, h3, h4, h5, h6⟩, ⟨h7, h8, h9, h10⟩, ⟨h11, h12, h13, h14⟩⟩ := h
  have g : ∀ {c k}, ¬ xF rv cu c k → σ'.1 c k = σ.1 c k ∧ σ'.2.1 c k = σ.2.1 c k ∧ σ'.2.2 c k = σ.2.2 c k := fun hn => he _ _ (fun hh => hn (hF _ _ hh))
  refine ⟨(g (by unfold xF; omega)).1.trans h1, ⟨(g (by unfold xF; omega)).1.trans h2, h3, h4, fun j l hj => (g (by unfold xF; omega)).2.1.trans (h5 j l hj), fun j hj => (g (by unfold xF; omega)).1.trans (h6 j hj)⟩, ⟨(g (by unfold xF; omega)).2.2.trans h7, h8, (g (by unfold xF; omega)).2.2.trans h9, h10⟩, ⟨(g (by unfold xF; omega)).1.trans h11, h12, fun k hk => (g (by unfold xF; omega)).2.2.trans (h13 k hk), fun k it hk => ?_⟩⟩
  obtain ⟨a1, a2, a3, a4, a5, a6, a7⟩ := h14 k it hk
  exact ⟨a1, (g (by unfold xF; omega)).2.1.trans a2, (g (by unfold xF; omega)).1.trans a3, (g (by unfold xF; omega)).1.trans a4, (g (by unfold xF; omega)).1.trans a5, (g (by unfold xF; omega)).1.trans a6, fun j hj => (g (by unfold xF; omega)).1.trans (a7 j hj)⟩
def dF (rv cu c k : Nat) : Prop := (c = 39 ∧ (k = 4 ∨ k = 5)) ∨ (c = rv ∧ k = 1) ∨ c = rv + 1 ∨ (c = rv + 4 + 3 * cu ∧ k = 14) ∨ c = rv + 4 + 3 * cu + 2
theorem CD_o {F : Nat → Nat → Prop} {rv cu : Nat} {S : St} {σ σ' : my_S} (h : CD rv cu S σ) (he : eqp F σ σ') (hF : ∀ c k, F c k → ¬ dF rv cu c k) : CD rv cu S σ' := by
  obtain ⟨h1, h2, ⟨h3, h4, h5⟩, ⟨h6, h7, h8⟩⟩ := h
  have g : ∀ {c k}, dF rv cu c k → σ'.1 c k = σ.1 c k ∧ σ'.2.1 c k = σ.2.1 c k ∧ σ'.2.2 c k = σ.2.2 c k := fun hn => he _ _ (fun hh => hF _ _ hh hn)
  refine ⟨(g (by unfold dF; omega)).1.trans h1, (g (by unfold dF; omega)).1.trans h2, ⟨(g (by unfold dF; omega)).1.trans h3, h4, fun i x hx => (g (by unfold dF; omega)).1.trans (h5 i x hx)⟩, ⟨(g (by unfold dF; omega)).1.trans h6, h7, fun i x hx => ⟨(h8 i x hx).1, (g (by unfold dF; omega)).2.2.trans (h8 i x hx).2⟩⟩⟩
theorem in10 {rv : Nat} (h : rv = 108 ∨ rv = 238 ∨ rv = 368) : my_in 10 rv := by
  unfold my_in
  rcases h with rfl | rfl | rfl <;> decide +kernel
def in11c (rv : Nat) : Bool := (List.range 42).all (fun k => decide (my_lay (rv + 4 + 3 * k) = some (.inl 11)))
theorem in11 {rv k : Nat} (h : rv = 108 ∨ rv = 238 ∨ rv = 368) (hk : k < 42) : my_in 11 (rv + 4 + 3 * k) := by
  have hc : in11c rv = true := by rcases h with rfl | rfl | rfl <;> decide +kernel
  unfold my_in
  unfold in11c at hc
  rw [List.all_eq_true] at hc
  have h2 := hc k (List.mem_range.mpr hk)
  exact of_decide_eq_true h2
