theorem my_ite {c : Prop} [Decidable c] {α : Type} {P : α → Prop} {a b : α} (h1 : c → P a) (h2 : ¬ c → P b) : P (if c then a else b) := by
  by_cases hc : c
  · rw [if_pos hc]; exact h1 hc
  · rw [if_neg hc]; exact h2 hc
/-! ===== expressions, as they are to be read: (number of the raw step, number, name, place) ===== -/
abbrev Rw := Nat × Int32 × List Nat × Nat
/-- what a reading comes to: a fault's place, or what was made, a count, and the place behind -/
abbrev Rs := Option (Nat ⊕ (List Rw × Nat × Nat))
def bnd (x : Rs) (k : List Rw → Nat → Nat → Rs) : Rs := match x with
  | none => none
  | some (.inl q) => some (.inl q)
  | some (.inr (r, c, q)) => k r c q
/-- rank and code of a sign that joins -/
def rnk (k : Nat) : Nat := if k = 124 then 1 else if k = 38 then 2 else if k = 256 ∨ k = 257 ∨ k = 258 ∨ k = 60 then 3 else if k = 43 ∨ k = 45 then 4 else if k = 42 ∨ k = 47 ∨ k = 37 then 5 else 0
def cod (k : Nat) : Nat := if k = 124 then 21 else if k = 38 then 22 else if k = 256 then 23 else if k = 257 then 24 else if k = 60 then 25 else if k = 258 then 26 else if k = 43 then 27 else if k = 45 then 28 else if k = 42 then 29 else if k = 47 then 30 else 31
def pfac (t : Nat → Int32) (n : Nat) (L : List (List Nat)) (g : Nat → List Rw → Nat → Nat → Nat → Rs) (p o : Nat) : Rs :=
  if tkk t n p = 45 ∨ tkk t n p = 33 then
    if 12 ≤ o then some (.inl p) else bnd (g 5 [] 0 (nx t n p) (o + 1)) (fun r _ q => some (.inr (r ++ [(if tkk t n p = 45 then 19 else 20, 0, [], p)], 0, q)))
  else if tkk t n p = 40 then
    if 12 ≤ o then some (.inl p) else bnd (g 0 [] 0 (nx t n p) (o + 1)) (fun r _ q => if tkk t n q = 41 then some (.inr (r ++ [(206, 0, [], p)], 0, nx t n q)) else some (.inl q))
  else if tkk t n p = 3 then some (.inr ([(1, tkv t n p, [], p)], 0, nx t n p))
  else if tkk t n p = 315 then some (.inr ([(2, 0, [], p)], 0, nx t n p))
  else if tkk t n p = 316 then some (.inr ([(3, 0, [], p)], 0, nx t n p))
  else if tkk t n p = 2 then
    if tkk t n (nx t n p) = 91 then
      if 12 ≤ o then some (.inl (nx t n p)) else bnd (g 0 [] 0 (nx t n (nx t n p)) (o + 1)) (fun r _ q => if tkk t n q = 93 then some (.inr (r ++ [(202, 0, tkm t n p, p)], 0, nx t n q)) else some (.inl q))
    else if tkk t n (nx t n p) = 40 then
      if 12 ≤ o then some (.inl (nx t n p)) else
        if tkk t n (nx t n (nx t n p)) = 41 then some (.inr ([(204, 0, tkm t n p, p)], 0, nx t n (nx t n (nx t n p)))) else
        bnd (g 11 [] 0 (nx t n (nx t n p)) (o + 1)) (fun r c q => some (.inr (r ++ [(204, Int32.ofNat c, tkm t n p, p)], 0, nx t n q)))
    else some (.inr ([(match kwi L (tkm t n p) 0 with | some j => (4, Int32.ofNat j, tkm t n p, p) | none => (200, Int32.ofInt (-1), tkm t n p, p))], 0, nx t n p))
  else some (.inl p)
/-- modes: 0 .. 4 a level, 5 a factor, 6 .. 10 a level's chain behind what is read, 11 what is given to a routine -/
def px (t : Nat → Int32) (n : Nat) (L : List (List Nat)) : Nat → Nat → List Rw → Nat → Nat → Nat → Rs
  | 0, _, _, _, _, _ => none
  | f + 1, m, r, c, p, o =>
    if m < 5 then bnd (px t n L f (m + 1) [] 0 p o) (fun r1 _ q => px t n L f (m + 6) r1 0 q o)
    else if m = 5 then pfac t n L (px t n L f) p o
    else if m < 11 then
      if rnk (tkk t n p) = m - 5 then bnd (px t n L f (m - 5) [] 0 (nx t n p) o) (fun r2 _ q => if m = 8 then some (.inr (r ++ r2 ++ [(cod (tkk t n p), 0, [], p)], 0, q)) else px t n L f m (r ++ r2 ++ [(cod (tkk t n p), 0, [], p)]) 0 q o)
      else some (.inr (r, 0, p))
    else bnd (px t n L f 0 [] 0 p o) (fun r1 _ q => if tkk t n q = 44 then px t n L f 11 (r ++ r1) (c + 1) (nx t n q) o else if tkk t n q = 41 then some (.inr (r ++ r1, c + 1, q)) else some (.inl q))
/-- there is a token -/
theorem tk_lt {t : Nat → Int32} {n p : Nat} (h : tkk t n p ≠ 0) : p < n := by
  refine Decidable.byContradiction (fun hh => h ?_)
  unfold tkk; rw [if_neg hh]
theorem rnk_tk {k : Nat} (h : rnk k ≠ 0) : k ≠ 0 := fun hh => h (by rw [hh]; rfl)
theorem bnd_r {x : Rs} {k : List Rw → Nat → Nat → Rs} {y : List Rw × Nat × Nat} (h : bnd x k = some (.inr y)) : ∃ r c q, x = some (.inr (r, c, q)) ∧ k r c q = some (.inr y) := by
  unfold bnd at h
  split at h
  · cases h
  · cases h
  · exact ⟨_, _, _, rfl, h⟩
theorem bnd_l {x : Rs} {k : List Rw → Nat → Nat → Rs} {q : Nat} (h : bnd x k = some (.inl q)) : x = some (.inl q) ∨ ∃ r c q1, x = some (.inr (r, c, q1)) ∧ k r c q1 = some (.inl q) := by
  unfold bnd at h
  split at h
  · cases h
  · exact Or.inl h
  · exact Or.inr ⟨_, _, _, rfl, h⟩
/-- where it ends, and how much it makes -/
def pxB (n m : Nat) (r : List Rw) (p : Nat) (x : Rs) : Prop := (∀ q, x = some (.inl q) → p ≤ q ∧ q ≤ n) ∧ ∀ r' c q, x = some (.inr (r', c, q)) → p ≤ q ∧ q ≤ n ∧ ((m ≤ 5 ∨ m = 11) → p < q) ∧ r'.length + p ≤ r.length + q
theorem pxB_l {n m p q : Nat} {r : List Rw} (h : p ≤ q ∧ q ≤ n) : pxB n m r p (some (.inl q)) := ⟨fun q' hh => by cases hh; exact h, fun _ _ _ hh => by cases hh⟩
theorem pxB_r {n m p q c : Nat} {r r' : List Rw} (h : p ≤ q ∧ q ≤ n ∧ ((m ≤ 5 ∨ m = 11) → p < q) ∧ r'.length + p ≤ r.length + q) : pxB n m r p (some (.inr (r', c, q))) := ⟨fun q' hh => (by cases hh), fun _ _ _ hh => (by cases hh; exact h)⟩
theorem pxB_b {n m m1 p p1 : Nat} {r r1 : List Rw} {x : Rs} {k : List Rw → Nat → Nat → Rs} (h : pxB n m1 r1 p1 x) (hp : p ≤ p1) (hk : ∀ r' c q, p1 ≤ q → q ≤ n → ((m1 ≤ 5 ∨ m1 = 11) → p1 < q) → r'.length + p1 ≤ r1.length + q → pxB n m r p (k r' c q)) : pxB n m r p (bnd x k) := by
  refine ⟨fun q hq => ?_, fun r' c q hq => ?_⟩
  · rcases bnd_l hq with h1 | ⟨r2, c2, q2, h1, h2⟩
    · have := h.1 q h1; omega
    · obtain ⟨a, b, c, d⟩ := h.2 _ _ _ h1
      exact (hk r2 c2 q2 a b c d).1 q h2
  · obtain ⟨r2, c2, q2, h1, h2⟩ := bnd_r hq
    obtain ⟨a, b, c, d⟩ := h.2 _ _ _ h1
    exact (hk r2 c2 q2 a b c d).2 _ _ _ h2
theorem pfac_bd {t : Nat → Int32} {n : Nat} {L : List (List Nat)} (ht : txt t n) {g : Nat → List Rw → Nat → Nat → Nat → Rs} (ih : ∀ m r c p o, p ≤ n → pxB n m r p (g m r c p o)) {p o : Nat} {r0 : List Rw} (hp : p ≤ n) : pxB n 5 r0 p (pfac t n L g p o) := by
  have nl : ∀ {p}, tkk t n p ≠ 0 → p < nx t n p ∧ nx t n p ≤ n := fun h => nx_bd ht (tk_lt h)
  unfold pfac
  refine my_ite (fun h => ?_) (fun _ => ?_)
  · have h1 := nl (p := p) (by omega)
    refine my_ite (fun _ => pxB_l ⟨Nat.le_refl _, hp⟩) (fun _ => pxB_b (ih 5 [] 0 (nx t n p) (o + 1) h1.2) (by omega) (fun r c q a b c d => pxB_r ⟨by omega, b, fun _ => by omega, ?_⟩))
    simp only [List.length_append, List.length_cons, List.length_nil] at *
    omega
  refine my_ite (fun h => ?_) (fun _ => ?_)
  · have h1 := nl (p := p) (by omega)
    refine my_ite (fun _ => pxB_l ⟨Nat.le_refl _, hp⟩) (fun _ => pxB_b (ih 0 [] 0 (nx t n p) (o + 1) h1.2) (by omega) (fun r c q a b c d => my_ite (fun hq => ?_) (fun _ => pxB_l ⟨by omega, b⟩)))
    have h3 := nl (p := q) (by omega)
    refine pxB_r ⟨by omega, h3.2, fun _ => by omega, ?_⟩
    simp only [List.length_append, List.length_cons, List.length_nil] at *
    omega
  have one : ∀ x : Rw, tkk t n p ≠ 0 → pxB n 5 r0 p (some (.inr ([x], 0, nx t n p))) := fun x h => by
    have h1 := nl (p := p) h
    refine pxB_r ⟨by omega, h1.2, fun _ => h1.1, ?_⟩
    simp only [List.length_cons, List.length_nil]
    omega
  refine my_ite (fun h => one _ (by omega)) (fun _ => ?_)
  refine my_ite (fun h => one _ (by omega)) (fun _ => ?_)
  refine my_ite (fun h => one _ (by omega)) (fun _ => ?_)
  refine my_ite (fun h => ?_) (fun _ => pxB_l ⟨Nat.le_refl _, hp⟩)
  have h1 := nl (p := p) (by omega)
  refine my_ite (fun h9 => ?_) (fun _ => ?_)
  · have h2 := nl (p := nx t n p) (by omega)
    refine my_ite (fun _ => pxB_l ⟨by omega, h1.2⟩) (fun _ => pxB_b (ih 0 [] 0 (nx t n (nx t n p)) (o + 1) h2.2) (by omega) (fun r c q a b c d => my_ite (fun hq => ?_) (fun _ => pxB_l ⟨by omega, b⟩)))
    have h3 := nl (p := q) (by omega)
    refine pxB_r ⟨by omega, h3.2, fun _ => by omega, ?_⟩
    simp only [List.length_append, List.length_cons, List.length_nil] at *
    omega
  refine my_ite (fun h9 => ?_) (fun _ => one _ (by omega))
  have h2 := nl (p := nx t n p) (by omega)
  refine my_ite (fun _ => pxB_l ⟨by omega, h1.2⟩) (fun _ => my_ite (fun h41 => ?_) (fun _ => ?_))
  · have h4 := nl (p := nx t n (nx t n p)) (by omega)
    refine pxB_r ⟨by omega, h4.2, fun _ => by omega, ?_⟩
    simp only [List.length_cons, List.length_nil]
    omega
  · refine pxB_b (ih 11 [] 0 (nx t n (nx t n p)) (o + 1) h2.2) (by omega) (fun r c q a b c d => ?_)
    have h4 := nx_le ht b
    refine pxB_r ⟨by omega, h4.2, fun _ => by omega, ?_⟩
    simp only [List.length_append, List.length_cons, List.length_nil] at *
    omega
theorem px_bd {t : Nat → Int32} {n : Nat} {L : List (List Nat)} (ht : txt t n) : ∀ (f m : Nat) (r : List Rw) (c p o : Nat), p ≤ n → pxB n m r p (px t n L f m r c p o) := by
  intro f
  induction f with
  | zero => intro m r c p o hp; exact ⟨fun _ h => by simp [px] at h, fun _ _ _ h => by simp [px] at h⟩
  | succ f ih =>
    intro m r c p o hp
    unfold px
    refine my_ite (fun hm => ?_) (fun hm => my_ite (fun hm5 => ?_) (fun hm5 => my_ite (fun hm11 => ?_) (fun hm11 => ?_)))
    · refine pxB_b (ih (m + 1) [] 0 p o hp) (Nat.le_refl _) (fun r1 c1 q a b c d => ?_)
      have h2 := ih (m + 6) r1 0 q o b
      refine ⟨fun q' hq => by have := h2.1 q' hq; omega, fun r' c' q' hq => ?_⟩
      obtain ⟨a2, b2, c2, d2⟩ := h2.2 _ _ _ hq
      refine ⟨by omega, b2, fun _ => by have := c (by omega); omega, ?_⟩
      simp only [List.length_nil] at *
      omega
    · subst hm5
      exact pfac_bd ht ih hp
    · refine my_ite (fun hr => ?_) (fun hr => pxB_r ⟨Nat.le_refl _, hp, fun hh => by omega, Nat.le_refl _⟩)
      have hlt := nx_bd ht (tk_lt (rnk_tk (k := tkk t n p) (by omega)))
      refine pxB_b (ih (m - 5) [] 0 (nx t n p) o hlt.2) (by omega) (fun r2 c2 q a b c d => my_ite (fun h8 => ?_) (fun h8 => ?_))
      · refine pxB_r ⟨by omega, b, fun _ => by omega, ?_⟩
        simp only [List.length_append, List.length_cons, List.length_nil] at *
        omega
      · have h2 := ih m (r ++ r2 ++ [(cod (tkk t n p), 0, [], p)]) 0 q o b
        refine ⟨fun q' hq => by have := h2.1 q' hq; omega, fun r' c' q' hq => ?_⟩
        obtain ⟨a2, b2, c2, d2⟩ := h2.2 _ _ _ hq
        refine ⟨by omega, b2, fun _ => by omega, ?_⟩
        simp only [List.length_append, List.length_cons, List.length_nil] at *
        omega
    · refine pxB_b (ih 0 [] 0 p o hp) (Nat.le_refl _) (fun r1 c1 q a b hc d => my_ite (fun h44 => ?_) (fun h44 => my_ite (fun h41 => ?_) (fun h41 => pxB_l ⟨a, b⟩)))
      · have hlt := nx_bd ht (tk_lt (t := t) (n := n) (p := q) (by omega))
        have h2 := ih 11 (r ++ r1) (c + 1) (nx t n q) o hlt.2
        refine ⟨fun q' hq => by have := h2.1 q' hq; omega, fun r' c' q' hq => ?_⟩
        obtain ⟨a2, b2, c2, d2⟩ := h2.2 _ _ _ hq
        refine ⟨by omega, b2, fun _ => by omega, ?_⟩
        simp only [List.length_append, List.length_nil] at *
        omega
      · refine pxB_r ⟨a, b, fun _ => hc (by omega), ?_⟩
        simp only [List.length_append, List.length_nil] at *
        omega
