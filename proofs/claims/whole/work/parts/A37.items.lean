
/-! ===== items, as they are to be read ===== -/
/-- form, name, type, value at first, the constant's type and place, the parameters' types, locals, raw steps -/
abbrev Ri := Nat × List Nat × Int32 × Int32 × Int32 × Nat × List Int32 × List (List Nat) × List Rw
abbrev riF (a : Ri) : Nat := a.1
abbrev riN (a : Ri) : List Nat := a.2.1
abbrev riT (a : Ri) : Int32 := a.2.2.1
abbrev riV (a : Ri) : Int32 := a.2.2.2.1
abbrev riC (a : Ri) : Int32 := a.2.2.2.2.1
abbrev riP (a : Ri) : Nat := a.2.2.2.2.2.1
abbrev riQ (a : Ri) : List Int32 := a.2.2.2.2.2.2.1
abbrev riL (a : Ri) : List (List Nat) := a.2.2.2.2.2.2.2.1
abbrev riR (a : Ri) : List Rw := a.2.2.2.2.2.2.2.2
/-- the kind of a form; how many there may be; how many there are -/
def kdf (f : Nat) : Nat := if f ≤ 2 then f else f - 1
def mst (k : Nat) : Nat := if k = 0 then 10 else if k = 1 then 4 else if k = 2 then 16 else 12
def cnK : List Ri → Nat → Nat
  | [], _ => 0
  | a :: r, k => (if kdf a.1 = k then 1 else 0) + cnK r k
theorem cnK_a {k : Nat} : ∀ {A B : List Ri}, cnK (A ++ B) k = cnK A k + cnK B k
  | [], B => by simp [cnK]
  | a :: A, B => by rw [List.cons_append, cnK, cnK, cnK_a]; omega
def rno (As : List Ri) : List (List Nat) := As.map (fun a => a.2.1)
/-- a type that stands there -/
def tyq (t : Nat → Int32) (n p : Nat) : Option Int32 := if tkk t n p = 305 then some 0 else if tkk t n p = 306 then some 1 else none
abbrev Rj := Nat ⊕ (Ri × Nat)
def pg4 (t : Nat → Int32) (n : Nat) (nm : List Nat) (ty v ct : Int32) (cp q : Nat) : Rj := if tkk t n q = 59 then .inr ((0, nm, ty, v, ct, cp, [], [], []), nx t n q) else .inl q
def pg3 (t : Nat → Int32) (n : Nat) (nm : List Nat) (ty : Int32) (p : Nat) : Rj :=
  if tkk t n p = 315 then pg4 t n nm ty 1 1 p (nx t n p)
  else if tkk t n p = 316 then pg4 t n nm ty 0 1 p (nx t n p)
  else if tkk t n p = 3 then pg4 t n nm ty (tkv t n p) 0 p (nx t n p)
  else if tkk t n p = 45 then (if tkk t n (nx t n p) = 3 then pg4 t n nm ty (-(tkv t n (nx t n p))) 0 p (nx t n (nx t n p)) else .inl (nx t n p))
  else .inl p
def pg2 (t : Nat → Int32) (n : Nat) (nm : List Nat) (p : Nat) : Rj := match tyq t n p with
  | none => .inl p
  | some ty => if tkk t n (nx t n p) = 61 then pg3 t n nm ty (nx t n (nx t n p)) else .inl (nx t n p)
def pgl (t : Nat → Int32) (n : Nat) (nm : List Nat) (p : Nat) : Rj := if tkk t n p = 58 then pg2 t n nm (nx t n p) else .inl p
def pr3 (t : Nat → Int32) (n : Nat) (nm : List Nat) (v : Int32) (p : Nat) : Rj :=
  if tkk t n p = 93 then (if tkk t n (nx t n p) = 59 then .inr ((1, nm, 2, v, 0, 0, [], [], []), nx t n (nx t n p)) else .inl (nx t n p)) else .inl p
def par (t : Nat → Int32) (n : Nat) (nm : List Nat) (p : Nat) : Rj :=
  if tkk t n p = 91 then (if tkk t n (nx t n p) = 3 ∧ ¬ tkv t n (nx t n p) < 1 ∧ ¬ (32 : Int32) < tkv t n (nx t n p) then pr3 t n nm (tkv t n (nx t n p)) (nx t n (nx t n p)) else .inl (nx t n p)) else .inl p
/-- parameters -/
abbrev Rp := Nat ⊕ (List (List Nat) × List Int32 × Nat)
def pp2 (t : Nat → Int32) (n : Nat) (p : Nat) (k : Int32 → Nat → Rp) : Rp := if tkk t n p = 58 then (match tyq t n (nx t n p) with
  | none => .inl (nx t n p)
  | some a => k a (nx t n (nx t n p))) else .inl p
def ppr (t : Nat → Int32) (n : Nat) (Nf : List (List Nat)) : Nat → Nat → List (List Nat) → List Int32 → Rp
  | 0, p, _, _ => .inl p
  | f + 1, p, L, T => if nwL t n L Nf 4 p = true then pp2 t n (nx t n p) (fun a q => if tkk t n q = 44 then ppr t n Nf f (nx t n q) (L ++ [tkm t n p]) (T ++ [a]) else if tkk t n q = 41 then .inr (L ++ [tkm t n p], T ++ [a], nx t n q) else .inl q) else .inl p
def ppl (t : Nat → Int32) (n : Nat) (Nf : List (List Nat)) (fm p : Nat) : Rp :=
  if fm = 4 then .inr ([], [], p) else if tkk t n p = 40 then (if tkk t n (nx t n p) = 41 then .inr ([], [], nx t n (nx t n p)) else ppr t n Nf 5 (nx t n p) [] []) else .inl p
/-- the steps at the end -/
def ptl (fm : Nat) (ty : Int32) : List Rw := if fm = 2 then [(if ty = 0 then 1 else 3, 0, [], 0), (11, 0, [], 0)] else if fm = 3 then [(12, 0, [], 0)] else [(13, 0, [], 0)]
def pb3 (nm : List Nat) (fm : Nat) (ty : Int32) (T : List Int32) (x : Ss) : Rj := match x with
  | none => .inl 0
  | some (.inl q) => .inl q
  | some (.inr (r, L, _, _, q)) => .inr ((fm, nm, ty, 0, 0, 0, T, L, r ++ ptl fm ty), q)
def pS (t : Nat → Int32) (n fm : Nat) (Nf : List (List Nat)) : Pg := pst t n fm Nf 3002
def pb2 (t : Nat → Int32) (n : Nat) (nm : List Nat) (Nf : List (List Nat)) (fm i : Nat) (L : List (List Nat)) (T : List Int32) (ty : Int32) (p : Nat) : Rj := pb3 nm fm ty T (pblk t n (pS t n fm Nf) p 0 i L 0 none)
def pb1 (t : Nat → Int32) (n : Nat) (nm : List Nat) (Nf : List (List Nat)) (fm i : Nat) (L : List (List Nat)) (T : List Int32) (p : Nat) : Rj :=
  if fm = 2 then (if tkk t n p = 58 then (match tyq t n (nx t n p) with
    | none => .inl (nx t n p)
    | some ty => pb2 t n nm Nf fm i L T ty (nx t n (nx t n p))) else .inl p)
  else pb2 t n nm Nf fm i L T 2 p
def pbd (t : Nat → Int32) (n : Nat) (nm : List Nat) (Nf : List (List Nat)) (fm i p : Nat) : Rj := match ppl t n Nf fm p with
  | .inl q => .inl q
  | .inr (L, T, q) => pb1 t n nm Nf fm i L T q
def pi2 (t : Nat → Int32) (n : Nat) (NL : List (List Nat)) (fm i : Nat) (nm : List Nat) (p : Nat) : Rj := if fm = 0 then pgl t n nm p else if fm = 1 then par t n nm p else pbd t n nm (NL ++ [nm]) fm i p
/-- one item -/
def pit (t : Nat → Int32) (n : Nat) (As : List Ri) (i p : Nat) : Rj :=
  if 300 ≤ tkk t n p ∧ tkk t n p ≤ 304 then
    if tkk t n (nx t n p) = 2 ∧ kwi (rno As) (tkm t n (nx t n p)) 0 = none ∧ cnK As (kdf (tkk t n p - 300)) < mst (kdf (tkk t n p - 300)) then pi2 t n (rno As) (tkk t n p - 300) i (tkm t n (nx t n p)) (nx t n (nx t n p))
    else .inl (nx t n p)
  else .inl p
/-- all of them -/
def pis (t : Nat → Int32) (n : Nat) : Nat → List Ri → Nat → Nat → Nat ⊕ List Ri
  | 0, _, _, p => .inl p
  | f + 1, As, i, p => match pit t n As i p with
    | .inl q => .inl q
    | .inr (a, q) => if tkk t n q = 0 then .inr (As ++ [a]) else pis t n f (As ++ [a]) (i + (riR a).length) q
/-! bounds -/
theorem tyq_t {t : Nat → Int32} {n p : Nat} {a : Int32} (h : tyq t n p = some a) : (tkk t n p = 305 ∧ a = 0) ∨ (tkk t n p = 306 ∧ a = 1) := by
  unfold tyq at h
  by_cases h1 : tkk t n p = 305
  · rw [if_pos h1] at h; cases h; exact Or.inl ⟨h1, rfl⟩
  · rw [if_neg h1] at h
    by_cases h2 : tkk t n p = 306
    · rw [if_pos h2] at h; cases h; exact Or.inr ⟨h2, rfl⟩
    · rw [if_neg h2] at h; cases h
theorem tyq_n {t : Nat → Int32} {n p : Nat} (h : tyq t n p = none) : tkk t n p ≠ 305 ∧ tkk t n p ≠ 306 := by
  unfold tyq at h
  by_cases h1 : tkk t n p = 305
  · rw [if_pos h1] at h; cases h
  · rw [if_neg h1] at h
    by_cases h2 : tkk t n p = 306
    · rw [if_pos h2] at h; cases h
    · exact ⟨h1, h2⟩
/-- what an item is, where it ends -/
def itB (t : Nat → Int32) (n p fm : Nat) (nm : List Nat) (x : Rj) : Prop := (∀ q, x = .inl q → p ≤ q ∧ q ≤ n) ∧ ∀ a q, x = .inr (a, q) → p < q ∧ q ≤ n ∧ riF a = fm ∧ riN a = nm ∧ (riR a).length + p ≤ q + 1 ∧ (riQ a).length ≤ 4 ∧ (riL a).length ≤ 10 ∧ (fm = 2 ∨ fm = 0 → riT a = 0 ∨ riT a = 1) ∧ (fm ≠ 0 → fm ≠ 2 → riT a = 2) ∧ (∀ x ∈ riQ a, x = 0 ∨ x = 1) ∧ (fm = 0 → riC a = 0 ∨ riC a = 1) ∧ riP a ≤ n ∧ (∀ l ∈ riL a, isN l) ∧ (fm < 2 → riR a = [] ∧ riQ a = []) ∧ (fm = 4 → riQ a = [])
section MIB
variable {t : Nat → Int32} {n : Nat}
theorem nx_b {p : Nat} (ht : txt t n) (h : tkk t n p ≠ 0) : p < n ∧ p < nx t n p ∧ nx t n p ≤ n := ⟨tk_lt h, nx_bd ht (tk_lt h)⟩
theorem itB_l {p fm q : Nat} {nm : List Nat} (h : p ≤ q ∧ q ≤ n) : itB t n p fm nm (.inl q) := ⟨fun q' h' => by cases h'; exact h, fun a q' h' => by cases h'⟩
theorem pg4_B {p q cp : Nat} {nm : List Nat} {ty v ct : Int32} (ht : txt t n) (hp : p < q) (hq : q ≤ n) (hcp : cp ≤ n) (hty : ty = 0 ∨ ty = 1) (hct : ct = 0 ∨ ct = 1) : itB t n p 0 nm (pg4 t n nm ty v ct cp q) := by
  unfold pg4
  by_cases h : tkk t n q = 59
  · rw [if_pos h]
    have hb := nx_b (p := q) ht (by omega)
    refine ⟨fun q' h' => (by cases h'), fun a q' h' => ?_⟩
    cases h'
    exact ⟨by omega, by omega, rfl, rfl, (by show 0 + p ≤ _; omega), Nat.zero_le _, Nat.zero_le _, fun _ => hty, fun h0 => absurd rfl h0, fun x hx => absurd hx List.not_mem_nil, fun _ => hct, hcp, fun x hx => absurd hx List.not_mem_nil, fun _ => ⟨rfl, rfl⟩, fun _ => rfl⟩
  · rw [if_neg h]
    exact itB_l ⟨by omega, hq⟩
theorem pgl_B {p : Nat} {nm : List Nat} (ht : txt t n) (hp : p ≤ n) : itB t n p 0 nm (pgl t n nm p) := by
  unfold pgl
  by_cases h : tkk t n p = 58
  · rw [if_pos h]
    have b1 := nx_b (p := p) ht (by omega)
    unfold pg2
    cases hty : tyq t n (nx t n p) with
    | none => exact itB_l ⟨by omega, by omega⟩
    | some ty =>
      have h2 := tyq_t hty
      have b2 := nx_b (p := nx t n p) ht (by omega)
      have h3 : ty = 0 ∨ ty = 1 := by rcases h2 with h2 | h2 <;> simp [h2.2]
      dsimp only
      by_cases h6 : tkk t n (nx t n (nx t n p)) = 61
      · rw [if_pos h6]
        have b3 := nx_b (p := nx t n (nx t n p)) ht (by omega)
        generalize hP : nx t n (nx t n (nx t n p)) = P at b3 ⊢
        unfold pg3
        by_cases c1 : tkk t n P = 315
        · rw [if_pos c1]
          have b4 := nx_b (p := P) ht (by omega)
          exact pg4_B ht (by omega) (by omega) (by omega) h3 (Or.inr rfl)
        rw [if_neg c1]
        by_cases c2 : tkk t n P = 316
        · rw [if_pos c2]
          have b4 := nx_b (p := P) ht (by omega)
          exact pg4_B ht (by omega) (by omega) (by omega) h3 (Or.inr rfl)
        rw [if_neg c2]
        by_cases c3 : tkk t n P = 3
        · rw [if_pos c3]
          have b4 := nx_b (p := P) ht (by omega)
          exact pg4_B ht (by omega) (by omega) (by omega) h3 (Or.inl rfl)
        rw [if_neg c3]
        by_cases c4 : tkk t n P = 45
        · rw [if_pos c4]
          have b4 := nx_b (p := P) ht (by omega)
          by_cases c5 : tkk t n (nx t n P) = 3
          · rw [if_pos c5]
            have b5 := nx_b (p := nx t n P) ht (by omega)
            exact pg4_B ht (by omega) (by omega) (by omega) h3 (Or.inl rfl)
          · rw [if_neg c5]
            exact itB_l ⟨by omega, by omega⟩
        · rw [if_neg c4]
          exact itB_l ⟨by omega, by omega⟩
      · rw [if_neg h6]
        exact itB_l ⟨by omega, by omega⟩
  · rw [if_neg h]
    exact itB_l ⟨by omega, hp⟩
theorem par_B {p : Nat} {nm : List Nat} (ht : txt t n) (hp : p ≤ n) : itB t n p 1 nm (par t n nm p) := by
  unfold par
  by_cases h : tkk t n p = 91
  · rw [if_pos h]
    have b1 := nx_b (p := p) ht (by omega)
    by_cases h3 : tkk t n (nx t n p) = 3 ∧ ¬ tkv t n (nx t n p) < 1 ∧ ¬ (32 : Int32) < tkv t n (nx t n p)
    · rw [if_pos h3]
      have b2 := nx_b (p := nx t n p) ht (by omega)
      unfold pr3
      by_cases h9 : tkk t n (nx t n (nx t n p)) = 93
      · rw [if_pos h9]
        have b3 := nx_b (p := nx t n (nx t n p)) ht (by omega)
        by_cases h5 : tkk t n (nx t n (nx t n (nx t n p))) = 59
        · rw [if_pos h5]
          have b4 := nx_b (p := nx t n (nx t n (nx t n p))) ht (by omega)
          refine ⟨fun q' h' => (by cases h'), fun a q' h' => ?_⟩
          cases h'
          exact ⟨by omega, by omega, rfl, rfl, (by show 0 + p ≤ _; omega), Nat.zero_le _, Nat.zero_le _, fun h0 => by omega, fun _ _ => rfl, fun x hx => absurd hx List.not_mem_nil, fun h0 => by omega, Nat.zero_le _, fun x hx => absurd hx List.not_mem_nil, fun _ => ⟨rfl, rfl⟩, fun _ => rfl⟩
        · rw [if_neg h5]
          exact itB_l ⟨by omega, by omega⟩
      · rw [if_neg h9]
        exact itB_l ⟨by omega, by omega⟩
    · rw [if_neg h3]
      exact itB_l ⟨by omega, by omega⟩
  · rw [if_neg h]
    exact itB_l ⟨by omega, hp⟩
def ppB (t : Nat → Int32) (n p : Nat) (x : Rp) : Prop := (∀ q, x = .inl q → p ≤ q ∧ q ≤ n) ∧ ∀ L T q, x = .inr (L, T, q) → p ≤ q ∧ q ≤ n ∧ L.length = T.length ∧ T.length ≤ 4 ∧ (∀ x ∈ T, x = 0 ∨ x = 1) ∧ ∀ l ∈ L, isN l
theorem ppr_B {Nf : List (List Nat)} (ht : txt t n) : ∀ (f p : Nat) (L : List (List Nat)) (T : List Int32), p ≤ n → L.length = T.length → (∀ x ∈ T, x = 0 ∨ x = 1) → (∀ l ∈ L, isN l) → ppB t n p (ppr t n Nf f p L T) := by
  intro f
  induction f with
  | zero => exact fun p L T hp _ _ _ => ⟨fun q h => by unfold ppr at h; cases h; omega, fun L T q h => by unfold ppr at h; cases h⟩
  | succ f ih =>
    intro p L T hp hl hT hL
    have lf : ∀ {q : Nat}, p ≤ q → q ≤ n → ppB t n p (.inl q) := fun h1 h2 => ⟨fun q' h' => by cases h'; exact ⟨h1, h2⟩, fun L T q' h' => by cases h'⟩
    unfold ppr
    by_cases hw : nwL t n L Nf 4 p = true
    · rw [if_pos hw]
      have hw := nwL_t.mp hw
      have b1 := nx_b (p := p) ht (by omega)
      unfold pp2
      by_cases h5 : tkk t n (nx t n p) = 58
      · rw [if_pos h5]
        have b2 := nx_b (p := nx t n p) ht (by omega)
        cases hty : tyq t n (nx t n (nx t n p)) with
        | none => exact lf (by omega) (by omega)
        | some a =>
          have h2 := tyq_t hty
          have b3 := nx_b (p := nx t n (nx t n p)) ht (by omega)
          have h3 : a = 0 ∨ a = 1 := by rcases h2 with h2 | h2 <;> simp [h2.2]
          dsimp only
          generalize hP : nx t n (nx t n (nx t n p)) = P at b3 ⊢
          have hT' : ∀ x ∈ T ++ [a], x = 0 ∨ x = 1 := fun x hx => by
            rcases List.mem_append.mp hx with hx | hx
            · exact hT x hx
            · rw [List.mem_singleton.mp hx]; exact h3
          have hL' : ∀ l ∈ L ++ [tkm t n p], isN l := fun x hx => by
            rcases List.mem_append.mp hx with hx | hx
            · exact hL x hx
            · rw [List.mem_singleton.mp hx]; exact (tk2_N hw.1 ht).1
          by_cases h44 : tkk t n P = 44
          · rw [if_pos h44]
            have b4 := nx_b (p := P) ht (by omega)
            have := ih (nx t n P) (L ++ [tkm t n p]) (T ++ [a]) (by omega) (by simp [hl]) hT' hL'
            exact ⟨fun q h => by have := this.1 q h; omega, fun L T q h => by have := this.2 L T q h; exact ⟨by omega, this.2⟩⟩
          · rw [if_neg h44]
            by_cases h41 : tkk t n P = 41
            · rw [if_pos h41]
              have b4 := nx_b (p := P) ht (by omega)
              refine ⟨fun q h => (by cases h), fun L' T' q h => ?_⟩
              cases h
              exact ⟨by omega, by omega, by simp [hl], by simp; omega, hT', hL'⟩
            · rw [if_neg h41]
              exact lf (by omega) (by omega)
      · rw [if_neg h5]
        exact lf (by omega) (by omega)
    · rw [if_neg hw]
      exact lf (by omega) hp
theorem ppl_B {Nf : List (List Nat)} {fm p : Nat} (ht : txt t n) (hp : p ≤ n) : ppB t n p (ppl t n Nf fm p) := by
  unfold ppl
  by_cases h4 : fm = 4
  · rw [if_pos h4]
    exact ⟨fun q h => (by cases h), fun L T q h => (by cases h; exact ⟨by omega, hp, rfl, Nat.zero_le _, fun x hx => absurd hx List.not_mem_nil, fun x hx => absurd hx List.not_mem_nil⟩)⟩
  rw [if_neg h4]
  by_cases h : tkk t n p = 40
  · rw [if_pos h]
    have b1 := nx_b (p := p) ht (by omega)
    by_cases h1 : tkk t n (nx t n p) = 41
    · rw [if_pos h1]
      have b2 := nx_b (p := nx t n p) ht (by omega)
      exact ⟨fun q h => (by cases h), fun L T q h => (by cases h; exact ⟨by omega, by omega, rfl, Nat.zero_le _, fun x hx => absurd hx List.not_mem_nil, fun x hx => absurd hx List.not_mem_nil⟩)⟩
    · rw [if_neg h1]
      have := ppr_B (Nf := Nf) ht 5 (nx t n p) [] [] (by omega) rfl (by simp) (by simp)
      exact ⟨fun q h => by have := this.1 q h; omega, fun L T q h => by have := this.2 L T q h; exact ⟨by omega, this.2⟩⟩
  · rw [if_neg h]
    exact ⟨fun q h' => by cases h'; omega, fun L T q h' => by cases h'⟩
theorem ptl_l {fm : Nat} {ty : Int32} : (ptl fm ty).length ≤ 2 := by
  unfold ptl
  by_cases h : fm = 2
  · rw [if_pos h]; simp
  rw [if_neg h]
  by_cases h3 : fm = 3
  · rw [if_pos h3]; simp
  · rw [if_neg h3]; simp
theorem pS_n {fm p o i : Nat} {Nf L : List (List Nat)} {ck : Nat} {lp : Option Nat} (ht : txt t n) (hp : p ≤ n) (hL : L.length ≤ 10) : pS t n fm Nf 0 p o i L ck lp ≠ none := by
  have := ht.1
  exact pst_tot ht 3002 0 p o i L ck lp hp hL (by rw [if_pos rfl]; omega)
theorem pb2_B {nm : List Nat} {Nf L : List (List Nat)} {T : List Int32} {ty : Int32} {fm i p : Nat} (ht : txt t n) (hp : p ≤ n) (hLT : L.length = T.length) (hT4 : T.length ≤ 4) (hT : ∀ x ∈ T, x = 0 ∨ x = 1) (hL : ∀ l ∈ L, isN l) (hfm : fm = 2 ∨ fm = 3 ∨ fm = 4) (hty : fm = 2 → ty = 0 ∨ ty = 1) (hty2 : fm ≠ 2 → ty = 2) (h4 : fm = 4 → T = []) : itB t n p fm nm (pb2 t n nm Nf fm i L T ty p) := by
  unfold pb2 pblk
  by_cases h : tkk t n p = 123 ∧ 0 < 12
  · rw [if_pos h]
    have b1 := nx_b (p := p) ht (by omega)
    have hne := pS_n (fm := fm) (Nf := Nf) (o := 0 + 1) (i := i) (ck := 0) (lp := none) (L := L) ht (p := nx t n p) b1.2.2 (by omega)
    cases hx : pS t n fm Nf 0 (nx t n p) (0 + 1) i L 0 none with
    | none => exact absurd hx hne
    | some res =>
      have hB := pst_B ht _ _ _ _ _ _ _ _ _ b1.2.2 (by omega) hx
      rcases res with q | ⟨r, L', c, b, q⟩
      · have := hB.1 q rfl
        show itB t n p fm nm (.inl q)
        exact itB_l ⟨by omega, by omega⟩
      · have hh := hB.2 r L' c b q rfl
        show itB t n p fm nm (.inr ((fm, nm, ty, 0, 0, 0, T, L', r ++ ptl fm ty), nx t n q))
        have h125 : tkk t n q = 125 := hh.2.2.2.2.2.2.2.1 rfl
        have b2 := nx_b (p := q) ht (by omega)
        have h10 := hh.2.2.2.2.2.1
        have hl := hh.2.2.2.1
        have ht2 := ptl_l (fm := fm) (ty := ty)
        refine ⟨fun q' h' => (by cases h'), fun a q' h' => ?_⟩
        cases h'
        refine ⟨by omega, by omega, rfl, rfl, ?_, hT4, h10, fun h2 => hty (by omega), fun _ h2 => hty2 h2, hT, fun h0 => by omega, Nat.zero_le _, fun l hl => ?_, fun h2 => by omega, fun h4' => h4 h4'⟩
        · show (r ++ ptl fm ty).length + p ≤ nx t n q + 1
          rw [List.length_append]
          omega
        · rcases hh.2.2.2.2.2.2.2.2.2 l hl with h5 | ⟨y, hy1, hy2⟩
          · exact hL l h5
          · rw [hy2]; exact (tk2_N hy1 ht).1
  · rw [if_neg h]
    show itB t n p fm nm (.inl p)
    exact itB_l ⟨by omega, hp⟩
theorem pbd_B {nm : List Nat} {Nf : List (List Nat)} {fm i p : Nat} (ht : txt t n) (hp : p ≤ n) (hfm : fm = 2 ∨ fm = 3 ∨ fm = 4) : itB t n p fm nm (pbd t n nm Nf fm i p) := by
  unfold pbd
  have hB := ppl_B (Nf := Nf) (fm := fm) ht hp
  cases hx : ppl t n Nf fm p with
  | inl q =>
    rw [hx] at hB
    exact itB_l (hB.1 q rfl)
  | inr v =>
    obtain ⟨L, T, q⟩ := v
    have hh := (hx ▸ hB).2 L T q rfl
    have h4 : fm = 4 → T = [] := fun h4 => by
      unfold ppl at hx
      rw [if_pos h4] at hx
      cases hx
      rfl
    have mo : ∀ {q' : Nat} {x : Rj}, q ≤ q' → itB t n q' fm nm x → itB t n p fm nm x := fun hq hi => ⟨fun y hy => by have := hi.1 y hy; omega, fun a y hy => by have := hi.2 a y hy; exact ⟨by omega, this.2.1, this.2.2.1, this.2.2.2.1, by omega, this.2.2.2.2.2⟩⟩
    show itB t n p fm nm (pb1 t n nm Nf fm i L T q)
    unfold pb1
    by_cases h2 : fm = 2
    · rw [if_pos h2]
      by_cases h5 : tkk t n q = 58
      · rw [if_pos h5]
        have b1 := nx_b (p := q) ht (by omega)
        cases hty : tyq t n (nx t n q) with
        | none => exact itB_l ⟨by omega, by omega⟩
        | some ty =>
          have h3 := tyq_t hty
          have b2 := nx_b (p := nx t n q) ht (by omega)
          exact mo (by omega) (pb2_B ht (by omega) hh.2.2.1 hh.2.2.2.1 hh.2.2.2.2.1 hh.2.2.2.2.2 hfm (fun _ => by rcases h3 with h3 | h3 <;> simp [h3.2]) (fun h => absurd h2 h) h4)
      · rw [if_neg h5]
        exact itB_l ⟨by omega, by omega⟩
    · rw [if_neg h2]
      exact mo (Nat.le_refl q) (pb2_B ht hh.2.1 hh.2.2.1 hh.2.2.2.1 hh.2.2.2.2.1 hh.2.2.2.2.2 hfm (fun h => absurd h h2) (fun _ => rfl) h4)
/-- one item -/
theorem pit_B {As : List Ri} {i p : Nat} (ht : txt t n) (hp : p ≤ n) : (∀ q, pit t n As i p = .inl q → p ≤ q ∧ q ≤ n) ∧ ∀ a q, pit t n As i p = .inr (a, q) → p + 3 ≤ q ∧ q ≤ n ∧ tkk t n p = riF a + 300 ∧ riF a ≤ 4 ∧ tkk t n (nx t n p) = 2 ∧ riN a = tkm t n (nx t n p) ∧ isN (riN a) ∧ kwi (rno As) (riN a) 0 = none ∧ cnK As (kdf (riF a)) < mst (kdf (riF a)) ∧ (riR a).length + p + 1 ≤ q ∧ itB t n (nx t n (nx t n p)) (riF a) (riN a) (.inr (a, q)) := by
  unfold pit
  by_cases h : 300 ≤ tkk t n p ∧ tkk t n p ≤ 304
  · rw [if_pos h]
    have b1 := nx_b (p := p) ht (by omega)
    by_cases h2 : tkk t n (nx t n p) = 2 ∧ kwi (rno As) (tkm t n (nx t n p)) 0 = none ∧ cnK As (kdf (tkk t n p - 300)) < mst (kdf (tkk t n p - 300))
    · rw [if_pos h2]
      have b2 := nx_b (p := nx t n p) ht (by omega)
      have hB : itB t n (nx t n (nx t n p)) (tkk t n p - 300) (tkm t n (nx t n p)) (pi2 t n (rno As) (tkk t n p - 300) i (tkm t n (nx t n p)) (nx t n (nx t n p))) := by
        unfold pi2
        by_cases h0 : tkk t n p - 300 = 0
        · rw [if_pos h0, h0]; exact pgl_B ht (by omega)
        rw [if_neg h0]
        by_cases h1 : tkk t n p - 300 = 1
        · rw [if_pos h1, h1]; exact par_B ht (by omega)
        rw [if_neg h1]
        exact pbd_B ht (by omega) (by omega)
      refine ⟨fun q hq => ?_, fun a q hq => ?_⟩
      · have := hB.1 q hq; omega
      · have hh := hB.2 a q hq
        have hF := hh.2.2.1
        have hN := hh.2.2.2.1
        rw [hq] at hB
        refine ⟨by omega, hh.2.1, by omega, by omega, h2.1, hN, ?_, ?_, ?_, by omega, ?_⟩
        · rw [hN]; exact (tk2_N h2.1 ht).1
        · rw [hN]; exact h2.2.1
        · rw [hF]; exact h2.2.2
        · rw [hF, hN]; exact hB
    · rw [if_neg h2]
      exact ⟨fun q hq => by cases hq; omega, fun a q hq => by cases hq⟩
  · rw [if_neg h]
    exact ⟨fun q hq => by cases hq; omega, fun a q hq => by cases hq⟩
end MIB
/-- there are at most 42 -/
def cnB (As : List Ri) : Prop := ∀ k, cnK As k ≤ mst k
theorem cnK_s : ∀ {As : List Ri}, (∀ a ∈ As, riF a ≤ 4) → As.length = cnK As 0 + cnK As 1 + cnK As 2 + cnK As 3
  | [], _ => rfl
  | a :: r, h => by
    have ih := cnK_s (As := r) (fun a ha => h a (List.mem_cons_of_mem _ ha))
    have h4 := h a (List.mem_cons_self ..)
    have hk : kdf a.1 = 0 ∨ kdf a.1 = 1 ∨ kdf a.1 = 2 ∨ kdf a.1 = 3 := by
      unfold kdf
      split <;> (change a.1 ≤ 4 at h4; omega)
    simp only [List.length_cons, cnK]
    rcases hk with hk | hk | hk | hk <;> rw [hk] <;> simp <;> omega
theorem cnB_42 {As : List Ri} (h : cnB As) (h4 : ∀ a ∈ As, riF a ≤ 4) : As.length ≤ 42 := by
  have h0 := h 0
  have h1 := h 1
  have h2 := h 2
  have h3 := h 3
  have := cnK_s h4
  simp only [mst] at h0 h1 h2 h3
  simp at h0 h1 h2 h3
  omega
theorem cnB_a {As : List Ri} {a : Ri} (h : cnB As) (hk : cnK As (kdf (riF a)) < mst (kdf (riF a))) : cnB (As ++ [a]) := fun k => by
  rw [cnK_a]
  simp only [cnK]
  by_cases hh : kdf a.1 = k
  · subst hh
    rw [if_pos rfl]
    exact hk
  · rw [if_neg hh]
    exact h k
/-- what is kept of the items so far -/
def itW (a : Ri) : Prop := riF a ≤ 4 ∧ isN (riN a) ∧ (riQ a).length ≤ 4 ∧ (riL a).length ≤ 10 ∧ (riF a = 2 ∨ riF a = 0 → riT a = 0 ∨ riT a = 1) ∧ (riF a ≠ 0 → riF a ≠ 2 → riT a = 2) ∧ (∀ x ∈ riQ a, x = 0 ∨ x = 1) ∧ (riF a = 0 → riC a = 0 ∨ riC a = 1) ∧ riP a ≤ 1500 ∧ (∀ l ∈ riL a, isN l) ∧ (riF a < 2 → riR a = [] ∧ riQ a = []) ∧ (riF a = 4 → riQ a = [])
def itsB (As : List Ri) : Prop := cnB As ∧ ∀ a ∈ As, itW a
theorem pit_W {t : Nat → Int32} {n : Nat} {As : List Ri} {i p : Nat} {a : Ri} {q : Nat} (ht : txt t n) (hp : p ≤ n) (hx : pit t n As i p = .inr (a, q)) : itW a := by
  have hB := (pit_B (As := As) (i := i) ht hp).2 a q hx
  have hn := ht.1
  have hh := hB.2.2.2.2.2.2.2.2.2.2.2 a q rfl
  exact ⟨hB.2.2.2.1, hB.2.2.2.2.2.2.1, hh.2.2.2.2.2.1, hh.2.2.2.2.2.2.1, hh.2.2.2.2.2.2.2.1, hh.2.2.2.2.2.2.2.2.1, hh.2.2.2.2.2.2.2.2.2.1, hh.2.2.2.2.2.2.2.2.2.2.1, by have := hh.2.2.2.2.2.2.2.2.2.2.2.1; omega, hh.2.2.2.2.2.2.2.2.2.2.2.2.1, hh.2.2.2.2.2.2.2.2.2.2.2.2.2.1, hh.2.2.2.2.2.2.2.2.2.2.2.2.2.2⟩
theorem itsB_a {t : Nat → Int32} {n : Nat} {As : List Ri} {i p : Nat} {a : Ri} {q : Nat} (ht : txt t n) (hp : p ≤ n) (h : itsB As) (hx : pit t n As i p = .inr (a, q)) : itsB (As ++ [a]) := by
  have hB := (pit_B (As := As) (i := i) ht hp).2 a q hx
  refine ⟨cnB_a h.1 hB.2.2.2.2.2.2.2.2.1, fun x hx' => ?_⟩
  rcases List.mem_append.mp hx' with hx' | hx'
  · exact h.2 x hx'
  · rw [List.mem_singleton.mp hx']
    exact pit_W ht hp hx
theorem itsB_42 {As : List Ri} (h : itsB As) : As.length ≤ 42 := cnB_42 h.1 (fun a ha => (h.2 a ha).1)
