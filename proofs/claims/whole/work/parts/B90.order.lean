
/-! ===== the order of the tests that are picked: place, estimate, number ===== -/
abbrev Tp := Nat × Nat × Nat
def bef (x y : Tp) : Prop := y.2.1 < x.2.1 ∨ (x.2.1 = y.2.1 ∧ x.2.2 < y.2.2)
theorem bef_as {x y : Tp} (h : bef x y) : ¬ bef y x := by unfold bef at *; omega
/-- where a test with that estimate goes in, looking from n downwards -/
def ips (L : List Tp) (ee : Nat) : Nat → Nat
  | 0 => 0
  | n + 1 => match L[n]? with
    | none => n + 1
    | some x => if x.2.1 < ee then ips L ee n else n + 1
theorem ips_l {L : List Tp} {ee : Nat} : ∀ {n : Nat}, ips L ee n ≤ n
  | 0 => Nat.le_refl _
  | n + 1 => by
    unfold ips
    cases L[n]? with
    | none => exact Nat.le_refl _
    | some x =>
      dsimp only
      split
      · have := ips_l (L := L) (ee := ee) (n := n); omega
      · exact Nat.le_refl _
theorem ips_g {L : List Tp} {ee : Nat} : ∀ {n : Nat}, n ≤ L.length → (∀ i x, ips L ee n ≤ i → i < n → L[i]? = some x → x.2.1 < ee) ∧ (∀ x, 1 ≤ ips L ee n → L[ips L ee n - 1]? = some x → ee ≤ x.2.1)
  | 0, _ => ⟨fun i x h1 h2 => by omega, fun x h => by unfold ips at h; omega⟩
  | n + 1, hn => by
    have hx := List.getElem?_eq_getElem (show n < L.length by omega)
    generalize L[n] = x at hx
    obtain ⟨g1, g2⟩ := ips_g (L := L) (ee := ee) (n := n) (by omega)
    unfold ips
    rw [hx]
    dsimp only
    by_cases c : x.2.1 < ee
    · rw [if_pos c]
      refine ⟨fun i y h1 h2 hy => ?_, g2⟩
      by_cases ci : i = n
      · subst ci
        rw [hx] at hy
        cases hy
        exact c
      · exact g1 i y h1 (by omega) hy
    · rw [if_neg c]
      refine ⟨fun i y h1 h2 => by omega, fun y h1 hy => ?_⟩
      rw [Nat.add_sub_cancel, hx] at hy
      cases hy
      omega
def insT (L : List Tp) (x : Tp) : List Tp := L.take (ips L x.2.1 L.length) ++ (x :: L.drop (ips L x.2.1 L.length))
theorem insT_l {L : List Tp} {x : Tp} : (insT L x).length = L.length + 1 := by
  have := ips_l (L := L) (ee := x.2.1) (n := L.length)
  unfold insT
  rw [List.length_append, List.length_cons, List.length_take, List.length_drop]
  omega
theorem insT_m {L : List Tp} {x y : Tp} : y ∈ insT L x ↔ y = x ∨ y ∈ L := by
  unfold insT
  constructor
  · intro h
    rcases List.mem_append.mp h with h | h
    · exact Or.inr (List.mem_of_mem_take h)
    · rcases List.mem_cons.mp h with h | h
      · exact Or.inl h
      · exact Or.inr (List.mem_of_mem_drop h)
  · intro h
    rcases h with h | h
    · exact List.mem_append_right _ (by rw [h]; exact List.mem_cons_self)
    · have e : L = L.take (ips L x.2.1 L.length) ++ L.drop (ips L x.2.1 L.length) := (List.take_append_drop _ _).symm
      rw [e] at h
      rcases List.mem_append.mp h with h | h
      · exact List.mem_append_left _ h
      · exact List.mem_append_right _ (List.mem_cons_of_mem _ h)
theorem insT_g {L : List Tp} {x : Tp} {i : Nat} : (insT L x)[i]? = if i < ips L x.2.1 L.length then L[i]? else if i = ips L x.2.1 L.length then some x else L[i - 1]? := by
  have hp := ips_l (L := L) (ee := x.2.1) (n := L.length)
  have hl : (L.take (ips L x.2.1 L.length)).length = ips L x.2.1 L.length := by rw [List.length_take]; omega
  unfold insT
  generalize ips L x.2.1 L.length = p at hp hl ⊢
  by_cases c : i < p
  · rw [if_pos c, List.getElem?_append_left (by omega), List.getElem?_take, if_pos c]
  · rw [if_neg c, List.getElem?_append_right (by omega), hl]
    by_cases c2 : i = p
    · rw [if_pos c2, c2, Nat.sub_self]
      rfl
    · rw [if_neg c2, show i - p = (i - 1 - p) + 1 by omega, List.getElem?_cons_succ, List.getElem?_drop]
      congr 1
      omega
theorem insT_s {L : List Tp} {x : Tp} (h : L.Pairwise bef) (hx : ∀ y ∈ L, y.2.2 < x.2.2) : (insT L x).Pairwise bef := by
  have hp := ips_l (L := L) (ee := x.2.1) (n := L.length)
  obtain ⟨g1, g2⟩ := ips_g (L := L) (ee := x.2.1) (n := L.length) (Nat.le_refl _)
  unfold insT
  generalize ips L x.2.1 L.length = p at hp g1 g2 ⊢
  have hL : L = L.take p ++ L.drop p := (List.take_append_drop _ _).symm
  have h0 := h
  rw [hL] at h
  obtain ⟨a1, a2, a3⟩ := List.pairwise_append.mp h
  have hd : ∀ y ∈ L.drop p, bef x y := fun y hy => by
    obtain ⟨i, hi⟩ := List.getElem?_of_mem hy
    rw [List.getElem?_drop] at hi
    have hil := (List.getElem?_eq_some_iff.mp hi).1
    exact Or.inl (g1 (p + i) y (by omega) hil hi)
  have ht : ∀ y ∈ L.take p, bef y x := fun y hy => by
    obtain ⟨i, hi⟩ := List.getElem?_of_mem hy
    have hil := (List.getElem?_eq_some_iff.mp hi).1
    rw [List.length_take] at hil
    rw [List.getElem?_take, if_pos (by omega)] at hi
    have hm := hx y (List.mem_of_getElem? hi)
    have hlast := List.getElem?_eq_getElem (show p - 1 < L.length by omega)
    have hz := g2 L[p - 1] (by omega) hlast
    have hyz : y.2.1 ≥ L[p - 1].2.1 := by
      by_cases ci : i = p - 1
      · have : y = L[p - 1] := by
          rw [ci, hlast] at hi
          exact (Option.some.inj hi).symm
        rw [this]
        exact Nat.le_refl _
      · obtain ⟨hiL, hie⟩ := List.getElem?_eq_some_iff.mp hi
        have := (List.pairwise_iff_getElem.mp h0) i (p - 1) hiL (by omega) (by omega)
        rw [hie] at this
        unfold bef at this
        omega
    by_cases c : y.2.1 = x.2.1
    · exact Or.inr ⟨c, hm⟩
    · exact Or.inl (by omega)
  rw [List.pairwise_append]
  refine ⟨a1, List.pairwise_cons.mpr ⟨hd, a2⟩, fun a ha b hb => ?_⟩
  rcases List.mem_cons.mp hb with hb | hb
  · rw [hb]; exact ht a ha
  · exact a3 a ha b hb
/-- workers: who is free first among the first m + 1 -/
def wmn (fr : Nat → Int32) : Nat → Nat
  | 0 => 0
  | m + 1 => if fr (m + 1) < fr (wmn fr m) then m + 1 else wmn fr m
theorem wmn_l {fr : Nat → Int32} : ∀ {m : Nat}, wmn fr m ≤ m
  | 0 => Nat.le_refl _
  | m + 1 => by
    unfold wmn
    split
    · exact Nat.le_refl _
    · have := wmn_l (fr := fr) (m := m); omega
/-- a slot: place of its test, worker, beginning, end -/
abbrev Sp := Nat × Nat × Int32 × Int32
def sp1 (Z : Nat → Ms) (W : Nat) (fr : Nat → Int32) (k : Nat) : Sp := (k, wmn fr (W - 1), fr (wmn fr (W - 1)), fr (wmn fr (W - 1)) + Int32.ofNat (zF (Z k)) + 1)
def spF (Z : Nat → Ms) (W : Nat) (fr : Nat → Int32) (k : Nat) : Nat → Int32 := fun w => if w = wmn fr (W - 1) then fr (wmn fr (W - 1)) + Int32.ofNat (zF (Z k)) + 1 else fr w
def plcS (Z : Nat → Ms) (W : Nat) : List Nat → (Nat → Int32) → List Sp
  | [], _ => []
  | k :: r, fr => sp1 Z W fr k :: plcS Z W r (spF Z W fr k)
def plF2 (Z : Nat → Ms) (W : Nat) : List Nat → (Nat → Int32) → (Nat → Int32)
  | [], fr => fr
  | k :: r, fr => plF2 Z W r (spF Z W fr k)
theorem plcS_l {Z : Nat → Ms} {W : Nat} : ∀ {L : List Nat} {fr : Nat → Int32}, (plcS Z W L fr).length = L.length
  | [], _ => rfl
  | k :: r, fr => by rw [plcS, List.length_cons, List.length_cons, plcS_l]
theorem plc_kS {Z : Nat → Ms} {W : Nat} : ∀ {L : List Nat} {fr : Nat → Int32} {i : Nat} {p : Sp}, (plcS Z W L fr)[i]? = some p → L[i]? = some p.1
  | [], _, i, p, h => by rw [plcS] at h; simp at h
  | k :: r, fr, 0, p, h => by
    rw [plcS, List.getElem?_cons_zero] at h
    cases h
    rfl
  | k :: r, fr, i + 1, p, h => by
    rw [plcS, List.getElem?_cons_succ] at h
    rw [List.getElem?_cons_succ]
    exact plc_kS h
/-- which slot ends next among the first m of those not yet asked for -/
def ahd (p q : Sp) : Bool := decide (p.2.2.2 < q.2.2.2) || (decide (p.2.2.2 = q.2.2.2) && decide (p.2.1 < q.2.1))
def nxs (P : List Sp) (st : Nat → Nat) : Nat → Option Nat
  | 0 => none
  | m + 1 => match P[m]? with
    | none => nxs P st m
    | some p => if st m = 0 then (match nxs P st m with
        | none => some m
        | some j => match P[j]? with
          | none => some m
          | some q => if ahd p q = true then some m else some j) else nxs P st m
theorem nxs_b {P : List Sp} {st : Nat → Nat} : ∀ {m i : Nat}, nxs P st m = some i → i < m ∧ st i = 0 ∧ i < P.length
  | 0, i, h => by unfold nxs at h; cases h
  | m + 1, i, h => by
    unfold nxs at h
    cases hp : P[m]? with
    | none =>
      rw [hp] at h
      have := nxs_b (m := m) h
      omega
    | some p =>
      have hm := (List.getElem?_eq_some_iff.mp hp).1
      rw [hp] at h
      dsimp only at h
      by_cases c : st m = 0
      · rw [if_pos c] at h
        cases hn : nxs P st m with
        | none =>
          rw [hn] at h
          cases h
          exact ⟨by omega, c, hm⟩
        | some j =>
          have hj := nxs_b hn
          have hq := List.getElem?_eq_getElem hj.2.2
          rw [hn] at h
          dsimp only at h
          rw [hq] at h
          dsimp only at h
          split at h
          · cases h
            exact ⟨by omega, c, hm⟩
          · cases h
            exact ⟨by omega, hj.2⟩
      · rw [if_neg c] at h
        have := nxs_b (m := m) h
        omega
/-- how many are not yet asked for -/
def unh (st : Nat → Nat) : Nat → Nat
  | 0 => 0
  | m + 1 => unh st m + if st m = 0 then 1 else 0
theorem nxs_0 {P : List Sp} {st : Nat → Nat} : ∀ {m : Nat}, m ≤ P.length → (nxs P st m = none ↔ unh st m = 0)
  | 0, _ => ⟨fun _ => rfl, fun _ => rfl⟩
  | m + 1, hm => by
    have hp := List.getElem?_eq_getElem (show m < P.length by omega)
    have ih := nxs_0 (P := P) (st := st) (m := m) (by omega)
    unfold nxs unh
    rw [hp]
    dsimp only
    by_cases c : st m = 0
    · rw [if_pos c, if_pos c]
      constructor
      · intro h
        exfalso
        cases hn : nxs P st m with
        | none => rw [hn] at h; cases h
        | some j =>
          rw [hn] at h
          dsimp only at h
          rw [List.getElem?_eq_getElem (nxs_b hn).2.2] at h
          dsimp only at h
          split at h <;> cases h
      · intro h; omega
    · rw [if_neg c, if_neg c, Nat.add_zero]
      exact ih
theorem unh_u {st : Nat → Nat} {i v : Nat} (hv : v ≠ 0) (hs : st i = 0) : ∀ {m : Nat}, unh (fun j => if j = i then v else st j) m + (if i < m then 1 else 0) = unh st m
  | 0 => by simp [unh]
  | m + 1 => by
    have ih := unh_u (st := st) (i := i) hv hs (m := m)
    unfold unh
    by_cases c : m = i
    · subst c
      rw [if_pos rfl, if_neg hv, if_pos hs, if_pos (by omega)]
      rw [if_neg (by omega)] at ih
      omega
    · rw [if_neg c]
      generalize (if st m = 0 then 1 else 0) = z
      by_cases c2 : i < m
      · rw [if_pos c2] at ih
        rw [if_pos (show i < m + 1 by omega)]
        omega
      · rw [if_neg c2] at ih
        rw [if_neg (show ¬ i < m + 1 by omega)]
        omega
/-- the recording: (state, states of the slots, how many, the last end, whether it crashed) -/
def rnA (As : List Ri) (I : List It) (v3 : Int32) (Z : Nat → Ms) (P : List Sp) : Nat → KSt → (Nat → Nat) → Int32 → Int32 → KSt × (Nat → Nat) × Int32 × Int32 × Bool
  | 0, S, st, md, le => (S, st, md, le, false)
  | f + 1, S, st, md, le => match nxs P st P.length with
    | none => (S, st, md, le, false)
    | some i => match P[i]? with
      | none => (S, st, md, le, false)
      | some p => if (kp As I v3 p.1 (Z p.1) S).1 = 1 then rnA As I v3 Z P f (kp As I v3 p.1 (Z p.1) S).2 (fun j => if j = i then 2 else st j) (md + 1) p.2.2.2 else if (kp As I v3 p.1 (Z p.1) S).1 = 2 then ((kp As I v3 p.1 (Z p.1) S).2, (fun j => if j = i then 1 else st j), md, le, true) else rnA As I v3 Z P f (kp As I v3 p.1 (Z p.1) S).2 (fun j => if j = i then 1 else st j) md le
