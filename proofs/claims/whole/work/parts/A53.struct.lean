
/-! ===== statements: the pile, the jumps, the loops ===== -/
/-- the pile is empty ahead of statements and behind them -/
def SHs (r : List Rw) : Prop := hrn r 0 = 0 ∧ hok r 0 ∧ hmx 752 r 0 ∧ (cal4 r → hmx 96 r 0)
theorem SHs_a {r r' : List Rw} (h : SHs r) (h' : SHs r') : SHs (r ++ r') := by
  obtain ⟨a1, a2, a3, a4⟩ := h
  obtain ⟨b1, b2, b3, b4⟩ := h'
  exact ⟨by rw [hrn_a, a1, b1], hok_a a2 (by rw [a1]; exact b2), hmx_a a3 (by rw [a1]; exact b3), fun hc => hmx_a (a4 (cal4_l hc)) (by rw [a1]; exact b4 (cal4_r hc))⟩
theorem SHs_0 : SHs [] := ⟨rfl, trivial, Nat.zero_le _, fun _ => Nat.zero_le _⟩
/-- a step that neither takes nor leaves -/
theorem SHs_1 {x : Rw} (h1 : hnd x = 0) (h2 : hpu x = 0) : SHs [x] := by
  have e : hst x 0 = 0 := by unfold hst; rw [h1, h2]
  exact ⟨e, ⟨by rw [h1]; exact Nat.le_refl _, trivial⟩, ⟨Nat.zero_le _, by show hst x 0 ≤ 752; omega⟩, fun _ => ⟨Nat.zero_le _, by show hst x 0 ≤ 96; omega⟩⟩
/-- an expression and steps that take it -/
theorem SHs_e {r y : List Rw} {p q o : Nat} (hr : EH r p q o 0) (hpq : q - p ≤ 1500) (ho : 1 ≤ o) (hy : hrn y 1 = 0 ∧ hok y 1 ∧ hmx 1 y 1) : SHs (r ++ y) := by
  obtain ⟨a1, a2, a3⟩ := hr.1 0
  have e : hrn r 0 = 1 := by rw [a1]
  refine ⟨by rw [hrn_a, e]; exact hy.1, hok_a a2 (by rw [e]; exact hy.2.1), hmx_a (hmx_m (by omega) a3) (by rw [e]; exact hmx_m (by omega) hy.2.2), fun hc => hmx_a (hmx_m (by omega) (hr.2 (cal4_l hc) 0)) (by rw [e]; exact hmx_m (by omega) hy.2.2)⟩
/-- the same steps, as far as the pile goes -/
def hky (x : Rw) : Nat × Nat := (hnd x, hpu x)
theorem hrn_k : ∀ {r r' : List Rw} {h : Nat}, r.map hky = r'.map hky → hrn r h = hrn r' h
  | [], [], _, _ => rfl
  | [], y :: r', _, h => by simp at h
  | x :: r, [], _, h => by simp at h
  | x :: r, y :: r', k, h => by
    simp only [List.map_cons, List.cons.injEq] at h
    have e : hst x k = hst y k := by
      have h1 := congrArg Prod.fst h.1
      have h2 := congrArg Prod.snd h.1
      unfold hky at h1 h2
      unfold hst
      rw [show hnd x = hnd y from h1, show hpu x = hpu y from h2]
    rw [hrn, hrn, e]
    exact hrn_k h.2
theorem hok_k : ∀ {r r' : List Rw} {h : Nat}, r.map hky = r'.map hky → hok r h → hok r' h
  | [], [], _, _, _ => trivial
  | [], y :: r', _, h, _ => by simp at h
  | x :: r, [], _, h, _ => by simp at h
  | x :: r, y :: r', k, h, g => by
    simp only [List.map_cons, List.cons.injEq] at h
    have h1 : hnd x = hnd y := congrArg Prod.fst h.1
    have h2 : hpu x = hpu y := congrArg Prod.snd h.1
    have e : hst x k = hst y k := by unfold hst; rw [h1, h2]
    exact ⟨by rw [← h1]; exact g.1, by rw [← e]; exact hok_k h.2 g.2⟩
theorem hmx_k {M : Nat} : ∀ {r r' : List Rw} {h : Nat}, r.map hky = r'.map hky → hmx M r h → hmx M r' h
  | [], [], _, _, g => g
  | [], y :: r', _, h, _ => by simp at h
  | x :: r, [], _, h, _ => by simp at h
  | x :: r, y :: r', k, h, g => by
    simp only [List.map_cons, List.cons.injEq] at h
    have h1 : hnd x = hnd y := congrArg Prod.fst h.1
    have h2 : hpu x = hpu y := congrArg Prod.snd h.1
    have e : hst x k = hst y k := by unfold hst; rw [h1, h2]
    exact ⟨g.1, by rw [← e]; exact hmx_k h.2 g.2⟩
/-- a landing: within, with an empty pile -/
def VL (i : Nat) (r : List Rw) (T : Nat) : Prop := i ≤ T ∧ T ≤ i + r.length ∧ hrn (r.take (T - i)) 0 = 0
theorem VL_m {i : Nat} {A r B : List Rw} {T : Nat} (hA : hrn A 0 = 0) (h : VL (i + A.length) r T) : VL i (A ++ (r ++ B)) T := by
  obtain ⟨h1, h2, h3⟩ := h
  refine ⟨by omega, by simp; omega, ?_⟩
  rw [List.take_append, List.take_of_length_le (show A.length ≤ T - i by omega), hrn_a, hA, List.take_append_of_le_length (by omega), show T - i - A.length = T - (i + A.length) by omega]
  exact h3
theorem VL_0 {i : Nat} {r : List Rw} : VL i r i := ⟨Nat.le_refl _, by omega, by rw [Nat.sub_self]; rfl⟩
theorem VL_e {i : Nat} {r : List Rw} (h : hrn r 0 = 0) : VL i r (i + r.length) := ⟨by omega, Nat.le_refl _, by rw [Nat.add_sub_cancel_left, List.take_length]; exact h⟩
/-- a step with its loops: Z where one may land, D how many loops are around -/
def JD1 (D : Nat → Nat) (Z : Nat → Prop) (lp : Option Nat) (dp k : Nat) (x : Rw) : Prop :=
  (x.1 ≠ 14 → x.1 ≠ 15 → x.1 ≠ 16 → D (k + 1) ≤ D k) ∧ (x.1 = 16 → D (k + 1) ≤ D k + 1) ∧
  (x.1 = 15 → D (k + 1) ≤ D k ∧ ∃ T, x = jmp 15 T ∧ k < T ∧ Z T ∧ D T ≤ D k) ∧
  (x.1 = 14 → (∃ l, lp = some l ∧ x = jmp 14 l ∧ dp ≤ D k) ∨ ∃ T, x = jmp 14 T ∧ Z T ∧ (T ≤ k → D T + 1 ≤ D k) ∧ (k < T → D T ≤ D k))
def JD (D : Nat → Nat) (Z : Nat → Prop) (i : Nat) (lp : Option Nat) (dp : Nat) (r : List Rw) : Prop := ∀ j x, r[j]? = some x → JD1 D Z lp dp (i + j) x
def DD (D : Nat → Nat) (i : Nat) (r : List Rw) (dp o : Nat) : Prop := D i = dp ∧ D (i + r.length) = dp ∧ ∀ j, j ≤ r.length → dp ≤ D (i + j) ∧ D (i + j) ≤ dp + (12 - o)
def STR (i : Nat) (r : List Rw) (lp : Option Nat) (dp o : Nat) : Prop := ∃ D, DD D i r dp o ∧ JD D (VL i r) i lp dp r
theorem JD1_z {D : Nat → Nat} {Z Z' : Nat → Prop} {lp : Option Nat} {dp k : Nat} {x : Rw} (h : JD1 D Z lp dp k x) (hz : ∀ T, Z T → Z' T) : JD1 D Z' lp dp k x := by
  obtain ⟨h1, h2, h3, h4⟩ := h
  refine ⟨h1, h2, fun h => ⟨(h3 h).1, ?_⟩, fun h => ?_⟩
  · obtain ⟨T, t1, t2, t3, t4⟩ := (h3 h).2
    exact ⟨T, t1, t2, hz T t3, t4⟩
  · rcases h4 h with h5 | ⟨T, t1, t2, t3, t4⟩
    · exact Or.inl h5
    · exact Or.inr ⟨T, t1, hz T t2, t3, t4⟩
theorem JD1_d {D D' : Nat → Nat} {Z : Nat → Prop} {lp : Option Nat} {dp k : Nat} {x : Rw} (h : JD1 D Z lp dp k x) (e0 : D' k = D k) (e1 : D' (k + 1) = D (k + 1)) (eZ : ∀ T, Z T → D' T = D T) : JD1 D' Z lp dp k x := by
  obtain ⟨h1, h2, h3, h4⟩ := h
  refine ⟨fun a b c => by rw [e0, e1]; exact h1 a b c, fun a => by rw [e0, e1]; exact h2 a, fun h => ⟨by rw [e0, e1]; exact (h3 h).1, ?_⟩, fun h => ?_⟩
  · obtain ⟨T, t1, t2, t3, t4⟩ := (h3 h).2
    exact ⟨T, t1, t2, t3, by rw [eZ T t3, e0]; exact t4⟩
  · rcases h4 h with ⟨l, l1, l2, l3⟩ | ⟨T, t1, t2, t3, t4⟩
    · exact Or.inl ⟨l, l1, l2, by rw [e0]; exact l3⟩
    · exact Or.inr ⟨T, t1, t2, fun a => by rw [eZ T t2, e0]; exact t3 a, fun a => by rw [eZ T t2, e0]; exact t4 a⟩
/-- steps without jumps -/
def flat (r : List Rw) : Prop := ∀ x ∈ r, x.1 ≠ 14 ∧ x.1 ≠ 15 ∧ x.1 ≠ 16
theorem JD1_f {D : Nat → Nat} {Z : Nat → Prop} {lp : Option Nat} {dp k : Nat} {x : Rw} (h : x.1 ≠ 14 ∧ x.1 ≠ 15 ∧ x.1 ≠ 16) (hD : D (k + 1) ≤ D k) : JD1 D Z lp dp k x := ⟨fun _ _ _ => hD, fun hh => absurd hh h.2.2, fun hh => absurd hh h.2.1, fun hh => absurd hh h.1⟩
theorem STR_f {i dp o : Nat} {r : List Rw} {lp : Option Nat} (h : flat r) : STR i r lp dp o :=
  ⟨fun _ => dp, ⟨rfl, rfl, fun _ _ => ⟨Nat.le_refl _, Nat.le_add_right _ _⟩⟩, fun _ x hx => JD1_f (h x (List.mem_of_getElem? hx)) (Nat.le_refl _)⟩
theorem flat_a {r r' : List Rw} (h : flat r) (h' : flat r') : flat (r ++ r') := fun x hx => by
  rcases List.mem_append.mp hx with hx | hx
  · exact h x hx
  · exact h' x hx
theorem flat_e {r : List Rw} (h : eops r) : flat r := fun x hx => by
  have := h x hx
  unfold eop at this
  omega
theorem flat_1 {x : Rw} (h : x.1 ≠ 14 ∧ x.1 ≠ 15 ∧ x.1 ≠ 16) : flat [x] := fun y hy => by rw [List.mem_singleton.mp hy]; exact h
/-- one behind the other -/
theorem STR_a {i dp o : Nat} {r r' : List Rw} {lp : Option Nat} (h : STR i r lp dp o) (h' : STR (i + r.length) r' lp dp o) (hr : hrn r 0 = 0) : STR i (r ++ r') lp dp o := by
  obtain ⟨D, ⟨d1, d2, d3⟩, hj⟩ := h
  obtain ⟨D', ⟨e1, e2, e3⟩, hj'⟩ := h'
  have g1 : ∀ {k}, k ≤ i + r.length → (fun k => if k ≤ i + r.length then D k else D' k) k = D k := fun hk => if_pos hk
  have g2 : ∀ {k}, i + r.length ≤ k → (fun k => if k ≤ i + r.length then D k else D' k) k = D' k := fun {k} hk => by
    by_cases h : k = i + r.length
    · subst h
      show (if i + r.length ≤ i + r.length then D (i + r.length) else _) = _
      rw [if_pos (Nat.le_refl _), d2, e1]
    · show (if k ≤ i + r.length then D k else D' k) = D' k
      rw [if_neg (by omega)]
  refine ⟨fun k => if k ≤ i + r.length then D k else D' k, ⟨(g1 (by omega)).trans d1, ?_, fun j hj2 => ?_⟩, fun j x hx => ?_⟩
  · rw [List.length_append, ← Nat.add_assoc]
    exact (g2 (by omega)).trans e2
  · by_cases h : j ≤ r.length
    · rw [show (fun k => if k ≤ i + r.length then D k else D' k) (i + j) = D (i + j) from g1 (by omega)]
      exact d3 j h
    · rw [show (fun k => if k ≤ i + r.length then D k else D' k) (i + j) = D' (i + j) from g2 (by omega)]
      rw [List.length_append] at hj2
      have := e3 (j - r.length) (by omega)
      rw [show i + r.length + (j - r.length) = i + j by omega] at this
      exact this
  · by_cases h : j < r.length
    · rw [List.getElem?_append_left h] at hx
      have h1 := JD1_d (hj j x hx) (g1 (by omega)) (g1 (by omega)) (fun T hT => g1 hT.2.1)
      refine JD1_z h1 (fun T hT => ?_)
      have := VL_m (i := i) (A := []) (r := r) (B := r') (T := T) rfl (by simpa using hT)
      simpa using this
    · rw [List.getElem?_append_right (by omega)] at hx
      have h0 := hj' (j - r.length) x hx
      rw [show i + r.length + (j - r.length) = i + j by omega] at h0
      have h1 := JD1_d h0 (g2 (by omega)) (g2 (by omega)) (fun T hT => g2 hT.1)
      refine JD1_z h1 (fun T hT => ?_)
      have := VL_m (i := i) (A := r) (r := r') (B := []) (T := T) hr hT
      simpa using this
/-- the breaks of a loop, place by place -/
theorem ptc_at {b : List Nat} : ∀ {i T : Nat} {r : List Rw} {j : Nat}, (∀ k ∈ b, i ≤ k) → (ptc b i T r)[j]? = if i + j ∈ b ∧ j < r.length then some (jmp 14 T) else r[j]? := by
  induction b with
  | nil => intro i T r j _; rw [if_neg (fun h => by simp at h)]; rfl
  | cons k b ih =>
    intro i T r j hb
    have hk := hb k (List.mem_cons_self ..)
    show (ptc b i T (r.set (k - i) (jmp 14 T)))[j]? = _
    rw [ih (fun x hx => hb x (List.mem_cons_of_mem _ hx)), List.length_set]
    by_cases h1 : i + j ∈ b ∧ j < r.length
    · rw [if_pos h1, if_pos ⟨List.mem_cons_of_mem _ h1.1, h1.2⟩]
    · rw [if_neg h1]
      by_cases h2 : j = k - i
      · by_cases h3 : j < r.length
        · rw [h2, List.getElem?_set_self (by omega), if_pos ⟨by rw [show i + (k - i) = k by omega]; exact List.mem_cons_self .., by omega⟩]
        · rw [List.getElem?_eq_none (by rw [List.length_set]; omega), if_neg (fun h => h3 h.2), List.getElem?_eq_none (by omega)]
      · rw [List.getElem?_set_ne (fun h => h2 h.symm), if_neg]
        intro h
        rcases List.mem_cons.mp h.1 with h4 | h4
        · omega
        · exact h1 ⟨h4, h.2⟩
theorem hky_j {T : Nat} : hky (jmp 14 T) = (0, 0) := by
  unfold hky hnd hpu jmp
  simp
theorem ptc_h {b : List Nat} {i T : Nat} {lp : Option Nat} {r : List Rw} (hb : bkP i lp r b) : (ptc b i T r).map hky = r.map hky := by
  apply List.ext_getElem?
  intro j
  rw [List.getElem?_map, List.getElem?_map, ptc_at (fun k hk => (hb k hk).1)]
  by_cases h : i + j ∈ b ∧ j < r.length
  · rw [if_pos h]
    obtain ⟨_, l, _, h2⟩ := hb _ h.1
    rw [show i + j - i = j by omega] at h2
    rw [h2, Option.map_some, Option.map_some, hky_j, hky_j]
  · rw [if_neg h]
theorem cal4_k {b : List Nat} {i T : Nat} {lp : Option Nat} {r : List Rw} (hb : bkP i lp r b) (h : cal4 (ptc b i T r)) : cal4 r := fun x hx hc => by
  obtain ⟨j, hj⟩ := List.getElem?_of_mem hx
  refine h x ?_ hc
  apply List.mem_of_getElem? (i := j)
  rw [ptc_at (fun k hk => (hb k hk).1)]
  by_cases h2 : i + j ∈ b ∧ j < r.length
  · obtain ⟨_, l, _, h3⟩ := hb _ h2.1
    rw [show i + j - i = j by omega, hj] at h3
    cases h3
    simp [jmp] at hc
  · rw [if_neg h2]; exact hj
theorem SHs_p {b : List Nat} {i T : Nat} {lp : Option Nat} {r : List Rw} (hb : bkP i lp r b) (h : SHs r) : SHs (ptc b i T r) := by
  have hk := (ptc_h (T := T) hb).symm
  exact ⟨by rw [← hrn_k hk]; exact h.1, hok_k hk h.2.1, hmx_k hk h.2.2.1, fun hc => hmx_k hk (h.2.2.2 (cal4_k hb hc))⟩
/-- a block behind a jump over it -/
theorem STR_if {i dp o : Nat} {rc rb : List Rw} {lp : Option Nat} (hf : flat rc) (hc : hrn rc 0 = 1) (hb : STR (i + rc.length + 1) rb lp dp o) (hs : hrn rb 0 = 0) : STR i (rc ++ jmp 15 (i + rc.length + 1 + rb.length) :: rb) lp dp o := by
  obtain ⟨D, ⟨d1, d2, d3⟩, hj⟩ := hb
  have hA : hrn (rc ++ [jmp 15 (i + rc.length + 1 + rb.length)]) 0 = 0 := by rw [hrn_a, hc]; rfl
  have eL : (rc ++ jmp 15 (i + rc.length + 1 + rb.length) :: rb).length = rc.length + 1 + rb.length := by simp; omega
  have eR : rc ++ jmp 15 (i + rc.length + 1 + rb.length) :: rb = (rc ++ [jmp 15 (i + rc.length + 1 + rb.length)]) ++ (rb ++ []) := by simp
  have g1 : ∀ {k}, k ≤ i + rc.length → (fun k => if k ≤ i + rc.length then dp else D k) k = dp := fun hk => if_pos hk
  have g2 : ∀ {k}, i + rc.length < k → (fun k => if k ≤ i + rc.length then dp else D k) k = D k := fun hk => if_neg (by omega)
  refine ⟨fun k => if k ≤ i + rc.length then dp else D k, ⟨g1 (by omega), ?_, fun j hj2 => ?_⟩, fun j x hx => ?_⟩
  · rw [eL]
    rw [show (fun k => if k ≤ i + rc.length then dp else D k) (i + (rc.length + 1 + rb.length)) = D (i + (rc.length + 1 + rb.length)) from g2 (by omega), show i + (rc.length + 1 + rb.length) = i + rc.length + 1 + rb.length by omega]
    exact d2
  · rw [eL] at hj2
    by_cases h : j ≤ rc.length
    · rw [show (fun k => if k ≤ i + rc.length then dp else D k) (i + j) = dp from g1 (by omega)]
      exact ⟨Nat.le_refl _, by omega⟩
    · rw [show (fun k => if k ≤ i + rc.length then dp else D k) (i + j) = D (i + j) from g2 (by omega)]
      have := d3 (j - rc.length - 1) (by omega)
      rw [show i + rc.length + 1 + (j - rc.length - 1) = i + j by omega] at this
      exact this
  · by_cases h : j < rc.length
    · rw [List.getElem?_append_left h] at hx
      refine JD1_f (hf x (List.mem_of_getElem? hx)) ?_
      show (fun k => if k ≤ i + rc.length then dp else D k) (i + j + 1) ≤ (fun k => if k ≤ i + rc.length then dp else D k) (i + j)
      rw [show (fun k => if k ≤ i + rc.length then dp else D k) (i + j + 1) = dp from g1 (by omega), show (fun k => if k ≤ i + rc.length then dp else D k) (i + j) = dp from g1 (by omega)]
      exact Nat.le_refl _
    · rw [List.getElem?_append_right (by omega)] at hx
      by_cases h0 : j - rc.length = 0
      · rw [h0] at hx
        simp only [List.getElem?_cons_zero, Option.some.injEq] at hx
        subst hx
        have ej : j = rc.length := by omega
        subst ej
        refine ⟨fun _ h15 => absurd rfl h15, fun h16 => by simp [jmp] at h16, fun _ => ⟨?_, i + rc.length + 1 + rb.length, rfl, by omega, ?_, ?_⟩, fun h14 => by simp [jmp] at h14⟩
        · rw [show (fun k => if k ≤ i + rc.length then dp else D k) (i + rc.length + 1) = D (i + rc.length + 1) from g2 (by omega), d1, show (fun k => if k ≤ i + rc.length then dp else D k) (i + rc.length) = dp from g1 (by omega)]
          exact Nat.le_refl _
        · have := VL_e (i := i) (r := rc ++ jmp 15 (i + rc.length + 1 + rb.length) :: rb) (by rw [eR, hrn_a, hA, List.append_nil]; exact hs)
          rw [eL] at this
          rw [show i + rc.length + 1 + rb.length = i + (rc.length + 1 + rb.length) by omega]
          rw [show i + rc.length + 1 + rb.length = i + (rc.length + 1 + rb.length) by omega] at this
          exact this
        · rw [show (fun k => if k ≤ i + rc.length then dp else D k) (i + rc.length + 1 + rb.length) = D (i + rc.length + 1 + rb.length) from g2 (by omega), d2, show (fun k => if k ≤ i + rc.length then dp else D k) (i + rc.length) = dp from g1 (by omega)]
          exact Nat.le_refl _
      · obtain ⟨m, hm⟩ : ∃ m, j = rc.length + 1 + m := ⟨j - rc.length - 1, by omega⟩
        subst hm
        rw [show rc.length + 1 + m - rc.length = m + 1 by omega, List.getElem?_cons_succ] at hx
        have h0' := hj m x hx
        rw [show i + rc.length + 1 + m = i + (rc.length + 1 + m) by omega] at h0'
        have h1 := JD1_d h0' (g2 (by omega)) (g2 (by omega)) (fun T hT => g2 (by have := hT.1; omega))
        refine JD1_z h1 (fun T hT => ?_)
        rw [eR]
        refine VL_m hA ?_
        rw [List.length_append, List.length_singleton, ← Nat.add_assoc]
        exact hT
/-- .. with another block -/
theorem STR_el {i dp o : Nat} {rc rb re : List Rw} {lp : Option Nat} (hf : flat rc) (hc : hrn rc 0 = 1) (hb : STR (i + rc.length + 1) rb lp dp o) (hs : hrn rb 0 = 0) (he : STR (i + rc.length + 1 + rb.length + 1) re lp dp o) (hs2 : hrn re 0 = 0) : STR i (rc ++ jmp 15 (i + rc.length + 1 + rb.length + 1) :: (rb ++ jmp 14 (i + rc.length + 1 + rb.length + 1 + re.length) :: re)) lp dp o := by
  obtain ⟨D, ⟨d1, d2, d3⟩, hj⟩ := hb
  obtain ⟨E, ⟨e1, e2, e3⟩, hj'⟩ := he
  generalize hT1 : i + rc.length + 1 + rb.length + 1 = T1 at *
  generalize hT2 : T1 + re.length = T2 at *
  have hA : hrn (rc ++ [jmp 15 T1]) 0 = 0 := by rw [hrn_a, hc]; rfl
  have hA2 : hrn (rc ++ [jmp 15 T1] ++ rb ++ [jmp 14 T2]) 0 = 0 := by rw [hrn_a, hrn_a, hA, hs]; rfl
  have eL : (rc ++ jmp 15 T1 :: (rb ++ jmp 14 T2 :: re)).length = rc.length + 1 + rb.length + 1 + re.length := by simp; omega
  have eR : rc ++ jmp 15 T1 :: (rb ++ jmp 14 T2 :: re) = (rc ++ [jmp 15 T1]) ++ (rb ++ (jmp 14 T2 :: re)) := by simp
  have eR2 : rc ++ jmp 15 T1 :: (rb ++ jmp 14 T2 :: re) = (rc ++ [jmp 15 T1] ++ rb ++ [jmp 14 T2]) ++ (re ++ []) := by simp
  have f1 : ∀ {k}, k ≤ i + rc.length → (fun k => if k ≤ i + rc.length then dp else if k < T1 then D k else E k) k = dp := fun hk => if_pos hk
  have f2 : ∀ {k}, i + rc.length < k → k < T1 → (fun k => if k ≤ i + rc.length then dp else if k < T1 then D k else E k) k = D k := fun hk h2 => by
    show (if _ then _ else _) = _
    rw [if_neg (by omega), if_pos h2]
  have f3 : ∀ {k}, T1 ≤ k → (fun k => if k ≤ i + rc.length then dp else if k < T1 then D k else E k) k = E k := fun hk => by
    show (if _ then _ else _) = _
    rw [if_neg (by omega), if_neg (by omega)]
  have v1 : VL i (rc ++ jmp 15 T1 :: (rb ++ jmp 14 T2 :: re)) T1 := by
    rw [eR2]
    have := VL_m (i := i) (A := rc ++ [jmp 15 T1] ++ rb ++ [jmp 14 T2]) (r := re) (B := []) (T := T1) hA2 (by
      rw [show i + (rc ++ [jmp 15 T1] ++ rb ++ [jmp 14 T2]).length = T1 by simp; omega]
      exact VL_0)
    exact this
  have v2 : VL i (rc ++ jmp 15 T1 :: (rb ++ jmp 14 T2 :: re)) T2 := by
    have := VL_e (i := i) (r := rc ++ jmp 15 T1 :: (rb ++ jmp 14 T2 :: re)) (by rw [eR2, hrn_a, hA2, List.append_nil]; exact hs2)
    rw [eL, show i + (rc.length + 1 + rb.length + 1 + re.length) = T2 by omega] at this
    exact this
  refine ⟨fun k => if k ≤ i + rc.length then dp else if k < T1 then D k else E k, ⟨f1 (by omega), ?_, fun j hj2 => ?_⟩, fun j x hx => ?_⟩
  · rw [eL, show i + (rc.length + 1 + rb.length + 1 + re.length) = T2 by omega]
    exact (f3 (by omega)).trans e2
  · rw [eL] at hj2
    by_cases h : i + j ≤ i + rc.length
    · rw [show (fun k => if k ≤ i + rc.length then dp else if k < T1 then D k else E k) (i + j) = dp from f1 h]
      exact ⟨Nat.le_refl _, by omega⟩
    · by_cases h2 : i + j < T1
      · rw [show (fun k => if k ≤ i + rc.length then dp else if k < T1 then D k else E k) (i + j) = D (i + j) from f2 (by omega) h2]
        have := d3 (j - rc.length - 1) (by omega)
        rw [show i + rc.length + 1 + (j - rc.length - 1) = i + j by omega] at this
        exact this
      · rw [show (fun k => if k ≤ i + rc.length then dp else if k < T1 then D k else E k) (i + j) = E (i + j) from f3 (by omega)]
        have := e3 (i + j - T1) (by omega)
        rw [show T1 + (i + j - T1) = i + j by omega] at this
        exact this
  · by_cases h : j < rc.length
    · rw [List.getElem?_append_left h] at hx
      refine JD1_f (hf x (List.mem_of_getElem? hx)) ?_
      show (fun k => if k ≤ i + rc.length then dp else if k < T1 then D k else E k) (i + j + 1) ≤ (fun k => if k ≤ i + rc.length then dp else if k < T1 then D k else E k) (i + j)
      rw [show (fun k => if k ≤ i + rc.length then dp else if k < T1 then D k else E k) (i + j + 1) = dp from f1 (by omega), show (fun k => if k ≤ i + rc.length then dp else if k < T1 then D k else E k) (i + j) = dp from f1 (by omega)]
      exact Nat.le_refl _
    · rw [List.getElem?_append_right (by omega)] at hx
      by_cases h0 : j - rc.length = 0
      · rw [h0] at hx
        simp only [List.getElem?_cons_zero, Option.some.injEq] at hx
        subst hx
        have ej : j = rc.length := by omega
        subst ej
        refine ⟨fun _ h15 => absurd rfl h15, fun h16 => by simp [jmp] at h16, fun _ => ⟨?_, T1, rfl, by omega, v1, ?_⟩, fun h14 => by simp [jmp] at h14⟩
        · rw [show (fun k => if k ≤ i + rc.length then dp else if k < T1 then D k else E k) (i + rc.length + 1) = D (i + rc.length + 1) from f2 (by omega) (by omega), d1, show (fun k => if k ≤ i + rc.length then dp else if k < T1 then D k else E k) (i + rc.length) = dp from f1 (by omega)]
          exact Nat.le_refl _
        · rw [show (fun k => if k ≤ i + rc.length then dp else if k < T1 then D k else E k) T1 = E T1 from f3 (by omega), e1, show (fun k => if k ≤ i + rc.length then dp else if k < T1 then D k else E k) (i + rc.length) = dp from f1 (by omega)]
          exact Nat.le_refl _
      · obtain ⟨m, hm⟩ : ∃ m, j = rc.length + 1 + m := ⟨j - rc.length - 1, by omega⟩
        subst hm
        rw [show rc.length + 1 + m - rc.length = m + 1 by omega, List.getElem?_cons_succ] at hx
        by_cases hmb : m < rb.length
        · rw [List.getElem?_append_left hmb] at hx
          have h0' := hj m x hx
          rw [show i + rc.length + 1 + m = i + (rc.length + 1 + m) by omega] at h0'
          have h1 := JD1_d (D' := fun k => if k ≤ i + rc.length then dp else if k < T1 then D k else E k) h0' (f2 (by omega) (by omega)) (f2 (by omega) (by omega)) (fun T hT => f2 (by have := hT.1; omega) (by have := hT.2.1; omega))
          refine JD1_z h1 (fun T hT => ?_)
          rw [eR]
          refine VL_m hA ?_
          rw [List.length_append, List.length_singleton, ← Nat.add_assoc]
          exact hT
        · rw [List.getElem?_append_right (by omega)] at hx
          by_cases h00 : m - rb.length = 0
          · rw [h00] at hx
            simp only [List.getElem?_cons_zero, Option.some.injEq] at hx
            subst hx
            have em : m = rb.length := by omega
            subst em
            refine ⟨fun h14 => absurd rfl h14, fun h16 => by simp [jmp] at h16, fun h15 => by simp [jmp] at h15, fun _ => Or.inr ⟨T2, rfl, v2, fun hle => by omega, fun _ => ?_⟩⟩
            rw [show (fun k => if k ≤ i + rc.length then dp else if k < T1 then D k else E k) T2 = E T2 from f3 (by omega), e2, show (fun k => if k ≤ i + rc.length then dp else if k < T1 then D k else E k) (i + (rc.length + 1 + rb.length)) = D (i + (rc.length + 1 + rb.length)) from f2 (by omega) (by omega), show i + (rc.length + 1 + rb.length) = i + rc.length + 1 + rb.length by omega, d2]
            exact Nat.le_refl _
          · obtain ⟨m2, hm2⟩ : ∃ m2, m = rb.length + 1 + m2 := ⟨m - rb.length - 1, by omega⟩
            subst hm2
            rw [show rb.length + 1 + m2 - rb.length = m2 + 1 by omega, List.getElem?_cons_succ] at hx
            have h0' := hj' m2 x hx
            rw [show T1 + m2 = i + (rc.length + 1 + (rb.length + 1 + m2)) by omega] at h0'
            have h1 := JD1_d (D' := fun k => if k ≤ i + rc.length then dp else if k < T1 then D k else E k) h0' (f3 (by omega)) (f3 (by omega)) (fun T hT => f3 hT.1)
            refine JD1_z h1 (fun T hT => ?_)
            rw [eR2]
            refine VL_m hA2 ?_
            rw [show i + (rc ++ [jmp 15 T1] ++ rb ++ [jmp 14 T2]).length = T1 by simp; omega]
            exact hT
