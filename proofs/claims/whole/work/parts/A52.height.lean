
/-! ===== how high the pile gets: expressions ===== -/
/-- what a step needs, what it leaves -/
def hnd (x : Rw) : Nat := if x.1 = 204 ∨ x.1 = 205 then x.2.1.toNatClampNeg else if x.1 = 203 ∨ (21 ≤ x.1 ∧ x.1 ≤ 31) then 2 else if x.1 = 202 ∨ x.1 = 206 ∨ x.1 = 19 ∨ x.1 = 20 ∨ x.1 = 5 ∨ x.1 = 207 ∨ x.1 = 201 ∨ x.1 = 11 ∨ x.1 = 15 ∨ x.1 = 17 ∨ x.1 = 208 then 1 else 0
def hpu (x : Rw) : Nat := if (1 ≤ x.1 ∧ x.1 ≤ 4) ∨ (19 ≤ x.1 ∧ x.1 ≤ 31) ∨ x.1 = 200 ∨ x.1 = 202 ∨ x.1 = 204 ∨ x.1 = 206 ∨ x.1 = 208 then 1 else 0
def hst (x : Rw) (h : Nat) : Nat := h - hnd x + hpu x
def hrn : List Rw → Nat → Nat
  | [], h => h
  | x :: r, h => hrn r (hst x h)
def hok : List Rw → Nat → Prop
  | [], _ => True
  | x :: r, h => hnd x ≤ h ∧ hok r (hst x h)
def hmx (M : Nat) : List Rw → Nat → Prop
  | [], h => h ≤ M
  | x :: r, h => h ≤ M ∧ hmx M r (hst x h)
theorem hrn_a : ∀ {r r' : List Rw} {h : Nat}, hrn (r ++ r') h = hrn r' (hrn r h)
  | [], _, _ => rfl
  | x :: r, r', h => hrn_a (r := r)
theorem hok_a : ∀ {r r' : List Rw} {h : Nat}, hok r h → hok r' (hrn r h) → hok (r ++ r') h
  | [], _, _, _, h => h
  | x :: r, r', h, h1, h2 => ⟨h1.1, hok_a h1.2 h2⟩
theorem hmx_a {M : Nat} : ∀ {r r' : List Rw} {h : Nat}, hmx M r h → hmx M r' (hrn r h) → hmx M (r ++ r') h
  | [], _, _, _, h => h
  | x :: r, r', h, h1, h2 => ⟨h1.1, hmx_a h1.2 h2⟩
theorem hmx_m {M M' : Nat} (hM : M ≤ M') : ∀ {r : List Rw} {h : Nat}, hmx M r h → hmx M' r h
  | [], _, h => Nat.le_trans h hM
  | x :: r, _, h => ⟨Nat.le_trans h.1 hM, hmx_m hM h.2⟩
theorem hmx_0 {M : Nat} : ∀ {r : List Rw} {h : Nat}, hmx M r h → h ≤ M
  | [], _, h => h
  | _ :: _, _, h => h.1
theorem hmx_1 {M h : Nat} {x : Rw} (h1 : h ≤ M) (h2 : hst x h ≤ M) : hmx M [x] h := ⟨h1, h2⟩
theorem hmx_e {M : Nat} : ∀ {r : List Rw} {h : Nat}, hmx M r h → hrn r h ≤ M
  | [], _, h => h
  | x :: r, _, h => hmx_e (r := r) h.2
/-- calls have at most four parameters -/
def cal4 (r : List Rw) : Prop := ∀ x ∈ r, x.1 = 204 ∨ x.1 = 205 → x.2.1.toNatClampNeg ≤ 4
theorem cal4_l {r r' : List Rw} (h : cal4 (r ++ r')) : cal4 r := fun x hx => h x (List.mem_append.mpr (Or.inl hx))
theorem cal4_r {r r' : List Rw} (h : cal4 (r ++ r')) : cal4 r' := fun x hx => h x (List.mem_append.mpr (Or.inr hx))
/-- the pile over an expression -/
def EH (r : List Rw) (p q o m : Nat) : Prop := (∀ h, hrn r h = h + 1 ∧ hok r h ∧ hmx (h + (q - p + 1) / 2) r h) ∧ (cal4 r → ∀ h, hmx (h + (8 * (12 - o) + 6 - m)) r h)
/-- over parameters: c of them -/
def AH (r : List Rw) (p q o c : Nat) : Prop := (∀ h, hrn r h = h + c ∧ hok r h ∧ hmx (h + (q - p + 1) / 2) r h) ∧ (cal4 r → c ≤ 4 → ∀ h, hmx (h + (8 * (12 - o) + 9)) r h) ∧ 2 * c ≤ q - p + 1
theorem EH_1 {x : Rw} {p q o m : Nat} (hx : hnd x = 0) (hy : hpu x = 1) (hq : p < q) (hm : m ≤ 5) : EH [x] p q o m := by
  have e : ∀ h, hst x h = h + 1 := fun h => by unfold hst; rw [hx, hy]; omega
  refine ⟨fun h => ⟨e h, ⟨by rw [hx]; omega, trivial⟩, hmx_1 (by omega) (by rw [e]; omega)⟩, fun _ h => hmx_1 (by omega) (by rw [e]; omega)⟩
/-- a step behind an expression that takes it and leaves one -/
theorem EH_u {r : List Rw} {x : Rw} {p q p' q' o o' m m' : Nat} (hx : hnd x = 1) (hy : hpu x = 1) (hr : EH r p q o m) (hp : p' ≤ p) (hq : q ≤ q') (hb : 8 * (12 - o) + 6 - m ≤ 8 * (12 - o') + 6 - m') (h0 : 1 ≤ 8 * (12 - o') + 6 - m') (hpq : p' < q') : EH (r ++ [x]) p' q' o' m' := by
  have e : ∀ h, hst x (h + 1) = h + 1 := fun h => by unfold hst; rw [hx, hy]; omega
  refine ⟨fun h => ?_, fun hc h => ?_⟩
  · obtain ⟨a1, a2, a3⟩ := hr.1 h
    refine ⟨?_, ?_, ?_⟩
    · rw [hrn_a, a1]; exact e h
    · refine hok_a a2 ?_
      rw [a1]
      exact ⟨by rw [hx]; omega, trivial⟩
    · refine hmx_a (hmx_m (by omega) a3) ?_
      rw [a1]
      exact hmx_1 (by omega) (by rw [e]; omega)
  · refine hmx_a (hmx_m (by omega) (hr.2 (cal4_l hc) h)) ?_
    rw [(hr.1 h).1]
    exact hmx_1 (by omega) (by rw [e]; omega)
/-- two expressions and a sign -/
theorem EH_b {r1 r2 : List Rw} {x : Rw} {p p1 p2 q o m : Nat} (hx : hnd x = 2) (hy : hpu x = 1) (h1 : EH r1 p p1 o m) (h2 : EH r2 p2 q o (m + 1)) (hp1 : p < p1) (hp2 : p1 < p2) (hq : p2 < q) (hm : m ≤ 4) : EH (r1 ++ r2 ++ [x]) p q o m := by
  have e : ∀ h, hst x (h + 1 + 1) = h + 1 := fun h => by unfold hst; rw [hx, hy]; omega
  refine ⟨fun h => ?_, fun hc h => ?_⟩
  · obtain ⟨a1, a2, a3⟩ := h1.1 h
    obtain ⟨b1, b2, b3⟩ := h2.1 (h + 1)
    have e2 : hrn (r1 ++ r2) h = h + 1 + 1 := by rw [hrn_a, a1, b1]
    refine ⟨by rw [hrn_a, e2]; exact e h, hok_a (hok_a a2 (by rw [a1]; exact b2)) (by rw [e2]; exact ⟨by rw [hx]; omega, trivial⟩), hmx_a (hmx_a (hmx_m (by omega) a3) (by rw [a1]; exact hmx_m (by omega) b3)) ?_⟩
    rw [e2]
    exact hmx_1 (by omega) (by rw [e]; omega)
  · have a1 := (h1.1 h).1
    have b1 := (h2.1 (h + 1)).1
    have e2 : hrn (r1 ++ r2) h = h + 1 + 1 := by rw [hrn_a, a1, b1]
    have c1 := h1.2 (cal4_l (cal4_l hc)) h
    have c2 := h2.2 (cal4_r (cal4_l hc)) (h + 1)
    have c3 := hmx_e c2
    rw [b1] at c3
    refine hmx_a (hmx_a c1 (by rw [a1]; exact hmx_m (by omega) c2)) ?_
    rw [e2]
    exact hmx_1 (by omega) (by rw [e]; omega)
/-- one more parameter -/
theorem AH_s {r r1 : List Rw} {p0 p q o c : Nat} (hr : AH r p0 p o c) (h1 : EH r1 p q o 0) (hp : p0 ≤ p) (hc : 0 < c → p0 + 2 * c ≤ p) (hq : p < q) : AH (r ++ r1) p0 q o (c + 1) := by
  have hcp : 2 * c ≤ p - p0 := by
    rcases Nat.eq_zero_or_pos c with h | h
    · omega
    · have := hc h; omega
  refine ⟨fun h => ?_, fun h4 h5 h => ?_, by omega⟩
  · obtain ⟨a1, a2, a3⟩ := hr.1 h
    obtain ⟨b1, b2, b3⟩ := h1.1 (h + c)
    refine ⟨by rw [hrn_a, a1, b1]; omega, hok_a a2 (by rw [a1]; exact b2), hmx_a (hmx_m (by omega) a3) ?_⟩
    rw [a1]
    exact hmx_m (by omega) b3
  · have a1 := (hr.1 h).1
    refine hmx_a (hr.2.1 (cal4_l h4) (by omega) h) ?_
    rw [a1]
    exact hmx_m (by omega) (h1.2 (cal4_r h4) (h + c))
/-- a call behind its parameters -/
theorem EH_c {r : List Rw} {nm : List Nat} {p q p' q' pl o c m : Nat} (hr : AH r p q (o + 1) c) (hp : p' < p) (hq : q < q') (ho : o < 12) (hc : c < 2147483648) (hm : m ≤ 5) (hpq : p ≤ q) : EH (r ++ [(204, Int32.ofNat c, nm, pl)]) p' q' o m := by
  have hx : hnd ((204, Int32.ofNat c, nm, pl) : Rw) = c := by
    unfold hnd
    rw [if_pos (Or.inl rfl)]
    exact oN_n hc
  have hy : hpu ((204, Int32.ofNat c, nm, pl) : Rw) = 1 := by
    unfold hpu
    rw [if_pos (by simp)]
  have e : ∀ h, hst ((204, Int32.ofNat c, nm, pl) : Rw) (h + c) = h + 1 := fun h => by unfold hst; rw [hx, hy]; omega
  refine ⟨fun h => ?_, fun h4 h => ?_⟩
  · obtain ⟨a1, a2, a3⟩ := hr.1 h
    refine ⟨by rw [hrn_a, a1]; exact e h, hok_a a2 (by rw [a1]; exact ⟨by rw [hx]; omega, trivial⟩), hmx_a (hmx_m (by omega) a3) ?_⟩
    rw [a1]
    have := hr.2.2
    exact hmx_1 (by omega) (by rw [e]; omega)
  · have h5 := h4 _ (List.mem_append.mpr (Or.inr (List.mem_singleton.mpr rfl))) (Or.inl rfl)
    have h6 : c ≤ 4 := by rw [show ((204, Int32.ofNat c, nm, pl) : Rw).2.1.toNatClampNeg = c from oN_n hc] at h5; exact h5
    have a1 := (hr.1 h).1
    have b := hr.2.1 (cal4_l h4) h6 h
    have b2 := hmx_e b
    rw [a1] at b2
    refine hmx_a (hmx_m (by omega) b) ?_
    rw [a1]
    exact hmx_1 (by omega) (by rw [e]; omega)
section MHX
variable {t : Nat → Int32} {n : Nat} {L : List (List Nat)}
def HXL (t : Nat → Int32) (n : Nat) (L : List (List Nat)) (f : Nat) : Prop := ∀ (m p o : Nat) (r : List Rw) (c q : Nat), m ≤ 5 → p ≤ n → o ≤ 12 → px t n L f m [] 0 p o = some (.inr (r, c, q)) → EH r p q o m
def HXC (t : Nat → Int32) (n : Nat) (L : List (List Nat)) (f : Nat) : Prop := ∀ (m pl p o : Nat) (r0 r : List Rw) (c q : Nat), 6 ≤ m → m ≤ 10 → pl < p → p ≤ n → o ≤ 12 → EH r0 pl p o (m - 6) → px t n L f m r0 0 p o = some (.inr (r, c, q)) → EH r pl q o (m - 6)
def HXA (t : Nat → Int32) (n : Nat) (L : List (List Nat)) (f : Nat) : Prop := ∀ (p0 p o c0 : Nat) (r0 r : List Rw) (c q : Nat), p0 ≤ p → p ≤ n → o ≤ 12 → AH r0 p0 p o c0 → (0 < c0 → p0 + 2 * c0 ≤ p) → px t n L f 11 r0 c0 p o = some (.inr (r, c, q)) → AH r p0 q o c ∧ c ≤ q ∧ tkk t n q = 41
theorem EH_w {r : List Rw} {p q o m m' : Nat} (h : EH r p q o m) (hm : m' ≤ m) : EH r p q o m' := ⟨h.1, fun hc h' => hmx_m (by omega) (h.2 hc h')⟩
theorem hnd_b {k p : Nat} (h : rnk k ≠ 0) : hnd ((cod k, 0, [], p) : Rw) = 2 ∧ hpu ((cod k, 0, [], p) : Rw) = 1 := by
  have h2 : 21 ≤ cod k ∧ cod k ≤ 31 := by
    unfold cod
    repeat' split
    all_goals omega
  unfold hnd hpu
  dsimp only
  rw [if_neg (by omega), if_pos (by omega), if_pos (by omega)]
  exact ⟨rfl, rfl⟩
theorem HX_C {f : Nat} (ht : txt t n) (iL : HXL t n L f) (iC : HXC t n L f) : HXC t n L (f + 1) := by
  intro m pl p o r0 r c q h6 h10 hpl hp ho hE hx
  unfold px at hx
  rw [if_neg (by omega), if_neg (by omega), if_pos (by omega)] at hx
  by_cases hr : rnk (tkk t n p) = m - 5
  · rw [if_pos hr] at hx
    have hb := nx_b (p := p) ht (rnk_tk (by omega))
    obtain ⟨r2, c2, q2, hx2, hx3⟩ := bnd_r hx
    have hE2 := iL (m - 5) (nx t n p) o r2 c2 q2 (by omega) hb.2.2 ho hx2
    have hb2 := (px_bd (L := L) ht f (m - 5) [] 0 (nx t n p) o hb.2.2).2 r2 c2 q2 hx2
    have hd := hnd_b (k := tkk t n p) (p := p) (by omega)
    have hq2 : nx t n p < q2 := hb2.2.2.1 (Or.inl (by omega))
    have hE3 : EH (r0 ++ r2 ++ [(cod (tkk t n p), 0, [], p)]) pl q2 o (m - 6) := EH_b hd.1 hd.2 hE (by rw [show m - 6 + 1 = m - 5 by omega]; exact hE2) hpl hb.2.1 hq2 (by omega)
    by_cases h8 : m = 8
    · rw [if_pos h8] at hx3
      cases hx3
      exact hE3
    · rw [if_neg h8] at hx3
      exact iC m pl q2 o _ r c q h6 h10 (by omega) hb2.2.1 ho hE3 hx3
  · rw [if_neg hr] at hx
    cases hx
    exact hE
theorem HX_A {f : Nat} (ht : txt t n) (iL : HXL t n L f) (iA : HXA t n L f) : HXA t n L (f + 1) := by
  intro p0 p o c0 r0 r c q hp0 hp ho hA hc hx
  unfold px at hx
  rw [if_neg (by omega), if_neg (by omega), if_neg (by omega)] at hx
  obtain ⟨r1, c1, q1, hx1, hx2⟩ := bnd_r hx
  have hE1 := iL 0 p o r1 c1 q1 (by omega) hp ho hx1
  have hb1 := (px_bd (L := L) ht f 0 [] 0 p o hp).2 r1 c1 q1 hx1
  have hq1 : p < q1 := hb1.2.2.1 (Or.inl (by omega))
  have hA1 := AH_s hA hE1 hp0 hc hq1
  have hc1 : p0 + 2 * c0 ≤ p := by
    rcases Nat.eq_zero_or_pos c0 with h | h
    · omega
    · exact hc h
  by_cases h44 : tkk t n q1 = 44
  · rw [if_pos h44] at hx2
    have hb := nx_b (p := q1) ht (by omega)
    have hA2 : AH (r0 ++ r1) p0 (nx t n q1) o (c0 + 1) := ⟨fun h => ⟨(hA1.1 h).1, (hA1.1 h).2.1, hmx_m (by omega) (hA1.1 h).2.2⟩, hA1.2.1, by have := hA1.2.2; omega⟩
    exact iA p0 (nx t n q1) o (c0 + 1) _ r c q (by omega) hb.2.2 ho hA2 (fun _ => by omega) hx2
  · rw [if_neg h44] at hx2
    by_cases h41 : tkk t n q1 = 41
    · rw [if_pos h41] at hx2
      cases hx2
      exact ⟨hA1, by omega, h41⟩
    · rw [if_neg h41] at hx2
      cases hx2
theorem HX_L {f : Nat} (ht : txt t n) (iL : HXL t n L f) (iC : HXC t n L f) (iA : HXA t n L f) : HXL t n L (f + 1) := by
  intro m p o r c q hm hp ho hx
  have hn := ht.1
  unfold px at hx
  by_cases h5 : m < 5
  · rw [if_pos h5] at hx
    obtain ⟨r1, c1, q1, hx1, hx2⟩ := bnd_r hx
    have hE1 := iL (m + 1) p o r1 c1 q1 (by omega) hp ho hx1
    have hb1 := (px_bd (L := L) ht f (m + 1) [] 0 p o hp).2 r1 c1 q1 hx1
    have := iC (m + 6) p q1 o r1 r c q (by omega) (by omega) (hb1.2.2.1 (Or.inl (by omega))) hb1.2.1 ho (by rw [show m + 6 - 6 = m by omega]; exact EH_w hE1 (by omega)) hx2
    rw [show m + 6 - 6 = m by omega] at this
    exact this
  · rw [if_neg h5, if_pos (by omega)] at hx
    have hm5 : m = 5 := by omega
    subst hm5
    unfold pfac at hx
    by_cases c1 : tkk t n p = 45 ∨ tkk t n p = 33
    · rw [if_pos c1] at hx
      by_cases h12 : 12 ≤ o
      · rw [if_pos h12] at hx; cases hx
      rw [if_neg h12] at hx
      have hb := nx_b (p := p) ht (by omega)
      obtain ⟨r1, c1', q1, hx1, hx2⟩ := bnd_r hx
      cases hx2
      have hE1 := iL 5 (nx t n p) (o + 1) r1 c1' q (by omega) hb.2.2 (by omega) hx1
      have hb1 := (px_bd (L := L) ht f 5 [] 0 (nx t n p) (o + 1) hb.2.2).2 r1 c1' q hx1
      refine EH_u ?_ ?_ hE1 (by omega) (Nat.le_refl _) (by omega) (by omega) (by have := hb1.2.2.1 (Or.inl (by omega)); omega)
      · unfold hnd
        dsimp only
        split <;> simp
      · unfold hpu
        dsimp only
        split <;> simp
    rw [if_neg c1] at hx
    by_cases c2 : tkk t n p = 40
    · rw [if_pos c2] at hx
      by_cases h12 : 12 ≤ o
      · rw [if_pos h12] at hx; cases hx
      rw [if_neg h12] at hx
      have hb := nx_b (p := p) ht (by omega)
      obtain ⟨r1, c1', q1, hx1, hx2⟩ := bnd_r hx
      have hE1 := iL 0 (nx t n p) (o + 1) r1 c1' q1 (by omega) hb.2.2 (by omega) hx1
      by_cases h41 : tkk t n q1 = 41
      · rw [if_pos h41] at hx2
        have hbq := nx_b (p := q1) ht (by omega)
        have hb1 := (px_bd (L := L) ht f 0 [] 0 (nx t n p) (o + 1) hb.2.2).2 r1 c1' q1 hx1
        cases hx2
        exact EH_u rfl rfl hE1 (by omega) (by omega) (by omega) (by omega) (by omega)
      · rw [if_neg h41] at hx2; cases hx2
    rw [if_neg c2] at hx
    by_cases c3 : tkk t n p = 3
    · rw [if_pos c3] at hx
      have hb := nx_b (p := p) ht (by omega)
      cases hx
      exact EH_1 rfl rfl hb.2.1 (by omega)
    rw [if_neg c3] at hx
    by_cases c4 : tkk t n p = 315
    · rw [if_pos c4] at hx
      have hb := nx_b (p := p) ht (by omega)
      cases hx
      exact EH_1 rfl rfl hb.2.1 (by omega)
    rw [if_neg c4] at hx
    by_cases c5 : tkk t n p = 316
    · rw [if_pos c5] at hx
      have hb := nx_b (p := p) ht (by omega)
      cases hx
      exact EH_1 rfl rfl hb.2.1 (by omega)
    rw [if_neg c5] at hx
    by_cases c6 : tkk t n p = 2
    · rw [if_pos c6] at hx
      have hb := nx_b (p := p) ht (by omega)
      by_cases d1 : tkk t n (nx t n p) = 91
      · rw [if_pos d1] at hx
        by_cases h12 : 12 ≤ o
        · rw [if_pos h12] at hx; cases hx
        rw [if_neg h12] at hx
        have hb2 := nx_b (p := nx t n p) ht (by omega)
        obtain ⟨r1, c1', q1, hx1, hx2⟩ := bnd_r hx
        have hE1 := iL 0 (nx t n (nx t n p)) (o + 1) r1 c1' q1 (by omega) hb2.2.2 (by omega) hx1
        by_cases h93 : tkk t n q1 = 93
        · rw [if_pos h93] at hx2
          have hbq := nx_b (p := q1) ht (by omega)
          have hb1 := (px_bd (L := L) ht f 0 [] 0 (nx t n (nx t n p)) (o + 1) hb2.2.2).2 r1 c1' q1 hx1
          cases hx2
          exact EH_u rfl rfl hE1 (by omega) (by omega) (by omega) (by omega) (by omega)
        · rw [if_neg h93] at hx2; cases hx2
      rw [if_neg d1] at hx
      by_cases d2 : tkk t n (nx t n p) = 40
      · rw [if_pos d2] at hx
        by_cases h12 : 12 ≤ o
        · rw [if_pos h12] at hx; cases hx
        rw [if_neg h12] at hx
        have hb2 := nx_b (p := nx t n p) ht (by omega)
        by_cases d3 : tkk t n (nx t n (nx t n p)) = 41
        · rw [if_pos d3] at hx
          have hb3 := nx_b (p := nx t n (nx t n p)) ht (by omega)
          cases hx
          exact EH_1 rfl rfl (by omega) (by omega)
        · rw [if_neg d3] at hx
          obtain ⟨r1, c1', q1, hx1, hx2⟩ := bnd_r hx
          have hA0 : AH [] (nx t n (nx t n p)) (nx t n (nx t n p)) (o + 1) 0 := ⟨fun h => ⟨rfl, trivial, by show h ≤ _; omega⟩, fun _ _ h => by show h ≤ _; omega, by omega⟩
          obtain ⟨hA1, hcq, h41⟩ := iA (nx t n (nx t n p)) (nx t n (nx t n p)) (o + 1) 0 [] r1 c1' q1 (Nat.le_refl _) hb2.2.2 (by omega) hA0 (fun h => by omega) hx1
          have hbq := nx_b (p := q1) ht (by omega)
          cases hx2
          exact EH_c hA1 (by omega) hbq.2.1 (by omega) (by omega) (by omega) ((px_bd (L := L) ht f 11 [] 0 (nx t n (nx t n p)) (o + 1) hb2.2.2).2 r1 c1' q1 hx1).1
      rw [if_neg d2] at hx
      cases hx
      cases kwi L (tkm t n p) 0 with
      | none => exact EH_1 rfl rfl hb.2.1 (by omega)
      | some j => exact EH_1 rfl rfl hb.2.1 (by omega)
    · rw [if_neg c6] at hx
      cases hx
/-- all of it -/
theorem HX (ht : txt t n) : ∀ f, HXL t n L f ∧ HXC t n L f ∧ HXA t n L f := by
  intro f
  induction f with
  | zero =>
    refine ⟨fun m p o r c q _ _ _ hx => ?_, fun m pl p o r0 r c q _ _ _ _ _ _ hx => ?_, fun p0 p o c0 r0 r c q _ _ _ _ _ hx => ?_⟩
    all_goals (unfold px at hx; cases hx)
  | succ f ih => exact ⟨HX_L ht ih.1 ih.2.1 ih.2.2, HX_C ht ih.1 ih.2.1, HX_A ht ih.1 ih.2.2⟩
theorem pX_H {p o : Nat} {r : List Rw} {c q : Nat} (ht : txt t n) (hp : p ≤ n) (ho : o ≤ 12) (h : pX t n L p o = some (.inr (r, c, q))) : EH r p q o 0 := (HX ht 21100).1 0 p o r c q (by omega) hp ho h
theorem pA_H {p o : Nat} {r : List Rw} {c q : Nat} (ht : txt t n) (hp : p ≤ n) (ho : o ≤ 12) (h : pA t n L p o = some (.inr (r, c, q))) : AH r p q o c ∧ c ≤ q := by
  have hA0 : AH [] p p o 0 := ⟨fun h => ⟨rfl, trivial, by show h ≤ _; omega⟩, fun _ _ h => by show h ≤ _; omega, by omega⟩
  have := (HX ht 21100).2.2 p p o 0 [] r c q (Nat.le_refl _) hp ho hA0 (fun h => by omega) h
  exact ⟨this.1, this.2.1⟩
end MHX
