
/-! ===== what the raw steps are ===== -/
def rwV (x : Rw) : Prop := (200 ≤ x.1 → x.1 ≤ 205 → isN x.2.2.1) ∧ x.2.2.2 ≤ 1500 ∧ ((x.1 = 4 ∨ x.1 = 5 ∨ x.1 = 207) → ∃ j, j < 10 ∧ x.2.1 = Int32.ofNat j) ∧ ((x.1 = 204 ∨ x.1 = 205) → ∃ c, c ≤ 1500 ∧ x.2.1 = Int32.ofNat c) ∧ ((1 ≤ x.1 ∧ x.1 ≤ 5) ∨ (11 ≤ x.1 ∧ x.1 ≤ 17) ∨ (19 ≤ x.1 ∧ x.1 ≤ 31) ∨ (200 ≤ x.1 ∧ x.1 ≤ 208)) ∧ (x.1 < 200 ∨ 205 < x.1 → x.1 ≠ 4 → x.1 ≠ 5 → x.2.2.1 = [])
def rVs (r : List Rw) : Prop := ∀ x ∈ r, rwV x
theorem rVs_a {r r' : List Rw} (h : rVs r) (h' : rVs r') : rVs (r ++ r') := fun x hx => by
  rcases List.mem_append.mp hx with hx | hx
  · exact h x hx
  · exact h' x hx
theorem rVs_1 {x : Rw} (h : rwV x) : rVs [x] := fun y hy => by rw [List.mem_singleton.mp hy]; exact h
theorem rVs_0 : rVs [] := fun x hx => absurd hx List.not_mem_nil
/-- a step without a name and without a number that counts -/
theorem rwV_s {k p : Nat} {v : Int32} (hp : p ≤ 1500) (h1 : k ≠ 4 ∧ k ≠ 5 ∧ k ≠ 207 ∧ k ≠ 204 ∧ k ≠ 205) (h2 : k < 200 ∨ 205 < k) (h3 : (1 ≤ k ∧ k ≤ 5) ∨ (11 ≤ k ∧ k ≤ 17) ∨ (19 ≤ k ∧ k ≤ 31) ∨ (200 ≤ k ∧ k ≤ 208)) : rwV (k, v, [], p) :=
  ⟨fun a b => by dsimp only at a b; omega, hp, fun h => by dsimp only at h; omega, fun h => by dsimp only at h; omega, h3, fun _ _ _ => rfl⟩
/-- a step with a name -/
theorem rwV_n {k p : Nat} {v : Int32} {nm : List Nat} (hp : p ≤ 1500) (hN : isN nm) (h1 : 200 ≤ k ∧ k ≤ 203) : rwV (k, v, nm, p) :=
  ⟨fun _ _ => hN, hp, fun h => by dsimp only at h; omega, fun h => by dsimp only at h; omega, Or.inr (Or.inr (Or.inr (by dsimp only; omega))), fun h => by dsimp only at h; omega⟩
theorem rwV_c {k p c : Nat} {nm : List Nat} (hp : p ≤ 1500) (hN : isN nm) (h1 : k = 204 ∨ k = 205) (hc : c ≤ 1500) : rwV (k, Int32.ofNat c, nm, p) :=
  ⟨fun _ _ => hN, hp, fun h => by dsimp only at h; omega, fun _ => ⟨c, hc, rfl⟩, Or.inr (Or.inr (Or.inr (by dsimp only; omega))), fun h => by dsimp only at h; omega⟩
theorem rwV_l {k p j : Nat} {nm : List Nat} (hp : p ≤ 1500) (h1 : k = 4 ∨ k = 5) (hj : j < 10) : rwV (k, Int32.ofNat j, nm, p) :=
  ⟨fun a b => by dsimp only at a b; omega, hp, fun _ => ⟨j, hj, rfl⟩, fun h => by dsimp only at h; omega, Or.inl (by dsimp only; omega), fun _ h4 h5 => by dsimp only at h4 h5; omega⟩
section MVX
variable {t : Nat → Int32} {n : Nat} {L : List (List Nat)}
theorem px_V (ht : txt t n) (hL : L.length ≤ 10) : ∀ (f m : Nat) (r : List Rw) (c p o : Nat), rVs r → p ≤ n → ∀ r' c' q, px t n L f m r c p o = some (.inr (r', c', q)) → rVs r' ∧ c' ≤ c + (q - p) := by
  intro f
  induction f with
  | zero => intro m r c p o _ _ r' c' q h; unfold px at h; cases h
  | succ f ih =>
    intro m r c p o hr hp r' c' q hx
    have hn := ht.1
    unfold px at hx
    by_cases h5 : m < 5
    · rw [if_pos h5] at hx
      obtain ⟨r1, c1, q1, hx1, hx2⟩ := bnd_r hx
      have hb1 := (px_bd (L := L) ht f (m + 1) [] 0 p o hp).2 r1 c1 q1 hx1
      have i1 := ih (m + 1) [] 0 p o rVs_0 hp r1 c1 q1 hx1
      have i2 := ih (m + 6) r1 0 q1 o i1.1 hb1.2.1 r' c' q hx2
      exact ⟨i2.1, by omega⟩
    rw [if_neg h5] at hx
    by_cases h6 : m = 5
    · rw [if_pos h6] at hx
      unfold pfac at hx
      by_cases c1 : tkk t n p = 45 ∨ tkk t n p = 33
      · rw [if_pos c1] at hx
        have hb := nx_b (p := p) ht (by omega)
        by_cases h12 : 12 ≤ o
        · rw [if_pos h12] at hx; cases hx
        rw [if_neg h12] at hx
        obtain ⟨r1, c1', q1, hx1, hx2⟩ := bnd_r hx
        cases hx2
        have i1 := ih 5 [] 0 (nx t n p) (o + 1) rVs_0 hb.2.2 r1 c1' q hx1
        refine ⟨rVs_a i1.1 (rVs_1 ?_), by omega⟩
        split
        · exact rwV_s (by omega) (by omega) (by omega) (by omega)
        · exact rwV_s (by omega) (by omega) (by omega) (by omega)
      rw [if_neg c1] at hx
      by_cases c2 : tkk t n p = 40
      · rw [if_pos c2] at hx
        have hb := nx_b (p := p) ht (by omega)
        by_cases h12 : 12 ≤ o
        · rw [if_pos h12] at hx; cases hx
        rw [if_neg h12] at hx
        obtain ⟨r1, c1', q1, hx1, hx2⟩ := bnd_r hx
        have i1 := ih 0 [] 0 (nx t n p) (o + 1) rVs_0 hb.2.2 r1 c1' q1 hx1
        by_cases h41 : tkk t n q1 = 41
        · rw [if_pos h41] at hx2
          cases hx2
          exact ⟨rVs_a i1.1 (rVs_1 (rwV_s (by omega) (by omega) (by omega) (by omega))), by omega⟩
        · rw [if_neg h41] at hx2; cases hx2
      rw [if_neg c2] at hx
      by_cases c3 : tkk t n p = 3
      · rw [if_pos c3] at hx
        cases hx
        exact ⟨rVs_1 (rwV_s (by omega) (by omega) (by omega) (by omega)), by omega⟩
      rw [if_neg c3] at hx
      by_cases c4 : tkk t n p = 315
      · rw [if_pos c4] at hx
        cases hx
        exact ⟨rVs_1 (rwV_s (by omega) (by omega) (by omega) (by omega)), by omega⟩
      rw [if_neg c4] at hx
      by_cases c5 : tkk t n p = 316
      · rw [if_pos c5] at hx
        cases hx
        exact ⟨rVs_1 (rwV_s (by omega) (by omega) (by omega) (by omega)), by omega⟩
      rw [if_neg c5] at hx
      by_cases c6 : tkk t n p = 2
      · rw [if_pos c6] at hx
        have hb := nx_b (p := p) ht (by omega)
        have hN := (tk2_N c6 ht).1
        by_cases d1 : tkk t n (nx t n p) = 91
        · rw [if_pos d1] at hx
          by_cases h12 : 12 ≤ o
          · rw [if_pos h12] at hx; cases hx
          rw [if_neg h12] at hx
          have hb2 := nx_b (p := nx t n p) ht (by omega)
          obtain ⟨r1, c1', q1, hx1, hx2⟩ := bnd_r hx
          have i1 := ih 0 [] 0 (nx t n (nx t n p)) (o + 1) rVs_0 hb2.2.2 r1 c1' q1 hx1
          by_cases h93 : tkk t n q1 = 93
          · rw [if_pos h93] at hx2
            cases hx2
            exact ⟨rVs_a i1.1 (rVs_1 (rwV_n (by omega) hN (by omega))), by omega⟩
          · rw [if_neg h93] at hx2; cases hx2
        rw [if_neg d1] at hx
        by_cases d2 : tkk t n (nx t n p) = 40
        · rw [if_pos d2] at hx
          by_cases h12 : 12 ≤ o
          · rw [if_pos h12] at hx; cases hx
          rw [if_neg h12] at hx
          have hb2 := nx_b (p := nx t n p) ht (by omega)
          by_cases d3 : tkk t n (nx t n (nx t n p)) = 41
          · rw [if_pos d3] at hx
            cases hx
            exact ⟨rVs_1 (rwV_c (c := 0) (by omega) hN (Or.inl rfl) (by omega)), by omega⟩
          · rw [if_neg d3] at hx
            obtain ⟨r1, c1', q1, hx1, hx2⟩ := bnd_r hx
            have i1 := ih 11 [] 0 (nx t n (nx t n p)) (o + 1) rVs_0 hb2.2.2 r1 c1' q1 hx1
            have hb1 := (px_bd (L := L) ht f 11 [] 0 (nx t n (nx t n p)) (o + 1) hb2.2.2).2 r1 c1' q1 hx1
            cases hx2
            exact ⟨rVs_a i1.1 (rVs_1 (rwV_c (by omega) hN (Or.inl rfl) (by omega))), by omega⟩
        rw [if_neg d2] at hx
        cases hx
        refine ⟨rVs_1 ?_, by omega⟩
        cases hk : kwi L (tkm t n p) 0 with
        | none => exact rwV_n (by omega) hN (by omega)
        | some j =>
          have := kwi_lt hk
          exact rwV_l (by omega) (Or.inl rfl) (by omega)
      · rw [if_neg c6] at hx
        cases hx
    rw [if_neg h6] at hx
    by_cases h11 : m < 11
    · rw [if_pos h11] at hx
      by_cases hrk : rnk (tkk t n p) = m - 5
      · rw [if_pos hrk] at hx
        have hb := nx_b (p := p) ht (rnk_tk (by omega))
        obtain ⟨r2, c2, q2, hx2, hx3⟩ := bnd_r hx
        have i1 := ih (m - 5) [] 0 (nx t n p) o rVs_0 hb.2.2 r2 c2 q2 hx2
        have hb2 := (px_bd (L := L) ht f (m - 5) [] 0 (nx t n p) o hb.2.2).2 r2 c2 q2 hx2
        have hcd : 21 ≤ cod (tkk t n p) ∧ cod (tkk t n p) ≤ 31 := by
          unfold cod
          repeat' split
          all_goals omega
        have hv : rVs (r ++ r2 ++ [(cod (tkk t n p), 0, [], p)]) := rVs_a (rVs_a hr i1.1) (rVs_1 (rwV_s (by omega) (by omega) (by omega) (by omega)))
        by_cases h8 : m = 8
        · rw [if_pos h8] at hx3
          cases hx3
          exact ⟨hv, by omega⟩
        · rw [if_neg h8] at hx3
          have i2 := ih m _ 0 q2 o hv hb2.2.1 r' c' q hx3
          exact ⟨i2.1, by omega⟩
      · rw [if_neg hrk] at hx
        cases hx
        exact ⟨hr, by omega⟩
    · rw [if_neg h11] at hx
      obtain ⟨r1, c1, q1, hx1, hx2⟩ := bnd_r hx
      have i1 := ih 0 [] 0 p o rVs_0 hp r1 c1 q1 hx1
      have hb1 := (px_bd (L := L) ht f 0 [] 0 p o hp).2 r1 c1 q1 hx1
      have hq1 : p < q1 := hb1.2.2.1 (Or.inl (by omega))
      by_cases h44 : tkk t n q1 = 44
      · rw [if_pos h44] at hx2
        have hb := nx_b (p := q1) ht (by omega)
        have i2 := ih 11 _ (c + 1) (nx t n q1) o (rVs_a hr i1.1) hb.2.2 r' c' q hx2
        have hb2 := (px_bd (L := L) ht f 11 (r ++ r1) (c + 1) (nx t n q1) o hb.2.2).2 r' c' q hx2
        exact ⟨i2.1, by omega⟩
      · rw [if_neg h44] at hx2
        by_cases h41 : tkk t n q1 = 41
        · rw [if_pos h41] at hx2
          cases hx2
          exact ⟨rVs_a hr i1.1, by omega⟩
        · rw [if_neg h41] at hx2
          cases hx2
theorem pX_V {p o : Nat} {r : List Rw} {c q : Nat} (ht : txt t n) (hL : L.length ≤ 10) (hp : p ≤ n) (h : pX t n L p o = some (.inr (r, c, q))) : rVs r := (px_V ht hL 21100 0 [] 0 p o rVs_0 hp r c q h).1
theorem ptc_V {b : List Nat} {i T : Nat} {lp : Option Nat} {r : List Rw} (hb : bkP i lp r b) (h : rVs r) : rVs (ptc b i T r) := fun x hx => by
  obtain ⟨j, hj⟩ := List.getElem?_of_mem hx
  rw [ptc_at (fun k hk => (hb k hk).1)] at hj
  by_cases h2 : i + j ∈ b ∧ j < r.length
  · rw [if_pos h2] at hj
    cases hj
    exact rwV_s (by omega) (by omega) (by omega) (by omega)
  · rw [if_neg h2] at hj
    exact h x (List.mem_of_getElem? hj)
theorem jmp_V {op T : Nat} (h : op = 14 ∨ op = 15) : rwV (jmp op T) := rwV_s (by omega) (by omega) (by omega) (by omega)
theorem pcn_V {p o : Nat} {rc : List Rw} {q : Nat} (ht : txt t n) (hL : L.length ≤ 10) (h2 : tkk t n p ≠ 0) (h : pcn t n L p o = .inr (rc, q)) : rVs rc := by
  have bp := nx_b (p := p) ht h2
  unfold pcn at h
  by_cases c : tkk t n (nx t n p) = 40 ∧ o < 12
  · rw [if_pos c] at h
    have bp2 := nx_b (p := nx t n p) ht (by omega)
    cases hx : pX t n L (nx t n (nx t n p)) (o + 1) with
    | none => exact absurd hx (pX_n ht bp2.2.2)
    | some res =>
      rw [hx] at h
      unfold pcnr at h
      rcases res with q1 | ⟨r, c1, q1⟩
      · cases h
      · simp only [] at h
        by_cases h41 : tkk t n q1 = 41
        · rw [if_pos h41] at h
          cases h
          exact rVs_a (pX_V ht hL bp2.2.2 hx) (rVs_1 (rwV_s (by omega) (by omega) (by omega) (by omega)))
        · rw [if_neg h41] at h; cases h
  · rw [if_neg c] at h; cases h
/-- all statements -/
theorem pst_V {fm : Nat} {Nf : List (List Nat)} (ht : txt t n) : ∀ (f m p o i : Nat) (L : List (List Nat)) (ck : Nat) (lp : Option Nat) (r : List Rw) (L' : List (List Nat)) (c : Nat) (b : List Nat) (q : Nat), p ≤ n → L.length ≤ 10 → pst t n fm Nf f m p o i L ck lp = some (.inr (r, L', c, b, q)) → rVs r := by
  intro f
  induction f with
  | zero => intro m p o i L ck lp r L' c b q _ _ h; simp [pst] at h
  | succ f ih =>
    intro m p o i L ck lp r L' c b q hp hL h
    have hn := ht.1
    unfold pst at h
    by_cases m0 : m = 0
    · rw [if_pos m0] at h
      by_cases c0 : tkk t n p = 125
      · rw [if_pos c0] at h
        cases h
        exact rVs_0
      · rw [if_neg c0] at h
        rcases bs_r h with ⟨_, _, h3⟩ | ⟨r1, L1, c1, b1, q1, hx1, h3⟩
        · cases h3
        · have hB1 := (pst_B ht _ _ _ _ _ _ _ _ _ hp hL hx1).2 r1 L1 c1 b1 q1 rfl
          rcases bs_r h3 with ⟨_, _, h4⟩ | ⟨r2, L2, c2, b2, q2, hx2, h4⟩
          · cases h4
          · cases h4
            exact rVs_a (ih 1 p o i L ck lp r1 L1 c1 b1 q1 hp hL hx1) (ih 0 q1 o (i + r1.length) L1 c1 lp r2 _ _ b2 _ hB1.2.1 hB1.2.2.2.2.2.1 hx2)
    rw [if_neg m0] at h
    by_cases c2 : tkk t n p = 2
    · rw [if_pos c2] at h
      have bp := nx_b (p := p) ht (by omega)
      have hN := (tk2_N c2 ht).1
      unfold pnam at h
      by_cases c1 : tkk t n (nx t n p) = 40
      · rw [if_pos c1] at h
        have bp2 := nx_b (p := nx t n p) ht (by omega)
        by_cases h12 : 12 ≤ o
        · rw [if_pos h12] at h; cases h
        rw [if_neg h12] at h
        by_cases c3 : tkk t n (nx t n (nx t n p)) = 41
        · rw [if_pos c3] at h
          rcases tT_r h with ⟨_, h3⟩ | ⟨_, h3⟩
          · cases h3
            exact rVs_1 (rwV_c (c := 0) (by omega) hN (Or.inr rfl) (by omega))
          · cases h3
        · rw [if_neg c3] at h
          rcases aT_r h with ⟨_, _, h3⟩ | ⟨r1, c3, q1, hx, h3⟩
          · cases h3
          · rcases tT_r h3 with ⟨_, h4⟩ | ⟨_, h4⟩
            · cases h4
              have hv := px_V ht hL 21100 11 [] 0 (nx t n (nx t n p)) (o + 1) rVs_0 bp2.2.2 r1 c3 q1 hx
              have hb := pA_b ht bp2.2.2 hx
              exact rVs_a hv.1 (rVs_1 (rwV_c (by omega) hN (Or.inr rfl) (by omega)))
            · cases h4
      · rw [if_neg c1] at h
        by_cases c3 : tkk t n (nx t n p) = 91
        · rw [if_pos c3] at h
          have bp2 := nx_b (p := nx t n p) ht (by omega)
          by_cases h12 : 12 ≤ o
          · rw [if_pos h12] at h; cases h
          rw [if_neg h12] at h
          rcases eT_r h with ⟨_, _, h3⟩ | ⟨r1, c3, q1, hx, ⟨h93, h3⟩ | ⟨_, h3⟩⟩
          · cases h3
          · have hb1 := pX_b ht bp2.2.2 hx
            have bq := nx_b (p := q1) ht (by omega)
            rcases tT_r h3 with ⟨h61, h4⟩ | ⟨_, h4⟩
            · have bq2 := nx_b (p := nx t n q1) ht (by omega)
              rcases eT_r h4 with ⟨_, _, h5⟩ | ⟨r2, c4, q2, hx2, ⟨h59, h5⟩ | ⟨_, h5⟩⟩
              · cases h5
              · cases h5
                exact rVs_a (rVs_a (pX_V ht hL bp2.2.2 hx) (pX_V ht hL bq2.2.2 hx2)) (rVs_1 (rwV_n (by omega) hN (by omega)))
              · cases h5
            · cases h4
          · cases h3
        · rw [if_neg c3] at h
          rcases tT_r h with ⟨h61, h3⟩ | ⟨_, h3⟩
          · have bp2 := nx_b (p := nx t n p) ht (by omega)
            rcases eT_r h3 with ⟨_, _, h5⟩ | ⟨r2, c4, q2, hx2, ⟨h59, h5⟩ | ⟨_, h5⟩⟩
            · cases h5
            · cases h5
              refine rVs_a (pX_V ht hL bp2.2.2 hx2) (rVs_1 ?_)
              unfold asg
              cases hk : kwi L (tkm t n p) 0 with
              | none => exact rwV_n (by omega) hN (by omega)
              | some j =>
                have := kwi_lt hk
                exact rwV_l (by omega) (Or.inr rfl) (by omega)
            · cases h5
          · cases h3
    rw [if_neg c2] at h
    by_cases c3 : tkk t n p = 307
    · rw [if_pos c3] at h
      have bp := nx_b (p := p) ht (by omega)
      unfold plet at h
      by_cases hw : nwL t n L Nf 10 (nx t n p) = true
      · rw [if_pos hw] at h
        have hw' := nwL_t.mp hw
        have bp2 := nx_b (p := nx t n p) ht (by omega)
        rcases tT_r h with ⟨h61, h3⟩ | ⟨_, h3⟩
        · have bp3 := nx_b (p := nx t n (nx t n p)) ht (by omega)
          rcases eT_r h3 with ⟨_, _, h5⟩ | ⟨r2, c4, q2, hx2, ⟨h59, h5⟩ | ⟨_, h5⟩⟩
          · cases h5
          · cases h5
            exact rVs_a (pX_V ht hL bp3.2.2 hx2) (rVs_1 ⟨fun a b => by dsimp only at a b; omega, by dsimp only; omega, fun _ => ⟨L.length, hw'.2.2.2, rfl⟩, fun h => by dsimp only at h; omega, Or.inr (Or.inr (Or.inr (by dsimp only; omega))), fun _ _ _ => rfl⟩)
          · cases h5
        · cases h3
      · rw [if_neg hw] at h; cases h
    rw [if_neg c3] at h
    by_cases c4 : tkk t n p = 308
    · rw [if_pos c4] at h
      unfold pif at h
      rw [pcon_e ht (by omega)] at h
      cases hc : pcn t n L p o with
      | inl q1 => rw [hc] at h; cases h
      | inr v =>
        obtain ⟨rc, q1⟩ := v
        rw [hc] at h
        have k1 := pcn_V ht hL (by omega) hc
        have hcb := pcn_b ht (by omega) hc
        rcases pblk_c h with ⟨_, h3⟩ | ⟨hbr, ⟨_, _, h3⟩ | ⟨rb, L1, c1, b1, q2, hx1, h3⟩⟩
        · cases h3
        · cases h3
        · have bq1 := nx_b (p := q1) ht (by omega)
          have hB1 := (pst_B ht _ _ _ _ _ _ _ _ _ bq1.2.2 hL hx1).2 rb L1 c1 b1 q2 rfl
          have bq2 := nx_b (p := q2) ht (by have := hB1.2.2.2.2.2.2.2.1 rfl; omega)
          have t1 := ih 0 (nx t n q1) (o + 1) (i + rc.length + 1) L ck lp rb L1 c1 b1 q2 bq1.2.2 hL hx1
          by_cases c9 : tkk t n (nx t n q2) = 309
          · rw [if_pos c9] at h3
            have bq3 := nx_b (p := nx t n q2) ht (by omega)
            rcases pblk_c h3 with ⟨_, h4⟩ | ⟨hbr2, ⟨_, _, h4⟩ | ⟨re, L2, c2', b2, q3, hx2, h4⟩⟩
            · cases h4
            · cases h4
            · cases h4
              have bq4 := nx_b (p := nx t n (nx t n q2)) ht (by omega)
              have t2 := ih 0 (nx t n (nx t n (nx t n q2))) (o + 1) (i + rc.length + 1 + rb.length + 1) L1 c1 lp re _ _ b2 _ bq4.2.2 hB1.2.2.2.2.2.1 hx2
              have := rVs_a k1 (rVs_a (rVs_1 (jmp_V (T := i + rc.length + 1 + rb.length + 1) (Or.inr rfl))) (rVs_a t1 (rVs_a (rVs_1 (jmp_V (T := i + rc.length + 1 + rb.length + 1 + re.length) (Or.inl rfl))) t2)))
              simpa using this
          · rw [if_neg c9] at h3
            cases h3
            have := rVs_a k1 (rVs_a (rVs_1 (jmp_V (T := i + rc.length + 1 + rb.length) (Or.inr rfl))) t1)
            simpa using this
    rw [if_neg c4] at h
    by_cases c5 : tkk t n p = 310
    · rw [if_pos c5] at h
      unfold pwh at h
      rw [pcon_e ht (by omega)] at h
      cases hc : pcn t n L p o with
      | inl q1 => rw [hc] at h; cases h
      | inr v =>
        obtain ⟨rc, q1⟩ := v
        rw [hc] at h
        have k1 := pcn_V ht hL (by omega) hc
        have hcb := pcn_b ht (by omega) hc
        rcases pblk_c h with ⟨_, h3⟩ | ⟨hbr, ⟨_, _, h3⟩ | ⟨rb, L1, c1, b1, q2, hx1, h3⟩⟩
        · cases h3
        · cases h3
        · have bq1 := nx_b (p := q1) ht (by omega)
          have t1 := ih 0 (nx t n q1) (o + 1) (i + rc.length + 2) L ck (some i) rb L1 c1 b1 q2 bq1.2.2 hL hx1
          have hbk := pst_bk (t := t) (n := n) _ _ _ _ _ _ _ _ _ _ _ _ _ hx1
          cases h3
          have := rVs_a k1 (rVs_a (rVs_1 (jmp_V (T := i + rc.length + 2 + rb.length + 1) (Or.inr rfl))) (rVs_a (rVs_1 (x := ((16, 0, [], 0) : Rw)) (rwV_s (by omega) (by omega) (by omega) (by omega))) (rVs_a (ptc_V (T := i + rc.length + 2 + rb.length + 1) hbk t1) (rVs_1 (jmp_V (T := i) (Or.inl rfl))))))
          simpa using this
    rw [if_neg c5] at h
    by_cases c6 : tkk t n p = 311 ∨ tkk t n p = 312
    · rw [if_pos c6] at h
      unfold plv at h
      cases lp with
      | none => cases h
      | some l =>
        simp only [] at h
        rcases tT_r h with ⟨_, h3⟩ | ⟨_, h3⟩
        · cases h3
          exact rVs_1 (rwV_s (by omega) (by omega) (by omega) (by omega))
        · cases h3
    rw [if_neg c6] at h
    by_cases c7 : tkk t n p = 313
    · rw [if_pos c7] at h
      have bp := nx_b (p := p) ht (by omega)
      unfold pret at h
      by_cases f4 : fm = 4
      · rw [if_pos f4] at h; cases h
      rw [if_neg f4] at h
      by_cases f2 : fm = 2
      · rw [if_pos f2] at h
        rcases eT_r h with ⟨_, _, h5⟩ | ⟨r2, c4, q2, hx2, ⟨h59, h5⟩ | ⟨_, h5⟩⟩
        · cases h5
        · cases h5
          exact rVs_a (pX_V ht hL bp.2.2 hx2) (rVs_1 (rwV_s (by omega) (by omega) (by omega) (by omega)))
        · cases h5
      · rw [if_neg f2] at h
        rcases tT_r h with ⟨_, h3⟩ | ⟨_, h3⟩
        · cases h3
          exact rVs_1 (rwV_s (by omega) (by omega) (by omega) (by omega))
        · cases h3
    rw [if_neg c7] at h
    by_cases c8 : tkk t n p = 314
    · rw [if_pos c8] at h
      have bp := nx_b (p := p) ht (by omega)
      unfold pchk at h
      rcases eT_r h with ⟨_, _, h5⟩ | ⟨r2, c4, q2, hx2, ⟨h59, h5⟩ | ⟨_, h5⟩⟩
      · cases h5
      · cases h5
        have := rVs_a (pX_V ht hL bp.2.2 hx2) (rVs_a (rVs_1 (x := ((208, 1, [], 0) : Rw)) (rwV_s (by omega) (by omega) (by omega) (by omega))) (rVs_1 (x := ((17, Int32.ofNat ck, [], 0) : Rw)) (rwV_s (by omega) (by omega) (by omega) (by omega))))
        simpa using this
      · cases h5
    · rw [if_neg c8] at h
      cases h
end MVX
