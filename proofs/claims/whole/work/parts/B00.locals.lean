
/-! ===== locals and the height where control goes elsewhere ===== -/
/-- a step with m locals so far and h values on the pile -/
def stO (fm m h : Nat) (x : Rw) : Prop :=
  (x.1 = 4 ∨ x.1 = 5 → ∃ j, j < m ∧ x.2.1 = Int32.ofNat j) ∧ (x.1 = 207 → x.2.1 = Int32.ofNat m ∧ m < 10) ∧
  (x.1 = 14 ∨ x.1 = 16 → h = 0) ∧ (x.1 = 15 ∨ x.1 = 17 → h = 1) ∧ (x.1 = 11 → fm = 2 ∧ h = 1) ∧ (x.1 = 12 → fm = 3 ∧ h = 0) ∧ (x.1 = 13 → fm = 4 ∧ h = 0)
def lvn (x : Rw) (m : Nat) : Nat := if x.1 = 207 then m + 1 else m
def KS (fm : Nat) : List Rw → Nat → Nat → Prop
  | [], _, _ => True
  | x :: r, m, h => stO fm m h x ∧ KS fm r (lvn x m) (hst x h)
def lvs : List Rw → Nat → Nat
  | [], m => m
  | x :: r, m => lvs r (lvn x m)
theorem lvs_a : ∀ {r r' : List Rw} {m : Nat}, lvs (r ++ r') m = lvs r' (lvs r m)
  | [], _, _ => rfl
  | x :: r, r', m => lvs_a (r := r)
theorem KS_a {fm : Nat} : ∀ {r r' : List Rw} {m h : Nat}, KS fm r m h → KS fm r' (lvs r m) (hrn r h) → KS fm (r ++ r') m h
  | [], _, _, _, _, h => h
  | x :: r, r', m, h, h1, h2 => ⟨h1.1, KS_a h1.2 h2⟩
theorem KS_at {fm : Nat} {x : Rw} {r2 : List Rw} : ∀ {r1 : List Rw} {m h : Nat}, KS fm (r1 ++ x :: r2) m h → stO fm (lvs r1 m) (hrn r1 h) x
  | [], _, _, h => h.1
  | y :: r1, m, h, hh => KS_at (r1 := r1) hh.2
/-- a step that is none of these -/
theorem stO_n {fm m h : Nat} {x : Rw} (hx : x.1 ≠ 4 ∧ x.1 ≠ 5 ∧ x.1 ≠ 207 ∧ (x.1 < 11 ∨ 17 < x.1)) : stO fm m h x :=
  ⟨fun hh => by omega, fun hh => by omega, fun hh => by omega, fun hh => by omega, fun hh => by omega, fun hh => by omega, fun hh => by omega⟩
theorem KS_e {fm m : Nat} : ∀ {r : List Rw} {h : Nat}, eops r → (∀ x ∈ r, x.1 = 4 → ∃ j, j < m ∧ x.2.1 = Int32.ofNat j) → KS fm r m h ∧ lvs r m = m
  | [], _, _, _ => ⟨trivial, rfl⟩
  | x :: r, h, he, hl => by
    have hx := he x (by simp)
    unfold eop at hx
    have h7 : lvn x m = m := by unfold lvn; rw [if_neg (by omega)]
    have ih := KS_e (fm := fm) (m := m) (r := r) (h := hst x h) (fun y hy => he y (by simp [hy])) (fun y hy => hl y (by simp [hy]))
    refine ⟨⟨⟨fun hh => hl x (by simp) (by omega), fun hh => by omega, fun hh => by omega, fun hh => by omega, fun hh => by omega, fun hh => by omega, fun hh => by omega⟩, by rw [h7]; exact ih.1⟩, ?_⟩
    show lvs r (lvn x m) = m
    rw [h7]
    exact ih.2
def ky (x : Rw) : Nat × Int32 := (x.1, if x.1 = 14 then 0 else x.2.1)
theorem ky_e {x y : Rw} (h : ky x = ky y) : x.1 = y.1 ∧ (x.1 ≠ 14 → x.2.1 = y.2.1) := by
  unfold ky at h
  have h1 := (Prod.mk.inj h).1
  refine ⟨h1, fun hn => ?_⟩
  have h2 := (Prod.mk.inj h).2
  rw [if_neg hn, if_neg (by rw [← h1]; exact hn)] at h2
  exact h2
theorem hst_ky {x y : Rw} {h : Nat} (hk : ky x = ky y) : hst x h = hst y h := by
  obtain ⟨h1, h2⟩ := ky_e hk
  have a : hnd x = hnd y := by
    by_cases h14 : x.1 = 14
    · unfold hnd
      rw [if_neg (by omega), if_neg (by omega), if_neg (by omega), if_neg (by omega), if_neg (by omega), if_neg (by omega)]
    · unfold hnd
      rw [h2 h14, h1]
  have b : hpu x = hpu y := by unfold hpu; rw [h1]
  unfold hst
  rw [a, b]
theorem KS_ky {fm : Nat} : ∀ {r r' : List Rw} {m h : Nat}, r.map ky = r'.map ky → KS fm r m h → KS fm r' m h ∧ lvs r' m = lvs r m
  | [], [], _, _, _, _ => ⟨trivial, rfl⟩
  | [], y :: r', _, _, h, _ => by simp at h
  | x :: r, [], _, _, h, _ => by simp at h
  | x :: r, y :: r', m, h, hh, g => by
    simp only [List.map_cons, List.cons.injEq] at hh
    obtain ⟨e1, e2⟩ := ky_e hh.1
    have el : lvn y m = lvn x m := by unfold lvn; rw [e1]
    obtain ⟨g1, g2, g3, g4, g5, g6, g7⟩ := g.1
    have ih := KS_ky (r := r) (r' := r') (m := lvn x m) (h := hst x h) hh.2 g.2
    refine ⟨⟨⟨fun c => ?_, fun c => ?_, fun c => g3 (by rw [e1]; exact c), fun c => g4 (by rw [e1]; exact c), fun c => g5 (by rw [e1]; exact c), fun c => g6 (by rw [e1]; exact c), fun c => g7 (by rw [e1]; exact c)⟩, ?_⟩, ?_⟩
    · rw [← e2 (by omega)]; exact g1 (by omega)
    · rw [← e2 (by omega)]; exact g2 (by omega)
    · rw [el, ← hst_ky hh.1]; exact ih.1
    · show lvs r' (lvn y m) = lvs r (lvn x m)
      rw [el]; exact ih.2
theorem ptc_ky {b : List Nat} {i T : Nat} {lp : Option Nat} {r : List Rw} (hb : bkP i lp r b) : r.map ky = (ptc b i T r).map ky := by
  apply List.ext_getElem?
  intro j
  rw [List.getElem?_map, List.getElem?_map, ptc_at (fun k hk => (hb k hk).1)]
  by_cases h : i + j ∈ b ∧ j < r.length
  · rw [if_pos h]
    obtain ⟨_, l, _, h2⟩ := hb _ h.1
    rw [show i + j - i = j by omega] at h2
    rw [h2, Option.map_some, Option.map_some]
    rfl
  · rw [if_neg h]
section MKS
variable {t : Nat → Int32} {n : Nat} {L : List (List Nat)}
/-- the locals that expressions read are there -/
def pxl (M : Nat) (x : Rs) : Prop := ∀ r c q, x = some (.inr (r, c, q)) → ∀ y ∈ r, y.1 = 4 → ∃ j, j < M ∧ y.2.1 = Int32.ofNat j
def lcs (M : Nat) (r : List Rw) : Prop := ∀ y ∈ r, y.1 = 4 → ∃ j, j < M ∧ y.2.1 = Int32.ofNat j
theorem lcs_a {M : Nat} {r r' : List Rw} (h : lcs M r) (h' : lcs M r') : lcs M (r ++ r') := fun x hx => by
  rcases List.mem_append.mp hx with hx | hx
  · exact h x hx
  · exact h' x hx
theorem lcs_1 {M : Nat} {x : Rw} (h : x.1 ≠ 4) : lcs M [x] := fun y hy h4 => by rw [List.mem_singleton.mp hy] at h4; exact absurd h4 h
theorem pxl_l {M q : Nat} : pxl M (some (.inl q)) := fun _ _ _ h => by cases h
theorem pxl_v {M : Nat} {r : List Rw} {c q : Nat} (h : lcs M r) : pxl M (some (.inr (r, c, q))) := fun _ _ _ hh => by cases hh; exact h
theorem pxl_b {M : Nat} {x : Rs} {k : List Rw → Nat → Nat → Rs} (h : pxl M x) (hk : ∀ r c q, lcs M r → pxl M (k r c q)) : pxl M (bnd x k) := fun r c q hh => by
  obtain ⟨r1, c1, q1, h1, h2⟩ := bnd_r hh
  exact hk _ _ _ (h _ _ _ h1) _ _ _ h2
theorem pfac_l {g : Nat → List Rw → Nat → Nat → Nat → Rs} {p o : Nat} (hg : ∀ m c p o, pxl L.length (g m [] c p o)) : pxl L.length (pfac t n L g p o) := by
  unfold pfac
  refine my_ite (P := pxl L.length) (fun _ => my_ite (P := pxl L.length) (fun _ => pxl_l) (fun _ => pxl_b (hg _ _ _ _) (fun r c q h => pxl_v (lcs_a h (lcs_1 ?_))))) (fun _ => ?_)
  · show (if tkk t n p = 45 then 19 else 20) ≠ 4
    split <;> omega
  refine my_ite (P := pxl L.length) (fun _ => my_ite (P := pxl L.length) (fun _ => pxl_l) (fun _ => pxl_b (hg _ _ _ _) (fun r c q h => my_ite (P := pxl L.length) (fun _ => pxl_v (lcs_a h (lcs_1 ?_))) (fun _ => pxl_l)))) (fun _ => ?_)
  · show 206 ≠ 4; omega
  refine my_ite (P := pxl L.length) (fun _ => pxl_v (lcs_1 (by show 1 ≠ 4; omega))) (fun _ => ?_)
  refine my_ite (P := pxl L.length) (fun _ => pxl_v (lcs_1 (by show 2 ≠ 4; omega))) (fun _ => ?_)
  refine my_ite (P := pxl L.length) (fun _ => pxl_v (lcs_1 (by show 3 ≠ 4; omega))) (fun _ => ?_)
  refine my_ite (P := pxl L.length) (fun _ => ?_) (fun _ => pxl_l)
  refine my_ite (P := pxl L.length) (fun _ => my_ite (P := pxl L.length) (fun _ => pxl_l) (fun _ => pxl_b (hg _ _ _ _) (fun r c q h => my_ite (P := pxl L.length) (fun _ => pxl_v (lcs_a h (lcs_1 ?_))) (fun _ => pxl_l)))) (fun _ => ?_)
  · show 202 ≠ 4; omega
  refine my_ite (P := pxl L.length) (fun _ => my_ite (P := pxl L.length) (fun _ => pxl_l) (fun _ => my_ite (P := pxl L.length) (fun _ => pxl_v (lcs_1 (by show 204 ≠ 4; omega))) (fun _ => pxl_b (hg _ _ _ _) (fun r c q h => pxl_v (lcs_a h (lcs_1 ?_)))))) (fun _ => ?_)
  · show 204 ≠ 4; omega
  · cases hk : kwi L (tkm t n p) 0 with
    | none => exact pxl_v (lcs_1 (by show 200 ≠ 4; omega))
    | some j =>
      refine pxl_v (fun y hy _ => ?_)
      rw [List.mem_singleton.mp hy]
      have := kwi_lt hk
      exact ⟨j, by omega, rfl⟩
theorem px_l : ∀ (f m : Nat) (r : List Rw) (c p o : Nat), lcs L.length r → pxl L.length (px t n L f m r c p o) := by
  intro f
  induction f with
  | zero => intro m r c p o _ r' c' q h; simp [px] at h
  | succ f ih =>
    intro m r c p o hr
    have h0 : lcs L.length [] := fun x hx => by simp at hx
    unfold px
    refine my_ite (P := pxl L.length) (fun _ => pxl_b (ih _ _ _ _ _ h0) (fun r1 _ q h => ih _ _ _ _ _ h)) (fun _ => my_ite (P := pxl L.length) (fun _ => pfac_l (fun m c p o => ih _ _ _ _ _ h0)) (fun _ => my_ite (P := pxl L.length) (fun _ => my_ite (P := pxl L.length) (fun _ => ?_) (fun _ => pxl_v hr)) (fun _ => ?_)))
    · have hc : lcs L.length [((cod (tkk t n p), 0, [], p) : Rw)] := lcs_1 (by have := cod_bd (tkk t n p); show cod (tkk t n p) ≠ 4; omega)
      exact pxl_b (ih _ _ _ _ _ h0) (fun r2 _ q h => my_ite (P := pxl L.length) (fun _ => pxl_v (lcs_a (lcs_a hr h) hc)) (fun _ => ih _ _ _ _ _ (lcs_a (lcs_a hr h) hc)))
    · exact pxl_b (ih _ _ _ _ _ h0) (fun r1 _ q h => my_ite (P := pxl L.length) (fun _ => ih _ _ _ _ _ (lcs_a hr h)) (fun _ => my_ite (P := pxl L.length) (fun _ => pxl_v (lcs_a hr h)) (fun _ => pxl_l)))
theorem pX_K {p o : Nat} {r : List Rw} {c q fm h : Nat} (hx : pX t n L p o = some (.inr (r, c, q))) : KS fm r L.length h ∧ lvs r L.length = L.length := KS_e (pX_e hx) (px_l 21100 0 [] 0 p o (fun x hx => absurd hx List.not_mem_nil) r c q hx)
theorem pA_K {p o : Nat} {r : List Rw} {c q fm h : Nat} (hx : pA t n L p o = some (.inr (r, c, q))) : KS fm r L.length h ∧ lvs r L.length = L.length := KS_e (pA_e hx) (px_l 21100 11 [] 0 p o (fun x hx => absurd hx List.not_mem_nil) r c q hx)
/-- an expression and a step behind it -/
theorem KS_ey {p o : Nat} {r y : List Rw} {c q fm m' : Nat} (ht : txt t n) (hp : p ≤ n) (ho : o ≤ 12) (hx : pX t n L p o = some (.inr (r, c, q))) (hy : KS fm y L.length 1 ∧ lvs y L.length = m') : KS fm (r ++ y) L.length 0 ∧ lvs (r ++ y) L.length = m' := by
  have h1 := pX_K (fm := fm) (h := 0) hx
  have h2 := ((pX_H ht hp ho hx).1 0).1
  exact ⟨KS_a h1.1 (by rw [h1.2, h2]; exact hy.1), by rw [lvs_a, h1.2]; exact hy.2⟩
theorem pcn_K {p o : Nat} {rc : List Rw} {q fm : Nat} (ht : txt t n) (h2 : tkk t n p ≠ 0) (h : pcn t n L p o = .inr (rc, q)) : KS fm rc L.length 0 ∧ lvs rc L.length = L.length := by
  have bp := nx_b (p := p) ht h2
  unfold pcn at h
  by_cases c : tkk t n (nx t n p) = 40 ∧ o < 12
  · rw [if_pos c] at h
    have bp2 := nx_b (p := nx t n p) ht (by omega)
    cases hx : pX t n L (nx t n (nx t n p)) (o + 1) with
    | none => exact absurd hx (pX_n ht bp2.2.2)
    | some res =>
      rw [hx] at h
      unfold pcnr at h
      rcases res with q1 | ⟨r, c1, q1⟩
      · cases h
      · simp only [] at h
        by_cases h41 : tkk t n q1 = 41
        · rw [if_pos h41] at h
          cases h
          have h1 := pX_K (fm := fm) (h := 0) hx
          exact ⟨KS_a h1.1 ⟨stO_n (by dsimp only; omega), trivial⟩, by rw [lvs_a, h1.2]; rfl⟩
        · rw [if_neg h41] at h; cases h
  · rw [if_neg c] at h; cases h
theorem pnam_K {ck p o fm : Nat} {r : List Rw} {L' : List (List Nat)} {c : Nat} {b : List Nat} {q : Nat} (ht : txt t n) (h2 : tkk t n p = 2) (ho2 : o ≤ 12) (h : pnam t n L ck p o = some (.inr (r, L', c, b, q))) : KS fm r L.length 0 ∧ lvs r L.length = L'.length := by
  have bp := nx_b (p := p) ht (by omega)
  unfold pnam at h
  by_cases c1 : tkk t n (nx t n p) = 40
  · rw [if_pos c1] at h
    have bp2 := nx_b (p := nx t n p) ht (by omega)
    by_cases h12 : 12 ≤ o
    · rw [if_pos h12] at h; cases h
    rw [if_neg h12] at h
    by_cases c2 : tkk t n (nx t n (nx t n p)) = 41
    · rw [if_pos c2] at h
      rcases tT_r h with ⟨_, h3⟩ | ⟨_, h3⟩
      · cases h3
        exact ⟨⟨stO_n (by dsimp only; omega), trivial⟩, rfl⟩
      · cases h3
    · rw [if_neg c2] at h
      rcases aT_r h with ⟨_, _, h3⟩ | ⟨r1, c3, q1, hx, h3⟩
      · cases h3
      · rcases tT_r h3 with ⟨_, h4⟩ | ⟨_, h4⟩
        · cases h4
          have h1 := pA_K (fm := fm) (h := 0) hx
          exact ⟨KS_a h1.1 ⟨stO_n (by dsimp only; omega), trivial⟩, by rw [lvs_a, h1.2]; rfl⟩
        · cases h4
  · rw [if_neg c1] at h
    by_cases c2 : tkk t n (nx t n p) = 91
    · rw [if_pos c2] at h
      have bp2 := nx_b (p := nx t n p) ht (by omega)
      by_cases h12 : 12 ≤ o
      · rw [if_pos h12] at h; cases h
      rw [if_neg h12] at h
      rcases eT_r h with ⟨_, _, h3⟩ | ⟨r1, c3, q1, hx, ⟨h93, h3⟩ | ⟨_, h3⟩⟩
      · cases h3
      · rcases tT_r h3 with ⟨h61, h4⟩ | ⟨_, h4⟩
        · rcases eT_r h4 with ⟨_, _, h5⟩ | ⟨r2, c4, q2, hx2, ⟨h59, h5⟩ | ⟨_, h5⟩⟩
          · cases h5
          · cases h5
            have k1 := pX_K (fm := fm) (h := 0) hx
            have k2 := pX_K (fm := fm) (h := hrn r1 0) hx2
            have k3 : KS fm (r1 ++ r2) L.length 0 := KS_a k1.1 (by rw [k1.2]; exact k2.1)
            have k4 : lvs (r1 ++ r2) L.length = L.length := by rw [lvs_a, k1.2, k2.2]
            exact ⟨KS_a k3 ⟨stO_n (by dsimp only; omega), trivial⟩, by rw [lvs_a, k4]; rfl⟩
          · cases h5
        · cases h4
      · cases h3
    · rw [if_neg c2] at h
      rcases tT_r h with ⟨h61, h3⟩ | ⟨_, h3⟩
      · have bp2 := nx_b (p := nx t n p) ht (by omega)
        rcases eT_r h3 with ⟨_, _, h5⟩ | ⟨r2, c4, q2, hx2, ⟨h59, h5⟩ | ⟨_, h5⟩⟩
        · cases h5
        · cases h5
          refine KS_ey ht bp2.2.2 ho2 hx2 ?_
          unfold asg
          cases hk : kwi L (tkm t n p) 0 with
          | none => exact ⟨⟨stO_n (by dsimp only; omega), trivial⟩, rfl⟩
          | some j =>
            have := kwi_lt hk
            refine ⟨⟨⟨fun _ => ⟨j, by omega, rfl⟩, fun hh => by dsimp only at hh; omega, fun hh => by dsimp only at hh; omega, fun hh => by dsimp only at hh; omega, fun hh => by dsimp only at hh; omega, fun hh => by dsimp only at hh; omega, fun hh => by dsimp only at hh; omega⟩, trivial⟩, rfl⟩
        · cases h5
      · cases h3
theorem jmp_K {fm m h op T : Nat} (ho : (op = 14 ∧ h = 0) ∨ (op = 15 ∧ h = 1)) : stO fm m h (jmp op T) := by
  unfold stO jmp
  dsimp only
  exact ⟨fun hh => by omega, fun hh => by omega, fun hh => by omega, fun hh => by omega, fun hh => by omega, fun hh => by omega, fun hh => by omega⟩
theorem jmp_h {op T h : Nat} (ho : (op = 14 ∧ h = 0) ∨ (op = 15 ∧ h = 1)) : hst (jmp op T) h = 0 := by
  rcases ho with ⟨rfl, rfl⟩ | ⟨rfl, rfl⟩ <;> rfl
theorem jmp_n {op T m : Nat} (ho : op = 14 ∨ op = 15) : lvn (jmp op T) m = m := by
  rcases ho with rfl | rfl <;> rfl
/-- all statements -/
theorem pst_K {fm : Nat} {Nf : List (List Nat)} (ht : txt t n) (hfm : fm = 2 ∨ fm = 3 ∨ fm = 4) : ∀ (f m p o i : Nat) (L : List (List Nat)) (ck : Nat) (lp : Option Nat) (r : List Rw) (L' : List (List Nat)) (c : Nat) (b : List Nat) (q : Nat), p ≤ n → L.length ≤ 10 → 1 ≤ o → o ≤ 12 → pst t n fm Nf f m p o i L ck lp = some (.inr (r, L', c, b, q)) → KS fm r L.length 0 ∧ lvs r L.length = L'.length := by
  intro f
  induction f with
  | zero => intro m p o i L ck lp r L' c b q _ _ _ _ h; simp [pst] at h
  | succ f ih =>
    intro m p o i L ck lp r L' c b q hp hL ho ho2 h
    have hn := ht.1
    unfold pst at h
    by_cases m0 : m = 0
    · rw [if_pos m0] at h
      by_cases c0 : tkk t n p = 125
      · rw [if_pos c0] at h
        cases h
        exact ⟨trivial, rfl⟩
      · rw [if_neg c0] at h
        rcases bs_r h with ⟨_, _, h3⟩ | ⟨r1, L1, c1, b1, q1, hx1, h3⟩
        · cases h3
        · have hB1 := (pst_B ht _ _ _ _ _ _ _ _ _ hp hL hx1).2 r1 L1 c1 b1 q1 rfl
          rcases bs_r h3 with ⟨_, _, h4⟩ | ⟨r2, L2, c2, b2, q2, hx2, h4⟩
          · cases h4
          · cases h4
            have t0 := pst_T ht _ _ _ _ _ _ _ _ 0 _ _ _ _ _ hp hL ho ho2 hx1
            have t1 := ih 1 p o i L ck lp r1 L1 c1 b1 q1 hp hL ho ho2 hx1
            have t2 := ih 0 q1 o (i + r1.length) L1 c1 lp r2 _ _ b2 _ hB1.2.1 hB1.2.2.2.2.2.1 ho ho2 hx2
            exact ⟨KS_a t1.1 (by rw [t1.2, t0.1.1]; exact t2.1), by rw [lvs_a, t1.2]; exact t2.2⟩
    rw [if_neg m0] at h
    by_cases c2 : tkk t n p = 2
    · rw [if_pos c2] at h
      exact pnam_K ht c2 ho2 h
    rw [if_neg c2] at h
    by_cases c3 : tkk t n p = 307
    · rw [if_pos c3] at h
      have bp := nx_b (p := p) ht (by omega)
      unfold plet at h
      by_cases hw : nwL t n L Nf 10 (nx t n p) = true
      · rw [if_pos hw] at h
        have hw' := nwL_t.mp hw
        have bp2 := nx_b (p := nx t n p) ht (by omega)
        rcases tT_r h with ⟨h61, h3⟩ | ⟨_, h3⟩
        · have bp3 := nx_b (p := nx t n (nx t n p)) ht (by omega)
          rcases eT_r h3 with ⟨_, _, h5⟩ | ⟨r2, c4, q2, hx2, ⟨h59, h5⟩ | ⟨_, h5⟩⟩
          · cases h5
          · cases h5
            refine KS_ey ht bp3.2.2 ho2 hx2 ⟨⟨⟨fun hh => by dsimp only at hh; omega, fun _ => ⟨rfl, hw'.2.2.2⟩, fun hh => by dsimp only at hh; omega, fun hh => by dsimp only at hh; omega, fun hh => by dsimp only at hh; omega, fun hh => by dsimp only at hh; omega, fun hh => by dsimp only at hh; omega⟩, trivial⟩, ?_⟩
            rw [List.length_append]
            rfl
          · cases h5
        · cases h3
      · rw [if_neg hw] at h; cases h
    rw [if_neg c3] at h
    by_cases c4 : tkk t n p = 308
    · rw [if_pos c4] at h
      unfold pif at h
      rw [pcon_e ht (by omega)] at h
      cases hc : pcn t n L p o with
      | inl q1 => rw [hc] at h; cases h
      | inr v =>
        obtain ⟨rc, q1⟩ := v
        rw [hc] at h
        obtain ⟨k1, k2, k3, k4, k5, k6⟩ := pcn_H ht (by omega) ho hc
        have kc := pcn_K (fm := fm) ht (by omega) hc
        have hcb := pcn_b ht (by omega) hc
        rcases pblk_c h with ⟨_, h3⟩ | ⟨hbr, ⟨_, _, h3⟩ | ⟨rb, L1, c1, b1, q2, hx1, h3⟩⟩
        · cases h3
        · cases h3
        · have bq1 := nx_b (p := q1) ht (by omega)
          have hB1 := (pst_B ht _ _ _ _ _ _ _ _ _ bq1.2.2 hL hx1).2 rb L1 c1 b1 q2 rfl
          have bq2 := nx_b (p := q2) ht (by have := hB1.2.2.2.2.2.2.2.1 rfl; omega)
          have t0 := pst_T ht _ _ _ _ _ _ _ _ 0 _ _ _ _ _ bq1.2.2 hL (show 1 ≤ o + 1 by omega) (by omega) hx1
          have t1 := ih 0 (nx t n q1) (o + 1) (i + rc.length + 1) L ck lp rb L1 c1 b1 q2 bq1.2.2 hL (by omega) (by omega) hx1
          by_cases c9 : tkk t n (nx t n q2) = 309
          · rw [if_pos c9] at h3
            have bq3 := nx_b (p := nx t n q2) ht (by omega)
            rcases pblk_c h3 with ⟨_, h4⟩ | ⟨hbr2, ⟨_, _, h4⟩ | ⟨re, L2, c2', b2, q3, hx2, h4⟩⟩
            · cases h4
            · cases h4
            · cases h4
              have bq4 := nx_b (p := nx t n (nx t n q2)) ht (by omega)
              have t2 := ih 0 (nx t n (nx t n (nx t n q2))) (o + 1) (i + rc.length + 1 + rb.length + 1) L1 c1 lp re _ _ b2 _ bq4.2.2 hB1.2.2.2.2.2.1 (by omega) (by omega) hx2
              generalize i + rc.length + 1 + rb.length + 1 = T1
              have s2 : KS fm (jmp 14 (T1 + re.length) :: re) L1.length 0 := ⟨jmp_K (Or.inl ⟨rfl, rfl⟩), by rw [jmp_n (Or.inl rfl), jmp_h (Or.inl ⟨rfl, rfl⟩)]; exact t2.1⟩
              have s1 : KS fm (rb ++ jmp 14 (T1 + re.length) :: re) L.length 0 := KS_a t1.1 (by rw [t1.2, t0.1.1]; exact s2)
              have s0 : KS fm (jmp 15 T1 :: (rb ++ jmp 14 (T1 + re.length) :: re)) L.length 1 := ⟨jmp_K (Or.inr ⟨rfl, rfl⟩), by rw [jmp_n (Or.inr rfl), jmp_h (Or.inr ⟨rfl, rfl⟩)]; exact s1⟩
              refine ⟨KS_a kc.1 (by rw [kc.2, k2]; exact s0), ?_⟩
              rw [lvs_a, kc.2]
              show lvs (rb ++ jmp 14 (T1 + re.length) :: re) L.length = _
              rw [lvs_a, t1.2]
              exact t2.2
          · rw [if_neg c9] at h3
            cases h3
            generalize i + rc.length + 1 + rb.length = T1
            have s0 : KS fm (jmp 15 T1 :: rb) L.length 1 := ⟨jmp_K (Or.inr ⟨rfl, rfl⟩), by rw [jmp_n (Or.inr rfl), jmp_h (Or.inr ⟨rfl, rfl⟩)]; exact t1.1⟩
            refine ⟨KS_a kc.1 (by rw [kc.2, k2]; exact s0), ?_⟩
            rw [lvs_a, kc.2]
            exact t1.2
    rw [if_neg c4] at h
    by_cases c5 : tkk t n p = 310
    · rw [if_pos c5] at h
      unfold pwh at h
      rw [pcon_e ht (by omega)] at h
      cases hc : pcn t n L p o with
      | inl q1 => rw [hc] at h; cases h
      | inr v =>
        obtain ⟨rc, q1⟩ := v
        rw [hc] at h
        obtain ⟨k1, k2, k3, k4, k5, k6⟩ := pcn_H ht (by omega) ho hc
        have kc := pcn_K (fm := fm) ht (by omega) hc
        have hcb := pcn_b ht (by omega) hc
        rcases pblk_c h with ⟨_, h3⟩ | ⟨hbr, ⟨_, _, h3⟩ | ⟨rb, L1, c1, b1, q2, hx1, h3⟩⟩
        · cases h3
        · cases h3
        · have bq1 := nx_b (p := q1) ht (by omega)
          have t0 := pst_T ht _ _ _ _ _ _ _ _ 0 _ _ _ _ _ bq1.2.2 hL (show 1 ≤ o + 1 by omega) (by omega) hx1
          have t1 := ih 0 (nx t n q1) (o + 1) (i + rc.length + 2) L ck (some i) rb L1 c1 b1 q2 bq1.2.2 hL (by omega) (by omega) hx1
          have hbk := pst_bk (t := t) (n := n) _ _ _ _ _ _ _ _ _ _ _ _ _ hx1
          cases h3
          generalize i + rc.length + 2 + rb.length + 1 = T1
          have hp0 := SHs_p (T := T1) hbk t0.1
          have t2 := KS_ky (ptc_ky (T := T1) hbk) t1.1
          have s2 : KS fm (ptc b1 (i + rc.length + 2) T1 rb ++ [jmp 14 i]) L.length 0 := KS_a t2.1 (by rw [hp0.1]; exact ⟨jmp_K (Or.inl ⟨rfl, rfl⟩), trivial⟩)
          have s1 : KS fm ((16, 0, [], 0) :: (ptc b1 (i + rc.length + 2) T1 rb ++ [jmp 14 i])) L.length 0 := ⟨⟨fun hh => by dsimp only at hh; omega, fun hh => by dsimp only at hh; omega, fun _ => rfl, fun hh => by dsimp only at hh; omega, fun hh => by dsimp only at hh; omega, fun hh => by dsimp only at hh; omega, fun hh => by dsimp only at hh; omega⟩, s2⟩
          have s0 : KS fm (jmp 15 T1 :: (16, 0, [], 0) :: (ptc b1 (i + rc.length + 2) T1 rb ++ [jmp 14 i])) L.length 1 := ⟨jmp_K (Or.inr ⟨rfl, rfl⟩), by rw [jmp_n (Or.inr rfl), jmp_h (Or.inr ⟨rfl, rfl⟩)]; exact s1⟩
          refine ⟨KS_a kc.1 (by rw [kc.2, k2]; exact s0), ?_⟩
          rw [lvs_a, kc.2]
          show lvs (ptc b1 (i + rc.length + 2) T1 rb ++ [jmp 14 i]) L.length = _
          rw [lvs_a, t2.2, t1.2]
          rfl
    rw [if_neg c5] at h
    by_cases c6 : tkk t n p = 311 ∨ tkk t n p = 312
    · rw [if_pos c6] at h
      unfold plv at h
      cases lp with
      | none => cases h
      | some l =>
        simp only [] at h
        rcases tT_r h with ⟨_, h3⟩ | ⟨_, h3⟩
        · cases h3
          exact ⟨⟨jmp_K (op := 14) (T := l) (Or.inl ⟨rfl, rfl⟩), trivial⟩, rfl⟩
        · cases h3
    rw [if_neg c6] at h
    by_cases c7 : tkk t n p = 313
    · rw [if_pos c7] at h
      have bp := nx_b (p := p) ht (by omega)
      unfold pret at h
      by_cases f4 : fm = 4
      · rw [if_pos f4] at h; cases h
      rw [if_neg f4] at h
      by_cases f2 : fm = 2
      · rw [if_pos f2] at h
        rcases eT_r h with ⟨_, _, h5⟩ | ⟨r2, c4, q2, hx2, ⟨h59, h5⟩ | ⟨_, h5⟩⟩
        · cases h5
        · cases h5
          exact KS_ey ht bp.2.2 ho2 hx2 ⟨⟨⟨fun hh => by dsimp only at hh; omega, fun hh => by dsimp only at hh; omega, fun hh => by dsimp only at hh; omega, fun hh => by dsimp only at hh; omega, fun _ => ⟨f2, rfl⟩, fun hh => by dsimp only at hh; omega, fun hh => by dsimp only at hh; omega⟩, trivial⟩, rfl⟩
        · cases h5
      · rw [if_neg f2] at h
        rcases tT_r h with ⟨_, h3⟩ | ⟨_, h3⟩
        · cases h3
          exact ⟨⟨⟨fun hh => by dsimp only at hh; omega, fun hh => by dsimp only at hh; omega, fun hh => by dsimp only at hh; omega, fun hh => by dsimp only at hh; omega, fun hh => by dsimp only at hh; omega, fun _ => ⟨by omega, rfl⟩, fun hh => by dsimp only at hh; omega⟩, trivial⟩, rfl⟩
        · cases h3
    rw [if_neg c7] at h
    by_cases c8 : tkk t n p = 314
    · rw [if_pos c8] at h
      have bp := nx_b (p := p) ht (by omega)
      unfold pchk at h
      rcases eT_r h with ⟨_, _, h5⟩ | ⟨r2, c4, q2, hx2, ⟨h59, h5⟩ | ⟨_, h5⟩⟩
      · cases h5
      · cases h5
        refine KS_ey ht bp.2.2 ho2 hx2 ⟨⟨stO_n (by dsimp only; omega), ⟨fun hh => by dsimp only at hh; omega, fun hh => by dsimp only at hh; omega, fun hh => by dsimp only at hh; omega, fun _ => rfl, fun hh => by dsimp only at hh; omega, fun hh => by dsimp only at hh; omega, fun hh => by dsimp only at hh; omega⟩, trivial⟩, rfl⟩
      · cases h5
    · rw [if_neg c8] at h
      cases h
end MKS
theorem ptl_K {fm m : Nat} {ty : Int32} (hfm : fm = 2 ∨ fm = 3 ∨ fm = 4) : KS fm (ptl fm ty) m 0 := by
  unfold ptl
  by_cases h2 : fm = 2
  · rw [if_pos h2]
    refine ⟨stO_n ?_, ⟨fun hh => by dsimp only at hh; omega, fun hh => by dsimp only at hh; omega, fun hh => by dsimp only at hh; omega, fun hh => by dsimp only at hh; omega, fun _ => ⟨h2, ?_⟩, fun hh => by dsimp only at hh; omega, fun hh => by dsimp only at hh; omega⟩, trivial⟩
    · dsimp only
      split <;> omega
    · unfold hst hnd hpu
      dsimp only
      by_cases h0 : ty = 0
      · rw [if_pos h0]; rfl
      · rw [if_neg h0]; rfl
  rw [if_neg h2]
  by_cases h3 : fm = 3
  · rw [if_pos h3]
    exact ⟨⟨fun hh => by dsimp only at hh; omega, fun hh => by dsimp only at hh; omega, fun hh => by dsimp only at hh; omega, fun hh => by dsimp only at hh; omega, fun hh => by dsimp only at hh; omega, fun _ => ⟨h3, rfl⟩, fun hh => by dsimp only at hh; omega⟩, trivial⟩
  · rw [if_neg h3]
    exact ⟨⟨fun hh => by dsimp only at hh; omega, fun hh => by dsimp only at hh; omega, fun hh => by dsimp only at hh; omega, fun hh => by dsimp only at hh; omega, fun hh => by dsimp only at hh; omega, fun hh => by dsimp only at hh; omega, fun _ => ⟨by omega, rfl⟩⟩, trivial⟩
/-- an item's steps -/
def itL (a : Ri) : Prop := 2 ≤ riF a → KS (riF a) (riR a) (riQ a).length 0
section MKI
variable {t : Nat → Int32} {n : Nat}
theorem pit_K {As : List Ri} {i p : Nat} {a : Ri} {q : Nat} (ht : txt t n) (hp : p ≤ n) (hx : pit t n As i p = .inr (a, q)) : itL a := fun h2 => by
  obtain ⟨L, T, ty, q1, q2, r, c, b, h3, h4, h5, h6, h7, h8, h9, h10, h11, h12, h13, h14⟩ := pit_bd ht hp hx h2
  have hF := (pit_W (As := As) (i := i) ht hp hx).1
  have b1 := nx_b (p := q1) ht (by omega)
  have hfm : riF a = 2 ∨ riF a = 3 ∨ riF a = 4 := by omega
  have k := pst_K ht hfm _ _ _ _ _ _ _ _ _ _ _ _ _ b1.2.2 (by omega) (by omega) (by omega) h10
  have s := pst_T ht _ _ _ _ _ _ _ _ 0 _ _ _ _ _ b1.2.2 (by omega) (by omega) (by omega) h10
  rw [h13, ← h7, h14]
  exact KS_a k.1 (by rw [s.1.1]; exact ptl_K hfm)
theorem pis_K (ht : txt t n) : ∀ (f : Nat) (A0 : List Ri) (i p : Nat) (As : List Ri), p ≤ n → (∀ a ∈ A0, itL a) → pis t n f A0 i p = .inr As → ∀ a ∈ As, itL a := by
  intro f
  induction f with
  | zero => intro A0 i p As _ _ hx; unfold pis at hx; cases hx
  | succ f ih =>
    intro A0 i p As hp h0 hx
    unfold pis at hx
    cases hpi : pit t n A0 i p with
    | inl q => rw [hpi] at hx; cases hx
    | inr v =>
      obtain ⟨a, q⟩ := v
      rw [hpi] at hx
      dsimp only at hx
      have pB := (pit_B (As := A0) (i := i) ht hp).2 a q hpi
      have h1 : ∀ b ∈ A0 ++ [a], itL b := fun b hb => by
        rcases List.mem_append.mp hb with hb | hb
        · exact h0 b hb
        · rw [List.mem_singleton.mp hb]; exact pit_K ht hp hpi
      by_cases h2 : tkk t n q = 0
      · rw [if_pos h2] at hx
        cases hx
        exact h1
      · rw [if_neg h2] at hx
        exact ih (A0 ++ [a]) _ q As pB.2.1 h1 hx
/-- the value that a global has at first -/
def itV (a : Ri) : Prop := (riF a = 0 → riC a = 1 → riV a = 0 ∨ riV a = 1) ∧ (riF a = 1 → ¬ riV a < 1 ∧ ¬ (32 : Int32) < riV a)
theorem pg4_V {nm : List Nat} {ty v ct : Int32} {cp q : Nat} {a : Ri} {q' : Nat} (hx : pg4 t n nm ty v ct cp q = .inr (a, q')) (hv : ct = 1 → v = 0 ∨ v = 1) : itV a := by
  unfold pg4 at hx
  by_cases h : tkk t n q = 59
  · rw [if_pos h] at hx
    cases hx
    exact ⟨fun _ hc => hv hc, fun h1 => absurd h1 (by show ¬ (0 : Nat) = 1; omega)⟩
  · rw [if_neg h] at hx; cases hx
theorem pgl_V {nm : List Nat} {p : Nat} {a : Ri} {q : Nat} (hx : pgl t n nm p = .inr (a, q)) : itV a := by
  unfold pgl at hx
  by_cases h : tkk t n p = 58
  · rw [if_pos h] at hx
    unfold pg2 at hx
    cases hty : tyq t n (nx t n p) with
    | none => rw [hty] at hx; cases hx
    | some ty =>
      rw [hty] at hx
      dsimp only at hx
      by_cases h6 : tkk t n (nx t n (nx t n p)) = 61
      · rw [if_pos h6] at hx
        generalize nx t n (nx t n (nx t n p)) = P at hx
        unfold pg3 at hx
        by_cases c1 : tkk t n P = 315
        · rw [if_pos c1] at hx; exact pg4_V hx (fun _ => Or.inr rfl)
        rw [if_neg c1] at hx
        by_cases c2 : tkk t n P = 316
        · rw [if_pos c2] at hx; exact pg4_V hx (fun _ => Or.inl rfl)
        rw [if_neg c2] at hx
        by_cases c3 : tkk t n P = 3
        · rw [if_pos c3] at hx; exact pg4_V hx (fun h => absurd h (by decide))
        rw [if_neg c3] at hx
        by_cases c4 : tkk t n P = 45
        · rw [if_pos c4] at hx
          by_cases c5 : tkk t n (nx t n P) = 3
          · rw [if_pos c5] at hx; exact pg4_V hx (fun h => absurd h (by decide))
          · rw [if_neg c5] at hx; cases hx
        · rw [if_neg c4] at hx; cases hx
      · rw [if_neg h6] at hx; cases hx
  · rw [if_neg h] at hx; cases hx
theorem pit_Vg {As : List Ri} {i p : Nat} {a : Ri} {q : Nat} (ht : txt t n) (hp : p ≤ n) (hx : pit t n As i p = .inr (a, q)) : itV a := by
  have hB := (pit_B (As := As) (i := i) ht hp).2 a q hx
  have hF := hB.2.2.1
  unfold pit at hx
  by_cases h : 300 ≤ tkk t n p ∧ tkk t n p ≤ 304
  · rw [if_pos h] at hx
    by_cases h2 : tkk t n (nx t n p) = 2 ∧ kwi (rno As) (tkm t n (nx t n p)) 0 = none ∧ cnK As (kdf (tkk t n p - 300)) < mst (kdf (tkk t n p - 300))
    · rw [if_pos h2] at hx
      unfold pi2 at hx
      by_cases h0 : tkk t n p - 300 = 0
      · rw [if_pos h0] at hx
        exact pgl_V hx
      rw [if_neg h0] at hx
      by_cases h1 : tkk t n p - 300 = 1
      · rw [if_pos h1] at hx
        refine ⟨fun hf => by exfalso; omega, fun _ => ?_⟩
        unfold par at hx
        by_cases c1 : tkk t n (nx t n (nx t n p)) = 91
        · rw [if_pos c1] at hx
          by_cases c2 : tkk t n (nx t n (nx t n (nx t n p))) = 3 ∧ ¬ tkv t n (nx t n (nx t n (nx t n p))) < 1 ∧ ¬ (32 : Int32) < tkv t n (nx t n (nx t n (nx t n p)))
          · rw [if_pos c2] at hx
            unfold pr3 at hx
            split at hx
            · split at hx
              · cases hx
                exact c2.2
              · cases hx
            · cases hx
          · rw [if_neg c2] at hx; cases hx
        · rw [if_neg c1] at hx; cases hx
      · exact ⟨fun hf => by exfalso; omega, fun hf => by exfalso; omega⟩
    · rw [if_neg h2] at hx; cases hx
  · rw [if_neg h] at hx; cases hx
theorem pis_Vg (ht : txt t n) : ∀ (f : Nat) (A0 : List Ri) (i p : Nat) (As : List Ri), p ≤ n → (∀ a ∈ A0, itV a) → pis t n f A0 i p = .inr As → ∀ a ∈ As, itV a := by
  intro f
  induction f with
  | zero => intro A0 i p As _ _ hx; unfold pis at hx; cases hx
  | succ f ih =>
    intro A0 i p As hp h0 hx
    unfold pis at hx
    cases hpi : pit t n A0 i p with
    | inl q => rw [hpi] at hx; cases hx
    | inr v =>
      obtain ⟨a, q⟩ := v
      rw [hpi] at hx
      dsimp only at hx
      have pB := (pit_B (As := A0) (i := i) ht hp).2 a q hpi
      have h1 : ∀ b ∈ A0 ++ [a], itV b := fun b hb => by
        rcases List.mem_append.mp hb with hb | hb
        · exact h0 b hb
        · rw [List.mem_singleton.mp hb]; exact pit_Vg ht hp hpi
      by_cases h2 : tkk t n q = 0
      · rw [if_pos h2] at hx
        cases hx
        exact h1
      · rw [if_neg h2] at hx
        exact ih (A0 ++ [a]) _ q As pB.2.1 h1 hx
/-- what of it holds of what is loaded -/
theorem LOf_K {As : List Ri} {I : List It} (h : LOf As I) : (∀ a ∈ As, itL a) ∧ ∀ a ∈ As, itV a := by
  obtain ⟨t, n, ht, hp, _⟩ := h
  exact ⟨pis_K ht 43 [] 0 (ps t n 0) As (ps_le ht 0) (fun a ha => absurd ha List.not_mem_nil) hp, pis_Vg ht 43 [] 0 (ps t n 0) As (ps_le ht 0) (fun a ha => absurd ha List.not_mem_nil) hp⟩
end MKI
