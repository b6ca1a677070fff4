/-! ===== class and reference agree on statements: pieces ===== -/
def CEm (S S' : St) (mm : Option Nat) : Prop := (∀ mf, okM mf → S.1 = mfI mf → S'.1 = mfI (omin mf mm)) ∧ okM mm
theorem CEm_c {S S' : St} {mm : Option Nat} {k : Nat} (h : CE S S' mm k) : CEm S S' mm := ⟨h.1, h.2.2.2⟩
theorem CEm_t {S S1 S2 : St} {m1 m2 : Option Nat} (h1 : CEm S S1 m1) (h2 : CEm S1 S2 m2) : CEm S S2 (omin m1 m2) := ⟨fun mf hm h => by rw [← omin_s]; exact h2.1 _ (okM_m hm h1.2) (h1.1 mf hm h), okM_m h1.2 h2.2⟩
theorem CEm_0 {S S' : St} (h : S'.1 = S.1) : CEm S S' none := ⟨fun mf _ hh => by rw [h, hh, omin_r], fun x hx => by cases hx⟩
theorem CEm_r {S S1 S2 : St} {m : Option Nat} (h1 : CEm S S1 m) (h : S2.1 = S1.1) : CEm S S2 m := by
  have := CEm_t h1 (CEm_0 h)
  rwa [omin_r] at this
def agr (L : List (List Nat)) (LT LTr : Nat → Int32) : Prop := ∀ j, j < L.length → LTr j = LT j
def HJ (J : Nat → Int32) (i : Nat) (r : List Rw) (o0 : Nat) : Prop := ∀ k, k ≤ r.length → J (i + k) = Int32.ofNat (o0 + lens (r.take k))
theorem HJ_l {J : Nat → Int32} {i o0 : Nat} {r r' : List Rw} (h : HJ J i (r ++ r') o0) : HJ J i r o0 := fun k hk => by
  have := h k (by simp; omega)
  rwa [List.take_append_of_le_length hk] at this
theorem HJ_r {J : Nat → Int32} {i o0 : Nat} {r r' : List Rw} (h : HJ J i (r ++ r') o0) : HJ J (i + r.length) r' (o0 + lens r) := fun k hk => by
  have := h (r.length + k) (by simp; omega)
  rw [List.take_length_add_append, lens_a] at this
  rw [show i + r.length + k = i + (r.length + k) by omega, this, Nat.add_assoc]
def BYT (I : List It) (cF : Int32) (i : Nat) (r : List Rw) (lp : Option Nat) (ls : Int32) (b : List Nat) (S S' : St) (B B' : List Int32) : Prop := ∀ (J : Nat → Int32) (c0 : Nat), cF = Int32.ofNat c0 → c0 ≤ S.2.2.1.length → HJ J i r (S.2.2.1.length - c0) → S.2.2.1.length + lens r ≤ 6144 → (∀ l, lp = some l → ls = J l) → B.length + b.length ≤ 256 → S' = (S.1, S.2.1, S.2.2.1 ++ eb I J r S.2.2.2, ndl I r S.2.2.2) ∧ B' = B ++ b.map (fun j => Int32.ofNat (S.2.2.1.length + lens (r.take (j - i)) + 1))
def STT (I : List It) (ity cF : Int32) (L : List (List Nat)) (LT LTr : Nat → Int32) (i : Nat) (lp : Option Nat) (ls : Int32) (S : St) (B : List Int32) (p : Nat) (r : List Rw) (L' : List (List Nat)) (b : List Nat) (q : Nat) (LT' : Nat → Int32) (B' : List Int32) (S' : St) : Prop := ∃ mm mR LTr', CEm S S' mm ∧ okT mm p q ∧ okT mR p q ∧ (∀ mf, trs2 I ity r (LTr, [], mf) = (LTr', [], omin mf mR)) ∧ (LTc L LT → agr L LT LTr → mR = mm ∧ (mm = none → LTc L' LT' ∧ agr L' LT' LTr' ∧ NFr I r ∧ (B.length * 6 ≤ p → BYT I cF i r lp ls b S S' B B')))
theorem NFr_a {I : List It} {r r' : List Rw} (h : NFr I r) (h' : NFr I r') : NFr I (r ++ r') := fun x hx => by
  rcases List.mem_append.mp hx with hx | hx
  · exact h x hx
  · exact h' x hx
theorem NFr_1 {I : List It} {x : Rw} (h : 200 ≤ x.1 → x.1 ≤ 205 → itK I x.2.2.1 ≠ none) : NFr I [x] := fun y hy => by rw [List.mem_singleton.mp hy]; exact h
section MTS
variable {t : Nat → Int32} {n : Nat} {L : List (List Nat)} {LT LTr : Nat → Int32} {I : List It} {ity cF : Int32}
/-- an expression, on both sides -/
theorem EXP {p o : Nat} {S S1 : St} {a : Int32} {c c' q : Nat} {r : List Rw} (ht : txt t n) (hI : IC I) (hL : L.length ≤ 10) (hp : p ≤ n) (h1 : cE t n L LT I true p o S = some (.inr (a, c, q, S1))) (h2 : pX t n L p o = some (.inr (r, c', q))) : p < q ∧ q ≤ n ∧ eops r ∧ ∃ mm mR a', CEm S S1 mm ∧ okT mm p q ∧ okT mR p q ∧ (∀ P mf, trs2 I ity r (LTr, P, mf) = (LTr, (a', p) :: P, omin mf mR)) ∧ (LTc L LT → agr L LT LTr → a' = a ∧ mR = mm ∧ (mm = none → (a = 0 ∨ a = 1) ∧ NFr I r ∧ S1 = ers I r S) ∧ (mm ≠ none → a = 3)) := by
  have hb := pX_b ht hp h2
  have hE : eops r := px_E _ _ _ _ _ _ (fun x hx => by simp at hx) _ _ _ h2
  refine ⟨hb.1, hb.2.1, hE, ?_⟩
  obtain ⟨rfl, _⟩ := sim_rr (cE_s (LT := LT) (I := I) (w := true) (S := S)) h1 h2
  by_cases hag : agr L LT LTr
  · -- they agree
    have e1 : cx t n L LT I true 21100 = cx t n L LTr I true 21100 := cx_LT (fun j hj => (hag j hj).symm) _
    unfold cE at h1
    rw [e1] at h1
    obtain ⟨mm, k, mR, a', c1, b1, o1, oR1, t1, l1⟩ := (TX ht hI hL 21100).1 0 p o S a c q S1 r (by omega) hp h1 h2
    refine ⟨mm, mR, a', CEm_c c1, o1, oR1, fun P mf => by rw [trs2_x hE]; exact t1 P mf, fun hc _ => ?_⟩
    obtain ⟨e1, e2, e3, e4⟩ := l1 (fun j hj => by rw [hag j hj]; exact hc j hj)
    refine ⟨e1, e2, fun h0 => ⟨(e3 h0).1, ?_, (e3 h0).2⟩, e4⟩
    have := t1 [] none
    rw [e2, h0] at this
    exact (trs_NF (I := I) (s := (LTr, [], none)) hE (by rw [this]; rfl)).2
  · obtain ⟨mm, k, _, _, c1, b1, o1, _⟩ := (TX ht hI hL 21100).1 0 p o S a c q S1 r (by omega) hp h1 h2
    have hs := cE_s (t := t) (n := n) (L := L) (LT := LTr) (I := I) (w := true) (p := p) (o := o) (S := S)
    rcases hs with ⟨_, g⟩ | ⟨_, _, g⟩ | ⟨a2, c2, q2, S2, r2, g1, g2⟩
    · rw [h2] at g; cases g
    · rw [h2] at g; cases g
    · rw [h2] at g2
      cases g2
      obtain ⟨_, _, mR, a', _, _, _, oR1, t1, _⟩ := (TX ht hI hL 21100).1 0 p o S a2 c q S2 r (by omega) hp g1 h2
      exact ⟨mm, mR, a', CEm_c c1, o1, oR1, fun P mf => by rw [trs2_x hE]; exact t1 P mf, fun _ h => absurd h hag⟩
theorem ite_fl {a b : Int32} {pl : Nat} {S : St} (hp : pl < 2147483648) : CEm S (wf true a b pl S) (fl a b pl) := CEm_c (CE_wf hp)
/-- after an expression: it is wanted to have a type, bytes are written; m0: what misfits ahead of it -/
theorem STT_1 {p p1 q1 q i : Nat} {lp : Option Nat} {ls : Int32} {B : List Int32} {S S0 S1 S' : St} {a due : Int32} {r y : List Rw} {m0 mm mR : Option Nat} {a' : Int32} (hp : p ≤ p1) (hq : q1 < q) (hp1 : p1 < q1) (hq2 : q ≤ 2000) (hE : eops r)
    (h0 : CEm S S0 m0) (o0 : okT m0 p q) (h00 : m0 = none → S0 = S) (h1 : CEm S0 S1 mm) (o1 : okT mm p1 q1) (oR : okT mR p1 q1) (tR : ∀ P mf, trs2 I ity r (LTr, P, mf) = (LTr, (a', p1) :: P, omin mf mR)) (hl : LTc L LT → agr L LT LTr → a' = a ∧ mR = mm ∧ (mm = none → (a = 0 ∨ a = 1) ∧ NFr I r ∧ S1 = ers I r S0) ∧ (mm ≠ none → a = 3))
    (due' : Int32) (hdue : agr L LT LTr → due' = due) (ty : ∀ mf, trs2 I ity y (LTr, [(a', p1)], mf) = (LTr, [], omin (omin mf m0) (fl a' due' p1))) (hS : S'.1 = (wf true a due p1 S1).1) (hN : m0 = none → NFr I y) (hby : m0 = none → ∀ (J : Nat → Int32) (S2 : St), S2 = wf true a due p1 S1 → S2.2.2.1.length + lens y ≤ 6144 → S' = (S2.1, S2.2.1, S2.2.2.1 ++ eb I J y S2.2.2.2, ndl I y S2.2.2.2)) : STT I ity cF L LT LTr i lp ls S B p (r ++ y) L [] q LT B S' := by
  refine ⟨omin (omin m0 mm) (fl a due p1), omin (omin mR m0) (fl a' due' p1), LTr, CEm_r (CEm_t (CEm_t h0 h1) (ite_fl (by omega))) hS, okT_m (okT_m o0 (okT_w o1 hp (by omega))) (fl_T hp (by omega)), okT_m (okT_m (okT_w oR hp (by omega)) o0) (fl_T hp (by omega)), fun mf => ?_, fun hc hag => ?_⟩
  · rw [trs2_a, tR, ty, omin_s, omin_s, omin_s]
  · obtain ⟨e1, e2, e3, e4⟩ := hl hc hag
    have hd := hdue hag
    subst e1 hd
    refine ⟨by rw [e2, omin_c (a := mm)], fun h00' => ?_⟩
    rw [omin_0, omin_0] at h00'
    obtain ⟨⟨z0, z1⟩, z2⟩ := h00'
    obtain ⟨y1, y2, y3⟩ := e3 z1
    have hS0 := h00 z0
    subst hS0
    refine ⟨hc, hag, NFr_a y2 (hN z0), fun _ J c0 hc0 hc1 hJ hB hls hBl => ⟨?_, by simp⟩⟩
    have hw := wf_0 (S := S1) z2
    rw [lens_a] at hB
    have hS1 : S1 = (S0.1, S0.2.1, S0.2.2.1 ++ eb I J r S0.2.2.2, ndl I r S0.2.2.2) := by rw [y3]; exact ers_eb hE y2 (by omega)
    have hlen : S1.2.2.1.length = S0.2.2.1.length + lens r := by rw [hS1]; simp [eb_l y2]
    rw [hby z0 J S1 hw.symm (by omega), hS1]
    simp [eb_a, ndl_a]
theorem wr2_ap {x y : Int32} {S : St} (h : S.2.2.1.length + 2 ≤ 6144) : wr true y 1 (wr true x 1 S) = apB S (bts x 1 0 ++ bts y 1 0) := by
  unfold wr
  rw [if_pos rfl, if_pos rfl, wn_ap (S := S) (by omega), wn_ap (by unfold apB; simp [bts_l]; omega)]
  unfold apB
  simp
theorem wr1_ap {x : Int32} {S : St} (h : S.2.2.1.length + 1 ≤ 6144) : wr true x 1 S = apB S (bts x 1 0) := by
  unfold wr
  rw [if_pos rfl, wn_ap (S := S) (by omega)]
theorem wnm_ap {c : Int32} {k : Nat} {S : St} (h : S.2.2.1.length + 2 ≤ 6144) : wnm true c (some k) S = (S.1, S.2.1, S.2.2.1 ++ (bts c 1 0 ++ bts (Int32.ofNat (nid S.2.2.2 k).1) 1 0), (nid S.2.2.2 k).2) := by
  unfold wnm
  rw [if_pos rfl]
  simp only []
  rw [wn_ap (S := S) (by omega), wn_ap (by unfold ndS apB; simp [bts_l]; omega)]
  unfold apB ndS
  simp
theorem wr_1 {x : Int32} {k : Nat} {S : St} : (wr true x k S).1 = S.1 := by unfold wr; rw [if_pos rfl]; exact wn_mf.1
theorem wnm_1 {c : Int32} {r : Option Nat} {S : St} : (wnm true c r S).1 = S.1 := by
  unfold wnm
  rw [if_pos rfl]
  cases r with
  | none => rfl
  | some x => exact wn_mf.1.trans wn_mf.1
/-- check -/
theorem cchk_t {ck p o i q c : Nat} {lp : Option Nat} {ls : Int32} {B B' : List Int32} {S S' : St} {r : List Rw} {L' : List (List Nat)} {LT' : Nat → Int32} {b : List Nat} {c' : Nat} (ht : txt t n) (hI : IC I) (hL : L.length ≤ 10) (h314 : tkk t n p = 314) (h1 : cchk t n L LT I true ck B p o S = some (.inr (q, L', LT', c, B', S'))) (h2 : pchk t n L ck p o = some (.inr (r, L', c', b, q))) : STT I ity cF L LT LTr i lp ls S B p r L' b q LT' B' S' := by
  have hn := ht.1
  have a1 := nx_bd ht (tk_lt (t := t) (n := n) (p := p) (by omega))
  unfold cchk at h1
  unfold pchk at h2
  rcases ce_s h1 with ⟨_, _, g2⟩ | ⟨a, c1, q1, S1, g1, g2⟩
  · cases g2
  rcases eT_r h2 with ⟨_, _, g4⟩ | ⟨r1, c2, q2, g3, ⟨g4, g5⟩ | ⟨g4, g5⟩⟩
  · cases g4
  · obtain ⟨_, rfl⟩ := sim_rr cE_s g1 g3
    obtain ⟨b1, b2, hE, mm, mR, a', k1, k2, k3, k4, k5⟩ := EXP (ity := ity) (LTr := LTr) ht hI hL a1.2 g1 g3
    have a2 := nx_bd ht (tk_lt (t := t) (n := n) (p := q1) (by omega))
    rcases tQ_s g2 with ⟨g6, g7⟩ | ⟨g6, g7⟩
    · cases g7
      cases g5
      refine STT_1 (y := [(208, 1, [], 0), (17, Int32.ofNat ck, [], 0)]) (m0 := none) (due := 1) (p1 := nx t n p) (q1 := q1) (by omega) a2.1 b1 (by omega) hE (CEm_0 rfl) okT_n (fun _ => rfl) k1 k2 k3 k4 k5 1 (fun _ => rfl) (fun mf => by rw [omin_r]; rfl) (wr_1.trans wr_1) (fun _ x hx => ?_) (fun _ J S2 hS2 hl => ?_)
      · rcases List.mem_cons.mp hx with rfl | hx
        · intro hh1 hh2; simp only [] at hh2; omega
        · rw [List.mem_singleton.mp hx]; intro hh1 hh2; simp only [] at hh1; omega
      · subst hS2
        have : lens [((208, 1, [], 0) : Rw), (17, Int32.ofNat ck, [], 0)] = 2 := rfl
        rw [wr2_ap (by omega)]
        rfl
    · cases g7
  · cases g5
/-- return -/
theorem cret_t {fm ck p o i q c : Nat} {lp : Option Nat} {ls : Int32} {B B' : List Int32} {S S' : St} {r : List Rw} {L' : List (List Nat)} {LT' : Nat → Int32} {b : List Nat} {c' : Nat} (ht : txt t n) (hI : IC I) (hL : L.length ≤ 10) (h313 : tkk t n p = 313) (h1 : cret t n fm ity L LT I true ck B p o S = some (.inr (q, L', LT', c, B', S'))) (h2 : pret t n fm L ck p o = some (.inr (r, L', c', b, q))) : STT I ity cF L LT LTr i lp ls S B p r L' b q LT' B' S' := by
  have hn := ht.1
  have a1 := nx_bd ht (tk_lt (t := t) (n := n) (p := p) (by omega))
  unfold cret at h1
  unfold pret at h2
  by_cases h4 : fm = 4
  · rw [if_pos h4] at h1; cases h1
  rw [if_neg h4] at h1 h2
  by_cases h22 : fm = 2
  · rw [if_pos h22] at h1 h2
    rcases ce_s h1 with ⟨_, _, g2⟩ | ⟨a, c1, q1, S1, g1, g2⟩
    · cases g2
    rcases eT_r h2 with ⟨_, _, g4⟩ | ⟨r1, c2, q2, g3, ⟨g4, g5⟩ | ⟨g4, g5⟩⟩
    · cases g4
    · obtain ⟨_, rfl⟩ := sim_rr cE_s g1 g3
      obtain ⟨b1, b2, hE, mm, mR, a', k1, k2, k3, k4, k5⟩ := EXP (ity := ity) (LTr := LTr) ht hI hL a1.2 g1 g3
      have a2 := nx_bd ht (tk_lt (t := t) (n := n) (p := q1) (by omega))
      rcases tQ_s g2 with ⟨g6, g7⟩ | ⟨g6, g7⟩
      · cases g7
        cases g5
        refine STT_1 (y := [(11, 0, [], 0)]) (m0 := none) (due := ity) (p1 := nx t n p) (q1 := q1) (by omega) a2.1 b1 (by omega) hE (CEm_0 rfl) okT_n (fun _ => rfl) k1 k2 k3 k4 k5 ity (fun _ => rfl) (fun mf => by rw [omin_r]; rfl) wr_1 (fun _ => NFr_1 (fun hh => by simp only [] at hh; omega)) (fun _ J S2 hS2 hl => ?_)
        subst hS2
        have : lens [((11, 0, [], 0) : Rw)] = 1 := rfl
        rw [wr1_ap (by omega)]
        rfl
      · cases g7
    · cases g5
  · rw [if_neg h22] at h1 h2
    rcases tQ_s h1 with ⟨g6, g7⟩ | ⟨g6, g7⟩
    · rcases tT_r h2 with ⟨g8, g9⟩ | ⟨g8, g9⟩
      · have a2 := nx_bd ht (tk_lt (t := t) (n := n) (p := nx t n p) (by omega))
        cases g7
        cases g9
        refine ⟨none, none, LTr, CEm_0 wr_1, okT_n, okT_n, fun mf => by rw [omin_r]; rfl, fun hc hag => ⟨rfl, fun _ => ⟨hc, hag, NFr_1 (fun hh => by simp only [] at hh; omega), fun _ J c0 hc0 hc1 hJ hB hls hBl => ⟨?_, by simp⟩⟩⟩⟩
        have : lens [((12, 0, [], 0) : Rw)] = 1 := rfl
        rw [wr1_ap (by omega)]
        rfl
      · cases g9
    · cases g7
/-- let -/
theorem clet_t {ck p o i q c : Nat} {Nf : List (List Nat)} {lp : Option Nat} {ls : Int32} {B B' : List Int32} {S S' : St} {r : List Rw} {L' : List (List Nat)} {LT' : Nat → Int32} {b : List Nat} {c' : Nat} (ht : txt t n) (hI : IC I) (hL : L.length ≤ 10) (h307 : tkk t n p = 307) (h1 : clet t n L LT I true Nf ck B p o S = some (.inr (q, L', LT', c, B', S'))) (h2 : plet t n Nf L ck p o = some (.inr (r, L', c', b, q))) : STT I ity cF L LT LTr i lp ls S B p r L' b q LT' B' S' := by
  have hn := ht.1
  have a1 := nx_bd ht (tk_lt (t := t) (n := n) (p := p) (by omega))
  unfold clet at h1
  unfold plet at h2
  by_cases hnw : nwL t n L Nf 10 (nx t n p) = true
  · rw [if_pos hnw] at h1 h2
    have n4 := (nwL_t.mp hnw).2.2.2
    have n1 := (nwL_t.mp hnw).1
    have a2 := nx_bd ht (tk_lt (t := t) (n := n) (p := nx t n p) (by omega))
    rcases tQ_s h1 with ⟨g6, g7⟩ | ⟨g6, g7⟩
    · rcases tT_r h2 with ⟨g8, g9⟩ | ⟨g8, g9⟩
      · have a3 := nx_bd ht (tk_lt (t := t) (n := n) (p := nx t n (nx t n p)) (by omega))
        rcases ce_s g7 with ⟨_, _, g2⟩ | ⟨a, c1, q1, S1, g1, g2⟩
        · cases g2
        rcases eT_r g9 with ⟨_, _, g4⟩ | ⟨r1, c2, q2, g3, ⟨g4, g5⟩ | ⟨g4, g5⟩⟩
        · cases g4
        · obtain ⟨_, rfl⟩ := sim_rr cE_s g1 g3
          obtain ⟨b1, b2, hE, mm, mR, a', k1, k2, k3, k4, k5⟩ := EXP (ity := ity) (LTr := LTr) ht hI hL a3.2 g1 g3
          have a4 := nx_bd ht (tk_lt (t := t) (n := n) (p := q1) (by omega))
          rcases tQ_s g2 with ⟨g10, g11⟩ | ⟨g10, g11⟩
          · cases g11
            cases g5
            refine ⟨mm, mR, ltU LTr L.length a', CEm_r k1 (wr_1.trans wr_1), okT_w k2 (by omega) (by omega), okT_w k3 (by omega) (by omega), fun mf => ?_, fun hc hag => ?_⟩
            · rw [trs2_a, k4]
              show tdcl (Int32.ofNat L.length).toNatClampNeg (LTr, [(a', nx t n (nx t n (nx t n p)))], omin mf mR) = _
              rw [oN_n (by omega)]
              rfl
            · obtain ⟨e1, e2, e3, e4⟩ := k5 hc hag
              subst e1
              refine ⟨e2, fun h0 => ?_⟩
              obtain ⟨y1, y2, y3⟩ := e3 h0
              refine ⟨fun j hj => ?_, fun j hj => ?_, NFr_a y2 (NFr_1 (fun hh1 hh2 => by simp only [] at hh2; omega)), fun _ J c0 hc0 hc1 hJ hB hls hBl => ⟨?_, by simp⟩⟩
              · unfold ltU
                by_cases hjL : j = L.length
                · rw [if_pos hjL]; exact y1
                · rw [if_neg hjL]; exact hc j (by simp at hj; omega)
              · unfold ltU
                by_cases hjL : j = L.length
                · rw [if_pos hjL, if_pos hjL]
                · rw [if_neg hjL, if_neg hjL]; exact hag j (by simp at hj; omega)
              · rw [lens_a] at hB
                have hly : lens [((207, Int32.ofNat L.length, [], 0) : Rw)] = 2 := rfl
                have hS1 : S1 = (S.1, S.2.1, S.2.2.1 ++ eb I J r1 S.2.2.2, ndl I r1 S.2.2.2) := by rw [y3]; exact ers_eb hE y2 (by omega)
                have hlen : S1.2.2.1.length = S.2.2.1.length + lens r1 := by rw [hS1]; simp [eb_l y2]
                rw [wr2_ap (by omega), hS1]
                unfold apB
                simp only [eb_a, ndl_a, List.append_assoc]
                rfl
          · cases g11
        · cases g5
      · cases g9
    · cases g7
  · rw [if_neg hnw] at h1
    cases h1
/-- break and continue -/
theorem clv_t {ck p i q c : Nat} {lp : Option Nat} {ls : Int32} {B B' : List Int32} {S S' : St} {r : List Rw} {L' : List (List Nat)} {LT' : Nat → Int32} {b : List Nat} {c' : Nat} (ht : txt t n) (hlp : ∀ l, lp = some l → l < 2147483648) (h1 : clv t n L LT true ck ls B p S = some (.inr (q, L', LT', c, B', S'))) (h2 : plv t n L ck p i lp = some (.inr (r, L', c', b, q))) : STT I ity cF L LT LTr i lp ls S B p r L' b q LT' B' S' := by
  unfold clv at h1
  unfold plv at h2
  by_cases hls : ls = Int32.ofInt (-1)
  · rw [if_pos hls] at h1; cases h1
  rw [if_neg hls] at h1
  cases lp with
  | none => cases h2
  | some l =>
    rcases tQ_s h1 with ⟨g6, g7⟩ | ⟨g6, g7⟩
    · rcases tT_r h2 with ⟨g8, g9⟩ | ⟨g8, g9⟩
      · cases g7
        cases g9
        refine ⟨none, none, LTr, CEm_0 (wr_1.trans wr_1), okT_n, okT_n, fun mf => by rw [omin_r]; rfl, fun hc hag => ⟨rfl, fun _ => ⟨hc, hag, NFr_1 (fun hh => by simp only [] at hh; omega), fun _ J c0 hc0 hc1 hJ hB hl2 hBl => ?_⟩⟩⟩
        have hly : lens [((14, Int32.ofNat l, [], 0) : Rw)] = 3 := rfl
        have hJl := hl2 l rfl
        have hw : wjS true 14 ls S = apB S (bts 14 1 0 ++ bts ls 2 0) := by
          unfold wjS wr
          rw [if_pos rfl, if_pos rfl, wn_ap (S := S) (by omega), wn_ap (by unfold apB; simp [bts_l]; omega)]
          unfold apB
          simp
        constructor
        · rw [hw, hJl]
          unfold apB
          show _ = (S.1, S.2.1, S.2.2.1 ++ ((bts 14 1 0 ++ bts (J (Int32.ofNat l).toNatClampNeg) 2 0) ++ []), S.2.2.2)
          rw [oN_n (hlp l rfl), List.append_nil]
        · by_cases h311 : tkk t n p = 311
          · rw [if_pos h311] at hBl
            simp only [List.length_cons, List.length_nil] at hBl
            rw [if_pos ⟨h311, by omega⟩, if_pos h311]
            have hP : wjP true 14 ls S = Int32.ofNat (S.2.2.1.length + 1) := by
              unfold wjP
              rw [hw]
              unfold apB
              simp only [List.length_append, bts_l]
              rw [show S.2.2.1.length + (1 + 2) = (S.2.2.1.length + 1) + 2 by omega, ← oN_a, show (2 : Int32) = Int32.ofNat 2 from rfl, Int32.add_sub_cancel]
            rw [hP]
            simp [lens]
          · rw [if_neg (fun hh => h311 hh.1), if_neg h311]
            simp
      · cases g9
    · cases g7
end MTS
