
/-! ===== statements: the pile, the jumps, the loops, all of them ===== -/
/-- a loop -/
theorem STR_wh {i dp o : Nat} {rc rb : List Rw} {b : List Nat} {lp : Option Nat} (ho : o < 12) (hf : flat rc) (hc : hrn rc 0 = 1) (hk : bkP (i + rc.length + 2) (some i) rb b) (hb : STR (i + rc.length + 2) rb (some i) (dp + 1) (o + 1)) (hs : hrn rb 0 = 0) : STR i (rc ++ jmp 15 (i + rc.length + 2 + rb.length + 1) :: (16, 0, [], 0) :: (ptc b (i + rc.length + 2) (i + rc.length + 2 + rb.length + 1) rb ++ [jmp 14 i])) lp dp o := by
  obtain ⟨D, ⟨d1, d2, d3⟩, hj⟩ := hb
  generalize hI : i + rc.length + 2 = I0 at *
  generalize hT : I0 + rb.length + 1 = T at *
  have hs' : hrn (ptc b I0 T rb) 0 = 0 := by rw [hrn_k (ptc_h (T := T) hk)]; exact hs
  have pl : (ptc b I0 T rb).length = rb.length := ptc_len
  have hA : hrn (rc ++ [jmp 15 T, (16, 0, [], 0)]) 0 = 0 := by rw [hrn_a, hc]; rfl
  have eR : rc ++ jmp 15 T :: (16, 0, [], 0) :: (ptc b I0 T rb ++ [jmp 14 i]) = (rc ++ [jmp 15 T, (16, 0, [], 0)]) ++ (ptc b I0 T rb ++ [jmp 14 i]) := by simp
  have eL : (rc ++ jmp 15 T :: (16, 0, [], 0) :: (ptc b I0 T rb ++ [jmp 14 i])).length = rc.length + 2 + rb.length + 1 := by simp [pl]; omega
  have hall : hrn (rc ++ jmp 15 T :: (16, 0, [], 0) :: (ptc b I0 T rb ++ [jmp 14 i])) 0 = 0 := by rw [eR, hrn_a, hA, hrn_a, hs']; rfl
  have f1 : ∀ {k}, k < I0 → (fun k => if k < I0 then dp else if k < T then D k else dp) k = dp := fun hk => if_pos hk
  have f2 : ∀ {k}, I0 ≤ k → k < T → (fun k => if k < I0 then dp else if k < T then D k else dp) k = D k := fun h1 h2 => by
    show (if _ then _ else _) = _
    rw [if_neg (by omega), if_pos h2]
  have f3 : ∀ {k}, T ≤ k → (fun k => if k < I0 then dp else if k < T then D k else dp) k = dp := fun h1 => by
    show (if _ then _ else _) = _
    rw [if_neg (by omega), if_neg (by omega)]
  have vT : VL i (rc ++ jmp 15 T :: (16, 0, [], 0) :: (ptc b I0 T rb ++ [jmp 14 i])) T := by
    have := VL_e (i := i) hall
    rw [eL, show i + (rc.length + 2 + rb.length + 1) = T by omega] at this
    exact this
  have v0 : VL i (rc ++ jmp 15 T :: (16, 0, [], 0) :: (ptc b I0 T rb ++ [jmp 14 i])) i := VL_0
  have vB : ∀ S, VL I0 rb S → VL i (rc ++ jmp 15 T :: (16, 0, [], 0) :: (ptc b I0 T rb ++ [jmp 14 i])) S := fun S hS => by
    rw [eR]
    refine VL_m hA ?_
    rw [show i + (rc ++ [jmp 15 T, (16, 0, [], 0)]).length = I0 by simp; omega]
    refine ⟨hS.1, by rw [pl]; exact hS.2.1, ?_⟩
    refine Eq.trans (hrn_k ?_) hS.2.2
    rw [List.map_take, List.map_take, ptc_h hk]
  refine ⟨fun k => if k < I0 then dp else if k < T then D k else dp, ⟨f1 (by omega), ?_, fun j hj2 => ?_⟩, fun j x hx => ?_⟩
  · rw [eL]
    exact f3 (by omega)
  · by_cases h : i + j < I0
    · rw [show (fun k => if k < I0 then dp else if k < T then D k else dp) (i + j) = dp from f1 h]
      exact ⟨Nat.le_refl _, by omega⟩
    · by_cases h2 : i + j < T
      · rw [show (fun k => if k < I0 then dp else if k < T then D k else dp) (i + j) = D (i + j) from f2 (by omega) h2]
        have := d3 (i + j - I0) (by omega)
        rw [show I0 + (i + j - I0) = i + j by omega] at this
        omega
      · rw [show (fun k => if k < I0 then dp else if k < T then D k else dp) (i + j) = dp from f3 (by omega)]
        exact ⟨Nat.le_refl _, by omega⟩
  · by_cases h : j < rc.length
    · rw [List.getElem?_append_left h] at hx
      refine JD1_f (hf x (List.mem_of_getElem? hx)) ?_
      show (fun k => if k < I0 then dp else if k < T then D k else dp) (i + j + 1) ≤ (fun k => if k < I0 then dp else if k < T then D k else dp) (i + j)
      rw [show (fun k => if k < I0 then dp else if k < T then D k else dp) (i + j + 1) = dp from f1 (by omega), show (fun k => if k < I0 then dp else if k < T then D k else dp) (i + j) = dp from f1 (by omega)]
      exact Nat.le_refl _
    · rw [List.getElem?_append_right (by omega)] at hx
      by_cases h0 : j - rc.length = 0
      · rw [h0] at hx
        simp only [List.getElem?_cons_zero, Option.some.injEq] at hx
        subst hx
        have ej : j = rc.length := by omega
        subst ej
        refine ⟨fun _ h15 => absurd rfl h15, fun h16 => by simp [jmp] at h16, fun _ => ⟨?_, T, rfl, by omega, vT, ?_⟩, fun h14 => by simp [jmp] at h14⟩
        · rw [show (fun k => if k < I0 then dp else if k < T then D k else dp) (i + rc.length + 1) = dp from f1 (by omega), show (fun k => if k < I0 then dp else if k < T then D k else dp) (i + rc.length) = dp from f1 (by omega)]
          exact Nat.le_refl _
        · rw [show (fun k => if k < I0 then dp else if k < T then D k else dp) T = dp from f3 (by omega), show (fun k => if k < I0 then dp else if k < T then D k else dp) (i + rc.length) = dp from f1 (by omega)]
          exact Nat.le_refl _
      · by_cases h1 : j - rc.length = 1
        · rw [h1] at hx
          simp only [List.getElem?_cons_succ, List.getElem?_cons_zero, Option.some.injEq] at hx
          subst hx
          have ej : j = rc.length + 1 := by omega
          subst ej
          refine ⟨fun _ _ h16 => absurd rfl h16, fun _ => ?_, fun h15 => by simp at h15, fun h14 => by simp at h14⟩
          rw [show (fun k => if k < I0 then dp else if k < T then D k else dp) (i + (rc.length + 1) + 1) = D (i + (rc.length + 1) + 1) from f2 (by omega) (by omega), show i + (rc.length + 1) + 1 = I0 by omega, d1, show (fun k => if k < I0 then dp else if k < T then D k else dp) (i + (rc.length + 1)) = dp from f1 (by omega)]
          exact Nat.le_refl _
        · obtain ⟨m, hm⟩ : ∃ m, j = rc.length + 2 + m := ⟨j - rc.length - 2, by omega⟩
          subst hm
          rw [show rc.length + 2 + m - rc.length = m + 1 + 1 by omega, List.getElem?_cons_succ, List.getElem?_cons_succ] at hx
          have ek : i + (rc.length + 2 + m) = I0 + m := by omega
          rw [ek]
          by_cases hmb : m < rb.length
          · rw [List.getElem?_append_left (by rw [pl]; exact hmb), ptc_at (fun k hk' => (hk k hk').1)] at hx
            have dm := d3 m (by omega)
            by_cases hbb : I0 + m ∈ b ∧ m < rb.length
            · rw [if_pos hbb] at hx
              cases hx
              refine ⟨fun h14 => absurd rfl h14, fun h16 => by simp [jmp] at h16, fun h15 => by simp [jmp] at h15, fun _ => Or.inr ⟨T, rfl, vT, fun hle => by omega, fun _ => ?_⟩⟩
              rw [show (fun k => if k < I0 then dp else if k < T then D k else dp) T = dp from f3 (by omega), show (fun k => if k < I0 then dp else if k < T then D k else dp) (I0 + m) = D (I0 + m) from f2 (by omega) (by omega)]
              omega
            · rw [if_neg hbb] at hx
              obtain ⟨j1, j2, j3, j4⟩ := hj m x hx
              have eD : (fun k => if k < I0 then dp else if k < T then D k else dp) (I0 + m) = D (I0 + m) := f2 (by omega) (by omega)
              have eD1 : (fun k => if k < I0 then dp else if k < T then D k else dp) (I0 + m + 1) = D (I0 + m + 1) := f2 (by omega) (by omega)
              refine ⟨fun a b c => by rw [eD, eD1]; exact j1 a b c, fun a => by rw [eD, eD1]; exact j2 a, fun h15 => ⟨by rw [eD, eD1]; exact (j3 h15).1, ?_⟩, fun h14 => ?_⟩
              · obtain ⟨S, t1, t2, t3, t4⟩ := (j3 h15).2
                exact ⟨S, t1, t2, vB S t3, by rw [eD, show (fun k => if k < I0 then dp else if k < T then D k else dp) S = D S from f2 (by have := t3.1; omega) (by have := t3.2.1; omega)]; exact t4⟩
              · rcases j4 h14 with ⟨l, l1, l2, l3⟩ | ⟨S, t1, t2, t3, t4⟩
                · cases l1
                  refine Or.inr ⟨i, l2, v0, fun _ => ?_, fun hlt => by omega⟩
                  rw [eD, show (fun k => if k < I0 then dp else if k < T then D k else dp) i = dp from f1 (by omega)]
                  exact l3
                · have eS : (fun k => if k < I0 then dp else if k < T then D k else dp) S = D S := f2 (by have := t2.1; omega) (by have := t2.2.1; omega)
                  exact Or.inr ⟨S, t1, vB S t2, fun a => by rw [eD, eS]; exact t3 a, fun a => by rw [eD, eS]; exact t4 a⟩
          · rw [List.getElem?_append_right (by rw [pl]; omega), pl] at hx
            have em : m - rb.length = 0 := by
              by_cases h00 : m - rb.length = 0
              · exact h00
              · rw [List.getElem?_eq_none (by simp; omega)] at hx; cases hx
            rw [em] at hx
            simp only [List.getElem?_cons_zero, Option.some.injEq] at hx
            subst hx
            have em' : m = rb.length := by omega
            subst em'
            refine ⟨fun h14 => absurd rfl h14, fun h16 => by simp [jmp] at h16, fun h15 => by simp [jmp] at h15, fun _ => Or.inr ⟨i, rfl, v0, fun _ => ?_, fun hlt => by omega⟩⟩
            rw [show (fun k => if k < I0 then dp else if k < T then D k else dp) i = dp from f1 (by omega), show (fun k => if k < I0 then dp else if k < T then D k else dp) (I0 + rb.length) = D (I0 + rb.length) from f2 (by omega) (by omega), d2]
            exact Nat.le_refl _
/-- the condition -/
theorem pcn_H {t : Nat → Int32} {n : Nat} {L : List (List Nat)} {p o : Nat} {rc : List Rw} {q : Nat} (ht : txt t n) (h2 : tkk t n p ≠ 0) (ho : 1 ≤ o) (h : pcn t n L p o = .inr (rc, q)) : flat rc ∧ hrn rc 0 = 1 ∧ hok rc 0 ∧ hmx 752 rc 0 ∧ (cal4 rc → hmx 96 rc 0) ∧ o < 12 := by
  have hn := ht.1
  have bp := nx_b (p := p) ht h2
  unfold pcn at h
  by_cases c : tkk t n (nx t n p) = 40 ∧ o < 12
  · rw [if_pos c] at h
    have bp2 := nx_b (p := nx t n p) ht (by omega)
    cases hx : pX t n L (nx t n (nx t n p)) (o + 1) with
    | none => exact absurd hx (pX_n ht bp2.2.2)
    | some res =>
      rw [hx] at h
      unfold pcnr at h
      rcases res with q1 | ⟨r, c1, q1⟩
      · cases h
      · simp only [] at h
        by_cases h41 : tkk t n q1 = 41
        · rw [if_pos h41] at h
          cases h
          have hE := pX_H ht bp2.2.2 (by omega) hx
          have hb := pX_b ht bp2.2.2 hx
          have he : eops r := px_E 21100 0 [] 0 (nx t n (nx t n p)) (o + 1) (fun x hx => absurd hx List.not_mem_nil) r c1 q1 hx
          obtain ⟨a1, a2, a3⟩ := hE.1 0
          refine ⟨flat_a (flat_e he) (flat_1 (by simp)), by rw [hrn_a, a1]; rfl, hok_a a2 (by rw [a1]; exact ⟨Nat.le_refl _, trivial⟩), hmx_a (hmx_m (by omega) a3) (by rw [a1]; exact ⟨by omega, by show 1 ≤ 752; omega⟩), fun hc => hmx_a (hmx_m (by omega) (hE.2 (cal4_l hc) 0)) (by rw [a1]; exact ⟨by omega, by show 1 ≤ 96; omega⟩), c.2⟩
        · rw [if_neg h41] at h; cases h
  · rw [if_neg c] at h; cases h
/-- what the steps of statements are -/
def STH (i : Nat) (r : List Rw) (lp : Option Nat) (dp o : Nat) : Prop := SHs r ∧ STR i r lp dp o
section MSH
variable {t : Nat → Int32} {n : Nat} {L : List (List Nat)}
theorem pX_e {p o : Nat} {r : List Rw} {c q : Nat} (h : pX t n L p o = some (.inr (r, c, q))) : eops r := px_E 21100 0 [] 0 p o (fun x hx => absurd hx List.not_mem_nil) r c q h
theorem pA_e {p o : Nat} {r : List Rw} {c q : Nat} (h : pA t n L p o = some (.inr (r, c, q))) : eops r := px_E 21100 11 [] 0 p o (fun x hx => absurd hx List.not_mem_nil) r c q h
theorem STH_e {i p o dp : Nat} {lp : Option Nat} {r y : List Rw} {c q : Nat} (ht : txt t n) (hp : p ≤ n) (ho : 1 ≤ o) (ho2 : o ≤ 12) (hx : pX t n L p o = some (.inr (r, c, q))) (hy : hrn y 1 = 0 ∧ hok y 1 ∧ hmx 1 y 1) (hf : flat y) : STH i (r ++ y) lp dp o := by
  have hn := ht.1
  have hb := pX_b ht hp hx
  exact ⟨SHs_e (pX_H ht hp ho2 hx) (by omega) ho hy, STR_f (flat_a (flat_e (pX_e hx)) hf)⟩
theorem pnam_T {ck p o i dp : Nat} {lp : Option Nat} {r : List Rw} {L' : List (List Nat)} {c : Nat} {b : List Nat} {q : Nat} (ht : txt t n) (h2 : tkk t n p = 2) (ho : 1 ≤ o) (ho2 : o ≤ 12) (h : pnam t n L ck p o = some (.inr (r, L', c, b, q))) : STH i r lp dp o := by
  have hn := ht.1
  have bp := nx_b (p := p) ht (by omega)
  unfold pnam at h
  by_cases c1 : tkk t n (nx t n p) = 40
  · rw [if_pos c1] at h
    have bp2 := nx_b (p := nx t n p) ht (by omega)
    by_cases h12 : 12 ≤ o
    · rw [if_pos h12] at h; cases h
    rw [if_neg h12] at h
    by_cases c2 : tkk t n (nx t n (nx t n p)) = 41
    · rw [if_pos c2] at h
      rcases tT_r h with ⟨_, h3⟩ | ⟨_, h3⟩
      · cases h3
        exact ⟨SHs_1 rfl rfl, STR_f (flat_1 (by simp))⟩
      · cases h3
    · rw [if_neg c2] at h
      rcases aT_r h with ⟨_, _, h3⟩ | ⟨r1, c3, q1, hx, h3⟩
      · cases h3
      · rcases tT_r h3 with ⟨_, h4⟩ | ⟨_, h4⟩
        · cases h4
          obtain ⟨hA, hcq⟩ := pA_H ht bp2.2.2 (by omega) hx
          have hb := pA_b ht bp2.2.2 hx
          have hx1 : hnd ((205, Int32.ofNat c3, tkm t n p, p) : Rw) = c3 := by unfold hnd; rw [if_pos (Or.inr rfl)]; exact oN_n (by omega)
          have hx2 : hpu ((205, Int32.ofNat c3, tkm t n p, p) : Rw) = 0 := by unfold hpu; rw [if_neg (by simp)]
          have e : hst ((205, Int32.ofNat c3, tkm t n p, p) : Rw) c3 = 0 := by unfold hst; rw [hx1, hx2]; omega
          obtain ⟨a1, a2, a3⟩ := hA.1 0
          have a1' : hrn r1 0 = c3 := by rw [a1]; omega
          have hcc := hA.2.2
          refine ⟨⟨by rw [hrn_a, a1']; exact e, hok_a a2 (by rw [a1']; exact ⟨by rw [hx1]; omega, trivial⟩), hmx_a (hmx_m (by omega) a3) (by rw [a1']; exact hmx_1 (by omega) (by rw [e]; omega)), fun hc => ?_⟩, STR_f (flat_a (flat_e (pA_e hx)) (flat_1 (by simp)))⟩
          have h5 := hc _ (List.mem_append.mpr (Or.inr (List.mem_singleton.mpr rfl))) (Or.inr rfl)
          have h6 : c3 ≤ 4 := by rw [show ((205, Int32.ofNat c3, tkm t n p, p) : Rw).2.1.toNatClampNeg = c3 from oN_n (by omega)] at h5; exact h5
          exact hmx_a (hmx_m (by omega) (hA.2.1 (cal4_l hc) h6 0)) (by rw [a1']; exact hmx_1 (by omega) (by rw [e]; omega))
        · cases h4
  · rw [if_neg c1] at h
    by_cases c2 : tkk t n (nx t n p) = 91
    · rw [if_pos c2] at h
      have bp2 := nx_b (p := nx t n p) ht (by omega)
      by_cases h12 : 12 ≤ o
      · rw [if_pos h12] at h; cases h
      rw [if_neg h12] at h
      rcases eT_r h with ⟨_, _, h3⟩ | ⟨r1, c3, q1, hx, ⟨h93, h3⟩ | ⟨_, h3⟩⟩
      · cases h3
      · have hb1 := pX_b ht bp2.2.2 hx
        have bq := nx_b (p := q1) ht (by omega)
        rcases tT_r h3 with ⟨h61, h4⟩ | ⟨_, h4⟩
        · have bq2 := nx_b (p := nx t n q1) ht (by omega)
          rcases eT_r h4 with ⟨_, _, h5⟩ | ⟨r2, c4, q2, hx2, ⟨h59, h5⟩ | ⟨_, h5⟩⟩
          · cases h5
          · cases h5
            have hb2 := pX_b ht bq2.2.2 hx2
            have E1 := pX_H ht bp2.2.2 (by omega) hx
            have E2 := pX_H ht bq2.2.2 (by omega) hx2
            obtain ⟨a1, a2, a3⟩ := E1.1 0
            obtain ⟨b1, b2, b3⟩ := E2.1 1
            have a1' : hrn r1 0 = 1 := by rw [a1]
            have e2 : hrn (r1 ++ r2) 0 = 2 := by rw [hrn_a, a1', b1]
            refine ⟨⟨by rw [hrn_a, e2]; rfl, hok_a (hok_a a2 (by rw [a1']; exact b2)) (by rw [e2]; exact ⟨Nat.le_refl _, trivial⟩), hmx_a (hmx_a (hmx_m (by omega) a3) (by rw [a1']; exact hmx_m (by omega) b3)) (by rw [e2]; exact hmx_1 (by omega) (by show 0 ≤ 752; omega)), fun hc => ?_⟩, STR_f (flat_a (flat_a (flat_e (pX_e hx)) (flat_e (pX_e hx2))) (flat_1 (by simp)))⟩
            exact hmx_a (hmx_a (hmx_m (by omega) (E1.2 (cal4_l (cal4_l hc)) 0)) (by rw [a1']; exact hmx_m (by omega) (E2.2 (cal4_r (cal4_l hc)) 1))) (by rw [e2]; exact hmx_1 (by omega) (by show 0 ≤ 96; omega))
          · cases h5
        · cases h4
      · cases h3
    · rw [if_neg c2] at h
      rcases tT_r h with ⟨h61, h3⟩ | ⟨_, h3⟩
      · have bp2 := nx_b (p := nx t n p) ht (by omega)
        rcases eT_r h3 with ⟨_, _, h5⟩ | ⟨r2, c4, q2, hx2, ⟨h59, h5⟩ | ⟨_, h5⟩⟩
        · cases h5
        · cases h5
          have ha : (asg L (tkm t n p) p).1 = 5 ∨ (asg L (tkm t n p) p).1 = 201 := by
            unfold asg
            cases kwi L (tkm t n p) 0 with
            | none => exact Or.inr rfl
            | some j => exact Or.inl rfl
          refine STH_e ht bp2.2.2 ho ho2 hx2 ?_ (flat_1 (by omega))
          have h1 : hnd (asg L (tkm t n p) p) = 1 := by unfold hnd; rw [if_neg (by omega), if_neg (by omega), if_pos (by omega)]
          have h2' : hpu (asg L (tkm t n p) p) = 0 := by unfold hpu; rw [if_neg (by omega)]
          have e : hst (asg L (tkm t n p) p) 1 = 0 := by unfold hst; rw [h1, h2']
          exact ⟨e, ⟨by rw [h1]; exact Nat.le_refl _, trivial⟩, hmx_1 (Nat.le_refl _) (by rw [e]; omega)⟩
        · cases h5
      · cases h3
/-- all statements -/
theorem pst_T {fm : Nat} {Nf : List (List Nat)} (ht : txt t n) : ∀ (f m p o i : Nat) (L : List (List Nat)) (ck : Nat) (lp : Option Nat) (dp : Nat) (r : List Rw) (L' : List (List Nat)) (c : Nat) (b : List Nat) (q : Nat), p ≤ n → L.length ≤ 10 → 1 ≤ o → o ≤ 12 → pst t n fm Nf f m p o i L ck lp = some (.inr (r, L', c, b, q)) → STH i r lp dp o := by
  intro f
  induction f with
  | zero => intro m p o i L ck lp dp r L' c b q _ _ _ _ h; simp [pst] at h
  | succ f ih =>
    intro m p o i L ck lp dp r L' c b q hp hL ho ho2 h
    have hB := pst_B ht _ _ _ _ _ _ _ _ _ hp hL h
    have hn := ht.1
    unfold pst at h
    by_cases m0 : m = 0
    · rw [if_pos m0] at h
      by_cases c0 : tkk t n p = 125
      · rw [if_pos c0] at h
        cases h
        exact ⟨SHs_0, STR_f (fun x hx => absurd hx List.not_mem_nil)⟩
      · rw [if_neg c0] at h
        rcases bs_r h with ⟨_, _, h3⟩ | ⟨r1, L1, c1, b1, q1, hx1, h3⟩
        · cases h3
        · have hB1 := (pst_B ht _ _ _ _ _ _ _ _ _ hp hL hx1).2 r1 L1 c1 b1 q1 rfl
          rcases bs_r h3 with ⟨_, _, h4⟩ | ⟨r2, L2, c2, b2, q2, hx2, h4⟩
          · cases h4
          · cases h4
            have t1 := ih 1 p o i L ck lp dp r1 L1 c1 b1 q1 hp hL ho ho2 hx1
            have t2 := ih 0 q1 o (i + r1.length) L1 c1 lp dp r2 _ _ b2 _ hB1.2.1 hB1.2.2.2.2.2.1 ho ho2 hx2
            exact ⟨SHs_a t1.1 t2.1, STR_a t1.2 t2.2 t1.1.1⟩
    rw [if_neg m0] at h
    by_cases c2 : tkk t n p = 2
    · rw [if_pos c2] at h
      exact pnam_T ht c2 ho ho2 h
    rw [if_neg c2] at h
    by_cases c3 : tkk t n p = 307
    · rw [if_pos c3] at h
      have bp := nx_b (p := p) ht (by omega)
      unfold plet at h
      by_cases hw : nwL t n L Nf 10 (nx t n p) = true
      · rw [if_pos hw] at h
        have bp2 := nx_b (p := nx t n p) ht (by have := (nwL_t.mp hw).1; omega)
        rcases tT_r h with ⟨h61, h3⟩ | ⟨_, h3⟩
        · have bp3 := nx_b (p := nx t n (nx t n p)) ht (by omega)
          rcases eT_r h3 with ⟨_, _, h5⟩ | ⟨r2, c4, q2, hx2, ⟨h59, h5⟩ | ⟨_, h5⟩⟩
          · cases h5
          · cases h5
            exact STH_e ht bp3.2.2 ho ho2 hx2 ⟨rfl, ⟨Nat.le_refl _, trivial⟩, hmx_1 (Nat.le_refl _) (by show 0 ≤ 1; omega)⟩ (flat_1 (by simp))
          · cases h5
        · cases h3
      · rw [if_neg hw] at h; cases h
    rw [if_neg c3] at h
    by_cases c4 : tkk t n p = 308
    · rw [if_pos c4] at h
      unfold pif at h
      rw [pcon_e ht (by omega)] at h
      cases hc : pcn t n L p o with
      | inl q1 => rw [hc] at h; cases h
      | inr v =>
        obtain ⟨rc, q1⟩ := v
        rw [hc] at h
        obtain ⟨k1, k2, k3, k4, k5, k6⟩ := pcn_H ht (by omega) ho hc
        have hcb := pcn_b ht (by omega) hc
        rcases pblk_c h with ⟨_, h3⟩ | ⟨hbr, ⟨_, _, h3⟩ | ⟨rb, L1, c1, b1, q2, hx1, h3⟩⟩
        · cases h3
        · cases h3
        · have bq1 := nx_b (p := q1) ht (by omega)
          have hB1 := (pst_B ht _ _ _ _ _ _ _ _ _ bq1.2.2 hL hx1).2 rb L1 c1 b1 q2 rfl
          have bq2 := nx_b (p := q2) ht (by have := hB1.2.2.2.2.2.2.2.1 rfl; omega)
          have t1 := ih 0 (nx t n q1) (o + 1) (i + rc.length + 1) L ck lp dp rb L1 c1 b1 q2 bq1.2.2 hL (by omega) (by omega) hx1
          have w1 : STR (i + rc.length + 1) rb lp dp o := by
            obtain ⟨D, ⟨d1, d2, d3⟩, hj⟩ := t1.2
            exact ⟨D, ⟨d1, d2, fun j hj => by have := d3 j hj; omega⟩, hj⟩
          by_cases c9 : tkk t n (nx t n q2) = 309
          · rw [if_pos c9] at h3
            have bq3 := nx_b (p := nx t n q2) ht (by omega)
            rcases pblk_c h3 with ⟨_, h4⟩ | ⟨hbr2, ⟨_, _, h4⟩ | ⟨re, L2, c2', b2, q3, hx2, h4⟩⟩
            · cases h4
            · cases h4
            · cases h4
              have bq4 := nx_b (p := nx t n (nx t n q2)) ht (by omega)
              have t2 := ih 0 (nx t n (nx t n (nx t n q2))) (o + 1) (i + rc.length + 1 + rb.length + 1) L1 c1 lp dp re _ _ b2 _ bq4.2.2 hB1.2.2.2.2.2.1 (by omega) (by omega) hx2
              have w2 : STR (i + rc.length + 1 + rb.length + 1) re lp dp o := by
                obtain ⟨D, ⟨d1, d2, d3⟩, hj⟩ := t2.2
                exact ⟨D, ⟨d1, d2, fun j hj => by have := d3 j hj; omega⟩, hj⟩
              refine ⟨?_, STR_el k1 k2 w1 t1.1.1 w2 t2.1.1⟩
              generalize i + rc.length + 1 + rb.length + 1 = T1
              have s1 : SHs (rb ++ jmp 14 (T1 + re.length) :: re) := by
                have := SHs_a t1.1 (SHs_a (SHs_1 (x := jmp 14 (T1 + re.length)) rfl rfl) t2.1)
                simpa using this
              refine ⟨by rw [hrn_a, k2]; exact s1.1, hok_a k3 (by rw [k2]; exact ⟨Nat.le_refl _, s1.2.1⟩), hmx_a k4 (by rw [k2]; exact ⟨by omega, s1.2.2.1⟩), fun h4 => hmx_a (k5 (cal4_l h4)) (by rw [k2]; exact ⟨by omega, s1.2.2.2 (fun x hx => cal4_r h4 x (List.mem_cons_of_mem _ hx))⟩)⟩
          · rw [if_neg c9] at h3
            cases h3
            refine ⟨?_, STR_if k1 k2 w1 t1.1.1⟩
            generalize i + rc.length + 1 + rb.length = T1
            refine ⟨by rw [hrn_a, k2]; exact t1.1.1, hok_a k3 (by rw [k2]; exact ⟨Nat.le_refl _, t1.1.2.1⟩), hmx_a k4 (by rw [k2]; exact ⟨by omega, t1.1.2.2.1⟩), fun h4 => hmx_a (k5 (cal4_l h4)) (by rw [k2]; exact ⟨by omega, t1.1.2.2.2 (fun x hx => cal4_r h4 x (List.mem_cons_of_mem _ hx))⟩)⟩
    rw [if_neg c4] at h
    by_cases c5 : tkk t n p = 310
    · rw [if_pos c5] at h
      unfold pwh at h
      rw [pcon_e ht (by omega)] at h
      cases hc : pcn t n L p o with
      | inl q1 => rw [hc] at h; cases h
      | inr v =>
        obtain ⟨rc, q1⟩ := v
        rw [hc] at h
        obtain ⟨k1, k2, k3, k4, k5, k6⟩ := pcn_H ht (by omega) ho hc
        have hcb := pcn_b ht (by omega) hc
        rcases pblk_c h with ⟨_, h3⟩ | ⟨hbr, ⟨_, _, h3⟩ | ⟨rb, L1, c1, b1, q2, hx1, h3⟩⟩
        · cases h3
        · cases h3
        · have bq1 := nx_b (p := q1) ht (by omega)
          have t1 := ih 0 (nx t n q1) (o + 1) (i + rc.length + 2) L ck (some i) (dp + 1) rb L1 c1 b1 q2 bq1.2.2 hL (by omega) (by omega) hx1
          have hbk := pst_bk (t := t) (n := n) _ _ _ _ _ _ _ _ _ _ _ _ _ hx1
          cases h3
          refine ⟨?_, STR_wh k6 k1 k2 hbk t1.2 t1.1.1⟩
          generalize i + rc.length + 2 + rb.length + 1 = T1
          have s0 := SHs_p (T := T1) hbk t1.1
          have s1 : SHs ((16, 0, [], 0) :: (ptc b1 (i + rc.length + 2) T1 rb ++ [jmp 14 i])) := by
            have := SHs_a (SHs_1 (x := ((16, 0, [], 0) : Rw)) rfl rfl) (SHs_a s0 (SHs_1 (x := jmp 14 i) rfl rfl))
            simpa using this
          refine ⟨by rw [hrn_a, k2]; exact s1.1, hok_a k3 (by rw [k2]; exact ⟨Nat.le_refl _, s1.2.1⟩), hmx_a k4 (by rw [k2]; exact ⟨by omega, s1.2.2.1⟩), fun h4 => hmx_a (k5 (cal4_l h4)) (by rw [k2]; exact ⟨by omega, s1.2.2.2 (fun x hx => cal4_r h4 x (List.mem_cons_of_mem _ hx))⟩)⟩
    rw [if_neg c5] at h
    by_cases c6 : tkk t n p = 311 ∨ tkk t n p = 312
    · rw [if_pos c6] at h
      unfold plv at h
      cases lp with
      | none => cases h
      | some l =>
        simp only [] at h
        rcases tT_r h with ⟨_, h3⟩ | ⟨_, h3⟩
        · cases h3
          refine ⟨SHs_1 rfl rfl, fun _ => dp, ⟨rfl, rfl, fun _ _ => ⟨Nat.le_refl _, Nat.le_add_right _ _⟩⟩, fun j x hx => ?_⟩
          have h0 : j = 0 := by
            by_cases h00 : j = 0
            · exact h00
            · rw [List.getElem?_eq_none (by simp; omega)] at hx; cases hx
          subst h0
          simp only [List.getElem?_cons_zero, Option.some.injEq] at hx
          subst hx
          exact ⟨fun h14 => absurd rfl h14, fun h16 => by simp at h16, fun h15 => by simp at h15, fun _ => Or.inl ⟨l, rfl, rfl, Nat.le_refl _⟩⟩
        · cases h3
    rw [if_neg c6] at h
    by_cases c7 : tkk t n p = 313
    · rw [if_pos c7] at h
      have bp := nx_b (p := p) ht (by omega)
      unfold pret at h
      by_cases f4 : fm = 4
      · rw [if_pos f4] at h; cases h
      rw [if_neg f4] at h
      by_cases f2 : fm = 2
      · rw [if_pos f2] at h
        rcases eT_r h with ⟨_, _, h5⟩ | ⟨r2, c4, q2, hx2, ⟨h59, h5⟩ | ⟨_, h5⟩⟩
        · cases h5
        · cases h5
          exact STH_e ht bp.2.2 ho ho2 hx2 ⟨rfl, ⟨Nat.le_refl _, trivial⟩, hmx_1 (Nat.le_refl _) (by show 0 ≤ 1; omega)⟩ (flat_1 (by simp))
        · cases h5
      · rw [if_neg f2] at h
        rcases tT_r h with ⟨_, h3⟩ | ⟨_, h3⟩
        · cases h3
          exact ⟨SHs_1 rfl rfl, STR_f (flat_1 (by simp))⟩
        · cases h3
    rw [if_neg c7] at h
    by_cases c8 : tkk t n p = 314
    · rw [if_pos c8] at h
      have bp := nx_b (p := p) ht (by omega)
      unfold pchk at h
      rcases eT_r h with ⟨_, _, h5⟩ | ⟨r2, c4, q2, hx2, ⟨h59, h5⟩ | ⟨_, h5⟩⟩
      · cases h5
      · cases h5
        refine STH_e ht bp.2.2 ho ho2 hx2 ⟨rfl, ⟨Nat.le_refl _, Nat.le_refl _, trivial⟩, ⟨Nat.le_refl _, Nat.le_refl _, by show 0 ≤ 1; omega⟩⟩ (fun x hx => ?_)
        rcases List.mem_cons.mp hx with h | h
        · rw [h]; simp
        · rw [List.mem_singleton.mp h]
          simp
      · cases h5
    · rw [if_neg c8] at h
      cases h
end MSH
