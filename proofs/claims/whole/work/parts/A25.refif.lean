/-! ===== the reference reads one statement ===== -/
section MS0
variable {e : my_E} {d : Nat} {κ : my_K} {Q : my_O → my_K → my_S → Prop} {t : Nat → Int32} {n : Nat} {NL : List (List Nat)} {own : List Nat} {fm : Nat}
theorem lwB_n {kd j l : Nat} {D : List Bd} (h : kd ≠ 3) : lwB ((kd, j, l) :: D) = lwB D := if_neg h
theorem lwB_3 {j l : Nat} {D : List Bd} : lwB ((3, j, l) :: D) = some (D.length, l) := if_pos rfl
/-- what the block behind a condition comes to -/
theorem pblk_c {g : Pg} {q o i ck : Nat} {L : List (List Nat)} {lp : Option Nat} {k : List Rw → List (List Nat) → Nat → List Nat → Nat → Ss} {res : Nat ⊕ (List Rw × List (List Nat) × Nat × List Nat × Nat)} (h : bsq (pblk t n g q o i L ck lp) k = some res) : (¬ (tkk t n q = 123 ∧ o < 12) ∧ res = .inl q) ∨ ((tkk t n q = 123 ∧ o < 12) ∧ ((∃ q1, g 0 (nx t n q) (o + 1) i L ck lp = some (.inl q1) ∧ res = .inl q1) ∨ ∃ r L1 c1 b q1, g 0 (nx t n q) (o + 1) i L ck lp = some (.inr (r, L1, c1, b, q1)) ∧ k r L1 c1 b (nx t n q1) = some res)) := by
  unfold pblk at h
  by_cases hc : tkk t n q = 123 ∧ o < 12
  · rw [if_pos hc] at h
    refine Or.inr ⟨hc, ?_⟩
    rcases bs_r h with ⟨q1, g1, g2⟩ | ⟨r, L1, c1, b, q1, g1, g2⟩
    · rcases bs_r g1 with ⟨q2, g3, g4⟩ | ⟨r2, L2, c2, b2, q2, g3, g4⟩
      · cases g4; exact Or.inl ⟨q1, g3, g2⟩
      · cases g4
    · rcases bs_r g1 with ⟨q2, g3, g4⟩ | ⟨r2, L2, c2, b2, q2, g3, g4⟩
      · cases g4
      · cases g4; exact Or.inr ⟨_, _, _, _, _, g3, g2⟩
  · rw [if_neg hc] at h
    cases h
    exact Or.inl ⟨hc, rfl⟩
theorem SX_if {f : Nat} (ht : txt t n) (hd : 12 ≤ d) (i0 : SX1 e d κ Q t n NL own fm 0 f) {p o : Nat} {L : List (List Nat)} {ck : Nat} {R : List Rw} {D : List Bd} {K : List (Nat × Nat)} {σ : my_S} {res : Nat ⊕ (List Rw × List (List Nat) × Nat × List Nat × Nat)} (h308 : tkk t n p = 308) (hp : pif t n (pst t n fm (NL ++ [own]) f) p o R.length L ck ((lwB D).map (fun x => x.2)) = some res) (h : RM t n L (.inr (p, o, R)) σ) (hb : bX n 0 (.inr (p, o, R))) (hR : RD D K ck σ) (hN : RN NL own σ) (hL : L.length ≤ 10) (hD0 : 0 < D.length) (hDo : D.length ≤ o) (hDb : ∀ b ∈ D, b.1 ≤ 3) (hK : ∀ x ∈ K, x.2 < D.length) (hKp : K.length * 6 ≤ p) (hf : ∀ q N σ', res = .inl q → RM t n L (.inl (q, N)) σ' → bX n 5 (.inl (q, N)) → eqp sF σ σ' → ys_233_111 e d (Int32.ofNat (fm + 10)) κ σ' Q) (hQ : ∀ r L' c b q σ', res = .inr (r, L', c, b, q) → RM t n L' (.inr (q, o, R ++ r)) σ' → RD D (K ++ b.map (fun i => (i, lwN D))) c σ' → eqp sF σ σ' → ys_233_111 e d (Int32.ofNat (fm + 10)) κ σ' Q) : ys_233_111 e d (Int32.ofNat (fm + 10)) κ σ Q := by
  have hn := ht.1
  have hRp := hb.2.2
  have hpn := hb.2.1
  have ho := hb.1
  have T : ∀ (k : Nat) (y : Int32), ((33 ≤ k ∧ k < 127) ∨ (256 ≤ k ∧ k < 259) ∨ (300 ≤ k ∧ k < 317) ∨ k ≤ 3) → y = Int32.ofNat (kR k) → (σ.1 498 4 = y ↔ tkk t n p = k) := fun k y hk hy => RM_T ht h k hk hy
  refine lp_st (by omega) h hR hD0 (by omega) (fun Q' hQ' => ?_)
  unfold ys_241_0 ys_241_257
  rw [if_neg (fun hh => by have := (T 125 125 (by omega) rfl).mp hh; omega), if_neg (fun hh => by have := (T 307 17 (by omega) rfl).mp hh; omega), if_neg (fun hh => by have := (T 2 2 (by omega) rfl).mp hh; omega), if_pos ((T 308 18 (by omega) rfl).mpr h308)]
  unfold pif at hp
  rw [pcon_e ht (by omega)] at hp
  refine r_254 (kd := 1) ht (by omega) (by omega) (Or.inl rfl) hb h (by omega) hR (fun q N σ1 hc g1 b1 f1 => ?_) (fun rc q σ1 hc h123 ho12 g1 hR1 f1 => ?_)
  · rw [my_k0_v]
    refine hQ' κ σ1 (hf q N σ1 ?_ g1 (bX_w b1 (by omega)) f1)
    rcases hc with hc | ⟨rc, hc, hno⟩
    · rw [hc] at hp; cases hp; rfl
    · rw [hc] at hp
      rcases pblk_c hp with ⟨_, g2⟩ | ⟨g2, _⟩
      · exact g2
      · exact absurd g2 hno
  · rw [my_k0_v]
    apply hQ'
    rw [hc] at hp
    have hcb := pcn_b ht (by omega) hc
    have hlt := nx_bd ht (tk_lt (t := t) (n := n) (p := q) (by omega))
    rw [if_neg (by omega)] at g1
    have hb1 : bX n 0 (.inr (nx t n q, o + 1, R ++ (rc ++ [(15, 0, [], 0)]))) := ⟨by omega, hlt.2, by simp only [List.length_append, List.length_cons, List.length_nil]; omega⟩
    have hlw : lwB ((1, R.length + rc.length, R.length) :: D) = lwB D := lwB_n (by omega)
    have hlN : lwN ((1, R.length + rc.length, R.length) :: D) = lwN D := by unfold lwN; rw [hlw]
    have hlen : (R ++ (rc ++ [((15, 0, [], 0) : Rw)])).length = R.length + rc.length + 1 := by simp; omega
    have hDb1 : ∀ b ∈ ((1, R.length + rc.length, R.length) :: D : List Bd), b.1 ≤ 3 := fun b hb' => by
      rcases List.mem_cons.mp hb' with rfl | hb'
      · show 1 ≤ 3; omega
      · exact hDb b hb'
    have hDK : lwN D < D.length := by
      unfold lwN
      cases hl : lwB D with
      | none => exact hD0
      | some y => obtain ⟨jj, ll⟩ := y; exact lwB_lt hl
    rcases pblk_c hp with ⟨g2, _⟩ | ⟨_, ⟨q1, g2, g3⟩ | ⟨rb, L1, c1, b, q1, g2, g3⟩⟩
    · exact absurd ⟨h123, ho12⟩ g2
    · refine i0 (nx t n q) (o + 1) L ck _ _ K σ1 _ (by rw [hlen, hlw]; exact g2) (fun hh => absurd rfl hh) g1 hb1 hR1 (RN_s hN f1) hL (by simp) (by simp; omega) hDb1 (fun x hx => by have := hK x hx; simp; omega) (by omega) (fun q' N σ2 hh a b c => ?_) (fun _ _ _ _ _ _ hh => by cases hh)
      cases hh
      exact hf q1 N σ2 g3 a b (eqp_tr f1 c)
    · obtain ⟨b1, b2, b3, b4, b5, b6, b7, b8, b9, b10⟩ := (pst_B ht _ _ _ _ _ _ _ _ _ hlt.2 hL g2).2 _ _ _ _ _ rfl
      have h125 := b8 rfl
      refine i0 (nx t n q) (o + 1) L ck _ _ K σ1 _ (by rw [hlen, hlw]; exact g2) (fun hh => absurd rfl hh) g1 hb1 hR1 (RN_s hN f1) hL (by simp) (by simp; omega) hDb1 (fun x hx => by have := hK x hx; simp; omega) (by omega) (fun q' N σ2 hh => by cases hh) (fun r' L' c' b' q' σ2 hh h2 hR2 f2 => ?_)
      cases hh
      rw [hlN] at hR2
      have f12 := eqp_tr f1 f2
      have hb2 : bX n 0 (.inr (q1, o + 1, R ++ (rc ++ [(15, 0, [], 0)]) ++ rb)) := ⟨by omega, b2, by simp only [List.length_append, List.length_cons, List.length_nil]; omega⟩
      have hxj : (R ++ (rc ++ [((15, 0, [], 0) : Rw)]) ++ rb)[R.length + rc.length]? = some (15, 0, [], 0) := by
        rw [List.append_assoc, List.append_assoc, ← List.append_assoc, List.getElem?_append_right (by simp)]
        simp
      have hset : ∀ (T : Int32) (C : List Rw), (R ++ (rc ++ [((15, 0, [], 0) : Rw)]) ++ rb ++ C).set (R.length + rc.length) (15, T, [], 0) = R ++ (rc ++ (15, T, [], 0) :: (rb ++ C)) := fun T C => by
        have e1 : R ++ (rc ++ [((15, 0, [], 0) : Rw)]) ++ rb ++ C = (R ++ rc) ++ ((15, 0, [], 0) :: (rb ++ C)) := by simp
        rw [e1, List.set_append_right _ _ (by simp), show R.length + rc.length - (R ++ rc).length = 0 by simp]
        simp
      have hl2 : (R ++ (rc ++ [((15, 0, [], 0) : Rw)]) ++ rb).length = R.length + rc.length + 1 + rb.length := by simp; omega
      refine lp_e (b := []) (K0 := K ++ b.map (fun i => (i, lwN D))) (x := (15, 0, [], 0)) ht (by omega) h125 hb2 h2 (by simpa using hR2) (by omega) (by omega) (fun _ => hxj) (fun _ => rfl) (by simp; omega) (fun hh => by omega) (fun hh => by omega) (fun hh => by omega) (fun hc1 σ3 g4 hR3 f3 => ?_) (fun _ h309 σ3 g4 hR3 f3 => ?_) (fun hh => by omega)
      · have n309 : tkk t n (nx t n q1) ≠ 309 := by
          rcases hc1 with hh | hh
          · omega
          · exact hh.2
        rw [if_neg n309] at g3
        cases g3
        refine hQ _ _ _ _ _ σ3 rfl ?_ hR3 (eqp_tr f12 f3)
        have := hset (Int32.ofNat (R.length + rc.length + 1 + rb.length)) []
        rw [List.append_nil, List.append_nil] at this
        rw [hl2] at g4
        change RM t n L1 (.inr (nx t n q1, o, (R ++ (rc ++ [((15, 0, [], 0) : Rw)]) ++ rb).set (R.length + rc.length) (15, Int32.ofNat (R.length + rc.length + 1 + rb.length), [], 0))) σ3 at g4
        rw [this] at g4
        exact g4
      · rw [if_pos h309] at g3
        have hlt1 := nx_bd ht (tk_lt (t := t) (n := n) (p := q1) (by omega))
        have hlt2 := nx_bd ht (tk_lt (t := t) (n := n) (p := nx t n q1) (by omega))
        rw [hl2] at g4 hR3
        have e2 := hset (Int32.ofNat (R.length + rc.length + 1 + rb.length + 1)) [(14, 0, [], 0)]
        change RM t n L1 (xop t n 123 (.inr (nx t n (nx t n q1), o, (R ++ (rc ++ [((15, 0, [], 0) : Rw)]) ++ rb ++ [(14, 0, [], 0)]).set (R.length + rc.length) (15, Int32.ofNat (R.length + rc.length + 1 + rb.length + 1), [], 0)))) σ3 at g4
        change ∀ p' o' R', xop t n 123 (.inr (nx t n (nx t n q1), o, (R ++ (rc ++ [((15, 0, [], 0) : Rw)]) ++ rb ++ [(14, 0, [], 0)]).set (R.length + rc.length) (15, Int32.ofNat (R.length + rc.length + 1 + rb.length + 1), [], 0))) = .inr (p', o', R') → _ at hR3
        rw [e2] at g4 hR3
        have f13 := eqp_tr f12 f3
        rcases pblk_c g3 with ⟨h5, h6⟩ | ⟨h5, h6⟩
        · have e3 : xop t n 123 (.inr (nx t n (nx t n q1), o, R ++ (rc ++ ((15, Int32.ofNat (R.length + rc.length + 1 + rb.length + 1), [], 0) : Rw) :: (rb ++ [(14, 0, [], 0)])))) = .inl (nx t n (nx t n q1), (R ++ (rc ++ ((15, Int32.ofNat (R.length + rc.length + 1 + rb.length + 1), [], 0) : Rw) :: (rb ++ [(14, 0, [], 0)]))).length) := by
            show (if tkk t n (nx t n (nx t n q1)) = 123 ∧ o < 12 then _ else _) = _
            rw [if_neg h5]
          rw [e3] at g4
          exact hf _ _ σ3 h6 g4 (bX_w (bX_f (N := 0) ht (by omega) hlt2.2 (by simp only [List.length_append, List.length_cons, List.length_nil]; omega)) (by omega)) f13
        · have e3 : xop t n 123 (.inr (nx t n (nx t n q1), o, R ++ (rc ++ ((15, Int32.ofNat (R.length + rc.length + 1 + rb.length + 1), [], 0) : Rw) :: (rb ++ [(14, 0, [], 0)])))) = .inr (nx t n (nx t n (nx t n q1)), o + 1, R ++ (rc ++ ((15, Int32.ofNat (R.length + rc.length + 1 + rb.length + 1), [], 0) : Rw) :: (rb ++ [(14, 0, [], 0)]))) := by
            show (if tkk t n (nx t n (nx t n q1)) = 123 ∧ o < 12 then _ else _) = _
            rw [if_pos h5]
          rw [e3] at g4
          have hR3 := hR3 _ _ _ e3
          have hlt3 := nx_bd ht (tk_lt (t := t) (n := n) (p := nx t n (nx t n q1)) (by omega))
          have hlw2 : lwB ((2, R.length + rc.length + 1 + rb.length, 0) :: D) = lwB D := lwB_n (by omega)
          have hlN2 : lwN ((2, R.length + rc.length + 1 + rb.length, 0) :: D) = lwN D := by unfold lwN; rw [hlw2]
          have hl3 : (R ++ (rc ++ ((15, Int32.ofNat (R.length + rc.length + 1 + rb.length + 1), [], 0) : Rw) :: (rb ++ [(14, 0, [], 0)]))).length = R.length + rc.length + 1 + rb.length + 1 := by simp; omega
          have hb3 : bX n 0 (.inr (nx t n (nx t n (nx t n q1)), o + 1, R ++ (rc ++ ((15, Int32.ofNat (R.length + rc.length + 1 + rb.length + 1), [], 0) : Rw) :: (rb ++ [(14, 0, [], 0)])))) := ⟨by omega, hlt3.2, by simp only [List.length_append, List.length_cons, List.length_nil]; omega⟩
          have hDb2 : ∀ b ∈ ((2, R.length + rc.length + 1 + rb.length, 0) :: D : List Bd), b.1 ≤ 3 := fun b hb' => by
            rcases List.mem_cons.mp hb' with rfl | hb'
            · show 2 ≤ 3; omega
            · exact hDb b hb'
          have hK2 : ∀ x ∈ K ++ b.map (fun i => (i, lwN D)), x.2 < ((2, R.length + rc.length + 1 + rb.length, 0) :: D : List Bd).length := fun x hx => by
            rcases List.mem_append.mp hx with hx | hx
            · have := hK x hx; simp; omega
            · obtain ⟨i, hi, rfl⟩ := List.mem_map.mp hx
              show lwN D < _
              simp; omega
          rcases h6 with ⟨q2, h7, h8⟩ | ⟨re, L2, c2, bb, q2, h7, h8⟩
          · refine i0 _ (o + 1) L1 c1 _ _ _ σ3 _ (by rw [hl3, hlw2]; exact h7) (fun hh => absurd rfl hh) g4 hb3 hR3 (RN_s hN f13) b6 (by simp) (by simp; omega) hDb2 hK2 (by simp only [List.length_append, List.length_map]; omega) (fun q' N σ4 hh a b c => ?_) (fun _ _ _ _ _ _ hh => by cases hh)
            cases hh
            exact hf q2 N σ4 h8 a b (eqp_tr f13 c)
          · obtain ⟨d1, d2, d3, d4, d5, d6, d7, d8, d9, d10⟩ := (pst_B ht _ _ _ _ _ _ _ _ _ hlt3.2 b6 h7).2 _ _ _ _ _ rfl
            refine i0 _ (o + 1) L1 c1 _ _ _ σ3 _ (by rw [hl3, hlw2]; exact h7) (fun hh => absurd rfl hh) g4 hb3 hR3 (RN_s hN f13) b6 (by simp) (by simp; omega) hDb2 hK2 (by simp only [List.length_append, List.length_map]; omega) (fun q' N σ4 hh => by cases hh) (fun r' L' c' b' q' σ4 hh h9 hR4 f4 => ?_)
            cases hh
            rw [hlN2] at hR4
            have f14 := eqp_tr f13 f4
            have hb4 : bX n 0 (.inr (q2, o + 1, R ++ (rc ++ ((15, Int32.ofNat (R.length + rc.length + 1 + rb.length + 1), [], 0) : Rw) :: (rb ++ [(14, 0, [], 0)])) ++ re)) := ⟨by omega, d2, by simp only [List.length_append, List.length_cons, List.length_nil]; omega⟩
            have e5 : R ++ (rc ++ ((15, Int32.ofNat (R.length + rc.length + 1 + rb.length + 1), [], 0) : Rw) :: (rb ++ [(14, 0, [], 0)])) ++ re = (R ++ (rc ++ (15, Int32.ofNat (R.length + rc.length + 1 + rb.length + 1), [], 0) :: rb)) ++ (14, 0, [], 0) :: re := by simp
            have hl5 : (R ++ (rc ++ ((15, Int32.ofNat (R.length + rc.length + 1 + rb.length + 1), [], 0) : Rw) :: rb)).length = R.length + rc.length + 1 + rb.length := by simp; omega
            have hxj2 : (R ++ (rc ++ ((15, Int32.ofNat (R.length + rc.length + 1 + rb.length + 1), [], 0) : Rw) :: (rb ++ [(14, 0, [], 0)])) ++ re)[R.length + rc.length + 1 + rb.length]? = some (14, 0, [], 0) := by
              rw [e5, List.getElem?_append_right (Nat.le_of_eq hl5), hl5, Nat.sub_self]
              rfl
            refine lp_e (b := []) (K0 := K ++ b.map (fun i => (i, lwN D)) ++ bb.map (fun i => (i, lwN D))) (x := (14, 0, [], 0)) ht (by omega) (d8 rfl) hb4 h9 (by simpa using hR4) (by omega) (by omega) (fun _ => hxj2) (fun _ => rfl) (by simp only [List.map_nil, List.append_nil, List.length_append, List.length_map]; omega) (fun hh => by omega) (fun hh => by omega) (fun hh => by omega) (fun hc1 σ5 g6 hR5 f5 => ?_) (fun hh => by omega) (fun hh => by omega)
            cases h8
            refine hQ _ _ _ _ _ σ5 rfl ?_ (by rw [List.map_append, ← List.append_assoc]; exact hR5) (eqp_tr f14 f5)
            have hl6 : (R ++ (rc ++ ((15, Int32.ofNat (R.length + rc.length + 1 + rb.length + 1), [], 0) : Rw) :: (rb ++ [(14, 0, [], 0)])) ++ re).length = R.length + rc.length + 1 + rb.length + 1 + re.length := by simp; omega
            rw [hl6] at g6
            change RM t n L2 (.inr (nx t n q2, o, (R ++ (rc ++ ((15, Int32.ofNat (R.length + rc.length + 1 + rb.length + 1), [], 0) : Rw) :: (rb ++ [(14, 0, [], 0)])) ++ re).set (R.length + rc.length + 1 + rb.length) (14, Int32.ofNat (R.length + rc.length + 1 + rb.length + 1 + re.length), [], 0))) σ5 at g6
            have e6 : (R ++ (rc ++ ((15, Int32.ofNat (R.length + rc.length + 1 + rb.length + 1), [], 0) : Rw) :: (rb ++ [(14, 0, [], 0)])) ++ re).set (R.length + rc.length + 1 + rb.length) (14, Int32.ofNat (R.length + rc.length + 1 + rb.length + 1 + re.length), [], 0) = R ++ (rc ++ jmp 15 (R.length + rc.length + 1 + rb.length + 1) :: (rb ++ jmp 14 (R.length + rc.length + 1 + rb.length + 1 + re.length) :: re)) := by
              rw [e5, List.set_append_right _ _ (Nat.le_of_eq hl5), hl5, Nat.sub_self]
              simp [jmp]
            rw [e6] at g6
            exact g6
end MS0
