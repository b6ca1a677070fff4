/-! ===== class and reference agree on statements that begin with a name ===== -/
section MTU
variable {t : Nat → Int32} {n : Nat} {L : List (List Nat)} {LT LTr : Nat → Int32} {I : List It} {ity cF : Int32}
theorem omin_ac1 {a b c d e : Option Nat} : omin (omin (omin (omin a b) c) d) e = omin (omin (omin (omin b d) a) e) c := by
  haveI : Std.Associative (omin) := ⟨fun a b c => omin_s⟩
  haveI : Std.Commutative (omin) := ⟨fun a b => omin_c⟩
  ac_rfl
/-- a call as a statement -/
theorem TS_c {S S2 : St} {r : List Rw} {p p3 q1 q c : Nat} {nm : List Nat} (hI : IC I) (hp : p < p3) (hq : p3 ≤ q1) (hq' : q1 < q) (hq2 : q ≤ 2000) (hcn : c < 2000) (hE : eops r) (h : TA L LT I (mnt I true nm 2 p S).1 (mnt I true nm 2 p S).2 r p3 q1 c S2) : ∃ mm mR, CEm S (cend I true true (mnt I true nm 2 p S).1 c p S.2.1 S2).2 mm ∧ okT mm p q ∧ okT mR p q ∧ (∀ mf, trs2 I ity (r ++ [(205, Int32.ofNat c, nm, p)]) (LT, [], mf) = (LT, [], omin mf mR)) ∧ (LTc L LT → mR = mm ∧ (mm = none → ∃ k, itK I nm = some k ∧ NFr I r ∧ (cend I true true (mnt I true nm 2 p S).1 c p S.2.1 S2).2 = wnm true 10 (some k) (ers I r S))) := by
  obtain ⟨A, mO, mF, k, mR, g1, g2, g3, g4, g5, g6, gp, g7, g8⟩ := h
  have cA := CE_mnt (I := I) (nm := nm) (kd := 2) (S := S) (pl := p) (by omega)
  rw [mnt_e] at g1 g8 cA ⊢
  have hdr : (A.reverse ++ []).drop (Int32.ofNat c).toNatClampNeg = ([] : List (Int32 × Nat)) := by
    rw [oN_n (by omega), ← g6]; simp
  have htk : ((A.reverse ++ ([] : List (Int32 × Nat))).take (Int32.ofNat c).toNatClampNeg).reverse = A := by
    rw [oN_n (by omega), ← g6, List.append_nil, show A.length = A.reverse.length by simp, List.take_length, List.reverse_reverse]
  have htr : ∀ mf, trs2 I ity (r ++ [(205, Int32.ofNat c, nm, p)]) (LT, [], mf) = (LT, [], (tcal I (205, Int32.ofNat c, nm, p) (A.reverse ++ []) (omin mf mR)).2) := fun mf => by
    rw [trs2_a, trs2_x hE, g7]
    show (LT, (A.reverse ++ []).drop (Int32.ofNat c).toNatClampNeg, (tcal I (205, Int32.ofNat c, nm, p) (A.reverse ++ []) (omin mf mR)).2) = _
    rw [hdr]
  have hNr : ∀ mf, omin mf mR = none → NFr I r := fun mf h0 => by
    have := g7 [] mf
    exact (trs_NF (I := I) (s := (LT, [], mf)) hE (by rw [this]; exact h0)).2
  unfold tcal at htr
  simp only [mns_e] at htr
  cases hk : mnF I nm 2 with
  | none =>
    rw [hk] at g8 cA g1 htr
    simp only [↓reduceIte] at g1 g8 cA
    have c5 := CEm_t (CEm_c cA) (CEm_c g1)
    have hM : mnM I nm 2 p = some p := by unfold mnM; rw [hk]
    rw [hM] at c5 htr
    refine ⟨_, omin mR (some p), c5, okT_m (fun x hx => by cases hx; omega) (okT_m (okT_w g3 (by omega) (by omega)) (okT_w g4 (by omega) (by omega))), okT_m (okT_w g5 (by omega) (by omega)) (fun x hx => by cases hx; omega), fun mf => ?_, fun hc => ?_⟩
    · rw [htr]
      simp only [omin_s]
    · obtain ⟨d1, d2, d3, d4, d5⟩ := g8 hc
      refine ⟨?_, fun h0 => ?_⟩
      · rw [d2, fitA_none, omin_r, d1, omin_c]
      · rw [omin_0] at h0
        cases h0.1
  | some kk =>
    rw [hk] at g8 cA g1 htr
    simp only [reduceCtorEq, if_false] at g1 g8 cA
    have hM : mnM I nm 2 p = none := by unfold mnM; rw [hk]
    simp only [hM, omin_r] at htr
    obtain ⟨hi, hkd, hlt⟩ := mnF_k hk
    obtain ⟨hform, hft, np, hnp, hpar, hpt⟩ := (hI kk hlt).2 hkd
    simp only [cend]
    have hw : CE (if Int32.ofNat c = (itA I kk).2.2.2.2.1 ∧ true = decide ((itA I kk).2.1 = 3) then S2 else wm true p S2) (cenS I true true kk c p S2) none 0 := CE_wnm
    have hcp : (Int32.ofNat c = (itA I kk).2.2.2.2.1) ↔ c = np := by rw [hpar]; exact oN_e (by omega) (by omega)
    have hcp' : ((itA I kk).2.2.2.2.1 = Int32.ofNat c) ↔ c = np := by rw [hpar, oN_e (by omega) (by omega)]; omega
    have htrue : (true = decide ((itA I kk).2.1 = 3)) ↔ (itA I kk).2.1 = 3 := by
      rcases hform with h | h <;> rw [h] <;> decide
    have hf2 : (itA I kk).2.1 = (if (205 : Nat) = 204 then 2 else 3) ↔ (itA I kk).2.1 = 3 := by rw [if_neg (by omega)]
    by_cases hok : c = np ∧ (itA I kk).2.1 = 3
    · rw [if_pos ⟨hcp.mpr hok.1, htrue.mpr hok.2⟩] at hw
      have c5 := CEm_t (CEm_c g1) (CEm_c hw)
      have htc : ∀ mf, tcl1 I (205, Int32.ofNat c, nm, p) kk mf = (true, mf) := fun mf => by
        unfold tcl1
        exact if_pos ⟨hcp'.mpr hok.1, hf2.mpr hok.2⟩
      simp only [htc, if_pos (hcp'.mpr hok.1), htk, mstA_1, mstA_2, Bool.true_and] at htr
      refine ⟨_, omin mR (fitP (itA I kk).2.2.2.2.2 A 0), c5, okT_m (okT_m (okT_w g3 (by omega) (by omega)) (okT_w g4 (by omega) (by omega))) okT_n, okT_m (okT_w g5 (by omega) (by omega)) (okT_w (fitP_T gp) (by omega) (by omega)), fun mf => ?_, fun hc => ?_⟩
      · rw [htr]
        simp only [omin_s]
      · obtain ⟨d1, d2, d3, d4, d5⟩ := g8 hc
        have d2' := d2.trans (fitA_P hnp hpar (A := A) (j := 0) (by omega))
        rw [← d2', omin_r, d1]
        refine ⟨rfl, fun h0 => ⟨kk, hi, hNr none (by rw [d1, omin_l]; exact (omin_0.mp h0).1), ?_⟩⟩
        rw [← d5 h0]
        unfold cenS
        rw [if_pos ⟨hcp.mpr hok.1, htrue.mpr hok.2⟩]
    · have hno : ¬ (Int32.ofNat c = (itA I kk).2.2.2.2.1 ∧ true = decide ((itA I kk).2.1 = 3)) := fun hh => hok ⟨hcp.mp hh.1, htrue.mp hh.2⟩
      rw [if_neg hno] at hw
      have c5 := CEm_t (CEm_t (CEm_c g1) (CEm_c (CE_wm (S := S2) (pl := p) (by omega)))) (CEm_c hw)
      have htc : ∀ mf, tcl1 I (205, Int32.ofNat c, nm, p) kk mf = (false, omin mf (some p)) := fun mf => by
        unfold tcl1
        exact if_neg (fun hh => hok ⟨hcp'.mp hh.1, hf2.mp hh.2⟩)
      simp only [htc, htk, mstA_1, mstA_2, Bool.false_and, Bool.false_eq_true, if_false] at htr
      have hOF : omin (omin (omin mO mF) (some p)) none = some p := by rw [omin_r, omin_p (okT_m (okT_w g3 (by omega) (Nat.le_refl q1)) (okT_w g4 (by omega) (Nat.le_refl q1)))]
      rw [hOF] at c5
      by_cases hcn : c = np
      · simp only [if_pos (hcp'.mpr hcn)] at htr
        refine ⟨_, some p, c5, fun x hx => by cases hx; omega, fun x hx => by cases hx; omega, fun mf => ?_, fun hc => ⟨rfl, fun h0 => (by cases h0)⟩⟩
        rw [htr]
        have hT : okT (omin mR (fitP (itA I kk).2.2.2.2.2 A 0)) p q := okT_m (okT_w g5 (by omega) (by omega)) (okT_w (fitP_T gp) (by omega) (by omega))
        rw [omin_s, omin_s, omin_c (a := some p), ← omin_s (a := mR), omin_p hT]
      · simp only [if_neg (fun hh => hcn (hcp'.mp hh))] at htr
        refine ⟨_, some p, c5, fun x hx => by cases hx; omega, fun x hx => by cases hx; omega, fun mf => ?_, fun hc => ⟨rfl, fun h0 => (by cases h0)⟩⟩
        rw [htr, omin_s, omin_p (okT_w g5 (by omega) (Nat.le_refl q1))]
/-- what is given, on both sides -/
theorem ARG {p0 o : Nat} {rt : Option Nat} {S S1 : St} {a : Int32} {c q : Nat} {r : List Rw} (ht : txt t n) (hI : IC I) (hL : L.length ≤ 10) (hp : p0 ≤ n) (h1 : cx t n L LT I true 21100 11 0 0 0 rt 0 p0 o S = some (.inr (a, c, q, S1))) (h2 : pA t n L p0 o = some (.inr (r, c, q))) : TA L LT I rt S r p0 q c S1 ∧ c ≤ q := (TX ht hI hL 21100).2.2 rt 0 p0 p0 o S S [] a c q S1 r (Nat.le_refl _) hp (by omega) TA_0 h1 h2
theorem eops_0 : eops [] := fun x hx => by simp at hx
/-- the state behind a call, where all fits -/
theorem call_b {k c p : Nat} {nm : List Nat} {r : List Rw} {J : Nat → Int32} {S : St} (hi : itK I nm = some k) (hE : eops r) (hN : NFr I r) (hl : S.2.2.1.length + lens (r ++ [((205, Int32.ofNat c, nm, p) : Rw)]) ≤ 6144) : wnm true 10 (some k) (ers I r S) = (S.1, S.2.1, S.2.2.1 ++ eb I J (r ++ [(205, Int32.ofNat c, nm, p)]) S.2.2.2, ndl I (r ++ [(205, Int32.ofNat c, nm, p)]) S.2.2.2) := by
  rw [lens_a] at hl
  have hly : lens [((205, Int32.ofNat c, nm, p) : Rw)] = 2 := rfl
  rw [ers_eb (J := J) hE hN (by omega), wnm_ap (by simp [eb_l hN]; omega)]
  have e1 : ∀ N, eb I J [((205, Int32.ofNat c, nm, p) : Rw)] N = bts 10 1 0 ++ bts (Int32.ofNat (nid N k).1) 1 0 := fun N => by
    show nmd (ncd 205) I nm N ++ [] = _
    unfold nmd
    rw [hi, List.append_nil]
    rfl
  have e2 : ∀ N, ndl I [((205, Int32.ofNat c, nm, p) : Rw)] N = (nid N k).2 := fun N => by
    show nmN I nm N = _
    unfold nmN
    rw [hi]
  rw [eb_a, ndl_a, e1, e2]
  simp
theorem cnam_t {ck p o i q c : Nat} {lp : Option Nat} {ls : Int32} {B B' : List Int32} {S S' : St} {r : List Rw} {L' : List (List Nat)} {LT' : Nat → Int32} {b : List Nat} {c' : Nat} (ht : txt t n) (hI : IC I) (hL : L.length ≤ 10) (htk : tkk t n p = 2) (h1 : cnam t n L LT I true ck B p o S = some (.inr (q, L', LT', c, B', S'))) (h2 : pnam t n L ck p o = some (.inr (r, L', c', b, q))) : STT I ity cF L LT LTr i lp ls S B p r L' b q LT' B' S' := by
  have hn := ht.1
  have nl : ∀ {p}, tkk t n p ≠ 0 → p < nx t n p ∧ nx t n p ≤ n := fun h => nx_bd ht (tk_lt h)
  have a1 := nl (p := p) (by omega)
  unfold cnam at h1
  unfold pnam at h2
  by_cases h40 : tkk t n (nx t n p) = 40
  · -- a call
    rw [if_pos h40] at h1 h2
    have a2 := nl (p := nx t n p) (by omega)
    rcases ce_s h1 with ⟨_, _, g2⟩ | ⟨a, c1, q1, S1, g1, g2⟩
    · cases g2
    unfold ccal at g1
    by_cases ho : 12 ≤ o
    · rw [if_pos ho] at g1; cases g1
    rw [if_neg ho] at g1 h2
    by_cases h41 : tkk t n (nx t n (nx t n p)) = 41
    · rw [if_pos h41] at g1 h2
      have a3 := nl (p := nx t n (nx t n p)) (by omega)
      rcases tT_r h2 with ⟨g8, g9⟩ | ⟨g8, g9⟩
      · cases g1
        rcases tQ_s g2 with ⟨g6, g7⟩ | ⟨g6, g7⟩
        · have a4 := nl (p := nx t n (nx t n (nx t n p))) (by omega)
          cases g7
          cases g9
          obtain ⟨mm, mR, k1, k2, k3, k4, k5⟩ := TS_c (ity := ity) (L := L) (LT := LTr) (S := S) (S2 := (mnt I true (tkm t n p) 2 p S).2) (r := []) (p := p) (p3 := nx t n (nx t n p)) (q1 := nx t n (nx t n p)) (q := nx t n (nx t n (nx t n (nx t n p)))) (c := 0) (nm := tkm t n p) hI (by omega) (Nat.le_refl _) (by omega) (by omega) (by omega) eops_0 TA_0
          refine ⟨mm, mR, LTr, k1, k2, k3, k4, fun hc hag => ?_⟩
          obtain ⟨e1, e2⟩ := k5 (fun j hj => by rw [hag j hj]; exact hc j hj)
          refine ⟨e1, fun h0 => ?_⟩
          obtain ⟨k, hi, hN, hS⟩ := e2 h0
          refine ⟨hc, hag, NFr_1 (fun _ _ => by rw [hi]; simp), fun _ J c0 hc0 hc1 hJ hB hls hBl => ⟨?_, by simp⟩⟩
          rw [hS]
          exact call_b (r := []) (c := 0) hi eops_0 hN hB
        · cases g7
      · cases g9
    · rw [if_neg h41] at g1 h2
      rcases bc_s g1 with ⟨_, _, g4⟩ | ⟨a3, c3, q3, S3, g3, g4⟩
      · cases g4
      rcases aT_r h2 with ⟨_, _, g6⟩ | ⟨r3, c5, q5, g5, g6⟩
      · cases g6
      obtain ⟨rfl, rfl⟩ := sim_rr (cx_px _ _ _ _ _ _ _ _ _ _ _) g3 g5
      have hb := pA_b ht a2.2 g5
      have hE : eops r3 := px_E _ _ _ _ _ _ eops_0 _ _ _ g5
      have a4 := nl (p := q3) (by omega)
      cases g4
      rcases tT_r g6 with ⟨g8, g9⟩ | ⟨g8, g9⟩
      · rcases tQ_s g2 with ⟨g10, g7⟩ | ⟨g10, g7⟩
        · have a5 := nl (p := nx t n q3) (by omega)
          cases g7
          cases g9
          by_cases hag : agr L LT LTr
          · have e1 : cx t n L LT I true 21100 = cx t n L LTr I true 21100 := cx_LT (fun j hj => (hag j hj).symm) _
            rw [e1] at g3
            obtain ⟨tA, hcq⟩ := ARG ht hI hL a2.2 g3 g5
            obtain ⟨mm, mR, k1, k2, k3, k4, k5⟩ := TS_c (ity := ity) (q := nx t n (nx t n q3)) hI (by omega) (by omega) (by omega) (by omega) (by omega) hE tA
            refine ⟨mm, mR, LTr, k1, k2, k3, k4, fun hc _ => ?_⟩
            obtain ⟨e1, e2⟩ := k5 (fun j hj => by rw [hag j hj]; exact hc j hj)
            refine ⟨e1, fun h0 => ?_⟩
            obtain ⟨k, hi, hN, hS⟩ := e2 h0
            refine ⟨hc, hag, NFr_a hN (NFr_1 (fun _ _ => by rw [hi]; simp)), fun _ J c0 hc0 hc1 hJ hB hls hBl => ⟨?_, by simp⟩⟩
            rw [hS]
            exact call_b hi hE hN hB
          · obtain ⟨tA, hcq⟩ := ARG ht hI hL a2.2 g3 g5
            obtain ⟨mm, _, k1, k2, _, _, _⟩ := TS_c (ity := ity) (q := nx t n (nx t n q3)) hI (by omega) (by omega) (by omega) (by omega) (by omega) hE tA
            have hs := cx_px (t := t) (n := n) (L := L) (LT := LTr) (I := I) (w := true) 21100 11 0 0 0 (mnt I true (tkm t n p) 2 p S).1 0 (nx t n (nx t n p)) (o + 1) (mnt I true (tkm t n p) 2 p S).2 []
            have g5' : px t n L 21100 11 [] 0 (nx t n (nx t n p)) (o + 1) = some (.inr (r3, c3, q3)) := g5
            rcases hs with ⟨_, g⟩ | ⟨_, _, g⟩ | ⟨a9, c9, q9, S9, r9, gg1, gg2⟩
            · rw [g5'] at g; cases g
            · rw [g5'] at g; cases g
            · rw [g5'] at gg2
              cases gg2
              obtain ⟨tA2, hcq2⟩ := ARG ht hI hL a2.2 gg1 g5
              obtain ⟨_, mR, _, _, k3, k4, _⟩ := TS_c (ity := ity) (q := nx t n (nx t n q3)) hI (by omega) (by omega) (by omega) (by omega) (by omega) hE tA2
              exact ⟨mm, mR, LTr, k1, k2, k3, k4, fun _ h => absurd h hag⟩
        · cases g7
      · cases g9
  rw [if_neg h40] at h1 h2
  by_cases h91 : tkk t n (nx t n p) = 91
  · -- a cell
    rw [if_pos h91] at h1 h2
    have a2 := nl (p := nx t n p) (by omega)
    rcases ce_s h1 with ⟨_, _, g2⟩ | ⟨a, c1, q1, S1, g1, g2⟩
    · cases g2
    unfold cidx at g1
    by_cases ho : 12 ≤ o
    · rw [if_pos ho] at g1; cases g1
    rw [if_neg ho] at g1 h2
    rcases bc_s g1 with ⟨_, _, g4⟩ | ⟨x1, c3, q3, S3, g3, g4⟩
    · cases g4
    rcases eT_r h2 with ⟨_, _, g6⟩ | ⟨r3, c5, q5, g5, ⟨g6, g7⟩ | ⟨g6, g7⟩⟩
    · cases g6
    · obtain ⟨_, rfl⟩ := sim_rr (cE_s (LT := LT) (I := I) (w := true) (S := (mnt I true (tkm t n p) 1 p S).2)) g3 g5
      rw [if_pos g6] at g4
      cases g4
      have a3 := nl (p := q3) (by omega)
      rcases tT_r g7 with ⟨g8, g9⟩ | ⟨g8, g9⟩
      · have a4 := nl (p := nx t n q3) (by omega)
        rcases tQ_s g2 with ⟨g10, g11⟩ | ⟨g10, g11⟩
        · rcases ce_s g11 with ⟨_, _, g13⟩ | ⟨x2, c6, q6, S6, g12, g13⟩
          · cases g13
          rcases eT_r g9 with ⟨_, _, g15⟩ | ⟨r7, c7, q7, g14, ⟨g15, g16⟩ | ⟨g15, g16⟩⟩
          · cases g15
          · obtain ⟨_, rfl⟩ := sim_rr (cE_s (LT := LT) (I := I) (w := true)) g12 g14
            have a5 := nl (p := q6) (by omega)
            rcases tQ_s g13 with ⟨g17, g18⟩ | ⟨g17, g18⟩
            · cases g18
              cases g16
              obtain ⟨b1, b2, hE1, m1, mR1, x1', k1, k2, k3, k4, k5⟩ := EXP (ity := ity) (LTr := LTr) ht hI hL a2.2 g3 g5
              obtain ⟨b3, b4, hE2, m2, mR2, x2', l1, l2, l3, l4, l5⟩ := EXP (ity := ity) (LTr := LTr) ht hI hL a4.2 g12 g14
              have cA := CEm_c (CE_mnt (I := I) (nm := tkm t n p) (kd := 1) (S := S) (pl := p) (by omega))
              have f1 := ite_fl (S := S3) (a := x1) (b := 0) (pl := nx t n (nx t n p)) (by omega)
              have f2 := ite_fl (S := S6) (a := x2) (b := 0) (pl := nx t n (nx t n q3)) (by omega)
              have c5 := CEm_t (CEm_t (CEm_t (CEm_t cA k1) f1) l1) f2
              refine ⟨_, omin (omin (omin (omin mR1 mR2) (mnM I (tkm t n p) 1 p)) (fl x2' 0 (nx t n (nx t n q3)))) (fl x1' 0 (nx t n (nx t n p))), LTr, CEm_r c5 wnm_1, ?_, ?_, fun mf => ?_, fun hc hag => ?_⟩
              · exact okT_m (okT_m (okT_m (okT_m (mnM_T (by omega) (by omega)) (okT_w k2 (by omega) (by omega))) (fl_T (by omega) (by omega))) (okT_w l2 (by omega) (by omega))) (fl_T (by omega) (by omega))
              · exact okT_m (okT_m (okT_m (okT_m (okT_w k3 (by omega) (by omega)) (okT_w l3 (by omega) (by omega))) (mnM_T (by omega) (by omega))) (fl_T (by omega) (by omega))) (fl_T (by omega) (by omega))
              · rw [trs2_a, trs2_a, k4, l4]
                show tse2 I (203, 0, tkm t n p, p) (LTr, [(x2', nx t n (nx t n q3)), (x1', nx t n (nx t n p))], omin (omin mf mR1) mR2) = _
                unfold tse2
                simp only [mns_e, omin_s]
              · obtain ⟨e1, e2, e3, e4⟩ := k5 hc hag
                obtain ⟨e5, e6, e7, e8⟩ := l5 hc hag
                subst e1 e5
                have e2 := e2.symm
                have e6 := e6.symm
                subst e2 e6
                refine ⟨omin_ac1.symm, fun h0 => ?_⟩
                rw [omin_0, omin_0, omin_0, omin_0] at h0
                obtain ⟨⟨⟨⟨z0, z1⟩, z2⟩, z3⟩, z4⟩ := h0
                obtain ⟨y1, y2, y3⟩ := e3 z1
                obtain ⟨w1, w2, w3⟩ := e7 z3
                cases hk : mnF I (tkm t n p) 1 with
                | none => exact absurd hk (mnM_0.mp z0)
                | some k =>
                  have hi := (mnF_k hk).1
                  refine ⟨hc, hag, NFr_a (NFr_a y2 w2) (NFr_1 (fun _ _ => by show itK I (tkm t n p) ≠ none; rw [hi]; simp)), fun _ J c0 hc0 hc1 hJ hB hls hBl => ⟨?_, by simp⟩⟩
                  rw [mnt_e, hk] at y3 ⊢
                  have y3' : S3 = ers I r3 S := y3
                  rw [wf_0 z2] at w3
                  rw [wf_0 z4, w3, y3', ← ers_a]
                  rw [lens_a] at hB
                  have hly : lens [((203, 0, tkm t n p, p) : Rw)] = 2 := rfl
                  have hNN := NFr_a y2 w2
                  rw [ers_eb (J := J) (eops_a hE1 hE2) hNN (by omega), wnm_ap (by simp [eb_l hNN]; omega)]
                  have q1 : ∀ N, eb I J [((203, 0, tkm t n p, p) : Rw)] N = bts 9 1 0 ++ bts (Int32.ofNat (nid N k).1) 1 0 := fun N => by
                    show nmd (ncd 203) I (tkm t n p) N ++ [] = _
                    unfold nmd
                    rw [hi, List.append_nil]
                    rfl
                  have q2 : ∀ N, ndl I [((203, 0, tkm t n p, p) : Rw)] N = (nid N k).2 := fun N => by
                    show nmN I (tkm t n p) N = _
                    unfold nmN
                    rw [hi]
                  rw [eb_a (r := r3 ++ r7), ndl_a (r := r3 ++ r7), q1, q2]
                  simp
            · cases g18
          · cases g16
        · cases g11
      · cases g9
    · cases g7
  rw [if_neg h91] at h1 h2
  rcases tT_r h2 with ⟨g8, g9⟩ | ⟨g8, g9⟩
  · have a2 := nl (p := nx t n p) (by omega)
    rcases eT_r g9 with ⟨_, _, g4⟩ | ⟨r1, c2, q2, g3, ⟨g4, g5⟩ | ⟨g4, g5⟩⟩
    · cases g4
    · have a4 := nl (p := q2) (by omega)
      cases hkw : kwi L (tkm t n p) 0 with
      | some j =>
        rw [hkw] at h1
        have hj := kwi_lt hkw
        rcases tQ_s h1 with ⟨g6, g7⟩ | ⟨g6, g7⟩
        · rcases ce_s g7 with ⟨_, _, g2⟩ | ⟨a, c1, q1, S1, g1, g2⟩
          · cases g2
          obtain ⟨_, rfl⟩ := sim_rr cE_s g1 g3
          obtain ⟨b1, b2, hE, mm, mR, a', k1, k2, k3, k4, k5⟩ := EXP (ity := ity) (LTr := LTr) ht hI hL a2.2 g1 g3
          rcases tQ_s g2 with ⟨g10, g11⟩ | ⟨g10, g11⟩
          · cases g11
            cases g5
            have hasg : asg L (tkm t n p) p = (5, Int32.ofNat j, tkm t n p, p) := by unfold asg; rw [hkw]
            rw [hasg]
            refine STT_1 (y := [(5, Int32.ofNat j, tkm t n p, p)]) (m0 := none) (due := LT j) (p1 := nx t n (nx t n p)) (q1 := q1) (by omega) a4.1 b1 (by omega) hE (CEm_0 rfl) okT_n (fun _ => rfl) k1 k2 k3 k4 k5 (LTr j) (fun hag => hag j (by omega)) (fun mf => ?_) (wr_1.trans wr_1) (fun _ => NFr_1 (fun hh => by simp only [] at hh; omega)) (fun _ J S2 hS2 hl => ?_)
            · rw [omin_r]
              show tpop (LTr (Int32.ofNat j).toNatClampNeg) (LTr, [(a', nx t n (nx t n p))], mf) = _
              rw [oN_n (by omega)]
              rfl
            · subst hS2
              have : lens [((5, Int32.ofNat j, tkm t n p, p) : Rw)] = 2 := rfl
              rw [wr2_ap (by omega)]
              unfold apB
              show _ = (_, _, _ ++ ((bts (Int32.ofNat 5) 1 0 ++ bts (Int32.ofNat j) 1 0) ++ []), _)
              rw [List.append_nil]
              rfl
          · cases g11
        · cases g7
      | none =>
        rw [hkw] at h1
        rcases tQ_s h1 with ⟨g6, g7⟩ | ⟨g6, g7⟩
        · rcases ce_s g7 with ⟨_, _, g2⟩ | ⟨a, c1, q1, S1, g1, g2⟩
          · cases g2
          obtain ⟨_, rfl⟩ := sim_rr cE_s g1 g3
          obtain ⟨b1, b2, hE, mm, mR, a', k1, k2, k3, k4, k5⟩ := EXP (ity := ity) (LTr := LTr) ht hI hL a2.2 g1 g3
          rcases tQ_s g2 with ⟨g10, g11⟩ | ⟨g10, g11⟩
          · cases g11
            cases g5
            have hasg : asg L (tkm t n p) p = (201, Int32.ofInt (-1), tkm t n p, p) := by unfold asg; rw [hkw]
            rw [hasg]
            have hm1 : (mnt I true (tkm t n p) 0 p S).1 = mnF I (tkm t n p) 0 := by rw [mnt_e]
            have fnd : mnM I (tkm t n p) 0 p = none → ∃ k, mnF I (tkm t n p) 0 = some k ∧ itK I (tkm t n p) = some k := fun h0 => by
              cases hk : mnF I (tkm t n p) 0 with
              | none => exact absurd hk (mnM_0.mp h0)
              | some k => exact ⟨k, rfl, (mnF_k hk).1⟩
            refine STT_1 (y := [(201, Int32.ofInt (-1), tkm t n p, p)]) (m0 := mnM I (tkm t n p) 0 p) (due := tyO I (mnt I true (tkm t n p) 0 p S).1) (p1 := nx t n (nx t n p)) (q1 := q1) (by omega) a4.1 b1 (by omega) hE (CEm_c (CE_mnt (by omega))) (mnM_T (by omega) (by omega)) (fun h0 => ?_) k1 k2 k3 k4 k5 (tyO I (mnF I (tkm t n p) 0)) (fun _ => by rw [hm1]) (fun mf => ?_) wnm_1 (fun h0 => ?_) (fun h0 J S2 hS2 hl => ?_)
            · obtain ⟨k, hk, _⟩ := fnd h0
              rw [mnt_e, hk]
              rfl
            · show tasg I (201, Int32.ofInt (-1), tkm t n p, p) (LTr, [(a', nx t n (nx t n p))], mf) = _
              unfold tasg
              simp only [mns_e]
            · obtain ⟨k, _, hi⟩ := fnd h0
              exact NFr_1 (fun _ _ => by show itK I (tkm t n p) ≠ none; rw [hi]; simp)
            · obtain ⟨k, hk, hi⟩ := fnd h0
              subst hS2
              have : lens [((201, Int32.ofInt (-1), tkm t n p, p) : Rw)] = 2 := rfl
              rw [hm1, hk, wnm_ap (by rw [hm1, hk] at hl; omega)]
              have q1 : ∀ N, eb I J [((201, Int32.ofInt (-1), tkm t n p, p) : Rw)] N = bts 7 1 0 ++ bts (Int32.ofNat (nid N k).1) 1 0 := fun N => by
                show nmd (ncd 201) I (tkm t n p) N ++ [] = _
                unfold nmd
                rw [hi, List.append_nil]
                rfl
              have q2 : ∀ N, ndl I [((201, Int32.ofInt (-1), tkm t n p, p) : Rw)] N = (nid N k).2 := fun N => by
                show nmN I (tkm t n p) N = _
                unfold nmN
                rw [hi]
              rw [q1, q2]
          · cases g11
        · cases g7
    · cases g5
  · cases g9
end MTU
