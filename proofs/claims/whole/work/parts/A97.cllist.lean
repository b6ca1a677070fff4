
/-! ===== the listing's lines; the class's ===== -/
def lnS (I : List It) (J : Nat → Int32) (p : Nat) (x : Rw) (N : List Nat) : List Int32 :=
  if x.1 = 206 ∨ x.1 = 208 then [] else nmb (Int32.ofNat p) ++ ([32] ++ (lts (cw (opc x.1)) ++ ((if dwn (opc x.1) = 0 then [] else [32] ++ (if 200 ≤ x.1 ∧ x.1 ≤ 205 then lts x.2.2.1 else nmb (opv (dwn (opc x.1)) (opn I J x N)))) ++ [10])))
def lsS (I : List It) (J : Nat → Int32) : List Rw → Nat → List Nat → List Int32
  | [], _, _ => []
  | x :: r, p, N => lnS I J p x N ++ lsS I J r (p + ln1 x.1) (nd1 I x N)
theorem lsS_a {I : List It} {J : Nat → Int32} : ∀ {r r' : List Rw} {p : Nat} {N : List Nat}, lsS I J (r ++ r') p N = lsS I J r p N ++ lsS I J r' (p + lens r) (ndl I r N)
  | [], _, _, _ => rfl
  | x :: r, r', p, N => by
    show lnS I J p x N ++ lsS I J (r ++ r') _ _ = lnS I J p x N ++ lsS I J r _ _ ++ lsS I J r' _ _
    rw [lsS_a, List.append_assoc, Nat.add_assoc]
    rfl
theorem kDf_lt {m K : Nat} (h : m < 10 ^ (K + 1)) : ∀ {f k : Nat}, k ≤ K → kDf m f k ≤ K
  | 0, k, hk => hk
  | f + 1, k, hk => by
    unfold kDf
    by_cases h1 : m / 10 ^ k < 10
    · rw [if_pos h1]; exact hk
    · rw [if_neg h1]
      refine kDf_lt h ?_
      by_cases h2 : k = K
      · exfalso
        apply h1
        rw [h2]
        exact Nat.div_lt_of_lt_mul (by rw [← Nat.pow_succ]; exact h)
      · omega
theorem nmb_4 {p : Nat} (h : p < 10000) : (nmb (Int32.ofNat p)).length ≤ 4 := by
  unfold nmb
  rw [if_neg (oN_0 (by omega)), List.nil_append, dgs_l, oN_i (by omega)]
  have : ((p : Int).natAbs) = p := by omega
  rw [this]
  have := kDf_lt (m := p) (K := 3) (by omega) (f := 10) (k := 0) (by omega)
  omega
theorem nmb_12 {v : Int32} : (nmb v).length ≤ 12 := by
  unfold nmb
  rw [List.length_append, dgs_l]
  have := kDf_le (m := v.toInt.natAbs) (f := 10) (k := 0)
  split <;> simp <;> omega
theorem lts_l {l : List Nat} : (lts l).length = l.length := by unfold lts; rw [List.length_map]
section MCL
variable {e : my_E} {d : Nat} {κ : my_K} {σ : my_S} {Q : my_O → my_K → my_S → Prop} {As : List Ri} {I : List It} {J : Nat → Int32} {x : Rw} {N : List Nat} {rv k : Nat} {a : Ri} {Z : List Int32} {wn : Nat}
theorem lnS_l {p : Nat} (hV : rwV x) (hp : p < 10000) (hc : x.1 ≠ 206 → x.1 ≠ 208 → opc x.1 ≤ 31) : (lnS I J p x N).length ≤ 25 := by
  unfold lnS
  by_cases h : x.1 = 206 ∨ x.1 = 208
  · rw [if_pos h]; simp
  rw [if_neg h]
  have h1 := nmb_4 hp
  have h2 := (cw_k ⟨opc x.1, by have := hc (by omega) (by omega); omega⟩).2
  dsimp only at h2
  have h3 : (if dwn (opc x.1) = 0 then [] else [32] ++ (if 200 ≤ x.1 ∧ x.1 ≤ 205 then lts x.2.2.1 else nmb (opv (dwn (opc x.1)) (opn I J x N)))).length ≤ 13 := by
    by_cases c : dwn (opc x.1) = 0
    · rw [if_pos c]; simp
    · rw [if_neg c, List.length_append, List.length_singleton]
      by_cases c2 : 200 ≤ x.1 ∧ x.1 ≤ 205
      · rw [if_pos c2, lts_l]
        have := (hV.1 c2.1 c2.2).2
        omega
      · rw [if_neg c2]
        have := nmb_12 (v := opv (dwn (opc x.1)) (opn I J x N))
        omega
  rw [List.length_append, List.length_append, List.length_append, List.length_append, lts_l, List.length_singleton, List.length_singleton]
  omega
theorem opc_31 (hV : rwV x) (h6 : x.1 ≠ 206) (h8 : x.1 ≠ 208) : 1 ≤ opc x.1 ∧ opc x.1 ≤ 31 := by
  have hr := hV.2.2.2.2.1
  by_cases h : 200 ≤ x.1 ∧ x.1 ≤ 205
  · have := opc_i h; omega
  · by_cases h7 : x.1 = 207
    · rw [h7]; decide
    · rw [opc_s (by omega)]; omega
theorem lsS_l : ∀ {r : List Rw} {p : Nat} {N : List Nat}, rVs r → p + lens r < 10000 → (lsS I J r p N).length ≤ 25 * r.length
  | [], _, _, _, _ => by simp [lsS]
  | x :: r, p, N, hV, hp => by
    have hl : lens (x :: r) = ln1 x.1 + lens r := rfl
    have h1 := lnS_l (I := I) (J := J) (N := N) (p := p) (hV x (by simp)) (by omega) (fun h6 h8 => (opc_31 (hV x (by simp)) h6 h8).2)
    have h2 := lsS_l (r := r) (p := p + ln1 x.1) (N := nd1 I x N) (fun y hy => hV y (by simp [hy])) (by omega)
    rw [lsS, List.length_append, List.length_cons]
    omega
theorem wnt_pre {Z' : List Int32} (h : wnt Z wn ≠ Int32.ofInt (-1)) : wnt (Z ++ Z') wn = wnt Z wn := by
  unfold wnt at h ⊢
  cases hz : Z[wn]? with
  | none => rw [hz] at h; exact absurd rfl h
  | some y => rw [List.getElem?_append_left (List.getElem?_eq_some_iff.mp hz).1, hz]
theorem c_209 {i y : Nat} (hrv : rv = 108 ∨ rv = 238 ∨ rv = 368) (hk : k < 42) (h2 : 2 ≤ riF a) (hC : itC I As rv k a σ) (hi : (ndF I a)[i]? = some y) (hd : 1 ≤ d) (hQ : Q (.inl (some (.inr (.inr (some (rv + 4 + 3 * y)))))) κ σ) : my_M e d 209 [.inr (.inr (some (rv + 4 + 3 * k))), .inl (Int32.ofNat i)] κ σ Q := by
  obtain ⟨d, rfl⟩ := dS 1 hd
  obtain ⟨_, _, _, _, x4, x5, x6⟩ := hC.2.2.2 h2
  have hil := (List.getElem?_eq_some_iff.mp hi).1
  refine ys_209 (in11 hrv hk) ?_
  unfold ys_209_0
  rw [if_neg (oN_0 (by omega)), x4, if_pos ((oN_lt (by omega) (by omega)).mpr hil), if_pos ((oN_lt1 (b := 30) (c := 30) rfl (by omega) (by omega)).mpr (by omega)), oN_n (by omega), (x6 i y hi).2]
  exact ⟨bdk (by omega) (by omega), hQ⟩
theorem mcw_d : ∀ c : Fin 32, mc_w.getD c.val 0 = Int32.ofNat (dwn c.val) := by decide +kernel
theorem csF_ld {σ' : my_S} (h : LD As I rv σ) (f : eqp csF σ σ') : LD As I rv σ' := LD_o (LD_30 h) h f (fun c k hh => by
  have := h.2.2.1
  unfold csF at hh
  unfold coF
  omega)
/-- one line -/
theorem s_103 {r1 r2 : List Rw} (he : fmO e) (h : LD As I rv σ) (hc : CDO As I k a) (hr : riR a = r1 ++ x :: r2) (h6 : x.1 ≠ 206) (h8 : x.1 ≠ 208) (hZ : CLs wn Z σ) (hl : Z.length + 300 ≤ 1000000) (hd : 6 ≤ d) (hQ : ∀ σ', CLs wn (Z ++ lnS I (jO As k a) (lens r1) x (ndl I r1 [])) σ' → eqp csF σ σ' → Q (.inl (some (.inl (Int32.ofNat (dwn (opc x.1)))))) κ σ') : my_M e d 103 [.inr (.inr (some 43)), .inr (.inr (some rv)), .inr (.inr (some (rv + 4 + 3 * k))), .inl (Int32.ofNat (lens r1))] κ σ Q := by
  obtain ⟨d, rfl⟩ := dS 1 (show 1 ≤ d by omega)
  have h3 := h.2.2.1
  have ha := hc.1
  have h2 := hc.2.1
  have hk : k < 42 := by have := itsB_42 h.1; have := (List.getElem?_eq_some_iff.mp ha).1; omega
  have hV := hc.2.2.1 x (by rw [hr]; simp)
  have hcl := code_l hc
  have h61 := h.2.2.2.2.2.2.1.2.2.2.1
  have hlr : lens (riR a) = lens r1 + (ln1 x.1 + lens r2) := by rw [hr, lens_a]; rfl
  have hop := opc_31 hV h6 h8
  have hln : ln1 x.1 = 1 + dwn (opc x.1) := (eb1_d (I := I) (J := jO As k a) (N := ndl I r1 []) hV h6 h8 (hc.2.2.2.2.1 x (by rw [hr]; simp))).2.1
  have b := st_c hc hr h6 h8 h.2.2.2.2.2.2.1
  have p12 : ∀ {σ' : my_S}, LD As I rv σ' → σ'.1 (rv + 4 + 3 * k) 12 = Int32.ofNat (cdB I As k a) := fun h' => ((h'.2.2.2.2.2.2.1.2.2.2.2 k a ha).2.2.2 h2).2.2.1
  unfold lnS at hQ
  rw [if_neg (by omega)] at hQ
  refine ys_103 ?_
  unfold ys_103_0
  refine ⟨_, rfl, in11 h3 hk, rv, rfl, in10 h3, ?_⟩
  rw [p12 h, ← Int32.ofNat_add]
  refine c_202 h3 (by omega) (by omega) ?_
  rw [my_kI_v, b.1, if_pos ((oN_lt1 (b := 32) (c := 32) rfl (by omega) (by omega)).mpr (by omega)), oN_n (by omega), show mc_w.getD (opc x.1) 0 = Int32.ofNat (dwn (opc x.1)) from mcw_d ⟨opc x.1, by omega⟩]
  refine ⟨bdk (by omega) (by omega), ?_⟩
  unfold ys_103_31
  refine s_104 hZ (by omega) (by omega) (fun σ1 g1 f1 => ?_)
  rw [my_k0_v]
  have n4 := nmb_12 (v := Int32.ofNat (lens r1))
  refine s_105 g1 (by rw [List.length_append]; omega) (by omega) (fun σ2 g2 f2 => ?_)
  rw [my_k0_v]
  refine s_106 he hop.2 g2 (by simp only [List.length_append, List.length_singleton]; omega) (by omega) (fun σ3 g3 f3 => ?_)
  have hcw := (cw_k ⟨opc x.1, by omega⟩).2
  dsimp only at hcw
  have f13 := eqp_tr f1 (eqp_tr f2 f3)
  have ld3 := csF_ld h f13
  rw [my_k0_v]
  by_cases hw0 : dwn (opc x.1) = 0
  · rw [if_pos hw0] at hQ
    rw [hw0, if_neg (by decide)]
    unfold ys_103_110
    refine s_105 g3 (by simp only [List.length_append, List.length_singleton, lts_l]; omega) (by omega) (fun σ4 g4 f4 => ?_)
    rw [my_k0_v]
    rw [hw0] at hQ
    refine hQ σ4 ?_ (eqp_tr f13 f4)
    simp only [List.append_assoc, List.nil_append] at g4 ⊢
    exact g4
  rw [if_neg hw0] at hQ
  have hw4 := dwn_4 (c := opc x.1)
  rw [if_pos (show (0 : Int32) < Int32.ofNat (dwn (opc x.1)) from (oN_lt (p := 0) (by omega) (by omega)).mpr (by omega))]
  refine ⟨_, rfl, in11 h3 hk, _, rfl, in10 h3, ?_⟩
  rw [p12 ld3, ← Int32.ofNat_add, oN_s]
  refine c_203 (v := opn I (jO As k a) x (ndl I r1 [])) h3 (by omega) (by omega) (fun j hj => ?_) (by omega) ?_
  · rw [eqp_g f13 (by unfold csF; omega)]
    exact b.2 j hj
  rw [my_kI_v]
  refine s_105 g3 (by simp only [List.length_append, List.length_singleton, lts_l]; omega) (by omega) (fun σ4 g4 f4 => ?_)
  have f14 := eqp_tr f13 f4
  have ld4 := csF_ld h f14
  rw [my_k0_v]
  by_cases hn : 200 ≤ x.1 ∧ x.1 ≤ 205
  · rw [if_pos hn] at hQ
    have ho := opc_i hn
    obtain ⟨j, i, q1, q2, q3, q4, q5, q6, q7⟩ := nd_at (J := jO As k a) (x := x) (r1 := r1) (r2 := r2) h.1 h.2.1 (hr ▸ hc.2.2.2.1) hn.1 hn.2
    rw [if_neg (fun hh => by have := (oN_lt1 (b := 6) (c := 6) rfl (by omega) (by omega)).mp hh; omega), if_neg (fun hh => by have := (oN_lt (p := 10) (by omega) (by omega)).mp hh; omega)]
    refine ⟨_, rfl, in11 h3 hk, ?_⟩
    rw [q2, dwn_i ho, opv_1 (by omega)]
    have hnd : (ndF I a)[i]? = some j := by unfold ndF; rw [if_neg (by omega), hr]; exact q4
    refine c_209 h3 hk h2 (ld4.2.2.2.2.2.2.1.2.2.2.2 k a ha) hnd (by omega) ?_
    rw [my_kA_v]
    have hj := ld4.2.2.2.2.2.2.1.1
    have hjN := hj.2.2.2 j _ (itA_e q5)
    have hj42 : j < 42 := by have := hj.2.1; omega
    have h8 := (hV.1 hn.1 hn.2).2
    refine s_107 (l := x.2.2.1) (hV.1 hn.1 hn.2) (in11 h3 hj42) (by omega) g4 (by rw [hjN.2.1, q6]) (by simp only [List.length_append, List.length_singleton, lts_l]; omega) (by omega) (fun σ5 g5 f5 => ?_)
    rw [my_k0_v]
    unfold ys_103_110
    refine s_105 g5 (by simp only [List.length_append, List.length_singleton, lts_l]; omega) (by omega) (fun σ6 g6 f6 => ?_)
    rw [my_k0_v]
    rw [dwn_i ho] at hQ
    refine hQ σ6 ?_ (eqp_tr f14 (eqp_tr f5 f6))
    simp only [List.append_assoc] at g6 ⊢
    exact g6
  · rw [if_neg hn] at hQ
    have ho := opc_o hV h6 h8 hn
    have go : ys_103_104 e d (Int32.ofNat (dwn (opc x.1))) (opv (dwn (opc x.1)) (opn I (jO As k a) x (ndl I r1 []))) κ σ4 Q := by
      unfold ys_103_104
      refine s_104 g4 (by simp only [List.length_append, List.length_singleton, lts_l]; omega) (by omega) (fun σ5 g5 f5 => ?_)
      rw [my_k0_v]
      have n5 := nmb_12 (v := opv (dwn (opc x.1)) (opn I (jO As k a) x (ndl I r1 [])))
      unfold ys_103_110
      refine s_105 g5 (by simp only [List.length_append, List.length_singleton, lts_l]; omega) (by omega) (fun σ6 g6 f6 => ?_)
      rw [my_k0_v]
      refine hQ σ6 ?_ (eqp_tr f14 (eqp_tr f5 f6))
      simp only [List.append_assoc] at g6 ⊢
      exact g6
    exact my_if (fun _ => go) (fun c1 => my_if (fun _ => go) (fun c2 => by
      exfalso
      rcases ho with ho | ho
      · exact c1 ((oN_lt1 (b := 6) (c := 6) rfl (by omega) (by omega)).mpr ho)
      · exact c2 ((oN_lt (p := 10) (by omega) (by omega)).mpr ho)))
/-- all lines, as far as they are wanted -/
theorem s_102l (he : fmO e) (hc : CDO As I k a) (hd : 6 ≤ d) : ∀ (r2 r1 : List Rw) (m : Nat) (Z : List Int32) (σ : my_S), riR a = r1 ++ r2 → LD As I rv σ → CLs wn Z σ → Z.length ≤ 25 * r1.length → m ≤ lens r1 → (∀ σ', eqp csF σ σ' → Q (.inl (some (.inl (wnt (Z ++ lsS I (jO As k a) r2 (lens r1) (ndl I r1 [])) wn)))) κ σ') → ys_102_21 e d (some rv) (some (rv + 4 + 3 * k)) (Int32.ofNat (lens r1)) (Int32.ofNat m) κ σ Q := by
  have h2 := hc.2.1
  intro r2
  induction r2 with
  | nil =>
    intro r1 m Z σ hr h hZ hZl hm hQ
    have h3 := h.2.2.1
    have hk : k < 42 := by have := itsB_42 h.1; have := (List.getElem?_eq_some_iff.mp hc.1).1; omega
    have hcl := code_l hc
    have h61 := h.2.2.2.2.2.2.1.2.2.2.1
    rw [List.append_nil] at hr
    have p13 : σ.1 (rv + 4 + 3 * k) 13 = Int32.ofNat (lens (riR a)) := ((h.2.2.2.2.2.2.1.2.2.2.2 k a hc.1).2.2.2 h2).2.2.2.1
    have fin : ys_102_67 e d κ σ Q := by
      unfold ys_102_67
      rw [hZ.2.2.2]
      have := hQ σ eqp_rf
      rw [show lsS I (jO As k a) [] (lens r1) (ndl I r1 []) = [] from rfl, List.append_nil] at this
      exact this
    unfold ys_102_21
    refine my_if (fun _ => ⟨_, rfl, in11 h3 hk, ?_⟩) (fun _ => fin)
    rw [p13, hr, if_neg (by rw [oN_lt (by rw [← hr]; omega) (by rw [← hr]; omega)]; omega)]
    exact fin
  | cons x r2 ih =>
    intro r1 m Z σ hr h hZ hZl hm hQ
    have h3 := h.2.2.1
    have hk : k < 42 := by have := itsB_42 h.1; have := (List.getElem?_eq_some_iff.mp hc.1).1; omega
    have hcl := code_l hc
    have h61 := h.2.2.2.2.2.2.1.2.2.2.1
    have hlr : lens (riR a) = lens r1 + (ln1 x.1 + lens r2) := by rw [hr, lens_a]; rfl
    have hV := hc.2.2.1 x (by rw [hr]; simp)
    have hr' : riR a = (r1 ++ [x]) ++ r2 := by rw [hr]; simp
    have hl' : lens (r1 ++ [x]) = lens r1 + ln1 x.1 := by rw [lens_a]; rfl
    have hn' : ndl I (r1 ++ [x]) [] = nd1 I x (ndl I r1 []) := by rw [ndl_a]; rfl
    have hll : r1.length + 1 ≤ 1500 := by have := hc.2.2.2.2.2; rw [hr] at this; simp at this; omega
    rw [show lsS I (jO As k a) (x :: r2) (lens r1) (ndl I r1 []) = lnS I (jO As k a) (lens r1) x (ndl I r1 []) ++ lsS I (jO As k a) r2 (lens r1 + ln1 x.1) (nd1 I x (ndl I r1 [])) from rfl, ← hn', ← hl', ← List.append_assoc] at hQ
    by_cases h0 : x.1 = 206 ∨ x.1 = 208
    · have hl0 := ln_0 h0
      have : lnS I (jO As k a) (lens r1) x (ndl I r1 []) = [] := by unfold lnS; rw [if_pos h0]
      rw [this, List.append_nil] at hQ
      have := ih (r1 ++ [x]) m Z σ hr' h hZ (by rw [List.length_append]; omega) (by omega) hQ
      rw [hl', hl0, Nat.add_zero] at this
      exact this
    have h6 : x.1 ≠ 206 := fun hh => h0 (Or.inl hh)
    have h8 : x.1 ≠ 208 := fun hh => h0 (Or.inr hh)
    have hln : ln1 x.1 = 1 + dwn (opc x.1) := (eb1_d (I := I) (J := jO As k a) (N := ndl I r1 []) hV h6 h8 (hc.2.2.2.2.1 x (by rw [hr]; simp))).2.1
    have p13 : σ.1 (rv + 4 + 3 * k) 13 = Int32.ofNat (lens (riR a)) := ((h.2.2.2.2.2.2.1.2.2.2.2 k a hc.1).2.2.2 h2).2.2.2.1
    unfold ys_102_21
    rw [if_pos ((oN_lt1 (b := 6144) (c := 6144) rfl (by omega) (by omega)).mpr (by omega))]
    refine ⟨_, rfl, in11 h3 hk, ?_⟩
    rw [p13, if_pos ((oN_lt (by omega) (by omega)).mpr (by omega)), hZ.2.2.2]
    refine my_if (fun c => ?_) (fun c => ?_)
    · refine s_103 he h hc hr h6 h8 hZ (by omega) hd (fun σ1 g1 f1 => ?_)
      rw [my_kI_v, oN_s, show (1 : Int32) = Int32.ofNat 1 from rfl, ← Int32.ofNat_add, ← Int32.ofNat_add, ← hln, ← hl']
      have hlz := lnS_l (I := I) (J := jO As k a) (N := ndl I r1 []) (p := lens r1) hV (by omega) (fun h6 h8 => (opc_31 hV h6 h8).2)
      exact ys_102_21_ok (ih (r1 ++ [x]) (m + 1) _ σ1 hr' (csF_ld h f1) g1 (by rw [List.length_append, List.length_append, List.length_singleton]; omega) (by omega) (fun σ2 f2 => hQ σ2 (eqp_tr f1 f2)))
    · unfold ys_102_67
      rw [hZ.2.2.2]
      have := hQ σ eqp_rf
      rw [List.append_assoc, wnt_pre c] at this
      exact this
theorem s_102 {w : Nat} (he : fmO e) (hc : CDO As I k a) (h : LD As I rv σ) (hw : w < 2147483648) (hd : 7 ≤ d) (hQ : ∀ σ', eqp (fun c k => c = 43 ∧ k ≤ 2) σ σ' → Q (.inl (some (.inl (wnt (lsS I (jO As k a) (riR a) 0 []) w)))) κ σ') : my_M e d 102 [.inr (.inr (some 43)), .inr (.inr (some rv)), .inr (.inr (some (rv + 4 + 3 * k))), .inl (Int32.ofNat w)] κ σ Q := by
  obtain ⟨d, rfl⟩ := dS 1 (show 1 ≤ d by omega)
  refine ys_102 ?_
  unfold ys_102_0
  have f0 : eqp (fun c k => c = 43 ∧ k ≤ 2) σ (my_uI (my_uI (my_uI σ 43 0 (Int32.ofNat w)) 43 1 0) 43 2 (Int32.ofInt (-1))) := eqp_I (eqp_I (eqp_I eqp_rf ⟨rfl, by omega⟩) ⟨rfl, by omega⟩) ⟨rfl, by omega⟩
  have hZ : CLs w [] (my_uI (my_uI (my_uI σ 43 0 (Int32.ofNat w)) 43 1 0) 43 2 (Int32.ofInt (-1))) := by
    refine ⟨?_, hw, ?_, ?_⟩
    · rw [my_uI_1, if_neg (by omega), my_uI_1, if_neg (by omega), uI_s]
    · rw [my_uI_1, if_neg (by omega), uI_s]; rfl
    · rw [uI_s]; rfl
  generalize my_uI (my_uI (my_uI σ 43 0 (Int32.ofNat w)) 43 1 0) 43 2 (Int32.ofInt (-1)) = σ0 at f0 hZ ⊢
  have h0 : LD As I rv σ0 := LD_o (LD_30 h) h f0 (fun c k hh => by
    have := h.2.2.1
    unfold coF
    omega)
  exact ys_102_21_ok (s_102l he hc (by omega) (riR a) [] 0 [] σ0 rfl h0 hZ (by simp) (by simp) (fun σ' f => hQ σ' (eqp_tr f0 (eqp_mo f (fun c k hh => by unfold csF at hh; omega)))))
end MCL
