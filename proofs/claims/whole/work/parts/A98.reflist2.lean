
/-! ===== the listing, the reference's ===== -/
section MRL
variable {e : my_E} {d : Nat} {κ : my_K} {σ : my_S} {Q : my_O → my_K → my_S → Prop} {As : List Ri} {I : List It} {x : Rw} {rv k : Nat} {a : Ri} {Z : List Int32}
theorem lsF_ld {σ' : my_S} (h : LD As I rv σ) (f : eqp lsF σ σ') : LD As I rv σ' := LD_o (LD_30 h) h f (fun c k hh => by
  have := h.2.2.1
  unfold lsF at hh
  unfold coF
  omega)
theorem lsF_cw {σ' : my_S} (h : cwR σ) (f : eqp lsF σ σ') : cwR σ' := fun c h1 h2 => ((f 575 c (by unfold lsF; omega)).2.1).trans (h c h1 h2)
theorem w_356l (hc : CDO As I k a) (hd : 5 ≤ d) : ∀ (r2 r1 : List Rw) (Z : List Int32) (σ : my_S), riR a = r1 ++ r2 → LD As I rv σ → cwR σ → RLs Z σ → Z.length ≤ 25 * r1.length → (∀ σ', RLs (Z ++ lsS I (jO As k a) r2 (lens r1) (ndl I r1 [])) σ' → eqp lsF σ σ' → Q (.inl none) κ σ') → ys_356_32 e d (Int32.ofNat k) (Int32.ofNat (cdB I As k a + lens (riR a))) (Int32.ofNat (cdB I As k a + lens r1)) κ σ Q := by
  have h2 := hc.2.1
  have ha := hc.1
  intro r2
  induction r2 with
  | nil =>
    intro r1 Z σ hr h hw hZ hZl hQ
    have hcl := code_l hc
    have h61 := h.2.2.2.2.2.2.1.2.2.2.1
    rw [List.append_nil] at hr
    unfold ys_356_32
    rw [if_neg (by rw [oN_lt (by rw [← hr]; omega) (by omega), hr]; omega)]
    exact hQ σ (by rw [show lsS I (jO As k a) [] (lens r1) (ndl I r1 []) = [] from rfl, List.append_nil]; exact hZ) eqp_rf
  | cons x r2 ih =>
    intro r1 Z σ hr h hw hZ hZl hQ
    have hk : k < 42 := by have := itsB_42 h.1; have := (List.getElem?_eq_some_iff.mp ha).1; omega
    have hcl := code_l hc
    have h61 := h.2.2.2.2.2.2.1.2.2.2.1
    have hlr : lens (riR a) = lens r1 + (ln1 x.1 + lens r2) := by rw [hr, lens_a]; rfl
    have hV := hc.2.2.1 x (by rw [hr]; simp)
    have hr' : riR a = (r1 ++ [x]) ++ r2 := by rw [hr]; simp
    have hl' : lens (r1 ++ [x]) = lens r1 + ln1 x.1 := by rw [lens_a]; rfl
    have hn' : ndl I (r1 ++ [x]) [] = nd1 I x (ndl I r1 []) := by rw [ndl_a]; rfl
    have hll : r1.length + 1 ≤ 1500 := by have := hc.2.2.2.2.2; rw [hr] at this; simp at this; omega
    rw [show lsS I (jO As k a) (x :: r2) (lens r1) (ndl I r1 []) = lnS I (jO As k a) (lens r1) x (ndl I r1 []) ++ lsS I (jO As k a) r2 (lens r1 + ln1 x.1) (nd1 I x (ndl I r1 [])) from rfl, ← hn', ← hl', ← List.append_assoc] at hQ
    by_cases h0 : x.1 = 206 ∨ x.1 = 208
    · have hl0 := ln_0 h0
      have : lnS I (jO As k a) (lens r1) x (ndl I r1 []) = [] := by unfold lnS; rw [if_pos h0]
      rw [this, List.append_nil] at hQ
      have := ih (r1 ++ [x]) Z σ hr' h hw hZ (by rw [List.length_append]; omega) hQ
      rw [hl', hl0, Nat.add_zero] at this
      exact this
    have h6 : x.1 ≠ 206 := fun hh => h0 (Or.inl hh)
    have h8 : x.1 ≠ 208 := fun hh => h0 (Or.inr hh)
    have hln : ln1 x.1 = 1 + dwn (opc x.1) := (eb1_d (I := I) (J := jO As k a) (N := ndl I r1 []) hV h6 h8 (hc.2.2.2.2.1 x (by rw [hr]; simp))).2.1
    have hop := opc_31 hV h6 h8
    have hlz := lnS_l (I := I) (J := jO As k a) (N := ndl I r1 []) (p := lens r1) hV (by omega) (fun h6 h8 => (opc_31 hV h6 h8).2)
    have p533 : ∀ {σ' : my_S}, LD As I rv σ' → σ'.1 533 k = Int32.ofNat (cdB I As k a) := fun h' => ((h'.2.2.2.2.2.2.2.2.1 k a ha).2.2.2.2 h2).1
    have br := fun {σ' : my_S} (h' : LD As I rv σ') => st_r (σ := σ') hc hr h6 h8 h'.2.2.2.2.2.2.2
    generalize hL : lnS I (jO As k a) (lens r1) x (ndl I r1 []) = L at hQ hlz
    unfold lnS at hL
    rw [if_neg h0] at hL
    -- the line's end
    have fin : ∀ (Z' : List Int32) (σ' : my_S), RLs Z' σ' → Z' ++ [10] = Z ++ L → eqp lsF σ σ' → ys_356_208 e d (Int32.ofNat k) (Int32.ofNat (cdB I As k a + lens (riR a))) (Int32.ofNat (cdB I As k a + lens r1)) (Int32.ofNat (1 + dwn (opc x.1))) κ σ' Q := fun Z' σ' g' hz f' => by
      have hzl : Z'.length + 1 = Z.length + L.length := by rw [← List.length_append, ← hz, List.length_append]; rfl
      unfold ys_356_208
      refine w_359 g' (by omega) (by omega) (fun σ5 g5 f5 => ?_)
      rw [my_k0_v, ← Int32.ofNat_add, ← hln, Nat.add_assoc, ← hl']
      have f15 := eqp_tr f' f5
      rw [hz] at g5
      exact ys_356_32_ok (ih (r1 ++ [x]) _ σ5 hr' (lsF_ld h f15) (lsF_cw hw f15) g5 (by rw [List.length_append, List.length_append, List.length_singleton]; omega) (fun σ6 g6 f6 => hQ σ6 g6 (eqp_tr f15 f6)))
    unfold ys_356_32
    rw [if_pos ((oN_lt (by omega) (by omega)).mpr (by omega)), oN_n (by omega), (br h).1]
    refine ⟨bdk (by omega) (by omega), ?_⟩
    refine r_357 hop (by omega) ?_
    rw [my_kI_v, oN_n (by omega), p533 h]
    refine ⟨bdk (by omega) (by omega), ?_⟩
    rw [show Int32.ofNat (cdB I As k a + lens r1) - Int32.ofNat (cdB I As k a) = Int32.ofNat (lens r1) by rw [Nat.add_comm, Int32.ofNat_add, Int32.add_sub_cancel]]
    have n4 := nmb_4 (p := lens r1) (by omega)
    refine w_358 hZ (by omega) (by omega) (fun σ1 g1 f1 => ?_)
    rw [my_k0_v]
    refine w_359 g1 (by rw [List.length_append]; omega) (by omega) (fun σ2 g2 f2 => ?_)
    rw [my_k0_v, oN_n (by omega), lsF_cw hw (eqp_tr f1 f2) _ hop.1 hop.2]
    refine ⟨bdk (by omega) (by omega), ?_⟩
    have hcw := (cw_k ⟨opc x.1, by omega⟩).2
    dsimp only at hcw
    refine w_360 (cw_N hop.2) g2 (by simp only [List.length_append, List.length_singleton]; omega) (by omega) (fun σ3 g3 f3 => ?_)
    have f13 := eqp_tr f1 (eqp_tr f2 f3)
    have ld3 := lsF_ld h f13
    rw [my_k0_v]
    by_cases hw0 : dwn (opc x.1) = 0
    · rw [if_pos hw0] at hL
      have hz : Z ++ nmb (Int32.ofNat (lens r1)) ++ [32] ++ lts (cw (opc x.1)) ++ [10] = Z ++ L := by rw [← hL]; simp only [List.append_assoc, List.nil_append]
      have go := fin _ σ3 g3 hz f13
      rw [hw0] at go ⊢
      rw [if_neg (by decide)]
      have hno : ¬ (200 ≤ x.1 ∧ x.1 ≤ 205) := fun hh => by have := dwn_i (opc_i hh); omega
      have go2 : ys_356_138 e d (Int32.ofNat k) (Int32.ofNat (cdB I As k a + lens (riR a))) (Int32.ofNat (cdB I As k a + lens r1)) (Int32.ofNat (1 + 0)) κ σ3 Q := by
        unfold ys_356_138
        rw [if_neg (by decide), if_neg (by decide), if_neg (by decide)]
        exact go
      have ho := opc_o hV h6 h8 hno
      unfold ys_356_94
      exact my_if (fun _ => go2) (fun c1 => my_if (fun _ => go2) (fun c2 => by
        exfalso
        rcases ho with ho | ho
        · exact c1 ((oN_lt1 (b := 6) (c := 6) rfl (by omega) (by omega)).mpr ho)
        · exact c2 ((oN_lt (p := 10) (by omega) (by omega)).mpr ho)))
    rw [if_neg hw0] at hL
    have hw4 := dwn_4 (c := opc x.1)
    rw [if_pos (show (1 : Int32) < Int32.ofNat (1 + dwn (opc x.1)) from (oN_lt (p := 1) (by omega) (by omega)).mpr (by omega))]
    refine w_359 g3 (by simp only [List.length_append, List.length_singleton, lts_l]; omega) (by omega) (fun σ4 g4 f4 => ?_)
    have f14 := eqp_tr f13 f4
    have ld4 := lsF_ld h f14
    rw [my_k0_v]
    unfold ys_356_94
    by_cases hn : 200 ≤ x.1 ∧ x.1 ≤ 205
    · rw [if_pos hn] at hL
      have ho := opc_i hn
      obtain ⟨j, i, q1, q2, q3, q4, q5, q6, q7⟩ := nd_at (J := jO As k a) (x := x) (r1 := r1) (r2 := r2) h.1 h.2.1 (hr ▸ hc.2.2.2.1) hn.1 hn.2
      have hnd : (ndF I a)[i]? = some j := by unfold ndF; rw [if_neg (by omega), hr]; exact q4
      have b0 := (br ld4).2 0 (by rw [dwn_i ho]; omega)
      rw [q2, Nat.add_zero, bt_0, and255, Nat.mod_eq_of_lt (by omega)] at b0
      have hj42 : j < 42 := by have := h.2.2.2.2.2.2.1.1.2.1; omega
      obtain ⟨aj, haj, hio⟩ := iRel_a2 h.2.1 q5
      have hnm : σ4.2.1 530 j = nmR x.2.2.1 := by
        rw [(ld4.2.2.2.2.2.2.2.2.1 j aj haj).2.1]
        rw [← q6, hio.1]
      rw [if_neg (fun hh => by have := (oN_lt1 (b := 6) (c := 6) rfl (by omega) (by omega)).mp hh; omega), if_neg (fun hh => by have := (oN_lt (p := 10) (by omega) (by omega)).mp hh; omega)]
      rw [oN_s, oN_n (show cdB I As k a + lens r1 + 1 < 2147483648 by omega), b0, show (50 : Int32) = Int32.ofNat 50 from rfl, ← Int32.ofNat_mul, ← Int32.ofNat_add, oN_n (show 50 * k + i < 2147483648 by omega), ((ld4.2.2.2.2.2.2.2.2.1 k a ha).2.2.2.2 h2).2 i j hnd, oN_n (show j < 2147483648 by omega), hnm]
      refine ⟨bdk (by omega) (by omega), bdk (by omega) (by omega), bdk (by omega) (by omega), ?_⟩
      have h8n := (hV.1 hn.1 hn.2).2
      refine w_360 (hV.1 hn.1 hn.2) g4 (by simp only [List.length_append, List.length_singleton, lts_l]; omega) (by omega) (fun σ5 g5 f5 => ?_)
      rw [my_k0_v]
      refine fin _ σ5 g5 ?_ (eqp_tr f14 f5)
      rw [← hL]
      simp only [List.append_assoc]
    · rw [if_neg hn] at hL
      have ho := opc_o hV h6 h8 hn
      generalize hov : opv (dwn (opc x.1)) (opn I (jO As k a) x (ndl I r1 [])) = ov at hL
      have num : ∀ v5 : Int32, v5 = Int32.ofNat (1 + dwn (opc x.1)) → my_M e d 358 [.inr (.inr (some 498)), .inl ov] κ σ4 (my_k0 (fun κ2 σ3 => ys_356_208 e d (Int32.ofNat k) (Int32.ofNat (cdB I As k a + lens (riR a))) (Int32.ofNat (cdB I As k a + lens r1)) v5 κ2 σ3 Q) (fun y4 κ5 σ6 => Q (.inr y4) κ5 σ6)) := fun v5 hv5 => by
        refine w_358 g4 (by simp only [List.length_append, List.length_singleton, lts_l]; omega) (by omega) (fun σ5 g5 f5 => ?_)
        rw [my_k0_v, hv5]
        refine fin _ σ5 g5 ?_ (eqp_tr f14 f5)
        rw [← hL]
        simp only [List.append_assoc]
      have go2 : ys_356_138 e d (Int32.ofNat k) (Int32.ofNat (cdB I As k a + lens (riR a))) (Int32.ofNat (cdB I As k a + lens r1)) (Int32.ofNat (1 + dwn (opc x.1))) κ σ4 Q := by
        have bb := (br ld4).2
        have num := num _ rfl
        have hN := hov
        unfold opv at hN
        generalize hd0 : dwn (opc x.1) = w at *
        generalize hv0 : opn I (jO As k a) x (ndl I r1 []) = v at *
        unfold ys_356_138
        rcases hw4 with hw4 | hw4 | hw4 | hw4
        · omega
        · subst hw4
          have b0 := bb 0 (by omega)
          rw [bt_n v (by omega), Nat.add_zero] at b0
          rw [if_pos (by decide), oN_s, oN_n (by omega), b0]
          refine ⟨bdk (by omega) (by omega), ?_⟩
          rw [show v.toBitVec.toNat / 2 ^ (8 * 0) % 256 = v.toBitVec.toNat % 2 ^ (8 * 1) by omega, hN]
          exact num
        · subst hw4
          have b0 := bb 0 (by omega)
          have b1 := bb 1 (by omega)
          rw [bt_n v (by omega)] at b0 b1
          rw [if_neg (by decide), if_pos (by decide), oN_s]
          refine r_307n (n := v.toBitVec.toNat) (by rw [Nat.add_zero] at b0; rw [b0]; congr 1; omega) (by rw [b1]) (by omega) (by omega) ?_
          rw [my_kI_v, show v.toBitVec.toNat % 65536 = v.toBitVec.toNat % 2 ^ (8 * 2) by omega, hN]
          exact num
        · subst hw4
          have b0 := bb 0 (by omega)
          have b1 := bb 1 (by omega)
          have b2 := bb 2 (by omega)
          have b3 := bb 3 (by omega)
          rw [bt_n v (by omega)] at b0 b1 b2 b3
          rw [if_neg (by decide), if_neg (by decide), if_pos (by decide), oN_s]
          refine r_307n (n := v.toBitVec.toNat) (by rw [Nat.add_zero] at b0; rw [b0]; congr 1; omega) (by rw [b1]) (by omega) (by omega) ?_
          rw [my_kI_v, show (3 : Int32) = Int32.ofNat 3 from rfl, ← Int32.ofNat_add, show cdB I As k a + lens r1 + 3 = cdB I As k a + lens r1 + 1 + 2 by omega]
          refine r_307n (n := v.toBitVec.toNat / 65536) (by rw [b2]) (by rw [show cdB I As k a + lens r1 + 1 + 2 + 1 = cdB I As k a + lens r1 + 1 + 3 by omega, b3]; congr 1; omega) (by omega) (by omega) ?_
          rw [my_kI_v, show (65536 : Int32) = Int32.ofNat 65536 from rfl, ← Int32.ofNat_mul, ← Int32.ofNat_add]
          have hlt := v.toBitVec.isLt
          rw [show v.toBitVec.toNat % 65536 + 65536 * (v.toBitVec.toNat / 65536 % 65536) = v.toBitVec.toNat % 2 ^ (8 * 4) by omega, hN]
          exact num
      exact my_if (fun _ => go2) (fun c1 => my_if (fun _ => go2) (fun c2 => by
        exfalso
        rcases ho with ho | ho
        · exact c1 ((oN_lt1 (b := 6) (c := 6) rfl (by omega) (by omega)).mpr ho)
        · exact c2 ((oN_lt (p := 10) (by omega) (by omega)).mpr ho)))
theorem w_356 (hc : CDO As I k a) (h : LD As I rv σ) (hw : cwR σ) (hd : 6 ≤ d) (hQ : ∀ σ', RLs (lsS I (jO As k a) (riR a) 0 []) σ' → eqp lsF σ σ' → Q (.inl none) κ σ') : my_M e d 356 [.inr (.inr (some 498)), .inl (Int32.ofNat k)] κ σ Q := by
  obtain ⟨d, rfl⟩ := dS 1 (show 1 ≤ d by omega)
  have h2 := hc.2.1
  have ha := hc.1
  have hk : k < 42 := by have := itsB_42 h.1; have := (List.getElem?_eq_some_iff.mp ha).1; omega
  have hcl := code_l hc
  have h61 := h.2.2.2.2.2.2.1.2.2.2.1
  have p533 : ∀ {σ' : my_S}, LD As I rv σ' → σ'.1 533 k = Int32.ofNat (cdB I As k a) := fun h' => ((h'.2.2.2.2.2.2.2.2.1 k a ha).2.2.2.2 h2).1
  have hcb : 3 ≤ cdB I As k a := by unfold cdB; omega
  refine ys_356 ?_
  unfold ys_356_0
  rw [oN_n (by omega), p533 h]
  refine ⟨bdk (by omega) (by omega), bdk (by omega) (by omega), ?_⟩
  have f0 : eqp lsF σ (my_uI σ 498 132 0) := eqp_I eqp_rf (Or.inr ⟨rfl, rfl⟩)
  have u0 : (my_uI σ 498 132 0).1 498 132 = 0 := uI_s
  generalize my_uI σ 498 132 0 = σ0 at f0 u0 ⊢
  have ld0 := lsF_ld h f0
  rw [show Int32.ofNat (cdB I As k a) - 2 = Int32.ofNat (cdB I As k a - 2) by
    conv => lhs; rw [show cdB I As k a = cdB I As k a - 2 + 2 by omega, Int32.ofNat_add, show Int32.ofNat 2 = 2 from rfl, Int32.add_sub_cancel]]
  have hlb : ∀ j, j < 2 → σ0.1 535 (cdB I As k a - 2 + j) = Int32.ofNat (lens (riR a) / 2 ^ (8 * j) % 256) := fun j hj => by
    rw [ld0.2.2.2.2.2.2.2.1.2 _ _ (code_n (I := I) ha h2 hj), bt_n _ (by omega)]
    congr 2
    show (BitVec.ofNat 32 (lens (riR a))).toNat / _ = _
    rw [BitVec.toNat_ofNat, Nat.mod_eq_of_lt (by omega)]
  refine r_307n (n := lens (riR a)) ?_ ?_ (by omega) (by omega) ?_
  · have := hlb 0 (by omega)
    rw [Nat.add_zero] at this
    rw [this]
    congr 1
    omega
  · rw [hlb 1 (by omega)]
  rw [my_kI_v, p533 ld0, ← Int32.ofNat_add, Nat.mod_eq_of_lt (by omega)]
  refine ⟨bdk (by omega) (by omega), ?_⟩
  have := w_356l (e := e) (d := d) (κ := κ) (Q := Q) (rv := rv) hc (by omega) (riR a) [] [] σ0 rfl ld0 (lsF_cw hw f0) ⟨u0, fun i y hi => by simp at hi⟩ (by simp) (fun σ' g f => hQ σ' g (eqp_tr f0 f))
  exact ys_356_32_ok this
end MRL
