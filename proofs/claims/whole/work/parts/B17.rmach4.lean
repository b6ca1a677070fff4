
/-! ===== the reference's machine: one instruction ===== -/
section MRS
variable {e : my_E} {d : Nat} {κ : my_K} {σ σ' : my_S} {Q : my_O → my_K → my_S → Prop} {s : Ms} {As : List Ri} {I : List It}
theorem uI_vi {c k : Nat} {v : Int32} (h : σ.1 c k = v) : my_uI σ c k v = σ := by
  apply Prod.ext
  · funext c' k'
    rw [my_uI_1]
    by_cases hh : c' = c ∧ k' = k
    · rw [if_pos hh, hh.1, hh.2, h]
    · rw [if_neg hh]
  · rfl
theorem n_299d {c : Nat} {v1 v3 v4 v5 t1 : Int32} (hc : 1 ≤ c ∧ c ≤ 31) (h : ∀ t0, t0 = Int32.ofNat (1 + dwn c) → ys_299_90 e d v1 (Int32.ofNat c) v3 v4 v5 t0 t1 κ σ Q) : (if Int32.ofNat c = 1 then ys_299_90 e d v1 (Int32.ofNat c) v3 v4 v5 5 t1 κ σ Q else (if Int32.ofNat c = 14 then ys_299_64 e d v1 (Int32.ofNat c) v3 v4 v5 t1 κ σ Q else (if Int32.ofNat c = 15 then ys_299_64 e d v1 (Int32.ofNat c) v3 v4 v5 t1 κ σ Q else (if Int32.ofNat c < 4 then ys_299_79 e d v1 (Int32.ofNat c) v3 v4 v5 t1 κ σ Q else (if (10 : Int32) < Int32.ofNat c then ys_299_79 e d v1 (Int32.ofNat c) v3 v4 v5 t1 κ σ Q else ys_299_85 e d v1 (Int32.ofNat c) v3 v4 v5 t1 κ σ Q))))) := by
  have ev : ∀ {b : Nat}, b < 2147483648 → (Int32.ofNat c = Int32.ofNat b ↔ c = b) := fun hb => oN_e (by omega) hb
  unfold ys_299_64 ys_299_79 ys_299_85
  refine my_if (fun h1 => ?_) (fun h1 => ?_)
  · have := (ev (b := 1) (by omega)).mp h1
    exact h 5 (by rw [this]; rfl)
  have n1 : c ≠ 1 := fun hh => h1 (by rw [hh]; rfl)
  refine my_if (fun h1 => ?_) (fun h1 => ?_)
  · have := (ev (b := 14) (by omega)).mp h1
    exact h 3 (by rw [this]; rfl)
  have n14 : c ≠ 14 := fun hh => h1 (by rw [hh]; rfl)
  refine my_if (fun h1 => ?_) (fun h1 => ?_)
  · have := (ev (b := 15) (by omega)).mp h1
    exact h 3 (by rw [this]; rfl)
  have n15 : c ≠ 15 := fun hh => h1 (by rw [hh]; rfl)
  have l17 : ¬ (4 ≤ c ∧ c ≤ 10) → (if Int32.ofNat c = 17 then ys_299_90 e d v1 (Int32.ofNat c) v3 v4 v5 2 t1 κ σ Q else ys_299_90 e d v1 (Int32.ofNat c) v3 v4 v5 1 t1 κ σ Q) := fun hn => by
    refine my_if (fun h2 => ?_) (fun h2 => ?_)
    · have := (ev (b := 17) (by omega)).mp h2
      exact h 2 (by rw [this]; rfl)
    · have n17 : c ≠ 17 := fun hh => h2 (by rw [hh]; rfl)
      exact h 1 (by unfold dwn; rw [if_neg n1, if_neg (by omega), if_neg (by omega)]; rfl)
  refine my_if (fun h1 => ?_) (fun h1 => ?_)
  · have := (oN_lt1 (b := 4) (c := 4) rfl (by omega) (by omega)).mp h1
    exact l17 (by omega)
  have n4 : 4 ≤ c := by
    by_cases hh : 4 ≤ c
    · exact hh
    · exact absurd ((oN_lt1 (b := 4) (c := 4) rfl (by omega) (by omega)).mpr (by omega)) h1
  refine my_if (fun h1 => ?_) (fun h1 => ?_)
  · have := (oN_lt (p := 10) (n := c) (by omega) (by omega)).mp h1
    exact l17 (by omega)
  have n10 : c ≤ 10 := by
    by_cases hh : c ≤ 10
    · exact hh
    · exact absurd ((oN_lt (p := 10) (n := c) (by omega) (by omega)).mpr (by omega)) h1
  exact h 2 (by unfold dwn; rw [if_neg n1, if_neg (by omega), if_pos (by omega)]; rfl)
/-- ONE INSTRUCTION, the reference's -/
theorem n_299 {a : Ri} {LT : Nat → Int32} {r1 r2 : List Rw} {x : Rw} {j : Nat} (hL : LOf As I) (hR : NowR I As σ) (h30 : ∀ a ∈ As, (ndF I a).length ≤ 30) (h61 : (ibA I 0 As).length ≤ 6144) (h : RMs As I s σ) (hE : zE s = none) (hc : WTc As I s) (ht : TFr As I s a LT r1 (x :: r2)) (h6 : x.1 ≠ 206) (h8 : x.1 ≠ 208) (hj : 200 ≤ x.1 → x.1 ≤ 205 → itK I x.2.2.1 = some j) (hd : 4 ≤ d) (hQ : ∀ σ', RMs As I (zop As (zw s (zD s)) (opc x.1) (opx I As (zw s (zD s)) a r1 x) j (zA r1 x s)) σ' → eqp rmF σ σ' → Q (.inl none) κ σ') : my_M e d 299 [.inr (.inr (some 498))] κ σ Q := by
  obtain ⟨d, rfl⟩ := dS 1 (show 1 ≤ d by omega)
  obtain ⟨hB, hrel, hC, _⟩ := LOf_s hL
  have hT0 := ht
  obtain ⟨t1, t2, t3, t4, t5, t6, t7⟩ := ht
  have cd := t1.1
  have h2 := cd.2.1
  have hD := hc.1
  have hV := cd.2.2.1 x (by rw [t4]; simp)
  have hTT := TFr_T hL hc hT0
  have hkk : zw s (zD s) < 42 := by have := itsB_42 hB; have := (List.getElem?_eq_some_iff.mp cd.1).1; omega
  have hcl := code_l cd
  have hlr : lens (riR a) = lens r1 + (ln1 x.1 + lens r2) := by rw [t4, lens_a]; rfl
  have hop := opc_31 hV h6 h8
  have hln : ln1 x.1 = 1 + dwn (opc x.1) := (eb1_d (I := I) (J := jO As (zw s (zD s)) a) (N := ndl I r1 []) hV h6 h8 (cd.2.2.2.2.1 x (by rw [t4]; simp))).2.1
  have b := st_r cd t4 h6 h8 hR
  have hcb : cbk As I (zw s (zD s)) = cdB I As (zw s (zD s)) a := by unfold cbk; rw [cd.1]
  have q77 : σ.1 498 77 = Int32.ofNat (cdB I As (zw s (zD s)) a + lens r1) := by rw [h.2.2.1.1, hcb, t5]
  have q75 := h.2.1.1
  have q44 := (h.2.1.2 (zD s) (Nat.le_refl _)).1
  have q533 : σ.1 533 (zw s (zD s)) = Int32.ofNat (cdB I As (zw s (zD s)) a) := ((hR.2.1 _ a cd.1).2.2.2.2 h2).1
  obtain ⟨LT1, P, e1, e2, e3, e4, e5, e6, e7, e8, e9, e10, e11⟩ := FS_next hL t1 t4
  have hPT : (pT I a LT r1).length = P.length := by rw [e2, List.length_map]
  refine ys_299 ?_
  unfold ys_299_0
  rw [q77, q75, oN_s, oN_n (show cdB I As (zw s (zD s)) a + lens r1 < 2147483648 by omega), oN_n (show cdB I As (zw s (zD s)) a + lens r1 + 1 < 2147483648 by omega), oN_n (show zD s < 2147483648 by omega), q44, oN_n (show zw s (zD s) < 2147483648 by omega), q533, b.1]
  refine ⟨bdk (by omega) (by omega), bdk (by omega) (by omega), bdk (by omega) (by omega), bdk (by omega) (by omega), ?_⟩
  generalize hv3 : σ.1 535 (cdB I As (zw s (zD s)) a + lens r1 + 1) = v3
  refine n_299d hop (fun t0 ht0 => ?_)
  rw [ht0, ← hln]
  unfold ys_299_90
  have ea : Int32.ofNat (cdB I As (zw s (zD s)) a + lens r1) + Int32.ofNat (ln1 x.1) = Int32.ofNat (cbk As I (zw s (zD s)) + (lens r1 + ln1 x.1)) := by rw [← Int32.ofNat_add, hcb, Nat.add_assoc]
  rw [ea]
  have hP := RMs_P (p := lens r1 + ln1 x.1) h
  generalize my_uI σ 498 77 (Int32.ofNat (cbk As I (zw s (zD s)) + (lens r1 + ln1 x.1))) = σ1 at hP ⊢
  obtain ⟨g1, f1⟩ := hP
  have R1 : NowR I As σ1 := NowR_o hB hrel h30 hR f1 (fun c k hh => by unfold rmF at hh; unfold coF; omega)
  have bb : ∀ i, i < dwn (opc x.1) → σ1.1 535 (cdB I As (zw s (zD s)) a + lens r1 + 1 + i) = bt (opn I (jO As (zw s (zD s)) a) x (ndl I r1 [])) (Int32.ofNat i) &&& 255 := fun i hi => (eqp_g f1 (by unfold rmF; omega)).trans (b.2 i hi)
  have v3e : 1 ≤ dwn (opc x.1) → v3 = bt (opn I (jO As (zw s (zD s)) a) x (ndl I r1 [])) (Int32.ofNat 0) &&& 255 := fun hh => by rw [← hv3]; exact b.2 0 (by omega)
  have v31 : dwn (opc x.1) = 1 → v3 = opx I As (zw s (zD s)) a r1 x := fun hh => by
    rw [v3e (by omega), bt_n _ (by omega)]
    unfold opx opv
    rw [hh]
    congr 1
    omega
  have fin : ∀ {σ2 : my_S}, RMs As I (zop As (zw s (zD s)) (opc x.1) (opx I As (zw s (zD s)) a r1 x) j (zA r1 x s)) σ2 → eqp rmF σ1 σ2 → ys_299_560 e d κ σ2 Q := fun g f => hQ _ g (eqp_tr f1 f)
  have hZT : zT (zA r1 x s) = zT s := rfl
  have g75 : σ1.1 498 75 = Int32.ofNat (zD s) := g1.2.1.1
  have nd1' : 1 ≤ hnd x → 1 ≤ zT s := fun hh => by omega
  -- what the named item is
  have named : 200 ≤ x.1 → x.1 ≤ 205 → ∃ bb', As[j]? = some bb' ∧ iOf bb' (itA I j) ∧ itW bb' ∧ itV bb' ∧ j < 42 ∧ v3 = opx I As (zw s (zD s)) a r1 x ∧ (∃ i, i < 30 ∧ opx I As (zw s (zD s)) a r1 x = Int32.ofNat i ∧ σ1.1 534 (50 * zw s (zD s) + i) = Int32.ofNat j) := fun n1 n2 => by
    have ho := opc_i ⟨n1, n2⟩
    have hd1 := dwn_i ho
    obtain ⟨j', i, q1, q2, q3, q4, q5, q6, q7⟩ := nd_at (J := jO As (zw s (zD s)) a) (x := x) (r1 := r1) (r2 := r2) hB hrel (t4 ▸ cd.2.2.2.1) n1 n2
    rw [hj n1 n2] at q1
    cases q1
    have hox : opx I As (zw s (zD s)) a r1 x = Int32.ofNat i := by unfold opx; rw [hd1, q2, opv_1 (by omega)]
    obtain ⟨bb', hb, hio, hw⟩ := it_at hL (hj n1 n2)
    have hndF : (ndF I a)[i]? = some j := by unfold ndF; rw [if_neg (by omega), t4]; exact q4
    exact ⟨bb', hb, hio, hw, (LOf_K hL).2 bb' (List.mem_of_getElem? hb), (nmk_lt hB hb).2, v31 hd1, i, q3, hox, ((R1.2.1 _ a cd.1).2.2.2.2 h2).2 i j hndF⟩
  have e50 : ∀ {i : Nat}, (50 : Int32) * Int32.ofNat (zw s (zD s)) + Int32.ofNat i = Int32.ofNat (50 * zw s (zD s) + i) := by
    intro i
    rw [show (50 : Int32) = Int32.ofNat 50 from rfl, ← Int32.ofNat_mul, ← Int32.ofNat_add]
  have e10 : ∀ {i : Nat}, (10 : Int32) * Int32.ofNat (zD s) + Int32.ofNat i = Int32.ofNat (10 * zD s + i) := by
    intro i
    rw [show (10 : Int32) = Int32.ofNat 10 from rfl, ← Int32.ofNat_mul, ← Int32.ofNat_add]
  have kd0 : ∀ {bb' : Ri}, iOf bb' (itA I j) → itW bb' → (itA I j).2.2.1 = 0 → riF bb' = 0 := fun hio hw hk => kdf_0 (kd_f hio hw (K := 0) (by omega) hk)
  have kd1 : ∀ {bb' : Ri}, iOf bb' (itA I j) → itW bb' → (itA I j).2.2.1 = 1 → riF bb' = 1 := fun hio hw hk => kdf_1 (kd_f hio hw (K := 1) (by omega) hk)
  have loc : x.1 = 4 ∨ x.1 = 5 ∨ x.1 = 207 → ∃ i, i < 10 ∧ opx I As (zw s (zD s)) a r1 x = Int32.ofNat i ∧ v3 = Int32.ofNat i := fun h1 => by
    obtain ⟨i, hi, hv⟩ := hV.2.2.1 h1
    have := opx_l (I := I) (As := As) (a := a) (r1 := r1) (k := zw s (zD s)) h1 hv hi
    refine ⟨i, hi, this, ?_⟩
    rw [← this]
    exact v31 (by rcases h1 with h1 | h1 | h1 <;> (rw [h1]; rfl))
  -- a value is told to a frame
  have set5 : x.1 = 5 ∨ x.1 = 207 → my_M e d 301 [.inr (.inr (some 498))] κ σ1 (my_kI (fun x91 κ92 σ93 => (my_bd ((10 * (σ1.1 498 75)) + v3) 220) ∧ ys_299_560 e d κ92 (my_uI σ93 542 (((10 * (σ1.1 498 75)) + v3) : Int32).toNatClampNeg x91) Q) (fun y94 κ95 σ96 => Q (.inr y94) κ95 σ96)) := fun h1 => by
    obtain ⟨i, hi, ho, hv⟩ := loc (by omega)
    have hn : hnd x = 1 := by unfold hnd; rw [if_neg (by omega), if_neg (by omega), if_pos (by omega)]
    refine n_301 (s := zA r1 x s) g1 (by show zT s ≤ 8000; omega) (nd1' (by omega)) (by omega) (fun σ2 g2 f2 => ?_)
    rw [my_kI_v, g75, hv, e10, oN_n (by omega)]
    refine ⟨bdk (by omega) (by omega), ?_⟩
    have gl := RMs_L (v := ztop (zA r1 x s)) g2 hi
    refine fin ?_ (eqp_tr f2 gl.2)
    rw [show opc x.1 = 5 by rcases h1 with h1 | h1 <;> (rw [h1]; rfl), zop_5, ho, oN_n (by omega)]
    exact gl.1
  have call : x.1 = 204 ∨ x.1 = 205 → (my_bd ((50 * Int32.ofNat (zw s (zD s))) + v3) 2400) ∧ my_M e d 304 [.inr (.inr (some 498)), .inl (σ1.1 534 (((50 * Int32.ofNat (zw s (zD s))) + v3) : Int32).toNatClampNeg)] κ σ1 (my_k0 (fun κ74 σ75 => ys_299_560 e d κ74 σ75 Q) (fun y76 κ77 σ78 => Q (.inr y76) κ77 σ78)) := fun h1 => by
    obtain ⟨bb', n1, n2, n3, n4, n5, n6, i, n7, n8, n9⟩ := named (by omega) (by omega)
    obtain ⟨b', b1, b2, b3, b4, b5, b6, _⟩ := FS_call hL t1 t4 h1 (hj (by omega) (by omega))
    rw [n1] at b1
    cases b1
    have hf : riF bb' = 2 ∨ riF bb' = 3 := by
      rcases h1 with h1 | h1
      · rw [if_pos h1] at b3; exact Or.inl b3
      · rw [if_neg (by omega)] at b3; exact Or.inr b3
    rw [n6, n8, e50, oN_n (by omega), n9]
    refine ⟨bdk (by omega) (by omega), n_304 (s := zA r1 x s) R1 hrel h30 h61 g1 n1 hf hB hc.2.1 hD (by show zT s ≤ 8000; omega) (by show (riQ bb').length ≤ zT s; omega) (by omega) (fun σ2 g2 f2 => ?_)⟩
    rw [my_k0_v]
    refine fin ?_ f2
    rw [show opc x.1 = 10 by rcases h1 with h1 | h1 <;> (rw [h1]; rfl), zop_10]
    exact g2
  have cell : (x.1 = 202 ∨ x.1 = 203) → ys_299_360 e d (Int32.ofNat (opc x.1)) v3 (Int32.ofNat (zw s (zD s))) κ σ1 Q := fun h1 => by
    obtain ⟨bb', n1, n2, n3, n4, n5, n6, i, n7, n8, n9⟩ := named (by omega) (by omega)
    have jj := hj (by omega) (by omega)
    have hk : (itA I j).2.2.1 = 1 ∧ ((x.1 = 202 → 1 ≤ P.length) ∧ (x.1 = 203 → 2 ≤ P.length)) := by
      rcases h1 with h1 | h1
      · have hn1 : hnd x = 1 := by unfold hnd; simp [h1]
        match P, e5, e6 with
        | [], e5, _ => simp at e5; omega
        | c :: P0, _, e6 =>
          rw [ty_202 h1] at e6
          have n0 := (mns_k (Or.inr (Or.inl rfl)) e6).1
          rw [n0] at e6
          obtain ⟨k', w1, w2, _⟩ := mns_s e6
          rw [jj] at w1
          cases w1
          exact ⟨w2, fun _ => by simp, fun hh => by omega⟩
      · have hn1 : hnd x = 2 := by unfold hnd; simp [h1]
        match P, e5, e6 with
        | [], e5, _ => simp at e5; omega
        | [_], e5, _ => simp at e5; omega
        | c :: c2 :: P0, _, e6 =>
          rw [ty_203 h1] at e6
          obtain ⟨k', w1, w2, _⟩ := mns_s (omin_0.mp (omin_0.mp e6).1).1
          rw [jj] at w1
          cases w1
          exact ⟨w2, fun hh => by omega, fun _ => by simp⟩
    have hf := kd1 n2 n3 hk.1
    unfold ys_299_360
    rw [n6, n8, e50, oN_n (by omega), n9]
    refine ⟨bdk (by omega) (by omega), ?_⟩
    rcases h1 with h1 | h1
    · have ho : opc x.1 = 8 := by rw [h1]; rfl
      have hp := hk.2.1 h1
      rw [ho, if_neg (by decide)]
      unfold ys_299_384
      refine n_302 (s := zA r1 x s) (t := 0) hB R1 h61 g1 n1 hf (n4.2 hf) (by show zT s ≤ 8000; omega) (Or.inl ⟨rfl, by show 1 ≤ zT s; omega⟩) (by omega) (fun σ2 g2 f2 => ?_)
      rw [my_k0_v]
      refine fin ?_ f2
      rw [ho, zop_8]
      rw [if_pos rfl] at g2
      exact g2
    · have ho : opc x.1 = 9 := by rw [h1]; rfl
      have hp := hk.2.2 h1
      rw [ho, if_pos (by decide)]
      unfold ys_299_384
      refine n_302 (s := zA r1 x s) (t := 1) hB R1 h61 g1 n1 hf (n4.2 hf) (by show zT s ≤ 8000; omega) (Or.inr ⟨rfl, by show 2 ≤ zT s; omega⟩) (by omega) (fun σ2 g2 f2 => ?_)
      rw [my_k0_v]
      refine fin ?_ f2
      rw [ho, zop_9]
      rw [if_neg (by decide)] at g2
      exact g2
  have jump : x.1 = 14 ∨ x.1 = 15 → ∃ p : Nat, opx I As (zw s (zD s)) a r1 x = Int32.ofNat p ∧ (opx I As (zw s (zD s)) a r1 x).toNatClampNeg = p ∧ ∀ (κ' : my_K) (σ2 : my_S) (Q' : my_O → my_K → my_S → Prop), eqp rmF σ σ2 → Q' (.inl (some (.inl (Int32.ofNat p)))) κ' σ2 → my_M e d 307 [.inr (.inr (some 498)), .inl (Int32.ofNat (cdB I As (zw s (zD s)) a + lens r1) + 1)] κ' σ2 Q' := fun h1 => by
    obtain ⟨D, hDj⟩ := FS_DJ t1
    obtain ⟨T, r1', r2', w1, w1', w2, w3, w4, w5, w6, w7, _⟩ := jmp_at hL t1 hDj t4 h1
    have ox := opx_j (I := I) (As := As) (r1 := r1) t1 h1 w2 w7
    have l5 := lens_5 (r := r1')
    have c1500 := cd.2.2.2.2.2
    rw [w2, List.length_append] at c1500
    refine ⟨lens r1', ox.1, ox.2, fun κ' σ2 Q' f hq => ?_⟩
    have hd2 : dwn (opc x.1) = 2 := by rcases h1 with h1 | h1 <;> (rw [h1]; rfl)
    have y0 := (eqp_g f (c := 535) (k := cdB I As (zw s (zD s)) a + lens r1 + 1) (by unfold rmF; omega)).trans (b.2 0 (by omega))
    have y1 := (eqp_g f (c := 535) (k := cdB I As (zw s (zD s)) a + lens r1 + 1 + 1) (by unfold rmF; omega)).trans (b.2 1 (by omega))
    rw [w7, bt_n _ (by omega)] at y0 y1
    have en : (Int32.ofNat (lens r1')).toBitVec.toNat = lens r1' := by
      show (BitVec.ofNat 32 (lens r1')).toNat = _
      rw [BitVec.toNat_ofNat, Nat.mod_eq_of_lt (by omega)]
    rw [en] at y0 y1
    rw [oN_s]
    refine r_307n (n := lens r1') (by rw [y0]; congr 1; omega) (by rw [y1]) (by omega) (by omega) ?_
    rw [Nat.mod_eq_of_lt (by omega)]
    exact hq
  rcases rwV_op hV with h1 | h1 | h1 | h1 | h1 | h1 | h1 | h1 | h1 | h1 | h1 | h1 | h1 | h1 | h1 | h1 | h1 | h1 | h1 | h1 | h1 | h1 | h1 | h1
  · have ho : opc x.1 = 1 := by rw [h1]; rfl
    rw [ho] at fin bb v3e ⊢
    rw [if_pos (by decide)]
    have a2 : ∀ {m : Nat}, Int32.ofNat (cdB I As (zw s (zD s)) a + lens r1) + Int32.ofNat m = Int32.ofNat (cdB I As (zw s (zD s)) a + lens r1 + m) := by intro m; rw [← Int32.ofNat_add]
    rw [show (2 : Int32) = Int32.ofNat 2 from rfl, show (3 : Int32) = Int32.ofNat 3 from rfl, show (4 : Int32) = Int32.ofNat 4 from rfl, a2, a2, a2, oN_n (by omega), oN_n (by omega), oN_n (by omega)]
    have b1 : σ1.1 535 (cdB I As (zw s (zD s)) a + lens r1 + 2) = _ := bb 1 (by decide)
    have b2 : σ1.1 535 (cdB I As (zw s (zD s)) a + lens r1 + 3) = _ := bb 2 (by decide)
    have b3 : σ1.1 535 (cdB I As (zw s (zD s)) a + lens r1 + 4) = _ := bb 3 (by decide)
    rw [b1, b2, b3, v3e (by decide), bt_n _ (by omega), bt_n _ (by omega), bt_n _ (by omega), bt_n _ (by omega)]
    refine ⟨bdk (by omega) (by omega), bdk (by omega) (by omega), bdk (by omega) (by omega), ?_⟩
    have ev : Int32.ofNat ((opn I (jO As (zw s (zD s)) a) x (ndl I r1 [])).toBitVec.toNat / 2 ^ (8 * 0) % 256) + 256 * Int32.ofNat ((opn I (jO As (zw s (zD s)) a) x (ndl I r1 [])).toBitVec.toNat / 2 ^ (8 * 1) % 256) + 65536 * Int32.ofNat ((opn I (jO As (zw s (zD s)) a) x (ndl I r1 [])).toBitVec.toNat / 2 ^ (8 * 2) % 256) + 16777216 * Int32.ofNat ((opn I (jO As (zw s (zD s)) a) x (ndl I r1 [])).toBitVec.toNat / 2 ^ (8 * 3) % 256) = opx I As (zw s (zD s)) a r1 x := by
      unfold opx opv
      rw [ho, show dwn 1 = 4 from rfl]
      generalize (opn I (jO As (zw s (zD s)) a) x (ndl I r1 [])).toBitVec.toNat = n
      rw [show (256 : Int32) = Int32.ofNat 256 from rfl, show (65536 : Int32) = Int32.ofNat 65536 from rfl, show (16777216 : Int32) = Int32.ofNat 16777216 from rfl, ← Int32.ofNat_mul, ← Int32.ofNat_mul, ← Int32.ofNat_mul, ← Int32.ofNat_add, ← Int32.ofNat_add, ← Int32.ofNat_add]
      congr 1
      omega
    rw [ev]
    refine n_300 (s := zA r1 x s) g1 (by show zT s < 8000; omega) (by omega) (fun σ2 g2 f2 => ?_)
    rw [my_k0_v]
    exact fin g2 f2
  · have ho : opc x.1 = 2 := by rw [h1]; rfl
    rw [ho] at fin ⊢
    rw [if_neg (by decide), if_pos (by decide)]
    unfold ys_299_235 ys_299_246
    rw [if_pos (by decide)]
    refine n_300 (s := zA r1 x s) g1 (by show zT s < 8000; omega) (by omega) (fun σ2 g2 f2 => ?_)
    rw [my_k0_v]
    exact fin g2 f2
  · have ho : opc x.1 = 3 := by rw [h1]; rfl
    rw [ho] at fin ⊢
    rw [if_neg (by decide), if_neg (by decide), if_pos (by decide)]
    unfold ys_299_235 ys_299_246
    rw [if_neg (by decide)]
    refine n_300 (s := zA r1 x s) g1 (by show zT s < 8000; omega) (by omega) (fun σ2 g2 f2 => ?_)
    rw [my_k0_v]
    exact fin g2 f2
  · have ho : opc x.1 = 4 := by rw [h1]; rfl
    obtain ⟨i, hi, ho2, hv⟩ := loc (by omega)
    rw [ho] at fin ⊢
    rw [if_neg (by decide), if_neg (by decide), if_neg (by decide), if_pos (by decide), g75, hv, e10, oN_n (by omega), g1.2.2.2.1 _ (by show 10 * zD s + i < 10 * (zD s + 1); omega)]
    refine ⟨bdk (by omega) (by omega), ?_⟩
    refine n_300 (s := zA r1 x s) g1 (by show zT s < 8000; omega) (by omega) (fun σ2 g2 f2 => ?_)
    rw [my_k0_v]
    refine fin ?_ f2
    rw [zop_4, ho2, oN_n (by omega)]
    exact g2
  · have ho : opc x.1 = 5 := by rw [h1]; rfl
    have := set5 (Or.inl h1)
    rw [ho]
    rw [if_neg (by decide), if_neg (by decide), if_neg (by decide), if_neg (by decide), if_pos (by decide)]
    exact this
  · have ho : opc x.1 = 11 := by rw [h1]; rfl
    have h1D := (wz_leave (k := 0) (j := 0) (o := 0) hL hc hT0 (Or.inl h1)).2
    rw [ho] at fin ⊢
    rw [if_neg (by decide), if_neg (by decide), if_neg (by decide), if_neg (by decide), if_neg (by decide), if_neg (by decide), if_neg (by decide), if_neg (by decide), if_neg (by decide), if_neg (by decide), if_pos (by decide)]
    unfold ys_299_409
    refine n_306 (s := zA r1 x s) g1 h1D hD (by omega) (fun σ2 g2 f2 => ?_)
    rw [my_k0_v]
    exact fin g2 f2
  · have ho : opc x.1 = 12 := by rw [h1]; rfl
    have h1D := (wz_leave (k := 0) (j := 0) (o := 0) hL hc hT0 (Or.inr h1)).2
    rw [ho] at fin ⊢
    rw [if_neg (by decide), if_neg (by decide), if_neg (by decide), if_neg (by decide), if_neg (by decide), if_neg (by decide), if_neg (by decide), if_neg (by decide), if_neg (by decide), if_neg (by decide), if_neg (by decide), if_pos (by decide)]
    unfold ys_299_409
    refine n_306 (s := zA r1 x s) g1 h1D hD (by omega) (fun σ2 g2 f2 => ?_)
    rw [my_k0_v]
    exact fin g2 f2
  · have ho : opc x.1 = 13 := by rw [h1]; rfl
    rw [ho] at fin ⊢
    rw [if_neg (by decide), if_neg (by decide), if_neg (by decide), if_neg (by decide), if_neg (by decide), if_neg (by decide), if_neg (by decide), if_neg (by decide), if_neg (by decide), if_neg (by decide), if_neg (by decide), if_neg (by decide), if_pos (by decide)]
    refine n_303 (n := 0) (s := zA r1 x s) g1 (by omega) (fun σ2 g2 f2 => ?_)
    rw [my_k0_v]
    exact fin g2 f2
  · have ho : opc x.1 = 14 := by rw [h1]; rfl
    obtain ⟨p, o1, o2, o3⟩ := jump (Or.inl h1)
    rw [ho] at fin ⊢
    rw [if_neg (by decide), if_neg (by decide), if_neg (by decide), if_neg (by decide), if_neg (by decide), if_neg (by decide), if_neg (by decide), if_neg (by decide), if_neg (by decide), if_neg (by decide), if_neg (by decide), if_neg (by decide), if_neg (by decide), if_pos (by decide)]
    refine o3 κ σ1 _ f1 ?_
    rw [my_kI_v, ← Int32.ofNat_add, ← hcb]
    have gp := RMs_P (p := p) g1
    refine fin ?_ gp.2
    rw [zop_14, o2]
    exact gp.1
  · have ho : opc x.1 = 15 := by rw [h1]; rfl
    obtain ⟨p, o1, o2, o3⟩ := jump (Or.inr h1)
    have hn : hnd x = 1 := by unfold hnd; simp [h1]
    rw [ho] at fin ⊢
    rw [if_neg (by decide), if_neg (by decide), if_neg (by decide), if_neg (by decide), if_neg (by decide), if_neg (by decide), if_neg (by decide), if_neg (by decide), if_neg (by decide), if_neg (by decide), if_neg (by decide), if_neg (by decide), if_neg (by decide), if_neg (by decide), if_pos (by decide)]
    rw [zop_15, o2] at fin
    refine n_301 (s := zA r1 x s) g1 (by show zT s ≤ 8000; omega) (nd1' (by omega)) (by omega) (fun σ2 g2 f2 => ?_)
    rw [my_kI_v]
    refine my_if (fun h0 => ?_) (fun h0 => ?_)
    · rw [if_pos h0] at fin
      refine o3 κ σ2 _ (eqp_tr f1 f2) ?_
      rw [my_kI_v, ← Int32.ofNat_add, ← hcb]
      unfold ys_299_466
      have gp := RMs_P (p := p) g2
      exact fin gp.1 (eqp_tr f2 gp.2)
    · rw [if_neg h0] at fin
      unfold ys_299_466
      rw [uI_vi rfl]
      exact fin g2 f2
  · have ho : opc x.1 = 16 := by rw [h1]; rfl
    rw [ho] at fin ⊢
    rw [if_neg (by decide), if_neg (by decide), if_neg (by decide), if_neg (by decide), if_neg (by decide), if_neg (by decide), if_neg (by decide), if_neg (by decide), if_neg (by decide), if_neg (by decide), if_neg (by decide), if_neg (by decide), if_neg (by decide), if_neg (by decide), if_neg (by decide), if_pos (by decide)]
    rw [zop_16] at fin
    unfold zbrn at fin
    refine n_305 (s := zA r1 x s) g1 hc.2.1 (by omega) (fun σ2 hf2 g2 f2 => ?_) (fun σ2 hf2 g2 f2 => ?_)
    · rw [if_pos hf2] at fin
      rw [my_kI_v, if_neg (by decide)]
      refine ⟨Or.inl rfl, ?_⟩
      have q81 : σ2.1 498 81 = 0 := by
        rw [g2.2.2.2.2.2.2.2.2.1, if_pos (show zE (zbr (zA r1 x s)) = none from hE)]
      rw [uI_vi q81]
      exact fin g2 f2
    · rw [if_neg hf2] at fin
      rw [my_kI_v, if_pos rfl]
      refine ⟨Or.inr rfl, ?_⟩
      have q81 : σ2.1 498 81 = 1 := by
        rw [g2.2.2.2.2.2.2.2.2.1, if_neg (show ¬ zE (zend 3 (zA r1 x s)) = none from by show ¬ (some 3 : Option Nat) = none; simp)]
      rw [uI_vi q81]
      exact fin g2 f2
  · have ho : opc x.1 = 17 := by rw [h1]; rfl
    have hn : hnd x = 1 := by unfold hnd; simp [h1]
    have hv := v31 (by rw [ho]; rfl)
    rw [ho] at fin ⊢
    rw [if_neg (by decide), if_neg (by decide), if_neg (by decide), if_neg (by decide), if_neg (by decide), if_neg (by decide), if_neg (by decide), if_neg (by decide), if_neg (by decide), if_neg (by decide), if_neg (by decide), if_neg (by decide), if_neg (by decide), if_neg (by decide), if_neg (by decide), if_neg (by decide), if_pos (by decide)]
    rw [zop_17] at fin
    refine n_301 (s := zA r1 x s) g1 (by show zT s ≤ 8000; omega) (nd1' (by omega)) (by omega) (fun σ2 g2 f2 => ?_)
    rw [my_kI_v]
    refine my_if (fun h0 => ?_) (fun h0 => ?_)
    · rw [if_pos h0] at fin
      have fk : eqp (fun c k => c = 498 ∧ (k = 79 ∨ k = 80)) σ2 (my_uI (my_uI σ2 498 79 (Int32.ofNat (zw s (zD s)))) 498 80 v3) := eqp_I (eqp_I eqp_rf ⟨rfl, Or.inl rfl⟩) ⟨rfl, Or.inr rfl⟩
      have gk : RMs As I (zsk (zw s (zD s), opx I As (zw s (zD s)) a r1 x) (zpop (zA r1 x s))) (my_uI (my_uI σ2 498 79 (Int32.ofNat (zw s (zD s)))) 498 80 v3) := by
        obtain ⟨i2, i3, iP, i4, i5, i6, i7, i8⟩ := g2
        exact ⟨rq2_o i2 fk (fun c k hh => by omega), rq3_o i3 fk (fun c k hh => by omega), rqP_o iP fk (fun c k hh => by omega), rq4_o i4 fk (fun c k hh => by omega), rq5_o i5 fk (fun c k hh => by omega), rq6_o i6 fk (fun c k hh => by omega), rq7_o i7 fk (fun c k hh => by omega), (eqp_g fk (by omega)).trans i8.1, (eqp_g fk (by omega)).trans i8.2.1, fun n hn => (eqp_g fk (by omega)).trans (i8.2.2.1 n hn), by rw [my_uI_1, if_neg (by omega), uI_s]; rfl, by rw [uI_s, hv]; rfl⟩
      refine n_303 (n := 1) gk (by omega) (fun σ3 g3 f3 => ?_)
      rw [my_k0_v]
      exact fin g3 (eqp_tr f2 (eqp_tr (eqp_mo fk (fun c k hh => by unfold rmF; omega)) f3))
    · rw [if_neg h0] at fin
      exact fin g2 f2
  · have ho : opc x.1 = 19 := by rw [h1]; rfl
    have hn : hnd x = 1 := by unfold hnd; simp [h1]
    rw [ho] at fin ⊢
    rw [if_neg (by decide), if_neg (by decide), if_neg (by decide), if_neg (by decide), if_neg (by decide), if_neg (by decide), if_neg (by decide), if_neg (by decide), if_neg (by decide), if_neg (by decide), if_neg (by decide), if_neg (by decide), if_neg (by decide), if_neg (by decide), if_neg (by decide), if_neg (by decide), if_neg (by decide), if_neg (by decide), if_pos (by decide)]
    refine n_301 (s := zA r1 x s) g1 (by show zT s ≤ 8000; omega) (nd1' (by omega)) (by omega) (fun σ2 g2 f2 => ?_)
    rw [my_kI_v]
    refine n_300 g2 (by show zT s - 1 < 8000; omega) (by omega) (fun σ3 g3 f3 => ?_)
    rw [my_k0_v]
    exact fin g3 (eqp_tr f2 f3)
  · have ho : opc x.1 = 20 := by rw [h1]; rfl
    have hn : hnd x = 1 := by unfold hnd; simp [h1]
    rw [ho] at fin ⊢
    rw [if_neg (by decide), if_neg (by decide), if_neg (by decide), if_neg (by decide), if_neg (by decide), if_neg (by decide), if_neg (by decide), if_neg (by decide), if_neg (by decide), if_neg (by decide), if_neg (by decide), if_neg (by decide), if_neg (by decide), if_neg (by decide), if_neg (by decide), if_neg (by decide), if_neg (by decide), if_neg (by decide), if_neg (by decide), if_pos (by decide)]
    refine n_301 (s := zA r1 x s) g1 (by show zT s ≤ 8000; omega) (nd1' (by omega)) (by omega) (fun σ2 g2 f2 => ?_)
    rw [my_kI_v]
    refine n_300 g2 (by show zT s - 1 < 8000; omega) (by omega) (fun σ3 g3 f3 => ?_)
    rw [my_k0_v]
    exact fin g3 (eqp_tr f2 f3)
  · have ho : opc x.1 = x.1 := opc_s (by omega)
    have hn : hnd x = 2 := by unfold hnd; rw [if_neg (by omega), if_pos (by omega)]
    have nv : ∀ (v : Int32) {b : Nat}, v = Int32.ofNat b → b < 21 → ¬ Int32.ofNat (opc x.1) = v := fun v b hv hb hh => by
      rw [hv] at hh
      have := (oN_e (by omega) (by omega)).mp hh
      omega
    rw [if_neg (nv 1 (b := 1) rfl (by omega)), if_neg (nv 2 (b := 2) rfl (by omega)), if_neg (nv 3 (b := 3) rfl (by omega)), if_neg (nv 4 (b := 4) rfl (by omega)), if_neg (nv 5 (b := 5) rfl (by omega)), if_neg (nv 6 (b := 6) rfl (by omega)), if_neg (nv 7 (b := 7) rfl (by omega)), if_neg (nv 8 (b := 8) rfl (by omega)), if_neg (nv 9 (b := 9) rfl (by omega)), if_neg (nv 10 (b := 10) rfl (by omega)), if_neg (nv 11 (b := 11) rfl (by omega)), if_neg (nv 12 (b := 12) rfl (by omega)), if_neg (nv 13 (b := 13) rfl (by omega)), if_neg (nv 14 (b := 14) rfl (by omega)), if_neg (nv 15 (b := 15) rfl (by omega)), if_neg (nv 16 (b := 16) rfl (by omega)), if_neg (nv 17 (b := 17) rfl (by omega)), if_neg (nv 18 (b := 18) rfl (by omega)), if_neg (nv 19 (b := 19) rfl (by omega)), if_neg (nv 20 (b := 20) rfl (by omega))]
    have hbool : opc x.1 = 21 ∨ opc x.1 = 22 → (ztop (zA r1 x s) = 0 ∨ ztop (zA r1 x s) = 1) ∧ (ztop (zpop (zA r1 x s)) = 0 ∨ ztop (zpop (zA r1 x s)) = 1) := fun hh => by
      match P, e2, e3, e5, e6 with
      | [], _, _, h0, _ => simp at h0; omega
      | [_], _, _, h0, _ => simp at h0; omega
      | c :: c2 :: P0, e2, e3, e5, e6 =>
        obtain ⟨q1, q2, q3⟩ := ty_b h1 (e3 c2 (by simp)) (e3 c (by simp)) e6
        have m0 : mat c.1 (ztop s) := t7 0 c.1 (by rw [e2]; rfl)
        have m1 : mat c2.1 (zV s (zT s - 1 - 1)) := t7 1 c2.1 (by rw [e2]; rfl)
        have hc1 := q3.1 (by omega)
        exact ⟨m0 (by rw [← q2]; exact hc1), m1 hc1⟩
    refine n_308 (s := zA r1 x s) g1 (by omega) (by show zT s ≤ 8000; omega) (by show 2 ≤ zT s; omega) hbool (by omega) (fun σ2 g2 f2 => ?_)
    rw [my_k0_v]
    refine fin ?_ f2
    rw [zop_b (by omega)]
    exact g2
  · have ho : opc x.1 = 6 := by rw [h1]; rfl
    obtain ⟨bb', n1, n2, n3, n4, n5, n6, i, n7, n8, n9⟩ := named (by omega) (by omega)
    have jj := hj (by omega) (by omega)
    have hf : riF bb' = 0 := by
      rw [ty_200 h1] at e6
      obtain ⟨k', w1, w2, _⟩ := mns_s e6
      rw [jj] at w1
      cases w1
      exact kd0 n2 n3 w2
    rw [ho] at fin ⊢
    rw [if_neg (by decide), if_neg (by decide), if_neg (by decide), if_neg (by decide), if_neg (by decide), if_pos (by decide), n6, n8, e50, oN_n (by omega), n9, oN_n (by omega), g1.2.2.2.2.1 j bb' n1 hf]
    refine ⟨bdk (by omega) (by omega), bdk (by omega) (by omega), bdk (by omega) (by omega), bdk (by omega) (by omega), ?_⟩
    have gt := RMs_t g1 n1
    rw [hf, show kdf 0 = 0 from rfl] at gt
    refine n_300 gt.1 (by show zT s < 8000; omega) (by omega) (fun σ2 g2 f2 => ?_)
    rw [my_k0_v]
    exact fin g2 (eqp_tr (eqp_mo gt.2 (fun c k hh => by unfold rmF; omega)) f2)
  · have ho : opc x.1 = 7 := by rw [h1]; rfl
    obtain ⟨bb', n1, n2, n3, n4, n5, n6, i, n7, n8, n9⟩ := named (by omega) (by omega)
    have jj := hj (by omega) (by omega)
    have hn : hnd x = 1 := by unfold hnd; simp [h1]
    have hf : riF bb' = 0 := by
      match P, e5, e6 with
      | [], e5, _ => simp at e5; omega
      | c :: P0, _, e6 =>
        rw [ty_201 h1] at e6
        obtain ⟨k', w1, w2, _⟩ := mns_s (omin_0.mp e6).1
        rw [jj] at w1
        cases w1
        exact kd0 n2 n3 w2
    rw [ho] at fin ⊢
    rw [if_neg (by decide), if_neg (by decide), if_neg (by decide), if_neg (by decide), if_neg (by decide), if_neg (by decide), if_pos (by decide), n6, n8, e50, oN_n (by omega), n9, oN_n (by omega)]
    refine ⟨bdk (by omega) (by omega), ?_⟩
    refine n_301 (s := zA r1 x s) g1 (by show zT s ≤ 8000; omega) (nd1' (by omega)) (by omega) (fun σ2 g2 f2 => ?_)
    rw [my_kI_v]
    refine ⟨bdk (by omega) (by omega), ?_⟩
    have gg := RMs_G (v := ztop (zA r1 x s)) g2 n1 hf
    exact fin gg.1 (eqp_tr f2 (eqp_mo gg.2 (fun c k hh => by unfold rmF; omega)))
  · have ho : opc x.1 = 8 := by rw [h1]; rfl
    have := cell (Or.inl h1)
    rw [ho] at this ⊢
    rw [if_neg (by decide), if_neg (by decide), if_neg (by decide), if_neg (by decide), if_neg (by decide), if_neg (by decide), if_neg (by decide), if_pos (by decide)]
    exact this
  · have ho : opc x.1 = 9 := by rw [h1]; rfl
    have := cell (Or.inr h1)
    rw [ho] at this ⊢
    rw [if_neg (by decide), if_neg (by decide), if_neg (by decide), if_neg (by decide), if_neg (by decide), if_neg (by decide), if_neg (by decide), if_neg (by decide), if_pos (by decide)]
    exact this
  · have ho : opc x.1 = 10 := by rw [h1]; rfl
    have := call (Or.inl h1)
    rw [ho]
    rw [if_neg (by decide), if_neg (by decide), if_neg (by decide), if_neg (by decide), if_neg (by decide), if_neg (by decide), if_neg (by decide), if_neg (by decide), if_neg (by decide), if_pos (by decide)]
    exact this
  · have ho : opc x.1 = 10 := by rw [h1]; rfl
    have := call (Or.inr h1)
    rw [ho]
    rw [if_neg (by decide), if_neg (by decide), if_neg (by decide), if_neg (by decide), if_neg (by decide), if_neg (by decide), if_neg (by decide), if_neg (by decide), if_neg (by decide), if_pos (by decide)]
    exact this
  · exact absurd h1 h6
  · have ho : opc x.1 = 5 := by rw [h1]; rfl
    have := set5 (Or.inr h1)
    rw [ho]
    rw [if_neg (by decide), if_neg (by decide), if_neg (by decide), if_neg (by decide), if_pos (by decide)]
    exact this
  · exact absurd h1 h8
end MRS
