
/-! ===== the reference: an entry in the log made anew ===== -/
theorem ltb_inj {l m : List Nat} (hl : isN l) (hm : isN m) (h : ltb l = ltb m) : l = m := by
  have hlen : l.length = m.length := by
    have := congrArg List.length h
    rw [ltb_l, ltb_l] at this
    exact this
  refine List.ext_getElem hlen (fun j h1 h2 => ?_)
  have q1 := ltb_g h1
  have q2 := ltb_g h2
  rw [h, q2] at q1
  have q3 := congrArg b8 (Option.some.inj q1)
  have o1 := hl.1 l[j] (List.getElem_mem h1)
  have o2 := hm.1 m[j] (List.getElem_mem h2)
  rw [b8_t (by omega), b8_t (by omega)] at q3
  omega
def nmX (z : Et) : List Int32 := nmE z ++ eC z
theorem nmX_l {z : Et} : (nmX z).length = 1 + (eN z).length + (eC z).length := by unfold nmX; rw [List.length_append, nmE_l]
theorem nmX_inj {z u : Et} (hz : isN (eN z)) (hu : isN (eN u)) : nmX z = nmX u ↔ eN z = eN u ∧ eC z = eC u := by
  constructor
  · intro h
    have h' : bt (Int32.ofNat (eN z).length) (Int32.ofNat 0) :: (ltb (eN z) ++ eC z) = bt (Int32.ofNat (eN u).length) (Int32.ofNat 0) :: (ltb (eN u) ++ eC u) := h
    have a := congrArg b8 (List.cons.inj h').1
    have b := (List.cons.inj h').2
    have l1 := hz.2
    have l2 := hu.2
    rw [b8_t (by omega), b8_t (by omega)] at a
    obtain ⟨c1, c2⟩ := List.append_inj b (by rw [ltb_l, ltb_l, a])
    exact ⟨ltb_inj hz hu c1, c2⟩
  · intro h
    unfold nmX nmE
    rw [h.1, h.2]
theorem aB_nmX {z : Et} (h : aB (eC z)) : aB (nmX z) := aB_a (aB_a aB_bts aB_b1s) h
/-- items of different keys have different numbers -/
theorem pse_2 : ∀ {E : List Et} {o : Nat}, (pse E o).map Prod.snd = E
  | [], _ => rfl
  | x :: r, o => by rw [pse, List.map_cons, pse_2]
theorem itp_u {N : List Et} {q q' : Nat} {u u' : Nat × Et} (hn : (N.map kyE).Nodup) (h : (itp N)[q]? = some u) (h' : (itp N)[q']? = some u') (h1 : eN u.2 = eN u'.2) (h2 : eC u.2 = eC u'.2) : q = q' := by
  have hp : N.Pairwise (fun a b => kyE a ≠ kyE b) := List.pairwise_map.mp hn
  have hp2 : (pse N 0).Pairwise (fun a b => kyE a.2 ≠ kyE b.2) := by
    have : ((pse N 0).map Prod.snd).Pairwise (fun a b => kyE a ≠ kyE b) := by rw [pse_2]; exact hp
    exact (List.pairwise_map (f := Prod.snd) (R := fun a b => kyE a ≠ kyE b)).mp this
  have hp3 : (itp N).Pairwise (fun a b => kyE a.2 ≠ kyE b.2) := List.Pairwise.sublist List.filter_sublist hp2
  rw [List.pairwise_iff_getElem] at hp3
  obtain ⟨l1, e1⟩ := List.getElem?_eq_some_iff.mp h
  obtain ⟨l2, e2⟩ := List.getElem?_eq_some_iff.mp h'
  have k1 := (itp_m (List.mem_of_getElem? h)).2
  have k2 := (itp_m (List.mem_of_getElem? h')).2
  have hk : kyE u.2 = kyE u'.2 := by
    unfold kyE
    rw [if_pos k1, if_pos k2]
    exact Prod.ext (k1.trans k2.symm) (Prod.ext h1 h2)
  rcases Nat.lt_trichotomy q q' with hh | hh | hh
  · exfalso
    have := hp3 q q' l1 l2 hh
    rw [e1, e2] at this
    exact this hk
  · exact hh
  · exfalso
    have := hp3 q' q l2 l1 hh
    rw [e1, e2] at this
    exact this hk.symm
/-- what was renewed of E is N -/
def RNW (E N : List Et) (σ : my_S) : Prop := NWy (en N 0) σ ∧ σ.1 498 105 = Int32.ofNat (nit N) ∧ (∀ (i : Nat) z, (itp E)[i]? = some z → σ.1 556 i = Int32.ofInt (-1) ∨ ∃ (q : Nat) (u : Nat × Et), σ.1 556 i = Int32.ofNat q ∧ (itp N)[q]? = some u ∧ eN u.2 = eN z.2 ∧ eC u.2 = eC z.2) ∧ ∀ (q : Nat) u, (itp N)[q]? = some u → ∃ (i : Nat) (z : Nat × Et), (itp E)[i]? = some z ∧ σ.1 556 i = Int32.ofNat q ∧ eN z.2 = eN u.2 ∧ eC z.2 = eC u.2
def rwF (c k : Nat) : Prop := nyF c k ∨ c = 556 ∨ (c = 498 ∧ k = 105)
section MAL
variable {e : my_E} {d : Nat} {κ : my_K} {σ σ' : my_S} {Q : my_O → my_K → my_S → Prop} {E N : List Et} {z y : Nat × Et} {i j : Nat} {S : List Nat → Prop}
theorem RNW_o {F : Nat → Nat → Prop} (h : RNW E N σ) (f : eqp F σ σ') (hF : ∀ c k, F c k → ¬ rwF c k) : RNW E N σ' := by
  obtain ⟨h1, h2, h3, h4⟩ := h
  have g : ∀ {k : Nat}, σ'.1 556 k = σ.1 556 k := eqp_g f (fun hh => hF _ _ hh (Or.inr (Or.inl rfl)))
  refine ⟨NWy_o h1 f (fun c k hh => ?_), (eqp_g f (fun hh => hF _ _ hh (Or.inr (Or.inr ⟨rfl, rfl⟩)))).trans h2, fun i z hz => ?_, fun q u hu => ?_⟩
  · have := hF c k hh
    unfold rwF nyF at this
    omega
  · rw [g]; exact h3 i z hz
  · obtain ⟨i, z, a, b, c⟩ := h4 q u hu
    exact ⟨i, z, a, g.trans b, c⟩
theorem f_322l (hW : LgW E) (hR : LgR E [] σ) (hP : PrR E σ) (hj : (itp E)[j]? = some z) (hi : (itp E)[i]? = some y) (hl : (nmX z.2).length = (nmX y.2).length) (hQ : Q (.inl (some (.inl (bI (decide (nmX z.2 = nmX y.2)))))) κ σ) : ∀ (m k : Nat), k + m = (nmX z.2).length → (nmX z.2).take k = (nmX y.2).take k → ys_322_38 e d (Int32.ofNat j) (Int32.ofNat i) 1 (Int32.ofNat k) κ σ Q := by
  have hnW := LgW_n hW
  have hwL := hW.2
  have hjl := (List.getElem?_eq_some_iff.mp hj).1
  have hil := (List.getElem?_eq_some_iff.mp hi).1
  have zm := itp_m (List.mem_of_getElem? hj)
  have ym := itp_m (List.mem_of_getElem? hi)
  have zb := (pse_b zm.1).2
  have yb := (pse_b ym.1).2
  have zw := wfl_p hW.1 zm.1
  have yw := wfl_p hW.1 ym.1
  obtain ⟨p1, p2⟩ := hP.1.2 j z hj
  obtain ⟨p3, p4⟩ := hP.1.2 i y hi
  have hzl := nmX_l (z := z.2)
  have hyl := nmX_l (z := y.2)
  have bj := bdk (k := j) (m := 2600) (by omega) (by omega)
  have bi := bdk (k := i) (m := 2600) (by omega) (by omega)
  intro m
  induction m with
  | zero =>
    intro k hk ht
    have hkl : k = (nmX z.2).length := by omega
    subst hkl
    rw [List.take_length, hl, List.take_length] at ht
    unfold ys_322_38
    rw [if_neg (by decide), oN_n (by omega), p1, p2, oN_sub (by omega), if_neg (fun hh => by have := (oN_lt (by omega) (by omega)).mp hh; omega)]
    refine ⟨bj, bj, ?_⟩
    unfold ys_322_103
    rw [decide_eq_true ht] at hQ
    exact ⟨Or.inr rfl, hQ⟩
  | succ m ih =>
    intro k hk ht
    have hk1 : k < (nmX z.2).length := by omega
    have hk2 : k < (nmX y.2).length := by omega
    have x1 := List.getElem?_eq_getElem hk1
    have x2 := List.getElem?_eq_getElem hk2
    have b1 := lr_b hR zm.1 x1
    have b2 := lr_b hR ym.1 x2
    have i1 : isB (nmX z.2)[k] := aB_nmX zw.2.2.1 _ (List.getElem_mem hk1)
    have i2 : isB (nmX y.2)[k] := aB_nmX yw.2.2.1 _ (List.getElem_mem hk2)
    unfold ys_322_38
    rw [if_neg (by decide), oN_n (show j < 2147483648 by omega), oN_n (show i < 2147483648 by omega), p1, p2, p3, oN_sub (by omega), if_pos ((oN_lt (by omega) (by omega)).mpr (by omega)), oN_a, oN_a, oN_n (by omega), oN_n (by omega), b1, b2]
    refine ⟨bj, bj, bj, bdk (by omega) (by omega), bi, bdk (by omega) (by omega), ?_⟩
    unfold ys_322_96
    rw [oN_s]
    by_cases c : (nmX z.2)[k] = (nmX y.2)[k]
    · rw [if_pos (by rw [c])]
      refine ys_322_38_ok (ih (k + 1) (by omega) ?_)
      rw [tk_s hk1, tk_s hk2, ht, c]
    · rw [if_neg (fun hh => c ((isB_e i1 i2).mp hh))]
      refine ys_322_38_ok ?_
      unfold ys_322_38 ys_322_103
      rw [if_pos rfl]
      rw [decide_eq_false (fun hh => c (by simp only [hh]))] at hQ
      exact ⟨Or.inl rfl, hQ⟩
theorem f_322 (hW : LgW E) (hR : LgR E [] σ) (hP : PrR E σ) (hj : (itp E)[j]? = some z) (hi : (itp E)[i]? = some y) (hd : 1 ≤ d) (hQ : Q (.inl (some (.inl (bI (decide (eN z.2 = eN y.2 ∧ eC z.2 = eC y.2)))))) κ σ) : my_M e d 322 [.inr (.inr (some 498)), .inl (Int32.ofNat j), .inl (Int32.ofNat i)] κ σ Q := by
  obtain ⟨d, rfl⟩ := dS 1 hd
  have hnW := LgW_n hW
  have hwL := hW.2
  have hjl := (List.getElem?_eq_some_iff.mp hj).1
  have hil := (List.getElem?_eq_some_iff.mp hi).1
  have zm := itp_m (List.mem_of_getElem? hj)
  have ym := itp_m (List.mem_of_getElem? hi)
  have zb := (pse_b zm.1).2
  have yb := (pse_b ym.1).2
  have zw := wfl_p hW.1 zm.1
  have yw := wfl_p hW.1 ym.1
  obtain ⟨p1, p2⟩ := hP.1.2 j z hj
  obtain ⟨p3, p4⟩ := hP.1.2 i y hi
  have hzl := nmX_l (z := z.2)
  have hyl := nmX_l (z := y.2)
  have bj := bdk (k := j) (m := 2600) (by omega) (by omega)
  have bi := bdk (k := i) (m := 2600) (by omega) (by omega)
  have hQ' : Q (.inl (some (.inl (bI (decide (nmX z.2 = nmX y.2)))))) κ σ := by
    rw [show decide (nmX z.2 = nmX y.2) = decide (eN z.2 = eN y.2 ∧ eC z.2 = eC y.2) from decide_eq_decide.mpr (nmX_inj zw.1 yw.1)]
    exact hQ
  refine ys_322 ?_
  unfold ys_322_0
  rw [oN_n (show j < 2147483648 by omega), oN_n (show i < 2147483648 by omega), p1, p2, p3, p4, oN_sub (by omega), oN_sub (by omega)]
  refine ⟨bj, bj, bi, bi, ?_⟩
  unfold ys_322_34
  by_cases c : (nmX z.2).length = (nmX y.2).length
  · rw [if_pos ((oN_e (by omega) (by omega)).mpr (by omega))]
    exact ys_322_38_ok (f_322l hW hR hP hj hi c hQ' (nmX z.2).length 0 (Nat.zero_add _) (by rw [List.take_zero, List.take_zero]))
  · rw [if_neg (fun hh => by have := (oN_e (by omega) (by omega)).mp hh; omega)]
    refine ys_322_38_ok ?_
    unfold ys_322_38 ys_322_103
    rw [if_pos rfl]
    rw [decide_eq_false (fun hh => c (by rw [hh]))] at hQ'
    exact ⟨Or.inl rfl, hQ'⟩
/-- the bytes of the entry are copied -/
theorem f_321c {Z : List Int32} (hW : LgW E) (hR : LgR E [] σ) (hP : PrR E σ) (hj : (itp E)[j]? = some z) (hZ : Z.length + (nmX z.2).length ≤ 20000) (hd : 1 ≤ d) (hQ : ∀ σ', NWy (Z ++ nmX z.2) σ' → eqp nyF σ σ' → Q (.inl (some (.inl (((σ'.1 498 105) + 1) - 1)))) κ (my_uI (my_uI σ' 556 j (σ'.1 498 105)) 498 105 ((σ'.1 498 105) + 1))) : ∀ (m k : Nat) (σ' : my_S), k + m = (nmX z.2).length → NWy (Z ++ (nmX z.2).take k) σ' → eqp nyF σ σ' → ys_321_80 e d (Int32.ofNat j) (Int32.ofNat (z.1 + k)) κ σ' Q := by
  have hnW := LgW_n hW
  have hwL := hW.2
  have hjl := (List.getElem?_eq_some_iff.mp hj).1
  have zm := itp_m (List.mem_of_getElem? hj)
  have zb := (pse_b zm.1).2
  obtain ⟨p1, p2⟩ := hP.1.2 j z hj
  have hzl := nmX_l (z := z.2)
  have bj := bdk (k := j) (m := 2600) (by omega) (by omega)
  intro m
  induction m with
  | zero =>
    intro k σ' hk hw f
    have hkl : k = (nmX z.2).length := by omega
    subst hkl
    rw [List.take_length] at hw
    unfold ys_321_80
    rw [oN_n (show j < 2147483648 by omega), eqp_g f (show ¬ nyF 549 j by unfold nyF; omega), p2, if_neg (fun hh => by have := (oN_lt (by omega) (by omega)).mp hh; omega)]
    exact ⟨bj, bj, hQ σ' hw f⟩
  | succ m ih =>
    intro k σ' hk hw f
    have hk1 : k < (nmX z.2).length := by omega
    have x1 := List.getElem?_eq_getElem hk1
    have b1 := lr_b hR zm.1 x1
    unfold ys_321_80
    rw [oN_n (show j < 2147483648 by omega), eqp_g f (show ¬ nyF 549 j by unfold nyF; omega), p2, if_pos ((oN_lt (by omega) (by omega)).mpr (by omega)), oN_n (by omega), eqp_g f (show ¬ nyF 547 (z.1 + k) by unfold nyF; omega), b1, oN_s]
    refine ⟨bj, bdk (by omega) (by omega), g_324 (x := (nmX z.2)[k]) hw (by rw [Int32.and_assoc]; rfl) (by rw [List.length_append, List.length_take]; omega) hd (fun σ1 w1 f1 => ?_)⟩
    rw [my_k0_v]
    rw [List.append_assoc, ← tk_s hk1] at w1
    exact ys_321_80_ok (ih (k + 1) σ1 (by omega) w1 (eqp_tr f f1))
theorem e1_X {nm : List Nat} {X : List Int32} {k : Nat} : e1 (1, nm, X) k = bts (Int32.ofNat (4 + nm.length + X.length)) 2 0 ++ (bts 1 1 0 ++ (bts (Int32.ofNat k) 2 0 ++ nmX (1, nm, X))) := by
  unfold e1 eh nmX
  rw [if_pos rfl, List.append_assoc, List.append_assoc]
theorem f_321 (hW : LgW E) (hR : LgR E [] σ) (hP : PrR E σ) (hI : CPI E N S) (h : RNW E N σ) (hjn : j < nit E) (hd : 3 ≤ d) (hQ : ∀ σ', RNW E (cpI E N j).1 σ' → eqp rwF σ σ' → Q (.inl (some (.inl (Int32.ofNat (cpI E N j).2)))) κ σ') : my_M e d 321 [.inr (.inr (some 498)), .inl (Int32.ofNat j)] κ σ Q := by
  obtain ⟨d, rfl⟩ := dS 1 (show 1 ≤ d by omega)
  obtain ⟨z, hj, hze⟩ := itp_e hjn
  have hnW := LgW_n hW
  have hwL := hW.2
  have hjl := (List.getElem?_eq_some_iff.mp hj).1
  have zm := itp_m (List.mem_of_getElem? hj)
  have zb := (pse_b zm.1).2
  have zw := wfl_p hW.1 zm.1
  have hNW := CPI_W hW hI
  have hnN := LgW_n hNW
  have hNl := hNW.2
  have hzl := nmX_l (z := z.2)
  have bj := bdk (k := j) (m := 2600) (by omega) (by omega)
  have hCI : cpI E N j = adE N (eN z.2) (eC z.2) := by unfold cpI; rw [hze]
  obtain ⟨n1, n2, n3, n4⟩ := h
  obtain ⟨p1, p2⟩ := hP.1.2 j z hj
  have lp : ∀ (m i : Nat), i + m = (itp E).length → (∀ i' y, i' < i → (itp E)[i']? = some y → σ.1 556 i' = Int32.ofInt (-1) ∨ ¬ (eN z.2 = eN y.2 ∧ eC z.2 = eC y.2)) → ys_321_2 e d (Int32.ofNat j) (Int32.ofNat i) κ σ Q := by
    intro m
    induction m with
    | zero =>
      intro i hi hno
      have hil : i = (itp E).length := by omega
      have hef : efd (itp N) (eN z.2) (eC z.2) (itp N).length 0 = none := by
        cases hq : efd (itp N) (eN z.2) (eC z.2) (itp N).length 0 with
        | none => rfl
        | some q =>
          exfalso
          obtain ⟨u, hu, hu1, hu2⟩ := efd_j hq
          obtain ⟨i', y, hy, hy1, hy2, hy3⟩ := n4 q u hu
          have hq1 := (List.getElem?_eq_some_iff.mp hu).1
          rcases hno i' y (by have := (List.getElem?_eq_some_iff.mp hy).1; omega) hy with hh | hh
          · rw [hy1] at hh
            have := congrArg Int32.toInt hh
            rw [oN_i (by omega), show (Int32.ofInt (-1)).toInt = -1 from rfl] at this
            omega
          · exact hh ⟨by rw [hy2, hu1], by rw [hy3, hu2]⟩
      have hCI2 : cpI E N j = (N ++ [(1, eN z.2, eC z.2)], nit N) := by
        rw [hCI]
        unfold adE
        rw [hef]
      have hCW := CPI_W hW (CPI_i hW hI hjn)
      rw [hCI2] at hCW
      have hCl := hCW.2
      rw [els_a, els, els] at hCl
      have hel : el (1, eN z.2, eC z.2) = 5 + 1 + (eN z.2).length + (eC z.2).length := rfl
      unfold ys_321_2
      rw [hP.1.1, if_neg (fun hh => by have := (oN_lt (by omega) (by omega)).mp hh; omega), oN_n (show j < 2147483648 by omega), p1, p2]
      have ev : (3 + Int32.ofNat (z.1 + 1 + (eN z.2).length + (eC z.2).length)) - Int32.ofNat z.1 = Int32.ofNat (4 + (eN z.2).length + (eC z.2).length) := by
        rw [show (3 : Int32) = Int32.ofNat 3 from rfl, oN_a, oN_sub (by omega)]
        congr 1
        omega
      rw [ev]
      have hbl : (en N 0).length = els N := en_l
      refine ⟨bj, bj, g_323 n1 (by omega) (by omega) (fun σ1 w1 f1 => ?_)⟩
      rw [my_k0_v]
      refine g_324b w1 (by rw [List.length_append, bts_l]; omega) (by omega) (fun σ2 w2 f2 => ?_)
      rw [my_k0_v]
      have f12 := eqp_tr f1 f2
      rw [eqp_g f12 (show ¬ nyF 498 105 by unfold nyF; omega), n2]
      refine g_323 w2 (by rw [List.length_append, List.length_append, bts_l, bts_l]; omega) (by omega) (fun σ3 w3 f3 => ?_)
      rw [my_k0_v]
      have f13 := eqp_tr f12 f3
      refine ⟨bj, ?_⟩
      rw [eqp_g f13 (show ¬ nyF 548 j by unfold nyF; omega), p1]
      have hR3 : LgR E [] σ3 := LgR_o hR f13 (fun c k hh => by unfold nyF at hh; omega)
      have hP3 : PrR E σ3 := PrR_o hP f13 (fun c k hh => by unfold nyF at hh; omega)
      refine ys_321_80_ok (f_321c (σ := σ3) (Z := en N 0 ++ bts (Int32.ofNat (4 + (eN z.2).length + (eC z.2).length)) 2 0 ++ bts 1 1 0 ++ bts (Int32.ofNat (nit N)) 2 0) hW hR3 hP3 hj (by simp only [List.length_append, bts_l]; omega) (by omega) (fun σ4 w4 f4 => ?_) (nmX z.2).length 0 σ3 (Nat.zero_add _) (by rw [List.take_zero, List.append_nil]; exact w3) eqp_rf)
      have f14 := eqp_tr f13 f4
      have g5 : σ4.1 498 105 = Int32.ofNat (nit N) := (eqp_g f14 (by unfold nyF; omega)).trans n2
      rw [g5, oN_s, oN_m]
      have f5 : eqp (fun c k => c = 556 ∨ (c = 498 ∧ k = 105)) σ4 (my_uI (my_uI σ4 556 j (Int32.ofNat (nit N))) 498 105 (Int32.ofNat (nit N + 1))) := eqp_I (eqp_I eqp_rf (Or.inl rfl)) (Or.inr ⟨rfl, rfl⟩)
      rw [hCI2] at hQ
      have hzz : nmX (1, eN z.2, eC z.2) = nmX z.2 := rfl
      have s1 := (itp_s (E := N) (x := (1, eN z.2, eC z.2)) rfl).1
      have r6 : ∀ i', i' ≠ j → (my_uI (my_uI σ4 556 j (Int32.ofNat (nit N))) 498 105 (Int32.ofNat (nit N + 1))).1 556 i' = σ.1 556 i' := fun i' hne => by
        rw [my_uI_1, if_neg (by omega), my_uI_1, if_neg (by omega)]
        exact eqp_g f14 (by unfold nyF; omega)
      have r7 : (my_uI (my_uI σ4 556 j (Int32.ofNat (nit N))) 498 105 (Int32.ofNat (nit N + 1))).1 556 j = Int32.ofNat (nit N) := by
        rw [my_uI_1, if_neg (by omega)]
        exact uI_s
      have hlast : (itp (N ++ [(1, eN z.2, eC z.2)]))[nit N]? = some (els N + hL1 (1, eN z.2, eC z.2), (1, eN z.2, eC z.2)) := by
        rw [s1, List.getElem?_append_right (by rw [itp_l]; omega), itp_l, Nat.sub_self]
        rfl
      refine hQ _ ⟨?_, ?_, fun i' y hy => ?_, fun q u hu => ?_⟩ (eqp_tr (eqp_mo f14 (fun c k hh => Or.inl hh)) (eqp_mo f5 (fun c k hh => Or.inr hh)))
      · refine NWy_o (E := en (N ++ [(1, eN z.2, eC z.2)]) 0) ?_ f5 (fun c k hh => by omega)
        rw [en_a, Nat.zero_add, en, en, List.append_nil, e1_X, hzz]
        rw [List.append_assoc, List.append_assoc, List.append_assoc] at w4
        exact w4
      · rw [uI_s, nit_a]
        rfl
      · by_cases c : i' = j
        · subst c
          rw [hj] at hy
          cases hy
          exact Or.inr ⟨nit N, _, r7, hlast, rfl, rfl⟩
        · rw [r6 i' c]
          rcases n3 i' y hy with hh | ⟨q, u, h1, h2, h3⟩
          · exact Or.inl hh
          · exact Or.inr ⟨q, u, h1, itp_ap h2, h3⟩
      · rw [s1] at hu
        rcases gA hu with ⟨q1, q2⟩ | ⟨q1, q2⟩
        · obtain ⟨i', y, h1, h2, h3, h4⟩ := n4 q u q2
          by_cases c : i' = j
          · exfalso
            subst c
            rw [hj] at h1
            cases h1
            have := efd_0 hef q u (by omega) (by omega) q2
            exact this ⟨h3.symm, h4.symm⟩
          · exact ⟨i', y, h1, (r6 i' c).trans h2, h3, h4⟩
        · rw [itp_l] at q1
          rw [q1, q2]
          exact ⟨j, z, hj, r7, rfl, rfl⟩
    | succ m ih =>
      intro i hi hno
      have hil : i < (itp E).length := by omega
      have hy := List.getElem?_eq_getElem hil
      generalize (itp E)[i] = y at hy
      unfold ys_321_2
      rw [hP.1.1, if_pos ((oN_lt (by omega) (by omega)).mpr hil), oN_n (show i < 2147483648 by omega)]
      refine ⟨bdk (by omega) (by omega), ?_⟩
      rcases n3 i y hy with hh | ⟨q, u, h1, h2, h3, h4⟩
      · rw [hh, if_pos (by decide)]
        unfold ys_321_35
        rw [oN_s]
        refine ys_321_2_ok (ih (i + 1) (by omega) (fun i' y' hi' hy' => ?_))
        by_cases c : i' = i
        · subst c; exact Or.inl hh
        · exact hno i' y' (by omega) hy'
      · have hql := (List.getElem?_eq_some_iff.mp h2).1
        rw [h1, if_neg (oN_0 (by omega))]
        refine f_322 hW hR hP hj hy (by omega) ?_
        rw [my_kI_v]
        by_cases c : eN z.2 = eN y.2 ∧ eC z.2 = eC y.2
        · rw [decide_eq_true c, if_neg (by decide), h1]
          refine ⟨bdk (by omega) (by omega), ?_⟩
          have hCI2 : cpI E N j = (N, q) := by
            rw [hCI]
            unfold adE
            cases hf : efd (itp N) (eN z.2) (eC z.2) (itp N).length 0 with
            | none => exact absurd ⟨h3.trans c.1.symm, h4.trans c.2.symm⟩ (efd_0 hf q u (by omega) (by omega) h2)
            | some q' =>
              obtain ⟨u', hu', e1', e2'⟩ := efd_j hf
              have := itp_u hI.1 hu' h2 (by rw [e1', h3, c.1]) (by rw [e2', h4, c.2])
              rw [this]
          rw [hCI2] at hQ
          exact hQ σ ⟨n1, n2, n3, n4⟩ eqp_rf
        · rw [decide_eq_false c, if_pos (show bI false = 0 from rfl)]
          unfold ys_321_35
          rw [oN_s]
          refine ys_321_2_ok (ih (i + 1) (by omega) (fun i' y' hi' hy' => ?_))
          by_cases c2 : i' = i
          · subst c2
            rw [hy] at hy'
            cases hy'
            exact Or.inr c
          · exact hno i' y' (by omega) hy'
  refine ys_321 ?_
  unfold ys_321_0
  exact ys_321_2_ok (lp (itp E).length 0 (Nat.zero_add _) (fun i' y hi' _ => by omega))
end MAL
