
/-! ===== the reference: a record in the log made anew ===== -/
theorem and_two (v : Int32) : v &&& 255 &&& 255 = v &&& 255 := by rw [Int32.and_assoc]; rfl
theorem ofs_and {n : Nat} (hn : n < 256) : Int32.ofNat n &&& 255 = Int32.ofNat n := by rw [and255, Nat.mod_eq_of_lt hn]
theorem e1_R {nm : List Nat} {X : List Int32} {k : Nat} : e1 (2, nm, X) k = bts (Int32.ofNat (2 + nm.length + X.length)) 2 0 ++ (bts 2 1 0 ++ (nmE (2, nm, X) ++ X)) := by
  unfold e1 eh
  rw [if_neg (show ¬ (2 : Nat) = 1 by decide), List.append_assoc]
theorem bts_1 {v : Int32} : bts v 1 0 = [bt v (Int32.ofNat 0)] := rfl
theorem bts_2 {v : Int32} : bts v 2 0 = [bt v (Int32.ofNat 0)] ++ [bt v (Int32.ofNat 1)] := rfl
def twF (c k : Nat) : Prop := rwF c k ∨ c = 554
section MRQ
variable {e : my_E} {d : Nat} {κ : my_K} {σ σ' : my_S} {Q : my_O → my_K → my_S → Prop} {E N : List Et} {y : Nat × Et} {S : List Nat → Prop} {Z : List Int32}
/-- the touched ones -/
theorem f_320t {v2 v3 : Int32} {cnt : Nat} (hW : LgW E) (hR : LgR E [] σ) (hP : PrR E σ) (hy : y ∈ rcp E) (hcn : cnt = g1 (eC y.2) 10) (hd : 3 ≤ d) : ∀ (rest : List Nat) (ns : List Nat) (N : List Et) (σ' : my_S), ns.length + rest.length = cnt → (∀ (k i : Nat), rest[k]? = some i → g2 (eC y.2) (11 + 2 * (ns.length + k)) = i) → (∀ i ∈ rest, i < nit E) → (∀ (k x : Nat), ns[k]? = some x → σ'.1 554 k = Int32.ofNat x) → CPI E N S → RNW E N σ' → eqp twF σ σ' → (∀ σ2, RNW E (cpL E rest N).1 σ2 → (∀ (k x : Nat), (ns ++ (cpL E rest N).2)[k]? = some x → σ2.1 554 k = Int32.ofNat x) → eqp twF σ σ2 → ys_320_29 e d (Int32.ofNat y.1) v2 v3 (Int32.ofNat cnt) (Int32.ofNat cnt) κ σ2 Q) → ys_320_29 e d (Int32.ofNat y.1) v2 v3 (Int32.ofNat cnt) (Int32.ofNat ns.length) κ σ' Q := by
  obtain ⟨r1, r2, r3, r4, r5, r6⟩ := rec_w hW hy
  intro rest
  induction rest with
  | nil =>
    intro ns N σ' hl hr hb hn hI h f hQ
    have hl : ns.length = cnt := by simpa using hl
    rw [hl]
    exact hQ σ' h (by rw [cpL, List.append_nil]; exact hn) f
  | cons i rest ih =>
    intro ns N σ' hl hr hb hn hI h f hQ
    rw [List.length_cons] at hl
    have hi := hb i List.mem_cons_self
    have hri := hr 0 i rfl
    rw [Nat.add_zero] at hri
    have cx : ∀ c k, twF c k → c = 555 ∨ (c = 498 ∧ (k = 104 ∨ k = 105)) ∨ c = 556 ∨ c = 554 := fun c k hh => by unfold twF rwF nyF at hh; omega
    have hR' : LgR E [] σ' := LgR_o hR f (fun c k hh => by have := cx c k hh; omega)
    have hP' : PrR E σ' := PrR_o hP f (fun c k hh => by have := cx c k hh; omega)
    unfold ys_320_29
    rw [if_pos ((oN_lt (by omega) (by omega)).mpr (by omega))]
    refine r_294 (j := ns.length) hW hR' r1 (by omega) (by omega) ?_
    rw [my_kI_v, hri]
    refine f_321 hW hR' hP' hI h hi (by omega) (fun σ1 w1 f1 => ?_)
    rw [my_kI_v, oN_n (by omega), oN_s]
    refine ⟨bdk (by omega) (by omega), ys_320_29_ok ?_⟩
    have f2 : eqp (fun c k => c = 554 ∧ k = ns.length) σ1 (my_uI σ1 554 ns.length (Int32.ofNat (cpI E N i).2)) := eqp_I eqp_rf ⟨rfl, rfl⟩
    have g2 : (my_uI σ1 554 ns.length (Int32.ofNat (cpI E N i).2)).1 554 ns.length = Int32.ofNat (cpI E N i).2 := uI_s
    generalize my_uI σ1 554 ns.length (Int32.ofNat (cpI E N i).2) = σ2 at f2 g2 ⊢
    have key := ih (ns ++ [(cpI E N i).2]) (cpI E N i).1 σ2 (by rw [List.length_append, List.length_singleton]; omega) (fun k q hq => ?_) (fun q hq => hb q (List.mem_cons_of_mem _ hq)) (fun k q hq => ?_) (CPI_i hW hI hi) (RNW_o w1 f2 (fun c k hh => by unfold rwF nyF; omega)) (eqp_tr f (eqp_tr (eqp_mo f1 (fun c k hh => Or.inl hh)) (eqp_mo f2 (fun c k hh => Or.inr hh.1)))) (fun σ3 x3 e3 f3 => hQ σ3 (by rw [cpL]; exact x3) (by rw [cpL]; rw [List.append_assoc] at e3; exact e3) f3)
    · rw [List.length_append, List.length_singleton] at key
      exact key
    · rw [List.length_append, List.length_singleton, show ns.length + 1 + k = ns.length + (k + 1) by omega]
      exact hr (k + 1) q (by rw [List.getElem?_cons_succ]; exact hq)
    · rcases gA hq with ⟨q1, q2⟩ | ⟨q1, q2⟩
      · rw [eqp_g f2 (by omega), eqp_g f1 (show ¬ rwF 554 k by unfold rwF nyF; omega)]
        exact hn k q q2
      · rw [q1, q2]
        exact g2
/-- the entries' numbers are written -/
theorem f_320w {ns : List Nat} (hns : ns.length ≤ 30) (hZ : Z.length + 2 * ns.length ≤ 20000) (hd : 2 ≤ d) (h5 : ∀ (k x : Nat), ns[k]? = some x → σ.1 554 k = Int32.ofNat x) (hQ : ∀ σ', NWy (Z ++ (ns.map Int32.ofNat).flatMap (fun w => bts w 2 0)) σ' → eqp nyF σ σ' → Q (.inl none) κ σ') : ∀ (m k : Nat) (σ' : my_S), k + m = ns.length → NWy (Z ++ ((ns.take k).map Int32.ofNat).flatMap (fun w => bts w 2 0)) σ' → eqp nyF σ σ' → ys_320_204 e d (Int32.ofNat ns.length) (Int32.ofNat k) κ σ' Q := by
  intro m
  induction m with
  | zero =>
    intro k σ' hk hw f
    have : k = ns.length := by omega
    subst this
    rw [List.take_length] at hw
    unfold ys_320_204
    rw [if_neg (fun hh => by have := (oN_lt (by omega) (by omega)).mp hh; omega)]
    exact hQ σ' hw f
  | succ m ih =>
    intro k σ' hk hw f
    have hkl : k < ns.length := by omega
    have hx := List.getElem?_eq_getElem hkl
    unfold ys_320_204
    rw [if_pos ((oN_lt (by omega) (by omega)).mpr hkl), oN_n (by omega), eqp_g f (show ¬ nyF 554 k by unfold nyF; omega), h5 k _ hx, oN_s]
    refine ⟨bdk (by omega) (by omega), g_323 hw (by rw [List.length_append, fm2_l, List.length_map, List.length_take]; omega) hd (fun σ1 w1 f1 => ?_)⟩
    rw [my_k0_v]
    refine ys_320_204_ok (ih (k + 1) σ1 (by omega) ?_ (eqp_tr f f1))
    rw [tk_s hkl, List.map_append, List.flatMap_append, ← List.append_assoc]
    simpa using w1
/-- its name is copied -/
theorem f_320n {v2 v3 v4 v5 : Int32} (hW : LgW E) (hR : LgR E [] σ) (hy : y ∈ rcp E) (hZ : Z.length + 20 ≤ 20000) (hd : 1 ≤ d) : ∀ (m k : Nat) (σ' : my_S), k + m = (nmE y.2).length → NWy (Z ++ (nmE y.2).take k) σ' → eqp nyF σ σ' → (∀ σ2, NWy (Z ++ nmE y.2) σ2 → eqp nyF σ σ2 → ys_320_115 e d (Int32.ofNat y.1) v2 v3 v4 v5 (Int32.ofNat (nmE y.2).length) κ σ2 Q) → ys_320_115 e d (Int32.ofNat y.1) v2 v3 v4 v5 (Int32.ofNat k) κ σ' Q := by
  obtain ⟨r1, r2, r3, r4, r5, r6⟩ := rec_w hW hy
  have hw := wfl_p hW.1 r1
  have hwL := hW.2
  have yb := (pse_b r1).2
  have h8 := hw.1.2
  have hl := nmE_l (x := y.2)
  intro m
  induction m with
  | zero =>
    intro k σ' hk hw f hQ
    have : k = (nmE y.2).length := by omega
    subst this
    rw [List.take_length] at hw
    exact hQ σ' hw f
  | succ m ih =>
    intro k σ' hk hw f hQ
    have hkl : k < (nmE y.2).length := by omega
    have hx := List.getElem?_eq_getElem hkl
    have b1 := lr_b hR r1 (i := k) (b := (nmE y.2)[k]) (by rw [List.getElem?_append_left hkl]; exact hx)
    have b0 := lr_n hR r1 (wfl_p hW.1 r1).1
    unfold ys_320_115
    rw [oN_n (show y.1 < 2147483648 by omega), eqp_g f (show ¬ nyF 547 y.1 by unfold nyF; omega), b0, if_neg (fun hh => by have := (oN_lt (by omega) (by omega)).mp hh; omega), oN_a, oN_n (by omega), eqp_g f (show ¬ nyF 547 (y.1 + k) by unfold nyF; omega), b1, oN_s]
    refine ⟨bdk (by omega) (by omega), bdk (by omega) (by omega), g_324 (x := (nmE y.2)[k]) hw (and_two _).symm (by rw [List.length_append, List.length_take]; omega) hd (fun σ1 w1 f1 => ?_)⟩
    rw [my_k0_v]
    rw [List.append_assoc, ← tk_s hkl] at w1
    exact ys_320_115_ok (ih (k + 1) σ1 (by omega) w1 (eqp_tr f f1) hQ)
theorem f_320v {ns : List Nat} (w : NWy Z σ) (hns : ns.length ≤ 30) (hZ : Z.length + 2 * ns.length ≤ 20000) (hd : 2 ≤ d) (h5 : ∀ (k x : Nat), ns[k]? = some x → σ.1 554 k = Int32.ofNat x) (hQ : ∀ σ', NWy (Z ++ (ns.map Int32.ofNat).flatMap (fun w => bts w 2 0)) σ' → eqp nyF σ σ' → Q (.inl none) κ σ') : ys_320_204 e d (Int32.ofNat ns.length) (Int32.ofNat 0) κ σ Q := f_320w hns hZ hd h5 hQ ns.length 0 σ (Nat.zero_add _) (by rw [List.take_zero]; simpa using w) eqp_rf
theorem f_320m {v2 v3 v4 v5 : Int32} (w : NWy Z σ) (hW : LgW E) (hR : LgR E [] σ) (hy : y ∈ rcp E) (hZ : Z.length + 20 ≤ 20000) (hd : 1 ≤ d) (hQ : ∀ σ2, NWy (Z ++ nmE y.2) σ2 → eqp nyF σ σ2 → ys_320_115 e d (Int32.ofNat y.1) v2 v3 v4 v5 (Int32.ofNat (nmE y.2).length) κ σ2 Q) : ys_320_115 e d (Int32.ofNat y.1) v2 v3 v4 v5 (Int32.ofNat 0) κ σ Q := f_320n hW hR hy hZ hd (nmE y.2).length 0 σ (Nat.zero_add _) (by rw [List.take_zero, List.append_nil]; exact w) eqp_rf hQ
theorem f_320 (hW : LgW E) (hT : LgT E) (hR : LgR E [] σ) (hP : PrR E σ) (hy : y ∈ rcp E) (hI : CPI E N S) (hS : ∀ x, S x → x ≠ eN y.2) (h : RNW E N σ) (hd : 4 ≤ d) (hQ : ∀ σ', RNW E (cpR E N y.2) σ' → eqp twF σ σ' → Q (.inl none) κ σ') : my_M e d 320 [.inr (.inr (some 498)), .inl (Int32.ofNat y.1)] κ σ Q := by
  obtain ⟨d, rfl⟩ := dS 1 (show 1 ≤ d by omega)
  obtain ⟨hO1, hO2, hO3, hO4, hO5⟩ := cpR_ok hW hT hI hy hS
  obtain ⟨r1, r2, r3, r4, r5, r6⟩ := rec_w hW hy
  have cx : ∀ c k, twF c k → c = 555 ∨ (c = 498 ∧ (k = 104 ∨ k = 105)) ∨ c = 556 ∨ c = 554 := fun c k hh => by unfold twF rwF nyF at hh; omega
  have hwN := (wfl_p hW.1 r1).1
  have h8 := hwN.2
  have hwL := hW.2
  have yb := (pse_b r1).2
  have hlen : (cpT E N (eC y.2)).2.length = g1 (eC y.2) 10 := by unfold cpT; rw [cpL_l, tjs_l]
  refine ys_320 ?_
  unfold ys_320_0
  refine r_289 hW hR r1 (by omega) ?_
  rw [my_kI_v]
  refine r_285y (i := 8) hW hR r1 (by omega) (by rw [show (8 : Int32) = Int32.ofNat 8 from rfl, oN_a]) (by omega) ?_
  rw [my_kI_v]
  refine f_321 hW hR hP hI h r4 (by omega) (fun σ1 w1 f1 => ?_)
  have f1' : eqp twF σ σ1 := eqp_mo f1 (fun c k hh => Or.inl hh)
  have hR1 : LgR E [] σ1 := LgR_o hR f1' (fun c k hh => by have := cx c k hh; omega)
  have hP1 : PrR E σ1 := PrR_o hP f1' (fun c k hh => by have := cx c k hh; omega)
  rw [my_kI_v]
  refine r_293 hW hR1 r1 (by omega) (by omega) ?_
  rw [my_kI_v]
  refine ys_320_29_ok (f_320t (σ := σ1) (S := S) (cnt := g1 (eC y.2) 10) hW hR1 hP1 hy rfl (by omega) (tjs (eC y.2)) [] (cpO E N (eC y.2)) σ1 (by rw [tjs_l]; simp) (fun k i hi => ?_) (tjs_m r6) (fun k x hx => by simp at hx) hO1 w1 eqp_rf (fun σ2 w2 e2 f2 => ?_))
  · have hk := (List.getElem?_eq_some_iff.mp hi).1
    rw [tjs_l] at hk
    unfold tjs at hi
    rw [List.getElem?_map, List.getElem?_range hk] at hi
    rw [List.length_nil, Nat.zero_add]
    exact Option.some.inj hi
  · rw [List.nil_append] at e2
    have f02 := eqp_tr f1' f2
    have hR2 : LgR E [] σ2 := LgR_o hR f02 (fun c k hh => by have := cx c k hh; omega)
    have hP2 : PrR E σ2 := PrR_o hP f02 (fun c k hh => by have := cx c k hh; omega)
    have c0 := lr_c (i := 0) hR2 r1 (by omega)
    rw [Nat.add_zero] at c0
    have fin : ∀ (v : Int32) (σ3 : my_S), v = Int32.ofNat (cpK E (cpT E N (eC y.2)).1 (eC y.2)).2 → RNW E (cpK E (cpT E N (eC y.2)).1 (eC y.2)).1 σ3 → eqp rwF σ2 σ3 → ys_320_85 e d (Int32.ofNat y.1) (Int32.ofNat (y.1 + 1 + (eN y.2).length)) (Int32.ofNat (cpI E N (g2 (eC y.2) 8)).2) (Int32.ofNat (g1 (eC y.2) 10)) v κ σ3 Q := by
      intro v σ3 hv w3 f3
      have f03 := eqp_tr f02 (eqp_mo f3 (fun c k hh => (Or.inl hh : twF c k)))
      have hR3 : LgR E [] σ3 := LgR_o hR f03 (fun c k hh => by have := cx c k hh; omega)
      have b0 := lr_n hR3 r1 hwN
      have cc : ∀ i, i < 11 → σ3.1 547 (y.1 + 1 + (eN y.2).length + i) = Int32.ofNat (g1 (eC y.2) i) := fun i hi => lr_c hR3 r1 (by omega)
      have cc0 := cc 0 (by omega)
      rw [Nat.add_zero] at cc0
      have hKW := CPI_W hW hO3
      have hKl := hKW.2
      have hbl : (en (cpK E (cpT E N (eC y.2)).1 (eC y.2)).1 0).length = els (cpK E (cpT E N (eC y.2)).1 (eC y.2)).1 := en_l
      have h5 : ∀ (k x : Nat), (cpT E N (eC y.2)).2[k]? = some x → σ3.1 554 k = Int32.ofNat x := fun k x hx => (eqp_g f3 (by unfold rwF nyF; omega)).trans (e2 k x hx)
      generalize hKK : cpK E (cpT E N (eC y.2)).1 (eC y.2) = KK at hv w3 hKW hKl hbl
      unfold ys_320_85
      rw [oN_n (show y.1 < 2147483648 by omega), b0, show (2 + Int32.ofNat (eN y.2).length + 11) + 2 * Int32.ofNat (g1 (eC y.2) 10) = Int32.ofNat (2 + (eN y.2).length + (11 + 2 * g1 (eC y.2) 10)) by rw [show (2 : Int32) = Int32.ofNat 2 from rfl, show (11 : Int32) = Int32.ofNat 11 from rfl, ← Int32.ofNat_mul, oN_a, oN_a, oN_a, Nat.add_assoc]]
      refine ⟨bdk (by omega) (by omega), g_323 w3.1 (by omega) (by omega) (fun σ4 w4 f4 => ?_)⟩
      rw [my_k0_v]
      refine g_324b w4 (by rw [List.length_append, bts_l]; omega) (by omega) (fun σ5 w5 f5 => ?_)
      rw [my_k0_v]
      have f35 := eqp_tr f4 f5
      have nl := nmE_l (x := y.2)
      have hR5 : LgR E [] σ5 := LgR_o hR3 f35 (fun c k hh => by unfold nyF at hh; omega)
      refine ys_320_115_ok (f_320m w5 hW hR5 hy (by simp only [List.length_append, bts_l]; omega) (by omega) (fun σ6 w6 f6 => ?_))
      have f36 := eqp_tr f35 f6
      have ny : ∀ {σx : my_S} {p : Nat}, eqp nyF σ3 σx → σx.1 547 p = σ3.1 547 p := fun {σx p} fx => eqp_g fx (by unfold nyF; omega)
      unfold ys_320_115
      rw [oN_n (show y.1 < 2147483648 by omega), oN_n (show y.1 + 1 + (eN y.2).length < 2147483648 by omega), ny f36, ny f36, b0, cc0, if_pos ((oN_lt (by omega) (by omega)).mpr (by omega))]
      refine ⟨bdk (by omega) (by omega), bdk (by omega) (by omega), g_324b w6 (by simp only [List.length_append, bts_l]; omega) (by omega) (fun σ7 w7 f7 => ?_)⟩
      rw [my_k0_v]
      refine g_323 w7 (by simp only [List.length_append, bts_l]; omega) (by omega) (fun σ8 w8 f8 => ?_)
      rw [my_k0_v]
      have f38 := eqp_tr f36 (eqp_tr f7 f8)
      -- five bytes
      have step : ∀ (k : Nat) (x : Int32) (Z : List Int32) (σa : my_S), k < 8 → Z.length < 20000 → x &&& 255 = Int32.ofNat (g1 (eC y.2) k) → NWy Z σa → eqp nyF σ3 σa → (∀ σb, NWy (Z ++ [x]) σb → eqp nyF σ3 σb → ys_320_164 e d (Int32.ofNat (y.1 + 1 + (eN y.2).length)) (Int32.ofNat (cpI E N (g2 (eC y.2) 8)).2) (Int32.ofNat (g1 (eC y.2) 10)) (Int32.ofNat (k + 1)) κ σb Q) → ys_320_164 e d (Int32.ofNat (y.1 + 1 + (eN y.2).length)) (Int32.ofNat (cpI E N (g2 (eC y.2) 8)).2) (Int32.ofNat (g1 (eC y.2) 10)) (Int32.ofNat k) κ σa Q := by
        intro k x Z σa hk hZ hx wa fa hq
        have hg := g1_lt (eC y.2) k
        unfold ys_320_164
        rw [if_pos ((oN_lt1 (b := 8) (c := 8) rfl (by omega) (by omega)).mpr hk), oN_a, oN_n (by omega), ny fa, cc k (by omega), oN_s]
        refine ⟨bdk (by omega) (by omega), g_324 (x := x) wa (by rw [hx, ofs_and hg]) hZ (by omega) (fun σb wb fb => ?_)⟩
        rw [my_k0_v]
        exact ys_320_164_ok (hq σb wb (eqp_tr fa fb))
      have z4 := g1_lt (eC y.2) 4
      have z5 := g1_lt (eC y.2) 5
      have z6 := g1_lt (eC y.2) 6
      have z7 := g1_lt (eC y.2) 7
      have z3 := g1_lt (eC y.2) 3
      have t4 : g2 (eC y.2) 4 = g1 (eC y.2) 4 + 256 * g1 (eC y.2) 5 := rfl
      have t6 : g2 (eC y.2) 6 = g1 (eC y.2) 6 + 256 * g1 (eC y.2) 7 := rfl
      refine ys_320_164_ok (step 3 (bt (Int32.ofNat (g1 (eC y.2) 3)) (Int32.ofNat 0)) _ σ8 (by omega) (by simp only [List.length_append, bts_l]; omega) (low8 z3).symm w8 f38 (fun σ9 w9 f9 => ?_))
      refine step 4 (bt (Int32.ofNat (g2 (eC y.2) 4)) (Int32.ofNat 0)) _ σ9 (by omega) (by simp only [List.length_append, bts_l, List.length_singleton]; omega) (by rw [bt_o (by omega) (by omega), show (2 : Nat) ^ (8 * 0) = 1 from rfl, Nat.div_one]; congr 1; omega) w9 f9 (fun σ10 w10 f10 => ?_)
      refine step 5 (bt (Int32.ofNat (g2 (eC y.2) 4)) (Int32.ofNat 1)) _ σ10 (by omega) (by simp only [List.length_append, bts_l, List.length_singleton]; omega) (by rw [bt_o (by omega) (by omega), show (2 : Nat) ^ (8 * 1) = 256 from rfl]; congr 1; omega) w10 f10 (fun σ11 w11 f11 => ?_)
      refine step 6 (bt (Int32.ofNat (g2 (eC y.2) 6)) (Int32.ofNat 0)) _ σ11 (by omega) (by simp only [List.length_append, bts_l, List.length_singleton]; omega) (by rw [bt_o (by omega) (by omega), show (2 : Nat) ^ (8 * 0) = 1 from rfl, Nat.div_one]; congr 1; omega) w11 f11 (fun σ12 w12 f12 => ?_)
      refine step 7 (bt (Int32.ofNat (g2 (eC y.2) 6)) (Int32.ofNat 1)) _ σ12 (by omega) (by simp only [List.length_append, bts_l, List.length_singleton]; omega) (by rw [bt_o (by omega) (by omega), show (2 : Nat) ^ (8 * 1) = 256 from rfl]; congr 1; omega) w12 f12 (fun σ13 w13 f13 => ?_)
      unfold ys_320_164
      rw [if_neg (show ¬ Int32.ofNat (7 + 1) < 8 by decide)]
      refine g_323 w13 (by simp only [List.length_append, bts_l, List.length_singleton]; omega) (by omega) (fun σ14 w14 f14 => ?_)
      rw [my_k0_v]
      refine g_324b w14 (by simp only [List.length_append, bts_l, List.length_singleton]; omega) (by omega) (fun σ15 w15 f15 => ?_)
      rw [my_k0_v]
      have f315 := eqp_tr f13 (eqp_tr f14 f15)
      have key := f_320v (e := e) (d := d) (κ := κ) (Q := Q) (ns := (cpT E N (eC y.2)).2) w15 (by rw [hlen]; exact r3) (by rw [hlen]; simp only [List.length_append, bts_l, List.length_singleton]; omega) (by omega) (fun k x hx => (eqp_g f315 (by unfold nyF; omega)).trans (h5 k x hx)) (fun σ16 w16 f16 => ?_)
      · rw [hlen] at key
        exact ys_320_204_ok key
      · have f316 := eqp_tr f315 f16
        refine hQ σ16 ?_ (eqp_tr f03 (eqp_mo f316 (fun c k hh => Or.inl (Or.inl hh))))
        unfold cpR
        rw [hKK]
        have si := (rcp_s (E := KK.1) (x := (2, eN y.2, cpC E N (eC y.2))) (show ¬ (2 : Nat) = 1 by decide)).1
        obtain ⟨w31, w32, w33, w34⟩ := w3
        have g556 : ∀ {i : Nat}, σ16.1 556 i = σ3.1 556 i := fun {i} => eqp_g f316 (by unfold nyF; omega)
        refine ⟨?_, ?_, fun i z hz => ?_, fun q u hu => ?_⟩
        · rw [en_a, Nat.zero_add, en, en, List.append_nil, e1_R]
          have hcl : (cpC E N (eC y.2)).length = 11 + 2 * g1 (eC y.2) 10 := by unfold cpC; rw [rcC_l, List.length_map, hlen]
          rw [hcl]
          have hnE : nmE (2, eN y.2, cpC E N (eC y.2)) = nmE y.2 := rfl
          rw [hnE]
          unfold cpC rcC
          rw [List.length_map, hlen, hKK, ← hv]
          simp only [bts_1, bts_2, List.append_assoc] at w16 ⊢
          exact w16
        · rw [eqp_g f316 (show ¬ nyF 498 105 by unfold nyF; omega), w32, nit_a]
          rfl
        · rw [g556]
          rcases w33 i z hz with hh | ⟨q, u, h1, h2, h3⟩
          · exact Or.inl hh
          · exact Or.inr ⟨q, u, h1, itp_ap h2, h3⟩
        · rw [si] at hu
          obtain ⟨i, z, h1, h2, h3⟩ := w34 q u hu
          exact ⟨i, z, h1, g556.trans h2, h3⟩
    unfold ys_320_29
    rw [if_neg (fun hh => by have := (oN_lt (by omega) (by omega)).mp hh; omega), oN_n (by omega), c0]
    refine ⟨bdk (by omega) (by omega), ?_⟩
    have g0 := g1_lt (eC y.2) 0
    by_cases c1 : g1 (eC y.2) 0 = 1
    · rw [c1, if_pos (show Int32.ofNat 1 = 1 from rfl)]
      refine r_285y (i := 1) hW hR2 r1 (by omega) (by rw [oN_s]) (by omega) ?_
      rw [my_kI_v]
      refine f_321 hW hR2 hP2 hO2 w2 (r5 c1) (by omega) (fun σ3 w3 f3 => ?_)
      rw [my_kI_v]
      have e4 : cpK E (cpT E N (eC y.2)).1 (eC y.2) = cpI E (cpT E N (eC y.2)).1 (g2 (eC y.2) 1) := if_pos c1
      exact fin _ σ3 (by rw [e4]) (by rw [e4]; exact w3) f3
    · rw [if_neg (fun hh => c1 ((oN_e1 (b := 1) (c := 1) rfl (by omega) (by omega)).mp hh))]
      have e4 : cpK E (cpT E N (eC y.2)).1 (eC y.2) = ((cpT E N (eC y.2)).1, 0) := if_neg c1
      exact fin _ σ2 (by rw [e4]; rfl) (by rw [e4]; exact w2) eqp_rf
end MRQ
