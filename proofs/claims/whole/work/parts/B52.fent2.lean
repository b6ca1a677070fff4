
/-! ===== the reference: entryOf ===== -/
section MRH
variable {As : List Ri} {I : List It} {rv : Nat} {e : my_E} {d : Nat} {κ : my_K} {σ σ' : my_S} {Q : my_O → my_K → my_S → Prop} {E : List Et} {T : List Int32} {K : List Nat} {G : List Int32}
theorem frE_a {k : Nat} {a : Ri} (ha : As[k]? = some a) : frE As I (K ++ [k]) = frE As I K ++ [(1, riN a, ib I (rwA (As.take k)).length a)] := by
  unfold frE
  rw [List.map_append, List.map_singleton, ha]
theorem frE_n : nit (frE As I K) = K.length := by
  induction K with
  | nil => rfl
  | cons k K ih =>
    show nit ((match As[k]? with | none => (1, [], []) | some a => (1, riN a, ib I (rwA (As.take k)).length a)) :: frE As I K) = _
    rw [nit, ih, List.length_cons]
    have : eK (match As[k]? with | none => ((1, [], []) : Et) | some a => (1, riN a, ib I (rwA (As.take k)).length a)) = 1 := by cases As[k]? <;> rfl
    rw [if_pos this]
    omega
theorem f_314c {k : Nat} {a : Ri} (h : LD As I rv σ) (ha : As[k]? = some a) (hb : G.length + (ib I (rwA (As.take k)).length a).length ≤ 20000) (hd : 1 ≤ d) (h99 : σ.1 498 99 = Int32.ofNat K.length) (hK : K.length < 60) (h90 : σ.1 498 90 = Int32.ofNat (nit E)) (hQ : ∀ σ', FRy (G ++ ib I (rwA (As.take k)).length a) σ' → eqp fyF σ σ' → Q (.inl (some (.inl ((Int32.ofNat (nit E) + (Int32.ofNat K.length + 1)) - 1)))) κ (my_uI (my_uI σ' 552 K.length (Int32.ofNat k)) 498 99 (Int32.ofNat (K.length + 1)))) : ∀ (m i : Nat) (σ' : my_S), i + m = (ib I (rwA (As.take k)).length a).length → FRy (G ++ (ib I (rwA (As.take k)).length a).take i) σ' → eqp fyF σ σ' → ys_314_121 e d (Int32.ofNat k) (Int32.ofNat (ib I (rwA (As.take k)).length a).length) (Int32.ofNat i) κ σ' Q := by
  obtain ⟨h1, h2, h3, h4, h5, h6, h7, h8⟩ := h
  have h42 := itsB_42 h1
  have hkA := (List.getElem?_eq_some_iff.mp ha).1
  obtain ⟨y1, y2, y3, y4, y5⟩ := h8.2.1 k a ha
  have hil := ib_l (I := I) ha
  have h61 := h7.2.2.2.1
  have bk : my_bd (Int32.ofNat k) 48 := bdk (by omega) (by omega)
  intro m
  induction m with
  | zero =>
    intro i σ' hi g f
    have : i = (ib I (rwA (As.take k)).length a).length := by omega
    subst this
    rw [List.take_length] at g
    unfold ys_314_121
    rw [if_neg (by rw [oN_lt (by omega) (by omega)]; omega), eqp_g f (by unfold fyF; omega), h99, oN_n (by omega), eqp_g f (by unfold fyF; omega), h90, oN_s]
    have := hQ σ' g f
    rw [oN_s] at this
    exact ⟨bdk (by omega) (by omega), this⟩
  | succ m ih =>
    intro i σ' hi g f
    have hil2 : i < (ib I (rwA (As.take k)).length a).length := by omega
    unfold ys_314_121
    rw [if_pos ((oN_lt (by omega) (by omega)).mpr hil2), oN_n (p := k) (by omega), eqp_g f (by unfold fyF; omega), y3, oN_a, oN_n (by omega), eqp_g f (by unfold fyF; omega), h8.1.2 _ _ (ib_e (I := I) ha hil2)]
    refine ⟨bk, bdk (by omega) (by omega), ?_⟩
    refine f_316 (x := (ib I (rwA (As.take k)).length a)[i]) g (by rw [Int32.and_assoc]; rfl) (by rw [List.length_append, List.length_take]; omega) hd (fun σ2 g2 f2 => ?_)
    rw [my_k0_v, oN_s]
    refine ys_314_121_ok (ih (i + 1) σ2 (by omega) ?_ (eqp_tr f f2))
    rw [tk_s hil2, ← List.append_assoc]
    exact g2
theorem f_314w {k : Nat} {a : Ri} (h : LD As I rv σ) (hF : FrR As I E K σ) (hK : K.length < 40) (h90 : σ.1 498 90 = Int32.ofNat (nit E)) (hE : nit E ≤ 860) (ha : As[k]? = some a) (hb : els (frE As I K) + 20 + (ib I (rwA (As.take k)).length a).length ≤ 20000) (hd : 5 ≤ d) (hQ : ∀ σ', FrR As I E (K ++ [k]) σ' → eqp frF σ σ' → Q (.inl (some (.inl (Int32.ofNat (nit E + K.length))))) κ σ') : ys_314_29 e d (Int32.ofNat k) (Int32.ofNat K.length) κ σ Q := by
  have hLD := h
  obtain ⟨h1, h2, h3, h4, h5, h6, h7, h8⟩ := h
  have h42 := itsB_42 h1
  have hkA := (List.getElem?_eq_some_iff.mp ha).1
  obtain ⟨y1, y2, y3, y4, y5⟩ := h8.2.1 k a ha
  have hil := ib_l (I := I) ha
  have h61 := h7.2.2.2.1
  have hl := (h1.2 a (List.mem_of_getElem? ha)).2.1
  have hl8 := hl.2
  have bk : my_bd (Int32.ofNat k) 48 := bdk (by omega) (by omega)
  obtain ⟨g1, g2, g3, g4, g5⟩ := hF
  have gl : (en (frE As I K) (nit E)).length = els (frE As I K) := en_l
  unfold ys_314_29
  rw [g2, if_neg (by rw [oN_lt (by omega) (by omega)]; omega), oN_n (p := k) (by omega), y2, y3, y4, oN_d]
  refine ⟨bk, bk, bk, u_278 hl (by omega) ?_⟩
  rw [my_kI_v, show (4 : Int32) = Int32.ofNat 4 from rfl, oN_a, oN_a]
  refine f_315 g1 (by omega) (by omega) (fun σ1 k1 f1 => ?_)
  rw [my_k0_v]
  refine f_316b k1 (by rw [List.length_append, bts_l]; omega) (by omega) (fun σ2 k2 f2 => ?_)
  rw [my_k0_v]
  have f12 : eqp fyF σ σ2 := eqp_tr f1 f2
  rw [eqp_g f12 (show ¬ fyF 498 90 by unfold fyF; omega), h90, eqp_g f12 (show ¬ fyF 498 99 by unfold fyF; omega), g2, oN_a]
  refine f_315 k2 (by rw [List.length_append, List.length_append, bts_l, bts_l]; omega) (by omega) (fun σ3 k3 f3 => ?_)
  rw [my_k0_v]
  have f13 : eqp fyF σ σ3 := eqp_tr f12 f3
  rw [(f13 530 k (by unfold fyF; omega)).2.1, y2]
  refine ⟨bk, f_317 hl k3 (by rw [List.length_append, List.length_append, List.length_append, bts_l, bts_l, bts_l]; omega) (by omega) (fun σ4 k4 f4 => ?_)⟩
  rw [my_k0_v]
  have f14 : eqp fyF σ σ4 := eqp_tr f13 f4
  have ld4 : LD As I rv σ4 := LD_o (LD_30 hLD) hLD f14 (fun c q hh => by unfold fyF at hh; unfold coF; omega)
  generalize hG : en (frE As I K) (nit E) ++ bts (Int32.ofNat (4 + (riN a).length + (ib I (rwA (As.take k)).length a).length)) 2 0 ++ bts 1 1 0 ++ bts (Int32.ofNat (nit E + K.length)) 2 0 ++ (bts (Int32.ofNat (riN a).length) 1 0 ++ ltb (riN a)) = G at k4
  have hGl : G.length = els (frE As I K) + 6 + (riN a).length := by
    rw [← hG, List.length_append, List.length_append, List.length_append, List.length_append, List.length_append, bts_l, bts_l, bts_l, bts_l, ltb_l, gl]
    omega
  refine ys_314_121_ok (f_314c (E := E) (K := K) (G := G) (σ := σ4) ld4 ha (by omega) (by omega) ((eqp_g f14 (show ¬ fyF 498 99 by unfold fyF; omega)).trans g2) (by omega) ((eqp_g f14 (show ¬ fyF 498 90 by unfold fyF; omega)).trans h90) (fun σ5 k5 f5 => ?_) _ 0 σ4 (Nat.zero_add _) (by rw [List.take_zero, List.append_nil]; exact k4) eqp_rf)
  rw [oN_s, oN_a, show nit E + (K.length + 1) = nit E + K.length + 1 by omega, oN_m]
  have f15 : eqp fyF σ σ5 := eqp_tr f14 f5
  have fx : eqp (fun c q => (c = 498 ∧ q = 99) ∨ c = 552) σ5 (my_uI (my_uI σ5 552 K.length (Int32.ofNat k)) 498 99 (Int32.ofNat (K.length + 1))) := eqp_I (eqp_I eqp_rf (Or.inr rfl)) (Or.inl ⟨rfl, rfl⟩)
  refine hQ _ ⟨?_, by rw [uI_s, List.length_append]; rfl, by rw [List.length_append, List.length_singleton]; omega, fun i q hq => ?_, fun q hq => ?_⟩ (eqp_tr (eqp_mo f15 (fun c q hh => Or.inl hh)) (eqp_mo fx (fun c q hh => by unfold frF; rcases hh with hh | hh; exact Or.inr (Or.inl hh); exact Or.inr (Or.inr hh))))
  · have e5 : en (frE As I (K ++ [k])) (nit E) = G ++ ib I (rwA (As.take k)).length a := by
      rw [frE_a ha, en_a, en, en, List.append_nil, frE_n, ← hG]
      unfold e1 eh nmE
      rw [if_pos rfl]
      simp only [List.append_assoc]
    rw [e5]
    exact FRy_o k5 fx (fun c q hh => by omega)
  · rcases gA hq with ⟨q1, q2⟩ | ⟨q1, q2⟩
    · rw [my_uI_1, if_neg (by omega), my_uI_1, if_neg (by omega), eqp_g f15 (by unfold fyF; omega)]
      exact g4 i q q2
    · rw [my_uI_1, if_neg (by omega), my_uI_1, if_pos ⟨rfl, q1⟩, q2]
  · rcases List.mem_append.mp hq with hq | hq
    · exact g5 q hq
    · rw [List.mem_singleton.mp hq]; exact hkA
end MRH
