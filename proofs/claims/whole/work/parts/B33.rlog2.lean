
/-! ===== the reference's log: names, records, fields ===== -/
def fP (o : Option (Nat × Et)) : Int32 := match o with
  | none => Int32.ofInt (-1)
  | some y => Int32.ofNat y.1
section MLS
variable {e : my_E} {d : Nat} {κ : my_K} {σ σ' : my_S} {Q : my_O → my_K → my_S → Prop} {E : List Et} {T : List Int32} {y : Nat × Et} {nm : List Nat}
theorem b1s_m : ∀ {L : List Int32}, b1s L = L.map (fun x => bt x (Int32.ofNat 0))
  | [] => rfl
  | x :: L => by
    show bts x 1 0 ++ b1s L = _
    rw [b1s_m]
    rfl
theorem ltb_g {l : List Nat} {j : Nat} (h : j < l.length) : (ltb l)[j]? = some (bt (Int32.ofNat (l[j] + 96)) (Int32.ofNat 0)) := by
  unfold ltb
  rw [b1s_m, List.map_map, List.getElem?_map, List.getElem?_eq_getElem h]
  rfl
theorem lr_b {i : Nat} {b : Int32} (h : LgR E T σ) (hy : y ∈ pse E 0) (hb : (nmE y.2 ++ eC y.2)[i]? = some b) : σ.1 547 (y.1 + i) = b &&& 255 := by
  have h1 := (pse_b hy).1 i b hb
  have h2 := (List.getElem?_eq_some_iff.mp h1).1
  exact h.2 _ b (by rw [List.getElem?_append_left h2]; exact h1)
/-- how many letters -/
theorem lr_n (h : LgR E T σ) (hy : y ∈ pse E 0) (hn : isN (eN y.2)) : σ.1 547 y.1 = Int32.ofNat (eN y.2).length := by
  have := lr_b (i := 0) h hy (b := bt (Int32.ofNat (eN y.2).length) (Int32.ofNat 0)) rfl
  have h8 := hn.2
  rw [Nat.add_zero, bt_0, and255, Nat.mod_eq_of_lt (by omega)] at this
  exact this
theorem lr_l {j : Nat} (h : LgR E T σ) (hy : y ∈ pse E 0) (hn : isN (eN y.2)) (hj : j < (eN y.2).length) : σ.1 547 (y.1 + 1 + j) = Int32.ofNat ((eN y.2)[j] + 96) := by
  have hb : (nmE y.2 ++ eC y.2)[1 + j]? = some (bt (Int32.ofNat ((eN y.2)[j] + 96)) (Int32.ofNat 0)) := by
    rw [List.getElem?_append_left (by rw [nmE_l]; omega)]
    unfold nmE
    rw [List.getElem?_append_right (by rw [bts_l]; omega), bts_l, show 1 + j - 1 = j by omega]
    exact ltb_g hj
  have := lr_b h hy hb
  have hk := hn.1 _ (List.getElem_mem hj)
  rw [bt_0, and255, Nat.mod_eq_of_lt (by omega)] at this
  rw [Nat.add_assoc]
  exact this
/-- a byte of the contents -/
theorem lr_c {i : Nat} (h : LgR E T σ) (hy : y ∈ pse E 0) (hi : i < (eC y.2).length) : σ.1 547 (y.1 + 1 + (eN y.2).length + i) = Int32.ofNat (g1 (eC y.2) i) := by
  obtain ⟨b, hb, hb2⟩ := g1_e hi
  have := lr_b (i := 1 + (eN y.2).length + i) h hy (b := b) (by rw [List.getElem?_append_right (by rw [nmE_l]; omega), nmE_l, show 1 + (eN y.2).length + i - (1 + (eN y.2).length) = i by omega]; exact hb)
  rw [hb2] at this
  rw [show y.1 + 1 + (eN y.2).length + i = y.1 + (1 + (eN y.2).length + i) by omega]
  exact this
theorem r_287l (hW : LgW E) (h : LgR E T σ) (hy : y ∈ pse E 0) (hl : isN nm) (hn : isN (eN y.2)) (hlen : (eN y.2).length = nm.length) (hd : 2 ≤ d) : ∀ (m j : Nat), j + m = nm.length → Q (.inl (some (.inl (bI (decide ((eN y.2).drop j = nm.drop j)))))) κ σ → ys_287_23 e d (Int32.ofNat y.1) (nmR nm) 1 (Int32.ofNat j) κ σ Q := by
  have hp := (pse_b hy).2
  have hw := hW.2
  have h8 := hl.2
  intro m
  induction m with
  | zero =>
    intro j hj hq
    rw [List.drop_of_length_le (by omega), List.drop_of_length_le (by omega)] at hq
    unfold ys_287_23
    rw [if_neg (by decide)]
    refine u_278 hl (by omega) ?_
    rw [my_kI_v, if_neg (by rw [oN_lt (by omega) (by omega)]; omega)]
    unfold ys_287_70
    exact ⟨Or.inr rfl, hq⟩
  | succ m ih =>
    intro j hj hq
    have hj1 : j < nm.length := by omega
    have hj2 : j < (eN y.2).length := by omega
    unfold ys_287_23
    rw [if_neg (by decide)]
    refine u_278 hl (by omega) ?_
    rw [my_kI_v, if_pos ((oN_lt (by omega) (by omega)).mpr hj1), oN_s, oN_a, oN_n (by omega), lr_l h hy hn hj2]
    refine ⟨bdk (by omega) (by omega), u_279 hl hj1 hd ?_⟩
    rw [my_kI_v]
    have k1 := hn.1 _ (List.getElem_mem hj2)
    have k2 := hl.1 _ (List.getElem_mem hj1)
    have hde : ((eN y.2).drop j = nm.drop j) ↔ ((eN y.2)[j] = nm[j] ∧ (eN y.2).drop (j + 1) = nm.drop (j + 1)) := by
      rw [List.drop_eq_getElem_cons hj2, List.drop_eq_getElem_cons hj1, List.cons.injEq]
    refine my_if (fun c => ?_) (fun c => ?_)
    · have c1 := (oN_e (by omega) (by omega)).mp c
      unfold ys_287_62
      rw [oN_s]
      refine ys_287_23_ok (ih (j + 1) (by omega) ?_)
      rw [show decide ((eN y.2).drop j = nm.drop j) = decide ((eN y.2).drop (j + 1) = nm.drop (j + 1)) from decide_eq_decide.mpr (hde.trans ⟨fun hh => hh.2, fun hh => ⟨by omega, hh⟩⟩)] at hq
      exact hq
    · rw [decide_eq_false (fun hh => c (by rw [(hde.mp hh).1]))] at hq
      unfold ys_287_62
      refine ys_287_23_ok ?_
      unfold ys_287_23
      rw [if_pos rfl]
      unfold ys_287_70
      exact ⟨Or.inl rfl, hq⟩
theorem r_287 (hW : LgW E) (h : LgR E T σ) (hy : y ∈ pse E 0) (hl : isN nm) (hd : 3 ≤ d) (hQ : Q (.inl (some (.inl (bI (decide (eN y.2 = nm)))))) κ σ) : my_M e d 287 [.inr (.inr (some 498)), .inl (Int32.ofNat y.1), .inr (.inl (nmR nm))] κ σ Q := by
  obtain ⟨d, rfl⟩ := dS 1 (show 1 ≤ d by omega)
  have hp := (pse_b hy).2
  have hw := hW.2
  have h8 := hl.2
  have hn := (wfl_p hW.1 hy).1
  have hn8 := hn.2
  refine ys_287 ?_
  unfold ys_287_0
  rw [oN_n (by omega), lr_n h hy hn]
  refine ⟨bdk (by omega) (by omega), u_278 hl (by omega) ?_⟩
  rw [my_kI_v]
  refine my_if (fun c => ?_) (fun c => ?_)
  · have c1 := (oN_e (by omega) (by omega)).mp c
    unfold ys_287_18
    exact ys_287_23_ok (r_287l hW h hy hl hn c1 (by omega) _ 0 (Nat.zero_add _) hQ)
  · rw [decide_eq_false (fun hh => c (by rw [hh]))] at hQ
    unfold ys_287_18
    refine ys_287_23_ok ?_
    unfold ys_287_23
    rw [if_pos rfl]
    unfold ys_287_70
    exact ⟨Or.inl rfl, hQ⟩
theorem r_286l (hW : LgW E) (h : LgR E T σ) (hP : PrR E σ) (hl : isN nm) (hd : 3 ≤ d) (hQ : Q (.inl (some (.inl (fP (lrc (rcp E) nm (rcp E).length))))) κ σ) : ∀ (m j : Nat), j + m = (rcp E).length → ys_286_5 e d (nmR nm) (fP (lrc (rcp E) nm j)) (Int32.ofNat j) κ σ Q := by
  have hn := LgW_n hW
  intro m
  induction m with
  | zero =>
    intro j hj
    have : j = (rcp E).length := by omega
    subst this
    unfold ys_286_5
    rw [hP.2.1, if_neg (by rw [oN_lt (by omega) (by omega)]; omega)]
    exact hQ
  | succ m ih =>
    intro j hj
    have hlt : j < (rcp E).length := by omega
    have hy := List.getElem?_eq_getElem hlt
    generalize (rcp E)[j] = y at hy
    have hym := rcp_m (List.mem_of_getElem? hy)
    have ih1 := ih (j + 1) (by omega)
    rw [lrc_s hy] at ih1
    unfold ys_286_5
    rw [hP.2.1, if_pos ((oN_lt (by omega) (by omega)).mpr hlt), oN_n (by omega), hP.2.2 j y hy]
    refine ⟨bdk (by omega) (by omega), r_287 hW h hym.1 hl hd ?_⟩
    rw [my_kI_v]
    by_cases c : eN y.2 = nm
    · rw [decide_eq_true c, if_neg (by decide), hP.2.2 j y hy]
      rw [if_pos c] at ih1
      refine ⟨bdk (by omega) (by omega), ?_⟩
      unfold ys_286_40
      rw [oN_s]
      exact ys_286_5_ok ih1
    · rw [decide_eq_false c, if_pos (by decide)]
      rw [if_neg c] at ih1
      unfold ys_286_40
      rw [oN_s]
      exact ys_286_5_ok ih1
theorem r_286 (hW : LgW E) (h : LgR E T σ) (hP : PrR E σ) (hl : isN nm) (hd : 4 ≤ d) (hQ : Q (.inl (some (.inl (fP (lrc (rcp E) nm (rcp E).length))))) κ σ) : my_M e d 286 [.inr (.inr (some 498)), .inr (.inl (nmR nm))] κ σ Q := by
  obtain ⟨d, rfl⟩ := dS 1 (show 1 ≤ d by omega)
  refine ys_286 ?_
  unfold ys_286_0
  exact ys_286_5_ok (r_286l hW h hP hl (by omega) hQ _ 0 (Nat.zero_add _))
/-- the fields of an entry -/
theorem r_289 (hW : LgW E) (h : LgR E T σ) (hy : y ∈ pse E 0) (hd : 1 ≤ d) (hQ : Q (.inl (some (.inl (Int32.ofNat (y.1 + 1 + (eN y.2).length))))) κ σ) : my_M e d 289 [.inr (.inr (some 498)), .inl (Int32.ofNat y.1)] κ σ Q := by
  obtain ⟨d, rfl⟩ := dS 1 hd
  have hp := (pse_b hy).2
  have hw := hW.2
  refine ys_289 ?_
  unfold ys_289_0
  rw [oN_n (by omega), lr_n h hy (wfl_p hW.1 hy).1, oN_s, oN_a]
  exact ⟨bdk (by omega) (by omega), hQ⟩
theorem r_285y {i : Nat} {v : Int32} (hW : LgW E) (h : LgR E T σ) (hy : y ∈ pse E 0) (hi : i + 1 < (eC y.2).length) (hv : v = Int32.ofNat (y.1 + 1 + (eN y.2).length + i)) (hd : 1 ≤ d) (hQ : Q (.inl (some (.inl (Int32.ofNat (g2 (eC y.2) i))))) κ σ) : my_M e d 285 [.inr (.inr (some 498)), .inl v] κ σ Q := by
  have hp := (pse_b hy).2
  have hw := hW.2
  rw [hv]
  exact r_285 (by omega) (lr_c h hy (by omega)) (by rw [Nat.add_assoc]; exact lr_c h hy hi) hd hQ
theorem r_293 (hW : LgW E) (h : LgR E T σ) (hy : y ∈ pse E 0) (hi : 10 < (eC y.2).length) (hd : 2 ≤ d) (hQ : Q (.inl (some (.inl (Int32.ofNat (g1 (eC y.2) 10))))) κ σ) : my_M e d 293 [.inr (.inr (some 498)), .inl (Int32.ofNat y.1)] κ σ Q := by
  obtain ⟨d, rfl⟩ := dS 1 (show 1 ≤ d by omega)
  have hp := (pse_b hy).2
  have hw := hW.2
  refine ys_293 ?_
  unfold ys_293_0
  refine r_289 hW h hy (by omega) ?_
  rw [my_kI_v, show (10 : Int32) = Int32.ofNat 10 from rfl, oN_a, oN_n (by omega), lr_c h hy hi]
  exact ⟨bdk (by omega) (by omega), hQ⟩
theorem r_294 {j : Nat} (hW : LgW E) (h : LgR E T σ) (hy : y ∈ pse E 0) (hi : 11 + 2 * j + 1 < (eC y.2).length) (hd : 2 ≤ d) (hQ : Q (.inl (some (.inl (Int32.ofNat (g2 (eC y.2) (11 + 2 * j)))))) κ σ) : my_M e d 294 [.inr (.inr (some 498)), .inl (Int32.ofNat y.1), .inl (Int32.ofNat j)] κ σ Q := by
  obtain ⟨d, rfl⟩ := dS 1 (show 1 ≤ d by omega)
  refine ys_294 ?_
  unfold ys_294_0
  refine r_289 hW h hy (by omega) ?_
  rw [my_kI_v, show (11 : Int32) = Int32.ofNat 11 from rfl, show (2 : Int32) = Int32.ofNat 2 from rfl, ← Int32.ofNat_mul, oN_a, oN_a]
  refine r_285y hW h hy hi (by congr 1; omega) (by omega) ?_
  rw [my_kI_v]
  exact hQ
end MLS
