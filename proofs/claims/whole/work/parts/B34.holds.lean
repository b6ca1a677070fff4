
/-! ===== names are told apart; entries that hold ===== -/
theorem kwi_a1 {l : List Nat} {M : List (List Nat)} : ∀ {K : List (List Nat)} {j i : Nat}, kwi K l j = some i → kwi (K ++ M) l j = some i
  | [], j, i, h => by unfold kwi at h; cases h
  | w :: r, j, i, h => by
    rw [List.cons_append]
    unfold kwi at h ⊢
    split
    · rename_i c; rw [if_pos c] at h; exact h
    · rename_i c; rw [if_neg c] at h; exact kwi_a1 h
theorem kwi_c {l w : List Nat} {r : List (List Nat)} {j : Nat} : kwi (w :: r) l j = if w = l then some j else kwi r l (j + 1) := rfl
theorem kwi_a2 {l : List Nat} : ∀ {K : List (List Nat)} {j : Nat}, kwi K l j = none → kwi (K ++ [l]) l j = some (j + K.length)
  | [], j, h => by rw [List.nil_append]; unfold kwi; rw [if_pos rfl]; rfl
  | w :: r, j, h => by
    rw [List.cons_append]
    unfold kwi at h ⊢
    split
    · rename_i c; rw [if_pos c] at h; cases h
    · rename_i c; rw [if_neg c] at h; rw [kwi_a2 h, List.length_cons]; congr 1; omega
def nmU (As : List Ri) : Prop := ∀ k a, As[k]? = some a → kwi (rno As) (riN a) 0 = some k ∧ 1 ≤ (riN a).length
theorem nmU_a {As : List Ri} {a : Ri} (h : nmU As) (hk : kwi (rno As) (riN a) 0 = none) (hl : 1 ≤ (riN a).length) : nmU (As ++ [a]) := by
  have hr : rno (As ++ [a]) = rno As ++ [riN a] := by unfold rno; rw [List.map_append]; rfl
  have hrl : (rno As).length = As.length := by unfold rno; rw [List.length_map]
  intro k b hb
  rw [hr]
  rcases gA hb with ⟨q1, q2⟩ | ⟨q1, q2⟩
  · exact ⟨kwi_a1 (h k b q2).1, (h k b q2).2⟩
  · subst q2
    refine ⟨?_, hl⟩
    rw [kwi_a2 hk, q1, hrl, Nat.zero_add]
theorem pis_U {t : Nat → Int32} {n : Nat} (ht : txt t n) : ∀ (f : Nat) (A0 : List Ri) (i p : Nat) (As : List Ri), p ≤ n → nmU A0 → pis t n f A0 i p = .inr As → nmU As := by
  intro f
  induction f with
  | zero => intro A0 i p As _ _ hx; unfold pis at hx; cases hx
  | succ f ih =>
    intro A0 i p As hp h0 hx
    unfold pis at hx
    cases hpi : pit t n A0 i p with
    | inl q => rw [hpi] at hx; cases hx
    | inr v =>
      obtain ⟨a, q⟩ := v
      rw [hpi] at hx
      dsimp only at hx
      have pB := (pit_B (As := A0) (i := i) ht hp).2 a q hpi
      have h1 : nmU (A0 ++ [a]) := nmU_a h0 pB.2.2.2.2.2.2.2.1 (by rw [pB.2.2.2.2.2.1]; have h2 := (tk2_N pB.2.2.2.2.1 ht).2.2.2; have h3 := (tkl_bd ht (tk_lt (p := nx t n p) (by rw [pB.2.2.2.2.1]; omega))).1; omega)
      by_cases h2 : tkk t n q = 0
      · rw [if_pos h2] at hx
        cases hx
        exact h1
      · rw [if_neg h2] at hx
        exact ih (A0 ++ [a]) _ q As pB.2.1 h1 hx
theorem LOf_U {As : List Ri} {I : List It} (h : LOf As I) : nmU As := by
  obtain ⟨t, n, ht, hp, _⟩ := h
  exact pis_U ht 43 [] 0 (ps t n 0) As (ps_le ht 0) (fun k a ha => by simp at ha) hp
/-- an entry is as the item that is named so now -/
def entH (As : List Ri) (I : List It) (y : Et) : Bool := match kwi (rno As) (eN y) 0 with
  | none => false
  | some k => match As[k]? with
    | none => false
    | some a => decide (eC y = ib I (rwA (As.take k)).length a)
section MHO
variable {As : List Ri} {I : List It} {rv : Nat} {e : my_E} {d : Nat} {κ : my_K} {σ σ' : my_S} {Q : my_O → my_K → my_S → Prop} {E : List Et} {T : List Int32} {y : Nat × Et}
theorem rno_n {k : Nat} {a : Ri} (hk : kwi (rno As) (eN y.2) 0 = some k) (ha : As[k]? = some a) : riN a = eN y.2 := by
  have := (kwi_at hk).2
  unfold rno at this
  rw [Nat.sub_zero, List.getElem?_map, ha] at this
  exact Option.some.inj this
theorem r_292 {j k : Nat} {a : Ri} (h : LD As I rv σ) (hW : LgW E) (hR : LgR E T σ) (hP : PrR E σ) (hj : (itp E)[j]? = some y) (ha : As[k]? = some a) (hd : 4 ≤ d) (hQ : Q (.inl (some (.inl (bI (decide (eN y.2 = riN a) && decide (eC y.2 = ib I (rwA (As.take k)).length a)))))) κ σ) : my_M e d 292 [.inr (.inr (some 498)), .inl (Int32.ofNat j), .inl (Int32.ofNat k)] κ σ Q := by
  obtain ⟨d, rfl⟩ := dS 1 (show 1 ≤ d by omega)
  obtain ⟨h1, h2, h3, h4, h5, h6, h7, h8⟩ := h
  have h42 := itsB_42 h1
  have hkA := (List.getElem?_eq_some_iff.mp ha).1
  have hjE := (List.getElem?_eq_some_iff.mp hj).1
  have hnW := LgW_n hW
  have hy := (itp_m (List.mem_of_getElem? hj)).1
  have hp := (pse_b hy).2
  have hw := hW.2
  have hwf := wfl_p hW.1 hy
  obtain ⟨y1, y2, y3, y4, y5⟩ := h8.2.1 k a ha
  obtain ⟨z1, z2⟩ := hP.1.2 j y hj
  have hil := ib_l (I := I) ha
  have h61 := h7.2.2.2.1
  have aX := aB_ib (I := I) (i := (rwA (As.take k)).length) (a := a)
  have aY := hwf.2.2.1
  have bk : my_bd (Int32.ofNat k) 48 := bdk (by omega) (by omega)
  have bj : my_bd (Int32.ofNat j) 2600 := bdk (by omega) (by omega)
  have vX : ∀ i (hi : i < (ib I (rwA (As.take k)).length a).length), σ.1 535 ((ibA I 0 (As.take k)).length + i) = (ib I (rwA (As.take k)).length a)[i] &&& 255 := fun i hi => h8.1.2 _ _ (ib_e (I := I) ha hi)
  have vY : ∀ i (hi : i < (eC y.2).length), σ.1 547 (y.1 + 1 + (eN y.2).length + i) = (eC y.2)[i] &&& 255 := fun i hi => by
    have := lr_b (i := 1 + (eN y.2).length + i) hR hy (b := (eC y.2)[i]) (by rw [List.getElem?_append_right (by rw [nmE_l]; omega), nmE_l, show 1 + (eN y.2).length + i - (1 + (eN y.2).length) = i by omega, List.getElem?_eq_getElem hi])
    rw [show y.1 + 1 + (eN y.2).length + i = y.1 + (1 + (eN y.2).length + i) by omega]
    exact this
  refine ys_292 ?_
  unfold ys_292_0
  rw [oN_n (by omega), oN_n (by omega), z1, y2]
  refine ⟨bj, bk, r_287 hW hR hy (h1.2 a (List.mem_of_getElem? ha)).2.1 (by omega) ?_⟩
  rw [my_kI_v]
  by_cases cn : eN y.2 = riN a
  · rw [decide_eq_true cn, if_neg (by decide)]
    rw [decide_eq_true cn, Bool.true_and] at hQ
    generalize hX : ib I (rwA (As.take k)).length a = X at *
    generalize hO1 : (ibA I 0 (As.take k)).length = o1 at *
    have ex : Int32.ofNat (o1 + X.length) - Int32.ofNat o1 = Int32.ofNat X.length := oN_d _ _
    rw [oN_n (by omega), lr_n hR hy hwf.1, oN_s, oN_a, z2, oN_d, y3, y4, ex]
    refine ⟨bdk (by omega) (by omega), bj, bk, bk, ?_⟩
    have zero : Q (.inl (some (.inl (bI false)))) κ σ → ∀ i, ys_292_70 e d (Int32.ofNat j) (Int32.ofNat k) (Int32.ofNat (y.1 + 1 + (eN y.2).length)) 0 i κ σ Q := fun hq i => by
      unfold ys_292_70 ys_292_129
      rw [if_pos rfl]
      exact ⟨Or.inl rfl, hq⟩
    have lp : X.length = (eC y.2).length → ∀ (m i : Nat), i + m = (eC y.2).length → Q (.inl (some (.inl (bI (decide ((eC y.2).drop i = X.drop i)))))) κ σ → ys_292_70 e d (Int32.ofNat j) (Int32.ofNat k) (Int32.ofNat (y.1 + 1 + (eN y.2).length)) 1 (Int32.ofNat i) κ σ Q := fun hXY m => by
      induction m with
      | zero =>
        intro i hi hq
        rw [List.drop_of_length_le (by omega), List.drop_of_length_le (by omega)] at hq
        unfold ys_292_70 ys_292_129
        rw [if_neg (by decide), oN_n (by omega), z2, oN_d, if_neg (by rw [oN_lt (by omega) (by omega)]; omega)]
        exact ⟨bj, Or.inr rfl, hq⟩
      | succ m ih =>
        intro i hi hq
        have hiX : i < X.length := by omega
        have hiY : i < (eC y.2).length := by omega
        unfold ys_292_70
        rw [if_neg (by decide), oN_n (by omega), z2, oN_d, if_pos (by rw [oN_lt (by omega) (by omega)]; omega), oN_n (by omega), y3, oN_a, oN_a, oN_n (by omega), oN_n (by omega), vX i hiX, vY i hiY]
        refine ⟨bj, bdk (by omega) (by omega), bk, bdk (by omega) (by omega), ?_⟩
        unfold ys_292_121
        rw [oN_s]
        refine my_if (fun c => ?_) (fun c => ?_)
        · have c := (isB_e (aY _ (List.getElem_mem hiY)) (aX _ (List.getElem_mem hiX))).mp c
          refine ys_292_70_ok (ih (i + 1) (by omega) ?_)
          rw [show decide ((eC y.2).drop i = X.drop i) = decide ((eC y.2).drop (i + 1) = X.drop (i + 1)) from decide_eq_decide.mpr ((dr_e hiY hiX).trans ⟨fun hh => hh.2, fun hh => ⟨c, hh⟩⟩)] at hq
          exact hq
        · refine ys_292_70_ok (zero ?_ _)
          rw [decide_eq_false (fun hh => c (by rw [((dr_e hiY hiX).mp hh).1]))] at hq
          exact hq
    refine my_if (fun c => ?_) (fun c => ?_)
    · have c := (oN_e (by omega) (by omega)).mp c
      unfold ys_292_65
      exact ys_292_70_ok (lp c.symm _ 0 (Nat.zero_add _) hQ)
    · unfold ys_292_65
      refine ys_292_70_ok (zero ?_ _)
      rw [decide_eq_false (fun hh => c (by rw [hh]))] at hQ
      exact hQ
  · rw [decide_eq_false cn, Bool.false_and] at hQ
    rw [decide_eq_false cn, if_pos (by decide)]
    exact hQ
theorem r_291l {j : Nat} (h : LD As I rv σ) (hW : LgW E) (hR : LgR E T σ) (hP : PrR E σ) (hj : (itp E)[j]? = some y) (hd : 3 ≤ d) (hQ : Q (.inl (some (.inl (fkI (kwi (rno As) (eN y.2) 0))))) κ σ) : ∀ (m k : Nat), k + m = As.length → kwi ((rno As).drop k) (eN y.2) k = kwi (rno As) (eN y.2) 0 → ys_291_2 e d (Int32.ofNat j) (Int32.ofNat k) κ σ Q := by
  obtain ⟨h1, h2, h3, h4, h5, h6, h7, h8⟩ := h
  have h42 := itsB_42 h1
  have hjE := (List.getElem?_eq_some_iff.mp hj).1
  have hnW := LgW_n hW
  have hy := (itp_m (List.mem_of_getElem? hj)).1
  have hrl : (rno As).length = As.length := by unfold rno; rw [List.length_map]
  intro m
  induction m with
  | zero =>
    intro k hk hq
    rw [List.drop_of_length_le (by omega)] at hq
    unfold ys_291_2
    rw [h8.2.2.1, if_neg (by rw [oN_lt (by omega) (by omega)]; omega)]
    rw [← hq] at hQ
    exact hQ
  | succ m ih =>
    intro k hk hq
    have hlt : k < As.length := by omega
    have ha := List.getElem?_eq_getElem hlt
    generalize As[k] = a at ha
    have hra : (rno As)[k]? = some (riN a) := by unfold rno; rw [List.getElem?_map, ha]; rfl
    have hlt2 : k < (rno As).length := by omega
    have hra2 : (rno As)[k] = riN a := by rw [List.getElem?_eq_getElem hlt2] at hra; exact Option.some.inj hra
    rw [List.drop_eq_getElem_cons hlt2, hra2, kwi_c] at hq
    unfold ys_291_2
    rw [h8.2.2.1, if_pos ((oN_lt (by omega) (by omega)).mpr hlt), oN_n (by omega), oN_n (by omega), (hP.1.2 j y hj).1, (h8.2.1 k a ha).2.1]
    refine ⟨bdk (by omega) (by omega), bdk (by omega) (by omega), r_287 hW hR hy (h1.2 a (List.mem_of_getElem? ha)).2.1 hd ?_⟩
    rw [my_kI_v]
    by_cases c : riN a = eN y.2
    · rw [decide_eq_true c.symm, if_neg (by decide)]
      rw [if_pos c] at hq
      rw [← hq] at hQ
      exact hQ
    · rw [decide_eq_false (fun hh => c hh.symm), if_pos (by decide), oN_s]
      rw [if_neg c] at hq
      exact ys_291_2_ok (ih (k + 1) (by omega) hq)
theorem r_291 {j : Nat} (h : LD As I rv σ) (hW : LgW E) (hR : LgR E T σ) (hP : PrR E σ) (hj : (itp E)[j]? = some y) (hd : 4 ≤ d) (hQ : Q (.inl (some (.inl (fkI (kwi (rno As) (eN y.2) 0))))) κ σ) : my_M e d 291 [.inr (.inr (some 498)), .inl (Int32.ofNat j)] κ σ Q := by
  obtain ⟨d, rfl⟩ := dS 1 (show 1 ≤ d by omega)
  refine ys_291 ?_
  unfold ys_291_0
  exact ys_291_2_ok (r_291l h hW hR hP hj (by omega) hQ _ 0 (Nat.zero_add _) rfl)
theorem r_290 {j : Nat} (h : LD As I rv σ) (hW : LgW E) (hR : LgR E T σ) (hP : PrR E σ) (hj : (itp E)[j]? = some y) (hd : 5 ≤ d) (hQ : Q (.inl (some (.inl (bI (entH As I y.2))))) κ σ) : my_M e d 290 [.inr (.inr (some 498)), .inl (Int32.ofNat j)] κ σ Q := by
  obtain ⟨d, rfl⟩ := dS 1 (show 1 ≤ d by omega)
  have h42 := itsB_42 h.1
  refine ys_290 ?_
  unfold ys_290_0
  refine r_291 h hW hR hP hj (by omega) ?_
  rw [my_kI_v]
  unfold entH at hQ
  have zero : ys_290_23 e d κ σ Q ↔ Q (.inl (some (.inl (bI false)))) κ σ := ⟨fun hh => by unfold ys_290_23 ys_290_24 at hh; exact hh.2, fun hh => by unfold ys_290_23 ys_290_24; exact ⟨Or.inl rfl, hh⟩⟩
  cases hk : kwi (rno As) (eN y.2) 0 with
  | none =>
    rw [hk] at hQ
    show if Int32.ofInt (-1) < 0 then _ else _
    rw [if_pos (by decide)]
    exact zero.mpr hQ
  | some k =>
    have hlt := (kwi_lt hk).2
    have hrl : (rno As).length = As.length := by unfold rno; rw [List.length_map]
    have hlt2 : k < As.length := by omega
    have ha := List.getElem?_eq_getElem hlt2
    generalize As[k] = a at ha
    have hn := rno_n hk ha
    rw [hk] at hQ
    dsimp only at hQ
    rw [ha] at hQ
    dsimp only at hQ
    show if Int32.ofNat k < 0 then _ else _
    rw [if_neg (oN_0 (by omega))]
    refine r_292 h hW hR hP hj ha (by omega) ?_
    rw [my_kI_v, decide_eq_true hn.symm, Bool.true_and]
    by_cases c : eC y.2 = ib I (rwA (As.take k)).length a
    · rw [decide_eq_true c] at hQ ⊢
      rw [if_neg (by decide)]
      unfold ys_290_24
      exact ⟨Or.inr rfl, hQ⟩
    · rw [decide_eq_false c] at hQ ⊢
      rw [if_pos (by decide)]
      exact zero.mpr hQ
end MHO
