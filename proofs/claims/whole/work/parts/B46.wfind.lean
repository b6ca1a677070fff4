
/-! ===== the class: the number of an item's entry ===== -/
/-- the first item entry with that name and these contents -/
def efd (P : List (Nat × Et)) (nm : List Nat) (X : List Int32) : Nat → Nat → Option Nat
  | 0, _ => none
  | m + 1, j => match P[j]? with
    | none => none
    | some y => if eN y.2 = nm ∧ eC y.2 = X then some j else efd P nm X m (j + 1)
def itL3 (E : List Et) : List (List Nat × Nat × Nat) := (itp E).map (fun y => (eN y.2, y.1 + 1 + (eN y.2).length, (eC y.2).length))
def rcL2 (E : List Et) : List (List Nat × Nat) := (rcp E).map (fun y => (eN y.2, y.1 + 1 + (eN y.2).length))
/-- the log is written and not full; or it is full, and what was there before is there still -/
def WX (A : Nat) (E E' : List Et) (σ : my_S) : Prop := (∃ F, E' = E ++ F) ∧ ((LgW E' ∧ LgC A E' σ ∧ σ.1 A 10 = 0) ∨ (7747 < els E' ∧ ∃ B L R, 7747 < B.length ∧ WB A B σ ∧ NI A L σ ∧ (∀ x ∈ L, x.2.1 ≤ 7747) ∧ NR A R σ ∧ en E 0 <+: B ∧ itL3 E <+: L ∧ rcL2 E <+: R))
section MWF
variable {e : my_E} {d : Nat} {κ : my_K} {σ σ' : my_S} {Q : my_O → my_K → my_S → Prop} {A S o : Nat} {E E' : List Et} {B X : List Int32} {L : List (List Nat × Nat × Nat)} {nm : List Nat}
theorem LgC_W (hW : LgW E) (h : LgC A E σ) (h0 : σ.1 A 10 = 0) : WB A (en E 0) σ ∧ NI A (itL3 E) σ ∧ NR A (rcL2 E) σ := by
  obtain ⟨h1, h2, h3, h4, h5⟩ := h
  have hn := LgW_n hW
  have hw := hW.2
  refine ⟨⟨?_, fun i x _ hx => h2 i x hx, ?_⟩, ⟨?_, ?_, fun j x hx => ?_⟩, ⟨?_, ?_, fun j x hx => ?_⟩⟩
  · rw [h1, en_l]
    congr 1
    omega
  · rw [h0, en_l, if_neg (by omega)]
  · rw [h3.1]; unfold itL3; rw [List.length_map]
  · unfold itL3; rw [List.length_map]; omega
  · unfold itL3 at hx
    rw [List.getElem?_map] at hx
    cases hy : (itp E)[j]? with
    | none => rw [hy] at hx; cases hx
    | some y => rw [hy] at hx; cases hx; exact h3.2 j y hy
  · rw [h4]; unfold rcL2; rw [List.length_map]
  · unfold rcL2; rw [List.length_map]; omega
  · unfold rcL2 at hx
    rw [List.getElem?_map] at hx
    cases hy : (rcp E)[j]? with
    | none => rw [hy] at hx; cases hx
    | some y => rw [hy] at hx; cases hx; exact h5 j y hy
theorem W_LgC (hl : els E ≤ 7747) (h1 : WB A (en E 0) σ) (h2 : NI A (itL3 E) σ) (h3 : NR A (rcL2 E) σ) : LgC A E σ ∧ σ.1 A 10 = 0 := by
  refine ⟨⟨?_, fun i x hx => h1.2.1 i x (by have := (List.getElem?_eq_some_iff.mp hx).1; rw [en_l] at this; omega) hx, ⟨?_, fun j y hy => ?_⟩, ?_, fun j y hy => ?_⟩, ?_⟩
  · rw [h1.1, en_l]
    congr 1
    omega
  · rw [h2.1]; unfold itL3; rw [List.length_map]
  · exact h2.2.2 j (eN y.2, y.1 + 1 + (eN y.2).length, (eC y.2).length) (by unfold itL3; rw [List.getElem?_map, hy]; rfl)
  · rw [h3.1]; unfold rcL2; rw [List.length_map]
  · exact h3.2.2 j (eN y.2, y.1 + 1 + (eN y.2).length) (by unfold rcL2; rw [List.getElem?_map, hy]; rfl)
  · rw [h1.2.2, en_l, if_neg (by omega)]
/-- looked for where nothing is full -/
theorem c_177e (hA : lg2 A) (hW : LgW E) (h : LgC A E σ) (hl : isN nm) (hS : Src A S o X σ) (hd : 1 ≤ d) (hx : efd (itp E) nm X (itp E).length 0 = none → ys_177_77 e d A (nmC nm) (some S) (Int32.ofNat o) (Int32.ofNat X.length) κ σ Q) (hQ : ∀ j, efd (itp E) nm X (itp E).length 0 = some j → Q (.inl (some (.inl (Int32.ofNat j)))) κ σ) : ∀ (m j : Nat), j + m = (itp E).length → efd (itp E) nm X m j = efd (itp E) nm X (itp E).length 0 → ys_177_3 e d A (nmC nm) (some S) (Int32.ofNat o) (Int32.ofNat X.length) (Int32.ofNat j) κ σ Q := by
  have hn := LgW_n hW
  have hw := hW.2
  obtain ⟨s1, s2, s3⟩ := Src_S hA hS
  intro m
  induction m with
  | zero =>
    intro j hj hr
    unfold ys_177_3
    rw [h.2.2.1.1, if_neg (by rw [oN_lt (by omega) (by omega)]; omega)]
    exact hx hr.symm
  | succ m ih =>
    intro j hj hr
    have hlt : j < (itp E).length := by omega
    have hy := List.getElem?_eq_getElem hlt
    generalize (itp E)[j] = y at hy
    obtain ⟨hyp, hyk⟩ := itp_m (List.mem_of_getElem? hy)
    have hwf := wfl_p hW.1 hyp
    have hyb := (pse_b hyp).2
    obtain ⟨a1, a2, a3⟩ := h.2.2.1.2 j y hy
    have hs : efd (itp E) nm X (m + 1) j = if eN y.2 = nm ∧ eC y.2 = X then some j else efd (itp E) nm X m (j + 1) := by rw [efd, hy]
    rw [hs] at hr
    have nxt : ¬ (eN y.2 = nm ∧ eC y.2 = X) → ys_177_71 e d A (nmC nm) (some S) (Int32.ofNat o) (Int32.ofNat X.length) (Int32.ofNat j) κ σ Q := fun hc => by
      rw [if_neg hc] at hr
      unfold ys_177_71
      rw [oN_s]
      exact ys_177_3_ok (in8 hA) (ih (j + 1) (by omega) hr)
    have b := bdk (k := j) (m := 900) (by omega) (by omega)
    unfold ys_177_3
    rw [h.2.2.1.1, if_pos ((oN_lt (by omega) (by omega)).mpr hlt), if_pos ((oN_lt1 (b := 900) (c := 900) rfl (by omega) (by omega)).mpr (by omega)), oN_n (by omega), a1, a2, a3]
    refine ⟨b, my_if (fun c => ⟨b, my_if (fun c2 => ⟨b, ?_⟩) (fun c2 => ?_)⟩) (fun c => ?_)⟩
    · have c1 := (nmC_inj hwf.1 hl).mp (lg_cmp_0.mp c)
      have c2 := (oN_e (by omega) (by omega)).mp c2
      rw [← c2]
      have vY : ∀ i x, (eC y.2)[i]? = some x → σ.1 (A + 1) (y.1 + 1 + (eN y.2).length + i) = x := fun i x hx => by
        have := (pse_b hyp).1 (1 + (eN y.2).length + i) x (by rw [List.getElem?_append_right (by rw [nmE_l]; omega), nmE_l, show 1 + (eN y.2).length + i - (1 + (eN y.2).length) = i by omega]; exact hx)
        rw [show y.1 + 1 + (eN y.2).length + i = y.1 + (1 + (eN y.2).length + i) by omega]
        exact h.2.1 _ x this
      refine s_13 hA hS c2.symm (by omega) vY hd ?_
      rw [my_kI_v]
      by_cases c3 : eC y.2 = X
      · rw [decide_eq_true c3, if_neg (by decide)]
        rw [if_pos ⟨c1, c3⟩] at hr
        exact hQ j hr.symm
      · rw [decide_eq_false c3, if_pos (show bI false = 0 from rfl), c2]
        exact nxt (fun hh => c3 hh.2)
    · exact nxt (fun hh => c2 (by rw [hh.2]))
    · exact nxt (fun hh => c (lg_cmp_0.mpr (by rw [hh.1])))
/-- looked for where the log is full: whatever comes of it -/
theorem c_177f (hA : lg2 A) (hN : NI A L σ) (hL : ∀ x ∈ L, x.2.1 ≤ 7747) (hS : Src A S o X σ) (hd : 1 ≤ d) (hx : ys_177_77 e d A (nmC nm) (some S) (Int32.ofNat o) (Int32.ofNat X.length) κ σ Q) (hQ : ∀ j, j < L.length → Q (.inl (some (.inl (Int32.ofNat j)))) κ σ) : ∀ (m j : Nat), j + m = L.length → ys_177_3 e d A (nmC nm) (some S) (Int32.ofNat o) (Int32.ofNat X.length) (Int32.ofNat j) κ σ Q := by
  obtain ⟨n1, n2, n3⟩ := hN
  obtain ⟨s1, s2, s3⟩ := Src_S hA hS
  intro m
  induction m with
  | zero =>
    intro j hj
    unfold ys_177_3
    rw [n1, if_neg (by rw [oN_lt (by omega) (by omega)]; omega)]
    exact hx
  | succ m ih =>
    intro j hj
    have hlt : j < L.length := by omega
    have hy := List.getElem?_eq_getElem hlt
    generalize L[j] = x at hy
    obtain ⟨a1, a2, a3⟩ := n3 j x hy
    have hxm := List.mem_of_getElem? hy
    have nxt : ys_177_71 e d A (nmC nm) (some S) (Int32.ofNat o) (Int32.ofNat X.length) (Int32.ofNat j) κ σ Q := by
      unfold ys_177_71
      rw [oN_s]
      exact ys_177_3_ok (in8 hA) (ih (j + 1) (by omega))
    have b := bdk (k := j) (m := 900) (by omega) (by omega)
    unfold ys_177_3
    rw [n1, if_pos ((oN_lt (by omega) (by omega)).mpr hlt), if_pos ((oN_lt1 (b := 900) (c := 900) rfl (by omega) (by omega)).mpr (by omega)), oN_n (by omega), a1, a2, a3]
    refine ⟨b, my_if (fun c => ⟨b, my_if (fun c2 => ⟨b, ?_⟩) (fun c2 => nxt)⟩) (fun c => nxt)⟩
    refine s_13x hA hS (hL x hxm) hd (fun bb => ?_)
    rw [my_kI_v]
    cases bb with
    | false => rw [if_pos (show bI false = 0 from rfl)]; exact nxt
    | true => rw [if_neg (by decide)]; exact hQ j hlt
end MWF
