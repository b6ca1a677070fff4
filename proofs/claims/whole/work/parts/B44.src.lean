
/-! ===== sameBytes of a log with a source, whatever stands there ===== -/
section MSX
variable {e : my_E} {d : Nat} {κ : my_K} {σ : my_S} {Q : my_O → my_K → my_S → Prop} {o1 o2 n : Nat}
theorem c13x_95_109 (h1 : 7747 < o1 + n) (h3 : o1 ≤ 7747) (h4 : n ≤ 7747) (h2 : o2 ≤ 7747) (hd : 1 ≤ d) (hQ : Q (.inl (some (.inl 0))) κ σ) : my_M e d 13 [.inr (.inr (some 95)), .inl (Int32.ofNat o1), .inr (.inr (some 109)), .inl (Int32.ofNat o2), .inl (Int32.ofNat n)] κ σ Q := by
  obtain ⟨d, rfl⟩ := dS 1 hd
  refine yp95x109_13 ?_
  unfold yp95x109_13_0 yp95x109_13_26
  rw [if_neg (oN_0 (by omega)), if_neg (oN_0 (by omega)), ← Int32.ofNat_add, if_pos (show (7747 : Int32) < Int32.ofNat (o1 + n) from (oN_lt (p := 7747) (by omega) (by omega)).mpr h1)]
  exact hQ
theorem c13x_95_239 (h1 : 7747 < o1 + n) (h3 : o1 ≤ 7747) (h4 : n ≤ 7747) (h2 : o2 ≤ 7747) (hd : 1 ≤ d) (hQ : Q (.inl (some (.inl 0))) κ σ) : my_M e d 13 [.inr (.inr (some 95)), .inl (Int32.ofNat o1), .inr (.inr (some 239)), .inl (Int32.ofNat o2), .inl (Int32.ofNat n)] κ σ Q := by
  obtain ⟨d, rfl⟩ := dS 1 hd
  refine yp95x239_13 ?_
  unfold yp95x239_13_0 yp95x239_13_26
  rw [if_neg (oN_0 (by omega)), if_neg (oN_0 (by omega)), ← Int32.ofNat_add, if_pos (show (7747 : Int32) < Int32.ofNat (o1 + n) from (oN_lt (p := 7747) (by omega) (by omega)).mpr h1)]
  exact hQ
theorem c13x_95_369 (h1 : 7747 < o1 + n) (h3 : o1 ≤ 7747) (h4 : n ≤ 7747) (h2 : o2 ≤ 7747) (hd : 1 ≤ d) (hQ : Q (.inl (some (.inl 0))) κ σ) : my_M e d 13 [.inr (.inr (some 95)), .inl (Int32.ofNat o1), .inr (.inr (some 369)), .inl (Int32.ofNat o2), .inl (Int32.ofNat n)] κ σ Q := by
  obtain ⟨d, rfl⟩ := dS 1 hd
  refine yp95x369_13 ?_
  unfold yp95x369_13_0 yp95x369_13_26
  rw [if_neg (oN_0 (by omega)), if_neg (oN_0 (by omega)), ← Int32.ofNat_add, if_pos (show (7747 : Int32) < Int32.ofNat (o1 + n) from (oN_lt (p := 7747) (by omega) (by omega)).mpr h1)]
  exact hQ
theorem c13x_102_109 (h1 : 7747 < o1 + n) (h3 : o1 ≤ 7747) (h4 : n ≤ 7747) (h2 : o2 ≤ 7747) (hd : 1 ≤ d) (hQ : Q (.inl (some (.inl 0))) κ σ) : my_M e d 13 [.inr (.inr (some 102)), .inl (Int32.ofNat o1), .inr (.inr (some 109)), .inl (Int32.ofNat o2), .inl (Int32.ofNat n)] κ σ Q := by
  obtain ⟨d, rfl⟩ := dS 1 hd
  refine yp102x109_13 ?_
  unfold yp102x109_13_0 yp102x109_13_26
  rw [if_neg (oN_0 (by omega)), if_neg (oN_0 (by omega)), ← Int32.ofNat_add, if_pos (show (7747 : Int32) < Int32.ofNat (o1 + n) from (oN_lt (p := 7747) (by omega) (by omega)).mpr h1)]
  exact hQ
theorem c13x_102_239 (h1 : 7747 < o1 + n) (h3 : o1 ≤ 7747) (h4 : n ≤ 7747) (h2 : o2 ≤ 7747) (hd : 1 ≤ d) (hQ : Q (.inl (some (.inl 0))) κ σ) : my_M e d 13 [.inr (.inr (some 102)), .inl (Int32.ofNat o1), .inr (.inr (some 239)), .inl (Int32.ofNat o2), .inl (Int32.ofNat n)] κ σ Q := by
  obtain ⟨d, rfl⟩ := dS 1 hd
  refine yp102x239_13 ?_
  unfold yp102x239_13_0 yp102x239_13_26
  rw [if_neg (oN_0 (by omega)), if_neg (oN_0 (by omega)), ← Int32.ofNat_add, if_pos (show (7747 : Int32) < Int32.ofNat (o1 + n) from (oN_lt (p := 7747) (by omega) (by omega)).mpr h1)]
  exact hQ
theorem c13x_102_369 (h1 : 7747 < o1 + n) (h3 : o1 ≤ 7747) (h4 : n ≤ 7747) (h2 : o2 ≤ 7747) (hd : 1 ≤ d) (hQ : Q (.inl (some (.inl 0))) κ σ) : my_M e d 13 [.inr (.inr (some 102)), .inl (Int32.ofNat o1), .inr (.inr (some 369)), .inl (Int32.ofNat o2), .inl (Int32.ofNat n)] κ σ Q := by
  obtain ⟨d, rfl⟩ := dS 1 hd
  refine yp102x369_13 ?_
  unfold yp102x369_13_0 yp102x369_13_26
  rw [if_neg (oN_0 (by omega)), if_neg (oN_0 (by omega)), ← Int32.ofNat_add, if_pos (show (7747 : Int32) < Int32.ofNat (o1 + n) from (oN_lt (p := 7747) (by omega) (by omega)).mpr h1)]
  exact hQ
theorem c13x_95_102 (h1 : 7747 < o1 + n) (h3 : o1 ≤ 7747) (h4 : n ≤ 7747) (h2 : o2 ≤ 7747) (hd : 1 ≤ d) (hQ : Q (.inl (some (.inl 0))) κ σ) : my_M e d 13 [.inr (.inr (some 95)), .inl (Int32.ofNat o1), .inr (.inr (some 102)), .inl (Int32.ofNat o2), .inl (Int32.ofNat n)] κ σ Q := by
  obtain ⟨d, rfl⟩ := dS 1 hd
  refine yp95x102_13 ?_
  unfold yp95x102_13_0 yp95x102_13_26
  rw [if_neg (oN_0 (by omega)), if_neg (oN_0 (by omega)), ← Int32.ofNat_add, if_pos (show (7747 : Int32) < Int32.ofNat (o1 + n) from (oN_lt (p := 7747) (by omega) (by omega)).mpr h1)]
  exact hQ
theorem c13x_102_95 (h1 : 7747 < o1 + n) (h3 : o1 ≤ 7747) (h4 : n ≤ 7747) (h2 : o2 ≤ 7747) (hd : 1 ≤ d) (hQ : Q (.inl (some (.inl 0))) κ σ) : my_M e d 13 [.inr (.inr (some 102)), .inl (Int32.ofNat o1), .inr (.inr (some 95)), .inl (Int32.ofNat o2), .inl (Int32.ofNat n)] κ σ Q := by
  obtain ⟨d, rfl⟩ := dS 1 hd
  refine yp102x95_13 ?_
  unfold yp102x95_13_0 yp102x95_13_26
  rw [if_neg (oN_0 (by omega)), if_neg (oN_0 (by omega)), ← Int32.ofNat_add, if_pos (show (7747 : Int32) < Int32.ofNat (o1 + n) from (oN_lt (p := 7747) (by omega) (by omega)).mpr h1)]
  exact hQ
/-- a source of bytes: a revision's or the other log's -/
def Src (A S o : Nat) (X : List Int32) (σ : my_S) : Prop := (∀ i x, X[i]? = some x → σ.1 S (o + i) = x) ∧ ((∃ rv, (rv = 108 ∨ rv = 238 ∨ rv = 368) ∧ S = rv + 1 ∧ o + X.length ≤ 6144) ∨ ∃ A', lg2 A' ∧ A' ≠ A ∧ S = A' + 1 ∧ o + X.length ≤ 7747)
theorem Src_o {A S o : Nat} {X : List Int32} {F : Nat → Nat → Prop} {σ' : my_S} (h : Src A S o X σ) (f : eqp F σ σ') (hF : ∀ c k, F c k → c ≠ S) : Src A S o X σ' := ⟨fun i x hx => (eqp_g f (fun hh => hF _ _ hh rfl)).trans (h.1 i x hx), h.2⟩
theorem s_13 {A S o : Nat} {X Y : List Int32} (hA : lg2 A) (h : Src A S o X σ) (hXY : X.length = Y.length) (h1 : o1 + Y.length ≤ 7747) (vY : ∀ i x, Y[i]? = some x → σ.1 (A + 1) (o1 + i) = x) (hd : 1 ≤ d) (hQ : Q (.inl (some (.inl (bI (decide (Y = X)))))) κ σ) : my_M e d 13 [.inr (.inr (some (A + 1))), .inl (Int32.ofNat o1), .inr (.inr (some S)), .inl (Int32.ofNat o), .inl (Int32.ofNat Y.length)] κ σ Q := by
  rcases h with ⟨hv, ⟨rv, hrv, rfl, ho⟩ | ⟨A', hA', hne, rfl, ho⟩⟩
  · exact c13_lr hrv hA hXY h1 (by omega) vY hv hd hQ
  · exact c13_ll hA hA' hne.symm hXY h1 (by omega) vY hv hd hQ
theorem s_13x {A S o : Nat} {X : List Int32} (hA : lg2 A) (h : Src A S o X σ) (h1 : o1 ≤ 7747) (hd : 1 ≤ d) (hQ : ∀ b, Q (.inl (some (.inl (bI b)))) κ σ) : my_M e d 13 [.inr (.inr (some (A + 1))), .inl (Int32.ofNat o1), .inr (.inr (some S)), .inl (Int32.ofNat o), .inl (Int32.ofNat X.length)] κ σ Q := by
  by_cases c : o1 + X.length ≤ 7747
  · have hl : ((List.range X.length).map (fun i => σ.1 (A + 1) (o1 + i))).length = X.length := by rw [List.length_map, List.length_range]
    have := s_13 (Y := (List.range X.length).map (fun i => σ.1 (A + 1) (o1 + i))) (o1 := o1) (Q := Q) (κ := κ) (e := e) hA h hl.symm (by omega) (fun i x hx => by
      have hi := (List.getElem?_eq_some_iff.mp hx).1
      rw [hl] at hi
      rw [List.getElem?_map, List.getElem?_range hi] at hx
      exact Option.some.inj hx) hd (hQ _)
    rw [hl] at this
    exact this
  · rcases h with ⟨hv, ⟨rv, hrv, rfl, ho⟩ | ⟨A', hA', hne, rfl, ho⟩⟩
    · rcases hrv with rfl | rfl | rfl <;> rcases hA with rfl | rfl
      · exact c13x_95_109 (by omega) h1 (by omega) (by omega) hd (hQ false)
      · exact c13x_102_109 (by omega) h1 (by omega) (by omega) hd (hQ false)
      · exact c13x_95_239 (by omega) h1 (by omega) (by omega) hd (hQ false)
      · exact c13x_102_239 (by omega) h1 (by omega) (by omega) hd (hQ false)
      · exact c13x_95_369 (by omega) h1 (by omega) (by omega) hd (hQ false)
      · exact c13x_102_369 (by omega) h1 (by omega) (by omega) hd (hQ false)
    · rcases hA with rfl | rfl <;> rcases hA' with rfl | rfl
      · exact absurd rfl hne
      · exact c13x_95_102 (by omega) h1 (by omega) (by omega) hd (hQ false)
      · exact c13x_102_95 (by omega) h1 (by omega) (by omega) hd (hQ false)
      · exact absurd rfl hne
theorem s_3 {A S o i : Nat} {X : List Int32} {x : Int32} (h : Src A S o X σ) (hi : X[i]? = some x) (hd : 1 ≤ d) (hQ : Q (.inl (some (.inl (x &&& 255)))) κ σ) : my_M e d 3 [.inr (.inr (some S)), .inl (Int32.ofNat (o + i))] κ σ Q := by
  have hil := (List.getElem?_eq_some_iff.mp hi).1
  rcases h with ⟨hv, ⟨rv, hrv, rfl, ho⟩ | ⟨A', hA', hne, rfl, ho⟩⟩
  · exact c_3r hrv (by omega) hd (by rw [hv i x hi]; exact hQ)
  · exact c_3l hA' (by omega) hd (by rw [hv i x hi]; exact hQ)
end MSX
