
/-! ===== the class's log: reading ===== -/
def LgC (A : Nat) (E : List Et) (σ : my_S) : Prop := σ.1 A 1 = Int32.ofNat (els E) ∧ (∀ i x, (en E 0)[i]? = some x → σ.1 (A + 1) i = x) ∧ (σ.1 A 6 = Int32.ofNat (itp E).length ∧ ∀ j y, (itp E)[j]? = some y → σ.2.1 (A + 2) j = nmC (eN y.2) ∧ σ.1 (A + 3) j = Int32.ofNat (y.1 + 1 + (eN y.2).length) ∧ σ.1 (A + 4) j = Int32.ofNat (eC y.2).length) ∧ σ.1 A 9 = Int32.ofNat (rcp E).length ∧ ∀ j y, (rcp E)[j]? = some y → σ.2.1 (A + 5) j = nmC (eN y.2) ∧ σ.1 (A + 6) j = Int32.ofNat (y.1 + 1 + (eN y.2).length)
def oc6 (C : List Int32) (σ : my_S) : Prop := σ.1 92 1 = Int32.ofNat (g1 C 0) ∧ σ.1 92 2 = Int32.ofNat (g2 C 1) ∧ σ.1 92 3 = Int32.ofNat (g1 C 3) ∧ σ.1 92 4 = Int32.ofNat (g2 C 4) ∧ σ.1 92 5 = Int32.ofNat (g2 C 6) ∧ σ.1 92 6 = Int32.ofNat (g2 C 8)
def OcC (C : List Int32) (σ : my_S) : Prop := oc6 C σ ∧ σ.1 92 7 = Int32.ofNat (g1 C 10) ∧ ∀ j, j < g1 C 10 → σ.1 93 j = Int32.ofNat (g2 C (11 + 2 * j))
abbrev oF (c : Nat) (_ : Nat) : Prop := c = 92 ∨ c = 93
section MLC
variable {e : my_E} {d : Nat} {κ : my_K} {σ σ' : my_S} {Q : my_O → my_K → my_S → Prop} {A : Nat} {E : List Et} {y : Nat × Et} {nm : List Nat} {F : Nat → Nat → Prop}
theorem LgC_o (h : LgC A E σ) (f : eqp F σ σ') (hF : ∀ c k, F c k → ¬ (A + 1 ≤ c ∧ c ≤ A + 6) ∧ (c = A → k ≠ 1 ∧ k ≠ 6 ∧ k ≠ 9)) : LgC A E σ' := by
  obtain ⟨h1, h2, h3, h4, h5⟩ := h
  have r1 : ∀ {c k : Nat}, (A + 1 ≤ c ∧ c ≤ A + 6) → σ'.1 c k = σ.1 c k ∧ σ'.2.1 c k = σ.2.1 c k := fun hh => ⟨eqp_g f (fun h2 => (hF _ _ h2).1 hh), (f _ _ (fun h2 => (hF _ _ h2).1 hh)).2.1⟩
  have r2 : ∀ {k : Nat}, (k = 1 ∨ k = 6 ∨ k = 9) → σ'.1 A k = σ.1 A k := fun hh => eqp_g f (fun h2 => by have := (hF _ _ h2).2 rfl; omega)
  refine ⟨(r2 (by omega)).trans h1, fun i x hx => (r1 (by omega)).1.trans (h2 i x hx), ⟨(r2 (by omega)).trans h3.1, fun j y hy => ?_⟩, (r2 (by omega)).trans h4, fun j y hy => ?_⟩
  · obtain ⟨a, b, c⟩ := h3.2 j y hy
    exact ⟨(r1 (by omega)).2.trans a, (r1 (by omega)).1.trans b, (r1 (by omega)).1.trans c⟩
  · obtain ⟨a, b⟩ := h5 j y hy
    exact ⟨(r1 (by omega)).2.trans a, (r1 (by omega)).1.trans b⟩
theorem in8 (hA : lg2 A) : my_in 8 A := by
  unfold my_in
  rcases hA with rfl | rfl <;> decide +kernel
theorem in9 : my_in 9 92 := by unfold my_in; decide +kernel
theorem c_3l {v : Nat} (hA : lg2 A) (hv : v < 7747) (hd : 1 ≤ d) (hQ : Q (.inl (some (.inl (σ.1 (A + 1) v &&& 255)))) κ σ) : my_M e d 3 [.inr (.inr (some (A + 1))), .inl (Int32.ofNat v)] κ σ Q := by
  obtain ⟨d, rfl⟩ := dS 1 hd
  have b := bdk (k := v) (m := 7747) hv (by omega)
  rcases hA with rfl | rfl
  · refine yb95_3 ?_
    unfold yb95_3_0 yb95_3_21
    rw [if_neg (oN_0 (by omega)), if_pos ((oN_lt1 (b := 7747) (c := 7747) rfl (by omega) (by omega)).mpr hv), oN_n (by omega)]
    exact ⟨b, hQ⟩
  · refine yb102_3 ?_
    unfold yb102_3_0 yb102_3_21
    rw [if_neg (oN_0 (by omega)), if_pos ((oN_lt1 (b := 7747) (c := 7747) rfl (by omega) (by omega)).mpr hv), oN_n (by omega)]
    exact ⟨b, hQ⟩
theorem or8 {a b : Nat} (ha : a < 256) (hb : b < 256) : Int32.ofNat a ||| (Int32.ofNat b <<< (8 &&& 31)) = Int32.ofNat (a + 256 * b) := by
  have := orsh (a + 256 * b) (j := 1) (by omega)
  rw [show (2 : Nat) ^ (8 * 1) = 256 from rfl, show (2 : Nat) ^ (8 * (1 + 1)) = 65536 from rfl, show (a + 256 * b) % 256 = a by omega, show (a + 256 * b) / 256 % 256 = b by omega, show (a + 256 * b) % 65536 = a + 256 * b by omega] at this
  exact this
theorem lg_b {i : Nat} (hW : LgW E) (h : LgC A E σ) (hy : y ∈ pse E 0) (hi : i < (eC y.2).length) : σ.1 (A + 1) (y.1 + 1 + (eN y.2).length + i) &&& 255 = Int32.ofNat (g1 (eC y.2) i) ∧ y.1 + 1 + (eN y.2).length + i < 7747 := by
  obtain ⟨b, hb, hb2⟩ := g1_e hi
  obtain ⟨p1, p2⟩ := pse_b hy
  have h3 := p1 (1 + (eN y.2).length + i) b (by rw [List.getElem?_append_right (by rw [nmE_l]; omega), nmE_l, show 1 + (eN y.2).length + i - (1 + (eN y.2).length) = i by omega]; exact hb)
  have hw := hW.2
  refine ⟨?_, by omega⟩
  rw [show y.1 + 1 + (eN y.2).length + i = y.1 + (1 + (eN y.2).length + i) by omega, h.2.1 _ b h3]
  exact hb2
theorem c_3y {i : Nat} {v : Int32} (hA : lg2 A) (hW : LgW E) (h : LgC A E σ) (f : eqp oF σ σ') (hy : y ∈ pse E 0) (hi : i < (eC y.2).length) (hv : v = Int32.ofNat (y.1 + 1 + (eN y.2).length + i)) (hd : 1 ≤ d) (hQ : Q (.inl (some (.inl (Int32.ofNat (g1 (eC y.2) i))))) κ σ') : my_M e d 3 [.inr (.inr (some (A + 1))), .inl v] κ σ' Q := by
  obtain ⟨h1, h2⟩ := lg_b hW h hy hi
  rw [hv]
  refine c_3l hA h2 hd ?_
  rw [eqp_g f (by unfold lg2 at hA; omega), h1]
  exact hQ
theorem c_12y {i : Nat} {v : Int32} (hA : lg2 A) (hW : LgW E) (h : LgC A E σ) (f : eqp oF σ σ') (hy : y ∈ pse E 0) (hi : i + 1 < (eC y.2).length) (hv : v = Int32.ofNat (y.1 + 1 + (eN y.2).length + i)) (hd : 2 ≤ d) (hQ : Q (.inl (some (.inl (Int32.ofNat (g2 (eC y.2) i))))) κ σ') : my_M e d 12 [.inr (.inr (some (A + 1))), .inl v] κ σ' Q := by
  obtain ⟨d, rfl⟩ := dS 1 (show 1 ≤ d by omega)
  refine ys_12 ?_
  unfold ys_12_0
  refine c_3y hA hW h f hy (show i < _ by omega) hv (by omega) ?_
  rw [my_kI_v]
  refine c_3y hA hW h f hy hi (by rw [hv, oN_s]; rfl) (by omega) ?_
  rw [my_kI_v, or8 (g1_lt _ _) (g1_lt _ _)]
  exact hQ
theorem oF_u {k : Nat} {x : Int32} (f : eqp oF σ σ') : eqp oF σ (my_uI σ' 92 k x) := eqp_I f (Or.inl rfl)
theorem c_172l (hA : lg2 A) (hW : LgW E) (h : LgC A E σ) (hy : y ∈ pse E 0) (hC : (eC y.2).length = 11 + 2 * g1 (eC y.2) 10) (h30 : g1 (eC y.2) 10 ≤ 30) (hd : 3 ≤ d) (hQ : ∀ σ', OcC (eC y.2) σ' → eqp oF σ σ' → Q (.inl (some (.inl 1))) κ σ') : ∀ (m j : Nat) (σ' : my_S), j + m = g1 (eC y.2) 10 → eqp oF σ σ' → oc6 (eC y.2) σ' → σ'.1 92 7 = Int32.ofNat j → (∀ i, i < j → σ'.1 93 i = Int32.ofNat (g2 (eC y.2) (11 + 2 * i))) → ys_172_172 e d A (some 92) (Int32.ofNat (y.1 + 1 + (eN y.2).length)) (Int32.ofNat (g1 (eC y.2) 10)) (Int32.ofNat j) κ σ' Q := by
  intro m
  induction m with
  | zero =>
    intro j σ' hj f o6 o7 o8
    have : j = g1 (eC y.2) 10 := by omega
    subst this
    unfold ys_172_172
    rw [if_neg (by rw [oN_lt (by omega) (by omega)]; omega)]
    exact hQ σ' ⟨o6, o7, o8⟩ f
  | succ m ih =>
    intro j σ' hj f o6 o7 o8
    obtain ⟨d, rfl⟩ := dS 1 (show 1 ≤ d by omega)
    unfold ys_172_172
    rw [if_pos ((oN_lt (by omega) (by omega)).mpr (by omega))]
    refine c_12y (i := 11 + 2 * j) hA hW h f hy (by omega) (by rw [show (11 : Int32) = Int32.ofNat 11 from rfl, show (2 : Int32) = Int32.ofNat 2 from rfl, ← Int32.ofNat_mul, oN_a, oN_a]; congr 1; omega) (by omega) ?_
    rw [my_kI_v]
    refine ⟨92, rfl, in9, ys_189 ?_⟩
    unfold ys_189_0 ys_189_39
    rw [o7, if_neg (oN_0 (by omega)), if_pos ((oN_lt1 (b := 30) (c := 30) rfl (by omega) (by omega)).mpr (by omega)), oN_n (by omega), oN_s]
    refine ⟨bdk (by omega) (by omega), ?_⟩
    rw [my_k0_v]
    refine ys_172_172_ok (in8 hA) (ih (j + 1) _ (by omega) (eqp_I (eqp_I f (Or.inr rfl)) (Or.inl rfl)) ?_ uI_s (fun i hi => ?_))
    · obtain ⟨a1, a2, a3, a4, a5, a6⟩ := o6
      refine ⟨?_, ?_, ?_, ?_, ?_, ?_⟩ <;> rw [my_uI_1, if_neg (by omega), my_uI_1, if_neg (by omega)] <;> assumption
    · rw [my_uI_1, if_neg (by omega), my_uI_1]
      by_cases c : i = j
      · rw [if_pos ⟨rfl, c⟩, c]
      · rw [if_neg (by omega)]; exact o8 i (by omega)
theorem lrc_s {L : List (Nat × Et)} {n : Nat} (hy : L[n]? = some y) : lrc L nm (n + 1) = if eN y.2 = nm then some y else lrc L nm n := by rw [lrc, hy]
theorem c_172k (hA : lg2 A) (hW : LgW E) (h : LgC A E σ) (hl : isN nm) (hd : 3 ≤ d) (hx : lrc (rcp E) nm (rcp E).length = none → Q (.inl (some (.inl 0))) κ σ) (hQ : ∀ y, lrc (rcp E) nm (rcp E).length = some y → ∀ σ', OcC (eC y.2) σ' → eqp oF σ σ' → Q (.inl (some (.inl 1))) κ σ') : ∀ (n : Nat), n ≤ (rcp E).length → lrc (rcp E) nm n = lrc (rcp E) nm (rcp E).length → ys_172_16 e d A (some 92) (nmC nm) (Int32.ofNat n - 1) κ σ Q := by
  have hn := LgW_n hW
  intro n
  induction n with
  | zero =>
    intro _ hr
    unfold ys_172_16 ys_172_39
    rw [if_pos (by decide), if_pos (by decide)]
    exact hx hr.symm
  | succ n ih =>
    intro hl' hr
    have hlt : n < (rcp E).length := by omega
    have hy := List.getElem?_eq_getElem hlt
    generalize (rcp E)[n] = y at hy
    have hym := rcp_m (List.mem_of_getElem? hy)
    have hwf := wfl_p hW.1 hym.1
    obtain ⟨r1, r2⟩ := h.2.2.2.2 n y hy
    unfold ys_172_16
    rw [oN_m, if_neg (oN_0 (by omega)), oN_n (by omega), r1]
    refine ⟨bdk (by omega) (by omega), ?_⟩
    rw [lrc_s hy] at hr
    by_cases c : eN y.2 = nm
    · rw [if_pos c] at hr
      rw [if_pos (lg_cmp_0.mpr (by rw [c]))]
      unfold ys_172_39
      rw [if_neg (oN_0 (by omega)), oN_n (by omega), r2]
      have hk : eK y.2 = 2 := by
        rcases hwf.2.2.2 with hh | hh
        · exact absurd hh.1 hym.2
        · exact hh.1
      have hc : (eC y.2).length = 11 + 2 * g1 (eC y.2) 10 ∧ g1 (eC y.2) 10 ≤ 30 := by
        rcases hwf.2.2.2 with hh | hh
        · exact absurd hh.1 hym.2
        · exact ⟨hh.2.1, hh.2.2.1⟩
      obtain ⟨hC, h30⟩ := hc
      have f0 : eqp oF σ (my_uL σ 92 0 (nmC nm)) := eqp_L eqp_rf (Or.inl rfl)
      refine ⟨bdk (by omega) (by omega), 92, rfl, in9, c_3y (i := 0) hA hW h f0 hym.1 (by omega) rfl (by omega) ?_⟩
      rw [my_kI_v]
      refine ⟨92, rfl, in9, c_12y (i := 1) hA hW h (oF_u f0) hym.1 (by omega) (oN_s _) (by omega) ?_⟩
      rw [my_kI_v]
      refine ⟨92, rfl, in9, c_3y (i := 3) hA hW h (oF_u (oF_u f0)) hym.1 (by omega) (oN_a _ 3) (by omega) ?_⟩
      rw [my_kI_v]
      refine ⟨92, rfl, in9, c_12y (i := 4) hA hW h (oF_u (oF_u (oF_u f0))) hym.1 (by omega) (oN_a _ 4) (by omega) ?_⟩
      rw [my_kI_v]
      refine ⟨92, rfl, in9, c_12y (i := 6) hA hW h (oF_u (oF_u (oF_u (oF_u f0)))) hym.1 (by omega) (oN_a _ 6) (by omega) ?_⟩
      rw [my_kI_v]
      refine ⟨92, rfl, in9, c_12y (i := 8) hA hW h (oF_u (oF_u (oF_u (oF_u (oF_u f0))))) hym.1 (by omega) (oN_a _ 8) (by omega) ?_⟩
      rw [my_kI_v]
      refine ⟨92, rfl, in9, 92, rfl, in9, c_3y (i := 10) hA hW h (oF_u (oF_u (oF_u (oF_u (oF_u (oF_u (oF_u f0))))))) hym.1 (by omega) (oN_a _ 10) (by omega) ?_⟩
      rw [my_kI_v]
      refine ys_172_172_ok (in8 hA) (c_172l hA hW h hym.1 hC h30 (by omega) (hQ y hr.symm) _ 0 _ (Nat.zero_add _) (oF_u (oF_u (oF_u (oF_u (oF_u (oF_u (oF_u f0))))))) ?_ uI_s (fun i hi => by omega))
      refine ⟨?_, ?_, ?_, ?_, ?_, ?_⟩
      · rw [my_uI_1, if_neg (by omega), my_uI_1, if_neg (by omega), my_uI_1, if_neg (by omega), my_uI_1, if_neg (by omega), my_uI_1, if_neg (by omega), my_uI_1, if_neg (by omega), my_uI_1, if_pos ⟨rfl, rfl⟩]
      · rw [my_uI_1, if_neg (by omega), my_uI_1, if_neg (by omega), my_uI_1, if_neg (by omega), my_uI_1, if_neg (by omega), my_uI_1, if_neg (by omega), my_uI_1, if_pos ⟨rfl, rfl⟩]
      · rw [my_uI_1, if_neg (by omega), my_uI_1, if_neg (by omega), my_uI_1, if_neg (by omega), my_uI_1, if_neg (by omega), my_uI_1, if_pos ⟨rfl, rfl⟩]
      · rw [my_uI_1, if_neg (by omega), my_uI_1, if_neg (by omega), my_uI_1, if_neg (by omega), my_uI_1, if_pos ⟨rfl, rfl⟩]
      · rw [my_uI_1, if_neg (by omega), my_uI_1, if_neg (by omega), my_uI_1, if_pos ⟨rfl, rfl⟩]
      · rw [my_uI_1, if_neg (by omega), my_uI_1, if_pos ⟨rfl, rfl⟩]
    · rw [if_neg c] at hr
      rw [if_neg (fun hh => c ((nmC_inj hwf.1 hl).mp (lg_cmp_0.mp hh)))]
      refine ys_172_16_ok (in8 hA) ?_
      have := ih (by omega) hr
      rw [show Int32.ofNat n + Int32.ofInt (-1) = Int32.ofNat n - 1 by rw [Int32.sub_eq_add_neg]; rfl]
      exact this
theorem c_172 (hA : lg2 A) (hW : LgW E) (h : LgC A E σ) (hl : isN nm) (hd : 4 ≤ d) (hx : lrc (rcp E) nm (rcp E).length = none → Q (.inl (some (.inl 0))) κ σ) (hQ : ∀ y, lrc (rcp E) nm (rcp E).length = some y → ∀ σ', OcC (eC y.2) σ' → eqp oF σ σ' → Q (.inl (some (.inl 1))) κ σ') : my_M e d 172 [.inr (.inr (some A)), .inr (.inr (some 92)), .inr (.inl (nmC nm))] κ σ Q := by
  obtain ⟨d, rfl⟩ := dS 1 (show 1 ≤ d by omega)
  have hn := LgW_n hW
  refine ys_172 (in8 hA) ?_
  unfold ys_172_0
  rw [h.2.2.2.1, if_neg (fun hh => by have := (oN_lt (p := 500) (by omega) (by omega)).mp hh; omega)]
  exact ys_172_16_ok (in8 hA) (c_172k hA hW h hl (by omega) hx hQ _ (Nat.le_refl _) rfl)
/-- an entry by its number -/
theorem c_174 {j : Nat} (hA : lg2 A) (hW : LgW E) (h : LgC A E σ) (hj : (itp E)[j]? = some y) (hd : 1 ≤ d) (hQ : Q (.inl (some (.inl (Int32.ofNat (y.1 + 1 + (eN y.2).length))))) κ σ) : my_M e d 174 [.inr (.inr (some A)), .inl (Int32.ofNat j)] κ σ Q := by
  obtain ⟨d, rfl⟩ := dS 1 hd
  have hn := LgW_n hW
  have hl := (List.getElem?_eq_some_iff.mp hj).1
  refine ys_174 (in8 hA) ?_
  unfold ys_174_0 ys_174_31
  rw [if_neg (oN_0 (by omega)), h.2.2.1.1, if_pos ((oN_lt (by omega) (by omega)).mpr hl), if_pos ((oN_lt1 (b := 900) (c := 900) rfl (by omega) (by omega)).mpr (by omega)), oN_n (by omega), (h.2.2.1.2 j y hj).2.1]
  exact ⟨bdk (by omega) (by omega), hQ⟩
theorem c_175 {j : Nat} (hA : lg2 A) (hW : LgW E) (h : LgC A E σ) (hj : (itp E)[j]? = some y) (hd : 1 ≤ d) (hQ : Q (.inl (some (.inl (Int32.ofNat (eC y.2).length)))) κ σ) : my_M e d 175 [.inr (.inr (some A)), .inl (Int32.ofNat j)] κ σ Q := by
  obtain ⟨d, rfl⟩ := dS 1 hd
  have hn := LgW_n hW
  have hl := (List.getElem?_eq_some_iff.mp hj).1
  refine ys_175 (in8 hA) ?_
  unfold ys_175_0 ys_175_31
  rw [if_neg (oN_0 (by omega)), h.2.2.1.1, if_pos ((oN_lt (by omega) (by omega)).mpr hl), if_pos ((oN_lt1 (b := 900) (c := 900) rfl (by omega) (by omega)).mpr (by omega)), oN_n (by omega), (h.2.2.1.2 j y hj).2.2]
  exact ⟨bdk (by omega) (by omega), hQ⟩
theorem c_176 {j : Nat} (hA : lg2 A) (hW : LgW E) (h : LgC A E σ) (hj : (itp E)[j]? = some y) (hd : 1 ≤ d) (hQ : Q (.inl (some (.inr (.inl (nmC (eN y.2)))))) κ σ) : my_M e d 176 [.inr (.inr (some A)), .inl (Int32.ofNat j)] κ σ Q := by
  obtain ⟨d, rfl⟩ := dS 1 hd
  have hn := LgW_n hW
  have hl := (List.getElem?_eq_some_iff.mp hj).1
  refine ys_176 (in8 hA) ?_
  unfold ys_176_0 ys_176_31
  rw [if_neg (oN_0 (by omega)), h.2.2.1.1, if_pos ((oN_lt (by omega) (by omega)).mpr hl), if_pos ((oN_lt1 (b := 900) (c := 900) rfl (by omega) (by omega)).mpr (by omega)), oN_n (by omega), (h.2.2.1.2 j y hj).1]
  exact ⟨bdk (by omega) (by omega), hQ⟩
theorem c_190 {j : Nat} {C : List Int32} (h : OcC C σ) (h30 : g1 C 10 ≤ 30) (hj : j < g1 C 10) (hd : 1 ≤ d) (hQ : Q (.inl (some (.inl (Int32.ofNat (g2 C (11 + 2 * j)))))) κ σ) : my_M e d 190 [.inr (.inr (some 92)), .inl (Int32.ofNat j)] κ σ Q := by
  obtain ⟨d, rfl⟩ := dS 1 hd
  refine ys_190 ?_
  unfold ys_190_0 ys_190_31
  rw [if_neg (oN_0 (by omega)), h.2.1, if_pos ((oN_lt (by omega) (by omega)).mpr hj), if_pos ((oN_lt1 (b := 30) (c := 30) rfl (by omega) (by omega)).mpr (by omega)), oN_n (by omega), h.2.2 j hj]
  exact ⟨bdk (by omega) (by omega), hQ⟩
end MLC
