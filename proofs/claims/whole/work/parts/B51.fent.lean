
/-! ===== the log that the reference makes anew ===== -/
def NWy (E : List Int32) (σ : my_S) : Prop := σ.1 498 104 = Int32.ofNat E.length ∧ ∀ i x, E[i]? = some x → σ.1 555 i = x &&& 255
def nyF (c k : Nat) : Prop := c = 555 ∨ (c = 498 ∧ k = 104)
theorem NWy_o {F : Nat → Nat → Prop} {E : List Int32} {σ σ' : my_S} (h : NWy E σ) (he : eqp F σ σ') (hF : ∀ c k, F c k → c ≠ 555 ∧ (c = 498 → k ≠ 104)) : NWy E σ' := ⟨(eqp_g he (fun hh => (hF _ _ hh).2 rfl rfl)).trans h.1, fun i x hi => (eqp_g he (fun hh => (hF _ _ hh).1 rfl)).trans (h.2 i x hi)⟩
section MgB
variable {e : my_E} {d : Nat} {κ : my_K} {σ : my_S} {Q : my_O → my_K → my_S → Prop} {E : List Int32}
theorem g_324 {x v : Int32} (h : NWy E σ) (hx : x &&& 255 = v &&& 255) (hl : E.length < 20000) (hd : 1 ≤ d) (hQ : ∀ σ', NWy (E ++ [x]) σ' → eqp nyF σ σ' → Q (.inl none) κ σ') : my_M e d 324 [.inr (.inr (some 498)), .inl v] κ σ Q := by
  obtain ⟨d, rfl⟩ := dS 1 hd
  refine ys_324 ?_
  unfold ys_324_0
  rw [h.1]
  refine ⟨⟨by rw [oN_i (by omega)]; omega, by rw [oN_i (by omega)]; omega⟩, ?_⟩
  rw [oN_n (by omega), oN_s]
  refine hQ _ ⟨by rw [uI_s, List.length_append]; rfl, fun i y hi => ?_⟩ (eqp_I (eqp_I eqp_rf (Or.inl rfl)) (Or.inr ⟨rfl, rfl⟩))
  rw [my_uI_1, if_neg (by omega), my_uI_1]
  by_cases hil : i < E.length
  · rw [List.getElem?_append_left hil] at hi
    rw [if_neg (by omega)]
    exact h.2 i y hi
  · rw [List.getElem?_append_right (by omega)] at hi
    have hi0 : i - E.length = 0 := by
      by_cases hh : i - E.length = 0
      · exact hh
      · rw [List.getElem?_eq_none (by simp; omega)] at hi; cases hi
    rw [hi0] at hi
    cases hi
    rw [if_pos (by omega), hx]
theorem g_324b {v : Int32} (h : NWy E σ) (hl : E.length + 1 ≤ 20000) (hd : 1 ≤ d) (hQ : ∀ σ', NWy (E ++ bts v 1 0) σ' → eqp nyF σ σ' → Q (.inl none) κ σ') : my_M e d 324 [.inr (.inr (some 498)), .inl v] κ σ Q := g_324 h (bt_0 v) (by omega) hd hQ
theorem g_323 {v : Int32} (h : NWy E σ) (hl : E.length + 2 ≤ 20000) (hd : 2 ≤ d) (hQ : ∀ σ', NWy (E ++ bts v 2 0) σ' → eqp nyF σ σ' → Q (.inl none) κ σ') : my_M e d 323 [.inr (.inr (some 498)), .inl v] κ σ Q := by
  obtain ⟨d, rfl⟩ := dS 1 (show 1 ≤ d by omega)
  refine ys_323 ?_
  unfold ys_323_0
  refine g_324 h (bt_0 v) (by omega) (by omega) (fun σ1 g1 f1 => ?_)
  rw [my_k0_v]
  refine g_324 g1 (bt_1 v) (by simp; omega) (by omega) (fun σ2 g2 f2 => ?_)
  rw [my_k0_v]
  rw [List.append_assoc] at g2
  exact hQ σ2 g2 (eqp_tr f1 f2)
end MgB
/-! ===== the reference: the number of an item's entry ===== -/
/-- what is fresh: the items, their entries -/
def frE (As : List Ri) (I : List It) (K : List Nat) : List Et := K.map (fun k => match As[k]? with
  | none => (1, [], [])
  | some a => (1, riN a, ib I (rwA (As.take k)).length a))
def FrR (As : List Ri) (I : List It) (E : List Et) (K : List Nat) (σ : my_S) : Prop := FRy (en (frE As I K) (nit E)) σ ∧ σ.1 498 99 = Int32.ofNat K.length ∧ K.length ≤ 40 ∧ (∀ (i k : Nat), K[i]? = some k → σ.1 552 i = Int32.ofNat k) ∧ ∀ k ∈ K, k < As.length
def frF (c k : Nat) : Prop := fyF c k ∨ (c = 498 ∧ k = 99) ∨ c = 552
section MRG
variable {As : List Ri} {I : List It} {rv : Nat} {e : my_E} {d : Nat} {κ : my_K} {σ σ' : my_S} {Q : my_O → my_K → my_S → Prop} {E : List Et} {T : List Int32} {K : List Nat}
theorem f_314e {k : Nat} {a : Ri} (h : LD As I rv σ) (hW : LgW E) (hR : LgR E T σ) (hP : PrR E σ) (ha : As[k]? = some a) (hd : 4 ≤ d) (hx : efd (itp E) (riN a) (ib I (rwA (As.take k)).length a) (itp E).length 0 = none → ys_314_29 e d (Int32.ofNat k) 0 κ σ Q) (hQ : ∀ j, efd (itp E) (riN a) (ib I (rwA (As.take k)).length a) (itp E).length 0 = some j → Q (.inl (some (.inl (Int32.ofNat j)))) κ σ) : ∀ (m j : Nat), j + m = (itp E).length → efd (itp E) (riN a) (ib I (rwA (As.take k)).length a) m j = efd (itp E) (riN a) (ib I (rwA (As.take k)).length a) (itp E).length 0 → ys_314_2 e d (Int32.ofNat k) (Int32.ofNat j) κ σ Q := by
  have hn := LgW_n hW
  intro m
  induction m with
  | zero =>
    intro j hj hr
    unfold ys_314_2
    rw [hP.1.1, if_neg (by rw [oN_lt (by omega) (by omega)]; omega)]
    exact ys_314_29_ok (hx hr.symm)
  | succ m ih =>
    intro j hj hr
    have hlt : j < (itp E).length := by omega
    have hy := List.getElem?_eq_getElem hlt
    generalize (itp E)[j] = y at hy
    have hs : efd (itp E) (riN a) (ib I (rwA (As.take k)).length a) (m + 1) j = if eN y.2 = riN a ∧ eC y.2 = ib I (rwA (As.take k)).length a then some j else efd (itp E) (riN a) (ib I (rwA (As.take k)).length a) m (j + 1) := by rw [efd, hy]
    rw [hs] at hr
    unfold ys_314_2
    rw [hP.1.1, if_pos ((oN_lt (by omega) (by omega)).mpr hlt)]
    refine r_292 h hW hR hP hy ha (by omega) ?_
    rw [my_kI_v]
    by_cases c : eN y.2 = riN a ∧ eC y.2 = ib I (rwA (As.take k)).length a
    · rw [if_pos c] at hr
      rw [decide_eq_true c.1, decide_eq_true c.2, if_neg (by decide)]
      exact hQ j hr.symm
    · rw [if_neg c] at hr
      have hb : (decide (eN y.2 = riN a) && decide (eC y.2 = ib I (rwA (As.take k)).length a)) = false := by
        by_cases c1 : eN y.2 = riN a
        · by_cases c2 : eC y.2 = ib I (rwA (As.take k)).length a
          · exact absurd ⟨c1, c2⟩ c
          · rw [decide_eq_false c2, Bool.and_false]
        · rw [decide_eq_false c1, Bool.false_and]
      rw [hb, if_pos (show bI false = 0 from rfl), oN_s]
      exact ys_314_2_ok (ih (j + 1) (by omega) hr)
/-- among the fresh: the first place of k -/
theorem f_314k {k : Nat} (hF : FrR As I E K σ) (h90 : σ.1 498 90 = Int32.ofNat (nit E)) (h42 : As.length ≤ 42) (hk : k < 42) (hx : k ∉ K → ys_314_29 e d (Int32.ofNat k) (Int32.ofNat K.length) κ σ Q) (hQ : ∀ i : Nat, K[i]? = some k → (∀ j : Nat, j < i → K[j]? ≠ some k) → Q (.inl (some (.inl (Int32.ofNat (nit E + i))))) κ σ) : ∀ (m i : Nat), i + m = K.length → (∀ j : Nat, j < i → K[j]? ≠ some k) → ys_314_29 e d (Int32.ofNat k) (Int32.ofNat i) κ σ Q := by
  obtain ⟨g1, g2, g3, g4, g5⟩ := hF
  intro m
  induction m with
  | zero =>
    intro i hi hno
    have : i = K.length := by omega
    subst this
    refine hx (fun hm => ?_)
    obtain ⟨j, hj⟩ := List.getElem?_of_mem hm
    exact hno j (List.getElem?_eq_some_iff.mp hj).1 hj
  | succ m ih =>
    intro i hi hno
    have hlt : i < K.length := by omega
    have hy := List.getElem?_eq_getElem hlt
    generalize K[i] = q at hy
    have hq := g5 q (List.mem_of_getElem? hy)
    unfold ys_314_29
    rw [g2, if_pos ((oN_lt (by omega) (by omega)).mpr hlt), oN_n (by omega), g4 i q hy, h90, oN_a]
    refine ⟨bdk (by omega) (by omega), my_if (fun c => ?_) (fun c => ?_)⟩
    · have c := (oN_e (by omega) (by omega)).mp c
      exact hQ i (by rw [hy, c]) hno
    · rw [oN_s]
      refine ys_314_29_ok (ih (i + 1) (by omega) (fun j hj hh => ?_))
      by_cases cj : j < i
      · exact hno j cj hh
      · have : j = i := by omega
        rw [this, hy] at hh
        exact c (by rw [Option.some.inj hh])
end MRG
