
/-! ===== all items, the class beside the reference ===== -/
def ibA (I : List It) : Nat → List Ri → List Int32
  | _, [] => []
  | i, a :: r => ib I i a ++ ibA I (i + (riR a).length) r
theorem ibA_a {I : List It} : ∀ {A B : List Ri} {i : Nat}, ibA I i (A ++ B) = ibA I i A ++ ibA I (i + (rwA A).length) B
  | [], B, i => by simp [ibA, rwA]
  | a :: A, B, i => by
    show ib I i a ++ ibA I (i + (riR a).length) (A ++ B) = ib I i a ++ ibA I (i + (riR a).length) A ++ ibA I (i + (riR a ++ rwA A).length) B
    rw [ibA_a, List.length_append, List.append_assoc, Nat.add_assoc]
theorem tmA_a {I : List It} : ∀ {A B : List Ri} {m m' : Option Nat}, tmA I (A ++ B) m m' → ∃ m1, tmA I A m m1 ∧ tmA I B m1 m'
  | [], B, m, m', h => ⟨m, rfl, h⟩
  | a :: A, B, m, m', h => by
    obtain ⟨m1, h1, h2⟩ := h
    obtain ⟨m2, h3, h4⟩ := tmA_a h2
    exact ⟨m2, ⟨m1, h1, h3⟩, h4⟩
/-- what the class tells of an item -/
def itC (I : List It) (As : List Ri) (rv j : Nat) (a : Ri) (σ : my_S) : Prop := (riF a ≤ 1 → σ.1 (rv + 4 + 3 * j) 8 = riV a) ∧ σ.1 (rv + 4 + 3 * j) 10 = Int32.ofNat (ibA I 0 (As.take j)).length ∧ σ.1 (rv + 4 + 3 * j) 11 = Int32.ofNat (ib I (rwA (As.take j)).length a).length ∧ (2 ≤ riF a → NFr I (riR a) ∧ σ.1 (rv + 4 + 3 * j) 9 = Int32.ofNat (riL a).length ∧ σ.1 (rv + 4 + 3 * j) 12 = Int32.ofNat ((ibA I 0 (As.take j)).length + (hdB a).length + 3) ∧ σ.1 (rv + 4 + 3 * j) 13 = Int32.ofNat (lens (riR a)) ∧ σ.1 (rv + 4 + 3 * j) 14 = Int32.ofNat (ndF I a).length ∧ (ndF I a).length ≤ 30 ∧ ∀ i x, (ndF I a)[i]? = some x → x < 42 ∧ σ.2.2 (rv + 4 + 3 * j + 2) i = some (rv + 4 + 3 * x))
section MAT
variable {t : Nat → Int32} {n : Nat} {As : List Ri} {I : List It} {rv : Nat} {σ : my_S}
theorem rwA_take {k : Nat} : (rwA (As.take k)).length ≤ (rwA As).length := by
  have := congrArg (fun l => (rwA l).length) (List.take_append_drop k As)
  simp only [rwA_a, List.length_append] at this
  omega
theorem pR2_t (ht : txt t n) (hB : itsB As) (hrel : iRel As I) (hRl : (rwA As).length ≤ 3200) : ∀ (k : Nat) (S : St) (p : Nat) (m : Option Nat), k ≤ As.length → pR2 t n As I rv k St0 S p σ → tmA I (As.take k) none m → p ≤ n ∧ S.1 = mfI m ∧ okM m ∧ S.2.2.1.length ≤ 6144 ∧ (∀ x, m = some x → x ≤ 1500) ∧ (m = none → S.2.2.1 = ibA I 0 (As.take k) ∧ S.2.2.1.length ≤ 4 * p ∧ ∀ j a, j < k → As[j]? = some a → itC I As rv j a σ) := by
  intro k
  induction k with
  | zero =>
    intro S p m hk h hm
    obtain ⟨h1, h2⟩ := h
    have hm : m = none := hm
    subst hm
    subst h1
    refine ⟨by rw [h2]; exact ps_le ht 0, rfl, fun x hx => (by cases hx), Nat.zero_le _, fun x hx => (by cases hx), fun _ => ⟨rfl, Nat.zero_le _, fun j a hj => absurd hj (Nat.not_lt_zero _)⟩⟩
  | succ k ih =>
    intro S q m hk h hm
    obtain ⟨S1, a, p, cF, cl, h1, h2, h3, h4, h5⟩ := h
    have hkl := (List.getElem?_eq_some_iff.mp h2).1
    have htk : As.take (k + 1) = As.take k ++ [a] := by rw [List.take_succ, h2]; rfl
    rw [htk] at hm
    obtain ⟨m1, hm1, m2, hm2, hm3⟩ := tmA_a hm
    have hm3 : m = m2 := hm3
    subst hm3
    obtain ⟨i1, i2, i3, i4, ix5, i5⟩ := ih S1 p m1 (by omega) h1 hm1
    have hrl := rwA_take (As := As) (k := k)
    obtain ⟨e1, e2, e3, ex, e4⟩ := itR_e ht hB hrel h2 i1 (by omega) h3 h4 hm2 i2 i3 i4
    have pB := (pit_B (As := As.take k) (i := (rwA (As.take k)).length) ht i1).2 a q h3
    refine ⟨pB.2.1, e1, e2, e3, fun x hx => (by rcases ex x hx with h | h; exact ix5 x h; exact h), fun hn0 => ?_⟩
    obtain ⟨j1, j2⟩ := e4 hn0
    obtain ⟨i6, i7, i8⟩ := i5 j1
    obtain ⟨j3, j4, j5⟩ := j2 i7
    have hS : S.2.2.1 = S1.2.2.1 ++ ib I (rwA (As.take k)).length a := by rw [j3]
    refine ⟨?_, j4, fun j b hj hb => ?_⟩
    · rw [hS, i6, htk, ibA_a, Nat.zero_add]
      show _ = _ ++ (ib I (rwA (As.take k)).length a ++ [])
      rw [List.append_nil]
    · by_cases hjk : j < k
      · exact i8 j b hjk hb
      · have hjk : j = k := by omega
        subst hjk
        rw [h2] at hb
        cases hb
        obtain ⟨d1, d2, d3, d4⟩ := h5
        have hSl : S.2.2.1.length = S1.2.2.1.length + (ib I (rwA (As.take j)).length a).length := by rw [hS, List.length_append]
        have hN : S.2.2.2 = ndF I a := by rw [j3]
        refine ⟨d1, by rw [d2, i6], ?_, fun hf => ?_⟩
        · rw [d3, hSl, Int32.ofNat_add, Int32.add_comm, Int32.add_sub_cancel]
        · obtain ⟨x1, x2, x3, x4, x5, x6⟩ := d4 hf
          obtain ⟨y1, y2, y3⟩ := j5 hf
          rw [hN] at x4 x5 x6
          exact ⟨y1, x1, by rw [x2, y2, i6], by rw [x3, y3], x4, x5, x6⟩
theorem pis_H (ht : txt t n) : ∀ (f : Nat) (A0 : List Ri) (i p : Nat) (As : List Ri), p ≤ n → i = (rwA A0).length → (∀ k a, A0[k]? = some a → itH (rwA (A0.take k)).length a) → pis t n f A0 i p = .inr As → ∀ k a, As[k]? = some a → itH (rwA (As.take k)).length a := by
  intro f
  induction f with
  | zero => intro A0 i p As _ _ _ hx; unfold pis at hx; cases hx
  | succ f ih =>
    intro A0 i p As hp hi h0 hx
    unfold pis at hx
    cases hpi : pit t n A0 i p with
    | inl q => rw [hpi] at hx; cases hx
    | inr v =>
      obtain ⟨a, q⟩ := v
      rw [hpi] at hx
      dsimp only at hx
      have pB := (pit_B (As := A0) (i := i) ht hp).2 a q hpi
      have h1 : ∀ k b, (A0 ++ [a])[k]? = some b → itH (rwA ((A0 ++ [a]).take k)).length b := fun k b hk => by
        by_cases hkl : k < A0.length
        · rw [List.getElem?_append_left hkl] at hk
          rw [List.take_append_of_le_length (by omega)]
          exact h0 k b hk
        · rw [List.getElem?_append_right (by omega)] at hk
          have hk0 : k - A0.length = 0 := by
            by_cases hh : k - A0.length = 0
            · exact hh
            · rw [List.getElem?_eq_none (by simp; omega)] at hk; cases hk
          rw [hk0] at hk
          cases hk
          rw [List.take_append_of_le_length (by omega), List.take_of_length_le (by omega), ← hi]
          exact pit_H ht hp hpi
      by_cases h2 : tkk t n q = 0
      · rw [if_pos h2] at hx
        cases hx
        exact h1
      · rw [if_neg h2] at hx
        exact ih (A0 ++ [a]) _ q As pB.2.1 (by rw [rwA_a, List.length_append, hi]; simp [rwA]) h1 hx
end MAT
