
/-! ===== every test's run comes to its end within the steps allowed ===== -/
theorem zr_t {As : List Ri} {I : List It} {k : Nat} {a : Ri} (hL : LOf As I) (ha : As[k]? = some a) (hf : riF a = 4) : ∃ s', (∃ n, n ≤ 100000000 ∧ ZR As I n (z0 As k) s') ∧ (∃ en, en < 6 ∧ zE s' = some en) ∧ CKd As s' := by
  obtain ⟨Df, hDf⟩ := DfO_ex hL
  have hw := WT_0 hL ha hf
  have hDb := hDf k a ha (by omega)
  have cb := (CDO_of hL ha (by omega)).2.2.2.2.2
  have pb := pw_le (Df := Df) (r1 := []) (r2 := riR a) ha hDb rfl
  have d0 : dv As Df k a 0 = 0 := by
    obtain ⟨r, hr, _, hDD, _⟩ := hDb
    unfold dv
    rw [if_pos (by rw [hr, List.length_append]; omega), Nat.add_zero]
    exact hDD.1
  rw [show lens [] = 0 from rfl, List.length_nil, d0] at pb
  have hm : mu As Df (z0 As k) ≤ 90000000 := by
    unfold mu
    show (3000 - 0) * 4000 + sm (0 + 1) (fun d => pw As Df k 0) ≤ 90000000
    rw [sm, sm]
    omega
  obtain ⟨n, s', q1, q2, q3, q4⟩ := zr_end hL hDf 90000000 (z0 As k) hm hw rfl
  have e6 := ZR_E q2 E6_0
  refine ⟨s', ⟨n, by omega, q2⟩, ?_, ZR_C q2 (fun hh => ?_)⟩
  · cases hz : zE s' with
    | none => exact absurd hz q4
    | some en => exact ⟨en, e6 en hz, rfl⟩
  · have : (none : Option Nat) = some 1 := hh
    cases this
def RZ (As : List Ri) (I : List It) (Z : Nat → Ms) : Prop := ∀ k a, As[k]? = some a → riF a = 4 → (∃ n, n ≤ 100000000 ∧ ZR As I n (z0 As k) (Z k)) ∧ (∃ en, en < 6 ∧ zE (Z k) = some en) ∧ CKd As (Z k)
theorem RZ_ex {As : List Ri} {I : List It} (hL : LOf As I) : ∃ Z, RZ As I Z := by
  have h : ∀ k, ∃ s', ∀ a, As[k]? = some a → riF a = 4 → (∃ n, n ≤ 100000000 ∧ ZR As I n (z0 As k) s') ∧ (∃ en, en < 6 ∧ zE s' = some en) ∧ CKd As s' := fun k => by
    cases ha : As[k]? with
    | none => exact ⟨z0 As k, fun a h => by cases h⟩
    | some a =>
      by_cases h4 : riF a = 4
      · obtain ⟨s', hs⟩ := zr_t hL ha h4
        exact ⟨s', fun b hb _ => by cases hb; exact hs⟩
      · exact ⟨z0 As k, fun b hb h3 => by cases hb; exact absurd h3 h4⟩
  obtain ⟨Z, hZ⟩ := Classical.skolem.mp h
  exact ⟨Z, fun k a ha h4 => hZ k a ha h4⟩
