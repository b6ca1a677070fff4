
/-! ===== the reference: whether there is room ===== -/
section MRO
variable {e : my_E} {d : Nat} {κ : my_K} {σ : my_S} {Q : my_O → my_K → my_S → Prop} {E : List Et} {G : List Int32}
theorem f_318 (h : LgR E [] σ) (hF : FRy G σ) (hE : els E ≤ 7747) (hG : G.length ≤ 20000) (hd : 1 ≤ d) (hQ : Q (.inl (some (.inl (bI (decide (els E + G.length ≤ 7747)))))) κ σ) : my_M e d 318 [.inr (.inr (some 498))] κ σ Q := by
  obtain ⟨d, rfl⟩ := dS 1 hd
  refine ys_318 ?_
  unfold ys_318_0 ys_318_20
  rw [h.1, hF.1, List.length_nil, Nat.add_zero, oN_a]
  refine my_if (fun c => ?_) (fun c => ?_)
  · have c := (oN_lt (p := 7747) (by omega) (by omega)).mp c
    rw [decide_eq_false (by omega)] at hQ
    exact ⟨Or.inl rfl, hQ⟩
  · have c : ¬ 7747 < els E + G.length := fun hh => c ((oN_lt (p := 7747) (by omega) (by omega)).mpr hh)
    rw [decide_eq_true (by omega)] at hQ
    exact ⟨Or.inr rfl, hQ⟩
end MRO
