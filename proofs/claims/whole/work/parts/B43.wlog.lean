
/-! ===== the class writes its log: bytes ===== -/
/-- what was written, also where it had no room -/
def WB (A : Nat) (B : List Int32) (σ : my_S) : Prop := σ.1 A 1 = Int32.ofNat (min B.length 7747) ∧ (∀ i x, i < 7747 → B[i]? = some x → σ.1 (A + 1) i = x) ∧ σ.1 A 10 = if 7747 < B.length then 1 else 0
def wbF (A : Nat) (c k : Nat) : Prop := (c = A ∧ (k = 1 ∨ k = 10)) ∨ c = A + 1
section MWB
variable {e : my_E} {d : Nat} {κ : my_K} {σ σ' : my_S} {Q : my_O → my_K → my_S → Prop} {A : Nat} {B : List Int32} {F : Nat → Nat → Prop}
theorem WB_o (h : WB A B σ) (f : eqp F σ σ') (hF : ∀ c k, F c k → ¬ wbF A c k) : WB A B σ' := by
  have g : ∀ {c k : Nat}, wbF A c k → σ'.1 c k = σ.1 c k := fun hh => eqp_g f (fun h2 => hF _ _ h2 hh)
  exact ⟨(g (Or.inl ⟨rfl, Or.inl rfl⟩)).trans h.1, fun i x hi hx => (g (Or.inr rfl)).trans (h.2.1 i x hi hx), (g (Or.inl ⟨rfl, Or.inr rfl⟩)).trans h.2.2⟩
theorem bts_s {v : Int32} : ∀ {w j : Nat}, bts v (w + 1) j = bts v w j ++ [bt v (Int32.ofNat (j + w))]
  | 0, j => rfl
  | w + 1, j => by
    rw [bts, bts_s, bts]
    rw [show j + 1 + w = j + (w + 1) by omega]
    rfl
theorem w_178l {v : Int32} {w : Nat} (hw : w ≤ 4) (hA : lg2 A) (hQ : ∀ σ', WB A (B ++ bts v w 0) σ' → eqp (wbF A) σ σ' → Q (.inl none) κ σ') : ∀ (m j : Nat) (σ' : my_S), j + m = w → WB A (B ++ bts v j 0) σ' → eqp (wbF A) σ σ' → ys_178_2 e d A v (Int32.ofNat w) (Int32.ofNat j) κ σ' Q := by
  intro m
  induction m with
  | zero =>
    intro j σ' hj h f
    have : j = w := by omega
    subst this
    unfold ys_178_2
    rw [if_neg (by rw [oN_lt (by omega) (by omega)]; omega)]
    exact hQ σ' h f
  | succ m ih =>
    intro j σ' hj h f
    obtain ⟨h1, h2, h3⟩ := h
    have hbl : (B ++ bts v j 0).length = B.length + j := by rw [List.length_append, bts_l]
    have hbs : B ++ bts v (j + 1) 0 = (B ++ bts v j 0) ++ [bt v (Int32.ofNat j)] := by rw [bts_s, Nat.zero_add, List.append_assoc]
    have hbl2 : (B ++ bts v (j + 1) 0).length = B.length + j + 1 := by rw [List.length_append, bts_l]; omega
    rw [hbl] at h1 h3
    unfold ys_178_2
    rw [if_pos ((oN_lt (by omega) (by omega)).mpr (by omega)), h1, if_neg (oN_0 (by omega))]
    by_cases c : B.length + j < 7747
    · have em : min (B.length + j) 7747 = B.length + j := by omega
      rw [em, if_pos ((oN_lt1 (b := 7747) (c := 7747) rfl (by omega) (by omega)).mpr c), oN_n (by omega), my_uI_1, if_neg (by unfold lg2 at hA; omega), h1, em, oN_s]
      refine ⟨bdk (by omega) (by omega), ?_⟩
      unfold ys_178_60
      rw [oN_s]
      have f2 : eqp (wbF A) σ' (my_uI (my_uI σ' (A + 1) (B.length + j) (bt v (Int32.ofNat j))) A 1 (Int32.ofNat (B.length + j + 1))) := eqp_I (eqp_I eqp_rf (Or.inr rfl)) (Or.inl ⟨rfl, Or.inl rfl⟩)
      refine ys_178_2_ok (in8 hA) (ih (j + 1) (my_uI (my_uI σ' (A + 1) (B.length + j) (bt v (Int32.ofNat j))) A 1 (Int32.ofNat (B.length + j + 1))) (by omega) ⟨?_, fun i x hi hx => ?_, ?_⟩ (eqp_tr f f2))
      · rw [uI_s, hbl2]
        congr 1
        omega
      · rw [hbs] at hx
        rw [my_uI_1, if_neg (by unfold lg2 at hA; omega), my_uI_1]
        rcases gA hx with ⟨q1, q2⟩ | ⟨q1, q2⟩
        · rw [if_neg (by omega)]
          exact h2 i x hi q2
        · rw [if_pos ⟨rfl, by omega⟩, q2]
      · rw [my_uI_1, if_neg (by omega), my_uI_1, if_neg (by unfold lg2 at hA; omega), h3, hbl2]
        rw [if_neg (by omega), if_neg (by omega)]
    · have em : min (B.length + j) 7747 = 7747 := by omega
      rw [em, if_neg (fun hh => by have := (oN_lt1 (b := 7747) (c := 7747) rfl (by omega) (by omega)).mp hh; omega)]
      unfold ys_178_55 ys_178_60
      rw [oN_s]
      have f2 : eqp (wbF A) σ' (my_uI σ' A 10 1) := eqp_I eqp_rf (Or.inl ⟨rfl, Or.inr rfl⟩)
      refine ys_178_2_ok (in8 hA) (ih (j + 1) (my_uI σ' A 10 1) (by omega) ⟨?_, fun i x hi hx => ?_, ?_⟩ (eqp_tr f f2))
      · rw [my_uI_1, if_neg (by omega), h1, hbl2]
        congr 1
        omega
      · rw [hbs] at hx
        rw [my_uI_1, if_neg (by unfold lg2 at hA; omega)]
        rcases gA hx with ⟨q1, q2⟩ | ⟨q1, q2⟩
        · exact h2 i x hi q2
        · omega
      · rw [uI_s, hbl2, if_pos (by omega)]
theorem w_178 {v : Int32} {w : Nat} (hw : w ≤ 4) (hA : lg2 A) (h : WB A B σ) (hd : 1 ≤ d) (hQ : ∀ σ', WB A (B ++ bts v w 0) σ' → eqp (wbF A) σ σ' → Q (.inl none) κ σ') : my_M e d 178 [.inr (.inr (some A)), .inl v, .inl (Int32.ofNat w)] κ σ Q := by
  obtain ⟨d, rfl⟩ := dS 1 hd
  refine ys_178 (in8 hA) ?_
  unfold ys_178_0
  exact ys_178_2_ok (in8 hA) (w_178l hw hA hQ w 0 σ (Nat.zero_add _) (by rw [bts, List.append_nil]; exact h) eqp_rf)
/-! names of entries, kept or not -/
/-- the items that were noted: name, where, how long -/
def NI (A : Nat) (L : List (List Nat × Nat × Nat)) (σ : my_S) : Prop := σ.1 A 6 = Int32.ofNat L.length ∧ L.length ≤ 900 ∧ ∀ (j : Nat) x, L[j]? = some x → σ.2.1 (A + 2) j = nmC x.1 ∧ σ.1 (A + 3) j = Int32.ofNat x.2.1 ∧ σ.1 (A + 4) j = Int32.ofNat x.2.2
def NR (A : Nat) (L : List (List Nat × Nat)) (σ : my_S) : Prop := σ.1 A 9 = Int32.ofNat L.length ∧ L.length ≤ 500 ∧ ∀ (j : Nat) x, L[j]? = some x → σ.2.1 (A + 5) j = nmC x.1 ∧ σ.1 (A + 6) j = Int32.ofNat x.2
theorem NI_o {L : List (List Nat × Nat × Nat)} (h : NI A L σ) (f : eqp F σ σ') (hF : ∀ c k, F c k → (c = A → k ≠ 6) ∧ c ≠ A + 2 ∧ c ≠ A + 3 ∧ c ≠ A + 4) : NI A L σ' := ⟨(eqp_g f (fun hh => (hF _ _ hh).1 rfl rfl)).trans h.1, h.2.1, fun j x hx => ⟨((f _ _ (fun hh => (hF _ _ hh).2.1 rfl)).2.1).trans (h.2.2 j x hx).1, (eqp_g f (fun hh => (hF _ _ hh).2.2.1 rfl)).trans (h.2.2 j x hx).2.1, (eqp_g f (fun hh => (hF _ _ hh).2.2.2 rfl)).trans (h.2.2 j x hx).2.2⟩⟩
theorem NR_o {L : List (List Nat × Nat)} (h : NR A L σ) (f : eqp F σ σ') (hF : ∀ c k, F c k → (c = A → k ≠ 9) ∧ c ≠ A + 5 ∧ c ≠ A + 6) : NR A L σ' := ⟨(eqp_g f (fun hh => (hF _ _ hh).1 rfl rfl)).trans h.1, h.2.1, fun j x hx => ⟨((f _ _ (fun hh => (hF _ _ hh).2.1 rfl)).2.1).trans (h.2.2 j x hx).1, (eqp_g f (fun hh => (hF _ _ hh).2.2 rfl)).trans (h.2.2 j x hx).2⟩⟩
theorem w_179 {L : List (List Nat × Nat × Nat)} {nm : List Nat} {p n : Nat} (hA : lg2 A) (h : NI A L σ) (hd : 1 ≤ d) (hx : L.length = 900 → ∀ σ', σ'.1 A 10 = 1 → NI A L σ' → eqp (fun c k => c = A ∧ k = 10) σ σ' → Q (.inl none) κ σ') (hQ : L.length < 900 → ∀ σ', NI A (L ++ [(nm, p, n)]) σ' → eqp (fun c k => (c = A ∧ k = 6) ∨ (A + 2 ≤ c ∧ c ≤ A + 4)) σ σ' → Q (.inl none) κ σ') : my_M e d 179 [.inr (.inr (some A)), .inr (.inl (nmC nm)), .inl (Int32.ofNat p), .inl (Int32.ofNat n)] κ σ Q := by
  obtain ⟨d, rfl⟩ := dS 1 hd
  obtain ⟨h1, h2, h3⟩ := h
  refine ys_179 (in8 hA) ?_
  unfold ys_179_0
  rw [h1, if_neg (oN_0 (by omega))]
  by_cases c : L.length < 900
  · have r2 : ∀ (x : Int64) (y : Int32), (my_uI (my_uL σ (A + 2) L.length x) (A + 3) L.length y).1 A 6 = Int32.ofNat L.length := fun x y => by rw [my_uI_1, if_neg (by omega), my_uL_1]; exact h1
    have r3 : ∀ (x : Int64) (y w : Int32), (my_uI (my_uI (my_uL σ (A + 2) L.length x) (A + 3) L.length y) (A + 4) L.length w).1 A 6 = Int32.ofNat L.length := fun x y w => by rw [my_uI_1, if_neg (by omega)]; exact r2 x y
    rw [if_pos ((oN_lt1 (b := 900) (c := 900) rfl (by omega) (by omega)).mpr c), oN_n (by omega), r2, oN_n (by omega), r3, oN_s]
    have b := bdk (k := L.length) (m := 900) c (by omega)
    refine ⟨b, b, b, ?_⟩
    have f : eqp (fun c k => (c = A ∧ k = 6) ∨ (A + 2 ≤ c ∧ c ≤ A + 4)) σ (my_uI (my_uI (my_uI (my_uL σ (A + 2) L.length (nmC nm)) (A + 3) L.length (Int32.ofNat p)) (A + 4) L.length (Int32.ofNat n)) A 6 (Int32.ofNat (L.length + 1))) := eqp_I (eqp_I (eqp_I (eqp_L eqp_rf (Or.inr (by omega))) (Or.inr (by omega))) (Or.inr (by omega))) (Or.inl ⟨rfl, rfl⟩)
    refine hQ c _ ⟨by rw [uI_s, List.length_append]; rfl, by rw [List.length_append, List.length_singleton]; omega, fun j x hx' => ?_⟩ f
    rcases gA hx' with ⟨q1, q2⟩ | ⟨q1, q2⟩
    · obtain ⟨a1, a2, a3⟩ := h3 j x q2
      refine ⟨?_, ?_, ?_⟩
      · rw [my_uI_2, my_uI_2, my_uI_2, my_uL_2, if_neg (by omega)]; exact a1
      · rw [my_uI_1, if_neg (by omega), my_uI_1, if_neg (by omega), my_uI_1, if_neg (by omega), my_uL_1]; exact a2
      · rw [my_uI_1, if_neg (by omega), my_uI_1, if_neg (by omega), my_uI_1, if_neg (by omega), my_uL_1]; exact a3
    · rw [q2]
      refine ⟨?_, ?_, ?_⟩
      · rw [my_uI_2, my_uI_2, my_uI_2, my_uL_2, if_pos ⟨rfl, q1⟩]
      · rw [my_uI_1, if_neg (by omega), my_uI_1, if_neg (by omega), my_uI_1, if_pos ⟨rfl, q1⟩]
      · rw [my_uI_1, if_neg (by omega), my_uI_1, if_pos ⟨rfl, q1⟩]
  · have c2 : L.length = 900 := by omega
    rw [c2, if_neg (show ¬ Int32.ofNat 900 < 900 by decide)]
    unfold ys_179_19
    have f : eqp (fun c k => c = A ∧ k = 10) σ (my_uI σ A 10 1) := eqp_I eqp_rf ⟨rfl, rfl⟩
    exact hx c2 _ uI_s (NI_o ⟨h1, h2, h3⟩ f (fun c k hh => by omega)) f
theorem w_181 {L : List (List Nat × Nat)} {nm : List Nat} {p : Nat} (hA : lg2 A) (h : NR A L σ) (hd : 1 ≤ d) (hx : L.length = 500 → ∀ σ', σ'.1 A 10 = 1 → NR A L σ' → eqp (fun c k => c = A ∧ k = 10) σ σ' → Q (.inl none) κ σ') (hQ : L.length < 500 → ∀ σ', NR A (L ++ [(nm, p)]) σ' → eqp (fun c k => (c = A ∧ k = 9) ∨ (A + 5 ≤ c ∧ c ≤ A + 6)) σ σ' → Q (.inl none) κ σ') : my_M e d 181 [.inr (.inr (some A)), .inr (.inl (nmC nm)), .inl (Int32.ofNat p)] κ σ Q := by
  obtain ⟨d, rfl⟩ := dS 1 hd
  obtain ⟨h1, h2, h3⟩ := h
  refine ys_181 (in8 hA) ?_
  unfold ys_181_0
  rw [h1, if_neg (oN_0 (by omega))]
  by_cases c : L.length < 500
  · have r2 : ∀ (x : Int64) (y : Int32), (my_uI (my_uL σ (A + 5) L.length x) (A + 6) L.length y).1 A 9 = Int32.ofNat L.length := fun x y => by rw [my_uI_1, if_neg (by omega), my_uL_1]; exact h1
    rw [if_pos ((oN_lt1 (b := 500) (c := 500) rfl (by omega) (by omega)).mpr c), oN_n (by omega), r2, oN_s]
    have b := bdk (k := L.length) (m := 500) c (by omega)
    refine ⟨b, b, ?_⟩
    have f : eqp (fun c k => (c = A ∧ k = 9) ∨ (A + 5 ≤ c ∧ c ≤ A + 6)) σ (my_uI (my_uI (my_uL σ (A + 5) L.length (nmC nm)) (A + 6) L.length (Int32.ofNat p)) A 9 (Int32.ofNat (L.length + 1))) := eqp_I (eqp_I (eqp_L eqp_rf (Or.inr (by omega))) (Or.inr (by omega))) (Or.inl ⟨rfl, rfl⟩)
    refine hQ c _ ⟨by rw [uI_s, List.length_append]; rfl, by rw [List.length_append, List.length_singleton]; omega, fun j x hx' => ?_⟩ f
    rcases gA hx' with ⟨q1, q2⟩ | ⟨q1, q2⟩
    · obtain ⟨a1, a2⟩ := h3 j x q2
      refine ⟨?_, ?_⟩
      · rw [my_uI_2, my_uI_2, my_uL_2, if_neg (by omega)]; exact a1
      · rw [my_uI_1, if_neg (by omega), my_uI_1, if_neg (by omega), my_uL_1]; exact a2
    · rw [q2]
      refine ⟨?_, ?_⟩
      · rw [my_uI_2, my_uI_2, my_uL_2, if_pos ⟨rfl, q1⟩]
      · rw [my_uI_1, if_neg (by omega), my_uI_1, if_pos ⟨rfl, q1⟩]
  · have c2 : L.length = 500 := by omega
    rw [c2, if_neg (show ¬ Int32.ofNat 500 < 500 by decide)]
    unfold ys_181_19
    have f : eqp (fun c k => c = A ∧ k = 10) σ (my_uI σ A 10 1) := eqp_I eqp_rf ⟨rfl, rfl⟩
    exact hx c2 _ uI_s (NR_o ⟨h1, h2, h3⟩ f (fun c k hh => by omega)) f
end MWB
