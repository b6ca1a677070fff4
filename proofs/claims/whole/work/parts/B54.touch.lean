
/-! ===== what a run touched, in order ===== -/
def tl1 (As : List Ri) (s : Ms) (kd n : Nat) : List Nat := if zt s kd n = true then (match fkA As (Int32.ofNat kd) (Int32.ofNat n) As.length 0 with
  | none => []
  | some k => [k]) else []
def tl2 (As : List Ri) (s : Ms) (kd : Nat) : Nat → Nat → List Nat
  | 0, _ => []
  | m + 1, n => tl1 As s kd n ++ tl2 As s kd m (n + 1)
def tls (As : List Ri) (s : Ms) : List Nat := tl2 As s 0 (cnK As 0) 0 ++ (tl2 As s 1 (cnK As 1) 0 ++ tl2 As s 2 (cnK As 2) 0)
theorem tl1_l {As : List Ri} {s : Ms} {kd n : Nat} : (tl1 As s kd n).length ≤ 1 := by
  unfold tl1
  split
  · split <;> simp
  · simp
theorem tl2_l {As : List Ri} {s : Ms} {kd : Nat} : ∀ {m n : Nat}, (tl2 As s kd m n).length ≤ m
  | 0, _ => by simp [tl2]
  | m + 1, n => by
    rw [tl2, List.length_append]
    have := tl1_l (As := As) (s := s) (kd := kd) (n := n)
    have := tl2_l (As := As) (s := s) (kd := kd) (m := m) (n := n + 1)
    omega
theorem tls_l {As : List Ri} {s : Ms} (hB : itsB As) : (tls As s).length ≤ 30 := by
  have h0 : cnK As 0 ≤ 10 := hB.1 0
  have h1 : cnK As 1 ≤ 4 := hB.1 1
  have h2 : cnK As 2 ≤ 16 := hB.1 2
  unfold tls
  rw [List.length_append, List.length_append]
  have := tl2_l (As := As) (s := s) (kd := 0) (m := cnK As 0) (n := 0)
  have := tl2_l (As := As) (s := s) (kd := 1) (m := cnK As 1) (n := 0)
  have := tl2_l (As := As) (s := s) (kd := 2) (m := cnK As 2) (n := 0)
  omega
/-- the reference's list of them -/
def TLR (L : List Nat) (σ : my_S) : Prop := σ.1 498 101 = Int32.ofNat L.length ∧ ∀ (j x : Nat), L[j]? = some x → σ.1 553 j = Int32.ofNat x
def tdF (c k : Nat) : Prop := (c = 498 ∧ k = 101) ∨ c = 553
section MTL
variable {As : List Ri} {I : List It} {rv : Nat} {e : my_E} {d : Nat} {κ : my_K} {σ σ' : my_S} {Q : my_O → my_K → my_S → Prop} {s : Ms}
theorem TLR_o {F : Nat → Nat → Prop} {L : List Nat} (h : TLR L σ) (f : eqp F σ σ') (hF : ∀ c k, F c k → ¬ tdF c k) : TLR L σ' := ⟨(eqp_g f (fun hh => hF _ _ hh (Or.inl ⟨rfl, rfl⟩))).trans h.1, fun j x hx => (eqp_g f (fun hh => hF _ _ hh (Or.inr rfl))).trans (h.2 j x hx)⟩
theorem TLR_a {L : List Nat} {k : Nat} (h : TLR L σ) : TLR (L ++ [k]) (my_uI (my_uI σ 553 L.length (Int32.ofNat k)) 498 101 (Int32.ofNat (L.length + 1))) := by
  refine ⟨by rw [uI_s, List.length_append]; rfl, fun j x hx => ?_⟩
  rcases gA hx with ⟨q1, q2⟩ | ⟨q1, q2⟩
  · rw [my_uI_1, if_neg (by omega), my_uI_1, if_neg (by omega)]; exact h.2 j x q2
  · rw [my_uI_1, if_neg (by omega), my_uI_1, if_pos ⟨rfl, q1⟩, q2]
theorem LD_t (h : LD As I rv σ) (f : eqp tdF σ σ') : LD As I rv σ' := by
  have := h.2.2.1
  exact LD_o (LD_30 h) h f (fun c k hh => by unfold tdF at hh; unfold coF; omega)
theorem f_312l {i kd : Nat} (hi : i < 12) (hkd : kd ≤ 2) (h0 : LD As I rv σ) (hT : ∀ k b, As[k]? = some b → σ.1 566 (48 * i + k) = if zt s (kdf (riF b)) (nmk As k) = true then 1 else 0) (hd : 3 ≤ d) : ∀ (m n : Nat) (L : List Nat) (σ' : my_S), n + m = cnK As kd → L.length + m ≤ 30 → TLR L σ' → eqp tdF σ σ' → (∀ σ2, TLR (L ++ tl2 As s kd m n) σ2 → eqp tdF σ σ2 → ys_312_7 e d (Int32.ofNat i) (Int32.ofNat (kd + 1)) κ σ2 Q) → ys_312_14 e d (Int32.ofNat i) (Int32.ofNat kd) (Int32.ofNat n) κ σ' Q := by
  have hB := h0.1
  have h42 := itsB_42 hB
  have hc := hB.1 kd
  have hcm := mst_16 kd
  intro m
  induction m with
  | zero =>
    intro n L σ' hn hL h f hQ
    have ld := LD_t h0 f
    unfold ys_312_14
    refine r_313y ld hkd (by omega) ?_
    rw [my_kI_v, if_neg (by rw [oN_lt (by omega) (by omega)]; omega), oN_s]
    rw [tl2, List.append_nil] at hQ
    exact ys_312_7_ok (hQ σ' h f)
  | succ m ih =>
    intro n L σ' hn hL h f hQ
    have ld := LD_t h0 f
    have hlt : n < cnK As kd := by omega
    obtain ⟨k, hk⟩ := (fkA_w (K := kd) hB (by omega) (show n < 2147483648 by omega)).1 hlt
    obtain ⟨b, hb, hb1, hb2⟩ := fkA_n hk
    have hkA := (List.getElem?_eq_some_iff.mp hb).1
    have hF4 := (hB.2 b (List.mem_of_getElem? hb)).1
    have hkd2 : kdf (riF b) = kd := by
      have := kdf_lt hF4
      exact (oN_e (by omega) (by omega)).mp hb1
    have hnm : nmk As k = n := by
      have := (nmk_lt hB hb).1
      have := mst_16 (kdf (riF b))
      exact (oN_e (by omega) (by omega)).mp hb2
    have ht := hT k b hb
    rw [hkd2, hnm] at ht
    have ht1 : tl1 As s kd n = if zt s kd n = true then [k] else [] := by unfold tl1; rw [hk]
    rw [tl2, ht1, ← List.append_assoc] at hQ
    unfold ys_312_14
    refine r_313y ld hkd (by omega) ?_
    rw [my_kI_v, if_pos ((oN_lt (by omega) (by omega)).mpr hlt)]
    refine r_281 hB (fun k a ha => (ld.2.2.2.2.2.2.2.2.1 k a ha).1) ld.2.2.2.2.2.2.2.2.2.1 (by omega) (by omega) ?_
    rw [my_kI_v, hk]
    have ex : (48 : Int32) * Int32.ofNat i + fkI (some k) = Int32.ofNat (48 * i + k) := by
      show (48 : Int32) * Int32.ofNat i + Int32.ofNat k = _
      rw [show (48 : Int32) = Int32.ofNat 48 from rfl, ← Int32.ofNat_mul, oN_a]
    rw [ex, oN_n (by omega), eqp_g f (by unfold tdF; omega), ht]
    refine ⟨bdk (by omega) (by omega), ?_⟩
    unfold ys_312_67
    by_cases c : zt s kd n = true
    · rw [if_pos c] at hQ ⊢
      rw [if_neg (by decide), h.1, oN_n (by omega), oN_s]
      refine ⟨bdk (by omega) (by omega), ?_⟩
      show my_W e d mp_312 14 [(0, .inr (.inr (some 498))), (1, .inl (Int32.ofNat i)), (2, .inl (Int32.ofNat kd)), (3, .inl (Int32.ofNat (n + 1)))] [] κ (my_uI (my_uI σ' 553 L.length (Int32.ofNat k)) 498 101 (Int32.ofNat L.length + 1)) Q
      rw [oN_s]
      have f2 : eqp tdF σ' (my_uI (my_uI σ' 553 L.length (Int32.ofNat k)) 498 101 (Int32.ofNat (L.length + 1))) := eqp_I (eqp_I eqp_rf (Or.inr rfl)) (Or.inl ⟨rfl, rfl⟩)
      exact ys_312_14_ok (ih (n + 1) (L ++ [k]) _ (by omega) (by rw [List.length_append, List.length_singleton]; omega) (TLR_a h) (eqp_tr f f2) hQ)
    · rw [if_neg c, List.append_nil] at hQ
      rw [if_neg c, if_pos rfl, oN_s]
      exact ys_312_14_ok (ih (n + 1) L σ' (by omega) (by omega) h f hQ)
theorem f_312 {i : Nat} (hi : i < 12) (h : LD As I rv σ) (hT : ∀ k b, As[k]? = some b → σ.1 566 (48 * i + k) = if zt s (kdf (riF b)) (nmk As k) = true then 1 else 0) (hd : 4 ≤ d) (hQ : ∀ σ', TLR (tls As s) σ' → eqp tdF σ σ' → Q (.inl none) κ σ') : my_M e d 312 [.inr (.inr (some 498)), .inl (Int32.ofNat i)] κ σ Q := by
  obtain ⟨d, rfl⟩ := dS 1 (show 1 ≤ d by omega)
  have c0 : cnK As 0 ≤ 10 := h.1.1 0
  have c1 : cnK As 1 ≤ 4 := h.1.1 1
  have c2 : cnK As 2 ≤ 16 := h.1.1 2
  refine ys_312 ?_
  unfold ys_312_0
  have f0 : eqp tdF σ (my_uI σ 498 101 0) := eqp_I eqp_rf (Or.inl ⟨rfl, rfl⟩)
  have t0 : TLR [] (my_uI σ 498 101 0) := ⟨uI_s, fun j x hx => by simp at hx⟩
  generalize my_uI σ 498 101 0 = σ0 at f0 t0 ⊢
  refine ys_312_7_ok ?_
  unfold ys_312_7
  rw [if_pos (by decide)]
  have l0 := tl2_l (As := As) (s := s) (kd := 0) (m := cnK As 0) (n := 0)
  have l1 := tl2_l (As := As) (s := s) (kd := 1) (m := cnK As 1) (n := 0)
  refine ys_312_14_ok (f_312l (kd := 0) hi (by omega) h hT (by omega) (cnK As 0) 0 [] σ0 (Nat.zero_add _) (by simp; omega) t0 f0 (fun σ1 t1 f1 => ?_))
  unfold ys_312_7
  rw [if_pos (show Int32.ofNat (0 + 1) < 3 by decide)]
  rw [List.nil_append] at t1
  refine ys_312_14_ok (f_312l (kd := 1) hi (by omega) h hT (by omega) (cnK As 1) 0 _ σ1 (Nat.zero_add _) (by omega) t1 f1 (fun σ2 t2 f2 => ?_))
  unfold ys_312_7
  rw [if_pos (show Int32.ofNat (1 + 1) < 3 by decide)]
  refine ys_312_14_ok (f_312l (kd := 2) hi (by omega) h hT (by omega) (cnK As 2) 0 _ σ2 (Nat.zero_add _) (by rw [List.length_append]; omega) t2 f2 (fun σ3 t3 f3 => ?_))
  unfold ys_312_7
  rw [if_neg (show ¬ Int32.ofNat (2 + 1) < 3 by decide)]
  rw [List.append_assoc] at t3
  exact hQ σ3 t3 f3
end MTL
