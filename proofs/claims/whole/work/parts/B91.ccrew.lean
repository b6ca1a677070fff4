
/-! ===== the class's crew ===== -/
def slo (P : Nat → Nat) : Prop := (∀ i, i < 12 → ∃ j, j < 12 ∧ P i = 65 + 2 * j) ∧ ∀ i i', i < 12 → i' < 12 → P i = P i' → i = i'
def SLr (P : Nat → Nat) (σ : my_S) : Prop := ∀ i, i < 12 → σ.2.2 63 i = some (P i)
/-- the picked tests, in order -/
def SLa (rv : Nat) (P : Nat → Nat) (L : List Tp) (σ : my_S) : Prop := ∀ (i : Nat) y, L[i]? = some y → σ.2.2 (P i) 0 = some (rv + 4 + 3 * y.1) ∧ σ.1 (P i) 1 = Int32.ofNat y.2.1 ∧ σ.1 (P i) 5 = 0 ∧ σ.1 (P i) 6 = 0 ∧ y.2.1 < 65536
def caF (c k : Nat) : Prop := (c = 62 ∧ k = 2) ∨ c = 63 ∨ (65 ≤ c ∧ c ≤ 88)
theorem in6 {a j : Nat} (hj : j < 12) (ha : a = 65 + 2 * j) : my_in 6 a := by
  have h : ∀ j : Fin 12, my_in 6 (65 + 2 * j.val) := by unfold my_in; decide +kernel
  rw [ha]
  exact h ⟨j, hj⟩
theorem slo_b {P : Nat → Nat} {i : Nat} (hP : slo P) (hi : i < 12) : 65 ≤ P i ∧ P i ≤ 87 ∧ my_in 6 (P i) ∧ P i % 2 = 1 := by
  obtain ⟨j, hj, he⟩ := hP.1 i hi
  exact ⟨by omega, by omega, in6 hj he, by omega⟩
section MCC
variable {rv : Nat} {e : my_E} {d : Nat} {κ : my_K} {σ σ' : my_S} {Q : my_O → my_K → my_S → Prop} {P : Nat → Nat} {L : List Tp} {x : Tp}
theorem SLr_o {F : Nat → Nat → Prop} (h : SLr P σ) (f : eqp F σ σ') (hF : ∀ c k, F c k → c ≠ 63) : SLr P σ' := fun i hi => ((f 63 i (fun hh => hF _ _ hh rfl)).2.2).trans (h i hi)
theorem SLa_o {F : Nat → Nat → Prop} (h : SLa rv P L σ) (f : eqp F σ σ') (hF : ∀ c k, F c k → ¬ ∃ i, i < L.length ∧ c = P i) : SLa rv P L σ' := fun i y hy => by
  have hi := (List.getElem?_eq_some_iff.mp hy).1
  have g : ∀ {k : Nat}, ¬ F (P i) k := fun hh => hF _ _ hh ⟨i, hi, rfl⟩
  obtain ⟨a, b, c, d, e1⟩ := h i y hy
  exact ⟨((f _ _ g).2.2).trans a, (eqp_g f g).trans b, (eqp_g f g).trans c, (eqp_g f g).trans d, e1⟩
theorem c_144 {v : Int32} (hd : 1 ≤ d) (hQ : ∀ σ', σ'.1 62 2 = 0 → σ'.1 62 4 = 1 → σ'.1 62 3 = v → (∀ w, w < 64 → σ'.1 64 w = 0) → eqp (fun c k => (c = 62 ∧ (k = 2 ∨ k = 3 ∨ k = 4)) ∨ c = 64) σ σ' → Q (.inl none) κ σ') : my_M e d 144 [.inr (.inr (some 62)), .inl v] κ σ Q := by
  obtain ⟨d, rfl⟩ := dS 1 hd
  refine ys_144 ?_
  unfold ys_144_0
  have f0 : eqp (fun c k => c = 62 ∧ (k = 2 ∨ k = 3 ∨ k = 4)) σ (my_uI (my_uI (my_uI σ 62 2 0) 62 4 1) 62 3 v) := eqp_I (eqp_I (eqp_I eqp_rf ⟨rfl, Or.inl rfl⟩) ⟨rfl, Or.inr (Or.inr rfl)⟩) ⟨rfl, Or.inr (Or.inl rfl)⟩
  have g2 : (my_uI (my_uI (my_uI σ 62 2 0) 62 4 1) 62 3 v).1 62 2 = 0 := by rw [my_uI_1, if_neg (by omega), my_uI_1, if_neg (by omega)]; exact uI_s
  have g4 : (my_uI (my_uI (my_uI σ 62 2 0) 62 4 1) 62 3 v).1 62 4 = 1 := by rw [my_uI_1, if_neg (by omega)]; exact uI_s
  have g3 : (my_uI (my_uI (my_uI σ 62 2 0) 62 4 1) 62 3 v).1 62 3 = v := uI_s
  generalize my_uI (my_uI (my_uI σ 62 2 0) 62 4 1) 62 3 v = σ0 at f0 g2 g4 g3 ⊢
  have lp : ∀ (m i : Nat) (σ' : my_S), i + m = 64 → (∀ w, w < i → σ'.1 64 w = 0) → eqp (fun c _ => c = 64) σ0 σ' → ys_144_17 e d (Int32.ofNat i) κ σ' Q := by
    intro m
    induction m with
    | zero =>
      intro i σ' hi hz f
      have : i = 64 := by omega
      subst this
      unfold ys_144_17
      rw [if_neg (show ¬ Int32.ofNat 64 < 64 by decide)]
      exact hQ σ' ((eqp_g f (by omega)).trans g2) ((eqp_g f (by omega)).trans g4) ((eqp_g f (by omega)).trans g3) hz (eqp_tr (eqp_mo f0 (fun c k hh => Or.inl hh)) (eqp_mo f (fun c k hh => Or.inr hh)))
    | succ m ih =>
      intro i σ' hi hz f
      unfold ys_144_17
      rw [if_pos ((oN_lt1 (b := 64) (c := 64) rfl (by omega) (by omega)).mpr (by omega)), oN_n (by omega), oN_s]
      refine ⟨bdk (by omega) (by omega), ys_144_17_ok (ih (i + 1) _ (by omega) (fun w hw => ?_) (eqp_I f rfl))⟩
      rw [my_uI_1]
      by_cases c : w = i
      · rw [if_pos ⟨rfl, c⟩]
      · rw [if_neg (by omega)]
        exact hz w (by omega)
  exact ys_144_17_ok (lp 64 0 σ0 (by omega) (fun w hw => by omega) eqp_rf)
/-- where the slots lie when one has gone in at p -/
def gSh (p cnt i : Nat) : Nat := if i < p then i else if i = p then cnt else if i ≤ cnt then i - 1 else i
theorem gSh_b {p cnt i : Nat} (hp : p ≤ cnt) (hc : cnt < 12) (hi : i < 12) : gSh p cnt i < 12 := by
  unfold gSh
  split
  · omega
  · split
    · omega
    · split <;> omega
theorem gSh_i {p cnt i j : Nat} (hp : p ≤ cnt) (h : gSh p cnt i = gSh p cnt j) : i = j := by
  unfold gSh at h
  by_cases a1 : i < p
  · rw [if_pos a1] at h
    by_cases b1 : j < p
    · rw [if_pos b1] at h; exact h
    · rw [if_neg b1] at h
      by_cases b2 : j = p
      · rw [if_pos b2] at h; omega
      · rw [if_neg b2] at h
        by_cases b3 : j ≤ cnt
        · rw [if_pos b3] at h; omega
        · rw [if_neg b3] at h; omega
  · rw [if_neg a1] at h
    by_cases a2 : i = p
    · rw [if_pos a2] at h
      by_cases b1 : j < p
      · rw [if_pos b1] at h; omega
      · rw [if_neg b1] at h
        by_cases b2 : j = p
        · omega
        · rw [if_neg b2] at h
          by_cases b3 : j ≤ cnt
          · rw [if_pos b3] at h; omega
          · rw [if_neg b3] at h; omega
    · rw [if_neg a2] at h
      by_cases a3 : i ≤ cnt
      · rw [if_pos a3] at h
        by_cases b1 : j < p
        · rw [if_pos b1] at h; omega
        · rw [if_neg b1] at h
          by_cases b2 : j = p
          · rw [if_pos b2] at h; omega
          · rw [if_neg b2] at h
            by_cases b3 : j ≤ cnt
            · rw [if_pos b3] at h; omega
            · rw [if_neg b3] at h; omega
      · rw [if_neg a3] at h
        by_cases b1 : j < p
        · rw [if_pos b1] at h; omega
        · rw [if_neg b1] at h
          by_cases b2 : j = p
          · rw [if_pos b2] at h; omega
          · rw [if_neg b2] at h
            by_cases b3 : j ≤ cnt
            · rw [if_pos b3] at h; omega
            · rw [if_neg b3] at h; omega
theorem c_145 (hP : slo P) (hr : SLr P σ) (hc : σ.1 62 2 = Int32.ofNat L.length) (hl : L.length < 12) (hx : x.2.1 < 65536) (hA : SLa rv P L σ) (hd : 2 ≤ d) (hQ : ∀ σ' P', slo P' → SLr P' σ' → σ'.1 62 2 = Int32.ofNat (insT L x).length → SLa rv P' (insT L x) σ' → eqp caF σ σ' → Q (.inl none) κ σ') : my_M e d 145 [.inr (.inr (some 62)), .inr (.inr (some (rv + 4 + 3 * x.1))), .inl (Int32.ofNat x.2.1)] κ σ Q := by
  obtain ⟨d, rfl⟩ := dS 2 hd
  obtain ⟨pb1, pb2, pb3, pb4⟩ := slo_b hP hl
  refine ys_145 ?_
  unfold ys_145_0
  rw [hc, if_neg (oN_0 (by omega)), if_pos ((oN_lt1 (b := 12) (c := 12) rfl (by omega) (by omega)).mpr hl), oN_n (by omega), hr _ hl]
  refine ⟨bdk (by omega) (by omega), _, rfl, pb3, ys_150 pb3 ?_⟩
  unfold ys_150_0
  rw [my_k0_v]
  have f0 : eqp (fun c _ => c = P L.length) σ (my_uI (my_uI (my_uI (my_uA σ (P L.length) 0 (some (rv + 4 + 3 * x.1))) (P L.length) 1 (Int32.ofNat x.2.1)) (P L.length) 5 0) (P L.length) 6 0) := eqp_I (eqp_I (eqp_I (eqp_A eqp_rf rfl) rfl) rfl) rfl
  have s0 : (my_uI (my_uI (my_uI (my_uA σ (P L.length) 0 (some (rv + 4 + 3 * x.1))) (P L.length) 1 (Int32.ofNat x.2.1)) (P L.length) 5 0) (P L.length) 6 0).2.2 (P L.length) 0 = some (rv + 4 + 3 * x.1) := by
    show (my_uA σ (P L.length) 0 (some (rv + 4 + 3 * x.1))).2.2 (P L.length) 0 = _
    unfold my_uA
    simp
  have s1 : (my_uI (my_uI (my_uI (my_uA σ (P L.length) 0 (some (rv + 4 + 3 * x.1))) (P L.length) 1 (Int32.ofNat x.2.1)) (P L.length) 5 0) (P L.length) 6 0).1 (P L.length) 1 = Int32.ofNat x.2.1 := by rw [my_uI_1, if_neg (by omega), my_uI_1, if_neg (by omega)]; exact uI_s
  have s5 : (my_uI (my_uI (my_uI (my_uA σ (P L.length) 0 (some (rv + 4 + 3 * x.1))) (P L.length) 1 (Int32.ofNat x.2.1)) (P L.length) 5 0) (P L.length) 6 0).1 (P L.length) 5 = 0 := by rw [my_uI_1, if_neg (by omega)]; exact uI_s
  have s6 : (my_uI (my_uI (my_uI (my_uA σ (P L.length) 0 (some (rv + 4 + 3 * x.1))) (P L.length) 1 (Int32.ofNat x.2.1)) (P L.length) 5 0) (P L.length) 6 0).1 (P L.length) 6 = 0 := uI_s
  generalize my_uI (my_uI (my_uI (my_uA σ (P L.length) 0 (some (rv + 4 + 3 * x.1))) (P L.length) 1 (Int32.ofNat x.2.1)) (P L.length) 5 0) (P L.length) 6 0 = σ0 at f0 s0 s1 s5 s6 ⊢
  have hr0 : SLr P σ0 := SLr_o hr f0 (fun c k hh => by omega)
  have hA0 : SLa rv P L σ0 := SLa_o hA f0 (fun c k hh => fun ⟨i, hi, he⟩ => by
    have := hP.2 i L.length (by omega) hl (by omega)
    omega)
  have c0 : σ0.1 62 2 = Int32.ofNat L.length := (eqp_g f0 (by omega)).trans hc
  rw [c0]
  have lp : ∀ (n : Nat) (σ' : my_S), n ≤ L.length → ips L x.2.1 n = ips L x.2.1 L.length → (∀ i, i < 12 → i ≠ n → σ'.2.2 63 i = some (P (if i < n then i else if i ≤ L.length then i - 1 else i))) → eqp (fun c _ => c = 63) σ0 σ' → ys_145_42 e (d + 1) (Int32.ofNat x.2.1) (some (P L.length)) (Int32.ofNat n) κ σ' Q := by
    intro n
    have fin : ∀ (n : Nat) (σ' : my_S), n ≤ L.length → n = ips L x.2.1 L.length → (∀ i, i < 12 → i ≠ n → σ'.2.2 63 i = some (P (if i < n then i else if i ≤ L.length then i - 1 else i))) → eqp (fun c _ => c = 63) σ0 σ' → ys_145_85 e (d + 1) (some (P L.length)) (Int32.ofNat n) κ σ' Q := by
      intro n σ' hn hp hs f
      unfold ys_145_85
      rw [oN_n (by omega), eqp_g f (show ¬ 62 = 63 by omega), c0, oN_s]
      refine ⟨fun b hb => by cases hb; exact pb3, bdk (by omega) (by omega), ?_⟩
      have f1 : eqp (fun c k => (c = 62 ∧ k = 2) ∨ c = 63) σ' (my_uI (my_uA σ' 63 n (some (P L.length))) 62 2 (Int32.ofNat (L.length + 1))) := eqp_I (eqp_A eqp_rf (Or.inr rfl)) (Or.inl ⟨rfl, rfl⟩)
      have r1 : ∀ i, i < 12 → (my_uI (my_uA σ' 63 n (some (P L.length))) 62 2 (Int32.ofNat (L.length + 1))).2.2 63 i = some (P (gSh n L.length i)) := fun i hi => by
        show (my_uA σ' 63 n (some (P L.length))).2.2 63 i = _
        unfold my_uA gSh
        by_cases ci : i = n
        · subst ci
          simp
        · have := hs i hi ci
          simp only [ci, and_false, if_false]
          rw [this]
      have g1 : (my_uI (my_uA σ' 63 n (some (P L.length))) 62 2 (Int32.ofNat (L.length + 1))).1 62 2 = Int32.ofNat (L.length + 1) := uI_s
      generalize my_uI (my_uA σ' 63 n (some (P L.length))) 62 2 (Int32.ofNat (L.length + 1)) = σ2 at f1 r1 g1 ⊢
      have f02 : eqp (fun c k => (c = 62 ∧ k = 2) ∨ c = 63) σ0 σ2 := eqp_tr (eqp_mo f (fun c k hh => Or.inr hh)) f1
      refine hQ σ2 (fun i => P (gSh n L.length i)) ⟨fun i hi => hP.1 _ (gSh_b hn hl hi), fun i i' hi hi' he => gSh_i hn (hP.2 _ _ (gSh_b hn hl hi) (gSh_b hn hl hi') he)⟩ r1 (by rw [insT_l]; exact g1) (fun i y hy => ?_) (eqp_tr (eqp_mo f0 (fun c k hh => by unfold caF; omega)) (eqp_mo f02 (fun c k hh => by unfold caF; omega)))
      rw [insT_g, ← hp] at hy
      have o : ∀ {q k : Nat}, q < 12 → σ2.1 (P q) k = σ0.1 (P q) k ∧ σ2.2.2 (P q) k = σ0.2.2 (P q) k := fun {q k} hq => by
        obtain ⟨b1, b2, _, _⟩ := slo_b hP hq
        exact ⟨eqp_g f02 (by omega), (f02 _ _ (by omega)).2.2⟩
      by_cases a1 : i < n
      · rw [if_pos a1] at hy
        have e1 : gSh n L.length i = i := by unfold gSh; rw [if_pos a1]
        obtain ⟨t1, t2, t3, t4, t5⟩ := hA0 i y hy
        show σ2.2.2 (P (gSh n L.length i)) 0 = _ ∧ σ2.1 (P (gSh n L.length i)) 1 = _ ∧ σ2.1 (P (gSh n L.length i)) 5 = _ ∧ σ2.1 (P (gSh n L.length i)) 6 = _ ∧ _
        rw [e1]
        exact ⟨(o (by omega)).2.trans t1, (o (by omega)).1.trans t2, (o (by omega)).1.trans t3, (o (by omega)).1.trans t4, t5⟩
      · rw [if_neg a1] at hy
        by_cases a2 : i = n
        · rw [if_pos a2] at hy
          cases hy
          have e1 : gSh n L.length i = L.length := by unfold gSh; rw [if_neg a1, if_pos a2]
          show σ2.2.2 (P (gSh n L.length i)) 0 = _ ∧ σ2.1 (P (gSh n L.length i)) 1 = _ ∧ σ2.1 (P (gSh n L.length i)) 5 = _ ∧ σ2.1 (P (gSh n L.length i)) 6 = _ ∧ _
          rw [e1]
          exact ⟨(o hl).2.trans s0, (o hl).1.trans s1, (o hl).1.trans s5, (o hl).1.trans s6, hx⟩
        · rw [if_neg a2] at hy
          have hi1 := (List.getElem?_eq_some_iff.mp hy).1
          have e1 : gSh n L.length i = i - 1 := by unfold gSh; rw [if_neg a1, if_neg a2, if_pos (by omega)]
          obtain ⟨t1, t2, t3, t4, t5⟩ := hA0 (i - 1) y hy
          show σ2.2.2 (P (gSh n L.length i)) 0 = _ ∧ σ2.1 (P (gSh n L.length i)) 1 = _ ∧ σ2.1 (P (gSh n L.length i)) 5 = _ ∧ σ2.1 (P (gSh n L.length i)) 6 = _ ∧ _
          rw [e1]
          exact ⟨(o (by omega)).2.trans t1, (o (by omega)).1.trans t2, (o (by omega)).1.trans t3, (o (by omega)).1.trans t4, t5⟩
    induction n with
    | zero =>
      intro σ' hn hp hs f
      unfold ys_145_42
      rw [if_neg (show ¬ (0 : Int32) < Int32.ofNat 0 by decide)]
      exact fin 0 σ' hn hp hs f
    | succ n ih =>
      intro σ' hn hp hs f
      have hy := List.getElem?_eq_getElem (show n < L.length by omega)
      generalize L[n] = y at hy
      obtain ⟨t1, t2, t3, t4, t5⟩ := hA0 n y hy
      obtain ⟨b1, b2, b3, _⟩ := slo_b hP (show n < 12 by omega)
      have hsn := hs n (by omega) (by omega)
      rw [if_pos (show n < n + 1 by omega)] at hsn
      have hpp : (if y.2.1 < x.2.1 then ips L x.2.1 n else n + 1) = ips L x.2.1 L.length := by
        rw [← hp]
        show _ = (match L[n]? with
          | none => n + 1
          | some x_1 => if x_1.2.1 < x.2.1 then ips L x.2.1 n else n + 1)
        rw [hy]
      unfold ys_145_42
      rw [if_pos (oN_pos (by omega) (by omega)), oN_m, oN_n (show n < 2147483648 by omega), hsn]
      refine ⟨bdk (by omega) (by omega), _, rfl, b3, ?_⟩
      rw [eqp_g f (show ¬ P n = 63 by omega), t2]
      by_cases c : y.2.1 < x.2.1
      · rw [if_pos c] at hpp
        rw [if_pos ((oN_lt (by omega) (by omega)).mpr c), oN_n (by omega), show Int32.ofNat (n + 1) + Int32.ofInt (-1) = Int32.ofNat n by rw [show Int32.ofNat (n + 1) + Int32.ofInt (-1) = Int32.ofNat (n + 1) - 1 by rw [Int32.sub_eq_add_neg]; rfl, oN_m]]
        refine ⟨bdk (by omega) (by omega), fun b hb => by cases hb; exact b3, bdk (by omega) (by omega), ys_145_42_ok (ih _ (by omega) hpp (fun i hi hne => ?_) (eqp_A f rfl))⟩
        by_cases c2 : i = n + 1
        · subst c2
          unfold my_uA
          simp only [and_self, if_true]
          rw [if_neg (by omega), if_pos (by omega), Nat.add_sub_cancel]
        · have := hs i hi c2
          unfold my_uA
          simp only [c2, and_false, if_false]
          rw [this]
          congr 2
          by_cases c3 : i < n
          · rw [if_pos c3, if_pos (by omega)]
          · rw [if_neg c3, if_neg (by omega)]
      · rw [if_neg c] at hpp
        rw [if_neg (fun hh => c ((oN_lt (by omega) (by omega)).mp hh))]
        exact fin (n + 1) σ' hn hpp hs f
  exact ys_145_42_ok (lp L.length σ0 (Nat.le_refl _) rfl (fun i hi hne => by
    rw [hr0 i hi]
    by_cases c : i < L.length
    · rw [if_pos c]
    · rw [if_neg c, if_neg (by omega)]) eqp_rf)
end MCC
