
/-! ===== the class's machine: calls, cells, instructions ===== -/
section MCQ
variable {e : my_E} {d : Nat} {κ : my_K} {σ σ' : my_S} {Q : my_O → my_K → my_S → Prop} {A rv : Nat} {s : Ms} {As : List Ri} {I : List It}
/-- a frame is opened: the cells of it nought so far as told -/
def zop0 (j m : Nat) (s : Ms) : Ms := (s.1, (zD s + 1, upN (zw s) (zD s + 1) j, upN (zP s) (zD s + 1) 0, upN (zB s) (zD s + 1) (zT s)), (fun i => if 10 * (zD s + 1) ≤ i ∧ i < 10 * (zD s + 1) + m then 0 else zL s i), s.2.2.2)
/-- without what a frame holds -/
def CMx (A rv : Nat) (n : Nat) (s : Ms) (σ : my_S) : Prop := σ.2.2 A 0 = some rv ∧ kc2 A s σ ∧ kc3 A rv s σ ∧ (∀ i, i < n → σ.1 (A + 5) i = zL s i) ∧ kc5 A s σ ∧ kc6 A s σ ∧ kc7 A s σ ∧ kc8 A rv s σ
theorem m_110l {j : Nat} (hA : A = 44 ∨ A = 53) (hD : zD s < 20) (hd : 1 ≤ d) : ∀ (m i : Nat) (σ : my_S), i + m = 10 → CMx A rv (10 * (zD s + 1) + i) (zop0 j i s) σ → (∀ σ', CMs A rv (zop0 j 10 s) σ' → eqp (fun c _ => c = A + 5) σ σ' → Q (.inl none) κ σ') → ys_110_44 e d A (Int32.ofNat i) κ σ Q := by
  intro m
  induction m with
  | zero =>
    intro i σ hi h hQ
    have : i = 10 := by omega
    subst this
    unfold ys_110_44 ys_110_62
    rw [if_neg (by decide)]
    obtain ⟨h1, h2, h3, h4, h5, h6, h7, h8⟩ := h
    exact hQ σ ⟨h1, h2, h3, fun u hu => h4 u (by have : u < 10 * (zD s + 1 + 1) := hu; omega), h5, h6, h7, h8⟩ eqp_rf
  | succ m ih =>
    intro i σ hi h hQ
    obtain ⟨h1, h2, h3, h4, h5, h6, h7, h8⟩ := h
    unfold ys_110_44
    rw [if_pos ((oN_lt1 (b := 10) (c := 10) rfl (by omega) (by omega)).mpr (by omega))]
    obtain ⟨d, rfl⟩ := dS 1 hd
    refine ys_111 (in4 hA) ?_
    unfold ys_111_0 ys_111_40
    have h3' : σ.1 A 7 = Int32.ofNat (zD s + 1) := h3.1
    have em : Int32.ofNat (zD s + 1) * 10 + Int32.ofNat i = Int32.ofNat (10 * (zD s + 1) + i) := by
      rw [show (10 : Int32) = Int32.ofNat 10 from rfl, ← Int32.ofNat_mul, ← Int32.ofNat_add, Nat.mul_comm]
    rw [h3', em, if_neg (oN_0 (by omega)), if_pos ((oN_lt1 (b := 10) (c := 10) rfl (by omega) (by omega)).mpr (by omega)), if_neg (oN_0 (by omega)), if_pos ((oN_lt1 (b := 210) (c := 210) rfl (by omega) (by omega)).mpr (by omega)), oN_n (by omega)]
    refine ⟨bdk (by omega) (by omega), ?_⟩
    rw [my_k0_v, oN_s]
    have f : eqp (fun c _ => c = A + 5) σ (my_uI σ (A + 5) (10 * (zD s + 1) + i) 0) := eqp_I eqp_rf rfl
    have n4 : ∀ u, u < 10 * (zD s + 1) + (i + 1) → (my_uI σ (A + 5) (10 * (zD s + 1) + i) 0).1 (A + 5) u = zL (zop0 j (i + 1) s) u := fun u hu => by
      rw [my_uI_1]
      show _ = if 10 * (zD s + 1) ≤ u ∧ u < 10 * (zD s + 1) + (i + 1) then 0 else zL s u
      by_cases c : u = 10 * (zD s + 1) + i
      · rw [if_pos ⟨rfl, c⟩, if_pos (by omega)]
      · rw [if_neg (by omega), h4 u (by omega)]
        show (if 10 * (zD s + 1) ≤ u ∧ u < 10 * (zD s + 1) + i then 0 else zL s u) = _
        by_cases c2 : 10 * (zD s + 1) ≤ u
        · rw [if_pos (by omega), if_pos (by omega)]
        · rw [if_neg (by omega), if_neg (by omega)]
    generalize my_uI σ (A + 5) (10 * (zD s + 1) + i) 0 = σ1 at f n4 ⊢
    exact ys_110_44_ok (in4 hA) (ih (i + 1) σ1 (by omega) ⟨kc1_o h1 f (fun c k hh => by omega), kc2_o h2 f (fun c k hh => by omega), kc3_o h3 f (fun c k hh => by omega), n4, kc5_o h5 f (fun c k hh => by omega), kc6_o h6 f (fun c k hh => by omega), kc7_o h7 f (fun c k hh => by omega), kc8_o h8 f (fun c k hh => by omega)⟩ (fun σ2 g2 f2 => hQ σ2 g2 (eqp_tr f f2)))
theorem m_110 {j : Nat} (hA : A = 44 ∨ A = 53) (h : CMs A rv s σ) (hD : zD s < 20) (hT : zT s ≤ 2200) (hj : my_in 11 (rv + 4 + 3 * j)) (hd : 2 ≤ d) (hQ : ∀ σ', CMs A rv (zop0 j 10 s) σ' → eqp (fun c k => (c = A ∧ k = 7) ∨ (A + 2 ≤ c ∧ c ≤ A + 5)) σ σ' → Q (.inl none) κ σ') : my_M e d 110 [.inr (.inr (some A)), .inl (Int32.ofNat (zD s + 1)), .inr (.inr (some (rv + 4 + 3 * j)))] κ σ Q := by
  obtain ⟨d, rfl⟩ := dS 1 (show 1 ≤ d by omega)
  obtain ⟨h1, h2, h3, h4, h5, h6, h7, h8⟩ := h
  refine ys_110 (in4 hA) ?_
  unfold ys_110_0
  rw [if_neg (oN_0 (by omega)), if_pos ((oN_lt1 (b := 21) (c := 21) rfl (by omega) (by omega)).mpr (by omega)), oN_n (by omega)]
  refine ⟨fun b hb => (by cases hb; exact hj), bdk (by omega) (by omega), bdk (by omega) (by omega), bdk (by omega) (by omega), ?_⟩
  have rT : (my_uI (my_uA (my_uI σ A 7 (Int32.ofNat (zD s + 1))) (A + 2) (zD s + 1) (some (rv + 4 + 3 * j))) (A + 3) (zD s + 1) 0).1 A 2 = Int32.ofNat (zT s) := by
    rw [my_uI_1, if_neg (by omega)]
    show (my_uI σ A 7 (Int32.ofNat (zD s + 1))).1 A 2 = _
    rw [my_uI_1, if_neg (by omega)]
    exact h2.1
  rw [rT]
  have f : eqp (fun c k => (c = A ∧ k = 7) ∨ ((c = A + 2 ∨ c = A + 3 ∨ c = A + 4) ∧ k = zD s + 1)) σ (my_uI (my_uI (my_uA (my_uI σ A 7 (Int32.ofNat (zD s + 1))) (A + 2) (zD s + 1) (some (rv + 4 + 3 * j))) (A + 3) (zD s + 1) 0) (A + 4) (zD s + 1) (Int32.ofNat (zT s))) := eqp_I (eqp_I (eqp_A (eqp_I eqp_rf (Or.inl ⟨rfl, rfl⟩)) (Or.inr ⟨Or.inl rfl, rfl⟩)) (Or.inr ⟨Or.inr (Or.inl rfl), rfl⟩)) (Or.inr ⟨Or.inr (Or.inr rfl), rfl⟩)
  have n3 : kc3 A rv (zop0 j 0 s) (my_uI (my_uI (my_uA (my_uI σ A 7 (Int32.ofNat (zD s + 1))) (A + 2) (zD s + 1) (some (rv + 4 + 3 * j))) (A + 3) (zD s + 1) 0) (A + 4) (zD s + 1) (Int32.ofNat (zT s))) := by
    refine ⟨?_, fun u hu => ?_⟩
    · rw [my_uI_1, if_neg (by omega), my_uI_1, if_neg (by omega)]
      show (my_uI σ A 7 (Int32.ofNat (zD s + 1))).1 A 7 = _
      rw [uI_s]
      rfl
    · have hu : u ≤ zD s + 1 := hu
      show _ = some (rv + 4 + 3 * upN (zw s) (zD s + 1) j u) ∧ _ = Int32.ofNat (upN (zP s) (zD s + 1) 0 u) ∧ _ = Int32.ofNat (upN (zB s) (zD s + 1) (zT s) u)
      by_cases c : u = zD s + 1
      · subst c
        rw [upN_s, upN_s, upN_s]
        refine ⟨?_, ?_, uI_s⟩
        · show (my_uA (my_uI σ A 7 (Int32.ofNat (zD s + 1))) (A + 2) (zD s + 1) (some (rv + 4 + 3 * j))).2.2 (A + 2) (zD s + 1) = _
          rw [my_uA_3, if_pos ⟨rfl, rfl⟩]
        · rw [my_uI_1, if_neg (by omega), uI_s]
          rfl
      · rw [upN_o c, upN_o c, upN_o c]
        have h' := h3.2 u (by omega)
        exact ⟨((f _ _ (by omega)).2.2).trans h'.1, (eqp_g f (by omega)).trans h'.2.1, (eqp_g f (by omega)).trans h'.2.2⟩
  generalize my_uI (my_uI (my_uA (my_uI σ A 7 (Int32.ofNat (zD s + 1))) (A + 2) (zD s + 1) (some (rv + 4 + 3 * j))) (A + 3) (zD s + 1) 0) (A + 4) (zD s + 1) (Int32.ofNat (zT s)) = σ1 at f n3 ⊢
  have n4 : ∀ i, i < 10 * (zD s + 1) + 0 → σ1.1 (A + 5) i = zL (zop0 j 0 s) i := fun i hi => by
    rw [eqp_g f (by omega), h4 i (by omega)]
    show _ = if 10 * (zD s + 1) ≤ i ∧ i < 10 * (zD s + 1) + 0 then 0 else zL s i
    rw [if_neg (by omega)]
  exact ys_110_44_ok (in4 hA) (m_110l (j := j) hA hD (by omega) 10 0 σ1 (by omega) ⟨kc1_o h1 f (fun c k hh => by omega), kc2_o h2 f (fun c k hh => by omega), n3, n4, kc5_o h5 f (fun c k hh => by omega), kc6_o h6 f (fun c k hh => by omega), kc7_o h7 f (fun c k hh => by omega), kc8_o h8 f (fun c k hh => by omega)⟩ (fun σ2 g2 f2 => hQ σ2 g2 (eqp_tr (eqp_mo f (fun c k hh => by omega)) (eqp_mo f2 (fun c k hh => by omega)))))
/-- its parameters are told, one by one -/
def zpar (c i : Nat) (s : Ms) : Ms := (s.1, s.2.1, (fun u => if 10 * zD s ≤ u ∧ u < 10 * zD s + i then zV s (zT s + (u - 10 * zD s)) else zL s u), s.2.2.2)
theorem m_123l {c : Nat} (hA : A = 44 ∨ A = 53) (hD : zD s ≤ 20) (hc : c ≤ 4) (hT : zT s + c ≤ 2200) (hd : 1 ≤ d) : ∀ (m i : Nat) (σ : my_S), i + m = c → CMs A rv (zpar c i s) σ → (∀ u, u < c → σ.1 (A + 1) (zT s + u) = zV s (zT s + u)) → (∀ σ', CMs A rv (zpar c c s) σ' → eqp (fun c _ => c = A + 5) σ σ' → Q (.inl none) κ σ') → ys_123_60 e d A (Int32.ofNat c) (Int32.ofNat i) κ σ Q := by
  intro m
  induction m with
  | zero =>
    intro i σ hi h hv hQ
    have : i = c := by omega
    subst this
    unfold ys_123_60
    rw [if_neg (by rw [oN_lt (by omega) (by omega)]; omega)]
    exact hQ σ h eqp_rf
  | succ m ih =>
    intro i σ hi h hv hQ
    unfold ys_123_60
    have hT' : σ.1 A 2 = Int32.ofNat (zT s) := h.2.1.1
    rw [if_pos ((oN_lt (by omega) (by omega)).mpr (by omega)), hT', ← Int32.ofNat_add, if_pos ((oN_lt1 (b := 2200) (c := 2200) rfl (by omega) (by omega)).mpr (by omega)), oN_n (by omega), hv i (by omega)]
    refine ⟨bdk (by omega) (by omega), ?_⟩
    unfold ys_123_96
    refine m_111 (i := i) hA h hD (by omega) hd (fun σ1 g1 f1 => ?_)
    rw [my_k0_v, oN_s]
    have e1 : zsL (10 * zD (zpar c i s) + i) (zV s (zT s + i)) (zpar c i s) = zpar c (i + 1) s := by
      unfold zsL zpar
      show (s.1, s.2.1, upN (fun u => if 10 * zD s ≤ u ∧ u < 10 * zD s + i then zV s (zT s + (u - 10 * zD s)) else zL s u) (10 * zD s + i) (zV s (zT s + i)), s.2.2.2) = _
      congr 3
      funext u
      by_cases hu : u = 10 * zD s + i
      · rw [hu, upN_s, if_pos (by omega), Nat.add_sub_cancel_left]
      · rw [upN_o hu]
        by_cases h2 : 10 * zD s ≤ u ∧ u < 10 * zD s + i
        · rw [if_pos h2, if_pos (by omega)]
        · rw [if_neg h2, if_neg (by omega)]
    rw [e1] at g1
    refine ys_123_60_ok (in4 hA) (ih (i + 1) σ1 (by omega) g1 (fun u hu => ?_) (fun σ2 g2 f2 => hQ σ2 g2 (eqp_tr f1 f2)))
    rw [eqp_g f1 (by omega)]
    exact hv u hu
theorem zen_e {j c : Nat} (hc : c ≤ zT s) : zpar c c (zop0 j 10 ((zT s - c, zV s), s.2)) = (((zT s - c, zV s), (zD s + 1, upN (zw s) (zD s + 1) j, upN (zP s) (zD s + 1) 0, upN (zB s) (zD s + 1) (zT s - c)), (fun u => if 10 * (zD s + 1) ≤ u ∧ u < 10 * (zD s + 1) + c then zV s (zT s - c + (u - 10 * (zD s + 1))) else if 10 * (zD s + 1) ≤ u ∧ u < 10 * (zD s + 1) + 10 then 0 else zL s u), s.2.2.2) : Ms) := rfl
/-- what a frame holds beyond its ten counts for nothing -/
theorem CMs_L {s' : Ms} (h : CMs A rv s σ) (e1 : s'.1 = s.1) (e2 : s'.2.1 = s.2.1) (e3 : ∀ i, i < 10 * (zD s + 1) → zL s' i = zL s i) (e4 : s'.2.2.2 = s.2.2.2) : CMs A rv s' σ := by
  obtain ⟨a, b, c, d'⟩ := s
  obtain ⟨a', b', c', d''⟩ := s'
  dsimp only at e1 e2 e4
  subst e1 e2 e4
  obtain ⟨h1, h2, h3, h4, h5, h6, h7, h8⟩ := h
  exact ⟨h1, h2, h3, fun i hi => (h4 i hi).trans (e3 i hi).symm, h5, h6, h7, h8⟩
theorem m_123 {j n c : Nat} (hA : A = 44 ∨ A = 53) (h : CMs A rv s σ) (hF : zF s ≤ 3000) (hD : zD s ≤ 20) (hT : zT s ≤ 2200) (hc : c ≤ zT s) (hc4 : c ≤ 4) (hrv : rv = 108 ∨ rv = 238 ∨ rv = 368) (hj : j < 42) (hk : σ.1 (rv + 4 + 3 * j) 1 = 2) (hn : σ.1 (rv + 4 + 3 * j) 2 = Int32.ofNat n) (hn32 : n < 32) (hp : σ.1 (rv + 4 + 3 * j) 5 = Int32.ofNat c) (hd : 3 ≤ d) (hQ : ∀ σ', CMs A rv (if zF s < 3000 then (if zD s < 20 then zopn j c (ztch 2 n (zbr s)) else zend 4 (ztch 2 n (zbr s))) else zend 3 s) σ' → eqp (cmF A) σ σ' → Q (.inl none) κ σ') : my_M e d 123 [.inr (.inr (some A)), .inr (.inr (some (rv + 4 + 3 * j)))] κ σ Q := by
  obtain ⟨d, rfl⟩ := dS 1 (show 1 ≤ d by omega)
  have hin := in11 hrv hj
  have far : ∀ {σ' : my_S} {k : Nat}, eqp (cmF A) σ σ' → σ'.1 (rv + 4 + 3 * j) k = σ.1 (rv + 4 + 3 * j) k := fun f => eqp_g f (by unfold cmF; omega)
  refine ys_123 (in4 hA) ?_
  unfold ys_123_0
  refine m_124 hA h hF (by omega) (fun σ1 hf g1 f1 => ?_) (fun σ1 hf g1 f1 => ?_)
  · rw [if_pos hf] at hQ
    rw [my_kI_v, if_neg (by decide)]
    refine m_115 (K := 2) (n := n) hA g1 hin ((far f1).trans hk) (by omega) ((far f1).trans hn) hn32 (by omega) (fun σ2 g2 f2 => ?_)
    have f12 := eqp_tr f1 f2
    have hD2 : σ2.1 A 7 = Int32.ofNat (zD s) := g2.2.2.1.1
    have hT2 : σ2.1 A 2 = Int32.ofNat (zT s) := g2.2.1.1
    rw [my_k0_v, hD2]
    by_cases h20 : zD s < 20
    · rw [if_pos h20] at hQ
      rw [if_pos ((oN_lt1 (b := 20) (c := 20) rfl (by omega) (by omega)).mpr h20)]
      refine ⟨_, rfl, hin, ?_⟩
      rw [hT2, (far f12).trans hp]
      have em : Int32.ofNat (zT s) - Int32.ofNat c = Int32.ofNat (zT s - c) := by
        conv => lhs; rw [show zT s = zT s - c + c by omega, Int32.ofNat_add, Int32.add_sub_cancel]
      have ei : (if (0 : Int32) < Int32.ofNat (zT s - c) then Int32.ofNat (zT s - c) else 0) = Int32.ofNat (zT s - c) := by
        by_cases h0 : zT s - c = 0
        · rw [h0]; rfl
        · rw [if_pos (show (0 : Int32) < Int32.ofNat (zT s - c) from (oN_lt (p := 0) (by omega) (by omega)).mpr (by omega))]
      rw [em, ei, my_uI_1, if_neg (by omega), hD2, oN_s]
      have f3 : eqp (fun c k => c = A ∧ k = 2) σ2 (my_uI σ2 A 2 (Int32.ofNat (zT s - c))) := eqp_I eqp_rf ⟨rfl, rfl⟩
      have g3 : CMs A rv (((zT s - c, zV s), (ztch 2 n (zbr s)).2) : Ms) (my_uI σ2 A 2 (Int32.ofNat (zT s - c))) := by
        obtain ⟨h1, h2, h3, h4, h5, h6, h7, h8⟩ := g2
        exact ⟨kc1_o h1 f3 (fun c k hh => by omega), ⟨uI_s, fun i hi => (eqp_g f3 (by omega)).trans (h2.2 i (by have hi : i < zT s - c := hi; show i < zT s; omega))⟩, kc3_o h3 f3 (fun c k hh => by omega), kc4_o h4 f3 (fun c k hh => by omega), kc5_o h5 f3 (fun c k hh => by omega), kc6_o h6 f3 (fun c k hh => by omega), kc7_o h7 f3 (fun c k hh => by omega), kc8_o h8 f3 (fun c k hh => by omega)⟩
      have v3 : ∀ i, i < zT s → (my_uI σ2 A 2 (Int32.ofNat (zT s - c))).1 (A + 1) i = zV s i := fun i hi => (eqp_g f3 (by omega)).trans (g2.2.1.2 i hi)
      generalize my_uI σ2 A 2 (Int32.ofNat (zT s - c)) = σ3 at f3 g3 v3 ⊢
      refine m_110 (s := (((zT s - c, zV s), (ztch 2 n (zbr s)).2) : Ms)) (j := j) hA g3 h20 (by show zT s - c ≤ 2200; omega) hin (by omega) (fun σ4 g4 f4 => ?_)
      rw [my_k0_v]
      have hz : ∀ u : Nat, 10 * (zD s + 1) ≤ u ∧ u < 10 * (zD s + 1) + 0 → False := fun u hu => by omega
      have g4' : CMs A rv (zpar c 0 (zop0 j 10 (((zT s - c, zV s), (ztch 2 n (zbr s)).2) : Ms))) σ4 := CMs_L g4 rfl rfl (fun i _ => by
        show (if 10 * (zD s + 1) ≤ i ∧ i < 10 * (zD s + 1) + 0 then _ else _) = _
        rw [if_neg (hz i)]) rfl
      refine ys_123_60_ok (in4 hA) (m_123l (s := zop0 j 10 (((zT s - c, zV s), (ztch 2 n (zbr s)).2) : Ms)) (c := c) hA (by show zD s + 1 ≤ 20; omega) hc4 (by show zT s - c + c ≤ 2200; omega) (by omega) c 0 σ4 (by omega) g4' (fun u hu => ?_) (fun σ5 g5 f5 => ?_))
      · show σ4.1 (A + 1) (zT s - c + u) = zV s (zT s - c + u)
        rw [eqp_g f4 (by omega)]
        exact v3 _ (by omega)
      · refine hQ σ5 (CMs_L g5 rfl rfl (fun i hi => ?_) rfl) (eqp_tr f12 (eqp_tr (eqp_mo f3 (fun c k hh => by unfold cmF; omega)) (eqp_tr (eqp_mo f4 (fun c k hh => by unfold cmF; omega)) (eqp_mo f5 (fun c k hh => by unfold cmF; omega)))))
        have hi : i < 10 * (zD s + 1 + 1) := hi
        show (if 10 * (zD s + 1) ≤ i then (if i - 10 * (zD s + 1) < c then zV s (zT s - c + (i - 10 * (zD s + 1))) else 0) else zL s i) = (if 10 * (zD s + 1) ≤ i ∧ i < 10 * (zD s + 1) + c then zV s (zT s - c + (i - 10 * (zD s + 1))) else if 10 * (zD s + 1) ≤ i ∧ i < 10 * (zD s + 1) + 10 then 0 else zL s i)
        by_cases c1 : 10 * (zD s + 1) ≤ i
        · rw [if_pos c1]
          by_cases c2 : i - 10 * (zD s + 1) < c
          · rw [if_pos c2, if_pos (by omega)]
          · rw [if_neg c2, if_neg (by omega), if_pos (by omega)]
        · rw [if_neg c1, if_neg (by omega), if_neg (by omega)]
    · rw [if_neg h20] at hQ
      rw [if_neg (fun hh => h20 ((oN_lt1 (b := 20) (c := 20) rfl (by omega) (by omega)).mp hh))]
      have := CMs_end (n := 4) g2
      exact hQ _ this.1 (eqp_tr f12 this.2)
  · rw [if_neg hf] at hQ
    rw [my_kI_v, if_pos rfl]
    exact hQ σ1 g1 f1
theorem m_120 {j n : Nat} {v : Int32} (hA : A = 44 ∨ A = 53) (h : CMs A rv s σ) (hT : zT s < 2200) (hrv : rv = 108 ∨ rv = 238 ∨ rv = 368) (hj : j < 42) (hn : σ.1 (rv + 4 + 3 * j) 2 = Int32.ofNat n) (hn4 : n < 4) {al : Int32} (hal : σ.1 (rv + 4 + 3 * j) 8 = al) (hal32 : ¬ (32 : Int32) < al) (hd : 2 ≤ d) (hQ : ∀ σ', CMs A rv (if v < 0 ∨ ¬ v < al then zend 5 s else zpsh (zC s (32 * n + v.toNatClampNeg)) s) σ' → eqp (cmF A) σ σ' → Q (.inl none) κ σ') : my_M e d 120 [.inr (.inr (some A)), .inr (.inr (some (rv + 4 + 3 * j))), .inl v] κ σ Q := by
  obtain ⟨d, rfl⟩ := dS 1 (show 1 ≤ d by omega)
  have hin := in11 hrv hj
  refine ys_120 (in4 hA) ?_
  unfold ys_120_0 ys_120_12 ys_120_33
  have bad : v < 0 ∨ ¬ v < al → Q (.inl none) κ (my_uI σ A 12 5) := fun hb => by
    rw [if_pos hb] at hQ
    have := CMs_end (n := 5) h
    exact hQ _ this.1 this.2
  refine my_if (fun c => bad (Or.inl c)) (fun c => ⟨_, rfl, hin, ?_⟩)
  rw [hal]
  refine my_if (fun c2 => ⟨_, rfl, hin, ?_⟩) (fun c2 => bad (Or.inr c2))
  rw [if_neg (fun hh => by rcases hh with hh | hh; exact c hh; exact hh c2)] at hQ
  obtain ⟨w, hw, hw2⟩ := nn_of c
  have hw32 : w < 32 := by
    rw [hw] at c2
    by_cases hh : w < 32
    · exact hh
    · exfalso
      apply hal32
      have h1 : ¬ Int32.ofNat w < 32 := fun h3 => hh ((oN_lt1 (b := 32) (c := 32) rfl hw2 (by omega)).mp h3)
      have h2 := Int32.not_lt.mp h1
      exact Int32.lt_of_le_of_lt h2 c2
  rw [hn, hw]
  refine m_121 hA h hn4 hw32 (by omega) ?_
  rw [my_kI_v]
  refine m_117 hA h hT (by omega) (fun σ1 g1 f1 => ?_)
  rw [my_k0_v]
  rw [hw, oN_n hw2] at hQ
  exact hQ σ1 g1 f1
theorem m_122 {j n : Nat} {v u : Int32} (hA : A = 44 ∨ A = 53) (h : CMs A rv s σ) (hrv : rv = 108 ∨ rv = 238 ∨ rv = 368) (hj : j < 42) (hn : σ.1 (rv + 4 + 3 * j) 2 = Int32.ofNat n) (hn4 : n < 4) {al : Int32} (hal : σ.1 (rv + 4 + 3 * j) 8 = al) (hal32 : ¬ (32 : Int32) < al) (hd : 1 ≤ d) (hQ : ∀ σ', CMs A rv (if v < 0 ∨ ¬ v < al then zend 5 s else zsC (32 * n + v.toNatClampNeg) u s) σ' → eqp (cmF A) σ σ' → Q (.inl none) κ σ') : my_M e d 122 [.inr (.inr (some A)), .inr (.inr (some (rv + 4 + 3 * j))), .inl v, .inl u] κ σ Q := by
  obtain ⟨d, rfl⟩ := dS 1 hd
  have hin := in11 hrv hj
  refine ys_122 (in4 hA) ?_
  unfold ys_122_0 ys_122_23 ys_122_54
  have bad : v < 0 ∨ ¬ v < al → Q (.inl none) κ (my_uI σ A 12 5) := fun hb => by
    rw [if_pos hb] at hQ
    have := CMs_end (n := 5) h
    exact hQ _ this.1 this.2
  refine ⟨_, rfl, hin, my_if (fun c => bad (Or.inl c)) (fun c => ⟨_, rfl, hin, ?_⟩)⟩
  rw [hal]
  refine my_if (fun c2 => ?_) (fun c2 => bad (Or.inr c2))
  rw [if_neg (fun hh => by rcases hh with hh | hh; exact c hh; exact hh c2)] at hQ
  obtain ⟨w, hw, hw2⟩ := nn_of c
  have hw32 : w < 32 := by
    rw [hw] at c2
    by_cases hh : w < 32
    · exact hh
    · exfalso
      apply hal32
      have h1 : ¬ Int32.ofNat w < 32 := fun h3 => hh ((oN_lt1 (b := 32) (c := 32) rfl hw2 (by omega)).mp h3)
      have h2 := Int32.not_lt.mp h1
      exact Int32.lt_of_le_of_lt h2 c2
  have em : Int32.ofNat n * 32 + Int32.ofNat w = Int32.ofNat (32 * n + w) := by
    rw [show (32 : Int32) = Int32.ofNat 32 from rfl, ← Int32.ofNat_mul, ← Int32.ofNat_add, Nat.mul_comm]
  rw [hw, oN_n hw2] at hQ
  rw [hn, hw, em, if_neg (oN_0 (by omega)), if_pos ((oN_lt1 (b := 128) (c := 128) rfl (by omega) (by omega)).mpr (by omega)), oN_n (by omega)]
  refine ⟨bdk (by omega) (by omega), ?_⟩
  obtain ⟨h1, h2, h3, h4, h5, h6, h7, h8⟩ := h
  have f : eqp (fun c _ => c = A + 7) σ (my_uI σ (A + 7) (32 * n + w) u) := eqp_I eqp_rf rfl
  have n6 : kc6 A (zsC (32 * n + w) u s) (my_uI σ (A + 7) (32 * n + w) u) := fun i hi => by
    rw [my_uI_1]
    show _ = upN (zC s) (32 * n + w) u i
    by_cases c : i = 32 * n + w
    · rw [if_pos ⟨rfl, c⟩, c, upN_s]
    · rw [if_neg (by omega), upN_o c]; exact h6 i hi
  generalize my_uI σ (A + 7) (32 * n + w) u = σ1 at f n6 ⊢
  exact hQ σ1 ⟨kc1_o h1 f (fun c k hh => by omega), kc2_o h2 f (fun c k hh => by omega), kc3_o h3 f (fun c k hh => by omega), kc4_o h4 f (fun c k hh => by omega), kc5_o h5 f (fun c k hh => by omega), n6, kc7_o h7 f (fun c k hh => by omega), kc8_o h8 f (fun c k hh => by omega)⟩ (eqp_mo f (fun c k hh => by unfold cmF; omega))
end MCQ
