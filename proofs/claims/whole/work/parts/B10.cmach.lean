
/-! ===== the class's machine: what its cells hold, small steps ===== -/
def tstb (x : Int32) (n : Nat) : Bool := x.toBitVec.getLsbD n
def enI (o : Option Nat) : Int32 := match o with
  | none => Int32.ofInt (-1)
  | some e => Int32.ofNat e
def ckI (o : Option (Nat × Int32)) : Int32 := match o with
  | none => 0
  | some c => c.2
def kc2 (A : Nat) (s : Ms) (σ : my_S) : Prop := σ.1 A 2 = Int32.ofNat (zT s) ∧ ∀ i, i < zT s → σ.1 (A + 1) i = zV s i
def kc3 (A rv : Nat) (s : Ms) (σ : my_S) : Prop := σ.1 A 7 = Int32.ofNat (zD s) ∧ ∀ d, d ≤ zD s → σ.2.2 (A + 2) d = some (rv + 4 + 3 * zw s d) ∧ σ.1 (A + 3) d = Int32.ofNat (zP s d) ∧ σ.1 (A + 4) d = Int32.ofNat (zB s d)
def kc4 (A : Nat) (s : Ms) (σ : my_S) : Prop := ∀ i, i < 10 * (zD s + 1) → σ.1 (A + 5) i = zL s i
def kc5 (A : Nat) (s : Ms) (σ : my_S) : Prop := ∀ n, n < 10 → σ.1 (A + 6) n = zG s n
def kc6 (A : Nat) (s : Ms) (σ : my_S) : Prop := ∀ i, i < 128 → σ.1 (A + 7) i = zC s i
def kc7 (A : Nat) (s : Ms) (σ : my_S) : Prop := ∀ kd n, kd < 3 → n < 32 → tstb (σ.1 (A + 8) kd) n = zt s kd n
def kc8 (A rv : Nat) (s : Ms) (σ : my_S) : Prop := σ.1 A 11 = Int32.ofNat (zF s) ∧ σ.1 A 12 = enI (zE s) ∧ σ.2.2 A 14 = (zk s).map (fun c => rv + 4 + 3 * c.1) ∧ σ.1 A 15 = ckI (zk s)
def CMs (A rv : Nat) (s : Ms) (σ : my_S) : Prop := σ.2.2 A 0 = some rv ∧ kc2 A s σ ∧ kc3 A rv s σ ∧ kc4 A s σ ∧ kc5 A s σ ∧ kc6 A s σ ∧ kc7 A s σ ∧ kc8 A rv s σ
def cmF (A c k : Nat) : Prop := (c = A ∧ (k = 2 ∨ k = 7 ∨ k = 11 ∨ k = 12 ∨ k = 14 ∨ k = 15)) ∨ (A + 1 ≤ c ∧ c ≤ A + 8)
theorem in4 {A : Nat} (h : A = 44 ∨ A = 53) : my_in 4 A := by
  unfold my_in
  rcases h with rfl | rfl <;> decide +kernel
section MCP
variable {e : my_E} {d : Nat} {κ : my_K} {σ σ' : my_S} {Q : my_O → my_K → my_S → Prop} {A rv : Nat} {s : Ms} {F : Nat → Nat → Prop}
theorem kc2_o (h : kc2 A s σ) (f : eqp F σ σ') (hF : ∀ c k, F c k → (c = A → k ≠ 2) ∧ c ≠ A + 1) : kc2 A s σ' := ⟨(eqp_g f (fun hh => (hF _ _ hh).1 rfl rfl)).trans h.1, fun i hi => (eqp_g f (fun hh => (hF _ _ hh).2 rfl)).trans (h.2 i hi)⟩
theorem kc3_o (h : kc3 A rv s σ) (f : eqp F σ σ') (hF : ∀ c k, F c k → (c = A → k ≠ 7) ∧ c ≠ A + 2 ∧ c ≠ A + 3 ∧ c ≠ A + 4) : kc3 A rv s σ' := ⟨(eqp_g f (fun hh => (hF _ _ hh).1 rfl rfl)).trans h.1, fun i hi => ⟨((f _ _ (fun hh => (hF _ _ hh).2.1 rfl)).2.2).trans (h.2 i hi).1, (eqp_g f (fun hh => (hF _ _ hh).2.2.1 rfl)).trans (h.2 i hi).2.1, (eqp_g f (fun hh => (hF _ _ hh).2.2.2 rfl)).trans (h.2 i hi).2.2⟩⟩
theorem kc4_o (h : kc4 A s σ) (f : eqp F σ σ') (hF : ∀ c k, F c k → c ≠ A + 5) : kc4 A s σ' := fun i hi => (eqp_g f (fun hh => hF _ _ hh rfl)).trans (h i hi)
theorem kc5_o (h : kc5 A s σ) (f : eqp F σ σ') (hF : ∀ c k, F c k → c ≠ A + 6) : kc5 A s σ' := fun i hi => (eqp_g f (fun hh => hF _ _ hh rfl)).trans (h i hi)
theorem kc6_o (h : kc6 A s σ) (f : eqp F σ σ') (hF : ∀ c k, F c k → c ≠ A + 7) : kc6 A s σ' := fun i hi => (eqp_g f (fun hh => hF _ _ hh rfl)).trans (h i hi)
theorem kc7_o (h : kc7 A s σ) (f : eqp F σ σ') (hF : ∀ c k, F c k → c ≠ A + 8) : kc7 A s σ' := fun kd n hk hn => by rw [eqp_g f (fun hh => hF _ _ hh rfl)]; exact h kd n hk hn
theorem kc8_o (h : kc8 A rv s σ) (f : eqp F σ σ') (hF : ∀ c k, F c k → c = A → k ≠ 11 ∧ k ≠ 12 ∧ k ≠ 14 ∧ k ≠ 15) : kc8 A rv s σ' := ⟨(eqp_g f (fun hh => (hF _ _ hh rfl).1 rfl)).trans h.1, (eqp_g f (fun hh => (hF _ _ hh rfl).2.1 rfl)).trans h.2.1, ((f _ _ (fun hh => (hF _ _ hh rfl).2.2.1 rfl)).2.2).trans h.2.2.1, (eqp_g f (fun hh => (hF _ _ hh rfl).2.2.2 rfl)).trans h.2.2.2⟩
theorem kc1_o (h : σ.2.2 A 0 = some rv) (f : eqp F σ σ') (hF : ∀ c k, F c k → c = A → k ≠ 0) : σ'.2.2 A 0 = some rv := ((f _ _ (fun hh => hF _ _ hh rfl rfl)).2.2).trans h
theorem CMs_o (h : CMs A rv s σ) (f : eqp F σ σ') (hF : ∀ c k, F c k → ¬ (A + 1 ≤ c ∧ c ≤ A + 8) ∧ (c = A → k = 13)) : CMs A rv s σ' := ⟨kc1_o h.1 f (fun c k hh => by have := hF c k hh; omega), kc2_o h.2.1 f (fun c k hh => by have := hF c k hh; omega), kc3_o h.2.2.1 f (fun c k hh => by have := hF c k hh; omega), kc4_o h.2.2.2.1 f (fun c k hh => by have := hF c k hh; omega), kc5_o h.2.2.2.2.1 f (fun c k hh => by have := hF c k hh; omega), kc6_o h.2.2.2.2.2.1 f (fun c k hh => by have := hF c k hh; omega), kc7_o h.2.2.2.2.2.2.1 f (fun c k hh => by have := hF c k hh; omega), kc8_o h.2.2.2.2.2.2.2 f (fun c k hh => by have := hF c k hh; omega)⟩
theorem m_117 {v : Int32} (hA : A = 44 ∨ A = 53) (h : CMs A rv s σ) (hT : zT s < 2200) (hd : 1 ≤ d) (hQ : ∀ σ', CMs A rv (zpsh v s) σ' → eqp (cmF A) σ σ' → Q (.inl none) κ σ') : my_M e d 117 [.inr (.inr (some A)), .inl v] κ σ Q := by
  obtain ⟨d, rfl⟩ := dS 1 hd
  obtain ⟨h1, h2, h3, h4, h5, h6, h7, h8⟩ := h
  refine ys_117 (in4 hA) ?_
  unfold ys_117_0 ys_117_39
  rw [h2.1, if_neg (oN_0 (by omega)), if_pos ((oN_lt1 (b := 2200) (c := 2200) rfl (by omega) (by omega)).mpr hT), oN_n (by omega), my_uI_1, if_neg (by omega), h2.1, oN_s]
  refine ⟨bdk (by omega) (by omega), ?_⟩
  have f : eqp (fun c k => (c = A ∧ k = 2) ∨ c = A + 1) σ (my_uI (my_uI σ (A + 1) (zT s) v) A 2 (Int32.ofNat (zT s + 1))) := eqp_I (eqp_I eqp_rf (Or.inr rfl)) (Or.inl ⟨rfl, rfl⟩)
  have n2 : kc2 A (zpsh v s) (my_uI (my_uI σ (A + 1) (zT s) v) A 2 (Int32.ofNat (zT s + 1))) := by
    refine ⟨by rw [uI_s]; rfl, fun i hi => ?_⟩
    have hi : i < zT s + 1 := hi
    rw [my_uI_1, if_neg (by omega), my_uI_1]
    show _ = upN (zV s) (zT s) v i
    by_cases c : i = zT s
    · rw [if_pos ⟨rfl, c⟩, c, upN_s]
    · rw [if_neg (by omega), upN_o c]; exact h2.2 i (by omega)
  generalize my_uI (my_uI σ (A + 1) (zT s) v) A 2 (Int32.ofNat (zT s + 1)) = σ1 at f n2 ⊢
  exact hQ σ1 ⟨kc1_o h1 f (fun c k hh => by omega), n2, kc3_o h3 f (fun c k hh => by omega), kc4_o h4 f (fun c k hh => by omega), kc5_o h5 f (fun c k hh => by omega), kc6_o h6 f (fun c k hh => by omega), kc7_o h7 f (fun c k hh => by omega), kc8_o h8 f (fun c k hh => by omega)⟩ (eqp_mo f (fun c k hh => by unfold cmF; omega))
theorem m_118 (hA : A = 44 ∨ A = 53) (h : CMs A rv s σ) (hT : zT s ≤ 2200) (h0 : 1 ≤ zT s) (hd : 1 ≤ d) (hQ : ∀ σ', CMs A rv (zpop s) σ' → eqp (cmF A) σ σ' → Q (.inl (some (.inl (ztop s)))) κ σ') : my_M e d 118 [.inr (.inr (some A))] κ σ Q := by
  obtain ⟨d, rfl⟩ := dS 1 hd
  obtain ⟨h1, h2, h3, h4, h5, h6, h7, h8⟩ := h
  refine ys_118 (in4 hA) ?_
  unfold ys_118_0
  have em : Int32.ofNat (zT s) - 1 = Int32.ofNat (zT s - 1) := by
    conv => lhs; rw [show zT s = zT s - 1 + 1 by omega, Int32.ofNat_add, show Int32.ofNat 1 = 1 from rfl, Int32.add_sub_cancel]
  rw [h2.1, if_pos (show (0 : Int32) < Int32.ofNat (zT s) from (oN_lt (p := 0) (by omega) (by omega)).mpr (by omega)), if_neg (fun hh => by have := (oN_lt (p := 2200) (by omega) (by omega)).mp hh; omega), em, uI_s]
  rw [oN_n (by omega), my_uI_1, if_neg (by omega), h2.2 _ (by omega)]
  refine ⟨bdk (by omega) (by omega), ?_⟩
  have f : eqp (fun c k => c = A ∧ k = 2) σ (my_uI σ A 2 (Int32.ofNat (zT s - 1))) := eqp_I eqp_rf ⟨rfl, rfl⟩
  have n2 : kc2 A (zpop s) (my_uI σ A 2 (Int32.ofNat (zT s - 1))) := by
    refine ⟨uI_s, fun i hi => ?_⟩
    have hi : i < zT s - 1 := hi
    rw [my_uI_1, if_neg (by omega)]
    exact h2.2 i (by omega)
  generalize my_uI σ A 2 (Int32.ofNat (zT s - 1)) = σ1 at f n2 ⊢
  exact hQ σ1 ⟨kc1_o h1 f (fun c k hh => by omega), n2, kc3_o h3 f (fun c k hh => by omega), kc4_o h4 f (fun c k hh => by omega), kc5_o h5 f (fun c k hh => by omega), kc6_o h6 f (fun c k hh => by omega), kc7_o h7 f (fun c k hh => by omega), kc8_o h8 f (fun c k hh => by omega)⟩ (eqp_mo f (fun c k hh => by unfold cmF; omega))
theorem m_111 {i : Nat} {v : Int32} (hA : A = 44 ∨ A = 53) (h : CMs A rv s σ) (hD : zD s ≤ 20) (hi : i < 10) (hd : 1 ≤ d) (hQ : ∀ σ', CMs A rv (zsL (10 * zD s + i) v s) σ' → eqp (fun c _ => c = A + 5) σ σ' → Q (.inl none) κ σ') : my_M e d 111 [.inr (.inr (some A)), .inl (Int32.ofNat i), .inl v] κ σ Q := by
  obtain ⟨d, rfl⟩ := dS 1 hd
  obtain ⟨h1, h2, h3, h4, h5, h6, h7, h8⟩ := h
  refine ys_111 (in4 hA) ?_
  unfold ys_111_0 ys_111_40
  have em : Int32.ofNat (zD s) * 10 + Int32.ofNat i = Int32.ofNat (10 * zD s + i) := by
    rw [show (10 : Int32) = Int32.ofNat 10 from rfl, ← Int32.ofNat_mul, ← Int32.ofNat_add, Nat.mul_comm]
  rw [h3.1, em, if_neg (oN_0 (by omega)), if_pos ((oN_lt1 (b := 10) (c := 10) rfl (by omega) (by omega)).mpr hi), if_neg (oN_0 (by omega)), if_pos ((oN_lt1 (b := 210) (c := 210) rfl (by omega) (by omega)).mpr (by omega)), oN_n (by omega)]
  refine ⟨bdk (by omega) (by omega), ?_⟩
  have f : eqp (fun c _ => c = A + 5) σ (my_uI σ (A + 5) (10 * zD s + i) v) := eqp_I eqp_rf rfl
  have n4 : kc4 A (zsL (10 * zD s + i) v s) (my_uI σ (A + 5) (10 * zD s + i) v) := fun u hu => by
    rw [my_uI_1]
    show _ = upN (zL s) (10 * zD s + i) v u
    by_cases c : u = 10 * zD s + i
    · rw [if_pos ⟨rfl, c⟩, c, upN_s]
    · rw [if_neg (by omega), upN_o c]; exact h4 u hu
  generalize my_uI σ (A + 5) (10 * zD s + i) v = σ1 at f n4 ⊢
  exact hQ σ1 ⟨kc1_o h1 f (fun c k hh => by omega), kc2_o h2 f (fun c k hh => by omega), kc3_o h3 f (fun c k hh => by omega), n4, kc5_o h5 f (fun c k hh => by omega), kc6_o h6 f (fun c k hh => by omega), kc7_o h7 f (fun c k hh => by omega), kc8_o h8 f (fun c k hh => by omega)⟩ f
theorem m_131 {i : Nat} (hA : A = 44 ∨ A = 53) (h : CMs A rv s σ) (hD : zD s ≤ 20) (hi : i < 10) (hd : 1 ≤ d) (hQ : Q (.inl (some (.inl (zL s (10 * zD s + i))))) κ σ) : my_M e d 131 [.inr (.inr (some A)), .inl (Int32.ofNat i)] κ σ Q := by
  obtain ⟨d, rfl⟩ := dS 1 hd
  obtain ⟨h1, h2, h3, h4, h5, h6, h7, h8⟩ := h
  refine ys_131 (in4 hA) ?_
  unfold ys_131_0 ys_131_43
  have em : Int32.ofNat (zD s) * 10 + Int32.ofNat i = Int32.ofNat (10 * zD s + i) := by
    rw [show (10 : Int32) = Int32.ofNat 10 from rfl, ← Int32.ofNat_mul, ← Int32.ofNat_add, Nat.mul_comm]
  rw [h3.1, em, if_neg (oN_0 (by omega)), if_pos ((oN_lt1 (b := 10) (c := 10) rfl (by omega) (by omega)).mpr hi), if_neg (oN_0 (by omega)), if_pos ((oN_lt1 (b := 210) (c := 210) rfl (by omega) (by omega)).mpr (by omega)), oN_n (by omega), h4 _ (by omega)]
  exact ⟨bdk (by omega) (by omega), hQ⟩
theorem m_116 {n : Nat} (hA : A = 44 ∨ A = 53) (h : CMs A rv s σ) (hn : n < 10) (hd : 1 ≤ d) (hQ : Q (.inl (some (.inl (zG s n)))) κ σ) : my_M e d 116 [.inr (.inr (some A)), .inl (Int32.ofNat n)] κ σ Q := by
  obtain ⟨d, rfl⟩ := dS 1 hd
  refine ys_116 (in4 hA) ?_
  unfold ys_116_0 ys_116_23
  rw [if_neg (oN_0 (by omega)), if_pos ((oN_lt1 (b := 10) (c := 10) rfl (by omega) (by omega)).mpr hn), oN_n (by omega), h.2.2.2.2.1 n hn]
  exact ⟨bdk (by omega) (by omega), hQ⟩
theorem m_119 {n : Nat} {v : Int32} (hA : A = 44 ∨ A = 53) (h : CMs A rv s σ) (hn : n < 10) (hd : 1 ≤ d) (hQ : ∀ σ', CMs A rv (zsG n v s) σ' → eqp (cmF A) σ σ' → Q (.inl none) κ σ') : my_M e d 119 [.inr (.inr (some A)), .inl (Int32.ofNat n), .inl v] κ σ Q := by
  obtain ⟨d, rfl⟩ := dS 1 hd
  obtain ⟨h1, h2, h3, h4, h5, h6, h7, h8⟩ := h
  refine ys_119 (in4 hA) ?_
  unfold ys_119_0 ys_119_20
  rw [if_neg (oN_0 (by omega)), if_pos ((oN_lt1 (b := 10) (c := 10) rfl (by omega) (by omega)).mpr hn), oN_n (by omega)]
  refine ⟨bdk (by omega) (by omega), ?_⟩
  have f : eqp (fun c _ => c = A + 6) σ (my_uI σ (A + 6) n v) := eqp_I eqp_rf rfl
  have n5 : kc5 A (zsG n v s) (my_uI σ (A + 6) n v) := fun u hu => by
    rw [my_uI_1]
    show _ = upN (zG s) n v u
    by_cases c : u = n
    · rw [if_pos ⟨rfl, c⟩, c, upN_s]
    · rw [if_neg (by omega), upN_o c]; exact h5 u hu
  generalize my_uI σ (A + 6) n v = σ1 at f n5 ⊢
  exact hQ σ1 ⟨kc1_o h1 f (fun c k hh => by omega), kc2_o h2 f (fun c k hh => by omega), kc3_o h3 f (fun c k hh => by omega), kc4_o h4 f (fun c k hh => by omega), n5, kc6_o h6 f (fun c k hh => by omega), kc7_o h7 f (fun c k hh => by omega), kc8_o h8 f (fun c k hh => by omega)⟩ (eqp_mo f (fun c k hh => by unfold cmF; omega))
theorem m_121 {n i : Nat} (hA : A = 44 ∨ A = 53) (h : CMs A rv s σ) (hn : n < 4) (hi : i < 32) (hd : 1 ≤ d) (hQ : Q (.inl (some (.inl (zC s (32 * n + i))))) κ σ) : my_M e d 121 [.inr (.inr (some A)), .inl (Int32.ofNat n), .inl (Int32.ofNat i)] κ σ Q := by
  obtain ⟨d, rfl⟩ := dS 1 hd
  refine ys_121 (in4 hA) ?_
  unfold ys_121_0 ys_121_30
  have em : Int32.ofNat n * 32 + Int32.ofNat i = Int32.ofNat (32 * n + i) := by
    rw [show (32 : Int32) = Int32.ofNat 32 from rfl, ← Int32.ofNat_mul, ← Int32.ofNat_add, Nat.mul_comm]
  rw [em, if_neg (oN_0 (by omega)), if_pos ((oN_lt1 (b := 128) (c := 128) rfl (by omega) (by omega)).mpr (by omega)), oN_n (by omega), h.2.2.2.2.2.1 _ (by omega)]
  exact ⟨bdk (by omega) (by omega), hQ⟩
theorem tst_or {x : Int32} {n m : Nat} (hn : n < 32) (hm : m < 32) : tstb (x ||| (1 <<< (Int32.ofNat n &&& 31))) m = (tstb x m || decide (m = n)) := by
  have h31 : ∀ n : Fin 32, (Int32.ofNat n.val &&& 31 : Int32) = Int32.ofNat n.val := by decide
  have e1 : (Int32.ofNat n &&& 31 : Int32) = Int32.ofNat n := h31 ⟨n, hn⟩
  rw [e1, show (1 : Int32) = Int32.ofNat 1 from rfl, shl_o 1 n _ rfl hn, Nat.one_mul]
  unfold tstb
  show (x.toBitVec ||| BitVec.ofNat 32 (2 ^ n)).getLsbD m = _
  rw [BitVec.getLsbD_or]
  congr 1
  rw [BitVec.getLsbD_ofNat, Nat.testBit_two_pow]
  simp [hm, eq_comm]
theorem m_115 {K n q : Nat} (hA : A = 44 ∨ A = 53) (h : CMs A rv s σ) (hq : my_in 11 q) (hk : σ.1 q 1 = Int32.ofNat K) (hK : K < 3) (hq2 : σ.1 q 2 = Int32.ofNat n) (hn : n < 32) (hd : 1 ≤ d) (hQ : ∀ σ', CMs A rv (ztch K n s) σ' → eqp (cmF A) σ σ' → Q (.inl none) κ σ') : my_M e d 115 [.inr (.inr (some A)), .inr (.inr (some q))] κ σ Q := by
  obtain ⟨d, rfl⟩ := dS 1 hd
  obtain ⟨h1, h2, h3, h4, h5, h6, h7, h8⟩ := h
  refine ys_115 (in4 hA) ?_
  unfold ys_115_0 ys_115_37
  refine ⟨q, rfl, hq, ?_⟩
  rw [hk, if_neg (oN_0 (by omega))]
  refine ⟨q, rfl, hq, ?_⟩
  rw [hk, if_pos ((oN_lt1 (b := 3) (c := 3) rfl (by omega) (by omega)).mpr hK)]
  refine ⟨q, rfl, hq, ?_⟩
  rw [hk]
  refine ⟨bdk (by omega) (by omega), q, rfl, hq, bdk (by omega) (by omega), ?_⟩
  rw [oN_n (by omega), hq2]
  generalize hv : σ.1 (A + 8) K ||| (1 <<< (Int32.ofNat n &&& 31)) = v
  have f : eqp (fun c _ => c = A + 8) σ (my_uI σ (A + 8) K v) := eqp_I eqp_rf rfl
  have n7 : kc7 A (ztch K n s) (my_uI σ (A + 8) K v) := fun kd m hkd hm => by
    rw [my_uI_1]
    show _ = (zt s kd m || (decide (kd = K) && decide (m = n)))
    by_cases c : kd = K
    · rw [if_pos ⟨rfl, c⟩, ← hv, tst_or hn hm, c, h7 K m hK hm]
      simp
    · rw [if_neg (by omega), h7 kd m hkd hm]
      simp [c]
  generalize my_uI σ (A + 8) K v = σ1 at f n7 ⊢
  exact hQ σ1 ⟨kc1_o h1 f (fun c k hh => by omega), kc2_o h2 f (fun c k hh => by omega), kc3_o h3 f (fun c k hh => by omega), kc4_o h4 f (fun c k hh => by omega), kc5_o h5 f (fun c k hh => by omega), kc6_o h6 f (fun c k hh => by omega), n7, kc8_o h8 f (fun c k hh => by omega)⟩ (eqp_mo f (fun c k hh => by unfold cmF; omega))
/-- the end is told -/
theorem CMs_end {n : Nat} (h : CMs A rv s σ) : CMs A rv (zend n s) (my_uI σ A 12 (Int32.ofNat n)) ∧ eqp (cmF A) σ (my_uI σ A 12 (Int32.ofNat n)) := by
  obtain ⟨h1, h2, h3, h4, h5, h6, h7, h8⟩ := h
  have f : eqp (fun c k => c = A ∧ k = 12) σ (my_uI σ A 12 (Int32.ofNat n)) := eqp_I eqp_rf ⟨rfl, rfl⟩
  have n8 : kc8 A rv (zend n s) (my_uI σ A 12 (Int32.ofNat n)) := ⟨(eqp_g f (by omega)).trans h8.1, uI_s, ((f _ _ (by omega)).2.2).trans h8.2.2.1, (eqp_g f (by omega)).trans h8.2.2.2⟩
  exact ⟨⟨kc1_o h1 f (fun c k hh => by omega), kc2_o h2 f (fun c k hh => by omega), kc3_o h3 f (fun c k hh => by omega), kc4_o h4 f (fun c k hh => by omega), kc5_o h5 f (fun c k hh => by omega), kc6_o h6 f (fun c k hh => by omega), kc7_o h7 f (fun c k hh => by omega), n8⟩, eqp_mo f (fun c k hh => by unfold cmF; omega)⟩
theorem m_124 (hA : A = 44 ∨ A = 53) (h : CMs A rv s σ) (hF : zF s ≤ 3000) (hd : 1 ≤ d) (hQ : ∀ σ', zF s < 3000 → CMs A rv (zbr s) σ' → eqp (cmF A) σ σ' → Q (.inl (some (.inl 1))) κ σ') (hx : ∀ σ', ¬ zF s < 3000 → CMs A rv (zend 3 s) σ' → eqp (cmF A) σ σ' → Q (.inl (some (.inl 0))) κ σ') : my_M e d 124 [.inr (.inr (some A))] κ σ Q := by
  obtain ⟨d, rfl⟩ := dS 1 hd
  refine ys_124 (in4 hA) ?_
  unfold ys_124_0
  by_cases hf : zF s < 3000
  · obtain ⟨h1, h2, h3, h4, h5, h6, h7, h8⟩ := h
    rw [h8.1, if_pos ((oN_lt1 (b := 3000) (c := 3000) rfl (by omega) (by omega)).mpr hf), oN_s]
    have f : eqp (fun c k => c = A ∧ k = 11) σ (my_uI σ A 11 (Int32.ofNat (zF s + 1))) := eqp_I eqp_rf ⟨rfl, rfl⟩
    have n8 : kc8 A rv (zbr s) (my_uI σ A 11 (Int32.ofNat (zF s + 1))) := ⟨uI_s, (eqp_g f (by omega)).trans h8.2.1, ((f _ _ (by omega)).2.2).trans h8.2.2.1, (eqp_g f (by omega)).trans h8.2.2.2⟩
    generalize my_uI σ A 11 (Int32.ofNat (zF s + 1)) = σ1 at f n8 ⊢
    exact hQ σ1 hf ⟨kc1_o h1 f (fun c k hh => by omega), kc2_o h2 f (fun c k hh => by omega), kc3_o h3 f (fun c k hh => by omega), kc4_o h4 f (fun c k hh => by omega), kc5_o h5 f (fun c k hh => by omega), kc6_o h6 f (fun c k hh => by omega), kc7_o h7 f (fun c k hh => by omega), n8⟩ (eqp_mo f (fun c k hh => by unfold cmF; omega))
  · rw [h.2.2.2.2.2.2.2.1, if_neg (fun hh => hf ((oN_lt1 (b := 3000) (c := 3000) rfl (by omega) (by omega)).mp hh))]
    have := CMs_end (n := 3) h
    exact hx _ hf this.1 this.2
theorem m_128 (hA : A = 44 ∨ A = 53) (h : CMs A rv s σ) (hD : 1 ≤ zD s) (hD2 : zD s ≤ 20) (hd : 1 ≤ d) (hQ : ∀ σ', CMs A rv (zlv s) σ' → eqp (cmF A) σ σ' → Q (.inl none) κ σ') : my_M e d 128 [.inr (.inr (some A))] κ σ Q := by
  obtain ⟨d, rfl⟩ := dS 1 hd
  obtain ⟨h1, h2, h3, h4, h5, h6, h7, h8⟩ := h
  refine ys_128 (in4 hA) ?_
  unfold ys_128_0 ys_128_17
  have em : Int32.ofNat (zD s) - 1 = Int32.ofNat (zD s - 1) := by
    conv => lhs; rw [show zD s = zD s - 1 + 1 by omega, Int32.ofNat_add, show Int32.ofNat 1 = 1 from rfl, Int32.add_sub_cancel]
  rw [h3.1, if_pos (show (0 : Int32) < Int32.ofNat (zD s) from (oN_lt (p := 0) (by omega) (by omega)).mpr (by omega)), em]
  have f : eqp (fun c k => c = A ∧ k = 7) σ (my_uI σ A 7 (Int32.ofNat (zD s - 1))) := eqp_I eqp_rf ⟨rfl, rfl⟩
  have n3 : kc3 A rv (zlv s) (my_uI σ A 7 (Int32.ofNat (zD s - 1))) := ⟨uI_s, fun u hu => by
    have hu : u ≤ zD s - 1 := hu
    have := h3.2 u (by omega)
    exact ⟨((f _ _ (by omega)).2.2).trans this.1, (eqp_g f (by omega)).trans this.2.1, (eqp_g f (by omega)).trans this.2.2⟩⟩
  have n4 : kc4 A (zlv s) (my_uI σ A 7 (Int32.ofNat (zD s - 1))) := fun u hu => by
    have hu : u < 10 * (zD s - 1 + 1) := hu
    exact (eqp_g f (by omega)).trans (h4 u (by omega))
  generalize my_uI σ A 7 (Int32.ofNat (zD s - 1)) = σ1 at f n3 n4 ⊢
  exact hQ σ1 ⟨kc1_o h1 f (fun c k hh => by omega), kc2_o h2 f (fun c k hh => by omega), n3, n4, kc5_o h5 f (fun c k hh => by omega), kc6_o h6 f (fun c k hh => by omega), kc7_o h7 f (fun c k hh => by omega), kc8_o h8 f (fun c k hh => by omega)⟩ (eqp_mo f (fun c k hh => by unfold cmF; omega))
/-- a place is told to the frame on top -/
theorem CMs_P {p : Nat} (h : CMs A rv s σ) : CMs A rv (zsP p s) (my_uI σ (A + 3) (zD s) (Int32.ofNat p)) ∧ eqp (cmF A) σ (my_uI σ (A + 3) (zD s) (Int32.ofNat p)) := by
  obtain ⟨h1, h2, h3, h4, h5, h6, h7, h8⟩ := h
  have f : eqp (fun c _ => c = A + 3) σ (my_uI σ (A + 3) (zD s) (Int32.ofNat p)) := eqp_I eqp_rf rfl
  have n3 : kc3 A rv (zsP p s) (my_uI σ (A + 3) (zD s) (Int32.ofNat p)) := ⟨(eqp_g f (by omega)).trans h3.1, fun u hu => by
    have hu : u ≤ zD s := hu
    have h' := h3.2 u hu
    refine ⟨((f _ _ (by omega)).2.2).trans h'.1, ?_, (eqp_g f (by omega)).trans h'.2.2⟩
    rw [my_uI_1]
    show _ = Int32.ofNat (upN (zP s) (zD s) p u)
    by_cases c : u = zD s
    · rw [if_pos ⟨rfl, c⟩, c, upN_s]
    · rw [if_neg (by omega), upN_o c]; exact h'.2.1⟩
  exact ⟨⟨kc1_o h1 f (fun c k hh => by omega), kc2_o h2 f (fun c k hh => by omega), n3, kc4_o h4 f (fun c k hh => by omega), kc5_o h5 f (fun c k hh => by omega), kc6_o h6 f (fun c k hh => by omega), kc7_o h7 f (fun c k hh => by omega), kc8_o h8 f (fun c k hh => by omega)⟩, eqp_mo f (fun c k hh => by unfold cmF; omega)⟩
theorem m_129 {p : Nat} (hA : A = 44 ∨ A = 53) (h : CMs A rv s σ) (hD : zD s ≤ 20) (hd : 1 ≤ d) (hQ : ∀ σ', CMs A rv (zsP p s) σ' → eqp (cmF A) σ σ' → Q (.inl none) κ σ') : my_M e d 129 [.inr (.inr (some A)), .inl (Int32.ofNat p)] κ σ Q := by
  obtain ⟨d, rfl⟩ := dS 1 hd
  refine ys_129 (in4 hA) ?_
  unfold ys_129_0 ys_129_29
  rw [h.2.2.1.1, if_neg (oN_0 (by omega)), if_pos ((oN_lt1 (b := 21) (c := 21) rfl (by omega) (by omega)).mpr (by omega)), oN_n (by omega)]
  have := CMs_P (p := p) h
  exact ⟨bdk (by omega) (by omega), hQ _ this.1 this.2⟩
end MCP
