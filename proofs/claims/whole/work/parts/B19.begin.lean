
/-! ===== a run begins ===== -/
def G0 (As : List Ri) (n : Nat) : Int32 := match fkA As 0 (Int32.ofNat n) As.length 0 with
  | none => 0
  | some k => (match As[k]? with
    | none => 0
    | some b => riV b)
def z0 (As : List Ri) (k : Nat) : Ms := ((0, fun _ => 0), (0, (fun _ => k), (fun _ => 0), (fun _ => 0)), (fun _ => 0), G0 As, (fun _ => 0), (fun _ _ => false), 0, none, none)
section MBG
variable {As : List Ri} {I : List It} {k : Nat} {a : Ri}
theorem G0_at {j : Nat} {b : Ri} (hB : itsB As) (hb : As[j]? = some b) (hf : riF b = 0) : G0 As (nmk As j) = riV b := by
  have h1 := fkA_at (K := 0) hB hb (by rw [hf]; rfl) j 0 (by omega)
  rw [Nat.sub_zero] at h1
  have e : nmk As j = cnK (As.take j) 0 := by unfold nmk; rw [hb]; dsimp only; rw [hf]; rfl
  unfold G0
  rw [e, show (0 : Int32) = Int32.ofNat 0 from rfl, h1]
  dsimp only
  rw [hb]
theorem WT_0 (hL : LOf As I) (ha : As[k]? = some a) (hf : riF a = 4) : WT As I (z0 As k) := by
  obtain ⟨hB, hrel, hC, htm⟩ := LOf_s hL
  obtain ⟨LT, fs⟩ := FS_of hL ha (by omega)
  refine ⟨⟨Nat.zero_le _, Nat.zero_le _, rfl, fun u b hu hb => ?_, fun d hd => absurd hd (Nat.not_lt_zero _)⟩, a, LT, [], riR a, ⟨fs, ⟨fun _ => hf, fun _ => rfl⟩, fun j hj => mat_0, rfl, rfl, rfl, fun i y hi => by rw [pT_0] at hi; simp at hi⟩, fun hh => ?_⟩
  · show mat (riT b) (G0 As (nmk As u))
    rw [G0_at hB hu hb]
    intro h1
    have hm := List.mem_of_getElem? hu
    have ht := htm b hm
    unfold tmR at ht
    rw [if_pos hb] at ht
    have hc : riC b = riT b := by
      by_cases c : riC b = riT b
      · exact c
      · rw [if_neg c] at ht; cases ht
    exact ((LOf_K hL).2 b hm).1 hb (by rw [hc]; exact h1)
  · obtain ⟨_, _, _, _, r, hr, _⟩ := fs
    rw [hr] at hh
    exact ptl_ne (List.append_eq_nil_iff.mp hh).2
theorem E6_0 : E6 (z0 As k) := fun n hn => by
  have hn : (none : Option Nat) = some n := hn
  cases hn
variable {e : my_E} {d : Nat} {κ : my_K} {σ : my_S} {Q : my_O → my_K → my_S → Prop} {A rv : Nat}
/-- the class's own fields while it begins -/
def bgA (A rv : Nat) (σ : my_S) : Prop := σ.2.2 A 0 = some rv ∧ σ.1 A 2 = 0 ∧ σ.1 A 11 = 0 ∧ σ.1 A 12 = Int32.ofInt (-1) ∧ σ.1 A 13 = 0 ∧ σ.2.2 A 14 = none ∧ σ.1 A 15 = 0
theorem bgA_o {F : Nat → Nat → Prop} {σ' : my_S} (h : bgA A rv σ) (f : eqp F σ σ') (hF : ∀ c k, F c k → c = A → k = 7) : bgA A rv σ' := by
  obtain ⟨h1, h2, h3, h4, h5, h6, h7⟩ := h
  have g : ∀ {k : Nat}, k ≠ 7 → ¬ F A k := fun hk hh => hk (hF _ _ hh rfl)
  exact ⟨((f _ _ (g (by omega))).2.2).trans h1, (eqp_g f (g (by omega))).trans h2, (eqp_g f (g (by omega))).trans h3, (eqp_g f (g (by omega))).trans h4, (eqp_g f (g (by omega))).trans h5, ((f _ _ (g (by omega))).2.2).trans h6, (eqp_g f (g (by omega))).trans h7⟩
def bgF (A c k : Nat) : Prop := (c = A ∧ k = 7) ∨ (A + 1 ≤ c ∧ c ≤ A + 8)
theorem m_110y (hA : A = 44 ∨ A = 53) (hrv : rv = 108 ∨ rv = 238 ∨ rv = 368) (hk : k < 42) (hd : 1 ≤ d) (hQ : ∀ σ', CMs A rv (z0 As k) σ' → σ'.1 A 13 = 0 → eqp (bgF A) σ σ' → Q (.inl none) κ σ') : ∀ (m i : Nat) (σ1 : my_S), i + m = 10 → eqp (bgF A) σ σ1 → bgA A rv σ1 → σ1.1 A 7 = 0 → σ1.2.2 (A + 2) 0 = some (rv + 4 + 3 * k) → σ1.1 (A + 3) 0 = 0 → σ1.1 (A + 4) 0 = 0 → (∀ u, u < i → σ1.1 (A + 5) u = 0) → (∀ n, n < 10 → σ1.1 (A + 6) n = G0 As n) → (∀ n, n < 128 → σ1.1 (A + 7) n = 0) → (∀ n, n < 3 → σ1.1 (A + 8) n = 0) → ys_110_44 e d A (Int32.ofNat i) κ σ1 Q := by
  intro m
  induction m with
  | zero =>
    intro i σ1 hi f hg q7 q2 q3 q4 q5 q6 q8 q9
    have : i = 10 := by omega
    subst this
    unfold ys_110_44 ys_110_62
    rw [if_neg (by decide)]
    obtain ⟨h1, h2, h3, h4, h5, h6, h7⟩ := hg
    refine hQ σ1 ⟨h1, ⟨h2, fun i hi => absurd hi (Nat.not_lt_zero _)⟩, ⟨q7, fun u hu => ?_⟩, fun u hu => q5 u (by have : u < 10 * (0 + 1) := hu; omega), q6, q8, fun kd n hkd hn => ?_, h3, h4, h6, h7⟩ h5 f
    · have hu : u ≤ 0 := hu
      have : u = 0 := by omega
      subst this
      exact ⟨q2, q3, q4⟩
    · rw [q9 kd hkd]
      show (0 : Int32).toBitVec.getLsbD n = false
      exact BitVec.getLsbD_zero
  | succ m ih =>
    intro i σ1 hi f hg q7 q2 q3 q4 q5 q6 q8 q9
    unfold ys_110_44
    rw [if_pos ((oN_lt1 (b := 10) (c := 10) rfl (by omega) (by omega)).mpr (by omega))]
    obtain ⟨d, rfl⟩ := dS 1 hd
    refine ys_111 (in4 hA) ?_
    unfold ys_111_0 ys_111_40
    have em : (0 : Int32) * 10 + Int32.ofNat i = Int32.ofNat i := by rw [show (0 : Int32) * 10 = 0 from by decide, Int32.zero_add]
    rw [q7, em, if_neg (oN_0 (by omega)), if_pos ((oN_lt1 (b := 10) (c := 10) rfl (by omega) (by omega)).mpr (by omega)), if_neg (oN_0 (by omega)), if_pos ((oN_lt1 (b := 210) (c := 210) rfl (by omega) (by omega)).mpr (by omega)), oN_n (by omega)]
    refine ⟨bdk (by omega) (by omega), ?_⟩
    rw [my_k0_v, oN_s]
    have g : eqp (fun c _ => c = A + 5) σ1 (my_uI σ1 (A + 5) i 0) := eqp_I eqp_rf rfl
    have n5 : ∀ u, u < i + 1 → (my_uI σ1 (A + 5) i 0).1 (A + 5) u = 0 := fun u hu => by
      rw [my_uI_1]
      by_cases c : u = i
      · rw [if_pos ⟨rfl, c⟩]
      · rw [if_neg (by omega)]; exact q5 u (by omega)
    generalize my_uI σ1 (A + 5) i 0 = σ2 at g n5 ⊢
    exact ys_110_44_ok (in4 hA) (ih (i + 1) σ2 (by omega) (eqp_tr f (eqp_mo g (fun c k hh => by unfold bgF; omega))) (bgA_o hg g (fun c k hh hc => by omega)) ((eqp_g g (by omega)).trans q7) (((g _ _ (by omega)).2.2).trans q2) ((eqp_g g (by omega)).trans q3) ((eqp_g g (by omega)).trans q4) n5 (fun n hn => (eqp_g g (by omega)).trans (q6 n hn)) (fun n hn => (eqp_g g (by omega)).trans (q8 n hn)) (fun n hn => (eqp_g g (by omega)).trans (q9 n hn)))
theorem m_109c (hA : A = 44 ∨ A = 53) (hrv : rv = 108 ∨ rv = 238 ∨ rv = 368) (hk : k < 42) (hd : 2 ≤ d) (hQ : ∀ σ', CMs A rv (z0 As k) σ' → σ'.1 A 13 = 0 → eqp (bgF A) σ σ' → Q (.inl none) κ σ') : ∀ (m i : Nat) (σ1 : my_S), i + m = 3 → eqp (bgF A) σ σ1 → bgA A rv σ1 → (∀ n, n < 10 → σ1.1 (A + 6) n = G0 As n) → (∀ n, n < 128 → σ1.1 (A + 7) n = 0) → (∀ n, n < i → σ1.1 (A + 8) n = 0) → ys_109_109 e d A (some (rv + 4 + 3 * k)) (Int32.ofNat i) κ σ1 Q := by
  intro m
  induction m with
  | zero =>
    intro i σ1 hi f hg q6 q8 q9
    have : i = 3 := by omega
    subst this
    unfold ys_109_109
    rw [if_neg (by decide)]
    obtain ⟨d, rfl⟩ := dS 1 (show 1 ≤ d by omega)
    refine ys_110 (in4 hA) ?_
    unfold ys_110_0
    rw [if_neg (by decide), if_pos (by decide)]
    refine ⟨fun b hb => (by cases hb; exact in11 hrv hk), bdk (k := 0) (m := 21) (by omega) (by omega), bdk (k := 0) (m := 21) (by omega) (by omega), bdk (k := 0) (m := 21) (by omega) (by omega), ?_⟩
    rw [show (0 : Int32).toNatClampNeg = 0 from rfl]
    have rT : (my_uI (my_uA (my_uI σ1 A 7 0) (A + 2) 0 (some (rv + 4 + 3 * k))) (A + 3) 0 0).1 A 2 = 0 := by
      rw [my_uI_1, if_neg (by omega)]
      show (my_uI σ1 A 7 0).1 A 2 = _
      rw [my_uI_1, if_neg (by omega)]
      exact hg.2.1
    rw [rT]
    have g : eqp (fun c k => (c = A ∧ k = 7) ∨ c = A + 2 ∨ c = A + 3 ∨ c = A + 4) σ1 (my_uI (my_uI (my_uA (my_uI σ1 A 7 0) (A + 2) 0 (some (rv + 4 + 3 * k))) (A + 3) 0 0) (A + 4) 0 0) := eqp_I (eqp_I (eqp_A (eqp_I eqp_rf (Or.inl ⟨rfl, rfl⟩)) (Or.inr (Or.inl rfl))) (Or.inr (Or.inr (Or.inl rfl)))) (Or.inr (Or.inr (Or.inr rfl)))
    have w7 : (my_uI (my_uI (my_uA (my_uI σ1 A 7 0) (A + 2) 0 (some (rv + 4 + 3 * k))) (A + 3) 0 0) (A + 4) 0 0).1 A 7 = 0 := by
      rw [my_uI_1, if_neg (by omega), my_uI_1, if_neg (by omega)]
      show (my_uI σ1 A 7 0).1 A 7 = _
      exact uI_s
    have w2 : (my_uI (my_uI (my_uA (my_uI σ1 A 7 0) (A + 2) 0 (some (rv + 4 + 3 * k))) (A + 3) 0 0) (A + 4) 0 0).2.2 (A + 2) 0 = some (rv + 4 + 3 * k) := by
      show (my_uA (my_uI σ1 A 7 0) (A + 2) 0 (some (rv + 4 + 3 * k))).2.2 (A + 2) 0 = _
      rw [my_uA_3, if_pos ⟨rfl, rfl⟩]
    have w3 : (my_uI (my_uI (my_uA (my_uI σ1 A 7 0) (A + 2) 0 (some (rv + 4 + 3 * k))) (A + 3) 0 0) (A + 4) 0 0).1 (A + 3) 0 = 0 := by rw [my_uI_1, if_neg (by omega)]; exact uI_s
    have w4 : (my_uI (my_uI (my_uA (my_uI σ1 A 7 0) (A + 2) 0 (some (rv + 4 + 3 * k))) (A + 3) 0 0) (A + 4) 0 0).1 (A + 4) 0 = 0 := uI_s
    generalize my_uI (my_uI (my_uA (my_uI σ1 A 7 0) (A + 2) 0 (some (rv + 4 + 3 * k))) (A + 3) 0 0) (A + 4) 0 0 = σ2 at g w7 w2 w3 w4 ⊢
    refine ys_110_44_ok (in4 hA) (m_110y (σ := σ) hA hrv hk (by omega) (fun σ' g' q' f' => ?_) 10 0 σ2 (by omega) (eqp_tr f (eqp_mo g (fun c k hh => by unfold bgF; omega))) (bgA_o hg g (fun c k hh hc => by omega)) w7 w2 w3 w4 (fun u hu => by omega) (fun n hn => (eqp_g g (by omega)).trans (q6 n hn)) (fun n hn => (eqp_g g (by omega)).trans (q8 n hn)) (fun n hn => (eqp_g g (by omega)).trans (q9 n hn)))
    rw [my_k0_v]
    exact hQ σ' g' q' f'
  | succ m ih =>
    intro i σ1 hi f hg q6 q8 q9
    unfold ys_109_109
    rw [if_pos ((oN_lt1 (b := 3) (c := 3) rfl (by omega) (by omega)).mpr (by omega)), oN_n (by omega), oN_s]
    have g : eqp (fun c _ => c = A + 8) σ1 (my_uI σ1 (A + 8) i 0) := eqp_I eqp_rf rfl
    refine ⟨bdk (by omega) (by omega), ys_109_109_ok (in4 hA) (ih (i + 1) _ (by omega) (eqp_tr f (eqp_mo g (fun c k hh => by unfold bgF; omega))) (bgA_o hg g (fun c k hh hc => by omega)) (fun n hn => (eqp_g g (by omega)).trans (q6 n hn)) (fun n hn => (eqp_g g (by omega)).trans (q8 n hn)) (fun n hn => ?_))⟩
    rw [my_uI_1]
    by_cases c : n = i
    · rw [if_pos ⟨rfl, c⟩]
    · rw [if_neg (by omega)]; exact q9 n (by omega)
theorem m_109b (hA : A = 44 ∨ A = 53) (hrv : rv = 108 ∨ rv = 238 ∨ rv = 368) (hk : k < 42) (hd : 2 ≤ d) (hQ : ∀ σ', CMs A rv (z0 As k) σ' → σ'.1 A 13 = 0 → eqp (bgF A) σ σ' → Q (.inl none) κ σ') : ∀ (m i : Nat) (σ1 : my_S), i + m = 128 → eqp (bgF A) σ σ1 → bgA A rv σ1 → (∀ n, n < 10 → σ1.1 (A + 6) n = G0 As n) → (∀ n, n < i → σ1.1 (A + 7) n = 0) → ys_109_85 e d A (some (rv + 4 + 3 * k)) (Int32.ofNat i) κ σ1 Q := by
  intro m
  induction m with
  | zero =>
    intro i σ1 hi f hg q6 q8
    have : i = 128 := by omega
    subst this
    unfold ys_109_85
    rw [if_neg (by decide)]
    exact ys_109_109_ok (in4 hA) (m_109c hA hrv hk hd hQ 3 0 σ1 (by omega) f hg q6 q8 (fun n hn => by omega))
  | succ m ih =>
    intro i σ1 hi f hg q6 q8
    unfold ys_109_85
    rw [if_pos ((oN_lt1 (b := 128) (c := 128) rfl (by omega) (by omega)).mpr (by omega)), oN_n (by omega), oN_s]
    have g : eqp (fun c _ => c = A + 7) σ1 (my_uI σ1 (A + 7) i 0) := eqp_I eqp_rf rfl
    refine ⟨bdk (by omega) (by omega), ys_109_85_ok (in4 hA) (ih (i + 1) _ (by omega) (eqp_tr f (eqp_mo g (fun c k hh => by unfold bgF; omega))) (bgA_o hg g (fun c k hh hc => by omega)) (fun n hn => (eqp_g g (by omega)).trans (q6 n hn)) (fun n hn => ?_))⟩
    rw [my_uI_1]
    by_cases c : n = i
    · rw [if_pos ⟨rfl, c⟩]
    · rw [if_neg (by omega)]; exact q8 n (by omega)
theorem m_109a (hA : A = 44 ∨ A = 53) (hrv : rv = 108 ∨ rv = 238 ∨ rv = 368) (hB : itsB As) (hrel : iRel As I) (hR : RevC I As rv σ) (hk : k < 42) (hd : 2 ≤ d) (hQ : ∀ σ', CMs A rv (z0 As k) σ' → σ'.1 A 13 = 0 → eqp (bgF A) σ σ' → Q (.inl none) κ σ') : ∀ (m i : Nat) (σ1 : my_S), i + m = 10 → eqp (bgF A) σ σ1 → bgA A rv σ1 → (∀ n, n < i → σ1.1 (A + 6) n = G0 As n) → ys_109_37 e d A (some (rv + 4 + 3 * k)) (Int32.ofNat i) κ σ1 Q := by
  intro m
  induction m with
  | zero =>
    intro i σ1 hi f hg q6
    have : i = 10 := by omega
    subst this
    unfold ys_109_37
    rw [if_neg (by decide)]
    exact ys_109_85_ok (in4 hA) (m_109b hA hrv hk hd hQ 128 0 σ1 (by omega) f hg q6 (fun n hn => by omega))
  | succ m ih =>
    intro i σ1 hi f hg q6
    have R1 : RevC I As rv σ1 := RevC_o hrel hR f (fun c k hh => by unfold bgF at hh; omega)
    unfold ys_109_37
    rw [if_pos ((oN_lt1 (b := 10) (c := 10) rfl (by omega) (by omega)).mpr (by omega))]
    refine ⟨rv, hg.1, in10 hrv, ?_⟩
    refine c_200 hrv hrel R1.1 R1.2.1 (by omega) ?_
    rw [my_kA_v]
    have go : ∀ v, G0 As i = v → ys_109_76 e d A (some (rv + 4 + 3 * k)) (Int32.ofNat i) v (Int32.ofNat i) (A + 6) κ σ1 Q := fun v hv => by
      unfold ys_109_76
      rw [oN_n (by omega), oN_s]
      have g : eqp (fun c _ => c = A + 6) σ1 (my_uI σ1 (A + 6) i v) := eqp_I eqp_rf rfl
      refine ⟨bdk (by omega) (by omega), ys_109_37_ok (in4 hA) (ih (i + 1) _ (by omega) (eqp_tr f (eqp_mo g (fun c k hh => by unfold bgF; omega))) (bgA_o hg g (fun c k hh hc => by omega)) (fun n hn => ?_))⟩
      rw [my_uI_1]
      by_cases c : n = i
      · rw [if_pos ⟨rfl, c⟩, c, hv]
      · rw [if_neg (by omega)]; exact q6 n (by omega)
    cases hf : fkA As 0 (Int32.ofNat i) As.length 0 with
    | none =>
      rw [Option.map_none, if_pos rfl]
      refine go 0 ?_
      unfold G0
      rw [hf]
    | some j =>
      obtain ⟨b, hb, hkb⟩ := fkA_k hf
      have hw := hB.2 b (List.mem_of_getElem? hb)
      have hlt := kdf_lt hw.1
      have h0 : riF b = 0 := kdf_0 ((oN_e (b := 0) (by omega) (by omega)).mp hkb)
      have hj42 := (nmk_lt hB hb).2
      rw [Option.map_some, if_neg (by simp)]
      refine ⟨_, rfl, in11 hrv hj42, ?_⟩
      rw [(itf hB hrel R1 hb).2.2.1 (by omega)]
      refine go _ ?_
      unfold G0
      rw [hf]
      dsimp only
      rw [hb]
theorem m_109 (hA : A = 44 ∨ A = 53) (hrv : rv = 108 ∨ rv = 238 ∨ rv = 368) (hL : LOf As I) (hR : RevC I As rv σ) (hk : k < 42) (hd : 3 ≤ d) (hQ : ∀ σ', CMs A rv (z0 As k) σ' → σ'.1 A 13 = 0 → eqp (fun c _ => A ≤ c ∧ c ≤ A + 8) σ σ' → Q (.inl none) κ σ') : my_M e d 109 [.inr (.inr (some A)), .inr (.inr (some rv)), .inr (.inr (some (rv + 4 + 3 * k)))] κ σ Q := by
  obtain ⟨d, rfl⟩ := dS 1 (show 1 ≤ d by omega)
  obtain ⟨hB, hrel, hC, _⟩ := LOf_s hL
  refine ys_109 (in4 hA) ?_
  unfold ys_109_0
  have f : eqp (fun c _ => c = A) σ (my_uI (my_uA (my_uI (my_uI (my_uI (my_uI (my_uA σ A 0 (some rv)) A 2 0) A 11 0) A 12 (Int32.ofInt (-1))) A 13 0) A 14 none) A 15 0) := eqp_I (eqp_A (eqp_I (eqp_I (eqp_I (eqp_I (eqp_A eqp_rf rfl) rfl) rfl) rfl) rfl) rfl) rfl
  have hg : bgA A rv (my_uI (my_uA (my_uI (my_uI (my_uI (my_uI (my_uA σ A 0 (some rv)) A 2 0) A 11 0) A 12 (Int32.ofInt (-1))) A 13 0) A 14 none) A 15 0) := by
    refine ⟨?_, ?_, ?_, ?_, ?_, ?_, uI_s⟩
    · show (my_uA (my_uI (my_uI (my_uI (my_uI (my_uA σ A 0 (some rv)) A 2 0) A 11 0) A 12 (Int32.ofInt (-1))) A 13 0) A 14 none).2.2 A 0 = _
      rw [my_uA_3, if_neg (by omega)]
      show (my_uA σ A 0 (some rv)).2.2 A 0 = _
      rw [my_uA_3, if_pos ⟨rfl, rfl⟩]
    · rw [my_uI_1, if_neg (by omega)]
      show (my_uI (my_uI (my_uI (my_uI (my_uA σ A 0 (some rv)) A 2 0) A 11 0) A 12 (Int32.ofInt (-1))) A 13 0).1 A 2 = _
      rw [my_uI_1, if_neg (by omega), my_uI_1, if_neg (by omega), my_uI_1, if_neg (by omega), uI_s]
    · rw [my_uI_1, if_neg (by omega)]
      show (my_uI (my_uI (my_uI (my_uI (my_uA σ A 0 (some rv)) A 2 0) A 11 0) A 12 (Int32.ofInt (-1))) A 13 0).1 A 11 = _
      rw [my_uI_1, if_neg (by omega), my_uI_1, if_neg (by omega), uI_s]
    · rw [my_uI_1, if_neg (by omega)]
      show (my_uI (my_uI (my_uI (my_uI (my_uA σ A 0 (some rv)) A 2 0) A 11 0) A 12 (Int32.ofInt (-1))) A 13 0).1 A 12 = _
      rw [my_uI_1, if_neg (by omega), uI_s]
    · rw [my_uI_1, if_neg (by omega)]
      show (my_uI (my_uI (my_uI (my_uI (my_uA σ A 0 (some rv)) A 2 0) A 11 0) A 12 (Int32.ofInt (-1))) A 13 0).1 A 13 = _
      rw [uI_s]
    · show (my_uA (my_uI (my_uI (my_uI (my_uI (my_uA σ A 0 (some rv)) A 2 0) A 11 0) A 12 (Int32.ofInt (-1))) A 13 0) A 14 none).2.2 A 14 = _
      rw [my_uA_3, if_pos ⟨rfl, rfl⟩]
  generalize my_uI (my_uA (my_uI (my_uI (my_uI (my_uI (my_uA σ A 0 (some rv)) A 2 0) A 11 0) A 12 (Int32.ofInt (-1))) A 13 0) A 14 none) A 15 0 = σ1 at f hg ⊢
  have R1 : RevC I As rv σ1 := RevC_o hrel hR f (fun c k hh => by omega)
  exact ys_109_37_ok (in4 hA) (m_109a (σ := σ1) hA hrv hB hrel R1 hk (by omega) (fun σ' g q f' => hQ σ' g q (eqp_tr (eqp_mo f (fun c k hh => by omega)) (eqp_mo f' (fun c k hh => by unfold bgF at hh; omega)))) 10 0 σ1 (by omega) eqp_rf hg (fun n hn => by omega))
end MBG
