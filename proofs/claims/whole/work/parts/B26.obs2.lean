
/-! ===== what is asked of a trace: values, locals, globals, cells, touches ===== -/
section MOC
variable {As : List Ri} {I : List It} {cu : Nat} {e : my_E} {d : Nat} {κ : my_K} {σ : my_S} {Q : my_O → my_K → my_S → Prop} {s : Ms} {u v w : Int32}
theorem c_28b (h : σ.1 32 11 = 1) (hd : 1 ≤ d) (hQ : Q (.inl none) κ σ) : my_M e d 28 [.inr (.inr (some 32))] κ σ Q := by
  obtain ⟨d, rfl⟩ := dS 1 hd
  refine ys_28 ?_
  unfold ys_28_0
  rw [h, if_neg (by decide)]
  exact hQ
theorem oN_sub {a b : Nat} (h : b ≤ a) : Int32.ofNat a - Int32.ofNat b = Int32.ofNat (a - b) := by
  conv => lhs; rw [show a = b + (a - b) by omega, oN_d]
theorem c_30b (h : TRz cu As I s u σ) (hκ : 1 ≤ κ.2.1 ∧ 6 ≤ κ.2.2) (hd : 6 ≤ d) (hx : vlV s v = none → Q (.inr (κ.1, 15)) (κ.1 + 1, κ.2.1 - 1, κ.2.2 - 6) σ) (hQ : ∀ x, vlV s v = some x → Q (.inl (some (.inl x))) κ σ) : my_M e d 30 [.inr (.inr (some 32)), .inl v] κ σ Q := by
  obtain ⟨d, rfl⟩ := dS 2 (show 2 ≤ d by omega)
  obtain ⟨a, cd, q, q2, q3, q4, q5, q6, q7⟩ := TRz_t h
  refine ys_30 ?_
  unfold ys_30_0
  refine c_28b h.2.2.1 (by omega) ?_
  rw [my_k0_v]
  have bad : vlV s v = none → ys_30_19 e (d + 1) κ σ Q := fun hv => by
    unfold ys_30_19
    exact ⟨⟨by omega, hκ⟩, hx hv⟩
  refine my_if (fun c => bad (by unfold vlV; rw [if_pos c])) (fun c => ?_)
  refine m_135 h (by omega) ?_
  rw [my_kI_v]
  refine my_if (fun c2 => ?_) (fun c2 => bad (by unfold vlV; rw [if_neg c, if_neg c2]))
  obtain ⟨n, hn, hn2⟩ := nn_of c
  have hQ := hQ _ (by unfold vlV; rw [if_neg c, if_pos c2])
  subst hn
  have c3 := (oN_lt hn2 (by omega)).mp c2
  rw [oN_n hn2] at hQ
  refine ys_136 (in4 (Or.inr rfl)) ?_
  have h7 := h.2.2.2.2.2.2.1
  unfold ys_136_0 ys_136_32
  rw [h7.2.1.1, show (1 : Int32) = Int32.ofNat 1 from rfl, oN_sub (by omega), oN_sub (by omega), if_neg (oN_0 (by omega)), if_pos ((oN_lt1 (b := 2200) (c := 2200) rfl (by omega) (by omega)).mpr (by omega)), oN_n (by omega), h7.2.1.2 _ (by omega)]
  refine ⟨bdk (by omega) (by omega), ?_⟩
  rw [my_kI_v]
  exact hQ
theorem r_369b (h : TRz cu As I s u σ) (hd : 4 ≤ d) (hx : vlV s v = none → ∀ σ', σ'.1 498 0 = 2 → eqp (fun c k => c = 498 ∧ k = 0) σ σ' → ∀ x, Q (.inl (some (.inl x))) κ σ') (hQ : ∀ x, vlV s v = some x → ∀ σ', σ'.1 498 0 = 0 → eqp (fun c k => c = 498 ∧ k = 0) σ σ' → Q (.inl (some (.inl x))) κ σ') : my_M e d 369 [.inr (.inr (some 498)), .inl v] κ σ Q := by
  obtain ⟨d, rfl⟩ := dS 2 (show 2 ≤ d by omega)
  obtain ⟨a, cd, q, q2, q3, q4, q5, q6, q7⟩ := TRz_t h
  refine ys_369 ?_
  unfold ys_369_0
  rw [h.2.2.2.1, if_neg (by decide)]
  unfold ys_369_13
  rw [h.2.2.2.1, if_neg (by decide)]
  have bad : vlV s v = none → ys_369_32 e (d + 1) v 0 κ σ Q := fun hv => by
    unfold ys_369_32 ys_369_37
    refine r_215_2 ?_
    rw [my_kI_v, if_neg (by decide)]
    exact hx hv _ uI_s (eqp_I eqp_rf ⟨rfl, rfl⟩) _
  refine my_if (fun c => bad (by unfold vlV; rw [if_pos c])) (fun c => ?_)
  refine r_368b h (by omega) ?_
  rw [my_kI_v]
  refine my_if (fun c2 => ?_) (fun c2 => bad (by unfold vlV; rw [if_neg c, if_neg c2]))
  obtain ⟨n, hn, hn2⟩ := nn_of c
  have hQ := hQ _ (by unfold vlV; rw [if_neg c, if_pos c2])
  subst hn
  have c3 := (oN_lt hn2 (by omega)).mp c2
  rw [oN_n hn2] at hQ
  unfold ys_369_36 ys_369_37
  refine r_215_0 ?_
  rw [my_kI_v, if_pos rfl]
  have f1 : eqp (fun c k => c = 498 ∧ k = 0) σ (my_uI σ 498 0 0) := eqp_I eqp_rf ⟨rfl, rfl⟩
  have u1 : (my_uI σ 498 0 0).1 498 0 = 0 := uI_s
  have hh := TRz_o h f1 (fun c k hh => Or.inl hh)
  generalize my_uI σ 498 0 0 = σ1 at f1 u1 hh ⊢
  have h9 := hh.2.2.2.2.2.2.2.2
  unfold ys_369_60
  rw [h9.1.1, show (1 : Int32) = Int32.ofNat 1 from rfl, oN_sub (by omega), oN_sub (by omega), oN_n (by omega), h9.1.2 _ (by omega)]
  exact ⟨bdk (by omega) (by omega), hQ σ1 u1 f1⟩
theorem nlA_e {a : Ri} {j : Nat} (ha : As[j]? = some a) : nlA As j = (riL a).length := by unfold nlA; rw [ha]
theorem c_31b (h : TRz cu As I s u σ) (hκ : 1 ≤ κ.2.1 ∧ 6 ≤ κ.2.2) (hd : 6 ≤ d) (hx : loV As s v = none → Q (.inr (κ.1, 15)) (κ.1 + 1, κ.2.1 - 1, κ.2.2 - 6) σ) (hQ : ∀ x, loV As s v = some x → Q (.inl (some (.inl x))) κ σ) : my_M e d 31 [.inr (.inr (some 32)), .inl v] κ σ Q := by
  obtain ⟨d, rfl⟩ := dS 3 (show 3 ≤ d by omega)
  obtain ⟨a, cd, q, q2, q3, q4, q5, q6, q7⟩ := TRz_t h
  have h2 := h.2.1
  have h10 : (riL a).length ≤ 10 := (h2.1.2 a (List.mem_of_getElem? cd.1)).2.2.2.1
  have i9 := ((h2.2.2.2.2.2.2.1.2.2.2.2 _ a cd.1).2.2.2 cd.2.1).2.1
  refine ys_31 ?_
  unfold ys_31_0
  refine c_28b h.2.2.1 (by omega) ?_
  rw [my_k0_v]
  have bad : loV As s v = none → ys_31_19 e (d + 2) κ σ Q := fun hv => by
    unfold ys_31_19
    exact ⟨⟨by omega, hκ⟩, hx hv⟩
  refine my_if (fun c => bad (by unfold loV; rw [if_pos c])) (fun c => ?_)
  refine ys_137 (in4 (Or.inr rfl)) ?_
  unfold ys_137_0
  refine m_133 h (by omega) ?_
  rw [my_kA_v, if_neg (by simp)]
  refine ⟨_, rfl, in11 h2.2.2.1 q2, ?_⟩
  unfold ys_137_17
  rw [my_kI_v, i9]
  rw [← nlA_e cd.1]
  refine my_if (fun c2 => ?_) (fun c2 => bad (by unfold loV; rw [if_neg c, if_neg c2]))
  obtain ⟨n, hn, hn2⟩ := nn_of c
  have hQ := hQ _ (by unfold loV; rw [if_neg c, if_pos c2])
  subst hn
  rw [nlA_e cd.1] at c2
  have c3 := (oN_lt hn2 (by omega)).mp c2
  rw [oN_n hn2] at hQ
  refine ys_131 (in4 (Or.inr rfl)) ?_
  have h7 := h.2.2.2.2.2.2.1
  unfold ys_131_0 ys_131_43
  rw [if_neg (oN_0 hn2), if_pos ((oN_lt1 (b := 10) (c := 10) rfl hn2 (by omega)).mpr (by omega)), h7.2.2.1.1, show (10 : Int32) = Int32.ofNat 10 from rfl, ← Int32.ofNat_mul, oN_a, if_neg (oN_0 (by omega)), if_pos ((oN_lt1 (b := 210) (c := 210) rfl (by omega) (by omega)).mpr (by omega)), oN_n (by omega), h7.2.2.2.1 _ (by omega)]
  refine ⟨bdk (by omega) (by omega), ?_⟩
  rw [my_kI_v, Nat.mul_comm]
  exact hQ
/-- how many locals a routine has, in its bytes -/
theorem r_nl {j : Nat} {b : Ri} (hR : NowR I As σ) (hb : As[j]? = some b) (hf : 2 ≤ riF b) (h10 : (riL b).length ≤ 10) (h61 : (ibA I 0 As).length ≤ 6144) : (ibA I 0 (As.take j)).length + 3 + (riQ b).length < 6144 ∧ σ.1 535 ((ibA I 0 (As.take j)).length + 3 + (riQ b).length) = Int32.ofNat (riL b).length := by
  have h1 : (ib I (rwA (As.take j)).length b)[3 + (riQ b).length]? = some (bt (Int32.ofNat (riL b).length) (Int32.ofNat 0)) := by
    rw [ib_2 hf, List.append_assoc, List.getElem?_append_right (by rw [hdB_l]; omega), hdB_l, Nat.sub_self]
    rfl
  have h2 := ib_q hb h1
  have h3 := (List.getElem?_eq_some_iff.mp h2).1
  refine ⟨by omega, ?_⟩
  rw [Nat.add_assoc, hR.1.2 _ _ h2, bt_0, and255, Nat.mod_eq_of_lt (by omega)]
theorem r_370b (h : TRz cu As I s u σ) (hd : 4 ≤ d) (hx : loV As s v = none → ∀ σ', σ'.1 498 0 = 2 → eqp (fun c k => c = 498 ∧ k = 0) σ σ' → ∀ x, Q (.inl (some (.inl x))) κ σ') (hQ : ∀ x, loV As s v = some x → ∀ σ', σ'.1 498 0 = 0 → eqp (fun c k => c = 498 ∧ k = 0) σ σ' → Q (.inl (some (.inl x))) κ σ') : my_M e d 370 [.inr (.inr (some 498)), .inl v] κ σ Q := by
  obtain ⟨d, rfl⟩ := dS 2 (show 2 ≤ d by omega)
  obtain ⟨a, cd, q, q2, q3, q4, q5, q6, q7⟩ := TRz_t h
  have h2 := h.2.1
  have hW := h2.1.2 a (List.mem_of_getElem? cd.1)
  have h10 : (riL a).length ≤ 10 := hW.2.2.2.1
  have h4q : (riQ a).length ≤ 4 := hW.2.2.1
  have h61 := h2.2.2.2.2.2.2.1.2.2.2.1
  obtain ⟨p1, p2, p3, _⟩ := r_np h2.2.2.2.2.2.2.2 cd.1 cd.2.1 h4q h61
  obtain ⟨p5, p6⟩ := r_nl h2.2.2.2.2.2.2.2 cd.1 cd.2.1 h10 h61
  have h9 := h.2.2.2.2.2.2.2.2
  refine ys_370 ?_
  unfold ys_370_0
  rw [h9.2.1.1, oN_n (by omega), (h9.2.1.2 _ (Nat.le_refl _)).1, oN_n (by omega), h.2.2.2.1, if_neg (by decide), p1, oN_s, oN_n (by omega), p3, show (3 : Int32) = Int32.ofNat 3 from rfl, oN_a, oN_a, oN_n (by omega), p6]
  refine ⟨bdk (by omega) (by omega), bdk (by omega) (by omega), bdk (by omega) (by omega), bdk (by omega) (by omega), ?_⟩
  unfold ys_370_43
  rw [h.2.2.2.1, if_neg (by decide), ← nlA_e cd.1]
  unfold ys_370_57
  have bad : loV As s v = none → ys_370_66 e (d + 1) v 0 κ σ Q := fun hv => by
    unfold ys_370_66 ys_370_71
    refine r_215_2 ?_
    rw [my_kI_v, if_neg (by decide)]
    exact hx hv _ uI_s (eqp_I eqp_rf ⟨rfl, rfl⟩) _
  refine my_if (fun c => bad (by unfold loV; rw [if_pos c])) (fun c => my_if (fun c2 => ?_) (fun c2 => bad (by unfold loV; rw [if_neg c, if_neg c2])))
  obtain ⟨n, hn, hn2⟩ := nn_of c
  have hQ := hQ _ (by unfold loV; rw [if_neg c, if_pos c2])
  subst hn
  rw [nlA_e cd.1] at c2
  have c3 := (oN_lt hn2 (by omega)).mp c2
  rw [oN_n hn2] at hQ
  unfold ys_370_71
  refine r_215_0 ?_
  rw [my_kI_v, if_pos rfl]
  have f1 : eqp (fun c k => c = 498 ∧ k = 0) σ (my_uI σ 498 0 0) := eqp_I eqp_rf ⟨rfl, rfl⟩
  have u1 : (my_uI σ 498 0 0).1 498 0 = 0 := uI_s
  have hh := TRz_o h f1 (fun c k hh => Or.inl hh)
  generalize my_uI σ 498 0 0 = σ1 at f1 u1 hh ⊢
  have h9 := hh.2.2.2.2.2.2.2.2
  unfold ys_370_95
  rw [h9.2.1.1, show (10 : Int32) = Int32.ofNat 10 from rfl, ← Int32.ofNat_mul, oN_a, oN_n (by omega), h9.2.2.2.1 _ (by omega)]
  exact ⟨bdk (by omega) (by omega), hQ σ1 u1 f1⟩
theorem mst_16 (k : Nat) : mst k ≤ 16 := by
  unfold mst
  split
  · omega
  · split
    · omega
    · split <;> omega
theorem cnk0 (h : itsB As) : cnK As 0 ≤ 10 := h.1 0
theorem cnk1 (h : itsB As) : cnK As 1 ≤ 4 := h.1 1
theorem kd0 {b : Ri} (hb : riF b ≤ 4) (h : Int32.ofNat (kdf (riF b)) = 0) : riF b = 0 := by
  have := kdf_lt hb
  have h := (oN_e (b := 0) (by omega) (by omega)).mp h
  unfold kdf at h
  split at h <;> omega
theorem kd1 {b : Ri} (hb : riF b ≤ 4) (h : Int32.ofNat (kdf (riF b)) = 1) : riF b = 1 := by
  have := kdf_lt hb
  have h := (oN_e (b := 1) (by omega) (by omega)).mp h
  unfold kdf at h
  split at h <;> omega
theorem c_32b (h : TRz cu As I s u σ) (hκ : 1 ≤ κ.2.1 ∧ 6 ≤ κ.2.2) (hd : 6 ≤ d) (hx : glV As s v = none → Q (.inr (κ.1, 15)) (κ.1 + 1, κ.2.1 - 1, κ.2.2 - 6) σ) (hQ : ∀ x, glV As s v = some x → Q (.inl (some (.inl x))) κ σ) : my_M e d 32 [.inr (.inr (some 32)), .inl v] κ σ Q := by
  obtain ⟨d, rfl⟩ := dS 3 (show 3 ≤ d by omega)
  have h2 := h.2.1
  have h0 := cnk0 h2.1
  refine ys_32 ?_
  unfold ys_32_0
  refine c_28b h.2.2.1 (by omega) ?_
  rw [my_k0_v]
  have bad : glV As s v = none → ys_32_20 e (d + 2) κ σ Q := fun hv => by
    unfold ys_32_20
    exact ⟨⟨by omega, hκ⟩, hx hv⟩
  refine my_if (fun c => bad (by unfold glV; rw [if_pos c])) (fun c => ?_)
  refine ⟨cu, h2.2.2.2.2.2.1, in10 h2.2.2.1, ?_⟩
  refine ys_196 (in10 h2.2.2.1) ?_
  unfold ys_196_0 ys_196_23
  have ez : σ.1 (cu + 3) (0 : Int32).toNatClampNeg = Int32.ofNat (cnK As 0) := by
    rw [show (0 : Int32).toNatClampNeg = 0 from rfl, h2.2.2.2.2.2.2.1.2.1.2 0 (by omega), cnK_F]
  rw [if_neg (by decide), if_pos (by decide), ez]
  refine ⟨bdk (k := 0) (by omega) (by omega), ?_⟩
  rw [my_kI_v]
  refine my_if (fun c2 => ?_) (fun c2 => bad (by unfold glV; rw [if_neg c, if_neg c2]))
  obtain ⟨n, hn, hn2⟩ := nn_of c
  have hQ := hQ _ (by unfold glV; rw [if_neg c, if_pos c2])
  subst hn
  have c3 := (oN_lt hn2 (by omega)).mp c2
  rw [oN_n hn2] at hQ
  refine ys_116 (in4 (Or.inr rfl)) ?_
  have h7 := h.2.2.2.2.2.2.1
  unfold ys_116_0 ys_116_23
  rw [if_neg (oN_0 hn2), if_pos ((oN_lt1 (b := 10) (c := 10) rfl hn2 (by omega)).mpr (by omega)), oN_n hn2, h7.2.2.2.2.1 n (by omega)]
  refine ⟨bdk (by omega) (by omega), ?_⟩
  rw [my_kI_v]
  exact hQ
theorem r_371b (h : TRz cu As I s u σ) (hd : 5 ≤ d) (hx : glV As s v = none → ∀ σ', σ'.1 498 0 = 2 → eqp (fun c k => c = 498 ∧ k = 0) σ σ' → ∀ x, Q (.inl (some (.inl x))) κ σ') (hQ : ∀ x, glV As s v = some x → ∀ σ', σ'.1 498 0 = 0 → eqp (fun c k => c = 498 ∧ k = 0) σ σ' → Q (.inl (some (.inl x))) κ σ') : my_M e d 371 [.inr (.inr (some 498)), .inl v] κ σ Q := by
  obtain ⟨d, rfl⟩ := dS 2 (show 2 ≤ d by omega)
  have h2 := h.2.1
  have h0 := cnk0 h2.1
  refine ys_371 ?_
  unfold ys_371_0
  rw [h.2.2.2.1, if_neg (by decide)]
  unfold ys_371_13
  rw [h2.2.2.2.2.2.2.2.2.2.2.1]
  have bad : glV As s v = none → ys_371_25 e (d + 1) v 0 κ σ Q := fun hv => by
    unfold ys_371_25 ys_371_30
    refine r_215_2 ?_
    rw [my_kI_v, if_neg (by decide)]
    exact hx hv _ uI_s (eqp_I eqp_rf ⟨rfl, rfl⟩) _
  refine my_if (fun c => bad (by unfold glV; rw [if_pos c])) (fun c => my_if (fun c2 => ?_) (fun c2 => bad (by unfold glV; rw [if_neg c, if_neg c2])))
  obtain ⟨n, hn, hn2⟩ := nn_of c
  have hQ := hQ _ (by unfold glV; rw [if_neg c, if_pos c2])
  subst hn
  have c3 := (oN_lt hn2 (by omega)).mp c2
  rw [oN_n hn2] at hQ
  unfold ys_371_30
  refine r_215_0 ?_
  rw [my_kI_v, if_pos rfl]
  have f1 : eqp (fun c k => c = 498 ∧ k = 0) σ (my_uI σ 498 0 0) := eqp_I eqp_rf ⟨rfl, rfl⟩
  have u1 : (my_uI σ 498 0 0).1 498 0 = 0 := uI_s
  have hh := TRz_o h f1 (fun c k hh => Or.inl hh)
  generalize my_uI σ 498 0 0 = σ1 at f1 u1 hh ⊢
  have h9 := hh.2.2.2.2.2.2.2.2
  have h2 := hh.2.1
  rw [show (0 : Int32) = Int32.ofNat 0 from rfl]
  refine r_281 h2.1 (fun k a ha => (h2.2.2.2.2.2.2.2.2.1 k a ha).1) h2.2.2.2.2.2.2.2.2.2.1 (by omega) (by omega) ?_
  rw [my_kI_v]
  obtain ⟨k, hk⟩ := (fkA_w (K := 0) h2.1 (by omega) hn2).1 c3
  rw [hk]
  show my_bd (Int32.ofNat k) 48 ∧ _
  obtain ⟨b, hb, hb1, hb2⟩ := fkA_n hk
  have hm := nmk_lt h2.1 hb
  have hb0 := kd0 (h2.1.2 b (List.mem_of_getElem? hb)).1 hb1
  have hst := (nmk_lt h2.1 hb).1
  have hst2 := mst_16 (kdf (riF b))
  have en : nmk As k = n := (oN_e (by omega) hn2).mp hb2
  unfold ys_371_51
  show my_bd (Int32.ofNat k) 48 ∧ Q (.inl (some (.inl (σ1.1 577 (Int32.ofNat k).toNatClampNeg)))) κ σ1
  rw [oN_n (by omega), h9.2.2.2.2.1 k b hb hb0, en]
  exact ⟨bdk (by omega) (by omega), hQ σ1 u1 f1⟩
theorem c_33b (h : TRz cu As I s u σ) (hκ : 1 ≤ κ.2.1 ∧ 6 ≤ κ.2.2) (hd : 6 ≤ d) (hx : ceV As s v w = none → Q (.inr (κ.1, 15)) (κ.1 + 1, κ.2.1 - 1, κ.2.2 - 6) σ) (hQ : ∀ x, ceV As s v w = some x → Q (.inl (some (.inl x))) κ σ) : my_M e d 33 [.inr (.inr (some 32)), .inl v, .inl w] κ σ Q := by
  obtain ⟨d, rfl⟩ := dS 3 (show 3 ≤ d by omega)
  have h2 := h.2.1
  refine ys_33 ?_
  unfold ys_33_0
  refine c_28b h.2.2.1 (by omega) ?_
  rw [my_k0_v]
  have bad : ceV As s v w = none → ys_33_30 e (d + 2) κ σ Q := fun hv => by
    unfold ys_33_30
    exact ⟨⟨by omega, hκ⟩, hx hv⟩
  refine ⟨cu, h2.2.2.2.2.2.1, in10 h2.2.2.1, ?_⟩
  refine c_200 h2.2.2.1 h2.2.1 h2.2.2.2.2.2.2.1.1 h2.2.2.2.2.2.2.1.2.1 (by omega) ?_
  rw [my_kA_v]
  unfold ceV at bad hQ
  cases hk : fkA As 1 v As.length 0 with
  | none =>
    rw [hk] at bad
    show if (none : Option Nat) = none then _ else _
    rw [if_pos rfl]
    exact bad rfl
  | some k =>
    rw [hk] at bad hQ
    dsimp only at bad hQ
    show if (some (cu + 4 + 3 * k)) = none then _ else _
    rw [if_neg (by simp)]
    obtain ⟨b, hb, hb1, hb2⟩ := fkA_n hk
    have hf := kd1 (h2.1.2 b (List.mem_of_getElem? hb)).1 hb1
    have hm := nmk_lt h2.1 hb
    rw [hf, show mst (kdf 1) = 4 from rfl] at hm
    have hv := (LOf_K h.1).2 b (List.mem_of_getElem? hb)
    have hv := hv.2 hf
    have i8 := (itf h2.1 h2.2.1 h2.2.2.2.2.2.2.1 hb).2.2.1 (by omega)
    have hal : alA As k = riV b := by unfold alA; rw [hb]
    rw [hal] at bad hQ
    refine my_if (fun c => bad (by rw [if_pos c])) (fun c => ⟨_, rfl, in11 h2.2.2.1 hm.2, ?_⟩)
    show if w < σ.1 (cu + 4 + 3 * k) 8 then _ else _
    rw [i8]
    refine my_if (fun c2 => ?_) (fun c2 => bad (by rw [if_neg c, if_neg c2]))
    obtain ⟨n, hn, hn2⟩ := nn_of c
    have hQ := hQ _ (by rw [if_neg c, if_pos c2])
    have hn32 : n < 32 := by
      by_cases hh : n < 32
      · exact hh
      · exfalso
        apply hv.2
        rw [hn] at c2
        have h1 : ¬ Int32.ofNat n < 32 := fun h3 => hh ((oN_lt1 (b := 32) (c := 32) rfl hn2 (by omega)).mp h3)
        exact Int32.lt_of_le_of_lt (Int32.not_lt.mp h1) c2
    subst hn
    rw [oN_n hn2] at hQ
    rw [← hb2]
    refine m_121 (Or.inr rfl) h.2.2.2.2.2.2.1 hm.1 hn32 (by omega) ?_
    rw [my_kI_v]
    exact hQ
theorem r_372b (h : TRz cu As I s u σ) (hd : 5 ≤ d) (hx : ceV As s v w = none → ∀ σ', σ'.1 498 0 = 2 → eqp (fun c k => c = 498 ∧ k = 0) σ σ' → ∀ x, Q (.inl (some (.inl x))) κ σ') (hQ : ∀ x, ceV As s v w = some x → ∀ σ', σ'.1 498 0 = 0 → eqp (fun c k => c = 498 ∧ k = 0) σ σ' → Q (.inl (some (.inl x))) κ σ') : my_M e d 372 [.inr (.inr (some 498)), .inl v, .inl w] κ σ Q := by
  obtain ⟨d, rfl⟩ := dS 2 (show 2 ≤ d by omega)
  have h2 := h.2.1
  have h0 := cnk1 h2.1
  have h42 := itsB_42 h2.1
  refine ys_372 ?_
  unfold ys_372_0
  rw [h.2.2.2.1, if_neg (by decide)]
  unfold ys_372_13
  rw [h2.2.2.2.2.2.2.2.2.2.2.2.1]
  have bad : ceV As s v w = none → ys_372_25 e (d + 1) v w 0 κ σ Q := fun hv => by
    unfold ys_372_25 ys_372_30
    refine r_215_2 ?_
    rw [my_kI_v, if_neg (by decide)]
    exact hx hv _ uI_s (eqp_I eqp_rf ⟨rfl, rfl⟩) _
  have none1 : fkA As 1 v As.length 0 = none → ceV As s v w = none := fun hh => by unfold ceV; rw [hh]
  refine my_if (fun c => bad (none1 ?_)) (fun c => ?_)
  · cases hf : fkA As 1 v As.length 0 with
    | none => rfl
    | some k => exact absurd c (fkA_ok h2.1 hf).2.2
  obtain ⟨n, hn, hn2⟩ := nn_of c
  have fw := fkA_w (K := 1) h2.1 (by omega) hn2
  rw [show Int32.ofNat 1 = 1 from rfl, ← hn] at fw
  rw [hn]
  refine my_if (fun c2 => ?_) (fun c2 => by
    rw [← hn]
    refine bad (none1 ?_)
    cases hf : fkA As 1 v As.length 0 with
    | none => rfl
    | some k => exact absurd ((oN_lt hn2 (by omega)).mpr (fw.2 k hf)) c2)
  obtain ⟨k, hk⟩ := fw.1 ((oN_lt hn2 (by omega)).mp c2)
  unfold ys_372_30
  refine r_215_0 ?_
  rw [my_kI_v, if_pos rfl]
  have f1 : eqp (fun c k => c = 498 ∧ k = 0) σ (my_uI σ 498 0 0) := eqp_I eqp_rf ⟨rfl, rfl⟩
  have hh := TRz_o h f1 (fun c k hh => Or.inl hh)
  generalize my_uI σ 498 0 0 = σ1 at f1 hh ⊢
  have h2 := hh.2.1
  rw [show (1 : Int32) = Int32.ofNat 1 from rfl]
  refine r_281 h2.1 (fun k a ha => (h2.2.2.2.2.2.2.2.2.1 k a ha).1) h2.2.2.2.2.2.2.2.2.2.1 (by omega) (by omega) ?_
  rw [my_kI_v, show Int32.ofNat 1 = 1 from rfl, ← hn, hk]
  show if w < 0 then ys_372_68 e (d + 1) w (Int32.ofNat k) 0 κ σ1 Q else _
  obtain ⟨b, hb, hb1, hb2⟩ := fkA_n hk
  have hf := kd1 (h2.1.2 b (List.mem_of_getElem? hb)).1 hb1
  have hm := nmk_lt h2.1 hb
  have hv := ((LOf_K h.1).2 b (List.mem_of_getElem? hb)).2 hf
  have hal : alA As k = riV b := by unfold alA; rw [hb]
  obtain ⟨a1, a2, a3⟩ := r_al h2.2.2.2.2.2.2.2 hb hf hv h2.2.2.2.2.2.2.1.2.2.2.1
  have bad2 : (w < 0 ∨ ¬ w < riV b) → ys_372_68 e (d + 1) w (Int32.ofNat k) 0 κ σ1 Q := fun hw => by
    unfold ys_372_68 ys_372_73
    refine r_215_2 ?_
    rw [my_kI_v, if_neg (by decide)]
    refine hx ?_ _ uI_s (eqp_I f1 ⟨rfl, rfl⟩) _
    unfold ceV
    rw [hk]
    dsimp only
    rw [hal]
    rcases hw with hw | hw
    · rw [if_pos hw]
    · rw [if_neg hw]; split <;> rfl
  refine my_if (fun c3 => bad2 (Or.inl c3)) (fun c3 => ?_)
  show my_bd (Int32.ofNat k) 48 ∧ my_bd (σ1.1 531 (Int32.ofNat k).toNatClampNeg + 1) 20000 ∧ if w < σ1.1 535 (σ1.1 531 (Int32.ofNat k).toNatClampNeg + 1).toNatClampNeg then ys_372_73 e (d + 1) w (Int32.ofNat k) 0 0 κ σ1 Q else ys_372_68 e (d + 1) w (Int32.ofNat k) 0 κ σ1 Q
  rw [oN_n (by omega), a1, oN_s, oN_n (by omega), a3]
  refine ⟨bdk (by omega) (by omega), bdk (by omega) (by omega), my_if (fun c4 => ?_) (fun c4 => bad2 (Or.inr c4))⟩
  obtain ⟨i, hi, hi2⟩ := nn_of c3
  have hi32 : i < 32 := by
    by_cases hh : i < 32
    · exact hh
    · exfalso
      apply hv.2
      rw [hi] at c4
      have h1 : ¬ Int32.ofNat i < 32 := fun h3 => hh ((oN_lt1 (b := 32) (c := 32) rfl hi2 (by omega)).mp h3)
      exact Int32.lt_of_le_of_lt (Int32.not_lt.mp h1) c4
  have hQ := hQ (zC s (32 * nmk As k + w.toNatClampNeg)) (by unfold ceV; rw [hk]; dsimp only; rw [hal, if_neg c3, if_pos c4])
  rw [hi, oN_n hi2] at hQ
  rw [hi]
  unfold ys_372_73
  refine r_215_0 ?_
  rw [my_kI_v, if_pos rfl]
  have f2 : eqp (fun c k => c = 498 ∧ k = 0) σ (my_uI σ1 498 0 0) := eqp_I f1 ⟨rfl, rfl⟩
  have u2 : (my_uI σ1 498 0 0).1 498 0 = 0 := uI_s
  have hh2 := TRz_o h f2 (fun c k hh => Or.inl hh)
  generalize my_uI σ1 498 0 0 = σ2 at f2 u2 hh2 ⊢
  have h9 := hh2.2.2.2.2.2.2.2.2
  unfold ys_372_94
  rw [show (32 : Int32) = Int32.ofNat 32 from rfl, ← Int32.ofNat_mul, oN_a, oN_n (by omega), h9.2.2.2.2.2.1 k b hb hf i hi32]
  exact ⟨bdk (by omega) (by omega), hQ σ2 u2 f2⟩
theorem tst_and {x : Int32} {n : Nat} (hn : n < 32) : (x &&& (1 <<< (Int32.ofNat n &&& 31))) = 0 ↔ tstb x n = false := by
  have h31 : ∀ n : Fin 32, (Int32.ofNat n.val &&& 31 : Int32) = Int32.ofNat n.val := by decide
  have e1 : (Int32.ofNat n &&& 31 : Int32) = Int32.ofNat n := h31 ⟨n, hn⟩
  rw [e1, show (1 : Int32) = Int32.ofNat 1 from rfl, shl_o 1 n _ rfl hn, Nat.one_mul]
  unfold tstb
  have key : (x.toBitVec &&& BitVec.ofNat 32 (2 ^ n)) = 0#32 ↔ x.toBitVec.getLsbD n = false := by
    constructor
    · intro h
      have h2 : (x.toBitVec &&& BitVec.ofNat 32 (2 ^ n)).getLsbD n = (0#32).getLsbD n := by rw [h]
      rw [BitVec.getLsbD_and, BitVec.getLsbD_ofNat, Nat.testBit_two_pow] at h2
      simpa [hn] using h2
    · intro h
      apply BitVec.eq_of_getLsbD_eq
      intro i hi
      rw [BitVec.getLsbD_and, BitVec.getLsbD_ofNat, Nat.testBit_two_pow]
      by_cases c : n = i
      · subst c; simp [h]
      · simp [c]
  constructor
  · intro h
    exact key.mp (congrArg Int32.toBitVec h)
  · intro h
    exact Int32.toBitVec_inj.mp (key.mpr h)
theorem c_34b (h : TRz cu As I s u σ) (hκ : 1 ≤ κ.2.1 ∧ 6 ≤ κ.2.2) (hd : 6 ≤ d) (hx : toV As s v w = none → Q (.inr (κ.1, 15)) (κ.1 + 1, κ.2.1 - 1, κ.2.2 - 6) σ) (hQ : ∀ x, toV As s v w = some x → (x = 0 ∨ x = 1) → Q (.inl (some (.inl x))) κ σ) : my_M e d 34 [.inr (.inr (some 32)), .inl v, .inl w] κ σ Q := by
  obtain ⟨d, rfl⟩ := dS 3 (show 3 ≤ d by omega)
  have h2 := h.2.1
  refine ys_34 ?_
  unfold ys_34_0
  refine c_28b h.2.2.1 (by omega) ?_
  rw [my_k0_v]
  have bad : toV As s v w = none → ys_34_25 e (d + 2) κ σ Q := fun hv => by
    unfold ys_34_25
    exact ⟨⟨by omega, hκ⟩, hx hv⟩
  refine my_if (fun c => bad (by unfold toV; rw [if_pos c])) (fun c => my_if (fun c2 => ?_) (fun c2 => bad (by unfold toV; rw [if_neg c, if_neg c2])))
  refine ⟨cu, h2.2.2.2.2.2.1, in10 h2.2.2.1, ?_⟩
  refine c_200 h2.2.2.1 h2.2.1 h2.2.2.2.2.2.2.1.1 h2.2.2.2.2.2.2.1.2.1 (by omega) ?_
  rw [my_kA_v]
  unfold toV at bad hQ
  rw [if_neg c, if_pos c2] at bad hQ
  cases hk : fkA As v w As.length 0 with
  | none =>
    rw [hk] at bad
    show if (none : Option Nat) = none then _ else _
    rw [if_pos rfl]
    exact bad rfl
  | some k =>
    rw [hk] at hQ
    dsimp only at hQ
    show if (some (cu + 4 + 3 * k)) = none then _ else _
    rw [if_neg (by simp)]
    obtain ⟨b, hb, hb1, hb2⟩ := fkA_n hk
    have hm := nmk_lt h2.1 hb
    obtain ⟨K, hK, hK2⟩ := nn_of c
    subst hK
    have hK3 := (oN_lt1 (b := 3) (c := 3) rfl hK2 (by omega)).mp c2
    have hst2 := mst_16 (kdf (riF b))
    rw [oN_n hK2] at hQ
    have fin : ∀ y, y = (if zt s K (nmk As k) = true then 1 else 0) → ys_138_27 e (d + 1) y κ σ (my_kI (fun x10 κ11 σ12 => (x10 = 0 ∨ x10 = 1) ∧ Q (.inl (some (.inl x10))) κ11 σ12) (fun y13 κ14 σ15 => Q (.inr y13) κ14 σ15)) := fun y hy => by
      have h01 : y = 0 ∨ y = 1 := by rw [hy]; split <;> simp
      unfold ys_138_27
      refine ⟨h01, ?_⟩
      rw [my_kI_v]
      exact ⟨h01, hQ y (by rw [hy]) h01⟩
    rw [← hb2]
    refine ys_138 (in4 (Or.inr rfl)) ?_
    unfold ys_138_0
    rw [if_neg (oN_0 (by omega)), if_pos ((oN_lt1 (b := 32) (c := 32) rfl (by omega) (by omega)).mpr (by omega))]
    refine ys_139 (in4 (Or.inr rfl)) ?_
    unfold ys_139_0 ys_139_23
    rw [if_neg (oN_0 (by omega)), if_pos ((oN_lt1 (b := 3) (c := 3) rfl (by omega) (by omega)).mpr (by omega)), oN_n (by omega)]
    refine ⟨bdk (by omega) (by omega), ?_⟩
    rw [my_kI_v]
    have h7 := h.2.2.2.2.2.2.1.2.2.2.2.2.2.1 K (nmk As k) hK3 (by omega)
    refine my_if (fun c5 => ?_) (fun c5 => ?_)
    · have := (tst_and (by omega)).mp c5
      rw [h7] at this
      unfold ys_138_26
      exact fin 0 (by rw [this]; rfl)
    · have : ¬ tstb (σ.1 (53 + 8) K) (nmk As k) = false := fun hh => c5 ((tst_and (by omega)).mpr hh)
      rw [h7] at this
      exact fin 1 (by rw [if_pos (by simpa using this)])
theorem r_373b (h : TRz cu As I s u σ) (hd : 5 ≤ d) (hx : toV As s v w = none → ∀ σ', σ'.1 498 0 = 2 → eqp (fun c k => c = 498 ∧ k = 0) σ σ' → ∀ x, Q (.inl (some (.inl x))) κ σ') (hQ : ∀ x, toV As s v w = some x → ∀ σ', σ'.1 498 0 = 0 → eqp (fun c k => c = 498 ∧ k = 0) σ σ' → Q (.inl (some (.inl x))) κ σ') : my_M e d 373 [.inr (.inr (some 498)), .inl v, .inl w] κ σ Q := by
  obtain ⟨d, rfl⟩ := dS 2 (show 2 ≤ d by omega)
  have h2 := h.2.1
  have h42 := itsB_42 h2.1
  refine ys_373 ?_
  unfold ys_373_0
  rw [h.2.2.2.1, if_neg (by decide)]
  unfold ys_373_13
  have bad : toV As s v w = none → ys_373_26 e (d + 1) v w 0 κ σ Q := fun hv => by
    unfold ys_373_26 ys_373_31
    refine r_215_2 ?_
    rw [my_kI_v, if_neg (by decide)]
    exact hx hv _ uI_s (eqp_I eqp_rf ⟨rfl, rfl⟩) _
  refine my_if (fun c => bad (by unfold toV; rw [if_pos c])) (fun c => ?_)
  obtain ⟨K, hK, hK2⟩ := nn_of c
  refine my_if (fun c2 => bad ?_) (fun c2 => ?_)
  · rw [hK] at c2
    have := (oN_lt (p := 2) (by omega) hK2).mp c2
    unfold toV
    rw [if_neg c, if_neg (by rw [hK]; exact fun hh => by have := (oN_lt1 (b := 3) (c := 3) rfl hK2 (by omega)).mp hh; omega)]
  have hK3 : K < 3 := by
    by_cases hh : K < 3
    · exact hh
    · exfalso
      apply c2
      rw [hK]
      exact (oN_lt (p := 2) (by omega) hK2).mpr (by omega)
  have c3 : v < 3 := by rw [hK]; exact (oN_lt1 (b := 3) (c := 3) rfl hK2 (by omega)).mpr hK3
  have none1 : fkA As v w As.length 0 = none → toV As s v w = none := fun hh => by unfold toV; rw [if_neg c, if_pos c3, hh]
  refine my_if (fun c4 => bad (none1 ?_)) (fun c4 => ?_)
  · cases hf : fkA As v w As.length 0 with
    | none => rfl
    | some k => exact absurd c4 (fkA_ok h2.1 hf).2.2
  unfold ys_373_31
  refine r_215_0 ?_
  rw [my_kI_v, if_pos rfl]
  have f1 : eqp (fun c k => c = 498 ∧ k = 0) σ (my_uI σ 498 0 0) := eqp_I eqp_rf ⟨rfl, rfl⟩
  have hh := TRz_o h f1 (fun c k hh => Or.inl hh)
  generalize my_uI σ 498 0 0 = σ1 at f1 hh ⊢
  have h2 := hh.2.1
  rw [hK]
  refine r_281 h2.1 (fun k a ha => (h2.2.2.2.2.2.2.2.2.1 k a ha).1) h2.2.2.2.2.2.2.2.2.2.1 (by omega) (by omega) ?_
  rw [my_kI_v, ← hK]
  cases hk : fkA As v w As.length 0 with
  | none =>
    show if Int32.ofInt (-1) < 0 then ys_373_57 e (d + 1) (Int32.ofInt (-1)) 1 0 κ σ1 Q else _
    rw [if_pos (by decide)]
    unfold ys_373_57
    refine r_215_2 ?_
    rw [my_kI_v, if_neg (by decide)]
    unfold ys_373_76 ys_373_77
    exact ⟨Or.inl rfl, hx (none1 hk) _ uI_s (eqp_I f1 ⟨rfl, rfl⟩) _⟩
  | some k =>
    have hkA := fkA_lt hk
    obtain ⟨b, hb, hb1, hb2⟩ := fkA_n hk
    have hkd : kdf (riF b) = K := by
      have := kdf_lt (h2.1.2 b (List.mem_of_getElem? hb)).1
      rw [hK] at hb1
      exact (oN_e (by omega) hK2).mp hb1
    show if Int32.ofNat k < 0 then ys_373_57 e (d + 1) (Int32.ofNat k) 1 0 κ σ1 Q else ys_373_57 e (d + 1) (Int32.ofNat k) 0 0 κ σ1 Q
    rw [if_neg (oN_0 (by omega))]
    unfold ys_373_57
    refine r_215_0 ?_
    rw [my_kI_v, if_pos rfl]
    have f2 : eqp (fun c k => c = 498 ∧ k = 0) σ (my_uI σ1 498 0 0) := eqp_I f1 ⟨rfl, rfl⟩
    have u2 : (my_uI σ1 498 0 0).1 498 0 = 0 := uI_s
    have hh2 := TRz_o h f2 (fun c k hh => Or.inl hh)
    generalize my_uI σ1 498 0 0 = σ2 at f2 u2 hh2 ⊢
    have h9 := hh2.2.2.2.2.2.2.2.2.2.2.2.2.2.2.1.1 k b hb
    rw [oN_n (by omega), h9, hkd]
    refine ⟨bdk (by omega) (by omega), ?_⟩
    have hQ := hQ (if zt s K (nmk As k) = true then 1 else 0) (by unfold toV; rw [if_neg c, if_pos c3, hk, hK, oN_n hK2]) σ2 u2 f2
    by_cases ct : zt s K (nmk As k) = true
    · rw [if_pos ct] at hQ ⊢
      rw [if_neg (by decide)]
      exact ⟨Or.inr rfl, hQ⟩
    · rw [if_neg ct] at hQ ⊢
      rw [if_pos rfl]
      exact ⟨Or.inl rfl, hQ⟩
end MOC
