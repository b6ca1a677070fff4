
/-! ===== step ===== -/
section MSK
variable {As : List Ri} {I : List It} {s s' : Ms}
theorem zop_k {k c j : Nat} {o : Int32} (q : Option (Nat × Int32)) : ∃ q', zop As k c o j (zk0 q s) = zk0 q' (zop As k c o j s) := by
  have eT : ∀ {t : Ms}, ztop (zk0 q t) = ztop t := rfl
  by_cases c1 : c = 1
  · subst c1; exact ⟨q, rfl⟩
  by_cases c2 : c = 2
  · subst c2; exact ⟨q, rfl⟩
  by_cases c3 : c = 3
  · subst c3; exact ⟨q, rfl⟩
  by_cases c4 : c = 4
  · subst c4; exact ⟨q, rfl⟩
  by_cases c5 : c = 5
  · subst c5; exact ⟨q, rfl⟩
  by_cases c6 : c = 6
  · subst c6; exact ⟨q, rfl⟩
  by_cases c7 : c = 7
  · subst c7; exact ⟨q, rfl⟩
  by_cases c8 : c = 8
  · subst c8
    refine ⟨q, ?_⟩
    rw [zop_8, zop_8]
    unfold zcel
    have e : ztop (ztch 1 (nmk As j) (zk0 q s)) = ztop (ztch 1 (nmk As j) s) := rfl
    rw [e]
    split <;> rfl
  by_cases c9 : c = 9
  · subst c9
    refine ⟨q, ?_⟩
    rw [zop_9, zop_9]
    unfold zset
    have e : ztop (zpop (ztch 1 (nmk As j) (zk0 q s))) = ztop (zpop (ztch 1 (nmk As j) s)) := rfl
    rw [e]
    split <;> rfl
  by_cases c10 : c = 10
  · subst c10
    refine ⟨q, ?_⟩
    rw [zop_10, zop_10]
    unfold zcal
    have e1 : zF (zk0 q s) = zF s := rfl
    have e2 : zD (zk0 q s) = zD s := rfl
    rw [e1, e2]
    split
    · split <;> rfl
    · rfl
  by_cases c11 : c = 11
  · subst c11; exact ⟨q, rfl⟩
  by_cases c12 : c = 12
  · subst c12; exact ⟨q, rfl⟩
  by_cases c13 : c = 13
  · subst c13; exact ⟨q, rfl⟩
  by_cases c14 : c = 14
  · subst c14; exact ⟨q, rfl⟩
  by_cases c15 : c = 15
  · subst c15
    refine ⟨q, ?_⟩
    rw [zop_15, zop_15, eT]
    split <;> rfl
  by_cases c16 : c = 16
  · subst c16
    refine ⟨q, ?_⟩
    rw [zop_16, zop_16]
    unfold zbrn
    have e1 : zF (zk0 q s) = zF s := rfl
    rw [e1]
    split <;> rfl
  by_cases c17 : c = 17
  · subst c17
    by_cases h : ztop s = 0
    · refine ⟨some (k, o), ?_⟩
      rw [zop_17, zop_17, eT, if_pos h, if_pos h]
      rfl
    · refine ⟨q, ?_⟩
      rw [zop_17, zop_17, eT, if_neg h, if_neg h]
      rfl
  by_cases c19 : c = 19
  · subst c19; exact ⟨q, rfl⟩
  by_cases c20 : c = 20
  · subst c20; exact ⟨q, rfl⟩
  have e : ∀ t : Ms, zop As k c o j t = zbin c t := fun t => by
    unfold zop
    rw [if_neg (by omega), if_neg (by omega), if_neg (by omega), if_neg (by omega), if_neg (by omega), if_neg (by omega), if_neg (by omega), if_neg (by omega), if_neg (by omega), if_neg (by omega), if_neg (by omega), if_neg (by omega), if_neg (by omega), if_neg (by omega), if_neg (by omega), if_neg (by omega), if_neg (by omega), if_neg (by omega)]
  refine ⟨q, ?_⟩
  rw [e, e]
  unfold zbin
  rw [eT]
  split <;> rfl
theorem ZR_k : ∀ {n : Nat} {s s' : Ms}, ZR As I n s s' → ∀ q, ∃ q', ZR As I n (zk0 q s) (zk0 q' s')
  | 0, s, s', hz, q => by
    have hz : s' = s := hz
    subst hz
    exact ⟨q, rfl⟩
  | n + 1, s, s', hz, q => by
    obtain ⟨hE, hc, s1, ⟨a, LT, r1, x, r2, jj, ht, h6, h8, hjj, hs1⟩, hz1⟩ := hz
    obtain ⟨q1, e1⟩ := zop_k (As := As) (k := zw s (zD s)) (c := opc x.1) (j := jj) (o := opx I As (zw s (zD s)) a r1 x) (s := zA r1 x s) q
    obtain ⟨q2, z2⟩ := ZR_k hz1 q1
    refine ⟨q2, hE, hc, zk0 q1 s1, ⟨a, LT, r1, x, r2, jj, ht, h6, h8, hjj, ?_⟩, z2⟩
    rw [hs1]
    exact e1.symm
end MSK
section MSL
variable {As Bs : List Ri} {I I' : List It} {cnt cu ol sp : Nat} {e : my_E} {d : Nat} {κ : my_K} {σ : my_S} {Q : my_O → my_K → my_S → Prop} {v4 : Int32}
theorem n_364b {s s' : Ms} {q : Option (Nat × Int32)} {m n : Nat} (h : LD As I cu σ) (hL : LOf As I) (h133 : σ.1 498 133 = 1) (hr : RAs As I s σ) (hk : ckR q σ) (hb : b01 σ) (hw : WE As I s) (hw' : WE As I s') (hm : m ≤ 100000) (hz : ZR As I n s s') (hn : n ≤ m) (he : n = m ∨ zE s' ≠ none) (hd : 6 ≤ d) (hQ : ∀ q' σ', ckR q' σ' → b01 σ' → RAs As I s' σ' → σ'.1 498 0 = 0 → σ'.1 498 135 = σ.1 498 135 + Int32.ofNat n → eqp (fun c k => (c = 498 ∧ (k = 0 ∨ k = 135)) ∨ rmF c k ∨ raF c k) σ σ' → Q (.inl (some (.inl (Int32.ofNat n)))) κ σ') : my_M e d 364 [.inr (.inr (some 498)), .inl (Int32.ofNat m)] κ σ Q := by
  obtain ⟨d, rfl⟩ := dS 2 (show 2 ≤ d by omega)
  have hB := h.1
  refine ys_364 ?_
  unfold ys_364_0
  rw [h133, if_neg (by decide)]
  unfold ys_364_13
  rw [if_neg (oN_0 (by omega)), if_neg (fun hh => by have := (oN_lt (p := 100000) (by omega) (by omega)).mp hh; omega)]
  unfold ys_364_29
  refine r_215_0 ?_
  rw [my_kI_v, if_pos rfl]
  have f1 : eqp (fun c k => c = 498 ∧ k = 0) σ (my_uI σ 498 0 0) := eqp_I eqp_rf ⟨rfl, rfl⟩
  have u1 : (my_uI σ 498 0 0).1 498 0 = 0 := uI_s
  generalize my_uI σ 498 0 0 = σ1 at f1 u1 ⊢
  refine n_365 hB (RAs_o hr f1 (fun c k hh => by unfold raF; omega)) (ckR_o hk f1 (fun c k hh hc => by omega)) (b01_o hb f1 (fun c k hh => by omega)) (by have := hw.2.2.1; omega) hw.1 (by omega) (fun σ2 g2 f2 => ?_)
  rw [my_k0_v]
  have f12 : eqp (fun c k => (c = 498 ∧ k = 0) ∨ rmF c k) σ σ2 := eqp_tr (eqp_mo f1 (fun c k hh => Or.inl hh)) (eqp_mo f2 (fun c k hh => by unfold rbF at hh; unfold rmF; omega))
  have ld2 : LD As I cu σ2 := LD_o (LD_30 h) h f12 (fun c k hh => by have := h.2.2.1; unfold rmF at hh; unfold coF; omega)
  obtain ⟨q', hz'⟩ := ZR_k hz q
  refine ys_364_43_ok (n_364l (most := m) hL (LD_30 h) h.2.2.2.2.2.2.1.2.2.2.1 (by omega) (by omega) n 0 (zk0 q s) (zk0 q' s') σ2 hz' ld2.2.2.2.2.2.2.2 g2 (by omega) (by rw [Nat.zero_add]; exact he) (fun σ3 g3 f3 => ?_))
  rw [Nat.zero_add]
  unfold ys_364_65
  have e135 : σ3.1 498 135 = σ.1 498 135 := by rw [eqp_g f3 (by unfold rmF; omega), eqp_g f12 (by unfold rmF; omega)]
  rw [e135]
  have f4 : eqp (fun c k => c = 498 ∧ k = 135) σ3 (my_uI σ3 498 135 (σ.1 498 135 + Int32.ofNat n)) := eqp_I eqp_rf ⟨rfl, rfl⟩
  have g4 : RMs As I (zk0 q' s') (my_uI σ3 498 135 (σ.1 498 135 + Int32.ofNat n)) := RMs_o g3 f4 (fun c k hh => by unfold rmF; omega)
  have u4 : (my_uI σ3 498 135 (σ.1 498 135 + Int32.ofNat n)).1 498 135 = σ.1 498 135 + Int32.ofNat n := uI_s
  generalize my_uI σ3 498 135 (σ.1 498 135 + Int32.ofNat n) = σ4 at f4 g4 u4 ⊢
  refine n_362 hB g4 (by have := hw'.2.2.1; show zT s' ≤ 8000; omega) hw'.1 (by omega) (fun σ5 g5 g5' f5 => ?_)
  rw [my_k0_v]
  refine hQ q' σ5 g5.2.2.2.2.2.2.2.2.2.2 g5.2.2.2.2.2.2.1.2 g5' ?_ ?_ ?_
  · rw [eqp_g f5 (by unfold raF; omega), eqp_g f4 (by omega), eqp_g f3 (by unfold rmF; omega), eqp_g f2 (by unfold rbF; omega)]; exact u1
  · rw [eqp_g f5 (by unfold raF; omega)]; exact u4
  · exact eqp_tr (eqp_mo f12 (fun c k hh => by rcases hh with hh | hh; exact Or.inl ⟨hh.1, Or.inl hh.2⟩; exact Or.inr (Or.inl hh))) (eqp_tr (eqp_mo f3 (fun c k hh => Or.inr (Or.inl hh))) (eqp_tr (eqp_mo f4 (fun c k hh => Or.inl ⟨hh.1, Or.inr hh.2⟩)) (eqp_mo f5 (fun c k hh => Or.inr (Or.inr hh)))))
/-- a number of steps that is refused -/
theorem n_364x {v : Int32} (h133 : σ.1 498 133 = 1) (hv : v < 0 ∨ (100000 : Int32) < v) (hd : 2 ≤ d) (hQ : ∀ σ', σ'.1 498 0 = 2 → eqp (fun c k => c = 498 ∧ k = 0) σ σ' → Q (.inl (some (.inl 0))) κ σ') : my_M e d 364 [.inr (.inr (some 498)), .inl v] κ σ Q := by
  obtain ⟨d, rfl⟩ := dS 2 (show 2 ≤ d by omega)
  have bad : ys_364_24 e (d + 1) v 0 κ σ Q := by
    unfold ys_364_24 ys_364_29
    refine r_215_2 ?_
    rw [my_kI_v, if_neg (by decide)]
    exact hQ _ uI_s (eqp_I eqp_rf ⟨rfl, rfl⟩)
  refine ys_364 ?_
  unfold ys_364_0
  rw [h133, if_neg (by decide)]
  unfold ys_364_13
  refine my_if (fun _ => bad) (fun c => my_if (fun _ => bad) (fun c2 => ?_))
  rcases hv with hv | hv
  · exact absurd hv c
  · exact absurd hv c2
theorem c_27b {s : Ms} {v : Int32} (h : LD As I cu σ) (hL : LOf As I) (t2 : σ.1 32 11 = 1) (t5 : CMs 53 cu s σ) (t6 : WZ As I s) (t7 : E6 s) (hκ : 1 ≤ κ.2.1 ∧ 6 ≤ κ.2.2) (hd : 9 ≤ d) (hx : (v < 0 ∨ (100000 : Int32) < v) → Q (.inr (κ.1, 14)) (κ.1 + 1, κ.2.1 - 1, κ.2.2 - 6) σ) (hQ : ∀ m n s' σ', v = Int32.ofNat m → m ≤ 100000 → n ≤ m → ZR As I n s s' → WZ As I s' → E6 s' → (n = m ∨ zE s' ≠ none) → CMs 53 cu s' σ' → σ'.1 53 13 = σ.1 53 13 + Int32.ofNat n → eqp (fun c _ => 53 ≤ c ∧ c ≤ 61) σ σ' → Q (.inl (some (.inl (Int32.ofNat n)))) κ σ') : my_M e d 27 [.inr (.inr (some 32)), .inl v] κ σ Q := by
  obtain ⟨d, rfl⟩ := dS 2 (show 2 ≤ d by omega)
  have hcu := h.2.2.1
  refine ys_27 ?_
  unfold ys_27_0
  refine ys_28 ?_
  unfold ys_28_0
  rw [t2, if_neg (by decide), my_k0_v]
  have bad : (v < 0 ∨ (100000 : Int32) < v) → ys_27_14 e (d + 1) κ σ Q := fun hv => by
    unfold ys_27_14
    exact ⟨⟨by omega, hκ.1, hκ.2⟩, hx hv⟩
  refine my_if (fun c => bad (Or.inl c)) (fun c => my_if (fun c2 => bad (Or.inr c2)) (fun c2 => ?_))
  obtain ⟨m, hm, hm2⟩ := nn_of c
  have hm3 : m ≤ 100000 := by
    by_cases hh : m ≤ 100000
    · exact hh
    · exfalso
      apply c2
      rw [hm]
      exact (oN_lt (p := 100000) (by omega) hm2).mpr (by omega)
  obtain ⟨n, s', z1, z2, z3, z4⟩ := zr_n hL m s t6
  have e6 := ZR_E z2 t7
  rw [hm]
  refine m_112 (Or.inr rfl) hcu hL hm2 z2 h.2.2.2.2.2.2.1 t5 z1 ?_ (by omega) (fun σ1 g1 q1 f1 => ?_)
  · rcases z4 with z4 | z4
    · exact Or.inl z4
    · right
      cases hE : zE s' with
      | none => exact absurd hE z4
      | some en => exact ⟨en, e6 en hE, rfl⟩
  · rw [my_kI_v]
    exact hQ m n s' σ1 hm hm3 z1 z2 z3 e6 z4 g1 q1 (eqp_mo f1 (fun c k hh => by unfold cmF at hh; omega))
theorem l_12b (h : LD As I cu σ) (hL : LOf As I) (hk : INVk cnt cu As I σ) (hcnt : 1 ≤ cnt) (hκ : 1 ≤ κ.2.1 ∧ 6 ≤ κ.2.2) (b1 : my_bd (v4 + 1) e.2.1) (hn : ∀ κ' σ', (κ' = κ ∨ κ' = (κ.1 + 1, κ.2.1 - 1, κ.2.2 - 6)) → INVk cnt cu As I σ' → eqp trF σ σ' → ys_law_1663 e 1049 v4 κ' σ' Q) : ys_law_837 e 1049 v4 κ σ Q := by
  have hB := h.1
  have hcu := h.2.2.1
  have hk0 := hk
  obtain ⟨⟨q, hq⟩, hb, ha, ht⟩ := hk
  rcases ht with ⟨t1, t2⟩ | ⟨t1, t2, t3, t4, s, t5, t6, t7, t8⟩
  · have f : eqp (fun c k => c = 498 ∧ k = 0) σ (my_uI σ 498 0 1) := eqp_I eqp_rf ⟨rfl, rfl⟩
    exact l_12 t1 t2 hκ.1 hκ.2 b1 (hn _ _ (Or.inr rfl) (INVk_o hk0 f (fun c k hh => by unfold ikF; omega)) (eqp_mo f (fun c k hh => Or.inl (Or.inl hh))))
  unfold ys_law_837
  refine ⟨b1, ys_387 ?_⟩
  unfold ys_387_0
  generalize e.2.2 (v4 + 1 : Int32).toNatClampNeg = x1
  refine c_27b h hL t2 t5 t6 t7 hκ (by omega) (fun hv => ?_) (fun m n s' σ1 hm hm3 z1 z2 z3 e6 z4 g1 q1 f1 => ?_)
  · rw [my_kI_x, if_neg (show ¬ (14 : Nat) = 13 by decide), if_pos rfl, my_kI_v]
    refine ⟨b1, n_364x t3 hv (by omega) (fun σ1 u1 f1 => ?_)⟩
    rw [my_kI_v]
    refine r_213 ?_
    rw [my_kI_v, u1, if_pos rfl, if_neg (by decide)]
    unfold ys_law_890
    exact hn _ σ1 (Or.inr rfl) (INVk_o hk0 f1 (fun c k hh => by unfold ikF; omega)) (eqp_mo f1 (fun c k hh => Or.inl (Or.inl hh)))
  · rw [my_kI_v, my_kI_v]
    generalize hy : (Int32.ofNat n).toInt64 = y
    have f2 : eqp (fun c k => (53 ≤ c ∧ c ≤ 61) ∨ (c = 585 ∧ k = 0)) σ (my_uL σ1 585 0 y) := eqp_L (eqp_mo f1 (fun c k hh => Or.inl hh)) (Or.inr ⟨rfl, rfl⟩)
    have fx : eqp (fun c k => c = 585 ∧ k = 0) σ1 (my_uL σ1 585 0 y) := eqp_L eqp_rf ⟨rfl, rfl⟩
    have g2 : CMs 53 cu s' (my_uL σ1 585 0 y) := CMs_o g1 fx (fun c k hh => by omega)
    have q2 : (my_uL σ1 585 0 y).1 53 13 = σ.1 53 13 + Int32.ofNat n := (eqp_g fx (by omega)).trans q1
    have u2 : (my_uL σ1 585 0 y).2.1 585 0 = y := by rw [my_uL_2, if_pos ⟨rfl, rfl⟩]
    clear fx
    generalize my_uL σ1 585 0 y = σ2 at f2 g2 q2 u2 ⊢
    have ld2 : LD As I cu σ2 := LD_o (LD_30 h) h f2 (fun c k hh => by unfold coF; omega)
    rw [hm]
    refine ⟨b1, n_364b (s := s) (s' := s') (q := q) ld2 hL ((eqp_g f2 (by omega)).trans t3) (RAs_o t8 f2 (fun c k hh => by unfold raF; omega)) (ckR_o hq f2 (fun c k hh hc => by omega)) (b01_o hb f2 (fun c k hh => by omega)) t6.1 z3.1 hm3 z2 z1 z4 (by omega) (fun q' σ3 r1 r2 r3 r4 r5 f3 => ?_)⟩
    rw [my_kI_v]
    refine r_213 ?_
    have u3 : σ3.2.1 585 0 = y := by rw [(f3 585 0 (by unfold rmF raF; omega)).2.1]; exact u2
    rw [my_kI_v, r4, if_pos rfl, if_pos rfl, hy, if_pos (lg_cmp_0.mpr u3)]
    unfold ys_law_890
    refine hn _ σ3 (Or.inl rfl) ⟨⟨q', r1⟩, r2, asB_of hB z3.1 r3, Or.inr ⟨hcnt, ?_, ?_, ?_, s', ?_, z3, e6, r3⟩⟩ ?_
    · rw [eqp_g f3 (by unfold rmF raF; omega), eqp_g f2 (by omega)]; exact t2
    · rw [eqp_g f3 (by unfold rmF raF; omega), eqp_g f2 (by omega)]; exact t3
    · rw [r5, eqp_g f2 (by omega), t4, eqp_g f3 (by unfold rmF raF; omega), q2]
    · exact CMs_o g2 f3 (fun c k hh => by unfold rmF raF at hh; omega)
    · exact eqp_tr (eqp_mo f2 (fun c k hh => by unfold trF rtF; omega)) (eqp_mo f3 (fun c k hh => by unfold rmF raF at hh; unfold trF rtF rmF raF; omega))
theorem l_12i (h : INVr cnt cu ol sp As I Bs I' σ) (ht : INVt σ) (hk : INVk cnt cu As I σ) (hκ : 1 ≤ κ.2.1 ∧ 6 ≤ κ.2.2) (b1 : my_bd (v4 + 1) e.2.1) (hn : ∀ κ' σ', (κ' = κ ∨ κ' = (κ.1 + 1, κ.2.1 - 1, κ.2.2 - 6)) → INVr cnt cu ol sp As I Bs I' σ' → INVt σ' → INVk cnt cu As I σ' → eqp trF σ σ' → ys_law_1663 e 1049 v4 κ' σ' Q) : ys_law_837 e 1049 v4 κ σ Q := by
  have go : ∀ κ' σ', (κ' = κ ∨ κ' = (κ.1 + 1, κ.2.1 - 1, κ.2.2 - 6)) → INVk cnt cu As I σ' → eqp trF σ σ' → ys_law_1663 e 1049 v4 κ' σ' Q := fun κ' σ' hk' hi f => hn κ' σ' hk' (INVr_o h f (fun _ _ => trF_iv)) (INVt_o ht f (fun c k hh => by unfold trF rtF rmF raF at hh; omega)) hi f
  by_cases hc : cnt = 0
  · rcases hk.2.2.2 with ⟨t1, t2⟩ | ⟨t1, _⟩
    · have f : eqp (fun c k => c = 498 ∧ k = 0) σ (my_uI σ 498 0 1) := eqp_I eqp_rf ⟨rfl, rfl⟩
      exact l_12 t1 t2 hκ.1 hκ.2 b1 (go _ _ (Or.inr rfl) (INVk_o hk f (fun c k hh => by unfold ikF; omega)) (eqp_mo f (fun c k hh => Or.inl (Or.inl hh))))
    · omega
  · exact l_12b (INVr_LD h (by omega)) (h.2.2.2.2.2.1 (by omega)).1 hk (by omega) hκ b1 go
end MSL
