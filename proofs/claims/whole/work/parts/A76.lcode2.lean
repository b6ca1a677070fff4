
/-! ===== code, the reference's and the law's ===== -/
section MKE
variable {e : my_E} {d : Nat} {κ : my_K} {σ : my_S} {Q : my_O → my_K → my_S → Prop} {As : List Ri} {I : List It} {rv : Nat} {v4 : Int32}
theorem fkA_ok {v1 v2 : Int32} (hB : itsB As) : ∀ {m j k : Nat}, fkA As v1 v2 m j = some k → ¬ v1 < 0 ∧ ¬ (3 : Int32) < v1 ∧ ¬ v2 < 0
  | 0, j, k, h => by unfold fkA at h; cases h
  | m + 1, j, k, h => by
    unfold fkA at h
    cases ha : As[j]? with
    | none => rw [ha] at h; cases h
    | some a =>
      rw [ha] at h
      dsimp only at h
      split at h
      · rename_i hc
        have h42 := itsB_42 hB
        have hlt := kdf_lt (hB.2 a (List.mem_of_getElem? ha)).1
        have hl := cnK_le (A := As.take j) (k := kdf (riF a))
        rw [List.length_take] at hl
        rw [← hc.1, ← hc.2]
        refine ⟨oN_0 (by omega), fun hh => ?_, oN_0 (by omega)⟩
        have := (oN_lt (p := 3) (by omega) (by omega)).mp hh
        omega
      · exact fkA_ok hB h
theorem r_280b {v1 v2 v3 : Int32} (h : LD As I rv σ) (hd : 4 ≤ d)
    (hx : fkA As v1 v2 As.length 0 = none ∨ v3 < 0 → ∀ σ', σ'.1 498 0 = 2 → eqp (fun c k => c = 498 ∧ k = 0) σ σ' → Q (.inl (some (.inl 0))) κ σ')
    (hQ : ∀ k a w, fkA As v1 v2 As.length 0 = some k → As[k]? = some a → v3 = Int32.ofNat w → w < 2147483648 → (∀ y σ', (∀ x, w < (ib I (rwA (As.take k)).length a).length → (ibA I 0 As)[(ibA I 0 (As.take k)).length + w]? = some x → y = x &&& 255) → (¬ w < (ib I (rwA (As.take k)).length a).length → y = Int32.ofInt (-1)) → σ'.1 498 0 = 0 → eqp (fun c k => c = 498 ∧ k = 0) σ σ' → Q (.inl (some (.inl y))) κ σ')) : my_M e d 280 [.inr (.inr (some 498)), .inl v1, .inl v2, .inl v3] κ σ Q := by
  obtain ⟨h1, h2, h3, h4, h5, h6, h7, h8⟩ := h
  obtain ⟨d, rfl⟩ := dS 2 (show 2 ≤ d by omega)
  have h42 := itsB_42 h1
  have bad : (fkA As v1 v2 As.length 0 = none ∨ v3 < 0) → ys_280_30 e (d + 1) v1 v2 v3 0 κ σ Q := fun hh => by
    unfold ys_280_30 ys_280_35
    refine r_215_2 ?_
    rw [my_kI_v, if_neg (by decide)]
    exact hx hh _ uI_s (eqp_I eqp_rf ⟨rfl, rfl⟩)
  have no : ∀ {P : Prop}, (¬ v1 < 0 ∧ ¬ (3 : Int32) < v1 ∧ ¬ v2 < 0 → P → False) → P → fkA As v1 v2 As.length 0 = none := fun hP p => by
    cases hf : fkA As v1 v2 As.length 0 with
    | none => rfl
    | some k => exact absurd (fkA_ok h1 hf) (fun hh => hP hh p)
  refine ys_280 ?_
  unfold ys_280_0
  rw [if_neg h5]
  unfold ys_280_13
  refine my_if (fun c1 => bad (Or.inl (no (fun hh p => hh.1 p) c1))) (fun c1 => my_if (fun c2 => bad (Or.inl (no (fun hh p => hh.2.1 p) c2))) (fun c2 => my_if (fun c3 => bad (Or.inl (no (fun hh p => hh.2.2 p) c3))) (fun c3 => my_if (fun c4 => bad (Or.inr c4)) (fun c4 => ?_))))
  obtain ⟨K, hK, hK2⟩ := nn_of c1
  have hK3 : K ≤ 3 := by
    have : ¬ 3 < K := fun hh => c2 (by rw [hK]; exact (oN_lt (p := 3) (by omega) hK2).mpr hh)
    omega
  obtain ⟨w, hw, hw2⟩ := nn_of c4
  unfold ys_280_35
  refine r_215_0 ?_
  rw [my_kI_v, if_pos rfl]
  have f1 : eqp (fun c k => c = 498 ∧ k = 0) σ (my_uI σ 498 0 0) := eqp_I eqp_rf ⟨rfl, rfl⟩
  generalize my_uI σ 498 0 0 = σ1 at f1 ⊢
  have g49 : σ1.1 498 49 = Int32.ofNat As.length := (eqp_g f1 (by omega)).trans h8.2.2.1
  have g529 : ∀ k a, As[k]? = some a → σ1.1 529 k = Int32.ofNat (riF a + 10) := fun k a ha => (eqp_g f1 (by omega)).trans (h8.2.1 k a ha).1
  rw [hK]
  refine r_281 h1 g529 g49 hK3 (by omega) ?_
  rw [my_kI_v]
  rw [hK] at hx hQ
  cases hf : fkA As (Int32.ofNat K) v2 As.length 0 with
  | none =>
    show if Int32.ofInt (-1) < 0 then _ else _
    rw [if_pos (by decide)]
    unfold ys_280_63
    refine r_215_2 ?_
    rw [my_kI_v, if_neg (by decide)]
    exact hx (Or.inl hf) _ uI_s (eqp_I f1 ⟨rfl, rfl⟩)
  | some k =>
    have hkA := fkA_lt hf
    obtain ⟨a, ha⟩ : ∃ a, As[k]? = some a := ⟨_, List.getElem?_eq_getElem hkA⟩
    have hil := ib_l (I := I) ha
    have h61 := h7.2.2.2.1
    obtain ⟨y1, y2, y3, y4, y5⟩ := h8.2.1 k a ha
    rw [show fkI (some k) = Int32.ofNat k from rfl, if_neg (oN_0 (by omega))]
    unfold ys_280_63
    refine r_215_0 ?_
    rw [my_kI_v, if_pos rfl]
    have f2 : eqp (fun c k => c = 498 ∧ k = 0) σ (my_uI σ1 498 0 0) := eqp_I f1 ⟨rfl, rfl⟩
    have u2 : (my_uI σ1 498 0 0).1 498 0 = 0 := uI_s
    generalize my_uI σ1 498 0 0 = σ2 at f2 u2 ⊢
    have bd : my_bd (Int32.ofNat k) 48 := bdk (by omega) (by omega)
    have e1 : σ2.1 531 k = Int32.ofNat (ibA I 0 (As.take k)).length := (eqp_g f2 (by omega)).trans y3
    have e2 : σ2.1 532 k = Int32.ofNat ((ibA I 0 (As.take k)).length + (ib I (rwA (As.take k)).length a).length) := (eqp_g f2 (by omega)).trans y4
    rw [oN_n (by omega), e1, e2]
    refine ⟨bd, bd, bd, ?_⟩
    have e3 : Int32.ofNat ((ibA I 0 (As.take k)).length + (ib I (rwA (As.take k)).length a).length) - Int32.ofNat (ibA I 0 (As.take k)).length = Int32.ofNat (ib I (rwA (As.take k)).length a).length := by
      rw [Int32.ofNat_add, Int32.add_comm, Int32.add_sub_cancel]
    rw [e3, hw]
    refine my_if (fun c5 => ?_) (fun c5 => ?_)
    · have c5 := (oN_lt hw2 (by omega)).mp c5
      rw [← Int32.ofNat_add, oN_n (by omega)]
      refine ⟨bdk (by omega) (by omega), ?_⟩
      unfold ys_280_112
      obtain ⟨x, hx2⟩ := ib_at (I := I) ha c5
      have e4 : σ2.1 535 ((ibA I 0 (As.take k)).length + w) = x &&& 255 := (eqp_g f2 (by omega)).trans (h8.1.2 _ x hx2)
      rw [e4]
      exact hQ k a w hf ha hw hw2 _ σ2 (fun x' _ hx' => by rw [hx2] at hx'; cases hx'; rfl) (fun hh => absurd c5 hh) u2 f2
    · unfold ys_280_112
      have c5 : ¬ w < (ib I (rwA (As.take k)).length a).length := fun hh => c5 ((oN_lt hw2 (by omega)).mpr hh)
      exact hQ k a w hf ha hw hw2 _ σ2 (fun x' hh => absurd hh c5) (fun _ => rfl) u2 f2
theorem LD_o {F : Nat → Nat → Prop} {σ' : my_S} (hn30 : ∀ a ∈ As, (ndF I a).length ≤ 30) (h : LD As I rv σ) (he : eqp F σ σ') (hF : ∀ c k, F c k → ¬ (rv ≤ c ∧ c < rv + 130) ∧ ¬ coF c k ∧ (c = 32 → k ≠ 10 ∧ k ≠ 7) ∧ (c = 498 → k ≠ 65)) : LD As I rv σ' := by
  obtain ⟨h1, h2, h3, h4, h5, h6, h7, h8⟩ := h
  refine ⟨h1, h2, h3, ?_, ?_, ((he _ _ (fun hh => ((hF _ _ hh).2.2.1 rfl).2 rfl)).2.2).trans h6, RevC_o h2 h7 he (fun c k hh => (hF c k hh).1), NowR_o h1 h2 hn30 h8 he (fun c k hh => (hF c k hh).2.1)⟩
  · rw [eqp_g he (fun hh => ((hF _ _ hh).2.2.1 rfl).1 rfl)]; exact h4
  · rw [eqp_g he (fun hh => (hF _ _ hh).2.2.2 rfl rfl)]; exact h5
theorem LD_30 (h : LD As I rv σ) : ∀ a ∈ As, (ndF I a).length ≤ 30 := fun a ha => by
  obtain ⟨j, hj⟩ := List.getElem?_of_mem ha
  by_cases h2 : 2 ≤ riF a
  · exact ((h.2.2.2.2.2.2.1.2.2.2.2 j a hj).2.2.2 h2).2.2.2.2.2.1
  · unfold ndF; rw [if_pos (by omega)]; simp
/-- what an answering op leaves -/
theorem l_4b (h : LD As I rv σ) (hκ : 1 ≤ κ.2.1 ∧ 6 ≤ κ.2.2) (b1 : my_bd (v4 + 1) e.2.1) (b2 : my_bd (v4 + 2) e.2.1) (b3 : my_bd (v4 + 3) e.2.1) (hn : ∀ κ' σ', (κ' = κ ∨ κ' = (κ.1 + 1, κ.2.1 - 1, κ.2.2 - 6)) → eqp rtF σ σ' → ys_law_1663 e 1049 v4 κ' σ' Q) : ys_law_313 e 1049 v4 κ σ Q := by
  unfold ys_law_313
  refine ⟨b1, b2, b3, ys_379 ?_⟩
  unfold ys_379_0
  generalize e.2.2 (v4 + 1 : Int32).toNatClampNeg = x1
  generalize e.2.2 (v4 + 2 : Int32).toNatClampNeg = x2
  generalize e.2.2 (v4 + 3 : Int32).toNatClampNeg = x3
  refine c_16b h hκ (by omega) (fun hb => ?_) (fun k a w hk ha hw hw2 y hy1 hy2 => ?_)
  · rw [my_kI_x, if_neg (show ¬ (15 : Nat) = 13 by decide), if_pos rfl, my_kI_v]
    refine ⟨b1, b2, b3, r_280b h (by omega) (fun _ σ1 u1 f1 => ?_) (fun k a w hk ha hw hw2 => ?_)⟩
    · rw [my_kI_v]
      refine r_213 ?_
      rw [my_kI_v, u1, if_pos rfl, if_neg (by decide)]
      unfold ys_law_390
      exact hn _ σ1 (Or.inr rfl) (eqp_mo f1 (fun _ _ => Or.inl))
    · rcases hb with hb | hb
      · rw [hk] at hb; cases hb
      · rw [hw] at hb; exact absurd hb (oN_0 hw2)
  · rw [my_kI_v, my_kI_v]
    have f0 : eqp rtF σ (my_uL σ 585 0 y.toInt64) := eqp_L eqp_rf (Or.inr ⟨rfl, rfl⟩)
    have u0 : (my_uL σ 585 0 y.toInt64).2.1 585 0 = y.toInt64 := by
      rw [my_uL_2, if_pos ⟨rfl, rfl⟩]
    generalize my_uL σ 585 0 y.toInt64 = σ0 at f0 u0 ⊢
    have h' : LD As I rv σ0 := LD_o (LD_30 h) h f0 (fun c k hh => by
      have := h.2.2.1
      unfold rtF at hh
      unfold coF
      omega)
    refine ⟨b1, b2, b3, r_280b h' (by omega) (fun hb => ?_) (fun k' a' w' hk' ha' hw' hw2' y' σ1 q1 q2 u1 f1 => ?_)⟩
    · exfalso
      rcases hb with hb | hb
      · rw [hk] at hb; cases hb
      · rw [hw] at hb; exact absurd hb (oN_0 hw2)
    · rw [hk] at hk'
      cases hk'
      rw [ha] at ha'
      cases ha'
      have hww : w' = w := by
        rw [hw] at hw'
        exact ((oN_e hw2 hw2').mp hw').symm
      subst hww
      have hyy : y' = y := by
        by_cases c : w' < (ib I (rwA (As.take k)).length a).length
        · obtain ⟨x, hx1, hx2⟩ := hy1 c
          rw [q1 x c hx1, hx2]
        · rw [q2 c, hy2 c]
      rw [my_kI_v]
      refine r_213 ?_
      rw [my_kI_v, u1, if_pos rfl, if_pos rfl]
      have u2 : σ1.2.1 585 0 = y'.toInt64 := by rw [hyy, ← u0]; exact (f1 _ _ (by omega)).2.1
      rw [if_pos (lg_cmp_0.mpr u2)]
      unfold ys_law_390
      exact hn _ σ1 (Or.inl rfl) (eqp_tr f0 (eqp_mo f1 (fun _ _ => Or.inl)))
end MKE
