
/-! ===== gone, the law's ===== -/
section MKI
variable {e : my_E} {d : Nat} {κ : my_K} {σ : my_S} {Q : my_O → my_K → my_S → Prop} {As Bs : List Ri} {I I' : List It} {rv ol : Nat} {v4 : Int32} {l : List Nat}
theorem r_351b {v1 : Int32} (hA : itsB As) (hB : itsB Bs) (h49 : σ.1 498 49 = Int32.ofNat As.length) (h530 : ∀ k a, As[k]? = some a → σ.2.1 530 k = nmR (riN a)) (ho : OLR Bs σ) (hd : 2 ≤ d) (hQ : Q (.inl (some (.inl (fkI (gnO Bs (rno As) v1 4 0 0))))) κ σ) : my_M e d 351 [.inr (.inr (some 498)), .inl v1] κ σ Q := by
  obtain ⟨d, rfl⟩ := dS 1 (show 1 ≤ d by omega)
  have lp : ∀ (f K c : Nat), K + f = 4 → Q (.inl (some (.inl (fkI (gnO Bs (rno As) v1 f K c))))) κ σ → ys_351_4 e d (v1 - Int32.ofNat c) (Int32.ofNat K) κ σ Q := fun f => by
    induction f with
    | zero =>
      intro K c hK hq
      unfold ys_351_4
      rw [if_neg (by rw [oN_lt1 (b := 4) (c := 4) rfl (by omega) (by omega)]; omega)]
      exact hq
    | succ f ih =>
      intro K c hK hq
      have key : ∀ (T : Nat), T = (if K = 3 then 4 else K) → ys_351_40 e d (v1 - Int32.ofNat c) (Int32.ofNat K) (Int32.ofNat (T + 10)) κ σ Q := fun T hT => by
        unfold ys_351_40
        refine ys_351_45_ok ?_
        refine r_351l (K := K) hA hB h49 h530 ho (fun f hf => ?_) (by omega) Bs.length 0 c (by omega) (fun k hk => ?_) (fun c' hc' => ?_)
        · rw [oN_e (by unfold srt; split <;> omega) (by split at hT <;> omega), hT]
          unfold srt kdf
          split <;> split <;> split <;> omega
        · rw [gnO, hk] at hq
          exact hq
        · rw [gnO, hc'] at hq
          exact ih (K + 1) c' (by omega) hq
      unfold ys_351_4
      rw [if_pos ((oN_lt1 (b := 4) (c := 4) rfl (by omega) (by omega)).mpr (by omega))]
      refine my_if (fun c1 => ?_) (fun c1 => my_if (fun c2 => ?_) (fun c2 => my_if (fun c3 => ?_) (fun c3 => ?_)))
      · have := (oN_e (b := 0) (by omega) (by omega)).mp c1
        exact key 0 (by rw [if_neg (by omega)]; omega)
      · have := (oN_e (b := 1) (by omega) (by omega)).mp c2
        exact key 1 (by rw [if_neg (by omega)]; omega)
      · have := (oN_e (b := 2) (by omega) (by omega)).mp c3
        exact key 2 (by rw [if_neg (by omega)]; omega)
      · have n0 : K ≠ 0 := fun hh => c1 (by rw [hh]; rfl)
        have n1 : K ≠ 1 := fun hh => c2 (by rw [hh]; rfl)
        have n2 : K ≠ 2 := fun hh => c3 (by rw [hh]; rfl)
        exact key 4 (by rw [if_pos (by omega)])
  refine ys_351 ?_
  unfold ys_351_0
  have := lp 4 0 0 rfl hQ
  rw [show v1 - Int32.ofNat 0 = v1 from Int32.sub_zero v1] at this
  exact ys_351_4_ok this
theorem gn_neg {v1 : Int32} {NL : List (List Nat)} {K : Nat} (hv : v1 < 0) : ∀ (m j c : Nat), c + m < 2147483648 → ∃ c', gn Bs NL v1 K m j c = .inl c' ∧ c' ≤ c + m
  | 0, j, c, _ => ⟨c, rfl, by omega⟩
  | m + 1, j, c, h => by
    unfold gn
    cases hb : Bs[j]? with
    | none => exact ⟨c, rfl, by omega⟩
    | some b =>
      dsimp only
      split
      · rw [if_neg (fun hh => absurd (hh ▸ hv) (oN_0 (by omega)))]
        obtain ⟨c', h1, h2⟩ := gn_neg hv m (j + 1) (c + 1) (by omega)
        exact ⟨c', h1, by omega⟩
      · obtain ⟨c', h1, h2⟩ := gn_neg hv m (j + 1) c (by omega)
        exact ⟨c', h1, by omega⟩
theorem gnO_neg {v1 : Int32} {NL : List (List Nat)} (hv : v1 < 0) (hl : Bs.length ≤ 42) : ∀ (f K c : Nat), c + 42 * f < 2147483648 → gnO Bs NL v1 f K c = none
  | 0, K, c, _ => rfl
  | f + 1, K, c, h => by
    unfold gnO
    obtain ⟨c', h1, h2⟩ := gn_neg (Bs := Bs) (NL := NL) (K := K) hv Bs.length 0 c (by omega)
    rw [h1]
    exact gnO_neg hv hl f (K + 1) c' (by omega)
theorem r_350b {v1 v2 : Int32} (h : LD As I rv σ) (hB : itsB Bs) (ho : OLR Bs σ) (hd : 4 ≤ d)
    (hx : gnO Bs (rno As) v1 4 0 0 = none ∨ v2 < 0 → ∀ σ', σ'.1 498 0 = 2 → eqp (fun c k => c = 498 ∧ k = 0) σ σ' → Q (.inl (some (.inl 0))) κ σ')
    (hQ : ∀ k b w σ', gnO Bs (rno As) v1 4 0 0 = some k → Bs[k]? = some b → v2 = Int32.ofNat w → w < 2147483648 → σ'.1 498 0 = 0 → eqp (fun c k => c = 498 ∧ k = 0) σ σ' → Q (.inl (some (.inl (lno (riN b) w)))) κ σ') : my_M e d 350 [.inr (.inr (some 498)), .inl v1, .inl v2] κ σ Q := by
  obtain ⟨h1, h2, h3, h4, h5, h6, h7, h8⟩ := h
  obtain ⟨d, rfl⟩ := dS 2 (show 2 ≤ d by omega)
  have h42 := itsB_42 hB
  have st : ys_350_13 e (d + 1) v2 (fkI (gnO Bs (rno As) v1 4 0 0)) κ σ Q := by
    unfold ys_350_13
    rw [if_neg h5]
    have bad : (gnO Bs (rno As) v1 4 0 0 = none ∨ v2 < 0) → ys_350_35 e (d + 1) v2 (fkI (gnO Bs (rno As) v1 4 0 0)) 0 κ σ Q := fun hh => by
      unfold ys_350_35 ys_350_40
      refine r_215_2 ?_
      rw [my_kI_v, if_neg (by decide)]
      exact hx hh _ uI_s (eqp_I eqp_rf ⟨rfl, rfl⟩)
    unfold ys_350_27
    cases hg : gnO Bs (rno As) v1 4 0 0 with
    | none =>
      rw [hg] at bad
      rw [if_pos (show fkI none < 0 by decide)]
      exact bad (Or.inl rfl)
    | some k =>
      rw [hg] at bad
      have hkl := gnO_lt hg
      obtain ⟨b, hb⟩ : ∃ b, Bs[k]? = some b := ⟨_, List.getElem?_eq_getElem hkl⟩
      rw [show fkI (some k) = Int32.ofNat k from rfl] at bad ⊢
      rw [if_neg (oN_0 (by omega))]
      refine my_if (fun c => bad (Or.inr c)) (fun c => ?_)
      obtain ⟨w, hw, hw2⟩ := nn_of c
      unfold ys_350_40
      refine r_215_0 ?_
      rw [my_kI_v, if_pos rfl]
      have f1 : eqp (fun c k => c = 498 ∧ k = 0) σ (my_uI σ 498 0 0) := eqp_I eqp_rf ⟨rfl, rfl⟩
      have u1 : (my_uI σ 498 0 0).1 498 0 = 0 := uI_s
      generalize my_uI σ 498 0 0 = σ1 at f1 u1 ⊢
      have hN : isN (riN b) := (hB.2 b (List.mem_of_getElem? hb)).2.1
      have g571 : σ1.2.1 571 k = nmR (riN b) := ((f1 _ _ (by omega)).2.1).trans (ho.2 k b hb).2
      have hfin := hQ k b w σ1 hg hb hw hw2 u1 f1
      have h88 := hN.2
      rw [oN_n (by omega), g571, hw]
      refine ⟨bdk (by omega) (by omega), ?_⟩
      refine u_278 hN (by omega) ?_
      rw [my_kI_v]
      unfold lno at hfin
      refine my_if (fun c2 => ?_) (fun c2 => ?_)
      · have c2 := (oN_lt hw2 (by omega)).mp c2
        rw [g571]
        refine ⟨bdk (by omega) (by omega), ?_⟩
        refine u_279 hN c2 (by omega) ?_
        rw [my_kI_v]
        unfold ys_350_75
        rw [List.getElem?_eq_getElem c2] at hfin
        exact hfin
      · have c2 : ¬ w < (riN b).length := fun hh => c2 ((oN_lt hw2 (by omega)).mpr hh)
        unfold ys_350_75
        rw [List.getElem?_eq_none (by omega)] at hfin
        exact hfin
  refine ys_350 ?_
  unfold ys_350_0
  refine my_if (fun c => ?_) (fun c => ?_)
  · rw [gnO_neg c h42 4 0 0 (by omega)] at st
    exact st
  · refine r_351b h1 hB h8.2.2.1 (fun k a ha => (h8.2.1 k a ha).2.1) ho (by omega) ?_
    rw [my_kI_v]
    exact st
theorem OLC_o {F : Nat → Nat → Prop} {σ' : my_S} (h : OLC Bs I' ol σ) (he : eqp F σ σ') (hF : ∀ c k, F c k → ¬ (ol ≤ c ∧ c < ol + 130) ∧ (c = 32 → k ≠ 10 ∧ k ≠ 8)) : OLC Bs I' ol σ' := by
  have e1 : σ'.1 32 10 = σ.1 32 10 := eqp_g he (fun hh => ((hF _ _ hh).2 rfl).1 rfl)
  rcases h with ⟨h1, h2⟩ | ⟨h1, h2, h3, h4, h5, h6⟩
  · exact Or.inl ⟨by rw [e1]; exact h1, h2⟩
  · exact Or.inr ⟨by rw [e1]; exact h1, ((he _ _ (fun hh => ((hF _ _ hh).2 rfl).2 rfl)).2.2).trans h2, h3, h4, h5, RevC_o h5 h6 he (fun c k hh => (hF c k hh).1)⟩
theorem OLR_o {F : Nat → Nat → Prop} {σ' : my_S} (h : OLR Bs σ) (he : eqp F σ σ') (hF : ∀ c k, F c k → (c = 498 → k ≠ 124) ∧ c ≠ 570 ∧ c ≠ 571) : OLR Bs σ' := ⟨(eqp_g he (fun hh => (hF _ _ hh).1 rfl rfl)).trans h.1, fun j b hb => ⟨(eqp_g he (fun hh => (hF _ _ hh).2.1 rfl)).trans (h.2 j b hb).1, ((he _ _ (fun hh => (hF _ _ hh).2.2 rfl)).2.1).trans (h.2 j b hb).2⟩⟩
theorem l_7b (h : LD As I rv σ) (hB : itsB Bs) (hol : ol = 108 ∨ ol = 238 ∨ ol = 368) (ho : OLC Bs I' ol σ) (hr : OLR Bs σ) (hκ : 1 ≤ κ.2.1 ∧ 6 ≤ κ.2.2) (b1 : my_bd (v4 + 1) e.2.1) (b2 : my_bd (v4 + 2) e.2.1) (hn : ∀ κ' σ', (κ' = κ ∨ κ' = (κ.1 + 1, κ.2.1 - 1, κ.2.2 - 6)) → eqp rtF σ σ' → ys_law_1663 e 1049 v4 κ' σ' Q) : ys_law_529 e 1049 v4 κ σ Q := by
  unfold ys_law_529
  refine ⟨b1, b2, ys_382 ?_⟩
  unfold ys_382_0
  generalize e.2.2 (v4 + 1 : Int32).toNatClampNeg = x1
  generalize e.2.2 (v4 + 2 : Int32).toNatClampNeg = x2
  refine c_21b h ho hκ (by omega) (fun hb => ?_) (fun k b w hk hkb hw hw2 => ?_)
  · rw [my_kI_x, if_neg (show ¬ (15 : Nat) = 13 by decide), if_pos rfl, my_kI_v]
    refine ⟨b1, b2, r_350b h hB hr (by omega) (fun _ σ1 u1 f1 => ?_) (fun k b w σ1 hk _ hw hw2 => ?_)⟩
    · rw [my_kI_v]
      refine r_213 ?_
      rw [my_kI_v, u1, if_pos rfl, if_neg (by decide)]
      unfold ys_law_594
      exact hn _ σ1 (Or.inr rfl) (eqp_mo f1 (fun _ _ => Or.inl))
    · exfalso
      rcases hb with hb | hb
      · rw [hk] at hb; cases hb
      · rw [hw] at hb; exact absurd hb (oN_0 hw2)
  · rw [my_kI_v, my_kI_v]
    generalize hy : lno (riN b) w = y
    have f0 : eqp rtF σ (my_uL σ 585 0 y.toInt64) := eqp_L eqp_rf (Or.inr ⟨rfl, rfl⟩)
    have u0 : (my_uL σ 585 0 y.toInt64).2.1 585 0 = y.toInt64 := by
      rw [my_uL_2, if_pos ⟨rfl, rfl⟩]
    generalize my_uL σ 585 0 y.toInt64 = σ0 at f0 u0 ⊢
    have h' : LD As I rv σ0 := LD_o (LD_30 h) h f0 (fun c k hh => by
      have := h.2.2.1
      unfold rtF at hh
      unfold coF
      omega)
    have hr' : OLR Bs σ0 := OLR_o hr f0 (fun c k hh => by unfold rtF at hh; omega)
    refine ⟨b1, b2, r_350b h' hB hr' (by omega) (fun hb => ?_) (fun k' b' w' σ1 hk' hkb' hw' hw2' u1 f1 => ?_)⟩
    · exfalso
      rcases hb with hb | hb
      · rw [hk] at hb; cases hb
      · rw [hw] at hb; exact absurd hb (oN_0 hw2)
    · rw [hk] at hk'
      cases hk'
      rw [hkb] at hkb'
      cases hkb'
      have hww : w' = w := by
        rw [hw] at hw'
        exact ((oN_e hw2 hw2').mp hw').symm
      subst hww
      rw [my_kI_v]
      refine r_213 ?_
      rw [my_kI_v, u1, if_pos rfl, if_pos rfl, hy]
      have u2 : σ1.2.1 585 0 = y.toInt64 := by rw [← u0]; exact (f1 _ _ (by omega)).2.1
      rw [if_pos (lg_cmp_0.mpr u2)]
      unfold ys_law_594
      exact hn _ σ1 (Or.inl rfl) (eqp_tr f0 (eqp_mo f1 (fun _ _ => Or.inl)))
end MKI
