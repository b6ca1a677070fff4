
/-! ===== the reference loads: all of it ===== -/
/-- what reading changes; what loading changes -/
def ldF (c k : Nat) : Prop := (c = 498 ∧ (k = 0 ∨ k = 2 ∨ (4 ≤ k ∧ k ≤ 47))) ∨ (501 ≤ c ∧ c ≤ 528)
def lgF (c k : Nat) : Prop := ldF c k ∨ coF c k ∨ olF c k ∨ (c = 498 ∧ (k = 65 ∨ k = 107 ∨ k = 133))
section MRM
variable {e : my_E} {d : Nat} {κ : my_K} {σ : my_S} {Q : my_O → my_K → my_S → Prop} {I : List It} {t : Nat → Int32} {n : Nat}
theorem OldR_o {F : Nat → Nat → Prop} {m l : Nat} {σ0 σ σ' : my_S} (h : OldR m l σ0 σ) (he : eqp F σ σ') (hF : ∀ c k, F c k → ¬ olF c k) : OldR m l σ0 σ' := by
  obtain ⟨h1, h2, h3⟩ := h
  have g : ∀ {c k}, olF c k → ¬ F c k := fun h hh => hF _ _ hh h
  refine ⟨(eqp_g he (g (Or.inl ⟨rfl, rfl⟩))).trans h1, fun j hj => ?_, fun j hj => (eqp_g he (g (Or.inr (by omega)))).trans (h3 j hj)⟩
  obtain ⟨x1, x2, x3, x4⟩ := h2 j hj
  exact ⟨(eqp_g he (g (Or.inr (by omega)))).trans x1, ((he _ _ (g (Or.inr (by omega)))).2.1).trans x2, (eqp_g he (g (Or.inr (by omega)))).trans x3, (eqp_g he (g (Or.inr (by omega)))).trans x4⟩
theorem OldR_s {m l : Nat} {σ0 σ1 σ : my_S} (h : OldR m l σ1 σ) (he : ∀ j, σ1.1 529 j = σ0.1 529 j ∧ σ1.2.1 530 j = σ0.2.1 530 j ∧ σ1.1 531 j = σ0.1 531 j ∧ σ1.1 532 j = σ0.1 532 j ∧ σ1.1 535 j = σ0.1 535 j) : OldR m l σ0 σ := by
  obtain ⟨h1, h2, h3⟩ := h
  refine ⟨h1, fun j hj => ?_, fun j hj => (h3 j hj).trans (he j).2.2.2.2⟩
  obtain ⟨x1, x2, x3, x4⟩ := h2 j hj
  exact ⟨x1.trans (he j).1, x2.trans (he j).2.1, x3.trans (he j).2.2.1, x4.trans (he j).2.2.2.1⟩
theorem NowR_o {F : Nat → Nat → Prop} {As : List Ri} {σ' : my_S} (hB : itsB As) (hrel : iRel As I) (hn30 : ∀ a ∈ As, (ndF I a).length ≤ 30) (h : NowR I As σ) (he : eqp F σ σ') (hF : ∀ c k, F c k → ¬ coF c k) : NowR I As σ' := by
  obtain ⟨h1, h2, h3, h4, h5, h6, h7⟩ := h
  have g : ∀ {c k}, coF c k → ¬ F c k := fun h hh => hF _ _ hh h
  refine ⟨RBy_o h1 he (fun c k hh => ?_), fun k a ha => rnC_o hB hrel (hn30 a (List.mem_of_getElem? ha)) (h2 k a ha) he (fun c q hh => ?_), (eqp_g he (g (by unfold coF; omega))).trans h3, (eqp_g he (g (by unfold coF; omega))).trans h4, (eqp_g he (g (by unfold coF; omega))).trans h5, (eqp_g he (g (by unfold coF; omega))).trans h6, (eqp_g he (g (by unfold coF; omega))).trans h7⟩
  · have := hF c k hh
    unfold coF at this
    omega
  · have := hF c q hh
    unfold coF at this
    omega
theorem t_load {m0 l0 : Nat} (ht : txt t n) (hx : txR t n σ) (hw : kwR σ) (hd : 20 ≤ d) (hm0 : (if σ.1 498 65 = 0 then 0 else σ.1 498 49) = Int32.ofNat m0) (hm48 : m0 ≤ 48) (hl0 : σ.1 498 57 = Int32.ofNat l0) (hl20 : l0 ≤ 20000) (hI : ∀ As, pis t n 43 [] 0 (ps t n 0) = .inr As → iRel As I) (hlen : ∀ As, pis t n 43 [] 0 (ps t n 0) = .inr As → tmA I As none none → (ibA I 0 As).length ≤ 6144 ∧ ∀ a ∈ As, (ndF I a).length ≤ 30)
    (hf : ∀ q σ', pis t n 43 [] 0 (ps t n 0) = .inl q → q ≤ 1500 → σ'.1 498 2 = 0 → eqp ldF σ σ' → Q (.inl (some (.inl (Int32.ofNat q)))) κ σ')
    (hm : ∀ As q σ', pis t n 43 [] 0 (ps t n 0) = .inr As → tmA I As none (some q) → okM (some q) → σ'.1 498 2 = 0 → eqp ldF σ σ' → Q (.inl (some (.inl (5000 + Int32.ofNat q)))) κ σ')
    (hQ : ∀ As σ', pis t n 43 [] 0 (ps t n 0) = .inr As → itsB As → tmA I As none none → NowR I As σ' → OldR m0 l0 σ σ' → σ'.1 498 2 = 0 → σ'.1 498 65 = σ.1 498 65 + 1 → σ'.1 498 107 = Int32.ofInt (-1) → σ'.1 498 133 = 0 → eqp lgF σ σ' → Q (.inl (some (.inl (Int32.ofInt (-1))))) κ σ') : my_M e d 217 [.inr (.inr (some 498))] κ σ Q := by
  obtain ⟨d, rfl⟩ := dS 1 (show 1 ≤ d by omega)
  refine ys_217 ?_
  unfold ys_217_0
  have f1 : eqp (fun c k => c = 498 ∧ (k = 0 ∨ k = 9 ∨ k = 10 ∨ k = 11 ∨ k = 23 ∨ k = 6)) σ (my_uI (my_uI (my_uI (my_uI (my_uI (my_uI σ 498 0 0) 498 9 (Int32.ofInt (-1))) 498 10 0) 498 11 0) 498 23 0) 498 6 0) := eqp_I (eqp_I (eqp_I (eqp_I (eqp_I (eqp_I eqp_rf (by omega)) (by omega)) (by omega)) (by omega)) (by omega)) (by omega)
  have v9 : (my_uI (my_uI (my_uI (my_uI (my_uI (my_uI σ 498 0 0) 498 9 (Int32.ofInt (-1))) 498 10 0) 498 11 0) 498 23 0) 498 6 0).1 498 9 = fNo := by rw [my_uI_1, if_neg (by omega), my_uI_1, if_neg (by omega), my_uI_1, if_neg (by omega), my_uI_1, if_neg (by omega), uI_s]; rfl
  have v10 : (my_uI (my_uI (my_uI (my_uI (my_uI (my_uI σ 498 0 0) 498 9 (Int32.ofInt (-1))) 498 10 0) 498 11 0) 498 23 0) 498 6 0).1 498 10 = 0 := by rw [my_uI_1, if_neg (by omega), my_uI_1, if_neg (by omega), my_uI_1, if_neg (by omega), uI_s]
  have v11 : (my_uI (my_uI (my_uI (my_uI (my_uI (my_uI σ 498 0 0) 498 9 (Int32.ofInt (-1))) 498 10 0) 498 11 0) 498 23 0) 498 6 0).1 498 11 = 0 := by rw [my_uI_1, if_neg (by omega), my_uI_1, if_neg (by omega), uI_s]
  have v23 : (my_uI (my_uI (my_uI (my_uI (my_uI (my_uI σ 498 0 0) 498 9 (Int32.ofInt (-1))) 498 10 0) 498 11 0) 498 23 0) 498 6 0).1 498 23 = 0 := by rw [my_uI_1, if_neg (by omega), uI_s]
  have v6 : (my_uI (my_uI (my_uI (my_uI (my_uI (my_uI σ 498 0 0) 498 9 (Int32.ofInt (-1))) 498 10 0) 498 11 0) 498 23 0) 498 6 0).1 498 6 = 0 := uI_s
  generalize my_uI (my_uI (my_uI (my_uI (my_uI (my_uI σ 498 0 0) 498 9 (Int32.ofInt (-1))) 498 10 0) 498 11 0) 498 23 0) 498 6 0 = σ1 at f1 v9 v10 v11 v23 v6 ⊢
  have hx1 : txR t n σ1 := ⟨(eqp_g f1 (by omega)).trans hx.1, fun j hj => (eqp_g f1 (by omega)).trans (hx.2 j hj)⟩
  have hw1 : kwR σ1 := fun j hj => ((f1 _ _ (by omega)).2.1).trans (hw j hj)
  obtain ⟨d, rfl⟩ := dS 3 (show 3 ≤ d by omega)
  refine r_218f ht hx1 hw1 v6 (fun σ2 g2 f2 => ?_)
  rw [my_k0_v]
  have hp := ps_le ht 0
  have hR2 : RG t n (rwA []) (ps t n 0) 0 σ2 := ⟨g2, (eqp_g f2 (by unfold rnF; omega)).trans v9, (eqp_g f2 (by unfold rnF; omega)).trans v10, ⟨(eqp_g f2 (by unfold rnF; omega)).trans v23, fun j x hj => by simp [rwA] at hj⟩⟩
  have hI2 : RI [] σ2 := ⟨(eqp_g f2 (by unfold rnF; omega)).trans v11, trivial⟩
  have f12 : eqp ldF σ σ2 := eqp_tr (eqp_mo f1 (fun c k hh => by unfold ldF; omega)) (eqp_mo f2 (fun c k hh => by unfold rnF at hh; unfold ldF; omega))
  refine ys_217_36_ok (r_217l ht (by omega) 43 [] (ps t n 0) σ2 (by simp) ⟨by omega, hp, by simp [rwA]⟩ hR2 ⟨fun k => by simp [cnK], by simp⟩ hI2 (fun q N σ3 hq hq15 g3 f3 => ?_) (fun As p' σ3 hq g3 hB hRI hRl f3 => ?_))
  · -- a fault
    have hq : pis t n 43 [] 0 (ps t n 0) = .inl q := hq
    have f13 : eqp ldF σ σ3 := eqp_tr f12 (eqp_mo f3 (fun c k hh => by unfold isF sF eF at hh; unfold ldF; omega))
    unfold ys_217_67
    rw [g3.1, if_neg (oN_0 (by omega))]
    have e2 : (my_uI σ3 498 2 0).1 498 9 = Int32.ofNat q := by rw [my_uI_1, if_neg (by omega)]; exact g3.1
    rw [e2]
    exact hf q _ hq hq15 uI_s (eqp_I f13 (by unfold ldF; omega))
  · have hq : pis t n 43 [] 0 (ps t n 0) = .inr As := hq
    have f13 : eqp ldF σ σ3 := eqp_tr f12 (eqp_mo f3 (fun c k hh => by unfold isF sF eF at hh; unfold ldF; omega))
    have hrel := hI As hq
    have hn := ht.1
    have h42 := itsB_42 hB
    unfold ys_217_67
    rw [g3.2.1, if_pos (by decide)]
    have f4 : eqp (fun c k => c = 498 ∧ (k = 2 ∨ k = 44)) σ3 (my_uI (my_uI σ3 498 2 0) 498 44 (Int32.ofInt (-1))) := eqp_I (eqp_I eqp_rf (by omega)) (by omega)
    have u2 : (my_uI (my_uI σ3 498 2 0) 498 44 (Int32.ofInt (-1))).1 498 2 = 0 := by rw [my_uI_1, if_neg (by omega), uI_s]
    have u44 : (my_uI (my_uI σ3 498 2 0) 498 44 (Int32.ofInt (-1))).1 498 44 = Int32.ofInt (-1) := uI_s
    generalize my_uI (my_uI σ3 498 2 0) 498 44 (Int32.ofInt (-1)) = σ4 at f4 u2 u44 ⊢
    have hM4 : TM As (rwA As) σ4 := ⟨RI_o hB hRI f4 (fun c k hh => by omega), rws_o g3.2.2.2 f4 (fun c k hh => by omega)⟩
    have hT4 : TG none σ4 := ⟨u44, fun x hx => by cases hx⟩
    have f14 : eqp ldF σ σ4 := eqp_tr f13 (eqp_mo f4 (fun c k hh => by unfold ldF; omega))
    have hH := pis_H ht 43 [] 0 (ps t n 0) As hp rfl (fun k a hk => by simp at hk) hq
    refine ys_217_91_ok (t_217 (Hs := []) hB hrel rfl (by omega) hH (by omega) As 0 none σ4 rfl (by omega) hM4 hT4 (fun m σ5 w5 g5 hM5 f5 => ?_))
    have f15 : eqp ldF σ σ5 := eqp_tr f14 (eqp_mo f5 (fun c k hh => by unfold tyF at hh; unfold ldF; omega))
    have u5 : σ5.1 498 2 = 0 := (eqp_g f5 (by unfold tyF; omega)).trans u2
    unfold ys_217_91
    rw [hM5.1.1, if_neg (by rw [oN_lt (by omega) (by omega)]; omega), g5.1]
    cases m with
    | some q =>
      rw [if_neg (fun hh => by have := (mfI_lt g5.2).mp hh; cases this)]
      exact hm As q σ5 hq w5 g5.2 u5 f15
    | none =>
      rw [if_pos ((mfI_lt g5.2).mpr rfl)]
      obtain ⟨hl6, hn30⟩ := hlen As hq w5
      have k65 : σ5.1 498 65 = σ.1 498 65 := eqp_g f15 (by unfold ldF; omega)
      have k49 : σ5.1 498 49 = σ.1 498 49 := eqp_g f15 (by unfold ldF; omega)
      have k57 : σ5.1 498 57 = σ.1 498 57 := eqp_g f15 (by unfold ldF; omega)
      refine u_267 (m := m0) (l := l0) (by rw [k65, k49]; exact hm0) hm48 (by rw [k57]; exact hl0) hl20 (by omega) (fun σ6 o6 f6 => ?_)
      rw [my_k0_v]
      have hM6 : TM As (rwA As) σ6 := TM_p hB hM5 f6 (fun c k hh => by unfold olF at hh; omega)
      refine u_268 hB hrel rfl (by omega) hH (fun a ha h2 => ⟨(tmA_n w5).2 a ha h2, hn30 a ha⟩) (by omega) (by omega) hM6 (fun σ7 n7 f7 => ?_)
      rw [my_k0_v]
      have f8 : eqp (fun c k => c = 498 ∧ (k = 65 ∨ k = 107 ∨ k = 133)) σ7 (my_uI (my_uI (my_uI σ7 498 65 (σ7.1 498 65 + 1)) 498 107 (Int32.ofInt (-1))) 498 133 0) := eqp_I (eqp_I (eqp_I eqp_rf (by omega)) (by omega)) (by omega)
      have z65 : (my_uI (my_uI (my_uI σ7 498 65 (σ7.1 498 65 + 1)) 498 107 (Int32.ofInt (-1))) 498 133 0).1 498 65 = σ.1 498 65 + 1 := by
        rw [my_uI_1, if_neg (by omega), my_uI_1, if_neg (by omega), uI_s, eqp_g f7 (show ¬ coF 498 65 by unfold coF; omega), eqp_g f6 (show ¬ olF 498 65 by unfold olF; omega), k65]
      have z107 : (my_uI (my_uI (my_uI σ7 498 65 (σ7.1 498 65 + 1)) 498 107 (Int32.ofInt (-1))) 498 133 0).1 498 107 = Int32.ofInt (-1) := by rw [my_uI_1, if_neg (by omega), uI_s]
      have z133 : (my_uI (my_uI (my_uI σ7 498 65 (σ7.1 498 65 + 1)) 498 107 (Int32.ofInt (-1))) 498 133 0).1 498 133 = 0 := uI_s
      generalize my_uI (my_uI (my_uI σ7 498 65 (σ7.1 498 65 + 1)) 498 107 (Int32.ofInt (-1))) 498 133 0 = σ8 at f8 z65 z107 z133 ⊢
      refine hQ As σ8 hq hB w5 (NowR_o hB hrel hn30 n7 f8 (fun c k hh => by unfold coF; omega)) ?_ ?_ z65 z107 z133 ?_
      · refine OldR_o (OldR_o (OldR_s o6 (fun j => ?_)) f7 (fun c k hh => by unfold coF at hh; unfold olF; omega)) f8 (fun c k hh => by unfold olF; omega)
        exact ⟨eqp_g f15 (by unfold ldF; omega), (f15 _ _ (by unfold ldF; omega)).2.1, eqp_g f15 (by unfold ldF; omega), eqp_g f15 (by unfold ldF; omega), eqp_g f15 (by unfold ldF; omega)⟩
      · rw [eqp_g f8 (by omega), eqp_g f7 (by unfold coF; omega), eqp_g f6 (by unfold olF; omega)]
        exact u5
      · exact eqp_tr (eqp_mo f15 (fun c k hh => Or.inl hh)) (eqp_tr (eqp_mo f6 (fun c k hh => Or.inr (Or.inr (Or.inl hh)))) (eqp_tr (eqp_mo f7 (fun c k hh => Or.inr (Or.inl hh))) (eqp_mo f8 (fun c k hh => Or.inr (Or.inr (Or.inr hh))))))
end MRM
