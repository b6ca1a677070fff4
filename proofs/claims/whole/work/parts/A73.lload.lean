
/-! ===== load, the law's ===== -/
/-- what is loaded comes of a text -/
def LOf (As : List Ri) (I : List It) : Prop := ∃ t n, txt t n ∧ pis t n 43 [] 0 (ps t n 0) = .inr As ∧ itsB As ∧ iRel As I ∧ tmA I As none none
section MLL
variable {e : my_E} {κ : my_K} {σ : my_S} {Q : my_O → my_K → my_S → Prop} {t : Nat → Int32} {n : Nat} {rv : Nat} {v4 : Int32}
theorem l_2 {m0 l0 : Nat} (ht : txt t n) (hxC : txC t n σ) (hxR : txR t n σ) (hwC : kwC σ) (hwR : kwR σ) (hκ : 1 ≤ κ.2.1 ∧ 6 ≤ κ.2.2) (hrv : rv = 108 ∨ rv = 238 ∨ rv = 368) (h9 : σ.2.2 32 9 = some rv) (hrf : ∀ k, k < 42 → σ.2.2 (rv + 2) k = some (rv + 4 + 3 * k)) (hm0 : (if σ.1 498 65 = 0 then 0 else σ.1 498 49) = Int32.ofNat m0) (hm48 : m0 ≤ 48) (hl0 : σ.1 498 57 = Int32.ofNat l0) (hl20 : l0 ≤ 20000)
    (hn1 : ∀ κ' σ', (κ' = κ ∨ κ' = (κ.1 + 1, κ.2.1 - 1, κ.2.2 - 6)) → σ'.1 33 1 = 0 → σ'.1 498 2 = 0 → eqp (fun c k => clF rv c k ∨ ldF c k) σ σ' → ys_law_1663 e 1049 v4 κ' σ' Q)
    (hn2 : ∀ As I σ', LOf As I → RevC I As rv σ' → NowR I As σ' → OldR m0 l0 σ σ' → σ'.1 33 1 = 0 → σ'.1 498 2 = 0 → σ'.2.2 32 7 = some rv → σ'.2.2 32 8 = σ.2.2 32 7 → σ'.2.2 32 9 = σ.2.2 32 8 → σ'.1 32 10 = σ.1 32 10 + 1 → σ'.1 32 11 = 0 → σ'.1 62 2 = 0 → σ'.1 62 4 = 0 → σ'.1 498 65 = σ.1 498 65 + 1 → σ'.1 498 107 = Int32.ofInt (-1) → σ'.1 498 133 = 0 → eqp (fun c k => clG rv c k ∨ lgF c k) σ σ' → ys_law_1663 e 1049 v4 κ σ' Q) : ys_law_244 e 1049 v4 κ σ Q := by
  unfold ys_law_244
  have cR : ∀ {σ1 : my_S}, eqp (clG rv) σ σ1 → txR t n σ1 ∧ kwR σ1 ∧ (if σ1.1 498 65 = 0 then 0 else σ1.1 498 49) = Int32.ofNat m0 ∧ σ1.1 498 57 = Int32.ofNat l0 := fun {σ1} f => by
    have g : ∀ {c k}, 498 ≤ c → ¬ clG rv c k := fun h hh => by unfold clG clF at hh; omega
    refine ⟨⟨(eqp_g f (g (by omega))).trans hxR.1, fun j hj => (eqp_g f (g (by omega))).trans (hxR.2 j hj)⟩, fun j hj => ((f _ _ (g (by omega))).2.1).trans (hwR j hj), ?_, (eqp_g f (g (by omega))).trans hl0⟩
    rw [eqp_g f (g (show 498 ≤ 498 by omega)), eqp_g f (g (show 498 ≤ 498 by omega))]
    exact hm0
  have clr : ∀ {σ1 : my_S}, eqp (clF rv) σ σ1 → eqp (clG rv) σ σ1 := fun f => eqp_mo f (fun _ _ => Or.inl)
  have nld : ∀ {c k}, ldF c k → 498 ≤ c := fun hh => by unfold ldF at hh; omega
  have nlg : ∀ {c k}, lgF c k → 498 ≤ c := fun hh => by unfold lgF ldF coF olF at hh; omega
  refine c_load ht hxC hwC hκ (by omega) hrv h9 hrf (fun q σ1 hq z1 f1 => ?_) (fun As I q σ1 hq hB hrel hmA z1 f1 => ?_) (fun As I σ1 hq hB hrel hmA hRev z1 a7 a8 a9 a10 a11 b2 b4 f1 => ?_)
  · rw [my_kI_v]
    obtain ⟨r1, r2, r3, r4⟩ := cR (clr f1)
    refine t_load (I := []) ht r1 r2 (by omega) r3 hm48 r4 hl20 (fun As hA => by rw [hq] at hA; cases hA) (fun As hA => by rw [hq] at hA; cases hA) (fun q' σ2 hq' _ z2 f2 => ?_) (fun As q' σ2 hA => by rw [hq] at hA; cases hA) (fun As σ2 hA => by rw [hq] at hA; cases hA)
    rw [hq] at hq'
    cases hq'
    rw [my_kI_v, if_pos rfl]
    exact hn1 _ σ2 (Or.inr rfl) ((eqp_g f2 (fun hh => by have := nld hh; omega)).trans z1) z2 (eqp_tr (eqp_mo f1 (fun _ _ => Or.inl)) (eqp_mo f2 (fun _ _ => Or.inr)))
  · rw [my_kI_v]
    obtain ⟨r1, r2, r3, r4⟩ := cR (clr f1)
    have uA : ∀ {As'}, pis t n 43 [] 0 (ps t n 0) = .inr As' → As' = As := fun hA => by rw [hq] at hA; exact (Sum.inr.inj hA).symm
    refine t_load (I := I) ht r1 r2 (by omega) r3 hm48 r4 hl20 (fun As' hA => by rw [uA hA]; exact hrel) (fun As' hA hT => by rw [uA hA] at hT; have := hmA _ hT; cases this) (fun q' σ2 hA => by rw [hq] at hA; cases hA) (fun As' q' σ2 hA hT _ z2 f2 => ?_) (fun As' σ2 hA _ hT => by rw [uA hA] at hT; have := hmA _ hT; cases this)
    rw [uA hA] at hT
    have := hmA _ hT
    cases this
    rw [my_kI_v, if_pos rfl]
    exact hn1 _ σ2 (Or.inl rfl) ((eqp_g f2 (fun hh => by have := nld hh; omega)).trans z1) z2 (eqp_tr (eqp_mo f1 (fun _ _ => Or.inl)) (eqp_mo f2 (fun _ _ => Or.inr)))
  · rw [my_kI_v]
    obtain ⟨r1, r2, r3, r4⟩ := cR f1
    have uA : ∀ {As'}, pis t n 43 [] 0 (ps t n 0) = .inr As' → As' = As := fun hA => by rw [hq] at hA; exact (Sum.inr.inj hA).symm
    refine t_load (I := I) ht r1 r2 (by omega) r3 hm48 r4 hl20 (fun As' hA => by rw [uA hA]; exact hrel) (fun As' hA hT => ?_) (fun q' σ2 hA => by rw [hq] at hA; cases hA) (fun As' q' σ2 hA hT => by rw [uA hA] at hT; have := hmA _ hT; cases this) (fun As' σ2 hA _ hT n2 o2 z2 u65 u107 u133 f2 => ?_)
    · rw [uA hA]
      refine ⟨hRev.2.2.2.1, fun a ha => ?_⟩
      obtain ⟨j, hj⟩ := List.getElem?_of_mem ha
      by_cases h2 : 2 ≤ riF a
      · exact ((hRev.2.2.2.2 j a hj).2.2.2 h2).2.2.2.2.2.1
      · unfold ndF; rw [if_pos (by omega)]; simp
    · rw [uA hA] at hT n2
      rw [my_kI_v, if_pos rfl]
      have g : ∀ {c k}, c < 498 → ¬ lgF c k := fun h hh => by have := nlg hh; omega
      have gc : ∀ {c k}, 498 ≤ c → ¬ clG rv c k := fun h hh => by unfold clG clF at hh; omega
      refine hn2 As I σ2 ⟨t, n, ht, hq, hB, hrel, hT⟩ (RevC_o hrel hRev f2 (fun c k hh => by have := nlg hh; omega)) n2 (OldR_s o2 (fun j => ⟨eqp_g f1 (gc (by omega)), (f1 _ _ (gc (by omega))).2.1, eqp_g f1 (gc (by omega)), eqp_g f1 (gc (by omega)), eqp_g f1 (gc (by omega))⟩)) ((eqp_g f2 (g (by omega))).trans z1) z2 (((f2 _ _ (g (by omega))).2.2).trans a7) (((f2 _ _ (g (by omega))).2.2).trans a8) (((f2 _ _ (g (by omega))).2.2).trans a9) ((eqp_g f2 (g (by omega))).trans a10) ((eqp_g f2 (g (by omega))).trans a11) ((eqp_g f2 (g (by omega))).trans b2) ((eqp_g f2 (g (by omega))).trans b4) ?_ u107 u133 (eqp_tr (eqp_mo f1 (fun _ _ => Or.inl)) (eqp_mo f2 (fun _ _ => Or.inr)))
      rw [u65, eqp_g f1 (gc (by omega))]
end MLL
