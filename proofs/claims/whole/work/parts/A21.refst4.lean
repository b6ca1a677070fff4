/-! ===== the reference: locals, the ends of blocks ===== -/
/-- the names of the items so far -/
def rnm (NL : List (List Nat)) (σ : my_S) : Prop := σ.1 498 11 = Int32.ofNat NL.length ∧ NL.length ≤ 42 ∧ (∀ l ∈ NL, isN l) ∧ ∀ j l, NL[j]? = some l → σ.2.1 502 j = nmR l
theorem rnm_o {F : Nat → Nat → Prop} {NL : List (List Nat)} {σ σ' : my_S} (h : rnm NL σ) (he : eqp F σ σ') (hF : ∀ c k, F c k → (c = 498 → k ≠ 11) ∧ c ≠ 502) : rnm NL σ' :=
  ⟨((he 498 11 (fun hh => (hF _ _ hh).1 rfl rfl)).1).trans h.1, h.2.1, h.2.2.1, fun j l hj => ((he 502 j (fun hh => (hF _ _ hh).2 rfl)).2.1).trans (h.2.2.2 j l hj)⟩
theorem rnm_s {NL : List (List Nat)} {σ σ' : my_S} (h : rnm NL σ) (he : eqp sF σ σ') : rnm NL σ' := rnm_o h he (fun c k hh => by unfold sF eF at hh; omega)
theorem kwi_ap {l own : List Nat} : ∀ {K : List (List Nat)} {j : Nat}, kwi (K ++ [own]) l j = none ↔ kwi K l j = none ∧ l ≠ own
  | [], j => by
    show (if own = l then some j else none) = none ↔ _
    by_cases h : own = l
    · rw [if_pos h]; simp [h]
    · rw [if_neg h]; simp [kwi]; exact fun hh => h hh.symm
  | a :: K, j => by
    show (if a = l then some j else kwi (K ++ [own]) l (j + 1)) = none ↔ (if a = l then some j else kwi K l (j + 1)) = none ∧ _
    by_cases h : a = l
    · rw [if_pos h, if_pos h]; simp
    · rw [if_neg h, if_neg h]; exact kwi_ap
section MSW
variable {e : my_E} {d : Nat} {κ : my_K} {Q : my_O → my_K → my_S → Prop} {t : Nat → Int32} {n : Nat} {L : List (List Nat)}
theorem r_226l {NL : List (List Nat)} {l : List Nat} {σ : my_S} (hl : isN l) (h : rnm NL σ) : ∀ (m j : Nat), j + m = NL.length → Q (.inl (some (.inl (ixO (kwi (NL.drop j) l j))))) κ σ → ys_226_2 e d (nmR l) (Int32.ofNat j) κ σ Q := by
  intro m
  obtain ⟨h1, h2, h3, h4⟩ := h
  induction m with
  | zero =>
    intro j hj hQ
    unfold ys_226_2
    rw [h1, if_neg (fun hh => absurd ((oN_lt (by omega) (by omega)).mp hh) (by omega))]
    rw [List.drop_eq_nil_of_le (by omega)] at hQ
    exact hQ
  | succ m ih =>
    intro j hj hQ
    have hjl : j < NL.length := by omega
    unfold ys_226_2
    rw [h1, if_pos ((oN_lt (by omega) (by omega)).mpr hjl), oN_n (by omega), h4 j NL[j] (List.getElem?_eq_getElem hjl)]
    refine ⟨⟨by rw [oN_i (by omega)]; omega, by rw [oN_i (by omega)]; omega⟩, ?_⟩
    rw [List.drop_eq_getElem_cons hjl] at hQ
    unfold kwi at hQ
    by_cases hh : NL[j] = l
    · rw [if_pos (lg_cmp_0.mpr (by rw [hh]))]
      rw [if_pos hh] at hQ
      exact hQ
    · rw [if_neg (fun h5 => hh ((nmR_inj (h3 _ (List.getElem_mem hjl)) hl).mp (lg_cmp_0.mp h5))), oN_s]
      rw [if_neg hh] at hQ
      exact ys_226_2_ok (ih (j + 1) (by omega) hQ)
theorem r_226 {NL : List (List Nat)} {l : List Nat} {σ : my_S} (hl : isN l) (h : rnm NL σ) (hd : 1 ≤ d) (hQ : Q (.inl (some (.inl (ixO (kwi NL l 0))))) κ σ) : my_M e d 226 [.inr (.inr (some 498)), .inr (.inl (nmR l))] κ σ Q := by
  obtain ⟨d, rfl⟩ := dS 1 hd
  refine ys_226 ?_
  unfold ys_226_0
  exact ys_226_2_ok (r_226l hl h NL.length 0 (by omega) hQ)
theorem ixO_lt {x : Option Nat} (h : ∀ i, x = some i → i < 2147483648) : ixO x < 0 ↔ x = none := by
  cases x with
  | none => simp [ixO]
  | some i => exact ⟨fun hh => absurd hh (oN_0 (h i rfl)), fun hh => by cases hh⟩
/-- a new local -/
def xnl (t : Nat → Int32) (n : Nat) (L Nf : List (List Nat)) (most : Nat) (X : Xs) : Xs := match X with
  | .inl a => .inl a
  | .inr (p, o, R) => if nwL t n L Nf most p = true then .inr (nx t n p, o, R) else .inl (p, R.length)
theorem bX_nl {N most : Nat} {Nf : List (List Nat)} {X : Xs} (ht : txt t n) (hN : N ≤ 1000) (h : bX n N X) : bX n N (xnl t n L Nf most X) := by
  rcases X with ⟨q, m⟩ | ⟨p, o, R⟩
  · exact h
  · obtain ⟨h1, h2, h3⟩ := h
    have := nx_le ht h2
    unfold xnl
    exact my_ite (P := bX n N) (fun ho => ⟨h1, this.2, by omega⟩) (fun _ => bX_f ht hN h2 h3)
def nlF (c k : Nat) : Prop := eF c k ∨ c = 516
theorem nlF_s {c k : Nat} (h : nlF c k) : sF c k := by unfold nlF eF at h; unfold sF eF; omega
theorem r_237 {NL : List (List Nat)} {own : List Nat} {N most : Nat} {X : Xs} {σ : my_S} {y : Int32} (ht : txt t n) (hd : 5 ≤ d) (hm : most ≤ 10) (hy : y = Int32.ofNat most) (hb : bX n N X) (hNm : rnm NL σ) (ho : isN own ∧ σ.2.1 498 31 = nmR own) (hL : L.length ≤ most) (h : RM t n L X σ) (hQ : ∀ σ', RM t n L (xnl t n L (NL ++ [own]) most X) σ' → (∀ p o R, X = .inr (p, o, R) → nwL t n L (NL ++ [own]) most p = true → σ'.2.1 516 L.length = nmR (tkm t n p)) → eqp nlF σ σ' → Q (.inl none) κ σ') : my_M e d 237 [.inr (.inr (some 498)), .inl y] κ σ Q := by
  obtain ⟨d, rfl⟩ := dS 1 (show 1 ≤ d by omega)
  refine ys_237 ?_
  unfold ys_237_0
  have zz : ∀ (q : Nat) (m : Nat) (σ1 : my_S), q ≤ 1500 → RF t n q m σ1 → Q (.inl none) κ σ1 → ys_237_65 e d κ σ1 Q := fun q m σ1 hq hF hh => by
    unfold ys_237_65 ys_237_89
    rw [if_neg (RF_lt hF (by omega))]
    exact hh
  rcases X with ⟨q, m⟩ | ⟨p, o, R⟩
  · have hq := hb.1
    rw [if_neg (RF_lt h (by omega))]
    exact zz q m σ hq h (hQ σ h (fun _ _ _ hh => by cases hh) eqp_rf)
  · have hn := ht.1
    obtain ⟨W, h⟩ := h
    obtain ⟨b1, b2, b3⟩ := hb
    rw [h.2.1, if_pos fNo_lt]
    have hrl := h.2.2.2.2.2
    have T := tkq (p := p) ht 2 (by omega) (RE_tok h) (y := 2) rfl
    unfold xnl at hQ
    simp only [] at hQ
    have bad : ¬ (tkk t n p = 2 ∧ kwi (NL ++ [own]) (tkm t n p) 0 = none ∧ kwi L (tkm t n p) 0 = none ∧ L.length < most) → ys_237_57 e d κ σ Q := fun hh => by
      have hh2 : ¬ nwL t n L (NL ++ [own]) most p = true := fun h2 => hh (nwL_t.mp h2)
      rw [if_neg hh2] at hQ
      unfold ys_237_57
      rw [RE_pl h]
      obtain ⟨d, rfl⟩ := dS 1 (show 1 ≤ d by omega)
      refine RE_bad (q := p) (N := R.length) h (Nat.le_refl _) (fun σ2 g2 _ _ f2 => ?_)
      rw [my_k0_v]
      exact zz p _ σ2 (by omega) g2 (hQ σ2 g2 (fun p' o' R' hX hnw => by cases hX; exact absurd hnw hh2) (eqp_mo f2 (fun _ _ => Or.inl)))
    refine my_if (fun h2 => ?_) (fun h2 => bad (fun hh => h2 (T.mpr hh.1)))
    have h2 := T.mp h2
    have hN := (tk2_N h2 ht).1
    have h8 : σ.2.1 498 8 = nmR (tkm t n p) := h.1.2.2.2.2.2.2.1 h2
    rw [h8]
    refine r_226 hN hNm (by omega) ?_
    rw [my_kI_v]
    have hNL := hNm.2.1
    refine my_if (fun hi => ?_) (fun hi => ?_)
    · rw [ixO_lt (fun i hi => by have := kwi_lt hi; omega)] at hi
      rw [ho.2, h8]
      refine my_if (fun hc => bad (fun hh => ?_)) (fun hc => ?_)
      · have := (kwi_ap.mp hh.2.1).2
        exact this ((nmR_inj hN ho.1).mp (lg_cmp_0.mp hc))
      · have hne : tkm t n p ≠ own := fun hh => hc (lg_cmp_0.mpr (by rw [hh]))
        obtain ⟨d, rfl⟩ := dS 1 (show 1 ≤ d by omega)
        refine r_238 hN hrl ?_
        rw [my_kI_v]
        have hL10 := hrl.2.1
        cases hkw : kwi L (tkm t n p) 0 with
        | some j =>
          have hj := kwi_lt hkw
          show if Int32.ofNat j < 0 then _ else _
          rw [if_neg (oN_0 (by omega))]
          exact bad (fun hh => by rw [hh.2.2.1] at hkw; cases hkw)
        | none =>
          show if Int32.ofInt (-1) < 0 then _ else _
          rw [if_pos (by decide), hrl.1, hy]
          refine my_if (fun hm2 => bad (fun hh => ?_)) (fun hm2 => ?_)
          · have := (oN_e (by omega) (by omega)).mp hm2
            omega
          · have hlt : L.length < most := by
              rcases Nat.lt_or_ge L.length most with h | h
              · exact h
              · exact absurd (by rw [show L.length = most by omega]) hm2
            have hnw : nwL t n L (NL ++ [own]) most p = true := nwL_t.mpr ⟨h2, kwi_ap.mpr ⟨hi, hne⟩, hkw, hlt⟩
            rw [if_pos hnw] at hQ
            unfold ys_237_65 ys_237_89
            rw [h.2.1, if_pos fNo_lt, hrl.1, oN_n (by omega), h8]
            refine ⟨⟨by rw [oN_i (by omega)]; omega, by rw [oN_i (by omega)]; omega⟩, ?_⟩
            have he : eqp (fun c k => c = 516 ∧ k = L.length) σ (my_uL σ 516 L.length (nmR (tkm t n p))) := eqp_L eqp_rf ⟨rfl, rfl⟩
            have h' : RE t n L R W p o (my_uL σ 516 L.length (nmR (tkm t n p))) := by
              obtain ⟨c1, c2, c3, c4, c5, c6⟩ := h
              refine ⟨rfT_o c1 he (fun c k hh => by omega), (eqp_g he (by omega)).trans c2, (eqp_g he (by omega)).trans c3, rws_o c4 he (fun c k hh => by omega), wts_o c5 he (fun c k hh => by omega), ⟨(eqp_g he (by omega)).trans c6.1, c6.2.1, c6.2.2.1, fun j l hj => ?_⟩⟩
              have hjl : j < L.length := by
                by_cases hh : j < L.length
                · exact hh
                · rw [List.getElem?_eq_none (by omega)] at hj; cases hj
              exact ((he 516 j (by omega)).2.1).trans (c6.2.2.2 j l hj)
            obtain ⟨d, rfl⟩ := dS 2 (show 2 ≤ d by omega)
            refine RE_next ht h' (fun σ2 g2 f2 => ?_)
            rw [my_k0_v]
            refine hQ σ2 ⟨W, g2⟩ (fun p' o' R' hX _ => ?_) (eqp_tr (eqp_mo he (fun c k hh => Or.inr hh.1)) (eqp_mo f2 (fun _ _ => Or.inl)))
            cases hX
            rw [(f2 516 L.length (by unfold eF; omega)).2.1, my_uL_2, if_pos ⟨rfl, rfl⟩]
    · rw [ixO_lt (fun i hi => by have := kwi_lt hi; omega)] at hi
      exact bad (fun hh => hi (kwi_ap.mp hh.2.1).1)
end MSW
