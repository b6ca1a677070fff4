
/-! ===== the class reads items: parameters, heads ===== -/
def setP (I : List It) (cu c : Nat) (pt : Nat → Int32) : List It := I.set cu ((itA I cu).1, (itA I cu).2.1, (itA I cu).2.2.1, (itA I cu).2.2.2.1, Int32.ofNat c, pt)
theorem setP_f {I : List It} {cu c : Nat} {pt : Nat → Int32} (hcu : cu < I.length) : itA (setP I cu c pt) cu = ((itA I cu).1, (itA I cu).2.1, (itA I cu).2.2.1, (itA I cu).2.2.2.1, Int32.ofNat c, pt) ∧ (setP I cu c pt).length = I.length := by
  unfold setP
  rw [itA_set hcu, if_pos rfl, List.length_set]
  exact ⟨rfl, rfl⟩
theorem setP_P {I : List It} {cu c c' : Nat} {pt pt' : Nat → Int32} (hcu : cu < I.length) : setP (setP I cu c pt) cu c' pt' = setP I cu c' pt' := by
  have h := (setP_f (c := c) (pt := pt) hcu).1
  show (setP I cu c pt).set cu _ = _
  rw [h]
  unfold setP
  rw [List.set_set]
theorem nm_set {I : List It} {cu : Nat} {it : It} (hcu : cu < I.length) (h : it.1 = (itA I cu).1) : (I.set cu it).map (fun i => i.1) = I.map (fun i => i.1) := by
  apply List.ext_getElem?
  intro k
  rw [List.getElem?_map, List.getElem?_map]
  by_cases hk : k = cu
  · subst hk
    rw [List.getElem?_set_self hcu, itA_e hcu]
    simp [h]
  · rw [List.getElem?_set_ne (fun hh => hk hh.symm)]
theorem nF0_set {I : List It} {cu : Nat} {it : It} (hcu : cu < I.length) (h : it.1 = (itA I cu).1) : nF0 (I.set cu it) cu = nF0 I cu := by
  unfold nF0
  rw [nm_set hcu h]
theorem CLc_o {F : Nat → Nat → Prop} {L : List (List Nat)} {LT : Nat → Int32} {σ σ' : my_S} (h : CLc L LT σ) (he : eqp F σ σ') (hF : ∀ c k, F c k → (c = 39 → k ≠ 8) ∧ c ≠ 40 ∧ c ≠ 41) : CLc L LT σ' :=
  ⟨(eqp_g he (fun hh => (hF _ _ hh).1 rfl rfl)).trans h.1, h.2.1, h.2.2.1, fun j l hj => ((he _ _ (fun hh => (hF _ _ hh).2.1 rfl)).2.1).trans (h.2.2.2.1 j l hj), fun j hj => (eqp_g he (fun hh => (hF _ _ hh).2.2 rfl)).trans (h.2.2.2.2 j hj)⟩
theorem CU_f {F : Nat → Nat → Prop} {I I' : List It} {rv cu ck : Nat} {ls : Int32} {B : List Int32} {cF : Int32} {σ σ' : my_S} (h : CU I rv cu ck ls B cF σ) (hI : I'.length = I.length) (h42 : I.length ≤ 42) (he : eqp F σ σ') (hF : ∀ c k, F c k → (c = 39 → k ≠ 10 ∧ k ≠ 11 ∧ k ≠ 13) ∧ c ≠ 42 ∧ (∀ j, j < 42 → c = rv + 4 + 3 * j → k ≠ 3) ∧ (c = rv + 4 + 3 * cu → k ≠ 12)) : CU I' rv cu ck ls B cF σ' := by
  obtain ⟨h1, h2, ⟨h3, h4, h5⟩, h6, h7, h8⟩ := h
  have hcu : cu < 42 := by omega
  exact ⟨(eqp_g he (fun hh => by have := (hF _ _ hh).1 rfl; omega)).trans h1, (eqp_g he (fun hh => by have := (hF _ _ hh).1 rfl; omega)).trans h2, ⟨(eqp_g he (fun hh => by have := (hF _ _ hh).1 rfl; omega)).trans h3, h4, fun j x hj => (eqp_g he (fun hh => (hF _ _ hh).2.1 rfl)).trans (h5 j x hj)⟩, (eqp_g he (fun hh => (hF _ _ hh).2.2.2 rfl rfl)).trans h6, fun k hk => (eqp_g he (fun hh => (hF _ _ hh).2.2.1 k (by omega) rfl rfl)).trans (h7 k (by omega)), by omega⟩
section MCH
variable {e : my_E} {d : Nat} {κ : my_K} {σ : my_S} {Q : my_O → my_K → my_S → Prop} {t : Nat → Int32} {n p o : Nat} {I : List It} {w : Bool} {rv cu : Nat} {S : St}
/-- what parameters take -/
def prF (rv cu c k : Nat) : Prop := xF rv cu c k ∨ (c = 39 ∧ k = 8) ∨ c = 40 ∨ c = 41 ∨ (c = rv + 4 + 3 * cu ∧ k = 5) ∨ c = rv + 4 + 3 * cu + 1
theorem prF_x {c k : Nat} (h : xF rv cu c k) : prF rv cu c k := Or.inl h
theorem lF_p {c k : Nat} (hrv : rv = 108 ∨ rv = 238 ∨ rv = 368) (hcu : cu < 42) (h : prF rv cu c k) : lF rv c k := by unfold prF xF at h; unfold lF; omega
theorem CR_f {F : Nat → Nat → Prop} {L : List (List Nat)} {LT : Nat → Int32} {I' : List It} {S' : St} {p' o' : Nat} {σ' : my_S} (h : CR t n L LT I w rv cu S p o σ) (g : CR0 t n I' w rv cu S' p' o' σ') (he : eqp F σ σ') (hF : ∀ c k, F c k → (c = 39 → k ≠ 8) ∧ c ≠ 40 ∧ c ≠ 41) : CR t n L LT I' w rv cu S' p' o' σ' := CR_of g (CLc_o h.2.2.1.2.1 he hF)
theorem xF_l {c k : Nat} (hrv : rv = 108 ∨ rv = 238 ∨ rv = 368) (h : xF rv cu c k) : (c = 39 → k ≠ 8) ∧ c ≠ 40 ∧ c ≠ 41 := by unfold xF at h; omega
theorem x_206 {c : Nat} {a : Int32} (h : CR0 t n I w rv cu S p o σ) (hcu : cu < I.length) (hc : (itA I cu).2.2.2.2.1 = Int32.ofNat c) (hc4 : c < 4) (hd : 1 ≤ d) (hQ : ∀ σ', CR0 t n (setP I cu (c + 1) (fun j => if j = c then a else (itA I cu).2.2.2.2.2 j)) w rv cu S p o σ' → eqp (fun c' k => (c' = rv + 4 + 3 * cu ∧ k = 5) ∨ c' = rv + 4 + 3 * cu + 1) σ σ' → Q (.inl none) κ σ') : my_M e d 206 [.inr (.inr (some (rv + 4 + 3 * cu))), .inl a] κ σ Q := by
  obtain ⟨d, rfl⟩ := dS 1 hd
  have hrv := C0_rv h
  have hc42 := C0_c h
  obtain ⟨_, b1, b2, b3, b4, b5, b6, b7⟩ := CIm_it (C0_im h) hcu
  refine ys_206 (C0_11 h) ?_
  unfold ys_206_0 ys_206_39
  rw [b6, hc, if_neg (oN_0 (by omega)), if_pos ((oN_lt1 (b := 4) (c := 4) rfl (by omega) (by omega)).mpr hc4), oN_n (by omega), uI_o (by omega), b6, hc, oN_s]
  refine ⟨⟨by rw [oN_i (by omega)]; omega, by rw [oN_i (by omega)]; omega⟩, ?_⟩
  have he : eqp (fun c' k => (c' = rv + 4 + 3 * cu ∧ k = 5) ∨ (c' = rv + 4 + 3 * cu + 1 ∧ k = c)) σ (my_uI (my_uI σ (rv + 4 + 3 * cu + 1) c a) (rv + 4 + 3 * cu) 5 (Int32.ofNat (c + 1))) := eqp_I (eqp_I eqp_rf (by omega)) (by omega)
  refine hQ _ ?_ (eqp_mo he (fun c k hh => by omega))
  obtain ⟨h1, h2, ⟨a1, a2, ⟨a3, a4, a5, a6⟩, a7⟩, h4⟩ := h
  refine ⟨clT_o h1 he (fun c k hh => by omega), (eqp_g he (by omega)).trans h2, ⟨(eqp_g he (by omega)).trans a1, a2, ⟨((he _ _ (by omega)).2.2).trans a3, a4, ((he _ _ (by omega)).2.2).trans a5, a6⟩, CIm_set a7 he (fun c k hh => ⟨by omega, by omega, fun j hj hjc => ⟨by omega, by omega⟩⟩) ⟨b1, ((he _ _ (by omega)).2.1).trans b2, (eqp_g he (by omega)).trans b3, (eqp_g he (by omega)).trans b4, (eqp_g he (by omega)).trans b5, uI_s, fun j hj => ?_⟩⟩, CD_o h4 he (fun c k hh => by unfold dF; omega)⟩
  show _ = if j = c then a else (itA I cu).2.2.2.2.2 j
  by_cases hj' : j = c
  · rw [if_pos hj', hj', uI_o (by omega), uI_s]
  · rw [if_neg hj']
    exact (eqp_g he (by omega)).trans (b7 j hj)
/-- the parameters, as they are told -/
def ptI (I : List It) (cu : Nat) (T : List Int32) (pt : Nat → Int32) (LT : Nat → Int32) : Prop := (∀ j x, T[j]? = some x → pt j = x) ∧ (∀ j x, T[j]? = some x → LT j = x) ∧ ∀ j, T.length ≤ j → pt j = (itA I cu).2.2.2.2.2 j
theorem ptI_a {T : List Int32} {pt LT : Nat → Int32} {a : Int32} (h : ptI I cu T pt LT) : ptI I cu (T ++ [a]) (fun j => if j = T.length then a else pt j) (ltU LT T.length a) := by
  have key : ∀ (f : Nat → Int32), (∀ j x, T[j]? = some x → f j = x) → ∀ j x, (T ++ [a])[j]? = some x → (if j = T.length then a else f j) = x := fun f hf j x hj => by
    by_cases hjl : j < T.length
    · rw [List.getElem?_append_left hjl] at hj
      rw [if_neg (by omega)]
      exact hf j x hj
    · rw [List.getElem?_append_right (by omega)] at hj
      have hi0 : j - T.length = 0 := by
        by_cases h0 : j - T.length = 0
        · exact h0
        · rw [List.getElem?_eq_none (by simp; omega)] at hj
          cases hj
      rw [hi0] at hj
      simp only [List.getElem?_cons_zero, Option.some.injEq] at hj
      rw [if_pos (by omega)]
      exact hj
  exact ⟨key pt h.1, key LT h.2.1, fun j hj => by
    simp only [List.length_append, List.length_singleton] at hj
    show (if j = T.length then a else pt j) = _
    rw [if_neg (by omega)]
    exact h.2.2 j (by omega)⟩
theorem nwL_4 {L Nf : List (List Nat)} : nwL t n L Nf 4 p = true ↔ nwL t n L Nf 10 p = true ∧ L.length < 4 := by
  rw [nwL_t, nwL_t]
  constructor
  · intro h; exact ⟨⟨h.1, h.2.1, h.2.2.1, by omega⟩, h.2.2.2⟩
  · intro h; exact ⟨h.1.1, h.1.2.1, h.1.2.2.1, h.2⟩
/-- the end of the list -/
theorem y_72z {L : List (List Nat)} {LT : Nat → Int32} {ls cF : Int32} (ht : txt t n) (hκ : 1 ≤ κ.2.1 ∧ 6 ≤ κ.2.2) (hd : 7 ≤ d) (h : CR t n L LT I w rv cu S p 1 σ) (hU : CU I rv cu 0 ls [] cF σ) (hf : tkk t n p ≠ 41 → fL κ Q t n rv σ p) (hQ : ∀ σ', tkk t n p = 41 → CR t n L LT I w rv cu S (nx t n p) 0 σ' → CU I rv cu 0 ls [] cF σ' → eqp (xF rv cu) σ σ' → Q (.inl none) κ σ') : ys_72_134 e d κ σ Q := by
  unfold ys_72_134
  refine x_70 (o := 0) (k := 41) ht h (by omega) hκ (by omega) rfl (fun h41 σ1 g1 f1 => ?_) (fun h41 => ?_)
  · rw [my_k0_v]
    exact hQ σ1 h41 g1 (CU_x h hU f1) f1
  · exact hf h41 σ h.1 eqp_rf
/-- the loop -/
theorem y_72l {ls cF : Int32} {I0 : List It} {Nf : List (List Nat)} (ht : txt t n) (hκ : 1 ≤ κ.2.1 ∧ 6 ≤ κ.2.2) (hd : 9 ≤ d) (hcu : cu < I0.length) (hNf : nF0 I0 cu = Nf) : ∀ (f p : Nat) (L : List (List Nat)) (T : List Int32) (pt LT : Nat → Int32) (σ : my_S), L.length = T.length → L.length + f = 5 → 1 ≤ f → CR t n L LT (setP I0 cu T.length pt) w rv cu S p 1 σ → CU (setP I0 cu T.length pt) rv cu 0 ls [] cF σ → ptI I0 cu T pt LT →
    (∀ q, ppr t n Nf f p L T = .inl q → fL κ Q t n rv σ q) →
    (∀ L' T' q pt' LT' σ', ppr t n Nf f p L T = .inr (L', T', q) → CR t n L' LT' (setP I0 cu T'.length pt') w rv cu S q 0 σ' → CU (setP I0 cu T'.length pt') rv cu 0 ls [] cF σ' → ptI I0 cu T' pt' LT' → eqp (prF rv cu) σ σ' → Q (.inl none) κ σ') → ys_72_26 e d 1 (Int32.ofNat L.length) κ σ Q := by
  intro f
  induction f with
  | zero => intro p L T pt LT σ _ _ h; omega
  | succ f ih =>
    intro p L T pt LT σ hLT hLf _ h hU hp hf hQ
    have hrv := h.2.2.1.2.2.1.2.1
    have hc42 := h.2.2.1.2.2.1.2.2.2
    have h42 := h.2.2.1.2.2.2.2.1
    have hsl := (setP_f (c := T.length) (pt := pt) hcu).2
    have hsf := (setP_f (c := T.length) (pt := pt) hcu).1
    have hcuS : cu < (setP I0 cu T.length pt).length := by omega
    have hnf : nF0 (setP I0 cu T.length pt) cu = Nf := by unfold setP; refine Eq.trans (nF0_set hcu ?_) hNf; rfl
    unfold ys_72_26
    rw [if_neg (by decide), if_neg (by rw [show (4 : Int32) = Int32.ofNat 4 from rfl, oN_lt (by omega) (by omega)]; omega)]
    unfold ppr at hf hQ
    have bad : ¬ nwL t n L Nf 4 p = true → ys_72_52 e d (Int32.ofNat L.length) κ σ Q := fun hh => by
      rw [if_neg hh] at hf
      unfold ys_72_52 ys_72_53
      exact x_60 (by omega) hκ (fun h0 => absurd rfl h0) (fun _ => hf p rfl σ h.1 eqp_rf)
    refine my_if (fun h4 => ?_) (fun h4 => bad (fun hh => h4 ((oN_lt1 (b := 4) (c := 4) rfl (by omega) (by omega)).mpr (nwL_4.mp hh).2)))
    have h4 : L.length < 4 := (oN_lt1 (b := 4) (c := 4) rfl (by omega) (by omega)).mp h4
    refine x_73 ht h hU (by omega) ?_
    rw [my_kI_v, hnf]
    by_cases hnw : nwL t n L Nf 10 p = true
    · rw [hnw]
      show if (1 : Int32) = 0 then _ else _
      rw [if_neg (by decide)]
      have hnw4 := nwL_4.mpr ⟨hnw, h4⟩
      have h2 := (nwL_t.mp hnw).1
      rw [if_pos hnw4] at hf hQ
      have bp := nx_b (p := p) ht (by omega)
      unfold ys_72_53
      refine x_60 (by omega) hκ (fun _ => ?_) (fun h0 => absurd h0 (by decide))
      rw [my_k0_v, clT_nm ht h.1 h2]
      refine x_55 h (by omega) (fun σ1 g1 f1 => ?_)
      rw [my_k0_v]
      unfold pp2 at hf hQ
      refine x_62 (k := 58) ht g1 (by omega) hκ (by omega) rfl (fun h58 σ2 g2 f2 => ?_) (fun h58 => ?_)
      · rw [my_k0_v]
        rw [if_pos h58] at hf hQ
        have f02 := eqp_tr f1 f2
        refine z_63 ht (CR_0 g2) (by omega) hκ (fun a σ3 hty g3 f3 => ?_) (fun hty => ?_)
        · rw [my_kI_v]
          rw [hty] at hf hQ
          dsimp only at hf hQ
          have f03 := eqp_tr f02 f3
          have g3' : CR t n L LT (setP I0 cu T.length pt) w rv cu S (nx t n (nx t n (nx t n p))) 1 σ3 := CR_f g2 g3 f3 (fun c k hh => xF_l hrv hh)
          refine ⟨_, C0_2 g3, C0_11 g3, ?_⟩
          refine x_206 (c := T.length) (a := a) g3 hcuS (by rw [hsf]) (by omega) (by omega) (fun σ4 g4 f4 => ?_)
          rw [my_k0_v]
          rw [setP_P hcu, hsf] at g4
          have g4' : CR t n L LT (setP I0 cu (T.length + 1) (fun j => if j = T.length then a else pt j)) w rv cu S (nx t n (nx t n (nx t n p))) 1 σ4 := CR_f g3' g4 f4 (fun c k hh => by omega)
          have hU4 : CU (setP I0 cu (T.length + 1) (fun j => if j = T.length then a else pt j)) rv cu 0 ls [] cF σ4 := CU_f (CU_x h hU f03) (by rw [(setP_f hcu).2, hsl]) h42 f4 (fun c k hh => ⟨by omega, by omega, fun j hj => by omega, by omega⟩)
          refine x_75 (l := tkm t n p) (a := a) (tk2_N h2 ht).1 g4' (by omega) (by omega) (fun σ5 g5 f5 => ?_)
          rw [my_k0_v]
          have hU5 : CU (setP I0 cu (T.length + 1) (fun j => if j = T.length then a else pt j)) rv cu 0 ls [] cF σ5 := CU_f hU4 rfl (by rw [(setP_f hcu).2, ← hsl]; exact h42) f5 (fun c k hh => ⟨by omega, by omega, fun j hj => by omega, by omega⟩)
          have f05 : eqp (prF rv cu) σ σ5 := eqp_tr (eqp_tr (eqp_mo f03 (fun _ _ => prF_x)) (eqp_mo f4 (fun c k hh => by unfold prF xF; omega))) (eqp_mo f5 (fun c k hh => by unfold prF xF; omega))
          have fl5 : eqp (lF rv) σ σ5 := eqp_mo f05 (fun c k hh => lF_p hrv hc42 hh)
          have hp5 : ptI I0 cu (T ++ [a]) (fun j => if j = T.length then a else pt j) (ltU LT L.length a) := by rw [hLT]; exact ptI_a hp
          have e1 : (T ++ [a]).length = T.length + 1 := by simp
          rw [← e1] at g5 hU5
          generalize nx t n (nx t n (nx t n p)) = P at g5 hf hQ ⊢
          have T44 := tcl ht g5.1 44 (y := 44) (by omega) rfl
          refine my_if (fun h44 => ?_) (fun h44 => ?_)
          · have h44 := T44.mp h44
            rw [if_pos h44] at hf hQ
            unfold ys_72_116
            rw [if_neg (by decide)]
            refine x_55 g5 (by omega) (fun σ6 g6 f6 => ?_)
            rw [my_k0_v]
            unfold ys_72_128
            rw [oN_s]
            have f06 := eqp_tr f05 (eqp_mo f6 (fun _ _ => prF_x))
            have := ih (nx t n P) (L ++ [tkm t n p]) (T ++ [a]) _ _ σ6 (by simp [hLT]) (by simp; omega) (by omega) g6 (CU_x g5 hU5 f6) hp5 (fun q hq => fL_mo (hf q hq) (eqp_mo f06 (fun c k hh => lF_p hrv hc42 hh))) (fun L' T' q pt' LT' σ' hx g u pp f' => hQ L' T' q pt' LT' σ' hx g u pp (eqp_tr f06 f'))
            rw [show (L ++ [tkm t n p]).length = L.length + 1 by simp] at this
            exact ys_72_26_ok this
          · have h44 : ¬ tkk t n P = 44 := fun hh => h44 (T44.mpr hh)
            rw [if_neg h44] at hf hQ
            unfold ys_72_116 ys_72_128
            rw [if_pos rfl]
            refine ys_72_26_ok ?_
            unfold ys_72_26
            rw [if_pos rfl]
            refine y_72z ht hκ (by omega) g5 hU5 (fun h41 => ?_) (fun σ' h41 g u f' => ?_)
            · rw [if_neg h41] at hf
              exact fL_mo (hf P rfl) fl5
            · rw [if_pos h41] at hQ
              exact hQ _ _ _ _ _ σ' rfl g u hp5 (eqp_tr f05 (eqp_mo f' (fun _ _ => prF_x)))
        · rw [hty] at hf
          exact hf _ rfl σ2 g2.1 (eqp_mo f02 (fun c k hh => lF_x hrv hc42 hh))
      · rw [if_neg h58] at hf
        exact hf _ rfl σ1 g1.1 (eqp_mo f1 (fun c k hh => lF_x hrv hc42 hh))
    · have hb : nwL t n L Nf 10 p = false := by rw [Bool.eq_false_iff]; exact hnw
      rw [hb]
      show if (0 : Int32) = 0 then _ else _
      rw [if_pos rfl]
      exact bad (fun hh => hnw (nwL_4.mp hh).1)
/-- the list of parameters -/
theorem y_72 {fm : Nat} {ls cF : Int32} {I0 : List It} {Nf : List (List Nat)} {pt LT : Nat → Int32} (ht : txt t n) (hκ : 1 ≤ κ.2.1 ∧ 6 ≤ κ.2.2) (hd : 10 ≤ d) (hfm : fm ≠ 4) (hcu : cu < I0.length) (hNf : nF0 I0 cu = Nf) (hpt0 : ∀ j, pt j = (itA I0 cu).2.2.2.2.2 j) (h : CR t n [] LT (setP I0 cu 0 pt) w rv cu S p 0 σ) (hU : CU (setP I0 cu 0 pt) rv cu 0 ls [] cF σ) (hf : ∀ q, ppl t n Nf fm p = .inl q → fL κ Q t n rv σ q)
    (hQ : ∀ L' T' q pt' LT' σ', ppl t n Nf fm p = .inr (L', T', q) → CR t n L' LT' (setP I0 cu T'.length pt') w rv cu S q 0 σ' → CU (setP I0 cu T'.length pt') rv cu 0 ls [] cF σ' → ptI I0 cu T' pt' LT' → eqp (prF rv cu) σ σ' → Q (.inl none) κ σ') : my_M e d 72 [.inr (.inr (some 39))] κ σ Q := by
  obtain ⟨d, rfl⟩ := dS 1 (show 1 ≤ d by omega)
  have hrv := h.2.2.1.2.2.1.2.1
  have hc42 := h.2.2.1.2.2.1.2.2.2
  refine ys_72 ?_
  unfold ys_72_0
  unfold ppl at hf hQ
  rw [if_neg hfm] at hf hQ
  have p0 : ptI I0 cu [] pt LT := ⟨fun j x hj => by simp at hj, fun j x hj => by simp at hj, fun j _ => hpt0 j⟩
  refine x_69 (k := 40) ht h (by omega) (by omega) hκ (by omega) rfl (fun h40 _ σ1 g1 f1 => ?_) (fun h40 => ?_)
  · rw [my_k0_v]
    rw [if_pos h40] at hf hQ
    have hU1 := CU_x h hU f1
    have fl1 : eqp (lF rv) σ σ1 := eqp_mo f1 (fun c k hh => lF_x hrv hc42 hh)
    have f1p : eqp (prF rv cu) σ σ1 := eqp_mo f1 (fun _ _ => prF_x)
    have T41 := tcl ht g1.1 41 (y := 41) (by omega) rfl
    refine my_if (fun h41 => ?_) (fun h41 => ?_)
    · have h41 := T41.mp h41
      rw [if_pos h41] at hQ
      unfold ys_72_23
      refine ys_72_26_ok ?_
      unfold ys_72_26
      rw [if_pos rfl]
      exact y_72z ht hκ (by omega) g1 hU1 (fun hh => absurd h41 hh) (fun σ' _ g u f' => hQ [] [] _ pt LT σ' rfl g u p0 (eqp_tr f1p (eqp_mo f' (fun _ _ => prF_x))))
    · have h41 : ¬ tkk t n (nx t n p) = 41 := fun hh => h41 (T41.mpr hh)
      rw [if_neg h41] at hf hQ
      unfold ys_72_23
      exact ys_72_26_ok (y_72l (I0 := I0) (Nf := Nf) ht hκ (by omega) hcu hNf 5 (nx t n p) [] [] pt LT σ1 rfl rfl (by omega) g1 hU1 p0 (fun q hq => fL_mo (hf q hq) fl1) (fun L' T' q pt' LT' σ' hx g u pp f' => hQ L' T' q pt' LT' σ' hx g u pp (eqp_tr f1p f')))
  · have h40 : ¬ tkk t n p = 40 := by rcases h40 with h | h; exact h; omega
    rw [if_neg h40] at hf
    exact hf p rfl σ h.1 eqp_rf
end MCH
