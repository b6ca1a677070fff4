/-! ===== the reference's expressions: signs that wait ===== -/
theorem kwi_lt {l : List Nat} : ∀ {K : List (List Nat)} {j i : Nat}, kwi K l j = some i → j ≤ i ∧ i < j + K.length
  | [], _, _, h => by simp [kwi] at h
  | w :: K, j, i, h => by
    unfold kwi at h
    split at h
    · cases h; simp
    · have := kwi_lt h
      simp only [List.length_cons]; omega
theorem tkk_bd {t : Nat → Int32} {n p : Nat} (ht : txt t n) : tkk t n p < 317 := by
  unfold tkk
  refine my_ite (P := fun x => x < 317) (fun hp => ?_) (fun _ => by omega)
  refine my_ite (P := fun x => x < 317) (fun _ => ?_) (fun _ => ?_)
  · refine my_ite (P := fun x => x < 317) (fun _ => by omega) (fun _ => ?_)
    split
    · rename_i j hj
      have := kwi_lt hj
      have : kw.length = 17 := rfl
      omega
    · omega
  · refine my_ite (P := fun x => x < 317) (fun _ => my_ite (P := fun x => x < 317) (fun _ => by omega) (fun _ => by omega)) (fun _ => ?_)
    refine my_ite (P := fun x => x < 317) (fun _ => my_ite (P := fun x => x < 317) (fun _ => by omega) (fun _ => my_ite (P := fun x => x < 317) (fun _ => by omega) (fun _ => by omega))) (fun _ => ?_)
    refine my_ite (P := fun x => x < 317) (fun _ => ?_) (fun _ => by omega)
    have := (sg_cl (ht.2 p hp)).2
    omega
theorem kR_bd {t : Nat → Int32} {n p : Nat} (ht : txt t n) : kR (tkk t n p) < 317 := by
  have := tkk_bd (p := p) ht
  unfold kR
  split
  · omega
  · split <;> omega
/-- the numbers of signs are between 33 and 126, or above -/
theorem tkk_gap {t : Nat → Int32} {n p : Nat} (ht : txt t n) : tkk t n p ≤ 3 ∨ (33 ≤ tkk t n p ∧ tkk t n p < 127) ∨ (256 ≤ tkk t n p ∧ tkk t n p < 259) ∨ (300 ≤ tkk t n p ∧ tkk t n p < 317) := by
  have hb := tkk_bd (p := p) ht
  revert hb
  unfold tkk
  generalize hP : (fun x : Nat => x < 317 → x ≤ 3 ∨ (33 ≤ x ∧ x < 127) ∨ (256 ≤ x ∧ x < 259) ∨ (300 ≤ x ∧ x < 317)) = P
  have hP2 : ∀ x, (x < 317 → x ≤ 3 ∨ (33 ≤ x ∧ x < 127) ∨ (256 ≤ x ∧ x < 259) ∨ (300 ≤ x ∧ x < 317)) = P x := fun x => by rw [← hP]
  rw [hP2]
  have mk : ∀ x, (x < 317 → x ≤ 3 ∨ (33 ≤ x ∧ x < 127) ∨ (256 ≤ x ∧ x < 259) ∨ (300 ≤ x ∧ x < 317)) → P x := fun x hx => by rw [← hP]; exact hx
  refine my_ite (fun hp => ?_) (fun _ => mk _ (by omega))
  refine my_ite (fun _ => ?_) (fun _ => ?_)
  · refine my_ite (fun _ => mk _ (by omega)) (fun _ => ?_)
    split
    · exact mk _ (by omega)
    · exact mk _ (by omega)
  · refine my_ite (fun _ => my_ite (fun _ => mk _ (by omega)) (fun _ => mk _ (by omega))) (fun _ => ?_)
    refine my_ite (fun _ => my_ite (fun _ => mk _ (by omega)) (fun _ => my_ite (fun _ => mk _ (by omega)) (fun _ => mk _ (by omega)))) (fun _ => ?_)
    refine my_ite (fun hs => ?_) (fun _ => mk _ (by omega))
    have h2 := isS_mem.mp hs
    have h3 : ∀ c ∈ mc_b1, 33 ≤ c.toNatClampNeg := by decide
    have h4 := h3 _ h2
    have h5 := (sg_cl (ht.2 p hp)).2
    exact mk _ (by omega)
theorem kR_inj {t : Nat → Int32} {n p k : Nat} (ht : txt t n) (hk : (33 ≤ k ∧ k < 127) ∨ (256 ≤ k ∧ k < 259) ∨ (300 ≤ k ∧ k < 317) ∨ k ≤ 3) : kR (tkk t n p) = kR k ↔ tkk t n p = k := by
  have h := tkk_gap (p := p) ht
  unfold kR
  repeat' split
  all_goals omega
/-- rank and code by the reference's numbers -/
def rk2 (k : Nat) : Nat := if k = 4 ∨ k = 5 ∨ k = 6 ∨ k = 60 then 3 else if k = 37 ∨ k = 42 ∨ k = 47 then 5 else if k = 38 then 2 else if k = 43 ∨ k = 45 then 4 else if k = 124 then 1 else if k = 300 ∨ k = 301 then 6 else 0
def bo2 (k : Nat) : Nat := if k = 4 then 23 else if k = 5 then 24 else if k = 6 then 26 else if k = 38 then 22 else if k = 42 then 29 else if k = 43 then 27 else if k = 45 then 28 else if k = 47 then 30 else if k = 60 then 25 else if k = 124 then 21 else if k = 300 then 19 else if k = 301 then 20 else 31
theorem rk2_lt (k : Nat) : rk2 k < 7 := by
  unfold rk2
  repeat' split
  all_goals omega
theorem rk2_kR {t : Nat → Int32} {n p : Nat} (ht : txt t n) : rk2 (kR (tkk t n p)) = rnk (tkk t n p) := by
  have h := tkk_gap (p := p) ht
  unfold rk2 kR rnk
  repeat' split
  all_goals omega
theorem bo2_kR {t : Nat → Int32} {n p : Nat} (ht : txt t n) (hr : rnk (tkk t n p) ≠ 0) : bo2 (kR (tkk t n p)) = cod (tkk t n p) := by
  have h := tkk_gap (p := p) ht
  have h2 : tkk t n p = 124 ∨ tkk t n p = 38 ∨ tkk t n p = 256 ∨ tkk t n p = 257 ∨ tkk t n p = 258 ∨ tkk t n p = 60 ∨ tkk t n p = 43 ∨ tkk t n p = 45 ∨ tkk t n p = 42 ∨ tkk t n p = 47 ∨ tkk t n p = 37 := by
    unfold rnk at hr
    repeat' split at hr
    all_goals omega
  rcases h2 with h | h | h | h | h | h | h | h | h | h | h <;> rw [h] <;> rfl
section MRK
variable {e : my_E} {d : Nat} {κ : my_K} {σ : my_S} {Q : my_O → my_K → my_S → Prop} {t : Nat → Int32} {n p o : Nat} {L : List (List Nat)} {R : List Rw} {W : List Wt} {k : Nat}
theorem r_249 (hk : k < 1000) (hQ : Q (.inl (some (.inl (Int32.ofNat (rk2 k))))) κ σ) : my_M e (d + 1) 249 [.inl (Int32.ofNat k)] κ σ Q := by
  have E : ∀ j : Nat, j < 1000 → Int32.ofNat k = Int32.ofNat j → k = j := fun j hj h => (oN_e (by omega) (by omega)).mp h
  have N : ∀ j : Nat, ¬ Int32.ofNat k = Int32.ofNat j → ¬ k = j := fun j h hh => h (by rw [hh])
  refine ys_249 ?_
  unfold ys_249_0
  refine my_if (fun h => by have := E 4 (by omega) h; subst this; exact hQ) (fun h1 => ?_)
  refine my_if (fun h => by have := E 5 (by omega) h; subst this; exact hQ) (fun h2 => ?_)
  refine my_if (fun h => by have := E 6 (by omega) h; subst this; exact hQ) (fun h3 => ?_)
  refine my_if (fun h => by have := E 37 (by omega) h; subst this; exact hQ) (fun h4 => ?_)
  refine my_if (fun h => by have := E 38 (by omega) h; subst this; exact hQ) (fun h5 => ?_)
  refine my_if (fun h => by have := E 42 (by omega) h; subst this; exact hQ) (fun h6 => ?_)
  refine my_if (fun h => by have := E 43 (by omega) h; subst this; exact hQ) (fun h7 => ?_)
  refine my_if (fun h => by have := E 45 (by omega) h; subst this; exact hQ) (fun h8 => ?_)
  refine my_if (fun h => by have := E 47 (by omega) h; subst this; exact hQ) (fun h9 => ?_)
  refine my_if (fun h => by have := E 60 (by omega) h; subst this; exact hQ) (fun h10 => ?_)
  refine my_if (fun h => by have := E 124 (by omega) h; subst this; exact hQ) (fun h11 => ?_)
  refine my_if (fun h => by have := E 300 (by omega) h; subst this; exact hQ) (fun h12 => ?_)
  refine my_if (fun h => by have := E 301 (by omega) h; subst this; exact hQ) (fun h13 => ?_)
  have : rk2 k = 0 := by
    have a1 := N 4 h1; have a2 := N 5 h2; have a3 := N 6 h3; have a4 := N 37 h4; have a5 := N 38 h5; have a6 := N 42 h6; have a7 := N 43 h7; have a8 := N 45 h8; have a9 := N 47 h9; have a10 := N 60 h10; have a11 := N 124 h11; have a12 := N 300 h12; have a13 := N 301 h13
    unfold rk2
    repeat' split
    all_goals omega
  rw [this] at hQ
  exact hQ
theorem r_251 (hk : k < 1000) (hQ : Q (.inl (some (.inl (Int32.ofNat (bo2 k))))) κ σ) : my_M e (d + 1) 251 [.inl (Int32.ofNat k)] κ σ Q := by
  have E : ∀ j : Nat, j < 1000 → Int32.ofNat k = Int32.ofNat j → k = j := fun j hj h => (oN_e (by omega) (by omega)).mp h
  have N : ∀ j : Nat, ¬ Int32.ofNat k = Int32.ofNat j → ¬ k = j := fun j h hh => h (by rw [hh])
  refine ys_251 ?_
  unfold ys_251_0
  refine my_if (fun h => by have := E 4 (by omega) h; subst this; exact hQ) (fun h1 => ?_)
  refine my_if (fun h => by have := E 5 (by omega) h; subst this; exact hQ) (fun h2 => ?_)
  refine my_if (fun h => by have := E 6 (by omega) h; subst this; exact hQ) (fun h3 => ?_)
  refine my_if (fun h => by have := E 38 (by omega) h; subst this; exact hQ) (fun h5 => ?_)
  refine my_if (fun h => by have := E 42 (by omega) h; subst this; exact hQ) (fun h6 => ?_)
  refine my_if (fun h => by have := E 43 (by omega) h; subst this; exact hQ) (fun h7 => ?_)
  refine my_if (fun h => by have := E 45 (by omega) h; subst this; exact hQ) (fun h8 => ?_)
  refine my_if (fun h => by have := E 47 (by omega) h; subst this; exact hQ) (fun h9 => ?_)
  refine my_if (fun h => by have := E 60 (by omega) h; subst this; exact hQ) (fun h10 => ?_)
  refine my_if (fun h => by have := E 124 (by omega) h; subst this; exact hQ) (fun h11 => ?_)
  refine my_if (fun h => by have := E 300 (by omega) h; subst this; exact hQ) (fun h12 => ?_)
  refine my_if (fun h => by have := E 301 (by omega) h; subst this; exact hQ) (fun h13 => ?_)
  have : bo2 k = 31 := by
    have a1 := N 4 h1; have a2 := N 5 h2; have a3 := N 6 h3; have a5 := N 38 h5; have a6 := N 42 h6; have a7 := N 43 h7; have a8 := N 45 h8; have a9 := N 47 h9; have a10 := N 60 h10; have a11 := N 124 h11; have a12 := N 300 h12; have a13 := N 301 h13
    unfold bo2
    repeat' split
    all_goals first | omega | rfl
  rw [this] at hQ
  exact hQ
/-- what the signs that wait make; how many of them opened something -/
def flR (P : List Wt) : List Rw := P.map (fun w => (bo2 w.1, 0, [], w.2.2.1))
def nU (P : List Wt) : Nat := (P.filter (fun w => decide (rk2 w.1 = 6))).length
def cm3 (P : List Wt) : Bool := P.any (fun w => decide (rk2 w.1 = 3))
theorem RE_pop {w : Wt} (h : RE t n L R (w :: W) p o σ) : RE t n L R W p o (my_uI σ 498 36 (Int32.ofNat W.length)) := by
  obtain ⟨h1, h2, h3, h4, h5, h6⟩ := h
  have he : eqp (fun c k => c = 498 ∧ k = 36) σ (my_uI σ 498 36 (Int32.ofNat W.length)) := eqp_I eqp_rf ⟨rfl, rfl⟩
  exact ⟨rfT_o h1 he (fun c k hh => by omega), (eqp_g he (by omega)).trans h2, (eqp_g he (by omega)).trans h3, rws_o h4 he (fun c k hh => by omega), ⟨by simp [my_uI], wtk_o he h5.2.2 (fun c k hh _ => by omega)⟩, rlc_o h6 he (fun c k hh => by omega)⟩
theorem RE_open {o' : Nat} (h : RE t n L R W p o σ) : RE t n L R W p o' (my_uI σ 498 10 (Int32.ofNat o')) := by
  obtain ⟨h1, h2, h3, h4, h5, h6⟩ := h
  have he : eqp (fun c k => c = 498 ∧ k = 10) σ (my_uI σ 498 10 (Int32.ofNat o')) := eqp_I eqp_rf ⟨rfl, rfl⟩
  exact ⟨rfT_o h1 he (fun c k hh => by omega), (eqp_g he (by omega)).trans h2, by simp [my_uI], rws_o h4 he (fun c k hh => by omega), wts_o h5 he (fun c k hh => by omega), rlc_o h6 he (fun c k hh => by omega)⟩
theorem oN_lt1 {a : Nat} {b : Int32} {c : Nat} (hb : b = Int32.ofNat c) (ha : a < 2147483648) (hc : c < 2147483648) : Int32.ofNat a < b ↔ a < c := by rw [hb]; exact oN_lt ha hc
/-- settle -/
theorem r_250 {ρ : Nat} (hρ : 1 ≤ ρ ∧ ρ < 10) (hWt : ∀ w W', W = w :: W' → rk2 w.1 < ρ ∧ w.1 < 1000) : ∀ (P : List Wt) (R : List Rw) (o : Nat) (b : Bool) (σ : my_S), RE t n L R (P ++ W) p (o + nU P) σ → (∀ w ∈ P, ρ ≤ rk2 w.1 ∧ w.1 < 1000) → (P ++ W).length < 600 → R.length + P.length < 3200 → (∀ σ', RE t n L (R ++ flR P) W p o σ' → eqp eF σ σ' → Q (.inl (some (.inl (bI (b || cm3 P))))) κ σ') → ys_250_2 e (d + 1) (Int32.ofNat ρ) (bI b) κ σ Q := by
  intro P
  induction P with
  | nil =>
    intro R o b σ h hP hlen hR hQ
    have h5 := h.2.2.2.2.1
    have done : ys_250_142 e (d + 1) (bI b) κ σ Q := by
      unfold ys_250_142
      refine ⟨by cases b <;> simp [bI], ?_⟩
      have := hQ σ (by simpa [flR, nU] using h) eqp_rf
      simpa [cm3] using this
    simp only [List.nil_append] at h5 hlen
    unfold ys_250_2
    rw [h5.1]
    cases W with
    | nil =>
      rw [if_neg (by decide)]
      exact done
    | cons w W' =>
      obtain ⟨g1, g2⟩ := hWt w W' rfl
      simp only [List.length_cons] at h5 hlen ⊢
      rw [if_pos (oN_pos (by omega) (by omega)), oN_m, oN_n (by omega)]
      have b1 : my_bd (Int32.ofNat W'.length) 600 := ⟨by rw [oN_i (by omega)]; omega, by rw [oN_i (by omega)]; omega⟩
      refine ⟨b1, ?_⟩
      rw [h5.2.1.1]
      refine r_249 g2 ?_
      rw [my_kI_v, if_pos ((oN_lt (by have := rk2_lt w.1; omega) (by omega)).mpr g1)]
      exact done
  | cons w P ih =>
    intro R o b σ h hP hlen hR hQ
    have h5 := h.2.2.2.2.1
    obtain ⟨g1, g2⟩ := hP w (by simp)
    have hr6 := rk2_lt w.1
    simp only [List.cons_append, List.length_cons] at h5 hlen hR
    unfold ys_250_2
    rw [h5.1]
    simp only [List.length_cons]
    rw [if_pos (oN_pos (by omega) (by omega)), oN_m, oN_n (by omega)]
    have b1 : my_bd (Int32.ofNat (P ++ W).length) 600 := ⟨by rw [oN_i (by omega)]; omega, by rw [oN_i (by omega)]; omega⟩
    refine ⟨b1, ?_⟩
    rw [h5.2.1.1]
    refine r_249 g2 ?_
    rw [my_kI_v, if_neg (fun hh => absurd ((oN_lt (by omega) (by omega)).mp hh) (by omega)), h5.1]
    simp only [List.length_cons]
    rw [oN_m, oN_n (by omega), h5.2.1.1]
    refine ⟨b1, ?_⟩
    refine r_249 g2 ?_
    rw [my_kI_v, if_pos (oN_pos (by omega) (by omega)), h5.1]
    simp only [List.length_cons]
    rw [oN_m, oN_n (by omega), h5.2.1.1]
    refine ⟨b1, ?_⟩
    refine r_251 g2 ?_
    rw [my_kI_v]
    have hp := RE_pop h
    have he1 : eqp eF σ (my_uI σ 498 36 (Int32.ofNat (P ++ W).length)) := eqp_I eqp_rf (by unfold eF; omega)
    have q36 : (my_uI σ 498 36 (Int32.ofNat (P ++ W).length)).1 498 36 = Int32.ofNat (P ++ W).length := by simp [my_uI]
    have q517 : (my_uI σ 498 36 (Int32.ofNat (P ++ W).length)).1 517 (P ++ W).length = Int32.ofNat w.1 := by rw [my_uI_1, if_neg (by omega)]; exact h5.2.1.1
    have q519 : (my_uI σ 498 36 (Int32.ofNat (P ++ W).length)).1 519 (P ++ W).length = Int32.ofNat w.2.2.1 := by rw [my_uI_1, if_neg (by omega)]; exact h5.2.1.2.2.1
    change RE t n L R (P ++ W) p (o + nU (w :: P)) (my_uI σ 498 36 (Int32.ofNat (P ++ W).length)) at hp
    generalize my_uI σ 498 36 (Int32.ofNat (P ++ W).length) = σ1 at hp he1 q36 q517 q519 ⊢
    rw [q36, oN_n (by omega)]
    refine ⟨b1, ?_⟩
    rw [q519]
    refine RE_emit (x := (bo2 w.1, 0, [], w.2.2.1)) hp (by omega) rfl (Or.inr (Or.inr rfl)) nmR_nil.symm rfl (fun σ2 g3 g4 => ?_)
    rw [my_kI_v]
    have z36 : σ2.1 498 36 = Int32.ofNat (P ++ W).length := g3.2.2.2.2.1.1
    have z10 : σ2.1 498 10 = Int32.ofNat (o + nU (w :: P)) := g3.2.2.1
    have fin : ∀ b' : Bool, σ2.1 517 (P ++ W).length = Int32.ofNat w.1 → b' = (b || decide (rk2 w.1 = 3)) → ys_250_107 e (d + 1) (Int32.ofNat ρ) (bI b') κ σ2 Q := fun b' q5 hb' => by
      have nx6 : ∀ o' : Nat, o' = o + nU P → eqp eF σ2 (my_uI σ2 498 10 (Int32.ofNat o')) ∧ ys_250_2 e (d + 1) (Int32.ofNat ρ) (bI b') κ (my_uI σ2 498 10 (Int32.ofNat o')) Q := fun o' ho' => by
        have he3 : eqp eF σ2 (my_uI σ2 498 10 (Int32.ofNat o')) := eqp_I eqp_rf (by unfold eF; omega)
        refine ⟨he3, ih (R ++ [(bo2 w.1, 0, [], w.2.2.1)]) o b' _ ?_ (fun w' hw' => hP w' (by simp [hw'])) (by omega) (by simp; omega) (fun σ' k1 k2 => ?_)⟩
        · rw [← ho']
          exact RE_open g3
        · have e1 : (b' || cm3 P) = (b || cm3 (w :: P)) := by rw [hb']; simp [cm3, Bool.or_assoc]
          rw [e1]
          refine hQ σ' ?_ (eqp_tr (eqp_tr (eqp_tr he1 (eqp_mo g4 (fun _ _ => mF_e))) he3) k2)
          rw [show R ++ flR (w :: P) = R ++ [(bo2 w.1, 0, [], w.2.2.1)] ++ flR P by simp [flR]]
          exact k1
      unfold ys_250_107
      rw [z36, oN_n (by omega), q5]
      refine ⟨b1, ?_⟩
      refine r_249 g2 ?_
      rw [my_kI_v, z10]
      by_cases h6 : rk2 w.1 = 6
      · rw [if_pos (by rw [h6]; rfl)]
        unfold ys_250_135
        have e2 : Int32.ofNat (o + nU (w :: P)) - 1 = Int32.ofNat (o + nU P) := by
          have : nU (w :: P) = nU P + 1 := by simp [nU, h6]
          rw [this, ← Nat.add_assoc, oN_m]
        rw [e2]
        exact ys_250_2_ok (nx6 _ rfl).2
      · rw [if_neg (fun hh : Int32.ofNat (rk2 w.1) = 6 => h6 ((oN_e (b := 6) (by omega) (by omega)).mp hh))]
        unfold ys_250_135
        have e2 : Int32.ofNat (o + nU (w :: P)) - 0 = Int32.ofNat (o + nU P) := by
          have : nU (w :: P) = nU P := by simp [nU, h6]
          rw [this]; simp
        rw [e2]
        exact ys_250_2_ok (nx6 _ rfl).2
    have y517 : σ2.1 517 (P ++ W).length = Int32.ofNat w.1 := (eqp_g g4 (by unfold mF; omega)).trans q517
    · cases b with
      | true =>
        rw [if_neg (by decide)]
        unfold ys_250_102
        exact fin true y517 (by simp)
      | false =>
        rw [if_pos (show bI false = 0 from rfl), z36, oN_n (by omega), y517]
        refine ⟨b1, ?_⟩
        refine r_249 g2 ?_
        rw [my_kI_v]
        by_cases h3 : rk2 w.1 = 3
        · rw [if_pos (by rw [h3]; rfl)]
          unfold ys_250_102
          exact fin true y517 (by simp [h3])
        · rw [if_neg (fun hh : Int32.ofNat (rk2 w.1) = 3 => h3 ((oN_e (b := 3) (by omega) (by omega)).mp hh))]
          exact fin false y517 (by simp [h3])
end MRK
