/-! ===== the reference's expressions: brackets, names ===== -/
theorem kR_le (k : Nat) : kR k ≤ k := by
  unfold kR
  split
  · omega
  · split <;> omega
/-- the token at hand is k -/
theorem tkq {t : Nat → Int32} {n p : Nat} (ht : txt t n) {x : Int32} (k : Nat) (hk : (33 ≤ k ∧ k < 127) ∨ (256 ≤ k ∧ k < 259) ∨ (300 ≤ k ∧ k < 317) ∨ k ≤ 3) (hx : x = Int32.ofNat (kR (tkk t n p))) {y : Int32} (hy : y = Int32.ofNat (kR k)) : x = y ↔ tkk t n p = k := by
  rw [hx, hy, oN_e (by have := kR_bd (p := p) ht; omega) (by have := kR_le k; omega)]
  exact kR_inj ht hk
section MRB
variable {e : my_E} {d : Nat} {κ : my_K} {σ : my_S} {Q : my_O → my_K → my_S → Prop} {t : Nat → Int32} {n p o N : Nat} {L : List (List Nat)} {R : List Rw} {W : List Wt}
theorem RE_tok (h : RE t n L R W p o σ) : σ.1 498 4 = Int32.ofNat (kR (tkk t n p)) := h.1.2.2.2.1
theorem RE_pl (h : RE t n L R W p o σ) : σ.1 498 5 = Int32.ofNat p := h.1.2.2.2.2.1
theorem RE_le (ht : txt t n) (h : RE t n L R W p o σ) : p ≤ n ∧ n ≤ 1500 := ⟨h.1.1, ht.1⟩
/-- opens -/
theorem RE_opens (ht : txt t n) (h : RE t n L R W p o σ) (ho : o ≤ 12) (hN : R.length ≤ N) (hy : o < 12 → ∀ σ', RE t n L R W p (o + 1) σ' → eqp eF σ σ' → Q (.inl none) κ σ') (hn : 12 ≤ o → ∀ σ', RF t n p N σ' → σ'.1 498 36 = Int32.ofNat W.length → eqp eF σ σ' → Q (.inl none) κ σ') : my_M e (d + 2) 236 [.inr (.inr (some 498))] κ σ Q := by
  have hb := RE_le ht h
  refine ys_236 ?_
  unfold ys_236_0
  rw [h.2.2.1]
  refine my_if (fun hh => ?_) (fun hh => ?_)
  · have h12 : o = 12 := (oN_e (b := 12) (by omega) (by omega)).mp hh
    rw [RE_pl h]
    refine RE_bad (q := p) h hN (fun σ' g1 g2 g2b g3 => ?_)
    rw [my_k0_v]
    unfold ys_236_17
    have he : eqp (fun c k => c = 498 ∧ k = 10) σ' (my_uI σ' 498 10 ((σ'.1 498 10) + 1)) := eqp_I eqp_rf ⟨rfl, rfl⟩
    obtain ⟨a1, ⟨p', a2⟩, m, a3, a4⟩ := g1
    exact hn (by omega) _ ⟨(eqp_g he (by omega)).trans a1, ⟨p', rfT_o a2 he (fun c k hh => by omega)⟩, m, a3, (eqp_g he (by omega)).trans a4⟩ ((eqp_g he (by omega)).trans g2) (eqp_tr g3 (eqp_mo he (fun c k hh => by unfold eF; omega)))
  · have h12 : o < 12 := by
      have : o ≠ 12 := fun h2 => hh (by rw [h2]; rfl)
      omega
    unfold ys_236_17
    rw [h.2.2.1, oN_s]
    exact hy h12 _ (RE_open h) (eqp_I eqp_rf (by unfold eF; omega))
/-- close -/
theorem RE_close {k : Nat} (ht : txt t n) (h : RE t n L R W p (o + 1) σ) (hk : 33 ≤ k ∧ k < 127) (hN : R.length ≤ N) (hy : tkk t n p = k → ∀ σ', RE t n L R W (nx t n p) o σ' → eqp eF σ σ' → Q (.inl none) κ σ') (hn : tkk t n p ≠ k → ∀ σ', RF t n p N σ' → σ'.1 498 36 = Int32.ofNat W.length → eqp eF σ σ' → Q (.inl none) κ σ') : my_M e (d + 5) 239 [.inr (.inr (some 498)), .inl (Int32.ofNat k)] κ σ Q := by
  have hkR : kR k = k := by unfold kR; rw [if_neg (by omega), if_neg (by omega)]
  have hiff := kR_inj (p := p) (k := k) ht (by omega)
  rw [hkR] at hiff
  refine ys_239 ?_
  unfold ys_239_0
  refine RE_take (N := N) ht h (by omega) hN (fun hh σ' g1 g2 => ?_) (fun hh σ' g1 g2 g2b g3 => ?_) (by have := kR_bd (p := p) ht; omega)
  · rw [my_k0_v, g1.2.2.1, oN_m]
    exact hy (hiff.mp hh) _ (RE_open g1) (eqp_tr g2 (eqp_I eqp_rf (by unfold eF; omega)))
  · rw [my_k0_v]
    have he : eqp (fun c k => c = 498 ∧ k = 10) σ' (my_uI σ' 498 10 ((σ'.1 498 10) - 1)) := eqp_I eqp_rf ⟨rfl, rfl⟩
    obtain ⟨a1, ⟨p', a2⟩, m, a3, a4⟩ := g1
    exact hn (fun h2 => hh (hiff.mpr h2)) _ ⟨(eqp_g he (by omega)).trans a1, ⟨p', rfT_o a2 he (fun c k hh => by omega)⟩, m, a3, (eqp_g he (by omega)).trans a4⟩ ((eqp_g he (by omega)).trans g2) (eqp_tr g3 (eqp_mo he (fun c k hh => by unfold eF; omega)))
theorem RF_close {q : Nat} {v : Int32} (h : RF t n q N σ) (hq : q < 2147483648) (hQ : ∀ σ', RF t n q N σ' → eqp eF σ σ' → Q (.inl none) κ σ') : my_M e (d + 2) 239 [.inr (.inr (some 498)), .inl v] κ σ Q := by
  refine ys_239 ?_
  unfold ys_239_0
  refine RF_take h hq ?_
  rw [my_k0_v]
  have he : eqp (fun c k => c = 498 ∧ k = 10) σ (my_uI σ 498 10 ((σ.1 498 10) - 1)) := eqp_I eqp_rf ⟨rfl, rfl⟩
  obtain ⟨a1, ⟨p', a2⟩, m, a3, a4⟩ := h
  exact hQ _ ⟨(eqp_g he (by omega)).trans a1, ⟨p', rfT_o a2 he (fun c k hh => by omega)⟩, m, a3, (eqp_g he (by omega)).trans a4⟩ (eqp_mo he (fun c k hh => by unfold eF; omega))
/-- openFactor -/
theorem RE_openFactor {w : Wt} {v1 v4 v5 : Int32} {v2 : Int64} (ht : txt t n) (h : RE t n L R W p o σ) (ho : o ≤ 12) (hW : W.length < 600) (hN : R.length ≤ N) (e1 : v1 = Int32.ofNat w.1) (e2 : v2 = nmR w.2.1) (e4 : v4 = Int32.ofNat w.2.2.1) (e5 : v5 = Int32.ofNat w.2.2.2) (hy : o < 12 → ∀ σ', RE t n L R (w :: W) (nx t n p) (o + 1) σ' → eqp eF σ σ' → Q (.inl none) κ σ') (hn : 12 ≤ o → ∀ σ', RF t n p N σ' → eqp eF σ σ' → Q (.inl none) κ σ') : my_M e (d + 4) 246 [.inr (.inr (some 498)), .inl v1, .inr (.inl v2), .inl v4, .inl v5] κ σ Q := by
  refine ys_246 ?_
  unfold ys_246_0
  refine RE_opens (N := N) ht h ho hN (fun h12 σ1 g1 f1 => ?_) (fun h12 σ1 g1 g2 f1 => ?_)
  · rw [my_k0_v]
    refine RE_push (w := w) g1 hW e1 e2 e4 e5 (fun σ2 g2 f2 => ?_)
    rw [my_k0_v]
    refine RE_next ht g2 (fun σ3 g3 f3 => ?_)
    rw [my_k0_v]
    exact hy h12 σ3 g3 (eqp_tr (eqp_tr f1 f2) f3)
  · rw [my_k0_v]
    refine RF_push g1 g2 hW (fun σ2 g2 f2 => ?_)
    rw [my_k0_v]
    refine RF_next ht g2 (fun σ3 g3 f3 => ?_)
    rw [my_k0_v]
    exact hn h12 σ3 g3 (eqp_tr (eqp_tr f1 f2) f3)
/-- localOf -/
theorem r_238_l {l : List Nat} (hl : isN l) (h : rlc L σ) : ∀ (m j : Nat), j + m = L.length → Q (.inl (some (.inl (match kwi (L.drop j) l j with | some i => Int32.ofNat i | none => Int32.ofInt (-1))))) κ σ → ys_238_2 e d (nmR l) (Int32.ofNat j) κ σ Q := by
  intro m
  obtain ⟨h1, h2, h3, h4⟩ := h
  induction m with
  | zero =>
    intro j hj hQ
    unfold ys_238_2
    rw [h1, if_neg (fun hh => absurd ((oN_lt (by omega) (by omega)).mp hh) (by omega))]
    rw [List.drop_eq_nil_of_le (by omega)] at hQ
    exact hQ
  | succ m ih =>
    intro j hj hQ
    have hjl : j < L.length := by omega
    unfold ys_238_2
    rw [h1, if_pos ((oN_lt (by omega) (by omega)).mpr hjl), oN_n (by omega), h4 j L[j] (List.getElem?_eq_getElem hjl)]
    refine ⟨⟨by rw [oN_i (by omega)]; omega, by rw [oN_i (by omega)]; omega⟩, ?_⟩
    rw [List.drop_eq_getElem_cons hjl] at hQ
    unfold kwi at hQ
    by_cases hh : L[j] = l
    · rw [if_pos (lg_cmp_0.mpr (by rw [hh]))]
      rw [if_pos hh] at hQ
      exact hQ
    · rw [if_neg (fun h5 => hh ((nmR_inj (h3 _ (List.getElem_mem hjl)) hl).mp (lg_cmp_0.mp h5))), oN_s]
      rw [if_neg hh] at hQ
      exact ys_238_2_ok (ih (j + 1) (by omega) hQ)
theorem r_238 {l : List Nat} (hl : isN l) (h : rlc L σ) (hQ : Q (.inl (some (.inl (match kwi L l 0 with | some i => Int32.ofNat i | none => Int32.ofInt (-1))))) κ σ) : my_M e (d + 1) 238 [.inr (.inr (some 498)), .inr (.inl (nmR l))] κ σ Q := by
  refine ys_238 ?_
  unfold ys_238_0
  exact ys_238_2_ok (r_238_l hl h L.length 0 (by omega) hQ)
/-- the loop of an expression, where a fault was found -/
theorem RF_loop {q : Nat} {v : Int32} (h : RF t n q N σ) (hq : q < 2147483648) (hQ : Q (.inl none) κ σ) : ys_244_7 e d v κ σ Q := by
  unfold ys_244_7
  rw [if_neg (RF_lt h hq)]
  exact hQ
end MRB
