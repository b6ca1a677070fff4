
/-! ===== the reference's log: reading ===== -/
/-- the bytes of whole entries, and what is behind them -/
def LgR (E : List Et) (T : List Int32) (σ : my_S) : Prop := σ.1 498 86 = Int32.ofNat (els E + T.length) ∧ ∀ i x, (en E 0 ++ T)[i]? = some x → σ.1 547 i = x &&& 255
def tlB (T : List Int32) : Prop := T.length < 2 ∨ T.length < 2 + g2 T 0
def PrR (E : List Et) (σ : my_S) : Prop := (σ.1 498 90 = Int32.ofNat (itp E).length ∧ ∀ j y, (itp E)[j]? = some y → σ.1 548 j = Int32.ofNat y.1 ∧ σ.1 549 j = Int32.ofNat (y.1 + 1 + (eN y.2).length + (eC y.2).length)) ∧ σ.1 498 93 = Int32.ofNat (rcp E).length ∧ ∀ j y, (rcp E)[j]? = some y → σ.1 550 j = Int32.ofNat y.1
def plF (c k : Nat) : Prop := (c = 498 ∧ (k = 90 ∨ k = 93 ∨ k = 95)) ∨ (548 ≤ c ∧ c ≤ 550)
section MLR
variable {e : my_E} {d : Nat} {κ : my_K} {σ σ' : my_S} {Q : my_O → my_K → my_S → Prop} {E : List Et} {T : List Int32} {y : Nat × Et} {nm : List Nat} {F : Nat → Nat → Prop}
theorem LgR_o (h : LgR E T σ) (f : eqp F σ σ') (hF : ∀ c k, F c k → c ≠ 547 ∧ (c = 498 → k ≠ 86)) : LgR E T σ' := ⟨(eqp_g f (fun hh => (hF _ _ hh).2 rfl rfl)).trans h.1, fun i x hx => (eqp_g f (fun hh => (hF _ _ hh).1 rfl)).trans (h.2 i x hx)⟩
theorem PrR_o (h : PrR E σ) (f : eqp F σ σ') (hF : ∀ c k, F c k → (c = 498 → k ≠ 90 ∧ k ≠ 93) ∧ ¬ (548 ≤ c ∧ c ≤ 550)) : PrR E σ' := by
  have g := fun c k hh => hF c k hh
  obtain ⟨⟨h1, h2⟩, h3, h4⟩ := h
  exact ⟨⟨(eqp_g f (fun hh => ((g _ _ hh).1 rfl).1 rfl)).trans h1, fun j y hy => ⟨(eqp_g f (fun hh => (g _ _ hh).2 (by omega))).trans (h2 j y hy).1, (eqp_g f (fun hh => (g _ _ hh).2 (by omega))).trans (h2 j y hy).2⟩⟩, (eqp_g f (fun hh => ((g _ _ hh).1 rfl).2 rfl)).trans h3, fun j y hy => (eqp_g f (fun hh => (g _ _ hh).2 (by omega))).trans (h4 j y hy)⟩
theorem r_285 {p a b : Nat} (hp : p + 1 < 7800) (ha : σ.1 547 p = Int32.ofNat a) (hb : σ.1 547 (p + 1) = Int32.ofNat b) (hd : 1 ≤ d) (hQ : Q (.inl (some (.inl (Int32.ofNat (a + 256 * b))))) κ σ) : my_M e d 285 [.inr (.inr (some 498)), .inl (Int32.ofNat p)] κ σ Q := by
  obtain ⟨d, rfl⟩ := dS 1 hd
  refine ys_285 ?_
  unfold ys_285_0
  rw [oN_s, oN_n (by omega), oN_n (by omega), ha, hb, show (256 : Int32) = Int32.ofNat 256 from rfl, ← Int32.ofNat_mul, oN_a]
  exact ⟨bdk (by omega) (by omega), bdk (by omega) (by omega), hQ⟩
theorem bt_o {n j : Nat} (hn : n < 2147483648) (hj : j < 4) : bt (Int32.ofNat n) (Int32.ofNat j) &&& 255 = Int32.ofNat (n / 2 ^ (8 * j) % 256) := by
  rw [bt_n _ hj]
  have : (Int32.ofNat n).toBitVec.toNat = n := by
    show (BitVec.ofNat 32 n).toNat = n
    rw [BitVec.toNat_ofNat]
    exact Nat.mod_eq_of_lt (by omega)
  rw [this]
theorem two_e {n : Nat} (hn : n < 65536) : n / 2 ^ (8 * 0) % 256 + 256 * (n / 2 ^ (8 * 1) % 256) = n := by
  rw [show (2 : Nat) ^ (8 * 0) = 1 from rfl, show (2 : Nat) ^ (8 * 1) = 256 from rfl]
  omega
theorem itp_s {E : List Et} {x : Et} (h : eK x = 1) : itp (E ++ [x]) = itp E ++ [(els E + hL1 x, x)] ∧ rcp (E ++ [x]) = rcp E := by
  unfold itp rcp
  rw [pse_a, List.filter_append, List.filter_append, pse, pse, Nat.zero_add]
  simp [h]
theorem rcp_s {E : List Et} {x : Et} (h : ¬ eK x = 1) : itp (E ++ [x]) = itp E ∧ rcp (E ++ [x]) = rcp E ++ [(els E + hL1 x, x)] := by
  unfold itp rcp
  rw [pse_a, List.filter_append, List.filter_append, pse, pse, Nat.zero_add]
  simp [h]
theorem gA {α : Type} {L : List α} {z y : α} {j : Nat} (h : (L ++ [z])[j]? = some y) : (j < L.length ∧ L[j]? = some y) ∨ (j = L.length ∧ y = z) := by
  by_cases c : j < L.length
  · rw [List.getElem?_append_left c] at h
    exact Or.inl ⟨c, h⟩
  · rw [List.getElem?_append_right (by omega)] at h
    have h1 := (List.getElem?_eq_some_iff.mp h).1
    simp at h1
    have : j - L.length = 0 := by omega
    rw [this] at h
    simp at h
    exact Or.inr ⟨by omega, h.symm⟩
theorem PrR_i {E1 : List Et} {x : Et} (h : PrR E1 σ) (hx : eK x = 1) : PrR (E1 ++ [x]) (my_uI (my_uI (my_uI σ 548 (itp E1).length (Int32.ofNat (els E1 + 5))) 549 (itp E1).length (Int32.ofNat (els E1 + el x))) 498 90 (Int32.ofNat ((itp E1).length + 1))) := by
  obtain ⟨s1, s2⟩ := itp_s (E := E1) hx
  have hl : hL1 x = 5 := if_pos hx
  have he : el x = hL1 x + 1 + (eN x).length + (eC x).length := rfl
  obtain ⟨⟨h1, h2⟩, h3, h4⟩ := h
  unfold PrR
  rw [s1, s2, List.length_append, List.length_singleton]
  refine ⟨⟨uI_s, fun j y hy => ?_⟩, ?_, fun j y hy => ?_⟩
  · rcases gA hy with ⟨q1, q2⟩ | ⟨q1, q2⟩
    · refine ⟨?_, ?_⟩
      · rw [my_uI_1, if_neg (by omega), my_uI_1, if_neg (by omega), my_uI_1, if_neg (by omega)]; exact (h2 j y q2).1
      · rw [my_uI_1, if_neg (by omega), my_uI_1, if_neg (by omega), my_uI_1, if_neg (by omega)]; exact (h2 j y q2).2
    · rw [q2]
      refine ⟨?_, ?_⟩
      · rw [my_uI_1, if_neg (by omega), my_uI_1, if_neg (by omega), my_uI_1, if_pos ⟨rfl, q1⟩, hl]
      · rw [my_uI_1, if_neg (by omega), my_uI_1, if_pos ⟨rfl, q1⟩]
        congr 1
        dsimp only
        omega
  · rw [my_uI_1, if_neg (by omega), my_uI_1, if_neg (by omega), my_uI_1, if_neg (by omega)]; exact h3
  · rw [my_uI_1, if_neg (by omega), my_uI_1, if_neg (by omega), my_uI_1, if_neg (by omega)]; exact h4 j y hy
theorem PrR_r {E1 : List Et} {x : Et} (h : PrR E1 σ) (hx : ¬ eK x = 1) : PrR (E1 ++ [x]) (my_uI (my_uI σ 550 (rcp E1).length (Int32.ofNat (els E1 + 3))) 498 93 (Int32.ofNat ((rcp E1).length + 1))) := by
  obtain ⟨s1, s2⟩ := rcp_s (E := E1) hx
  have hl : hL1 x = 3 := if_neg hx
  obtain ⟨⟨h1, h2⟩, h3, h4⟩ := h
  unfold PrR
  rw [s1, s2, List.length_append, List.length_singleton]
  refine ⟨⟨?_, fun j y hy => ?_⟩, uI_s, fun j y hy => ?_⟩
  · rw [my_uI_1, if_neg (by omega), my_uI_1, if_neg (by omega)]; exact h1
  · rw [my_uI_1, if_neg (by omega), my_uI_1, if_neg (by omega), my_uI_1, if_neg (by omega), my_uI_1, if_neg (by omega)]; exact h2 j y hy
  · rw [my_uI_1, if_neg (by omega), my_uI_1]
    rcases gA hy with ⟨q1, q2⟩ | ⟨q1, q2⟩
    · rw [if_neg (by omega)]; exact h4 j y q2
    · rw [if_pos ⟨rfl, q1⟩, q2, hl]
theorem en_x {E1 E2 : List Et} {x : Et} {i : Nat} {b : Int32} (h : (e1 x (nit E1))[i]? = some b) : (en (E1 ++ x :: E2) 0 ++ T)[els E1 + i]? = some b := by
  have hi := (List.getElem?_eq_some_iff.mp h).1
  rw [en_a, en, Nat.zero_add, List.append_assoc, List.getElem?_append_right (by rw [en_l]; omega), en_l, show els E1 + i - els E1 = i by omega, List.append_assoc, List.getElem?_append_left hi]
  exact h
theorem eh_b {x : Et} {k : Nat} (hk : eK x = 1 ∨ eK x = 2) : (e1 x k)[0]? = some (bt (Int32.ofNat (el x - 2)) (Int32.ofNat 0)) ∧ (e1 x k)[1]? = some (bt (Int32.ofNat (el x - 2)) (Int32.ofNat 1)) ∧ (e1 x k)[2]? = some (bt (Int32.ofNat (eK x)) (Int32.ofNat 0)) := by
  unfold e1 eh
  have he : el x = hL1 x + 1 + (eN x).length + (eC x).length := rfl
  by_cases c : eK x = 1
  · have hl : hL1 x = 5 := if_pos c
    rw [if_pos c, show el x - 2 = 4 + (eN x).length + (eC x).length by omega, c]
    exact ⟨rfl, rfl, rfl⟩
  · have hl : hL1 x = 3 := if_neg c
    have c2 : eK x = 2 := by omega
    rw [if_neg c, show el x - 2 = 2 + (eN x).length + (eC x).length by omega, c2]
    exact ⟨rfl, rfl, rfl⟩
theorem itp_pre {E1 E2 : List Et} : (itp E1).length ≤ (itp (E1 ++ E2)).length ∧ (rcp E1).length ≤ (rcp (E1 ++ E2)).length := by
  unfold itp rcp
  rw [pse_a, List.filter_append, List.filter_append, List.length_append, List.length_append]
  omega
theorem r_284l (hW : LgW E) (hT : els E + T.length ≤ 7747) (ht : tlB T) (hd : 2 ≤ d) (hQ : ∀ σ', PrR E σ' → σ'.1 498 95 = Int32.ofNat (els E) → eqp plF σ σ' → Q (.inl none) κ σ') : ∀ (E2 E1 : List Et) (σ' : my_S), E = E1 ++ E2 → LgR E T σ' → PrR E1 σ' → eqp plF σ σ' → ys_284_14 e d (Int32.ofNat (els E1)) 1 κ σ' Q := by
  have hnW := LgW_n hW
  intro E2
  induction E2 with
  | nil =>
    intro E1 σ' hE hR hP f
    rw [List.append_nil] at hE
    subst hE
    have stop : ys_284_48 e d (Int32.ofNat (els E)) κ σ' Q := by
      unfold ys_284_48 ys_284_49
      rw [if_pos rfl]
      refine ys_284_14_ok ?_
      unfold ys_284_14
      rw [if_pos rfl]
      have f2 : eqp (fun c k => c = 498 ∧ k = 95) σ' (my_uI σ' 498 95 (Int32.ofNat (els E))) := eqp_I eqp_rf ⟨rfl, rfl⟩
      exact hQ _ (PrR_o hP f2 (fun c k hh => by omega)) uI_s (eqp_tr f (eqp_mo f2 (fun c k hh => by unfold plF; omega)))
    unfold ys_284_14
    rw [if_neg (by decide), hR.1, show (2 : Int32) = Int32.ofNat 2 from rfl, oN_a]
    refine my_if (fun _ => stop) (fun c => ?_)
    have c1 : ¬ els E + T.length < els E + 2 := fun hh => c ((oN_lt (by omega) (by omega)).mpr hh)
    have hT2 : T.length < 2 + g2 T 0 := by
      rcases ht with ht | ht
      · omega
      · exact ht
    obtain ⟨b0, hb0, hb0'⟩ := g1_e (C := T) (i := 0) (by omega)
    obtain ⟨b1, hb1, hb1'⟩ := g1_e (C := T) (i := 1) (by omega)
    have q0 := hR.2 (els E) b0 (by rw [List.getElem?_append_right (by rw [en_l]; omega), en_l, Nat.sub_self]; exact hb0)
    have q1 := hR.2 (els E + 1) b1 (by rw [List.getElem?_append_right (by rw [en_l]; omega), en_l, show els E + 1 - els E = 1 by omega]; exact hb1)
    rw [hb0'] at q0
    rw [hb1'] at q1
    refine r_285 (by omega) q0 q1 (by omega) ?_
    rw [my_kI_v, hR.1, oN_a]
    have g := g2_lt T 0
    have ge : g2 T 0 = g1 T 0 + 256 * g1 T 1 := rfl
    rw [if_pos ((oN_lt (by omega) (by omega)).mpr (by omega))]
    exact stop
  | cons x E2 ih =>
    intro E1 σ' hE hR hP f
    have hels : els E = els E1 + (el x + els E2) := by rw [hE, els_a, els]
    have hpre : (itp E1).length ≤ (itp E).length ∧ (rcp E1).length ≤ (rcp E).length := by rw [hE]; exact itp_pre
    have hw := hW.1
    rw [hE] at hw
    have hwx := (wfl_a.mp hw).2.1
    have he : el x = hL1 x + 1 + (eN x).length + (eC x).length := rfl
    have hk : eK x = 1 ∨ eK x = 2 := by
      rcases hwx.2.2.2 with hh | hh
      · exact Or.inl hh.1
      · exact Or.inr hh.1
    have hl3 : 3 ≤ hL1 x := by unfold hL1; split <;> omega
    obtain ⟨p0, p1, p2⟩ := eh_b (k := nit E1) hk
    have hW2 := hW.2
    have q0 := hR.2 (els E1 + 0) _ (by rw [hE]; exact en_x p0)
    have q1 := hR.2 (els E1 + 1) _ (by rw [hE]; exact en_x p1)
    have q2 := hR.2 (els E1 + 2) _ (by rw [hE]; exact en_x p2)
    rw [bt_o (by omega) (by omega)] at q0 q1 q2
    rw [show eK x / 2 ^ (8 * 0) % 256 = eK x by rw [show (2 : Nat) ^ (8 * 0) = 1 from rfl]; omega] at q2
    have hE2 : E = (E1 ++ [x]) ++ E2 := by rw [hE, List.append_assoc]; rfl
    have hels2 : els (E1 ++ [x]) = els E1 + el x := by rw [els_a, els, els]; rfl
    unfold ys_284_14
    rw [if_neg (by decide), hR.1, show (2 : Int32) = Int32.ofNat 2 from rfl, oN_a, if_neg (fun hh => by have := (oN_lt (by omega) (by omega)).mp hh; omega)]
    refine r_285 (by omega) q0 q1 (by omega) ?_
    rw [my_kI_v, two_e (by omega), hR.1, oN_a, if_neg (fun hh => by have := (oN_lt (by omega) (by omega)).mp hh; omega)]
    unfold ys_284_49
    rw [if_neg (by decide)]
    refine r_285 (by omega) q0 q1 (by omega) ?_
    rw [my_kI_v, two_e (by omega), show (2 : Int32) = Int32.ofNat 2 from rfl, oN_a, oN_a, oN_n (by omega), q2, show els E1 + 2 + (el x - 2) = els E1 + el x by omega]
    refine ⟨bdk (by omega) (by omega), my_if (fun c => ?_) (fun c => ?_)⟩
    · have c1 : eK x = 1 := (oN_e (b := 1) (by omega) (by omega)).mp c
      rw [hP.1.1, oN_n (by omega), show (5 : Int32) = Int32.ofNat 5 from rfl, oN_a, oN_s]
      refine ⟨bdk (by omega) (by omega), bdk (by omega) (by omega), ?_⟩
      unfold ys_284_133
      have g1 := PrR_i hP c1
      have f1 : eqp plF σ' (my_uI (my_uI (my_uI σ' 548 (itp E1).length (Int32.ofNat (els E1 + 5))) 549 (itp E1).length (Int32.ofNat (els E1 + el x))) 498 90 (Int32.ofNat ((itp E1).length + 1))) := eqp_I (eqp_I (eqp_I eqp_rf (Or.inr (by omega))) (Or.inr (by omega))) (Or.inl (by omega))
      generalize my_uI (my_uI (my_uI σ' 548 (itp E1).length (Int32.ofNat (els E1 + 5))) 549 (itp E1).length (Int32.ofNat (els E1 + el x))) 498 90 (Int32.ofNat ((itp E1).length + 1)) = σ1 at g1 f1 ⊢
      rw [← hels2]
      exact ys_284_14_ok (ih (E1 ++ [x]) σ1 hE2 (LgR_o hR f1 (fun c k hh => by unfold plF at hh; omega)) g1 (eqp_tr f f1))
    · have c1 : ¬ eK x = 1 := fun hh => c (by rw [hh]; rfl)
      rw [hP.2.1, oN_n (by omega), show (3 : Int32) = Int32.ofNat 3 from rfl, oN_a, oN_s]
      refine ⟨bdk (by omega) (by omega), ?_⟩
      unfold ys_284_133
      have g1 := PrR_r hP c1
      have f1 : eqp plF σ' (my_uI (my_uI σ' 550 (rcp E1).length (Int32.ofNat (els E1 + 3))) 498 93 (Int32.ofNat ((rcp E1).length + 1))) := eqp_I (eqp_I eqp_rf (Or.inr (by omega))) (Or.inl (by omega))
      generalize my_uI (my_uI σ' 550 (rcp E1).length (Int32.ofNat (els E1 + 3))) 498 93 (Int32.ofNat ((rcp E1).length + 1)) = σ1 at g1 f1 ⊢
      rw [← hels2]
      exact ys_284_14_ok (ih (E1 ++ [x]) σ1 hE2 (LgR_o hR f1 (fun c k hh => by unfold plF at hh; omega)) g1 (eqp_tr f f1))
theorem r_284 (hW : LgW E) (h : LgR E T σ) (hT : els E + T.length ≤ 7747) (ht : tlB T) (hd : 3 ≤ d) (hQ : ∀ σ', PrR E σ' → σ'.1 498 95 = Int32.ofNat (els E) → eqp plF σ σ' → Q (.inl none) κ σ') : my_M e d 284 [.inr (.inr (some 498))] κ σ Q := by
  obtain ⟨d, rfl⟩ := dS 1 (show 1 ≤ d by omega)
  refine ys_284 ?_
  unfold ys_284_0
  have f1 : eqp plF σ (my_uI (my_uI σ 498 90 0) 498 93 0) := eqp_I (eqp_I eqp_rf (Or.inl (by omega))) (Or.inl (by omega))
  have p1 : PrR [] (my_uI (my_uI σ 498 90 0) 498 93 0) := ⟨⟨by rw [my_uI_1, if_neg (by omega)]; exact uI_s, fun j y hy => by simp [itp, pse] at hy⟩, uI_s, fun j y hy => by simp [rcp, pse] at hy⟩
  generalize my_uI (my_uI σ 498 90 0) 498 93 0 = σ1 at f1 p1 ⊢
  exact ys_284_14_ok (r_284l hW hT ht (by omega) (fun σ' a b f => hQ σ' a b (eqp_tr f1 f)) E [] σ1 rfl (LgR_o h f1 (fun c k hh => by unfold plF at hh; omega)) p1 eqp_rf)
end MLR
