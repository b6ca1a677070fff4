/-! ===== words; tokens of names and numbers ===== -/
theorem lg_cmp_0 {x y : Int64} : lg_cmp x y = 0 ↔ x = y := by
  constructor
  · intro h
    unfold lg_cmp at h
    split at h
    · exact absurd h (by decide)
    · split at h
      · assumption
      · exact absurd h (by decide)
  · rintro rfl; exact lg_cmp_self x
def kwC (σ : my_S) : Prop := ∀ j : Nat, j < 17 → σ.2.1 38 j = nmC (kw.getD j [])
def kwR (σ : my_S) : Prop := ∀ j : Nat, j < 17 → σ.2.1 500 j = nmR (kw.getD j [])
def kx (l : List Nat) : Option Nat := kwi kw l 0
theorem kw_at {j : Nat} (h : j < 17) : ∃ r, kw.drop j = kw.getD j [] :: r ∧ r = kw.drop (j + 1) := by
  have hl : kw.length = 17 := rfl
  refine ⟨kw.drop (j + 1), ?_, rfl⟩
  rw [List.drop_eq_getElem_cons (by omega)]
  congr 1
  simp [List.getD_eq_getElem?_getD, List.getElem?_eq_getElem (show j < kw.length by omega)]
theorem kw_N {j : Nat} (h : j < 17) : isN (kw.getD j []) := by
  have hl : kw.length = 17 := rfl
  apply kw_isN
  have : kw.getD j [] = kw[j]'(by omega) := by simp [List.getD_eq_getElem?_getD, List.getElem?_eq_getElem (show j < kw.length by omega)]
  rw [this]
  exact List.getElem_mem _
/-- the token of a name, in the class, in the reference -/
def ktC (l : List Nat) : Int32 := match kx l with
  | some j => 300 + Int32.ofNat j
  | none => 2
def ktR (l : List Nat) : Int32 := match kx l with
  | some j => 10 + Int32.ofNat j
  | none => 2
section MYT
variable {e : my_E} {d : Nat} {κ : my_K} {σ : my_S} {Q : my_O → my_K → my_S → Prop} {t : Nat → Int32} {n p : Nat} {l : List Nat}
theorem c_50_l (hw : kwC σ) (hl : isN l) : ∀ (m j : Nat), j + m = 17 → Q (.inl (some (.inl (match kwi (kw.drop j) l j with | some i => 300 + Int32.ofNat i | none => 2)))) κ σ → ys_50_2 e d (nmC l) (Int32.ofNat j) κ σ Q := by
  intro m
  induction m with
  | zero =>
    intro j hj hQ
    have : j = 17 := by omega
    subst this
    unfold ys_50_2
    rw [if_neg (by decide)]
    exact hQ
  | succ m ih =>
    intro j hj hQ
    have hj17 : j < 17 := by omega
    obtain ⟨r, hr, hr2⟩ := kw_at hj17
    unfold ys_50_2
    rw [if_pos (show Int32.ofNat j < 17 from (oN_lt (n := 17) (by omega) (by omega)).mpr hj17), oN_n (by omega), hw j hj17]
    refine ⟨⟨by rw [oN_i (by omega)]; omega, by rw [oN_i (by omega)]; omega⟩, ?_⟩
    rw [hr] at hQ
    unfold kwi at hQ
    by_cases h : kw.getD j [] = l
    · rw [if_pos (lg_cmp_0.mpr (by rw [h]))]
      rw [if_pos h] at hQ
      exact hQ
    · rw [if_neg (fun hh => h ((nmC_inj (kw_N hj17) hl).mp (lg_cmp_0.mp hh))), oN_s]
      rw [if_neg h, hr2] at hQ
      exact ys_50_2_ok (ih (j + 1) (by omega) hQ)
theorem c_50 (hw : kwC σ) (hl : isN l) (hQ : Q (.inl (some (.inl (ktC l)))) κ σ) : my_M e (d + 1) 50 [.inr (.inr (some 33)), .inr (.inl (nmC l))] κ σ Q := by
  refine ys_50 ?_
  unfold ys_50_0
  exact ys_50_2_ok (c_50_l hw hl 17 0 (by omega) hQ)
theorem r_221_w (hw : kwR σ) (hl : isN l) (h8 : σ.2.1 498 8 = nmR l) : ∀ (m j : Nat), j + m = 17 → Q (.inl (some (.inl (match kwi (kw.drop j) l j with | some i => 10 + Int32.ofNat i | none => 2)))) κ σ → ys_221_102 e d (Int32.ofNat j) κ σ Q := by
  intro m
  induction m with
  | zero =>
    intro j hj hQ
    have : j = 17 := by omega
    subst this
    unfold ys_221_102
    rw [if_neg (by decide)]
    exact hQ
  | succ m ih =>
    intro j hj hQ
    have hj17 : j < 17 := by omega
    obtain ⟨r, hr, hr2⟩ := kw_at hj17
    unfold ys_221_102
    rw [if_pos (show Int32.ofNat j < 17 from (oN_lt (n := 17) (by omega) (by omega)).mpr hj17), oN_n (by omega), hw j hj17, h8]
    refine ⟨⟨by rw [oN_i (by omega)]; omega, by rw [oN_i (by omega)]; omega⟩, ?_⟩
    rw [hr] at hQ
    unfold kwi at hQ
    by_cases h : kw.getD j [] = l
    · rw [if_pos (lg_cmp_0.mpr (by rw [h]))]
      rw [if_pos h] at hQ
      exact hQ
    · rw [if_neg (fun hh => h ((nmR_inj (kw_N hj17) hl).mp (lg_cmp_0.mp hh))), oN_s]
      rw [if_neg h, hr2] at hQ
      exact ys_221_102_ok (ih (j + 1) (by omega) hQ)
theorem stN_L {a c : Int64} {b : Int32} : stN (my_uL σ 498 8 c) a b = stN σ a b := by
  unfold stN my_uI my_uL
  refine Prod.ext ?_ (Prod.ext ?_ rfl)
  · rfl
  · funext x j
    simp only
    split <;> rfl
theorem kwR_N {a : Int64} {b : Int32} (h : kwR σ) : kwR (stN σ a b) := fun j hj => by
  rw [← h j hj]; unfold stN; simp [my_uI, my_uL]
/-- nameToken -/
theorem r_221 (ht : txt t n) (hx : txR t n σ) (hw : kwR σ) (hp : p ≤ n) (h6 : σ.1 498 6 = Int32.ofNat p) (h5 : σ.1 498 5 = Int32.ofNat p)
    (hQ : Q (.inl (some (.inl (if 8 < ll t (n - p) p then 1 else ktR (lw t p (ll t (n - p) p)))))) κ (stN σ (nR t p (ll t (n - p) p)) (Int32.ofNat (p + ll t (n - p) p)))) : my_M e (d + 2) 221 [.inr (.inr (some 498))] κ σ Q := by
  have hn := ht.1
  have hle := ll_le t (n - p) p
  refine ys_221 ?_
  unfold ys_221_0
  have hx0 : txR t n (my_uL σ 498 8 0) := hx
  refine ys_221_5_ok (r_221_l (p := p) ht (n - p) 0 _ hx0 (by omega) h6 h5 (by simp [my_uL, nR]) ?_)
  simp only [Nat.zero_add, Nat.add_zero]
  rw [stN_L]
  unfold ys_221_84
  have e6 : (stN σ (nR t p (ll t (n - p) p)) (Int32.ofNat (p + ll t (n - p) p))).1 498 6 = Int32.ofNat (p + ll t (n - p) p) := by unfold stN; rw [my_uI_1, if_pos ⟨rfl, rfl⟩]
  have e5 : (stN σ (nR t p (ll t (n - p) p)) (Int32.ofNat (p + ll t (n - p) p))).1 498 5 = Int32.ofNat p := by unfold stN; rw [my_uI_1, if_neg (by decide)]; exact h5
  have e8 : (stN σ (nR t p (ll t (n - p) p)) (Int32.ofNat (p + ll t (n - p) p))).2.1 498 8 = nR t p (ll t (n - p) p) := by unfold stN; simp [my_uI, my_uL]
  rw [e6, e5, oN_d]
  by_cases h8 : 8 < ll t (n - p) p
  · rw [if_pos (show (8 : Int32) < Int32.ofNat _ from (oN_lt (p := 8) (by omega) (by omega)).mpr h8)]
    rw [if_pos h8] at hQ
    exact hQ
  · rw [if_neg (fun hh : (8 : Int32) < Int32.ofNat _ => h8 ((oN_lt (p := 8) (by omega) (by omega)).mp hh))]
    rw [if_neg h8] at hQ
    have hl := ll_lets t (n - p) p
    have hN := lw_isN (by omega) hl
    rw [nR_nm (by omega) hl] at e8 hQ ⊢
    exact ys_221_102_ok (r_221_w (kwR_N hw) hN e8 17 0 (by omega) hQ)
/-- numberToken -/
theorem r_222 (ht : txt t n) (hx : txR t n σ) (hp : p ≤ n) (h6 : σ.1 498 6 = Int32.ofNat p) (h5 : σ.1 498 5 = Int32.ofNat p)
    (hQ : Q (.inl (some (.inl (if 6 < dl t (n - p) p then 1 else 3)))) κ (stV σ (vR t p (dl t (n - p) p)) (Int32.ofNat (p + dl t (n - p) p)))) : my_M e (d + 2) 222 [.inr (.inr (some 498))] κ σ Q := by
  have hn := ht.1
  have hle := dl_le t (n - p) p
  refine ys_222 ?_
  unfold ys_222_0
  have hx0 : txR t n (my_uI σ 498 7 0) := by
    refine ⟨?_, fun j hj => ?_⟩
    · rw [my_uI_1, if_neg (by decide)]; exact hx.1
    · rw [my_uI_1, if_neg (by omega)]; exact hx.2 j hj
  have q6 : (my_uI σ 498 7 0).1 498 6 = Int32.ofNat (p + 0) := by rw [my_uI_1, if_neg (by decide)]; exact h6
  have q5 : (my_uI σ 498 7 0).1 498 5 = Int32.ofNat p := by rw [my_uI_1, if_neg (by decide)]; exact h5
  refine ys_222_5_ok (r_222_l (p := p) ht (n - p) 0 _ hx0 (by omega) q6 q5 (by rw [my_uI_1, if_pos ⟨rfl, rfl⟩]; rfl) ?_)
  have eV : ∀ a b, stV (my_uI σ 498 7 0) a b = stV σ a b := fun a b => by
    unfold stV; rw [uI_uI]
  simp only [Nat.zero_add, Nat.add_zero]
  rw [eV]
  unfold ys_222_88
  have e6 : (stV σ (vR t p (dl t (n - p) p)) (Int32.ofNat (p + dl t (n - p) p))).1 498 6 = Int32.ofNat (p + dl t (n - p) p) := by unfold stV; rw [my_uI_1, if_pos ⟨rfl, rfl⟩]
  have e5 : (stV σ (vR t p (dl t (n - p) p)) (Int32.ofNat (p + dl t (n - p) p))).1 498 5 = Int32.ofNat p := by unfold stV; rw [my_uI_1, if_neg (by decide), my_uI_1, if_neg (by decide)]; exact h5
  rw [e6, e5, oN_d]
  by_cases h8 : 6 < dl t (n - p) p
  · rw [if_pos (show (6 : Int32) < Int32.ofNat _ from (oN_lt (p := 6) (by omega) (by omega)).mpr h8)]
    rw [if_pos h8] at hQ
    exact hQ
  · rw [if_neg (fun hh : (6 : Int32) < Int32.ofNat _ => h8 ((oN_lt (p := 6) (by omega) (by omega)).mp hh))]
    rw [if_neg h8] at hQ
    exact hQ
/-- a token is noted by the class -/
def addT (σ : my_S) (c : Nat) (kd fr : Int32) (w : Int64) : my_S := my_uI (my_uL (my_uI (my_uI σ 35 c kd) 36 c fr) 37 c w) 33 5 (Int32.ofNat (c + 1))
theorem c_51 {c : Nat} {kd fr : Int32} {w : Int64} (hc : σ.1 33 5 = Int32.ofNat c) (hlt : c < 1501) (hQ : Q (.inl none) κ (addT σ c kd fr w)) : my_M e (d + 1) 51 [.inr (.inr (some 33)), .inl kd, .inl fr, .inr (.inl w)] κ σ Q := by
  refine ys_51 ?_
  unfold ys_51_0
  have b : my_bd (Int32.ofNat c) 1501 := ⟨by rw [oN_i (by omega)]; omega, by rw [oN_i (by omega)]; omega⟩
  rw [hc, if_neg (oN_0 (by omega)), if_pos (show Int32.ofNat c < 1501 from (oN_lt (n := 1501) (by omega) (by omega)).mpr hlt), oN_n (by omega), oN_s]
  exact ⟨b, b, b, hQ⟩
/-- scanName -/
theorem c_49 {c : Nat} (ht : txt t n) (hx : txC t n σ) (hw : kwC σ) (hp : p ≤ n) (hc : σ.1 33 5 = Int32.ofNat c) (hlt : c < 1501)
    (hQ : Q (.inl (some (.inl (Int32.ofNat (ll t (n - p) p))))) κ (addT σ c (if 8 < ll t (n - p) p then 1 else ktC (lw t p (ll t (n - p) p))) (Int32.ofNat p) (nC t p (ll t (n - p) p)))) : my_M e (d + 3) 49 [.inr (.inr (some 33)), .inl (Int32.ofNat p)] κ σ Q := by
  have hn := ht.1
  have hle := ll_le t (n - p) p
  refine ys_49 ?_
  unfold ys_49_0
  refine ys_49_4_ok (c_49_l (p := p) ht hx (n - p) 0 (by omega) ?_)
  simp only [Nat.zero_add, Nat.add_zero]
  unfold ys_49_43
  by_cases h8 : 8 < ll t (n - p) p
  · rw [if_pos (show (8 : Int32) < Int32.ofNat _ from (oN_lt (p := 8) (by omega) (by omega)).mpr h8)]
    rw [if_pos h8] at hQ
    unfold ys_49_59
    exact c_51 hc hlt (by rw [my_k0_v]; exact hQ)
  · rw [if_neg (fun hh : (8 : Int32) < Int32.ofNat _ => h8 ((oN_lt (p := 8) (by omega) (by omega)).mp hh))]
    rw [if_neg h8] at hQ
    have hl := ll_lets t (n - p) p
    have hN := lw_isN (by omega) hl
    rw [nC_nm (by omega) hl] at hQ ⊢
    refine c_50 hw hN ?_
    rw [my_kI_v]
    unfold ys_49_59
    exact c_51 hc hlt (by rw [my_k0_v]; exact hQ)
/-- scanNumber -/
theorem c_53 {c : Nat} (ht : txt t n) (hx : txC t n σ) (hp : p ≤ n) (hc : σ.1 33 5 = Int32.ofNat c) (hlt : c < 1501)
    (hQ : Q (.inl (some (.inl (Int32.ofNat (dl t (n - p) p))))) κ (addT σ c (if 6 < dl t (n - p) p then 1 else 3) (Int32.ofNat p) (vC t p (dl t (n - p) p)).toInt64)) : my_M e (d + 3) 53 [.inr (.inr (some 33)), .inl (Int32.ofNat p)] κ σ Q := by
  have hn := ht.1
  have hle := dl_le t (n - p) p
  refine ys_53 ?_
  unfold ys_53_0
  refine ys_53_4_ok (c_53_l (p := p) ht hx (n - p) 0 (by omega) ?_)
  simp only [Nat.zero_add, Nat.add_zero]
  unfold ys_53_46
  by_cases h8 : 6 < dl t (n - p) p
  · rw [if_pos (show (6 : Int32) < Int32.ofNat _ from (oN_lt (p := 6) (by omega) (by omega)).mpr h8)]
    rw [if_pos h8] at hQ
    unfold ys_53_58
    exact c_51 hc hlt (by rw [my_k0_v]; exact hQ)
  · rw [if_neg (fun hh : (6 : Int32) < Int32.ofNat _ => h8 ((oN_lt (p := 6) (by omega) (by omega)).mp hh))]
    rw [if_neg h8] at hQ
    unfold ys_53_58
    exact c_51 hc hlt (by rw [my_k0_v]; exact hQ)
end MYT
