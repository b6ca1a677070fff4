
/-! ===== the reference: which tests are picked, and which goes next ===== -/
def FPk (As : List Ri) (I : List It) (E : List Et) (n : Nat) (σ : my_S) : Prop := ∀ t k a, t < n → fkA As 3 (Int32.ofNat t) As.length 0 = some k → As[k]? = some a → σ.1 569 t = (if rsn E As I k a = 0 then 0 else 1) ∧ σ.1 568 t = Int32.ofNat (est E (riN a))
section MFP
variable {As : List Ri} {I : List It} {rv : Nat} {e : my_E} {d : Nat} {κ : my_K} {σ σ' : my_S} {Q : my_O → my_K → my_S → Prop} {E : List Et}
theorem f_283l (hU : nmU As) (ld : LD As I rv σ) (hW : LgW E) (hT : LgT E) (hR : LgR E [] σ) (hP : PrR E σ) (hd : 7 ≤ d) (hQ : ∀ σ', FPk As I E (cnK As 3) σ' → eqp (fun c _ => c = 568 ∨ c = 569) σ σ' → Q (.inl none) κ σ') : ∀ (m t : Nat) (σ' : my_S), t + m = cnK As 3 → FPk As I E t σ' → eqp (fun c _ => c = 568 ∨ c = 569) σ σ' → ys_283_6 e d (Int32.ofNat t) κ σ' Q := by
  have hB := ld.1
  have hrv := ld.2.2.1
  have h42 := itsB_42 hB
  have h12 : cnK As 3 ≤ 12 := hB.1 3
  have hwL := hW.2
  intro m
  induction m with
  | zero =>
    intro t σ' ht h f
    have : t = cnK As 3 := by omega
    subst this
    have ld' : LD As I rv σ' := LD_o (LD_30 ld) ld f (fun c k hh => by unfold coF; omega)
    have h64 : σ'.1 498 64 = Int32.ofNat (cnK As 3) := ld'.2.2.2.2.2.2.2.2.2.2.2.2.2
    unfold ys_283_6
    rw [h64, if_neg (fun hh => by have := (oN_lt (by omega) (by omega)).mp hh; omega)]
    exact hQ σ' h f
  | succ m ih =>
    intro t σ' ht h f
    have ld' : LD As I rv σ' := LD_o (LD_30 ld) ld f (fun c k hh => by unfold coF; omega)
    have hR' : LgR E [] σ' := LgR_o hR f (fun c k hh => by omega)
    have hP' : PrR E σ' := PrR_o hP f (fun c k hh => by omega)
    obtain ⟨k, hk⟩ := (fkA_w (K := 3) hB (by omega) (show t < 2147483648 by omega)).1 (by omega)
    have hkl := fkA_lt hk
    have ha := List.getElem?_eq_getElem hkl
    generalize As[k] = a at ha
    have hk' : fkA As 3 (Int32.ofNat t) As.length 0 = some k := hk
    have hl := (hB.2 a (List.mem_of_getElem? ha)).2.1
    have h64 : σ'.1 498 64 = Int32.ofNat (cnK As 3) := ld'.2.2.2.2.2.2.2.2.2.2.2.2.2
    have hrs := rsn_h (I := I) hU hW hT ha
    -- the last part: the estimate
    have fin2 : ∀ (σ1 : my_S) (v : Int32), v = (if rsn E As I k a = 0 then 0 else 1) → σ1 = my_uI σ' 569 t v → ys_283_75 e d (Int32.ofNat t) (Int32.ofNat (est E (riN a))) (Int32.ofNat t) κ σ1 Q := by
      intro σ1 v hv hσ
      unfold ys_283_75
      rw [oN_n (by omega), oN_s]
      have f1 : eqp (fun c _ => c = 568 ∨ c = 569) σ' (my_uI σ1 568 t (Int32.ofNat (est E (riN a)))) := by rw [hσ]; exact eqp_I (eqp_I eqp_rf (Or.inr rfl)) (Or.inl rfl)
      refine ⟨bdk (by omega) (by omega), ys_283_6_ok (ih (t + 1) _ (by omega) (fun t' k' a' h1 h2 h3 => ?_) (eqp_tr f f1))⟩
      by_cases c : t' = t
      · subst c
        rw [hk'] at h2
        cases h2
        rw [ha] at h3
        cases h3
        refine ⟨?_, uI_s⟩
        rw [my_uI_1, if_neg (by omega), hσ, uI_s]
        exact hv
      · obtain ⟨q1, q2⟩ := h t' k' a' (by omega) h2 h3
        rw [hσ]
        refine ⟨?_, ?_⟩
        · rw [my_uI_1, if_neg (by omega), my_uI_1, if_neg (by omega)]; exact q1
        · rw [my_uI_1, if_neg (by omega), my_uI_1, if_neg (by omega)]; exact q2
    have fin : ∀ v, v = (if rsn E As I k a = 0 then (0 : Int32) else 1) → ys_283_48 e d (Int32.ofNat t) (fP (lrc (rcp E) (riN a) (rcp E).length)) v (Int32.ofNat t) κ σ' Q := by
      intro v hv
      unfold ys_283_48
      refine ⟨by rw [hv]; split <;> simp, bdk (by omega) (by omega), ?_⟩
      rw [oN_n (by omega)]
      have f1 : eqp (fun c _ => c = 568 ∨ c = 569) σ' (my_uI σ' 569 t v) := eqp_I eqp_rf (Or.inr rfl)
      cases hy : lrc (rcp E) (riN a) (rcp E).length with
      | none =>
        rw [if_pos (show fP none < 0 by decide)]
        have e0 : est E (riN a) = 3000 := by unfold est; rw [hy]
        have := fin2 _ v hv rfl
        rw [e0] at this
        exact this
      | some y =>
        obtain ⟨ym, yn⟩ := lrc_m hy
        obtain ⟨r1, r2, r3, r4, r5, r6⟩ := rec_w hW ym
        have yb := (pse_b r1).2
        have e0 : est E (riN a) = g2 (eC y.2) 4 := by unfold est; rw [hy]
        have hR1 : LgR E [] (my_uI σ' 569 t v) := LgR_o hR' f1 (fun c k hh => by omega)
        show if Int32.ofNat y.1 < 0 then _ else my_M e d 289 [.inr (.inr (some 498)), .inl (Int32.ofNat y.1)] κ _ _
        rw [if_neg (oN_0 (by omega))]
        refine r_289 hW hR1 r1 (by omega) ?_
        rw [my_kI_v]
        refine r_285y (i := 4) hW hR1 r1 (by omega) (by rw [show (4 : Int32) = Int32.ofNat 4 from rfl, oN_a]) (by omega) ?_
        rw [my_kI_v]
        have := fin2 _ v hv rfl
        rw [e0] at this
        exact this
    unfold ys_283_6
    rw [h64, if_pos ((oN_lt (by omega) (by omega)).mpr (by omega)), show (3 : Int32) = Int32.ofNat 3 from rfl]
    refine r_281 hB (fun k a ha => (ld'.2.2.2.2.2.2.2.2.1 k a ha).1) ld'.2.2.2.2.2.2.2.2.2.1 (by omega) (by omega) ?_
    rw [my_kI_v, hk]
    show my_bd (Int32.ofNat k) 48 ∧ my_M e d 286 [.inr (.inr (some 498)), .inr (.inl (σ'.2.1 530 (Int32.ofNat k).toNatClampNeg))] κ σ' _
    rw [oN_n (by omega), (ld'.2.2.2.2.2.2.2.2.1 k a ha).2.1]
    refine ⟨bdk (by omega) (by omega), r_286 hW hR' hP' hl (by omega) ?_⟩
    rw [my_kI_v]
    refine r_288 ld' hW hR' hP' (fun y hy => (lrc_m hy).1) (by omega) ?_
    rw [my_kI_v]
    by_cases c : hD E As I (lrc (rcp E) (riN a) (rcp E).length) = true
    · rw [c, if_neg (by decide)]
      exact fin 0 (by rw [if_pos (hrs.mp c)])
    · have c' : hD E As I (lrc (rcp E) (riN a) (rcp E).length) = false := by simpa using c
      rw [c', if_pos (show bI false = 0 from rfl)]
      exact fin 1 (by rw [if_neg (fun hh => c (hrs.mpr hh))])
theorem f_283 (hU : nmU As) (ld : LD As I rv σ) (hW : LgW E) (hT : LgT E) (hR : LgR E [] σ) (hd : 8 ≤ d) (hQ : ∀ σ', FPk As I E (cnK As 3) σ' → eqp (fun c k => plF c k ∨ c = 568 ∨ c = 569) σ σ' → Q (.inl none) κ σ') : my_M e d 283 [.inr (.inr (some 498))] κ σ Q := by
  obtain ⟨d, rfl⟩ := dS 1 (show 1 ≤ d by omega)
  have hrv := ld.2.2.1
  refine ys_283 ?_
  unfold ys_283_0
  refine r_284 hW hR (by have := hW.2; simpa using this) (Or.inl (by simp)) (by omega) (fun σ1 pr1 _ f1 => ?_)
  rw [my_k0_v]
  have ld1 : LD As I rv σ1 := LD_o (LD_30 ld) ld f1 (fun c q hh => by unfold plF at hh; unfold coF; omega)
  exact ys_283_6_ok (f_283l (σ := σ1) hU ld1 hW hT (LgR_o hR f1 (fun c k hh => by unfold plF at hh; omega)) pr1 (by omega) (fun σ2 h2 f2 => hQ σ2 h2 (eqp_tr (eqp_mo f1 (fun c k hh => Or.inl hh)) (eqp_mo f2 (fun c k hh => Or.inr hh)))) (cnK As 3) 0 σ1 (Nat.zero_add _) (fun t k a h => by omega) eqp_rf)
/-- the first of the greatest estimate -/
theorem f_295 {n : Nat} {pk : Nat → Bool} {es : Nat → Nat} (h64 : σ.1 498 64 = Int32.ofNat n) (hn : n ≤ 12) (hp : ∀ t, t < n → σ.1 569 t = bI (pk t)) (he : ∀ t, t < n → σ.1 568 t = Int32.ofNat (es t) ∧ es t < 65536) (hd : 1 ≤ d) (hQ0 : (∀ t, t < n → pk t = false) → Q (.inl (some (.inl (Int32.ofInt (-1))))) κ σ) (hQ1 : ∀ t, t < n → pk t = true → (∀ t', t' < n → pk t' = true → t' ≠ t → es t' < es t ∨ (es t = es t' ∧ t < t')) → Q (.inl (some (.inl (Int32.ofNat t)))) κ σ) : my_M e d 295 [.inr (.inr (some 498))] κ σ Q := by
  obtain ⟨d, rfl⟩ := dS 1 hd
  refine ys_295 ?_
  unfold ys_295_0
  have lp1 : ∀ (m t b : Nat), t + m = n → b < t → pk b = true → (∀ t', t' < t → pk t' = true → t' ≠ b → es t' < es b ∨ (es b = es t' ∧ b < t')) → ys_295_4 e d (Int32.ofNat b) (Int32.ofNat t) κ σ Q := by
    intro m
    induction m with
    | zero =>
      intro t b ht hb hpb hall
      have : t = n := by omega
      subst this
      unfold ys_295_4
      rw [h64, if_neg (fun hh => by have := (oN_lt (by omega) (by omega)).mp hh; omega)]
      exact hQ1 b hb hpb hall
    | succ m ih =>
      intro t b ht hb hpb hall
      obtain ⟨e1, e2⟩ := he t (by omega)
      obtain ⟨e3, e4⟩ := he b (by omega)
      have bt := bdk (k := t) (m := 12) (by omega) (by omega)
      have bb := bdk (k := b) (m := 12) (by omega) (by omega)
      unfold ys_295_4
      rw [h64, if_pos ((oN_lt (by omega) (by omega)).mpr (by omega)), oN_n (show t < 2147483648 by omega), oN_n (show b < 2147483648 by omega), hp t (by omega), e1, e3]
      refine ⟨bt, ?_⟩
      cases hpt : pk t with
      | false =>
        rw [if_pos (show bI false = 0 from rfl)]
        unfold ys_295_44 ys_295_45
        rw [oN_s]
        refine ys_295_4_ok (ih (t + 1) b (by omega) (by omega) hpb (fun t' h1 h2 h3 => ?_))
        by_cases c : t' = t
        · subst c; rw [hpt] at h2; cases h2
        · exact hall t' (by omega) h2 h3
      | true =>
        rw [if_neg (show ¬ bI true = 0 by decide), if_neg (oN_0 (by omega))]
        refine ⟨bt, bb, ?_⟩
        by_cases c : es b < es t
        · rw [if_pos ((oN_lt (by omega) (by omega)).mpr c)]
          unfold ys_295_40 ys_295_45
          rw [oN_s]
          refine ys_295_4_ok (ih (t + 1) t (by omega) (by omega) hpt (fun t' h1 h2 h3 => ?_))
          by_cases c2 : t' = b
          · subst c2; exact Or.inl c
          · have := hall t' (by omega) h2 c2
            omega
        · rw [if_neg (fun hh => c ((oN_lt (by omega) (by omega)).mp hh))]
          unfold ys_295_44 ys_295_45
          rw [oN_s]
          refine ys_295_4_ok (ih (t + 1) b (by omega) (by omega) hpb (fun t' h1 h2 h3 => ?_))
          by_cases c2 : t' = t
          · subst c2; omega
          · exact hall t' (by omega) h2 h3
  have lp0 : ∀ (m t : Nat), t + m = n → (∀ t', t' < t → pk t' = false) → ys_295_4 e d (Int32.ofInt (-1)) (Int32.ofNat t) κ σ Q := by
    intro m
    induction m with
    | zero =>
      intro t ht hall
      have : t = n := by omega
      subst this
      unfold ys_295_4
      rw [h64, if_neg (fun hh => by have := (oN_lt (by omega) (by omega)).mp hh; omega)]
      exact hQ0 hall
    | succ m ih =>
      intro t ht hall
      have bt := bdk (k := t) (m := 12) (by omega) (by omega)
      unfold ys_295_4
      rw [h64, if_pos ((oN_lt (by omega) (by omega)).mpr (by omega)), oN_n (show t < 2147483648 by omega), hp t (by omega)]
      refine ⟨bt, ?_⟩
      cases hpt : pk t with
      | false =>
        rw [if_pos (show bI false = 0 from rfl)]
        unfold ys_295_44 ys_295_45
        rw [oN_s]
        refine ys_295_4_ok (ih (t + 1) (by omega) (fun t' h1 => ?_))
        by_cases c : t' = t
        · subst c; exact hpt
        · exact hall t' (by omega)
      | true =>
        rw [if_neg (show ¬ bI true = 0 by decide), if_pos (show Int32.ofInt (-1) < 0 by decide)]
        unfold ys_295_40 ys_295_45
        rw [oN_s]
        refine ys_295_4_ok (lp1 m (t + 1) t (by omega) (by omega) hpt (fun t' h1 h2 h3 => ?_))
        have := hall t' (by omega)
        rw [this] at h2
        cases h2
  exact ys_295_4_ok (lp0 n 0 (Nat.zero_add _) (fun t' h => by omega))
end MFP
