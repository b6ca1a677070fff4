
/-! ===== the reference writes blocks ===== -/
theorem shr8 {n : Nat} (hn : n < 65536) : Int32.ofNat n >>> ((8 : Int32) &&& 31) = bt (Int32.ofNat n) (Int32.ofNat 1) &&& 255 := by
  rw [bt_o (by omega) (by omega)]
  apply Int32.toInt_inj.mp
  rw [shr_i (Int32.ofNat n) 8 ((8 : Int32) &&& 31) (by decide) (by omega), oN_i (by omega), oN_i (by have : n / 2 ^ (8 * 1) % 256 < 256 := Nat.mod_lt _ (by omega); omega), show (2 : Nat) ^ (8 * 1) = 256 from rfl, show (2 : Int) ^ 8 = 256 from rfl]
  omega
theorem low8 {n : Nat} (hn : n < 256) : Int32.ofNat n = bt (Int32.ofNat n) (Int32.ofNat 0) &&& 255 := by
  rw [bt_o (by omega) (by omega), show (2 : Nat) ^ (8 * 0) = 1 from rfl, Nat.div_one, Nat.mod_eq_of_lt hn]
section MRD
variable {e : my_E} {d : Nat} {κ : my_K} {σ σ' : my_S} {Q : my_O → my_K → my_S → Prop} {D : Nat → Int32} {n h ep : Nat} {w : Int32} {B : List Int32}
theorem f_326 (hs : WSr D n w σ) (hn : n < 2147483648) (hd : 1 ≤ d) (hQ1 : ∀ n', n = n' + 1 → ∀ σ', WSr D n' (w + 1) σ' → σ'.1 498 89 = σ.1 498 89 → eqp (fun c k => c = 498 ∧ (k = 87 ∨ k = 88)) σ σ' → Q (.inl (some (.inl 1))) κ σ') (hQ0 : n = 0 → ∀ σ', WSr D 0 w σ' → σ'.1 498 89 = 1 → eqp drF σ σ' → Q (.inl (some (.inl 0))) κ σ') : my_M e d 326 [.inr (.inr (some 498))] κ σ Q := by
  obtain ⟨d, rfl⟩ := dS 1 hd
  obtain ⟨g1, g2, g3⟩ := hs
  refine ys_326 ?_
  unfold ys_326_0
  rw [g2, g3]
  cases n with
  | zero =>
    rw [if_pos (show Int32.ofNat 0 = 0 from rfl)]
    have f : eqp (fun c k => c = 498 ∧ k = 89) σ (my_uI σ 498 89 1) := eqp_I eqp_rf ⟨rfl, rfl⟩
    exact hQ0 rfl _ (WSr_o ⟨g1, g2, g3⟩ f (fun c k hh => by omega)) uI_s (eqp_mo f (fun c k hh => by unfold drF; omega))
  | succ n' =>
    rw [if_neg (fun hh => by have := (oN_e1 (b := 0) (c := 0) rfl hn (by omega)).mp hh; omega), oN_m]
    have f : eqp (fun c k => c = 498 ∧ (k = 87 ∨ k = 88)) σ (my_uI (my_uI σ 498 88 (Int32.ofNat n')) 498 87 (w + 1)) := eqp_I (eqp_I eqp_rf ⟨rfl, Or.inr rfl⟩) ⟨rfl, Or.inl rfl⟩
    refine hQ1 n' rfl _ ⟨DR_o g1 f (fun c k hh => by omega), ?_, uI_s⟩ (eqp_g f (by omega)) f
    rw [my_uI_1, if_neg (by omega)]
    exact uI_s
theorem f_325l_547 {c a t : Nat} (hB : B.length ≤ 7747) (ha : a + 64 ≤ 16384) (hc : 61 * c < B.length) (hrow : ∀ i x, B[i]? = some x → σ.1 547 i = x &&& 255) (hQ : ∀ σ', DR (wBn D a (bkv ep t (blX B c)) 64) σ' → eqp (fun c _ => c = 546) σ σ' → Q (.inl none) κ σ') : ∀ (m j : Nat) (σ' : my_S), j + m = 61 → DR (wBn D a (bkv ep t (blX B c)) (3 + j)) σ' → eqp (fun c _ => c = 546) σ σ' → yw547_325_96 e d (Int32.ofNat (61 * c)) (Int32.ofNat (blX B c).length) (Int32.ofNat a) (Int32.ofNat j) κ σ' Q := by
  have hl := blX_l (B := B) (c := c)
  intro m
  induction m with
  | zero =>
    intro j σ' hj h f
    have : j = 61 := by omega
    subst this
    unfold yw547_325_96
    rw [if_neg (show ¬ Int32.ofNat 61 < 61 by decide)]
    exact hQ σ' h f
  | succ m ih =>
    intro j σ' hj h f
    have v0 : bkv ep t (blX B c) (3 + j) = ((blX B c)[j]?).getD 0 := by
      unfold bkv
      rw [if_neg (by omega), if_neg (by omega), if_neg (by omega), show 3 + j - 3 = j by omega]
    have e3 : (Int32.ofNat a + 3) + Int32.ofNat j = Int32.ofNat (a + (3 + j)) := by
      rw [show (3 : Int32) = Int32.ofNat 3 from rfl, oN_a, oN_a, Nat.add_assoc]
    unfold yw547_325_96
    rw [if_pos ((oN_lt1 (b := 61) (c := 61) rfl (by omega) (by omega)).mpr (by omega)), e3]
    by_cases c2 : j < (blX B c).length
    · rw [if_pos ((oN_lt (by omega) (by omega)).mpr c2), oN_a, oN_n (by omega)]
      refine ⟨bdk (by omega) (by omega), ?_⟩
      have hx := List.getElem?_eq_getElem c2
      generalize (blX B c)[j] = x at hx
      have hx2 := hx
      rw [blX_g (by omega)] at hx2
      unfold yw547_325_133
      rw [eqp_g f (by omega), hrow _ x hx2, oN_n (by omega), oN_s]
      refine ⟨bdk (by omega) (by omega), yw547_325_96_ok (ih (j + 1) _ (by omega) (DR_s h ?_) (eqp_I f rfl))⟩
      show x &&& 255 = bkv ep t (blX B c) (3 + j) &&& 255
      rw [v0, hx]
      rfl
    · rw [if_neg (fun hh => c2 ((oN_lt (by omega) (by omega)).mp hh))]
      unfold yw547_325_133
      rw [oN_n (by omega), oN_s]
      refine ⟨bdk (by omega) (by omega), yw547_325_96_ok (ih (j + 1) _ (by omega) (DR_s h ?_) (eqp_I f rfl))⟩
      show (0 : Int32) = bkv ep t (blX B c) (3 + j) &&& 255
      rw [v0, List.getElem?_eq_none (by omega)]
      decide
theorem f_325_547 {c : Nat} (hh1 : h ≤ 1) (hB : B.length ≤ 7747) (hc : 61 * c < B.length) (hep : ep < 65536) (hn : n < 2147483648) (hrow : ∀ i x, B[i]? = some x → σ.1 547 i = x &&& 255) (hs : WSr D n w σ) (h0 : σ.1 498 89 = 0) (hd : 2 ≤ d) (hQ1 : ∀ n', n = n' + 1 → ∀ σ', WSr (w1B h ep B c D) n' (w + 1) σ' → σ'.1 498 89 = 0 → eqp drF σ σ' → Q (.inl none) κ σ') (hQ0 : n = 0 → ∀ σ', WSr D 0 w σ' → σ'.1 498 89 = 1 → eqp drF σ σ' → Q (.inl none) κ σ') : my_M e d 325 [.inr (.inr (some 498)), .inl (Int32.ofNat h), .inl (Int32.ofNat ep), .inl (Int32.ofNat (c + 1)), .inr (.inr (some 547)), .inl (Int32.ofNat B.length)] κ σ Q := by
  obtain ⟨d, rfl⟩ := dS 1 (show 1 ≤ d by omega)
  have hl := blX_l (B := B) (c := c)
  refine yw547_325 ?_
  unfold yw547_325_0
  rw [if_pos h0]
  refine f_326 hs hn (by omega) (fun n' hn' σ1 s1 x1 f1 => ?_) (fun hn0 σ1 s1 x1 f1 => ?_)
  · rw [my_kI_v, if_neg (show ¬ (1 : Int32) = 0 by decide), oN_m, show (61 : Int32) * Int32.ofNat c = Int32.ofNat (61 * c) by rw [show (61 : Int32) = Int32.ofNat 61 from rfl, ← Int32.ofNat_mul], oN_sub (by omega)]
    have hw : ∀ i x, B[i]? = some x → σ1.1 547 i = x &&& 255 := fun i x hx => (eqp_g f1 (by omega)).trans (hrow i x hx)
    have e6 : (8192 : Int32) * Int32.ofNat h + 64 * Int32.ofNat (c + 1) = Int32.ofNat (8192 * h + 64 * (1 + c)) := by
      rw [show (8192 : Int32) = Int32.ofNat 8192 from rfl, show (64 : Int32) = Int32.ofNat 64 from rfl, ← Int32.ofNat_mul, ← Int32.ofNat_mul, oN_a, Nat.add_comm c 1]
    have key : yw547_325_43 e d (Int32.ofNat h) (Int32.ofNat ep) (Int32.ofNat (c + 1)) (Int32.ofNat (61 * c)) (Int32.ofNat (blX B c).length) κ σ1 Q := by
      unfold yw547_325_43
      rw [e6, oN_s, show Int32.ofNat (8192 * h + 64 * (1 + c)) + 2 = Int32.ofNat (8192 * h + 64 * (1 + c) + 2) by rw [show (2 : Int32) = Int32.ofNat 2 from rfl, oN_a], oN_n (by omega), oN_n (by omega), oN_n (by omega)]
      refine ⟨bdk (by omega) (by omega), bdk (by omega) (by omega), bdk (by omega) (by omega), ?_⟩
      have d0 : DR (wBn D (8192 * h + 64 * (1 + c)) (bkv ep (blX B c).length (blX B c)) 0) σ1 := by rw [wBn_0]; exact s1.1
      have d1 := DR_s (x := Int32.ofNat ep &&& 255) d0 (by rw [← bt_0]; rfl)
      have d2 := DR_s (x := Int32.ofNat ep >>> ((8 : Int32) &&& 31)) d1 (by rw [shr8 hep]; rfl)
      have d3 := DR_s (x := Int32.ofNat (blX B c).length) d2 (by rw [show bkv ep (blX B c).length (blX B c) (0 + 1 + 1) = bt (Int32.ofNat (blX B c).length) (Int32.ofNat 0) from rfl]; exact low8 (by omega))
      have f3 : eqp (fun c _ => c = 546) σ1 (my_uI (my_uI (my_uI σ1 546 (8192 * h + 64 * (1 + c) + 0) (Int32.ofNat ep &&& 255)) 546 (8192 * h + 64 * (1 + c) + 1) (Int32.ofNat ep >>> ((8 : Int32) &&& 31))) 546 (8192 * h + 64 * (1 + c) + 2) (Int32.ofNat (blX B c).length)) := eqp_I (eqp_I (eqp_I eqp_rf rfl) rfl) rfl
      refine yw547_325_96_ok (f_325l_547 (σ := σ1) (t := (blX B c).length) hB (by omega) hc hw (fun σ' h' f' => ?_) 61 0 _ (by omega) d3 f3)
      refine hQ1 n' hn' σ' ⟨h', (eqp_g f' (by omega)).trans s1.2.1, (eqp_g f' (by omega)).trans s1.2.2⟩ ((eqp_g f' (by omega)).trans (x1.trans h0)) (eqp_tr (eqp_mo f1 (fun c k hh => by unfold drF; omega)) (eqp_mo f' (fun c k hh => Or.inl hh)))
    by_cases c5 : 61 < B.length - 61 * c
    · rw [if_pos ((oN_lt2 (b := 61) (c := 61) rfl (by omega) (by omega)).mpr c5)]
      rw [show (blX B c).length = 61 by omega] at key
      exact key
    · rw [if_neg (fun hh => c5 ((oN_lt2 (b := 61) (c := 61) rfl (by omega) (by omega)).mp hh))]
      rw [show (blX B c).length = B.length - 61 * c by omega] at key
      exact key
  · rw [my_kI_v, if_pos rfl]
    unfold yw547_325_14
    exact hQ0 hn0 σ1 s1 x1 f1
theorem f_325x_547 {v1 v2 v3 v5 : Int32} (h0 : σ.1 498 89 = 1) (hd : 1 ≤ d) (hQ : Q (.inl none) κ σ) : my_M e d 325 [.inr (.inr (some 498)), .inl v1, .inl v2, .inl v3, .inr (.inr (some 547)), .inl v5] κ σ Q := by
  obtain ⟨d, rfl⟩ := dS 1 hd
  refine yw547_325 ?_
  unfold yw547_325_0 yw547_325_14
  rw [h0, if_neg (show ¬ (1 : Int32) = 0 by decide)]
  exact hQ
theorem f_325l_555 {c a t : Nat} (hB : B.length ≤ 7747) (ha : a + 64 ≤ 16384) (hc : 61 * c < B.length) (hrow : ∀ i x, B[i]? = some x → σ.1 555 i = x &&& 255) (hQ : ∀ σ', DR (wBn D a (bkv ep t (blX B c)) 64) σ' → eqp (fun c _ => c = 546) σ σ' → Q (.inl none) κ σ') : ∀ (m j : Nat) (σ' : my_S), j + m = 61 → DR (wBn D a (bkv ep t (blX B c)) (3 + j)) σ' → eqp (fun c _ => c = 546) σ σ' → yw555_325_96 e d (Int32.ofNat (61 * c)) (Int32.ofNat (blX B c).length) (Int32.ofNat a) (Int32.ofNat j) κ σ' Q := by
  have hl := blX_l (B := B) (c := c)
  intro m
  induction m with
  | zero =>
    intro j σ' hj h f
    have : j = 61 := by omega
    subst this
    unfold yw555_325_96
    rw [if_neg (show ¬ Int32.ofNat 61 < 61 by decide)]
    exact hQ σ' h f
  | succ m ih =>
    intro j σ' hj h f
    have v0 : bkv ep t (blX B c) (3 + j) = ((blX B c)[j]?).getD 0 := by
      unfold bkv
      rw [if_neg (by omega), if_neg (by omega), if_neg (by omega), show 3 + j - 3 = j by omega]
    have e3 : (Int32.ofNat a + 3) + Int32.ofNat j = Int32.ofNat (a + (3 + j)) := by
      rw [show (3 : Int32) = Int32.ofNat 3 from rfl, oN_a, oN_a, Nat.add_assoc]
    unfold yw555_325_96
    rw [if_pos ((oN_lt1 (b := 61) (c := 61) rfl (by omega) (by omega)).mpr (by omega)), e3]
    by_cases c2 : j < (blX B c).length
    · rw [if_pos ((oN_lt (by omega) (by omega)).mpr c2), oN_a, oN_n (by omega)]
      refine ⟨bdk (by omega) (by omega), ?_⟩
      have hx := List.getElem?_eq_getElem c2
      generalize (blX B c)[j] = x at hx
      have hx2 := hx
      rw [blX_g (by omega)] at hx2
      unfold yw555_325_133
      rw [eqp_g f (by omega), hrow _ x hx2, oN_n (by omega), oN_s]
      refine ⟨bdk (by omega) (by omega), yw555_325_96_ok (ih (j + 1) _ (by omega) (DR_s h ?_) (eqp_I f rfl))⟩
      show x &&& 255 = bkv ep t (blX B c) (3 + j) &&& 255
      rw [v0, hx]
      rfl
    · rw [if_neg (fun hh => c2 ((oN_lt (by omega) (by omega)).mp hh))]
      unfold yw555_325_133
      rw [oN_n (by omega), oN_s]
      refine ⟨bdk (by omega) (by omega), yw555_325_96_ok (ih (j + 1) _ (by omega) (DR_s h ?_) (eqp_I f rfl))⟩
      show (0 : Int32) = bkv ep t (blX B c) (3 + j) &&& 255
      rw [v0, List.getElem?_eq_none (by omega)]
      decide
theorem f_325_555 {c : Nat} (hh1 : h ≤ 1) (hB : B.length ≤ 7747) (hc : 61 * c < B.length) (hep : ep < 65536) (hn : n < 2147483648) (hrow : ∀ i x, B[i]? = some x → σ.1 555 i = x &&& 255) (hs : WSr D n w σ) (h0 : σ.1 498 89 = 0) (hd : 2 ≤ d) (hQ1 : ∀ n', n = n' + 1 → ∀ σ', WSr (w1B h ep B c D) n' (w + 1) σ' → σ'.1 498 89 = 0 → eqp drF σ σ' → Q (.inl none) κ σ') (hQ0 : n = 0 → ∀ σ', WSr D 0 w σ' → σ'.1 498 89 = 1 → eqp drF σ σ' → Q (.inl none) κ σ') : my_M e d 325 [.inr (.inr (some 498)), .inl (Int32.ofNat h), .inl (Int32.ofNat ep), .inl (Int32.ofNat (c + 1)), .inr (.inr (some 555)), .inl (Int32.ofNat B.length)] κ σ Q := by
  obtain ⟨d, rfl⟩ := dS 1 (show 1 ≤ d by omega)
  have hl := blX_l (B := B) (c := c)
  refine yw555_325 ?_
  unfold yw555_325_0
  rw [if_pos h0]
  refine f_326 hs hn (by omega) (fun n' hn' σ1 s1 x1 f1 => ?_) (fun hn0 σ1 s1 x1 f1 => ?_)
  · rw [my_kI_v, if_neg (show ¬ (1 : Int32) = 0 by decide), oN_m, show (61 : Int32) * Int32.ofNat c = Int32.ofNat (61 * c) by rw [show (61 : Int32) = Int32.ofNat 61 from rfl, ← Int32.ofNat_mul], oN_sub (by omega)]
    have hw : ∀ i x, B[i]? = some x → σ1.1 555 i = x &&& 255 := fun i x hx => (eqp_g f1 (by omega)).trans (hrow i x hx)
    have e6 : (8192 : Int32) * Int32.ofNat h + 64 * Int32.ofNat (c + 1) = Int32.ofNat (8192 * h + 64 * (1 + c)) := by
      rw [show (8192 : Int32) = Int32.ofNat 8192 from rfl, show (64 : Int32) = Int32.ofNat 64 from rfl, ← Int32.ofNat_mul, ← Int32.ofNat_mul, oN_a, Nat.add_comm c 1]
    have key : yw555_325_43 e d (Int32.ofNat h) (Int32.ofNat ep) (Int32.ofNat (c + 1)) (Int32.ofNat (61 * c)) (Int32.ofNat (blX B c).length) κ σ1 Q := by
      unfold yw555_325_43
      rw [e6, oN_s, show Int32.ofNat (8192 * h + 64 * (1 + c)) + 2 = Int32.ofNat (8192 * h + 64 * (1 + c) + 2) by rw [show (2 : Int32) = Int32.ofNat 2 from rfl, oN_a], oN_n (by omega), oN_n (by omega), oN_n (by omega)]
      refine ⟨bdk (by omega) (by omega), bdk (by omega) (by omega), bdk (by omega) (by omega), ?_⟩
      have d0 : DR (wBn D (8192 * h + 64 * (1 + c)) (bkv ep (blX B c).length (blX B c)) 0) σ1 := by rw [wBn_0]; exact s1.1
      have d1 := DR_s (x := Int32.ofNat ep &&& 255) d0 (by rw [← bt_0]; rfl)
      have d2 := DR_s (x := Int32.ofNat ep >>> ((8 : Int32) &&& 31)) d1 (by rw [shr8 hep]; rfl)
      have d3 := DR_s (x := Int32.ofNat (blX B c).length) d2 (by rw [show bkv ep (blX B c).length (blX B c) (0 + 1 + 1) = bt (Int32.ofNat (blX B c).length) (Int32.ofNat 0) from rfl]; exact low8 (by omega))
      have f3 : eqp (fun c _ => c = 546) σ1 (my_uI (my_uI (my_uI σ1 546 (8192 * h + 64 * (1 + c) + 0) (Int32.ofNat ep &&& 255)) 546 (8192 * h + 64 * (1 + c) + 1) (Int32.ofNat ep >>> ((8 : Int32) &&& 31))) 546 (8192 * h + 64 * (1 + c) + 2) (Int32.ofNat (blX B c).length)) := eqp_I (eqp_I (eqp_I eqp_rf rfl) rfl) rfl
      refine yw555_325_96_ok (f_325l_555 (σ := σ1) (t := (blX B c).length) hB (by omega) hc hw (fun σ' h' f' => ?_) 61 0 _ (by omega) d3 f3)
      refine hQ1 n' hn' σ' ⟨h', (eqp_g f' (by omega)).trans s1.2.1, (eqp_g f' (by omega)).trans s1.2.2⟩ ((eqp_g f' (by omega)).trans (x1.trans h0)) (eqp_tr (eqp_mo f1 (fun c k hh => by unfold drF; omega)) (eqp_mo f' (fun c k hh => Or.inl hh)))
    by_cases c5 : 61 < B.length - 61 * c
    · rw [if_pos ((oN_lt2 (b := 61) (c := 61) rfl (by omega) (by omega)).mpr c5)]
      rw [show (blX B c).length = 61 by omega] at key
      exact key
    · rw [if_neg (fun hh => c5 ((oN_lt2 (b := 61) (c := 61) rfl (by omega) (by omega)).mp hh))]
      rw [show (blX B c).length = B.length - 61 * c by omega] at key
      exact key
  · rw [my_kI_v, if_pos rfl]
    unfold yw555_325_14
    exact hQ0 hn0 σ1 s1 x1 f1
theorem f_325x_555 {v1 v2 v3 v5 : Int32} (h0 : σ.1 498 89 = 1) (hd : 1 ≤ d) (hQ : Q (.inl none) κ σ) : my_M e d 325 [.inr (.inr (some 498)), .inl v1, .inl v2, .inl v3, .inr (.inr (some 555)), .inl v5] κ σ Q := by
  obtain ⟨d, rfl⟩ := dS 1 hd
  refine yw555_325 ?_
  unfold yw555_325_0 yw555_325_14
  rw [h0, if_neg (show ¬ (1 : Int32) = 0 by decide)]
  exact hQ
theorem f_327 {t : Nat} (hh1 : h ≤ 1) (ht : t < 256) (hep : ep < 65536) (hn : n < 2147483648) (hs : WSr D n w σ) (h0 : σ.1 498 89 = 0) (hd : 2 ≤ d) (hQ1 : ∀ n', n = n' + 1 → ∀ σ', WSr (wH h ep t D) n' (w + 1) σ' → σ'.1 498 89 = 0 → eqp drF σ σ' → Q (.inl none) κ σ') (hQ0 : n = 0 → ∀ σ', WSr D 0 w σ' → σ'.1 498 89 = 1 → eqp drF σ σ' → Q (.inl none) κ σ') : my_M e d 327 [.inr (.inr (some 498)), .inl (Int32.ofNat h), .inl (Int32.ofNat ep), .inl (Int32.ofNat t)] κ σ Q := by
  obtain ⟨d, rfl⟩ := dS 1 (show 1 ≤ d by omega)
  refine ys_327 ?_
  unfold ys_327_0
  rw [if_pos h0]
  refine f_326 hs hn (by omega) (fun n' hn' σ1 s1 x1 f1 => ?_) (fun hn0 σ1 s1 x1 f1 => ?_)
  · rw [my_kI_v, if_neg (show ¬ (1 : Int32) = 0 by decide), show (8192 : Int32) * Int32.ofNat h = Int32.ofNat (8192 * h) by rw [show (8192 : Int32) = Int32.ofNat 8192 from rfl, ← Int32.ofNat_mul]]
    have lp : ∀ (m j : Nat) (σ' : my_S), j + m = 64 → DR (wBn D (8192 * h) (fun _ => 0) j) σ' → eqp (fun c _ => c = 546) σ1 σ' → ys_327_25 e d (Int32.ofNat ep) (Int32.ofNat t) (Int32.ofNat (8192 * h)) (Int32.ofNat j) κ σ' Q := by
      intro m
      induction m with
      | zero =>
        intro j σ' hj hD f
        have : j = 64 := by omega
        subst this
        unfold ys_327_25
        rw [if_neg (show ¬ Int32.ofNat 64 < 64 by decide), oN_s, show Int32.ofNat (8192 * h) + 2 = Int32.ofNat (8192 * h + 2) by rw [show (2 : Int32) = Int32.ofNat 2 from rfl, oN_a], oN_n (by omega), oN_n (by omega), oN_n (by omega)]
        refine ⟨bdk (by omega) (by omega), bdk (by omega) (by omega), bdk (by omega) (by omega), ?_⟩
        have f3 : eqp (fun c _ => c = 546) σ1 (my_uI (my_uI (my_uI σ' 546 (8192 * h) (Int32.ofNat ep &&& 255)) 546 (8192 * h + 1) (Int32.ofNat ep >>> ((8 : Int32) &&& 31))) 546 (8192 * h + 2) (Int32.ofNat t)) := eqp_I (eqp_I (eqp_I f rfl) rfl) rfl
        refine hQ1 n' hn' _ ⟨fun i hi => ?_, (eqp_g f3 (by omega)).trans s1.2.1, (eqp_g f3 (by omega)).trans s1.2.2⟩ ((eqp_g f3 (by omega)).trans (x1.trans h0)) (eqp_tr (eqp_mo f1 (fun c k hh => by unfold drF; omega)) (eqp_mo f3 (fun c k hh => Or.inl hh)))
        rw [my_uI_1, my_uI_1, my_uI_1]
        unfold wH wBn
        by_cases c2 : i = 8192 * h + 2
        · rw [if_pos ⟨rfl, c2⟩, if_pos (by omega), show i - 8192 * h = 2 by omega]
          exact low8 ht
        rw [if_neg (by omega)]
        by_cases c1 : i = 8192 * h + 1
        · rw [if_pos ⟨rfl, c1⟩, if_pos (by omega), show i - 8192 * h = 1 by omega]
          exact shr8 hep
        rw [if_neg (by omega)]
        by_cases c0 : i = 8192 * h
        · rw [if_pos ⟨rfl, c0⟩, if_pos (by omega), show i - 8192 * h = 0 by omega]
          exact (bt_0 _).symm
        rw [if_neg (by omega), hD i hi]
        unfold wBn
        by_cases c : 8192 * h ≤ i ∧ i < 8192 * h + 64
        · rw [if_pos c, if_pos c]
          unfold bkv
          rw [if_neg (by omega), if_neg (by omega), if_neg (by omega), List.getElem?_nil]
          rfl
        · rw [if_neg c, if_neg c]
      | succ m ih =>
        intro j σ' hj hD f
        unfold ys_327_25
        rw [if_pos ((oN_lt1 (b := 64) (c := 64) rfl (by omega) (by omega)).mpr (by omega)), oN_a, oN_s, oN_n (by omega)]
        exact ⟨bdk (by omega) (by omega), ys_327_25_ok (ih (j + 1) _ (by omega) (DR_s hD (by decide)) (eqp_I f rfl))⟩
    exact ys_327_25_ok (lp 64 0 σ1 (by omega) (by rw [wBn_0]; exact s1.1) eqp_rf)
  · rw [my_kI_v, if_pos rfl]
    unfold ys_327_14
    exact hQ0 hn0 σ1 s1 x1 f1
theorem f_327x {v1 v2 v3 : Int32} (h0 : σ.1 498 89 = 1) (hd : 1 ≤ d) (hQ : Q (.inl none) κ σ) : my_M e d 327 [.inr (.inr (some 498)), .inl v1, .inl v2, .inl v3] κ σ Q := by
  obtain ⟨d, rfl⟩ := dS 1 hd
  refine ys_327 ?_
  unfold ys_327_0 ys_327_14
  rw [h0, if_neg (show ¬ (1 : Int32) = 0 by decide)]
  exact hQ
end MRD
