
/-! ===== the disk: a block is written ===== -/
theorem oN_lt2 {a : Nat} {b : Int32} {c : Nat} (hb : b = Int32.ofNat c) (hc : c < 2147483648) (ha : a < 2147483648) : b < Int32.ofNat a ↔ c < a := by rw [hb]; exact oN_lt hc ha
theorem oN_e1 {a : Nat} {b : Int32} {c : Nat} (hb : b = Int32.ofNat c) (ha : a < 2147483648) (hc : c < 2147483648) : Int32.ofNat a = b ↔ a = c := by rw [hb]; exact oN_e ha hc
def s8 (v : Int32) : Int32 := ((v : Int32).toInt8.toInt32 : Int32).toInt8.toInt32
theorem s8_0 (v : Int32) : s8 v = bt v (Int32.ofNat 0) := by
  have h1 : isB (s8 v) := by
    unfold s8 isB
    rw [Int8.toInt_toInt32]
    generalize ((v : Int32).toInt8.toInt32 : Int32).toInt8 = z
    have h1 := Int8.le_toInt z
    have h2 := Int8.toInt_lt z
    omega
  refine (isB_e h1 isB_bt).mp ?_
  rw [bt_0]
  unfold s8
  rw [and255i, and255i v, sx255, sx255]
theorem s8_1 (v : Int32) : s8 ((v).toUInt32 >>> ((8 : Int32).toUInt32 &&& Int32.toUInt32 31)).toInt32 = bt v (Int32.ofNat 1) := by
  unfold s8 bt
  rw [show (8 * Int32.ofNat 1 : Int32) = 8 from rfl]
/-- what the block holds at its place j: epoch, count, contents, zeros -/
def bkv (ep t : Nat) (X : List Int32) (j : Nat) : Int32 := if j = 0 then bt (Int32.ofNat ep) (Int32.ofNat 0) else if j = 1 then bt (Int32.ofNat ep) (Int32.ofNat 1) else if j = 2 then bt (Int32.ofNat t) (Int32.ofNat 0) else (X[j - 3]?).getD 0
def wBn (D : Nat → Int32) (a : Nat) (f : Nat → Int32) (m : Nat) : Nat → Int32 := fun i => if a ≤ i ∧ i < a + m then f (i - a) else D i
theorem wBn_0 {D : Nat → Int32} {a : Nat} {f : Nat → Int32} : wBn D a f 0 = D := by
  funext i
  unfold wBn
  rw [if_neg (by omega)]
def DC (D : Nat → Int32) (σ : my_S) : Prop := ∀ i, i < 16384 → σ.1 90 i = D i
def DR (D : Nat → Int32) (σ : my_S) : Prop := ∀ i, i < 16384 → σ.1 546 i = D i &&& 255
theorem wBn_s {D : Nat → Int32} {a m i : Nat} {f : Nat → Int32} : wBn D a f (m + 1) i = if i = a + m then f m else wBn D a f m i := by
  unfold wBn
  by_cases c : i = a + m
  · rw [if_pos c, if_pos (by omega), show i - a = m by omega]
  · rw [if_neg c]
    by_cases c2 : a ≤ i ∧ i < a + m
    · rw [if_pos c2, if_pos (by omega)]
    · rw [if_neg c2, if_neg (by omega)]
theorem DC_s {D : Nat → Int32} {a m : Nat} {f : Nat → Int32} {σ : my_S} {x : Int32} (h : DC (wBn D a f m) σ) (hx : x = f m) : DC (wBn D a f (m + 1)) (my_uI σ 90 (a + m) x) := fun i hi => by
  rw [my_uI_1, wBn_s]
  by_cases c : i = a + m
  · rw [if_pos ⟨rfl, c⟩, if_pos c, hx]
  · rw [if_neg (by omega), if_neg c]; exact h i hi
theorem DR_s {D : Nat → Int32} {a m : Nat} {f : Nat → Int32} {σ : my_S} {x : Int32} (h : DR (wBn D a f m) σ) (hx : x = f m &&& 255) : DR (wBn D a f (m + 1)) (my_uI σ 546 (a + m) x) := fun i hi => by
  rw [my_uI_1, wBn_s]
  by_cases c : i = a + m
  · rw [if_pos ⟨rfl, c⟩, if_pos c, hx]
  · rw [if_neg (by omega), if_neg c]; exact h i hi
theorem DC_o {D : Nat → Int32} {σ σ' : my_S} {F : Nat → Nat → Prop} (h : DC D σ) (f : eqp F σ σ') (hF : ∀ c k, F c k → c ≠ 90) : DC D σ' := fun i hi => (eqp_g f (fun hh => hF _ _ hh rfl)).trans (h i hi)
theorem DR_o {D : Nat → Int32} {σ σ' : my_S} {F : Nat → Nat → Prop} (h : DR D σ) (f : eqp F σ σ') (hF : ∀ c k, F c k → c ≠ 546) : DR D σ' := fun i hi => (eqp_g f (fun hh => hF _ _ hh rfl)).trans (h i hi)
/-- the class's disk, what it may still write, what it has written -/
def WSc (D : Nat → Int32) (n : Nat) (w : Int32) (σ : my_S) : Prop := DC D σ ∧ σ.1 89 6 = Int32.ofNat n ∧ σ.1 89 4 = w
def WSr (D : Nat → Int32) (n : Nat) (w : Int32) (σ : my_S) : Prop := DR D σ ∧ σ.1 498 88 = Int32.ofNat n ∧ σ.1 498 87 = w
def dkF (c k : Nat) : Prop := c = 90 ∨ (c = 89 ∧ (k = 4 ∨ k = 6 ∨ k = 7))
def drF (c k : Nat) : Prop := c = 546 ∨ (c = 498 ∧ (k = 87 ∨ k = 88 ∨ k = 89))
theorem WSc_o {D : Nat → Int32} {n : Nat} {w : Int32} {σ σ' : my_S} {F : Nat → Nat → Prop} (h : WSc D n w σ) (f : eqp F σ σ') (hF : ∀ c k, F c k → c ≠ 90 ∧ (c = 89 → k ≠ 4 ∧ k ≠ 6)) : WSc D n w σ' := ⟨DC_o h.1 f (fun c k hh => (hF c k hh).1), (eqp_g f (fun hh => ((hF _ _ hh).2 rfl).2 rfl)).trans h.2.1, (eqp_g f (fun hh => ((hF _ _ hh).2 rfl).1 rfl)).trans h.2.2⟩
theorem WSr_o {D : Nat → Int32} {n : Nat} {w : Int32} {σ σ' : my_S} {F : Nat → Nat → Prop} (h : WSr D n w σ) (f : eqp F σ σ') (hF : ∀ c k, F c k → c ≠ 546 ∧ (c = 498 → k ≠ 87 ∧ k ≠ 88)) : WSr D n w σ' := ⟨DR_o h.1 f (fun c k hh => (hF c k hh).1), (eqp_g f (fun hh => ((hF _ _ hh).2 rfl).2 rfl)).trans h.2.1, (eqp_g f (fun hh => ((hF _ _ hh).2 rfl).1 rfl)).trans h.2.2⟩
section MDK
variable {e : my_E} {d : Nat} {κ : my_K} {σ σ' : my_S} {Q : my_O → my_K → my_S → Prop} {D : Nat → Int32} {n : Nat} {w : Int32}
theorem c_166 {p : Nat} {v x : Int32} (hp : p < 16384) (hv : v = Int32.ofNat p) (hd : 1 ≤ d) (hQ : Q (.inl none) κ (my_uI σ 90 p (s8 x))) : my_M e d 166 [.inr (.inr (some 89)), .inl v, .inl x] κ σ Q := by
  obtain ⟨d, rfl⟩ := dS 1 hd
  refine ys_166 ?_
  unfold ys_166_0 ys_166_21
  rw [hv, if_neg (oN_0 (by omega)), if_pos ((oN_lt1 (b := 16384) (c := 16384) rfl (by omega) (by omega)).mpr hp), oN_n (by omega)]
  exact ⟨bdk hp (by omega), hQ⟩
theorem c_165l {a ep t : Nat} (ha : a + 64 ≤ 16384) (hd : 1 ≤ d) (hQ : ∀ σ', DC (wBn D a (bkv ep t []) 64) σ' → eqp (fun c _ => c = 90) σ σ' → Q (.inl (some (.inl 1))) κ σ') : ∀ (m j : Nat) (σ' : my_S), j + m = 64 → 3 ≤ j → DC (wBn D a (bkv ep t []) j) σ' → eqp (fun c _ => c = 90) σ σ' → ys_165_62 e d (Int32.ofNat a) (Int32.ofNat j) κ σ' Q := by
  intro m
  induction m with
  | zero =>
    intro j σ' hj h3 h f
    have : j = 64 := by omega
    subst this
    unfold ys_165_62
    rw [if_neg (show ¬ Int32.ofNat 64 < 64 by decide)]
    exact hQ σ' h f
  | succ m ih =>
    intro j σ' hj h3 h f
    unfold ys_165_62
    rw [if_pos ((oN_lt1 (b := 64) (c := 64) rfl (by omega) (by omega)).mpr (by omega)), oN_a, oN_s]
    refine c_166 (p := a + j) (by omega) rfl hd ?_
    rw [my_k0_v]
    refine ys_165_62_ok (ih (j + 1) _ (by omega) (by omega) (DC_s h ?_) (eqp_I f rfl))
    rw [s8_0]
    unfold bkv
    rw [if_neg (by omega), if_neg (by omega), if_neg (by omega), List.getElem?_nil]
    decide
theorem c_165 {a ep t : Nat} {v1 v2 v3 : Int32} (ha : a + 64 ≤ 16384) (h1 : v1 = Int32.ofNat a) (h2 : v2 = Int32.ofNat ep) (h3 : v3 = Int32.ofNat t) (hn : n < 2147483648) (h : WSc D n w σ) (hd : 2 ≤ d) (hQ1 : ∀ n', n = n' + 1 → ∀ σ', WSc (wBn D a (bkv ep t []) 64) n' (w + 1) σ' → σ'.1 89 7 = σ.1 89 7 → eqp dkF σ σ' → Q (.inl (some (.inl 1))) κ σ') (hQ0 : n = 0 → ∀ σ', WSc D 0 w σ' → σ'.1 89 7 = 1 → eqp dkF σ σ' → Q (.inl (some (.inl 0))) κ σ') : my_M e d 165 [.inr (.inr (some 89)), .inl v1, .inl v2, .inl v3] κ σ Q := by
  obtain ⟨d, rfl⟩ := dS 1 (show 1 ≤ d by omega)
  obtain ⟨g1, g2, g3⟩ := h
  refine ys_165 ?_
  unfold ys_165_0
  rw [g2, g3]
  cases n with
  | zero =>
    rw [if_neg (show ¬ (0 : Int32) < Int32.ofNat 0 by decide)]
    have f : eqp (fun c k => c = 89 ∧ k = 7) σ (my_uI σ 89 7 1) := eqp_I eqp_rf ⟨rfl, rfl⟩
    exact hQ0 rfl _ (WSc_o ⟨g1, g2, g3⟩ f (fun c k hh => by omega)) uI_s (eqp_mo f (fun c k hh => by unfold dkF; omega))
  | succ n' =>
    rw [if_pos (oN_pos (by omega) hn), oN_m, h1, h2, h3]
    have e3 : (my_uI σ 89 6 (Int32.ofNat n')).1 89 4 = w := by rw [my_uI_1, if_neg (by omega)]; exact g3
    have f0 : eqp (fun c k => c = 89 ∧ (k = 4 ∨ k = 6)) σ (my_uI (my_uI σ 89 6 (Int32.ofNat n')) 89 4 (w + 1)) := eqp_I (eqp_I eqp_rf ⟨rfl, Or.inr rfl⟩) ⟨rfl, Or.inl rfl⟩
    have x6 : (my_uI (my_uI σ 89 6 (Int32.ofNat n')) 89 4 (w + 1)).1 89 6 = Int32.ofNat n' := by rw [my_uI_1, if_neg (by omega)]; exact uI_s
    have x4 : (my_uI (my_uI σ 89 6 (Int32.ofNat n')) 89 4 (w + 1)).1 89 4 = w + 1 := uI_s
    generalize my_uI (my_uI σ 89 6 (Int32.ofNat n')) 89 4 (w + 1) = σ1 at f0 x6 x4 ⊢
    have d0 : DC (wBn D a (bkv ep t []) 0) σ1 := by rw [wBn_0]; exact DC_o g1 f0 (fun c k hh => by omega)
    refine c_166 (p := a + 0) (by omega) rfl (by omega) ?_
    rw [my_k0_v]
    have d1 := DC_s (x := s8 (Int32.ofNat ep)) d0 (by rw [s8_0]; rfl)
    refine c_166 (p := a + 1) (by omega) (by rw [oN_s]) (by omega) ?_
    rw [my_k0_v]
    have d2 := DC_s (x := s8 ((Int32.ofNat ep).toUInt32 >>> ((8 : Int32).toUInt32 &&& Int32.toUInt32 31)).toInt32) d1 (by rw [s8_1]; rfl)
    refine c_166 (p := a + 2) (by omega) (by rw [show (2 : Int32) = Int32.ofNat 2 from rfl, oN_a]) (by omega) ?_
    rw [my_k0_v]
    have d3 := DC_s (x := s8 (Int32.ofNat t)) d2 (by rw [s8_0]; rfl)
    have f3 : eqp (fun c _ => c = 90) σ1 (my_uI (my_uI (my_uI σ1 90 (a + 0) (s8 (Int32.ofNat ep))) 90 (a + 1) (s8 ((Int32.ofNat ep).toUInt32 >>> ((8 : Int32).toUInt32 &&& Int32.toUInt32 31)).toInt32)) 90 (a + 2) (s8 (Int32.ofNat t))) := eqp_I (eqp_I (eqp_I eqp_rf rfl) rfl) rfl
    refine ys_165_62_ok (c_165l (σ := σ1) ha (by omega) (fun σ' h' f' => ?_) 61 3 _ (by omega) (by omega) d3 f3)
    refine hQ1 n' rfl σ' ⟨h', (eqp_g f' (by omega)).trans x6, (eqp_g f' (by omega)).trans x4⟩ ?_ ?_
    · exact (eqp_g f' (by omega)).trans (eqp_g f0 (by omega))
    · exact eqp_tr (eqp_mo f0 (fun c k hh => by unfold dkF; omega)) (eqp_mo f' (fun c k hh => by unfold dkF; omega))
end MDK
