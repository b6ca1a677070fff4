
/-! ===== the class writes blocks of a log, and a head ===== -/
theorem di3 {a b : Nat} (ha : a < 2147483648) (hb : b < 2147483648) : Int32.ofNat a / Int32.ofNat b = Int32.ofNat (a / b) := by
  have hq : a / b ≤ a := Nat.div_le_self a b
  apply Int32.toInt_inj.mp
  rw [Int32.toInt_div, Int32.toInt_ofNat_of_lt ha, Int32.toInt_ofNat_of_lt hb, Int32.toInt_ofNat_of_lt (by omega), Int.tdiv_eq_ediv_of_nonneg (by omega), ← Int.natCast_ediv]
  rw [Int.bmod_def]
  have h3 : ((a / b : Nat) : Int) % (2 ^ 32 : Nat) = ((a / b : Nat) : Int) := by
    generalize a / b = q at *
    omega
  rw [h3, if_pos (by generalize a / b = q at *; omega)]
theorem bkv_t {ep t j k : Nat} {X : List Int32} (hk : k ≠ j + 3) : bkv ep t (X.take (j + 1)) k = bkv ep t (X.take j) k := by
  unfold bkv
  by_cases c0 : k = 0
  · rw [if_pos c0, if_pos c0]
  rw [if_neg c0, if_neg c0]
  by_cases c1 : k = 1
  · rw [if_pos c1, if_pos c1]
  rw [if_neg c1, if_neg c1]
  by_cases c2 : k = 2
  · rw [if_pos c2, if_pos c2]
  rw [if_neg c2, if_neg c2, List.getElem?_take, List.getElem?_take]
  by_cases c3 : k - 3 < j
  · rw [if_pos c3, if_pos (by omega)]
  · rw [if_neg c3, if_neg (by omega)]
theorem DC_x {D : Nat → Int32} {a ep t j : Nat} {X : List Int32} {σ : my_S} {x : Int32} (h : DC (wBn D a (bkv ep t (X.take j)) 64) σ) (hj : j < 61) (hx : X[j]? = some x) : DC (wBn D a (bkv ep t (X.take (j + 1))) 64) (my_uI σ 90 (a + 3 + j) x) := fun i hi => by
  rw [my_uI_1]
  by_cases c : i = a + 3 + j
  · rw [if_pos ⟨rfl, c⟩]
    unfold wBn bkv
    rw [if_pos (by omega), if_neg (by omega), if_neg (by omega), if_neg (by omega), show i - a - 3 = j by omega, List.getElem?_take, if_pos (by omega), hx]
    rfl
  · rw [if_neg (by omega), h i hi]
    unfold wBn
    by_cases c2 : a ≤ i ∧ i < a + 64
    · rw [if_pos c2, if_pos c2, bkv_t (by omega)]
    · rw [if_neg c2, if_neg c2]
/-- what the block of that number holds of the bytes -/
def blX (B : List Int32) (c : Nat) : List Int32 := (B.drop (61 * c)).take 61
theorem blX_l {B : List Int32} {c : Nat} : (blX B c).length = min 61 (B.length - 61 * c) := by unfold blX; rw [List.length_take, List.length_drop]
theorem blX_g {B : List Int32} {c j : Nat} (hj : j < 61) : (blX B c)[j]? = B[61 * c + j]? := by
  unfold blX
  rw [List.getElem?_take, if_pos hj, List.getElem?_drop]
/-- one block written, from block c (counted from 0 behind the head) -/
def w1B (h ep : Nat) (B : List Int32) (c : Nat) (D : Nat → Int32) : Nat → Int32 := wBn D (8192 * h + 64 * (1 + c)) (bkv ep (blX B c).length (blX B c)) 64
def wD (h ep : Nat) (B : List Int32) : Nat → Nat → (Nat → Int32) → (Nat → Int32)
  | 0, _, D => D
  | k + 1, c, D => wD h ep B k (c + 1) (w1B h ep B c D)
def nbk (B : List Int32) : Nat := (B.length + 60) / 61
def hA2 (h : Nat) : Nat := if h = 1 then 101 else 94
theorem hA2_l {h : Nat} : lg2 (hA2 h) := by unfold hA2 lg2; split <;> omega
section MDC
variable {e : my_E} {d : Nat} {κ : my_K} {σ σ' : my_S} {Q : my_O → my_K → my_S → Prop} {D : Nat → Int32} {n h ep : Nat} {w : Int32} {B : List Int32}
theorem c_164i {c A a t : Nat} {v1 v6 v5 : Int32} (hA : lg2 A) (hB : B.length ≤ 7747) (haB : aB B) (hb : ∀ i x, B[i]? = some x → σ.1 (A + 1) i = x) (ha : a + 64 ≤ 16384) (hv6 : v6 = Int32.ofNat a) (hv5 : v5 = Int32.ofNat (blX B c).length) (hc : 61 * c < B.length) (hd : 1 ≤ d) (hQ : ∀ σ', DC (wBn D a (bkv ep t (blX B c)) 64) σ' → eqp (fun c _ => c = 90) σ σ' → my_W e d mp_164 25 [(0, .inr (.inr (some 89))), (1, .inl v1), (3, .inr (.inr (some A))), (4, .inl (Int32.ofNat (61 * c) + 61))] [] κ σ' Q) : ∀ (m j : Nat) (σ' : my_S), j + m = (blX B c).length → DC (wBn D a (bkv ep t ((blX B c).take j)) 64) σ' → eqp (fun c _ => c = 90) σ σ' → ys_164_86 e d v1 (some A) (Int32.ofNat (61 * c)) v5 v6 (Int32.ofNat j) κ σ' Q := by
  have hl := blX_l (B := B) (c := c)
  have hA' := hA
  unfold lg2 at hA'
  intro m
  induction m with
  | zero =>
    intro j σ' hj h f
    have : j = (blX B c).length := by omega
    subst this
    unfold ys_164_86
    rw [hv5, if_neg (fun hh => by have := (oN_lt (by omega) (by omega)).mp hh; omega)]
    rw [List.take_length] at h
    exact hQ σ' h f
  | succ m ih =>
    intro j σ' hj h f
    have hjl : j < (blX B c).length := by omega
    have hx := List.getElem?_eq_getElem hjl
    generalize (blX B c)[j] = x at hx
    have hx2 := hx
    rw [blX_g (by omega)] at hx2
    have hm : isB x := haB x (List.mem_of_getElem? hx2)
    unfold ys_164_86
    rw [hv5, if_pos ((oN_lt (by omega) (by omega)).mpr hjl), oN_a, oN_s]
    refine ⟨A, rfl, in8 hA, c_3l hA (by omega) hd ?_⟩
    rw [my_kI_v, eqp_g f (by omega), hb _ x hx2, hv6]
    refine c_166 (p := a + 3 + j) (by omega) (by rw [show (3 : Int32) = Int32.ofNat 3 from rfl, oN_a, oN_a]) hd ?_
    rw [my_k0_v, s8_0, bt_and hm]
    have := ih (j + 1) (my_uI σ' 90 (a + 3 + j) x) (by omega) (DC_x h (by omega) hx) (eqp_I f rfl)
    rw [hv5, hv6] at this
    exact ys_164_86_ok this
theorem c_164l {A : Nat} (hh1 : h ≤ 1) (hA : lg2 A) (hB : B.length ≤ 7747) (haB : aB B) (hn : n < 2147483648) (hd : 3 ≤ d) (hb : ∀ i x, B[i]? = some x → σ.1 (A + 1) i = x) (hsz : σ.1 A 1 = Int32.ofNat B.length) (hep : σ.1 A 2 = Int32.ofNat ep) : ∀ (m c : Nat) (D : Nat → Int32) (n : Nat) (w : Int32) (σ' : my_S), n < 2147483648 → (B.length + 60) / 61 = c + m → WSc D n w σ' → σ'.1 89 7 = σ.1 89 7 → eqp dkF σ σ' → (m ≤ n → ∀ σ', WSc (wD h ep B m c D) (n - m) (w + Int32.ofNat m) σ' → σ'.1 89 7 = σ.1 89 7 → eqp dkF σ σ' → Q (.inl (some (.inl 1))) κ σ') → (n < m → ∀ σ', WSc (wD h ep B n c D) 0 (w + Int32.ofNat n) σ' → σ'.1 89 7 = 1 → eqp dkF σ σ' → Q (.inl (some (.inl 0))) κ σ') → ys_164_25 e d (Int32.ofNat h) (some A) (Int32.ofNat (61 * c)) κ σ' Q := by
  have hA' := hA
  unfold lg2 at hA'
  intro m
  induction m with
  | zero =>
    intro c D n w σ' hn hc hs h7 f hQ1 hQ0
    unfold ys_164_25
    refine ⟨A, rfl, in8 hA, ?_⟩
    rw [eqp_g f (show ¬ dkF A 1 by unfold dkF; omega), hsz, if_neg (fun hh => by have := (oN_lt (by omega) (by omega)).mp hh; omega)]
    refine hQ1 (by omega) σ' ?_ h7 f
    rw [show w + Int32.ofNat 0 = w from Int32.add_zero w]
    exact hs
  | succ m ih =>
    intro c D n w σ' hn hc hs h7 f hQ1 hQ0
    have hlt : 61 * c < B.length := by omega
    have hl := blX_l (B := B) (c := c)
    have e5 : (if (Int32.ofNat B.length - Int32.ofNat (61 * c)) < (61 : Int32) then (Int32.ofNat B.length - Int32.ofNat (61 * c)) else (61 : Int32)) = Int32.ofNat (blX B c).length := by
      rw [oN_sub (by omega), hl]
      by_cases c5 : B.length - 61 * c < 61
      · rw [if_pos ((oN_lt1 (b := 61) (c := 61) rfl (by omega) (by omega)).mpr c5), Nat.min_eq_right (by omega)]
      · rw [if_neg (fun hh => c5 ((oN_lt1 (b := 61) (c := 61) rfl (by omega) (by omega)).mp hh)), Nat.min_eq_left (by omega)]
        rfl
    have e6 : (Int32.ofNat h * 8192) + ((1 + (Int32.ofNat (61 * c) / 61)) * 64) = Int32.ofNat (8192 * h + 64 * (1 + c)) := by
      rw [show (61 : Int32) = Int32.ofNat 61 from rfl, di3 (by omega) (by omega), show (8192 : Int32) = Int32.ofNat 8192 from rfl, show (64 : Int32) = Int32.ofNat 64 from rfl, show (1 : Int32) = Int32.ofNat 1 from rfl, ← Int32.ofNat_mul, oN_a, ← Int32.ofNat_mul, oN_a]
      congr 1
      omega
    unfold ys_164_25
    refine ⟨A, rfl, in8 hA, ?_⟩
    rw [eqp_g f (show ¬ dkF A 1 by unfold dkF; omega), hsz, if_pos ((oN_lt (by omega) (by omega)).mpr hlt)]
    refine ⟨A, rfl, in8 hA, A, rfl, in8 hA, ?_⟩
    rw [eqp_g f (show ¬ dkF A 1 by unfold dkF; omega), eqp_g f (show ¬ dkF A 2 by unfold dkF; omega), hsz, hep, e5, e6]
    refine c_165 (a := 8192 * h + 64 * (1 + c)) (ep := ep) (t := (blX B c).length) (by omega) rfl rfl rfl hn hs (by omega) (fun n' hn' σ1 s1 x1 f1 => ?_) (fun hn0 σ1 s1 x1 f1 => ?_)
    · rw [my_kI_v, if_neg (show ¬ (1 : Int32) = 0 by decide)]
      subst hn'
      refine ys_164_86_ok (c_164i (σ := σ1) (ep := ep) (t := (blX B c).length) (a := 8192 * h + 64 * (1 + c)) hA hB haB (fun i x hx => (eqp_g f1 (by unfold dkF; omega)).trans ((eqp_g f (by unfold dkF; omega)).trans (hb i x hx))) (by omega) rfl rfl hlt (by omega) (fun σ2 s2 f2 => ?_) (blX B c).length 0 σ1 (by omega) (by rw [List.take_zero]; exact s1.1) eqp_rf)
      rw [show (61 : Int32) = Int32.ofNat 61 from rfl, oN_a, show 61 * c + 61 = 61 * (c + 1) by omega]
      refine ys_164_25_ok (ih (c + 1) (w1B h ep B c D) n' (w + 1) σ2 (by omega) (by omega) ⟨s2, (eqp_g f2 (by omega)).trans s1.2.1, (eqp_g f2 (by omega)).trans s1.2.2⟩ ((eqp_g f2 (by omega)).trans (x1.trans h7)) (eqp_tr f (eqp_tr f1 (eqp_mo f2 (fun c k hh => Or.inl hh)))) (fun hm σ3 s3 x3 f3 => hQ1 (by omega) σ3 ?_ x3 f3) (fun hm σ3 s3 x3 f3 => hQ0 (by omega) σ3 ?_ x3 f3))
      · rw [show n' + 1 - (m + 1) = n' - m by omega, ← oN_s, Int32.add_comm (Int32.ofNat m) 1, ← Int32.add_assoc]
        exact s3
      · rw [← oN_s n', Int32.add_comm (Int32.ofNat n') 1, ← Int32.add_assoc]
        exact s3
    · rw [my_kI_v, if_pos rfl]
      subst hn0
      refine hQ0 (by omega) σ1 ?_ x1 (eqp_tr f f1)
      rw [show w + Int32.ofNat 0 = w from Int32.add_zero w]
      exact s1
/-- writeLog from that byte on -/
theorem c_164 {q : Nat} (hh1 : h ≤ 1) (hq : q ≤ B.length) (hB : B.length ≤ 7747) (haB : aB B) (hn : n < 2147483648) (hd : 4 ≤ d) (l0 : σ.2.2 91 0 = some 94) (l1 : σ.2.2 91 1 = some 101) (hb : ∀ i x, B[i]? = some x → σ.1 (hA2 h + 1) i = x) (hsz : σ.1 (hA2 h) 1 = Int32.ofNat B.length) (hep : σ.1 (hA2 h) 2 = Int32.ofNat ep) (hs : WSc D n w σ) (hQ1 : nbk B - q / 61 ≤ n → ∀ σ', WSc (wD h ep B (nbk B - q / 61) (q / 61) D) (n - (nbk B - q / 61)) (w + Int32.ofNat (nbk B - q / 61)) σ' → σ'.1 89 7 = σ.1 89 7 → eqp dkF σ σ' → Q (.inl (some (.inl 1))) κ σ') (hQ0 : n < nbk B - q / 61 → ∀ σ', WSc (wD h ep B n (q / 61) D) 0 (w + Int32.ofNat n) σ' → σ'.1 89 7 = 1 → eqp dkF σ σ' → Q (.inl (some (.inl 0))) κ σ') : my_M e d 164 [.inr (.inr (some 89)), .inl (Int32.ofNat h), .inl (Int32.ofNat q)] κ σ Q := by
  obtain ⟨d, rfl⟩ := dS 1 (show 1 ≤ d by omega)
  have hm : (B.length + 60) / 61 = q / 61 + (nbk B - q / 61) := by unfold nbk; omega
  have key := c_164l (e := e) (d := d) (κ := κ) (Q := Q) (σ := σ) (n := n) hh1 (hA2_l (h := h)) hB haB hn (by omega) hb hsz hep (nbk B - q / 61) (q / 61) D n w σ hn hm hs rfl eqp_rf hQ1 hQ0
  refine ys_164 ?_
  have e1 : Int32.ofNat q / 61 * 61 = Int32.ofNat (61 * (q / 61)) := by
    rw [show (61 : Int32) = Int32.ofNat 61 from rfl, di3 (by omega) (by omega), ← Int32.ofNat_mul, Nat.mul_comm]
  unfold ys_164_0
  by_cases c : h = 1
  · subst c
    rw [if_pos (show Int32.ofNat 1 = 1 from rfl)]
    unfold ys_164_14
    rw [show ((1 : Int32)).toNatClampNeg = 1 from rfl, l1, e1]
    exact ⟨bdk (k := 1) (by omega) (by omega), ys_164_25_ok key⟩
  · have : h = 0 := by omega
    subst this
    rw [if_neg (show ¬ Int32.ofNat 0 = 1 by decide)]
    unfold ys_164_14
    rw [show ((0 : Int32)).toNatClampNeg = 0 from rfl, l0, e1]
    exact ⟨bdk (k := 0) (by omega) (by omega), ys_164_25_ok key⟩
/-- a head -/
def wH (h ep t : Nat) (D : Nat → Int32) : Nat → Int32 := wBn D (8192 * h) (bkv ep t []) 64
theorem c_167 {t : Nat} {v : Int32} (hh1 : h ≤ 1) (hv : v = Int32.ofNat t) (hn : n < 2147483648) (hd : 3 ≤ d) (l0 : σ.2.2 91 0 = some 94) (l1 : σ.2.2 91 1 = some 101) (hep : σ.1 (hA2 h) 2 = Int32.ofNat ep) (hs : WSc D n w σ) (hQ1 : ∀ n', n = n' + 1 → ∀ σ', WSc (wH h ep t D) n' (w + 1) σ' → σ'.1 89 7 = σ.1 89 7 → eqp dkF σ σ' → Q (.inl (some (.inl 1))) κ σ') (hQ0 : n = 0 → ∀ σ', WSc D 0 w σ' → σ'.1 89 7 = 1 → eqp dkF σ σ' → Q (.inl (some (.inl 0))) κ σ') : my_M e d 167 [.inr (.inr (some 89)), .inl (Int32.ofNat h), .inl v] κ σ Q := by
  obtain ⟨d, rfl⟩ := dS 1 (show 1 ≤ d by omega)
  refine ys_167 ?_
  have e6 : Int32.ofNat h * 8192 = Int32.ofNat (8192 * h) := by
    rw [show (8192 : Int32) = Int32.ofNat 8192 from rfl, ← Int32.ofNat_mul, Nat.mul_comm]
  unfold ys_167_0
  rw [e6]
  have key : my_M e d 165 [.inr (.inr (some 89)), .inl (Int32.ofNat (8192 * h)), .inl (σ.1 (hA2 h) 2), .inl v] κ σ (my_kI (fun x4 κ5 σ6 => (x4 = 0 ∨ x4 = 1) ∧ Q (.inl (some (.inl x4))) κ5 σ6) (fun y7 κ8 σ9 => Q (.inr y7) κ8 σ9)) := by
    refine c_165 (a := 8192 * h) (ep := ep) (t := t) (by omega) rfl hep hv hn hs (by omega) (fun n' hn' σ1 s1 x1 f1 => ?_) (fun hn0 σ1 s1 x1 f1 => ?_)
    · rw [my_kI_v]
      exact ⟨Or.inr rfl, hQ1 n' hn' σ1 s1 x1 f1⟩
    · rw [my_kI_v]
      exact ⟨Or.inl rfl, hQ0 hn0 σ1 s1 x1 f1⟩
  by_cases c : h = 1
  · subst c
    rw [if_pos (show Int32.ofNat 1 = 1 from rfl)]
    unfold ys_167_20
    rw [show ((1 : Int32)).toNatClampNeg = 1 from rfl, l1]
    exact ⟨bdk (k := 1) (by omega) (by omega), 101, rfl, in8 (Or.inr rfl), key⟩
  · have : h = 0 := by omega
    subst this
    rw [if_neg (show ¬ Int32.ofNat 0 = 1 by decide)]
    unfold ys_167_20
    rw [show ((0 : Int32)).toNatClampNeg = 0 from rfl, l0]
    exact ⟨bdk (k := 0) (by omega) (by omega), 94, rfl, in8 (Or.inl rfl), key⟩
end MDC
