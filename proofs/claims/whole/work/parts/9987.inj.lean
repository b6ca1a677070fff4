/-! ===== names of the class and of the reference: the same where they are the same ===== -/
/-- the letters from p on, as numbers from 1 to 26 -/
def lw (t : Nat → Int32) (p : Nat) : Nat → List Nat
  | 0 => []
  | k + 1 => lw t p k ++ [((t (p + k)).toInt - 96).toNat]
def pC : List Nat → Nat
  | [] => 0
  | a :: r => (a + 96) + 256 * pC r
def pR : List Nat → Nat
  | [] => 0
  | a :: r => a + 27 * pR r
def okL (l : List Nat) : Prop := ∀ a ∈ l, 1 ≤ a ∧ a ≤ 26
theorem pC_inj : ∀ {l m : List Nat}, okL l → okL m → pC l = pC m → l = m
  | [], [], _, _, _ => rfl
  | [], b :: s, _, _, h => by simp only [pC] at h; omega
  | a :: r, [], _, _, h => by simp only [pC] at h; omega
  | a :: r, b :: s, h1, h2, h => by
    have ha := h1 a List.mem_cons_self
    have hb := h2 b List.mem_cons_self
    simp only [pC] at h
    have e1 : a = b := by omega
    have e2 : pC r = pC s := by omega
    rw [e1, pC_inj (fun x hx => h1 x (List.mem_cons_of_mem _ hx)) (fun x hx => h2 x (List.mem_cons_of_mem _ hx)) e2]
theorem pR_inj : ∀ {l m : List Nat}, okL l → okL m → pR l = pR m → l = m
  | [], [], _, _, _ => rfl
  | [], b :: s, _, h2, h => by have hb := h2 b List.mem_cons_self; simp only [pR] at h; omega
  | a :: r, [], h1, _, h => by have ha := h1 a List.mem_cons_self; simp only [pR] at h; omega
  | a :: r, b :: s, h1, h2, h => by
    have ha := h1 a List.mem_cons_self
    have hb := h2 b List.mem_cons_self
    simp only [pR] at h
    have e1 : a = b := by omega
    have e2 : pR r = pR s := by omega
    rw [e1, pR_inj (fun x hx => h1 x (List.mem_cons_of_mem _ hx)) (fun x hx => h2 x (List.mem_cons_of_mem _ hx)) e2]
theorem pC_app : ∀ (l : List Nat) (a : Nat), pC (l ++ [a]) = pC l + (a + 96) * 256 ^ l.length
  | [], a => by simp [pC]
  | b :: r, a => by
    simp only [List.cons_append, pC, pC_app r a, List.length_cons, Nat.pow_succ]
    rw [Nat.mul_add, ← Nat.add_assoc]
    congr 1
    rw [Nat.mul_comm 256, Nat.mul_assoc]
theorem pC_lt : ∀ {l : List Nat}, okL l → pC l < 256 ^ l.length ∧ 2 * pC l < 256 ^ l.length
  | [], _ => by simp [pC]
  | a :: r, h => by
    have ha := h a List.mem_cons_self
    have := pC_lt (l := r) (fun x hx => h x (List.mem_cons_of_mem _ hx))
    simp only [pC, List.length_cons, Nat.pow_succ]
    omega
theorem pR_lt : ∀ {l : List Nat}, okL l → pR l < 27 ^ l.length
  | [], _ => by simp [pR]
  | a :: r, h => by
    have ha := h a List.mem_cons_self
    have := pR_lt (l := r) (fun x hx => h x (List.mem_cons_of_mem _ hx))
    simp only [pR, List.length_cons, Nat.pow_succ]
    omega
theorem lw_len (t : Nat → Int32) (p : Nat) : ∀ k, (lw t p k).length = k
  | 0 => rfl
  | k + 1 => by simp [lw, lw_len t p k]
/-- k letters from p on -/
def lets (t : Nat → Int32) (p k : Nat) : Prop := ∀ j, j < k → iL (t (p + j)) = true
theorem iL_bd {x : Int32} (h : iL x = true) : 97 ≤ x.toInt ∧ x.toInt ≤ 122 := by
  have h := iL_t h
  rw [Int32.lt_iff_toInt_lt, Int32.lt_iff_toInt_lt] at h
  have a1 : (97 : Int32).toInt = 97 := rfl
  have a2 : (122 : Int32).toInt = 122 := rfl
  omega
theorem lw_ok {t : Nat → Int32} {p : Nat} : ∀ {k : Nat}, lets t p k → okL (lw t p k)
  | 0, _ => fun a h => by simp [lw] at h
  | k + 1, hl => by
    intro a ha
    simp only [lw, List.mem_append, List.mem_singleton] at ha
    rcases ha with ha | rfl
    · exact lw_ok (fun j hj => hl j (by omega)) a ha
    · have := iL_bd (hl k (by omega))
      omega
theorem ll_lets (t : Nat → Int32) : ∀ m p, lets t p (ll t m p)
  | 0, p => fun j hj => by simp [ll] at hj
  | m + 1, p => by
    unfold ll
    split
    · rename_i h
      intro j hj
      cases j with
      | zero => exact h
      | succ j =>
        have := ll_lets t m (p + 1) j (by omega)
        rwa [show p + 1 + j = p + (j + 1) by omega] at this
    · intro j hj; omega
theorem sh8 : ∀ k : Fin 8, ((((8 * Int32.ofNat k.val) : Int32).toInt64 &&& 63) : Int64) = Int64.ofNat (8 * k.val) := by decide
theorem nC_p {t : Nat → Int32} {p : Nat} : ∀ {k : Nat}, k ≤ 8 → lets t p k → nC t p k = Int64.ofNat (pC (lw t p k))
  | 0, _, _ => rfl
  | k + 1, hk, hl => by
    have hl0 : lets t p k := fun j hj => hl j (by omega)
    have ih := nC_p (k := k) (by omega) hl0
    have hb := iL_bd (hl k (by omega))
    have hlt := (pC_lt (lw_ok hl0)).1
    rw [lw_len] at hlt
    unfold nC
    rw [if_pos (by omega), ih, sh8 ⟨k, by omega⟩]
    simp only [lw]
    rw [pC_app, lw_len]
    have hc : ((((t (p + k)).toInt - 96).toNat + 96 : Nat) : Int) = (t (p + k)).toInt := by omega
    generalize hcc : ((t (p + k)).toInt - 96).toNat + 96 = c at *
    have hc256 : c < 256 := by omega
    have e1 : ((t (p + k) &&& 255) : Int32) = Int32.ofNat c := by
      have hx : t (p + k) = Int32.ofNat c := by
        apply Int32.toInt_inj.mp
        rw [oN_i (by omega), hc]
      rw [hx]
      apply Int32.toBitVec_inj.mp
      show (Int32.ofNat c).toBitVec &&& 255#32 = (Int32.ofNat c).toBitVec
      apply BitVec.eq_of_toNat_eq
      rw [BitVec.toNat_and]
      show (Int32.ofNat c).toBitVec.toNat &&& 255 = _
      rw [show (255 : Nat) = 2 ^ 8 - 1 from rfl, Nat.and_two_pow_sub_one_eq_mod]
      apply Nat.mod_eq_of_lt
      show (BitVec.ofNat 32 c).toNat < 256
      rw [BitVec.toNat_ofNat, Nat.mod_eq_of_lt (by omega)]
      exact hc256
    rw [e1]
    have e2 : (Int32.ofNat c).toInt64 = Int64.ofNat c := by
      apply Int64.toInt_inj.mp
      rw [Int32.toInt_toInt64, oN_i (by omega), Int64.toInt_ofNat_of_lt (by omega)]
    rw [e2]
    have hpow : (256 : Nat) ^ k = 2 ^ (8 * k) := by
      rw [show (256 : Nat) = 2 ^ 8 from rfl, ← Nat.pow_mul]
    have hle : 2 ^ (8 * k) ≤ 2 ^ 56 := Nat.pow_le_pow_right (by omega) (by omega)
    rw [hpow] at hlt ⊢
    apply Int64.toBitVec_inj.mp
    apply BitVec.eq_of_toNat_eq
    have s1 : (Int64.ofNat (pC (lw t p k)) ||| Int64.ofNat c <<< Int64.ofNat (8 * k)).toBitVec = (BitVec.ofNat 64 (pC (lw t p k))) ||| ((BitVec.ofNat 64 c) <<< (8 * k)) := by
      have : ∀ j : Fin 8, ∀ x : Int64, (x <<< Int64.ofNat (8 * j.val)).toBitVec = x.toBitVec <<< (8 * j.val) := by
        intro j x
        match j with
        | 0 => rfl
        | 1 => rfl
        | 2 => rfl
        | 3 => rfl
        | 4 => rfl
        | 5 => rfl
        | 6 => rfl
        | 7 => rfl
      show (Int64.ofNat (pC (lw t p k))).toBitVec ||| (Int64.ofNat c <<< Int64.ofNat (8 * k)).toBitVec = _
      rw [this ⟨k, by omega⟩ (Int64.ofNat c)]
      rfl
    rw [s1, BitVec.toNat_or, BitVec.toNat_shiftLeft, BitVec.toNat_ofNat, BitVec.toNat_ofNat, Nat.mod_eq_of_lt (a := pC (lw t p k)) (by omega), Nat.mod_eq_of_lt (a := c) (by omega), Nat.shiftLeft_eq]
    have hmul : c * 2 ^ (8 * k) < 2 ^ 64 := by
      calc c * 2 ^ (8 * k) < 256 * 2 ^ (8 * k) := Nat.mul_lt_mul_of_pos_right hc256 (Nat.two_pow_pos _)
        _ ≤ 256 * 2 ^ 56 := Nat.mul_le_mul_left _ hle
        _ = 2 ^ 64 := by decide
    rw [Nat.mod_eq_of_lt hmul]
    show pC (lw t p k) ||| c * 2 ^ (8 * k) = (BitVec.ofNat 64 (pC (lw t p k) + c * 2 ^ (8 * k))).toNat
    have hsum : pC (lw t p k) + c * 2 ^ (8 * k) < 2 ^ 64 := by
      have h9 : (c + 1) * 2 ^ (8 * k) ≤ 256 * 2 ^ (8 * k) := Nat.mul_le_mul_right _ (by omega)
      have h8 : (256 : Nat) * 2 ^ (8 * k) ≤ 256 * 2 ^ 56 := Nat.mul_le_mul_left _ hle
      have h7 : (256 : Nat) * 2 ^ 56 = 2 ^ 64 := by decide
      rw [Nat.add_mul, Nat.one_mul] at h9
      omega
    rw [BitVec.toNat_ofNat, Nat.mod_eq_of_lt hsum, Nat.or_comm, Nat.mul_comm, ← Nat.two_pow_add_eq_or_of_lt hlt, Nat.add_comm]
theorem lw_rev_s (t : Nat → Int32) (p k : Nat) : (lw t p (k + 1)).reverse = ((t (p + k)).toInt - 96).toNat :: (lw t p k).reverse := by
  simp [lw]
theorem nR_p {t : Nat → Int32} {p : Nat} : ∀ {k : Nat}, k ≤ 8 → lets t p k → nR t p k = Int64.ofNat (pR (lw t p k).reverse)
  | 0, _, _ => rfl
  | k + 1, hk, hl => by
    have hl0 : lets t p k := fun j hj => hl j (by omega)
    have ih := nR_p (k := k) (by omega) hl0
    have hb := iL_bd (hl k (by omega))
    have hlt := pR_lt (l := (lw t p k).reverse) (fun a ha => lw_ok hl0 a (List.mem_reverse.mp ha))
    rw [List.length_reverse, lw_len] at hlt
    unfold nR
    rw [if_pos (by omega), ih, lw_rev_s]
    simp only [pR]
    have h27 : (27 : Nat) ^ k ≤ 27 ^ 7 := Nat.pow_le_pow_right (by omega) (by omega)
    have h277 : (27 : Nat) ^ 7 = 10460353203 := by decide
    generalize pR (lw t p k).reverse = P at *
    have hc : (((t (p + k)).toInt - 96).toNat : Int) = (t (p + k)).toInt - 96 := by omega
    generalize hcc : ((t (p + k)).toInt - 96).toNat = c at *
    apply Int64.toInt_inj.mp
    have a0 : (Int64.ofNat P).toInt = (P : Int) := Int64.toInt_ofNat_of_lt (by omega)
    have a1 : (27 * Int64.ofNat P : Int64).toInt = 27 * (P : Int) := by
      rw [Int64.toInt_mul, a0]
      have : (27 : Int64).toInt = 27 := rfl
      rw [this, Int.bmod_eq_of_le (by omega) (by omega)]
    have a2 : (27 * Int64.ofNat P + (t (p + k)).toInt64 : Int64).toInt = 27 * (P : Int) + (t (p + k)).toInt := by
      rw [Int64.toInt_add, a1, Int32.toInt_toInt64, Int.bmod_eq_of_le (by omega) (by omega)]
    have a3 : (27 * Int64.ofNat P + (t (p + k)).toInt64 - 97 : Int64).toInt = 27 * (P : Int) + (t (p + k)).toInt - 97 := by
      rw [Int64.toInt_sub, a2]
      have : (97 : Int64).toInt = 97 := rfl
      rw [this, Int.bmod_eq_of_le (by omega) (by omega)]
    rw [Int64.toInt_add, a3]
    have : (1 : Int64).toInt = 1 := rfl
    rw [this, Int.bmod_eq_of_le (by omega) (by omega), Int64.toInt_ofNat_of_lt (by omega)]
    omega
/-- a name of the class, of the reference -/
def nmC (l : List Nat) : Int64 := Int64.ofNat (pC l)
def nmR (l : List Nat) : Int64 := Int64.ofNat (pR l.reverse)
/-- a name: one to eight letters -/
def isN (l : List Nat) : Prop := okL l ∧ l.length ≤ 8
theorem isN_C {l : List Nat} (h : isN l) : pC l < 9223372036854775808 := by
  have h1 := (pC_lt h.1).2
  have h2 : 256 ^ l.length ≤ 256 ^ 8 := Nat.pow_le_pow_right (by omega) h.2
  have h3 : (256 : Nat) ^ 8 = 18446744073709551616 := by decide
  omega
theorem isN_R {l : List Nat} (h : isN l) : pR l.reverse < 282429536481 := by
  have h1 := pR_lt (l := l.reverse) (fun a ha => h.1 a (List.mem_reverse.mp ha))
  rw [List.length_reverse] at h1
  have h2 : 27 ^ l.length ≤ 27 ^ 8 := Nat.pow_le_pow_right (by omega) h.2
  have h3 : (27 : Nat) ^ 8 = 282429536481 := by decide
  omega
theorem nmC_inj {l m : List Nat} (h1 : isN l) (h2 : isN m) : nmC l = nmC m ↔ l = m := by
  constructor
  · intro h
    have e1 := congrArg Int64.toInt h
    unfold nmC at e1
    rw [Int64.toInt_ofNat_of_lt (isN_C h1), Int64.toInt_ofNat_of_lt (isN_C h2)] at e1
    exact pC_inj h1.1 h2.1 (by omega)
  · rintro rfl; rfl
theorem nmR_inj {l m : List Nat} (h1 : isN l) (h2 : isN m) : nmR l = nmR m ↔ l = m := by
  constructor
  · intro h
    have e1 := congrArg Int64.toInt h
    unfold nmR at e1
    have b1 := isN_R h1
    have b2 := isN_R h2
    rw [Int64.toInt_ofNat_of_lt (by omega), Int64.toInt_ofNat_of_lt (by omega)] at e1
    have e2 := pR_inj (l := l.reverse) (m := m.reverse) (fun a ha => h1.1 a (List.mem_reverse.mp ha)) (fun a ha => h2.1 a (List.mem_reverse.mp ha)) (by omega)
    exact List.reverse_inj.mp e2
  · rintro rfl; rfl
theorem nC_nm {t : Nat → Int32} {p k : Nat} (hk : k ≤ 8) (hl : lets t p k) : nC t p k = nmC (lw t p k) := nC_p hk hl
theorem nR_nm {t : Nat → Int32} {p k : Nat} (hk : k ≤ 8) (hl : lets t p k) : nR t p k = nmR (lw t p k) := nR_p hk hl
theorem lw_isN {t : Nat → Int32} {p k : Nat} (hk : k ≤ 8) (hl : lets t p k) : isN (lw t p k) := ⟨lw_ok hl, by rw [lw_len]; exact hk⟩
/-- the seventeen words -/
def kw : List (List Nat) := [[7, 12, 15, 2, 1, 12], [1, 18, 18, 1, 25], [6, 21, 14, 3], [16, 18, 15, 3], [20, 5, 19, 20], [9, 14, 20], [2, 15, 15, 12], [12, 5, 20], [9, 6], [5, 12, 19, 5], [23, 8, 9, 12, 5], [2, 18, 5, 1, 11], [3, 15, 14, 20, 9, 14, 21, 5], [18, 5, 20, 21, 18, 14], [3, 8, 5, 3, 11], [20, 18, 21, 5], [6, 1, 12, 19, 5]]
theorem kw_isN : ∀ l ∈ kw, isN l := by
  have h : kw.all (fun l => l.all (fun a => decide (1 ≤ a) && decide (a ≤ 26)) && decide (l.length ≤ 8)) = true := by decide
  intro l hl
  have h1 := List.all_eq_true.mp h l hl
  simp only [Bool.and_eq_true, decide_eq_true_eq] at h1
  refine ⟨fun a ha => ?_, h1.2⟩
  have h2 := List.all_eq_true.mp h1.1 a ha
  simpa using h2
/-- the place of a name among the words -/
def kwi : List (List Nat) → List Nat → Nat → Option Nat
  | [], _, _ => none
  | w :: r, l, j => if w = l then some j else kwi r l (j + 1)
