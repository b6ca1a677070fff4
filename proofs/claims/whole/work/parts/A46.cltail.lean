
/-! ===== the class reads items: letters, heads, tails ===== -/
theorem pC_div : ∀ (k : Nat) {l : List Nat}, okL l → pC l / 256 ^ k = pC (l.drop k)
  | 0, l, _ => by simp
  | k + 1, [], _ => by simp [pC]
  | k + 1, a :: r, h => by
    have h1 := h a (List.mem_cons_self ..)
    have ih := pC_div k (l := r) (fun x hx => h x (List.mem_cons_of_mem _ hx))
    rw [List.drop_succ_cons, ← ih, Nat.pow_succ, Nat.mul_comm, ← Nat.div_div_eq_div_mul]
    have : pC (a :: r) / 256 = pC r := by
      show (a + 96 + 256 * pC r) / 256 = pC r
      omega
    rw [this]
theorem pC_0 {l : List Nat} (h : pC l = 0) : l = [] := by
  cases l with
  | nil => rfl
  | cons a r => simp only [pC] at h; omega
theorem shA : ∀ k : Fin 8, ((8 * Int32.ofNat k.val : Int32).toInt64.toUInt64 &&& Int64.toUInt64 63) = UInt64.ofNat (8 * k.val) := by decide
theorem sh_C {l : List Nat} {k : Nat} (hl : isN l) (hk : k < 8) : ((nmC l).toUInt64 >>> ((8 * Int32.ofNat k : Int32).toInt64.toUInt64 &&& Int64.toUInt64 63)).toInt64 = Int64.ofNat (pC (l.drop k)) := by
  rw [shA ⟨k, hk⟩, ← UInt64.toInt64_ofNat']
  apply congrArg UInt64.toInt64
  apply UInt64.toNat_inj.mp
  have hb := isN_C hl
  have hs : UInt64.size = 18446744073709551616 := rfl
  have e1 : (nmC l).toUInt64.toNat = pC l := by
    show (UInt64.ofNat (pC l)).toNat = pC l
    rw [UInt64.toNat_ofNat_of_lt' (by omega)]
  have e2 : (UInt64.ofNat (8 * k)).toNat = 8 * k := by rw [UInt64.toNat_ofNat_of_lt' (by omega)]
  rw [UInt64.toNat_shiftRight, e1, e2, Nat.mod_eq_of_lt (by omega), Nat.shiftRight_eq_div_pow, Nat.pow_mul]
  have e3 : pC l / (2 ^ 8) ^ k = pC (l.drop k) := pC_div k hl.1
  rw [e3, UInt64.toNat_ofNat_of_lt' ?_]
  have : pC (l.drop k) ≤ pC l := by rw [← e3]; exact Nat.div_le_self _ _
  omega
section MCL
variable {e : my_E} {d : Nat} {κ : my_K} {σ : my_S} {Q : my_O → my_K → my_S → Prop} {l : List Nat}
/-- letterCount -/
theorem c_4l (hl : isN l) : ∀ (m k : Nat), k + m = l.length → Q (.inl (some (.inl (Int32.ofNat l.length)))) κ σ → ys_4_2 e d (nmC l) (Int32.ofNat k) κ σ Q := by
  intro m
  induction m with
  | zero =>
    intro k hk hQ
    have h8 := hl.2
    unfold ys_4_2 ys_4_25
    rw [show k = l.length by omega]
    refine my_if (fun hh => ?_) (fun _ => hQ)
    have hk8 : l.length < 8 := (oN_lt1 (b := 8) (c := 8) rfl (by omega) (by omega)).mp hh
    rw [sh_C hl hk8, List.drop_length, if_pos (by rw [lg_cmp_0]; rfl)]
    exact hQ
  | succ m ih =>
    intro k hk hQ
    have h8 := hl.2
    unfold ys_4_2
    rw [if_pos ((oN_lt1 (b := 8) (c := 8) rfl (by omega) (by omega)).mpr (by omega)), sh_C hl (by omega)]
    have hb := isN_C hl
    have hne : ¬ lg_cmp (Int64.ofNat (pC (l.drop k))) 0 = 0 := fun hh => by
      have h1 := lg_cmp_0.mp hh
      have h2 := congrArg Int64.toInt h1
      have h3 : pC (l.drop k) ≤ pC l := by rw [← pC_div k hl.1]; exact Nat.div_le_self _ _
      rw [Int64.toInt_ofNat_of_lt (by omega)] at h2
      have h4 : pC (l.drop k) = 0 := by have : (0 : Int64).toInt = 0 := rfl; omega
      have h5 := pC_0 h4
      have h6 : (l.drop k).length = 0 := by rw [h5]; rfl
      rw [List.length_drop] at h6
      omega
    rw [if_neg hne, oN_s]
    exact ys_4_2_ok (ih (k + 1) (by omega) hQ)
theorem c_4 (hl : isN l) (hd : 1 ≤ d) (hQ : Q (.inl (some (.inl (Int32.ofNat l.length)))) κ σ) : my_M e d 4 [.inr (.inl (nmC l))] κ σ Q := by
  obtain ⟨d, rfl⟩ := dS 1 hd
  refine ys_4 ?_
  unfold ys_4_0
  exact ys_4_2_ok (c_4l hl l.length 0 (by omega) hQ)
theorem and255 (x : Nat) : Int32.ofNat x &&& 255 = Int32.ofNat (x % 256) := by
  apply Int32.toBitVec_inj.mp
  apply BitVec.eq_of_toNat_eq
  have h1 : (Int32.ofNat x &&& 255).toBitVec = (BitVec.ofNat 32 x) &&& (BitVec.ofNat 32 255) := rfl
  have h2 : (Int32.ofNat (x % 256)).toBitVec = BitVec.ofNat 32 (x % 256) := rfl
  rw [h1, h2, BitVec.toNat_and, BitVec.toNat_ofNat, BitVec.toNat_ofNat, BitVec.toNat_ofNat]
  have h3 : (255 : Nat) % 2 ^ 32 = 2 ^ 8 - 1 := rfl
  rw [h3, Nat.and_two_pow_sub_one_eq_mod]
  omega
/-- a letter of a name, 0 behind it -/
def ltr (l : List Nat) (k : Nat) : Nat := match l[k]? with
  | some a => a + 96
  | none => 0
theorem pC_mod {k : Nat} (hl : isN l) : pC (l.drop k) % 256 = ltr l k := by
  unfold ltr
  cases h : l[k]? with
  | none =>
    have : l.length ≤ k := List.getElem?_eq_none_iff.mp h
    rw [List.drop_of_length_le this]
    rfl
  | some a =>
    obtain ⟨hk, rfl⟩ := List.getElem?_eq_some_iff.mp h
    rw [List.drop_eq_getElem_cons hk]
    have := hl.1 _ (List.getElem_mem hk)
    show (l[k] + 96 + 256 * pC (l.drop (k + 1))) % 256 = l[k] + 96
    omega
/-- letterAt -/
theorem c_5 {k : Nat} (hl : isN l) (hk : k < 8) (hd : 1 ≤ d) (hQ : Q (.inl (some (.inl (Int32.ofNat (ltr l k))))) κ σ) : my_M e d 5 [.inr (.inl (nmC l)), .inl (Int32.ofNat k)] κ σ Q := by
  obtain ⟨d, rfl⟩ := dS 1 hd
  refine ys_5 ?_
  unfold ys_5_0 ys_5_25
  rw [if_neg (oN_0 (by omega)), if_pos ((oN_lt1 (b := 8) (c := 8) rfl (by omega) (by omega)).mpr hk), sh_C hl hk]
  have e1 : (Int64.ofNat (pC (l.drop k))).toInt32 = Int32.ofNat (pC (l.drop k)) := Int64.toInt32_ofNat'
  rw [e1, and255, pC_mod hl]
  exact hQ
end MCL
/-! names are written -/
def wlt (w : Bool) : List Nat → St → St
  | [], S => S
  | a :: r, S => wlt w r (wr w (Int32.ofNat (a + 96)) 1 S)
def wnA (w : Bool) (it : It) (S : St) : St := wlt w it.1 (wr w (Int32.ofNat it.1.length) 1 (wr w it.2.1 1 S))
def wnN (w : Bool) (I : List It) : List Nat → St → St
  | [], S => S
  | x :: N, S => wnN w I N (wnA w (itA I x) S)
/-- the types of parameters -/
def wpt (w : Bool) : List Int32 → St → St
  | [], S => S
  | x :: T, S => wpt w T (wr w x 1 S)
def nd0 (S : St) : St := (S.1, S.2.1, S.2.2.1, [])
/-- what a head makes -/
def hSt (w : Bool) (fm : Int32) (T : List Int32) (ty : Int32) (S : St) : St := wr w 0 3 (wr w ty 1 (wpt w T (wr w (Int32.ofNat T.length) 1 (wr w fm 1 (nd0 S)))))
/-- the code's end -/
def tcS (w : Bool) (fm : Nat) (ty : Int32) (S : St) : St := if fm = 2 then wr w 11 1 (if ty = 1 then wr w 3 1 S else wr w 0 4 (wr w 1 1 S)) else if fm = 3 then wr w 12 1 S else wr w 13 1 S
def tpS (w : Bool) (cF : Int32) (nl : Nat) (S : St) : St := if w = true then p1 (cF - 2 + 1) (bt (cpl cF S) 1) (p1 (cF - 2 + 0) (bt (cpl cF S) 0) (p1 (cF - 3 + 0) (bt (Int32.ofNat nl) 0) S)) else S
/-- what a tail makes -/
def tSt (w : Bool) (I : List It) (fm : Nat) (ty cF : Int32) (nl : Nat) (S : St) : St := wnN w I S.2.2.2 (wr w (Int32.ofNat S.2.2.2.length) 1 (tpS w cF nl (tcS w fm ty S)))
section MCT
variable {e : my_E} {d : Nat} {κ : my_K} {σ : my_S} {Q : my_O → my_K → my_S → Prop} {t : Nat → Int32} {n p o : Nat} {I : List It} {w : Bool} {rv cu : Nat} {S : St}
theorem wr_N {x : Int32} {k : Nat} : (wr w x k S).2.2.2 = S.2.2.2 := by
  unfold wr
  split
  · exact wn_N
  · rfl
/-- the letters of a name -/
theorem z_100l {it : It} {a1 : Nat} (hN : isN it.1) (hin : my_in 11 a1) (hd : 2 ≤ d) (hxF : a1 < 33 ∨ 42 < a1) (hq : ∀ c k, xF rv cu c k → c ≠ a1 ∨ k ≠ 4) : ∀ (m k : Nat) (S : St) (σ : my_S), k + m = it.1.length → CR0 t n I w rv cu S p o σ → σ.2.1 a1 4 = nmC it.1 → (∀ σ', CR0 t n I w rv cu (wlt w (it.1.drop k) S) p o σ' → eqp (xF rv cu) σ σ' → Q (.inl none) κ σ') → ys_100_29 e d (some a1) (Int32.ofNat it.1.length) (Int32.ofNat k) κ σ Q := by
  intro m
  induction m with
  | zero =>
    intro k S σ hk h ha hQ
    have h8 := hN.2
    unfold ys_100_29 ys_100_53
    rw [if_neg (by rw [oN_lt (by omega) (by omega)]; omega)]
    rw [List.drop_of_length_le (by omega)] at hQ
    exact hQ σ h eqp_rf
  | succ m ih =>
    intro k S σ hk h ha hQ
    have h8 := hN.2
    unfold ys_100_29
    rw [if_pos (by rw [oN_lt (by omega) (by omega)]; omega)]
    refine ⟨a1, rfl, hin, ?_⟩
    rw [ha]
    refine c_5 hN (by omega) (by omega) ?_
    rw [my_kI_v]
    have hkl : k < it.1.length := by omega
    have el : ltr it.1 k = it.1[k] + 96 := by unfold ltr; rw [List.getElem?_eq_getElem hkl]
    rw [el]
    refine z_67 (k := 1) h hd (by omega) rfl (fun σ1 g1 f1 => ?_)
    rw [my_k0_v, oN_s]
    rw [List.drop_eq_getElem_cons hkl] at hQ
    refine ys_100_29_ok (ih (k + 1) _ σ1 (by omega) g1 ?_ (fun σ' g f => hQ σ' g (eqp_tr f1 f)))
    rw [(f1 a1 4 (fun hh => by rcases hq _ _ hh with h' | h'; exact h' rfl; exact h' rfl)).2.1]
    exact ha
/-- a name -/
theorem z_100 {x : Nat} (h : CR0 t n I w rv cu S p o σ) (hx : x < I.length) (hd : 3 ≤ d) (hQ : ∀ σ', CR0 t n I w rv cu (wnA w (itA I x) S) p o σ' → eqp (xF rv cu) σ σ' → Q (.inl none) κ σ') : my_M e d 100 [.inr (.inr (some 39)), .inr (.inr (some (rv + 4 + 3 * x)))] κ σ Q := by
  obtain ⟨d, rfl⟩ := dS 1 (show 1 ≤ d by omega)
  have hrv := C0_rv h
  have hc42 := C0_c h
  obtain ⟨hx42, b1, b2, b3, _⟩ := CIm_it (C0_im h) hx
  have hin := in11 hrv hx42
  refine ys_100 ?_
  unfold ys_100_0
  rw [if_neg (by simp)]
  refine ⟨_, rfl, hin, ?_⟩
  rw [b2]
  refine c_4 b1 (by omega) ?_
  rw [my_kI_v]
  refine ⟨_, rfl, hin, ?_⟩
  rw [b3]
  refine z_67 (k := 1) h (by omega) (by omega) rfl (fun σ1 g1 f1 => ?_)
  rw [my_k0_v]
  refine z_67 (k := 1) g1 (by omega) (by omega) rfl (fun σ2 g2 f2 => ?_)
  rw [my_k0_v]
  refine ys_100_29_ok (z_100l (it := itA I x) b1 hin (by omega) (by omega) (fun c k hh => by unfold xF at hh; omega) (itA I x).1.length 0 _ σ2 (by omega) g2 (CIm_it (C0_im g2) hx).2.2.1 (fun σ' g f => hQ σ' g (eqp_tr (eqp_tr f1 f2) f)))
theorem wlt_N : ∀ {l : List Nat} {S : St}, (wlt w l S).2.2.2 = S.2.2.2
  | [], _ => rfl
  | a :: l, S => by rw [wlt, wlt_N, wr_N]
theorem wnA_N {it : It} : (wnA w it S).2.2.2 = S.2.2.2 := by
  unfold wnA
  rw [wlt_N, wr_N, wr_N]
/-- the needed one by its number -/
theorem z_209 {k x : Nat} (h : CR0 t n I w rv cu S p o σ) (hk : S.2.2.2[k]? = some x) (hd : 1 ≤ d) (hQ : Q (.inl (some (.inr (.inr (some (rv + 4 + 3 * x)))))) κ σ) : my_M e d 209 [.inr (.inr (some (rv + 4 + 3 * cu))), .inl (Int32.ofNat k)] κ σ Q := by
  obtain ⟨d, rfl⟩ := dS 1 hd
  obtain ⟨a1, a2, a3⟩ := h.2.2.2.2.2.2
  have hkl := (List.getElem?_eq_some_iff.mp hk).1
  refine ys_209 (C0_11 h) ?_
  unfold ys_209_0 ys_209_31
  rw [if_neg (oN_0 (by omega)), a1, if_pos ((oN_lt (by omega) (by omega)).mpr hkl), if_pos ((oN_lt1 (b := 30) (c := 30) rfl (by omega) (by omega)).mpr (by omega)), oN_n (by omega), (a3 k x hk).2]
  exact ⟨⟨by rw [oN_i (by omega)]; omega, by rw [oN_i (by omega)]; omega⟩, hQ⟩
/-- the names that are needed -/
theorem z_99l {N : List Nat} (hN : ∀ x ∈ N, x < I.length) (hd : 4 ≤ d) : ∀ (m k : Nat) (S : St) (σ : my_S), k + m = N.length → S.2.2.2 = N → CR0 t n I w rv cu S p o σ → (∀ σ', CR0 t n I w rv cu (wnN w I (N.drop k) S) p o σ' → eqp (xF rv cu) σ σ' → ∃ a4, (σ'.2.2 39 1) = some a4 ∧ my_in 10 a4 ∧ (∃ a7, (σ'.2.2 39 2) = some a7 ∧ my_in 11 a7 ∧ (∃ a10, (σ'.2.2 39 2) = some a10 ∧ my_in 11 a10 ∧ (Q (.inl none) κ (my_uI σ' a10 11 ((σ'.1 a4 1) - (σ'.1 a7 10))))))) → ys_99_175 e d (Int32.ofNat k) κ σ Q := by
  intro m
  induction m with
  | zero =>
    intro k S σ hk hS h hQ
    obtain ⟨a1, a2, a3⟩ := h.2.2.2.2.2.2
    rw [hS] at a1 a2
    unfold ys_99_175
    refine ⟨_, C0_2 h, C0_11 h, ?_⟩
    rw [a1, if_neg (by rw [oN_lt (by omega) (by omega)]; omega)]
    rw [List.drop_of_length_le (by omega)] at hQ
    exact hQ σ h eqp_rf
  | succ m ih =>
    intro k S σ hk hS h hQ
    obtain ⟨a1, a2, a3⟩ := h.2.2.2.2.2.2
    rw [hS] at a1 a2
    have hkl : k < N.length := by omega
    unfold ys_99_175
    refine ⟨_, C0_2 h, C0_11 h, ?_⟩
    rw [a1, if_pos (by rw [oN_lt (by omega) (by omega)]; omega)]
    refine ⟨_, C0_2 h, C0_11 h, ?_⟩
    refine z_209 (x := N[k]) h (by rw [hS]; exact List.getElem?_eq_getElem hkl) (by omega) ?_
    rw [my_kA_v]
    refine z_100 h (hN _ (List.getElem_mem hkl)) (by omega) (fun σ1 g1 f1 => ?_)
    rw [my_k0_v, oN_s]
    rw [List.drop_eq_getElem_cons hkl] at hQ
    exact ys_99_175_ok (ih (k + 1) _ σ1 (by omega) (by rw [wnA_N]; exact hS) g1 (fun σ' g f => hQ σ' g (eqp_tr f1 f)))
/-- a byte changed -/
theorem z_p1 {k x : Int32} (h : CR0 t n I w rv cu S p o σ) (h0 : ¬ k < 0) (h6 : k < 6144) : CR0 t n I w rv cu (p1 k x S) p o (my_uI σ (rv + 1) k.toNatClampNeg x) ∧ eqp (xF rv cu) σ (my_uI σ (rv + 1) k.toNatClampNeg x) := by
  have he : eqp (fun c j => c = rv + 1 ∧ j = k.toNatClampNeg) σ (my_uI σ (rv + 1) k.toNatClampNeg x) := eqp_I eqp_rf ⟨rfl, rfl⟩
  have hrv := C0_rv h
  obtain ⟨a1, a2, a3, a4⟩ := h.2.2.2
  refine CR0_st h he (fun c k hh => by unfold dF; omega) ?_
  unfold p1
  rw [if_neg h0, if_pos h6]
  refine ⟨(eqp_g he (by omega)).trans a1, (eqp_g he (by omega)).trans a2, ⟨?_, ?_, fun i y hy => ?_⟩, ⟨(eqp_g he (by omega)).trans a4.1, a4.2.1, fun i x hx => ⟨(a4.2.2 i x hx).1, ((he _ _ (by omega)).2.2).trans (a4.2.2 i x hx).2⟩⟩⟩
  · rw [eqp_g he (by omega)]; simpa using a3.1
  · simpa using a3.2.1
  · simp only [] at hy
    by_cases hi : i = k.toNatClampNeg
    · have hl : k.toNatClampNeg < S.2.2.1.length := by
        by_cases hh : k.toNatClampNeg < S.2.2.1.length
        · exact hh
        · rw [hi, List.getElem?_eq_none (by simp; omega)] at hy; cases hy
      rw [hi, List.getElem?_set_self hl] at hy
      cases hy
      rw [hi, my_uI_1, if_pos ⟨rfl, rfl⟩]
    · rw [List.getElem?_set_ne (fun hh => hi hh.symm)] at hy
      exact (eqp_g he (by omega)).trans (a3.2.2 i y hy)
theorem z_199a {j v m z : Int32} (h : CR0 t n I w rv cu S p o σ) (hm : m < z) (hQ : ∀ σ', CR0 t n I w rv cu (p1 (j + m) (bt v m) S) p o σ' → eqp (xF rv cu) σ σ' → ys_199_45 e d rv j v z m κ σ' Q) : ys_199_3 e d rv j v z m κ σ Q := by
  unfold ys_199_3
  rw [if_pos hm]
  refine my_if (fun h0 => ?_) (fun h0 => ?_)
  · have : p1 (j + m) (bt v m) S = S := by unfold p1; rw [if_pos h0]
    rw [this] at hQ
    exact hQ σ h eqp_rf
  · refine my_if (fun h6 => ?_) (fun h6 => ?_)
    · obtain ⟨g1, g2⟩ := z_p1 (k := j + m) (x := bt v m) h h0 h6
      refine ⟨⟨?_, ?_⟩, hQ _ g1 g2⟩
      · have := Int32.not_lt.mp h0
        rw [Int32.le_iff_toInt_le] at this
        simpa using this
      · rw [Int32.lt_iff_toInt_lt] at h6
        simpa using h6
    · have : p1 (j + m) (bt v m) S = S := by unfold p1; rw [if_neg h0, if_neg h6]
      rw [this] at hQ
      exact hQ σ h eqp_rf
theorem z_199_1 {j v : Int32} (h : CR0 t n I w rv cu S p o σ) (hd : 1 ≤ d) (hQ : ∀ σ', CR0 t n I w rv cu (p1 (j + 0) (bt v 0) S) p o σ' → eqp (xF rv cu) σ σ' → Q (.inl none) κ σ') : my_M e d 199 [.inr (.inr (some rv)), .inl j, .inl v, .inl 1] κ σ Q := by
  obtain ⟨d, rfl⟩ := dS 1 hd
  have h10 := C0_10 h
  refine ys_199 h10 ?_
  unfold ys_199_0
  refine ys_199_3_ok h10 ?_
  refine z_199a (m := 0) h (by decide) (fun σ1 g1 f1 => ?_)
  unfold ys_199_45
  refine ys_199_3_ok h10 ?_
  unfold ys_199_3
  rw [if_neg (by decide)]
  exact hQ σ1 g1 f1
theorem z_199_2 {j v : Int32} (h : CR0 t n I w rv cu S p o σ) (hd : 1 ≤ d) (hQ : ∀ σ', CR0 t n I w rv cu (p1 (j + 1) (bt v 1) (p1 (j + 0) (bt v 0) S)) p o σ' → eqp (xF rv cu) σ σ' → Q (.inl none) κ σ') : my_M e d 199 [.inr (.inr (some rv)), .inl j, .inl v, .inl 2] κ σ Q := by
  obtain ⟨d, rfl⟩ := dS 1 hd
  have h10 := C0_10 h
  refine ys_199 h10 ?_
  unfold ys_199_0
  refine ys_199_3_ok h10 ?_
  refine z_199a (m := 0) h (by decide) (fun σ1 g1 f1 => ?_)
  unfold ys_199_45
  refine ys_199_3_ok h10 ?_
  rw [show (0 : Int32) + 1 = 1 from rfl]
  refine z_199a (m := 1) g1 (by decide) (fun σ2 g2 f2 => ?_)
  unfold ys_199_45
  refine ys_199_3_ok h10 ?_
  unfold ys_199_3
  rw [if_neg (by decide)]
  exact hQ σ2 g2 (eqp_tr f1 f2)
/-- the tail, from the locals' number on -/
theorem y_99e {nl : Nat} {cF : Int32} {b0 : Nat} (h : CR0 t n I w rv cu S p o σ) (hd : 5 ≤ d) (h8 : σ.1 39 8 = Int32.ofNat nl) (h12 : σ.1 (rv + 4 + 3 * cu) 12 = cF) (h10 : σ.1 (rv + 4 + 3 * cu) 10 = Int32.ofNat b0) (hN : ∀ x ∈ S.2.2.2, x < I.length)
    (hQ : ∀ σ', CR0 t n I w rv cu (wnN w I S.2.2.2 (wr w (Int32.ofNat S.2.2.2.length) 1 (tpS w cF nl S))) p o σ' → σ'.1 (rv + 4 + 3 * cu) 9 = Int32.ofNat nl → σ'.1 (rv + 4 + 3 * cu) 10 = Int32.ofNat b0 → σ'.1 (rv + 4 + 3 * cu) 11 = Int32.ofNat (wnN w I S.2.2.2 (wr w (Int32.ofNat S.2.2.2.length) 1 (tpS w cF nl S))).2.2.1.length - Int32.ofNat b0 → σ'.1 (rv + 4 + 3 * cu) 12 = cF → σ'.1 (rv + 4 + 3 * cu) 13 = cpl cF S → eqp (wF rv cu) σ σ' → Q (.inl none) κ σ') : ys_99_76 e d κ σ Q := by
  have hrv := C0_rv h
  have hc42 := C0_c h
  unfold ys_99_76
  refine ⟨_, C0_2 h, C0_11 h, _, C0_1 h, C0_10 h, _, C0_2 h, C0_11 h, _, C0_2 h, C0_11 h, ?_⟩
  obtain ⟨g1, f1⟩ := C0_w (k := 9) (x := σ.1 39 8) h (by omega)
  rw [C0_sz g1, eqp_g f1 (by omega), h12]
  have ec : Int32.ofNat S.2.2.1.length - cF = cpl cF S := rfl
  rw [ec]
  obtain ⟨g2, f2⟩ := C0_w (k := 13) (x := cpl cF S) g1 (by omega)
  have e9 : (my_uI (my_uI σ (rv + 4 + 3 * cu) 9 (σ.1 39 8)) (rv + 4 + 3 * cu) 13 (cpl cF S)).1 (rv + 4 + 3 * cu) 9 = Int32.ofNat nl := by rw [my_uI_1, if_neg (by omega), uI_s]; exact h8
  have e13 : (my_uI (my_uI σ (rv + 4 + 3 * cu) 9 (σ.1 39 8)) (rv + 4 + 3 * cu) 13 (cpl cF S)).1 (rv + 4 + 3 * cu) 13 = cpl cF S := uI_s
  have f02 : eqp (fun c k => c = rv + 4 + 3 * cu ∧ (k = 9 ∨ k = 13)) σ (my_uI (my_uI σ (rv + 4 + 3 * cu) 9 (σ.1 39 8)) (rv + 4 + 3 * cu) 13 (cpl cF S)) := eqp_tr (eqp_mo f1 (fun c k hh => by omega)) (eqp_mo f2 (fun c k hh => by omega))
  generalize my_uI (my_uI σ (rv + 4 + 3 * cu) 9 (σ.1 39 8)) (rv + 4 + 3 * cu) 13 (cpl cF S) = σ2 at g2 e9 e13 f02 ⊢
  have e12 : σ2.1 (rv + 4 + 3 * cu) 12 = cF := (eqp_g f02 (by omega)).trans h12
  have e10 : σ2.1 (rv + 4 + 3 * cu) 10 = Int32.ofNat b0 := (eqp_g f02 (by omega)).trans h10
  have e8 : σ2.1 39 8 = Int32.ofNat nl := (eqp_g f02 (by omega)).trans h8
  have fw2 : eqp (wF rv cu) σ σ2 := eqp_mo f02 (fun c k hh => by unfold wF xF; omega)
  -- behind what is patched
  have fin : ∀ σ3, CR0 t n I w rv cu (tpS w cF nl S) p o σ3 → eqp (xF rv cu) σ2 σ3 → ys_99_161 e d κ σ3 Q := fun σ3 g3 f3 => by
    have hNt : (tpS w cF nl S).2.2.2 = S.2.2.2 := by
      unfold tpS
      split
      · rw [p1_N, p1_N, p1_N]
      · rfl
    unfold ys_99_161
    refine ⟨_, C0_2 g3, C0_11 g3, ?_⟩
    rw [g3.2.2.2.2.2.2.1, hNt]
    refine z_67 (k := 1) g3 (by omega) (by omega) rfl (fun σ4 g4 f4 => ?_)
    rw [my_k0_v]
    refine ys_99_175_ok (z_99l (N := S.2.2.2) hN (by omega) S.2.2.2.length 0 _ σ4 (by omega) (by rw [wr_N, hNt]) g4 (fun σ5 g5 f5 => ?_))
    have fx : eqp (xF rv cu) σ2 σ5 := eqp_tr (eqp_tr f3 f4) f5
    refine ⟨_, C0_1 g5, C0_10 g5, _, C0_2 g5, C0_11 g5, _, C0_2 g5, C0_11 g5, ?_⟩
    have e10' : σ5.1 (rv + 4 + 3 * cu) 10 = Int32.ofNat b0 := (eqp_g fx (by unfold xF; omega)).trans e10
    rw [C0_sz g5, e10', List.drop_zero]
    rw [List.drop_zero] at g5
    obtain ⟨g6, f6⟩ := C0_w (k := 11) (x := Int32.ofNat (wnN w I S.2.2.2 (wr w (Int32.ofNat S.2.2.2.length) 1 (tpS w cF nl S))).2.2.1.length - Int32.ofNat b0) g5 (by omega)
    refine hQ _ g6 ?_ ?_ uI_s ?_ ?_ (eqp_tr (eqp_tr fw2 (eqp_mo fx (fun _ _ => wF_x))) (eqp_mo f6 (fun c k hh => by unfold wF xF; omega)))
    · rw [my_uI_1, if_neg (by omega)]; exact (eqp_g fx (by unfold xF; omega)).trans e9
    · rw [my_uI_1, if_neg (by omega)]; exact e10'
    · rw [my_uI_1, if_neg (by omega)]; exact (eqp_g fx (by unfold xF; omega)).trans e12
    · rw [my_uI_1, if_neg (by omega)]; exact (eqp_g fx (by unfold xF; omega)).trans e13
  have hw := g2.2.2.1.1
  cases w with
  | false =>
    rw [hw, if_pos (by decide)]
    exact fin σ2 (by unfold tpS; rw [if_neg (by decide)]; exact g2) eqp_rf
  | true =>
    rw [hw, if_neg (by decide)]
    refine ⟨_, C0_2 g2, C0_11 g2, _, C0_1 g2, C0_10 g2, ?_⟩
    rw [e12, e8]
    refine z_199_1 g2 (by omega) (fun σ3 g3 f3 => ?_)
    rw [my_k0_v]
    refine ⟨_, C0_2 g3, C0_11 g3, _, C0_2 g3, C0_11 g3, _, C0_1 g3, C0_10 g3, ?_⟩
    rw [(eqp_g f3 (by unfold xF; omega)).trans e12, (eqp_g f3 (by unfold xF; omega)).trans e13]
    refine z_199_2 g3 (by omega) (fun σ4 g4 f4 => ?_)
    rw [my_k0_v]
    exact fin σ4 (by unfold tpS; rw [if_pos rfl]; exact g4) (eqp_tr f3 f4)
/-- the tail -/
theorem y_99 {fm nl : Nat} {cF ty : Int32} {b0 : Nat} (h : CR0 t n I w rv cu S p o σ) (hcu : cu < I.length) (hd : 6 ≤ d) (hfm : fm = 2 ∨ fm = 3 ∨ fm = 4) (hform : (itA I cu).2.1 = Int32.ofNat fm) (hty : (itA I cu).2.2.2.1 = ty) (h8 : σ.1 39 8 = Int32.ofNat nl) (h12 : σ.1 (rv + 4 + 3 * cu) 12 = cF) (h10 : σ.1 (rv + 4 + 3 * cu) 10 = Int32.ofNat b0) (hN : ∀ x ∈ S.2.2.2, x < I.length)
    (hQ : ∀ σ', CR0 t n I w rv cu (tSt w I fm ty cF nl S) p o σ' → σ'.1 (rv + 4 + 3 * cu) 9 = Int32.ofNat nl → σ'.1 (rv + 4 + 3 * cu) 10 = Int32.ofNat b0 → σ'.1 (rv + 4 + 3 * cu) 11 = Int32.ofNat (tSt w I fm ty cF nl S).2.2.1.length - Int32.ofNat b0 → σ'.1 (rv + 4 + 3 * cu) 12 = cF → σ'.1 (rv + 4 + 3 * cu) 13 = cpl cF (tcS w fm ty S) → eqp (wF rv cu) σ σ' → Q (.inl none) κ σ') : my_M e d 99 [.inr (.inr (some 39))] κ σ Q := by
  obtain ⟨d, rfl⟩ := dS 1 (show 1 ≤ d by omega)
  have hrv := C0_rv h
  have hc42 := C0_c h
  obtain ⟨_, _, _, b3, _, b5, _⟩ := CIm_it (C0_im h) hcu
  have fin : ∀ σ1, CR0 t n I w rv cu (tcS w fm ty S) p o σ1 → eqp (xF rv cu) σ σ1 → ys_99_76 e d κ σ1 Q := fun σ1 g1 f1 => by
    have hNt : (tcS w fm ty S).2.2.2 = S.2.2.2 := by
      unfold tcS
      split
      · rw [wr_N]; split
        · rw [wr_N]
        · rw [wr_N, wr_N]
      · split <;> rw [wr_N]
    refine y_99e (cF := cF) (b0 := b0) (nl := nl) g1 (by omega) ((eqp_g f1 (by unfold xF; omega)).trans h8) ((eqp_g f1 (by unfold xF; omega)).trans h12) ((eqp_g f1 (by unfold xF; omega)).trans h10) (by rw [hNt]; exact hN) (fun σ' g e1 e2 e3 e4 e5 f => ?_)
    rw [hNt] at g e3
    exact hQ σ' g e1 e2 e3 e4 e5 (eqp_tr (eqp_mo f1 (fun _ _ => wF_x)) f)
  refine ys_99 ?_
  unfold ys_99_0
  refine ⟨_, C0_2 h, C0_11 h, ?_⟩
  rw [b3, hform]
  rcases hfm with rfl | rfl | rfl
  · rw [if_pos (by decide)]
    refine ⟨_, C0_2 h, C0_11 h, ?_⟩
    rw [b5, hty]
    have e43 : ∀ (S1 : St) σ1, CR0 t n I w rv cu S1 p o σ1 → eqp (xF rv cu) σ σ1 → tcS w 2 ty S = wr w 11 1 S1 → ys_99_43 e d κ σ1 Q := fun S1 σ1 g1 f1 hS => by
      unfold ys_99_43
      refine z_67 (k := 1) g1 (by omega) (by omega) rfl (fun σ2 g2 f2 => ?_)
      rw [my_k0_v]
      exact fin σ2 (by rw [hS]; exact g2) (eqp_tr f1 f2)
    refine my_if (fun h1 => ?_) (fun h1 => ?_)
    · refine z_67 (k := 1) h (by omega) (by omega) rfl (fun σ1 g1 f1 => ?_)
      rw [my_k0_v]
      exact e43 _ σ1 g1 f1 (by unfold tcS; rw [if_pos rfl, if_pos h1])
    · refine z_67 (k := 1) h (by omega) (by omega) rfl (fun σ1 g1 f1 => ?_)
      rw [my_k0_v]
      refine z_67 (k := 4) g1 (by omega) (by omega) rfl (fun σ2 g2 f2 => ?_)
      rw [my_k0_v]
      exact e43 _ σ2 g2 (eqp_tr f1 f2) (by unfold tcS; rw [if_pos rfl, if_neg h1])
  · rw [if_neg (by decide)]
    refine ⟨_, C0_2 h, C0_11 h, ?_⟩
    rw [b3, hform, if_pos (by decide)]
    unfold ys_99_72
    refine z_67 (k := 1) h (by omega) (by omega) rfl (fun σ1 g1 f1 => ?_)
    rw [my_k0_v]
    exact fin σ1 (by unfold tcS; rw [if_neg (by decide), if_pos rfl]; exact g1) f1
  · rw [if_neg (by decide)]
    refine ⟨_, C0_2 h, C0_11 h, ?_⟩
    rw [b3, hform, if_neg (by decide)]
    unfold ys_99_72
    refine z_67 (k := 1) h (by omega) (by omega) rfl (fun σ1 g1 f1 => ?_)
    rw [my_k0_v]
    exact fin σ1 (by unfold tcS; rw [if_neg (by decide), if_neg (by decide)]; exact g1) f1
end MCT
