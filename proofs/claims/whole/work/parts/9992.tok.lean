/-! ===== signs by the class; tokens ===== -/
def eqo (F : Nat → Prop) (σ σ' : my_S) : Prop := ∀ c, ¬ F c → σ'.1 c = σ.1 c ∧ σ'.2.1 c = σ.2.1 c ∧ σ'.2.2 c = σ.2.2 c
theorem eqo_rf {F : Nat → Prop} {σ : my_S} : eqo F σ σ := fun _ _ => ⟨rfl, rfl, rfl⟩
theorem eqo_tr {F : Nat → Prop} {σ σ' σ'' : my_S} (h1 : eqo F σ σ') (h2 : eqo F σ' σ'') : eqo F σ σ'' := fun c hc => ⟨(h2 c hc).1.trans (h1 c hc).1, (h2 c hc).2.1.trans (h1 c hc).2.1, (h2 c hc).2.2.trans (h1 c hc).2.2⟩
theorem eqo_mo {F G : Nat → Prop} {σ σ' : my_S} (h : eqo F σ σ') (hFG : ∀ c, F c → G c) : eqo G σ σ' := fun c hc => h c (fun hh => hc (hFG c hh))
theorem eqo_I {F : Nat → Prop} {σ σ' : my_S} {a k : Nat} {x : Int32} (h : eqo F σ σ') (ha : F a) : eqo F σ (my_uI σ' a k x) := fun c hc => by
  have hne : c ≠ a := fun hh => hc (hh ▸ ha)
  refine ⟨?_, (h c hc).2.1, (h c hc).2.2⟩
  rw [← (h c hc).1]
  funext j
  rw [my_uI_1, if_neg (fun hh => hne hh.1)]
theorem eqo_L {F : Nat → Prop} {σ σ' : my_S} {a k : Nat} {x : Int64} (h : eqo F σ σ') (ha : F a) : eqo F σ (my_uL σ' a k x) := fun c hc => by
  have hne : c ≠ a := fun hh => hc (hh ▸ ha)
  refine ⟨(h c hc).1, ?_, (h c hc).2.2⟩
  rw [← (h c hc).2.1]
  funext j
  rw [my_uL_2, if_neg (fun hh => hne hh.1)]
theorem eqo_A {F : Nat → Prop} {σ σ' : my_S} {a k : Nat} {x : Option Nat} (h : eqo F σ σ') (ha : F a) : eqo F σ (my_uA σ' a k x) := fun c hc => by
  have hne : c ≠ a := fun hh => hc (hh ▸ ha)
  refine ⟨(h c hc).1, (h c hc).2.1, ?_⟩
  rw [← (h c hc).2.2]
  funext j
  rw [my_uA_3, if_neg (fun hh => hne hh.1)]
theorem sg_nat {x : Int32} (h : sg x) : ∃ k : Fin 127, x = Int32.ofNat k.val := by
  have hb := sg_bd h
  refine ⟨⟨x.toInt.toNat, by omega⟩, ?_⟩
  apply Int32.toInt_inj.mp
  rw [Int32.toInt_ofNat_of_lt (show x.toInt.toNat < 2147483648 by omega)]
  show x.toInt = ((x.toInt.toNat : Nat) : Int)
  omega
theorem fin_b : ∀ k : Fin 127, (Int32.ofNat k.val).toInt8.toInt32 = Int32.ofNat k.val ∧ ((Int32.ofNat k.val).toUInt32 % 65536).toInt32 = Int32.ofNat k.val := by decide
theorem sg_b {x : Int32} (h : sg x) : x.toInt8.toInt32 = x ∧ (x.toUInt32 % 65536).toInt32 = x := by
  obtain ⟨k, rfl⟩ := sg_nat h
  exact fin_b k
theorem isS_mem {c : Int32} : isS c = true ↔ c ∈ mc_b1 := by
  simp only [isS, mc_b1, Bool.or_eq_true, decide_eq_true_eq, List.mem_cons, List.not_mem_nil, or_false, or_assoc]
section MYX
variable {e : my_E} {d : Nat} {κ : my_K} {σ : my_S} {Q : my_O → my_K → my_S → Prop} {c : Int32}
theorem c_410_l : ∀ (m j : Nat), j + m = 19 → (∀ y : Int32, (y < 0 ↔ ¬ c ∈ mc_b1.drop j) → Q (.inl (some (.inl y))) κ σ) → yx_410_7 e d 19 c (Int32.ofNat j) κ σ Q := by
  intro m
  induction m with
  | zero =>
    intro j hj hQ
    have : j = 19 := by omega
    subst this
    unfold yx_410_7
    rw [if_neg (by decide)]
    exact hQ _ ⟨fun _ => by simp [mc_b1], fun _ => by decide⟩
  | succ m ih =>
    intro j hj hQ
    have hj : j < 19 := by omega
    unfold yx_410_7
    rw [if_pos (show Int32.ofNat j < 19 from (oN_lt (n := 19) (by omega) (by omega)).mpr hj), oN_n (by omega)]
    refine ⟨⟨by rw [oN_i (by omega)]; omega, by rw [oN_i (by omega)]; omega⟩, ?_⟩
    have hd : mc_b1.drop j = mc_b1.getD j 0 :: mc_b1.drop (j + 1) := by
      have hl : mc_b1.length = 19 := rfl
      rw [List.drop_eq_getElem_cons (by omega)]
      congr 1
      simp [List.getD_eq_getElem?_getD, List.getElem?_eq_getElem (show j < mc_b1.length by omega)]
    refine my_if (fun h => ?_) (fun h => ?_)
    · refine hQ _ ⟨fun hh => absurd hh (oN_0 (by omega)), fun hh => absurd ?_ hh⟩
      rw [hd, h]
      exact List.mem_cons_self
    · rw [oN_s]
      refine yx_410_7_ok (ih (j + 1) (by omega) (fun y hy => hQ y ?_))
      rw [hy, hd, List.mem_cons, not_or]
      exact ⟨fun hh => ⟨fun hh2 => h hh2.symm, hh⟩, fun hh => hh.2⟩
theorem c_400x {hQ : Q (.inl (some (.inl 19))) κ σ} : my_M e (d + 2) 400 [.inr (.inr (some 2))] κ σ Q := by
  refine yx_400 ?_
  unfold yx_400_0
  refine yx_401 ?_
  unfold yx_401_0
  rw [if_neg (by decide)]
  exact ⟨by decide, hQ⟩
/-- indexOf in the signs -/
theorem c_405 (hc : sg c) (hQ : ∀ y : Int32, (y < 0 ↔ isS c = false) → Q (.inl (some (.inl y))) κ σ) : my_M e (d + 4) 405 [.inr (.inr (some 2)), .inl ((c : Int32).toUInt32 % 65536).toInt32] κ σ Q := by
  rw [(sg_b hc).2]
  refine yx_405 ?_
  unfold yx_405_0
  refine yx_406 ?_
  unfold yx_406_0
  refine yx_403 ?_
  unfold yx_403_0
  rw [if_neg (by decide), if_pos rfl]
  refine ⟨Or.inr rfl, ?_⟩
  rw [my_kI_v, if_neg (by decide)]
  refine c_400x (hQ := ?_)
  rw [my_kI_v]
  refine yx_408 ?_
  unfold yx_408_0
  refine yx_409 ?_
  unfold yx_409_0
  have hb := sg_bd hc
  rw [if_neg (fun hh => by rw [Int32.lt_iff_toInt_lt] at hh; have : (0 : Int32).toInt = 0 := rfl; omega), if_neg (fun hh => by rw [Int32.lt_iff_toInt_lt] at hh; have : (255 : Int32).toInt = 255 := rfl; omega)]
  refine ⟨Or.inr rfl, ?_⟩
  rw [my_kI_v, if_neg (by decide), if_pos (by decide)]
  refine yx_410 ?_
  unfold yx_410_0
  rw [(sg_b hc).1]
  refine yx_410_7_ok (c_410_l 19 0 (by omega) (fun y hy => ?_))
  rw [my_kI_v]
  unfold yx_406_36
  refine hQ y ?_
  rw [hy]
  have := isS_mem (c := c)
  cases h : isS c with
  | true => simp [this.mp h]
  | false =>
    simp only [iff_true]
    intro hh
    have := this.mpr hh
    rw [h] at this
    cases this
end MYX
/-! tokens -/
/-- the token at a place: the class's number of it; the name, the number -/
def tkk (t : Nat → Int32) (n p : Nat) : Nat :=
  if p < n then (if iL (t p) = true then (if 8 < ll t (n - p) p then 1 else match kx (lw t p (ll t (n - p) p)) with
    | some j => 300 + j
    | none => 2)
  else if iD (t p) = true then (if 6 < dl t (n - p) p then 1 else 3)
  else if is2 (t p) (sgn t n (p + 1)) = true then (if t p = 61 then 256 else if t p = 33 then 257 else 258)
  else if isS (t p) = true then (t p).toNatClampNeg else 1)
  else 0
def tkm (t : Nat → Int32) (n p : Nat) : List Nat := lw t p (ll t (n - p) p)
def tkv (t : Nat → Int32) (n p : Nat) : Int32 := vR t p (dl t (n - p) p)
/-- the reference's number of a token -/
def kR (k : Nat) : Nat := if 300 ≤ k then k - 290 else if 256 ≤ k then k - 252 else k
theorem sg_cl {x : Int32} (h : sg x) : Int32.ofNat x.toNatClampNeg = x ∧ x.toNatClampNeg < 127 := by
  obtain ⟨k, rfl⟩ := sg_nat h
  rw [oN_n (by omega)]
  exact ⟨rfl, k.isLt⟩
theorem tkR_tok {t : Nat → Int32} {n p : Nat} (ht : txt t n) : tkR t n p = Int32.ofNat (kR (tkk t n p)) := by
  unfold tkR tkk
  by_cases h : p < n
  · rw [if_pos h, if_pos h]
    cases h1 : iL (t p) with
    | true =>
      simp only [if_true]
      split
      · rfl
      · unfold ktR
        split <;> rename_i hk <;> rw [hk]
        · simp only [kR]
          rw [if_pos (by omega), show ∀ j : Nat, 300 + j - 290 = 10 + j by omega, Int32.ofNat_add]
          rfl
        · rfl
    | false =>
      simp only [Bool.false_eq_true, if_false]
      cases h2 : iD (t p) with
      | true =>
        simp only [if_true]
        split <;> rfl
      | false =>
        simp only [Bool.false_eq_true, if_false]
        cases h3 : is2 (t p) (sgn t n (p + 1)) with
        | true =>
          simp only [if_true]
          unfold k2R
          split
          · rfl
          · split <;> rfl
        | false =>
          simp only [Bool.false_eq_true, if_false]
          split
          · have := sg_cl (ht.2 p h)
            unfold kR
            rw [if_neg (by omega), if_neg (by omega), this.1]
          · rfl
  · rw [if_neg h, if_neg h]; rfl
/-- what the class keeps beside a token -/
def wv (t : Nat → Int32) (n p : Nat) : Int64 := if p < n then (if iL (t p) = true then nC t p (ll t (n - p) p) else if iD (t p) = true then (vC t p (dl t (n - p) p)).toInt64 else 0) else 0
/-- the place of the next token -/
def nx (t : Nat → Int32) (n p : Nat) : Nat := sk t (n - (p + tkl t n p)) false (p + tkl t n p)
theorem tkl_bd {t : Nat → Int32} {n p : Nat} (ht : txt t n) (hp : p < n) : 1 ≤ tkl t n p ∧ p + tkl t n p ≤ n := by
  unfold tkl
  rw [if_pos hp]
  have e1 : n - p = (n - p - 1) + 1 := by omega
  have h1 := ll_le t (n - p) p
  have h2 := dl_le t (n - p) p
  split
  · rename_i h
    have : 1 ≤ ll t (n - p) p := by rw [e1]; unfold ll; rw [if_pos h]; omega
    omega
  · split
    · rename_i h
      have : 1 ≤ dl t (n - p) p := by rw [e1]; unfold dl; rw [if_pos h]; omega
      omega
    · split
      · rename_i h
        have : p + 1 < n := by
          refine Decidable.byContradiction (fun hh => ?_)
          have : sgn t n (p + 1) = 0 := by unfold sgn; rw [if_neg hh]
          rw [this] at h
          simp [is2] at h
        omega
      · omega
theorem nx_bd {t : Nat → Int32} {n p : Nat} (ht : txt t n) (hp : p < n) : p < nx t n p ∧ nx t n p ≤ n := by
  have h := tkl_bd ht hp
  have h2 := sk_le t (n - (p + tkl t n p)) false (p + tkl t n p)
  unfold nx
  omega
theorem nx_end {t : Nat → Int32} {n p : Nat} (hp : p = n) : nx t n p = n := by
  subst hp
  unfold nx tkl
  rw [if_neg (by omega)]
  simp [sk]
theorem nx_le {t : Nat → Int32} {n p : Nat} (ht : txt t n) (hp : p ≤ n) : p ≤ nx t n p ∧ nx t n p ≤ n := by
  by_cases h : p < n
  · have := nx_bd ht h; omega
  · have := nx_end (t := t) (n := n) (p := p) (by omega); omega
def ps (t : Nat → Int32) (n : Nat) : Nat → Nat
  | 0 => sk t n false 0
  | j + 1 => nx t n (ps t n j)
theorem ps_le {t : Nat → Int32} {n : Nat} (ht : txt t n) : ∀ j, ps t n j ≤ n
  | 0 => by have := sk_le t n false 0; unfold ps; omega
  | j + 1 => (nx_le ht (ps_le ht j)).2
theorem ps_ge {t : Nat → Int32} {n : Nat} (ht : txt t n) : ∀ j, (∀ i, i < j → ps t n i < n) → j ≤ ps t n j
  | 0, _ => Nat.zero_le _
  | j + 1, h => by
    have := ps_ge ht j (fun i hi => h i (by omega))
    have h2 := nx_bd ht (h j (by omega))
    show j + 1 ≤ nx t n (ps t n j)
    omega
section MYY
variable {e : my_E} {d : Nat} {κ : my_K} {σ : my_S} {Q : my_O → my_K → my_S → Prop} {t : Nat → Int32} {n p : Nat}
theorem c_47 {c : Nat} (ht : txt t n) (hx : txC t n σ) (hw : kwC σ) (hp : p < n) (hc : σ.1 33 5 = Int32.ofNat c) (hlt : c < 1501)
    (hQ : Q (.inl (some (.inl (Int32.ofNat (tkl t n p))))) κ (addT σ c (Int32.ofNat (tkk t n p)) (Int32.ofNat p) (wv t n p))) : my_M e (d + 5) 47 [.inr (.inr (some 33)), .inl (Int32.ofNat p)] κ σ Q := by
  have hn := ht.1
  refine yx_47 ?_
  unfold yx_47_0
  refine c_46 ht hx (by omega) ?_
  have hs : sgn t n p = t p := by unfold sgn; rw [if_pos hp]
  rw [my_kI_v, hs]
  refine c_48 ?_
  rw [my_kI_v]
  unfold tkk tkl wv at hQ
  simp only [hp, if_true] at hQ
  cases h1 : iL (t p) with
  | true =>
    rw [if_neg (by decide)]
    simp only [h1, if_true] at hQ
    refine c_49 ht hx hw (by omega) hc hlt ?_
    rw [my_kI_v]
    have : (if 8 < ll t (n - p) p then (1 : Int32) else ktC (lw t p (ll t (n - p) p))) = Int32.ofNat (if 8 < ll t (n - p) p then 1 else match kx (lw t p (ll t (n - p) p)) with | some j => 300 + j | none => 2) := by
      split
      · rfl
      · unfold ktC
        split <;> rename_i hk <;> rw [hk]
        · rw [Int32.ofNat_add]; rfl
        · rfl
    rw [this]
    exact hQ
  | false =>
    rw [if_pos (by decide)]
    simp only [h1, Bool.false_eq_true, if_false] at hQ
    refine c_52 ?_
    rw [my_kI_v]
    cases h2 : iD (t p) with
    | true =>
      rw [if_neg (by decide)]
      simp only [h2, if_true] at hQ
      refine c_53 ht hx (by omega) hc hlt ?_
      rw [my_kI_v]
      have : (if 6 < dl t (n - p) p then (1 : Int32) else 3) = Int32.ofNat (if 6 < dl t (n - p) p then 1 else 3) := by
        split <;> rfl
      rw [this]
      exact hQ
    | false =>
      rw [if_pos (by decide)]
      simp only [h2, Bool.false_eq_true, if_false] at hQ
      rw [oN_s]
      refine c_46 ht hx (by omega) ?_
      rw [my_kI_v]
      have one : is2 (t p) (sgn t n (p + 1)) = false → yx_47_66 e (d + 4) (Int32.ofNat p) (t p) κ σ Q := fun h3 => by
        simp only [h3, Bool.false_eq_true, if_false] at hQ
        unfold yx_47_66 yx_47_67
        rw [if_pos rfl]
        refine c_405 (ht.2 p hp) (fun y hy => ?_)
        rw [my_kI_v]
        refine my_if (fun hy0 => ?_) (fun hy0 => ?_)
        · unfold yx_47_124
          refine c_51 hc hlt ?_
          rw [my_k0_v]
          unfold yx_47_129
          rw [if_pos rfl]
          have h4 := hy.mp hy0
          simp only [h4, Bool.false_eq_true, if_false] at hQ
          exact hQ
        · unfold yx_47_124
          refine c_51 hc hlt ?_
          rw [my_k0_v]
          unfold yx_47_129
          rw [if_pos rfl]
          have h4 : isS (t p) = true := by
            cases hh : isS (t p) with
            | true => rfl
            | false => exact absurd (hy.mpr hh) hy0
          simp only [h4, if_true] at hQ
          rw [(sg_cl (ht.2 p hp)).1] at hQ
          exact hQ
      have two : is2 (t p) (sgn t n (p + 1)) = true → yx_47_62 e (d + 4) (Int32.ofNat p) (t p) κ σ Q := fun h3 => by
        simp only [h3, if_true] at hQ
        unfold yx_47_62 yx_47_67
        rw [if_neg (by decide)]
        have fin : ∀ x : Int32, x = Int32.ofNat (if t p = 61 then 256 else if t p = 33 then 257 else 258) → yx_47_100 e (d + 4) (Int32.ofNat p) 1 x κ σ Q := fun x hx => by
          unfold yx_47_100
          refine c_51 hc hlt ?_
          rw [my_k0_v]
          unfold yx_47_129
          rw [if_neg (by decide), hx]
          exact hQ
        refine my_if (fun h => fin _ (by rw [if_pos h]; rfl)) (fun a1 => ?_)
        refine my_if (fun h => fin _ (by rw [if_neg a1, if_pos h]; rfl)) (fun a2 => fin _ (by rw [if_neg a1, if_neg a2]; rfl))
      refine my_if (fun h61 => ?_) (fun h61 => one (by simp [is2, h61]))
      refine my_if (fun h => two (by simp [is2, h61, h])) (fun c1 => ?_)
      refine my_if (fun h => two (by simp [is2, h61, h])) (fun c2 => ?_)
      refine my_if (fun h => two (by simp [is2, h61, h])) (fun c3 => ?_)
      exact one (by simp [is2, c1, c2, c3])
end MYY
/-- the class's tokens up to the j-th -/
def tkp (t : Nat → Int32) (n j : Nat) (σ : my_S) : Prop := ∀ i, i < j → σ.1 35 i = Int32.ofNat (tkk t n (ps t n i)) ∧ σ.1 36 i = Int32.ofNat (ps t n i) ∧ σ.2.1 37 i = wv t n (ps t n i)
/-- all of them -/
def tkn (t : Nat → Int32) (n c : Nat) (σ : my_S) : Prop := σ.1 33 5 = Int32.ofNat c ∧ 1 ≤ c ∧ c ≤ 1501 ∧ tkp t n c σ ∧ (∀ i, i + 1 < c → ps t n i < n) ∧ ps t n (c - 1) = n
def scF (c : Nat) : Prop := c = 33 ∨ 35 ≤ c ∧ c ≤ 37
theorem addT_tkp {t : Nat → Int32} {n j : Nat} {σ : my_S} (h : tkp t n j σ) : tkp t n (j + 1) (addT σ j (Int32.ofNat (tkk t n (ps t n j))) (Int32.ofNat (ps t n j)) (wv t n (ps t n j))) := by
  intro i hi
  unfold addT
  by_cases hij : i = j
  · subst hij
    simp [my_uI, my_uL]
  · have := h i (by omega)
    simp only [my_uI, my_uL]
    simp [hij, this]
theorem addT_rest {σ : my_S} {j : Nat} {a b : Int32} {w : Int64} : eqo scF σ (addT σ j a b w) ∧ (addT σ j a b w).1 33 5 = Int32.ofNat (j + 1) ∧ ∀ k, k ≠ 5 → (addT σ j a b w).1 33 k = σ.1 33 k := by
  unfold addT
  refine ⟨?_, by simp [my_uI], fun k hk => by simp [my_uI, my_uL, hk]⟩
  exact eqo_I (eqo_L (eqo_I (eqo_I eqo_rf (Or.inr (by omega))) (Or.inr (by omega))) (Or.inr (by omega))) (Or.inl rfl)
section MYZ
variable {e : my_E} {d : Nat} {κ : my_K} {Q : my_O → my_K → my_S → Prop} {t : Nat → Int32} {n : Nat}
theorem txC_o {σ σ' : my_S} (h : txC t n σ) (h1 : σ'.1 33 1 = σ.1 33 1) (h2 : σ'.1 34 = σ.1 34) : txC t n σ' := ⟨h1.trans h.1, fun j hj => by rw [h2]; exact h.2 j hj⟩
theorem c_44_l {σ0 : my_S} (ht : txt t n) (hQ : ∀ c σ', tkn t n c σ' → eqo scF σ0 σ' → (∀ k, k ≠ 5 → σ'.1 33 k = σ0.1 33 k) → Q (.inl none) κ σ') : ∀ (m j : Nat) (σ : my_S), j + m = 1500 → txC t n σ → kwC σ → σ.1 33 5 = Int32.ofNat j → tkp t n j σ → (∀ i, i < j → ps t n i < n) → eqo scF σ0 σ → (∀ k, k ≠ 5 → σ.1 33 k = σ0.1 33 k) → ys_44_13 e (d + 5) (Int32.ofNat (ps t n j)) (Int32.ofNat j) κ σ Q := by
  intro m
  have hn := ht.1
  have fin : ∀ (j : Nat) (σ : my_S), j ≤ 1500 → txC t n σ → σ.1 33 5 = Int32.ofNat j → tkp t n j σ → (∀ i, i < j → ps t n i < n) → eqo scF σ0 σ → (∀ k, k ≠ 5 → σ.1 33 k = σ0.1 33 k) → ps t n j = n → ys_44_46 e (d + 5) κ σ Q := by
    intro j σ hj hx h5 htk hi he hk hps
    unfold ys_44_46
    rw [hx.1]
    refine c_51 h5 (by omega) ?_
    rw [my_k0_v]
    have ha := addT_tkp htk
    have e1 : Int32.ofNat (tkk t n (ps t n j)) = 0 := by rw [hps]; unfold tkk; rw [if_neg (by omega)]; rfl
    have e2 : wv t n (ps t n j) = 0 := by rw [hps]; unfold wv; rw [if_neg (by omega)]
    rw [e1, e2, hps] at ha
    obtain ⟨r1, r2, r3⟩ := addT_rest (σ := σ) (j := j) (a := 0) (b := Int32.ofNat n) (w := 0)
    exact hQ (j + 1) _ ⟨r2, by omega, by omega, ha, fun i hh => hi i (by omega), hps⟩ (eqo_tr he r1) (fun k hk2 => (r3 k hk2).trans (hk k hk2))
  induction m with
  | zero =>
    intro j σ hj hx hw h5 htk hi he hk
    have hge := ps_ge ht j hi
    have hle := ps_le ht j
    have : j = 1500 := by omega
    subst this
    unfold ys_44_13
    rw [if_neg (by decide)]
    exact fin 1500 σ (by omega) hx h5 htk hi he hk (by omega)
  | succ m ih =>
    intro j σ hj hx hw h5 htk hi he hk
    have hge := ps_ge ht j hi
    have hle := ps_le ht j
    unfold ys_44_13
    rw [if_pos (show Int32.ofNat j < 1500 from (oN_lt (n := 1500) (by omega) (by omega)).mpr (by omega)), hx.1]
    refine my_if (fun h => ?_) (fun h => ?_)
    · have hlt : ps t n j < n := (oN_lt (by omega) (by omega)).mp h
      refine c_47 ht hx hw hlt h5 (by omega) ?_
      rw [my_kI_v, oN_a]
      have hb := tkl_bd ht hlt
      obtain ⟨r1, r2, r3⟩ := addT_rest (σ := σ) (j := j) (a := Int32.ofNat (tkk t n (ps t n j))) (b := Int32.ofNat (ps t n j)) (w := wv t n (ps t n j))
      have hx2 := txC_o hx (r3 1 (by decide)) (r1 34 (by unfold scF; omega)).1
      refine c_45 ht hx2 (by omega) ?_
      rw [my_kI_v, oN_s]
      refine ys_44_13_ok (ih (j + 1) _ (by omega) hx2 ?_ r2 (addT_tkp htk) ?_ (eqo_tr he r1) (fun k hk2 => (r3 k hk2).trans (hk k hk2)))
      · intro i hi2
        rw [(r1 38 (by unfold scF; omega)).2.1]
        exact hw i hi2
      · intro i hi2
        by_cases hij : i = j
        · subst hij; exact hlt
        · exact hi i (by omega)
    · exact fin j σ (by omega) hx h5 htk hi he hk (by
        have : ¬ ps t n j < n := fun hh => h ((oN_lt (by omega) (by omega)).mpr hh)
        omega)
/-- scan -/
theorem c_44 {σ : my_S} (ht : txt t n) (hx : txC t n σ) (hw : kwC σ) (hQ : ∀ c σ', tkn t n c σ' → eqo scF σ σ' → (∀ k, k ≠ 5 → σ'.1 33 k = σ.1 33 k) → Q (.inl none) κ σ') : my_M e (d + 6) 44 [.inr (.inr (some 33))] κ σ Q := by
  refine ys_44 ?_
  unfold ys_44_0
  have hx2 : txC t n (my_uI σ 33 5 0) := txC_o hx (by simp [my_uI]) (by funext j; simp [my_uI])
  refine c_45 (p := 0) ht hx2 (by omega) ?_
  rw [my_kI_v]
  refine ys_44_13_ok (c_44_l (σ0 := σ) ht hQ 1500 0 _ (by omega) hx2 hw (by simp [my_uI]) (fun i hi => by omega) (fun i hi => by omega) (eqo_I eqo_rf (Or.inl rfl)) (fun k hk => by simp [my_uI, hk]))
end MYZ
