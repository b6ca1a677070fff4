
/-! ===== the reference's types: signs, calls ===== -/
section MTU
variable {e : my_E} {d : Nat} {κ : my_K} {σ : my_S} {Q : my_O → my_K → my_S → Prop} {s : T3}
theorem bI_0 {b : Bool} : bI b = 0 ↔ b = false := by cases b <;> decide
/-- - and ! ahead -/
theorem t_266u {op p : Nat} {a : Int32 × Nat} {P : List (Int32 × Nat)} (hop : op = 19 ∨ op = 20) (hp : p ≤ 1500) (h : TS s σ) (hP : s.2.1 = a :: P) (hl : s.2.1.length ≤ 799) (hd : 3 ≤ d) (hQ : ∀ σ', TS (tun (if op = 19 then 0 else 1) p s) σ' → eqp tyF σ σ' → Q (.inl none) κ σ') : my_M e d 266 [.inr (.inr (some 498)), .inl (Int32.ofNat op), .inl (Int32.ofNat p)] κ σ Q := by
  obtain ⟨d, rfl⟩ := dS 1 (show 1 ≤ d by omega)
  have hk : s.2.1[0]? = some a := by rw [hP]; rfl
  have hlen : s.2.1.length = P.length + 1 := by rw [hP]; rfl
  have key : ∀ (du : Int32), (du = if op = 19 then 0 else 1) → (∀ v2 κ2 σ3 (w : Int32), (w = 0 ∨ w = 1) → ((w = 0 → ys_266_59 e d v2 3 κ2 σ3 Q) → (w ≠ 0 → ys_266_59 e d v2 du κ2 σ3 Q) → (if w = 0 then ys_266_59 e d v2 3 κ2 σ3 Q else if Int32.ofNat op = 19 then ys_266_59 e d v2 0 κ2 σ3 Q else ys_266_59 e d v2 1 κ2 σ3 Q))) → ys_266_25 e d (Int32.ofNat op) (Int32.ofNat p) du 0 κ σ Q := fun du hdu hw => by
    unfold ys_266_25
    refine t_264 (k := 0) h hk (by omega) (by omega) (fun σ1 g1 f1 => ?_)
    rw [my_kI_v]
    obtain ⟨g2, f2⟩ := TS_pop (k := 1) (y := (σ1.1 498 47) - 1) g1 (by dsimp only; omega) (by dsimp only; omega) (by
      rw [g1.2.1.1]
      dsimp only
      rw [Int32.ofNat_sub _ _ (by omega)]
      rfl)
    dsimp only at g2
    rw [hP, List.drop_succ_cons, List.drop_zero] at g2
    have fin : ∀ v : Int32, v = (if mstB a.1 du = true then du else 3) → ys_266_59 e d (Int32.ofNat p) v κ (my_uI σ1 498 47 (σ1.1 498 47 - 1)) Q := fun v hv => by
      unfold ys_266_59
      refine t_261 (p := p) (a := v) hp g2 (by dsimp only; omega) (by omega) (fun σ3 g3 f3 => ?_)
      rw [my_k0_v]
      refine hQ σ3 ?_ (eqp_tr (eqp_tr f1 f2) f3)
      unfold tun
      rw [hP, ← hdu]
      dsimp only
      rw [← hv]
      exact g3
    refine hw _ κ _ (bI (mstB a.1 du)) (by cases mstB a.1 du <;> simp [bI]) (fun hb => ?_) (fun hb => ?_)
    · have hb := bI_0.mp hb
      exact fin 3 (by rw [hb]; rfl)
    · have hb : mstB a.1 du = true := by
        cases hm : mstB a.1 du with
        | true => rfl
        | false => exact absurd (bI_0.mpr hm) hb
      exact fin du (by rw [hb]; rfl)
  refine ys_266 ?_
  unfold ys_266_0
  rcases hop with rfl | rfl
  · rw [if_pos (by decide)]
    unfold ys_266_12
    rw [if_pos (by decide)]
    refine key 0 rfl (fun v2 κ2 σ3 w hw h0 h1 => ?_)
    refine my_if (fun hh => h0 hh) (fun hh => ?_)
    rw [if_pos (by decide)]
    exact h1 hh
  · rw [if_neg (by decide), if_pos (by decide)]
    unfold ys_266_12
    rw [if_neg (by decide)]
    refine key 1 rfl (fun v2 κ2 σ3 w hw h0 h1 => ?_)
    refine my_if (fun hh => h0 hh) (fun hh => ?_)
    rw [if_neg (by decide)]
    exact h1 hh
/-- signs between two -/
theorem t_266b {op p : Nat} {a b : Int32 × Nat} {P : List (Int32 × Nat)} (hop : 21 ≤ op ∧ op ≤ 31) (h : TS s σ) (hP : s.2.1 = b :: a :: P) (hl : s.2.1.length ≤ 799) (hd : 3 ≤ d) (hQ : ∀ σ', TS (tbi op s) σ' → eqp tyF σ σ' → Q (.inl none) κ σ') : my_M e d 266 [.inr (.inr (some 498)), .inl (Int32.ofNat op), .inl (Int32.ofNat p)] κ σ Q := by
  obtain ⟨d, rfl⟩ := dS 1 (show 1 ≤ d by omega)
  have hk0 : s.2.1[0]? = some b := by rw [hP]; rfl
  have hk1 : s.2.1[1]? = some a := by rw [hP]; rfl
  have hlen : s.2.1.length = P.length + 2 := by rw [hP]; rfl
  have ha5 := h.2.2.2.2 a (List.mem_of_getElem? hk1)
  -- the end
  have e201 : ∀ (σ1 : my_S) (mf : Option Nat) (g : Bool), TS (s.1, s.2.1, mf) σ1 → eqp tyF σ σ1 → tbi op s = (s.1, (if g = true then (if 27 ≤ op then 0 else 1) else 3, a.2) :: P, mf) → ys_266_201 e d (Int32.ofNat op) (bI g) κ σ1 Q := fun σ1 mf g g1 f1 ht => by
    unfold ys_266_201
    obtain ⟨g2, f2⟩ := TS_pop (k := 2) (y := (σ1.1 498 47) - 2) g1 (by dsimp only; omega) (by dsimp only; omega) (by
      rw [g1.2.1.1]
      dsimp only
      rw [Int32.ofNat_sub _ _ (by omega)]
      rfl)
    have hpl : (my_uI σ1 498 47 (σ1.1 498 47 - 2)).1 527 P.length = Int32.ofNat a.2 := by
      rw [uI_o (by omega)]
      have := (tpk_at g1.2.1.2 hk1).2
      dsimp only at this
      rw [show s.2.1.length - 1 - 1 = P.length by omega] at this
      exact this
    dsimp only at g2
    rw [hP, List.drop_succ_cons, List.drop_succ_cons, List.drop_zero] at g2
    have fin : ∀ v : Int32, v = (if g = true then (if 27 ≤ op then 0 else 1) else 3) → ys_266_234 e d v κ (my_uI σ1 498 47 (σ1.1 498 47 - 2)) Q := fun v hv => by
      unfold ys_266_234
      rw [g2.2.1.1]
      dsimp only
      rw [oN_n (by omega), hpl]
      refine ⟨⟨by rw [oN_i (by omega)]; omega, by rw [oN_i (by omega)]; omega⟩, ?_⟩
      refine t_261 (p := a.2) (a := v) ha5 g2 (by dsimp only; omega) (by omega) (fun σ3 g3 f3 => ?_)
      rw [my_k0_v]
      refine hQ σ3 ?_ (eqp_tr (eqp_tr f1 f2) f3)
      rw [ht, ← hv]
      exact g3
    refine my_if (fun h0 => fin 3 ?_) (fun h0 => ?_)
    · rw [bI_0.mp h0]; rfl
    · have hg : g = true := by
        cases g with
        | true => rfl
        | false => exact absurd rfl h0
      refine my_if (fun h27 => fin 1 ?_) (fun h27 => fin 0 ?_)
      · have := (oN_lt1 (b := 27) (c := 27) rfl (by omega) (by omega)).mp h27
        rw [if_pos hg, if_neg (by omega)]
      · have : ¬ op < 27 := fun hh => h27 ((oN_lt1 (b := 27) (c := 27) rfl (by omega) (by omega)).mpr hh)
        rw [if_pos hg, if_pos (by omega)]
  -- from the second one on
  have e170 : ∀ (σ1 : my_S) (mf : Option Nat) (g : Bool) (du : Int32), TS (s.1, s.2.1, mf) σ1 → eqp tyF σ σ1 → tbi op s = (s.1, (if (mstB b.1 du && g && !decide (b.1 = 3)) = true then (if 27 ≤ op then 0 else 1) else 3, a.2) :: P, omin mf (fl b.1 du b.2)) → ys_266_170 e d (Int32.ofNat op) (bI g) du 0 κ σ1 Q := fun σ1 mf g du g1 f1 ht => by
    unfold ys_266_170
    refine t_264 (k := 0) g1 hk0 (by dsimp only; omega) (by omega) (fun σ2 g2 f2 => ?_)
    rw [my_kI_v]
    have no : (mstB b.1 du && g && !decide (b.1 = 3)) = false → ys_266_200 e d (Int32.ofNat op) κ σ2 Q := fun hh => by
      unfold ys_266_200
      exact e201 σ2 _ false g2 (eqp_tr f1 f2) (by rw [ht, hh])
    refine my_if (fun h0 => no (by rw [bI_0.mp h0]; rfl)) (fun h0 => my_if (fun h1 => no (by rw [bI_0.mp h1]; simp)) (fun h1 => ?_))
    have hm : mstB b.1 du = true := by
      cases hm : mstB b.1 du with
      | true => rfl
      | false => exact absurd (bI_0.mpr hm) h0
    have hg : g = true := by
      cases g with
      | true => rfl
      | false => exact absurd rfl h1
    have eb := (tpk_at g2.2.1.2 hk0).1
    dsimp only at eb
    rw [g2.2.1.1]
    dsimp only
    have e1 : Int32.ofNat s.2.1.length - 1 = Int32.ofNat (s.2.1.length - 1) := by
      rw [Int32.ofNat_sub _ _ (by omega)]
      rfl
    rw [e1, oN_n (by omega)]
    rw [show s.2.1.length - 1 - 0 = s.2.1.length - 1 by omega] at eb
    rw [eb]
    refine ⟨⟨by rw [oN_i (by omega)]; omega, by rw [oN_i (by omega)]; omega⟩, my_if (fun h3 => no ?_) (fun h3 => ?_)⟩
    · rw [decide_eq_true h3]; simp
    · exact e201 σ2 _ true g2 (eqp_tr f1 f2) (by rw [ht, hm, hg, decide_eq_false h3]; rfl)
  have e1 : Int32.ofNat s.2.1.length - 2 = Int32.ofNat (s.2.1.length - 2) := by
    rw [Int32.ofNat_sub _ _ (by omega)]
    rfl
  have ea := (tpk_at h.2.1.2 hk1).1
  rw [show s.2.1.length - 1 - 1 = s.2.1.length - 2 by omega] at ea
  have bd : my_bd (Int32.ofNat (s.2.1.length - 2)) 800 := ⟨by rw [oN_i (by omega)]; omega, by rw [oN_i (by omega)]; omega⟩
  -- the two kinds of signs
  have e99a : (op = 23 ∨ op = 24) → ys_266_99 e d (Int32.ofNat op) 0 1 κ σ Q := fun h2 => by
    unfold ys_266_99
    rw [h.2.1.1, e1, oN_n (by omega), ea, if_neg (by decide)]
    refine ⟨bd, ?_⟩
    have ht : ∀ g : Bool, g = !decide (a.1 = 3) → tbi op s = (s.1, (if (mstB b.1 a.1 && g && !decide (b.1 = 3)) = true then (if 27 ≤ op then 0 else 1) else 3, a.2) :: P, omin s.2.2 (fl b.1 a.1 b.2)) := fun g hg => by
      unfold tbi
      rw [hP]
      dsimp only
      rw [if_pos h2, hg]
      have e27 : ¬ 27 ≤ op := by omega
      rw [if_neg e27]
      by_cases c1 : a.1 ≠ 3 ∧ mstB b.1 a.1 = true ∧ b.1 ≠ 3
      · rw [if_pos c1, if_pos (by simp [c1.1, c1.2.1, c1.2.2])]
      · rw [if_neg c1, if_neg (by simp only [Bool.and_eq_true, Bool.not_eq_true', decide_eq_false_iff_not]; exact fun hh => c1 ⟨hh.1.2, hh.1.1, hh.2⟩)]
    refine my_if (fun h3 => ?_) (fun h3 => ?_)
    · unfold ys_266_147
      rw [if_neg (by decide)]
      exact e170 σ s.2.2 false a.1 h eqp_rf (ht false (by rw [decide_eq_true h3]; rfl))
    · unfold ys_266_147
      rw [if_neg (by decide)]
      exact e170 σ s.2.2 true a.1 h eqp_rf (ht true (by rw [decide_eq_false h3]; rfl))
  have e99b : ∀ (v3 : Int32), ¬ (op = 23 ∨ op = 24) → (v3 = if op ≤ 22 then 1 else 0) → ys_266_99 e d (Int32.ofNat op) v3 0 κ σ Q := fun v3 h2 hv3 => by
    unfold ys_266_99
    rw [h.2.1.1, e1, oN_n (by omega), ea, if_pos rfl]
    refine ⟨bd, ?_⟩
    have hd2 : ∀ du : Int32, du = (if op ≤ 22 then 1 else 0) → ys_266_144 e d (Int32.ofNat op) v3 0 a.1 du 1 κ σ Q := fun du hdu => by
      unfold ys_266_144
      refine t_264 (k := 1) h hk1 (by omega) (by omega) (fun σ1 g1 f1 => ?_)
      rw [my_kI_v]
      unfold ys_266_147
      rw [if_pos rfl]
      have ht : tbi op s = (s.1, (if (mstB b.1 du && mstB a.1 du && !decide (b.1 = 3)) = true then (if 27 ≤ op then 0 else 1) else 3, a.2) :: P, omin (omin s.2.2 (fl a.1 du a.2)) (fl b.1 du b.2)) := by
        unfold tbi
        rw [hP]
        dsimp only
        rw [if_neg h2, ← hdu]
        by_cases c1 : mstB a.1 du = true ∧ mstB b.1 du = true ∧ b.1 ≠ 3
        · rw [if_pos c1, if_pos (show (mstB b.1 du && mstB a.1 du && !decide (b.1 = 3)) = true by simp [c1.1, c1.2.1, c1.2.2])]
        · rw [if_neg c1, if_neg (by simp only [Bool.and_eq_true, Bool.not_eq_true', decide_eq_false_iff_not]; exact fun hh => c1 ⟨hh.1.2, hh.1.1, hh.2⟩)]
      refine my_if (fun h0 => ?_) (fun h0 => ?_)
      · have : du = 0 := by rw [hdu, ← hv3]; exact h0
        rw [this] at g1 ht
        rw [this]
        exact e170 σ1 _ _ 0 g1 f1 ht
      · have : du = 1 := by
          rw [hdu]
          rw [hv3] at h0
          by_cases c : op ≤ 22
          · rw [if_pos c]
          · rw [if_neg c] at h0; exact absurd rfl h0
        rw [this] at g1 ht
        rw [this]
        exact e170 σ1 _ _ 1 g1 f1 ht
    refine my_if (fun h0 => hd2 0 ?_) (fun h0 => hd2 1 ?_)
    · rw [← hv3]; exact h0.symm
    · rw [hv3] at h0
      by_cases c : op ≤ 22
      · rw [if_pos c]
      · rw [if_neg c] at h0; exact absurd rfl h0
  have ne : ∀ k : Nat, k < 100 → op ≠ k → ¬ Int32.ofNat op = Int32.ofNat k := fun k hk hh h2 => hh ((oN_e (by omega) (by omega)).mp h2)
  have e81 : ∀ v3 : Int32, (v3 = if op ≤ 22 then 1 else 0) → ys_266_81 e d (Int32.ofNat op) v3 κ σ Q := fun v3 hv3 => by
    unfold ys_266_81 ys_266_94
    refine my_if (fun hh => ?_) (fun hh => my_if (fun hh2 => ?_) (fun hh2 => ?_))
    · have := (oN_e (a := op) (b := 23) (by omega) (by omega)).mp hh
      rw [if_neg (by omega)] at hv3
      rw [hv3]
      exact e99a (Or.inl this)
    · have := (oN_e (a := op) (b := 24) (by omega) (by omega)).mp hh2
      rw [if_neg (by omega)] at hv3
      rw [hv3]
      exact e99a (Or.inr this)
    · refine e99b v3 (fun hc => ?_) hv3
      rcases hc with hc | hc
      · exact hh (by rw [hc]; rfl)
      · exact hh2 (by rw [hc]; rfl)
  refine ys_266 ?_
  unfold ys_266_0 ys_266_76
  rw [if_neg (show ¬ Int32.ofNat op = 19 from ne 19 (by omega) (by omega)), if_neg (show ¬ Int32.ofNat op = 20 from ne 20 (by omega) (by omega))]
  refine my_if (fun hh => e81 1 ?_) (fun hh => my_if (fun hh2 => e81 1 ?_) (fun hh2 => e81 0 ?_))
  · have := (oN_e (a := op) (b := 21) (by omega) (by omega)).mp hh
    rw [if_pos (by omega)]
  · have := (oN_e (a := op) (b := 22) (by omega) (by omega)).mp hh2
    rw [if_pos (by omega)]
  · have n1 : op ≠ 21 := fun hc => hh (by rw [hc]; rfl)
    have n2 : op ≠ 22 := fun hc => hh2 (by rw [hc]; rfl)
    rw [if_neg (by omega)]
variable {As : List Ri} {I : List It} {R : List Rw}
/-- what the parameters must have -/
theorem t_265l {j k c : Nat} {a : Ri} {v1 : Int32} (hB : itsB As) (hrel : iRel As I) (ha : As[k]? = some a) (hc : (riQ a).length = c) (hlc : c ≤ s.2.1.length) (hl : s.2.1.length ≤ 799) (hd : 3 ≤ d) : ∀ (m j : Nat) (g : Bool) (mf : Option Nat) (σ : my_S), j + m = c → TM As R σ → TS (s.1, s.2.1, mf) σ → (∀ σ', TM As R σ' → TS (s.1, s.2.1, (mstA ((s.2.1.take c).reverse.drop j) (itA I k).2.2.2.2.2 j mf).2) σ' → eqp tyF σ σ' → ys_265_147 e d v1 (Int32.ofNat c) (Int32.ofNat k) (bI (g && (mstA ((s.2.1.take c).reverse.drop j) (itA I k).2.2.2.2.2 j mf).1)) κ σ' Q) → ys_265_85 e d v1 (Int32.ofNat c) (Int32.ofNat k) (bI g) (Int32.ofNat j) κ σ Q := by
  have h42 := itsB_42 hB
  have hW := hB.2 a (List.mem_of_getElem? ha)
  have hkA := (List.getElem?_eq_some_iff.mp ha).1
  have hkI : k < I.length := by rw [hrel.1]; exact hkA
  have hio := hrel.2 k a _ ha (itA_e hkI)
  have hc4 : c ≤ 4 := by rw [← hc]; exact hW.2.2.1
  have lA : (s.2.1.take c).reverse.length = c := by simp; omega
  intro m
  induction m with
  | zero =>
    intro j g mf σ hj hM h hQ
    unfold ys_265_85
    rw [if_neg (by rw [oN_lt (by omega) (by omega)]; omega)]
    rw [List.drop_of_length_le (by rw [lA]; omega)] at hQ
    have := hQ σ hM h eqp_rf
    simpa [mstA] using this
  | succ m ih =>
    intro j g mf σ hj hM h hQ
    have hr := rit_at hM.1.2 ha
    rw [Nat.zero_add] at hr
    unfold ys_265_85
    rw [if_pos (by rw [oN_lt (by omega) (by omega)]; omega), if_neg (oN_0 (by omega)), oN_n (by omega), hr.2.2.2.2.2.1, hc, if_pos rfl]
    have e4 : (4 : Int32) * Int32.ofNat k + Int32.ofNat j = Int32.ofNat (4 * k + j) := by
      rw [Int32.ofNat_add, Int32.ofNat_mul]; rfl
    have hjq : j < (riQ a).length := by omega
    have ept : σ.1 508 (4 * k + j) = (itA I k).2.2.2.2.2 j := by
      rw [hr.2.2.2.2.2.2.1 j _ (List.getElem?_eq_getElem hjq), hio.2.2.2.2.2 j _ (List.getElem?_eq_getElem hjq)]
    rw [e4, oN_n (by omega), ept]
    refine ⟨⟨by rw [oN_i (by omega)]; omega, by rw [oN_i (by omega)]; omega⟩, ⟨by rw [oN_i (by omega)]; omega, by rw [oN_i (by omega)]; omega⟩, ?_⟩
    have e5 : Int32.ofNat c - 1 - Int32.ofNat j = Int32.ofNat (c - 1 - j) := by
      rw [Int32.ofNat_sub _ _ (by omega), Int32.ofNat_sub _ _ (by omega)]
      rfl
    rw [e5]
    have hjA : j < (s.2.1.take c).reverse.length := by rw [lA]; omega
    have hx : s.2.1[c - 1 - j]? = some ((s.2.1.take c).reverse[j]) := by
      rw [List.getElem_reverse]
      have h1 : (s.2.1.take c).length - 1 - j < (s.2.1.take c).length := by simp; omega
      rw [List.getElem_take, ← List.getElem?_eq_getElem (by simp at h1; simp; omega)]
      congr 1
      simp
      omega
    rw [List.drop_eq_getElem_cons hjA] at hQ
    simp only [mstA] at hQ
    generalize (s.2.1.take c).reverse[j] = x at hx hQ
    refine t_264 (k := c - 1 - j) (x := x) h hx (by dsimp only; omega) (by omega) (fun σ1 g1 f1 => ?_)
    rw [my_kI_v]
    dsimp only at g1
    have hM1 := TM_o hB hM f1
    have nxt : ∀ g' : Bool, g' = (g && mstB x.1 ((itA I k).2.2.2.2.2 j)) → ys_265_139 e d v1 (Int32.ofNat c) (Int32.ofNat k) (Int32.ofNat j) (bI g') κ σ1 Q := fun g' hg' => by
      unfold ys_265_139
      rw [oN_s]
      refine ys_265_85_ok (ih (j + 1) g' _ σ1 (by omega) hM1 g1 (fun σ' hM' g f => ?_))
      have := hQ σ' hM' g (eqp_tr f1 f)
      rw [hg', Bool.and_assoc]
      exact this
    refine my_if (fun h0 => ?_) (fun h0 => my_if (fun h1 => ?_) (fun h1 => ?_))
    · unfold ys_265_138
      exact nxt false (by rw [bI_0.mp h0]; simp)
    · unfold ys_265_138
      exact nxt false (by rw [bI_0.mp h1]; simp)
    · have hm : mstB x.1 ((itA I k).2.2.2.2.2 j) = true := by
        cases hm : mstB x.1 ((itA I k).2.2.2.2.2 j) with
        | true => rfl
        | false => exact absurd (bI_0.mpr hm) h0
      have hg : g = true := by
        cases g with
        | true => rfl
        | false => exact absurd rfl h1
      exact nxt true (by rw [hm, hg]; rfl)
/-- a call -/
theorem t_265 {j c : Nat} {x : Rw} (hB : itsB As) (hrel : iRel As I) (hM : TM As R σ) (h : TS s σ) (hR : R.length ≤ 3200) (hj : R[j]? = some x) (hop : x.1 = 204 ∨ x.1 = 205) (hc : x.2.1 = Int32.ofNat c) (hc2 : c ≤ 1500) (hN : isN x.2.2.1) (hp : x.2.2.2 ≤ 1500) (hlc : c ≤ s.2.1.length) (hl : s.2.1.length ≤ 799) (hd : 5 ≤ d)
    (hQ : ∀ σ', TS (if x.1 = 204 then (s.1, ((tcal I x s.2.1 s.2.2).1, x.2.2.2) :: s.2.1.drop c, (tcal I x s.2.1 s.2.2).2) else (s.1, s.2.1.drop c, (tcal I x s.2.1 s.2.2).2)) σ' → eqp tyF σ σ' → Q (.inl none) κ σ') : my_M e d 265 [.inr (.inr (some 498)), .inl (Int32.ofNat j)] κ σ Q := by
  obtain ⟨d, rfl⟩ := dS 1 (show 1 ≤ d by omega)
  have h42 := itsB_42 hB
  obtain ⟨hj3, bd⟩ := rws_at hM.2 hj hR
  have hrk : ∀ {σ1}, TM As R σ1 → σ1.1 512 j = Int32.ofNat x.1 ∧ σ1.1 513 j = x.2.1 ∧ σ1.1 515 j = Int32.ofNat x.2.2.2 := fun hM1 => by
    obtain ⟨k1, k2, k3, k4⟩ := hM1.2.2 j x hj
    exact ⟨k1, by rcases k2 with h | h | h; omega; omega; exact h, k4⟩
  -- the end
  have e147 : ∀ (σ1 : my_S) (mf : Option Nat) (g : Bool) (v3 : Int32) (ty : Int32), TM As R σ1 → TS (s.1, s.2.1, mf) σ1 → eqp tyF σ σ1 → (g = true → ∃ k a, v3 = Int32.ofNat k ∧ As[k]? = some a ∧ riF a ≠ 1 ∧ ty = riT a) → tcal I x s.2.1 s.2.2 = (if g = true then ty else 3, mf) ∨ (x.1 = 205 ∧ (tcal I x s.2.1 s.2.2).2 = mf) → ys_265_147 e d (Int32.ofNat j) (Int32.ofNat c) v3 (bI g) κ σ1 Q := fun σ1 mf g v3 ty hM1 g1 f1 hg ht => by
    unfold ys_265_147
    obtain ⟨k1, k2, k3⟩ := hrk hM1
    rw [oN_n (by omega), k1]
    refine ⟨bd, ?_⟩
    obtain ⟨g2, f2⟩ := TS_pop (k := c) (y := (σ1.1 498 47) - Int32.ofNat c) g1 hlc (by dsimp only; omega) (by
      rw [g1.2.1.1]
      dsimp only
      rw [Int32.ofNat_sub _ _ hlc])
    have f12 := eqp_tr f1 f2
    rcases hop with h4 | h4
    · rw [h4, if_pos (by decide)]
      have ht : tcal I x s.2.1 s.2.2 = (if g = true then ty else 3, mf) := by
        rcases ht with ht | ht
        · exact ht
        · omega
      rw [if_pos h4, ht] at hQ
      have fin : ∀ v : Int32, v = (if g = true then ty else 3) → ys_265_185 e d (Int32.ofNat j) v κ (my_uI σ1 498 47 (σ1.1 498 47 - Int32.ofNat c)) Q := fun v hv => by
        unfold ys_265_185 ys_265_194
        rw [oN_n (by omega), uI_o (by omega), k3]
        refine ⟨bd, ?_⟩
        refine t_261 (p := x.2.2.2) (a := v) hp g2 (by simp; omega) (by omega) (fun σ3 g3 f3 => ?_)
        rw [my_k0_v]
        refine hQ σ3 ?_ (eqp_tr f12 f3)
        rw [← hv]
        exact g3
      refine my_if (fun h0 => fin 3 ?_) (fun h0 => ?_)
      · rw [bI_0.mp h0]; rfl
      · have hgt : g = true := by
          cases g with
          | true => rfl
          | false => exact absurd rfl h0
        obtain ⟨k, a, hv3, hak, hf1, hty⟩ := hg hgt
        have hkl := (List.getElem?_eq_some_iff.mp hak).1
        have hr := rit_at hM1.1.2 hak
        rw [Nat.zero_add] at hr
        rw [hv3, oN_n (by omega), uI_o (by omega), hr.2.2.1 hf1]
        refine ⟨⟨by rw [oN_i (by omega)]; omega, by rw [oN_i (by omega)]; omega⟩, fin _ ?_⟩
        rw [if_pos hgt]; exact hty.symm
    · rw [h4, if_neg (by decide)]
      rw [if_neg (by omega)] at hQ
      unfold ys_265_194
      refine hQ _ ?_ f12
      have : (tcal I x s.2.1 s.2.2).2 = mf := by
        rcases ht with ht | ht
        · rw [ht]
        · exact ht.2
      rw [this]
      exact g2
  -- without more to see
  have e82 : ∀ (σ1 : my_S) (v3 : Int32), (∀ k, v3 = Int32.ofNat k → k < As.length → ∃ a, As[k]? = some a ∧ (riQ a).length ≠ c) → (v3 < 0 ∨ ∃ k, v3 = Int32.ofNat k ∧ k < As.length) → TM As R σ1 → ∀ g : Bool, ys_265_147 e d (Int32.ofNat j) (Int32.ofNat c) v3 (bI g) κ σ1 Q → ys_265_82 e d (Int32.ofNat j) (Int32.ofNat c) v3 (bI g) κ σ1 Q := fun σ1 v3 hv hv2 hM1 g hh => by
    unfold ys_265_82
    refine ys_265_85_ok ?_
    unfold ys_265_85
    refine my_if (fun _ => ?_) (fun _ => hh)
    rcases hv2 with hv2 | ⟨k, hk1, hk2⟩
    · rw [if_pos hv2]
      exact hh
    · rw [hk1, if_neg (oN_0 (by omega)), oN_n (by omega)]
      obtain ⟨a, ha, hne⟩ := hv k hk1 hk2
      have hW := hB.2 a (List.mem_of_getElem? ha)
      have hr := rit_at hM1.1.2 ha
      rw [Nat.zero_add] at hr
      refine ⟨⟨by rw [oN_i (by omega)]; omega, by rw [oN_i (by omega)]; omega⟩, ?_⟩
      rw [hr.2.2.2.2.2.1, if_neg (fun h5 => hne ((oN_e (by have := hW.2.2.1; omega) (by omega)).mp h5))]
      rw [← hk1]
      exact hh
  obtain ⟨k1, k2, k3⟩ := hrk hM
  refine ys_265 ?_
  unfold ys_265_0
  rw [oN_n (by omega), k2, hc]
  refine ⟨bd, ?_⟩
  refine t_262 (kd := 2) (x := x) hB hrel hM h hR hj hN hp (by omega) (by omega) (fun σ1 g1 f1 => ?_)
  rw [my_kI_v]
  have hM1 := TM_o hB hM f1
  rw [show Int32.ofNat 2 = 2 from rfl] at g1 ⊢
  cases hmn : (mns I x.2.2.1 2 x.2.2.2 s.2.2).1 with
  | none =>
    show if Int32.ofInt (-1) < 0 then _ else _
    rw [if_pos (by decide)]
    unfold ys_265_24
    rw [if_pos rfl]
    refine e82 σ1 (Int32.ofInt (-1)) (fun k hk hkl => ?_) (Or.inl (by decide)) hM1 false (e147 σ1 _ false _ 0 hM1 g1 f1 (fun hh => by cases hh) (Or.inl ?_))
    · exfalso
      have := congrArg Int32.toInt hk
      rw [oN_i (by omega)] at this
      rw [show (Int32.ofInt (-1)).toInt = -1 from rfl] at this
      omega
    · unfold tcal
      rw [hmn]
      rfl
  | some k =>
    have hmk : itK I x.2.2.1 = some k ∧ (itA I k).2.2.1 = 2 ∧ (mns I x.2.2.1 2 x.2.2.2 s.2.2).2 = s.2.2 := by
      unfold mns at hmn ⊢
      cases hk : itK I x.2.2.1 with
      | none => rw [hk] at hmn; cases hmn
      | some i =>
        rw [hk] at hmn
        simp only [] at hmn ⊢
        by_cases c1 : (itA I i).2.2.1 = 2
        · rw [if_pos c1] at hmn ⊢
          cases hmn
          exact ⟨rfl, c1, rfl⟩
        · rw [if_neg c1] at hmn
          cases hmn
    have hkI := itK_lt hmk.1
    have hkA : k < As.length := by rw [← hrel.1]; exact hkI
    obtain ⟨a, ha, hio⟩ := iRel_a2 hrel hkI
    have hW := hB.2 a (List.mem_of_getElem? ha)
    have hr := rit_at hM1.1.2 ha
    rw [Nat.zero_add] at hr
    rw [hmk.2.2] at g1
    have hkd : kdf (riF a) = 2 := by
      have := hmk.2.1
      rw [hio.2.2.1] at this
      have hk4 := kdf_lt hW.1
      exact (oN_e (by omega) (by omega)).mp this
    have hf23 : riF a = 2 ∨ riF a = 3 := by unfold kdf at hkd; have := hW.1; split at hkd <;> omega
    show if Int32.ofNat k < 0 then _ else _
    rw [if_neg (oN_0 (by omega))]
    unfold ys_265_24
    rw [show ixO (some k) = Int32.ofNat k from rfl, if_neg (by decide), oN_n (by omega), oN_n (by omega), hr.2.2.2.2.2.1]
    refine ⟨⟨by rw [oN_i (by omega)]; omega, by rw [oN_i (by omega)]; omega⟩, ?_⟩
    have hq4 := hW.2.2.1
    have tc : tcal I x s.2.1 s.2.2 = if (itA I k).2.2.2.2.1 = x.2.1 then (if ((tcl1 I x k s.2.2).1 && (mstA (s.2.1.take x.2.1.toNatClampNeg).reverse (itA I k).2.2.2.2.2 0 (tcl1 I x k s.2.2).2).1) = true then (itA I k).2.2.2.1 else 3, (mstA (s.2.1.take x.2.1.toNatClampNeg).reverse (itA I k).2.2.2.2.2 0 (tcl1 I x k s.2.2).2).2) else (3, (tcl1 I x k s.2.2).2) := by
      unfold tcal
      rw [hmn]
    have e69 : tcl1 I x k s.2.2 = (false, omin s.2.2 (some x.2.2.2)) → (∀ σ2, TM As R σ2 → TS (s.1, s.2.1, omin s.2.2 (some x.2.2.2)) σ2 → eqp tyF σ σ2 → ys_265_82 e d (Int32.ofNat j) (Int32.ofNat c) (Int32.ofNat k) 0 κ σ2 Q) → ys_265_69 e d (Int32.ofNat j) (Int32.ofNat c) (Int32.ofNat k) κ σ1 Q := fun _ hh => by
      obtain ⟨k1, k2, k3⟩ := hrk hM1
      unfold ys_265_69
      rw [oN_n (by omega), k3]
      refine ⟨bd, ?_⟩
      refine t_259 hp g1 (by omega) (fun σ2 g2 f2 => ?_)
      rw [my_k0_v]
      exact hh σ2 (TM_o hB hM1 f2) g2 (eqp_tr f1 f2)
    by_cases hq : (riQ a).length = c
    · rw [if_pos (by rw [hq])]
      have hnp : (itA I k).2.2.2.2.1 = x.2.1 := by rw [hio.2.2.2.2.1, hq, hc]
      rw [if_pos hnp, hc, oN_n (by omega)] at tc
      -- the loop
      have lp : ∀ (g : Bool) (mf : Option Nat) σ2, TM As R σ2 → TS (s.1, s.2.1, mf) σ2 → eqp tyF σ σ2 → tcl1 I x k s.2.2 = (g, mf) → ys_265_82 e d (Int32.ofNat j) (Int32.ofNat c) (Int32.ofNat k) (bI g) κ σ2 Q := fun g mf σ2 hM2 g2 f2 ht => by
        unfold ys_265_82
        rw [ht] at tc
        refine ys_265_85_ok (t_265l (j := 0) (v1 := Int32.ofNat j) hB hrel ha hq hlc hl (by omega) c 0 g mf σ2 (by omega) hM2 g2 (fun σ3 hM3 g3 f3 => ?_))
        rw [List.drop_zero] at g3 ⊢
        exact e147 σ3 _ _ _ (itA I k).2.2.2.1 hM3 g3 (eqp_tr f2 f3) (fun _ => ⟨k, a, rfl, ha, by omega, hio.2.2.2.1⟩) (Or.inl tc)
      obtain ⟨k1', _, _⟩ := hrk hM1
      rw [k1', hr.1]
      refine ⟨⟨by rw [oN_i (by omega)]; omega, by rw [oN_i (by omega)]; omega⟩, bd, ?_⟩
      have fm : ∀ (y : Int32) (F : Nat), y = Int32.ofNat (F + 10) → F < 10 → (F = if x.1 = 204 then 2 else 3) → ys_265_66 e d (Int32.ofNat j) (Int32.ofNat c) (Int32.ofNat k) 1 y (Int32.ofNat (riF a + 10)) κ σ1 Q := fun y F hy hF10 hF => by
        unfold ys_265_66
        rw [hy]
        refine my_if (fun hh => ?_) (fun hh => ?_)
        · have hh := (oN_e (by have := hW.1; omega) (by omega)).mp hh
          refine lp true s.2.2 σ1 hM1 g1 f1 ?_
          have hcd : (itA I k).2.1 = (if x.1 = 204 then 2 else 3) := by
            rw [hio.2.1, show riF a = F by omega, hF]
            split <;> rfl
          unfold tcl1
          rw [if_pos ⟨hnp, hcd⟩]
        · have hne : riF a ≠ F := fun h5 => hh (by rw [h5])
          have ht : tcl1 I x k s.2.2 = (false, omin s.2.2 (some x.2.2.2)) := by
            unfold tcl1
            rw [if_neg]
            intro h5
            have h6 := h5.2
            rw [hio.2.1] at h6
            apply hne
            rw [hF]
            by_cases h7 : x.1 = 204
            · rw [if_pos h7] at h6 ⊢
              exact (oN_e (b := 2) (by have := hW.1; omega) (by omega)).mp h6
            · rw [if_neg h7] at h6 ⊢
              exact (oN_e (b := 3) (by have := hW.1; omega) (by omega)).mp h6
          exact e69 ht (fun σ2 hM2 g2 f2 => lp false _ σ2 hM2 g2 f2 ht)
      rcases hop with h4 | h4
      · rw [h4, if_pos (by decide)]
        exact fm 12 2 rfl (by omega) (by rw [if_pos h4])
      · rw [h4, if_neg (by decide)]
        exact fm 13 3 rfl (by omega) (by rw [if_neg (by omega)])
    · rw [if_neg (fun hh => hq ((oN_e (by omega) (by omega)).mp hh))]
      have hnp : ¬ (itA I k).2.2.2.2.1 = x.2.1 := fun hh => by
        rw [hio.2.2.2.2.1, hc] at hh
        exact hq ((oN_e (by omega) (by omega)).mp hh)
      rw [if_neg hnp] at tc
      have ht : tcl1 I x k s.2.2 = (false, omin s.2.2 (some x.2.2.2)) := by
        unfold tcl1
        rw [if_neg (fun h5 => hnp h5.1)]
      refine e69 ht (fun σ2 hM2 g2 f2 => ?_)
      refine e82 σ2 (Int32.ofNat k) (fun k' hk' hkl' => ⟨a, ?_, hq⟩) (Or.inr ⟨k, rfl, hkA⟩) hM2 false (e147 σ2 _ false _ 0 hM2 g2 f2 (fun hh => by cases hh) (Or.inl ?_))
      · rw [← (oN_e (by omega) (by omega)).mp hk']
        exact ha
      · rw [tc, ht]
        rfl
end MTU
