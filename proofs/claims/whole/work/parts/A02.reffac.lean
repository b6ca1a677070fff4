/-! ===== the reference reads factors ===== -/
theorem RF_mo {t : Nat → Int32} {n q N N' : Nat} {σ : my_S} (h : RF t n q N σ) (hN : N ≤ N') : RF t n q N' σ := by
  obtain ⟨a1, a2, m, a3, a4⟩ := h
  exact ⟨a1, a2, m, by omega, a4⟩
theorem RF_open {t : Nat → Int32} {n q N : Nat} {σ : my_S} {x : Int32} (h : RF t n q N σ) : RF t n q N (my_uI σ 498 10 x) ∧ eqp eF σ (my_uI σ 498 10 x) := by
  have he : eqp (fun c k => c = 498 ∧ k = 10) σ (my_uI σ 498 10 x) := eqp_I eqp_rf ⟨rfl, rfl⟩
  obtain ⟨a1, ⟨p', a2⟩, m, a3, a4⟩ := h
  exact ⟨⟨(eqp_g he (by omega)).trans a1, ⟨p', rfT_o a2 he (fun c k hh => by omega)⟩, m, a3, (eqp_g he (by omega)).trans a4⟩, eqp_mo he (fun c k hh => by unfold eF; omega)⟩
theorem RF_nextw {e : my_E} {d : Nat} {κ : my_K} {Q : my_O → my_K → my_S → Prop} {t : Nat → Int32} {n : Nat} {σ : my_S} {q N : Nat} (ht : txt t n) (h : RF t n q N σ) (hQ : ∀ σ', RF t n q N σ' → σ'.1 498 36 = σ.1 498 36 → eqp eF σ σ' → Q (.inl none) κ σ') : my_M e (d + 3) 218 [.inr (.inr (some 498))] κ σ Q := by
  obtain ⟨h1, ⟨p, h2⟩, m, h3, h4⟩ := h
  refine r_218n ht h2 (fun σ' g1 g2 => hQ σ' ⟨(eqp_g g2 (by unfold rnF; omega)).trans h1, ⟨_, g1⟩, m, h3, (eqp_g g2 (by unfold rnF; omega)).trans h4⟩ (eqp_g g2 (by unfold rnF; omega)) (eqp_mo g2 (fun c k hh => by unfold rnF at hh; unfold eF; omega)))
section MRY
variable {e : my_E} {d : Nat} {κ : my_K} {Q : my_O → my_K → my_S → Prop} {t : Nat → Int32} {n : Nat} {L : List (List Nat)}
/-- a bracket's end, or a fault there -/
theorem RX_br {w : Wt} {q o : Nat} {R X2 r2 : List Rw} {P2 W : List Wt} {σ : my_S} (ht : txt t n) (hw : w.1 = 40 ∨ w.1 = 91) (g2 : RE t n L (R ++ X2) (P2 ++ w :: W) q (o + 1 + nU P2) σ) (hX2 : X2 ++ flR P2 = r2) (hP2 : ∀ w ∈ P2, 1 ≤ rk2 w.1 ∧ w.1 < 1000) (h72 : rnk (tkk t n q) = 3 → cmT P2 = true) (hl2 : (P2 ++ w :: W).length ≤ 90) (hR : R.length + r2.length ≤ 3000) (hrk : rnk (tkk t n q) = 0 ∨ rnk (tkk t n q) = 3)
    (hy : tkk t n q = cls w.1 → ∀ σ', RE t n L (R ++ (r2 ++ [(opb w.1, Int32.ofNat w.2.2.2, w.2.1, w.2.2.1)])) W (nx t n q) o σ' → eqp eF σ σ' → ys_244_7 e (d + 6) 1 κ σ' Q)
    (hn : tkk t n q ≠ cls w.1 → fK κ Q t n σ q) : ys_244_7 e (d + 6) 1 κ σ Q := by
  have hXl : X2.length + P2.length = r2.length := by rw [← hX2]; simp [flR_len]
  by_cases h0 : rnk (tkk t n q) = 0
  · refine bh_cl (N := 3100) ht g2 h0 (by omega) (fun h => by omega) hP2 (by omega) (by simp only [List.length_append]; omega) (by simp only [List.length_append]; omega) (by omega) (fun hc σ' g3 f3 => hy hc σ' ?_ f3) (fun hc σ' g3 f3 => hn hc σ' g3 f3)
    rw [← List.append_assoc, ← hX2]
    exact g3
  · refine bh_bad (N := 3100) ht g2 (by omega) (fun w hw => (hP2 w hw).2) (h72 (by omega)) (fun w' W' hw' => ?_) (by omega) (by simp only [List.length_append]; omega) (by simp only [List.length_append]; omega) (fun σ3 g3 f3 => hn (fun hc => ?_) σ3 g3 f3)
    · cases hw'
      rcases hw with h | h <;> rw [h] <;> exact ⟨by decide, by decide⟩
    · have : rnk (cls w.1) = 0 := by rcases hw with h | h <;> rw [h] <;> rfl
      rw [hc] at h0
      exact h0 this
theorem RX_fac {f : Nat} (ht : txt t n) (iL : RXL e d κ Q t n L f) (iA : RXA e d κ Q t n L f) : ∀ (p o : Nat) (R : List Rw) (W : List Wt) (σ : my_S) (res : Nat ⊕ (List Rw × Nat × Nat)), px t n L (f + 1) 5 [] 0 p o = some res → RE t n L R W p o σ → W.length ≤ 6 * o + 5 → o ≤ 12 → R.length + (n - p) ≤ 3000 → (∀ q, res = .inl q → fK κ Q t n σ q) → (∀ r c q, res = .inr (r, c, q) → okK e d κ Q t n L 5 R W o σ r q) → ys_244_7 e (d + 6) 0 κ σ Q := by
  intro p o R W σ res hpx hRE hWl ho hR hf hk
  have hb := RE_le ht hRE
  unfold px at hpx
  rw [if_neg (by omega), if_pos rfl] at hpx
  unfold pfac at hpx
  have T : ∀ (k : Nat) (y : Int32), (33 ≤ k ∧ k < 127) ∨ (256 ≤ k ∧ k < 259) ∨ (300 ≤ k ∧ k < 317) ∨ k ≤ 3 → y = Int32.ofNat (kR k) → (σ.1 498 4 = y ↔ tkk t n p = k) := fun k y hk hy => tkq ht k hk (RE_tok hRE) hy
  have leaf : ∀ (x : Rw) (q : Nat) (σ' : my_S), res = .inr ([x], 0, q) → RE t n L (R ++ [x]) W q o σ' → eqp eF σ σ' → ys_244_7 e (d + 6) 1 κ σ' Q := fun x q σ' hr g1 f1 => by
    subst hr
    exact hk _ _ _ rfl [] [x] σ' (by simpa [nU] using g1) (by simp [flR]) (fun w hw => by simp at hw) (fun h => by omega) (by simp; omega) f1
  have T45 := T 45 45 (by omega) rfl
  have T33 := T 33 33 (by omega) rfl
  have T40 := T 40 40 (by omega) rfl
  have T3 := T 3 3 (by omega) rfl
  have T315 := T 315 25 (by omega) rfl
  have T316 := T 316 26 (by omega) rfl
  have T2 := T 2 2 (by omega) rfl
  refine lp_0 hRE (ys_245 ?_)
  unfold ys_245_0
  -- a sign ahead of a factor
  have sgn : (tkk t n p = 45 ∨ tkk t n p = 33) → ys_245_23 e (d + 5) (σ.1 498 5) κ σ (my_kI (fun x7 κ8 σ9 => if x7 = 0 then (ys_244_42 e (d + 6) 0 κ8 σ9 Q) else (ys_244_42 e (d + 6) 1 κ8 σ9 Q)) (fun y10 κ11 σ12 => Q (.inr y10) κ11 σ12)) := fun hs => by
    rw [if_pos hs] at hpx
    have both : ∀ (w : Wt) (v : Int32), v = Int32.ofNat w.1 → w.2 = ([], p, 0) → rk2 w.1 = 6 → w.1 < 1000 → bo2 w.1 = (if tkk t n p = 45 then 19 else 20) → ys_245_42 e (d + 5) (σ.1 498 5) v κ σ (my_kI (fun x7 κ8 σ9 => if x7 = 0 then (ys_244_42 e (d + 6) 0 κ8 σ9 Q) else (ys_244_42 e (d + 6) 1 κ8 σ9 Q)) (fun y10 κ11 σ12 => Q (.inr y10) κ11 σ12)) := fun w v hv hw2 hw6 hw1 hbo => by
      unfold ys_245_42
      rw [RE_pl hRE]
      refine RE_openFactor (w := w) (N := 3100) ht hRE ho (by omega) (by omega) hv (by rw [hw2]; rfl) (by rw [hw2]) (by rw [hw2]; rfl) (fun h12 σ1 g1 f1 => ?_) (fun h12 σ1 g1 f1 => ?_)
      · rw [my_k0_v, my_kI_v, if_pos rfl]
        rw [if_neg (by omega)] at hpx
        have hlt := nx_bd ht (tk_lt (t := t) (n := n) (p := p) (by omega))
        refine lp_42 ?_
        cases hx : px t n L f 5 [] 0 (nx t n p) (o + 1) with
        | none => rw [hx] at hpx; cases hpx
        | some res2 =>
          refine iL 5 (nx t n p) (o + 1) R _ σ1 res2 (by omega) hx g1 (fun h => by omega) (by simp only [List.length_cons]; omega) (by omega) (by omega) (fun q hq => ?_) (fun r2 c2 q hq => ?_)
          · subst hq
            rw [hx] at hpx
            cases hpx
            exact fK_mo (hf q rfl) f1
          · subst hq
            rw [hx] at hpx
            cases hpx
            intro P2 X2 σ2 g2 hX2 hP2 h72 hl2 f2
            refine hk _ _ _ rfl (P2 ++ [w]) X2 σ2 ?_ ?_ (fun v hv => ?_) (fun h => by omega) (by simpa using hl2) (eqp_tr f1 f2)
            · have e2 : nU (P2 ++ [w]) = nU P2 + 1 := by rw [nU_app]; simp [nU, hw6]
              rw [e2, show o + (nU P2 + 1) = o + 1 + nU P2 by omega]
              simpa using g2
            · rw [flR_app, ← List.append_assoc, hX2]
              simp [flR, hbo, hw2]
            · rcases List.mem_append.mp hv with hv | hv
              · exact hP2 v hv
              · rw [List.mem_singleton.mp hv]
                exact ⟨by omega, hw1⟩
      · rw [my_k0_v, my_kI_v, if_pos rfl]
        rw [if_pos (by omega)] at hpx
        cases hpx
        exact lp_42 (RF_loop g1 (by omega) (hf p rfl σ1 g1 f1))
    unfold ys_245_23
    refine my_if (fun h => ?_) (fun h => ?_)
    · exact both (300, [], p, 0) 300 rfl rfl rfl (by show 300 < 1000; omega) (by rw [if_pos (T45.mp h)]; rfl)
    · exact both (301, [], p, 0) 301 rfl rfl rfl (by show 301 < 1000; omega) (by rw [if_neg (fun hh => h (T45.mpr hh))]; rfl)
  refine my_if (fun h => sgn (Or.inl (T45.mp h))) (fun n45 => ?_)
  refine my_if (fun h => sgn (Or.inr (T33.mp h))) (fun n33 => ?_)
  rw [T45] at n45
  rw [T33] at n33
  rw [if_neg (by omega)] at hpx
  refine my_if (fun h => ?_) (fun n40 => ?_)
  · -- in brackets
    have h40 := T40.mp h
    rw [if_pos h40] at hpx
    have hlt := nx_bd ht (tk_lt (t := t) (n := n) (p := p) (by omega))
    rw [RE_pl hRE]
    refine RE_openFactor (w := (40, [], p, 0)) (N := 3100) ht hRE ho (by omega) (by omega) rfl rfl rfl rfl (fun h12 σ1 g1 f1 => ?_) (fun h12 σ1 g1 f1 => ?_)
    · rw [my_k0_v, my_kI_v, if_pos rfl]
      rw [if_neg (by omega)] at hpx
      refine lp_42 ?_
      cases hx : px t n L f 0 [] 0 (nx t n p) (o + 1) with
      | none => rw [hx] at hpx; cases hpx
      | some res2 =>
        refine iL 0 (nx t n p) (o + 1) R _ σ1 res2 (by omega) hx g1 (fun _ w W' hw => by cases hw; exact ⟨by show rk2 40 < 1; decide, by show 40 < 1000; omega⟩) (by simp only [List.length_cons]; omega) (by omega) (by omega) (fun q hq => ?_) (fun r2 c2 q hq => ?_)
        · subst hq
          rw [hx] at hpx
          cases hpx
          exact fK_mo (hf q rfl) f1
        · subst hq
          rw [hx] at hpx
          change (if tkk t n q = 41 then some (Sum.inr (r2 ++ [(206, 0, [], p)], 0, nx t n q)) else some (Sum.inl q)) = some res at hpx
          have hrb := (px_bd (L := L) ht f 0 [] 0 (nx t n p) (o + 1) hlt.2).2 _ _ _ hx
          have hrk := (px_rk f 0 [] 0 (nx t n p) (o + 1) _ _ _ hx).1 (by omega)
          simp only [List.length_nil] at hrb
          intro P2 X2 σ2 g2 hX2 hP2 h72 hl2 f2
          refine RX_br ht (Or.inl rfl) g2 hX2 (fun w hw => by have := hP2 w hw; exact ⟨by omega, this.2⟩) (fun h3 => h72 (by omega) h3) hl2 (by omega) (by omega) (fun hc σ3 g3 f3 => ?_) (fun hc => ?_)
          · rw [if_pos (show tkk t n q = 41 from hc)] at hpx
            cases hpx
            exact hk _ _ _ rfl [] _ σ3 (by simpa [nU] using g3) (by simp [flR, opb]) (fun w hw => by simp at hw) (fun h => by omega) (by simp; omega) (eqp_tr (eqp_tr f1 f2) f3)
          · rw [if_neg (show ¬ tkk t n q = 41 from hc)] at hpx
            cases hpx
            exact fK_mo (hf q rfl) (eqp_tr f1 f2)
    · rw [my_k0_v, my_kI_v, if_pos rfl]
      rw [if_pos (by omega)] at hpx
      cases hpx
      exact lp_42 (RF_loop g1 (by omega) (hf p rfl σ1 g1 f1))
  rw [T40] at n40
  rw [if_neg n40] at hpx
  -- a number, true, false
  have num : ∀ (x : Rw) (v : Int32), v = Int32.ofNat x.1 → (x.1 = 2 ∨ x.1 = 3 ∨ σ.1 498 7 = x.2.1) → x.2.2 = ([], p) → res = .inr ([x], 0, nx t n p) → ys_245_123 e (d + 5) (σ.1 498 5) v κ σ (my_kI (fun x7 κ8 σ9 => if x7 = 0 then (ys_244_42 e (d + 6) 0 κ8 σ9 Q) else (ys_244_42 e (d + 6) 1 κ8 σ9 Q)) (fun y10 κ11 σ12 => Q (.inr y10) κ11 σ12)) := fun x v hv h7 hx hr => by
    unfold ys_245_123
    rw [RE_pl hRE]
    refine RE_emit (x := x) hRE (by omega) hv h7 (by rw [hx]; rfl) (by rw [hx]) (fun σ1 g1 f1 => ?_)
    rw [my_kI_v]
    refine RE_next ht g1 (fun σ2 g2 f2 => ?_)
    rw [my_k0_v, my_kI_v, if_neg (by decide)]
    exact lp_42 (leaf x _ σ2 hr g2 (eqp_tr (eqp_mo f1 (fun _ _ => mF_e)) f2))
  refine my_if (fun h => ?_) (fun n3 => ?_)
  · have h3 := T3.mp h
    rw [if_pos h3] at hpx
    unfold ys_245_96
    rw [if_pos h]
    exact num (1, tkv t n p, [], p) 1 rfl (Or.inr (Or.inr (hRE.1.2.2.2.2.2.2.2 h3))) rfl (by cases hpx; rfl)
  refine my_if (fun h => ?_) (fun n25 => ?_)
  · have h25 := T315.mp h
    rw [if_neg (by omega), if_pos h25] at hpx
    unfold ys_245_96
    rw [if_neg n3, if_pos h]
    exact num (2, 0, [], p) 2 rfl (Or.inl rfl) rfl (by cases hpx; rfl)
  refine my_if (fun h => ?_) (fun n26 => ?_)
  · have h26 := T316.mp h
    rw [if_neg (by omega), if_neg (by omega), if_pos h26] at hpx
    unfold ys_245_96
    rw [if_neg n3, if_neg n25]
    exact num (3, 0, [], p) 3 rfl (Or.inr (Or.inl rfl)) rfl (by cases hpx; rfl)
  rw [T3] at n3
  rw [T315] at n25
  rw [T316] at n26
  rw [if_neg n3, if_neg n25, if_neg n26] at hpx
  refine my_if (fun h => ?_) (fun n2 => ?_)
  · -- a name
    have h2 := T2.mp h
    rw [if_pos h2] at hpx
    have hlt := nx_bd ht (tk_lt (t := t) (n := n) (p := p) (by omega))
    obtain ⟨N1, N2, N3, N4⟩ := tk2_N h2 ht
    have h8 : σ.2.1 498 8 = nmR (tkm t n p) := hRE.1.2.2.2.2.2.2.1 h2
    rw [h8, RE_pl hRE]
    refine RE_next ht hRE (fun σ1 g1 f1 => ?_)
    rw [my_k0_v]
    have T91 := tkq (p := nx t n p) ht 91 (by omega) (RE_tok g1) (y := 91) rfl
    have T40' := tkq (p := nx t n p) ht 40 (by omega) (RE_tok g1) (y := 40) rfl
    refine my_if (fun h => ?_) (fun n91 => ?_)
    · have h91 := T91.mp h
      rw [if_pos h91] at hpx
      have hlt2 := nx_bd ht (tk_lt (t := t) (n := n) (p := nx t n p) (by omega))
      refine RE_openFactor (w := (91, tkm t n p, p, 0)) (N := 3100) ht g1 ho (by omega) (by omega) rfl rfl rfl rfl (fun h12 σ2 g2 f2 => ?_) (fun h12 σ2 g2 f2 => ?_)
      · rw [my_k0_v, my_kI_v, if_pos rfl]
        rw [if_neg (by omega)] at hpx
        refine lp_42 ?_
        cases hx : px t n L f 0 [] 0 (nx t n (nx t n p)) (o + 1) with
        | none => rw [hx] at hpx; cases hpx
        | some res2 =>
          refine iL 0 (nx t n (nx t n p)) (o + 1) R _ σ2 res2 (by omega) hx g2 (fun _ w W' hw => by cases hw; exact ⟨by show rk2 91 < 1; decide, by show 91 < 1000; omega⟩) (by simp only [List.length_cons]; omega) (by omega) (by omega) (fun q hq => ?_) (fun r2 c2 q hq => ?_)
          · subst hq
            rw [hx] at hpx
            cases hpx
            exact fK_mo (hf q rfl) (eqp_tr f1 f2)
          · subst hq
            rw [hx] at hpx
            change (if tkk t n q = 93 then some (Sum.inr (r2 ++ [(202, 0, tkm t n p, p)], 0, nx t n q)) else some (Sum.inl q)) = some res at hpx
            have hrb := (px_bd (L := L) ht f 0 [] 0 (nx t n (nx t n p)) (o + 1) hlt2.2).2 _ _ _ hx
            have hrk := (px_rk f 0 [] 0 (nx t n (nx t n p)) (o + 1) _ _ _ hx).1 (by omega)
            simp only [List.length_nil] at hrb
            intro P2 X2 σ3 g3 hX2 hP2 h72 hl2 f3
            refine RX_br ht (Or.inr rfl) g3 hX2 (fun w hw => by have := hP2 w hw; exact ⟨by omega, this.2⟩) (fun h3 => h72 (by omega) h3) hl2 (by omega) (by omega) (fun hc σ4 g4 f4 => ?_) (fun hc => ?_)
            · rw [if_pos (show tkk t n q = 93 from hc)] at hpx
              cases hpx
              exact hk _ _ _ rfl [] _ σ4 (by simpa [nU] using g4) (by simp [flR, opb]) (fun w hw => by simp at hw) (fun h => by omega) (by simp; omega) (eqp_tr (eqp_tr (eqp_tr f1 f2) f3) f4)
            · rw [if_neg (show ¬ tkk t n q = 93 from hc)] at hpx
              cases hpx
              exact fK_mo (hf q rfl) (eqp_tr (eqp_tr f1 f2) f3)
      · rw [my_k0_v, my_kI_v, if_pos rfl]
        rw [if_pos (by omega)] at hpx
        cases hpx
        exact lp_42 (RF_loop g2 (by omega) (hf _ rfl σ2 g2 (eqp_tr f1 f2)))
    rw [T91] at n91
    rw [if_neg n91] at hpx
    refine my_if (fun h => ?_) (fun n40' => ?_)
    · -- a call
      have h40 := T40'.mp h
      rw [if_pos h40] at hpx
      have hlt2 := nx_bd ht (tk_lt (t := t) (n := n) (p := nx t n p) (by omega))
      refine RE_opens (N := 3050) ht g1 ho (by omega) (fun h12 σ2 g2 f2 => ?_) (fun h12 σ2 g2 z36 f2 => ?_)
      · rw [my_k0_v]
        rw [if_neg (by omega)] at hpx
        refine RE_next ht g2 (fun σ3 g3 f3 => ?_)
        rw [my_k0_v]
        have T41 := tkq (p := nx t n (nx t n p)) ht 41 (by omega) (RE_tok g3) (y := 41) rfl
        refine my_if (fun h => ?_) (fun n41 => ?_)
        · have h41 := T41.mp h
          rw [if_pos h41] at hpx
          refine RE_next ht g3 (fun σ4 g4 f4 => ?_)
          rw [my_k0_v, g4.2.2.1, oN_m]
          refine RE_emit (x := (204, 0, tkm t n p, p)) (RE_open g4) (by omega) rfl (Or.inr (Or.inr rfl)) rfl rfl (fun σ5 g5 f5 => ?_)
          rw [my_kI_v, my_kI_v, if_neg (by decide)]
          exact lp_42 (leaf _ _ σ5 (by cases hpx; rfl) g5 (eqp_tr (eqp_tr (eqp_tr (eqp_tr f1 f2) f3) f4) (eqp_tr (eqp_I eqp_rf (by unfold eF; omega)) (eqp_mo f5 (fun _ _ => mF_e)))))
        · rw [T41] at n41
          rw [if_neg n41] at hpx
          refine RE_push (w := (204, tkm t n p, p, 1)) g3 (by omega) rfl rfl rfl rfl (fun σ4 g4 f4 => ?_)
          rw [my_k0_v, my_kI_v, if_pos rfl]
          refine lp_42 ?_
          cases hx : px t n L f 11 [] 0 (nx t n (nx t n p)) (o + 1) with
          | none => rw [hx] at hpx; cases hpx
          | some res2 =>
            refine iA (nx t n (nx t n p)) (o + 1) 0 p (tkm t n p) [] R W σ4 res2 hx g4 (by omega) (by omega) (by omega) (fun q hq => ?_) (fun r2 c2 q hq => ?_)
            · subst hq
              rw [hx] at hpx
              cases hpx
              exact fK_mo (hf q rfl) (eqp_tr (eqp_tr (eqp_tr f1 f2) f3) f4)
            · subst hq
              rw [hx] at hpx
              cases hpx
              have hrb := (px_bd (L := L) ht f 11 [] 0 (nx t n (nx t n p)) (o + 1) hlt2.2).2 _ _ _ hx
              have h41 := px_a41 f _ _ _ _ _ _ _ hx
              simp only [List.length_nil] at hrb
              intro P2 X2 σ5 g5 hX2 hP2 hl2 f5
              have hXl : X2.length + P2.length = r2.length := by rw [← hX2]; simp [flR_len]
              refine bh_cl (w := (204, tkm t n p, p, c2)) (N := 3100) ht g5 (by rw [h41]; rfl) (Or.inr (Or.inr rfl)) (fun _ => by omega) hP2 (by omega) (by simp only [List.length_append]; omega) (by simp only [List.length_append]; omega) (by omega) (fun hc σ6 g6 f6 => ?_) (fun hc => absurd h41 hc)
              refine hk _ _ _ rfl [] (r2 ++ [(204, Int32.ofNat c2, tkm t n p, p)]) σ6 ?_ (by simp [flR]) (fun w hw => by simp at hw) (fun h => by omega) (by simp; omega) (eqp_tr (eqp_tr (eqp_tr (eqp_tr (eqp_tr f1 f2) f3) f4) f5) f6)
              simp only [List.nil_append] at hX2
              rw [hX2] at g6
              simpa [nU, opb] using g6
      · rw [my_k0_v]
        rw [if_pos (by omega)] at hpx
        cases hpx
        refine RF_nextw ht g2 (fun σ3 g3 w3 f3 => ?_)
        rw [my_k0_v]
        refine my_if (fun _ => ?_) (fun _ => ?_)
        · refine RF_next ht g3 (fun σ4 g4 f4 => ?_)
          rw [my_k0_v]
          obtain ⟨g5, f5⟩ := RF_open (x := (σ4.1 498 10) - 1) g4
          refine RF_emit g5 (by omega) (fun σ6 m g6 f6 _ => ?_)
          rw [my_kI_v, my_kI_v, if_neg (by decide)]
          exact lp_42 (RF_loop g6 (by omega) (hf _ rfl σ6 (RF_mo g6 (by omega)) (eqp_tr (eqp_tr (eqp_tr (eqp_tr (eqp_tr f1 f2) f3) f4) f5) f6)))
        · have z36' : σ3.1 498 36 = Int32.ofNat W.length := w3.trans z36
          refine RF_push g3 z36' (by omega) (fun σ4 g4 f4 => ?_)
          rw [my_k0_v, my_kI_v, if_pos rfl]
          exact lp_42 (RF_loop g4 (by omega) (hf _ rfl σ4 (RF_mo g4 (by omega)) (eqp_tr (eqp_tr (eqp_tr f1 f2) f3) f4)))
    · -- a local or a global
      rw [T40'] at n40'
      rw [if_neg n40'] at hpx
      refine r_238 N1 g1.2.2.2.2.2 ?_
      rw [my_kI_v]
      cases hkw : kwi L (tkm t n p) 0 with
      | some j =>
        rw [hkw] at hpx
        have hj := kwi_lt hkw
        have hL := g1.2.2.2.2.2.2.1
        show if Int32.ofNat j < 0 then _ else _
        rw [if_neg (oN_0 (by omega))]
        unfold ys_245_271
        refine RE_emit (x := (4, Int32.ofNat j, tkm t n p, p)) g1 (by omega) rfl (Or.inr (Or.inr rfl)) rfl rfl (fun σ5 g5 f5 => ?_)
        rw [my_kI_v, my_kI_v, if_neg (by decide)]
        exact lp_42 (leaf _ _ σ5 (by cases hpx; rfl) g5 (eqp_tr f1 (eqp_mo f5 (fun _ _ => mF_e))))
      | none =>
        rw [hkw] at hpx
        show if Int32.ofInt (-1) < 0 then _ else _
        rw [if_pos (by decide)]
        unfold ys_245_271
        refine RE_emit (x := (200, Int32.ofInt (-1), tkm t n p, p)) g1 (by omega) rfl (Or.inr (Or.inr rfl)) rfl rfl (fun σ5 g5 f5 => ?_)
        rw [my_kI_v, my_kI_v, if_neg (by decide)]
        exact lp_42 (leaf _ _ σ5 (by cases hpx; rfl) g5 (eqp_tr f1 (eqp_mo f5 (fun _ _ => mF_e))))
  · -- nothing that can stand here
    rw [T2] at n2
    rw [if_neg n2] at hpx
    cases hpx
    rw [RE_pl hRE]
    refine RE_bad (q := p) (N := 3100) hRE (by omega) (fun σ1 g1 _ _ f1 => ?_)
    rw [my_k0_v, my_kI_v, if_neg (by decide)]
    exact lp_42 (RF_loop g1 (by omega) (hf p rfl σ1 g1 f1))
/-- all of it -/
theorem RX (ht : txt t n) : ∀ f, RXL e d κ Q t n L f ∧ RXC e d κ Q t n L f ∧ RXA e d κ Q t n L f := by
  intro f
  induction f with
  | zero => exact ⟨fun m p o R W σ res _ h => by simp [px] at h, fun m p o c r R X P W σ res _ _ h => by simp [px] at h, fun p o c pl nm r R W σ res h => by simp [px] at h⟩
  | succ f ih =>
    obtain ⟨iL, iC, iA⟩ := ih
    refine ⟨?_, RX_chain ht iL iC, RX_args ht iL iA⟩
    intro m p o R W σ res hm hpx hRE hW hWl ho hR hf hk
    by_cases h5 : m = 5
    · subst h5
      exact RX_fac ht iL iA p o R W σ res hpx hRE hWl ho hR hf hk
    · exact RX_level ht iL iC m p o R W σ res (by omega) hpx hRE (hW (by omega)) hWl ho hR hf hk
end MRY
