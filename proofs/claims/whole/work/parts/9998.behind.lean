/-! ===== the reference's expressions: behind an operand ===== -/
def topO (ρ : Nat) (W : List Wt) : Prop := ∀ w W', W = w :: W' → rk2 w.1 < ρ ∧ w.1 < 1000
def cmT (P : List Wt) : Bool := cm3 (P.takeWhile (fun w => decide (3 ≤ rk2 w.1)))
def topK (W : List Wt) : Int32 := match W with
  | [] => 0
  | w :: _ => Int32.ofNat w.1
theorem nU_app (P Q : List Wt) : nU (P ++ Q) = nU P + nU Q := by simp [nU]
theorem flR_app (P Q : List Wt) : flR (P ++ Q) = flR P ++ flR Q := by simp [flR]
theorem flR_len (P : List Wt) : (flR P).length = P.length := by simp [flR]
theorem rnk_lt (k : Nat) : rnk k < 6 := by
  unfold rnk
  repeat' split
  all_goals omega
section MBH
variable {e : my_E} {d : Nat} {κ : my_K} {σ : my_S} {Q : my_O → my_K → my_S → Prop} {t : Nat → Int32} {n p o N : Nat} {L : List (List Nat)} {R X : List Rw} {W P : List Wt}
theorem lp_1 (h : RE t n L R W p o σ) (hb : my_M e d 248 [.inr (.inr (some 498))] κ σ (my_kI (fun x1 κ2 σ3 => ys_244_42 e d x1 κ2 σ3 Q) (fun y4 κ5 σ6 => Q (.inr y4) κ5 σ6))) : ys_244_7 e d 1 κ σ Q := by
  unfold ys_244_7
  rw [h.2.1, if_pos fNo_lt, if_pos (by decide), if_neg (by decide)]
  exact hb
theorem lp_0 (h : RE t n L R W p o σ) (hb : my_M e d 245 [.inr (.inr (some 498))] κ σ (my_kI (fun x7 κ8 σ9 => if x7 = 0 then (ys_244_42 e d 0 κ8 σ9 Q) else (ys_244_42 e d 1 κ8 σ9 Q)) (fun y10 κ11 σ12 => Q (.inr y10) κ11 σ12))) : ys_244_7 e d 0 κ σ Q := by
  unfold ys_244_7
  rw [h.2.1, if_pos fNo_lt, if_pos (by decide), if_pos rfl]
  exact hb
theorem lp_42 {v : Int32} (h : ys_244_7 e d v κ σ Q) : ys_244_42 e d v κ σ Q := by
  unfold ys_244_42
  exact ys_244_7_ok h
theorem bh_op {ρ : Nat} (ht : txt t n) (h : RE t n L (R ++ X) (P ++ W) p (o + nU P) σ) (hρ : rnk (tkk t n p) = ρ) (h1 : 1 ≤ ρ) (hP : ∀ w ∈ P, ρ ≤ rk2 w.1 ∧ w.1 < 1000) (hW : topO ρ W) (h3 : ρ = 3 → cm3 P = false) (hl : (P ++ W).length < 600) (hR : (R ++ X).length + P.length < 3200)
    (hQ : ∀ σ', RE t n L (R ++ (X ++ flR P)) ((kR (tkk t n p), [], p, 0) :: W) (nx t n p) o σ' → eqp eF σ σ' → ys_244_7 e (d + 6) 0 κ σ' Q) : ys_244_7 e (d + 6) 1 κ σ Q := by
  have hlt := rnk_lt (tkk t n p)
  refine lp_1 h (ys_248 ?_)
  unfold ys_248_0
  rw [RE_tok h]
  refine r_249 (by have := kR_bd (p := p) ht; omega) ?_
  rw [my_kI_v, rk2_kR ht, hρ, if_pos (oN_pos (by omega) (by omega))]
  refine ys_250 ?_
  unfold ys_250_0
  refine ys_250_2_ok (r_250 (W := W) (b := false) ⟨h1, by omega⟩ hW P (R ++ X) o _ h hP hl hR (fun σ1 g1 f1 => ?_))
  rw [my_kI_v]
  have go : ys_248_35 e (d + 5) κ σ1 (my_kI (fun x1 κ2 σ3 => ys_244_42 e (d + 6) x1 κ2 σ3 Q) (fun y4 κ5 σ6 => Q (.inr y4) κ5 σ6)) := by
    unfold ys_248_35
    rw [RE_tok g1, RE_pl g1]
    refine RE_push (w := (kR (tkk t n p), [], p, 0)) g1 (by simp at hl ⊢; omega) rfl nmR_nil.symm rfl rfl (fun σ2 g2 f2 => ?_)
    rw [my_k0_v]
    refine RE_next ht g2 (fun σ3 g3 f3 => ?_)
    rw [my_k0_v, my_kI_v]
    refine lp_42 (hQ σ3 ?_ (eqp_tr (eqp_tr f1 f2) f3))
    rw [← List.append_assoc]
    exact g3
  refine my_if (fun _ => go) (fun hh => ?_)
  refine my_if (fun hh2 => ?_) (fun _ => go)
  have : ρ = 3 := (oN_e (b := 3) (by omega) (by omega)).mp hh2
  rw [h3 this] at hh
  exact absurd rfl hh
theorem bh_bad (ht : txt t n) (h : RE t n L R (P ++ W) p (o + nU P) σ) (hρ : rnk (tkk t n p) = 3) (hP : ∀ w ∈ P, w.1 < 1000) (hc : cmT P = true) (hW : topO 1 W) (hl : (P ++ W).length < 600) (hR : R.length + P.length < 3200) (hN : R.length + P.length ≤ N)
    (hQ : ∀ σ', RF t n p N σ' → eqp eF σ σ' → Q (.inl none) κ σ') : ys_244_7 e (d + 6) 1 κ σ Q := by
  have hb := RE_le ht h
  refine lp_1 h (ys_248 ?_)
  unfold ys_248_0
  rw [RE_tok h]
  refine r_249 (by have := kR_bd (p := p) ht; omega) ?_
  rw [my_kI_v, rk2_kR ht, hρ, if_pos (by decide)]
  refine ys_250 ?_
  unfold ys_250_0
  have hs : P = P.takeWhile (fun w => decide (3 ≤ rk2 w.1)) ++ P.dropWhile (fun w => decide (3 ≤ rk2 w.1)) := List.takeWhile_append_dropWhile.symm
  have hmt : ∀ w ∈ P.takeWhile (fun w => decide (3 ≤ rk2 w.1)), 3 ≤ rk2 w.1 := fun w hw => of_decide_eq_true (List.all_eq_true.mp (List.all_takeWhile (l := P) (p := fun w => decide (3 ≤ rk2 w.1))) w hw)
  have hmd : ∀ w W', P.dropWhile (fun w => decide (3 ≤ rk2 w.1)) = w :: W' → rk2 w.1 < 3 := fun w W' hw => by
    have := List.head?_dropWhile_not (fun w : Wt => decide (3 ≤ rk2 w.1)) P
    rw [hw] at this
    simp at this
    omega
  unfold cmT at hc
  generalize P.takeWhile (fun w => decide (3 ≤ rk2 w.1)) = P1 at *
  generalize P.dropWhile (fun w => decide (3 ≤ rk2 w.1)) = P2 at *
  subst hs
  rw [List.append_assoc, nU_app, ← Nat.add_assoc, Nat.add_right_comm] at h
  refine ys_250_2_ok (r_250 (W := P2 ++ W) (b := false) ⟨by omega, by omega⟩ ?_ P1 R (o + nU P2) _ h (fun w hw => ⟨hmt w hw, hP w (by simp [hw])⟩) (by simp at hl ⊢; omega) (by simp at hR; omega) (fun σ1 g1 f1 => ?_))
  · intro w W' hw
    cases P2 with
    | nil =>
      have := hW w W' hw
      exact ⟨by omega, this.2⟩
    | cons w2 P2 =>
      simp only [List.cons_append, List.cons.injEq] at hw
      rw [← hw.1]
      exact ⟨hmd w2 P2 rfl, hP w2 (by simp)⟩
  · rw [my_kI_v, hc, if_neg (by decide), if_pos (show Int32.ofNat 3 = 3 from rfl), RE_pl g1]
    refine RE_bad (q := p) (N := N) g1 (by simp [flR_len] at hN ⊢; omega) (fun σ2 g2 z36 z10 f2 => ?_)
    rw [my_k0_v]
    unfold ys_248_35
    refine RF_push g2 z36 (by simp at hl ⊢; omega) (fun σ3 g3 f3 => ?_)
    rw [my_k0_v]
    refine RF_next ht g3 (fun σ4 g4 f4 => ?_)
    rw [my_k0_v, my_kI_v]
    exact lp_42 (RF_loop g4 (by omega) (hQ σ4 g4 (eqp_tr (eqp_tr (eqp_tr f1 f2) f3) f4)))
/-- where the sign at hand joins nothing: up to the top of what waits -/
theorem bh_0 (ht : txt t n) (h : RE t n L (R ++ X) (P ++ W) p (o + nU P) σ) (hρ : rnk (tkk t n p) = 0) (hP : ∀ w ∈ P, 1 ≤ rk2 w.1 ∧ w.1 < 1000) (hW : topO 1 W) (hl : (P ++ W).length < 600) (hR : (R ++ X).length + P.length < 3200)
    (hQ : ∀ σ', RE t n L (R ++ (X ++ flR P)) W p o σ' → eqp eF σ σ' → ys_248_83 e (d + 5) (topK W) κ σ' (my_kI (fun x1 κ2 σ3 => ys_244_42 e (d + 6) x1 κ2 σ3 Q) (fun y4 κ5 σ6 => Q (.inr y4) κ5 σ6))) : ys_244_7 e (d + 6) 1 κ σ Q := by
  refine lp_1 h (ys_248 ?_)
  unfold ys_248_0
  rw [RE_tok h]
  refine r_249 (by have := kR_bd (p := p) ht; omega) ?_
  rw [my_kI_v, rk2_kR ht, hρ, if_neg (by decide)]
  refine ys_250 ?_
  unfold ys_250_0
  refine ys_250_2_ok (r_250 (ρ := 1) (W := W) (b := false) ⟨by omega, by omega⟩ hW P (R ++ X) o _ h hP hl hR (fun σ1 g1 f1 => ?_))
  rw [my_kI_v]
  rw [List.append_assoc] at g1
  have h5 := g1.2.2.2.2.1
  rw [h5.1]
  have hq := hQ σ1 g1 f1
  cases W with
  | nil =>
    rw [if_neg (by decide)]
    exact hq
  | cons w W' =>
    simp only [List.length_cons, List.length_append] at hl ⊢
    rw [if_pos (oN_pos (by omega) (by omega)), oN_m, oN_n (by omega), h5.2.1.1]
    exact ⟨⟨by rw [oN_i (by omega)]; omega, by rw [oN_i (by omega)]; omega⟩, hq⟩
theorem bh_end (ht : txt t n) (h : RE t n L (R ++ X) P p (o + nU P) σ) (hρ : rnk (tkk t n p) = 0) (hP : ∀ w ∈ P, 1 ≤ rk2 w.1 ∧ w.1 < 1000) (hl : P.length < 600) (hR : (R ++ X).length + P.length < 3200)
    (hQ : ∀ σ', RE t n L (R ++ (X ++ flR P)) [] p o σ' → eqp eF σ σ' → Q (.inl none) κ σ') : ys_244_7 e (d + 6) 1 κ σ Q := by
  refine bh_0 (W := []) ht (by rw [List.append_nil]; exact h) hρ hP (fun w W' hw => by cases hw) (by simpa using hl) hR (fun σ1 g1 f1 => ?_)
  unfold ys_248_83
  rw [if_neg (show ¬ topK [] = 40 by decide), if_neg (show ¬ topK [] = 91 by decide), if_neg (show ¬ topK [] = 204 by decide), my_kI_v]
  refine lp_42 ?_
  unfold ys_244_7
  rw [g1.2.1, if_pos fNo_lt, if_neg (by decide)]
  exact hQ σ1 g1 f1
theorem bh_cm {nm : List Nat} {pl c : Nat} (ht : txt t n) (h : RE t n L (R ++ X) (P ++ (204, nm, pl, c) :: W) p (o + nU P) σ) (hk : tkk t n p = 44) (hP : ∀ w ∈ P, 1 ≤ rk2 w.1 ∧ w.1 < 1000) (hl : (P ++ (204, nm, pl, c) :: W).length < 600) (hR : (R ++ X).length + P.length < 3200)
    (hQ : ∀ σ', RE t n L (R ++ (X ++ flR P)) ((204, nm, pl, c + 1) :: W) (nx t n p) o σ' → eqp eF σ σ' → ys_244_7 e (d + 6) 0 κ σ' Q) : ys_244_7 e (d + 6) 1 κ σ Q := by
  refine bh_0 ht h (by rw [hk]; rfl) hP (fun w W' hw => by cases hw; exact ⟨(by decide : rk2 204 < 1), (by decide : 204 < 1000)⟩) hl hR (fun σ1 g1 f1 => ?_)
  have h5 := g1.2.2.2.2.1
  simp only [List.length_cons, List.length_append] at hl
  unfold ys_248_83
  show if Int32.ofNat 204 = 40 then _ else _
  rw [if_neg (by decide), if_neg (show ¬ topK ((204, nm, pl, c) :: W) = 91 from (by decide : ¬ Int32.ofNat 204 = 91)), if_pos (show topK ((204, nm, pl, c) :: W) = 204 from rfl)]
  show ys_248_105 e (d + 5) (Int32.ofNat 204) κ σ1 _
  unfold ys_248_105
  rw [if_pos (show Int32.ofNat 204 = 204 from rfl), if_pos (by rw [RE_tok g1, hk]; rfl), h5.1]
  simp only [List.length_cons]
  have b1 : my_bd (Int32.ofNat W.length) 600 := ⟨by rw [oN_i (by omega)]; omega, by rw [oN_i (by omega)]; omega⟩
  rw [oN_m, oN_n (by omega), h5.2.1.2.2.2]
  refine ⟨b1, b1, ?_⟩
  show my_M e (d + 5) 218 [.inr (.inr (some 498))] κ (my_uI σ1 520 W.length (Int32.ofNat c + 1)) _
  rw [oN_s]
  have he : eqp (fun a k => a = 520 ∧ k = W.length) σ1 (my_uI σ1 520 W.length (Int32.ofNat (c + 1))) := eqp_I eqp_rf ⟨rfl, rfl⟩
  have g2 : RE t n L (R ++ (X ++ flR P)) ((204, nm, pl, c + 1) :: W) p o (my_uI σ1 520 W.length (Int32.ofNat (c + 1))) := by
    obtain ⟨a1, a2, a3, a4, a5, a6⟩ := g1
    refine ⟨rfT_o a1 he (fun c k hh => by omega), (eqp_g he (by omega)).trans a2, (eqp_g he (by omega)).trans a3, rws_o a4 he (fun c k hh => by omega), ⟨(eqp_g he (by omega)).trans a5.1, ⟨(eqp_g he (by omega)).trans a5.2.1.1, ((he 518 W.length (by omega)).2.1).trans a5.2.1.2.1, (eqp_g he (by omega)).trans a5.2.1.2.2.1, by simp [my_uI]⟩, wtk_o he a5.2.2 (fun c k hh hk => by omega)⟩, rlc_o a6 he (fun c k hh => by omega)⟩
  refine RE_next ht g2 (fun σ2 g3 f3 => ?_)
  rw [my_k0_v, my_kI_v]
  exact lp_42 (hQ σ2 g3 (eqp_tr (eqp_tr f1 (eqp_mo he (fun c k hh => by unfold eF; omega))) f3))
def cls (k : Nat) : Nat := if k = 91 then 93 else 41
def opb (k : Nat) : Nat := if k = 40 then 206 else if k = 91 then 202 else 204
theorem bh_cl {w : Wt} (ht : txt t n) (h : RE t n L (R ++ X) (P ++ w :: W) p (o + 1 + nU P) σ) (hρ : rnk (tkk t n p) = 0) (hw : w.1 = 40 ∨ w.1 = 91 ∨ w.1 = 204) (hk : w.1 = 204 → tkk t n p ≠ 44) (hP : ∀ w ∈ P, 1 ≤ rk2 w.1 ∧ w.1 < 1000) (hl : (P ++ w :: W).length < 600) (hR : (R ++ X).length + P.length < 3199) (hN : (R ++ X).length + P.length + 1 ≤ N) (hN2 : N < 3200)
    (hy : tkk t n p = cls w.1 → ∀ σ', RE t n L (R ++ (X ++ flR P) ++ [(opb w.1, Int32.ofNat w.2.2.2, w.2.1, w.2.2.1)]) W (nx t n p) o σ' → eqp eF σ σ' → ys_244_7 e (d + 6) 1 κ σ' Q)
    (hn : tkk t n p ≠ cls w.1 → ∀ σ', RF t n p N σ' → eqp eF σ σ' → Q (.inl none) κ σ') : ys_244_7 e (d + 6) 1 κ σ Q := by
  have hb := RE_le ht h
  refine bh_0 ht h hρ hP (fun w' W' hw' => by cases hw'; rcases hw with h | h | h <;> rw [h] <;> exact ⟨by decide, by decide⟩) hl (by omega) (fun σ1 g1 f1 => ?_)
  have h5 := g1.2.2.2.2.1
  simp only [List.length_cons, List.length_append] at hl hR hN
  have hlen : (R ++ (X ++ flR P)).length + 1 ≤ N := by simp only [List.length_append, flR_len]; omega
  have b1 : my_bd (Int32.ofNat W.length) 600 := ⟨by rw [oN_i (by omega)]; omega, by rw [oN_i (by omega)]; omega⟩
  have go : ys_248_158 e (d + 5) (Int32.ofNat w.1) (Int32.ofNat W.length) (Int32.ofNat (cls w.1)) κ σ1 (my_kI (fun x1 κ2 σ3 => ys_244_42 e (d + 6) x1 κ2 σ3 Q) (fun y4 κ5 σ6 => Q (.inr y4) κ5 σ6)) := by
    unfold ys_248_158
    have last : ∀ σ2 : my_S, eqp eF σ σ2 → ∀ v : Int32, v = Int32.ofNat (opb w.1) → (tkk t n p = cls w.1 → RE t n L (R ++ (X ++ flR P)) (w :: W) (nx t n p) o σ2) → (tkk t n p ≠ cls w.1 → RF t n p (N - 1) σ2) → ys_248_194 e (d + 5) (Int32.ofNat W.length) v κ (my_uI σ2 498 36 (Int32.ofNat W.length)) (my_kI (fun x1 κ2 σ3 => ys_244_42 e (d + 6) x1 κ2 σ3 Q) (fun y4 κ5 σ6 => Q (.inr y4) κ5 σ6)) := by
      intro σ2 f2 v hv hy2 hn2
      unfold ys_248_194
      rw [oN_n (by omega)]
      refine ⟨b1, b1, b1, ?_⟩
      by_cases hc : tkk t n p = cls w.1
      · have g2 := hy2 hc
        have h6 := g2.2.2.2.2.1
        have z1 : (my_uI σ2 498 36 (Int32.ofNat W.length)).1 520 W.length = Int32.ofNat w.2.2.2 := by rw [my_uI_1, if_neg (by omega)]; exact h6.2.1.2.2.2
        have z2 : (my_uI σ2 498 36 (Int32.ofNat W.length)).1 519 W.length = Int32.ofNat w.2.2.1 := by rw [my_uI_1, if_neg (by omega)]; exact h6.2.1.2.2.1
        have z3 : (my_uI σ2 498 36 (Int32.ofNat W.length)).2.1 518 W.length = nmR w.2.1 := h6.2.1.2.1
        rw [z1, z2, z3]
        refine RE_emit (x := (opb w.1, Int32.ofNat w.2.2.2, w.2.1, w.2.2.1)) (RE_pop g2) (by omega) hv (Or.inr (Or.inr rfl)) rfl rfl (fun σ3 g3 f3 => ?_)
        rw [my_kI_v, my_kI_v]
        exact lp_42 (hy hc σ3 g3 (eqp_tr (eqp_tr f2 (eqp_I eqp_rf (by unfold eF; omega))) (eqp_mo f3 (fun _ _ => mF_e))))
      · have g2 := hn2 hc
        have he : eqp (fun c k => c = 498 ∧ k = 36) σ2 (my_uI σ2 498 36 (Int32.ofNat W.length)) := eqp_I eqp_rf ⟨rfl, rfl⟩
        have g3 : RF t n p (N - 1) (my_uI σ2 498 36 (Int32.ofNat W.length)) := by
          obtain ⟨a1, ⟨p', a2⟩, m, a3, a4⟩ := g2
          exact ⟨(eqp_g he (by omega)).trans a1, ⟨p', rfT_o a2 he (fun c k hh => by omega)⟩, m, a3, (eqp_g he (by omega)).trans a4⟩
        refine RF_emit g3 (by omega) (fun σ3 m g4 f4 _ => ?_)
        rw [my_kI_v, my_kI_v]
        rw [show N - 1 + 1 = N by omega] at g4
        exact lp_42 (RF_loop g4 (by omega) (hn hc σ3 g4 (eqp_tr (eqp_tr f2 (eqp_mo he (fun c k hh => by unfold eF; omega))) f4)))
    have hcl : 33 ≤ cls w.1 ∧ cls w.1 < 127 := by unfold cls; split <;> omega
    refine RE_close (N := N - 1) ht (by rw [Nat.add_comm o 1] at g1; exact (Nat.add_comm 1 o ▸ g1)) hcl (by omega) (fun hc σ2 g2 f2 => ?_) (fun hc σ2 g2 z36 f2 => ?_)
    · rw [my_k0_v]
      refine my_if (fun h40 => ?_) (fun h40 => my_if (fun h91 => ?_) (fun h91 => ?_))
      · exact last σ2 (eqp_tr f1 f2) 206 (by rcases hw with h | h | h <;> rw [h] at h40 ⊢ <;> first | rfl | exact absurd h40 (by decide)) (fun _ => g2) (fun hh => absurd hc hh)
      · exact last σ2 (eqp_tr f1 f2) 202 (by rcases hw with h | h | h <;> rw [h] at h91 ⊢ <;> first | rfl | exact absurd h91 (by decide)) (fun _ => g2) (fun hh => absurd hc hh)
      · exact last σ2 (eqp_tr f1 f2) 204 (by rcases hw with h | h | h <;> rw [h] at h40 h91 ⊢ <;> first | rfl | exact absurd rfl h40 | exact absurd rfl h91) (fun _ => g2) (fun hh => absurd hc hh)
    · rw [my_k0_v]
      refine my_if (fun h40 => ?_) (fun h40 => my_if (fun h91 => ?_) (fun h91 => ?_))
      · exact last σ2 (eqp_tr f1 f2) 206 (by rcases hw with h | h | h <;> rw [h] at h40 ⊢ <;> first | rfl | exact absurd h40 (by decide)) (fun hh => absurd hh hc) (fun _ => g2)
      · exact last σ2 (eqp_tr f1 f2) 202 (by rcases hw with h | h | h <;> rw [h] at h91 ⊢ <;> first | rfl | exact absurd h91 (by decide)) (fun hh => absurd hh hc) (fun _ => g2)
      · exact last σ2 (eqp_tr f1 f2) 204 (by rcases hw with h | h | h <;> rw [h] at h40 h91 ⊢ <;> first | rfl | exact absurd rfl h40 | exact absurd rfl h91) (fun hh => absurd hh hc) (fun _ => g2)
  have go2 : ys_248_144 e (d + 5) (Int32.ofNat w.1) (Int32.ofNat W.length) κ σ1 (my_kI (fun x1 κ2 σ3 => ys_244_42 e (d + 6) x1 κ2 σ3 Q) (fun y4 κ5 σ6 => Q (.inr y4) κ5 σ6)) := by
    unfold ys_248_144
    refine my_if (fun h91 => ?_) (fun h91 => ?_)
    · rcases hw with h | h | h <;> rw [h] at h91 go ⊢
      · exact absurd h91 (by decide)
      · exact go
      · exact absurd h91 (by decide)
    · rcases hw with h | h | h <;> rw [h] at h91 go ⊢
      · exact go
      · exact absurd rfl h91
      · exact go
  have go3 : ys_248_105 e (d + 5) (Int32.ofNat w.1) κ σ1 (my_kI (fun x1 κ2 σ3 => ys_244_42 e (d + 6) x1 κ2 σ3 Q) (fun y4 κ5 σ6 => Q (.inr y4) κ5 σ6)) := by
    unfold ys_248_105
    rw [h5.1]
    simp only [List.length_cons]
    rw [oN_m]
    refine my_if (fun h204 => ?_) (fun _ => go2)
    refine my_if (fun h44 => ?_) (fun _ => go2)
    have h1 : w.1 = 204 := by rcases hw with h | h | h <;> rw [h] at h204 ⊢ <;> exact absurd h204 (by decide)
    exact absurd ((tkq (p := p) ht 44 (by omega) (RE_tok g1) (y := 44) rfl).mp h44) (hk h1)
  unfold ys_248_83
  show if Int32.ofNat w.1 = 40 then _ else _
  refine my_if (fun _ => go3) (fun h40 => my_if (fun _ => go3) (fun h91 => my_if (fun _ => go3) (fun h204 => ?_)))
  rcases hw with h | h | h
  · exact absurd (show Int32.ofNat w.1 = 40 by rw [h]; rfl) h40
  · exact absurd (show Int32.ofNat w.1 = 91 by rw [h]; rfl) h91
  · exact absurd (show Int32.ofNat w.1 = 204 by rw [h]; rfl) h204
end MBH
