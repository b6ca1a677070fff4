/-! ===== the reference reads expressions ===== -/
theorem px_rk {t : Nat → Int32} {n : Nat} {L : List (List Nat)} : ∀ (f m : Nat) (r : List Rw) (c p o : Nat) (r' : List Rw) (c' q : Nat), px t n L f m r c p o = some (.inr (r', c', q)) → (m ≤ 5 → rnk (tkk t n q) ≤ m ∨ (m ≤ 2 ∧ rnk (tkk t n q) = 3)) ∧ (6 ≤ m → m ≤ 10 → (rnk (tkk t n p) ≤ m - 5 ∨ (m ≤ 7 ∧ rnk (tkk t n p) = 3)) → rnk (tkk t n q) ≤ m - 6 ∨ (m ≤ 8 ∧ rnk (tkk t n q) = 3)) := by
  intro f
  induction f with
  | zero => intro m r c p o r' c' q h; simp [px] at h
  | succ f ih =>
    intro m r c p o r' c' q h
    unfold px at h
    by_cases hm : m < 5
    · rw [if_pos hm] at h
      refine ⟨fun _ => ?_, fun h6 => by omega⟩
      obtain ⟨r1, c1, q1, h1, h2⟩ := bnd_r h
      have a := (ih _ _ _ _ _ _ _ _ h1).1 (by omega)
      have b := (ih _ _ _ _ _ _ _ _ h2).2 (by omega) (by omega) (by omega)
      omega
    · rw [if_neg hm] at h
      by_cases hm5 : m = 5
      · refine ⟨fun _ => ?_, fun h6 => by omega⟩
        have := rnk_lt (tkk t n q)
        omega
      · rw [if_neg hm5] at h
        refine ⟨fun _ => by omega, fun h6 h10 hp => ?_⟩
        rw [if_pos (by omega)] at h
        by_cases hr : rnk (tkk t n p) = m - 5
        · rw [if_pos hr] at h
          obtain ⟨r1, c1, q1, h1, h2⟩ := bnd_r h
          have a := (ih _ _ _ _ _ _ _ _ h1).1 (by omega)
          by_cases h8 : m = 8
          · rw [if_pos h8] at h2
            cases h2
            omega
          · rw [if_neg h8] at h2
            exact (ih _ _ _ _ _ _ _ _ h2).2 h6 h10 (by omega)
        · rw [if_neg hr] at h
          cases h
          omega
theorem px_a41 {t : Nat → Int32} {n : Nat} {L : List (List Nat)} : ∀ (f : Nat) (r : List Rw) (c p o : Nat) (r' : List Rw) (c' q : Nat), px t n L f 11 r c p o = some (.inr (r', c', q)) → tkk t n q = 41 := by
  intro f
  induction f with
  | zero => intro r c p o r' c' q h; simp [px] at h
  | succ f ih =>
    intro r c p o r' c' q h
    unfold px at h
    rw [if_neg (by omega), if_neg (by omega), if_neg (by omega)] at h
    obtain ⟨r1, c1, q1, h1, h2⟩ := bnd_r h
    by_cases h44 : tkk t n q1 = 44
    · rw [if_pos h44] at h2
      exact ih _ _ _ _ _ _ _ h2
    · rw [if_neg h44] at h2
      by_cases h41 : tkk t n q1 = 41
      · rw [if_pos h41] at h2
        cases h2
        exact h41
      · rw [if_neg h41] at h2
        cases h2
theorem cmT_app {P : List Wt} (Z : List Wt) (h : cmT P = true) : cmT (P ++ Z) = true := by
  unfold cmT cm3 at *
  rw [List.any_eq_true] at *
  obtain ⟨x, hx, h3⟩ := h
  refine ⟨x, ?_, h3⟩
  induction P with
  | nil => simp at hx
  | cons w P ih =>
    simp only [List.cons_append, List.takeWhile_cons] at *
    by_cases hw : decide (3 ≤ rk2 w.1) = true
    · rw [if_pos hw] at hx ⊢
      rcases List.mem_cons.mp hx with rfl | hx
      · exact List.mem_cons_self
      · exact List.mem_cons_of_mem _ (ih hx)
    · rw [if_neg hw] at hx
      simp at hx
theorem cmT_all {P : List Wt} {w : Wt} (h : ∀ w ∈ P, 3 ≤ rk2 w.1) (hw : rk2 w.1 = 3) : cmT (P ++ [w]) = true := by
  unfold cmT cm3
  rw [List.any_eq_true]
  refine ⟨w, ?_, by simp [hw]⟩
  induction P with
  | nil => simp [hw]
  | cons v P ih =>
    simp only [List.cons_append, List.takeWhile_cons]
    rw [if_pos (by have := h v (by simp); simp [this])]
    exact List.mem_cons_of_mem _ (ih (fun w hw => h w (by simp [hw])))
section MRX
variable {e : my_E} {d : Nat} {κ : my_K} {Q : my_O → my_K → my_S → Prop} {t : Nat → Int32} {n : Nat} {L : List (List Nat)}
def okK (e : my_E) (d : Nat) (κ : my_K) (Q : my_O → my_K → my_S → Prop) (t : Nat → Int32) (n : Nat) (L : List (List Nat)) (m : Nat) (R : List Rw) (W : List Wt) (o : Nat) (σ : my_S) (r : List Rw) (q : Nat) : Prop :=
  ∀ P X σ', RE t n L (R ++ X) (P ++ W) q (o + nU P) σ' → X ++ flR P = r → (∀ w ∈ P, m + 1 ≤ rk2 w.1 ∧ w.1 < 1000) → (m ≤ 2 → rnk (tkk t n q) = 3 → cmT P = true) → (P ++ W).length ≤ 90 → eqp eF σ σ' → ys_244_7 e (d + 6) 1 κ σ' Q
def fK (κ : my_K) (Q : my_O → my_K → my_S → Prop) (t : Nat → Int32) (n : Nat) (σ : my_S) (q : Nat) : Prop := ∀ σ', RF t n q 3100 σ' → eqp eF σ σ' → Q (.inl none) κ σ'
def okA (e : my_E) (d : Nat) (κ : my_K) (Q : my_O → my_K → my_S → Prop) (t : Nat → Int32) (n : Nat) (L : List (List Nat)) (R : List Rw) (W : List Wt) (o : Nat) (σ : my_S) (nm : List Nat) (pl : Nat) (r r' : List Rw) (c' q : Nat) : Prop :=
  ∀ P X σ', RE t n L (R ++ X) (P ++ (204, nm, pl, c') :: W) q (o + nU P) σ' → r ++ (X ++ flR P) = r' → (∀ w ∈ P, 1 ≤ rk2 w.1 ∧ w.1 < 1000) → (P ++ (204, nm, pl, c') :: W).length ≤ 90 → eqp eF σ σ' → ys_244_7 e (d + 6) 1 κ σ' Q
def RXL (e : my_E) (d : Nat) (κ : my_K) (Q : my_O → my_K → my_S → Prop) (t : Nat → Int32) (n : Nat) (L : List (List Nat)) (f : Nat) : Prop := ∀ (m p o : Nat) (R : List Rw) (W : List Wt) (σ : my_S) (res : Nat ⊕ (List Rw × Nat × Nat)), m ≤ 5 → px t n L f m [] 0 p o = some res → RE t n L R W p o σ → (m ≤ 4 → topO (m + 1) W) → W.length ≤ 6 * o + m → o ≤ 12 → R.length + (n - p) ≤ 3000 → (∀ q, res = .inl q → fK κ Q t n σ q) → (∀ r c q, res = .inr (r, c, q) → okK e d κ Q t n L m R W o σ r q) → ys_244_7 e (d + 6) 0 κ σ Q
def RXC (e : my_E) (d : Nat) (κ : my_K) (Q : my_O → my_K → my_S → Prop) (t : Nat → Int32) (n : Nat) (L : List (List Nat)) (f : Nat) : Prop := ∀ (m p o c : Nat) (r R X : List Rw) (P W : List Wt) (σ : my_S) (res : Nat ⊕ (List Rw × Nat × Nat)), 6 ≤ m → m ≤ 10 → px t n L f m r c p o = some res → RE t n L (R ++ X) (P ++ W) p (o + nU P) σ → X ++ flR P = r → (∀ w ∈ P, m - 5 ≤ rk2 w.1 ∧ w.1 < 1000) → (m = 8 → ∀ w ∈ P, 4 ≤ rk2 w.1) → (m ≤ 7 → rnk (tkk t n p) = 3 → cmT P = true) → topO (m - 5) W → W.length ≤ 6 * o + (m - 6) → (P ++ W).length ≤ 90 → o ≤ 12 → R.length + r.length + (n - p) ≤ 3000 → (∀ q, res = .inl q → fK κ Q t n σ q) → (∀ r' c' q, res = .inr (r', c', q) → okK e d κ Q t n L (m - 6) R W o σ r' q) → ys_244_7 e (d + 6) 1 κ σ Q
def RXA (e : my_E) (d : Nat) (κ : my_K) (Q : my_O → my_K → my_S → Prop) (t : Nat → Int32) (n : Nat) (L : List (List Nat)) (f : Nat) : Prop := ∀ (p o c pl : Nat) (nm : List Nat) (r R : List Rw) (W : List Wt) (σ : my_S) (res : Nat ⊕ (List Rw × Nat × Nat)), px t n L f 11 r c p o = some res → RE t n L R ((204, nm, pl, c + 1) :: W) p o σ → W.length + 1 ≤ 6 * o → o ≤ 12 → R.length + (n - p) ≤ 3000 → (∀ q, res = .inl q → fK κ Q t n σ q) → (∀ r' c' q, res = .inr (r', c', q) → okA e d κ Q t n L R W o σ nm pl r r' c' q) → ys_244_7 e (d + 6) 0 κ σ Q
theorem fK_mo {σ σ1 : my_S} {q : Nat} (h : fK κ Q t n σ q) (he : eqp eF σ σ1) : fK κ Q t n σ1 q := fun σ' g1 g2 => h σ' g1 (eqp_tr he g2)
theorem RX_chain {f : Nat} (ht : txt t n) (iL : RXL e d κ Q t n L f) (iC : RXC e d κ Q t n L f) : RXC e d κ Q t n L (f + 1) := by
  intro m p o c r R X P W σ res hm6 hm10 hpx hRE hXP hP h8 h7 hW hWl hPW ho hR hf hk
  have hb := RE_le ht hRE
  unfold px at hpx
  rw [if_neg (by omega), if_neg (by omega), if_pos (by omega)] at hpx
  have hXl : X.length + P.length = r.length := by rw [← hXP]; simp [flR_len]
  by_cases hr : rnk (tkk t n p) = m - 5
  · rw [if_pos hr] at hpx
    have hlt := nx_bd ht (tk_lt (rnk_tk (k := tkk t n p) (by omega)))
    refine bh_op (ρ := m - 5) ht hRE hr (by omega) hP hW (fun h3 => ?_) (by omega) (by simp only [List.length_append]; omega) (fun σ1 g1 f1 => ?_)
    · have h4 := h8 (by omega)
      rw [Bool.eq_false_iff]
      intro hh
      unfold cm3 at hh
      rw [List.any_eq_true] at hh
      obtain ⟨w, hw, hw3⟩ := hh
      have := h4 w hw
      have := of_decide_eq_true hw3
      omega
    · rw [hXP] at g1
      have hop : rk2 (kR (tkk t n p)) = m - 5 := by rw [rk2_kR ht, hr]
      have hkb := kR_bd (p := p) ht
      cases hx : px t n L f (m - 5) [] 0 (nx t n p) o with
      | none => rw [hx] at hpx; cases hpx
      | some res2 =>
        refine iL (m - 5) (nx t n p) o (R ++ r) _ σ1 res2 (by omega) hx g1 (fun _ w W' hw => ?_) (by simp only [List.length_cons]; omega) ho (by simp only [List.length_append]; omega) (fun q hq => ?_) (fun r2 c2 q hq => ?_)
        · cases hw
          exact ⟨by show rk2 (kR (tkk t n p)) < _; omega, by show kR (tkk t n p) < _; omega⟩
        · subst hq
          rw [hx] at hpx
          cases hpx
          exact fK_mo (hf q rfl) f1
        · subst hq
          rw [hx] at hpx
          change (if m = 8 then some (Sum.inr (r ++ r2 ++ [(cod (tkk t n p), 0, [], p)], 0, q)) else px t n L f m (r ++ r2 ++ [(cod (tkk t n p), 0, [], p)]) 0 q o) = some res at hpx
          have hrb := (px_bd (L := L) ht f (m - 5) [] 0 (nx t n p) o hlt.2).2 _ _ _ hx
          simp only [List.length_nil] at hrb
          intro P2 X2 σ2 g2 hX2 hP2 h72 hl2 f2
          have e1 : (P2 ++ [((kR (tkk t n p), [], p, 0) : Wt)]) ++ W = P2 ++ ((kR (tkk t n p), [], p, 0) :: W) := by simp
          have e2 : nU (P2 ++ [((kR (tkk t n p), [], p, 0) : Wt)]) = nU P2 := by
            rw [nU_app]
            have : nU [((kR (tkk t n p), [], p, 0) : Wt)] = 0 := by simp [nU, hop]; omega
            omega
          have e3 : (r ++ X2) ++ flR (P2 ++ [((kR (tkk t n p), [], p, 0) : Wt)]) = r ++ r2 ++ [(cod (tkk t n p), 0, [], p)] := by
            rw [flR_app, ← hX2]
            simp [flR, bo2_kR ht (show rnk (tkk t n p) ≠ 0 by omega)]
          have g3 : RE t n L (R ++ (r ++ X2)) ((P2 ++ [((kR (tkk t n p), [], p, 0) : Wt)]) ++ W) q (o + nU (P2 ++ [((kR (tkk t n p), [], p, 0) : Wt)])) σ2 := by
            rw [e1, e2, ← List.append_assoc]
            exact g2
          have hP3 : ∀ w ∈ P2 ++ [((kR (tkk t n p), [], p, 0) : Wt)], m - 5 ≤ rk2 w.1 ∧ w.1 < 1000 := fun w hw => by
            rcases List.mem_append.mp hw with hw | hw
            · have := hP2 w hw; exact ⟨by omega, this.2⟩
            · rw [List.mem_singleton.mp hw]
              exact ⟨by show _ ≤ rk2 (kR (tkk t n p)); omega, by show kR (tkk t n p) < _; omega⟩
          by_cases hm8 : m = 8
          · rw [if_pos hm8] at hpx
            cases hpx
            refine hk _ _ _ rfl _ _ σ2 g3 e3 (fun w hw => ?_) (fun _ _ => cmT_all (fun w hw => by have := (hP2 w hw).1; omega) (by show rk2 (kR (tkk t n p)) = 3; omega)) (by rw [e1]; exact hl2) (eqp_tr f1 f2)
            have := hP3 w hw
            exact ⟨by omega, this.2⟩
          · rw [if_neg hm8] at hpx
            refine iC m q o 0 _ R (r ++ X2) _ W σ2 res hm6 hm10 hpx g3 e3 hP3 (fun h => absurd h hm8) (fun hm7 h3 => cmT_app _ (h72 (by omega) h3)) hW hWl (by rw [e1]; exact hl2) ho (by simp only [List.length_append, List.length_cons, List.length_nil]; omega) (fun q hq => fK_mo (hf q hq) (eqp_tr f1 f2)) (fun r' c' q' hq' => ?_)
            intro P3 X3 σ3 a1 a2 a3 a4 a5 a6
            exact hk r' c' q' hq' P3 X3 σ3 a1 a2 a3 a4 a5 (eqp_tr (eqp_tr f1 f2) a6)
  · rw [if_neg hr] at hpx
    cases hpx
    refine hk _ _ _ rfl P X σ hRE hXP (fun w hw => ?_) (fun h2 h3 => ?_) hPW eqp_rf
    · have := hP w hw
      exact ⟨by omega, this.2⟩
    · by_cases hm7 : m ≤ 7
      · exact h7 hm7 h3
      · omega
theorem RX_level {f : Nat} (ht : txt t n) (iL : RXL e d κ Q t n L f) (iC : RXC e d κ Q t n L f) : ∀ (m p o : Nat) (R : List Rw) (W : List Wt) (σ : my_S) (res : Nat ⊕ (List Rw × Nat × Nat)), m ≤ 4 → px t n L (f + 1) m [] 0 p o = some res → RE t n L R W p o σ → topO (m + 1) W → W.length ≤ 6 * o + m → o ≤ 12 → R.length + (n - p) ≤ 3000 → (∀ q, res = .inl q → fK κ Q t n σ q) → (∀ r c q, res = .inr (r, c, q) → okK e d κ Q t n L m R W o σ r q) → ys_244_7 e (d + 6) 0 κ σ Q := by
  intro m p o R W σ res hm hpx hRE hW hWl ho hR hf hk
  have hb := RE_le ht hRE
  unfold px at hpx
  rw [if_pos (by omega)] at hpx
  cases hx : px t n L f (m + 1) [] 0 p o with
  | none => rw [hx] at hpx; cases hpx
  | some res2 =>
    refine iL (m + 1) p o R W σ res2 (by omega) hx hRE (fun _ w W' hw => ?_) (by omega) ho hR (fun q hq => ?_) (fun r2 c2 q hq => ?_)
    · have := hW w W' hw
      exact ⟨by omega, this.2⟩
    · subst hq
      rw [hx] at hpx
      cases hpx
      exact hf q rfl
    · subst hq
      rw [hx] at hpx
      change px t n L f (m + 6) r2 0 q o = some res at hpx
      have hrb := (px_bd (L := L) ht f (m + 1) [] 0 p o hb.1).2 _ _ _ hx
      simp only [List.length_nil] at hrb
      intro P2 X2 σ2 g2 hX2 hP2 h72 hl2 f2
      refine iC (m + 6) q o 0 r2 R X2 P2 W σ2 res (by omega) (by omega) hpx g2 hX2 (fun w hw => ?_) (fun hm8 w hw => ?_) (fun hm7 h3 => h72 (by omega) h3) (by rw [show m + 6 - 5 = m + 1 by omega]; exact hW) (by omega) hl2 ho (by omega) (fun q hq => fK_mo (hf q hq) f2) (fun r' c' q' hq' => ?_)
      · have := hP2 w hw
        exact ⟨by omega, this.2⟩
      · have := hP2 w hw
        omega
      · intro P3 X3 σ3 a1 a2 a3 a4 a5 a6
        rw [show m + 6 - 6 = m by omega] at a3 a4
        exact hk r' c' q' hq' P3 X3 σ3 a1 a2 a3 a4 a5 (eqp_tr f2 a6)
theorem RX_args {f : Nat} (ht : txt t n) (iL : RXL e d κ Q t n L f) (iA : RXA e d κ Q t n L f) : RXA e d κ Q t n L (f + 1) := by
  intro p o c pl nm r R W σ res hpx hRE hWl ho hR hf hk
  have hb := RE_le ht hRE
  unfold px at hpx
  rw [if_neg (by omega), if_neg (by omega), if_neg (by omega)] at hpx
  cases hx : px t n L f 0 [] 0 p o with
  | none => rw [hx] at hpx; cases hpx
  | some res2 =>
    refine iL 0 p o R _ σ res2 (by omega) hx hRE (fun _ w W' hw => ?_) (by simp only [List.length_cons]; omega) ho hR (fun q hq => ?_) (fun r2 c2 q hq => ?_)
    · cases hw
      exact ⟨(by decide : rk2 204 < 1), (by decide : 204 < 1000)⟩
    · subst hq
      rw [hx] at hpx
      cases hpx
      exact hf q rfl
    · subst hq
      rw [hx] at hpx
      change (if tkk t n q = 44 then px t n L f 11 (r ++ r2) (c + 1) (nx t n q) o else if tkk t n q = 41 then some (.inr (r ++ r2, c + 1, q)) else some (.inl q)) = some res at hpx
      have hrb := (px_bd (L := L) ht f 0 [] 0 p o hb.1).2 _ _ _ hx
      simp only [List.length_nil] at hrb
      have hrk := (px_rk f 0 [] 0 p o _ _ _ hx).1 (by omega)
      intro P2 X2 σ2 g2 hX2 hP2 h72 hl2 f2
      have hXl : X2.length + P2.length = r2.length := by rw [← hX2]; simp [flR_len]
      by_cases h44 : tkk t n q = 44
      · rw [if_pos h44] at hpx
        have hlt := nx_bd ht (tk_lt (t := t) (n := n) (p := q) (by omega))
        refine bh_cm ht g2 h44 (fun w hw => by have := hP2 w hw; exact ⟨by omega, this.2⟩) (by omega) (by simp only [List.length_append]; omega) (fun σ3 g3 f3 => ?_)
        rw [hX2] at g3
        refine iA (nx t n q) o (c + 1) pl nm (r ++ r2) (R ++ r2) W σ3 res hpx g3 hWl ho (by simp only [List.length_append]; omega) (fun q hq => fK_mo (hf q hq) (eqp_tr f2 f3)) (fun r' c' q' hq' => ?_)
        intro P3 X3 σ4 a1 a2 a3 a5 a6
        refine hk r' c' q' hq' P3 (r2 ++ X3) σ4 (by rw [← List.append_assoc]; exact a1) (by rw [← a2]; simp) a3 a5 (eqp_tr (eqp_tr f2 f3) a6)
      · rw [if_neg h44] at hpx
        by_cases h41 : tkk t n q = 41
        · rw [if_pos h41] at hpx
          cases hpx
          exact hk _ _ _ rfl P2 X2 σ2 g2 (by rw [hX2]) (fun w hw => by have := hP2 w hw; exact ⟨by omega, this.2⟩) hl2 f2
        · rw [if_neg h41] at hpx
          cases hpx
          by_cases h0 : rnk (tkk t n q) = 0
          · have ho1 : 1 ≤ o := by omega
            refine bh_cl (w := (204, nm, pl, c + 1)) (o := o - 1) (N := 3100) ht (by rw [show o - 1 + 1 = o by omega]; exact g2) h0 (Or.inr (Or.inr rfl)) (fun _ => h44) (fun w hw => by have := hP2 w hw; exact ⟨by omega, this.2⟩) (by omega) (by simp only [List.length_append]; omega) (by simp only [List.length_append]; omega) (by omega) (fun hc => absurd hc h41) (fun _ σ3 g3 f3 => hf q rfl σ3 g3 (eqp_tr f2 f3))
          · refine bh_bad (N := 3100) ht g2 (by omega) (fun w hw => (hP2 w hw).2) (h72 (by omega) (by omega)) (fun w W' hw => ?_) (by omega) (by simp only [List.length_append]; omega) (by simp only [List.length_append]; omega) (fun σ3 g3 f3 => hf q rfl σ3 g3 (eqp_tr f2 f3))
            cases hw
            exact ⟨(by decide : rk2 204 < 1), (by decide : 204 < 1000)⟩
end MRX
