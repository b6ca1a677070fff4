
/-! ===== what holds of the machine between its instructions ===== -/
def mat (ty v : Int32) : Prop := ty = 1 → v = 0 ∨ v = 1
def vT (s : Ms) (top : Nat) (P : List Int32) : Prop := ∀ i y, P[i]? = some y → mat y (zV s (top - 1 - i))
def lcT (I : List It) (a : Ri) (LT : Nat → Int32) (s : Ms) (d : Nat) : Prop := ∀ j, j < 10 → mat ((qS I a LT (riR a)).1 j) (zL s (10 * d + j))
/-- the frame on top -/
def TFr (As : List Ri) (I : List It) (s : Ms) (a : Ri) (LT : Nat → Int32) (r1 r2 : List Rw) : Prop := FS As I (zw s (zD s)) a LT ∧ (zD s = 0 ↔ riF a = 4) ∧ lcT I a LT s (zD s) ∧ riR a = r1 ++ r2 ∧ zP s (zD s) = lens r1 ∧ zT s = zB s (zD s) + (pT I a LT r1).length ∧ vT s (zT s) (pT I a LT r1)
/-- a frame that waits for the one above -/
def LFr (As : List Ri) (I : List It) (s : Ms) (d : Nat) : Prop := ∃ a LT r0 x r2, FS As I (zw s d) a LT ∧ (d = 0 ↔ riF a = 4) ∧ lcT I a LT s d ∧ riR a = r0 ++ x :: r2 ∧ (x.1 = 204 ∨ x.1 = 205) ∧ zP s d = lens (r0 ++ [x]) ∧ itK I x.2.2.1 = some (zw s (d + 1)) ∧ zB s (d + 1) = zB s d + ((pT I a LT r0).drop (hnd x)).length ∧ vT s (zB s (d + 1)) ((pT I a LT r0).drop (hnd x))
def GTy (As : List Ri) (s : Ms) : Prop := ∀ k a, As[k]? = some a → riF a = 0 → mat (riT a) (zG s (nmk As k))
def WTc (As : List Ri) (I : List It) (s : Ms) : Prop := zD s ≤ 20 ∧ zF s ≤ 3000 ∧ zB s 0 = 0 ∧ GTy As s ∧ ∀ d, d < zD s → LFr As I s d
def WT (As : List Ri) (I : List It) (s : Ms) : Prop := WTc As I s ∧ ∃ a LT r1 r2, TFr As I s a LT r1 r2 ∧ r2 ≠ []
/-- what holds at the end too -/
def WE (As : List Ri) (I : List It) (s : Ms) : Prop := zD s ≤ 20 ∧ zF s ≤ 3000 ∧ zT s ≤ 2016 ∧ zB s (zD s) ≤ zT s ∧ ∀ d, d ≤ zD s → ∃ a, CDO As I (zw s d) a ∧ zP s d ≤ lens (riR a) ∧ (d = 0 ↔ riF a = 4)
def WZ (As : List Ri) (I : List It) (s : Ms) : Prop := WE As I s ∧ (zE s = none → WT As I s)
section MSO
variable {As : List Ri} {I : List It} {s s' : Ms} {a : Ri} {LT : Nat → Int32} {r1 r2 : List Rw} {x : Rw}
theorem LFr_o {d : Nat} (h : LFr As I s d) (e1 : zw s' d = zw s d) (e2 : zw s' (d + 1) = zw s (d + 1)) (e3 : zP s' d = zP s d) (e4 : zB s' d = zB s d) (e5 : zB s' (d + 1) = zB s (d + 1)) (e6 : ∀ j, j < 10 → zL s' (10 * d + j) = zL s (10 * d + j)) (e7 : ∀ i, i < zB s (d + 1) → zV s' i = zV s i) : LFr As I s' d := by
  obtain ⟨a, LT, r0, x, r2, h1, h2, h3, h4, h5, h6, h7, h8, h9⟩ := h
  refine ⟨a, LT, r0, x, r2, by rw [e1]; exact h1, h2, fun j hj => by rw [e6 j hj]; exact h3 j hj, h4, h5, by rw [e3]; exact h6, by rw [e2]; exact h7, by rw [e5, e4]; exact h8, fun i y hi => ?_⟩
  have hl := (List.getElem?_eq_some_iff.mp hi).1
  rw [e5, e7 _ (by omega)]
  exact h9 i y hi
theorem WT_B (h : WTc As I s) : ∀ {d d' : Nat}, d ≤ d' → d' ≤ zD s → zB s d ≤ zB s d' := by
  intro d d' h1
  induction h1 with
  | refl => intro _; exact Nat.le_refl _
  | @step m hm ih =>
    intro h2
    have h2 : m + 1 ≤ zD s := h2
    show zB s d ≤ zB s (m + 1)
    obtain ⟨a, LT, r0, x, r2, _, _, _, _, _, _, _, h8, _⟩ := h.2.2.2.2 _ h2
    have := ih (by omega)
    omega
/-- only the frame on top has changed, and values of its own -/
theorem WTc_o (h : WTc As I s) (e0 : zD s' = zD s) (e1 : zw s' = zw s) (e3 : ∀ d, d < zD s → zP s' d = zP s d) (e4 : zB s' = zB s) (e6 : ∀ i, i < 10 * zD s → zL s' i = zL s i) (e7 : ∀ i, i < zB s (zD s) → zV s' i = zV s i) (eF : zF s' ≤ 3000) (eG : GTy As s') : WTc As I s' := by
  refine ⟨by rw [e0]; exact h.1, eF, by rw [e4]; exact h.2.2.1, eG, fun d hd => ?_⟩
  rw [e0] at hd
  have hb := WT_B h (d := d + 1) (d' := zD s) (by omega) (Nat.le_refl _)
  exact LFr_o (h.2.2.2.2 d hd) (by rw [e1]) (by rw [e1]) (e3 d hd) (by rw [e4]) (by rw [e4]) (fun j hj => e6 _ (by omega)) (fun i hi => e7 i (by omega))
/-- how high it is -/
theorem WT_T (hL : LOf As I) (h : WTc As I s) : ∀ d, d ≤ zD s → zB s d ≤ 96 * d := by
  intro d
  induction d with
  | zero => intro _; rw [h.2.2.1]; omega
  | succ d ih =>
    intro hd
    obtain ⟨a, LT, r0, x, r2, h1, _, _, h4, _, _, _, h8, _⟩ := h.2.2.2.2 d (by omega)
    have h96 := FS_96 hL h1 h4
    have hl : (pT I a LT r0).length = hrn r0 0 := by unfold pT; rw [List.length_map]; exact (FS_at hL h1 h4).2.2.1
    have := ih (by omega)
    rw [List.length_drop] at h8
    omega
theorem TFr_T (hL : LOf As I) (h : WTc As I s) (ht : TFr As I s a LT r1 r2) : zT s ≤ 2016 ∧ (pT I a LT r1).length = hrn r1 0 := by
  have h1 := WT_T hL h _ (Nat.le_refl _)
  have h96 := FS_96 hL ht.1 ht.2.2.2.1
  have hl : (pT I a LT r1).length = hrn r1 0 := by unfold pT; rw [List.length_map]; exact (FS_at hL ht.1 ht.2.2.2.1).2.2.1
  have h6 := ht.2.2.2.2.2.1
  have := h.1
  exact ⟨by omega, hl⟩
/-- the types of the pile at the next place -/
theorem pT_s : qS I a LT (r1 ++ [x]) = tr2 I (riT a) x (qS I a LT r1) := trs2_a
theorem FS_next {k : Nat} (hL : LOf As I) (h : FS As I k a LT) (hr : riR a = r1 ++ x :: r2) : ∃ LT1 P, qS I a LT r1 = (LT1, P, none) ∧ pT I a LT r1 = P.map Prod.fst ∧ (∀ y ∈ P, tyk y.1) ∧ P.length = hrn r1 0 ∧ hnd x ≤ P.length ∧ (tr2 I (riT a) x (LT1, P, none)).2.2 = none ∧ pT I a LT (r1 ++ [x]) = (tr2 I (riT a) x (LT1, P, none)).2.1.map Prod.fst ∧ (∀ j, j < lvs r1 (riQ a).length → (qS I a LT (riR a)).1 j = LT1 j) ∧ stO (riF a) (lvs r1 (riQ a).length) (hrn r1 0) x ∧ rwV x ∧ lvs r1 (riQ a).length ≤ 10 := by
  obtain ⟨n1, ts, hl, hs, ho, hk, h10⟩ := FS_at hL h hr
  have n2 := (FS_at (r1 := r1 ++ [x]) (r2 := r2) hL h (by rw [hr]; simp)).1
  rw [pT_s] at n2
  have e : pT I a LT (r1 ++ [x]) = (tr2 I (riT a) x (qS I a LT r1)).2.1.map Prod.fst := by unfold pT; rw [pT_s]
  have hV := h.1.2.2.1 x (by rw [hr]; simp)
  unfold pT at e ⊢
  generalize qS I a LT r1 = S at *
  obtain ⟨LT1, P, mf⟩ := S
  dsimp only at n1 hl hs
  subst n1
  exact ⟨LT1, P, rfl, rfl, ts.2, hl, by rw [hl]; exact ho.1, n2, e, hs, hk.1, hV, h10⟩
theorem vT_c {s : Ms} {top : Nat} {y : Int32} {P : List Int32} (h : vT s (top + 1) (y :: P)) : mat y (zV s top) ∧ vT s top P := by
  refine ⟨h 0 y rfl, fun i z hi => ?_⟩
  have := h (i + 1) z hi
  rw [show top + 1 - 1 - (i + 1) = top - 1 - i by omega] at this
  exact this
theorem vT_p {top : Nat} {P : List Int32} {v y : Int32} (h : vT s top P) (hl : P.length ≤ top) (hv : mat y v) (e : ∀ i, i < top → zV s' i = zV s i) (e2 : zV s' top = v) : vT s' (top + 1) (y :: P) := fun i z hi => by
  cases i with
  | zero =>
    simp only [List.getElem?_cons_zero, Option.some.injEq] at hi
    rw [← hi, show top + 1 - 1 - 0 = top by omega, e2]
    exact hv
  | succ i =>
    simp only [List.getElem?_cons_succ] at hi
    have := (List.getElem?_eq_some_iff.mp hi).1
    rw [show top + 1 - 1 - (i + 1) = top - 1 - i by omega, e _ (by omega)]
    exact h i z hi
theorem vT_o {top : Nat} {P : List Int32} (h : vT s top P) (hl : P.length ≤ top) (e : ∀ i, i < top → zV s' i = zV s i) : vT s' top P := fun i z hi => by
  have := (List.getElem?_eq_some_iff.mp hi).1
  rw [e _ (by omega)]
  exact h i z hi
theorem vT_d {top c : Nat} {P : List Int32} (h : vT s top P) : vT s (top - c) (P.drop c) := fun i z hi => by
  rw [List.getElem?_drop] at hi
  have := h _ z hi
  rw [show top - 1 - (c + i) = top - c - 1 - i by omega] at this
  exact this
theorem mat0 {v : Int32} : mat 0 v := fun h => absurd h (by decide)
theorem mat_ty {t v : Int32} (ht : tyk t) (h : t = 1 → v = 0 ∨ v = 1) : mat t v := h
/-- the place behind a step -/
theorem ne_b {k : Nat} (h : FS As I k a LT) (hr : riR a = r1 ++ x :: r2) (hx : x.1 ≠ 11 ∧ x.1 ≠ 12 ∧ x.1 ≠ 13) : r2 ≠ [] := fun hh => by
  subst hh
  have := FS_last h hr
  omega
/-- the frame on top goes on to the next step -/
theorem TFr_n (hL : LOf As I) (hc : WTc As I s) (ht : TFr As I s a LT r1 (x :: r2)) {P' : List Int32} (hP : pT I a LT (r1 ++ [x]) = P') (e0 : zD s' = zD s) (e1 : zw s' = zw s) (e3 : zP s' (zD s) = lens r1 + ln1 x.1) (e4 : zB s' = zB s) (e5 : zT s' = zB s (zD s) + P'.length) (e6 : lcT I a LT s' (zD s)) (e7 : vT s' (zT s') P') : TFr As I s' a LT (r1 ++ [x]) r2 := by
  obtain ⟨h1, h2, h3, h4, h5, h6, h7⟩ := ht
  refine ⟨by rw [e1, e0]; exact h1, by rw [e0]; exact h2, by rw [e0]; exact e6, by rw [h4]; simp, ?_, by rw [hP, e4, e0]; exact e5, by rw [hP]; exact e7⟩
  rw [e0, e3, lens_a]
  rfl
theorem WE_of (hL : LOf As I) (hc : WTc As I s) (ht : TFr As I s a LT r1 r2) : WE As I s := by
  refine ⟨hc.1, hc.2.1, (TFr_T hL hc ht).1, by have := ht.2.2.2.2.2.1; omega, fun d hd => ?_⟩
  by_cases h : d = zD s
  · subst h
    refine ⟨a, ht.1.1, ?_, ht.2.1⟩
    rw [ht.2.2.2.2.1, ht.2.2.2.1, lens_a]
    omega
  · obtain ⟨a', LT', r0, x, r2', g1, g2, _, g4, _, g6, _⟩ := hc.2.2.2.2 d (by omega)
    refine ⟨a', g1.1, ?_, g2⟩
    rw [g6, g4, show r0 ++ x :: r2' = (r0 ++ [x]) ++ r2' by simp, lens_a (r := r0 ++ [x])]
    omega
/-- it ends: frames as they are, values perhaps fewer -/
theorem WE_e (hL : LOf As I) (hc : WTc As I s) (ht : TFr As I s a LT r1 (x :: r2)) (e0 : zD s' = zD s) (e1 : zw s' = zw s) (e3 : zP s' = upN (zP s) (zD s) (lens r1 + ln1 x.1)) (e4 : zB s' = zB s) (e5 : zT s' ≤ zT s) (e6 : zB s (zD s) ≤ zT s') (eF : zF s' ≤ 3000) : WE As I s' := by
  obtain ⟨w1, w2, w3, w4, w5⟩ := WE_of hL hc ht
  refine ⟨by rw [e0]; exact w1, eF, by omega, by rw [e0, e4]; exact e6, fun d hd => ?_⟩
  rw [e0] at hd
  obtain ⟨a', g1, g2, g3⟩ := w5 d hd
  rw [e1, e3]
  by_cases h : d = zD s
  · subst h
    refine ⟨a, ht.1.1, ?_, ht.2.1⟩
    rw [upN_s, ht.2.2.2.1, lens_a]
    show _ ≤ lens r1 + (ln1 x.1 + lens r2)
    omega
  · exact ⟨a', g1, by rw [upN_o h]; exact g2, g3⟩
/-- it goes on in the same frame -/
theorem WZ_go (hL : LOf As I) (hc : WTc As I s) (ht : TFr As I s a LT r1 (x :: r2)) (hx : x.1 ≠ 11 ∧ x.1 ≠ 12 ∧ x.1 ≠ 13) {P' : List Int32} (hP : pT I a LT (r1 ++ [x]) = P') (e0 : zD s' = zD s) (e1 : zw s' = zw s) (e3 : zP s' = upN (zP s) (zD s) (lens r1 + ln1 x.1)) (e4 : zB s' = zB s) (e5 : zT s' = zB s (zD s) + P'.length) (e6 : lcT I a LT s' (zD s)) (e7 : vT s' (zT s') P') (e8 : ∀ i, i < 10 * zD s → zL s' i = zL s i) (e9 : ∀ i, i < zB s (zD s) → zV s' i = zV s i) (eF : zF s' ≤ 3000) (eG : GTy As s') : WZ As I s' := by
  have hc' : WTc As I s' := WTc_o hc e0 e1 (fun d hd => by rw [e3, upN_o (by omega)]) e4 e8 e9 eF eG
  have ht' : TFr As I s' a LT (r1 ++ [x]) r2 := TFr_n hL hc ht hP e0 e1 (by rw [e3, upN_s]) e4 e5 e6 e7
  exact ⟨WE_of hL hc' ht', fun _ => ⟨hc', a, LT, _, _, ht', ne_b ht.1 ht.2.2.2.1 hx⟩⟩
end MSO
