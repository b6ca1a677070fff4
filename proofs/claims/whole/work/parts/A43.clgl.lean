
/-! ===== the class reads items: globals, arrays ===== -/
/-- what a load takes -/
def lF (rv c k : Nat) : Prop := (c = 33 ∧ (k = 6 ∨ 8 ≤ k)) ∨ (c = 39 ∧ 1 ≤ k) ∨ (40 ≤ c ∧ c ≤ 42) ∨ (rv ≤ c ∧ c < rv + 130 ∧ c ≠ rv + 2)
theorem lF_x {rv cu c k : Nat} (hrv : rv = 108 ∨ rv = 238 ∨ rv = 368) (hcu : cu < 42) (h : xF rv cu c k) : lF rv c k := by unfold xF at h; unfold lF; omega
theorem lF_y {rv cu c k : Nat} (hrv : rv = 108 ∨ rv = 238 ∨ rv = 368) (hcu : cu < 42) (h : yF rv cu c k) : lF rv c k := by unfold yF xF at h; unfold lF; omega
/-- a fault is found there -/
def fL (κ : my_K) (Q : my_O → my_K → my_S → Prop) (t : Nat → Int32) (n rv : Nat) (σ : my_S) (q : Nat) : Prop := ∀ σ', clT t n q σ' → eqp (lF rv) σ σ' → thr κ Q σ'
theorem fL_mo {κ : my_K} {Q : my_O → my_K → my_S → Prop} {t : Nat → Int32} {n rv : Nat} {σ σ1 : my_S} {q : Nat} (h : fL κ Q t n rv σ q) (he : eqp (lF rv) σ σ1) : fL κ Q t n rv σ1 q := fun σ' g f => h σ' g (eqp_tr he f)
/-- what an item takes beside -/
def wF (rv cu c k : Nat) : Prop := xF rv cu c k ∨ (c = rv + 4 + 3 * cu ∧ 7 ≤ k ∧ k ≤ 13)
theorem wF_x {rv cu c k : Nat} (h : xF rv cu c k) : wF rv cu c k := Or.inl h
theorem lF_w {rv cu c k : Nat} (hrv : rv = 108 ∨ rv = 238 ∨ rv = 368) (hcu : cu < 42) (h : wF rv cu c k) : lF rv c k := by unfold wF xF at h; unfold lF; omega
/-- another type -/
def setT (I : List It) (cu : Nat) (ty : Int32) : List It := I.set cu ((itA I cu).1, (itA I cu).2.1, (itA I cu).2.2.1, ty, (itA I cu).2.2.2.2)
theorem itA_set {I : List It} {cu k : Nat} {it : It} (h : cu < I.length) : itA (I.set cu it) k = if k = cu then it else itA I k := by
  unfold itA
  by_cases hk : k = cu
  · subst hk
    rw [if_pos rfl, List.getElem?_set_self h]
    rfl
  · rw [if_neg hk, List.getElem?_set_ne (fun hh => hk hh.symm)]
theorem CIm_set {F : Nat → Nat → Prop} {I : List It} {rv cu : Nat} {it : It} {σ σ' : my_S} (h : CIm I rv σ) (he : eqp F σ σ') (hF : ∀ c k, F c k → (c = rv → k ≠ 3) ∧ c ≠ rv + 2 ∧ ∀ j, j < 42 → j ≠ cu → (c = rv + 4 + 3 * j → k ≠ 0 ∧ k ≠ 1 ∧ k ≠ 4 ∧ k ≠ 5 ∧ k ≠ 7) ∧ c ≠ rv + 4 + 3 * j + 1) (hit : isN it.1 ∧ σ'.2.1 (rv + 4 + 3 * cu) 4 = nmC it.1 ∧ σ'.1 (rv + 4 + 3 * cu) 0 = it.2.1 ∧ σ'.1 (rv + 4 + 3 * cu) 1 = it.2.2.1 ∧ σ'.1 (rv + 4 + 3 * cu) 7 = it.2.2.2.1 ∧ σ'.1 (rv + 4 + 3 * cu) 5 = it.2.2.2.2.1 ∧ ∀ j, j < 4 → σ'.1 (rv + 4 + 3 * cu + 1) j = it.2.2.2.2.2 j) : CIm (I.set cu it) rv σ' := by
  obtain ⟨h1, h2, h3, h4⟩ := h
  refine ⟨by rw [List.length_set]; exact (eqp_g he (fun hh => (hF _ _ hh).1 rfl rfl)).trans h1, by rw [List.length_set]; exact h2, fun k hk => ((he _ _ (fun hh => (hF _ _ hh).2.1 rfl)).2.2).trans (h3 k hk), fun k x hk => ?_⟩
  have hkl : k < I.length := by have := (List.getElem?_eq_some_iff.mp hk).1; rwa [List.length_set] at this
  by_cases hkc : k = cu
  · subst hkc
    rw [List.getElem?_set_self hkl] at hk
    cases hk
    exact hit
  · rw [List.getElem?_set_ne (fun hh => hkc hh.symm)] at hk
    have hk42 : k < 42 := by omega
    obtain ⟨a1, a2, a3, a4, a5, a6, a7⟩ := h4 k x hk
    have g : ∀ {j}, j = 0 ∨ j = 1 ∨ j = 4 ∨ j = 5 ∨ j = 7 → ¬ F (rv + 4 + 3 * k) j := fun hj hh => by have := ((hF _ _ hh).2.2 k hk42 hkc).1 rfl; omega
    exact ⟨a1, ((he _ _ (g (by omega))).2.1).trans a2, (eqp_g he (g (by omega))).trans a3, (eqp_g he (g (by omega))).trans a4, (eqp_g he (g (by omega))).trans a5, (eqp_g he (g (by omega))).trans a6, fun j hj => (eqp_g he (fun hh => ((hF _ _ hh).2.2 k hk42 hkc).2 rfl)).trans (a7 j hj)⟩
theorem CIm_it {I : List It} {rv k : Nat} {σ : my_S} (h : CIm I rv σ) (hk : k < I.length) : k < 42 ∧ isN (itA I k).1 ∧ σ.2.1 (rv + 4 + 3 * k) 4 = nmC (itA I k).1 ∧ σ.1 (rv + 4 + 3 * k) 0 = (itA I k).2.1 ∧ σ.1 (rv + 4 + 3 * k) 1 = (itA I k).2.2.1 ∧ σ.1 (rv + 4 + 3 * k) 7 = (itA I k).2.2.2.1 ∧ σ.1 (rv + 4 + 3 * k) 5 = (itA I k).2.2.2.2.1 ∧ ∀ j, j < 4 → σ.1 (rv + 4 + 3 * k + 1) j = (itA I k).2.2.2.2.2 j :=
  ⟨Nat.lt_of_lt_of_le hk h.2.1, h.2.2.2 k _ (itA_e hk)⟩
section MCG
variable {e : my_E} {d : Nat} {κ : my_K} {σ : my_S} {Q : my_O → my_K → my_S → Prop} {t : Nat → Int32} {n p o : Nat} {I : List It} {w : Bool} {rv cu : Nat} {S : St}
theorem C0_rv (h : CR0 t n I w rv cu S p o σ) : rv = 108 ∨ rv = 238 ∨ rv = 368 := h.2.2.1.2.2.1.2.1
theorem C0_1 (h : CR0 t n I w rv cu S p o σ) : σ.2.2 39 1 = some rv := h.2.2.1.2.2.1.1
theorem C0_2 (h : CR0 t n I w rv cu S p o σ) : σ.2.2 39 2 = some (rv + 4 + 3 * cu) := h.2.2.1.2.2.1.2.2.1
theorem C0_c (h : CR0 t n I w rv cu S p o σ) : cu < 42 := h.2.2.1.2.2.1.2.2.2
theorem C0_10 (h : CR0 t n I w rv cu S p o σ) : my_in 10 rv := in10 (C0_rv h)
theorem C0_11 (h : CR0 t n I w rv cu S p o σ) : my_in 11 (rv + 4 + 3 * cu) := in11 (C0_rv h) (C0_c h)
theorem C0_sz (h : CR0 t n I w rv cu S p o σ) : σ.1 rv 1 = Int32.ofNat S.2.2.1.length := h.2.2.2.2.2.1.1
theorem C0_im (h : CR0 t n I w rv cu S p o σ) : CIm I rv σ := h.2.2.1.2.2.2
/-- a field of the item that nothing rests on -/
theorem C0_w {k : Nat} {x : Int32} (h : CR0 t n I w rv cu S p o σ) (hk : 8 ≤ k ∧ k ≤ 13) : CR0 t n I w rv cu S p o (my_uI σ (rv + 4 + 3 * cu) k x) ∧ eqp (fun c j => c = rv + 4 + 3 * cu ∧ j = k) σ (my_uI σ (rv + 4 + 3 * cu) k x) := by
  have he : eqp (fun c j => c = rv + 4 + 3 * cu ∧ j = k) σ (my_uI σ (rv + 4 + 3 * cu) k x) := eqp_I eqp_rf ⟨rfl, rfl⟩
  have hrv := C0_rv h
  have hcu := C0_c h
  obtain ⟨h1, h2, ⟨a1, a2, ⟨a3, a4, a5, a6⟩, a7⟩, h4⟩ := h
  exact ⟨⟨clT_o h1 he (fun c k hh => by omega), (eqp_g he (by omega)).trans h2, ⟨(eqp_g he (by omega)).trans a1, a2, ⟨((he _ _ (by omega)).2.2).trans a3, a4, ((he _ _ (by omega)).2.2).trans a5, a6⟩, CIm_o a7 he (fun c k hh => ⟨by omega, by omega, fun j hj => ⟨by omega, by omega⟩⟩)⟩, CD_o h4 he (fun c k hh => by unfold dF; omega)⟩, he⟩
theorem C0_ty {ty : Int32} (h : CR0 t n I w rv cu S p o σ) (hcu : cu < I.length) : CR0 t n (setT I cu ty) w rv cu S p o (my_uI σ (rv + 4 + 3 * cu) 7 ty) ∧ eqp (fun c j => c = rv + 4 + 3 * cu ∧ j = 7) σ (my_uI σ (rv + 4 + 3 * cu) 7 ty) := by
  have he : eqp (fun c j => c = rv + 4 + 3 * cu ∧ j = 7) σ (my_uI σ (rv + 4 + 3 * cu) 7 ty) := eqp_I eqp_rf ⟨rfl, rfl⟩
  have hrv := C0_rv h
  have hc42 := C0_c h
  obtain ⟨h1, h2, ⟨a1, a2, ⟨a3, a4, a5, a6⟩, a7⟩, h4⟩ := h
  obtain ⟨_, b1, b2, b3, b4, b5, b6, b7⟩ := CIm_it a7 hcu
  exact ⟨⟨clT_o h1 he (fun c k hh => by omega), (eqp_g he (by omega)).trans h2, ⟨(eqp_g he (by omega)).trans a1, a2, ⟨((he _ _ (by omega)).2.2).trans a3, a4, ((he _ _ (by omega)).2.2).trans a5, a6⟩, CIm_set a7 he (fun c k hh => ⟨by omega, by omega, fun j hj hjc => ⟨by omega, by omega⟩⟩) ⟨b1, ((he _ _ (by omega)).2.1).trans b2, (eqp_g he (by omega)).trans b3, (eqp_g he (by omega)).trans b4, uI_s, (eqp_g he (by omega)).trans b6, fun j hj => (eqp_g he (by omega)).trans (b7 j hj)⟩⟩, CD_o h4 he (fun c k hh => by unfold dF; omega)⟩, he⟩
theorem z_63 (ht : txt t n) (h : CR0 t n I w rv cu S p o σ) (hd : 7 ≤ d) (hκ : 1 ≤ κ.2.1 ∧ 6 ≤ κ.2.2) (hy : ∀ a σ', tyq t n p = some a → CR0 t n I w rv cu S (nx t n p) o σ' → eqp (xF rv cu) σ σ' → Q (.inl (some (.inl a))) κ σ') (hn : tyq t n p = none → thr κ Q σ) : my_M e d 63 [.inr (.inr (some 39))] κ σ Q := by
  obtain ⟨d, rfl⟩ := dS 1 (show 1 ≤ d by omega)
  have T5 := tcl ht h.1 305 (y := 305) (by omega) rfl
  have T6 := tcl ht h.1 306 (y := 306) (by omega) rfl
  have fin : ∀ v a, tyq t n p = some a → (v = 305 ↔ a = 0) → (a = 0 ∨ a = 1) → ys_63_28 e d v 1 κ σ Q := fun v a ha hv h01 => by
    unfold ys_63_28
    refine x_60 (by omega) hκ (fun _ => ?_) (fun h0 => absurd h0 (by decide))
    rw [my_k0_v]
    refine z_55 h (by omega) (fun σ' g f => ?_)
    rw [my_k0_v]
    unfold ys_63_50
    refine my_if (fun hh => ?_) (fun hh => ?_)
    · have := hv.mp hh
      subst this
      exact hy _ σ' ha g f
    · rcases h01 with h0 | h0
      · exact absurd (hv.mpr h0) hh
      · subst h0
        exact hy _ σ' ha g f
  refine ys_63 ?_
  unfold ys_63_0
  refine my_if (fun h5 => ?_) (fun h5 => my_if (fun h6 => ?_) (fun h6 => ?_))
  · unfold ys_63_23
    exact fin _ 0 (by unfold tyq; rw [if_pos (T5.mp h5)]) ⟨fun _ => rfl, fun _ => h5⟩ (Or.inl rfl)
  · unfold ys_63_23
    exact fin _ 1 (by unfold tyq; rw [if_neg (fun hh => h5 (T5.mpr hh)), if_pos (T6.mp h6)]) ⟨fun hh => absurd hh h5, fun hh => absurd hh (by decide)⟩ (Or.inr rfl)
  · unfold ys_63_28
    exact x_60 (by omega) hκ (fun h0 => absurd rfl h0) (fun _ => hn (by unfold tyq; rw [if_neg (fun hh => h5 (T5.mpr hh)), if_neg (fun hh => h6 (T6.mpr hh))]))
/-- the first byte -/
def bF (rv cu c k : Nat) : Prop := xF rv cu c k ∨ (c = rv + 4 + 3 * cu ∧ k = 10)
theorem z_66 (h : CR0 t n I w rv cu S p o σ) (hcu : cu < I.length) (hd : 3 ≤ d) (hQ : ∀ σ', CR0 t n I w rv cu (wr w (itA I cu).2.1 1 S) p o σ' → σ'.1 (rv + 4 + 3 * cu) 10 = Int32.ofNat S.2.2.1.length → eqp (bF rv cu) σ σ' → Q (.inl none) κ σ') : my_M e d 66 [.inr (.inr (some 39))] κ σ Q := by
  obtain ⟨d, rfl⟩ := dS 1 (show 1 ≤ d by omega)
  have hrv := C0_rv h
  have hc42 := C0_c h
  refine ys_66 ?_
  unfold ys_66_0
  refine ⟨rv, C0_1 h, C0_10 h, _, C0_2 h, C0_11 h, _, C0_2 h, C0_11 h, ?_⟩
  obtain ⟨g1, f1⟩ := C0_w (k := 10) (x := σ.1 rv 1) h (by omega)
  have e0 : (my_uI σ (rv + 4 + 3 * cu) 10 (σ.1 rv 1)).1 (rv + 4 + 3 * cu) 0 = (itA I cu).2.1 := (CIm_it (C0_im g1) hcu).2.2.2.1
  rw [e0]
  refine z_67 (k := 1) g1 (by omega) (by omega) rfl (fun σ2 g2 f2 => ?_)
  rw [my_k0_v]
  refine hQ σ2 g2 ?_ (eqp_tr (eqp_mo f1 (fun _ _ => Or.inr)) (eqp_mo f2 (fun _ _ => Or.inl)))
  rw [eqp_g f2 (by unfold xF; omega), uI_s]
  exact C0_sz h
theorem wf_22 {a b : Int32} {pl : Nat} : (wf w a b pl S).2.2 = S.2.2 := by
  unfold wf wm
  repeat' split
  all_goals rfl
/-- what a global makes -/
def gSt (w : Bool) (fm : Int32) (a : Ri) (S : St) : St := wr w (riV a) 4 (wr w (riT a) 1 (wr w fm 1 (wf w (riC a) (riT a) (riP a) S)))
/-- what is told of an item in the end: the value at first, where its bytes begin, how many -/
def cit3 (rv cu : Nat) (v : Int32) (S S' : St) (σ : my_S) : Prop := σ.1 (rv + 4 + 3 * cu) 8 = v ∧ σ.1 (rv + 4 + 3 * cu) 10 = Int32.ofNat S.2.2.1.length ∧ σ.1 (rv + 4 + 3 * cu) 11 = Int32.ofNat S'.2.2.1.length - Int32.ofNat S.2.2.1.length
/-- .. its end -/
theorem y_61e {nm : List Nat} {P cp : Nat} {v ct ty isI : Int32} (ht : txt t n) (hκ : 1 ≤ κ.2.1 ∧ 6 ≤ κ.2.2) (hd : 8 ≤ d) (h : CR0 t n I w rv cu S P 0 σ) (hcu : cu < I.length) (hty : (itA I cu).2.2.2.1 = ty) (hct : (isI = 0 ∧ ct = 1) ∨ (isI = 1 ∧ ct = 0)) (hf : ∀ q, pg4 t n nm ty v ct cp (nx t n P) = .inl q → fL κ Q t n rv σ q)
    (hQ : ∀ a q σ', pg4 t n nm ty v ct cp (nx t n P) = .inr (a, q) → CR0 t n I w rv cu (gSt w (itA I cu).2.1 a S) q 0 σ' → cit3 rv cu (riV a) S (gSt w (itA I cu).2.1 a S) σ' → eqp (wF rv cu) σ σ' → Q (.inl none) κ σ') : ys_61_170 e d (Int32.ofNat cp) isI v (some (rv + 4 + 3 * cu)) κ σ Q := by
  have hrv := C0_rv h
  have hc42 := C0_c h
  unfold ys_61_170
  refine ⟨_, rfl, C0_11 h, ?_⟩
  obtain ⟨g1, f1⟩ := C0_w (k := 8) (x := v) h (by omega)
  have f1w : eqp (wF rv cu) σ (my_uI σ (rv + 4 + 3 * cu) 8 v) := eqp_mo f1 (fun c k hh => by unfold wF xF; omega)
  refine z_55 g1 (by omega) (fun σ2 g2 f2 => ?_)
  rw [my_k0_v]
  have f12 := eqp_tr f1w (eqp_mo f2 (fun _ _ => wF_x))
  unfold pg4 at hf hQ
  refine z_62 (k := 59) ht g2 (by omega) hκ (by omega) rfl (fun h59 σ3 g3 f3 => ?_) (fun h59 => ?_)
  · rw [my_k0_v]
    rw [if_pos h59] at hQ
    have f13 := eqp_tr f12 (eqp_mo f3 (fun _ _ => wF_x))
    have e8 : σ3.1 (rv + 4 + 3 * cu) 8 = v := (eqp_g (eqp_tr f2 f3) (by unfold xF; omega)).trans uI_s
    have fin : ys_61_196 e d (Int32.ofNat cp) ct κ σ3 Q := by
      unfold ys_61_196
      refine ⟨_, C0_2 g3, C0_11 g3, ?_⟩
      rw [(CIm_it (C0_im g3) hcu).2.2.2.2.2.1, hty]
      refine z_64 (pl := cp) g3 (by omega) rfl (fun σ4 g4 f4 => ?_)
      rw [my_k0_v]
      refine z_66 g4 hcu (by omega) (fun σ5 g5 e10 f5 => ?_)
      rw [my_k0_v]
      refine ⟨_, C0_2 g5, C0_11 g5, ?_⟩
      rw [(CIm_it (C0_im g5) hcu).2.2.2.2.2.1, hty]
      refine z_67 (k := 1) g5 (by omega) (by omega) rfl (fun σ6 g6 f6 => ?_)
      rw [my_k0_v]
      refine ⟨_, C0_2 g6, C0_11 g6, ?_⟩
      have fb : eqp (bF rv cu) σ3 σ6 := eqp_tr (eqp_tr (eqp_mo f4 (fun _ _ => Or.inl)) f5) (eqp_mo f6 (fun _ _ => Or.inl))
      have e8' : σ6.1 (rv + 4 + 3 * cu) 8 = v := (eqp_g fb (by unfold bF xF; omega)).trans e8
      rw [e8']
      refine z_67 (k := 4) g6 (by omega) (by omega) rfl (fun σ7 g7 f7 => ?_)
      rw [my_k0_v]
      have e10' : σ7.1 (rv + 4 + 3 * cu) 10 = Int32.ofNat S.2.2.1.length := by
        rw [eqp_g (eqp_tr f6 f7) (by unfold xF; omega), e10, wf_22]
      have e8'' : σ7.1 (rv + 4 + 3 * cu) 8 = v := (eqp_g f7 (by unfold xF; omega)).trans e8'
      refine ⟨_, C0_1 g7, C0_10 g7, _, C0_2 g7, C0_11 g7, _, C0_2 g7, C0_11 g7, ?_⟩
      rw [C0_sz g7, e10']
      obtain ⟨g8, f8⟩ := C0_w (k := 11) (x := Int32.ofNat (wr w v 4 (wr w ty 1 (wr w (itA I cu).2.1 1 (wf w ct ty cp S)))).2.2.1.length - Int32.ofNat S.2.2.1.length) g7 (by omega)
      refine hQ _ _ _ rfl g8 ⟨?_, ?_, uI_s⟩ (eqp_tr (eqp_tr (eqp_tr f13 (eqp_mo fb (fun c k hh => by unfold bF xF at hh; unfold wF xF; omega))) (eqp_mo f7 (fun _ _ => wF_x))) (eqp_mo f8 (fun c k hh => by unfold wF xF; omega)))
      · rw [my_uI_1, if_neg (by omega)]; exact e8''
      · rw [my_uI_1, if_neg (by omega)]; exact e10'
    rcases hct with ⟨h0, h1⟩ | ⟨h0, h1⟩
    · rw [h0, if_pos rfl]; rw [h1] at fin; exact fin
    · rw [h0, if_neg (by decide)]; rw [h1] at fin; exact fin
  · rw [if_neg h59] at hf
    exact hf (nx t n P) rfl σ2 g2.1 (eqp_mo f12 (fun c k hh => lF_w hrv hc42 hh))
/-- .. from its number or word on -/
theorem y_61g {nm : List Nat} {P cp : Nat} {ty m : Int32} (ht : txt t n) (hκ : 1 ≤ κ.2.1 ∧ 6 ≤ κ.2.2) (hd : 8 ≤ d) (h : CR0 t n I w rv cu S P 0 σ) (hcu : cu < I.length) (hty : (itA I cu).2.2.2.1 = ty) (hm : m = 0 ∨ m = 1) (x : Rj)
    (hx : x = if tkk t n P = 3 then pg4 t n nm ty (if m = 0 then tkv t n P else -(tkv t n P)) 0 cp (nx t n P) else if m = 0 ∧ tkk t n P = 315 then pg4 t n nm ty 1 1 cp (nx t n P) else if m = 0 ∧ tkk t n P = 316 then pg4 t n nm ty 0 1 cp (nx t n P) else .inl P)
    (hf : ∀ q, x = .inl q → fL κ Q t n rv σ q)
    (hQ : ∀ a q σ', x = .inr (a, q) → CR0 t n I w rv cu (gSt w (itA I cu).2.1 a S) q 0 σ' → cit3 rv cu (riV a) S (gSt w (itA I cu).2.1 a S) σ' → eqp (wF rv cu) σ σ' → Q (.inl none) κ σ') : ys_61_60 e d (Int32.ofNat cp) m κ σ Q := by
  have hrv := C0_rv h
  have hc42 := C0_c h
  have T3 := tcl ht h.1 3 (y := 3) (by omega) rfl
  have T5 := tcl ht h.1 315 (y := 315) (by omega) rfl
  have T6 := tcl ht h.1 316 (y := 316) (by omega) rfl
  unfold ys_61_60
  have bad : ∀ i : Int32, ¬ tkk t n P = 3 → ¬ (m = 0 ∧ tkk t n P = 315) → ¬ (m = 0 ∧ tkk t n P = 316) → ys_61_116 e d (Int32.ofNat cp) m i κ σ Q := fun i h3 h5 h6 => by
    rw [if_neg h3, if_neg h5, if_neg h6] at hx
    unfold ys_61_116 ys_61_117
    exact x_60 (by omega) hκ (fun h0 => absurd rfl h0) (fun _ => hf P hx σ h.1 eqp_rf)
  refine my_if (fun h3 => ?_) (fun h3 => ?_)
  · rw [if_pos (T3.mp h3)] at hx
    unfold ys_61_76
    rw [if_neg (by decide)]
    unfold ys_61_112 ys_61_117
    refine x_60 (by omega) hκ (fun _ => ?_) (fun h0 => absurd h0 (by decide))
    rw [my_k0_v, if_neg (by decide), clT_nu ht h.1 (T3.mp h3)]
    unfold ys_61_152
    rw [C0_2 h]
    rw [hx] at hf hQ
    refine my_if (fun h0 => ?_) (fun h0 => ?_)
    · rw [if_pos h0] at hf hQ
      exact y_61e ht hκ hd h hcu hty (Or.inr ⟨rfl, rfl⟩) hf hQ
    · rw [if_neg h0] at hf hQ
      exact y_61e ht hκ hd h hcu hty (Or.inr ⟨rfl, rfl⟩) hf hQ
  · have h3 : ¬ tkk t n P = 3 := fun hh => h3 (T3.mpr hh)
    unfold ys_61_76
    rw [if_pos rfl]
    refine my_if (fun h0 => ?_) (fun h0 => bad 0 h3 (fun hh => h0 hh.1) (fun hh => h0 hh.1))
    have word : ∀ v : Int32, (v = if tkk t n P = 315 then 1 else 0) → x = pg4 t n nm ty v 1 cp (nx t n P) → ys_61_152 e d (Int32.ofNat cp) m 0 v κ σ Q := fun v hv hxv => by
      unfold ys_61_152
      rw [C0_2 h, if_pos h0]
      rw [hxv] at hf hQ
      exact y_61e ht hκ hd h hcu hty (Or.inl ⟨rfl, rfl⟩) hf hQ
    refine my_if (fun h5 => ?_) (fun h5 => my_if (fun h6 => ?_) (fun h6 => bad 0 h3 (fun hh => h5 (T5.mpr hh.2)) (fun hh => h6 (T6.mpr hh.2))))
    · unfold ys_61_112 ys_61_117
      refine x_60 (by omega) hκ (fun _ => ?_) (fun h0 => absurd h0 (by decide))
      rw [my_k0_v, if_pos rfl, if_pos h5]
      exact word 1 (by rw [if_pos (T5.mp h5)]) (by rw [hx, if_neg h3, if_pos ⟨h0, T5.mp h5⟩])
    · unfold ys_61_112 ys_61_117
      refine x_60 (by omega) hκ (fun _ => ?_) (fun h0 => absurd h0 (by decide))
      rw [my_k0_v, if_pos rfl, if_neg h5]
      have n5 : ¬ tkk t n P = 315 := fun hh => h5 (T5.mpr hh)
      exact word 0 (by rw [if_neg n5]) (by rw [hx, if_neg h3, if_neg (fun hh => n5 hh.2), if_pos ⟨h0, T6.mp h6⟩])
theorem setT_ty {ty : Int32} (hcu : cu < I.length) : (itA (setT I cu ty) cu).2.2.2.1 = ty ∧ (itA (setT I cu ty) cu).2.1 = (itA I cu).2.1 ∧ cu < (setT I cu ty).length := by
  unfold setT
  rw [itA_set hcu, if_pos rfl, List.length_set]
  exact ⟨rfl, rfl, hcu⟩
/-- a global -/
theorem y_61 {nm : List Nat} (ht : txt t n) (hκ : 1 ≤ κ.2.1 ∧ 6 ≤ κ.2.2) (hd : 9 ≤ d) (h : CR0 t n I w rv cu S p 0 σ) (hcu : cu < I.length) (hf : ∀ q, pgl t n nm p = .inl q → fL κ Q t n rv σ q)
    (hQ : ∀ a q σ', pgl t n nm p = .inr (a, q) → CR0 t n (setT I cu (riT a)) w rv cu (gSt w (itA I cu).2.1 a S) q 0 σ' → cit3 rv cu (riV a) S (gSt w (itA I cu).2.1 a S) σ' → eqp (wF rv cu) σ σ' → Q (.inl none) κ σ') : my_M e d 61 [.inr (.inr (some 39))] κ σ Q := by
  obtain ⟨d, rfl⟩ := dS 1 (show 1 ≤ d by omega)
  have hrv := C0_rv h
  have hc42 := C0_c h
  refine ys_61 ?_
  unfold ys_61_0
  unfold pgl pg2 at hf hQ
  refine z_62 (k := 58) ht h (by omega) hκ (by omega) rfl (fun h58 σ1 g1 f1 => ?_) (fun h58 => ?_)
  · rw [my_k0_v]
    rw [if_pos h58] at hf hQ
    refine z_63 ht g1 (by omega) hκ (fun ty σ2 hty g2 f2 => ?_) (fun hty => ?_)
    · rw [my_kI_v]
      rw [hty] at hf hQ
      dsimp only at hf hQ
      refine ⟨_, C0_2 g1, C0_11 g1, ?_⟩
      obtain ⟨g3, f3⟩ := C0_ty (ty := ty) g2 hcu
      obtain ⟨s1, s2, s3⟩ := setT_ty (I := I) (ty := ty) hcu
      have f03 : eqp (wF rv cu) σ (my_uI σ2 (rv + 4 + 3 * cu) 7 ty) := eqp_tr (eqp_mo (eqp_tr f1 f2) (fun _ _ => wF_x)) (eqp_mo f3 (fun c k hh => by unfold wF xF; omega))
      refine z_62 (k := 61) ht g3 (by omega) hκ (by omega) rfl (fun h61 σ4 g4 f4 => ?_) (fun h61 => ?_)
      · rw [my_k0_v]
        rw [if_pos h61] at hf hQ
        have f04 := eqp_tr f03 (eqp_mo f4 (fun _ _ => wF_x))
        have fl4 : eqp (lF rv) σ σ4 := eqp_mo f04 (fun c k hh => lF_w hrv hc42 hh)
        rw [clT_pl g4.1]
        generalize nx t n (nx t n (nx t n p)) = P at g4 hf hQ ⊢
        have T45 := tcl ht g4.1 45 (y := 45) (by omega) rfl
        have hT : ∀ a q, pg3 t n nm ty P = .inr (a, q) → riT a = ty := fun a q hh => pg3_T hh
        have hQ' : ∀ a q σ', pg3 t n nm ty P = .inr (a, q) → CR0 t n (setT I cu ty) w rv cu (gSt w (itA (setT I cu ty) cu).2.1 a S) q 0 σ' → cit3 rv cu (riV a) S (gSt w (itA (setT I cu ty) cu).2.1 a S) σ' → eqp (wF rv cu) σ4 σ' → Q (.inl none) κ σ' := fun a q σ' hh g c f => by
          rw [s2] at g c
          refine hQ a q σ' hh ?_ c (eqp_tr f04 f)
          rw [hT a q hh]
          exact g
        refine my_if (fun h45 => ?_) (fun h45 => ?_)
        · have h45 := T45.mp h45
          unfold ys_61_48
          rw [if_neg (by decide)]
          refine z_55 g4 (by omega) (fun σ5 g5 f5 => ?_)
          rw [my_k0_v]
          refine y_61g (nm := nm) (ty := ty) (x := pg3 t n nm ty P) ht hκ (by omega) g5 s3 s1 (Or.inr rfl) ?_ (fun q hq => fL_mo (hf q hq) (eqp_tr fl4 (eqp_mo f5 (fun c k hh => lF_x hrv hc42 hh)))) (fun a q σ' hh g c f => hQ' a q σ' hh g c (eqp_tr (eqp_mo f5 (fun _ _ => wF_x)) f))
          unfold pg3
          rw [if_neg (by omega), if_neg (by omega), if_neg (by omega), if_pos h45]
          by_cases c3 : tkk t n (nx t n P) = 3
          · rw [if_pos c3, if_pos c3, if_neg (show ¬ (1 : Int32) = 0 by decide)]
          · rw [if_neg c3, if_neg c3, if_neg (show ¬ ((1 : Int32) = 0 ∧ tkk t n (nx t n P) = 315) from fun hh => absurd hh.1 (by decide)), if_neg (show ¬ ((1 : Int32) = 0 ∧ tkk t n (nx t n P) = 316) from fun hh => absurd hh.1 (by decide))]
        · have h45 : ¬ tkk t n P = 45 := fun hh => h45 (T45.mpr hh)
          unfold ys_61_48
          rw [if_pos rfl]
          refine y_61g (nm := nm) (ty := ty) (x := pg3 t n nm ty P) ht hκ (by omega) g4 s3 s1 (Or.inl rfl) ?_ (fun q hq => fL_mo (hf q hq) fl4) hQ'
          unfold pg3
          rw [if_pos rfl]
          by_cases c3 : tkk t n P = 3
          · rw [if_neg (by omega), if_neg (by omega), if_pos c3, if_pos c3]
          · rw [if_neg c3, if_neg c3]
            by_cases c5 : tkk t n P = 315
            · rw [if_pos c5, if_pos (show (0 : Int32) = 0 ∧ tkk t n P = 315 from ⟨rfl, c5⟩)]
            · rw [if_neg c5, if_neg (show ¬ ((0 : Int32) = 0 ∧ tkk t n P = 315) from fun hh => c5 hh.2)]
              by_cases c6 : tkk t n P = 316
              · rw [if_pos c6, if_pos (show (0 : Int32) = 0 ∧ tkk t n P = 316 from ⟨rfl, c6⟩)]
              · rw [if_neg c6, if_neg (show ¬ ((0 : Int32) = 0 ∧ tkk t n P = 316) from fun hh => c6 hh.2), if_neg h45]
      · rw [if_neg h61] at hf
        exact hf _ rfl _ g3.1 (eqp_mo f03 (fun c k hh => lF_w hrv hc42 hh))
    · rw [hty] at hf
      exact hf _ rfl σ1 g1.1 (eqp_mo f1 (fun c k hh => lF_x hrv hc42 hh))
  · rw [if_neg h58] at hf
    exact hf p rfl σ h.1 eqp_rf
/-- what an array makes -/
def aSt (w : Bool) (fm : Int32) (a : Ri) (S : St) : St := wr w (riV a) 1 (wr w fm 1 S)
/-- an array -/
theorem y_68 {nm : List Nat} (ht : txt t n) (hκ : 1 ≤ κ.2.1 ∧ 6 ≤ κ.2.2) (hd : 9 ≤ d) (h : CR0 t n I w rv cu S p 0 σ) (hcu : cu < I.length) (hf : ∀ q, par t n nm p = .inl q → fL κ Q t n rv σ q)
    (hQ : ∀ a q σ', par t n nm p = .inr (a, q) → CR0 t n I w rv cu (aSt w (itA I cu).2.1 a S) q 0 σ' → cit3 rv cu (riV a) S (aSt w (itA I cu).2.1 a S) σ' → eqp (wF rv cu) σ σ' → Q (.inl none) κ σ') : my_M e d 68 [.inr (.inr (some 39))] κ σ Q := by
  obtain ⟨d, rfl⟩ := dS 1 (show 1 ≤ d by omega)
  have hrv := C0_rv h
  have hc42 := C0_c h
  refine ys_68 ?_
  unfold ys_68_0
  unfold par at hf hQ
  refine z_69 (k := 91) ht h (by omega) (by omega) hκ (by omega) rfl (fun h91 _ σ1 g1 f1 => ?_) (fun h91 => ?_)
  · rw [my_k0_v]
    rw [if_pos h91] at hf hQ
    have fl1 : eqp (lF rv) σ σ1 := eqp_mo f1 (fun c k hh => lF_x hrv hc42 hh)
    generalize nx t n p = P at g1 hf hQ ⊢
    have T3 := tcl ht g1.1 3 (y := 3) (by omega) rfl
    have bad : ¬ (tkk t n P = 3 ∧ ¬ tkv t n P < 1 ∧ ¬ (32 : Int32) < tkv t n P) → ys_68_45 e d κ σ1 Q := fun hh => by
      rw [if_neg hh] at hf
      unfold ys_68_45 ys_68_46
      exact x_60 (by omega) hκ (fun h0 => absurd rfl h0) (fun _ => hf P rfl σ1 g1.1 fl1)
    refine my_if (fun h3 => ?_) (fun h3 => bad (fun hh => h3 (T3.mpr hh.1)))
    have h3 := T3.mp h3
    rw [clT_nu ht g1.1 h3]
    refine my_if (fun hl => bad (fun hh => hh.2.1 hl)) (fun hl => my_if (fun hg => bad (fun hh => hh.2.2 hg)) (fun hg => ?_))
    rw [if_pos ⟨h3, hl, hg⟩] at hf hQ
    unfold ys_68_46
    refine x_60 (by omega) hκ (fun _ => ?_) (fun h0 => absurd h0 (by decide))
    rw [my_k0_v]
    refine ⟨_, C0_2 g1, C0_11 g1, ?_⟩
    rw [clT_nu ht g1.1 h3]
    generalize tkv t n P = v at hf hQ ⊢
    obtain ⟨g2, f2⟩ := C0_w (k := 8) (x := v) g1 (by omega)
    have f02 : eqp (wF rv cu) σ (my_uI σ1 (rv + 4 + 3 * cu) 8 v) := eqp_tr (eqp_mo f1 (fun _ _ => wF_x)) (eqp_mo f2 (fun c k hh => by unfold wF xF; omega))
    refine z_55 g2 (by omega) (fun σ3 g3 f3 => ?_)
    rw [my_k0_v]
    have f03 := eqp_tr f02 (eqp_mo f3 (fun _ _ => wF_x))
    unfold pr3 at hf hQ
    refine z_70 (k := 93) ht g3 (by omega) hκ (by omega) rfl (fun h93 σ4 g4 f4 => ?_) (fun h93 => ?_)
    · rw [my_k0_v]
      rw [if_pos h93] at hf hQ
      have f04 := eqp_tr f03 (eqp_mo f4 (fun _ _ => wF_x))
      refine z_62 (k := 59) ht g4 (by omega) hκ (by omega) rfl (fun h59 σ5 g5 f5 => ?_) (fun h59 => ?_)
      · rw [my_k0_v]
        rw [if_pos h59] at hQ
        have f05 := eqp_tr f04 (eqp_mo f5 (fun _ _ => wF_x))
        have e8 : σ5.1 (rv + 4 + 3 * cu) 8 = v := (eqp_g (eqp_tr (eqp_tr f3 f4) f5) (by unfold xF; omega)).trans uI_s
        refine z_66 g5 hcu (by omega) (fun σ6 g6 e10 f6 => ?_)
        rw [my_k0_v]
        refine ⟨_, C0_2 g6, C0_11 g6, ?_⟩
        have e8' : σ6.1 (rv + 4 + 3 * cu) 8 = v := (eqp_g f6 (by unfold bF xF; omega)).trans e8
        rw [e8']
        refine z_67 (k := 1) g6 (by omega) (by omega) rfl (fun σ7 g7 f7 => ?_)
        rw [my_k0_v]
        have e10' : σ7.1 (rv + 4 + 3 * cu) 10 = Int32.ofNat S.2.2.1.length := (eqp_g f7 (by unfold xF; omega)).trans e10
        have e8'' : σ7.1 (rv + 4 + 3 * cu) 8 = v := (eqp_g f7 (by unfold xF; omega)).trans e8'
        refine ⟨_, C0_1 g7, C0_10 g7, _, C0_2 g7, C0_11 g7, _, C0_2 g7, C0_11 g7, ?_⟩
        rw [C0_sz g7, e10']
        obtain ⟨g8, f8⟩ := C0_w (k := 11) (x := Int32.ofNat (wr w v 1 (wr w (itA I cu).2.1 1 S)).2.2.1.length - Int32.ofNat S.2.2.1.length) g7 (by omega)
        refine hQ _ _ _ rfl g8 ⟨?_, ?_, uI_s⟩ (eqp_tr (eqp_tr (eqp_tr f05 (eqp_mo f6 (fun c k hh => by unfold bF xF at hh; unfold wF xF; omega))) (eqp_mo f7 (fun _ _ => wF_x))) (eqp_mo f8 (fun c k hh => by unfold wF xF; omega)))
        · rw [my_uI_1, if_neg (by omega)]; exact e8''
        · rw [my_uI_1, if_neg (by omega)]; exact e10'
      · rw [if_neg h59] at hf
        exact hf _ rfl σ4 g4.1 (eqp_mo f04 (fun c k hh => lF_w hrv hc42 hh))
    · rw [if_neg h93] at hf
      exact hf _ rfl σ3 g3.1 (eqp_mo f03 (fun c k hh => lF_w hrv hc42 hh))
  · have h91 : ¬ tkk t n p = 91 := by rcases h91 with h | h; exact h; omega
    rw [if_neg h91] at hf
    exact hf p rfl σ h.1 eqp_rf
end MCG
