
/-! ===== the class reads items: one item on the first way ===== -/
def cnF : List Nat → Nat → Nat
  | [], _ => 0
  | f :: r, k => (if kdf f = k then 1 else 0) + cnF r k
theorem cnF_a {k : Nat} : ∀ {A B : List Nat}, cnF (A ++ B) k = cnF A k + cnF B k
  | [], B => by simp [cnF]
  | a :: A, B => by rw [List.cons_append, cnF, cnF, cnF_a]; omega
theorem cnK_F {k : Nat} : ∀ {As : List Ri}, cnK As k = cnF (As.map (fun a => a.1)) k
  | [] => rfl
  | a :: As => by rw [List.map_cons, cnK, cnF, cnK_F]
/-- order and number of each item, how many of each kind -/
def OD (Fs : List Nat) (rv : Nat) (σ : my_S) : Prop := (∀ k f, Fs[k]? = some f → σ.1 (rv + 4 + 3 * k) 3 = Int32.ofNat k ∧ σ.1 (rv + 4 + 3 * k) 2 = Int32.ofNat (cnF (Fs.take k) (kdf f))) ∧ ∀ k, k < 4 → σ.1 (rv + 3) k = Int32.ofNat (cnF Fs k)
theorem OD_o {F : Nat → Nat → Prop} {Fs : List Nat} {rv : Nat} {σ σ' : my_S} (h : OD Fs rv σ) (h42 : Fs.length ≤ 42) (he : eqp F σ σ') (hF : ∀ c k, F c k → c ≠ rv + 3 ∧ ∀ j, j < 42 → c = rv + 4 + 3 * j → k ≠ 2 ∧ k ≠ 3) : OD Fs rv σ' :=
  ⟨fun k f hk => by
    have hkl := (List.getElem?_eq_some_iff.mp hk).1
    have := h.1 k f hk
    exact ⟨(eqp_g he (fun hh => ((hF _ _ hh).2 k (by omega) rfl).2 rfl)).trans this.1, (eqp_g he (fun hh => ((hF _ _ hh).2 k (by omega) rfl).1 rfl)).trans this.2⟩, fun k hk => (eqp_g he (fun hh => (hF _ _ hh).1 rfl)).trans (h.2 k hk)⟩
/-- between items -/
def CB (t : Nat → Int32) (n : Nat) (I : List It) (w : Bool) (rv : Nat) (S : St) (p : Nat) (σ : my_S) : Prop := clT t n p σ ∧ (σ.1 39 3 = if w = true then 1 else 0) ∧ (σ.2.2 39 1 = some rv ∧ (rv = 108 ∨ rv = 238 ∨ rv = 368)) ∧ CIm I rv σ ∧ σ.1 39 4 = S.1 ∧ σ.1 39 5 = S.2.1 ∧ (σ.1 rv 1 = Int32.ofNat S.2.2.1.length ∧ S.2.2.1.length ≤ 6144 ∧ ∀ i x, S.2.2.1[i]? = some x → σ.1 (rv + 1) i = x)
/-- an item as the text tells it, and as the class has it -/
def iOf (a : Ri) (it : It) : Prop := it.1 = riN a ∧ it.2.1 = Int32.ofNat (riF a) ∧ it.2.2.1 = Int32.ofNat (kdf (riF a)) ∧ it.2.2.2.1 = riT a ∧ it.2.2.2.2.1 = Int32.ofNat (riQ a).length ∧ ∀ j x, (riQ a)[j]? = some x → it.2.2.2.2.2 j = x
def iRel (As : List Ri) (I : List It) : Prop := I.length = As.length ∧ ∀ (k : Nat) (a : Ri) (it : It), As[k]? = some a → I[k]? = some it → iOf a it
theorem iRel_n {As : List Ri} {I : List It} (h : iRel As I) : I.map (fun i => i.1) = rno As := by
  apply List.ext_getElem?
  intro k
  unfold rno
  rw [List.getElem?_map, List.getElem?_map]
  by_cases hk : k < I.length
  · have hk2 : k < As.length := by rw [← h.1]; exact hk
    rw [List.getElem?_eq_getElem hk, List.getElem?_eq_getElem hk2]
    have := (h.2 k _ _ (List.getElem?_eq_getElem hk2) (List.getElem?_eq_getElem hk)).1
    simp [this]
  · rw [List.getElem?_eq_none (by omega), List.getElem?_eq_none (by have := h.1; omega)]
    rfl
theorem iRel_a {As : List Ri} {I : List It} {a : Ri} {it : It} (h : iRel As I) (hi : iOf a it) : iRel (As ++ [a]) (I ++ [it]) := by
  refine ⟨by simp [h.1], fun k b x hb hx => ?_⟩
  by_cases hk : k < As.length
  · rw [List.getElem?_append_left hk] at hb
    rw [List.getElem?_append_left (by rw [h.1]; exact hk)] at hx
    exact h.2 k b x hb hx
  · rw [List.getElem?_append_right (by omega)] at hb
    rw [List.getElem?_append_right (by rw [h.1]; omega), h.1] at hx
    have hi0 : k - As.length = 0 := by
      by_cases h0 : k - As.length = 0
      · exact h0
      · rw [List.getElem?_eq_none (by simp; omega)] at hb
        cases hb
    rw [hi0] at hb hx
    simp only [List.getElem?_cons_zero, Option.some.injEq] at hb hx
    subst hb hx
    exact hi
section MCI
variable {e : my_E} {d : Nat} {κ : my_K} {σ : my_S} {Q : my_O → my_K → my_S → Prop} {t : Nat → Int32} {n p o : Nat} {I : List It} {w : Bool} {rv cu : Nat} {S : St}
theorem CR0_B (h : CR0 t n I w rv cu S p o σ) : CB t n I w rv S p σ := ⟨h.1, h.2.2.1.1, ⟨h.2.2.1.2.2.1.1, h.2.2.1.2.2.1.2.1⟩, h.2.2.1.2.2.2, h.2.2.2.1, h.2.2.2.2.1, h.2.2.2.2.2.1⟩
theorem CB_S {S' : St} (h : CB t n I w rv S p σ) (h1 : S'.1 = S.1) (h2 : S'.2.1 = S.2.1) (h3 : S'.2.2.1 = S.2.2.1) : CB t n I w rv S' p σ := by
  obtain ⟨a1, a2, a3, a4, a5, a6, a7⟩ := h
  exact ⟨a1, a2, a3, a4, by rw [h1]; exact a5, by rw [h2]; exact a6, by rw [h3]; exact a7⟩
/-- the frame of the tokens alone -/
theorem CB_o {F : Nat → Nat → Prop} {p' : Nat} {σ' : my_S} (h : CB t n I w rv S p σ) (g : clT t n p' σ') (he : eqp F σ σ') (hF : ∀ c k, F c k → c = 33 ∨ (c = 39 ∧ (k = 2 ∨ k = 9))) : CB t n I w rv S p' σ' := by
  obtain ⟨a1, a2, ⟨a3, a3'⟩, a4, a5, a6, ⟨a7, a8, a9⟩⟩ := h
  have g' : ∀ {c k}, (c ≠ 33 ∧ (c = 39 → k ≠ 2 ∧ k ≠ 9)) → ¬ F c k := fun hx hh => by have := hF _ _ hh; omega
  exact ⟨g, (eqp_g he (g' (by omega))).trans a2, ⟨((he _ _ (g' (by omega))).2.2).trans a3, a3'⟩, CIm_o a4 he (fun c k hh => by have := hF c k hh; exact ⟨by omega, by omega, fun j hj => ⟨by omega, by omega⟩⟩), (eqp_g he (g' (by omega))).trans a5, (eqp_g he (g' (by omega))).trans a6, ⟨(eqp_g he (g' (by omega))).trans a7, a8, fun i x hx => (eqp_g he (g' (by omega))).trans (a9 i x hx)⟩⟩
theorem B_55 (h : CB t n I w rv S p σ) (hd : 1 ≤ d) (hQ : ∀ σ', CB t n I w rv S (nx t n p) σ' → eqp nF σ σ' → Q (.inl none) κ σ') : my_M e d 55 [.inr (.inr (some 33))] κ σ Q := by
  obtain ⟨d, rfl⟩ := dS 1 hd
  exact c_55 h.1 (fun σ' g f => hQ σ' (CB_o h g f (fun c k hh => by unfold nF at hh; omega)) f)
/-- the item is at hand -/
theorem CB_R (h : CB t n I w rv S p σ) (hcu : cu < 42) (h2 : σ.2.2 39 2 = some (rv + 4 + 3 * cu)) (h14 : σ.1 (rv + 4 + 3 * cu) 14 = 0) : CR0 t n I w rv cu (nd0 S) p 0 (my_uI σ 39 9 0) := by
  have he : eqp (fun c k => c = 39 ∧ k = 9) σ (my_uI σ 39 9 0) := eqp_I eqp_rf ⟨rfl, rfl⟩
  obtain ⟨a1, a2, ⟨a3, a3'⟩, a4, a5, a6, ⟨a7, a8, a9⟩⟩ := h
  exact ⟨clT_o a1 he (fun c k hh => by omega), uI_s, ⟨(eqp_g he (by omega)).trans a2, trivial, ⟨a3, a3', h2, hcu⟩, CIm_o a4 he (fun c k hh => ⟨by omega, by omega, fun j hj => ⟨by omega, by omega⟩⟩)⟩, ⟨(eqp_g he (by omega)).trans a5, (eqp_g he (by omega)).trans a6, ⟨(eqp_g he (by omega)).trans a7, a8, fun i x hx => (eqp_g he (by omega)).trans (a9 i x hx)⟩, ⟨(eqp_g he (by omega)).trans h14, by simp [nd0], fun i x hx => by simp [nd0] at hx⟩⟩⟩
/-- an item by its name, in any revision -/
theorem z_195l {l : List Nat} (hl : isN l) (hrv : rv = 108 ∨ rv = 238 ∨ rv = 368) (h : CIm I rv σ) : ∀ (m j : Nat), j + m = I.length → Q (.inl (some (.inr (.inr (itO rv (kwi ((I.map (fun i => i.1)).drop j) l j)))))) κ σ → ys_195_2 e d rv (nmC l) (Int32.ofNat j) κ σ Q := by
  intro m
  obtain ⟨h1, h2, h3, h4⟩ := h
  induction m with
  | zero =>
    intro j hj hQ
    unfold ys_195_2
    rw [h1, if_neg (fun hh => absurd ((oN_lt (by omega) (by omega)).mp hh) (by omega))]
    rw [List.drop_eq_nil_of_le (by simp; omega)] at hQ
    exact hQ
  | succ m ih =>
    intro j hj hQ
    have hjl : j < I.length := by omega
    have hjm : j < (I.map (fun i => i.1)).length := by simp; omega
    obtain ⟨a1, a2, _⟩ := h4 j I[j] (List.getElem?_eq_getElem hjl)
    have b : my_bd (Int32.ofNat j) 42 := ⟨by rw [oN_i (by omega)]; omega, by rw [oN_i (by omega)]; omega⟩
    unfold ys_195_2
    rw [h1, if_pos ((oN_lt (by omega) (by omega)).mpr hjl), if_pos ((oN_lt1 (b := 42) (c := 42) rfl (by omega) (by omega)).mpr (by omega)), oN_n (by omega), h3 j (by omega)]
    refine ⟨b, rv + 4 + 3 * j, rfl, in11 hrv (by omega), ?_⟩
    rw [List.drop_eq_getElem_cons hjm] at hQ
    unfold kwi at hQ
    rw [List.getElem_map] at hQ
    rw [a2]
    by_cases hh : (I[j]).1 = l
    · rw [if_pos (lg_cmp_0.mpr (by rw [hh]))]
      rw [if_pos hh] at hQ
      exact ⟨b, hQ⟩
    · rw [if_neg (fun h5 => hh ((nmC_inj a1 hl).mp (lg_cmp_0.mp h5))), oN_s]
      rw [if_neg hh] at hQ
      exact ys_195_2_ok (in10 hrv) (ih (j + 1) (by omega) hQ)
theorem z_195 {l : List Nat} (hl : isN l) (hrv : rv = 108 ∨ rv = 238 ∨ rv = 368) (h : CIm I rv σ) (hd : 1 ≤ d) (hQ : Q (.inl (some (.inr (.inr (itO rv (itK I l)))))) κ σ) : my_M e d 195 [.inr (.inr (some rv)), .inr (.inl (nmC l))] κ σ Q := by
  obtain ⟨d, rfl⟩ := dS 1 hd
  refine ys_195 (in10 hrv) ?_
  unfold ys_195_0
  exact ys_195_2_ok (in10 hrv) (z_195l hl hrv h I.length 0 (by omega) hQ)
theorem kdf_lt {f : Nat} (h : f ≤ 4) : kdf f < 4 := by
  unfold kdf
  split <;> omega
/-- how many of a kind -/
theorem z_196 {Fs : List Nat} {k : Nat} (hrv : rv = 108 ∨ rv = 238 ∨ rv = 368) (h : ∀ k, k < 4 → σ.1 (rv + 3) k = Int32.ofNat (cnF Fs k)) (hk : k < 4) (hd : 1 ≤ d) (hQ : Q (.inl (some (.inl (Int32.ofNat (cnF Fs k))))) κ σ) : my_M e d 196 [.inr (.inr (some rv)), .inl (Int32.ofNat k)] κ σ Q := by
  obtain ⟨d, rfl⟩ := dS 1 hd
  refine ys_196 (in10 hrv) ?_
  unfold ys_196_0 ys_196_23
  rw [if_neg (oN_0 (by omega)), if_pos ((oN_lt1 (b := 4) (c := 4) rfl (by omega) (by omega)).mpr hk), oN_n (by omega), h k hk]
  exact ⟨⟨by rw [oN_i (by omega)]; omega, by rw [oN_i (by omega)]; omega⟩, hQ⟩
theorem z_197 {k : Nat} (hk : k < 4) (hd : 1 ≤ d) (hQ : Q (.inl (some (.inl (Int32.ofNat (mst k))))) κ σ) : my_M e d 197 [.inl (Int32.ofNat k)] κ σ Q := by
  obtain ⟨d, rfl⟩ := dS 1 hd
  refine ys_197 ?_
  unfold ys_197_0
  have h4 : k = 0 ∨ k = 1 ∨ k = 2 ∨ k = 3 := by omega
  rcases h4 with rfl | rfl | rfl | rfl
  · rw [if_pos (by decide)]; exact hQ
  · rw [if_neg (by decide), if_pos (by decide)]; exact hQ
  · rw [if_neg (by decide), if_neg (by decide), if_pos (by decide)]; exact hQ
  · rw [if_neg (by decide), if_neg (by decide), if_neg (by decide), if_pos (by decide)]; exact hQ
/-- what declaring an item takes -/
def dcF (rv c0 c k : Nat) : Prop := c = rv + 4 + 3 * c0 ∨ c = rv + 3 ∨ (c = rv ∧ k = 3)
/-- an item as it is declared -/
def it0 (nm : List Nat) (fm : Nat) (pt : Nat → Int32) : It := (nm, Int32.ofNat fm, Int32.ofNat (kdf fm), 2, 0, pt)
theorem z_194 {Fs : List Nat} {fm : Nat} {nm : List Nat} (hrv : rv = 108 ∨ rv = 238 ∨ rv = 368) (hN : isN nm) (hI : CIm I rv σ) (hod : OD Fs rv σ) (hlen : Fs.length = I.length) (hfm : fm ≤ 4) (h41 : cnF Fs (kdf fm) < mst (kdf fm) → I.length < 42) (h16 : cnF Fs (kdf fm) ≤ 42) (hd : 3 ≤ d)
    (hno : (itK I nm ≠ none ∨ ¬ cnF Fs (kdf fm) < mst (kdf fm)) → Q (.inl (some (.inr (.inr none)))) κ σ)
    (hok : ∀ pt σ', itK I nm = none → cnF Fs (kdf fm) < mst (kdf fm) → CIm (I ++ [it0 nm fm pt]) rv σ' → OD (Fs ++ [fm]) rv σ' → σ'.1 (rv + 4 + 3 * I.length) 14 = 0 → eqp (dcF rv I.length) σ σ' → Q (.inl (some (.inr (.inr (some (rv + 4 + 3 * I.length)))))) κ σ') : my_M e d 194 [.inr (.inr (some rv)), .inl (Int32.ofNat fm), .inr (.inl (nmC nm))] κ σ Q := by
  obtain ⟨d, rfl⟩ := dS 1 (show 1 ≤ d by omega)
  have hk4 := kdf_lt hfm
  have hms : mst (kdf fm) ≤ 16 := by unfold mst; split <;> (try split) <;> (try split) <;> omega
  have key : ys_194_12 e d rv (Int32.ofNat fm) (nmC nm) (Int32.ofNat (kdf fm)) κ σ Q := by
    unfold ys_194_12
    refine z_195 hN hrv hI (by omega) ?_
    rw [my_kA_v]
    cases hk : itK I nm with
    | some k =>
      rw [show itO rv (some k) = some (rv + 4 + 3 * k) from rfl, if_neg (by simp)]
      unfold ys_194_48
      exact hno (Or.inl (by rw [hk]; simp))
    | none =>
      rw [show itO rv none = none from rfl, if_pos rfl]
      refine z_196 hrv hod.2 hk4 (by omega) ?_
      rw [my_kI_v]
      refine z_197 hk4 (by omega) ?_
      rw [my_kI_v]
      refine my_if (fun hc => ?_) (fun hc => ?_)
      · have hc : cnF Fs (kdf fm) < mst (kdf fm) := (oN_lt (by omega) (by omega)).mp hc
        have hl := h41 hc
        obtain ⟨i1, i2, i3, i4⟩ := hI
        rw [i1, if_pos ((oN_lt1 (b := 42) (c := 42) rfl (by omega) (by omega)).mpr hl), oN_n (by omega), oN_n (by omega), i3 _ hl, hod.2 _ hk4]
        have bk : my_bd (Int32.ofNat (kdf fm)) 4 := ⟨by rw [oN_i (by omega)]; omega, by rw [oN_i (by omega)]; omega⟩
        refine ⟨⟨by rw [oN_i (by omega)]; omega, by rw [oN_i (by omega)]; omega⟩, bk, _, rfl, in11 hrv hl, ?_⟩
        obtain ⟨d, rfl⟩ := dS 1 (show 1 ≤ d by omega)
        refine ys_205 (in11 hrv hl) ?_
        unfold ys_205_0
        rw [my_k0_v]
        refine ⟨bk, bk, ?_⟩
        generalize hσ1 : my_uI (my_uI (my_uI (my_uI (my_uI (my_uI (my_uI (my_uI (my_uI (my_uI (my_uI (my_uI (my_uL (my_uI σ (rv + 4 + 3 * I.length) 0 (Int32.ofNat fm)) (rv + 4 + 3 * I.length) 4 (nmC nm)) (rv + 4 + 3 * I.length) 1 (Int32.ofNat (kdf fm))) (rv + 4 + 3 * I.length) 2 (Int32.ofNat (cnF Fs (kdf fm)))) (rv + 4 + 3 * I.length) 3 (Int32.ofNat I.length)) (rv + 4 + 3 * I.length) 5 0) (rv + 4 + 3 * I.length) 7 2) (rv + 4 + 3 * I.length) 8 0) (rv + 4 + 3 * I.length) 9 0) (rv + 4 + 3 * I.length) 10 0) (rv + 4 + 3 * I.length) 11 0) (rv + 4 + 3 * I.length) 12 0) (rv + 4 + 3 * I.length) 13 0) (rv + 4 + 3 * I.length) 14 0 = σ1
        have f1 : eqp (fun c k => c = rv + 4 + 3 * I.length) σ σ1 := by
          rw [← hσ1]
          exact eqp_I (eqp_I (eqp_I (eqp_I (eqp_I (eqp_I (eqp_I (eqp_I (eqp_I (eqp_I (eqp_I (eqp_I (eqp_L (eqp_I eqp_rf rfl) rfl) rfl) rfl) rfl) rfl) rfl) rfl) rfl) rfl) rfl) rfl) rfl) rfl
        have w0 : σ1.1 (rv + 4 + 3 * I.length) 0 = Int32.ofNat fm := by rw [← hσ1]; simp [my_uI, my_uL]
        have w1 : σ1.1 (rv + 4 + 3 * I.length) 1 = Int32.ofNat (kdf fm) := by rw [← hσ1]; simp [my_uI, my_uL]
        have w2 : σ1.1 (rv + 4 + 3 * I.length) 2 = Int32.ofNat (cnF Fs (kdf fm)) := by rw [← hσ1]; simp [my_uI, my_uL]
        have w3 : σ1.1 (rv + 4 + 3 * I.length) 3 = Int32.ofNat I.length := by rw [← hσ1]; simp [my_uI, my_uL]
        have w4 : σ1.2.1 (rv + 4 + 3 * I.length) 4 = nmC nm := by rw [← hσ1]; simp [my_uI, my_uL]
        have w5 : σ1.1 (rv + 4 + 3 * I.length) 5 = 0 := by rw [← hσ1]; simp [my_uI, my_uL]
        have w7 : σ1.1 (rv + 4 + 3 * I.length) 7 = 2 := by rw [← hσ1]; simp [my_uI, my_uL]
        have w14 : σ1.1 (rv + 4 + 3 * I.length) 14 = 0 := by rw [← hσ1]; exact uI_s
        clear hσ1
        have ec : σ1.1 (rv + 3) (kdf fm) = Int32.ofNat (cnF Fs (kdf fm)) := (eqp_g f1 (by omega)).trans (hod.2 _ hk4)
        have e3 : (my_uI σ1 (rv + 3) (kdf fm) (Int32.ofNat (cnF Fs (kdf fm) + 1))).1 rv 3 = Int32.ofNat I.length := ((uI_o (by omega)).trans (eqp_g f1 (by omega))).trans i1
        rw [ec, oN_s, e3, oN_s]
        have f2 : eqp (fun c k => (c = rv + 3 ∧ k = kdf fm) ∨ (c = rv ∧ k = 3)) σ1 (my_uI (my_uI σ1 (rv + 3) (kdf fm) (Int32.ofNat (cnF Fs (kdf fm) + 1))) rv 3 (Int32.ofNat (I.length + 1))) := eqp_I (eqp_I eqp_rf (by omega)) (by omega)
        have fr : eqp (dcF rv I.length) σ (my_uI (my_uI σ1 (rv + 3) (kdf fm) (Int32.ofNat (cnF Fs (kdf fm) + 1))) rv 3 (Int32.ofNat (I.length + 1))) := eqp_tr (eqp_mo f1 (fun c k hh => by unfold dcF; omega)) (eqp_mo f2 (fun c k hh => by unfold dcF; omega))
        have f12 : eqp (fun c k => c = rv + 4 + 3 * I.length ∨ c = rv + 3 ∨ (c = rv ∧ k = 3)) σ (my_uI (my_uI σ1 (rv + 3) (kdf fm) (Int32.ofNat (cnF Fs (kdf fm) + 1))) rv 3 (Int32.ofNat (I.length + 1))) := fr
        refine hok (fun j => σ.1 (rv + 4 + 3 * I.length + 1) j) _ hk hc ⟨by rw [uI_s]; simp, by simp; omega, fun k hk => ((f12 _ _ (by omega)).2.2).trans (i3 k hk), fun k it hki => ?_⟩ ⟨fun k f hkf => ?_, fun k hk => ?_⟩ ((eqp_g f2 (by omega)).trans w14) fr
        · by_cases hkl : k < I.length
          · rw [List.getElem?_append_left hkl] at hki
            obtain ⟨a1, a2, a3, a4, a5, a6, a7⟩ := i4 k it hki
            exact ⟨a1, ((f12 _ _ (by omega)).2.1).trans a2, (eqp_g f12 (by omega)).trans a3, (eqp_g f12 (by omega)).trans a4, (eqp_g f12 (by omega)).trans a5, (eqp_g f12 (by omega)).trans a6, fun j hj => (eqp_g f12 (by omega)).trans (a7 j hj)⟩
          · rw [List.getElem?_append_right (by omega)] at hki
            have hi0 : k - I.length = 0 := by
              by_cases h0 : k - I.length = 0
              · exact h0
              · rw [List.getElem?_eq_none (by simp; omega)] at hki
                cases hki
            rw [hi0] at hki
            simp only [List.getElem?_cons_zero, Option.some.injEq] at hki
            subst hki
            rw [show k = I.length by omega]
            exact ⟨hN, ((f2 _ _ (by omega)).2.1).trans w4, (eqp_g f2 (by omega)).trans w0, (eqp_g f2 (by omega)).trans w1, (eqp_g f2 (by omega)).trans w7, (eqp_g f2 (by omega)).trans w5, fun j hj => eqp_g f12 (by omega)⟩
        · by_cases hkl : k < Fs.length
          · rw [List.getElem?_append_left hkl] at hkf
            rw [List.take_append_of_le_length (by omega)]
            have := hod.1 k f hkf
            exact ⟨(eqp_g f12 (by omega)).trans this.1, (eqp_g f12 (by omega)).trans this.2⟩
          · rw [List.getElem?_append_right (by omega)] at hkf
            have hi0 : k - Fs.length = 0 := by
              by_cases h0 : k - Fs.length = 0
              · exact h0
              · rw [List.getElem?_eq_none (by simp; omega)] at hkf
                cases hkf
            rw [hi0] at hkf
            simp only [List.getElem?_cons_zero, Option.some.injEq] at hkf
            subst hkf
            have hkI : k = I.length := by omega
            rw [hkI, ← hlen, List.take_left, hlen]
            exact ⟨(eqp_g f2 (by omega)).trans w3, (eqp_g f2 (by omega)).trans w2⟩
        · rw [cnF_a]
          simp only [cnF]
          by_cases hkk : kdf fm = k
          · rw [if_pos hkk, uI_o (by omega), ← hkk, uI_s]
          · rw [if_neg hkk, uI_o (by omega), my_uI_1, if_neg (by omega)]
            exact (eqp_g f1 (by omega)).trans (hod.2 k hk)
      · unfold ys_194_48
        exact hno (Or.inr (fun hh => hc ((oN_lt (by omega) (by omega)).mpr hh)))
  refine ys_194 (in10 hrv) ?_
  unfold ys_194_0
  by_cases h2 : 2 < fm
  · rw [if_pos (by rw [show (2 : Int32) = Int32.ofNat 2 from rfl, oN_lt (by omega) (by omega)]; exact h2)]
    have ek : Int32.ofNat fm - 1 = Int32.ofNat (kdf fm) := by
      unfold kdf
      rw [if_neg (by omega)]
      obtain ⟨m, rfl⟩ : ∃ m, fm = m + 1 := ⟨fm - 1, by omega⟩
      rw [oN_m, Nat.add_sub_cancel]
    rw [ek]
    exact key
  · rw [if_neg (by rw [show (2 : Int32) = Int32.ofNat 2 from rfl, oN_lt (by omega) (by omega)]; exact h2)]
    have ek : kdf fm = fm := by unfold kdf; rw [if_pos (by omega)]
    rw [ek] at key
    exact key
/-- on the first way nothing is written -/
theorem wr_f {x : Int32} {k : Nat} : wr false x k S = S := rfl
theorem wpt_f : ∀ {T : List Int32} {S : St}, wpt false T S = S
  | [], _ => rfl
  | x :: T, S => by rw [wpt, wr_f, wpt_f]
theorem hSt_f {fm ty : Int32} {T : List Int32} : hSt false fm T ty S = nd0 S := by
  unfold hSt
  rw [wr_f, wr_f, wpt_f, wr_f, wr_f]
theorem gSt_f {fm : Int32} {a : Ri} : gSt false fm a S = S := by
  unfold gSt
  rw [wr_f, wr_f, wr_f]
  unfold wf wm
  repeat' split
  all_goals first
    | rfl
    | contradiction
theorem aSt_f {fm : Int32} {a : Ri} : aSt false fm a S = S := by
  unfold aSt
  rw [wr_f, wr_f]
theorem tSt_f {fm nl : Nat} {ty cF : Int32} (h : S.2.2.2 = []) : tSt false I fm ty cF nl S = S := by
  unfold tSt
  have e1 : tcS false fm ty S = S := by
    unfold tcS
    repeat' split
    all_goals rfl
  have e2 : tpS false cF nl S = S := by unfold tpS; rw [if_neg (by decide)]
  rw [e1, e2, wr_f, h]
  rfl
theorem bdR_f {fm : Nat} {Nf : List (List Nat)} {a : Ri} {q : Nat} {I' : List It} {S' : St} {cF cl : Int32} (h : bdR t n false I cu fm Nf S p a q I' S' cF cl) : S' = nd0 S := by
  obtain ⟨L, T, ty, q1, q2, pt, LT, LT', c', B', S2, h1, h2, h3, h4, h5, h6, h7, h8, h9, h10, h11, h12⟩ := h
  have hmk := cst_mk (t := t) (n := n) (I := I') (w := false) (fm := fm) (ity := ty) (cF := cF) (Nf := Nf) 3002 0 (nx t n q1) 1 L LT 0 (Int32.ofInt (-1)) [] (hSt false (Int32.ofNat fm) T ty S)
  have hS2 : S2 = nd0 S := ((hmk _ h6).2 rfl).trans hSt_f
  rw [h8, hS2]
  exact tSt_f rfl
end MCI
