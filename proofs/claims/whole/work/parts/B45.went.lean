
/-! ===== the class writes an item's entry ===== -/
def wlF (A : Nat) (c k : Nat) : Prop := (c = A ∧ (k = 1 ∨ k = 6 ∨ k = 10)) ∨ (A + 1 ≤ c ∧ c ≤ A + 4)
theorem bt_and {x : Int32} (h : isB x) : bt (x &&& 255) (Int32.ofNat 0) = x := by
  refine (isB_e isB_bt h).mp ?_
  rw [bt_0, Int32.and_assoc]
  rfl
section MWE
variable {e : my_E} {d : Nat} {κ : my_K} {σ σ' : my_S} {Q : my_O → my_K → my_S → Prop} {A S o : Nat} {B X : List Int32} {L : List (List Nat × Nat × Nat)} {nm : List Nat}
theorem Src_S (hA : lg2 A) (h : Src A S o X σ) : (S < A ∨ A + 6 < S) ∧ S ≠ 32 ∧ o + X.length ≤ 7747 := by
  unfold lg2 at hA
  rcases h with ⟨_, ⟨rv, hrv, rfl, ho⟩ | ⟨A', hA', hne, rfl, ho⟩⟩
  · omega
  · unfold lg2 at hA'
    omega
theorem tk_s {α : Type} {l : List α} {j : Nat} (h : j < l.length) : l.take (j + 1) = l.take j ++ [l[j]] := by
  rw [List.take_succ, List.getElem?_eq_getElem h]
  rfl
/-- the contents -/
theorem w_177c (hA : lg2 A) (hX : aB X) (hd : 1 ≤ d) (hS : Src A S o X σ) (hN : NI A L σ) (hQ : ∀ σ', WB A (B ++ X) σ' → NI A L σ' → eqp (wbF A) σ σ' → Q (.inl (some (.inl (Int32.ofNat L.length - 1)))) κ σ') : ∀ (m j : Nat) (σ' : my_S), j + m = X.length → WB A (B ++ X.take j) σ' → eqp (wbF A) σ σ' → ys_177_158 e d A (some S) (Int32.ofNat o) (Int32.ofNat X.length) (Int32.ofNat j) κ σ' Q := by
  obtain ⟨s1, s2, s3⟩ := Src_S hA hS
  intro m
  induction m with
  | zero =>
    intro j σ' hj h f
    have : j = X.length := by omega
    subst this
    have hN' := NI_o hN f (fun c k hh => by unfold wbF at hh; omega)
    rw [List.take_length] at h
    unfold ys_177_158
    rw [if_neg (by rw [oN_lt (by omega) (by omega)]; omega), hN'.1]
    exact hQ σ' h hN' f
  | succ m ih =>
    intro j σ' hj h f
    have hjl : j < X.length := by omega
    unfold ys_177_158
    rw [if_pos ((oN_lt (by omega) (by omega)).mpr hjl), oN_a]
    refine s_3 (Src_o hS f (fun c k hh => by unfold wbF at hh; omega)) (List.getElem?_eq_getElem hjl) hd ?_
    rw [my_kI_v, show (1 : Int32) = Int32.ofNat 1 from rfl]
    refine w_178 (w := 1) (by omega) hA h hd (fun σ2 h2 f2 => ?_)
    rw [my_k0_v, show Int32.ofNat 1 = 1 from rfl, oN_s]
    refine ys_177_158_ok (in8 hA) (ih (j + 1) σ2 (by omega) ?_ (eqp_tr f f2))
    have e1 : bts (X[j] &&& 255) 1 0 = [X[j]] := by
      show [bt (X[j] &&& 255) (Int32.ofNat 0)] = _
      rw [bt_and (hX _ (List.getElem_mem hjl))]
    rw [e1, List.append_assoc] at h2
    rw [tk_s hjl]
    exact h2
/-- the name, and the rest -/
theorem w_177n (hA : lg2 A) (hX : aB X) (hl : isN nm) (hd : 1 ≤ d) (hS : Src A S o X σ) (hN : NI A L σ) (hc : L.length = 900 → 7747 < B.length) (hQ : ∀ σ' L', (L.length < 900 → L' = L ++ [(nm, min (B.length + nm.length) 7747, X.length)]) → (L.length = 900 → L' = L) → WB A (B ++ (ltb nm ++ X)) σ' → NI A L' σ' → eqp (wlF A) σ σ' → Q (.inl (some (.inl (Int32.ofNat L'.length - 1)))) κ σ') : ∀ (m j : Nat) (σ' : my_S), j + m = nm.length → WB A (B ++ (ltb nm).take j) σ' → eqp (wbF A) σ σ' → ys_177_120 e d A (nmC nm) (some S) (Int32.ofNat o) (Int32.ofNat X.length) (Int32.ofNat nm.length) (Int32.ofNat j) κ σ' Q := by
  obtain ⟨s1, s2, s3⟩ := Src_S hA hS
  have h8 := hl.2
  intro m
  induction m with
  | zero =>
    intro j σ' hj h f
    have : j = nm.length := by omega
    subst this
    have hN' := NI_o hN f (fun c k hh => by unfold wbF at hh; omega)
    have hS' := Src_o hS f (fun c k hh => by unfold wbF at hh; omega)
    rw [show (ltb nm).take nm.length = ltb nm by rw [← ltb_l (l := nm), List.take_length]] at h
    have hbl : (B ++ ltb nm).length = B.length + nm.length := by rw [List.length_append, ltb_l]
    unfold ys_177_120
    rw [if_neg (by rw [oN_lt (by omega) (by omega)]; omega), h.1, hbl]
    have f' : eqp (wlF A) σ σ' := eqp_mo f (fun c k hh => by unfold wbF at hh; unfold wlF; omega)
    refine w_179 hA hN' hd (fun h9 σ2 u2 n2 f2 => ?_) (fun h9 σ2 n2 f2 => ?_)
    · rw [my_k0_v]
      have h2 : WB A (B ++ ltb nm) σ2 := by
        have := hc h9
        refine ⟨(eqp_g f2 (by omega)).trans h.1, fun i x hi hx => (eqp_g f2 (by omega)).trans (h.2.1 i x hi hx), ?_⟩
        rw [u2, hbl, if_pos (by omega)]
      refine ys_177_158_ok (in8 hA) (w_177c (σ := σ2) hA hX hd (Src_o hS' f2 (fun c k hh => by omega)) n2 (fun σ3 h3 n3 f3 => ?_) X.length 0 σ2 (Nat.zero_add _) (by rw [List.take_zero, List.append_nil]; exact h2) eqp_rf)
      exact hQ σ3 L (fun hh => by omega) (fun _ => rfl) (by rw [← List.append_assoc]; exact h3) n3 (eqp_tr f' (eqp_tr (eqp_mo f2 (fun c k hh => by unfold wlF; omega)) (eqp_mo f3 (fun c k hh => by unfold wbF at hh; unfold wlF; omega))))
    · rw [my_k0_v]
      have h2 : WB A (B ++ ltb nm) σ2 := WB_o h f2 (fun c k hh => by unfold wbF; omega)
      refine ys_177_158_ok (in8 hA) (w_177c (σ := σ2) hA hX hd (Src_o hS' f2 (fun c k hh => by omega)) n2 (fun σ3 h3 n3 f3 => ?_) X.length 0 σ2 (Nat.zero_add _) (by rw [List.take_zero, List.append_nil]; exact h2) eqp_rf)
      exact hQ σ3 _ (fun _ => rfl) (fun hh => by omega) (by rw [← List.append_assoc]; exact h3) n3 (eqp_tr f' (eqp_tr (eqp_mo f2 (fun c k hh => by unfold wlF; omega)) (eqp_mo f3 (fun c k hh => by unfold wbF at hh; unfold wlF; omega))))
  | succ m ih =>
    intro j σ' hj h f
    have hjl : j < nm.length := by omega
    unfold ys_177_120
    rw [if_pos ((oN_lt (by omega) (by omega)).mpr hjl)]
    refine c_5 hl (by omega) hd ?_
    rw [my_kI_v, show (1 : Int32) = Int32.ofNat 1 from rfl]
    refine w_178 (w := 1) (by omega) hA h hd (fun σ2 h2 f2 => ?_)
    rw [my_k0_v, show Int32.ofNat 1 = 1 from rfl, oN_s]
    refine ys_177_120_ok (in8 hA) (ih (j + 1) σ2 (by omega) ?_ (eqp_tr f f2))
    have hlt : ltr nm j = nm[j] + 96 := by unfold ltr; rw [List.getElem?_eq_getElem hjl]
    have hlb : j < (ltb nm).length := by rw [ltb_l]; exact hjl
    have e1 : bts (Int32.ofNat (ltr nm j)) 1 0 = [(ltb nm)[j]] := by
      show [bt (Int32.ofNat (ltr nm j)) (Int32.ofNat 0)] = _
      have := ltb_g hjl
      rw [List.getElem?_eq_getElem hlb] at this
      rw [hlt, Option.some.inj this]
    rw [e1, List.append_assoc] at h2
    rw [tk_s hlb]
    exact h2
theorem w_177w (hA : lg2 A) (hX : aB X) (hl : isN nm) (hd : 1 ≤ d) (hS : Src A S o X σ) (hN : NI A L σ) (h : WB A B σ) (hc : L.length = 900 → 7747 < B.length) (hQ : ∀ σ' L', (L.length < 900 → L' = L ++ [(nm, min (B.length + 6 + nm.length) 7747, X.length)]) → (L.length = 900 → L' = L) → WB A (B ++ e1 (1, nm, X) L.length) σ' → NI A L' σ' → eqp (wlF A) σ σ' → Q (.inl (some (.inl (Int32.ofNat L'.length - 1)))) κ σ') : ys_177_77 e d A (nmC nm) (some S) (Int32.ofNat o) (Int32.ofNat X.length) κ σ Q := by
  obtain ⟨s1, s2, s3⟩ := Src_S hA hS
  have h8 := hl.2
  unfold ys_177_77
  refine c_4 hl hd ?_
  rw [my_kI_v, show (4 : Int32) = Int32.ofNat 4 from rfl, oN_a, oN_a, show (2 : Int32) = Int32.ofNat 2 from rfl]
  refine w_178 (w := 2) (by omega) hA h hd (fun σ1 h1 f1 => ?_)
  rw [my_k0_v]
  have n1 := NI_o hN f1 (fun c k hh => by unfold wbF at hh; omega)
  refine w_178 (v := 1) (w := 1) (by omega) hA h1 hd (fun σ2 h2 f2 => ?_)
  rw [my_k0_v]
  have n2 := NI_o n1 f2 (fun c k hh => by unfold wbF at hh; omega)
  rw [n2.1]
  refine w_178 (w := 2) (by omega) hA h2 hd (fun σ3 h3 f3 => ?_)
  rw [my_k0_v]
  refine w_178 (v := Int32.ofNat nm.length) (w := 1) (by omega) hA h3 hd (fun σ4 h4 f4 => ?_)
  rw [my_k0_v]
  have f14 : eqp (wbF A) σ σ4 := eqp_tr f1 (eqp_tr f2 (eqp_tr f3 f4))
  have hbl : (((B ++ bts (Int32.ofNat (4 + nm.length + X.length)) 2 0 ++ bts 1 1 0) ++ bts (Int32.ofNat L.length) 2 0) ++ bts (Int32.ofNat nm.length) 1 0).length = B.length + 6 := by
    rw [List.length_append, List.length_append, List.length_append, List.length_append, bts_l, bts_l, bts_l, bts_l]
  generalize hG : (((B ++ bts (Int32.ofNat (4 + nm.length + X.length)) 2 0 ++ bts 1 1 0) ++ bts (Int32.ofNat L.length) 2 0) ++ bts (Int32.ofNat nm.length) 1 0) = G at h4 hbl
  refine ys_177_120_ok (in8 hA) (w_177n (σ := σ4) (B := G) hA hX hl hd (Src_o hS f14 (fun c k hh => by unfold wbF at hh; omega)) (NI_o hN f14 (fun c k hh => by unfold wbF at hh; omega)) (fun hh => by have := hc hh; omega) (fun σ' L' q1 q2 q3 q4 q5 => ?_) nm.length 0 σ4 (Nat.zero_add _) (by rw [List.take_zero, List.append_nil]; exact h4) eqp_rf)
  rw [hbl] at q1
  rw [← hG] at q3
  refine hQ σ' L' q1 q2 ?_ q4 (eqp_tr (eqp_mo f14 (fun c k hh => by unfold wbF at hh; unfold wlF; omega)) q5)
  have ee : e1 (1, nm, X) L.length = bts (Int32.ofNat (4 + nm.length + X.length)) 2 0 ++ (bts 1 1 0 ++ bts (Int32.ofNat L.length) 2 0) ++ (bts (Int32.ofNat nm.length) 1 0 ++ ltb nm ++ X) := by
    unfold e1 eh nmE
    rw [if_pos rfl]
  rw [ee]
  simp only [List.append_assoc] at q3 ⊢
  exact q3
end MWE
