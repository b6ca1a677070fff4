
/-! ===== the class writes a record ===== -/
/-- the contents of a record -/
def rcC (f1 f2 f3 f4 f5 f6 : Int32) (ws : List Int32) : List Int32 := bts f1 1 0 ++ (bts f2 2 0 ++ (bts f3 1 0 ++ (bts f4 2 0 ++ (bts f5 2 0 ++ (bts f6 2 0 ++ (bts (Int32.ofNat ws.length) 1 0 ++ ws.flatMap (fun w => bts w 2 0)))))))
theorem fm2_l : ∀ {ws : List Int32}, (ws.flatMap (fun w => bts w 2 0)).length = 2 * ws.length
  | [] => rfl
  | w :: r => by rw [List.flatMap_cons, List.length_append, bts_l, fm2_l, List.length_cons]; omega
theorem rcC_l {f1 f2 f3 f4 f5 f6 : Int32} {ws : List Int32} : (rcC f1 f2 f3 f4 f5 f6 ws).length = 11 + 2 * ws.length := by
  unfold rcC
  simp only [List.length_append, bts_l, fm2_l]
  omega
/-- the outcome to be written -/
def OcW (nm : List Nat) (f1 f2 f3 f4 f5 f6 : Int32) (ws : List Int32) (σ : my_S) : Prop := σ.2.1 92 0 = nmC nm ∧ σ.1 92 1 = f1 ∧ σ.1 92 2 = f2 ∧ σ.1 92 3 = f3 ∧ σ.1 92 4 = f4 ∧ σ.1 92 5 = f5 ∧ σ.1 92 6 = f6 ∧ σ.1 92 7 = Int32.ofNat ws.length ∧ ∀ j w, ws[j]? = some w → σ.1 93 j = w
def wrF (A : Nat) (c k : Nat) : Prop := (c = A ∧ (k = 1 ∨ k = 9 ∨ k = 10)) ∨ c = A + 1 ∨ (A + 5 ≤ c ∧ c ≤ A + 6)
section MWR
variable {e : my_E} {d : Nat} {κ : my_K} {σ σ' : my_S} {Q : my_O → my_K → my_S → Prop} {A : Nat} {E E' : List Et} {B : List Int32} {R : List (List Nat × Nat)} {nm : List Nat} {f1 f2 f3 f4 f5 f6 : Int32} {ws : List Int32}
theorem OcW_o {F : Nat → Nat → Prop} (h : OcW nm f1 f2 f3 f4 f5 f6 ws σ) (f : eqp F σ σ') (hF : ∀ c k, F c k → c ≠ 92 ∧ c ≠ 93) : OcW nm f1 f2 f3 f4 f5 f6 ws σ' := by
  have g : ∀ {k : Nat}, σ'.1 92 k = σ.1 92 k := eqp_g f (fun hh => (hF _ _ hh).1 rfl)
  obtain ⟨h0, h1, h2, h3, h4, h5, h6, h7, h8⟩ := h
  exact ⟨((f _ _ (fun hh => (hF _ _ hh).1 rfl)).2.1).trans h0, g.trans h1, g.trans h2, g.trans h3, g.trans h4, g.trans h5, g.trans h6, g.trans h7, fun j w hw => (eqp_g f (fun hh => (hF _ _ hh).2 rfl)).trans (h8 j w hw)⟩
theorem w_180e (hA : lg2 A) (hw : ws.length ≤ 30) (hd : 1 ≤ d) (hO : OcW nm f1 f2 f3 f4 f5 f6 ws σ) (hQ : ∀ σ', WB A (B ++ ws.flatMap (fun w => bts w 2 0)) σ' → eqp (wbF A) σ σ' → Q (.inl none) κ σ') : ∀ (m j : Nat) (σ' : my_S), j + m = ws.length → WB A (B ++ (ws.take j).flatMap (fun w => bts w 2 0)) σ' → eqp (wbF A) σ σ' → ys_180_139 e d A (some 92) (Int32.ofNat j) κ σ' Q := by
  have hA' := hA
  unfold lg2 at hA'
  intro m
  induction m with
  | zero =>
    intro j σ' hj h f
    have : j = ws.length := by omega
    subst this
    have hO' := OcW_o hO f (fun c k hh => by unfold wbF at hh; omega)
    rw [List.take_length] at h
    unfold ys_180_139
    refine ⟨92, rfl, in9, ?_⟩
    rw [hO'.2.2.2.2.2.2.2.1, if_neg (by rw [oN_lt (by omega) (by omega)]; omega)]
    exact hQ σ' h f
  | succ m ih =>
    intro j σ' hj h f
    have hjl : j < ws.length := by omega
    have hO' := OcW_o hO f (fun c k hh => by unfold wbF at hh; omega)
    obtain ⟨d, rfl⟩ := dS 1 hd
    unfold ys_180_139
    refine ⟨92, rfl, in9, ?_⟩
    rw [hO'.2.2.2.2.2.2.2.1, if_pos ((oN_lt (by omega) (by omega)).mpr hjl)]
    refine ⟨92, rfl, in9, ys_190 ?_⟩
    unfold ys_190_0 ys_190_31
    rw [if_neg (oN_0 (by omega)), hO'.2.2.2.2.2.2.2.1, if_pos ((oN_lt (by omega) (by omega)).mpr hjl), if_pos ((oN_lt1 (b := 30) (c := 30) rfl (by omega) (by omega)).mpr (by omega)), oN_n (by omega), hO'.2.2.2.2.2.2.2.2 j _ (List.getElem?_eq_getElem hjl)]
    refine ⟨bdk (by omega) (by omega), ?_⟩
    rw [my_kI_v, show (2 : Int32) = Int32.ofNat 2 from rfl]
    refine w_178 (w := 2) (by omega) hA h (by omega) (fun σ2 h2 f2' => ?_)
    rw [my_k0_v, oN_s]
    refine ys_180_139_ok (in8 hA) (ih (j + 1) σ2 (by omega) ?_ (eqp_tr f f2'))
    rw [tk_s hjl, List.flatMap_append, ← List.append_assoc]
    rw [show [ws[j]].flatMap (fun w => bts w 2 0) = bts ws[j] 2 0 by rw [List.flatMap_cons, List.flatMap_nil, List.append_nil]]
    exact h2
theorem w_180n (hA : lg2 A) (hl : isN nm) (hw : ws.length ≤ 30) (hd : 1 ≤ d) (hO : OcW nm f1 f2 f3 f4 f5 f6 ws σ) (hN : NR A R σ) (hc : R.length = 500 → 7747 < B.length) (hQ : ∀ σ' R', (R.length < 500 → R' = R ++ [(nm, min (B.length + nm.length) 7747)]) → (R.length = 500 → R' = R) → WB A (B ++ (ltb nm ++ rcC f1 f2 f3 f4 f5 f6 ws)) σ' → NR A R' σ' → eqp (wrF A) σ σ' → Q (.inl none) κ σ') : ∀ (m j : Nat) (σ' : my_S), j + m = nm.length → WB A (B ++ (ltb nm).take j) σ' → eqp (wbF A) σ σ' → ys_180_38 e d A (some 92) (Int32.ofNat nm.length) (Int32.ofNat j) κ σ' Q := by
  have h8 := hl.2
  have hA' := hA
  unfold lg2 at hA'
  intro m
  induction m with
  | zero =>
    intro j σ' hj h f
    have : j = nm.length := by omega
    subst this
    have hN' := NR_o hN f (fun c k hh => by unfold wbF at hh; omega)
    have hO' := OcW_o hO f (fun c k hh => by unfold wbF at hh; omega)
    rw [show (ltb nm).take nm.length = ltb nm by rw [← ltb_l (l := nm), List.take_length]] at h
    have hbl : (B ++ ltb nm).length = B.length + nm.length := by rw [List.length_append, ltb_l]
    unfold ys_180_38
    rw [if_neg (by rw [oN_lt (by omega) (by omega)]; omega)]
    refine ⟨92, rfl, in9, ?_⟩
    rw [hO'.1, h.1, hbl]
    have f' : eqp (wrF A) σ σ' := eqp_mo f (fun c k hh => by unfold wbF at hh; unfold wrF; omega)
    have rest : ∀ (σ2 : my_S) (R' : List (List Nat × Nat)), (R.length < 500 → R' = R ++ [(nm, min (B.length + nm.length) 7747)]) → (R.length = 500 → R' = R) → WB A (B ++ ltb nm) σ2 → NR A R' σ2 → OcW nm f1 f2 f3 f4 f5 f6 ws σ2 → eqp (wrF A) σ σ2 → ∃ a7, (some 92 : Option Nat) = some a7 ∧ my_in 9 a7 ∧ (my_M e d 178 [.inr (.inr (some A)), .inl (σ2.1 a7 1), .inl 1] κ σ2 (my_k0 (fun κ11 σ12 => ∃ a13, (some 92 : Option Nat) = some a13 ∧ my_in 9 a13 ∧ (my_M e d 178 [.inr (.inr (some A)), .inl (σ12.1 a13 2), .inl 2] κ11 σ12 (my_k0 (fun κ17 σ18 => ∃ a19, (some 92 : Option Nat) = some a19 ∧ my_in 9 a19 ∧ (my_M e d 178 [.inr (.inr (some A)), .inl (σ18.1 a19 3), .inl 1] κ17 σ18 (my_k0 (fun κ23 σ24 => ∃ a25, (some 92 : Option Nat) = some a25 ∧ my_in 9 a25 ∧ (my_M e d 178 [.inr (.inr (some A)), .inl (σ24.1 a25 4), .inl 2] κ23 σ24 (my_k0 (fun κ29 σ30 => ∃ a31, (some 92 : Option Nat) = some a31 ∧ my_in 9 a31 ∧ (my_M e d 178 [.inr (.inr (some A)), .inl (σ30.1 a31 5), .inl 2] κ29 σ30 (my_k0 (fun κ35 σ36 => ∃ a37, (some 92 : Option Nat) = some a37 ∧ my_in 9 a37 ∧ (my_M e d 178 [.inr (.inr (some A)), .inl (σ36.1 a37 6), .inl 2] κ35 σ36 (my_k0 (fun κ41 σ42 => ∃ a43, (some 92 : Option Nat) = some a43 ∧ my_in 9 a43 ∧ (my_M e d 178 [.inr (.inr (some A)), .inl (σ42.1 a43 7), .inl 1] κ41 σ42 (my_k0 (fun κ47 σ48 => my_W e d mp_180 139 [(0, .inr (.inr (some A))), (1, .inr (.inr (some 92))), (3, .inl 0)] [] κ47 σ48 Q) (fun y49 κ50 σ51 => Q (.inr y49) κ50 σ51)))) (fun y52 κ53 σ54 => Q (.inr y52) κ53 σ54)))) (fun y55 κ56 σ57 => Q (.inr y55) κ56 σ57)))) (fun y58 κ59 σ60 => Q (.inr y58) κ59 σ60)))) (fun y61 κ62 σ63 => Q (.inr y61) κ62 σ63)))) (fun y64 κ65 σ66 => Q (.inr y64) κ65 σ66)))) (fun y67 κ68 σ69 => Q (.inr y67) κ68 σ69))) := fun σ2 R' r1 r2 h2 n2 o2 g2 => by
      have w : ∀ {F : Nat → Nat → Prop} {τ τ' : my_S}, OcW nm f1 f2 f3 f4 f5 f6 ws τ → eqp (wbF A) τ τ' → OcW nm f1 f2 f3 f4 f5 f6 ws τ' := fun ho hf => OcW_o ho hf (fun c k hh => by unfold wbF at hh; omega)
      refine ⟨92, rfl, in9, ?_⟩
      rw [o2.2.1]
      refine w_178 (w := 1) (by omega) hA h2 hd (fun σ3 h3 g3 => ?_)
      rw [my_k0_v]
      have o3 := OcW_o o2 g3 (fun c k hh => by unfold wbF at hh; omega)
      refine ⟨92, rfl, in9, ?_⟩
      rw [o3.2.2.1]
      refine w_178 (w := 2) (by omega) hA h3 hd (fun σ4 h4 g4 => ?_)
      rw [my_k0_v]
      have o4 := OcW_o o3 g4 (fun c k hh => by unfold wbF at hh; omega)
      refine ⟨92, rfl, in9, ?_⟩
      rw [o4.2.2.2.1]
      refine w_178 (w := 1) (by omega) hA h4 hd (fun σ5 h5 g5 => ?_)
      rw [my_k0_v]
      have o5 := OcW_o o4 g5 (fun c k hh => by unfold wbF at hh; omega)
      refine ⟨92, rfl, in9, ?_⟩
      rw [o5.2.2.2.2.1]
      refine w_178 (w := 2) (by omega) hA h5 hd (fun σ6 h6 g6 => ?_)
      rw [my_k0_v]
      have o6 := OcW_o o5 g6 (fun c k hh => by unfold wbF at hh; omega)
      refine ⟨92, rfl, in9, ?_⟩
      rw [o6.2.2.2.2.2.1]
      refine w_178 (w := 2) (by omega) hA h6 hd (fun σ7 h7 g7 => ?_)
      rw [my_k0_v]
      have o7 := OcW_o o6 g7 (fun c k hh => by unfold wbF at hh; omega)
      refine ⟨92, rfl, in9, ?_⟩
      rw [o7.2.2.2.2.2.2.1]
      refine w_178 (w := 2) (by omega) hA h7 hd (fun σ8 h8 g8 => ?_)
      rw [my_k0_v]
      have o8 := OcW_o o7 g8 (fun c k hh => by unfold wbF at hh; omega)
      refine ⟨92, rfl, in9, ?_⟩
      rw [o8.2.2.2.2.2.2.2.1]
      refine w_178 (w := 1) (by omega) hA h8 hd (fun σ9 h9 g9 => ?_)
      rw [my_k0_v]
      have o9 := OcW_o o8 g9 (fun c k hh => by unfold wbF at hh; omega)
      have g29 : eqp (wbF A) σ2 σ9 := eqp_tr g3 (eqp_tr g4 (eqp_tr g5 (eqp_tr g6 (eqp_tr g7 (eqp_tr g8 g9)))))
      generalize hG : B ++ ltb nm ++ bts f1 1 0 ++ bts f2 2 0 ++ bts f3 1 0 ++ bts f4 2 0 ++ bts f5 2 0 ++ bts f6 2 0 ++ bts (Int32.ofNat ws.length) 1 0 = G at h9
      refine ys_180_139_ok (in8 hA) (w_180e (σ := σ9) (B := G) hA hw hd o9 (fun σ10 h10 g10 => ?_) ws.length 0 σ9 (Nat.zero_add _) (by rw [List.take_zero, List.flatMap_nil, List.append_nil]; exact h9) eqp_rf)
      have g210 : eqp (wbF A) σ2 σ10 := eqp_tr g29 g10
      refine hQ σ10 R' r1 r2 ?_ (NR_o n2 g210 (fun c k hh => by unfold wbF at hh; omega)) (eqp_tr g2 (eqp_mo g210 (fun c k hh => by unfold wbF at hh; unfold wrF; omega)))
      rw [← hG] at h10
      unfold rcC
      simp only [List.append_assoc] at h10 ⊢
      exact h10
    refine w_181 hA hN' hd (fun h9 σ2 u2 n2 g2 => ?_) (fun h9 σ2 n2 g2 => ?_)
    · rw [my_k0_v]
      have h2 : WB A (B ++ ltb nm) σ2 := by
        have := hc h9
        refine ⟨(eqp_g g2 (by omega)).trans h.1, fun i x hi hx => (eqp_g g2 (by omega)).trans (h.2.1 i x hi hx), ?_⟩
        rw [u2, hbl, if_pos (by omega)]
      exact rest σ2 R (fun hh => by omega) (fun _ => rfl) h2 n2 (OcW_o hO' g2 (fun c k hh => by omega)) (eqp_tr f' (eqp_mo g2 (fun c k hh => by unfold wrF; omega)))
    · rw [my_k0_v]
      have h2 : WB A (B ++ ltb nm) σ2 := WB_o h g2 (fun c k hh => by unfold wbF; omega)
      exact rest σ2 _ (fun _ => rfl) (fun hh => by omega) h2 n2 (OcW_o hO' g2 (fun c k hh => by omega)) (eqp_tr f' (eqp_mo g2 (fun c k hh => by unfold wrF; omega)))
  | succ m ih =>
    intro j σ' hj h f
    have hjl : j < nm.length := by omega
    have hO' := OcW_o hO f (fun c k hh => by unfold wbF at hh; omega)
    unfold ys_180_38
    rw [if_pos ((oN_lt (by omega) (by omega)).mpr hjl)]
    refine ⟨92, rfl, in9, ?_⟩
    rw [hO'.1]
    refine c_5 hl (by omega) hd ?_
    rw [my_kI_v]
    refine w_178 (w := 1) (by omega) hA h hd (fun σ2 h2 g2 => ?_)
    rw [my_k0_v, oN_s]
    refine ys_180_38_ok (in8 hA) (ih (j + 1) σ2 (by omega) ?_ (eqp_tr f g2))
    have hlt : ltr nm j = nm[j] + 96 := by unfold ltr; rw [List.getElem?_eq_getElem hjl]
    have hlb : j < (ltb nm).length := by rw [ltb_l]; exact hjl
    have e1 : bts (Int32.ofNat (ltr nm j)) 1 0 = [(ltb nm)[j]] := by
      show [bt (Int32.ofNat (ltr nm j)) (Int32.ofNat 0)] = _
      have := ltb_g hjl
      rw [List.getElem?_eq_getElem hlb] at this
      rw [hlt, Option.some.inj this]
    rw [e1, List.append_assoc] at h2
    rw [tk_s hlb]
    exact h2
end MWR
