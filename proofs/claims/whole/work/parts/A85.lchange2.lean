
/-! ===== change, the law's ===== -/
section MKL
variable {e : my_E} {d : Nat} {κ : my_K} {σ : my_S} {Q : my_O → my_K → my_S → Prop} {As Bs : List Ri} {I I' : List It} {rv ol : Nat} {v4 : Int32}
theorem l_6b (h : LD As I rv σ) (hB : itsB Bs) (ho : OLC Bs I' ol σ) (hr : OLB Bs I' σ) (hne : rv ≠ ol) (hc : σ.1 32 10 < 2 ↔ σ.1 498 65 = 1) (hκ : 1 ≤ κ.2.1 ∧ 6 ≤ κ.2.2) (b1 : my_bd (v4 + 1) e.2.1) (b2 : my_bd (v4 + 2) e.2.1) (hn : ∀ κ' σ', (κ' = κ ∨ κ' = (κ.1 + 1, κ.2.1 - 1, κ.2.2 - 6)) → eqp rtF σ σ' → ys_law_1663 e 1049 v4 κ' σ' Q) : ys_law_461 e 1049 v4 κ σ Q := by
  unfold ys_law_461
  refine ⟨b1, b2, ys_381 ?_⟩
  unfold ys_381_0
  generalize e.2.2 (v4 + 1 : Int32).toNatClampNeg = x1
  generalize e.2.2 (v4 + 2 : Int32).toNatClampNeg = x2
  refine c_20b h ho hne hκ (by omega) (fun hb => ?_) (fun k a hk ha => ?_)
  · rw [my_kI_x, if_neg (show ¬ (15 : Nat) = 13 by decide), if_pos rfl, my_kI_v]
    refine ⟨b1, b2, r_348b h hB hr (by omega) (fun _ σ1 u1 f1 => ?_) (fun k a σ1 hk => by rw [hk] at hb; cases hb)⟩
    rw [my_kI_v]
    refine r_213 ?_
    rw [my_kI_v, u1, if_pos rfl, if_neg (by decide)]
    unfold ys_law_526
    exact hn _ σ1 (Or.inr rfl) (eqp_mo f1 (fun _ _ => Or.inl))
  · rw [my_kI_v, my_kI_v]
    have hy2 : (if σ.1 32 10 < 2 then Int32.ofInt (-1) else chg As I Bs I' k a) = (if σ.1 498 65 = 1 then Int32.ofInt (-1) else chg As I Bs I' k a) := by
      by_cases c : σ.1 32 10 < 2
      · rw [if_pos c, if_pos (hc.mp c)]
      · rw [if_neg c, if_neg (fun hh => c (hc.mpr hh))]
    rw [hy2]
    generalize hy : (if σ.1 498 65 = 1 then Int32.ofInt (-1) else chg As I Bs I' k a) = y
    have f0 : eqp rtF σ (my_uL σ 585 0 y.toInt64) := eqp_L eqp_rf (Or.inr ⟨rfl, rfl⟩)
    have u0 : (my_uL σ 585 0 y.toInt64).2.1 585 0 = y.toInt64 := by
      rw [my_uL_2, if_pos ⟨rfl, rfl⟩]
    generalize my_uL σ 585 0 y.toInt64 = σ0 at f0 u0 ⊢
    have h' : LD As I rv σ0 := LD_o (LD_30 h) h f0 (fun c k hh => by
      have := h.2.2.1
      unfold rtF at hh
      unfold coF
      omega)
    have hr' : OLB Bs I' σ0 := OLB_o hr f0 (fun c k hh => by unfold rtF at hh; omega)
    refine ⟨b1, b2, r_348b h' hB hr' (by omega) (fun hb => by rw [hk] at hb; cases hb) (fun k' a' σ1 hk' ha' u1 f1 => ?_)⟩
    rw [hk] at hk'
    cases hk'
    rw [ha] at ha'
    cases ha'
    rw [my_kI_v]
    refine r_213 ?_
    rw [my_kI_v, u1, if_pos rfl, if_pos rfl, eqp_g f0 (show ¬ rtF 498 65 by unfold rtF; omega), hy]
    have u2 : σ1.2.1 585 0 = y.toInt64 := by rw [← u0]; exact (f1 _ _ (by omega)).2.1
    rw [if_pos (lg_cmp_0.mpr u2)]
    unfold ys_law_526
    exact hn _ σ1 (Or.inl rfl) (eqp_tr f0 (eqp_mo f1 (fun _ _ => Or.inl)))
/-- what is loaded becomes what was before -/
theorem OLB_of {m l : Nat} {σ0 : my_S} (hm : m = Bs.length) (hl : l = (ibA I' 0 Bs).length) (hl6 : (ibA I' 0 Bs).length ≤ 6144) (h : NowR I' Bs σ0) (ho : OldR m l σ0 σ) : OLB Bs I' σ := by
  obtain ⟨h1, h2, h3, _⟩ := h
  obtain ⟨o1, o2, o3⟩ := ho
  refine ⟨⟨by rw [o1, hm], fun j b hb => ?_⟩, fun j b hb => ?_, fun i x hi => ?_, hl6⟩
  · have hjl := (List.getElem?_eq_some_iff.mp hb).1
    obtain ⟨y1, y2, y3, y4, y5⟩ := h2 j b hb
    obtain ⟨x1, x2, x3, x4⟩ := o2 j (by omega)
    exact ⟨x1.trans y1, x2.trans y2⟩
  · have hjl := (List.getElem?_eq_some_iff.mp hb).1
    obtain ⟨y1, y2, y3, y4, y5⟩ := h2 j b hb
    obtain ⟨x1, x2, x3, x4⟩ := o2 j (by omega)
    exact ⟨x3.trans y3, x4.trans y4⟩
  · have hil := (List.getElem?_eq_some_iff.mp hi).1
    exact (o3 i (by omega)).trans (h1.2 i x hi)
/-- .. or there was nothing -/
theorem OLB_0 {l : Nat} {σ0 : my_S} (ho : OldR 0 l σ0 σ) : OLB [] [] σ := ⟨⟨ho.1, fun j b hb => by simp at hb⟩, fun j b hb => by simp at hb, fun i x hi => by simp [ibA] at hi, by simp [ibA]⟩
end MKL
