
/-! ===== the class fetches a record, with its name ===== -/
section MLN
variable {e : my_E} {d : Nat} {κ : my_K} {σ σ' : my_S} {Q : my_O → my_K → my_S → Prop} {A : Nat} {E : List Et} {y : Nat × Et} {nm : List Nat} {F : Nat → Nat → Prop}
theorem c_172ln {z : Int64} (hA : lg2 A) (hW : LgW E) (h : LgC A E σ) (hy : y ∈ pse E 0) (hC : (eC y.2).length = 11 + 2 * g1 (eC y.2) 10) (h30 : g1 (eC y.2) 10 ≤ 30) (hd : 3 ≤ d) (hQ : ∀ σ', OcC (eC y.2) σ' → σ'.2.1 92 0 = z → eqp oF σ σ' → Q (.inl (some (.inl 1))) κ σ') : ∀ (m j : Nat) (σ' : my_S), j + m = g1 (eC y.2) 10 → σ'.2.1 92 0 = z → eqp oF σ σ' → oc6 (eC y.2) σ' → σ'.1 92 7 = Int32.ofNat j → (∀ i, i < j → σ'.1 93 i = Int32.ofNat (g2 (eC y.2) (11 + 2 * i))) → ys_172_172 e d A (some 92) (Int32.ofNat (y.1 + 1 + (eN y.2).length)) (Int32.ofNat (g1 (eC y.2) 10)) (Int32.ofNat j) κ σ' Q := by
  intro m
  induction m with
  | zero =>
    intro j σ' hj o9 f o6 o7 o8
    have : j = g1 (eC y.2) 10 := by omega
    subst this
    unfold ys_172_172
    rw [if_neg (by rw [oN_lt (by omega) (by omega)]; omega)]
    exact hQ σ' ⟨o6, o7, o8⟩ o9 f
  | succ m ih =>
    intro j σ' hj o9 f o6 o7 o8
    obtain ⟨d, rfl⟩ := dS 1 (show 1 ≤ d by omega)
    unfold ys_172_172
    rw [if_pos ((oN_lt (by omega) (by omega)).mpr (by omega))]
    refine c_12y (i := 11 + 2 * j) hA hW h f hy (by omega) (by rw [show (11 : Int32) = Int32.ofNat 11 from rfl, show (2 : Int32) = Int32.ofNat 2 from rfl, ← Int32.ofNat_mul, oN_a, oN_a]; congr 1; omega) (by omega) ?_
    rw [my_kI_v]
    refine ⟨92, rfl, in9, ys_189 ?_⟩
    unfold ys_189_0 ys_189_39
    rw [o7, if_neg (oN_0 (by omega)), if_pos ((oN_lt1 (b := 30) (c := 30) rfl (by omega) (by omega)).mpr (by omega)), oN_n (by omega), oN_s]
    refine ⟨bdk (by omega) (by omega), ?_⟩
    rw [my_k0_v]
    refine ys_172_172_ok (in8 hA) (ih (j + 1) _ (by omega) (by rw [my_uI_2, my_uI_2]; exact o9) (eqp_I (eqp_I f (Or.inr rfl)) (Or.inl rfl)) ?_ uI_s (fun i hi => ?_))
    · obtain ⟨a1, a2, a3, a4, a5, a6⟩ := o6
      refine ⟨?_, ?_, ?_, ?_, ?_, ?_⟩ <;> rw [my_uI_1, if_neg (by omega), my_uI_1, if_neg (by omega)] <;> assumption
    · rw [my_uI_1, if_neg (by omega), my_uI_1]
      by_cases c : i = j
      · rw [if_pos ⟨rfl, c⟩, c]
      · rw [if_neg (by omega)]; exact o8 i (by omega)
theorem c_172kn (hA : lg2 A) (hW : LgW E) (h : LgC A E σ) (hl : isN nm) (hd : 3 ≤ d) (hx : lrc (rcp E) nm (rcp E).length = none → Q (.inl (some (.inl 0))) κ σ) (hQ : ∀ y, lrc (rcp E) nm (rcp E).length = some y → ∀ σ', OcC (eC y.2) σ' → σ'.2.1 92 0 = nmC nm → eqp oF σ σ' → Q (.inl (some (.inl 1))) κ σ') : ∀ (n : Nat), n ≤ (rcp E).length → lrc (rcp E) nm n = lrc (rcp E) nm (rcp E).length → ys_172_16 e d A (some 92) (nmC nm) (Int32.ofNat n - 1) κ σ Q := by
  have hn := LgW_n hW
  intro n
  induction n with
  | zero =>
    intro _ hr
    unfold ys_172_16 ys_172_39
    rw [if_pos (by decide), if_pos (by decide)]
    exact hx hr.symm
  | succ n ih =>
    intro hl' hr
    have hlt : n < (rcp E).length := by omega
    have hy := List.getElem?_eq_getElem hlt
    generalize (rcp E)[n] = y at hy
    have hym := rcp_m (List.mem_of_getElem? hy)
    have hwf := wfl_p hW.1 hym.1
    obtain ⟨r1, r2⟩ := h.2.2.2.2 n y hy
    unfold ys_172_16
    rw [oN_m, if_neg (oN_0 (by omega)), oN_n (by omega), r1]
    refine ⟨bdk (by omega) (by omega), ?_⟩
    rw [lrc_s hy] at hr
    by_cases c : eN y.2 = nm
    · rw [if_pos c] at hr
      rw [if_pos (lg_cmp_0.mpr (by rw [c]))]
      unfold ys_172_39
      rw [if_neg (oN_0 (by omega)), oN_n (by omega), r2]
      have hk : eK y.2 = 2 := by
        rcases hwf.2.2.2 with hh | hh
        · exact absurd hh.1 hym.2
        · exact hh.1
      have hc : (eC y.2).length = 11 + 2 * g1 (eC y.2) 10 ∧ g1 (eC y.2) 10 ≤ 30 := by
        rcases hwf.2.2.2 with hh | hh
        · exact absurd hh.1 hym.2
        · exact ⟨hh.2.1, hh.2.2.1⟩
      obtain ⟨hC, h30⟩ := hc
      have f0 : eqp oF σ (my_uL σ 92 0 (nmC nm)) := eqp_L eqp_rf (Or.inl rfl)
      refine ⟨bdk (by omega) (by omega), 92, rfl, in9, c_3y (i := 0) hA hW h f0 hym.1 (by omega) rfl (by omega) ?_⟩
      rw [my_kI_v]
      refine ⟨92, rfl, in9, c_12y (i := 1) hA hW h (oF_u f0) hym.1 (by omega) (oN_s _) (by omega) ?_⟩
      rw [my_kI_v]
      refine ⟨92, rfl, in9, c_3y (i := 3) hA hW h (oF_u (oF_u f0)) hym.1 (by omega) (oN_a _ 3) (by omega) ?_⟩
      rw [my_kI_v]
      refine ⟨92, rfl, in9, c_12y (i := 4) hA hW h (oF_u (oF_u (oF_u f0))) hym.1 (by omega) (oN_a _ 4) (by omega) ?_⟩
      rw [my_kI_v]
      refine ⟨92, rfl, in9, c_12y (i := 6) hA hW h (oF_u (oF_u (oF_u (oF_u f0)))) hym.1 (by omega) (oN_a _ 6) (by omega) ?_⟩
      rw [my_kI_v]
      refine ⟨92, rfl, in9, c_12y (i := 8) hA hW h (oF_u (oF_u (oF_u (oF_u (oF_u f0))))) hym.1 (by omega) (oN_a _ 8) (by omega) ?_⟩
      rw [my_kI_v]
      refine ⟨92, rfl, in9, 92, rfl, in9, c_3y (i := 10) hA hW h (oF_u (oF_u (oF_u (oF_u (oF_u (oF_u (oF_u f0))))))) hym.1 (by omega) (oN_a _ 10) (by omega) ?_⟩
      rw [my_kI_v]
      refine ys_172_172_ok (in8 hA) (c_172ln hA hW h hym.1 hC h30 (by omega) (hQ y hr.symm) _ 0 _ (Nat.zero_add _) (by rw [my_uI_2, my_uI_2, my_uI_2, my_uI_2, my_uI_2, my_uI_2, my_uI_2, my_uL_2, if_pos ⟨rfl, rfl⟩]) (oF_u (oF_u (oF_u (oF_u (oF_u (oF_u (oF_u f0))))))) ?_ uI_s (fun i hi => by omega))
      refine ⟨?_, ?_, ?_, ?_, ?_, ?_⟩
      · rw [my_uI_1, if_neg (by omega), my_uI_1, if_neg (by omega), my_uI_1, if_neg (by omega), my_uI_1, if_neg (by omega), my_uI_1, if_neg (by omega), my_uI_1, if_neg (by omega), my_uI_1, if_pos ⟨rfl, rfl⟩]
      · rw [my_uI_1, if_neg (by omega), my_uI_1, if_neg (by omega), my_uI_1, if_neg (by omega), my_uI_1, if_neg (by omega), my_uI_1, if_neg (by omega), my_uI_1, if_pos ⟨rfl, rfl⟩]
      · rw [my_uI_1, if_neg (by omega), my_uI_1, if_neg (by omega), my_uI_1, if_neg (by omega), my_uI_1, if_neg (by omega), my_uI_1, if_pos ⟨rfl, rfl⟩]
      · rw [my_uI_1, if_neg (by omega), my_uI_1, if_neg (by omega), my_uI_1, if_neg (by omega), my_uI_1, if_pos ⟨rfl, rfl⟩]
      · rw [my_uI_1, if_neg (by omega), my_uI_1, if_neg (by omega), my_uI_1, if_pos ⟨rfl, rfl⟩]
      · rw [my_uI_1, if_neg (by omega), my_uI_1, if_pos ⟨rfl, rfl⟩]
    · rw [if_neg c] at hr
      rw [if_neg (fun hh => c ((nmC_inj hwf.1 hl).mp (lg_cmp_0.mp hh)))]
      refine ys_172_16_ok (in8 hA) ?_
      have := ih (by omega) hr
      rw [show Int32.ofNat n + Int32.ofInt (-1) = Int32.ofNat n - 1 by rw [Int32.sub_eq_add_neg]; rfl]
      exact this
theorem c_172N (hA : lg2 A) (hW : LgW E) (h : LgC A E σ) (hl : isN nm) (hd : 4 ≤ d) (hx : lrc (rcp E) nm (rcp E).length = none → Q (.inl (some (.inl 0))) κ σ) (hQ : ∀ y, lrc (rcp E) nm (rcp E).length = some y → ∀ σ', OcC (eC y.2) σ' → σ'.2.1 92 0 = nmC nm → eqp oF σ σ' → Q (.inl (some (.inl 1))) κ σ') : my_M e d 172 [.inr (.inr (some A)), .inr (.inr (some 92)), .inr (.inl (nmC nm))] κ σ Q := by
  obtain ⟨d, rfl⟩ := dS 1 (show 1 ≤ d by omega)
  have hn := LgW_n hW
  refine ys_172 (in8 hA) ?_
  unfold ys_172_0
  rw [h.2.2.2.1, if_neg (fun hh => by have := (oN_lt2 (b := 500) (c := 500) rfl (by omega) (by omega)).mp hh; omega)]
  exact ys_172_16_ok (in8 hA) (c_172kn hA hW h hl (by omega) hx hQ _ (Nat.le_refl _) rfl)
end MLN
