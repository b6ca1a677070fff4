
/-! ===== code, the law's ===== -/
theorem nn_of {v : Int32} (h : ¬ v < 0) : ∃ w : Nat, v = Int32.ofNat w ∧ w < 2147483648 := by
  have h0 : 0 ≤ v.toInt := by
    have := Int32.not_lt.mp h
    rw [Int32.le_iff_toInt_le] at this
    simpa using this
  have h1 := Int32.toInt_lt v
  refine ⟨v.toInt.toNat, ?_, by omega⟩
  apply Int32.toInt_inj.mp
  rw [oN_i (by omega)]
  omega
/-- something is loaded -/
def LD (As : List Ri) (I : List It) (rv : Nat) (σ : my_S) : Prop := itsB As ∧ iRel As I ∧ (rv = 108 ∨ rv = 238 ∨ rv = 368) ∧ ¬ σ.1 32 10 = 0 ∧ ¬ σ.1 498 65 = 0 ∧ σ.2.2 32 7 = some rv ∧ RevC I As rv σ ∧ NowR I As σ
def rtF (c k : Nat) : Prop := (c = 498 ∧ k = 0) ∨ (c = 585 ∧ k = 0)
section MKD
variable {e : my_E} {d : Nat} {κ : my_K} {σ : my_S} {Q : my_O → my_K → my_S → Prop} {As : List Ri} {I : List It} {rv : Nat}
theorem c_3r {v : Nat} (hrv : rv = 108 ∨ rv = 238 ∨ rv = 368) (hv : v < 6144) (hd : 1 ≤ d) (hQ : Q (.inl (some (.inl (σ.1 (rv + 1) v &&& 255)))) κ σ) : my_M e d 3 [.inr (.inr (some (rv + 1))), .inl (Int32.ofNat v)] κ σ Q := by
  obtain ⟨d, rfl⟩ := dS 1 hd
  have b := bdk (k := v) (m := 6144) hv (by omega)
  rcases hrv with rfl | rfl | rfl
  · refine yb109_3 ?_
    unfold yb109_3_0 yb109_3_21
    rw [if_neg (oN_0 (by omega)), if_pos ((oN_lt1 (b := 6144) (c := 6144) rfl (by omega) (by omega)).mpr hv), oN_n (by omega)]
    exact ⟨b, hQ⟩
  · refine yb239_3 ?_
    unfold yb239_3_0 yb239_3_21
    rw [if_neg (oN_0 (by omega)), if_pos ((oN_lt1 (b := 6144) (c := 6144) rfl (by omega) (by omega)).mpr hv), oN_n (by omega)]
    exact ⟨b, hQ⟩
  · refine yb369_3 ?_
    unfold yb369_3_0 yb369_3_21
    rw [if_neg (oN_0 (by omega)), if_pos ((oN_lt1 (b := 6144) (c := 6144) rfl (by omega) (by omega)).mpr hv), oN_n (by omega)]
    exact ⟨b, hQ⟩
theorem c_202 {v : Nat} (hrv : rv = 108 ∨ rv = 238 ∨ rv = 368) (hv : v < 6144) (hd : 2 ≤ d) (hQ : Q (.inl (some (.inl (σ.1 (rv + 1) v &&& 255)))) κ σ) : my_M e d 202 [.inr (.inr (some rv)), .inl (Int32.ofNat v)] κ σ Q := by
  obtain ⟨d, rfl⟩ := dS 1 (show 1 ≤ d by omega)
  refine ys_202 (in10 hrv) ?_
  unfold ys_202_0
  refine c_3r hrv hv (by omega) ?_
  rw [my_kI_v]
  exact hQ
/-- the item, or what is thrown -/
theorem c_17b {v1 v2 : Int32} (h : LD As I rv σ) (hκ : 1 ≤ κ.2.1 ∧ 6 ≤ κ.2.2) (hd : 7 ≤ d) (hx : fkA As v1 v2 As.length 0 = none → Q (.inr (κ.1, 15)) (κ.1 + 1, κ.2.1 - 1, κ.2.2 - 6) σ) (hQ : ∀ k, fkA As v1 v2 As.length 0 = some k → Q (.inl (some (.inr (.inr (some (rv + 4 + 3 * k)))))) κ σ) : my_M e d 17 [.inr (.inr (some 32)), .inl v1, .inl v2] κ σ Q := by
  obtain ⟨h1, h2, h3, h4, h5, h6, h7, h8⟩ := h
  obtain ⟨d, rfl⟩ := dS 2 (show 2 ≤ d by omega)
  refine ys_17 ?_
  unfold ys_17_0
  refine ys_10 ?_
  unfold ys_10_0
  rw [if_neg h4, my_k0_v]
  refine ⟨rv, h6, in10 h3, ?_⟩
  refine c_200 h3 h2 h7.1 h7.2.1 (by omega) ?_
  rw [my_kA_v]
  cases hf : fkA As v1 v2 As.length 0 with
  | none =>
    rw [Option.map_none, if_pos rfl]
    exact ⟨⟨by omega, hκ.1, hκ.2⟩, hx hf⟩
  | some k =>
    rw [if_neg (by simp)]
    exact hQ k hf
/-- the bytes of an item -/
theorem ib_at {k w : Nat} {a : Ri} (ha : As[k]? = some a) (hw : w < (ib I (rwA (As.take k)).length a).length) : ∃ x, (ibA I 0 As)[(ibA I 0 (As.take k)).length + w]? = some x := by
  have h1 := ibA_take (I := I) ha
  have h2 := ibA_le (I := I) (As := As) (k := k + 1)
  rw [h1, List.length_append] at h2
  exact ⟨_, List.getElem?_eq_getElem (by omega)⟩
theorem ib_l {k : Nat} {a : Ri} (ha : As[k]? = some a) : (ibA I 0 (As.take k)).length + (ib I (rwA (As.take k)).length a).length ≤ (ibA I 0 As).length := by
  have h1 := ibA_take (I := I) ha
  have h2 := ibA_le (I := I) (As := As) (k := k + 1)
  rw [h1, List.length_append] at h2
  exact h2
/-- what code answers: nothing there, behind the end, a byte -/
theorem c_16b {v1 v2 v3 : Int32} (h : LD As I rv σ) (hκ : 1 ≤ κ.2.1 ∧ 6 ≤ κ.2.2) (hd : 8 ≤ d)
    (hx : fkA As v1 v2 As.length 0 = none ∨ v3 < 0 → Q (.inr (κ.1, 15)) (κ.1 + 1, κ.2.1 - 1, κ.2.2 - 6) σ)
    (hQ : ∀ k a w, fkA As v1 v2 As.length 0 = some k → As[k]? = some a → v3 = Int32.ofNat w → w < 2147483648 → (∀ y, (w < (ib I (rwA (As.take k)).length a).length → ∃ x, (ibA I 0 As)[(ibA I 0 (As.take k)).length + w]? = some x ∧ y = x &&& 255) → (¬ w < (ib I (rwA (As.take k)).length a).length → y = Int32.ofInt (-1)) → Q (.inl (some (.inl y))) κ σ)) : my_M e d 16 [.inr (.inr (some 32)), .inl v1, .inl v2, .inl v3] κ σ Q := by
  obtain ⟨d, rfl⟩ := dS 1 (show 1 ≤ d by omega)
  refine ys_16 ?_
  unfold ys_16_0
  refine c_17b h hκ (by omega) (fun hn => ?_) (fun k hk => ?_)
  · rw [my_kA_x]
    exact hx (Or.inl hn)
  rw [my_kA_v]
  obtain ⟨h1, h2, h3, h4, h5, h6, h7, h8⟩ := h
  obtain ⟨d, rfl⟩ := dS 1 (show 1 ≤ d by omega)
  refine ys_18 ?_
  unfold ys_18_0
  refine my_if (fun c => ?_) (fun c => ?_)
  · rw [my_k0_x]
    exact ⟨⟨by omega, hκ.1, hκ.2⟩, hx (Or.inr c)⟩
  · rw [my_k0_v]
    have hkA := fkA_lt hk
    have h42 := itsB_42 h1
    obtain ⟨a, ha⟩ : ∃ a, As[k]? = some a := ⟨_, List.getElem?_eq_getElem hkA⟩
    obtain ⟨c1, c2, c3, c4⟩ := h7.2.2.2.2 k a ha
    obtain ⟨w, hw, hw2⟩ := nn_of c
    have hil := ib_l (I := I) ha
    have h61 := h7.2.2.2.1
    refine ⟨_, rfl, in11 h3 (by omega), ?_⟩
    rw [c3, hw]
    refine my_if (fun c5 => ?_) (fun c5 => ?_)
    · have c5 := (oN_lt hw2 (by omega)).mp c5
      refine ⟨_, rfl, in11 h3 (by omega), rv, h6, in10 h3, ?_⟩
      rw [c2, ← Int32.ofNat_add]
      refine c_202 h3 (by omega) (by omega) ?_
      rw [my_kI_v]
      unfold ys_16_40
      obtain ⟨x, hx2⟩ := ib_at (I := I) ha c5
      rw [h7.2.2.1.2 _ x hx2]
      exact hQ k a w hk ha hw hw2 _ (fun _ => ⟨x, hx2, rfl⟩) (fun hh => absurd c5 hh)
    · unfold ys_16_40
      have c5 : ¬ w < (ib I (rwA (As.take k)).length a).length := fun hh => c5 ((oN_lt hw2 (by omega)).mpr hh)
      exact hQ k a w hk ha hw hw2 _ (fun hh => absurd hh c5) (fun _ => rfl)
end MKD
