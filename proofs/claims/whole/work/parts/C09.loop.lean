
/-! ===== the calls, one after another ===== -/
theorem bd_4 {L p j : Nat} (hL : L ≤ 2048) (hp : p + 4 ≤ L) (hj : j < 4) : my_bd (Int32.ofNat p + Int32.ofNat j) L := by
  unfold my_bd
  rw [oN_a, oN_i (by omega)]
  omega
theorem end_4 {L p : Nat} (hL : L ≤ 2048) (hp : p ≤ 4096) : Int32.ofNat L - 4 < Int32.ofNat p ↔ L < p + 4 := by
  rw [Int32.lt_iff_toInt_lt, Int32.toInt_sub, oN_i (by omega), oN_i (by omega), show (4 : Int32).toInt = 4 from rfl, Int.bmod_eq_of_le (by omega) (by omega)]
  omega
theorem whole_loop {fv : Value} {L : Nat} {xs : Nat → Int32} (he : fmO (fv, L, xs)) (hL : L ≤ 2048) : ∀ (r i cnt M : Nat) (κ : my_K) (σ : my_S), L < 4 * i + 4 * r + 4 → 4 * i ≤ 4096 → r ≤ κ.2.1 → 6 * r ≤ κ.2.2 → cnt + r < 1000000000 → M + 13 * r + 14 < 65535 → INV cnt M σ → ys_law_23 (fv, L, xs) 1049 (Int32.ofNat (4 * i)) κ σ my_Q1
  | 0, i, cnt, M, κ, σ, h1, h2, h3, h4, h5, h6, h => one_end _ ((end_4 hL h2).mpr (by omega)) κ σ
  | r + 1, i, cnt, M, κ, σ, h1, h2, h3, h4, h5, h6, h => by
    by_cases c : L < 4 * i + 4
    · exact one_end _ ((end_4 hL h2).mpr (by omega)) κ σ
    · have b0 : my_bd (Int32.ofNat (4 * i)) L := by
        unfold my_bd
        rw [oN_i (by omega)]
        omega
      have b1 : my_bd (Int32.ofNat (4 * i) + 1) L := bd_4 (j := 1) hL (by omega) (by omega)
      have b2 : my_bd (Int32.ofNat (4 * i) + 2) L := bd_4 (j := 2) hL (by omega) (by omega)
      have b3 : my_bd (Int32.ofNat (4 * i) + 3) L := bd_4 (j := 3) hL (by omega) (by omega)
      refine INV_step he h (by omega) (by omega) ⟨by omega, by omega⟩ b0 b1 b2 b3 (fun hh => c ((end_4 hL h2).mp hh)) (fun κ' σ' cnt' hk hc hI => ?_)
      have hk' : r ≤ κ'.2.1 ∧ 6 * r ≤ κ'.2.2 := by
        rcases hk with rfl | rfl
        · exact ⟨by omega, by omega⟩
        · exact ⟨show r ≤ κ.2.1 - 1 by omega, show 6 * r ≤ κ.2.2 - 6 by omega⟩
      have hW := whole_loop he hL r (i + 1) cnt' (M + 13) κ' σ' (by omega) (by omega) hk'.1 hk'.2 (by omega) (by omega) hI
      unfold ys_law_1663
      rw [show Int32.ofNat (4 * i) + 4 = Int32.ofNat (4 * (i + 1)) from oN_a (4 * i) 4]
      exact ys_law_23_ok hW
theorem whole_true {L : Nat} {xs : Nat → Int32} (hL : L ≤ 2048) : mc_true L xs := by
  refine mc_true_of (fun fv hfv => ?_)
  have hAB : (my_chkA fv = true ∧ my_chkB fv = true) ∧ my_chkC fv = true ∧ my_chkD fv = true := by
    rcases hfv with rfl | rfl
    · exact ⟨⟨my_chkA_n, my_chkB_n⟩, my_chkC_n, my_chkD_n⟩
    · exact ⟨⟨my_chkA_r, my_chkB_r⟩, my_chkC_r, my_chkD_r⟩
  obtain ⟨f, σ, h1, h2, h3⟩ := my_start2 fv hAB.1.1 hAB.1.2 hAB.2.1 hAB.2.2 L xs
  have hW : ys_law_23 (fv, L, xs) 1049 0 (586, 601024 - 554, 7293034 - 275688) σ my_Q1 := whole_loop (xs := xs) (show fmO (fv, L, xs) from hfv) hL 512 0 0 1 (586, 601024 - 554, 7293034 - 275688) σ (by omega) (by omega) (show 512 ≤ 601024 - 554 by omega) (show 6 * 512 ≤ 7293034 - 275688 by omega) (by omega) (by omega) (INV_0 h2)
  have hsub : my_sub [(0, .inr (.inr (some 0))), (1, .inr (.inr (some 32))), (2, .inr (.inr (some 498))), (3, .inr (.inr (some 585))), (4, .inl 0)] [(4, .int 0), (3, .ref 585), (2, .ref 498), (1, .ref 32), (0, .ref 0)] := by
    intro x hx
    simp only [List.mem_cons, List.not_mem_nil, or_false] at hx
    rcases hx with rfl | rfl | rfl | rfl | rfl <;> rfl
  obtain ⟨o, n', f', c', s', o', σ', q1, q2, q3, q4, q5⟩ := ys_law_23_ok hW [(4, .int 0), (3, .ref 585), (2, .ref 498), (1, .ref 32), (0, .ref 0)] f 601024 7293034 554 275688 hsub h1 ⟨by omega, by omega⟩ ⟨rfl, rfl⟩
  have q5 : o' = .inl (some (.inl 1)) := q5
  subst q5
  rcases o with v | x
  · have q4 : v = some (.int 1) := q4
    subst q4
    exact ⟨n', f', c', s', h3 _ q1, q2.2.1, q2.2.2⟩
  · cases q4
