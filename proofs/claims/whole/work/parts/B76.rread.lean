
/-! ===== the reference reads its log from the disk ===== -/
def selH (D : Nat → Int32) : Nat := if b8 (D 8194) = 1 ∧ (¬ b8 (D 2) = 1 ∨ eD D 0 < eD D 8192) then 1 else 0
theorem DSK_s {D : Nat → Int32} {h ep M : Nat} {B : List Int32} (hk : DSK D h ep B M) : selH D = h := by
  obtain ⟨⟨a, b, c, d⟩, k1, k2, k3, k4, k5, k6⟩ := hk
  unfold selH
  by_cases ch : h = 0
  · subst ch
    refine if_neg (fun hh => ?_)
    obtain ⟨h1, h2⟩ := hh
    have h3 : eD D 8192 < ep := k4 h1
    rcases h2 with h2 | h2
    · exact h2 k3
    · have k2' : eD D 0 = ep := k2
      omega
  · have : h = 1 := by omega
    subst this
    refine if_pos ⟨k3, ?_⟩
    by_cases c2 : b8 (D 2) = 1
    · right
      have h3 : eD D 0 < ep := k4 c2
      have k2' : eD D 8192 = ep := k2
      omega
    · exact Or.inl c2
def rrlF (c k : Nat) : Prop := c = 547 ∨ (c = 498 ∧ (k = 83 ∨ k = 84 ∨ k = 86))
section MRR
variable {e : my_E} {d : Nat} {κ : my_K} {σ σ' : my_S} {Q : my_O → my_K → my_S → Prop} {D : Nat → Int32} {h ep : Nat} {B : List Int32}
theorem DR_e {i : Nat} (hD : DR D σ) (hi : i < 16384) : σ.1 546 i = Int32.ofNat (b8 (D i)) := by rw [hD i hi, b8_e]
theorem DR_2 {i : Nat} (hD : DR D σ) (hi : i + 1 < 16384) : σ.1 546 i + 256 * σ.1 546 (i + 1) = Int32.ofNat (eD D i) := by
  rw [DR_e hD (by omega), DR_e hD hi, show (256 : Int32) = Int32.ofNat 256 from rfl, ← Int32.ofNat_mul, oN_a]
  rfl
theorem f_329 {v : Int32} (hh1 : h ≤ 1) (hv : v = Int32.ofNat h) (hD : DR D σ) (hd : 1 ≤ d) (hQ : Q (.inl (some (.inl (bI (decide (b8 (D (8192 * h + 2)) = 1)))))) κ σ) : my_M e d 329 [.inr (.inr (some 498)), .inl v] κ σ Q := by
  obtain ⟨d, rfl⟩ := dS 1 hd
  refine ys_329 ?_
  have b3 := b8_lt (D (8192 * h + 2))
  unfold ys_329_0 ys_329_21
  rw [hv, show (8192 : Int32) * Int32.ofNat h + 2 = Int32.ofNat (8192 * h + 2) by rw [show (8192 : Int32) = Int32.ofNat 8192 from rfl, show (2 : Int32) = Int32.ofNat 2 from rfl, ← Int32.ofNat_mul, oN_a], oN_n (by omega), DR_e hD (by omega)]
  refine ⟨bdk (by omega) (by omega), ?_⟩
  by_cases c : b8 (D (8192 * h + 2)) = 1
  · rw [c, if_pos (show Int32.ofNat 1 = 1 from rfl)]
    rw [decide_eq_true c] at hQ
    exact ⟨Or.inr rfl, hQ⟩
  · rw [if_neg (fun hh => c ((oN_e1 (b := 1) (c := 1) rfl (by omega) (by omega)).mp hh))]
    rw [decide_eq_false c] at hQ
    exact ⟨Or.inl rfl, hQ⟩
theorem f_330 {v : Int32} (hh1 : h ≤ 1) (hv : v = Int32.ofNat h) (hD : DR D σ) (hd : 1 ≤ d) (hQ : Q (.inl (some (.inl (Int32.ofNat (eD D (8192 * h)))))) κ σ) : my_M e d 330 [.inr (.inr (some 498)), .inl v] κ σ Q := by
  obtain ⟨d, rfl⟩ := dS 1 hd
  refine ys_330 ?_
  unfold ys_330_0
  rw [hv, show (8192 : Int32) * Int32.ofNat h = Int32.ofNat (8192 * h) by rw [show (8192 : Int32) = Int32.ofNat 8192 from rfl, ← Int32.ofNat_mul], oN_s, oN_n (by omega), oN_n (by omega), DR_2 hD (by omega)]
  exact ⟨bdk (by omega) (by omega), bdk (by omega) (by omega), hQ⟩
theorem f_328i {c : Nat} {v2 : Int32} (hh1 : h ≤ 1) (hB : B.length ≤ 7747) (hK : DKb D h ep B) (hD : DR D σ) (hc : 61 * c < B.length) (hQ : ∀ σ', lgB (B.take (61 * c + (blX B c).length)) σ' → eqp (fun c k => c = 547 ∨ (c = 498 ∧ k = 86)) σ σ' → ys_328_191 e d v2 (Int32.ofNat (blX B c).length) 1 κ σ' Q) : ∀ (m j : Nat) (σ' : my_S), j + m = (blX B c).length → lgB (B.take (61 * c + j)) σ' → eqp (fun c k => c = 547 ∨ (c = 498 ∧ k = 86)) σ σ' → ys_328_143 e d v2 (Int32.ofNat (8192 * h + 64 * (1 + c))) (Int32.ofNat (blX B c).length) 1 (Int32.ofNat j) κ σ' Q := by
  have hl := blX_l (B := B) (c := c)
  intro m
  induction m with
  | zero =>
    intro j σ' hj hw f
    have : j = (blX B c).length := by omega
    subst this
    unfold ys_328_143
    rw [if_neg (by decide), if_neg (fun hh => by have := (oN_lt (by omega) (by omega)).mp hh; omega)]
    exact hQ σ' hw f
  | succ m ih =>
    intro j σ' hj hw f
    have hjl : 61 * c + j < B.length := by omega
    have hx := List.getElem?_eq_getElem hjl
    generalize B[61 * c + j] = x at hx
    have hv := hK.1 _ x hx
    rw [show (61 * c + j) / 61 = c by omega, show (61 * c + j) % 61 = j by omega] at hv
    have hs := hw.1
    have htl : (B.take (61 * c + j)).length = 61 * c + j := by rw [List.length_take]; omega
    rw [htl] at hs
    unfold ys_328_143
    rw [if_neg (by decide), if_pos ((oN_lt (by omega) (by omega)).mpr (by omega)), oN_s, show Int32.ofNat (8192 * h + 64 * (1 + c)) + 3 + Int32.ofNat j = Int32.ofNat (8192 * h + 64 * (1 + c) + 3 + j) by rw [show (3 : Int32) = Int32.ofNat 3 from rfl, oN_a, oN_a], hs, oN_n (by omega), oN_n (by omega), eqp_g f (show ¬ ((546 : Nat) = 547 ∨ ((546 : Nat) = 498 ∧ _)) by omega), hD _ (by omega), hv, oN_s]
    refine ⟨bdk (by omega) (by omega), bdk (by omega) (by omega), ys_328_143_ok (ih (j + 1) _ (by omega) ⟨?_, fun i y hy => ?_⟩ (eqp_I (eqp_I f (Or.inl rfl)) (Or.inr ⟨rfl, rfl⟩)))⟩
    · rw [uI_s, List.length_take, Nat.min_eq_left (by omega)]
      rfl
    · rw [← tk_61 hx] at hy
      rw [my_uI_1, if_neg (by omega), my_uI_1]
      rcases gA hy with ⟨q1, q2⟩ | ⟨q1, q2⟩
      · rw [if_neg (by omega)]
        exact hw.2 i y q2
      · rw [if_pos ⟨rfl, by omega⟩, q2]
theorem f_328l (hh1 : h ≤ 1) (hB : B.length ≤ 7747) (hK : DKb D h ep B) (hep : ep < 65536) (hD : DR D σ) (h83 : σ.1 498 83 = Int32.ofNat h) (h84 : σ.1 498 84 = Int32.ofNat ep) (hQ : ∀ σ', lgB B σ' → eqp (fun c k => c = 547 ∨ (c = 498 ∧ k = 86)) σ σ' → Q (.inl none) κ σ') : ∀ (m c : Nat) (σ' : my_S), c + m = 127 → 61 * c ≤ B.length → lgB (B.take (61 * c)) σ' → eqp (fun c k => c = 547 ∨ (c = 498 ∧ k = 86)) σ σ' → ys_328_59 e d 1 (Int32.ofNat (c + 1)) κ σ' Q := by
  have stop : ∀ (v : Int32) (σ' : my_S), lgB B σ' → eqp (fun c k => c = 547 ∨ (c = 498 ∧ k = 86)) σ σ' → my_W e d mp_328 59 [(0, .inr (.inr (some 498))), (1, .inl 0), (2, .inl v)] [] κ σ' Q := fun v σ' hw f => by
    refine ys_328_59_ok ?_
    unfold ys_328_59 ys_328_215
    by_cases c : v < 128
    · rw [if_pos c, if_pos rfl]
      exact hQ σ' hw f
    · rw [if_neg c]
      exact hQ σ' hw f
  intro m
  induction m with
  | zero =>
    intro c σ' hc hb hw f
    have : c = 127 := by omega
    subst this
    unfold ys_328_59 ys_328_215
    rw [if_neg (show ¬ Int32.ofNat (127 + 1) < 128 by decide)]
    rw [List.take_of_length_le (by omega)] at hw
    exact hQ σ' hw f
  | succ m ih =>
    intro c σ' hc hb hw f
    have hl := blX_l (B := B) (c := c)
    have hD' := DR_o hD f (fun c k hh => by omega)
    have e6 : (8192 : Int32) * Int32.ofNat h + 64 * Int32.ofNat (c + 1) = Int32.ofNat (8192 * h + 64 * (1 + c)) := by
      rw [show (8192 : Int32) = Int32.ofNat 8192 from rfl, show (64 : Int32) = Int32.ofNat 64 from rfl, ← Int32.ofNat_mul, ← Int32.ofNat_mul, oN_a, Nat.add_comm c 1]
    obtain ⟨k1, k2⟩ := hK.2 c (by omega)
    have b3 := b8_lt (D (8192 * h + 64 * (1 + c) + 2))
    have hd2 := DR_2 (i := 8192 * h + 64 * (1 + c)) hD' (by omega)
    have hd3 := DR_e (i := 8192 * h + 64 * (1 + c) + 2) hD' (by omega)
    have g83 : σ'.1 498 83 = Int32.ofNat h := (eqp_g f (by omega)).trans h83
    have g84 : σ'.1 498 84 = Int32.ofNat ep := (eqp_g f (by omega)).trans h84
    unfold ys_328_59
    rw [if_pos ((oN_lt1 (b := 128) (c := 128) rfl (by omega) (by omega)).mpr (by omega)), if_neg (by decide), g83, g84, e6, show Int32.ofNat (8192 * h + 64 * (1 + c)) + 2 = Int32.ofNat (8192 * h + 64 * (1 + c) + 2) by rw [show (2 : Int32) = Int32.ofNat 2 from rfl, oN_a], oN_s (8192 * h + 64 * (1 + c)), oN_n (show 8192 * h + 64 * (1 + c) < 2147483648 by omega), oN_n (show 8192 * h + 64 * (1 + c) + 1 < 2147483648 by omega), oN_n (show 8192 * h + 64 * (1 + c) + 2 < 2147483648 by omega), hd2, hd3]
    refine ⟨bdk (by omega) (by omega), bdk (by omega) (by omega), bdk (by omega) (by omega), ?_⟩
    by_cases cc : 61 * c < B.length
    · obtain ⟨k3, k4⟩ := k1 cc
      rw [k3, k4, if_pos rfl, if_neg (fun hh => by have := (oN_lt1 (b := 1) (c := 1) rfl (by omega) (by omega)).mp hh; omega), if_neg (fun hh => by have := (oN_lt2 (b := 61) (c := 61) rfl (by omega) (by omega)).mp hh; omega)]
      unfold ys_328_138
      refine ys_328_143_ok (f_328i (σ := σ') (ep := ep) hh1 hB hK hD' cc (fun σ1 w1 f1 => ?_) _ 0 σ' (Nat.zero_add _) hw eqp_rf)
      unfold ys_328_191
      rw [if_neg (by decide)]
      by_cases c6 : (blX B c).length = 61
      · rw [c6, if_pos (show Int32.ofNat 61 = 61 from rfl)]
        unfold ys_328_208
        rw [oN_s]
        rw [c6, show 61 * c + 61 = 61 * (c + 1) by omega] at w1
        exact ys_328_59_ok (ih (c + 1) σ1 (by omega) (by omega) w1 (eqp_tr f f1))
      · rw [if_neg (fun hh => c6 ((oN_e1 (b := 61) (c := 61) rfl (by omega) (by omega)).mp hh))]
        unfold ys_328_207 ys_328_208
        rw [List.take_of_length_le (by omega)] at w1
        exact stop _ σ1 w1 (eqp_tr f f1)
    · have k3 := k2 (by omega)
      rw [if_neg (fun hh => by have := (oN_e (by omega) (by omega)).mp hh; omega)]
      unfold ys_328_137 ys_328_138
      refine ys_328_143_ok ?_
      unfold ys_328_143
      rw [if_pos rfl]
      unfold ys_328_191
      rw [if_pos rfl]
      unfold ys_328_207 ys_328_208
      rw [List.take_of_length_le (by omega)] at hw
      exact stop _ σ' hw f
theorem f_328 {M : Nat} (hB : B.length ≤ 7747) (hK : DSK D h ep B M) (hD : DR D σ) (hd : 2 ≤ d) (hQ : ∀ σ', lgB B σ' → σ'.1 498 83 = Int32.ofNat h → σ'.1 498 84 = Int32.ofNat ep → eqp rrlF σ σ' → Q (.inl none) κ σ') : my_M e d 328 [.inr (.inr (some 498))] κ σ Q := by
  obtain ⟨d, rfl⟩ := dS 1 (show 1 ≤ d by omega)
  have hs := DSK_s hK
  obtain ⟨⟨a, b, c, dd⟩, k1, k2, k3, k4, k5, k6⟩ := hK
  have key : ys_328_35 e d (Int32.ofNat h) κ σ Q := by
    unfold ys_328_35
    have f0 : eqp (fun c k => c = 498 ∧ k = 83) σ (my_uI σ 498 83 (Int32.ofNat h)) := eqp_I eqp_rf ⟨rfl, rfl⟩
    have g0 : (my_uI σ 498 83 (Int32.ofNat h)).1 498 83 = Int32.ofNat h := uI_s
    generalize my_uI σ 498 83 (Int32.ofNat h) = σ1 at f0 g0 ⊢
    refine f_330 a rfl (DR_o hD f0 (fun c k hh => by omega)) (by omega) ?_
    rw [my_kI_v, k2]
    have f1 : eqp (fun c k => c = 498 ∧ (k = 84 ∨ k = 86)) σ1 (my_uI (my_uI σ1 498 84 (Int32.ofNat ep)) 498 86 0) := eqp_I (eqp_I eqp_rf ⟨rfl, Or.inl rfl⟩) ⟨rfl, Or.inr rfl⟩
    have g1 : (my_uI (my_uI σ1 498 84 (Int32.ofNat ep)) 498 86 0).1 498 84 = Int32.ofNat ep := by rw [my_uI_1, if_neg (by omega)]; exact uI_s
    have g2 : (my_uI (my_uI σ1 498 84 (Int32.ofNat ep)) 498 86 0).1 498 86 = 0 := uI_s
    generalize my_uI (my_uI σ1 498 84 (Int32.ofNat ep)) 498 86 0 = σ2 at f1 g1 g2 ⊢
    have f2 : eqp rrlF σ σ2 := eqp_tr (eqp_mo f0 (fun c k hh => by unfold rrlF; omega)) (eqp_mo f1 (fun c k hh => by unfold rrlF; omega))
    refine ys_328_59_ok (f_328l (σ := σ2) a hB k1 (by omega) (DR_o hD f2 (fun c k hh => by unfold rrlF at hh; omega)) ((eqp_g f1 (by omega)).trans g0) g1 (fun σ3 w3 f3 => ?_) 127 0 σ2 (by omega) (by omega) (by rw [Nat.mul_zero, List.take_zero]; exact ⟨g2, fun i x hx => by simp at hx⟩) eqp_rf)
    exact hQ σ3 w3 ((eqp_g f3 (by omega)).trans ((eqp_g f1 (by omega)).trans g0)) ((eqp_g f3 (by omega)).trans g1) (eqp_tr f2 (eqp_mo f3 (fun c k hh => by unfold rrlF; omega)))
  refine ys_328 ?_
  unfold ys_328_0
  refine f_329 (h := 1) (by omega) rfl hD (by omega) ?_
  rw [my_kI_v]
  unfold selH at hs
  by_cases c1 : b8 (D 8194) = 1
  · rw [decide_eq_true (show b8 (D (8192 * 1 + 2)) = 1 from c1), if_neg (show ¬ bI true = 0 by decide)]
    refine f_329 (h := 0) (by omega) rfl hD (by omega) ?_
    rw [my_kI_v]
    by_cases c0 : b8 (D 2) = 1
    · rw [decide_eq_true (show b8 (D (8192 * 0 + 2)) = 1 from c0), if_neg (show ¬ bI true = 0 by decide)]
      refine f_330 (h := 1) (by omega) rfl hD (by omega) ?_
      rw [my_kI_v]
      refine f_330 (h := 0) (by omega) rfl hD (by omega) ?_
      rw [my_kI_v]
      have l1 := eD_lt (D := D) (a := 8192 * 1)
      have l0 := eD_lt (D := D) (a := 8192 * 0)
      by_cases c2 : eD D (8192 * 0) < eD D (8192 * 1)
      · rw [if_pos ((oN_lt (by omega) (by omega)).mpr c2)]
        rw [if_pos ⟨c1, Or.inr c2⟩] at hs
        subst hs
        exact key
      · rw [if_neg (fun hh => c2 ((oN_lt (by omega) (by omega)).mp hh))]
        rw [if_neg (fun hh => by
          rcases hh.2 with q | q
          · exact q c0
          · exact c2 q)] at hs
        subst hs
        exact key
    · rw [decide_eq_false (show ¬ b8 (D (8192 * 0 + 2)) = 1 from c0), if_pos (show bI false = 0 from rfl)]
      rw [if_pos ⟨c1, Or.inl c0⟩] at hs
      subst hs
      exact key
  · rw [decide_eq_false (show ¬ b8 (D (8192 * 1 + 2)) = 1 from c1), if_pos (show bI false = 0 from rfl)]
    rw [if_neg (fun hh => c1 hh.1)] at hs
    subst hs
    exact key
end MRR
