
/-! ===== the class reads a half's log ===== -/
section MRE
variable {e : my_E} {d : Nat} {κ : my_K} {σ σ' : my_S} {Q : my_O → my_K → my_S → Prop} {D : Nat → Int32} {h ep A : Nat} {B T : List Int32} {E : List Et}
theorem c_3d {i : Nat} {v : Int32} (hD : DC D σ) (hi : i < 16384) (hv : v = Int32.ofNat i) (hd : 1 ≤ d) (hQ : Q (.inl (some (.inl (Int32.ofNat (b8 (D i)))))) κ σ) : my_M e d 3 [.inr (.inr (some 90)), .inl v] κ σ Q := by
  obtain ⟨d, rfl⟩ := dS 1 hd
  refine yb90_3 ?_
  unfold yb90_3_0 yb90_3_21
  rw [hv, if_neg (oN_0 (by omega)), if_pos ((oN_lt1 (b := 16384) (c := 16384) rfl (by omega) (by omega)).mpr hi), oN_n (by omega), hD i hi, b8_e]
  exact ⟨bdk hi (by omega), hQ⟩
theorem c_12d {i : Nat} {v : Int32} (hD : DC D σ) (hi : i + 1 < 16384) (hv : v = Int32.ofNat i) (hd : 2 ≤ d) (hQ : Q (.inl (some (.inl (Int32.ofNat (eD D i))))) κ σ) : my_M e d 12 [.inr (.inr (some 90)), .inl v] κ σ Q := by
  obtain ⟨d, rfl⟩ := dS 1 (show 1 ≤ d by omega)
  refine ys_12 ?_
  unfold ys_12_0
  refine c_3d hD (by omega) hv (by omega) ?_
  rw [my_kI_v]
  refine c_3d hD hi (by rw [hv, oN_s]) (by omega) ?_
  rw [my_kI_v, or8 (b8_lt _) (b8_lt _)]
  exact hQ
def stF (A : Nat) (c k : Nat) : Prop := c = A ∧ (k = 1 ∨ k = 2 ∨ k = 6 ∨ k = 9 ∨ k = 10 ∨ k = 11)
theorem c_171 {v : Int32} (hA : lg2 A) (hd : 1 ≤ d) (hQ : ∀ σ', σ'.1 A 2 = v → WB A [] σ' → σ'.1 A 6 = 0 → σ'.1 A 9 = 0 → σ'.1 A 11 = 1 → eqp (stF A) σ σ' → Q (.inl none) κ σ') : my_M e d 171 [.inr (.inr (some A)), .inl v] κ σ Q := by
  obtain ⟨d, rfl⟩ := dS 1 hd
  refine ys_171 (in8 hA) ?_
  unfold ys_171_0
  have f : eqp (stF A) σ (my_uI (my_uI (my_uI (my_uI (my_uI (my_uI σ A 2 v) A 1 0) A 6 0) A 9 0) A 10 0) A 11 1) := eqp_I (eqp_I (eqp_I (eqp_I (eqp_I (eqp_I eqp_rf (by unfold stF; omega)) (by unfold stF; omega)) (by unfold stF; omega)) (by unfold stF; omega)) (by unfold stF; omega)) (by unfold stF; omega)
  refine hQ _ ?_ ⟨?_, fun i x _ hx => by simp at hx, ?_⟩ ?_ ?_ uI_s f
  · rw [my_uI_1, if_neg (by omega), my_uI_1, if_neg (by omega), my_uI_1, if_neg (by omega), my_uI_1, if_neg (by omega), my_uI_1, if_neg (by omega)]; exact uI_s
  · rw [my_uI_1, if_neg (by omega), my_uI_1, if_neg (by omega), my_uI_1, if_neg (by omega), my_uI_1, if_neg (by omega)]; exact uI_s
  · rw [my_uI_1, if_neg (by omega)]; exact uI_s
  · rw [my_uI_1, if_neg (by omega), my_uI_1, if_neg (by omega), my_uI_1, if_neg (by omega)]; exact uI_s
  · rw [my_uI_1, if_neg (by omega), my_uI_1, if_neg (by omega)]; exact uI_s
theorem tk_61 {c j : Nat} {x : Int32} (hx : B[61 * c + j]? = some x) : B.take (61 * c + j) ++ [x] = B.take (61 * c + (j + 1)) := by
  rw [show 61 * c + (j + 1) = 61 * c + j + 1 by omega, List.take_succ, hx]
  rfl
theorem c_184i {c : Nat} {v3 v5 : Int32} (hA : lg2 A) (hh1 : h ≤ 1) (hB : B.length ≤ 7747) (haB : aB B) (hK : DKb D h ep B) (hD : DC D σ) (hc : 61 * c < B.length) (hd : 2 ≤ d) (hQ : ∀ σ', WB A (B.take (61 * c + (blX B c).length)) σ' → eqp (wbF A) σ σ' → ys_184_117 e d A (some 90) v3 1 v5 (Int32.ofNat (blX B c).length) κ σ' Q) : ∀ (m j : Nat) (σ' : my_S), j + m = (blX B c).length → WB A (B.take (61 * c + j)) σ' → eqp (wbF A) σ σ' → ys_184_83 e d A (some 90) v3 1 v5 (Int32.ofNat (8192 * h + 64 * (1 + c))) (Int32.ofNat (blX B c).length) (Int32.ofNat j) κ σ' Q := by
  have hl := blX_l (B := B) (c := c)
  have hA' := hA
  unfold lg2 at hA'
  intro m
  induction m with
  | zero =>
    intro j σ' hj hw f
    have : j = (blX B c).length := by omega
    subst this
    unfold ys_184_83
    rw [if_neg (by decide), if_neg (fun hh => by have := (oN_lt (by omega) (by omega)).mp hh; omega)]
    exact hQ σ' hw f
  | succ m ih =>
    intro j σ' hj hw f
    have hjl : 61 * c + j < B.length := by omega
    have hx := List.getElem?_eq_getElem hjl
    generalize B[61 * c + j] = x at hx
    have hm : isB x := haB x (List.mem_of_getElem? hx)
    have hv := hK.1 _ x hx
    rw [show (61 * c + j) / 61 = c by omega, show (61 * c + j) % 61 = j by omega] at hv
    unfold ys_184_83
    rw [if_neg (by decide), if_pos ((oN_lt (by omega) (by omega)).mpr (by omega)), oN_s]
    refine c_3d (i := 8192 * h + 64 * (1 + c) + 3 + j) (DC_o hD f (fun c k hh => by unfold wbF at hh; omega)) (by omega) (by rw [show (3 : Int32) = Int32.ofNat 3 from rfl, oN_a, oN_a]) (by omega) ?_
    rw [my_kI_v, hv, ← b8_e]
    refine w_178 (w := 1) (by omega) hA hw (by omega) (fun σ1 w1 f1 => ?_)
    rw [my_k0_v]
    have e1 : bts (x &&& 255) 1 0 = [x] := by
      rw [show bts (x &&& 255) 1 0 = [bt (x &&& 255) (Int32.ofNat 0)] from rfl, bt_and hm]
    rw [e1, tk_61 hx] at w1
    exact ys_184_83_ok (in8 hA) (ih (j + 1) σ1 (by omega) w1 (eqp_tr f f1))
theorem c_184l (hA : lg2 A) (hh1 : h ≤ 1) (hB : B.length ≤ 7747) (haB : aB B) (hK : DKb D h ep B) (hep : ep < 65536) (hD : DC D σ) (h2 : σ.1 A 2 = Int32.ofNat ep) (hd : 3 ≤ d) (hQ : ∀ σ', WB A B σ' → eqp (wbF A) σ σ' → ys_184_142 e d A κ σ' Q) : ∀ (m c : Nat) (σ' : my_S), c + m = 127 → 61 * c ≤ B.length → WB A (B.take (61 * c)) σ' → eqp (wbF A) σ σ' → ys_184_21 e d A (some 90) (Int32.ofNat (8192 * h)) 1 (Int32.ofNat (c + 1)) κ σ' Q := by
  have hA' := hA
  unfold lg2 at hA'
  have stop : ∀ (v : Int32) (σ' : my_S), WB A B σ' → eqp (wbF A) σ σ' → my_W e d mp_184 21 [(0, .inr (.inr (some A))), (1, .inr (.inr (some 90))), (3, .inl (Int32.ofNat (8192 * h))), (4, .inl 0), (5, .inl v)] [] κ σ' Q := fun v σ' hw f => by
    refine ys_184_21_ok (in8 hA) ?_
    unfold ys_184_21
    rw [if_pos rfl]
    exact hQ σ' hw f
  intro m
  induction m with
  | zero =>
    intro c σ' hc hb hw f
    have : c = 127 := by omega
    subst this
    unfold ys_184_21
    rw [if_neg (by decide), if_neg (show ¬ Int32.ofNat (127 + 1) < 128 by decide)]
    rw [List.take_of_length_le (by omega)] at hw
    exact hQ σ' hw f
  | succ m ih =>
    intro c σ' hc hb hw f
    have hl := blX_l (B := B) (c := c)
    have hD' := DC_o hD f (fun c k hh => by unfold wbF at hh; omega)
    have h2' : σ'.1 A 2 = Int32.ofNat ep := (eqp_g f (by unfold wbF; omega)).trans h2
    have e6 : Int32.ofNat (8192 * h) + Int32.ofNat (c + 1) * 64 = Int32.ofNat (8192 * h + 64 * (1 + c)) := by
      rw [show (64 : Int32) = Int32.ofNat 64 from rfl, ← Int32.ofNat_mul, oN_a]
      congr 1
      omega
    obtain ⟨k1, k2⟩ := hK.2 c (by omega)
    have b3 := b8_lt (D (8192 * h + 64 * (1 + c) + 2))
    unfold ys_184_21
    rw [if_neg (by decide), if_pos ((oN_lt1 (b := 128) (c := 128) rfl (by omega) (by omega)).mpr (by omega)), e6]
    refine c_3d (i := 8192 * h + 64 * (1 + c) + 2) hD' (by omega) (by rw [show (2 : Int32) = Int32.ofNat 2 from rfl, oN_a]) (by omega) ?_
    rw [my_kI_v]
    refine c_12d (i := 8192 * h + 64 * (1 + c)) hD' (by omega) rfl (by omega) ?_
    rw [my_kI_v, h2']
    by_cases cc : 61 * c < B.length
    · obtain ⟨k3, k4⟩ := k1 cc
      rw [k3, k4, if_pos rfl, if_neg (fun hh => by have := (oN_lt2 (b := 61) (c := 61) rfl (by omega) (by omega)).mp hh; omega)]
      unfold ys_184_78
      refine ys_184_83_ok (in8 hA) (c_184i (σ := σ') (ep := ep) hA hh1 hB haB hK hD' cc (by omega) (fun σ1 w1 f1 => ?_) _ 0 σ' (Nat.zero_add _) hw eqp_rf)
      unfold ys_184_117
      rw [if_neg (by decide)]
      by_cases c6 : (blX B c).length = 61
      · rw [c6, if_pos (show Int32.ofNat 61 = 61 from rfl)]
        unfold ys_184_134
        rw [oN_s]
        rw [c6, show 61 * c + 61 = 61 * (c + 1) by omega] at w1
        exact ys_184_21_ok (in8 hA) (ih (c + 1) σ1 (by omega) (by omega) w1 (eqp_tr f f1))
      · rw [if_neg (fun hh => c6 ((oN_e1 (b := 61) (c := 61) rfl (by omega) (by omega)).mp hh))]
        unfold ys_184_133 ys_184_134
        rw [List.take_of_length_le (by omega)] at w1
        exact stop _ σ1 w1 (eqp_tr f f1)
    · have k3 := k2 (by omega)
      rw [if_neg (fun hh => by have := (oN_e (by omega) (by omega)).mp hh; omega)]
      unfold ys_184_77 ys_184_78
      refine ys_184_83_ok (in8 hA) ?_
      unfold ys_184_83
      rw [if_pos rfl]
      unfold ys_184_117
      rw [if_pos rfl]
      unfold ys_184_133 ys_184_134
      rw [List.take_of_length_le (by omega)] at hw
      exact stop _ σ' hw f
theorem c_184 (hA : lg2 A) (hh1 : h ≤ 1) (hB : els E + T.length ≤ 7747) (haB : aB (en E 0 ++ T)) (hW : LgW E) (ht : tlB T) (hK : DKb D h ep (en E 0 ++ T)) (hep : ep < 65536) (heD : eD D (8192 * h) = ep) (hD : DC D σ) (hd : 5 ≤ d) (hQ : ∀ σ', LgC A E σ' → σ'.1 A 10 = 0 → (σ'.1 A 11 = if T = [] then 1 else 0) → σ'.1 A 2 = Int32.ofNat ep → eqp (lodF A) σ σ' → Q (.inl none) κ σ') : my_M e d 184 [.inr (.inr (some A)), .inr (.inr (some 90)), .inl (Int32.ofNat h)] κ σ Q := by
  obtain ⟨d, rfl⟩ := dS 1 (show 1 ≤ d by omega)
  have hA' := hA
  unfold lg2 at hA'
  refine ys_184 (in8 hA) ?_
  unfold ys_184_0
  rw [show Int32.ofNat h * 8192 = Int32.ofNat (8192 * h) by rw [show (8192 : Int32) = Int32.ofNat 8192 from rfl, ← Int32.ofNat_mul, Nat.mul_comm]]
  refine c_12d (i := 8192 * h) hD (by omega) rfl (by omega) ?_
  rw [my_kI_v, heD]
  refine c_171 hA (by omega) (fun σ1 g2 gw g6 g9 g11 f1 => ?_)
  rw [my_k0_v]
  refine ys_184_21_ok (in8 hA) (c_184l (σ := σ1) (ep := ep) (B := en E 0 ++ T) hA hh1 (by rw [List.length_append, en_l]; exact hB) haB hK hep (DC_o hD f1 (fun c k hh => by unfold stF at hh; omega)) g2 (by omega) (fun σ2 w2 f2 => ?_) 127 0 σ1 (by omega) (by omega) (by rw [Nat.mul_zero, List.take_zero]; exact gw) eqp_rf)
  unfold ys_184_142
  refine c_185 hA hW hB ht (by omega) w2 ((eqp_g f2 (by unfold wbF; omega)).trans g6) ((eqp_g f2 (by unfold wbF; omega)).trans g9) ((eqp_g f2 (by unfold wbF; omega)).trans g11) (fun σ3 l3 x10 x11 x2 f3 => ?_)
  rw [my_k0_v]
  exact hQ σ3 l3 x10 x11 (x2.trans ((eqp_g f2 (by unfold wbF; omega)).trans g2)) (eqp_tr (eqp_mo f1 (fun c k hh => by unfold stF at hh; unfold lodF; omega)) (eqp_tr (eqp_mo f2 (fun c k hh => by unfold wbF at hh; unfold lodF; omega)) f3))
end MRE
