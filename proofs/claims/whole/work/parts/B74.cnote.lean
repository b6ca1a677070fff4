
/-! ===== the class notes the entries that it has read ===== -/
def tn (l : List Nat) (i : Nat) : Int32 := Int32.ofNat ((l[i]?).getD 0 + 96)
theorem tn_g {l : List Nat} {i : Nat} (h : i < l.length) : tn l i = Int32.ofNat (l[i] + 96) := by
  unfold tn
  rw [List.getElem?_eq_getElem h]
  rfl
theorem tn_L {l : List Nat} (h : isN l) : lets (tn l) 0 l.length := fun j hj => by
  have ho := h.1 l[j] (List.getElem_mem hj)
  rw [Nat.zero_add, tn_g hj]
  unfold iL
  have a1 : ¬ Int32.ofNat (l[j] + 96) < 97 := fun hh => by have := (oN_lt1 (b := 97) (c := 97) rfl (by omega) (by omega)).mp hh; omega
  have a2 : ¬ (122 : Int32) < Int32.ofNat (l[j] + 96) := fun hh => by have := (oN_lt2 (b := 122) (c := 122) rfl (by omega) (by omega)).mp hh; omega
  rw [decide_eq_false a1, decide_eq_false a2]
  rfl
theorem tn_w {l : List Nat} (h : isN l) : ∀ k, k ≤ l.length → lw (tn l) 0 k = l.take k
  | 0, _ => by rw [lw, List.take_zero]
  | k + 1, hk => by
    have ho := h.1 l[k] (List.getElem_mem (by omega))
    rw [lw, tn_w h k (by omega), tk_s (by omega), Nat.zero_add, tn_g (by omega), oN_i (by omega)]
    congr 2
    omega
theorem tn_n {l : List Nat} (h : isN l) : nC (tn l) 0 l.length = nmC l := by
  rw [nC_nm h.2 (tn_L h), tn_w h l.length (Nat.le_refl _), List.take_length]
def ntF (A : Nat) (c k : Nat) : Prop := (c = A ∧ (k = 6 ∨ k = 9)) ∨ (A + 2 ≤ c ∧ c ≤ A + 6)
section MNT
variable {e : my_E} {d : Nat} {κ : my_K} {σ σ' : my_S} {Q : my_O → my_K → my_S → Prop} {A : Nat} {B T : List Int32} {E E1 E2 : List Et} {x : Et} {F : Nat → Nat → Prop}
theorem c_3w {i : Nat} {b v : Int32} (hA : lg2 A) (h : WB A B σ) (hi : i < 7747) (hb : B[i]? = some b) (hv : v = Int32.ofNat i) (hd : 1 ≤ d) (hQ : Q (.inl (some (.inl (b &&& 255)))) κ σ) : my_M e d 3 [.inr (.inr (some (A + 1))), .inl v] κ σ Q := by
  rw [hv]
  refine c_3l hA hi hd ?_
  rw [h.2.1 i b hi hb]
  exact hQ
theorem c_12w {i : Nat} {b c v : Int32} (hA : lg2 A) (h : WB A B σ) (hi : i + 1 < 7747) (hb : B[i]? = some b) (hc : B[i + 1]? = some c) (hv : v = Int32.ofNat i) (hd : 2 ≤ d) (hQ : Q (.inl (some (.inl (Int32.ofNat (b8 b + 256 * b8 c))))) κ σ) : my_M e d 12 [.inr (.inr (some (A + 1))), .inl v] κ σ Q := by
  obtain ⟨d, rfl⟩ := dS 1 (show 1 ≤ d by omega)
  refine ys_12 ?_
  unfold ys_12_0
  refine c_3w hA h (by omega) hb hv (by omega) ?_
  rw [my_kI_v]
  refine c_3w hA h hi hc (by rw [hv, oN_s]) (by omega) ?_
  rw [my_kI_v, b8_e, b8_e, or8 (b8_lt _) (b8_lt _)]
  exact hQ
theorem c_3a {v : Int32} (hA : lg2 A) (hd : 1 ≤ d) (hQ : ∀ y, Q (.inl (some (.inl y))) κ σ) : my_M e d 3 [.inr (.inr (some (A + 1))), .inl v] κ σ Q := by
  obtain ⟨d, rfl⟩ := dS 1 hd
  have bd : ∀ (h1 : ¬ v < 0) (h2 : v < 7747), my_bd v 7747 := fun h1 h2 => by
    rw [Int32.lt_iff_toInt_lt] at h1 h2
    have a0 : (0 : Int32).toInt = 0 := rfl
    have a1 : (7747 : Int32).toInt = 7747 := rfl
    exact ⟨by omega, by omega⟩
  rcases hA with rfl | rfl
  · refine yb95_3 ?_
    unfold yb95_3_0 yb95_3_10 yb95_3_21
    by_cases h1 : v < 0
    · rw [if_pos h1]; exact hQ _
    · rw [if_neg h1]
      by_cases h2 : v < 7747
      · rw [if_pos h2]; exact ⟨bd h1 h2, hQ _⟩
      · rw [if_neg h2]; exact hQ _
  · refine yb102_3 ?_
    unfold yb102_3_0 yb102_3_10 yb102_3_21
    by_cases h1 : v < 0
    · rw [if_pos h1]; exact hQ _
    · rw [if_neg h1]
      by_cases h2 : v < 7747
      · rw [if_pos h2]; exact ⟨bd h1 h2, hQ _⟩
      · rw [if_neg h2]; exact hQ _
theorem c_12a {v : Int32} (hA : lg2 A) (hd : 2 ≤ d) (hQ : ∀ y, Q (.inl (some (.inl y))) κ σ) : my_M e d 12 [.inr (.inr (some (A + 1))), .inl v] κ σ Q := by
  obtain ⟨d, rfl⟩ := dS 1 (show 1 ≤ d by omega)
  refine ys_12 ?_
  unfold ys_12_0
  refine c_3a hA (by omega) (fun y => ?_)
  rw [my_kI_v]
  refine c_3a hA (by omega) (fun z => ?_)
  rw [my_kI_v]
  exact hQ _
theorem c_186l {p : Nat} {v2 v3 : Int32} {l : List Nat} (hA : lg2 A) (hl : isN l) (h : WB A B σ) (hp : p + 1 + l.length ≤ 7747) (hb : ∀ j (hj : j < l.length), B[p + 1 + j]? = some (bt (Int32.ofNat (l[j] + 96)) (Int32.ofNat 0))) (hd : 1 ≤ d) (hend : ys_186_50 e d A v2 v3 (Int32.ofNat p) (Int32.ofNat l.length) (nmC l) (Int32.ofNat l.length) κ σ Q) : ∀ (m j : Nat), j + m = l.length → ys_186_50 e d A v2 v3 (Int32.ofNat p) (Int32.ofNat l.length) (nC (tn l) 0 j) (Int32.ofNat j) κ σ Q := by
  intro m
  have h8 := hl.2
  induction m with
  | zero =>
    intro j hj
    have : j = l.length := by omega
    subst this
    rw [tn_n hl]
    exact hend
  | succ m ih =>
    intro j hj
    have hjl : j < l.length := by omega
    have ho := hl.1 l[j] (List.getElem_mem hjl)
    obtain ⟨d, rfl⟩ := dS 1 hd
    unfold ys_186_50
    rw [if_pos ((oN_lt (by omega) (by omega)).mpr hjl), oN_s, oN_a, oN_s]
    refine c_3w (i := p + 1 + j) hA h (by omega) (hb j hjl) rfl (by omega) ?_
    rw [my_kI_v, ← low8 (by omega)]
    refine c_1 (by omega) ?_
    rw [my_kL_v]
    have := ih (j + 1) (by omega)
    rw [nC, Nat.zero_add, tn_g hjl] at this
    exact ys_186_50_ok (in8 hA) this
theorem e1_n {k : Nat} : (e1 x k)[hL1 x]? = some (bt (Int32.ofNat (eN x).length) (Int32.ofNat 0)) ∧ ∀ j (hj : j < (eN x).length), (e1 x k)[hL1 x + 1 + j]? = some (bt (Int32.ofNat ((eN x)[j] + 96)) (Int32.ofNat 0)) := by
  unfold e1
  refine ⟨?_, fun j hj => ?_⟩
  · rw [List.getElem?_append_right (by rw [eh_l]; omega), eh_l, Nat.sub_self, List.getElem?_append_left (by rw [nmE_l]; omega)]
    unfold nmE
    rw [List.getElem?_append_left (by rw [bts_l]; omega)]
    rfl
  · rw [List.getElem?_append_right (by rw [eh_l]; omega), eh_l, show hL1 x + 1 + j - hL1 x = 1 + j by omega, List.getElem?_append_left (by rw [nmE_l]; omega)]
    unfold nmE
    rw [List.getElem?_append_right (by rw [bts_l]; omega), bts_l, show 1 + j - 1 = j by omega]
    exact ltb_g hj
theorem c_186 (hA : lg2 A) (hx : isN (eN x)) (hk : eK x = 1 ∨ eK x = 2) (h : WB A (en (E1 ++ x :: E2) 0 ++ T) σ) (hB : els (E1 ++ x :: E2) ≤ 7747) (hI : NI A (itL3 E1) σ) (hR : NR A (rcL2 E1) σ) (hi : (itL3 E1).length < 900) (hr : (rcL2 E1).length < 500) (hd : 2 ≤ d) (hQ : ∀ σ', NI A (itL3 (E1 ++ [x])) σ' → NR A (rcL2 (E1 ++ [x])) σ' → eqp (ntF A) σ σ' → Q (.inl none) κ σ') : my_M e d 186 [.inr (.inr (some A)), .inl (Int32.ofNat (els E1 + 2)), .inl (Int32.ofNat (els E1 + el x))] κ σ Q := by
  obtain ⟨d, rfl⟩ := dS 1 (show 1 ≤ d by omega)
  have hA' := hA
  unfold lg2 at hA'
  have hlen := hx.2
  have he : el x = hL1 x + 1 + (eN x).length + (eC x).length := rfl
  rw [els_a, els] at hB
  obtain ⟨q1, q2, q3⟩ := eh_b (k := nit E1) hk
  obtain ⟨n1, n2⟩ := e1_n (x := x) (k := nit E1)
  have b2 := en_x (T := T) (E2 := E2) q3
  have bn := en_x (T := T) (E2 := E2) n1
  refine ys_186 (in8 hA) ?_
  unfold ys_186_0
  refine c_3w (i := els E1 + 2) hA h (by have : 3 ≤ hL1 x := by unfold hL1; split <;> omega
                                         omega) b2 rfl (by omega) ?_
  rw [my_kI_v, ← low8 (by omega)]
  by_cases c : eK x = 1
  · have hl5 : hL1 x = 5 := if_pos c
    rw [c, if_pos (show Int32.ofNat 1 = 1 from rfl)]
    unfold ys_186_17
    rw [if_neg (by decide)]
    unfold ys_186_31
    have e3 : Int32.ofNat (els E1 + 2) + 3 = Int32.ofNat (els E1 + hL1 x) := by rw [show (3 : Int32) = Int32.ofNat 3 from rfl, oN_a, hl5]
    rw [e3]
    refine c_3w (i := els E1 + hL1 x) hA h (by omega) bn rfl (by omega) ?_
    rw [my_kI_v, ← low8 (by omega)]
    refine ys_186_50_ok (in8 hA) (c_186l (l := eN x) hA hx h (by omega) (fun j hj => by rw [show els E1 + hL1 x + 1 + j = els E1 + (hL1 x + 1 + j) by omega]; exact en_x (n2 j hj)) (by omega) ?_ (eN x).length 0 (by omega))
    unfold ys_186_50
    rw [if_neg (fun hh => by have := (oN_lt (by omega) (by omega)).mp hh; omega), if_neg (by decide), oN_s, oN_a, oN_sub (by omega)]
    refine w_179 hA hI (by omega) (fun hh => by omega) (fun _ σ1 hI1 f1 => ?_)
    rw [my_k0_v]
    unfold ys_186_122
    obtain ⟨s1, s2⟩ := itL3_s (E := E1) c
    refine hQ σ1 ?_ ?_ (eqp_mo f1 (fun c k hh => by unfold ntF; omega))
    · rw [s1, show els E1 + 6 + (eN x).length = els E1 + hL1 x + 1 + (eN x).length by omega, show (eC x).length = els E1 + el x - (els E1 + hL1 x + 1 + (eN x).length) by omega]
      exact hI1
    · rw [s2]
      exact NR_o hR f1 (fun c k hh => by omega)
  · have hl3 : hL1 x = 3 := if_neg c
    have c2 : eK x = 2 := by omega
    rw [c2, if_neg (show ¬ Int32.ofNat 2 = 1 by decide)]
    unfold ys_186_17
    rw [if_pos rfl]
    unfold ys_186_31
    have e3 : Int32.ofNat (els E1 + 2) + 1 = Int32.ofNat (els E1 + hL1 x) := by rw [oN_s, hl3]
    rw [e3]
    refine c_3w (i := els E1 + hL1 x) hA h (by omega) bn rfl (by omega) ?_
    rw [my_kI_v, ← low8 (by omega)]
    refine ys_186_50_ok (in8 hA) (c_186l (l := eN x) hA hx h (by omega) (fun j hj => by rw [show els E1 + hL1 x + 1 + j = els E1 + (hL1 x + 1 + j) by omega]; exact en_x (n2 j hj)) (by omega) ?_ (eN x).length 0 (by omega))
    unfold ys_186_50
    rw [if_neg (fun hh => by have := (oN_lt (by omega) (by omega)).mp hh; omega), if_pos rfl, oN_s, oN_a]
    refine w_181 hA hR (by omega) (fun hh => by omega) (fun _ σ1 hR1 f1 => ?_)
    rw [my_k0_v]
    unfold ys_186_122
    obtain ⟨s1, s2⟩ := rcL2_s (E := E1) c
    refine hQ σ1 ?_ ?_ (eqp_mo f1 (fun c k hh => by unfold ntF; omega))
    · rw [s2]
      exact NI_o hI f1 (fun c k hh => by omega)
    · rw [s1, show els E1 + 4 + (eN x).length = els E1 + hL1 x + 1 + (eN x).length by omega]
      exact hR1
def lodF (A : Nat) (c _k : Nat) : Prop := A ≤ c ∧ c ≤ A + 6
theorem wfl_9 {k : Nat} (h : wfl E k) : 9 * E.length ≤ els E := by
  obtain ⟨h1, h2⟩ := wfl_n h
  omega
theorem c_185l (hA : lg2 A) (hW : LgW E) (hB : els E + T.length ≤ 7747) (ht : tlB T) (hd : 3 ≤ d) (hQ : ∀ σ', LgC A E σ' → σ'.1 A 10 = 0 → (σ'.1 A 11 = if T = [] then 1 else 0) → σ'.1 A 2 = σ.1 A 2 → eqp (lodF A) σ σ' → Q (.inl none) κ σ') : ∀ (E2 E1 : List Et) (σ' : my_S), E = E1 ++ E2 → WB A (en E 0 ++ T) σ' → NI A (itL3 E1) σ' → NR A (rcL2 E1) σ' → σ'.1 A 11 = 1 → σ'.1 A 2 = σ.1 A 2 → eqp (lodF A) σ σ' → ys_185_4 e d A (Int32.ofNat (els E1)) (Int32.ofNat E1.length) κ σ' Q := by
  have hA' := hA
  unfold lg2 at hA'
  have hbl : (en E 0 ++ T).length = els E + T.length := by rw [List.length_append, en_l]
  have h9 := wfl_9 hW.1
  intro E2
  induction E2 with
  | nil =>
    intro E1 σ' hE h hI hR h11 h2 f
    rw [List.append_nil] at hE
    subst hE
    have hs := h.1
    rw [hbl, Nat.min_eq_left (by omega)] at hs
    have hf := h.2.2
    rw [hbl, if_neg (by omega)] at hf
    unfold ys_185_4
    rw [if_pos ((oN_lt1 (b := 7747) (c := 7747) rfl (by omega) (by omega)).mpr (by omega)), hs]
    by_cases cT : T = []
    · subst cT
      rw [List.length_nil, Nat.add_zero, if_neg (fun hh => by have := (oN_lt (by omega) (by omega)).mp hh; omega)]
      unfold ys_185_79
      rw [List.append_nil] at h
      obtain ⟨g1, g2⟩ := W_LgC hW.2 h hI hR
      exact hQ σ' g1 g2 (by rw [if_pos rfl]; exact h11) h2 f
    · have hT1 : 1 ≤ T.length := by
        cases T with
        | nil => exact absurd rfl cT
        | cons a r => rw [List.length_cons]; omega
      rw [if_pos ((oN_lt (by omega) (by omega)).mpr (by omega))]
      have fin : ys_185_50 e d A (Int32.ofNat (els E)) (Int32.ofNat E.length) κ σ' Q := by
        unfold ys_185_50 ys_185_73
        rw [oN_s]
        refine ys_185_4_ok (in8 hA) ?_
        unfold ys_185_4
        rw [if_pos ((oN_lt1 (b := 7747) (c := 7747) rfl (by omega) (by omega)).mpr (by omega)), uI_s, if_neg (fun hh => by have := (oN_lt (by omega) (by omega)).mp hh; omega)]
        unfold ys_185_79
        have f2 : eqp (fun c k => c = A ∧ (k = 1 ∨ k = 11)) σ' (my_uI (my_uI σ' A 11 0) A 1 (Int32.ofNat (els E))) := eqp_I (eqp_I eqp_rf ⟨rfl, Or.inr rfl⟩) ⟨rfl, Or.inl rfl⟩
        have w2 : WB A (en E 0) (my_uI (my_uI σ' A 11 0) A 1 (Int32.ofNat (els E))) := by
          refine ⟨by rw [uI_s, en_l, Nat.min_eq_left hW.2], fun i x hi hx => (eqp_g f2 (by omega)).trans (h.2.1 i x hi ?_), ?_⟩
          · have := (List.getElem?_eq_some_iff.mp hx).1
            rw [List.getElem?_append_left this]
            exact hx
          · rw [en_l, if_neg (by have := hW.2; omega)]
            exact (eqp_g f2 (by omega)).trans hf
        obtain ⟨g1, g2⟩ := W_LgC hW.2 w2 (NI_o hI f2 (fun c k hh => by omega)) (NR_o hR f2 (fun c k hh => by omega))
        refine hQ _ g1 g2 ?_ ((eqp_g f2 (by omega)).trans h2) (eqp_tr f (eqp_mo f2 (fun c k hh => by unfold lodF; omega)))
        rw [if_neg cT, my_uI_1, if_neg (by omega)]
        exact uI_s
      by_cases c1 : T.length < 2
      · refine c_12a hA (by omega) (fun y => ?_)
        rw [my_kI_v, hs, show Int32.ofNat (els E) + 2 = Int32.ofNat (els E + 2) by rw [show (2 : Int32) = Int32.ofNat 2 from rfl, oN_a], if_pos ((oN_lt (by omega) (by omega)).mpr (by omega))]
        exact fin
      · have hT2 : T.length < 2 + g2 T 0 := by
          rcases ht with ht | ht
          · omega
          · exact ht
        obtain ⟨b, hb, hb8⟩ := g1_e (C := T) (i := 0) (by omega)
        obtain ⟨c, hc, hc8⟩ := g1_e (C := T) (i := 1) (by omega)
        have hg := g2_lt T 0
        refine c_12w (i := els E) (b := b) (c := c) hA h (by omega) (by rw [List.getElem?_append_right (by rw [en_l]; omega), en_l, Nat.sub_self]; exact hb) (by rw [List.getElem?_append_right (by rw [en_l]; omega), en_l, show els E + 1 - els E = 1 by omega]; exact hc) rfl (by omega) ?_
        rw [my_kI_v, hs, b8_of hb8 (g1_lt _ _), b8_of hc8 (g1_lt _ _), show g1 T 0 + 256 * g1 T 1 = g2 T 0 from rfl, show Int32.ofNat (els E) + 2 = Int32.ofNat (els E + 2) by rw [show (2 : Int32) = Int32.ofNat 2 from rfl, oN_a], oN_a, if_neg (fun hh => by have := (oN_lt (by omega) (by omega)).mp hh; omega), if_pos ((oN_lt (by omega) (by omega)).mpr (by omega))]
        exact fin
  | cons x E2 ih =>
    intro E1 σ' hE h hI hR h11 h2 f
    have hs := h.1
    rw [hbl, Nat.min_eq_left (by omega)] at hs
    have hEl : els E = els E1 + (el x + els E2) := by rw [hE, els_a, els]
    have hW1 : LgW E1 := by
      have hw := hW.1
      rw [hE] at hw
      exact ⟨(wfl_a.mp hw).1, by omega⟩
    have hn1 := LgW_n hW1
    have h91 := wfl_9 hW1.1
    have hwx : wfe x (nit E1) := by
      have hw := hW.1
      rw [hE] at hw
      have := (wfl_a.mp hw).2
      rw [wfl, Nat.zero_add] at this
      exact this.1
    have hk : eK x = 1 ∨ eK x = 2 := by
      rcases hwx.2.2.2 with q | q
      · exact Or.inl q.1
      · exact Or.inr q.1
    have he : el x = hL1 x + 1 + (eN x).length + (eC x).length := rfl
    have h3 : 3 ≤ hL1 x := by unfold hL1; split <;> omega
    obtain ⟨q1, q2, q3⟩ := eh_b (k := nit E1) hk
    have b0 := en_x (T := T) (E2 := E2) q1
    have b1 := en_x (T := T) (E2 := E2) q2
    rw [← hE] at b0 b1
    unfold ys_185_4
    rw [if_pos ((oN_lt1 (b := 7747) (c := 7747) rfl (by omega) (by omega)).mpr (by omega)), hs, if_pos ((oN_lt (by omega) (by omega)).mpr (by omega))]
    have hw := hW.2
    refine c_12w (i := els E1) hA h (by omega) b0 b1 rfl (by omega) ?_
    rw [my_kI_v, hs, b8_of (bt_o (n := el x - 2) (j := 0) (by omega) (by omega)) (Nat.mod_lt _ (by omega)), b8_of (bt_o (n := el x - 2) (j := 1) (by omega) (by omega)) (Nat.mod_lt _ (by omega)), two_e (by omega), show Int32.ofNat (els E1) + 2 = Int32.ofNat (els E1 + 2) by rw [show (2 : Int32) = Int32.ofNat 2 from rfl, oN_a], oN_a, show els E1 + 2 + (el x - 2) = els E1 + el x by omega, if_neg (fun hh => by have := (oN_lt (by omega) (by omega)).mp hh; omega), if_neg (fun hh => by have := (oN_lt (by omega) (by omega)).mp hh; omega)]
    have hh := h
    rw [hE] at hh
    refine c_186 (E2 := E2) (T := T) hA hwx.1 hk hh (by rw [← hE]; omega) hI hR (by unfold itL3; rw [List.length_map]; omega) (by unfold rcL2; rw [List.length_map]; omega) (by omega) (fun σ1 hI1 hR1 f1 => ?_)
    rw [my_k0_v]
    unfold ys_185_73
    have := ih (E1 ++ [x]) σ1 (by rw [hE, List.append_assoc]; rfl) (WB_o h f1 (fun c k hh => by unfold ntF at hh; unfold wbF; omega)) hI1 hR1 ((eqp_g f1 (by unfold ntF; omega)).trans h11) ((eqp_g f1 (by unfold ntF; omega)).trans h2) (eqp_tr f (eqp_mo f1 (fun c k hh => by unfold ntF at hh; unfold lodF; omega)))
    rw [els_a, els, els, Nat.add_zero, List.length_append, List.length_singleton] at this
    rw [oN_s]
    exact ys_185_4_ok (in8 hA) this
theorem c_185 (hA : lg2 A) (hW : LgW E) (hB : els E + T.length ≤ 7747) (ht : tlB T) (hd : 4 ≤ d) (h : WB A (en E 0 ++ T) σ) (hI : σ.1 A 6 = 0) (hR : σ.1 A 9 = 0) (h11 : σ.1 A 11 = 1) (hQ : ∀ σ', LgC A E σ' → σ'.1 A 10 = 0 → (σ'.1 A 11 = if T = [] then 1 else 0) → σ'.1 A 2 = σ.1 A 2 → eqp (lodF A) σ σ' → Q (.inl none) κ σ') : my_M e d 185 [.inr (.inr (some A))] κ σ Q := by
  obtain ⟨d, rfl⟩ := dS 1 (show 1 ≤ d by omega)
  refine ys_185 (in8 hA) ?_
  unfold ys_185_0
  exact ys_185_4_ok (in8 hA) (c_185l (σ := σ) hA hW hB ht (by omega) hQ E [] σ rfl h ⟨hI, by decide, fun j x hx => by simp [itL3, itp, pse] at hx⟩ ⟨hR, by decide, fun j x hx => by simp [rcL2, rcp, pse] at hx⟩ h11 rfl eqp_rf)
end MNT
