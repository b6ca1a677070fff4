
/-! ===== the reference writes a body ===== -/
theorem itH_j {i : Nat} {a : Ri} (h : itH i a) (h2 : 2 ≤ riF a) {x : Rw} (hx : x ∈ riR a) (hj : x.1 = 14 ∨ x.1 = 15) : ∃ T, x.2.1 = Int32.ofNat T ∧ i ≤ T ∧ T ≤ i + (riR a).length := by
  obtain ⟨r, h3, h4, h5⟩ := h h2
  obtain ⟨D, hD, hJ⟩ := h4.2
  rw [h3] at hx
  have hl : (riR a).length = r.length + (ptl (riF a) (riT a)).length := by rw [h3, List.length_append]
  rcases List.mem_append.mp hx with h6 | h6
  · obtain ⟨j, hj2⟩ := List.getElem?_of_mem h6
    obtain ⟨_, _, k3, k4⟩ := hJ j x hj2
    rcases hj with hj | hj
    · rcases k4 hj with ⟨l, hl2, _⟩ | ⟨T, hT, hz, _⟩
      · cases hl2
      · exact ⟨T, by rw [hT]; rfl, hz.1, by have := hz.2.1; omega⟩
    · obtain ⟨T, hT, _, hz, _⟩ := (k3 hj).2
      exact ⟨T, by rw [hT]; rfl, hz.1, by have := hz.2.1; omega⟩
  · have := (ptl_H (fm := riF a) (ty := riT a)).2.2.2.1 x h6
    omega
section MRX
variable {e : my_E} {d : Nat} {κ : my_K} {σ : my_S} {Q : my_O → my_K → my_S → Prop} {E : List Int32} {As : List Ri} {I : List It} {R : List Rw} {N : List Nat} {k i : Nat} {a : Ri}
theorem PW_o {F : Nat → Nat → Prop} {σ' : my_S} (hB : itsB As) (h : PW I As R E N σ) (he : eqp F σ σ') (hF : ∀ c k, F c k → (526 ≤ c ∧ c ≠ 535 ∧ c ≠ 537) ∨ (c = 498 ∧ 44 ≤ k ∧ k ≠ 57 ∧ k ≠ 60)) : PW I As R E N σ' := ⟨RBy_o h.1 he (fun c k hh => by have := hF c k hh; omega), RNd_o h.2.1 he (fun c k hh => by have := hF c k hh; omega), h.2.2.1, TM_p hB h.2.2.2 he (fun c k hh => by have := hF c k hh; omega)⟩
theorem bdk {k m : Nat} (h : k < m) (hm : m < 2147483648) : my_bd (Int32.ofNat k) m := ⟨by rw [oN_i (by omega)]; omega, by rw [oN_i (by omega)]; omega⟩
theorem PW_r (hB : itsB As) (ha : As[k]? = some a) (h : PW I As R E N σ) : rit1 a k (rwA (As.take k)).length σ := by
  have hr := rit_at h.2.2.2.1.2 ha
  rw [Nat.zero_add, Nat.zero_add] at hr
  exact hr
/-- the bytes and the steps -/
def PV (As : List Ri) (R : List Rw) (E : List Int32) (σ : my_S) : Prop := RBy E σ ∧ TM As R σ
theorem PW_v (h : PW I As R E N σ) : PV As R E σ := ⟨h.1, h.2.2.2⟩
theorem PV_b {E' : List Int32} {σ' : my_S} (hB : itsB As) (h : PV As R E σ) (g : RBy E' σ') (f : eqp byF σ σ') : PV As R E' σ' := ⟨g, TM_p hB h.2 f (fun c k hh => by unfold byF at hh; omega)⟩
theorem PV_o {F : Nat → Nat → Prop} {σ' : my_S} (hB : itsB As) (h : PV As R E σ) (he : eqp F σ σ') (hF : ∀ c k, F c k → (526 ≤ c ∧ c ≠ 535) ∨ (c = 498 ∧ 44 ≤ k ∧ k ≠ 57)) : PV As R E σ' := ⟨RBy_o h.1 he (fun c k hh => by have := hF c k hh; omega), TM_p hB h.2 he (fun c k hh => by have := hF c k hh; omega)⟩
theorem PV_r (ha : As[k]? = some a) (h : PV As R E σ) : rit1 a k (rwA (As.take k)).length σ := by
  have hr := rit_at h.2.1.2 ha
  rw [Nat.zero_add, Nat.zero_add] at hr
  exact hr
/-- the parameters' types -/
theorem u_25 (hB : itsB As) (ha : As[k]? = some a) (hd : 1 ≤ d) : ∀ (m j : Nat) (E : List Int32) (σ : my_S), j + m = (riQ a).length → PV As R E σ → E.length + m ≤ 20000 → (∀ σ', PV As R (E ++ b1s ((riQ a).drop j)) σ' → eqp byF σ σ' → ys_272_25 e d (Int32.ofNat k) (Int32.ofNat (riQ a).length) κ σ' Q) → ys_272_25 e d (Int32.ofNat k) (Int32.ofNat j) κ σ Q := by
  have h42 := itsB_42 hB
  have hkA := (List.getElem?_eq_some_iff.mp ha).1
  have hW := hB.2 a (List.mem_of_getElem? ha)
  have h4 := hW.2.2.1
  intro m
  induction m with
  | zero =>
    intro j E σ hj h hE hQ
    rw [List.drop_of_length_le (by omega)] at hQ
    rw [show j = (riQ a).length by omega]
    exact hQ σ (by rw [show b1s [] = [] from rfl, List.append_nil]; exact h) eqp_rf
  | succ m ih =>
    intro j E σ hj h hE hQ
    have hr := PV_r ha h
    have hjq : j < (riQ a).length := by omega
    unfold ys_272_25
    rw [oN_n (by omega), hr.2.2.2.2.2.1, if_pos (by rw [oN_lt (by omega) (by omega)]; omega)]
    have e4 : (4 : Int32) * Int32.ofNat k + Int32.ofNat j = Int32.ofNat (4 * k + j) := by
      rw [Int32.ofNat_add, Int32.ofNat_mul]; rfl
    rw [e4, oN_n (by omega), hr.2.2.2.2.2.2.1 j _ (List.getElem?_eq_getElem hjq)]
    refine ⟨bdk (m := 48) (by omega) (by omega), bdk (m := 192) (by omega) (by omega), ?_⟩
    refine u_269b h.1 (by omega) hd (fun σ1 g1 f1 => ?_)
    rw [my_k0_v, oN_s]
    refine ys_272_25_ok (ih (j + 1) _ σ1 (by omega) (PV_b hB h g1 f1) (by rw [List.length_append, bts_l]; omega) (fun σ2 g2 f2 => hQ σ2 ?_ (eqp_tr f1 f2)))
    rw [List.drop_eq_getElem_cons hjq]
    rw [List.append_assoc] at g2
    exact g2
/-- where the steps begin -/
theorem u_84 (hB : itsB As) (hR : R.length ≤ 3200) (ha : As[k]? = some a) (h2 : 2 ≤ riF a) (hi : i = (rwA (As.take k)).length) (hRA : ∀ j x, (riR a)[j]? = some x → R[i + j]? = some x) (hl : i + (riR a).length ≤ 3200) (hV : rVs (riR a)) (hd : 1 ≤ d) : ∀ (m j : Nat) (σ : my_S), j + m = (riR a).length → (∀ x, i ≤ x → x < i + j → σ.1 536 x = jOf i a x) → PV As R E σ → (∀ σ', (∀ x, i ≤ x → x < i + (riR a).length → σ'.1 536 x = jOf i a x) → PV As R E σ' → eqp (fun c _ => c = 536) σ σ' → ys_272_84 e d (Int32.ofNat k) (Int32.ofNat (lens (riR a))) (Int32.ofNat (i + (riR a).length)) κ σ' Q) → ys_272_84 e d (Int32.ofNat k) (Int32.ofNat (lens ((riR a).take j))) (Int32.ofNat (i + j)) κ σ Q := by
  have h42 := itsB_42 hB
  have hkA := (List.getElem?_eq_some_iff.mp ha).1
  intro m
  induction m with
  | zero =>
    intro j σ hj hx h hQ
    have hjj : j = (riR a).length := by omega
    subst hjj
    rw [List.take_length]
    exact hQ σ hx h eqp_rf
  | succ m ih =>
    intro j σ hj hx h hQ
    have hr := (PV_r ha h).2.2.2.2.2.2.2 h2
    rw [← hi] at hr
    have hjl : j < (riR a).length := by omega
    have hjx := List.getElem?_eq_getElem hjl
    obtain ⟨k1, _⟩ := h.2.2.2 (i + j) _ (hRA j _ hjx)
    unfold ys_272_84
    rw [oN_n (by omega), hr.2.1, if_pos (by rw [oN_lt (by omega) (by omega)]; omega), oN_n (by omega), k1]
    refine ⟨bdk (m := 48) (by omega) (by omega), bdk (m := 3201) (by omega) (by omega), bdk (m := 3200) (by omega) (by omega), ?_⟩
    refine u_274 (hV _ (List.getElem_mem hjl)) hd ?_
    rw [my_kI_v, oN_s, ← Int32.ofNat_add]
    refine ys_272_84_ok ?_
    have he : eqp (fun c _ => c = 536) σ (my_uI σ 536 (i + j) (Int32.ofNat (lens ((riR a).take j)))) := eqp_I eqp_rf rfl
    have htk : lens ((riR a).take (j + 1)) = lens ((riR a).take j) + ln1 ((riR a)[j]).1 := by
      rw [List.take_succ, hjx, lens_a]
      simp [lens]
    rw [← htk, Nat.add_assoc]
    refine ih (j + 1) _ (by omega) (fun x hx1 hx2 => ?_) (PV_o hB h he (fun c k hh => by omega)) (fun σ' q1 q2 q3 => hQ σ' q1 q2 (eqp_tr he q3))
    by_cases hxj : x = i + j
    · subst hxj
      rw [uI_s]
      unfold jOf
      rw [Nat.add_sub_cancel_left]
    · rw [my_uI_1, if_neg (by omega)]
      exact hx x hx1 (by omega)
/-- the steps -/
theorem u_158 (hB : itsB As) (hrel : iRel As I) (hR : R.length ≤ 3200) (ha : As[k]? = some a) (h2 : 2 ≤ riF a) (hi : i = (rwA (As.take k)).length) (hRA : ∀ j x, (riR a)[j]? = some x → R[i + j]? = some x) (hl : i + (riR a).length ≤ 3200) (hV : rVs (riR a)) (hNK : NKr I (riR a)) (hH : itH i a) (hd : 4 ≤ d) : ∀ (r : List Rw) (j : Nat) (E : List Int32) (N : List Nat) (σ : my_S), (riR a).drop j = r → j ≤ (riR a).length → (∀ x, i ≤ x → x ≤ i + (riR a).length → σ.1 536 x = jOf i a x) → PW I As R E N σ → E.length + lens r + 5 ≤ 20000 → (∀ σ', PW I As R (E ++ eb I (jOf i a) r N) (ndl I r N) σ' → eqp pwF σ σ' → ys_272_158 e d (Int32.ofNat k) (Int32.ofNat (i + (riR a).length)) κ σ' Q) → ys_272_158 e d (Int32.ofNat k) (Int32.ofNat (i + j)) κ σ Q := by
  have h42 := itsB_42 hB
  have hkA := (List.getElem?_eq_some_iff.mp ha).1
  intro r
  induction r with
  | nil =>
    intro j E N σ hr hj hx h hE hQ
    have hjj : j = (riR a).length := by
      have := congrArg List.length hr
      simp at this
      omega
    subst hjj
    exact hQ σ (by rw [show eb I (jOf i a) [] N = [] from rfl, List.append_nil]; exact h) eqp_rf
  | cons x r ih =>
    intro j E N σ hr hj hx h hE hQ
    have hjx : (riR a)[j]? = some x := by
      have := congrArg (fun l => l[0]?) hr
      simpa using this
    have hjl := (List.getElem?_eq_some_iff.mp hjx).1
    have hmem := List.mem_of_getElem? hjx
    have hrt := (PW_r hB ha h).2.2.2.2.2.2.2 h2
    rw [← hi] at hrt
    have hNx : 200 ≤ x.1 → x.1 ≤ 205 → itK I x.2.2.1 ≠ none := fun h1 h2 => by
      obtain ⟨y, hy, _⟩ := hNK x hmem h1 h2
      rw [hy]; simp
    have hE2 : E.length + (ln1 x.1 + lens r) + 5 ≤ 20000 := hE
    unfold ys_272_158
    rw [oN_n (by omega), hrt.2.1, if_pos (by rw [oN_lt (by omega) (by omega)]; omega)]
    refine ⟨bdk (m := 48) (by omega) (by omega), ?_⟩
    refine u_275 (J := jOf i a) hB hrel hR (hRA j x hjx) (hV x hmem) (hNK x hmem) (fun hj14 => ?_) h (by omega) hd (fun σ1 w1 f1 => ?_)
    · obtain ⟨T, t1, t2, t3⟩ := itH_j hH h2 hmem hj14
      exact ⟨T, t1, by omega, hx T t2 t3⟩
    rw [my_k0_v, oN_s]
    refine ys_272_158_ok ?_
    have hr2 : (riR a).drop (j + 1) = r := by
      rw [← List.tail_drop, hr]
      rfl
    rw [Nat.add_assoc]
    refine ih (j + 1) _ _ σ1 hr2 (by omega) (fun y y1 y2 => ?_) w1 (by rw [List.length_append, eb1_l hNx]; omega) (fun σ2 w2 f2 => hQ σ2 ?_ (eqp_tr f1 f2))
    · rw [eqp_g f1 (show ¬ pwF 536 y by unfold pwF byF ndFr; omega)]
      exact hx y y1 y2
    · rw [List.append_assoc] at w2
      exact w2
/-- the names that are needed -/
theorem u_189 (hB : itsB As) (hrel : iRel As I) (hk : k < 42) (hd : 5 ≤ d) : ∀ (m j : Nat) (E : List Int32) (σ : my_S), j + m = N.length → PW I As R E N σ → E.length + (nmsB I (N.drop j)).length ≤ 20000 → (∀ u x, u < j → N[u]? = some x → σ.1 534 (50 * k + u) = Int32.ofNat x) → (∀ σ', PW I As R (E ++ nmsB I (N.drop j)) N σ' → (∀ u x, N[u]? = some x → σ'.1 534 (50 * k + u) = Int32.ofNat x) → eqp (fun c q => byF c q ∨ (c = 534 ∧ 50 * k ≤ q ∧ q < 50 * k + 50)) σ σ' → Q (.inl none) κ σ') → ys_272_189 e d (Int32.ofNat k) (Int32.ofNat j) κ σ Q := by
  intro m
  induction m with
  | zero =>
    intro j E σ hj h hE hu hQ
    have h30 := NK_30 hB hrel h.2.2.1
    unfold ys_272_189
    rw [h.2.1.1, if_neg (by rw [oN_lt (by omega) (by omega)]; omega)]
    rw [List.drop_of_length_le (by omega)] at hQ
    exact hQ σ (by rw [show nmsB I [] = [] from rfl, List.append_nil]; exact h) (fun u x hx => hu u x (by have := (List.getElem?_eq_some_iff.mp hx).1; omega) hx) eqp_rf
  | succ m ih =>
    intro j E σ hj h hE hu hQ
    have h30 := NK_30 hB hrel h.2.2.1
    have h42 := itsB_42 hB
    have hjl : j < N.length := by omega
    have hjx := List.getElem?_eq_getElem hjl
    have hmem := List.getElem_mem hjl
    generalize hx : N[j] = x at hjx hmem
    obtain ⟨x1, x2, x3⟩ := h.2.2.1.2 x hmem
    obtain ⟨b, hb, hio⟩ := iRel_a2 hrel x1
    have hWb := hB.2 b (List.mem_of_getElem? hb)
    have hNx : isN (itA I x).1 := by rw [hio.1]; exact hWb.2.1
    have hxA : x < As.length := by rw [← hrel.1]; exact x1
    have hdr : nmsB I (N.drop j) = nmB (itA I x) ++ nmsB I (N.drop (j + 1)) := by rw [List.drop_eq_getElem_cons hjl, nmsB_c, hx]
    rw [hdr] at hE hQ
    rw [List.length_append, nmB_l] at hE
    unfold ys_272_189
    rw [h.2.1.1, if_pos (by rw [oN_lt (by omega) (by omega)]; omega), oN_n (by omega), h.2.1.2 j x hjx]
    refine ⟨bdk (m := 48) (by omega) (by omega), ?_⟩
    refine t_263 hNx (RI_n hB h.2.2.2.1) (by omega) ?_
    rw [← iRel_k hrel, x2, my_kI_v, show ixO (some x) = Int32.ofNat x from rfl]
    have e5 : (50 : Int32) * Int32.ofNat k + Int32.ofNat j = Int32.ofNat (50 * k + j) := by
      rw [Int32.ofNat_add, Int32.ofNat_mul]; rfl
    rw [e5, oN_n (by omega), oN_n (by omega)]
    refine ⟨bdk (m := 2400) (by omega) (by omega), bdk (m := 48) (by omega) (by omega), ?_⟩
    have he : eqp (fun c q => c = 534 ∧ q = 50 * k + j) σ (my_uI σ 534 (50 * k + j) (Int32.ofNat x)) := eqp_I eqp_rf ⟨rfl, rfl⟩
    have w1 := PW_o hB h he (fun c q hh => by omega)
    have v1 : (my_uI σ 534 (50 * k + j) (Int32.ofNat x)).1 534 (50 * k + j) = Int32.ofNat x := uI_s
    have v2 : ∀ u y, u < j → N[u]? = some y → (my_uI σ 534 (50 * k + j) (Int32.ofNat x)).1 534 (50 * k + u) = Int32.ofNat y := fun u y hu1 hu2 => by
      rw [my_uI_1, if_neg (by omega)]
      exact hu u y hu1 hu2
    rw [(PW_r hB hb h).1]
    generalize my_uI σ 534 (50 * k + j) (Int32.ofNat x) = σ1 at he w1 v1 v2 ⊢
    refine u_273 hWb.1 (by omega) ?_
    rw [my_kI_v]
    refine u_269b w1.1 (by omega) (by omega) (fun σ2 g2 f2 => ?_)
    rw [my_k0_v]
    have w2 := PW_b hB w1 g2 f2
    rw [w2.2.1.2 j x hjx]
    refine ⟨bdk (m := 48) (by omega) (by omega), ?_⟩
    refine u_277 hNx w2.1 (by rw [List.length_append, bts_l]; omega) (by omega) (fun σ3 g3 f3 => ?_)
    rw [my_k0_v, oN_s]
    have w3 := PW_b hB w2 g3 f3
    have hnb : E ++ bts (Int32.ofNat (riF b)) 1 0 ++ (bts (Int32.ofNat (itA I x).1.length) 1 0 ++ ltb (itA I x).1) = E ++ nmB (itA I x) := by
      unfold nmB
      rw [hio.2.1, List.append_assoc]
    rw [hnb] at w3
    have f13 : eqp (fun c q => byF c q ∨ (c = 534 ∧ 50 * k ≤ q ∧ q < 50 * k + 50)) σ σ3 := eqp_tr (eqp_mo he (fun c q hh => Or.inr (by omega))) (eqp_mo (eqp_tr f2 f3) (fun _ _ => Or.inl))
    refine ys_272_189_ok (ih (j + 1) _ σ3 (by omega) w3 (by rw [List.length_append, nmB_l]; omega) (fun u y hu1 hu2 => ?_) (fun σ4 w4 v4 f4 => hQ σ4 ?_ v4 (eqp_tr f13 f4)))
    · rw [eqp_g (eqp_tr f2 f3) (show ¬ byF 534 (50 * k + u) by unfold byF; omega)]
      by_cases huj : u = j
      · subst huj
        rw [hjx] at hu2
        cases hu2
        exact v1
      · exact v2 u y (by omega) hu2
    · rw [List.append_assoc] at w4
      exact w4
end MRX
