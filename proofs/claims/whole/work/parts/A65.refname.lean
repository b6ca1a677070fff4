
/-! ===== the reference's names and needs ===== -/
theorem d27 {a : Nat} (ha : a < 9223372036854775808) : Int64.ofNat a / 27 = Int64.ofNat (a / 27) := by
  apply Int64.toInt_inj.mp
  rw [Int64.toInt_div, Int64.toInt_ofNat_of_lt ha, Int64.toInt_ofNat_of_lt (by omega), show (27 : Int64).toInt = 27 from rfl, Int.tdiv_eq_ediv_of_nonneg (by omega)]
  have h2 : ((a : Int) / 27).bmod (2 ^ 64) = (a : Int) / 27 := by
    rw [Int.bmod_def]
    have h3 : ((a : Int) / 27) % (2 ^ 64 : Nat) = (a : Int) / 27 := by omega
    rw [h3, if_pos (by omega)]
  rw [h2]
  omega
theorem lg_pos {a : Nat} (ha : a < 9223372036854775808) : ((0 : Int32) < lg_cmp (Int64.ofNat a) 0) ↔ 0 < a := by
  have h1 : (Int64.ofNat a).toInt = a := Int64.toInt_ofNat_of_lt ha
  have h0 : (0 : Int64).toInt = 0 := rfl
  unfold lg_cmp
  by_cases c : Int64.ofNat a > 0
  · rw [if_pos c]
    have := Int64.lt_iff_toInt_lt.mp c
    exact ⟨fun _ => by omega, fun _ => by decide⟩
  · rw [if_neg c]
    have hn : ¬ 0 < a := fun hh => c (Int64.lt_iff_toInt_lt.mpr (by omega))
    refine ⟨fun hh => ?_, fun hh => absurd hh hn⟩
    split at hh
    · exact absurd hh (by decide)
    · exact absurd hh (by decide)
section MRN
variable {e : my_E} {d : Nat} {κ : my_K} {σ : my_S} {Q : my_O → my_K → my_S → Prop} {l : List Nat} {E : List Int32}
theorem pR_dr {w : List Nat} (hw : okL w) {j : Nat} (hj : j < w.length) : pR (w.drop j) = w[j] + 27 * pR (w.drop (j + 1)) ∧ 1 ≤ w[j] ∧ w[j] ≤ 26 := by
  rw [List.drop_eq_getElem_cons hj]
  exact ⟨rfl, hw _ (List.getElem_mem hj)⟩
theorem pR_le {w : List Nat} (hw : okL w) : ∀ j, pR (w.drop j) ≤ pR w
  | 0 => by simp
  | j + 1 => by
    have ih := pR_le hw j
    by_cases hj : j < w.length
    · have := (pR_dr hw hj).1
      omega
    · rw [List.drop_of_length_le (by omega)]
      simp [pR]
theorem okL_r (hl : isN l) : okL l.reverse := fun a ha => hl.1 a (List.mem_reverse.mp ha)
theorem u_278l (hl : isN l) : ∀ (m j : Nat), j + m = l.length → Q (.inl (some (.inl (Int32.ofNat l.length)))) κ σ → ys_278_4 e d (Int32.ofNat j) (Int64.ofNat (pR (l.reverse.drop j))) κ σ Q := by
  have hb := isN_R hl
  intro m
  induction m with
  | zero =>
    intro j hj hQ
    unfold ys_278_4
    have h0 : pR (l.reverse.drop j) = 0 := by rw [List.drop_of_length_le (by rw [List.length_reverse]; omega)]; rfl
    rw [h0, if_neg (fun hh => by have := (lg_pos (by omega)).mp hh; omega), show j = l.length by omega]
    exact hQ
  | succ m ih =>
    intro j hj hQ
    have hle := pR_le (okL_r hl) j
    have hdr := pR_dr (okL_r hl) (j := j) (by rw [List.length_reverse]; omega)
    unfold ys_278_4
    rw [if_pos ((lg_pos (by omega)).mpr (by omega)), oN_s, d27 (by omega), hdr.1, show (l.reverse[j]'(by rw [List.length_reverse]; omega) + 27 * pR (l.reverse.drop (j + 1))) / 27 = pR (l.reverse.drop (j + 1)) by omega]
    exact ys_278_4_ok (ih (j + 1) (by omega) hQ)
theorem u_278 (hl : isN l) (hd : 1 ≤ d) (hQ : Q (.inl (some (.inl (Int32.ofNat l.length)))) κ σ) : my_M e d 278 [.inr (.inl (nmR l))] κ σ Q := by
  obtain ⟨d, rfl⟩ := dS 1 hd
  refine ys_278 ?_
  unfold ys_278_0
  have := u_278l (e := e) (d := d) (κ := κ) (σ := σ) (Q := Q) hl l.length 0 (by omega) hQ
  rw [List.drop_zero] at this
  exact ys_278_4_ok this
theorem u_279l {k : Nat} (hl : isN l) (hk : k < l.length) : ∀ (m j : Nat), j + m + 1 + k = l.length → Q (.inl (some (.inl (Int32.ofNat (l[k] + 96))))) κ σ → ys_279_10 e d (Int32.ofNat k) (Int64.ofNat (pR (l.reverse.drop j))) (Int32.ofNat (l.length - 1 - j)) κ σ Q := by
  have hb := isN_R hl
  have h8 := hl.2
  intro m
  induction m with
  | zero =>
    intro j hj hQ
    have hle := pR_le (okL_r hl) j
    have hdr := pR_dr (okL_r hl) (j := j) (by rw [List.length_reverse]; omega)
    have hg : l.reverse[j]'(by rw [List.length_reverse]; omega) = l[k] := by
      rw [List.getElem_reverse]
      congr 1
      omega
    rw [hg] at hdr
    unfold ys_279_10
    rw [if_neg (by rw [oN_lt (by omega) (by omega)]; omega), d27 (by omega), show pR (l.reverse.drop j) / 27 = pR (l.reverse.drop (j + 1)) by omega]
    have e1 : Int64.ofNat (pR (l.reverse.drop j)) - Int64.ofNat (pR (l.reverse.drop (j + 1))) * 27 = Int64.ofNat l[k] := by
      rw [hdr.1, Int64.ofNat_add, Nat.mul_comm, Int64.ofNat_mul, show Int64.ofNat 27 = 27 from rfl, Int64.add_sub_cancel]
    rw [e1, show (Int64.ofNat l[k]).toInt32 = Int32.ofNat l[k] from Int64.toInt32_ofNat']
    have e2 : Int32.ofNat l[k] + 97 - 1 = Int32.ofNat (l[k] + 96) := by
      rw [Int32.ofNat_add, show (97 : Int32) = Int32.ofNat 96 + 1 from rfl, ← Int32.add_assoc, Int32.add_sub_cancel]
    rw [e2]
    exact hQ
  | succ m ih =>
    intro j hj hQ
    have hle := pR_le (okL_r hl) j
    have hdr := pR_dr (okL_r hl) (j := j) (by rw [List.length_reverse]; omega)
    unfold ys_279_10
    have e3 : Int32.ofNat (l.length - 1 - j) + Int32.ofInt (-1) = Int32.ofNat (l.length - 1 - (j + 1)) := by
      rw [show l.length - 1 - j = l.length - 1 - (j + 1) + 1 by omega, Int32.ofNat_add, Int32.add_assoc, show Int32.ofNat 1 + Int32.ofInt (-1) = 0 from rfl, Int32.add_zero]
    rw [if_pos (by rw [oN_lt (by omega) (by omega)]; omega), d27 (by omega), e3, show pR (l.reverse.drop j) / 27 = pR (l.reverse.drop (j + 1)) by omega]
    exact ys_279_10_ok (ih (j + 1) (by omega) hQ)
theorem u_279 {k : Nat} (hl : isN l) (hk : k < l.length) (hd : 2 ≤ d) (hQ : Q (.inl (some (.inl (Int32.ofNat (l[k] + 96))))) κ σ) : my_M e d 279 [.inr (.inl (nmR l)), .inl (Int32.ofNat k)] κ σ Q := by
  obtain ⟨d, rfl⟩ := dS 1 (show 1 ≤ d by omega)
  refine ys_279 ?_
  unfold ys_279_0
  refine u_278 hl (by omega) ?_
  rw [my_kI_v]
  have := u_279l (e := e) (d := d) (κ := κ) (σ := σ) (Q := Q) hl hk (l.length - 1 - k) 0 (by omega) hQ
  rw [List.drop_zero, Nat.sub_zero] at this
  have e1 : Int32.ofNat l.length - 1 = Int32.ofNat (l.length - 1) := by
    rw [Int32.ofNat_sub _ _ (by omega)]; rfl
  rw [e1]
  exact ys_279_10_ok this
theorem u_277l (hl : isN l) (hd : 3 ≤ d) : ∀ (m j : Nat) (E : List Int32) (σ : my_S), j + m = l.length → RBy E σ → E.length + m ≤ 20000 → (∀ σ', RBy (E ++ ltb (l.drop j)) σ' → eqp byF σ σ' → Q (.inl none) κ σ') → ys_277_10 e d (nmR l) (Int32.ofNat j) κ σ Q := by
  have h8 := hl.2
  intro m
  induction m with
  | zero =>
    intro j E σ hj h hE hQ
    unfold ys_277_10
    refine u_278 hl (by omega) ?_
    rw [my_kI_v, if_neg (by rw [oN_lt (by omega) (by omega)]; omega)]
    rw [List.drop_of_length_le (by omega)] at hQ
    exact hQ σ (by rw [show ltb [] = [] from rfl, List.append_nil]; exact h) eqp_rf
  | succ m ih =>
    intro j E σ hj h hE hQ
    have hjl : j < l.length := by omega
    unfold ys_277_10
    refine u_278 hl (by omega) ?_
    rw [my_kI_v, if_pos (by rw [oN_lt (by omega) (by omega)]; omega)]
    refine u_279 hl hjl (by omega) ?_
    rw [my_kI_v]
    refine u_269b h (by omega) (by omega) (fun σ1 g1 f1 => ?_)
    rw [my_k0_v, oN_s]
    refine ys_277_10_ok (ih (j + 1) _ σ1 (by omega) g1 (by rw [List.length_append, bts_l]; omega) (fun σ2 g2 f2 => hQ σ2 ?_ (eqp_tr f1 f2)))
    rw [List.drop_eq_getElem_cons hjl]
    rw [List.append_assoc] at g2
    exact g2
theorem u_277 (hl : isN l) (h : RBy E σ) (hE : E.length + 1 + l.length ≤ 20000) (hd : 4 ≤ d) (hQ : ∀ σ', RBy (E ++ (bts (Int32.ofNat l.length) 1 0 ++ ltb l)) σ' → eqp byF σ σ' → Q (.inl none) κ σ') : my_M e d 277 [.inr (.inr (some 498)), .inr (.inl (nmR l))] κ σ Q := by
  obtain ⟨d, rfl⟩ := dS 1 (show 1 ≤ d by omega)
  refine ys_277 ?_
  unfold ys_277_0
  refine u_278 hl (by omega) ?_
  rw [my_kI_v]
  refine u_269b h (by omega) (by omega) (fun σ1 g1 f1 => ?_)
  rw [my_k0_v]
  refine ys_277_10_ok (u_277l hl (by omega) l.length 0 _ σ1 (by omega) g1 (by rw [List.length_append, bts_l]; omega) (fun σ2 g2 f2 => hQ σ2 ?_ (eqp_tr f1 f2)))
  rw [List.append_assoc] at g2
  exact g2
/-- what is needed so far -/
def RNd (I : List It) (N : List Nat) (σ : my_S) : Prop := σ.1 498 60 = Int32.ofNat N.length ∧ ∀ i x, N[i]? = some x → σ.2.1 537 i = nmR (itA I x).1
def ndFr (c k : Nat) : Prop := c = 537 ∨ (c = 498 ∧ k = 60)
theorem RNd_o {F : Nat → Nat → Prop} {I : List It} {N : List Nat} {σ σ' : my_S} (h : RNd I N σ) (he : eqp F σ σ') (hF : ∀ c k, F c k → c ≠ 537 ∧ (c = 498 → k ≠ 60)) : RNd I N σ' := ⟨(eqp_g he (fun hh => (hF _ _ hh).2 rfl rfl)).trans h.1, fun i x hi => ((he _ _ (fun hh => (hF _ _ hh).1 rfl)).2.1).trans (h.2 i x hi)⟩
variable {I : List It} {N : List Nat} {nm : List Nat} {x : Nat}
theorem u_276l (hN : isN nm) (hx : itK I nm = some x) (h : RNd I N σ) (hNK : NK I N) (hnN : ∀ y ∈ N, isN (itA I y).1) (h40 : N.length < 48) (hQ1 : ∀ k, ix N x 0 = some k → Q (.inl (some (.inl (Int32.ofNat k)))) κ σ) (hQ2 : ix N x 0 = none → Q (.inl (some (.inl (Int32.ofNat N.length)))) κ (my_uI (my_uL σ 537 N.length (nmR nm)) 498 60 (Int32.ofNat (N.length + 1)))) : ∀ (m j : Nat), j + m = N.length → ix (N.drop j) x j = ix N x 0 → ys_276_2 e d (nmR nm) (Int32.ofNat j) κ σ Q := by
  intro m
  induction m with
  | zero =>
    intro j hj hi
    rw [List.drop_of_length_le (by omega)] at hi
    unfold ys_276_2
    rw [h.1, if_neg (by rw [oN_lt (by omega) (by omega)]; omega), oN_n (by omega), oN_s]
    refine ⟨⟨by rw [oN_i (by omega)]; omega, by rw [oN_i (by omega)]; omega⟩, ?_⟩
    have e1 : Int32.ofNat (N.length + 1) - 1 = Int32.ofNat N.length := by
      rw [Int32.ofNat_add, show Int32.ofNat 1 = 1 from rfl, Int32.add_sub_cancel]
    rw [e1]
    exact hQ2 hi.symm
  | succ m ih =>
    intro j hj hi
    have hjl : j < N.length := by omega
    have hmem := List.getElem_mem hjl
    unfold ys_276_2
    rw [h.1, if_pos (by rw [oN_lt (by omega) (by omega)]; omega), oN_n (by omega), h.2 j _ (List.getElem?_eq_getElem hjl)]
    refine ⟨⟨by rw [oN_i (by omega)]; omega, by rw [oN_i (by omega)]; omega⟩, ?_⟩
    rw [List.drop_eq_getElem_cons hjl] at hi
    rw [show ix (N[j] :: N.drop (j + 1)) x j = if N[j] = x then some j else ix (N.drop (j + 1)) x (j + 1) from rfl] at hi
    by_cases c : N[j] = x
    · rw [if_pos c] at hi
      have : (itA I N[j]).1 = nm := by rw [c]; exact itK_n hx
      rw [if_pos (lg_cmp_0.mpr (by rw [this]))]
      exact hQ1 j hi.symm
    · rw [if_neg c] at hi
      have hne : ¬ lg_cmp (nmR (itA I N[j]).1) (nmR nm) = 0 := fun hh => by
        have h1 := (nmR_inj (hnN _ hmem) hN).mp (lg_cmp_0.mp hh)
        have h2 := (hNK.2 _ hmem).2.1
        rw [h1, hx] at h2
        exact c (Option.some.inj h2).symm
      rw [if_neg hne, oN_s]
      exact ys_276_2_ok (ih (j + 1) (by omega) hi)
theorem u_276 {As : List Ri} (hB : itsB As) (hrel : iRel As I) (hN : isN nm) (hx : itK I nm = some x) (hk : (itA I x).2.2.1 = 0 ∨ (itA I x).2.2.1 = 1 ∨ (itA I x).2.2.1 = 2) (h : RNd I N σ) (hNK : NK I N) (hd : 1 ≤ d) (hQ : ∀ σ', RNd I (nid N x).2 σ' → NK I (nid N x).2 → eqp ndFr σ σ' → Q (.inl (some (.inl (Int32.ofNat (nid N x).1)))) κ σ') : my_M e d 276 [.inr (.inr (some 498)), .inr (.inl (nmR nm))] κ σ Q := by
  obtain ⟨d, rfl⟩ := dS 1 hd
  refine ys_276 ?_
  unfold ys_276_0
  have h30 := NK_30 hB hrel hNK
  have hnN : ∀ y ∈ N, isN (itA I y).1 := fun y hy => by
    obtain ⟨a, ha, hio⟩ := iRel_a2 hrel (hNK.2 y hy).1
    rw [hio.1]
    exact (hB.2 a (List.mem_of_getElem? ha)).2.1
  obtain ⟨hNK', hcs⟩ := nid_k hB hrel hNK hx hk
  refine ys_276_2_ok (u_276l (I := I) hN hx h hNK hnN (by omega) (fun k hi => ?_) (fun hi => ?_) N.length 0 (by omega) rfl)
  · rcases hcs with ⟨k', h1, h2⟩ | ⟨h1, h2⟩
    · rw [hi] at h1
      cases h1
      rw [h2] at hQ hNK'
      exact hQ σ h hNK' eqp_rf
    · rw [hi] at h1; cases h1
  · rcases hcs with ⟨k', h1, h2⟩ | ⟨h1, h2⟩
    · rw [hi] at h1; cases h1
    · rw [h2] at hQ hNK'
      have he : eqp ndFr σ (my_uI (my_uL σ 537 N.length (nmR nm)) 498 60 (Int32.ofNat (N.length + 1))) := eqp_I (eqp_L eqp_rf (Or.inl rfl)) (Or.inr ⟨rfl, rfl⟩)
      refine hQ _ ⟨by rw [uI_s, List.length_append]; rfl, fun i y hi => ?_⟩ hNK' he
      show (if 537 = 537 ∧ i = N.length then nmR nm else σ.2.1 537 i) = _
      by_cases hil : i < N.length
      · rw [List.getElem?_append_left hil] at hi
        rw [if_neg (by omega)]
        exact h.2 i y hi
      · rw [List.getElem?_append_right (by omega)] at hi
        have hi0 : i - N.length = 0 := by
          by_cases hh : i - N.length = 0
          · exact hh
          · rw [List.getElem?_eq_none (by simp; omega)] at hi; cases hi
        rw [hi0] at hi
        cases hi
        rw [if_pos ⟨rfl, by omega⟩, itK_n hx]
end MRN
