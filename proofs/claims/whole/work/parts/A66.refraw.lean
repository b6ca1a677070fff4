
/-! ===== the reference writes steps ===== -/
def pwF (c k : Nat) : Prop := byF c k ∨ ndFr c k
section MRW
variable {e : my_E} {d : Nat} {κ : my_K} {σ : my_S} {Q : my_O → my_K → my_S → Prop} {E : List Int32} {As : List Ri} {I : List It} {R : List Rw} {N : List Nat} {J : Nat → Int32}
/-- the bytes, the needs, the steps -/
def PW (I : List It) (As : List Ri) (R : List Rw) (E : List Int32) (N : List Nat) (σ : my_S) : Prop := RBy E σ ∧ RNd I N σ ∧ NK I N ∧ TM As R σ
theorem TM_p {F : Nat → Nat → Prop} {σ' : my_S} (hB : itsB As) (h : TM As R σ) (he : eqp F σ σ') (hF : ∀ c k, F c k → 526 ≤ c ∨ (c = 498 ∧ 44 ≤ k)) : TM As R σ' := ⟨RI_o hB h.1 he (fun c k hh => by have := hF c k hh; omega), rws_o h.2 he (fun c k hh => by have := hF c k hh; omega)⟩
theorem PW_b {E' : List Int32} {σ' : my_S} (hB : itsB As) (h : PW I As R E N σ) (g : RBy E' σ') (f : eqp byF σ σ') : PW I As R E' N σ' := ⟨g, RNd_o h.2.1 f (fun c k hh => by unfold byF at hh; omega), h.2.2.1, TM_p hB h.2.2.2 f (fun c k hh => by unfold byF at hh; omega)⟩
theorem PW_n {N' : List Nat} {σ' : my_S} (hB : itsB As) (h : PW I As R E N σ) (g : RNd I N' σ') (g2 : NK I N') (f : eqp ndFr σ σ') : PW I As R E N' σ' := ⟨RBy_o h.1 f (fun c k hh => by unfold ndFr at hh; omega), g, g2, TM_p hB h.2.2.2 f (fun c k hh => by unfold ndFr at hh; omega)⟩
/-- a step with a name -/
theorem u_nm {nm : List Nat} {t0 : Int32} {K : my_O → my_K → my_S → Prop} (hB : itsB As) (hrel : iRel As I) (hN : isN nm) (hk : knd I nm) (h : PW I As R E N σ) (hl : E.length + 2 ≤ 20000) (hd : 1 ≤ d)
    (hQ : ∀ σ', PW I As R (E ++ nmd t0 I nm N) (nmN I nm N) σ' → eqp pwF σ σ' → K (.inl none) κ σ') (P : my_S → Prop) (hP : ∀ σ', eqp pwF σ σ' → P σ') (nf : my_S → Int64) (hnf : ∀ σ', eqp pwF σ σ' → nf σ' = nmR nm) : my_M e d 269 [.inr (.inr (some 498)), .inl t0] κ σ (my_k0 (fun κ2 σ3 => P σ3 ∧ my_M e d 276 [.inr (.inr (some 498)), .inr (.inl (nf σ3))] κ2 σ3 (my_kI (fun x4 κ5 σ6 => my_M e d 269 [.inr (.inr (some 498)), .inl x4] κ5 σ6 (my_k0 (fun κ8 σ9 => K (.inl none) κ8 σ9) (fun y10 κ11 σ12 => K (.inr y10) κ11 σ12))) (fun y13 κ14 σ15 => K (.inr y13) κ14 σ15))) (fun y16 κ17 σ18 => K (.inr y16) κ17 σ18)) := by
  obtain ⟨x, hx, hkd⟩ := hk
  refine u_269b h.1 (by omega) hd (fun σ1 g1 f1 => ?_)
  rw [my_k0_v]
  have f1p : eqp pwF σ σ1 := eqp_mo f1 (fun _ _ => Or.inl)
  refine ⟨hP σ1 f1p, ?_⟩
  rw [hnf σ1 f1p]
  have w1 := PW_b hB h g1 f1
  refine u_276 hB hrel hN hx hkd w1.2.1 w1.2.2.1 hd (fun σ2 g2 k2 f2 => ?_)
  rw [my_kI_v]
  have w2 := PW_n hB w1 g2 k2 f2
  refine u_269b w2.1 (by rw [List.length_append, bts_l]; omega) hd (fun σ3 g3 f3 => ?_)
  rw [my_k0_v]
  have w3 := PW_b hB w2 g3 f3
  refine hQ σ3 ?_ (eqp_tr f1p (eqp_tr (eqp_mo f2 (fun _ _ => Or.inr)) (eqp_mo f3 (fun _ _ => Or.inl))))
  unfold nmd nmN
  rw [hx]
  dsimp only
  rw [← List.append_assoc]
  exact w3
/-- one step -/
theorem u_275 {j : Nat} {x : Rw} (hB : itsB As) (hrel : iRel As I) (hR : R.length ≤ 3200) (hj : R[j]? = some x) (hV : rwV x) (hk : 200 ≤ x.1 → x.1 ≤ 205 → knd I x.2.2.1) (hJ : x.1 = 14 ∨ x.1 = 15 → ∃ T, x.2.1 = Int32.ofNat T ∧ T < 3201 ∧ σ.1 536 T = J T) (h : PW I As R E N σ) (hl : E.length + 5 ≤ 20000) (hd : 4 ≤ d)
    (hQ : ∀ σ', PW I As R (E ++ eb1 I J x N) (nd1 I x N) σ' → eqp pwF σ σ' → Q (.inl none) κ σ') : my_M e d 275 [.inr (.inr (some 498)), .inl (Int32.ofNat j)] κ σ Q := by
  obtain ⟨d, rfl⟩ := dS 1 (show 1 ≤ d by omega)
  obtain ⟨hj32, bd⟩ := rws_at h.2.2.2.2 hj hR
  have hrk : ∀ σ', eqp pwF σ σ' → rwk x j σ' := fun σ' f => ((TM_p hB h.2.2.2 f (fun c k hh => by unfold pwF byF ndFr at hh; omega)).2.2 j x hj)
  obtain ⟨k1, k2, k3, k4⟩ := hrk σ eqp_rf
  have hop := rwV_op hV
  have ho : x.1 < 250 := by omega
  have n : ∀ m : Nat, m < 1000 → (Int32.ofNat x.1 = Int32.ofNat m ↔ x.1 = m) := fun m hm => oN_e (by omega) (by omega)
  -- one byte
  have one : ∀ v : Int32, eb1 I J x N = bts v 1 0 → nd1 I x N = N → my_M e d 269 [.inr (.inr (some 498)), .inl v] κ σ (my_k0 (fun κ2 σ3 => ys_275_307 e d κ2 σ3 Q) (fun y4 κ5 σ6 => Q (.inr y4) κ5 σ6)) := fun v h1 h2 => by
    refine u_269b h.1 (by omega) (by omega) (fun σ1 g1 f1 => ?_)
    rw [my_k0_v]
    unfold ys_275_307
    rw [h1, h2] at hQ
    exact hQ σ1 (PW_b hB h g1 f1) (eqp_mo f1 (fun _ _ => Or.inl))
  have two : ∀ v : Int32, x.1 ≠ 2 → x.1 ≠ 3 → eb1 I J x N = bts v 1 0 ++ bts x.2.1 1 0 → nd1 I x N = N → my_M e d 269 [.inr (.inr (some 498)), .inl v] κ σ (my_k0 (fun κ2 σ3 => (my_bd (Int32.ofNat j) 3200) ∧ my_M e d 269 [.inr (.inr (some 498)), .inl (σ3.1 513 (Int32.ofNat j : Int32).toNatClampNeg)] κ2 σ3 (my_k0 (fun κ5 σ6 => ys_275_307 e d κ5 σ6 Q) (fun y7 κ8 σ9 => Q (.inr y7) κ8 σ9))) (fun y10 κ11 σ12 => Q (.inr y10) κ11 σ12)) := fun v h2 h3 h1 hn => by
    refine u_269b h.1 (by omega) (by omega) (fun σ1 g1 f1 => ?_)
    rw [my_k0_v]
    refine ⟨bd, ?_⟩
    have q2 := (hrk σ1 (eqp_mo f1 (fun _ _ => Or.inl))).2.1
    have q3 : σ1.1 513 j = x.2.1 := by
      rcases q2 with q | q | q
      · exact absurd q h2
      · exact absurd q h3
      · exact q
    rw [oN_n (by omega), q3]
    refine u_269b g1 (by rw [List.length_append, bts_l]; omega) (by omega) (fun σ2 g2 f2 => ?_)
    rw [my_k0_v]
    unfold ys_275_307
    rw [h1, hn, ← List.append_assoc] at hQ
    exact hQ σ2 (PW_b hB (PW_b hB h g1 f1) g2 f2) (eqp_mo (eqp_tr f1 f2) (fun _ _ => Or.inl))
  have nmx : ∀ t0 : Int32, t0 = ncd x.1 → 200 ≤ x.1 → x.1 ≤ 205 → my_M e d 269 [.inr (.inr (some 498)), .inl t0] κ σ (my_k0 (fun κ2 σ3 => (my_bd (Int32.ofNat j) 3200) ∧ my_M e d 276 [.inr (.inr (some 498)), .inr (.inl (σ3.2.1 514 (Int32.ofNat j : Int32).toNatClampNeg))] κ2 σ3 (my_kI (fun x4 κ5 σ6 => my_M e d 269 [.inr (.inr (some 498)), .inl x4] κ5 σ6 (my_k0 (fun κ8 σ9 => ys_275_307 e d κ8 σ9 Q) (fun y10 κ11 σ12 => Q (.inr y10) κ11 σ12))) (fun y13 κ14 σ15 => Q (.inr y13) κ14 σ15))) (fun y16 κ17 σ18 => Q (.inr y16) κ17 σ18)) := fun t0 ht0 h1 h2 => by
    have hE : eb1 I J x N = nmd t0 I x.2.2.1 N := by unfold eb1; rw [if_neg (by omega), if_neg (by omega), if_neg (by omega), if_pos ⟨h1, h2⟩, ht0]
    have hD : nd1 I x N = nmN I x.2.2.1 N := by unfold nd1; rw [if_pos ⟨h1, h2⟩]
    rw [hE, hD] at hQ
    refine u_nm (K := Q) hB hrel (hV.1 h1 h2) (hk h1 h2) h (by omega) (by omega) (fun σ1 w1 f1 => hQ σ1 w1 f1) (fun _ => my_bd (Int32.ofNat j) 3200) (fun _ _ => bd) (fun σ3 => σ3.2.1 514 (Int32.ofNat j : Int32).toNatClampNeg) (fun σ' f => ?_)
    rw [oN_n (by omega)]
    exact (hrk σ' f).2.2.1
  have nil : x.1 = 206 ∨ x.1 = 208 → ys_275_140 e d κ σ Q := fun h1 => by
    unfold ys_275_140 ys_275_307
    have hE : eb1 I J x N = [] := by unfold eb1; rw [if_neg (by omega), if_neg (by omega), if_neg (by omega), if_neg (by omega), if_pos h1]
    have hD : nd1 I x N = N := by unfold nd1; rw [if_neg (by omega)]
    rw [hE, hD, List.append_nil] at hQ
    exact hQ σ h eqp_rf
  have jmpx : x.1 = 14 ∨ x.1 = 15 → ys_275_197 e d (Int32.ofNat j) (Int32.ofNat x.1) κ σ Q := fun h1 => by
    unfold ys_275_197
    obtain ⟨T, hT1, hT2, hT3⟩ := hJ h1
    have hE : eb1 I J x N = bts (Int32.ofNat x.1) 1 0 ++ bts (J T) 2 0 := by unfold eb1; rw [if_neg (by omega), if_neg (by omega), if_neg (by omega), if_neg (by omega), if_neg (by omega), if_pos h1, hT1, oN_n (by omega)]
    have hD : nd1 I x N = N := by unfold nd1; rw [if_neg (by omega)]
    rw [hE, hD, ← List.append_assoc] at hQ
    refine u_269b h.1 (by omega) (by omega) (fun σ1 g1 f1 => ?_)
    rw [my_k0_v]
    have q2 := (hrk σ1 (eqp_mo f1 (fun _ _ => Or.inl))).2.1
    have q3 : σ1.1 513 j = Int32.ofNat T := by
      rcases q2 with q | q | q
      · omega
      · omega
      · rw [q]; exact hT1
    rw [oN_n (by omega), q3, oN_n (by omega), eqp_g f1 (show ¬ byF 536 T by unfold byF; omega), hT3]
    refine ⟨bd, ⟨by rw [oN_i (by omega)]; omega, by rw [oN_i (by omega)]; omega⟩, ?_⟩
    refine u_271 g1 (by rw [List.length_append, bts_l]; omega) (by omega) (fun σ2 g2 f2 => ?_)
    rw [my_k0_v]
    unfold ys_275_307
    exact hQ σ2 (PW_b hB (PW_b hB h g1 f1) g2 f2) (eqp_mo (eqp_tr f1 f2) (fun _ _ => Or.inl))
  refine ys_275 ?_
  unfold ys_275_0
  rw [oN_n (by omega), k1]
  refine ⟨bd, ?_⟩
  refine my_if (fun c1 => ?_) (fun c1 => my_if (fun c4 => ?_) (fun c4 => my_if (fun c5 => ?_) (fun c5 => my_if (fun c14 => ?_) (fun c14 => my_if (fun c15 => ?_) (fun c15 => my_if (fun c17 => ?_) (fun c17 => my_if (fun c200 => ?_) (fun c200 => my_if (fun c201 => ?_) (fun c201 => my_if (fun c202 => ?_) (fun c202 => my_if (fun c203 => ?_) (fun c203 => my_if (fun c204 => ?_) (fun c204 => my_if (fun c205 => ?_) (fun c205 => my_if (fun c206 => ?_) (fun c206 => my_if (fun c207 => ?_) (fun c207 => my_if (fun c208 => ?_) (fun c208 => ?_)))))))))))))))
  · have h1 := (n 1 (by omega)).mp c1
    have hE : eb1 I J x N = bts 1 1 0 ++ bts x.2.1 4 0 := by unfold eb1; rw [if_pos h1]
    have hD : nd1 I x N = N := by unfold nd1; rw [if_neg (by omega)]
    rw [hE, hD, ← List.append_assoc] at hQ
    refine u_269b h.1 (by omega) (by omega) (fun σ1 g1 f1 => ?_)
    rw [my_k0_v]
    refine ⟨bd, ?_⟩
    have q2 := (hrk σ1 (eqp_mo f1 (fun _ _ => Or.inl))).2.1
    have q3 : σ1.1 513 j = x.2.1 := by
      rcases q2 with q | q | q
      · omega
      · omega
      · exact q
    rw [q3]
    refine u_270 g1 (by rw [List.length_append, bts_l]; omega) (by omega) (fun σ2 g2 f2 => ?_)
    rw [my_k0_v]
    unfold ys_275_307
    exact hQ σ2 (PW_b hB (PW_b hB h g1 f1) g2 f2) (eqp_mo (eqp_tr f1 f2) (fun _ _ => Or.inl))
  · have h1 := (n 4 (by omega)).mp c4
    unfold ys_275_161
    exact two (Int32.ofNat x.1) (by omega) (by omega) (by unfold eb1; rw [if_neg (by omega), if_pos (by omega)]) (by unfold nd1; rw [if_neg (by omega)])
  · have h1 := (n 5 (by omega)).mp c5
    unfold ys_275_161
    exact two (Int32.ofNat x.1) (by omega) (by omega) (by unfold eb1; rw [if_neg (by omega), if_pos (by omega)]) (by unfold nd1; rw [if_neg (by omega)])
  · have h1 := (n 14 (by omega)).mp c14
    exact jmpx (by omega)
  · have h1 := (n 15 (by omega)).mp c15
    exact jmpx (by omega)
  · have h1 := (n 17 (by omega)).mp c17
    unfold ys_275_161
    exact two (Int32.ofNat x.1) (by omega) (by omega) (by unfold eb1; rw [if_neg (by omega), if_pos (by omega)]) (by unfold nd1; rw [if_neg (by omega)])
  · have h1 := (n 200 (by omega)).mp c200
    unfold ys_275_220
    rw [h1]
    repeat rw [if_neg (by decide)]
    try rw [if_pos (by decide)]
    unfold ys_275_259
    exact nmx _ (by rw [h1]; rfl) (by omega) (by omega)
  · have h1 := (n 201 (by omega)).mp c201
    unfold ys_275_220
    rw [h1]
    repeat rw [if_neg (by decide)]
    try rw [if_pos (by decide)]
    unfold ys_275_259
    exact nmx _ (by rw [h1]; rfl) (by omega) (by omega)
  · have h1 := (n 202 (by omega)).mp c202
    unfold ys_275_220
    rw [h1]
    repeat rw [if_neg (by decide)]
    try rw [if_pos (by decide)]
    unfold ys_275_259
    exact nmx _ (by rw [h1]; rfl) (by omega) (by omega)
  · have h1 := (n 203 (by omega)).mp c203
    unfold ys_275_220
    rw [h1]
    repeat rw [if_neg (by decide)]
    try rw [if_pos (by decide)]
    unfold ys_275_259
    exact nmx _ (by rw [h1]; rfl) (by omega) (by omega)
  · have h1 := (n 204 (by omega)).mp c204
    unfold ys_275_279
    exact nmx _ (by rw [h1]; rfl) (by omega) (by omega)
  · have h1 := (n 205 (by omega)).mp c205
    unfold ys_275_279
    exact nmx _ (by rw [h1]; rfl) (by omega) (by omega)
  · have h1 := (n 206 (by omega)).mp c206
    exact nil (by omega)
  · have h1 := (n 207 (by omega)).mp c207
    have := two 5 (by omega) (by omega) (by unfold eb1; rw [if_neg (by omega), if_neg (by omega), if_pos h1]) (by unfold nd1; rw [if_neg (by omega)])
    rw [oN_n (by omega)] at this
    exact this
  · have h1 := (n 208 (by omega)).mp c208
    exact nil (by omega)
  · have m1 : ¬ x.1 = 1 := fun hh => c1 ((n 1 (by omega)).mpr hh)
    have m4 : ¬ x.1 = 4 := fun hh => c4 ((n 4 (by omega)).mpr hh)
    have m5 : ¬ x.1 = 5 := fun hh => c5 ((n 5 (by omega)).mpr hh)
    have m14 : ¬ x.1 = 14 := fun hh => c14 ((n 14 (by omega)).mpr hh)
    have m15 : ¬ x.1 = 15 := fun hh => c15 ((n 15 (by omega)).mpr hh)
    have m17 : ¬ x.1 = 17 := fun hh => c17 ((n 17 (by omega)).mpr hh)
    have m200 : ¬ x.1 = 200 := fun hh => c200 ((n 200 (by omega)).mpr hh)
    have m201 : ¬ x.1 = 201 := fun hh => c201 ((n 201 (by omega)).mpr hh)
    have m202 : ¬ x.1 = 202 := fun hh => c202 ((n 202 (by omega)).mpr hh)
    have m203 : ¬ x.1 = 203 := fun hh => c203 ((n 203 (by omega)).mpr hh)
    have m204 : ¬ x.1 = 204 := fun hh => c204 ((n 204 (by omega)).mpr hh)
    have m205 : ¬ x.1 = 205 := fun hh => c205 ((n 205 (by omega)).mpr hh)
    have m206 : ¬ x.1 = 206 := fun hh => c206 ((n 206 (by omega)).mpr hh)
    have m207 : ¬ x.1 = 207 := fun hh => c207 ((n 207 (by omega)).mpr hh)
    have m208 : ¬ x.1 = 208 := fun hh => c208 ((n 208 (by omega)).mpr hh)
    exact one (Int32.ofNat x.1) (by unfold eb1; rw [if_neg (by omega), if_neg (by omega), if_neg (by omega), if_neg (by omega), if_neg (by omega), if_neg (by omega)]) (by unfold nd1; rw [if_neg (by omega)])
end MRW
