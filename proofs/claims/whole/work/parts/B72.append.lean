
/-! ===== the reference: append ===== -/
def lgB (B : List Int32) (σ : my_S) : Prop := σ.1 498 86 = Int32.ofNat B.length ∧ ∀ i x, B[i]? = some x → σ.1 547 i = x &&& 255
theorem lgB_R {E : List Et} {T : List Int32} {σ : my_S} : lgB (en E 0 ++ T) σ ↔ LgR E T σ := by
  unfold lgB LgR
  rw [List.length_append, en_l]
theorem lgB_o {B : List Int32} {F : Nat → Nat → Prop} {σ σ' : my_S} (h : lgB B σ) (f : eqp F σ σ') (hF : ∀ c k, F c k → c ≠ 547 ∧ (c = 498 → k ≠ 86)) : lgB B σ' := ⟨(eqp_g f (fun hh => (hF _ _ hh).2 rfl rfl)).trans h.1, fun i x hx => (eqp_g f (fun hh => (hF _ _ hh).1 rfl)).trans (h.2 i x hx)⟩
def apF (c k : Nat) : Prop := drF c k ∨ c = 547 ∨ (c = 498 ∧ k = 86)
section MAP
variable {e : my_E} {d : Nat} {κ : my_K} {σ σ' : my_S} {Q : my_O → my_K → my_S → Prop} {D : Nat → Int32} {n h ep : Nat} {w : Int32} {B : List Int32}
theorem f_331x (hB : B.length ≤ 7747) (hd : 1 ≤ d) (hb : lgB B σ) (h1 : σ.1 498 89 = 1) (hQ : Q (.inl none) κ σ) : ∀ (m c : Nat), (B.length + 60) / 61 = c + m → ys_331_58 e d (Int32.ofNat (c + 1)) κ σ Q := by
  intro m
  induction m with
  | zero =>
    intro c hc
    unfold ys_331_58
    rw [hb.1, oN_m, show (61 : Int32) * Int32.ofNat c = Int32.ofNat (61 * c) by rw [show (61 : Int32) = Int32.ofNat 61 from rfl, ← Int32.ofNat_mul], if_neg (fun hh => by have := (oN_lt (by omega) (by omega)).mp hh; omega)]
    exact hQ
  | succ m ih =>
    intro c hc
    unfold ys_331_58
    rw [hb.1, oN_m, show (61 : Int32) * Int32.ofNat c = Int32.ofNat (61 * c) by rw [show (61 : Int32) = Int32.ofNat 61 from rfl, ← Int32.ofNat_mul], if_pos ((oN_lt (by omega) (by omega)).mpr (by omega))]
    refine f_325x_547 h1 hd ?_
    rw [my_k0_v, oN_s]
    exact ys_331_58_ok (ih (c + 1) (by omega))
theorem f_331l (hh1 : h ≤ 1) (hB : B.length ≤ 7747) (hep : ep < 65536) (hd : 2 ≤ d) (hb : lgB B σ) (h83 : σ.1 498 83 = Int32.ofNat h) (h84 : σ.1 498 84 = Int32.ofNat ep) : ∀ (m c : Nat) (D : Nat → Int32) (n : Nat) (w : Int32) (σ' : my_S), n < 2147483648 → (B.length + 60) / 61 = c + m → WSr D n w σ' → σ'.1 498 89 = 0 → eqp drF σ σ' → (m ≤ n → ∀ σ', WSr (wD h ep B m c D) (n - m) (w + Int32.ofNat m) σ' → σ'.1 498 89 = 0 → eqp drF σ σ' → Q (.inl none) κ σ') → (n < m → ∀ σ', WSr (wD h ep B n c D) 0 (w + Int32.ofNat n) σ' → σ'.1 498 89 = 1 → eqp drF σ σ' → Q (.inl none) κ σ') → ys_331_58 e d (Int32.ofNat (c + 1)) κ σ' Q := by
  intro m
  induction m with
  | zero =>
    intro c D n w σ' hn hc hs h0 f hQ1 hQ0
    have hb' := lgB_o hb f (fun c k hh => by unfold drF at hh; omega)
    unfold ys_331_58
    rw [hb'.1, oN_m, show (61 : Int32) * Int32.ofNat c = Int32.ofNat (61 * c) by rw [show (61 : Int32) = Int32.ofNat 61 from rfl, ← Int32.ofNat_mul], if_neg (fun hh => by have := (oN_lt (by omega) (by omega)).mp hh; omega)]
    refine hQ1 (by omega) σ' ?_ h0 f
    rw [show w + Int32.ofNat 0 = w from Int32.add_zero w]
    exact hs
  | succ m ih =>
    intro c D n w σ' hn hc hs h0 f hQ1 hQ0
    have hb' := lgB_o hb f (fun c k hh => by unfold drF at hh; omega)
    unfold ys_331_58
    rw [hb'.1, oN_m, show (61 : Int32) * Int32.ofNat c = Int32.ofNat (61 * c) by rw [show (61 : Int32) = Int32.ofNat 61 from rfl, ← Int32.ofNat_mul], if_pos ((oN_lt (by omega) (by omega)).mpr (by omega)), eqp_g f (show ¬ drF 498 83 by unfold drF; omega), eqp_g f (show ¬ drF 498 84 by unfold drF; omega), h83, h84]
    refine f_325_547 hh1 hB (by omega) hep hn hb'.2 hs h0 hd (fun n' hn' σ1 s1 x1 f1 => ?_) (fun hn0 σ1 s1 x1 f1 => ?_)
    · rw [my_k0_v, oN_s]
      subst hn'
      refine ys_331_58_ok (ih (c + 1) (w1B h ep B c D) n' (w + 1) σ1 (by omega) (by omega) s1 x1 (eqp_tr f f1) (fun hm σ3 s3 x3 f3 => hQ1 (by omega) σ3 ?_ x3 f3) (fun hm σ3 s3 x3 f3 => hQ0 (by omega) σ3 ?_ x3 f3))
      · rw [show n' + 1 - (m + 1) = n' - m by omega, ← oN_s, Int32.add_comm (Int32.ofNat m) 1, ← Int32.add_assoc]
        exact s3
      · rw [← oN_s n', Int32.add_comm (Int32.ofNat n') 1, ← Int32.add_assoc]
        exact s3
    · rw [my_k0_v, oN_s]
      subst hn0
      refine ys_331_58_ok (f_331x hB (by omega) (lgB_o hb' f1 (fun c k hh => by unfold drF at hh; omega)) x1 (hQ0 (by omega) σ1 ?_ x1 (eqp_tr f f1)) m (c + 1) (by omega))
      rw [show w + Int32.ofNat 0 = w from Int32.add_zero w]
      exact s1
theorem f_331 {G : List Int32} (hh1 : h ≤ 1) (hL : lgB B σ) (hG : FRy G σ) (hBG : B.length + G.length ≤ 7747) (hep : ep < 65536) (hn : n < 2147483648) (hd : 3 ≤ d) (h83 : σ.1 498 83 = Int32.ofNat h) (h84 : σ.1 498 84 = Int32.ofNat ep) (hs : WSr D n w σ) (h0 : σ.1 498 89 = 0) (hQ1 : nbk (B ++ G) - B.length / 61 ≤ n → ∀ σ', lgB (B ++ G) σ' → WSr (wD h ep (B ++ G) (nbk (B ++ G) - B.length / 61) (B.length / 61) D) (n - (nbk (B ++ G) - B.length / 61)) (w + Int32.ofNat (nbk (B ++ G) - B.length / 61)) σ' → σ'.1 498 89 = 0 → eqp apF σ σ' → Q (.inl none) κ σ') (hQ0 : n < nbk (B ++ G) - B.length / 61 → ∀ σ', lgB (B ++ G) σ' → WSr (wD h ep (B ++ G) n (B.length / 61) D) 0 (w + Int32.ofNat n) σ' → σ'.1 498 89 = 1 → eqp apF σ σ' → Q (.inl none) κ σ') : my_M e d 331 [.inr (.inr (some 498))] κ σ Q := by
  obtain ⟨d, rfl⟩ := dS 1 (show 1 ≤ d by omega)
  have hl : (B ++ G).length = B.length + G.length := List.length_append
  have hm : ((B ++ G).length + 60) / 61 = B.length / 61 + (nbk (B ++ G) - B.length / 61) := by unfold nbk; rw [hl]; omega
  have lp : ∀ (m j : Nat) (σ' : my_S), j + m = G.length → (∀ i x, (B ++ G.take j)[i]? = some x → σ'.1 547 i = x &&& 255) → eqp (fun c _ => c = 547) σ σ' → ys_331_7 e d (Int32.ofNat B.length) (Int32.ofNat j) κ σ' Q := by
    intro m
    induction m with
    | zero =>
      intro j σ' hj hb f
      have : j = G.length := by omega
      subst this
      rw [List.take_length] at hb
      unfold ys_331_7
      rw [eqp_g f (show ¬ 498 = 547 by omega), eqp_g f (show ¬ 498 = 547 by omega), hG.1, hL.1, if_neg (fun hh => by have := (oN_lt (by omega) (by omega)).mp hh; omega), show (61 : Int32) = Int32.ofNat 61 from rfl, di3 (by omega) (by omega), oN_a, oN_s]
      have f2 : eqp (fun c k => c = 498 ∧ k = 86) σ' (my_uI σ' 498 86 (Int32.ofNat (B.length + G.length))) := eqp_I eqp_rf ⟨rfl, rfl⟩
      have hb2 : lgB (B ++ G) (my_uI σ' 498 86 (Int32.ofNat (B.length + G.length))) := ⟨by rw [hl]; exact uI_s, fun i x hx => (eqp_g f2 (by omega)).trans (hb i x hx)⟩
      generalize my_uI σ' 498 86 (Int32.ofNat (B.length + G.length)) = σ1 at f2 hb2 ⊢
      have f12 : eqp (fun c k => c = 547 ∨ (c = 498 ∧ k = 86)) σ σ1 := eqp_tr (eqp_mo f (fun c k hh => Or.inl hh)) (eqp_mo f2 (fun c k hh => Or.inr hh))
      have g1 : eqp apF σ σ1 := eqp_mo f12 (fun c k hh => Or.inr hh)
      refine ys_331_58_ok (f_331l (σ := σ1) hh1 (by rw [hl]; exact hBG) hep (by omega) hb2 ((eqp_g f12 (by omega)).trans h83) ((eqp_g f12 (by omega)).trans h84) _ _ D n w σ1 hn hm (WSr_o hs f12 (fun c k hh => by omega)) ((eqp_g f12 (by omega)).trans h0) eqp_rf (fun hm σ3 s3 x3 f3 => hQ1 hm σ3 ?_ s3 x3 ?_) (fun hm σ3 s3 x3 f3 => hQ0 hm σ3 ?_ s3 x3 ?_))
      · exact lgB_o hb2 f3 (fun c k hh => by unfold drF at hh; omega)
      · exact eqp_tr g1 (eqp_mo f3 (fun c k hh => Or.inl hh))
      · exact lgB_o hb2 f3 (fun c k hh => by unfold drF at hh; omega)
      · exact eqp_tr g1 (eqp_mo f3 (fun c k hh => Or.inl hh))
    | succ m ih =>
      intro j σ' hj hb f
      have hjl : j < G.length := by omega
      have hx := List.getElem?_eq_getElem hjl
      unfold ys_331_7
      rw [eqp_g f (show ¬ 498 = 547 by omega), eqp_g f (show ¬ 498 = 547 by omega), hG.1, hL.1, if_pos ((oN_lt (by omega) (by omega)).mpr hjl), oN_a, oN_s, oN_n (by omega), oN_n (by omega), eqp_g f (show ¬ 551 = 547 by omega), hG.2 j _ hx]
      refine ⟨bdk (by omega) (by omega), bdk (by omega) (by omega), ys_331_7_ok (ih (j + 1) _ (by omega) (fun i x hi => ?_) (eqp_I f rfl))⟩
      rw [tk_s hjl, ← List.append_assoc] at hi
      rw [my_uI_1]
      have htl : (B ++ G.take j).length = B.length + j := by rw [List.length_append, List.length_take]; omega
      rcases gA hi with ⟨q1, q2⟩ | ⟨q1, q2⟩
      · rw [if_neg (by omega)]
        exact hb i x q2
      · rw [if_pos ⟨rfl, by omega⟩, q2]
  refine ys_331 ?_
  unfold ys_331_0
  rw [hL.1]
  exact ys_331_7_ok (lp G.length 0 σ (by omega) (by rw [List.take_zero, List.append_nil]; exact hL.2) eqp_rf)
end MAP
