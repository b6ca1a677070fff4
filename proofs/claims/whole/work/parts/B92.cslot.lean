
/-! ===== the class: a slot takes its run, and gets its worker ===== -/
def est (E : List Et) (nm : List Nat) : Nat := match lrc (rcp E) nm (rcp E).length with
  | none => 3000
  | some y => g2 (eC y.2) 4
theorem est_b {E : List Et} {nm : List Nat} : est E nm < 65536 := by
  unfold est
  cases lrc (rcp E) nm (rcp E).length with
  | none => decide
  | some y => exact g2_lt _ _
def FRc (fr : Nat → Int32) (σ : my_S) : Prop := ∀ w, w < 64 → σ.1 64 w = fr w
/-- a slot with its run and when it is done -/
def SlF (rv : Nat) (Z : Nat → Ms) (a : Nat) (p : Sp) (σ : my_S) : Prop := SlC rv a p.1 (Z p.1) σ ∧ σ.1 a 2 = Int32.ofNat p.2.1 ∧ σ.1 a 3 = p.2.2.1 ∧ σ.1 a 4 = p.2.2.2
section MCS
variable {As : List Ri} {I : List It} {rv a A kt W : Nat} {e : my_E} {d : Nat} {κ : my_K} {σ σ' : my_S} {Q : my_O → my_K → my_S → Prop} {P : Nat → Nat} {L : List Tp} {x : Tp} {E : List Et} {s : Ms} {fr : Nat → Int32} {Z : Nat → Ms}
theorem FRc_o {F : Nat → Nat → Prop} (h : FRc fr σ) (f : eqp F σ σ') (hF : ∀ c k, F c k → c ≠ 64) : FRc fr σ' := fun w hw => (eqp_g f (fun hh => hF _ _ hh rfl)).trans (h w hw)
theorem SlF_o {F : Nat → Nat → Prop} {p : Sp} (h : SlF rv Z a p σ) (f : eqp F σ σ') (hF : ∀ c k, F c k → (c = a → k = 5 ∨ k = 6) ∧ c ≠ a + 1) : SlF rv Z a p σ' := by
  obtain ⟨⟨h0, h1, h2, h3, h4, h5, h6⟩, g2, g3, g4⟩ := h
  have o : ∀ {k : Nat}, k ≠ 5 → k ≠ 6 → σ'.1 a k = σ.1 a k ∧ σ'.2.2 a k = σ.2.2 a k := fun h5 h6 => ⟨eqp_g f (fun hh => by have := (hF _ _ hh).1 rfl; omega), (f _ _ (fun hh => by have := (hF _ _ hh).1 rfl; omega)).2.2⟩
  refine ⟨⟨h0, (o (by omega) (by omega)).2.trans h1, (o (by omega) (by omega)).1.trans h2, (o (by omega) (by omega)).1.trans h3, (o (by omega) (by omega)).2.trans h4, (o (by omega) (by omega)).1.trans h5, fun kd n hk hn => ?_⟩, (o (by omega) (by omega)).1.trans g2, (o (by omega) (by omega)).1.trans g3, (o (by omega) (by omega)).1.trans g4⟩
  rw [eqp_g f (fun hh => (hF _ _ hh).2 rfl)]
  exact h6 kd n hk hn
theorem c_146 {i cnt : Nat} (hr : SLr P σ) (hc : σ.1 62 2 = Int32.ofNat cnt) (hc12 : cnt ≤ 12) (hi : i < cnt) (hd : 1 ≤ d) (hQ : Q (.inl (some (.inr (.inr (some (P i)))))) κ σ) : my_M e d 146 [.inr (.inr (some 62)), .inl (Int32.ofNat i)] κ σ Q := by
  obtain ⟨d, rfl⟩ := dS 1 hd
  refine ys_146 ?_
  unfold ys_146_0 ys_146_31
  rw [if_neg (oN_0 (by omega)), hc, if_pos ((oN_lt (by omega) (by omega)).mpr hi), if_pos ((oN_lt1 (b := 12) (c := 12) rfl (by omega) (by omega)).mpr (by omega)), oN_n (by omega), hr i (by omega)]
  exact ⟨bdk (by omega) (by omega), hQ⟩
theorem c_158 {k : Nat} {b : Ri} (ld : LD As I rv σ) (hS : LVs A E σ) (hb : As[k]? = some b) (hd : 7 ≤ d) (hQ : ∀ σ', eqp oF σ σ' → Q (.inl (some (.inl (Int32.ofNat (est E (riN b)))))) κ σ') : my_M e d 158 [.inr (.inr (some 89)), .inr (.inr (some (rv + 4 + 3 * k)))] κ σ Q := by
  obtain ⟨d, rfl⟩ := dS 1 (show 1 ≤ d by omega)
  obtain ⟨z2, hk42⟩ := cl_nm ld hb
  have hl := (ld.1.2 b (List.mem_of_getElem? hb)).2.1
  refine ys_158 ?_
  unfold ys_158_0
  refine ⟨_, rfl, in11 ld.2.2.1 hk42, ?_⟩
  rw [z2]
  refine c_157 hS hl (by omega) (fun hx => ?_) (fun y hy σ1 oc f1 => ?_)
  · rw [my_kI_v, if_pos rfl]
    unfold ys_158_24
    have : est E (riN b) = 3000 := by unfold est; rw [hx]
    rw [this] at hQ
    exact hQ σ eqp_rf
  · rw [my_kI_v, if_neg (by decide)]
    unfold ys_158_24
    have : est E (riN b) = g2 (eC y.2) 4 := by unfold est; rw [hy]
    rw [this] at hQ
    rw [oc.1.2.2.2.1]
    exact hQ σ1 f1
theorem c_151 (ha : 65 ≤ a ∧ a ≤ 87) (hin : my_in 6 a) (h0 : σ.2.2 a 0 = some (rv + 4 + 3 * kt)) (h : CMs 44 rv s σ) (hd : 2 ≤ d) (hQ : ∀ σ', SlC rv a kt s σ' → eqp (fun c k => (c = a ∧ 7 ≤ k ∧ k ≤ 10) ∨ c = a + 1) σ σ' → Q (.inl none) κ σ') : my_M e d 151 [.inr (.inr (some a)), .inr (.inr (some 44))] κ σ Q := by
  obtain ⟨d, rfl⟩ := dS 1 (show 1 ≤ d by omega)
  have hi4 : my_in 4 44 := in4 (Or.inl rfl)
  obtain ⟨_, _, _, _, _, _, k7, k81, k82, k83, k84⟩ := h
  refine ys_151 hin ?_
  unfold ys_151_0
  refine ⟨44, rfl, hi4, 44, rfl, hi4, 44, rfl, hi4, 44, rfl, hi4, ?_⟩
  have e1 : (my_uI σ a 7 (σ.1 44 12)).1 44 11 = Int32.ofNat (zF s) := by rw [my_uI_1, if_neg (by omega)]; exact k81
  rw [e1]
  have e2 : (my_uA (my_uI (my_uI σ a 7 (σ.1 44 12)) a 8 (Int32.ofNat (zF s))) a 9 (σ.2.2 44 14)).1 44 15 = ckI (zk s) := by
    show (my_uI (my_uI σ a 7 (σ.1 44 12)) a 8 (Int32.ofNat (zF s))).1 44 15 = _
    rw [my_uI_1, if_neg (by omega), my_uI_1, if_neg (by omega)]
    exact k84
  rw [e2, k82, k83]
  have f0 : eqp (fun c k => c = a ∧ 7 ≤ k ∧ k ≤ 10) σ (my_uI (my_uA (my_uI (my_uI σ a 7 (enI (zE s))) a 8 (Int32.ofNat (zF s))) a 9 ((zk s).map (fun c => rv + 4 + 3 * c.1))) a 10 (ckI (zk s))) := eqp_I (eqp_A (eqp_I (eqp_I eqp_rf ⟨rfl, by omega, by omega⟩) ⟨rfl, by omega, by omega⟩) ⟨rfl, by omega, by omega⟩) ⟨rfl, by omega, by omega⟩
  have g7 : (my_uI (my_uA (my_uI (my_uI σ a 7 (enI (zE s))) a 8 (Int32.ofNat (zF s))) a 9 ((zk s).map (fun c => rv + 4 + 3 * c.1))) a 10 (ckI (zk s))).1 a 7 = enI (zE s) := by
    rw [my_uI_1, if_neg (by omega)]
    show (my_uI (my_uI σ a 7 (enI (zE s))) a 8 (Int32.ofNat (zF s))).1 a 7 = _
    rw [my_uI_1, if_neg (by omega)]
    exact uI_s
  have g8 : (my_uI (my_uA (my_uI (my_uI σ a 7 (enI (zE s))) a 8 (Int32.ofNat (zF s))) a 9 ((zk s).map (fun c => rv + 4 + 3 * c.1))) a 10 (ckI (zk s))).1 a 8 = Int32.ofNat (zF s) := by
    rw [my_uI_1, if_neg (by omega)]
    show (my_uI (my_uI σ a 7 (enI (zE s))) a 8 (Int32.ofNat (zF s))).1 a 8 = _
    exact uI_s
  have g9 : (my_uI (my_uA (my_uI (my_uI σ a 7 (enI (zE s))) a 8 (Int32.ofNat (zF s))) a 9 ((zk s).map (fun c => rv + 4 + 3 * c.1))) a 10 (ckI (zk s))).2.2 a 9 = (zk s).map (fun c => rv + 4 + 3 * c.1) := by
    show (my_uA (my_uI (my_uI σ a 7 (enI (zE s))) a 8 (Int32.ofNat (zF s))) a 9 ((zk s).map (fun c => rv + 4 + 3 * c.1))).2.2 a 9 = _
    unfold my_uA
    simp
  have g10 : (my_uI (my_uA (my_uI (my_uI σ a 7 (enI (zE s))) a 8 (Int32.ofNat (zF s))) a 9 ((zk s).map (fun c => rv + 4 + 3 * c.1))) a 10 (ckI (zk s))).1 a 10 = ckI (zk s) := uI_s
  generalize my_uI (my_uA (my_uI (my_uI σ a 7 (enI (zE s))) a 8 (Int32.ofNat (zF s))) a 9 ((zk s).map (fun c => rv + 4 + 3 * c.1))) a 10 (ckI (zk s)) = σ0 at f0 g7 g8 g9 g10 ⊢
  have lp : ∀ (m i : Nat) (σ' : my_S), i + m = 3 → (∀ kd, kd < i → σ'.1 (a + 1) kd = σ.1 (44 + 8) kd) → eqp (fun c _ => c = a + 1) σ0 σ' → ys_151_34 e d a (some 44) (Int32.ofNat i) κ σ' Q := by
    intro m
    induction m with
    | zero =>
      intro i σ' hi hb f
      have : i = 3 := by omega
      subst this
      unfold ys_151_34
      rw [if_neg (show ¬ Int32.ofNat 3 < 3 by decide)]
      refine hQ σ' ⟨hin, ?_, (eqp_g f (by omega)).trans g7, (eqp_g f (by omega)).trans g8, ((f _ _ (by omega)).2.2).trans g9, (eqp_g f (by omega)).trans g10, fun kd n hk hn => ?_⟩ (eqp_tr (eqp_mo f0 (fun c k hh => Or.inl hh)) (eqp_mo f (fun c k hh => Or.inr hh)))
      · rw [(f _ _ (by omega)).2.2, (f0 _ _ (by omega)).2.2]
        exact h0
      · rw [hb kd hk]
        exact k7 kd n hk hn
    | succ m ih =>
      intro i σ' hi hb f
      obtain ⟨d, rfl⟩ := dS 1 (show 1 ≤ d by omega)
      unfold ys_151_34
      rw [if_pos ((oN_lt1 (b := 3) (c := 3) rfl (by omega) (by omega)).mpr (by omega))]
      refine ⟨44, rfl, hi4, ys_139 hi4 ?_⟩
      unfold ys_139_0 ys_139_23
      rw [if_neg (oN_0 (by omega)), if_pos ((oN_lt1 (b := 3) (c := 3) rfl (by omega) (by omega)).mpr (by omega)), oN_n (by omega)]
      refine ⟨bdk (by omega) (by omega), ?_⟩
      rw [my_kI_v, oN_s, eqp_g f (show ¬ 44 + 8 = a + 1 by omega), eqp_g f0 (show ¬ (44 + 8 = a ∧ _) by omega)]
      refine ⟨bdk (by omega) (by omega), ys_151_34_ok hin (ih (i + 1) _ (by omega) (fun kd hk => ?_) (eqp_I f rfl))⟩
      rw [my_uI_1]
      by_cases c : kd = i
      · rw [if_pos ⟨rfl, c⟩, c]
      · rw [if_neg (by omega)]
        exact hb kd (by omega)
  exact ys_151_34_ok hin (lp 3 0 σ0 (by omega) (fun kd hk => by omega) eqp_rf)
theorem c_147 {fu : Int32} (ha : 65 ≤ a ∧ a ≤ 87) (hin : my_in 6 a) (hF : FRc fr σ) (hW : σ.1 62 3 = Int32.ofNat W) (hW1 : 1 ≤ W ∧ W ≤ 64) (h8 : σ.1 a 8 = fu) (hd : 1 ≤ d) (hQ : ∀ σ', σ'.1 a 2 = Int32.ofNat (wmn fr (W - 1)) → σ'.1 a 3 = fr (wmn fr (W - 1)) → σ'.1 a 4 = fr (wmn fr (W - 1)) + fu + 1 → FRc (fun w => if w = wmn fr (W - 1) then fr (wmn fr (W - 1)) + fu + 1 else fr w) σ' → eqp (fun c k => (c = a ∧ 2 ≤ k ∧ k ≤ 4) ∨ c = 64) σ σ' → Q (.inl none) κ σ') : my_M e d 147 [.inr (.inr (some 62)), .inr (.inr (some a))] κ σ Q := by
  obtain ⟨d, rfl⟩ := dS 1 hd
  refine ys_147 ?_
  unfold ys_147_0
  have fin : ys_147_44 e d (some a) (Int32.ofNat (wmn fr (W - 1))) κ σ Q := by
    have hw := wmn_l (fr := fr) (m := W - 1)
    generalize wmn fr (W - 1) = w at hw hQ ⊢
    have bw := bdk (k := w) (m := 64) (by omega) (by omega)
    unfold ys_147_44
    refine ⟨a, rfl, hin, bw, a, rfl, hin, a, rfl, hin, a, rfl, hin, a, rfl, hin, a, rfl, hin, bw, ?_⟩
    rw [oN_n (by omega)]
    have e1 : (my_uI σ a 2 (Int32.ofNat w)).1 64 w = fr w := by rw [my_uI_1, if_neg (by omega)]; exact hF w (by omega)
    rw [e1]
    have e2 : (my_uI (my_uI σ a 2 (Int32.ofNat w)) a 3 (fr w)).1 a 3 = fr w := uI_s
    have e3 : (my_uI (my_uI σ a 2 (Int32.ofNat w)) a 3 (fr w)).1 a 8 = fu := by rw [my_uI_1, if_neg (by omega), my_uI_1, if_neg (by omega)]; exact h8
    rw [e2, e3]
    have e4 : (my_uI (my_uI (my_uI σ a 2 (Int32.ofNat w)) a 3 (fr w)) a 4 (fr w + fu + 1)).1 a 4 = fr w + fu + 1 := uI_s
    rw [e4]
    refine hQ _ ?_ ?_ ?_ (fun v hv => ?_) (eqp_I (eqp_I (eqp_I (eqp_I eqp_rf (Or.inl ⟨rfl, by omega, by omega⟩)) (Or.inl ⟨rfl, by omega, by omega⟩)) (Or.inl ⟨rfl, by omega, by omega⟩)) (Or.inr rfl))
    · rw [my_uI_1, if_neg (by omega), my_uI_1, if_neg (by omega), my_uI_1, if_neg (by omega)]; exact uI_s
    · rw [my_uI_1, if_neg (by omega), my_uI_1, if_neg (by omega)]; exact uI_s
    · rw [my_uI_1, if_neg (by omega)]; exact uI_s
    · show _ = if v = w then fr w + fu + 1 else fr v
      rw [my_uI_1]
      by_cases c : v = w
      · rw [if_pos ⟨rfl, c⟩, if_pos c]
      · rw [if_neg (by omega), if_neg c, my_uI_1, if_neg (by omega), my_uI_1, if_neg (by omega), my_uI_1, if_neg (by omega)]
        exact hF v hv
  have lp : ∀ (m i : Nat), i + m = W - 1 → ys_147_4 e d (some a) (Int32.ofNat (wmn fr i)) (Int32.ofNat (i + 1)) κ σ Q := by
    intro m
    induction m with
    | zero =>
      intro i hi
      have : i = W - 1 := by omega
      subst this
      unfold ys_147_4
      rw [hW, if_neg (fun hh => by have := (oN_lt (by omega) (by omega)).mp hh; omega)]
      exact fin
    | succ m ih =>
      intro i hi
      have hw := wmn_l (fr := fr) (m := i)
      have key := ih (i + 1) (by omega)
      unfold wmn at key
      unfold ys_147_4
      rw [hW, if_pos ((oN_lt (by omega) (by omega)).mpr (by omega)), if_pos ((oN_lt1 (b := 64) (c := 64) rfl (by omega) (by omega)).mpr (by omega)), oN_n (by omega), oN_n (by omega), hF _ (by omega), hF _ (by omega)]
      refine ⟨bdk (by omega) (by omega), bdk (by omega) (by omega), ?_⟩
      unfold ys_147_38
      rw [oN_s]
      by_cases c : fr (i + 1) < fr (wmn fr i)
      · rw [if_pos c] at key ⊢
        exact ys_147_4_ok key
      · rw [if_neg c] at key ⊢
        exact ys_147_4_ok key
  exact ys_147_4_ok (lp (W - 1) 0 (Nat.zero_add _))
end MCS
