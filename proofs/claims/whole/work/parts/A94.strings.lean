
/-! ===== the words of the listing, the class's ===== -/
def yw_411_9 (e : my_E) (d : Nat) (v0 : Int32) (v1 : Int32) (v2 : Option Nat) (κ : my_K) (σ : my_S) (Q : my_O → my_K → my_S → Prop) : Prop :=
  False
theorem yw_411_9_ok {e : my_E} {d : Nat} {v0 : Int32} {v1 : Int32} {v2 : Option Nat} {κ : my_K} {σ : my_S} {Q : my_O → my_K → my_S → Prop}  (h : yw_411_9 e d v0 v1 v2 κ σ Q) : my_W e d mp_411 9 [(0, .inl v0), (1, .inl v1), (2, .inr (.inr v2))] [] κ σ Q := by
  unfold yw_411_9 at h
  exact my_b2_ok (ops := [(.aload_n 2, []), (.iload_n 0, []), (.iload_n 1, []), (.nop, [[12]])]) (pc := 9) (lv := [(0, .inl v0), (1, .inl v1), (2, .inr (.inr v2))]) (st := []) (by decide +kernel) (h.elim)
def yw_411_0 (e : my_E) (d : Nat) (v0 : Int32) (v1 : Int32) (v2 : Option Nat) (κ : my_K) (σ : my_S) (Q : my_O → my_K → my_S → Prop) : Prop :=
  if v0 < 0 then (yw_411_9 e d v0 v1 v2 κ σ Q) else (if v0 < v1 then (Q (.inl (some (.inl v0))) κ σ) else (yw_411_9 e d v0 v1 v2 κ σ Q))
theorem yw_411_0_ok {e : my_E} {d : Nat} {v0 : Int32} {v1 : Int32} {v2 : Option Nat} {κ : my_K} {σ : my_S} {Q : my_O → my_K → my_S → Prop}  (h : yw_411_0 e d v0 v1 v2 κ σ Q) : my_W e d mp_411 0 [(0, .inl v0), (1, .inl v1), (2, .inr (.inr v2))] [] κ σ Q := by
  unfold yw_411_0 at h
  exact my_b2_ok (ops := [(.iload_n 0, []), (.ifCond .lt 8, [[9, 0, 1, 2], [4, 0, 1, 2]])]) (pc := 0) (lv := [(0, .inl v0), (1, .inl v1), (2, .inr (.inr v2))]) (st := []) (by decide +kernel) (my_it h (fun h => yw_411_9_ok  h) (fun h => my_b2_ok (ops := [(.iload_n 0, []), (.iload_n 1, []), (.if_icmp .lt 10, [[16, 0], [9, 0, 1, 2]])]) (pc := 4) (lv := [(0, .inl v0), (1, .inl v1), (2, .inr (.inr v2))]) (st := []) (by decide +kernel) (my_it h (fun h => my_b2_ok (ops := [(.iload_n 0, []), (.ireturn, [[0]])]) (pc := 16) (lv := [(0, .inl v0)]) (st := []) (by decide +kernel) (h)) (fun h => yw_411_9_ok  h))))
theorem yw_411 {e : my_E} {d : Nat} {v0 : Int32} {v1 : Int32} {v2 : Option Nat} {κ : my_K} {σ : my_S} {Q : my_O → my_K → my_S → Prop}  (h : yw_411_0 e d v0 v1 v2 κ σ Q) : my_M e (d + 1) 411 [.inl v0, .inl v1, .inr (.inr v2)] κ σ Q := my_M_at (q := mp_411) rfl rfl (yw_411_0_ok  h)
section MWD
variable {e : my_E} {d : Nat} {κ : my_K} {σ : my_S} {Q : my_O → my_K → my_S → Prop} {Z : List Int32} {wn : Nat}
theorem my_W_gsn {q : mj_Mi} {pc : Nat} {lv : List (Nat × my_V)} {st : List my_V} {idx : Nat} (hat : mj_at q.2.2.2.2.1 pc = some (.getstatic idx)) (hp : (mc_PO e.1 q.2.2.2.2.2.1).2.2.2.2.2.2.2.2.1 idx = some .null) (h : my_W e d q (pc + 3) lv (.inr (.inr none) :: st) κ σ Q) : my_W e d q pc lv st κ σ Q :=
  my_W_step hat (fun lv' f C S cs ss h1 h2 _ => ⟨lv', f, h1, h2, fun call => by simp [mj_step, mj_sw, mj_g1a, mj_g4, mj_g1d, mj_bin, mj_binL, mj_g7, mj_g2, mj_g1b, mj_g8, mj_g1c, mj_g3, mj_g6, mj_gt, mj_g5, mj_g9, mj_gx, my_v, va_rf, hp]⟩) h
/-- the formatter is null or something outside -/
def fmO (e : my_E) : Prop := e.1 = .null ∨ e.1 = .ref 31
theorem yw_404 {v0 v1 : Int32} (he : fmO e) (h0 : ¬ v0 < 0) (h1 : v0 < v1) (hQ : Q (.inl none) κ σ) : my_M e (d + 2) 404 [.inl v0, .inl v1] κ σ Q := by
  have h411 : ∀ o : Option Nat, my_M e (d + 1) 411 [.inl v0, .inl v1, .inr (.inr o)] κ σ (my_kI (fun _ κ2 σ3 => Q (.inl none) κ2 σ3) (fun y κ5 σ6 => Q (.inr y) κ5 σ6)) := fun o => by
    refine yw_411 ?_
    unfold yw_411_0
    rw [if_neg h0, if_pos h1, my_kI_v]
    exact hQ
  have key : ∀ o : Option Nat, my_W e (d + 1) mp_404 5 [] [.inr (.inr o), .inl v1, .inl v0] κ σ Q := fun o =>
    my_b2_ok (ops := [(.invokestatic 1059, [[411, 3, 1], [8]])]) (pc := 5) (lv := []) (st := [.inr (.inr o), .inl v1, .inl v0]) (by decide +kernel) (⟨⟨rfl, rfl⟩, my_M.mono (h411 o) (my_kI_mono (fun x κ' σ' h => my_b2_ok (ops := [(.pop, []), (.return_, [])]) (pc := 8) (lv := []) (st := [.inl x]) (by decide +kernel) h) (fun y κ' σ' h => h))⟩)
  refine my_M_at (q := mp_404) rfl rfl ?_
  refine my_b2_ok (ops := [(.iload_n 0, []), (.iload_n 1, []), (.nop, [[2]])]) (pc := 0) (lv := [(0, .inl v0), (1, .inl v1)]) (st := []) (by decide +kernel) ?_
  show my_W e (d + 1) mp_404 2 [] [.inl v1, .inl v0] κ σ Q
  rcases he with he | he
  · exact my_W_gsn (idx := 1053) (by decide +kernel) (by rw [he]; rfl) (key none)
  · exact my_W_gst (idx := 1053) (k := 31) (by decide +kernel) (by rw [he]; rfl) (key (some 31))
theorem b2_okl : ∀ j : Fin 160, (((mc_b2.getD j.val 0 &&& 255) : Int32).toUInt32 % 65536).toInt32 = mc_b2.getD j.val 0 ∧ ((mc_b2.getD j.val 0 : Int32).toUInt32 % 65536).toInt32 = mc_b2.getD j.val 0 := by decide +kernel
theorem c_400y (hd : 2 ≤ d) (hQ : Q (.inl (some (.inl 160))) κ σ) : my_M e d 400 [.inr (.inr (some 13))] κ σ Q := by
  obtain ⟨d, rfl⟩ := dS 2 hd
  refine yw_400 ?_
  unfold yw_400_0
  refine yw_401 ?_
  unfold yw_401_0
  rw [if_neg (by decide)]
  exact ⟨by decide, hQ⟩
theorem c_402y {j : Nat} (he : fmO e) (hj : j < 160) (hd : 4 ≤ d) (hQ : Q (.inl (some (.inl (mc_b2.getD j 0)))) κ σ) : my_M e d 402 [.inr (.inr (some 13)), .inl (Int32.ofNat j)] κ σ Q := by
  obtain ⟨d, rfl⟩ := dS 4 hd
  have hb := b2_okl ⟨j, hj⟩
  dsimp only at hb
  refine yw_402 ?_
  unfold yw_402_0
  refine yw_403 ?_
  unfold yw_403_0
  rw [if_neg (by decide), if_pos rfl]
  refine ⟨Or.inr rfl, ?_⟩
  rw [my_kI_v, if_neg (by decide)]
  refine yw_407 ?_
  unfold yw_407_0
  refine yw_404 he (oN_0 (by omega)) ((oN_lt1 (b := 160) (c := 160) rfl (by omega) (by omega)).mpr hj) ?_
  rw [my_k0_v, oN_n (by omega), hb.1]
  refine ⟨bdk hj (by omega), hb.2, ?_⟩
  rw [my_kI_v]
  exact ⟨hb.2, hQ⟩
/-- the signs of a word of the list -/
def wsg (c : Nat) : List Int32 → Nat → List Int32
  | [], _ => []
  | x :: r, w => if c < w then [] else if x = 32 then wsg c r (w + 1) else if w = c then x :: wsg c r w else wsg c r w
theorem s_106l {c : Nat} (he : fmO e) (hc : c ≤ 31) (hd : 4 ≤ d) : ∀ (m j w : Nat) (Z : List Int32) (σ : my_S), j + m = 160 → w ≤ j + 1 → CLs wn Z σ → Z.length + m ≤ 1000000 → (∀ σ', CLs wn (Z ++ wsg c (mc_b2.drop j) w) σ' → eqp csF σ σ' → Q (.inl none) κ σ') → yw_106_4 e d (Int32.ofNat c) (Int32.ofNat w) (Int32.ofNat j) κ σ Q := by
  have hl : mc_b2.length = 160 := by decide +kernel
  intro m
  induction m with
  | zero =>
    intro j w Z σ hj hw h hZ hQ
    unfold yw_106_4
    refine c_400y (by omega) ?_
    rw [my_kI_v, if_neg (fun hh => by have := (oN_lt1 (b := 160) (c := 160) rfl (by omega) (by omega)).mp hh; omega)]
    rw [List.drop_of_length_le (by omega)] at hQ
    exact hQ σ (by rw [show wsg c [] w = [] from rfl, List.append_nil]; exact h) eqp_rf
  | succ m ih =>
    intro j w Z σ hj hw h hZ hQ
    have hj' : j < 160 := by omega
    have hdj : mc_b2.drop j = mc_b2.getD j 0 :: mc_b2.drop (j + 1) := by
      rw [List.drop_eq_getElem_cons (by omega)]
      congr 1
      simp [List.getD_eq_getElem?_getD, List.getElem?_eq_getElem (show j < mc_b2.length by omega)]
    rw [hdj] at hQ
    generalize hx : mc_b2.getD j 0 = x at hQ
    have hw' : wsg c (x :: mc_b2.drop (j + 1)) w = if c < w then [] else if x = 32 then wsg c (mc_b2.drop (j + 1)) (w + 1) else if w = c then x :: wsg c (mc_b2.drop (j + 1)) w else wsg c (mc_b2.drop (j + 1)) w := rfl
    rw [hw'] at hQ
    unfold yw_106_4
    refine c_400y (by omega) ?_
    rw [my_kI_v, if_pos ((oN_lt1 (b := 160) (c := 160) rfl (by omega) (by omega)).mpr hj')]
    by_cases h1 : c < w
    · rw [if_pos h1] at hQ
      rw [if_pos ((oN_lt (by omega) (by omega)).mpr h1)]
      exact hQ σ (by rw [List.append_nil]; exact h) eqp_rf
    rw [if_neg h1] at hQ
    rw [if_neg (fun hh => h1 ((oN_lt (by omega) (by omega)).mp hh))]
    refine c_402y he hj' (by omega) ?_
    rw [my_kI_v, hx]
    by_cases h2 : x = 32
    · rw [if_pos h2] at hQ
      rw [if_pos h2]
      unfold yw_106_50
      rw [oN_s, oN_s]
      exact yw_106_4_ok (ih (j + 1) (w + 1) Z σ (by omega) (by omega) h (by omega) hQ)
    rw [if_neg h2] at hQ
    rw [if_neg h2]
    by_cases h3 : w = c
    · rw [if_pos h3] at hQ
      rw [if_pos (by rw [h3])]
      refine s_105 h (by omega) (by omega) (fun σ1 g1 f1 => ?_)
      rw [my_k0_v]
      unfold yw_106_50
      rw [oN_s]
      refine yw_106_4_ok (ih (j + 1) w _ σ1 (by omega) (by omega) g1 (by rw [List.length_append, List.length_singleton]; omega) (fun σ2 g2 f2 => hQ σ2 ?_ (eqp_tr f1 f2)))
      rw [List.append_assoc] at g2
      exact g2
    · rw [if_neg h3] at hQ
      rw [if_neg (fun hh => h3 ((oN_e (by omega) (by omega)).mp hh))]
      unfold yw_106_50
      rw [oN_s]
      exact yw_106_4_ok (ih (j + 1) w Z σ (by omega) (by omega) h (by omega) hQ)
/-- the words, by their letters -/
def cws : List (List Nat) := [[], [9, 14, 20], [20, 18, 21, 5], [6, 1, 12, 19, 5], [12, 15, 3, 1, 12], [19, 5, 20], [18, 5, 1, 4], [23, 18, 9, 20, 5], [3, 5, 12, 12], [16, 21, 20], [3, 1, 12, 12], [7, 9, 22, 5], [18, 5, 20, 21, 18, 14], [5, 14, 4], [10, 21, 13, 16], [21, 14, 12, 5, 19, 19], [18, 15, 21, 14, 4], [3, 8, 5, 3, 11], [4, 18, 15, 16], [13, 9, 14, 21, 19], [14, 15, 20], [15, 18], [1, 14, 4], [19, 1, 13, 5], [21, 14, 12, 9, 11, 5], [2, 5, 12, 15, 23], [13, 15, 19, 20], [16, 12, 21, 19], [12, 5, 19, 19], [20, 9, 13, 5, 19], [15, 22, 5, 18], [18, 5, 19, 20]]
def cw (c : Nat) : List Nat := cws.getD c []
theorem cw_k : ∀ c : Fin 32, wsg c.val mc_b2 1 = lts (cw c.val) ∧ (cw c.val).length ≤ 6 := by decide +kernel
theorem s_106 {c : Nat} (he : fmO e) (hc : c ≤ 31) (h : CLs wn Z σ) (hZ : Z.length + 160 ≤ 1000000) (hd : 5 ≤ d) (hQ : ∀ σ', CLs wn (Z ++ lts (cw c)) σ' → eqp csF σ σ' → Q (.inl none) κ σ') : my_M e d 106 [.inr (.inr (some 43)), .inl (Int32.ofNat c)] κ σ Q := by
  obtain ⟨d, rfl⟩ := dS 1 (show 1 ≤ d by omega)
  refine yw_106 ?_
  unfold yw_106_0
  refine yw_106_4_ok (s_106l he hc (by omega) 160 0 1 Z σ (by omega) (by omega) h (by omega) ?_)
  rw [List.drop_zero, (cw_k ⟨c, by omega⟩).1]
  exact hQ
/-- the reference's words -/
def cwR (σ : my_S) : Prop := ∀ c : Nat, 1 ≤ c → c ≤ 31 → σ.2.1 575 c = nmR (cw c)
theorem cw_a : ∀ c : Fin 32, (cw c.val).all (fun a => decide (1 ≤ a ∧ a ≤ 26)) = true := by decide +kernel
theorem cw_N {c : Nat} (hc : c ≤ 31) : isN (cw c) := ⟨fun a ha => of_decide_eq_true (List.all_eq_true.mp (cw_a ⟨c, by omega⟩) a ha), by have := (cw_k ⟨c, by omega⟩).2; dsimp only at this; omega⟩
end MWD
