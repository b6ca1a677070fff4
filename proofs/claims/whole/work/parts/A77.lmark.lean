
/-! ===== mark ===== -/
def hs (l : List Int32) (v : Int32) : Int32 := l.foldl (fun v x => 31 * v + (x &&& 255)) v
section MKF
variable {e : my_E} {d : Nat} {κ : my_K} {σ : my_S} {Q : my_O → my_K → my_S → Prop} {As : List Ri} {I : List It} {rv : Nat} {v4 : Int32}
theorem ib_e {k w : Nat} {a : Ri} (ha : As[k]? = some a) (hw : w < (ib I (rwA (As.take k)).length a).length) : (ibA I 0 As)[(ibA I 0 (As.take k)).length + w]? = some ((ib I (rwA (As.take k)).length a)[w]) := by
  have h1 := ibA_take (I := I) ha
  have h2 : ibA I 0 As = ibA I 0 (As.take (k + 1)) ++ ibA I (0 + (rwA (As.take (k + 1))).length) (As.drop (k + 1)) := by
    rw [← ibA_a, List.take_append_drop]
  rw [h2, h1, List.append_assoc, List.getElem?_append_right (by omega), Nat.add_sub_cancel_left, List.getElem?_append_left hw]
  exact List.getElem?_eq_getElem hw
theorem c_19l {k : Nat} {a : Ri} (h : LD As I rv σ) (ha : As[k]? = some a) (hd : 2 ≤ d) : ∀ (m w : Nat) (v : Int32), w + m = (ib I (rwA (As.take k)).length a).length → Q (.inl (some (.inl (hs ((ib I (rwA (As.take k)).length a).drop w) v)))) κ σ → ys_19_13 e d (some (rv + 4 + 3 * k)) v (Int32.ofNat w) κ σ Q := by
  obtain ⟨h1, h2, h3, h4, h5, h6, h7, h8⟩ := h
  have h42 := itsB_42 h1
  have hkA := (List.getElem?_eq_some_iff.mp ha).1
  obtain ⟨c1, c2, c3, c4⟩ := h7.2.2.2.2 k a ha
  have hil := ib_l (I := I) ha
  have h61 := h7.2.2.2.1
  intro m
  induction m with
  | zero =>
    intro w v hw hQ
    unfold ys_19_13
    refine ⟨_, rfl, in11 h3 (by omega), ?_⟩
    rw [c3, if_neg (by rw [oN_lt (by omega) (by omega)]; omega)]
    rw [List.drop_of_length_le (by omega)] at hQ
    exact hQ
  | succ m ih =>
    intro w v hw hQ
    have hwl : w < (ib I (rwA (As.take k)).length a).length := by omega
    unfold ys_19_13
    refine ⟨_, rfl, in11 h3 (by omega), ?_⟩
    rw [c3, if_pos (by rw [oN_lt (by omega) (by omega)]; omega)]
    refine ⟨_, rfl, in11 h3 (by omega), rv, h6, in10 h3, ?_⟩
    rw [c2, ← Int32.ofNat_add]
    refine c_202 h3 (by omega) hd ?_
    rw [my_kI_v, h7.2.2.1.2 _ _ (ib_e ha hwl), oN_s]
    refine ys_19_13_ok (ih (w + 1) _ (by omega) ?_)
    rw [List.drop_eq_getElem_cons hwl] at hQ
    exact hQ
theorem c_19b {v1 v2 : Int32} (h : LD As I rv σ) (hκ : 1 ≤ κ.2.1 ∧ 6 ≤ κ.2.2) (hd : 8 ≤ d) (hx : fkA As v1 v2 As.length 0 = none → Q (.inr (κ.1, 15)) (κ.1 + 1, κ.2.1 - 1, κ.2.2 - 6) σ) (hQ : ∀ k a, fkA As v1 v2 As.length 0 = some k → As[k]? = some a → Q (.inl (some (.inl (hs (ib I (rwA (As.take k)).length a) 1)))) κ σ) : my_M e d 19 [.inr (.inr (some 32)), .inl v1, .inl v2] κ σ Q := by
  obtain ⟨d, rfl⟩ := dS 1 (show 1 ≤ d by omega)
  refine ys_19 ?_
  unfold ys_19_0
  refine c_17b h hκ (by omega) (fun hn => ?_) (fun k hk => ?_)
  · rw [my_kA_x]; exact hx hn
  rw [my_kA_v]
  obtain ⟨a, ha⟩ : ∃ a, As[k]? = some a := ⟨_, List.getElem?_eq_getElem (fkA_lt hk)⟩
  exact ys_19_13_ok (c_19l h ha (by omega) (ib I (rwA (As.take k)).length a).length 0 1 (by omega) (hQ k a hk ha))
/-- the reference's item told -/
theorem r_347b {v1 v2 : Int32} (h : LD As I rv σ) (hd : 4 ≤ d)
    (hx : fkA As v1 v2 As.length 0 = none → ∀ σ', σ'.1 498 0 = 2 → eqp (fun c k => c = 498 ∧ k = 0) σ σ' → Q (.inl (some (.inl (Int32.ofInt (-1))))) κ σ')
    (hQ : ∀ k σ', fkA As v1 v2 As.length 0 = some k → σ'.1 498 0 = 0 → eqp (fun c k => c = 498 ∧ k = 0) σ σ' → Q (.inl (some (.inl (Int32.ofNat k)))) κ σ') : my_M e d 347 [.inr (.inr (some 498)), .inl v1, .inl v2, .inl 0] κ σ Q := by
  obtain ⟨h1, h2, h3, h4, h5, h6, h7, h8⟩ := h
  obtain ⟨d, rfl⟩ := dS 2 (show 2 ≤ d by omega)
  have h42 := itsB_42 h1
  have bad : fkA As v1 v2 As.length 0 = none → ys_347_30 e (d + 1) v1 v2 0 κ σ Q := fun hh => by
    unfold ys_347_30 ys_347_35
    refine r_215_2 ?_
    rw [my_kI_v, if_neg (by decide)]
    exact hx hh _ uI_s (eqp_I eqp_rf ⟨rfl, rfl⟩)
  have no : ∀ {P : Prop}, (¬ v1 < 0 ∧ ¬ (3 : Int32) < v1 ∧ ¬ v2 < 0 → P → False) → P → fkA As v1 v2 As.length 0 = none := fun hP p => by
    cases hf : fkA As v1 v2 As.length 0 with
    | none => rfl
    | some k => exact absurd (fkA_ok h1 hf) (fun hh => hP hh p)
  refine ys_347 ?_
  unfold ys_347_0
  rw [if_neg h5]
  unfold ys_347_13
  rw [if_pos rfl]
  refine my_if (fun c1 => bad (no (fun hh p => hh.1 p) c1)) (fun c1 => my_if (fun c2 => bad (no (fun hh p => hh.2.1 p) c2)) (fun c2 => my_if (fun c3 => bad (no (fun hh p => hh.2.2 p) c3)) (fun c3 => ?_)))
  obtain ⟨K, hK, hK2⟩ := nn_of c1
  have hK3 : K ≤ 3 := by
    have : ¬ 3 < K := fun hh => c2 (by rw [hK]; exact (oN_lt (p := 3) (by omega) hK2).mpr hh)
    omega
  unfold ys_347_35
  refine r_215_0 ?_
  rw [my_kI_v, if_pos rfl]
  have f1 : eqp (fun c k => c = 498 ∧ k = 0) σ (my_uI σ 498 0 0) := eqp_I eqp_rf ⟨rfl, rfl⟩
  generalize my_uI σ 498 0 0 = σ1 at f1 ⊢
  have g49 : σ1.1 498 49 = Int32.ofNat As.length := (eqp_g f1 (by omega)).trans h8.2.2.1
  have g529 : ∀ k a, As[k]? = some a → σ1.1 529 k = Int32.ofNat (riF a + 10) := fun k a ha => (eqp_g f1 (by omega)).trans (h8.2.1 k a ha).1
  rw [hK]
  refine r_281 h1 g529 g49 hK3 (by omega) ?_
  rw [my_kI_v]
  rw [hK] at hx hQ
  cases hf : fkA As (Int32.ofNat K) v2 As.length 0 with
  | none =>
    show if Int32.ofInt (-1) < 0 then _ else _
    rw [if_pos (by decide)]
    unfold ys_347_63
    refine r_215_2 ?_
    rw [my_kI_v, if_neg (by decide)]
    unfold ys_347_75
    exact hx hf _ uI_s (eqp_I f1 ⟨rfl, rfl⟩)
  | some k =>
    have hkA := fkA_lt hf
    rw [show fkI (some k) = Int32.ofNat k from rfl, if_neg (oN_0 (by omega))]
    unfold ys_347_63
    refine r_215_0 ?_
    rw [my_kI_v, if_pos rfl]
    unfold ys_347_75
    exact hQ k _ hf uI_s (eqp_I f1 ⟨rfl, rfl⟩)
theorem r_346l {k : Nat} {a : Ri} (h : LD As I rv σ) (ha : As[k]? = some a) : ∀ (m w : Nat) (v : Int32), w + m = (ib I (rwA (As.take k)).length a).length → Q (.inl (some (.inl (hs ((ib I (rwA (As.take k)).length a).drop w) v)))) κ σ → ys_346_27 e d (Int32.ofNat k) v (Int32.ofNat ((ibA I 0 (As.take k)).length + w)) κ σ Q := by
  obtain ⟨h1, h2, h3, h4, h5, h6, h7, h8⟩ := h
  have h42 := itsB_42 h1
  have hkA := (List.getElem?_eq_some_iff.mp ha).1
  obtain ⟨y1, y2, y3, y4, y5⟩ := h8.2.1 k a ha
  have hil := ib_l (I := I) ha
  have h61 := h7.2.2.2.1
  have bd : my_bd (Int32.ofNat k) 48 := bdk (by omega) (by omega)
  intro m
  induction m with
  | zero =>
    intro w v hw hQ
    unfold ys_346_27
    rw [if_neg (oN_0 (by omega)), oN_n (by omega), y4, if_neg (by rw [oN_lt (by omega) (by omega)]; omega)]
    refine ⟨bd, ?_⟩
    unfold ys_346_63 ys_346_73
    rw [if_neg (oN_0 (by omega))]
    rw [List.drop_of_length_le (by omega)] at hQ
    exact hQ
  | succ m ih =>
    intro w v hw hQ
    have hwl : w < (ib I (rwA (As.take k)).length a).length := by omega
    unfold ys_346_27
    rw [if_neg (oN_0 (by omega)), oN_n (by omega), y4, if_pos (by rw [oN_lt (by omega) (by omega)]; omega), oN_n (by omega), h8.1.2 _ _ (ib_e ha hwl), oN_s, Nat.add_assoc]
    refine ⟨bd, bdk (by omega) (by omega), ys_346_27_ok (ih (w + 1) _ (by omega) ?_)⟩
    rw [List.drop_eq_getElem_cons hwl] at hQ
    exact hQ
theorem r_346b {v1 v2 : Int32} (h : LD As I rv σ) (hd : 5 ≤ d)
    (hx : fkA As v1 v2 As.length 0 = none → ∀ σ', σ'.1 498 0 = 2 → eqp (fun c k => c = 498 ∧ k = 0) σ σ' → Q (.inl (some (.inl 0))) κ σ')
    (hQ : ∀ k a σ', fkA As v1 v2 As.length 0 = some k → As[k]? = some a → σ'.1 498 0 = 0 → eqp (fun c k => c = 498 ∧ k = 0) σ σ' → Q (.inl (some (.inl (hs (ib I (rwA (As.take k)).length a) 1)))) κ σ') : my_M e d 346 [.inr (.inr (some 498)), .inl v1, .inl v2] κ σ Q := by
  obtain ⟨d, rfl⟩ := dS 1 (show 1 ≤ d by omega)
  refine ys_346 ?_
  unfold ys_346_0
  refine r_347b h (by omega) (fun hn σ1 u1 f1 => ?_) (fun k σ1 hk u1 f1 => ?_)
  · rw [my_kI_v, if_pos (by decide)]
    unfold ys_346_25
    refine ys_346_27_ok ?_
    unfold ys_346_27 ys_346_63 ys_346_73
    rw [if_pos (by decide), if_pos (by decide)]
    exact hx hn σ1 u1 f1
  · have hkA := fkA_lt hk
    have h42 := itsB_42 h.1
    obtain ⟨a, ha⟩ : ∃ a, As[k]? = some a := ⟨_, List.getElem?_eq_getElem hkA⟩
    have h' : LD As I rv σ1 := LD_o (LD_30 h) h f1 (fun c k hh => by
      have := h.2.2.1
      unfold coF
      omega)
    obtain ⟨y1, y2, y3, y4, y5⟩ := h'.2.2.2.2.2.2.2.2.1 k a ha
    rw [my_kI_v, if_neg (oN_0 (by omega)), oN_n (by omega), y3]
    refine ⟨bdk (by omega) (by omega), ?_⟩
    unfold ys_346_25
    have := r_346l (e := e) (d := d) (κ := κ) (Q := Q) h' ha (ib I (rwA (As.take k)).length a).length 0 1 (by omega) (hQ k a σ1 hk ha u1 f1)
    rw [Nat.add_zero] at this
    exact ys_346_27_ok this
theorem l_5b (h : LD As I rv σ) (hκ : 1 ≤ κ.2.1 ∧ 6 ≤ κ.2.2) (b1 : my_bd (v4 + 1) e.2.1) (b2 : my_bd (v4 + 2) e.2.1) (hn : ∀ κ' σ', (κ' = κ ∨ κ' = (κ.1 + 1, κ.2.1 - 1, κ.2.2 - 6)) → eqp rtF σ σ' → ys_law_1663 e 1049 v4 κ' σ' Q) : ys_law_393 e 1049 v4 κ σ Q := by
  unfold ys_law_393
  refine ⟨b1, b2, ys_380 ?_⟩
  unfold ys_380_0
  generalize e.2.2 (v4 + 1 : Int32).toNatClampNeg = x1
  generalize e.2.2 (v4 + 2 : Int32).toNatClampNeg = x2
  refine c_19b h hκ (by omega) (fun hb => ?_) (fun k a hk ha => ?_)
  · rw [my_kI_x, if_neg (show ¬ (15 : Nat) = 13 by decide), if_pos rfl, my_kI_v]
    refine ⟨b1, b2, r_346b h (by omega) (fun _ σ1 u1 f1 => ?_) (fun k a σ1 hk => by rw [hk] at hb; cases hb)⟩
    rw [my_kI_v]
    refine r_213 ?_
    rw [my_kI_v, u1, if_pos rfl, if_neg (by decide)]
    unfold ys_law_458
    exact hn _ σ1 (Or.inr rfl) (eqp_mo f1 (fun _ _ => Or.inl))
  · rw [my_kI_v, my_kI_v]
    generalize hy : hs (ib I (rwA (As.take k)).length a) 1 = y
    have f0 : eqp rtF σ (my_uL σ 585 0 y.toInt64) := eqp_L eqp_rf (Or.inr ⟨rfl, rfl⟩)
    have u0 : (my_uL σ 585 0 y.toInt64).2.1 585 0 = y.toInt64 := by
      rw [my_uL_2, if_pos ⟨rfl, rfl⟩]
    generalize my_uL σ 585 0 y.toInt64 = σ0 at f0 u0 ⊢
    have h' : LD As I rv σ0 := LD_o (LD_30 h) h f0 (fun c k hh => by
      have := h.2.2.1
      unfold rtF at hh
      unfold coF
      omega)
    refine ⟨b1, b2, r_346b h' (by omega) (fun hb => by rw [hk] at hb; cases hb) (fun k' a' σ1 hk' ha' u1 f1 => ?_)⟩
    rw [hk] at hk'
    cases hk'
    rw [ha] at ha'
    cases ha'
    rw [my_kI_v]
    refine r_213 ?_
    rw [my_kI_v, u1, if_pos rfl, if_pos rfl, hy]
    have u2 : σ1.2.1 585 0 = y.toInt64 := by rw [← u0]; exact (f1 _ _ (by omega)).2.1
    rw [if_pos (lg_cmp_0.mpr u2)]
    unfold ys_law_458
    exact hn _ σ1 (Or.inl rfl) (eqp_tr f0 (eqp_mo f1 (fun _ _ => Or.inl)))
end MKF
