
/-! ===== change: the reference's, the law's ===== -/
/-- the bytes of what was there before, as the reference has them -/
def OLB (Bs : List Ri) (I' : List It) (σ : my_S) : Prop := OLR Bs σ ∧ (∀ j b, Bs[j]? = some b → σ.1 572 j = Int32.ofNat (ibA I' 0 (Bs.take j)).length ∧ σ.1 573 j = Int32.ofNat ((ibA I' 0 (Bs.take j)).length + (ib I' (rwA (Bs.take j)).length b).length)) ∧ (∀ i x, (ibA I' 0 Bs)[i]? = some x → σ.1 574 i = x &&& 255) ∧ (ibA I' 0 Bs).length ≤ 6144
theorem OLB_o {F : Nat → Nat → Prop} {Bs : List Ri} {I' : List It} {σ σ' : my_S} (h : OLB Bs I' σ) (he : eqp F σ σ') (hF : ∀ c k, F c k → (c = 498 → k ≠ 124) ∧ ¬ (570 ≤ c ∧ c ≤ 574)) : OLB Bs I' σ' := by
  have g : ∀ {c k}, 570 ≤ c → c ≤ 574 → ¬ F c k := fun h1 h2 hh => (hF _ _ hh).2 ⟨h1, h2⟩
  obtain ⟨h1, h2, h3, h4⟩ := h
  exact ⟨OLR_o h1 he (fun c k hh => ⟨(hF c k hh).1, by have := (hF c k hh).2; omega, by have := (hF c k hh).2; omega⟩), fun j b hb => ⟨(eqp_g he (g (by omega) (by omega))).trans (h2 j b hb).1, (eqp_g he (g (by omega) (by omega))).trans (h2 j b hb).2⟩, fun i x hi => (eqp_g he (g (by omega) (by omega))).trans (h3 i x hi), h4⟩
section MKK
variable {e : my_E} {d : Nat} {κ : my_K} {σ : my_S} {Q : my_O → my_K → my_S → Prop} {As Bs : List Ri} {I I' : List It} {rv ol : Nat} {v4 : Int32}
theorem r_349b {k j : Nat} {a b : Ri} (h : LD As I rv σ) (hB : itsB Bs) (ho : OLB Bs I' σ) (ha : As[k]? = some a) (hb : Bs[j]? = some b) (hd : 1 ≤ d) (hQ : Q (.inl (some (.inl (bI (decide (ib I (rwA (As.take k)).length a = ib I' (rwA (Bs.take j)).length b)))))) κ σ) : my_M e d 349 [.inr (.inr (some 498)), .inl (Int32.ofNat j), .inl (Int32.ofNat k)] κ σ Q := by
  obtain ⟨d, rfl⟩ := dS 1 hd
  obtain ⟨h1, h2, h3, h4, h5, h6, h7, h8⟩ := h
  have h42 := itsB_42 h1
  have h42b := itsB_42 hB
  have hkA := (List.getElem?_eq_some_iff.mp ha).1
  have hjB := (List.getElem?_eq_some_iff.mp hb).1
  obtain ⟨y1, y2, y3, y4, y5⟩ := h8.2.1 k a ha
  obtain ⟨x1, x2⟩ := ho.2.1 j b hb
  have hil := ib_l (I := I) ha
  have hil2 := ib_l (I := I') hb
  have h61 := h7.2.2.2.1
  have h62 := ho.2.2.2
  have aX := aB_ib (I := I) (i := (rwA (As.take k)).length) (a := a)
  have aY := aB_ib (I := I') (i := (rwA (Bs.take j)).length) (a := b)
  have bk : my_bd (Int32.ofNat k) 48 := bdk (by omega) (by omega)
  have bj : my_bd (Int32.ofNat j) 48 := bdk (by omega) (by omega)
  have vX : ∀ i (hi : i < (ib I (rwA (As.take k)).length a).length), σ.1 535 ((ibA I 0 (As.take k)).length + i) = (ib I (rwA (As.take k)).length a)[i] &&& 255 := fun i hi => h8.1.2 _ _ (ib_e (I := I) ha hi)
  have vY : ∀ i (hi : i < (ib I' (rwA (Bs.take j)).length b).length), σ.1 574 ((ibA I' 0 (Bs.take j)).length + i) = (ib I' (rwA (Bs.take j)).length b)[i] &&& 255 := fun i hi => ho.2.2.1 _ _ (ib_e (I := I') hb hi)
  generalize hX : ib I (rwA (As.take k)).length a = X at *
  generalize hY : ib I' (rwA (Bs.take j)).length b = Y at *
  generalize hO1 : (ibA I 0 (As.take k)).length = o1 at *
  generalize hO2 : (ibA I' 0 (Bs.take j)).length = o2 at *
  have ex : Int32.ofNat (o1 + X.length) - Int32.ofNat o1 = Int32.ofNat X.length := by rw [Int32.ofNat_add, Int32.add_comm, Int32.add_sub_cancel]
  have ey : Int32.ofNat (o2 + Y.length) - Int32.ofNat o2 = Int32.ofNat Y.length := by rw [Int32.ofNat_add, Int32.add_comm, Int32.add_sub_cancel]
  have zero : Q (.inl (some (.inl (bI false)))) κ σ → ∀ i, ys_349_38 e d (Int32.ofNat j) (Int32.ofNat k) 0 i κ σ Q := fun hq i => by
    unfold ys_349_38 ys_349_103
    rw [if_pos rfl]
    exact ⟨Or.inl rfl, hq⟩
  have lp : Y.length = X.length → ∀ (m i : Nat), i + m = X.length → Q (.inl (some (.inl (bI (decide (X.drop i = Y.drop i)))))) κ σ → ys_349_38 e d (Int32.ofNat j) (Int32.ofNat k) 1 (Int32.ofNat i) κ σ Q := fun hXY m => by
    induction m with
    | zero =>
      intro i hi hq
      unfold ys_349_38 ys_349_103
      rw [if_neg (by decide), oN_n (by omega), y3, y4, ex, if_neg (by rw [oN_lt (by omega) (by omega)]; omega)]
      rw [List.drop_of_length_le (by omega), List.drop_of_length_le (by omega)] at hq
      exact ⟨bk, bk, Or.inr rfl, hq⟩
    | succ m ih =>
      intro i hi hq
      have hiX : i < X.length := by omega
      have hiY : i < Y.length := by omega
      unfold ys_349_38
      rw [if_neg (by decide), oN_n (by omega), y3, y4, ex, if_pos (by rw [oN_lt (by omega) (by omega)]; omega), oN_n (by omega), x1, ← Int32.ofNat_add, ← Int32.ofNat_add, oN_n (by omega), oN_n (by omega), vX i hiX, vY i hiY]
      refine ⟨bk, bk, bj, bdk (by omega) (by omega), bk, bdk (by omega) (by omega), ?_⟩
      unfold ys_349_96
      rw [oN_s]
      refine my_if (fun c => ?_) (fun c => ?_)
      · have c := (isB_e (aY _ (List.getElem_mem hiY)) (aX _ (List.getElem_mem hiX))).mp c
        refine ys_349_38_ok (ih (i + 1) (by omega) ?_)
        rw [show decide (X.drop i = Y.drop i) = decide (X.drop (i + 1) = Y.drop (i + 1)) from decide_eq_decide.mpr ((dr_e hiX hiY).trans ⟨fun hh => hh.2, fun hh => ⟨c.symm, hh⟩⟩)] at hq
        exact hq
      · have c : ¬ X[i] = Y[i] := fun hh => c (by rw [hh])
        rw [decide_eq_false (fun hh => c ((dr_e hiX hiY).mp hh).1)] at hq
        exact ys_349_38_ok (zero hq _)
  refine ys_349 ?_
  unfold ys_349_0
  rw [oN_n (by omega), oN_n (by omega), x1, x2, y3, y4, ex, ey]
  refine ⟨bj, bj, bk, bk, ?_⟩
  refine my_if (fun c => ?_) (fun c => ?_)
  · have c := (oN_e (by omega) (by omega)).mp c
    unfold ys_349_34
    exact ys_349_38_ok (lp c X.length 0 (by omega) hQ)
  · have c : ¬ X = Y := fun hh => c (by rw [hh])
    unfold ys_349_34
    rw [decide_eq_false c] at hQ
    exact ys_349_38_ok (zero hQ _)
theorem r_348b {v1 v2 : Int32} (h : LD As I rv σ) (hB : itsB Bs) (ho : OLB Bs I' σ) (hd : 5 ≤ d)
    (hx : fkA As v1 v2 As.length 0 = none → ∀ σ', σ'.1 498 0 = 2 → eqp (fun c k => c = 498 ∧ k = 0) σ σ' → Q (.inl (some (.inl 0))) κ σ')
    (hQ : ∀ k a σ', fkA As v1 v2 As.length 0 = some k → As[k]? = some a → σ'.1 498 0 = 0 → eqp (fun c k => c = 498 ∧ k = 0) σ σ' → Q (.inl (some (.inl (if σ.1 498 65 = 1 then Int32.ofInt (-1) else chg As I Bs I' k a)))) κ σ') : my_M e d 348 [.inr (.inr (some 498)), .inl v1, .inl v2] κ σ Q := by
  obtain ⟨d, rfl⟩ := dS 1 (show 1 ≤ d by omega)
  refine ys_348 ?_
  unfold ys_348_0
  refine r_347b h (by omega) (fun hn σ1 u1 f1 => ?_) (fun k σ1 hk u1 f1 => ?_)
  · rw [my_kI_v, if_pos (by decide)]
    exact hx hn σ1 u1 f1
  · have hkA := fkA_lt hk
    have h42 := itsB_42 h.1
    obtain ⟨a, ha⟩ : ∃ a, As[k]? = some a := ⟨_, List.getElem?_eq_getElem hkA⟩
    have h' : LD As I rv σ1 := LD_o (LD_30 h) h f1 (fun c k hh => by
      have := h.2.2.1
      unfold coF
      omega)
    have ho' : OLB Bs I' σ1 := OLB_o ho f1 (fun c k hh => by omega)
    have hfin := hQ k a σ1 hk ha u1 f1
    have h42b := itsB_42 hB
    have hNa : isN (riN a) := (h.1.2 a (List.mem_of_getElem? ha)).2.1
    rw [my_kI_v, if_neg (oN_0 (by omega)), eqp_g f1 (show ¬ (498 = 498 ∧ 65 = 0) by omega)]
    refine my_if (fun c => ?_) (fun c => ?_)
    · rw [if_pos c] at hfin
      exact hfin
    · rw [if_neg c] at hfin
      have g530 : σ1.2.1 530 k = nmR (riN a) := (h'.2.2.2.2.2.2.2.2.1 k a ha).2.1
      unfold chg at hfin
      have lp : ∀ (m j : Nat), j + m = Bs.length → kwi ((rno Bs).drop j) (riN a) j = kwi (rno Bs) (riN a) 0 → ys_348_27 e d (Int32.ofNat k) (Int32.ofNat j) κ σ1 Q := fun m => by
        induction m with
        | zero =>
          intro j hj hkw
          rw [List.drop_of_length_le (by unfold rno; rw [List.length_map]; omega)] at hkw
          unfold ys_348_27
          rw [ho'.1.1, if_neg (by rw [oN_lt (by omega) (by omega)]; omega)]
          rw [← hkw] at hfin
          exact hfin
        | succ m ih =>
          intro j hj hkw
          have hjl : j < Bs.length := by omega
          obtain ⟨b, hb⟩ : ∃ b, Bs[j]? = some b := ⟨_, List.getElem?_eq_getElem hjl⟩
          have hdr : (rno Bs).drop j = riN b :: (rno Bs).drop (j + 1) := by
            have h1 : j < (rno Bs).length := by unfold rno; rw [List.length_map]; exact hjl
            rw [List.drop_eq_getElem_cons h1]
            congr 1
            have h2 : (rno Bs)[j]? = some (riN b) := by unfold rno; rw [List.getElem?_map, hb]; rfl
            rw [List.getElem?_eq_getElem h1] at h2
            exact Option.some.inj h2
          have kw : kwi ((rno Bs).drop j) (riN a) j = if riN b = riN a then some j else kwi ((rno Bs).drop (j + 1)) (riN a) (j + 1) := by
            rw [hdr]
            rfl
          have hNb : isN (riN b) := (hB.2 b (List.mem_of_getElem? hb)).2.1
          unfold ys_348_27
          rw [ho'.1.1, if_pos (by rw [oN_lt (by omega) (by omega)]; omega), oN_n (by omega), oN_n (by omega), (ho'.1.2 j b hb).2, g530]
          refine ⟨bdk (by omega) (by omega), bdk (by omega) (by omega), ?_⟩
          rw [kw] at hkw
          by_cases hba : riN b = riN a
          · rw [if_pos (lg_cmp_0.mpr (by rw [hba]))]
            rw [if_pos hba] at hkw
            rw [← hkw] at hfin
            dsimp only at hfin
            rw [hb] at hfin
            dsimp only at hfin
            refine r_349b h' hB ho' ha hb (by omega) ?_
            rw [my_kI_v]
            unfold ys_348_68
            by_cases he : ib I (rwA (As.take k)).length a = ib I' (rwA (Bs.take j)).length b
            · rw [if_pos he] at hfin
              rw [decide_eq_true he, if_neg (show ¬ bI true = 0 by decide)]
              exact hfin
            · rw [if_neg he] at hfin
              rw [decide_eq_false he, if_pos (show bI false = 0 from rfl)]
              exact hfin
          · rw [if_neg (fun hh => hba ((nmR_inj hNb hNa).mp (lg_cmp_0.mp hh))), oN_s]
            rw [if_neg hba] at hkw
            exact ys_348_27_ok (ih (j + 1) (by omega) hkw)
      exact ys_348_27_ok (lp Bs.length 0 (by omega) (by rw [List.drop_zero]))
end MKK
