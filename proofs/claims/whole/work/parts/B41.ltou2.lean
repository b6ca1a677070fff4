
/-! ===== touched of the law: both sides, the op ===== -/
section MLU
variable {As Bs : List Ri} {I I' : List It} {cnt cu ol sp A : Nat} {e : my_E} {d : Nat} {κ : my_K} {σ σ' : my_S} {Q : my_O → my_K → my_S → Prop} {E : List Et} {T : List Int32} {y z : Nat × Et} {v4 : Int32}
theorem bI01 (b : Bool) : bI b = 0 ∨ bI b = 1 := by cases b; exact Or.inl rfl; exact Or.inr rfl
theorem c_42l {k : Nat} {a : Ri} (h : LD As I cu σ) (hS : LVs A E σ) (hy : y ∈ rcp E) (hO : OcC (eC y.2) σ) (ha : As[k]? = some a) (hd : 4 ≤ d) : ∀ (m i : Nat), i + m = g1 (eC y.2) 10 → Q (.inl (some (.inl (bI (aO E (eC y.2) a m i))))) κ σ → ys_42_151 e d (some 92) (some (cu + 4 + 3 * k)) (Int32.ofNat i) κ σ Q := by
  obtain ⟨r1, r2, r3, r4, r5, r6⟩ := rec_w hS.2.1 hy
  intro m
  induction m with
  | zero =>
    intro i hi hq
    unfold ys_42_151
    refine ⟨92, rfl, in9, ?_⟩
    rw [hO.2.1, if_neg (by rw [oN_lt (by omega) (by omega)]; omega)]
    exact hq
  | succ m ih =>
    intro i hi hq
    have hi' : i < g1 (eC y.2) 10 := by omega
    obtain ⟨z, hz, hz2⟩ := itp_e (r6 i hi')
    rw [aO, hz2] at hq
    unfold ys_42_151
    refine ⟨92, rfl, in9, ?_⟩
    rw [hO.2.1, if_pos ((oN_lt (by omega) (by omega)).mpr hi')]
    refine ⟨92, rfl, in9, c_190 hO r3 hi' (by omega) ?_⟩
    rw [my_kI_v]
    refine c_169 h hS hz ha (by omega) ?_
    rw [my_kI_v]
    cases hb : isO z.2 a with
    | false =>
      rw [hb, Bool.false_or] at hq
      rw [if_pos (show bI false = 0 from rfl), oN_s]
      exact ys_42_151_ok (ih (i + 1) (by omega) hq)
    | true =>
      rw [hb, Bool.true_or] at hq
      rw [if_neg (by decide)]
      exact hq
theorem c_42y {k : Nat} {a : Ri} {u v w : Int32} (h : LD As I cu σ) (hS : LVs A E σ) (hf : fkA As 3 u As.length 0 = some k) (ha : As[k]? = some a) (hκ : 1 ≤ κ.2.1 ∧ 6 ≤ κ.2.2) (hd : 9 ≤ d) (hx : lrc (rcp E) (riN a) (rcp E).length = none → Q (.inr (κ.1, 17)) (κ.1 + 1, κ.2.1 - 1, κ.2.2 - 6) σ) (hy : ∀ y, lrc (rcp E) (riN a) (rcp E).length = some y → toA E As (eC y.2) v w = none → ∀ σ', eqp oF σ σ' → Q (.inr (κ.1, 14)) (κ.1 + 1, κ.2.1 - 1, κ.2.2 - 6) σ') (hQ : ∀ y b, lrc (rcp E) (riN a) (rcp E).length = some y → toA E As (eC y.2) v w = some b → ∀ σ', eqp oF σ σ' → Q (.inl (some (.inl (bI b)))) κ σ') : my_M e d 42 [.inr (.inr (some 32)), .inl u, .inl v, .inl w] κ σ Q := by
  obtain ⟨d, rfl⟩ := dS 1 (show 1 ≤ d by omega)
  refine ys_42 ?_
  unfold ys_42_0
  refine c_17b h hκ (by omega) (fun hf' => by rw [hf] at hf'; cases hf') (fun k' hf' => ?_)
  rw [hf] at hf'
  cases hf'
  rw [my_kA_v]
  refine c_41 h hS ha hκ (by omega) (fun hn => ?_) (fun y hn σ1 o1 f1 => ?_)
  · rw [my_kA_x]; exact hx hn
  have hy := fun hh => hy y hn hh σ1 f1
  have hQ := fun b hh => hQ y b hn hh σ1 f1
  have hym := (lrc_m hn).1
  obtain ⟨r1, r2, r3, r4, r5, r6⟩ := rec_w hS.2.1 hym
  have f1' : eqp skF σ σ1 := eqp_mo f1 (fun c k hh => by unfold skF; omega)
  have ld1 := LD_r h f1'
  have ls1 := LVs_r hS f1'
  have g0 := g1_lt (eC y.2) 0
  have q1 := g2_lt (eC y.2) 1
  have q8 := g2_lt (eC y.2) 8
  rw [my_kA_v]
  clear hx
  have i61 : ∀ b : Bool, toA E As (eC y.2) v w = some b → ys_42_61 e d (bI b) κ σ1 Q := fun b hb => by
    unfold ys_42_61
    exact ⟨bI01 b, hQ b hb⟩
  have fall : ¬ (v = 3 ∧ w = Int32.ofInt (-1)) → ∀ t0 : Int32, t0 = (if v = 3 then 1 else 0) → ys_42_62 e d v w (some 92) t0 κ σ1 Q := fun hno t0 ht => by
    unfold toA at hy hQ i61
    rw [if_neg hno] at hy hQ i61
    have bad : (v < 0 ∨ (3 : Int32) < v) → ys_42_71 e d (some 92) t0 κ σ1 Q := fun hv => by
      unfold ys_42_71 ys_42_93
      rw [if_pos rfl]
      rw [if_pos hv] at hy
      exact ⟨⟨by omega, hκ⟩, hy rfl⟩
    unfold ys_42_62
    refine my_if (fun c => bad (Or.inl c)) (fun c => my_if (fun c2 => bad (Or.inr c2)) (fun c2 => ?_))
    rw [if_neg (fun hh => by rcases hh with hh | hh; exact c hh; exact c2 hh)] at hy hQ i61
    have go : ∀ s : Int32, s = (if v = 3 then 2 else v) → ys_42_89 e d w (some 92) t0 s (σ1.2.2 32 7) κ σ1 Q := fun s hs => by
      unfold ys_42_89
      refine ⟨cu, ld1.2.2.2.2.2.1, in10 h.2.2.1, c_200 h.2.2.1 h.2.1 ld1.2.2.2.2.2.2.1.1 ld1.2.2.2.2.2.2.1.2.1 (by omega) ?_⟩
      rw [my_kA_v, hs]
      unfold ys_42_93
      cases hk : fkA As (if v = 3 then 2 else v) w As.length 0 with
      | none =>
        rw [hk] at hy
        show if (none : Option Nat) = none then _ else _
        rw [if_pos rfl]
        exact ⟨⟨by omega, hκ⟩, hy rfl⟩
      | some k2 =>
        obtain ⟨a2, ha2, _⟩ := fkA_k hk
        rw [hk] at hQ
        dsimp only at hQ
        rw [ha2] at hQ
        dsimp only at hQ
        have hQ := hQ _ rfl
        show if (some (cu + 4 + 3 * k2)) = none then _ else _
        rw [if_neg (by simp)]
        by_cases c3 : v = 3
        · rw [if_pos c3] at ht hQ
          rw [ht, if_neg (by decide)]
          refine ⟨92, rfl, in9, ?_⟩
          rw [o1.1.1]
          refine my_if (fun c4 => ⟨92, rfl, in9, ?_⟩) (fun c4 => ?_)
          · have c4 := g1_1.mp c4
            obtain ⟨z, hz, hz2⟩ := itp_e (r5 c4)
            rw [decide_eq_true c4, Bool.true_and, hz2] at hQ
            rw [o1.1.2.1]
            refine c_169 ld1 ls1 hz ha2 (by omega) ?_
            rw [my_kI_v]
            unfold ys_42_146 ys_42_147
            cases hb : isO z.2 a2 with
            | false => rw [hb] at hQ; rw [if_pos (show bI false = 0 from rfl)]; exact ⟨Or.inl rfl, hQ⟩
            | true => rw [hb] at hQ; rw [if_neg (by decide)]; exact ⟨Or.inr rfl, hQ⟩
          · have c4 : ¬ g1 (eC y.2) 0 = 1 := fun hh => c4 (g1_1.mpr hh)
            rw [decide_eq_false c4, Bool.false_and] at hQ
            unfold ys_42_146 ys_42_147
            exact ⟨Or.inl rfl, hQ⟩
        · rw [if_neg c3] at ht hQ
          rw [ht, if_pos rfl]
          exact ys_42_151_ok (c_42l ld1 ls1 hym o1 ha2 (by omega) _ 0 (Nat.zero_add _) hQ)
    by_cases c3 : v = 3
    · rw [if_pos c3] at ht
      rw [ht, if_neg (by decide)]
      rw [ht] at go
      exact go 2 (by rw [if_pos c3])
    · rw [if_neg c3] at ht
      rw [ht, if_pos rfl]
      rw [ht] at go
      exact go v (by rw [if_neg c3])
  unfold ys_42_22
  by_cases c3 : v = 3
  · rw [if_pos c3, if_neg (by decide)]
    refine my_if (fun cm => ?_) (fun cm => ?_)
    · have hto : toA E As (eC y.2) v w = some (decide (g1 (eC y.2) 0 = 1) && decide (g2 (eC y.2) 1 = g2 (eC y.2) 8)) := by unfold toA; rw [if_pos ⟨c3, cm⟩]
      refine ⟨92, rfl, in9, ?_⟩
      rw [o1.1.1]
      refine my_if (fun c4 => ⟨92, rfl, in9, 92, rfl, in9, ?_⟩) (fun c4 => ?_)
      · rw [o1.1.2.1, o1.1.2.2.2.2.2]
        rw [decide_eq_true (g1_1.mp c4), Bool.true_and] at hto
        refine my_if (fun c5 => ?_) (fun c5 => ?_)
        · rw [decide_eq_true ((oN_e (by omega) (by omega)).mp c5)] at hto
          exact i61 true hto
        · rw [decide_eq_false (fun hh => c5 (by rw [hh]))] at hto
          unfold ys_42_60
          exact i61 false hto
      · rw [decide_eq_false (fun hh => c4 (g1_1.mpr hh)), Bool.false_and] at hto
        unfold ys_42_60
        exact i61 false hto
    · exact fall (fun hh => cm hh.2) 1 (by rw [if_pos c3])
  · rw [if_neg c3, if_pos rfl]
    exact fall (fun hh => c3 hh.1) 0 (by rw [if_neg c3])
theorem r_344l {k : Nat} {a : Ri} (h : LD As I cu σ) (hW : LgW E) (hR : LgR E T σ) (hP : PrR E σ) (hy : y ∈ rcp E) (ha : As[k]? = some a) (hd : 5 ≤ d) : ∀ (m i : Nat) (b : Bool), i + m = g1 (eC y.2) 10 → Q (.inl (some (.inl (bI (b || aO E (eC y.2) a m i))))) κ σ → ys_344_182 e d (Int32.ofNat y.1) (Int32.ofNat k) (bI b) (Int32.ofNat i) κ σ Q := by
  obtain ⟨r1, r2, r3, r4, r5, r6⟩ := rec_w hW hy
  intro m
  induction m with
  | zero =>
    intro i b hi hq
    unfold ys_344_182
    refine r_293 hW hR r1 (by omega) (by omega) ?_
    rw [my_kI_v, if_neg (by rw [oN_lt (by omega) (by omega)]; omega)]
    rw [aO, Bool.or_false] at hq
    exact ⟨bI01 b, hq⟩
  | succ m ih =>
    intro i b hi hq
    have hi' : i < g1 (eC y.2) 10 := by omega
    obtain ⟨z, hz, hz2⟩ := itp_e (r6 i hi')
    rw [aO, hz2] at hq
    unfold ys_344_182
    refine r_293 hW hR r1 (by omega) (by omega) ?_
    rw [my_kI_v, if_pos ((oN_lt (by omega) (by omega)).mpr hi')]
    cases b with
    | false =>
      rw [Bool.false_or] at hq
      rw [if_pos (show bI false = 0 from rfl)]
      refine r_294 hW hR r1 (by omega) (by omega) ?_
      rw [my_kI_v]
      refine r_345y h hW hR hP hz ha (by omega) ?_
      rw [my_kI_v]
      cases hb : isO z.2 a with
      | false =>
        rw [hb] at hq
        rw [if_pos (show bI false = 0 from rfl)]
        unfold ys_344_220
        rw [oN_s]
        exact ys_344_182_ok (ih (i + 1) false (by omega) hq)
      | true =>
        rw [hb] at hq
        rw [if_neg (by decide)]
        unfold ys_344_215 ys_344_220
        rw [oN_s]
        exact ys_344_182_ok (ih (i + 1) true (by omega) hq)
    | true =>
      rw [Bool.true_or] at hq
      rw [if_neg (by decide)]
      unfold ys_344_215 ys_344_220
      rw [oN_s]
      exact ys_344_182_ok (ih (i + 1) true (by omega) (by rw [Bool.true_or]; exact hq))
theorem r_313y {K : Nat} (h : LD As I cu σ) (hK : K ≤ 2) (hd : 1 ≤ d) (hQ : Q (.inl (some (.inl (Int32.ofNat (cnK As K))))) κ σ) : my_M e d 313 [.inr (.inr (some 498)), .inl (Int32.ofNat K)] κ σ Q := by
  obtain ⟨d, rfl⟩ := dS 1 hd
  obtain ⟨_, _, _, n1, n2, n3, n4⟩ := h.2.2.2.2.2.2.2
  refine ys_313 ?_
  unfold ys_313_0 ys_313_39
  have hc : K = 0 ∨ K = 1 ∨ K = 2 := by omega
  rcases hc with rfl | rfl | rfl
  · rw [if_pos (show Int32.ofNat 0 = 0 from rfl), n1]; exact hQ
  · rw [if_neg (show ¬ Int32.ofNat 1 = 0 by decide), if_pos (show Int32.ofNat 1 = 1 from rfl), n2]; exact hQ
  · rw [if_neg (show ¬ Int32.ofNat 2 = 0 by decide), if_neg (show ¬ Int32.ofNat 2 = 1 by decide), if_pos (show Int32.ofNat 2 = 2 from rfl), n3]; exact hQ
end MLU
