
/-! ===== why a test would run: the reference's ===== -/
def aH (E : List Et) (As : List Ri) (I : List It) (C : List Int32) : Nat → Nat → Bool
  | 0, _ => true
  | m + 1, i => entH As I (eAt E (g2 C (11 + 2 * i))) && aH E As I C m (i + 1)
/-- the record holds -/
def hD (E : List Et) (As : List Ri) (I : List It) (o : Option (Nat × Et)) : Bool := match o with
  | none => false
  | some y => entH As I (eAt E (g2 (eC y.2) 8)) && aH E As I (eC y.2) (g1 (eC y.2) 10) 0
theorem aH_f {E : List Et} {As : List Ri} {I : List It} {C : List Int32} : ∀ {m i : Nat}, i + m ≤ 1000 → (aH E As I C m i = true ↔ fF E As I C m i = 0)
  | 0, i, _ => by simp [aH, fF]
  | m + 1, i, h => by
    rw [aH, fF]
    by_cases c : entH As I (eAt E (g2 C (11 + 2 * i))) = true
    · rw [if_pos c, c, Bool.true_and]; exact aH_f (by omega)
    · rw [if_neg c]
      have c2 : entH As I (eAt E (g2 C (11 + 2 * i))) = false := by simpa using c
      rw [c2, Bool.false_and]
      constructor
      · intro hh; cases hh
      · intro hh
        have := (oN_e (b := 0) (by omega) (by omega)).mp hh
        omega
section MRF
variable {As : List Ri} {I : List It} {rv A : Nat} {e : my_E} {d : Nat} {κ : my_K} {σ σ' : my_S} {Q : my_O → my_K → my_S → Prop} {E : List Et} {T : List Int32} {y : Nat × Et}
/-- a test's own entry holds where its bytes are the same -/
theorem own_h {k : Nat} {a : Ri} {z : Nat × Et} (hU : nmU As) (ha : As[k]? = some a) (hn : eN z.2 = riN a) : entH As I z.2 = decide (eC z.2 = ib I (rwA (As.take k)).length a) := by
  unfold entH
  rw [hn, (hU k a ha).1]
  dsimp only
  rw [ha]
theorem rsn_h {k : Nat} {a : Ri} (hU : nmU As) (hW : LgW E) (hT : LgT E) (ha : As[k]? = some a) : hD E As I (lrc (rcp E) (riN a) (rcp E).length) = true ↔ rsn E As I k a = 0 := by
  unfold hD rsn
  cases hn : lrc (rcp E) (riN a) (rcp E).length with
  | none =>
    dsimp only
    constructor
    · intro hh; cases hh
    · intro hh; exact absurd hh (by decide)
  | some y =>
    dsimp only
    obtain ⟨hym, hyn⟩ := lrc_m hn
    obtain ⟨r1, r2, r3, r4, r5, r6⟩ := rec_w hW hym
    obtain ⟨z, hz, hzn⟩ := hT y hym
    have hz2 : eAt E (g2 (eC y.2) 8) = z.2 := by unfold eAt; rw [hz]
    rw [hz2, own_h hU ha (hzn.trans hyn)]
    by_cases c : eC z.2 = ib I (rwA (As.take k)).length a
    · rw [if_pos c, decide_eq_true c, Bool.true_and]
      exact aH_f (by omega)
    · rw [if_neg c, decide_eq_false c, Bool.false_and]
      constructor
      · intro hh; cases hh
      · intro hh; exact absurd hh (by decide)
theorem r_288l (h : LD As I rv σ) (hW : LgW E) (hR : LgR E T σ) (hP : PrR E σ) (hy : y ∈ rcp E) (hd : 5 ≤ d) : ∀ (m i : Nat) (b : Bool), i + m = g1 (eC y.2) 10 → Q (.inl (some (.inl (bI (b && aH E As I (eC y.2) m i))))) κ σ → ys_288_25 e d (Int32.ofNat y.1) (bI b) (Int32.ofNat i) κ σ Q := by
  obtain ⟨r1, r2, r3, r4, r5, r6⟩ := rec_w hW hy
  intro m
  induction m with
  | zero =>
    intro i b hi hq
    rw [aH, Bool.and_true] at hq
    unfold ys_288_25 ys_288_55
    cases b with
    | false => rw [if_pos (show bI false = 0 from rfl)]; exact ⟨Or.inl rfl, hq⟩
    | true =>
      rw [if_neg (by decide)]
      refine r_293 hW hR r1 (by omega) (by omega) ?_
      rw [my_kI_v, if_neg (by rw [oN_lt (by omega) (by omega)]; omega)]
      exact ⟨Or.inr rfl, hq⟩
  | succ m ih =>
    intro i b hi hq
    unfold ys_288_25 ys_288_55
    cases b with
    | false => rw [if_pos (show bI false = 0 from rfl)]; rw [Bool.false_and] at hq; exact ⟨Or.inl rfl, hq⟩
    | true =>
      have hi' : i < g1 (eC y.2) 10 := by omega
      obtain ⟨z, hz, hz2⟩ := itp_e (r6 i hi')
      rw [if_neg (by decide)]
      refine r_293 hW hR r1 (by omega) (by omega) ?_
      rw [my_kI_v, if_pos ((oN_lt (by omega) (by omega)).mpr hi')]
      refine r_294 hW hR r1 (by omega) (by omega) ?_
      rw [my_kI_v]
      refine r_290 h hW hR hP hz (by omega) ?_
      rw [my_kI_v, oN_s]
      refine ys_288_25_ok (ih (i + 1) _ (by omega) ?_)
      rw [aH, hz2, Bool.true_and] at hq
      exact hq
theorem r_288 {o : Option (Nat × Et)} (h : LD As I rv σ) (hW : LgW E) (hR : LgR E T σ) (hP : PrR E σ) (ho : ∀ y, o = some y → y ∈ rcp E) (hd : 6 ≤ d) (hQ : Q (.inl (some (.inl (bI (hD E As I o))))) κ σ) : my_M e d 288 [.inr (.inr (some 498)), .inl (fP o)] κ σ Q := by
  obtain ⟨d, rfl⟩ := dS 1 (show 1 ≤ d by omega)
  refine ys_288 ?_
  unfold ys_288_0
  cases ho' : o with
  | none =>
    rw [ho'] at hQ
    rw [if_pos (show fP none < 0 by decide)]
    exact hQ
  | some y =>
    rw [ho'] at hQ
    have hy := ho y ho'
    obtain ⟨r1, r2, r3, r4, r5, r6⟩ := rec_w hW hy
    have hp := (pse_b r1).2
    have hw := hW.2
    obtain ⟨z, hz, hz2⟩ := itp_e r4
    show if Int32.ofNat y.1 < 0 then _ else _
    rw [if_neg (oN_0 (by omega))]
    refine r_289 hW hR r1 (by omega) ?_
    rw [my_kI_v]
    refine r_285y hW hR r1 (show 8 + 1 < _ by omega) (oN_a _ 8) (by omega) ?_
    rw [my_kI_v]
    refine r_290 h hW hR hP hz (by omega) ?_
    rw [my_kI_v]
    refine ys_288_25_ok (r_288l h hW hR hP hy (by omega) (g1 (eC y.2) 10) 0 _ (Nat.zero_add _) ?_)
    unfold hD at hQ
    dsimp only at hQ
    rw [hz2] at hQ
    exact hQ
theorem r_353l (h : LD As I rv σ) (hW : LgW E) (hR : LgR E T σ) (hP : PrR E σ) (hy : y ∈ rcp E) (hd : 5 ≤ d) (hQ : Q (.inl (some (.inl (fF E As I (eC y.2) (g1 (eC y.2) 10) 0)))) κ σ) : ∀ (m i : Nat), i + m = g1 (eC y.2) 10 → fF E As I (eC y.2) m i = fF E As I (eC y.2) (g1 (eC y.2) 10) 0 → ys_353_52 e d (Int32.ofNat y.1) (Int32.ofNat i) κ σ Q := by
  obtain ⟨r1, r2, r3, r4, r5, r6⟩ := rec_w hW hy
  intro m
  induction m with
  | zero =>
    intro i hi hq
    unfold ys_353_52
    refine r_293 hW hR r1 (by omega) (by omega) ?_
    rw [my_kI_v, if_neg (by rw [oN_lt (by omega) (by omega)]; omega)]
    rw [← hq] at hQ
    exact hQ
  | succ m ih =>
    intro i hi hq
    have hi' : i < g1 (eC y.2) 10 := by omega
    obtain ⟨z, hz, hz2⟩ := itp_e (r6 i hi')
    rw [fF, hz2] at hq
    unfold ys_353_52
    refine r_293 hW hR r1 (by omega) (by omega) ?_
    rw [my_kI_v, if_pos ((oN_lt (by omega) (by omega)).mpr hi')]
    refine r_294 hW hR r1 (by omega) (by omega) ?_
    rw [my_kI_v]
    refine r_290 h hW hR hP hz (by omega) ?_
    rw [my_kI_v]
    by_cases c : entH As I z.2 = true
    · rw [if_pos c] at hq
      rw [c, if_neg (by decide), oN_s]
      exact ys_353_52_ok (ih (i + 1) (by omega) hq)
    · rw [if_neg c] at hq
      have c2 : entH As I z.2 = false := by simpa using c
      rw [c2, if_pos (by decide), show (3 : Int32) = Int32.ofNat 3 from rfl, oN_a, hq]
      exact hQ
theorem r_353 {k : Nat} {a : Ri} {v : Int32} (h : LD As I rv σ) (hW : LgW E) (hT : LgT E) (hR : LgR E T σ) (hP : PrR E σ) (hf : fkA As 3 v As.length 0 = some k) (ha : As[k]? = some a) (hd : 6 ≤ d) (hQ : Q (.inl (some (.inl (rsn E As I k a)))) κ σ) : my_M e d 353 [.inr (.inr (some 498)), .inl (fP (lrc (rcp E) (riN a) (rcp E).length)), .inl v] κ σ Q := by
  obtain ⟨d, rfl⟩ := dS 1 (show 1 ≤ d by omega)
  refine ys_353 ?_
  unfold ys_353_0
  unfold rsn at hQ
  cases hn : lrc (rcp E) (riN a) (rcp E).length with
  | none =>
    rw [hn] at hQ
    rw [if_pos (show fP none < 0 by decide)]
    unfold ys_353_20 ys_353_39
    rw [if_pos (show fP none < 0 by decide), if_pos (show fP none < 0 by decide)]
    exact hQ
  | some y =>
    rw [hn] at hQ
    dsimp only at hQ
    obtain ⟨hym, hyn⟩ := lrc_m hn
    obtain ⟨r1, r2, r3, r4, r5, r6⟩ := rec_w hW hym
    obtain ⟨z, hz, hzn⟩ := hT y hym
    have hz2 : eAt E (g2 (eC y.2) 8) = z.2 := by unfold eAt; rw [hz]
    rw [hz2] at hQ
    have hp := (pse_b r1).2
    have hw := hW.2
    have hneg : ¬ Int32.ofNat y.1 < 0 := oN_0 (by omega)
    show if Int32.ofNat y.1 < 0 then _ else my_M e d 289 [.inr (.inr (some 498)), .inl (Int32.ofNat y.1)] κ σ _
    rw [if_neg hneg]
    refine r_289 hW hR r1 (by omega) ?_
    rw [my_kI_v]
    refine r_285y hW hR r1 (show 8 + 1 < _ by omega) (oN_a _ 8) (by omega) ?_
    rw [my_kI_v]
    unfold ys_353_20
    show if Int32.ofNat y.1 < 0 then _ else _
    rw [if_neg hneg, show (3 : Int32) = Int32.ofNat 3 from rfl]
    refine r_281 h.1 (fun k a ha => (h.2.2.2.2.2.2.2.2.1 k a ha).1) h.2.2.2.2.2.2.2.2.2.1 (by omega) (by omega) ?_
    rw [my_kI_v, show Int32.ofNat 3 = 3 from rfl, hf]
    show my_M e d 292 [.inr (.inr (some 498)), .inl (Int32.ofNat (g2 (eC y.2) 8)), .inl (Int32.ofNat k)] κ σ _
    refine r_292 h hW hR hP hz ha (by omega) ?_
    rw [my_kI_v, decide_eq_true (hzn.trans hyn), Bool.true_and]
    by_cases c : eC z.2 = ib I (rwA (As.take k)).length a
    · rw [if_pos c] at hQ
      rw [decide_eq_true c, if_neg (by decide)]
      exact ys_353_52_ok (r_353l h hW hR hP hym (by omega) hQ _ 0 (Nat.zero_add _) rfl)
    · rw [if_neg c] at hQ
      rw [decide_eq_false c, if_pos (by decide)]
      unfold ys_353_39
      show if Int32.ofNat y.1 < 0 then _ else _
      rw [if_neg hneg]
      exact hQ
/-- the record of a test -/
theorem r_341 {k : Nat} {a : Ri} {v : Int32} (h : LD As I rv σ) (hS : LVs A E σ) (hf : fkA As 3 v As.length 0 = some k) (ha : As[k]? = some a) (hd : 5 ≤ d) (hQ : ∀ σ', PrR E σ' → LD As I rv σ' → LVs A E σ' → eqp plF σ σ' → Q (.inl (some (.inl (fP (lrc (rcp E) (riN a) (rcp E).length))))) κ σ') : my_M e d 341 [.inr (.inr (some 498)), .inl v] κ σ Q := by
  obtain ⟨d, rfl⟩ := dS 1 (show 1 ≤ d by omega)
  have h42 := itsB_42 h.1
  have hrv := h.2.2.1
  have hA := hS.1
  have hkA := (List.getElem?_eq_some_iff.mp ha).1
  refine ys_341 ?_
  unfold ys_341_0
  refine r_284 hS.2.1 hS.2.2.2.2.1 (by have := hS.2.1.2; simpa using this) (Or.inl (by simp)) (by omega) (fun σ1 p1 _ f1 => ?_)
  have ld1 : LD As I rv σ1 := LD_o (LD_30 h) h f1 (fun c q hh => by unfold plF at hh; unfold coF; omega)
  have ls1 : LVs A E σ1 := LVs_o hS f1 (fun c q hh => by unfold plF at hh; unfold lsN; unfold lg2 at hA; omega)
  rw [my_k0_v, show (3 : Int32) = Int32.ofNat 3 from rfl]
  refine r_281 h.1 (fun k a ha => (ld1.2.2.2.2.2.2.2.2.1 k a ha).1) ld1.2.2.2.2.2.2.2.2.2.1 (by omega) (by omega) ?_
  rw [my_kI_v, show Int32.ofNat 3 = 3 from rfl, hf]
  show my_bd (Int32.ofNat k) 48 ∧ my_M e d 286 [.inr (.inr (some 498)), .inr (.inl (σ1.2.1 530 (Int32.ofNat k).toNatClampNeg))] κ σ1 _
  rw [oN_n (by omega), (ld1.2.2.2.2.2.2.2.2.1 k a ha).2.1]
  refine ⟨bdk (by omega) (by omega), r_286 hS.2.1 ls1.2.2.2.2.1 p1 (h.1.2 a (List.mem_of_getElem? ha)).2.1 (by omega) ?_⟩
  rw [my_kI_v]
  exact hQ σ1 p1 ld1 ls1 f1
end MRF
