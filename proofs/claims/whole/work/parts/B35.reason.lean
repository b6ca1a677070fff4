
/-! ===== why a test would run: both sides ===== -/
def LgT (E : List Et) : Prop := ∀ y ∈ rcp E, ∃ z, (itp E)[g2 (eC y.2) 8]? = some z ∧ eN z.2 = eN y.2
def eAt (E : List Et) (j : Nat) : Et := match (itp E)[j]? with
  | none => (1, [], [])
  | some z => z.2
/-- the first of the touched that does not hold -/
def fF (E : List Et) (As : List Ri) (I : List It) (C : List Int32) : Nat → Nat → Int32
  | 0, _ => 0
  | m + 1, i => if entH As I (eAt E (g2 C (11 + 2 * i))) = true then fF E As I C m (i + 1) else Int32.ofNat (3 + i)
def rsn (E : List Et) (As : List Ri) (I : List It) (k : Nat) (a : Ri) : Int32 := match lrc (rcp E) (riN a) (rcp E).length with
  | none => 1
  | some y => if eC (eAt E (g2 (eC y.2) 8)) = ib I (rwA (As.take k)).length a then fF E As I (eC y.2) (g1 (eC y.2) 10) 0 else 2
/-- the live log on both sides -/
def LVs (A : Nat) (E : List Et) (σ : my_S) : Prop := lg2 A ∧ LgW E ∧ LgT E ∧ LgC A E σ ∧ LgR E [] σ ∧ (σ.1 89 3 = if A = 101 then 1 else 0) ∧ σ.2.2 91 0 = some 94 ∧ σ.2.2 91 1 = some 101
def lsN (A : Nat) (c k : Nat) : Prop := (A + 1 ≤ c ∧ c ≤ A + 6) ∨ (c = A ∧ (k = 1 ∨ k = 6 ∨ k = 9)) ∨ c = 547 ∨ (c = 498 ∧ k = 86) ∨ (c = 89 ∧ k = 3) ∨ c = 91
section MRE
variable {As : List Ri} {I : List It} {rv A : Nat} {e : my_E} {d : Nat} {κ : my_K} {σ σ' : my_S} {Q : my_O → my_K → my_S → Prop} {E : List Et} {T : List Int32} {y : Nat × Et}
theorem LVs_o {F : Nat → Nat → Prop} (h : LVs A E σ) (f : eqp F σ σ') (hF : ∀ c k, F c k → ¬ lsN A c k) : LVs A E σ' := by
  have g : ∀ c k, F c k → ¬ ((A + 1 ≤ c ∧ c ≤ A + 6) ∨ (c = A ∧ (k = 1 ∨ k = 6 ∨ k = 9)) ∨ c = 547 ∨ (c = 498 ∧ k = 86) ∨ (c = 89 ∧ k = 3) ∨ c = 91) := fun c k hh => hF c k hh
  obtain ⟨h1, h2, h3, h4, h5, h6, h7, h8⟩ := h
  exact ⟨h1, h2, h3, LgC_o h4 f (fun c k hh => by have := g c k hh; omega), LgR_o h5 f (fun c k hh => by have := g c k hh; omega), (eqp_g f (fun hh => by have := g _ _ hh; omega)).trans h6, ((f _ _ (fun hh => by have := g _ _ hh; omega)).2.2).trans h7, ((f _ _ (fun hh => by have := g _ _ hh; omega)).2.2).trans h8⟩
theorem itp_e {j : Nat} (h : j < nit E) : ∃ z, (itp E)[j]? = some z ∧ eAt E j = z.2 := by
  rw [← itp_l] at h
  refine ⟨_, List.getElem?_eq_getElem h, ?_⟩
  unfold eAt
  rw [List.getElem?_eq_getElem h]
/-- of a record: how long, what it points at -/
theorem rec_w (hW : LgW E) (hy : y ∈ rcp E) : y ∈ pse E 0 ∧ (eC y.2).length = 11 + 2 * g1 (eC y.2) 10 ∧ g1 (eC y.2) 10 ≤ 30 ∧ g2 (eC y.2) 8 < nit E ∧ (g1 (eC y.2) 0 = 1 → g2 (eC y.2) 1 < nit E) ∧ ∀ j, j < g1 (eC y.2) 10 → g2 (eC y.2) (11 + 2 * j) < nit E := by
  have hym := rcp_m hy
  have hwf := wfl_p hW.1 hym.1
  rcases hwf.2.2.2 with hh | hh
  · exact absurd hh.1 hym.2
  · exact ⟨hym.1, hh.2⟩
theorem c_155 (h : LVs A E σ) (hd : 1 ≤ d) (hQ : Q (.inl (some (.inr (.inr (some A))))) κ σ) : my_M e d 155 [.inr (.inr (some 89))] κ σ Q := by
  obtain ⟨d, rfl⟩ := dS 1 hd
  obtain ⟨h1, h2, h3, h4, h5, h6, h7, h8⟩ := h
  refine ys_155 ?_
  unfold ys_155_0 ys_155_17
  rw [h6]
  rcases h1 with rfl | rfl
  · rw [if_neg (by decide)]
    exact ⟨bdk (k := 0) (by omega) (by omega), by rw [show (0 : Int32).toNatClampNeg = 0 from rfl, h7]; exact hQ⟩
  · rw [if_pos rfl, if_pos rfl]
    exact ⟨bdk (k := 1) (by omega) (by omega), by rw [show (1 : Int32).toNatClampNeg = 1 from rfl, h8]; exact hQ⟩
theorem c_173 {j k : Nat} {a : Ri} (h : LD As I rv σ) (hA : lg2 A) (hW : LgW E) (hC : LgC A E σ) (hj : (itp E)[j]? = some y) (ha : As[k]? = some a) (hd : 3 ≤ d) (hQ : Q (.inl (some (.inl (bI (decide (eC y.2 = ib I (rwA (As.take k)).length a)))))) κ σ) : my_M e d 173 [.inr (.inr (some A)), .inr (.inr (some rv)), .inr (.inr (some (rv + 4 + 3 * k))), .inl (Int32.ofNat j)] κ σ Q := by
  obtain ⟨d, rfl⟩ := dS 2 (show 2 ≤ d by omega)
  obtain ⟨h1, h2, h3, h4, h5, h6, h7, h8⟩ := h
  have h42 := itsB_42 h1
  have hkA := (List.getElem?_eq_some_iff.mp ha).1
  have hy := (itp_m (List.mem_of_getElem? hj)).1
  have hp := (pse_b hy).2
  have hw := hW.2
  have hin := in11 (rv := rv) (k := k) h3 (by omega)
  obtain ⟨_, i10, i11, _⟩ := h7.2.2.2.2 k a ha
  have hil := ib_l (I := I) ha
  have h61 := h7.2.2.2.1
  have vX : ∀ i x, (ib I (rwA (As.take k)).length a)[i]? = some x → σ.1 (rv + 1) ((ibA I 0 (As.take k)).length + i) = x := fun i x hx => h7.2.2.1.2 _ _ (ib_q ha hx)
  have vY : ∀ i x, (eC y.2)[i]? = some x → σ.1 (A + 1) (y.1 + 1 + (eN y.2).length + i) = x := fun i x hx => by
    have := (pse_b hy).1 (1 + (eN y.2).length + i) x (by rw [List.getElem?_append_right (by rw [nmE_l]; omega), nmE_l, show 1 + (eN y.2).length + i - (1 + (eN y.2).length) = i by omega]; exact hx)
    rw [show y.1 + 1 + (eN y.2).length + i = y.1 + (1 + (eN y.2).length + i) by omega]
    exact hC.2.1 _ x this
  refine ys_173 (in8 hA) ?_
  unfold ys_173_0
  refine c_174 hA hW hC hj (by omega) ?_
  rw [my_kI_v]
  refine c_175 hA hW hC hj (by omega) ?_
  rw [my_kI_v]
  refine ⟨rv, rfl, in10 h3, ys_201 (in10 h3) ?_⟩
  unfold ys_201_0
  refine ⟨_, rfl, hin, ?_⟩
  have fin : ∀ b : Bool, b = decide (eC y.2 = ib I (rwA (As.take k)).length a) → ys_201_32 e d (bI b) κ σ (my_kI (fun x10 κ11 σ12 => (x10 = 0 ∨ x10 = 1) ∧ Q (.inl (some (.inl x10))) κ11 σ12) (fun y13 κ14 σ15 => Q (.inr y13) κ14 σ15)) := fun b hb => by
    have h01 : bI b = 0 ∨ bI b = 1 := by cases b; exact Or.inl rfl; exact Or.inr rfl
    unfold ys_201_32
    refine ⟨h01, ?_⟩
    rw [my_kI_v, hb]
    exact ⟨by rw [← hb]; exact h01, hQ⟩
  rw [i11]
  refine my_if (fun c => ?_) (fun c => ?_)
  · have c := (oN_e (by omega) (by omega)).mp c
    refine ⟨_, rfl, hin, ?_⟩
    rw [i10, ← c]
    refine c13_rl h3 hA c.symm (by omega) (by omega) vX vY (by omega) ?_
    rw [my_kI_v]
    by_cases cc : ib I (rwA (As.take k)).length a = eC y.2
    · rw [decide_eq_true cc, if_neg (by decide)]
      exact fin true (by rw [decide_eq_true cc.symm])
    · rw [decide_eq_false cc, if_pos (by decide)]
      unfold ys_201_31
      exact fin false (by rw [decide_eq_false (fun hh => cc hh.symm)])
  · unfold ys_201_31
    exact fin false (by rw [decide_eq_false (fun hh => c (by rw [hh]))])
theorem c_154l (h : LD As I rv σ) (hS : LVs A E σ) (hy : y ∈ rcp E) (hd : 4 ≤ d) (hO : OcC (eC y.2) σ) (hQ : Q (.inl (some (.inl (fF E As I (eC y.2) (g1 (eC y.2) 10) 0)))) κ σ) : ∀ (m i : Nat), i + m = g1 (eC y.2) 10 → fF E As I (eC y.2) m i = fF E As I (eC y.2) (g1 (eC y.2) 10) 0 → ys_154_43 e d (some rv) (some A) (Int32.ofNat i) κ σ Q := by
  obtain ⟨r1, r2, r3, r4, r5, r6⟩ := rec_w hS.2.1 hy
  have h42 := itsB_42 h.1
  intro m
  induction m with
  | zero =>
    intro i hi hq
    unfold ys_154_43
    rw [hO.2.1, if_neg (by rw [oN_lt (by omega) (by omega)]; omega)]
    rw [← hq] at hQ
    exact hQ
  | succ m ih =>
    intro i hi hq
    have hi' : i < g1 (eC y.2) 10 := by omega
    obtain ⟨z, hz, hz2⟩ := itp_e (r6 i hi')
    have hzy := (itp_m (List.mem_of_getElem? hz)).1
    have hzn := (wfl_p hS.2.1.1 hzy).1
    unfold ys_154_43
    rw [hO.2.1, if_pos ((oN_lt (by omega) (by omega)).mpr hi')]
    refine c_190 hO r3 hi' (by omega) ?_
    rw [my_kI_v]
    refine ⟨A, rfl, in8 hS.1, c_176 hS.1 hS.2.1 hS.2.2.2.1 hz (by omega) ?_⟩
    rw [my_kL_v]
    refine ⟨rv, rfl, in10 h.2.2.1, z_195 hzn h.2.2.1 h.2.2.2.2.2.2.1.1 (by omega) ?_⟩
    rw [my_kA_v, iRel_k h.2.1]
    have hfs : fF E As I (eC y.2) (m + 1) i = if entH As I z.2 = true then fF E As I (eC y.2) m (i + 1) else Int32.ofNat (3 + i) := by rw [fF, hz2]
    rw [hfs] at hq
    have bad : entH As I z.2 = false → ys_154_95 e d (Int32.ofNat i) κ σ Q := fun hb => by
      rw [hb, if_neg (by decide)] at hq
      unfold ys_154_95
      rw [show (3 : Int32) = Int32.ofNat 3 from rfl, oN_a, hq]
      exact hQ
    cases hk : kwi (rno As) (eN z.2) 0 with
    | none =>
      show if (none : Option Nat) = none then _ else _
      rw [if_pos rfl]
      exact bad (by unfold entH; rw [hk])
    | some k =>
      have hlt := (kwi_lt hk).2
      have hrl : (rno As).length = As.length := by unfold rno; rw [List.length_map]
      have hlt2 : k < As.length := by omega
      have ha := List.getElem?_eq_getElem hlt2
      generalize As[k] = a at ha
      have hen : entH As I z.2 = decide (eC z.2 = ib I (rwA (As.take k)).length a) := by
        unfold entH
        rw [hk]
        dsimp only
        rw [ha]
      show if (some (rv + 4 + 3 * k)) = none then _ else _
      rw [if_neg (by simp)]
      refine ⟨A, rfl, in8 hS.1, c_173 h hS.1 hS.2.1 hS.2.2.2.1 hz ha (by omega) ?_⟩
      rw [my_kI_v, ← hen]
      by_cases c : entH As I z.2 = true
      · rw [c, if_neg (by decide), oN_s]
        rw [if_pos c] at hq
        exact ys_154_43_ok (ih (i + 1) (by omega) hq)
      · have c2 : entH As I z.2 = false := by simpa using c
        rw [c2, if_pos (by decide)]
        exact bad c2
theorem c_154 {k : Nat} {a : Ri} (h : LD As I rv σ) (hS : LVs A E σ) (ha : As[k]? = some a) (hd : 5 ≤ d) (hQ : ∀ σ', (∀ y, lrc (rcp E) (riN a) (rcp E).length = some y → OcC (eC y.2) σ') → LD As I rv σ' → LVs A E σ' → eqp oF σ σ' → Q (.inl (some (.inl (rsn E As I k a)))) κ σ') : my_M e d 154 [.inr (.inr (some 89)), .inr (.inr (some rv)), .inr (.inr (some (rv + 4 + 3 * k)))] κ σ Q := by
  obtain ⟨d, rfl⟩ := dS 1 (show 1 ≤ d by omega)
  have h42 := itsB_42 h.1
  have hkA := (List.getElem?_eq_some_iff.mp ha).1
  have hin := in11 (rv := rv) (k := k) h.2.2.1 (by omega)
  have hkI : k < I.length := by rw [h.2.1.1]; exact hkA
  obtain ⟨b', hb', hio⟩ := iRel_a2 h.2.1 hkI
  rw [ha] at hb'
  cases hb'
  obtain ⟨z1, z2, _⟩ := h.2.2.2.2.2.2.1.1.2.2.2 k _ (itA_e hkI)
  rw [hio.1] at z2
  have hrv := h.2.2.1
  have hA := hS.1
  refine ys_154 ?_
  unfold ys_154_0
  refine c_155 hS (by omega) ?_
  rw [my_kA_v]
  refine ⟨_, rfl, hin, A, rfl, in8 hA, ?_⟩
  rw [z2]
  refine c_172 hA hS.2.1 hS.2.2.2.1 (h.1.2 a (List.mem_of_getElem? ha)).2.1 (by omega) (fun hn => ?_) (fun y hn σ1 o1 f1 => ?_)
  · rw [my_kI_v, if_pos rfl]
    have er : rsn E As I k a = 1 := by unfold rsn; rw [hn]
    rw [er] at hQ
    exact hQ σ (fun y hy => by rw [hn] at hy; cases hy) h hS eqp_rf
  · have ld1 : LD As I rv σ1 := LD_o (LD_30 h) h f1 (fun c q hh => by unfold coF; omega)
    have ls1 : LVs A E σ1 := LVs_o hS f1 (fun c q hh => by unfold lsN; unfold lg2 at hA; omega)
    have hym := (lrc_m hn).1
    obtain ⟨r1, r2, r3, r4, r5, r6⟩ := rec_w hS.2.1 hym
    obtain ⟨z, hz, hz2⟩ := itp_e r4
    have hQ1 := hQ σ1 (fun y' hy' => by rw [hn] at hy'; cases hy'; exact o1) ld1 ls1 f1
    rw [my_kI_v, if_neg (by decide)]
    refine ⟨A, rfl, in8 hA, ?_⟩
    rw [o1.1.2.2.2.2.2]
    refine c_173 ld1 hA hS.2.1 ls1.2.2.2.1 hz ha (by omega) ?_
    rw [my_kI_v]
    unfold rsn at hQ1
    rw [hn] at hQ1
    dsimp only at hQ1
    rw [hz2] at hQ1
    by_cases c : eC z.2 = ib I (rwA (As.take k)).length a
    · rw [if_pos c] at hQ1
      rw [decide_eq_true c, if_neg (by decide)]
      exact ys_154_43_ok (c_154l ld1 ls1 hym (by omega) o1 hQ1 _ 0 (Nat.zero_add _) rfl)
    · rw [if_neg c] at hQ1
      rw [decide_eq_false c, if_pos (by decide)]
      exact hQ1
end MRE
