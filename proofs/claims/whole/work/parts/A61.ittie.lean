
/-! ===== an item, the class beside the reference ===== -/
section MIT
variable {t : Nat → Int32} {n : Nat} {As : List Ri} {I : List It}
theorem IC_r (hB : itsB As) (hrel : iRel As I) : IC I := fun k hk => by
  obtain ⟨a, ha, h1, h2, h3, h4, h5, h6⟩ := iRel_a2 hrel hk
  obtain ⟨w1, w2, w3, w4, w5, w6, w7, w8⟩ := hB.2 a (List.mem_of_getElem? ha)
  have hkd := kdf_lt w1
  refine ⟨fun hh => ?_, fun hh => ?_⟩
  · rw [h3] at hh
    have h0 := (oN_e (b := 0) (by omega) (by omega)).mp hh
    have hf : riF a = 0 := by unfold kdf at h0; split at h0 <;> omega
    rw [h4]
    exact w5 (Or.inr hf)
  · rw [h3] at hh
    have h0 := (oN_e (b := 2) (by omega) (by omega)).mp hh
    have hf : riF a = 2 ∨ riF a = 3 := by unfold kdf at h0; split at h0 <;> omega
    refine ⟨?_, fun h => ?_, (riQ a).length, w3, h5, fun j hj => ?_⟩
    · rw [h2]
      rcases hf with hf | hf
      · rw [hf]; exact Or.inl rfl
      · rw [hf]; exact Or.inr rfl
    · rw [h2] at h
      have := (oN_e (b := 2) (by omega) (by omega)).mp h
      rw [h4]
      exact w5 (Or.inl this)
    · rw [h6 j _ (List.getElem?_eq_getElem hj)]
      exact w7 _ (List.getElem_mem hj)
/-- where a step's bytes begin; what an item needs; its bytes -/
def jOf (i : Nat) (a : Ri) : Nat → Int32 := fun x => Int32.ofNat (lens ((riR a).take (x - i)))
def ndF (I : List It) (a : Ri) : List Nat := if riF a ≤ 1 then [] else ndl I (riR a) []
def ib (I : List It) (i : Nat) (a : Ri) : List Int32 :=
  if riF a = 0 then bts (Int32.ofNat (riF a)) 1 0 ++ (bts (riT a) 1 0 ++ bts (riV a) 4 0)
  else if riF a = 1 then bts (Int32.ofNat (riF a)) 1 0 ++ bts (riV a) 1 0
  else hdB a ++ (bts (Int32.ofNat (riL a).length) 1 0 ++ bts (Int32.ofNat (lens (riR a))) 2 0) ++ (eb I (jOf i a) (riR a) [] ++ (bts (Int32.ofNat (ndF I a).length) 1 0 ++ nmsB I (ndF I a)))
theorem wpt_1 : ∀ {T : List Int32} {S : St}, (wpt true T S).1 = S.1
  | [], _ => rfl
  | x :: T, S => by rw [wpt, wpt_1, wr_1]
theorem hSt_1 {fm ty : Int32} {T : List Int32} {S : St} : (hSt true fm T ty S).1 = S.1 := by
  unfold hSt
  rw [wr_1, wr_1, wpt_1, wr_1, wr_1]
  rfl
theorem p1_1 {k x : Int32} {S : St} : (p1 k x S).1 = S.1 := by
  unfold p1
  repeat' split
  all_goals rfl
theorem wlt_1 : ∀ {l : List Nat} {S : St}, (wlt true l S).1 = S.1
  | [], _ => rfl
  | x :: T, S => by rw [wlt, wlt_1, wr_1]
theorem wnN_1 : ∀ {N : List Nat} {S : St}, (wnN true I N S).1 = S.1
  | [], _ => rfl
  | x :: T, S => by
    rw [wnN, wnN_1]
    unfold wnA
    rw [wlt_1, wr_1, wr_1]
theorem tcS_1 {fm : Nat} {ty : Int32} {S : St} : (tcS true fm ty S).1 = S.1 := by
  unfold tcS
  repeat' split
  all_goals simp only [wr_1]
theorem tSt_1 {fm nl : Nat} {ty cF : Int32} {S : St} : (tSt true I fm ty cF nl S).1 = S.1 := by
  unfold tSt
  rw [wnN_1, wr_1]
  unfold tpS
  rw [if_pos rfl, p1_1, p1_1, p1_1, tcS_1]
theorem omin_x {a b : Option Nat} {x : Nat} (h : omin a b = some x) : a = some x ∨ b = some x := by
  cases a with
  | none => exact Or.inr h
  | some a =>
    cases b with
    | none => exact Or.inl h
    | some b =>
      have h : some (min a b) = some x := h
      have h := Option.some.inj h
      rcases Nat.le_total a b with hh | hh
      · rw [Nat.min_eq_left hh] at h; rw [h]; exact Or.inl rfl
      · rw [Nat.min_eq_right hh] at h; rw [h]; exact Or.inr rfl
theorem ptl_t {fm : Nat} {ty : Int32} {LT : Nat → Int32} {mf : Option Nat} (hty : fm = 2 → ty = 0 ∨ ty = 1) : (trs2 I ty (ptl fm ty) (LT, [], mf)).2.2 = mf := by
  unfold ptl
  by_cases h2 : fm = 2
  · rw [if_pos h2]
    rcases hty h2 with h0 | h0
    · rw [h0, if_pos rfl]
      simp [trs2, tr2, tr1, tpop, fl, omin_r]
    · rw [h0, if_neg (by decide)]
      simp [trs2, tr2, tr1, tpop, fl, omin_r]
  rw [if_neg h2]
  by_cases h3 : fm = 3
  · rw [if_pos h3]; simp [trs2, tr2]
  · rw [if_neg h3]; simp [trs2, tr2]
theorem phd_2 {Nf : List (List Nat)} {p : Nat} {L : List (List Nat)} {T : List Int32} {ty : Int32} {q : Nat} (ht : txt t n) (hp : p ≤ n) (hx : phd t n Nf 2 p = .inr (L, T, ty, q)) : p + 2 ≤ q := by
  unfold phd at hx
  have hB := ppl_B (Nf := Nf) (fm := 2) ht hp
  cases hy : ppl t n Nf 2 p with
  | inl q => rw [hy] at hx; cases hx
  | inr v =>
    obtain ⟨L1, T1, q1⟩ := v
    have hh := (hy ▸ hB).2 L1 T1 q1 rfl
    rw [hy] at hx
    dsimp only at hx
    rw [if_pos rfl] at hx
    by_cases h5 : tkk t n q1 = 58
    · rw [if_pos h5] at hx
      have b1 := nx_b (p := q1) ht (by omega)
      cases hty : tyq t n (nx t n q1) with
      | none => rw [hty] at hx; cases hx
      | some ty =>
        rw [hty] at hx
        have h3 := tyq_t hty
        have b2 := nx_b (p := nx t n q1) ht (by omega)
        cases hx
        omega
    · rw [if_neg h5] at hx; cases hx
theorem ml_nd0 {S : St} : ml S (nd0 S) := ml_e rfl
theorem ml_gSt {S : St} {fm : Int32} {a : Ri} : ml S (gSt true fm a S) := by
  unfold gSt
  exact ml_t (ml_t (ml_t ml_wf ml_wr) ml_wr) ml_wr
theorem ml_aSt {S : St} {fm : Int32} {a : Ri} : ml S (aSt true fm a S) := by
  unfold aSt
  exact ml_t ml_wr ml_wr
theorem ml_wpt : ∀ {T : List Int32} {S : St}, ml S (wpt true T S)
  | [], _ => ml_r
  | x :: T, S => ml_t ml_wr ml_wpt
theorem ml_hSt {fm ty : Int32} {T : List Int32} {S : St} : ml S (hSt true fm T ty S) := by
  unfold hSt
  exact ml_t (ml_t (ml_t (ml_t (ml_t ml_nd0 ml_wr) ml_wr) ml_wpt) ml_wr) ml_wr
theorem ml_wlt : ∀ {l : List Nat} {S : St}, ml S (wlt true l S)
  | [], _ => ml_r
  | x :: T, S => ml_t ml_wr ml_wlt
theorem ml_wnN : ∀ {N : List Nat} {S : St}, ml S (wnN true I N S)
  | [], _ => ml_r
  | x :: N, S => by
    rw [wnN]
    refine ml_t ?_ ml_wnN
    unfold wnA
    exact ml_t (ml_t ml_wr ml_wr) ml_wlt
theorem ml_tcS {fm : Nat} {ty : Int32} {S : St} : ml S (tcS true fm ty S) := by
  unfold tcS
  exact my_ite (P := ml S) (fun _ => ml_t (my_ite (P := ml S) (fun _ => ml_wr) (fun _ => ml_t ml_wr ml_wr)) ml_wr) (fun _ => my_ite (P := ml S) (fun _ => ml_wr) (fun _ => ml_wr))
theorem ml_tpS {nl : Nat} {cF : Int32} {S : St} : ml S (tpS true cF nl S) := by
  unfold tpS
  exact my_ite (P := ml S) (fun _ => ml_t (ml_t ml_p1 ml_p1) ml_p1) (fun _ => ml_r)
theorem ml_tSt {fm nl : Nat} {ty cF : Int32} {S : St} : ml S (tSt true I fm ty cF nl S) := by
  unfold tSt
  exact ml_t (ml_t (ml_t ml_tcS ml_tpS) ml_wr) ml_wnN
/-- an item, beside the reference -/
theorem itR_e {k i p q : Nat} {a : Ri} {S S' : St} {cF cl : Int32} {m m' : Option Nat} (ht : txt t n) (hB : itsB As) (hrel : iRel As I) (hka : As[k]? = some a) (hp : p ≤ n) (hi : i ≤ p + 10000) (hpit : pit t n (As.take k) i p = .inr (a, q)) (hR : itR t n As I k p a q S S' cF cl) (hm : tmR I a m m') (hS : S.1 = mfI m) (hok : okM m) (hS6 : S.2.2.1.length ≤ 6144) :
    S'.1 = mfI m' ∧ okM m' ∧ S'.2.2.1.length ≤ 6144 ∧ (∀ x, m' = some x → m = some x ∨ x ≤ 1500) ∧ (m' = none → m = none ∧ (S.2.2.1.length ≤ 4 * p → S' = (S.1, S.2.1, S.2.2.1 ++ ib I i a, ndF I a) ∧ S'.2.2.1.length ≤ 4 * q ∧ (2 ≤ riF a → NFr I (riR a) ∧ cF = Int32.ofNat (S.2.2.1.length + (hdB a).length + 3) ∧ cl = Int32.ofNat (lens (riR a))))) := by
  have hn := ht.1
  have hIC := IC_r hB hrel
  obtain ⟨w1, w2, w3, w4, w5, w6, w7, w8, w9, w10, w11, w12⟩ := hB.2 a (List.mem_of_getElem? hka)
  have pB := (pit_B (As := As.take k) (i := i) ht hp).2 a q hpit
  have hp3 := pB.1
  have hqn := pB.2.1
  unfold itR at hR
  unfold tmR at hm
  by_cases h0 : riF a = 0
  · rw [if_pos h0] at hR hm
    have hfl : fl (riC a) (riT a) (riP a) = if riC a = riT a then none else some (riP a) := by
      unfold fl
      rw [if_neg (by rcases w8 h0 with h | h <;> rw [h] <;> decide), if_neg (by rcases w5 (Or.inr h0) with h | h <;> rw [h] <;> decide)]
    have hm2 : m' = omin m (fl (riC a) (riT a) (riP a)) := by
      rw [hm, hfl]
      split
      · rw [omin_r]
      · rfl
    have hce := CE_wf (S := nd0 S) (a := riC a) (b := riT a) (pl := riP a) (by omega)
    have h1 : S'.1 = mfI m' := by
      rw [hR, hm2]
      unfold gSt
      rw [wr_1, wr_1, wr_1]
      exact hce.1 m hok hS
    refine ⟨h1, ?_, ?_, ?_, fun hn0 => ?_⟩
    · rw [hm2]; exact okM_m hok hce.2.2.2
    · have hh : ml S (gSt true (Int32.ofNat (riF a)) a (nd0 S)) := ml_t (ml_nd0 (S := S)) ml_gSt
      rw [hR]
      exact hh.2 hS6
    · intro x hx
      rw [hm2] at hx
      rcases omin_x hx with h | h
      · exact Or.inl h
      · rw [hfl] at h
        split at h
        · cases h
        · cases h; exact Or.inr w9
    · rw [hm2] at hn0
      obtain ⟨e1, e2⟩ := omin_0.mp hn0
      refine ⟨e1, fun hl => ?_⟩
      have hS' : S' = apB (nd0 S) (ib I i a) := by
        rw [hR]
        unfold gSt ib
        have l0 : (nd0 S).2.2.1.length = S.2.2.1.length := rfl
        rw [wf_0 e2, if_pos h0, wr_ap (S := nd0 S) (by omega), wr_ap (S := apB _ _) (by rw [apB_l, bts_l]; omega), wr_ap (S := apB _ _) (by rw [apB_l, apB_l, bts_l, bts_l]; omega), apB_a, apB_a]
      have hil : (ib I i a).length = 6 := by unfold ib; rw [if_pos h0]; simp [bts_l]
      refine ⟨?_, ?_, fun h2 => by omega⟩
      · rw [hS']
        unfold ndF
        rw [if_pos (by omega)]
        rfl
      · rw [hS', apB_l, hil]
        show S.2.2.1.length + 6 ≤ _
        omega
  rw [if_neg h0] at hR hm
  by_cases h1 : riF a = 1
  · rw [if_pos h1] at hR hm
    subst hm
    have l0 : (nd0 S).2.2.1.length = S.2.2.1.length := rfl
    have hh : ml S (aSt true (Int32.ofNat (riF a)) a (nd0 S)) := ml_t (ml_nd0 (S := S)) ml_aSt
    refine ⟨by rw [hR]; unfold aSt; rw [wr_1, wr_1]; exact hS, hok, (by rw [hR]; exact hh.2 hS6), (fun x hx => Or.inl hx), fun hn0 => ⟨hn0, fun hl => ?_⟩⟩
    have hS' : S' = apB (nd0 S) (ib I i a) := by
      rw [hR]
      unfold aSt ib
      rw [if_neg h0, if_pos h1, wr_ap (S := nd0 S) (by omega), wr_ap (S := apB _ _) (by rw [apB_l, bts_l]; omega), apB_a]
    have hil : (ib I i a).length = 2 := by unfold ib; rw [if_neg h0, if_pos h1]; simp [bts_l]
    refine ⟨?_, ?_, fun h2 => by omega⟩
    · rw [hS']
      unfold ndF
      rw [if_pos (by omega)]
      rfl
    · rw [hS', apB_l, hil]
      show S.2.2.1.length + 2 ≤ _
      omega
  rw [if_neg h1] at hR hm
  have h2 : 2 ≤ riF a := by omega
  obtain ⟨L, T, ty, q1, q2, pt, LT, LT', c', B', S2, hx, h123, hI', hpt, hcF, hcst, hq, hS', hcl, hty, hQ, hN⟩ := hR
  obtain ⟨L2, T2, ty2, q1', q2', r, c, b, hx2, h123', hq1', hq1n, hLT, hT4, hT01, hps, hq', hty', hQ', hrR⟩ := pit_bd ht hp hpit h2
  rw [hx] at hx2
  cases hx2
  subst hty
  subst hQ
  have bp1 := nx_b (p := p) ht (by omega)
  have bp2 := nx_b (p := nx t n p) ht (by have := pB.2.2.2.2.1; omega)
  have bq1 := nx_b (p := q1) ht (by omega)
  obtain ⟨LTr, hLTr, hmm'⟩ := hm
  have hL10 : L.length ≤ 10 := by omega
  have ml1 : ml S (hSt true (Int32.ofNat (riF a)) (riQ a) (riT a) (nd0 S)) := ml_t (ml_nd0 (S := S)) ml_hSt
  have hcf : cfP cF (hSt true (Int32.ofNat (riF a)) (riQ a) (riT a) (nd0 S)) := ⟨_, hcF, Nat.le_refl _, ml1.2 hS6⟩
  have hls : lsP (Int32.ofInt (-1)) none := ⟨fun _ => rfl, fun _ => rfl⟩
  have hsm := cst_s (t := t) (n := n) (I := I) (w := true) (fm := riF a) (ity := riT a) (cF := cF) (Nf := rno (As.take k) ++ [riN a]) ht 3002 0 (nx t n q1) 1 i L LT 0 (Int32.ofInt (-1)) none [] (hSt true (Int32.ofNat (riF a)) (riQ a) (riT a) (nd0 S)) hls hcf
  rw [hcst, hps] at hsm
  have hqq : q2' = q2 := by
    rcases hsm with ⟨hh, _⟩ | ⟨_, hh, _⟩ | ⟨q3, L3, LT3, c3, B3, S3, r3, b3, e1, e2⟩
    · cases hh
    · cases hh
    · simp only [Option.some.injEq, Sum.inr.injEq, Prod.mk.injEq] at e1 e2
      exact e2.2.2.2.2.trans e1.1.symm
  subst hqq
  have hst := cst_t (t := t) (n := n) (I := I) (fm := riF a) (ity := riT a) (cF := cF) (Nf := rno (As.take k) ++ [riN a]) ht hIC 3002 0 (nx t n q1) 1 i L LT LTr 0 (Int32.ofInt (-1)) none [] (hSt true (Int32.ofNat (riF a)) (riQ a) (riT a) (nd0 S)) q2' (riL a) LT' c' B' S2 r c b hcst hps bq1.2.2 hL10 hls hcf (by omega) (fun l h => by cases h)
  obtain ⟨mm, mR, LTr', k1, k2, k3, k4, k5⟩ := hst
  have hLTc : LTc L LT := fun j hj => by
    have hj' : j < (riQ a).length := by omega
    rw [hpt.2.1 j _ (List.getElem?_eq_getElem hj')]
    exact hT01 _ (List.getElem_mem hj')
  have hagr : agr L LT LTr := fun j hj => by
    have hj' : j < (riQ a).length := by omega
    rw [hpt.2.1 j _ (List.getElem?_eq_getElem hj'), hLTr j _ (List.getElem?_eq_getElem hj')]
  obtain ⟨e1, e2⟩ := k5 hLTc hagr
  subst e1
  have hty2 : riF a = 2 → riT a = 0 ∨ riT a = 1 := fun h => w5 (Or.inl h)
  rw [hrR, trs2_a, k4 m, ptl_t hty2] at hmm'
  subst hmm'
  have h1S : (hSt true (Int32.ofNat (riF a)) (riQ a) (riT a) (nd0 S)).1 = mfI m := by rw [hSt_1]; exact hS
  have ml2 : ml (hSt true (Int32.ofNat (riF a)) (riQ a) (riT a) (nd0 S)) S2 := cst_ml _ _ _ _ _ _ _ _ _ _ _ hcst
  have hfm : riF a = 2 ∨ riF a = 3 ∨ riF a = 4 := by omega
  refine ⟨by rw [hS', tSt_1]; exact k1.1 m hok h1S, okM_m hok k1.2, by rw [hS']; exact (ml_t (ml_t ml1 ml2) ml_tSt).2 hS6, (fun x hx => by rcases omin_x hx with h | h; exact Or.inl h; exact Or.inr (by have := (pst_B ht _ _ _ _ _ _ _ _ _ bq1.2.2 hL10 hps).2 r (riL a) c b q2' rfl; have h2 := (k2 x h).2; have h3 := this.2.1; omega)), fun hn0 => ?_⟩
  obtain ⟨hm0, hmm0⟩ := omin_0.mp hn0
  refine ⟨hm0, fun hl => ?_⟩
  obtain ⟨c1, c2, c3, c4⟩ := e2 hmm0
  have hsB := (pst_B ht _ _ _ _ _ _ _ _ _ bq1.2.2 hL10 hps).2 r (riL a) c b q2' rfl
  have hq12 : nx t n q1 ≤ q2' := hsB.1
  have h125 : tkk t n q2' = 125 := hsB.2.2.2.2.2.2.2.1 rfl
  have bq2 := nx_b (p := q2') ht (by omega)
  have hW := pst_W ht _ _ _ _ _ _ _ _ _ _ _ _ _ bq1.2.2 hL10 hps
  have hnb := ndl_b (I := I) (r := r) (N := [])
  have hnb0 : (nmsB I []).length = 0 := rfl
  have hph : riF a = 2 → nx t n (nx t n p) + 2 ≤ q1 := fun h => by rw [h] at hx; exact phd_2 ht (by omega) hx
  have hb0 : b = [] := by
    have hbk := pst_bk (t := t) (n := n) _ _ _ _ _ _ _ _ _ _ _ _ _ hps
    cases b with
    | nil => rfl
    | cons j b =>
      obtain ⟨_, l, hl, _⟩ := hbk j (List.mem_cons_self ..)
      cases hl
  subst hq'
  have hS1 := hSt_ap (S := nd0 S) (a := a) (by show S.2.2.1.length + _ ≤ _; omega)
  have hS1l : (hSt true (Int32.ofNat (riF a)) (riQ a) (riT a) (nd0 S)).2.2.1.length = S.2.2.1.length + ((hdB a).length + 3) := by
    rw [hS1, apB_l, List.length_append, bts_l]
    rfl
  have hdl := hdB_l (a := a)
  have hlp := tcS_ap (I := I) (J := jOf i a) (S := S2) (fm := riF a) (ty := riT a) hfm hty2
  have hlp0 := (tcS_ap (I := I) (J := jOf i a) (S := St0) (fm := riF a) (ty := riT a) hfm hty2 (by simp [St0])).2.2.2
  have hlp6 : lens (ptl (riF a) (riT a)) ≤ 6 := hlp0.1
  have hlp1 := hlp0.2
  have hbud : S.2.2.1.length + ((hdB a).length + 3) + lens r + lens (ptl (riF a) (riT a)) + 1 + (nmsB I (ndl I r [])).length ≤ 4 * nx t n q2' := by
    by_cases hf : riF a = 2
    · have := hph hf
      omega
    · have := hlp1 hf
      omega
  have hbyt := (c4 (by simp) (jOf i a) _ hcF (Nat.le_refl _) (fun k hk => by unfold jOf; rw [hrR, Nat.sub_self, Nat.zero_add, Nat.add_sub_cancel_left, List.take_append_of_le_length hk]) (by rw [hS1l]; omega) (fun l h => by cases h) (by rw [hb0]; simp)).1
  have hNr : (hSt true (Int32.ofNat (riF a)) (riQ a) (riT a) (nd0 S)).2.2.2 = [] := hSt_N
  rw [hNr, hS1] at hbyt
  have hebl : (eb I (jOf i a) r []).length = lens r := eb_l c3
  have hS2 : S2 = (S.1, S.2.1, S.2.2.1 ++ hdB a ++ bt 0 (Int32.ofNat 0) :: bt 0 (Int32.ofNat 1) :: bt 0 (Int32.ofNat 2) :: eb I (jOf i a) r [], ndl I r []) := by
    rw [hbyt]
    unfold apB nd0
    simp [bts]
  have hl2 : S2.2.2.1.length = S.2.2.1.length + (hdB a).length + 3 + lens r := by
    rw [hS2]
    simp [hebl]
    omega
  obtain ⟨t1, t2, t3, t4⟩ := hlp (by rw [hl2]; omega)
  have hN2 : S2.2.2.2 = ndl I r [] := by rw [hS2]
  rw [hN2] at t1 t3
  have hNF : NFr I (riR a) := by rw [hrR]; exact NFr_a c3 t2
  have hnd : ndF I a = ndl I r [] := by
    unfold ndF
    rw [if_neg (by omega), hrR, ndl_a, t3]
  have hpl : (eb I (jOf i a) (ptl (riF a) (riT a)) (ndl I r [])).length = lens (ptl (riF a) (riT a)) := eb_l t2
  have hT : tcS true (riF a) (riT a) S2 = (S.1, S.2.1, S.2.2.1 ++ hdB a ++ bt 0 (Int32.ofNat 0) :: bt 0 (Int32.ofNat 1) :: bt 0 (Int32.ofNat 2) :: (eb I (jOf i a) r [] ++ eb I (jOf i a) (ptl (riF a) (riT a)) (ndl I r [])), ndl I r []) := by
    rw [t1, hS2]
    unfold apB
    simp
  have hlR : lens (riR a) = lens r + lens (ptl (riF a) (riT a)) := by rw [hrR, lens_a]
  have hcFe : cF = Int32.ofNat ((S.2.2.1 ++ hdB a).length + 3) := by
    rw [hcF, hS1l, List.length_append]
    rfl
  have hcp : cpl cF (S.1, S.2.1, S.2.2.1 ++ hdB a ++ bt 0 (Int32.ofNat 0) :: bt 0 (Int32.ofNat 1) :: bt 0 (Int32.ofNat 2) :: (eb I (jOf i a) r [] ++ eb I (jOf i a) (ptl (riF a) (riT a)) (ndl I r [])), ndl I r []) = Int32.ofNat (lens (riR a)) := by
    unfold cpl
    rw [hcFe]
    have : (S.2.2.1 ++ hdB a ++ bt 0 (Int32.ofNat 0) :: bt 0 (Int32.ofNat 1) :: bt 0 (Int32.ofNat 2) :: (eb I (jOf i a) r [] ++ eb I (jOf i a) (ptl (riF a) (riT a)) (ndl I r []))).length = lens (riR a) + ((S.2.2.1 ++ hdB a).length + 3) := by
      simp [hebl, hpl]
      omega
    show Int32.ofNat _ - _ = _
    rw [this, Int32.ofNat_add, Int32.add_sub_cancel]
  have htp := tpS_at (nl := (riL a).length) hcFe hcp (by rw [List.length_append, hebl, hpl, hlR]) (by rw [List.length_append, List.length_append, hebl, hpl]; omega)
  have hfin : S' = (S.1, S.2.1, S.2.2.1 ++ ib I i a, ndF I a) := by
    rw [hS']
    unfold tSt
    rw [hN2, hT, htp]
    generalize hX : ((S.1, S.2.1, S.2.2.1 ++ hdB a ++ (bts (Int32.ofNat (riL a).length) 1 0 ++ bts (Int32.ofNat (lens (riR a))) 2 0) ++ (eb I (jOf i a) r [] ++ eb I (jOf i a) (ptl (riF a) (riT a)) (ndl I r [])), ndl I r []) : St) = X
    have hXl : X.2.2.1.length = S.2.2.1.length + (hdB a).length + 3 + (lens r + lens (ptl (riF a) (riT a))) := by
      rw [← hX]
      simp [bts_l, hebl, hpl]
      omega
    have hXN : X.2.2.2 = ndl I r [] := by rw [← hX]
    rw [wr_ap (by rw [hXl]; omega), wnN_ap (S := apB _ _) (by rw [apB_l, bts_l, hXl]; omega), apB_a]
    rw [← hX]
    unfold apB ib
    rw [if_neg h0, if_neg h1, hnd, hrR, eb_a]
    simp only [List.append_assoc]
  refine ⟨hfin, ?_, fun _ => ⟨hNF, by rw [hcFe, List.length_append], by rw [hcl, hT]; exact hcp⟩⟩
  have hil : (ib I i a).length = (hdB a).length + 3 + lens (riR a) + 1 + (nmsB I (ndl I r [])).length := by
    unfold ib
    rw [if_neg h0, if_neg h1, hnd]
    simp [bts_l, eb_l hNF]
    omega
  rw [hfin]
  show (S.2.2.1 ++ ib I i a).length ≤ _
  rw [List.length_append, hil]
  omega
end MIT
