
/-! ===== about: how many are gone, how many would run, times ===== -/
def gcK (Bs : List Ri) (NL : List (List Nat)) (K : Nat) : Nat → Nat → Nat
  | 0, _ => 0
  | m + 1, j => match Bs[j]? with
    | none => 0
    | some b => (if kdf (riF b) = K ∧ kwi NL (riN b) 0 = none then 1 else 0) + gcK Bs NL K m (j + 1)
def gcA (Bs : List Ri) (NL : List (List Nat)) : Nat → Nat → Nat
  | 0, _ => 0
  | m + 1, j => match Bs[j]? with
    | none => 0
    | some b => (if kwi NL (riN b) 0 = none then 1 else 0) + gcA Bs NL m (j + 1)
theorem gcA_l {Bs : List Ri} {NL : List (List Nat)} : ∀ {m j : Nat}, gcA Bs NL m j ≤ m
  | 0, _ => Nat.le_refl _
  | m + 1, j => by
    unfold gcA
    cases Bs[j]? with
    | none => exact Nat.zero_le _
    | some b =>
      dsimp only
      have := gcA_l (Bs := Bs) (NL := NL) (m := m) (j := j + 1)
      split <;> omega
theorem gcA_K {Bs : List Ri} {NL : List (List Nat)} (hB : itsB Bs) : ∀ {m j : Nat}, gcA Bs NL m j = gcK Bs NL 0 m j + gcK Bs NL 1 m j + gcK Bs NL 2 m j + gcK Bs NL 3 m j
  | 0, _ => rfl
  | m + 1, j => by
    unfold gcA gcK
    cases hb : Bs[j]? with
    | none => rfl
    | some b =>
      dsimp only
      have ih := gcA_K (NL := NL) hB (m := m) (j := j + 1)
      have hk := kdf_lt (hB.2 b (List.mem_of_getElem? hb)).1
      rw [ih]
      generalize kdf (riF b) = q at hk
      by_cases c : kwi NL (riN b) 0 = none
      · simp only [c, and_true, if_true]
        have : q = 0 ∨ q = 1 ∨ q = 2 ∨ q = 3 := by omega
        rcases this with h | h | h | h <;> subst h <;> simp <;> omega
      · simp only [c, and_false, if_false]
        omega
theorem gn_c {Bs : List Ri} {NL : List (List Nat)} {K v : Nat} (hv : v < 1000) : ∀ (m j c : Nat), c + m < 1000 → ((c ≤ v ∧ v < c + gcK Bs NL K m j) → ∃ k, gn Bs NL (Int32.ofNat v) K m j c = .inr k) ∧ (¬ (c ≤ v ∧ v < c + gcK Bs NL K m j) → gn Bs NL (Int32.ofNat v) K m j c = .inl (c + gcK Bs NL K m j))
  | 0, j, c, _ => by
    unfold gcK gn
    exact ⟨fun h => by omega, fun _ => rfl⟩
  | m + 1, j, c, hm => by
    unfold gcK gn
    cases hb : Bs[j]? with
    | none => exact ⟨fun h => by dsimp only at h; omega, fun _ => rfl⟩
    | some b =>
      dsimp only
      by_cases c1 : kdf (riF b) = K ∧ kwi NL (riN b) 0 = none
      · rw [if_pos c1, if_pos c1]
        obtain ⟨i1, i2⟩ := gn_c (Bs := Bs) (NL := NL) (K := K) hv m (j + 1) (c + 1) (by omega)
        by_cases c2 : c = v
        · rw [if_pos (by rw [c2])]
          exact ⟨fun _ => ⟨j, rfl⟩, fun h => by omega⟩
        · rw [if_neg (fun hh => c2 ((oN_e (by omega) (by omega)).mp hh))]
          refine ⟨fun h => i1 (by omega), fun h => ?_⟩
          rw [i2 (by omega)]
          congr 1
          omega
      · rw [if_neg c1, if_neg c1, Nat.zero_add]
        exact gn_c hv m (j + 1) c (by omega)
theorem gcK_l {Bs : List Ri} {NL : List (List Nat)} {K : Nat} : ∀ {m j : Nat}, gcK Bs NL K m j ≤ m
  | 0, _ => Nat.le_refl _
  | m + 1, j => by
    unfold gcK
    cases Bs[j]? with
    | none => exact Nat.zero_le _
    | some b =>
      dsimp only
      have := gcK_l (Bs := Bs) (NL := NL) (K := K) (m := m) (j := j + 1)
      split <;> omega
theorem gnO_c {Bs : List Ri} {NL : List (List Nat)} {v : Nat} (hB : itsB Bs) (hv : v < 100) : gnO Bs NL (Int32.ofNat v) 4 0 0 = none ↔ gcA Bs NL Bs.length 0 ≤ v := by
  have h42 := itsB_42 hB
  rw [gcA_K hB]
  have l0 := gcK_l (Bs := Bs) (NL := NL) (K := 0) (m := Bs.length) (j := 0)
  have l1 := gcK_l (Bs := Bs) (NL := NL) (K := 1) (m := Bs.length) (j := 0)
  have l2 := gcK_l (Bs := Bs) (NL := NL) (K := 2) (m := Bs.length) (j := 0)
  have l3 := gcK_l (Bs := Bs) (NL := NL) (K := 3) (m := Bs.length) (j := 0)
  have step : ∀ (f K K' c : Nat), K' = K + 1 → c < 500 → ((c ≤ v ∧ v < c + gcK Bs NL K Bs.length 0) → ∃ k, gnO Bs NL (Int32.ofNat v) (f + 1) K c = some k) ∧ (¬ (c ≤ v ∧ v < c + gcK Bs NL K Bs.length 0) → gnO Bs NL (Int32.ofNat v) (f + 1) K c = gnO Bs NL (Int32.ofNat v) f K' (c + gcK Bs NL K Bs.length 0)) := fun f K K' c hK hc => by
    subst hK
    obtain ⟨i1, i2⟩ := gn_c (Bs := Bs) (NL := NL) (K := K) (v := v) (by omega) Bs.length 0 c (by omega)
    refine ⟨fun h => ?_, fun h => ?_⟩
    · obtain ⟨k, hk⟩ := i1 h
      exact ⟨k, by rw [gnO, hk]⟩
    · rw [gnO, i2 h]
  obtain ⟨s0a, s0b⟩ := step 3 0 1 0 rfl (by omega)
  by_cases c0 : v < gcK Bs NL 0 Bs.length 0
  · obtain ⟨k, hk⟩ := s0a (by omega)
    rw [hk]
    exact ⟨fun h => (by cases h), fun h => by omega⟩
  rw [s0b (by omega)]
  obtain ⟨s1a, s1b⟩ := step 2 1 2 (0 + gcK Bs NL 0 Bs.length 0) rfl (by omega)
  by_cases c1 : v < gcK Bs NL 0 Bs.length 0 + gcK Bs NL 1 Bs.length 0
  · obtain ⟨k, hk⟩ := s1a (by omega)
    rw [hk]
    exact ⟨fun h => (by cases h), fun h => by omega⟩
  rw [s1b (by omega)]
  obtain ⟨s2a, s2b⟩ := step 1 2 3 (0 + gcK Bs NL 0 Bs.length 0 + gcK Bs NL 1 Bs.length 0) rfl (by omega)
  by_cases c2 : v < gcK Bs NL 0 Bs.length 0 + gcK Bs NL 1 Bs.length 0 + gcK Bs NL 2 Bs.length 0
  · obtain ⟨k, hk⟩ := s2a (by omega)
    rw [hk]
    exact ⟨fun h => (by cases h), fun h => by omega⟩
  rw [s2b (by omega)]
  obtain ⟨s3a, s3b⟩ := step 0 3 4 (0 + gcK Bs NL 0 Bs.length 0 + gcK Bs NL 1 Bs.length 0 + gcK Bs NL 2 Bs.length 0) rfl (by omega)
  by_cases c3 : v < gcK Bs NL 0 Bs.length 0 + gcK Bs NL 1 Bs.length 0 + gcK Bs NL 2 Bs.length 0 + gcK Bs NL 3 Bs.length 0
  · obtain ⟨k, hk⟩ := s3a (by omega)
    rw [hk]
    exact ⟨fun h => (by cases h), fun h => by omega⟩
  rw [s3b (by omega)]
  exact ⟨fun _ => by omega, fun _ => rfl⟩
section MGC
variable {As Bs : List Ri} {I I' : List It} {rv ol A : Nat} {e : my_E} {d : Nat} {κ : my_K} {σ σ' : my_S} {Q : my_O → my_K → my_S → Prop} {E : List Et}
theorem c_14 (h : LD As I rv σ) (hB : itsB Bs) (ho : OLC Bs I' ol σ) (hd : 3 ≤ d) (hQ : Q (.inl (some (.inl (Int32.ofNat (gcA Bs (rno As) Bs.length 0))))) κ σ) : my_M e d 14 [.inr (.inr (some 32))] κ σ Q := by
  obtain ⟨d, rfl⟩ := dS 1 (show 1 ≤ d by omega)
  have h42 := itsB_42 hB
  have hl := gcA_l (Bs := Bs) (NL := rno As) (m := Bs.length) (j := 0)
  refine ys_14 ?_
  unfold ys_14_0
  have lp : ∀ (m v : Nat), v + m = gcA Bs (rno As) Bs.length 0 → ys_14_2 e d (Int32.ofNat v) κ σ Q := by
    intro m
    induction m with
    | zero =>
      intro v hv
      have hv' : v = gcA Bs (rno As) Bs.length 0 := by omega
      unfold ys_14_2 ys_14_22
      by_cases c : v < 42
      · rw [if_pos ((oN_lt1 (b := 42) (c := 42) rfl (by omega) (by omega)).mpr c)]
        refine c_15 h ho (by omega) ?_
        rw [my_kA_v, (gnO_c hB (by omega)).mpr (by omega), Option.map_none, if_pos rfl, hv']
        exact hQ
      · rw [if_neg (fun hh => c ((oN_lt1 (b := 42) (c := 42) rfl (by omega) (by omega)).mp hh)), hv']
        exact hQ
    | succ m ih =>
      intro v hv
      unfold ys_14_2
      rw [if_pos ((oN_lt1 (b := 42) (c := 42) rfl (by omega) (by omega)).mpr (by omega))]
      refine c_15 h ho (by omega) ?_
      rw [my_kA_v]
      cases hg : gnO Bs (rno As) (Int32.ofNat v) 4 0 0 with
      | none =>
        have := (gnO_c (NL := rno As) hB (show v < 100 by omega)).mp hg
        omega
      | some k =>
        rw [Option.map_some, if_neg (by simp), oN_s]
        exact ys_14_2_ok (ih (v + 1) (by omega))
  exact ys_14_2_ok (lp (gcA Bs (rno As) Bs.length 0) 0 (Nat.zero_add _))
theorem r_334 (hA : itsB As) (hB : itsB Bs) (h49 : σ.1 498 49 = Int32.ofNat As.length) (h530 : ∀ k a, As[k]? = some a → σ.2.1 530 k = nmR (riN a)) (ho : OLR Bs σ) (hd : 2 ≤ d) (hQ : Q (.inl (some (.inl (Int32.ofNat (gcA Bs (rno As) Bs.length 0))))) κ σ) : my_M e d 334 [.inr (.inr (some 498))] κ σ Q := by
  obtain ⟨d, rfl⟩ := dS 1 (show 1 ≤ d by omega)
  have h42 := itsB_42 hB
  refine ys_334 ?_
  unfold ys_334_0
  have lp : ∀ (m j c : Nat), j + m = Bs.length → c + gcA Bs (rno As) m j = gcA Bs (rno As) Bs.length 0 → ys_334_4 e d (Int32.ofNat c) (Int32.ofNat j) κ σ Q := by
    intro m
    induction m with
    | zero =>
      intro j c hj hc
      have hc' : c = gcA Bs (rno As) Bs.length 0 := hc
      unfold ys_334_4
      rw [ho.1, if_neg (fun hh => by have := (oN_lt (by omega) (by omega)).mp hh; omega), hc']
      exact hQ
    | succ m ih =>
      intro j c hj hc
      obtain ⟨b, hb⟩ : ∃ b, Bs[j]? = some b := ⟨_, List.getElem?_eq_getElem (show j < Bs.length by omega)⟩
      have hWb := hB.2 b (List.mem_of_getElem? hb)
      rw [gcA, hb] at hc
      dsimp only at hc
      unfold ys_334_4
      rw [ho.1, if_pos ((oN_lt (by omega) (by omega)).mpr (by omega))]
      refine r_335b hA hWb.2.1 h49 h530 (ho.2 j b hb).2 (by omega) (by omega) ?_
      rw [my_kI_v]
      by_cases cn : kwi (rno As) (riN b) 0 = none
      · rw [if_pos cn] at hc
        rw [decide_eq_true cn, if_neg (by decide)]
        unfold ys_334_26
        rw [oN_s, oN_s]
        exact ys_334_4_ok (ih (j + 1) (c + 1) (by omega) (by omega))
      · rw [if_neg cn] at hc
        rw [decide_eq_false cn, if_pos (show bI false = 0 from rfl)]
        unfold ys_334_26
        rw [oN_s, Int32.add_zero]
        exact ys_334_4_ok (ih (j + 1) c (by omega) (by omega))
  exact ys_334_4_ok (lp Bs.length 0 0 (Nat.zero_add _) (Nat.zero_add _))
/-- how many would run -/
def rnc (As : List Ri) (I : List It) (E : List Et) : Nat → Nat → Nat
  | 0, _ => 0
  | m + 1, t => (match fkA As 3 (Int32.ofNat t) As.length 0 with
    | none => 0
    | some k => match As[k]? with
      | none => 0
      | some a => if rsn E As I k a = 0 then 0 else 1) + rnc As I E m (t + 1)
theorem c_11 (ld : LD As I rv σ) (hS : LVs A E σ) (hd : 7 ≤ d) (hQ : ∀ σ', eqp oF σ σ' → Q (.inl (some (.inl (Int32.ofNat (rnc As I E (cnK As 3) 0))))) κ σ') : my_M e d 11 [.inr (.inr (some 32))] κ σ Q := by
  obtain ⟨d, rfl⟩ := dS 1 (show 1 ≤ d by omega)
  have hB := ld.1
  have hrv := ld.2.2.1
  have hA := hS.1
  unfold lg2 at hA
  have h12 : cnK As 3 ≤ 12 := hB.1 3
  refine ys_11 ?_
  unfold ys_11_0
  have lp : ∀ (m t c : Nat) (σ' : my_S), t + m = cnK As 3 → c + rnc As I E m t = rnc As I E (cnK As 3) 0 → eqp oF σ σ' → ys_11_4 e d (Int32.ofNat c) (Int32.ofNat t) κ σ' Q := by
    intro m
    induction m with
    | zero =>
      intro t c σ' ht hc f
      have ld' : LD As I rv σ' := LD_o (LD_30 ld) ld f (fun c k hh => by unfold oF at hh; unfold coF; omega)
      have hc' : c = rnc As I E (cnK As 3) 0 := hc
      unfold ys_11_4
      refine ⟨rv, ld'.2.2.2.2.2.1, in10 hrv, c_196y (kd := 3) ld' (by omega) (by omega) ?_⟩
      rw [my_kI_v, if_neg (fun hh => by have := (oN_lt (by omega) (by omega)).mp hh; omega), hc']
      exact hQ σ' f
    | succ m ih =>
      intro t c σ' ht hc f
      have ld' : LD As I rv σ' := LD_o (LD_30 ld) ld f (fun c k hh => by unfold oF at hh; unfold coF; omega)
      have ls' : LVs A E σ' := LVs_o hS f (fun c k hh => by unfold oF at hh; unfold lsN; omega)
      obtain ⟨k, hk⟩ := (fkA_w (K := 3) hB (by omega) (show t < 2147483648 by omega)).1 (by omega)
      have hkl := fkA_lt hk
      have ha := List.getElem?_eq_getElem hkl
      generalize As[k] = a at ha
      have hk' : fkA As 3 (Int32.ofNat t) As.length 0 = some k := hk
      rw [rnc, hk'] at hc
      dsimp only at hc
      rw [ha] at hc
      dsimp only at hc
      unfold ys_11_4
      refine ⟨rv, ld'.2.2.2.2.2.1, in10 hrv, c_196y (kd := 3) ld' (by omega) (by omega) ?_⟩
      rw [my_kI_v, if_pos ((oN_lt (by omega) (by omega)).mpr (by omega))]
      refine ⟨rv, ld'.2.2.2.2.2.1, in10 hrv, c_200 hrv ld.2.1 ld'.2.2.2.2.2.2.1.1 ld'.2.2.2.2.2.2.1.2.1 (by omega) ?_⟩
      rw [my_kA_v, hk']
      show if (some (rv + 4 + 3 * k)) = none then _ else _
      rw [if_neg (by simp), ld'.2.2.2.2.2.1]
      refine c_154 ld' ls' ha (by omega) (fun σ1 _ ld1 ls1 f1 => ?_)
      rw [my_kI_v]
      by_cases c0 : rsn E As I k a = 0
      · rw [if_pos c0] at hc
        rw [c0, if_pos rfl]
        unfold ys_11_48
        rw [oN_s]
        exact ys_11_4_ok (ih (t + 1) c σ1 (by omega) (by omega) (eqp_tr f f1))
      · rw [if_neg c0] at hc
        rw [if_neg c0]
        unfold ys_11_48
        rw [oN_s, oN_s]
        exact ys_11_4_ok (ih (t + 1) (c + 1) σ1 (by omega) (by omega) (eqp_tr f f1))
  exact ys_11_4_ok (lp (cnK As 3) 0 0 σ (Nat.zero_add _) (Nat.zero_add _) eqp_rf)
/-- the reference counts those that are picked -/
theorem r_333c (hB : itsB As) (h64 : σ.1 498 64 = Int32.ofNat (cnK As 3)) (hF : FPk As I E (cnK As 3) σ) (hQ : Q (.inl (some (.inl (Int32.ofNat (rnc As I E (cnK As 3) 0))))) κ σ) : ∀ (m t c : Nat), t + m = cnK As 3 → c + rnc As I E m t = rnc As I E (cnK As 3) 0 → ys_333_109 e d (Int32.ofNat c) (Int32.ofNat t) κ σ Q := by
  have h12 : cnK As 3 ≤ 12 := hB.1 3
  intro m
  induction m with
  | zero =>
    intro t c ht hc
    have hc' : c = rnc As I E (cnK As 3) 0 := hc
    unfold ys_333_109
    rw [h64, if_neg (fun hh => by have := (oN_lt (by omega) (by omega)).mp hh; omega), hc']
    exact hQ
  | succ m ih =>
    intro t c ht hc
    obtain ⟨k, hk⟩ := (fkA_w (K := 3) hB (by omega) (show t < 2147483648 by omega)).1 (by omega)
    have hkl := fkA_lt hk
    have ha := List.getElem?_eq_getElem hkl
    generalize As[k] = a at ha
    have hk' : fkA As 3 (Int32.ofNat t) As.length 0 = some k := hk
    rw [rnc, hk'] at hc
    dsimp only at hc
    rw [ha] at hc
    dsimp only at hc
    have hv := (hF t k a (by omega) hk' ha).1
    unfold ys_333_109
    rw [h64, if_pos ((oN_lt (by omega) (by omega)).mpr (by omega)), oN_n (by omega), hv]
    refine ⟨bdk (by omega) (by omega), ?_⟩
    by_cases c0 : rsn E As I k a = 0
    · rw [if_pos c0] at hc
      rw [if_pos c0, if_pos rfl]
      unfold ys_333_132
      rw [oN_s, Int32.add_zero]
      exact ys_333_109_ok (ih (t + 1) c (by omega) (by omega))
    · rw [if_neg c0] at hc
      rw [if_neg c0, if_neg (by decide)]
      unfold ys_333_132
      rw [oN_s, oN_s]
      exact ys_333_109_ok (ih (t + 1) (c + 1) (by omega) (by omega))
end MGC
/-- the last end, the longest, all together -/
def mxE (pl : List Sp) : Nat → Int32
  | 0 => 0
  | m + 1 => match pl[m]? with
    | none => mxE pl m
    | some p => if mxE pl m < p.2.2.2 then p.2.2.2 else mxE pl m
def mxf (Z : Nat → Ms) (pl : List Sp) : Nat → Int32
  | 0 => 0
  | m + 1 => match pl[m]? with
    | none => mxf Z pl m
    | some p => if mxf Z pl m < Int32.ofNat (zF (Z p.1)) + 1 then Int32.ofNat (zF (Z p.1)) + 1 else mxf Z pl m
def smf (Z : Nat → Ms) (pl : List Sp) : Nat → Int32
  | 0 => 0
  | m + 1 => match pl[m]? with
    | none => smf Z pl m
    | some p => smf Z pl m + (Int32.ofNat (zF (Z p.1)) + 1)
def lst (Z : Nat → Ms) (pl : List Sp) (W : Nat) : Int32 := if mxf Z pl pl.length < (smf Z pl pl.length + Int32.ofNat W - 1) / Int32.ofNat W then (smf Z pl pl.length + Int32.ofNat W - 1) / Int32.ofNat W else mxf Z pl pl.length
section MTM
variable {As : List Ri} {rv W : Nat} {e : my_E} {d : Nat} {κ : my_K} {σ σ' : my_S} {Q : my_O → my_K → my_S → Prop} {P : Nat → Nat} {pl : List Sp} {st : Nat → Nat} {Z : Nat → Ms}
theorem c_142 (h : CPL rv W Z P pl st σ) (hd : 1 ≤ d) (hQ : Q (.inl (some (.inl (mxE pl pl.length)))) κ σ) : my_M e d 142 [.inr (.inr (some 62))] κ σ Q := by
  obtain ⟨d, rfl⟩ := dS 1 hd
  obtain ⟨h1, h2, h3, h4, h5, h6, h7⟩ := h
  refine ys_142 ?_
  unfold ys_142_0
  have lp : ∀ (m' m : Nat), m + m' = pl.length → ys_142_4 e d (mxE pl m) (Int32.ofNat m) κ σ Q := by
    intro m'
    induction m' with
    | zero =>
      intro m hm
      have : m = pl.length := by omega
      subst this
      unfold ys_142_4 ys_142_41
      rw [h3, if_neg (fun hh => by have := (oN_lt (by omega) (by omega)).mp hh; omega)]
      exact hQ
    | succ m' ih =>
      intro m hm
      have hp := List.getElem?_eq_getElem (show m < pl.length by omega)
      generalize pl[m] = p at hp
      obtain ⟨b1, b2, b3, b4⟩ := slo_b h1 (show m < 12 by omega)
      obtain ⟨q1, _, _⟩ := h7 m p hp
      have key := ih (m + 1) (by omega)
      rw [mxE, hp] at key
      dsimp only at key
      unfold ys_142_4
      rw [h3, if_pos ((oN_lt (by omega) (by omega)).mpr (by omega)), if_pos ((oN_lt1 (b := 12) (c := 12) rfl (by omega) (by omega)).mpr (by omega)), oN_n (by omega), h2 m (by omega)]
      refine ⟨bdk (by omega) (by omega), _, rfl, b3, ?_⟩
      rw [q1.2.2.2, oN_s]
      exact ys_142_4_ok key
  exact ys_142_4_ok (lp pl.length 0 (Nat.zero_add _))
theorem c_143 (h : CPL rv W Z P pl st σ) (hW : 1 ≤ W ∧ W ≤ 64) (hd : 1 ≤ d) (hQ : Q (.inl (some (.inl (lst Z pl W)))) κ σ) : my_M e d 143 [.inr (.inr (some 62))] κ σ Q := by
  obtain ⟨d, rfl⟩ := dS 1 hd
  obtain ⟨h1, h2, h3, h4, h5, h6, h7⟩ := h
  refine ys_143 ?_
  unfold ys_143_0
  have lp : ∀ (m' m : Nat), m + m' = pl.length → ys_143_6 e d (mxf Z pl m) (smf Z pl m) (Int32.ofNat m) κ σ Q := by
    intro m'
    induction m' with
    | zero =>
      intro m hm
      have : m = pl.length := by omega
      subst this
      unfold ys_143_6 ys_143_59 ys_143_88
      rw [h3, if_neg (fun hh => by have := (oN_lt (by omega) (by omega)).mp hh; omega), h5, if_neg (fun hh => by have := (oN_lt1 (b := 1) (c := 1) rfl (by omega) (by omega)).mp hh; omega)]
      exact ⟨fun hh => by have := (oN_e1 (b := 0) (c := 0) rfl (by omega) (by omega)).mp hh; omega, hQ⟩
    | succ m' ih =>
      intro m hm
      have hp := List.getElem?_eq_getElem (show m < pl.length by omega)
      generalize pl[m] = p at hp
      obtain ⟨b1, b2, b3, b4⟩ := slo_b h1 (show m < 12 by omega)
      obtain ⟨q1, _, _⟩ := h7 m p hp
      have key := ih (m + 1) (by omega)
      rw [mxf, smf, hp] at key
      dsimp only at key
      have bm := bdk (k := m) (m := 12) (by omega) (by omega)
      unfold ys_143_6
      rw [h3, if_pos ((oN_lt (by omega) (by omega)).mpr (by omega)), if_pos ((oN_lt1 (b := 12) (c := 12) rfl (by omega) (by omega)).mpr (by omega)), oN_n (by omega), h2 m (by omega)]
      refine ⟨bm, _, rfl, b3, bm, _, rfl, b3, ?_⟩
      rw [q1.1.2.2.2.1, oN_s m]
      exact ys_143_6_ok key
  exact ys_143_6_ok (lp pl.length 0 (Nat.zero_add _))
theorem sub_c {b f : Int32} : b + f + 1 - b = f + 1 := by rw [Int32.add_assoc, Int32.add_comm b, Int32.add_sub_cancel]
theorem r_336 {v : Int32} (h : RPL As Z pl st σ) (he : EDe Z pl) (h123 : σ.1 498 123 = Int32.ofNat W) (hW : 1 ≤ W ∧ W ≤ 64) (hd : 1 ≤ d) (hQ1 : ¬ v = 0 → Q (.inl (some (.inl (mxE pl pl.length)))) κ σ) (hQ0 : v = 0 → Q (.inl (some (.inl (lst Z pl W)))) κ σ) : my_M e d 336 [.inr (.inr (some 498)), .inl v] κ σ Q := by
  obtain ⟨d, rfl⟩ := dS 1 hd
  obtain ⟨h1, h2, h3⟩ := h
  refine ys_336 ?_
  unfold ys_336_0
  have lp : ∀ (m' m : Nat), m + m' = pl.length → ys_336_10 e d v (mxE pl m) (mxf Z pl m) (smf Z pl m) (Int32.ofNat m) κ σ Q := by
    intro m'
    induction m' with
    | zero =>
      intro m hm
      have : m = pl.length := by omega
      subst this
      unfold ys_336_10 ys_336_96
      rw [h1, if_neg (fun hh => by have := (oN_lt (by omega) (by omega)).mp hh; omega), h123]
      by_cases cv : v = 0
      · rw [if_pos cv]
        by_cases c0 : 0 < pl.length
        · rw [if_pos (oN_pos c0 (by omega))]
          refine ⟨fun hh => by have := (oN_e1 (b := 0) (c := 0) rfl (by omega) (by omega)).mp hh; omega, ?_⟩
          have hq := hQ0 cv
          unfold lst at hq
          unfold ys_336_126
          by_cases c1 : mxf Z pl pl.length < (smf Z pl pl.length + Int32.ofNat W - 1) / Int32.ofNat W
          · rw [if_pos c1] at hq ⊢
            exact hq
          · rw [if_neg c1] at hq ⊢
            exact hq
        · have hl : pl.length = 0 := by omega
          have hz : lst Z pl W = 0 := by
            unfold lst
            rw [hl]
            show (if (0 : Int32) < ((0 : Int32) + Int32.ofNat W - 1) / Int32.ofNat W then ((0 : Int32) + Int32.ofNat W - 1) / Int32.ofNat W else 0) = 0
            have e1 : ((0 : Int32) + Int32.ofNat W - 1) / Int32.ofNat W = 0 := by
              rw [Int32.zero_add, show (1 : Int32) = Int32.ofNat 1 from rfl, oN_sub hW.1, di3 (by omega) (by omega), Nat.div_eq_of_lt (by omega)]
              rfl
            rw [e1, if_neg (by decide)]
          have hq := hQ0 cv
          rw [hz] at hq
          rw [hl, if_neg (show ¬ (0 : Int32) < Int32.ofNat 0 by decide)]
          exact hq
      · rw [if_neg cv]
        exact hQ1 cv
    | succ m' ih =>
      intro m hm
      have hp := List.getElem?_eq_getElem (show m < pl.length by omega)
      generalize pl[m] = p at hp
      obtain ⟨q1, _, _⟩ := h3 m p hp
      have key := ih (m + 1) (by omega)
      rw [mxE, mxf, smf, hp] at key
      dsimp only at key
      have bm := bdk (k := m) (m := 12) (by omega) (by omega)
      have hed := he m p hp
      unfold ys_336_10
      rw [h1, if_pos ((oN_lt (by omega) (by omega)).mpr (by omega)), oN_n (by omega), q1.2.2.2, q1.2.2.1]
      have e6 : p.2.2.2 - p.2.2.1 = Int32.ofNat (zF (Z p.1)) + 1 := by rw [hed, sub_c]
      rw [e6]
      refine ⟨bm, bm, bm, ?_⟩
      have nx : ∀ t0 : Int32, t0 = (if mxE pl m < p.2.2.2 then p.2.2.2 else mxE pl m) → ys_336_58 e d v (mxf Z pl m) (smf Z pl m) (Int32.ofNat m) (Int32.ofNat (zF (Z p.1)) + 1) t0 κ σ Q := fun t0 ht => by
        rw [← ht] at key
        unfold ys_336_58 ys_336_71
        rw [oN_s m]
        by_cases c1 : mxf Z pl m < Int32.ofNat (zF (Z p.1)) + 1
        · rw [if_pos c1] at key ⊢
          exact ys_336_10_ok key
        · rw [if_neg c1] at key ⊢
          exact ys_336_10_ok key
      by_cases c : mxE pl m < p.2.2.2
      · rw [if_pos c]
        exact ⟨bm, nx _ (by rw [if_pos c])⟩
      · rw [if_neg c]
        exact nx _ (by rw [if_neg c])
  exact ys_336_10_ok (lp pl.length 0 (Nat.zero_add _))
end MTM
