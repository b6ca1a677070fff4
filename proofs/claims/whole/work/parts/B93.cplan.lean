
/-! ===== the class plans its runs ===== -/
def tp1 (As : List Ri) (I : List It) (E : List Et) (t : Nat) (L : List Tp) : List Tp := match fkA As 3 (Int32.ofNat t) As.length 0 with
  | none => L
  | some k => match As[k]? with
    | none => L
    | some a => if rsn E As I k a = 0 then L else insT L (k, est E (riN a), t)
def tpl (As : List Ri) (I : List It) (E : List Et) : Nat → Nat → List Tp → List Tp
  | 0, _, L => L
  | m + 1, t, L => tpl As I E m (t + 1) (tp1 As I E t L)
/-- L holds picked tests of numbers below t, in order -/
def TPI (As : List Ri) (I : List It) (E : List Et) (t : Nat) (L : List Tp) : Prop := L.Pairwise bef ∧ L.length ≤ t ∧ ∀ x : Tp, x ∈ L ↔ ∃ a, x.2.2 < t ∧ fkA As 3 (Int32.ofNat x.2.2) As.length 0 = some x.1 ∧ As[x.1]? = some a ∧ ¬ rsn E As I x.1 a = 0 ∧ x.2.1 = est E (riN a)
theorem TPI_s {As : List Ri} {I : List It} {E : List Et} {t : Nat} {L : List Tp} (h : TPI As I E t L) : TPI As I E (t + 1) (tp1 As I E t L) := by
  obtain ⟨h1, h2, h3⟩ := h
  have same : (∀ a k, fkA As 3 (Int32.ofNat t) As.length 0 = some k → As[k]? = some a → rsn E As I k a = 0) → TPI As I E (t + 1) L := fun hn => by
    refine ⟨h1, by omega, fun x => ⟨fun hx => ?_, fun hx => ?_⟩⟩
    · obtain ⟨a, q1, q2⟩ := (h3 x).mp hx
      exact ⟨a, by omega, q2⟩
    · obtain ⟨a, q1, q2, q3, q4, q5⟩ := hx
      refine (h3 x).mpr ⟨a, ?_, q2, q3, q4, q5⟩
      by_cases c : x.2.2 = t
      · rw [c] at q2
        exact absurd (hn a x.1 q2 q3) q4
      · omega
  unfold tp1
  cases hf : fkA As 3 (Int32.ofNat t) As.length 0 with
  | none => exact same (fun a k hk => by rw [hf] at hk; cases hk)
  | some k =>
    dsimp only
    cases ha : As[k]? with
    | none => exact same (fun a k' hk ha' => by rw [hf] at hk; cases hk; rw [ha] at ha'; cases ha')
    | some a =>
      dsimp only
      by_cases c : rsn E As I k a = 0
      · rw [if_pos c]
        exact same (fun a' k' hk ha' => by rw [hf] at hk; cases hk; rw [ha] at ha'; cases ha'; exact c)
      · rw [if_neg c]
        refine ⟨insT_s h1 (fun y hy => ?_), by rw [insT_l]; omega, fun x => ?_⟩
        · obtain ⟨_, q1, _⟩ := (h3 y).mp hy
          exact q1
        · rw [insT_m, h3]
          constructor
          · intro hx
            rcases hx with hx | ⟨b, q1, q2⟩
            · rw [hx]
              exact ⟨a, by show t < t + 1; omega, hf, ha, c, rfl⟩
            · exact ⟨b, by omega, q2⟩
          · intro hx
            obtain ⟨b, q1, q2, q3, q4, q5⟩ := hx
            by_cases c2 : x.2.2 = t
            · left
              rw [c2, hf] at q2
              have e1 : k = x.1 := Option.some.inj q2
              subst e1
              rw [ha] at q3
              cases q3
              exact Prod.ext rfl (Prod.ext q5 c2)
            · right
              exact ⟨b, by omega, q2, q3, q4, q5⟩
theorem TPI_l {As : List Ri} {I : List It} {E : List Et} : ∀ {m t : Nat} {L : List Tp}, TPI As I E t L → TPI As I E (t + m) (tpl As I E m t L)
  | 0, t, L, h => h
  | m + 1, t, L, h => by
    rw [tpl, show t + (m + 1) = t + 1 + m by omega]
    exact TPI_l (TPI_s h)
theorem TPI_0 {As : List Ri} {I : List It} {E : List Et} : TPI As I E 0 [] := ⟨List.Pairwise.nil, Nat.le_refl _, fun x => ⟨fun h => absurd h List.not_mem_nil, fun ⟨a, h, _⟩ => by omega⟩⟩
theorem kdf_3 {f : Nat} (h : f ≤ 4) (hk : kdf f = 3) : f = 4 := by unfold kdf at hk; split at hk <;> omega
def p37F (c k : Nat) : Prop := (62 ≤ c ∧ c ≤ 88) ∨ (44 ≤ c ∧ c ≤ 52) ∨ c = 92 ∨ c = 93
section MPL
variable {As : List Ri} {I : List It} {rv A W : Nat} {e : my_E} {d : Nat} {κ : my_K} {σ σ' : my_S} {Q : my_O → my_K → my_S → Prop} {P : Nat → Nat} {L : List Tp} {E : List Et} {Z : Nat → Ms}
def pkF (c k : Nat) : Prop := caF c k ∨ oF c k
theorem c_37a (ld : LD As I rv σ) (hS : LVs A E σ) (hd : 8 ≤ d) : ∀ (m t : Nat) (L : List Tp) (P : Nat → Nat) (σ' : my_S), t + m = cnK As 3 → TPI As I E t L → slo P → SLr P σ' → σ'.1 62 2 = Int32.ofNat L.length → SLa rv P L σ' → eqp pkF σ σ' → (∀ σ2 P2, slo P2 → SLr P2 σ2 → σ2.1 62 2 = Int32.ofNat (tpl As I E m t L).length → SLa rv P2 (tpl As I E m t L) σ2 → eqp pkF σ σ2 → my_W e d mp_37 75 [(0, .inr (.inr (some 32))), (2, .inl 0)] [] κ σ2 Q) → ys_37_10 e d (Int32.ofNat t) κ σ' Q := by
  have hB := ld.1
  have hrv := ld.2.2.1
  have hA := hS.1
  unfold lg2 at hA
  have h42 := itsB_42 hB
  have h12 : cnK As 3 ≤ 12 := hB.1 3
  have px : ∀ c k, pkF c k → (c = 62 ∧ k = 2) ∨ c = 63 ∨ (65 ≤ c ∧ c ≤ 88) ∨ c = 92 ∨ c = 93 := fun c k hh => by unfold pkF caF oF at hh; omega
  intro m
  induction m with
  | zero =>
    intro t L P σ' ht hT hP hr hc hA' f hQ
    have ld' : LD As I rv σ' := LD_o (LD_30 ld) ld f (fun c k hh => by have := px c k hh; unfold coF; omega)
    unfold ys_37_10
    refine ⟨rv, ld'.2.2.2.2.2.1, in10 hrv, c_196y (kd := 3) ld' (by omega) (by omega) ?_⟩
    rw [my_kI_v, if_neg (fun hh => by have := (oN_lt (by omega) (by omega)).mp hh; omega)]
    exact hQ σ' P hP hr hc hA' f
  | succ m ih =>
    intro t L P σ' ht hT hP hr hc hA' f hQ
    have ld' : LD As I rv σ' := LD_o (LD_30 ld) ld f (fun c k hh => by have := px c k hh; unfold coF; omega)
    have ls' : LVs A E σ' := LVs_o hS f (fun c k hh => by have := px c k hh; unfold lsN; omega)
    obtain ⟨k, hk⟩ := (fkA_w (K := 3) hB (by omega) (show t < 2147483648 by omega)).1 (by omega)
    have hkl := fkA_lt hk
    have ha := List.getElem?_eq_getElem hkl
    generalize As[k] = a at ha
    have hk' : fkA As 3 (Int32.ofNat t) As.length 0 = some k := hk
    have hlen := hT.2.1
    have next : ∀ (L' : List Tp) (P' : Nat → Nat) (σ2 : my_S), tp1 As I E t L = L' → slo P' → SLr P' σ2 → σ2.1 62 2 = Int32.ofNat L'.length → SLa rv P' L' σ2 → eqp pkF σ σ2 → ys_37_67 e d (Int32.ofNat t) κ σ2 Q := by
      intro L' P' σ2 hL hP2 hr2 hc2 hA2 f2
      unfold ys_37_67
      rw [oN_s]
      subst hL
      exact ys_37_10_ok (ih (t + 1) _ P' σ2 (by omega) (TPI_s hT) hP2 hr2 hc2 hA2 f2 (fun σ3 P3 g1 g2 g3 g4 g5 => hQ σ3 P3 g1 g2 (by rw [tpl]; exact g3) (by rw [tpl]; exact g4) g5))
    unfold ys_37_10
    refine ⟨rv, ld'.2.2.2.2.2.1, in10 hrv, c_196y (kd := 3) ld' (by omega) (by omega) ?_⟩
    rw [my_kI_v, if_pos ((oN_lt (by omega) (by omega)).mpr (by omega))]
    refine ⟨rv, ld'.2.2.2.2.2.1, in10 hrv, c_200 hrv ld.2.1 ld'.2.2.2.2.2.2.1.1 ld'.2.2.2.2.2.2.1.2.1 (by omega) ?_⟩
    rw [my_kA_v, hk']
    show if (some (rv + 4 + 3 * k)) = none then _ else _
    rw [if_neg (by simp), ld'.2.2.2.2.2.1]
    refine c_154 ld' ls' ha (by omega) (fun σ1 _ ld1 ls1 f1 => ?_)
    rw [my_kI_v]
    have F1 : eqp pkF σ σ1 := eqp_tr f (eqp_mo f1 (fun c k hh => Or.inr hh))
    have hr1 : SLr P σ1 := SLr_o hr f1 (fun c k hh => by unfold oF at hh; omega)
    have hc1 : σ1.1 62 2 = Int32.ofNat L.length := (eqp_g f1 (by unfold oF; omega)).trans hc
    have ho : ∀ {σa σb : my_S}, SLa rv P L σa → eqp oF σa σb → SLa rv P L σb := fun hs fs => SLa_o hs fs (fun c k hh => fun ⟨i, hi, he⟩ => by
      have := slo_b hP (show i < 12 by omega)
      unfold oF at hh
      omega)
    by_cases c0 : rsn E As I k a = 0
    · rw [c0, if_pos rfl]
      exact next L P σ1 (by unfold tp1; rw [hk']; dsimp only; rw [ha]; dsimp only; rw [if_pos c0]) hP hr1 hc1 (ho hA' f1) F1
    · rw [if_neg c0]
      refine c_158 ld1 ls1 ha (by omega) (fun σ2 f2 => ?_)
      rw [my_kI_v]
      have hr2 : SLr P σ2 := SLr_o hr1 f2 (fun c k hh => by unfold oF at hh; omega)
      have hc2 : σ2.1 62 2 = Int32.ofNat L.length := (eqp_g f2 (by unfold oF; omega)).trans hc1
      refine c_145 (x := (k, est E (riN a), t)) hP hr2 hc2 (by omega) est_b (ho (ho hA' f1) f2) (by omega) (fun σ3 P3 g1 g2 g3 g4 f3 => ?_)
      rw [my_k0_v]
      exact next (insT L (k, est E (riN a), t)) P3 σ3 (by unfold tp1; rw [hk']; dsimp only; rw [ha]; dsimp only; rw [if_neg c0]) g1 g2 g3 g4 (eqp_tr F1 (eqp_tr (eqp_mo f2 (fun c k hh => Or.inr hh)) (eqp_mo f3 (fun c k hh => Or.inl hh))))
/-- what the class has once its runs are planned -/
def CPL (rv W : Nat) (Z : Nat → Ms) (P : Nat → Nat) (pl : List Sp) (st : Nat → Nat) (σ : my_S) : Prop := slo P ∧ SLr P σ ∧ σ.1 62 2 = Int32.ofNat pl.length ∧ pl.length ≤ 12 ∧ σ.1 62 3 = Int32.ofNat W ∧ σ.1 62 4 = 1 ∧ ∀ (i : Nat) p, pl[i]? = some p → SlF rv Z (P i) p σ ∧ (σ.1 (P i) 5 = if st i = 0 then 0 else 1) ∧ (σ.1 (P i) 6 = if st i = 2 then 1 else 0)
theorem c_37b {pl : List Sp} (hL : LOf As I) (ld : LD As I rv σ) (hZ : RZ As I Z) (hW1 : 1 ≤ W ∧ W ≤ 64) (hP : slo P) (hr : SLr P σ) (hc : σ.1 62 2 = Int32.ofNat L.length) (hl12 : L.length ≤ 12) (hw : σ.1 62 3 = Int32.ofNat W) (hrn : σ.1 62 4 = 1) (hA : SLa rv P L σ) (ht : ∀ x ∈ L, ∃ a, As[x.1]? = some a ∧ riF a = 4) (hpl : pl.length = L.length) (hpk : ∀ (i : Nat) p, pl[i]? = some p → ∃ x, L[i]? = some x ∧ x.1 = p.1) (hd : 8 ≤ d) (hQ : ∀ σ', CPL rv W Z P pl (fun _ => 0) σ' → eqp p37F σ σ' → Q (.inl none) κ σ') : ∀ (rs : List Nat) (i : Nat) (fr : Nat → Int32) (σ' : my_S), i + rs.length = L.length → (∀ (j k : Nat), rs[j]? = some k → ∃ x, L[i + j]? = some x ∧ x.1 = k) → pl.drop i = plcS Z W rs fr → FRc fr σ' → (∀ (j : Nat) p, j < i → pl[j]? = some p → SlF rv Z (P j) p σ') → eqp (fun c k => (44 ≤ c ∧ c ≤ 52) ∨ c = 64 ∨ (65 ≤ c ∧ c ≤ 88 ∧ (c % 2 = 1 → (2 ≤ k ∧ k ≤ 4) ∨ (7 ≤ k ∧ k ≤ 10)))) σ σ' → ys_37_75 e d (Int32.ofNat i) κ σ' Q := by
  have hB := ld.1
  have hrv := ld.2.2.1
  intro rs
  induction rs with
  | nil =>
    intro i fr σ' hi hj hp hF hs f
    have hi : i = L.length := by simpa using hi
    unfold ys_37_75
    rw [eqp_g f (by omega), hc, if_neg (fun hh => by have := (oN_lt (by omega) (by omega)).mp hh; omega)]
    refine hQ σ' ⟨hP, SLr_o hr f (fun c k hh => by omega), (eqp_g f (by omega)).trans (by rw [hpl]; exact hc), by omega, (eqp_g f (by omega)).trans hw, (eqp_g f (by omega)).trans hrn, fun j p hpj => ?_⟩ (eqp_mo f (fun c k hh => by unfold p37F; omega))
    have hjl := (List.getElem?_eq_some_iff.mp hpj).1
    obtain ⟨x, hx, _⟩ := hpk j p hpj
    obtain ⟨b1, b2, b3, b4⟩ := slo_b hP (show j < 12 by omega)
    obtain ⟨_, _, s5, s6, _⟩ := hA j x hx
    exact ⟨hs j p (by omega) hpj, by rw [if_pos rfl]; exact (eqp_g f (by omega)).trans s5, by show σ'.1 (P j) 6 = if (0 : Nat) = 2 then 1 else 0; rw [if_neg (by decide)]; exact (eqp_g f (by omega)).trans s6⟩
  | cons k rs ih =>
    intro i fr σ' hi hj hp hF hs f
    rw [List.length_cons] at hi
    obtain ⟨x, hx, hxk⟩ := hj 0 k rfl
    rw [Nat.add_zero] at hx
    obtain ⟨a, ha, h4⟩ := ht x (List.mem_of_getElem? hx)
    rw [hxk] at ha
    obtain ⟨⟨n, hn, hzr⟩, hen, hck⟩ := hZ k a ha h4
    obtain ⟨b1, b2, b3, b4⟩ := slo_b hP (show i < 12 by omega)
    obtain ⟨s0, _, s5, s6, _⟩ := hA i x hx
    rw [hxk] at s0
    have ld' : LD As I rv σ' := LD_o (LD_30 ld) ld f (fun c k hh => by unfold coF; omega)
    have hk42 := (cl_nm ld' ha).2
    have s0' : σ'.2.2 (P i) 0 = some (rv + 4 + 3 * k) := ((f _ _ (by omega)).2.2).trans s0
    have hpi : pl[i]? = some (sp1 Z W fr k) := by
      have := congrArg (fun l => l[0]?) hp
      rw [List.getElem?_drop, Nat.add_zero] at this
      rw [this]
      rfl
    have hp2 : pl.drop (i + 1) = plcS Z W rs (spF Z W fr k) := by
      have := congrArg (fun l => l.drop 1) hp
      rw [List.drop_drop] at this
      rw [this]
      rfl
    unfold ys_37_75
    rw [eqp_g f (by omega), hc, if_pos ((oN_lt (by omega) (by omega)).mpr (by omega))]
    refine c_146 (SLr_o hr f (fun c k hh => by omega)) ((eqp_g f (by omega)).trans hc) hl12 (by omega) (by omega) ?_
    rw [my_kA_v, if_neg (by simp)]
    refine ⟨_, rfl, b3, ?_⟩
    rw [s0', if_neg (by simp)]
    refine ⟨_, rfl, b3, ?_⟩
    rw [s0', ld'.2.2.2.2.2.1]
    refine m_109 (A := 44) (Or.inl rfl) hrv hL ld'.2.2.2.2.2.2.1 hk42 (by omega) (fun σ1 cm1 _ f1 => ?_)
    rw [my_k0_v]
    have ld1 : LD As I rv σ1 := LD_o (LD_30 ld') ld' f1 (fun c k hh => by unfold coF; omega)
    rw [show (100000000 : Int32) = Int32.ofNat 100000000 from rfl]
    refine m_112 (A := 44) (most := 100000000) (n := n) (Or.inl rfl) hrv hL (by omega) hzr ld1.2.2.2.2.2.2.1 cm1 hn (Or.inr hen) (by omega) (fun σ2 cm2 _ f2 => ?_)
    rw [my_kI_v]
    refine ⟨_, rfl, b3, ?_⟩
    have f2' : eqp (fun c _ => 44 ≤ c ∧ c ≤ 52) σ1 σ2 := eqp_mo f2 (fun c k hh => by unfold cmF at hh; omega)
    have f12 := eqp_tr f1 f2'
    have s02 : σ2.2.2 (P i) 0 = some (rv + 4 + 3 * k) := ((f12 _ _ (by omega)).2.2).trans s0'
    refine c_151 (kt := k) ⟨b1, b2⟩ b3 s02 cm2 (by omega) (fun σ3 sl3 f3 => ?_)
    rw [my_k0_v]
    have hF3 : FRc fr σ3 := FRc_o (FRc_o hF f12 (fun c k hh => by omega)) f3 (fun c k hh => by omega)
    have hw3 : σ3.1 62 3 = Int32.ofNat W := (eqp_g f3 (by omega)).trans ((eqp_g f12 (by omega)).trans ((eqp_g f (by omega)).trans hw))
    refine c_147 (fu := Int32.ofNat (zF (Z k))) ⟨b1, b2⟩ b3 hF3 hw3 hW1 sl3.2.2.2.1 (by omega) (fun σ4 g2 g3 g4 hF4 f4 => ?_)
    rw [my_k0_v]
    unfold ys_37_148
    rw [oN_s]
    have sl4 : SlC rv (P i) k (Z k) σ4 := by
      obtain ⟨h0, h1, h2, h3, h4, h5, h6⟩ := sl3
      have o : ∀ {q : Nat}, (q = 0 ∨ 7 ≤ q) → σ4.1 (P i) q = σ3.1 (P i) q ∧ σ4.2.2 (P i) q = σ3.2.2 (P i) q := fun hq => ⟨eqp_g f4 (by omega), (f4 _ _ (by omega)).2.2⟩
      refine ⟨h0, (o (by omega)).2.trans h1, (o (by omega)).1.trans h2, (o (by omega)).1.trans h3, (o (by omega)).2.trans h4, (o (by omega)).1.trans h5, fun kd n hk hn => ?_⟩
      rw [eqp_g f4 (by omega)]
      exact h6 kd n hk hn
    refine ys_37_75_ok (ih (i + 1) (spF Z W fr k) σ4 (by omega) (fun j q hq => ?_) hp2 hF4 (fun j p hjl hpj => ?_) ?_)
    · have := hj (j + 1) q (by rw [List.getElem?_cons_succ]; exact hq)
      rw [show i + 1 + j = i + (j + 1) by omega]
      exact this
    · by_cases cj : j = i
      · subst cj
        rw [hpi] at hpj
        cases hpj
        exact ⟨sl4, g2, g3, g4⟩
      · have hjp : P j ≠ P i := fun hh => cj (hP.2 j i (by omega) (by omega) hh)
        obtain ⟨c1, c2, c3, c4⟩ := slo_b hP (show j < 12 by omega)
        refine SlF_o (hs j p (by omega) hpj) (eqp_tr (eqp_mo f12 (fun c k hh => (Or.inl hh : (44 ≤ c ∧ c ≤ 52) ∨ c = 64 ∨ c = P i ∨ c = P i + 1))) (eqp_tr (eqp_mo f3 (fun c k hh => by omega)) (eqp_mo f4 (fun c k hh => by omega)))) (fun c k hh => by omega)
    · exact eqp_tr f (eqp_tr (eqp_mo f12 (fun c k hh => Or.inl hh)) (eqp_tr (eqp_mo f3 (fun c k hh => by omega)) (eqp_mo f4 (fun c k hh => by omega))))
theorem c_37 (hU : nmU As) (hL : LOf As I) (ld : LD As I rv σ) (hS : LVs A E σ) (hZ : RZ As I Z) (hW1 : 1 ≤ W ∧ W ≤ 64) (hP : slo P) (hr : SLr P σ) (hd : 9 ≤ d) (hQ : ∀ σ' P', CPL rv W Z P' (plcS Z W ((tpl As I E (cnK As 3) 0 []).map (fun x => x.1)) (fun _ => 0)) (fun _ => 0) σ' → eqp p37F σ σ' → Q (.inl none) κ σ') : my_M e d 37 [.inr (.inr (some 32)), .inl (Int32.ofNat W)] κ σ Q := by
  obtain ⟨d, rfl⟩ := dS 1 (show 1 ≤ d by omega)
  have hrv := ld.2.2.1
  have hA := hS.1
  unfold lg2 at hA
  have h12 : cnK As 3 ≤ 12 := ld.1.1 3
  refine ys_37 ?_
  unfold ys_37_0
  refine c_144 (by omega) (fun σ1 g2 g4 g3 g64 f1 => ?_)
  rw [my_k0_v]
  have ld1 : LD As I rv σ1 := LD_o (LD_30 ld) ld f1 (fun c k hh => by unfold coF; omega)
  have ls1 : LVs A E σ1 := LVs_o hS f1 (fun c k hh => by unfold lsN; omega)
  have hT := TPI_l (m := cnK As 3) (TPI_0 (As := As) (I := I) (E := E))
  rw [Nat.zero_add] at hT
  refine ys_37_10_ok (c_37a (σ := σ1) ld1 ls1 (by omega) (cnK As 3) 0 [] P σ1 (Nat.zero_add _) TPI_0 hP (SLr_o hr f1 (fun c k hh => by omega)) g2 (fun i y hy => by simp at hy) eqp_rf (fun σ2 P2 q1 q2 q3 q4 f2 => ?_))
  generalize tpl As I E (cnK As 3) 0 [] = L at hT q3 q4 hQ ⊢
  have px : ∀ c k, pkF c k → (c = 62 ∧ k = 2) ∨ c = 63 ∨ (65 ≤ c ∧ c ≤ 88) ∨ c = 92 ∨ c = 93 := fun c k hh => by unfold pkF caF oF at hh; omega
  have ld2 : LD As I rv σ2 := LD_o (LD_30 ld1) ld1 f2 (fun c k hh => by have := px c k hh; unfold coF; omega)
  refine ys_37_75_ok (c_37b (σ := σ2) (L := L) (P := P2) hL ld2 hZ hW1 q1 q2 q3 (by have := hT.2.1; omega) ((eqp_g f2 (fun hh => by have := px _ _ hh; omega)).trans g3) ((eqp_g f2 (fun hh => by have := px _ _ hh; omega)).trans g4) q4 (fun x hx => ?_) (by rw [plcS_l, List.length_map]) (fun i p hp => ?_) (by omega) (fun σ3 c3 f3 => hQ σ3 P2 c3 (eqp_tr (eqp_mo f1 (fun c k hh => by unfold p37F; omega)) (eqp_tr (eqp_mo f2 (fun c k hh => by have := px c k hh; unfold p37F; omega)) f3))) (L.map (fun x => x.1)) 0 (fun _ => 0) σ2 (by rw [List.length_map, Nat.zero_add]) (fun j k hj => ?_) rfl (fun w hw => (eqp_g f2 (fun hh => by have := px _ _ hh; omega)).trans (g64 w hw)) (fun j p hj => by omega) eqp_rf)
  · obtain ⟨a, _, hf, ha, _⟩ := (hT.2.2 x).mp hx
    obtain ⟨b, hb, hb3⟩ := fkA_k hf
    rw [ha] at hb
    cases hb
    refine ⟨a, ha, ?_⟩
    have hF := (ld.1.2 a (List.mem_of_getElem? ha)).1
    have hlt := kdf_lt hF
    have h3 : kdf (riF a) = 3 := (oN_e1 (b := 3) (c := 3) rfl (by omega) (by omega)).mp hb3
    exact kdf_3 hF h3
  · have := plc_kS hp
    rw [List.getElem?_map] at this
    cases hx : L[i]? with
    | none => rw [hx] at this; cases this
    | some x => rw [hx] at this; exact ⟨x, rfl, Option.some.inj this⟩
  · rw [List.getElem?_map] at hj
    rw [Nat.zero_add]
    cases hx : L[j]? with
    | none => rw [hx] at hj; cases hj
    | some x => rw [hx] at hj; exact ⟨x, rfl, Option.some.inj hj⟩
end MPL
