
/-! ===== the class loads ===== -/
theorem tmR_ex {I : List It} {a : Ri} (m : Option Nat) : ∃ m', tmR I a m m' := by
  unfold tmR
  by_cases h0 : riF a = 0
  · simp only [if_pos h0]; exact ⟨_, rfl⟩
  simp only [if_neg h0]
  by_cases h1 : riF a = 1
  · simp only [if_pos h1]; exact ⟨_, rfl⟩
  simp only [if_neg h1]
  exact ⟨_, fun j => ((riQ a)[j]?).getD 0, fun j x hj => by show ((riQ a)[j]?).getD 0 = x; rw [hj]; rfl, rfl⟩
theorem tmA_ex {I : List It} : ∀ (As : List Ri) (m : Option Nat), ∃ m', tmA I As m m'
  | [], m => ⟨m, rfl⟩
  | a :: As, m => by
    obtain ⟨m1, h1⟩ := tmR_ex (I := I) (a := a) m
    obtain ⟨m2, h2⟩ := tmA_ex As m1
    exact ⟨m2, m1, h1, h2⟩
theorem mfI_inj {a b : Option Nat} (h1 : okM a) (h2 : okM b) (h : mfI a = mfI b) : a = b := by
  cases a with
  | none => exact ((mfI_lt h2).mp (by rw [← h]; exact (mfI_lt h1).mpr rfl)).symm
  | some x =>
    cases b with
    | none => exact (mfI_lt h1).mp (by rw [h]; exact (mfI_lt h2).mpr rfl)
    | some y =>
      have := (oN_e (h1 x rfl) (h2 y rfl)).mp h
      rw [this]
theorem pis_Rl {t : Nat → Int32} {n : Nat} (ht : txt t n) : ∀ (f : Nat) (A0 : List Ri) (i p : Nat) (As : List Ri), p ≤ n → (rwA A0).length ≤ p → pis t n f A0 i p = .inr As → (rwA As).length ≤ n := by
  intro f
  induction f with
  | zero => intro A0 i p As _ _ hx; unfold pis at hx; cases hx
  | succ f ih =>
    intro A0 i p As hp hi hx
    unfold pis at hx
    cases hpi : pit t n A0 i p with
    | inl q => rw [hpi] at hx; cases hx
    | inr v =>
      obtain ⟨a, q⟩ := v
      rw [hpi] at hx
      dsimp only at hx
      have pB := (pit_B (As := A0) (i := i) ht hp).2 a q hpi
      have hl : (rwA (A0 ++ [a])).length = (rwA A0).length + (riR a).length := by rw [rwA_a, List.length_append]; simp [rwA]
      have hr := pB.2.2.2.2.2.2.2.2.2.1
      have hqn := pB.2.1
      by_cases h2 : tkk t n q = 0
      · rw [if_pos h2] at hx
        cases hx
        omega
      · rw [if_neg h2] at hx
        exact ih (A0 ++ [a]) _ q As pB.2.1 (by omega) hx
theorem pis_R {t : Nat → Int32} {n : Nat} {As : List Ri} (ht : txt t n) (h : pis t n 43 [] 0 (ps t n 0) = .inr As) : (rwA As).length ≤ 3200 := by
  have := pis_Rl ht 43 [] 0 (ps t n 0) As (ps_le ht 0) (by simp [rwA]) h
  have := ht.1
  omega
/-- what the class has of what is loaded -/
def RevC (I : List It) (As : List Ri) (rv : Nat) (σ : my_S) : Prop := CIm I rv σ ∧ OD (As.map (fun a => a.1)) rv σ ∧ (σ.1 rv 1 = Int32.ofNat (ibA I 0 As).length ∧ ∀ i x, (ibA I 0 As)[i]? = some x → σ.1 (rv + 1) i = x) ∧ (ibA I 0 As).length ≤ 6144 ∧ ∀ j a, As[j]? = some a → itC I As rv j a σ
def clF (rv c k : Nat) : Prop := c = 33 ∨ (35 ≤ c ∧ c ≤ 37) ∨ (c = 39 ∧ 1 ≤ k) ∨ (40 ≤ c ∧ c ≤ 42) ∨ (rv ≤ c ∧ c < rv + 130 ∧ c ≠ rv + 2)
def clG (rv c k : Nat) : Prop := clF rv c k ∨ (c = 32 ∧ 7 ≤ k ∧ k ≤ 11) ∨ (c = 62 ∧ (k = 2 ∨ k = 4))
theorem itC_o {F : Nat → Nat → Prop} {I : List It} {As : List Ri} {rv j : Nat} {a : Ri} {σ σ' : my_S} (hj : j < 42) (h : itC I As rv j a σ) (he : eqp F σ σ') (hF : ∀ c k, F c k → ¬ (rv ≤ c ∧ c < rv + 130)) : itC I As rv j a σ' := by
  have g : ∀ {c k}, rv ≤ c → c < rv + 130 → ¬ F c k := fun h1 h2 hh => hF _ _ hh ⟨h1, h2⟩
  obtain ⟨h1, h2, h3, h4⟩ := h
  refine ⟨fun hf => (eqp_g he (g (by omega) (by omega))).trans (h1 hf), (eqp_g he (g (by omega) (by omega))).trans h2, (eqp_g he (g (by omega) (by omega))).trans h3, fun hf => ?_⟩
  obtain ⟨x1, x2, x3, x4, x5, x6, x7⟩ := h4 hf
  exact ⟨x1, (eqp_g he (g (by omega) (by omega))).trans x2, (eqp_g he (g (by omega) (by omega))).trans x3, (eqp_g he (g (by omega) (by omega))).trans x4, (eqp_g he (g (by omega) (by omega))).trans x5, x6, fun i x hi => ⟨(x7 i x hi).1, ((he _ _ (g (by omega) (by omega))).2.2).trans (x7 i x hi).2⟩⟩
theorem RevC_o {F : Nat → Nat → Prop} {I : List It} {As : List Ri} {rv : Nat} {σ σ' : my_S} (hrel : iRel As I) (h : RevC I As rv σ) (he : eqp F σ σ') (hF : ∀ c k, F c k → ¬ (rv ≤ c ∧ c < rv + 130)) : RevC I As rv σ' := by
  have g : ∀ {c k}, rv ≤ c → c < rv + 130 → ¬ F c k := fun h1 h2 hh => hF _ _ hh ⟨h1, h2⟩
  obtain ⟨h1, h2, ⟨h3, h3'⟩, h4, h5⟩ := h
  have h42 : As.length ≤ 42 := by rw [← hrel.1]; exact h1.2.1
  refine ⟨CIm_o h1 he (fun c k hh => ?_), OD_o h2 (by rw [List.length_map]; exact h42) he (fun c k hh => ?_), ⟨(eqp_g he (g (by omega) (by omega))).trans h3, fun i x hi => (eqp_g he (g (by omega) (by omega))).trans (h3' i x hi)⟩, h4, fun j a ha => itC_o (by have := (List.getElem?_eq_some_iff.mp ha).1; omega) (h5 j a ha) he hF⟩
  · have := hF c k hh
    exact ⟨by omega, by omega, fun j hj => ⟨by omega, by omega⟩⟩
  · have := hF c k hh
    exact ⟨by omega, fun j hj => by omega⟩
section MCN
variable {e : my_E} {d : Nat} {κ : my_K} {σ : my_S} {Q : my_O → my_K → my_S → Prop} {t : Nat → Int32} {n : Nat} {rv : Nat}
/-- the class's bytes are the text's -/
theorem RevC_of {As : List Ri} {I : List It} {S : St} {p : Nat} (ht : txt t n) (hB : itsB As) (hrel : iRel As I) (hRl : (rwA As).length ≤ 3200) (h : CB t n I true rv S p σ) (hod : OD (As.map (fun a => a.1)) rv σ) (hp : pR2 t n As I rv As.length St0 S p σ) (hm : tmA I As none none) : RevC I As rv σ := by
  obtain ⟨i1, i2, i3, i4, i5, i6⟩ := pR2_t ht hB hrel hRl As.length S p none (Nat.le_refl _) hp (by rw [List.take_length]; exact hm)
  obtain ⟨j1, j2, j3⟩ := i6 rfl
  rw [List.take_length] at j1
  obtain ⟨b1, b2, b3⟩ := h.2.2.2.2.2.2
  rw [j1] at b1 b3 i4
  exact ⟨h.2.2.2.1, hod, ⟨b1, b3⟩, i4, fun j a ha => j3 j a (List.getElem?_eq_some_iff.mp ha).1 ha⟩
theorem c_6 (hd : 2 ≤ d) (hQ : ∀ σ', σ'.2.2 32 7 = σ.2.2 32 9 → σ'.2.2 32 8 = σ.2.2 32 7 → σ'.2.2 32 9 = σ.2.2 32 8 → σ'.1 32 10 = σ.1 32 10 + 1 → σ'.1 32 11 = 0 → σ'.1 62 2 = 0 → σ'.1 62 4 = 0 → eqp (fun c k => (c = 32 ∧ 7 ≤ k ∧ k ≤ 11) ∨ (c = 62 ∧ (k = 2 ∨ k = 4))) σ σ' → Q (.inl none) κ σ') : my_M e d 6 [.inr (.inr (some 32))] κ σ Q := by
  obtain ⟨d, rfl⟩ := dS 2 hd
  refine ys_6 ?_
  unfold ys_6_0
  refine ys_141 ?_
  unfold ys_141_0
  rw [my_k0_v]
  refine hQ _ ?_ ?_ ?_ ?_ ?_ ?_ ?_ (eqp_I (eqp_I (eqp_I (eqp_I (eqp_A (eqp_A (eqp_A eqp_rf (by omega)) (by omega)) (by omega)) (by omega)) (by omega)) (by omega)) (by omega))
  all_goals simp [my_uI, my_uA]
theorem c_load (ht : txt t n) (hx : txC t n σ) (hw : kwC σ) (hκ : 1 ≤ κ.2.1 ∧ 6 ≤ κ.2.2) (hd : 200 ≤ d) (hrv : rv = 108 ∨ rv = 238 ∨ rv = 368) (h9 : σ.2.2 32 9 = some rv) (hrf : ∀ k, k < 42 → σ.2.2 (rv + 2) k = some (rv + 4 + 3 * k))
    (hf : ∀ q σ', pis t n 43 [] 0 (ps t n 0) = .inl q → σ'.1 33 1 = 0 → eqp (clF rv) σ σ' → Q (.inl (some (.inl (Int32.ofNat q)))) (κ.1 + 1, κ.2.1 - 1, κ.2.2 - 6) σ')
    (hm : ∀ As I q σ', pis t n 43 [] 0 (ps t n 0) = .inr As → itsB As → iRel As I → (∀ m, tmA I As none m → m = some q) → σ'.1 33 1 = 0 → eqp (clF rv) σ σ' → Q (.inl (some (.inl (5000 + Int32.ofNat q)))) κ σ')
    (hQ : ∀ As I σ', pis t n 43 [] 0 (ps t n 0) = .inr As → itsB As → iRel As I → (∀ m, tmA I As none m → m = none) → RevC I As rv σ' → σ'.1 33 1 = 0 → σ'.2.2 32 7 = some rv → σ'.2.2 32 8 = σ.2.2 32 7 → σ'.2.2 32 9 = σ.2.2 32 8 → σ'.1 32 10 = σ.1 32 10 + 1 → σ'.1 32 11 = 0 → σ'.1 62 2 = 0 → σ'.1 62 4 = 0 → eqp (clG rv) σ σ' → Q (.inl (some (.inl (Int32.ofInt (-1))))) κ σ') : my_M e d 2 [.inr (.inr (some 32))] κ σ Q := by
  obtain ⟨d, rfl⟩ := dS 1 (show 1 ≤ d by omega)
  have hn := ht.1
  refine ys_2 ?_
  unfold ys_2_0
  obtain ⟨d, rfl⟩ := dS 6 (show 6 ≤ d by omega)
  refine c_44 ht hx hw (fun c σ1 g1 f1o _ => ?_)
  rw [my_k0_v]
  have f1 : eqp (clF rv) σ σ1 := eqp_mo (eqo_p f1o) (fun c k hh => by unfold scF at hh; unfold clF; omega)
  have lc : ∀ {c k}, lF rv c k → clF rv c k := fun hh => by unfold lF at hh; unfold clF; omega
  have k9 : σ1.2.2 32 9 = some rv := ((f1 32 9 (by unfold clF; omega)).2.2).trans h9
  rw [k9]
  have e84 : ∀ (v : Int32) (κ' : my_K) (σ' : my_S), v ≠ Int32.ofInt (-1) → eqp (clF rv) σ σ' → (∀ σ'', σ''.1 33 1 = 0 → eqp (clF rv) σ σ'' → eqp (fun c k => c = 33 ∧ k = 1) σ' σ'' → Q (.inl (some (.inl v))) κ' σ'') → ys_2_84 e (d + 6) v κ' σ' Q := fun v κ' σ' hv f' hq => by
    unfold ys_2_84 ys_2_101
    rw [if_neg hv]
    exact hq _ uI_s (eqp_I f' (Or.inl rfl)) (eqp_I eqp_rf ⟨rfl, rfl⟩)
  refine y_58a (c := c) ht hκ (by omega) hrv g1 (fun k hk => ?_) (fun q σ2 hq g2 f2 => ?_) (fun As I p σ2 hq hB hrel g2 o2 nd2 f2 => ?_)
  · rw [(f1 (rv + 2) k (by unfold clF; omega)).2.2]
    exact hrf k hk
  · rw [my_kI_v, if_pos rfl]
    obtain ⟨_, _, _, _, hpq, _, _, hq9, _⟩ := g2
    rw [hq9]
    have hq15 := ps_le ht
    have hqn : q ≤ n := by rw [← hpq]; exact ps_le ht _
    exact e84 _ _ σ2 (fun hh => by
      have := congrArg Int32.toInt hh
      rw [oN_i (by omega)] at this
      have e1 : (Int32.ofInt (-1)).toInt = -1 := by decide
      omega) (eqp_tr f1 (eqp_mo f2 (fun _ _ => lc))) (fun σ3 z1 z2 _ => hf q σ3 hq z1 z2)
  · rw [my_kI_v, if_neg (by decide)]
    obtain ⟨_, c2, htk2, _⟩ := g2.1
    have k9' : σ2.2.2 32 9 = some rv := ((f2 32 9 (by unfold lF; omega)).2.2).trans k9
    rw [k9']
    refine y_58b (c := c2) (As := As) (I := I) ht hκ (by omega) htk2 hq hB hrel g2 o2 nd2 (fun S p3 σ3 g3 o3 pp3 f3 => ?_)
    rw [my_kI_v, if_neg (by decide)]
    have f13 : eqp (clF rv) σ σ3 := eqp_tr f1 (eqp_mo (eqp_tr f2 f3) (fun _ _ => lc))
    have hRl : (rwA As).length ≤ 3200 := pis_R ht hq
    obtain ⟨m, hmA⟩ := tmA_ex (I := I) As none
    have tie : ∀ m, tmA I As none m → S.1 = mfI m ∧ okM m ∧ ∀ x, m = some x → x ≤ 1500 := fun m hmA => by
      obtain ⟨i1, i2, i3, i4, i5, i6⟩ := pR2_t ht hB hrel hRl As.length S p3 m (Nat.le_refl _) pp3 (by rw [List.take_length]; exact hmA)
      exact ⟨i2, i3, i5⟩
    have inj : ∀ m', tmA I As none m' → m' = m := fun m' h' => by
      have h1 := tie m' h'
      have h2 := tie m hmA
      have h3 : mfI m' = mfI m := h1.1.symm.trans h2.1
      exact mfI_inj h1.2.1 h2.2.1 h3
    have k4 : σ3.1 39 4 = S.1 := g3.2.2.2.2.1
    rw [k4, (tie m hmA).1]
    cases m with
    | some q =>
      have hq15 := (tie _ hmA).2.2 q rfl
      rw [if_neg (fun hh => by have := (mfI_lt (tie _ hmA).2.1).mp (by rw [hh]; decide); cases this)]
      have e5 : (5000 : Int32) + mfI (some q) = Int32.ofNat (5000 + q) := by
        show (5000 : Int32) + Int32.ofNat q = _
        rw [Int32.ofNat_add]
        rfl
      refine e84 _ _ σ3 (fun hh => ?_) f13 (fun σ4 z1 z2 _ => hm As I q σ4 hq hB hrel inj z1 z2)
      rw [e5] at hh
      have := congrArg Int32.toInt hh
      rw [oN_i (by omega)] at this
      have e1 : (Int32.ofInt (-1)).toInt = -1 := by decide
      omega
    | none =>
      rw [if_pos (show mfI none = Int32.ofInt (-1) from rfl)]
      unfold ys_2_84
      rw [if_pos rfl]
      have hR := RevC_of ht hB hrel hRl g3 o3 pp3 hmA
      have f4 : eqp (fun c k => c = 33 ∧ k = 1) σ3 (my_uI σ3 33 1 0) := eqp_I eqp_rf ⟨rfl, rfl⟩
      have u4 : (my_uI σ3 33 1 0).1 33 1 = 0 := uI_s
      generalize my_uI σ3 33 1 0 = σ4 at f4 u4 ⊢
      have f14 : eqp (clF rv) σ σ4 := eqp_tr f13 (eqp_mo f4 (fun c k hh => Or.inl hh.1))
      refine c_6 (by omega) (fun σ5 a7 a8 a9 a10 a11 b2 b4 f5 => ?_)
      rw [my_k0_v]
      unfold ys_2_101
      have q32 : ∀ k, σ4.2.2 32 k = σ.2.2 32 k := fun k => (f14 32 k (by unfold clF; omega)).2.2
      refine hQ As I σ5 hq hB hrel inj ?_ ?_ ?_ ?_ ?_ ?_ a11 b2 b4 (eqp_tr (eqp_mo f14 (fun _ _ => Or.inl)) (eqp_mo f5 (fun _ _ => Or.inr)))
      · exact RevC_o hrel (RevC_o hrel hR f4 (fun c k hh => by omega)) f5 (fun c k hh => by omega)
      · exact (eqp_g f5 (by omega)).trans u4
      · rw [a7, q32]; exact h9
      · rw [a8, q32]
      · rw [a9, q32]
      · rw [a10, eqp_g f14 (show ¬ clF rv 32 10 by unfold clF; omega)]
end MCN
