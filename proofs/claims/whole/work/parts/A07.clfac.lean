/-! ===== the class's factors ===== -/
section MCY
variable {e : my_E} {κ : my_K} {t : Nat → Int32} {n : Nat} {L : List (List Nat)} {LT : Nat → Int32} {I : List It} {w : Bool} {rv cu : Nat}
/-- the end of a call -/
theorem CX_cend {d q o c pl : Nat} {as : Bool} {rt : Option Nat} {b : Int32} {S : St} {σ : my_S} {Q : my_O → my_K → my_S → Prop} (ht : txt t n) (hκ : 1 ≤ κ.2.1 ∧ 6 ≤ κ.2.2) (hCR : CR t n L LT I w rv cu S q (o + 1) σ) (hrt : ∀ k, rt = some k → k < I.length) (hd : 6 ≤ d) (h41 : tkk t n q = 41) (hk : ∀ σ', CR t n L LT I w rv cu (cend I w as rt c pl b S).2 (nx t n q) o σ' → eqp (xF rv cu) σ σ' → Q (.inl (some (.inl (cend I w as rt c pl b S).1))) κ σ') : ys_79_120 e d (Int32.ofNat pl) (bI as) b (itO rv rt) (Int32.ofNat c) κ σ Q := by
  unfold ys_79_120
  refine x_70 (k := 41) ht hCR hd hκ (by omega) rfl (fun _ σ1 g1 f1 => ?_) (fun h => absurd h41 h)
  rw [my_k0_v]
  cases rt with
  | none =>
    rw [show itO rv none = none from rfl, if_pos rfl]
    exact hk σ1 g1 f1
  | some k =>
    have hki := hrt k rfl
    obtain ⟨b1, b2, b3, b4, b5, b6, b7⟩ := CS_it g1.2.2.1 hki
    rw [show itO rv (some k) = some (rv + 4 + 3 * k) from rfl, if_neg (by simp)]
    refine ⟨_, rfl, b2, ?_⟩
    have hk' : ∀ σ', CR t n L LT I w rv cu (cenS I w as k c pl S) (nx t n q) o σ' → eqp (xF rv cu) σ σ' → Q (.inl (some (.inl (if (cenS I w as k c pl S).2.1 = b then (itA I k).2.2.2.1 else 3)))) κ σ' := hk
    unfold cenS at hk'
    have fin : ∀ (S1 : St) (σ2 : my_S), (if Int32.ofNat c = (itA I k).2.2.2.2.1 ∧ as = decide ((itA I k).2.1 = 3) then S else wm w pl S) = S1 → CR t n L LT I w rv cu S1 (nx t n q) o σ2 → eqp (xF rv cu) σ σ2 → ys_79_167 e d b (some (rv + 4 + 3 * k)) κ σ2 Q := fun S1 σ2 hS1 g2 f2 => by
      rw [hS1] at hk'
      unfold ys_79_167
      refine x_87 (r := some k) g2 (fun j hj => by cases hj; exact b1) (by omega) (fun σ3 g3 f3 => ?_)
      rw [my_k0_v, g3.2.2.2.2.1]
      have hq := hk' σ3 g3 (eqp_tr f2 f3)
      refine my_if (fun hh => ?_) (fun hh => ?_)
      · rw [if_pos hh] at hq
        refine ⟨_, rfl, b2, ?_⟩
        unfold ys_79_193
        rw [(CS_it g3.2.2.1 hki).2.2.2.2.1]
        exact hq
      · rw [if_neg hh] at hq
        exact hq
    have bad : (¬ (Int32.ofNat c = (itA I k).2.2.2.2.1 ∧ as = decide ((itA I k).2.1 = 3))) → ys_79_162 e d (Int32.ofNat pl) b (some (rv + 4 + 3 * k)) κ σ1 Q := fun hn => by
      unfold ys_79_162
      refine x_65 (pl := pl) g1 (by omega) rfl (fun σ2 g2 f2 => ?_)
      rw [my_k0_v]
      exact fin _ σ2 (by rw [if_neg hn]) g2 (eqp_tr f1 f2)
    rw [b6]
    refine my_if (fun hc => ?_) (fun hc => bad (fun hh => hc hh.1))
    refine ⟨_, rfl, b2, ?_⟩
    rw [b3]
    have e9 : ∀ t0 : Int32, t0 = bI (decide ((itA I k).2.1 = 3)) → ys_79_159 e d (Int32.ofNat pl) b (some (rv + 4 + 3 * k)) t0 (bI as) κ σ1 Q := fun t0 ht0 => by
      unfold ys_79_159
      rw [ht0]
      refine my_if (fun hh => ?_) (fun hh => bad (fun h2 => hh (by rw [h2.2])))
      have : as = decide ((itA I k).2.1 = 3) := by
        generalize decide ((itA I k).2.1 = 3) = x at hh
        cases as <;> cases x <;> first | rfl | exact absurd hh (by decide)
      exact fin _ σ1 (by rw [if_pos ⟨hc, this⟩]) g1 f1
    refine my_if (fun h3 => e9 1 (by rw [decide_eq_true h3]; rfl)) (fun h3 => e9 0 (by rw [decide_eq_false h3]; rfl))
/-- a call -/
theorem CX_79 {f d pl q o : Nat} {as : Bool} {nm : List Nat} {y : Int32} {S : St} {σ : my_S} {Q : my_O → my_K → my_S → Prop} {res : Nat ⊕ (Int32 × Nat × Nat × St)} (ht : txt t n) (hκ : 1 ≤ κ.2.1 ∧ 6 ≤ κ.2.2) (iA : CXA e κ t n L LT I w rv cu f) (hN : isN nm) (hcx : ccal t n I w (cx t n L LT I w f) as nm pl q o S = some res) (hCR : CR t n L LT I w rv cu S q o σ) (h40 : tkk t n q = 40) (hy : y = Int32.ofNat pl) (hd : 12 * (13 - o) + 11 ≤ d) (ho : o ≤ 12) (hf : ∀ q, res = .inl q → fC κ Q t n rv cu σ q) (hk : ∀ a c q S', res = .inr (a, c, q, S') → ∀ σ', CR t n L LT I w rv cu S' q o σ' → eqp (xF rv cu) σ σ' → Q (.inl (some (.inl a))) κ σ') : my_M e d 79 [.inr (.inr (some 39)), .inr (.inl (nmC nm)), .inl y, .inl (bI as)] κ σ Q := by
  obtain ⟨d, rfl⟩ := dS 1 (show 1 ≤ d by omega)
  subst hy
  have hb := CR_bd ht hCR
  have hr := hCR.2.2.1.2.2.1
  refine ys_79 ?_
  unfold ys_79_0
  refine ⟨rv, hr.1, in10 hr.2.1, ?_⟩
  refine x_195 hN hCR.2.2.1 (by omega) ?_
  rw [my_kA_v]
  refine x_80 (l := nm) (pl := pl) hCR (by omega) rfl (fun σ1 g1 f1 => ?_)
  rw [my_kA_v]
  unfold ccal at hcx
  have hrt : ∀ k, (mnt I w nm 2 pl S).1 = some k → k < I.length := fun k hk => mnt_lt hk
  refine x_69 (k := 40) ht g1 ho (by omega) hκ (by omega) rfl (fun _ h12 σ2 g2 f2 => ?_) (fun h => ?_)
  · rw [my_k0_v, hCR.2.2.2.2.1]
    rw [if_neg (by omega)] at hcx
    have T := tcl ht g2.1 41 (y := 41) (by omega) rfl
    unfold ys_79_48
    refine my_if (fun h41 => ?_) (fun h41 => ?_)
    · rw [if_pos (T.mp h41)] at hcx
      cases hcx
      refine ys_79_50_ok ?_
      unfold ys_79_50
      rw [if_pos rfl]
      exact CX_cend (c := 0) ht hκ g2 hrt (by omega) (T.mp h41) (fun σ3 g3 f3 => hk _ _ _ _ rfl σ3 g3 (eqp_tr (eqp_tr f1 f2) f3))
    · rw [if_neg (fun hh => h41 (T.mpr hh))] at hcx
      refine ys_79_50_ok ?_
      rcases bc_s hcx with ⟨q', h1, h2⟩ | ⟨ty2, c2, q', S2, h1, h2⟩
      · refine iA d 0 (nx t n q) o _ _ _ _ _ σ2 Q _ h1 g2 hrt (by omega) (by omega) (by omega) (fun q2 hq2 => ?_) (fun a c q2 S' hh => by cases hh)
        cases hq2
        exact fC_mo (hf q' h2) (eqp_tr f1 f2)
      · have hq41 : tkk t n q' = 41 := by
          rcases cx_px (t := t) (n := n) (L := L) (LT := LT) (I := I) (w := w) f 11 0 0 0 (mnt I w nm 2 pl S).1 0 (nx t n q) (o + 1) (mnt I w nm 2 pl S).2 [] with ⟨h3, _⟩ | ⟨q3, h3, _⟩ | ⟨a3, c3, q3, S3, r3, h3, h4⟩
          · rw [h1] at h3; cases h3
          · rw [h1] at h3; cases h3
          · rw [h1] at h3
            cases h3
            exact px_a41 _ _ _ _ _ _ _ _ h4
        refine iA d 0 (nx t n q) o _ _ _ _ _ σ2 Q _ h1 g2 hrt (by omega) (by omega) (by omega) (fun q2 hq2 => by cases hq2) (fun a c q2 S' hh σ3 g3 f3 => ?_)
        cases hh
        cases h2
        exact CX_cend ht hκ g3 hrt (by omega) hq41 (fun σ4 g4 f4 => hk _ _ _ _ rfl σ4 g4 (eqp_tr (eqp_tr (eqp_tr f1 f2) f3) f4))
  · rw [if_pos (by omega)] at hcx
    cases hcx
    exact hf q rfl σ1 g1.1 f1
/-- an array's index -/
theorem CX_86 {f d pl q o : Nat} {nm : List Nat} {y : Int32} {S : St} {σ : my_S} {Q : my_O → my_K → my_S → Prop} {res : Nat ⊕ (Int32 × Nat × Nat × St)} (ht : txt t n) (hκ : 1 ≤ κ.2.1 ∧ 6 ≤ κ.2.2) (iL : CXL e κ t n L LT I w rv cu f) (hN : isN nm) (hcx : cidx t n I w (cx t n L LT I w f) nm pl q o S = some res) (hCR : CR t n L LT I w rv cu S q o σ) (h91 : tkk t n q = 91) (hy : y = Int32.ofNat pl) (hd : 12 * (13 - o) + 11 ≤ d) (ho : o ≤ 12) (hf : ∀ q, res = .inl q → fC κ Q t n rv cu σ q) (hk : ∀ a c q S', res = .inr (a, c, q, S') → ∀ σ', CR t n L LT I w rv cu S' q o σ' → eqp (xF rv cu) σ σ' → Q (.inl (some (.inr (.inr (itO rv (mnt I w nm 1 pl S).1))))) κ σ') : my_M e d 86 [.inr (.inr (some 39)), .inr (.inl (nmC nm)), .inl y] κ σ Q := by
  obtain ⟨d, rfl⟩ := dS 1 (show 1 ≤ d by omega)
  subst hy
  have hb := CR_bd ht hCR
  have hr := hCR.2.2.1.2.2.1
  refine ys_86 ?_
  unfold ys_86_0
  refine ⟨rv, hr.1, in10 hr.2.1, ?_⟩
  refine x_195 hN hCR.2.2.1 (by omega) ?_
  rw [my_kA_v]
  refine x_80 (l := nm) (pl := pl) hCR (by omega) rfl (fun σ1 g1 f1 => ?_)
  rw [my_kA_v]
  unfold cidx at hcx
  refine x_69 (k := 91) ht g1 ho (by omega) hκ (by omega) rfl (fun _ h12 σ2 g2 f2 => ?_) (fun h => ?_)
  · rw [my_k0_v]
    rw [if_neg (by omega)] at hcx
    rcases bc_s hcx with ⟨q', h1, h2⟩ | ⟨ty2, c2, q', S2, h1, h2⟩
    · refine CX_81 iL h1 g2 (by omega) (by omega) (fun q2 hq2 => ?_) (fun a c q2 S' hh => by cases hh)
      cases hq2
      exact fC_mo (hf q' h2) (eqp_tr f1 f2)
    · refine CX_81 iL h1 g2 (by omega) (by omega) (fun q2 hq2 => by cases hq2) (fun a c q2 S' hh σ3 g3 f3 => ?_)
      cases hh
      rw [my_k0_v]
      refine x_70 (k := 93) ht g3 (by omega) hκ (by omega) rfl (fun h93 σ4 g4 f4 => ?_) (fun h93 => ?_)
      · rw [if_pos h93] at h2
        cases h2
        rw [my_k0_v]
        exact hk _ _ _ _ rfl σ4 g4 (eqp_tr (eqp_tr (eqp_tr f1 f2) f3) f4)
      · rw [if_neg h93] at h2
        cases h2
        exact hf _ rfl σ3 g3.1 (eqp_tr (eqp_tr f1 f2) f3)
  · rw [if_pos (by omega)] at hcx
    cases hcx
    exact hf q rfl σ1 g1.1 f1
/-- a factor -/
theorem CX_fac {f : Nat} (ht : txt t n) (hκ : 1 ≤ κ.2.1 ∧ 6 ≤ κ.2.2) (iL : CXL e κ t n L LT I w rv cu f) (iA : CXA e κ t n L LT I w rv cu f) (iF : CXF e κ t n L LT I w rv cu f) : CXF e κ t n L LT I w rv cu (f + 1) := by
  intro d p o S σ Q res hcx hCR hd ho hf hk
  have hb := CR_bd ht hCR
  obtain ⟨d, rfl⟩ := dS 1 (show 1 ≤ d by omega)
  unfold cx at hcx
  rw [if_neg (by omega), if_pos rfl] at hcx
  unfold cfac at hcx
  have T : ∀ (k : Nat) (y : Int32), k < 1000 → y = Int32.ofNat k → (σ.1 33 8 = y ↔ tkk t n p = k) := fun k y hk hy => tcl ht hCR.1 k hk hy
  have T45 := T 45 45 (by omega) rfl
  have T33 := T 33 33 (by omega) rfl
  have T2 := T 2 2 (by omega) rfl
  have T40 := T 40 40 (by omega) rfl
  have T3 := T 3 3 (by omega) rfl
  have T315 := T 315 315 (by omega) rfl
  have T316 := T 316 316 (by omega) rfl
  refine ys_83 ?_
  unfold ys_83_0
  -- a sign ahead
  have sgn : ∀ (k : Nat) (y wt cd : Int32), (k = 45 ∨ k = 33) → tkk t n p = k → y = Int32.ofNat k → wt = (if k = 45 then 0 else 1) → cd = (if k = 45 then 19 else 20) → (y = 45 ↔ k = 45) → ys_84_16 e (d - 1) y S.2.1 wt κ σ (my_kI (fun x1 κ2 σ3 => Q (.inl (some (.inl x1))) κ2 σ3) (fun y4 κ5 σ6 => Q (.inr y4) κ5 σ6)) := fun k y wt cd hk45 htk hyk hwt hcd hy45 => by
    rw [if_pos (by omega), htk] at hcx
    unfold ys_84_16
    refine x_69 (k := k) ht hCR ho (by omega) hκ (by omega) hyk (fun _ h12 σ1 g1 f1 => ?_) (fun h => ?_)
    · rw [my_k0_v]
      rw [if_neg (by omega)] at hcx
      rcases bc_s hcx with ⟨q', h1, h2⟩ | ⟨ty2, c2, q', S2, h1, h2⟩
      · refine iF (d - 1) (nx t n p) (o + 1) S σ1 _ _ h1 g1 (by omega) (by omega) (fun q2 hq2 => ?_) (fun a c q2 S' hh => by cases hh)
        cases hq2
        exact fC_mo (hf q' h2) f1
      · refine iF (d - 1) (nx t n p) (o + 1) S σ1 _ _ h1 g1 (by omega) (by omega) (fun q2 hq2 => by cases hq2) (fun a c q2 S' hh σ2 g2 f2 => ?_)
        cases hh
        rw [my_kI_v]
        refine x_64 (pl := nx t n p) g2 (by omega) (clT_pl g1.1) (fun σ3 g3 f3 => ?_)
        rw [my_k0_v, g3.2.1, oN_m]
        obtain ⟨g4, f4⟩ := CR_open (x := o) g3
        have go : ys_84_66 e (d - 1) S.2.1 wt cd κ (my_uI σ3 39 9 (Int32.ofNat o)) (my_kI (fun x1 κ2 σ3 => Q (.inl (some (.inl x1))) κ2 σ3) (fun y4 κ5 σ6 => Q (.inr y4) κ5 σ6)) := by
          unfold ys_84_66
          refine x_67 (k := 1) g4 (by omega) (by omega) rfl (fun σ5 g5 f5 => ?_)
          rw [my_k0_v, g5.2.2.2.2.1]
          have fr := eqp_tr (eqp_tr (eqp_tr (eqp_tr f1 f2) f3) f4) f5
          cases h2
          rw [hwt, hcd] at g5 ⊢
          have g5' : CR t n L LT I w rv cu (sgS w k ty2 (nx t n p) S2) q' o σ5 := g5
          have hq := hk _ _ _ _ rfl σ5 g5' fr
          show if (sgS w k ty2 (nx t n p) S2).2.1 = S.2.1 then _ else _
          unfold ys_84_83
          refine my_if (fun hh => ?_) (fun hh => ?_)
          · rw [if_pos hh] at hq
            rw [my_kI_v]
            exact hq
          · rw [if_neg hh] at hq
            rw [my_kI_v]
            exact hq
        refine my_if (fun h45 => ?_) (fun h45 => ?_)
        · rw [if_pos (hy45.mp h45)] at hcd
          rw [← hcd]
          exact go
        · rw [if_neg (fun hh => h45 (hy45.mpr hh))] at hcd
          rw [← hcd]
          exact go
    · rw [if_pos (by omega)] at hcx
      cases hcx
      exact hf p rfl σ hCR.1 eqp_rf
  have sgn' : ys_83_20 e d (σ.1 33 8) κ σ Q ∨ ¬ (tkk t n p = 45 ∨ tkk t n p = 33) := by
    by_cases hs : tkk t n p = 45 ∨ tkk t n p = 33
    · left
      unfold ys_83_20
      obtain ⟨d', rfl⟩ := dS 1 (show 1 ≤ d by omega)
      refine ys_84 ?_
      unfold ys_84_0
      rw [hCR.2.2.2.2.1]
      rcases hs with h45 | h33
      · rw [T45.mpr h45, if_pos rfl]
        exact sgn 45 45 0 19 (Or.inl rfl) h45 rfl rfl rfl (by simp)
      · rw [T33.mpr h33, if_neg (by decide)]
        exact sgn 33 33 1 20 (Or.inr rfl) h33 rfl rfl rfl (by decide)
    · exact Or.inr hs
  refine my_if (fun h => ?_) (fun n45 => ?_)
  · rcases sgn' with h1 | h1
    · exact h1
    · exact absurd (Or.inl (T45.mp h)) h1
  refine my_if (fun h => ?_) (fun n33 => ?_)
  · rcases sgn' with h1 | h1
    · exact h1
    · exact absurd (Or.inr (T33.mp h)) h1
  rw [T45] at n45
  rw [T33] at n33
  rw [if_neg (by omega)] at hcx
  refine my_if (fun h => ?_) (fun n2 => ?_)
  · -- a name
    have h2 := T2.mp h
    rw [if_neg (by omega), if_neg (by omega), if_neg (by omega), if_neg (by omega), if_pos h2] at hcx
    have hN := (tk2_N h2 ht).1
    obtain ⟨d, rfl⟩ := dS 1 (show 1 ≤ d by omega)
    refine ys_85 ?_
    unfold ys_85_0
    rw [clT_nm ht hCR.1 h2, clT_pl hCR.1, hCR.2.2.2.2.1]
    refine x_55 hCR (by omega) (fun σ1 g1 f1 => ?_)
    rw [my_k0_v]
    have T40' := tcl ht g1.1 40 (y := 40) (by omega) rfl
    have T91' := tcl ht g1.1 91 (y := 91) (by omega) rfl
    refine my_if (fun h40 => ?_) (fun h40 => ?_)
    · have h40 := T40'.mp h40
      rw [if_neg (by omega), if_pos h40] at hcx
      refine CX_79 (as := false) ht hκ iA hN hcx g1 h40 rfl (by omega) ho (fun q hq => fC_mo (hf q hq) f1) (fun a c q S' hh σ2 g2 f2 => ?_)
      rw [my_kI_v, my_kI_v]
      exact hk a c q S' hh σ2 g2 (eqp_tr f1 f2)
    rw [T40'] at h40
    refine my_if (fun h91 => ?_) (fun h91 => ?_)
    · have h91 := T91'.mp h91
      rw [if_pos h91] at hcx
      rcases bc_s hcx with ⟨q', h1, h3⟩ | ⟨ty2, c2, q', S2, h1, h3⟩
      · refine CX_86 ht hκ iL hN h1 g1 h91 rfl (by omega) ho (fun q2 hq2 => ?_) (fun a c q2 S' hh => by cases hh)
        cases hq2
        exact fC_mo (hf q' h3) f1
      · refine CX_86 ht hκ iL hN h1 g1 h91 rfl (by omega) ho (fun q2 hq2 => by cases hq2) (fun a c q2 S' hh σ2 g2 f2 => ?_)
        cases hh
        cases h3
        rw [my_kA_v]
        refine x_87 g2 (fun k hk => by have := mnt_lt hk; have := hCR.2.2.1.2.2.2.2.1; omega) (by omega) (fun σ3 g3 f3 => ?_)
        rw [my_k0_v, g3.2.2.2.2.1]
        have hq := hk _ _ _ _ rfl σ3 g3 (eqp_tr (eqp_tr f1 f2) f3)
        unfold ys_85_87
        refine my_if (fun hh => ?_) (fun hh => ?_)
        · rw [if_pos hh] at hq
          rw [my_kI_v]
          exact hq
        · rw [if_neg hh] at hq
          rw [my_kI_v]
          exact hq
    rw [T91'] at h91
    rw [if_neg h91, if_neg h40] at hcx
    refine x_74 hN g1.2.2.1 (by omega) ?_
    rw [my_kI_v]
    cases hkw : kwi L (tkm t n p) 0 with
    | some j =>
      rw [hkw] at hcx
      cases hcx
      have hj := kwi_lt hkw
      have hL := g1.2.2.1.2.1.2.1
      show if Int32.ofNat j = Int32.ofInt (-1) then _ else _
      rw [if_neg (fun hh => absurd (congrArg Int32.toInt hh) (by rw [oN_i (by omega), show (Int32.ofInt (-1)).toInt = -1 from rfl]; omega))]
      refine x_67 (k := 1) g1 (by omega) (by omega) rfl (fun σ2 g2 f2 => ?_)
      rw [my_k0_v]
      refine x_67 (k := 1) g2 (by omega) (by omega) rfl (fun σ3 g3 f3 => ?_)
      rw [my_k0_v]
      refine x_88 g3.2.2.1 (by omega) (by omega) ?_
      rw [my_kI_v, my_kI_v]
      exact hk _ _ _ _ rfl σ3 g3 (eqp_tr (eqp_tr f1 f2) f3)
    | none =>
      rw [hkw] at hcx
      cases hcx
      show if Int32.ofInt (-1) = Int32.ofInt (-1) then _ else _
      rw [if_pos rfl]
      have hr := g1.2.2.1.2.2.1
      refine ⟨rv, hr.1, in10 hr.2.1, ?_⟩
      refine x_195 hN g1.2.2.1 (by omega) ?_
      rw [my_kA_v]
      refine x_80 (l := tkm t n p) (pl := p) g1 (by omega) rfl (fun σ2 g2 f2 => ?_)
      rw [my_kA_v]
      refine x_87 g2 (fun k hk => by have := mnt_lt hk; have := hCR.2.2.1.2.2.2.2.1; omega) (by omega) (fun σ3 g3 f3 => ?_)
      rw [my_k0_v]
      have hq := hk _ _ _ _ rfl σ3 g3 (eqp_tr (eqp_tr f1 f2) f3)
      unfold ys_85_159
      cases hm : (mnt I w (tkm t n p) 0 p S).1 with
      | none =>
        rw [hm] at hq
        rw [show itO rv none = none from rfl, if_pos rfl, my_kI_v]
        exact hq
      | some k =>
        rw [hm] at hq
        have hki := mnt_lt hm
        rw [show itO rv (some k) = some (rv + 4 + 3 * k) from rfl, if_neg (by simp)]
        refine ⟨_, rfl, (CS_it g3.2.2.1 hki).2.1, ?_⟩
        rw [my_kI_v, (CS_it g3.2.2.1 hki).2.2.2.2.1]
        exact hq
  rw [T2] at n2
  refine my_if (fun h => ?_) (fun n40 => ?_)
  · have h40 := T40.mp h
    rw [if_pos h40] at hcx
    refine x_69 (k := 40) ht hCR ho (by omega) hκ (by omega) rfl (fun _ h12 σ1 g1 f1 => ?_) (fun h => ?_)
    · rw [my_k0_v]
      rw [if_neg (by omega)] at hcx
      rcases bc_s hcx with ⟨q', h1, h2⟩ | ⟨ty2, c2, q', S2, h1, h2⟩
      · refine iL d 0 (nx t n p) (o + 1) S σ1 _ _ (by omega) h1 g1 (by omega) (by omega) (fun q2 hq2 => ?_) (fun a c q2 S' hh => by cases hh)
        cases hq2
        exact fC_mo (hf q' h2) f1
      · refine iL d 0 (nx t n p) (o + 1) S σ1 _ _ (by omega) h1 g1 (by omega) (by omega) (fun q2 hq2 => by cases hq2) (fun a c q2 S' hh σ2 g2 f2 => ?_)
        cases hh
        rw [my_kI_v]
        refine x_70 (k := 41) ht g2 (by omega) hκ (by omega) rfl (fun h41 σ3 g3 f3 => ?_) (fun h41 => ?_)
        · rw [if_pos h41] at h2
          cases h2
          rw [my_k0_v]
          exact hk _ _ _ _ rfl σ3 g3 (eqp_tr (eqp_tr f1 f2) f3)
        · rw [if_neg h41] at h2
          cases h2
          exact hf _ rfl σ2 g2.1 (eqp_tr f1 f2)
    · rw [if_pos (by omega)] at hcx
      cases hcx
      exact hf p rfl σ hCR.1 eqp_rf
  rw [T40] at n40
  rw [if_neg n40] at hcx
  have e3 : ∀ x : Nat, x < 1000 → (Int32.ofNat x = 3 ↔ x = 3) := fun x hx => oN_e (b := 3) (by omega) (by omega)
  -- true or false
  have tf : ∀ (k cd : Nat), (k = 315 ∧ cd = 2 ∨ k = 316 ∧ cd = 3) → some (.inr ((1 : Int32), 0, nx t n p, wr w (Int32.ofNat cd) 1 S)) = some res → ys_83_129 e d (Int32.ofNat k) (Int32.ofNat cd) κ σ Q := fun k cd hkc hres => by
    cases hres
    unfold ys_83_129
    refine x_67 (k := 1) hCR (by omega) (by omega) rfl (fun σ1 g1 f1 => ?_)
    rw [my_k0_v]
    unfold ys_83_133 ys_83_150
    refine x_55 g1 (by omega) (fun σ2 g2 f2 => ?_)
    rw [my_k0_v, if_neg (by rw [e3 k (by omega)]; omega)]
    exact hk _ _ _ _ rfl σ2 g2 (eqp_tr f1 f2)
  refine my_if (fun h => ?_) (fun n3 => ?_)
  · have h3 := T3.mp h
    rw [if_pos h3] at hcx
    cases hcx
    unfold ys_83_82 ys_83_87
    refine x_60 (by omega) hκ (fun _ => ?_) (fun hh => absurd hh (by decide))
    rw [my_k0_v, h, if_pos rfl]
    refine x_67 (k := 1) hCR (by omega) (by omega) rfl (fun σ1 g1 f1 => ?_)
    rw [my_k0_v, clT_nu ht g1.1 h3]
    refine x_67 (k := 4) g1 (by omega) (by omega) rfl (fun σ2 g2 f2 => ?_)
    rw [my_k0_v]
    unfold ys_83_133 ys_83_150
    refine x_55 g2 (by omega) (fun σ3 g3 f3 => ?_)
    rw [my_k0_v, if_pos rfl]
    exact hk _ _ _ _ rfl σ3 g3 (eqp_tr (eqp_tr f1 f2) f3)
  rw [T3] at n3
  rw [if_neg n3] at hcx
  refine my_if (fun h => ?_) (fun n315 => ?_)
  · have h315 := T315.mp h
    rw [if_pos h315] at hcx
    unfold ys_83_82 ys_83_87
    refine x_60 (by omega) hκ (fun _ => ?_) (fun hh => absurd hh (by decide))
    rw [my_k0_v, h, if_neg (by decide), if_pos rfl]
    exact tf 315 2 (by omega) hcx
  rw [T315] at n315
  rw [if_neg n315] at hcx
  refine my_if (fun h => ?_) (fun n316 => ?_)
  · have h316 := T316.mp h
    rw [if_pos h316] at hcx
    unfold ys_83_82 ys_83_87
    refine x_60 (by omega) hκ (fun _ => ?_) (fun hh => absurd hh (by decide))
    rw [my_k0_v, h, if_neg (by decide), if_neg (by decide)]
    exact tf 316 3 (by omega) hcx
  rw [T316] at n316
  rw [if_neg n316, if_neg n2] at hcx
  cases hcx
  unfold ys_83_87
  exact x_60 (by omega) hκ (fun h => absurd rfl h) (fun _ => hf p rfl σ hCR.1 eqp_rf)
/-- all of it -/
theorem CX (ht : txt t n) (hκ : 1 ≤ κ.2.1 ∧ 6 ≤ κ.2.2) : ∀ f, CXL e κ t n L LT I w rv cu f ∧ CXC e κ t n L LT I w rv cu f ∧ CXA e κ t n L LT I w rv cu f ∧ CXF e κ t n L LT I w rv cu f := by
  intro f
  induction f with
  | zero => exact ⟨fun d m p o S σ Q res _ h => by simp [cx] at h, fun d m ty b pl p o v S σ Q res _ _ h => by simp [cx] at h, fun d c p o rt v3 v4 v5 S σ Q res h => by simp [cx] at h, fun d p o S σ Q res h => by simp [cx] at h⟩
  | succ f ih =>
    obtain ⟨iL, iC, iA, iF⟩ := ih
    have hF := CX_fac ht hκ iL iA iF
    exact ⟨CX_level ht iL iC hF, CX_chain ht iL iC, CX_args ht hκ iL iA, hF⟩
end MCY
