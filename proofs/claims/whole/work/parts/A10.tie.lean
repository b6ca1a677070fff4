/-! ===== class and reference agree on the types and the bytes of expressions ===== -/
theorem sim_rr {x : Cs} {y : Rs} {a : Int32} {c q c' q' : Nat} {S : St} {r : List Rw} (h : sim x y) (h1 : x = some (.inr (a, c, q, S))) (h2 : y = some (.inr (r, c', q'))) : c = c' ∧ q = q' := by
  rcases h with ⟨g1, g2⟩ | ⟨z, g1, g2⟩ | ⟨_, _, _, _, _, g1, g2⟩
  · rw [g1] at h1; cases h1
  · rw [g1] at h1; cases h1
  · rw [g1] at h1; rw [g2] at h2; cases h1; cases h2; exact ⟨rfl, rfl⟩
section MTX
variable {t : Nat → Int32} {n : Nat} {L : List (List Nat)} {LT : Nat → Int32} {I : List It}
def TYL (t : Nat → Int32) (n : Nat) (L : List (List Nat)) (LT : Nat → Int32) (I : List It) (f : Nat) : Prop := ∀ (m p o : Nat) (S : St) (a : Int32) (c q : Nat) (S' : St) (r : List Rw), m ≤ 5 → p ≤ n → cx t n L LT I true f m 0 0 0 none 0 p o S = some (.inr (a, c, q, S')) → px t n L f m [] 0 p o = some (.inr (r, c, q)) → TY L LT I S r p q a S'
def TYC (t : Nat → Int32) (n : Nat) (L : List (List Nat)) (LT : Nat → Int32) (I : List It) (f : Nat) : Prop := ∀ (m : Nat) (ty : Int32) (pl p o : Nat) (S0 S : St) (r0 : List Rw) (a : Int32) (c q : Nat) (S' : St) (r : List Rw), 6 ≤ m → m ≤ 10 → pl < p → p ≤ n → TY L LT I S0 r0 pl p ty S → cx t n L LT I true f m ty S0.2.1 pl none 0 p o S = some (.inr (a, c, q, S')) → px t n L f m r0 0 p o = some (.inr (r, c, q)) → TY L LT I S0 r pl q a S'
def TYA (t : Nat → Int32) (n : Nat) (L : List (List Nat)) (LT : Nat → Int32) (I : List It) (f : Nat) : Prop := ∀ (rt : Option Nat) (c p0 p o : Nat) (S0 S : St) (r0 : List Rw) (a : Int32) (c' q : Nat) (S' : St) (r : List Rw), p0 ≤ p → p ≤ n → c ≤ p → TA L LT I rt S0 r0 p0 p c S → cx t n L LT I true f 11 0 0 0 rt c p o S = some (.inr (a, c', q, S')) → px t n L f 11 r0 c p o = some (.inr (r, c', q)) → TA L LT I rt S0 r p0 q c' S' ∧ c' ≤ q
theorem TX_C {f : Nat} (ht : txt t n) (iL : TYL t n L LT I f) (iC : TYC t n L LT I f) : TYC t n L LT I (f + 1) := by
  intro m ty pl p o S0 S r0 a c q S' r hm6 hm10 hpl hp hT hcx hpx
  have hn := ht.1
  unfold cx at hcx
  unfold px at hpx
  rw [if_neg (by omega), if_neg (by omega), if_pos (by omega)] at hcx hpx
  by_cases hr : rnk (tkk t n p) = m - 5
  · rw [if_pos hr] at hcx hpx
    have hlt := nx_bd ht (tk_lt (rnk_tk (k := tkk t n p) (by omega)))
    rcases bc_s hcx with ⟨q', h1, h2⟩ | ⟨ty2, c2, q', S2, h1, h2⟩
    · cases h2
    · obtain ⟨r2, c3, q3, h3, h4⟩ := bnd_r hpx
      obtain ⟨rfl, rfl⟩ := sim_rr (cx_px _ _ _ _ _ _ _ _ _ _ _) h1 h3
      have hb := cx_bd ht hlt.2 h1
      have hT2 := iL (m - 5) (nx t n p) o _ _ _ _ _ _ (by omega) hlt.2 h1 h3
      have hT3 := TY_b (k := tkk t n p) hpl hlt.1 (hb.2.2 (by omega)) (by omega) hT hT2
      by_cases h8 : m = 8
      · rw [if_pos h8] at h2 h4
        cases h2
        cases h4
        exact hT3
      · rw [if_neg h8] at h2 h4
        exact iC m _ pl q' o S0 _ _ a c q S' r hm6 hm10 (by omega) hb.2.1 hT3 h2 h4
  · rw [if_neg hr] at hcx hpx
    cases hcx
    cases hpx
    exact hT
theorem TX_A {f : Nat} (ht : txt t n) (iL : TYL t n L LT I f) (iA : TYA t n L LT I f) : TYA t n L LT I (f + 1) := by
  intro rt c p0 p o S0 S r0 a c' q S' r hp0 hp hc hT hcx hpx
  have hn := ht.1
  unfold cx at hcx
  unfold px at hpx
  rw [if_neg (by omega), if_neg (by omega), if_neg (by omega)] at hcx hpx
  rcases bc_s hcx with ⟨q', h1, h2⟩ | ⟨ty2, c2, q', S2, h1, h2⟩
  · cases h2
  · obtain ⟨r2, c3, q3, h3, h4⟩ := bnd_r hpx
    obtain ⟨rfl, rfl⟩ := sim_rr (cx_px _ _ _ _ _ _ _ _ _ _ _) h1 h3
    have hb := cx_bd ht hp h1
    have hpq := hb.2.2 (by omega)
    have hT2 := iL 0 p o _ _ _ _ _ _ (by omega) hp h1 h3
    have hT3 := TA_1 hp0 hpq (by omega) hT hT2
    by_cases h44 : tkk t n q' = 44
    · rw [if_pos h44] at h2 h4
      have hlt := nx_bd ht (tk_lt (t := t) (n := n) (p := q') (by omega))
      exact iA rt (c + 1) p0 (nx t n q') o S0 _ _ a c' q S' r (by omega) hlt.2 (by omega) (TA_w hT3 (by omega)) h2 h4
    · rw [if_neg h44] at h2 h4
      by_cases h41 : tkk t n q' = 41
      · rw [if_pos h41] at h2 h4
        cases h2
        cases h4
        exact ⟨hT3, by omega⟩
      · rw [if_neg h41] at h2
        cases h2
theorem TX_L {f : Nat} (ht : txt t n) (hI : IC I) (hL : L.length ≤ 10) (iL : TYL t n L LT I f) (iC : TYC t n L LT I f) (iA : TYA t n L LT I f) : TYL t n L LT I (f + 1) := by
  intro m p o S a c q S' r hm hp hcx hpx
  have hn := ht.1
  unfold cx at hcx
  unfold px at hpx
  by_cases hm5 : m < 5
  · rw [if_pos hm5] at hcx hpx
    rcases bc_s hcx with ⟨q', h1, h2⟩ | ⟨ty2, c2, q', S2, h1, h2⟩
    · cases h2
    · obtain ⟨r2, c3, q3, h3, h4⟩ := bnd_r hpx
      obtain ⟨rfl, rfl⟩ := sim_rr (cx_px _ _ _ _ _ _ _ _ _ _ _) h1 h3
      have hb := cx_bd ht hp h1
      exact iC (m + 6) ty2 p q' o S S2 r2 a c q S' r (by omega) (by omega) (hb.2.2 (by omega)) hb.2.1 (iL (m + 1) p o _ _ _ _ _ _ (by omega) hp h1 h3) h2 h4
  rw [if_neg hm5, if_pos (by omega)] at hcx hpx
  unfold cfac at hcx
  unfold pfac at hpx
  have nl : ∀ {p}, tkk t n p ≠ 0 → p < nx t n p ∧ nx t n p ≤ n := fun h => nx_bd ht (tk_lt h)
  by_cases hs : tkk t n p = 45 ∨ tkk t n p = 33
  · rw [if_pos hs] at hcx hpx
    have hlt := nl (p := p) (by omega)
    by_cases ho : 12 ≤ o
    · rw [if_pos ho] at hcx; cases hcx
    · rw [if_neg ho] at hcx hpx
      rcases bc_s hcx with ⟨q', h1, h2⟩ | ⟨ty2, c2, q', S2, h1, h2⟩
      · cases h2
      · obtain ⟨r2, c3, q3, h3, h4⟩ := bnd_r hpx
        obtain ⟨rfl, rfl⟩ := sim_rr (cx_px _ _ _ _ _ _ _ _ _ _ _) h1 h3
        have hb := cx_bd ht hlt.2 h1
        cases h2
        cases h4
        exact TY_u hlt.1 (hb.2.2 (by omega)) (by omega) (iL 5 _ _ _ _ _ _ _ _ (by omega) hlt.2 h1 h3)
  rw [if_neg hs] at hcx hpx
  by_cases h40 : tkk t n p = 40
  · rw [if_pos h40] at hcx hpx
    have hlt := nl (p := p) (by omega)
    by_cases ho : 12 ≤ o
    · rw [if_pos ho] at hcx; cases hcx
    · rw [if_neg ho] at hcx hpx
      rcases bc_s hcx with ⟨q', h1, h2⟩ | ⟨ty2, c2, q', S2, h1, h2⟩
      · cases h2
      · obtain ⟨r2, c3, q3, h3, h4⟩ := bnd_r hpx
        obtain ⟨rfl, rfl⟩ := sim_rr (cx_px _ _ _ _ _ _ _ _ _ _ _) h1 h3
        have hb := cx_bd ht hlt.2 h1
        by_cases h41 : tkk t n q' = 41
        · rw [if_pos h41] at h2 h4
          have hlt2 := nl (p := q') (by omega)
          cases h2
          cases h4
          exact TY_p hlt.1 (hb.2.2 (by omega)) hlt2.1 (iL 0 _ _ _ _ _ _ _ _ (by omega) hlt.2 h1 h3)
        · rw [if_neg h41] at h2
          cases h2
  rw [if_neg h40] at hcx hpx
  by_cases h3 : tkk t n p = 3
  · rw [if_pos h3] at hcx hpx
    have hlt := nl (p := p) (by omega)
    cases hcx
    cases hpx
    exact TY_1 hlt.1 (by have := CE_t (CE_wr (x := 1) (k := 1) (S := S)) (CE_wr (x := tkv t n p) (k := 4)); rwa [omin_l] at this) (fun P mf => rfl) (fun _ => Or.inl rfl) rfl
  rw [if_neg h3] at hcx hpx
  by_cases h315 : tkk t n p = 315
  · rw [if_pos h315] at hcx hpx
    have hlt := nl (p := p) (by omega)
    cases hcx
    cases hpx
    exact TY_1 hlt.1 CE_wr (fun P mf => rfl) (fun _ => Or.inr rfl) rfl
  rw [if_neg h315] at hcx hpx
  by_cases h316 : tkk t n p = 316
  · rw [if_pos h316] at hcx hpx
    have hlt := nl (p := p) (by omega)
    cases hcx
    cases hpx
    exact TY_1 hlt.1 CE_wr (fun P mf => rfl) (fun _ => Or.inr rfl) rfl
  rw [if_neg h316] at hcx hpx
  by_cases h2 : tkk t n p = 2
  · rw [if_pos h2] at hcx hpx
    have hlt := nl (p := p) (by omega)
    by_cases h91 : tkk t n (nx t n p) = 91
    · rw [if_pos h91] at hcx hpx
      have hlt2 := nl (p := nx t n p) (by omega)
      unfold cidx at hcx
      by_cases ho : 12 ≤ o
      · rw [if_pos ho] at hcx; cases hcx
      · rw [if_neg ho] at hcx hpx
        rcases bc_s hcx with ⟨q', h1, h2⟩ | ⟨ty2, c2, q', S2, h1, h2⟩
        · cases h2
        · rcases bc_s h1 with ⟨q4, h5, h6⟩ | ⟨ty4, c4, q4, S4, h5, h6⟩
          · cases h6
          · obtain ⟨r2, c3, q3, h3, h4⟩ := bnd_r hpx
            obtain ⟨rfl, rfl⟩ := sim_rr (cx_px _ _ _ _ _ _ _ _ _ _ _) h5 h3
            have hb := cx_bd ht hlt2.2 h5
            by_cases h93 : tkk t n q4 = 93
            · rw [if_pos h93] at h6 h4
              have hlt3 := nl (p := q4) (by omega)
              cases h6
              cases h2
              cases h4
              exact TY_i (by omega) (hb.2.2 (by omega)) hlt3.1 (by omega) (iL 0 _ _ _ _ _ _ _ _ (by omega) hlt2.2 h5 h3)
            · rw [if_neg h93] at h6
              cases h6
    rw [if_neg h91] at hcx hpx
    by_cases h40' : tkk t n (nx t n p) = 40
    · rw [if_pos h40'] at hcx hpx
      have hlt2 := nl (p := nx t n p) (by omega)
      unfold ccal at hcx
      by_cases ho : 12 ≤ o
      · rw [if_pos ho] at hcx; cases hcx
      · rw [if_neg ho] at hcx hpx
        by_cases h41 : tkk t n (nx t n (nx t n p)) = 41
        · rw [if_pos h41] at hcx hpx
          have hlt3 := nl (p := nx t n (nx t n p)) (by omega)
          cases hcx
          cases hpx
          exact TY_c (r := []) (c := 0) (p3 := nx t n (nx t n p)) (q1 := nx t n (nx t n p)) hI (by omega) (Nat.le_refl _) hlt3.1 (by omega) (by omega) TA_0
        · rw [if_neg h41] at hcx hpx
          rcases bc_s hcx with ⟨q', h1, h2⟩ | ⟨ty2, c2, q', S2, h1, h2⟩
          · cases h2
          · obtain ⟨r2, c3, q3, h3, h4⟩ := bnd_r hpx
            obtain ⟨rfl, rfl⟩ := sim_rr (cx_px _ _ _ _ _ _ _ _ _ _ _) h1 h3
            have hb := cx_bd ht hlt2.2 h1
            have hpq := hb.2.2 (by omega)
            have hlt3 := nl (p := q') (by have := px_a41 _ _ _ _ _ _ _ _ h3; omega)
            obtain ⟨g1, g2⟩ := iA _ 0 (nx t n (nx t n p)) _ _ _ _ [] _ _ _ _ _ (Nat.le_refl _) hlt2.2 (by omega) TA_0 h1 h3
            cases h2
            cases h4
            exact TY_c hI (by omega) (by omega) hlt3.1 (by omega) (by omega) g1
    rw [if_neg h40'] at hcx hpx
    cases hkw : kwi L (tkm t n p) 0 with
    | some j =>
      rw [hkw] at hcx hpx
      have hj := kwi_lt hkw
      cases hcx
      cases hpx
      refine TY_1 hlt.1 (by have := CE_t (CE_wr (x := 4) (k := 1) (S := S)) (CE_wr (x := Int32.ofNat j) (k := 1)); rwa [omin_l] at this) (fun P mf => ?_) (fun hc => hc j (by omega)) rfl
      show (LT, (LT (Int32.ofNat j).toNatClampNeg, p) :: P, mf) = _
      rw [oN_n (by omega)]
    | none =>
      rw [hkw] at hcx hpx
      cases hcx
      cases hpx
      have cA := CE_mnt (I := I) (nm := tkm t n p) (kd := 0) (S := S) (pl := p) (by omega)
      have u2 := fk_1 (m := mnM I (tkm t n p) 0 p)
      have c5 := CE_t cA (CE_wnm (c := 6) (r := (mnt I true (tkm t n p) 0 p S).1))
      rw [omin_r] at c5
      refine ⟨_, _, mnM I (tkm t n p) 0 p, tyO I (mnF I (tkm t n p) 0), c5, by omega, mnM_T (Nat.le_refl _) hlt.1, mnM_T (Nat.le_refl _) hlt.1, fun P mf => ?_, fun hc => ?_⟩
      · show (LT, (tyO I (mns I (tkm t n p) 0 p mf).1, p) :: P, (mns I (tkm t n p) 0 p mf).2) = _
        rw [mns_e]
      · rw [mnt_e]
        refine ⟨rfl, rfl, fun h0 => ?_, fun h0 => ?_⟩
        · cases hk : mnF I (tkm t n p) 0 with
          | none => exact absurd hk (mnM_0.mp h0)
          | some k =>
            obtain ⟨hi, hkd, hlt⟩ := mnF_k hk
            refine ⟨(hI k hlt).1 hkd, ?_⟩
            show _ = wnm true 6 (itK I (tkm t n p)) S
            rw [hi]
            rfl
        · cases hk : mnF I (tkm t n p) 0 with
          | none => rfl
          | some k => exact absurd (mnM_0.mpr (by rw [hk]; simp)) h0
  · rw [if_neg h2] at hcx
    cases hcx
/-- all of it -/
theorem TX (ht : txt t n) (hI : IC I) (hL : L.length ≤ 10) : ∀ f, TYL t n L LT I f ∧ TYC t n L LT I f ∧ TYA t n L LT I f := by
  intro f
  induction f with
  | zero => exact ⟨fun m p o S a c q S' r _ _ h => by simp [cx] at h, fun m ty pl p o S0 S r0 a c q S' r _ _ _ _ _ h => by simp [cx] at h, fun rt c p0 p o S0 S r0 a c' q S' r _ _ _ _ h => by simp [cx] at h⟩
  | succ f ih =>
    obtain ⟨iL, iC, iA⟩ := ih
    exact ⟨TX_L ht hI hL iL iC iA, TX_C ht iL iC, TX_A ht iL iA⟩
end MTX
