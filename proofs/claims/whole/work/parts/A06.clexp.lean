/-! ===== the class's expressions: they go as px goes ===== -/
def sim (x : Cs) (y : Rs) : Prop := (x = none ∧ y = none) ∨ (∃ q, x = some (.inl q) ∧ y = some (.inl q)) ∨ ∃ a c q S r, x = some (.inr (a, c, q, S)) ∧ y = some (.inr (r, c, q))
theorem sim_b {x : Cs} {y : Rs} {k : Int32 → Nat → Nat → St → Cs} {k' : List Rw → Nat → Nat → Rs} (h : sim x y) (hk : ∀ a c q S r, sim (k a c q S) (k' r c q)) : sim (bc x k) (bnd y k') := by
  rcases h with ⟨rfl, rfl⟩ | ⟨q, rfl, rfl⟩ | ⟨a, c, q, S, r, rfl, rfl⟩
  · exact Or.inl ⟨rfl, rfl⟩
  · exact Or.inr (Or.inl ⟨q, rfl, rfl⟩)
  · exact hk a c q S r
theorem sim_l {q : Nat} : sim (some (.inl q)) (some (.inl q)) := Or.inr (Or.inl ⟨q, rfl, rfl⟩)
theorem sim_r {a : Int32} {c q : Nat} {S : St} {r : List Rw} : sim (some (.inr (a, c, q, S))) (some (.inr (r, c, q))) := Or.inr (Or.inr ⟨_, _, _, _, _, rfl, rfl⟩)
theorem sim_i {c : Prop} [Decidable c] {x x' : Cs} {y y' : Rs} (h1 : c → sim x y) (h2 : ¬ c → sim x' y') : sim (if c then x else x') (if c then y else y') := by
  by_cases hc : c
  · rw [if_pos hc, if_pos hc]; exact h1 hc
  · rw [if_neg hc, if_neg hc]; exact h2 hc
section MCX0
variable {t : Nat → Int32} {n : Nat} {L : List (List Nat)} {LT : Nat → Int32} {I : List It} {w : Bool}
theorem cfac_sim {g : Cg} {g' : Nat → List Rw → Nat → Nat → Nat → Rs} (hg : ∀ m ty b pl rt c p o S r, sim (g m ty b pl rt c p o S) (g' m r c p o)) {p o : Nat} {S : St} : sim (cfac t n L LT I w g p o S) (pfac t n L g' p o) := by
  unfold cfac pfac
  refine sim_i (fun _ => sim_i (fun _ => sim_l) (fun _ => sim_b (hg _ _ _ _ _ _ _ _ _ _) (fun _ _ _ _ _ => sim_r))) (fun _ => ?_)
  refine sim_i (fun _ => sim_i (fun _ => sim_l) (fun _ => sim_b (hg _ _ _ _ _ _ _ _ _ _) (fun _ _ _ _ _ => sim_i (fun _ => sim_r) (fun _ => sim_l)))) (fun _ => ?_)
  refine sim_i (fun _ => sim_r) (fun _ => ?_)
  refine sim_i (fun _ => sim_r) (fun _ => ?_)
  refine sim_i (fun _ => sim_r) (fun _ => ?_)
  refine sim_i (fun _ => ?_) (fun _ => sim_l)
  refine sim_i (fun _ => ?_) (fun _ => ?_)
  · unfold cidx
    by_cases ho : 12 ≤ o
    · rw [if_pos ho, if_pos ho]
      exact sim_l
    · rw [if_neg ho, if_neg ho]
      have := hg 0 0 0 0 none 0 (nx t n (nx t n p)) (o + 1) (mnt I w (tkm t n p) 1 p S).2 []
      rcases this with ⟨h1, h2⟩ | ⟨q, h1, h2⟩ | ⟨a, c, q, S', r, h1, h2⟩
      · rw [h1, h2]; exact Or.inl ⟨rfl, rfl⟩
      · rw [h1, h2]; exact sim_l
      · rw [h1, h2]
        show sim (bc (if tkk t n q = 93 then _ else _) _) (if tkk t n q = 93 then _ else _)
        by_cases h93 : tkk t n q = 93
        · rw [if_pos h93, if_pos h93]; exact sim_r
        · rw [if_neg h93, if_neg h93]; exact sim_l
  refine sim_i (fun _ => ?_) (fun _ => ?_)
  · unfold ccal
    exact sim_i (fun _ => sim_l) (fun _ => sim_i (fun _ => sim_r) (fun _ => sim_b (hg _ _ _ _ _ _ _ _ _ _) (fun _ _ _ _ _ => sim_r)))
  · cases kwi L (tkm t n p) 0 with
    | none => exact sim_r
    | some j => exact sim_r
theorem cx_px : ∀ f m ty b pl rt c p o S r, sim (cx t n L LT I w f m ty b pl rt c p o S) (px t n L f m r c p o) := by
  intro f
  induction f with
  | zero => intro m ty b pl rt c p o S r; exact Or.inl ⟨rfl, rfl⟩
  | succ f ih =>
    intro m ty b pl rt c p o S r
    unfold cx px
    refine sim_i (fun _ => sim_b (ih _ _ _ _ _ _ _ _ _ _) (fun _ _ _ _ _ => ih _ _ _ _ _ _ _ _ _ _)) (fun _ => sim_i (fun _ => cfac_sim ih) (fun _ => sim_i (fun _ => ?_) (fun _ => ?_)))
    · exact sim_i (fun _ => sim_b (ih _ _ _ _ _ _ _ _ _ _) (fun _ _ _ _ _ => sim_i (fun _ => sim_r) (fun _ => ih _ _ _ _ _ _ _ _ _ _))) (fun _ => sim_r)
    · exact sim_b (ih _ _ _ _ _ _ _ _ _ _) (fun _ _ _ _ _ => sim_i (fun _ => ih _ _ _ _ _ _ _ _ _ _) (fun _ => sim_i (fun _ => sim_r) (fun _ => sim_l)))
theorem cx_bd (ht : txt t n) {f m : Nat} {ty b : Int32} {pl : Nat} {rt : Option Nat} {c p o : Nat} {S : St} {a : Int32} {c' q : Nat} {S' : St} (hp : p ≤ n) (h : cx t n L LT I w f m ty b pl rt c p o S = some (.inr (a, c', q, S'))) : p ≤ q ∧ q ≤ n ∧ ((m ≤ 5 ∨ m = 11) → p < q) := by
  rcases cx_px f m ty b pl rt c p o S [] with ⟨h1, _⟩ | ⟨q1, h1, _⟩ | ⟨a1, c1, q1, S1, r1, h1, h2⟩
  · rw [h] at h1; cases h1
  · rw [h] at h1; cases h1
  · rw [h] at h1
    cases h1
    obtain ⟨a1, a2, a3, _⟩ := (px_bd (L := L) ht f m [] c p o hp).2 _ _ _ h2
    exact ⟨a1, a2, a3⟩
theorem cx_bl (ht : txt t n) {f m : Nat} {ty b : Int32} {pl : Nat} {rt : Option Nat} {c p o : Nat} {S : St} {q : Nat} (hp : p ≤ n) (h : cx t n L LT I w f m ty b pl rt c p o S = some (.inl q)) : p ≤ q ∧ q ≤ n := by
  rcases cx_px f m ty b pl rt c p o S [] with ⟨h1, _⟩ | ⟨q1, h1, h2⟩ | ⟨a1, c1, q1, S1, r1, h1, h2⟩
  · rw [h] at h1; cases h1
  · rw [h] at h1
    cases h1
    exact (px_bd (L := L) ht f m [] c p o hp).1 _ h2
  · rw [h] at h1; cases h1
theorem mnt_lt {l : List Nat} {kd : Int32} {pl : Nat} {S : St} {k : Nat} (h : (mnt I w l kd pl S).1 = some k) : k < I.length := by
  unfold mnt at h
  cases hk : itK I l with
  | none => rw [hk] at h; cases h
  | some j =>
    rw [hk] at h
    simp only [] at h
    split at h
    · cases h
      exact itK_lt hk
    · cases h
end MCX0
theorem bc_s {x : Cs} {k : Int32 → Nat → Nat → St → Cs} {res : Nat ⊕ (Int32 × Nat × Nat × St)} (h : bc x k = some res) : (∃ q, x = some (.inl q) ∧ res = .inl q) ∨ ∃ a c q S, x = some (.inr (a, c, q, S)) ∧ k a c q S = some res := by
  unfold bc at h
  split at h
  · cases h
  · cases h; exact Or.inl ⟨_, rfl, rfl⟩
  · exact Or.inr ⟨_, _, _, _, rfl, h⟩
theorem cod_bd (k : Nat) : 21 ≤ cod k ∧ cod k ≤ 31 := by
  unfold cod
  repeat' split
  all_goals omega
section MCX
variable {e : my_E} {κ : my_K} {t : Nat → Int32} {n : Nat} {L : List (List Nat)} {LT : Nat → Int32} {I : List It} {w : Bool} {rv cu : Nat}
def v5m (m : Nat) : Int32 := if m = 8 then 1 else 1500
def fC (κ : my_K) (Q : my_O → my_K → my_S → Prop) (t : Nat → Int32) (n rv cu : Nat) (σ : my_S) (q : Nat) : Prop := ∀ σ', clT t n q σ' → eqp (xF rv cu) σ σ' → thr κ Q σ'
theorem fC_mo {Q : my_O → my_K → my_S → Prop} {σ σ1 : my_S} {q : Nat} (h : fC κ Q t n rv cu σ q) (he : eqp (xF rv cu) σ σ1) : fC κ Q t n rv cu σ1 q := fun σ' g1 g2 => h σ' g1 (eqp_tr he g2)
def CXL (e : my_E) (κ : my_K) (t : Nat → Int32) (n : Nat) (L : List (List Nat)) (LT : Nat → Int32) (I : List It) (w : Bool) (rv cu f : Nat) : Prop := ∀ (d m p o : Nat) (S : St) (σ : my_S) (Q : my_O → my_K → my_S → Prop) (res : Nat ⊕ (Int32 × Nat × Nat × St)), m ≤ 5 → cx t n L LT I w f m 0 0 0 none 0 p o S = some res → CR t n L LT I w rv cu S p o σ → 12 * (13 - o) + 20 ≤ d + m → o ≤ 12 → (∀ q, res = .inl q → fC κ Q t n rv cu σ q) → (∀ a c q S', res = .inr (a, c, q, S') → ∀ σ', CR t n L LT I w rv cu S' q o σ' → eqp (xF rv cu) σ σ' → Q (.inl (some (.inl a))) κ σ') → my_M e d 82 [.inr (.inr (some 39)), .inl (Int32.ofNat m)] κ σ Q
def CXF (e : my_E) (κ : my_K) (t : Nat → Int32) (n : Nat) (L : List (List Nat)) (LT : Nat → Int32) (I : List It) (w : Bool) (rv cu f : Nat) : Prop := ∀ (d p o : Nat) (S : St) (σ : my_S) (Q : my_O → my_K → my_S → Prop) (res : Nat ⊕ (Int32 × Nat × Nat × St)), cx t n L LT I w f 5 0 0 0 none 0 p o S = some res → CR t n L LT I w rv cu S p o σ → 12 * (13 - o) + 14 ≤ d → o ≤ 12 → (∀ q, res = .inl q → fC κ Q t n rv cu σ q) → (∀ a c q S', res = .inr (a, c, q, S') → ∀ σ', CR t n L LT I w rv cu S' q o σ' → eqp (xF rv cu) σ σ' → Q (.inl (some (.inl a))) κ σ') → my_M e d 83 [.inr (.inr (some 39))] κ σ Q
def CXC (e : my_E) (κ : my_K) (t : Nat → Int32) (n : Nat) (L : List (List Nat)) (LT : Nat → Int32) (I : List It) (w : Bool) (rv cu f : Nat) : Prop := ∀ (d m : Nat) (ty b : Int32) (pl p o v : Nat) (S : St) (σ : my_S) (Q : my_O → my_K → my_S → Prop) (res : Nat ⊕ (Int32 × Nat × Nat × St)), 6 ≤ m → m ≤ 10 → cx t n L LT I w f m ty b pl none 0 p o S = some res → CR t n L LT I w rv cu S p o σ → 12 * (13 - o) + 20 ≤ d + 1 + (m - 6) → o ≤ 12 → v ≤ p → (m = 8 → v = 0) → (∀ q, res = .inl q → fC κ Q t n rv cu σ q) → (∀ a c q S', res = .inr (a, c, q, S') → ∀ σ', CR t n L LT I w rv cu S' q o σ' → eqp (xF rv cu) σ σ' → Q (.inl (some (.inl a))) κ σ') → ys_82_49 e d (Int32.ofNat (m - 6)) (Int32.ofNat pl) b ty (v5m m) (Int32.ofNat v) κ σ Q
def CXA (e : my_E) (κ : my_K) (t : Nat → Int32) (n : Nat) (L : List (List Nat)) (LT : Nat → Int32) (I : List It) (w : Bool) (rv cu f : Nat) : Prop := ∀ (d c p o : Nat) (rt : Option Nat) (v3 v4 v5 : Int32) (S : St) (σ : my_S) (Q : my_O → my_K → my_S → Prop) (res : Nat ⊕ (Int32 × Nat × Nat × St)), cx t n L LT I w f 11 0 0 0 rt c p (o + 1) S = some res → CR t n L LT I w rv cu S p (o + 1) σ → (∀ k, rt = some k → k < I.length) → c ≤ p → 12 * (12 - o) + 21 ≤ d → o < 12 → (∀ q, res = .inl q → fC κ Q t n rv cu σ q) → (∀ a c' q S', res = .inr (a, c', q, S') → ∀ σ', CR t n L LT I w rv cu S' q (o + 1) σ' → eqp (xF rv cu) σ σ' → ys_79_120 e d v3 v4 v5 (itO rv rt) (Int32.ofNat c') κ σ' Q) → ys_79_50 e d v3 v4 v5 (itO rv rt) (Int32.ofNat c) 1 κ σ Q
theorem CX_chain {f : Nat} (ht : txt t n) (iL : CXL e κ t n L LT I w rv cu f) (iC : CXC e κ t n L LT I w rv cu f) : CXC e κ t n L LT I w rv cu (f + 1) := by
  intro d m ty b pl p o v S σ Q res hm6 hm10 hcx hCR hd ho hv hv8 hf hk
  have hb := CR_bd ht hCR
  unfold cx at hcx
  rw [if_neg (by omega), if_neg (by omega), if_pos (by omega)] at hcx
  unfold ys_82_49
  by_cases hr : rnk (tkk t n p) = m - 5
  · rw [if_pos hr] at hcx
    have hlt := nx_bd ht (tk_lt (rnk_tk (k := tkk t n p) (by omega)))
    have hop : opC (tkk t n p) (m - 6) = Int32.ofNat (cod (tkk t n p)) := by unfold opC; rw [if_pos (by omega)]
    have hcb := cod_bd (tkk t n p)
    have hvv : Int32.ofNat v < v5m m := by
      unfold v5m
      by_cases h8 : m = 8
      · rw [if_pos h8, hv8 h8]; decide
      · rw [if_neg h8]; exact (oN_lt1 (b := 1500) (c := 1500) rfl (by omega) (by omega)).mpr (by omega)
    rw [if_pos hvv]
    refine x_89 ht hCR.1 (by omega) (by omega) ?_
    rw [my_kI_v, hop, if_neg (fun hh => absurd hh (by generalize cod (tkk t n p) = c at hcb; have h11 : c = 21 ∨ c = 22 ∨ c = 23 ∨ c = 24 ∨ c = 25 ∨ c = 26 ∨ c = 27 ∨ c = 28 ∨ c = 29 ∨ c = 30 ∨ c = 31 := (by omega); rcases h11 with rfl | rfl | rfl | rfl | rfl | rfl | rfl | rfl | rfl | rfl | rfl <;> decide))]
    refine x_89 ht hCR.1 (by omega) (by omega) ?_
    rw [my_kI_v, hop]
    have go : ys_82_115 e d (Int32.ofNat (m - 6)) (Int32.ofNat pl) b ty (v5m m) (Int32.ofNat v) (Int32.ofNat (cod (tkk t n p))) (wtd (tkk t n p) ty) κ σ Q := by
      unfold ys_82_115
      refine x_64 hCR (by omega) rfl (fun σ1 g1 f1 => ?_)
      rw [my_k0_v]
      refine x_55 g1 (by omega) (fun σ2 g2 f2 => ?_)
      rw [my_k0_v, oN_s, show m - 6 + 1 = m - 5 by omega]
      rcases bc_s hcx with ⟨q, h1, h2⟩ | ⟨ty2, c2, q, S2, h1, h2⟩
      · refine iL d (m - 5) (nx t n p) o _ σ2 _ _ (by omega) h1 g2 (by omega) ho (fun q' hq' => ?_) (fun a c q' S' hh => by cases hh)
        cases hq'
        exact fC_mo (hf q h2) (eqp_tr f1 f2)
      · have hcb2 := cx_bd ht hlt.2 h1
        refine iL d (m - 5) (nx t n p) o _ σ2 _ _ (by omega) h1 g2 (by omega) ho (fun q' hq' => by cases hq') (fun a c q' S' hh σ3 g3 f3 => ?_)
        cases hh
        rw [my_kI_v]
        refine x_64 (pl := nx t n p) g3 (by omega) (clT_pl g2.1) (fun σ4 g4 f4 => ?_)
        rw [my_k0_v]
        refine x_67 (k := 1) g4 (by omega) (by omega) rfl (fun σ5 g5 f5 => ?_)
        rw [my_k0_v, g5.2.2.2.2.1]
        have g5' : CR t n L LT I w rv cu (chS w (tkk t n p) (wtd (tkk t n p) ty) ty2 (nx t n p) S2) q o σ5 := g5
        have fr := eqp_tr (eqp_tr (eqp_tr (eqp_tr f1 f2) f3) f4) f5
        have nxt : ys_82_188 e d (Int32.ofNat (m - 6)) (Int32.ofNat pl) b (v5m m) (Int32.ofNat v) (chT (tkk t n p) b (chS w (tkk t n p) (wtd (tkk t n p) ty) ty2 (nx t n p) S2)) κ σ5 Q := by
          unfold ys_82_188
          refine ys_82_49_ok ?_
          rw [oN_s]
          by_cases h8 : m = 8
          · rw [if_pos h8] at h2
            cases h2
            unfold ys_82_49 ys_82_196 v5m
            rw [if_pos h8, if_neg (by rw [hv8 h8]; decide)]
            exact hk _ _ _ _ rfl σ5 g5' fr
          · rw [if_neg h8] at h2
            exact iC d m _ b pl q o (v + 1) _ σ5 Q res hm6 hm10 h2 g5' hd ho (by omega) (fun h => absurd h h8) (fun q hq => fC_mo (hf q hq) fr) (fun a c q' S' hh σ6 g6 f6 => hk a c q' S' hh σ6 g6 (eqp_tr fr f6))
        unfold chT at nxt
        show if (chS w (tkk t n p) (wtd (tkk t n p) ty) ty2 (nx t n p) S2).2.1 = b then _ else _
        refine my_if (fun hh => ?_) (fun hh => ?_)
        · rw [if_pos hh] at nxt
          refine my_if (fun h26 => ?_) (fun h26 => ?_)
          · rw [if_pos (by have := (oN_lt (p := 26) (by omega) (by omega)).mp h26; omega)] at nxt
            exact nxt
          · rw [if_neg (fun h27 => h26 ((oN_lt (p := 26) (by omega) (by omega)).mpr h27))] at nxt
            exact nxt
        · rw [if_neg hh] at nxt
          exact nxt
    have e23 : Int32.ofNat (cod (tkk t n p)) = 23 ↔ cod (tkk t n p) = 23 := oN_e (b := 23) (by omega) (by omega)
    have e24 : Int32.ofNat (cod (tkk t n p)) = 24 ↔ cod (tkk t n p) = 24 := oN_e (b := 24) (by omega) (by omega)
    have e22 : (22 : Int32) < Int32.ofNat (cod (tkk t n p)) ↔ 22 < cod (tkk t n p) := oN_lt (p := 22) (by omega) (by omega)
    unfold wtd at go
    unfold ys_82_86 ys_82_91
    refine my_if (fun h23 => ?_) (fun h23 => my_if (fun h24 => ?_) (fun h24 => ?_))
    · rw [if_pos (Or.inl (e23.mp h23))] at go
      rw [if_neg (by decide)]
      exact go
    · rw [if_pos (Or.inr (e24.mp h24))] at go
      rw [if_neg (by decide)]
      exact go
    · rw [if_neg (by rw [e23] at h23; rw [e24] at h24; omega)] at go
      rw [if_pos rfl]
      refine my_if (fun h22 => ?_) (fun h22 => ?_)
      · rw [if_pos (e22.mp h22)] at go
        exact go
      · rw [if_neg (fun hh => h22 (e22.mpr hh))] at go
        exact go
  · rw [if_neg hr] at hcx
    cases hcx
    have fin : ys_82_196 e d ty κ σ Q := hk _ _ _ _ rfl σ hCR eqp_rf
    refine my_if (fun _ => ?_) (fun _ => fin)
    refine x_89 ht hCR.1 (by omega) (by omega) ?_
    have hop : opC (tkk t n p) (m - 6) = Int32.ofInt (-1) := by unfold opC; rw [if_neg (by omega)]
    rw [my_kI_v, hop, if_pos rfl]
    exact fin
theorem CX_level {f : Nat} (ht : txt t n) (iL : CXL e κ t n L LT I w rv cu f) (iC : CXC e κ t n L LT I w rv cu f) (iF : CXF e κ t n L LT I w rv cu (f + 1)) : CXL e κ t n L LT I w rv cu (f + 1) := by
  intro d m p o S σ Q res hm hcx hCR hd ho hf hk
  have hb := CR_bd ht hCR
  obtain ⟨d, rfl⟩ := dS 1 (show 1 ≤ d by omega)
  refine ys_82 ?_
  unfold ys_82_0
  by_cases hm5 : m < 5
  · rw [if_pos ((oN_lt1 (b := 5) (c := 5) rfl (by omega) (by omega)).mpr hm5)]
    unfold cx at hcx
    rw [if_pos hm5] at hcx
    rw [oN_s]
    rcases bc_s hcx with ⟨q, h1, h2⟩ | ⟨ty2, c2, q, S2, h1, h2⟩
    · refine iL d (m + 1) p o S σ _ _ (by omega) h1 hCR (by omega) ho (fun q' hq' => ?_) (fun a c q' S' hh => by cases hh)
      cases hq'
      exact hf q h2
    · have hcb2 := cx_bd ht hb.1 h1
      refine iL d (m + 1) p o S σ _ _ (by omega) h1 hCR (by omega) ho (fun q' hq' => by cases hq') (fun a c q' S' hh σ3 g3 f3 => ?_)
      cases hh
      rw [my_kI_v, clT_pl hCR.1, hCR.2.2.2.2.1]
      have nxt := iC d (m + 6) ty2 S.2.1 p q o 0 S2 σ3 Q res (by omega) (by omega) h2 g3 (by omega) ho (by omega) (fun _ => rfl) (fun q hq => fC_mo (hf q hq) f3) (fun a c q' S' hh σ6 g6 f6 => hk a c q' S' hh σ6 g6 (eqp_tr f3 f6))
      rw [show m + 6 - 6 = m by omega] at nxt
      unfold v5m at nxt
      have e2 : Int32.ofNat m = 2 ↔ m = 2 := oN_e (b := 2) (by omega) (by omega)
      unfold ys_82_44
      refine my_if (fun h8 => ?_) (fun h8 => ?_)
      · rw [if_pos (by have := e2.mp h8; omega)] at nxt
        exact ys_82_49_ok nxt
      · rw [if_neg (by rw [e2] at h8; omega)] at nxt
        exact ys_82_49_ok nxt
  · have : m = 5 := by omega
    subst this
    rw [if_neg (by decide)]
    refine iF d p o S σ _ res hcx hCR (by omega) ho (fun q hq => hf q hq) (fun a c q S' hh σ' g1 f1 => ?_)
    rw [my_kI_v]
    exact hk a c q S' hh σ' g1 f1
theorem CX_81 {f : Nat} (iL : CXL e κ t n L LT I w rv cu f) {d p o : Nat} {v : Int32} {S : St} {σ : my_S} {Q : my_O → my_K → my_S → Prop} {res : Nat ⊕ (Int32 × Nat × Nat × St)} (hcx : cx t n L LT I w f 0 0 0 0 none 0 p o S = some res) (hCR : CR t n L LT I w rv cu S p o σ) (hd : 12 * (13 - o) + 21 ≤ d) (ho : o ≤ 12) (hf : ∀ q, res = .inl q → fC κ Q t n rv cu σ q) (hk : ∀ a c q S', res = .inr (a, c, q, S') → ∀ σ', CR t n L LT I w rv cu (wf w a v p S') q o σ' → eqp (xF rv cu) σ σ' → Q (.inl none) κ σ') : my_M e d 81 [.inr (.inr (some 39)), .inl v] κ σ Q := by
  obtain ⟨d, rfl⟩ := dS 1 (show 1 ≤ d by omega)
  refine ys_81 ?_
  unfold ys_81_0
  refine iL d 0 p o S σ _ res (by omega) hcx hCR (by omega) ho (fun q hq => hf q hq) (fun a c q S' hh σ1 g1 f1 => ?_)
  rw [my_kI_v]
  refine x_64 (pl := p) g1 (by omega) (clT_pl hCR.1) (fun σ2 g2 f2 => ?_)
  rw [my_k0_v]
  exact hk a c q S' hh σ2 g2 (eqp_tr f1 f2)
theorem CX_args {f : Nat} (ht : txt t n) (hκ : 1 ≤ κ.2.1 ∧ 6 ≤ κ.2.2) (iL : CXL e κ t n L LT I w rv cu f) (iA : CXA e κ t n L LT I w rv cu f) : CXA e κ t n L LT I w rv cu (f + 1) := by
  intro d c p o rt v3 v4 v5 S σ Q res hcx hCR hrt hc hd ho hf hk
  have hb := CR_bd ht hCR
  unfold cx at hcx
  rw [if_neg (by omega), if_neg (by omega), if_neg (by omega)] at hcx
  unfold ys_79_50
  rw [if_neg (by decide)]
  have hp : p < n ∨ p = n := by omega
  have hlt1 : c < 1501 := by omega
  -- the type that is wanted, then the expression
  have go : c < 1500 → ys_79_80 e d v3 v4 v5 (itO rv rt) (Int32.ofNat c) (pty I rt c) κ σ Q := fun hc15 => by
    unfold ys_79_80
    rcases bc_s hcx with ⟨q, h1, h2⟩ | ⟨ty2, c2, q, S2, h1, h2⟩
    · refine CX_81 iL h1 hCR (by omega) (by omega) (fun q' hq' => ?_) (fun a c q' S' hh => by cases hh)
      cases hq'
      exact hf q h2
    · have hcb2 := cx_bd ht hb.1 h1
      refine CX_81 iL h1 hCR (by omega) (by omega) (fun q' hq' => by cases hq') (fun a c' q' S' hh σ3 g3 f3 => ?_)
      cases hh
      rw [my_k0_v, oN_s]
      have T := tcl ht g3.1 44 (y := 44) (by omega) rfl
      refine my_if (fun h44 => ?_) (fun h44 => ?_)
      · rw [if_pos (T.mp h44)] at h2
        unfold ys_79_103
        rw [if_neg (by decide)]
        refine x_55 g3 (by omega) (fun σ4 g4 f4 => ?_)
        rw [my_k0_v]
        have hlt := nx_bd ht (tk_lt (t := t) (n := n) (p := q) (by have := T.mp h44; omega))
        exact ys_79_50_ok (iA d (c + 1) (nx t n q) o rt v3 v4 v5 _ σ4 Q res h2 g4 hrt (by omega) hd ho (fun q hq => fC_mo (hf q hq) (eqp_tr f3 f4)) (fun a c' q' S' hh σ5 g5 f5 => hk a c' q' S' hh σ5 g5 (eqp_tr (eqp_tr f3 f4) f5)))
      · rw [if_neg (fun hh => h44 (T.mpr hh))] at h2
        unfold ys_79_103
        rw [if_pos rfl]
        refine ys_79_50_ok ?_
        unfold ys_79_50
        rw [if_pos rfl]
        by_cases h41 : tkk t n q = 41
        · rw [if_pos h41] at h2
          cases h2
          exact hk _ _ _ _ rfl σ3 g3 f3
        · rw [if_neg h41] at h2
          cases h2
          unfold ys_79_120
          refine x_70 (k := 41) ht g3 (by omega) hκ (by omega) rfl (fun h => absurd h h41) (fun _ => ?_)
          exact hf q rfl σ3 g3.1 f3
  refine my_if (fun h15 => ?_) (fun h15 => ?_)
  · have hc15 : c < 1500 := (oN_lt1 (b := 1500) (c := 1500) rfl (by omega) (by omega)).mp h15
    cases rt with
    | none =>
      rw [show itO rv none = none from rfl, if_pos rfl]
      exact go hc15
    | some k =>
      rw [show itO rv (some k) = some (rv + 4 + 3 * k) from rfl, if_neg (by simp)]
      have hki := hrt k rfl
      refine ⟨_, rfl, (CS_it hCR.2.2.1 hki).2.1, ?_⟩
      refine x_207 hCR.2.2.1 (by omega) hki (by omega) ?_
      rw [my_kI_v]
      exact go hc15
  · -- c = 1500 = p = n: nothing stands there
    have hc15 : ¬ c < 1500 := fun hh => h15 ((oN_lt1 (b := 1500) (c := 1500) rfl (by omega) (by omega)).mpr hh)
    have hpn : p = n := by omega
    rcases bc_s hcx with ⟨q, h1, h2⟩ | ⟨ty2, c2, q, S2, h1, h2⟩
    · have hq := cx_bl ht hb.1 h1
      have : q = p := by omega
      subst this
      unfold ys_79_120
      refine x_70 (k := 41) ht hCR (by omega) hκ (by omega) rfl (fun h => ?_) (fun _ => hf q h2 σ hCR.1 eqp_rf)
      have := tk_lt (t := t) (n := n) (p := q) (by omega)
      omega
    · have := cx_bd ht hb.1 h1
      omega
end MCX
