/-! ===== the class's blocks and loops ===== -/
section MCP
variable {t : Nat → Int32} {n fm : Nat} {ity cF : Int32} {I : List It} {w : Bool} {Nf : List (List Nat)}
theorem cst_125 : ∀ (f p o : Nat) (L : List (List Nat)) (LT : Nat → Int32) (ck : Nat) (ls : Int32) (B : List Int32) (S : St) (v : Cv), cst t n fm ity cF I w Nf f 0 p o L LT ck ls B S = some (.inr v) → tkk t n v.1 = 125 := by
  intro f
  induction f with
  | zero => intro p o L LT ck ls B S v h; simp [cst] at h
  | succ f ih =>
    intro p o L LT ck ls B S v h
    unfold cst at h
    rw [if_pos rfl] at h
    by_cases h125 : tkk t n p = 125
    · rw [if_pos h125] at h; cases h; exact h125
    · rw [if_neg h125] at h
      rcases bq_s h with ⟨q, g1, g2⟩ | ⟨u, g1, g2⟩
      · cases g2
      · exact ih _ _ _ _ _ _ _ _ _ g2
/-- the breaks from outside stay -/
def pre (B : List Int32) (x : Cq) : Prop := ∀ v, x = some (.inr v) → ∃ C, v.2.2.2.2.1 = B ++ C
theorem pre_l {B : List Int32} {q : Nat} : pre B (some (.inl q)) := fun v h => by cases h
theorem pre_v {B : List Int32} {v : Cv} (h : v.2.2.2.2.1 = B) : pre B (some (.inr v)) := fun u hu => by cases hu; exact ⟨[], by rw [h, List.append_nil]⟩
theorem pre_e {B : List Int32} {x : Cs} {k : Int32 → Nat → St → Cq} (hk : ∀ a q S, pre B (k a q S)) : pre B (ce x k) := fun v h => by
  rcases ce_s h with ⟨q, g1, g2⟩ | ⟨a, c, q, S, g1, g2⟩
  · cases g2
  · exact hk _ _ _ v g2
theorem pre_t {B : List Int32} {p due : Nat} {k : Nat → Cq} (hk : ∀ q, pre B (k q)) : pre B (tQ t n p due k) := my_ite (P := pre B) (fun _ => hk _) (fun _ => pre_l)
theorem pre_b {B : List Int32} {x : Cq} {k : Cv → Cq} (hx : pre B x) (hk : ∀ u C, u.2.2.2.2.1 = B ++ C → pre B (k u)) : pre B (bq x k) := fun v h => by
  rcases bq_s h with ⟨q, g1, g2⟩ | ⟨u, g1, g2⟩
  · cases g2
  · obtain ⟨C, hC⟩ := hx u g1
    exact hk u C hC v g2
theorem pre_w {B C : List Int32} {x : Cq} (h : pre (B ++ C) x) : pre B x := fun v hv => by
  obtain ⟨D, hD⟩ := h v hv
  exact ⟨C ++ D, by rw [hD, List.append_assoc]⟩
theorem pre_k {g : Ch} {p o : Nat} {L : List (List Nat)} {LT : Nat → Int32} {ck : Nat} {ls : Int32} {B : List Int32} {S : St} {k : Cv → Cq} (hg : ∀ m p o L LT ck ls B S, pre B (g m p o L LT ck ls B S)) (hk : ∀ u C, u.2.2.2.2.1 = B ++ C → pre B (k u)) : pre B (cblk t n g p o L LT ck ls B S k) := my_ite (P := pre B) (fun _ => pre_b (hg _ _ _ _ _ _ _ _ _) (fun u C hC => hk _ C hC)) (fun _ => pre_l)
theorem pre_c {L : List (List Nat)} {LT : Nat → Int32} {B : List Int32} {p o : Nat} {S : St} {k : Nat → St → Cq} (hk : ∀ q S, pre B (k q S)) : pre B (ccon t n L LT I w p o S k) := my_ite (P := pre B) (fun _ => pre_e (fun _ _ _ => my_ite (P := pre B) (fun _ => hk _ _) (fun _ => pre_l))) (fun _ => pre_l)
theorem cst_pre : ∀ (f m p o : Nat) (L : List (List Nat)) (LT : Nat → Int32) (ck : Nat) (ls : Int32) (B : List Int32) (S : St), pre B (cst t n fm ity cF I w Nf f m p o L LT ck ls B S) := by
  intro f
  induction f with
  | zero => intro m p o L LT ck ls B S v h; simp [cst] at h
  | succ f ih =>
    intro m p o L LT ck ls B S
    unfold cst
    refine my_ite (P := pre B) (fun _ => my_ite (P := pre B) (fun _ => pre_v rfl) (fun _ => pre_b (ih _ _ _ _ _ _ _ _ _) (fun u C hC => by rw [hC]; exact pre_w (ih _ _ _ _ _ _ _ _ _)))) (fun _ => ?_)
    refine my_ite (P := pre B) (fun _ => ?_) (fun _ => ?_)
    · unfold cnam
      refine my_ite (P := pre B) (fun _ => pre_e (fun _ _ _ => pre_t (fun _ => pre_v rfl))) (fun _ => my_ite (P := pre B) (fun _ => pre_e (fun _ _ _ => pre_t (fun _ => pre_e (fun _ _ _ => pre_t (fun _ => pre_v rfl))))) (fun _ => ?_))
      cases kwi L (tkm t n p) 0 with
      | none => exact pre_t (fun _ => pre_e (fun _ _ _ => pre_t (fun _ => pre_v rfl)))
      | some j => exact pre_t (fun _ => pre_e (fun _ _ _ => pre_t (fun _ => pre_v rfl)))
    refine my_ite (P := pre B) (fun _ => ?_) (fun _ => ?_)
    · unfold clet
      exact my_ite (P := pre B) (fun _ => pre_t (fun _ => pre_e (fun _ _ _ => pre_t (fun _ => pre_v rfl)))) (fun _ => pre_l)
    refine my_ite (P := pre B) (fun _ => ?_) (fun _ => ?_)
    · unfold cif
      refine pre_c (fun q S1 => pre_k ih (fun u C hC => my_ite (P := pre B) (fun _ => ?_) (fun _ => fun v hv => by cases hv; exact ⟨C, hC⟩)))
      rw [hC]
      exact pre_w (pre_k ih (fun u2 C2 hC2 => fun v hv => by cases hv; exact ⟨C2, hC2⟩))
    refine my_ite (P := pre B) (fun _ => ?_) (fun _ => ?_)
    · unfold cwh
      exact pre_c (fun q S1 => pre_k ih (fun u C hC => pre_v rfl))
    refine my_ite (P := pre B) (fun _ => ?_) (fun _ => ?_)
    · unfold clv
      refine my_ite (P := pre B) (fun _ => pre_l) (fun _ => pre_t (fun q => fun v hv => ?_))
      cases hv
      show ∃ C, (if tkk t n p = 311 ∧ B.length < 256 then B ++ [wjP w 14 ls S] else B) = B ++ C
      split
      · exact ⟨_, rfl⟩
      · exact ⟨[], by simp⟩
    refine my_ite (P := pre B) (fun _ => ?_) (fun _ => ?_)
    · unfold cret
      exact my_ite (P := pre B) (fun _ => pre_l) (fun _ => my_ite (P := pre B) (fun _ => pre_e (fun _ _ _ => pre_t (fun _ => pre_v rfl))) (fun _ => pre_t (fun _ => pre_v rfl)))
    refine my_ite (P := pre B) (fun _ => ?_) (fun _ => pre_l)
    unfold cchk
    exact pre_e (fun _ _ _ => pre_t (fun _ => pre_v rfl))
/-- where a statement ends -/
theorem cst_lt (ht : txt t n) {f p o : Nat} {L : List (List Nat)} {LT : Nat → Int32} {ck : Nat} {ls : Int32} {B : List Int32} {S : St} {v : Cv} (hL : L.length ≤ 10) (hp : p ≤ n) (hc : cfP cF S) (h : cst t n fm ity cF I w Nf f 1 p o L LT ck ls B S = some (.inr v)) : p < v.1 ∧ v.1 ≤ n := by
  have hs := cst_s (I := I) (w := w) (fm := fm) (ity := ity) (Nf := Nf) ht f 1 p o 0 L LT ck ls (if ls = Int32.ofInt (-1) then none else some 0) B S (by
    by_cases hh : ls = Int32.ofInt (-1)
    · rw [if_pos hh]; exact ⟨fun _ => rfl, fun _ => hh⟩
    · rw [if_neg hh]; exact ⟨fun h2 => absurd h2 hh, fun h2 => by cases h2⟩) hc
  rcases hs with ⟨g1, g2⟩ | ⟨q, g1, g2⟩ | ⟨q, L1, LT1, c1, B1, S1, r, b, g1, g2⟩
  · rw [h] at g1; cases g1
  · rw [h] at g1; cases g1
  · rw [h] at g1
    cases g1
    obtain ⟨b1, b2, b3, _⟩ := (pst_B ht _ _ _ _ _ _ _ _ _ hp hL g2).2 _ _ _ _ _ rfl
    exact ⟨b3 (by omega), b2⟩
theorem cblk_r {g : Ch} {p o : Nat} {L : List (List Nat)} {LT : Nat → Int32} {ck : Nat} {ls : Int32} {B : List Int32} {S : St} {k : Cv → Cq} {res : Nat ⊕ Cv} (h : cblk t n g p o L LT ck ls B S k = some res) : (¬ (tkk t n p = 123 ∧ o < 12) ∧ res = .inl p) ∨ ((tkk t n p = 123 ∧ o < 12) ∧ ((∃ q, g 0 (nx t n p) (o + 1) L LT ck ls B S = some (.inl q) ∧ res = .inl q) ∨ ∃ v, g 0 (nx t n p) (o + 1) L LT ck ls B S = some (.inr v) ∧ k (nx t n v.1, v.2) = some res)) := by
  unfold cblk at h
  by_cases hc : tkk t n p = 123 ∧ o < 12
  · rw [if_pos hc] at h
    exact Or.inr ⟨hc, bq_s h⟩
  · rw [if_neg hc] at h
    cases h
    exact Or.inl ⟨hc, rfl⟩
end MCP
section MCQ
variable {e : my_E} {κ : my_K} {t : Nat → Int32} {n : Nat} {I : List It} {w : Bool} {rv cu fm : Nat} {cF : Int32}
theorem CR_k {F : Nat → Nat → Prop} {L : List (List Nat)} {LT : Nat → Int32} {S : St} {p o : Nat} {σ σ' : my_S} (h : CR t n L LT I w rv cu S p o σ) (he : eqp F σ σ') (hF : ∀ c k, F c k → (c = 39 ∧ (k = 10 ∨ k = 11 ∨ k = 13)) ∨ c = 42) : CR t n L LT I w rv cu S p o σ' := by
  have hrv := h.2.2.1.2.2.1.2.1
  have g : ∀ {c k}, ¬ ((c = 39 ∧ (k = 10 ∨ k = 11 ∨ k = 13)) ∨ c = 42) → σ'.1 c k = σ.1 c k ∧ σ'.2.1 c k = σ.2.1 c k ∧ σ'.2.2 c k = σ.2.2 c k := fun hn => he _ _ (fun hh => hn (hF _ _ hh))
  obtain ⟨c1, c2, c3, c4⟩ := h
  refine ⟨clT_o c1 he (fun c k hh => by have := hF _ _ hh; omega), (g (by omega)).1.trans c2, ?_, CD_o c4 he (fun c k hh => by have := hF _ _ hh; unfold dF; omega)⟩
  obtain ⟨k1, ⟨k2, k3, k4, k5, k6⟩, ⟨k7, k8, k9, k10⟩, ⟨k11, k12, k13, k14⟩⟩ := c3
  refine ⟨(g (by omega)).1.trans k1, ⟨(g (by omega)).1.trans k2, k3, k4, fun j l hj => (g (by omega)).2.1.trans (k5 j l hj), fun j hj => (g (by omega)).1.trans (k6 j hj)⟩, ⟨(g (by omega)).2.2.trans k7, k8, (g (by omega)).2.2.trans k9, k10⟩, ⟨(g (by omega)).1.trans k11, k12, fun k hk => (g (by omega)).2.2.trans (k13 k hk), fun k it hk => ?_⟩⟩
  obtain ⟨a1, a2, a3, a4, a5, a6, a7⟩ := k14 k it hk
  exact ⟨a1, (g (by omega)).2.1.trans a2, (g (by omega)).1.trans a3, (g (by omega)).1.trans a4, (g (by omega)).1.trans a5, (g (by omega)).1.trans a6, fun j hj => (g (by omega)).1.trans (a7 j hj)⟩
/-- a condition in brackets -/
theorem y_92 {d p o : Nat} {L : List (List Nat)} {LT : Nat → Int32} {S : St} {σ : my_S} {Q : my_O → my_K → my_S → Prop} {k : Nat → St → Cq} {res : Nat ⊕ Cv} (ht : txt t n) (hκ : 1 ≤ κ.2.1 ∧ 6 ≤ κ.2.2) (h : CR t n L LT I w rv cu S (nx t n p) o σ) (hd : 12 * (13 - o) + 22 ≤ d) (ho : o ≤ 12) (hr : ccon t n L LT I w p o S k = some res) (hf : ∀ q, res = .inl q → fY κ Q t n rv cu σ q) (hQ : ∀ q S1, k q S1 = some res → ml S S1 → ∀ σ', CR t n L LT I w rv cu S1 q o σ' → eqp (xF rv cu) σ σ' → Q (.inl none) κ σ') : my_M e d 92 [.inr (.inr (some 39))] κ σ Q := by
  obtain ⟨d, rfl⟩ := dS 1 (show 1 ≤ d by omega)
  refine ys_92 ?_
  unfold ys_92_0
  unfold ccon at hr
  refine x_69 (k := 40) ht h ho (by omega) hκ (by omega) rfl (fun h40 h12 σ1 g1 f1 => ?_) (fun hc => ?_)
  · rw [if_pos ⟨h40, h12⟩] at hr
    rw [my_k0_v]
    refine y_81 ht hκ g1 (by omega) (by omega) hr (fun q' hq' => fY_mo (hf q' hq') (eqp_mo f1 (fun _ _ => xF_y))) (fun a q S1 hr2 hm σ2 g2 f2 => ?_)
    rw [my_k0_v]
    have fr := eqp_tr f1 f2
    refine x_70 (k := 41) ht g2 (by omega) hκ (by omega) rfl (fun h41 σ3 g3 f3 => ?_) (fun h41 => ?_)
    · rw [if_pos h41] at hr2
      rw [my_k0_v]
      exact hQ _ _ hr2 (ml_t hm ml_wf) σ3 g3 (eqp_tr fr f3)
    · rw [if_neg h41] at hr2
      cases hr2
      exact hf q rfl σ2 g2.1 (eqp_mo fr (fun _ _ => xF_y))
  · rw [if_neg (by omega)] at hr
    cases hr
    exact hf _ rfl σ h.1 eqp_rf
def CSL (e : my_E) (κ : my_K) (t : Nat → Int32) (n : Nat) (I : List It) (w : Bool) (rv cu fm : Nat) (cF : Int32) (f : Nat) : Prop := ∀ (d p o : Nat) (L : List (List Nat)) (LT : Nat → Int32) (ck : Nat) (ls : Int32) (B : List Int32) (S : St) (σ : my_S) (Q : my_O → my_K → my_S → Prop) (res : Nat ⊕ Cv), cst t n fm (itA I cu).2.2.2.1 cF I w (nF0 I cu) f 1 p o L LT ck ls B S = some res → CR t n L LT I w rv cu S p o σ → CU I rv cu ck ls B cF σ → cfP cF S → 12 * (13 - o) + 28 ≤ d → o ≤ 12 → (∀ q, res = .inl q → fY κ Q t n rv cu σ q) → (∀ v σ', res = .inr v → CV t n I w rv cu cF ls o v σ' → eqp (yF rv cu) σ σ' → Q (.inl none) κ σ') → my_M e d 77 [.inr (.inr (some 39))] κ σ Q
def CSB (e : my_E) (κ : my_K) (t : Nat → Int32) (n : Nat) (I : List It) (w : Bool) (rv cu fm : Nat) (cF : Int32) (f : Nat) : Prop := ∀ (d p o c : Nat) (L : List (List Nat)) (LT : Nat → Int32) (ck : Nat) (ls : Int32) (B : List Int32) (S : St) (σ : my_S) (Q : my_O → my_K → my_S → Prop) (res : Nat ⊕ Cv), cst t n fm (itA I cu).2.2.2.1 cF I w (nF0 I cu) f 0 p o L LT ck ls B S = some res → CR t n L LT I w rv cu S p o σ → CU I rv cu ck ls B cF σ → cfP cF S → c ≤ p → 12 * (13 - o) + 28 ≤ d → o ≤ 12 → (∀ q, res = .inl q → fY κ Q t n rv cu σ q) → (∀ v σ', res = .inr v → CV t n I w rv cu cF ls o v σ' → eqp (yF rv cu) σ σ' → ys_76_37 e d κ σ' Q) → ys_76_8 e d (Int32.ofNat c) κ σ Q
/-- a block -/
theorem y_76 {f d p o ck : Nat} {L : List (List Nat)} {LT : Nat → Int32} {B : List Int32} {ls : Int32} {S : St} {σ : my_S} {Q : my_O → my_K → my_S → Prop} {k : Cv → Cq} {res : Nat ⊕ Cv} (ht : txt t n) (hκ : 1 ≤ κ.2.1 ∧ 6 ≤ κ.2.2) (iB : CSB e κ t n I w rv cu fm cF f) (hr : cblk t n (cst t n fm (itA I cu).2.2.2.1 cF I w (nF0 I cu) f) p o L LT ck ls B S k = some res) (h : CR t n L LT I w rv cu S p o σ) (hU : CU I rv cu ck ls B cF σ) (hc : cfP cF S) (hd : 12 * (13 - o) + 17 ≤ d) (ho : o ≤ 12) (hf : ∀ q, res = .inl q → fY κ Q t n rv cu σ q) (hQ : ∀ v σ', k v = some res → ml S v.2.2.2.2.2 → (∃ C, v.2.2.2.2.1 = B ++ C) → CV t n I w rv cu cF ls o v σ' → eqp (yF rv cu) σ σ' → Q (.inl none) κ σ') : my_M e d 76 [.inr (.inr (some 39))] κ σ Q := by
  obtain ⟨d, rfl⟩ := dS 1 (show 1 ≤ d by omega)
  refine ys_76 ?_
  unfold ys_76_0
  rcases cblk_r hr with ⟨g1, g2⟩ | ⟨g1, g2⟩
  · exact x_69 (k := 123) ht h ho (by omega) hκ (by omega) rfl (fun h1 h2 => absurd ⟨h1, h2⟩ g1) (fun _ => hf p g2 σ h.1 eqp_rf)
  · refine x_69 (k := 123) ht h ho (by omega) hκ (by omega) rfl (fun h1 h2 σ1 g3 f3 => ?_) (fun hh => by omega)
    rw [my_k0_v]
    have hU1 := CU_x h hU f3
    have fr := eqp_mo f3 (fun _ _ => xF_y)
    refine ys_76_8_ok ?_
    rcases g2 with ⟨q, g4, g5⟩ | ⟨v, g4, g5⟩
    · refine iB d _ (o + 1) 0 L LT ck ls B S σ1 Q _ g4 g3 hU1 hc (by omega) (by omega) (by omega) (fun q' hq' => ?_) (fun v σ' hh => by cases hh)
      cases hq'
      exact fY_mo (hf q g5) fr
    · refine iB d _ (o + 1) 0 L LT ck ls B S σ1 Q _ g4 g3 hU1 hc (by omega) (by omega) (by omega) (fun q' hq' => by cases hq') (fun u σ2 hh g6 f6 => ?_)
      cases hh
      unfold ys_76_37
      have h125 := cst_125 _ _ _ _ _ _ _ _ _ _ g4
      refine x_70 (k := 125) ht g6.1 (by omega) hκ (by omega) rfl (fun _ σ3 g7 f7 => ?_) (fun hh => absurd h125 hh)
      rw [my_k0_v]
      exact hQ _ σ3 g5 (show ml S v.2.2.2.2.2 from cst_ml _ _ _ _ _ _ _ _ _ _ v g4) (show ∃ C, v.2.2.2.2.1 = B ++ C from cst_pre _ _ _ _ _ _ _ _ _ _ v g4) ⟨g7, CU_x g6.1 g6.2 f7⟩ (eqp_tr (eqp_tr fr f6) (eqp_mo f7 (fun _ _ => xF_y)))
/-- if -/
theorem y_91 {f d p o ck : Nat} {L : List (List Nat)} {LT : Nat → Int32} {B : List Int32} {ls : Int32} {S : St} {σ : my_S} {Q : my_O → my_K → my_S → Prop} {res : Nat ⊕ Cv} (ht : txt t n) (hκ : 1 ≤ κ.2.1 ∧ 6 ≤ κ.2.2) (iB : CSB e κ t n I w rv cu fm cF f) (hr : cif t n I w cF (cst t n fm (itA I cu).2.2.2.1 cF I w (nF0 I cu) f) p o L LT ck ls B S = some res) (h : CR t n L LT I w rv cu S p o σ) (hU : CU I rv cu ck ls B cF σ) (hc : cfP cF S) (hd : 12 * (13 - o) + 24 ≤ d) (ho : o ≤ 12) (hf : ∀ q, res = .inl q → fY κ Q t n rv cu σ q) (hQ : ∀ v σ', res = .inr v → CV t n I w rv cu cF ls o v σ' → eqp (yF rv cu) σ σ' → Q (.inl none) κ σ') : my_M e d 91 [.inr (.inr (some 39))] κ σ Q := by
  obtain ⟨d, rfl⟩ := dS 1 (show 1 ≤ d by omega)
  refine ys_91 ?_
  unfold ys_91_0 ys_91_73
  unfold cif at hr
  refine x_55 h (by omega) (fun σ1 g1 f1 => ?_)
  rw [my_k0_v]
  refine y_92 ht hκ g1 (by omega) ho hr (fun q' hq' => fY_mo (hf q' hq') (eqp_mo f1 (fun _ _ => xF_y))) (fun q S1 hr2 hm σ2 g2 f2 => ?_)
  rw [my_k0_v]
  refine x_93 g2 (by omega) (fun σ3 g3 f3 => ?_)
  rw [my_kI_v]
  have fr3 := eqp_tr (eqp_tr f1 f2) f3
  have hU3 := CU_x h hU fr3
  have fy3 := eqp_mo fr3 (fun _ _ => xF_y)
  refine y_76 ht hκ iB hr2 g3 hU3 (cfP_m hc (ml_t hm ml_wjS)) (by omega) ho (fun q' hq' => fY_mo (hf q' hq') fy3) (fun v σ4 hr4 hm4 _ g4 f4 => ?_)
  rw [my_k0_v]
  have fy4 := eqp_tr fy3 f4
  have T := tcl ht g4.1.1 309 (y := 309) (by omega) rfl
  refine my_if (fun h309 => ?_) (fun h309 => ?_)
  · rw [if_pos (T.mp h309)] at hr4
    refine x_55 g4.1 (by omega) (fun σ5 g5 f5 => ?_)
    rw [my_k0_v]
    refine x_93 g5 (by omega) (fun σ6 g6 f6 => ?_)
    rw [my_kI_v]
    have hU6 := CU_x g4.1 g4.2 (eqp_tr f5 f6)
    refine x_94 g6 hU6 (by omega) (fun σ7 g7 f7 => ?_)
    rw [my_k0_v]
    have fr7 := eqp_tr (eqp_tr f5 f6) f7
    have hU7 := CU_x g4.1 g4.2 fr7
    have fy7 := eqp_tr fy4 (eqp_mo fr7 (fun _ _ => xF_y))
    refine y_76 ht hκ iB hr4 g7 hU7 (cfP_m hc (ml_t hm (ml_t ml_wjS (ml_t hm4 (ml_t ml_wjS ml_lnd))))) (by omega) ho (fun q' hq' => fY_mo (hf q' hq') fy7) (fun u σ8 hr8 hm8 _ g8 f8 => ?_)
    rw [my_k0_v]
    cases hr8
    refine x_94 g8.1 g8.2 (by omega) (fun σ9 g9 f9 => ?_)
    rw [my_k0_v]
    exact hQ _ σ9 rfl ⟨g9, CU_x g8.1 g8.2 f9⟩ (eqp_tr (eqp_tr fy7 f8) (eqp_mo f9 (fun _ _ => xF_y)))
  · rw [if_neg (fun hh => h309 (T.mpr hh))] at hr4
    cases hr4
    refine x_94 g4.1 g4.2 (by omega) (fun σ9 g9 f9 => ?_)
    rw [my_k0_v]
    exact hQ _ σ9 rfl ⟨g9, CU_x g4.1 g4.2 f9⟩ (eqp_tr fy4 (eqp_mo f9 (fun _ _ => xF_y)))
/-- the breaks land -/
theorem y_96l {d p o ck : Nat} {L : List (List Nat)} {LT : Nat → Int32} {B : List Int32} {ls v1 v2 : Int32} {Q : my_O → my_K → my_S → Prop} (hd : 2 ≤ d) : ∀ (m j : Nat) (S : St) (σ : my_S), j + m = B.length → CR t n L LT I w rv cu S p o σ → CU I rv cu ck ls B cF σ → (∀ σ', CR t n L LT I w rv cu (lnds w cF (B.drop j) S) p o σ' → CU I rv cu ck ls B cF σ' → eqp (xF rv cu) σ σ' → ys_96_104 e d v1 v2 κ σ' Q) → ys_96_68 e d v1 v2 (Int32.ofNat j) κ σ Q := by
  intro m
  induction m with
  | zero =>
    intro j S σ hj h hU hQ
    have hB := hU.2.2.1
    unfold ys_96_68
    rw [hB.1, if_neg (fun hh => absurd ((oN_lt (by omega) (by omega)).mp hh) (by omega))]
    rw [List.drop_eq_nil_of_le (by omega)] at hQ
    exact hQ σ h hU eqp_rf
  | succ m ih =>
    intro j S σ hj h hU hQ
    have hB := hU.2.2.1
    have hjl : j < B.length := by omega
    unfold ys_96_68
    rw [hB.1, if_pos ((oN_lt (by omega) (by omega)).mpr hjl), if_pos ((oN_lt1 (b := 256) (c := 256) rfl (by omega) (by omega)).mpr (by omega)), oN_n (by omega), hB.2.2 j B[j] (List.getElem?_eq_getElem hjl)]
    refine ⟨⟨by rw [oN_i (by omega)]; omega, by rw [oN_i (by omega)]; omega⟩, ?_⟩
    refine x_94 h hU hd (fun σ1 g1 f1 => ?_)
    rw [my_k0_v, oN_s]
    rw [List.drop_eq_getElem_cons hjl] at hQ
    exact ys_96_68_ok (ih (j + 1) _ σ1 (by omega) g1 (CU_x h hU f1) (fun σ2 g2 hU2 f2 => hQ σ2 g2 hU2 (eqp_tr f1 f2)))
/-- while -/
theorem y_96 {f d p o ck : Nat} {L : List (List Nat)} {LT : Nat → Int32} {B : List Int32} {ls : Int32} {S : St} {σ : my_S} {Q : my_O → my_K → my_S → Prop} {res : Nat ⊕ Cv} (ht : txt t n) (hκ : 1 ≤ κ.2.1 ∧ 6 ≤ κ.2.2) (iB : CSB e κ t n I w rv cu fm cF f) (hr : cwh t n I w cF (cst t n fm (itA I cu).2.2.2.1 cF I w (nF0 I cu) f) p o L LT ck B S = some res) (h : CR t n L LT I w rv cu S p o σ) (hU : CU I rv cu ck ls B cF σ) (hc : cfP cF S) (hd : 12 * (13 - o) + 24 ≤ d) (ho : o ≤ 12) (hf : ∀ q, res = .inl q → fY κ Q t n rv cu σ q) (hQ : ∀ v σ', res = .inr v → CV t n I w rv cu cF ls o v σ' → eqp (yF rv cu) σ σ' → Q (.inl none) κ σ') : my_M e d 96 [.inr (.inr (some 39))] κ σ Q := by
  obtain ⟨d, rfl⟩ := dS 1 (show 1 ≤ d by omega)
  refine ys_96 ?_
  unfold ys_96_0
  rw [hU.2.1, hU.2.2.1.1]
  unfold cwh at hr
  refine x_95 h hU (by omega) ?_
  rw [my_kI_v]
  refine x_55 h (by omega) (fun σ1 g1 f1 => ?_)
  rw [my_k0_v]
  refine y_92 ht hκ g1 (by omega) ho hr (fun q' hq' => fY_mo (hf q' hq') (eqp_mo f1 (fun _ _ => xF_y))) (fun q S1 hr2 hm σ2 g2 f2 => ?_)
  rw [my_k0_v]
  refine x_93 g2 (by omega) (fun σ3 g3 f3 => ?_)
  rw [my_kI_v]
  refine x_67 (k := 1) g3 (by omega) (by omega) rfl (fun σ4 g4 f4 => ?_)
  rw [my_k0_v]
  have fr4 := eqp_tr (eqp_tr (eqp_tr f1 f2) f3) f4
  have hU4 := CU_x h hU fr4
  have hrv := h.2.2.1.2.2.1.2.1
  have he : eqp (fun c k => c = 39 ∧ k = 11) σ4 (my_uI σ4 39 11 (cpl cF S)) := eqp_I eqp_rf ⟨rfl, rfl⟩
  have g4' := CR_k g4 he (fun c k hh => by omega)
  have hU4' : CU I rv cu ck (cpl cF S) B cF (my_uI σ4 39 11 (cpl cF S)) := by
    obtain ⟨u1, u2, ⟨u3, u4, u5⟩, u6, u7, u8⟩ := hU4
    exact ⟨(eqp_g he (by omega)).trans u1, by rw [my_uI_1, if_pos ⟨rfl, rfl⟩], ⟨(eqp_g he (by omega)).trans u3, u4, fun j x hx => (eqp_g he (by omega)).trans (u5 j x hx)⟩, (eqp_g he (by omega)).trans u6, fun k hk => (eqp_g he (by omega)).trans (u7 k hk), u8⟩
  have fy4 : eqp (yF rv cu) σ (my_uI σ4 39 11 (cpl cF S)) := eqp_tr (eqp_mo fr4 (fun _ _ => xF_y)) (eqp_mo he (fun c k hh => by unfold yF; omega))
  generalize my_uI σ4 39 11 (cpl cF S) = σ4' at g4' hU4' fy4 ⊢
  refine y_76 ht hκ iB hr2 g4' hU4' (cfP_m hc (ml_t hm (ml_t ml_wjS ml_wr))) (by omega) ho (fun q' hq' => fY_mo (hf q' hq') fy4) (fun v σ5 hr5 hm5 hpre g5 f5 => ?_)
  rw [my_k0_v]
  have fy5 := eqp_tr fy4 f5
  refine x_93 g5.1 (by omega) (fun σ6 g6 f6 => ?_)
  rw [my_kI_v]
  refine x_94 g6 (CU_x g5.1 g5.2 f6) (by omega) (fun σ7 g7 f7 => ?_)
  rw [my_k0_v]
  have fr7 := eqp_tr f6 f7
  have hU7 := CU_x g5.1 g5.2 fr7
  have fy7 := eqp_tr fy5 (eqp_mo fr7 (fun _ _ => xF_y))
  obtain ⟨C, hC⟩ := hpre
  have hlen : B.length ≤ v.2.2.2.2.1.length := by rw [hC]; simp
  refine ys_96_68_ok (y_96l (by omega) (v.2.2.2.2.1.length - B.length) B.length _ σ7 (by omega) g7 hU7 (fun σ8 g8 hU8 f8 => ?_))
  unfold ys_96_104
  have he2 : eqp (fun c k => c = 39 ∧ (k = 11 ∨ k = 13)) σ8 (my_uI (my_uI σ8 39 13 (Int32.ofNat B.length)) 39 11 ls) := eqp_I (eqp_I eqp_rf (by omega)) (by omega)
  have g9 := CR_k g8 he2 (fun c k hh => by omega)
  cases hr5
  refine hQ _ _ rfl ⟨g9, ?_⟩ (eqp_tr (eqp_tr fy7 (eqp_mo f8 (fun _ _ => xF_y))) (eqp_mo he2 (fun c k hh => by unfold yF; omega)))
  obtain ⟨u1, u2, ⟨u3, u4, u5⟩, u6, u7, u8⟩ := hU8
  refine ⟨(eqp_g he2 (by omega)).trans u1, by rw [my_uI_1, if_pos ⟨rfl, rfl⟩], ⟨by rw [my_uI_1, if_neg (by omega), my_uI_1, if_pos ⟨rfl, rfl⟩], by show B.length ≤ 256; omega, fun j x hx => ?_⟩, (eqp_g he2 (by omega)).trans u6, fun k hk => (eqp_g he2 (by omega)).trans (u7 k hk), u8⟩
  change B[j]? = some x at hx
  refine (eqp_g he2 (by omega)).trans (u5 j x ?_)
  rw [hC, List.getElem?_append_left (by
    by_cases hh : j < B.length
    · exact hh
    · rw [List.getElem?_eq_none (by omega)] at hx; cases hx)]
  exact hx
/-- the statements, one and many -/
theorem CS_1 {f : Nat} (ht : txt t n) (hκ : 1 ≤ κ.2.1 ∧ 6 ≤ κ.2.2) (hfm : fm = 2 ∨ fm = 3 ∨ fm = 4) (hform : (itA I cu).2.1 = Int32.ofNat fm) (iB : CSB e κ t n I w rv cu fm cF f) : CSL e κ t n I w rv cu fm cF (f + 1) := by
  intro d p o L LT ck ls B S σ Q res hr h hU hc hd ho hf hQ
  obtain ⟨d, rfl⟩ := dS 1 (show 1 ≤ d by omega)
  refine ys_77 ?_
  unfold ys_77_0 ys_77_100 ys_77_158
  unfold cst at hr
  rw [if_neg (by omega)] at hr
  have T : ∀ (k : Nat) (y : Int32), k < 1000 → y = Int32.ofNat k → (σ.1 33 8 = y ↔ tkk t n p = k) := fun k y hk hy => tcl ht h.1 k hk hy
  have fin : ∀ v σ', res = .inr v → CV t n I w rv cu cF ls o v σ' → eqp (yF rv cu) σ σ' → my_k0 (fun κ2 σ3 => Q (.inl none) κ2 σ3) (fun y4 κ5 σ6 => Q (.inr y4) κ5 σ6) (.inl none) κ σ' := fun v σ' a b c => by rw [my_k0_v]; exact hQ v σ' a b c
  refine my_if (fun h2 => ?_) (fun h2 => ?_)
  · have h2 := (T 2 2 (by omega) rfl).mp h2
    rw [if_pos h2] at hr
    exact y_78 ht hκ h2 hr h hU (by omega) ho (fun q hq => hf q hq) fin
  rw [T 2 2 (by omega) rfl] at h2
  rw [if_neg h2] at hr
  refine my_if (fun h3 => ?_) (fun h3 => ?_)
  · rw [if_pos ((T 307 307 (by omega) rfl).mp h3)] at hr
    exact y_90 ht hκ hr h hU (by omega) ho (fun q hq => hf q hq) fin
  rw [T 307 307 (by omega) rfl] at h3
  rw [if_neg h3] at hr
  refine my_if (fun h4 => ?_) (fun h4 => ?_)
  · rw [if_pos ((T 308 308 (by omega) rfl).mp h4)] at hr
    exact y_91 ht hκ iB hr h hU hc (by omega) ho (fun q hq => hf q hq) fin
  rw [T 308 308 (by omega) rfl] at h4
  rw [if_neg h4] at hr
  refine my_if (fun h5 => ?_) (fun h5 => ?_)
  · rw [if_pos ((T 310 310 (by omega) rfl).mp h5)] at hr
    exact y_96 ht hκ iB hr h hU hc (by omega) ho (fun q hq => hf q hq) fin
  rw [T 310 310 (by omega) rfl] at h5
  rw [if_neg h5] at hr
  have T311 := T 311 311 (by omega) rfl
  have T312 := T 312 312 (by omega) rfl
  refine my_if (fun h6 => ?_) (fun h6 => ?_)
  · rw [if_pos (Or.inl (T311.mp h6))] at hr
    exact y_97 ht hκ hr h hU (by omega) (fun q hq => hf q hq) fin
  refine my_if (fun h7 => ?_) (fun h7 => ?_)
  · rw [if_pos (Or.inr (T312.mp h7))] at hr
    exact y_97 ht hκ hr h hU (by omega) (fun q hq => hf q hq) fin
  rw [T311] at h6
  rw [T312] at h7
  rw [if_neg (by omega)] at hr
  refine my_if (fun h8 => ?_) (fun h8 => ?_)
  · rw [if_pos ((T 313 313 (by omega) rfl).mp h8)] at hr
    exact y_98 ht hκ hfm hform hr h hU (by omega) ho (fun q hq => hf q hq) fin
  rw [T 313 313 (by omega) rfl] at h8
  rw [if_neg h8] at hr
  by_cases h9 : tkk t n p = 314
  · rw [if_pos h9] at hr
    refine x_62 (k := 314) ht h (by omega) hκ (by omega) rfl (fun _ σ1 g1 f1 => ?_) (fun hh => absurd h9 hh)
    rw [my_k0_v]
    unfold cchk at hr
    refine y_81 ht hκ g1 (by omega) ho hr (fun q' hq' => fY_mo (hf q' hq') (eqp_mo f1 (fun _ _ => xF_y))) (fun a q S1 hr2 hm σ2 g2 f2 => ?_)
    rw [my_k0_v]
    have fr2 := eqp_tr f1 f2
    refine y_62 (due := 59) ht hκ g2 (by omega) (by omega) rfl hr2 (fun q' hq' _ => fY_mo (hf q' hq') (eqp_mo fr2 (fun _ _ => xF_y))) (fun hr3 _ σ3 g3 f3 => ?_)
    rw [my_k0_v]
    refine x_67 (k := 1) g3 (by omega) (by omega) rfl (fun σ4 g4 f4 => ?_)
    rw [my_k0_v]
    have fr4 := eqp_tr (eqp_tr fr2 f3) f4
    rw [(CU_x h hU fr4).1]
    refine x_67 (k := 1) g4 (by omega) (by omega) rfl (fun σ5 g5 f5 => ?_)
    rw [my_k0_v]
    have fr5 := eqp_tr fr4 f5
    have hU5 := CU_x h hU fr5
    rw [hU5.1, oN_s]
    have hrv := h.2.2.1.2.2.1.2.1
    have he : eqp (fun c k => c = 39 ∧ k = 10) σ5 (my_uI σ5 39 10 (Int32.ofNat (ck + 1))) := eqp_I eqp_rf ⟨rfl, rfl⟩
    cases hr3
    refine hQ _ _ rfl ⟨CR_k g5 he (fun c k hh => by omega), ?_⟩ (eqp_tr (eqp_mo fr5 (fun _ _ => xF_y)) (eqp_mo he (fun c k hh => by unfold yF; omega)))
    obtain ⟨u1, u2, ⟨u3, u4, u5⟩, u6, u7, u8⟩ := hU5
    exact ⟨by rw [my_uI_1, if_pos ⟨rfl, rfl⟩], (eqp_g he (by omega)).trans u2, ⟨(eqp_g he (by omega)).trans u3, u4, fun j x hx => (eqp_g he (by omega)).trans (u5 j x hx)⟩, (eqp_g he (by omega)).trans u6, fun k hk => (eqp_g he (by omega)).trans (u7 k hk), u8⟩
  · rw [if_neg h9] at hr
    cases hr
    exact x_62 (k := 314) ht h (by omega) hκ (by omega) rfl (fun hh => absurd hh h9) (fun _ => hf p rfl σ h.1 eqp_rf)
theorem CS_0 {f : Nat} (ht : txt t n) (hκ : 1 ≤ κ.2.1 ∧ 6 ≤ κ.2.2) (iL : CSL e κ t n I w rv cu fm cF f) (iB : CSB e κ t n I w rv cu fm cF f) : CSB e κ t n I w rv cu fm cF (f + 1) := by
  intro d p o c L LT ck ls B S σ Q res hr h hU hc hcp hd ho hf hQ
  have hb := CR_bd ht h
  unfold cst at hr
  rw [if_pos rfl] at hr
  unfold ys_76_8
  have T := tcl ht h.1 125 (y := 125) (by omega) rfl
  by_cases h125 : tkk t n p = 125
  · rw [if_pos h125] at hr
    cases hr
    have fin := hQ _ σ rfl ⟨h, hU⟩ eqp_rf
    refine my_if (fun _ => ?_) (fun _ => fin)
    rw [if_pos (T.mpr h125)]
    exact fin
  · rw [if_neg h125] at hr
    have one : my_M e d 77 [.inr (.inr (some 39))] κ σ (my_k0 (fun κ2 σ3 => my_W e d mp_76 8 [(0, .inr (.inr (some 39))), (1, .inl (Int32.ofNat c + 1))] [] κ2 σ3 Q) (fun y4 κ5 σ6 => Q (.inr y4) κ5 σ6)) := by
      rcases bq_s hr with ⟨q, g1, g2⟩ | ⟨v, g1, g2⟩
      · refine iL d p o L LT ck ls B S σ _ _ g1 h hU hc hd ho (fun q' hq' => ?_) (fun v σ' hh => by cases hh)
        cases hq'
        exact hf q g2
      · refine iL d p o L LT ck ls B S σ _ _ g1 h hU hc hd ho (fun q' hq' => by cases hq') (fun u σ1 hh g3 f3 => ?_)
        cases hh
        rw [my_k0_v, oN_s]
        have hlt := cst_lt ht h.2.2.1.2.1.2.1 hb.1 hc g1
        exact ys_76_8_ok (iB d _ o (c + 1) _ _ _ ls _ _ σ1 Q res g2 g3.1 g3.2 (cfP_m hc (cst_ml _ _ _ _ _ _ _ _ _ _ _ g1)) (by omega) hd ho (fun q hq => fY_mo (hf q hq) f3) (fun u σ2 hh g4 f4 => hQ u σ2 hh g4 (eqp_tr f3 f4)))
    refine my_if (fun _ => ?_) (fun h15 => ?_)
    · rw [if_neg (fun hh => h125 (T.mp hh))]
      exact one
    · -- nothing stands there
      have h15 : ¬ c < 1500 := fun hh => h15 ((oN_lt1 (b := 1500) (c := 1500) rfl (by omega) (by omega)).mpr hh)
      have h0 : tkk t n p = 0 := by
        by_cases hh : tkk t n p = 0
        · exact hh
        · have := tk_lt hh; omega
      rcases bq_s hr with ⟨q, g1, g2⟩ | ⟨v, g1, g2⟩
      · have hq : q = p := by
          cases f with
          | zero => simp [cst] at g1
          | succ f =>
            unfold cst at g1
            rw [if_neg (by omega), if_neg (by omega), if_neg (by omega), if_neg (by omega), if_neg (by omega), if_neg (by omega), if_neg (by omega), if_neg (by omega)] at g1
            cases g1; rfl
        subst hq
        unfold ys_76_37
        obtain ⟨d, rfl⟩ := dS 1 (show 1 ≤ d by omega)
        refine ys_70 ?_
        unfold ys_70_0
        rw [if_neg (fun hh => h125 (T.mp hh))]
        exact ⟨⟨by omega, hκ⟩, hf q g2 σ h.1 eqp_rf⟩
      · have := cst_lt ht h.2.2.1.2.1.2.1 hb.1 hc g1
        omega
/-- all of them -/
theorem CST (ht : txt t n) (hκ : 1 ≤ κ.2.1 ∧ 6 ≤ κ.2.2) (hfm : fm = 2 ∨ fm = 3 ∨ fm = 4) (hform : (itA I cu).2.1 = Int32.ofNat fm) : ∀ f, CSL e κ t n I w rv cu fm cF f ∧ CSB e κ t n I w rv cu fm cF f := by
  intro f
  induction f with
  | zero => exact ⟨fun d p o L LT ck ls B S σ Q res h => by simp [cst] at h, fun d p o c L LT ck ls B S σ Q res h => by simp [cst] at h⟩
  | succ f ih => exact ⟨CS_1 ht hκ hfm hform ih.2, CS_0 ht hκ ih.1 ih.2⟩
end MCQ
