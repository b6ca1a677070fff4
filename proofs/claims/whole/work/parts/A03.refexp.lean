/-! ===== the reference's expression, as a whole; there is fuel enough ===== -/
def wgt (m : Nat) : Nat := if m ≤ 5 then 7 - m else if m ≤ 10 then 1 else 8
theorem bnd_n {x : Rs} {k : List Rw → Nat → Nat → Rs} (h : x ≠ none) (hk : ∀ r c q, x = some (.inr (r, c, q)) → k r c q ≠ none) : bnd x k ≠ none := by
  unfold bnd
  split
  · exact absurd rfl h
  · simp
  · exact hk _ _ _ rfl
theorem pfac_tot {t : Nat → Int32} {n : Nat} {L : List (List Nat)} (ht : txt t n) {g : Nat → List Rw → Nat → Nat → Nat → Rs} {p o : Nat} (hp : p ≤ n) (hg : ∀ m q o, (m = 0 ∨ m = 5 ∨ m = 11) → p < q → q ≤ n → g m [] 0 q o ≠ none) : pfac t n L g p o ≠ none := by
  have nl : ∀ {p}, tkk t n p ≠ 0 → p < nx t n p ∧ nx t n p ≤ n := fun h => nx_bd ht (tk_lt h)
  unfold pfac
  refine my_ite (P := fun x => x ≠ none) (fun h => ?_) (fun _ => ?_)
  · have h1 := nl (p := p) (by omega)
    exact my_ite (P := fun x => x ≠ none) (fun _ => by simp) (fun _ => bnd_n (hg _ _ _ (by omega) h1.1 h1.2) (fun _ _ _ _ => by simp))
  refine my_ite (P := fun x => x ≠ none) (fun h => ?_) (fun _ => ?_)
  · have h1 := nl (p := p) (by omega)
    exact my_ite (P := fun x => x ≠ none) (fun _ => by simp) (fun _ => bnd_n (hg _ _ _ (by omega) h1.1 h1.2) (fun _ _ _ _ => my_ite (P := fun x => x ≠ none) (fun _ => by simp) (fun _ => by simp)))
  refine my_ite (P := fun x => x ≠ none) (fun h => by simp) (fun _ => ?_)
  refine my_ite (P := fun x => x ≠ none) (fun h => by simp) (fun _ => ?_)
  refine my_ite (P := fun x => x ≠ none) (fun h => by simp) (fun _ => ?_)
  refine my_ite (P := fun x => x ≠ none) (fun h => ?_) (fun _ => by simp)
  have h1 := nl (p := p) (by omega)
  refine my_ite (P := fun x => x ≠ none) (fun h9 => ?_) (fun _ => ?_)
  · have h2 := nl (p := nx t n p) (by omega)
    exact my_ite (P := fun x => x ≠ none) (fun _ => by simp) (fun _ => bnd_n (hg _ _ _ (by omega) (by omega) h2.2) (fun _ _ _ _ => my_ite (P := fun x => x ≠ none) (fun _ => by simp) (fun _ => by simp)))
  refine my_ite (P := fun x => x ≠ none) (fun h9 => ?_) (fun _ => by simp)
  have h2 := nl (p := nx t n p) (by omega)
  exact my_ite (P := fun x => x ≠ none) (fun _ => by simp) (fun _ => my_ite (P := fun x => x ≠ none) (fun _ => by simp) (fun _ => bnd_n (hg _ _ _ (by omega) (by omega) h2.2) (fun _ _ _ _ => by simp)))
theorem px_tot {t : Nat → Int32} {n : Nat} {L : List (List Nat)} (ht : txt t n) : ∀ (f m : Nat) (r : List Rw) (c p o : Nat), m ≤ 11 → p ≤ n → 14 * (n - p) + wgt m ≤ f → px t n L f m r c p o ≠ none := by
  intro f
  induction f with
  | zero =>
    intro m r c p o hm hp hf
    unfold wgt at hf
    split at hf
    · omega
    · split at hf <;> omega
  | succ f ih =>
    intro m r c p o hm hp hf
    unfold px
    refine my_ite (P := fun x => x ≠ none) (fun hm => ?_) (fun hm => my_ite (P := fun x => x ≠ none) (fun hm5 => ?_) (fun hm5 => my_ite (P := fun x => x ≠ none) (fun hm11 => ?_) (fun hm11 => ?_)))
    · unfold wgt at hf
      rw [if_pos (by omega)] at hf
      refine bnd_n (ih _ _ _ _ _ (by omega) hp (by unfold wgt; rw [if_pos (by omega)]; omega)) (fun r1 c1 q hq => ?_)
      obtain ⟨a, b, c, d⟩ := (px_bd (L := L) ht f _ _ _ p o hp).2 _ _ _ hq
      have := c (by omega)
      exact ih _ _ _ _ _ (by omega) b (by unfold wgt; rw [if_neg (by omega), if_pos (by omega)]; omega)
    · subst hm5
      unfold wgt at hf
      rw [if_pos (by omega)] at hf
      refine pfac_tot ht hp (fun m q o hm hq hn => ih _ _ _ _ _ (by omega) hn ?_)
      unfold wgt
      split
      · omega
      · split <;> omega
    · unfold wgt at hf
      rw [if_neg (by omega), if_pos (by omega)] at hf
      refine my_ite (P := fun x => x ≠ none) (fun hr => ?_) (fun hr => by simp)
      have hlt := nx_bd ht (tk_lt (rnk_tk (k := tkk t n p) (by omega)))
      refine bnd_n (ih _ _ _ _ _ (by omega) hlt.2 (by unfold wgt; rw [if_pos (by omega)]; omega)) (fun r1 c1 q hq => my_ite (P := fun x => x ≠ none) (fun _ => by simp) (fun _ => ?_))
      obtain ⟨a, b, c, d⟩ := (px_bd (L := L) ht f _ _ _ _ o hlt.2).2 _ _ _ hq
      exact ih _ _ _ _ _ (by omega) b (by unfold wgt; rw [if_neg (by omega), if_pos (by omega)]; omega)
    · unfold wgt at hf
      rw [if_neg (by omega), if_neg (by omega)] at hf
      refine bnd_n (ih _ _ _ _ _ (by omega) hp (by unfold wgt; rw [if_pos (by omega)]; omega)) (fun r1 c1 q hq => my_ite (P := fun x => x ≠ none) (fun h44 => ?_) (fun _ => my_ite (P := fun x => x ≠ none) (fun _ => by simp) (fun _ => by simp)))
      obtain ⟨a, b, c, d⟩ := (px_bd (L := L) ht f _ _ _ p o hp).2 _ _ _ hq
      have hlt := nx_bd ht (tk_lt (t := t) (n := n) (p := q) (by omega))
      exact ih _ _ _ _ _ (by omega) hlt.2 (by unfold wgt; rw [if_neg (by omega), if_neg (by omega)]; omega)
section MRZ
variable {e : my_E} {d : Nat} {κ : my_K} {σ : my_S} {Q : my_O → my_K → my_S → Prop} {t : Nat → Int32} {n : Nat} {L : List (List Nat)}
/-- the reference's expression -/
theorem r_244 {f p o : Nat} {R : List Rw} {W : List Wt} {res : Nat ⊕ (List Rw × Nat × Nat)} (ht : txt t n) (hpx : px t n L f 0 [] 0 p o = some res) (h : RE t n L R W p o σ) (ho : o ≤ 12) (hR : R.length + (n - p) ≤ 3000)
    (hf : ∀ q, res = .inl q → fK κ Q t n σ q) (hb : ∀ r c q, res = .inr (r, c, q) → rnk (tkk t n q) = 3 → fK κ Q t n σ q)
    (hk : ∀ r c q, res = .inr (r, c, q) → rnk (tkk t n q) = 0 → ∀ σ', RE t n L (R ++ r) [] q o σ' → eqp eF σ σ' → Q (.inl none) κ σ') : my_M e (d + 7) 244 [.inr (.inr (some 498))] κ σ Q := by
  refine ys_244 ?_
  unfold ys_244_0
  refine ys_244_7_ok ?_
  have hl := RE_le ht h
  have he : eqp (fun c k => c = 498 ∧ k = 36) σ (my_uI σ 498 36 0) := eqp_I eqp_rf ⟨rfl, rfl⟩
  have he2 : eqp eF σ (my_uI σ 498 36 0) := eqp_mo he (fun c k hh => by unfold eF; omega)
  obtain ⟨h1, h2, h3, h4, h5, h6⟩ := h
  have g0 : RE t n L R [] p o (my_uI σ 498 36 0) := ⟨rfT_o h1 he (fun c k hh => by omega), (eqp_g he (by omega)).trans h2, (eqp_g he (by omega)).trans h3, rws_o h4 he (fun c k hh => by omega), ⟨by rw [my_uI_1, if_pos ⟨rfl, rfl⟩]; rfl, trivial⟩, rlc_o h6 he (fun c k hh => by omega)⟩
  generalize my_uI σ 498 36 0 = σ0 at g0 he2 ⊢
  refine (RX ht f).1 0 p o R [] σ0 res (by omega) hpx g0 (fun _ w W' hw => by cases hw) (by simp) ho hR (fun q hq => fK_mo (hf q hq) he2) (fun r c q hq => ?_)
  subst hq
  have hrb := (px_bd (L := L) ht f 0 [] 0 p o hl.1).2 _ _ _ hpx
  have hrk := (px_rk f 0 [] 0 p o _ _ _ hpx).1 (by omega)
  simp only [List.length_nil] at hrb
  intro P X σ1 g1 hX hP h7 hl1 f1
  rw [List.append_nil] at g1 hl1
  have hXl : X.length + P.length = r.length := by rw [← hX]; simp [flR_len]
  by_cases h0 : rnk (tkk t n q) = 0
  · refine bh_end ht g1 h0 hP (by omega) (by simp only [List.length_append]; omega) (fun σ2 g2 f2 => ?_)
    rw [hX] at g2
    exact hk r c q rfl h0 σ2 g2 (eqp_tr (eqp_tr he2 f1) f2)
  · refine bh_bad (W := []) (N := 3100) ht (by rw [List.append_nil]; exact g1) (by omega) (fun w hw => (hP w hw).2) (h7 (by omega) (by omega)) (fun w W' hw => by cases hw) (by simp; omega) (by simp only [List.length_append]; omega) (by simp only [List.length_append]; omega) (fun σ2 g2 f2 => hb r c q rfl (by omega) σ2 g2 (eqp_tr (eqp_tr he2 f1) f2))
end MRZ
