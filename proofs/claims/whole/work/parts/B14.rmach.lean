
/-! ===== the reference's machine: what its cells hold, small steps ===== -/
def cbk (As : List Ri) (I : List It) (k : Nat) : Nat := match As[k]? with
  | none => 0
  | some a => cdB I As k a
def rq2 (s : Ms) (σ : my_S) : Prop := σ.1 498 70 = Int32.ofNat (zT s) ∧ ∀ i, i < zT s → σ.1 541 i = zV s i
def rq3 (s : Ms) (σ : my_S) : Prop := σ.1 498 75 = Int32.ofNat (zD s) ∧ ∀ d, d ≤ zD s → σ.1 544 d = Int32.ofNat (zw s d) ∧ σ.1 545 d = Int32.ofNat (zB s d)
def rqP (As : List Ri) (I : List It) (s : Ms) (σ : my_S) : Prop := σ.1 498 77 = Int32.ofNat (cbk As I (zw s (zD s)) + zP s (zD s)) ∧ ∀ d, d < zD s → σ.1 543 (d + 1) = Int32.ofNat (cbk As I (zw s d) + zP s d)
def rq4 (s : Ms) (σ : my_S) : Prop := ∀ i, i < 10 * (zD s + 1) → σ.1 542 i = zL s i
def rq5 (As : List Ri) (s : Ms) (σ : my_S) : Prop := ∀ k b, As[k]? = some b → riF b = 0 → σ.1 538 k = zG s (nmk As k)
def rq6 (As : List Ri) (s : Ms) (σ : my_S) : Prop := ∀ k b, As[k]? = some b → riF b = 1 → ∀ i, i < 32 → σ.1 539 (32 * k + i) = zC s (32 * nmk As k + i)
def rq7 (As : List Ri) (s : Ms) (σ : my_S) : Prop := (∀ k b, As[k]? = some b → σ.1 540 k = if zt s (kdf (riF b)) (nmk As k) = true then 1 else 0) ∧ ∀ v, v < 48 → σ.1 540 v = 0 ∨ σ.1 540 v = 1
def rq8 (s : Ms) (σ : my_S) : Prop := σ.1 498 76 = Int32.ofNat (zF s) ∧ σ.1 498 81 = (if zE s = none then 0 else 1) ∧ (∀ n, zE s = some n → σ.1 498 78 = Int32.ofNat n) ∧ σ.1 498 79 = (match zk s with | none => Int32.ofInt (-1) | some c => Int32.ofNat c.1) ∧ σ.1 498 80 = ckI (zk s)
def RMs (As : List Ri) (I : List It) (s : Ms) (σ : my_S) : Prop := rq2 s σ ∧ rq3 s σ ∧ rqP As I s σ ∧ rq4 s σ ∧ rq5 As s σ ∧ rq6 As s σ ∧ rq7 As s σ ∧ rq8 s σ
def rmF (c k : Nat) : Prop := (c = 498 ∧ (k = 70 ∨ (75 ≤ k ∧ k ≤ 81))) ∨ (538 ≤ c ∧ c ≤ 545)
section MRP
variable {e : my_E} {d : Nat} {κ : my_K} {σ σ' : my_S} {Q : my_O → my_K → my_S → Prop} {s : Ms} {As : List Ri} {I : List It} {F : Nat → Nat → Prop}
theorem rq2_o (h : rq2 s σ) (f : eqp F σ σ') (hF : ∀ c k, F c k → (c = 498 → k ≠ 70) ∧ c ≠ 541) : rq2 s σ' := ⟨(eqp_g f (fun hh => (hF _ _ hh).1 rfl rfl)).trans h.1, fun i hi => (eqp_g f (fun hh => (hF _ _ hh).2 rfl)).trans (h.2 i hi)⟩
theorem rq3_o (h : rq3 s σ) (f : eqp F σ σ') (hF : ∀ c k, F c k → (c = 498 → k ≠ 75) ∧ c ≠ 544 ∧ c ≠ 545) : rq3 s σ' := ⟨(eqp_g f (fun hh => (hF _ _ hh).1 rfl rfl)).trans h.1, fun i hi => ⟨(eqp_g f (fun hh => (hF _ _ hh).2.1 rfl)).trans (h.2 i hi).1, (eqp_g f (fun hh => (hF _ _ hh).2.2 rfl)).trans (h.2 i hi).2⟩⟩
theorem rqP_o (h : rqP As I s σ) (f : eqp F σ σ') (hF : ∀ c k, F c k → (c = 498 → k ≠ 77) ∧ c ≠ 543) : rqP As I s σ' := ⟨(eqp_g f (fun hh => (hF _ _ hh).1 rfl rfl)).trans h.1, fun i hi => (eqp_g f (fun hh => (hF _ _ hh).2 rfl)).trans (h.2 i hi)⟩
theorem rq4_o (h : rq4 s σ) (f : eqp F σ σ') (hF : ∀ c k, F c k → c ≠ 542) : rq4 s σ' := fun i hi => (eqp_g f (fun hh => hF _ _ hh rfl)).trans (h i hi)
theorem rq5_o (h : rq5 As s σ) (f : eqp F σ σ') (hF : ∀ c k, F c k → c ≠ 538) : rq5 As s σ' := fun k b hb hf => (eqp_g f (fun hh => hF _ _ hh rfl)).trans (h k b hb hf)
theorem rq6_o (h : rq6 As s σ) (f : eqp F σ σ') (hF : ∀ c k, F c k → c ≠ 539) : rq6 As s σ' := fun k b hb hf i hi => (eqp_g f (fun hh => hF _ _ hh rfl)).trans (h k b hb hf i hi)
theorem rq7_o (h : rq7 As s σ) (f : eqp F σ σ') (hF : ∀ c k, F c k → c ≠ 540) : rq7 As s σ' := ⟨fun k b hb => (eqp_g f (fun hh => hF _ _ hh rfl)).trans (h.1 k b hb), fun v hv => by rw [eqp_g f (fun hh => hF _ _ hh rfl)]; exact h.2 v hv⟩
theorem rq8_o (h : rq8 s σ) (f : eqp F σ σ') (hF : ∀ c k, F c k → c = 498 → k ≠ 76 ∧ k ≠ 78 ∧ k ≠ 79 ∧ k ≠ 80 ∧ k ≠ 81) : rq8 s σ' := ⟨(eqp_g f (fun hh => (hF _ _ hh rfl).1 rfl)).trans h.1, (eqp_g f (fun hh => (hF _ _ hh rfl).2.2.2.2 rfl)).trans h.2.1, fun n hn => (eqp_g f (fun hh => (hF _ _ hh rfl).2.1 rfl)).trans (h.2.2.1 n hn), (eqp_g f (fun hh => (hF _ _ hh rfl).2.2.1 rfl)).trans h.2.2.2.1, (eqp_g f (fun hh => (hF _ _ hh rfl).2.2.2.1 rfl)).trans h.2.2.2.2⟩
theorem RMs_o (h : RMs As I s σ) (f : eqp F σ σ') (hF : ∀ c k, F c k → ¬ rmF c k) : RMs As I s σ' := by
  have g : ∀ c k, F c k → ¬ ((c = 498 ∧ (k = 70 ∨ (75 ≤ k ∧ k ≤ 81))) ∨ (538 ≤ c ∧ c ≤ 545)) := fun c k hh => hF c k hh
  obtain ⟨h2, h3, hP, h4, h5, h6, h7, h8⟩ := h
  exact ⟨rq2_o h2 f (fun c k hh => by have := g c k hh; omega), rq3_o h3 f (fun c k hh => by have := g c k hh; omega), rqP_o hP f (fun c k hh => by have := g c k hh; omega), rq4_o h4 f (fun c k hh => by have := g c k hh; omega), rq5_o h5 f (fun c k hh => by have := g c k hh; omega), rq6_o h6 f (fun c k hh => by have := g c k hh; omega), rq7_o h7 f (fun c k hh => by have := g c k hh; omega), rq8_o h8 f (fun c k hh => by have := g c k hh; omega)⟩
theorem n_300 {v : Int32} (h : RMs As I s σ) (hT : zT s < 8000) (hd : 1 ≤ d) (hQ : ∀ σ', RMs As I (zpsh v s) σ' → eqp rmF σ σ' → Q (.inl none) κ σ') : my_M e d 300 [.inr (.inr (some 498)), .inl v] κ σ Q := by
  obtain ⟨d, rfl⟩ := dS 1 hd
  obtain ⟨h2, h3, hP, h4, h5, h6, h7, h8⟩ := h
  refine ys_300 ?_
  unfold ys_300_0
  rw [h2.1, oN_n (by omega), oN_s]
  refine ⟨bdk (by omega) (by omega), ?_⟩
  have f : eqp (fun c k => (c = 498 ∧ k = 70) ∨ c = 541) σ (my_uI (my_uI σ 541 (zT s) v) 498 70 (Int32.ofNat (zT s + 1))) := eqp_I (eqp_I eqp_rf (Or.inr rfl)) (Or.inl ⟨rfl, rfl⟩)
  have n2 : rq2 (zpsh v s) (my_uI (my_uI σ 541 (zT s) v) 498 70 (Int32.ofNat (zT s + 1))) := by
    refine ⟨by rw [uI_s]; rfl, fun i hi => ?_⟩
    have hi : i < zT s + 1 := hi
    rw [my_uI_1, if_neg (by omega), my_uI_1]
    show _ = upN (zV s) (zT s) v i
    by_cases c : i = zT s
    · rw [if_pos ⟨rfl, c⟩, c, upN_s]
    · rw [if_neg (by omega), upN_o c]; exact h2.2 i (by omega)
  generalize my_uI (my_uI σ 541 (zT s) v) 498 70 (Int32.ofNat (zT s + 1)) = σ1 at f n2 ⊢
  exact hQ σ1 ⟨n2, rq3_o h3 f (fun c k hh => by omega), rqP_o hP f (fun c k hh => by omega), rq4_o h4 f (fun c k hh => by omega), rq5_o h5 f (fun c k hh => by omega), rq6_o h6 f (fun c k hh => by omega), rq7_o h7 f (fun c k hh => by omega), rq8_o h8 f (fun c k hh => by omega)⟩ (eqp_mo f (fun c k hh => by unfold rmF; omega))
theorem n_301 (h : RMs As I s σ) (hT : zT s ≤ 8000) (h0 : 1 ≤ zT s) (hd : 1 ≤ d) (hQ : ∀ σ', RMs As I (zpop s) σ' → eqp rmF σ σ' → Q (.inl (some (.inl (ztop s)))) κ σ') : my_M e d 301 [.inr (.inr (some 498))] κ σ Q := by
  obtain ⟨d, rfl⟩ := dS 1 hd
  obtain ⟨h2, h3, hP, h4, h5, h6, h7, h8⟩ := h
  refine ys_301 ?_
  unfold ys_301_0
  have em : Int32.ofNat (zT s) - 1 = Int32.ofNat (zT s - 1) := by
    conv => lhs; rw [show zT s = zT s - 1 + 1 by omega, Int32.ofNat_add, show Int32.ofNat 1 = 1 from rfl, Int32.add_sub_cancel]
  rw [h2.1, em, oN_n (by omega), h2.2 _ (by omega)]
  refine ⟨bdk (by omega) (by omega), ?_⟩
  have f : eqp (fun c k => c = 498 ∧ k = 70) σ (my_uI σ 498 70 (Int32.ofNat (zT s - 1))) := eqp_I eqp_rf ⟨rfl, rfl⟩
  have n2 : rq2 (zpop s) (my_uI σ 498 70 (Int32.ofNat (zT s - 1))) := by
    refine ⟨uI_s, fun i hi => ?_⟩
    have hi : i < zT s - 1 := hi
    rw [my_uI_1, if_neg (by omega)]
    exact h2.2 i (by omega)
  generalize my_uI σ 498 70 (Int32.ofNat (zT s - 1)) = σ1 at f n2 ⊢
  exact hQ σ1 ⟨n2, rq3_o h3 f (fun c k hh => by omega), rqP_o hP f (fun c k hh => by omega), rq4_o h4 f (fun c k hh => by omega), rq5_o h5 f (fun c k hh => by omega), rq6_o h6 f (fun c k hh => by omega), rq7_o h7 f (fun c k hh => by omega), rq8_o h8 f (fun c k hh => by omega)⟩ (eqp_mo f (fun c k hh => by unfold rmF; omega))
theorem n_303 {n : Nat} (h : RMs As I s σ) (hd : 1 ≤ d) (hQ : ∀ σ', RMs As I (zend n s) σ' → eqp rmF σ σ' → Q (.inl none) κ σ') : my_M e d 303 [.inr (.inr (some 498)), .inl (Int32.ofNat n)] κ σ Q := by
  obtain ⟨d, rfl⟩ := dS 1 hd
  obtain ⟨h2, h3, hP, h4, h5, h6, h7, h8⟩ := h
  refine ys_303 ?_
  unfold ys_303_0
  have f : eqp (fun c k => c = 498 ∧ (k = 78 ∨ k = 81)) σ (my_uI (my_uI σ 498 78 (Int32.ofNat n)) 498 81 1) := eqp_I (eqp_I eqp_rf ⟨rfl, Or.inl rfl⟩) ⟨rfl, Or.inr rfl⟩
  have n8 : rq8 (zend n s) (my_uI (my_uI σ 498 78 (Int32.ofNat n)) 498 81 1) := by
    refine ⟨(eqp_g f (by omega)).trans h8.1, ?_, fun m hm => ?_, (eqp_g f (by omega)).trans h8.2.2.2.1, (eqp_g f (by omega)).trans h8.2.2.2.2⟩
    · rw [uI_s]
      show (1 : Int32) = if (some n : Option Nat) = none then 0 else 1
      rw [if_neg (by simp)]
    · have hm : (some n : Option Nat) = some m := hm
      cases hm
      rw [my_uI_1, if_neg (by omega), uI_s]
  generalize my_uI (my_uI σ 498 78 (Int32.ofNat n)) 498 81 1 = σ1 at f n8 ⊢
  exact hQ σ1 ⟨rq2_o h2 f (fun c k hh => by omega), rq3_o h3 f (fun c k hh => by omega), rqP_o hP f (fun c k hh => by omega), rq4_o h4 f (fun c k hh => by omega), rq5_o h5 f (fun c k hh => by omega), rq6_o h6 f (fun c k hh => by omega), rq7_o h7 f (fun c k hh => by omega), n8⟩ (eqp_mo f (fun c k hh => by unfold rmF; omega))
theorem n_305 (h : RMs As I s σ) (hF : zF s ≤ 3000) (hd : 2 ≤ d) (hQ : ∀ σ', zF s < 3000 → RMs As I (zbr s) σ' → eqp rmF σ σ' → Q (.inl (some (.inl 1))) κ σ') (hx : ∀ σ', ¬ zF s < 3000 → RMs As I (zend 3 s) σ' → eqp rmF σ σ' → Q (.inl (some (.inl 0))) κ σ') : my_M e d 305 [.inr (.inr (some 498))] κ σ Q := by
  obtain ⟨d, rfl⟩ := dS 1 (show 1 ≤ d by omega)
  refine ys_305 ?_
  unfold ys_305_0
  by_cases hf : zF s < 3000
  · obtain ⟨h2, h3, hP, h4, h5, h6, h7, h8⟩ := h
    rw [h8.1, if_neg (fun hh => by have := (oN_e (b := 3000) (by omega) (by omega)).mp hh; omega), oN_s]
    have f : eqp (fun c k => c = 498 ∧ k = 76) σ (my_uI σ 498 76 (Int32.ofNat (zF s + 1))) := eqp_I eqp_rf ⟨rfl, rfl⟩
    have n8 : rq8 (zbr s) (my_uI σ 498 76 (Int32.ofNat (zF s + 1))) := ⟨uI_s, (eqp_g f (by omega)).trans h8.2.1, fun m hm => (eqp_g f (by omega)).trans (h8.2.2.1 m hm), (eqp_g f (by omega)).trans h8.2.2.2.1, (eqp_g f (by omega)).trans h8.2.2.2.2⟩
    generalize my_uI σ 498 76 (Int32.ofNat (zF s + 1)) = σ1 at f n8 ⊢
    exact hQ σ1 hf ⟨rq2_o h2 f (fun c k hh => by omega), rq3_o h3 f (fun c k hh => by omega), rqP_o hP f (fun c k hh => by omega), rq4_o h4 f (fun c k hh => by omega), rq5_o h5 f (fun c k hh => by omega), rq6_o h6 f (fun c k hh => by omega), rq7_o h7 f (fun c k hh => by omega), n8⟩ (eqp_mo f (fun c k hh => by unfold rmF; omega))
  · rw [h.2.2.2.2.2.2.2.1, if_pos (by rw [show zF s = 3000 by omega]; rfl)]
    refine n_303 (n := 3) h (by omega) (fun σ1 g1 f1 => ?_)
    rw [my_k0_v]
    exact hx σ1 hf g1 f1
/-- back to the caller: its place is known -/
theorem n_306 (h : RMs As I s σ) (hD : 1 ≤ zD s) (hD2 : zD s ≤ 20) (hd : 1 ≤ d) (hQ : ∀ σ', RMs As I (zlv s) σ' → eqp rmF σ σ' → Q (.inl none) κ σ') : my_M e d 306 [.inr (.inr (some 498))] κ σ Q := by
  obtain ⟨d, rfl⟩ := dS 1 hd
  obtain ⟨h2, h3, hP, h4, h5, h6, h7, h8⟩ := h
  refine ys_306 ?_
  unfold ys_306_0
  have em : Int32.ofNat (zD s) - 1 = Int32.ofNat (zD s - 1) := by
    conv => lhs; rw [show zD s = zD s - 1 + 1 by omega, Int32.ofNat_add, show Int32.ofNat 1 = 1 from rfl, Int32.add_sub_cancel]
  have p1 := hP.2 (zD s - 1) (by omega)
  rw [show zD s - 1 + 1 = zD s by omega] at p1
  rw [h3.1, oN_n (by omega), em, p1]
  refine ⟨bdk (by omega) (by omega), ?_⟩
  generalize hv : Int32.ofNat (cbk As I (zw s (zD s - 1)) + zP s (zD s - 1)) = v
  have f : eqp (fun c k => c = 498 ∧ (k = 77 ∨ k = 75)) σ (my_uI (my_uI σ 498 77 v) 498 75 (Int32.ofNat (zD s - 1))) := eqp_I (eqp_I eqp_rf ⟨rfl, Or.inl rfl⟩) ⟨rfl, Or.inr rfl⟩
  have n3 : rq3 (zlv s) (my_uI (my_uI σ 498 77 v) 498 75 (Int32.ofNat (zD s - 1))) := ⟨uI_s, fun u hu => by
    have hu : u ≤ zD s - 1 := hu
    have := h3.2 u (by omega)
    exact ⟨(eqp_g f (by omega)).trans this.1, (eqp_g f (by omega)).trans this.2⟩⟩
  have nP : rqP As I (zlv s) (my_uI (my_uI σ 498 77 v) 498 75 (Int32.ofNat (zD s - 1))) := ⟨by rw [my_uI_1, if_neg (by omega), uI_s, ← hv]; rfl, fun u hu => by
    have hu : u < zD s - 1 := hu
    exact (eqp_g f (by omega)).trans (hP.2 u (by omega))⟩
  have n4 : rq4 (zlv s) (my_uI (my_uI σ 498 77 v) 498 75 (Int32.ofNat (zD s - 1))) := fun u hu => by
    have hu : u < 10 * (zD s - 1 + 1) := hu
    exact (eqp_g f (by omega)).trans (h4 u (by omega))
  generalize my_uI (my_uI σ 498 77 v) 498 75 (Int32.ofNat (zD s - 1)) = σ1 at f n3 nP n4 ⊢
  exact hQ σ1 ⟨rq2_o h2 f (fun c k hh => by omega), n3, nP, n4, rq5_o h5 f (fun c k hh => by omega), rq6_o h6 f (fun c k hh => by omega), rq7_o h7 f (fun c k hh => by omega), rq8_o h8 f (fun c k hh => by omega)⟩ (eqp_mo f (fun c k hh => by unfold rmF; omega))
/-- a place is told -/
theorem RMs_P {p : Nat} (h : RMs As I s σ) : RMs As I (zsP p s) (my_uI σ 498 77 (Int32.ofNat (cbk As I (zw s (zD s)) + p))) ∧ eqp rmF σ (my_uI σ 498 77 (Int32.ofNat (cbk As I (zw s (zD s)) + p))) := by
  obtain ⟨h2, h3, hP, h4, h5, h6, h7, h8⟩ := h
  generalize hv : Int32.ofNat (cbk As I (zw s (zD s)) + p) = v
  have f : eqp (fun c k => c = 498 ∧ k = 77) σ (my_uI σ 498 77 v) := eqp_I eqp_rf ⟨rfl, rfl⟩
  have nP : rqP As I (zsP p s) (my_uI σ 498 77 v) := by
    refine ⟨?_, fun u hu => ?_⟩
    · rw [uI_s, ← hv]
      show _ = Int32.ofNat (cbk As I (zw s (zD s)) + upN (zP s) (zD s) p (zD s))
      rw [upN_s]
    · have hu : u < zD s := hu
      rw [eqp_g f (by omega), hP.2 u hu]
      show _ = Int32.ofNat (cbk As I (zw s u) + upN (zP s) (zD s) p u)
      rw [upN_o (by omega)]
  exact ⟨⟨rq2_o h2 f (fun c k hh => by omega), rq3_o h3 f (fun c k hh => by omega), nP, rq4_o h4 f (fun c k hh => by omega), rq5_o h5 f (fun c k hh => by omega), rq6_o h6 f (fun c k hh => by omega), rq7_o h7 f (fun c k hh => by omega), rq8_o h8 f (fun c k hh => by omega)⟩, eqp_mo f (fun c k hh => by unfold rmF; omega)⟩
/-- an item is touched -/
theorem RMs_t {j : Nat} {b : Ri} (h : RMs As I s σ) (hb : As[j]? = some b) : RMs As I (ztch (kdf (riF b)) (nmk As j) s) (my_uI σ 540 j 1) ∧ eqp (fun c _ => c = 540) σ (my_uI σ 540 j 1) := by
  obtain ⟨h2, h3, hP, h4, h5, h6, h7, h8⟩ := h
  have f : eqp (fun c _ => c = 540) σ (my_uI σ 540 j 1) := eqp_I eqp_rf rfl
  have n7 : rq7 As (ztch (kdf (riF b)) (nmk As j) s) (my_uI σ 540 j 1) := ⟨fun k c hc => by
    rw [my_uI_1]
    show _ = if (zt s (kdf (riF c)) (nmk As k) || (decide (kdf (riF c) = kdf (riF b)) && decide (nmk As k = nmk As j))) = true then 1 else 0
    by_cases hk : k = j
    · subst hk
      rw [hb] at hc
      cases hc
      rw [if_pos ⟨rfl, rfl⟩, if_pos (by simp)]
    · rw [if_neg (by omega), h7.1 k c hc]
      have : ¬ (kdf (riF c) = kdf (riF b) ∧ nmk As k = nmk As j) := fun hh => hk (nmk_i hc hb hh.1 hh.2)
      by_cases h9 : kdf (riF c) = kdf (riF b)
      · have h10 : ¬ nmk As k = nmk As j := fun hh => this ⟨h9, hh⟩
        simp [h9, h10]
      · simp [h9], fun v hv => by
    rw [my_uI_1]
    split
    · exact Or.inr rfl
    · exact h7.2 v hv⟩
  exact ⟨⟨rq2_o h2 f (fun c k hh => by omega), rq3_o h3 f (fun c k hh => by omega), rqP_o hP f (fun c k hh => by omega), rq4_o h4 f (fun c k hh => by omega), rq5_o h5 f (fun c k hh => by omega), rq6_o h6 f (fun c k hh => by omega), n7, rq8_o h8 f (fun c k hh => by omega)⟩, f⟩
end MRP
