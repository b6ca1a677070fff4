
/-! ===== what is put aside, the reference's ===== -/
def ra7 (As : List Ri) (s : Ms) (σ : my_S) : Prop := (∀ k b, As[k]? = some b → σ.1 579 k = if zt s (kdf (riF b)) (nmk As k) = true then 1 else 0) ∧ ∀ v, v < 48 → σ.1 579 v = 0 ∨ σ.1 579 v = 1
def RAs (As : List Ri) (I : List It) (s : Ms) (σ : my_S) : Prop :=
  (σ.1 498 138 = Int32.ofNat (zT s) ∧ ∀ i, i < zT s → σ.1 580 i = zV s i) ∧
  (σ.1 498 139 = Int32.ofNat (zD s) ∧ ∀ d, d ≤ zD s → σ.1 583 d = Int32.ofNat (zw s d) ∧ σ.1 584 d = Int32.ofNat (zB s d)) ∧
  (σ.1 498 141 = Int32.ofNat (cbk As I (zw s (zD s)) + zP s (zD s)) ∧ ∀ d, d < zD s → σ.1 582 (d + 1) = Int32.ofNat (cbk As I (zw s d) + zP s d)) ∧
  (∀ i, i < 10 * (zD s + 1) → σ.1 581 i = zL s i) ∧
  (∀ k b, As[k]? = some b → riF b = 0 → σ.1 577 k = zG s (nmk As k)) ∧
  (∀ k b, As[k]? = some b → riF b = 1 → ∀ i, i < 32 → σ.1 578 (32 * k + i) = zC s (32 * nmk As k + i)) ∧
  ra7 As s σ ∧
  (σ.1 498 140 = Int32.ofNat (zF s) ∧ σ.1 498 136 = (if zE s = none then 0 else 1) ∧ ∀ n, zE s = some n → σ.1 498 137 = Int32.ofNat n)
def raF (c q : Nat) : Prop := (577 ≤ c ∧ c ≤ 584) ∨ (c = 498 ∧ 136 ≤ q ∧ q ≤ 141)
def zk0 (q : Option (Nat × Int32)) (s : Ms) : Ms := (s.1, s.2.1, zL s, zG s, zC s, zt s, zF s, zE s, q)
def ckR (q : Option (Nat × Int32)) (σ : my_S) : Prop := σ.1 498 79 = (match q with | none => Int32.ofInt (-1) | some c => Int32.ofNat c.1) ∧ σ.1 498 80 = ckI q
section MAS
variable {As : List Ri} {I : List It} {s : Ms} {e : my_E} {d : Nat} {κ : my_K} {σ : my_S} {Q : my_O → my_K → my_S → Prop}
theorem RAs_o {F : Nat → Nat → Prop} {σ' : my_S} (h : RAs As I s σ) (f : eqp F σ σ') (hF : ∀ c k, F c k → ¬ raF c k) : RAs As I s σ' := by
  have g : ∀ {c k : Nat}, raF c k → σ'.1 c k = σ.1 c k := fun hh => eqp_g f (fun h2 => hF _ _ h2 hh)
  obtain ⟨h2, h3, hP, h4, h5, h6, h7, h8⟩ := h
  refine ⟨⟨(g (by unfold raF; omega)).trans h2.1, fun i hi => (g (by unfold raF; omega)).trans (h2.2 i hi)⟩, ⟨(g (by unfold raF; omega)).trans h3.1, fun i hi => ⟨(g (by unfold raF; omega)).trans (h3.2 i hi).1, (g (by unfold raF; omega)).trans (h3.2 i hi).2⟩⟩, ⟨(g (by unfold raF; omega)).trans hP.1, fun i hi => (g (by unfold raF; omega)).trans (hP.2 i hi)⟩, fun i hi => (g (by unfold raF; omega)).trans (h4 i hi), fun k b hb hf => (g (by unfold raF; omega)).trans (h5 k b hb hf), fun k b hb hf i hi => (g (by unfold raF; omega)).trans (h6 k b hb hf i hi), ⟨fun k b hb => (g (by unfold raF; omega)).trans (h7.1 k b hb), fun v hv => by rw [g (by unfold raF; omega)]; exact h7.2 v hv⟩, (g (by unfold raF; omega)).trans h8.1, (g (by unfold raF; omega)).trans h8.2.1, fun n hn => (g (by unfold raF; omega)).trans (h8.2.2 n hn)⟩
/-- put aside -/
theorem n_362 (hB : itsB As) (h : RMs As I s σ) (hT : zT s ≤ 8000) (hD : zD s ≤ 20) (hd : 2 ≤ d) (hQ : ∀ σ', RMs As I s σ' → RAs As I s σ' → eqp raF σ σ' → Q (.inl none) κ σ') : my_M e d 362 [.inr (.inr (some 498))] κ σ Q := by
  obtain ⟨d, rfl⟩ := dS 1 (show 1 ≤ d by omega)
  have h42 := itsB_42 hB
  have hr := h
  obtain ⟨h2, h3, hP, h4, h5, h6, h7, h8⟩ := h
  refine ys_362 ?_
  unfold ys_362_0
  refine ⟨by rw [h8.2.1]; split <;> simp, ?_⟩
  have w : ∀ c q : Nat, (my_uI (my_uI (my_uI (my_uI (my_uI (my_uI σ 498 136 (σ.1 498 81)) 498 137 (σ.1 498 78)) 498 138 (σ.1 498 70)) 498 139 (σ.1 498 75)) 498 140 (σ.1 498 76)) 498 141 (σ.1 498 77)).1 c q = if c = 498 ∧ q = 141 then σ.1 498 77 else if c = 498 ∧ q = 140 then σ.1 498 76 else if c = 498 ∧ q = 139 then σ.1 498 75 else if c = 498 ∧ q = 138 then σ.1 498 70 else if c = 498 ∧ q = 137 then σ.1 498 78 else if c = 498 ∧ q = 136 then σ.1 498 81 else σ.1 c q := fun c q => by
    rw [my_uI_1, my_uI_1, my_uI_1, my_uI_1, my_uI_1, my_uI_1]
  have f0 : eqp raF σ (my_uI (my_uI (my_uI (my_uI (my_uI (my_uI σ 498 136 (σ.1 498 81)) 498 137 (σ.1 498 78)) 498 138 (σ.1 498 70)) 498 139 (σ.1 498 75)) 498 140 (σ.1 498 76)) 498 141 (σ.1 498 77)) := eqp_I (eqp_I (eqp_I (eqp_I (eqp_I (eqp_I eqp_rf (Or.inr ⟨rfl, by omega⟩)) (Or.inr ⟨rfl, by omega⟩)) (Or.inr ⟨rfl, by omega⟩)) (Or.inr ⟨rfl, by omega⟩)) (Or.inr ⟨rfl, by omega⟩)) (Or.inr ⟨rfl, by omega⟩)
  generalize my_uI (my_uI (my_uI (my_uI (my_uI (my_uI σ 498 136 (σ.1 498 81)) 498 137 (σ.1 498 78)) 498 138 (σ.1 498 70)) 498 139 (σ.1 498 75)) 498 140 (σ.1 498 76)) 498 141 (σ.1 498 77) = σ0 at w f0 ⊢
  have w141 : σ0.1 498 141 = σ.1 498 77 := by rw [w]; simp
  have w140 : σ0.1 498 140 = σ.1 498 76 := by rw [w]; simp
  have w139 : σ0.1 498 139 = σ.1 498 75 := by rw [w]; simp
  have w138 : σ0.1 498 138 = σ.1 498 70 := by rw [w]; simp
  have w137 : σ0.1 498 137 = σ.1 498 78 := by rw [w]; simp
  have w136 : σ0.1 498 136 = σ.1 498 81 := by rw [w]; simp
  have s0 : ∀ {c q : Nat}, ¬ raF c q → σ0.1 c q = σ.1 c q := fun hh => eqp_g f0 hh
  clear w
  refine cp_538 (n := 48) (by omega) (by omega) (fun σ1 c1 f1 => ?_)
  rw [my_k0_v]
  refine cp_539 (n := 1536) (by omega) (by omega) (fun σ2 c2 f2 => ?_)
  rw [my_k0_v]
  have e70 : σ2.1 498 70 = Int32.ofNat (zT s) := by rw [eqp_g f2 (by omega), eqp_g f1 (by omega), s0 (by unfold raF; omega)]; exact h2.1
  rw [e70]
  refine cp_541 (n := zT s) hT (by omega) (fun σ3 c3 f3 => ?_)
  rw [my_k0_v]
  refine cp_542 (n := 220) (by omega) (by omega) (fun σ4 c4 f4 => ?_)
  rw [my_k0_v]
  refine cp_543 (n := 24) (by omega) (by omega) (fun σ5 c5 f5 => ?_)
  rw [my_k0_v]
  refine cp_544 (n := 24) (by omega) (by omega) (fun σ6 c6 f6 => ?_)
  rw [my_k0_v]
  refine cp_545 (n := 24) (by omega) (by omega) (fun σ7 c7 f7 => ?_)
  rw [my_k0_v]
  have l : ∀ (m i : Nat) (σ8 : my_S), i + m = 48 → eqp (fun c _ => c = 579) σ7 σ8 → (∀ u, u < i → σ8.1 579 u = σ.1 540 u) → ys_362_145 e d (Int32.ofNat i) κ σ8 Q := by
    intro m
    induction m with
    | zero =>
      intro i σ8 hi f8 c8
      have : i = 48 := by omega
      subst this
      unfold ys_362_145
      rw [if_neg (by decide)]
      have fa : eqp raF σ σ8 := eqp_tr f0 (eqp_tr (eqp_mo f1 (fun c q hh => by unfold raF; omega)) (eqp_tr (eqp_mo f2 (fun c q hh => by unfold raF; omega)) (eqp_tr (eqp_mo f3 (fun c q hh => by unfold raF; omega)) (eqp_tr (eqp_mo f4 (fun c q hh => by unfold raF; omega)) (eqp_tr (eqp_mo f5 (fun c q hh => by unfold raF; omega)) (eqp_tr (eqp_mo f6 (fun c q hh => by unfold raF; omega)) (eqp_tr (eqp_mo f7 (fun c q hh => by unfold raF; omega)) (eqp_mo f8 (fun c q hh => by unfold raF; omega)))))))))
      have hm : RMs As I s σ8 := RMs_o hr fa (fun c k hh => by unfold raF at hh; unfold rmF; omega)
      have z : ∀ {q : Nat}, σ8.1 498 q = σ0.1 498 q := by
        intro q
        rw [eqp_g f8 (by omega), eqp_g f7 (by omega), eqp_g f6 (by omega), eqp_g f5 (by omega), eqp_g f4 (by omega), eqp_g f3 (by omega), eqp_g f2 (by omega), eqp_g f1 (by omega)]
      have y577 : ∀ u, u < 48 → σ8.1 577 u = σ.1 538 u := fun u hu => by
        rw [eqp_g f8 (by omega), eqp_g f7 (by omega), eqp_g f6 (by omega), eqp_g f5 (by omega), eqp_g f4 (by omega), eqp_g f3 (by omega), eqp_g f2 (by omega), c1 u hu, s0 (by unfold raF; omega)]
      have y578 : ∀ u, u < 1536 → σ8.1 578 u = σ.1 539 u := fun u hu => by
        rw [eqp_g f8 (by omega), eqp_g f7 (by omega), eqp_g f6 (by omega), eqp_g f5 (by omega), eqp_g f4 (by omega), eqp_g f3 (by omega), c2 u hu, eqp_g f1 (by omega), s0 (by unfold raF; omega)]
      have y580 : ∀ u, u < zT s → σ8.1 580 u = σ.1 541 u := fun u hu => by
        rw [eqp_g f8 (by omega), eqp_g f7 (by omega), eqp_g f6 (by omega), eqp_g f5 (by omega), eqp_g f4 (by omega), c3 u hu, eqp_g f2 (by omega), eqp_g f1 (by omega), s0 (by unfold raF; omega)]
      have y581 : ∀ u, u < 220 → σ8.1 581 u = σ.1 542 u := fun u hu => by
        rw [eqp_g f8 (by omega), eqp_g f7 (by omega), eqp_g f6 (by omega), eqp_g f5 (by omega), c4 u hu, eqp_g f3 (by omega), eqp_g f2 (by omega), eqp_g f1 (by omega), s0 (by unfold raF; omega)]
      have y582 : ∀ u, u < 24 → σ8.1 582 u = σ.1 543 u := fun u hu => by
        rw [eqp_g f8 (by omega), eqp_g f7 (by omega), eqp_g f6 (by omega), c5 u hu, eqp_g f4 (by omega), eqp_g f3 (by omega), eqp_g f2 (by omega), eqp_g f1 (by omega), s0 (by unfold raF; omega)]
      have y583 : ∀ u, u < 24 → σ8.1 583 u = σ.1 544 u := fun u hu => by
        rw [eqp_g f8 (by omega), eqp_g f7 (by omega), c6 u hu, eqp_g f5 (by omega), eqp_g f4 (by omega), eqp_g f3 (by omega), eqp_g f2 (by omega), eqp_g f1 (by omega), s0 (by unfold raF; omega)]
      have y584 : ∀ u, u < 24 → σ8.1 584 u = σ.1 545 u := fun u hu => by
        rw [eqp_g f8 (by omega), c7 u hu, eqp_g f6 (by omega), eqp_g f5 (by omega), eqp_g f4 (by omega), eqp_g f3 (by omega), eqp_g f2 (by omega), eqp_g f1 (by omega), s0 (by unfold raF; omega)]
      refine hQ σ8 hm ⟨⟨by rw [z, w138]; exact h2.1, fun i hi => by rw [y580 i hi]; exact h2.2 i hi⟩, ⟨by rw [z, w139]; exact h3.1, fun u hu => by rw [y583 u (by omega), y584 u (by omega)]; exact h3.2 u hu⟩, ⟨by rw [z, w141]; exact hP.1, fun u hu => by rw [y582 _ (by omega)]; exact hP.2 u hu⟩, fun i hi => by rw [y581 i (by omega)]; exact h4 i hi, fun k b hb hf => ?_, fun k b hb hf i hi => ?_, ⟨fun k b hb => ?_, fun v hv => by rw [c8 v hv]; exact h7.2 v hv⟩, by rw [z, w140]; exact h8.1, by rw [z, w136]; exact h8.2.1, fun n hn => by rw [z, w137]; exact h8.2.2.1 n hn⟩ fa
      · have := (List.getElem?_eq_some_iff.mp hb).1
        rw [y577 k (by omega)]; exact h5 k b hb hf
      · have := (List.getElem?_eq_some_iff.mp hb).1
        rw [y578 _ (by omega)]; exact h6 k b hb hf i hi
      · have := (List.getElem?_eq_some_iff.mp hb).1
        rw [c8 k (by omega)]; exact h7.1 k b hb
    | succ m ih =>
      intro i σ8 hi f8 c8
      have e40 : σ8.1 540 i = σ.1 540 i := by
        rw [eqp_g f8 (by omega), eqp_g f7 (by omega), eqp_g f6 (by omega), eqp_g f5 (by omega), eqp_g f4 (by omega), eqp_g f3 (by omega), eqp_g f2 (by omega), eqp_g f1 (by omega), s0 (by unfold raF; omega)]
      unfold ys_362_145
      rw [if_pos ((oN_lt1 (b := 48) (c := 48) rfl (by omega) (by omega)).mpr (by omega)), oN_n (by omega), oN_s, e40]
      refine ⟨bdk (by omega) (by omega), h7.2 i (by omega), bdk (by omega) (by omega), ys_362_145_ok (ih (i + 1) _ (by omega) (eqp_I f8 rfl) (fun u hu => ?_))⟩
      rw [my_uI_1]
      by_cases c : u = i
      · rw [if_pos ⟨rfl, c⟩, c]
      · rw [if_neg (by omega)]; exact c8 u (by omega)
  exact ys_362_145_ok (l 48 0 σ7 (by omega) eqp_rf (fun u hu => by omega))
def rbF (c q : Nat) : Prop := (538 ≤ c ∧ c ≤ 545) ∨ (c = 498 ∧ (q = 70 ∨ q = 75 ∨ q = 76 ∨ q = 77 ∨ q = 78 ∨ q = 81))
/-- taken back -/
theorem n_365 {q : Option (Nat × Int32)} (hB : itsB As) (h : RAs As I s σ) (hk : ckR q σ) (hb : b01 σ) (hT : zT s ≤ 8000) (hD : zD s ≤ 20) (hd : 2 ≤ d) (hQ : ∀ σ', RMs As I (zk0 q s) σ' → eqp rbF σ σ' → Q (.inl none) κ σ') : my_M e d 365 [.inr (.inr (some 498))] κ σ Q := by
  obtain ⟨d, rfl⟩ := dS 1 (show 1 ≤ d by omega)
  have h42 := itsB_42 hB
  obtain ⟨h2, h3, hP, h4, h5, h6, h7, h8⟩ := h
  refine ys_365 ?_
  unfold ys_365_0
  refine ⟨by rw [h8.2.1]; split <;> simp, ?_⟩
  have w : ∀ c q : Nat, (my_uI (my_uI (my_uI (my_uI (my_uI (my_uI σ 498 81 (σ.1 498 136)) 498 78 (σ.1 498 137)) 498 70 (σ.1 498 138)) 498 75 (σ.1 498 139)) 498 76 (σ.1 498 140)) 498 77 (σ.1 498 141)).1 c q = if c = 498 ∧ q = 77 then σ.1 498 141 else if c = 498 ∧ q = 76 then σ.1 498 140 else if c = 498 ∧ q = 75 then σ.1 498 139 else if c = 498 ∧ q = 70 then σ.1 498 138 else if c = 498 ∧ q = 78 then σ.1 498 137 else if c = 498 ∧ q = 81 then σ.1 498 136 else σ.1 c q := fun c q => by
    rw [my_uI_1, my_uI_1, my_uI_1, my_uI_1, my_uI_1, my_uI_1]
  have f0 : eqp rbF σ (my_uI (my_uI (my_uI (my_uI (my_uI (my_uI σ 498 81 (σ.1 498 136)) 498 78 (σ.1 498 137)) 498 70 (σ.1 498 138)) 498 75 (σ.1 498 139)) 498 76 (σ.1 498 140)) 498 77 (σ.1 498 141)) := eqp_I (eqp_I (eqp_I (eqp_I (eqp_I (eqp_I eqp_rf (Or.inr ⟨rfl, by omega⟩)) (Or.inr ⟨rfl, by omega⟩)) (Or.inr ⟨rfl, by omega⟩)) (Or.inr ⟨rfl, by omega⟩)) (Or.inr ⟨rfl, by omega⟩)) (Or.inr ⟨rfl, by omega⟩)
  generalize my_uI (my_uI (my_uI (my_uI (my_uI (my_uI σ 498 81 (σ.1 498 136)) 498 78 (σ.1 498 137)) 498 70 (σ.1 498 138)) 498 75 (σ.1 498 139)) 498 76 (σ.1 498 140)) 498 77 (σ.1 498 141) = σ0 at w f0 ⊢
  have w77 : σ0.1 498 77 = σ.1 498 141 := by rw [w]; simp
  have w76 : σ0.1 498 76 = σ.1 498 140 := by rw [w]; simp
  have w75 : σ0.1 498 75 = σ.1 498 139 := by rw [w]; simp
  have w70 : σ0.1 498 70 = σ.1 498 138 := by rw [w]; simp
  have w78 : σ0.1 498 78 = σ.1 498 137 := by rw [w]; simp
  have w81 : σ0.1 498 81 = σ.1 498 136 := by rw [w]; simp
  have s0 : ∀ {c q : Nat}, ¬ rbF c q → σ0.1 c q = σ.1 c q := fun hh => eqp_g f0 hh
  clear w
  refine cp_577 (n := 48) (by omega) (by omega) (fun σ1 c1 f1 => ?_)
  rw [my_k0_v]
  refine cp_578 (n := 1536) (by omega) (by omega) (fun σ2 c2 f2 => ?_)
  rw [my_k0_v]
  have e138 : σ2.1 498 138 = Int32.ofNat (zT s) := by rw [eqp_g f2 (by omega), eqp_g f1 (by omega), s0 (by unfold rbF; omega)]; exact h2.1
  rw [e138]
  refine cp_580 (n := zT s) hT (by omega) (fun σ3 c3 f3 => ?_)
  rw [my_k0_v]
  refine cp_581 (n := 220) (by omega) (by omega) (fun σ4 c4 f4 => ?_)
  rw [my_k0_v]
  refine cp_582 (n := 24) (by omega) (by omega) (fun σ5 c5 f5 => ?_)
  rw [my_k0_v]
  refine cp_583 (n := 24) (by omega) (by omega) (fun σ6 c6 f6 => ?_)
  rw [my_k0_v]
  refine cp_584 (n := 24) (by omega) (by omega) (fun σ7 c7 f7 => ?_)
  rw [my_k0_v]
  have l : ∀ (m i : Nat) (σ8 : my_S), i + m = 48 → eqp (fun c _ => c = 540) σ7 σ8 → (∀ u, u < i → σ8.1 540 u = σ.1 579 u) → ys_365_145 e d (Int32.ofNat i) κ σ8 Q := by
    intro m
    induction m with
    | zero =>
      intro i σ8 hi f8 c8
      have : i = 48 := by omega
      subst this
      unfold ys_365_145
      rw [if_neg (by decide)]
      have fa : eqp rbF σ σ8 := eqp_tr f0 (eqp_tr (eqp_mo f1 (fun c q hh => by unfold rbF; omega)) (eqp_tr (eqp_mo f2 (fun c q hh => by unfold rbF; omega)) (eqp_tr (eqp_mo f3 (fun c q hh => by unfold rbF; omega)) (eqp_tr (eqp_mo f4 (fun c q hh => by unfold rbF; omega)) (eqp_tr (eqp_mo f5 (fun c q hh => by unfold rbF; omega)) (eqp_tr (eqp_mo f6 (fun c q hh => by unfold rbF; omega)) (eqp_tr (eqp_mo f7 (fun c q hh => by unfold rbF; omega)) (eqp_mo f8 (fun c q hh => by unfold rbF; omega)))))))))
      have z : ∀ {q : Nat}, σ8.1 498 q = σ0.1 498 q := by
        intro q
        rw [eqp_g f8 (by omega), eqp_g f7 (by omega), eqp_g f6 (by omega), eqp_g f5 (by omega), eqp_g f4 (by omega), eqp_g f3 (by omega), eqp_g f2 (by omega), eqp_g f1 (by omega)]
      have y538 : ∀ u, u < 48 → σ8.1 538 u = σ.1 577 u := fun u hu => by
        rw [eqp_g f8 (by omega), eqp_g f7 (by omega), eqp_g f6 (by omega), eqp_g f5 (by omega), eqp_g f4 (by omega), eqp_g f3 (by omega), eqp_g f2 (by omega), c1 u hu, s0 (by unfold rbF; omega)]
      have y539 : ∀ u, u < 1536 → σ8.1 539 u = σ.1 578 u := fun u hu => by
        rw [eqp_g f8 (by omega), eqp_g f7 (by omega), eqp_g f6 (by omega), eqp_g f5 (by omega), eqp_g f4 (by omega), eqp_g f3 (by omega), c2 u hu, eqp_g f1 (by omega), s0 (by unfold rbF; omega)]
      have y541 : ∀ u, u < zT s → σ8.1 541 u = σ.1 580 u := fun u hu => by
        rw [eqp_g f8 (by omega), eqp_g f7 (by omega), eqp_g f6 (by omega), eqp_g f5 (by omega), eqp_g f4 (by omega), c3 u hu, eqp_g f2 (by omega), eqp_g f1 (by omega), s0 (by unfold rbF; omega)]
      have y542 : ∀ u, u < 220 → σ8.1 542 u = σ.1 581 u := fun u hu => by
        rw [eqp_g f8 (by omega), eqp_g f7 (by omega), eqp_g f6 (by omega), eqp_g f5 (by omega), c4 u hu, eqp_g f3 (by omega), eqp_g f2 (by omega), eqp_g f1 (by omega), s0 (by unfold rbF; omega)]
      have y543 : ∀ u, u < 24 → σ8.1 543 u = σ.1 582 u := fun u hu => by
        rw [eqp_g f8 (by omega), eqp_g f7 (by omega), eqp_g f6 (by omega), c5 u hu, eqp_g f4 (by omega), eqp_g f3 (by omega), eqp_g f2 (by omega), eqp_g f1 (by omega), s0 (by unfold rbF; omega)]
      have y544 : ∀ u, u < 24 → σ8.1 544 u = σ.1 583 u := fun u hu => by
        rw [eqp_g f8 (by omega), eqp_g f7 (by omega), c6 u hu, eqp_g f5 (by omega), eqp_g f4 (by omega), eqp_g f3 (by omega), eqp_g f2 (by omega), eqp_g f1 (by omega), s0 (by unfold rbF; omega)]
      have y545 : ∀ u, u < 24 → σ8.1 545 u = σ.1 584 u := fun u hu => by
        rw [eqp_g f8 (by omega), c7 u hu, eqp_g f6 (by omega), eqp_g f5 (by omega), eqp_g f4 (by omega), eqp_g f3 (by omega), eqp_g f2 (by omega), eqp_g f1 (by omega), s0 (by unfold rbF; omega)]
      refine hQ σ8 ⟨⟨by rw [z, w70]; exact h2.1, fun i hi => by rw [y541 i hi]; exact h2.2 i hi⟩, ⟨by rw [z, w75]; exact h3.1, fun u hu => by have hu : u ≤ zD s := hu; rw [y544 u (by omega), y545 u (by omega)]; exact h3.2 u hu⟩, ⟨by rw [z, w77]; exact hP.1, fun u hu => by have hu : u < zD s := hu; rw [y543 _ (by omega)]; exact hP.2 u hu⟩, fun i hi => by have hi : i < 10 * (zD s + 1) := hi; rw [y542 i (by omega)]; exact h4 i hi, fun k b hb hf => ?_, fun k b hb hf i hi => ?_, ⟨fun k b hb => ?_, fun v hv => by rw [c8 v hv]; exact h7.2 v hv⟩, by rw [z, w76]; exact h8.1, by rw [z, w81]; exact h8.2.1, fun n hn => by rw [z, w78]; exact h8.2.2 n hn, by rw [z, s0 (by unfold rbF; omega)]; exact hk.1, by rw [z, s0 (by unfold rbF; omega)]; exact hk.2⟩ fa
      · have := (List.getElem?_eq_some_iff.mp hb).1
        rw [y538 k (by omega)]; exact h5 k b hb hf
      · have := (List.getElem?_eq_some_iff.mp hb).1
        rw [y539 _ (by omega)]; exact h6 k b hb hf i hi
      · have := (List.getElem?_eq_some_iff.mp hb).1
        rw [c8 k (by omega)]; exact h7.1 k b hb
    | succ m ih =>
      intro i σ8 hi f8 c8
      have e79 : σ8.1 579 i = σ.1 579 i := by
        rw [eqp_g f8 (by omega), eqp_g f7 (by omega), eqp_g f6 (by omega), eqp_g f5 (by omega), eqp_g f4 (by omega), eqp_g f3 (by omega), eqp_g f2 (by omega), eqp_g f1 (by omega), s0 (by unfold rbF; omega)]
      unfold ys_365_145
      rw [if_pos ((oN_lt1 (b := 48) (c := 48) rfl (by omega) (by omega)).mpr (by omega)), oN_n (by omega), oN_s, e79]
      refine ⟨bdk (by omega) (by omega), h7.2 i (by omega), bdk (by omega) (by omega), ys_365_145_ok (ih (i + 1) _ (by omega) (eqp_I f8 rfl) (fun u hu => ?_))⟩
      rw [my_uI_1]
      by_cases c : u = i
      · rw [if_pos ⟨rfl, c⟩, c]
      · rw [if_neg (by omega)]; exact c8 u (by omega)
  exact ys_365_145_ok (l 48 0 σ7 (by omega) eqp_rf (fun u hu => by omega))
end MAS
