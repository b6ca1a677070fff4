
/-! ===== a run begins, the reference's ===== -/
section MBR
variable {As : List Ri} {I : List It} {k : Nat} {a : Ri} {e : my_E} {d : Nat} {κ : my_K} {σ : my_S} {Q : my_O → my_K → my_S → Prop}
def b01 (σ : my_S) : Prop := ∀ v, v < 48 → σ.1 540 v = 0 ∨ σ.1 540 v = 1
theorem r_gv {j : Nat} {b : Ri} (hR : NowR I As σ) (hb : As[j]? = some b) (hf : riF b = 0) (h61 : (ibA I 0 As).length ≤ 6144) : (ibA I 0 (As.take j)).length + 6 ≤ 6144 ∧ ∀ i, i < 4 → σ.1 535 ((ibA I 0 (As.take j)).length + (2 + i)) = Int32.ofNat ((riV b).toBitVec.toNat / 2 ^ (8 * i) % 256) := by
  have hib : ib I (rwA (As.take j)).length b = bts (Int32.ofNat (riF b)) 1 0 ++ (bts (riT b) 1 0 ++ bts (riV b) 4 0) := by
    unfold ib
    rw [if_pos hf]
  have h1 : ∀ i, i < 4 → (ib I (rwA (As.take j)).length b)[2 + i]? = some (bt (riV b) (Int32.ofNat i)) := fun i hi => by
    rw [hib, List.getElem?_append_right (by rw [bts_l]; omega), bts_l, List.getElem?_append_right (by rw [bts_l]; omega), bts_l, show 2 + i - 1 - 1 = i by omega, bts_g hi, Nat.zero_add]
  have h3 := (List.getElem?_eq_some_iff.mp (ib_q hb (h1 3 (by omega)))).1
  refine ⟨by omega, fun i hi => ?_⟩
  rw [hR.1.2 _ _ (ib_q hb (h1 i hi)), bt_n _ hi]
def bg2 (c q : Nat) : Prop := (538 ≤ c ∧ c ≤ 542 ∧ c ≠ 541) 
theorem n_298c (hL : LOf As I) (hR : NowR I As σ) (ha : As[k]? = some a) (h2 : 2 ≤ riF a) (hQ : ∀ σ', RMs As I (z0 As k) σ' → eqp rmF σ σ' → Q (.inl none) κ σ') : ∀ (m i : Nat) (σ1 : my_S), i + m = 10 → eqp bg2 σ σ1 → (∀ k b, As[k]? = some b → riF b = 0 → σ1.1 538 k = riV b) → (∀ k, k < As.length → σ1.1 540 k = 0) → b01 σ1 → (∀ u, u < 1536 → σ1.1 539 u = 0) → (∀ u, u < i → σ1.1 542 u = 0) → ys_298_122 e d (Int32.ofNat k) (Int32.ofNat i) κ σ1 Q := by
  obtain ⟨hB, hrel, hC, _⟩ := LOf_s hL
  have h42 := itsB_42 hB
  have hk := (List.getElem?_eq_some_iff.mp ha).1
  intro m
  induction m with
  | zero =>
    intro i σ1 hi f q5 q7 qb q6 q4
    have : i = 10 := by omega
    subst this
    have p533 : σ1.1 533 k = Int32.ofNat (cdB I As k a) := (eqp_g f (by unfold bg2; omega)).trans ((hR.2.1 k a ha).2.2.2.2 h2).1
    unfold ys_298_122
    rw [if_neg (by decide), oN_n (by omega), p533]
    refine ⟨bdk (by omega) (by omega), ?_⟩
    have g : eqp (fun c q => (c = 498 ∧ (q = 70 ∨ q = 75 ∨ q = 76 ∨ q = 77 ∨ q = 79 ∨ q = 80 ∨ q = 81)) ∨ (c = 544 ∧ q = 0) ∨ (c = 545 ∧ q = 0)) σ1 (my_uI (my_uI (my_uI (my_uI (my_uI (my_uI (my_uI (my_uI (my_uI σ1 544 0 (Int32.ofNat k)) 498 75 0) 498 70 0) 498 76 0) 498 77 (Int32.ofNat (cdB I As k a))) 498 79 (Int32.ofInt (-1))) 498 80 0) 545 0 0) 498 81 0) :=
      eqp_I (eqp_I (eqp_I (eqp_I (eqp_I (eqp_I (eqp_I (eqp_I (eqp_I eqp_rf (Or.inr (Or.inl ⟨rfl, rfl⟩))) (Or.inl ⟨rfl, by omega⟩)) (Or.inl ⟨rfl, by omega⟩)) (Or.inl ⟨rfl, by omega⟩)) (Or.inl ⟨rfl, by omega⟩)) (Or.inl ⟨rfl, by omega⟩)) (Or.inl ⟨rfl, by omega⟩)) (Or.inr (Or.inr ⟨rfl, rfl⟩))) (Or.inl ⟨rfl, by omega⟩)
    have w : ∀ c q : Nat, (my_uI (my_uI (my_uI (my_uI (my_uI (my_uI (my_uI (my_uI (my_uI σ1 544 0 (Int32.ofNat k)) 498 75 0) 498 70 0) 498 76 0) 498 77 (Int32.ofNat (cdB I As k a))) 498 79 (Int32.ofInt (-1))) 498 80 0) 545 0 0) 498 81 0).1 c q = if c = 498 ∧ q = 81 then 0 else if c = 545 ∧ q = 0 then 0 else if c = 498 ∧ q = 80 then 0 else if c = 498 ∧ q = 79 then Int32.ofInt (-1) else if c = 498 ∧ q = 77 then Int32.ofNat (cdB I As k a) else if c = 498 ∧ q = 76 then 0 else if c = 498 ∧ q = 70 then 0 else if c = 498 ∧ q = 75 then 0 else if c = 544 ∧ q = 0 then Int32.ofNat k else σ1.1 c q := fun c q => by
      rw [my_uI_1, my_uI_1, my_uI_1, my_uI_1, my_uI_1, my_uI_1, my_uI_1, my_uI_1, my_uI_1]
    generalize my_uI (my_uI (my_uI (my_uI (my_uI (my_uI (my_uI (my_uI (my_uI σ1 544 0 (Int32.ofNat k)) 498 75 0) 498 70 0) 498 76 0) 498 77 (Int32.ofNat (cdB I As k a))) 498 79 (Int32.ofInt (-1))) 498 80 0) 545 0 0) 498 81 0 = σ2 at g w ⊢
    have hcb : cbk As I k = cdB I As k a := by unfold cbk; rw [ha]
    have w70 : σ2.1 498 70 = 0 := by rw [w]; simp
    have w75 : σ2.1 498 75 = 0 := by rw [w]; simp
    have w76 : σ2.1 498 76 = 0 := by rw [w]; simp
    have w77 : σ2.1 498 77 = Int32.ofNat (cdB I As k a) := by rw [w]; simp
    have w79 : σ2.1 498 79 = Int32.ofInt (-1) := by rw [w]; simp
    have w80 : σ2.1 498 80 = 0 := by rw [w]; simp
    have w81 : σ2.1 498 81 = 0 := by rw [w]; simp
    have w44 : σ2.1 544 0 = Int32.ofNat k := by rw [w]; simp
    have w45 : σ2.1 545 0 = 0 := by rw [w]; simp
    refine hQ σ2 ⟨⟨w70, fun i hi => absurd hi (Nat.not_lt_zero _)⟩, ⟨w75, fun u hu => ?_⟩, ⟨?_, fun u hu => absurd hu (Nat.not_lt_zero _)⟩, fun u hu => ?_, fun u b hu hb => ?_, fun u b hu hb i hi => ?_, ⟨fun u b hu => ?_, fun v hv => ?_⟩, w76, ?_, fun n hn => ?_, w79, w80⟩ (eqp_tr (eqp_mo f (fun c q hh => by unfold bg2 at hh; unfold rmF; omega)) (eqp_mo g (fun c q hh => by unfold rmF; omega)))
    · have hu : u ≤ 0 := hu
      have : u = 0 := by omega
      subst this
      exact ⟨w44, w45⟩
    · show _ = Int32.ofNat (cbk As I k + 0)
      rw [w77, hcb]
      rfl
    · have hu : u < 10 * (0 + 1) := hu
      exact (eqp_g g (by omega)).trans (q4 u (by omega))
    · show _ = G0 As (nmk As u)
      rw [G0_at hB hu hb]
      exact (eqp_g g (by omega)).trans (q5 u b hu hb)
    · have := (List.getElem?_eq_some_iff.mp hu).1
      exact (eqp_g g (by omega)).trans (q6 _ (by omega))
    · rw [eqp_g g (by omega), q7 u (List.getElem?_eq_some_iff.mp hu).1]
      show (0 : Int32) = if (false : Bool) = true then 1 else 0
      rw [if_neg (by simp)]
    · rw [eqp_g g (by omega)]; exact qb v hv
    · rw [w81]
      show (0 : Int32) = if (none : Option Nat) = none then 0 else 1
      rw [if_pos rfl]
    · have hn : (none : Option Nat) = some n := hn
      cases hn
  | succ m ih =>
    intro i σ1 hi f q5 q7 qb q6 q4
    unfold ys_298_122
    rw [if_pos ((oN_lt1 (b := 10) (c := 10) rfl (by omega) (by omega)).mpr (by omega)), oN_n (by omega), oN_s]
    have g : eqp (fun c _ => c = 542) σ1 (my_uI σ1 542 i 0) := eqp_I eqp_rf rfl
    refine ⟨bdk (by omega) (by omega), ys_298_122_ok (ih (i + 1) _ (by omega) (eqp_tr f (eqp_mo g (fun c q hh => by unfold bg2; omega))) (fun u b hu hb => (eqp_g g (by omega)).trans (q5 u b hu hb)) (fun u hu => (eqp_g g (by omega)).trans (q7 u hu)) (fun v hv => by rw [eqp_g g (by omega)]; exact qb v hv) (fun u hu => (eqp_g g (by omega)).trans (q6 u hu)) (fun u hu => ?_))⟩
    rw [my_uI_1]
    by_cases c : u = i
    · rw [if_pos ⟨rfl, c⟩]
    · rw [if_neg (by omega)]; exact q4 u (by omega)
theorem n_298b (hL : LOf As I) (hR : NowR I As σ) (ha : As[k]? = some a) (h2 : 2 ≤ riF a) (hQ : ∀ σ', RMs As I (z0 As k) σ' → eqp rmF σ σ' → Q (.inl none) κ σ') : ∀ (m i : Nat) (σ1 : my_S), i + m = 1536 → eqp bg2 σ σ1 → (∀ k b, As[k]? = some b → riF b = 0 → σ1.1 538 k = riV b) → (∀ k, k < As.length → σ1.1 540 k = 0) → b01 σ1 → (∀ u, u < i → σ1.1 539 u = 0) → ys_298_100 e d (Int32.ofNat k) (Int32.ofNat i) κ σ1 Q := by
  intro m
  induction m with
  | zero =>
    intro i σ1 hi f q5 q7 qb q6
    have : i = 1536 := by omega
    subst this
    unfold ys_298_100
    rw [if_neg (by decide)]
    exact ys_298_122_ok (n_298c hL hR ha h2 hQ 10 0 σ1 (by omega) f q5 q7 qb q6 (fun u hu => by omega))
  | succ m ih =>
    intro i σ1 hi f q5 q7 qb q6
    unfold ys_298_100
    rw [if_pos ((oN_lt1 (b := 1536) (c := 1536) rfl (by omega) (by omega)).mpr (by omega)), oN_n (by omega), oN_s]
    have g : eqp (fun c _ => c = 539) σ1 (my_uI σ1 539 i 0) := eqp_I eqp_rf rfl
    refine ⟨bdk (by omega) (by omega), ys_298_100_ok (ih (i + 1) _ (by omega) (eqp_tr f (eqp_mo g (fun c q hh => by unfold bg2; omega))) (fun u b hu hb => (eqp_g g (by omega)).trans (q5 u b hu hb)) (fun u hu => (eqp_g g (by omega)).trans (q7 u hu)) (fun v hv => by rw [eqp_g g (by omega)]; exact qb v hv) (fun u hu => ?_))⟩
    rw [my_uI_1]
    by_cases c : u = i
    · rw [if_pos ⟨rfl, c⟩]
    · rw [if_neg (by omega)]; exact q6 u (by omega)
theorem n_298a (hL : LOf As I) (hR : NowR I As σ) (h61 : (ibA I 0 As).length ≤ 6144) (ha : As[k]? = some a) (h2 : 2 ≤ riF a) (hQ : ∀ σ', RMs As I (z0 As k) σ' → eqp rmF σ σ' → Q (.inl none) κ σ') : ∀ (m i : Nat) (σ1 : my_S), i + m = As.length → eqp bg2 σ σ1 → (∀ k b, k < i → As[k]? = some b → riF b = 0 → σ1.1 538 k = riV b) → (∀ k, k < i → σ1.1 540 k = 0) → b01 σ1 → ys_298_2 e d (Int32.ofNat k) (Int32.ofNat i) κ σ1 Q := by
  obtain ⟨hB, hrel, hC, _⟩ := LOf_s hL
  have h42 := itsB_42 hB
  intro m
  induction m with
  | zero =>
    intro i σ1 hi f q5 q7 qb
    have : i = As.length := by omega
    subst this
    unfold ys_298_2
    rw [(eqp_g f (by unfold bg2; omega)).trans hR.2.2.1, if_neg (by rw [oN_lt (by omega) (by omega)]; omega)]
    exact ys_298_100_ok (n_298b hL hR ha h2 hQ 1536 0 σ1 (by omega) f (fun u b hu hb => q5 u b (List.getElem?_eq_some_iff.mp hu).1 hu hb) q7 qb (fun u hu => by omega))
  | succ m ih =>
    intro i σ1 hi f q5 q7 qb
    have hil : i < As.length := by omega
    have hai := List.getElem?_eq_getElem hil
    generalize As[i] = b at hai
    have p29 : σ1.1 529 i = Int32.ofNat (riF b + 10) := (eqp_g f (by unfold bg2; omega)).trans (hR.2.1 i b hai).1
    have p31 : σ1.1 531 i = Int32.ofNat (ibA I 0 (As.take i)).length := (eqp_g f (by unfold bg2; omega)).trans (hR.2.1 i b hai).2.2.1
    have hF := (hB.2 b (List.mem_of_getElem? hai)).1
    have go : ∀ v, (riF b = 0 → v = riV b) → ys_298_84 e d (Int32.ofNat k) (Int32.ofNat i) v (Int32.ofNat i) κ σ1 Q := fun v hv => by
      unfold ys_298_84
      rw [oN_n (by omega), oN_s]
      have g : eqp (fun c q => (c = 538 ∧ q = i) ∨ (c = 540 ∧ q = i)) σ1 (my_uI (my_uI σ1 538 i v) 540 i 0) := eqp_I (eqp_I eqp_rf (Or.inl ⟨rfl, rfl⟩)) (Or.inr ⟨rfl, rfl⟩)
      refine ⟨bdk (by omega) (by omega), bdk (by omega) (by omega), ys_298_2_ok (ih (i + 1) _ (by omega) (eqp_tr f (eqp_mo g (fun c q hh => by unfold bg2; omega))) (fun u c hu hc hfc => ?_) (fun u hu => ?_) (fun u hu => ?_))⟩
      · by_cases hui : u = i
        · subst hui
          rw [hai] at hc
          cases hc
          rw [my_uI_1, if_neg (by omega), uI_s]
          exact hv hfc
        · rw [eqp_g g (by omega)]; exact q5 u c (by omega) hc hfc
      · by_cases hui : u = i
        · subst hui; exact uI_s
        · rw [eqp_g g (by omega)]; exact q7 u (by omega)
      · by_cases hui : u = i
        · subst hui; left; exact uI_s
        · rw [eqp_g g (by omega)]; exact qb u hu
    unfold ys_298_2
    rw [(eqp_g f (by unfold bg2; omega)).trans hR.2.2.1, if_pos ((oN_lt (by omega) (by omega)).mpr hil), oN_n (by omega), p29, p31]
    refine ⟨bdk (by omega) (by omega), bdk (by omega) (by omega), ?_⟩
    refine my_if (fun c => ?_) (fun c => ?_)
    · have hf : riF b = 0 := by have := (oN_e (b := 10) (by omega) (by omega)).mp c; omega
      obtain ⟨l6, by4⟩ := r_gv hR hai hf h61
      have y : ∀ i', i' < 4 → σ1.1 535 ((ibA I 0 (As.take i)).length + (2 + i')) = Int32.ofNat ((riV b).toBitVec.toNat / 2 ^ (8 * i') % 256) := fun i' hi' => (eqp_g f (by unfold bg2; omega)).trans (by4 i' hi')
      have a2 : ∀ {u : Nat}, Int32.ofNat (ibA I 0 (As.take i)).length + Int32.ofNat u = Int32.ofNat ((ibA I 0 (As.take i)).length + u) := by intro u; rw [← Int32.ofNat_add]
      rw [show (2 : Int32) = Int32.ofNat 2 from rfl, show (3 : Int32) = Int32.ofNat 3 from rfl, show (4 : Int32) = Int32.ofNat 4 from rfl, show (5 : Int32) = Int32.ofNat 5 from rfl, a2, a2, a2, a2, oN_n (by omega), oN_n (by omega), oN_n (by omega), oN_n (by omega)]
      rw [show σ1.1 535 ((ibA I 0 (As.take i)).length + 2) = _ from y 0 (by omega), show σ1.1 535 ((ibA I 0 (As.take i)).length + 3) = _ from y 1 (by omega), show σ1.1 535 ((ibA I 0 (As.take i)).length + 4) = _ from y 2 (by omega), show σ1.1 535 ((ibA I 0 (As.take i)).length + 5) = _ from y 3 (by omega)]
      refine ⟨bdk (by omega) (by omega), bdk (by omega) (by omega), bdk (by omega) (by omega), bdk (by omega) (by omega), go _ (fun _ => ?_)⟩
      rw [← opv_4 (v := riV b)]
      unfold opv
      have hlt := (riV b).toBitVec.isLt
      have e0 : (Int32.ofNat ((riV b).toBitVec.toNat % 2 ^ (8 * 4))).toBitVec.toNat = (riV b).toBitVec.toNat := by
        show (BitVec.ofNat 32 ((riV b).toBitVec.toNat % 2 ^ (8 * 4))).toNat = _
        rw [BitVec.toNat_ofNat]
        omega
      rw [e0]
      generalize (riV b).toBitVec.toNat = n at hlt
      rw [show (256 : Int32) = Int32.ofNat 256 from rfl, show (65536 : Int32) = Int32.ofNat 65536 from rfl, show (16777216 : Int32) = Int32.ofNat 16777216 from rfl, ← Int32.ofNat_mul, ← Int32.ofNat_mul, ← Int32.ofNat_mul, ← Int32.ofNat_add, ← Int32.ofNat_add, ← Int32.ofNat_add]
      congr 1
      omega
    · exact go 0 (fun hf => absurd (by rw [hf]; rfl) c)
theorem n_298 (hL : LOf As I) (hR : NowR I As σ) (h61 : (ibA I 0 As).length ≤ 6144) (ha : As[k]? = some a) (h2 : 2 ≤ riF a) (hb : b01 σ) (hd : 1 ≤ d) (hQ : ∀ σ', RMs As I (z0 As k) σ' → eqp rmF σ σ' → Q (.inl none) κ σ') : my_M e d 298 [.inr (.inr (some 498)), .inl (Int32.ofNat k)] κ σ Q := by
  obtain ⟨d, rfl⟩ := dS 1 hd
  refine ys_298 ?_
  unfold ys_298_0
  exact ys_298_2_ok (n_298a hL hR h61 ha h2 hQ As.length 0 σ (by omega) eqp_rf (fun u b hu => by omega) (fun u hu => by omega) hb)
end MBR
