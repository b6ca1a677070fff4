
/-! ===== the reference's machine: cells, calls, two values ===== -/
section MRQ
variable {e : my_E} {d : Nat} {κ : my_K} {σ σ' : my_S} {Q : my_O → my_K → my_S → Prop} {s : Ms} {As : List Ri} {I : List It}
theorem RMs_G {j : Nat} {b : Ri} {v : Int32} (h : RMs As I s σ) (hb : As[j]? = some b) (hf : riF b = 0) : RMs As I (zsG (nmk As j) v s) (my_uI σ 538 j v) ∧ eqp (fun c _ => c = 538) σ (my_uI σ 538 j v) := by
  obtain ⟨h2, h3, hP, h4, h5, h6, h7, h8⟩ := h
  have f : eqp (fun c _ => c = 538) σ (my_uI σ 538 j v) := eqp_I eqp_rf rfl
  have n5 : rq5 As (zsG (nmk As j) v s) (my_uI σ 538 j v) := fun k c hc hfc => by
    rw [my_uI_1]
    show _ = upN (zG s) (nmk As j) v (nmk As k)
    by_cases hk : k = j
    · subst hk
      rw [if_pos ⟨rfl, rfl⟩, upN_s]
    · rw [if_neg (by omega), upN_o (fun hh => hk (nmk_i hc hb (by rw [hf, hfc]) hh))]
      exact h5 k c hc hfc
  exact ⟨⟨rq2_o h2 f (fun c k hh => by omega), rq3_o h3 f (fun c k hh => by omega), rqP_o hP f (fun c k hh => by omega), rq4_o h4 f (fun c k hh => by omega), n5, rq6_o h6 f (fun c k hh => by omega), rq7_o h7 f (fun c k hh => by omega), rq8_o h8 f (fun c k hh => by omega)⟩, f⟩
theorem RMs_C {j i : Nat} {b : Ri} {v : Int32} (h : RMs As I s σ) (hB : itsB As) (hb : As[j]? = some b) (hf : riF b = 1) (hi : i < 32) : RMs As I (zsC (32 * nmk As j + i) v s) (my_uI σ 539 (32 * j + i) v) ∧ eqp (fun c _ => c = 539) σ (my_uI σ 539 (32 * j + i) v) := by
  obtain ⟨h2, h3, hP, h4, h5, h6, h7, h8⟩ := h
  have f : eqp (fun c _ => c = 539) σ (my_uI σ 539 (32 * j + i) v) := eqp_I eqp_rf rfl
  have n6 : rq6 As (zsC (32 * nmk As j + i) v s) (my_uI σ 539 (32 * j + i) v) := fun k c hc hfc u hu => by
    rw [my_uI_1]
    show _ = upN (zC s) (32 * nmk As j + i) v (32 * nmk As k + u)
    by_cases hk : 32 * k + u = 32 * j + i
    · have e1 : k = j := by omega
      subst e1
      have e2 : u = i := by omega
      subst e2
      rw [if_pos ⟨rfl, rfl⟩, upN_s]
    · rw [if_neg (by omega), upN_o ?_]
      · exact h6 k c hc hfc u hu
      · intro hh
        have e1 : nmk As k = nmk As j := by omega
        have e2 := nmk_i hc hb (by rw [hf, hfc]) e1
        omega
  exact ⟨⟨rq2_o h2 f (fun c k hh => by omega), rq3_o h3 f (fun c k hh => by omega), rqP_o hP f (fun c k hh => by omega), rq4_o h4 f (fun c k hh => by omega), rq5_o h5 f (fun c k hh => by omega), n6, rq7_o h7 f (fun c k hh => by omega), rq8_o h8 f (fun c k hh => by omega)⟩, f⟩
theorem RMs_L {i : Nat} {v : Int32} (h : RMs As I s σ) (hi : i < 10) : RMs As I (zsL (10 * zD s + i) v s) (my_uI σ 542 (10 * zD s + i) v) ∧ eqp rmF σ (my_uI σ 542 (10 * zD s + i) v) := by
  obtain ⟨h2, h3, hP, h4, h5, h6, h7, h8⟩ := h
  have f : eqp (fun c _ => c = 542) σ (my_uI σ 542 (10 * zD s + i) v) := eqp_I eqp_rf rfl
  have n4 : rq4 (zsL (10 * zD s + i) v s) (my_uI σ 542 (10 * zD s + i) v) := fun u hu => by
    rw [my_uI_1]
    show _ = upN (zL s) (10 * zD s + i) v u
    by_cases c : u = 10 * zD s + i
    · rw [if_pos ⟨rfl, c⟩, c, upN_s]
    · rw [if_neg (by omega), upN_o c]; exact h4 u hu
  exact ⟨⟨rq2_o h2 f (fun c k hh => by omega), rq3_o h3 f (fun c k hh => by omega), rqP_o hP f (fun c k hh => by omega), n4, rq5_o h5 f (fun c k hh => by omega), rq6_o h6 f (fun c k hh => by omega), rq7_o h7 f (fun c k hh => by omega), rq8_o h8 f (fun c k hh => by omega)⟩, eqp_mo f (fun c k hh => by unfold rmF; omega)⟩
/-- how many cells an array has, in its bytes -/
theorem r_al {j : Nat} {b : Ri} (hR : NowR I As σ) (hb : As[j]? = some b) (hf : riF b = 1) (hv : ¬ riV b < 1 ∧ ¬ (32 : Int32) < riV b) (h61 : (ibA I 0 As).length ≤ 6144) : σ.1 531 j = Int32.ofNat (ibA I 0 (As.take j)).length ∧ (ibA I 0 (As.take j)).length + 1 < 6144 ∧ σ.1 535 ((ibA I 0 (As.take j)).length + 1) = riV b := by
  have hib : ib I (rwA (As.take j)).length b = bts (Int32.ofNat (riF b)) 1 0 ++ bts (riV b) 1 0 := by
    unfold ib
    rw [if_neg (by omega), if_pos hf]
  have h1 : (ib I (rwA (As.take j)).length b)[1]? = some (bt (riV b) (Int32.ofNat 0)) := by rw [hib]; rfl
  have h2 := ib_q hb h1
  have h3 := (List.getElem?_eq_some_iff.mp h2).1
  refine ⟨(hR.2.1 j b hb).2.2.1, by omega, ?_⟩
  rw [hR.1.2 _ _ h2, bt_0]
  obtain ⟨w, hw, hw2⟩ := nn_of (v := riV b) (fun hh => hv.1 (Int32.lt_of_lt_of_le hh (by decide)))
  have : w ≤ 32 := by
    by_cases hh : w ≤ 32
    · exact hh
    · exfalso
      apply hv.2
      rw [hw]
      exact (oN_lt (p := 32) (by omega) hw2).mpr (by omega)
  rw [hw, and255, Nat.mod_eq_of_lt (by omega)]
theorem n_302 {j : Nat} {b : Ri} {t : Int32} (hB : itsB As) (hR : NowR I As σ) (h61 : (ibA I 0 As).length ≤ 6144) (h : RMs As I s σ) (hb : As[j]? = some b) (hf : riF b = 1) (hv : ¬ riV b < 1 ∧ ¬ (32 : Int32) < riV b) (hT : zT s ≤ 8000) (ht : (t = 0 ∧ 1 ≤ zT s) ∨ (t = 1 ∧ 2 ≤ zT s)) (hd : 2 ≤ d) (hQ : ∀ σ', RMs As I (if t = 0 then zcel As j (ztch 1 (nmk As j) s) else zset As j (ztch 1 (nmk As j) s)) σ' → eqp rmF σ σ' → Q (.inl none) κ σ') : my_M e d 302 [.inr (.inr (some 498)), .inl (Int32.ofNat j), .inl t] κ σ Q := by
  obtain ⟨d, rfl⟩ := dS 1 (show 1 ≤ d by omega)
  have hj42 := (nmk_lt hB hb).2
  have hal : alA As j = riV b := by unfold alA; rw [hb]
  obtain ⟨a1, a2, a3⟩ := r_al hR hb hf hv h61
  have gt := RMs_t h hb
  rw [hf, show kdf 1 = 1 from rfl] at gt
  refine ys_302 ?_
  unfold ys_302_0
  rw [oN_n (by omega)]
  refine ⟨bdk (by omega) (by omega), ?_⟩
  obtain ⟨g0, f0'⟩ := gt
  have f0 : eqp rmF σ (my_uI σ 540 j 1) := eqp_mo f0' (fun c k hh => by unfold rmF; omega)
  generalize my_uI σ 540 j 1 = σ0 at g0 f0 f0' ⊢
  have w32 : ∀ {v : Int32}, ¬ v < 0 → v < riV b → ∃ w, v = Int32.ofNat w ∧ w < 32 := fun {v} c c2 => by
    obtain ⟨w, hw, hw2⟩ := nn_of c
    refine ⟨w, hw, ?_⟩
    by_cases hh : w < 32
    · exact hh
    · exfalso
      apply hv.2
      rw [hw] at c2
      have h1 : ¬ Int32.ofNat w < 32 := fun h3 => hh ((oN_lt1 (b := 32) (c := 32) rfl hw2 (by omega)).mp h3)
      exact Int32.lt_of_le_of_lt (Int32.not_lt.mp h1) c2
  rcases ht with ⟨rfl, hT1⟩ | ⟨rfl, hT2⟩
  · rw [if_pos rfl] at hQ ⊢
    unfold ys_302_19
    refine n_301 (s := ztch 1 (nmk As j) s) g0 hT hT1 (by omega) (fun σ1 g1 f1 => ?_)
    have f01 := eqp_tr f0 f1
    have r1 : σ1.1 531 j = Int32.ofNat (ibA I 0 (As.take j)).length := (eqp_g f01 (by unfold rmF; omega)).trans a1
    have r2 : σ1.1 535 ((ibA I 0 (As.take j)).length + 1) = riV b := (eqp_g f01 (by unfold rmF; omega)).trans a3
    rw [my_kI_v]
    unfold zcel at hQ
    rw [hal] at hQ
    have bad : ztop s < 0 ∨ ¬ ztop s < riV b → ys_302_49 e d κ σ1 Q := fun hb' => by
      rw [if_pos (show ztop (ztch 1 (nmk As j) s) < 0 ∨ ¬ ztop (ztch 1 (nmk As j) s) < riV b from hb')] at hQ
      unfold ys_302_49
      refine n_303 (n := 5) (s := zpop (ztch 1 (nmk As j) s)) g1 (by omega) (fun σ2 g2 f2 => ?_)
      rw [my_k0_v]
      exact hQ σ2 g2 (eqp_tr f01 f2)
    refine my_if (fun c => bad (Or.inl c)) (fun c => ⟨bdk (by omega) (by omega), ?_⟩)
    rw [oN_n (by omega), r1, oN_s, oN_n (by omega), r2]
    refine ⟨bdk (by omega) (by omega), my_if (fun c2 => ?_) (fun c2 => bad (Or.inr c2))⟩
    rw [if_neg (show ¬ (ztop (ztch 1 (nmk As j) s) < 0 ∨ ¬ ztop (ztch 1 (nmk As j) s) < riV b) from fun hh => by rcases hh with hh | hh; exact c hh; exact hh c2)] at hQ
    obtain ⟨w, hw, hw32⟩ := w32 c c2
    have hw' : ztop (ztch 1 (nmk As j) s) = Int32.ofNat w := hw
    rw [hw', oN_n (by omega)] at hQ
    rw [if_pos rfl, hw', show (32 : Int32) * Int32.ofNat j + Int32.ofNat w = Int32.ofNat (32 * j + w) by rw [show (32 : Int32) = Int32.ofNat 32 from rfl, ← Int32.ofNat_mul, ← Int32.ofNat_add], oN_n (by omega), g1.2.2.2.2.2.1 j b hb hf w hw32]
    refine ⟨bdk (by omega) (by omega), ?_⟩
    refine n_300 (s := zpop (ztch 1 (nmk As j) s)) g1 (by show zT s - 1 < 8000; omega) (by omega) (fun σ2 g2 f2 => ?_)
    rw [my_k0_v]
    exact hQ σ2 g2 (eqp_tr f01 f2)
  · rw [if_neg (by decide)] at hQ ⊢
    refine n_301 (s := ztch 1 (nmk As j) s) g0 hT (by show 1 ≤ zT s; omega) (by omega) (fun σ1 g1 f1 => ?_)
    rw [my_kI_v]
    unfold ys_302_19
    refine n_301 (s := zpop (ztch 1 (nmk As j) s)) g1 (by show zT s - 1 ≤ 8000; omega) (by show 1 ≤ zT s - 1; omega) (by omega) (fun σ2 g2 f2 => ?_)
    have f02 := eqp_tr f0 (eqp_tr f1 f2)
    have r1 : σ2.1 531 j = Int32.ofNat (ibA I 0 (As.take j)).length := (eqp_g f02 (by unfold rmF; omega)).trans a1
    have r2 : σ2.1 535 ((ibA I 0 (As.take j)).length + 1) = riV b := (eqp_g f02 (by unfold rmF; omega)).trans a3
    rw [my_kI_v]
    unfold zset at hQ
    rw [hal] at hQ
    generalize hi0 : ztop (zpop (ztch 1 (nmk As j) s)) = ix at hQ ⊢
    have bad : ix < 0 ∨ ¬ ix < riV b → ys_302_49 e d κ σ2 Q := fun hb' => by
      rw [if_pos hb'] at hQ
      unfold ys_302_49
      refine n_303 (n := 5) (s := zpop (zpop (ztch 1 (nmk As j) s))) g2 (by omega) (fun σ3 g3 f3 => ?_)
      rw [my_k0_v]
      exact hQ σ3 g3 (eqp_tr f02 f3)
    refine my_if (fun c => bad (Or.inl c)) (fun c => ⟨bdk (by omega) (by omega), ?_⟩)
    rw [oN_n (by omega), r1, oN_s, oN_n (by omega), r2]
    refine ⟨bdk (by omega) (by omega), my_if (fun c2 => ?_) (fun c2 => bad (Or.inr c2))⟩
    rw [if_neg (fun hh => by rcases hh with hh | hh; exact c hh; exact hh c2)] at hQ
    obtain ⟨w, hw, hw32⟩ := w32 c c2
    rw [hw, oN_n (by omega)] at hQ
    rw [if_neg (by decide), hw, show (32 : Int32) * Int32.ofNat j + Int32.ofNat w = Int32.ofNat (32 * j + w) by rw [show (32 : Int32) = Int32.ofNat 32 from rfl, ← Int32.ofNat_mul, ← Int32.ofNat_add], oN_n (by omega)]
    refine ⟨bdk (by omega) (by omega), ?_⟩
    have gc := RMs_C (v := ztop (ztch 1 (nmk As j) s)) g2 hB hb hf hw32
    exact hQ _ gc.1 (eqp_tr f02 (eqp_mo gc.2 (fun c k hh => by unfold rmF; omega)))
theorem n_308 {c : Nat} (h : RMs As I s σ) (hc : 21 ≤ c ∧ c ≤ 31) (hT : zT s ≤ 8000) (hT2 : 2 ≤ zT s) (hb : c = 21 ∨ c = 22 → (ztop s = 0 ∨ ztop s = 1) ∧ (ztop (zpop s) = 0 ∨ ztop (zpop s) = 1)) (hd : 2 ≤ d) (hQ : ∀ σ', RMs As I (zbin c s) σ' → eqp rmF σ σ' → Q (.inl none) κ σ') : my_M e d 308 [.inr (.inr (some 498)), .inl (Int32.ofNat c)] κ σ Q := by
  obtain ⟨d, rfl⟩ := dS 1 (show 1 ≤ d by omega)
  refine ys_308 ?_
  unfold ys_308_0
  refine n_301 h hT (by omega) (by omega) (fun σ1 g1 f1 => ?_)
  rw [my_kI_v]
  refine n_301 (s := zpop s) g1 (by show zT s - 1 ≤ 8000; omega) (by show 1 ≤ zT s - 1; omega) (by omega) (fun σ2 g2 f2 => ?_)
  rw [my_kI_v]
  have f12 := eqp_tr f1 f2
  have hT3 : zT (zpop (zpop s)) < 8000 := by show zT s - 1 - 1 < 8000; omega
  have psh : ∀ v : Int32, bop c (ztop (zpop s)) (ztop s) = v → ¬ (30 ≤ c ∧ ztop s = 0) → my_M e d 300 [.inr (.inr (some 498)), .inl v] κ σ2 (my_k0 (fun κ σ => ys_308_223 e d κ σ Q) (fun y κ σ => Q (.inr y) κ σ)) := fun v hv hn => by
    refine n_300 g2 hT3 (by omega) (fun σ3 g3 f3 => ?_)
    rw [my_k0_v]
    refine hQ σ3 ?_ (eqp_tr f12 f3)
    unfold zbin
    rw [if_neg hn, hv]
    exact g3
  by_cases h30 : c < 30
  · rw [if_pos ((oN_lt1 (b := 30) (c := 30) rfl (by omega) (by omega)).mpr h30)]
    have hn : ¬ (30 ≤ c ∧ ztop s = 0) := fun hh => by omega
    unfold ys_308_26
    have hcs : c = 21 ∨ c = 22 ∨ c = 23 ∨ c = 24 ∨ c = 25 ∨ c = 26 ∨ c = 27 ∨ c = 28 ∨ c = 29 := by omega
    rcases hcs with rfl | rfl | rfl | rfl | rfl | rfl | rfl | rfl | rfl
    · rw [if_pos (by decide)]
      unfold ys_308_92
      obtain ⟨b1, b2⟩ := hb (Or.inl rfl)
      have key : ∀ u v : Int32, (u = 0 ∨ u = 1) → (v = 0 ∨ v = 1) → (0 < u + v → (u ||| v) = 1) ∧ (¬ 0 < u + v → (u ||| v) = 0) := fun u v hu hv => by
        rcases hu with rfl | rfl <;> rcases hv with rfl | rfl <;> decide
      exact my_if (fun hh => psh 1 ((key _ _ b2 b1).1 hh) hn) (fun hh => psh 0 ((key _ _ b2 b1).2 hh) hn)
    · rw [if_neg (by decide), if_pos (by decide)]
      obtain ⟨b1, b2⟩ := hb (Or.inr rfl)
      have key : ∀ u v : Int32, (u = 0 ∨ u = 1) → (v = 0 ∨ v = 1) → (u &&& v) = u * v := fun u v hu hv => by
        rcases hu with rfl | rfl <;> rcases hv with rfl | rfl <;> decide
      exact psh _ (key _ _ b2 b1) hn
    · rw [if_neg (by decide), if_neg (by decide), if_pos (by decide)]
      unfold ys_308_119
      refine my_if (fun hh => psh 1 ?_ hn) (fun hh => psh 0 ?_ hn)
      · show (if _ then (1 : Int32) else 0) = 1
        rw [if_pos hh]
      · show (if _ then (1 : Int32) else 0) = 0
        rw [if_neg hh]
    · rw [if_neg (by decide), if_neg (by decide), if_neg (by decide), if_pos (by decide)]
      unfold ys_308_136
      refine my_if (fun hh => psh 0 ?_ hn) (fun hh => psh 1 ?_ hn)
      · show (if _ then (0 : Int32) else 1) = 0
        rw [if_pos hh]
      · show (if _ then (0 : Int32) else 1) = 1
        rw [if_neg hh]
    · rw [if_neg (by decide), if_neg (by decide), if_neg (by decide), if_neg (by decide), if_pos (by decide)]
      unfold ys_308_153
      refine my_if (fun hh => psh 1 ?_ hn) (fun hh => psh 0 ?_ hn)
      · show (if _ then (1 : Int32) else 0) = 1
        rw [if_pos hh]
      · show (if _ then (1 : Int32) else 0) = 0
        rw [if_neg hh]
    · rw [if_neg (by decide), if_neg (by decide), if_neg (by decide), if_neg (by decide), if_neg (by decide), if_pos (by decide)]
      unfold ys_308_170
      refine my_if (fun hh => psh 0 ?_ hn) (fun hh => psh 1 ?_ hn)
      · show (if _ then (0 : Int32) else 1) = 0
        rw [if_pos hh]
      · show (if _ then (0 : Int32) else 1) = 1
        rw [if_neg hh]
    · rw [if_neg (by decide), if_neg (by decide), if_neg (by decide), if_neg (by decide), if_neg (by decide), if_neg (by decide), if_pos (by decide)]
      exact psh _ rfl hn
    · rw [if_neg (by decide), if_neg (by decide), if_neg (by decide), if_neg (by decide), if_neg (by decide), if_neg (by decide), if_neg (by decide), if_pos (by decide)]
      exact psh _ rfl hn
    · rw [if_neg (by decide), if_neg (by decide), if_neg (by decide), if_neg (by decide), if_neg (by decide), if_neg (by decide), if_neg (by decide), if_neg (by decide), if_pos (by decide)]
      exact psh _ rfl hn
  · rw [if_neg (fun hh => h30 ((oN_lt1 (b := 30) (c := 30) rfl (by omega) (by omega)).mp hh))]
    refine my_if (fun h0 => ?_) (fun h0 => ?_)
    · refine n_303 (n := 2) g2 (by omega) (fun σ3 g3 f3 => ?_)
      rw [my_k0_v]
      refine hQ σ3 ?_ (eqp_tr f12 f3)
      unfold zbin
      rw [if_pos ⟨by omega, h0⟩]
      exact g3
    · have hn : ¬ (30 ≤ c ∧ ztop s = 0) := fun hh => h0 hh.2
      unfold ys_308_26
      have hcs : c = 30 ∨ c = 31 := by omega
      rcases hcs with rfl | rfl
      · rw [if_neg (by decide), if_neg (by decide), if_neg (by decide), if_neg (by decide), if_neg (by decide), if_neg (by decide), if_neg (by decide), if_neg (by decide), if_neg (by decide), if_pos (by decide)]
        exact ⟨h0, psh _ rfl hn⟩
      · rw [if_neg (by decide), if_neg (by decide), if_neg (by decide), if_neg (by decide), if_neg (by decide), if_neg (by decide), if_neg (by decide), if_neg (by decide), if_neg (by decide), if_neg (by decide)]
        exact ⟨h0, psh _ rfl hn⟩
end MRQ
