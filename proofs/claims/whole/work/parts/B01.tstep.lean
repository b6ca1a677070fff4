
/-! ===== what a step does to the types, where nothing is amiss ===== -/
def tyk (v : Int32) : Prop := v = 0 ∨ v = 1
theorem fl_q {a b : Int32} {pl : Nat} (ha : tyk a) (hb : tyk b) (h : fl a b pl = none) : a = b := by
  unfold fl at h
  have n3 : ∀ {v : Int32}, tyk v → v ≠ 3 := fun hv => by rcases hv with rfl | rfl <;> decide
  rw [if_neg (n3 ha), if_neg (n3 hb)] at h
  by_cases c : a = b
  · exact c
  · rw [if_neg c] at h; cases h
theorem mns_s {I : List It} {nm : List Nat} {kd : Int32} {pl : Nat} (h : (mns I nm kd pl none).2 = none) : ∃ k, itK I nm = some k ∧ (itA I k).2.2.1 = kd ∧ mns I nm kd pl none = (some k, none) := by
  unfold mns at h ⊢
  cases hk : itK I nm with
  | none => rw [hk] at h; cases h
  | some k =>
    rw [hk] at h
    dsimp only at h ⊢
    by_cases c : (itA I k).2.2.1 = kd
    · rw [if_pos c]; exact ⟨k, rfl, c, rfl⟩
    · rw [if_neg c] at h; cases h
theorem mstB_t {a : Int32} : mstB a a = true := by unfold mstB; simp
theorem mstA_s {pt : Nat → Int32} : ∀ {A : List (Int32 × Nat)} {k : Nat}, (∀ y ∈ A, tyk y.1) → (∀ i, i < A.length → tyk (pt (k + i))) → (mstA A pt k none).2 = none → (mstA A pt k none).1 = true ∧ ∀ i y, A[i]? = some y → y.1 = pt (k + i)
  | [], _, _, _, _ => ⟨rfl, fun i y h => by simp at h⟩
  | a :: A, k, hA, hp, h => by
    have h0 : fl a.1 (pt k) a.2 = none := by
      have := mstA_n (A := A) (pt := pt) (k := k + 1) (mf := omin none (fl a.1 (pt k) a.2)) h
      rw [omin_l] at this
      exact this
    have e := fl_q (hA a (by simp)) (hp 0 (by simp)) h0
    have h' : (mstA A pt (k + 1) none).2 = none := by
      have : (mstA A pt (k + 1) (omin none (fl a.1 (pt k) a.2))).2 = none := h
      rw [omin_l, h0] at this
      exact this
    obtain ⟨g1, g2⟩ := mstA_s (A := A) (k := k + 1) (fun y hy => hA y (by simp [hy])) (fun i hi => by
      have := hp (i + 1) (by rw [List.length_cons]; omega)
      rw [show k + (i + 1) = k + 1 + i by omega] at this
      exact this) h'
    refine ⟨?_, fun i y hi => ?_⟩
    · show (mstB a.1 (pt k) && (mstA A pt (k + 1) (omin none (fl a.1 (pt k) a.2))).1) = true
      rw [omin_l, h0, g1, e]
      simp [mstB]
    · cases i with
      | zero =>
        simp only [List.getElem?_cons_zero, Option.some.injEq] at hi
        rw [← hi]; exact e
      | succ i =>
        simp only [List.getElem?_cons_succ] at hi
        rw [show k + (i + 1) = k + 1 + i by omega]
        exact g2 i y hi
section MTE
variable {I : List It} {ity : Int32} {x : Rw} {LT : Nat → Int32} {P : List (Int32 × Nat)}
/-- a call that is right -/
theorem tcal_s (hC : IC I) (hP : ∀ y ∈ P, tyk y.1) (hc : x.2.1.toNatClampNeg ≤ P.length) (h : (tcal I x P none).2 = none) : ∃ k, itK I x.2.2.1 = some k ∧ k < I.length ∧ (itA I k).2.2.1 = 2 ∧ (itA I k).2.2.2.2.1 = x.2.1 ∧ (itA I k).2.1 = (if x.1 = 204 then 2 else 3) ∧ x.2.1.toNatClampNeg ≤ 4 ∧ x.2.1 = Int32.ofNat x.2.1.toNatClampNeg ∧ (tcal I x P none).1 = (itA I k).2.2.2.1 ∧ ∀ i y, (P.take x.2.1.toNatClampNeg).reverse[i]? = some y → y.1 = (itA I k).2.2.2.2.2 i := by
  have hm : (mns I x.2.2.1 2 x.2.2.2 none).2 = none := by
    unfold tcal at h
    cases hk : (mns I x.2.2.1 2 x.2.2.2 none).1 with
    | none => rw [hk] at h; exact h
    | some k =>
      unfold mns at hk ⊢
      cases hj : itK I x.2.2.1 with
      | none => rw [hj] at hk; cases hk
      | some j =>
        rw [hj] at hk
        dsimp only at hk ⊢
        by_cases c : (itA I j).2.2.1 = 2
        · rw [if_pos c]
        · rw [if_neg c] at hk; cases hk
  obtain ⟨k, k1, k2, k3⟩ := mns_s hm
  have hkl := itK_lt k1
  obtain ⟨_, np, hnp, hcn, htp⟩ := ((hC k hkl).2 k2).2
  have e1 : (itA I k).2.2.2.2.1 = x.2.1 := by
    by_cases c : (itA I k).2.2.2.2.1 = x.2.1
    · exact c
    · unfold tcal at h
      rw [k3] at h
      dsimp only at h
      rw [if_neg c] at h
      unfold tcl1 at h
      rw [if_neg (fun hh => c hh.1)] at h
      cases h
  have hcl : x.2.1.toNatClampNeg = np := by rw [← e1, hcn, oN_n (by omega)]
  have hv : tcal I x P none = (if ((tcl1 I x k none).1 && (mstA (P.take x.2.1.toNatClampNeg).reverse (itA I k).2.2.2.2.2 0 (tcl1 I x k none).2).1) = true then (itA I k).2.2.2.1 else 3, (mstA (P.take x.2.1.toNatClampNeg).reverse (itA I k).2.2.2.2.2 0 (tcl1 I x k none).2).2) := by
    conv => lhs; unfold tcal; rw [k3]
    dsimp only
    rw [if_pos e1]
  rw [hv] at h ⊢
  dsimp only at h ⊢
  have e2 : (itA I k).2.1 = (if x.1 = 204 then 2 else 3) := by
    by_cases c : (itA I k).2.1 = (if x.1 = 204 then 2 else 3)
    · exact c
    · have := mstA_n h
      unfold tcl1 at this
      rw [if_neg (fun hh => c hh.2)] at this
      cases this
  have ht : tcl1 I x k none = (true, none) := by unfold tcl1; rw [if_pos ⟨e1, e2⟩]
  rw [ht] at h ⊢
  dsimp only at h ⊢
  have hlen : (P.take x.2.1.toNatClampNeg).reverse.length = np := by rw [List.length_reverse, List.length_take]; omega
  obtain ⟨g1, g2⟩ := mstA_s (A := (P.take x.2.1.toNatClampNeg).reverse) (k := 0) (fun y hy => hP y (List.mem_of_mem_take (List.mem_reverse.mp hy))) (fun i hi => by rw [Nat.zero_add]; exact htp i (by omega)) h
  refine ⟨k, k1, hkl, k2, e1, e2, by omega, by rw [hcl, ← hcn, e1], by rw [g1]; rfl, fun i y hi => ?_⟩
  have := g2 i y hi
  rw [Nat.zero_add] at this
  exact this
theorem ty_1 (h : x.1 = 1) : tr2 I ity x (LT, P, none) = (LT, (0, x.2.2.2) :: P, none) := by simp [tr2, tr1, h]
theorem ty_2 (h : x.1 = 2 ∨ x.1 = 3) : tr2 I ity x (LT, P, none) = (LT, (1, x.2.2.2) :: P, none) := by rcases h with h | h <;> simp [tr2, tr1, h]
theorem ty_4 (h : x.1 = 4) : tr2 I ity x (LT, P, none) = (LT, (LT x.2.1.toNatClampNeg, x.2.2.2) :: P, none) := by simp [tr2, tr1, h]
theorem ty_5 {a : Int32 × Nat} {P0 : List (Int32 × Nat)} (h : x.1 = 5) : tr2 I ity x (LT, a :: P0, none) = (LT, P0, fl a.1 (LT x.2.1.toNatClampNeg) a.2) := by simp [tr2, tpop, h, omin_l]
theorem ty_207 {a : Int32 × Nat} {P0 : List (Int32 × Nat)} (h : x.1 = 207) : tr2 I ity x (LT, a :: P0, none) = (ltU LT x.2.1.toNatClampNeg a.1, P0, none) := by simp [tr2, tdcl, h]
theorem ty_200 (h : x.1 = 200) : tr2 I ity x (LT, P, none) = (LT, (tyO I (mns I x.2.2.1 0 x.2.2.2 none).1, x.2.2.2) :: P, (mns I x.2.2.1 0 x.2.2.2 none).2) := by simp [tr2, tr1, h]
theorem ty_201 {a : Int32 × Nat} {P0 : List (Int32 × Nat)} (h : x.1 = 201) : tr2 I ity x (LT, a :: P0, none) = (LT, P0, omin (mns I x.2.2.1 0 x.2.2.2 none).2 (fl a.1 (tyO I (mns I x.2.2.1 0 x.2.2.2 none).1) a.2)) := by simp [tr2, tasg, h]
theorem ty_202 {a : Int32 × Nat} {P0 : List (Int32 × Nat)} (h : x.1 = 202) : tr2 I ity x (LT, a :: P0, none) = (LT, (if (mns I x.2.2.1 1 x.2.2.2 (fl a.1 0 a.2)).1 ≠ none ∧ mstB a.1 0 = true then 0 else 3, x.2.2.2) :: P0, (mns I x.2.2.1 1 x.2.2.2 (fl a.1 0 a.2)).2) := by
  have e : tr2 I ity x (LT, a :: P0, none) = tcel I x (LT, a :: P0, none) := by simp [tr2, tr1, h]
  rw [e]
  unfold tcel
  dsimp only
  rw [omin_l]
theorem ty_203 {a b : Int32 × Nat} {P0 : List (Int32 × Nat)} (h : x.1 = 203) : tr2 I ity x (LT, b :: a :: P0, none) = (LT, P0, omin (omin (mns I x.2.2.1 1 x.2.2.2 none).2 (fl b.1 0 b.2)) (fl a.1 0 a.2)) := by simp [tr2, tse2, h]
theorem ty_204 (h : x.1 = 204) : tr2 I ity x (LT, P, none) = (LT, ((tcal I x P none).1, x.2.2.2) :: P.drop x.2.1.toNatClampNeg, (tcal I x P none).2) := by simp [tr2, tr1, h]
theorem ty_205 (h : x.1 = 205) : tr2 I ity x (LT, P, none) = (LT, P.drop x.2.1.toNatClampNeg, (tcal I x P none).2) := by simp [tr2, h]
theorem ty_206 {a : Int32 × Nat} {P0 : List (Int32 × Nat)} (h : x.1 = 206) : tr2 I ity x (LT, a :: P0, none) = (LT, (a.1, x.2.2.2) :: P0, none) := by simp [tr2, tr1, tpar, h]
theorem ty_208 {a : Int32 × Nat} {P0 : List (Int32 × Nat)} (h : x.1 = 208) : tr2 I ity x (LT, a :: P0, none) = (LT, a :: P0, fl a.1 1 a.2) := by simp [tr2, tchk, h, omin_l]
theorem ty_11 {a : Int32 × Nat} {P0 : List (Int32 × Nat)} (h : x.1 = 11) : tr2 I ity x (LT, a :: P0, none) = (LT, P0, fl a.1 ity a.2) := by simp [tr2, tpop, h, omin_l]
theorem ty_15 (h : x.1 = 15 ∨ x.1 = 17) : tr2 I ity x (LT, P, none) = (LT, P.drop 1, none) := by rcases h with h | h <;> simp [tr2, h]
theorem ty_0 (h : x.1 = 12 ∨ x.1 = 13 ∨ x.1 = 14 ∨ x.1 = 16) : tr2 I ity x (LT, P, none) = (LT, P, none) := by rcases h with h | h | h | h <;> simp [tr2, h]
theorem ty_19 {a : Int32 × Nat} {P0 : List (Int32 × Nat)} (h : x.1 = 19) : tr2 I ity x (LT, a :: P0, none) = (LT, (if mstB a.1 0 = true then 0 else 3, x.2.2.2) :: P0, fl a.1 0 a.2) := by simp [tr2, tr1, tun, h, omin_l]
theorem ty_20 {a : Int32 × Nat} {P0 : List (Int32 × Nat)} (h : x.1 = 20) : tr2 I ity x (LT, a :: P0, none) = (LT, (if mstB a.1 1 = true then 1 else 3, x.2.2.2) :: P0, fl a.1 1 a.2) := by simp [tr2, tr1, tun, h, omin_l]
/-- a step with two values: which types it wants, which one it gives -/
def bdo (c : Nat) (t : Int32) : Prop := (c = 21 ∨ c = 22 → t = 1) ∧ (25 ≤ c → t = 0)
def bty (c : Nat) : Int32 := if 27 ≤ c then 0 else 1
theorem ty_b {a b : Int32 × Nat} {P0 : List (Int32 × Nat)} (h : 21 ≤ x.1 ∧ x.1 ≤ 31) (ha : tyk a.1) (hb : tyk b.1) (hn : (tr2 I ity x (LT, b :: a :: P0, none)).2.2 = none) : tr2 I ity x (LT, b :: a :: P0, none) = (LT, (bty x.1, a.2) :: P0, none) ∧ a.1 = b.1 ∧ bdo x.1 a.1 := by
  have n3 : ∀ {v : Int32}, tyk v → v ≠ 3 := fun hv => by rcases hv with rfl | rfl <;> decide
  have e : tr2 I ity x (LT, b :: a :: P0, none) = tbi x.1 (LT, b :: a :: P0, none) := by
    unfold tr2 tr1
    rw [if_neg (by omega), if_neg (by omega), if_neg (by omega), if_neg (by omega), if_neg (by omega), if_neg (by omega), if_neg (by omega), if_neg (by omega), if_neg (by omega), if_neg (by omega), if_neg (by omega), if_neg (by omega), if_neg (by omega), if_neg (by omega), if_neg (by omega), if_neg (by omega), if_neg (by omega), if_neg (by omega)]
  rw [e] at hn ⊢
  unfold tbi at hn ⊢
  dsimp only at hn ⊢
  by_cases c : x.1 = 23 ∨ x.1 = 24
  · rw [if_pos c] at hn ⊢
    dsimp only at hn
    rw [omin_l] at hn
    have q := fl_q hb ha hn
    refine ⟨?_, q.symm, ⟨fun hh => by omega, fun hh => by omega⟩⟩
    rw [omin_l, hn, q, if_pos ⟨n3 ha, mstB_t, n3 ha⟩]
    unfold bty
    rw [if_neg (by omega)]
  · rw [if_neg c] at hn ⊢
    dsimp only at hn
    rw [omin_l] at hn
    generalize hd : (if x.1 ≤ 22 then (1 : Int32) else 0) = dm at hn ⊢
    have hdm : tyk dm := by rw [← hd]; split <;> simp [tyk]
    obtain ⟨n1, n2⟩ := omin_0.mp hn
    have q1 := fl_q ha hdm n1
    have q2 := fl_q hb hdm n2
    refine ⟨?_, q1.trans q2.symm, ⟨fun hh => ?_, fun hh => ?_⟩⟩
    · rw [omin_l, n1, n2, q1, q2, if_pos ⟨mstB_t, mstB_t, n3 hdm⟩]
      rfl
    · rw [q1, ← hd, if_pos (by omega)]
    · rw [q1, ← hd, if_neg (by omega)]
/-- types that are known, as many as there are -/
def TS1 (m : Nat) (s : T3) : Prop := (∀ j, j < m → tyk (s.1 j)) ∧ ∀ y ∈ s.2.1, tyk y.1
theorem ts_1 {fm m h : Nat} (hC : IC I) (hV : rwV x) (hm : m ≤ 10) (hO : stO fm m h x) (hT : TS1 m (LT, P, none)) (hnd' : hnd x ≤ P.length) (hn : (tr2 I ity x (LT, P, none)).2.2 = none) : TS1 (lvn x m) (tr2 I ity x (LT, P, none)) := by
  obtain ⟨hL, hP⟩ := hT
  dsimp only at hL hP
  have ln : x.1 ≠ 207 → lvn x m = m := fun hh => by unfold lvn; rw [if_neg hh]
  have cons : ∀ {v : Int32} {p : Nat} {P' : List (Int32 × Nat)}, tyk v → (∀ y ∈ P', tyk y.1) → ∀ y ∈ ((v, p) : Int32 × Nat) :: P', tyk y.1 := fun hv hp y hy => by
    rcases List.mem_cons.mp hy with hy | hy
    · rw [hy]; exact hv
    · exact hp y hy
  have t0 : tyk 0 := Or.inl rfl
  have t1 : tyk 1 := Or.inr rfl
  have drp : ∀ {c : Nat}, ∀ y ∈ P.drop c, tyk y.1 := fun y hy => hP y (List.mem_of_mem_drop hy)
  have one : 1 ≤ hnd x → ∃ a P0, P = a :: P0 := fun hh => by
    cases P with
    | nil => simp at hnd'; omega
    | cons a P0 => exact ⟨a, P0, rfl⟩
  have two : 2 ≤ hnd x → ∃ b a P0, P = b :: a :: P0 := fun hh => by
    match P, hnd' with
    | [], h2 => simp at h2; omega
    | [_], h2 => simp at h2; omega
    | b :: a :: P0, _ => exact ⟨b, a, P0, rfl⟩
  have tl : ∀ {a : Int32 × Nat} {P0 : List (Int32 × Nat)}, P = a :: P0 → tyk a.1 ∧ ∀ y ∈ P0, tyk y.1 := fun hh => by
    rw [hh] at hP
    exact ⟨hP _ (by simp), fun y hy => hP y (List.mem_cons_of_mem _ hy)⟩
  rcases rwV_op hV with h1 | h1 | h1 | h1 | h1 | h1 | h1 | h1 | h1 | h1 | h1 | h1 | h1 | h1 | h1 | h1 | h1 | h1 | h1 | h1 | h1 | h1 | h1 | h1
  · rw [ty_1 h1, ln (by omega)]; exact ⟨hL, cons t0 hP⟩
  · rw [ty_2 (Or.inl h1), ln (by omega)]; exact ⟨hL, cons t1 hP⟩
  · rw [ty_2 (Or.inr h1), ln (by omega)]; exact ⟨hL, cons t1 hP⟩
  · rw [ty_4 h1, ln (by omega)]
    obtain ⟨j, hj, hv⟩ := hO.1 (Or.inl h1)
    refine ⟨hL, cons ?_ hP⟩
    rw [hv, oN_n (by omega)]
    exact hL j hj
  · obtain ⟨a, P0, e⟩ := one (by unfold hnd; simp [h1])
    have := tl e
    subst e
    rw [ty_5 h1, ln (by omega)]; exact ⟨hL, this.2⟩
  · obtain ⟨a, P0, e⟩ := one (by unfold hnd; simp [h1])
    have := tl e
    subst e
    rw [ty_11 h1, ln (by omega)]; exact ⟨hL, this.2⟩
  · rw [ty_0 (by omega), ln (by omega)]; exact ⟨hL, hP⟩
  · rw [ty_0 (by omega), ln (by omega)]; exact ⟨hL, hP⟩
  · rw [ty_0 (by omega), ln (by omega)]; exact ⟨hL, hP⟩
  · rw [ty_15 (by omega), ln (by omega)]; exact ⟨hL, drp⟩
  · rw [ty_0 (by omega), ln (by omega)]; exact ⟨hL, hP⟩
  · rw [ty_15 (by omega), ln (by omega)]; exact ⟨hL, drp⟩
  · obtain ⟨a, P0, e⟩ := one (by unfold hnd; simp [h1])
    have ht := tl e
    subst e
    rw [ty_19 h1] at hn ⊢
    rw [fl_q ht.1 t0 hn, if_pos mstB_t, ln (by omega)]
    exact ⟨hL, cons t0 ht.2⟩
  · obtain ⟨a, P0, e⟩ := one (by unfold hnd; simp [h1])
    have ht := tl e
    subst e
    rw [ty_20 h1] at hn ⊢
    rw [fl_q ht.1 t1 hn, if_pos mstB_t, ln (by omega)]
    exact ⟨hL, cons t1 ht.2⟩
  · obtain ⟨b, a, P0, e⟩ := two (by unfold hnd; rw [if_neg (by omega), if_pos (by omega)]; omega)
    have ht := tl e
    subst e
    have ha := ht.2 a (by simp)
    rw [(ty_b h1 ha ht.1 hn).1, ln (by omega)]
    refine ⟨hL, cons ?_ (fun y hy => ht.2 y (List.mem_cons_of_mem _ hy))⟩
    unfold bty
    split
    · exact t0
    · exact t1
  · rw [ty_200 h1] at hn ⊢
    obtain ⟨k, k1, k2, k3⟩ := mns_s hn
    rw [k3, ln (by omega)]
    exact ⟨hL, cons ((hC k (itK_lt k1)).1 k2) hP⟩
  · obtain ⟨a, P0, e⟩ := one (by unfold hnd; simp [h1])
    have := tl e
    subst e
    rw [ty_201 h1, ln (by omega)]; exact ⟨hL, this.2⟩
  · obtain ⟨a, P0, e⟩ := one (by unfold hnd; simp [h1])
    have ht := tl e
    subst e
    rw [ty_202 h1] at hn ⊢
    have n0 := (mns_k (Or.inr (Or.inl rfl)) hn).1
    rw [n0] at hn ⊢
    obtain ⟨k, k1, k2, k3⟩ := mns_s hn
    rw [k3, fl_q ht.1 t0 n0, if_pos ⟨by simp, mstB_t⟩, ln (by omega)]
    exact ⟨hL, cons t0 ht.2⟩
  · obtain ⟨b, a, P0, e⟩ := two (by unfold hnd; simp [h1])
    have ht := tl e
    subst e
    rw [ty_203 h1, ln (by omega)]
    exact ⟨hL, fun y hy => ht.2 y (List.mem_cons_of_mem _ hy)⟩
  · have hc : hnd x = x.2.1.toNatClampNeg := by unfold hnd; simp [h1]
    rw [ty_204 h1] at hn ⊢
    obtain ⟨k, k1, k2, k3, k4, k5, k6, k7, k8, k9⟩ := tcal_s hC hP (by omega) hn
    rw [if_pos h1] at k5
    rw [k8, ln (by omega)]
    exact ⟨hL, cons (((hC k k2).2 k3).2.1 k5) drp⟩
  · rw [ty_205 h1, ln (by omega)]; exact ⟨hL, drp⟩
  · obtain ⟨a, P0, e⟩ := one (by unfold hnd; simp [h1])
    have ht := tl e
    subst e
    rw [ty_206 h1, ln (by omega)]; exact ⟨hL, cons ht.1 ht.2⟩
  · obtain ⟨a, P0, e⟩ := one (by unfold hnd; simp [h1])
    have ht := tl e
    subst e
    obtain ⟨hv, hm10⟩ := hO.2.1 h1
    rw [ty_207 h1]
    refine ⟨fun j hj => ?_, ht.2⟩
    unfold lvn at hj
    rw [if_pos h1] at hj
    show tyk (ltU LT x.2.1.toNatClampNeg a.1 j)
    unfold ltU
    rw [hv, oN_n (by omega)]
    by_cases c : j = m
    · rw [if_pos c]; exact ht.1
    · rw [if_neg c]; exact hL j (by omega)
  · obtain ⟨a, P0, e⟩ := one (by unfold hnd; simp [h1])
    subst e
    rw [ty_208 h1, ln (by omega)]; exact ⟨hL, hP⟩
end MTE
theorem lvs_10 {fm : Nat} : ∀ {r : List Rw} {m h : Nat}, KS fm r m h → m ≤ 10 → lvs r m ≤ 10
  | [], m, _, _, hm => hm
  | x :: r, m, h, hk, hm => by
    refine lvs_10 (r := r) hk.2 ?_
    unfold lvn
    by_cases c : x.1 = 207
    · rw [if_pos c]; have := (hk.1.2.1 c).2; omega
    · rw [if_neg c]; exact hm
theorem lvs_le : ∀ {r : List Rw} {m : Nat}, m ≤ lvs r m
  | [], m => Nat.le_refl _
  | x :: r, m => by
    have h1 := lvs_le (r := r) (m := lvn x m)
    have h2 : m ≤ lvn x m := by
      unfold lvn
      split <;> omega
    show m ≤ lvs r (lvn x m)
    omega
theorem tr2_1 {I : List It} {ity : Int32} {x : Rw} {s : T3} (h : x.1 ≠ 207) : (tr2 I ity x s).1 = s.1 := by
  unfold tr2
  split
  · unfold tpop
    split <;> rfl
  split
  · unfold tasg
    split <;> rfl
  split
  · unfold tse2
    split <;> rfl
  split
  · rfl
  split
  · unfold tchk
    split <;> rfl
  split
  · unfold tpop
    split <;> rfl
  split
  · rfl
  split
  · rfl
  unfold tr1
  split
  · rfl
  split
  · rfl
  split
  · rfl
  split
  · rfl
  split
  · unfold tcel
    split <;> rfl
  split
  · rfl
  split
  · unfold tpar
    split <;> rfl
  split
  · unfold tun
    split <;> rfl
  split
  · unfold tun
    split <;> rfl
  unfold tbi
  split
  · split <;> rfl
  · rfl
/-- all steps -/
theorem ts_run {I : List It} {ity : Int32} {fm : Nat} (hC : IC I) : ∀ {r : List Rw} {m : Nat} {S : T3}, rVs r → m ≤ 10 → KS fm r m S.2.1.length → hok r S.2.1.length → TS1 m S → (trs2 I ity r S).2.2 = none → TS1 (lvs r m) (trs2 I ity r S) ∧ (trs2 I ity r S).2.1.length = hrn r S.2.1.length ∧ ∀ j, j < m → (trs2 I ity r S).1 j = S.1 j
  | [], m, S, _, _, _, _, hT, _ => ⟨hT, rfl, fun _ _ => rfl⟩
  | x :: r, m, S, hV, hm, hk, ho, hT, hn => by
    have hn1 := (trs2_n (r := r) (s := tr2 I ity x S) hn).1
    have hn0 := (tr2_n hn1).1
    obtain ⟨LT, P, mf⟩ := S
    dsimp only at hn0
    subst hn0
    have hVx := hV x (by simp)
    have t1 := ts_1 hC hVx hm hk.1 hT ho.1 hn1
    have l1 := tr2_len (I := I) (ity := ity) (s := (LT, P, none)) hVx ho.1
    have hm' : lvn x m ≤ 10 := lvs_10 (r := [x]) (fm := fm) (h := P.length) ⟨hk.1, trivial⟩ hm
    obtain ⟨g1, g2, g3⟩ := ts_run hC (r := r) (m := lvn x m) (S := tr2 I ity x (LT, P, none)) (fun y hy => hV y (by simp [hy])) hm' (by rw [l1]; exact hk.2) (by rw [l1]; exact ho.2) t1 hn
    refine ⟨g1, by rw [show (trs2 I ity (x :: r) (LT, P, none)) = trs2 I ity r (tr2 I ity x (LT, P, none)) from rfl, g2, l1]; rfl, fun j hj => ?_⟩
    have hlm : m ≤ lvn x m := lvs_le (r := [x])
    show (trs2 I ity r (tr2 I ity x (LT, P, none))).1 j = LT j
    rw [g3 j (by omega)]
    by_cases c : x.1 = 207
    · have hh : 1 ≤ P.length := by have := ho.1; unfold hnd at this; simp [c] at this; exact this
      match P, hh with
      | a :: P0, _ =>
        rw [ty_207 c]
        show ltU LT x.2.1.toNatClampNeg a.1 j = LT j
        unfold ltU
        rw [if_neg]
        have := hk.1.2.1 c
        rw [this.1, oN_n (by omega)]
        omega
    · exact congrFun (tr2_1 (s := (LT, P, none)) c) j
