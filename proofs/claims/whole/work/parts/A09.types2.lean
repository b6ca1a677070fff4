/-! ===== types: factors ===== -/
def mnF (I : List It) (nm : List Nat) (kd : Int32) : Option Nat := match itK I nm with
  | none => none
  | some k => if (itA I k).2.2.1 = kd then some k else none
def mnM (I : List It) (nm : List Nat) (kd : Int32) (pl : Nat) : Option Nat := match mnF I nm kd with
  | none => some pl
  | some _ => none
section MTZ
variable {L : List (List Nat)} {LT : Nat → Int32} {I : List It}
theorem trs_1 {x : Rw} {s : T3} : trs I [x] s = tr1 I x s := rfl
theorem mnF_k {nm : List Nat} {kd : Int32} {k : Nat} (h : mnF I nm kd = some k) : itK I nm = some k ∧ (itA I k).2.2.1 = kd ∧ k < I.length := by
  unfold mnF at h
  cases hk : itK I nm with
  | none => rw [hk] at h; cases h
  | some j =>
    rw [hk] at h
    simp only [] at h
    split at h
    · rename_i h1
      cases h
      exact ⟨rfl, h1, itK_lt hk⟩
    · cases h
theorem mnt_e {nm : List Nat} {kd : Int32} {pl : Nat} {S : St} : mnt I true nm kd pl S = (mnF I nm kd, if mnF I nm kd = none then wm true pl S else S) := by
  unfold mnt mnF
  cases itK I nm with
  | none => rfl
  | some j =>
    simp only []
    split
    · rfl
    · rfl
theorem mns_e {nm : List Nat} {kd : Int32} {pl : Nat} {mf : Option Nat} : mns I nm kd pl mf = (mnF I nm kd, omin mf (mnM I nm kd pl)) := by
  unfold mns mnM mnF
  cases itK I nm with
  | none => rfl
  | some j =>
    simp only []
    split
    · rw [omin_r]
    · rfl
theorem CE_mnt {nm : List Nat} {kd : Int32} {pl : Nat} {S : St} (hp : pl < 2147483648) : CE S (mnt I true nm kd pl S).2 (mnM I nm kd pl) (fk (mnM I nm kd pl)) := by
  rw [mnt_e]
  unfold mnM
  cases mnF I nm kd with
  | none => rw [if_pos rfl]; exact CE_wm hp
  | some k => exact CE_0 rfl rfl
theorem mnM_T {nm : List Nat} {kd : Int32} {pl p q : Nat} (h1 : p ≤ pl) (h2 : pl < q) : okT (mnM I nm kd pl) p q := by
  unfold mnM
  cases mnF I nm kd with
  | none => exact fun x hx => by cases hx; exact ⟨h1, h2⟩
  | some k => exact okT_n
theorem mnM_0 {nm : List Nat} {kd : Int32} {pl : Nat} : mnM I nm kd pl = none ↔ mnF I nm kd ≠ none := by
  unfold mnM
  cases mnF I nm kd <;> simp
/-- a sign ahead -/
theorem TY_u {S S1 : St} {r : List Rw} {p p2 q k : Nat} {ty : Int32} (hp : p < p2) (hq : p2 < q) (hq2 : q ≤ 2000) (h : TY L LT I S r p2 q ty S1) : TY L LT I S (r ++ [(if k = 45 then 19 else 20, 0, [], p)]) p q (if (sgS true k ty p2 S1).2.1 = S.2.1 then (if k = 45 then 0 else 1) else 3) (sgS true k ty p2 S1) := by
  obtain ⟨m1, k1, mR1, a1, c1, b1, o1, oR1, t1, l1⟩ := h
  have key : ∀ (op : Nat) (d cd : Int32), d ≠ 3 → (d = 0 ∨ d = 1) → (∀ s, tr1 I (op, 0, [], p) s = tun d p s) → (∀ S', er I (op, 0, [], p) S' = wn cd 1 0 S') → sgS true k ty p2 S1 = wr true cd 1 (wf true ty d p2 S1) → TY L LT I S (r ++ [(op, 0, [], p)]) p q (if (sgS true k ty p2 S1).2.1 = S.2.1 then d else 3) (sgS true k ty p2 S1) := fun op d cd hd hd01 htr her hsg => by
    rw [hsg]
    have f1 := CE_wf (S := S1) (a := ty) (b := d) (pl := p2) (by omega)
    have hw : CE (wf true ty d p2 S1) (wr true cd 1 (wf true ty d p2 S1)) none 0 := CE_wr
    have c5 := CE_t (CE_t c1 f1) hw
    have u1 := fk_1 (m := fl ty d p2)
    have hms := CE_ms c5 (by omega)
    refine ⟨_, _, omin mR1 (fl a1 d p2), if mstB a1 d = true then d else 3, c5, by omega, okT_m (okT_m (okT_w o1 (by omega) (by omega)) (fl_T (by omega) (by omega))) okT_n, okT_m (okT_w oR1 (by omega) (by omega)) (fl_T (by omega) (by omega)), fun P mf => ?_, fun hc => ?_⟩
    · rw [trs_a, t1]
      show tr1 I (op, 0, [], p) _ = _
      rw [htr]
      unfold tun
      simp only [omin_s]
    · obtain ⟨e1, e2, e3, e4⟩ := l1 hc
      subst e1
      have e2 := e2.symm
      subst e2
      rw [omin_r] at hms ⊢
      refine ⟨?_, rfl, fun h0 => ?_, fun h0 => ?_⟩
      · by_cases h0 : omin m1 (fl a1 d p2) = none
        · rw [if_pos (hms.mpr h0)]
          rw [omin_0] at h0
          have y1 := (e3 h0.1).1
          have n1 : a1 ≠ 3 := by rcases y1 with h | h <;> rw [h] <;> decide
          rw [if_pos ((mstB_3 hd).mpr ((fl_0 n1 hd).mp h0.2))]
        · rw [if_neg (fun hh => h0 (hms.mp hh)), if_neg]
          intro g1
          rw [mstB_3 hd] at g1
          apply h0
          have n1 : a1 ≠ 3 := by rw [g1]; exact hd
          have z1 : m1 = none := Decidable.byContradiction (fun hh => n1 (e4 hh))
          rw [z1, omin_l, fl_0 n1 hd]
          exact g1
      · have h0' := h0
        rw [omin_0] at h0
        rw [if_pos (hms.mpr h0')]
        refine ⟨hd01, ?_⟩
        rw [ers_a, ← (e3 h0.1).2]
        show _ = er I (op, 0, [], p) S1
        rw [her, wf_0 h0.2]
        rfl
      · rw [if_neg (fun hh => h0 (hms.mp hh))]
  by_cases hk : k = 45
  · rw [if_pos hk, if_pos hk]
    exact key 19 0 19 (by decide) (Or.inl rfl) (fun s => rfl) (fun s => rfl) (by unfold sgS; rw [if_pos hk, if_pos hk])
  · rw [if_neg hk, if_neg hk]
    exact key 20 1 20 (by decide) (Or.inr rfl) (fun s => rfl) (fun s => rfl) (by unfold sgS; rw [if_neg hk, if_neg hk])
/-- in brackets -/
theorem TY_p {S S1 : St} {r : List Rw} {p p2 q q' : Nat} {ty : Int32} (hp : p < p2) (hq : p2 < q) (hq' : q < q') (h : TY L LT I S r p2 q ty S1) : TY L LT I S (r ++ [(206, 0, [], p)]) p q' ty S1 := by
  obtain ⟨m1, k1, mR1, a1, c1, b1, o1, oR1, t1, l1⟩ := h
  refine ⟨m1, k1, mR1, a1, c1, by omega, okT_w o1 (by omega) (by omega), okT_w oR1 (by omega) (by omega), fun P mf => ?_, fun hc => ?_⟩
  · rw [trs_a, t1]
    rfl
  · obtain ⟨e1, e2, e3, e4⟩ := l1 hc
    refine ⟨e1, e2, fun h => ⟨(e3 h).1, ?_⟩, e4⟩
    rw [ers_a, ← (e3 h).2]
    rfl
/-- a cell -/
theorem TY_i {S S2 : St} {r : List Rw} {p p3 q1 q : Nat} {ty : Int32} {nm : List Nat} (hp : p < p3) (hq : p3 < q1) (hq' : q1 < q) (hq2 : q ≤ 2000) (h : TY L LT I (mnt I true nm 1 p S).2 r p3 q1 ty S2) : TY L LT I S (r ++ [(202, 0, nm, p)]) p q (if (wnm true 8 (mnt I true nm 1 p S).1 (wf true ty 0 p3 S2)).2.1 = S.2.1 then 0 else 3) (wnm true 8 (mnt I true nm 1 p S).1 (wf true ty 0 p3 S2)) := by
  obtain ⟨m1, k1, mR1, a1, c1, b1, o1, oR1, t1, l1⟩ := h
  have cA := CE_mnt (I := I) (nm := nm) (kd := 1) (S := S) (pl := p) (by omega)
  have f1 := CE_wf (S := S2) (a := ty) (b := 0) (pl := p3) (by omega)
  have hw : CE (wf true ty 0 p3 S2) (wnm true 8 (mnt I true nm 1 p S).1 (wf true ty 0 p3 S2)) none 0 := CE_wnm
  have c5 := CE_t (CE_t (CE_t cA c1) f1) hw
  have u1 := fk_1 (m := fl ty 0 p3)
  have u2 := fk_1 (m := mnM I nm 1 p)
  have hms := CE_ms c5 (by omega)
  have d3 : (0 : Int32) ≠ 3 := by decide
  refine ⟨_, _, omin (omin mR1 (fl a1 0 p3)) (mnM I nm 1 p), if mnF I nm 1 ≠ none ∧ mstB a1 0 = true then 0 else 3, c5, by omega, okT_m (okT_m (okT_m (mnM_T (by omega) (by omega)) (okT_w o1 (by omega) (by omega))) (fl_T (by omega) (by omega))) okT_n, okT_m (okT_m (okT_w oR1 (by omega) (by omega)) (fl_T (by omega) (by omega))) (mnM_T (by omega) (by omega)), fun P mf => ?_, fun hc => ?_⟩
  · rw [trs_a, t1]
    have hx : ∀ s, tr1 I (202, 0, nm, p) s = tcel I (202, 0, nm, p) s := fun s => rfl
    rw [trs_1, hx]
    unfold tcel
    simp only [mns_e, omin_s]
  · obtain ⟨e1, e2, e3, e4⟩ := l1 hc
    subst e1
    have e2 := e2.symm
    subst e2
    have hmm : omin (omin (omin (mnM I nm 1 p) m1) (fl a1 0 p3)) none = omin (omin m1 (fl a1 0 p3)) (mnM I nm 1 p) := by rw [omin_r, omin_s, omin_c]
    rw [hmm] at hms ⊢
    refine ⟨?_, rfl, fun h0 => ?_, fun h0 => ?_⟩
    · by_cases h0 : omin (omin m1 (fl a1 0 p3)) (mnM I nm 1 p) = none
      · rw [if_pos (hms.mpr h0)]
        rw [omin_0, omin_0] at h0
        have y1 := (e3 h0.1.1).1
        have n1 : a1 ≠ 3 := by rcases y1 with h | h <;> rw [h] <;> decide
        rw [if_pos ⟨mnM_0.mp h0.2, (mstB_3 d3).mpr ((fl_0 n1 d3).mp h0.1.2)⟩]
      · rw [if_neg (fun hh => h0 (hms.mp hh)), if_neg]
        rintro ⟨g0, g1⟩
        rw [mstB_3 d3] at g1
        apply h0
        have n1 : a1 ≠ 3 := by rw [g1]; exact d3
        have z1 : m1 = none := Decidable.byContradiction (fun hh => n1 (e4 hh))
        rw [z1, omin_l, omin_0, fl_0 n1 d3, mnM_0]
        exact ⟨g1, g0⟩
    · have h0' := h0
      rw [omin_0, omin_0] at h0
      rw [if_pos (hms.mpr h0')]
      refine ⟨Or.inl rfl, ?_⟩
      cases hk : mnF I nm 1 with
      | none => exact absurd hk (mnM_0.mp h0.2)
      | some k =>
        have hi := (mnF_k hk).1
        have s2 := (e3 h0.1.1).2
        rw [mnt_e, hk] at s2 ⊢
        rw [ers_a]
        show _ = er I (202, 0, nm, p) (ers I r S)
        have s2' : S2 = ers I r S := s2
        rw [← s2', wf_0 h0.1.2]
        show _ = wnm true 8 (itK I nm) S2
        rw [hi]
    · rw [if_neg (fun hh => h0 (hms.mp hh))]
/-- what is given to a routine -/
def fitA (I : List It) (rt : Option Nat) : List (Int32 × Nat) → Nat → Option Nat
  | [], _ => none
  | a :: A, k => omin (fl a.1 (pty I rt k) a.2) (fitA I rt A (k + 1))
theorem fitA_a {rt : Option Nat} {a : Int32 × Nat} : ∀ {A : List (Int32 × Nat)} {k : Nat}, fitA I rt (A ++ [a]) k = omin (fitA I rt A k) (fl a.1 (pty I rt (k + A.length)) a.2)
  | [], k => by simp [fitA, omin_l, omin_r]
  | b :: A, k => by
    show omin _ (fitA I rt (A ++ [a]) (k + 1)) = omin (omin _ (fitA I rt A (k + 1))) _
    rw [fitA_a, omin_s, List.length_cons, show k + 1 + A.length = k + (A.length + 1) by omega]
def fitP (pt : Nat → Int32) : List (Int32 × Nat) → Nat → Option Nat
  | [], _ => none
  | a :: A, k => omin (fl a.1 (pt k) a.2) (fitP pt A (k + 1))
theorem mstA_2 {pt : Nat → Int32} : ∀ {A : List (Int32 × Nat)} {k : Nat} {mf : Option Nat}, (mstA A pt k mf).2 = omin mf (fitP pt A k)
  | [], _, _ => by simp [mstA, fitP, omin_r]
  | a :: A, k, mf => by
    show (mstA A pt (k + 1) _).2 = _
    rw [mstA_2]
    simp only [fitP, omin_s]
theorem fitP_T {pt : Nat → Int32} {p q : Nat} : ∀ {A : List (Int32 × Nat)} {k : Nat}, (∀ x ∈ A, p ≤ x.2 ∧ x.2 < q) → okT (fitP pt A k) p q
  | [], _, _ => okT_n
  | a :: A, k, h => okT_m (fl_T (h a (by simp)).1 (h a (by simp)).2) (fitP_T (fun x hx => h x (by simp [hx])))
def allB (pt : Nat → Int32) : List (Int32 × Nat) → Nat → Bool
  | [], _ => true
  | a :: A, k => mstB a.1 (pt k) && allB pt A (k + 1)
theorem mstA_1 {pt : Nat → Int32} : ∀ {A : List (Int32 × Nat)} {k : Nat} {mf : Option Nat}, (mstA A pt k mf).1 = allB pt A k
  | [], _, _ => rfl
  | a :: A, k, mf => by
    show (mstB a.1 (pt k) && (mstA A pt (k + 1) _).1) = _
    rw [mstA_1]
    rfl
theorem allB_y {pt : Nat → Int32} : ∀ {A : List (Int32 × Nat)} {k : Nat}, (∀ j, j < A.length → pt (k + j) ≠ 3) → (∀ x ∈ A, x.1 ≠ 3) → fitP pt A k = none → allB pt A k = true
  | [], _, _, _, _ => rfl
  | a :: A, k, hp, ha, hf => by
    have h3 := hp 0 (by simp)
    rw [Nat.add_zero] at h3
    have hf : omin (fl a.1 (pt k) a.2) (fitP pt A (k + 1)) = none := hf
    rw [omin_0] at hf
    unfold allB
    rw [allB_y (k := k + 1) (fun j hj => by have := hp (j + 1) (by simp; omega); rwa [show k + (j + 1) = k + 1 + j by omega] at this) (fun x hx => ha x (by simp [hx])) hf.2, Bool.and_true, mstB_3 h3]
    exact (fl_0 (ha a (by simp)) h3).mp hf.1
theorem allB_n {pt : Nat → Int32} : ∀ {A : List (Int32 × Nat)} {k : Nat}, (∀ j, j < A.length → pt (k + j) ≠ 3) → allB pt A k = true → (∀ x ∈ A, x.1 ≠ 3) ∧ fitP pt A k = none
  | [], _, _, _ => ⟨fun x hx => by simp at hx, rfl⟩
  | a :: A, k, hp, h => by
    have h3 := hp 0 (by simp)
    rw [Nat.add_zero] at h3
    unfold allB at h
    rw [Bool.and_eq_true, mstB_3 h3] at h
    obtain ⟨i1, i2⟩ := allB_n (k := k + 1) (fun j hj => by have := hp (j + 1) (by simp; omega); rwa [show k + (j + 1) = k + 1 + j by omega] at this) h.2
    have ha : a.1 ≠ 3 := by rw [h.1]; exact h3
    refine ⟨fun x hx => ?_, ?_⟩
    · rcases List.mem_cons.mp hx with rfl | hx
      · exact ha
      · exact i1 x hx
    · show omin (fl a.1 (pt k) a.2) (fitP pt A (k + 1)) = none
      rw [i2, omin_r, fl_0 ha h3]
      exact h.1
def TA (L : List (List Nat)) (LT : Nat → Int32) (I : List It) (rt : Option Nat) (S1 : St) (r : List Rw) (p0 p c : Nat) (S : St) : Prop := ∃ (A : List (Int32 × Nat)) (mO mF : Option Nat) (k : Nat) (mR : Option Nat), CE S1 S (omin mO mF) k ∧ k ≤ 2 * (p - p0) ∧ okT mO p0 p ∧ okT mF p0 p ∧ okT mR p0 p ∧ A.length = c ∧ (∀ x ∈ A, p0 ≤ x.2 ∧ x.2 < p) ∧ (∀ P mf, trs I r (LT, P, mf) = (LT, A.reverse ++ P, omin mf mR)) ∧ (LTc L LT → mR = mO ∧ mF = fitA I rt A 0 ∧ (mO = none → ∀ x ∈ A, x.1 ≠ 3) ∧ (mO ≠ none → ∃ x ∈ A, x.1 = 3) ∧ (omin mO mF = none → S = ers I r S1))
theorem TA_0 {rt : Option Nat} {S : St} {p0 p : Nat} : TA L LT I rt S [] p0 p 0 S := ⟨[], none, none, 0, none, CE_0 rfl rfl, by omega, okT_n, okT_n, okT_n, rfl, (fun x hx => by simp at hx), (fun P mf => by rw [omin_r]; rfl), fun _ => ⟨rfl, rfl, fun _ x hx => by simp at hx, fun h => absurd rfl h, fun _ => rfl⟩⟩
theorem TA_w {rt : Option Nat} {S1 S : St} {r : List Rw} {p0 p p' c : Nat} (h : TA L LT I rt S1 r p0 p c S) (hp : p ≤ p') : TA L LT I rt S1 r p0 p' c S := by
  obtain ⟨A, mO, mF, k, mR, h1, h2, h3, h4, h5, h6, h7, h8⟩ := h
  exact ⟨A, mO, mF, k, mR, h1, by omega, okT_w h3 (by omega) hp, okT_w h4 (by omega) hp, okT_w h5 (by omega) hp, h6, (fun x hx => by have := h7 x hx; omega), h8⟩
theorem TA_1 {rt : Option Nat} {S0 S1 S : St} {r r1 : List Rw} {p0 p q c : Nat} {ty : Int32} (hp : p0 ≤ p) (hq : p < q) (hq2 : q ≤ 2000) (h : TA L LT I rt S0 r p0 p c S) (h1 : TY L LT I S r1 p q ty S1) : TA L LT I rt S0 (r ++ r1) p0 q (c + 1) (wf true ty (pty I rt c) p S1) := by
  obtain ⟨A, mO, mF, k, mR, g1, g2, g3, g4, g5, g6, gp, g7, g8⟩ := h
  obtain ⟨m1, k1, mR1, a1, c1, b1, o1, oR1, t1, l1⟩ := h1
  have f1 := CE_wf (S := S1) (a := ty) (b := pty I rt c) (pl := p) (by omega)
  have u1 := fk_1 (m := fl ty (pty I rt c) p)
  have c5 := CE_t (CE_t g1 c1) f1
  have hmm : omin (omin (omin mO mF) m1) (fl ty (pty I rt c) p) = omin (omin mO m1) (omin mF (fl ty (pty I rt c) p)) := by
    rw [omin_s (a := mO), omin_c (a := mF), ← omin_s, omin_s]
  rw [hmm] at c5
  refine ⟨A ++ [(a1, p)], omin mO m1, omin mF (fl ty (pty I rt c) p), _, omin mR mR1, c5, by omega, okT_m (okT_w g3 (by omega) (by omega)) (okT_w o1 (by omega) (by omega)), okT_m (okT_w g4 (by omega) (by omega)) (fl_T (by omega) (by omega)), okT_m (okT_w g5 (by omega) (by omega)) (okT_w oR1 (by omega) (by omega)), by simp [g6], (fun x hx => ?_), fun P mf => ?_, fun hc => ?_⟩
  · rcases List.mem_append.mp hx with hx | hx
    · have := gp x hx; omega
    · rw [List.mem_singleton.mp hx]; exact ⟨hp, hq⟩
  · rw [trs_a, g7, t1]
    simp [omin_s]
  · obtain ⟨e1, e2, e3, e4⟩ := l1 hc
    obtain ⟨d1, d2, d3, d4, d5⟩ := g8 hc
    subst e1
    have e2 := e2.symm
    subst e2
    refine ⟨by rw [d1], ?_, fun h0 x hx => ?_, fun h0 => ?_, fun h0 => ?_⟩
    · rw [fitA_a, d2, g6, Nat.zero_add]
    · rw [omin_0] at h0
      rcases List.mem_append.mp hx with hx | hx
      · exact d3 h0.1 x hx
      · rw [List.mem_singleton.mp hx]
        have y1 := (e3 h0.2).1
        show a1 ≠ 3
        rcases y1 with h | h <;> rw [h] <;> decide
    · by_cases hO : mO = none
      · have : m1 ≠ none := fun hh => h0 (by rw [hO, hh]; rfl)
        exact ⟨(a1, p), by simp, e4 this⟩
      · obtain ⟨x, hx, h3⟩ := d4 hO
        exact ⟨x, by simp [hx], h3⟩
    · rw [omin_0, omin_0, omin_0] at h0
      obtain ⟨⟨z1, z2⟩, z3, z4⟩ := h0
      rw [wf_0 z4, ers_a, ← d5 (by rw [z1, z3]; rfl)]
      exact (e3 z2).2
theorem omin_p {m : Option Nat} {p q : Nat} (h : okT m p q) : omin m (some p) = some p := by
  cases m with
  | none => rfl
  | some x =>
    have := h x rfl
    simp only [omin]
    rw [Nat.min_eq_right (by omega)]
theorem pty_some {k j np : Nat} (hnp : np ≤ 4) (hp : (itA I k).2.2.2.2.1 = Int32.ofNat np) (hj : j < np) : pty I (some k) j = (itA I k).2.2.2.2.2 j := by
  unfold pty
  simp only []
  rw [hp, if_pos ((oN_lt (by omega) (by omega)).mpr hj), if_pos (by omega)]
theorem fitA_P {k np : Nat} (hnp : np ≤ 4) (hp : (itA I k).2.2.2.2.1 = Int32.ofNat np) : ∀ {A : List (Int32 × Nat)} {j : Nat}, j + A.length = np → fitA I (some k) A j = fitP (itA I k).2.2.2.2.2 A j
  | [], _, _ => rfl
  | a :: A, j, h => by
    simp only [List.length_cons] at h
    show omin (fl a.1 (pty I (some k) j) a.2) (fitA I (some k) A (j + 1)) = omin (fl a.1 ((itA I k).2.2.2.2.2 j) a.2) (fitP (itA I k).2.2.2.2.2 A (j + 1))
    rw [pty_some hnp hp (by omega), fitA_P hnp hp (by omega)]
theorem fitA_none : ∀ {A : List (Int32 × Nat)} {j : Nat}, fitA I none A j = none
  | [], _ => rfl
  | a :: A, j => by
    show omin (fl a.1 (pty I none j) a.2) (fitA I none A (j + 1)) = none
    rw [fitA_none, omin_r]
    unfold fl pty
    simp
/-- a call -/
theorem TY_c {S S2 : St} {r : List Rw} {p p3 q1 q c : Nat} {nm : List Nat} (hI : IC I) (hp : p < p3) (hq : p3 ≤ q1) (hq' : q1 < q) (hq2 : q ≤ 2000) (hcn : c < 2000) (h : TA L LT I (mnt I true nm 2 p S).1 (mnt I true nm 2 p S).2 r p3 q1 c S2) : TY L LT I S (r ++ [(204, Int32.ofNat c, nm, p)]) p q (cend I true false (mnt I true nm 2 p S).1 c p S.2.1 S2).1 (cend I true false (mnt I true nm 2 p S).1 c p S.2.1 S2).2 := by
  obtain ⟨A, mO, mF, k, mR, g1, g2, g3, g4, g5, g6, gp, g7, g8⟩ := h
  have cA := CE_mnt (I := I) (nm := nm) (kd := 2) (S := S) (pl := p) (by omega)
  have u2 := fk_1 (m := mnM I nm 2 p)
  rw [mnt_e] at g1 g8 cA ⊢
  have hdr : ∀ P : List (Int32 × Nat), (A.reverse ++ P).drop (Int32.ofNat c).toNatClampNeg = P := fun P => by
    rw [oN_n (by omega), ← g6]; simp
  have htk : ∀ P : List (Int32 × Nat), ((A.reverse ++ P).take (Int32.ofNat c).toNatClampNeg).reverse = A := fun P => by
    rw [oN_n (by omega), ← g6]; simp
  have htr : ∀ P mf, trs I (r ++ [(204, Int32.ofNat c, nm, p)]) (LT, P, mf) = (LT, ((tcal I (204, Int32.ofNat c, nm, p) (A.reverse ++ P) (omin mf mR)).1, p) :: P, (tcal I (204, Int32.ofNat c, nm, p) (A.reverse ++ P) (omin mf mR)).2) := fun P mf => by
    rw [trs_a, g7]
    show tr1 I (204, Int32.ofNat c, nm, p) _ = _
    show (LT, ((tcal I (204, Int32.ofNat c, nm, p) (A.reverse ++ P) (omin mf mR)).1, p) :: (A.reverse ++ P).drop (Int32.ofNat c).toNatClampNeg, (tcal I (204, Int32.ofNat c, nm, p) (A.reverse ++ P) (omin mf mR)).2) = _
    rw [hdr]
  unfold tcal at htr
  simp only [mns_e] at htr
  cases hk : mnF I nm 2 with
  | none =>
    rw [hk] at g8 cA g1 htr
    simp only [↓reduceIte] at g1 g8 cA
    have c5 := CE_t cA g1
    have hM : mnM I nm 2 p = some p := by unfold mnM; rw [hk]
    rw [hM] at c5 htr u2
    refine ⟨_, _, omin mR (some p), 3, c5, by omega, okT_m (fun x hx => by cases hx; omega) (okT_m (okT_w g3 (by omega) (by omega)) (okT_w g4 (by omega) (by omega))), okT_m (okT_w g5 (by omega) (by omega)) (fun x hx => by cases hx; omega), fun P mf => ?_, fun hc => ?_⟩
    · rw [htr]
      simp only [omin_s]
    · obtain ⟨d1, d2, d3, d4, d5⟩ := g8 hc
      refine ⟨rfl, ?_, fun h0 => ?_, fun _ => rfl⟩
      · rw [d2, fitA_none, omin_r, d1, omin_c]
      · rw [omin_0] at h0
        cases h0.1
  | some kk =>
    rw [hk] at g8 cA g1 htr
    simp only [reduceCtorEq, if_false] at g1 g8 cA
    have hM : mnM I nm 2 p = none := by unfold mnM; rw [hk]
    simp only [hM, omin_r] at htr
    obtain ⟨hi, hkd, hlt⟩ := mnF_k hk
    obtain ⟨hform, hft, np, hnp, hpar, hpt⟩ := (hI kk hlt).2 hkd
    simp only [cend]
    have hw : CE (if Int32.ofNat c = (itA I kk).2.2.2.2.1 ∧ false = decide ((itA I kk).2.1 = 3) then S2 else wm true p S2) (cenS I true false kk c p S2) none 0 := CE_wnm
    have hcp : (Int32.ofNat c = (itA I kk).2.2.2.2.1) ↔ c = np := by rw [hpar]; exact oN_e (by omega) (by omega)
    have hcp' : ((itA I kk).2.2.2.2.1 = Int32.ofNat c) ↔ c = np := by rw [hpar, oN_e (by omega) (by omega)]; omega
    have hfalse : (false = decide ((itA I kk).2.1 = 3)) ↔ (itA I kk).2.1 = 2 := by
      rcases hform with h | h <;> rw [h] <;> decide
    have hf2 : (itA I kk).2.1 = (if (204 : Nat) = 204 then 2 else 3) ↔ (itA I kk).2.1 = 2 := by rw [if_pos rfl]
    by_cases hok : c = np ∧ (itA I kk).2.1 = 2
    · -- as many as wanted, and a function
      rw [if_pos ⟨hcp.mpr hok.1, hfalse.mpr hok.2⟩] at hw
      have c5 := CE_t g1 hw
      have hms := CE_ms c5 (by omega)
      have htc : ∀ mf, tcl1 I (204, Int32.ofNat c, nm, p) kk mf = (true, mf) := fun mf => by
        unfold tcl1
        exact if_pos ⟨hcp'.mpr hok.1, hok.2⟩
      simp only [htc, if_pos (hcp'.mpr hok.1), htk, mstA_1, mstA_2, Bool.true_and] at htr
      refine ⟨_, _, omin mR (fitP (itA I kk).2.2.2.2.2 A 0), if allB (itA I kk).2.2.2.2.2 A 0 = true then (itA I kk).2.2.2.1 else 3, c5, by omega, okT_m (okT_m (okT_w g3 (by omega) (by omega)) (okT_w g4 (by omega) (by omega))) okT_n, ?_, fun P mf => ?_, fun hc => ?_⟩
      · refine okT_m (okT_w g5 (by omega) (by omega)) ?_
        exact okT_w (fitP_T gp) (by omega) (by omega)
      · rw [htr]
        simp only [omin_s]
      · obtain ⟨d1, d2, d3, d4, d5⟩ := g8 hc
        have d2' := d2.trans (fitA_P hnp hpar (A := A) (j := 0) (by omega))
        have d1 := d1.symm
        subst d1
        rw [← d2']
        rw [omin_r] at hms ⊢
        have hp3 : ∀ j, j < A.length → (itA I kk).2.2.2.2.2 (0 + j) ≠ 3 := fun j hj => by
          rw [Nat.zero_add]
          rcases hpt j (by omega) with h | h <;> rw [h] <;> decide
        refine ⟨?_, rfl, fun h0 => ?_, fun h0 => ?_⟩
        · by_cases h0 : omin mO mF = none
          · rw [if_pos (hms.mpr h0)]
            rw [omin_0] at h0
            rw [if_pos (allB_y hp3 (d3 h0.1) (by rw [← d2']; exact h0.2))]
          · rw [if_neg (fun hh => h0 (hms.mp hh)), if_neg]
            intro hB
            obtain ⟨y1, y2⟩ := allB_n hp3 hB
            apply h0
            rw [omin_0]
            refine ⟨Decidable.byContradiction (fun hh => ?_), d2'.trans y2⟩
            obtain ⟨x, hx, h3⟩ := d4 hh
            exact y1 x hx h3
        · rw [if_pos (hms.mpr h0)]
          refine ⟨hft hok.2, ?_⟩
          rw [ers_a, ← d5 h0]
          show _ = wnm true 10 (itK I nm) S2
          rw [hi]
          unfold cenS
          rw [if_pos ⟨hcp.mpr hok.1, hfalse.mpr hok.2⟩]
        · rw [if_neg (fun hh => h0 (hms.mp hh))]
    · have hno : ¬ (Int32.ofNat c = (itA I kk).2.2.2.2.1 ∧ false = decide ((itA I kk).2.1 = 3)) := fun hh => hok ⟨hcp.mp hh.1, hfalse.mp hh.2⟩
      rw [if_neg hno] at hw
      have c5 := CE_t (CE_t g1 (CE_wm (S := S2) (pl := p) (by omega))) hw
      have hms := CE_ms c5 (by omega)
      have htc : ∀ mf, tcl1 I (204, Int32.ofNat c, nm, p) kk mf = (false, omin mf (some p)) := fun mf => by
        unfold tcl1
        exact if_neg (fun hh => hok ⟨hcp'.mp hh.1, hf2.mp hh.2⟩)
      simp only [htc, htk, mstA_1, mstA_2, Bool.false_and, Bool.false_eq_true, if_false] at htr
      have hOF : omin (omin (omin mO mF) (some p)) none = some p := by rw [omin_r, omin_p (okT_m (okT_w g3 (by omega) (Nat.le_refl q1)) (okT_w g4 (by omega) (Nat.le_refl q1)))]
      rw [hOF] at hms c5
      have hne : ¬ (cenS I true false kk c p S2).2.1 = S.2.1 := fun hh => by cases hms.mp hh
      rw [if_neg hne]
      by_cases hcn : c = np
      · simp only [if_pos (hcp'.mpr hcn)] at htr
        refine ⟨_, _, some p, 3, c5, by omega, fun x hx => by cases hx; omega, fun x hx => by cases hx; omega, fun P mf => ?_, fun hc => ⟨rfl, rfl, fun h0 => (by cases h0), fun _ => rfl⟩⟩
        rw [htr]
        have hT : okT (omin mR (fitP (itA I kk).2.2.2.2.2 A 0)) p q := okT_m (okT_w g5 (by omega) (by omega)) (okT_w (fitP_T gp) (by omega) (by omega))
        rw [omin_s, omin_s, omin_c (a := some p), ← omin_s (a := mR), omin_p hT]
      · simp only [if_neg (fun hh => hcn (hcp'.mp hh))] at htr
        refine ⟨_, _, some p, 3, c5, by omega, fun x hx => by cases hx; omega, fun x hx => by cases hx; omega, fun P mf => ?_, fun hc => ⟨rfl, rfl, fun h0 => (by cases h0), fun _ => rfl⟩⟩
        rw [htr, omin_s, omin_p (okT_w g5 (by omega) (Nat.le_refl q1))]
end MTZ
