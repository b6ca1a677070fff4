/-! ===== types: the reference's pile, and the class's misfits ===== -/
def omin (a b : Option Nat) : Option Nat := match a, b with
  | none, b => b
  | some x, none => some x
  | some x, some y => some (min x y)
theorem omin_l {b : Option Nat} : omin none b = b := rfl
theorem omin_r {a : Option Nat} : omin a none = a := by cases a <;> rfl
theorem omin_c {a b : Option Nat} : omin a b = omin b a := by
  cases a <;> cases b <;> simp [omin, Nat.min_comm]
theorem omin_s {a b c : Option Nat} : omin (omin a b) c = omin a (omin b c) := by
  cases a <;> cases b <;> cases c <;> simp [omin, Nat.min_assoc]
theorem omin_0 {a b : Option Nat} : omin a b = none ↔ a = none ∧ b = none := by
  cases a <;> cases b <;> simp [omin]
def mfI (m : Option Nat) : Int32 := match m with | none => Int32.ofInt (-1) | some x => Int32.ofNat x
def okM (m : Option Nat) : Prop := ∀ x, m = some x → x < 2147483648
def okT (m : Option Nat) (p q : Nat) : Prop := ∀ x, m = some x → p ≤ x ∧ x < q
theorem okT_n {p q : Nat} : okT none p q := fun x h => by cases h
theorem okT_m {a b : Option Nat} {p q : Nat} (h1 : okT a p q) (h2 : okT b p q) : okT (omin a b) p q := by
  cases a with
  | none => exact h2
  | some x => cases b with
    | none => exact h1
    | some y =>
      intro z hz
      have a1 := h1 x rfl
      have a2 := h2 y rfl
      simp only [omin, Option.some.injEq] at hz
      omega
theorem okT_w {a : Option Nat} {p q p' q' : Nat} (h : okT a p q) (hp : p' ≤ p) (hq : q ≤ q') : okT a p' q' := fun x hx => by have := h x hx; omega
theorem okM_m {a b : Option Nat} (h1 : okM a) (h2 : okM b) : okM (omin a b) := by
  cases a with
  | none => exact h2
  | some x => cases b with
    | none => exact h1
    | some y =>
      intro z hz
      have a1 := h1 x rfl
      have a2 := h2 y rfl
      simp only [omin, Option.some.injEq] at hz
      omega
theorem okT_M {a : Option Nat} {p q : Nat} (h : okT a p q) (hq : q ≤ 2147483648) : okM a := fun x hx => by have := h x hx; omega
theorem wmm_e {pl : Nat} {m : Option Nat} (hm : okM m) (hp : pl < 2147483648) : wmm pl (mfI m) = mfI (omin m (some pl)) := by
  unfold wmm
  cases m with
  | none => rw [if_pos (show mfI none = Int32.ofInt (-1) from rfl)]; rfl
  | some x =>
    have hx := hm x rfl
    rw [if_neg (fun hh => by
      have := congrArg Int32.toInt hh
      simp only [mfI] at this
      rw [oN_i hx, show (Int32.ofInt (-1)).toInt = -1 from rfl] at this
      omega)]
    show (if Int32.ofNat pl < Int32.ofNat x then _ else _) = _
    by_cases h : pl < x
    · rw [if_pos ((oN_lt hp hx).mpr h)]
      simp only [omin, mfI]
      rw [Nat.min_eq_right (by omega)]
    · rw [if_neg (fun hh => h ((oN_lt hp hx).mp hh))]
      simp only [omin, mfI]
      rw [Nat.min_eq_left (by omega)]
/-- what a piece does to the class's misfits -/
def CE (S S' : St) (mm : Option Nat) (k : Nat) : Prop := (∀ mf, okM mf → S.1 = mfI mf → S'.1 = mfI (omin mf mm)) ∧ S'.2.1 = S.2.1 + Int32.ofNat k ∧ (k = 0 ↔ mm = none) ∧ okM mm
theorem CE_0 {S S' : St} (h1 : S'.1 = S.1) (h2 : S'.2.1 = S.2.1) : CE S S' none 0 := ⟨fun mf _ h => by rw [h1, h, omin_r], by rw [h2]; simp, by simp, fun x hx => by cases hx⟩
theorem CE_t {S S1 S2 : St} {m1 m2 : Option Nat} {k1 k2 : Nat} (h1 : CE S S1 m1 k1) (h2 : CE S1 S2 m2 k2) : CE S S2 (omin m1 m2) (k1 + k2) := by
  obtain ⟨a1, a2, a3, a4⟩ := h1
  obtain ⟨b1, b2, b3, b4⟩ := h2
  refine ⟨fun mf hm h => ?_, ?_, ?_, okM_m a4 b4⟩
  · rw [← omin_s]
    exact b1 _ (okM_m hm a4) (a1 mf hm h)
  · rw [b2, a2, Int32.add_assoc, oN_a]
  · rw [omin_0, ← a3, ← b3]; omega
theorem CE_wm {S : St} {pl : Nat} (hp : pl < 2147483648) : CE S (wm true pl S) (some pl) 1 := by
  unfold wm
  rw [if_pos rfl]
  exact ⟨fun mf hm h => by rw [h]; exact wmm_e hm hp, rfl, by simp, fun x hx => by cases hx; exact hp⟩
def fl (a b : Int32) (pl : Nat) : Option Nat := if a = 3 then none else if b = 3 then none else if a = b then none else some pl
theorem fl_T {a b : Int32} {pl p q : Nat} (h1 : p ≤ pl) (h2 : pl < q) : okT (fl a b pl) p q := by
  unfold fl
  intro x hx
  split at hx
  · cases hx
  · split at hx
    · cases hx
    · split at hx
      · cases hx
      · cases hx; exact ⟨h1, h2⟩
theorem fl_0 {a b : Int32} {pl : Nat} (ha : a ≠ 3) (hb : b ≠ 3) : fl a b pl = none ↔ a = b := by
  unfold fl
  rw [if_neg ha, if_neg hb]
  by_cases h : a = b
  · rw [if_pos h]; simp [h]
  · rw [if_neg h]; simp [h]
def fk (m : Option Nat) : Nat := match m with | none => 0 | some _ => 1
theorem fk_1 {m : Option Nat} : fk m ≤ 1 := by cases m <;> simp [fk]
theorem CE_wf {S : St} {a b : Int32} {pl : Nat} (hp : pl < 2147483648) : CE S (wf true a b pl S) (fl a b pl) (fk (fl a b pl)) := by
  unfold wf fl
  by_cases h1 : a = 3
  · rw [if_pos h1, if_pos h1]; exact CE_0 rfl rfl
  · rw [if_neg h1, if_neg h1]
    by_cases h2 : b = 3
    · rw [if_pos h2, if_pos h2]; exact CE_0 rfl rfl
    · rw [if_neg h2, if_neg h2]
      by_cases h3 : a = b
      · rw [if_pos h3, if_pos h3]; exact CE_0 rfl rfl
      · rw [if_neg h3, if_neg h3]
        exact CE_wm hp
theorem wf_0 {S : St} {a b : Int32} {pl : Nat} (h : fl a b pl = none) : wf true a b pl S = S := by
  unfold fl at h
  unfold wf
  split at h
  · rename_i h1; rw [if_pos h1]
  · rename_i h1
    rw [if_neg h1]
    split at h
    · rename_i h2; rw [if_pos h2]
    · rename_i h2
      rw [if_neg h2]
      split at h
      · rename_i h3; rw [if_pos h3]
      · cases h
theorem w1_mf {x : Int32} {S : St} : (w1 x S).1 = S.1 ∧ (w1 x S).2.1 = S.2.1 := by
  unfold w1
  split <;> exact ⟨rfl, rfl⟩
theorem wn_mf {x : Int32} : ∀ {k j : Nat} {S : St}, (wn x k j S).1 = S.1 ∧ (wn x k j S).2.1 = S.2.1
  | 0, _, _ => ⟨rfl, rfl⟩
  | k + 1, j, S => by
    unfold wn
    have h1 := wn_mf (x := x) (k := k) (j := j + 1) (S := w1 (bt x (Int32.ofNat j)) S)
    have h2 := w1_mf (x := bt x (Int32.ofNat j)) (S := S)
    exact ⟨h1.1.trans h2.1, h1.2.trans h2.2⟩
theorem CE_wn {x : Int32} {k j : Nat} {S : St} : CE S (wn x k j S) none 0 := CE_0 wn_mf.1 wn_mf.2
theorem CE_wr {x : Int32} {k : Nat} {S : St} : CE S (wr true x k S) none 0 := by unfold wr; rw [if_pos rfl]; exact CE_wn
theorem CE_wnm {c : Int32} {r : Option Nat} {S : St} : CE S (wnm true c r S) none 0 := by
  unfold wnm
  rw [if_pos rfl]
  cases r with
  | none => exact CE_0 rfl rfl
  | some x => exact CE_0 (wn_mf.1.trans wn_mf.1) (wn_mf.2.trans wn_mf.2)
theorem CE_ms {S S' : St} {mm : Option Nat} {k : Nat} (h : CE S S' mm k) (hk : k < 2147483648) : S'.2.1 = S.2.1 ↔ mm = none := by
  rw [← h.2.2.1, h.2.1]
  constructor
  · intro hh
    have h2 : Int32.ofNat k = Int32.ofNat 0 := by
      have := congrArg (fun y => y - S.2.1) hh
      simp only [Int32.sub_self] at this
      rw [Int32.add_comm, Int32.add_sub_cancel] at this
      exact this
    exact (oN_e hk (by omega)).mp h2
  · intro hh; rw [hh]; simp
/-! the reference's types: local types, pile (top first), misfit -/
abbrev T3 := (Nat → Int32) × List (Int32 × Nat) × Option Nat
def mstB (x due : Int32) : Bool := decide (x = due) || decide (due = 3)
def mns (I : List It) (nm : List Nat) (kd : Int32) (pl : Nat) (mf : Option Nat) : Option Nat × Option Nat := match itK I nm with
  | none => (none, omin mf (some pl))
  | some k => if (itA I k).2.2.1 = kd then (some k, mf) else (none, omin mf (some pl))
def mstA : List (Int32 × Nat) → (Nat → Int32) → Nat → Option Nat → Bool × Option Nat
  | [], _, _, mf => (true, mf)
  | a :: A, pt, k, mf => (mstB a.1 (pt k) && (mstA A pt (k + 1) (omin mf (fl a.1 (pt k) a.2))).1, (mstA A pt (k + 1) (omin mf (fl a.1 (pt k) a.2))).2)
/-- the call's own: is it good, the misfit -/
def tcl1 (I : List It) (x : Rw) (k : Nat) (mf : Option Nat) : Bool × Option Nat := if (itA I k).2.2.2.2.1 = x.2.1 ∧ (itA I k).2.1 = (if x.1 = 204 then 2 else 3) then (true, mf) else (false, omin mf (some x.2.2.2))
def tcal (I : List It) (x : Rw) (P : List (Int32 × Nat)) (mf : Option Nat) : Int32 × Option Nat := match (mns I x.2.2.1 2 x.2.2.2 mf).1 with
  | none => (3, (mns I x.2.2.1 2 x.2.2.2 mf).2)
  | some k => if (itA I k).2.2.2.2.1 = x.2.1 then (if ((tcl1 I x k mf).1 && (mstA (P.take x.2.1.toNatClampNeg).reverse (itA I k).2.2.2.2.2 0 (tcl1 I x k mf).2).1) = true then (itA I k).2.2.2.1 else 3, (mstA (P.take x.2.1.toNatClampNeg).reverse (itA I k).2.2.2.2.2 0 (tcl1 I x k mf).2).2) else (3, (tcl1 I x k mf).2)
def tun (d : Int32) (pl : Nat) (s : T3) : T3 := match s.2.1 with
  | a :: P => (s.1, (if mstB a.1 d = true then d else 3, pl) :: P, omin s.2.2 (fl a.1 d a.2))
  | [] => s
def tbi (op : Nat) (s : T3) : T3 := match s.2.1 with
  | b :: a :: P =>
    if op = 23 ∨ op = 24 then (s.1, (if a.1 ≠ 3 ∧ mstB b.1 a.1 = true ∧ b.1 ≠ 3 then 1 else 3, a.2) :: P, omin s.2.2 (fl b.1 a.1 b.2))
    else (s.1, (if mstB a.1 (if op ≤ 22 then 1 else 0) = true ∧ mstB b.1 (if op ≤ 22 then 1 else 0) = true ∧ b.1 ≠ 3 then (if 27 ≤ op then 0 else 1) else 3, a.2) :: P, omin (omin s.2.2 (fl a.1 (if op ≤ 22 then 1 else 0) a.2)) (fl b.1 (if op ≤ 22 then 1 else 0) b.2))
  | _ => s
def tcel (I : List It) (x : Rw) (s : T3) : T3 := match s.2.1 with
  | a :: P => (s.1, (if (mns I x.2.2.1 1 x.2.2.2 (omin s.2.2 (fl a.1 0 a.2))).1 ≠ none ∧ mstB a.1 0 = true then 0 else 3, x.2.2.2) :: P, (mns I x.2.2.1 1 x.2.2.2 (omin s.2.2 (fl a.1 0 a.2))).2)
  | [] => (s.1, [], (mns I x.2.2.1 1 x.2.2.2 s.2.2).2)
def tpar (pl : Nat) (s : T3) : T3 := match s.2.1 with
  | a :: P => (s.1, (a.1, pl) :: P, s.2.2)
  | [] => s
/-- one raw step of an expression -/
def tr1 (I : List It) (x : Rw) (s : T3) : T3 :=
  if x.1 = 1 then (s.1, (0, x.2.2.2) :: s.2.1, s.2.2)
  else if x.1 = 2 ∨ x.1 = 3 then (s.1, (1, x.2.2.2) :: s.2.1, s.2.2)
  else if x.1 = 4 then (s.1, (s.1 x.2.1.toNatClampNeg, x.2.2.2) :: s.2.1, s.2.2)
  else if x.1 = 200 then (s.1, (tyO I (mns I x.2.2.1 0 x.2.2.2 s.2.2).1, x.2.2.2) :: s.2.1, (mns I x.2.2.1 0 x.2.2.2 s.2.2).2)
  else if x.1 = 202 then tcel I x s
  else if x.1 = 204 then (s.1, ((tcal I x s.2.1 s.2.2).1, x.2.2.2) :: s.2.1.drop x.2.1.toNatClampNeg, (tcal I x s.2.1 s.2.2).2)
  else if x.1 = 206 then tpar x.2.2.2 s
  else if x.1 = 19 then tun 0 x.2.2.2 s
  else if x.1 = 20 then tun 1 x.2.2.2 s
  else tbi x.1 s
def trs (I : List It) : List Rw → T3 → T3
  | [], s => s
  | x :: r, s => trs I r (tr1 I x s)
theorem trs_a {I : List It} : ∀ {r1 r2 : List Rw} {s : T3}, trs I (r1 ++ r2) s = trs I r2 (trs I r1 s)
  | [], _, _ => rfl
  | x :: r1, r2, s => by
    show trs I (r1 ++ r2) _ = _
    rw [trs_a]
    rfl
/-- the bytes of a raw step of an expression -/
def er (I : List It) (x : Rw) (S : St) : St :=
  if x.1 = 1 then wn x.2.1 4 0 (wn 1 1 0 S)
  else if x.1 = 4 then wn x.2.1 1 0 (wn 4 1 0 S)
  else if x.1 = 200 then wnm true 6 (itK I x.2.2.1) S
  else if x.1 = 202 then wnm true 8 (itK I x.2.2.1) S
  else if x.1 = 204 then wnm true 10 (itK I x.2.2.1) S
  else if x.1 = 206 then S
  else wn (Int32.ofNat x.1) 1 0 S
def ers (I : List It) : List Rw → St → St
  | [], S => S
  | x :: r, S => ers I r (er I x S)
theorem ers_a {I : List It} : ∀ {r1 r2 : List Rw} {S : St}, ers I (r1 ++ r2) S = ers I r2 (ers I r1 S)
  | [], _, _ => rfl
  | x :: r1, r2, s => by
    show ers I (r1 ++ r2) _ = _
    rw [ers_a]
    rfl
/-- locals with types, items with types -/
def LTc (L : List (List Nat)) (LT : Nat → Int32) : Prop := ∀ j, j < L.length → LT j = 0 ∨ LT j = 1
def IC (I : List It) : Prop := ∀ k, k < I.length → ((itA I k).2.2.1 = 0 → (itA I k).2.2.2.1 = 0 ∨ (itA I k).2.2.2.1 = 1) ∧ ((itA I k).2.2.1 = 2 → ((itA I k).2.1 = 2 ∨ (itA I k).2.1 = 3) ∧ ((itA I k).2.1 = 2 → (itA I k).2.2.2.1 = 0 ∨ (itA I k).2.2.2.1 = 1) ∧ ∃ np : Nat, np ≤ 4 ∧ (itA I k).2.2.2.2.1 = Int32.ofNat np ∧ ∀ j, j < np → (itA I k).2.2.2.2.2 j = 0 ∨ (itA I k).2.2.2.2.2 j = 1)
/-- the class and the reference on one piece of an expression -/
def TY (L : List (List Nat)) (LT : Nat → Int32) (I : List It) (S0 : St) (r : List Rw) (p q : Nat) (a : Int32) (S' : St) : Prop := ∃ mm k mR a', CE S0 S' mm k ∧ k + 1 ≤ 2 * (q - p) ∧ okT mm p q ∧ okT mR p q ∧ (∀ P mf, trs I r (LT, P, mf) = (LT, (a', p) :: P, omin mf mR)) ∧ (LTc L LT → a' = a ∧ mR = mm ∧ (mm = none → (a = 0 ∨ a = 1) ∧ S' = ers I r S0) ∧ (mm ≠ none → a = 3))
section MTY
variable {L : List (List Nat)} {LT : Nat → Int32} {I : List It}
theorem omin_4 {a b c d : Option Nat} : omin (omin (omin a b) c) d = omin (omin (omin a c) b) d := by
  rw [omin_s (a := a) (b := b), omin_c (a := b), ← omin_s]
theorem mstB_3 {x d : Int32} (hd : d ≠ 3) : mstB x d = true ↔ x = d := by
  unfold mstB
  simp [hd]
theorem er_b {k p : Nat} {S : St} : er I (cod k, 0, [], p) S = wn (Int32.ofNat (cod k)) 1 0 S := by
  have hcb := cod_bd k
  show (if cod k = 1 then _ else _) = _
  rw [if_neg (by omega)]
  show (if cod k = 4 then _ else _) = _
  rw [if_neg (by omega)]
  show (if cod k = 200 then _ else _) = _
  rw [if_neg (by omega)]
  show (if cod k = 202 then _ else _) = _
  rw [if_neg (by omega)]
  show (if cod k = 204 then _ else _) = _
  rw [if_neg (by omega)]
  show (if cod k = 206 then _ else _) = _
  rw [if_neg (by omega)]
theorem chS_e {k p : Nat} {wt ty : Int32} {S : St} (h : fl ty wt p = none) : chS true k wt ty p S = wn (Int32.ofNat (cod k)) 1 0 S := by
  unfold chS
  rw [wf_0 h]
  rfl
/-- a leaf -/
theorem TY_1 {S S' : St} {x : Rw} {p q : Nat} {a : Int32} (hq : p < q) (h1 : CE S S' none 0) (h2 : ∀ P mf, tr1 I x (LT, P, mf) = (LT, (a, p) :: P, mf)) (h3 : LTc L LT → a = 0 ∨ a = 1) (h4 : S' = er I x S) : TY L LT I S [x] p q a S' :=
  ⟨none, 0, none, a, h1, by omega, okT_n, okT_n, fun P mf => by rw [omin_r]; exact h2 P mf, fun hc => ⟨rfl, rfl, fun _ => ⟨h3 hc, h4⟩, fun h => absurd rfl h⟩⟩
/-- two parts and a sign -/
theorem TY_b {S0 S1 S3 : St} {r1 r2 : List Rw} {p0 p p2 q k : Nat} {ty ty2 : Int32} (hp : p0 < p) (hp2 : p < p2) (hq : p2 < q) (hq2 : q ≤ 2000) (h1 : TY L LT I S0 r1 p0 p ty S1) (h2 : TY L LT I (wf true ty (wtd k ty) p0 S1) r2 p2 q ty2 S3) : TY L LT I S0 (r1 ++ r2 ++ [(cod k, 0, [], p)]) p0 q (chT k S0.2.1 (chS true k (wtd k ty) ty2 p2 S3)) (chS true k (wtd k ty) ty2 p2 S3) := by
  obtain ⟨m1, k1, mR1, a1, c1, b1, o1, oR1, t1, l1⟩ := h1
  obtain ⟨m2, k2, mR2, a2, c2, b2, o2, oR2, t2, l2⟩ := h2
  have f1 := CE_wf (S := S1) (a := ty) (b := wtd k ty) (pl := p0) (by omega)
  have f2 := CE_wf (S := S3) (a := ty2) (b := wtd k ty) (pl := p2) (by omega)
  have hw : CE (wf true ty2 (wtd k ty) p2 S3) (chS true k (wtd k ty) ty2 p2 S3) none 0 := CE_wr
  have c5 := CE_t (CE_t (CE_t (CE_t c1 f1) c2) f2) hw
  have hcb := cod_bd k
  have u1 := fk_1 (m := fl ty (wtd k ty) p0)
  have u2 := fk_1 (m := fl ty2 (wtd k ty) p2)
  have hms := CE_ms c5 (by omega)
  have tr : ∀ P mf, trs I (r1 ++ r2 ++ [(cod k, 0, [], p)]) (LT, P, mf) = tbi (cod k) (LT, (a2, p2) :: (a1, p0) :: P, omin (omin mf mR1) mR2) := fun P mf => by
    rw [trs_a, trs_a, t1, t2]
    show tr1 I (cod k, 0, [], p) _ = _
    unfold tr1
    simp only []
    rw [if_neg (by omega), if_neg (by omega), if_neg (by omega), if_neg (by omega), if_neg (by omega), if_neg (by omega), if_neg (by omega), if_neg (by omega), if_neg (by omega)]
  unfold tbi at tr
  simp only [] at tr
  by_cases hE : cod k = 23 ∨ cod k = 24
  · simp only [if_pos hE] at tr
    have hwt : wtd k ty = ty := by unfold wtd; rw [if_pos hE]
    have hf1 : fl ty (wtd k ty) p0 = none := by rw [hwt]; unfold fl; simp
    refine ⟨_, _, omin (omin mR1 mR2) (fl a2 a1 p2), (if a1 ≠ 3 ∧ mstB a2 a1 = true ∧ a2 ≠ 3 then 1 else 3), c5, by omega, ?_, ?_, fun P mf => ?_, fun hc => ?_⟩
    · exact okT_m (okT_m (okT_m (okT_m (okT_w o1 (by omega) (by omega)) (fl_T (by omega) (by omega))) (okT_w o2 (by omega) (by omega))) (fl_T (by omega) (by omega))) okT_n
    · exact okT_m (okT_m (okT_w oR1 (by omega) (by omega)) (okT_w oR2 (by omega) (by omega))) (fl_T (by omega) (by omega))
    · rw [tr]
      simp only [omin_s]
    · obtain ⟨e1, e2, e3, e4⟩ := l1 hc
      obtain ⟨e5, e6, e7, e8⟩ := l2 hc
      subst e1 e5
      have e2 := e2.symm
      have e6 := e6.symm
      subst e2 e6
      have hmm : omin (omin (omin (omin m1 (fl a1 (wtd k a1) p0)) m2) (fl a2 (wtd k a1) p2)) none = omin (omin m1 m2) (fl a2 a1 p2) := by rw [hf1, omin_r, omin_r, hwt]
      rw [hmm] at hms ⊢
      refine ⟨?_, rfl, fun h0 => ?_, fun h0 => ?_⟩
      · unfold chT
        by_cases h0 : omin (omin m1 m2) (fl a2 a1 p2) = none
        · rw [if_pos (hms.mpr h0)]
          rw [omin_0, omin_0] at h0
          obtain ⟨⟨z1, z2⟩, z3⟩ := h0
          have y1 := (e3 z1).1
          have y2 := (e7 z2).1
          have n1 : a1 ≠ 3 := by rcases y1 with h | h <;> rw [h] <;> decide
          have n2 : a2 ≠ 3 := by rcases y2 with h | h <;> rw [h] <;> decide
          have e12 := (fl_0 n2 n1).mp z3
          rw [if_pos ⟨n1, (mstB_3 n1).mpr e12, n2⟩, if_neg (by omega)]
        · rw [if_neg (fun hh => h0 (hms.mp hh))]
          rw [if_neg]
          rintro ⟨n1, g2, n2⟩
          apply h0
          have z1 : m1 = none := Decidable.byContradiction (fun hh => n1 (e4 hh))
          have z2 : m2 = none := Decidable.byContradiction (fun hh => n2 (e8 hh))
          rw [z1, z2, omin_l, omin_l, fl_0 n2 n1]
          exact (mstB_3 n1).mp g2
      · have h0' := h0
        rw [omin_0, omin_0] at h0
        obtain ⟨⟨z1, z2⟩, z3⟩ := h0
        constructor
        · unfold chT
          rw [if_pos (hms.mpr h0'), if_neg (by omega)]
          exact Or.inr rfl
        · rw [ers_a, ers_a, ← (e3 z1).2]
          have w1 := wf_0 (S := S1) hf1
          have s3 := (e7 z2).2
          rw [w1] at s3
          rw [← s3]
          show _ = er I (cod k, 0, [], p) S3
          rw [er_b, chS_e (by rw [hwt]; exact z3)]
      · unfold chT
        rw [if_neg (fun hh => h0 (hms.mp hh))]
  · simp only [if_neg hE] at tr
    have hwt : wtd k ty = if cod k ≤ 22 then 1 else 0 := by
      unfold wtd
      rw [if_neg hE]
      by_cases h : 22 < cod k
      · rw [if_pos h, if_neg (by omega)]
      · rw [if_neg h, if_pos (by omega)]
    have hd3 : (if cod k ≤ 22 then (1 : Int32) else 0) ≠ 3 := by split <;> decide
    rw [hwt] at c5 hms f1 f2 c2 u1 u2 ⊢
    generalize hd : (if cod k ≤ 22 then (1 : Int32) else 0) = dd at tr c5 hms hd3 hwt f1 f2 c2 u1 u2 ⊢
    refine ⟨_, _, omin (omin (omin mR1 mR2) (fl a1 dd p0)) (fl a2 dd p2), (if mstB a1 dd = true ∧ mstB a2 dd = true ∧ a2 ≠ 3 then (if 27 ≤ cod k then 0 else 1) else 3), c5, by omega, ?_, ?_, fun P mf => ?_, fun hc => ?_⟩
    · exact okT_m (okT_m (okT_m (okT_m (okT_w o1 (by omega) (by omega)) (fl_T (by omega) (by omega))) (okT_w o2 (by omega) (by omega))) (fl_T (by omega) (by omega))) okT_n
    · exact okT_m (okT_m (okT_m (okT_w oR1 (by omega) (by omega)) (okT_w oR2 (by omega) (by omega))) (fl_T (by omega) (by omega))) (fl_T (by omega) (by omega))
    · rw [tr]
      simp only [omin_s]
    · obtain ⟨e1, e2, e3, e4⟩ := l1 hc
      obtain ⟨e5, e6, e7, e8⟩ := l2 hc
      subst e1 e5
      have e2 := e2.symm
      have e6 := e6.symm
      subst e2 e6
      have hmm : omin (omin (omin (omin m1 (fl a1 dd p0)) m2) (fl a2 dd p2)) none = omin (omin (omin m1 m2) (fl a1 dd p0)) (fl a2 dd p2) := by rw [omin_r, omin_4]
      rw [hmm] at hms ⊢
      refine ⟨?_, rfl, fun h0 => ?_, fun h0 => ?_⟩
      · unfold chT
        by_cases h0 : omin (omin (omin m1 m2) (fl a1 dd p0)) (fl a2 dd p2) = none
        · rw [if_pos (hms.mpr h0)]
          rw [omin_0, omin_0, omin_0] at h0
          obtain ⟨⟨⟨z1, z2⟩, z3⟩, z4⟩ := h0
          have y1 := (e3 z1).1
          have y2 := (e7 z2).1
          have n1 : a1 ≠ 3 := by rcases y1 with h | h <;> rw [h] <;> decide
          have n2 : a2 ≠ 3 := by rcases y2 with h | h <;> rw [h] <;> decide
          rw [if_pos ⟨(mstB_3 hd3).mpr ((fl_0 n1 hd3).mp z3), (mstB_3 hd3).mpr ((fl_0 n2 hd3).mp z4), n2⟩]
          rfl
        · rw [if_neg (fun hh => h0 (hms.mp hh))]
          rw [if_neg]
          rintro ⟨g1, g2, n2⟩
          apply h0
          rw [mstB_3 hd3] at g1 g2
          have n1 : a1 ≠ 3 := by rw [g1]; exact hd3
          have z1 : m1 = none := Decidable.byContradiction (fun hh => n1 (e4 hh))
          have z2 : m2 = none := Decidable.byContradiction (fun hh => n2 (e8 hh))
          rw [z1, z2, omin_l, omin_l, omin_0, fl_0 n2 hd3, fl_0 n1 hd3]
          exact ⟨g1, g2⟩
      · have h0' := h0
        rw [omin_0, omin_0, omin_0] at h0
        obtain ⟨⟨⟨z1, z2⟩, z3⟩, z4⟩ := h0
        constructor
        · unfold chT
          rw [if_pos (hms.mpr h0')]
          split
          · exact Or.inl rfl
          · exact Or.inr rfl
        · rw [ers_a, ers_a, ← (e3 z1).2]
          have w1 := wf_0 (S := S1) z3
          have s3 := (e7 z2).2
          rw [hwt, w1] at s3
          rw [← s3]
          show _ = er I (cod k, 0, [], p) S3
          rw [er_b, chS_e z4]
      · unfold chT
        rw [if_neg (fun hh => h0 (hms.mp hh))]
end MTY
