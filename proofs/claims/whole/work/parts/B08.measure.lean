
/-! ===== it comes to an end ===== -/
def ridx : List Rw → Nat → Nat
  | [], _ => 0
  | x :: r, p => if ln1 x.1 ≤ p then ridx r (p - ln1 x.1) + 1 else 0
theorem ridx_a : ∀ {r1 r2 : List Rw}, ridx (r1 ++ r2) (lens r1) = r1.length + ridx r2 0
  | [], r2 => by show ridx r2 0 = _; simp
  | x :: r1, r2 => by
    show (if ln1 x.1 ≤ ln1 x.1 + lens r1 then ridx (r1 ++ r2) (ln1 x.1 + lens r1 - ln1 x.1) + 1 else 0) = _
    rw [if_pos (by omega), Nat.add_sub_cancel_left, ridx_a, List.length_cons]
    omega
theorem ridx_z : ∀ {r : List Rw}, ∀ i, i < ridx r 0 → ∃ y, r[i]? = some y ∧ ln1 y.1 = 0
  | [], i, h => by unfold ridx at h; omega
  | x :: r, i, h => by
    unfold ridx at h
    by_cases c : ln1 x.1 ≤ 0
    · rw [if_pos c, Nat.zero_sub] at h
      cases i with
      | zero => exact ⟨x, rfl, by omega⟩
      | succ i => exact ridx_z (r := r) i (by omega)
    · rw [if_neg c] at h; omega
theorem ridx_0 {x : Rw} {r : List Rw} (h : 1 ≤ ln1 x.1) : ridx (x :: r) 0 = 0 := by unfold ridx; rw [if_neg (by omega)]
theorem ridx_l : ∀ {r : List Rw} {p : Nat}, ridx r p ≤ r.length
  | [], _ => by unfold ridx; simp
  | x :: r, p => by
    unfold ridx
    have := ridx_l (r := r) (p := p - ln1 x.1)
    split
    · rw [List.length_cons]; omega
    · omega
section MEE
variable {As : List Ri} {I : List It} {Df : Nat → Nat → Nat} {k : Nat} {a : Ri} {LT : Nat → Int32} {r1 r2 : List Rw} {x : Rw} {s s' : Ms}
def dv (As : List Ri) (Df : Nat → Nat → Nat) (k : Nat) (a : Ri) (n : Nat) : Nat := if n + (ptl (riF a) (riT a)).length ≤ (riR a).length then Df k ((rwA (As.take k)).length + n) else 0
def pw (As : List Ri) (Df : Nat → Nat → Nat) (k p : Nat) : Nat := match As[k]? with
  | none => 0
  | some a => ((riR a).length - ridx (riR a) p) + 2000 * dv As Df k a (ridx (riR a) p)
/-- loops of all items -/
def DfO (As : List Ri) (Df : Nat → Nat → Nat) : Prop := ∀ k a, As[k]? = some a → 2 ≤ riF a → DJ As k a (Df k)
theorem DfO_ex (hL : LOf As I) : ∃ Df, DfO As Df := by
  have h : ∀ k, ∃ D, ∀ a, As[k]? = some a → 2 ≤ riF a → DJ As k a D := fun k => by
    cases ha : As[k]? with
    | none => exact ⟨fun _ => 0, fun a h => by cases h⟩
    | some a =>
      by_cases h2 : 2 ≤ riF a
      · obtain ⟨LT, fs⟩ := FS_of hL ha h2
        obtain ⟨D, hD⟩ := FS_DJ fs
        exact ⟨D, fun b hb _ => by cases hb; exact hD⟩
      · exact ⟨fun _ => 0, fun b hb h3 => by cases hb; exact absurd h3 h2⟩
  obtain ⟨Df, hf⟩ := Classical.skolem.mp h
  exact ⟨Df, hf⟩
theorem dv_s (hD : DJ As k a (Df k)) (h4 : riR a = r1 ++ x :: r2) : (x.1 ≠ 14 → x.1 ≠ 16 → dv As Df k a (r1.length + 1) ≤ dv As Df k a r1.length) ∧ (x.1 = 16 → dv As Df k a (r1.length + 1) ≤ dv As Df k a r1.length + 1) := by
  obtain ⟨r, hr, h0, hDD, hJ⟩ := hD
  have hl : (riR a).length = r.length + (ptl (riF a) (riT a)).length := by rw [hr, List.length_append]
  have hin : r1.length < r.length → r[r1.length]? = some x := fun hh => by
    have hg : (riR a)[r1.length]? = some x := by rw [h4, List.getElem?_append_right (Nat.le_refl _), Nat.sub_self]; rfl
    rw [hr, List.getElem?_append_left hh] at hg
    exact hg
  unfold dv
  by_cases hh : r1.length < r.length
  · have j1 := hJ _ _ (hin hh)
    rw [if_pos (by omega), if_pos (by omega), ← Nat.add_assoc]
    refine ⟨fun n14 n16 => ?_, fun h16 => j1.2.1 h16⟩
    by_cases h15 : x.1 = 15
    · exact (j1.2.2.1 h15).1
    · exact j1.1 n14 h15 n16
  · rw [if_neg (show ¬ r1.length + 1 + (ptl (riF a) (riT a)).length ≤ (riR a).length by omega)]
    exact ⟨fun _ _ => Nat.zero_le _, fun _ => Nat.zero_le _⟩
theorem dv_z (hD : DJ As k a (Df k)) : ∀ (z : Nat) (r1 r2 : List Rw), riR a = r1 ++ r2 → (∀ i, i < z → ∃ y, r2[i]? = some y ∧ ln1 y.1 = 0) → dv As Df k a (r1.length + z) ≤ dv As Df k a r1.length := by
  intro z
  induction z with
  | zero => intro r1 r2 _ _; exact Nat.le_refl _
  | succ z ih =>
    intro r1 r2 h4 hz
    obtain ⟨y, hy, h0⟩ := hz 0 (by omega)
    cases r2 with
    | nil => simp at hy
    | cons x r2 =>
      simp only [List.getElem?_cons_zero, Option.some.injEq] at hy
      subst hy
      have hx : x.1 ≠ 14 ∧ x.1 ≠ 16 := ⟨fun hh => by rw [hh] at h0; simp [ln1] at h0, fun hh => by rw [hh] at h0; simp [ln1] at h0⟩
      have h1 := (dv_s hD h4).1 hx.1 hx.2
      have h2 := ih (r1 ++ [x]) r2 (by rw [h4]; simp) (fun i hi => by
        have := hz (i + 1) (by omega)
        simp only [List.getElem?_cons_succ] at this
        exact this)
      rw [List.length_append, List.length_singleton] at h2
      rw [show r1.length + (z + 1) = r1.length + 1 + z by omega]
      omega
theorem pw_le (ha : As[k]? = some a) (hD : DJ As k a (Df k)) (h4 : riR a = r1 ++ r2) : pw As Df k (lens r1) ≤ ((riR a).length - r1.length) + 2000 * dv As Df k a r1.length := by
  unfold pw
  rw [ha]
  dsimp only
  have e : ridx (riR a) (lens r1) = r1.length + ridx r2 0 := by rw [h4]; exact ridx_a
  have h1 := dv_z hD (ridx r2 0) r1 r2 h4 ridx_z
  rw [e]
  omega
theorem pw_eq (ha : As[k]? = some a) (h4 : riR a = r1 ++ x :: r2) (hx : 1 ≤ ln1 x.1) : pw As Df k (lens r1) = ((riR a).length - r1.length) + 2000 * dv As Df k a r1.length := by
  unfold pw
  rw [ha]
  dsimp only
  have e : ridx (riR a) (lens r1) = r1.length := by rw [h4, ridx_a, ridx_0 hx]; rfl
  rw [e]
def sm : Nat → (Nat → Nat) → Nat
  | 0, _ => 0
  | n + 1, f => sm n f + f n
theorem sm_o {f g : Nat → Nat} : ∀ {n : Nat}, (∀ d, d < n → f d = g d) → sm n f = sm n g
  | 0, _ => rfl
  | n + 1, h => by rw [sm, sm, sm_o (fun d hd => h d (by omega)), h n (by omega)]
/-- how far it is to the end at most -/
def mu (As : List Ri) (Df : Nat → Nat → Nat) (s : Ms) : Nat := (3000 - zF s) * 4000 + sm (zD s + 1) (fun d => pw As Df (zw s d) (zP s d))
theorem mu_f (e0 : zD s' = zD s) (e1 : zw s' = zw s) {p : Nat} (e3 : zP s' = upN (zP s) (zD s) p) : mu As Df s' + pw As Df (zw s (zD s)) (zP s (zD s)) + (3000 - zF s) * 4000 = mu As Df s + pw As Df (zw s (zD s)) p + (3000 - zF s') * 4000 := by
  unfold mu
  rw [sm, sm]
  rw [e0, e1, e3, upN_s, sm_o (g := fun d => pw As Df (zw s d) (zP s d)) (fun d hd => by show pw As Df (zw s d) (upN (zP s) (zD s) p d) = _; rw [upN_o (by omega)])]
  omega
theorem zop_f {k' c j : Nat} {o : Int32} (hc : c ≠ 10 ∧ c ≠ 11 ∧ c ≠ 12 ∧ c ≠ 14 ∧ c ≠ 15 ∧ c ≠ 16) : zD (zop As k' c o j s) = zD s ∧ zw (zop As k' c o j s) = zw s ∧ zP (zop As k' c o j s) = zP s ∧ zF (zop As k' c o j s) = zF s := by
  by_cases c1 : c = 1
  · subst c1; exact ⟨rfl, rfl, rfl, rfl⟩
  by_cases c2 : c = 2
  · subst c2; exact ⟨rfl, rfl, rfl, rfl⟩
  by_cases c3 : c = 3
  · subst c3; exact ⟨rfl, rfl, rfl, rfl⟩
  by_cases c4 : c = 4
  · subst c4; exact ⟨rfl, rfl, rfl, rfl⟩
  by_cases c5 : c = 5
  · subst c5; exact ⟨rfl, rfl, rfl, rfl⟩
  by_cases c6 : c = 6
  · subst c6; exact ⟨rfl, rfl, rfl, rfl⟩
  by_cases c7 : c = 7
  · subst c7; exact ⟨rfl, rfl, rfl, rfl⟩
  by_cases c8 : c = 8
  · subst c8
    rw [zop_8]
    unfold zcel
    split <;> exact ⟨rfl, rfl, rfl, rfl⟩
  by_cases c9 : c = 9
  · subst c9
    rw [zop_9]
    unfold zset
    split <;> exact ⟨rfl, rfl, rfl, rfl⟩
  by_cases c13 : c = 13
  · subst c13; exact ⟨rfl, rfl, rfl, rfl⟩
  by_cases c17 : c = 17
  · subst c17
    rw [zop_17]
    split <;> exact ⟨rfl, rfl, rfl, rfl⟩
  by_cases c19 : c = 19
  · subst c19; exact ⟨rfl, rfl, rfl, rfl⟩
  by_cases c20 : c = 20
  · subst c20; exact ⟨rfl, rfl, rfl, rfl⟩
  have e : zop As k' c o j s = zbin c s := by
    unfold zop
    rw [if_neg (by omega), if_neg (by omega), if_neg (by omega), if_neg (by omega), if_neg (by omega), if_neg (by omega), if_neg (by omega), if_neg (by omega), if_neg (by omega), if_neg (by omega), if_neg (by omega), if_neg (by omega), if_neg (by omega), if_neg (by omega), if_neg (by omega), if_neg (by omega), if_neg (by omega), if_neg (by omega)]
  rw [e]
  unfold zbin
  split <;> exact ⟨rfl, rfl, rfl, rfl⟩
/-- every instruction brings it nearer -/
theorem mu_s {j : Nat} (hL : LOf As I) (hDf : DfO As Df) (hc : WTc As I s) (ht : TFr As I s a LT r1 (x :: r2)) (h6 : x.1 ≠ 206) (h8 : x.1 ≠ 208) (hj : 200 ≤ x.1 → x.1 ≤ 205 → itK I x.2.2.1 = some j) (hE : zE (zop As (zw s (zD s)) (opc x.1) (opx I As (zw s (zD s)) a r1 x) j (zA r1 x s)) = none) : mu As Df (zop As (zw s (zD s)) (opc x.1) (opx I As (zw s (zD s)) a r1 x) j (zA r1 x s)) < mu As Df s := by
  have hh := ht
  obtain ⟨t1, t2, t3, t4, t5, t6, t7⟩ := ht
  have hV := t1.1.2.2.1 x (by rw [t4]; simp)
  have ha := t1.1.1
  have hD := hDf _ a ha t1.1.2.1
  have c1500 := t1.1.2.2.2.2.2
  have hlen : (riR a).length = r1.length + (1 + r2.length) := by rw [t4, List.length_append, List.length_cons]; omega
  have hl1 : 1 ≤ ln1 x.1 := by
    have := (eb1_d (I := I) (J := jO As (zw s (zD s)) a) (N := ndl I r1 []) hV h6 h8 (t1.1.2.2.2.2.1 x (by rw [t4]; simp))).2.1
    omega
  have p0 := pw_eq (Df := Df) ha t4 hl1
  rw [← t5] at p0
  have hn : riR a = (r1 ++ [x]) ++ r2 := by rw [t4]; simp
  have p1 := pw_le ha hD hn
  rw [lens_a, show lens [x] = ln1 x.1 from rfl, List.length_append, List.length_singleton] at p1
  have d1 := dv_s hD t4
  by_cases hcc : opc x.1 ≠ 10 ∧ opc x.1 ≠ 11 ∧ opc x.1 ≠ 12 ∧ opc x.1 ≠ 14 ∧ opc x.1 ≠ 15 ∧ opc x.1 ≠ 16
  · obtain ⟨f1, f2, f3, f4⟩ := zop_f (As := As) (s := zA r1 x s) (k' := zw s (zD s)) (j := j) (o := opx I As (zw s (zD s)) a r1 x) hcc
    have hx : x.1 ≠ 14 ∧ x.1 ≠ 16 := ⟨fun hx => hcc.2.2.2.1 (by rw [hx]; rfl), fun hx => hcc.2.2.2.2.2 (by rw [hx]; rfl)⟩
    have m := mu_f (As := As) (Df := Df) (s := s) (p := lens r1 + ln1 x.1) f1 f2 f3
    rw [f4] at m
    have := d1.1 hx.1 hx.2
    have hF : zF (zA r1 x s) = zF s := rfl
    rw [hF] at m
    omega
  by_cases c10 : opc x.1 = 10
  · have hx : x.1 = 204 ∨ x.1 = 205 := by
      have hr := hV.2.2.2.2.1
      by_cases h : 200 ≤ x.1 ∧ x.1 ≤ 205
      · have h' : x.1 = 200 ∨ x.1 = 201 ∨ x.1 = 202 ∨ x.1 = 203 ∨ x.1 = 204 ∨ x.1 = 205 := by omega
        rcases h' with h' | h' | h' | h' | h' | h'
        · rw [h'] at c10; exact absurd c10 (by decide)
        · rw [h'] at c10; exact absurd c10 (by decide)
        · rw [h'] at c10; exact absurd c10 (by decide)
        · rw [h'] at c10; exact absurd c10 (by decide)
        · exact Or.inl h'
        · exact Or.inr h'
      · have := opc_o hV h6 h8 h
        omega
    rw [c10, zop_10] at hE ⊢
    unfold zcal at hE ⊢
    by_cases hF : zF (zA r1 x s) < 3000
    · have hF' : zF s < 3000 := hF
      rw [if_pos hF] at hE ⊢
      by_cases hDd : zD (zA r1 x s) < 20
      · rw [if_pos hDd] at hE ⊢
        obtain ⟨b, b1, b2, b3, b4, b5, b6, b7, b8, b9⟩ := FS_call hL t1 t4 hx (hj (by omega) (by omega))
        have hfb : 2 ≤ riF b := by rw [b3]; split <;> omega
        have hDb := hDf j b b1 hfb
        have cb := (CDO_of hL b1 hfb).2.2.2.2.2
        have pb := pw_le (Df := Df) (r1 := []) (r2 := riR b) b1 hDb rfl
        have d0 : dv As Df j b 0 = 0 := by
          obtain ⟨r, hr, _, hDD, _⟩ := hDb
          unfold dv
          rw [if_pos (by rw [hr, List.length_append]; omega), Nat.add_zero]
          exact hDD.1
        rw [show lens [] = 0 from rfl, List.length_nil, d0] at pb
        have d2 := d1.1 (by omega) (by omega)
        unfold mu
        show (3000 - (zF s + 1)) * 4000 + sm (zD s + 1 + 1) (fun d => pw As Df (upN (zw s) (zD s + 1) j d) (upN (upN (zP s) (zD s) (lens r1 + ln1 x.1)) (zD s + 1) 0 d)) < (3000 - zF s) * 4000 + sm (zD s + 1) (fun d => pw As Df (zw s d) (zP s d))
        rw [sm, sm, sm]
        rw [upN_s, upN_s, upN_o (show zD s ≠ zD s + 1 by omega), upN_o (show zD s ≠ zD s + 1 by omega), upN_s, sm_o (g := fun d => pw As Df (zw s d) (zP s d)) (fun d hd => by rw [upN_o (by omega), upN_o (by omega), upN_o (by omega)])]
        omega
      · rw [if_neg hDd] at hE
        exact absurd hE (by show (some 4 : Option Nat) ≠ none; simp)
    · rw [if_neg hF] at hE
      exact absurd hE (by show (some 3 : Option Nat) ≠ none; simp)
  by_cases c11 : opc x.1 = 11 ∨ opc x.1 = 12
  · have hx : x.1 = 11 ∨ x.1 = 12 := by
      have hr := hV.2.2.2.2.1
      by_cases h : 200 ≤ x.1 ∧ x.1 ≤ 205
      · have := opc_i h; omega
      · by_cases h7 : x.1 = 207
        · rw [h7] at c11; rcases c11 with c11 | c11 <;> exact absurd c11 (by decide)
        · rw [opc_s (by omega)] at c11; exact c11
    have h1D := (wz_leave (k := zw s (zD s)) (j := j) (o := opx I As (zw s (zD s)) a r1 x) hL hc hh hx).2
    rw [show zop As (zw s (zD s)) (opc x.1) (opx I As (zw s (zD s)) a r1 x) j (zA r1 x s) = zlv (zA r1 x s) by rcases hx with hx | hx <;> (rw [hx]; rfl)]
    obtain ⟨d, hd⟩ : ∃ d, zD s = d + 1 := ⟨zD s - 1, by omega⟩
    unfold mu
    show (3000 - zF s) * 4000 + sm (zD s - 1 + 1) (fun d => pw As Df (zw s d) (upN (zP s) (zD s) (lens r1 + ln1 x.1) d)) < (3000 - zF s) * 4000 + sm (zD s + 1) (fun d => pw As Df (zw s d) (zP s d))
    rw [show zD s - 1 + 1 = zD s by omega, sm, sm_o (g := fun d => pw As Df (zw s d) (zP s d)) (fun d hd => by rw [upN_o (by omega)])]
    omega
  have opn' : ∀ {c : Nat}, c < 200 → (c < 6 ∨ 10 < c) → c ≠ 5 → opc x.1 = c → x.1 = c := fun hc1 hc2 hc3 ho => by
    have hr := hV.2.2.2.2.1
    by_cases h : 200 ≤ x.1 ∧ x.1 ≤ 205
    · have := opc_i h; omega
    · by_cases h7 : x.1 = 207
      · rw [h7] at ho
        have : opc 207 = 5 := rfl
        omega
      · rw [opc_s (by omega)] at ho; exact ho
  by_cases c16 : opc x.1 = 16
  · have hx := opn' (by omega) (by omega) (by omega) c16
    rw [c16, zop_16] at hE ⊢
    unfold zbrn at hE ⊢
    by_cases hF : zF (zA r1 x s) < 3000
    · have hF' : zF s < 3000 := hF
      rw [if_pos hF]
      have m := mu_f (As := As) (Df := Df) (s := s) (s' := zbr (zA r1 x s)) (p := lens r1 + ln1 x.1) rfl rfl rfl
      have := d1.2 hx
      have e : zF (zbr (zA r1 x s)) = zF s + 1 := rfl
      rw [e] at m
      omega
    · rw [if_neg hF] at hE
      exact absurd hE (by show (some 3 : Option Nat) ≠ none; simp)
  have jmp : ∀ {c : Nat} (hx : x.1 = 14 ∨ x.1 = 15) (s' : Ms), zD s' = zD s → zw s' = zw s → zP s' = upN (upN (zP s) (zD s) (lens r1 + ln1 x.1)) (zD s) (opx I As (zw s (zD s)) a r1 x).toNatClampNeg → zF s' = zF s → mu As Df s' < mu As Df s := fun hx s' f1 f2 f3 f4 => by
    obtain ⟨T, r1', r2', g1, g1', g2, g3, g4, g5, g6, g7, g8, g9⟩ := jmp_at hL t1 hD t4 hx
    rw [(opx_j t1 hx g2 g7).2] at f3
    have f3' : zP s' = upN (zP s) (zD s) (lens r1') := by
      rw [f3]
      funext d
      by_cases hd : d = zD s
      · rw [hd, upN_s, upN_s]
      · rw [upN_o hd, upN_o hd, upN_o hd]
    have m := mu_f (As := As) (Df := Df) (s := s) f1 f2 f3'
    rw [f4] at m
    have pj := pw_le ha hD g2
    have hlj : (riR a).length = r1'.length + r2'.length := by rw [g2, List.length_append]
    have dT : dv As Df (zw s (zD s)) a r1'.length ≤ Df (zw s (zD s)) T := by
      unfold dv
      rw [← g5]
      split
      · exact Nat.le_refl _
      · exact Nat.zero_le _
    have dk : dv As Df (zw s (zD s)) a r1.length = Df (zw s (zD s)) ((rwA (As.take (zw s (zD s)))).length + r1.length) := by
      obtain ⟨r, hr, _, _, _⟩ := hD
      have := (st_in hr t4 (by omega)).1
      unfold dv
      rw [if_pos (by rw [hr, List.length_append]; omega)]
    have hr2 : 1 ≤ r2'.length := List.length_pos_iff.mpr g3
    by_cases hle : r1'.length ≤ r1.length
    · have := g8 hle
      omega
    · have := g9 (by omega)
      omega
  by_cases c14 : opc x.1 = 14
  · have hx := opn' (by omega) (by omega) (by omega) c14
    rw [c14, zop_14]
    exact jmp (c := 0) (Or.inl hx) _ rfl rfl rfl rfl
  · have c15 : opc x.1 = 15 := by omega
    have hx := opn' (by omega) (by omega) (by omega) c15
    rw [c15, zop_15]
    split
    · exact jmp (c := 0) (Or.inr hx) _ rfl rfl rfl rfl
    · have m := mu_f (As := As) (Df := Df) (s := s) (s' := zpop (zA r1 x s)) (p := lens r1 + ln1 x.1) rfl rfl rfl
      have := d1.1 (by omega) (by omega)
      have e : zF (zpop (zA r1 x s)) = zF s := rfl
      rw [e] at m
      omega
end MEE
