
/-! ===== runs of the machine, both sides ===== -/
def ZS (As : List Ri) (I : List It) (s s' : Ms) : Prop := ∃ a LT r1 x r2 j, TFr As I s a LT r1 (x :: r2) ∧ x.1 ≠ 206 ∧ x.1 ≠ 208 ∧ (200 ≤ x.1 → x.1 ≤ 205 → itK I x.2.2.1 = some j) ∧ s' = zop As (zw s (zD s)) (opc x.1) (opx I As (zw s (zD s)) a r1 x) j (zA r1 x s)
def ZR (As : List Ri) (I : List It) : Nat → Ms → Ms → Prop
  | 0, s, s' => s' = s
  | n + 1, s, s' => zE s = none ∧ WTc As I s ∧ ∃ s1, ZS As I s s1 ∧ ZR As I n s1 s'
section MRU
variable {As : List Ri} {I : List It} {s s' : Ms} {Df : Nat → Nat → Nat}
theorem zs_ex (hL : LOf As I) (hDf : DfO As Df) (hw : WT As I s) : ∃ s', ZS As I s s' ∧ WZ As I s' ∧ (zE s' = none → mu As Df s' < mu As Df s) := by
  obtain ⟨hc, a, LT, r1, r2, ht, hne⟩ := hw
  obtain ⟨r1', x, r2', g1, g2, g3, g4, g5⟩ := FS_nrm hL ht.1 r2 r1 ht.2.2.2.1 hne
  have ht' : TFr As I s a LT r1' (x :: r2') := by
    obtain ⟨h1, h2, h3, h4, h5, h6, h7⟩ := ht
    exact ⟨h1, h2, h3, g1, by rw [g4]; exact h5, by rw [g5]; exact h6, by rw [g5]; exact h7⟩
  have hj : ∃ j, 200 ≤ x.1 → x.1 ≤ 205 → itK I x.2.2.1 = some j := by
    by_cases h : 200 ≤ x.1 ∧ x.1 ≤ 205
    · obtain ⟨j, hj, _⟩ := ht.1.1.2.2.2.1 x (by rw [g1]; simp) h.1 h.2
      exact ⟨j, fun _ _ => hj⟩
    · exact ⟨0, fun h1 h2 => absurd ⟨h1, h2⟩ h⟩
  obtain ⟨j, hj⟩ := hj
  exact ⟨_, ⟨a, LT, r1', x, r2', j, ht', g2, g3, hj, rfl⟩, wz_step hL hc ht' g2 g3 hj, mu_s hL hDf hc ht' g2 g3 hj⟩
/-- it comes to its end -/
theorem zr_end (hL : LOf As I) (hDf : DfO As Df) : ∀ (m : Nat) (s : Ms), mu As Df s ≤ m → WT As I s → zE s = none → ∃ n s', n ≤ m + 1 ∧ ZR As I n s s' ∧ WZ As I s' ∧ zE s' ≠ none := by
  intro m
  induction m with
  | zero =>
    intro s hm hw hE
    obtain ⟨s1, z1, z2, z3⟩ := zs_ex hL hDf hw
    by_cases h : zE s1 = none
    · have := z3 h; omega
    · exact ⟨1, s1, by omega, ⟨hE, hw.1, s1, z1, rfl⟩, z2, h⟩
  | succ m ih =>
    intro s hm hw hE
    obtain ⟨s1, z1, z2, z3⟩ := zs_ex hL hDf hw
    by_cases h : zE s1 = none
    · obtain ⟨n, s', q1, q2, q3, q4⟩ := ih s1 (by have := z3 h; omega) (z2.2 h) h
      exact ⟨n + 1, s', by omega, ⟨hE, hw.1, s1, z1, q2⟩, q3, q4⟩
    · exact ⟨1, s1, by omega, ⟨hE, hw.1, s1, z1, rfl⟩, z2, h⟩
/-- so many steps, or to the end -/
theorem zr_n (hL : LOf As I) : ∀ (m : Nat) (s : Ms), WZ As I s → ∃ n s', n ≤ m ∧ ZR As I n s s' ∧ WZ As I s' ∧ (n = m ∨ zE s' ≠ none) := by
  obtain ⟨Df, hDf⟩ := DfO_ex hL
  intro m
  induction m with
  | zero => exact fun s hw => ⟨0, s, Nat.le_refl _, rfl, hw, Or.inl rfl⟩
  | succ m ih =>
    intro s hw
    by_cases hE : zE s = none
    · have w := hw.2 hE
      obtain ⟨s1, z1, z2, _⟩ := zs_ex hL hDf w
      obtain ⟨n, s', q1, q2, q3, q4⟩ := ih s1 z2
      exact ⟨n + 1, s', by omega, ⟨hE, w.1, s1, z1, q2⟩, q3, by rcases q4 with q4 | q4; exact Or.inl (by omega); exact Or.inr q4⟩
    · exact ⟨0, s, by omega, rfl, hw, Or.inr hE⟩
/-- the ends that there are -/
def E6 (s : Ms) : Prop := ∀ n, zE s = some n → n < 6
theorem E6_e {n : Nat} (h : n < 6) : E6 (zend n s) := fun m hm => by
  have hm : (some n : Option Nat) = some m := hm
  cases hm
  exact h
theorem zop_E {k c j : Nat} {o : Int32} (h : E6 s) : E6 (zop As k c o j s) := by
  by_cases c1 : c = 1
  · subst c1; exact h
  by_cases c2 : c = 2
  · subst c2; exact h
  by_cases c3 : c = 3
  · subst c3; exact h
  by_cases c4 : c = 4
  · subst c4; exact h
  by_cases c5 : c = 5
  · subst c5; exact h
  by_cases c6 : c = 6
  · subst c6; exact h
  by_cases c7 : c = 7
  · subst c7; exact h
  by_cases c8 : c = 8
  · subst c8
    rw [zop_8]
    unfold zcel
    split
    · exact E6_e (by omega)
    · exact h
  by_cases c9 : c = 9
  · subst c9
    rw [zop_9]
    unfold zset
    split
    · exact E6_e (by omega)
    · exact h
  by_cases c10 : c = 10
  · subst c10
    rw [zop_10]
    unfold zcal
    split
    · split
      · exact h
      · exact E6_e (by omega)
    · exact E6_e (by omega)
  by_cases c11 : c = 11
  · subst c11; exact h
  by_cases c12 : c = 12
  · subst c12; exact h
  by_cases c13 : c = 13
  · subst c13; exact E6_e (by omega)
  by_cases c14 : c = 14
  · subst c14; exact h
  by_cases c15 : c = 15
  · subst c15
    rw [zop_15]
    split
    · exact h
    · exact h
  by_cases c16 : c = 16
  · subst c16
    rw [zop_16]
    unfold zbrn
    split
    · exact h
    · exact E6_e (by omega)
  by_cases c17 : c = 17
  · subst c17
    rw [zop_17]
    split
    · exact E6_e (s := zpop s) (n := 1) (by omega)
    · exact h
  by_cases c19 : c = 19
  · subst c19; exact h
  by_cases c20 : c = 20
  · subst c20; exact h
  have e : zop As k c o j s = zbin c s := by
    unfold zop
    rw [if_neg (by omega), if_neg (by omega), if_neg (by omega), if_neg (by omega), if_neg (by omega), if_neg (by omega), if_neg (by omega), if_neg (by omega), if_neg (by omega), if_neg (by omega), if_neg (by omega), if_neg (by omega), if_neg (by omega), if_neg (by omega), if_neg (by omega), if_neg (by omega), if_neg (by omega), if_neg (by omega)]
  rw [e]
  unfold zbin
  split
  · exact E6_e (by omega)
  · exact h
theorem ZR_E : ∀ {n : Nat} {s s' : Ms}, ZR As I n s s' → E6 s → E6 s'
  | 0, s, s', hz, h => by
    have hz : s' = s := hz
    rw [hz]; exact h
  | n + 1, s, s', hz, h => by
    obtain ⟨_, _, s1, ⟨a, LT, r1, x, r2, jj, ht, h6, h8, hjj, hs1⟩, hz1⟩ := hz
    refine ZR_E hz1 ?_
    rw [hs1]
    exact zop_E (s := zA r1 x s) h
variable {e : my_E} {d : Nat} {κ : my_K} {σ : my_S} {Q : my_O → my_K → my_S → Prop} {A rv : Nat}
/-- the class's run -/
theorem m_112l {most : Nat} (hA : A = 44 ∨ A = 53) (hrv : rv = 108 ∨ rv = 238 ∨ rv = 368) (hL : LOf As I) (hd : 6 ≤ d) (hm : most < 2147483648) : ∀ (n j : Nat) (s s' : Ms) (σ : my_S), ZR As I n s s' → RevC I As rv σ → CMs A rv s σ → j + n ≤ most → (j + n = most ∨ ∃ en, en < 6 ∧ zE s' = some en) → (∀ σ', CMs A rv s' σ' → σ'.1 A 13 = σ.1 A 13 + Int32.ofNat (j + n) → eqp (fun c k => cmF A c k ∨ (c = A ∧ k = 13)) σ σ' → Q (.inl (some (.inl (Int32.ofNat (j + n))))) κ σ') → ys_112_2 e d A (Int32.ofNat most) (Int32.ofNat j) κ σ Q := by
  intro n
  induction n with
  | zero =>
    intro j s s' σ hz hR h hj he hQ
    have hz : s' = s := hz
    subst hz
    rw [Nat.add_zero] at hQ hj he
    have fin : ys_112_25 e d A (Int32.ofNat j) κ σ Q := by
      unfold ys_112_25
      have f : eqp (fun c k => c = A ∧ k = 13) σ (my_uI σ A 13 (σ.1 A 13 + Int32.ofNat j)) := eqp_I eqp_rf ⟨rfl, rfl⟩
      exact hQ _ (CMs_o h f (fun c k hh => by omega)) uI_s (eqp_mo f (fun c k hh => Or.inr hh))
    unfold ys_112_2
    refine my_if (fun c => ?_) (fun _ => fin)
    have c := (oN_lt (by omega) (by omega)).mp c
    rcases he with he | ⟨en, hen, he⟩
    · omega
    · rw [h.2.2.2.2.2.2.2.2.1, he, if_neg]
      · exact fin
      · intro hh
        have hh : Int32.ofNat en = Int32.ofInt (-1) := hh
        have h1 := congrArg Int32.toInt hh
        rw [oN_i (by omega)] at h1
        have h2 : (Int32.ofInt (-1)).toInt = -1 := by decide
        omega
  | succ n ih =>
    intro j s s' σ hz hR h hj he hQ
    obtain ⟨hE, hc, s1, ⟨a, LT, r1, x, r2, jj, ht, h6, h8, hjj, hs1⟩, hz1⟩ := hz
    unfold ys_112_2
    rw [if_pos ((oN_lt (by omega) (by omega)).mpr (by omega)), h.2.2.2.2.2.2.2.2.1, hE, if_pos (show enI none = Int32.ofInt (-1) from rfl)]
    refine m_113 hA hrv hL hR h hc ht h6 h8 hjj hd (fun σ1 g1 f1 => ?_)
    rw [my_k0_v, oN_s]
    rw [← hs1] at g1
    have e13 : σ1.1 A 13 = σ.1 A 13 := eqp_g f1 (by unfold cmF; omega)
    have R1 : RevC I As rv σ1 := RevC_o (LOf_s hL).2.1 hR f1 (fun c k hh => by clear he; unfold cmF at hh; omega)
    refine ys_112_2_ok (in4 hA) (ih (j + 1) s1 s' σ1 hz1 R1 g1 (by omega) (by rw [show j + 1 + n = j + (n + 1) by omega]; exact he) (fun σ2 g2 q2 f2 => ?_))
    rw [show j + 1 + n = j + (n + 1) by omega] at q2 ⊢
    exact hQ σ2 g2 (by rw [q2, e13]) (eqp_tr (eqp_mo f1 (fun c k hh => Or.inl hh)) f2)
theorem m_112 {most n : Nat} {s s' : Ms} (hA : A = 44 ∨ A = 53) (hrv : rv = 108 ∨ rv = 238 ∨ rv = 368) (hL : LOf As I) (hm : most < 2147483648) (hz : ZR As I n s s') (hR : RevC I As rv σ) (h : CMs A rv s σ) (hn : n ≤ most) (he : n = most ∨ ∃ en, en < 6 ∧ zE s' = some en) (hd : 7 ≤ d) (hQ : ∀ σ', CMs A rv s' σ' → σ'.1 A 13 = σ.1 A 13 + Int32.ofNat n → eqp (fun c k => cmF A c k ∨ (c = A ∧ k = 13)) σ σ' → Q (.inl (some (.inl (Int32.ofNat n)))) κ σ') : my_M e d 112 [.inr (.inr (some A)), .inl (Int32.ofNat most)] κ σ Q := by
  obtain ⟨d, rfl⟩ := dS 1 (show 1 ≤ d by omega)
  refine ys_112 (in4 hA) ?_
  unfold ys_112_0
  refine ys_112_2_ok (in4 hA) (m_112l hA hrv hL (by omega) hm n 0 s s' σ hz hR h (by omega) (by rw [Nat.zero_add]; exact he) ?_)
  rw [Nat.zero_add]
  exact hQ
/-- the reference's run to the end -/
theorem n_297l (hL : LOf As I) (h30 : ∀ a ∈ As, (ndF I a).length ≤ 30) (h61 : (ibA I 0 As).length ≤ 6144) (hd : 4 ≤ d) : ∀ (n : Nat) (s s' : Ms) (σ : my_S), ZR As I n s s' → NowR I As σ → RMs As I s σ → zE s' ≠ none → (∀ σ', RMs As I s' σ' → eqp rmF σ σ' → Q (.inl none) κ σ') → ys_297_5 e d κ σ Q := by
  intro n
  induction n with
  | zero =>
    intro s s' σ hz hR h he hQ
    have hz : s' = s := hz
    subst hz
    unfold ys_297_5
    rw [h.2.2.2.2.2.2.2.2.1, if_neg he, if_neg (by decide)]
    exact hQ σ h eqp_rf
  | succ n ih =>
    intro s s' σ hz hR h he hQ
    obtain ⟨hE, hc, s1, ⟨a, LT, r1, x, r2, jj, ht, h6, h8, hjj, hs1⟩, hz1⟩ := hz
    unfold ys_297_5
    rw [h.2.2.2.2.2.2.2.2.1, if_pos hE, if_pos rfl]
    refine n_299 hL hR h30 h61 h hE hc ht h6 h8 hjj hd (fun σ1 g1 f1 => ?_)
    rw [my_k0_v]
    rw [← hs1] at g1
    have R1 : NowR I As σ1 := NowR_o (LOf_s hL).1 (LOf_s hL).2.1 h30 hR f1 (fun c k hh => by unfold rmF at hh; unfold coF; omega)
    exact ys_297_5_ok (ih s1 s' σ1 hz1 R1 g1 he (fun σ2 g2 f2 => hQ σ2 g2 (eqp_tr f1 f2)))
/-- the reference's steps when it is traced -/
theorem n_364l {most : Nat} (hL : LOf As I) (h30 : ∀ a ∈ As, (ndF I a).length ≤ 30) (h61 : (ibA I 0 As).length ≤ 6144) (hd : 4 ≤ d) (hm : most < 2147483648) : ∀ (n j : Nat) (s s' : Ms) (σ : my_S), ZR As I n s s' → NowR I As σ → RMs As I s σ → j + n ≤ most → (j + n = most ∨ zE s' ≠ none) → (∀ σ', RMs As I s' σ' → eqp rmF σ σ' → ys_364_65 e d (Int32.ofNat (j + n)) κ σ' Q) → ys_364_43 e d (Int32.ofNat most) (Int32.ofNat j) κ σ Q := by
  intro n
  induction n with
  | zero =>
    intro j s s' σ hz hR h hj he hQ
    have hz : s' = s := hz
    subst hz
    rw [Nat.add_zero] at hQ hj he
    have fin := hQ σ h eqp_rf
    unfold ys_364_43
    refine my_if (fun c => ?_) (fun _ => fin)
    have c := (oN_lt (by omega) (by omega)).mp c
    rcases he with he | he
    · omega
    · rw [h.2.2.2.2.2.2.2.2.1, if_neg he, if_neg (by decide)]
      exact fin
  | succ n ih =>
    intro j s s' σ hz hR h hj he hQ
    obtain ⟨hE, hc, s1, ⟨a, LT, r1, x, r2, jj, ht, h6, h8, hjj, hs1⟩, hz1⟩ := hz
    unfold ys_364_43
    rw [if_pos ((oN_lt (by omega) (by omega)).mpr (by omega)), h.2.2.2.2.2.2.2.2.1, if_pos hE, if_pos rfl]
    refine n_299 hL hR h30 h61 h hE hc ht h6 h8 hjj hd (fun σ1 g1 f1 => ?_)
    rw [my_k0_v, oN_s]
    rw [← hs1] at g1
    have R1 : NowR I As σ1 := NowR_o (LOf_s hL).1 (LOf_s hL).2.1 h30 hR f1 (fun c k hh => by unfold rmF at hh; unfold coF; omega)
    refine ys_364_43_ok (ih (j + 1) s1 s' σ1 hz1 R1 g1 (by omega) (by rw [show j + 1 + n = j + (n + 1) by omega]; exact he) (fun σ2 g2 f2 => ?_))
    rw [show j + 1 + n = j + (n + 1) by omega]
    exact hQ σ2 g2 (eqp_tr f1 f2)
end MRU
