
/-! ===== an item's bytes, as the class makes them ===== -/
section MIY
variable {t : Nat → Int32} {n : Nat} {I : List It} {S : St}
theorem wr_ap {x : Int32} {k : Nat} (h : S.2.2.1.length + k ≤ 6144) : wr true x k S = apB S (bts x k 0) := by
  unfold wr
  rw [if_pos rfl]
  exact wn_ap h
theorem apB_l {E : List Int32} : (apB S E).2.2.1.length = S.2.2.1.length + E.length := by unfold apB; simp
theorem apB_a {E E' : List Int32} : apB (apB S E) E' = apB S (E ++ E') := by unfold apB; simp
theorem apB_0 : apB S [] = S := by unfold apB; simp
/-- bytes one by one -/
def b1s (T : List Int32) : List Int32 := T.flatMap (fun x => bts x 1 0)
theorem b1s_l : ∀ {T : List Int32}, (b1s T).length = T.length
  | [] => rfl
  | x :: T => by
    show (bts x 1 0 ++ b1s T).length = _
    rw [List.length_append, bts_l, b1s_l, List.length_cons]
    omega
theorem wpt_ap : ∀ {T : List Int32} {S : St}, S.2.2.1.length + T.length ≤ 6144 → wpt true T S = apB S (b1s T)
  | [], S, _ => apB_0.symm
  | x :: T, S, h => by
    rw [List.length_cons] at h
    rw [wpt, wr_ap (by omega), wpt_ap (S := apB _ _) (by rw [apB_l, bts_l]; omega), apB_a]
    rfl
def ltb (l : List Nat) : List Int32 := b1s (l.map (fun a => Int32.ofNat (a + 96)))
theorem wlt_ap : ∀ {l : List Nat} {S : St}, S.2.2.1.length + l.length ≤ 6144 → wlt true l S = apB S (ltb l)
  | [], S, _ => apB_0.symm
  | x :: T, S, h => by
    rw [List.length_cons] at h
    rw [wlt, wr_ap (by omega), wlt_ap (S := apB _ _) (by rw [apB_l, bts_l]; omega), apB_a]
    rfl
theorem ltb_l {l : List Nat} : (ltb l).length = l.length := by unfold ltb; rw [b1s_l, List.length_map]
/-- a needed name's bytes -/
def nmB (it : It) : List Int32 := bts it.2.1 1 0 ++ (bts (Int32.ofNat it.1.length) 1 0 ++ ltb it.1)
def nmsB (I : List It) (N : List Nat) : List Int32 := N.flatMap (fun x => nmB (itA I x))
theorem nmB_l {it : It} : (nmB it).length = 2 + it.1.length := by
  unfold nmB
  rw [List.length_append, List.length_append, bts_l, bts_l, ltb_l]
  omega
theorem wnA_ap {it : It} (h : S.2.2.1.length + (nmB it).length ≤ 6144) : wnA true it S = apB S (nmB it) := by
  rw [nmB_l] at h
  unfold wnA nmB
  rw [wr_ap (S := S) (by omega), wr_ap (S := apB _ _) (by rw [apB_l, bts_l]; omega), wlt_ap (S := apB _ _) (by rw [apB_l, apB_l, bts_l, bts_l]; omega), apB_a, apB_a]
theorem nmsB_c {x : Nat} {N : List Nat} : nmsB I (x :: N) = nmB (itA I x) ++ nmsB I N := rfl
theorem nmsB_a {N N' : List Nat} : nmsB I (N ++ N') = nmsB I N ++ nmsB I N' := by unfold nmsB; rw [List.flatMap_append]
theorem wnN_ap : ∀ {N : List Nat} {S : St}, S.2.2.1.length + (nmsB I N).length ≤ 6144 → wnN true I N S = apB S (nmsB I N)
  | [], S, _ => apB_0.symm
  | x :: N, S, h => by
    rw [nmsB_c, List.length_append] at h
    rw [wnN, wnA_ap (by omega), wnN_ap (S := apB _ _) (by rw [apB_l]; omega), apB_a, nmsB_c]
/-- the head, but for what is told last -/
def hdB (a : Ri) : List Int32 := bts (Int32.ofNat (riF a)) 1 0 ++ (bts (Int32.ofNat (riQ a).length) 1 0 ++ (b1s (riQ a) ++ bts (riT a) 1 0))
theorem hdB_l {a : Ri} : (hdB a).length = 3 + (riQ a).length := by
  unfold hdB
  rw [List.length_append, List.length_append, List.length_append, bts_l, bts_l, bts_l, b1s_l]
  omega
theorem hSt_ap {a : Ri} (h : S.2.2.1.length + (6 + (riQ a).length) ≤ 6144) : hSt true (Int32.ofNat (riF a)) (riQ a) (riT a) S = apB (nd0 S) (hdB a ++ bts 0 3 0) := by
  have h0 : (nd0 S).2.2.1.length = S.2.2.1.length := rfl
  unfold hSt
  rw [wr_ap (S := nd0 S) (by omega), wr_ap (S := apB _ _) (by rw [apB_l, bts_l]; omega), wpt_ap (S := apB _ _) (by rw [apB_l, apB_l, bts_l, bts_l]; omega), wr_ap (S := apB _ _) (by rw [apB_l, apB_l, apB_l, bts_l, bts_l, b1s_l]; omega), wr_ap (S := apB _ _) (by rw [apB_l, apB_l, apB_l, apB_l, bts_l, bts_l, b1s_l, bts_l]; omega)]
  rw [apB_a, apB_a, apB_a, apB_a]
  unfold hdB
  simp only [List.append_assoc]
/-- the code's end -/
theorem tcS_ap {J : Nat → Int32} {fm : Nat} {ty : Int32} (hfm : fm = 2 ∨ fm = 3 ∨ fm = 4) (hty : fm = 2 → ty = 0 ∨ ty = 1) (h : S.2.2.1.length + 6 ≤ 6144) : tcS true fm ty S = apB S (eb I J (ptl fm ty) S.2.2.2) ∧ NFr I (ptl fm ty) ∧ ndl I (ptl fm ty) S.2.2.2 = S.2.2.2 ∧ lens (ptl fm ty) ≤ 6 ∧ (fm ≠ 2 → lens (ptl fm ty) ≤ 1) := by
  have k1 : ∀ {op : Nat} {N : List Nat}, op = 3 ∨ op = 11 ∨ op = 12 ∨ op = 13 → eb1 I J ((op, 0, [], 0) : Rw) N = bts (Int32.ofNat op) 1 0 := fun h => by rcases h with rfl | rfl | rfl | rfl <;> simp [eb1]
  have k2 : ∀ {N : List Nat}, eb1 I J ((1, 0, [], 0) : Rw) N = bts 1 1 0 ++ bts 0 4 0 := by simp [eb1]
  have k3 : ∀ {op : Nat} {N : List Nat}, op < 200 → nd1 I ((op, 0, [], 0) : Rw) N = N := fun h => by unfold nd1; rw [if_neg (by dsimp only; omega)]
  unfold tcS ptl
  by_cases h2 : fm = 2
  · rw [if_pos h2, if_pos h2]
    rcases hty h2 with h0 | h0
    · rw [h0, if_neg (by decide), if_pos rfl]
      refine ⟨?_, fun x hx => ?_, ?_, by simp [lens, ln1], fun hh => absurd h2 hh⟩
      · rw [wr_ap (S := S) (by omega), wr_ap (S := apB _ _) (by rw [apB_l, bts_l]; omega), wr_ap (S := apB _ _) (by rw [apB_l, apB_l, bts_l, bts_l]; omega), apB_a, apB_a]
        rw [eb, eb, eb, k2, k1 (by omega), List.append_nil]
        rfl
      · rcases List.mem_cons.mp hx with h5 | h5
        · rw [h5]; intro h6; simp at h6
        · rw [List.mem_singleton.mp h5]; intro h6; simp at h6
      · rw [ndl, ndl, ndl, k3 (by omega), k3 (by omega)]
    · rw [h0, if_pos rfl, if_neg (by decide)]
      refine ⟨?_, fun x hx => ?_, ?_, by simp [lens, ln1], fun hh => absurd h2 hh⟩
      · rw [wr_ap (S := S) (by omega), wr_ap (S := apB _ _) (by rw [apB_l, bts_l]; omega), apB_a]
        rw [eb, eb, eb, k1 (by omega), k1 (by omega), List.append_nil]
        rfl
      · rcases List.mem_cons.mp hx with h5 | h5
        · rw [h5]; intro h6; simp at h6
        · rw [List.mem_singleton.mp h5]; intro h6; simp at h6
      · rw [ndl, ndl, ndl, k3 (by omega), k3 (by omega)]
  rw [if_neg h2, if_neg h2]
  by_cases h3 : fm = 3
  · rw [if_pos h3, if_pos h3]
    refine ⟨?_, fun x hx => ?_, ?_, by simp [lens, ln1], fun _ => by simp [lens, ln1]⟩
    · rw [wr_ap (S := S) (by omega), eb, eb, k1 (by omega), List.append_nil]
      rfl
    · rw [List.mem_singleton.mp hx]; intro h6; simp at h6
    · rw [ndl, ndl, k3 (by omega)]
  · rw [if_neg h3, if_neg h3]
    refine ⟨?_, fun x hx => ?_, ?_, by simp [lens, ln1], fun _ => by simp [lens, ln1]⟩
    · rw [wr_ap (S := S) (by omega), eb, eb, k1 (by omega), List.append_nil]
      rfl
    · rw [List.mem_singleton.mp hx]; intro h6; simp at h6
    · rw [ndl, ndl, k3 (by omega)]
/-- a byte changed -/
theorem p1_at {A B : List Int32} {z x k : Int32} {a b : Int32} {N : List Nat} (hk : k = Int32.ofNat A.length) (h : A.length < 6144) : p1 k x (a, b, A ++ z :: B, N) = (a, b, A ++ x :: B, N) := by
  unfold p1
  rw [hk, if_neg (oN_0 (by omega)), if_pos ((oN_lt1 (b := 6144) (c := 6144) rfl (by omega) (by omega)).mpr h), oN_n (by omega)]
  rw [List.set_append_right _ _ (Nat.le_refl _), Nat.sub_self, List.set_cons_zero]
/-- what is told last -/
theorem tpS_at {A B : List Int32} {a b cF : Int32} {N : List Nat} {z0 z1 z2 : Int32} {nl c : Nat} (hF : cF = Int32.ofNat (A.length + 3)) (hc : cpl cF (a, b, A ++ z0 :: z1 :: z2 :: B, N) = Int32.ofNat c) (hcl : B.length = c) (hl : A.length + 3 + B.length ≤ 6144) : tpS true cF nl (a, b, A ++ z0 :: z1 :: z2 :: B, N) = (a, b, A ++ (bts (Int32.ofNat nl) 1 0 ++ bts (Int32.ofNat c) 2 0) ++ B, N) := by
  unfold tpS
  rw [if_pos rfl, hc]
  have e3 : cF - 3 + 0 = Int32.ofNat A.length := by
    rw [hF, Int32.ofNat_add, show Int32.ofNat 3 = 3 from rfl, Int32.add_sub_cancel, Int32.add_zero]
  have e2 : cF - 2 + 0 = Int32.ofNat (A.length + 1) := by
    rw [hF, show A.length + 3 = A.length + 1 + 2 by omega, Int32.ofNat_add (A.length + 1), show Int32.ofNat 2 = 2 from rfl, Int32.add_sub_cancel, Int32.add_zero]
  have e1 : cF - 2 + 1 = Int32.ofNat (A.length + 2) := by
    rw [hF, show A.length + 3 = A.length + 1 + 2 by omega, Int32.ofNat_add (A.length + 1), show Int32.ofNat 2 = 2 from rfl, Int32.add_sub_cancel, show (1 : Int32) = Int32.ofNat 1 from rfl, ← Int32.ofNat_add]
  rw [e3, e2, e1, p1_at (A := A) rfl (by omega)]
  have q1 := p1_at (A := A ++ [bt (Int32.ofNat nl) 0]) (B := z2 :: B) (z := z1) (x := bt (Int32.ofNat c) 0) (k := Int32.ofNat (A.length + 1)) (a := a) (b := b) (N := N) (by simp) (by simp; omega)
  rw [List.append_assoc, List.append_assoc] at q1
  rw [show A ++ bt (Int32.ofNat nl) 0 :: z1 :: z2 :: B = A ++ ([bt (Int32.ofNat nl) 0] ++ z1 :: z2 :: B) from rfl, q1]
  have q2 := p1_at (A := A ++ [bt (Int32.ofNat nl) 0, bt (Int32.ofNat c) 0]) (B := B) (z := z2) (x := bt (Int32.ofNat c) 1) (k := Int32.ofNat (A.length + 2)) (a := a) (b := b) (N := N) (by simp) (by simp; omega)
  rw [List.append_assoc, List.append_assoc] at q2
  rw [show A ++ ([bt (Int32.ofNat nl) 0] ++ bt (Int32.ofNat c) 0 :: z2 :: B) = A ++ ([bt (Int32.ofNat nl) 0, bt (Int32.ofNat c) 0] ++ z2 :: B) from rfl, q2]
  rw [List.append_assoc]
  rfl
/-- how many bytes the names take -/
theorem itK_n {nm : List Nat} {k : Nat} (h : itK I nm = some k) : (itA I k).1 = nm := by
  have hk := itK_lt h
  unfold itK at h
  have h2 := (kwi_at h).2
  rw [Nat.sub_zero, List.getElem?_map, itA_e hk] at h2
  exact Option.some.inj h2
theorem nid_b {N : List Nat} {x : Nat} : (nmsB I (nid N x).2).length ≤ (nmsB I N).length + (2 + (itA I x).1.length) := by
  unfold nid
  cases ix N x 0 with
  | some k => simp
  | none =>
    dsimp only
    by_cases h : N.length < 30
    · rw [if_pos h, nmsB_a, List.length_append, nmsB_c, List.length_append, nmB_l]
      simp [nmsB]
    · rw [if_neg h]; simp
theorem ndl_b : ∀ {r : List Rw} {N : List Nat}, lens r + (nmsB I (ndl I r N)).length ≤ wts2 r + (nmsB I N).length
  | [], N => by simp [lens, ndl, wts2]
  | x :: r, N => by
    have ih := ndl_b (r := r) (N := nd1 I x N)
    have h1 : (nmsB I (nd1 I x N)).length ≤ (nmsB I N).length + (if 200 ≤ x.1 ∧ x.1 ≤ 205 then 2 + x.2.2.1.length else 0) := by
      unfold nd1
      by_cases h : 200 ≤ x.1 ∧ x.1 ≤ 205
      · rw [if_pos h, if_pos h]
        unfold nmN
        cases hk : itK I x.2.2.1 with
        | none => simp
        | some k =>
          dsimp only
          have := nid_b (I := I) (N := N) (x := k)
          rw [itK_n hk] at this
          exact this
      · rw [if_neg h, if_neg h]; simp
    show ln1 x.1 + lens r + (nmsB I (ndl I r (nd1 I x N))).length ≤ wt1 x + wts2 r + (nmsB I N).length
    unfold wt1
    omega
end MIY
