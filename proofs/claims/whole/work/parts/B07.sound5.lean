
/-! ===== an instruction keeps it: jumps; all of them ===== -/
section MSS
variable {As : List Ri} {I : List It} {s : Ms} {a : Ri} {LT : Nat → Int32} {r1 r2 : List Rw} {x : Rw}
/-- how many loops are around a place -/
def DJ (As : List Ri) (k : Nat) (a : Ri) (D : Nat → Nat) : Prop := ∃ r, riR a = r ++ ptl (riF a) (riT a) ∧ hrn r 0 = 0 ∧ DD D (rwA (As.take k)).length r 0 1 ∧ JD D (VL (rwA (As.take k)).length r) (rwA (As.take k)).length none 0 r
theorem FS_DJ {k : Nat} (h : FS As I k a LT) : ∃ D, DJ As k a D := by
  obtain ⟨_, _, _, _, r, hr, hs⟩ := h
  obtain ⟨D, h1, h2⟩ := hs.2
  exact ⟨D, r, hr, hs.1.1, h1, h2⟩
theorem ptl_ops {fm : Nat} {ty : Int32} : ∀ y ∈ ptl fm ty, y.1 = 1 ∨ y.1 = 3 ∨ y.1 = 11 ∨ y.1 = 12 ∨ y.1 = 13 := by
  intro y hy
  unfold ptl at hy
  by_cases h2 : fm = 2
  · rw [if_pos h2] at hy
    rcases List.mem_cons.mp hy with h | h
    · rw [h]; dsimp only; split <;> omega
    · rw [List.mem_singleton.mp h]; dsimp only; omega
  rw [if_neg h2] at hy
  by_cases h3 : fm = 3
  · rw [if_pos h3] at hy; rw [List.mem_singleton.mp hy]; dsimp only; omega
  · rw [if_neg h3] at hy; rw [List.mem_singleton.mp hy]; dsimp only; omega
theorem ptl_ne {fm : Nat} {ty : Int32} : ptl fm ty ≠ [] := by
  unfold ptl
  split
  · simp
  · split <;> simp
/-- a step that isn't of the end lies before it -/
theorem st_in {r : List Rw} (hr : riR a = r ++ ptl (riF a) (riT a)) (h4 : riR a = r1 ++ x :: r2) (hx : x.1 ≠ 1 ∧ x.1 ≠ 3 ∧ x.1 ≠ 11 ∧ x.1 ≠ 12 ∧ x.1 ≠ 13) : r1.length < r.length ∧ r[r1.length]? = some x := by
  have hg : (riR a)[r1.length]? = some x := by rw [h4, List.getElem?_append_right (Nat.le_refl _), Nat.sub_self]; rfl
  by_cases hl : r1.length < r.length
  · refine ⟨hl, ?_⟩
    rw [hr, List.getElem?_append_left hl] at hg
    exact hg
  · rw [hr, List.getElem?_append_right (by omega)] at hg
    have := ptl_ops x (List.mem_of_getElem? hg)
    omega
/-- where a jump lands -/
theorem jmp_at {k : Nat} {D : Nat → Nat} (hL : LOf As I) (hf : FS As I k a LT) (h : DJ As k a D) (h4 : riR a = r1 ++ x :: r2) (hx : x.1 = 14 ∨ x.1 = 15) : ∃ T r1' r2', x.2.1 = Int32.ofNat T ∧ T < 2147483648 ∧ riR a = r1' ++ r2' ∧ r2' ≠ [] ∧ r1' = (riR a).take (T - (rwA (As.take k)).length) ∧ T = (rwA (As.take k)).length + r1'.length ∧ pT I a LT r1' = [] ∧ opn I (jO As k a) x (ndl I r1 []) = Int32.ofNat (lens r1') ∧ (r1'.length ≤ r1.length → D T + 1 ≤ D ((rwA (As.take k)).length + r1.length)) ∧ (r1.length < r1'.length → D T ≤ D ((rwA (As.take k)).length + r1.length)) := by
  obtain ⟨r, hr, h0, hD, hJ⟩ := h
  obtain ⟨s1, s2⟩ := st_in hr h4 (by omega)
  have j1 := hJ _ _ s2
  have c1500 := hf.1.2.2.2.2.2
  have hra : (rwA (As.take k)).length ≤ 1500 := by
    have h5 := (LOf_f hL).1
    have h6 := rwA_take (As := As) (k := k)
    omega
  have main : ∃ T, x = jmp x.1 T ∧ VL (rwA (As.take k)).length r T ∧ (T ≤ (rwA (As.take k)).length + r1.length → D T + 1 ≤ D ((rwA (As.take k)).length + r1.length)) ∧ ((rwA (As.take k)).length + r1.length < T → D T ≤ D ((rwA (As.take k)).length + r1.length)) := by
    rcases hx with hx | hx
    · rcases j1.2.2.2 hx with ⟨l, hl, _⟩ | ⟨T, g1, g2, g3, g4⟩
      · cases hl
      · exact ⟨T, by rw [hx]; exact g1, g2, g3, g4⟩
    · obtain ⟨_, T, g1, g2, g3, g4⟩ := j1.2.2.1 hx
      exact ⟨T, by rw [hx]; exact g1, g3, fun hh => by omega, fun _ => g4⟩
  obtain ⟨T, g1, ⟨v1, v2, v3⟩, g3, g4⟩ := main
  have hrl : r.length ≤ 1500 := by rw [hr, List.length_append] at c1500; omega
  have htk : (riR a).take (T - (rwA (As.take k)).length) = r.take (T - (rwA (As.take k)).length) := by rw [hr, List.take_append_of_le_length (by omega)]
  have hlen : ((riR a).take (T - (rwA (As.take k)).length)).length = T - (rwA (As.take k)).length := by
    rw [List.length_take, hr, List.length_append]
    omega
  refine ⟨T, (riR a).take (T - (rwA (As.take k)).length), (riR a).drop (T - (rwA (As.take k)).length), by rw [g1]; rfl, by omega, (List.take_append_drop _ _).symm, fun hh => ?_, rfl, by rw [hlen]; omega, ?_, ?_, fun hh => g3 (by omega), fun hh => g4 (by omega)⟩
  · have := List.drop_eq_nil_iff.mp hh
    rw [hr, List.length_append] at this
    have : 0 < (ptl (riF a) (riT a)).length := List.length_pos_iff.mpr ptl_ne
    omega
  · have h6 := (FS_at (r1 := (riR a).take (T - (rwA (As.take k)).length)) (r2 := (riR a).drop (T - (rwA (As.take k)).length)) hL hf (List.take_append_drop _ _).symm).2.2.1
    rw [htk, v3] at h6
    unfold pT
    rw [htk]
    exact List.map_eq_nil_iff.mpr (List.length_eq_zero_iff.mp h6)
  · unfold opn
    rw [if_neg (by omega), if_pos hx, g1]
    show jOf _ a (Int32.ofNat T).toNatClampNeg = _
    rw [oN_n (by omega)]
    rfl
theorem lens_5 : ∀ {r : List Rw}, lens r ≤ 5 * r.length
  | [] => by simp [lens]
  | x :: r => by
    have := lens_5 (r := r)
    have := ln1_le (k := x.1)
    show ln1 x.1 + lens r ≤ _
    rw [List.length_cons]
    omega
/-- the frame on top goes elsewhere, its pile being empty -/
theorem WZ_jmp {c : Nat} {r1' r2' : List Rw} (hL : LOf As I) (hc : WTc As I s) (ht : TFr As I s a LT r1 (x :: r2)) (hcl : c = (pT I a LT r1).length) (h4 : riR a = r1' ++ r2') (hne : r2' ≠ []) (hp : pT I a LT r1' = []) : WZ As I (((zT s - c, zV s), (zD s, zw s, upN (upN (zP s) (zD s) (lens r1 + ln1 x.1)) (zD s) (lens r1'), zB s), s.2.2) : Ms) := by
  obtain ⟨t1, t2, t3, t4, t5, t6, t7⟩ := ht
  have hc' : WTc As I (((zT s - c, zV s), (zD s, zw s, upN (upN (zP s) (zD s) (lens r1 + ln1 x.1)) (zD s) (lens r1'), zB s), s.2.2) : Ms) := WTc_o hc rfl rfl (fun d hd => by
    show upN (upN (zP s) (zD s) (lens r1 + ln1 x.1)) (zD s) (lens r1') d = _
    rw [upN_o (by omega), upN_o (by omega)]) rfl (fun _ _ => rfl) (fun _ _ => rfl) hc.2.1 hc.2.2.2.1
  have ht' : TFr As I (((zT s - c, zV s), (zD s, zw s, upN (upN (zP s) (zD s) (lens r1 + ln1 x.1)) (zD s) (lens r1'), zB s), s.2.2) : Ms) a LT r1' r2' := ⟨t1, t2, t3, h4, by show upN _ _ _ _ = _; rw [upN_s], by rw [hp]; show zT s - c = zB s (zD s) + 0; omega, fun i y hi => by rw [hp] at hi; simp at hi⟩
  exact ⟨WE_of hL hc' ht', fun _ => ⟨hc', a, LT, _, _, ht', hne⟩⟩
/-- what an instruction tells beside -/
def opx (I : List It) (As : List Ri) (k : Nat) (a : Ri) (r1 : List Rw) (x : Rw) : Int32 := opv (dwn (opc x.1)) (opn I (jO As k a) x (ndl I r1 []))
theorem opx_j {k : Nat} {r1' r2' : List Rw} (hf : FS As I k a LT) (hx : x.1 = 14 ∨ x.1 = 15) (h4 : riR a = r1' ++ r2') (ho : opn I (jO As k a) x (ndl I r1 []) = Int32.ofNat (lens r1')) : opx I As k a r1 x = Int32.ofNat (lens r1') ∧ (opx I As k a r1 x).toNatClampNeg = lens r1' := by
  have c1500 := hf.1.2.2.2.2.2
  have : lens r1' < 65536 := by
    have := lens_5 (r := r1')
    rw [h4, List.length_append] at c1500
    omega
  have h2 : dwn (opc x.1) = 2 := by rcases hx with hx | hx <;> (rw [hx]; rfl)
  unfold opx
  rw [h2, ho, opv_2 this]
  exact ⟨rfl, oN_n (by omega)⟩
theorem opx_l {k i : Nat} (hx : x.1 = 4 ∨ x.1 = 5 ∨ x.1 = 207) (hi : x.2.1 = Int32.ofNat i) (h10 : i < 10) : opx I As k a r1 x = Int32.ofNat i := by
  have h2 : dwn (opc x.1) = 1 := by rcases hx with hx | hx | hx <;> (rw [hx]; rfl)
  unfold opx opn
  rw [h2, if_neg (by omega), if_neg (by omega), hi, opv_1 (by omega)]
/-- ONE INSTRUCTION keeps all -/
theorem wz_step {j : Nat} (hL : LOf As I) (hc : WTc As I s) (ht : TFr As I s a LT r1 (x :: r2)) (h6 : x.1 ≠ 206) (h8 : x.1 ≠ 208) (hj : 200 ≤ x.1 → x.1 ≤ 205 → itK I x.2.2.1 = some j) : WZ As I (zop As (zw s (zD s)) (opc x.1) (opx I As (zw s (zD s)) a r1 x) j (zA r1 x s)) := by
  have hh := ht
  obtain ⟨t1, t2, t3, t4, t5, t6, t7⟩ := ht
  have hV := t1.1.2.2.1 x (by rw [t4]; simp)
  obtain ⟨LT1, P, e1, e2, e3, e4, e5, e6, e7, e8, e9, e10, e11⟩ := FS_next hL t1 t4
  have val : x.1 = 1 ∨ x.1 = 2 ∨ x.1 = 3 ∨ x.1 = 19 ∨ x.1 = 20 ∨ (21 ≤ x.1 ∧ x.1 ≤ 31) → WZ As I (zop As (zw s (zD s)) (opc x.1) (opx I As (zw s (zD s)) a r1 x) j (zA r1 x s)) := fun h1 => by
    rw [opc_s (by omega)]
    exact wz_val hL hc hh h1
  have loc : x.1 = 4 ∨ x.1 = 5 ∨ x.1 = 207 → WZ As I (zop As (zw s (zD s)) (opc x.1) (opx I As (zw s (zD s)) a r1 x) j (zA r1 x s)) := fun h1 => by
    obtain ⟨i, hi, hv⟩ := hV.2.2.1 h1
    rw [opx_l h1 hv hi]
    exact wz_loc hL hc hh h1 hv hi
  rcases rwV_op hV with h1 | h1 | h1 | h1 | h1 | h1 | h1 | h1 | h1 | h1 | h1 | h1 | h1 | h1 | h1 | h1 | h1 | h1 | h1 | h1 | h1 | h1 | h1 | h1
  · exact val (by omega)
  · exact val (by omega)
  · exact val (by omega)
  · exact loc (by omega)
  · exact loc (by omega)
  · exact (wz_leave hL hc hh (Or.inl h1)).1
  · exact (wz_leave hL hc hh (Or.inr h1)).1
  · rw [show opc x.1 = 13 by rw [h1]; rfl, zop_13]
    exact WZ_end (c := 0) (e := 0) (F' := zF s) (t' := zt s) (k' := zk s) hL hc hh (Nat.zero_le _) hc.2.1
  · rw [show opc x.1 = 14 by rw [h1]; rfl, zop_14]
    obtain ⟨D, hD⟩ := FS_DJ t1
    obtain ⟨T, r1', r2', g1, g1', g2, g3, g4, g5, g6, g7, _⟩ := jmp_at hL t1 hD t4 (Or.inl h1)
    rw [(opx_j t1 (Or.inl h1) g2 g7).2]
    have h0 : (pT I a LT r1).length = 0 := by rw [e2, List.length_map, e4]; exact e9.2.2.1 (Or.inl h1)
    exact WZ_jmp (c := 0) hL hc hh h0.symm g2 g3 g6
  · rw [show opc x.1 = 15 by rw [h1]; rfl, zop_15]
    obtain ⟨D, hD⟩ := FS_DJ t1
    obtain ⟨T, r1', r2', g1, g1', g2, g3, g4, g5, g6, g7, _⟩ := jmp_at hL t1 hD t4 (Or.inr h1)
    rw [(opx_j t1 (Or.inr h1) g2 g7).2]
    have h0 : (pT I a LT r1).length = 1 := by rw [e2, List.length_map, e4]; exact e9.2.2.2.1 (Or.inl h1)
    split
    · exact WZ_jmp (c := 1) hL hc hh h0.symm g2 g3 g6
    · exact WZ_pop (c := 1) (L' := zL s) (G' := zG s) (C' := zC s) (t' := zt s) hL hc hh (by omega) (by omega) (by rw [e7, ty_15 (Or.inl h1), e2, List.map_drop]) hc.2.2.2.1 t3 (fun _ _ => rfl)
  · rw [show opc x.1 = 16 by rw [h1]; rfl, zop_16]
    unfold zbrn
    by_cases hF : zF (zA r1 x s) < 3000
    · have hF' : zF s < 3000 := hF
      rw [if_pos hF]
      exact WZ_go (s' := zbr (zA r1 x s)) hL hc hh (by omega) (P' := pT I a LT r1) (by rw [e7, ty_0 (by omega), e2]) rfl rfl rfl rfl t6 t3 t7 (fun _ _ => rfl) (fun _ _ => rfl) (by show zF s + 1 ≤ 3000; omega) hc.2.2.2.1
    · rw [if_neg hF]
      exact WZ_end (c := 0) (e := 3) (F' := zF s) (t' := zt s) (k' := zk s) hL hc hh (Nat.zero_le _) hc.2.1
  · rw [show opc x.1 = 17 by rw [h1]; rfl, zop_17]
    have h0 : (pT I a LT r1).length = 1 := by rw [e2, List.length_map, e4]; exact e9.2.2.2.1 (Or.inr h1)
    split
    · exact WZ_end (c := 1) (e := 1) (F' := zF s) (t' := zt s) hL hc hh (by omega) hc.2.1
    · exact WZ_pop (c := 1) (L' := zL s) (G' := zG s) (C' := zC s) (t' := zt s) hL hc hh (by omega) (by omega) (by rw [e7, ty_15 (Or.inr h1), e2, List.map_drop]) hc.2.2.2.1 t3 (fun _ _ => rfl)
  · exact val (by omega)
  · exact val (by omega)
  · exact val (by omega)
  · exact wz_glob hL hc hh (Or.inl h1) (hj (by omega) (by omega))
  · exact wz_glob hL hc hh (Or.inr h1) (hj (by omega) (by omega))
  · exact wz_cell hL hc hh (Or.inl h1)
  · exact wz_cell hL hc hh (Or.inr h1)
  · exact wz_call hL hc hh (Or.inl h1) (hj (by omega) (by omega))
  · exact wz_call hL hc hh (Or.inr h1) (hj (by omega) (by omega))
  · exact absurd h1 h6
  · exact loc (by omega)
  · exact absurd h1 h8
end MSS
