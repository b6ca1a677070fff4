
/-! ===== an instruction keeps it: values ===== -/
section MSP
variable {As : List Ri} {I : List It} {s : Ms} {a : Ri} {LT : Nat → Int32} {r1 r2 : List Rw} {x : Rw}
/-- the place is behind the step -/
abbrev zA (r1 : List Rw) (x : Rw) (s : Ms) : Ms := zsP (lens r1 + ln1 x.1) s
/-- a value is pushed upon what is left of the pile -/
theorem WZ_push {c : Nat} {v ty : Int32} {t' : Nat → Nat → Bool} (hL : LOf As I) (hc : WTc As I s) (ht : TFr As I s a LT r1 (x :: r2)) (hx : x.1 ≠ 11 ∧ x.1 ≠ 12 ∧ x.1 ≠ 13) (hcl : c ≤ (pT I a LT r1).length) (hP : pT I a LT (r1 ++ [x]) = ty :: (pT I a LT r1).drop c) (hv : mat ty v) : WZ As I (((zT s - c + 1, upN (zV s) (zT s - c) v), (zD s, zw s, upN (zP s) (zD s) (lens r1 + ln1 x.1), zB s), zL s, zG s, zC s, t', zF s, zE s, zk s) : Ms) := by
  obtain ⟨h1, h2, h3, h4, h5, h6, h7⟩ := ht
  have hT : zT s - c = zB s (zD s) + ((pT I a LT r1).drop c).length := by rw [List.length_drop]; omega
  refine WZ_go hL hc ⟨h1, h2, h3, h4, h5, h6, h7⟩ hx hP rfl rfl rfl rfl ?_ h3 ?_ (fun _ _ => rfl) (fun i hi => ?_) hc.2.1 hc.2.2.2.1
  · show zT s - c + 1 = _
    rw [List.length_cons]
    omega
  · refine vT_p (s := s) (vT_d (c := c) h7) (by omega) hv (fun i hi => ?_) ?_
    · show upN (zV s) (zT s - c) v i = _
      rw [upN_o (by omega)]
    · show upN (zV s) (zT s - c) v (zT s - c) = _
      rw [upN_s]
  · show upN (zV s) (zT s - c) v i = _
    rw [upN_o (by omega)]
/-- the pile loses values -/
theorem WZ_pop {c : Nat} {G' : Nat → Int32} {C' : Nat → Int32} {L' : Nat → Int32} {t' : Nat → Nat → Bool} (hL : LOf As I) (hc : WTc As I s) (ht : TFr As I s a LT r1 (x :: r2)) (hx : x.1 ≠ 11 ∧ x.1 ≠ 12 ∧ x.1 ≠ 13) (hcl : c ≤ (pT I a LT r1).length) (hP : pT I a LT (r1 ++ [x]) = (pT I a LT r1).drop c) (hG : ∀ k b, As[k]? = some b → riF b = 0 → mat (riT b) (G' (nmk As k))) (hl : ∀ j, j < 10 → mat ((qS I a LT (riR a)).1 j) (L' (10 * zD s + j))) (hl2 : ∀ i, i < 10 * zD s → L' i = zL s i) : WZ As I (((zT s - c, zV s), (zD s, zw s, upN (zP s) (zD s) (lens r1 + ln1 x.1), zB s), L', G', C', t', zF s, zE s, zk s) : Ms) := by
  obtain ⟨h1, h2, h3, h4, h5, h6, h7⟩ := ht
  refine WZ_go hL hc ⟨h1, h2, h3, h4, h5, h6, h7⟩ hx hP rfl rfl rfl rfl ?_ hl ?_ hl2 (fun _ _ => rfl) hc.2.1 hG
  · show zT s - c = _
    rw [List.length_drop]
    omega
  · show vT _ (zT s - c) _
    exact vT_o (s := s) (vT_d (c := c) h7) (by rw [List.length_drop]; omega) (fun i hi => rfl)
/-- it ends here -/
theorem WZ_end {c e : Nat} {F' : Nat} {t' : Nat → Nat → Bool} {k' : Option (Nat × Int32)} (hL : LOf As I) (hc : WTc As I s) (ht : TFr As I s a LT r1 (x :: r2)) (hcl : c ≤ (pT I a LT r1).length) (hF : F' ≤ 3000) : WZ As I (((zT s - c, zV s), (zD s, zw s, upN (zP s) (zD s) (lens r1 + ln1 x.1), zB s), zL s, zG s, zC s, t', F', some e, k') : Ms) := by
  have h6 := ht.2.2.2.2.2.1
  refine ⟨WE_e hL hc ht rfl rfl rfl rfl ?_ ?_ hF, fun hh => ?_⟩
  · show zT s - c ≤ zT s
    omega
  · show zB s (zD s) ≤ zT s - c
    omega
  · exact absurd hh (by simp)
theorem bop_01 : ∀ a b : Int32, (a = 0 ∨ a = 1) → (b = 0 ∨ b = 1) → ((a ||| b) = 0 ∨ (a ||| b) = 1) ∧ ((a &&& b) = 0 ∨ (a &&& b) = 1) := by
  intro a b ha hb
  rcases ha with rfl | rfl <;> rcases hb with rfl | rfl <;> decide
theorem bop_m {c : Nat} {u v t : Int32} (hc : 21 ≤ c ∧ c ≤ 31) (hd : bdo c t) (hu : mat t u) (hv : mat t v) : mat (bty c) (bop c u v) := by
  unfold bty
  by_cases h27 : 27 ≤ c
  · rw [if_pos h27]; exact mat0
  rw [if_neg h27]
  intro _
  unfold bop
  by_cases c1 : c = 21
  · rw [if_pos c1]
    have := hd.1 (Or.inl c1)
    exact (bop_01 u v (hu this) (hv this)).1
  rw [if_neg c1]
  by_cases c2 : c = 22
  · rw [if_pos c2]
    have := hd.1 (Or.inr c2)
    exact (bop_01 u v (hu this) (hv this)).2
  rw [if_neg c2]
  by_cases c3 : c = 23
  · rw [if_pos c3]; split <;> simp
  rw [if_neg c3]
  by_cases c4 : c = 24
  · rw [if_pos c4]; split <;> simp
  rw [if_neg c4]
  by_cases c5 : c = 25
  · rw [if_pos c5]; split <;> simp
  rw [if_neg c5, if_pos (by omega)]
  split <;> simp
/-- instructions that work on values alone -/
theorem wz_val {k j : Nat} {o : Int32} (hL : LOf As I) (hc : WTc As I s) (ht : TFr As I s a LT r1 (x :: r2)) (h1 : x.1 = 1 ∨ x.1 = 2 ∨ x.1 = 3 ∨ x.1 = 19 ∨ x.1 = 20 ∨ (21 ≤ x.1 ∧ x.1 ≤ 31)) : WZ As I (zop As k x.1 o j (zA r1 x s)) := by
  have hh := ht
  obtain ⟨t1, t2, t3, t4, t5, t6, t7⟩ := ht
  obtain ⟨LT1, P, e1, e2, e3, e4, e5, e6, e7, e8, e9, e10, e11⟩ := FS_next hL t1 t4
  have hd0 : (pT I a LT r1).drop 0 = pT I a LT r1 := rfl
  rcases h1 with h1 | h1 | h1 | h1 | h1 | h1
  · have hz : zop As k x.1 o j (zA r1 x s) = zpsh o (zA r1 x s) := by unfold zop; rw [if_pos h1]
    rw [hz]
    have := WZ_push (c := 0) (v := o) (ty := 0) (t' := zt s) hL hc hh (by omega) (Nat.zero_le _) (by rw [e7, ty_1 h1, hd0, e2]; rfl) mat0
    exact this
  · have hz : zop As k x.1 o j (zA r1 x s) = zpsh 1 (zA r1 x s) := by unfold zop; rw [if_neg (by omega), if_pos h1]
    rw [hz]
    have := WZ_push (c := 0) (v := 1) (ty := 1) (t' := zt s) hL hc hh (by omega) (Nat.zero_le _) (by rw [e7, ty_2 (Or.inl h1), hd0, e2]; rfl) (fun _ => Or.inr rfl)
    exact this
  · have hz : zop As k x.1 o j (zA r1 x s) = zpsh 0 (zA r1 x s) := by unfold zop; rw [if_neg (by omega), if_neg (by omega), if_pos h1]
    rw [hz]
    have := WZ_push (c := 0) (v := 0) (ty := 1) (t' := zt s) hL hc hh (by omega) (Nat.zero_le _) (by rw [e7, ty_2 (Or.inr h1), hd0, e2]; rfl) (fun _ => Or.inl rfl)
    exact this
  · have hz : zop As k x.1 o j (zA r1 x s) = zpsh (-(ztop s)) (zpop (zA r1 x s)) := by
      unfold zop
      rw [if_neg (by omega), if_neg (by omega), if_neg (by omega), if_neg (by omega), if_neg (by omega), if_neg (by omega), if_neg (by omega), if_neg (by omega), if_neg (by omega), if_neg (by omega), if_neg (by omega), if_neg (by omega), if_neg (by omega), if_neg (by omega), if_neg (by omega), if_neg (by omega), if_pos h1]
      rfl
    rw [hz]
    have hn : hnd x = 1 := by unfold hnd; simp [h1]
    match P, e2, e3, e5, e6, e7 with
    | [], _, _, h0, _, _ => simp at h0; omega
    | b :: P0, e2, e3, e5, e6, e7 =>
      rw [ty_19 h1] at e6 e7
      have q := fl_q (e3 b (by simp)) (Or.inl rfl) e6
      rw [q, if_pos mstB_t] at e7
      exact WZ_push (c := 1) (v := -(ztop s)) (ty := 0) (t' := zt s) hL hc hh (by omega) (by rw [e2]; simp) (by rw [e7, e2]; rfl) mat0
  · have hz : zop As k x.1 o j (zA r1 x s) = zpsh (1 - ztop s) (zpop (zA r1 x s)) := by
      unfold zop
      rw [if_neg (by omega), if_neg (by omega), if_neg (by omega), if_neg (by omega), if_neg (by omega), if_neg (by omega), if_neg (by omega), if_neg (by omega), if_neg (by omega), if_neg (by omega), if_neg (by omega), if_neg (by omega), if_neg (by omega), if_neg (by omega), if_neg (by omega), if_neg (by omega), if_neg (by omega), if_pos h1]
      rfl
    rw [hz]
    have hn : hnd x = 1 := by unfold hnd; simp [h1]
    match P, e2, e3, e5, e6, e7 with
    | [], _, _, h0, _, _ => simp at h0; omega
    | b :: P0, e2, e3, e5, e6, e7 =>
      rw [ty_20 h1] at e6 e7
      have q := fl_q (e3 b (by simp)) (Or.inr rfl) e6
      rw [q, if_pos mstB_t] at e7
      have hm : mat 1 (ztop s) := by
        have := t7 0 b.1 (by rw [e2]; rfl)
        rw [q] at this
        exact this
      refine WZ_push (c := 1) (v := 1 - ztop s) (ty := 1) (t' := zt s) hL hc hh (by omega) (by rw [e2]; simp) (by rw [e7, e2]; rfl) (fun _ => ?_)
      rcases hm rfl with h | h <;> rw [h] <;> decide
  · have hz : zop As k x.1 o j (zA r1 x s) = zbin x.1 (zA r1 x s) := by
      unfold zop
      rw [if_neg (by omega), if_neg (by omega), if_neg (by omega), if_neg (by omega), if_neg (by omega), if_neg (by omega), if_neg (by omega), if_neg (by omega), if_neg (by omega), if_neg (by omega), if_neg (by omega), if_neg (by omega), if_neg (by omega), if_neg (by omega), if_neg (by omega), if_neg (by omega), if_neg (by omega), if_neg (by omega)]
    rw [hz]
    have hn : hnd x = 2 := by unfold hnd; rw [if_neg (by omega), if_pos (by omega)]
    match P, e2, e3, e5, e6, e7 with
    | [], _, _, h0, _, _ => simp at h0; omega
    | [_], _, _, h0, _, _ => simp at h0; omega
    | b :: c :: P0, e2, e3, e5, e6, e7 =>
      obtain ⟨q1, q2, q3⟩ := ty_b h1 (e3 c (by simp)) (e3 b (by simp)) e6
      rw [q1] at e7
      have m0 : mat b.1 (ztop s) := t7 0 b.1 (by rw [e2]; rfl)
      have m1 : mat c.1 (zV s (zT s - 1 - 1)) := t7 1 c.1 (by rw [e2]; rfl)
      unfold zbin
      by_cases hz0 : 30 ≤ x.1 ∧ ztop (zA r1 x s) = 0
      · rw [if_pos hz0]
        exact WZ_end (c := 2) (e := 2) (F' := zF s) (t' := zt s) (k' := zk s) hL hc hh (by rw [e2]; simp) hc.2.1
      · rw [if_neg hz0]
        exact WZ_push (c := 2) (v := bop x.1 (zV s (zT s - 1 - 1)) (ztop s)) (ty := bty x.1) (t' := zt s) hL hc hh (by omega) (by rw [e2]; simp) (by rw [e7, e2]; rfl) (bop_m h1 q3 m1 (by rw [q2]; exact m0))
end MSP
