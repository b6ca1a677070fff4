
/-! ===== an instruction keeps it: what frames hold, globals, cells ===== -/
section MSQ
variable {As : List Ri} {I : List It} {s : Ms} {a : Ri} {LT : Nat → Int32} {r1 r2 : List Rw} {x : Rw}
theorem zop_4 {k j : Nat} {o : Int32} : zop As k 4 o j s = zpsh (zL s (10 * zD s + o.toNatClampNeg)) s := rfl
theorem zop_5 {k j : Nat} {o : Int32} : zop As k 5 o j s = zsL (10 * zD s + o.toNatClampNeg) (ztop s) (zpop s) := rfl
theorem zop_6 {k j : Nat} {o : Int32} : zop As k 6 o j s = zpsh (zG s (nmk As j)) (ztch 0 (nmk As j) s) := rfl
theorem zop_7 {k j : Nat} {o : Int32} : zop As k 7 o j s = zsG (nmk As j) (ztop s) (zpop s) := rfl
theorem zop_8 {k j : Nat} {o : Int32} : zop As k 8 o j s = zcel As j (ztch 1 (nmk As j) s) := rfl
theorem zop_9 {k j : Nat} {o : Int32} : zop As k 9 o j s = zset As j (ztch 1 (nmk As j) s) := rfl
theorem wz_loc {k j i : Nat} (hL : LOf As I) (hc : WTc As I s) (ht : TFr As I s a LT r1 (x :: r2)) (h1 : x.1 = 4 ∨ x.1 = 5 ∨ x.1 = 207) (hi : x.2.1 = Int32.ofNat i) (hi10 : i < 10) : WZ As I (zop As k (opc x.1) (Int32.ofNat i) j (zA r1 x s)) := by
  have hh := ht
  obtain ⟨t1, t2, t3, t4, t5, t6, t7⟩ := ht
  obtain ⟨LT1, P, e1, e2, e3, e4, e5, e6, e7, e8, e9, e10, e11⟩ := FS_next hL t1 t4
  have hcl : (Int32.ofNat i).toNatClampNeg = i := oN_n (by omega)
  by_cases c4 : x.1 = 4
  · rw [show opc x.1 = 4 by rw [c4]; rfl, zop_4, hcl]
    obtain ⟨j', hj', hv⟩ := e9.1 (Or.inl c4)
    have hji : j' = i := by rw [hi] at hv; exact ((oN_e (by omega) (by omega)).mp hv).symm
    subst hji
    refine WZ_push (c := 0) (v := zL s (10 * zD s + j')) (ty := LT1 j') (t' := zt s) hL hc hh (by omega) (Nat.zero_le _) ?_ ?_
    · rw [e7, ty_4 c4, hi, oN_n (by omega), e2]
      rfl
    · have := t3 j' hi10
      rw [e8 j' hj'] at this
      exact this
  have h5 : opc x.1 = 5 := by
    rcases h1 with h1 | h1 | h1
    · omega
    · rw [h1]; rfl
    · rw [h1]; rfl
  have hn : hnd x = 1 := by unfold hnd; rw [if_neg (by omega), if_neg (by omega), if_pos (by omega)]
  rw [h5, zop_5, hcl]
  match P, e2, e3, e5, e6, e7, e1 with
  | [], _, _, h0, _, _, _ => simp at h0; omega
  | b :: P0, e2, e3, e5, e6, e7, e1 =>
    have m0 : mat b.1 (ztop s) := t7 0 b.1 (by rw [e2]; rfl)
    have key : (qS I a LT (riR a)).1 i = b.1 ∧ pT I a LT (r1 ++ [x]) = (pT I a LT r1).drop 1 := by
      by_cases c5 : x.1 = 5
      · obtain ⟨j', hj', hv⟩ := e9.1 (Or.inr c5)
        have hji : j' = i := by rw [hi] at hv; exact ((oN_e (by omega) (by omega)).mp hv).symm
        subst hji
        rw [ty_5 c5, hi, oN_n (by omega)] at e6 e7
        have htl : tyk (LT1 j') := by
          have := (FS_at hL t1 t4).2.1.1 j' hj'
          rw [e1] at this
          exact this
        have q := fl_q (e3 b (by simp)) htl e6
        exact ⟨by rw [e8 j' hj', q], by rw [e7, e2]; rfl⟩
      · have c7 : x.1 = 207 := by omega
        obtain ⟨hv, hm10⟩ := e9.2.1 c7
        have hmi : lvs r1 (riQ a).length = i := by rw [hi] at hv; exact ((oN_e (by omega) (by omega)).mp hv).symm
        rw [ty_207 c7] at e7
        have f := (FS_at (r1 := r1 ++ [x]) (r2 := r2) hL t1 (by rw [t4]; simp)).2.2.2.1 i (by
          rw [lvs_a]
          show i < lvn x (lvs r1 (riQ a).length)
          unfold lvn
          rw [if_pos c7, hmi]
          omega)
        rw [pT_s, e1, ty_207 c7] at f
        refine ⟨?_, by rw [e7, e2]; rfl⟩
        rw [f]
        show ltU LT1 x.2.1.toNatClampNeg b.1 i = b.1
        unfold ltU
        rw [hi, oN_n (by omega), if_pos rfl]
    refine WZ_pop (c := 1) (L' := upN (zL s) (10 * zD s + i) (ztop s)) (G' := zG s) (C' := zC s) (t' := zt s) hL hc hh (by omega) (by rw [e2]; simp) key.2 hc.2.2.2.1 (fun j hj => ?_) (fun i' hi' => upN_o (by omega))
    by_cases hji : j = i
    · rw [hji, upN_s, key.1]; exact m0
    · rw [upN_o (by omega)]; exact t3 j hj
/-- items of one kind have numbers of their own -/
theorem nmk_i {u v : Nat} {b c : Ri} (hb : As[u]? = some b) (hc : As[v]? = some c) (hk : kdf (riF b) = kdf (riF c)) (h : nmk As u = nmk As v) : u = v := by
  unfold nmk at h
  rw [hb, hc] at h
  dsimp only at h
  rcases Nat.lt_trichotomy u v with h1 | h1 | h1
  · have := cnK_m h1 hb rfl
    rw [← hk] at h
    omega
  · exact h1
  · have := cnK_m h1 hc rfl
    rw [hk] at h
    omega
theorem it_at {j : Nat} {nm : List Nat} (hL : LOf As I) (h : itK I nm = some j) : ∃ b, As[j]? = some b ∧ iOf b (itA I j) ∧ itW b := by
  obtain ⟨hB, hrel, _⟩ := LOf_s hL
  obtain ⟨b, hb, hio⟩ := iRel_a2 hrel (itK_lt h)
  exact ⟨b, hb, hio, hB.2 b (List.mem_of_getElem? hb)⟩
theorem kd_f {b : Ri} {j : Nat} (hio : iOf b (itA I j)) (hw : itW b) {K : Nat} (hK : K < 4) (h : (itA I j).2.2.1 = Int32.ofNat K) : kdf (riF b) = K := by
  rw [hio.2.2.1] at h
  have := kdf_lt hw.1
  exact (oN_e (by omega) (by omega)).mp h
theorem kdf_0 {b : Ri} (h : kdf (riF b) = 0) : riF b = 0 := by unfold kdf at h; split at h <;> omega
theorem kdf_1 {b : Ri} (h : kdf (riF b) = 1) : riF b = 1 := by unfold kdf at h; split at h <;> omega
theorem wz_glob {k j : Nat} {o : Int32} (hL : LOf As I) (hc : WTc As I s) (ht : TFr As I s a LT r1 (x :: r2)) (h1 : x.1 = 200 ∨ x.1 = 201) (hj : itK I x.2.2.1 = some j) : WZ As I (zop As k (opc x.1) o j (zA r1 x s)) := by
  have hh := ht
  obtain ⟨t1, t2, t3, t4, t5, t6, t7⟩ := ht
  obtain ⟨LT1, P, e1, e2, e3, e4, e5, e6, e7, e8, e9, e10, e11⟩ := FS_next hL t1 t4
  obtain ⟨b, hb, hio, hw⟩ := it_at hL hj
  rcases h1 with h1 | h1
  · rw [show opc x.1 = 6 by rw [h1]; rfl, zop_6]
    rw [ty_200 h1] at e6 e7
    obtain ⟨k', k1, k2, k3⟩ := mns_s e6
    rw [hj] at k1
    cases k1
    have hf := kdf_0 (kd_f hio hw (by omega) k2)
    rw [k3] at e7
    refine WZ_push (c := 0) (v := zG s (nmk As j)) (ty := (itA I j).2.2.2.1) hL hc hh (by omega) (Nat.zero_le _) (by rw [e7, e2]; rfl) ?_
    rw [hio.2.2.2.1]
    exact hc.2.2.2.1 j b hb hf
  · rw [show opc x.1 = 7 by rw [h1]; rfl, zop_7]
    have hn : hnd x = 1 := by unfold hnd; simp [h1]
    match P, e2, e3, e5, e6, e7 with
    | [], _, _, h0, _, _ => simp at h0; omega
    | c :: P0, e2, e3, e5, e6, e7 =>
      rw [ty_201 h1] at e6 e7
      obtain ⟨n1, n2⟩ := omin_0.mp e6
      obtain ⟨k', k1, k2, k3⟩ := mns_s n1
      rw [hj] at k1
      cases k1
      have hf := kdf_0 (kd_f hio hw (by omega) k2)
      rw [k3] at n2
      have q : c.1 = (itA I j).2.2.2.1 := fl_q (e3 c (by simp)) (((LOf_s hL).2.2.1 j (itK_lt hj)).1 k2) n2
      have m0 : mat c.1 (ztop s) := t7 0 c.1 (by rw [e2]; rfl)
      refine WZ_pop (c := 1) (L' := zL s) (G' := upN (zG s) (nmk As j) (ztop s)) (C' := zC s) (t' := zt s) hL hc hh (by omega) (by rw [e2]; simp) (by rw [e7, e2]; rfl) (fun u v hu hv => ?_) t3 (fun _ _ => rfl)
      by_cases huj : u = j
      · rw [huj, hb] at hu
        cases hu
        rw [huj, upN_s, ← hio.2.2.2.1, ← q]
        exact m0
      · rw [upN_o (fun hne => huj (nmk_i hu hb (by rw [hv, hf]) hne))]
        exact hc.2.2.2.1 u v hu hv
theorem wz_cell {k j : Nat} {o : Int32} (hL : LOf As I) (hc : WTc As I s) (ht : TFr As I s a LT r1 (x :: r2)) (h1 : x.1 = 202 ∨ x.1 = 203) : WZ As I (zop As k (opc x.1) o j (zA r1 x s)) := by
  have hh := ht
  obtain ⟨t1, t2, t3, t4, t5, t6, t7⟩ := ht
  obtain ⟨LT1, P, e1, e2, e3, e4, e5, e6, e7, e8, e9, e10, e11⟩ := FS_next hL t1 t4
  rcases h1 with h1 | h1
  · rw [show opc x.1 = 8 by rw [h1]; rfl, zop_8]
    have hn : hnd x = 1 := by unfold hnd; simp [h1]
    match P, e2, e3, e5, e6, e7 with
    | [], _, _, h0, _, _ => simp at h0; omega
    | c :: P0, e2, e3, e5, e6, e7 =>
      rw [ty_202 h1] at e6 e7
      have n0 := (mns_k (Or.inr (Or.inl rfl)) e6).1
      rw [n0] at e6 e7
      obtain ⟨k', k1, k2, k3⟩ := mns_s e6
      rw [k3, fl_q (e3 c (by simp)) (Or.inl rfl) n0, if_pos ⟨by simp, mstB_t⟩] at e7
      unfold zcel
      split
      · exact WZ_end (c := 1) (e := 5) (F' := zF s) (k' := zk s) hL hc hh (by rw [e2]; simp) hc.2.1
      · exact WZ_push (c := 1) (ty := 0) hL hc hh (by omega) (by rw [e2]; simp) (by rw [e7, e2]; rfl) mat0
  · rw [show opc x.1 = 9 by rw [h1]; rfl, zop_9]
    have hn : hnd x = 2 := by unfold hnd; simp [h1]
    match P, e2, e3, e5, e6, e7 with
    | [], _, _, h0, _, _ => simp at h0; omega
    | [_], _, _, h0, _, _ => simp at h0; omega
    | c :: c2 :: P0, e2, e3, e5, e6, e7 =>
      rw [ty_203 h1] at e7
      unfold zset
      split
      · exact WZ_end (c := 2) (e := 5) (F' := zF s) (k' := zk s) hL hc hh (by rw [e2]; simp) hc.2.1
      · exact WZ_pop (c := 2) (L' := zL s) (G' := zG s) hL hc hh (by omega) (by rw [e2]; simp) (by rw [e7, e2]; rfl) hc.2.2.2.1 t3 (fun _ _ => rfl)
end MSQ
