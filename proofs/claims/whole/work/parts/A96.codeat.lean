
/-! ===== what is loaded: its steps, what they need, where the bytes lie ===== -/
theorem ptl_V {fm : Nat} {ty : Int32} : rVs (ptl fm ty) := by
  have s : ∀ {k : Nat}, k = 1 ∨ k = 3 ∨ k = 11 ∨ k = 12 ∨ k = 13 → rwV ((k, 0, [], 0) : Rw) := fun h => rwV_s (by omega) (by omega) (by omega) (by omega)
  unfold ptl
  by_cases h2 : fm = 2
  · rw [if_pos h2]
    refine rVs_a (r := [_]) (r' := [_]) (rVs_1 (s ?_)) (rVs_1 (s (by omega)))
    split <;> omega
  rw [if_neg h2]
  by_cases h3 : fm = 3
  · rw [if_pos h3]; exact rVs_1 (s (by omega))
  · rw [if_neg h3]; exact rVs_1 (s (by omega))
theorem rwA_m : ∀ {As : List Ri} {a : Ri}, a ∈ As → (riR a).length ≤ (rwA As).length
  | b :: As, a, h => by
    rw [rwA, List.length_append]
    rcases List.mem_cons.mp h with h | h
    · rw [h]; omega
    · have := rwA_m h; omega
section MCA
variable {As : List Ri} {I : List It} {J : Nat → Int32} {x : Rw} {N : List Nat} {rv k : Nat} {a : Ri} {σ : my_S}
theorem LOf_f (h : LOf As I) : (rwA As).length ≤ 1500 ∧ (∀ k a, As[k]? = some a → itH (rwA (As.take k)).length a) ∧ ∀ a ∈ As, 2 ≤ riF a → NKr I (riR a) := by
  obtain ⟨t, n, ht, hp, hB, hrel, hm⟩ := h
  refine ⟨?_, pis_H ht 43 [] 0 (ps t n 0) As (ps_le ht 0) rfl (fun k a hk => by simp at hk) hp, (tmA_n hm).2⟩
  have h1 := pis_Rl ht 43 [] 0 (ps t n 0) As (ps_le ht 0) (by simp [rwA]) hp
  have h2 := ht.1
  omega
/-- what is known of an item with code -/
def CDO (As : List Ri) (I : List It) (k : Nat) (a : Ri) : Prop := As[k]? = some a ∧ 2 ≤ riF a ∧ rVs (riR a) ∧ NKr I (riR a) ∧ NFr I (riR a) ∧ (riR a).length ≤ 1500
theorem CDO_of (h : LOf As I) (ha : As[k]? = some a) (h2 : 2 ≤ riF a) : CDO As I k a := by
  obtain ⟨f1, f2, f3⟩ := LOf_f h
  have hm := List.mem_of_getElem? ha
  obtain ⟨r, hr, _, hV⟩ := f2 k a ha h2
  have hNK := f3 a hm h2
  refine ⟨ha, h2, ?_, hNK, fun y hy h5 h6 => ?_, by have := rwA_m hm; omega⟩
  · rw [hr]; exact rVs_a hV ptl_V
  · obtain ⟨j, hj, _⟩ := hNK y hy h5 h6
    rw [hj]; simp
theorem nd1_NK (hB : itsB As) (hrel : iRel As I) (hN : NK I N) (hk : 200 ≤ x.1 → x.1 ≤ 205 → knd I x.2.2.1) : NK I (nd1 I x N) ∧ ∀ (i y : Nat), N[i]? = some y → (nd1 I x N)[i]? = some y := by
  unfold nd1
  by_cases h : 200 ≤ x.1 ∧ x.1 ≤ 205
  · rw [if_pos h]
    obtain ⟨j, h1, h2⟩ := hk h.1 h.2
    unfold nmN
    rw [h1]
    obtain ⟨g1, g2⟩ := nid_k hB hrel hN h1 h2
    refine ⟨g1, fun i y hi => ?_⟩
    show (nid N j).2[i]? = some y
    rcases g2 with ⟨_, _, g2⟩ | ⟨_, g2⟩
    · rw [g2]; exact hi
    · rw [g2, List.getElem?_append_left (List.getElem?_eq_some_iff.mp hi).1]; exact hi
  · rw [if_neg h]
    exact ⟨hN, fun i y hi => hi⟩
theorem ndl_NK (hB : itsB As) (hrel : iRel As I) : ∀ {r : List Rw} {N : List Nat}, NKr I r → NK I N → NK I (ndl I r N) ∧ ∀ (i y : Nat), N[i]? = some y → (ndl I r N)[i]? = some y
  | [], N, _, hN => ⟨hN, fun i y hi => hi⟩
  | x :: r, N, hr, hN => by
    obtain ⟨h1, h2⟩ := nd1_NK (x := x) hB hrel hN (hr x (by simp))
    obtain ⟨g1, g2⟩ := ndl_NK hB hrel (r := r) (fun y hy => hr y (by simp [hy])) h1
    exact ⟨g1, fun i y hi => g2 i y (h2 i y hi)⟩
theorem NK_nil : NK I [] := ⟨List.nodup_nil, fun x hx => absurd hx List.not_mem_nil⟩
/-- the thing that a step names -/
theorem nd_at {r1 r2 : List Rw} (hB : itsB As) (hrel : iRel As I) (hr : NKr I (r1 ++ x :: r2)) (h1 : 200 ≤ x.1) (h2 : x.1 ≤ 205) : ∃ j i, itK I x.2.2.1 = some j ∧ opn I J x (ndl I r1 []) = Int32.ofNat i ∧ i < 30 ∧ (ndl I (r1 ++ x :: r2) [])[i]? = some j ∧ j < I.length ∧ (itA I j).1 = x.2.2.1 ∧ ((itA I j).2.2.1 = 0 ∨ (itA I j).2.2.1 = 1 ∨ (itA I j).2.2.1 = 2) := by
  obtain ⟨j, hj, hk⟩ := hr x (by simp) h1 h2
  have hN := (ndl_NK hB hrel (r := r1) (N := []) (fun y hy => hr y (by simp [hy])) NK_nil).1
  refine ⟨j, (nid (ndl I r1 []) j).1, hj, ?_, ?_⟩
  · unfold opn
    rw [if_pos ⟨h1, h2⟩, hj]
  have hn : (ndl I (r1 ++ x :: r2) []) = ndl I r2 (nd1 I x (ndl I r1 [])) := by rw [ndl_a]; rfl
  have hd1 : nd1 I x (ndl I r1 []) = (nid (ndl I r1 []) j).2 := by
    unfold nd1
    rw [if_pos ⟨h1, h2⟩]
    unfold nmN
    rw [hj]
  have h3 := ndl_NK hB hrel (r := r2) (N := (nid (ndl I r1 []) j).2) (fun y hy => hr y (by simp [hy])) (nid_k hB hrel hN hj hk).1
  have h30 := NK_30 hB hrel (nid_k hB hrel hN hj hk).1
  rw [hn, hd1]
  generalize ndl I r1 [] = M at hN h3 h30 ⊢
  have key : (nid M j).1 < 30 ∧ (nid M j).2[(nid M j).1]? = some j := by
    rcases (nid_k hB hrel hN hj hk).2 with ⟨i, g1, g2⟩ | ⟨g1, g2⟩
    · rw [g2] at h30 ⊢
      have := ix_at g1
      have hl := (ix_lt g1).2
      rw [Nat.sub_zero] at this
      dsimp only at h30 ⊢
      exact ⟨by omega, this.2.1⟩
    · rw [g2] at h30 ⊢
      dsimp only at h30 ⊢
      rw [List.length_append, List.length_singleton] at h30
      exact ⟨by omega, by rw [List.getElem?_append_right (Nat.le_refl _), Nat.sub_self]; rfl⟩
  exact ⟨key.1, h3.2 _ _ key.2, itK_lt hj, itK_n hj, hk⟩
/-- where an item's code begins -/
def cdB (I : List It) (As : List Ri) (k : Nat) (a : Ri) : Nat := (ibA I 0 (As.take k)).length + (hdB a).length + 3
abbrev jO (As : List Ri) (k : Nat) (a : Ri) : Nat → Int32 := jOf (rwA (As.take k)).length a
theorem ib_2 {i : Nat} (h2 : 2 ≤ riF a) : ib I i a = hdB a ++ (bts (Int32.ofNat (riL a).length) 1 0 ++ bts (Int32.ofNat (lens (riR a))) 2 0) ++ (eb I (jOf i a) (riR a) [] ++ (bts (Int32.ofNat (ndF I a).length) 1 0 ++ nmsB I (ndF I a))) := by
  unfold ib
  rw [if_neg (by omega), if_neg (by omega)]
theorem ib_q {w : Nat} {x : Int32} (ha : As[k]? = some a) (hx : (ib I (rwA (As.take k)).length a)[w]? = some x) : (ibA I 0 As)[(ibA I 0 (As.take k)).length + w]? = some x := by
  obtain ⟨h1, h2⟩ := List.getElem?_eq_some_iff.mp hx
  rw [ib_e ha h1, h2]
theorem code_q (ha : As[k]? = some a) (h2 : 2 ≤ riF a) {q : Nat} {x : Int32} (hq : (eb I (jO As k a) (riR a) [])[q]? = some x) : (ibA I 0 As)[cdB I As k a + q]? = some x := by
  have h1 := (List.getElem?_eq_some_iff.mp hq).1
  have : (ib I (rwA (As.take k)).length a)[(hdB a).length + 3 + q]? = some x := by
    rw [ib_2 h2, List.getElem?_append_right (by rw [List.length_append, List.length_append, bts_l, bts_l]; omega), List.length_append, List.length_append, bts_l, bts_l]
    rw [show (hdB a).length + 3 + q - ((hdB a).length + (1 + 2)) = q by omega, List.getElem?_append_left h1]
    exact hq
  have := ib_q ha this
  unfold cdB
  rw [← this]
  congr 1
  omega
theorem code_n (ha : As[k]? = some a) (h2 : 2 ≤ riF a) {j : Nat} (hj : j < 2) : (ibA I 0 As)[cdB I As k a - 2 + j]? = some (bt (Int32.ofNat (lens (riR a))) (Int32.ofNat j)) := by
  have : (ib I (rwA (As.take k)).length a)[(hdB a).length + 1 + j]? = some (bt (Int32.ofNat (lens (riR a))) (Int32.ofNat j)) := by
    rw [ib_2 h2, List.getElem?_append_left (by rw [List.length_append, List.length_append, bts_l, bts_l]; omega), List.getElem?_append_right (by omega), List.getElem?_append_right (by rw [bts_l]; omega), bts_l]
    rw [show (hdB a).length + 1 + j - (hdB a).length - 1 = j by omega, bts_g hj, Nat.zero_add]
  have := ib_q ha this
  unfold cdB
  rw [← this]
  congr 1
  omega
theorem code_l (h : CDO As I k a) : cdB I As k a + lens (riR a) ≤ (ibA I 0 As).length := by
  obtain ⟨ha, h2, _, _, hNF, _⟩ := h
  have h1 := ib_l (I := I) ha
  have h3 : (ib I (rwA (As.take k)).length a).length = (hdB a).length + 3 + lens (riR a) + (1 + (nmsB I (ndF I a)).length) := by
    rw [ib_2 h2]
    simp only [List.length_append, bts_l]
    rw [eb_l hNF]
    omega
  unfold cdB
  omega
/-- a step's bytes, in the class and in the reference -/
theorem st_c {r1 r2 : List Rw} (h : CDO As I k a) (hr : riR a = r1 ++ x :: r2) (h6 : x.1 ≠ 206) (h8 : x.1 ≠ 208) (hR : RevC I As rv σ) : σ.1 (rv + 1) (cdB I As k a + lens r1) &&& 255 = Int32.ofNat (opc x.1) ∧ ∀ j, j < dwn (opc x.1) → σ.1 (rv + 1) (cdB I As k a + lens r1 + 1 + j) = bt (opn I (jO As k a) x (ndl I r1 [])) (Int32.ofNat j) := by
  obtain ⟨ha, h2, hV, hNK, hNF, _⟩ := h
  have hx := hV x (by rw [hr]; simp)
  have hop := eb1_d (I := I) (J := jO As k a) (N := ndl I r1 []) hx h6 h8 (hNF x (by rw [hr]; simp))
  have hb := eb_at (I := I) (J := jO As k a) (r1 := r1) (r2 := r2) (hr ▸ hNF) hx h6 h8
  rw [← hr] at hb
  refine ⟨?_, fun j hj => ?_⟩
  · rw [hR.2.2.1.2 _ _ (code_q ha h2 hb.1), bt_0, and255, Nat.mod_eq_of_lt (by omega)]
  · rw [show cdB I As k a + lens r1 + 1 + j = cdB I As k a + (lens r1 + 1 + j) by omega]
    exact hR.2.2.1.2 _ _ (code_q ha h2 (hb.2 j hj))
theorem st_r {r1 r2 : List Rw} (h : CDO As I k a) (hr : riR a = r1 ++ x :: r2) (h6 : x.1 ≠ 206) (h8 : x.1 ≠ 208) (hR : NowR I As σ) : σ.1 535 (cdB I As k a + lens r1) = Int32.ofNat (opc x.1) ∧ ∀ j, j < dwn (opc x.1) → σ.1 535 (cdB I As k a + lens r1 + 1 + j) = bt (opn I (jO As k a) x (ndl I r1 [])) (Int32.ofNat j) &&& 255 := by
  obtain ⟨ha, h2, hV, hNK, hNF, _⟩ := h
  have hx := hV x (by rw [hr]; simp)
  have hop := eb1_d (I := I) (J := jO As k a) (N := ndl I r1 []) hx h6 h8 (hNF x (by rw [hr]; simp))
  have hb := eb_at (I := I) (J := jO As k a) (r1 := r1) (r2 := r2) (hr ▸ hNF) hx h6 h8
  rw [← hr] at hb
  refine ⟨?_, fun j hj => ?_⟩
  · rw [hR.1.2 _ _ (code_q ha h2 hb.1), bt_0, and255, Nat.mod_eq_of_lt (by omega)]
  · rw [show cdB I As k a + lens r1 + 1 + j = cdB I As k a + (lens r1 + 1 + j) by omega]
    exact hR.1.2 _ _ (code_q ha h2 (hb.2 j hj))
theorem opc_i {k : Nat} (h : 200 ≤ k ∧ k ≤ 205) : 6 ≤ opc k ∧ opc k ≤ 10 := by
  have h6 : k = 200 ∨ k = 201 ∨ k = 202 ∨ k = 203 ∨ k = 204 ∨ k = 205 := by omega
  rcases h6 with rfl | rfl | rfl | rfl | rfl | rfl <;> decide
theorem opc_o (hV : rwV x) (h6 : x.1 ≠ 206) (h8 : x.1 ≠ 208) (h : ¬ (200 ≤ x.1 ∧ x.1 ≤ 205)) : opc x.1 < 6 ∨ 10 < opc x.1 := by
  have hr := hV.2.2.2.2.1
  by_cases h7 : x.1 = 207
  · rw [h7]; left; decide
  · rw [opc_s (by omega)]; omega
theorem dwn_i {c : Nat} (h : 6 ≤ c ∧ c ≤ 10) : dwn c = 1 := by unfold dwn; rw [if_neg (by omega), if_neg (by omega), if_pos (by omega)]
theorem dwn_4 {c : Nat} : dwn c = 0 ∨ dwn c = 1 ∨ dwn c = 2 ∨ dwn c = 4 := by
  unfold dwn
  split
  · omega
  · split
    · omega
    · split <;> omega
end MCA
