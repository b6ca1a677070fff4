/-! ===== the reference's types and the bytes of statements ===== -/
def tpop (due : Int32) (s : T3) : T3 := match s.2.1 with
  | a :: P => (s.1, P, omin s.2.2 (fl a.1 due a.2))
  | [] => s
def tse2 (I : List It) (x : Rw) (s : T3) : T3 := match s.2.1 with
  | b :: a :: P => (s.1, P, omin (omin (mns I x.2.2.1 1 x.2.2.2 s.2.2).2 (fl b.1 0 b.2)) (fl a.1 0 a.2))
  | _ => (s.1, [], (mns I x.2.2.1 1 x.2.2.2 s.2.2).2)
def tdcl (v : Nat) (s : T3) : T3 := match s.2.1 with
  | a :: P => (ltU s.1 v a.1, P, s.2.2)
  | [] => s
def tasg (I : List It) (x : Rw) (s : T3) : T3 := match s.2.1 with
  | a :: P => (s.1, P, omin (mns I x.2.2.1 0 x.2.2.2 s.2.2).2 (fl a.1 (tyO I (mns I x.2.2.1 0 x.2.2.2 s.2.2).1) a.2))
  | [] => (s.1, [], (mns I x.2.2.1 0 x.2.2.2 s.2.2).2)
def tchk (s : T3) : T3 := match s.2.1 with
  | a :: P => (s.1, a :: P, omin s.2.2 (fl a.1 1 a.2))
  | [] => s
/-- one raw step -/
def tr2 (I : List It) (ity : Int32) (x : Rw) (s : T3) : T3 :=
  if x.1 = 5 then tpop (s.1 x.2.1.toNatClampNeg) s
  else if x.1 = 207 then tdcl x.2.1.toNatClampNeg s
  else if x.1 = 201 then tasg I x s
  else if x.1 = 203 then tse2 I x s
  else if x.1 = 205 then (s.1, s.2.1.drop x.2.1.toNatClampNeg, (tcal I x s.2.1 s.2.2).2)
  else if x.1 = 208 then tchk s
  else if x.1 = 11 then tpop ity s
  else if x.1 = 15 ∨ x.1 = 17 then (s.1, s.2.1.drop 1, s.2.2)
  else if x.1 = 12 ∨ x.1 = 13 ∨ x.1 = 14 ∨ x.1 = 16 then s
  else tr1 I x s
def trs2 (I : List It) (ity : Int32) : List Rw → T3 → T3
  | [], s => s
  | x :: r, s => trs2 I ity r (tr2 I ity x s)
theorem trs2_a {I : List It} {ity : Int32} : ∀ {r1 r2 : List Rw} {s : T3}, trs2 I ity (r1 ++ r2) s = trs2 I ity r2 (trs2 I ity r1 s)
  | [], _, _ => rfl
  | x :: r1, r2, s => by
    show trs2 I ity (r1 ++ r2) _ = _
    rw [trs2_a]
    rfl
/-- steps of expressions -/
def eop (k : Nat) : Prop := k ≤ 4 ∨ (19 ≤ k ∧ k ≤ 31) ∨ k = 200 ∨ k = 202 ∨ k = 204 ∨ k = 206
def eops (r : List Rw) : Prop := ∀ x ∈ r, eop x.1
theorem eops_a {r r' : List Rw} (h : eops r) (h' : eops r') : eops (r ++ r') := fun x hx => by
  rcases List.mem_append.mp hx with hx | hx
  · exact h x hx
  · exact h' x hx
theorem eops_1 {x : Rw} (h : eop x.1) : eops [x] := fun y hy => by rw [List.mem_singleton.mp hy]; exact h
theorem trs2_x {I : List It} {ity : Int32} : ∀ {r : List Rw} {s : T3}, eops r → trs2 I ity r s = trs I r s
  | [], _, _ => rfl
  | x :: r, s, h => by
    have hx := h x (by simp)
    unfold eop at hx
    show trs2 I ity r (tr2 I ity x s) = trs I r (tr1 I x s)
    rw [trs2_x (fun y hy => h y (by simp [hy]))]
    have : tr2 I ity x s = tr1 I x s := by
      unfold tr2
      rw [if_neg (by omega), if_neg (by omega), if_neg (by omega), if_neg (by omega), if_neg (by omega), if_neg (by omega), if_neg (by omega), if_neg (by omega), if_neg (by omega)]
    rw [this]
/-- what px makes are such steps -/
def pxE (x : Rs) : Prop := ∀ r c q, x = some (.inr (r, c, q)) → eops r
theorem pxE_l {q : Nat} : pxE (some (.inl q)) := fun _ _ _ h => by cases h
theorem pxE_v {r : List Rw} {c q : Nat} (h : eops r) : pxE (some (.inr (r, c, q))) := fun _ _ _ hh => by cases hh; exact h
theorem pxE_b {x : Rs} {k : List Rw → Nat → Nat → Rs} (h : pxE x) (hk : ∀ r c q, eops r → pxE (k r c q)) : pxE (bnd x k) := fun r c q hh => by
  obtain ⟨r1, c1, q1, h1, h2⟩ := bnd_r hh
  exact hk _ _ _ (h _ _ _ h1) _ _ _ h2
theorem pfac_E {t : Nat → Int32} {n : Nat} {L : List (List Nat)} {g : Nat → List Rw → Nat → Nat → Nat → Rs} {p o : Nat} (hg : ∀ m c p o, pxE (g m [] c p o)) : pxE (pfac t n L g p o) := by
  unfold pfac
  refine my_ite (P := pxE) (fun _ => my_ite (P := pxE) (fun _ => pxE_l) (fun _ => pxE_b (hg _ _ _ _) (fun r c q h => pxE_v (eops_a h (eops_1 ?_))))) (fun _ => ?_)
  · show eop (if tkk t n p = 45 then 19 else 20)
    unfold eop
    split <;> omega
  refine my_ite (P := pxE) (fun _ => my_ite (P := pxE) (fun _ => pxE_l) (fun _ => pxE_b (hg _ _ _ _) (fun r c q h => my_ite (P := pxE) (fun _ => pxE_v (eops_a h (eops_1 ?_))) (fun _ => pxE_l)))) (fun _ => ?_)
  · show eop 206; unfold eop; omega
  refine my_ite (P := pxE) (fun _ => pxE_v (eops_1 (by show eop 1; unfold eop; omega))) (fun _ => ?_)
  refine my_ite (P := pxE) (fun _ => pxE_v (eops_1 (by show eop 2; unfold eop; omega))) (fun _ => ?_)
  refine my_ite (P := pxE) (fun _ => pxE_v (eops_1 (by show eop 3; unfold eop; omega))) (fun _ => ?_)
  refine my_ite (P := pxE) (fun _ => ?_) (fun _ => pxE_l)
  refine my_ite (P := pxE) (fun _ => my_ite (P := pxE) (fun _ => pxE_l) (fun _ => pxE_b (hg _ _ _ _) (fun r c q h => my_ite (P := pxE) (fun _ => pxE_v (eops_a h (eops_1 ?_))) (fun _ => pxE_l)))) (fun _ => ?_)
  · show eop 202; unfold eop; omega
  refine my_ite (P := pxE) (fun _ => my_ite (P := pxE) (fun _ => pxE_l) (fun _ => my_ite (P := pxE) (fun _ => pxE_v (eops_1 (by show eop 204; unfold eop; omega))) (fun _ => pxE_b (hg _ _ _ _) (fun r c q h => pxE_v (eops_a h (eops_1 ?_)))))) (fun _ => ?_)
  · show eop 204; unfold eop; omega
  · cases kwi L (tkm t n p) 0 with
    | none => exact pxE_v (eops_1 (by show eop 200; unfold eop; omega))
    | some j => exact pxE_v (eops_1 (by show eop 4; unfold eop; omega))
theorem px_E {t : Nat → Int32} {n : Nat} {L : List (List Nat)} : ∀ (f m : Nat) (r : List Rw) (c p o : Nat), eops r → pxE (px t n L f m r c p o) := by
  intro f
  induction f with
  | zero => intro m r c p o _ r' c' q h; simp [px] at h
  | succ f ih =>
    intro m r c p o hr
    have h0 : eops [] := fun x hx => by simp at hx
    unfold px
    refine my_ite (P := pxE) (fun _ => pxE_b (ih _ _ _ _ _ h0) (fun r1 _ q h => ih _ _ _ _ _ h)) (fun _ => my_ite (P := pxE) (fun _ => pfac_E (fun m c p o => ih _ _ _ _ _ h0)) (fun _ => my_ite (P := pxE) (fun _ => my_ite (P := pxE) (fun _ => ?_) (fun _ => pxE_v hr)) (fun _ => ?_)))
    · have hc : eops [((cod (tkk t n p), 0, [], p) : Rw)] := eops_1 (by have := cod_bd (tkk t n p); show eop (cod (tkk t n p)); unfold eop; omega)
      exact pxE_b (ih _ _ _ _ _ h0) (fun r2 _ q h => my_ite (P := pxE) (fun _ => pxE_v (eops_a (eops_a hr h) hc)) (fun _ => ih _ _ _ _ _ (eops_a (eops_a hr h) hc)))
    · exact pxE_b (ih _ _ _ _ _ h0) (fun r1 _ q h => my_ite (P := pxE) (fun _ => ih _ _ _ _ _ (eops_a hr h)) (fun _ => my_ite (P := pxE) (fun _ => pxE_v (eops_a hr h)) (fun _ => pxE_l)))
/-- the types of locals that are there alone count -/
theorem cfac_LT {t : Nat → Int32} {n : Nat} {L : List (List Nat)} {LT LT' : Nat → Int32} {I : List It} {w : Bool} {g : Cg} {p o : Nat} {S : St} (h : ∀ j, j < L.length → LT j = LT' j) : cfac t n L LT I w g p o S = cfac t n L LT' I w g p o S := by
  unfold cfac
  cases hk : kwi L (tkm t n p) 0 with
  | none => rfl
  | some j =>
    have := kwi_lt hk
    have hj := h j (by omega)
    simp only [hj]
theorem cx_LT {t : Nat → Int32} {n : Nat} {L : List (List Nat)} {LT LT' : Nat → Int32} {I : List It} {w : Bool} (h : ∀ j, j < L.length → LT j = LT' j) : ∀ f, cx t n L LT I w f = cx t n L LT' I w f := by
  intro f
  induction f with
  | zero => rfl
  | succ f ih =>
    funext m ty b pl rt c p o S
    rw [cx, cx, ih, cfac_LT h]
/-! bytes -/
def bts (x : Int32) : Nat → Nat → List Int32
  | 0, _ => []
  | k + 1, j => bt x (Int32.ofNat j) :: bts x k (j + 1)
theorem bts_l {x : Int32} : ∀ {k j : Nat}, (bts x k j).length = k
  | 0, _ => rfl
  | k + 1, j => by show (bts x k (j + 1)).length + 1 = _; rw [bts_l]
def apB (S : St) (E : List Int32) : St := (S.1, S.2.1, S.2.2.1 ++ E, S.2.2.2)
theorem wn_ap {x : Int32} : ∀ {k j : Nat} {S : St}, S.2.2.1.length + k ≤ 6144 → wn x k j S = apB S (bts x k j)
  | 0, j, S, _ => by unfold apB bts; simp [wn]
  | k + 1, j, S, h => by
    show wn x k (j + 1) (w1 (bt x (Int32.ofNat j)) S) = _
    have h1 : w1 (bt x (Int32.ofNat j)) S = apB S [bt x (Int32.ofNat j)] := by unfold w1; rw [if_pos (by omega)]; rfl
    rw [h1, wn_ap (by unfold apB; simp; omega)]
    unfold apB
    simp [bts]
/-- the bytes of a step, what is needed behind it, how many bytes -/
def nmd (c : Int32) (I : List It) (nm : List Nat) (N : List Nat) : List Int32 := match itK I nm with
  | none => []
  | some x => bts c 1 0 ++ bts (Int32.ofNat (nid N x).1) 1 0
def nmN (I : List It) (nm : List Nat) (N : List Nat) : List Nat := match itK I nm with
  | none => N
  | some x => (nid N x).2
def ncd (k : Nat) : Int32 := if k = 200 then 6 else if k = 201 then 7 else if k = 202 then 8 else if k = 203 then 9 else 10
def eb1 (I : List It) (J : Nat → Int32) (x : Rw) (N : List Nat) : List Int32 :=
  if x.1 = 1 then bts 1 1 0 ++ bts x.2.1 4 0
  else if x.1 = 4 ∨ x.1 = 5 ∨ x.1 = 17 then bts (Int32.ofNat x.1) 1 0 ++ bts x.2.1 1 0
  else if x.1 = 207 then bts 5 1 0 ++ bts x.2.1 1 0
  else if 200 ≤ x.1 ∧ x.1 ≤ 205 then nmd (ncd x.1) I x.2.2.1 N
  else if x.1 = 206 ∨ x.1 = 208 then []
  else if x.1 = 14 ∨ x.1 = 15 then bts (Int32.ofNat x.1) 1 0 ++ bts (J x.2.1.toNatClampNeg) 2 0
  else bts (Int32.ofNat x.1) 1 0
def nd1 (I : List It) (x : Rw) (N : List Nat) : List Nat := if 200 ≤ x.1 ∧ x.1 ≤ 205 then nmN I x.2.2.1 N else N
def ln1 (k : Nat) : Nat := if k = 206 ∨ k = 208 then 0 else if k = 1 then 5 else if k = 14 ∨ k = 15 then 3 else if k = 4 ∨ k = 5 ∨ k = 17 ∨ (200 ≤ k ∧ k ≤ 205) ∨ k = 207 then 2 else 1
def eb (I : List It) (J : Nat → Int32) : List Rw → List Nat → List Int32
  | [], _ => []
  | x :: r, N => eb1 I J x N ++ eb I J r (nd1 I x N)
def ndl (I : List It) : List Rw → List Nat → List Nat
  | [], N => N
  | x :: r, N => ndl I r (nd1 I x N)
def lens : List Rw → Nat
  | [] => 0
  | x :: r => ln1 x.1 + lens r
/-- all names are found -/
def NFr (I : List It) (r : List Rw) : Prop := ∀ x ∈ r, 200 ≤ x.1 → x.1 ≤ 205 → itK I x.2.2.1 ≠ none
theorem eb_a {I : List It} {J : Nat → Int32} : ∀ {r r' : List Rw} {N : List Nat}, eb I J (r ++ r') N = eb I J r N ++ eb I J r' (ndl I r N)
  | [], _, _ => rfl
  | x :: r, r', N => by
    show eb1 I J x N ++ eb I J (r ++ r') _ = _
    rw [eb_a, ← List.append_assoc]
    rfl
theorem ndl_a {I : List It} : ∀ {r r' : List Rw} {N : List Nat}, ndl I (r ++ r') N = ndl I r' (ndl I r N)
  | [], _, _ => rfl
  | x :: r, r', N => by
    show ndl I (r ++ r') _ = _
    rw [ndl_a]
    rfl
theorem lens_a : ∀ {r r' : List Rw}, lens (r ++ r') = lens r + lens r'
  | [], r' => by simp [lens]
  | x :: r, r' => by
    show ln1 x.1 + lens (r ++ r') = ln1 x.1 + lens r + lens r'
    rw [lens_a, Nat.add_assoc]
theorem eb1_l {I : List It} {J : Nat → Int32} {x : Rw} {N : List Nat} (h : 200 ≤ x.1 → x.1 ≤ 205 → itK I x.2.2.1 ≠ none) : (eb1 I J x N).length = ln1 x.1 := by
  unfold eb1 ln1
  by_cases h1 : x.1 = 1
  · rw [if_pos h1, if_neg (by omega), if_pos h1]; simp [bts_l]
  rw [if_neg h1]
  by_cases h2 : x.1 = 4 ∨ x.1 = 5 ∨ x.1 = 17
  · rw [if_pos h2, if_neg (by omega), if_neg h1, if_neg (by omega), if_pos (by omega)]; simp [bts_l]
  rw [if_neg h2]
  by_cases h3 : x.1 = 207
  · rw [if_pos h3, if_neg (by omega), if_neg h1, if_neg (by omega), if_pos (by omega)]; simp [bts_l]
  rw [if_neg h3]
  by_cases h4 : 200 ≤ x.1 ∧ x.1 ≤ 205
  · rw [if_pos h4, if_neg (by omega), if_neg h1, if_neg (by omega), if_pos (by omega)]
    unfold nmd
    cases hk : itK I x.2.2.1 with
    | none => exact absurd hk (h h4.1 h4.2)
    | some k => simp [bts_l]
  rw [if_neg h4]
  by_cases h5 : x.1 = 206 ∨ x.1 = 208
  · rw [if_pos h5, if_pos h5]; rfl
  rw [if_neg h5, if_neg h5, if_neg h1]
  by_cases h6 : x.1 = 14 ∨ x.1 = 15
  · rw [if_pos h6, if_pos h6]; simp [bts_l]
  · rw [if_neg h6, if_neg h6, if_neg (by omega)]; simp [bts_l]
theorem eb_l {I : List It} {J : Nat → Int32} : ∀ {r : List Rw} {N : List Nat}, NFr I r → (eb I J r N).length = lens r
  | [], _, _ => rfl
  | x :: r, N, h => by
    show (eb1 I J x N ++ eb I J r _).length = ln1 x.1 + lens r
    rw [List.length_append, eb1_l (h x (by simp)), eb_l (fun y hy => h y (by simp [hy]))]
theorem er_eb {I : List It} {J : Nat → Int32} {x : Rw} {S : St} (he : eop x.1) (hl : S.2.2.1.length + ln1 x.1 ≤ 6144) : er I x S = (S.1, S.2.1, S.2.2.1 ++ eb1 I J x S.2.2.2, nd1 I x S.2.2.2) := by
  unfold eop at he
  have nm : ∀ c : Int32, 200 ≤ x.1 → x.1 ≤ 205 → ncd x.1 = c → wnm true c (itK I x.2.2.1) S = (S.1, S.2.1, S.2.2.1 ++ nmd (ncd x.1) I x.2.2.1 S.2.2.2, nmN I x.2.2.1 S.2.2.2) := fun c h1 h2 hc => by
    have hl2 : ln1 x.1 = 2 := by unfold ln1; rw [if_neg (by omega), if_neg (by omega), if_neg (by omega), if_pos (by omega)]
    unfold wnm nmd nmN
    rw [if_pos rfl, hc]
    cases hk : itK I x.2.2.1 with
    | none => simp
    | some k =>
      simp only []
      rw [wn_ap (S := S) (by omega), wn_ap (by unfold ndS apB; simp [bts_l]; omega)]
      unfold apB ndS
      simp
  by_cases h1 : x.1 = 1
  · have hl2 : ln1 x.1 = 5 := by rw [h1]; rfl
    have hR : er I x S = wn x.2.1 4 0 (wn 1 1 0 S) := by unfold er; rw [if_pos h1]
    have hE : eb1 I J x S.2.2.2 = bts 1 1 0 ++ bts x.2.1 4 0 := by unfold eb1; rw [if_pos h1]
    have hD : nd1 I x S.2.2.2 = S.2.2.2 := by unfold nd1; rw [if_neg (by omega)]
    rw [hR, hE, hD, wn_ap (S := S) (by omega), wn_ap (by unfold apB; simp [bts_l]; omega)]
    unfold apB
    simp
  by_cases h2 : x.1 = 4
  · have hl2 : ln1 x.1 = 2 := by rw [h2]; rfl
    have hR : er I x S = wn x.2.1 1 0 (wn 4 1 0 S) := by unfold er; rw [if_neg h1, if_pos h2]
    have hE : eb1 I J x S.2.2.2 = bts 4 1 0 ++ bts x.2.1 1 0 := by unfold eb1; rw [if_neg h1, if_pos (by omega), h2]; rfl
    have hD : nd1 I x S.2.2.2 = S.2.2.2 := by unfold nd1; rw [if_neg (by omega)]
    rw [hR, hE, hD, wn_ap (S := S) (by omega), wn_ap (by unfold apB; simp [bts_l]; omega)]
    unfold apB
    simp
  have hEn : 200 ≤ x.1 → x.1 ≤ 205 → eb1 I J x S.2.2.2 = nmd (ncd x.1) I x.2.2.1 S.2.2.2 := fun a b => by unfold eb1; rw [if_neg h1, if_neg (by omega), if_neg (by omega), if_pos (by omega)]
  have hDn : 200 ≤ x.1 → x.1 ≤ 205 → nd1 I x S.2.2.2 = nmN I x.2.2.1 S.2.2.2 := fun a b => by unfold nd1; rw [if_pos (by omega)]
  by_cases h3 : x.1 = 200
  · have hR : er I x S = wnm true 6 (itK I x.2.2.1) S := by unfold er; rw [if_neg h1, if_neg h2, if_pos h3]
    rw [hR, hEn (by omega) (by omega), hDn (by omega) (by omega)]
    exact nm 6 (by omega) (by omega) (by rw [h3]; rfl)
  by_cases h4 : x.1 = 202
  · have hR : er I x S = wnm true 8 (itK I x.2.2.1) S := by unfold er; rw [if_neg h1, if_neg h2, if_neg h3, if_pos h4]
    rw [hR, hEn (by omega) (by omega), hDn (by omega) (by omega)]
    exact nm 8 (by omega) (by omega) (by rw [h4]; rfl)
  by_cases h5 : x.1 = 204
  · have hR : er I x S = wnm true 10 (itK I x.2.2.1) S := by unfold er; rw [if_neg h1, if_neg h2, if_neg h3, if_neg h4, if_pos h5]
    rw [hR, hEn (by omega) (by omega), hDn (by omega) (by omega)]
    exact nm 10 (by omega) (by omega) (by rw [h5]; rfl)
  have hD : nd1 I x S.2.2.2 = S.2.2.2 := by unfold nd1; rw [if_neg (by omega)]
  by_cases h6 : x.1 = 206
  · have hR : er I x S = S := by unfold er; rw [if_neg h1, if_neg h2, if_neg h3, if_neg h4, if_neg h5, if_pos h6]
    have hE : eb1 I J x S.2.2.2 = [] := by unfold eb1; rw [if_neg h1, if_neg (by omega), if_neg (by omega), if_neg (by omega), if_pos (by omega)]
    rw [hR, hE, hD]
    simp
  · have hl2 : ln1 x.1 = 1 := by unfold ln1; rw [if_neg (by omega), if_neg (by omega), if_neg (by omega), if_neg (by omega)]
    have hR : er I x S = wn (Int32.ofNat x.1) 1 0 S := by unfold er; rw [if_neg h1, if_neg h2, if_neg h3, if_neg h4, if_neg h5, if_neg h6]
    have hE : eb1 I J x S.2.2.2 = bts (Int32.ofNat x.1) 1 0 := by unfold eb1; rw [if_neg h1, if_neg (by omega), if_neg (by omega), if_neg (by omega), if_neg (by omega), if_neg (by omega)]
    rw [hR, hE, hD, wn_ap (S := S) (by omega)]
    rfl
theorem ers_eb {I : List It} {J : Nat → Int32} : ∀ {r : List Rw} {S : St}, eops r → NFr I r → S.2.2.1.length + lens r ≤ 6144 → ers I r S = (S.1, S.2.1, S.2.2.1 ++ eb I J r S.2.2.2, ndl I r S.2.2.2)
  | [], S, _, _, _ => by simp [ers, eb, ndl]
  | x :: r, S, he, hn, hl => by
    have hl' : S.2.2.1.length + (ln1 x.1 + lens r) ≤ 6144 := hl
    show ers I r (er I x S) = _
    rw [er_eb (J := J) (he x (by simp)) (by omega), ers_eb (J := J) (fun y hy => he y (by simp [hy])) (fun y hy => hn y (by simp [hy])) (by simp [eb1_l (hn x (by simp))]; omega)]
    simp [eb, ndl]
/-- where nothing misfits, all names are found -/
theorem mns_n {I : List It} {nm : List Nat} {kd : Int32} {pl : Nat} {mf : Option Nat} (h : (mns I nm kd pl mf).2 = none) : mf = none ∧ itK I nm ≠ none := by
  rw [mns_e] at h
  have h := omin_0.mp h
  refine ⟨h.1, fun hh => ?_⟩
  have := mnM_0.mp h.2
  apply this
  unfold mnF
  rw [hh]
theorem tr1_n {I : List It} {x : Rw} {s : T3} (he : eop x.1) (h : (tr1 I x s).2.2 = none) : s.2.2 = none ∧ (200 ≤ x.1 → x.1 ≤ 205 → itK I x.2.2.1 ≠ none) := by
  unfold eop at he
  unfold tr1 at h
  by_cases h1 : x.1 = 1
  · rw [if_pos h1] at h; exact ⟨h, fun hh => by omega⟩
  rw [if_neg h1] at h
  by_cases h2 : x.1 = 2 ∨ x.1 = 3
  · rw [if_pos h2] at h; exact ⟨h, fun hh => by omega⟩
  rw [if_neg h2] at h
  by_cases h3 : x.1 = 4
  · rw [if_pos h3] at h; exact ⟨h, fun hh => by omega⟩
  rw [if_neg h3] at h
  by_cases h4 : x.1 = 200
  · rw [if_pos h4] at h
    have := mns_n h
    exact ⟨this.1, fun _ _ => this.2⟩
  rw [if_neg h4] at h
  by_cases h5 : x.1 = 202
  · rw [if_pos h5] at h
    unfold tcel at h
    split at h
    · have := mns_n h
      exact ⟨(omin_0.mp this.1).1, fun _ _ => this.2⟩
    · have := mns_n h
      exact ⟨this.1, fun _ _ => this.2⟩
  rw [if_neg h5] at h
  by_cases h6 : x.1 = 204
  · rw [if_pos h6] at h
    have key : (mns I x.2.2.1 2 x.2.2.2 s.2.2).2 = none := by
      unfold tcal at h
      cases hk : (mns I x.2.2.1 2 x.2.2.2 s.2.2).1 with
      | none => rw [hk] at h; exact h
      | some k =>
        rw [hk] at h
        rw [mns_e] at hk ⊢
        have hM : mnM I x.2.2.1 2 x.2.2.2 = none := mnM_0.mpr (by have : mnF I x.2.2.1 2 = some k := hk; rw [this]; simp)
        show omin s.2.2 (mnM I x.2.2.1 2 x.2.2.2) = none
        rw [hM, omin_r]
        have tc : (tcl1 I x k s.2.2).2 = none → s.2.2 = none := fun hh => by
          unfold tcl1 at hh
          by_cases hc : (itA I k).2.2.2.2.1 = x.2.1 ∧ (itA I k).2.1 = (if x.1 = 204 then 2 else 3)
          · rw [if_pos hc] at hh; exact hh
          · rw [if_neg hc] at hh; exact (omin_0.mp hh).1
        simp only [] at h
        split at h
        · rw [mstA_2] at h
          exact tc (omin_0.mp h).1
        · exact tc h
    have := mns_n key
    exact ⟨this.1, fun _ _ => this.2⟩
  rw [if_neg h6] at h
  refine ⟨?_, fun hh1 hh2 => by omega⟩
  by_cases h7 : x.1 = 206
  · rw [if_pos h7] at h
    unfold tpar at h
    split at h <;> exact h
  rw [if_neg h7] at h
  by_cases h8 : x.1 = 19
  · rw [if_pos h8] at h
    unfold tun at h
    split at h
    · exact (omin_0.mp h).1
    · exact h
  rw [if_neg h8] at h
  by_cases h9 : x.1 = 20
  · rw [if_pos h9] at h
    unfold tun at h
    split at h
    · exact (omin_0.mp h).1
    · exact h
  rw [if_neg h9] at h
  unfold tbi at h
  split at h
  · split at h
    · exact (omin_0.mp h).1
    · exact (omin_0.mp (omin_0.mp h).1).1
  · exact h
theorem trs_NF {I : List It} : ∀ {r : List Rw} {s : T3}, eops r → (trs I r s).2.2 = none → s.2.2 = none ∧ NFr I r
  | [], s, _, h => ⟨h, fun x hx => by simp at hx⟩
  | x :: r, s, he, h => by
    have h1 := trs_NF (fun y hy => he y (by simp [hy])) (show (trs I r (tr1 I x s)).2.2 = none from h)
    have h2 := tr1_n (he x (by simp)) h1.1
    refine ⟨h2.1, fun y hy => ?_⟩
    rcases List.mem_cons.mp hy with rfl | hy
    · exact h2.2
    · exact h1.2 y hy
