
/-! ===== what is needed is found, and of its kind ===== -/
section MNK
variable {I : List It} {s : T3} {x : Rw}
def knd (I : List It) (nm : List Nat) : Prop := ∃ k, itK I nm = some k ∧ ((itA I k).2.2.1 = 0 ∨ (itA I k).2.2.1 = 1 ∨ (itA I k).2.2.1 = 2)
theorem mns_k {nm : List Nat} {kd : Int32} {pl : Nat} {mf : Option Nat} (hk : kd = 0 ∨ kd = 1 ∨ kd = 2) (h : (mns I nm kd pl mf).2 = none) : mf = none ∧ knd I nm := by
  unfold mns at h
  cases hi : itK I nm with
  | none =>
    rw [hi] at h
    have := (omin_0.mp h).2
    cases this
  | some k =>
    rw [hi] at h
    dsimp only at h
    by_cases c : (itA I k).2.2.1 = kd
    · rw [if_pos c] at h
      exact ⟨h, k, hi, by rw [c]; exact hk⟩
    · rw [if_neg c] at h
      have := (omin_0.mp h).2
      cases this
theorem mstA_n : ∀ {A : List (Int32 × Nat)} {pt : Nat → Int32} {k : Nat} {mf : Option Nat}, (mstA A pt k mf).2 = none → mf = none
  | [], _, _, _, h => h
  | a :: A, pt, k, mf, h => (omin_0.mp (mstA_n (A := A) h)).1
theorem tcal_n {P : List (Int32 × Nat)} {mf : Option Nat} (h : (tcal I x P mf).2 = none) : mf = none ∧ knd I x.2.2.1 := by
  unfold tcal at h
  cases hm : (mns I x.2.2.1 2 x.2.2.2 mf).1 with
  | none =>
    rw [hm] at h
    exact mns_k (Or.inr (Or.inr rfl)) h
  | some k =>
    rw [hm] at h
    dsimp only at h
    have hk : knd I x.2.2.1 := by
      unfold mns at hm
      cases hi : itK I x.2.2.1 with
      | none => rw [hi] at hm; cases hm
      | some k' =>
        rw [hi] at hm
        dsimp only at hm
        by_cases c : (itA I k').2.2.1 = 2
        · exact ⟨k', hi, Or.inr (Or.inr c)⟩
        · rw [if_neg c] at hm; cases hm
    refine ⟨?_, hk⟩
    have h1 : (tcl1 I x k mf).2 = none → mf = none := fun hh => by
      unfold tcl1 at hh
      by_cases c : (itA I k).2.2.2.2.1 = x.2.1 ∧ (itA I k).2.1 = (if x.1 = 204 then 2 else 3)
      · rw [if_pos c] at hh; exact hh
      · rw [if_neg c] at hh; exact (omin_0.mp hh).1
    split at h
    · exact h1 (mstA_n h)
    · exact h1 h
theorem tr2_n {ity : Int32} (h : (tr2 I ity x s).2.2 = none) : s.2.2 = none ∧ (200 ≤ x.1 → x.1 ≤ 205 → knd I x.2.2.1) := by
  unfold tr2 at h
  by_cases c1 : x.1 = 5
  · rw [if_pos c1] at h
    refine ⟨?_, fun _ _ => by omega⟩
    unfold tpop at h
    split at h
    · exact (omin_0.mp h).1
    · exact h
  rw [if_neg c1] at h
  by_cases c2 : x.1 = 207
  · rw [if_pos c2] at h
    refine ⟨?_, fun _ _ => by omega⟩
    unfold tdcl at h
    split at h
    · exact h
    · exact h
  rw [if_neg c2] at h
  by_cases c3 : x.1 = 201
  · rw [if_pos c3] at h
    unfold tasg at h
    split at h
    · have := mns_k (Or.inl rfl) (omin_0.mp h).1
      exact ⟨this.1, fun _ _ => this.2⟩
    · have := mns_k (Or.inl rfl) h
      exact ⟨this.1, fun _ _ => this.2⟩
  rw [if_neg c3] at h
  by_cases c4 : x.1 = 203
  · rw [if_pos c4] at h
    unfold tse2 at h
    split at h
    · have := mns_k (Or.inr (Or.inl rfl)) (omin_0.mp (omin_0.mp h).1).1
      exact ⟨this.1, fun _ _ => this.2⟩
    · have := mns_k (Or.inr (Or.inl rfl)) h
      exact ⟨this.1, fun _ _ => this.2⟩
  rw [if_neg c4] at h
  by_cases c5 : x.1 = 205
  · rw [if_pos c5] at h
    have := tcal_n h
    exact ⟨this.1, fun _ _ => this.2⟩
  rw [if_neg c5] at h
  by_cases c6 : x.1 = 208
  · rw [if_pos c6] at h
    refine ⟨?_, fun _ _ => by omega⟩
    unfold tchk at h
    split at h
    · exact (omin_0.mp h).1
    · exact h
  rw [if_neg c6] at h
  by_cases c7 : x.1 = 11
  · rw [if_pos c7] at h
    refine ⟨?_, fun _ _ => by omega⟩
    unfold tpop at h
    split at h
    · exact (omin_0.mp h).1
    · exact h
  rw [if_neg c7] at h
  by_cases c8 : x.1 = 15 ∨ x.1 = 17
  · rw [if_pos c8] at h
    exact ⟨h, fun _ _ => by omega⟩
  rw [if_neg c8] at h
  by_cases c9 : x.1 = 12 ∨ x.1 = 13 ∨ x.1 = 14 ∨ x.1 = 16
  · rw [if_pos c9] at h
    exact ⟨h, fun _ _ => by omega⟩
  rw [if_neg c9] at h
  unfold tr1 at h
  by_cases d1 : x.1 = 1
  · rw [if_pos d1] at h
    exact ⟨h, fun _ _ => by omega⟩
  rw [if_neg d1] at h
  by_cases d2 : x.1 = 2 ∨ x.1 = 3
  · rw [if_pos d2] at h
    exact ⟨h, fun _ _ => by omega⟩
  rw [if_neg d2] at h
  by_cases d3 : x.1 = 4
  · rw [if_pos d3] at h
    exact ⟨h, fun _ _ => by omega⟩
  rw [if_neg d3] at h
  by_cases d4 : x.1 = 200
  · rw [if_pos d4] at h
    have := mns_k (Or.inl rfl) h
    exact ⟨this.1, fun _ _ => this.2⟩
  rw [if_neg d4] at h
  by_cases d5 : x.1 = 202
  · rw [if_pos d5] at h
    unfold tcel at h
    split at h
    · have := mns_k (Or.inr (Or.inl rfl)) h
      exact ⟨(omin_0.mp this.1).1, fun _ _ => this.2⟩
    · have := mns_k (Or.inr (Or.inl rfl)) h
      exact ⟨this.1, fun _ _ => this.2⟩
  rw [if_neg d5] at h
  by_cases d6 : x.1 = 204
  · rw [if_pos d6] at h
    have := tcal_n h
    exact ⟨this.1, fun _ _ => this.2⟩
  rw [if_neg d6] at h
  refine ⟨?_, fun _ _ => by omega⟩
  by_cases d7 : x.1 = 206
  · rw [if_pos d7] at h
    unfold tpar at h
    split at h
    · exact h
    · exact h
  rw [if_neg d7] at h
  by_cases d8 : x.1 = 19
  · rw [if_pos d8] at h
    unfold tun at h
    split at h
    · exact (omin_0.mp h).1
    · exact h
  rw [if_neg d8] at h
  by_cases d9 : x.1 = 20
  · rw [if_pos d9] at h
    unfold tun at h
    split at h
    · exact (omin_0.mp h).1
    · exact h
  rw [if_neg d9] at h
  unfold tbi at h
  split at h
  · split at h
    · exact (omin_0.mp h).1
    · exact (omin_0.mp (omin_0.mp h).1).1
  · exact h
/-- all names of the steps -/
def NKr (I : List It) (r : List Rw) : Prop := ∀ x ∈ r, 200 ≤ x.1 → x.1 ≤ 205 → knd I x.2.2.1
theorem trs2_n {ity : Int32} : ∀ {r : List Rw} {s : T3}, (trs2 I ity r s).2.2 = none → s.2.2 = none ∧ NKr I r
  | [], s, h => ⟨h, fun x hx => absurd hx List.not_mem_nil⟩
  | x :: r, s, h => by
    obtain ⟨h1, h2⟩ := trs2_n (r := r) h
    obtain ⟨h3, h4⟩ := tr2_n h1
    refine ⟨h3, fun y hy => ?_⟩
    rcases List.mem_cons.mp hy with h5 | h5
    · rw [h5]; exact h4
    · exact h2 y h5
/-- what is needed, one time each -/
def NK (I : List It) (N : List Nat) : Prop := N.Nodup ∧ ∀ x ∈ N, x < I.length ∧ itK I (itA I x).1 = some x ∧ ((itA I x).2.2.1 = 0 ∨ (itA I x).2.2.1 = 1 ∨ (itA I x).2.2.1 = 2)
variable {As : List Ri}
theorem NK_c (hB : itsB As) (hrel : iRel As I) : ∀ (m : Nat) (N : List Nat), m ≤ As.length → N.Nodup → (∀ x ∈ N, x < m ∧ ((itA I x).2.2.1 = 0 ∨ (itA I x).2.2.1 = 1 ∨ (itA I x).2.2.1 = 2)) → N.length ≤ cnK (As.take m) 0 + cnK (As.take m) 1 + cnK (As.take m) 2 := by
  intro m
  induction m with
  | zero =>
    intro N _ _ h
    cases N with
    | nil => simp
    | cons x N => have := (h x (List.mem_cons_self ..)).1; omega
  | succ m ih =>
    intro N hm hN h
    have hml : m < As.length := by omega
    have htk : As.take (m + 1) = As.take m ++ [As[m]] := by rw [List.take_succ, List.getElem?_eq_getElem hml]; rfl
    rw [htk, cnK_a, cnK_a, cnK_a]
    by_cases hmN : m ∈ N
    · have h1 := ih (N.erase m) (by omega) (hN.erase m) (fun x hx => by
        have hxN := List.mem_of_mem_erase hx
        have h2 := h x hxN
        refine ⟨?_, h2.2⟩
        have : x ≠ m := fun hh => hN.not_mem_erase (hh ▸ hx)
        omega)
      rw [List.length_erase_of_mem hmN] at h1
      have hk := (h m hmN).2
      obtain ⟨a, ha, hio⟩ := iRel_a2 hrel (k := m) (by rw [hrel.1]; exact hml)
      have ha2 : As[m] = a := by
        rw [List.getElem?_eq_getElem hml] at ha
        exact Option.some.inj ha
      have hW := (hB.2 a (List.mem_of_getElem? ha)).1
      have hlt := kdf_lt hW
      rw [hio.2.2.1] at hk
      have hk2 : kdf (riF a) = 0 ∨ kdf (riF a) = 1 ∨ kdf (riF a) = 2 := by
        rcases hk with hk | hk | hk
        · exact Or.inl ((oN_e (b := 0) (by omega) (by omega)).mp hk)
        · exact Or.inr (Or.inl ((oN_e (b := 1) (by omega) (by omega)).mp hk))
        · exact Or.inr (Or.inr ((oN_e (b := 2) (by omega) (by omega)).mp hk))
      have hc : cnK [As[m]] 0 + cnK [As[m]] 1 + cnK [As[m]] 2 = 1 := by
        rw [ha2]
        simp only [cnK]
        rcases hk2 with hk2 | hk2 | hk2 <;> (change kdf a.1 = _ at hk2; rw [hk2]; simp)
      omega
    · have h1 := ih N (by omega) hN (fun x hx => by
        have h2 := h x hx
        refine ⟨?_, h2.2⟩
        have : x ≠ m := fun hh => hmN (hh ▸ hx)
        omega)
      omega
theorem NK_30 {N : List Nat} (hB : itsB As) (hrel : iRel As I) (h : NK I N) : N.length ≤ 30 := by
  have h1 := NK_c hB hrel As.length N (Nat.le_refl _) h.1 (fun x hx => ⟨by rw [← hrel.1]; exact (h.2 x hx).1, (h.2 x hx).2.2⟩)
  rw [List.take_length] at h1
  have h2 := hB.1 0
  have h3 := hB.1 1
  have h4 := hB.1 2
  simp only [mst] at h2 h3 h4
  simp at h2 h3 h4
  omega
theorem ix_no {N : List Nat} {x : Nat} : ∀ {j : Nat}, ix N x j = none → x ∉ N := by
  induction N with
  | nil => intro j _; simp
  | cons a N ih =>
    intro j h
    unfold ix at h
    by_cases c : a = x
    · rw [if_pos c] at h; cases h
    · rw [if_neg c] at h
      intro hx
      rcases List.mem_cons.mp hx with h1 | h1
      · exact c h1.symm
      · exact ih h h1
theorem ix_at {N : List Nat} {x : Nat} : ∀ {j i : Nat}, ix N x j = some i → j ≤ i ∧ N[i - j]? = some x ∧ ∀ u, j ≤ u → u < i → N[u - j]? ≠ some x := by
  induction N with
  | nil => intro j i h; unfold ix at h; cases h
  | cons a N ih =>
    intro j i h
    unfold ix at h
    by_cases c : a = x
    · rw [if_pos c] at h
      cases h
      refine ⟨Nat.le_refl _, by rw [Nat.sub_self, c]; rfl, fun u h1 h2 => by omega⟩
    · rw [if_neg c] at h
      obtain ⟨h1, h2, h3⟩ := ih h
      refine ⟨by omega, ?_, fun u h4 h5 => ?_⟩
      · rw [show i - j = i - (j + 1) + 1 by omega, List.getElem?_cons_succ]
        exact h2
      · by_cases hu : u = j
        · rw [hu, Nat.sub_self, List.getElem?_cons_zero]
          exact fun hh => c (Option.some.inj hh)
        · rw [show u - j = u - (j + 1) + 1 by omega, List.getElem?_cons_succ]
          exact h3 u (by omega) h5
theorem nid_k {N : List Nat} {nm : List Nat} {x : Nat} (hB : itsB As) (hrel : iRel As I) (h : NK I N) (hx : itK I nm = some x) (hk : (itA I x).2.2.1 = 0 ∨ (itA I x).2.2.1 = 1 ∨ (itA I x).2.2.1 = 2) : NK I (nid N x).2 ∧ ((∃ k, ix N x 0 = some k ∧ nid N x = (k, N)) ∨ (ix N x 0 = none ∧ nid N x = (N.length, N ++ [x]))) := by
  unfold nid
  cases hi : ix N x 0 with
  | some k => exact ⟨h, Or.inl ⟨k, rfl, rfl⟩⟩
  | none =>
    have hno := ix_no hi
    have hNx : NK I (N ++ [x]) := by
      refine ⟨List.nodup_append.mpr ⟨h.1, by simp, fun a ha b hb => ?_⟩, fun y hy => ?_⟩
      · rw [List.mem_singleton.mp hb]
        exact fun hh => hno (hh ▸ ha)
      · rcases List.mem_append.mp hy with h1 | h1
        · exact h.2 y h1
        · rw [List.mem_singleton.mp h1]
          exact ⟨itK_lt hx, by rw [itK_n hx]; exact hx, hk⟩
    have h30 := NK_30 hB hrel hNx
    simp at h30
    dsimp only
    rw [if_pos (by omega)]
    exact ⟨hNx, Or.inr ⟨rfl, rfl⟩⟩
end MNK
