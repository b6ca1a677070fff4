
/-! ===== the reference reads items: one item, all items ===== -/
def rit1 (a : Ri) (k i : Nat) (σ : my_S) : Prop := σ.1 501 k = Int32.ofNat (riF a + 10) ∧ σ.2.1 502 k = nmR (riN a) ∧ (riF a ≠ 1 → σ.1 503 k = riT a) ∧ (riF a ≤ 1 → σ.1 504 k = riV a) ∧ (riF a = 0 → σ.1 505 k = riC a ∧ σ.1 506 k = Int32.ofNat (riP a)) ∧ σ.1 507 k = Int32.ofNat (riQ a).length ∧ ptm k (riQ a) σ ∧ (2 ≤ riF a → σ.1 509 k = Int32.ofNat i ∧ σ.1 510 k = Int32.ofNat (i + (riR a).length) ∧ σ.1 511 k = Int32.ofNat (riL a).length)
def rit : List Ri → Nat → Nat → my_S → Prop
  | [], _, _, _ => True
  | a :: r, k, i, σ => rit1 a k i σ ∧ rit r (k + 1) (i + (riR a).length) σ
def rwA : List Ri → List Rw
  | [] => []
  | a :: r => riR a ++ rwA r
theorem rwA_a : ∀ {A B : List Ri}, rwA (A ++ B) = rwA A ++ rwA B
  | [], B => rfl
  | a :: A, B => by rw [List.cons_append, rwA, rwA, rwA_a, List.append_assoc]
theorem rit_a {σ : my_S} {a : Ri} : ∀ {As : List Ri} {k i : Nat}, rit As k i σ → rit1 a (k + As.length) (i + (rwA As).length) σ → rit (As ++ [a]) k i σ
  | [], k, i, _, h => ⟨by simpa [rwA] using h, trivial⟩
  | b :: As, k, i, h1, h2 => ⟨h1.1, rit_a h1.2 (by
      have e1 : k + 1 + As.length = k + (b :: As).length := by simp; omega
      have e2 : i + (riR b).length + (rwA As).length = i + (rwA (b :: As)).length := by simp [rwA]; omega
      rw [e1, e2]; exact h2)⟩
theorem rit_at {σ : my_S} : ∀ {As : List Ri} {k i j : Nat} {a : Ri}, rit As k i σ → As[j]? = some a → rit1 a (k + j) (i + (rwA (As.take j)).length) σ
  | [], _, _, _, _, _, h => by simp at h
  | b :: As, k, i, 0, a, h, hj => by
    simp only [List.getElem?_cons_zero, Option.some.injEq] at hj
    subst hj
    simpa [rwA] using h.1
  | b :: As, k, i, j + 1, a, h, hj => by
    simp only [List.getElem?_cons_succ] at hj
    have := rit_at h.2 hj
    have e1 : k + 1 + j = k + (j + 1) := by omega
    have e2 : i + (riR b).length + (rwA (As.take j)).length = i + (rwA ((b :: As).take (j + 1))).length := by simp [rwA]; omega
    rw [e1, e2] at this
    exact this
theorem rit1_o {F : Nat → Nat → Prop} {σ σ' : my_S} {a : Ri} {k i : Nat} (he : eqp F σ σ') (hF : ∀ c j, F c j → (501 ≤ c → c ≤ 511 → c ≠ 508 → j ≠ k) ∧ (c = 508 → 4 * (k + 1) ≤ j)) (h4 : (riQ a).length ≤ 4) (h : rit1 a k i σ) : rit1 a k i σ' := by
  obtain ⟨h1, h2, h3, h4', h5, h6, h7, h8⟩ := h
  have g : ∀ {c}, 501 ≤ c → c ≤ 511 → c ≠ 508 → ¬ F c k := fun hc1 hc2 hc3 hh => (hF _ _ hh).1 hc1 hc2 hc3 rfl
  refine ⟨(eqp_g he (g (by omega) (by omega) (by omega))).trans h1, ((he _ _ (g (by omega) (by omega) (by omega))).2.1).trans h2, fun hx => (eqp_g he (g (by omega) (by omega) (by omega))).trans (h3 hx), fun hx => (eqp_g he (g (by omega) (by omega) (by omega))).trans (h4' hx), fun hx => ⟨(eqp_g he (g (by omega) (by omega) (by omega))).trans (h5 hx).1, (eqp_g he (g (by omega) (by omega) (by omega))).trans (h5 hx).2⟩, (eqp_g he (g (by omega) (by omega) (by omega))).trans h6, fun j x hj => ?_, fun hx => ⟨(eqp_g he (g (by omega) (by omega) (by omega))).trans (h8 hx).1, (eqp_g he (g (by omega) (by omega) (by omega))).trans (h8 hx).2.1, (eqp_g he (g (by omega) (by omega) (by omega))).trans (h8 hx).2.2⟩⟩
  have hjl : j < (riQ a).length := (List.getElem?_eq_some_iff.mp hj).1
  exact (eqp_g he (fun hh => by have := (hF _ _ hh).2 rfl; omega)).trans (h7 j x hj)
theorem rit_o {F : Nat → Nat → Prop} {σ σ' : my_S} (he : eqp F σ σ') : ∀ {As : List Ri} {k i : Nat}, (∀ c j, F c j → (501 ≤ c → c ≤ 511 → c ≠ 508 → k + As.length ≤ j) ∧ (c = 508 → 4 * (k + As.length) ≤ j)) → (∀ a ∈ As, (riQ a).length ≤ 4) → rit As k i σ → rit As k i σ'
  | [], _, _, _, _, _ => trivial
  | a :: As, k, i, hF, h4, h => ⟨rit1_o he (fun c j hh => ⟨fun h1 h2 h3 => by have := (hF c j hh).1 h1 h2 h3; simp at this; omega, fun h1 => by have := (hF c j hh).2 h1; simp at this; omega⟩) (h4 a (List.mem_cons_self ..)) h.1, rit_o he (fun c j hh => ⟨fun h1 h2 h3 => by have := (hF c j hh).1 h1 h2 h3; simp at this; omega, fun h1 => by have := (hF c j hh).2 h1; simp at this; omega⟩) (fun b hb => h4 b (List.mem_cons_of_mem _ hb)) h.2⟩
/-- the items so far -/
def RI (As : List Ri) (σ : my_S) : Prop := σ.1 498 11 = Int32.ofNat As.length ∧ rit As 0 0 σ
theorem RI_n {As : List Ri} {σ : my_S} (hB : itsB As) (h : RI As σ) : rnm (rno As) σ := by
  refine ⟨by rw [h.1]; unfold rno; simp, by unfold rno; rw [List.length_map]; exact itsB_42 hB, fun l hl => ?_, fun j l hj => ?_⟩
  · obtain ⟨a, ha, rfl⟩ := List.mem_map.mp hl
    exact (hB.2 a ha).2.1
  · unfold rno at hj
    rw [List.getElem?_map] at hj
    cases ha : As[j]? with
    | none => rw [ha] at hj; cases hj
    | some a =>
      rw [ha] at hj
      cases hj
      have := (rit_at h.2 ha).2.1
      rw [Nat.zero_add] at this
      exact this
/-- what reading items takes -/
def itF (k0 c k : Nat) : Prop := sF c k ∨ (c = 498 ∧ (k = 31 ∨ k = 11)) ∨ (501 ≤ c ∧ c ≤ 511 ∧ c ≠ 508 ∧ k = k0) ∨ (c = 508 ∧ 4 * k0 ≤ k)
theorem itF_g {k0 c k : Nat} (h : gF k0 c k) : itF k0 c k := by unfold gF eF at h; unfold itF sF eF; omega
theorem itF_b {k0 c k : Nat} (h : bdF k0 c k) : itF k0 c k := by unfold bdF sF eF at h; unfold itF sF eF; omega
theorem itF_e {k0 c k : Nat} (h : eF c k) : itF k0 c k := Or.inl (Or.inl h)
def isF (c k : Nat) : Prop := sF c k ∨ (c = 498 ∧ (k = 31 ∨ k = 11)) ∨ (501 ≤ c ∧ c ≤ 511)
theorem isF_i {k0 c k : Nat} (h : itF k0 c k) : isF c k := by unfold itF sF eF at h; unfold isF sF eF; omega
theorem tk_item {t : Nat → Int32} {n p : Nat} (ht : txt t n) : (10 ≤ kR (tkk t n p) ∧ kR (tkk t n p) ≤ 14) ↔ (300 ≤ tkk t n p ∧ tkk t n p ≤ 304) := by
  have h := tkk_gap (p := p) ht
  unfold kR
  repeat' split
  all_goals omega
section MIL
variable {e : my_E} {d : Nat} {κ : my_K} {σ : my_S} {Q : my_O → my_K → my_S → Prop} {t : Nat → Int32} {n : Nat}
def srt (f : Nat) : Nat := if f = 3 then 2 else f
theorem srt_k {f g : Nat} (hf : f ≤ 4) (hg : g ≤ 4) : srt f = srt g ↔ kdf f = kdf g := by
  unfold srt kdf
  split <;> split <;> split <;> split <;> omega
theorem r_228 {f : Nat} (hf : f ≤ 4) (hd : 1 ≤ d) (hQ : Q (.inl (some (.inl (Int32.ofNat (srt f + 10))))) κ σ) : my_M e d 228 [.inl (Int32.ofNat (f + 10))] κ σ Q := by
  obtain ⟨d, rfl⟩ := dS 1 hd
  refine ys_228 ?_
  unfold ys_228_0 ys_228_12
  unfold srt at hQ
  by_cases h3 : f = 3
  · rw [if_pos h3] at hQ
    rw [if_pos (by rw [h3]; rfl)]
    exact hQ
  · rw [if_neg h3] at hQ
    rw [if_neg (fun hh => h3 (by have := (oN_e (a := f + 10) (b := 13) (by omega) (by omega)).mp hh; omega))]
    exact hQ
/-- how many of a kind there are -/
theorem r_227l {As : List Ri} {f : Nat} (hf : f ≤ 4) (hB : itsB As) (hI : RI As σ) (hd : 1 ≤ d) : ∀ (m j c : Nat), j + m = As.length → c ≤ j → Q (.inl (some (.inl (Int32.ofNat (c + cnK (As.drop j) (kdf f)))))) κ σ → ys_227_4 e d (Int32.ofNat (f + 10)) (Int32.ofNat c) (Int32.ofNat j) κ σ Q := by
  intro m
  induction m with
  | zero =>
    intro j c hj hc hQ
    have h42 := itsB_42 hB
    unfold ys_227_4
    rw [hI.1, if_neg (by rw [oN_lt (by omega) (by omega)]; omega)]
    rw [List.drop_of_length_le (by omega)] at hQ
    exact hQ
  | succ m ih =>
    intro j c hj hc hQ
    have h42 := itsB_42 hB
    unfold ys_227_4
    rw [hI.1, if_pos (by rw [oN_lt (by omega) (by omega)]; omega), oN_n (by omega)]
    refine ⟨⟨by rw [oN_i (by omega)]; omega, by rw [oN_i (by omega)]; omega⟩, ?_⟩
    have hjl : j < As.length := by omega
    have ha := List.getElem?_eq_getElem hjl
    have h1 := (rit_at hI.2 ha).1
    rw [Nat.zero_add] at h1
    have hF := (hB.2 _ (List.getElem_mem hjl)).1
    rw [h1]
    refine r_228 hF hd ?_
    rw [my_kI_v]
    refine r_228 hf hd ?_
    rw [my_kI_v]
    rw [List.drop_eq_getElem_cons hjl, cnK] at hQ
    have nxt : ∀ x : Nat, c + x ≤ j + 1 → c + x + cnK (As.drop (j + 1)) (kdf f) = c + ((if kdf As[j].1 = kdf f then 1 else 0) + cnK (As.drop (j + 1)) (kdf f)) → ys_227_34 e d (Int32.ofNat (f + 10)) (Int32.ofNat j) (Int32.ofNat x) (Int32.ofNat c) κ σ Q := fun x hx he => by
      unfold ys_227_34
      rw [oN_a, oN_s]
      refine ys_227_4_ok (ih (j + 1) (c + x) (by omega) hx ?_)
      rw [he]
      exact hQ
    refine my_if (fun hh => ?_) (fun hh => ?_)
    · have hs : srt (riF As[j]) = srt f := by
        have := (oN_e (by unfold srt; split <;> omega) (by unfold srt; split <;> omega)).mp hh
        omega
      have hk := (srt_k hF hf).mp hs
      exact nxt 1 (by omega) (by rw [if_pos hk]; omega)
    · have hk : ¬ kdf (riF As[j]) = kdf f := fun hk => hh (by rw [(srt_k hF hf).mpr hk])
      exact nxt 0 (by omega) (by rw [if_neg hk]; omega)
theorem r_227 {As : List Ri} {f : Nat} (hf : f ≤ 4) (hB : itsB As) (hI : RI As σ) (hd : 2 ≤ d) (hQ : Q (.inl (some (.inl (Int32.ofNat (cnK As (kdf f)))))) κ σ) : my_M e d 227 [.inr (.inr (some 498)), .inl (Int32.ofNat (f + 10))] κ σ Q := by
  obtain ⟨d, rfl⟩ := dS 1 (show 1 ≤ d by omega)
  refine ys_227 ?_
  unfold ys_227_0
  exact ys_227_4_ok (r_227l hf hB hI (by omega) As.length 0 0 (by omega) (by omega) (by simpa using hQ))
/-- the items stay, but for the last -/
theorem RI_o {F : Nat → Nat → Prop} {As : List Ri} {σ' : my_S} (hB : itsB As) (h : RI As σ) (he : eqp F σ σ') (hF : ∀ c k, F c k → (c = 498 → k ≠ 11) ∧ (501 ≤ c → c ≤ 511 → c ≠ 508 → As.length ≤ k) ∧ (c = 508 → 4 * As.length ≤ k)) : RI As σ' :=
  ⟨(eqp_g he (fun hh => (hF _ _ hh).1 rfl rfl)).trans h.1, rit_o he (fun c j hh => by have := (hF c j hh).2; rw [Nat.zero_add]; exact this) (fun a ha => (hB.2 a ha).2.2.1) h.2⟩
/-- one item -/
theorem r_224 {As : List Ri} {p : Nat} {R : List Rw} (ht : txt t n) (hd : 14 ≤ d) (hb : bX n 0 (.inr (p, 0, R))) (h : RG t n R p 0 σ) (hB : itsB As) (hI : RI As σ) (hR : R = rwA As)
    (hf : ∀ q N' σ', pit t n As R.length p = .inl q → q ≤ 1500 → RF t n q N' σ' → eqp isF σ σ' → Q (.inl none) κ σ')
    (hQ : ∀ a q σ', pit t n As R.length p = .inr (a, q) → RG t n (R ++ riR a) q 0 σ' → bX n 0 (.inr (q, 0, R ++ riR a)) → RI (As ++ [a]) σ' → eqp isF σ σ' → Q (.inl none) κ σ') : my_M e d 224 [.inr (.inr (some 498))] κ σ Q := by
  obtain ⟨d, rfl⟩ := dS 1 (show 1 ≤ d by omega)
  have h42 := itsB_42 hB
  have hn := ht.1
  obtain ⟨_, hp, hRp⟩ := hb
  have hPB := pit_B (As := As) (i := R.length) ht hp
  refine ys_224 ?_
  unfold ys_224_0
  have hK := kR_bd (p := p) ht
  -- the word that begins it
  have key : ∀ m : Int32, (∀ f, tkk t n p = f + 300 → f ≤ 4 → m = Int32.ofNat (mst (kdf f))) → ys_224_39 e d (σ.1 498 4) m κ σ Q := fun m hm => by
    unfold ys_224_39
    have h4 : σ.1 498 4 = Int32.ofNat (kR (tkk t n p)) := h.1.2.2.2.1
    have bad : ¬ (300 ≤ tkk t n p ∧ tkk t n p ≤ 304) → ys_224_52 e d κ σ Q := fun hh => by
      unfold ys_224_52
      rw [h.1.2.2.2.2.1]
      obtain ⟨d, rfl⟩ := dS 1 (show 1 ≤ d by omega)
      refine RG_bad (q := p) (N := R.length) h (Nat.le_refl _) (fun σ1 g1 f1 => ?_)
      rw [my_k0_v]
      exact hf p R.length σ1 (by unfold pit; rw [if_neg hh]) (by omega) g1 (eqp_mo f1 (fun _ _ hh => Or.inl (Or.inl hh)))
    have kk : (10 ≤ kR (tkk t n p) ∧ kR (tkk t n p) ≤ 14) ↔ (300 ≤ tkk t n p ∧ tkk t n p ≤ 304) := tk_item ht
    rw [h4]
    refine my_if (fun hl => bad (fun hh => ?_)) (fun hl => my_if (fun hg => bad (fun hh => ?_)) (fun hg => ?_))
    · have := (oN_lt1 (b := 10) (c := 10) rfl (by omega) (by omega)).mp hl
      have := kk.mpr hh
      omega
    · have := (oN_lt (p := 14) (by omega) (by omega)).mp hg
      have := kk.mpr hh
      omega
    have hh : 300 ≤ tkk t n p ∧ tkk t n p ≤ 304 := kk.mp ⟨by
      rcases Nat.lt_or_ge (kR (tkk t n p)) 10 with hx | hx
      · exact absurd ((oN_lt1 (b := 10) (c := 10) rfl (by omega) (by omega)).mpr hx) hl
      · exact hx, by
      rcases Nat.lt_or_ge 14 (kR (tkk t n p)) with hx | hx
      · exact absurd ((oN_lt (p := 14) (by omega) (by omega)).mpr hx) hg
      · exact hx⟩
    obtain ⟨f, hfp⟩ : ∃ f, tkk t n p = f + 300 := ⟨tkk t n p - 300, by omega⟩
    have hf4 : f ≤ 4 := by omega
    have hkr : kR (tkk t n p) = f + 10 := by rw [hfp]; unfold kR; rw [if_pos (by omega)]; omega
    have hm := hm f hfp hf4
    rw [hkr]
    have bp := nx_b (p := p) ht (by omega)
    have b1 : bX n 0 (.inr (nx t n p, 0, R)) := ⟨by omega, bp.2.2, by omega⟩
    refine K_nx (X := .inr (p, 0, R)) ht (by omega) h (fun σ1 g1 f1 => ?_)
    rw [my_k0_v]
    change RG t n R (nx t n p) 0 σ1 at g1
    have hI1 : RI As σ1 := RI_o hB hI f1 (fun c k hh => by unfold eF at hh; omega)
    have T2 := tkq (p := nx t n p) ht 2 (by omega) g1.1.2.2.2.1 (y := 2) rfl
    have bad2 : ∀ σ1, RG t n R (nx t n p) 0 σ1 → eqp eF σ σ1 → ¬ (tkk t n (nx t n p) = 2 ∧ kwi (rno As) (tkm t n (nx t n p)) 0 = none ∧ cnK As (kdf f) < mst (kdf f)) → ys_224_93 e d κ σ1 Q := fun σ1 g1 f1 hx => by
      unfold ys_224_93
      rw [g1.1.2.2.2.2.1]
      obtain ⟨d, rfl⟩ := dS 1 (show 1 ≤ d by omega)
      refine RG_bad (q := nx t n p) (N := R.length) g1 (Nat.le_refl _) (fun σ2 g2 f2 => ?_)
      rw [my_k0_v]
      exact hf (nx t n p) R.length σ2 (by unfold pit; rw [if_pos hh, hfp, Nat.add_sub_cancel, if_neg hx]) (by omega) g2 (eqp_mo (eqp_tr f1 f2) (fun _ _ hh => Or.inl (Or.inl hh)))
    refine my_if (fun h2 => ?_) (fun h2 => bad2 σ1 g1 f1 (fun hx => h2 (T2.mpr hx.1)))
    have h2 := T2.mp h2
    have hNm := (tk2_N h2 ht).1
    have h8 : σ1.2.1 498 8 = nmR (tkm t n (nx t n p)) := g1.1.2.2.2.2.2.2.1 h2
    rw [h8]
    refine r_226 hNm (RI_n hB hI1) (by omega) ?_
    rw [my_kI_v]
    have ixl := ixO_lt (x := kwi (rno As) (tkm t n (nx t n p)) 0) (fun i hi => by have := kwi_lt hi; unfold rno at this; simp at this; omega)
    refine my_if (fun hi => ?_) (fun hi => bad2 σ1 g1 f1 (fun hx => hi (ixl.mpr hx.2.1)))
    have hi := ixl.mp hi
    refine r_227 hf4 hB hI1 (by omega) ?_
    rw [my_kI_v, hm]
    have hcB := hB.1 (kdf f)
    have hms : mst (kdf f) ≤ 16 := by unfold mst; split <;> (try split) <;> (try split) <;> omega
    refine my_if (fun hc => bad2 σ1 g1 f1 (fun hx => ?_)) (fun hc => ?_)
    · have := (oN_e (by omega) (by omega)).mp hc
      omega
    have hc : cnK As (kdf f) < mst (kdf f) := by
      rcases Nat.lt_or_ge (cnK As (kdf f)) (mst (kdf f)) with hx | hx
      · exact hx
      · exact absurd (by rw [show cnK As (kdf f) = mst (kdf f) by omega]) hc
    have hpit : pit t n As R.length p = pi2 t n (rno As) f R.length (tkm t n (nx t n p)) (nx t n (nx t n p)) := by
      unfold pit
      rw [if_pos hh, hfp, Nat.add_sub_cancel, if_pos ⟨h2, hi, hc⟩]
    have bd := bd48 h42
    rw [hI1.1, oN_n (by omega), h8]
    refine ⟨bd, bd, bd, ?_⟩
    have he : eqp (fun c k => (c = 501 ∨ c = 502 ∨ c = 507) ∧ k = As.length) σ1 (my_uI (my_uL (my_uI σ1 501 As.length (Int32.ofNat (f + 10))) 502 As.length (nmR (tkm t n (nx t n p)))) 507 As.length 0) := eqp_I (eqp_L (eqp_I eqp_rf (by omega)) (by omega)) (by omega)
    have w1 : (my_uI (my_uL (my_uI σ1 501 As.length (Int32.ofNat (f + 10))) 502 As.length (nmR (tkm t n (nx t n p)))) 507 As.length 0).1 501 As.length = Int32.ofNat (f + 10) := by rw [uI_o (by omega), my_uL_1, uI_s]
    have w2 : (my_uI (my_uL (my_uI σ1 501 As.length (Int32.ofNat (f + 10))) 502 As.length (nmR (tkm t n (nx t n p)))) 507 As.length 0).2.1 502 As.length = nmR (tkm t n (nx t n p)) := by rw [my_uI_2, my_uL_2, if_pos ⟨rfl, rfl⟩]
    have w7 : (my_uI (my_uL (my_uI σ1 501 As.length (Int32.ofNat (f + 10))) 502 As.length (nmR (tkm t n (nx t n p)))) 507 As.length 0).1 507 As.length = 0 := uI_s
    have g2 := RG_o g1 he (fun c k hh => by omega)
    have hI2 : RI As (my_uI (my_uL (my_uI σ1 501 As.length (Int32.ofNat (f + 10))) 502 As.length (nmR (tkm t n (nx t n p)))) 507 As.length 0) := RI_o hB hI1 he (fun c k hh => by omega)
    generalize my_uI (my_uL (my_uI σ1 501 As.length (Int32.ofNat (f + 10))) 502 As.length (nmR (tkm t n (nx t n p)))) 507 As.length 0 = σ2 at he w1 w2 w7 g2 hI2 ⊢
    have bp2 := nx_b (p := nx t n p) ht (by omega)
    have b2 : bX n 0 (.inr (nx t n (nx t n p), 0, R)) := ⟨by omega, bp2.2.2, by omega⟩
    refine K_nx (X := .inr (nx t n p, 0, R)) ht (by omega) g2 (fun σ3 g3 f3 => ?_)
    rw [my_k0_v]
    change RG t n R (nx t n (nx t n p)) 0 σ3 at g3
    have hI3 : RI As σ3 := RI_o hB hI2 f3 (fun c k hh => by unfold eF at hh; omega)
    have u1 : σ3.1 501 As.length = Int32.ofNat (f + 10) := (eqp_g f3 (by unfold eF; omega)).trans w1
    have u2 : σ3.2.1 502 As.length = nmR (tkm t n (nx t n p)) := ((f3 _ _ (by unfold eF; omega)).2.1).trans w2
    have u7 : σ3.1 507 As.length = 0 := (eqp_g f3 (by unfold eF; omega)).trans w7
    have fr : eqp (itF As.length) σ σ3 := eqp_tr (eqp_tr (eqp_mo f1 (fun _ _ => itF_e)) (eqp_mo he (fun c k hh => by unfold itF sF eF; omega))) (eqp_mo f3 (fun _ _ => itF_e))
    -- a fault, at the end
    have flt : ∀ q N σ', pi2 t n (rno As) f R.length (tkm t n (nx t n p)) (nx t n (nx t n p)) = .inl q → q ≤ 1500 → RF t n q N σ' → eqp (itF As.length) σ3 σ' → ys_224_170 e d κ σ' Q := fun q N σ' hx hq g f' => by
      unfold ys_224_170
      refine hf q N _ (by rw [hpit]; exact hx) hq ?_ (eqp_I (eqp_mo (eqp_tr fr f') (fun _ _ => isF_i)) (Or.inr (Or.inl ⟨rfl, Or.inr rfl⟩)))
      exact RF_o (F := fun c k => c = 498 ∧ k = 11) g (eqp_I eqp_rf ⟨rfl, rfl⟩) (fun c k hh => by omega)
    -- an item, at the end
    have fin : ∀ a q σ', pi2 t n (rno As) f R.length (tkm t n (nx t n p)) (nx t n (nx t n p)) = .inr (a, q) → RG t n (R ++ riR a) q 0 σ' → rit1 a As.length R.length σ' → eqp (itF As.length) σ3 σ' → σ'.1 498 11 = Int32.ofNat As.length → ys_224_170 e d κ σ' Q := fun a q σ' hx g hr f' h11' => by
      unfold ys_224_170
      rw [h11', oN_s]
      have hpa := hPB.2 a q (by rw [hpit]; exact hx)
      have he' : eqp (fun c k => c = 498 ∧ k = 11) σ' (my_uI σ' 498 11 (Int32.ofNat (As.length + 1))) := eqp_I eqp_rf ⟨rfl, rfl⟩
      refine hQ a q _ (by rw [hpit]; exact hx) (RG_o g he' (fun c k hh => by omega)) ⟨by omega, hpa.2.1, by rw [List.length_append]; have := hpa.2.2.2.2.2.2.2.2.2.1; omega⟩ ⟨by rw [uI_s]; simp, ?_⟩ (eqp_I (eqp_mo (eqp_tr fr f') (fun _ _ => isF_i)) (Or.inr (Or.inl ⟨rfl, Or.inr rfl⟩)))
      have hW := (pit_W (As := As) (i := R.length) (p := p) (a := a) (q := q) ht hp (by rw [hpit]; exact hx))
      refine rit_a (rit_o (F := itF As.length) (eqp_I f' (by unfold itF sF eF; omega)) (fun c k hh => by unfold itF sF eF at hh; omega) (fun a ha => (hB.2 a ha).2.2.1) hI3.2) ?_
      rw [Nat.zero_add, Nat.zero_add, ← hR]
      exact rit1_o he' (fun c k hh => by omega) hW.2.2.1 hr
    unfold pi2 at flt fin
    have hRp2 := b2
    by_cases c0 : f = 0
    · subst c0
      rw [if_pos rfl] at flt fin
      rw [if_pos (by decide)]
      refine r_229 (nm := tkm t n (nx t n p)) (k0 := As.length) ht (by omega) h42 b2 g3 hI3.1 (fun X σ4 b4 g4 hl hr f4 => ?_)
      rw [my_k0_v]
      have e11 : σ4.1 498 11 = Int32.ofNat As.length := (eqp_g f4 (by unfold gF eF; omega)).trans hI3.1
      cases hx : pgl t n (tkm t n (nx t n p)) (nx t n (nx t n p)) with
      | inl q =>
        obtain ⟨N, rfl⟩ := hl q hx
        exact flt q N σ4 hx b4.1 g4 (eqp_mo f4 (fun _ _ => itF_g))
      | inr v =>
        obtain ⟨a, q⟩ := v
        obtain ⟨rfl, r3, r4, r5, r6⟩ := hr a q hx
        have hpb := (pgl_B (nm := tkm t n (nx t n p)) (p := nx t n (nx t n p)) ht bp2.2.2).2 a q hx
        have hRe : riR a = [] ∧ riQ a = [] := hpb.2.2.2.2.2.2.2.2.2.2.2.2.2.1 (by omega)
        refine fin a q σ4 hx (by rw [hRe.1, List.append_nil]; exact g4) ⟨?_, ?_, fun _ => r3, fun _ => r4, fun _ => ⟨r5, r6⟩, ?_, ?_, fun h2' => ?_⟩ (eqp_mo f4 (fun _ _ => itF_g)) e11
        · rw [hpb.2.2.1]; exact (eqp_g f4 (by unfold gF eF; omega)).trans u1
        · rw [hpb.2.2.2.1]; exact ((f4 _ _ (by unfold gF eF; omega)).2.1).trans u2
        · rw [hRe.2]; exact (eqp_g f4 (by unfold gF eF; omega)).trans u7
        · rw [hRe.2]; intro j x hj; simp at hj
        · rw [hpb.2.2.1] at h2'; omega
    · rw [if_neg c0] at flt fin
      rw [if_neg (fun hx => c0 (by have := (oN_e (a := f + 10) (b := 10) (by omega) (by omega)).mp hx; omega))]
      by_cases c1 : f = 1
      · subst c1
        rw [if_pos rfl] at flt fin
        rw [if_pos (by decide)]
        refine r_232 (nm := tkm t n (nx t n p)) (k0 := As.length) ht (by omega) h42 b2 g3 hI3.1 (fun X σ4 b4 g4 hl hr f4 => ?_)
        rw [my_k0_v]
        have e11 : σ4.1 498 11 = Int32.ofNat As.length := (eqp_g f4 (by unfold gF eF; omega)).trans hI3.1
        cases hx : par t n (tkm t n (nx t n p)) (nx t n (nx t n p)) with
        | inl q =>
          obtain ⟨N, rfl⟩ := hl q hx
          exact flt q N σ4 hx b4.1 g4 (eqp_mo f4 (fun _ _ => itF_g))
        | inr v =>
          obtain ⟨a, q⟩ := v
          obtain ⟨rfl, r4⟩ := hr a q hx
          have hpb := (par_B (nm := tkm t n (nx t n p)) (p := nx t n (nx t n p)) ht bp2.2.2).2 a q hx
          have hRe : riR a = [] ∧ riQ a = [] := hpb.2.2.2.2.2.2.2.2.2.2.2.2.2.1 (by omega)
          refine fin a q σ4 hx (by rw [hRe.1, List.append_nil]; exact g4) ⟨?_, ?_, fun h' => absurd hpb.2.2.1 h', fun _ => r4, fun h' => ?_, ?_, ?_, fun h2' => ?_⟩ (eqp_mo f4 (fun _ _ => itF_g)) e11
          · rw [hpb.2.2.1]; exact (eqp_g f4 (by unfold gF eF; omega)).trans u1
          · rw [hpb.2.2.2.1]; exact ((f4 _ _ (by unfold gF eF; omega)).2.1).trans u2
          · rw [hpb.2.2.1] at h'; omega
          · rw [hRe.2]; exact (eqp_g f4 (by unfold gF eF; omega)).trans u7
          · rw [hRe.2]; intro j x hj; simp at hj
          · rw [hpb.2.2.1] at h2'; omega
      · rw [if_neg c1] at flt fin
        rw [if_neg (fun hx => c1 (by have := (oN_e (a := f + 10) (b := 11) (by omega) (by omega)).mp hx; omega))]
        refine r_233 (k0 := As.length) (nm := tkm t n (nx t n p)) (NL := rno As) ht (by omega) (by omega) h42 b2 g3 hI3.1 ⟨hNm, u2⟩ (RI_n hB hI3) (fun q N σ4 hx hq g4 f4 => ?_) (fun a q σ4 hx g4 hbd f4 => ?_)
        · rw [my_k0_v]
          exact flt q N σ4 hx hq g4 (eqp_mo f4 (fun _ _ => itF_b))
        · rw [my_k0_v]
          have e11 : σ4.1 498 11 = Int32.ofNat As.length := (eqp_g f4 (by unfold bdF sF eF; omega)).trans hI3.1
          have hpb := (pbd_B (nm := tkm t n (nx t n p)) (Nf := rno As ++ [tkm t n (nx t n p)]) (i := R.length) (fm := f) (p := nx t n (nx t n p)) ht bp2.2.2 (by omega)).2 a q hx
          obtain ⟨s1, s2, s3, s4, s5, s6⟩ := hbd
          refine fin a q σ4 hx g4 ⟨?_, ?_, fun _ => s1, fun h' => ?_, fun h' => ?_, s2, s3, fun _ => ⟨s4, s5, s6⟩⟩ (eqp_mo f4 (fun _ _ => itF_b)) e11
          · rw [hpb.2.2.1]; exact (eqp_g f4 (by unfold bdF sF eF; omega)).trans u1
          · rw [hpb.2.2.2.1]; exact ((f4 _ _ (by unfold bdF sF eF; omega)).2.1).trans u2
          · rw [hpb.2.2.1] at h'; omega
          · rw [hpb.2.2.1] at h'; omega
  have h4 : σ.1 498 4 = Int32.ofNat (kR (tkk t n p)) := h.1.2.2.2.1
  have kf : ∀ f, tkk t n p = f + 300 → f ≤ 4 → σ.1 498 4 = Int32.ofNat (f + 10) := fun f hfp hf4 => by
    rw [h4, hfp]
    unfold kR
    rw [if_pos (by omega), show f + 300 - 290 = f + 10 by omega]
  refine my_if (fun c => key 10 (fun f h1 h2 => ?_)) (fun c10 => my_if (fun c => key 4 (fun f h1 h2 => ?_)) (fun c11 => my_if (fun c => key 12 (fun f h1 h2 => ?_)) (fun c14 => key 16 (fun f h1 h2 => ?_))))
  · have h5 := kf f h1 h2
    rw [c] at h5
    have := (oN_e (a := 10) (b := f + 10) (by omega) (by omega)).mp h5
    rw [show f = 0 by omega]; rfl
  · have h5 := kf f h1 h2
    rw [c] at h5
    have := (oN_e (a := 11) (b := f + 10) (by omega) (by omega)).mp h5
    rw [show f = 1 by omega]; rfl
  · have h5 := kf f h1 h2
    rw [c] at h5
    have := (oN_e (a := 14) (b := f + 10) (by omega) (by omega)).mp h5
    rw [show f = 4 by omega]; rfl
  · have h5 := kf f h1 h2
    have n0 : f ≠ 0 := fun hh => c10 (by rw [h5, hh]; rfl)
    have n1 : f ≠ 1 := fun hh => c11 (by rw [h5, hh]; rfl)
    have n4 : f ≠ 4 := fun hh => c14 (by rw [h5, hh]; rfl)
    have h23 : f = 2 ∨ f = 3 := by omega
    rcases h23 with rfl | rfl <;> rfl
/-- all items -/
theorem r_217l (ht : txt t n) (hd : 14 ≤ d) : ∀ (f : Nat) (As : List Ri) (p : Nat) (σ : my_S), 43 ≤ f + As.length → bX n 0 (.inr (p, 0, rwA As)) → RG t n (rwA As) p 0 σ → itsB As → RI As σ →
    (∀ q N σ', pis t n f As (rwA As).length p = .inl q → q ≤ 1500 → RF t n q N σ' → eqp isF σ σ' → ys_217_67 e d κ σ' Q) →
    (∀ As' p' σ', pis t n f As (rwA As).length p = .inr As' → RG t n (rwA As') p' 0 σ' → itsB As' → RI As' σ' → (rwA As').length ≤ n → eqp isF σ σ' → ys_217_67 e d κ σ' Q) → ys_217_36 e d 1 κ σ Q := by
  intro f
  induction f with
  | zero =>
    intro As p σ h43 hb h hB hI hf hQ
    have := itsB_42 hB
    omega
  | succ f ih =>
    intro As p σ h43 hb h hB hI hf hQ
    have hp := hb.2.1
    unfold ys_217_36
    rw [if_neg (by decide), h.2.1, if_pos fNo_lt]
    unfold pis at hf hQ
    refine r_224 ht hd hb h hB hI rfl (fun q N σ1 hx hq g1 f1 => ?_) (fun a q σ1 hx g1 b1 hI1 f1 => ?_)
    · rw [my_k0_v]
      rw [hx] at hf
      have stop : ∀ v, ys_217_63 e d v κ σ1 Q := fun v => by
        unfold ys_217_63
        refine ys_217_36_ok ?_
        unfold ys_217_36
        rw [if_neg (RF_lt g1 (by omega))]
        exact my_if (fun _ => hf q N σ1 rfl hq g1 f1) (fun _ => hf q N σ1 rfl hq g1 f1)
      exact my_if (fun _ => stop _) (fun _ => stop _)
    · rw [my_k0_v]
      rw [hx] at hf hQ
      dsimp only at hf hQ
      have hB1 := itsB_a ht hp hB hx
      have e1 : rwA As ++ riR a = rwA (As ++ [a]) := by rw [rwA_a]; simp [rwA]
      have e2 : (rwA As).length + (riR a).length = (rwA (As ++ [a])).length := by rw [← e1, List.length_append]
      rw [e1] at g1 b1
      rw [e2] at hf hQ
      have T0 := tkq (p := q) ht 0 (by omega) g1.1.2.2.2.1 (y := 0) rfl
      refine my_if (fun h0 => ?_) (fun h0 => ?_)
      · have h0 := T0.mp h0
        rw [if_pos h0] at hQ
        unfold ys_217_63
        refine ys_217_36_ok ?_
        unfold ys_217_36
        rw [if_pos rfl]
        exact hQ _ q σ1 rfl g1 hB1 hI1 (by have := b1.2.1; have := b1.2.2; omega) f1
      · have h0 : ¬ tkk t n q = 0 := fun hh => h0 (T0.mpr hh)
        rw [if_neg h0] at hf hQ
        unfold ys_217_63
        exact ys_217_36_ok (ih (As ++ [a]) q σ1 (by simp; omega) b1 g1 hB1 hI1 (fun q' N σ' hx' hq g f' => hf q' N σ' hx' hq g (eqp_tr f1 f')) (fun As' p' σ' hx' g hB' hI' hl f' => hQ As' p' σ' hx' g hB' hI' hl (eqp_tr f1 f')))
end MIL
