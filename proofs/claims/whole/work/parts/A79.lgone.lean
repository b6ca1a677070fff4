
/-! ===== what is gone: the reference's, the law's ===== -/
def lno (l : List Nat) (w : Nat) : Int32 := match l[w]? with | some a => Int32.ofNat (a + 96) | none => Int32.ofInt (-1)
/-- the revision before, as the reference has it -/
def OLR (Bs : List Ri) (σ : my_S) : Prop := σ.1 498 124 = Int32.ofNat Bs.length ∧ ∀ j b, Bs[j]? = some b → σ.1 570 j = Int32.ofNat (riF b + 10) ∧ σ.2.1 571 j = nmR (riN b)
section MKH
variable {e : my_E} {d : Nat} {κ : my_K} {σ : my_S} {Q : my_O → my_K → my_S → Prop} {As Bs : List Ri} {I I' : List It} {rv ol : Nat} {v4 : Int32} {l : List Nat}
theorem c_22 {w : Nat} (hl : isN l) (hw : w < 2147483648) (hd : 2 ≤ d) (hQ : Q (.inl (some (.inl (lno l w)))) κ σ) : my_M e d 22 [.inr (.inl (nmC l)), .inl (Int32.ofNat w)] κ σ Q := by
  obtain ⟨d, rfl⟩ := dS 1 (show 1 ≤ d by omega)
  have h8 := hl.2
  refine ys_22 ?_
  unfold ys_22_0
  by_cases hw8 : w < 8
  · refine c_5 hl hw8 (by omega) ?_
    rw [my_kI_v]
    unfold ys_22_15
    unfold lno at hQ
    unfold ltr
    cases hlw : l[w]? with
    | none =>
      rw [hlw] at hQ
      dsimp only
      rw [if_pos (show Int32.ofNat 0 = 0 from rfl)]
      exact hQ
    | some a =>
      rw [hlw] at hQ
      dsimp only
      have ha := hl.1 a (List.mem_of_getElem? hlw)
      rw [if_neg (fun hh => by have := (oN_e (b := 0) (by omega) (by omega)).mp hh; omega)]
      exact hQ
  · obtain ⟨d, rfl⟩ := dS 1 (show 1 ≤ d by omega)
    refine ys_5 ?_
    unfold ys_5_0 ys_5_10 ys_5_25
    rw [if_neg (oN_0 hw), if_neg (fun hh => hw8 ((oN_lt1 (b := 8) (c := 8) rfl hw (by omega)).mp hh)), my_kI_v, if_pos rfl]
    unfold ys_22_15
    unfold lno at hQ
    rw [List.getElem?_eq_none (by omega)] at hQ
    exact hQ
/-- the class: the letter of what is gone -/
theorem c_21b {v1 v2 : Int32} (h : LD As I rv σ) (ho : OLC Bs I' ol σ) (hκ : 1 ≤ κ.2.1 ∧ 6 ≤ κ.2.2) (hd : 8 ≤ d) (hx : gnO Bs (rno As) v1 4 0 0 = none ∨ v2 < 0 → Q (.inr (κ.1, 15)) (κ.1 + 1, κ.2.1 - 1, κ.2.2 - 6) σ) (hQ : ∀ k b w, gnO Bs (rno As) v1 4 0 0 = some k → Bs[k]? = some b → v2 = Int32.ofNat w → w < 2147483648 → Q (.inl (some (.inl (lno (riN b) w)))) κ σ) : my_M e d 21 [.inr (.inr (some 32)), .inl v1, .inl v2] κ σ Q := by
  obtain ⟨d, rfl⟩ := dS 2 (show 2 ≤ d by omega)
  refine ys_21 ?_
  unfold ys_21_0
  refine ys_10 ?_
  unfold ys_10_0
  rw [if_neg h.2.2.2.1, my_k0_v]
  refine c_15 h ho (by omega) ?_
  rw [my_kA_v]
  cases hg : gnO Bs (rno As) v1 4 0 0 with
  | none =>
    rw [Option.map_none, if_pos rfl]
    exact ⟨⟨by omega, hκ.1, hκ.2⟩, hx (Or.inl hg)⟩
  | some k =>
    rw [Option.map_some, if_neg (by simp)]
    refine ys_18 ?_
    unfold ys_18_0
    refine my_if (fun c => ?_) (fun c => ?_)
    · rw [my_k0_x]
      exact ⟨⟨by omega, hκ.1, hκ.2⟩, hx (Or.inr c)⟩
    · rw [my_k0_v]
      have hkl := gnO_lt hg
      obtain ⟨b, hb⟩ : ∃ b, Bs[k]? = some b := ⟨_, List.getElem?_eq_getElem hkl⟩
      obtain ⟨w, hw, hw2⟩ := nn_of c
      rcases ho with ⟨_, o2⟩ | ⟨o1, o2, o3, o4, o5, o6⟩
      · rw [o2] at hkl; simp at hkl
      · have h42 := itsB_42 o4
        refine ⟨_, rfl, in11 o3 (by omega), ?_⟩
        obtain ⟨b', hb', hio⟩ := iRel_a2 o5 (k := k) (by rw [o5.1]; exact hkl)
        rw [hb] at hb'
        cases hb'
        obtain ⟨z1, z2, _⟩ := o6.1.2.2.2 k _ (itA_e (I := I') (by rw [o5.1]; exact hkl))
        rw [z2, hio.1, hw]
        refine c_22 (o4.2 b (List.mem_of_getElem? hb)).2.1 hw2 (by omega) ?_
        rw [my_kI_v]
        exact hQ k b w hg hb hw hw2
/-- is a name gone? -/
theorem r_335l {j : Nat} (hB : itsB As) (hl : isN l) (h49 : σ.1 498 49 = Int32.ofNat As.length) (h530 : ∀ k a, As[k]? = some a → σ.2.1 530 k = nmR (riN a)) (h571 : σ.2.1 571 j = nmR l) (hj : j < 48) : ∀ (m k : Nat) (f : Bool), k + m = As.length → Q (.inl (some (.inl (bI (f && decide (kwi ((rno As).drop k) l k = none)))))) κ σ → ys_335_4 e d (Int32.ofNat j) (bI f) (Int32.ofNat k) κ σ Q := by
  have h42 := itsB_42 hB
  intro m
  induction m with
  | zero =>
    intro k f hk hQ
    unfold ys_335_4
    rw [h49, if_neg (by rw [oN_lt (by omega) (by omega)]; omega)]
    rw [List.drop_of_length_le (by unfold rno; rw [List.length_map]; omega)] at hQ
    refine ⟨by cases f; exact Or.inl rfl; exact Or.inr rfl, ?_⟩
    simpa [kwi] using hQ
  | succ m ih =>
    intro k f hk hQ
    have hkl : k < As.length := by omega
    obtain ⟨a, ha⟩ : ∃ a, As[k]? = some a := ⟨_, List.getElem?_eq_getElem hkl⟩
    have hdr : (rno As).drop k = riN a :: (rno As).drop (k + 1) := by
      have h1 : k < (rno As).length := by unfold rno; rw [List.length_map]; exact hkl
      rw [List.drop_eq_getElem_cons h1]
      congr 1
      have h2 : (rno As)[k]? = some (riN a) := by unfold rno; rw [List.getElem?_map, ha]; rfl
      rw [List.getElem?_eq_getElem h1] at h2
      exact Option.some.inj h2
    have hNa : isN (riN a) := (hB.2 a (List.mem_of_getElem? ha)).2.1
    have kw : kwi ((rno As).drop k) l k = if riN a = l then some k else kwi ((rno As).drop (k + 1)) l (k + 1) := by
      rw [hdr]
      rfl
    unfold ys_335_4
    rw [h49, if_pos (by rw [oN_lt (by omega) (by omega)]; omega)]
    cases f with
    | false =>
      rw [if_pos (show bI false = 0 from rfl)]
      unfold ys_335_36 ys_335_37
      rw [oN_s]
      exact ys_335_4_ok (ih (k + 1) false (by omega) (by simpa using hQ))
    | true =>
      rw [if_neg (show ¬ bI true = 0 by decide), oN_n (by omega), oN_n (by omega), h530 k a ha, h571]
      refine ⟨bdk (by omega) (by omega), bdk (by omega) (by omega), ?_⟩
      by_cases hal : riN a = l
      · rw [if_pos (lg_cmp_0.mpr (by rw [hal]))]
        rw [kw, if_pos hal] at hQ
        unfold ys_335_36 ys_335_37
        rw [oN_s]
        exact ys_335_4_ok (ih (k + 1) false (by omega) (by simpa using hQ))
      · rw [if_neg (fun hh => hal ((nmR_inj hNa hl).mp (lg_cmp_0.mp hh)))]
        rw [kw, if_neg hal] at hQ
        unfold ys_335_37
        rw [oN_s]
        exact ys_335_4_ok (ih (k + 1) true (by omega) hQ)
theorem r_335b {j : Nat} (hB : itsB As) (hl : isN l) (h49 : σ.1 498 49 = Int32.ofNat As.length) (h530 : ∀ k a, As[k]? = some a → σ.2.1 530 k = nmR (riN a)) (h571 : σ.2.1 571 j = nmR l) (hj : j < 48) (hd : 1 ≤ d) (hQ : Q (.inl (some (.inl (bI (decide (kwi (rno As) l 0 = none)))))) κ σ) : my_M e d 335 [.inr (.inr (some 498)), .inl (Int32.ofNat j)] κ σ Q := by
  obtain ⟨d, rfl⟩ := dS 1 hd
  refine ys_335 ?_
  unfold ys_335_0
  have := r_335l (e := e) (d := d) (κ := κ) (Q := Q) hB hl h49 h530 h571 hj As.length 0 true (by omega) (by simpa using hQ)
  exact ys_335_4_ok this
theorem r_351l {v1 : Int32} {K : Nat} {kc : Int32} (hA : itsB As) (hB : itsB Bs) (h49 : σ.1 498 49 = Int32.ofNat As.length) (h530 : ∀ k a, As[k]? = some a → σ.2.1 530 k = nmR (riN a)) (ho : OLR Bs σ) (hkc : ∀ f, f ≤ 4 → (Int32.ofNat (srt f + 10) = kc ↔ kdf f = K)) (hd : 1 ≤ d) : ∀ (m j c : Nat), j + m = Bs.length → (∀ k, gn Bs (rno As) v1 K m j c = .inr k → Q (.inl (some (.inl (Int32.ofNat k)))) κ σ) → (∀ c', gn Bs (rno As) v1 K m j c = .inl c' → ys_351_4 e d (v1 - Int32.ofNat c') (Int32.ofNat (K + 1)) κ σ Q) → ys_351_45 e d (v1 - Int32.ofNat c) (Int32.ofNat K) kc (Int32.ofNat j) κ σ Q := by
  have h42 := itsB_42 hB
  intro m
  induction m with
  | zero =>
    intro j c hj hq1 hq2
    unfold ys_351_45
    rw [ho.1, if_neg (by rw [oN_lt (by omega) (by omega)]; omega), oN_s]
    exact ys_351_4_ok (hq2 c rfl)
  | succ m ih =>
    intro j c hj hq1 hq2
    have hjl : j < Bs.length := by omega
    obtain ⟨b, hb⟩ : ∃ b, Bs[j]? = some b := ⟨_, List.getElem?_eq_getElem hjl⟩
    have hWb := hB.2 b (List.mem_of_getElem? hb)
    have hg : gn Bs (rno As) v1 K (m + 1) j c = if kdf (riF b) = K ∧ kwi (rno As) (riN b) 0 = none then (if Int32.ofNat c = v1 then .inr j else gn Bs (rno As) v1 K m (j + 1) (c + 1)) else gn Bs (rno As) v1 K m (j + 1) c := by
      rw [gn, hb]
    rw [hg] at hq1 hq2
    have nxt : ∀ c', ((∀ k, gn Bs (rno As) v1 K m (j + 1) c' = .inr k → Q (.inl (some (.inl (Int32.ofNat k)))) κ σ) → (∀ c'', gn Bs (rno As) v1 K m (j + 1) c' = .inl c'' → ys_351_4 e d (v1 - Int32.ofNat c'') (Int32.ofNat (K + 1)) κ σ Q) → ys_351_88 e d (v1 - Int32.ofNat c') (Int32.ofNat K) kc (Int32.ofNat j) κ σ Q) := fun c' p1 p2 => by
      unfold ys_351_88
      rw [oN_s]
      exact ys_351_45_ok (ih (j + 1) c' (by omega) p1 p2)
    obtain ⟨y1, y2⟩ := ho.2 j b hb
    unfold ys_351_45
    rw [ho.1, if_pos (by rw [oN_lt (by omega) (by omega)]; omega), oN_n (by omega), y1]
    refine ⟨bdk (by omega) (by omega), ?_⟩
    refine r_228 hWb.1 hd ?_
    rw [my_kI_v]
    refine my_if (fun c1 => ?_) (fun c1 => ?_)
    · have hk := (hkc _ hWb.1).mp c1
      refine r_335b hA hWb.2.1 h49 h530 y2 (by omega) hd ?_
      rw [my_kI_v]
      by_cases hkw : kwi (rno As) (riN b) 0 = none
      · rw [if_pos ⟨hk, hkw⟩] at hq1 hq2
        rw [decide_eq_true hkw, if_neg (show ¬ bI true = 0 by decide)]
        refine my_if (fun c2 => ?_) (fun c2 => ?_)
        · have : Int32.ofNat c = v1 := by
            have h3 := congrArg (fun z => z + Int32.ofNat c) c2
            simp only [Int32.sub_add_cancel, Int32.zero_add] at h3
            exact h3.symm
          rw [if_pos this] at hq1
          exact hq1 j rfl
        · have : ¬ Int32.ofNat c = v1 := fun hh => c2 (by rw [hh, Int32.sub_self])
          rw [if_neg this] at hq1 hq2
          have e1 : v1 - Int32.ofNat c + Int32.ofInt (-1) = v1 - Int32.ofNat (c + 1) := by
            rw [Int32.ofNat_add, Int32.sub_eq_add_neg, Int32.sub_eq_add_neg, Int32.neg_add, Int32.add_assoc, Int32.sub_eq_add_neg]
            rfl
          rw [e1]
          exact nxt (c + 1) hq1 hq2
      · rw [if_neg (fun hh => hkw hh.2)] at hq1 hq2
        rw [decide_eq_false hkw, if_pos (show bI false = 0 from rfl)]
        exact nxt c hq1 hq2
    · have hk : ¬ kdf (riF b) = K := fun hh => c1 ((hkc _ hWb.1).mpr hh)
      rw [if_neg (fun hh => hk hh.1)] at hq1 hq2
      exact nxt c hq1 hq2
end MKH
