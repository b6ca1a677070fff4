
/-! ===== the reference's types: the pile ===== -/
def tpk : List (Int32 × Nat) → my_S → Prop
  | [], _ => True
  | x :: P, σ => (σ.1 526 P.length = x.1 ∧ σ.1 527 P.length = Int32.ofNat x.2) ∧ tpk P σ
/-- types of locals, pile, misfit -/
def TS (s : T3) (σ : my_S) : Prop := (∀ j, j < 10 → σ.1 528 j = s.1 j) ∧ (σ.1 498 47 = Int32.ofNat s.2.1.length ∧ tpk s.2.1 σ) ∧ σ.1 498 44 = mfI s.2.2 ∧ okM s.2.2 ∧ ∀ x ∈ s.2.1, x.2 ≤ 1500
def tyF (c k : Nat) : Prop := (c = 498 ∧ (k = 44 ∨ k = 47)) ∨ (526 ≤ c ∧ c ≤ 528)
theorem tpk_o {F : Nat → Nat → Prop} {σ σ' : my_S} (he : eqp F σ σ') : ∀ {P : List (Int32 × Nat)}, tpk P σ → (∀ c k, F c k → k < P.length → c ≠ 526 ∧ c ≠ 527) → tpk P σ'
  | [], _, _ => trivial
  | x :: P, h, hF => ⟨⟨(eqp_g he (fun hh => (hF _ _ hh (by simp)).1 rfl)).trans h.1.1, (eqp_g he (fun hh => (hF _ _ hh (by simp)).2 rfl)).trans h.1.2⟩, tpk_o he h.2 (fun c k hh hk => hF c k hh (by simp; omega))⟩
theorem tpk_at : ∀ {P : List (Int32 × Nat)} {σ : my_S} {k : Nat} {x : Int32 × Nat}, tpk P σ → P[k]? = some x → σ.1 526 (P.length - 1 - k) = x.1 ∧ σ.1 527 (P.length - 1 - k) = Int32.ofNat x.2
  | [], _, _, _, _, h => by simp at h
  | y :: P, σ, 0, x, h, hk => by
    simp only [List.getElem?_cons_zero, Option.some.injEq] at hk
    subst hk
    simpa using h.1
  | y :: P, σ, k + 1, x, h, hk => by
    simp only [List.getElem?_cons_succ] at hk
    have := tpk_at h.2 hk
    have hl := (List.getElem?_eq_some_iff.mp hk).1
    rw [show (y :: P).length - 1 - (k + 1) = P.length - 1 - k by simp; omega]
    exact this
theorem tpk_d : ∀ {P : List (Int32 × Nat)} {σ : my_S} {k : Nat}, tpk P σ → tpk (P.drop k) σ
  | P, _, 0, h => by simpa using h
  | [], _, k + 1, h => by simpa using h
  | x :: P, σ, k + 1, h => by rw [List.drop_succ_cons]; exact tpk_d h.2
section MTR
variable {e : my_E} {d : Nat} {κ : my_K} {σ : my_S} {Q : my_O → my_K → my_S → Prop} {s : T3}
theorem mfI_lt {m : Option Nat} (h : okM m) : mfI m < 0 ↔ m = none := by
  cases m with
  | none => exact ⟨fun _ => rfl, fun _ => by decide⟩
  | some x =>
    have := h x rfl
    exact ⟨fun hh => absurd hh (oN_0 this), fun hh => by cases hh⟩
theorem okM_s {p : Nat} (h : p ≤ 1500) : okM (some p) := fun x hx => by cases hx; omega
/-- a misfit -/
theorem t_259 {p : Nat} (hp : p ≤ 1500) (h : TS s σ) (hd : 1 ≤ d) (hQ : ∀ σ', TS (s.1, s.2.1, omin s.2.2 (some p)) σ' → eqp tyF σ σ' → Q (.inl none) κ σ') : my_M e d 259 [.inr (.inr (some 498)), .inl (Int32.ofNat p)] κ σ Q := by
  obtain ⟨d, rfl⟩ := dS 1 hd
  obtain ⟨h1, ⟨h2, h2'⟩, h3, h4, h5⟩ := h
  have fin : ∀ v, v = mfI (omin s.2.2 (some p)) → ys_259_24 e d v κ σ Q := fun v hv => by
    unfold ys_259_24
    have he : eqp (fun c k => c = 498 ∧ k = 44) σ (my_uI σ 498 44 v) := eqp_I eqp_rf ⟨rfl, rfl⟩
    exact hQ _ ⟨fun j hj => (eqp_g he (by omega)).trans (h1 j hj), ⟨(eqp_g he (by omega)).trans h2, tpk_o he h2' (fun c k hh _ => by omega)⟩, by rw [uI_s]; exact hv, okM_m h4 (okM_s hp), h5⟩ (eqp_mo he (fun c k hh => by unfold tyF; omega))
  refine ys_259 ?_
  unfold ys_259_0
  rw [h3]
  refine my_if (fun hn => ?_) (fun hn => ?_)
  · have := (mfI_lt h4).mp hn
    unfold ys_259_16
    refine fin _ ?_
    rw [this]
    rfl
  · cases hm : s.2.2 with
    | none => exact absurd ((mfI_lt h4).mpr hm) hn
    | some x =>
      have hx : x < 2147483648 := h4 x hm
      rw [hm] at fin
      show if Int32.ofNat p < Int32.ofNat x then _ else _
      refine my_if (fun hl => ?_) (fun hl => ?_)
      · have := (oN_lt (by omega) hx).mp hl
        unfold ys_259_16
        refine fin _ ?_
        show _ = Int32.ofNat (min x p)
        rw [Nat.min_eq_right (by omega)]
      · have : ¬ p < x := fun hh => hl ((oN_lt (by omega) hx).mpr hh)
        refine fin _ ?_
        show Int32.ofNat x = Int32.ofNat (min x p)
        rw [Nat.min_eq_left (by omega)]
/-- one more on the pile -/
theorem t_261 {p : Nat} {a : Int32} (hp : p ≤ 1500) (h : TS s σ) (hl : s.2.1.length < 800) (hd : 1 ≤ d) (hQ : ∀ σ', TS (s.1, (a, p) :: s.2.1, s.2.2) σ' → eqp tyF σ σ' → Q (.inl none) κ σ') : my_M e d 261 [.inr (.inr (some 498)), .inl a, .inl (Int32.ofNat p)] κ σ Q := by
  obtain ⟨d, rfl⟩ := dS 1 hd
  obtain ⟨h1, ⟨h2, h2'⟩, h3, h4, h5⟩ := h
  refine ys_261 ?_
  unfold ys_261_0
  rw [h2, oN_n (by omega), oN_s]
  have bd : my_bd (Int32.ofNat s.2.1.length) 800 := ⟨by rw [oN_i (by omega)]; omega, by rw [oN_i (by omega)]; omega⟩
  refine ⟨bd, bd, ?_⟩
  have he : eqp (fun c k => ((c = 526 ∨ c = 527) ∧ k = s.2.1.length) ∨ (c = 498 ∧ k = 47)) σ (my_uI (my_uI (my_uI σ 526 s.2.1.length a) 527 s.2.1.length (Int32.ofNat p)) 498 47 (Int32.ofNat (s.2.1.length + 1))) := eqp_I (eqp_I (eqp_I eqp_rf (by omega)) (by omega)) (by omega)
  refine hQ _ ⟨fun j hj => (eqp_g he (by omega)).trans (h1 j hj), ⟨by rw [uI_s]; simp, ⟨?_, ?_⟩, tpk_o he h2' (fun c k hh hk => by omega)⟩, (eqp_g he (by omega)).trans h3, h4, fun x hx => ?_⟩ (eqp_mo he (fun c k hh => by unfold tyF; omega))
  · rw [uI_o (by omega), uI_o (by omega), uI_s]
  · rw [uI_o (by omega), uI_s]
  · rcases List.mem_cons.mp hx with hx | hx
    · rw [hx]; exact hp
    · exact h5 x hx
/-- some are taken from the pile -/
theorem TS_pop {k : Nat} {y : Int32} (h : TS s σ) (hk : k ≤ s.2.1.length) (hl : s.2.1.length < 2147483648) (hy : y = Int32.ofNat (s.2.1.length - k)) : TS (s.1, s.2.1.drop k, s.2.2) (my_uI σ 498 47 y) ∧ eqp tyF σ (my_uI σ 498 47 y) := by
  obtain ⟨h1, ⟨h2, h2'⟩, h3, h4, h5⟩ := h
  have he : eqp (fun c k => c = 498 ∧ k = 47) σ (my_uI σ 498 47 y) := eqp_I eqp_rf ⟨rfl, rfl⟩
  refine ⟨⟨fun j hj => (eqp_g he (by omega)).trans (h1 j hj), ⟨by rw [uI_s, hy]; simp, tpk_o he (tpk_d h2') (fun c k hh _ => by omega)⟩, (eqp_g he (by omega)).trans h3, h4, fun x hx => h5 x (List.mem_of_mem_drop hx)⟩, eqp_mo he (fun c k hh => by unfold tyF; omega)⟩
/-- it must have that type -/
theorem t_264 {k : Nat} {x : Int32 × Nat} {due : Int32} (h : TS s σ) (hk : s.2.1[k]? = some x) (hl : s.2.1.length ≤ 800) (hd : 2 ≤ d) (hQ : ∀ σ', TS (s.1, s.2.1, omin s.2.2 (fl x.1 due x.2)) σ' → eqp tyF σ σ' → Q (.inl (some (.inl (bI (mstB x.1 due))))) κ σ') : my_M e d 264 [.inr (.inr (some 498)), .inl (Int32.ofNat k), .inl due] κ σ Q := by
  obtain ⟨d, rfl⟩ := dS 1 (show 1 ≤ d by omega)
  have hkl := (List.getElem?_eq_some_iff.mp hk).1
  obtain ⟨a1, a2⟩ := tpk_at h.2.1.2 hk
  have hx5 := h.2.2.2.2 x (List.mem_of_getElem? hk)
  refine ys_264 ?_
  unfold ys_264_0
  have e1 : Int32.ofNat s.2.1.length - 1 - Int32.ofNat k = Int32.ofNat (s.2.1.length - 1 - k) := by
    rw [Int32.ofNat_sub _ _ (by omega), Int32.ofNat_sub _ _ (by omega)]
    rfl
  rw [h.2.1.1, e1, oN_n (by omega), a1]
  have bd : my_bd (Int32.ofNat (s.2.1.length - 1 - k)) 800 := ⟨by rw [oN_i (by omega)]; omega, by rw [oN_i (by omega)]; omega⟩
  refine ⟨bd, ?_⟩
  have yes : mstB x.1 due = true → fl x.1 due x.2 = none → ys_264_29 e d (Int32.ofNat (s.2.1.length - 1 - k)) 1 κ σ Q := fun hm hf => by
    unfold ys_264_29 ys_264_56
    rw [if_neg (by decide)]
    rw [hm, hf, omin_r] at hQ
    exact ⟨Or.inr rfl, hQ σ h eqp_rf⟩
  refine my_if (fun hh => ?_) (fun hh => my_if (fun h3 => ?_) (fun h3 => ?_))
  · unfold ys_264_24
    refine yes (by unfold mstB; simp [hh]) ?_
    unfold fl
    by_cases c1 : x.1 = 3
    · rw [if_pos c1]
    · rw [if_neg c1]
      by_cases c2 : due = 3
      · rw [if_pos c2]
      · rw [if_neg c2, if_pos hh]
  · unfold ys_264_24
    refine yes (by unfold mstB; simp [h3]) ?_
    unfold fl
    by_cases c1 : x.1 = 3
    · rw [if_pos c1]
    · rw [if_neg c1, if_pos h3]
  · have hm : mstB x.1 due = false := by unfold mstB; simp [hh, h3]
    rw [hm] at hQ
    unfold ys_264_29 ys_264_56
    rw [if_pos rfl, oN_n (by omega), a1]
    refine ⟨bd, my_if (fun c1 => ?_) (fun c1 => ?_)⟩
    · have hf : fl x.1 due x.2 = none := by unfold fl; rw [if_pos c1]
      rw [hf, omin_r] at hQ
      exact ⟨Or.inl rfl, hQ σ h eqp_rf⟩
    · rw [a2]
      have hf : fl x.1 due x.2 = some x.2 := by unfold fl; rw [if_neg c1, if_neg h3, if_neg hh]
      rw [hf] at hQ
      refine ⟨bd, ?_⟩
      refine t_259 hx5 h (by omega) (fun σ' g f => ?_)
      rw [my_k0_v]
      exact ⟨Or.inl rfl, hQ σ' g f⟩
/-- an item by its name -/
theorem t_263l {NL : List (List Nat)} {l : List Nat} (hl : isN l) (h : rnm NL σ) : ∀ (m j : Nat), j + m = NL.length → Q (.inl (some (.inl (ixO (kwi (NL.drop j) l j))))) κ σ → ys_263_3 e d (nmR l) (Int32.ofNat j) κ σ Q := by
  intro m
  obtain ⟨h1, h2, h3, h4⟩ := h
  induction m with
  | zero =>
    intro j hj hQ
    unfold ys_263_3
    rw [h1, if_neg (by rw [oN_lt (by omega) (by omega)]; omega)]
    rw [List.drop_of_length_le (by omega)] at hQ
    exact hQ
  | succ m ih =>
    intro j hj hQ
    have hjl : j < NL.length := by omega
    have a := h4 j _ (List.getElem?_eq_getElem hjl)
    unfold ys_263_3
    rw [h1, if_pos (by rw [oN_lt (by omega) (by omega)]; omega), oN_n (by omega), a]
    refine ⟨⟨by rw [oN_i (by omega)]; omega, by rw [oN_i (by omega)]; omega⟩, ?_⟩
    rw [List.drop_eq_getElem_cons hjl] at hQ
    unfold kwi at hQ
    by_cases hh : NL[j] = l
    · rw [if_pos (lg_cmp_0.mpr (by rw [hh]))]
      rw [if_pos hh] at hQ
      exact hQ
    · rw [if_neg (fun h5 => hh ((nmR_inj (h3 _ (List.getElem_mem hjl)) hl).mp (lg_cmp_0.mp h5))), oN_s]
      rw [if_neg hh] at hQ
      exact ys_263_3_ok (ih (j + 1) (by omega) hQ)
theorem t_263 {NL : List (List Nat)} {l : List Nat} (hl : isN l) (h : rnm NL σ) (hd : 1 ≤ d) (hQ : Q (.inl (some (.inl (ixO (kwi NL l 0))))) κ σ) : my_M e d 263 [.inr (.inr (some 498)), .inl 0, .inr (.inl (nmR l))] κ σ Q := by
  obtain ⟨d, rfl⟩ := dS 1 hd
  refine ys_263 ?_
  unfold ys_263_0
  exact ys_263_3_ok (t_263l hl h NL.length 0 (by omega) hQ)
end MTR
/-- what is kept while types are found -/
def TM (As : List Ri) (R : List Rw) (σ : my_S) : Prop := RI As σ ∧ rws R σ
theorem TM_o {As : List Ri} {R : List Rw} {σ σ' : my_S} (hB : itsB As) (h : TM As R σ) (he : eqp tyF σ σ') : TM As R σ' := ⟨RI_o hB h.1 he (fun c k hh => by unfold tyF at hh; omega), rws_o h.2 he (fun c k hh => by unfold tyF at hh; omega)⟩
section MTQ
variable {e : my_E} {d : Nat} {κ : my_K} {σ : my_S} {Q : my_O → my_K → my_S → Prop} {s : T3} {As : List Ri} {I : List It} {R : List Rw}
theorem rws_at {j : Nat} {x : Rw} (h : rws R σ) (hj : R[j]? = some x) (hR : R.length ≤ 3200) : j < 3200 ∧ my_bd (Int32.ofNat j) 3200 := by
  have hjl := (List.getElem?_eq_some_iff.mp hj).1
  exact ⟨by omega, ⟨by rw [oN_i (by omega)]; omega, by rw [oN_i (by omega)]; omega⟩⟩
theorem iRel_k {nm : List Nat} (hrel : iRel As I) : itK I nm = kwi (rno As) nm 0 := by unfold itK; rw [iRel_n hrel]
theorem iRel_a2 {k : Nat} (hrel : iRel As I) (hk : k < I.length) : ∃ a, As[k]? = some a ∧ iOf a (itA I k) := by
  have hk2 : k < As.length := by rw [← hrel.1]; exact hk
  exact ⟨_, List.getElem?_eq_getElem hk2, hrel.2 k _ _ (List.getElem?_eq_getElem hk2) (itA_e hk)⟩
/-- what a name means -/
theorem t_262 {j : Nat} {x : Rw} {kd : Nat} (hB : itsB As) (hrel : iRel As I) (hM : TM As R σ) (h : TS s σ) (hR : R.length ≤ 3200) (hj : R[j]? = some x) (hN : isN x.2.2.1) (hp : x.2.2.2 ≤ 1500) (hkd : kd ≤ 2) (hd : 3 ≤ d) (hQ : ∀ σ', TS (s.1, s.2.1, (mns I x.2.2.1 (Int32.ofNat kd) x.2.2.2 s.2.2).2) σ' → eqp tyF σ σ' → Q (.inl (some (.inl (ixO (mns I x.2.2.1 (Int32.ofNat kd) x.2.2.2 s.2.2).1)))) κ σ') : my_M e d 262 [.inr (.inr (some 498)), .inl (Int32.ofNat (kd + 10)), .inl (Int32.ofNat j)] κ σ Q := by
  obtain ⟨d, rfl⟩ := dS 1 (show 1 ≤ d by omega)
  have h42 := itsB_42 hB
  obtain ⟨hj3, bd⟩ := rws_at hM.2 hj hR
  obtain ⟨k1, k2, k3, k4⟩ := hM.2.2 j x hj
  refine ys_262 ?_
  unfold ys_262_0
  rw [oN_n (by omega), k3]
  refine ⟨bd, ?_⟩
  refine t_263 hN (RI_n hB hM.1) (by omega) ?_
  rw [my_kI_v]
  have bad : mns I x.2.2.1 (Int32.ofNat kd) x.2.2.2 s.2.2 = (none, omin s.2.2 (some x.2.2.2)) → ys_262_29 e d (Int32.ofNat j) κ σ Q := fun hm => by
    unfold ys_262_29
    rw [oN_n (by omega), k4]
    refine ⟨bd, ?_⟩
    refine t_259 hp h (by omega) (fun σ' g f => ?_)
    rw [my_k0_v]
    rw [hm] at hQ
    exact hQ σ' g f
  have hk := iRel_k (nm := x.2.2.1) hrel
  cases hkw : kwi (rno As) x.2.2.1 0 with
  | none =>
    rw [hkw] at hk
    show if Int32.ofInt (-1) < 0 then _ else _
    rw [if_pos (by decide)]
    exact bad (by unfold mns; rw [hk])
  | some i =>
    rw [hkw] at hk
    have hi := itK_lt hk
    obtain ⟨a, ha, hio⟩ := iRel_a2 hrel hi
    have hW := hB.2 a (List.mem_of_getElem? ha)
    have hil : i < As.length := (List.getElem?_eq_some_iff.mp ha).1
    rw [show ixO (some i) = Int32.ofNat i from rfl] at *
    rw [if_neg (oN_0 (by omega)), oN_n (by omega)]
    refine ⟨⟨by rw [oN_i (by omega)]; omega, by rw [oN_i (by omega)]; omega⟩, ?_⟩
    have hr := (rit_at hM.1.2 ha).1
    rw [Nat.zero_add] at hr
    rw [hr]
    refine r_228 hW.1 (by omega) ?_
    rw [my_kI_v]
    have hks : srt (riF a) = kd ↔ kdf (riF a) = kd := by
      have := hW.1
      unfold srt kdf
      split <;> split <;> omega
    have hmn : mns I x.2.2.1 (Int32.ofNat kd) x.2.2.2 s.2.2 = if kdf (riF a) = kd then (some i, s.2.2) else (none, omin s.2.2 (some x.2.2.2)) := by
      unfold mns
      rw [hk]
      simp only []
      rw [hio.2.2.1]
      have hk4 := kdf_lt hW.1
      by_cases c : kdf (riF a) = kd
      · rw [if_pos c, if_pos (by rw [c])]
      · rw [if_neg c, if_neg (fun hh => c ((oN_e (by omega) (by omega)).mp hh))]
    have hsl : srt (riF a) ≤ 4 := by have := hW.1; unfold srt; split <;> omega
    refine my_if (fun hh => ?_) (fun hh => ?_)
    · have hh := (oN_e (by omega) (by omega)).mp hh
      rw [if_pos (hks.mp (by omega))] at hmn
      rw [hmn] at hQ
      exact hQ σ h eqp_rf
    · rw [if_neg (fun hc => hh (by rw [hks.mpr hc]))] at hmn
      exact bad hmn
end MTQ
