/-! ===== the class's statements ===== -/
def CV (t : Nat → Int32) (n : Nat) (I : List It) (w : Bool) (rv cu : Nat) (cF ls : Int32) (o : Nat) (v : Cv) (σ : my_S) : Prop := CR t n v.2.1 v.2.2.1 I w rv cu v.2.2.2.2.2 v.1 o σ ∧ CU I rv cu v.2.2.2.1 ls v.2.2.2.2.1 cF σ
def fY (κ : my_K) (Q : my_O → my_K → my_S → Prop) (t : Nat → Int32) (n rv cu : Nat) (σ : my_S) (q : Nat) : Prop := ∀ σ', clT t n q σ' → eqp (yF rv cu) σ σ' → thr κ Q σ'
theorem fY_mo {κ : my_K} {Q : my_O → my_K → my_S → Prop} {t : Nat → Int32} {n rv cu : Nat} {σ σ1 : my_S} {q : Nat} (h : fY κ Q t n rv cu σ q) (he : eqp (yF rv cu) σ σ1) : fY κ Q t n rv cu σ1 q := fun σ' g1 g2 => h σ' g1 (eqp_tr he g2)
theorem fY_C {κ : my_K} {Q : my_O → my_K → my_S → Prop} {t : Nat → Int32} {n rv cu : Nat} {σ : my_S} {q : Nat} (h : fY κ Q t n rv cu σ q) : fC κ Q t n rv cu σ q := fun σ' g1 g2 => h σ' g1 (eqp_mo g2 (fun _ _ => xF_y))
theorem ce_s {x : Cs} {k : Int32 → Nat → St → Cq} {res : Nat ⊕ Cv} (h : ce x k = some res) : (∃ q, x = some (.inl q) ∧ res = .inl q) ∨ ∃ a c q S, x = some (.inr (a, c, q, S)) ∧ k a q S = some res := by
  unfold ce at h
  split at h
  · cases h
  · cases h; exact Or.inl ⟨_, rfl, rfl⟩
  · exact Or.inr ⟨_, _, _, _, rfl, h⟩
theorem bq_s {x : Cq} {k : Cv → Cq} {res : Nat ⊕ Cv} (h : bq x k = some res) : (∃ q, x = some (.inl q) ∧ res = .inl q) ∨ ∃ v, x = some (.inr v) ∧ k v = some res := by
  unfold bq at h
  split at h
  · cases h
  · cases h; exact Or.inl ⟨_, rfl, rfl⟩
  · exact Or.inr ⟨_, rfl, h⟩
theorem tQ_s {t : Nat → Int32} {n p due : Nat} {k : Nat → Cq} {res : Nat ⊕ Cv} (h : tQ t n p due k = some res) : (tkk t n p = due ∧ k (nx t n p) = some res) ∨ (tkk t n p ≠ due ∧ res = .inl p) := by
  unfold tQ at h
  by_cases hd : tkk t n p = due
  · rw [if_pos hd] at h; exact Or.inl ⟨hd, h⟩
  · rw [if_neg hd] at h; cases h; exact Or.inr ⟨hd, rfl⟩
section MCW
variable {e : my_E} {κ : my_K} {t : Nat → Int32} {n : Nat} {I : List It} {w : Bool} {rv cu : Nat} {cF : Int32}
/-- a token that is due, or a fault there -/
theorem y_62 {d p o due : Nat} {L : List (List Nat)} {LT : Nat → Int32} {S : St} {σ : my_S} {Q : my_O → my_K → my_S → Prop} {y : Int32} {k : Nat → Cq} {res : Nat ⊕ Cv} (ht : txt t n) (hκ : 1 ≤ κ.2.1 ∧ 6 ≤ κ.2.2) (h : CR t n L LT I w rv cu S p o σ) (hd : 6 ≤ d) (hk : due < 1000) (hy : y = Int32.ofNat due) (hr : tQ t n p due k = some res) (hf : ∀ q, res = .inl q → tkk t n p ≠ due → fY κ Q t n rv cu σ q) (hQ : k (nx t n p) = some res → tkk t n p = due → ∀ σ', CR t n L LT I w rv cu S (nx t n p) o σ' → eqp (xF rv cu) σ σ' → Q (.inl none) κ σ') : my_M e d 62 [.inr (.inr (some 39)), .inl y] κ σ Q := by
  rcases tQ_s hr with ⟨g1, g2⟩ | ⟨g1, g2⟩
  · exact x_62 ht h hd hκ hk hy (fun _ σ' a b => hQ g2 g1 σ' a b) (fun hh => absurd g1 hh)
  · exact x_62 ht h hd hκ hk hy (fun hh => absurd hh g1) (fun _ => hf p g2 g1 σ h.1 eqp_rf)
/-- an expression that is wanted to have a type -/
theorem y_81 {d p o : Nat} {L : List (List Nat)} {LT : Nat → Int32} {S : St} {σ : my_S} {Q : my_O → my_K → my_S → Prop} {v : Int32} {k : Int32 → Nat → St → Cq} {res : Nat ⊕ Cv} (ht : txt t n) (hκ : 1 ≤ κ.2.1 ∧ 6 ≤ κ.2.2) (h : CR t n L LT I w rv cu S p o σ) (hd : 12 * (13 - o) + 21 ≤ d) (ho : o ≤ 12) (hr : ce (cE t n L LT I w p o S) k = some res) (hf : ∀ q, res = .inl q → fY κ Q t n rv cu σ q) (hQ : ∀ a q S1, k a q S1 = some res → ml S S1 → ∀ σ', CR t n L LT I w rv cu (wf w a v p S1) q o σ' → eqp (xF rv cu) σ σ' → Q (.inl none) κ σ') : my_M e d 81 [.inr (.inr (some 39)), .inl v] κ σ Q := by
  rcases ce_s hr with ⟨q, g1, g2⟩ | ⟨a, c, q, S1, g1, g2⟩
  · refine CX_81 (CX ht hκ 21100).1 g1 h hd ho (fun q' hq' => ?_) (fun a c q' S' hh => by cases hh)
    cases hq'
    exact fY_C (hf q g2)
  · refine CX_81 (CX ht hκ 21100).1 g1 h hd ho (fun q' hq' => by cases hq') (fun a' c' q' S' hh σ' g3 f3 => ?_)
    cases hh
    exact hQ a q S1 g2 (cx_ml _ _ _ _ _ _ _ _ _ _ _ _ _ _ g1) σ' g3 f3
/-- a statement that begins with a name -/
theorem y_78 {d p o ck : Nat} {L : List (List Nat)} {LT : Nat → Int32} {B : List Int32} {ls : Int32} {S : St} {σ : my_S} {Q : my_O → my_K → my_S → Prop} {res : Nat ⊕ Cv} (ht : txt t n) (hκ : 1 ≤ κ.2.1 ∧ 6 ≤ κ.2.2) (h2 : tkk t n p = 2) (hr : cnam t n L LT I w ck B p o S = some res) (h : CR t n L LT I w rv cu S p o σ) (hU : CU I rv cu ck ls B cF σ) (hd : 12 * (13 - o) + 24 ≤ d) (ho : o ≤ 12) (hf : ∀ q, res = .inl q → fY κ Q t n rv cu σ q) (hQ : ∀ v σ', res = .inr v → CV t n I w rv cu cF ls o v σ' → eqp (yF rv cu) σ σ' → Q (.inl none) κ σ') : my_M e d 78 [.inr (.inr (some 39))] κ σ Q := by
  obtain ⟨d, rfl⟩ := dS 1 (show 1 ≤ d by omega)
  have hN := (tk2_N h2 ht).1
  refine ys_78 ?_
  unfold ys_78_0
  rw [clT_nm ht h.1 h2, clT_pl h.1]
  refine x_55 h (by omega) (fun σ1 g1 f1 => ?_)
  rw [my_k0_v]
  have T40 := tcl ht g1.1 40 (y := 40) (by omega) rfl
  have T91 := tcl ht g1.1 91 (y := 91) (by omega) rfl
  have lst : ∀ (q : Nat) (S1 : St) (σ2 : my_S), tQ t n q 59 (fun q1 => some (.inr (q1, L, LT, ck, B, S1))) = some res → CR t n L LT I w rv cu S1 q o σ2 → eqp (xF rv cu) σ σ2 → ys_78_184 e d κ σ2 Q := fun q S1 σ2 hr2 g2 f2 => by
    unfold ys_78_184
    refine y_62 (due := 59) ht hκ g2 (by omega) (by omega) rfl hr2 (fun q' hq' _ => fY_mo (hf q' hq') (eqp_mo f2 (fun _ _ => xF_y))) (fun hr3 _ σ3 g3 f3 => ?_)
    rw [my_k0_v]
    cases hr3
    exact hQ _ σ3 rfl ⟨g3, CU_x h hU (eqp_tr f2 f3)⟩ (eqp_mo (eqp_tr f2 f3) (fun _ _ => xF_y))
  unfold cnam at hr
  refine my_if (fun h40 => ?_) (fun h40 => ?_)
  · have h40 := T40.mp h40
    rw [if_pos h40] at hr
    rcases ce_s hr with ⟨q, a1, a2⟩ | ⟨a, c, q, S1, a1, a2⟩
    · refine CX_79 (as := true) ht hκ (CX ht hκ 21100).2.2.1 hN a1 g1 h40 rfl (by omega) ho (fun q' hq' => ?_) (fun a c q' S' hh => by cases hh)
      cases hq'
      exact fC_mo (fY_C (hf q a2)) f1
    · refine CX_79 (as := true) ht hκ (CX ht hκ 21100).2.2.1 hN a1 g1 h40 rfl (by omega) ho (fun q' hq' => by cases hq') (fun a' c' q' S' hh σ2 g2 f2 => ?_)
      cases hh
      rw [my_kI_v]
      exact lst q S1 σ2 a2 g2 (eqp_tr f1 f2)
  rw [T40] at h40
  rw [if_neg h40] at hr
  refine my_if (fun h91 => ?_) (fun h91 => ?_)
  · have h91 := T91.mp h91
    rw [if_pos h91] at hr
    rcases ce_s hr with ⟨q, a1, a2⟩ | ⟨a, c, q, S1, a1, a2⟩
    · refine CX_86 ht hκ (CX ht hκ 21100).1 hN a1 g1 h91 rfl (by omega) ho (fun q' hq' => ?_) (fun a c q' S' hh => by cases hh)
      cases hq'
      exact fC_mo (fY_C (hf q a2)) f1
    · refine CX_86 ht hκ (CX ht hκ 21100).1 hN a1 g1 h91 rfl (by omega) ho (fun q' hq' => by cases hq') (fun a' c' q' S' hh σ2 g2 f2 => ?_)
      cases hh
      rw [my_kA_v]
      have fr2 := eqp_tr f1 f2
      refine y_62 (due := 61) ht hκ g2 (by omega) (by omega) rfl a2 (fun q' hq' _ => fY_mo (hf q' hq') (eqp_mo fr2 (fun _ _ => xF_y))) (fun hr3 _ σ3 g3 f3 => ?_)
      rw [my_k0_v]
      have fr3 := eqp_tr fr2 f3
      refine y_81 ht hκ g3 (by omega) ho hr3 (fun q' hq' => fY_mo (hf q' hq') (eqp_mo fr3 (fun _ _ => xF_y))) (fun a4 q4 S4 hr4 _ σ4 g4 f4 => ?_)
      rw [my_k0_v]
      refine x_87 g4 (fun k hk => by have := mnt_lt hk; have := h.2.2.1.2.2.2.2.1; omega) (by omega) (fun σ5 g5 f5 => ?_)
      rw [my_k0_v]
      exact lst q4 _ σ5 hr4 g5 (eqp_tr (eqp_tr fr3 f4) f5)
  rw [T91] at h91
  rw [if_neg h91] at hr
  refine x_74 hN g1.2.2.1 (by omega) ?_
  rw [my_kI_v]
  cases hkw : kwi L (tkm t n p) 0 with
  | some j =>
    rw [hkw] at hr
    have hj := kwi_lt hkw
    have hL := g1.2.2.1.2.1.2.1
    show if Int32.ofNat j = Int32.ofInt (-1) then _ else _
    rw [if_neg (fun hh => absurd (congrArg Int32.toInt hh) (by rw [oN_i (by omega), show (Int32.ofInt (-1)).toInt = -1 from rfl]; omega))]
    refine x_74 hN g1.2.2.1 (by omega) ?_
    rw [my_kI_v, hkw]
    show my_M e d 62 _ κ σ1 _
    refine y_62 (due := 61) ht hκ g1 (by omega) (by omega) rfl hr (fun q' hq' _ => fY_mo (hf q' hq') (eqp_mo f1 (fun _ _ => xF_y))) (fun hr3 _ σ3 g3 f3 => ?_)
    rw [my_k0_v]
    have fr3 := eqp_tr f1 f3
    refine x_88 g3.2.2.1 (by omega) (by omega) ?_
    rw [my_kI_v]
    refine y_81 ht hκ g3 (by omega) ho hr3 (fun q' hq' => fY_mo (hf q' hq') (eqp_mo fr3 (fun _ _ => xF_y))) (fun a4 q4 S4 hr4 _ σ4 g4 f4 => ?_)
    rw [my_k0_v]
    refine x_67 (k := 1) g4 (by omega) (by omega) rfl (fun σ5 g5 f5 => ?_)
    rw [my_k0_v]
    refine x_67 (k := 1) g5 (by omega) (by omega) rfl (fun σ6 g6 f6 => ?_)
    rw [my_k0_v]
    exact lst q4 _ σ6 hr4 g6 (eqp_tr (eqp_tr (eqp_tr fr3 f4) f5) f6)
  | none =>
    rw [hkw] at hr
    show if Int32.ofInt (-1) = Int32.ofInt (-1) then _ else _
    rw [if_pos rfl]
    have hrr := g1.2.2.1.2.2.1
    refine ⟨rv, hrr.1, in10 hrr.2.1, ?_⟩
    refine x_195 hN g1.2.2.1 (by omega) ?_
    rw [my_kA_v]
    refine x_80 (l := tkm t n p) (pl := p) g1 (by omega) rfl (fun σ2 g2 f2 => ?_)
    rw [my_kA_v]
    have fr2 := eqp_tr f1 f2
    refine y_62 (due := 61) ht hκ g2 (by omega) (by omega) rfl hr (fun q' hq' _ => fY_mo (hf q' hq') (eqp_mo fr2 (fun _ _ => xF_y))) (fun hr3 _ σ3 g3 f3 => ?_)
    rw [my_k0_v]
    have fr3 := eqp_tr fr2 f3
    have go : ys_78_173 e d (itO rv (mnt I w (tkm t n p) 0 p S).1) (tyO I (mnt I w (tkm t n p) 0 p S).1) κ σ3 Q := by
      unfold ys_78_173
      refine y_81 ht hκ g3 (by omega) ho hr3 (fun q' hq' => fY_mo (hf q' hq') (eqp_mo fr3 (fun _ _ => xF_y))) (fun a4 q4 S4 hr4 _ σ4 g4 f4 => ?_)
      rw [my_k0_v]
      refine x_87 g4 (fun k hk => by have := mnt_lt hk; have := h.2.2.1.2.2.2.2.1; omega) (by omega) (fun σ5 g5 f5 => ?_)
      rw [my_k0_v]
      exact lst q4 _ σ5 hr4 g5 (eqp_tr (eqp_tr fr3 f4) f5)
    cases hm : (mnt I w (tkm t n p) 0 p S).1 with
    | none =>
      rw [hm] at go
      rw [show itO rv none = none from rfl, if_pos rfl]
      exact go
    | some k =>
      rw [hm] at go
      have hki := mnt_lt hm
      rw [show itO rv (some k) = some (rv + 4 + 3 * k) from rfl, if_neg (by simp)]
      refine ⟨_, rfl, (CS_it g3.2.2.1 hki).2.1, ?_⟩
      rw [(CS_it g3.2.2.1 hki).2.2.2.2.1]
      exact go
/-- let -/
theorem y_90 {d p o ck : Nat} {L : List (List Nat)} {LT : Nat → Int32} {B : List Int32} {ls : Int32} {S : St} {σ : my_S} {Q : my_O → my_K → my_S → Prop} {res : Nat ⊕ Cv} (ht : txt t n) (hκ : 1 ≤ κ.2.1 ∧ 6 ≤ κ.2.2) (hr : clet t n L LT I w (nF0 I cu) ck B p o S = some res) (h : CR t n L LT I w rv cu S p o σ) (hU : CU I rv cu ck ls B cF σ) (hd : 12 * (13 - o) + 24 ≤ d) (ho : o ≤ 12) (hf : ∀ q, res = .inl q → fY κ Q t n rv cu σ q) (hQ : ∀ v σ', res = .inr v → CV t n I w rv cu cF ls o v σ' → eqp (yF rv cu) σ σ' → Q (.inl none) κ σ') : my_M e d 90 [.inr (.inr (some 39))] κ σ Q := by
  obtain ⟨d, rfl⟩ := dS 1 (show 1 ≤ d by omega)
  refine ys_90 ?_
  unfold ys_90_0
  refine x_55 h (by omega) (fun σ1 g1 f1 => ?_)
  rw [my_k0_v]
  have hU1 := CU_x h hU f1
  refine x_73 ht g1 hU1 (by omega) ?_
  rw [my_kI_v]
  unfold clet at hr
  refine x_60 (by omega) hκ (fun hb => ?_) (fun hb => ?_)
  · have hn : nwL t n L (nF0 I cu) 10 (nx t n p) = true := by
      cases hh : nwL t n L (nF0 I cu) 10 (nx t n p) with
      | true => rfl
      | false => rw [hh] at hb; exact absurd rfl hb
    rw [if_pos hn] at hr
    obtain ⟨n1, n2, n3, n4⟩ := nwL_t.mp hn
    have hN := (tk2_N n1 ht).1
    rw [my_k0_v, clT_nm ht g1.1 n1]
    refine x_55 g1 (by omega) (fun σ2 g2 f2 => ?_)
    rw [my_k0_v]
    have fr2 := eqp_tr f1 f2
    refine y_62 (due := 61) ht hκ g2 (by omega) (by omega) rfl hr (fun q' hq' _ => fY_mo (hf q' hq') (eqp_mo fr2 (fun _ _ => xF_y))) (fun hr3 _ σ3 g3 f3 => ?_)
    rw [my_k0_v]
    have fr3 := eqp_tr fr2 f3
    rcases ce_s hr3 with ⟨q, a1, a2⟩ | ⟨a, c, q, S1, a1, a2⟩
    · refine (CX ht hκ 21100).1 d 0 _ o S σ3 _ _ (by omega) a1 g3 (by omega) ho (fun q' hq' => ?_) (fun a c q' S' hh => by cases hh)
      cases hq'
      exact fC_mo (fY_C (hf q a2)) fr3
    · refine (CX ht hκ 21100).1 d 0 _ o S σ3 _ _ (by omega) a1 g3 (by omega) ho (fun q' hq' => by cases hq') (fun a' c' q' S' hh σ4 g4 f4 => ?_)
      cases hh
      rw [my_kI_v]
      have fr4 := eqp_tr fr3 f4
      refine y_62 (due := 59) ht hκ g4 (by omega) (by omega) rfl a2 (fun q' hq' _ => fY_mo (hf q' hq') (eqp_mo fr4 (fun _ _ => xF_y))) (fun hr5 _ σ5 g5 f5 => ?_)
      rw [my_k0_v]
      refine x_67 (k := 1) g5 (by omega) (by omega) rfl (fun σ6 g6 f6 => ?_)
      rw [my_k0_v, g6.2.2.1.2.1.1]
      refine x_67 (k := 1) g6 (by omega) (by omega) rfl (fun σ7 g7 f7 => ?_)
      rw [my_k0_v]
      have fr7 := eqp_tr (eqp_tr (eqp_tr fr4 f5) f6) f7
      refine x_75 hN g7 n4 (by omega) (fun σ8 g8 f8 => ?_)
      rw [my_k0_v]
      cases hr5
      refine hQ _ σ8 rfl ⟨g8, ?_⟩ (eqp_tr (eqp_mo fr7 (fun _ _ => xF_y)) (eqp_mo f8 (fun c k hh => by unfold yF; omega)))
      obtain ⟨u1, u2, ⟨u3, u4, u5⟩, u6, u7, u8⟩ := CU_x h hU fr7
      have hrv := h.2.2.1.2.2.1.2.1
      exact ⟨(eqp_g f8 (by omega)).trans u1, (eqp_g f8 (by omega)).trans u2, ⟨(eqp_g f8 (by omega)).trans u3, u4, fun j x hx => (eqp_g f8 (by omega)).trans (u5 j x hx)⟩, (eqp_g f8 (by omega)).trans u6, fun k hk => (eqp_g f8 (by omega)).trans (u7 k hk), u8⟩
  · have hn : ¬ nwL t n L (nF0 I cu) 10 (nx t n p) = true := fun hh => by rw [hh] at hb; exact absurd hb (by decide)
    rw [if_neg hn] at hr
    cases hr
    exact hf _ rfl σ1 g1.1 (eqp_mo f1 (fun _ _ => xF_y))
/-- return -/
theorem y_98 {d p o ck fm : Nat} {L : List (List Nat)} {LT : Nat → Int32} {B : List Int32} {ls : Int32} {S : St} {σ : my_S} {Q : my_O → my_K → my_S → Prop} {res : Nat ⊕ Cv} (ht : txt t n) (hκ : 1 ≤ κ.2.1 ∧ 6 ≤ κ.2.2) (hfm : fm = 2 ∨ fm = 3 ∨ fm = 4) (hform : (itA I cu).2.1 = Int32.ofNat fm) (hr : cret t n fm (itA I cu).2.2.2.1 L LT I w ck B p o S = some res) (h : CR t n L LT I w rv cu S p o σ) (hU : CU I rv cu ck ls B cF σ) (hd : 12 * (13 - o) + 24 ≤ d) (ho : o ≤ 12) (hf : ∀ q, res = .inl q → fY κ Q t n rv cu σ q) (hQ : ∀ v σ', res = .inr v → CV t n I w rv cu cF ls o v σ' → eqp (yF rv cu) σ σ' → Q (.inl none) κ σ') : my_M e d 98 [.inr (.inr (some 39))] κ σ Q := by
  obtain ⟨d, rfl⟩ := dS 1 (show 1 ≤ d by omega)
  have hrr := h.2.2.1.2.2.1
  have hcu := hU.2.2.2.2.2
  have hit := CS_it h.2.2.1 hcu
  have e2 : (itA I cu).2.1 = 2 ↔ fm = 2 := by rw [hform]; exact oN_e (b := 2) (by omega) (by omega)
  have e3 : (itA I cu).2.1 = 3 ↔ fm = 3 := by rw [hform]; exact oN_e (b := 3) (by omega) (by omega)
  have lst : ∀ (q : Nat) (S1 : St) (σ2 : my_S), tQ t n q 59 (fun q1 => some (.inr (q1, L, LT, ck, B, S1))) = some res → CR t n L LT I w rv cu S1 q o σ2 → eqp (xF rv cu) σ σ2 → ys_98_77 e d κ σ2 Q := fun q S1 σ2 hr2 g2 f2 => by
    unfold ys_98_77
    refine y_62 (due := 59) ht hκ g2 (by omega) (by omega) rfl hr2 (fun q' hq' _ => fY_mo (hf q' hq') (eqp_mo f2 (fun _ _ => xF_y))) (fun hr3 _ σ3 g3 f3 => ?_)
    rw [my_k0_v]
    cases hr3
    exact hQ _ σ3 rfl ⟨g3, CU_x h hU (eqp_tr f2 f3)⟩ (eqp_mo (eqp_tr f2 f3) (fun _ _ => xF_y))
  refine ys_98 ?_
  unfold ys_98_0 ys_98_23
  unfold cret at hr
  refine ⟨_, hrr.2.2.1, hit.2.1, ?_⟩
  rw [hit.2.2.1]
  have go : fm ≠ 4 → ys_98_28 e d 1 κ σ Q := fun h4 => by
    rw [if_neg h4] at hr
    unfold ys_98_28
    refine x_60 (by omega) hκ (fun _ => ?_) (fun hh => absurd hh (by decide))
    rw [my_k0_v]
    refine x_55 h (by omega) (fun σ1 g1 f1 => ?_)
    rw [my_k0_v]
    have hr1 := g1.2.2.1.2.2.1
    have hit1 := CS_it g1.2.2.1 hcu
    refine ⟨_, hr1.2.2.1, hit1.2.1, ?_⟩
    rw [hit1.2.2.1]
    refine my_if (fun h2 => ?_) (fun h2 => ?_)
    · rw [if_pos (e2.mp h2)] at hr
      refine ⟨_, hr1.2.2.1, hit1.2.1, ?_⟩
      rw [hit1.2.2.2.2.1]
      refine y_81 ht hκ g1 (by omega) ho hr (fun q' hq' => fY_mo (hf q' hq') (eqp_mo f1 (fun _ _ => xF_y))) (fun a4 q4 S4 hr4 _ σ4 g4 f4 => ?_)
      rw [my_k0_v]
      refine x_67 (k := 1) g4 (by omega) (by omega) rfl (fun σ5 g5 f5 => ?_)
      rw [my_k0_v]
      exact lst q4 _ σ5 hr4 g5 (eqp_tr (eqp_tr f1 f4) f5)
    · rw [if_neg (fun hh => h2 (e2.mpr hh))] at hr
      refine x_67 (k := 1) g1 (by omega) (by omega) rfl (fun σ5 g5 f5 => ?_)
      rw [my_k0_v]
      exact lst _ _ σ5 hr g5 (eqp_tr f1 f5)
  refine my_if (fun h2 => go (by have := e2.mp h2; omega)) (fun h2 => ?_)
  refine ⟨_, hrr.2.2.1, hit.2.1, ?_⟩
  rw [hit.2.2.1]
  refine my_if (fun h3 => go (by have := e3.mp h3; omega)) (fun h3 => ?_)
  rw [e2] at h2
  rw [e3] at h3
  rw [if_pos (by omega)] at hr
  cases hr
  unfold ys_98_28
  exact x_60 (by omega) hκ (fun hh => absurd rfl hh) (fun _ => hf p rfl σ h.1 eqp_rf)
/-- break and continue -/
theorem y_97 {d p o ck : Nat} {L : List (List Nat)} {LT : Nat → Int32} {B : List Int32} {ls : Int32} {S : St} {σ : my_S} {Q : my_O → my_K → my_S → Prop} {res : Nat ⊕ Cv} (ht : txt t n) (hκ : 1 ≤ κ.2.1 ∧ 6 ≤ κ.2.2) (hr : clv t n L LT w ck ls B p S = some res) (h : CR t n L LT I w rv cu S p o σ) (hU : CU I rv cu ck ls B cF σ) (hd : 12 * (13 - o) + 24 ≤ d) (hf : ∀ q, res = .inl q → fY κ Q t n rv cu σ q) (hQ : ∀ v σ', res = .inr v → CV t n I w rv cu cF ls o v σ' → eqp (yF rv cu) σ σ' → Q (.inl none) κ σ') : my_M e d 97 [.inr (.inr (some 39))] κ σ Q := by
  obtain ⟨d, rfl⟩ := dS 1 (show 1 ≤ d by omega)
  have hrv := h.2.2.1.2.2.1.2.1
  refine ys_97 ?_
  unfold ys_97_0
  rw [hU.2.1]
  unfold clv at hr
  refine my_if (fun h1 => ?_) (fun h1 => ?_)
  · rw [if_pos h1] at hr
    cases hr
    unfold ys_97_14
    exact x_60 (by omega) hκ (fun hh => absurd rfl hh) (fun _ => hf p rfl σ h.1 eqp_rf)
  · rw [if_neg h1] at hr
    unfold ys_97_14
    refine x_60 (by omega) hκ (fun _ => ?_) (fun hh => absurd hh (by decide))
    rw [my_k0_v]
    have T := tcl ht h.1 311 (y := 311) (by omega) rfl
    have go : ∀ t0 : Int32, (t0 = 0 ↔ tkk t n p ≠ 311) → ys_97_35 e d t0 κ σ Q := fun t0 ht0 => by
      unfold ys_97_35 ys_97_103
      refine x_55 h (by omega) (fun σ1 g1 f1 => ?_)
      rw [my_k0_v]
      refine y_62 (due := 59) ht hκ g1 (by omega) (by omega) rfl hr (fun q' hq' _ => fY_mo (hf q' hq') (eqp_mo f1 (fun _ _ => xF_y))) (fun hr2 _ σ2 g2 f2 => ?_)
      rw [my_k0_v]
      have fr2 := eqp_tr f1 f2
      rw [(CU_x h hU fr2).2.1]
      refine x_93 g2 (by omega) (fun σ3 g3 f3 => ?_)
      rw [my_kI_v]
      have fr3 := eqp_tr fr2 f3
      have hU3 := CU_x h hU fr3
      have yes : t0 ≠ 0 → tkk t n p = 311 := fun hh => Decidable.byContradiction (fun h2 => hh (ht0.mpr h2))
      cases hr2
      refine my_if (fun h0 => ?_) (fun h0 => ?_)
      · refine hQ _ σ3 rfl ⟨g3, ?_⟩ (eqp_mo fr3 (fun _ _ => xF_y))
        have e1 : (if tkk t n p = 311 ∧ B.length < 256 then B ++ [wjP w 14 ls S] else B) = B := if_neg (fun hh => ht0.mp h0 hh.1)
        show CU I rv cu ck ls (if tkk t n p = 311 ∧ B.length < 256 then B ++ [wjP w 14 ls S] else B) cF σ3
        rw [e1]
        exact hU3
      · obtain ⟨u1, u2, ⟨u3, u4, u5⟩, u6, u7, u8⟩ := hU3
        rw [u3, if_neg (oN_0 (by omega))]
        refine my_if (fun h6 => ?_) (fun h6 => ?_)
        · have h6 : B.length < 256 := (oN_lt1 (b := 256) (c := 256) rfl (by omega) (by omega)).mp h6
          refine ⟨⟨by rw [oN_i (by omega)]; omega, by rw [oN_i (by omega)]; omega⟩, ?_⟩
          rw [oN_n (by omega), oN_s]
          have he : eqp (fun c k => (c = 39 ∧ k = 13) ∨ (c = 42 ∧ k = B.length)) σ3 (my_uI (my_uI σ3 42 B.length (wjP w 14 ls S)) 39 13 (Int32.ofNat (B.length + 1))) := eqp_I (eqp_I eqp_rf (by omega)) (by omega)
          have g4 : CR t n L LT I w rv cu (wjS w 14 ls S) (nx t n (nx t n p)) o (my_uI (my_uI σ3 42 B.length (wjP w 14 ls S)) 39 13 (Int32.ofNat (B.length + 1))) := by
            obtain ⟨c1, c2, c3, c4⟩ := g3
            refine ⟨clT_o c1 he (fun c k hh => by omega), (eqp_g he (by omega)).trans c2, ?_, CD_o c4 he (fun c k hh => by unfold dF; omega)⟩
            obtain ⟨k1, ⟨k2, k3, k4, k5, k6⟩, ⟨k7, k8, k9, k10⟩, ⟨k11, k12, k13, k14⟩⟩ := c3
            have g : ∀ {c k}, ¬ ((c = 39 ∧ k = 13) ∨ (c = 42 ∧ k = B.length)) → _ := fun {c k} hn => he c k hn
            refine ⟨(g (by omega)).1.trans k1, ⟨(g (by omega)).1.trans k2, k3, k4, fun j l hj => (g (by omega)).2.1.trans (k5 j l hj), fun j hj => (g (by omega)).1.trans (k6 j hj)⟩, ⟨(g (by omega)).2.2.trans k7, k8, (g (by omega)).2.2.trans k9, k10⟩, ⟨(g (by omega)).1.trans k11, k12, fun k hk => (g (by omega)).2.2.trans (k13 k hk), fun k it hk => ?_⟩⟩
            obtain ⟨a1, a2, a3, a4, a5, a6, a7⟩ := k14 k it hk
            exact ⟨a1, (g (by omega)).2.1.trans a2, (g (by omega)).1.trans a3, (g (by omega)).1.trans a4, (g (by omega)).1.trans a5, (g (by omega)).1.trans a6, fun j hj => (g (by omega)).1.trans (a7 j hj)⟩
          refine hQ _ _ rfl ⟨g4, ?_⟩ (eqp_tr (eqp_mo fr3 (fun _ _ => xF_y)) (eqp_mo he (fun c k hh => by unfold yF; omega)))
          show CU I rv cu ck ls (if tkk t n p = 311 ∧ B.length < 256 then B ++ [wjP w 14 ls S] else B) cF _
          rw [if_pos ⟨yes h0, h6⟩]
          refine ⟨(eqp_g he (by omega)).trans u1, (eqp_g he (by omega)).trans u2, ⟨?_, by simp; omega, fun i x hx => ?_⟩, (eqp_g he (by omega)).trans u6, fun k hk => (eqp_g he (by omega)).trans (u7 k hk), u8⟩
          · rw [my_uI_1, if_pos ⟨rfl, rfl⟩]; simp
          · by_cases hi : i < B.length
            · rw [List.getElem?_append_left hi] at hx
              exact (eqp_g he (by omega)).trans (u5 i x hx)
            · rw [List.getElem?_append_right (by omega)] at hx
              have hi0 : i - B.length = 0 := by
                by_cases h0 : i - B.length = 0
                · exact h0
                · rw [List.getElem?_eq_none (by simp; omega)] at hx
                  cases hx
              rw [hi0] at hx
              simp only [List.getElem?_cons_zero, Option.some.injEq] at hx
              have : i = B.length := by omega
              rw [this, ← hx, my_uI_1, if_neg (by omega), my_uI_1, if_pos ⟨rfl, rfl⟩]
        · refine hQ _ σ3 rfl ⟨g3, ?_⟩ (eqp_mo fr3 (fun _ _ => xF_y))
          have h6 : ¬ B.length < 256 := fun hh => h6 ((oN_lt1 (b := 256) (c := 256) rfl (by omega) (by omega)).mpr hh)
          show CU I rv cu ck ls (if tkk t n p = 311 ∧ B.length < 256 then B ++ [wjP w 14 ls S] else B) cF σ3
          rw [if_neg (fun hh => h6 hh.2)]
          exact ⟨u1, u2, ⟨u3, u4, u5⟩, u6, u7, u8⟩
    refine my_if (fun h311 => go 1 ⟨fun hh => absurd hh (by decide), fun hh => absurd (T.mp h311) hh⟩) (fun h311 => go 0 ⟨fun _ hh => h311 (T.mpr hh), fun _ => rfl⟩)
end MCW
