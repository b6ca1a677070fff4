/-! ===== the reference reads statements ===== -/
theorem ptc_ap {b : List Nat} : ∀ {A r C : List Rw} {T : Nat}, (∀ j ∈ b, A.length ≤ j ∧ j < A.length + r.length) → ptc b 0 T (A ++ r ++ C) = A ++ ptc b A.length T r ++ C := by
  induction b with
  | nil => intro A r C T _; rfl
  | cons j b ih =>
    intro A r C T h
    have hj := h j (by simp)
    show ptc b 0 T ((A ++ r ++ C).set (j - 0) (jmp 14 T)) = A ++ ptc b A.length T (r.set (j - A.length) (jmp 14 T)) ++ C
    have e1 : (A ++ r ++ C).set (j - 0) (jmp 14 T) = A ++ r.set (j - A.length) (jmp 14 T) ++ C := by
      rw [Nat.sub_zero, List.set_append_left _ _ (by simp; omega), List.set_append_right _ _ (by omega)]
    rw [e1]
    refine ih (fun i hi => ?_)
    have := h i (by simp [hi])
    simp
    omega
section MSY
variable {e : my_E} {d : Nat} {κ : my_K} {Q : my_O → my_K → my_S → Prop} {t : Nat → Int32} {n : Nat} {NL : List (List Nat)} {own : List Nat} {fm : Nat}
/-- nothing but the names of items is needed beside -/
def RN (NL : List (List Nat)) (own : List Nat) (σ : my_S) : Prop := rnm NL σ ∧ isN own ∧ σ.2.1 498 31 = nmR own
theorem RN_s {σ σ' : my_S} (h : RN NL own σ) (he : eqp sF σ σ') : RN NL own σ' := ⟨rnm_s h.1 he, h.2.1, ((he 498 31 (by unfold sF eF; omega)).2.1).trans h.2.2⟩
theorem RM_R {L : List (List Nat)} {p o : Nat} {R : List Rw} {σ : my_S} (h : RM t n L (.inr (p, o, R)) σ) : σ.1 498 9 < 0 := by
  obtain ⟨W, h⟩ := h
  rw [h.2.1]; exact fNo_lt
/-- a word is read -/
theorem RM_T {L : List (List Nat)} {p o : Nat} {R : List Rw} {σ : my_S} (ht : txt t n) (h : RM t n L (.inr (p, o, R)) σ) (k : Nat) {y : Int32} (hk : (33 ≤ k ∧ k < 127) ∨ (256 ≤ k ∧ k < 259) ∨ (300 ≤ k ∧ k < 317) ∨ k ≤ 3) (hy : y = Int32.ofNat (kR k)) : σ.1 498 4 = y ↔ tkk t n p = k := by
  obtain ⟨W, h⟩ := h
  exact tkq ht k hk (RE_tok h) hy
def dOK (D : List Bd) (K : List (Nat × Nat)) (R : List Rw) : Prop := D.length ≤ 12 ∧ (∀ b ∈ D, b.1 ≤ 3) ∧ (∀ x ∈ K, x.2 < D.length)
/-- let -/
theorem r_let {p o ck : Nat} {L : List (List Nat)} {R : List Rw} {D : List Bd} {K : List (Nat × Nat)} {σ : my_S} {res : Nat ⊕ (List Rw × List (List Nat) × Nat × List Nat × Nat)} (ht : txt t n) (hd : 9 ≤ d) (h2 : tkk t n p = 307) (hp : plet t n (NL ++ [own]) L ck p o = some res) (hb : bX n 0 (.inr (p, o, R))) (h : RM t n L (.inr (p, o, R)) σ) (hL : L.length ≤ 10) (hN : RN NL own σ) (hR : RD D K ck σ) (hf : ∀ q N σ', res = .inl q → RM t n L (.inl (q, N)) σ' → bX n 1 (.inl (q, N)) → eqp sF σ σ' → Q (.inl none) κ σ') (hQ : ∀ r L' c b q σ', res = .inr (r, L', c, b, q) → b = [] → c = ck → RM t n L' (.inr (q, o, R ++ r)) σ' → RD D K ck σ' → eqp sF σ σ' → Q (.inl none) κ σ') : my_M e d 218 [.inr (.inr (some 498))] κ σ (my_k0 (fun κ26 σ27 => my_M e d 237 [.inr (.inr (some 498)), .inl 10] κ26 σ27 (my_k0 (fun κ29 σ30 => my_M e d 230 [.inr (.inr (some 498)), .inl 61] κ29 σ30 (my_k0 (fun κ32 σ33 => my_M e d 244 [.inr (.inr (some 498))] κ32 σ33 (my_k0 (fun κ35 σ36 => my_M e d 230 [.inr (.inr (some 498)), .inl 59] κ35 σ36 (my_k0 (fun κ38 σ39 => my_M e d 243 [.inr (.inr (some 498)), .inl 207, .inl (σ39.1 498 29), .inr (.inl 0), .inl 0] κ38 σ39 (my_kI (fun x40 κ41 σ42 => ys_241_257 e d  κ41 (my_uI σ42 498 29 ((σ42.1 498 29) + 1)) Q) (fun y43 κ44 σ45 => Q (.inr y43) κ44 σ45))) (fun y46 κ47 σ48 => Q (.inr y46) κ47 σ48))) (fun y49 κ50 σ51 => Q (.inr y49) κ50 σ51))) (fun y52 κ53 σ54 => Q (.inr y52) κ53 σ54))) (fun y55 κ56 σ57 => Q (.inr y55) κ56 σ57))) (fun y58 κ59 σ60 => Q (.inr y58) κ59 σ60)) := by
  have hn := ht.1
  have b1 := bX_nx ht hb
  change bX n 0 (.inr (nx t n p, o, R)) at b1
  refine M_nx ht (by omega) h (fun σ1 g1 f1 => ?_)
  rw [my_k0_v]
  change RM t n L (.inr (nx t n p, o, R)) σ1 at g1
  have f1s := eqp_mo f1 (fun _ _ => eF_s)
  have hN1 := RN_s hN f1s
  have b2 := bX_nl (L := L) (Nf := NL ++ [own]) (most := 10) ht (by omega) b1
  refine r_237 (most := 10) ht (by omega) (by omega) rfl b1 hN1.1 hN1.2 hL g1 (fun σ2 g2 m2 f2 => ?_)
  rw [my_k0_v]
  have b3 := bX_tk (k := 61) ht (by omega) b2
  refine M_tk (k := 61) ht (by omega) b2 (by omega) (by omega) rfl g2 (fun σ3 g3 f3 => ?_)
  rw [my_k0_v]
  have b4 := bX_ex (L := L) ht b3
  refine M_ex ht (by omega) b3 (by omega) g3 (fun σ4 g4 f4 => ?_)
  rw [my_k0_v]
  have b5 := bX_tk (k := 59) ht (by omega) b4
  refine M_tk (k := 59) ht (by omega) b4 (by omega) (by omega) rfl g4 (fun σ5 g5 f5 => ?_)
  rw [my_k0_v]
  have fr5 := eqp_tr (eqp_tr f3 f4) f5
  have fs5 : eqp sF σ σ5 := eqp_tr (eqp_tr f1s (eqp_mo f2 (fun _ _ => nlF_s))) (eqp_mo fr5 (fun _ _ => eF_s))
  -- what it comes to
  unfold plet at hp
  unfold ys_241_257
  have bad : ∀ (q N : Nat) (y : Int32), res = .inl q → xtk t n 59 (xex t n L (xtk t n 61 (xnl t n L (NL ++ [own]) 10 (.inr (nx t n p, o, R))))) = .inl (q, N) → my_M e d 243 [.inr (.inr (some 498)), .inl 207, .inl y, .inr (.inl 0), .inl 0] κ σ5 (my_kI (fun x40 κ41 σ42 => Q (.inl none) κ41 (my_uI σ42 498 29 ((σ42.1 498 29) + 1))) (fun y43 κ44 σ45 => Q (.inr y43) κ44 σ45)) := fun q N y hres hX => by
    rw [hX] at g5 b5
    refine M_em (x := (207, y, [], 0)) ht (by omega) b5 (by omega) rfl (Or.inr (Or.inr rfl)) rfl rfl g5 (fun σ6 v g6 f6 _ => ?_)
    rw [my_kI_v]
    have he : eqp (fun c k => c = 498 ∧ k = 29) σ6 (my_uI σ6 498 29 (σ6.1 498 29 + 1)) := eqp_I eqp_rf ⟨rfl, rfl⟩
    refine hf q (N + 1) _ hres ?_ (bX_em (x := (207, y, [], 0)) b5) (eqp_tr (eqp_tr fs5 (eqp_mo f6 (fun _ _ => eF_s))) (eqp_mo he (fun c k hh => by unfold sF; omega)))
    obtain ⟨a1, ⟨p', a2⟩, m', a3, a4⟩ := g6
    exact ⟨(eqp_g he (by omega)).trans a1, ⟨p', rfT_o a2 he (fun c k hh => by omega)⟩, m', a3, (eqp_g he (by omega)).trans a4⟩
  by_cases hnw : nwL t n L (NL ++ [own]) 10 (nx t n p) = true
  · rw [if_pos hnw] at hp
    obtain ⟨n1, n2, n3, n4⟩ := nwL_t.mp hnw
    have hNm := (tk2_N n1 ht).1
    have eX : xnl t n L (NL ++ [own]) 10 (.inr (nx t n p, o, R)) = .inr (nx t n (nx t n p), o, R) := by
      show (if nwL t n L (NL ++ [own]) 10 (nx t n p) = true then _ else _) = _
      rw [if_pos hnw]
    rw [eX] at bad g5 b5
    unfold tT at hp
    by_cases h61 : tkk t n (nx t n (nx t n p)) = 61
    · rw [if_pos h61] at hp
      have eY : xtk t n 61 (.inr (nx t n (nx t n p), o, R)) = .inr (nx t n (nx t n (nx t n p)), o, R) := by
        show (if tkk t n (nx t n (nx t n p)) = 61 then _ else _) = _
        rw [if_pos h61]
      rw [eY, xex_tk (by decide)] at bad g5 b5
      unfold eT at hp
      dsimp only at hp
      unfold xdu at bad g5 b5
      cases hx : pX t n L (nx t n (nx t n (nx t n p))) o with
      | none => rw [hx] at hp; cases hp
      | some r1 =>
        rw [hx] at hp bad g5 b5
        rcases r1 with q | ⟨r, c, q⟩
        · cases hp
          exact bad q _ _ rfl rfl
        · dsimp only at hp bad g5 b5
          by_cases hq : tkk t n q = 59
          · rw [if_pos hq] at hp g5 b5
            have h29 : σ5.1 498 29 = Int32.ofNat L.length := by
              obtain ⟨W, g⟩ := g5
              exact g.2.2.2.2.2.1
            rw [h29]
            refine M_em (x := (207, Int32.ofNat L.length, [], 0)) ht (by omega) b5 (by omega) rfl (Or.inr (Or.inr rfl)) rfl rfl g5 (fun σ6 v g6 f6 _ => ?_)
            rw [my_kI_v]
            have h29' : σ6.1 498 29 = Int32.ofNat L.length := (eqp_g f6 (by unfold eF; omega)).trans h29
            rw [h29', oN_s]
            have he : eqp (fun c k => c = 498 ∧ k = 29) σ6 (my_uI σ6 498 29 (Int32.ofNat (L.length + 1))) := eqp_I eqp_rf ⟨rfl, rfl⟩
            have m6 : σ6.2.1 516 L.length = nmR (tkm t n (nx t n p)) := by
              rw [(f6 516 L.length (by unfold eF; omega)).2.1, (fr5 516 L.length (by unfold eF; omega)).2.1]
              exact m2 _ _ _ rfl hnw
            have fs6 := eqp_tr fs5 (eqp_mo f6 (fun _ _ => eF_s))
            cases hp
            refine hQ _ _ _ _ _ _ rfl rfl rfl ?_ ?_ (eqp_tr fs6 (eqp_mo he (fun c k hh => by unfold sF; omega)))
            · obtain ⟨W, c1, c2, c3, c4, c5, c6⟩ := g6
              refine ⟨W, rfT_o c1 he (fun c k hh => by omega), (eqp_g he (by omega)).trans c2, (eqp_g he (by omega)).trans c3, ?_, wts_o c5 he (fun c k hh => by omega), ⟨by rw [my_uI_1, if_pos ⟨rfl, rfl⟩]; simp, by simp; omega, fun l hl => ?_, fun j l hj => ?_⟩⟩
              · have := rws_o c4 he (fun c k hh => by omega)
                rw [← List.append_assoc]
                exact this
              · rcases List.mem_append.mp hl with hl | hl
                · exact c6.2.2.1 l hl
                · rw [List.mem_singleton.mp hl]; exact hNm
              · refine ((he 516 j (by omega)).2.1).trans ?_
                by_cases hjl : j < L.length
                · rw [List.getElem?_append_left hjl] at hj
                  exact c6.2.2.2 j l hj
                · rw [List.getElem?_append_right (by omega)] at hj
                  have hi0 : j - L.length = 0 := by
                    by_cases h0 : j - L.length = 0
                    · exact h0
                    · rw [List.getElem?_eq_none (by simp; omega)] at hj
                      cases hj
                  rw [hi0] at hj
                  simp only [List.getElem?_cons_zero, Option.some.injEq] at hj
                  rw [show j = L.length by omega, ← hj]
                  exact m6
            · have hR6 : RD D K ck σ6 := by
                have hR1 := RD_e hR f1
                have hR2 : RD D K ck σ2 := RD_o hR1 f2 (fun c k hh => by unfold nlF eF at hh; omega)
                exact RD_e (RD_e hR2 fr5) f6
              exact RD_o hR6 he (fun c k hh => by omega)
          · rw [if_neg hq] at hp bad
            cases hp
            exact bad q _ _ rfl rfl
    · rw [if_neg h61] at hp
      cases hp
      refine bad _ R.length _ rfl ?_
      have eY : xtk t n 61 (.inr (nx t n (nx t n p), o, R)) = .inl (nx t n (nx t n p), R.length) := by
        show (if tkk t n (nx t n (nx t n p)) = 61 then _ else _) = _
        rw [if_neg h61]
      rw [eY]
      rfl
  · rw [if_neg hnw] at hp
    cases hp
    refine bad _ R.length _ rfl ?_
    have eX : xnl t n L (NL ++ [own]) 10 (.inr (nx t n p, o, R)) = .inl (nx t n p, R.length) := by
      show (if nwL t n L (NL ++ [own]) 10 (nx t n p) = true then _ else _) = _
      rw [if_neg hnw]
    rw [eX]
    rfl
end MSY
