/-! ===== the reference reads simple statements ===== -/
def rX (o : Nat) (R : List Rw) (res : Nat ⊕ (List Rw × List (List Nat) × Nat × List Nat × Nat)) (X : Xs) : Prop := match res with
  | .inl q => ∃ N, X = .inl (q, N)
  | .inr (r, _, _, _, q) => X = .inr (q, o, R ++ r)
section MST
variable {e : my_E} {d : Nat} {κ : my_K} {Q : my_O → my_K → my_S → Prop} {t : Nat → Int32} {n : Nat} {L : List (List Nat)}
/-- an expression and the token that is due, purely -/
def xdu (t : Nat → Int32) (n o due : Nat) (R : List Rw) (x : Rs) : Xs := match x with
  | none => .inl (0, 0)
  | some (.inl q) => .inl (q, 3100)
  | some (.inr (r, _, q)) => if tkk t n q = due then .inr (nx t n q, o, R ++ r) else .inl (q, if rnk (tkk t n q) = 0 then (R ++ r).length else 3100)
theorem xex_tk {p o due : Nat} {R : List Rw} (hr : rnk due = 0) : xtk t n due (xex t n L (.inr (p, o, R))) = xdu t n o due R (pX t n L p o) := by
  unfold xdu
  unfold xex xexr
  simp only []
  cases pX t n L p o with
  | none => rfl
  | some res =>
    rcases res with q | ⟨r, c, q⟩
    · rfl
    · simp only []
      by_cases h0 : rnk (tkk t n q) = 0
      · rw [if_pos h0]
        unfold xtk
        simp only []
        by_cases hd : tkk t n q = due
        · rw [if_pos hd, if_pos hd]
        · rw [if_neg hd, if_neg hd, if_pos h0]
      · rw [if_neg h0]
        unfold xtk
        simp only []
        rw [if_neg (fun hd => h0 (by rw [hd]; exact hr)), if_neg h0]
theorem xex_cl {p o due : Nat} {R : List Rw} (hr : rnk due = 0) : xcl t n due (xex t n L (.inr (p, o, R))) = xdu t n (o - 1) due R (pX t n L p o) := by
  unfold xdu
  unfold xex xexr
  simp only []
  cases pX t n L p o with
  | none => rfl
  | some res =>
    rcases res with q | ⟨r, c, q⟩
    · rfl
    · simp only []
      by_cases h0 : rnk (tkk t n q) = 0
      · rw [if_pos h0]
        unfold xcl
        simp only []
        by_cases hd : tkk t n q = due
        · rw [if_pos hd, if_pos hd]
        · rw [if_neg hd, if_neg hd, if_pos h0]
      · rw [if_neg h0]
        unfold xcl
        simp only []
        rw [if_neg (fun hd => h0 (by rw [hd]; exact hr)), if_neg h0]
theorem xex_o {p o : Nat} {R : List Rw} {p' o' : Nat} {R' : List Rw} (h : xex t n L (.inr (p, o, R)) = .inr (p', o', R')) : o' = o := by
  unfold xex xexr at h
  simp only [] at h
  split at h
  · cases h
  · cases h
  · split at h
    · cases h; rfl
    · cases h
/-- the end of a call as a statement -/
theorem r_253z {X : Xs} {N c pl : Nat} {nm : List Nat} {σ : my_S} (ht : txt t n) (hd : 6 ≤ d) (hb : bX n N X) (hN : N ≤ 40) (ho : ∀ p o R, X = .inr (p, o, R) → 1 ≤ o) (h : RM t n L X σ) (hQ : ∀ σ', RM t n L (xem (205, Int32.ofNat c, nm, pl) (xtk t n 59 (xcl t n 41 X))) σ' → eqp eF σ σ' → Q (.inl none) κ σ') : ys_253_73 e d (nmR nm) (Int32.ofNat pl) (Int32.ofNat c) κ σ Q := by
  unfold ys_253_73
  have b1 := bX_cl (k := 41) ht (show N ≤ 1000 by omega) hb
  have b2 := bX_tk (k := 59) ht (show N ≤ 1000 by omega) b1
  refine M_cl (k := 41) ht (by omega) hb (by omega) (by omega) rfl ho h (fun σ1 g1 f1 => ?_)
  rw [my_k0_v]
  refine M_tk (k := 59) ht (by omega) b1 (by omega) (by omega) rfl g1 (fun σ2 g2 f2 => ?_)
  rw [my_k0_v]
  refine M_em (x := (205, Int32.ofNat c, nm, pl)) ht (by omega) b2 (by omega) rfl (Or.inr (Or.inr rfl)) rfl rfl g2 (fun σ3 v g3 f3 _ => ?_)
  rw [my_kI_v]
  exact hQ σ3 g3 (eqp_tr (eqp_tr f1 f2) f3)
def aX (t : Nat → Int32) (n o : Nat) (R : List Rw) (res : Nat ⊕ (List Rw × Nat × Nat)) (X : Xs) (c' : Nat) : Prop := match res with
  | .inl q => (∃ M, X = .inl (q, M)) ∨ ∃ R', X = .inr (q, o + 1, R') ∧ tkk t n q ≠ 41
  | .inr (r', c2, q) => X = .inr (q, o + 1, R ++ r') ∧ c' = c2
theorem r_253l {N o pl : Nat} {nm : List Nat} {R : List Rw} (ht : txt t n) (hd : 7 ≤ d) (hN : N ≤ 40) : ∀ (f p c : Nat) (r : List Rw) (σ : my_S) (res : Nat ⊕ (List Rw × Nat × Nat)), f ≤ 21100 → px t n L f 11 r c p (o + 1) = some res → bX n N (.inr (p, o + 1, R ++ r)) → RM t n L (.inr (p, o + 1, R ++ r)) σ → (∀ X' c' σ', bX n N X' → RM t n L X' σ' → aX t n o R res X' c' → eqp eF σ σ' → ys_253_73 e d (nmR nm) (Int32.ofNat pl) (Int32.ofNat c') κ σ' Q) → ys_253_19 e d (nmR nm) (Int32.ofNat pl) (Int32.ofNat c) 1 κ σ Q := by
  intro f
  induction f with
  | zero => intro p c r σ res _ h; simp [px] at h
  | succ f ih =>
    intro p c r σ res hf hpx hb h hQ
    unfold px at hpx
    rw [if_neg (by omega), if_neg (by omega), if_neg (by omega)] at hpx
    have bE := bX_ex (L := L) ht hb
    unfold ys_253_19
    rw [if_neg (by decide)]
    have h9 : σ.1 498 9 < 0 := by
      obtain ⟨W, h⟩ := h
      rw [h.2.1]; exact fNo_lt
    rw [if_pos h9]
    refine M_ex ht hd hb (by omega) h (fun σ1 g1 f1 => ?_)
    rw [my_k0_v, oN_s]
    have stop : ∀ X', X' = xex t n L (.inr (p, o + 1, R ++ r)) → aX t n o R res X' (c + 1) → ys_253_58 e d (nmR nm) (Int32.ofNat pl) (Int32.ofNat (c + 1)) κ σ1 Q := fun X' hX ha => by
      unfold ys_253_58 ys_253_59
      rw [if_pos rfl]
      refine ys_253_19_ok ?_
      unfold ys_253_19
      rw [if_pos rfl]
      subst hX
      exact hQ _ _ σ1 bE g1 ha f1
    have hX : xex t n L (.inr (p, o + 1, R ++ r)) = xexr t n (o + 1) (R ++ r) (pX t n L p (o + 1)) := rfl
    cases hx : px t n L f 0 [] 0 p (o + 1) with
    | none => rw [hx] at hpx; cases hpx
    | some res1 =>
      have hx2 : pX t n L p (o + 1) = some res1 := px_mo hx (by omega)
      rw [hx] at hpx
      rw [hx2] at hX
      rcases res1 with q | ⟨r1, c1, q⟩
      · have hX' : xex t n L (.inr (p, o + 1, R ++ r)) = .inl (q, 3100) := hX
        cases hpx
        have g1' := g1
        rw [hX'] at g1'
        rw [hX'] at bE
        rw [if_neg (RF_lt g1' (by have := bE.1; omega))]
        exact stop _ hX'.symm (Or.inl ⟨_, rfl⟩)
      · change (if tkk t n q = 44 then px t n L f 11 (r ++ r1) (c + 1) (nx t n q) (o + 1) else if tkk t n q = 41 then some (.inr (r ++ r1, c + 1, q)) else some (.inl q)) = some res at hpx
        change xex t n L (.inr (p, o + 1, R ++ r)) = (if rnk (tkk t n q) = 0 then .inr (q, o + 1, R ++ r ++ r1) else .inl (q, 3100)) at hX
        by_cases h0 : rnk (tkk t n q) = 0
        · rw [if_pos h0] at hX
          have g1' := g1
          rw [hX] at g1'
          have bE' := bE
          rw [hX] at bE'
          obtain ⟨W, g1e⟩ := g1'
          rw [g1e.2.1, if_pos fNo_lt]
          have T := tkq (p := q) ht 44 (by omega) (RE_tok g1e) (y := 44) rfl
          refine my_if (fun h44 => ?_) (fun h44 => ?_)
          · rw [if_pos (T.mp h44)] at hpx
            unfold ys_253_59
            rw [if_neg (by decide)]
            refine M_nx (X := .inr (q, o + 1, R ++ r ++ r1)) ht (by omega) ⟨W, g1e⟩ (fun σ2 g2 f2 => ?_)
            rw [my_k0_v]
            have b2 := bX_nx ht bE'
            have g2' : RM t n L (.inr (nx t n q, o + 1, R ++ (r ++ r1))) σ2 := by rw [← List.append_assoc]; exact g2
            have b2' : bX n N (.inr (nx t n q, o + 1, R ++ (r ++ r1))) := by rw [← List.append_assoc]; exact b2
            exact ys_253_19_ok (ih _ _ _ σ2 res (by omega) hpx b2' g2' (fun X' c' σ' hb' h' ha f' => hQ X' c' σ' hb' h' ha (eqp_tr (eqp_tr f1 f2) f')))
          · rw [if_neg (fun hh => h44 (T.mpr hh))] at hpx
            refine stop _ hX.symm ?_
            by_cases h41 : tkk t n q = 41
            · rw [if_pos h41] at hpx
              cases hpx
              exact ⟨by rw [List.append_assoc], rfl⟩
            · rw [if_neg h41] at hpx
              cases hpx
              exact Or.inr ⟨_, rfl, h41⟩
        · rw [if_neg h0] at hX
          have g1' := g1
          rw [hX] at g1'
          have bE' := bE
          rw [hX] at bE'
          rw [if_neg (RF_lt g1' (by have := bE'.1; omega))]
          rw [if_neg (fun h44 => h0 (by rw [h44]; rfl)), if_neg (fun h41 => h0 (by rw [h41]; rfl))] at hpx
          cases hpx
          exact stop _ hX.symm (Or.inl ⟨_, rfl⟩)
/-- a statement that begins with a name -/
theorem r_252 {p o ck : Nat} {R : List Rw} {σ : my_S} {res : Nat ⊕ (List Rw × List (List Nat) × Nat × List Nat × Nat)} (ht : txt t n) (hd : 9 ≤ d) (h2 : tkk t n p = 2) (hp : pnam t n L ck p o = some res) (hb : bX n 0 (.inr (p, o, R))) (h : RM t n L (.inr (p, o, R)) σ) (hQ : ∀ X' σ', bX n 1 X' → RM t n L X' σ' → rX o R res X' → eqp eF σ σ' → Q (.inl none) κ σ') : my_M e d 252 [.inr (.inr (some 498))] κ σ Q := by
  obtain ⟨d, rfl⟩ := dS 1 (show 1 ≤ d by omega)
  have hn := ht.1
  refine ys_252 ?_
  unfold ys_252_0 ys_252_159
  have h8 : σ.2.1 498 8 = nmR (tkm t n p) := by
    obtain ⟨W, h⟩ := h
    exact h.1.2.2.2.2.2.2.1 h2
  have h5 : σ.1 498 5 = Int32.ofNat p := by
    obtain ⟨W, h⟩ := h
    exact RE_pl h
  have hN := (tk2_N h2 ht).1
  rw [h8, h5]
  have b1 := bX_nx ht hb
  refine M_nx ht (by omega) h (fun σ1 g1 f1 => ?_)
  rw [my_k0_v]
  change bX n 0 (.inr (nx t n p, o, R)) at b1
  change RM t n L (.inr (nx t n p, o, R)) σ1 at g1
  have g1' := g1
  obtain ⟨W1, g1e⟩ := g1'
  have T61 := tkq (p := nx t n p) ht 61 (by omega) (RE_tok g1e) (y := 61) rfl
  have T91 := tkq (p := nx t n p) ht 91 (by omega) (RE_tok g1e) (y := 91) rfl
  have T40 := tkq (p := nx t n p) ht 40 (by omega) (RE_tok g1e) (y := 40) rfl
  unfold pnam at hp
  refine my_if (fun h61 => ?_) (fun n61 => ?_)
  · have h61 := T61.mp h61
    rw [if_neg (by omega), if_neg (by omega)] at hp
    unfold tT at hp
    rw [if_pos h61] at hp
    dsimp only at hp
    have b2 := bX_nx ht b1
    change bX n 0 (.inr (nx t n (nx t n p), o, R)) at b2
    refine M_nx ht (by omega) g1 (fun σ2 g2 f2 => ?_)
    rw [my_k0_v]
    change RM t n L (.inr (nx t n (nx t n p), o, R)) σ2 at g2
    have hrl : rlc L σ2 := by obtain ⟨W, h⟩ := g2; exact h.2.2.2.2.2
    obtain ⟨d, rfl⟩ := dS 1 (show 1 ≤ d by omega)
    refine r_238 hN hrl ?_
    rw [my_kI_v]
    refine M_ex ht (by omega) b2 (by omega) g2 (fun σ3 g3 f3 => ?_)
    rw [my_k0_v]
    have b3 := bX_ex (L := L) ht b2
    refine M_tk (k := 59) ht (by omega) b3 (by omega) (by omega) rfl g3 (fun σ4 g4 f4 => ?_)
    rw [my_k0_v]
    have b4 := bX_tk (k := 59) ht (by omega) b3
    have fr := eqp_tr (eqp_tr (eqp_tr f1 f2) f3) f4
    have fin : ∀ (op : Nat) (y : Int32), y = Int32.ofNat op → asg L (tkm t n p) p = (op, (ixO (kwi L (tkm t n p) 0)), tkm t n p, p) → ys_252_57 e (d + 1) (nmR (tkm t n p)) (Int32.ofNat p) (ixO (kwi L (tkm t n p) 0)) y κ σ4 Q := fun op y hy ha => by
      unfold ys_252_57 ys_252_159
      refine M_em (x := asg L (tkm t n p) p) ht (by omega) b4 (by omega) (by rw [ha]; exact hy) (by rw [ha]; exact Or.inr (Or.inr rfl)) (by rw [ha]) (by rw [ha]) g4 (fun σ5 v g5 f5 _ => ?_)
      rw [my_kI_v]
      refine hQ _ σ5 (bX_em b4) g5 ?_ (eqp_tr fr f5)
      rw [xex_tk (by decide)]
      unfold xdu
      unfold eT at hp
      cases hx : pX t n L (nx t n (nx t n p)) o with
      | none => rw [hx] at hp; cases hp
      | some r1 =>
        rw [hx] at hp
        rcases r1 with q | ⟨r, c, q⟩
        · cases hp
          exact ⟨_, rfl⟩
        · simp only [] at hp ⊢
          by_cases hq : tkk t n q = 59
          · rw [if_pos hq] at hp ⊢
            cases hp
            show Sum.inr _ = Sum.inr _
            rw [List.append_assoc]
          · rw [if_neg hq] at hp ⊢
            cases hp
            exact ⟨_, rfl⟩
    cases hk : kwi L (tkm t n p) 0 with
    | none =>
      rw [hk] at fin
      show if Int32.ofInt (-1) < 0 then _ else _
      rw [if_pos (by decide)]
      exact fin 201 201 rfl (by unfold asg; rw [hk]; rfl)
    | some j =>
      rw [hk] at fin
      have hj := kwi_lt hk
      have hL := hrl.2.1
      show if Int32.ofNat j < 0 then _ else _
      rw [if_neg (oN_0 (by omega))]
      exact fin 5 5 rfl (by unfold asg; rw [hk]; rfl)
  rw [T61] at n61
  refine my_if (fun h91 => ?_) (fun n91 => ?_)
  · have h91 := T91.mp h91
    rw [if_neg (by omega), if_pos h91] at hp
    have b2 := bX_os ht (by omega) b1
    refine M_os ht (by omega) b1 g1 (fun σ2 g2 f2 => ?_)
    rw [my_k0_v]
    refine M_nx ht (by omega) g2 (fun σ3 g3 f3 => ?_)
    rw [my_k0_v]
    have b3 := bX_nx ht b2
    refine M_ex ht (by omega) b3 (by omega) g3 (fun σ4 g4 f4 => ?_)
    rw [my_k0_v]
    have b4 := bX_ex (L := L) ht b3
    have o4 : ∀ p' o' R', xex t n L (xnx t n (xos (.inr (nx t n p, o, R)))) = .inr (p', o', R') → 1 ≤ o' := fun p' o' R' hh => by
      unfold xos at hh
      simp only [] at hh
      by_cases ho : o < 12
      · rw [if_pos ho] at hh
        have := xex_o (t := t) (n := n) (L := L) hh
        omega
      · rw [if_neg ho] at hh
        cases hh
    refine M_cl (k := 93) ht (by omega) b4 (by omega) (by omega) rfl o4 g4 (fun σ5 g5 f5 => ?_)
    rw [my_k0_v]
    have b5 := bX_cl (k := 93) ht (by omega) b4
    refine M_tk (k := 61) ht (by omega) b5 (by omega) (by omega) rfl g5 (fun σ6 g6 f6 => ?_)
    rw [my_k0_v]
    have b6 := bX_tk (k := 61) ht (by omega) b5
    refine M_ex ht (by omega) b6 (by omega) g6 (fun σ7 g7 f7 => ?_)
    rw [my_k0_v]
    have b7 := bX_ex (L := L) ht b6
    refine M_tk (k := 59) ht (by omega) b7 (by omega) (by omega) rfl g7 (fun σ8 g8 f8 => ?_)
    rw [my_k0_v]
    have b8 := bX_tk (k := 59) ht (by omega) b7
    refine M_em (x := (203, 0, tkm t n p, p)) ht (by omega) b8 (by omega) rfl (Or.inr (Or.inr rfl)) rfl rfl g8 (fun σ9 v g9 f9 _ => ?_)
    rw [my_kI_v]
    refine hQ _ σ9 (bX_em b8) g9 ?_ (eqp_tr (eqp_tr (eqp_tr (eqp_tr (eqp_tr (eqp_tr (eqp_tr (eqp_tr f1 f2) f3) f4) f5) f6) f7) f8) f9)
    unfold xos
    simp only []
    by_cases ho : 12 ≤ o
    · rw [if_pos ho] at hp
      cases hp
      rw [if_neg (by omega)]
      exact ⟨_, rfl⟩
    · rw [if_neg ho] at hp
      rw [if_pos (by omega)]
      show rX o R res (xem _ (xtk t n 59 (xex t n L (xtk t n 61 (xcl t n 93 (xex t n L (.inr (nx t n (nx t n p), o + 1, R))))))))
      rw [xex_cl (by decide)]
      unfold xdu
      unfold eT at hp
      cases hx : pX t n L (nx t n (nx t n p)) (o + 1) with
      | none => rw [hx] at hp; cases hp
      | some r1 =>
        rw [hx] at hp
        rcases r1 with q | ⟨r, c, q⟩
        · cases hp
          exact ⟨_, rfl⟩
        · simp only [] at hp ⊢
          by_cases hq : tkk t n q = 93
          · rw [if_pos hq] at hp ⊢
            unfold tT at hp
            rw [show o + 1 - 1 = o by omega]
            show rX o R res (xem _ (xtk t n 59 (xex t n L (if tkk t n (nx t n q) = 61 then .inr (nx t n (nx t n q), o, R ++ r) else .inl (nx t n q, (R ++ r).length)))))
            by_cases hq2 : tkk t n (nx t n q) = 61
            · rw [if_pos hq2] at hp ⊢
              dsimp only at hp
              rw [xex_tk (by decide)]
              unfold xdu
              cases hx2 : pX t n L (nx t n (nx t n q)) o with
              | none => rw [hx2] at hp; cases hp
              | some r2 =>
                rw [hx2] at hp
                rcases r2 with q2 | ⟨r2, c2, q2⟩
                · cases hp
                  exact ⟨_, rfl⟩
                · simp only [] at hp ⊢
                  by_cases hq3 : tkk t n q2 = 59
                  · rw [if_pos hq3] at hp ⊢
                    cases hp
                    show Sum.inr _ = Sum.inr _
                    simp only [List.append_assoc]
                  · rw [if_neg hq3] at hp ⊢
                    cases hp
                    exact ⟨_, rfl⟩
            · rw [if_neg hq2] at hp ⊢
              cases hp
              exact ⟨_, rfl⟩
          · rw [if_neg hq] at hp ⊢
            cases hp
            exact ⟨_, rfl⟩
  rw [T91] at n91
  refine my_if (fun h40 => ?_) (fun n40 => ?_)
  · have h40 := T40.mp h40
    rw [if_pos h40] at hp
    have b2 := bX_os ht (by omega) b1
    refine M_os ht (by omega) b1 g1 (fun σ2 g2 f2 => ?_)
    rw [my_k0_v]
    refine M_nx ht (by omega) g2 (fun σ3 g3 f3 => ?_)
    rw [my_k0_v]
    have b3 := bX_nx ht b2
    obtain ⟨d, rfl⟩ := dS 1 (show 1 ≤ d by omega)
    refine ys_253 ?_
    unfold ys_253_0 ys_253_17
    have fr := eqp_tr (eqp_tr f1 f2) f3
    unfold xos at g3 b3
    simp only [] at g3 b3
    by_cases ho : 12 ≤ o
    · rw [if_pos ho] at hp
      cases hp
      rw [if_neg (by omega)] at g3 b3
      have z : ∀ c, ys_253_73 e d (nmR (tkm t n p)) (Int32.ofNat p) (Int32.ofNat c) κ σ3 (my_k0 (fun κ17 σ18 => Q (.inl none) κ17 σ18) (fun y19 κ20 σ21 => Q (.inr y19) κ20 σ21)) := fun c =>
        r_253z (N := 0) ht (by omega) b3 (by omega) (fun p' o' R' hh => by cases hh) g3 (fun σ4 g4 f4 => by
          rw [my_k0_v]
          exact hQ _ σ4 (bX_em (bX_tk (k := 59) ht (by omega) (bX_cl (k := 41) ht (by omega) b3))) g4 ⟨_, rfl⟩ (eqp_tr fr f4))
      refine my_if (fun _ => ?_) (fun _ => ?_)
      · refine ys_253_19_ok ?_
        unfold ys_253_19
        rw [if_pos rfl]
        exact z 0
      · refine ys_253_19_ok ?_
        unfold ys_253_19
        rw [if_neg (by decide), if_neg (RF_lt g3 (by have := b3.1; omega))]
        exact z 0
    · rw [if_neg ho] at hp
      rw [if_pos (by omega)] at g3 b3
      change RM t n L (.inr (nx t n (nx t n p), o + 1, R)) σ3 at g3
      change bX n 0 (.inr (nx t n (nx t n p), o + 1, R)) at b3
      have g3' := g3
      obtain ⟨W3, g3e⟩ := g3'
      have T41 := tkq (p := nx t n (nx t n p)) ht 41 (by omega) (RE_tok g3e) (y := 41) rfl
      refine my_if (fun h41 => ?_) (fun n41 => ?_)
      · have h41 := T41.mp h41
        rw [if_pos h41] at hp
        refine ys_253_19_ok ?_
        unfold ys_253_19
        rw [if_pos rfl]
        refine r_253z (N := 0) (c := 0) (nm := tkm t n p) ht (by omega) b3 (by omega) (fun p' o' R' hh => by cases hh; omega) g3 (fun σ4 g4 f4 => ?_)
        rw [my_k0_v]
        refine hQ _ σ4 (bX_em (bX_tk (k := 59) ht (by omega) (bX_cl (k := 41) ht (by omega) b3))) g4 ?_ (eqp_tr fr f4)
        unfold xcl
        simp only []
        rw [if_pos h41]
        unfold xtk tT at *
        simp only [] at hp ⊢
        rw [show o + 1 - 1 = o by omega]
        by_cases hq : tkk t n (nx t n (nx t n (nx t n p))) = 59
        · rw [if_pos hq] at hp ⊢
          cases hp
          rfl
        · rw [if_neg hq] at hp ⊢
          cases hp
          exact ⟨_, rfl⟩
      · rw [T41] at n41
        rw [if_neg n41] at hp
        refine ys_253_19_ok ?_
        unfold aT at hp
        have g3n : RM t n L (.inr (nx t n (nx t n p), o + 1, R ++ [])) σ3 := by rw [List.append_nil]; exact g3
        have b3n : bX n 0 (.inr (nx t n (nx t n p), o + 1, R ++ [])) := by rw [List.append_nil]; exact b3
        cases hx : pA t n L (nx t n (nx t n p)) (o + 1) with
        | none => rw [hx] at hp; cases hp
        | some r1 =>
          rw [hx] at hp
          refine r_253l (N := 0) (R := R) ht (by omega) (by omega) 21100 _ 0 [] σ3 r1 (Nat.le_refl _) hx b3n g3n (fun X' c' σ4 hb4 h4 ha f4 => ?_)
          rcases r1 with q | ⟨r, c, q⟩
          · cases hp
            rcases ha with ⟨M, rfl⟩ | ⟨R', rfl, h41⟩
            · refine r_253z (N := 0) ht (by omega) hb4 (by omega) (fun p' o' R' hh => by cases hh) h4 (fun σ5 g5 f5 => ?_)
              rw [my_k0_v]
              exact hQ _ σ5 (bX_em (bX_tk (k := 59) ht (by omega) (bX_cl (k := 41) ht (by omega) hb4))) g5 ⟨_, rfl⟩ (eqp_tr (eqp_tr fr f4) f5)
            · refine r_253z (N := 0) ht (by omega) hb4 (by omega) (fun p' o' R' hh => by cases hh; omega) h4 (fun σ5 g5 f5 => ?_)
              rw [my_k0_v]
              refine hQ _ σ5 (bX_em (bX_tk (k := 59) ht (by omega) (bX_cl (k := 41) ht (by omega) hb4))) g5 ?_ (eqp_tr (eqp_tr fr f4) f5)
              unfold xcl
              simp only []
              rw [if_neg h41]
              exact ⟨_, rfl⟩
          · obtain ⟨rfl, rfl⟩ := ha
            have h41 := (pA_b ht b3.2.1 hx).2.2.2
            refine r_253z (N := 0) ht (by omega) hb4 (by omega) (fun p' o' R' hh => by cases hh; omega) h4 (fun σ5 g5 f5 => ?_)
            rw [my_k0_v]
            refine hQ _ σ5 (bX_em (bX_tk (k := 59) ht (by omega) (bX_cl (k := 41) ht (by omega) hb4))) g5 ?_ (eqp_tr (eqp_tr fr f4) f5)
            unfold xcl
            simp only []
            rw [if_pos h41]
            unfold xtk
            unfold tT at hp
            simp only [] at hp ⊢
            rw [show o + 1 - 1 = o by omega]
            by_cases hq : tkk t n (nx t n q) = 59
            · rw [if_pos hq] at hp ⊢
              cases hp
              show Sum.inr _ = Sum.inr _
              rw [List.append_assoc]
            · rw [if_neg hq] at hp ⊢
              cases hp
              exact ⟨_, rfl⟩
  · rw [T40] at n40
    rw [if_neg n40, if_neg n91] at hp
    unfold tT at hp
    rw [if_neg n61] at hp
    cases hp
    rw [RE_pl g1e]
    obtain ⟨d, rfl⟩ := dS 1 (show 1 ≤ d by omega)
    refine RE_bad (q := nx t n p) (N := R.length) g1e (Nat.le_refl _) (fun σ2 g2 _ _ f2 => ?_)
    rw [my_k0_v]
    exact hQ (.inl (nx t n p, R.length)) σ2 (bX_w (bX_f ht (by omega) b1.2.1 b1.2.2) (by omega)) g2 ⟨_, rfl⟩ (eqp_tr f1 f2)
end MST
