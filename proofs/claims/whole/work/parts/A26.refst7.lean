/-! ===== the reference reads loops, and all statements ===== -/
section MS1
variable {e : my_E} {d : Nat} {κ : my_K} {Q : my_O → my_K → my_S → Prop} {t : Nat → Int32} {n : Nat} {NL : List (List Nat)} {own : List Nat} {fm : Nat}
theorem SX_wh {f : Nat} (ht : txt t n) (hd : 12 ≤ d) (i0 : SX1 e d κ Q t n NL own fm 0 f) {p o : Nat} {L : List (List Nat)} {ck : Nat} {R : List Rw} {D : List Bd} {K : List (Nat × Nat)} {σ : my_S} {res : Nat ⊕ (List Rw × List (List Nat) × Nat × List Nat × Nat)} (h310 : tkk t n p = 310) (hp : pwh t n (pst t n fm (NL ++ [own]) f) p o R.length L ck = some res) (h : RM t n L (.inr (p, o, R)) σ) (hb : bX n 0 (.inr (p, o, R))) (hR : RD D K ck σ) (hN : RN NL own σ) (hL : L.length ≤ 10) (hD0 : 0 < D.length) (hDo : D.length ≤ o) (hDb : ∀ b ∈ D, b.1 ≤ 3) (hK : ∀ x ∈ K, x.2 < D.length) (hKp : K.length * 6 ≤ p) (hf : ∀ q N σ', res = .inl q → RM t n L (.inl (q, N)) σ' → bX n 5 (.inl (q, N)) → eqp sF σ σ' → ys_233_111 e d (Int32.ofNat (fm + 10)) κ σ' Q) (hQ : ∀ r L' c b q σ', res = .inr (r, L', c, b, q) → RM t n L' (.inr (q, o, R ++ r)) σ' → RD D (K ++ b.map (fun i => (i, lwN D))) c σ' → eqp sF σ σ' → ys_233_111 e d (Int32.ofNat (fm + 10)) κ σ' Q) : ys_233_111 e d (Int32.ofNat (fm + 10)) κ σ Q := by
  have hn := ht.1
  have hRp := hb.2.2
  have hpn := hb.2.1
  have ho := hb.1
  have T : ∀ (k : Nat) (y : Int32), ((33 ≤ k ∧ k < 127) ∨ (256 ≤ k ∧ k < 259) ∨ (300 ≤ k ∧ k < 317) ∨ k ≤ 3) → y = Int32.ofNat (kR k) → (σ.1 498 4 = y ↔ tkk t n p = k) := fun k y hk hy => RM_T ht h k hk hy
  refine lp_st (by omega) h hR hD0 (by omega) (fun Q' hQ' => ?_)
  unfold ys_241_0 ys_241_257
  rw [if_neg (fun hh => by have := (T 125 125 (by omega) rfl).mp hh; omega), if_neg (fun hh => by have := (T 307 17 (by omega) rfl).mp hh; omega), if_neg (fun hh => by have := (T 2 2 (by omega) rfl).mp hh; omega), if_neg (fun hh => by have := (T 308 18 (by omega) rfl).mp hh; omega), if_pos ((T 310 20 (by omega) rfl).mpr h310)]
  unfold pwh at hp
  rw [pcon_e ht (by omega)] at hp
  refine r_254 (kd := 3) ht (by omega) (by omega) (Or.inr rfl) hb h (by omega) hR (fun q N σ1 hc g1 b1 f1 => ?_) (fun rc q σ1 hc h123 ho12 g1 hR1 f1 => ?_)
  · rw [my_k0_v]
    refine hQ' κ σ1 (hf q N σ1 ?_ g1 (bX_w b1 (by omega)) f1)
    rcases hc with hc | ⟨rc, hc, hno⟩
    · rw [hc] at hp; cases hp; rfl
    · rw [hc] at hp
      rcases pblk_c hp with ⟨_, g2⟩ | ⟨g2, _⟩
      · exact g2
      · exact absurd g2 hno
  · rw [my_k0_v]
    apply hQ'
    rw [hc] at hp
    have hcb := pcn_b ht (by omega) hc
    have hlt := nx_bd ht (tk_lt (t := t) (n := n) (p := q) (by omega))
    rw [if_pos rfl] at g1
    have hb1 : bX n 0 (.inr (nx t n q, o + 1, R ++ (rc ++ (15, 0, [], 0) :: [(16, 0, [], 0)]))) := ⟨by omega, hlt.2, by simp only [List.length_append, List.length_cons, List.length_nil]; omega⟩
    have hlw : lwB ((3, R.length + rc.length, R.length) :: D) = some (D.length, R.length) := lwB_3
    have hlN : lwN ((3, R.length + rc.length, R.length) :: D) = D.length := by unfold lwN; rw [hlw]; rfl
    have hlen : (R ++ (rc ++ ((15, 0, [], 0) : Rw) :: [(16, 0, [], 0)])).length = R.length + rc.length + 2 := by simp; omega
    have hDb1 : ∀ b ∈ ((3, R.length + rc.length, R.length) :: D : List Bd), b.1 ≤ 3 := fun b hb' => by
      rcases List.mem_cons.mp hb' with rfl | hb'
      · show 3 ≤ 3; omega
      · exact hDb b hb'
    rcases pblk_c hp with ⟨g2, _⟩ | ⟨_, ⟨q1, g2, g3⟩ | ⟨rb, L1, c1, b, q1, g2, g3⟩⟩
    · exact absurd ⟨h123, ho12⟩ g2
    · refine i0 (nx t n q) (o + 1) L ck _ _ K σ1 _ (by rw [hlen, hlw]; exact g2) (fun hh => absurd rfl hh) g1 hb1 hR1 (RN_s hN f1) hL (by simp) (by simp; omega) hDb1 (fun x hx => by have := hK x hx; simp; omega) (by omega) (fun q' N σ2 hh a b c => ?_) (fun _ _ _ _ _ _ hh => by cases hh)
      cases hh
      exact hf q1 N σ2 g3 a b (eqp_tr f1 c)
    · obtain ⟨b1, b2, b3, b4, b5, b6, b7, b8, b9, b10⟩ := (pst_B ht _ _ _ _ _ _ _ _ _ hlt.2 hL g2).2 _ _ _ _ _ rfl
      have h125 := b8 rfl
      have hbk := pst_bk _ _ _ _ _ _ _ _ _ _ _ _ _ g2
      refine i0 (nx t n q) (o + 1) L ck _ _ K σ1 _ (by rw [hlen, hlw]; exact g2) (fun hh => absurd rfl hh) g1 hb1 hR1 (RN_s hN f1) hL (by simp) (by simp; omega) hDb1 (fun x hx => by have := hK x hx; simp; omega) (by omega) (fun q' N σ2 hh => by cases hh) (fun r' L' c' b' q' σ2 hh h2 hR2 f2 => ?_)
      cases hh
      rw [hlN] at hR2
      have f12 := eqp_tr f1 f2
      have eA : R ++ (rc ++ ((15, 0, [], 0) : Rw) :: [(16, 0, [], 0)]) ++ rb = (R ++ rc) ++ (15, 0, [], 0) :: ((16, 0, [], 0) :: rb) := by simp
      have hb2 : bX n 0 (.inr (q1, o + 1, R ++ (rc ++ ((15, 0, [], 0) : Rw) :: [(16, 0, [], 0)]) ++ rb)) := ⟨by omega, b2, by simp only [List.length_append, List.length_cons, List.length_nil]; omega⟩
      have hxj : (R ++ (rc ++ ((15, 0, [], 0) : Rw) :: [(16, 0, [], 0)]) ++ rb)[R.length + rc.length]? = some (15, 0, [], 0) := by
        rw [eA, List.getElem?_append_right (by simp), show R.length + rc.length - (R ++ rc).length = 0 by simp]
        rfl
      have hl2 : (R ++ (rc ++ ((15, 0, [], 0) : Rw) :: [(16, 0, [], 0)]) ++ rb).length = R.length + rc.length + 2 + rb.length := by simp; omega
      refine lp_e (b := b) (K0 := K) (x := (15, 0, [], 0)) ht (by omega) h125 hb2 h2 hR2 (by omega) (by omega) (fun _ => hxj) (fun hh => absurd rfl hh) (by simp only [List.length_append, List.length_map]; omega) (fun _ => hK) (fun _ i hi => ?_) (fun hh => by omega) (fun hh => by omega) (fun hh => by omega) (fun _ σ3 g4 hR3 f3 => ?_)
      · obtain ⟨k1, l, k2, k3⟩ := hbk i hi
        refine ⟨by omega, Int32.ofNat l, ?_⟩
        rw [List.getElem?_append_right (by rw [hlen]; omega), hlen]
        exact k3
      · cases g3
        refine hQ _ _ _ _ _ σ3 rfl ?_ (by simpa using hR3) (eqp_tr f12 f3)
        rw [hl2] at g4
        change RM t n L1 (.inr (nx t n q1, o, ptc b 0 (R.length + rc.length + 2 + rb.length + 1) ((R ++ (rc ++ ((15, 0, [], 0) : Rw) :: [(16, 0, [], 0)]) ++ rb ++ [(14, Int32.ofNat R.length, [], 0)]).set (R.length + rc.length) (15, Int32.ofNat (R.length + rc.length + 2 + rb.length + 1), [], 0)))) σ3 at g4
        have e1 : (R ++ (rc ++ ((15, 0, [], 0) : Rw) :: [(16, 0, [], 0)]) ++ rb ++ [(14, Int32.ofNat R.length, [], 0)]).set (R.length + rc.length) (15, Int32.ofNat (R.length + rc.length + 2 + rb.length + 1), [], 0) = (R ++ rc ++ [jmp 15 (R.length + rc.length + 2 + rb.length + 1), (16, 0, [], 0)]) ++ rb ++ [jmp 14 R.length] := by
          rw [eA, List.append_assoc, List.set_append_right _ _ (by simp), show R.length + rc.length - (R ++ rc).length = 0 by simp]
          simp [jmp]
        have hlA : (R ++ rc ++ [jmp 15 (R.length + rc.length + 2 + rb.length + 1), ((16, 0, [], 0) : Rw)]).length = R.length + rc.length + 2 := by simp; omega
        have e2 : R ++ (rc ++ jmp 15 (R.length + rc.length + 2 + rb.length + 1) :: (16, 0, [], 0) :: (ptc b (R.length + rc.length + 2) (R.length + rc.length + 2 + rb.length + 1) rb ++ [jmp 14 R.length])) = (R ++ rc ++ [jmp 15 (R.length + rc.length + 2 + rb.length + 1), (16, 0, [], 0)]) ++ ptc b (R.length + rc.length + 2) (R.length + rc.length + 2 + rb.length + 1) rb ++ [jmp 14 R.length] := by simp
        rw [e1, ptc_ap (fun j hj => by rw [hlA]; exact b5 j hj), hlA, ← e2] at g4
        exact g4
theorem SX_1 {f : Nat} (ht : txt t n) (hd : 12 ≤ d) (hfm : fm = 2 ∨ fm = 3 ∨ fm = 4) (i0 : SX1 e d κ Q t n NL own fm 0 f) : SX1 e d κ Q t n NL own fm 1 (f + 1) := by
  intro p o L ck R D K σ res hp h125 h hb hR hN hL hD0 hDo hDb hK hKp hf hQ
  have h125 := h125 (by omega)
  have hn := ht.1
  have hRp := hb.2.2
  have hpn := hb.2.1
  have ho := hb.1
  have hp0 := hp
  unfold pst at hp
  rw [if_neg (by omega)] at hp
  have T : ∀ (k : Nat) (y : Int32), ((33 ≤ k ∧ k < 127) ∨ (256 ≤ k ∧ k < 259) ∨ (300 ≤ k ∧ k < 317) ∨ k ≤ 3) → y = Int32.ofNat (kR k) → (σ.1 498 4 = y ↔ tkk t n p = k) := fun k y hk hy => RM_T ht h k hk hy
  -- what a simple statement comes to
  have smp : ∀ (X' : Xs) (σ' : my_S), bX n 1 X' → RM t n L X' σ' → rX o R res X' → eqp eF σ σ' → (∀ r L' c b q, res = .inr (r, L', c, b, q) → L' = L ∧ c = ck ∧ b = []) → ys_233_111 e d (Int32.ofNat (fm + 10)) κ σ' Q := fun X' σ' b1 g1 hrX f1 hs => by
    rcases res with q | ⟨r, L', c, b, q⟩
    · obtain ⟨N, rfl⟩ := hrX
      exact hf q N σ' rfl g1 (bX_w b1 (by omega)) (eqp_mo f1 (fun _ _ => eF_s))
    · obtain ⟨rfl, rfl, rfl⟩ := hs _ _ _ _ _ rfl
      have hX : X' = .inr (q, o, R ++ r) := hrX
      rw [hX] at g1
      exact hQ r L' c [] q σ' rfl g1 (by simpa using RD_e hR f1) (eqp_mo f1 (fun _ _ => eF_s))
  have bad : res = .inl p → ∀ Q' : my_O → my_K → my_S → Prop, (∀ κ' σ', ys_233_111 e d (Int32.ofNat (fm + 10)) κ' σ' Q → Q' (.inl none) κ' σ') → my_M e (d - 1) 225 [.inr (.inr (some 498)), .inl (σ.1 498 5)] κ σ (my_k0 (fun κ2 σ3 => Q' (.inl none) κ2 σ3) (fun y4 κ5 σ6 => Q' (.inr y4) κ5 σ6)) := fun hres Q' hQ' => by
    obtain ⟨W, hE⟩ := h
    rw [RE_pl hE]
    obtain ⟨d', hd'⟩ := dS 1 (show 1 ≤ d - 1 by omega)
    rw [hd']
    refine RE_bad (q := p) (N := R.length) hE (Nat.le_refl _) (fun σ2 g2 _ _ f2 => ?_)
    rw [my_k0_v]
    exact hQ' κ σ2 (hf p R.length σ2 hres g2 (bX_w (bX_f (N := 0) ht (by omega) hpn (by omega)) (by omega)) (eqp_mo f2 (fun _ _ => eF_s)))
  by_cases h308 : tkk t n p = 308
  · rw [if_neg (by omega), if_neg (by omega), if_pos h308] at hp
    exact SX_if ht hd i0 h308 hp h hb hR hN hL hD0 hDo hDb hK hKp hf hQ
  by_cases h310 : tkk t n p = 310
  · rw [if_neg (by omega), if_neg (by omega), if_neg (by omega), if_pos h310] at hp
    exact SX_wh ht hd i0 h310 hp h hb hR hN hL hD0 hDo hDb hK hKp hf hQ
  refine lp_st (by omega) h hR hD0 (by omega) (fun Q' hQ' => ?_)
  unfold ys_241_0
  rw [if_neg (fun hh => h125 ((T 125 125 (by omega) rfl).mp hh))]
  refine my_if (fun h307 => ?_) (fun h307 => ?_)
  · have h307 := (T 307 17 (by omega) rfl).mp h307
    rw [if_neg (by omega), if_pos h307] at hp
    refine r_let ht (by omega) h307 hp hb h hL hN hR (fun q N σ1 hres g1 b1 f1 => hQ' κ σ1 (hf q N σ1 hres g1 (bX_w b1 (by omega)) f1)) (fun r L' c b q σ1 hres hb0 hck g1 hR1 f1 => hQ' κ σ1 (hQ r L' c b q σ1 hres g1 ?_ f1))
    rw [hb0, hck]
    simpa using hR1
  rw [T 307 17 (by omega) rfl] at h307
  refine my_if (fun h2 => ?_) (fun h2 => ?_)
  · have h2 := (T 2 2 (by omega) rfl).mp h2
    rw [if_pos h2] at hp
    unfold ys_241_257
    refine r_252 ht (by omega) h2 hp hb h (fun X' σ1 b1 g1 hrX f1 => ?_)
    rw [my_k0_v]
    exact hQ' κ σ1 (smp X' σ1 b1 g1 hrX f1 (fun r L' c b q hh => by rw [hh] at hp; exact pnam_k hp))
  rw [T 2 2 (by omega) rfl] at h2
  rw [if_neg h2, if_neg h307, if_neg h308, if_neg h310] at hp
  rw [if_neg (fun hh => h308 ((T 308 18 (by omega) rfl).mp hh)), if_neg (fun hh => h310 ((T 310 20 (by omega) rfl).mp hh))]
  have T311 := T 311 21 (by omega) rfl
  have T312 := T 312 22 (by omega) rfl
  have lv : (tkk t n p = 311 ∨ tkk t n p = 312) → ∀ y : Int32, y = (if tkk t n p = 311 then 1 else 0) → ys_241_160 e (d - 1) y κ σ Q' := fun hlv y hy => by
    rw [if_pos hlv] at hp
    unfold ys_241_160 ys_241_257
    refine r_255 ht (by omega) hlv hy hp hb h (by omega) hDb (by omega) hR (fun X' σ1 b1 g1 hrX hRD f1 => ?_)
    rw [my_k0_v]
    refine hQ' κ σ1 ?_
    rcases res with q | ⟨r, L', c, b, q⟩
    · obtain ⟨N, rfl⟩ := hrX
      exact hf q N σ1 rfl g1 (bX_w b1 (by omega)) f1
    · have hX : X' = .inr (q, o, R ++ r) := hrX
      rw [hX] at g1
      have hRD := hRD _ _ _ _ _ rfl
      have hk : L' = L ∧ c = ck := by
        unfold plv at hp
        cases hl : (lwB D).map (fun x => x.2) with
        | none => rw [hl] at hp; cases hp
        | some l =>
          rw [hl] at hp
          rcases tT_r hp with ⟨_, g2⟩ | ⟨_, g2⟩
          · cases g2; exact ⟨rfl, rfl⟩
          · cases g2
      obtain ⟨rfl, rfl⟩ := hk
      exact hQ r L' c b q σ1 rfl g1 hRD f1
  refine my_if (fun h6 => ?_) (fun h6 => ?_)
  · unfold ys_241_145
    rw [if_pos h6]
    exact lv (Or.inl (T311.mp h6)) 1 (by rw [if_pos (T311.mp h6)])
  refine my_if (fun h7 => ?_) (fun h7 => ?_)
  · unfold ys_241_145
    rw [if_neg h6]
    exact lv (Or.inr (T312.mp h7)) 0 (by rw [if_neg (by have := T312.mp h7; omega)])
  rw [T311] at h6
  rw [T312] at h7
  rw [if_neg (by omega)] at hp
  have T313 := T 313 23 (by omega) rfl
  have T314 := T 314 24 (by omega) rfl
  have f14 : Int32.ofNat (fm + 10) = 14 ↔ fm = 4 := by
    rw [show (14 : Int32) = Int32.ofNat 14 from rfl, oN_e (by omega) (by omega)]
    omega
  have els : tkk t n p ≠ 314 → res = .inl p → ys_241_189 e (d - 1) κ σ Q' := fun h9 hres => by
    unfold ys_241_189 ys_241_257
    rw [if_neg (fun hh => h9 (T314.mp hh))]
    exact bad hres Q' hQ'
  refine my_if (fun h8 => ?_) (fun h8 => ?_)
  · have h8 := T313.mp h8
    rw [if_pos h8] at hp
    refine my_if (fun h4 => ?_) (fun h4 => ?_)
    · have h4 := f14.mp h4
      unfold pret at hp
      rw [if_pos h4] at hp
      cases hp
      exact els (by omega) rfl
    · unfold ys_241_257
      refine r_257 ht (by omega) h8 (by rw [f14] at h4; omega) hp hb h (fun X' σ1 b1 g1 hrX f1 => ?_)
      rw [my_k0_v]
      exact hQ' κ σ1 (smp X' σ1 b1 g1 hrX f1 (fun r L' c b q hh => by rw [hh] at hp; exact pret_k hp))
  rw [T313] at h8
  rw [if_neg h8] at hp
  by_cases h9 : tkk t n p = 314
  · rw [if_pos h9] at hp
    unfold ys_241_189 ys_241_257
    rw [if_pos (T314.mpr h9)]
    have b1 := bX_nx ht hb
    change bX n 0 (.inr (nx t n p, o, R)) at b1
    refine M_nx ht (by omega) h (fun σ1 g1 f1 => ?_)
    rw [my_k0_v]
    change RM t n L (.inr (nx t n p, o, R)) σ1 at g1
    have b2 := bX_ex (L := L) ht b1
    refine M_ex ht (by omega) b1 (by omega) g1 (fun σ2 g2 f2 => ?_)
    rw [my_k0_v]
    have b3 := bX_tk (k := 59) ht (by omega) b2
    refine M_tk (k := 59) ht (by omega) b2 (by omega) (by omega) rfl g2 (fun σ3 g3 f3 => ?_)
    rw [my_k0_v]
    have b4 := bX_em (x := (208, 1, [], 0)) b3
    refine M_em (x := (208, 1, [], 0)) ht (by omega) b3 (by omega) rfl (Or.inr (Or.inr rfl)) rfl rfl g3 (fun σ4 v4 g4 f4 _ => ?_)
    rw [my_kI_v]
    have fr4 := eqp_tr (eqp_tr (eqp_tr f1 f2) f3) f4
    have hR4 := RD_e hR fr4
    rw [hR4.2.2]
    have b5 := bX_em (x := (17, Int32.ofNat ck, [], 0)) b4
    refine M_em (x := (17, Int32.ofNat ck, [], 0)) ht (by omega) b4 (by omega) rfl (Or.inr (Or.inr rfl)) rfl rfl g4 (fun σ5 v5 g5 f5 _ => ?_)
    rw [my_kI_v]
    have fr5 := eqp_tr fr4 f5
    have hR5 := RD_e hR fr5
    rw [hR5.2.2, oN_s]
    have he : eqp (fun c k => c = 498 ∧ k = 30) σ5 (my_uI σ5 498 30 (Int32.ofNat (ck + 1))) := eqp_I eqp_rf ⟨rfl, rfl⟩
    have g6 := RM_o g5 he (fun c k hh => by omega)
    have hR6 : RD D K (ck + 1) (my_uI σ5 498 30 (Int32.ofNat (ck + 1))) := by
      obtain ⟨⟨a1, a2⟩, ⟨a3, a4⟩, a5⟩ := hR5
      exact ⟨⟨(eqp_g he (by omega)).trans a1, bks_o he a2 (fun c k hh _ => by omega)⟩, ⟨(eqp_g he (by omega)).trans a3, fun i x hx => ⟨(eqp_g he (by omega)).trans (a4 i x hx).1, (eqp_g he (by omega)).trans (a4 i x hx).2⟩⟩, by rw [my_uI_1, if_pos ⟨rfl, rfl⟩]⟩
    have fs : eqp sF σ (my_uI σ5 498 30 (Int32.ofNat (ck + 1))) := eqp_tr (eqp_mo fr5 (fun _ _ => eF_s)) (eqp_mo he (fun c k hh => by unfold sF; omega))
    generalize my_uI σ5 498 30 (Int32.ofNat (ck + 1)) = σ6 at g6 hR6 fs ⊢
    refine hQ' κ σ6 ?_
    rw [xex_tk (by decide)] at g6 b5
    unfold pchk eT at hp
    unfold xdu at g6 b5
    cases hx : pX t n L (nx t n p) o with
    | none => rw [hx] at hp; cases hp
    | some r1 =>
      rw [hx] at hp g6 b5
      rcases r1 with q | ⟨r, c, q⟩
      · cases hp
        exact hf q _ σ6 rfl g6 (bX_w b5 (by omega)) fs
      · dsimp only at hp g6 b5
        by_cases hq : tkk t n q = 59
        · rw [if_pos hq] at hp g6
          cases hp
          refine hQ _ _ _ _ _ σ6 rfl ?_ (by simpa using hR6) fs
          have e1 : R ++ (r ++ [((208, 1, [], 0) : Rw), (17, Int32.ofNat ck, [], 0)]) = R ++ r ++ [((208, 1, [], 0) : Rw)] ++ [(17, Int32.ofNat ck, [], 0)] := by simp
          rw [e1]
          exact g6
        · rw [if_neg hq] at hp g6 b5
          cases hp
          exact hf q _ σ6 rfl g6 (bX_w b5 (by omega)) fs
  · rw [if_neg h9] at hp
    cases hp
    exact els h9 rfl
/-- all of them -/
theorem SX (ht : txt t n) (hd : 12 ≤ d) (hfm : fm = 2 ∨ fm = 3 ∨ fm = 4) : ∀ f, SX1 e d κ Q t n NL own fm 1 f ∧ SX1 e d κ Q t n NL own fm 0 f := by
  intro f
  induction f with
  | zero => exact ⟨fun p o L ck R D K σ res h => by simp [pst] at h, fun p o L ck R D K σ res h => by simp [pst] at h⟩
  | succ f ih => exact ⟨SX_1 ht hd hfm ih.2, SX_0 ht ih.1 ih.2⟩
end MS1
