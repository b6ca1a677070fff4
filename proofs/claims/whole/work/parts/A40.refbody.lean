
/-! ===== the reference reads items: bodies, items ===== -/
/-- what reading an item takes -/
def bdF (k0 c k : Nat) : Prop := sF c k ∨ (c = 498 ∧ k = 31) ∨ ((c = 503 ∨ c = 507 ∨ c = 509 ∨ c = 510 ∨ c = 511) ∧ k = k0) ∨ (c = 508 ∧ 4 * k0 ≤ k)
theorem bdF_s {k0 c k : Nat} (h : sF c k) : bdF k0 c k := Or.inl h
theorem bdF_e {k0 c k : Nat} (h : eF c k) : bdF k0 c k := Or.inl (Or.inl h)
theorem bdF_h {k0 c k : Nat} (h : hpF k0 c k) : bdF k0 c k := by unfold hpF eF at h; unfold bdF sF eF; omega
theorem bdF_w {k0 c : Nat} {σ σ1 : my_S} {x : Int32} (h : c = 503 ∨ c = 507 ∨ c = 509 ∨ c = 510 ∨ c = 511) (f : eqp (bdF k0) σ σ1) : eqp (bdF k0) σ (my_uI σ1 c k0 x) := eqp_I f (Or.inr (Or.inr (Or.inl ⟨h, rfl⟩)))
/-- .. and its end alone -/
def tlF (k0 c k : Nat) : Prop := eF c k ∨ ((c = 510 ∨ c = 511) ∧ k = k0)
section MIK
variable {e : my_E} {d : Nat} {κ : my_K} {σ : my_S} {Q : my_O → my_K → my_S → Prop} {t : Nat → Int32} {n k0 : Nat} {R : List Rw}
/-- the end of a body, where there was a fault -/
theorem r_233f {q N fm : Nat} (ht : txt t n) (hd : 1 ≤ d) (hfm : fm = 2 ∨ fm = 3 ∨ fm = 4) (hk : k0 ≤ 42) (hb : bX n 5 (.inl (q, N))) (h : RF t n q N σ) (h11 : σ.1 498 11 = Int32.ofNat k0) (hQ : ∀ N' σ', RF t n q N' σ' → eqp (bdF k0) σ σ' → Q (.inl none) κ σ') : ys_233_133 e d (Int32.ofNat (fm + 10)) κ σ Q := by
  have bd := bd48 hk
  have e198 : ∀ N' σ1, RF t n q N' σ1 → eqp (bdF k0) σ σ1 → ys_233_198 e d κ σ1 Q := fun N' σ1 g f => by
    unfold ys_233_198
    rw [(eqp_g f (by unfold bdF sF eF; omega)).trans h11, oN_n (by omega)]
    refine ⟨bd, bd, hQ N' _ ?_ (bdF_w (by omega) (bdF_w (by omega) f))⟩
    exact RK_w (X := .inl (q, N')) (by omega) (RK_w (X := .inl (q, N')) (by omega) g)
  have b2 := hb.2
  have e191 : ∀ v, ys_233_191 e d v κ σ Q := fun v => by
    unfold ys_233_191
    obtain ⟨d, rfl⟩ := dS 1 hd
    refine RF_emit h (by omega) (fun σ1 m g1 f1 _ => ?_)
    rw [my_kI_v]
    exact e198 _ σ1 g1 (eqp_mo f1 (fun _ _ => bdF_e))
  have e157 : ∀ v, ys_233_157 e d v κ σ Q := fun v => by
    unfold ys_233_157
    obtain ⟨d, rfl⟩ := dS 1 hd
    refine RF_emit h (by omega) (fun σ1 m g1 f1 _ => ?_)
    rw [my_kI_v]
    refine RF_emit g1 (by omega) (fun σ2 m2 g2 f2 _ => ?_)
    rw [my_kI_v]
    exact e198 _ σ2 g2 (eqp_mo (eqp_tr f1 f2) (fun _ _ => bdF_e))
  unfold ys_233_133
  rw [h11]
  exact my_if (fun _ => ⟨bd, my_if (fun _ => e157 _) (fun _ => e157 _)⟩) (fun _ => my_if (fun _ => e191 _) (fun _ => e191 _))
/-- the end of a body -/
theorem r_233g {q fm : Nat} {ty : Int32} {L : List (List Nat)} (ht : txt t n) (hd : 1 ≤ d) (hfm : fm = 2 ∨ fm = 3 ∨ fm = 4) (hk : k0 ≤ 42) (hb : bX n 0 (.inr (q, 0, R))) (h : RM t n L (.inr (q, 0, R)) σ) (h11 : σ.1 498 11 = Int32.ofNat k0) (h3 : σ.1 503 k0 = ty) (hQ : ∀ σ', RG t n (R ++ ptl fm ty) q 0 σ' → σ'.1 510 k0 = Int32.ofNat (R.length + (ptl fm ty).length) → σ'.1 511 k0 = Int32.ofNat L.length → eqp (tlF k0) σ σ' → Q (.inl none) κ σ') : ys_233_133 e d (Int32.ofNat (fm + 10)) κ σ Q := by
  have bd := bd48 hk
  have hl : rlc L σ := by obtain ⟨W, h⟩ := h; exact h.2.2.2.2.2
  have e198 : ∀ (r : List Rw) σ1, r = ptl fm ty → RM t n L (.inr (q, 0, R ++ r)) σ1 → eqp eF σ σ1 → ys_233_198 e d κ σ1 Q := fun r σ1 hr g f => by
    unfold ys_233_198
    have g' := RM_K g
    change RG t n (R ++ r) q 0 σ1 at g'
    rw [(eqp_g f (by unfold eF; omega)).trans h11, oN_n (by omega)]
    refine ⟨bd, bd, hQ _ ?_ ?_ ?_ (eqp_I (eqp_I (eqp_mo f (fun _ _ => Or.inl)) (Or.inr ⟨Or.inl rfl, rfl⟩)) (Or.inr ⟨Or.inr rfl, rfl⟩))⟩
    · rw [← hr]
      exact RK_w (X := .inr (q, 0, R ++ r)) (by omega) (RK_w (X := .inr (q, 0, R ++ r)) (by omega) g')
    · rw [uI_o (by omega), uI_s, g'.2.2.2.1, hr]; simp
    · rw [uI_s]
      exact (eqp_g f (by unfold eF; omega)).trans hl.1
  have nm0 : (0 : Int64) = nmR [] := nmR_nil.symm
  have e191 : ∀ op : Nat, ∀ v : Int32, v = Int32.ofNat op → [((op, 0, [], 0) : Rw)] = ptl fm ty → ys_233_191 e d v κ σ Q := fun op v hv hp => by
    unfold ys_233_191
    refine M_em (x := (op, 0, [], 0)) ht hd hb (by omega) hv (Or.inr (Or.inr rfl)) nm0 rfl h (fun σ1 _ g1 f1 _ => ?_)
    rw [my_kI_v]
    exact e198 _ σ1 hp g1 f1
  have e157 : ∀ op : Nat, ∀ v : Int32, v = Int32.ofNat op → [((op, 0, [], 0) : Rw), (11, 0, [], 0)] = ptl fm ty → ys_233_157 e d v κ σ Q := fun op v hv hp => by
    unfold ys_233_157
    refine M_em (x := (op, 0, [], 0)) ht hd hb (by omega) hv (Or.inr (Or.inr rfl)) nm0 rfl h (fun σ1 _ g1 f1 _ => ?_)
    rw [my_kI_v]
    refine M_em (x := (11, 0, [], 0)) ht hd (bX_em hb) (by omega) rfl (Or.inr (Or.inr rfl)) nm0 rfl g1 (fun σ2 _ g2 f2 _ => ?_)
    rw [my_kI_v]
    refine e198 [(op, 0, [], 0), (11, 0, [], 0)] σ2 hp ?_ (eqp_tr f1 f2)
    have := g2
    unfold xem at this
    simp only [List.append_assoc, List.singleton_append] at this
    exact this
  unfold ys_233_133
  rw [h11, oN_n (by omega)]
  rcases hfm with rfl | rfl | rfl
  · rw [if_pos (by decide)]
    refine ⟨bd, ?_⟩
    rw [h3]
    refine my_if (fun h0 => e157 1 1 rfl ?_) (fun h0 => e157 3 3 rfl ?_)
    · unfold ptl; rw [if_pos rfl, if_pos h0]
    · unfold ptl; rw [if_pos rfl, if_neg h0]
  · rw [if_neg (by decide), if_pos (by decide)]
    exact e191 12 12 rfl (by unfold ptl; rw [if_neg (by decide), if_pos rfl])
  · rw [if_neg (by decide), if_neg (by decide)]
    exact e191 13 13 rfl (by unfold ptl; rw [if_neg (by decide), if_neg (by decide)])
/-- from the block on, where there was a fault -/
theorem r_233h {q N fm : Nat} (ht : txt t n) (hd : 12 ≤ d) (hfm : fm = 2 ∨ fm = 3 ∨ fm = 4) (hk : k0 ≤ 42) (hb : bX n 0 (.inl (q, N))) (h : RF t n q N σ) (h11 : σ.1 498 11 = Int32.ofNat k0) (hRD : σ.1 498 30 = 0 ∧ σ.1 498 43 = 0) (hQ : ∀ N' σ', RF t n q N' σ' → eqp (bdF k0) σ σ' → Q (.inl none) κ σ') : ys_233_73 e d (Int32.ofNat (fm + 10)) κ σ Q := by
  have bd := bd48 hk
  unfold ys_233_73
  rw [h11, oN_n (by omega)]
  refine ⟨bd, bd, ?_⟩
  have he : eqp (fun c k => (c = 507 ∧ k = k0) ∨ (c = 509 ∧ k = k0) ∨ (c = 498 ∧ k = 40)) σ (my_uI (my_uI (my_uI σ 507 k0 (σ.1 498 29)) 509 k0 (σ.1 498 23)) 498 40 0) := eqp_I (eqp_I (eqp_I eqp_rf (by omega)) (by omega)) (by omega)
  have fe : eqp (bdF k0) σ (my_uI (my_uI (my_uI σ 507 k0 (σ.1 498 29)) 509 k0 (σ.1 498 23)) 498 40 0) := eqp_mo he (fun c k hh => by unfold bdF sF eF; omega)
  have g1 : RF t n q N (my_uI (my_uI (my_uI σ 507 k0 (σ.1 498 29)) 509 k0 (σ.1 498 23)) 498 40 0) := RF_o h he (fun c k hh => by omega)
  have hR : RD [] [] 0 (my_uI (my_uI (my_uI σ 507 k0 (σ.1 498 29)) 509 k0 (σ.1 498 23)) 498 40 0) := ⟨⟨uI_s, trivial⟩, ⟨(eqp_g he (by omega)).trans hRD.2, fun j x hj => by simp at hj⟩, (eqp_g he (by omega)).trans hRD.1⟩
  generalize my_uI (my_uI (my_uI σ 507 k0 (σ.1 498 29)) 509 k0 (σ.1 498 23)) 498 40 0 = σ1 at fe g1 hR ⊢
  refine r_240 (L := []) (X := .inl (q, N)) (N := 0) (kd := 0) (j := 0) (l := 0) (D := []) (K := []) (ck := 0) ht (by omega) hb (by omega) rfl (fun _ _ _ hh => by cases hh) rfl (by simp) hR g1 (fun σ2 g2 _ f2 => ?_)
  rw [my_k0_v]
  have hq := hb.1
  have f2b : eqp (bdF k0) σ σ2 := eqp_tr fe (eqp_mo f2 (fun _ _ => bdF_s))
  refine ys_233_111_ok ?_
  unfold ys_233_111
  change RF t n q N σ2 at g2
  rw [if_neg (RF_lt g2 (by omega))]
  exact r_233f ht (by omega) hfm hk (bX_w hb (by omega)) g2 ((eqp_g f2b (by unfold bdF sF eF; omega)).trans h11) (fun N' σ' g f => hQ N' σ' g (eqp_tr f2b f))
/-- from the block on -/
theorem r_233i {p fm : Nat} {nm : List Nat} {ty : Int32} {L : List (List Nat)} {T : List Int32} {NL : List (List Nat)} {own : List Nat} (ht : txt t n) (hd : 12 ≤ d) (hfm : fm = 2 ∨ fm = 3 ∨ fm = 4) (hk : k0 ≤ 42) (hb : bX n 0 (.inr (p, 0, R))) (h : RM t n L (.inr (p, 0, R)) σ) (h11 : σ.1 498 11 = Int32.ofNat k0) (hRD : σ.1 498 30 = 0 ∧ σ.1 498 43 = 0) (h3 : σ.1 503 k0 = ty) (hN : RN NL own σ) (hL : L.length ≤ 10)
    (hf : ∀ q N' σ', pb2 t n nm (NL ++ [own]) fm R.length L T ty p = .inl q → q ≤ 1500 → RF t n q N' σ' → eqp (bdF k0) σ σ' → Q (.inl none) κ σ')
    (hQ : ∀ a q σ', pb2 t n nm (NL ++ [own]) fm R.length L T ty p = .inr (a, q) → RG t n (R ++ riR a) q 0 σ' → σ'.1 503 k0 = ty → σ'.1 507 k0 = Int32.ofNat L.length → σ'.1 509 k0 = Int32.ofNat R.length → σ'.1 510 k0 = Int32.ofNat (R.length + (riR a).length) → σ'.1 511 k0 = Int32.ofNat (riL a).length → eqp (bdF k0) σ σ' → σ'.1 508 = σ.1 508 → Q (.inl none) κ σ') : ys_233_73 e d (Int32.ofNat (fm + 10)) κ σ Q := by
  have bd := bd48 hk
  have hn := ht.1
  have hp := hb.2.1
  have hb3 := hb.2.2
  have hl : rlc L σ := by obtain ⟨W, h⟩ := h; exact h.2.2.2.2.2
  have hrw : σ.1 498 23 = Int32.ofNat R.length := (RM_K h).2.2.2.1
  unfold ys_233_73
  rw [h11, oN_n (by omega), hl.1, hrw]
  refine ⟨bd, bd, ?_⟩
  have he : eqp (fun c k => (c = 507 ∧ k = k0) ∨ (c = 509 ∧ k = k0) ∨ (c = 498 ∧ k = 40)) σ (my_uI (my_uI (my_uI σ 507 k0 (Int32.ofNat L.length)) 509 k0 (Int32.ofNat R.length)) 498 40 0) := eqp_I (eqp_I (eqp_I eqp_rf (by omega)) (by omega)) (by omega)
  have fe : eqp (bdF k0) σ (my_uI (my_uI (my_uI σ 507 k0 (Int32.ofNat L.length)) 509 k0 (Int32.ofNat R.length)) 498 40 0) := eqp_mo he (fun c k hh => by unfold bdF sF eF; omega)
  have g1 : RM t n L (.inr (p, 0, R)) (my_uI (my_uI (my_uI σ 507 k0 (Int32.ofNat L.length)) 509 k0 (Int32.ofNat R.length)) 498 40 0) := RK_M (RK_o (RM_K h) he (fun c k hh => by omega)) (fun _ _ _ _ => rlc_o hl he (fun c k hh => by omega))
  have hR : RD [] [] 0 (my_uI (my_uI (my_uI σ 507 k0 (Int32.ofNat L.length)) 509 k0 (Int32.ofNat R.length)) 498 40 0) := ⟨⟨uI_s, trivial⟩, ⟨(eqp_g he (by omega)).trans hRD.2, fun j x hj => by simp at hj⟩, (eqp_g he (by omega)).trans hRD.1⟩
  have v7 : (my_uI (my_uI (my_uI σ 507 k0 (Int32.ofNat L.length)) 509 k0 (Int32.ofNat R.length)) 498 40 0).1 507 k0 = Int32.ofNat L.length := by rw [uI_o (by omega), uI_o (by omega), uI_s]
  have v9 : (my_uI (my_uI (my_uI σ 507 k0 (Int32.ofNat L.length)) 509 k0 (Int32.ofNat R.length)) 498 40 0).1 509 k0 = Int32.ofNat R.length := by rw [uI_o (by omega), uI_s]
  have v3 : (my_uI (my_uI (my_uI σ 507 k0 (Int32.ofNat L.length)) 509 k0 (Int32.ofNat R.length)) 498 40 0).1 503 k0 = ty := (eqp_g he (by omega)).trans h3
  have v8 : (my_uI (my_uI (my_uI σ 507 k0 (Int32.ofNat L.length)) 509 k0 (Int32.ofNat R.length)) 498 40 0).1 508 = σ.1 508 := by funext j; exact eqp_g he (by omega)
  have hN1 : RN NL own (my_uI (my_uI (my_uI σ 507 k0 (Int32.ofNat L.length)) 509 k0 (Int32.ofNat R.length)) 498 40 0) := ⟨rnm_o hN.1 he (fun c k hh => by omega), hN.2.1, ((he 498 31 (by omega)).2.1).trans hN.2.2⟩
  generalize my_uI (my_uI (my_uI σ 507 k0 (Int32.ofNat L.length)) 509 k0 (Int32.ofNat R.length)) 498 40 0 = σ1 at fe g1 hR v7 v9 v3 v8 hN1 ⊢
  refine r_240 (X := .inr (p, 0, R)) (N := 0) (kd := 0) (j := 0) (l := 0) (D := []) (K := []) (ck := 0) ht (by omega) hb (by omega) rfl (fun _ _ _ _ => rfl) rfl (by simp) hR g1 (fun σ2 g2 r2 f2 => ?_)
  rw [my_k0_v]
  have b2 := bX_op (k := 123) ht (show 0 ≤ 1000 by omega) hb
  have f2b : eqp (bdF k0) σ σ2 := eqp_tr fe (eqp_mo f2 (fun _ _ => bdF_s))
  refine ys_233_111_ok ?_
  -- a fault, at the loop
  have flt : ∀ (q N : Nat) σ', pb2 t n nm (NL ++ [own]) fm R.length L T ty p = .inl q → RF t n q N σ' → bX n 5 (.inl (q, N)) → eqp (bdF k0) σ σ' → ys_233_111 e d (Int32.ofNat (fm + 10)) κ σ' Q := fun q N σ' hpb g hb' f => by
    unfold ys_233_111
    have hq := hb'.1
    rw [if_neg (RF_lt g (by omega))]
    exact r_233f ht (by omega) hfm hk hb' g ((eqp_g f (by unfold bdF sF eF; omega)).trans h11) (fun N' σ'' g' f' => hf q N' σ'' hpb hq g' (eqp_tr f f'))
  unfold xop at g2 b2 r2
  simp only [] at g2 b2 r2
  unfold pb2 pblk at hf hQ flt
  by_cases c1 : tkk t n p = 123 ∧ 0 < 12
  · rw [if_pos c1] at g2 b2 r2 hf hQ flt
    have r2 := r2 _ _ _ rfl
    have bp := nx_b (p := p) ht (by omega)
    have hne := pS_n (fm := fm) (Nf := NL ++ [own]) (o := 0 + 1) (i := R.length) (ck := 0) (lp := none) (L := L) ht (p := nx t n p) bp.2.2 hL
    cases hx : pS t n fm (NL ++ [own]) 0 (nx t n p) (0 + 1) R.length L 0 none with
    | none => exact absurd hx hne
    | some res =>
      rw [hx] at hf hQ flt
      have hB := pst_B ht _ _ _ _ _ _ _ _ _ bp.2.2 hL hx
      have hbk := fun r L' c b q (hr : res = .inr (r, L', c, b, q)) => pst_bk (t := t) (n := n) _ _ _ _ _ _ _ _ _ _ _ _ _ (hr ▸ hx)
      have hx' : pst t n fm (NL ++ [own]) 3002 0 (nx t n p) (0 + 1) R.length L 0 ((lwB [(0, 0, 0)]).map (fun x => x.2)) = some res := hx
      refine (SX (e := e) (d := d) (κ := κ) (Q := Q) (t := t) (n := n) (NL := NL) (own := own) (fm := fm) ht hd hfm 3002).2 (nx t n p) (0 + 1) L 0 R [(0, 0, 0)] [] σ2 res hx' (fun hh => absurd rfl hh) g2 b2 r2 (RN_s hN1 f2) hL (by simp) (by simp) (by simp) (by simp) (by simp) (fun q N σ3 hr g3 b3 f3 => ?_) (fun r L' c b q σ3 hr g3 r3 f3 => ?_)
      · subst hr
        exact flt q N σ3 rfl g3 b3 (eqp_tr f2b (eqp_mo f3 (fun _ _ => bdF_s)))
      · subst hr
        have hh := hB.2 r L' c b q rfl
        have h125 : tkk t n q = 125 := hh.2.2.2.2.2.2.2.1 rfl
        have hb0 : b = [] := by
          cases b with
          | nil => rfl
          | cons j b =>
            obtain ⟨_, l, hl', _⟩ := hbk r L' c (j :: b) q rfl j (List.mem_cons_self ..)
            cases hl'
        subst hb0
        have bq := nx_b (p := q) ht (by omega)
        have b3 : bX n 0 (.inr (q, 0 + 1, R ++ r)) := ⟨by omega, by omega, by rw [List.length_append]; have := hh.2.2.2.1; omega⟩
        have f3b : eqp (bdF k0) σ σ3 := eqp_tr f2b (eqp_mo f3 (fun _ _ => bdF_s))
        refine lp_e (o := 0) (x := (0, 0, [], 0)) (kd := 0) (j := 0) (l := 0) (D := []) (K0 := []) (b := []) ht (by omega) h125 b3 g3 r3 (by simp) (by omega) (fun h0 => by omega) (fun _ => rfl) (by simp) (fun h0 => by omega) (fun h0 => by omega) (fun _ σ4 g4 r4 f4 => ?_) (fun h0 => by omega) (fun h0 => by omega) (fun h0 => by omega)
        have f4b : eqp (bdF k0) σ σ4 := eqp_tr f3b (eqp_mo f4 (fun _ _ => bdF_s))
        have fs : eqp sF σ1 σ4 := eqp_tr (eqp_tr f2 f3) f4
        unfold ys_233_111
        rw [if_pos (RM_R g4), r4.1.1, if_neg (by decide)]
        have b4 : bX n 0 (.inr (nx t n q, 0, R ++ r)) := ⟨by omega, by omega, by rw [List.length_append]; have := hh.2.2.2.1; omega⟩
        have e11 : σ4.1 498 11 = Int32.ofNat k0 := (eqp_g f4b (by unfold bdF sF eF; omega)).trans h11
        have e3 : σ4.1 503 k0 = ty := (eqp_g fs (by unfold sF eF; omega)).trans v3
        refine r_233g (ty := ty) ht (by omega) hfm hk b4 g4 e11 e3 (fun σ5 g5 w10 w11 f5 => ?_)
        have fx : eqp (fun c k => sF c k ∨ ((c = 510 ∨ c = 511) ∧ k = k0)) σ1 σ5 := eqp_tr (eqp_mo fs (fun _ _ => Or.inl)) (eqp_mo f5 (fun c k hh => by unfold tlF eF at hh; unfold sF eF; omega))
        refine hQ _ _ σ5 rfl ?_ ((eqp_g fx (by unfold sF eF; omega)).trans v3) ((eqp_g fx (by unfold sF eF; omega)).trans v7) ((eqp_g fx (by unfold sF eF; omega)).trans v9) ?_ w11 (eqp_tr f4b (eqp_mo f5 (fun c k hh => by unfold tlF eF at hh; unfold bdF sF eF; omega))) ?_
        · show RG t n (R ++ (r ++ ptl fm ty)) (nx t n q) 0 σ5
          rw [← List.append_assoc]
          exact g5
        · show σ5.1 510 k0 = Int32.ofNat (R.length + (r ++ ptl fm ty).length)
          rw [w10, List.length_append, List.length_append, Nat.add_assoc]
        · rw [← v8]
          funext j
          exact eqp_g fx (by unfold sF eF; omega)
  · rw [if_neg c1] at g2 b2 r2 hf hQ flt
    exact flt p R.length σ2 rfl g2 (bX_w b2 (by omega)) f2b
theorem pb2_T {nm : List Nat} {Nf L : List (List Nat)} {T : List Int32} {ty : Int32} {fm i p : Nat} {a : Ri} {q : Nat} (h : pb2 t n nm Nf fm i L T ty p = .inr (a, q)) : riT a = ty ∧ riQ a = T := by
  unfold pb2 pb3 at h
  split at h
  · cases h
  · cases h
  · cases h; exact ⟨rfl, rfl⟩
/-- what is told of a body in the end -/
def bds (k0 i : Nat) (a : Ri) (σ : my_S) : Prop := σ.1 503 k0 = riT a ∧ σ.1 507 k0 = Int32.ofNat (riQ a).length ∧ ptm k0 (riQ a) σ ∧ σ.1 509 k0 = Int32.ofNat i ∧ σ.1 510 k0 = Int32.ofNat (i + (riR a).length) ∧ σ.1 511 k0 = Int32.ofNat (riL a).length
/-- from behind the parameters on -/
theorem r_233j {p fm : Nat} {nm : List Nat} {L : List (List Nat)} {T : List Int32} {NL : List (List Nat)} {own : List Nat} (ht : txt t n) (hd : 12 ≤ d) (hfm : fm = 2 ∨ fm = 3 ∨ fm = 4) (hk : k0 ≤ 42) (hb : bX n 0 (.inr (p, 0, R))) (h : RM t n L (.inr (p, 0, R)) σ) (h11 : σ.1 498 11 = Int32.ofNat k0) (hRD : σ.1 498 30 = 0 ∧ σ.1 498 43 = 0) (h3 : σ.1 503 k0 = 2) (hN : RN NL own σ) (hL : L.length ≤ 10) (hLT : L.length = T.length) (hpt : ptm k0 T σ)
    (hf : ∀ q N' σ', pb1 t n nm (NL ++ [own]) fm R.length L T p = .inl q → q ≤ 1500 → RF t n q N' σ' → eqp (bdF k0) σ σ' → Q (.inl none) κ σ')
    (hQ : ∀ a q σ', pb1 t n nm (NL ++ [own]) fm R.length L T p = .inr (a, q) → RG t n (R ++ riR a) q 0 σ' → bds k0 R.length a σ' → eqp (bdF k0) σ σ' → Q (.inl none) κ σ') : ys_233_48 e d (Int32.ofNat (fm + 10)) κ σ Q := by
  have bd := bd48 hk
  have hn := ht.1
  unfold ys_233_48
  by_cases h2 : fm = 2
  · subst h2
    rw [if_pos (by decide)]
    unfold pb1 at hf hQ
    rw [if_pos rfl] at hf hQ
    refine K_tk (X := .inr (p, 0, R)) (k := 58) ht (by omega) hb (by omega) rfl (RM_K h) (fun σ1 g1 f1 => ?_)
    rw [my_k0_v]
    have b1 := bX_tk (k := 58) ht (show 0 ≤ 1000 by omega) hb
    refine K_ty ht (by omega) b1 g1 (fun σ2 v g2 f2 hv => ?_)
    rw [my_kI_v]
    have b2 := bX_ty ht (show 0 ≤ 1000 by omega) b1
    rw [(eqp_g f1 (by unfold eF; omega)).trans h11, oN_n (by omega)]
    refine ⟨bd, ?_⟩
    have fe := eqp_tr f1 f2
    have f3 : eqp (bdF k0) σ (my_uI σ2 503 k0 v) := bdF_w (by omega) (eqp_mo fe (fun _ _ => bdF_e))
    have g3 := RK_w (c := 503) (k0 := k0) (x := v) (by omega) g2
    have e11 : (my_uI σ2 503 k0 v).1 498 11 = Int32.ofNat k0 := ((uI_o (by omega)).trans (eqp_g fe (by unfold eF; omega))).trans h11
    have eRD : (my_uI σ2 503 k0 v).1 498 30 = 0 ∧ (my_uI σ2 503 k0 v).1 498 43 = 0 := ⟨((uI_o (by omega)).trans (eqp_g fe (by unfold eF; omega))).trans hRD.1, ((uI_o (by omega)).trans (eqp_g fe (by unfold eF; omega))).trans hRD.2⟩
    by_cases c1 : tkk t n p = 58
    · have x1 : xtk t n 58 (.inr (p, 0, R)) = .inr (nx t n p, 0, R) := by unfold xtk; simp only [if_pos c1]
      rw [x1] at g3 b2 b1
      rw [if_pos c1] at hf hQ
      have bp := nx_b (p := p) ht (by omega)
      cases hty : tyq t n (nx t n p) with
      | none =>
        rw [hty] at hf hQ
        have hh := tyq_n hty
        have x2 : xty t n (.inr (nx t n p, 0, R)) = .inl (nx t n p, R.length) := by unfold xty; simp only []; rw [if_neg (by omega)]
        rw [x2] at g3 b2
        exact r_233h ht hd (Or.inl rfl) hk b2 g3 e11 eRD (fun N' σ' g f => hf _ N' σ' rfl b2.1 g (eqp_tr f3 f))
      | some a =>
        rw [hty] at hf hQ
        dsimp only at hf hQ
        have hh := tyq_t hty
        have hva : v = a := hv (nx t n p) 0 R a x1 hty
        subst hva
        have x2 : xty t n (.inr (nx t n p, 0, R)) = .inr (nx t n (nx t n p), 0, R) := by unfold xty; simp only []; rw [if_pos (by omega)]
        rw [x2] at g3 b2
        have hl : rlc L σ := by obtain ⟨W, h⟩ := h; exact h.2.2.2.2.2
        have ho : eqp (fun c k => eF c k ∨ (c = 503 ∧ k = k0)) σ (my_uI σ2 503 k0 v) := eqp_I (eqp_mo fe (fun _ _ => Or.inl)) (Or.inr ⟨rfl, rfl⟩)
        have gM : RM t n L (.inr (nx t n (nx t n p), 0, R)) (my_uI σ2 503 k0 v) := RK_M g3 (fun _ _ _ _ => rlc_o hl ho (fun c k hh => by unfold eF at hh; omega))
        have hN' : RN NL own (my_uI σ2 503 k0 v) := ⟨rnm_o hN.1 ho (fun c k hh => by unfold eF at hh; omega), hN.2.1, ((ho 498 31 (by unfold eF; omega)).2.1).trans hN.2.2⟩
        have hp' : ptm k0 T (my_uI σ2 503 k0 v) := ptm_o hpt ho (fun c k hh => by unfold eF at hh; omega)
        refine r_233i (nm := nm) (T := T) (ty := v) ht hd (Or.inl rfl) hk b2 gM e11 eRD uI_s hN' hL (fun q N' σ' hpb hq g f => hf q N' σ' hpb hq g (eqp_tr f3 f)) (fun a q σ' hpb g w3 w7 w9 w10 w11 f w8 => ?_)
        have hT := pb2_T hpb
        exact hQ a q σ' hpb g ⟨by rw [hT.1]; exact w3, by rw [hT.2, ← hLT]; exact w7, by rw [hT.2]; exact fun j x hj => (congrFun w8 _).trans (hp' j x hj), w9, w10, w11⟩ (eqp_tr f3 f)
    · have x1 : xtk t n 58 (.inr (p, 0, R)) = .inl (p, R.length) := by unfold xtk; simp only [if_neg c1]
      rw [x1] at g3 b2
      rw [if_neg c1] at hf
      exact r_233h ht hd (Or.inl rfl) hk b2 g3 e11 eRD (fun N' σ' g f => hf _ N' σ' rfl b2.1 g (eqp_tr f3 f))
  · rw [if_neg (fun hh => h2 (by have := (oN_e (a := fm + 10) (b := 12) (by omega) (by omega)).mp hh; omega))]
    unfold pb1 at hf hQ
    rw [if_neg h2] at hf hQ
    refine r_233i (nm := nm) (T := T) (ty := 2) ht hd hfm hk hb h h11 hRD h3 hN hL hf (fun a q σ' hpb g w3 w7 w9 w10 w11 f w8 => ?_)
    have hT := pb2_T hpb
    exact hQ a q σ' hpb g ⟨by rw [hT.1]; exact w3, by rw [hT.2, ← hLT]; exact w7, by rw [hT.2]; exact fun j x hj => (congrFun w8 _).trans (hpt j x hj), w9, w10, w11⟩ f
/-- a body -/
theorem r_233 {p fm : Nat} {nm : List Nat} {NL : List (List Nat)} (ht : txt t n) (hd : 13 ≤ d) (hfm : fm = 2 ∨ fm = 3 ∨ fm = 4) (hk : k0 ≤ 42) (hb : bX n 0 (.inr (p, 0, R))) (h : RG t n R p 0 σ) (h11 : σ.1 498 11 = Int32.ofNat k0) (hnm : isN nm ∧ σ.2.1 502 k0 = nmR nm) (hN : rnm NL σ)
    (hf : ∀ q N' σ', pbd t n nm (NL ++ [nm]) fm R.length p = .inl q → q ≤ 1500 → RF t n q N' σ' → eqp (bdF k0) σ σ' → Q (.inl none) κ σ')
    (hQ : ∀ a q σ', pbd t n nm (NL ++ [nm]) fm R.length p = .inr (a, q) → RG t n (R ++ riR a) q 0 σ' → bds k0 R.length a σ' → eqp (bdF k0) σ σ' → Q (.inl none) κ σ') : my_M e d 233 [.inr (.inr (some 498)), .inl (Int32.ofNat (fm + 10))] κ σ Q := by
  obtain ⟨d, rfl⟩ := dS 1 (show 1 ≤ d by omega)
  have bd := bd48 hk
  have hn := ht.1
  refine ys_233 ?_
  unfold ys_233_0
  rw [h11, oN_n (by omega), hnm.2]
  refine ⟨bd, bd, ?_⟩
  have he : eqp (fun c k => (c = 498 ∧ (k = 29 ∨ k = 30 ∨ k = 43 ∨ k = 31)) ∨ (c = 503 ∧ k = k0)) σ (my_uI (my_uL (my_uI (my_uI (my_uI σ 498 29 0) 498 30 0) 498 43 0) 498 31 (nmR nm)) 503 k0 2) := eqp_I (eqp_L (eqp_I (eqp_I (eqp_I eqp_rf (by omega)) (by omega)) (by omega)) (by omega)) (by omega)
  have v29 : (my_uI (my_uL (my_uI (my_uI (my_uI σ 498 29 0) 498 30 0) 498 43 0) 498 31 (nmR nm)) 503 k0 2).1 498 29 = 0 := by simp [my_uI, my_uL]
  have v30 : (my_uI (my_uL (my_uI (my_uI (my_uI σ 498 29 0) 498 30 0) 498 43 0) 498 31 (nmR nm)) 503 k0 2).1 498 30 = 0 := by simp [my_uI, my_uL]
  have v43 : (my_uI (my_uL (my_uI (my_uI (my_uI σ 498 29 0) 498 30 0) 498 43 0) 498 31 (nmR nm)) 503 k0 2).1 498 43 = 0 := by simp [my_uI, my_uL]
  have v31 : (my_uI (my_uL (my_uI (my_uI (my_uI σ 498 29 0) 498 30 0) 498 43 0) 498 31 (nmR nm)) 503 k0 2).2.1 498 31 = nmR nm := by simp [my_uI, my_uL]
  have v3 : (my_uI (my_uL (my_uI (my_uI (my_uI σ 498 29 0) 498 30 0) 498 43 0) 498 31 (nmR nm)) 503 k0 2).1 503 k0 = 2 := uI_s
  generalize my_uI (my_uL (my_uI (my_uI (my_uI σ 498 29 0) 498 30 0) 498 43 0) 498 31 (nmR nm)) 503 k0 2 = σ1 at he v29 v30 v43 v31 v3 ⊢
  have fe : eqp (bdF k0) σ σ1 := eqp_mo he (fun c k hh => by unfold bdF sF eF; omega)
  have hl1 : rlc [] σ1 := ⟨v29, by simp, by simp, fun j l hj => by simp at hj⟩
  have g1 : RM t n [] (.inr (p, 0, R)) σ1 := RK_M (RK_o (X := .inr (p, 0, R)) h he (fun c k hh => by omega)) (fun _ _ _ _ => hl1)
  have hN1 : RN NL nm σ1 := ⟨rnm_o hN he (fun c k hh => by omega), hnm.1, v31⟩
  have e11 : σ1.1 498 11 = Int32.ofNat k0 := (eqp_g he (by omega)).trans h11
  unfold pbd at hf hQ
  by_cases h4 : fm = 4
  · subst h4
    rw [if_pos (by decide)]
    have hpp : ppl t n (NL ++ [nm]) 4 p = .inr ([], [], p) := by unfold ppl; rw [if_pos rfl]
    rw [hpp] at hf hQ
    exact r_233j (nm := nm) (L := []) (T := []) ht (by omega) hfm hk hb g1 e11 ⟨v30, v43⟩ v3 hN1 (by simp) rfl (fun j x hj => by simp at hj) (fun q N' σ' hp hq g f => hf q N' σ' hp hq g (eqp_tr fe f)) (fun a q σ' hp g hb' f => hQ a q σ' hp g hb' (eqp_tr fe f))
  · rw [if_neg (fun hh => h4 (by have := (oN_e (a := fm + 10) (b := 14) (by omega) (by omega)).mp hh; omega))]
    refine r_234 (fm := fm) (NL := NL) (own := nm) ht (by omega) hk h4 e11 g1 hb hN1 (fun σ2 hp2 f2 => ?_)
    rw [my_k0_v]
    have f2b : eqp (bdF k0) σ σ2 := eqp_tr fe (eqp_mo f2 (fun _ _ => bdF_h))
    have e11' : σ2.1 498 11 = Int32.ofNat k0 := (eqp_g f2 (by unfold hpF eF; omega)).trans e11
    have eRD : σ2.1 498 30 = 0 ∧ σ2.1 498 43 = 0 := ⟨(eqp_g f2 (by unfold hpF eF; omega)).trans v30, (eqp_g f2 (by unfold hpF eF; omega)).trans v43⟩
    have hB := ppl_B (Nf := NL ++ [nm]) (fm := fm) ht hb.2.1
    cases hpp : ppl t n (NL ++ [nm]) fm p with
    | inl q =>
      rw [hpp] at hf hp2
      obtain ⟨N, g2, b2⟩ := hp2
      by_cases hc : fm = 2
      · subst hc
        unfold ys_233_48
        rw [if_pos (by decide)]
        have hq := b2.1
        refine K_tk (X := .inl (q, N)) (k := 58) ht (by omega) b2 (by omega) rfl g2 (fun σ3 g3 f3 => ?_)
        rw [my_k0_v]
        refine K_ty (X := .inl (q, N)) ht (by omega) b2 g3 (fun σ4 v g4 f4 _ => ?_)
        rw [my_kI_v, (eqp_g f3 (by unfold eF; omega)).trans e11', oN_n (by omega)]
        have fe2 := eqp_tr f3 f4
        refine ⟨bd, ?_⟩
        exact r_233h ht (by omega) (Or.inl rfl) hk b2 (RK_w (X := .inl (q, N)) (c := 503) (k0 := k0) (x := v) (by omega) g4) (((uI_o (by omega)).trans (eqp_g fe2 (by unfold eF; omega))).trans e11') ⟨((uI_o (by omega)).trans (eqp_g fe2 (by unfold eF; omega))).trans eRD.1, ((uI_o (by omega)).trans (eqp_g fe2 (by unfold eF; omega))).trans eRD.2⟩ (fun N' σ' g f => hf q N' σ' rfl b2.1 g (eqp_tr (eqp_tr f2b (bdF_w (by omega) (eqp_mo fe2 (fun _ _ => bdF_e)))) f))
      · unfold ys_233_48
        rw [if_neg (fun hh => hc (by have := (oN_e (a := fm + 10) (b := 12) (by omega) (by omega)).mp hh; omega))]
        exact r_233h ht (by omega) hfm hk b2 g2 e11' eRD (fun N' σ' g f => hf q N' σ' rfl b2.1 g (eqp_tr f2b f))
    | inr v =>
      obtain ⟨L, T, q⟩ := v
      have hh := (hpp ▸ hB).2 L T q rfl
      rw [hpp] at hf hQ hp2
      obtain ⟨g2, b2, p2⟩ := hp2
      exact r_233j (nm := nm) ht (by omega) hfm hk b2 g2 e11' eRD ((eqp_g f2 (by unfold hpF eF; omega)).trans v3) ⟨rnm_h hN1.1 f2, hN1.2.1, ((f2 498 31 (by unfold hpF eF; omega)).2.1).trans hN1.2.2⟩ (by have := hh.2.2.1; have := hh.2.2.2.1; omega) hh.2.2.1 p2 (fun q N' σ' hp hq g f => hf q N' σ' hp hq g (eqp_tr f2b f)) (fun a q σ' hp g hb' f => hQ a q σ' hp g hb' (eqp_tr f2b f))
end MIK
