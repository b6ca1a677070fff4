
/-! ===== the class: enter, from its beginning ===== -/
section MCO
variable {As : List Ri} {I : List It} {rv A a kt : Nat} {e : my_E} {d : Nat} {κ : my_K} {σ σ' : my_S} {Q : my_O → my_K → my_S → Prop} {E E' : List Et} {s : Ms} {v3 : Int32}
theorem c_161 {n : Nat} (hU : nmU As) (h : LD As I rv σ) (hS : LVs A E σ) (ha : 65 ≤ a ∧ a < 88) (sl : SlC rv a kt s σ) (hkt : kt < As.length) (hE : zE s = some n) (hn6 : n < 6) (hck : CKd As s) (hd : 6 ≤ d) (hQ1 : els (rcX As I v3 kt s E) ≤ 7747 → ∀ σ', LgW (rcX As I v3 kt s E) → LgT (rcX As I v3 kt s E) → LgC A (rcX As I v3 kt s E) σ' → eqp (enF A) σ σ' → Q (.inl (some (.inl 1))) κ σ') (hQ0 : 7747 < els (rcX As I v3 kt s E) → ∀ σ', LgC A E σ' → eqp (enF A) σ σ' → Q (.inl (some (.inl 0))) κ σ') : my_M e d 161 [.inr (.inr (some 89)), .inr (.inr (some rv)), .inr (.inr (some a)), .inl v3] κ σ Q := by
  obtain ⟨d, rfl⟩ := dS 1 (show 1 ≤ d by omega)
  have hA := hS.1
  have hA' := hA
  unfold lg2 at hA'
  have hrv := h.2.2.1
  have h42 := itsB_42 h.1
  have hat := List.getElem?_eq_getElem hkt
  generalize As[kt] = at' at hat
  have hit : itE As I kt = (1, riN at', ib I (rwA (As.take kt)).length at') := by unfold itE; rw [hat]
  obtain ⟨z2, hk42⟩ := cl_nm h hat
  have hin := in11 (rv := rv) (k := kt) hrv hk42
  have hl := (h.1.2 at' (List.mem_of_getElem? hat)).2.1
  have hl1 := (hU kt at' hat).2
  obtain ⟨s0, s1, s2, s3, s4, s5, s6⟩ := sl
  have hC := hS.2.2.2.1
  refine ys_161 ?_
  unfold ys_161_0
  refine c_155 hS (by omega) ?_
  rw [my_kA_v]
  refine ⟨A, rfl, in8 hA, A, rfl, in8 hA, A, rfl, in8 hA, A, rfl, in8 hA, a, rfl, s0, _, s1, hin, a, rfl, s0, a, rfl, s0, _, s1, hin, rv, rfl, in10 hrv, _, s1, hin, _, s1, hin, A, rfl, in8 hA, ?_⟩
  rw [z2, hC.1, hC.2.2.1.1, hC.2.2.2.1]
  have r1 : (my_uL (my_uI σ A 10 0) 92 0 (nmC (riN at'))).1 a 7 = Int32.ofNat n := by
    rw [my_uL_1, my_uI_1, if_neg (by omega), s2, hE]
    rfl
  rw [r1]
  have r2 : (my_uI (my_uL (my_uI σ A 10 0) 92 0 (nmC (riN at'))) 92 1 (Int32.ofNat n)).1 a 8 = Int32.ofNat (zF s) := by
    rw [my_uI_1, if_neg (by omega), my_uL_1, my_uI_1, if_neg (by omega)]
    exact s3
  rw [r2]
  have fM : eqp (fun c k => (c = A ∧ k = 10) ∨ c = 92) σ (my_uI (my_uI (my_uI (my_uL (my_uI σ A 10 0) 92 0 (nmC (riN at'))) 92 1 (Int32.ofNat n)) 92 4 (Int32.ofNat (zF s))) 92 5 v3) := eqp_I (eqp_I (eqp_I (eqp_L (eqp_I eqp_rf (Or.inl ⟨rfl, rfl⟩)) (Or.inr rfl)) (Or.inr rfl)) (Or.inr rfl)) (Or.inr rfl)
  have m0 : (my_uI (my_uI (my_uI (my_uL (my_uI σ A 10 0) 92 0 (nmC (riN at'))) 92 1 (Int32.ofNat n)) 92 4 (Int32.ofNat (zF s))) 92 5 v3).2.1 92 0 = nmC (riN at') := by rw [my_uI_2, my_uI_2, my_uI_2, my_uL_2, if_pos ⟨rfl, rfl⟩]
  have m1 : (my_uI (my_uI (my_uI (my_uL (my_uI σ A 10 0) 92 0 (nmC (riN at'))) 92 1 (Int32.ofNat n)) 92 4 (Int32.ofNat (zF s))) 92 5 v3).1 92 1 = Int32.ofNat n := by rw [my_uI_1, if_neg (by omega), my_uI_1, if_neg (by omega)]; exact uI_s
  have m4 : (my_uI (my_uI (my_uI (my_uL (my_uI σ A 10 0) 92 0 (nmC (riN at'))) 92 1 (Int32.ofNat n)) 92 4 (Int32.ofNat (zF s))) 92 5 v3).1 92 4 = Int32.ofNat (zF s) := by rw [my_uI_1, if_neg (by omega)]; exact uI_s
  have m5 : (my_uI (my_uI (my_uI (my_uL (my_uI σ A 10 0) 92 0 (nmC (riN at'))) 92 1 (Int32.ofNat n)) 92 4 (Int32.ofNat (zF s))) 92 5 v3).1 92 5 = v3 := uI_s
  have m10 : (my_uI (my_uI (my_uI (my_uL (my_uI σ A 10 0) 92 0 (nmC (riN at'))) 92 1 (Int32.ofNat n)) 92 4 (Int32.ofNat (zF s))) 92 5 v3).1 A 10 = 0 := by rw [my_uI_1, if_neg (by omega), my_uI_1, if_neg (by omega), my_uI_1, if_neg (by omega), my_uL_1]; exact uI_s
  generalize my_uI (my_uI (my_uI (my_uL (my_uI σ A 10 0) 92 0 (nmC (riN at'))) 92 1 (Int32.ofNat n)) 92 4 (Int32.ofNat (zF s))) 92 5 v3 = σ1 at fM m0 m1 m4 m5 m10 ⊢
  have x1 : WX A E E σ1 := ⟨⟨[], (List.append_nil _).symm⟩, Or.inl ⟨hS.2.1, LgC_o hC fM (fun c k hh => by omega), m10⟩⟩
  have ld1 : LD As I rv σ1 := LD_o (LD_30 h) h fM (fun c k hh => by unfold coF; omega)
  have g1 : eqp (enF A) σ σ1 := eqp_mo fM (fun c k hh => by unfold enF; omega)
  refine c_177k hA hU ld1 x1 hkt (by omega) (fun σ2 x x2 hx f2 => ?_)
  rw [my_kI_v]
  have fN : eqp (fun c k => c = 92 ∧ k = 6) σ2 (my_uI σ2 92 6 x) := eqp_I eqp_rf ⟨rfl, rfl⟩
  have n6 : (my_uI σ2 92 6 x).1 92 6 = x := uI_s
  generalize my_uI σ2 92 6 x = σ3 at fN n6 ⊢
  have x3 : WX A E (adK As I E kt).1 σ3 := WX_92 hA x2 fN (fun c k hh => Or.inl hh.1)
  have g13 : eqp (fun c k => wlF A c k ∨ (c = 92 ∧ k = 6)) σ1 σ3 := eqp_tr (eqp_mo f2 (fun c k hh => Or.inl hh)) (eqp_mo fN (fun c k hh => Or.inr hh))
  have w13 : ∀ c k, (wlF A c k ∨ (c = 92 ∧ k = 6)) → (A ≤ c ∧ c ≤ A + 4) ∨ (c = 92 ∧ k = 6) := fun c k hh => by unfold wlF at hh; omega
  have ld3 : LD As I rv σ3 := LD_o (LD_30 ld1) ld1 g13 (fun c k hh => by have := w13 c k hh; unfold coF; omega)
  have sl1 : SlC rv a kt s σ1 := SlC_o ⟨s0, s1, s2, s3, s4, s5, s6⟩ fM (fun c k hh => by omega)
  have sl3 : SlC rv a kt s σ3 := SlC_o sl1 g13 (fun c k hh => by have := w13 c k hh; omega)
  refine c_162 hA hU ha ld3 sl3 x3 (by omega) (fun σ4 ws x4 o4 hwl hws f4 => ?_)
  rw [my_k0_v]
  have c4 : ∀ c k, ctF A c k → (A ≤ c ∧ c ≤ A + 4) ∨ (c = 92 ∧ k = 7) ∨ c = 93 := fun c k hh => by unfold ctF wlF at hh; omega
  have ld4 : LD As I rv σ4 := LD_o (LD_30 ld3) ld3 f4 (fun c k hh => by have := c4 c k hh; unfold coF; omega)
  have sl4 : SlC rv a kt s σ4 := SlC_o sl3 f4 (fun c k hh => by have := c4 c k hh; omega)
  have g4 : eqp (enF A) σ σ4 := eqp_tr g1 (eqp_tr (eqp_mo g13 (fun c k hh => by have := w13 c k hh; unfold enF; omega)) (eqp_mo f4 (fun c k hh => by have := c4 c k hh; unfold enF; omega)))
  have v : ∀ {k : Nat}, k ≠ 6 → k ≠ 7 → σ4.1 92 k = σ1.1 92 k := fun h6 h7 => (eqp_g f4 (fun hh => by have := c4 _ _ hh; omega)).trans (eqp_g g13 (fun hh => by have := w13 _ _ hh; omega))
  have u0 : σ4.2.1 92 0 = nmC (riN at') := by rw [(f4 92 0 (fun hh => by have := c4 _ _ hh; omega)).2.1, (g13 92 0 (fun hh => by have := w13 _ _ hh; omega)).2.1]; exact m0
  have u6 : σ4.1 92 6 = x := (eqp_g f4 (fun hh => by have := c4 _ _ hh; omega)).trans n6
  have l30 := tls_l (s := s) h.1
  have gE := adM_g (As := As) (I := I) (ks := tls As s) (E := (adK As I E kt).1)
  have hnm : eN (itE As I kt) = riN at' := by rw [hit]
  have own : ∃ z, (itp (adK As I E kt).1)[(adK As I E kt).2]? = some z ∧ eN z.2 = riN at' := by
    obtain ⟨z, y1, y2, _⟩ := adE_at (E := E) (nm := eN (itE As I kt)) (X := eC (itE As I kt))
    exact ⟨z, y1, by rw [y2, hnm]⟩
  have own2 : ∃ z, (itp (adM As I (tls As s) (adK As I E kt).1).1)[(adK As I E kt).2]? = some z ∧ eN z.2 = riN at' := by
    obtain ⟨z, y1, y2⟩ := own
    obtain ⟨F, hF⟩ := adM_p (As := As) (I := I) (ks := tls As s) (E := (adK As I E kt).1)
    exact ⟨z, by rw [hF]; exact itp_ap y1, y2⟩
  have lt2 : LgT (adM As I (tls As s) (adK As I E kt).1).1 := LgT_m (LgT_e hS.2.2.1)
  refine ⟨a, rfl, s0, ?_⟩
  rw [sl4.2.2.1, hE]
  by_cases c1 : n = 1
  · subst c1
    obtain ⟨c, hc, hcA⟩ := hck hE
    rw [show enI (some 1) = 1 from rfl, if_pos rfl]
    refine ⟨a, rfl, s0, ?_⟩
    rw [sl4.2.2.2.2.1, hc]
    show ys_161_136 e d (some rv) (some a) (some A) _ _ _ (some (rv + 4 + 3 * c.1)) κ σ4 Q
    have hin2 := in11 (rv := rv) (k := c.1) hrv (by omega)
    unfold ys_161_136
    rw [if_neg (by simp)]
    refine ⟨_, rfl, hin2, rv, rfl, in10 hrv, _, rfl, hin2, _, rfl, hin2, A, rfl, in8 hA, c_177k hA hU ld4 x4 hcA (by omega) (fun σ5 y x5 hy f5 => ?_)⟩
    rw [my_kI_v]
    have w5 : ∀ c k, wlF A c k → (A ≤ c ∧ c ≤ A + 4) := fun c k hh => by unfold wlF at hh; omega
    have k5 : ∀ {k : Nat}, σ5.1 92 k = σ4.1 92 k := eqp_g f5 (fun hh => by have := w5 _ _ hh; omega)
    have sl5 : SlC rv a kt s σ5 := SlC_o sl4 f5 (fun c k hh => by have := w5 c k hh; omega)
    have o5 : OcT ws σ5 := ⟨k5.trans o4.1, fun j w hj => (eqp_g f5 (fun hh => by have := w5 _ _ hh; omega)).trans (o4.2 j w hj)⟩
    unfold ys_161_175
    rw [if_neg (by simp)]
    refine ⟨a, rfl, s0, ?_⟩
    rw [my_uI_1, if_neg (by omega), sl5.2.2.2.2.2.1]
    obtain ⟨F5, hF5⟩ := adE_p (E := (adM As I (tls As s) (adK As I E kt).1).1) (nm := eN (itE As I c.1)) (X := eC (itE As I c.1))
    have hF5' : (adK As I (adM As I (tls As s) (adK As I E kt).1).1 c.1).1 = (adM As I (tls As s) (adK As I E kt).1).1 ++ F5 := hF5
    have hrx : rcX As I v3 kt s E = (adK As I (adM As I (tls As s) (adK As I E kt).1).1 c.1).1 ++ [(2, riN at', rcC (Int32.ofNat 1) (Int32.ofNat (adK As I (adM As I (tls As s) (adK As I E kt).1).1 c.1).2) (ckI (zk s)) (Int32.ofNat (zF s)) v3 (Int32.ofNat (adK As I E kt).2) ((adM As I (tls As s) (adK As I E kt).1).2.map Int32.ofNat))] := by
      unfold rcX
      rw [if_pos hE, hnm, hc]
      rfl
    refine c_161l (Ex := (adK As I (adM As I (tls As s) (adK As I E kt).1).1 c.1).1) (n := 1) (c := (adK As I (adM As I (tls As s) (adK As I E kt).1).1 c.1).2) (o := (adK As I E kt).2) (ns := (adM As I (tls As s) (adK As I E kt).1).2) (s := s) (σ := σ) hA hS.2.1 (LgT_e lt2) hl hl1 x5 o5 (((f5 92 0 (fun hh => by have := w5 _ _ hh; omega)).2.1).trans u0) (k5.trans ((v (by omega) (by omega)).trans m1)) (k5.trans ((v (by omega) (by omega)).trans m4)) (k5.trans ((v (by omega) (by omega)).trans m5)) (by omega) (by omega) (fun hh => ?_) (rcX As I v3 kt s E) (fun _ => hrx) (fun hh => by rw [hrx, els_a]; omega) (eqp_tr g4 (eqp_mo f5 (fun c k hh => by have := w5 c k hh; unfold enF; omega))) (by omega) hQ1 hQ0
    have hh2 : els (adM As I (tls As s) (adK As I E kt).1).1 ≤ 7747 := by rw [hF5', els_a] at hh; omega
    have hlw : LgW (adK As I (adM As I (tls As s) (adK As I E kt).1).1 c.1).1 := by
      rcases x5.2 with hx5 | hx5
      · exact hx5.1
      · have := hx5.1; omega
    have hnw := LgW_n hlw
    have hcn : (adK As I (adM As I (tls As s) (adK As I E kt).1).1 c.1).2 < nit (adK As I (adM As I (tls As s) (adK As I E kt).1).1 c.1).1 := adE_n
    obtain ⟨z, y1, y2⟩ := own2
    refine ⟨by rw [k5, u6]; exact hx (by omega), hy hh, hws hh2, by omega, fun _ => hcn, fun q hq => ?_, z, by rw [hF5']; exact itp_ap y1, y2⟩
    have := adM_n (As := As) (I := I) q hq
    rw [hF5', nit_a]
    omega
  · rw [if_neg (show ¬ enI (some n) = 1 from fun hh => c1 ((oN_e (b := 1) (by omega) (by omega)).mp hh))]
    unfold ys_161_136
    rw [if_pos rfl]
    unfold ys_161_175
    rw [if_pos rfl]
    have hrx : rcX As I v3 kt s E = (adM As I (tls As s) (adK As I E kt).1).1 ++ [(2, riN at', rcC (Int32.ofNat n) (Int32.ofNat 0) 0 (Int32.ofNat (zF s)) v3 (Int32.ofNat (adK As I E kt).2) ((adM As I (tls As s) (adK As I E kt).1).2.map Int32.ofNat))] := by
      unfold rcX
      rw [if_neg (by rw [hE]; intro hh; exact c1 (Option.some.inj hh)), hnm, hE]
      rfl
    refine c_161l (n := n) (c := 0) (o := (adK As I E kt).2) (ns := (adM As I (tls As s) (adK As I E kt).1).2) (s := s) (σ := σ) hA hS.2.1 lt2 hl hl1 x4 o4 u0 ((v (by omega) (by omega)).trans m1) ((v (by omega) (by omega)).trans m4) ((v (by omega) (by omega)).trans m5) (by omega) (by omega) (fun hh => ?_) (rcX As I v3 kt s E) (fun _ => hrx) (fun hh => by rw [hrx, els_a]; omega) g4 (by omega) hQ1 hQ0
    obtain ⟨z, y1, y2⟩ := own2
    exact ⟨by rw [u6]; exact hx (by omega), rfl, hws hh, by omega, fun h1 => absurd h1 c1, fun q hq => adM_n q hq, z, y1, y2⟩
end MCO
