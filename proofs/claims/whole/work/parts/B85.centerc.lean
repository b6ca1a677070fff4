
/-! ===== the class alone: enter ===== -/
def enG (A c k : Nat) : Prop := ((c = A ∧ (k = 1 ∨ k = 6 ∨ k = 9 ∨ k = 10)) ∨ (A + 1 ≤ c ∧ c ≤ A + 6)) ∨ c = 92 ∨ c = 93
def LVc (A : Nat) (E : List Et) (σ : my_S) : Prop := lg2 A ∧ LgW E ∧ LgT E ∧ LgC A E σ ∧ (σ.1 89 3 = if A = 101 then 1 else 0) ∧ σ.2.2 91 0 = some 94 ∧ σ.2.2 91 1 = some 101
section MCV
variable {As : List Ri} {I : List It} {rv A a kt : Nat} {e : my_E} {d : Nat} {κ : my_K} {σ σ' : my_S} {Q : my_O → my_K → my_S → Prop} {E E' : List Et} {s : Ms} {v3 : Int32}
theorem c_155c (h : LVc A E σ) (hd : 1 ≤ d) (hQ : Q (.inl (some (.inr (.inr (some A))))) κ σ) : my_M e d 155 [.inr (.inr (some 89))] κ σ Q := by
  obtain ⟨d, rfl⟩ := dS 1 hd
  obtain ⟨hA, _, _, _, h3, l0, l1⟩ := h
  refine ys_155 ?_
  unfold ys_155_0
  rw [h3]
  rcases hA with rfl | rfl
  · rw [if_neg (show ¬ (94 : Nat) = 101 by decide), if_neg (show ¬ (0 : Int32) = 1 by decide)]
    unfold ys_155_17
    rw [show ((0 : Int32)).toNatClampNeg = 0 from rfl, l0]
    exact ⟨bdk (k := 0) (by omega) (by omega), hQ⟩
  · rw [if_pos rfl, if_pos rfl]
    unfold ys_155_17
    rw [show ((1 : Int32)).toNatClampNeg = 1 from rfl, l1]
    exact ⟨bdk (k := 1) (by omega) (by omega), hQ⟩
theorem c_161lc {nm : List Nat} {Ex : List Et} {ws : List Int32} {n c o : Nat} {f2 f3 : Int32} {ns : List Nat} {σ5 : my_S} (hA : lg2 A) (hW : LgW E) (hT : LgT Ex) (hl : isN nm) (hl1 : 1 ≤ nm.length) (hX : WX A E Ex σ5) (hO : OcT ws σ5) (u0 : σ5.2.1 92 0 = nmC nm) (u1 : σ5.1 92 1 = Int32.ofNat n) (u4 : σ5.1 92 4 = Int32.ofNat (zF s)) (u5 : σ5.1 92 5 = v3) (hn : n < 256) (hw : ws.length ≤ 30) (ho : els Ex ≤ 7747 → σ5.1 92 6 = Int32.ofNat o ∧ f2 = Int32.ofNat c ∧ ws = ns.map Int32.ofNat ∧ c < 65536 ∧ (n = 1 → c < nit Ex) ∧ (∀ x ∈ ns, x < nit Ex) ∧ ∃ z, (itp Ex)[o]? = some z ∧ eN z.2 = nm) (hR : List Et) (hrc : els Ex ≤ 7747 → hR = Ex ++ [(2, nm, rcC (Int32.ofNat n) (Int32.ofNat c) f3 (Int32.ofNat (zF s)) v3 (Int32.ofNat o) (ns.map Int32.ofNat))]) (hrf : 7747 < els Ex → 7747 < els hR) (hf : eqp (enG A) σ σ5) (hd : 2 ≤ d) (hQ1 : els hR ≤ 7747 → ∀ σ', LgW hR → LgT hR → LgC A hR σ' → eqp (enG A) σ σ' → Q (.inl (some (.inl 1))) κ σ') (hQ0 : 7747 < els hR → ∀ σ', LgC A E σ' → eqp (enG A) σ σ' → Q (.inl (some (.inl 0))) κ σ') : ys_161_195 e d (some A) (Int32.ofNat (els E)) (Int32.ofNat (itp E).length) (Int32.ofNat (rcp E).length) f3 κ (my_uI σ5 92 2 f2) Q := by
  have hA' := hA
  unfold lg2 at hA'
  have fM : eqp (fun c k => c = 92 ∧ (k = 2 ∨ k = 3)) σ5 (my_uI (my_uI σ5 92 2 f2) 92 3 f3) := eqp_I (eqp_I eqp_rf ⟨rfl, Or.inl rfl⟩) ⟨rfl, Or.inr rfl⟩
  have m2 : (my_uI (my_uI σ5 92 2 f2) 92 3 f3).1 92 2 = f2 := by rw [my_uI_1, if_neg (by omega)]; exact uI_s
  have m3 : (my_uI (my_uI σ5 92 2 f2) 92 3 f3).1 92 3 = f3 := uI_s
  unfold ys_161_195
  refine ⟨A, rfl, in8 hA, ?_⟩
  generalize my_uI (my_uI σ5 92 2 f2) 92 3 f3 = σ6 at fM m2 m3 ⊢
  have x6 : WX A E Ex σ6 := WX_92 hA hX fM (fun c k hh => Or.inl hh.1)
  have oc : OcW nm (Int32.ofNat n) f2 f3 (Int32.ofNat (zF s)) v3 (σ5.1 92 6) ws σ6 := ⟨((fM 92 0 (by omega)).2.1).trans u0, (eqp_g fM (by omega)).trans u1, m2, m3, (eqp_g fM (by omega)).trans u4, (eqp_g fM (by omega)).trans u5, eqp_g fM (by omega), (eqp_g fM (by omega)).trans hO.1, fun j w hj => (eqp_g fM (by omega)).trans (hO.2 j w hj)⟩
  have f6 : eqp (enG A) σ σ6 := eqp_tr hf (eqp_mo fM (fun c k hh => Or.inr (Or.inl hh.1)))
  have hle : els Ex ≤ els (Ex ++ [(2, nm, rcC (Int32.ofNat n) f2 f3 (Int32.ofNat (zF s)) v3 (σ5.1 92 6) ws)]) := by rw [els_a]; omega
  refine c_180 hA hl hw hd oc x6 (fun hh => ?_) (fun σ7 x7 f7 => ?_)
  · obtain ⟨p1, p2, p3, p4, p5, p6, z, p7, p8⟩ := ho (by omega)
    have hit : LgW Ex := by
      rcases hX.2 with hx | hx
      · exact hx.1
      · have := hx.1; omega
    have hnw := LgW_n hit
    have hoz := (List.getElem?_eq_some_iff.mp p7).1
    rw [itp_l] at hoz
    have hnl : ns.length ≤ 30 := by rw [p3, List.length_map] at hw; exact hw
    exact rcC_wf hl hl1 hn rfl p2 p4 p5 p1 hoz hnw.2.2 p3 hnl p6
  rw [my_k0_v]
  refine ⟨A, rfl, in8 hA, ?_⟩
  have f67 : eqp (enG A) σ σ7 := eqp_tr f6 (eqp_mo f7 (fun c k hh => by unfold wrF at hh; unfold enG; omega))
  by_cases c : els (Ex ++ [(2, nm, rcC (Int32.ofNat n) f2 f3 (Int32.ofNat (zF s)) v3 (σ5.1 92 6) ws)]) ≤ 7747
  · obtain ⟨p1, p2, p3, p4, p5, p6, z, p7, p8⟩ := ho (by omega)
    have e1 : hR = Ex ++ [(2, nm, rcC (Int32.ofNat n) f2 f3 (Int32.ofNat (zF s)) v3 (σ5.1 92 6) ws)] := by rw [hrc (by omega), p1, p2, p3]
    rw [← e1] at c x7
    rcases x7.2 with ⟨w1, w2, w3⟩ | hx
    · rw [w3, if_pos rfl]
      unfold ys_161_236 ys_161_249
      refine ⟨A, rfl, in8 hA, ?_⟩
      rw [w3, if_pos rfl]
      refine ⟨Or.inr rfl, hQ1 c σ7 w1 ?_ w2 f67⟩
      rw [e1]
      refine LgT_r hT (show ¬ (2 : Nat) = 1 by omega) ⟨z, ?_, p8⟩
      have hoz := (List.getElem?_eq_some_iff.mp p7).1
      have hit : LgW Ex := by
        rcases hX.2 with hx | hx
        · exact hx.1
        · have := hx.1; omega
      have hnw := LgW_n hit
      show (itp Ex)[g2 (rcC (Int32.ofNat n) f2 f3 (Int32.ofNat (zF s)) v3 (σ5.1 92 6) ws) 8]? = some z
      rw [rcC_6 (by omega) p1]
      exact p7
    · have := hx.1; omega
  · have hfull : 7747 < els hR := by
      by_cases c2 : els Ex ≤ 7747
      · obtain ⟨p1, p2, p3, _⟩ := ho c2
        rw [hrc c2, ← p1, ← p2, ← p3]
        omega
      · exact hrf (by omega)
    rcases x7.2 with ⟨w1, _, _⟩ | ⟨_, B, L, R, b1, b2, b3, b4, b5, b6, b7, b8⟩
    · have := w1.2; omega
    · have h10 : σ7.1 A 10 = 1 := by rw [b2.2.2, if_pos b1]
      rw [h10, if_neg (by decide)]
      refine ⟨A, rfl, in8 hA, A, rfl, in8 hA, A, rfl, in8 hA, ?_⟩
      have lb := WX_back (σ2 := my_uI (my_uI (my_uI σ7 A 1 (Int32.ofNat (els E))) A 6 (Int32.ofNat (itp E).length)) A 9 (Int32.ofNat (rcp E).length)) hA hW x7 (by omega) rfl rfl rfl rfl
      have fb : eqp (enG A) σ7 (my_uI (my_uI (my_uI σ7 A 1 (Int32.ofNat (els E))) A 6 (Int32.ofNat (itp E).length)) A 9 (Int32.ofNat (rcp E).length)) := eqp_I (eqp_I (eqp_I eqp_rf (Or.inl (by omega))) (Or.inl (by omega))) (Or.inl (by omega))
      have h10b : (my_uI (my_uI (my_uI σ7 A 1 (Int32.ofNat (els E))) A 6 (Int32.ofNat (itp E).length)) A 9 (Int32.ofNat (rcp E).length)).1 A 10 = 1 := by rw [my_uI_1, if_neg (by omega), my_uI_1, if_neg (by omega), my_uI_1, if_neg (by omega)]; exact h10
      generalize my_uI (my_uI (my_uI σ7 A 1 (Int32.ofNat (els E))) A 6 (Int32.ofNat (itp E).length)) A 9 (Int32.ofNat (rcp E).length) = σ8 at lb fb h10b ⊢
      unfold ys_161_236 ys_161_249
      refine ⟨A, rfl, in8 hA, ?_⟩
      rw [h10b, if_neg (by decide)]
      exact ⟨Or.inl rfl, hQ0 hfull σ8 lb (eqp_tr f67 fb)⟩
theorem c_161c {n : Nat} (hU : nmU As) (h : LD As I rv σ) (hS : LVc A E σ) (ha : 65 ≤ a ∧ a < 88) (sl : SlC rv a kt s σ) (hkt : kt < As.length) (hE : zE s = some n) (hn6 : n < 6) (hck : CKd As s) (hd : 6 ≤ d) (hQ1 : els (rcX As I v3 kt s E) ≤ 7747 → ∀ σ', LgW (rcX As I v3 kt s E) → LgT (rcX As I v3 kt s E) → LgC A (rcX As I v3 kt s E) σ' → eqp (enG A) σ σ' → Q (.inl (some (.inl 1))) κ σ') (hQ0 : 7747 < els (rcX As I v3 kt s E) → ∀ σ', LgC A E σ' → eqp (enG A) σ σ' → Q (.inl (some (.inl 0))) κ σ') : my_M e d 161 [.inr (.inr (some 89)), .inr (.inr (some rv)), .inr (.inr (some a)), .inl v3] κ σ Q := by
  obtain ⟨d, rfl⟩ := dS 1 (show 1 ≤ d by omega)
  have hA := hS.1
  have hA' := hA
  unfold lg2 at hA'
  have hrv := h.2.2.1
  have h42 := itsB_42 h.1
  have hat := List.getElem?_eq_getElem hkt
  generalize As[kt] = at' at hat
  have hit : itE As I kt = (1, riN at', ib I (rwA (As.take kt)).length at') := by unfold itE; rw [hat]
  obtain ⟨z2, hk42⟩ := cl_nm h hat
  have hin := in11 (rv := rv) (k := kt) hrv hk42
  have hl := (h.1.2 at' (List.mem_of_getElem? hat)).2.1
  have hl1 := (hU kt at' hat).2
  obtain ⟨s0, s1, s2, s3, s4, s5, s6⟩ := sl
  have hC := hS.2.2.2.1
  refine ys_161 ?_
  unfold ys_161_0
  refine c_155c hS (by omega) ?_
  rw [my_kA_v]
  refine ⟨A, rfl, in8 hA, A, rfl, in8 hA, A, rfl, in8 hA, A, rfl, in8 hA, a, rfl, s0, _, s1, hin, a, rfl, s0, a, rfl, s0, _, s1, hin, rv, rfl, in10 hrv, _, s1, hin, _, s1, hin, A, rfl, in8 hA, ?_⟩
  rw [z2, hC.1, hC.2.2.1.1, hC.2.2.2.1]
  have r1 : (my_uL (my_uI σ A 10 0) 92 0 (nmC (riN at'))).1 a 7 = Int32.ofNat n := by
    rw [my_uL_1, my_uI_1, if_neg (by omega), s2, hE]
    rfl
  rw [r1]
  have r2 : (my_uI (my_uL (my_uI σ A 10 0) 92 0 (nmC (riN at'))) 92 1 (Int32.ofNat n)).1 a 8 = Int32.ofNat (zF s) := by
    rw [my_uI_1, if_neg (by omega), my_uL_1, my_uI_1, if_neg (by omega)]
    exact s3
  rw [r2]
  have fM : eqp (fun c k => (c = A ∧ k = 10) ∨ c = 92) σ (my_uI (my_uI (my_uI (my_uL (my_uI σ A 10 0) 92 0 (nmC (riN at'))) 92 1 (Int32.ofNat n)) 92 4 (Int32.ofNat (zF s))) 92 5 v3) := eqp_I (eqp_I (eqp_I (eqp_L (eqp_I eqp_rf (Or.inl ⟨rfl, rfl⟩)) (Or.inr rfl)) (Or.inr rfl)) (Or.inr rfl)) (Or.inr rfl)
  have m0 : (my_uI (my_uI (my_uI (my_uL (my_uI σ A 10 0) 92 0 (nmC (riN at'))) 92 1 (Int32.ofNat n)) 92 4 (Int32.ofNat (zF s))) 92 5 v3).2.1 92 0 = nmC (riN at') := by rw [my_uI_2, my_uI_2, my_uI_2, my_uL_2, if_pos ⟨rfl, rfl⟩]
  have m1 : (my_uI (my_uI (my_uI (my_uL (my_uI σ A 10 0) 92 0 (nmC (riN at'))) 92 1 (Int32.ofNat n)) 92 4 (Int32.ofNat (zF s))) 92 5 v3).1 92 1 = Int32.ofNat n := by rw [my_uI_1, if_neg (by omega), my_uI_1, if_neg (by omega)]; exact uI_s
  have m4 : (my_uI (my_uI (my_uI (my_uL (my_uI σ A 10 0) 92 0 (nmC (riN at'))) 92 1 (Int32.ofNat n)) 92 4 (Int32.ofNat (zF s))) 92 5 v3).1 92 4 = Int32.ofNat (zF s) := by rw [my_uI_1, if_neg (by omega)]; exact uI_s
  have m5 : (my_uI (my_uI (my_uI (my_uL (my_uI σ A 10 0) 92 0 (nmC (riN at'))) 92 1 (Int32.ofNat n)) 92 4 (Int32.ofNat (zF s))) 92 5 v3).1 92 5 = v3 := uI_s
  have m10 : (my_uI (my_uI (my_uI (my_uL (my_uI σ A 10 0) 92 0 (nmC (riN at'))) 92 1 (Int32.ofNat n)) 92 4 (Int32.ofNat (zF s))) 92 5 v3).1 A 10 = 0 := by rw [my_uI_1, if_neg (by omega), my_uI_1, if_neg (by omega), my_uI_1, if_neg (by omega), my_uL_1]; exact uI_s
  generalize my_uI (my_uI (my_uI (my_uL (my_uI σ A 10 0) 92 0 (nmC (riN at'))) 92 1 (Int32.ofNat n)) 92 4 (Int32.ofNat (zF s))) 92 5 v3 = σ1 at fM m0 m1 m4 m5 m10 ⊢
  have x1 : WX A E E σ1 := ⟨⟨[], (List.append_nil _).symm⟩, Or.inl ⟨hS.2.1, LgC_o hC fM (fun c k hh => by omega), m10⟩⟩
  have ld1 : LD As I rv σ1 := LD_o (LD_30 h) h fM (fun c k hh => by unfold coF; omega)
  have g1 : eqp (enG A) σ σ1 := eqp_mo fM (fun c k hh => by unfold enG; omega)
  refine c_177k hA hU ld1 x1 hkt (by omega) (fun σ2 x x2 hx f2 => ?_)
  rw [my_kI_v]
  have fN : eqp (fun c k => c = 92 ∧ k = 6) σ2 (my_uI σ2 92 6 x) := eqp_I eqp_rf ⟨rfl, rfl⟩
  have n6 : (my_uI σ2 92 6 x).1 92 6 = x := uI_s
  generalize my_uI σ2 92 6 x = σ3 at fN n6 ⊢
  have x3 : WX A E (adK As I E kt).1 σ3 := WX_92 hA x2 fN (fun c k hh => Or.inl hh.1)
  have g13 : eqp (fun c k => wlF A c k ∨ (c = 92 ∧ k = 6)) σ1 σ3 := eqp_tr (eqp_mo f2 (fun c k hh => Or.inl hh)) (eqp_mo fN (fun c k hh => Or.inr hh))
  have w13 : ∀ c k, (wlF A c k ∨ (c = 92 ∧ k = 6)) → ((c = A ∧ (k = 1 ∨ k = 6 ∨ k = 10)) ∨ (A + 1 ≤ c ∧ c ≤ A + 4)) ∨ (c = 92 ∧ k = 6) := fun c k hh => by unfold wlF at hh; omega
  have ld3 : LD As I rv σ3 := LD_o (LD_30 ld1) ld1 g13 (fun c k hh => by have := w13 c k hh; unfold coF; omega)
  have sl1 : SlC rv a kt s σ1 := SlC_o ⟨s0, s1, s2, s3, s4, s5, s6⟩ fM (fun c k hh => by omega)
  have sl3 : SlC rv a kt s σ3 := SlC_o sl1 g13 (fun c k hh => by have := w13 c k hh; omega)
  refine c_162 hA hU ha ld3 sl3 x3 (by omega) (fun σ4 ws x4 o4 hwl hws f4 => ?_)
  rw [my_k0_v]
  have c4 : ∀ c k, ctF A c k → ((c = A ∧ (k = 1 ∨ k = 6 ∨ k = 10)) ∨ (A + 1 ≤ c ∧ c ≤ A + 4)) ∨ (c = 92 ∧ k = 7) ∨ c = 93 := fun c k hh => by unfold ctF wlF at hh; omega
  have ld4 : LD As I rv σ4 := LD_o (LD_30 ld3) ld3 f4 (fun c k hh => by have := c4 c k hh; unfold coF; omega)
  have sl4 : SlC rv a kt s σ4 := SlC_o sl3 f4 (fun c k hh => by have := c4 c k hh; omega)
  have g4 : eqp (enG A) σ σ4 := eqp_tr g1 (eqp_tr (eqp_mo g13 (fun c k hh => by have := w13 c k hh; unfold enG; omega)) (eqp_mo f4 (fun c k hh => by have := c4 c k hh; unfold enG; omega)))
  have v : ∀ {k : Nat}, k ≠ 6 → k ≠ 7 → σ4.1 92 k = σ1.1 92 k := fun h6 h7 => (eqp_g f4 (fun hh => by have := c4 _ _ hh; omega)).trans (eqp_g g13 (fun hh => by have := w13 _ _ hh; omega))
  have u0 : σ4.2.1 92 0 = nmC (riN at') := by rw [(f4 92 0 (fun hh => by have := c4 _ _ hh; omega)).2.1, (g13 92 0 (fun hh => by have := w13 _ _ hh; omega)).2.1]; exact m0
  have u6 : σ4.1 92 6 = x := (eqp_g f4 (fun hh => by have := c4 _ _ hh; omega)).trans n6
  have l30 := tls_l (s := s) h.1
  have gE := adM_g (As := As) (I := I) (ks := tls As s) (E := (adK As I E kt).1)
  have hnm : eN (itE As I kt) = riN at' := by rw [hit]
  have own : ∃ z, (itp (adK As I E kt).1)[(adK As I E kt).2]? = some z ∧ eN z.2 = riN at' := by
    obtain ⟨z, y1, y2, _⟩ := adE_at (E := E) (nm := eN (itE As I kt)) (X := eC (itE As I kt))
    exact ⟨z, y1, by rw [y2, hnm]⟩
  have own2 : ∃ z, (itp (adM As I (tls As s) (adK As I E kt).1).1)[(adK As I E kt).2]? = some z ∧ eN z.2 = riN at' := by
    obtain ⟨z, y1, y2⟩ := own
    obtain ⟨F, hF⟩ := adM_p (As := As) (I := I) (ks := tls As s) (E := (adK As I E kt).1)
    exact ⟨z, by rw [hF]; exact itp_ap y1, y2⟩
  have lt2 : LgT (adM As I (tls As s) (adK As I E kt).1).1 := LgT_m (LgT_e hS.2.2.1)
  refine ⟨a, rfl, s0, ?_⟩
  rw [sl4.2.2.1, hE]
  by_cases c1 : n = 1
  · subst c1
    obtain ⟨c, hc, hcA⟩ := hck hE
    rw [show enI (some 1) = 1 from rfl, if_pos rfl]
    refine ⟨a, rfl, s0, ?_⟩
    rw [sl4.2.2.2.2.1, hc]
    show ys_161_136 e d (some rv) (some a) (some A) _ _ _ (some (rv + 4 + 3 * c.1)) κ σ4 Q
    have hin2 := in11 (rv := rv) (k := c.1) hrv (by omega)
    unfold ys_161_136
    rw [if_neg (by simp)]
    refine ⟨_, rfl, hin2, rv, rfl, in10 hrv, _, rfl, hin2, _, rfl, hin2, A, rfl, in8 hA, c_177k hA hU ld4 x4 hcA (by omega) (fun σ5 y x5 hy f5 => ?_)⟩
    rw [my_kI_v]
    have w5 : ∀ c k, wlF A c k → ((c = A ∧ (k = 1 ∨ k = 6 ∨ k = 10)) ∨ (A + 1 ≤ c ∧ c ≤ A + 4)) := fun c k hh => by unfold wlF at hh; omega
    have k5 : ∀ {k : Nat}, σ5.1 92 k = σ4.1 92 k := eqp_g f5 (fun hh => by have := w5 _ _ hh; omega)
    have sl5 : SlC rv a kt s σ5 := SlC_o sl4 f5 (fun c k hh => by have := w5 c k hh; omega)
    have o5 : OcT ws σ5 := ⟨k5.trans o4.1, fun j w hj => (eqp_g f5 (fun hh => by have := w5 _ _ hh; omega)).trans (o4.2 j w hj)⟩
    unfold ys_161_175
    rw [if_neg (by simp)]
    refine ⟨a, rfl, s0, ?_⟩
    rw [my_uI_1, if_neg (by omega), sl5.2.2.2.2.2.1]
    obtain ⟨F5, hF5⟩ := adE_p (E := (adM As I (tls As s) (adK As I E kt).1).1) (nm := eN (itE As I c.1)) (X := eC (itE As I c.1))
    have hF5' : (adK As I (adM As I (tls As s) (adK As I E kt).1).1 c.1).1 = (adM As I (tls As s) (adK As I E kt).1).1 ++ F5 := hF5
    have hrx : rcX As I v3 kt s E = (adK As I (adM As I (tls As s) (adK As I E kt).1).1 c.1).1 ++ [(2, riN at', rcC (Int32.ofNat 1) (Int32.ofNat (adK As I (adM As I (tls As s) (adK As I E kt).1).1 c.1).2) (ckI (zk s)) (Int32.ofNat (zF s)) v3 (Int32.ofNat (adK As I E kt).2) ((adM As I (tls As s) (adK As I E kt).1).2.map Int32.ofNat))] := by
      unfold rcX
      rw [if_pos hE, hnm, hc]
      rfl
    refine c_161lc (Ex := (adK As I (adM As I (tls As s) (adK As I E kt).1).1 c.1).1) (n := 1) (c := (adK As I (adM As I (tls As s) (adK As I E kt).1).1 c.1).2) (o := (adK As I E kt).2) (ns := (adM As I (tls As s) (adK As I E kt).1).2) (s := s) (σ := σ) hA hS.2.1 (LgT_e lt2) hl hl1 x5 o5 (((f5 92 0 (fun hh => by have := w5 _ _ hh; omega)).2.1).trans u0) (k5.trans ((v (by omega) (by omega)).trans m1)) (k5.trans ((v (by omega) (by omega)).trans m4)) (k5.trans ((v (by omega) (by omega)).trans m5)) (by omega) (by omega) (fun hh => ?_) (rcX As I v3 kt s E) (fun _ => hrx) (fun hh => by rw [hrx, els_a]; omega) (eqp_tr g4 (eqp_mo f5 (fun c k hh => by have := w5 c k hh; unfold enG; omega))) (by omega) hQ1 hQ0
    have hh2 : els (adM As I (tls As s) (adK As I E kt).1).1 ≤ 7747 := by rw [hF5', els_a] at hh; omega
    have hlw : LgW (adK As I (adM As I (tls As s) (adK As I E kt).1).1 c.1).1 := by
      rcases x5.2 with hx5 | hx5
      · exact hx5.1
      · have := hx5.1; omega
    have hnw := LgW_n hlw
    have hcn : (adK As I (adM As I (tls As s) (adK As I E kt).1).1 c.1).2 < nit (adK As I (adM As I (tls As s) (adK As I E kt).1).1 c.1).1 := adE_n
    obtain ⟨z, y1, y2⟩ := own2
    refine ⟨by rw [k5, u6]; exact hx (by omega), hy hh, hws hh2, by omega, fun _ => hcn, fun q hq => ?_, z, by rw [hF5']; exact itp_ap y1, y2⟩
    have := adM_n (As := As) (I := I) q hq
    rw [hF5', nit_a]
    omega
  · rw [if_neg (show ¬ enI (some n) = 1 from fun hh => c1 ((oN_e1 (b := 1) (c := 1) rfl (by omega) (by omega)).mp hh))]
    unfold ys_161_136
    rw [if_pos rfl]
    unfold ys_161_175
    rw [if_pos rfl]
    have hrx : rcX As I v3 kt s E = (adM As I (tls As s) (adK As I E kt).1).1 ++ [(2, riN at', rcC (Int32.ofNat n) (Int32.ofNat 0) 0 (Int32.ofNat (zF s)) v3 (Int32.ofNat (adK As I E kt).2) ((adM As I (tls As s) (adK As I E kt).1).2.map Int32.ofNat))] := by
      unfold rcX
      rw [if_neg (by rw [hE]; intro hh; exact c1 (Option.some.inj hh)), hnm, hE]
      rfl
    refine c_161lc (n := n) (c := 0) (o := (adK As I E kt).2) (ns := (adM As I (tls As s) (adK As I E kt).1).2) (s := s) (σ := σ) hA hS.2.1 lt2 hl hl1 x4 o4 u0 ((v (by omega) (by omega)).trans m1) ((v (by omega) (by omega)).trans m4) ((v (by omega) (by omega)).trans m5) (by omega) (by omega) (fun hh => ?_) (rcX As I v3 kt s E) (fun _ => hrx) (fun hh => by rw [hrx, els_a]; omega) g4 (by omega) hQ1 hQ0
    obtain ⟨z, y1, y2⟩ := own2
    exact ⟨by rw [u6]; exact hx (by omega), rfl, hws hh, by omega, fun h1 => absurd h1 c1, fun q hq => adM_n q hq, z, y1, y2⟩
end MCV
