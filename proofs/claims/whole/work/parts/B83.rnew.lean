
/-! ===== the reference makes the log anew ===== -/
def rnwF (c k : Nat) : Prop := twF c k ∨ drF c k ∨ rrlF c k ∨ plF c k
/-- all writes done: the disk holds the log made anew -/
theorem rnD_ok {D : Nat → Int32} {h ep M : Nat} {B N : List Int32} (hB : B.length ≤ 7747) (hN : N.length ≤ 7747) (hM : M + 1 < 65535) (hk : DSK D h ep B M) : DSK (rnD D h ep N (nbk N + 2)) (1 - h) (nxE D h ep) N (M + 1) := by
  have h1 := DSK_h hB hN hM hk
  have hx2 : ep < nxE D h ep := by unfold nxE; omega
  have h2 := DSK_z hx2 hN h1
  have hh : 1 - (1 - h) = h := by have := hk.1.1; omega
  rw [hh] at h2
  unfold rnD
  rw [if_neg (by omega), if_neg (by omega)]
  exact h2
/-- some writes done: it holds the old one or the new one -/
theorem rnD_x {D : Nat → Int32} {h ep M k : Nat} {B N : List Int32} (hB : B.length ≤ 7747) (hN : N.length ≤ 7747) (hM : M + 1 < 65535) (hk : DSK D h ep B M) (hk2 : k < nbk N + 2) : (k ≤ nbk N ∧ DSK (rnD D h ep N k) h ep B (M + 1)) ∨ (k = nbk N + 1 ∧ DSK (rnD D h ep N k) (1 - h) (nxE D h ep) N (M + 1)) := by
  by_cases c : k ≤ nbk N
  · left
    refine ⟨c, ?_⟩
    unfold rnD
    rw [if_pos c]
    exact DSK_r hB hN hM hk c
  · right
    refine ⟨by omega, ?_⟩
    unfold rnD
    rw [if_neg c, if_pos (by omega)]
    exact DSK_h hB hN hM hk
section MRW
variable {As : List Ri} {I : List It} {rv : Nat} {e : my_E} {d : Nat} {κ : my_K} {σ σ' : my_S} {Q : my_O → my_K → my_S → Prop} {D : Nat → Int32} {n h ep M x : Nat} {w : Int32} {B : List Int32} {E N : List Et} {v1 : Int32}
theorem twF_c {c k : Nat} (hh : twF c k) : c = 555 ∨ (c = 498 ∧ (k = 104 ∨ k = 105)) ∨ c = 556 ∨ c = 554 := by unfold twF rwF nyF at hh; omega
/-- the tests, one by one -/
theorem f_319l (hU : nmU As) (ld : LD As I rv σ) (hW : LgW E) (hT : LgT E) (hR : LgR E [] σ) (hP : PrR E σ) (hex : ∀ t, t < 12 → (Int32.ofNat t = v1 ↔ t = x)) (hd : 5 ≤ d) : ∀ (m t : Nat) (N : List Et) (σ' : my_S), t + m = cnK As 3 → CPI E N (tSn As t) → RNW E N σ' → eqp twF σ σ' → (∀ σ2, RNW E (cpA As E x m t N) σ2 → eqp twF σ σ2 → ys_319_35 e d v1 (Int32.ofNat (cnK As 3)) κ σ2 Q) → ys_319_35 e d v1 (Int32.ofNat t) κ σ' Q := by
  have hB := ld.1
  have h42 := itsB_42 hB
  have h12 : cnK As 3 ≤ 12 := hB.1 3
  have hrv := ld.2.2.1
  intro m
  induction m with
  | zero =>
    intro t N σ' ht hI h f hQ
    have : t = cnK As 3 := by omega
    subst this
    exact hQ σ' h f
  | succ m ih =>
    intro t N σ' ht hI h f hQ
    have ld' : LD As I rv σ' := LD_o (LD_30 ld) ld f (fun c k hh => by have := twF_c hh; unfold coF; omega)
    have hR' : LgR E [] σ' := LgR_o hR f (fun c k hh => by have := twF_c hh; omega)
    have hP' : PrR E σ' := PrR_o hP f (fun c k hh => by have := twF_c hh; omega)
    obtain ⟨k, hk⟩ := (fkA_w (K := 3) hB (by omega) (show t < 2147483648 by omega)).1 (by omega)
    have hkl := fkA_lt hk
    have ha := List.getElem?_eq_getElem hkl
    generalize As[k] = a at ha
    have hk' : fkA As 3 (Int32.ofNat t) As.length 0 = some k := hk
    have hl := (hB.2 a (List.mem_of_getElem? ha)).2.1
    have next : ∀ (N' : List Et) (σ2 : my_S), cp1 As E x t N = N' → RNW E N' σ2 → eqp twF σ σ2 → ys_319_73 e d v1 (Int32.ofNat t) κ σ2 Q := by
      intro N' σ2 hN X2 f2
      unfold ys_319_73
      rw [oN_s]
      subst hN
      exact ys_319_35_ok (ih (t + 1) (cp1 As E x t N) σ2 (by omega) (cp1_ok hU hW hT (by omega) hI) X2 f2 (fun σ3 X3 f3 => hQ σ3 (by rw [cpA]; exact X3) f3))
    have h64 : σ'.1 498 64 = Int32.ofNat (cnK As 3) := ld'.2.2.2.2.2.2.2.2.2.2.2.2.2
    unfold ys_319_35
    rw [h64, if_pos ((oN_lt (by omega) (by omega)).mpr (by omega)), show (3 : Int32) = Int32.ofNat 3 from rfl]
    refine r_281 hB (fun k a ha => (ld'.2.2.2.2.2.2.2.2.1 k a ha).1) ld'.2.2.2.2.2.2.2.2.2.1 (by omega) (by omega) ?_
    rw [my_kI_v, hk]
    show my_bd (Int32.ofNat k) 48 ∧ my_M e d 286 [.inr (.inr (some 498)), .inr (.inl (σ'.2.1 530 (Int32.ofNat k).toNatClampNeg))] κ σ' _
    rw [oN_n (by omega), (ld'.2.2.2.2.2.2.2.2.1 k a ha).2.1]
    refine ⟨bdk (by omega) (by omega), r_286 hW hR' hP' hl (by omega) ?_⟩
    rw [my_kI_v]
    by_cases cx : t = x
    · rw [if_pos ((hex t (by omega)).mpr cx)]
      exact next N σ' (by unfold cp1; rw [if_pos cx]) h f
    · rw [if_neg (fun hh => cx ((hex t (by omega)).mp hh))]
      cases hy : lrc (rcp E) (riN a) (rcp E).length with
      | none =>
        rw [if_pos (show fP none < 0 by decide)]
        exact next N σ' (by unfold cp1; rw [if_neg cx, hk']; dsimp only; rw [ha]; dsimp only; rw [hy]) h f
      | some y =>
        obtain ⟨ym, yn⟩ := lrc_m hy
        have yb := (pse_b (rcp_m ym).1).2
        have hwL := hW.2
        show if Int32.ofNat y.1 < 0 then _ else my_M e d 320 [.inr (.inr (some 498)), .inl (Int32.ofNat y.1)] κ σ' _
        rw [if_neg (oN_0 (by omega))]
        refine f_320 (S := tSn As t) hW hT hR' hP' ym hI (fun l hl2 => by rw [yn]; exact tSn_d hU (by omega) hk' ha l hl2) h (by omega) (fun σ1 w1 f1 => ?_)
        rw [my_k0_v]
        exact next (cpR E N y.2) σ1 (by unfold cp1; rw [if_neg cx, hk']; dsimp only; rw [ha]; dsimp only; rw [hy]) w1 (eqp_tr f f1)
theorem f_319x {NB : List Int32} {v2 v5 : Int32} (hB : NB.length ≤ 7747) (hd : 1 ≤ d) (hb : σ.1 498 104 = Int32.ofNat NB.length) (h1 : σ.1 498 89 = 1) (hQ : Q (.inl none) κ σ) : ∀ (m c : Nat), (NB.length + 60) / 61 = c + m → ys_319_157 e d v2 v5 (Int32.ofNat (c + 1)) κ σ Q := by
  intro m
  induction m with
  | zero =>
    intro c hc
    unfold ys_319_157
    rw [hb, oN_m, show (61 : Int32) * Int32.ofNat c = Int32.ofNat (61 * c) by rw [show (61 : Int32) = Int32.ofNat 61 from rfl, ← Int32.ofNat_mul], if_neg (fun hh => by have := (oN_lt (by omega) (by omega)).mp hh; omega)]
    refine f_327x h1 hd ?_
    rw [my_k0_v]
    refine f_327x h1 hd ?_
    rw [my_k0_v, h1, if_neg (by decide)]
    exact hQ
  | succ m ih =>
    intro c hc
    unfold ys_319_157
    rw [hb, oN_m, show (61 : Int32) * Int32.ofNat c = Int32.ofNat (61 * c) by rw [show (61 : Int32) = Int32.ofNat 61 from rfl, ← Int32.ofNat_mul], if_pos ((oN_lt (by omega) (by omega)).mpr (by omega))]
    refine f_325x_555 h1 hd ?_
    rw [my_k0_v, oN_s]
    exact ys_319_157_ok (ih (c + 1) (by omega))
/-- the blocks -/
theorem f_319b {NB : List Int32} {g nx : Nat} (hg : g ≤ 1) (hB : NB.length ≤ 7747) (hep : nx < 65536) (hd : 2 ≤ d) (hb : NWy NB σ) : ∀ (m c : Nat) (D : Nat → Int32) (n : Nat) (w : Int32) (σ' : my_S), n < 2147483648 → (NB.length + 60) / 61 = c + m → WSr D n w σ' → σ'.1 498 89 = 0 → eqp drF σ σ' → (m ≤ n → ∀ σ', WSr (wD g nx NB m c D) (n - m) (w + Int32.ofNat m) σ' → σ'.1 498 89 = 0 → eqp drF σ σ' → ys_319_157 e d (Int32.ofNat g) (Int32.ofNat nx) (Int32.ofNat ((NB.length + 60) / 61 + 1)) κ σ' Q) → (n < m → ∀ σ', WSr (wD g nx NB n c D) 0 (w + Int32.ofNat n) σ' → σ'.1 498 89 = 1 → eqp drF σ σ' → Q (.inl none) κ σ') → ys_319_157 e d (Int32.ofNat g) (Int32.ofNat nx) (Int32.ofNat (c + 1)) κ σ' Q := by
  intro m
  induction m with
  | zero =>
    intro c D n w σ' hn hc hs h0 f hQ1 hQ0
    rw [show c = (NB.length + 60) / 61 by omega]
    refine hQ1 (by omega) σ' ?_ h0 f
    rw [show w + Int32.ofNat 0 = w from Int32.add_zero w]
    exact hs
  | succ m ih =>
    intro c D n w σ' hn hc hs h0 f hQ1 hQ0
    have hb' := NWy_o hb f (fun c k hh => by unfold drF at hh; omega)
    unfold ys_319_157
    rw [hb'.1, oN_m, show (61 : Int32) * Int32.ofNat c = Int32.ofNat (61 * c) by rw [show (61 : Int32) = Int32.ofNat 61 from rfl, ← Int32.ofNat_mul], if_pos ((oN_lt (by omega) (by omega)).mpr (by omega))]
    refine f_325_555 hg hB (by omega) hep hn hb'.2 hs h0 hd (fun n' hn' σ1 s1 x1 f1 => ?_) (fun hn0 σ1 s1 x1 f1 => ?_)
    · rw [my_k0_v, oN_s]
      subst hn'
      refine ys_319_157_ok (ih (c + 1) (w1B g nx NB c D) n' (w + 1) σ1 (by omega) (by omega) s1 x1 (eqp_tr f f1) (fun hm σ3 s3 x3 f3 => hQ1 (by omega) σ3 ?_ x3 f3) (fun hm σ3 s3 x3 f3 => hQ0 (by omega) σ3 ?_ x3 f3))
      · rw [show n' + 1 - (m + 1) = n' - m by omega, ← oN_s, Int32.add_comm (Int32.ofNat m) 1, ← Int32.add_assoc]
        exact s3
      · rw [← oN_s n', Int32.add_comm (Int32.ofNat n') 1, ← Int32.add_assoc]
        exact s3
    · rw [my_k0_v, oN_s]
      subst hn0
      refine ys_319_157_ok (f_319x hB (by omega) ((eqp_g f1 (by unfold drF; omega)).trans hb'.1) x1 (hQ0 (by omega) σ1 ?_ x1 (eqp_tr f f1)) m (c + 1) (by omega))
      rw [show w + Int32.ofNat 0 = w from Int32.add_zero w]
      exact s1
theorem f_319 (hU : nmU As) (ld : LD As I rv σ) (hW : LgW E) (hT : LgT E) (hR : LgR E [] σ) (hP : PrR E σ) (hB : B.length ≤ 7747) (hk : DSK D h ep B M) (hM : M + 1 < 65535) (hn : n < 2147483648) (hs : WSr D n w σ) (h0 : σ.1 498 89 = 0) (h83 : σ.1 498 83 = Int32.ofNat h) (h84 : σ.1 498 84 = Int32.ofNat ep) (hex : ∀ t, t < 12 → (Int32.ofNat t = v1 ↔ t = x)) (hd : 6 ≤ d) (hNN : N = cpA As E x (cnK As 3) 0 []) (hQ1 : nbk (en N 0) + 2 ≤ n → ∀ σ', WSr (rnD D h ep (en N 0) (nbk (en N 0) + 2)) (n - (nbk (en N 0) + 2)) (w + Int32.ofNat (nbk (en N 0) + 2)) σ' → σ'.1 498 89 = 0 → σ'.1 498 83 = Int32.ofNat (1 - h) → σ'.1 498 84 = Int32.ofNat (nxE D h ep) → LgW N → LgT N → LgR N [] σ' → PrR N σ' → eqp rnwF σ σ' → Q (.inl none) κ σ') (hQ0 : n < nbk (en N 0) + 2 → ∀ σ', WSr (rnD D h ep (en N 0) n) 0 (w + Int32.ofNat n) σ' → σ'.1 498 89 = 1 → eqp rnwF σ σ' → Q (.inl none) κ σ') : my_M e d 319 [.inr (.inr (some 498)), .inl v1] κ σ Q := by
  obtain ⟨d, rfl⟩ := dS 1 (show 1 ≤ d by omega)
  have hkk := hk
  obtain ⟨⟨hh1, e1, e2, e3⟩, k1, k2, k3, k4, k5, k6⟩ := hk
  have hBi := ld.1
  have hrv := ld.2.2.1
  have h12 : cnK As 3 ≤ 12 := hBi.1 3
  have hNok : CPI E N (tSn As (0 + cnK As 3)) := by rw [hNN]; exact cpA_ok hU hW hT _ _ _ (by omega) CPI_0
  have hNW := CPI_W hW hNok
  have hNT := hNok.2.2.2.1
  have hNl : (en N 0).length = els N := en_l
  have hN7 := hNW.2
  have hbk : nbk (en N 0) ≤ 127 := by unfold nbk; omega
  have hnE := LgW_n hW
  have hx : nxE D h ep ≤ M + 1 := by unfold nxE; omega
  have lE := eD_lt (D := D) (a := 8192 * (1 - h) + 64)
  have tw : ∀ c k, twF c k → rnwF c k := fun c k hh => Or.inl hh
  have dr : ∀ c k, drF c k → rnwF c k := fun c k hh => Or.inr (Or.inl hh)
  -- the end
  have fin : ∀ σ', RNW E N σ' → eqp twF σ σ' → ys_319_35 e d v1 (Int32.ofNat (cnK As 3)) κ σ' Q := by
    intro σ' hw f
    have ld' : LD As I rv σ' := LD_o (LD_30 ld) ld f (fun c k hh => by have := twF_c hh; unfold coF; omega)
    have h64 : σ'.1 498 64 = Int32.ofNat (cnK As 3) := ld'.2.2.2.2.2.2.2.2.2.2.2.2.2
    have hs' : WSr D n w σ' := WSr_o hs f (fun c k hh => by have := twF_c hh; omega)
    have g89 : σ'.1 498 89 = 0 := (eqp_g f (fun hh => by have := twF_c hh; omega)).trans h0
    have g83 : σ'.1 498 83 = Int32.ofNat h := (eqp_g f (fun hh => by have := twF_c hh; omega)).trans h83
    have g84 : σ'.1 498 84 = Int32.ofNat ep := (eqp_g f (fun hh => by have := twF_c hh; omega)).trans h84
    have e1h : (1 : Int32) - Int32.ofNat h = Int32.ofNat (1 - h) := by rw [show (1 : Int32) = Int32.ofNat 1 from rfl, oN_sub hh1]
    have dd := DR_2 (i := 8192 * (1 - h) + 64) hs'.1 (by omega)
    have em : ∀ q : Nat, (8192 : Int32) * Int32.ofNat (1 - h) + Int32.ofNat q = Int32.ofNat (8192 * (1 - h) + q) := fun q => by rw [show (8192 : Int32) = Int32.ofNat 8192 from rfl, ← Int32.ofNat_mul, oN_a]
    have blk : ys_319_152 e d (Int32.ofNat (1 - h)) (Int32.ofNat (nxE D h ep)) κ σ' Q := by
      unfold ys_319_152
      refine ys_319_157_ok (f_319b (σ := σ') (NB := en N 0) (g := 1 - h) (nx := nxE D h ep) (by omega) (by omega) (by omega) (by omega) hw.1 (nbk (en N 0)) 0 D n w σ' hn (Nat.zero_add _).symm hs' g89 eqp_rf (fun hm σ1 s1 x1 f1 => ?_) (fun hm σ1 s1 x1 f1 => ?_))
      · have w1 := NWy_o hw.1 f1 (fun c k hh => by unfold drF at hh; omega)
        unfold ys_319_157
        rw [w1.1, oN_m, show (61 : Int32) * Int32.ofNat (((en N 0).length + 60) / 61) = Int32.ofNat (61 * (((en N 0).length + 60) / 61)) by rw [show (61 : Int32) = Int32.ofNat 61 from rfl, ← Int32.ofNat_mul], if_neg (fun hh => by have := (oN_lt (by omega) (by omega)).mp hh; omega), show (1 : Int32) = Int32.ofNat 1 from rfl]
        refine f_327 (t := 1) (by omega) (by omega) (by omega) (by omega) s1 x1 (by omega) (fun n' hn' σ2 s2 x2 f2 => ?_) (fun hn0 σ2 s2 x2 f2 => ?_)
        · rw [my_k0_v]
          have f12 := eqp_tr f1 f2
          rw [eqp_g f12 (show ¬ drF 498 83 by unfold drF; omega), eqp_g f12 (show ¬ drF 498 84 by unfold drF; omega), g83, g84, show (0 : Int32) = Int32.ofNat 0 from rfl]
          refine f_327 (t := 0) hh1 (by omega) (by omega) (by omega) s2 x2 (by omega) (fun n2 hn2 σ3 s3 x3 f3 => ?_) (fun hn0 σ3 s3 x3 f3 => ?_)
          · rw [my_k0_v, x3, if_pos (show (0 : Int32) = Int32.ofNat 0 from rfl)]
            have ed : rnD D h ep (en N 0) (nbk (en N 0) + 2) = wH h ep 0 (wH (1 - h) (nxE D h ep) 1 (wD (1 - h) (nxE D h ep) (en N 0) (nbk (en N 0)) 0 D)) := by
              unfold rnD
              rw [if_neg (by omega), if_neg (by omega)]
            have hok := rnD_ok hB (N := en N 0) (by omega) hM hkk
            have s3' : WSr (rnD D h ep (en N 0) (nbk (en N 0) + 2)) (n - (nbk (en N 0) + 2)) (w + Int32.ofNat (nbk (en N 0) + 2)) σ3 := by
              rw [ed, show n - (nbk (en N 0) + 2) = n2 by omega, show w + Int32.ofNat (nbk (en N 0) + 2) = w + Int32.ofNat (nbk (en N 0)) + 1 + 1 by rw [← oN_s, ← oN_s, ← Int32.add_assoc, ← Int32.add_assoc]]
              exact s3
            refine f_328 (M := M + 1) (by omega) hok s3'.1 (by omega) (fun σ4 l4 y83 y84 f4 => ?_)
            rw [my_k0_v]
            have l4' : LgR N [] σ4 := by rw [← lgB_R, List.append_nil]; exact l4
            refine r_284 hNW l4' (by simpa using hN7) (Or.inl (by simp)) (by omega) (fun σ5 p5 x95 f5 => ?_)
            rw [my_k0_v]
            unfold ys_319_230
            have F : eqp rnwF σ σ5 := eqp_tr (eqp_mo f tw) (eqp_tr (eqp_mo f12 dr) (eqp_tr (eqp_mo f3 dr) (eqp_tr (eqp_mo f4 (fun c k hh => Or.inr (Or.inr (Or.inl hh)))) (eqp_mo f5 (fun c k hh => Or.inr (Or.inr (Or.inr hh)))))))
            refine hQ1 (by omega) σ5 ?_ ?_ ?_ ?_ hNW hNT ?_ p5 F
            · exact WSr_o (WSr_o s3' f4 (fun c k hh => by unfold rrlF at hh; omega)) f5 (fun c k hh => by unfold plF at hh; omega)
            · exact (eqp_g f5 (by unfold plF; omega)).trans ((eqp_g f4 (by unfold rrlF; omega)).trans x3)
            · exact (eqp_g f5 (by unfold plF; omega)).trans y83
            · exact (eqp_g f5 (by unfold plF; omega)).trans y84
            · exact LgR_o l4' f5 (fun c k hh => by unfold plF at hh; omega)
          · rw [my_k0_v, x3, if_neg (by decide)]
            unfold ys_319_230
            refine hQ0 (by omega) σ3 ?_ x3 (eqp_tr (eqp_mo f tw) (eqp_tr (eqp_mo f12 dr) (eqp_mo f3 dr)))
            have en1 : n = nbk (en N 0) + 1 := by omega
            have ed : rnD D h ep (en N 0) n = wH (1 - h) (nxE D h ep) 1 (wD (1 - h) (nxE D h ep) (en N 0) (nbk (en N 0)) 0 D) := by
              unfold rnD
              rw [if_neg (by omega), if_pos en1]
            rw [ed, en1, ← oN_s, ← Int32.add_assoc]
            exact s3
        · rw [my_k0_v]
          have f12 := eqp_tr f1 f2
          refine f_327x x2 (by omega) ?_
          rw [my_k0_v, x2, if_neg (by decide)]
          unfold ys_319_230
          refine hQ0 (by omega) σ2 ?_ x2 (eqp_tr (eqp_mo f tw) (eqp_mo f12 dr))
          have en1 : n = nbk (en N 0) := by omega
          have ed : rnD D h ep (en N 0) n = wD (1 - h) (nxE D h ep) (en N 0) (nbk (en N 0)) 0 D := by
            unfold rnD
            rw [if_pos (by omega), en1]
          rw [ed, en1]
          exact s2
      · refine hQ0 (by omega) σ1 ?_ x1 (eqp_tr (eqp_mo f tw) (eqp_mo f1 dr))
        have ed : rnD D h ep (en N 0) n = wD (1 - h) (nxE D h ep) (en N 0) n 0 D := by
          unfold rnD
          rw [if_pos (by omega)]
        rw [ed]
        exact s1
    have m134 : ys_319_134 e d (Int32.ofNat (1 - h)) (Int32.ofNat (max ep (eD D (8192 * (1 - h) + 64)))) κ σ' Q := by
      unfold ys_319_134
      rw [if_neg (fun hh => by have := (oN_e1 (b := 65535) (c := 65535) rfl (by omega) (by omega)).mp hh; omega), oN_s]
      exact blk
    unfold ys_319_35
    rw [h64, if_neg (fun hh => by have := (oN_lt (by omega) (by omega)).mp hh; omega), g83, g84, e1h, show (64 : Int32) = Int32.ofNat 64 from rfl, show (65 : Int32) = Int32.ofNat 65 from rfl, em, em, oN_n (show 8192 * (1 - h) + 64 < 2147483648 by omega), oN_n (show 8192 * (1 - h) + 65 < 2147483648 by omega), show 8192 * (1 - h) + 65 = 8192 * (1 - h) + 64 + 1 from rfl, dd]
    refine ⟨bdk (by omega) (by omega), bdk (by omega) (by omega), ?_⟩
    by_cases c : ep < eD D (8192 * (1 - h) + 64)
    · rw [if_pos ((oN_lt (by omega) (by omega)).mpr c)]
      rw [Nat.max_eq_right (by omega)] at m134
      exact m134
    · rw [if_neg (fun hh => c ((oN_lt (by omega) (by omega)).mp hh))]
      rw [Nat.max_eq_left (by omega)] at m134
      exact m134
  -- newOf := -1
  have lp : ∀ (m i : Nat) (σ' : my_S), i + m = (itp E).length → NWy [] σ' → σ'.1 498 105 = 0 → (∀ i', i' < i → σ'.1 556 i' = Int32.ofInt (-1)) → eqp twF σ σ' → ys_319_12 e d v1 (Int32.ofNat i) κ σ' Q := by
    intro m
    induction m with
    | zero =>
      intro i σ' hi w0 n0 hq f
      have hP' : PrR E σ' := PrR_o hP f (fun c k hh => by have := twF_c hh; omega)
      unfold ys_319_12
      rw [hP'.1.1, if_neg (fun hh => by have := (oN_lt (by omega) (by omega)).mp hh; omega)]
      have ld' : LD As I rv σ' := LD_o (LD_30 ld) ld f (fun c k hh => by have := twF_c hh; unfold coF; omega)
      have hR' : LgR E [] σ' := LgR_o hR f (fun c k hh => by have := twF_c hh; omega)
      refine ys_319_35_ok (f_319l (σ := σ') hU ld' hW hT hR' hP' hex (by omega) (cnK As 3) 0 [] σ' (Nat.zero_add _) CPI_0 ⟨w0, n0, fun i' z hz => Or.inl (hq i' (by have := (List.getElem?_eq_some_iff.mp hz).1; omega)), fun q u hu => by simp [itp, pse] at hu⟩ eqp_rf (fun σ2 w2 f2 => ?_))
      rw [← hNN] at w2
      exact fin σ2 w2 (eqp_tr f f2)
    | succ m ih =>
      intro i σ' hi w0 n0 hq f
      have hP' : PrR E σ' := PrR_o hP f (fun c k hh => by have := twF_c hh; omega)
      unfold ys_319_12
      rw [hP'.1.1, if_pos ((oN_lt (by omega) (by omega)).mpr (by omega)), oN_n (by omega), oN_s]
      have f2 : eqp (fun c k => c = 556) σ' (my_uI σ' 556 i (Int32.ofInt (-1))) := eqp_I eqp_rf rfl
      refine ⟨bdk (by omega) (by omega), ys_319_12_ok (ih (i + 1) _ (by omega) (NWy_o w0 f2 (fun c k hh => by omega)) ((eqp_g f2 (by omega)).trans n0) (fun i' hi' => ?_) (eqp_tr f (eqp_mo f2 (fun c k hh => Or.inl (Or.inr (Or.inl hh))))))⟩
      rw [my_uI_1]
      by_cases c : i' = i
      · rw [if_pos ⟨rfl, c⟩]
      · rw [if_neg (by omega)]
        exact hq i' (by omega)
  refine ys_319 ?_
  unfold ys_319_0
  have f0 : eqp (fun c k => c = 498 ∧ (k = 104 ∨ k = 105)) σ (my_uI (my_uI σ 498 104 0) 498 105 0) := eqp_I (eqp_I eqp_rf ⟨rfl, Or.inl rfl⟩) ⟨rfl, Or.inr rfl⟩
  refine ys_319_12_ok (lp (itp E).length 0 _ (Nat.zero_add _) ⟨?_, fun i x hx => by simp at hx⟩ uI_s (fun i' hi' => by omega) (eqp_mo f0 (fun c k hh => by unfold twF rwF nyF; omega)))
  rw [my_uI_1, if_neg (by omega)]
  exact uI_s
end MRW
