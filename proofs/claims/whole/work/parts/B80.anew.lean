
/-! ===== the class makes the log anew ===== -/
/-- the disk when so many of the writes were done -/
def rnD (D : Nat → Int32) (h ep : Nat) (N : List Int32) (k : Nat) : Nat → Int32 := if k ≤ nbk N then wD (1 - h) (nxE D h ep) N k 0 D else if k = nbk N + 1 then wH (1 - h) (nxE D h ep) 1 (wD (1 - h) (nxE D h ep) N (nbk N) 0 D) else wH h ep 0 (wH (1 - h) (nxE D h ep) 1 (wD (1 - h) (nxE D h ep) N (nbk N) 0 D))
theorem aB_en : ∀ {E : List Et} {k j : Nat}, wfl E k → aB (en E j)
  | [], _, _, _ => aB_n
  | x :: r, k, j, h => by
    rw [en]
    refine aB_a ?_ (aB_en h.2)
    unfold e1 nmE ltb
    refine aB_a ?_ (aB_a (aB_a aB_bts aB_b1s) h.1.2.2.1)
    unfold eh
    split
    · exact aB_a aB_bts (aB_a aB_bts aB_bts)
    · exact aB_a aB_bts aB_bts
theorem hA2_n {h : Nat} (hh : h ≤ 1) : hA2 (1 - h) ≠ hA2 h := by
  unfold hA2
  by_cases c : h = 1
  · subst c; decide
  · have : h = 0 := by omega
    subst this; decide
def anF (h c k : Nat) : Prop := (hA2 (1 - h) ≤ c ∧ c ≤ hA2 (1 - h) + 6) ∨ c = 92 ∨ c = 93 ∨ c = 90 ∨ (c = 89 ∧ (k = 3 ∨ k = 4 ∨ k = 6 ∨ k = 7))
section MMN
variable {As : List Ri} {I : List It} {rv : Nat} {e : my_E} {d : Nat} {κ : my_K} {σ σ' : my_S} {Q : my_O → my_K → my_S → Prop} {D : Nat → Int32} {n h ep M x : Nat} {w : Int32} {B : List Int32} {E N : List Et} {ex : Int64}
/-- the tests, one by one -/
theorem c_163l (hh1 : h ≤ 1) (hU : nmU As) (ld : LD As I rv σ) (hW : LgW E) (hT : LgT E) (hC : LgC (hA2 h) E σ) (hex : ∀ t k a, t < 12 → fkA As 3 (Int32.ofNat t) As.length 0 = some k → As[k]? = some a → (nmC (riN a) = ex ↔ t = x)) (hd : 5 ≤ d) : ∀ (m t : Nat) (N : List Et) (σ' : my_S), t + m = cnK As 3 → CPI E N (tSn As t) → WX (hA2 (1 - h)) [] N σ' → eqp (cpF (hA2 (1 - h))) σ σ' → (∀ σ2, WX (hA2 (1 - h)) [] (cpA As E x m t N) σ2 → eqp (cpF (hA2 (1 - h))) σ σ2 → ys_163_88 e d (some rv) ex (Int32.ofNat h) (Int32.ofNat (1 - h)) (some (hA2 h)) (some (hA2 (1 - h))) (Int32.ofNat (cnK As 3)) κ σ2 Q) → ys_163_88 e d (some rv) ex (Int32.ofNat h) (Int32.ofNat (1 - h)) (some (hA2 h)) (some (hA2 (1 - h))) (Int32.ofNat t) κ σ' Q := by
  have hA : lg2 (hA2 (1 - h)) := hA2_l
  have hO : lg2 (hA2 h) := hA2_l
  have hne := hA2_n hh1
  have hne' : hA2 h ≠ hA2 (1 - h) := fun hh => hne hh.symm
  have a1 := hA
  have a2 := hO
  unfold lg2 at a1 a2
  have hrv := ld.2.2.1
  have hB := ld.1
  have h42 := itsB_42 hB
  have h12 : cnK As 3 ≤ 12 := hB.1 3
  intro m
  induction m with
  | zero =>
    intro t N σ' ht hI hX f hQ
    have : t = cnK As 3 := by omega
    subst this
    exact hQ σ' hX f
  | succ m ih =>
    intro t N σ' ht hI hX f hQ
    have ld' : LD As I rv σ' := LD_o (LD_30 ld) ld f (fun c k hh => by unfold cpF at hh; unfold coF; omega)
    have hC' : LgC (hA2 h) E σ' := LgC_o hC f (fun c k hh => by unfold cpF at hh; omega)
    obtain ⟨k, hk⟩ := (fkA_w (K := 3) hB (by omega) (show t < 2147483648 by omega)).1 (by omega)
    have hkl := fkA_lt hk
    have ha := List.getElem?_eq_getElem hkl
    generalize As[k] = a at ha
    obtain ⟨z2, hk42⟩ := cl_nm ld' ha
    have hin := in11 (rv := rv) (k := k) hrv hk42
    have hl := (hB.2 a (List.mem_of_getElem? ha)).2.1
    have hk' : fkA As 3 (Int32.ofNat t) As.length 0 = some k := hk
    have next : ∀ (N' : List Et) (σ2 : my_S), cp1 As E x t N = N' → WX (hA2 (1 - h)) [] N' σ2 → eqp (cpF (hA2 (1 - h))) σ σ2 → ys_163_150 e d (some rv) ex (Int32.ofNat h) (Int32.ofNat (1 - h)) (some (hA2 h)) (some (hA2 (1 - h))) (Int32.ofNat t) κ σ2 Q := by
      intro N' σ2 hN X2 f2
      unfold ys_163_150
      rw [oN_s]
      subst hN
      exact ys_163_88_ok (ih (t + 1) (cp1 As E x t N) σ2 (by omega) (cp1_ok hU hW hT (by omega) hI) X2 f2 (fun σ3 X3 f3 => hQ σ3 (by rw [cpA]; exact X3) f3))
    unfold ys_163_88
    refine ⟨rv, rfl, in10 hrv, c_196y (kd := 3) ld' (by omega) (by omega) ?_⟩
    rw [my_kI_v, if_pos ((oN_lt (by omega) (by omega)).mpr (by omega))]
    refine ⟨rv, rfl, in10 hrv, c_200 hrv ld.2.1 ld'.2.2.2.2.2.2.1.1 ld'.2.2.2.2.2.2.1.2.1 (by omega) ?_⟩
    rw [my_kA_v, hk']
    show if (some (rv + 4 + 3 * k)) = none then _ else _
    rw [if_neg (by simp)]
    refine ⟨_, rfl, hin, ?_⟩
    rw [z2]
    by_cases cx : t = x
    · rw [if_pos (lg_cmp_0.mpr ((hex t k a (by omega) hk' ha).mpr cx))]
      exact next N σ' (by unfold cp1; rw [if_pos cx]) hX f
    · rw [if_neg (fun hh => cx ((hex t k a (by omega) hk' ha).mp (lg_cmp_0.mp hh)))]
      refine ⟨_, rfl, hin, _, rfl, in8 hO, ?_⟩
      rw [z2]
      refine c_172N hO hW hC' hl (by omega) (fun hx => ?_) (fun y hy σ1 oc on f1 => ?_)
      · rw [my_kI_v, if_pos rfl]
        exact next N σ' (by unfold cp1; rw [if_neg cx, hk']; dsimp only; rw [ha]; dsimp only; rw [hx]) hX f
      · rw [my_kI_v, if_neg (by decide)]
        obtain ⟨ym, yn⟩ := lrc_m hy
        refine ⟨_, rfl, in8 hA, c_182 (S := tSn As t) hA hO hne' hW hT (LgC_o hC' f1 (fun c k hh => by unfold oF at hh; omega)) ym oc (by rw [yn]; exact on) hI (fun l hl2 => by rw [yn]; exact tSn_d hU (by omega) hk' ha l hl2) (WX_92 hA hX f1 (fun c k hh => hh)) (by omega) (fun σ2 X2 f2 => ?_)⟩
        rw [my_k0_v]
        exact next (cpR E N y.2) σ2 (by unfold cp1; rw [if_neg cx, hk']; dsimp only; rw [ha]; dsimp only; rw [hy]) X2 (eqp_tr f (eqp_tr (eqp_mo f1 (fun c k hh => by unfold cpF; unfold oF at hh; omega)) f2))
theorem c_163 (hU : nmU As) (ld : LD As I rv σ) (hW : LgW E) (hT : LgT E) (hC : LgC (hA2 h) E σ) (l3 : σ.1 89 3 = Int32.ofNat h) (l0 : σ.2.2 91 0 = some 94) (l1 : σ.2.2 91 1 = some 101) (hep : σ.1 (hA2 h) 2 = Int32.ofNat ep) (hk : DSK D h ep B M) (hM : M + 1 < 65535) (hn : n < 2147483648) (hs : WSc D n w σ) (hex : ∀ t k a, t < 12 → fkA As 3 (Int32.ofNat t) As.length 0 = some k → As[k]? = some a → (nmC (riN a) = ex ↔ t = x)) (hd : 6 ≤ d) (hNN : N = cpA As E x (cnK As 3) 0 []) (hQ1 : nbk (en N 0) + 2 ≤ n → ∀ σ', WSc (rnD D h ep (en N 0) (nbk (en N 0) + 2)) (n - (nbk (en N 0) + 2)) (w + Int32.ofNat (nbk (en N 0) + 2)) σ' → σ'.1 89 7 = σ.1 89 7 → σ'.1 89 3 = Int32.ofNat (1 - h) → LgW N → LgT N → LgC (hA2 (1 - h)) N σ' → σ'.1 (hA2 (1 - h)) 2 = Int32.ofNat (nxE D h ep) → eqp (anF h) σ σ' → Q (.inl (some (.inl 1))) κ σ') (hQ0 : n < nbk (en N 0) + 2 → ∀ σ', WSc (rnD D h ep (en N 0) n) 0 (w + Int32.ofNat n) σ' → σ'.1 89 7 = 1 → eqp (anF h) σ σ' → Q (.inl (some (.inl 0))) κ σ') : my_M e d 163 [.inr (.inr (some 89)), .inr (.inr (some rv)), .inr (.inl ex)] κ σ Q := by
  obtain ⟨d, rfl⟩ := dS 1 (show 1 ≤ d by omega)
  obtain ⟨⟨hh1, e1, e2, e3⟩, k1, k2, k3, k4, k5, k6⟩ := hk
  have hA : lg2 (hA2 (1 - h)) := hA2_l
  have hO : lg2 (hA2 h) := hA2_l
  have hne := hA2_n hh1
  have a1 := hA
  have a2 := hO
  unfold lg2 at a1 a2
  have hB := ld.1
  have hrv := ld.2.2.1
  have h12 : cnK As 3 ≤ 12 := hB.1 3
  have hNok : CPI E N (tSn As (0 + cnK As 3)) := by rw [hNN]; exact cpA_ok hU hW hT _ _ _ (by omega) CPI_0
  have hNW := CPI_W hW hNok
  have hNT := hNok.2.2.2.1
  have hNl : (en N 0).length = els N := en_l
  have hN7 := hNW.2
  have hbk : nbk (en N 0) ≤ 127 := by unfold nbk; omega
  have heN : nxE D h ep = max ep (eD D (8192 * (1 - h) + 64)) + 1 := rfl
  -- the end
  have fin : ∀ σ', WX (hA2 (1 - h)) [] N σ' → σ'.1 (hA2 (1 - h)) 2 = Int32.ofNat (nxE D h ep) → eqp (fun c k => hA2 (1 - h) ≤ c ∧ c ≤ hA2 (1 - h) + 6 ∨ c = 92 ∨ c = 93) σ σ' → ys_163_88 e d (some rv) ex (Int32.ofNat h) (Int32.ofNat (1 - h)) (some (hA2 h)) (some (hA2 (1 - h))) (Int32.ofNat (cnK As 3)) κ σ' Q := by
    intro σ' X2 g2 f
    have ld' : LD As I rv σ' := LD_o (LD_30 ld) ld f (fun c k hh => by unfold coF; omega)
    have hLC : LgC (hA2 (1 - h)) N σ' := by
      rcases X2.2 with q | q
      · exact q.2.1
      · have := q.1; omega
    have hsf : WSc D n w σ' := WSc_o hs f (fun c k hh => by omega)
    have m0 : eqp (anF h) σ σ' := eqp_mo f (fun c k hh => by unfold anF; omega)
    unfold ys_163_88
    refine ⟨rv, rfl, in10 hrv, c_196y (kd := 3) ld' (by omega) (by omega) ?_⟩
    rw [my_kI_v, if_neg (fun hh => by have := (oN_lt (by omega) (by omega)).mp hh; omega)]
    have z0 : (0 : Int32) = Int32.ofNat 0 := rfl
    have d1 : ∀ c k, dkF c k → anF h c k := fun c k hh => by unfold dkF at hh; unfold anF; omega
    have g91 : ∀ {σ2 : my_S} {i : Nat}, eqp dkF σ' σ2 → σ2.2.2 91 i = σ.2.2 91 i := fun {σ2 i} f2 => by rw [(f2 91 i (by unfold dkF; omega)).2.2, (f 91 i (by omega)).2.2]
    rw [z0]
    refine c_164 (q := 0) (ep := nxE D h ep) (B := en N 0) (D := D) (n := n) (w := w) (by omega) (by omega) (by omega) (aB_en hNW.1) hn (by omega) ((g91 eqp_rf).trans l0) ((g91 eqp_rf).trans l1) hLC.2.1 (by rw [hNl]; exact hLC.1) g2 hsf (fun hm σ1 s1 x1 f1 => ?_) (fun hm σ1 s1 x1 f1 => ?_)
    · rw [Nat.zero_div, Nat.sub_zero] at hm s1
      rw [my_kI_v, if_neg (by decide)]
      have t1 : Int32.ofNat 1 = 1 := rfl
      refine c_167 (ep := nxE D h ep) (D := wD (1 - h) (nxE D h ep) (en N 0) (nbk (en N 0)) 0 D) (t := 1) (by omega) t1.symm (by omega) (by omega) ((g91 f1).trans l0) ((g91 f1).trans l1) ((eqp_g f1 (by unfold dkF; omega)).trans g2) s1 (fun n' hn' σ2 s2 x2 f2 => ?_) (fun hn0 σ2 s2 x2 f2 => ?_)
      · rw [my_kI_v, if_neg (by decide)]
        have f3 : eqp (fun c k => c = 89 ∧ k = 3) σ2 (my_uI σ2 89 3 (Int32.ofNat (1 - h))) := eqp_I eqp_rf ⟨rfl, rfl⟩
        have g3 : (my_uI σ2 89 3 (Int32.ofNat (1 - h))).1 89 3 = Int32.ofNat (1 - h) := uI_s
        generalize my_uI σ2 89 3 (Int32.ofNat (1 - h)) = σ3 at f3 g3 ⊢
        have r91 : ∀ {i : Nat}, σ3.2.2 91 i = σ.2.2 91 i := fun {i} => by rw [(f3 91 i (by omega)).2.2]; exact g91 (eqp_tr f1 f2)
        have hep3 : σ3.1 (hA2 h) 2 = Int32.ofNat ep := by rw [eqp_g f3 (by omega), eqp_g f2 (by unfold dkF; omega), eqp_g f1 (by unfold dkF; omega), eqp_g f (by omega)]; exact hep
        have h7 : σ3.1 89 7 = σ.1 89 7 := (eqp_g f3 (by omega)).trans (x2.trans (x1.trans (eqp_g f (by omega))))
        refine c_167 (ep := ep) (t := 0) hh1 z0 (by omega) (by omega) (r91.trans l0) (r91.trans l1) hep3 (WSc_o s2 f3 (fun c k hh => by omega)) (fun n2 hn2 σ4 s4 x4 f4 => ?_) (fun hn0 σ4 s4 x4 f4 => ?_)
        · rw [my_kI_v]
          refine ⟨Or.inr rfl, hQ1 (by omega) σ4 ?_ (x4.trans h7) ((eqp_g f4 (by unfold dkF; omega)).trans g3) hNW hNT ?_ ?_ ?_⟩
          · have ed : rnD D h ep (en N 0) (nbk (en N 0) + 2) = wH h ep 0 (wH (1 - h) (nxE D h ep) 1 (wD (1 - h) (nxE D h ep) (en N 0) (nbk (en N 0)) 0 D)) := by
              unfold rnD
              rw [if_neg (by omega), if_neg (by omega)]
            rw [ed, show n - (nbk (en N 0) + 2) = n2 by omega, show w + Int32.ofNat (nbk (en N 0) + 2) = w + Int32.ofNat (nbk (en N 0)) + 1 + 1 by rw [← oN_s, ← oN_s, ← Int32.add_assoc, ← Int32.add_assoc]]
            exact s4
          · have fz : eqp (fun c _ => c = 89 ∨ c = 90) σ' σ4 := eqp_tr (eqp_mo f1 (fun c k hh => by unfold dkF at hh; omega)) (eqp_tr (eqp_mo f2 (fun c k hh => by unfold dkF at hh; omega)) (eqp_tr (eqp_mo f3 (fun c k hh => by omega)) (eqp_mo f4 (fun c k hh => by unfold dkF at hh; omega))))
            exact LgC_o hLC fz (fun c k hh => by omega)
          · rw [eqp_g f4 (by unfold dkF; omega), eqp_g f3 (by omega), eqp_g f2 (by unfold dkF; omega), eqp_g f1 (by unfold dkF; omega)]; exact g2
          · exact eqp_tr m0 (eqp_tr (eqp_mo f1 d1) (eqp_tr (eqp_mo f2 d1) (eqp_tr (eqp_mo f3 (fun c k hh => by unfold anF; omega)) (eqp_mo f4 d1))))
        · rw [my_kI_v]
          refine ⟨Or.inl rfl, hQ0 (by omega) σ4 ?_ x4 (eqp_tr m0 (eqp_tr (eqp_mo f1 d1) (eqp_tr (eqp_mo f2 d1) (eqp_tr (eqp_mo f3 (fun c k hh => by unfold anF; omega)) (eqp_mo f4 d1)))))⟩
          have en1 : n = nbk (en N 0) + 1 := by omega
          have ed : rnD D h ep (en N 0) n = wH (1 - h) (nxE D h ep) 1 (wD (1 - h) (nxE D h ep) (en N 0) (nbk (en N 0)) 0 D) := by
            unfold rnD
            rw [if_neg (by omega), if_pos en1]
          rw [ed, en1, ← oN_s, ← Int32.add_assoc]
          exact s4
      · rw [my_kI_v, if_pos (show (0 : Int32) = Int32.ofNat 0 from rfl)]
        unfold ys_163_176
        refine hQ0 (by omega) σ2 ?_ x2 (eqp_tr m0 (eqp_tr (eqp_mo f1 d1) (eqp_mo f2 d1)))
        have en1 : n = nbk (en N 0) := by omega
        have ed : rnD D h ep (en N 0) n = wD (1 - h) (nxE D h ep) (en N 0) (nbk (en N 0)) 0 D := by
          unfold rnD
          rw [if_pos (by omega), en1]
        rw [ed, en1]
        exact s2
    · rw [Nat.zero_div, Nat.sub_zero] at hm
      rw [my_kI_v, if_pos (show (0 : Int32) = Int32.ofNat 0 from rfl)]
      unfold ys_163_176
      refine hQ0 (by omega) σ1 ?_ x1 (eqp_tr m0 (eqp_mo f1 d1))
      have ed : rnD D h ep (en N 0) n = wD (1 - h) (nxE D h ep) (en N 0) n 0 D := by
        unfold rnD
        rw [if_pos (by omega)]
      rw [ed]
      exact s1
  -- the beginning
  have mid : ∀ σ', σ' = σ → ys_163_82 e d (some rv) ex (Int32.ofNat h) (Int32.ofNat (1 - h)) (some (hA2 h)) (some (hA2 (1 - h))) (Int32.ofNat (nxE D h ep)) (some (hA2 (1 - h))) κ σ' Q := by
    intro σ' hσ
    subst hσ
    unfold ys_163_82
    refine ⟨_, rfl, in8 hA, c_171 hA (by omega) (fun σ1 g2 gw g6 g9 g11 f1 => ?_)⟩
    rw [my_k0_v]
    have x0 : WX (hA2 (1 - h)) [] [] σ1 := by
      have n0 : NI (hA2 (1 - h)) (itL3 []) σ1 := ⟨g6, by decide, fun j x hx => by simp [itL3, itp, pse] at hx⟩
      have r0 : NR (hA2 (1 - h)) (rcL2 []) σ1 := ⟨g9, by decide, fun j x hx => by simp [rcL2, rcp, pse] at hx⟩
      obtain ⟨q1, q2⟩ := W_LgC (E := []) (by decide) gw n0 r0
      exact ⟨⟨[], rfl⟩, Or.inl ⟨⟨trivial, by decide⟩, q1, q2⟩⟩
    have ld1 : LD As I rv σ1 := LD_o (LD_30 ld) ld f1 (fun c k hh => by unfold stF at hh; unfold coF; omega)
    refine ys_163_88_ok (c_163l (σ := σ1) hh1 hU ld1 hW hT (LgC_o hC f1 (fun c k hh => by unfold stF at hh; omega)) hex (by omega) (cnK As 3) 0 [] σ1 (Nat.zero_add _) CPI_0 x0 eqp_rf (fun σ2 X2 f2 => ?_))
    rw [← hNN] at X2
    refine fin σ2 X2 ((eqp_g f2 (by unfold cpF; omega)).trans g2) (eqp_tr (eqp_mo f1 (fun c k hh => by unfold stF at hh; omega)) (eqp_mo f2 (fun c k hh => by unfold cpF at hh; omega)))
  have lE := eD_lt (D := D) (a := 8192 * (1 - h) + 64)
  have emx : (if Int32.ofNat ep < Int32.ofNat (eD D (8192 * (1 - h) + 64)) then Int32.ofNat (eD D (8192 * (1 - h) + 64)) else Int32.ofNat ep) = Int32.ofNat (max ep (eD D (8192 * (1 - h) + 64))) := by
    by_cases c : ep < eD D (8192 * (1 - h) + 64)
    · rw [if_pos ((oN_lt (by omega) (by omega)).mpr c), Nat.max_eq_right (by omega)]
    · rw [if_neg (fun hh => c ((oN_lt (by omega) (by omega)).mp hh)), Nat.max_eq_left (by omega)]
  have main : ys_163_13 e d (some rv) ex (Int32.ofNat h) κ σ Q := by
    unfold ys_163_13
    have e1h : (1 : Int32) - Int32.ofNat h = Int32.ofNat (1 - h) := by rw [show (1 : Int32) = Int32.ofNat 1 from rfl, oN_sub hh1]
    have lo : σ.2.2 91 h = some (hA2 h) := by
      by_cases c : h = 1
      · subst c; exact l1
      · have : h = 0 := by omega
        subst this; exact l0
    have ln : σ.2.2 91 (1 - h) = some (hA2 (1 - h)) := by
      by_cases c : h = 1
      · subst c; exact l0
      · have : h = 0 := by omega
        subst this; exact l1
    rw [e1h, oN_n (show h < 2147483648 by omega), oN_n (show 1 - h < 2147483648 by omega), lo, ln]
    refine ⟨bdk (by omega) (by omega), bdk (by omega) (by omega), _, rfl, in8 hO, ?_⟩
    refine c_12d (i := 8192 * (1 - h) + 64) hs.1 (by omega) (by rw [show (8192 : Int32) = Int32.ofNat 8192 from rfl, show (64 : Int32) = Int32.ofNat 64 from rfl, ← Int32.ofNat_mul, oN_a, Nat.mul_comm]) (by omega) ?_
    rw [my_kI_v, hep, emx, if_pos ((oN_lt1 (b := 65535) (c := 65535) rfl (by omega) (by omega)).mpr (by omega)), oN_s]
    exact mid σ rfl
  refine ys_163 ?_
  unfold ys_163_0
  rw [l3]
  by_cases c : h = 1
  · subst c
    rw [if_pos (show Int32.ofNat 1 = 1 from rfl)]
    exact main
  · have : h = 0 := by omega
    subst this
    rw [if_neg (show ¬ Int32.ofNat 0 = 1 by decide)]
    exact main
end MMN
