
/-! ===== the class: enterTouched ===== -/
theorem adM_a {As : List Ri} {I : List It} : ∀ {k1 k2 : List Nat} {E : List Et}, adM As I (k1 ++ k2) E = ((adM As I k2 (adM As I k1 E).1).1, (adM As I k1 E).2 ++ (adM As I k2 (adM As I k1 E).1).2)
  | [], k2, E => rfl
  | k :: k1, k2, E => by rw [List.cons_append, adM, adM_a, adM]; rfl
theorem adM_g {As : List Ri} {I : List It} : ∀ {ks : List Nat} {E : List Et}, els E ≤ els (adM As I ks E).1
  | [], _ => Nat.le_refl _
  | k :: r, E => by
    rw [adM]
    obtain ⟨F, hF⟩ := adE_p (E := E) (nm := eN (itE As I k)) (X := eC (itE As I k))
    have h1 : els E ≤ els (adK As I E k).1 := by unfold adK; rw [hF, els_a]; omega
    exact Nat.le_trans h1 adM_g
/-- a slot, as the class has it -/
def SlC (rv a kt : Nat) (s : Ms) (σ : my_S) : Prop := my_in 6 a ∧ σ.2.2 a 0 = some (rv + 4 + 3 * kt) ∧ σ.1 a 7 = enI (zE s) ∧ σ.1 a 8 = Int32.ofNat (zF s) ∧ σ.2.2 a 9 = (zk s).map (fun c => rv + 4 + 3 * c.1) ∧ σ.1 a 10 = ckI (zk s) ∧ ∀ kd n, kd < 3 → n < 32 → tstb (σ.1 (a + 1) kd) n = zt s kd n
def OcT (ws : List Int32) (σ : my_S) : Prop := σ.1 92 7 = Int32.ofNat ws.length ∧ ∀ (j : Nat) w, ws[j]? = some w → σ.1 93 j = w
def ctF (A c k : Nat) : Prop := wlF A c k ∨ (c = 92 ∧ k = 7) ∨ c = 93
section MCT
variable {As : List Ri} {I : List It} {rv A a kt : Nat} {e : my_E} {d : Nat} {κ : my_K} {σ σ' : my_S} {Q : my_O → my_K → my_S → Prop} {E E' : List Et} {s : Ms}
theorem c_196y {kd : Nat} (h : LD As I rv σ) (hk : kd < 4) (hd : 1 ≤ d) (hQ : Q (.inl (some (.inl (Int32.ofNat (cnK As kd))))) κ σ) : my_M e d 196 [.inr (.inr (some rv)), .inl (Int32.ofNat kd)] κ σ Q := by
  obtain ⟨d, rfl⟩ := dS 1 hd
  refine ys_196 (in10 h.2.2.1) ?_
  unfold ys_196_0 ys_196_23
  rw [if_neg (oN_0 (by omega)), if_pos ((oN_lt1 (b := 4) (c := 4) rfl (by omega) (by omega)).mpr hk), oN_n (by omega), h.2.2.2.2.2.2.1.2.1.2 kd hk, ← cnK_F]
  exact ⟨bdk (by omega) (by omega), hQ⟩
theorem c_152 {kd n : Nat} (hS : SlC rv a kt s σ) (hk : kd < 3) (hn : n < 32) (hd : 1 ≤ d) (hQ : Q (.inl (some (.inl (bI (zt s kd n))))) κ σ) : my_M e d 152 [.inr (.inr (some a)), .inl (Int32.ofNat kd), .inl (Int32.ofNat n)] κ σ Q := by
  obtain ⟨d, rfl⟩ := dS 1 hd
  have ht := hS.2.2.2.2.2.2 kd n hk hn
  refine ys_152 hS.1 ?_
  unfold ys_152_0
  rw [if_neg (oN_0 (by omega)), if_pos ((oN_lt1 (b := 3) (c := 3) rfl (by omega) (by omega)).mpr hk), oN_n (p := kd) (by omega)]
  refine ⟨bdk (by omega) (by omega), my_if (fun c => ?_) (fun c => ?_)⟩
  · have := (tst_and hn).mp c
    rw [ht] at this
    rw [this] at hQ
    unfold ys_152_30 ys_152_31
    exact ⟨Or.inl rfl, hQ⟩
  · have : ¬ tstb (σ.1 (a + 1) kd) n = false := fun hh => c ((tst_and hn).mpr hh)
    rw [ht] at this
    rw [show zt s kd n = true by simpa using this] at hQ
    unfold ys_152_31
    exact ⟨Or.inr rfl, hQ⟩
theorem SlC_o {F : Nat → Nat → Prop} (h : SlC rv a kt s σ) (f : eqp F σ σ') (hF : ∀ c k, F c k → c ≠ a ∧ c ≠ a + 1) : SlC rv a kt s σ' := by
  obtain ⟨h0, h1, h2, h3, h4, h5, h6⟩ := h
  have g : ∀ {k : Nat}, σ'.1 a k = σ.1 a k := eqp_g f (fun hh => (hF _ _ hh).1 rfl)
  have g2 : ∀ {k : Nat}, σ'.2.2 a k = σ.2.2 a k := (f _ _ (fun hh => (hF _ _ hh).1 rfl)).2.2
  exact ⟨h0, g2.trans h1, g.trans h2, g.trans h3, g2.trans h4, g.trans h5, fun kd n hk hn => by rw [eqp_g f (fun hh => (hF _ _ hh).2 rfl)]; exact h6 kd n hk hn⟩
theorem c_162l {kd : Nat} (hA : lg2 A) (hU : nmU As) (hkd : kd ≤ 2) (ha : 65 ≤ a ∧ a < 88) (h0 : LD As I rv σ) (hS : SlC rv a kt s σ) (hd : 3 ≤ d) : ∀ (m n : Nat) (E1 : List Et) (ws : List Int32) (σ' : my_S), n + m = cnK As kd → ws.length + m ≤ 30 → WX A E E1 σ' → OcT ws σ' → eqp (ctF A) σ σ' → (∀ σ2 ws2, WX A E (adM As I (tl2 As s kd m n) E1).1 σ2 → OcT ws2 σ2 → ws2.length = ws.length + (tl2 As s kd m n).length → (els (adM As I (tl2 As s kd m n) E1).1 ≤ 7747 → ws2 = ws ++ (adM As I (tl2 As s kd m n) E1).2.map Int32.ofNat) → eqp (ctF A) σ σ2 → ys_162_11 e d (some A) (some rv) (some a) (Int32.ofNat (kd + 1)) κ σ2 Q) → ys_162_20 e d (some A) (some rv) (some a) (Int32.ofNat kd) (Int32.ofNat n) κ σ' Q := by
  have hB := h0.1
  have h42 := itsB_42 hB
  have hc := hB.1 kd
  have hcm := mst_16 kd
  have hrv := h0.2.2.1
  have hA' := hA
  unfold lg2 at hA'
  have cx : ∀ c k, ctF A c k → (c = A ∨ (A + 1 ≤ c ∧ c ≤ A + 4)) ∨ c = 92 ∨ c = 93 := fun c k hh => by unfold ctF wlF at hh; omega
  intro m
  induction m with
  | zero =>
    intro n E1 ws σ' hn hw hX hO f hQ
    have ld : LD As I rv σ' := LD_o (LD_30 h0) h0 f (fun c k hh => by have := cx c k hh; unfold coF; omega)
    unfold ys_162_20
    refine ⟨rv, rfl, in10 hrv, c_196y ld (by omega) (by omega) ?_⟩
    rw [my_kI_v, if_neg (by rw [oN_lt (by omega) (by omega)]; omega), oN_s]
    exact ys_162_11_ok (hQ σ' ws hX hO rfl (fun _ => (List.append_nil _).symm) f)
  | succ m ih =>
    intro n E1 ws σ' hn hw hX hO f hQ
    have ld : LD As I rv σ' := LD_o (LD_30 h0) h0 f (fun c k hh => by have := cx c k hh; unfold coF; omega)
    have sl : SlC rv a kt s σ' := SlC_o hS f (fun c k hh => by have := cx c k hh; omega)
    have hlt : n < cnK As kd := by omega
    obtain ⟨k, hk⟩ := (fkA_w (K := kd) hB (by omega) (show n < 2147483648 by omega)).1 hlt
    have hkl := fkA_lt hk
    have ht1 : tl1 As s kd n = if zt s kd n = true then [k] else [] := by unfold tl1; rw [hk]
    rw [tl2, ht1] at hQ
    have hin := in11 (rv := rv) (k := k) hrv (by omega)
    unfold ys_162_20
    refine ⟨rv, rfl, in10 hrv, c_196y ld (by omega) (by omega) ?_⟩
    rw [my_kI_v, if_pos ((oN_lt (by omega) (by omega)).mpr hlt)]
    refine ⟨a, rfl, hS.1, c_152 sl (by omega) (by omega) (by omega) ?_⟩
    rw [my_kI_v]
    by_cases c : zt s kd n = true
    · rw [if_pos c] at hQ
      rw [c, if_neg (by decide)]
      refine ⟨rv, rfl, in10 hrv, c_200 hrv h0.2.1 ld.2.2.2.2.2.2.1.1 ld.2.2.2.2.2.2.1.2.1 (by omega) ?_⟩
      rw [my_kA_v, hk]
      unfold ys_162_54
      show if (some (rv + 4 + 3 * k)) = none then _ else _
      rw [if_neg (by simp)]
      refine ⟨_, rfl, hin, rv, rfl, in10 hrv, _, rfl, hin, _, rfl, hin, A, rfl, in8 hA, c_177k hA hU ld hX hkl (by omega) (fun σ1 x x1 x2 f1 => ?_)⟩
      rw [my_kI_v]
      obtain ⟨d, rfl⟩ := dS 1 (show 1 ≤ d by omega)
      have o1 : σ1.1 92 7 = Int32.ofNat ws.length := (eqp_g f1 (by unfold wlF; omega)).trans hO.1
      refine ys_189 ?_
      unfold ys_189_0 ys_189_39
      rw [o1, if_neg (oN_0 (by omega)), if_pos ((oN_lt1 (b := 30) (c := 30) rfl (by omega) (by omega)).mpr (by omega)), oN_n (by omega), oN_s]
      refine ⟨bdk (by omega) (by omega), ?_⟩
      rw [my_k0_v]
      have f2 : eqp (fun c k => (c = 92 ∧ k = 7) ∨ c = 93) σ1 (my_uI (my_uI σ1 93 ws.length x) 92 7 (Int32.ofNat (ws.length + 1))) := eqp_I (eqp_I eqp_rf (Or.inr rfl)) (Or.inl ⟨rfl, rfl⟩)
      have o2 : OcT (ws ++ [x]) (my_uI (my_uI σ1 93 ws.length x) 92 7 (Int32.ofNat (ws.length + 1))) := by
        refine ⟨by rw [uI_s, List.length_append]; rfl, fun j w hj => ?_⟩
        rw [my_uI_1, if_neg (by omega), my_uI_1]
        rcases gA hj with ⟨q1, q2⟩ | ⟨q1, q2⟩
        · rw [if_neg (by omega), eqp_g f1 (by unfold wlF; omega)]; exact hO.2 j w q2
        · rw [if_pos ⟨rfl, q1⟩, q2]
      generalize my_uI (my_uI σ1 93 ws.length x) 92 7 (Int32.ofNat (ws.length + 1)) = σ2 at f2 o2 ⊢
      have x3 : WX A E (adK As I E1 k).1 σ2 := by
        obtain ⟨w1, w2⟩ := x1
        refine ⟨w1, ?_⟩
        rcases w2 with ⟨p1, p2, p3⟩ | ⟨p0, B, L, R, b1, b2, b3, b4, b5, b6, b7, b8⟩
        · exact Or.inl ⟨p1, LgC_o p2 f2 (fun c k hh => by omega), (eqp_g f2 (by omega)).trans p3⟩
        · exact Or.inr ⟨p0, B, L, R, b1, WB_o b2 f2 (fun c k hh => by unfold wbF; omega), NI_o b3 f2 (fun c k hh => by omega), b4, NR_o b5 f2 (fun c k hh => by omega), b6, b7, b8⟩
      unfold ys_162_91
      rw [oN_s]
      have f02 : eqp (ctF A) σ σ2 := eqp_tr f (eqp_tr (eqp_mo f1 (fun c k hh => Or.inl hh)) (eqp_mo f2 (fun c k hh => Or.inr hh)))
      refine ys_162_20_ok (ih (n + 1) (adK As I E1 k).1 (ws ++ [x]) σ2 (by omega) (by rw [List.length_append, List.length_singleton]; omega) x3 o2 f02 (fun σ3 ws3 y1 y2 y3 y4 f3 => ?_))
      rw [List.singleton_append, adM] at hQ
      refine hQ σ3 ws3 y1 y2 ?_ (fun hh => ?_) f3
      · rw [y3, List.length_append, List.length_singleton, List.length_cons]; omega
      · have hg := adM_g (As := As) (I := I) (ks := tl2 As s kd m (n + 1)) (E := (adK As I E1 k).1)
        rw [y4 hh, x2 (Nat.le_trans hg hh), List.append_assoc, List.map_cons]
        rfl
    · have c2 : zt s kd n = false := by simpa using c
      rw [if_neg c, List.nil_append] at hQ
      rw [c2, if_pos (show bI false = 0 from rfl)]
      unfold ys_162_54 ys_162_91
      rw [if_pos rfl, oN_s]
      exact ys_162_20_ok (ih (n + 1) E1 ws σ' (by omega) (by omega) hX hO f hQ)
end MCT
