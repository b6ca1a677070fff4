
/-! ===== the reference: a test is placed ===== -/
def FRr (fr : Nat → Int32) (σ : my_S) : Prop := ∀ w, w < 64 → σ.1 567 w = fr w
def plG (i c k : Nat) : Prop := rmF c k ∨ (557 ≤ c ∧ c ≤ 565 ∧ k = i) ∨ (c = 566 ∧ 48 * i ≤ k ∧ k < 48 * i + 48) ∨ c = 567 ∨ (c = 498 ∧ k = 107)
/-- a slot of the reference with its run and when it is done -/
def SRf (As : List Ri) (Z : Nat → Ms) (i : Nat) (p : Sp) (σ : my_S) : Prop := SlR As i p.1 (Z p.1) σ ∧ σ.1 558 i = Int32.ofNat p.2.1 ∧ σ.1 559 i = p.2.2.1 ∧ σ.1 560 i = p.2.2.2
/-- flags of what was touched are 0 or 1; which check was looked at -/
def bck (σ : my_S) : Prop := b01 σ ∧ ∃ q, ckR q σ
theorem bck_o {F : Nat → Nat → Prop} {σ σ' : my_S} (h : bck σ) (f : eqp F σ σ') (hF : ∀ c k, F c k → c ≠ 540 ∧ (c = 498 → k ≠ 79 ∧ k ≠ 80)) : bck σ' := by
  obtain ⟨h1, q, h2, h3⟩ := h
  refine ⟨fun v hv => ?_, q, (eqp_g f (fun hh => by have := hF _ _ hh; omega)).trans h2, (eqp_g f (fun hh => by have := hF _ _ hh; omega)).trans h3⟩
  rw [eqp_g f (fun hh => by have := hF _ _ hh; omega)]
  exact h1 v hv
section MPC
variable {As : List Ri} {I : List It} {rv W : Nat} {e : my_E} {d : Nat} {κ : my_K} {σ σ' : my_S} {Q : my_O → my_K → my_S → Prop} {fr : Nat → Int32} {Z : Nat → Ms}
theorem SRf_o {F : Nat → Nat → Prop} {i : Nat} {p : Sp} (h : SRf As Z i p σ) (f : eqp F σ σ') (hB : itsB As) (hF : ∀ c k, F c k → ¬ (557 ≤ c ∧ c ≤ 565 ∧ c ≠ 561 ∧ k = i) ∧ ¬ (c = 566 ∧ 48 * i ≤ k ∧ k < 48 * i + 48)) : SRf As Z i p σ' := by
  obtain ⟨⟨a, b, c, d, e1, f1⟩, g2, g3, g4⟩ := h
  have h42 := itsB_42 hB
  have g : ∀ {q : Nat}, 557 ≤ q → q ≤ 565 → q ≠ 561 → σ'.1 q i = σ.1 q i := fun h1 h2 h3 => eqp_g f (fun hh => (hF _ _ hh).1 ⟨h1, h2, h3, rfl⟩)
  refine ⟨⟨(g (by omega) (by omega) (by omega)).trans a, (g (by omega) (by omega) (by omega)).trans b, (g (by omega) (by omega) (by omega)).trans c, fun q hq => (g (by omega) (by omega) (by omega)).trans (d q hq), (g (by omega) (by omega) (by omega)).trans e1, fun k b hb => ?_⟩, (g (by omega) (by omega) (by omega)).trans g2, (g (by omega) (by omega) (by omega)).trans g3, (g (by omega) (by omega) (by omega)).trans g4⟩
  have hk := (List.getElem?_eq_some_iff.mp hb).1
  rw [eqp_g f (fun hh => (hF _ _ hh).2 ⟨rfl, by omega, by omega⟩)]
  exact f1 k b hb
theorem f_297 {k n : Nat} {a : Ri} {s : Ms} (hL : LOf As I) (ld : LD As I rv σ) (hb : b01 σ) (ha : As[k]? = some a) (h4 : riF a = 4) (hz : ZR As I n (z0 As k) s) (hE : zE s ≠ none) (hd : 5 ≤ d) (hQ : ∀ σ', RMs As I s σ' → eqp rmF σ σ' → Q (.inl none) κ σ') : my_M e d 297 [.inr (.inr (some 498)), .inl (Int32.ofNat k)] κ σ Q := by
  obtain ⟨d, rfl⟩ := dS 1 (show 1 ≤ d by omega)
  have h61 := ld.2.2.2.2.2.2.1.2.2.2.1
  have h30 := LD_30 ld
  have hN := ld.2.2.2.2.2.2.2
  refine ys_297 ?_
  unfold ys_297_0
  refine n_298 hL hN h61 ha (by omega) hb (by omega) (fun σ1 m1 f1 => ?_)
  rw [my_k0_v]
  have hN1 : NowR I As σ1 := NowR_o (LOf_s hL).1 (LOf_s hL).2.1 h30 hN f1 (fun c k hh => by unfold rmF at hh; unfold coF; omega)
  exact ys_297_5_ok (n_297l hL h30 h61 (by omega) n (z0 As k) s σ1 hz hN1 m1 hE (fun σ2 m2 f2 => hQ σ2 m2 (eqp_tr f1 f2)))
theorem f_296 {i t k n : Nat} {a : Ri} (hL : LOf As I) (ld : LD As I rv σ) (hb : b01 σ) (hi : i < 12) (ht : t < 12) (hk : fkA As 3 (Int32.ofNat t) As.length 0 = some k) (ha : As[k]? = some a) (h4 : riF a = 4) (hz : ZR As I n (z0 As k) (Z k)) (hen : ∃ en, en < 6 ∧ zE (Z k) = some en) (hW1 : 1 ≤ W ∧ W ≤ 64) (hF : FRr fr σ) (h107 : σ.1 498 107 = Int32.ofNat i) (hd : 6 ≤ d) (hQ : ∀ σ', SRf As Z i (sp1 Z W fr k) σ' → σ'.1 561 i = 0 → FRr (spF Z W fr k) σ' → σ'.1 498 107 = Int32.ofNat (i + 1) → bck σ' → eqp (plG i) σ σ' → Q (.inl none) κ σ') : my_M e d 296 [.inr (.inr (some 498)), .inl (Int32.ofNat t), .inl (Int32.ofNat W)] κ σ Q := by
  obtain ⟨d, rfl⟩ := dS 1 (show 1 ≤ d by omega)
  have hB := ld.1
  have h42 := itsB_42 hB
  obtain ⟨en, hen6, hen⟩ := hen
  have hnt : nmk As k = t := by
    obtain ⟨_, _, _, n1⟩ := fkA_n hk
    have := (nmk_b hB (List.getElem?_eq_some_iff.mp ha).1).1
    exact (oN_e (by omega) (by omega)).mp n1
  refine ys_296 ?_
  unfold ys_296_0
  have hw := wmn_l (fr := fr) (m := W - 1)
  -- after the worker is known
  have fin : ys_296_5 e d (Int32.ofNat t) (Int32.ofNat W) (Int32.ofNat (wmn fr (W - 1))) (Int32.ofNat (W - 1 + 1)) κ σ Q := by
    unfold sp1 spF at hQ
    generalize wmn fr (W - 1) = w at hw hQ ⊢
    unfold ys_296_5
    rw [if_neg (fun hh => by have := (oN_lt (by omega) (by omega)).mp hh; omega), show (3 : Int32) = Int32.ofNat 3 from rfl]
    refine r_281 hB (fun k a ha => (ld.2.2.2.2.2.2.2.2.1 k a ha).1) ld.2.2.2.2.2.2.2.2.2.1 (by omega) (by omega) ?_
    rw [my_kI_v, show Int32.ofNat 3 = 3 from rfl, hk]
    show my_M e d 297 [.inr (.inr (some 498)), .inl (Int32.ofNat k)] κ σ _
    refine f_297 hL ld hb ha h4 hz (by rw [hen]; simp) (by omega) (fun σ6 rm f6 => ?_)
    rw [my_k0_v]
    obtain ⟨_, _, _, _, _, _, ⟨q71, q72⟩, q81, q82, q83, q84, q85⟩ := rm
    have g107 : σ6.1 498 107 = Int32.ofNat i := (eqp_g f6 (by unfold rmF; omega)).trans h107
    have gF : σ6.1 567 w = fr w := (eqp_g f6 (by unfold rmF; omega)).trans (hF w (by omega))
    have g78 : σ6.1 498 78 = enI (zE (Z k)) := by rw [hen]; exact q83 en hen
    have g49 : σ6.1 498 49 = Int32.ofNat As.length := (eqp_g f6 (by unfold rmF; omega)).trans ld.2.2.2.2.2.2.2.2.2.1
    have bi := bdk (k := i) (m := 12) hi (by omega)
    have bw := bdk (k := w) (m := 64) (by omega) (by omega)
    rw [g107, oN_n (show i < 2147483648 by omega), oN_n (show w < 2147483648 by omega), gF, q81, g78, q85]
    refine ⟨bi, bi, bw, bi, bw, bw, bw, bi, bi, bi, bi, bi, bi, ?_⟩
    rw [show (my_uI (my_uI (my_uI (my_uI σ6 557 i (Int32.ofNat t)) 558 i (Int32.ofNat w)) 559 i (fr w)) 567 w (fr w + Int32.ofNat (zF (Z k)) + 1)).1 567 w = fr w + Int32.ofNat (zF (Z k)) + 1 from uI_s]
    have fA : eqp (fun c k => (557 ≤ c ∧ c ≤ 565 ∧ k = i) ∨ c = 567) σ6 (my_uI (my_uI (my_uI (my_uI (my_uI (my_uI (my_uI (my_uI (my_uI (my_uI σ6 557 i (Int32.ofNat t)) 558 i (Int32.ofNat w)) 559 i (fr w)) 567 w (fr w + Int32.ofNat (zF (Z k)) + 1)) 560 i (fr w + Int32.ofNat (zF (Z k)) + 1)) 561 i 0) 562 i (enI (zE (Z k)))) 563 i (Int32.ofNat (zF (Z k)))) 564 i (σ6.1 498 79)) 565 i (ckI (zk (Z k)))) := by
      refine eqp_I (eqp_I (eqp_I (eqp_I (eqp_I (eqp_I (eqp_I (eqp_I (eqp_I (eqp_I eqp_rf ?_) ?_) ?_) ?_) ?_) ?_) ?_) ?_) ?_) ?_ <;> omega
    have v57 : (my_uI (my_uI (my_uI (my_uI (my_uI (my_uI (my_uI (my_uI (my_uI (my_uI σ6 557 i (Int32.ofNat t)) 558 i (Int32.ofNat w)) 559 i (fr w)) 567 w (fr w + Int32.ofNat (zF (Z k)) + 1)) 560 i (fr w + Int32.ofNat (zF (Z k)) + 1)) 561 i 0) 562 i (enI (zE (Z k)))) 563 i (Int32.ofNat (zF (Z k)))) 564 i (σ6.1 498 79)) 565 i (ckI (zk (Z k)))).1 557 i = Int32.ofNat t := by simp [my_uI_1]
    have v58 : (my_uI (my_uI (my_uI (my_uI (my_uI (my_uI (my_uI (my_uI (my_uI (my_uI σ6 557 i (Int32.ofNat t)) 558 i (Int32.ofNat w)) 559 i (fr w)) 567 w (fr w + Int32.ofNat (zF (Z k)) + 1)) 560 i (fr w + Int32.ofNat (zF (Z k)) + 1)) 561 i 0) 562 i (enI (zE (Z k)))) 563 i (Int32.ofNat (zF (Z k)))) 564 i (σ6.1 498 79)) 565 i (ckI (zk (Z k)))).1 558 i = Int32.ofNat w := by simp [my_uI_1]
    have v59 : (my_uI (my_uI (my_uI (my_uI (my_uI (my_uI (my_uI (my_uI (my_uI (my_uI σ6 557 i (Int32.ofNat t)) 558 i (Int32.ofNat w)) 559 i (fr w)) 567 w (fr w + Int32.ofNat (zF (Z k)) + 1)) 560 i (fr w + Int32.ofNat (zF (Z k)) + 1)) 561 i 0) 562 i (enI (zE (Z k)))) 563 i (Int32.ofNat (zF (Z k)))) 564 i (σ6.1 498 79)) 565 i (ckI (zk (Z k)))).1 559 i = fr w := by simp [my_uI_1]
    have v60 : (my_uI (my_uI (my_uI (my_uI (my_uI (my_uI (my_uI (my_uI (my_uI (my_uI σ6 557 i (Int32.ofNat t)) 558 i (Int32.ofNat w)) 559 i (fr w)) 567 w (fr w + Int32.ofNat (zF (Z k)) + 1)) 560 i (fr w + Int32.ofNat (zF (Z k)) + 1)) 561 i 0) 562 i (enI (zE (Z k)))) 563 i (Int32.ofNat (zF (Z k)))) 564 i (σ6.1 498 79)) 565 i (ckI (zk (Z k)))).1 560 i = fr w + Int32.ofNat (zF (Z k)) + 1 := by simp [my_uI_1]
    have v61 : (my_uI (my_uI (my_uI (my_uI (my_uI (my_uI (my_uI (my_uI (my_uI (my_uI σ6 557 i (Int32.ofNat t)) 558 i (Int32.ofNat w)) 559 i (fr w)) 567 w (fr w + Int32.ofNat (zF (Z k)) + 1)) 560 i (fr w + Int32.ofNat (zF (Z k)) + 1)) 561 i 0) 562 i (enI (zE (Z k)))) 563 i (Int32.ofNat (zF (Z k)))) 564 i (σ6.1 498 79)) 565 i (ckI (zk (Z k)))).1 561 i = 0 := by simp [my_uI_1]
    have v62 : (my_uI (my_uI (my_uI (my_uI (my_uI (my_uI (my_uI (my_uI (my_uI (my_uI σ6 557 i (Int32.ofNat t)) 558 i (Int32.ofNat w)) 559 i (fr w)) 567 w (fr w + Int32.ofNat (zF (Z k)) + 1)) 560 i (fr w + Int32.ofNat (zF (Z k)) + 1)) 561 i 0) 562 i (enI (zE (Z k)))) 563 i (Int32.ofNat (zF (Z k)))) 564 i (σ6.1 498 79)) 565 i (ckI (zk (Z k)))).1 562 i = enI (zE (Z k)) := by simp [my_uI_1]
    have v63 : (my_uI (my_uI (my_uI (my_uI (my_uI (my_uI (my_uI (my_uI (my_uI (my_uI σ6 557 i (Int32.ofNat t)) 558 i (Int32.ofNat w)) 559 i (fr w)) 567 w (fr w + Int32.ofNat (zF (Z k)) + 1)) 560 i (fr w + Int32.ofNat (zF (Z k)) + 1)) 561 i 0) 562 i (enI (zE (Z k)))) 563 i (Int32.ofNat (zF (Z k)))) 564 i (σ6.1 498 79)) 565 i (ckI (zk (Z k)))).1 563 i = Int32.ofNat (zF (Z k)) := by simp [my_uI_1]
    have v64 : (my_uI (my_uI (my_uI (my_uI (my_uI (my_uI (my_uI (my_uI (my_uI (my_uI σ6 557 i (Int32.ofNat t)) 558 i (Int32.ofNat w)) 559 i (fr w)) 567 w (fr w + Int32.ofNat (zF (Z k)) + 1)) 560 i (fr w + Int32.ofNat (zF (Z k)) + 1)) 561 i 0) 562 i (enI (zE (Z k)))) 563 i (Int32.ofNat (zF (Z k)))) 564 i (σ6.1 498 79)) 565 i (ckI (zk (Z k)))).1 564 i = σ6.1 498 79 := by simp [my_uI_1]
    have v65 : (my_uI (my_uI (my_uI (my_uI (my_uI (my_uI (my_uI (my_uI (my_uI (my_uI σ6 557 i (Int32.ofNat t)) 558 i (Int32.ofNat w)) 559 i (fr w)) 567 w (fr w + Int32.ofNat (zF (Z k)) + 1)) 560 i (fr w + Int32.ofNat (zF (Z k)) + 1)) 561 i 0) 562 i (enI (zE (Z k)))) 563 i (Int32.ofNat (zF (Z k)))) 564 i (σ6.1 498 79)) 565 i (ckI (zk (Z k)))).1 565 i = ckI (zk (Z k)) := uI_s
    have vF : ∀ v, v < 64 → (my_uI (my_uI (my_uI (my_uI (my_uI (my_uI (my_uI (my_uI (my_uI (my_uI σ6 557 i (Int32.ofNat t)) 558 i (Int32.ofNat w)) 559 i (fr w)) 567 w (fr w + Int32.ofNat (zF (Z k)) + 1)) 560 i (fr w + Int32.ofNat (zF (Z k)) + 1)) 561 i 0) 562 i (enI (zE (Z k)))) 563 i (Int32.ofNat (zF (Z k)))) 564 i (σ6.1 498 79)) 565 i (ckI (zk (Z k)))).1 567 v = if v = w then fr w + Int32.ofNat (zF (Z k)) + 1 else fr v := fun v hv => by
      have : σ6.1 567 v = fr v := (eqp_g f6 (by unfold rmF; omega)).trans (hF v hv)
      simp [my_uI_1, this]
    generalize my_uI (my_uI (my_uI (my_uI (my_uI (my_uI (my_uI (my_uI (my_uI (my_uI σ6 557 i (Int32.ofNat t)) 558 i (Int32.ofNat w)) 559 i (fr w)) 567 w (fr w + Int32.ofNat (zF (Z k)) + 1)) 560 i (fr w + Int32.ofNat (zF (Z k)) + 1)) 561 i 0) 562 i (enI (zE (Z k)))) 563 i (Int32.ofNat (zF (Z k)))) 564 i (σ6.1 498 79)) 565 i (ckI (zk (Z k))) = σ7 at fA v57 v58 v59 v60 v61 v62 v63 v64 v65 vF ⊢
    have u107 : σ7.1 498 107 = Int32.ofNat i := (eqp_g fA (by omega)).trans g107
    have u49 : σ7.1 498 49 = Int32.ofNat As.length := (eqp_g fA (by omega)).trans g49
    have u540 : ∀ {v : Nat}, σ7.1 540 v = σ6.1 540 v := fun {v} => eqp_g fA (by omega)
    have lp : ∀ (m v : Nat) (σ' : my_S), v + m = 48 → (∀ j b, j < v → As[j]? = some b → σ'.1 566 (48 * i + j) = if zt (Z k) (kdf (riF b)) (nmk As j) = true then 1 else 0) → eqp (fun c q => c = 566 ∧ 48 * i ≤ q ∧ q < 48 * i + 48) σ7 σ' → ys_296_184 e d (Int32.ofNat v) κ σ' Q := by
      intro m
      induction m with
      | zero =>
        intro v σ' hv hs f
        have : v = 48 := by omega
        subst this
        unfold ys_296_184
        rw [if_neg (show ¬ Int32.ofNat 48 < 48 by decide), eqp_g f (show ¬ (498 = 566 ∧ _) by omega), u107, oN_s]
        have f8 : eqp (fun c q => c = 498 ∧ q = 107) σ' (my_uI σ' 498 107 (Int32.ofNat (i + 1))) := eqp_I eqp_rf ⟨rfl, rfl⟩
        have o : ∀ {c q : Nat}, 557 ≤ c → c ≤ 567 → c ≠ 566 → (my_uI σ' 498 107 (Int32.ofNat (i + 1))).1 c q = σ7.1 c q := fun h1 h2 h3 => (eqp_g f8 (by omega)).trans (eqp_g f (by omega))
        refine hQ _ ⟨⟨?_, ?_, ?_, fun c hc => ?_, ?_, fun j b hj => ?_⟩, ?_, ?_, ?_⟩ ?_ (fun v hv => ?_) uI_s ⟨fun v hv => ?_, zk (Z k), ?_, ?_⟩ ?_
        · show _ = Int32.ofNat (nmk As k)
          rw [o (by omega) (by omega) (by omega), v57, hnt]
        · exact (o (by omega) (by omega) (by omega)).trans v62
        · exact (o (by omega) (by omega) (by omega)).trans v63
        · have hc' : zk (Z k) = some c := hc
          rw [o (by omega) (by omega) (by omega), v64, q84, hc']
        · exact (o (by omega) (by omega) (by omega)).trans v65
        · have hjl := (List.getElem?_eq_some_iff.mp hj).1
          rw [eqp_g f8 (by omega)]
          exact hs j b (by omega) hj
        · exact (o (by omega) (by omega) (by omega)).trans v58
        · exact (o (by omega) (by omega) (by omega)).trans v59
        · exact (o (by omega) (by omega) (by omega)).trans v60
        · exact (o (by omega) (by omega) (by omega)).trans v61
        · exact (o (by omega) (by omega) (by omega)).trans (vF v hv)
        · rw [eqp_g f8 (by omega), eqp_g f (by omega), u540]
          exact q72 v hv
        · rw [eqp_g f8 (by omega), eqp_g f (by omega), eqp_g fA (by omega)]
          exact q84
        · rw [eqp_g f8 (by omega), eqp_g f (by omega), eqp_g fA (by omega)]
          exact q85
        · exact eqp_tr (eqp_mo f6 (fun c q hh => Or.inl hh)) (eqp_tr (eqp_mo fA (fun c q hh => by unfold plG; omega)) (eqp_tr (eqp_mo f (fun c q hh => by unfold plG; omega)) (eqp_mo f8 (fun c q hh => by unfold plG; omega))))
      | succ m ih =>
        intro v σ' hv hs f
        unfold ys_296_184
        have g540 : σ'.1 540 v = σ6.1 540 v := (eqp_g f (by omega)).trans u540
        have put : ∀ x : Int32, (x = 0 ∨ x = 1) → (∀ b, As[v]? = some b → x = if zt (Z k) (kdf (riF b)) (nmk As v) = true then 1 else 0) → ys_296_229 e d (Int32.ofNat v) x (48 * Int32.ofNat i + Int32.ofNat v) κ σ' Q := by
          intro x hx hxb
          unfold ys_296_229
          rw [show (48 : Int32) * Int32.ofNat i + Int32.ofNat v = Int32.ofNat (48 * i + v) by rw [show (48 : Int32) = Int32.ofNat 48 from rfl, ← Int32.ofNat_mul, oN_a], oN_n (by omega), oN_s]
          refine ⟨hx, bdk (by omega) (by omega), ys_296_184_ok (ih (v + 1) _ (by omega) (fun j b hj hb => ?_) (eqp_I f ⟨rfl, by omega, by omega⟩))⟩
          rw [my_uI_1]
          by_cases c : j = v
          · subst c
            rw [if_pos ⟨rfl, rfl⟩]
            exact hxb b hb
          · rw [if_neg (by omega)]
            exact hs j b (by omega) hb
        rw [if_pos ((oN_lt1 (b := 48) (c := 48) rfl (by omega) (by omega)).mpr (by omega)), eqp_g f (show ¬ (498 = 566 ∧ _) by omega), eqp_g f (show ¬ (498 = 566 ∧ _) by omega), u49, u107, oN_n (show v < 2147483648 by omega), g540]
        by_cases c : v < As.length
        · have hbv := List.getElem?_eq_getElem c
          rw [if_pos ((oN_lt (by omega) (by omega)).mpr c), q71 v _ hbv]
          refine ⟨bdk (by omega) (by omega), ?_⟩
          by_cases cz : zt (Z k) (kdf (riF As[v])) (nmk As v) = true
          · rw [if_pos cz, if_neg (by decide)]
            exact put 1 (Or.inr rfl) (fun b hb => by rw [hbv] at hb; cases hb; rw [if_pos cz])
          · rw [if_neg cz, if_pos rfl]
            unfold ys_296_228
            exact put 0 (Or.inl rfl) (fun b hb => by rw [hbv] at hb; cases hb; rw [if_neg cz])
        · rw [if_neg (fun hh => c ((oN_lt (by omega) (by omega)).mp hh))]
          unfold ys_296_228
          exact put 0 (Or.inl rfl) (fun b hb => absurd (List.getElem?_eq_some_iff.mp hb).1 c)
    exact ys_296_184_ok (lp 48 0 σ7 (by omega) (fun j b hj => by omega) eqp_rf)
  have lp : ∀ (m j : Nat), j + m = W - 1 → ys_296_5 e d (Int32.ofNat t) (Int32.ofNat W) (Int32.ofNat (wmn fr j)) (Int32.ofNat (j + 1)) κ σ Q := by
    intro m
    induction m with
    | zero =>
      intro j hj
      have : j = W - 1 := by omega
      subst this
      exact fin
    | succ m ih =>
      intro j hj
      have hwj := wmn_l (fr := fr) (m := j)
      have key := ih (j + 1) (by omega)
      unfold wmn at key
      unfold ys_296_5
      rw [if_pos ((oN_lt (by omega) (by omega)).mpr (by omega)), oN_n (by omega), oN_n (by omega), hF _ (by omega), hF _ (by omega)]
      refine ⟨bdk (by omega) (by omega), bdk (by omega) (by omega), ?_⟩
      unfold ys_296_33
      rw [oN_s]
      by_cases c : fr (j + 1) < fr (wmn fr j)
      · rw [if_pos c] at key ⊢
        exact ys_296_5_ok key
      · rw [if_neg c] at key ⊢
        exact ys_296_5_ok key
  exact ys_296_5_ok (lp (W - 1) 0 (Nat.zero_add _))
end MPC
