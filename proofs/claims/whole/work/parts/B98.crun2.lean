
/-! ===== the class: run ===== -/
/-- between the calls -/
def DKC (D : Nat → Int32) (h ep : Nat) (E : List Et) (w : Int32) (σ : my_S) : Prop := DC D σ ∧ LgC (hA2 h) E σ ∧ σ.1 89 3 = Int32.ofNat h ∧ σ.1 (hA2 h) 2 = Int32.ofNat ep ∧ σ.2.2 91 0 = some 94 ∧ σ.2.2 91 1 = some 101 ∧ σ.1 89 4 = w
def DKR (D : Nat → Int32) (h ep : Nat) (E : List Et) (w : Int32) (σ : my_S) : Prop := DR D σ ∧ LgR E [] σ ∧ σ.1 498 83 = Int32.ofNat h ∧ σ.1 498 84 = Int32.ofNat ep ∧ σ.1 498 87 = w
def DKP (D : Nat → Int32) (h ep : Nat) (E : List Et) (M : Nat) : Prop := DSK D h ep (en E 0) M ∧ LgW E ∧ LgT E
abbrev Fs5 := (Nat → Int32) × Nat × Nat × List Et × Int32
/-- what there is after a run: no crash, or what the crash left is read again -/
def fnS (As : List Ri) (S : KSt) (cr : Bool) (h ep : Nat) (E : List Et) (T : List Int32) : Fs5 := if cr = false then (kD S, kH S, kP S, kL S, kW S) else if T = [] then (kD S, h, ep, E, kW S) else (rnD (kD S) h ep (en (cpA As E 1000 (cnK As 3) 0 []) 0) (nbk (en (cpA As E 1000 (cnK As 3) 0 []) 0) + 2), 1 - h, nxE (kD S) h ep, cpA As E 1000 (cnK As 3) 0 [], kW S + Int32.ofNat (nbk (en (cpA As E 1000 (cnK As 3) 0 []) 0) + 2))
theorem fnS_ok {As : List Ri} {S : KSt} {cr : Bool} {h ep M : Nat} {E : List Et} {T : List Int32} (hU : nmU As) (hB : itsB As) (hM : M + 1 < 65535) (h0 : cr = false → KP S M) (h1 : cr = true → CUT (kD S) h ep E T M) : DKP (fnS As S cr h ep E T).1 (fnS As S cr h ep E T).2.1 (fnS As S cr h ep E T).2.2.1 (fnS As S cr h ep E T).2.2.2.1 (M + 1) := by
  have h12 : cnK As 3 ≤ 12 := hB.1 3
  unfold fnS
  cases cr with
  | false =>
    rw [if_pos rfl]
    obtain ⟨a, b, c, _⟩ := h0 rfl
    exact ⟨DSK_M (by omega) hM a, b, c⟩
  | true =>
    rw [if_neg (by decide)]
    obtain ⟨a, b, c, d, e, _⟩ := h1 rfl
    by_cases cT : T = []
    · rw [if_pos cT]
      rw [cT, List.append_nil] at a
      exact ⟨DSK_M (by omega) hM a, b, c⟩
    · rw [if_neg cT]
      have hNok : CPI E (cpA As E 1000 (cnK As 3) 0 []) (tSn As (0 + cnK As 3)) := cpA_ok hU b c _ _ _ (by omega) CPI_0
      have hNW := CPI_W b hNok
      have hlN : (en (cpA As E 1000 (cnK As 3) 0 []) 0).length = els (cpA As E 1000 (cnK As 3) 0 []) := en_l
      have hlB : (en E 0 ++ T).length = els E + T.length := by rw [List.length_append, en_l]
      have := hNW.2
      exact ⟨rnD_ok (by omega) (by omega) hM a, hNW, hNok.2.2.2.1⟩
theorem unh_0 : ∀ {n : Nat}, unh (fun _ => 0) n = n
  | 0 => rfl
  | n + 1 => by rw [unh, unh_0, if_pos rfl]
theorem plcS_t {As : List Ri} {Z : Nat → Ms} {W : Nat} (hW : W ≤ 64) : ∀ {L : List Nat} {fr : Nat → Int32}, (∀ k ∈ L, ∃ a, As[k]? = some a ∧ riF a = 4) → TST As (plcS Z W L fr)
  | [], _, _ => fun i p hp => by rw [plcS] at hp; simp at hp
  | k :: r, fr, h => fun i p hp => by
    cases i with
    | zero =>
      rw [plcS, List.getElem?_cons_zero] at hp
      cases hp
      have := wmn_l (fr := fr) (m := W - 1)
      refine ⟨h k List.mem_cons_self, ?_⟩
      show wmn fr (W - 1) < 64
      omega
    | succ i =>
      rw [plcS, List.getElem?_cons_succ] at hp
      exact plcS_t hW (fun k hk => h k (List.mem_cons_of_mem _ hk)) i p hp
def c36F (c k : Nat) : Prop := (44 ≤ c ∧ c ≤ 52) ∨ (62 ≤ c ∧ c ≤ 88) ∨ c = 90 ∨ (92 ≤ c ∧ c ≤ 107) ∨ (c = 89 ∧ 3 ≤ k ∧ k ≤ 7) ∨ (c = 32 ∧ k = 12)
section MXR
variable {As : List Ri} {I : List It} {rv W n : Nat} {e : my_E} {d : Nat} {κ : my_K} {σ σ' : my_S} {Q : my_O → my_K → my_S → Prop} {P : Nat → Nat} {Z : Nat → Ms} {v3 : Int32} {D : Nat → Int32} {h ep M : Nat} {E : List Et} {w : Int32} {pl : List Sp}
theorem pl_t {E : List Et} (hB : itsB As) : ∀ k ∈ (tpl As I E (cnK As 3) 0 []).map (fun x => x.1), ∃ a, As[k]? = some a ∧ riF a = 4 := fun k hk => by
  obtain ⟨x, hx, rfl⟩ := List.mem_map.mp hk
  have hT := TPI_l (m := cnK As 3) (TPI_0 (As := As) (I := I) (E := E))
  obtain ⟨a, _, hf, ha, _⟩ := (hT.2.2 x).mp hx
  obtain ⟨b, hb, hb3⟩ := fkA_k hf
  rw [ha] at hb
  cases hb
  refine ⟨a, ha, ?_⟩
  have hF := (hB.2 a (List.mem_of_getElem? ha)).1
  have hlt := kdf_lt hF
  have h3 : kdf (riF a) = 3 := (oN_e1 (b := 3) (c := 3) rfl (by omega) (by omega)).mp hb3
  exact kdf_3 hF h3
theorem c_36r {h' ep' : Nat} {E' : List Et} {T : List Int32} (hU : nmU As) (hL : LOf As I) (ld : LD As I rv σ) (hS : LVs (hA2 h) E σ) (hZ : RZ As I Z) (hW1 : 1 ≤ W ∧ W ≤ 64) (hP : slo P) (hr : SLr P σ) (hK : DKC D h ep E w σ) (hp : DKP D h ep E M) (hM : M + 13 < 65535) (hn : n < 2147483648) (h10 : σ.1 32 10 = v3) (hpl : pl = plcS Z W ((tpl As I E (cnK As 3) 0 []).map (fun x => x.1)) (fun _ => 0)) (hcut : (rnA As I v3 Z pl pl.length (D, h, ep, E, n, w) (fun _ => 0) 0 0).2.2.2.2 = true → CUT (kD (rnA As I v3 Z pl pl.length (D, h, ep, E, n, w) (fun _ => 0) 0 0).1) h' ep' E' T (M + pl.length)) (hd : 12 ≤ d) (hQ : ∀ σ' P' F, F = fnS As (rnA As I v3 Z pl pl.length (D, h, ep, E, n, w) (fun _ => 0) 0 0).1 (rnA As I v3 Z pl pl.length (D, h, ep, E, n, w) (fun _ => 0) 0 0).2.2.2.2 h' ep' E' T → DKC F.1 F.2.1 F.2.2.1 F.2.2.2.1 F.2.2.2.2 σ' → CPL rv W Z P' pl (rnA As I v3 Z pl pl.length (D, h, ep, E, n, w) (fun _ => 0) 0 0).2.1 σ' → σ'.1 89 5 = σ.1 89 5 + (rnA As I v3 Z pl pl.length (D, h, ep, E, n, w) (fun _ => 0) 0 0).2.2.1 → σ'.1 32 12 = (rnA As I v3 Z pl pl.length (D, h, ep, E, n, w) (fun _ => 0) 0 0).2.2.2.1 → eqp c36F σ σ' → Q (.inl (some (.inl (rnA As I v3 Z pl pl.length (D, h, ep, E, n, w) (fun _ => 0) 0 0).2.2.1))) κ σ') : my_M e d 36 [.inr (.inr (some 32)), .inl (Int32.ofNat W), .inl (Int32.ofNat n)] κ σ Q := by
  obtain ⟨d, rfl⟩ := dS 2 (show 2 ≤ d by omega)
  have hrv := ld.2.2.1
  have hB := ld.1
  have h12 : cnK As 3 ≤ 12 := hB.1 3
  have hb := hA2_b (h := h)
  have hT := TPI_l (m := cnK As 3) (TPI_0 (As := As) (I := I) (E := E))
  rw [Nat.zero_add] at hT
  have hpn : pl.length ≤ 12 := by rw [hpl, plcS_l, List.length_map]; have := hT.2.1; omega
  have ht : TST As pl := by rw [hpl]; exact plcS_t hW1.2 (pl_t hB)
  refine ys_36 ?_
  unfold ys_36_0
  refine ys_10 ?_
  unfold ys_10_0
  rw [if_neg ld.2.2.2.1, my_k0_v, if_neg (fun hh => by have := (oN_lt1 (b := 1) (c := 1) rfl (by omega) (by omega)).mp hh; omega), if_neg (fun hh => by have := (oN_lt2 (b := 64) (c := 64) rfl (by omega) (by omega)).mp hh; omega), if_neg (oN_0 hn)]
  refine c_37 hU hL ld hS hZ hW1 hP hr (by omega) (fun σ1 P1 cp1 f1 => ?_)
  rw [← hpl] at cp1
  rw [my_k0_v]
  refine ys_159 ?_
  unfold ys_159_0
  rw [my_k0_v]
  have f2 : eqp (fun c k => (c = 89 ∧ (k = 6 ∨ k = 7)) ∨ (c = 32 ∧ k = 12)) σ1 (my_uI (my_uI (my_uI σ1 89 6 (Int32.ofNat n)) 89 7 0) 32 12 0) := eqp_I (eqp_I (eqp_I eqp_rf (by omega)) (by omega)) (by omega)
  have g6 : (my_uI (my_uI (my_uI σ1 89 6 (Int32.ofNat n)) 89 7 0) 32 12 0).1 89 6 = Int32.ofNat n := by rw [my_uI_1, if_neg (by omega), my_uI_1, if_neg (by omega)]; exact uI_s
  have g7 : (my_uI (my_uI (my_uI σ1 89 6 (Int32.ofNat n)) 89 7 0) 32 12 0).1 89 7 = 0 := by rw [my_uI_1, if_neg (by omega)]; exact uI_s
  have g12 : (my_uI (my_uI (my_uI σ1 89 6 (Int32.ofNat n)) 89 7 0) 32 12 0).1 32 12 = 0 := uI_s
  generalize my_uI (my_uI (my_uI σ1 89 6 (Int32.ofNat n)) 89 7 0) 32 12 0 = σ2 at f2 g6 g7 g12 ⊢
  have F2 : eqp c36F σ σ2 := eqp_tr (eqp_mo f1 (fun c k hh => by unfold p37F at hh; unfold c36F; omega)) (eqp_mo f2 (fun c k hh => by unfold c36F; omega))
  have o1 : ∀ {c k : Nat}, ¬ p37F c k → ¬ ((c = 89 ∧ (k = 6 ∨ k = 7)) ∨ (c = 32 ∧ k = 12)) → σ2.1 c k = σ.1 c k := fun h1 h2 => (eqp_g f2 h2).trans (eqp_g f1 h1)
  have f12 : eqp (fun c k => p37F c k ∨ (c = 89 ∧ (k = 6 ∨ k = 7)) ∨ (c = 32 ∧ k = 12)) σ σ2 := eqp_tr (eqp_mo f1 (fun c k hh => Or.inl hh)) (eqp_mo f2 (fun c k hh => Or.inr hh))
  obtain ⟨d1, d2, d3, d4, d5, d6, d7⟩ := hK
  have lc2 : LgC (hA2 h) E σ2 := LgC_o d2 f12 (fun c k hh => by unfold p37F at hh; omega)
  have ep2 : σ2.1 (hA2 h) 2 = Int32.ofNat ep := (o1 (by unfold p37F; omega) (by omega)).trans d4
  have kc : KC (D, h, ep, E, n, w) σ2 := ⟨⟨DC_o d1 f12 (fun c k hh => by unfold p37F at hh; omega), g6, (o1 (by unfold p37F; omega) (by omega)).trans d7⟩, lc2, (o1 (by unfold p37F; omega) (by omega)).trans d3, ep2, ((f12 91 0 (by unfold p37F; omega)).2.2).trans d5, ((f12 91 1 (by unfold p37F; omega)).2.2).trans d6⟩
  have kp0 : KP (D, h, ep, E, n, w) M := ⟨hp.1, hp.2.1, hp.2.2, hn⟩
  have ld2 : LD As I rv σ2 := LD_o (LD_30 ld) ld F2 (fun c k hh => by unfold c36F at hh; unfold coF; omega)
  have cp2 : CPL rv W Z P1 pl (fun _ => 0) σ2 := CPL_o cp1 f2 (fun c k hh => by omega)
  have x5 : σ2.1 89 5 = σ.1 89 5 := o1 (by unfold p37F; omega) (by omega)
  have x10 : σ2.1 32 10 = v3 := (o1 (by unfold p37F; omega) (by omega)).trans h10
  have r36 : ∀ c k, r36F c k → c36F c k := fun c k hh => by unfold r36F kpF at hh; unfold c36F; omega
  have key := c_36l (e := e) (d := d + 1) (κ := κ) (Q := Q) (σ := σ2) (P := P1) (W := W) hU ld2 hZ ht x10 (by omega) pl.length M (D, h, ep, E, n, w) (fun _ => 0) 0 0 σ2 (by omega) unh_0 (Nat.le_refl _) kp0 kc cp2 g7 (by rw [Int32.add_zero]) g12 eqp_rf (fun hcr σ3 kc3 cp3 y7 y5 y12 f3 => ?_) (fun hcr σ3 ws3 cp3 y7 y5 y12 f3 => ?_)
  · rw [Nat.sub_self] at key
    exact ys_36_53_ok key
  · unfold ys_36_133 ys_36_154
    rw [y7, if_pos rfl]
    refine hQ σ3 P1 _ rfl ?_ cp3 (y5.trans (by rw [x5])) y12 (eqp_tr F2 (eqp_mo f3 r36))
    unfold fnS
    rw [if_pos hcr]
    obtain ⟨⟨w1, w2, w3⟩, q2, q3, q4, q5, q6⟩ := kc3
    exact ⟨w1, q2, q3, q4, q5, q6, w3⟩
  · have hc := hcut hcr
    have ld3 : LD As I rv σ3 := LD_o (LD_30 ld2) ld2 f3 (fun c k hh => by have := r36 c k hh; unfold c36F at this; unfold coF; omega)
    have m91 : ∀ {i : Nat}, σ3.2.2 91 i = σ.2.2 91 i := fun {i} => ((f3 91 i (fun hh => by unfold r36F kpF at hh; omega)).2.2).trans ((f12 91 i (by unfold p37F; omega)).2.2)
    unfold ys_36_133
    rw [y7, if_neg (by decide), ld3.2.2.2.2.2.1]
    have rvx : ∀ c k, rvF c k → c36F c k := fun c k hh => by unfold rvF at hh; unfold c36F; omega
    refine c_168 (D := kD (rnA As I v3 Z pl pl.length (D, h, ep, E, n, w) (fun _ => 0) 0 0).1) (M := M + pl.length) hU ld3 hc (by omega) (m91.trans d5) (m91.trans d6) ws3.1 ws3.2.2 (by omega) rfl (fun cT σ4 e1 e2 e3 e4 e5 f4 => ?_) (fun cT σ4 e1 e2 e3 e4 e5 f4 => ?_)
    · rw [my_k0_v]
      unfold ys_36_154
      refine hQ σ4 P1 _ rfl ?_ (CPL_o cp3 f4 (fun c k hh => by unfold rvF at hh; omega)) ((eqp_g f4 (by unfold rvF; omega)).trans (y5.trans (by rw [x5]))) ((eqp_g f4 (by unfold rvF; omega)).trans y12) (eqp_tr F2 (eqp_tr (eqp_mo f3 r36) (eqp_mo f4 rvx)))
      unfold fnS
      rw [if_neg (by rw [hcr]; decide), if_pos cT]
      exact ⟨e1, e4, e3, e5, ((f4 91 0 (by unfold rvF; omega)).2.2).trans (m91.trans d5), ((f4 91 1 (by unfold rvF; omega)).2.2).trans (m91.trans d6), e2⟩
    · rw [my_k0_v]
      unfold ys_36_154
      refine hQ σ4 P1 _ rfl ?_ (CPL_o cp3 f4 (fun c k hh => by unfold rvF at hh; omega)) ((eqp_g f4 (by unfold rvF; omega)).trans (y5.trans (by rw [x5]))) ((eqp_g f4 (by unfold rvF; omega)).trans y12) (eqp_tr F2 (eqp_tr (eqp_mo f3 r36) (eqp_mo f4 rvx)))
      unfold fnS
      rw [if_neg (by rw [hcr]; decide), if_neg cT]
      exact ⟨e1, e4, e3, e5, ((f4 91 0 (by unfold rvF; omega)).2.2).trans (m91.trans d5), ((f4 91 1 (by unfold rvF; omega)).2.2).trans (m91.trans d6), e2⟩
end MXR
