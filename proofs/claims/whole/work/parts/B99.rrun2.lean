
/-! ===== the reference: run ===== -/
def esT (As : List Ri) (E : List Et) (t : Nat) : Nat := match fkA As 3 (Int32.ofNat t) As.length 0 with
  | none => 0
  | some k => match As[k]? with
    | none => 0
    | some a => est E (riN a)
def nxV (rs : List Tp) : Int32 := match rs with
  | [] => Int32.ofInt (-1)
  | x :: _ => Int32.ofNat x.2.2
def inT (rs : List Tp) (t : Nat) : Bool := rs.any (fun x => decide (x.2.2 = t))
theorem inT_m {rs : List Tp} {t : Nat} : inT rs t = true ↔ ∃ x ∈ rs, x.2.2 = t := by
  unfold inT
  rw [List.any_eq_true]
  simp
/-- picked tests: what is known of each -/
def TPm (As : List Ri) (I : List It) (E : List Et) (n : Nat) (rs : List Tp) : Prop := rs.Pairwise bef ∧ ∀ x ∈ rs, x.2.2 < n ∧ fkA As 3 (Int32.ofNat x.2.2) As.length 0 = some x.1 ∧ x.2.1 = esT As E x.2.2 ∧ ∃ a, As[x.1]? = some a ∧ riF a = 4
section MRP
variable {As : List Ri} {I : List It} {rv W : Nat} {e : my_E} {d : Nat} {κ : my_K} {σ σ' : my_S} {Q : my_O → my_K → my_S → Prop} {Z : Nat → Ms} {E : List Et}
theorem TPm_f {n : Nat} {rs : List Tp} {x y : Tp} (h : TPm As I E n rs) (hx : x ∈ rs) (hy : y ∈ rs) (he : x.2.2 = y.2.2) : x = y := by
  obtain ⟨_, a1, a2, _⟩ := h.2 x hx
  obtain ⟨_, b1, b2, _⟩ := h.2 y hy
  rw [he, b1] at a1
  rw [he, ← b2] at a2
  exact Prod.ext (Option.some.inj a1).symm (Prod.ext a2 he)
theorem esT_b {t : Nat} : esT As E t < 65536 := by
  unfold esT
  cases fkA As 3 (Int32.ofNat t) As.length 0 with
  | none => show 0 < 65536; omega
  | some k =>
    dsimp only
    cases As[k]? with
    | none => show 0 < 65536; omega
    | some a => exact est_b
theorem f_295s {n : Nat} {rs : List Tp} (h64 : σ.1 498 64 = Int32.ofNat n) (hn : n ≤ 12) (hT : TPm As I E n rs) (hp : ∀ t, t < n → σ.1 569 t = bI (inT rs t)) (he : ∀ t, t < n → σ.1 568 t = Int32.ofNat (esT As E t)) (hd : 1 ≤ d) (hQ : Q (.inl (some (.inl (nxV rs)))) κ σ) : my_M e d 295 [.inr (.inr (some 498))] κ σ Q := by
  refine f_295 (pk := inT rs) (es := esT As E) h64 hn hp (fun t ht => ⟨he t ht, esT_b⟩) hd (fun h0 => ?_) (fun t ht hpt hall => ?_)
  · cases rs with
    | nil => exact hQ
    | cons x r =>
      exfalso
      have hx := (hT.2 x List.mem_cons_self).1
      have := h0 x.2.2 hx
      rw [inT_m.mpr ⟨x, List.mem_cons_self, rfl⟩] at this
      cases this
  · obtain ⟨x, hx, hxt⟩ := inT_m.mp hpt
    cases rs with
    | nil => exact absurd hx List.not_mem_nil
    | cons x0 r =>
      have h0 := hT.2 x0 List.mem_cons_self
      have hxx : x = x0 := by
        by_cases c : x0.2.2 = t
        · exact TPm_f hT hx List.mem_cons_self (by rw [hxt, c])
        · rcases List.mem_cons.mp hx with hx' | hx'
          · exact hx'
          · exfalso
            have hb := (List.pairwise_cons.mp hT.1).1 x hx'
            have ha := hall x0.2.2 h0.1 (inT_m.mpr ⟨x0, List.mem_cons_self, rfl⟩) c
            have e1 := (hT.2 x hx).2.2.1
            have e2 := h0.2.2.1
            unfold bef at hb
            rw [e1, e2, hxt] at hb
            omega
      rw [← hxt, hxx]
      exact hQ
def p82F (c k : Nat) : Prop := rmF c k ∨ (557 ≤ c ∧ c ≤ 567) ∨ c = 569 ∨ (c = 498 ∧ k = 107)
theorem f_282p {pl : List Sp} {v2 : Int32} (hL : LOf As I) (ld : LD As I rv σ) (hZ : RZ As I Z) (hW1 : 1 ≤ W ∧ W ≤ 64) (he : ∀ t, t < cnK As 3 → σ.1 568 t = Int32.ofNat (esT As E t)) (hpl : pl.length ≤ 12) (hd : 7 ≤ d) (hQ : ∀ σ2, RPL As Z pl (fun _ => 0) σ2 → bck σ2 → eqp p82F σ σ2 → ys_282_86 e d (Int32.ofNat W) v2 (Int32.ofInt (-1)) κ σ2 Q) : ∀ (rs : List Tp) (j : Nat) (fr : Nat → Int32) (σ' : my_S), j + rs.length = pl.length → TPm As I E (cnK As 3) rs → pl.drop j = plcS Z W (rs.map (fun x => x.1)) fr → FRr fr σ' → (∀ t, t < cnK As 3 → σ'.1 569 t = bI (inT rs t)) → (∀ (i : Nat) p, i < j → pl[i]? = some p → SRf As Z i p σ' ∧ σ'.1 561 i = 0) → σ'.1 498 107 = Int32.ofNat j → bck σ' → eqp p82F σ σ' → ys_282_86 e d (Int32.ofNat W) v2 (nxV rs) κ σ' Q := by
  have hB := ld.1
  have hrv := ld.2.2.1
  have h12 : cnK As 3 ≤ 12 := hB.1 3
  have px : ∀ c k, p82F c k → (538 ≤ c ∧ c ≤ 545) ∨ (557 ≤ c ∧ c ≤ 567) ∨ c = 569 ∨ (c = 498 ∧ (k = 107 ∨ k = 70 ∨ (75 ≤ k ∧ k ≤ 81))) := fun c k hh => by unfold p82F rmF at hh; omega
  intro rs
  induction rs with
  | nil =>
    intro j fr σ' hj hT hp hF hfl hs h107 hb f
    have hj : j = pl.length := by simpa using hj
    subst hj
    exact hQ σ' ⟨h107, hpl, fun i p hpi => by
      obtain ⟨a, b⟩ := hs i p (List.getElem?_eq_some_iff.mp hpi).1 hpi
      exact ⟨a, b, by show 0 < 3; omega⟩⟩ hb f
  | cons x r ih =>
    intro j fr σ' hj hT hp hF hfl hs h107 hb f
    rw [List.length_cons] at hj
    obtain ⟨t1, t2, t3, a, ha, h4⟩ := hT.2 x List.mem_cons_self
    obtain ⟨⟨n, hn, hzr⟩, hen, hck⟩ := hZ x.1 a ha h4
    have ld' : LD As I rv σ' := LD_o (LD_30 ld) ld f (fun c k hh => by have := px c k hh; unfold coF; omega)
    have hpi : pl[j]? = some (sp1 Z W fr x.1) := by
      have := congrArg (fun l => l[0]?) hp
      rw [List.getElem?_drop, Nat.add_zero] at this
      rw [this]
      rfl
    have hp2 : pl.drop (j + 1) = plcS Z W (r.map (fun x => x.1)) (spF Z W fr x.1) := by
      have := congrArg (fun l => l.drop 1) hp
      rw [List.drop_drop] at this
      rw [this]
      rfl
    have hTr : TPm As I E (cnK As 3) r := ⟨(List.pairwise_cons.mp hT.1).2, fun y hy => hT.2 y (List.mem_cons_of_mem _ hy)⟩
    unfold ys_282_86
    have en : nxV (x :: r) = Int32.ofNat x.2.2 := rfl
    rw [en, if_neg (oN_0 (by omega))]
    refine f_296 (i := j) (t := x.2.2) (k := x.1) hL ld' hb.1 (by omega) (by omega) t2 ha h4 hzr hen hW1 hF h107 (by omega) (fun σ1 s1 z1 fr1 g1 b1 f1 => ?_)
    rw [my_k0_v, oN_n (by omega)]
    refine ⟨bdk (by omega) (by omega), ?_⟩
    have f2 : eqp (fun c k => c = 569 ∧ k = x.2.2) σ1 (my_uI σ1 569 x.2.2 0) := eqp_I eqp_rf ⟨rfl, rfl⟩
    have g2 : (my_uI σ1 569 x.2.2 0).1 569 x.2.2 = 0 := uI_s
    generalize my_uI σ1 569 x.2.2 0 = σ2 at f2 g2 ⊢
    have pg : ∀ c k, plG j c k → p82F c k := fun c k hh => by
      rcases hh with hh | hh
      · exact Or.inl hh
      · unfold p82F; omega
    have f02 : eqp p82F σ σ2 := eqp_tr f (eqp_tr (eqp_mo f1 pg) (eqp_mo f2 (fun c k hh => by unfold p82F; omega)))
    have ld2 : LD As I rv σ2 := LD_o (LD_30 ld) ld f02 (fun c k hh => by have := px c k hh; unfold coF; omega)
    have h64 : σ2.1 498 64 = Int32.ofNat (cnK As 3) := ld2.2.2.2.2.2.2.2.2.2.2.2.2.2
    have hfl2 : ∀ t, t < cnK As 3 → σ2.1 569 t = bI (inT r t) := fun t ht => by
      by_cases c : t = x.2.2
      · have hno : inT r t = false := by
          cases hq : inT r t with
          | false => rfl
          | true =>
            exfalso
            obtain ⟨y, hy, hyt⟩ := inT_m.mp hq
            have := TPm_f hT (List.mem_cons_of_mem _ hy) List.mem_cons_self (by rw [hyt, c])
            rw [this] at hy
            have hbb := (List.pairwise_cons.mp hT.1).1 x hy
            unfold bef at hbb
            omega
        rw [hno, c]
        exact g2
      · have hpl1 : σ1.1 569 t = σ'.1 569 t := eqp_g f1 (fun hh => by unfold plG rmF at hh; omega)
        rw [eqp_g f2 (by omega), hpl1, hfl t ht]
        congr 1
        unfold inT
        rw [List.any_cons, decide_eq_false (fun hh => c hh.symm), Bool.false_or]
    have he2 : ∀ t, t < cnK As 3 → σ2.1 568 t = Int32.ofNat (esT As E t) := fun t ht => (eqp_g f02 (fun hh => by have := px _ _ hh; omega)).trans (he t ht)
    refine f_295s h64 h12 hTr hfl2 he2 (by omega) ?_
    rw [my_kI_v]
    refine ys_282_86_ok (ih (j + 1) (spF Z W fr x.1) σ2 (by omega) hTr hp2 (fun w hw => (eqp_g f2 (by omega)).trans (fr1 w hw)) hfl2 (fun i p hi hpp => ?_) ((eqp_g f2 (by omega)).trans g1) (bck_o b1 f2 (fun c k hh => by omega)) f02)
    · by_cases c : i = j
      · subst c
        rw [hpi] at hpp
        cases hpp
        exact ⟨SRf_o s1 f2 hB (fun c k hh => by omega), (eqp_g f2 (by omega)).trans z1⟩
      · obtain ⟨q1, q2⟩ := hs i p (by omega) hpp
        exact ⟨SRf_o (SRf_o q1 f1 hB (fun c k hh => by unfold plG rmF at hh; omega)) f2 hB (fun c k hh => by omega), (eqp_g f2 (by omega)).trans ((eqp_g f1 (fun hh => by unfold plG rmF at hh; omega)).trans q2)⟩
def c82F (c k : Nat) : Prop := (538 ≤ c ∧ c ≤ 569) ∨ (c = 498 ∧ (k = 0 ∨ (70 ≤ k ∧ k ≤ 107) ∨ k = 118 ∨ k = 119 ∨ k = 123))
theorem f_282r {h' ep' n : Nat} {E' : List Et} {T : List Int32} {D : Nat → Int32} {h ep M : Nat} {w v3 : Int32} {pl : List Sp} (hU : nmU As) (hL : LOf As I) (ld : LD As I rv σ) (hZ : RZ As I Z) (hW1 : 1 ≤ W ∧ W ≤ 64) (hK : DKR D h ep E w σ) (hp : DKP D h ep E M) (hM : M + 13 < 65535) (hn : n < 2147483648) (hb : bck σ) (h65 : σ.1 498 65 = v3) (hpl : pl = plcS Z W ((tpl As I E (cnK As 3) 0 []).map (fun x => x.1)) (fun _ => 0)) (hcut : (rnA As I v3 Z pl pl.length (D, h, ep, E, n, w) (fun _ => 0) 0 0).2.2.2.2 = true → CUT (kD (rnA As I v3 Z pl pl.length (D, h, ep, E, n, w) (fun _ => 0) 0 0).1) h' ep' E' T (M + pl.length)) (hd : 12 ≤ d) (hQ : ∀ σ' F, F = fnS As (rnA As I v3 Z pl pl.length (D, h, ep, E, n, w) (fun _ => 0) 0 0).1 (rnA As I v3 Z pl pl.length (D, h, ep, E, n, w) (fun _ => 0) 0 0).2.2.2.2 h' ep' E' T → DKR F.1 F.2.1 F.2.2.1 F.2.2.2.1 F.2.2.2.2 σ' → RPL As Z pl (rnA As I v3 Z pl pl.length (D, h, ep, E, n, w) (fun _ => 0) 0 0).2.1 σ' → bck σ' → σ'.1 498 0 = 0 → σ'.1 498 123 = Int32.ofNat W → σ'.1 498 118 = σ.1 498 118 + (rnA As I v3 Z pl pl.length (D, h, ep, E, n, w) (fun _ => 0) 0 0).2.2.1 → σ'.1 498 119 = (rnA As I v3 Z pl pl.length (D, h, ep, E, n, w) (fun _ => 0) 0 0).2.2.2.1 → eqp c82F σ σ' → Q (.inl (some (.inl (rnA As I v3 Z pl pl.length (D, h, ep, E, n, w) (fun _ => 0) 0 0).2.2.1))) κ σ') : my_M e d 282 [.inr (.inr (some 498)), .inl (Int32.ofNat W), .inl (Int32.ofNat n)] κ σ Q := by
  obtain ⟨d, rfl⟩ := dS 2 (show 2 ≤ d by omega)
  have hrv := ld.2.2.1
  have hB := ld.1
  have h12 : cnK As 3 ≤ 12 := hB.1 3
  have hT := TPI_l (m := cnK As 3) (TPI_0 (As := As) (I := I) (E := E))
  rw [Nat.zero_add] at hT
  have hpn : pl.length = (tpl As I E (cnK As 3) 0 []).length := by rw [hpl, plcS_l, List.length_map]
  have hpn12 : pl.length ≤ 12 := by have := hT.2.1; omega
  have ht : TST As pl := by rw [hpl]; exact plcS_t hW1.2 (pl_t hB)
  obtain ⟨d1, d2, d3, d4, d5⟩ := hK
  refine ys_282 ?_
  unfold ys_282_0
  rw [if_neg ld.2.2.2.2.1]
  unfold ys_282_13
  rw [if_neg (fun hh => by have := (oN_lt1 (b := 1) (c := 1) rfl (by omega) (by omega)).mp hh; omega), if_neg (fun hh => by have := (oN_lt2 (b := 64) (c := 64) rfl (by omega) (by omega)).mp hh; omega), if_neg (oN_0 hn)]
  unfold ys_282_33
  refine r_215_0 ?_
  rw [my_kI_v, if_pos rfl]
  have f0 : eqp (fun c k => c = 498 ∧ (k = 0 ∨ k = 107 ∨ k = 119 ∨ k = 123)) σ (my_uI (my_uI (my_uI (my_uI σ 498 0 0) 498 107 0) 498 123 (Int32.ofNat W)) 498 119 0) := eqp_I (eqp_I (eqp_I (eqp_I eqp_rf (by omega)) (by omega)) (by omega)) (by omega)
  have g0 : (my_uI (my_uI (my_uI (my_uI σ 498 0 0) 498 107 0) 498 123 (Int32.ofNat W)) 498 119 0).1 498 0 = 0 := by simp [my_uI_1]
  have g107 : (my_uI (my_uI (my_uI (my_uI σ 498 0 0) 498 107 0) 498 123 (Int32.ofNat W)) 498 119 0).1 498 107 = 0 := by simp [my_uI_1]
  have g123 : (my_uI (my_uI (my_uI (my_uI σ 498 0 0) 498 107 0) 498 123 (Int32.ofNat W)) 498 119 0).1 498 123 = Int32.ofNat W := by simp [my_uI_1]
  have g119 : (my_uI (my_uI (my_uI (my_uI σ 498 0 0) 498 107 0) 498 123 (Int32.ofNat W)) 498 119 0).1 498 119 = 0 := uI_s
  generalize my_uI (my_uI (my_uI (my_uI σ 498 0 0) 498 107 0) 498 123 (Int32.ofNat W)) 498 119 0 = σ1 at f0 g0 g107 g123 g119 ⊢
  have lp : ∀ (m i : Nat) (σ' : my_S), i + m = 64 → (∀ w, w < i → σ'.1 567 w = 0) → eqp (fun c _ => c = 567) σ1 σ' → ys_282_58 e (d + 1) (Int32.ofNat W) (Int32.ofNat n) (Int32.ofNat i) κ σ' Q := by
    intro m
    induction m with
    | zero =>
      intro i σ2 hi hz f1
      have : i = 64 := by omega
      subst this
      unfold ys_282_58
      rw [if_neg (show ¬ Int32.ofNat 64 < 64 by decide)]
      have f01 : eqp (fun c k => (c = 498 ∧ (k = 0 ∨ k = 107 ∨ k = 119 ∨ k = 123)) ∨ c = 567) σ σ2 := eqp_tr (eqp_mo f0 (fun c k hh => Or.inl hh)) (eqp_mo f1 (fun c k hh => Or.inr hh))
      have ld2 : LD As I rv σ2 := LD_o (LD_30 ld) ld f01 (fun c k hh => by unfold coF; omega)
      have lr2 : LgR E [] σ2 := LgR_o d2 f01 (fun c k hh => by omega)
      refine f_283 hU ld2 hp.2.1 hp.2.2 lr2 (by omega) (fun σ3 fp3 f3 => ?_)
      rw [my_k0_v]
      have f3' : eqp (fun c k => (548 ≤ c ∧ c ≤ 550) ∨ c = 568 ∨ c = 569 ∨ (c = 498 ∧ (k = 90 ∨ k = 93 ∨ k = 95))) σ2 σ3 := eqp_mo f3 (fun c k hh => by unfold plF at hh; omega)
      have f03 : eqp (fun c k => (548 ≤ c ∧ c ≤ 550) ∨ c = 567 ∨ c = 568 ∨ c = 569 ∨ (c = 498 ∧ (k = 0 ∨ k = 90 ∨ k = 93 ∨ k = 95 ∨ k = 107 ∨ k = 119 ∨ k = 123))) σ σ3 := eqp_tr (eqp_mo f01 (fun c k hh => by omega)) (eqp_mo f3' (fun c k hh => by omega))
      have ld3 : LD As I rv σ3 := LD_o (LD_30 ld) ld f03 (fun c k hh => by unfold coF; omega)
      have h64 : σ3.1 498 64 = Int32.ofNat (cnK As 3) := ld3.2.2.2.2.2.2.2.2.2.2.2.2.2
      have hex : ∀ t, t < cnK As 3 → ∃ k a, fkA As 3 (Int32.ofNat t) As.length 0 = some k ∧ As[k]? = some a := fun t ht => by
        obtain ⟨k, hk⟩ := (fkA_w (K := 3) hB (by omega) (show t < 2147483648 by omega)).1 ht
        exact ⟨k, As[k]'(fkA_lt hk), hk, List.getElem?_eq_getElem (fkA_lt hk)⟩
      have he3 : ∀ t, t < cnK As 3 → σ3.1 568 t = Int32.ofNat (esT As E t) := fun t ht => by
        obtain ⟨k, a, hk, ha⟩ := hex t ht
        rw [(fp3 t k a ht hk ha).2]
        unfold esT
        rw [hk]
        dsimp only
        rw [ha]
      have hTm : TPm As I E (cnK As 3) (tpl As I E (cnK As 3) 0 []) := ⟨hT.1, fun x hx => by
        obtain ⟨a, q1, q2, q3, q4, q5⟩ := (hT.2.2 x).mp hx
        refine ⟨q1, q2, ?_, pl_t hB x.1 (List.mem_map.mpr ⟨x, hx, rfl⟩)⟩
        rw [q5]
        unfold esT
        rw [q2]
        dsimp only
        rw [q3]⟩
      have hfl : ∀ t, t < cnK As 3 → σ3.1 569 t = bI (inT (tpl As I E (cnK As 3) 0 []) t) := fun t ht => by
        obtain ⟨k, a, hk, ha⟩ := hex t ht
        rw [(fp3 t k a ht hk ha).1]
        by_cases c : rsn E As I k a = 0
        · rw [if_pos c]
          cases hq : inT (tpl As I E (cnK As 3) 0 []) t with
          | false => rfl
          | true =>
            exfalso
            obtain ⟨x, hx, hxt⟩ := inT_m.mp hq
            obtain ⟨b, q1, q2, q3, q4, q5⟩ := (hT.2.2 x).mp hx
            rw [hxt, hk] at q2
            have e1 : k = x.1 := Option.some.inj q2
            subst e1
            rw [ha] at q3
            cases q3
            exact q4 c
        · rw [if_neg c]
          have : inT (tpl As I E (cnK As 3) 0 []) t = true := inT_m.mpr ⟨(k, est E (riN a), t), (hT.2.2 _).mpr ⟨a, ht, hk, ha, c, rfl⟩, rfl⟩
          rw [this]
          rfl
      refine f_295s h64 h12 hTm hfl he3 (by omega) ?_
      rw [my_kI_v]
      have hb3 : bck σ3 := bck_o hb f03 (fun c k hh => by omega)
      refine ys_282_86_ok (f_282p (σ := σ3) (pl := pl) hL ld3 hZ hW1 he3 hpn12 (by omega) (fun σ4 rp4 b4 f4 => ?_) (tpl As I E (cnK As 3) 0 []) 0 (fun _ => 0) σ3 (by omega) hTm (by rw [List.drop_zero]; exact hpl) (fun w hw => ?_) hfl (fun i p hi => by omega) ?_ hb3 eqp_rf)
      · -- the recording begins
        have px : ∀ c k, p82F c k → (538 ≤ c ∧ c ≤ 545) ∨ (557 ≤ c ∧ c ≤ 567) ∨ c = 569 ∨ (c = 498 ∧ (k = 107 ∨ k = 70 ∨ (75 ≤ k ∧ k ≤ 81))) := fun c k hh => by unfold p82F rmF at hh; omega
        unfold ys_282_86
        rw [if_pos (show Int32.ofInt (-1) < 0 by decide)]
        have f5 : eqp (fun c k => c = 498 ∧ (k = 88 ∨ k = 89)) σ4 (my_uI (my_uI σ4 498 88 (Int32.ofNat n)) 498 89 0) := eqp_I (eqp_I eqp_rf (by omega)) (by omega)
        have g88 : (my_uI (my_uI σ4 498 88 (Int32.ofNat n)) 498 89 0).1 498 88 = Int32.ofNat n := by rw [my_uI_1, if_neg (by omega)]; exact uI_s
        have g89 : (my_uI (my_uI σ4 498 88 (Int32.ofNat n)) 498 89 0).1 498 89 = 0 := uI_s
        generalize my_uI (my_uI σ4 498 88 (Int32.ofNat n)) 498 89 0 = σ5 at f5 g88 g89 ⊢
        have f05 : eqp (fun c k => (538 ≤ c ∧ c ≤ 545) ∨ (548 ≤ c ∧ c ≤ 550) ∨ (557 ≤ c ∧ c ≤ 569) ∨ (c = 498 ∧ (k = 0 ∨ k = 70 ∨ (75 ≤ k ∧ k ≤ 81) ∨ k = 88 ∨ k = 89 ∨ k = 90 ∨ k = 93 ∨ k = 95 ∨ k = 107 ∨ k = 119 ∨ k = 123))) σ σ5 := eqp_tr (eqp_mo f03 (fun c k hh => by omega)) (eqp_tr (eqp_mo f4 (fun c k hh => by have := px c k hh; omega)) (eqp_mo f5 (fun c k hh => by omega)))
        have rp5 : RPL As Z pl (fun _ => 0) σ5 := RPL_o hB rp4 f5 (fun c k hh => by omega)
        have ld5 : LD As I rv σ5 := LD_o (LD_30 ld) ld f05 (fun c k hh => by unfold coF; omega)
        have kr5 : KR (D, h, ep, E, n, w) σ5 := ⟨⟨DR_o d1 f05 (fun c k hh => by omega), g88, (eqp_g f05 (by omega)).trans d5⟩, LgR_o d2 f05 (fun c k hh => by omega), (eqp_g f05 (by omega)).trans d3, (eqp_g f05 (by omega)).trans d4⟩
        have kp0 : KP (D, h, ep, E, n, w) M := ⟨hp.1, hp.2.1, hp.2.2, hn⟩
        have y65 : σ5.1 498 65 = v3 := (eqp_g f05 (by omega)).trans h65
        have y118 : σ5.1 498 118 = σ.1 498 118 := eqp_g f05 (by omega)
        have y119 : σ5.1 498 119 = 0 := by
          rw [eqp_g f5 (by omega), eqp_g f4 (fun hh => by have := px _ _ hh; omega), eqp_g f3' (by omega), eqp_g f1 (by omega)]
          exact g119
        have y0 : σ5.1 498 0 = 0 := by
          rw [eqp_g f5 (by omega), eqp_g f4 (fun hh => by have := px _ _ hh; omega), eqp_g f3' (by omega), eqp_g f1 (by omega)]
          exact g0
        have y123 : σ5.1 498 123 = Int32.ofNat W := by
          rw [eqp_g f5 (by omega), eqp_g f4 (fun hh => by have := px _ _ hh; omega), eqp_g f3' (by omega), eqp_g f1 (by omega)]
          exact g123
        have b5 : bck σ5 := bck_o b4 f5 (fun c k hh => by omega)
        have rx : ∀ c k, r82F c k → (546 ≤ c ∧ c ≤ 556) ∨ c = 561 ∨ (c = 498 ∧ (83 ≤ k ∧ k ≤ 105 ∨ k = 118 ∨ k = 119)) := fun c k hh => by
          rcases hh with hh | hh | hh
          · have := rpF_c hh; omega
          · omega
          · omega
        have F5 : eqp c82F σ σ5 := eqp_mo f05 (fun c k hh => by unfold c82F; omega)
        refine f_309 rp5 ht (by omega) ?_
        rw [my_kI_v]
        refine ys_282_130_ok (f_282l (σ := σ5) (pl := pl) hU ld5 hZ ht y65 (by omega) pl.length M (D, h, ep, E, n, w) (fun _ => 0) 0 0 σ5 (by omega) unh_0 kp0 kr5 rp5 g89 (by rw [Int32.add_zero]) y119 eqp_rf (fun hcr σ6 kr6 rp6 z9 z118 z119 f6 => ?_) (fun hcr σ6 ws6 rp6 z9 z118 z119 f6 => ?_))
        · unfold ys_282_205 ys_282_216
          rw [z9, if_pos rfl]
          refine hQ σ6 _ rfl ?_ rp6 (bck_o b5 f6 (fun c k hh => by have := rx c k hh; omega)) ((eqp_g f6 (fun hh => by have := rx _ _ hh; omega)).trans y0) ((eqp_g f6 (fun hh => by have := rx _ _ hh; omega)).trans y123) (z118.trans (by rw [y118])) z119 (eqp_tr F5 (eqp_mo f6 (fun c k hh => by have := rx c k hh; unfold c82F; omega)))
          unfold fnS
          rw [if_pos hcr]
          obtain ⟨⟨w1, w2, w3⟩, q2, q3, q4⟩ := kr6
          exact ⟨w1, q2, q3, q4, w3⟩
        · have hc := hcut hcr
          have ld6 : LD As I rv σ6 := LD_o (LD_30 ld5) ld5 f6 (fun c k hh => by have := rx c k hh; unfold coF; omega)
          unfold ys_282_205
          rw [z9, if_neg (by decide)]
          have rw7 : ∀ c k, rnwF c k → (546 ≤ c ∧ c ≤ 556) ∨ (c = 498 ∧ 83 ≤ k ∧ k ≤ 105) := fun c k hh => by have := rnwF_c hh; omega
          have fin : ∀ σ7 F, F = fnS As (rnA As I v3 Z pl pl.length (D, h, ep, E, n, w) (fun _ => 0) 0 0).1 (rnA As I v3 Z pl pl.length (D, h, ep, E, n, w) (fun _ => 0) 0 0).2.2.2.2 h' ep' E' T → DKR F.1 F.2.1 F.2.2.1 F.2.2.2.1 F.2.2.2.2 σ7 → eqp rnwF σ6 σ7 → ys_282_216 e (d + 1) (rnA As I v3 Z pl pl.length (D, h, ep, E, n, w) (fun _ => 0) 0 0).2.2.1 κ σ7 Q := by
            intro σ7 F hF dk f7
            unfold ys_282_216
            have o7 : ∀ {c k : Nat}, ¬ ((546 ≤ c ∧ c ≤ 556) ∨ (c = 498 ∧ 83 ≤ k ∧ k ≤ 105)) → σ7.1 c k = σ6.1 c k := fun hh => eqp_g f7 (fun h2 => hh (rw7 _ _ h2))
            refine hQ σ7 F hF dk (RPL_o hB rp6 f7 (fun c k hh => by have := rw7 c k hh; omega)) (bck_o (bck_o b5 f6 (fun c k hh => by have := rx c k hh; omega)) f7 (fun c k hh => by have := rw7 c k hh; omega)) ((o7 (by omega)).trans ((eqp_g f6 (fun hh => by have := rx _ _ hh; omega)).trans y0)) ((o7 (by omega)).trans ((eqp_g f6 (fun hh => by have := rx _ _ hh; omega)).trans y123)) ((o7 (by omega)).trans (z118.trans (by rw [y118]))) ((o7 (by omega)).trans z119) (eqp_tr F5 (eqp_tr (eqp_mo f6 (fun c k hh => by have := rx c k hh; unfold c82F; omega)) (eqp_mo f7 (fun c k hh => by have := rw7 c k hh; unfold c82F; omega))))
          refine f_332 (D := kD (rnA As I v3 Z pl pl.length (D, h, ep, E, n, w) (fun _ => 0) 0 0).1) (M := M + pl.length) hU ld6 hc (by omega) ws6.1 ws6.2.2 (by omega) rfl (fun cT σ7 e1 e2 e3 e4 e5 e6 f7 => ?_) (fun cT σ7 e1 e2 e3 e4 e5 e6 f7 => ?_)
          · rw [my_k0_v]
            refine fin σ7 _ rfl ?_ f7
            unfold fnS
            rw [if_neg (by rw [hcr]; decide), if_pos cT]
            exact ⟨e1, e6, e4, e5, e2⟩
          · rw [my_k0_v]
            refine fin σ7 _ rfl ?_ f7
            unfold fnS
            rw [if_neg (by rw [hcr]; decide), if_neg cT]
            exact ⟨e1, e6, e4, e5, e2⟩
      · rw [eqp_g f3' (by omega)]
        exact hz w hw
      · rw [eqp_g f3' (by omega), eqp_g f1 (by omega)]
        exact g107
    | succ m ih =>
      intro i σ2 hi hz f1
      unfold ys_282_58
      rw [if_pos ((oN_lt1 (b := 64) (c := 64) rfl (by omega) (by omega)).mpr (by omega)), oN_n (by omega), oN_s]
      refine ⟨bdk (by omega) (by omega), ys_282_58_ok (ih (i + 1) _ (by omega) (fun w hw => ?_) (eqp_I f1 rfl))⟩
      rw [my_uI_1]
      by_cases c : w = i
      · rw [if_pos ⟨rfl, c⟩]
      · rw [if_neg (by omega)]
        exact hz w (by omega)
  exact ys_282_58_ok (lp 64 0 σ1 (by omega) (fun w hw => by omega) eqp_rf)
end MRP
