
/-! ===== a run's record is kept: what both do ===== -/
section MWR
variable {As : List Ri} {I : List It} {E : List Et} {rv : Nat} {σ : my_S}
theorem wfl_k {k : Nat} (hU : nmU As) (hB : itsB As) (h : wfl E 0) (hk : k < As.length) : wfl (adK As I E k).1 0 := by
  have ha := List.getElem?_eq_getElem hk
  generalize As[k] = a at ha
  have hit : itE As I k = (1, riN a, ib I (rwA (As.take k)).length a) := by unfold itE; rw [ha]
  unfold adK adE
  rw [hit]
  cases efd (itp E) (eN (1, riN a, ib I (rwA (As.take k)).length a)) (eC (1, riN a, ib I (rwA (As.take k)).length a)) (itp E).length 0 with
  | some j => exact h
  | none => exact wfl_a.mpr ⟨h, ⟨(hB.2 a (List.mem_of_getElem? ha)).2.1, (hU k a ha).2, aB_ib, Or.inl ⟨rfl, ib_2l⟩⟩, trivial⟩
theorem wfl_m (hU : nmU As) (hB : itsB As) : ∀ {ks : List Nat} {E : List Et}, wfl E 0 → (∀ k ∈ ks, k < As.length) → wfl (adM As I ks E).1 0
  | [], _, h, _ => h
  | k :: r, E, h, hk => by rw [adM]; exact wfl_m hU hB (wfl_k hU hB h (hk k List.mem_cons_self)) (fun q hq => hk q (List.mem_cons_of_mem _ hq))
theorem rcX_ok {kt n : Nat} {s : Ms} {v3 : Int32} (hU : nmU As) (hB : itsB As) (hW : LgW E) (hT : LgT E) (hkt : kt < As.length) (hE : zE s = some n) (hn6 : n < 6) (hck : CKd As s) (hl : els (rcX As I v3 kt s E) ≤ 7747) : LgW (rcX As I v3 kt s E) ∧ LgT (rcX As I v3 kt s E) ∧ ∃ F, rcX As I v3 kt s E = E ++ F := by
  have hat := List.getElem?_eq_getElem hkt
  generalize As[kt] = at' at hat
  have hit : itE As I kt = (1, riN at', ib I (rwA (As.take kt)).length at') := by unfold itE; rw [hat]
  have hnm : eN (itE As I kt) = riN at' := by rw [hit]
  have hln := (hB.2 at' (List.mem_of_getElem? hat)).2.1
  have hl1 := (hU kt at' hat).2
  have w2 : wfl (adM As I (tls As s) (adK As I E kt).1).1 0 := wfl_m hU hB (wfl_k hU hB hW.1 hkt) tls_A
  have t2 : LgT (adM As I (tls As s) (adK As I E kt).1).1 := LgT_m (LgT_e hT)
  have l30 := tls_l (s := s) hB
  have lM := adM_l (As := As) (I := I) (ks := tls As s) (E := (adK As I E kt).1)
  obtain ⟨F1, hF1⟩ := adE_p (E := E) (nm := eN (itE As I kt)) (X := eC (itE As I kt))
  have hF1' : (adK As I E kt).1 = E ++ F1 := hF1
  obtain ⟨F2, hF2⟩ := adM_p (As := As) (I := I) (ks := tls As s) (E := (adK As I E kt).1)
  have own : ∃ z, (itp (adM As I (tls As s) (adK As I E kt).1).1)[(adK As I E kt).2]? = some z ∧ eN z.2 = riN at' := by
    obtain ⟨z, y1, y2, _⟩ := adE_at (E := E) (nm := eN (itE As I kt)) (X := eC (itE As I kt))
    exact ⟨z, by rw [hF2]; exact itp_ap y1, by rw [y2, hnm]⟩
  -- any list with the items, and a record behind it
  have fin : ∀ (Ex : List Et) (c : Nat) (f3 : Int32), wfl Ex 0 → LgT Ex → (∃ F, Ex = (adM As I (tls As s) (adK As I E kt).1).1 ++ F) → (n = 1 → c < nit Ex) → (¬ n = 1 → c = 0) → els (Ex ++ [(2, riN at', rcC (Int32.ofNat n) (Int32.ofNat c) f3 (Int32.ofNat (zF s)) v3 (Int32.ofNat (adK As I E kt).2) ((adM As I (tls As s) (adK As I E kt).1).2.map Int32.ofNat))]) ≤ 7747 → LgW (Ex ++ [(2, riN at', rcC (Int32.ofNat n) (Int32.ofNat c) f3 (Int32.ofNat (zF s)) v3 (Int32.ofNat (adK As I E kt).2) ((adM As I (tls As s) (adK As I E kt).1).2.map Int32.ofNat))]) ∧ LgT (Ex ++ [(2, riN at', rcC (Int32.ofNat n) (Int32.ofNat c) f3 (Int32.ofNat (zF s)) v3 (Int32.ofNat (adK As I E kt).2) ((adM As I (tls As s) (adK As I E kt).1).2.map Int32.ofNat))]) ∧ ∃ F, Ex ++ [(2, riN at', rcC (Int32.ofNat n) (Int32.ofNat c) f3 (Int32.ofNat (zF s)) v3 (Int32.ofNat (adK As I E kt).2) ((adM As I (tls As s) (adK As I E kt).1).2.map Int32.ofNat))] = E ++ F := by
    intro Ex c f3 wx tx hF hc hc0 hle
    obtain ⟨F, hF⟩ := hF
    have hlx : els Ex ≤ 7747 := by rw [els_a] at hle; omega
    have hnx := (LgW_n ⟨wx, hlx⟩).2.2
    obtain ⟨z, z1, z2⟩ := own
    have z1' : (itp Ex)[(adK As I E kt).2]? = some z := by rw [hF]; exact itp_ap z1
    have hoz := (List.getElem?_eq_some_iff.mp z1').1
    rw [itp_l] at hoz
    have hcl : c < 65536 := by
      by_cases c1 : n = 1
      · have := hc c1; omega
      · rw [hc0 c1]; omega
    have hwf : wfe (2, riN at', rcC (Int32.ofNat n) (Int32.ofNat c) f3 (Int32.ofNat (zF s)) v3 (Int32.ofNat (adK As I E kt).2) ((adM As I (tls As s) (adK As I E kt).1).2.map Int32.ofNat)) (nit Ex) := rcC_wf hln hl1 (by omega) rfl rfl hcl hc rfl hoz hnx rfl (by omega) (fun x hx => by
      have := adM_n (As := As) (I := I) x hx
      rw [hF, nit_a]
      omega)
    refine ⟨⟨wfl_a.mpr ⟨wx, by rw [Nat.zero_add]; exact ⟨hwf, trivial⟩⟩, hle⟩, LgT_r tx (show ¬ (2 : Nat) = 1 by omega) ⟨z, ?_, z2⟩, ?_⟩
    · show (itp Ex)[g2 (rcC (Int32.ofNat n) (Int32.ofNat c) f3 (Int32.ofNat (zF s)) v3 (Int32.ofNat (adK As I E kt).2) ((adM As I (tls As s) (adK As I E kt).1).2.map Int32.ofNat)) 8]? = some z
      rw [rcC_6 (o := (adK As I E kt).2) (by omega) rfl]
      exact z1'
    · rw [hF, hF2, hF1', List.append_assoc, List.append_assoc, List.append_assoc]
      exact ⟨_, rfl⟩
  by_cases c1 : n = 1
  · subst c1
    obtain ⟨c, hc, hcA⟩ := hck hE
    have hrx : rcX As I v3 kt s E = (adK As I (adM As I (tls As s) (adK As I E kt).1).1 c.1).1 ++ [(2, riN at', rcC (Int32.ofNat 1) (Int32.ofNat (adK As I (adM As I (tls As s) (adK As I E kt).1).1 c.1).2) (ckI (zk s)) (Int32.ofNat (zF s)) v3 (Int32.ofNat (adK As I E kt).2) ((adM As I (tls As s) (adK As I E kt).1).2.map Int32.ofNat))] := by
      unfold rcX
      rw [if_pos hE, hnm, hc]
      rfl
    rw [hrx] at hl ⊢
    obtain ⟨F5, hF5⟩ := adE_p (E := (adM As I (tls As s) (adK As I E kt).1).1) (nm := eN (itE As I c.1)) (X := eC (itE As I c.1))
    exact fin _ _ _ (wfl_k hU hB w2 hcA) (LgT_e t2) ⟨F5, hF5⟩ (fun _ => adE_n) (fun hh => absurd rfl hh) hl
  · have hrx : rcX As I v3 kt s E = (adM As I (tls As s) (adK As I E kt).1).1 ++ [(2, riN at', rcC (Int32.ofNat n) (Int32.ofNat 0) 0 (Int32.ofNat (zF s)) v3 (Int32.ofNat (adK As I E kt).2) ((adM As I (tls As s) (adK As I E kt).1).2.map Int32.ofNat))] := by
      unfold rcX
      rw [if_neg (by rw [hE]; intro hh; exact c1 (Option.some.inj hh)), hnm, hE]
      rfl
    rw [hrx] at hl ⊢
    exact fin _ 0 0 w2 t2 ⟨[], (List.append_nil _).symm⟩ (fun hh => absurd hh c1) (fun _ => rfl) hl
end MWR
/-- disk, live half, epoch, log, writes left, writes done -/
abbrev KSt := (Nat → Int32) × Nat × Nat × List Et × Nat × Int32
abbrev kD (S : KSt) : Nat → Int32 := S.1
abbrev kH (S : KSt) : Nat := S.2.1
abbrev kP (S : KSt) : Nat := S.2.2.1
abbrev kL (S : KSt) : List Et := S.2.2.2.1
abbrev kN (S : KSt) : Nat := S.2.2.2.2.1
abbrev kW (S : KSt) : Int32 := S.2.2.2.2.2
/-- blocks to be written for the log X -/
def apm (S : KSt) (X : List Et) : Nat := nbk (en X 0) - els (kL S) / 61
def apS (S : KSt) (X : List Et) (k : Nat) (L : List Et) : KSt := (wD (kH S) (kP S) (en X 0) k (els (kL S) / 61) (kD S), kH S, kP S, L, kN S - k, kW S + Int32.ofNat k)
def anm (N : List Et) : Nat := nbk (en N 0) + 2
def anS (S : KSt) (N : List Et) (k : Nat) : KSt := (rnD (kD S) (kH S) (kP S) (en N 0) k, 1 - kH S, nxE (kD S) (kH S) (kP S), N, kN S - k, kW S + Int32.ofNat k)
/-- the log X is put behind: 1 done, 2 a crash -/
def ap1 (S : KSt) (X : List Et) : Nat × KSt := if apm S X ≤ kN S then (1, apS S X (apm S X) X) else (2, apS S X (kN S) X)
/-- a run is recorded: 1 done, 0 no room, 2 a crash -/
def kp (As : List Ri) (I : List It) (v3 : Int32) (kt : Nat) (s : Ms) (S : KSt) : Nat × KSt := if els (rcX As I v3 kt s (kL S)) ≤ 7747 then ap1 S (rcX As I v3 kt s (kL S)) else if anm (cpA As (kL S) (nmk As kt) (cnK As 3) 0 []) ≤ kN S then (if els (rcX As I v3 kt s (cpA As (kL S) (nmk As kt) (cnK As 3) 0 [])) ≤ 7747 then ap1 (anS S (cpA As (kL S) (nmk As kt) (cnK As 3) 0 []) (anm (cpA As (kL S) (nmk As kt) (cnK As 3) 0 []))) (rcX As I v3 kt s (cpA As (kL S) (nmk As kt) (cnK As 3) 0 [])) else (0, anS S (cpA As (kL S) (nmk As kt) (cnK As 3) 0 []) (anm (cpA As (kL S) (nmk As kt) (cnK As 3) 0 [])))) else (2, anS S (cpA As (kL S) (nmk As kt) (cnK As 3) 0 []) (kN S))
def KP (S : KSt) (M : Nat) : Prop := DSK (kD S) (kH S) (kP S) (en (kL S) 0) M ∧ LgW (kL S) ∧ LgT (kL S) ∧ kN S < 2147483648
def KX (S : KSt) (M : Nat) : Prop := (∃ h ep E T, CUT (kD S) h ep E T M) ∧ kN S < 2147483648
section MKP
variable {As : List Ri} {I : List It} {S : KSt} {M : Nat} {X : List Et}
theorem ap1_ok (h : KP S M) (hX : ∃ F, X = kL S ++ F) (hW : LgW X) (hT : LgT X) : ((ap1 S X).1 = 1 ∧ KP (ap1 S X).2 M) ∨ ((ap1 S X).1 = 2 ∧ KX (ap1 S X).2 M) := by
  obtain ⟨h1, h2, h3, h4⟩ := h
  obtain ⟨F, hF⟩ := hX
  have hx : en X 0 = en (kL S) 0 ++ en F (nit (kL S)) := by rw [hF, en_a, Nat.zero_add]
  have hlx : (en X 0).length = els X := en_l
  have hl0 : (en (kL S) 0).length = els (kL S) := en_l
  have hw := hW.2
  have hD : ∀ k, k ≤ apm S X → DSK (wD (kH S) (kP S) (en X 0) k (els (kL S) / 61) (kD S)) (kH S) (kP S) ((en X 0).take (cutQ k (els (kL S) / 61) (els (kL S)))) M := fun k hk => by
    have := DSK_a (G := en F (nit (kL S))) (k := k) (by rw [← hx, hlx]; exact hw) h1 (by rw [← hx, hl0]; exact hk)
    rw [← hx, hl0] at this
    exact this
  unfold ap1
  by_cases c : apm S X ≤ kN S
  · rw [if_pos c]
    left
    refine ⟨rfl, ?_, hW, hT, ?_⟩
    · have := hD _ (Nat.le_refl _)
      rw [List.take_of_length_le (by
        rw [hlx]
        have hm : els (kL S) ≤ els X := by rw [hF, els_a]; omega
        unfold cutQ apm nbk
        rw [hlx]
        split <;> omega)] at this
      exact this
    · show kN S - apm S X < 2147483648
      omega
  · rw [if_neg c]
    right
    refine ⟨rfl, ?_, ?_⟩
    · obtain ⟨E1, T, hc⟩ := CUT_e hW hT (hD (kN S) (by omega))
      exact ⟨_, _, E1, T, hc⟩
    · show kN S - kN S < 2147483648
      omega
theorem KP_M {M' : Nat} (hM : M ≤ M') (hM' : M' < 65535) (h : KP S M) : KP S M' := ⟨DSK_M hM hM' h.1, h.2⟩
theorem CUT_M {D : Nat → Int32} {h ep M' : Nat} {E : List Et} {T : List Int32} (hM : M ≤ M') (hM' : M' < 65535) (hc : CUT D h ep E T M) : CUT D h ep E T M' := ⟨DSK_M hM hM' hc.1, hc.2⟩
theorem KX_M {M' : Nat} (hM : M ≤ M') (hM' : M' < 65535) (h : KX S M) : KX S M' := by
  obtain ⟨⟨h', ep, E, T, hc⟩, h2⟩ := h
  exact ⟨⟨h', ep, E, T, CUT_M hM hM' hc⟩, h2⟩
theorem CUT_0 {D : Nat → Int32} {h ep : Nat} {E : List Et} (hk : DSK D h ep (en E 0) M) (hW : LgW E) (hT : LgT E) : CUT D h ep E [] M := ⟨by rw [List.append_nil]; exact hk, hW, hT, Or.inl (by decide), by have := hW.2; simpa using this, aB_n⟩
theorem anS_ok {N : List Et} (hM : M + 1 < 65535) (h : KP S M) (hN : LgW N) (hT : LgT N) (hn : anm N ≤ kN S) : KP (anS S N (anm N)) (M + 1) := by
  obtain ⟨h1, h2, h3, h4⟩ := h
  have hl0 : (en (kL S) 0).length = els (kL S) := en_l
  have hlN : (en N 0).length = els N := en_l
  have hw := h2.2
  have hwN := hN.2
  refine ⟨rnD_ok (by omega) (by omega) hM h1, hN, hT, ?_⟩
  show kN S - anm N < 2147483648
  omega
theorem anS_x {N : List Et} {k : Nat} (hM : M + 1 < 65535) (h : KP S M) (hN : LgW N) (hT : LgT N) (hn : k < anm N) : KX (anS S N k) (M + 1) := by
  obtain ⟨h1, h2, h3, h4⟩ := h
  have hl0 : (en (kL S) 0).length = els (kL S) := en_l
  have hlN : (en N 0).length = els N := en_l
  have hw := h2.2
  have hwN := hN.2
  refine ⟨?_, by show kN S - k < 2147483648; omega⟩
  rcases rnD_x (k := k) (N := en N 0) (by omega) (by omega) hM h1 hn with ⟨_, q⟩ | ⟨_, q⟩
  · exact ⟨_, _, kL S, [], CUT_0 q h2 h3⟩
  · exact ⟨_, _, N, [], CUT_0 q hN hT⟩
theorem kp_ok {v3 : Int32} {kt n : Nat} {s : Ms} (hU : nmU As) (hB : itsB As) (hkt : kt < As.length) (hE : zE s = some n) (hn6 : n < 6) (hck : CKd As s) (hM : M + 1 < 65535) (h : KP S M) : ((kp As I v3 kt s S).1 ≤ 1 ∧ KP (kp As I v3 kt s S).2 (M + 1)) ∨ ((kp As I v3 kt s S).1 = 2 ∧ KX (kp As I v3 kt s S).2 (M + 1)) := by
  have hh := h
  obtain ⟨h1, h2, h3, h4⟩ := h
  have h12 : cnK As 3 ≤ 12 := hB.1 3
  unfold kp
  by_cases c1 : els (rcX As I v3 kt s (kL S)) ≤ 7747
  · rw [if_pos c1]
    obtain ⟨q1, q2, q3⟩ := rcX_ok hU hB h2 h3 hkt hE hn6 hck c1
    rcases ap1_ok hh q3 q1 q2 with ⟨a, b⟩ | ⟨a, b⟩
    · exact Or.inl ⟨by omega, KP_M (by omega) hM b⟩
    · exact Or.inr ⟨a, KX_M (by omega) hM b⟩
  rw [if_neg c1]
  have hN : CPI (kL S) (cpA As (kL S) (nmk As kt) (cnK As 3) 0 []) (tSn As (0 + cnK As 3)) := cpA_ok hU h2 h3 _ _ _ (by omega) CPI_0
  have hNW := CPI_W h2 hN
  have hNT := hN.2.2.2.1
  generalize cpA As (kL S) (nmk As kt) (cnK As 3) 0 [] = N at hNW hNT ⊢
  by_cases c2 : anm N ≤ kN S
  · rw [if_pos c2]
    have k2 := anS_ok hM hh hNW hNT c2
    by_cases c3 : els (rcX As I v3 kt s N) ≤ 7747
    · rw [if_pos c3]
      obtain ⟨q1, q2, q3⟩ := rcX_ok hU hB hNW hNT hkt hE hn6 hck c3
      rcases ap1_ok k2 q3 q1 q2 with ⟨a, b⟩ | ⟨a, b⟩
      · exact Or.inl ⟨by omega, b⟩
      · exact Or.inr ⟨a, b⟩
    · rw [if_neg c3]
      exact Or.inl ⟨Nat.zero_le _, k2⟩
  · rw [if_neg c2]
    exact Or.inr ⟨rfl, anS_x hM hh hNW hNT (by omega)⟩
end MKP
