
/-! ===== a log made anew ===== -/
def cpI (E N : List Et) (j : Nat) : List Et × Nat := adE N (eN (eAt E j)) (eC (eAt E j))
def cpL (E : List Et) : List Nat → List Et → List Et × List Nat
  | [], N => (N, [])
  | j :: r, N => ((cpL E r (cpI E N j).1).1, (cpI E N j).2 :: (cpL E r (cpI E N j).1).2)
def tjs (C : List Int32) : List Nat := (List.range (g1 C 10)).map (fun k => g2 C (11 + 2 * k))
def cpK (E N : List Et) (C : List Int32) : List Et × Nat := if g1 C 0 = 1 then cpI E N (g2 C 1) else (N, 0)
def cpO (E N : List Et) (C : List Int32) : List Et := (cpI E N (g2 C 8)).1
def cpT (E N : List Et) (C : List Int32) : List Et × List Nat := cpL E (tjs C) (cpO E N C)
def cpC (E N : List Et) (C : List Int32) : List Int32 := rcC (Int32.ofNat (g1 C 0)) (Int32.ofNat (cpK E (cpT E N C).1 C).2) (Int32.ofNat (g1 C 3)) (Int32.ofNat (g2 C 4)) (Int32.ofNat (g2 C 6)) (Int32.ofNat (cpI E N (g2 C 8)).2) ((cpT E N C).2.map Int32.ofNat)
/-- the record y of E, copied behind N with what it needs -/
def cpR (E N : List Et) (y : Et) : List Et := (cpK E (cpT E N (eC y)).1 (eC y)).1 ++ [(2, eN y, cpC E N (eC y))]
def cp1 (As : List Ri) (E : List Et) (x t : Nat) (N : List Et) : List Et := if t = x then N else match fkA As 3 (Int32.ofNat t) As.length 0 with
  | none => N
  | some k => match As[k]? with
    | none => N
    | some a => match lrc (rcp E) (riN a) (rcp E).length with
      | none => N
      | some y => cpR E N y.2
def cpA (As : List Ri) (E : List Et) (x : Nat) : Nat → Nat → List Et → List Et
  | 0, _, N => N
  | m + 1, t, N => cpA As E x m (t + 1) (cp1 As E x t N)
def kyE (x : Et) : Et := if eK x = 1 then x else (eK x, eN x, [])
theorem els_mem {y : Et} : ∀ {E : List Et}, y ∈ E → ∃ E1 E2, E = E1 ++ y :: E2 ∧ els E = el y + els (E1 ++ E2) := fun {E} h => by
  obtain ⟨E1, E2, h1⟩ := List.append_of_mem h
  exact ⟨E1, E2, h1, by rw [h1, els_a, els_a, els]; omega⟩
/-- things of different keys, each as long as one of E of its key, are no longer than E -/
theorem els_ky : ∀ {N E : List Et}, (N.map kyE).Nodup → (∀ x ∈ N, ∃ y ∈ E, kyE y = kyE x ∧ el y = el x) → els N ≤ els E
  | [], E, _, _ => by simp [els]
  | x :: N, E, hn, h => by
    obtain ⟨y, hy, hy1, hy2⟩ := h x List.mem_cons_self
    obtain ⟨E1, E2, h1, h2⟩ := els_mem hy
    rw [List.map_cons, List.nodup_cons] at hn
    have := els_ky (N := N) (E := E1 ++ E2) hn.2 (fun x' hx' => by
      obtain ⟨y', hy', q1, q2⟩ := h x' (List.mem_cons_of_mem _ hx')
      refine ⟨y', ?_, q1, q2⟩
      rw [h1] at hy'
      rcases List.mem_append.mp hy' with q | q
      · exact List.mem_append_left _ q
      · rcases List.mem_cons.mp q with q | q
        · exfalso
          subst q
          exact hn.1 (List.mem_map.mpr ⟨x', hx', by rw [← q1, hy1]⟩)
        · exact List.mem_append_right _ q)
    rw [els, h2]
    omega
theorem efd_0 {P : List (Nat × Et)} {nm : List Nat} {X : List Int32} : ∀ {m j : Nat}, efd P nm X m j = none → ∀ i y, j ≤ i → i < j + m → P[i]? = some y → ¬ (eN y.2 = nm ∧ eC y.2 = X)
  | 0, j, _, i, y, h1, h2, _ => by omega
  | m + 1, j, h, i, y, h1, h2, hy => by
    unfold efd at h
    by_cases c : i = j
    · subst c
      rw [hy] at h
      dsimp only at h
      intro hc
      rw [if_pos hc] at h
      cases h
    · cases hp : P[j]? with
      | none =>
        exfalso
        have q1 := (List.getElem?_eq_some_iff.mp hy).1
        have q2 := List.getElem?_eq_none_iff.mp hp
        omega
      | some z =>
        rw [hp] at h
        dsimp only at h
        split at h
        · cases h
        · exact efd_0 h i y (by omega) (by omega) hy
theorem pse_m : ∀ {E : List Et} {o : Nat} {x : Et}, x ∈ E → ∃ p, (p, x) ∈ pse E o
  | [], _, _, h => absurd h List.not_mem_nil
  | z :: r, o, x, h => by
    rw [pse]
    rcases List.mem_cons.mp h with h | h
    · subst h; exact ⟨_, List.mem_cons_self⟩
    · obtain ⟨p, hp⟩ := pse_m (o := o + el z) h
      exact ⟨p, List.mem_cons_of_mem _ hp⟩
theorem pse_e {E : List Et} {y : Nat × Et} {o : Nat} (h : y ∈ pse E o) : y.2 ∈ E := by
  obtain ⟨E1, E2, h1, _⟩ := pse_s h
  rw [h1]
  exact List.mem_append_right _ List.mem_cons_self
theorem itp_x {E : List Et} {x : Et} (h : x ∈ E) (hk : eK x = 1) : ∃ p, (p, x) ∈ itp E := by
  obtain ⟨p, hp⟩ := pse_m (o := 0) h
  exact ⟨p, List.mem_filter.mpr ⟨hp, by simpa using hk⟩⟩
/-- N is being made out of E; the names of its records are of S -/
def CPI (E N : List Et) (S : List Nat → Prop) : Prop := (N.map kyE).Nodup ∧ (∀ x ∈ N, ∃ y ∈ E, kyE y = kyE x ∧ el y = el x) ∧ wfl N 0 ∧ LgT N ∧ ∀ x ∈ N, ¬ eK x = 1 → S (eN x)
section MCP
variable {As : List Ri} {E N : List Et} {S : List Nat → Prop}
theorem CPI_0 : CPI E [] S := ⟨List.nodup_nil, fun x hx => absurd hx List.not_mem_nil, trivial, LgT_0, fun x hx => absurd hx List.not_mem_nil⟩
theorem CPI_W (hW : LgW E) (h : CPI E N S) : LgW N := ⟨h.2.2.1, Nat.le_trans (els_ky h.1 h.2.1) hW.2⟩
theorem CPI_i {j : Nat} (hW : LgW E) (h : CPI E N S) (hj : j < nit E) : CPI E (cpI E N j).1 S := by
  obtain ⟨z, hz, hze⟩ := itp_e hj
  have hzm := itp_m (List.mem_of_getElem? hz)
  have hwz := wfl_p hW.1 hzm.1
  obtain ⟨p1, p2, p3, p4⟩ := hwz
  have hx2 : 2 ≤ (eC z.2).length := by
    rcases p4 with p4 | p4
    · exact p4.2
    · have := p4.1; have := hzm.2; omega
  unfold cpI adE
  rw [hze]
  cases hf : efd (itp N) (eN z.2) (eC z.2) (itp N).length 0 with
  | some i => exact h
  | none =>
    obtain ⟨h1, h2, h3, h4, h5⟩ := h
    dsimp only
    have hzt : z.2 = (1, eN z.2, eC z.2) := by
      have := hzm.2
      rw [← this]
    refine ⟨?_, fun x hx => ?_, wfl_a.mpr ⟨h3, ⟨p1, p2, p3, Or.inl ⟨rfl, hx2⟩⟩, trivial⟩, LgT_i h4 rfl, fun x hx hk => ?_⟩
    · rw [List.map_append, List.nodup_append]
      refine ⟨h1, by simp, fun a ha b hb => ?_⟩
      intro hab
      rw [List.map_cons, List.map_nil, List.mem_singleton] at hb
      obtain ⟨x, hx, hxa⟩ := List.mem_map.mp ha
      rw [hab, hb] at hxa
      have hk1 : kyE (1, eN z.2, eC z.2) = (1, eN z.2, eC z.2) := if_pos rfl
      rw [hk1] at hxa
      unfold kyE at hxa
      by_cases c : eK x = 1
      · rw [if_pos c] at hxa
        obtain ⟨p, hp⟩ := itp_x hx c
        obtain ⟨i, hi⟩ := List.getElem?_of_mem hp
        have hil := (List.getElem?_eq_some_iff.mp hi).1
        exact efd_0 hf i _ (by omega) (by omega) hi (by rw [hxa]; exact ⟨rfl, rfl⟩)
      · rw [if_neg c] at hxa
        exact c (congrArg eK hxa)
    · rcases List.mem_append.mp hx with hx | hx
      · exact h2 x hx
      · rw [List.mem_singleton.mp hx]
        exact ⟨z.2, pse_e hzm.1, by rw [← hzt], by rw [← hzt]⟩
    · rcases List.mem_append.mp hx with hx | hx
      · exact h5 x hx hk
      · rw [List.mem_singleton.mp hx] at hk
        exact absurd rfl hk
theorem cpL_ok (hW : LgW E) : ∀ {js : List Nat} {N : List Et}, CPI E N S → (∀ j ∈ js, j < nit E) → CPI E (cpL E js N).1 S
  | [], N, h, _ => h
  | j :: r, N, h, hj => by
    rw [cpL]
    exact cpL_ok hW (CPI_i hW h (hj j List.mem_cons_self)) (fun i hi => hj i (List.mem_cons_of_mem _ hi))
theorem cpL_p : ∀ {js : List Nat} {N : List Et}, ∃ F, (cpL E js N).1 = N ++ F
  | [], N => ⟨[], (List.append_nil _).symm⟩
  | j :: r, N => by
    rw [cpL]
    obtain ⟨F1, h1⟩ := adE_p (E := N) (nm := eN (eAt E j)) (X := eC (eAt E j))
    obtain ⟨F2, h2⟩ := cpL_p (js := r) (N := (cpI E N j).1)
    refine ⟨F1 ++ F2, ?_⟩
    rw [h2]
    unfold cpI
    rw [h1, List.append_assoc]
theorem cpL_n : ∀ {js : List Nat} {N : List Et}, ∀ x ∈ (cpL E js N).2, x < nit (cpL E js N).1
  | [], N => fun x hx => by rw [cpL] at hx; exact absurd hx List.not_mem_nil
  | j :: r, N => fun x hx => by
    rw [cpL] at hx ⊢
    rcases List.mem_cons.mp hx with hx | hx
    · obtain ⟨F, hF⟩ := cpL_p (E := E) (js := r) (N := (cpI E N j).1)
      have := adE_n (E := N) (nm := eN (eAt E j)) (X := eC (eAt E j))
      rw [hx, hF, nit_a]
      show (cpI E N j).2 < nit (cpI E N j).1 + nit F
      unfold cpI
      omega
    · exact cpL_n x hx
theorem cpL_l : ∀ {js : List Nat} {N : List Et}, (cpL E js N).2.length = js.length
  | [], N => rfl
  | j :: r, N => by rw [cpL, List.length_cons, List.length_cons, cpL_l]
theorem tjs_m {C : List Int32} {n : Nat} (h : ∀ j, j < g1 C 10 → g2 C (11 + 2 * j) < n) : ∀ j ∈ tjs C, j < n := fun j hj => by
  unfold tjs at hj
  obtain ⟨k, hk, rfl⟩ := List.mem_map.mp hj
  exact h k (List.mem_range.mp hk)
theorem tjs_l {C : List Int32} : (tjs C).length = g1 C 10 := by unfold tjs; rw [List.length_map, List.length_range]
theorem cpK_p {C : List Int32} : ∃ F, (cpK E N C).1 = N ++ F := by
  unfold cpK
  split
  · exact adE_p
  · exact ⟨[], (List.append_nil _).symm⟩
theorem cpR_ok {y : Nat × Et} (hW : LgW E) (hT : LgT E) (h : CPI E N S) (hy : y ∈ rcp E) (hS : ∀ x, S x → x ≠ eN y.2) : CPI E (cpO E N (eC y.2)) S ∧ CPI E (cpT E N (eC y.2)).1 S ∧ CPI E (cpK E (cpT E N (eC y.2)).1 (eC y.2)).1 S ∧ wfe (2, eN y.2, cpC E N (eC y.2)) (nit (cpK E (cpT E N (eC y.2)).1 (eC y.2)).1) ∧ CPI E (cpR E N y.2) (fun x => S x ∨ x = eN y.2) := by
  obtain ⟨r1, r2, r3, r4, r5, r6⟩ := rec_w hW hy
  have hO : CPI E (cpO E N (eC y.2)) S := CPI_i hW h r4
  have hL : CPI E (cpT E N (eC y.2)).1 S := cpL_ok hW hO (tjs_m r6)
  have hK : CPI E (cpK E (cpT E N (eC y.2)).1 (eC y.2)).1 S := by
    unfold cpK
    by_cases c : g1 (eC y.2) 0 = 1
    · rw [if_pos c]; exact CPI_i hW hL (r5 c)
    · rw [if_neg c]; exact hL
  have hyk : eK y.2 = 2 := by
    have h1 := (rcp_m hy).2
    rcases (wfl_p hW.1 r1).2.2.2 with q | q
    · exact absurd q.1 h1
    · exact q.1
  obtain ⟨w1, w2, _, _⟩ := wfl_p hW.1 r1
  have hKW := CPI_W hW hK
  have hn := (LgW_n hKW).2.2
  obtain ⟨F1, hF1⟩ := cpL_p (E := E) (js := tjs (eC y.2)) (N := cpO E N (eC y.2))
  obtain ⟨F2, hF2⟩ := cpK_p (E := E) (N := (cpT E N (eC y.2)).1) (C := eC y.2)
  have hF1' : (cpT E N (eC y.2)).1 = cpO E N (eC y.2) ++ F1 := hF1
  have hown : (cpI E N (g2 (eC y.2) 8)).2 < nit (cpO E N (eC y.2)) := adE_n
  have hno : nit (cpO E N (eC y.2)) ≤ nit (cpT E N (eC y.2)).1 := by rw [hF1', nit_a]; omega
  have hnt : nit (cpT E N (eC y.2)).1 ≤ nit (cpK E (cpT E N (eC y.2)).1 (eC y.2)).1 := by rw [hF2, nit_a]; omega
  have hk2 : g1 (eC y.2) 0 = 1 → (cpK E (cpT E N (eC y.2)).1 (eC y.2)).2 < nit (cpK E (cpT E N (eC y.2)).1 (eC y.2)).1 := fun c => by
    unfold cpK
    rw [if_pos c]
    exact adE_n
  have hk3 : (cpK E (cpT E N (eC y.2)).1 (eC y.2)).2 < 65536 := by
    by_cases c : g1 (eC y.2) 0 = 1
    · have := hk2 c; omega
    · unfold cpK; rw [if_neg c]; show 0 < 65536; omega
  have hlen : (cpT E N (eC y.2)).2.length = g1 (eC y.2) 10 := by unfold cpT; rw [cpL_l, tjs_l]
  have hwf : wfe (2, eN y.2, cpC E N (eC y.2)) (nit (cpK E (cpT E N (eC y.2)).1 (eC y.2)).1) := rcC_wf w1 w2 (g1_lt _ _) rfl rfl hk3 hk2 rfl (by omega) hn rfl (by omega) (fun x hx => by have h9 : x < nit (cpT E N (eC y.2)).1 := cpL_n x hx; omega)
  refine ⟨hO, hL, hK, hwf, ?_⟩
  obtain ⟨h1, h2, h3, h4, h5⟩ := hK
  unfold cpR
  refine ⟨?_, fun x hx => ?_, wfl_a.mpr ⟨h3, by rw [Nat.zero_add]; exact ⟨hwf, trivial⟩⟩, LgT_r h4 (show ¬ (2 : Nat) = 1 by decide) ?_, fun x hx hk => ?_⟩
  · rw [List.map_append, List.nodup_append]
    refine ⟨h1, by simp, fun a ha b hb => ?_⟩
    intro hab
    rw [List.map_cons, List.map_nil, List.mem_singleton] at hb
    obtain ⟨x, hx, hxa⟩ := List.mem_map.mp ha
    rw [hab, hb, show kyE (2, eN y.2, cpC E N (eC y.2)) = (2, eN y.2, []) from if_neg (show ¬ (2 : Nat) = 1 by decide)] at hxa
    unfold kyE at hxa
    by_cases c : eK x = 1
    · rw [if_pos c] at hxa
      have := congrArg eK hxa
      dsimp only [eK] at this
      have c' : x.1 = 1 := c
      omega
    · rw [if_neg c] at hxa
      exact hS (eN x) (h5 x hx c) ((Prod.mk.inj (Prod.mk.inj hxa).2).1)
  · rcases List.mem_append.mp hx with hx | hx
    · exact h2 x hx
    · rw [List.mem_singleton.mp hx]
      refine ⟨y.2, pse_e r1, ?_, ?_⟩
      · unfold kyE
        rw [if_neg (rcp_m hy).2, if_neg (show ¬ (2 : Nat) = 1 by decide), hyk]
      · have e1 : hL1 y.2 = 3 := if_neg (rcp_m hy).2
        have e2 : hL1 (2, eN y.2, cpC E N (eC y.2)) = 3 := if_neg (show ¬ (2 : Nat) = 1 by decide)
        unfold el
        rw [e1, e2]
        show 3 + 1 + (eN y.2).length + (eC y.2).length = 3 + 1 + (eN y.2).length + (cpC E N (eC y.2)).length
        unfold cpC
        rw [rcC_l, List.length_map, hlen, r2]
  · show ∃ z, (itp _)[g2 (cpC E N (eC y.2)) 8]? = some z ∧ eN z.2 = eN y.2
    unfold cpC
    rw [rcC_6 (o := (cpI E N (g2 (eC y.2) 8)).2) (by omega) rfl]
    obtain ⟨z, hz, hz1, _⟩ := adE_at (E := N) (nm := eN (eAt E (g2 (eC y.2) 8))) (X := eC (eAt E (g2 (eC y.2) 8)))
    obtain ⟨u, hu, hu1⟩ := hT y hy
    have hue : eAt E (g2 (eC y.2) 8) = u.2 := by unfold eAt; rw [hu]
    refine ⟨z, ?_, by rw [hz1, hue, hu1]⟩
    rw [hF2, hF1']
    exact itp_ap (itp_ap hz)
  · rcases List.mem_append.mp hx with hx | hx
    · exact Or.inl (h5 x hx hk)
    · rw [List.mem_singleton.mp hx]
      exact Or.inr rfl
/-- the names of the first so many tests -/
def tSn (As : List Ri) (t : Nat) (l : List Nat) : Prop := ∃ t' k a, t' < t ∧ fkA As 3 (Int32.ofNat t') As.length 0 = some k ∧ As[k]? = some a ∧ l = riN a
theorem tSn_d {t k : Nat} {a : Ri} (hU : nmU As) (ht : t < 2147483648) (hf : fkA As 3 (Int32.ofNat t) As.length 0 = some k) (ha : As[k]? = some a) : ∀ l, tSn As t l → l ≠ riN a := fun l hl he => by
  obtain ⟨t', k', a', h1, h2, h3, h4⟩ := hl
  have e1 := (hU k a ha).1
  have e2 := (hU k' a' h3).1
  rw [← h4, he, e1] at e2
  cases e2
  obtain ⟨_, _, _, n1⟩ := fkA_n hf
  obtain ⟨_, _, _, n2⟩ := fkA_n h2
  rw [n1] at n2
  have := (oN_e (by omega) (by omega)).mp n2
  omega
theorem CPI_m {S S' : List Nat → Prop} (h : CPI E N S) (hS : ∀ x, S x → S' x) : CPI E N S' := ⟨h.1, h.2.1, h.2.2.1, h.2.2.2.1, fun x hx hk => hS _ (h.2.2.2.2 x hx hk)⟩
theorem cp1_ok {x t : Nat} (hU : nmU As) (hW : LgW E) (hT : LgT E) (ht : t < 2147483648) (h : CPI E N (tSn As t)) : CPI E (cp1 As E x t N) (tSn As (t + 1)) := by
  have hm : ∀ l, tSn As t l → tSn As (t + 1) l := fun l hl => by
    obtain ⟨t', k', a', h1, h2⟩ := hl
    exact ⟨t', k', a', by omega, h2⟩
  unfold cp1
  by_cases c : t = x
  · rw [if_pos c]; exact CPI_m h hm
  rw [if_neg c]
  cases hf : fkA As 3 (Int32.ofNat t) As.length 0 with
  | none => exact CPI_m h hm
  | some k =>
    dsimp only
    cases ha : As[k]? with
    | none => exact CPI_m h hm
    | some a =>
      dsimp only
      cases hl : lrc (rcp E) (riN a) (rcp E).length with
      | none => exact CPI_m h hm
      | some y =>
        dsimp only
        obtain ⟨hy, hyn⟩ := lrc_m hl
        refine CPI_m (cpR_ok hW hT h hy (fun l hl2 => by rw [hyn]; exact tSn_d hU ht hf ha l hl2)).2.2.2.2 (fun l hl2 => ?_)
        rcases hl2 with hl2 | hl2
        · exact hm l hl2
        · exact ⟨t, k, a, by omega, hf, ha, by rw [hl2, hyn]⟩
theorem cpA_ok {x : Nat} (hU : nmU As) (hW : LgW E) (hT : LgT E) : ∀ (m t : Nat) (N : List Et), t + m < 2147483648 → CPI E N (tSn As t) → CPI E (cpA As E x m t N) (tSn As (t + m))
  | 0, t, N, _, h => h
  | m + 1, t, N, ht, h => by
    rw [cpA, show t + (m + 1) = t + 1 + m by omega]
    exact cpA_ok hU hW hT m (t + 1) _ (by omega) (cp1_ok hU hW hT (by omega) h)
end MCP
