
/-! ===== the class copies a record into the log made anew ===== -/
def cpF (A c k : Nat) : Prop := (c = A ∧ (k = 1 ∨ k = 6 ∨ k = 9 ∨ k = 10)) ∨ (A + 1 ≤ c ∧ c ≤ A + 6) ∨ c = 92 ∨ c = 93
def c2F (A c k : Nat) : Prop := wlF A c k ∨ c = 93
section MCY
variable {e : my_E} {d : Nat} {κ : my_K} {σ σ' : my_S} {Q : my_O → my_K → my_S → Prop} {A A' : Nat} {E N : List Et} {y : Nat × Et} {S : List Nat → Prop}
theorem c_183 {j : Nat} {v : Int32} (hA : lg2 A) (hA' : lg2 A') (hne : A' ≠ A) (hW : LgW E) (hC : LgC A' E σ) (hI : CPI E N S) (hx : WX A [] N σ) (hj : j < nit E) (hv : v = Int32.ofNat j) (hd : 3 ≤ d) (hQ : ∀ σ', WX A [] (cpI E N j).1 σ' → eqp (wlF A) σ σ' → Q (.inl (some (.inl (Int32.ofNat (cpI E N j).2)))) κ σ') : my_M e d 183 [.inr (.inr (some A)), .inr (.inr (some A')), .inl v] κ σ Q := by
  obtain ⟨d, rfl⟩ := dS 1 (show 1 ≤ d by omega)
  obtain ⟨z, hz, hze⟩ := itp_e hj
  have hzm := itp_m (List.mem_of_getElem? hz)
  obtain ⟨p1, p2, p3, p4⟩ := wfl_p hW.1 hzm.1
  have hx2 : 2 ≤ (eC z.2).length := by
    rcases p4 with p4 | p4
    · exact p4.2
    · have := p4.1; have := hzm.2; omega
  have hel : els (cpI E N j).1 ≤ 7747 := (CPI_W hW (CPI_i hW hI hj)).2
  obtain ⟨b1, b2⟩ := pse_b hzm.1
  have hw := hW.2
  have hS : Src A (A' + 1) (z.1 + 1 + (eN z.2).length) (eC z.2) σ := by
    refine ⟨fun i x hx => ?_, Or.inr ⟨A', hA', hne, rfl, by omega⟩⟩
    rw [show z.1 + 1 + (eN z.2).length + i = z.1 + (1 + (eN z.2).length + i) by omega]
    refine hC.2.1 _ x (b1 _ x ?_)
    rw [List.getElem?_append_right (by rw [nmE_l]; omega), nmE_l, show 1 + (eN z.2).length + i - (1 + (eN z.2).length) = i by omega]
    exact hx
  unfold cpI at hel hQ
  rw [hze] at hel hQ
  refine ys_183 (in8 hA) ?_
  unfold ys_183_0
  rw [hv]
  refine ⟨A', rfl, in8 hA', c_176 hA' hW hC hz (by omega) ?_⟩
  rw [my_kL_v]
  refine ⟨A', rfl, in8 hA', A', rfl, in8 hA', c_174 hA' hW hC hz (by omega) ?_⟩
  rw [my_kI_v]
  refine ⟨A', rfl, in8 hA', c_175 hA' hW hC hz (by omega) ?_⟩
  rw [my_kI_v]
  refine c_177 hA p3 hx2 p1 p2 hx hS (by omega) (fun σ1 x w1 x1 f1 => ?_)
  rw [my_kI_v, x1 hel]
  exact hQ σ1 w1 f1
theorem c_182l {cnt : Nat} {v3 : Int32} (hA : lg2 A) (hA' : lg2 A') (hne : A' ≠ A) (hW : LgW E) (hC : LgC A' E σ) (h7 : σ.1 92 7 = Int32.ofNat cnt) (h30 : cnt ≤ 30) (hd : 3 ≤ d) : ∀ (rest : List Nat) (ns : List Nat) (N : List Et) (σ' : my_S), ns.length + rest.length = cnt → (∀ i ∈ rest, i < nit E) → (∀ (k i : Nat), rest[k]? = some i → σ'.1 93 (ns.length + k) = Int32.ofNat i) → (∀ (k x : Nat), ns[k]? = some x → σ'.1 93 k = Int32.ofNat x) → CPI E N S → WX A [] N σ' → eqp (c2F A) σ σ' → (∀ σ2, WX A [] (cpL E rest N).1 σ2 → (∀ (k x : Nat), (ns ++ (cpL E rest N).2)[k]? = some x → σ2.1 93 k = Int32.ofNat x) → eqp (c2F A) σ σ2 → ys_182_65 e d A (some A') (some 92) v3 κ σ2 Q) → ys_182_21 e d A (some A') (some 92) v3 (Int32.ofNat ns.length) κ σ' Q := by
  have hAA := hA
  have hAA' := hA'
  unfold lg2 at hAA hAA'
  have cx : ∀ c k, c2F A c k → (A ≤ c ∧ c ≤ A + 6) ∨ c = 93 := fun c k hh => by unfold c2F wlF at hh; omega
  intro rest
  induction rest with
  | nil =>
    intro ns N σ' hl hb hr hn hI hX f hQ
    have hl : ns.length = cnt := by simpa using hl
    unfold ys_182_21
    refine ⟨92, rfl, in9, ?_⟩
    rw [eqp_g f (fun hh => by have := cx _ _ hh; omega), h7, if_neg (fun hh => by have := (oN_lt (by omega) (by omega)).mp hh; omega)]
    exact hQ σ' hX (by rw [cpL, List.append_nil]; exact hn) f
  | cons i rest ih =>
    intro ns N σ' hl hb hr hn hI hX f hQ
    rw [List.length_cons] at hl
    have hi := hb i List.mem_cons_self
    have hri := hr 0 i rfl
    rw [Nat.add_zero] at hri
    unfold ys_182_21
    refine ⟨92, rfl, in9, ?_⟩
    rw [eqp_g f (fun hh => by have := cx _ _ hh; omega), h7, if_pos ((oN_lt (by omega) (by omega)).mpr (by omega))]
    refine ⟨92, rfl, in9, ?_⟩
    rw [if_pos ((oN_lt1 (b := 30) (c := 30) rfl (by omega) (by omega)).mpr (by omega)), oN_n (by omega)]
    refine ⟨92, rfl, in9, 92, rfl, in9, bdk (by omega) (by omega), ?_⟩
    refine c_183 hA hA' hne hW (LgC_o hC f (fun c k hh => by have := cx _ _ hh; omega)) hI hX hi hri (by omega) (fun σ1 x1 f1 => ?_)
    rw [my_kI_v, oN_s]
    refine ⟨bdk (by omega) (by omega), ys_182_21_ok (in8 hA) ?_⟩
    have w1 : ∀ c k, wlF A c k → A ≤ c ∧ c ≤ A + 6 := fun c k hh => by unfold wlF at hh; omega
    have f2 : eqp (fun c k => c = 93 ∧ k = ns.length) σ1 (my_uI σ1 (92 + 1) ns.length (Int32.ofNat (cpI E N i).2)) := eqp_I eqp_rf ⟨rfl, rfl⟩
    have g2 : (my_uI σ1 (92 + 1) ns.length (Int32.ofNat (cpI E N i).2)).1 93 ns.length = Int32.ofNat (cpI E N i).2 := uI_s
    generalize my_uI σ1 (92 + 1) ns.length (Int32.ofNat (cpI E N i).2) = σ2 at f2 g2 ⊢
    have key := ih (ns ++ [(cpI E N i).2]) (cpI E N i).1 σ2 (by rw [List.length_append, List.length_singleton]; omega) (fun q hq => hb q (List.mem_cons_of_mem _ hq)) (fun k q hq => ?_) (fun k q hq => ?_) (CPI_i hW hI hi) (WX_92 hA x1 f2 (fun c k hh => Or.inr hh.1)) (eqp_tr f (eqp_tr (eqp_mo f1 (fun c k hh => Or.inl hh)) (eqp_mo f2 (fun c k hh => Or.inr hh.1)))) (fun σ3 x3 e3 f3 => hQ σ3 (by rw [cpL]; exact x3) (by rw [cpL]; rw [List.append_assoc] at e3; exact e3) f3)
    · rw [List.length_append, List.length_singleton] at key
      exact key
    · rw [List.length_append, List.length_singleton]
      have := hr (k + 1) q (by rw [List.getElem?_cons_succ]; exact hq)
      rw [eqp_g f2 (by omega), eqp_g f1 (fun hh => by have := w1 _ _ hh; omega), show ns.length + 1 + k = ns.length + (k + 1) by omega]
      exact this
    · rcases gA hq with ⟨q1, q2⟩ | ⟨q1, q2⟩
      · rw [eqp_g f2 (by omega), eqp_g f1 (fun hh => by have := w1 _ _ hh; omega)]
        exact hn k q q2
      · rw [q1, q2]
        exact g2
theorem c_182 (hA : lg2 A) (hA' : lg2 A') (hne : A' ≠ A) (hW : LgW E) (hT : LgT E) (hC : LgC A' E σ) (hy : y ∈ rcp E) (hO : OcC (eC y.2) σ) (hnm : σ.2.1 92 0 = nmC (eN y.2)) (hI : CPI E N S) (hS : ∀ x, S x → x ≠ eN y.2) (hx : WX A [] N σ) (hd : 4 ≤ d) (hQ : ∀ σ', WX A [] (cpR E N y.2) σ' → eqp (cpF A) σ σ' → Q (.inl none) κ σ') : my_M e d 182 [.inr (.inr (some A)), .inr (.inr (some A')), .inr (.inr (some 92))] κ σ Q := by
  obtain ⟨d, rfl⟩ := dS 1 (show 1 ≤ d by omega)
  have hAA := hA
  have hAA' := hA'
  unfold lg2 at hAA hAA'
  obtain ⟨hO1, hO2, hO3, hO4, hO5⟩ := cpR_ok hW hT hI hy hS
  obtain ⟨r1, r2, r3, r4, r5, r6⟩ := rec_w hW hy
  obtain ⟨⟨o1, o2, o3, o4, o5, o6⟩, o7, o8⟩ := hO
  have w1 : ∀ c k, wlF A c k → A ≤ c ∧ c ≤ A + 6 := fun c k hh => by unfold wlF at hh; omega
  have hlen : (cpT E N (eC y.2)).2.length = g1 (eC y.2) 10 := by unfold cpT; rw [cpL_l, tjs_l]
  have hwN := (wfl_p hW.1 r1).1
  refine ys_182 (in8 hA) ?_
  unfold ys_182_0
  refine ⟨92, rfl, in9, 92, rfl, in9, c_183 hA hA' hne hW hC hI hx r4 o6 (by omega) (fun σ1 x1 f1 => ?_)⟩
  rw [my_kI_v]
  refine ⟨92, rfl, in9, ?_⟩
  have f2 : eqp (fun c k => c = 92 ∧ k = 6) σ1 (my_uI σ1 92 6 (Int32.ofNat (cpI E N (g2 (eC y.2) 8)).2)) := eqp_I eqp_rf ⟨rfl, rfl⟩
  have g6 : (my_uI σ1 92 6 (Int32.ofNat (cpI E N (g2 (eC y.2) 8)).2)).1 92 6 = Int32.ofNat (cpI E N (g2 (eC y.2) 8)).2 := uI_s
  generalize my_uI σ1 92 6 (Int32.ofNat (cpI E N (g2 (eC y.2) 8)).2) = σ2 at f2 g6 ⊢
  have f12 : eqp (fun c k => (A ≤ c ∧ c ≤ A + 6) ∨ (c = 92 ∧ k = 6)) σ σ2 := eqp_tr (eqp_mo f1 (fun c k hh => Or.inl (w1 c k hh))) (eqp_mo f2 (fun c k hh => Or.inr hh))
  have F2 : eqp (cpF A) σ σ2 := eqp_tr (eqp_mo f1 (fun c k hh => by unfold wlF at hh; unfold cpF; omega)) (eqp_mo f2 (fun c k hh => by unfold cpF; omega))
  have key := c_182l (σ := σ2) (e := e) (d := d) (κ := κ) (Q := Q) (S := S) (cnt := g1 (eC y.2) 10) (v3 := σ.1 92 2) hA hA' hne hW (LgC_o hC f12 (fun c k hh => by omega)) ((eqp_g f12 (by omega)).trans o7) r3 (by omega) (tjs (eC y.2)) [] (cpO E N (eC y.2)) σ2 (by rw [tjs_l]; simp) (tjs_m r6) (fun k i hi => ?_) (fun k x hx => by simp at hx) hO1 (WX_92 hA x1 f2 (fun c k hh => Or.inl hh.1)) eqp_rf (fun σ3 x3 e3 f3 => ?_)
  · exact ys_182_21_ok (in8 hA) key
  · have hk := (List.getElem?_eq_some_iff.mp hi).1
    rw [tjs_l] at hk
    unfold tjs at hi
    rw [List.getElem?_map, List.getElem?_range hk] at hi
    rw [List.length_nil, Nat.zero_add, eqp_g f12 (by omega), o8 k hk]
    exact congrArg Int32.ofNat (Option.some.inj hi)
  · rw [List.nil_append] at e3
    have c3 : ∀ c k, c2F A c k → (A ≤ c ∧ c ≤ A + 6) ∨ c = 93 := fun c k hh => by unfold c2F wlF at hh; omega
    have F3 : eqp (cpF A) σ σ3 := eqp_tr F2 (eqp_mo f3 (fun c k hh => by unfold c2F wlF at hh; unfold cpF; omega))
    have k92 : ∀ {k : Nat}, k ≠ 6 → σ3.1 92 k = σ.1 92 k := fun h6 => (eqp_g f3 (fun hh => by have := c3 _ _ hh; omega)).trans (eqp_g f12 (by omega))
    have k6 : σ3.1 92 6 = Int32.ofNat (cpI E N (g2 (eC y.2) 8)).2 := (eqp_g f3 (fun hh => by have := c3 _ _ hh; omega)).trans g6
    have k0 : σ3.2.1 92 0 = nmC (eN y.2) := by rw [(f3 92 0 (fun hh => by have := c3 _ _ hh; omega)).2.1, (f12 92 0 (by omega)).2.1]; exact hnm
    have x3' : WX A [] (cpT E N (eC y.2)).1 σ3 := x3
    have fin : ∀ (v : Int32) (σ4 : my_S), v = Int32.ofNat (cpK E (cpT E N (eC y.2)).1 (eC y.2)).2 → WX A [] (cpK E (cpT E N (eC y.2)).1 (eC y.2)).1 σ4 → eqp (wlF A) σ3 σ4 → ys_182_84 e d A (some 92) v (some 92) κ σ4 Q := by
      intro v σ4 hv x4 f4
      unfold ys_182_84
      refine ⟨92, rfl, in9, ?_⟩
      have f5 : eqp (fun c k => c = 92 ∧ k = 2) σ4 (my_uI σ4 92 2 v) := eqp_I eqp_rf ⟨rfl, rfl⟩
      have g5 : (my_uI σ4 92 2 v).1 92 2 = v := uI_s
      generalize my_uI σ4 92 2 v = σ5 at f5 g5 ⊢
      have f45 : eqp (fun c k => (A ≤ c ∧ c ≤ A + 6) ∨ (c = 92 ∧ k = 2)) σ3 σ5 := eqp_tr (eqp_mo f4 (fun c k hh => Or.inl (w1 c k hh))) (eqp_mo f5 (fun c k hh => Or.inr hh))
      have F5 : eqp (cpF A) σ σ5 := eqp_tr F3 (eqp_tr (eqp_mo f4 (fun c k hh => by unfold wlF at hh; unfold cpF; omega)) (eqp_mo f5 (fun c k hh => by unfold cpF; omega)))
      have q92 : ∀ {k : Nat}, k ≠ 6 → k ≠ 2 → σ5.1 92 k = σ.1 92 k := fun h6 h2 => (eqp_g f45 (by omega)).trans (k92 h6)
      refine c_180 (ws := (cpT E N (eC y.2)).2.map Int32.ofNat) (nm := eN y.2) (f1 := Int32.ofNat (g1 (eC y.2) 0)) (f2 := Int32.ofNat (cpK E (cpT E N (eC y.2)).1 (eC y.2)).2) (f3 := Int32.ofNat (g1 (eC y.2) 3)) (f4 := Int32.ofNat (g2 (eC y.2) 4)) (f5 := Int32.ofNat (g2 (eC y.2) 6)) (f6 := Int32.ofNat (cpI E N (g2 (eC y.2) 8)).2) hA hwN (by rw [List.length_map, hlen]; exact r3) (by omega) ⟨?_, ?_, ?_, ?_, ?_, ?_, ?_, ?_, fun j w hj => ?_⟩ (WX_92 hA x4 f5 (fun c k hh => Or.inl hh.1)) (fun _ => hO4) (fun σ6 x6 f6 => ?_)
      · rw [(f45 92 0 (by omega)).2.1]; exact k0
      · exact (q92 (by omega) (by omega)).trans o1
      · exact g5.trans hv
      · exact (q92 (by omega) (by omega)).trans o3
      · exact (q92 (by omega) (by omega)).trans o4
      · exact (q92 (by omega) (by omega)).trans o5
      · exact (eqp_g f45 (by omega)).trans k6
      · rw [List.length_map, hlen]; exact (q92 (by omega) (by omega)).trans o7
      · rw [List.getElem?_map] at hj
        cases hq : (cpT E N (eC y.2)).2[j]? with
        | none => rw [hq] at hj; cases hj
        | some q =>
          rw [hq] at hj
          rw [← Option.some.inj hj, eqp_g f45 (by omega)]
          exact e3 j q hq
      · rw [my_k0_v]
        exact hQ σ6 x6 (eqp_tr F5 (eqp_mo f6 (fun c k hh => by unfold wrF at hh; unfold cpF; omega)))
    unfold ys_182_65
    refine ⟨92, rfl, in9, ?_⟩
    rw [k92 (by omega), o1]
    have g0 := g1_lt (eC y.2) 0
    by_cases c1 : g1 (eC y.2) 0 = 1
    · rw [c1, if_pos (show Int32.ofNat 1 = 1 from rfl)]
      have hcc : LgC A' E σ3 := LgC_o hC F3 (fun c k hh => by unfold cpF at hh; omega)
      refine c_183 hA hA' hne hW hcc hO2 x3' (r5 c1) o2 (by omega) (fun σ4 x4 f4 => ?_)
      rw [my_kI_v]
      have e4 : cpK E (cpT E N (eC y.2)).1 (eC y.2) = cpI E (cpT E N (eC y.2)).1 (g2 (eC y.2) 1) := if_pos c1
      exact fin _ σ4 (by rw [e4]) (by rw [e4]; exact x4) f4
    · rw [if_neg (fun hh => c1 ((oN_e1 (b := 1) (c := 1) rfl (by omega) (by omega)).mp hh))]
      have e4 : cpK E (cpT E N (eC y.2)).1 (eC y.2) = ((cpT E N (eC y.2)).1, 0) := if_neg c1
      exact fin _ σ3 (by rw [e4]; rfl) (by rw [e4]; exact x3') eqp_rf
end MCY
