
/-! ===== the reference: makeFresh ===== -/
/-- a slot, as the reference has it -/
def SlR (As : List Ri) (i kt : Nat) (s : Ms) (σ : my_S) : Prop := σ.1 557 i = Int32.ofNat (nmk As kt) ∧ σ.1 562 i = enI (zE s) ∧ σ.1 563 i = Int32.ofNat (zF s) ∧ (∀ c, zk s = some c → σ.1 564 i = Int32.ofNat c.1) ∧ σ.1 565 i = ckI (zk s) ∧ ∀ k b, As[k]? = some b → σ.1 566 (48 * i + k) = if zt s (kdf (riF b)) (nmk As k) = true then 1 else 0
/-- the list with a run's entries and its record -/
def rcX (As : List Ri) (I : List It) (rev : Int32) (kt : Nat) (s : Ms) (E : List Et) : List Et :=
  if zE s = some 1 then (adK As I (adM As I (tls As s) (adK As I E kt).1).1 ((zk s).getD (0, 0)).1).1 ++ [(2, eN (itE As I kt), rcC 1 (Int32.ofNat (adK As I (adM As I (tls As s) (adK As I E kt).1).1 ((zk s).getD (0, 0)).1).2) (ckI (zk s)) (Int32.ofNat (zF s)) rev (Int32.ofNat (adK As I E kt).2) ((adM As I (tls As s) (adK As I E kt).1).2.map Int32.ofNat))]
  else (adM As I (tls As s) (adK As I E kt).1).1 ++ [(2, eN (itE As I kt), rcC (enI (zE s)) 0 0 (Int32.ofNat (zF s)) rev (Int32.ofNat (adK As I E kt).2) ((adM As I (tls As s) (adK As I E kt).1).2.map Int32.ofNat))]
def mkF (c k : Nat) : Prop := rsF c k ∨ tdF c k
theorem tl2_m {As : List Ri} {s : Ms} {kd : Nat} : ∀ {m n k : Nat}, k ∈ tl2 As s kd m n → k < As.length
  | 0, _, k, h => by simp [tl2] at h
  | m + 1, n, k, h => by
    rw [tl2] at h
    rcases List.mem_append.mp h with h | h
    · unfold tl1 at h
      split at h
      · split at h
        · simp at h
        · rename_i hf
          rw [List.mem_singleton.mp h]
          exact fkA_lt hf
      · simp at h
    · exact tl2_m h
theorem tls_A {As : List Ri} {s : Ms} : ∀ k ∈ tls As s, k < As.length := fun k hk => by
  unfold tls at hk
  rcases List.mem_append.mp hk with hk | hk
  · exact tl2_m hk
  · rcases List.mem_append.mp hk with hk | hk
    · exact tl2_m hk
    · exact tl2_m hk
section MMG
variable {As : List Ri} {I : List It} {rv : Nat} {e : my_E} {d : Nat} {κ : my_K} {σ σ' : my_S} {Q : my_O → my_K → my_S → Prop} {E : List Et} {K : List Nat} {L : List Nat}
theorem f_311 {i kt : Nat} {a : Ri} {s : Ms} (hU : nmU As) (hW : LgW E) (h : LD As I rv σ) (hR : LgR E [] σ) (hP : PrR E σ) (hi : i < 12) (ha : As[kt]? = some a) (h4 : riF a = 4) (hS : SlR As i kt s σ) (hE : ∃ n, zE s = some n ∧ n < 6) (hck : zE s = some 1 → ∃ c, zk s = some c ∧ c.1 < As.length) (hd : 8 ≤ d) (hQ : ∀ σ' Fs, rcX As I (σ.1 498 65) kt s E = E ++ Fs → FRy (en Fs (nit E)) σ' → els Fs ≤ 20000 → eqp mkF σ σ' → Q (.inl none) κ σ') : my_M e d 311 [.inr (.inr (some 498)), .inl (Int32.ofNat i)] κ σ Q := by
  obtain ⟨d, rfl⟩ := dS 1 (show 1 ≤ d by omega)
  have hB := h.1
  have h42 := itsB_42 hB
  have hkA := (List.getElem?_eq_some_iff.mp ha).1
  have hrv := h.2.2.1
  have h61 := h.2.2.2.2.2.2.1.2.2.2.1
  have hl := (hB.2 a (List.mem_of_getElem? ha)).2.1
  have hl8 := hl.2
  have hit : itE As I kt = (1, riN a, ib I (rwA (As.take kt)).length a) := by unfold itE; rw [ha]
  have bi : my_bd (Int32.ofNat i) 12 := bdk (by omega) (by omega)
  obtain ⟨s1, s2, s3, s4, s5, s6⟩ := hS
  have hfk : fkA As 3 (Int32.ofNat (nmk As kt)) As.length 0 = some kt := by
    have hk3 : kdf (riF a) = 3 := by rw [h4]; rfl
    have := fkA_at (K := 3) hB ha hk3 kt 0 (by omega)
    rw [Nat.sub_zero] at this
    unfold nmk
    rw [ha]
    dsimp only
    rw [hk3]
    exact this
  have m4 : ∀ c q, mkF c q → c = 551 ∨ (c = 498 ∧ (q = 97 ∨ q = 99 ∨ q = 101)) ∨ c = 552 ∨ c = 553 ∨ c = 554 := fun c q hh => by unfold mkF rsF frF fyF tdF at hh; omega
  refine ys_311 ?_
  unfold ys_311_0
  rw [oN_n (p := i) (by omega), s1]
  refine ⟨bi, ?_⟩
  have f0 : eqp (fun c q => c = 498 ∧ (q = 97 ∨ q = 99)) σ (my_uI (my_uI σ 498 97 0) 498 99 0) := eqp_I (eqp_I eqp_rf ⟨rfl, Or.inl rfl⟩) ⟨rfl, Or.inr rfl⟩
  have k0 : FrR As I E [] (my_uI (my_uI σ 498 97 0) 498 99 0) := ⟨⟨by rw [my_uI_1, if_neg (by omega), uI_s]; rfl, fun j x hx => by simp [frE, en] at hx⟩, uI_s, by simp, fun j x hx => by simp at hx, fun x hx => by simp at hx⟩
  generalize my_uI (my_uI σ 498 97 0) 498 99 0 = σ0 at f0 k0 ⊢
  have ld0 : LD As I rv σ0 := LD_o (LD_30 h) h f0 (fun c q hh => by unfold coF; omega)
  rw [show (3 : Int32) = Int32.ofNat 3 from rfl]
  refine r_281 hB (fun k a ha => (ld0.2.2.2.2.2.2.2.2.1 k a ha).1) ld0.2.2.2.2.2.2.2.2.2.1 (by omega) (by omega) ?_
  rw [my_kI_v, show Int32.ofNat 3 = 3 from rfl, hfk]
  refine f_312 (s := s) hi ld0 (fun k b hb => (eqp_g f0 (by omega)).trans (s6 k b hb)) (by omega) (fun σ1 t1 f1 => ?_)
  rw [my_k0_v]
  have td : ∀ c q, tdF c q → (c = 498 ∧ q = 101) ∨ c = 553 := fun c q hh => hh
  have rs1 : RS As I rv E [] σ1 := ⟨LD_t ld0 f1, LgR_o (LgR_o hR f0 (fun c q hh => by omega)) f1 (fun c q hh => by have := td c q hh; omega), PrR_o (PrR_o hP f0 (fun c q hh => by omega)) f1 (fun c q hh => by have := td c q hh; omega), FrR_o k0 f1 (fun c q hh => by have := td c q hh; unfold frF fyF; omega), List.nodup_nil⟩
  have g1 : eqp mkF σ σ1 := eqp_tr (eqp_mo f0 (fun c q hh => by unfold mkF rsF frF fyF; omega)) (eqp_mo f1 (fun c q hh => Or.inr hh))
  show my_M e d 314 [.inr (.inr (some 498)), .inl (Int32.ofNat kt)] κ σ1 _
  refine f_314r hU hW rs1 (by simp) hkA (by omega) (fun σ2 K2 q1 q2 q3 f2 => ?_)
  rw [show E ++ frE As I [] = E from List.append_nil E] at q1
  rw [my_kI_v, show E ++ frE As I [] = E from List.append_nil E]
  have g2 : eqp mkF σ σ2 := eqp_tr g1 (eqp_mo f2 (fun c q hh => Or.inl (Or.inl hh)))
  have t2 : TLR (tls As s) σ2 := TLR_o t1 f2 (fun c q hh => by unfold frF fyF at hh; unfold tdF; omega)
  have hK2 : K2.length ≤ 1 := by simpa using q2
  have l30 := tls_l (s := s) hB
  refine ys_311_36_ok (f_311l (σ := σ2) (K := K2) (L := tls As s) hU hW l30 tls_A (by omega) t2 (fun σ3 K3 ns r3 k3 n3 h554 f3 hex => ?_) (tls As s).length 0 K2 [] σ2 (Nat.zero_add _) q3 (by omega) rfl (fun u x hx => by simp at hx) eqp_rf rfl (by rw [List.drop_zero, List.nil_append]))
  obtain ⟨E0, e1', e2', e3'⟩ := hex
  rw [← q1] at e3'
  subst e3'
  have g3 : eqp mkF σ σ3 := eqp_tr g2 (eqp_mo f3 (fun c q hh => Or.inl hh))
  have rd : ∀ {τ : my_S} {c q : Nat}, eqp mkF σ τ → (555 ≤ c ∨ (c = 498 ∧ q = 65)) → τ.1 c q = σ.1 c q := fun f hc => eqp_g f (fun hh => by have := m4 _ _ hh; omega)
  have t3 : TLR (tls As s) σ3 := TLR_o t2 f3 (fun c q hh => by unfold rsF frF fyF at hh; unfold tdF; omega)
  have wl : (ns.map Int32.ofNat).length = (tls As s).length := by rw [List.length_map]; exact n3
  have w554 : ∀ {τ : my_S}, eqp frF σ3 τ → ∀ (j : Nat) w, (ns.map Int32.ofNat)[j]? = some w → τ.1 554 j = w := fun {τ} f j w hj => by
    rw [eqp_g f (by unfold frF fyF; omega)]
    rw [List.getElem?_map] at hj
    cases hn : ns[j]? with
    | none => rw [hn] at hj; cases hj
    | some x => rw [hn] at hj; cases hj; exact h554 j x hn
  have fin : ∀ (K4 : List Nat) (σ4 : my_S) (t0 f1 f2 f3 : Int32), RS As I rv E K4 σ4 → K4.length ≤ 32 → eqp frF σ3 σ4 → σ.1 562 i = f1 → ((t0 = 0 ∧ f3 = 0) ∨ (t0 = 1 ∧ σ.1 565 i = f3)) → rcX As I (σ.1 498 65) kt s E = E ++ frE As I K4 ++ [(2, riN a, rcC f1 f2 f3 (Int32.ofNat (zF s)) (σ.1 498 65) (Int32.ofNat (adK As I E kt).2) (ns.map Int32.ofNat))] → ys_311_105 e d (Int32.ofNat i) (Int32.ofNat kt) (Int32.ofNat (adK As I E kt).2) t0 f2 κ σ4 Q := fun K4 σ4 t0 f1 f2 f3 r4 k4 f4 x1 x2 hrc => by
    have g4 : eqp mkF σ σ4 := eqp_tr g3 (eqp_mo f4 (fun c q hh => Or.inl (Or.inl hh)))
    have hb := frE_b (I := I) hB r4.2.2.2.2 r4.2.2.2.1.2.2.2.2 h61
    have t4 : TLR (tls As s) σ4 := TLR_o t3 f4 (fun c q hh => by unfold frF fyF at hh; unfold tdF; omega)
    refine f_311r (k := nit E + K4.length) (L := tls As s) (ws := ns.map Int32.ofNat) r4.1 ha hi wl l30 r4.2.2.2.1.1 (by rw [en_l]; omega) t4 (w554 f4) ((rd g4 (by omega)).trans x1) ((rd g4 (by omega)).trans s3) (rd g4 (by omega)) (by rcases x2 with x2 | x2; exact Or.inl x2; exact Or.inr ⟨x2.1, (rd g4 (by omega)).trans x2.2⟩) (by omega) (fun σ5 k5 f5 => ?_)
    refine hQ σ5 (frE As I K4 ++ [(2, riN a, rcC f1 f2 f3 (Int32.ofNat (zF s)) (σ.1 498 65) (Int32.ofNat (adK As I E kt).2) (ns.map Int32.ofNat))]) (by rw [hrc, List.append_assoc]) ?_ ?_ (eqp_tr g4 (eqp_mo f5 (fun c q hh => Or.inl (Or.inl (Or.inl hh)))))
    · rw [en_a, frE_n, en, en, List.append_nil]
      exact k5
    · rw [els_a, els, els]
      show els (frE As I K4) + (3 + 1 + (riN a).length + (rcC f1 f2 f3 (Int32.ofNat (zF s)) (σ.1 498 65) (Int32.ofNat (adK As I E kt).2) (ns.map Int32.ofNat)).length + 0) ≤ 20000
      rw [rcC_l, wl]
      omega
  obtain ⟨n, hn, hn6⟩ := hE
  have e562 : σ3.1 562 i = Int32.ofNat n := by rw [rd g3 (by omega), s2, hn]; rfl
  rw [oN_n (p := i) (by omega), e562]
  refine ⟨bi, ?_⟩
  have hnm : eN (itE As I kt) = riN a := by rw [hit]
  by_cases c1 : n = 1
  · subst c1
    obtain ⟨c, hc, hcA⟩ := hck hn
    rw [if_pos (show Int32.ofNat 1 = 1 from rfl)]
    unfold ys_311_84
    rw [if_neg (by decide), oN_n (p := i) (by omega), rd g3 (by omega), s4 c hc]
    refine ⟨bi, f_314r hU hW r3 (by omega) hcA (by omega) (fun σ4 K4 p1 p2 p3 f4 => ?_)⟩
    rw [my_kI_v]
    refine fin K4 σ4 1 (enI (zE s)) _ (ckI (zk s)) p3 (by omega) f4 s2 (Or.inr ⟨rfl, s5⟩) ?_
    unfold rcX
    rw [if_pos hn, hc]
    dsimp only [Option.getD]
    rw [← e2'] at p1
    rw [p1, e1', hnm, hn, e2']
    rfl
  · rw [if_neg (show ¬ Int32.ofNat n = 1 from fun hh => c1 ((oN_e (b := 1) (by omega) (by omega)).mp hh))]
    unfold ys_311_84
    rw [if_pos rfl]
    refine fin K3 σ3 0 (enI (zE s)) 0 0 r3 (by omega) eqp_rf s2 (Or.inl ⟨rfl, rfl⟩) ?_
    unfold rcX
    rw [if_neg (by rw [hn]; intro hh; exact c1 (Option.some.inj hh)), e2', e1', hnm]
end MMG
