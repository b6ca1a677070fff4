
/-! ===== trace ===== -/
theorem cnK_ex {As : List Ri} {K w : Nat} : ∀ (n : Nat), n ≤ As.length → w < cnK (As.take n) K → ∃ i b, i < n ∧ As[i]? = some b ∧ kdf (riF b) = K ∧ cnK (As.take i) K = w := by
  intro n
  induction n with
  | zero => intro _ h; simp [cnK] at h
  | succ n ih =>
    intro hn h
    have hl : n < As.length := by omega
    have ha := List.getElem?_eq_getElem hl
    generalize As[n] = a at ha
    have ht : As.take (n + 1) = As.take n ++ [a] := by rw [List.take_succ, ha]; rfl
    rw [ht, cnK_a] at h
    simp only [cnK] at h
    by_cases h1 : w < cnK (As.take n) K
    · obtain ⟨i, b, q1, q2⟩ := ih (by omega) h1
      exact ⟨i, b, by omega, q2⟩
    · by_cases h2 : kdf (riF a) = K
      · rw [if_pos h2] at h
        exact ⟨n, a, by omega, ha, h2, by omega⟩
      · rw [if_neg h2] at h
        omega
section MTR
variable {As : List Ri} {I : List It} {rv : Nat} {e : my_E} {d : Nat} {κ : my_K} {σ : my_S} {Q : my_O → my_K → my_S → Prop} {v1 : Int32}
/-- by number: there or not -/
theorem fkA_w {K w : Nat} (hB : itsB As) (hK : K ≤ 3) (hw : w < 2147483648) : (w < cnK As K → ∃ k, fkA As (Int32.ofNat K) (Int32.ofNat w) As.length 0 = some k) ∧ (∀ k, fkA As (Int32.ofNat K) (Int32.ofNat w) As.length 0 = some k → w < cnK As K) := by
  have h42 := itsB_42 hB
  refine ⟨fun h => ?_, fun k hk => ?_⟩
  · obtain ⟨i, b, q1, q2, q3, q4⟩ := cnK_ex (As := As) (K := K) (w := w) As.length (Nat.le_refl _) (by rw [List.take_length]; exact h)
    have := fkA_at (K := K) hB q2 q3 i 0 (by omega)
    rw [q4, Nat.sub_zero] at this
    exact ⟨i, this⟩
  · have key : ∀ {m j k : Nat}, fkA As (Int32.ofNat K) (Int32.ofNat w) m j = some k → ∃ b, As[k]? = some b ∧ kdf (riF b) = K ∧ cnK (As.take k) K = w := by
      intro m
      induction m with
      | zero => intro j k h; unfold fkA at h; cases h
      | succ m ih =>
        intro j k h
        unfold fkA at h
        cases ha : As[j]? with
        | none => rw [ha] at h; cases h
        | some a =>
          rw [ha] at h
          dsimp only at h
          split at h
          · rename_i hc
            cases h
            have hF := (hB.2 a (List.mem_of_getElem? ha)).1
            have hlt := kdf_lt hF
            have h1 := (oN_e (by omega) (by omega)).mp hc.1
            have hl := cnK_le (A := As.take j) (k := kdf (riF a))
            rw [List.length_take] at hl
            have h2 := (oN_e (by omega) hw).mp hc.2
            exact ⟨a, ha, h1, by rw [← h1]; exact h2⟩
          · exact ih h
    obtain ⟨b, q1, q2, q3⟩ := key hk
    have h1 := (List.getElem?_eq_some_iff.mp q1).1
    have h2 := cnK_m (Bs := As) (j := As.length) h1 q1 q2
    rw [List.take_length, q3] at h2
    omega
theorem r_340b (h : LD As I rv σ) (hd : 3 ≤ d) (hx : fkA As 3 v1 As.length 0 = none → ∀ σ', σ'.1 498 0 = 2 → eqp (fun c k => c = 498 ∧ k = 0) σ σ' → Q (.inl (some (.inl 1))) κ σ') (hQ : ∀ k, fkA As 3 v1 As.length 0 = some k → ∀ σ', σ'.1 498 0 = 0 → eqp (fun c k => c = 498 ∧ k = 0) σ σ' → Q (.inl (some (.inl 0))) κ σ') : my_M e d 340 [.inr (.inr (some 498)), .inl v1] κ σ Q := by
  obtain ⟨h1, h2, h3, h4, h5, h6, h7, h8⟩ := h
  obtain ⟨d, rfl⟩ := dS 2 (show 2 ≤ d by omega)
  have h64 : σ.1 498 64 = Int32.ofNat (cnK As 3) := h8.2.2.2.2.2.2
  have h42 := itsB_42 h1
  have hcl := cnK_le (A := As) (k := 3)
  have bad : fkA As 3 v1 As.length 0 = none → ys_340_25 e (d + 1) 0 κ σ Q := fun hh => by
    unfold ys_340_25 ys_340_30
    refine r_215_2 ?_
    rw [my_kI_v]
    exact ⟨Or.inr rfl, hx hh _ uI_s (eqp_I eqp_rf ⟨rfl, rfl⟩)⟩
  refine ys_340 ?_
  unfold ys_340_0
  rw [if_neg h5]
  unfold ys_340_13
  refine my_if (fun c => bad ?_) (fun c => ?_)
  · cases hf : fkA As 3 v1 As.length 0 with
    | none => rfl
    | some k => exact absurd c (fkA_ok h1 hf).2.2
  obtain ⟨w, hw, hw2⟩ := nn_of c
  have fw := fkA_w (K := 3) h1 (by omega) hw2
  rw [show Int32.ofNat 3 = 3 from rfl, ← hw] at fw
  rw [h64, hw]
  refine my_if (fun c2 => ?_) (fun c2 => ?_)
  · obtain ⟨k, hk⟩ := fw.1 ((oN_lt hw2 (by omega)).mp c2)
    unfold ys_340_30
    refine r_215_0 ?_
    rw [my_kI_v]
    exact ⟨Or.inl rfl, hQ k hk _ uI_s (eqp_I eqp_rf ⟨rfl, rfl⟩)⟩
  · refine bad ?_
    cases hf : fkA As 3 v1 As.length 0 with
    | none => rfl
    | some k => exact absurd ((oN_lt hw2 (by omega)).mpr (fw.2 k hf)) c2
end MTR
/-! what holds of the trace between the calls -/
def asB (σ : my_S) : Prop := ∃ D w : Nat, D < 24 ∧ w < 48 ∧ σ.1 498 139 = Int32.ofNat D ∧ σ.1 583 D = Int32.ofNat w
def TRC (cnt cu : Nat) (As : List Ri) (I : List It) (σ : my_S) : Prop := (σ.1 32 11 = 0 ∧ σ.1 498 133 = 0) ∨ (1 ≤ cnt ∧ σ.1 32 11 = 1 ∧ σ.1 498 133 = 1 ∧ σ.1 498 135 = σ.1 53 13 ∧ ∃ s, CMs 53 cu s σ ∧ WZ As I s ∧ E6 s ∧ RAs As I s σ)
def INVk (cnt cu : Nat) (As : List Ri) (I : List It) (σ : my_S) : Prop := (∃ q, ckR q σ) ∧ b01 σ ∧ asB σ ∧ TRC cnt cu As I σ
def ikF (c k : Nat) : Prop := (c = 498 ∧ (k = 79 ∨ k = 80 ∨ k = 133 ∨ k = 135 ∨ (136 ≤ k ∧ k ≤ 141))) ∨ c = 540 ∨ (577 ≤ c ∧ c ≤ 584) ∨ (c = 32 ∧ k = 11) ∨ (53 ≤ c ∧ c ≤ 61)
section MTI
variable {As Bs : List Ri} {I I' : List It} {cnt cu ol sp : Nat} {e : my_E} {d : Nat} {κ : my_K} {σ : my_S} {Q : my_O → my_K → my_S → Prop} {v4 : Int32}
theorem ckR_o {F : Nat → Nat → Prop} {σ' : my_S} {q : Option (Nat × Int32)} (h : ckR q σ) (f : eqp F σ σ') (hF : ∀ c k, F c k → c = 498 → k ≠ 79 ∧ k ≠ 80) : ckR q σ' := ⟨(eqp_g f (fun hh => (hF _ _ hh rfl).1 rfl)).trans h.1, (eqp_g f (fun hh => (hF _ _ hh rfl).2 rfl)).trans h.2⟩
theorem b01_o {F : Nat → Nat → Prop} {σ' : my_S} (h : b01 σ) (f : eqp F σ σ') (hF : ∀ c k, F c k → c ≠ 540) : b01 σ' := fun v hv => by rw [eqp_g f (fun hh => hF _ _ hh rfl)]; exact h v hv
theorem asB_o {F : Nat → Nat → Prop} {σ' : my_S} (h : asB σ) (f : eqp F σ σ') (hF : ∀ c k, F c k → (c = 498 → k ≠ 139) ∧ c ≠ 583) : asB σ' := by
  obtain ⟨D, w, h1, h2, h3, h4⟩ := h
  exact ⟨D, w, h1, h2, (eqp_g f (fun hh => (hF _ _ hh).1 rfl rfl)).trans h3, (eqp_g f (fun hh => (hF _ _ hh).2 rfl)).trans h4⟩
theorem INVk_o {F : Nat → Nat → Prop} {σ' : my_S} (h : INVk cnt cu As I σ) (f : eqp F σ σ') (hF : ∀ c k, F c k → ¬ ikF c k) : INVk cnt cu As I σ' := by
  have g : ∀ c k, F c k → ¬ ((c = 498 ∧ (k = 79 ∨ k = 80 ∨ k = 133 ∨ k = 135 ∨ (136 ≤ k ∧ k ≤ 141))) ∨ c = 540 ∨ (577 ≤ c ∧ c ≤ 584) ∨ (c = 32 ∧ k = 11) ∨ (53 ≤ c ∧ c ≤ 61)) := fun c k hh => hF c k hh
  have r : ∀ {c k : Nat}, ikF c k → σ'.1 c k = σ.1 c k := fun hh => eqp_g f (fun h2 => hF _ _ h2 hh)
  obtain ⟨⟨q, hq⟩, hb, ha, ht⟩ := h
  refine ⟨⟨q, ckR_o hq f (fun c k hh hc => by have := g c k hh; omega)⟩, b01_o hb f (fun c k hh => by have := g c k hh; omega), asB_o ha f (fun c k hh => by have := g c k hh; omega), ?_⟩
  rcases ht with ⟨t1, t2⟩ | ⟨t1, t2, t3, t4, s, t5, t6, t7, t8⟩
  · exact Or.inl ⟨(r (by unfold ikF; omega)).trans t1, (r (by unfold ikF; omega)).trans t2⟩
  · refine Or.inr ⟨t1, (r (by unfold ikF; omega)).trans t2, (r (by unfold ikF; omega)).trans t3, ?_, s, CMs_o t5 f (fun c k hh => by have := g c k hh; omega), t6, t7, RAs_o t8 f (fun c k hh => by have := g c k hh; unfold raF; omega)⟩
    rw [r (c := 498) (k := 135) (by unfold ikF; omega), r (c := 53) (k := 13) (by unfold ikF; omega)]
    exact t4
/-- of what is put aside -/
theorem asB_of {s : Ms} (hB : itsB As) (hw : WE As I s) (h : RAs As I s σ) : asB σ := by
  have h42 := itsB_42 hB
  obtain ⟨w1, w2, w3, w4, w5⟩ := hw
  obtain ⟨a, cd, _⟩ := w5 (zD s) (Nat.le_refl _)
  have := (List.getElem?_eq_some_iff.mp cd.1).1
  exact ⟨zD s, zw s (zD s), by omega, by omega, h.2.1.1, (h.2.1.2 _ (Nat.le_refl _)).1⟩
def trF (c k : Nat) : Prop := rtF c k ∨ rmF c k ∨ raF c k ∨ (c = 498 ∧ 133 ≤ k ∧ k ≤ 135) ∨ (c = 32 ∧ k = 11) ∨ (53 ≤ c ∧ c ≤ 61)
theorem trF_iv {c k : Nat} (h : trF c k) : ivF c k := by
  unfold trF rtF rmF raF at h
  unfold ivF coF olF
  omega
theorem l_11b (h : LD As I cu σ) (hL : LOf As I) (hk : INVk cnt cu As I σ) (hcnt : 1 ≤ cnt) (hκ : 1 ≤ κ.2.1 ∧ 6 ≤ κ.2.2) (b1 : my_bd (v4 + 1) e.2.1) (hn : ∀ κ' σ', (κ' = κ ∨ κ' = (κ.1 + 1, κ.2.1 - 1, κ.2.2 - 6)) → INVk cnt cu As I σ' → eqp trF σ σ' → ys_law_1663 e 1049 v4 κ' σ' Q) : ys_law_801 e 1049 v4 κ σ Q := by
  have hB := h.1
  have h42 := itsB_42 hB
  have hcu := h.2.2.1
  unfold ys_law_801
  refine ⟨b1, ys_386 ?_⟩
  unfold ys_386_0
  generalize e.2.2 (v4 + 1 : Int32).toNatClampNeg = x1
  refine ys_26 ?_
  unfold ys_26_0
  refine c_17b h hκ (by omega) (fun hf => ?_) (fun k hf => ?_)
  · rw [my_kA_x, my_k0_x, if_neg (show ¬ (15 : Nat) = 13 by decide), if_pos rfl, my_kI_v]
    refine ⟨b1, ys_361 ?_⟩
    unfold ys_361_0
    refine r_340b h (by omega) (fun _ σ1 u1 f1 => ?_) (fun k hk' => by rw [hf] at hk'; cases hk')
    rw [my_kI_v, if_neg (by decide), my_k0_v]
    refine r_213 ?_
    rw [my_kI_v, u1, if_pos rfl]
    exact hn _ σ1 (Or.inr rfl) (INVk_o hk f1 (fun c k hh => by unfold ikF; omega)) (eqp_mo f1 (fun c k hh => Or.inl (Or.inl hh)))
  · obtain ⟨a, ha, hka⟩ := fkA_k hf
    have hw := hB.2 a (List.mem_of_getElem? ha)
    have hlt := kdf_lt hw.1
    have hka3 : kdf (riF a) = 3 := (oN_e (b := 3) (by omega) (by omega)).mp hka
    have hf4 : riF a = 4 := by unfold kdf at hka3; split at hka3 <;> omega
    have hk42 : k < 42 := by have := (List.getElem?_eq_some_iff.mp ha).1; omega
    have wt := WT_0 (k := k) hL ha hf4
    have wz : WZ As I (z0 As k) := by
      have wt' := wt
      obtain ⟨hc, a', LT, r1, r2, ht, _⟩ := wt'
      exact ⟨WE_of hL hc ht, fun _ => wt⟩
    rw [my_kA_v, h.2.2.2.2.2.1]
    refine m_109 (Or.inr rfl) hcu hL h.2.2.2.2.2.2.1 hk42 (by omega) (fun σ1 g1 q1 f1 => ?_)
    rw [my_k0_v, my_k0_v, my_kI_v]
    have f2 : eqp (fun c k => (53 ≤ c ∧ c ≤ 61) ∨ (c = 32 ∧ k = 11)) σ (my_uI σ1 32 11 1) := eqp_I (eqp_mo f1 (fun c k hh => Or.inl (by omega))) (Or.inr ⟨rfl, rfl⟩)
    have fx : eqp (fun c q => c = 32 ∧ q = 11) σ1 (my_uI σ1 32 11 1) := eqp_I eqp_rf ⟨rfl, rfl⟩
    have g2 : CMs 53 cu (z0 As k) (my_uI σ1 32 11 1) := CMs_o g1 fx (fun c q hh => by omega)
    have u2 : (my_uI σ1 32 11 1).1 32 11 = 1 := uI_s
    have q2 : (my_uI σ1 32 11 1).1 53 13 = 0 := by rw [my_uI_1, if_neg (by omega)]; exact q1
    clear fx
    generalize my_uI σ1 32 11 1 = σ2 at f2 g2 u2 q2 ⊢
    have ld2 : LD As I cu σ2 := LD_o (LD_30 h) h f2 (fun c k hh => by unfold coF; omega)
    refine ⟨b1, ys_361 ?_⟩
    unfold ys_361_0
    refine r_340b ld2 (by omega) (fun hf' => by rw [hf] at hf'; cases hf') (fun _ _ σ3 u3 f3 => ?_)
    have ld3 : LD As I cu σ3 := LD_o (LD_30 h) ld2 f3 (fun c k hh => by unfold coF; omega)
    rw [my_kI_v, if_pos rfl, show (3 : Int32) = Int32.ofNat 3 from rfl]
    refine r_281 hB (fun k a ha => (ld3.2.2.2.2.2.2.2.2.1 k a ha).1) ld3.2.2.2.2.2.2.2.2.2.1 (by omega) (by omega) ?_
    rw [my_kI_v, show Int32.ofNat 3 = 3 from rfl, hf]
    show my_M e 1048 298 [.inr (.inr (some 498)), .inl (Int32.ofNat k)] κ σ3 _
    have b3 : b01 σ3 := b01_o hk.2.1 (eqp_tr (eqp_mo f2 (fun c k hh => Or.inl hh)) (eqp_mo f3 (fun c k hh => Or.inr hh)) : eqp (fun c k => ((53 ≤ c ∧ c ≤ 61) ∨ (c = 32 ∧ k = 11)) ∨ (c = 498 ∧ k = 0)) σ σ3) (fun c k hh => by omega)
    refine n_298 hL ld3.2.2.2.2.2.2.2 h.2.2.2.2.2.2.1.2.2.2.1 ha (by omega) b3 (by omega) (fun σ4 g4 f4 => ?_)
    rw [my_k0_v]
    have f5 : eqp (fun c k => c = 498 ∧ 133 ≤ k ∧ k ≤ 135) σ4 (my_uI (my_uI (my_uI σ4 498 133 1) 498 134 x1) 498 135 0) := eqp_I (eqp_I (eqp_I eqp_rf ⟨rfl, by omega⟩) ⟨rfl, by omega⟩) ⟨rfl, by omega⟩
    have w133 : (my_uI (my_uI (my_uI σ4 498 133 1) 498 134 x1) 498 135 0).1 498 133 = 1 := by rw [my_uI_1, if_neg (by omega), my_uI_1, if_neg (by omega)]; exact uI_s
    have w135 : (my_uI (my_uI (my_uI σ4 498 133 1) 498 134 x1) 498 135 0).1 498 135 = 0 := uI_s
    have g5 : RMs As I (z0 As k) (my_uI (my_uI (my_uI σ4 498 133 1) 498 134 x1) 498 135 0) := RMs_o g4 f5 (fun c k hh => by unfold rmF; omega)
    generalize my_uI (my_uI (my_uI σ4 498 133 1) 498 134 x1) 498 135 0 = σ5 at f5 w133 w135 g5 ⊢
    refine n_362 hB g5 (by show 0 ≤ 8000; omega) (by show 0 ≤ 20; omega) (by omega) (fun σ6 g6 g6' f6 => ?_)
    rw [my_k0_v, my_k0_v]
    refine r_213 ?_
    have u6 : σ6.1 498 0 = 0 := by rw [eqp_g f6 (by unfold raF; omega), eqp_g f5 (by omega), eqp_g f4 (by unfold rmF; omega)]; exact u3
    rw [my_kI_v, u6, if_pos rfl]
    have fa : eqp trF σ σ6 := eqp_tr (eqp_mo f2 (fun c k hh => by unfold trF; omega)) (eqp_tr (eqp_mo f3 (fun c k hh => by unfold trF rtF; omega)) (eqp_tr (eqp_mo f4 (fun c k hh => Or.inr (Or.inl hh))) (eqp_tr (eqp_mo f5 (fun c k hh => by unfold trF; omega)) (eqp_mo f6 (fun c k hh => Or.inr (Or.inr (Or.inl hh)))))))
    have fr : eqp (fun c k => (c = 498 ∧ k = 0) ∨ rmF c k ∨ (c = 498 ∧ 133 ≤ k ∧ k ≤ 135) ∨ raF c k) σ2 σ6 := eqp_tr (eqp_mo f3 (fun c k hh => Or.inl hh)) (eqp_tr (eqp_mo f4 (fun c k hh => Or.inr (Or.inl hh))) (eqp_tr (eqp_mo f5 (fun c k hh => Or.inr (Or.inr (Or.inl hh)))) (eqp_mo f6 (fun c k hh => Or.inr (Or.inr (Or.inr hh))))))
    refine hn _ σ6 (Or.inl rfl) ⟨⟨none, g6.2.2.2.2.2.2.2.2.2.2⟩, g6.2.2.2.2.2.2.1.2, asB_of hB wz.1 g6', Or.inr ⟨hcnt, ?_, ?_, ?_, z0 As k, ?_, wz, E6_0, g6'⟩⟩ fa
    · rw [eqp_g fr (by unfold rmF raF; omega)]; exact u2
    · rw [eqp_g f6 (by unfold raF; omega)]; exact w133
    · rw [eqp_g f6 (by unfold raF; omega), w135, eqp_g fr (by unfold rmF raF; omega), q2]
    · exact CMs_o g2 fr (fun c k hh => by unfold rmF raF at hh; omega)
theorem l_11i (h : INVr cnt cu ol sp As I Bs I' σ) (ht : INVt σ) (hk : INVk cnt cu As I σ) (hκ : 1 ≤ κ.2.1 ∧ 6 ≤ κ.2.2) (b1 : my_bd (v4 + 1) e.2.1) (hn : ∀ κ' σ', (κ' = κ ∨ κ' = (κ.1 + 1, κ.2.1 - 1, κ.2.2 - 6)) → INVr cnt cu ol sp As I Bs I' σ' → INVt σ' → INVk cnt cu As I σ' → eqp trF σ σ' → ys_law_1663 e 1049 v4 κ' σ' Q) : ys_law_801 e 1049 v4 κ σ Q := by
  have go : ∀ κ' σ', (κ' = κ ∨ κ' = (κ.1 + 1, κ.2.1 - 1, κ.2.2 - 6)) → INVk cnt cu As I σ' → eqp trF σ σ' → ys_law_1663 e 1049 v4 κ' σ' Q := fun κ' σ' hk' hi f => hn κ' σ' hk' (INVr_o h f (fun _ _ => trF_iv)) (INVt_o ht f (fun c k hh => by unfold trF rtF rmF raF at hh; omega)) hi f
  by_cases hc : cnt = 0
  · have f : eqp (fun c k => c = 498 ∧ k = 0) σ (my_uI σ 498 0 1) := eqp_I eqp_rf ⟨rfl, rfl⟩
    exact l_11 (by rw [h.1.1, hc]; rfl) (by rw [h.1.2.1, hc]; rfl) hκ.1 hκ.2 b1 (go _ _ (Or.inr rfl) (INVk_o hk f (fun c k hh => by unfold ikF; omega)) (eqp_mo f (fun c k hh => Or.inl (Or.inl hh))))
  · exact l_11b (INVr_LD h (by omega)) (h.2.2.2.2.2.1 (by omega)).1 hk (by omega) hκ b1 go
end MTI
