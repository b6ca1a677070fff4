
/-! ===== the class goes over the text ===== -/
section MCM
variable {e : my_E} {d : Nat} {κ : my_K} {σ : my_S} {Q : my_O → my_K → my_S → Prop} {t : Nat → Int32} {n : Nat} {rv : Nat}
theorem y_192 (hrv : rv = 108 ∨ rv = 238 ∨ rv = 368) (hd : 1 ≤ d) (hQ : ∀ σ', σ'.1 rv 1 = 0 → σ'.1 rv 3 = 0 → (∀ k, k < 4 → σ'.1 (rv + 3) k = 0) → eqp (fun c k => (c = rv ∧ (k = 1 ∨ k = 3)) ∨ c = rv + 3) σ σ' → Q (.inl none) κ σ') : my_M e d 192 [.inr (.inr (some rv))] κ σ Q := by
  obtain ⟨d, rfl⟩ := dS 1 hd
  have h10 := in10 hrv
  refine ys_192 h10 ?_
  unfold ys_192_0
  refine ys_192_12_ok h10 ?_
  have one : ∀ (j : Nat) (σ1 : my_S), j < 4 → ys_192_12 e d rv (Int32.ofNat (j + 1)) κ (my_uI σ1 (rv + 3) j 0) Q → ys_192_12 e d rv (Int32.ofNat j) κ σ1 Q := fun j σ1 hj hh => by
    unfold ys_192_12
    rw [if_pos ((oN_lt1 (b := 4) (c := 4) rfl (by omega) (by omega)).mpr hj), oN_n (by omega), oN_s]
    exact ⟨⟨by rw [oN_i (by omega)]; omega, by rw [oN_i (by omega)]; omega⟩, ys_192_12_ok h10 hh⟩
  refine one 0 _ (by omega) (one 1 _ (by omega) (one 2 _ (by omega) (one 3 _ (by omega) ?_)))
  unfold ys_192_12
  rw [if_neg (by decide)]
  refine hQ _ ?_ ?_ (fun k hk => ?_) (eqp_I (eqp_I (eqp_I (eqp_I (eqp_I (eqp_I eqp_rf (by omega)) (by omega)) (by omega)) (by omega)) (by omega)) (by omega))
  · rw [uI_o (by omega), uI_o (by omega), uI_o (by omega), uI_o (by omega), my_uI_1, if_neg (by omega), uI_s]
  · rw [uI_o (by omega), uI_o (by omega), uI_o (by omega), uI_o (by omega), uI_s]
  · have h4 : k = 0 ∨ k = 1 ∨ k = 2 ∨ k = 3 := by omega
    rcases h4 with rfl | rfl | rfl | rfl
    · rw [my_uI_1, if_neg (by omega), my_uI_1, if_neg (by omega), my_uI_1, if_neg (by omega), uI_s]
    · rw [my_uI_1, if_neg (by omega), my_uI_1, if_neg (by omega), uI_s]
    · rw [my_uI_1, if_neg (by omega), uI_s]
    · exact uI_s
/-- the state at first -/
def St0 : St := (Int32.ofInt (-1), 0, [], [])
/-- the first way -/
theorem y_58a {c : Nat} (ht : txt t n) (hκ : 1 ≤ κ.2.1 ∧ 6 ≤ κ.2.2) (hd : 191 ≤ d) (hrv : rv = 108 ∨ rv = 238 ∨ rv = 368) (htk : tkn t n c σ) (hrf : ∀ k, k < 42 → σ.2.2 (rv + 2) k = some (rv + 4 + 3 * k))
    (hf : ∀ q σ', pis t n 43 [] 0 (ps t n 0) = .inl q → clT t n q σ' → eqp (lF rv) σ σ' → Q (.inl (some (.inl 0))) (κ.1 + 1, κ.2.1 - 1, κ.2.2 - 6) σ')
    (hQ : ∀ As I p σ', pis t n 43 [] 0 (ps t n 0) = .inr As → itsB As → iRel As I → CB t n I false rv St0 p σ' → OD (As.map (fun a => a.1)) rv σ' → ND I.length rv σ' → eqp (lF rv) σ σ' → Q (.inl (some (.inl 1))) κ σ') : my_M e d 58 [.inr (.inr (some 39)), .inr (.inr (some rv)), .inl 0] κ σ Q := by
  obtain ⟨d, rfl⟩ := dS 1 (show 1 ≤ d by omega)
  refine ys_58 ?_
  unfold ys_58_0
  refine ⟨Or.inl rfl, ?_⟩
  rw [if_pos rfl]
  refine ⟨rv, rfl, in10 hrv, ?_⟩
  have f1 : eqp (fun c k => c = 39 ∧ (k = 1 ∨ k = 3 ∨ k = 4 ∨ k = 5)) σ (my_uI (my_uI (my_uI (my_uA σ 39 1 (some rv)) 39 3 0) 39 4 (Int32.ofInt (-1))) 39 5 0) := eqp_I (eqp_I (eqp_I (eqp_A eqp_rf (by omega)) (by omega)) (by omega)) (by omega)
  have v1 : (my_uI (my_uI (my_uI (my_uA σ 39 1 (some rv)) 39 3 0) 39 4 (Int32.ofInt (-1))) 39 5 0).2.2 39 1 = some rv := by simp [my_uI, my_uA]
  have v3 : (my_uI (my_uI (my_uI (my_uA σ 39 1 (some rv)) 39 3 0) 39 4 (Int32.ofInt (-1))) 39 5 0).1 39 3 = 0 := by rw [my_uI_1, if_neg (by omega), my_uI_1, if_neg (by omega), uI_s]
  have v4 : (my_uI (my_uI (my_uI (my_uA σ 39 1 (some rv)) 39 3 0) 39 4 (Int32.ofInt (-1))) 39 5 0).1 39 4 = Int32.ofInt (-1) := by rw [my_uI_1, if_neg (by omega), uI_s]
  have v5 : (my_uI (my_uI (my_uI (my_uA σ 39 1 (some rv)) 39 3 0) 39 4 (Int32.ofInt (-1))) 39 5 0).1 39 5 = 0 := uI_s
  generalize my_uI (my_uI (my_uI (my_uA σ 39 1 (some rv)) 39 3 0) 39 4 (Int32.ofInt (-1))) 39 5 0 = σ1 at f1 v1 v3 v4 v5 ⊢
  refine y_192 hrv (by omega) (fun σ2 w1 w3 wk f2 => ?_)
  rw [my_k0_v]
  unfold ys_58_28
  have f12 : eqp (fun c k => (c = 39 ∧ (k = 1 ∨ k = 3 ∨ k = 4 ∨ k = 5)) ∨ (c = rv ∧ (k = 1 ∨ k = 3)) ∨ c = rv + 3) σ σ2 := eqp_tr (eqp_mo f1 (fun c k hh => by omega)) (eqp_mo f2 (fun c k hh => by omega))
  have htk2 : tkn t n c σ2 := tkn_o htk f12 (fun c k hh => by omega)
  obtain ⟨d, rfl⟩ := dS 2 (show 2 ≤ d by omega)
  refine c_54 htk2 (fun σ3 g3 f3 => ?_)
  rw [my_k0_v]
  have fl3 : eqp (lF rv) σ σ3 := eqp_tr (eqp_mo f12 (fun c k hh => by unfold lF; omega)) (eqp_mo f3 (fun c k hh => by unfold nF at hh; unfold lF; omega))
  have gB : CB t n [] false rv St0 (ps t n 0) σ3 := by
    refine ⟨g3, ?_, ⟨?_, hrv⟩, ⟨?_, by simp, fun k hk => ?_, fun k it hk => by simp at hk⟩, ?_, ?_, ⟨?_, by simp [St0], fun i x hx => by simp [St0] at hx⟩⟩
    · rw [eqp_g f3 (by unfold nF; omega), eqp_g f2 (by omega)]; exact v3
    · rw [(f3 _ _ (by unfold nF; omega)).2.2, (f2 _ _ (by omega)).2.2]; exact v1
    · rw [eqp_g f3 (by unfold nF; omega)]; exact w3
    · rw [(f3 _ _ (by unfold nF; omega)).2.2, (f12 _ _ (by omega)).2.2]; exact hrf k hk
    · rw [eqp_g f3 (by unfold nF; omega), eqp_g f2 (by omega)]; exact v4
    · rw [eqp_g f3 (by unfold nF; omega), eqp_g f2 (by omega)]; exact v5
    · rw [eqp_g f3 (by unfold nF; omega)]; exact w1
  have hod : OD (([] : List Ri).map (fun a => a.1)) rv σ3 := ⟨fun k f hk => by simp at hk, fun k hk => by rw [eqp_g f3 (by unfold nF; omega)]; exact wk k hk⟩
  exact y_58l (rv := rv) (S := St0) ht hκ (by omega) 43 [] [] (ps t n 0) σ3 (by simp) ⟨fun k => by simp [cnK], by simp⟩ ⟨rfl, fun k a it hk => by simp at hk⟩ gB hod (fun k hk => by simp at hk) (fun q σ' hx g f => hf q σ' hx g (eqp_tr fl3 f)) (fun As I p σ' hx b r g o nd f => hQ As I p σ' hx b r g o nd (eqp_tr fl3 f))
/-- the second way -/
theorem y_58b {c : Nat} {As : List Ri} {I : List It} {p0 : Nat} (ht : txt t n) (hκ : 1 ≤ κ.2.1 ∧ 6 ≤ κ.2.2) (hd : 191 ≤ d) (htk : tkn t n c σ) (hpis : pis t n 43 [] 0 (ps t n 0) = .inr As) (hB : itsB As) (hrel : iRel As I) (h : CB t n I false rv St0 p0 σ) (hod : OD (As.map (fun a => a.1)) rv σ) (hnd : ND I.length rv σ)
    (hQ : ∀ S p σ', CB t n I true rv S p σ' → OD (As.map (fun a => a.1)) rv σ' → pR2 t n As I rv As.length St0 S p σ' → eqp (lF rv) σ σ' → Q (.inl (some (.inl 1))) κ σ') : my_M e d 58 [.inr (.inr (some 39)), .inr (.inr (some rv)), .inl 1] κ σ Q := by
  obtain ⟨d, rfl⟩ := dS 1 (show 1 ≤ d by omega)
  have hrv := h.2.2.1.2
  have h42 := h.2.2.2.1.2.1
  refine ys_58 ?_
  unfold ys_58_0
  refine ⟨Or.inr rfl, ?_⟩
  rw [if_neg (by decide)]
  have f1 : eqp (fun c k => c = 39 ∧ (k = 1 ∨ k = 3 ∨ k = 4 ∨ k = 5)) σ (my_uI (my_uI (my_uI (my_uA σ 39 1 (some rv)) 39 3 1) 39 4 (Int32.ofInt (-1))) 39 5 0) := eqp_I (eqp_I (eqp_I (eqp_A eqp_rf (by omega)) (by omega)) (by omega)) (by omega)
  have v1 : (my_uI (my_uI (my_uI (my_uA σ 39 1 (some rv)) 39 3 1) 39 4 (Int32.ofInt (-1))) 39 5 0).2.2 39 1 = some rv := by simp [my_uI, my_uA]
  have v3 : (my_uI (my_uI (my_uI (my_uA σ 39 1 (some rv)) 39 3 1) 39 4 (Int32.ofInt (-1))) 39 5 0).1 39 3 = 1 := by rw [my_uI_1, if_neg (by omega), my_uI_1, if_neg (by omega), uI_s]
  have v4 : (my_uI (my_uI (my_uI (my_uA σ 39 1 (some rv)) 39 3 1) 39 4 (Int32.ofInt (-1))) 39 5 0).1 39 4 = Int32.ofInt (-1) := by rw [my_uI_1, if_neg (by omega), uI_s]
  have v5 : (my_uI (my_uI (my_uI (my_uA σ 39 1 (some rv)) 39 3 1) 39 4 (Int32.ofInt (-1))) 39 5 0).1 39 5 = 0 := uI_s
  generalize my_uI (my_uI (my_uI (my_uA σ 39 1 (some rv)) 39 3 1) 39 4 (Int32.ofInt (-1))) 39 5 0 = σ1 at f1 v1 v3 v4 v5 ⊢
  unfold ys_58_28
  have htk1 : tkn t n c σ1 := tkn_o htk f1 (fun c k hh => by omega)
  obtain ⟨d, rfl⟩ := dS 2 (show 2 ≤ d by omega)
  refine c_54 htk1 (fun σ3 g3 f3 => ?_)
  rw [my_k0_v]
  have f13 : eqp (fun c k => (c = 39 ∧ (k = 1 ∨ k = 3 ∨ k = 4 ∨ k = 5)) ∨ nF c k) σ σ3 := eqp_tr (eqp_mo f1 (fun _ _ => Or.inl)) (eqp_mo f3 (fun _ _ => Or.inr))
  have fl3 : eqp (lF rv) σ σ3 := eqp_mo f13 (fun c k hh => by unfold nF at hh; unfold lF; omega)
  have gB : CB t n I true rv St0 (ps t n 0) σ3 := by
    obtain ⟨a1, a2, ⟨a3, a3'⟩, a4, a5, a6, ⟨a7, a8, a9⟩⟩ := h
    refine ⟨g3, ?_, ⟨?_, hrv⟩, CIm_o a4 f13 (fun c k hh => by unfold nF at hh; exact ⟨by omega, by omega, fun j hj => ⟨by omega, by omega⟩⟩), ?_, ?_, ⟨?_, a8, fun i x hx => ?_⟩⟩
    · rw [eqp_g f3 (by unfold nF; omega)]; exact v3
    · rw [(f3 _ _ (by unfold nF; omega)).2.2]; exact v1
    · rw [eqp_g f3 (by unfold nF; omega)]; exact v4
    · rw [eqp_g f3 (by unfold nF; omega)]; exact v5
    · rw [eqp_g f13 (by unfold nF; omega)]; exact a7
    · rw [eqp_g f13 (by unfold nF; omega)]; exact a9 i x hx
  have hod3 : OD (As.map (fun a => a.1)) rv σ3 := OD_o hod (by rw [List.length_map, ← hrel.1]; exact h42) f13 (fun c k hh => by unfold nF at hh; exact ⟨by omega, fun j hj => by omega⟩)
  have hlen := pis_len _ _ _ _ hpis
  refine y_58m (S0 := St0) ht hκ (by omega) hB hrel 43 0 St0 (ps t n 0) σ3 hlen (by simpa [rwA] using hpis) gB hod3 (fun j _ hj => ?_) ⟨rfl, rfl⟩ (fun S p σ' g o pp f => hQ S p σ' g o pp (eqp_tr fl3 f))
  rw [eqp_g f13 (by unfold nF; omega)]
  exact hnd j hj
end MCM
