
/-! ===== the class: enter ===== -/
def enF (A c k : Nat) : Prop := (A ≤ c ∧ c ≤ A + 6) ∨ c = 92 ∨ c = 93
section MCN
variable {As : List Ri} {I : List It} {rv A a kt : Nat} {e : my_E} {d : Nat} {κ : my_K} {σ σ' : my_S} {Q : my_O → my_K → my_S → Prop} {E E' : List Et} {s : Ms} {v3 : Int32}
theorem c_161l {nm : List Nat} {Ex : List Et} {ws : List Int32} {n c o : Nat} {f2 f3 : Int32} {ns : List Nat} {σ5 : my_S} (hA : lg2 A) (hW : LgW E) (hT : LgT Ex) (hl : isN nm) (hl1 : 1 ≤ nm.length) (hX : WX A E Ex σ5) (hO : OcT ws σ5) (u0 : σ5.2.1 92 0 = nmC nm) (u1 : σ5.1 92 1 = Int32.ofNat n) (u4 : σ5.1 92 4 = Int32.ofNat (zF s)) (u5 : σ5.1 92 5 = v3) (hn : n < 256) (hw : ws.length ≤ 30) (ho : els Ex ≤ 7747 → σ5.1 92 6 = Int32.ofNat o ∧ f2 = Int32.ofNat c ∧ ws = ns.map Int32.ofNat ∧ c < 65536 ∧ (n = 1 → c < nit Ex) ∧ (∀ x ∈ ns, x < nit Ex) ∧ ∃ z, (itp Ex)[o]? = some z ∧ eN z.2 = nm) (hR : List Et) (hrc : els Ex ≤ 7747 → hR = Ex ++ [(2, nm, rcC (Int32.ofNat n) (Int32.ofNat c) f3 (Int32.ofNat (zF s)) v3 (Int32.ofNat o) (ns.map Int32.ofNat))]) (hrf : 7747 < els Ex → 7747 < els hR) (hf : eqp (enF A) σ σ5) (hd : 2 ≤ d) (hQ1 : els hR ≤ 7747 → ∀ σ', LgW hR → LgT hR → LgC A hR σ' → eqp (enF A) σ σ' → Q (.inl (some (.inl 1))) κ σ') (hQ0 : 7747 < els hR → ∀ σ', LgC A E σ' → eqp (enF A) σ σ' → Q (.inl (some (.inl 0))) κ σ') : ys_161_195 e d (some A) (Int32.ofNat (els E)) (Int32.ofNat (itp E).length) (Int32.ofNat (rcp E).length) f3 κ (my_uI σ5 92 2 f2) Q := by
  have hA' := hA
  unfold lg2 at hA'
  have fM : eqp (fun c k => c = 92 ∧ (k = 2 ∨ k = 3)) σ5 (my_uI (my_uI σ5 92 2 f2) 92 3 f3) := eqp_I (eqp_I eqp_rf ⟨rfl, Or.inl rfl⟩) ⟨rfl, Or.inr rfl⟩
  have m2 : (my_uI (my_uI σ5 92 2 f2) 92 3 f3).1 92 2 = f2 := by rw [my_uI_1, if_neg (by omega)]; exact uI_s
  have m3 : (my_uI (my_uI σ5 92 2 f2) 92 3 f3).1 92 3 = f3 := uI_s
  unfold ys_161_195
  refine ⟨A, rfl, in8 hA, ?_⟩
  generalize my_uI (my_uI σ5 92 2 f2) 92 3 f3 = σ6 at fM m2 m3 ⊢
  have x6 : WX A E Ex σ6 := WX_92 hA hX fM (fun c k hh => Or.inl hh.1)
  have oc : OcW nm (Int32.ofNat n) f2 f3 (Int32.ofNat (zF s)) v3 (σ5.1 92 6) ws σ6 := ⟨((fM 92 0 (by omega)).2.1).trans u0, (eqp_g fM (by omega)).trans u1, m2, m3, (eqp_g fM (by omega)).trans u4, (eqp_g fM (by omega)).trans u5, eqp_g fM (by omega), (eqp_g fM (by omega)).trans hO.1, fun j w hj => (eqp_g fM (by omega)).trans (hO.2 j w hj)⟩
  have f6 : eqp (enF A) σ σ6 := eqp_tr hf (eqp_mo fM (fun c k hh => Or.inr (Or.inl hh.1)))
  have hle : els Ex ≤ els (Ex ++ [(2, nm, rcC (Int32.ofNat n) f2 f3 (Int32.ofNat (zF s)) v3 (σ5.1 92 6) ws)]) := by rw [els_a]; omega
  refine c_180 hA hl hw hd oc x6 (fun hh => ?_) (fun σ7 x7 f7 => ?_)
  · obtain ⟨p1, p2, p3, p4, p5, p6, z, p7, p8⟩ := ho (by omega)
    have hit : LgW Ex := by
      rcases hX.2 with hx | hx
      · exact hx.1
      · have := hx.1; omega
    have hnw := LgW_n hit
    have hoz := (List.getElem?_eq_some_iff.mp p7).1
    rw [itp_l] at hoz
    have hnl : ns.length ≤ 30 := by rw [p3, List.length_map] at hw; exact hw
    exact rcC_wf hl hl1 hn rfl p2 p4 p5 p1 hoz hnw.2.2 p3 hnl p6
  rw [my_k0_v]
  refine ⟨A, rfl, in8 hA, ?_⟩
  have f67 : eqp (enF A) σ σ7 := eqp_tr f6 (eqp_mo f7 (fun c k hh => by unfold wrF at hh; unfold enF; omega))
  by_cases c : els (Ex ++ [(2, nm, rcC (Int32.ofNat n) f2 f3 (Int32.ofNat (zF s)) v3 (σ5.1 92 6) ws)]) ≤ 7747
  · obtain ⟨p1, p2, p3, p4, p5, p6, z, p7, p8⟩ := ho (by omega)
    have e1 : hR = Ex ++ [(2, nm, rcC (Int32.ofNat n) f2 f3 (Int32.ofNat (zF s)) v3 (σ5.1 92 6) ws)] := by rw [hrc (by omega), p1, p2, p3]
    rw [← e1] at c x7
    rcases x7.2 with ⟨w1, w2, w3⟩ | hx
    · rw [w3, if_pos rfl]
      unfold ys_161_236 ys_161_249
      refine ⟨A, rfl, in8 hA, ?_⟩
      rw [w3, if_pos rfl]
      refine ⟨Or.inr rfl, hQ1 c σ7 w1 ?_ w2 f67⟩
      rw [e1]
      refine LgT_r hT (show ¬ (2 : Nat) = 1 by omega) ⟨z, ?_, p8⟩
      have hoz := (List.getElem?_eq_some_iff.mp p7).1
      have hit : LgW Ex := by
        rcases hX.2 with hx | hx
        · exact hx.1
        · have := hx.1; omega
      have hnw := LgW_n hit
      show (itp Ex)[g2 (rcC (Int32.ofNat n) f2 f3 (Int32.ofNat (zF s)) v3 (σ5.1 92 6) ws) 8]? = some z
      rw [rcC_6 (by omega) p1]
      exact p7
    · have := hx.1; omega
  · have hfull : 7747 < els hR := by
      by_cases c2 : els Ex ≤ 7747
      · obtain ⟨p1, p2, p3, _⟩ := ho c2
        rw [hrc c2, ← p1, ← p2, ← p3]
        omega
      · exact hrf (by omega)
    rcases x7.2 with ⟨w1, _, _⟩ | ⟨_, B, L, R, b1, b2, b3, b4, b5, b6, b7, b8⟩
    · have := w1.2; omega
    · have h10 : σ7.1 A 10 = 1 := by rw [b2.2.2, if_pos b1]
      rw [h10, if_neg (by decide)]
      refine ⟨A, rfl, in8 hA, A, rfl, in8 hA, A, rfl, in8 hA, ?_⟩
      have lb := WX_back (σ2 := my_uI (my_uI (my_uI σ7 A 1 (Int32.ofNat (els E))) A 6 (Int32.ofNat (itp E).length)) A 9 (Int32.ofNat (rcp E).length)) hA hW x7 (by omega) rfl rfl rfl rfl
      have fb : eqp (enF A) σ7 (my_uI (my_uI (my_uI σ7 A 1 (Int32.ofNat (els E))) A 6 (Int32.ofNat (itp E).length)) A 9 (Int32.ofNat (rcp E).length)) := eqp_I (eqp_I (eqp_I eqp_rf (Or.inl (by omega))) (Or.inl (by omega))) (Or.inl (by omega))
      have h10b : (my_uI (my_uI (my_uI σ7 A 1 (Int32.ofNat (els E))) A 6 (Int32.ofNat (itp E).length)) A 9 (Int32.ofNat (rcp E).length)).1 A 10 = 1 := by rw [my_uI_1, if_neg (by omega), my_uI_1, if_neg (by omega), my_uI_1, if_neg (by omega)]; exact h10
      generalize my_uI (my_uI (my_uI σ7 A 1 (Int32.ofNat (els E))) A 6 (Int32.ofNat (itp E).length)) A 9 (Int32.ofNat (rcp E).length) = σ8 at lb fb h10b ⊢
      unfold ys_161_236 ys_161_249
      refine ⟨A, rfl, in8 hA, ?_⟩
      rw [h10b, if_neg (by decide)]
      exact ⟨Or.inl rfl, hQ0 hfull σ8 lb (eqp_tr f67 fb)⟩
end MCN
