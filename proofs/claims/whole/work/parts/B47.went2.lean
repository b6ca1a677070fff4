
/-! ===== the class: entryOf ===== -/
/-- the list with that entry, and its number -/
def adE (E : List Et) (nm : List Nat) (X : List Int32) : List Et × Nat := match efd (itp E) nm X (itp E).length 0 with
  | some j => (E, j)
  | none => (E ++ [(1, nm, X)], nit E)
section MWG
variable {e : my_E} {d : Nat} {κ : my_K} {σ σ' : my_S} {Q : my_O → my_K → my_S → Prop} {A S o : Nat} {E E' : List Et} {B X : List Int32} {L : List (List Nat × Nat × Nat)} {nm : List Nat}
theorem itL3_a {F : List Et} : itL3 E <+: itL3 (E ++ F) ∧ rcL2 E <+: rcL2 (E ++ F) := by
  unfold itL3 rcL2 itp rcp
  rw [pse_a, List.filter_append, List.filter_append, List.map_append, List.map_append]
  exact ⟨List.prefix_append _ _, List.prefix_append _ _⟩
theorem itL3_s {x : Et} (h : eK x = 1) : itL3 (E ++ [x]) = itL3 E ++ [(eN x, els E + 6 + (eN x).length, (eC x).length)] ∧ rcL2 (E ++ [x]) = rcL2 E := by
  obtain ⟨s1, s2⟩ := itp_s (E := E) h
  have hl : hL1 x = 5 := if_pos h
  unfold itL3 rcL2
  rw [s1, s2, List.map_append]
  refine ⟨?_, rfl⟩
  show _ ++ [(eN x, els E + hL1 x + 1 + (eN x).length, (eC x).length)] = _
  rw [hl]
theorem itL3_p (hW : LgW E) : ∀ x ∈ itL3 E, x.2.1 ≤ 7747 := fun x hx => by
  unfold itL3 at hx
  obtain ⟨y, hy, rfl⟩ := List.mem_map.mp hx
  have := (pse_b (itp_m hy).1).2
  have := hW.2
  show y.1 + 1 + (eN y.2).length ≤ 7747
  omega
theorem adE_p : ∃ F, (adE E nm X).1 = E ++ F := by
  unfold adE
  cases efd (itp E) nm X (itp E).length 0 with
  | none => exact ⟨_, rfl⟩
  | some j => exact ⟨[], (List.append_nil _).symm⟩
theorem c_177 (hA : lg2 A) (hX : aB X) (hX2 : 2 ≤ X.length) (hl : isN nm) (hl1 : 1 ≤ nm.length) (h : WX A E E' σ) (hS : Src A S o X σ) (hd : 2 ≤ d) (hQ : ∀ σ' x, WX A E (adE E' nm X).1 σ' → (els (adE E' nm X).1 ≤ 7747 → x = Int32.ofNat (adE E' nm X).2) → eqp (wlF A) σ σ' → Q (.inl (some (.inl x))) κ σ') : my_M e d 177 [.inr (.inr (some A)), .inr (.inl (nmC nm)), .inr (.inr (some S)), .inl (Int32.ofNat o), .inl (Int32.ofNat X.length)] κ σ Q := by
  obtain ⟨d, rfl⟩ := dS 1 (show 1 ≤ d by omega)
  obtain ⟨⟨F, hF⟩, h⟩ := h
  refine ys_177 (in8 hA) ?_
  unfold ys_177_0
  rcases h with ⟨hW, hC, h0⟩ | ⟨hel, B, L, R, b1, b2, b3, b4, b5, b6, b7, b8⟩
  · obtain ⟨w1, w2, w3⟩ := LgC_W hW hC h0
    have hn := LgW_n hW
    have hlen : (itL3 E').length = nit E' := by unfold itL3; rw [List.length_map, itp_l]
    refine ys_177_3_ok (in8 hA) (c_177e hA hW hC hl hS (by omega) (fun hnone => ?_) (fun j hj => ?_) (itp E').length 0 (Nat.zero_add _) rfl)
    · have ha : adE E' nm X = (E' ++ [(1, nm, X)], nit E') := by unfold adE; rw [hnone]
      rw [ha] at hQ
      dsimp only at hQ
      have hls : els (E' ++ [(1, nm, X)]) = els E' + (6 + nm.length + X.length) := by
        rw [els_a, els, els]
        show els E' + (5 + 1 + nm.length + X.length + 0) = _
        omega
      refine w_177w hA hX hl (by omega) hS w2 w1 (fun hh => by omega) (fun σ1 L' q1 q2 q3 q4 q5 => ?_)
      have q1 := q1 (by omega)
      rw [en_l] at q1
      rw [hlen] at q3
      have he : en E' 0 ++ e1 (1, nm, X) (nit E') = en (E' ++ [(1, nm, X)]) 0 := by rw [en_a, en, en, List.append_nil, Nat.zero_add]
      rw [he] at q3
      have r3 : NR A (rcL2 E') σ1 := NR_o w3 q5 (fun c k hh => by unfold wlF at hh; omega)
      obtain ⟨s1, s2⟩ := itL3_s (E := E') (x := (1, nm, X)) rfl
      have hLl : Int32.ofNat L'.length - 1 = Int32.ofNat (nit E') := by rw [q1, List.length_append, List.length_singleton, hlen, oN_m]
      rw [hLl]
      refine hQ σ1 _ ⟨⟨F ++ [(1, nm, X)], by rw [hF, List.append_assoc]⟩, ?_⟩ (fun _ => rfl) q5
      by_cases c : els (E' ++ [(1, nm, X)]) ≤ 7747
      · left
        have hW2 : LgW (E' ++ [(1, nm, X)]) := by
          refine ⟨wfl_a.mpr ⟨hW.1, ?_, trivial⟩, c⟩
          exact ⟨hl, hl1, hX, Or.inl ⟨rfl, hX2⟩⟩
        have hmin : min (els E' + 6 + nm.length) 7747 = els E' + 6 + nm.length := by omega
        rw [hmin] at q1
        obtain ⟨g1, g2⟩ := W_LgC c q3 (by rw [s1]; rw [q1] at q4; exact q4) (by rw [s2]; exact r3)
        exact ⟨hW2, g1, g2⟩
      · right
        refine ⟨by omega, en (E' ++ [(1, nm, X)]) 0, L', rcL2 E', by rw [en_l]; omega, q3, q4, fun x hx => ?_, r3, ?_, ?_, ?_⟩
        · rw [q1] at hx
          rcases List.mem_append.mp hx with hx | hx
          · exact itL3_p hW x hx
          · rw [List.mem_singleton.mp hx]
            show min (els E' + 6 + nm.length) 7747 ≤ 7747
            omega
        · rw [hF, List.append_assoc, en_a]
          exact List.prefix_append _ _
        · rw [q1, hF]
          exact (itL3_a (E := E) (F := F)).1.trans (List.prefix_append _ _)
        · rw [hF]
          exact (itL3_a (E := E) (F := F)).2
    · have ha : adE E' nm X = (E', j) := by unfold adE; rw [hj]
      rw [ha] at hQ
      exact hQ σ _ ⟨⟨F, hF⟩, Or.inl ⟨hW, hC, h0⟩⟩ (fun _ => rfl) eqp_rf
  · obtain ⟨F2, hF2⟩ := adE_p (E := E') (nm := nm) (X := X)
    have hel2 : 7747 < els (adE E' nm X).1 := by rw [hF2, els_a]; omega
    have hEE : ∃ F3, (adE E' nm X).1 = E ++ F3 := ⟨F ++ F2, by rw [hF2, hF, List.append_assoc]⟩
    refine ys_177_3_ok (in8 hA) (c_177f hA b3 b4 hS (by omega) ?_ (fun j hj => ?_) L.length 0 (Nat.zero_add _))
    · refine w_177w hA hX hl (by omega) hS b3 b2 (fun _ => b1) (fun σ1 L' q1 q2 q3 q4 q5 => ?_)
      refine hQ σ1 _ ⟨hEE, Or.inr ⟨hel2, _, L', R, ?_, q3, q4, fun x hx => ?_, NR_o b5 q5 (fun c k hh => by unfold wlF at hh; omega), b6.trans (List.prefix_append _ _), ?_, b8⟩⟩ (fun hh => by omega) q5
      · rw [List.length_append]; omega
      · by_cases c : L.length < 900
        · rw [q1 c] at hx
          rcases List.mem_append.mp hx with hx | hx
          · exact b4 x hx
          · rw [List.mem_singleton.mp hx]
            show min (B.length + 6 + nm.length) 7747 ≤ 7747
            omega
        · have := b3.2.1
          rw [q2 (by omega)] at hx
          exact b4 x hx
      · by_cases c : L.length < 900
        · rw [q1 c]; exact b7.trans (List.prefix_append _ _)
        · have := b3.2.1
          rw [q2 (by omega)]; exact b7
    · exact hQ σ _ ⟨hEE, Or.inr ⟨hel2, B, L, R, b1, b2, b3, b4, b5, b6, b7, b8⟩⟩ (fun hh => by omega) eqp_rf
end MWG
