
/-! ===== numbers of entries; a record's own entry ===== -/
theorem efd_j {P : List (Nat × Et)} {nm : List Nat} {X : List Int32} : ∀ {m j i : Nat}, efd P nm X m j = some i → ∃ y, P[i]? = some y ∧ eN y.2 = nm ∧ eC y.2 = X
  | 0, _, _, h => by unfold efd at h; cases h
  | m + 1, j, i, h => by
    unfold efd at h
    cases hp : P[j]? with
    | none => rw [hp] at h; cases h
    | some y =>
      rw [hp] at h
      dsimp only at h
      split at h
      · rename_i hc
        cases h
        exact ⟨y, hp, hc.1, hc.2⟩
      · exact efd_j h
theorem itp_ap {E F : List Et} {j : Nat} {y : Nat × Et} (h : (itp E)[j]? = some y) : (itp (E ++ F))[j]? = some y := by
  have hj := (List.getElem?_eq_some_iff.mp h).1
  unfold itp at h hj ⊢
  rw [pse_a, List.filter_append, List.getElem?_append_left hj]
  exact h
theorem rcp_ap {E F : List Et} {y : Nat × Et} (h : y ∈ rcp E) : y ∈ rcp (E ++ F) := by
  unfold rcp at h ⊢
  rw [pse_a, List.filter_append]
  exact List.mem_append_left _ h
theorem adE_at {E : List Et} {nm : List Nat} {X : List Int32} : ∃ y, (itp (adE E nm X).1)[(adE E nm X).2]? = some y ∧ eN y.2 = nm ∧ eC y.2 = X := by
  unfold adE
  cases h : efd (itp E) nm X (itp E).length 0 with
  | some j => exact efd_j h
  | none =>
    dsimp only
    rw [(itp_s (E := E) (x := (1, nm, X)) rfl).1]
    refine ⟨(els E + hL1 (1, nm, X), (1, nm, X)), ?_, rfl, rfl⟩
    rw [List.getElem?_append_right (by rw [itp_l]; omega), itp_l, Nat.sub_self]
    rfl
theorem adE_n {E : List Et} {nm : List Nat} {X : List Int32} : (adE E nm X).2 < nit (adE E nm X).1 := by
  obtain ⟨y, hy, _⟩ := adE_at (E := E) (nm := nm) (X := X)
  have := (List.getElem?_eq_some_iff.mp hy).1
  rw [itp_l] at this
  exact this
section MAN
variable {As : List Ri} {I : List It}
theorem adM_p : ∀ {ks : List Nat} {E : List Et}, ∃ F, (adM As I ks E).1 = E ++ F
  | [], E => ⟨[], (List.append_nil _).symm⟩
  | k :: r, E => by
    rw [adM]
    obtain ⟨F1, h1⟩ := adE_p (E := E) (nm := eN (itE As I k)) (X := eC (itE As I k))
    obtain ⟨F2, h2⟩ := adM_p (ks := r) (E := (adK As I E k).1)
    refine ⟨F1 ++ F2, ?_⟩
    rw [h2]
    unfold adK
    rw [h1, List.append_assoc]
theorem adM_n : ∀ {ks : List Nat} {E : List Et}, ∀ x ∈ (adM As I ks E).2, x < nit (adM As I ks E).1
  | [], E => fun x hx => by rw [adM] at hx; exact absurd hx List.not_mem_nil
  | k :: r, E => fun x hx => by
    rw [adM] at hx ⊢
    rcases List.mem_cons.mp hx with hx | hx
    · obtain ⟨F, hF⟩ := adM_p (As := As) (I := I) (ks := r) (E := (adK As I E k).1)
      have := adE_n (E := E) (nm := eN (itE As I k)) (X := eC (itE As I k))
      rw [hx, hF, nit_a]
      show (adK As I E k).2 < nit (adK As I E k).1 + nit F
      unfold adK
      omega
    · exact adM_n x hx
end MAN
/-- items added keep what is said of records -/
theorem LgT_i {E : List Et} {x : Et} (h : LgT E) (hx : eK x = 1) : LgT (E ++ [x]) := fun y hy => by
  rw [(itp_s (E := E) hx).2] at hy
  obtain ⟨z, h1, h2⟩ := h y hy
  exact ⟨z, itp_ap h1, h2⟩
/-- so does a record whose own entry has its name -/
theorem LgT_r {E : List Et} {x : Et} (h : LgT E) (hx : ¬ eK x = 1) (hz : ∃ z, (itp E)[g2 (eC x) 8]? = some z ∧ eN z.2 = eN x) : LgT (E ++ [x]) := fun y hy => by
  rw [(rcp_s (E := E) hx).2] at hy
  rcases List.mem_append.mp hy with hy | hy
  · obtain ⟨z, h1, h2⟩ := h y hy
    exact ⟨z, itp_ap h1, h2⟩
  · rw [List.mem_singleton.mp hy]
    obtain ⟨z, h1, h2⟩ := hz
    exact ⟨z, itp_ap h1, h2⟩
theorem LgT_e {E : List Et} {nm : List Nat} {X : List Int32} (h : LgT E) : LgT (adE E nm X).1 := by
  unfold adE
  cases efd (itp E) nm X (itp E).length 0 with
  | some j => exact h
  | none => exact LgT_i h rfl
theorem LgT_m {As : List Ri} {I : List It} : ∀ {ks : List Nat} {E : List Et}, LgT E → LgT (adM As I ks E).1
  | [], _, h => h
  | k :: r, E, h => by rw [adM]; exact LgT_m (LgT_e h)
theorem LgT_0 : LgT [] := fun y hy => by simp [rcp, pse] at hy
