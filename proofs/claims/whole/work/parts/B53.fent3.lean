
/-! ===== entryOf of the reference is that of the list ===== -/
def efl (nm : List Nat) (X : List Int32) : List Et → Nat → Option Nat
  | [], _ => none
  | z :: r, j => if eN z = nm ∧ eC z = X then some j else efl nm X r (j + 1)
theorem efl_a {nm : List Nat} {X : List Int32} : ∀ {P R : List Et} {j : Nat}, efl nm X (P ++ R) j = match efl nm X P j with
    | some i => some i
    | none => efl nm X R (j + P.length)
  | [], R, j => by simp [efl]
  | z :: P, R, j => by
    rw [List.cons_append, efl, efl]
    by_cases c : eN z = nm ∧ eC z = X
    · rw [if_pos c, if_pos c]
    · rw [if_neg c, if_neg c, efl_a, List.length_cons, show j + 1 + P.length = j + (P.length + 1) by omega]
theorem efd_l {P : List (Nat × Et)} {nm : List Nat} {X : List Int32} : ∀ {m j : Nat}, j + m = P.length → efd P nm X m j = efl nm X ((P.drop j).map (fun y => y.2)) j
  | 0, j, h => by rw [List.drop_of_length_le (by omega)]; rfl
  | m + 1, j, h => by
    have hlt : j < P.length := by omega
    rw [efd, List.getElem?_eq_getElem hlt, List.drop_eq_getElem_cons hlt, List.map_cons, efl]
    dsimp only
    rw [efd_l (m := m) (j := j + 1) (by omega)]
theorem itp_map : ∀ {E : List Et} {o : Nat}, ((pse E o).filter (fun y => decide (eK y.2 = 1))).map (fun y => y.2) = E.filter (fun x => decide (eK x = 1))
  | [], _ => rfl
  | x :: r, o => by
    rw [pse, List.filter_cons, List.filter_cons]
    by_cases c : eK x = 1
    · rw [if_pos (by simpa using c), if_pos (by simpa using c), List.map_cons, itp_map]
    · rw [if_neg (by simpa using c), if_neg (by simpa using c), itp_map]
theorem efd_i {E : List Et} {nm : List Nat} {X : List Int32} : efd (itp E) nm X (itp E).length 0 = efl nm X (E.filter (fun x => decide (eK x = 1))) 0 := by
  rw [efd_l (Nat.zero_add _), List.drop_zero]
  unfold itp
  rw [itp_map]
theorem nit_f : ∀ {E : List Et}, (E.filter (fun x => decide (eK x = 1))).length = nit E
  | [] => rfl
  | x :: r => by
    rw [List.filter_cons, nit]
    by_cases c : eK x = 1
    · rw [if_pos (by simpa using c), if_pos c, List.length_cons, nit_f]; omega
    · rw [if_neg (by simpa using c), if_neg c, nit_f]; omega
section MRI
variable {As : List Ri} {I : List It} {rv : Nat} {e : my_E} {d : Nat} {κ : my_K} {σ σ' : my_S} {Q : my_O → my_K → my_S → Prop} {E : List Et} {T : List Int32} {K : List Nat}
theorem frE_f : (frE As I K).filter (fun x => decide (eK x = 1)) = frE As I K := by
  apply List.filter_eq_self.mpr
  intro x hx
  unfold frE at hx
  obtain ⟨k, _, rfl⟩ := List.mem_map.mp hx
  cases As[k]? <;> rfl
theorem nmU_i (hU : nmU As) {k q : Nat} {a b : Ri} (ha : As[k]? = some a) (hb : As[q]? = some b) (hn : riN b = riN a) : q = k := by
  have h1 := (hU k a ha).1
  have h2 := (hU q b hb).1
  rw [hn, h1] at h2
  exact (Option.some.inj h2).symm
/-- a fresh entry is found by its item -/
theorem efl_K (hU : nmU As) {k : Nat} {a : Ri} (ha : As[k]? = some a) : ∀ {K : List Nat} {j : Nat}, (∀ q ∈ K, q < As.length) → (k ∉ K → efl (riN a) (ib I (rwA (As.take k)).length a) (frE As I K) j = none) ∧ ∀ i : Nat, K[i]? = some k → (∀ u : Nat, u < i → K[u]? ≠ some k) → efl (riN a) (ib I (rwA (As.take k)).length a) (frE As I K) j = some (j + i)
  | [], j, _ => ⟨fun _ => rfl, fun i hi => by simp at hi⟩
  | q :: K, j, hK => by
    have hq := hK q (List.mem_cons_self ..)
    have hb := List.getElem?_eq_getElem hq
    generalize As[q] = b at hb
    have ih := efl_K hU ha (K := K) (j := j + 1) (fun x hx => hK x (List.mem_cons_of_mem _ hx))
    have hs : efl (riN a) (ib I (rwA (As.take k)).length a) (frE As I (q :: K)) j = if riN b = riN a ∧ ib I (rwA (As.take q)).length b = ib I (rwA (As.take k)).length a then some j else efl (riN a) (ib I (rwA (As.take k)).length a) (frE As I K) (j + 1) := by
      show efl _ _ ((match As[q]? with | none => (1, [], []) | some a => (1, riN a, ib I (rwA (As.take q)).length a)) :: frE As I K) j = _
      rw [hb]
      rfl
    rw [hs]
    by_cases c : q = k
    · subst c
      rw [ha] at hb
      cases hb
      rw [if_pos ⟨rfl, rfl⟩]
      refine ⟨fun hh => absurd (List.mem_cons_self ..) hh, fun i hi hno => ?_⟩
      by_cases ci : i = 0
      · rw [ci]; rfl
      · exact absurd rfl (hno 0 (by omega))
    · rw [if_neg (fun hh => c (nmU_i hU ha hb hh.1))]
      refine ⟨fun hh => ih.1 (fun hm => hh (List.mem_cons_of_mem _ hm)), fun i hi hno => ?_⟩
      cases i with
      | zero => simp at hi; exact absurd hi c
      | succ i =>
        rw [List.getElem?_cons_succ] at hi
        rw [ih.2 i hi (fun u hu hh => hno (u + 1) (by omega) (by rw [List.getElem?_cons_succ]; exact hh))]
        congr 1
        omega
theorem adE_fr (hU : nmU As) {k : Nat} {a : Ri} (ha : As[k]? = some a) (hK : ∀ q ∈ K, q < As.length) : (∀ j, efd (itp E) (riN a) (ib I (rwA (As.take k)).length a) (itp E).length 0 = some j → adE (E ++ frE As I K) (riN a) (ib I (rwA (As.take k)).length a) = (E ++ frE As I K, j)) ∧ (efd (itp E) (riN a) (ib I (rwA (As.take k)).length a) (itp E).length 0 = none → (∀ i : Nat, K[i]? = some k → (∀ u : Nat, u < i → K[u]? ≠ some k) → adE (E ++ frE As I K) (riN a) (ib I (rwA (As.take k)).length a) = (E ++ frE As I K, nit E + i)) ∧ (k ∉ K → adE (E ++ frE As I K) (riN a) (ib I (rwA (As.take k)).length a) = (E ++ frE As I (K ++ [k]), nit E + K.length))) := by
  have key : efd (itp (E ++ frE As I K)) (riN a) (ib I (rwA (As.take k)).length a) (itp (E ++ frE As I K)).length 0 = match efd (itp E) (riN a) (ib I (rwA (As.take k)).length a) (itp E).length 0 with
      | some i => some i
      | none => efl (riN a) (ib I (rwA (As.take k)).length a) (frE As I K) (nit E) := by
    rw [efd_i, List.filter_append, frE_f, efl_a, efd_i, nit_f, Nat.zero_add]
  have hk := efl_K (I := I) hU ha (K := K) (j := nit E) hK
  refine ⟨fun j hj => ?_, fun hn => ⟨fun i hi hno => ?_, fun hh => ?_⟩⟩
  · unfold adE
    rw [key, hj]
  · unfold adE
    rw [key, hn]
    dsimp only
    rw [hk.2 i hi hno]
  · unfold adE
    rw [key, hn]
    dsimp only
    rw [hk.1 hh]
    dsimp only
    rw [frE_a ha, ← List.append_assoc, nit_a, frE_n]
/-- entryOf of the reference -/
theorem f_314 {k : Nat} {a : Ri} (h : LD As I rv σ) (hU : nmU As) (hW : LgW E) (hR : LgR E T σ) (hP : PrR E σ) (hF : FrR As I E K σ) (hK : K.length < 40) (ha : As[k]? = some a) (hb : els (frE As I K) + 20 + (ib I (rwA (As.take k)).length a).length ≤ 20000) (hd : 6 ≤ d) (hQ : ∀ σ' K', (adE (E ++ frE As I K) (riN a) (ib I (rwA (As.take k)).length a)).1 = E ++ frE As I K' → (K' = K ∨ (k ∉ K ∧ K' = K ++ [k])) → FrR As I E K' σ' → eqp frF σ σ' → Q (.inl (some (.inl (Int32.ofNat (adE (E ++ frE As I K) (riN a) (ib I (rwA (As.take k)).length a)).2)))) κ σ') : my_M e d 314 [.inr (.inr (some 498)), .inl (Int32.ofNat k)] κ σ Q := by
  obtain ⟨d, rfl⟩ := dS 1 (show 1 ≤ d by omega)
  have h42 := itsB_42 h.1
  have hkA := (List.getElem?_eq_some_iff.mp ha).1
  have hn := LgW_n hW
  have h90 : σ.1 498 90 = Int32.ofNat (nit E) := by rw [hP.1.1, itp_l]
  obtain ⟨A1, A2⟩ := adE_fr (I := I) (E := E) hU ha hF.2.2.2.2
  refine ys_314 ?_
  unfold ys_314_0
  refine ys_314_2_ok (f_314e h hW hR hP ha (by omega) (fun hno => ?_) (fun j hj => ?_) _ 0 (Nat.zero_add _) rfl)
  · obtain ⟨B1, B2⟩ := A2 hno
    refine f_314k (As := As) (I := I) (K := K) hF h90 h42 (by omega) (fun hh => ?_) (fun i hi hno2 => ?_) K.length 0 (Nat.zero_add _) (fun u hu => by omega)
    · have B2 := B2 hh
      rw [B2] at hQ
      refine f_314w h hF hK h90 hn.2.2 ha hb (by omega) (fun σ1 g1 f1 => ?_)
      exact hQ σ1 (K ++ [k]) rfl (Or.inr ⟨hh, rfl⟩) g1 f1
    · rw [B1 i hi hno2] at hQ
      exact hQ σ K rfl (Or.inl rfl) hF eqp_rf
  · rw [A1 j hj] at hQ
    exact hQ σ K rfl (Or.inl rfl) hF eqp_rf
end MRI
