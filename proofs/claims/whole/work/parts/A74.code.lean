
/-! ===== an item by kind and number; code ===== -/
def fkA (As : List Ri) (v1 v2 : Int32) : Nat → Nat → Option Nat
  | 0, _ => none
  | m + 1, j => match As[j]? with
    | none => none
    | some a => if Int32.ofNat (kdf (riF a)) = v1 ∧ Int32.ofNat (cnK (As.take j) (kdf (riF a))) = v2 then some j else fkA As v1 v2 m (j + 1)
theorem fkA_lt {As : List Ri} {v1 v2 : Int32} : ∀ {m j k : Nat}, fkA As v1 v2 m j = some k → k < As.length
  | 0, j, k, h => by unfold fkA at h; cases h
  | m + 1, j, k, h => by
    unfold fkA at h
    cases ha : As[j]? with
    | none => rw [ha] at h; cases h
    | some a =>
      rw [ha] at h
      dsimp only at h
      split at h
      · cases h; exact (List.getElem?_eq_some_iff.mp ha).1
      · exact fkA_lt h
section MKC
variable {e : my_E} {d : Nat} {κ : my_K} {σ : my_S} {Q : my_O → my_K → my_S → Prop} {As : List Ri} {I : List It} {rv : Nat} {v1 v2 : Int32}
theorem cnK_le {A : List Ri} {k : Nat} : cnK A k ≤ A.length := by
  induction A with
  | nil => simp [cnK]
  | cons a A ih => simp only [cnK, List.length_cons]; split <;> omega
theorem c_200l (hrv : rv = 108 ∨ rv = 238 ∨ rv = 368) (hrel : iRel As I) (h : CIm I rv σ) (ho : OD (As.map (fun a => a.1)) rv σ) : ∀ (m j : Nat), j + m = As.length → Q (.inl (some (.inr (.inr ((fkA As v1 v2 m j).map (fun k => rv + 4 + 3 * k)))))) κ σ → ys_200_2 e d rv v1 v2 (Int32.ofNat j) κ σ Q := by
  have h42 : As.length ≤ 42 := by rw [← hrel.1]; exact h.2.1
  intro m
  induction m with
  | zero =>
    intro j hj hQ
    unfold ys_200_2 ys_200_58
    rw [h.1, hrel.1, if_neg (by rw [oN_lt (by omega) (by omega)]; omega)]
    exact hQ
  | succ m ih =>
    intro j hj hQ
    have hjA : j < As.length := by omega
    have ha := List.getElem?_eq_getElem hjA
    generalize As[j] = a at ha
    obtain ⟨b, hb, hio⟩ := iRel_a2 hrel (k := j) (by rw [hrel.1]; exact hjA)
    rw [ha] at hb
    cases hb
    obtain ⟨z1, z2, z3, z4, z5⟩ := h.2.2.2 j _ (itA_e (I := I) (by rw [hrel.1]; exact hjA))
    have hfs : (As.map (fun a => a.1))[j]? = some (riF a) := by rw [List.getElem?_map, ha]; rfl
    obtain ⟨y1, y2⟩ := ho.1 j _ hfs
    have y3 : cnF ((As.map (fun a => a.1)).take j) (kdf (riF a)) = cnK (As.take j) (kdf (riF a)) := by rw [cnK_F, List.map_take]
    rw [y3] at y2
    have ex := h.2.2.1 j (by omega)
    unfold ys_200_2
    rw [h.1, hrel.1, if_pos (by rw [oN_lt (by omega) (by omega)]; omega), if_pos ((oN_lt1 (b := 42) (c := 42) rfl (by omega) (by omega)).mpr (by omega)), oN_n (by omega), ex]
    refine ⟨bdk (by omega) (by omega), _, rfl, in11 hrv (by omega), ?_⟩
    rw [z4, hio.2.2.1]
    unfold fkA at hQ
    rw [ha] at hQ
    dsimp only at hQ
    have go : ¬ (Int32.ofNat (kdf (riF a)) = v1 ∧ Int32.ofNat (cnK (As.take j) (kdf (riF a))) = v2) → ys_200_52 e d rv v1 v2 (Int32.ofNat j) κ σ Q := fun hc => by
      rw [if_neg hc] at hQ
      unfold ys_200_52
      rw [oN_s]
      exact ys_200_2_ok (in10 hrv) (ih (j + 1) (by omega) hQ)
    refine my_if (fun c1 => ⟨bdk (by omega) (by omega), _, rfl, in11 hrv (by omega), ?_⟩) (fun c1 => go (fun hh => c1 hh.1))
    rw [y2]
    refine my_if (fun c2 => ⟨bdk (by omega) (by omega), ?_⟩) (fun c2 => go (fun hh => c2 hh.2))
    rw [if_pos ⟨c1, c2⟩] at hQ
    exact hQ
theorem c_200 (hrv : rv = 108 ∨ rv = 238 ∨ rv = 368) (hrel : iRel As I) (h : CIm I rv σ) (ho : OD (As.map (fun a => a.1)) rv σ) (hd : 1 ≤ d) (hQ : Q (.inl (some (.inr (.inr ((fkA As v1 v2 As.length 0).map (fun k => rv + 4 + 3 * k)))))) κ σ) : my_M e d 200 [.inr (.inr (some rv)), .inl v1, .inl v2] κ σ Q := by
  obtain ⟨d, rfl⟩ := dS 1 hd
  refine ys_200 (in10 hrv) ?_
  unfold ys_200_0
  exact ys_200_2_ok (in10 hrv) (c_200l hrv hrel h ho As.length 0 (by omega) hQ)
/-- the reference's number of it -/
def fkI (o : Option Nat) : Int32 := match o with | none => Int32.ofInt (-1) | some k => Int32.ofNat k
theorem r_281l {K : Nat} {v3 : Int32} (hB : itsB As) (hn : ∀ k a, As[k]? = some a → σ.1 529 k = Int32.ofNat (riF a + 10)) (h49 : σ.1 498 49 = Int32.ofNat As.length) (hK : K ≤ 3) (hv3 : ∀ f, f ≤ 4 → (Int32.ofNat (srt f + 10) = v3 ↔ kdf f = K)) (hd : 1 ≤ d) : ∀ (m j : Nat), j + m = As.length → Q (.inl (some (.inl (fkI (fkA As (Int32.ofNat K) v2 m j))))) κ σ → ys_281_38 e d v2 v3 (Int32.ofNat (cnK (As.take j) K)) (Int32.ofNat j) κ σ Q := by
  have h42 := itsB_42 hB
  intro m
  induction m with
  | zero =>
    intro j hj hQ
    unfold ys_281_38
    rw [h49, if_neg (by rw [oN_lt (by omega) (by omega)]; omega)]
    exact hQ
  | succ m ih =>
    intro j hj hQ
    have hjA : j < As.length := by omega
    have ha := List.getElem?_eq_getElem hjA
    generalize As[j] = a at ha
    have hF := (hB.2 a (List.mem_of_getElem? ha)).1
    have htk : As.take (j + 1) = As.take j ++ [a] := by rw [List.take_succ, ha]; rfl
    have hlt := kdf_lt hF
    unfold ys_281_38
    rw [h49, if_pos (by rw [oN_lt (by omega) (by omega)]; omega), oN_n (by omega), hn j a ha]
    refine ⟨bdk (by omega) (by omega), ?_⟩
    refine r_228 hF hd ?_
    rw [my_kI_v]
    unfold fkA at hQ
    rw [ha] at hQ
    dsimp only at hQ
    refine my_if (fun c1 => ?_) (fun c1 => ?_)
    · have hk := (hv3 _ hF).mp c1
      rw [hk] at hQ
      refine my_if (fun c2 => ?_) (fun c2 => ?_)
      · rw [if_pos ⟨rfl, c2⟩] at hQ
        exact hQ
      · rw [if_neg (fun hh => c2 hh.2)] at hQ
        unfold ys_281_73
        rw [oN_s, oN_s]
        have : cnK (As.take (j + 1)) K = cnK (As.take j) K + 1 := by
          rw [htk, cnK_a]
          simp only [cnK]
          rw [if_pos (show kdf a.1 = K from hk)]
        rw [← this]
        exact ys_281_38_ok (ih (j + 1) (by omega) hQ)
    · have hk : ¬ kdf (riF a) = K := fun hh => c1 ((hv3 _ hF).mpr hh)
      rw [if_neg (fun hh => hk ((oN_e (by omega) (by omega)).mp hh.1))] at hQ
      unfold ys_281_73
      rw [oN_s]
      have : cnK (As.take (j + 1)) K = cnK (As.take j) K := by
        rw [htk, cnK_a]
        simp only [cnK]
        rw [if_neg (show ¬ kdf a.1 = K from hk)]
        omega
      rw [← this]
      exact ys_281_38_ok (ih (j + 1) (by omega) hQ)
theorem r_281 {K : Nat} (hB : itsB As) (hn : ∀ k a, As[k]? = some a → σ.1 529 k = Int32.ofNat (riF a + 10)) (h49 : σ.1 498 49 = Int32.ofNat As.length) (hK : K ≤ 3) (hd : 2 ≤ d) (hQ : Q (.inl (some (.inl (fkI (fkA As (Int32.ofNat K) v2 As.length 0))))) κ σ) : my_M e d 281 [.inr (.inr (some 498)), .inl (Int32.ofNat K), .inl v2] κ σ Q := by
  obtain ⟨d, rfl⟩ := dS 1 (show 1 ≤ d by omega)
  have key : ∀ (T : Nat), T = (if K = 3 then 4 else K) → ys_281_31 e d v2 (Int32.ofNat (T + 10)) κ σ Q := fun T hT => by
    unfold ys_281_31
    refine ys_281_38_ok ?_
    refine r_281l (K := K) hB hn h49 hK (fun f hf => ?_) (by omega) As.length 0 (by omega) hQ
    rw [oN_e (by unfold srt; split <;> omega) (by split at hT <;> omega), hT]
    unfold srt kdf
    split <;> split <;> split <;> omega
  refine ys_281 ?_
  unfold ys_281_0
  refine my_if (fun c => ?_) (fun c => my_if (fun c2 => ?_) (fun c2 => my_if (fun c3 => ?_) (fun c3 => ?_)))
  · have := (oN_e (b := 0) (by omega) (by omega)).mp c
    exact key 0 (by rw [if_neg (by omega)]; omega)
  · have := (oN_e (b := 1) (by omega) (by omega)).mp c2
    exact key 1 (by rw [if_neg (by omega)]; omega)
  · have := (oN_e (b := 2) (by omega) (by omega)).mp c3
    exact key 2 (by rw [if_neg (by omega)]; omega)
  · have n0 : K ≠ 0 := fun hh => c (by rw [hh]; rfl)
    have n1 : K ≠ 1 := fun hh => c2 (by rw [hh]; rfl)
    have n2 : K ≠ 2 := fun hh => c3 (by rw [hh]; rfl)
    exact key 4 (by rw [if_pos (by omega)])
end MKC
