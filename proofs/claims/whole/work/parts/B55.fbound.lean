
/-! ===== what is fresh has room ===== -/
def smF (f : Nat → Nat) : List Nat → Nat
  | [] => 0
  | k :: r => f k + smF f r
def smR (f : Nat → Nat) : Nat → Nat
  | 0 => 0
  | n + 1 => smR f n + f n
theorem smF_e {f : Nat → Nat} {k : Nat} : ∀ {K : List Nat}, k ∈ K → smF f K = f k + smF f (K.erase k)
  | [], h => absurd h List.not_mem_nil
  | q :: K, h => by
    by_cases c : q = k
    · subst c
      rw [List.erase_cons_head]
      rfl
    · rw [List.erase_cons_tail (by simpa using c), smF, smF]
      rcases List.mem_cons.mp h with h | h
      · exact absurd h.symm c
      · rw [smF_e h]; omega
theorem smF_le {f : Nat → Nat} : ∀ {n : Nat} {K : List Nat}, K.Nodup → (∀ k ∈ K, k < n) → smF f K ≤ smR f n
  | 0, K, _, h => by
    cases K with
    | nil => exact Nat.le_refl _
    | cons k K => exact absurd (h k (List.mem_cons_self ..)) (by omega)
  | n + 1, K, hd, h => by
    rw [smR]
    by_cases c : n ∈ K
    · rw [smF_e c]
      have := smF_le (f := f) (n := n) (K := K.erase n) (hd.erase n) (fun k hk => by
        have h1 := (List.Nodup.mem_erase_iff hd).mp hk
        have := h k h1.2
        have h2 := h1.1
        omega)
      omega
    · have := smF_le (f := f) (n := n) (K := K) hd (fun k hk => by
        have h1 := h k hk
        have h2 : k ≠ n := fun hh => c (hh ▸ hk)
        omega)
      omega
def ibk (As : List Ri) (I : List It) (k : Nat) : Nat := match As[k]? with
  | none => 0
  | some a => (ib I (rwA (As.take k)).length a).length
theorem frE_s {As : List Ri} {I : List It} (hB : itsB As) : ∀ {K : List Nat}, els (frE As I K) ≤ 14 * K.length + smF (ibk As I) K
  | [] => Nat.zero_le _
  | k :: K => by
    have ih := frE_s (I := I) hB (K := K)
    show els ((match As[k]? with | none => (1, [], []) | some a => (1, riN a, ib I (rwA (As.take k)).length a)) :: frE As I K) ≤ _
    rw [els, smF, List.length_cons]
    unfold ibk
    cases ha : As[k]? with
    | none =>
      dsimp only
      show 5 + 1 + 0 + 0 + els (frE As I K) ≤ _
      unfold ibk at ih
      omega
    | some a =>
      dsimp only
      have h8 := (hB.2 a (List.mem_of_getElem? ha)).2.1.2
      show 5 + 1 + (riN a).length + (ib I (rwA (As.take k)).length a).length + els (frE As I K) ≤ _
      unfold ibk at ih
      omega
theorem smR_i {As : List Ri} {I : List It} : ∀ {n : Nat}, n ≤ As.length → smR (ibk As I) n ≤ (ibA I 0 (As.take n)).length
  | 0, _ => Nat.zero_le _
  | n + 1, h => by
    have hlt : n < As.length := by omega
    have ha := List.getElem?_eq_getElem hlt
    have ih := smR_i (As := As) (I := I) (n := n) (by omega)
    have hl := ibA_take (I := I) ha
    rw [hl, List.length_append]
    rw [smR]
    have : ibk As I n = (ib I (rwA (As.take n)).length As[n]).length := by unfold ibk; rw [ha]
    omega
theorem frE_b {As : List Ri} {I : List It} {K : List Nat} (hB : itsB As) (hd : K.Nodup) (hK : ∀ k ∈ K, k < As.length) (h61 : (ibA I 0 As).length ≤ 6144) : els (frE As I K) ≤ 14 * K.length + 6144 := by
  have h1 := frE_s (I := I) hB (K := K)
  have h2 := smF_le (f := ibk As I) hd hK
  have h3 := smR_i (I := I) (As := As) (Nat.le_refl As.length)
  rw [List.take_length] at h3
  omega
