
/-! ===== what is gone: the class's ===== -/
/-- over the items of a kind: how many were gone, or the one -/
def gn (Bs : List Ri) (NL : List (List Nat)) (v1 : Int32) (K : Nat) : Nat → Nat → Nat → Nat ⊕ Nat
  | 0, _, c => .inl c
  | m + 1, j, c => match Bs[j]? with
    | none => .inl c
    | some b => if kdf (riF b) = K ∧ kwi NL (riN b) 0 = none then (if Int32.ofNat c = v1 then .inr j else gn Bs NL v1 K m (j + 1) (c + 1)) else gn Bs NL v1 K m (j + 1) c
def gnO (Bs : List Ri) (NL : List (List Nat)) (v1 : Int32) : Nat → Nat → Nat → Option Nat
  | 0, _, _ => none
  | f + 1, K, c => match gn Bs NL v1 K Bs.length 0 c with
    | .inr j => some j
    | .inl c' => gnO Bs NL v1 f (K + 1) c'
theorem gn_lt {Bs : List Ri} {NL : List (List Nat)} {v1 : Int32} {K : Nat} : ∀ {m j c k : Nat}, gn Bs NL v1 K m j c = .inr k → k < Bs.length
  | 0, j, c, k, h => by unfold gn at h; cases h
  | m + 1, j, c, k, h => by
    unfold gn at h
    cases hb : Bs[j]? with
    | none => rw [hb] at h; cases h
    | some b =>
      rw [hb] at h
      dsimp only at h
      split at h
      · split at h
        · cases h; exact (List.getElem?_eq_some_iff.mp hb).1
        · exact gn_lt h
      · exact gn_lt h
theorem gnO_lt {Bs : List Ri} {NL : List (List Nat)} {v1 : Int32} : ∀ {f K c k : Nat}, gnO Bs NL v1 f K c = some k → k < Bs.length
  | 0, K, c, k, h => by unfold gnO at h; cases h
  | f + 1, K, c, k, h => by
    unfold gnO at h
    cases hg : gn Bs NL v1 K Bs.length 0 c with
    | inr j => rw [hg] at h; cases h; exact gn_lt hg
    | inl c' => rw [hg] at h; exact gnO_lt h
section MKG
variable {e : my_E} {d : Nat} {κ : my_K} {σ : my_S} {Q : my_O → my_K → my_S → Prop} {As Bs : List Ri} {I I' : List It} {rv ol : Nat} {v4 : Int32}
theorem cnK_m {K i j : Nat} {b : Ri} (hij : i < j) (hb : Bs[i]? = some b) (hk : kdf (riF b) = K) : cnK (Bs.take i) K + 1 ≤ cnK (Bs.take j) K := by
  have h1 : Bs.take j = Bs.take (i + 1) ++ (Bs.take j).drop (i + 1) := by
    have := (List.take_append_drop (i + 1) (Bs.take j)).symm
    rw [List.take_take, Nat.min_eq_left (by omega)] at this
    exact this
  have h2 : Bs.take (i + 1) = Bs.take i ++ [b] := by rw [List.take_succ, hb]; rfl
  rw [h1, cnK_a, h2, cnK_a]
  simp only [cnK]
  rw [if_pos (show kdf b.1 = K from hk)]
  omega
theorem fkA_at {K j : Nat} {b : Ri} (hB : itsB Bs) (hb : Bs[j]? = some b) (hk : kdf (riF b) = K) : ∀ (s i : Nat), i + s = j → fkA Bs (Int32.ofNat K) (Int32.ofNat (cnK (Bs.take j) K)) (Bs.length - i) i = some j := by
  have h42 := itsB_42 hB
  have hjl := (List.getElem?_eq_some_iff.mp hb).1
  have hlt := kdf_lt (hB.2 b (List.mem_of_getElem? hb)).1
  have hcl : ∀ i, cnK (Bs.take i) K ≤ 42 := fun i => by
    have := cnK_le (A := Bs.take i) (k := K)
    rw [List.length_take] at this
    omega
  intro s
  induction s with
  | zero =>
    intro i hi
    have hij : i = j := by omega
    subst hij
    rw [show Bs.length - i = (Bs.length - i - 1) + 1 by omega]
    unfold fkA
    rw [hb]
    dsimp only
    rw [hk, if_pos ⟨rfl, rfl⟩]
  | succ s ih =>
    intro i hi
    have hil : i < Bs.length := by omega
    obtain ⟨a, ha⟩ : ∃ a, Bs[i]? = some a := ⟨_, List.getElem?_eq_getElem hil⟩
    have hla := kdf_lt (hB.2 a (List.mem_of_getElem? ha)).1
    rw [show Bs.length - i = (Bs.length - (i + 1)) + 1 by omega]
    unfold fkA
    rw [ha]
    dsimp only
    rw [if_neg]
    · exact ih (i + 1) (by omega)
    · intro hc
      have hka : kdf (riF a) = K := (oN_e (by omega) (by omega)).mp hc.1
      have h2 := hc.2
      rw [hka] at h2
      have h3 := (oN_e (by have := hcl i; omega) (by have := hcl j; omega)).mp h2
      have h4 := cnK_m (j := j) (by omega) ha hka
      omega
/-- the revision before, as the class has it -/
def OLC (Bs : List Ri) (I' : List It) (ol : Nat) (σ : my_S) : Prop := (¬ (1 : Int32) < σ.1 32 10 ∧ Bs = []) ∨ ((1 : Int32) < σ.1 32 10 ∧ σ.2.2 32 8 = some ol ∧ (ol = 108 ∨ ol = 238 ∨ ol = 368) ∧ itsB Bs ∧ iRel Bs I' ∧ RevC I' Bs ol σ)
theorem c_15l {v1 : Int32} {K : Nat} (h : LD As I rv σ) (h8 : σ.2.2 32 8 = some ol) (hol : ol = 108 ∨ ol = 238 ∨ ol = 368) (hB : itsB Bs) (hrel : iRel Bs I') (hR : RevC I' Bs ol σ) (hK : K < 4) (hd : 1 ≤ d) (hQ : ∀ j, Q (.inl (some (.inr (.inr (some (ol + 4 + 3 * j)))))) κ σ → True) : ∀ (m j c : Nat), j + m = Bs.length → (∀ k, gn Bs (rno As) v1 K m j c = .inr k → Q (.inl (some (.inr (.inr (some (ol + 4 + 3 * k)))))) κ σ) → (∀ c', gn Bs (rno As) v1 K m j c = .inl c' → ys_15_4 e d v1 (Int32.ofNat c') (Int32.ofNat (K + 1)) κ σ Q) → ys_15_20 e d v1 (Int32.ofNat c) (Int32.ofNat K) (Int32.ofNat (cnK (Bs.take j) K)) κ σ Q := by
  obtain ⟨h1, h2, h3, h4, h5, h6, h7, _⟩ := h
  have h42 := itsB_42 hB
  have hcl : ∀ i, cnK (Bs.take i) K ≤ 42 := fun i => by
    have := cnK_le (A := Bs.take i) (k := K)
    rw [List.length_take] at this
    omega
  have hcnt : cnF (Bs.map (fun a => a.1)) K = cnK Bs K := cnK_F.symm
  intro m
  induction m with
  | zero =>
    intro j c hj hq1 hq2
    unfold ys_15_20
    refine ⟨ol, h8, in10 hol, ?_⟩
    refine z_196 (Fs := Bs.map (fun a => a.1)) hol hR.2.1.2 hK hd ?_
    rw [my_kI_v, hcnt, List.take_of_length_le (by omega), if_neg (by have := cnK_le (A := Bs) (k := K); rw [oN_lt (by omega) (by omega)]; omega), oN_s]
    exact ys_15_4_ok (hq2 c rfl)
  | succ m ih =>
    intro j c hj hq1 hq2
    have hjl : j < Bs.length := by omega
    obtain ⟨b, hb⟩ : ∃ b, Bs[j]? = some b := ⟨_, List.getElem?_eq_getElem hjl⟩
    have htk : Bs.take (j + 1) = Bs.take j ++ [b] := by rw [List.take_succ, hb]; rfl
    have hg : gn Bs (rno As) v1 K (m + 1) j c = if kdf (riF b) = K ∧ kwi (rno As) (riN b) 0 = none then (if Int32.ofNat c = v1 then .inr j else gn Bs (rno As) v1 K m (j + 1) (c + 1)) else gn Bs (rno As) v1 K m (j + 1) c := by
      rw [gn, hb]
    rw [hg] at hq1 hq2
    by_cases hk : kdf (riF b) = K
    · have ht1 : cnK (Bs.take (j + 1)) K = cnK (Bs.take j) K + 1 := by
        rw [htk, cnK_a]
        simp only [cnK]
        rw [if_pos (show kdf b.1 = K from hk)]
      have hle : cnK (Bs.take (j + 1)) K ≤ cnK Bs K := by
        have := congrArg (fun l => cnK l K) (List.take_append_drop (j + 1) Bs)
        simp only [cnK_a] at this
        omega
      have hcb : cnK Bs K ≤ 42 := by have := cnK_le (A := Bs) (k := K); omega
      have hf := fkA_at hB hb hk j 0 (by omega)
      rw [Nat.sub_zero] at hf
      unfold ys_15_20
      refine ⟨ol, h8, in10 hol, ?_⟩
      refine z_196 (Fs := Bs.map (fun a => a.1)) hol hR.2.1.2 hK hd ?_
      rw [my_kI_v, hcnt, if_pos (by rw [oN_lt (by omega) (by omega)]; omega)]
      refine ⟨ol, h8, in10 hol, ?_⟩
      refine c_200 hol hrel hR.1 hR.2.1 hd ?_
      rw [my_kA_v, hf, Option.map_some, if_neg (by simp)]
      refine ⟨_, rfl, in11 hol (by omega), rv, h6, in10 h3, ?_⟩
      obtain ⟨b', hb', hio⟩ := iRel_a2 hrel (k := j) (by rw [hrel.1]; exact hjl)
      rw [hb] at hb'
      cases hb'
      obtain ⟨z1, z2, _⟩ := hR.1.2.2.2 j _ (itA_e (I := I') (by rw [hrel.1]; exact hjl))
      rw [z2, hio.1]
      have hNb : isN (riN b) := (hB.2 b (List.mem_of_getElem? hb)).2.1
      refine z_195 hNb h3 h7.1 hd ?_
      rw [my_kA_v, iRel_k h2]
      have nxt : ∀ c', ((∀ k, gn Bs (rno As) v1 K m (j + 1) c' = .inr k → Q (.inl (some (.inr (.inr (some (ol + 4 + 3 * k)))))) κ σ) → (∀ c'', gn Bs (rno As) v1 K m (j + 1) c' = .inl c'' → ys_15_4 e d v1 (Int32.ofNat c'') (Int32.ofNat (K + 1)) κ σ Q) → ys_15_76 e d v1 (Int32.ofNat c') (Int32.ofNat K) (Int32.ofNat (cnK (Bs.take j) K)) κ σ Q) := fun c' p1 p2 => by
        unfold ys_15_76
        rw [oN_s, ← ht1]
        exact ys_15_20_ok (ih (j + 1) c' (by omega) p1 p2)
      cases hkw : kwi (rno As) (riN b) 0 with
      | some i =>
        rw [if_neg (by simp [itO])]
        rw [hkw] at hq1 hq2
        rw [if_neg (fun hh => by cases hh.2)] at hq1 hq2
        exact nxt c hq1 hq2
      | none =>
        rw [if_pos (by simp [itO])]
        rw [hkw, if_pos ⟨hk, rfl⟩] at hq1 hq2
        refine my_if (fun c1 => ?_) (fun c1 => ?_)
        · rw [if_pos c1] at hq1
          exact hq1 j rfl
        · rw [if_neg c1] at hq1 hq2
          rw [oN_s]
          exact nxt (c + 1) hq1 hq2
    · have ht1 : cnK (Bs.take (j + 1)) K = cnK (Bs.take j) K := by
        rw [htk, cnK_a]
        simp only [cnK]
        rw [if_neg (show ¬ kdf b.1 = K from hk)]
        omega
      rw [if_neg (fun hh => hk hh.1)] at hq1 hq2
      rw [← ht1]
      exact ih (j + 1) c (by omega) hq1 hq2
theorem c_15 {v1 : Int32} (h : LD As I rv σ) (ho : OLC Bs I' ol σ) (hd : 2 ≤ d) (hQ : Q (.inl (some (.inr (.inr ((gnO Bs (rno As) v1 4 0 0).map (fun k => ol + 4 + 3 * k)))))) κ σ) : my_M e d 15 [.inr (.inr (some 32)), .inl v1] κ σ Q := by
  obtain ⟨d, rfl⟩ := dS 1 (show 1 ≤ d by omega)
  refine ys_15 ?_
  unfold ys_15_0
  refine ys_15_4_ok ?_
  rcases ho with ⟨o1, o2⟩ | ⟨o1, o2, o3, o4, o5, o6⟩
  · unfold ys_15_4 ys_15_88
    rw [if_pos (by decide), if_neg o1]
    subst o2
    exact hQ
  · have lp : ∀ (f K c : Nat), K + f = 4 → Q (.inl (some (.inr (.inr ((gnO Bs (rno As) v1 f K c).map (fun k => ol + 4 + 3 * k)))))) κ σ → ys_15_4 e d v1 (Int32.ofNat c) (Int32.ofNat K) κ σ Q := fun f => by
      induction f with
      | zero =>
        intro K c hK hq
        unfold ys_15_4 ys_15_88
        rw [if_neg (by rw [oN_lt1 (b := 4) (c := 4) rfl (by omega) (by omega)]; omega)]
        exact hq
      | succ f ih =>
        intro K c hK hq
        unfold ys_15_4
        rw [if_pos ((oN_lt1 (b := 4) (c := 4) rfl (by omega) (by omega)).mpr (by omega)), if_pos o1]
        refine ys_15_20_ok ?_
        have := c_15l (e := e) (d := d) (κ := κ) (Q := Q) (v1 := v1) (K := K) h o2 o3 o4 o5 o6 (by omega) (by omega) (fun _ _ => trivial) Bs.length 0 c (by omega) (fun k hk => by
          rw [gnO, hk] at hq
          exact hq) (fun c' hc' => by
          rw [gnO, hc'] at hq
          exact ih (K + 1) c' (by omega) hq)
        rw [List.take_zero] at this
        exact this
    exact lp 4 0 0 rfl hQ
end MKG
