
/-! ===== instructions: a step's bytes, as both sides read them ===== -/
def opc (k : Nat) : Nat := if k = 207 then 5 else if k = 200 then 6 else if k = 201 then 7 else if k = 202 then 8 else if k = 203 then 9 else if k = 204 ∨ k = 205 then 10 else k
def dwn (c : Nat) : Nat := if c = 1 then 4 else if c = 14 ∨ c = 15 then 2 else if (4 ≤ c ∧ c ≤ 10) ∨ c = 17 then 1 else 0
def opn (I : List It) (J : Nat → Int32) (x : Rw) (N : List Nat) : Int32 := if 200 ≤ x.1 ∧ x.1 ≤ 205 then (match itK I x.2.2.1 with
  | none => 0
  | some k => Int32.ofNat (nid N k).1) else if x.1 = 14 ∨ x.1 = 15 then J x.2.1.toNatClampNeg else x.2.1
theorem opc_s {k : Nat} (h : k < 200) : opc k = k := by
  unfold opc
  rw [if_neg (by omega), if_neg (by omega), if_neg (by omega), if_neg (by omega), if_neg (by omega), if_neg (by omega)]
theorem ln_0 {k : Nat} (h : k = 206 ∨ k = 208) : ln1 k = 0 := by unfold ln1; rw [if_pos h]
section MIS
variable {I : List It} {J : Nat → Int32} {x : Rw} {N : List Nat}
theorem eb1_0 (h : x.1 = 206 ∨ x.1 = 208) : eb1 I J x N = [] := by
  unfold eb1
  rw [if_neg (by omega), if_neg (by omega), if_neg (by omega), if_neg (by omega), if_pos h]
theorem nd1_0 (h : x.1 < 200 ∨ 205 < x.1) : nd1 I x N = N := by
  unfold nd1
  rw [if_neg (by omega)]
theorem eb1_d (hV : rwV x) (h6 : x.1 ≠ 206) (h8 : x.1 ≠ 208) (hN : 200 ≤ x.1 → x.1 ≤ 205 → itK I x.2.2.1 ≠ none) : eb1 I J x N = bts (Int32.ofNat (opc x.1)) 1 0 ++ bts (opn I J x N) (dwn (opc x.1)) 0 ∧ ln1 x.1 = 1 + dwn (opc x.1) ∧ 1 ≤ opc x.1 ∧ opc x.1 ≤ 31 := by
  have hr := hV.2.2.2.2.1
  obtain ⟨k, v, nm, p⟩ := x
  dsimp only at hr h6 h8 hN
  unfold eb1 opn
  dsimp only
  by_cases c1 : k = 1
  · subst c1
    rw [if_pos rfl, if_neg (by omega), if_neg (by omega)]
    exact ⟨rfl, rfl, by decide, by decide⟩
  rw [if_neg c1]
  by_cases c2 : k = 4 ∨ k = 5 ∨ k = 17
  · rw [if_pos c2, if_neg (by omega), if_neg (by omega), opc_s (by omega)]
    have hw : dwn k = 1 := by unfold dwn; rw [if_neg (by omega), if_neg (by omega), if_pos (by omega)]
    have hl : ln1 k = 2 := by unfold ln1; rw [if_neg (by omega), if_neg (by omega), if_neg (by omega), if_pos (by omega)]
    rw [hw, hl]
    exact ⟨rfl, rfl, by omega, by omega⟩
  rw [if_neg c2]
  by_cases c3 : k = 207
  · subst c3
    rw [if_pos rfl, if_neg (by omega), if_neg (by omega)]
    exact ⟨rfl, rfl, by decide, by decide⟩
  rw [if_neg c3]
  by_cases c4 : 200 ≤ k ∧ k ≤ 205
  · rw [if_pos c4, if_pos c4]
    cases hk : itK I nm with
    | none => exact absurd hk (hN c4.1 c4.2)
    | some j =>
      unfold nmd
      rw [hk]
      have h6 : k = 200 ∨ k = 201 ∨ k = 202 ∨ k = 203 ∨ k = 204 ∨ k = 205 := by omega
      rcases h6 with rfl | rfl | rfl | rfl | rfl | rfl <;> exact ⟨rfl, rfl, by decide, by decide⟩
  rw [if_neg c4, if_neg c4, if_neg (by omega)]
  by_cases c5 : k = 14 ∨ k = 15
  · rw [if_pos c5, if_pos c5, opc_s (by omega)]
    have hw : dwn k = 2 := by unfold dwn; rw [if_neg (by omega), if_pos c5]
    have hl : ln1 k = 3 := by unfold ln1; rw [if_neg (by omega), if_neg (by omega), if_pos c5]
    rw [hw, hl]
    exact ⟨rfl, rfl, by omega, by omega⟩
  rw [if_neg c5, if_neg c5, opc_s (by omega)]
  have hw : dwn k = 0 := by unfold dwn; rw [if_neg (by omega), if_neg (by omega), if_neg (by omega)]
  have hl : ln1 k = 1 := by unfold ln1; rw [if_neg (by omega), if_neg (by omega), if_neg (by omega), if_neg (by omega)]
  rw [hw, hl]
  exact ⟨by rw [show bts v 0 0 = [] from rfl, List.append_nil], rfl, by omega, by omega⟩
theorem bts_g {v : Int32} : ∀ {k i j : Nat}, i < k → (bts v k j)[i]? = some (bt v (Int32.ofNat (j + i)))
  | 0, i, j, h => by omega
  | k + 1, 0, j, _ => rfl
  | k + 1, i + 1, j, h => by
    show (bts v k (j + 1))[i]? = _
    rw [bts_g (by omega), Nat.add_right_comm, Nat.add_assoc]
/-- the bytes of a step, where they lie -/
theorem eb_at {r1 r2 : List Rw} (hNF : NFr I (r1 ++ x :: r2)) (hV : rwV x) (h6 : x.1 ≠ 206) (h8 : x.1 ≠ 208) : (eb I J (r1 ++ x :: r2) [])[lens r1]? = some (bt (Int32.ofNat (opc x.1)) (Int32.ofNat 0)) ∧ ∀ j, j < dwn (opc x.1) → (eb I J (r1 ++ x :: r2) [])[lens r1 + 1 + j]? = some (bt (opn I J x (ndl I r1 [])) (Int32.ofNat j)) := by
  have hx := eb1_d (I := I) (J := J) (N := ndl I r1 []) hV h6 h8 (hNF x (by simp))
  have hl : (eb I J r1 []).length = lens r1 := eb_l (fun y hy => hNF y (by simp [hy]))
  have he : eb I J (r1 ++ x :: r2) [] = eb I J r1 [] ++ (bts (Int32.ofNat (opc x.1)) 1 0 ++ (bts (opn I J x (ndl I r1 [])) (dwn (opc x.1)) 0 ++ eb I J r2 (nd1 I x (ndl I r1 [])))) := by
    rw [eb_a, eb, hx.1, List.append_assoc]
  rw [he]
  refine ⟨?_, fun j hj => ?_⟩
  · rw [List.getElem?_append_right (by omega), hl, Nat.sub_self]
    rfl
  · rw [List.getElem?_append_right (by omega), hl, List.getElem?_append_right (by rw [bts_l]; omega), bts_l, List.getElem?_append_left (by rw [bts_l]; omega)]
    rw [show lens r1 + 1 + j - lens r1 - 1 = j by omega, bts_g hj, Nat.zero_add]
end MIS
/-! numbers out of bytes -/
theorem bt_n (v : Int32) {j : Nat} (hj : j < 4) : bt v (Int32.ofNat j) &&& 255 = Int32.ofNat (v.toBitVec.toNat / 2 ^ (8 * j) % 256) := by
  rw [and255i, bt_i v j hj, show ((v.toBitVec.toNat / 2 ^ (8 * j) : Nat) : Int) % 256 = ((v.toBitVec.toNat / 2 ^ (8 * j) % 256 : Nat) : Int) by omega]
  rfl
def opv (w : Nat) (v : Int32) : Int32 := Int32.ofNat (v.toBitVec.toNat % 2 ^ (8 * w))
theorem opv_1 {i : Nat} (h : i < 256) : opv 1 (Int32.ofNat i) = Int32.ofNat i := by
  unfold opv
  congr 1
  show (BitVec.ofNat 32 i).toNat % 2 ^ (8 * 1) = i
  rw [BitVec.toNat_ofNat]
  omega
theorem opv_2 {i : Nat} (h : i < 65536) : opv 2 (Int32.ofNat i) = Int32.ofNat i := by
  unfold opv
  congr 1
  show (BitVec.ofNat 32 i).toNat % 2 ^ (8 * 2) = i
  rw [BitVec.toNat_ofNat]
  omega
theorem opv_4 {v : Int32} : opv 4 v = v := by
  unfold opv
  apply Int32.toBitVec_inj.mp
  show BitVec.ofNat 32 (v.toBitVec.toNat % 2 ^ (8 * 4)) = v.toBitVec
  apply BitVec.eq_of_toNat_eq
  rw [BitVec.toNat_ofNat]
  have := v.toBitVec.isLt
  omega
theorem or_o (a c : Nat) : Int32.ofNat a ||| Int32.ofNat c = Int32.ofNat (a ||| c) := by
  apply Int32.toBitVec_inj.mp
  show BitVec.ofNat 32 a ||| BitVec.ofNat 32 c = BitVec.ofNat 32 (a ||| c)
  apply BitVec.eq_of_toNat_eq
  rw [BitVec.toNat_or, BitVec.toNat_ofNat, BitVec.toNat_ofNat, BitVec.toNat_ofNat, Nat.or_mod_two_pow]
theorem shl_o (b k : Nat) (s : Int32) (hs : s = Int32.ofNat k) (hk : k < 32) : Int32.ofNat b <<< s = Int32.ofNat (b * 2 ^ k) := by
  apply Int32.toBitVec_inj.mp
  rw [Int32.toBitVec_shiftLeft]
  show BitVec.ofNat 32 b <<< (s.toBitVec.smod 32).toNat = BitVec.ofNat 32 (b * 2 ^ k)
  have : ∀ k : Fin 32, ((Int32.ofNat k.val).toBitVec.smod 32).toNat = k.val := by decide
  rw [hs, this ⟨k, hk⟩]
  apply BitVec.eq_of_toNat_eq
  rw [BitVec.toNat_shiftLeft, BitVec.toNat_ofNat, BitVec.toNat_ofNat, Nat.shiftLeft_eq, Nat.mod_mul_mod]
theorem orsh (n : Nat) {j : Nat} (hj : j < 4) : Int32.ofNat (n % 2 ^ (8 * j)) ||| (Int32.ofNat (n / 2 ^ (8 * j) % 256) <<< ((8 * Int32.ofNat j) &&& 31)) = Int32.ofNat (n % 2 ^ (8 * (j + 1))) := by
  have h8 : ∀ j : Fin 4, ((8 * Int32.ofNat j.val) &&& 31 : Int32) = Int32.ofNat (8 * j.val) := by decide
  rw [shl_o _ (8 * j) _ (h8 ⟨j, hj⟩) (by omega), or_o]
  congr 1
  rw [Nat.or_comm, Nat.mul_comm (n / 2 ^ (8 * j) % 256) (2 ^ (8 * j)), ← Nat.two_pow_add_eq_or_of_lt (Nat.mod_lt _ (Nat.two_pow_pos _)), show 8 * (j + 1) = 8 * j + 8 by omega, Nat.pow_add, Nat.mod_mul, Nat.add_comm]
section MIN2
variable {e : my_E} {d : Nat} {κ : my_K} {σ : my_S} {Q : my_O → my_K → my_S → Prop} {rv : Nat} {v : Int32}
theorem c_203l {o w : Nat} (hrv : rv = 108 ∨ rv = 238 ∨ rv = 368) (hw : w ≤ 4) (ho : o + w ≤ 6144) (hb : ∀ j, j < w → σ.1 (rv + 1) (o + j) = bt v (Int32.ofNat j)) (hd : 1 ≤ d) (hQ : Q (.inl (some (.inl (opv w v)))) κ σ) : ∀ (m j : Nat), j + m = w → ys_203_5 e d rv (Int32.ofNat o) (Int32.ofNat w) (Int32.ofNat (v.toBitVec.toNat % 2 ^ (8 * j))) (Int32.ofNat j) κ σ Q := by
  intro m
  induction m with
  | zero =>
    intro j hj
    have : j = w := by omega
    subst this
    unfold ys_203_5
    rw [if_neg (by rw [oN_lt (by omega) (by omega)]; omega)]
    exact hQ
  | succ m ih =>
    intro j hj
    unfold ys_203_5
    rw [if_pos (by rw [oN_lt (by omega) (by omega)]; omega), ← Int32.ofNat_add]
    refine c_3r hrv (by omega) hd ?_
    rw [my_kI_v, hb j (by omega), bt_n v (by omega), orsh _ (by omega), oN_s]
    exact ys_203_5_ok (in10 hrv) (ih (j + 1) (by omega))
theorem c_203 {o w : Nat} (hrv : rv = 108 ∨ rv = 238 ∨ rv = 368) (hw : w ≤ 4) (ho : o + w ≤ 6144) (hb : ∀ j, j < w → σ.1 (rv + 1) (o + j) = bt v (Int32.ofNat j)) (hd : 2 ≤ d) (hQ : Q (.inl (some (.inl (opv w v)))) κ σ) : my_M e d 203 [.inr (.inr (some rv)), .inl (Int32.ofNat o), .inl (Int32.ofNat w)] κ σ Q := by
  obtain ⟨d, rfl⟩ := dS 1 (show 1 ≤ d by omega)
  refine ys_203 (in10 hrv) ?_
  unfold ys_203_0
  have := c_203l (e := e) (d := d) (κ := κ) (Q := Q) hrv hw ho hb (by omega) hQ w 0 (by omega)
  rw [show v.toBitVec.toNat % 2 ^ (8 * 0) = 0 by rw [Nat.mul_zero, Nat.pow_zero, Nat.mod_one]] at this
  exact ys_203_5_ok (in10 hrv) this
theorem r_307n {o n : Nat} (h0 : σ.1 535 o = Int32.ofNat (n % 256)) (h1 : σ.1 535 (o + 1) = Int32.ofNat (n / 256 % 256)) (ho : o + 2 ≤ 20000) (hd : 1 ≤ d) (hQ : Q (.inl (some (.inl (Int32.ofNat (n % 65536))))) κ σ) : my_M e d 307 [.inr (.inr (some 498)), .inl (Int32.ofNat o)] κ σ Q := by
  obtain ⟨d, rfl⟩ := dS 1 hd
  refine ys_307 ?_
  unfold ys_307_0
  rw [oN_s, oN_n (by omega), oN_n (by omega), h0, h1]
  refine ⟨bdk (by omega) (by omega), bdk (by omega) (by omega), ?_⟩
  rw [show (256 : Int32) = Int32.ofNat 256 from rfl, ← Int32.ofNat_mul, ← Int32.ofNat_add, show n % 256 + 256 * (n / 256 % 256) = n % 65536 by omega]
  exact hQ
theorem r_357 {c : Nat} (hc : 1 ≤ c ∧ c ≤ 31) (hd : 1 ≤ d) (hQ : Q (.inl (some (.inl (Int32.ofNat (1 + dwn c))))) κ σ) : my_M e d 357 [.inr (.inr (some 498)), .inl (Int32.ofNat c)] κ σ Q := by
  obtain ⟨d, rfl⟩ := dS 1 hd
  refine ys_357 ?_
  unfold ys_357_0 ys_357_21 ys_357_36 ys_357_42 ys_357_47
  have ev : ∀ {b : Nat}, b < 2147483648 → (Int32.ofNat c = Int32.ofNat b ↔ c = b) := fun hb => oN_e (by omega) hb
  unfold dwn at hQ
  refine my_if (fun h => ?_) (fun h => ?_)
  · have := (ev (b := 1) (by omega)).mp h
    rw [if_pos this] at hQ
    exact hQ
  have n1 : c ≠ 1 := fun hh => h (by rw [hh]; rfl)
  rw [if_neg n1] at hQ
  refine my_if (fun h => ?_) (fun h => ?_)
  · have := (ev (b := 14) (by omega)).mp h
    rw [if_pos (Or.inl this)] at hQ
    exact hQ
  have n14 : c ≠ 14 := fun hh => h (by rw [hh]; rfl)
  refine my_if (fun h => ?_) (fun h => ?_)
  · have := (ev (b := 15) (by omega)).mp h
    rw [if_pos (Or.inr this)] at hQ
    exact hQ
  have n15 : c ≠ 15 := fun hh => h (by rw [hh]; rfl)
  rw [if_neg (by omega)] at hQ
  have l17 : (if Int32.ofNat c = 17 then Q (.inl (some (.inl 2))) κ σ else Q (.inl (some (.inl 1))) κ σ) ∨ (4 ≤ c ∧ c ≤ 10) := by
    by_cases h410 : 4 ≤ c ∧ c ≤ 10
    · exact Or.inr h410
    · left
      refine my_if (fun h => ?_) (fun h => ?_)
      · have := (ev (b := 17) (by omega)).mp h
        rw [if_pos (Or.inr this)] at hQ
        exact hQ
      · have n17 : c ≠ 17 := fun hh => h (by rw [hh]; rfl)
        rw [if_neg (by omega)] at hQ
        exact hQ
  refine my_if (fun h => ?_) (fun h => ?_)
  · have := (oN_lt1 (b := 4) (c := 4) rfl (by omega) (by omega)).mp h
    rcases l17 with h2 | h2
    · exact h2
    · omega
  have n4 : 4 ≤ c := by
    by_cases hh : 4 ≤ c
    · exact hh
    · exact absurd ((oN_lt1 (b := 4) (c := 4) rfl (by omega) (by omega)).mpr (by omega)) h
  refine my_if (fun h => ?_) (fun h => ?_)
  · have := (oN_lt (p := 10) (n := c) (by omega) (by omega)).mp h
    rcases l17 with h2 | h2
    · exact h2
    · omega
  have n10 : c ≤ 10 := by
    by_cases hh : c ≤ 10
    · exact hh
    · exact absurd ((oN_lt (p := 10) (n := c) (by omega) (by omega)).mpr (by omega)) h
  rw [if_pos (Or.inl ⟨n4, n10⟩)] at hQ
  exact hQ
end MIN2
