
/-! ===== bytes, the class's beside the reference's ===== -/
theorem bm4 (a : Nat) : (Int.bmod (a : Int) (2 ^ 32)) % 256 = (a : Int) % 256 := by
  rw [Int.bmod_def]
  split <;> omega
theorem bm1 (a : Int) : (Int.bmod a (2 ^ 8)) % 256 = a % 256 := by
  rw [Int.bmod_def]
  split <;> omega
theorem and255i (z : Int32) : z &&& 255 = Int32.ofInt (z.toInt % 256) := by
  have h1 : z = Int32.ofNat z.toBitVec.toNat := by
    apply Int32.toBitVec_inj.mp
    show z.toBitVec = BitVec.ofNat 32 z.toBitVec.toNat
    rw [BitVec.ofNat_toNat]
    simp
  have h2 : z.toInt % 256 = ((z.toBitVec.toNat % 256 : Nat) : Int) := by
    rw [show z.toInt = z.toBitVec.toInt from rfl, BitVec.toInt_eq_toNat_bmod, bm4]
    omega
  rw [h2]
  conv => lhs; rw [h1]
  rw [and255]
  rfl
theorem sx255 (y : Int32) : (y.toInt8.toInt32).toInt % 256 = y.toInt % 256 := by
  rw [Int8.toInt_toInt32, Int32.toInt_toInt8, bm1]
theorem shr_u (v : Int32) (k : Nat) (s : UInt32) (hs : s = UInt32.ofNat k) (hk : k < 32) : ((v.toUInt32 >>> s).toInt32).toInt % 256 = ((v.toBitVec.toNat / 2 ^ k : Nat) : Int) % 256 := by
  have h1 : ((v.toUInt32 >>> s).toInt32).toBitVec.toNat = v.toBitVec.toNat / 2 ^ k := by
    show (v.toUInt32 >>> s).toNat = _
    rw [UInt32.toNat_shiftRight, hs, UInt32.toNat_ofNat_of_lt' (by have : UInt32.size = 4294967296 := rfl; omega), Nat.mod_eq_of_lt hk, Nat.shiftRight_eq_div_pow]
    rfl
  rw [show ((v.toUInt32 >>> s).toInt32).toInt = ((v.toUInt32 >>> s).toInt32).toBitVec.toInt from rfl, BitVec.toInt_eq_toNat_bmod, h1, bm4]
theorem shr_i (v : Int32) (k : Nat) (s : Int32) (hs : s = Int32.ofNat k) (hk : k < 32) : (v >>> s).toInt = v.toInt / 2 ^ k := by
  show (v >>> s).toBitVec.toInt = _
  have h1 : (v >>> s).toBitVec = v.toBitVec.sshiftRight k := by
    rw [Int32.toBitVec_shiftRight]
    show v.toBitVec.sshiftRight (s.toBitVec.smod 32).toNat = _
    rw [hs]
    have : ∀ k : Fin 32, ((Int32.ofNat k.val).toBitVec.smod 32).toNat = k.val := by decide
    rw [this ⟨k, hk⟩]
  rw [h1, BitVec.toInt_sshiftRight, Int.shiftRight_eq_div_pow]
  rfl
theorem v_nat (v : Int32) : v.toInt = (v.toBitVec.toNat : Int) ∨ v.toInt = (v.toBitVec.toNat : Int) - 4294967296 := by
  rw [show v.toInt = v.toBitVec.toInt from rfl, BitVec.toInt_eq_toNat_cond]
  split
  · exact Or.inl rfl
  · exact Or.inr rfl
theorem bt_i (v : Int32) (j : Nat) (hj : j < 4) : (bt v (Int32.ofNat j)).toInt % 256 = ((v.toBitVec.toNat / 2 ^ (8 * j) : Nat) : Int) % 256 := by
  unfold bt
  rw [sx255, sx255]
  have : ∀ j : Fin 4, ((8 * Int32.ofNat j.val : Int32).toUInt32 &&& Int32.toUInt32 31) = UInt32.ofNat (8 * j.val) := by decide
  exact shr_u v (8 * j) _ (this ⟨j, hj⟩) (by omega)
theorem bt_0 (v : Int32) : bt v (Int32.ofNat 0) &&& 255 = v &&& 255 := by
  rw [and255i, and255i v, bt_i v 0 (by omega)]
  congr 1
  rcases v_nat v with h | h <;> rw [h] <;> simp <;> omega
theorem bt_1 (v : Int32) : bt v (Int32.ofNat 1) &&& (255 : Int32) = (v >>> ((8 : Int32) &&& 31)) &&& (255 : Int32) := by
  rw [and255i, and255i (v >>> ((8 : Int32) &&& 31)), bt_i v 1 (by omega), shr_i v 8 ((8 : Int32) &&& 31) (by decide) (by omega)]
  congr 1
  rcases v_nat v with h | h <;> rw [h] <;> simp <;> omega
theorem bt_2 (v : Int32) : bt v (Int32.ofNat 2) &&& (255 : Int32) = (v >>> ((16 : Int32) &&& 31)) &&& (255 : Int32) := by
  rw [and255i, and255i (v >>> ((16 : Int32) &&& 31)), bt_i v 2 (by omega), shr_i v 16 ((16 : Int32) &&& 31) (by decide) (by omega)]
  congr 1
  rcases v_nat v with h | h <;> rw [h] <;> simp <;> omega
theorem bt_3 (v : Int32) : bt v (Int32.ofNat 3) &&& (255 : Int32) = ((v >>> ((16 : Int32) &&& 31)) >>> ((8 : Int32) &&& 31)) &&& (255 : Int32) := by
  rw [and255i, and255i ((v >>> ((16 : Int32) &&& 31)) >>> ((8 : Int32) &&& 31)), bt_i v 3 (by omega), shr_i _ 8 ((8 : Int32) &&& 31) (by decide) (by omega), shr_i v 16 ((16 : Int32) &&& 31) (by decide) (by omega)]
  congr 1
  rcases v_nat v with h | h <;> rw [h] <;> simp <;> omega
/-- the reference's bytes -/
def RBy (E : List Int32) (σ : my_S) : Prop := σ.1 498 57 = Int32.ofNat E.length ∧ ∀ i x, E[i]? = some x → σ.1 535 i = x &&& 255
def byF (c k : Nat) : Prop := c = 535 ∨ (c = 498 ∧ k = 57)
theorem RBy_o {F : Nat → Nat → Prop} {E : List Int32} {σ σ' : my_S} (h : RBy E σ) (he : eqp F σ σ') (hF : ∀ c k, F c k → c ≠ 535 ∧ (c = 498 → k ≠ 57)) : RBy E σ' := ⟨(eqp_g he (fun hh => (hF _ _ hh).2 rfl rfl)).trans h.1, fun i x hi => (eqp_g he (fun hh => (hF _ _ hh).1 rfl)).trans (h.2 i x hi)⟩
section MRB
variable {e : my_E} {d : Nat} {κ : my_K} {σ : my_S} {Q : my_O → my_K → my_S → Prop} {E : List Int32}
theorem u_269 {x v : Int32} (h : RBy E σ) (hx : x &&& 255 = v &&& 255) (hl : E.length < 20000) (hd : 1 ≤ d) (hQ : ∀ σ', RBy (E ++ [x]) σ' → eqp byF σ σ' → Q (.inl none) κ σ') : my_M e d 269 [.inr (.inr (some 498)), .inl v] κ σ Q := by
  obtain ⟨d, rfl⟩ := dS 1 hd
  refine ys_269 ?_
  unfold ys_269_0
  rw [h.1]
  refine ⟨⟨by rw [oN_i (by omega)]; omega, by rw [oN_i (by omega)]; omega⟩, ?_⟩
  rw [oN_n (by omega), oN_s]
  refine hQ _ ⟨by rw [uI_s, List.length_append]; rfl, fun i y hi => ?_⟩ (eqp_I (eqp_I eqp_rf (Or.inl rfl)) (Or.inr ⟨rfl, rfl⟩))
  rw [my_uI_1, if_neg (by omega), my_uI_1]
  by_cases hil : i < E.length
  · rw [List.getElem?_append_left hil] at hi
    rw [if_neg (by omega)]
    exact h.2 i y hi
  · rw [List.getElem?_append_right (by omega)] at hi
    have hi0 : i - E.length = 0 := by
      by_cases hh : i - E.length = 0
      · exact hh
      · rw [List.getElem?_eq_none (by simp; omega)] at hi; cases hi
    rw [hi0] at hi
    cases hi
    rw [if_pos (by omega), hx]
theorem u_269b {v : Int32} (h : RBy E σ) (hl : E.length + 1 ≤ 20000) (hd : 1 ≤ d) (hQ : ∀ σ', RBy (E ++ bts v 1 0) σ' → eqp byF σ σ' → Q (.inl none) κ σ') : my_M e d 269 [.inr (.inr (some 498)), .inl v] κ σ Q := u_269 h (bt_0 v) (by omega) hd hQ
theorem u_271 {v : Int32} (h : RBy E σ) (hl : E.length + 2 ≤ 20000) (hd : 2 ≤ d) (hQ : ∀ σ', RBy (E ++ bts v 2 0) σ' → eqp byF σ σ' → Q (.inl none) κ σ') : my_M e d 271 [.inr (.inr (some 498)), .inl v] κ σ Q := by
  obtain ⟨d, rfl⟩ := dS 1 (show 1 ≤ d by omega)
  refine ys_271 ?_
  unfold ys_271_0
  refine u_269 h (bt_0 v) (by omega) (by omega) (fun σ1 g1 f1 => ?_)
  rw [my_k0_v]
  refine u_269 g1 (bt_1 v) (by simp; omega) (by omega) (fun σ2 g2 f2 => ?_)
  rw [my_k0_v]
  rw [List.append_assoc] at g2
  exact hQ σ2 g2 (eqp_tr f1 f2)
theorem u_270 {v : Int32} (h : RBy E σ) (hl : E.length + 4 ≤ 20000) (hd : 3 ≤ d) (hQ : ∀ σ', RBy (E ++ bts v 4 0) σ' → eqp byF σ σ' → Q (.inl none) κ σ') : my_M e d 270 [.inr (.inr (some 498)), .inl v] κ σ Q := by
  obtain ⟨d, rfl⟩ := dS 2 (show 2 ≤ d by omega)
  refine ys_270 ?_
  unfold ys_270_0
  refine ys_271 ?_
  unfold ys_271_0
  refine u_269 h (bt_0 v) (by omega) (by omega) (fun σ1 g1 f1 => ?_)
  rw [my_k0_v]
  refine u_269 g1 (bt_1 v) (by simp; omega) (by omega) (fun σ2 g2 f2 => ?_)
  rw [my_k0_v, my_k0_v]
  refine ys_271 ?_
  unfold ys_271_0
  refine u_269 g2 (bt_2 v) (by simp; omega) (by omega) (fun σ3 g3 f3 => ?_)
  rw [my_k0_v]
  refine u_269 g3 (bt_3 v) (by simp; omega) (by omega) (fun σ4 g4 f4 => ?_)
  rw [my_k0_v, my_k0_v]
  rw [List.append_assoc, List.append_assoc, List.append_assoc] at g4
  exact hQ σ4 g4 (eqp_tr (eqp_tr (eqp_tr f1 f2) f3) f4)
theorem u_273 {f : Nat} (hf : f ≤ 4) (hd : 1 ≤ d) (hQ : Q (.inl (some (.inl (Int32.ofNat f)))) κ σ) : my_M e d 273 [.inl (Int32.ofNat (f + 10))] κ σ Q := by
  obtain ⟨d, rfl⟩ := dS 1 hd
  refine ys_273 ?_
  unfold ys_273_0
  rw [Int32.ofNat_add, show Int32.ofNat 10 = 10 from rfl, Int32.add_sub_cancel]
  exact hQ
theorem u_274 {x : Rw} (hV : rwV x) (hd : 1 ≤ d) (hQ : Q (.inl (some (.inl (Int32.ofNat (ln1 x.1))))) κ σ) : my_M e d 274 [.inl (Int32.ofNat x.1)] κ σ Q := by
  obtain ⟨d, rfl⟩ := dS 1 hd
  refine ys_274 ?_
  have h := rwV_op hV
  generalize x.1 = o at h hQ ⊢
  have key : ∀ o : Nat, (o = 1 ∨ o = 2 ∨ o = 3 ∨ o = 4 ∨ o = 5 ∨ o = 11 ∨ o = 12 ∨ o = 13 ∨ o = 14 ∨ o = 15 ∨ o = 16 ∨ o = 17 ∨ o = 19 ∨ o = 20 ∨ (21 ≤ o ∧ o ≤ 31) ∨ o = 200 ∨ o = 201 ∨ o = 202 ∨ o = 203 ∨ o = 204 ∨ o = 205 ∨ o = 206 ∨ o = 207 ∨ o = 208) → o < 250 := fun o h => by omega
  have ne : ∀ m : Nat, m < 1000 → (Int32.ofNat o = Int32.ofNat m ↔ o = m) := fun m hm => oN_e (by have := key o h; omega) (by omega)
  have n206 := ne 206 (by omega)
  have n208 := ne 208 (by omega)
  have n1 := ne 1 (by omega)
  have n14 := ne 14 (by omega)
  have n15 := ne 15 (by omega)
  have n4 := ne 4 (by omega)
  have n5 := ne 5 (by omega)
  have n17 := ne 17 (by omega)
  have n207 := ne 207 (by omega)
  have l200 : Int32.ofNat o < 200 ↔ o < 200 := oN_lt1 (b := 200) (c := 200) rfl (by have := key o h; omega) (by omega)
  have l205 : (205 : Int32) < Int32.ofNat o ↔ 205 < o := oN_lt (p := 205) (by omega) (by have := key o h; omega)
  unfold ln1 at hQ
  unfold ys_274_0 ys_274_14 ys_274_35 ys_274_74 ys_274_67 ys_274_74 ys_274_79
  refine my_if (fun c => ?_) (fun c => my_if (fun c' => ?_) (fun c' => my_if (fun c1 => ?_) (fun c1 => my_if (fun c2 => ?_) (fun c2 => my_if (fun c3 => ?_) (fun c3 => my_if (fun c4 => ?_) (fun c4 => my_if (fun c5 => ?_) (fun c5 => my_if (fun c6 => ?_) (fun c6 => my_if (fun c7 => ?_) (fun c7 => my_if (fun c8 => ?_) (fun c8 => ?_))))))))))
  · rw [if_pos (Or.inl (n206.mp c))] at hQ; exact hQ
  · rw [if_pos (Or.inr (n208.mp c'))] at hQ; exact hQ
  all_goals (have m1 : ¬ o = 206 := fun hh => c (n206.mpr hh))
  all_goals (have m2 : ¬ o = 208 := fun hh => c' (n208.mpr hh))
  all_goals (rw [if_neg (by omega)] at hQ)
  · rw [if_pos (n1.mp c1)] at hQ; exact hQ
  all_goals (have m3 : ¬ o = 1 := fun hh => c1 (n1.mpr hh))
  all_goals (rw [if_neg m3] at hQ)
  · rw [if_pos (Or.inl (n14.mp c2))] at hQ; exact hQ
  · rw [if_pos (Or.inr (n15.mp c3))] at hQ; exact hQ
  all_goals (have m4 : ¬ o = 14 := fun hh => c2 (n14.mpr hh))
  all_goals (have m5 : ¬ o = 15 := fun hh => c3 (n15.mpr hh))
  all_goals (rw [if_neg (by omega)] at hQ)
  · rw [if_pos (Or.inl (n4.mp c4))] at hQ; exact hQ
  · rw [if_pos (Or.inr (Or.inl (n5.mp c5)))] at hQ; exact hQ
  · rw [if_pos (Or.inr (Or.inr (Or.inl (n17.mp c6))))] at hQ; exact hQ
  all_goals (have m6 : ¬ o = 4 := fun hh => c4 (n4.mpr hh))
  all_goals (have m7 : ¬ o = 5 := fun hh => c5 (n5.mpr hh))
  all_goals (have m8 : ¬ o = 17 := fun hh => c6 (n17.mpr hh))
  · have h7 := l200.mp c7
    rw [if_neg (by omega)] at hQ
    refine my_if (fun hh => ?_) (fun _ => hQ)
    have := n207.mp hh
    omega
  · have h8 := l205.mp c8
    refine my_if (fun hh => ?_) (fun hh => ?_)
    · rw [if_pos (Or.inr (Or.inr (Or.inr (Or.inr (n207.mp hh)))))] at hQ; exact hQ
    · have : ¬ o = 207 := fun h9 => hh (n207.mpr h9)
      rw [if_neg (by omega)] at hQ
      exact hQ
  · have h7 : ¬ o < 200 := fun hh => c7 (l200.mpr hh)
    have h8 : ¬ 205 < o := fun hh => c8 (l205.mpr hh)
    rw [if_pos (Or.inr (Or.inr (Or.inr (Or.inl (by omega)))))] at hQ
    exact hQ
end MRB
