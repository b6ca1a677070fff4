
/-! ===== a record's contents, read back ===== -/
theorem b8_bt {n j : Nat} (hn : n < 2147483648) (hj : j < 4) : b8 (bt (Int32.ofNat n) (Int32.ofNat j)) = n / 2 ^ (8 * j) % 256 := by
  have h1 := bt_o hn hj
  rw [b8_e] at h1
  have h2 := b8_lt (bt (Int32.ofNat n) (Int32.ofNat j))
  exact (oN_e (by omega) (by omega)).mp h1
theorem fm2_g {ws : List Int32} : ∀ {j : Nat} {w : Int32}, ws[j]? = some w → (ws.flatMap (fun w => bts w 2 0))[2 * j]? = some (bt w (Int32.ofNat 0)) ∧ (ws.flatMap (fun w => bts w 2 0))[2 * j + 1]? = some (bt w (Int32.ofNat 1)) := by
  induction ws with
  | nil => intro j w h; simp at h
  | cons x r ih =>
    intro j w h
    rw [List.flatMap_cons]
    cases j with
    | zero =>
      simp at h
      subst h
      exact ⟨rfl, rfl⟩
    | succ j =>
      rw [List.getElem?_cons_succ] at h
      obtain ⟨i1, i2⟩ := ih h
      have hb : (bts x 2 0).length = 2 := bts_l
      rw [List.getElem?_append_right (by omega), List.getElem?_append_right (by omega), hb, show 2 * (j + 1) - 2 = 2 * j by omega, show 2 * (j + 1) + 1 - 2 = 2 * j + 1 by omega]
      exact ⟨i1, i2⟩
section MRW
variable {f1 f2 f3 f4 f5 f6 : Int32} {ws : List Int32}
theorem rcC_g1 {i : Nat} {b : Int32} (h : (rcC f1 f2 f3 f4 f5 f6 ws)[i]? = some b) : g1 (rcC f1 f2 f3 f4 f5 f6 ws) i = b8 b := by unfold g1; rw [h]
theorem rcC_6 {o : Nat} (ho : o < 65536) (hf : f6 = Int32.ofNat o) : g2 (rcC f1 f2 f3 f4 f5 f6 ws) 8 = o := by
  unfold g2
  rw [rcC_g1 (b := bt f6 (Int32.ofNat 0)) rfl, rcC_g1 (b := bt f6 (Int32.ofNat 1)) rfl, hf, b8_bt (by omega) (by omega), b8_bt (by omega) (by omega)]
  exact two_e ho
theorem rcC_2 {o : Nat} (ho : o < 65536) (hf : f2 = Int32.ofNat o) : g2 (rcC f1 f2 f3 f4 f5 f6 ws) 1 = o := by
  unfold g2
  rw [rcC_g1 (b := bt f2 (Int32.ofNat 0)) rfl, rcC_g1 (b := bt f2 (Int32.ofNat 1)) rfl, hf, b8_bt (by omega) (by omega), b8_bt (by omega) (by omega)]
  exact two_e ho
theorem rcC_n (hw : ws.length ≤ 30) : g1 (rcC f1 f2 f3 f4 f5 f6 ws) 10 = ws.length := by
  rw [rcC_g1 (b := bt (Int32.ofNat ws.length) (Int32.ofNat 0)) rfl, b8_bt (by omega) (by omega), show (2 : Nat) ^ (8 * 0) = 1 from rfl]
  omega
theorem rcC_1 {n : Nat} (hn : n < 256) (hf : f1 = Int32.ofNat n) : g1 (rcC f1 f2 f3 f4 f5 f6 ws) 0 = n := by
  rw [rcC_g1 (b := bt f1 (Int32.ofNat 0)) rfl, hf, b8_bt (by omega) (by omega), show (2 : Nat) ^ (8 * 0) = 1 from rfl]
  omega
theorem rcC_w {j o : Nat} (ho : o < 65536) (hj : ws[j]? = some (Int32.ofNat o)) : g2 (rcC f1 f2 f3 f4 f5 f6 ws) (11 + 2 * j) = o := by
  obtain ⟨i1, i2⟩ := fm2_g hj
  have hx : ∀ {u : Nat} {b : Int32}, (ws.flatMap (fun w => bts w 2 0))[u]? = some b → (rcC f1 f2 f3 f4 f5 f6 ws)[11 + u]? = some b := fun {u b} hu => by
    have e : rcC f1 f2 f3 f4 f5 f6 ws = (bts f1 1 0 ++ (bts f2 2 0 ++ (bts f3 1 0 ++ (bts f4 2 0 ++ (bts f5 2 0 ++ (bts f6 2 0 ++ bts (Int32.ofNat ws.length) 1 0)))))) ++ ws.flatMap (fun w => bts w 2 0) := by unfold rcC; simp only [List.append_assoc]
    have l : (bts f1 1 0 ++ (bts f2 2 0 ++ (bts f3 1 0 ++ (bts f4 2 0 ++ (bts f5 2 0 ++ (bts f6 2 0 ++ bts (Int32.ofNat ws.length) 1 0)))))).length = 11 := by simp only [List.length_append, bts_l]
    rw [e, List.getElem?_append_right (by omega), l, show 11 + u - 11 = u by omega]
    exact hu
  unfold g2
  rw [rcC_g1 (hx i1), rcC_g1 (show (rcC f1 f2 f3 f4 f5 f6 ws)[11 + 2 * j + 1]? = _ from hx i2), b8_bt (by omega) (by omega), b8_bt (by omega) (by omega)]
  exact two_e ho
theorem aB_rcC : aB (rcC f1 f2 f3 f4 f5 f6 ws) := by
  unfold rcC
  have fm : aB (ws.flatMap (fun w => bts w 2 0)) := fun x hx => by
    obtain ⟨w, _, hw⟩ := List.mem_flatMap.mp hx
    exact aB_bts x hw
  exact aB_a aB_bts (aB_a aB_bts (aB_a aB_bts (aB_a aB_bts (aB_a aB_bts (aB_a aB_bts (aB_a aB_bts fm))))))
/-- a record whose numbers are those of entries is right -/
theorem rcC_wf {nm : List Nat} {n c o k : Nat} {ns : List Nat} (hl : isN nm) (hl1 : 1 ≤ nm.length) (hn : n < 256) (hf1 : f1 = Int32.ofNat n) (hf2 : f2 = Int32.ofNat c) (hc : c < 65536) (hck : n = 1 → c < k) (hf6 : f6 = Int32.ofNat o) (hok : o < k) (hk : k ≤ 860) (hw : ws = ns.map Int32.ofNat) (hns : ns.length ≤ 30) (hnk : ∀ x ∈ ns, x < k) : wfe (2, nm, rcC f1 f2 f3 f4 f5 f6 ws) k := by
  have hwl : ws.length = ns.length := by rw [hw, List.length_map]
  refine ⟨hl, hl1, aB_rcC, Or.inr ⟨rfl, ?_, ?_, ?_, ?_, ?_⟩⟩
  · show (rcC f1 f2 f3 f4 f5 f6 ws).length = 11 + 2 * g1 (rcC f1 f2 f3 f4 f5 f6 ws) 10
    rw [rcC_n (by omega), rcC_l]
  · show g1 (rcC f1 f2 f3 f4 f5 f6 ws) 10 ≤ 30
    rw [rcC_n (by omega)]; omega
  · show g2 (rcC f1 f2 f3 f4 f5 f6 ws) 8 < k
    rw [rcC_6 (by omega) hf6]; exact hok
  · show g1 (rcC f1 f2 f3 f4 f5 f6 ws) 0 = 1 → g2 (rcC f1 f2 f3 f4 f5 f6 ws) 1 < k
    rw [rcC_1 hn hf1, rcC_2 hc hf2]; exact hck
  · show ∀ j, j < g1 (rcC f1 f2 f3 f4 f5 f6 ws) 10 → g2 (rcC f1 f2 f3 f4 f5 f6 ws) (11 + 2 * j) < k
    rw [rcC_n (by omega)]
    intro j hj
    have hj2 : j < ns.length := by omega
    have hx := hnk ns[j] (List.getElem_mem hj2)
    rw [rcC_w (o := ns[j]) (by omega) (by rw [hw, List.getElem?_map, List.getElem?_eq_getElem hj2]; rfl)]
    exact hx
end MRW
