
/-! ===== the class: the entry of an item of the revision ===== -/
theorem ib_2l {I : List It} {i : Nat} {a : Ri} : 2 ≤ (ib I i a).length := by
  by_cases h : 2 ≤ riF a
  · rw [ib_2 h, List.length_append, List.length_append, hdB_l]
    omega
  · unfold ib
    have : riF a = 0 ∨ riF a = 1 := by omega
    rcases this with h | h
    · rw [if_pos h]
      simp only [List.length_append, bts_l]
      omega
    · rw [if_neg (by omega), if_pos h]
      simp only [List.length_append, bts_l]
      omega
section MCE
variable {As : List Ri} {I : List It} {rv A : Nat} {e : my_E} {d : Nat} {κ : my_K} {σ σ' : my_S} {Q : my_O → my_K → my_S → Prop} {E E' : List Et}
theorem c_177k {k : Nat} (hA : lg2 A) (hU : nmU As) (h : LD As I rv σ) (hX : WX A E E' σ) (hk : k < As.length) (hd : 2 ≤ d) (hQ : ∀ σ' x, WX A E (adK As I E' k).1 σ' → (els (adK As I E' k).1 ≤ 7747 → x = Int32.ofNat (adK As I E' k).2) → eqp (wlF A) σ σ' → Q (.inl (some (.inl x))) κ σ') : my_M e d 177 [.inr (.inr (some A)), .inr (.inl (σ.2.1 (rv + 4 + 3 * k) 4)), .inr (.inr (some (rv + 1))), .inl (σ.1 (rv + 4 + 3 * k) 10), .inl (σ.1 (rv + 4 + 3 * k) 11)] κ σ Q := by
  have ha := List.getElem?_eq_getElem hk
  generalize As[k] = a at ha
  have hit : itE As I k = (1, riN a, ib I (rwA (As.take k)).length a) := by unfold itE; rw [ha]
  have had : adK As I E' k = adE E' (riN a) (ib I (rwA (As.take k)).length a) := by unfold adK; rw [hit]
  rw [had] at hQ
  obtain ⟨z2, hk42⟩ := cl_nm h ha
  obtain ⟨_, i10, i11, _⟩ := h.2.2.2.2.2.2.1.2.2.2.2 k a ha
  have hil := ib_l (I := I) ha
  have h61 := h.2.2.2.2.2.2.1.2.2.2.1
  have hl := (h.1.2 a (List.mem_of_getElem? ha)).2.1
  rw [z2, i10, i11]
  refine c_177 hA aB_ib ib_2l hl (hU k a ha).2 hX ⟨fun i x hx => h.2.2.2.2.2.2.1.2.2.1.2 _ _ (ib_q ha hx), Or.inl ⟨rv, h.2.2.1, rfl, by omega⟩⟩ hd hQ
end MCE
