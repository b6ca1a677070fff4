/-! ===== for the printed blocks ===== -/
theorem my_it {c : Prop} [Decidable c] {A B A' B' : Prop} (h : if c then A else B) (f : A → A') (g : B → B') : if c then A' else B' := by
  by_cases hc : c
  · rw [if_pos hc] at h ⊢; exact f h
  · rw [if_neg hc] at h ⊢; exact g h
theorem my_sl_cons {v : Value} {r : List Value} : (lg_sl (v :: r)).length = (lg_sl r).length + v.category := by
  simp only [lg_sl, List.flatMap_cons, List.length_append]
  cases v <;> simp [Value.category] <;> omega
theorem my_sl_len : ∀ {av : List my_V}, (lg_sl (av.map my_v)).length = my_wt av
  | [] => rfl
  | .inl x :: r => by
    have := my_sl_len (av := r)
    simp only [List.map_cons, my_v, my_wt]
    rw [my_sl_cons, this]
    rfl
  | .inr (.inl x) :: r => by
    have := my_sl_len (av := r)
    simp only [List.map_cons, my_v, my_wt]
    rw [my_sl_cons, this]
    rfl
  | .inr (.inr x) :: r => by
    have := my_sl_len (av := r)
    simp only [List.map_cons, my_v, my_wt]
    rw [my_sl_cons, this, my_v_cat]
theorem my_M_at {e : my_E} {d mi : Nat} {q : mj_Mi} {av : List my_V} {κ : my_K} {σ : my_S} {Q : my_O → my_K → my_S → Prop} (hq : mc_PR mi = some q) (hsz : Nat.ble (my_wt av) q.2.2.1 = true) (h : my_W e d q 0 (my_args 0 av) [] κ σ Q) : my_M e (d + 1) mi av κ σ Q := my_M_of hq (by rw [my_sl_len]; exact Nat.le_of_ble_eq_true hsz) h
theorem my_off_of {ci t z c a : Nat} (hd : (my_tb.zip (my_tb.drop c ++ List.replicate c (.inl 99))).all (fun p => !decide (p.1 = .inl ci) || decide (p.2 = .inr (t, z))) = true) (h : my_in ci a) : my_ar t z (a + c) := by
  have h0 := my_lay_ge h
  unfold my_in my_lay at h
  rw [if_neg (by omega)] at h
  have h1 := (List.getElem?_eq_some_iff.mp h).1
  have h2 : a - 32 < (my_tb.drop c ++ List.replicate c (Sum.inl 99 : Nat ⊕ (Nat × Nat))).length := by
    simp only [List.length_append, List.length_drop, List.length_replicate]; omega
  have h5 : (my_tb.zip (my_tb.drop c ++ List.replicate c (.inl 99)))[a - 32]? = some (.inl ci, (my_tb.drop c ++ List.replicate c (Sum.inl 99))[a - 32]) := by
    rw [List.getElem?_zip_eq_some]
    exact ⟨h, List.getElem?_eq_getElem h2⟩
  have h4 := List.all_eq_true.mp hd _ (List.mem_of_getElem? h5)
  simp only [decide_true, Bool.not_true, Bool.false_or, decide_eq_true_eq] at h4
  have h6 : (my_tb.drop c ++ List.replicate c (Sum.inl 99))[a - 32]? = some (.inr (t, z)) := by rw [List.getElem?_eq_getElem h2, h4]
  unfold my_ar my_lay
  rw [if_neg (by omega), show a + c - 32 = c + (a - 32) by omega]
  by_cases h7 : a - 32 < (my_tb.drop c).length
  · rw [List.getElem?_append_left h7, List.getElem?_drop] at h6
    exact h6
  · rw [List.getElem?_append_right (by omega)] at h6
    have := List.mem_of_getElem? h6
    rw [List.mem_replicate] at this
    cases this.2
/-! arrays at a known distance from their objects -/
theorem my_off_4_1 {a : Nat} (h : my_in 4 a) : my_ar 0 2200 (a + 1) := my_off_of (ci := 4) (by decide +kernel) h
theorem my_off_4_3 {a : Nat} (h : my_in 4 a) : my_ar 4 21 (a + 2) := my_off_of (ci := 4) (by decide +kernel) h
theorem my_off_4_4 {a : Nat} (h : my_in 4 a) : my_ar 0 21 (a + 3) := my_off_of (ci := 4) (by decide +kernel) h
theorem my_off_4_5 {a : Nat} (h : my_in 4 a) : my_ar 0 21 (a + 4) := my_off_of (ci := 4) (by decide +kernel) h
theorem my_off_4_6 {a : Nat} (h : my_in 4 a) : my_ar 0 210 (a + 5) := my_off_of (ci := 4) (by decide +kernel) h
theorem my_off_4_8 {a : Nat} (h : my_in 4 a) : my_ar 0 10 (a + 6) := my_off_of (ci := 4) (by decide +kernel) h
theorem my_off_4_9 {a : Nat} (h : my_in 4 a) : my_ar 0 128 (a + 7) := my_off_of (ci := 4) (by decide +kernel) h
theorem my_off_4_10 {a : Nat} (h : my_in 4 a) : my_ar 0 3 (a + 8) := my_off_of (ci := 4) (by decide +kernel) h
theorem my_off_6_11 {a : Nat} (h : my_in 6 a) : my_ar 0 3 (a + 1) := my_off_of (ci := 6) (by decide +kernel) h
theorem my_off_8_0 {a : Nat} (h : my_in 8 a) : my_ar 1 7747 (a + 1) := my_off_of (ci := 8) (by decide +kernel) h
theorem my_off_8_3 {a : Nat} (h : my_in 8 a) : my_ar 2 900 (a + 2) := my_off_of (ci := 8) (by decide +kernel) h
theorem my_off_8_4 {a : Nat} (h : my_in 8 a) : my_ar 0 900 (a + 3) := my_off_of (ci := 8) (by decide +kernel) h
theorem my_off_8_5 {a : Nat} (h : my_in 8 a) : my_ar 0 900 (a + 4) := my_off_of (ci := 8) (by decide +kernel) h
theorem my_off_8_7 {a : Nat} (h : my_in 8 a) : my_ar 2 500 (a + 5) := my_off_of (ci := 8) (by decide +kernel) h
theorem my_off_8_8 {a : Nat} (h : my_in 8 a) : my_ar 0 500 (a + 6) := my_off_of (ci := 8) (by decide +kernel) h
theorem my_off_9_8 {a : Nat} (h : my_in 9 a) : my_ar 0 30 (a + 1) := my_off_of (ci := 9) (by decide +kernel) h
theorem my_off_10_0 {a : Nat} (h : my_in 10 a) : my_ar 1 6144 (a + 1) := my_off_of (ci := 10) (by decide +kernel) h
theorem my_off_10_2 {a : Nat} (h : my_in 10 a) : my_ar 4 42 (a + 2) := my_off_of (ci := 10) (by decide +kernel) h
theorem my_off_10_4 {a : Nat} (h : my_in 10 a) : my_ar 0 4 (a + 3) := my_off_of (ci := 10) (by decide +kernel) h
theorem my_off_11_6 {a : Nat} (h : my_in 11 a) : my_ar 0 4 (a + 1) := my_off_of (ci := 11) (by decide +kernel) h
theorem my_off_11_15 {a : Nat} (h : my_in 11 a) : my_ar 4 30 (a + 2) := my_off_of (ci := 11) (by decide +kernel) h
