/-! the blocks of methods, as statements -/
def ys_409_16 (e : my_E) (d : Nat) (t0 : Int32) (κ : my_K) (σ : my_S) (Q : my_O → my_K → my_S → Prop) : Prop :=
  (t0 = 0 ∨ t0 = 1) ∧ Q (.inl (some (.inl t0))) κ σ
theorem ys_409_16_ok {e : my_E} {d : Nat} {t0 : Int32} {κ : my_K} {σ : my_S} {Q : my_O → my_K → my_S → Prop}  (h : ys_409_16 e d t0 κ σ Q) : my_W e d mp_409 16 [] [.inl t0] κ σ Q := by
  unfold ys_409_16 at h
  exact my_blk_ok (ops := [(.ireturn, [[1]])]) (pc := 16) (lv := []) (st := [.inl t0]) (by decide +kernel) (h)
def ys_409_15 (e : my_E) (d : Nat)  (κ : my_K) (σ : my_S) (Q : my_O → my_K → my_S → Prop) : Prop :=
  ys_409_16 e d 0 κ σ Q
theorem ys_409_15_ok {e : my_E} {d : Nat}  {κ : my_K} {σ : my_S} {Q : my_O → my_K → my_S → Prop}  (h : ys_409_15 e d  κ σ Q) : my_W e d mp_409 15 [] [] κ σ Q := by
  unfold ys_409_15 at h
  exact my_blk_ok (ops := [(.iconst 0, []), (.nop, [[16]])]) (pc := 15) (lv := []) (st := []) (by decide +kernel) (ys_409_16_ok  h)
def ys_409_0 (e : my_E) (d : Nat) (v0 : Int32) (κ : my_K) (σ : my_S) (Q : my_O → my_K → my_S → Prop) : Prop :=
  if v0 < 0 then (ys_409_15 e d  κ σ Q) else (if (255 : Int32) < v0 then (ys_409_15 e d  κ σ Q) else (ys_409_16 e d 1 κ σ Q))
theorem ys_409_0_ok {e : my_E} {d : Nat} {v0 : Int32} {κ : my_K} {σ : my_S} {Q : my_O → my_K → my_S → Prop}  (h : ys_409_0 e d v0 κ σ Q) : my_W e d mp_409 0 [(0, .inl v0)] [] κ σ Q := by
  unfold ys_409_0 at h
  exact my_blk_ok (ops := [(.iload_n 0, []), (.ifCond .lt 14, [[15], [4, 0]])]) (pc := 0) (lv := [(0, .inl v0)]) (st := []) (by decide +kernel) (my_it h (fun h => ys_409_15_ok  h) (fun h => my_blk_ok (ops := [(.iload_n 0, []), (.sipush 255, []), (.if_icmp .gt 7, [[15], [11]])]) (pc := 4) (lv := [(0, .inl v0)]) (st := []) (by decide +kernel) (my_it h (fun h => ys_409_15_ok  h) (fun h => my_blk_ok (ops := [(.iconst 1, []), (.goto 4, []), (.nop, [[16]])]) (pc := 11) (lv := []) (st := []) (by decide +kernel) (ys_409_16_ok  h)))))
theorem ys_409 {e : my_E} {d : Nat} {v0 : Int32} {κ : my_K} {σ : my_S} {Q : my_O → my_K → my_S → Prop}  (h : ys_409_0 e d v0 κ σ Q) : my_M e (d + 1) 409 [.inl v0] κ σ Q := my_M_at (q := mp_409) rfl rfl (ys_409_0_ok  h)
