/-! the blocks of methods, as statements -/
def ys_189_39 (e : my_E) (d : Nat)  (κ : my_K) (σ : my_S) (Q : my_O → my_K → my_S → Prop) : Prop :=
  Q (.inl none) κ σ
theorem ys_189_39_ok {e : my_E} {d : Nat}  {κ : my_K} {σ : my_S} {Q : my_O → my_K → my_S → Prop}  (h : ys_189_39 e d  κ σ Q) : my_W e d mp_189 39 [] [] κ σ Q := by
  unfold ys_189_39 at h
  exact my_blk_ok (ops := [(.return_, [])]) (pc := 39) (lv := []) (st := []) (by decide +kernel) (h)
def ys_189_0 (e : my_E) (d : Nat) (v1 : Int32) (κ : my_K) (σ : my_S) (Q : my_O → my_K → my_S → Prop) : Prop :=
  if (σ.1 92 7) < 0 then (ys_189_39 e d  κ σ Q) else (if (σ.1 92 7) < 30 then ((my_bd (σ.1 92 7) 30) ∧ ys_189_39 e d  κ (my_uI (my_uI σ 93 ((σ.1 92 7) : Int32).toNatClampNeg v1) 92 7 ((σ.1 92 7) + 1)) Q) else (ys_189_39 e d  κ σ Q))
theorem ys_189_0_ok {e : my_E} {d : Nat} {v1 : Int32} {κ : my_K} {σ : my_S} {Q : my_O → my_K → my_S → Prop}  (h : ys_189_0 e d v1 κ σ Q) : my_W e d mp_189 0 [(0, .inr (.inr (some 92))), (1, .inl v1)] [] κ σ Q := by
  unfold ys_189_0 at h
  exact my_blk_ok (ops := [(.aload_n 0, []), (.getfield 15, [[1, 92, 9, 7, 0, 0]]), (.ifCond .lt 35, [[39], [7, 0, 1]])]) (pc := 0) (lv := [(0, .inr (.inr (some 92))), (1, .inl v1)]) (st := []) (by decide +kernel) (⟨rfl, my_it h (fun h => ys_189_39_ok  h) (fun h => my_blk_ok (ops := [(.aload_n 0, []), (.getfield 15, [[1, 92, 9, 7, 0, 0]]), (.aload_n 0, []), (.getfield 9, [[1, 92, 9, 8, 4, 93]]), (.arraylength, [[1, 93, 0, 30]]), (.if_icmp .ge 23, [[39], [19, 0, 1]])]) (pc := 7) (lv := [(0, .inr (.inr (some 92))), (1, .inl v1)]) (st := []) (by decide +kernel) (⟨rfl, ⟨rfl, ⟨rfl, my_it h (fun h => my_blk_ok (ops := [(.aload_n 0, []), (.getfield 9, [[1, 92, 9, 8, 4, 93]]), (.aload_n 0, []), (.getfield 15, [[1, 92, 9, 7, 0, 0]]), (.iload_n 1, []), (.iastore, [[1, 93, 30]]), (.aload_n 0, []), (.dup, []), (.getfield 15, [[1, 92, 9, 7, 0, 0]]), (.iconst 1, []), (.iadd, []), (.putfield 15, [[1, 92, 9, 7, 0]]), (.nop, [[39]])]) (pc := 19) (lv := [(0, .inr (.inr (some 92))), (1, .inl v1)]) (st := []) (by decide +kernel) (⟨rfl, ⟨rfl, ⟨rfl, h.elim (fun g h => ⟨g, ⟨rfl, ⟨rfl, ys_189_39_ok  h⟩⟩⟩)⟩⟩⟩)) (fun h => ys_189_39_ok  h)⟩⟩⟩))⟩)
theorem ys_189 {e : my_E} {d : Nat} {v1 : Int32} {κ : my_K} {σ : my_S} {Q : my_O → my_K → my_S → Prop}  (h : ys_189_0 e d v1 κ σ Q) : my_M e (d + 1) 189 [.inr (.inr (some 92)), .inl v1] κ σ Q := my_M_at (q := mp_189) rfl rfl (ys_189_0_ok  h)

def ys_190_31 (e : my_E) (d : Nat) (t0 : Int32) (κ : my_K) (σ : my_S) (Q : my_O → my_K → my_S → Prop) : Prop :=
  Q (.inl (some (.inl t0))) κ σ
theorem ys_190_31_ok {e : my_E} {d : Nat} {t0 : Int32} {κ : my_K} {σ : my_S} {Q : my_O → my_K → my_S → Prop}  (h : ys_190_31 e d t0 κ σ Q) : my_W e d mp_190 31 [] [.inl t0] κ σ Q := by
  unfold ys_190_31 at h
  exact my_blk_ok (ops := [(.ireturn, [[0]])]) (pc := 31) (lv := []) (st := [.inl t0]) (by decide +kernel) (h)
def ys_190_21 (e : my_E) (d : Nat)  (κ : my_K) (σ : my_S) (Q : my_O → my_K → my_S → Prop) : Prop :=
  ys_190_31 e d (Int32.ofInt (-1)) κ σ Q
theorem ys_190_21_ok {e : my_E} {d : Nat}  {κ : my_K} {σ : my_S} {Q : my_O → my_K → my_S → Prop}  (h : ys_190_21 e d  κ σ Q) : my_W e d mp_190 21 [] [] κ σ Q := by
  unfold ys_190_21 at h
  exact my_blk_ok (ops := [(.iconst (-1), []), (.goto 9, []), (.nop, [[31]])]) (pc := 21) (lv := []) (st := []) (by decide +kernel) (ys_190_31_ok  h)
def ys_190_0 (e : my_E) (d : Nat) (v1 : Int32) (κ : my_K) (σ : my_S) (Q : my_O → my_K → my_S → Prop) : Prop :=
  if v1 < 0 then (ys_190_21 e d  κ σ Q) else (if v1 < (σ.1 92 7) then (if v1 < 30 then ((my_bd v1 30) ∧ ys_190_31 e d (σ.1 93 (v1 : Int32).toNatClampNeg) κ σ Q) else (ys_190_21 e d  κ σ Q)) else (ys_190_21 e d  κ σ Q))
theorem ys_190_0_ok {e : my_E} {d : Nat} {v1 : Int32} {κ : my_K} {σ : my_S} {Q : my_O → my_K → my_S → Prop}  (h : ys_190_0 e d v1 κ σ Q) : my_W e d mp_190 0 [(0, .inr (.inr (some 92))), (1, .inl v1)] [] κ σ Q := by
  unfold ys_190_0 at h
  exact my_blk_ok (ops := [(.iload_n 1, []), (.ifCond .lt 20, [[21], [4, 0, 1]])]) (pc := 0) (lv := [(0, .inr (.inr (some 92))), (1, .inl v1)]) (st := []) (by decide +kernel) (my_it h (fun h => ys_190_21_ok  h) (fun h => my_blk_ok (ops := [(.iload_n 1, []), (.aload_n 0, []), (.getfield 15, [[1, 92, 9, 7, 0, 0]]), (.if_icmp .ge 12, [[21], [12, 0, 1]])]) (pc := 4) (lv := [(0, .inr (.inr (some 92))), (1, .inl v1)]) (st := []) (by decide +kernel) (⟨rfl, my_it h (fun h => my_blk_ok (ops := [(.iload_n 1, []), (.aload_n 0, []), (.getfield 9, [[1, 92, 9, 8, 4, 93]]), (.arraylength, [[1, 93, 0, 30]]), (.if_icmp .lt 7, [[25, 0, 1], [21]])]) (pc := 12) (lv := [(0, .inr (.inr (some 92))), (1, .inl v1)]) (st := []) (by decide +kernel) (⟨rfl, ⟨rfl, my_it h (fun h => my_blk_ok (ops := [(.aload_n 0, []), (.getfield 9, [[1, 92, 9, 8, 4, 93]]), (.iload_n 1, []), (.iaload, [[1, 93, 30]]), (.nop, [[31]])]) (pc := 25) (lv := [(0, .inr (.inr (some 92))), (1, .inl v1)]) (st := []) (by decide +kernel) (⟨rfl, ⟨rfl, h.elim (fun g h => ⟨g, ys_190_31_ok  h⟩)⟩⟩)) (fun h => ys_190_21_ok  h)⟩⟩)) (fun h => ys_190_21_ok  h)⟩)))
theorem ys_190 {e : my_E} {d : Nat} {v1 : Int32} {κ : my_K} {σ : my_S} {Q : my_O → my_K → my_S → Prop}  (h : ys_190_0 e d v1 κ σ Q) : my_M e (d + 1) 190 [.inr (.inr (some 92)), .inl v1] κ σ Q := my_M_at (q := mp_190) rfl rfl (ys_190_0_ok  h)
