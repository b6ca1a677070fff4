
/-! ===== copies of arrays, the reference's ===== -/
def yc538_363_2 (e : my_E) (d : Nat) (v2 : Int32) (v3 : Int32) (κ : my_K) (σ : my_S) (Q : my_O → my_K → my_S → Prop) : Prop :=
  if v3 < v2 then ((my_bd v3 48) ∧ (my_bd v3 48) ∧ my_W e d mp_363 2 [(0, .inr (.inr (some 538))), (1, .inr (.inr (some 577))), (2, .inl v2), (3, .inl (v3 + 1))] [] κ (my_uI σ 577 (v3 : Int32).toNatClampNeg (σ.1 538 (v3 : Int32).toNatClampNeg)) Q) else (Q (.inl none) κ σ)
theorem yc538_363_2_ok {e : my_E} {d : Nat} {v2 : Int32} {v3 : Int32} {κ : my_K} {σ : my_S} {Q : my_O → my_K → my_S → Prop}  (h : yc538_363_2 e d v2 v3 κ σ Q) : my_W e d mp_363 2 [(0, .inr (.inr (some 538))), (1, .inr (.inr (some 577))), (2, .inl v2), (3, .inl v3)] [] κ σ Q := by
  unfold yc538_363_2 at h
  exact my_blk_ok (ops := [(.iload_n 3, []), (.iload_n 2, []), (.if_icmp .ge 15, [[19], [7, 0, 1, 2, 3]])]) (pc := 2) (lv := [(0, .inr (.inr (some 538))), (1, .inr (.inr (some 577))), (2, .inl v2), (3, .inl v3)]) (st := []) (by decide +kernel) (my_it h (fun h => my_blk_ok (ops := [(.aload_n 1, []), (.iload_n 3, []), (.aload_n 0, []), (.iload_n 3, []), (.iaload, [[1, 538, 48]]), (.iastore, [[1, 577, 48]]), (.iinc 3 1, []), (.goto (-14), []), (.nop, [[2, 0, 1, 2, 3]])]) (pc := 7) (lv := [(0, .inr (.inr (some 538))), (1, .inr (.inr (some 577))), (2, .inl v2), (3, .inl v3)]) (st := []) (by decide +kernel) (⟨rfl, h.elim (fun g h => ⟨g, ⟨rfl, h.elim (fun g h => ⟨g, h⟩)⟩⟩)⟩)) (fun h => my_blk_ok (ops := [(.return_, [])]) (pc := 19) (lv := []) (st := []) (by decide +kernel) (h)))
def yc538_363_0 (e : my_E) (d : Nat) (v2 : Int32) (κ : my_K) (σ : my_S) (Q : my_O → my_K → my_S → Prop) : Prop :=
  my_W e d mp_363 2 [(0, .inr (.inr (some 538))), (1, .inr (.inr (some 577))), (2, .inl v2), (3, .inl 0)] [] κ σ Q
theorem yc538_363_0_ok {e : my_E} {d : Nat} {v2 : Int32} {κ : my_K} {σ : my_S} {Q : my_O → my_K → my_S → Prop}  (h : yc538_363_0 e d v2 κ σ Q) : my_W e d mp_363 0 [(0, .inr (.inr (some 538))), (1, .inr (.inr (some 577))), (2, .inl v2)] [] κ σ Q := by
  unfold yc538_363_0 at h
  exact my_blk_ok (ops := [(.iconst 0, []), (.istore_n 3, []), (.nop, [[2, 0, 1, 2, 3]])]) (pc := 0) (lv := [(0, .inr (.inr (some 538))), (1, .inr (.inr (some 577))), (2, .inl v2)]) (st := []) (by decide +kernel) (h)
theorem yc538_363 {e : my_E} {d : Nat} {v2 : Int32} {κ : my_K} {σ : my_S} {Q : my_O → my_K → my_S → Prop}  (h : yc538_363_0 e d v2 κ σ Q) : my_M e (d + 1) 363 [.inr (.inr (some 538)), .inr (.inr (some 577)), .inl v2] κ σ Q := my_M_at (q := mp_363) rfl rfl (yc538_363_0_ok  h)
def yc577_363_2 (e : my_E) (d : Nat) (v2 : Int32) (v3 : Int32) (κ : my_K) (σ : my_S) (Q : my_O → my_K → my_S → Prop) : Prop :=
  if v3 < v2 then ((my_bd v3 48) ∧ (my_bd v3 48) ∧ my_W e d mp_363 2 [(0, .inr (.inr (some 577))), (1, .inr (.inr (some 538))), (2, .inl v2), (3, .inl (v3 + 1))] [] κ (my_uI σ 538 (v3 : Int32).toNatClampNeg (σ.1 577 (v3 : Int32).toNatClampNeg)) Q) else (Q (.inl none) κ σ)
theorem yc577_363_2_ok {e : my_E} {d : Nat} {v2 : Int32} {v3 : Int32} {κ : my_K} {σ : my_S} {Q : my_O → my_K → my_S → Prop}  (h : yc577_363_2 e d v2 v3 κ σ Q) : my_W e d mp_363 2 [(0, .inr (.inr (some 577))), (1, .inr (.inr (some 538))), (2, .inl v2), (3, .inl v3)] [] κ σ Q := by
  unfold yc577_363_2 at h
  exact my_blk_ok (ops := [(.iload_n 3, []), (.iload_n 2, []), (.if_icmp .ge 15, [[19], [7, 0, 1, 2, 3]])]) (pc := 2) (lv := [(0, .inr (.inr (some 577))), (1, .inr (.inr (some 538))), (2, .inl v2), (3, .inl v3)]) (st := []) (by decide +kernel) (my_it h (fun h => my_blk_ok (ops := [(.aload_n 1, []), (.iload_n 3, []), (.aload_n 0, []), (.iload_n 3, []), (.iaload, [[1, 577, 48]]), (.iastore, [[1, 538, 48]]), (.iinc 3 1, []), (.goto (-14), []), (.nop, [[2, 0, 1, 2, 3]])]) (pc := 7) (lv := [(0, .inr (.inr (some 577))), (1, .inr (.inr (some 538))), (2, .inl v2), (3, .inl v3)]) (st := []) (by decide +kernel) (⟨rfl, h.elim (fun g h => ⟨g, ⟨rfl, h.elim (fun g h => ⟨g, h⟩)⟩⟩)⟩)) (fun h => my_blk_ok (ops := [(.return_, [])]) (pc := 19) (lv := []) (st := []) (by decide +kernel) (h)))
def yc577_363_0 (e : my_E) (d : Nat) (v2 : Int32) (κ : my_K) (σ : my_S) (Q : my_O → my_K → my_S → Prop) : Prop :=
  my_W e d mp_363 2 [(0, .inr (.inr (some 577))), (1, .inr (.inr (some 538))), (2, .inl v2), (3, .inl 0)] [] κ σ Q
theorem yc577_363_0_ok {e : my_E} {d : Nat} {v2 : Int32} {κ : my_K} {σ : my_S} {Q : my_O → my_K → my_S → Prop}  (h : yc577_363_0 e d v2 κ σ Q) : my_W e d mp_363 0 [(0, .inr (.inr (some 577))), (1, .inr (.inr (some 538))), (2, .inl v2)] [] κ σ Q := by
  unfold yc577_363_0 at h
  exact my_blk_ok (ops := [(.iconst 0, []), (.istore_n 3, []), (.nop, [[2, 0, 1, 2, 3]])]) (pc := 0) (lv := [(0, .inr (.inr (some 577))), (1, .inr (.inr (some 538))), (2, .inl v2)]) (st := []) (by decide +kernel) (h)
theorem yc577_363 {e : my_E} {d : Nat} {v2 : Int32} {κ : my_K} {σ : my_S} {Q : my_O → my_K → my_S → Prop}  (h : yc577_363_0 e d v2 κ σ Q) : my_M e (d + 1) 363 [.inr (.inr (some 577)), .inr (.inr (some 538)), .inl v2] κ σ Q := my_M_at (q := mp_363) rfl rfl (yc577_363_0_ok  h)
def yc539_363_2 (e : my_E) (d : Nat) (v2 : Int32) (v3 : Int32) (κ : my_K) (σ : my_S) (Q : my_O → my_K → my_S → Prop) : Prop :=
  if v3 < v2 then ((my_bd v3 1536) ∧ (my_bd v3 1536) ∧ my_W e d mp_363 2 [(0, .inr (.inr (some 539))), (1, .inr (.inr (some 578))), (2, .inl v2), (3, .inl (v3 + 1))] [] κ (my_uI σ 578 (v3 : Int32).toNatClampNeg (σ.1 539 (v3 : Int32).toNatClampNeg)) Q) else (Q (.inl none) κ σ)
theorem yc539_363_2_ok {e : my_E} {d : Nat} {v2 : Int32} {v3 : Int32} {κ : my_K} {σ : my_S} {Q : my_O → my_K → my_S → Prop}  (h : yc539_363_2 e d v2 v3 κ σ Q) : my_W e d mp_363 2 [(0, .inr (.inr (some 539))), (1, .inr (.inr (some 578))), (2, .inl v2), (3, .inl v3)] [] κ σ Q := by
  unfold yc539_363_2 at h
  exact my_blk_ok (ops := [(.iload_n 3, []), (.iload_n 2, []), (.if_icmp .ge 15, [[19], [7, 0, 1, 2, 3]])]) (pc := 2) (lv := [(0, .inr (.inr (some 539))), (1, .inr (.inr (some 578))), (2, .inl v2), (3, .inl v3)]) (st := []) (by decide +kernel) (my_it h (fun h => my_blk_ok (ops := [(.aload_n 1, []), (.iload_n 3, []), (.aload_n 0, []), (.iload_n 3, []), (.iaload, [[1, 539, 1536]]), (.iastore, [[1, 578, 1536]]), (.iinc 3 1, []), (.goto (-14), []), (.nop, [[2, 0, 1, 2, 3]])]) (pc := 7) (lv := [(0, .inr (.inr (some 539))), (1, .inr (.inr (some 578))), (2, .inl v2), (3, .inl v3)]) (st := []) (by decide +kernel) (⟨rfl, h.elim (fun g h => ⟨g, ⟨rfl, h.elim (fun g h => ⟨g, h⟩)⟩⟩)⟩)) (fun h => my_blk_ok (ops := [(.return_, [])]) (pc := 19) (lv := []) (st := []) (by decide +kernel) (h)))
def yc539_363_0 (e : my_E) (d : Nat) (v2 : Int32) (κ : my_K) (σ : my_S) (Q : my_O → my_K → my_S → Prop) : Prop :=
  my_W e d mp_363 2 [(0, .inr (.inr (some 539))), (1, .inr (.inr (some 578))), (2, .inl v2), (3, .inl 0)] [] κ σ Q
theorem yc539_363_0_ok {e : my_E} {d : Nat} {v2 : Int32} {κ : my_K} {σ : my_S} {Q : my_O → my_K → my_S → Prop}  (h : yc539_363_0 e d v2 κ σ Q) : my_W e d mp_363 0 [(0, .inr (.inr (some 539))), (1, .inr (.inr (some 578))), (2, .inl v2)] [] κ σ Q := by
  unfold yc539_363_0 at h
  exact my_blk_ok (ops := [(.iconst 0, []), (.istore_n 3, []), (.nop, [[2, 0, 1, 2, 3]])]) (pc := 0) (lv := [(0, .inr (.inr (some 539))), (1, .inr (.inr (some 578))), (2, .inl v2)]) (st := []) (by decide +kernel) (h)
theorem yc539_363 {e : my_E} {d : Nat} {v2 : Int32} {κ : my_K} {σ : my_S} {Q : my_O → my_K → my_S → Prop}  (h : yc539_363_0 e d v2 κ σ Q) : my_M e (d + 1) 363 [.inr (.inr (some 539)), .inr (.inr (some 578)), .inl v2] κ σ Q := my_M_at (q := mp_363) rfl rfl (yc539_363_0_ok  h)
def yc578_363_2 (e : my_E) (d : Nat) (v2 : Int32) (v3 : Int32) (κ : my_K) (σ : my_S) (Q : my_O → my_K → my_S → Prop) : Prop :=
  if v3 < v2 then ((my_bd v3 1536) ∧ (my_bd v3 1536) ∧ my_W e d mp_363 2 [(0, .inr (.inr (some 578))), (1, .inr (.inr (some 539))), (2, .inl v2), (3, .inl (v3 + 1))] [] κ (my_uI σ 539 (v3 : Int32).toNatClampNeg (σ.1 578 (v3 : Int32).toNatClampNeg)) Q) else (Q (.inl none) κ σ)
theorem yc578_363_2_ok {e : my_E} {d : Nat} {v2 : Int32} {v3 : Int32} {κ : my_K} {σ : my_S} {Q : my_O → my_K → my_S → Prop}  (h : yc578_363_2 e d v2 v3 κ σ Q) : my_W e d mp_363 2 [(0, .inr (.inr (some 578))), (1, .inr (.inr (some 539))), (2, .inl v2), (3, .inl v3)] [] κ σ Q := by
  unfold yc578_363_2 at h
  exact my_blk_ok (ops := [(.iload_n 3, []), (.iload_n 2, []), (.if_icmp .ge 15, [[19], [7, 0, 1, 2, 3]])]) (pc := 2) (lv := [(0, .inr (.inr (some 578))), (1, .inr (.inr (some 539))), (2, .inl v2), (3, .inl v3)]) (st := []) (by decide +kernel) (my_it h (fun h => my_blk_ok (ops := [(.aload_n 1, []), (.iload_n 3, []), (.aload_n 0, []), (.iload_n 3, []), (.iaload, [[1, 578, 1536]]), (.iastore, [[1, 539, 1536]]), (.iinc 3 1, []), (.goto (-14), []), (.nop, [[2, 0, 1, 2, 3]])]) (pc := 7) (lv := [(0, .inr (.inr (some 578))), (1, .inr (.inr (some 539))), (2, .inl v2), (3, .inl v3)]) (st := []) (by decide +kernel) (⟨rfl, h.elim (fun g h => ⟨g, ⟨rfl, h.elim (fun g h => ⟨g, h⟩)⟩⟩)⟩)) (fun h => my_blk_ok (ops := [(.return_, [])]) (pc := 19) (lv := []) (st := []) (by decide +kernel) (h)))
def yc578_363_0 (e : my_E) (d : Nat) (v2 : Int32) (κ : my_K) (σ : my_S) (Q : my_O → my_K → my_S → Prop) : Prop :=
  my_W e d mp_363 2 [(0, .inr (.inr (some 578))), (1, .inr (.inr (some 539))), (2, .inl v2), (3, .inl 0)] [] κ σ Q
theorem yc578_363_0_ok {e : my_E} {d : Nat} {v2 : Int32} {κ : my_K} {σ : my_S} {Q : my_O → my_K → my_S → Prop}  (h : yc578_363_0 e d v2 κ σ Q) : my_W e d mp_363 0 [(0, .inr (.inr (some 578))), (1, .inr (.inr (some 539))), (2, .inl v2)] [] κ σ Q := by
  unfold yc578_363_0 at h
  exact my_blk_ok (ops := [(.iconst 0, []), (.istore_n 3, []), (.nop, [[2, 0, 1, 2, 3]])]) (pc := 0) (lv := [(0, .inr (.inr (some 578))), (1, .inr (.inr (some 539))), (2, .inl v2)]) (st := []) (by decide +kernel) (h)
theorem yc578_363 {e : my_E} {d : Nat} {v2 : Int32} {κ : my_K} {σ : my_S} {Q : my_O → my_K → my_S → Prop}  (h : yc578_363_0 e d v2 κ σ Q) : my_M e (d + 1) 363 [.inr (.inr (some 578)), .inr (.inr (some 539)), .inl v2] κ σ Q := my_M_at (q := mp_363) rfl rfl (yc578_363_0_ok  h)
def yc541_363_2 (e : my_E) (d : Nat) (v2 : Int32) (v3 : Int32) (κ : my_K) (σ : my_S) (Q : my_O → my_K → my_S → Prop) : Prop :=
  if v3 < v2 then ((my_bd v3 8000) ∧ (my_bd v3 8000) ∧ my_W e d mp_363 2 [(0, .inr (.inr (some 541))), (1, .inr (.inr (some 580))), (2, .inl v2), (3, .inl (v3 + 1))] [] κ (my_uI σ 580 (v3 : Int32).toNatClampNeg (σ.1 541 (v3 : Int32).toNatClampNeg)) Q) else (Q (.inl none) κ σ)
theorem yc541_363_2_ok {e : my_E} {d : Nat} {v2 : Int32} {v3 : Int32} {κ : my_K} {σ : my_S} {Q : my_O → my_K → my_S → Prop}  (h : yc541_363_2 e d v2 v3 κ σ Q) : my_W e d mp_363 2 [(0, .inr (.inr (some 541))), (1, .inr (.inr (some 580))), (2, .inl v2), (3, .inl v3)] [] κ σ Q := by
  unfold yc541_363_2 at h
  exact my_blk_ok (ops := [(.iload_n 3, []), (.iload_n 2, []), (.if_icmp .ge 15, [[19], [7, 0, 1, 2, 3]])]) (pc := 2) (lv := [(0, .inr (.inr (some 541))), (1, .inr (.inr (some 580))), (2, .inl v2), (3, .inl v3)]) (st := []) (by decide +kernel) (my_it h (fun h => my_blk_ok (ops := [(.aload_n 1, []), (.iload_n 3, []), (.aload_n 0, []), (.iload_n 3, []), (.iaload, [[1, 541, 8000]]), (.iastore, [[1, 580, 8000]]), (.iinc 3 1, []), (.goto (-14), []), (.nop, [[2, 0, 1, 2, 3]])]) (pc := 7) (lv := [(0, .inr (.inr (some 541))), (1, .inr (.inr (some 580))), (2, .inl v2), (3, .inl v3)]) (st := []) (by decide +kernel) (⟨rfl, h.elim (fun g h => ⟨g, ⟨rfl, h.elim (fun g h => ⟨g, h⟩)⟩⟩)⟩)) (fun h => my_blk_ok (ops := [(.return_, [])]) (pc := 19) (lv := []) (st := []) (by decide +kernel) (h)))
def yc541_363_0 (e : my_E) (d : Nat) (v2 : Int32) (κ : my_K) (σ : my_S) (Q : my_O → my_K → my_S → Prop) : Prop :=
  my_W e d mp_363 2 [(0, .inr (.inr (some 541))), (1, .inr (.inr (some 580))), (2, .inl v2), (3, .inl 0)] [] κ σ Q
theorem yc541_363_0_ok {e : my_E} {d : Nat} {v2 : Int32} {κ : my_K} {σ : my_S} {Q : my_O → my_K → my_S → Prop}  (h : yc541_363_0 e d v2 κ σ Q) : my_W e d mp_363 0 [(0, .inr (.inr (some 541))), (1, .inr (.inr (some 580))), (2, .inl v2)] [] κ σ Q := by
  unfold yc541_363_0 at h
  exact my_blk_ok (ops := [(.iconst 0, []), (.istore_n 3, []), (.nop, [[2, 0, 1, 2, 3]])]) (pc := 0) (lv := [(0, .inr (.inr (some 541))), (1, .inr (.inr (some 580))), (2, .inl v2)]) (st := []) (by decide +kernel) (h)
theorem yc541_363 {e : my_E} {d : Nat} {v2 : Int32} {κ : my_K} {σ : my_S} {Q : my_O → my_K → my_S → Prop}  (h : yc541_363_0 e d v2 κ σ Q) : my_M e (d + 1) 363 [.inr (.inr (some 541)), .inr (.inr (some 580)), .inl v2] κ σ Q := my_M_at (q := mp_363) rfl rfl (yc541_363_0_ok  h)
def yc580_363_2 (e : my_E) (d : Nat) (v2 : Int32) (v3 : Int32) (κ : my_K) (σ : my_S) (Q : my_O → my_K → my_S → Prop) : Prop :=
  if v3 < v2 then ((my_bd v3 8000) ∧ (my_bd v3 8000) ∧ my_W e d mp_363 2 [(0, .inr (.inr (some 580))), (1, .inr (.inr (some 541))), (2, .inl v2), (3, .inl (v3 + 1))] [] κ (my_uI σ 541 (v3 : Int32).toNatClampNeg (σ.1 580 (v3 : Int32).toNatClampNeg)) Q) else (Q (.inl none) κ σ)
theorem yc580_363_2_ok {e : my_E} {d : Nat} {v2 : Int32} {v3 : Int32} {κ : my_K} {σ : my_S} {Q : my_O → my_K → my_S → Prop}  (h : yc580_363_2 e d v2 v3 κ σ Q) : my_W e d mp_363 2 [(0, .inr (.inr (some 580))), (1, .inr (.inr (some 541))), (2, .inl v2), (3, .inl v3)] [] κ σ Q := by
  unfold yc580_363_2 at h
  exact my_blk_ok (ops := [(.iload_n 3, []), (.iload_n 2, []), (.if_icmp .ge 15, [[19], [7, 0, 1, 2, 3]])]) (pc := 2) (lv := [(0, .inr (.inr (some 580))), (1, .inr (.inr (some 541))), (2, .inl v2), (3, .inl v3)]) (st := []) (by decide +kernel) (my_it h (fun h => my_blk_ok (ops := [(.aload_n 1, []), (.iload_n 3, []), (.aload_n 0, []), (.iload_n 3, []), (.iaload, [[1, 580, 8000]]), (.iastore, [[1, 541, 8000]]), (.iinc 3 1, []), (.goto (-14), []), (.nop, [[2, 0, 1, 2, 3]])]) (pc := 7) (lv := [(0, .inr (.inr (some 580))), (1, .inr (.inr (some 541))), (2, .inl v2), (3, .inl v3)]) (st := []) (by decide +kernel) (⟨rfl, h.elim (fun g h => ⟨g, ⟨rfl, h.elim (fun g h => ⟨g, h⟩)⟩⟩)⟩)) (fun h => my_blk_ok (ops := [(.return_, [])]) (pc := 19) (lv := []) (st := []) (by decide +kernel) (h)))
def yc580_363_0 (e : my_E) (d : Nat) (v2 : Int32) (κ : my_K) (σ : my_S) (Q : my_O → my_K → my_S → Prop) : Prop :=
  my_W e d mp_363 2 [(0, .inr (.inr (some 580))), (1, .inr (.inr (some 541))), (2, .inl v2), (3, .inl 0)] [] κ σ Q
theorem yc580_363_0_ok {e : my_E} {d : Nat} {v2 : Int32} {κ : my_K} {σ : my_S} {Q : my_O → my_K → my_S → Prop}  (h : yc580_363_0 e d v2 κ σ Q) : my_W e d mp_363 0 [(0, .inr (.inr (some 580))), (1, .inr (.inr (some 541))), (2, .inl v2)] [] κ σ Q := by
  unfold yc580_363_0 at h
  exact my_blk_ok (ops := [(.iconst 0, []), (.istore_n 3, []), (.nop, [[2, 0, 1, 2, 3]])]) (pc := 0) (lv := [(0, .inr (.inr (some 580))), (1, .inr (.inr (some 541))), (2, .inl v2)]) (st := []) (by decide +kernel) (h)
theorem yc580_363 {e : my_E} {d : Nat} {v2 : Int32} {κ : my_K} {σ : my_S} {Q : my_O → my_K → my_S → Prop}  (h : yc580_363_0 e d v2 κ σ Q) : my_M e (d + 1) 363 [.inr (.inr (some 580)), .inr (.inr (some 541)), .inl v2] κ σ Q := my_M_at (q := mp_363) rfl rfl (yc580_363_0_ok  h)
def yc542_363_2 (e : my_E) (d : Nat) (v2 : Int32) (v3 : Int32) (κ : my_K) (σ : my_S) (Q : my_O → my_K → my_S → Prop) : Prop :=
  if v3 < v2 then ((my_bd v3 220) ∧ (my_bd v3 220) ∧ my_W e d mp_363 2 [(0, .inr (.inr (some 542))), (1, .inr (.inr (some 581))), (2, .inl v2), (3, .inl (v3 + 1))] [] κ (my_uI σ 581 (v3 : Int32).toNatClampNeg (σ.1 542 (v3 : Int32).toNatClampNeg)) Q) else (Q (.inl none) κ σ)
theorem yc542_363_2_ok {e : my_E} {d : Nat} {v2 : Int32} {v3 : Int32} {κ : my_K} {σ : my_S} {Q : my_O → my_K → my_S → Prop}  (h : yc542_363_2 e d v2 v3 κ σ Q) : my_W e d mp_363 2 [(0, .inr (.inr (some 542))), (1, .inr (.inr (some 581))), (2, .inl v2), (3, .inl v3)] [] κ σ Q := by
  unfold yc542_363_2 at h
  exact my_blk_ok (ops := [(.iload_n 3, []), (.iload_n 2, []), (.if_icmp .ge 15, [[19], [7, 0, 1, 2, 3]])]) (pc := 2) (lv := [(0, .inr (.inr (some 542))), (1, .inr (.inr (some 581))), (2, .inl v2), (3, .inl v3)]) (st := []) (by decide +kernel) (my_it h (fun h => my_blk_ok (ops := [(.aload_n 1, []), (.iload_n 3, []), (.aload_n 0, []), (.iload_n 3, []), (.iaload, [[1, 542, 220]]), (.iastore, [[1, 581, 220]]), (.iinc 3 1, []), (.goto (-14), []), (.nop, [[2, 0, 1, 2, 3]])]) (pc := 7) (lv := [(0, .inr (.inr (some 542))), (1, .inr (.inr (some 581))), (2, .inl v2), (3, .inl v3)]) (st := []) (by decide +kernel) (⟨rfl, h.elim (fun g h => ⟨g, ⟨rfl, h.elim (fun g h => ⟨g, h⟩)⟩⟩)⟩)) (fun h => my_blk_ok (ops := [(.return_, [])]) (pc := 19) (lv := []) (st := []) (by decide +kernel) (h)))
def yc542_363_0 (e : my_E) (d : Nat) (v2 : Int32) (κ : my_K) (σ : my_S) (Q : my_O → my_K → my_S → Prop) : Prop :=
  my_W e d mp_363 2 [(0, .inr (.inr (some 542))), (1, .inr (.inr (some 581))), (2, .inl v2), (3, .inl 0)] [] κ σ Q
theorem yc542_363_0_ok {e : my_E} {d : Nat} {v2 : Int32} {κ : my_K} {σ : my_S} {Q : my_O → my_K → my_S → Prop}  (h : yc542_363_0 e d v2 κ σ Q) : my_W e d mp_363 0 [(0, .inr (.inr (some 542))), (1, .inr (.inr (some 581))), (2, .inl v2)] [] κ σ Q := by
  unfold yc542_363_0 at h
  exact my_blk_ok (ops := [(.iconst 0, []), (.istore_n 3, []), (.nop, [[2, 0, 1, 2, 3]])]) (pc := 0) (lv := [(0, .inr (.inr (some 542))), (1, .inr (.inr (some 581))), (2, .inl v2)]) (st := []) (by decide +kernel) (h)
theorem yc542_363 {e : my_E} {d : Nat} {v2 : Int32} {κ : my_K} {σ : my_S} {Q : my_O → my_K → my_S → Prop}  (h : yc542_363_0 e d v2 κ σ Q) : my_M e (d + 1) 363 [.inr (.inr (some 542)), .inr (.inr (some 581)), .inl v2] κ σ Q := my_M_at (q := mp_363) rfl rfl (yc542_363_0_ok  h)
def yc581_363_2 (e : my_E) (d : Nat) (v2 : Int32) (v3 : Int32) (κ : my_K) (σ : my_S) (Q : my_O → my_K → my_S → Prop) : Prop :=
  if v3 < v2 then ((my_bd v3 220) ∧ (my_bd v3 220) ∧ my_W e d mp_363 2 [(0, .inr (.inr (some 581))), (1, .inr (.inr (some 542))), (2, .inl v2), (3, .inl (v3 + 1))] [] κ (my_uI σ 542 (v3 : Int32).toNatClampNeg (σ.1 581 (v3 : Int32).toNatClampNeg)) Q) else (Q (.inl none) κ σ)
theorem yc581_363_2_ok {e : my_E} {d : Nat} {v2 : Int32} {v3 : Int32} {κ : my_K} {σ : my_S} {Q : my_O → my_K → my_S → Prop}  (h : yc581_363_2 e d v2 v3 κ σ Q) : my_W e d mp_363 2 [(0, .inr (.inr (some 581))), (1, .inr (.inr (some 542))), (2, .inl v2), (3, .inl v3)] [] κ σ Q := by
  unfold yc581_363_2 at h
  exact my_blk_ok (ops := [(.iload_n 3, []), (.iload_n 2, []), (.if_icmp .ge 15, [[19], [7, 0, 1, 2, 3]])]) (pc := 2) (lv := [(0, .inr (.inr (some 581))), (1, .inr (.inr (some 542))), (2, .inl v2), (3, .inl v3)]) (st := []) (by decide +kernel) (my_it h (fun h => my_blk_ok (ops := [(.aload_n 1, []), (.iload_n 3, []), (.aload_n 0, []), (.iload_n 3, []), (.iaload, [[1, 581, 220]]), (.iastore, [[1, 542, 220]]), (.iinc 3 1, []), (.goto (-14), []), (.nop, [[2, 0, 1, 2, 3]])]) (pc := 7) (lv := [(0, .inr (.inr (some 581))), (1, .inr (.inr (some 542))), (2, .inl v2), (3, .inl v3)]) (st := []) (by decide +kernel) (⟨rfl, h.elim (fun g h => ⟨g, ⟨rfl, h.elim (fun g h => ⟨g, h⟩)⟩⟩)⟩)) (fun h => my_blk_ok (ops := [(.return_, [])]) (pc := 19) (lv := []) (st := []) (by decide +kernel) (h)))
def yc581_363_0 (e : my_E) (d : Nat) (v2 : Int32) (κ : my_K) (σ : my_S) (Q : my_O → my_K → my_S → Prop) : Prop :=
  my_W e d mp_363 2 [(0, .inr (.inr (some 581))), (1, .inr (.inr (some 542))), (2, .inl v2), (3, .inl 0)] [] κ σ Q
theorem yc581_363_0_ok {e : my_E} {d : Nat} {v2 : Int32} {κ : my_K} {σ : my_S} {Q : my_O → my_K → my_S → Prop}  (h : yc581_363_0 e d v2 κ σ Q) : my_W e d mp_363 0 [(0, .inr (.inr (some 581))), (1, .inr (.inr (some 542))), (2, .inl v2)] [] κ σ Q := by
  unfold yc581_363_0 at h
  exact my_blk_ok (ops := [(.iconst 0, []), (.istore_n 3, []), (.nop, [[2, 0, 1, 2, 3]])]) (pc := 0) (lv := [(0, .inr (.inr (some 581))), (1, .inr (.inr (some 542))), (2, .inl v2)]) (st := []) (by decide +kernel) (h)
theorem yc581_363 {e : my_E} {d : Nat} {v2 : Int32} {κ : my_K} {σ : my_S} {Q : my_O → my_K → my_S → Prop}  (h : yc581_363_0 e d v2 κ σ Q) : my_M e (d + 1) 363 [.inr (.inr (some 581)), .inr (.inr (some 542)), .inl v2] κ σ Q := my_M_at (q := mp_363) rfl rfl (yc581_363_0_ok  h)
def yc543_363_2 (e : my_E) (d : Nat) (v2 : Int32) (v3 : Int32) (κ : my_K) (σ : my_S) (Q : my_O → my_K → my_S → Prop) : Prop :=
  if v3 < v2 then ((my_bd v3 24) ∧ (my_bd v3 24) ∧ my_W e d mp_363 2 [(0, .inr (.inr (some 543))), (1, .inr (.inr (some 582))), (2, .inl v2), (3, .inl (v3 + 1))] [] κ (my_uI σ 582 (v3 : Int32).toNatClampNeg (σ.1 543 (v3 : Int32).toNatClampNeg)) Q) else (Q (.inl none) κ σ)
theorem yc543_363_2_ok {e : my_E} {d : Nat} {v2 : Int32} {v3 : Int32} {κ : my_K} {σ : my_S} {Q : my_O → my_K → my_S → Prop}  (h : yc543_363_2 e d v2 v3 κ σ Q) : my_W e d mp_363 2 [(0, .inr (.inr (some 543))), (1, .inr (.inr (some 582))), (2, .inl v2), (3, .inl v3)] [] κ σ Q := by
  unfold yc543_363_2 at h
  exact my_blk_ok (ops := [(.iload_n 3, []), (.iload_n 2, []), (.if_icmp .ge 15, [[19], [7, 0, 1, 2, 3]])]) (pc := 2) (lv := [(0, .inr (.inr (some 543))), (1, .inr (.inr (some 582))), (2, .inl v2), (3, .inl v3)]) (st := []) (by decide +kernel) (my_it h (fun h => my_blk_ok (ops := [(.aload_n 1, []), (.iload_n 3, []), (.aload_n 0, []), (.iload_n 3, []), (.iaload, [[1, 543, 24]]), (.iastore, [[1, 582, 24]]), (.iinc 3 1, []), (.goto (-14), []), (.nop, [[2, 0, 1, 2, 3]])]) (pc := 7) (lv := [(0, .inr (.inr (some 543))), (1, .inr (.inr (some 582))), (2, .inl v2), (3, .inl v3)]) (st := []) (by decide +kernel) (⟨rfl, h.elim (fun g h => ⟨g, ⟨rfl, h.elim (fun g h => ⟨g, h⟩)⟩⟩)⟩)) (fun h => my_blk_ok (ops := [(.return_, [])]) (pc := 19) (lv := []) (st := []) (by decide +kernel) (h)))
def yc543_363_0 (e : my_E) (d : Nat) (v2 : Int32) (κ : my_K) (σ : my_S) (Q : my_O → my_K → my_S → Prop) : Prop :=
  my_W e d mp_363 2 [(0, .inr (.inr (some 543))), (1, .inr (.inr (some 582))), (2, .inl v2), (3, .inl 0)] [] κ σ Q
theorem yc543_363_0_ok {e : my_E} {d : Nat} {v2 : Int32} {κ : my_K} {σ : my_S} {Q : my_O → my_K → my_S → Prop}  (h : yc543_363_0 e d v2 κ σ Q) : my_W e d mp_363 0 [(0, .inr (.inr (some 543))), (1, .inr (.inr (some 582))), (2, .inl v2)] [] κ σ Q := by
  unfold yc543_363_0 at h
  exact my_blk_ok (ops := [(.iconst 0, []), (.istore_n 3, []), (.nop, [[2, 0, 1, 2, 3]])]) (pc := 0) (lv := [(0, .inr (.inr (some 543))), (1, .inr (.inr (some 582))), (2, .inl v2)]) (st := []) (by decide +kernel) (h)
theorem yc543_363 {e : my_E} {d : Nat} {v2 : Int32} {κ : my_K} {σ : my_S} {Q : my_O → my_K → my_S → Prop}  (h : yc543_363_0 e d v2 κ σ Q) : my_M e (d + 1) 363 [.inr (.inr (some 543)), .inr (.inr (some 582)), .inl v2] κ σ Q := my_M_at (q := mp_363) rfl rfl (yc543_363_0_ok  h)
def yc582_363_2 (e : my_E) (d : Nat) (v2 : Int32) (v3 : Int32) (κ : my_K) (σ : my_S) (Q : my_O → my_K → my_S → Prop) : Prop :=
  if v3 < v2 then ((my_bd v3 24) ∧ (my_bd v3 24) ∧ my_W e d mp_363 2 [(0, .inr (.inr (some 582))), (1, .inr (.inr (some 543))), (2, .inl v2), (3, .inl (v3 + 1))] [] κ (my_uI σ 543 (v3 : Int32).toNatClampNeg (σ.1 582 (v3 : Int32).toNatClampNeg)) Q) else (Q (.inl none) κ σ)
theorem yc582_363_2_ok {e : my_E} {d : Nat} {v2 : Int32} {v3 : Int32} {κ : my_K} {σ : my_S} {Q : my_O → my_K → my_S → Prop}  (h : yc582_363_2 e d v2 v3 κ σ Q) : my_W e d mp_363 2 [(0, .inr (.inr (some 582))), (1, .inr (.inr (some 543))), (2, .inl v2), (3, .inl v3)] [] κ σ Q := by
  unfold yc582_363_2 at h
  exact my_blk_ok (ops := [(.iload_n 3, []), (.iload_n 2, []), (.if_icmp .ge 15, [[19], [7, 0, 1, 2, 3]])]) (pc := 2) (lv := [(0, .inr (.inr (some 582))), (1, .inr (.inr (some 543))), (2, .inl v2), (3, .inl v3)]) (st := []) (by decide +kernel) (my_it h (fun h => my_blk_ok (ops := [(.aload_n 1, []), (.iload_n 3, []), (.aload_n 0, []), (.iload_n 3, []), (.iaload, [[1, 582, 24]]), (.iastore, [[1, 543, 24]]), (.iinc 3 1, []), (.goto (-14), []), (.nop, [[2, 0, 1, 2, 3]])]) (pc := 7) (lv := [(0, .inr (.inr (some 582))), (1, .inr (.inr (some 543))), (2, .inl v2), (3, .inl v3)]) (st := []) (by decide +kernel) (⟨rfl, h.elim (fun g h => ⟨g, ⟨rfl, h.elim (fun g h => ⟨g, h⟩)⟩⟩)⟩)) (fun h => my_blk_ok (ops := [(.return_, [])]) (pc := 19) (lv := []) (st := []) (by decide +kernel) (h)))
def yc582_363_0 (e : my_E) (d : Nat) (v2 : Int32) (κ : my_K) (σ : my_S) (Q : my_O → my_K → my_S → Prop) : Prop :=
  my_W e d mp_363 2 [(0, .inr (.inr (some 582))), (1, .inr (.inr (some 543))), (2, .inl v2), (3, .inl 0)] [] κ σ Q
theorem yc582_363_0_ok {e : my_E} {d : Nat} {v2 : Int32} {κ : my_K} {σ : my_S} {Q : my_O → my_K → my_S → Prop}  (h : yc582_363_0 e d v2 κ σ Q) : my_W e d mp_363 0 [(0, .inr (.inr (some 582))), (1, .inr (.inr (some 543))), (2, .inl v2)] [] κ σ Q := by
  unfold yc582_363_0 at h
  exact my_blk_ok (ops := [(.iconst 0, []), (.istore_n 3, []), (.nop, [[2, 0, 1, 2, 3]])]) (pc := 0) (lv := [(0, .inr (.inr (some 582))), (1, .inr (.inr (some 543))), (2, .inl v2)]) (st := []) (by decide +kernel) (h)
theorem yc582_363 {e : my_E} {d : Nat} {v2 : Int32} {κ : my_K} {σ : my_S} {Q : my_O → my_K → my_S → Prop}  (h : yc582_363_0 e d v2 κ σ Q) : my_M e (d + 1) 363 [.inr (.inr (some 582)), .inr (.inr (some 543)), .inl v2] κ σ Q := my_M_at (q := mp_363) rfl rfl (yc582_363_0_ok  h)
def yc544_363_2 (e : my_E) (d : Nat) (v2 : Int32) (v3 : Int32) (κ : my_K) (σ : my_S) (Q : my_O → my_K → my_S → Prop) : Prop :=
  if v3 < v2 then ((my_bd v3 24) ∧ (my_bd v3 24) ∧ my_W e d mp_363 2 [(0, .inr (.inr (some 544))), (1, .inr (.inr (some 583))), (2, .inl v2), (3, .inl (v3 + 1))] [] κ (my_uI σ 583 (v3 : Int32).toNatClampNeg (σ.1 544 (v3 : Int32).toNatClampNeg)) Q) else (Q (.inl none) κ σ)
theorem yc544_363_2_ok {e : my_E} {d : Nat} {v2 : Int32} {v3 : Int32} {κ : my_K} {σ : my_S} {Q : my_O → my_K → my_S → Prop}  (h : yc544_363_2 e d v2 v3 κ σ Q) : my_W e d mp_363 2 [(0, .inr (.inr (some 544))), (1, .inr (.inr (some 583))), (2, .inl v2), (3, .inl v3)] [] κ σ Q := by
  unfold yc544_363_2 at h
  exact my_blk_ok (ops := [(.iload_n 3, []), (.iload_n 2, []), (.if_icmp .ge 15, [[19], [7, 0, 1, 2, 3]])]) (pc := 2) (lv := [(0, .inr (.inr (some 544))), (1, .inr (.inr (some 583))), (2, .inl v2), (3, .inl v3)]) (st := []) (by decide +kernel) (my_it h (fun h => my_blk_ok (ops := [(.aload_n 1, []), (.iload_n 3, []), (.aload_n 0, []), (.iload_n 3, []), (.iaload, [[1, 544, 24]]), (.iastore, [[1, 583, 24]]), (.iinc 3 1, []), (.goto (-14), []), (.nop, [[2, 0, 1, 2, 3]])]) (pc := 7) (lv := [(0, .inr (.inr (some 544))), (1, .inr (.inr (some 583))), (2, .inl v2), (3, .inl v3)]) (st := []) (by decide +kernel) (⟨rfl, h.elim (fun g h => ⟨g, ⟨rfl, h.elim (fun g h => ⟨g, h⟩)⟩⟩)⟩)) (fun h => my_blk_ok (ops := [(.return_, [])]) (pc := 19) (lv := []) (st := []) (by decide +kernel) (h)))
def yc544_363_0 (e : my_E) (d : Nat) (v2 : Int32) (κ : my_K) (σ : my_S) (Q : my_O → my_K → my_S → Prop) : Prop :=
  my_W e d mp_363 2 [(0, .inr (.inr (some 544))), (1, .inr (.inr (some 583))), (2, .inl v2), (3, .inl 0)] [] κ σ Q
theorem yc544_363_0_ok {e : my_E} {d : Nat} {v2 : Int32} {κ : my_K} {σ : my_S} {Q : my_O → my_K → my_S → Prop}  (h : yc544_363_0 e d v2 κ σ Q) : my_W e d mp_363 0 [(0, .inr (.inr (some 544))), (1, .inr (.inr (some 583))), (2, .inl v2)] [] κ σ Q := by
  unfold yc544_363_0 at h
  exact my_blk_ok (ops := [(.iconst 0, []), (.istore_n 3, []), (.nop, [[2, 0, 1, 2, 3]])]) (pc := 0) (lv := [(0, .inr (.inr (some 544))), (1, .inr (.inr (some 583))), (2, .inl v2)]) (st := []) (by decide +kernel) (h)
theorem yc544_363 {e : my_E} {d : Nat} {v2 : Int32} {κ : my_K} {σ : my_S} {Q : my_O → my_K → my_S → Prop}  (h : yc544_363_0 e d v2 κ σ Q) : my_M e (d + 1) 363 [.inr (.inr (some 544)), .inr (.inr (some 583)), .inl v2] κ σ Q := my_M_at (q := mp_363) rfl rfl (yc544_363_0_ok  h)
def yc583_363_2 (e : my_E) (d : Nat) (v2 : Int32) (v3 : Int32) (κ : my_K) (σ : my_S) (Q : my_O → my_K → my_S → Prop) : Prop :=
  if v3 < v2 then ((my_bd v3 24) ∧ (my_bd v3 24) ∧ my_W e d mp_363 2 [(0, .inr (.inr (some 583))), (1, .inr (.inr (some 544))), (2, .inl v2), (3, .inl (v3 + 1))] [] κ (my_uI σ 544 (v3 : Int32).toNatClampNeg (σ.1 583 (v3 : Int32).toNatClampNeg)) Q) else (Q (.inl none) κ σ)
theorem yc583_363_2_ok {e : my_E} {d : Nat} {v2 : Int32} {v3 : Int32} {κ : my_K} {σ : my_S} {Q : my_O → my_K → my_S → Prop}  (h : yc583_363_2 e d v2 v3 κ σ Q) : my_W e d mp_363 2 [(0, .inr (.inr (some 583))), (1, .inr (.inr (some 544))), (2, .inl v2), (3, .inl v3)] [] κ σ Q := by
  unfold yc583_363_2 at h
  exact my_blk_ok (ops := [(.iload_n 3, []), (.iload_n 2, []), (.if_icmp .ge 15, [[19], [7, 0, 1, 2, 3]])]) (pc := 2) (lv := [(0, .inr (.inr (some 583))), (1, .inr (.inr (some 544))), (2, .inl v2), (3, .inl v3)]) (st := []) (by decide +kernel) (my_it h (fun h => my_blk_ok (ops := [(.aload_n 1, []), (.iload_n 3, []), (.aload_n 0, []), (.iload_n 3, []), (.iaload, [[1, 583, 24]]), (.iastore, [[1, 544, 24]]), (.iinc 3 1, []), (.goto (-14), []), (.nop, [[2, 0, 1, 2, 3]])]) (pc := 7) (lv := [(0, .inr (.inr (some 583))), (1, .inr (.inr (some 544))), (2, .inl v2), (3, .inl v3)]) (st := []) (by decide +kernel) (⟨rfl, h.elim (fun g h => ⟨g, ⟨rfl, h.elim (fun g h => ⟨g, h⟩)⟩⟩)⟩)) (fun h => my_blk_ok (ops := [(.return_, [])]) (pc := 19) (lv := []) (st := []) (by decide +kernel) (h)))
def yc583_363_0 (e : my_E) (d : Nat) (v2 : Int32) (κ : my_K) (σ : my_S) (Q : my_O → my_K → my_S → Prop) : Prop :=
  my_W e d mp_363 2 [(0, .inr (.inr (some 583))), (1, .inr (.inr (some 544))), (2, .inl v2), (3, .inl 0)] [] κ σ Q
theorem yc583_363_0_ok {e : my_E} {d : Nat} {v2 : Int32} {κ : my_K} {σ : my_S} {Q : my_O → my_K → my_S → Prop}  (h : yc583_363_0 e d v2 κ σ Q) : my_W e d mp_363 0 [(0, .inr (.inr (some 583))), (1, .inr (.inr (some 544))), (2, .inl v2)] [] κ σ Q := by
  unfold yc583_363_0 at h
  exact my_blk_ok (ops := [(.iconst 0, []), (.istore_n 3, []), (.nop, [[2, 0, 1, 2, 3]])]) (pc := 0) (lv := [(0, .inr (.inr (some 583))), (1, .inr (.inr (some 544))), (2, .inl v2)]) (st := []) (by decide +kernel) (h)
theorem yc583_363 {e : my_E} {d : Nat} {v2 : Int32} {κ : my_K} {σ : my_S} {Q : my_O → my_K → my_S → Prop}  (h : yc583_363_0 e d v2 κ σ Q) : my_M e (d + 1) 363 [.inr (.inr (some 583)), .inr (.inr (some 544)), .inl v2] κ σ Q := my_M_at (q := mp_363) rfl rfl (yc583_363_0_ok  h)
def yc545_363_2 (e : my_E) (d : Nat) (v2 : Int32) (v3 : Int32) (κ : my_K) (σ : my_S) (Q : my_O → my_K → my_S → Prop) : Prop :=
  if v3 < v2 then ((my_bd v3 24) ∧ (my_bd v3 24) ∧ my_W e d mp_363 2 [(0, .inr (.inr (some 545))), (1, .inr (.inr (some 584))), (2, .inl v2), (3, .inl (v3 + 1))] [] κ (my_uI σ 584 (v3 : Int32).toNatClampNeg (σ.1 545 (v3 : Int32).toNatClampNeg)) Q) else (Q (.inl none) κ σ)
theorem yc545_363_2_ok {e : my_E} {d : Nat} {v2 : Int32} {v3 : Int32} {κ : my_K} {σ : my_S} {Q : my_O → my_K → my_S → Prop}  (h : yc545_363_2 e d v2 v3 κ σ Q) : my_W e d mp_363 2 [(0, .inr (.inr (some 545))), (1, .inr (.inr (some 584))), (2, .inl v2), (3, .inl v3)] [] κ σ Q := by
  unfold yc545_363_2 at h
  exact my_blk_ok (ops := [(.iload_n 3, []), (.iload_n 2, []), (.if_icmp .ge 15, [[19], [7, 0, 1, 2, 3]])]) (pc := 2) (lv := [(0, .inr (.inr (some 545))), (1, .inr (.inr (some 584))), (2, .inl v2), (3, .inl v3)]) (st := []) (by decide +kernel) (my_it h (fun h => my_blk_ok (ops := [(.aload_n 1, []), (.iload_n 3, []), (.aload_n 0, []), (.iload_n 3, []), (.iaload, [[1, 545, 24]]), (.iastore, [[1, 584, 24]]), (.iinc 3 1, []), (.goto (-14), []), (.nop, [[2, 0, 1, 2, 3]])]) (pc := 7) (lv := [(0, .inr (.inr (some 545))), (1, .inr (.inr (some 584))), (2, .inl v2), (3, .inl v3)]) (st := []) (by decide +kernel) (⟨rfl, h.elim (fun g h => ⟨g, ⟨rfl, h.elim (fun g h => ⟨g, h⟩)⟩⟩)⟩)) (fun h => my_blk_ok (ops := [(.return_, [])]) (pc := 19) (lv := []) (st := []) (by decide +kernel) (h)))
def yc545_363_0 (e : my_E) (d : Nat) (v2 : Int32) (κ : my_K) (σ : my_S) (Q : my_O → my_K → my_S → Prop) : Prop :=
  my_W e d mp_363 2 [(0, .inr (.inr (some 545))), (1, .inr (.inr (some 584))), (2, .inl v2), (3, .inl 0)] [] κ σ Q
theorem yc545_363_0_ok {e : my_E} {d : Nat} {v2 : Int32} {κ : my_K} {σ : my_S} {Q : my_O → my_K → my_S → Prop}  (h : yc545_363_0 e d v2 κ σ Q) : my_W e d mp_363 0 [(0, .inr (.inr (some 545))), (1, .inr (.inr (some 584))), (2, .inl v2)] [] κ σ Q := by
  unfold yc545_363_0 at h
  exact my_blk_ok (ops := [(.iconst 0, []), (.istore_n 3, []), (.nop, [[2, 0, 1, 2, 3]])]) (pc := 0) (lv := [(0, .inr (.inr (some 545))), (1, .inr (.inr (some 584))), (2, .inl v2)]) (st := []) (by decide +kernel) (h)
theorem yc545_363 {e : my_E} {d : Nat} {v2 : Int32} {κ : my_K} {σ : my_S} {Q : my_O → my_K → my_S → Prop}  (h : yc545_363_0 e d v2 κ σ Q) : my_M e (d + 1) 363 [.inr (.inr (some 545)), .inr (.inr (some 584)), .inl v2] κ σ Q := my_M_at (q := mp_363) rfl rfl (yc545_363_0_ok  h)
def yc584_363_2 (e : my_E) (d : Nat) (v2 : Int32) (v3 : Int32) (κ : my_K) (σ : my_S) (Q : my_O → my_K → my_S → Prop) : Prop :=
  if v3 < v2 then ((my_bd v3 24) ∧ (my_bd v3 24) ∧ my_W e d mp_363 2 [(0, .inr (.inr (some 584))), (1, .inr (.inr (some 545))), (2, .inl v2), (3, .inl (v3 + 1))] [] κ (my_uI σ 545 (v3 : Int32).toNatClampNeg (σ.1 584 (v3 : Int32).toNatClampNeg)) Q) else (Q (.inl none) κ σ)
theorem yc584_363_2_ok {e : my_E} {d : Nat} {v2 : Int32} {v3 : Int32} {κ : my_K} {σ : my_S} {Q : my_O → my_K → my_S → Prop}  (h : yc584_363_2 e d v2 v3 κ σ Q) : my_W e d mp_363 2 [(0, .inr (.inr (some 584))), (1, .inr (.inr (some 545))), (2, .inl v2), (3, .inl v3)] [] κ σ Q := by
  unfold yc584_363_2 at h
  exact my_blk_ok (ops := [(.iload_n 3, []), (.iload_n 2, []), (.if_icmp .ge 15, [[19], [7, 0, 1, 2, 3]])]) (pc := 2) (lv := [(0, .inr (.inr (some 584))), (1, .inr (.inr (some 545))), (2, .inl v2), (3, .inl v3)]) (st := []) (by decide +kernel) (my_it h (fun h => my_blk_ok (ops := [(.aload_n 1, []), (.iload_n 3, []), (.aload_n 0, []), (.iload_n 3, []), (.iaload, [[1, 584, 24]]), (.iastore, [[1, 545, 24]]), (.iinc 3 1, []), (.goto (-14), []), (.nop, [[2, 0, 1, 2, 3]])]) (pc := 7) (lv := [(0, .inr (.inr (some 584))), (1, .inr (.inr (some 545))), (2, .inl v2), (3, .inl v3)]) (st := []) (by decide +kernel) (⟨rfl, h.elim (fun g h => ⟨g, ⟨rfl, h.elim (fun g h => ⟨g, h⟩)⟩⟩)⟩)) (fun h => my_blk_ok (ops := [(.return_, [])]) (pc := 19) (lv := []) (st := []) (by decide +kernel) (h)))
def yc584_363_0 (e : my_E) (d : Nat) (v2 : Int32) (κ : my_K) (σ : my_S) (Q : my_O → my_K → my_S → Prop) : Prop :=
  my_W e d mp_363 2 [(0, .inr (.inr (some 584))), (1, .inr (.inr (some 545))), (2, .inl v2), (3, .inl 0)] [] κ σ Q
theorem yc584_363_0_ok {e : my_E} {d : Nat} {v2 : Int32} {κ : my_K} {σ : my_S} {Q : my_O → my_K → my_S → Prop}  (h : yc584_363_0 e d v2 κ σ Q) : my_W e d mp_363 0 [(0, .inr (.inr (some 584))), (1, .inr (.inr (some 545))), (2, .inl v2)] [] κ σ Q := by
  unfold yc584_363_0 at h
  exact my_blk_ok (ops := [(.iconst 0, []), (.istore_n 3, []), (.nop, [[2, 0, 1, 2, 3]])]) (pc := 0) (lv := [(0, .inr (.inr (some 584))), (1, .inr (.inr (some 545))), (2, .inl v2)]) (st := []) (by decide +kernel) (h)
theorem yc584_363 {e : my_E} {d : Nat} {v2 : Int32} {κ : my_K} {σ : my_S} {Q : my_O → my_K → my_S → Prop}  (h : yc584_363_0 e d v2 κ σ Q) : my_M e (d + 1) 363 [.inr (.inr (some 584)), .inr (.inr (some 545)), .inl v2] κ σ Q := my_M_at (q := mp_363) rfl rfl (yc584_363_0_ok  h)
section MCY
variable {e : my_E} {d : Nat} {κ : my_K} {σ : my_S} {Q : my_O → my_K → my_S → Prop}
theorem cp_538 {n : Nat} (hn : n ≤ 48) (hd : 1 ≤ d) (hQ : ∀ σ', (∀ i, i < n → σ'.1 577 i = σ.1 538 i) → eqp (fun c q => c = 577 ∧ q < n) σ σ' → Q (.inl none) κ σ') : my_M e d 363 [.inr (.inr (some 538)), .inr (.inr (some 577)), .inl (Int32.ofNat n)] κ σ Q := by
  obtain ⟨d, rfl⟩ := dS 1 hd
  refine yc538_363 ?_
  unfold yc538_363_0
  have l : ∀ (m i : Nat) (σ1 : my_S), i + m = n → (∀ u, u < i → σ1.1 577 u = σ.1 538 u) → eqp (fun c q => c = 577 ∧ q < n) σ σ1 → yc538_363_2 e d (Int32.ofNat n) (Int32.ofNat i) κ σ1 Q := by
    intro m
    induction m with
    | zero =>
      intro i σ1 hi h f
      have : i = n := by omega
      subst this
      unfold yc538_363_2
      rw [if_neg (by rw [oN_lt (by omega) (by omega)]; omega)]
      exact hQ σ1 h f
    | succ m ih =>
      intro i σ1 hi h f
      unfold yc538_363_2
      rw [if_pos ((oN_lt (by omega) (by omega)).mpr (by omega)), oN_n (by omega), oN_s]
      refine ⟨bdk (by omega) (by omega), bdk (by omega) (by omega), yc538_363_2_ok (ih (i + 1) _ (by omega) (fun u hu => ?_) (eqp_I f ⟨rfl, by omega⟩))⟩
      rw [my_uI_1]
      by_cases c : u = i
      · rw [if_pos ⟨rfl, c⟩, c]; exact eqp_g f (by omega)
      · rw [if_neg (by omega)]; exact h u (by omega)
  exact yc538_363_2_ok (l n 0 σ (by omega) (fun u hu => by omega) eqp_rf)
theorem cp_577 {n : Nat} (hn : n ≤ 48) (hd : 1 ≤ d) (hQ : ∀ σ', (∀ i, i < n → σ'.1 538 i = σ.1 577 i) → eqp (fun c q => c = 538 ∧ q < n) σ σ' → Q (.inl none) κ σ') : my_M e d 363 [.inr (.inr (some 577)), .inr (.inr (some 538)), .inl (Int32.ofNat n)] κ σ Q := by
  obtain ⟨d, rfl⟩ := dS 1 hd
  refine yc577_363 ?_
  unfold yc577_363_0
  have l : ∀ (m i : Nat) (σ1 : my_S), i + m = n → (∀ u, u < i → σ1.1 538 u = σ.1 577 u) → eqp (fun c q => c = 538 ∧ q < n) σ σ1 → yc577_363_2 e d (Int32.ofNat n) (Int32.ofNat i) κ σ1 Q := by
    intro m
    induction m with
    | zero =>
      intro i σ1 hi h f
      have : i = n := by omega
      subst this
      unfold yc577_363_2
      rw [if_neg (by rw [oN_lt (by omega) (by omega)]; omega)]
      exact hQ σ1 h f
    | succ m ih =>
      intro i σ1 hi h f
      unfold yc577_363_2
      rw [if_pos ((oN_lt (by omega) (by omega)).mpr (by omega)), oN_n (by omega), oN_s]
      refine ⟨bdk (by omega) (by omega), bdk (by omega) (by omega), yc577_363_2_ok (ih (i + 1) _ (by omega) (fun u hu => ?_) (eqp_I f ⟨rfl, by omega⟩))⟩
      rw [my_uI_1]
      by_cases c : u = i
      · rw [if_pos ⟨rfl, c⟩, c]; exact eqp_g f (by omega)
      · rw [if_neg (by omega)]; exact h u (by omega)
  exact yc577_363_2_ok (l n 0 σ (by omega) (fun u hu => by omega) eqp_rf)
theorem cp_539 {n : Nat} (hn : n ≤ 1536) (hd : 1 ≤ d) (hQ : ∀ σ', (∀ i, i < n → σ'.1 578 i = σ.1 539 i) → eqp (fun c q => c = 578 ∧ q < n) σ σ' → Q (.inl none) κ σ') : my_M e d 363 [.inr (.inr (some 539)), .inr (.inr (some 578)), .inl (Int32.ofNat n)] κ σ Q := by
  obtain ⟨d, rfl⟩ := dS 1 hd
  refine yc539_363 ?_
  unfold yc539_363_0
  have l : ∀ (m i : Nat) (σ1 : my_S), i + m = n → (∀ u, u < i → σ1.1 578 u = σ.1 539 u) → eqp (fun c q => c = 578 ∧ q < n) σ σ1 → yc539_363_2 e d (Int32.ofNat n) (Int32.ofNat i) κ σ1 Q := by
    intro m
    induction m with
    | zero =>
      intro i σ1 hi h f
      have : i = n := by omega
      subst this
      unfold yc539_363_2
      rw [if_neg (by rw [oN_lt (by omega) (by omega)]; omega)]
      exact hQ σ1 h f
    | succ m ih =>
      intro i σ1 hi h f
      unfold yc539_363_2
      rw [if_pos ((oN_lt (by omega) (by omega)).mpr (by omega)), oN_n (by omega), oN_s]
      refine ⟨bdk (by omega) (by omega), bdk (by omega) (by omega), yc539_363_2_ok (ih (i + 1) _ (by omega) (fun u hu => ?_) (eqp_I f ⟨rfl, by omega⟩))⟩
      rw [my_uI_1]
      by_cases c : u = i
      · rw [if_pos ⟨rfl, c⟩, c]; exact eqp_g f (by omega)
      · rw [if_neg (by omega)]; exact h u (by omega)
  exact yc539_363_2_ok (l n 0 σ (by omega) (fun u hu => by omega) eqp_rf)
theorem cp_578 {n : Nat} (hn : n ≤ 1536) (hd : 1 ≤ d) (hQ : ∀ σ', (∀ i, i < n → σ'.1 539 i = σ.1 578 i) → eqp (fun c q => c = 539 ∧ q < n) σ σ' → Q (.inl none) κ σ') : my_M e d 363 [.inr (.inr (some 578)), .inr (.inr (some 539)), .inl (Int32.ofNat n)] κ σ Q := by
  obtain ⟨d, rfl⟩ := dS 1 hd
  refine yc578_363 ?_
  unfold yc578_363_0
  have l : ∀ (m i : Nat) (σ1 : my_S), i + m = n → (∀ u, u < i → σ1.1 539 u = σ.1 578 u) → eqp (fun c q => c = 539 ∧ q < n) σ σ1 → yc578_363_2 e d (Int32.ofNat n) (Int32.ofNat i) κ σ1 Q := by
    intro m
    induction m with
    | zero =>
      intro i σ1 hi h f
      have : i = n := by omega
      subst this
      unfold yc578_363_2
      rw [if_neg (by rw [oN_lt (by omega) (by omega)]; omega)]
      exact hQ σ1 h f
    | succ m ih =>
      intro i σ1 hi h f
      unfold yc578_363_2
      rw [if_pos ((oN_lt (by omega) (by omega)).mpr (by omega)), oN_n (by omega), oN_s]
      refine ⟨bdk (by omega) (by omega), bdk (by omega) (by omega), yc578_363_2_ok (ih (i + 1) _ (by omega) (fun u hu => ?_) (eqp_I f ⟨rfl, by omega⟩))⟩
      rw [my_uI_1]
      by_cases c : u = i
      · rw [if_pos ⟨rfl, c⟩, c]; exact eqp_g f (by omega)
      · rw [if_neg (by omega)]; exact h u (by omega)
  exact yc578_363_2_ok (l n 0 σ (by omega) (fun u hu => by omega) eqp_rf)
theorem cp_541 {n : Nat} (hn : n ≤ 8000) (hd : 1 ≤ d) (hQ : ∀ σ', (∀ i, i < n → σ'.1 580 i = σ.1 541 i) → eqp (fun c q => c = 580 ∧ q < n) σ σ' → Q (.inl none) κ σ') : my_M e d 363 [.inr (.inr (some 541)), .inr (.inr (some 580)), .inl (Int32.ofNat n)] κ σ Q := by
  obtain ⟨d, rfl⟩ := dS 1 hd
  refine yc541_363 ?_
  unfold yc541_363_0
  have l : ∀ (m i : Nat) (σ1 : my_S), i + m = n → (∀ u, u < i → σ1.1 580 u = σ.1 541 u) → eqp (fun c q => c = 580 ∧ q < n) σ σ1 → yc541_363_2 e d (Int32.ofNat n) (Int32.ofNat i) κ σ1 Q := by
    intro m
    induction m with
    | zero =>
      intro i σ1 hi h f
      have : i = n := by omega
      subst this
      unfold yc541_363_2
      rw [if_neg (by rw [oN_lt (by omega) (by omega)]; omega)]
      exact hQ σ1 h f
    | succ m ih =>
      intro i σ1 hi h f
      unfold yc541_363_2
      rw [if_pos ((oN_lt (by omega) (by omega)).mpr (by omega)), oN_n (by omega), oN_s]
      refine ⟨bdk (by omega) (by omega), bdk (by omega) (by omega), yc541_363_2_ok (ih (i + 1) _ (by omega) (fun u hu => ?_) (eqp_I f ⟨rfl, by omega⟩))⟩
      rw [my_uI_1]
      by_cases c : u = i
      · rw [if_pos ⟨rfl, c⟩, c]; exact eqp_g f (by omega)
      · rw [if_neg (by omega)]; exact h u (by omega)
  exact yc541_363_2_ok (l n 0 σ (by omega) (fun u hu => by omega) eqp_rf)
theorem cp_580 {n : Nat} (hn : n ≤ 8000) (hd : 1 ≤ d) (hQ : ∀ σ', (∀ i, i < n → σ'.1 541 i = σ.1 580 i) → eqp (fun c q => c = 541 ∧ q < n) σ σ' → Q (.inl none) κ σ') : my_M e d 363 [.inr (.inr (some 580)), .inr (.inr (some 541)), .inl (Int32.ofNat n)] κ σ Q := by
  obtain ⟨d, rfl⟩ := dS 1 hd
  refine yc580_363 ?_
  unfold yc580_363_0
  have l : ∀ (m i : Nat) (σ1 : my_S), i + m = n → (∀ u, u < i → σ1.1 541 u = σ.1 580 u) → eqp (fun c q => c = 541 ∧ q < n) σ σ1 → yc580_363_2 e d (Int32.ofNat n) (Int32.ofNat i) κ σ1 Q := by
    intro m
    induction m with
    | zero =>
      intro i σ1 hi h f
      have : i = n := by omega
      subst this
      unfold yc580_363_2
      rw [if_neg (by rw [oN_lt (by omega) (by omega)]; omega)]
      exact hQ σ1 h f
    | succ m ih =>
      intro i σ1 hi h f
      unfold yc580_363_2
      rw [if_pos ((oN_lt (by omega) (by omega)).mpr (by omega)), oN_n (by omega), oN_s]
      refine ⟨bdk (by omega) (by omega), bdk (by omega) (by omega), yc580_363_2_ok (ih (i + 1) _ (by omega) (fun u hu => ?_) (eqp_I f ⟨rfl, by omega⟩))⟩
      rw [my_uI_1]
      by_cases c : u = i
      · rw [if_pos ⟨rfl, c⟩, c]; exact eqp_g f (by omega)
      · rw [if_neg (by omega)]; exact h u (by omega)
  exact yc580_363_2_ok (l n 0 σ (by omega) (fun u hu => by omega) eqp_rf)
theorem cp_542 {n : Nat} (hn : n ≤ 220) (hd : 1 ≤ d) (hQ : ∀ σ', (∀ i, i < n → σ'.1 581 i = σ.1 542 i) → eqp (fun c q => c = 581 ∧ q < n) σ σ' → Q (.inl none) κ σ') : my_M e d 363 [.inr (.inr (some 542)), .inr (.inr (some 581)), .inl (Int32.ofNat n)] κ σ Q := by
  obtain ⟨d, rfl⟩ := dS 1 hd
  refine yc542_363 ?_
  unfold yc542_363_0
  have l : ∀ (m i : Nat) (σ1 : my_S), i + m = n → (∀ u, u < i → σ1.1 581 u = σ.1 542 u) → eqp (fun c q => c = 581 ∧ q < n) σ σ1 → yc542_363_2 e d (Int32.ofNat n) (Int32.ofNat i) κ σ1 Q := by
    intro m
    induction m with
    | zero =>
      intro i σ1 hi h f
      have : i = n := by omega
      subst this
      unfold yc542_363_2
      rw [if_neg (by rw [oN_lt (by omega) (by omega)]; omega)]
      exact hQ σ1 h f
    | succ m ih =>
      intro i σ1 hi h f
      unfold yc542_363_2
      rw [if_pos ((oN_lt (by omega) (by omega)).mpr (by omega)), oN_n (by omega), oN_s]
      refine ⟨bdk (by omega) (by omega), bdk (by omega) (by omega), yc542_363_2_ok (ih (i + 1) _ (by omega) (fun u hu => ?_) (eqp_I f ⟨rfl, by omega⟩))⟩
      rw [my_uI_1]
      by_cases c : u = i
      · rw [if_pos ⟨rfl, c⟩, c]; exact eqp_g f (by omega)
      · rw [if_neg (by omega)]; exact h u (by omega)
  exact yc542_363_2_ok (l n 0 σ (by omega) (fun u hu => by omega) eqp_rf)
theorem cp_581 {n : Nat} (hn : n ≤ 220) (hd : 1 ≤ d) (hQ : ∀ σ', (∀ i, i < n → σ'.1 542 i = σ.1 581 i) → eqp (fun c q => c = 542 ∧ q < n) σ σ' → Q (.inl none) κ σ') : my_M e d 363 [.inr (.inr (some 581)), .inr (.inr (some 542)), .inl (Int32.ofNat n)] κ σ Q := by
  obtain ⟨d, rfl⟩ := dS 1 hd
  refine yc581_363 ?_
  unfold yc581_363_0
  have l : ∀ (m i : Nat) (σ1 : my_S), i + m = n → (∀ u, u < i → σ1.1 542 u = σ.1 581 u) → eqp (fun c q => c = 542 ∧ q < n) σ σ1 → yc581_363_2 e d (Int32.ofNat n) (Int32.ofNat i) κ σ1 Q := by
    intro m
    induction m with
    | zero =>
      intro i σ1 hi h f
      have : i = n := by omega
      subst this
      unfold yc581_363_2
      rw [if_neg (by rw [oN_lt (by omega) (by omega)]; omega)]
      exact hQ σ1 h f
    | succ m ih =>
      intro i σ1 hi h f
      unfold yc581_363_2
      rw [if_pos ((oN_lt (by omega) (by omega)).mpr (by omega)), oN_n (by omega), oN_s]
      refine ⟨bdk (by omega) (by omega), bdk (by omega) (by omega), yc581_363_2_ok (ih (i + 1) _ (by omega) (fun u hu => ?_) (eqp_I f ⟨rfl, by omega⟩))⟩
      rw [my_uI_1]
      by_cases c : u = i
      · rw [if_pos ⟨rfl, c⟩, c]; exact eqp_g f (by omega)
      · rw [if_neg (by omega)]; exact h u (by omega)
  exact yc581_363_2_ok (l n 0 σ (by omega) (fun u hu => by omega) eqp_rf)
theorem cp_543 {n : Nat} (hn : n ≤ 24) (hd : 1 ≤ d) (hQ : ∀ σ', (∀ i, i < n → σ'.1 582 i = σ.1 543 i) → eqp (fun c q => c = 582 ∧ q < n) σ σ' → Q (.inl none) κ σ') : my_M e d 363 [.inr (.inr (some 543)), .inr (.inr (some 582)), .inl (Int32.ofNat n)] κ σ Q := by
  obtain ⟨d, rfl⟩ := dS 1 hd
  refine yc543_363 ?_
  unfold yc543_363_0
  have l : ∀ (m i : Nat) (σ1 : my_S), i + m = n → (∀ u, u < i → σ1.1 582 u = σ.1 543 u) → eqp (fun c q => c = 582 ∧ q < n) σ σ1 → yc543_363_2 e d (Int32.ofNat n) (Int32.ofNat i) κ σ1 Q := by
    intro m
    induction m with
    | zero =>
      intro i σ1 hi h f
      have : i = n := by omega
      subst this
      unfold yc543_363_2
      rw [if_neg (by rw [oN_lt (by omega) (by omega)]; omega)]
      exact hQ σ1 h f
    | succ m ih =>
      intro i σ1 hi h f
      unfold yc543_363_2
      rw [if_pos ((oN_lt (by omega) (by omega)).mpr (by omega)), oN_n (by omega), oN_s]
      refine ⟨bdk (by omega) (by omega), bdk (by omega) (by omega), yc543_363_2_ok (ih (i + 1) _ (by omega) (fun u hu => ?_) (eqp_I f ⟨rfl, by omega⟩))⟩
      rw [my_uI_1]
      by_cases c : u = i
      · rw [if_pos ⟨rfl, c⟩, c]; exact eqp_g f (by omega)
      · rw [if_neg (by omega)]; exact h u (by omega)
  exact yc543_363_2_ok (l n 0 σ (by omega) (fun u hu => by omega) eqp_rf)
theorem cp_582 {n : Nat} (hn : n ≤ 24) (hd : 1 ≤ d) (hQ : ∀ σ', (∀ i, i < n → σ'.1 543 i = σ.1 582 i) → eqp (fun c q => c = 543 ∧ q < n) σ σ' → Q (.inl none) κ σ') : my_M e d 363 [.inr (.inr (some 582)), .inr (.inr (some 543)), .inl (Int32.ofNat n)] κ σ Q := by
  obtain ⟨d, rfl⟩ := dS 1 hd
  refine yc582_363 ?_
  unfold yc582_363_0
  have l : ∀ (m i : Nat) (σ1 : my_S), i + m = n → (∀ u, u < i → σ1.1 543 u = σ.1 582 u) → eqp (fun c q => c = 543 ∧ q < n) σ σ1 → yc582_363_2 e d (Int32.ofNat n) (Int32.ofNat i) κ σ1 Q := by
    intro m
    induction m with
    | zero =>
      intro i σ1 hi h f
      have : i = n := by omega
      subst this
      unfold yc582_363_2
      rw [if_neg (by rw [oN_lt (by omega) (by omega)]; omega)]
      exact hQ σ1 h f
    | succ m ih =>
      intro i σ1 hi h f
      unfold yc582_363_2
      rw [if_pos ((oN_lt (by omega) (by omega)).mpr (by omega)), oN_n (by omega), oN_s]
      refine ⟨bdk (by omega) (by omega), bdk (by omega) (by omega), yc582_363_2_ok (ih (i + 1) _ (by omega) (fun u hu => ?_) (eqp_I f ⟨rfl, by omega⟩))⟩
      rw [my_uI_1]
      by_cases c : u = i
      · rw [if_pos ⟨rfl, c⟩, c]; exact eqp_g f (by omega)
      · rw [if_neg (by omega)]; exact h u (by omega)
  exact yc582_363_2_ok (l n 0 σ (by omega) (fun u hu => by omega) eqp_rf)
theorem cp_544 {n : Nat} (hn : n ≤ 24) (hd : 1 ≤ d) (hQ : ∀ σ', (∀ i, i < n → σ'.1 583 i = σ.1 544 i) → eqp (fun c q => c = 583 ∧ q < n) σ σ' → Q (.inl none) κ σ') : my_M e d 363 [.inr (.inr (some 544)), .inr (.inr (some 583)), .inl (Int32.ofNat n)] κ σ Q := by
  obtain ⟨d, rfl⟩ := dS 1 hd
  refine yc544_363 ?_
  unfold yc544_363_0
  have l : ∀ (m i : Nat) (σ1 : my_S), i + m = n → (∀ u, u < i → σ1.1 583 u = σ.1 544 u) → eqp (fun c q => c = 583 ∧ q < n) σ σ1 → yc544_363_2 e d (Int32.ofNat n) (Int32.ofNat i) κ σ1 Q := by
    intro m
    induction m with
    | zero =>
      intro i σ1 hi h f
      have : i = n := by omega
      subst this
      unfold yc544_363_2
      rw [if_neg (by rw [oN_lt (by omega) (by omega)]; omega)]
      exact hQ σ1 h f
    | succ m ih =>
      intro i σ1 hi h f
      unfold yc544_363_2
      rw [if_pos ((oN_lt (by omega) (by omega)).mpr (by omega)), oN_n (by omega), oN_s]
      refine ⟨bdk (by omega) (by omega), bdk (by omega) (by omega), yc544_363_2_ok (ih (i + 1) _ (by omega) (fun u hu => ?_) (eqp_I f ⟨rfl, by omega⟩))⟩
      rw [my_uI_1]
      by_cases c : u = i
      · rw [if_pos ⟨rfl, c⟩, c]; exact eqp_g f (by omega)
      · rw [if_neg (by omega)]; exact h u (by omega)
  exact yc544_363_2_ok (l n 0 σ (by omega) (fun u hu => by omega) eqp_rf)
theorem cp_583 {n : Nat} (hn : n ≤ 24) (hd : 1 ≤ d) (hQ : ∀ σ', (∀ i, i < n → σ'.1 544 i = σ.1 583 i) → eqp (fun c q => c = 544 ∧ q < n) σ σ' → Q (.inl none) κ σ') : my_M e d 363 [.inr (.inr (some 583)), .inr (.inr (some 544)), .inl (Int32.ofNat n)] κ σ Q := by
  obtain ⟨d, rfl⟩ := dS 1 hd
  refine yc583_363 ?_
  unfold yc583_363_0
  have l : ∀ (m i : Nat) (σ1 : my_S), i + m = n → (∀ u, u < i → σ1.1 544 u = σ.1 583 u) → eqp (fun c q => c = 544 ∧ q < n) σ σ1 → yc583_363_2 e d (Int32.ofNat n) (Int32.ofNat i) κ σ1 Q := by
    intro m
    induction m with
    | zero =>
      intro i σ1 hi h f
      have : i = n := by omega
      subst this
      unfold yc583_363_2
      rw [if_neg (by rw [oN_lt (by omega) (by omega)]; omega)]
      exact hQ σ1 h f
    | succ m ih =>
      intro i σ1 hi h f
      unfold yc583_363_2
      rw [if_pos ((oN_lt (by omega) (by omega)).mpr (by omega)), oN_n (by omega), oN_s]
      refine ⟨bdk (by omega) (by omega), bdk (by omega) (by omega), yc583_363_2_ok (ih (i + 1) _ (by omega) (fun u hu => ?_) (eqp_I f ⟨rfl, by omega⟩))⟩
      rw [my_uI_1]
      by_cases c : u = i
      · rw [if_pos ⟨rfl, c⟩, c]; exact eqp_g f (by omega)
      · rw [if_neg (by omega)]; exact h u (by omega)
  exact yc583_363_2_ok (l n 0 σ (by omega) (fun u hu => by omega) eqp_rf)
theorem cp_545 {n : Nat} (hn : n ≤ 24) (hd : 1 ≤ d) (hQ : ∀ σ', (∀ i, i < n → σ'.1 584 i = σ.1 545 i) → eqp (fun c q => c = 584 ∧ q < n) σ σ' → Q (.inl none) κ σ') : my_M e d 363 [.inr (.inr (some 545)), .inr (.inr (some 584)), .inl (Int32.ofNat n)] κ σ Q := by
  obtain ⟨d, rfl⟩ := dS 1 hd
  refine yc545_363 ?_
  unfold yc545_363_0
  have l : ∀ (m i : Nat) (σ1 : my_S), i + m = n → (∀ u, u < i → σ1.1 584 u = σ.1 545 u) → eqp (fun c q => c = 584 ∧ q < n) σ σ1 → yc545_363_2 e d (Int32.ofNat n) (Int32.ofNat i) κ σ1 Q := by
    intro m
    induction m with
    | zero =>
      intro i σ1 hi h f
      have : i = n := by omega
      subst this
      unfold yc545_363_2
      rw [if_neg (by rw [oN_lt (by omega) (by omega)]; omega)]
      exact hQ σ1 h f
    | succ m ih =>
      intro i σ1 hi h f
      unfold yc545_363_2
      rw [if_pos ((oN_lt (by omega) (by omega)).mpr (by omega)), oN_n (by omega), oN_s]
      refine ⟨bdk (by omega) (by omega), bdk (by omega) (by omega), yc545_363_2_ok (ih (i + 1) _ (by omega) (fun u hu => ?_) (eqp_I f ⟨rfl, by omega⟩))⟩
      rw [my_uI_1]
      by_cases c : u = i
      · rw [if_pos ⟨rfl, c⟩, c]; exact eqp_g f (by omega)
      · rw [if_neg (by omega)]; exact h u (by omega)
  exact yc545_363_2_ok (l n 0 σ (by omega) (fun u hu => by omega) eqp_rf)
theorem cp_584 {n : Nat} (hn : n ≤ 24) (hd : 1 ≤ d) (hQ : ∀ σ', (∀ i, i < n → σ'.1 545 i = σ.1 584 i) → eqp (fun c q => c = 545 ∧ q < n) σ σ' → Q (.inl none) κ σ') : my_M e d 363 [.inr (.inr (some 584)), .inr (.inr (some 545)), .inl (Int32.ofNat n)] κ σ Q := by
  obtain ⟨d, rfl⟩ := dS 1 hd
  refine yc584_363 ?_
  unfold yc584_363_0
  have l : ∀ (m i : Nat) (σ1 : my_S), i + m = n → (∀ u, u < i → σ1.1 545 u = σ.1 584 u) → eqp (fun c q => c = 545 ∧ q < n) σ σ1 → yc584_363_2 e d (Int32.ofNat n) (Int32.ofNat i) κ σ1 Q := by
    intro m
    induction m with
    | zero =>
      intro i σ1 hi h f
      have : i = n := by omega
      subst this
      unfold yc584_363_2
      rw [if_neg (by rw [oN_lt (by omega) (by omega)]; omega)]
      exact hQ σ1 h f
    | succ m ih =>
      intro i σ1 hi h f
      unfold yc584_363_2
      rw [if_pos ((oN_lt (by omega) (by omega)).mpr (by omega)), oN_n (by omega), oN_s]
      refine ⟨bdk (by omega) (by omega), bdk (by omega) (by omega), yc584_363_2_ok (ih (i + 1) _ (by omega) (fun u hu => ?_) (eqp_I f ⟨rfl, by omega⟩))⟩
      rw [my_uI_1]
      by_cases c : u = i
      · rw [if_pos ⟨rfl, c⟩, c]; exact eqp_g f (by omega)
      · rw [if_neg (by omega)]; exact h u (by omega)
  exact yc584_363_2_ok (l n 0 σ (by omega) (fun u hu => by omega) eqp_rf)
end MCY
