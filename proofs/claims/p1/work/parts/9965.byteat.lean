/-! ===== byteAt at each of the byte arrays ===== -/
def yb34_3_21 (e : my_E) (d : Nat) (t0 : Int32) (κ : my_K) (σ : my_S) (Q : my_O → my_K → my_S → Prop) : Prop :=
  Q (.inl (some (.inl t0))) κ σ
theorem yb34_3_21_ok {e : my_E} {d : Nat} {t0 : Int32} {κ : my_K} {σ : my_S} {Q : my_O → my_K → my_S → Prop}  (h : yb34_3_21 e d t0 κ σ Q) : my_W e d mp_3 21 [] [.inl t0] κ σ Q := by
  unfold yb34_3_21 at h
  exact my_blk_ok (ops := [(.ireturn, [[0]])]) (pc := 21) (lv := []) (st := [.inl t0]) (by decide +kernel) (h)
def yb34_3_10 (e : my_E) (d : Nat)  (κ : my_K) (σ : my_S) (Q : my_O → my_K → my_S → Prop) : Prop :=
  yb34_3_21 e d 0 κ σ Q
theorem yb34_3_10_ok {e : my_E} {d : Nat}  {κ : my_K} {σ : my_S} {Q : my_O → my_K → my_S → Prop}  (h : yb34_3_10 e d  κ σ Q) : my_W e d mp_3 10 [] [] κ σ Q := by
  unfold yb34_3_10 at h
  exact my_blk_ok (ops := [(.iconst 0, []), (.goto 10, []), (.nop, [[21]])]) (pc := 10) (lv := []) (st := []) (by decide +kernel) (yb34_3_21_ok  h)
def yb34_3_0 (e : my_E) (d : Nat) (v1 : Int32) (κ : my_K) (σ : my_S) (Q : my_O → my_K → my_S → Prop) : Prop :=
  if v1 < 0 then (yb34_3_10 e d  κ σ Q) else (if v1 < 1500 then ((my_bd v1 1500) ∧ yb34_3_21 e d ((σ.1 34 (v1 : Int32).toNatClampNeg) &&& 255) κ σ Q) else (yb34_3_10 e d  κ σ Q))
theorem yb34_3_0_ok {e : my_E} {d : Nat} {v1 : Int32} {κ : my_K} {σ : my_S} {Q : my_O → my_K → my_S → Prop}  (h : yb34_3_0 e d v1 κ σ Q) : my_W e d mp_3 0 [(0, .inr (.inr (some 34))), (1, .inl v1)] [] κ σ Q := by
  unfold yb34_3_0 at h
  exact my_blk_ok (ops := [(.iload_n 1, []), (.ifCond .lt 9, [[10], [4, 0, 1]])]) (pc := 0) (lv := [(0, .inr (.inr (some 34))), (1, .inl v1)]) (st := []) (by decide +kernel) (my_it h (fun h => yb34_3_10_ok  h) (fun h => my_blk_ok (ops := [(.iload_n 1, []), (.aload_n 0, []), (.arraylength, [[1, 34, 1, 1500]]), (.if_icmp .lt 7, [[14, 0, 1], [10]])]) (pc := 4) (lv := [(0, .inr (.inr (some 34))), (1, .inl v1)]) (st := []) (by decide +kernel) (⟨rfl, my_it h (fun h => my_blk_ok (ops := [(.aload_n 0, []), (.iload_n 1, []), (.baload, [[1, 34, 1, 1500]]), (.sipush 255, []), (.iand, []), (.nop, [[21]])]) (pc := 14) (lv := [(0, .inr (.inr (some 34))), (1, .inl v1)]) (st := []) (by decide +kernel) (⟨rfl, h.elim (fun g h => ⟨g, yb34_3_21_ok  h⟩)⟩)) (fun h => yb34_3_10_ok  h)⟩)))
theorem yb34_3 {e : my_E} {d : Nat} {v1 : Int32} {κ : my_K} {σ : my_S} {Q : my_O → my_K → my_S → Prop}  (h : yb34_3_0 e d v1 κ σ Q) : my_M e (d + 1) 3 [.inr (.inr (some 34)), .inl v1] κ σ Q := my_M_at (q := mp_3) rfl rfl (yb34_3_0_ok  h)

def yb90_3_21 (e : my_E) (d : Nat) (t0 : Int32) (κ : my_K) (σ : my_S) (Q : my_O → my_K → my_S → Prop) : Prop :=
  Q (.inl (some (.inl t0))) κ σ
theorem yb90_3_21_ok {e : my_E} {d : Nat} {t0 : Int32} {κ : my_K} {σ : my_S} {Q : my_O → my_K → my_S → Prop}  (h : yb90_3_21 e d t0 κ σ Q) : my_W e d mp_3 21 [] [.inl t0] κ σ Q := by
  unfold yb90_3_21 at h
  exact my_blk_ok (ops := [(.ireturn, [[0]])]) (pc := 21) (lv := []) (st := [.inl t0]) (by decide +kernel) (h)
def yb90_3_10 (e : my_E) (d : Nat)  (κ : my_K) (σ : my_S) (Q : my_O → my_K → my_S → Prop) : Prop :=
  yb90_3_21 e d 0 κ σ Q
theorem yb90_3_10_ok {e : my_E} {d : Nat}  {κ : my_K} {σ : my_S} {Q : my_O → my_K → my_S → Prop}  (h : yb90_3_10 e d  κ σ Q) : my_W e d mp_3 10 [] [] κ σ Q := by
  unfold yb90_3_10 at h
  exact my_blk_ok (ops := [(.iconst 0, []), (.goto 10, []), (.nop, [[21]])]) (pc := 10) (lv := []) (st := []) (by decide +kernel) (yb90_3_21_ok  h)
def yb90_3_0 (e : my_E) (d : Nat) (v1 : Int32) (κ : my_K) (σ : my_S) (Q : my_O → my_K → my_S → Prop) : Prop :=
  if v1 < 0 then (yb90_3_10 e d  κ σ Q) else (if v1 < 16384 then ((my_bd v1 16384) ∧ yb90_3_21 e d ((σ.1 90 (v1 : Int32).toNatClampNeg) &&& 255) κ σ Q) else (yb90_3_10 e d  κ σ Q))
theorem yb90_3_0_ok {e : my_E} {d : Nat} {v1 : Int32} {κ : my_K} {σ : my_S} {Q : my_O → my_K → my_S → Prop}  (h : yb90_3_0 e d v1 κ σ Q) : my_W e d mp_3 0 [(0, .inr (.inr (some 90))), (1, .inl v1)] [] κ σ Q := by
  unfold yb90_3_0 at h
  exact my_blk_ok (ops := [(.iload_n 1, []), (.ifCond .lt 9, [[10], [4, 0, 1]])]) (pc := 0) (lv := [(0, .inr (.inr (some 90))), (1, .inl v1)]) (st := []) (by decide +kernel) (my_it h (fun h => yb90_3_10_ok  h) (fun h => my_blk_ok (ops := [(.iload_n 1, []), (.aload_n 0, []), (.arraylength, [[1, 90, 1, 16384]]), (.if_icmp .lt 7, [[14, 0, 1], [10]])]) (pc := 4) (lv := [(0, .inr (.inr (some 90))), (1, .inl v1)]) (st := []) (by decide +kernel) (⟨rfl, my_it h (fun h => my_blk_ok (ops := [(.aload_n 0, []), (.iload_n 1, []), (.baload, [[1, 90, 1, 16384]]), (.sipush 255, []), (.iand, []), (.nop, [[21]])]) (pc := 14) (lv := [(0, .inr (.inr (some 90))), (1, .inl v1)]) (st := []) (by decide +kernel) (⟨rfl, h.elim (fun g h => ⟨g, yb90_3_21_ok  h⟩)⟩)) (fun h => yb90_3_10_ok  h)⟩)))
theorem yb90_3 {e : my_E} {d : Nat} {v1 : Int32} {κ : my_K} {σ : my_S} {Q : my_O → my_K → my_S → Prop}  (h : yb90_3_0 e d v1 κ σ Q) : my_M e (d + 1) 3 [.inr (.inr (some 90)), .inl v1] κ σ Q := my_M_at (q := mp_3) rfl rfl (yb90_3_0_ok  h)

def yb95_3_21 (e : my_E) (d : Nat) (t0 : Int32) (κ : my_K) (σ : my_S) (Q : my_O → my_K → my_S → Prop) : Prop :=
  Q (.inl (some (.inl t0))) κ σ
theorem yb95_3_21_ok {e : my_E} {d : Nat} {t0 : Int32} {κ : my_K} {σ : my_S} {Q : my_O → my_K → my_S → Prop}  (h : yb95_3_21 e d t0 κ σ Q) : my_W e d mp_3 21 [] [.inl t0] κ σ Q := by
  unfold yb95_3_21 at h
  exact my_blk_ok (ops := [(.ireturn, [[0]])]) (pc := 21) (lv := []) (st := [.inl t0]) (by decide +kernel) (h)
def yb95_3_10 (e : my_E) (d : Nat)  (κ : my_K) (σ : my_S) (Q : my_O → my_K → my_S → Prop) : Prop :=
  yb95_3_21 e d 0 κ σ Q
theorem yb95_3_10_ok {e : my_E} {d : Nat}  {κ : my_K} {σ : my_S} {Q : my_O → my_K → my_S → Prop}  (h : yb95_3_10 e d  κ σ Q) : my_W e d mp_3 10 [] [] κ σ Q := by
  unfold yb95_3_10 at h
  exact my_blk_ok (ops := [(.iconst 0, []), (.goto 10, []), (.nop, [[21]])]) (pc := 10) (lv := []) (st := []) (by decide +kernel) (yb95_3_21_ok  h)
def yb95_3_0 (e : my_E) (d : Nat) (v1 : Int32) (κ : my_K) (σ : my_S) (Q : my_O → my_K → my_S → Prop) : Prop :=
  if v1 < 0 then (yb95_3_10 e d  κ σ Q) else (if v1 < 7747 then ((my_bd v1 7747) ∧ yb95_3_21 e d ((σ.1 95 (v1 : Int32).toNatClampNeg) &&& 255) κ σ Q) else (yb95_3_10 e d  κ σ Q))
theorem yb95_3_0_ok {e : my_E} {d : Nat} {v1 : Int32} {κ : my_K} {σ : my_S} {Q : my_O → my_K → my_S → Prop}  (h : yb95_3_0 e d v1 κ σ Q) : my_W e d mp_3 0 [(0, .inr (.inr (some 95))), (1, .inl v1)] [] κ σ Q := by
  unfold yb95_3_0 at h
  exact my_blk_ok (ops := [(.iload_n 1, []), (.ifCond .lt 9, [[10], [4, 0, 1]])]) (pc := 0) (lv := [(0, .inr (.inr (some 95))), (1, .inl v1)]) (st := []) (by decide +kernel) (my_it h (fun h => yb95_3_10_ok  h) (fun h => my_blk_ok (ops := [(.iload_n 1, []), (.aload_n 0, []), (.arraylength, [[1, 95, 1, 7747]]), (.if_icmp .lt 7, [[14, 0, 1], [10]])]) (pc := 4) (lv := [(0, .inr (.inr (some 95))), (1, .inl v1)]) (st := []) (by decide +kernel) (⟨rfl, my_it h (fun h => my_blk_ok (ops := [(.aload_n 0, []), (.iload_n 1, []), (.baload, [[1, 95, 1, 7747]]), (.sipush 255, []), (.iand, []), (.nop, [[21]])]) (pc := 14) (lv := [(0, .inr (.inr (some 95))), (1, .inl v1)]) (st := []) (by decide +kernel) (⟨rfl, h.elim (fun g h => ⟨g, yb95_3_21_ok  h⟩)⟩)) (fun h => yb95_3_10_ok  h)⟩)))
theorem yb95_3 {e : my_E} {d : Nat} {v1 : Int32} {κ : my_K} {σ : my_S} {Q : my_O → my_K → my_S → Prop}  (h : yb95_3_0 e d v1 κ σ Q) : my_M e (d + 1) 3 [.inr (.inr (some 95)), .inl v1] κ σ Q := my_M_at (q := mp_3) rfl rfl (yb95_3_0_ok  h)

def yb102_3_21 (e : my_E) (d : Nat) (t0 : Int32) (κ : my_K) (σ : my_S) (Q : my_O → my_K → my_S → Prop) : Prop :=
  Q (.inl (some (.inl t0))) κ σ
theorem yb102_3_21_ok {e : my_E} {d : Nat} {t0 : Int32} {κ : my_K} {σ : my_S} {Q : my_O → my_K → my_S → Prop}  (h : yb102_3_21 e d t0 κ σ Q) : my_W e d mp_3 21 [] [.inl t0] κ σ Q := by
  unfold yb102_3_21 at h
  exact my_blk_ok (ops := [(.ireturn, [[0]])]) (pc := 21) (lv := []) (st := [.inl t0]) (by decide +kernel) (h)
def yb102_3_10 (e : my_E) (d : Nat)  (κ : my_K) (σ : my_S) (Q : my_O → my_K → my_S → Prop) : Prop :=
  yb102_3_21 e d 0 κ σ Q
theorem yb102_3_10_ok {e : my_E} {d : Nat}  {κ : my_K} {σ : my_S} {Q : my_O → my_K → my_S → Prop}  (h : yb102_3_10 e d  κ σ Q) : my_W e d mp_3 10 [] [] κ σ Q := by
  unfold yb102_3_10 at h
  exact my_blk_ok (ops := [(.iconst 0, []), (.goto 10, []), (.nop, [[21]])]) (pc := 10) (lv := []) (st := []) (by decide +kernel) (yb102_3_21_ok  h)
def yb102_3_0 (e : my_E) (d : Nat) (v1 : Int32) (κ : my_K) (σ : my_S) (Q : my_O → my_K → my_S → Prop) : Prop :=
  if v1 < 0 then (yb102_3_10 e d  κ σ Q) else (if v1 < 7747 then ((my_bd v1 7747) ∧ yb102_3_21 e d ((σ.1 102 (v1 : Int32).toNatClampNeg) &&& 255) κ σ Q) else (yb102_3_10 e d  κ σ Q))
theorem yb102_3_0_ok {e : my_E} {d : Nat} {v1 : Int32} {κ : my_K} {σ : my_S} {Q : my_O → my_K → my_S → Prop}  (h : yb102_3_0 e d v1 κ σ Q) : my_W e d mp_3 0 [(0, .inr (.inr (some 102))), (1, .inl v1)] [] κ σ Q := by
  unfold yb102_3_0 at h
  exact my_blk_ok (ops := [(.iload_n 1, []), (.ifCond .lt 9, [[10], [4, 0, 1]])]) (pc := 0) (lv := [(0, .inr (.inr (some 102))), (1, .inl v1)]) (st := []) (by decide +kernel) (my_it h (fun h => yb102_3_10_ok  h) (fun h => my_blk_ok (ops := [(.iload_n 1, []), (.aload_n 0, []), (.arraylength, [[1, 102, 1, 7747]]), (.if_icmp .lt 7, [[14, 0, 1], [10]])]) (pc := 4) (lv := [(0, .inr (.inr (some 102))), (1, .inl v1)]) (st := []) (by decide +kernel) (⟨rfl, my_it h (fun h => my_blk_ok (ops := [(.aload_n 0, []), (.iload_n 1, []), (.baload, [[1, 102, 1, 7747]]), (.sipush 255, []), (.iand, []), (.nop, [[21]])]) (pc := 14) (lv := [(0, .inr (.inr (some 102))), (1, .inl v1)]) (st := []) (by decide +kernel) (⟨rfl, h.elim (fun g h => ⟨g, yb102_3_21_ok  h⟩)⟩)) (fun h => yb102_3_10_ok  h)⟩)))
theorem yb102_3 {e : my_E} {d : Nat} {v1 : Int32} {κ : my_K} {σ : my_S} {Q : my_O → my_K → my_S → Prop}  (h : yb102_3_0 e d v1 κ σ Q) : my_M e (d + 1) 3 [.inr (.inr (some 102)), .inl v1] κ σ Q := my_M_at (q := mp_3) rfl rfl (yb102_3_0_ok  h)

def yb109_3_21 (e : my_E) (d : Nat) (t0 : Int32) (κ : my_K) (σ : my_S) (Q : my_O → my_K → my_S → Prop) : Prop :=
  Q (.inl (some (.inl t0))) κ σ
theorem yb109_3_21_ok {e : my_E} {d : Nat} {t0 : Int32} {κ : my_K} {σ : my_S} {Q : my_O → my_K → my_S → Prop}  (h : yb109_3_21 e d t0 κ σ Q) : my_W e d mp_3 21 [] [.inl t0] κ σ Q := by
  unfold yb109_3_21 at h
  exact my_blk_ok (ops := [(.ireturn, [[0]])]) (pc := 21) (lv := []) (st := [.inl t0]) (by decide +kernel) (h)
def yb109_3_10 (e : my_E) (d : Nat)  (κ : my_K) (σ : my_S) (Q : my_O → my_K → my_S → Prop) : Prop :=
  yb109_3_21 e d 0 κ σ Q
theorem yb109_3_10_ok {e : my_E} {d : Nat}  {κ : my_K} {σ : my_S} {Q : my_O → my_K → my_S → Prop}  (h : yb109_3_10 e d  κ σ Q) : my_W e d mp_3 10 [] [] κ σ Q := by
  unfold yb109_3_10 at h
  exact my_blk_ok (ops := [(.iconst 0, []), (.goto 10, []), (.nop, [[21]])]) (pc := 10) (lv := []) (st := []) (by decide +kernel) (yb109_3_21_ok  h)
def yb109_3_0 (e : my_E) (d : Nat) (v1 : Int32) (κ : my_K) (σ : my_S) (Q : my_O → my_K → my_S → Prop) : Prop :=
  if v1 < 0 then (yb109_3_10 e d  κ σ Q) else (if v1 < 6144 then ((my_bd v1 6144) ∧ yb109_3_21 e d ((σ.1 109 (v1 : Int32).toNatClampNeg) &&& 255) κ σ Q) else (yb109_3_10 e d  κ σ Q))
theorem yb109_3_0_ok {e : my_E} {d : Nat} {v1 : Int32} {κ : my_K} {σ : my_S} {Q : my_O → my_K → my_S → Prop}  (h : yb109_3_0 e d v1 κ σ Q) : my_W e d mp_3 0 [(0, .inr (.inr (some 109))), (1, .inl v1)] [] κ σ Q := by
  unfold yb109_3_0 at h
  exact my_blk_ok (ops := [(.iload_n 1, []), (.ifCond .lt 9, [[10], [4, 0, 1]])]) (pc := 0) (lv := [(0, .inr (.inr (some 109))), (1, .inl v1)]) (st := []) (by decide +kernel) (my_it h (fun h => yb109_3_10_ok  h) (fun h => my_blk_ok (ops := [(.iload_n 1, []), (.aload_n 0, []), (.arraylength, [[1, 109, 1, 6144]]), (.if_icmp .lt 7, [[14, 0, 1], [10]])]) (pc := 4) (lv := [(0, .inr (.inr (some 109))), (1, .inl v1)]) (st := []) (by decide +kernel) (⟨rfl, my_it h (fun h => my_blk_ok (ops := [(.aload_n 0, []), (.iload_n 1, []), (.baload, [[1, 109, 1, 6144]]), (.sipush 255, []), (.iand, []), (.nop, [[21]])]) (pc := 14) (lv := [(0, .inr (.inr (some 109))), (1, .inl v1)]) (st := []) (by decide +kernel) (⟨rfl, h.elim (fun g h => ⟨g, yb109_3_21_ok  h⟩)⟩)) (fun h => yb109_3_10_ok  h)⟩)))
theorem yb109_3 {e : my_E} {d : Nat} {v1 : Int32} {κ : my_K} {σ : my_S} {Q : my_O → my_K → my_S → Prop}  (h : yb109_3_0 e d v1 κ σ Q) : my_M e (d + 1) 3 [.inr (.inr (some 109)), .inl v1] κ σ Q := my_M_at (q := mp_3) rfl rfl (yb109_3_0_ok  h)

def yb239_3_21 (e : my_E) (d : Nat) (t0 : Int32) (κ : my_K) (σ : my_S) (Q : my_O → my_K → my_S → Prop) : Prop :=
  Q (.inl (some (.inl t0))) κ σ
theorem yb239_3_21_ok {e : my_E} {d : Nat} {t0 : Int32} {κ : my_K} {σ : my_S} {Q : my_O → my_K → my_S → Prop}  (h : yb239_3_21 e d t0 κ σ Q) : my_W e d mp_3 21 [] [.inl t0] κ σ Q := by
  unfold yb239_3_21 at h
  exact my_blk_ok (ops := [(.ireturn, [[0]])]) (pc := 21) (lv := []) (st := [.inl t0]) (by decide +kernel) (h)
def yb239_3_10 (e : my_E) (d : Nat)  (κ : my_K) (σ : my_S) (Q : my_O → my_K → my_S → Prop) : Prop :=
  yb239_3_21 e d 0 κ σ Q
theorem yb239_3_10_ok {e : my_E} {d : Nat}  {κ : my_K} {σ : my_S} {Q : my_O → my_K → my_S → Prop}  (h : yb239_3_10 e d  κ σ Q) : my_W e d mp_3 10 [] [] κ σ Q := by
  unfold yb239_3_10 at h
  exact my_blk_ok (ops := [(.iconst 0, []), (.goto 10, []), (.nop, [[21]])]) (pc := 10) (lv := []) (st := []) (by decide +kernel) (yb239_3_21_ok  h)
def yb239_3_0 (e : my_E) (d : Nat) (v1 : Int32) (κ : my_K) (σ : my_S) (Q : my_O → my_K → my_S → Prop) : Prop :=
  if v1 < 0 then (yb239_3_10 e d  κ σ Q) else (if v1 < 6144 then ((my_bd v1 6144) ∧ yb239_3_21 e d ((σ.1 239 (v1 : Int32).toNatClampNeg) &&& 255) κ σ Q) else (yb239_3_10 e d  κ σ Q))
theorem yb239_3_0_ok {e : my_E} {d : Nat} {v1 : Int32} {κ : my_K} {σ : my_S} {Q : my_O → my_K → my_S → Prop}  (h : yb239_3_0 e d v1 κ σ Q) : my_W e d mp_3 0 [(0, .inr (.inr (some 239))), (1, .inl v1)] [] κ σ Q := by
  unfold yb239_3_0 at h
  exact my_blk_ok (ops := [(.iload_n 1, []), (.ifCond .lt 9, [[10], [4, 0, 1]])]) (pc := 0) (lv := [(0, .inr (.inr (some 239))), (1, .inl v1)]) (st := []) (by decide +kernel) (my_it h (fun h => yb239_3_10_ok  h) (fun h => my_blk_ok (ops := [(.iload_n 1, []), (.aload_n 0, []), (.arraylength, [[1, 239, 1, 6144]]), (.if_icmp .lt 7, [[14, 0, 1], [10]])]) (pc := 4) (lv := [(0, .inr (.inr (some 239))), (1, .inl v1)]) (st := []) (by decide +kernel) (⟨rfl, my_it h (fun h => my_blk_ok (ops := [(.aload_n 0, []), (.iload_n 1, []), (.baload, [[1, 239, 1, 6144]]), (.sipush 255, []), (.iand, []), (.nop, [[21]])]) (pc := 14) (lv := [(0, .inr (.inr (some 239))), (1, .inl v1)]) (st := []) (by decide +kernel) (⟨rfl, h.elim (fun g h => ⟨g, yb239_3_21_ok  h⟩)⟩)) (fun h => yb239_3_10_ok  h)⟩)))
theorem yb239_3 {e : my_E} {d : Nat} {v1 : Int32} {κ : my_K} {σ : my_S} {Q : my_O → my_K → my_S → Prop}  (h : yb239_3_0 e d v1 κ σ Q) : my_M e (d + 1) 3 [.inr (.inr (some 239)), .inl v1] κ σ Q := my_M_at (q := mp_3) rfl rfl (yb239_3_0_ok  h)

def yb369_3_21 (e : my_E) (d : Nat) (t0 : Int32) (κ : my_K) (σ : my_S) (Q : my_O → my_K → my_S → Prop) : Prop :=
  Q (.inl (some (.inl t0))) κ σ
theorem yb369_3_21_ok {e : my_E} {d : Nat} {t0 : Int32} {κ : my_K} {σ : my_S} {Q : my_O → my_K → my_S → Prop}  (h : yb369_3_21 e d t0 κ σ Q) : my_W e d mp_3 21 [] [.inl t0] κ σ Q := by
  unfold yb369_3_21 at h
  exact my_blk_ok (ops := [(.ireturn, [[0]])]) (pc := 21) (lv := []) (st := [.inl t0]) (by decide +kernel) (h)
def yb369_3_10 (e : my_E) (d : Nat)  (κ : my_K) (σ : my_S) (Q : my_O → my_K → my_S → Prop) : Prop :=
  yb369_3_21 e d 0 κ σ Q
theorem yb369_3_10_ok {e : my_E} {d : Nat}  {κ : my_K} {σ : my_S} {Q : my_O → my_K → my_S → Prop}  (h : yb369_3_10 e d  κ σ Q) : my_W e d mp_3 10 [] [] κ σ Q := by
  unfold yb369_3_10 at h
  exact my_blk_ok (ops := [(.iconst 0, []), (.goto 10, []), (.nop, [[21]])]) (pc := 10) (lv := []) (st := []) (by decide +kernel) (yb369_3_21_ok  h)
def yb369_3_0 (e : my_E) (d : Nat) (v1 : Int32) (κ : my_K) (σ : my_S) (Q : my_O → my_K → my_S → Prop) : Prop :=
  if v1 < 0 then (yb369_3_10 e d  κ σ Q) else (if v1 < 6144 then ((my_bd v1 6144) ∧ yb369_3_21 e d ((σ.1 369 (v1 : Int32).toNatClampNeg) &&& 255) κ σ Q) else (yb369_3_10 e d  κ σ Q))
theorem yb369_3_0_ok {e : my_E} {d : Nat} {v1 : Int32} {κ : my_K} {σ : my_S} {Q : my_O → my_K → my_S → Prop}  (h : yb369_3_0 e d v1 κ σ Q) : my_W e d mp_3 0 [(0, .inr (.inr (some 369))), (1, .inl v1)] [] κ σ Q := by
  unfold yb369_3_0 at h
  exact my_blk_ok (ops := [(.iload_n 1, []), (.ifCond .lt 9, [[10], [4, 0, 1]])]) (pc := 0) (lv := [(0, .inr (.inr (some 369))), (1, .inl v1)]) (st := []) (by decide +kernel) (my_it h (fun h => yb369_3_10_ok  h) (fun h => my_blk_ok (ops := [(.iload_n 1, []), (.aload_n 0, []), (.arraylength, [[1, 369, 1, 6144]]), (.if_icmp .lt 7, [[14, 0, 1], [10]])]) (pc := 4) (lv := [(0, .inr (.inr (some 369))), (1, .inl v1)]) (st := []) (by decide +kernel) (⟨rfl, my_it h (fun h => my_blk_ok (ops := [(.aload_n 0, []), (.iload_n 1, []), (.baload, [[1, 369, 1, 6144]]), (.sipush 255, []), (.iand, []), (.nop, [[21]])]) (pc := 14) (lv := [(0, .inr (.inr (some 369))), (1, .inl v1)]) (st := []) (by decide +kernel) (⟨rfl, h.elim (fun g h => ⟨g, yb369_3_21_ok  h⟩)⟩)) (fun h => yb369_3_10_ok  h)⟩)))
theorem yb369_3 {e : my_E} {d : Nat} {v1 : Int32} {κ : my_K} {σ : my_S} {Q : my_O → my_K → my_S → Prop}  (h : yb369_3_0 e d v1 κ σ Q) : my_M e (d + 1) 3 [.inr (.inr (some 369)), .inl v1] κ σ Q := my_M_at (q := mp_3) rfl rfl (yb369_3_0_ok  h)

