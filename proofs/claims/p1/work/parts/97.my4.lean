/-! ===== branches, ends, exceptions, calls ===== -/
/-- an int compared: as a statement -/
def my_cmp (cd : ClassFile.Cond) (x y : Int32) (A B : Prop) : Prop := match cd with
  | .eq => if x = y then A else B
  | .ne => if x = y then B else A
  | .lt => if x < y then A else B
  | .ge => if x < y then B else A
  | .gt => if y < x then A else B
  | .le => if y < x then B else A
theorem my_cmp_ok {cd : ClassFile.Cond} {x y : Int32} {A B : Prop} (h : my_cmp cd x y A B) : (mj_cmp cd x y = true ∧ A) ∨ (mj_cmp cd x y = false ∧ B) := by
  have hn : ∀ u v : Int32, ¬ u < v ↔ v ≤ u := fun u v => by rw [Int32.lt_iff_toInt_lt, Int32.le_iff_toInt_le]; omega
  cases cd <;> simp only [my_cmp] at h <;> split at h <;> rename_i hc
  · exact Or.inl ⟨by simp [mj_cmp, hc], h⟩
  · exact Or.inr ⟨by simp [mj_cmp, hc], h⟩
  · exact Or.inr ⟨by simp [mj_cmp, hc], h⟩
  · exact Or.inl ⟨by simp [mj_cmp, hc], h⟩
  · exact Or.inl ⟨by simp [mj_cmp, hc], h⟩
  · exact Or.inr ⟨by simp [mj_cmp, hc], h⟩
  · exact Or.inr ⟨by simp only [mj_cmp, decide_eq_false_iff_not]; rw [← hn]; simpa using hc, h⟩
  · exact Or.inl ⟨by simp only [mj_cmp, decide_eq_true_eq]; exact (hn _ _).mp hc, h⟩
  · exact Or.inl ⟨by simp [mj_cmp, hc], h⟩
  · exact Or.inr ⟨by simp [mj_cmp, hc], h⟩
  · exact Or.inr ⟨by simp only [mj_cmp, decide_eq_false_iff_not]; rw [← hn]; simpa using hc, h⟩
  · exact Or.inl ⟨by simp only [mj_cmp, decide_eq_true_eq]; exact (hn _ _).mp hc, h⟩
def my_pick (lv : List (Nat × my_V)) : List Nat → List (Nat × my_V)
  | [] => []
  | k :: r => match my_get lv k with
    | some v => (k, v) :: my_pick lv r
    | none => my_pick lv r
theorem my_pick_mem {lv : List (Nat × my_V)} {x : Nat × my_V} : ∀ {l : List Nat}, x ∈ my_pick lv l → x ∈ lv
  | [], h => by simp [my_pick] at h
  | k :: r, h => by
    unfold my_pick at h
    split at h
    · rename_i v hv
      rcases List.mem_cons.mp h with rfl | h
      · exact my_get_mem hv
      · exact my_pick_mem h
    · exact my_pick_mem h
/-- on from the first number of the row, with the variables of the rest -/
def my_lf (e : my_E) (d : Nat) (q : mj_Mi) (Q : my_O → my_K → my_S → Prop) (x : List Nat) (lv : List (Nat × my_V)) (st : List my_V) (κ : my_K) (σ : my_S) : Prop := match x with
  | pc :: live => my_W e d q pc (my_pick lv live) st κ σ Q
  | [] => False
def my_h0 : List Nat → Nat
  | [] => 0
  | k :: _ => k
def my_ae (cd : ClassFile.ACond) (t u : Nat) : Nat := match cd with
  | .eq => t
  | .ne => u
section MYL
variable {e : my_E} {d : Nat} {q : mj_Mi} {pc : Nat} {lv : List (Nat × my_V)} {st : List my_V} {κ : my_K} {σ : my_S} {Q : my_O → my_K → my_S → Prop}
theorem my_lf_ok {x : List Nat} (h : my_lf e d q Q x lv st κ σ) : my_W e d q (my_h0 x) lv st κ σ Q := by
  cases x with
  | nil => cases h
  | cons pc live => exact my_W.less (fun lv' hs x hx => hs x (my_pick_mem hx)) h
/-- a branch, where the machine goes to t or to u -/
theorem my_W_br {i : Instr} {t u : Nat} {c : Bool} {st1 : List my_V} (hat : mj_at q.2.2.2.2.1 pc = some i) (hs : ∀ (lv' : List (Nat × Value)) (f : Nat → va_E) (C S cs ss : Nat) (call : mj_CF), mj_step mc_PT mc_MT d mc_TY mc_cm mc_ty (mc_PO e.1 q.2.2.2.2.2.1) call C S q i pc lv' (st.map my_v) κ.1 f cs ss = some (.inl (if c then t else u, lv', st1.map my_v, κ.1, f, cs, ss)))
    (h : (c = true ∧ my_W e d q t lv st1 κ σ Q) ∨ (c = false ∧ my_W e d q u lv st1 κ σ Q)) : my_W e d q pc lv st κ σ Q := by
  rcases h with ⟨rfl, h⟩ | ⟨rfl, h⟩
  · exact my_W_step hat (fun lv' f C S cs ss h1 h2 _ => ⟨lv', f, h1, h2, fun call => by simpa using hs lv' f C S cs ss call⟩) h
  · exact my_W_step hat (fun lv' f C S cs ss h1 h2 _ => ⟨lv', f, h1, h2, fun call => by simpa using hs lv' f C S cs ss call⟩) h
theorem my_W_if {cd : ClassFile.Cond} {off : Int} {t : Nat} {x : Int32} (hat : mj_at q.2.2.2.2.1 pc = some (.ifCond cd off)) (ht : mj_tgt pc off = some t) (h : my_cmp cd x 0 (my_W e d q t lv st κ σ Q) (my_W e d q (pc + 3) lv st κ σ Q)) : my_W e d q pc lv (.inl x :: st) κ σ Q :=
  my_W_br (c := mj_cmp cd x 0) (t := t) (u := pc + 3) (st1 := st) hat (fun lv' f C S cs ss call => by simp [mj_step, mj_sw, mj_g1a, mj_g4, mj_g1d, my_v, ht]) (my_cmp_ok h)
theorem my_W_icmp {cd : ClassFile.Cond} {off : Int} {t : Nat} {x y : Int32} (hat : mj_at q.2.2.2.2.1 pc = some (.if_icmp cd off)) (ht : mj_tgt pc off = some t) (h : my_cmp cd x y (my_W e d q t lv st κ σ Q) (my_W e d q (pc + 3) lv st κ σ Q)) : my_W e d q pc lv (.inl y :: .inl x :: st) κ σ Q :=
  my_W_br (c := mj_cmp cd x y) (t := t) (u := pc + 3) (st1 := st) hat (fun lv' f C S cs ss call => by simp [mj_step, mj_sw, mj_g1a, mj_g4, mj_g1d, my_v, ht]) (my_cmp_ok h)
theorem my_W_null {off : Int} {t : Nat} {o : Option Nat} (hat : mj_at q.2.2.2.2.1 pc = some (.ifnull off)) (ht : mj_tgt pc off = some t) (h : if o = none then my_W e d q t lv st κ σ Q else my_W e d q (pc + 3) lv st κ σ Q) : my_W e d q pc lv (.inr (.inr o) :: st) κ σ Q :=
  my_W_br (c := o.isNone) (t := t) (u := pc + 3) (st1 := st) hat (fun lv' f C S cs ss call => by cases o <;> simp [mj_step, mj_sw, mj_g1a, mj_g4, mj_g1d, my_v, va_rf, ht]) (by cases o <;> simpa using h)
theorem my_W_nonnull {off : Int} {t : Nat} {o : Option Nat} (hat : mj_at q.2.2.2.2.1 pc = some (.ifnonnull off)) (ht : mj_tgt pc off = some t) (h : if o = none then my_W e d q (pc + 3) lv st κ σ Q else my_W e d q t lv st κ σ Q) : my_W e d q pc lv (.inr (.inr o) :: st) κ σ Q :=
  my_W_br (c := o.isSome) (t := t) (u := pc + 3) (st1 := st) hat (fun lv' f C S cs ss call => by cases o <;> simp [mj_step, mj_sw, mj_g1a, mj_g4, mj_g1d, my_v, va_rf, ht]) (by cases o <;> simpa using h)
theorem my_on {o : Option Nat} (h : ∀ a, o = some a → 32 ≤ a) : mj_on (va_rf o) = some o := by
  cases o with
  | none => rfl
  | some a => simp [va_rf, mj_on, h a rfl]
theorem my_W_acmp {cd : ClassFile.ACond} {off : Int} {t : Nat} {x y : Option Nat} (hat : mj_at q.2.2.2.2.1 pc = some (.if_acmp cd off)) (ht : mj_tgt pc off = some t) (hx : ∀ a, x = some a → 32 ≤ a) (hy : ∀ a, y = some a → 32 ≤ a) (h : if x = y then my_W e d q (my_ae cd t (pc + 3)) lv st κ σ Q else my_W e d q (my_ae cd (pc + 3) t) lv st κ σ Q) : my_W e d q pc lv (.inr (.inr y) :: .inr (.inr x) :: st) κ σ Q :=
  my_W_br (c := decide (x = y)) (t := my_ae cd t (pc + 3)) (u := my_ae cd (pc + 3) t) (st1 := st) hat (fun lv' f C S cs ss call => by
    have e9 : mj_g9 (.if_acmp cd off) pc (va_rf y :: va_rf x :: st.map my_v) = some (if decide (x = y) = true then my_ae cd t (pc + 3) else my_ae cd (pc + 3) t, st.map my_v) := by
      simp only [mj_g9, my_on hx, my_on hy, ht, Option.map_some, decide_eq_true_eq]
      cases cd <;> by_cases e : x = y <;> simp [e, my_ae]
    cases x <;> cases y <;> simp only [va_rf] at e9 <;> simp [mj_step, mj_sw, mj_g1a, mj_g4, mj_g1d, mj_bin, mj_binL, mj_g7, mj_g2, mj_g1b, mj_g8, mj_g1c, mj_g3, mj_g6, mj_gt, mj_g5, my_v, va_rf, e9]) (by
    by_cases e : x = y
    · rw [if_pos e] at h; exact Or.inl ⟨by simp [e], h⟩
    · rw [if_neg e] at h; exact Or.inr ⟨by simp [e], h⟩)
theorem my_W_div {x y : Int32} (hat : mj_at q.2.2.2.2.1 pc = some .idiv) (hy : y ≠ 0) (h : my_W e d q (pc + 1) lv (.inl (x / y) :: st) κ σ Q) : my_W e d q pc lv (.inl y :: .inl x :: st) κ σ Q :=
  my_W_step hat (fun lv' f C S cs ss h1 h2 _ => ⟨lv', f, h1, h2, fun call => by simp [mj_step, mj_sw, mj_g1a, mj_g4, mj_g1d, mj_bin, mj_binL, mj_g7, mj_g2, mj_g1b, mj_g8, mj_g1c, my_v, hy]⟩) h
theorem my_W_rem {x y : Int32} (hat : mj_at q.2.2.2.2.1 pc = some .irem) (hy : y ≠ 0) (h : my_W e d q (pc + 1) lv (.inl (x - x / y * y) :: st) κ σ Q) : my_W e d q pc lv (.inl y :: .inl x :: st) κ σ Q :=
  my_W_step hat (fun lv' f C S cs ss h1 h2 _ => ⟨lv', f, h1, h2, fun call => by simp [mj_step, mj_sw, mj_g1a, mj_g4, mj_g1d, mj_bin, mj_binL, mj_g7, mj_g2, mj_g1b, mj_g8, mj_g1c, my_v, hy]⟩) h
theorem my_W_ldiv {x y : Int64} (hat : mj_at q.2.2.2.2.1 pc = some .ldiv) (hy : y ≠ 0) (h : my_W e d q (pc + 1) lv (.inr (.inl (x / y)) :: st) κ σ Q) : my_W e d q pc lv (.inr (.inl y) :: .inr (.inl x) :: st) κ σ Q :=
  my_W_step hat (fun lv' f C S cs ss h1 h2 _ => ⟨lv', f, h1, h2, fun call => by simp [mj_step, mj_sw, mj_g1a, mj_g4, mj_g1d, mj_bin, mj_binL, mj_g7, mj_g2, mj_g1b, mj_g8, mj_g1c, my_v, hy]⟩) h
theorem my_W_lrem {x y : Int64} (hat : mj_at q.2.2.2.2.1 pc = some .lrem) (hy : y ≠ 0) (h : my_W e d q (pc + 1) lv (.inr (.inl (x - x / y * y)) :: st) κ σ Q) : my_W e d q pc lv (.inr (.inl y) :: .inr (.inl x) :: st) κ σ Q :=
  my_W_step hat (fun lv' f C S cs ss h1 h2 _ => ⟨lv', f, h1, h2, fun call => by simp [mj_step, mj_sw, mj_g1a, mj_g4, mj_g1d, mj_bin, mj_binL, mj_g7, mj_g2, mj_g1b, mj_g8, mj_g1c, my_v, hy]⟩) h
theorem my_W_ldc {idx : Nat} {x : Int32} (hat : mj_at q.2.2.2.2.1 pc = some (.ldc idx)) (hp : (mc_PO e.1 q.2.2.2.2.2.1).2.2.2.2.1 idx = some x) (h : my_W e d q (pc + 2) lv (.inl x :: st) κ σ Q) : my_W e d q pc lv st κ σ Q :=
  my_W_step hat (fun lv' f C S cs ss h1 h2 _ => ⟨lv', f, h1, h2, fun call => by simp [mj_step, mj_sw, mj_g1a, mj_g4, mj_g1d, mj_bin, mj_binL, mj_g7, mj_g2, mj_g1b, mj_g8, mj_g1c, mj_g3, mj_g6, my_v, hp]⟩) h
theorem my_W_ldcw {idx : Nat} {x : Int32} (hat : mj_at q.2.2.2.2.1 pc = some (.ldc_w idx)) (hp : (mc_PO e.1 q.2.2.2.2.2.1).2.2.2.2.1 idx = some x) (h : my_W e d q (pc + 3) lv (.inl x :: st) κ σ Q) : my_W e d q pc lv st κ σ Q :=
  my_W_step hat (fun lv' f C S cs ss h1 h2 _ => ⟨lv', f, h1, h2, fun call => by simp [mj_step, mj_sw, mj_g1a, mj_g4, mj_g1d, mj_bin, mj_binL, mj_g7, mj_g2, mj_g1b, mj_g8, mj_g1c, mj_g3, mj_g6, my_v, hp]⟩) h
theorem my_W_ldc2 {idx : Nat} {x : Int64} (hat : mj_at q.2.2.2.2.1 pc = some (.ldc2_w idx)) (hp : (mc_PO e.1 q.2.2.2.2.2.1).2.2.2.2.2.1 idx = some x) (h : my_W e d q (pc + 3) lv (.inr (.inl x) :: st) κ σ Q) : my_W e d q pc lv st κ σ Q :=
  my_W_step hat (fun lv' f C S cs ss h1 h2 _ => ⟨lv', f, h1, h2, fun call => by simp [mj_step, mj_sw, mj_g1a, mj_g4, mj_g1d, mj_bin, mj_binL, mj_g7, mj_g2, mj_g1b, mj_g8, mj_g1c, mj_g3, mj_g6, my_v, hp]⟩) h
/-! ends -/
theorem my_W_ireturn {x : Int32} {ty : FieldType} (hat : mj_at q.2.2.2.2.1 pc = some .ireturn) (hr : q.2.2.2.1 = some ty) (hf : mj_fit ty (.int x) = true) (h : Q (.inl (some (.inl x))) κ σ) : my_W e d q pc lv [.inl x] κ σ Q :=
  my_W_end (o := some (.inl x)) hat (fun lv' f C S cs ss call => by simp [mj_step, mj_sw, mj_g1a, mj_g4, mj_g1d, mj_bin, mj_binL, mj_g7, mj_g2, mj_g1b, mj_g8, my_v, hr, hf]) h
theorem my_W_lreturn {x : Int64} (hat : mj_at q.2.2.2.2.1 pc = some .lreturn) (hr : q.2.2.2.1 = some .long) (h : Q (.inl (some (.inr (.inl x)))) κ σ) : my_W e d q pc lv [.inr (.inl x)] κ σ Q :=
  my_W_end (o := some (.inr (.inl x))) hat (fun lv' f C S cs ss call => by simp [mj_step, mj_sw, mj_g1a, mj_g4, mj_g1d, mj_bin, mj_binL, mj_g7, mj_g2, mj_g1b, mj_g8, my_v, hr]) h
theorem my_W_areturn {x : Option Nat} {s : String} (hat : mj_at q.2.2.2.2.1 pc = some .areturn) (hr : q.2.2.2.1 = some (.object s)) (h : Q (.inl (some (.inr (.inr x)))) κ σ) : my_W e d q pc lv [.inr (.inr x)] κ σ Q :=
  my_W_end (o := some (.inr (.inr x))) hat (fun lv' f C S cs ss call => by cases x <;> simp [mj_step, mj_sw, mj_g1a, mj_g4, mj_g1d, mj_bin, mj_binL, mj_g7, mj_g2, mj_g1b, mj_g8, my_v, va_rf, hr]) h
theorem my_W_return (hat : mj_at q.2.2.2.2.1 pc = some .return_) (hr : q.2.2.2.1 = none) (h : Q (.inl none) κ σ) : my_W e d q pc lv [] κ σ Q :=
  my_W_end (o := none) hat (fun lv' f C S cs ss call => by simp [mj_step, mj_sw, mj_g1a, mj_g4, mj_g1d, mj_bin, mj_binL, mj_g7, mj_g2, mj_g1b, mj_g8, hr]) h
end MYL
def my_wt : List my_V → Nat
  | [] => 0
  | .inr (.inl _) :: r => my_wt r + 2
  | .inl _ :: r => my_wt r + 1
  | .inr (.inr _) :: r => my_wt r + 1
theorem my_wt_ok : ∀ {st : List my_V}, mj_wt (st.map my_v) = my_wt st
  | [] => rfl
  | .inl x :: r => by
    have := my_wt_ok (st := r)
    simp only [mj_wt, List.map_cons, List.sum_cons, my_wt, my_v] at this ⊢
    rw [this]; simp [Value.category]; omega
  | .inr (.inl x) :: r => by
    have := my_wt_ok (st := r)
    simp only [mj_wt, List.map_cons, List.sum_cons, my_wt, my_v] at this ⊢
    rw [this]; simp [Value.category]; omega
  | .inr (.inr x) :: r => by
    have := my_wt_ok (st := r)
    simp only [mj_wt, List.map_cons, List.sum_cons, my_wt, my_v, my_v_cat] at this ⊢
    rw [this]; omega
