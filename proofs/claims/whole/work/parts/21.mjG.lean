/-! ===== checking a program of the small machine by computation ===== -/
/-- each word of the first list, so many places behind the one before, in the second list -/
def mj_seq : List (Nat × Cond) → List Cond → Bool
  | [], _ => true
  | _ :: _, [] => false
  | (0, w) :: r, x :: t => decide (w = x) && mj_seq r t
  | (k + 1, w) :: r, _ :: t => mj_seq ((k, w) :: r) t
theorem mj_seq_mem : ∀ (tb : List Cond) (hs : List (Nat × Cond)), mj_seq hs tb = true → ∀ q ∈ hs, q.2 ∈ tb
  | _, [], _, q, hq => by cases hq
  | [], (k, w) :: r, h, q, hq => by cases k <;> simp [mj_seq] at h
  | x :: t, (0, w) :: r, h, q, hq => by
    simp only [mj_seq, Bool.and_eq_true, decide_eq_true_eq] at h
    rcases List.mem_cons.mp hq with rfl | hq
    · rw [h.1]; exact List.mem_cons_self
    · exact List.mem_cons_of_mem _ (mj_seq_mem t r h.2 q hq)
  | x :: t, (k + 1, w) :: r, h, q, hq => by
    simp only [mj_seq] at h
    rcases List.mem_cons.mp hq with rfl | hq
    · exact List.mem_cons_of_mem _ (mj_seq_mem t ((k, w) :: r) h (k, w) List.mem_cons_self)
    · exact List.mem_cons_of_mem _ (mj_seq_mem t ((k, w) :: r) h q (List.mem_cons_of_mem _ hq))
/-- the kinds of words that are kept -/
def mj_wk : Cond → Bool
  | .code .. => true
  | .initialized .. => true
  | .methodLink .. => true
  | .fieldLink .. => true
  | .classLink .. => true
  | .instanceMethod .. => true
  | .selects .. => true
  | .static .. => true
  | .lays .. => true
  | .laysFinal .. => true
  | .instantiable .. => true
  | .constant .. => true
  | .constantLong .. => true
  | .arrayClass .. => true
  | .arrayOver .. => true
  | .fieldLinkNest .. => true
  | .methodLinkNest .. => true
  | _ => false
def mj_Ts : List Cond := lw_tbl.filter mj_wk
theorem mj_in_Ts {w : Cond} (h : w ∈ lw_tbl) (hk : mj_wk w = true) : w ∈ mj_Ts := List.mem_filter.mpr ⟨h, hk⟩
def mj_fd {α : Type} : List (Nat × α) → Nat → Option α
  | [], _ => none
  | q :: r, i => if q.1 = i then some q.2 else mj_fd r i
theorem mj_fd_mem {α : Type} {i : Nat} {a : α} : ∀ {l : List (Nat × α)}, mj_fd l i = some a → (i, a) ∈ l
  | [], h => by simp [mj_fd] at h
  | q :: r, h => by
    unfold mj_fd at h
    split at h
    · rename_i e
      cases h
      subst e
      exact List.mem_cons_self
    · exact List.mem_cons_of_mem _ (mj_fd_mem h)
/-- fields: places, whether by a mate, entry, kind, field, how it may be written -/
abbrev mj_EF : Type := Nat × Bool × Nat × Nat × Nat × Nat
def mj_eF (e : mj_EF) : Nat × (Nat × Nat × Nat) := (e.2.2.1, e.2.2.2.1, e.2.2.2.2.1, e.2.2.2.2.2)
def mj_wF (cl : List vw_C) (own : String) (e : mj_EF) : Cond := match cl[e.2.2.2.1]? with
  | some q => if e.2.1 then .fieldLinkNest own e.2.2.1 (q.2.1 e.2.2.2.2.1).1 (q.2.1 e.2.2.2.2.1).2.1 (q.2.1 e.2.2.2.2.1).2.2.1 "SuiteKeeper" else .fieldLink own e.2.2.1 (q.2.1 e.2.2.2.2.1).1 (q.2.1 e.2.2.2.2.1).2.1 (q.2.1 e.2.2.2.2.1).2.2.1
  | none => .tt
def mj_kF (cl : List vw_C) (own : String) (e : mj_EF) : Bool := match cl[e.2.2.2.1]? with
  | some q => decide (e.2.2.2.2.1 < q.2.2) && (!decide (e.2.2.2.2.2 = 0) || !(q.2.1 e.2.2.2.2.1).2.2.2) && (!decide (e.2.2.2.2.2 = 1) || ((q.2.1 e.2.2.2.2.1).2.2.2 && decide ((q.2.1 e.2.2.2.2.1).1 = own) && !e.2.1))
  | none => false
theorem mj_PF_of {cl : List vw_C} {own : String} {E : List mj_EF} (h1 : mj_seq (E.map fun e => (e.1, mj_wF cl own e)) lw_tbl = true) (h2 : E.all (mj_kF cl own) = true) : mj_PF cl mj_Ts own (mj_fd (E.map mj_eF)) := by
  intro idx ci k t hp
  obtain ⟨e, he, hq⟩ := List.mem_map.mp (mj_fd_mem hp)
  obtain ⟨sk, ne, i0, c0, k0, t0⟩ := e
  simp only [mj_eF, Prod.mk.injEq] at hq
  obtain ⟨rfl, rfl, rfl, rfl⟩ := hq
  have h3 := mj_seq_mem _ _ h1 _ (List.mem_map.mpr ⟨_, he, rfl⟩)
  have h4 := List.all_eq_true.mp h2 _ he
  simp only [mj_wF, mj_kF] at h3 h4
  cases hc : cl[c0]? with
  | none => simp [hc] at h4
  | some q =>
    rw [hc] at h3 h4
    simp only [Bool.and_eq_true, Bool.or_eq_true, Bool.not_eq_true', decide_eq_true_eq, decide_eq_false_iff_not] at h4
    obtain ⟨⟨a1, a2⟩, a3⟩ := h4
    refine ⟨q, rfl, a1, ?_, fun e0 => (a2.resolve_left (fun h => h e0)), fun e1 => ?_⟩
    · cases ne with
      | true => exact Or.inr ⟨_, mj_in_Ts (by simpa using h3) rfl⟩
      | false => exact Or.inl (mj_in_Ts (by simpa using h3) rfl)
    · obtain ⟨⟨b1, b2⟩, b3⟩ := a3.resolve_left (fun h => h e1)
      subst b3
      exact ⟨b1, b2, mj_in_Ts (by simpa using h3) rfl⟩
/-- kinds that are made: places of the link; entry, kind, slots -/
abbrev mj_EK : Type := Nat × Nat × Nat × Nat
def mj_eK (e : mj_EK) : Nat × (Nat × Nat) := (e.2.1, e.2.2.1, e.2.2.2)
def mj_nm (cl : List vw_C) (ci : Nat) : String := match cl[ci]? with
  | some q => q.1
  | none => ""
/-- the kinds that can be made at all: places of 'instantiable'; kind, slots -/
theorem mj_PC_of {cl : List vw_C} {own : String} {E : List mj_EK} {M : List (Nat × Nat)} (hM : ∀ q ∈ M, ∃ k : vw_C, cl[q.1]? = some k ∧ Cond.instantiable k.1 q.2 ∈ mj_Ts ∧ Cond.initialized k.1 ∈ mj_Ts) (h1 : mj_seq (E.map fun e => (e.1, Cond.classLink own e.2.1 (mj_nm cl e.2.2.1))) lw_tbl = true) (h2 : E.all (fun e => M.contains (e.2.2.1, e.2.2.2)) = true) : mj_PC cl mj_Ts own (mj_fd (E.map mj_eK)) := by
  intro idx ci z hp
  obtain ⟨e, he, hq⟩ := List.mem_map.mp (mj_fd_mem hp)
  obtain ⟨sk, i0, c0, z0⟩ := e
  simp only [mj_eK, Prod.mk.injEq] at hq
  obtain ⟨rfl, rfl, rfl⟩ := hq
  have h3 := mj_seq_mem _ _ h1 _ (List.mem_map.mpr ⟨_, he, rfl⟩)
  have h4 := List.all_eq_true.mp h2 _ he
  obtain ⟨k, hk, w1, w2⟩ := hM _ (List.contains_iff_mem.mp h4)
  refine ⟨k, hk, mj_in_Ts ?_ rfl, w1, w2⟩
  have e9 : mj_nm cl c0 = k.1 := by
    have hk' : cl[c0]? = some k := hk
    simp [mj_nm, hk']
  rw [← e9]
  exact h3
/-- arrays of objects -/
theorem mj_PA_of {TY : List FieldType} {own : String} {E : List (Nat × Nat × Nat × String)} (hA : ∀ e ∈ E, Cond.arrayOver (.object e.2.2.2) ∈ mj_Ts) (h1 : mj_seq (E.map fun e => (e.1, Cond.classLink own e.2.1 e.2.2.2)) lw_tbl = true) (h2 : E.all (fun e => decide (TY[e.2.2.1]? = some (.object e.2.2.2))) = true) : mj_PA TY mj_Ts own (mj_fd (E.map fun e => (e.2.1, e.2.2.1))) := by
  intro idx t hp
  obtain ⟨e, he, hq⟩ := List.mem_map.mp (mj_fd_mem hp)
  simp only [Prod.mk.injEq] at hq
  obtain ⟨rfl, rfl⟩ := hq
  have h3 := mj_seq_mem _ _ h1 _ (List.mem_map.mpr ⟨_, he, rfl⟩)
  have h4 := List.all_eq_true.mp h2 _ he
  exact ⟨_, of_decide_eq_true h4, mj_in_Ts h3 rfl, hA e he⟩
theorem mj_PI_of {own : String} {E : List (Nat × Nat × Int32)} (h1 : mj_seq (E.map fun e => (e.1, Cond.constant own e.2.1 e.2.2)) lw_tbl = true) : mj_PI mj_Ts own (mj_fd (E.map fun e => (e.2.1, e.2.2))) := by
  intro idx v hp
  obtain ⟨e, he, hq⟩ := List.mem_map.mp (mj_fd_mem hp)
  simp only [Prod.mk.injEq] at hq
  obtain ⟨rfl, rfl⟩ := hq
  exact mj_in_Ts (mj_seq_mem _ _ h1 _ (List.mem_map.mpr ⟨_, he, rfl⟩)) rfl
theorem mj_PL_of {own : String} {E : List (Nat × Nat × Int64)} (h1 : mj_seq (E.map fun e => (e.1, Cond.constantLong own e.2.1 e.2.2)) lw_tbl = true) : mj_PL mj_Ts own (mj_fd (E.map fun e => (e.2.1, e.2.2))) := by
  intro idx v hp
  obtain ⟨e, he, hq⟩ := List.mem_map.mp (mj_fd_mem hp)
  simp only [Prod.mk.injEq] at hq
  obtain ⟨rfl, rfl⟩ := hq
  exact mj_in_Ts (mj_seq_mem _ _ h1 _ (List.mem_map.mpr ⟨_, he, rfl⟩)) rfl
/-- what a method must have to be called: how it is called, the receiver's kind -/
def mj_MF (cl : List vw_C) (q : mj_Mi) (kd ci : Nat) : Prop := Cond.code q.1 q.2.1 q.2.2.1 q.2.2.2.1 ∈ mj_Ts ∧ Cond.initialized q.1.cls ∈ mj_Ts ∧ (q.1.cls ≠ "java/lang/invoke/MethodHandle" ∧ q.1.cls ≠ "java/lang/invoke/VarHandle") ∧ q.2.2.1 ≤ 45 ∧
  (kd = 0 → Cond.static q.1 ∈ mj_Ts) ∧ (kd = 1 → Cond.instanceMethod q.1 ∈ mj_Ts ∧ Cond.selects q.1.cls q.1 q.1 ∈ mj_Ts ∧ ∃ k : vw_C, cl[ci]? = some k ∧ k.1 = q.1.cls) ∧ (kd = 2 → Cond.instanceMethod q.1 ∈ mj_Ts ∧ q.1.name = "<init>" ∧ q.2.2.2.1 = none)
/-- calls: places, whether by a mate, entry, how, method, parameters, kind -/
abbrev mj_EM : Type := Nat × Bool × Nat × Nat × Nat × Nat × Nat
def mj_eM (e : mj_EM) : Nat × (Nat × Nat × Nat × Nat) := (e.2.2.1, e.2.2.2.1, e.2.2.2.2.1, e.2.2.2.2.2.1, e.2.2.2.2.2.2)
def mj_wM (PR : Nat → Option mj_Mi) (own : String) (e : mj_EM) : Cond := match PR e.2.2.2.2.1 with
  | some q => if e.2.1 then .methodLinkNest own e.2.2.1 q.1 "SuiteKeeper" else .methodLink own e.2.2.1 q.1
  | none => .tt
def mj_kM (PR : Nat → Option mj_Mi) (KD : List (Nat × Nat × Nat)) (e : mj_EM) : Bool := match PR e.2.2.2.2.1 with
  | some q => decide ((parseMethodDescriptor q.1.desc).map (fun d => d.parameters.length) = some e.2.2.2.2.2.1) && KD.contains (e.2.2.2.2.1, e.2.2.2.1, e.2.2.2.2.2.2) && decide (e.2.2.2.1 ≤ 2)
  | none => false
theorem mj_PM_of {cl : List vw_C} {own : String} {PR : Nat → Option mj_Mi} {KD : List (Nat × Nat × Nat)} {E : List mj_EM} {ob : List (Nat × (Nat × Nat × Nat × Nat))} (hob : ∀ q ∈ ob, q.2.1 = 3) (hKD : ∀ k ∈ KD, ∀ q, PR k.1 = some q → mj_MF cl q k.2.1 k.2.2) (h1 : mj_seq (E.map fun e => (e.1, mj_wM PR own e)) lw_tbl = true) (h2 : E.all (mj_kM PR KD) = true) : mj_PM cl mj_Ts PR own (mj_fd (ob ++ E.map mj_eM)) := by
  intro idx kd mi np ci hp hk2
  rcases List.mem_append.mp (mj_fd_mem hp) with hp | hp
  · have := hob _ hp
    simp only at this
    omega
  obtain ⟨e, he, hq⟩ := List.mem_map.mp hp
  obtain ⟨sk, ne, i0, k0, m0, n0, c0⟩ := e
  simp only [mj_eM, Prod.mk.injEq] at hq
  obtain ⟨rfl, rfl, rfl, rfl, rfl⟩ := hq
  have h3 := mj_seq_mem _ _ h1 _ (List.mem_map.mpr ⟨_, he, rfl⟩)
  have h4 := List.all_eq_true.mp h2 _ he
  simp only [mj_wM, mj_kM] at h3 h4
  cases hc : PR m0 with
  | none => simp [hc] at h4
  | some q =>
    rw [hc] at h3 h4
    simp only [Bool.and_eq_true, decide_eq_true_eq] at h4
    obtain ⟨⟨a1, a2⟩, a3⟩ := h4
    obtain ⟨w1, w2, w3, w4, w5, w6, w7⟩ := hKD _ (List.contains_iff_mem.mp a2) q hc
    refine ⟨q, rfl, ?_, w1, w2, w3, a1, w4, w5, w6, w7⟩
    cases ne with
    | true => exact Or.inr ⟨_, mj_in_Ts (by simpa using h3) rfl⟩
    | false => exact Or.inl (mj_in_Ts (by simpa using h3) rfl)
theorem mj_PO_of {own : String} {ob : List (Nat × (Nat × Nat × Nat × Nat))} {E : List mj_EM} (hE : E.all (fun e => decide (e.2.2.2.1 ≤ 2)) = true) (hob : ∀ q ∈ ob, Cond.methodLink own q.1 objectInit ∈ mj_Ts) (h2 : Cond.instanceMethod objectInit ∈ mj_Ts) (h3 : Cond.code objectInit ⟨#[0xb1]⟩ 1 none ∈ mj_Ts) : mj_PO mj_Ts own (mj_fd (ob ++ E.map mj_eM)) := by
  intro idx mi np ci hp
  rcases List.mem_append.mp (mj_fd_mem hp) with hp | hp
  · exact ⟨hob _ hp, h2, h3⟩
  · obtain ⟨e, he, hq⟩ := List.mem_map.mp hp
    have h4 := of_decide_eq_true (List.all_eq_true.mp hE _ he)
    simp only [mj_eM, Prod.mk.injEq] at hq
    rw [hq.2.1] at h4
    omega
/-- the bytes -/
def mj_dk (bytes : ByteArray) (q : Nat × Instr) : Bool := match decode bytes q.1 with
  | .ok (j, len) => decide (j = q.2) && (mj_sw j || decide (len = mj_ln j))
  | _ => false
theorem mj_at_mem {pc : Nat} {i : Instr} : ∀ {tb : List (Nat × Instr)}, mj_at tb pc = some i → (pc, i) ∈ tb
  | [], h => by simp [mj_at] at h
  | q :: r, h => by
    unfold mj_at at h
    split at h
    · rename_i e
      cases h
      subst e
      exact List.mem_cons_self
    · exact List.mem_cons_of_mem _ (mj_at_mem h)
theorem mj_TB_of {bytes : ByteArray} {tb : List (Nat × Instr)} (h : tb.all (mj_dk bytes) = true) : mj_TB bytes tb := by
  intro pc i hi
  have h1 := List.all_eq_true.mp h _ (mj_at_mem hi)
  unfold mj_dk at h1
  split at h1
  · rename_i j len hd
    simp only [Bool.and_eq_true, decide_eq_true_eq, Bool.or_eq_true] at h1
    obtain ⟨rfl, h2⟩ := h1
    exact ⟨len, hd, fun hs => h2.resolve_left (by rw [hs]; decide)⟩
  · cases h1
/-- names apart -/
def mj_nd : List String → Bool
  | [] => true
  | a :: r => r.all (fun b => decide (a ≠ b)) && mj_nd r
theorem mj_nd_ne : ∀ {L : List String}, mj_nd L = true → ∀ (i j : Nat) (a b : String), L[i]? = some a → L[j]? = some b → i ≠ j → a ≠ b
  | [], _, i, j, a, b, h1, _, _ => by simp at h1
  | c :: r, h, i, j, a, b, h1, h2, hij => by
    simp only [mj_nd, Bool.and_eq_true] at h
    cases i with
    | zero =>
      cases j with
      | zero => exact absurd rfl hij
      | succ j =>
        simp only [List.getElem?_cons_zero, Option.some.injEq] at h1
        simp only [List.getElem?_cons_succ] at h2
        subst h1
        exact of_decide_eq_true (List.all_eq_true.mp h.1 _ (List.mem_of_getElem? h2))
    | succ i =>
      cases j with
      | zero =>
        simp only [List.getElem?_cons_zero, Option.some.injEq] at h2
        simp only [List.getElem?_cons_succ] at h1
        subst h2
        exact (of_decide_eq_true (List.all_eq_true.mp h.1 _ (List.mem_of_getElem? h1))).symm
      | succ j =>
        simp only [List.getElem?_cons_succ] at h1 h2
        exact mj_nd_ne h.2 i j a b h1 h2 (by omega)
/-- a kind's fields, as a list -/
def mj_T (F : List (String × String × String × Bool)) : u_T := fun k => F.getD k ("", "", "", false)
theorem mj_T_nd {F : List (String × String × String × Bool)} (h : mj_nd (F.map (·.2.1)) = true) : ∀ a, a < F.length → ∀ b, b < F.length → a ≠ b → (mj_T F a).2.1 ≠ (mj_T F b).2.1 := by
  intro a ha b hb hab
  refine mj_nd_ne h a b _ _ ?_ ?_ hab
  · simp [mj_T, ha]
  · simp [mj_T, hb]
def mj_tyL (F : List (String × String × String × Bool)) (ty : Nat → FieldType) : Bool := (List.range F.length).all (fun k => decide (parseFieldDescriptor (mj_T F k).2.2.1 = some (ty k)))
theorem mj_tyL_ok {F : List (String × String × String × Bool)} {ty : Nat → FieldType} (h : mj_tyL F ty = true) : ∀ k, k < F.length → parseFieldDescriptor (mj_T F k).2.2.1 = some (ty k) := fun k hk => of_decide_eq_true (List.all_eq_true.mp h k (List.mem_range.mpr hk))
theorem mj_u_ws {C : String} {T : u_T} {N : Nat} {sk : List Nat} (hl : sk.length = N) (h : mj_seq (sk.zip (u_ws C T N)) lw_tbl = true) : ∀ w ∈ u_ws C T N, w ∈ mj_Ts := by
  intro w hw
  have hw2 := hw
  obtain ⟨k, hk, rfl⟩ := List.mem_map.mp hw2
  refine mj_in_Ts ?_ (by unfold u_lay; split <;> rfl)
  obtain ⟨j, hj⟩ := List.mem_iff_getElem?.mp hw
  have hlen : (u_ws C T N).length = N := by simp [u_ws]
  have hjl : j < N := by rw [← hlen]; exact (List.getElem?_eq_some_iff.mp hj).1
  have h9 : (sk.zip (u_ws C T N))[j]? = some (sk[j]'(by omega), u_lay C T k) := by
    rw [List.getElem?_zip_eq_some]
    exact ⟨by simp, hj⟩
  exact mj_seq_mem _ _ h _ (List.mem_of_getElem? h9)
