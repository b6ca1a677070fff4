/-! ===== a typed memory over the machine's cells ===== -/
/-- ints, longs, references, by cell and place -/
abbrev my_S : Type := (Nat → Nat → Int32) × (Nat → Nat → Int64) × (Nat → Nat → Option Nat)
/-- what stays: the formatter, the script's length, the script -/
abbrev my_E : Type := Value × Nat × (Nat → Int32)
/-- the next number; cells and slots that are left -/
abbrev my_K : Type := Nat × Nat × Nat
abbrev my_V : Type := Int32 ⊕ Int64 ⊕ Option Nat
/-- a value, or an exception: its number, its kind -/
abbrev my_O : Type := Option my_V ⊕ (Nat × Nat)
def my_v : my_V → Value
  | .inl x => .int x
  | .inr (.inl x) => .long x
  | .inr (.inr o) => va_rf o
def my_uI (σ : my_S) (a k : Nat) (x : Int32) : my_S := (fun b j => if b = a ∧ j = k then x else σ.1 b j, σ.2)
def my_uL (σ : my_S) (a k : Nat) (x : Int64) : my_S := (σ.1, fun b j => if b = a ∧ j = k then x else σ.2.1 b j, σ.2.2)
def my_uA (σ : my_S) (a k : Nat) (x : Option Nat) : my_S := (σ.1, σ.2.1, fun b j => if b = a ∧ j = k then x else σ.2.2 b j)
/-- the layout: a kind of object, or a kind of array and its length -/
def my_lay (a : Nat) : Option (Nat ⊕ (Nat × Nat)) := if a < 32 then none else my_tb[a - 32]?
def my_cd (ci : Nat) : List Int := my_kd.getD ci []
def my_fld (c : Int) (σ : my_S) (a k : Nat) : Value := match c with
  | .ofNat δ => .ref (a + δ)
  | .negSucc 0 => .int (σ.1 a k)
  | .negSucc 1 => .int (σ.1 a k)
  | .negSucc 2 => .long (σ.2.1 a k)
  | .negSucc 3 => va_rf (σ.2.2 a k)
  | .negSucc (m + 4) => .ref (a - m)
def my_fl (σ : my_S) (a : Nat) : List Int → Nat → List Value
  | [], _ => []
  | c :: r, k => my_fld c σ a k :: my_fl σ a r (k + 1)
def my_ac (t : Nat) (σ : my_S) (a : Nat) : (Nat → Int32) ⊕ (Nat → Int64) ⊕ (Nat → UInt32) ⊕ (Nat → UInt64) ⊕ (Nat → Option Nat) := match t with
  | 0 => .inl (σ.1 a)
  | 1 => .inl (σ.1 a)
  | 2 => .inr (.inl (σ.2.1 a))
  | 3 => .inl (σ.1 a)
  | _ => .inr (.inr (.inr (.inr (σ.2.2 a))))
def my_cell (l : Nat ⊕ (Nat × Nat)) (σ : my_S) (a : Nat) : va_E := match l with
  | .inl ci => .inr (ci, my_fl σ a (my_cd ci) 0)
  | .inr (t, z) => .inl (t, z, my_ac t σ a)
def my_rep (e : my_E) (n : Nat) (f : Nat → va_E) (σ : my_S) : Prop := (32 ≤ n ∧ ∀ a l, my_lay a = some l → a < n) ∧ (∀ a l, my_lay a = some l → f a = my_cell l σ a) ∧ ∀ k, k < 32 → f k = mc_fx e.2.1 e.2.2 k
theorem my_lay_ge {a : Nat} {l : Nat ⊕ (Nat × Nat)} (h : my_lay a = some l) : 32 ≤ a := by
  unfold my_lay at h
  split at h
  · cases h
  · omega
theorem my_fl_get {σ : my_S} {a : Nat} {c : Int} : ∀ {l : List Int} {k0 k : Nat}, l[k]? = some c → (my_fl σ a l k0)[k]? = some (my_fld c σ a (k0 + k))
  | [], _, k, h => by simp at h
  | c0 :: r, k0, 0, h => by
    simp only [List.getElem?_cons_zero, Option.some.injEq] at h
    subst h
    rfl
  | c0 :: r, k0, k + 1, h => by
    have h1 := my_fl_get (σ := σ) (a := a) (l := r) (k0 := k0 + 1) (k := k) (by simpa using h)
    have e : k0 + 1 + k = k0 + (k + 1) := by omega
    rw [e] at h1
    simpa [my_fl] using h1
theorem my_fl_len {σ : my_S} {a : Nat} : ∀ {l : List Int} {k0 : Nat}, (my_fl σ a l k0).length = l.length
  | [], _ => rfl
  | _ :: r, k0 => by simp [my_fl, my_fl_len (l := r)]
theorem my_fl_eq {σ σ' : my_S} {a : Nat} : ∀ {l : List Int} {k0 : Nat}, (∀ j c, k0 ≤ j → my_fld c σ' a j = my_fld c σ a j) → my_fl σ' a l k0 = my_fl σ a l k0
  | [], _, _ => rfl
  | c :: r, k0, h => by
    simp only [my_fl]
    rw [h k0 c (Nat.le_refl _), my_fl_eq (fun j c hj => h j c (by omega))]
theorem my_fl_set {σ σ' : my_S} {a : Nat} {c : Int} {v : Value} : ∀ {l : List Int} {k0 k : Nat}, l[k]? = some c → my_fld c σ' a (k0 + k) = v → (∀ j c', j ≠ k0 + k → my_fld c' σ' a j = my_fld c' σ a j) → (my_fl σ a l k0).set k v = my_fl σ' a l k0
  | [], _, k, h, _, _ => by simp at h
  | c0 :: r, k0, 0, h, hv, ho => by
    simp only [List.getElem?_cons_zero, Option.some.injEq] at h
    subst h
    simp only [my_fl, List.set_cons_zero]
    rw [← hv, Nat.add_zero, my_fl_eq (fun j c hj => ho j c (by omega))]
  | c0 :: r, k0, k + 1, h, hv, ho => by
    simp only [my_fl, List.set_cons_succ]
    rw [ho k0 c0 (by omega), my_fl_set (l := r) (k0 := k0 + 1) (k := k) (by simpa using h) (by rw [← hv]; congr 1; omega) (fun j c' hj => ho j c' (by omega))]
theorem my_fld_eq {σ σ' : my_S} {a k : Nat} {c : Int} (h1 : σ'.1 a k = σ.1 a k) (h2 : σ'.2.1 a k = σ.2.1 a k) (h3 : σ'.2.2 a k = σ.2.2 a k) : my_fld c σ' a k = my_fld c σ a k := by
  unfold my_fld
  split <;> simp [h1, h2, h3]
theorem my_cell_eq {σ σ' : my_S} {a : Nat} {l : Nat ⊕ (Nat × Nat)} (h1 : ∀ k, σ'.1 a k = σ.1 a k) (h2 : ∀ k, σ'.2.1 a k = σ.2.1 a k) (h3 : ∀ k, σ'.2.2 a k = σ.2.2 a k) : my_cell l σ' a = my_cell l σ a := by
  rcases l with ci | ⟨t, z⟩
  · simp only [my_cell]
    rw [my_fl_eq (fun j c _ => my_fld_eq (h1 j) (h2 j) (h3 j))]
  · have e1 : σ'.1 a = σ.1 a := funext h1
    have e2 : σ'.2.1 a = σ.2.1 a := funext h2
    have e3 : σ'.2.2 a = σ.2.2 a := funext h3
    simp only [my_cell]
    unfold my_ac
    rw [e1, e2, e3]
theorem my_rep_up {e : my_E} {n : Nat} {f : Nat → va_E} {σ σ' : my_S} {a : Nat} {l : Nat ⊕ (Nat × Nat)} {v : va_E} (h : my_rep e n f σ) (hl : my_lay a = some l) (hv : v = my_cell l σ' a) (ho : ∀ b, b ≠ a → ∀ l', my_cell l' σ' b = my_cell l' σ b) : my_rep e n (va_up f a v) σ' := by
  refine ⟨h.1, fun b l' hb => ?_, fun k hk => ?_⟩
  · by_cases hba : b = a
    · subst hba
      rw [hl] at hb
      cases hb
      rw [va_up_self, hv]
    · rw [va_up_ne _ _ hba, ho b hba l']
      exact h.2.1 b l' hb
  · have := my_lay_ge hl
    rw [va_up_ne _ _ (by omega)]
    exact h.2.2 k hk
theorem my_rep_new {e : my_E} {n : Nat} {f : Nat → va_E} {σ : my_S} {v : va_E} (h : my_rep e n f σ) : my_rep e (n + 1) (va_up f n v) σ := by
  have h0 := h.1.1
  refine ⟨⟨by omega, fun a l hl => Nat.lt_succ_of_lt (h.1.2 a l hl)⟩, fun b l' hb => ?_, fun k hk => ?_⟩
  · have := h.1.2 b l' hb
    rw [va_up_ne _ _ (by omega)]
    exact h.2.1 b l' hb
  · rw [va_up_ne _ _ (by omega)]
    exact h.2.2 k hk
theorem my_uI_ne {σ : my_S} {a k b : Nat} {x : Int32} (h : b ≠ a) (l : Nat ⊕ (Nat × Nat)) : my_cell l (my_uI σ a k x) b = my_cell l σ b := my_cell_eq (fun j => by simp [my_uI, h]) (fun _ => rfl) (fun _ => rfl)
theorem my_uL_ne {σ : my_S} {a k b : Nat} {x : Int64} (h : b ≠ a) (l : Nat ⊕ (Nat × Nat)) : my_cell l (my_uL σ a k x) b = my_cell l σ b := my_cell_eq (fun _ => rfl) (fun j => by simp [my_uL, h]) (fun _ => rfl)
theorem my_uA_ne {σ : my_S} {a k b : Nat} {x : Option Nat} (h : b ≠ a) (l : Nat ⊕ (Nat × Nat)) : my_cell l (my_uA σ a k x) b = my_cell l σ b := my_cell_eq (fun _ => rfl) (fun _ => rfl) (fun j => by simp [my_uA, h])
section MYF
variable {e : my_E} {n : Nat} {f : Nat → va_E} {σ : my_S} {a ci k t z : Nat} {c : Int}
theorem my_gf (h : my_rep e n f σ) (hl : my_lay a = some (.inl ci)) (hc : (my_cd ci)[k]? = some c) : (32 ≤ a ∧ a < n) ∧ f a = .inr (ci, my_fl σ a (my_cd ci) 0) ∧ (my_fl σ a (my_cd ci) 0)[k]? = some (my_fld c σ a k) := by
  refine ⟨⟨my_lay_ge hl, h.1.2 a _ hl⟩, h.2.1 a _ hl, ?_⟩
  have := my_fl_get (σ := σ) (a := a) (k0 := 0) hc
  rwa [Nat.zero_add] at this
theorem my_putI {x : Int32} (h : my_rep e n f σ) (hl : my_lay a = some (.inl ci)) (hc : (my_cd ci)[k]? = some c) (hk : c = -1 ∨ c = -2) : my_rep e n (va_up f a (.inr (ci, (my_fl σ a (my_cd ci) 0).set k (.int x)))) (my_uI σ a k x) := by
  refine my_rep_up h hl ?_ (fun b hb l' => my_uI_ne hb l')
  simp only [my_cell]
  rw [my_fl_set (σ' := my_uI σ a k x) hc]
  · have e1 : Value.int ((my_uI σ a k x).1 a (0 + k)) = Value.int x := by simp [my_uI]
    rcases hk with rfl | rfl <;> exact e1
  · intro j c' hj
    exact my_fld_eq (by simp [my_uI]; intro h2; omega) rfl rfl
theorem my_putL {x : Int64} (h : my_rep e n f σ) (hl : my_lay a = some (.inl ci)) (hc : (my_cd ci)[k]? = some c) (hk : c = -3) : my_rep e n (va_up f a (.inr (ci, (my_fl σ a (my_cd ci) 0).set k (.long x)))) (my_uL σ a k x) := by
  refine my_rep_up h hl ?_ (fun b hb l' => my_uL_ne hb l')
  simp only [my_cell]
  rw [my_fl_set (σ' := my_uL σ a k x) hc]
  · have e1 : Value.long ((my_uL σ a k x).2.1 a (0 + k)) = Value.long x := by simp [my_uL]
    subst hk
    exact e1
  · intro j c' hj
    exact my_fld_eq rfl (by simp [my_uL]; intro h2; omega) rfl
theorem my_putA {x : Option Nat} (h : my_rep e n f σ) (hl : my_lay a = some (.inl ci)) (hc : (my_cd ci)[k]? = some c) (hk : c = -4) : my_rep e n (va_up f a (.inr (ci, (my_fl σ a (my_cd ci) 0).set k (va_rf x)))) (my_uA σ a k x) := by
  refine my_rep_up h hl ?_ (fun b hb l' => my_uA_ne hb l')
  simp only [my_cell]
  rw [my_fl_set (σ' := my_uA σ a k x) hc]
  · have e1 : va_rf ((my_uA σ a k x).2.2 a (0 + k)) = va_rf x := by simp [my_uA]
    subst hk
    exact e1
  · intro j c' hj
    exact my_fld_eq rfl rfl (by simp [my_uA]; intro h2; omega)
theorem my_arr (h : my_rep e n f σ) (hl : my_lay a = some (.inr (t, z))) : (32 ≤ a ∧ a < n) ∧ f a = .inl (t, z, my_ac t σ a) := ⟨⟨my_lay_ge hl, h.1.2 a _ hl⟩, h.2.1 a _ hl⟩
theorem my_astI {j : Nat} {x : Int32} (h : my_rep e n f σ) (hl : my_lay a = some (.inr (t, z))) (ht : t = 0 ∨ t = 1 ∨ t = 3) : my_rep e n (va_up f a (.inl (t, z, .inl (upd (σ.1 a) j x)))) (my_uI σ a j x) := by
  refine my_rep_up h hl ?_ (fun b hb l' => my_uI_ne hb l')
  have e9 : (my_uI σ a j x).1 a = upd (σ.1 a) j x := by funext i; simp [my_uI, upd]
  rcases ht with rfl | rfl | rfl <;> simp [my_cell, my_ac, e9]
theorem my_astL {j : Nat} {x : Int64} (h : my_rep e n f σ) (hl : my_lay a = some (.inr (2, z))) : my_rep e n (va_up f a (.inl (2, z, .inr (.inl (vp_updL (σ.2.1 a) j x))))) (my_uL σ a j x) := by
  refine my_rep_up h hl ?_ (fun b hb l' => my_uL_ne hb l')
  have e9 : (my_uL σ a j x).2.1 a = vp_updL (σ.2.1 a) j x := by funext i; simp [my_uL, vp_updL]
  simp [my_cell, my_ac, e9]
theorem my_ac_A (ht : 4 ≤ t) : my_ac t σ a = .inr (.inr (.inr (.inr (σ.2.2 a)))) := by
  obtain ⟨t, rfl⟩ : ∃ s, t = s + 4 := ⟨t - 4, by omega⟩
  rfl
theorem my_ac_I (ht : t = 0 ∨ t = 1 ∨ t = 3) : my_ac t σ a = .inl (σ.1 a) := by
  rcases ht with rfl | rfl | rfl <;> rfl
theorem my_astA {j : Nat} {x : Option Nat} (h : my_rep e n f σ) (hl : my_lay a = some (.inr (t, z))) (ht : 4 ≤ t) : my_rep e n (va_up f a (.inl (t, z, .inr (.inr (.inr (.inr (va_up (σ.2.2 a) j x))))))) (my_uA σ a j x) := by
  refine my_rep_up h hl ?_ (fun b hb l' => my_uA_ne hb l')
  have e9 : (my_uA σ a j x).2.2 a = va_up (σ.2.2 a) j x := by funext i; simp [my_uA, va_up]
  simp [my_cell, my_ac_A ht, e9]
end MYF
/-! ===== runs over that memory: from a place on, and of a method ===== -/
/-- the machine's variables hold these -/
def my_sub (lv : List (Nat × my_V)) (lv' : List (Nat × Value)) : Prop := ∀ x ∈ lv, mj_lk lv' x.1 = some (my_v x.2)
def my_oo (n : Nat) (f : Nat → va_E) : mj_Out → my_O → Prop
  | .inl v, .inl w => v = w.map my_v
  | .inr x, .inr (y, ci) => x = y ∧ (32 ≤ x ∧ x < n) ∧ ∃ fs, f x = .inr (ci, fs)
  | _, _ => False
def my_W (e : my_E) (d : Nat) (q : mj_Mi) (pc : Nat) (lv : List (Nat × my_V)) (st : List my_V) (κ : my_K) (σ : my_S) (Q : my_O → my_K → my_S → Prop) : Prop :=
  ∀ (lv' : List (Nat × Value)) (f : Nat → va_E) (C S cs ss : Nat), my_sub lv lv' → my_rep e κ.1 f σ → (cs ≤ C ∧ ss ≤ S) → (C - cs = κ.2.1 ∧ S - ss = κ.2.2) →
    ∃ (o : mj_Out) (n' : Nat) (f' : Nat → va_E) (c' s' : Nat) (o' : my_O) (σ' : my_S), mc_R e.1 d q C S pc lv' (st.map my_v) κ.1 f cs ss (o, n', f', c', s') ∧ (κ.1 ≤ n' ∧ c' ≤ C ∧ s' ≤ S) ∧ my_rep e n' f' σ' ∧ my_oo n' f' o o' ∧ Q o' (n', C - c', S - s') σ'
def my_M (e : my_E) (d mi : Nat) (av : List my_V) (κ : my_K) (σ : my_S) (Q : my_O → my_K → my_S → Prop) : Prop :=
  ∀ f : Nat → va_E, my_rep e κ.1 f σ → ∃ (o : mj_Out) (n' : Nat) (f' : Nat → va_E) (c' s' : Nat) (o' : my_O) (σ' : my_S), mc_Ret e.1 d mi (av.map my_v) κ.1 f κ.2.1 κ.2.2 (o, n', f', c', s') ∧ (κ.1 ≤ n' ∧ c' ≤ κ.2.1 ∧ s' ≤ κ.2.2) ∧ my_rep e n' f' σ' ∧ my_oo n' f' o o' ∧ Q o' (n', κ.2.1 - c', κ.2.2 - s') σ'
section MYW
variable {e : my_E} {d mi : Nat} {q : mj_Mi} {pc : Nat} {lv lv0 : List (Nat × my_V)} {st av : List my_V} {κ : my_K} {σ : my_S} {Q Q' : my_O → my_K → my_S → Prop}
theorem my_W.mono (h : my_W e d q pc lv st κ σ Q) (hQ : ∀ o κ' σ', Q o κ' σ' → Q' o κ' σ') : my_W e d q pc lv st κ σ Q' := by
  intro lv' f C S cs ss h1 h2 h3 h4
  obtain ⟨o, n', f', c', s', o', σ', a, b, c, d, k⟩ := h lv' f C S cs ss h1 h2 h3 h4
  exact ⟨o, n', f', c', s', o', σ', a, b, c, d, hQ _ _ _ k⟩
theorem my_M.mono (h : my_M e d mi av κ σ Q) (hQ : ∀ o κ' σ', Q o κ' σ' → Q' o κ' σ') : my_M e d mi av κ σ Q' := by
  intro f h2
  obtain ⟨o, n', f', c', s', o', σ', a, b, c, d, k⟩ := h f h2
  exact ⟨o, n', f', c', s', o', σ', a, b, c, d, hQ _ _ _ k⟩
theorem my_W.less (hs : ∀ lv', my_sub lv lv' → my_sub lv0 lv') (h : my_W e d q pc lv0 st κ σ Q) : my_W e d q pc lv st κ σ Q := fun lv' f C S cs ss h1 h2 h3 h4 => h lv' f C S cs ss (hs lv' h1) h2 h3 h4
/-- the parameters, as variables -/
def my_args : Nat → List my_V → List (Nat × my_V)
  | _, [] => []
  | i, .inr (.inl x) :: r => (i, .inr (.inl x)) :: my_args (i + 2) r
  | i, .inl x :: r => (i, .inl x) :: my_args (i + 1) r
  | i, .inr (.inr o) :: r => (i, .inr (.inr o)) :: my_args (i + 1) r
theorem my_v_cat (o : Option Nat) : (va_rf o).category = 1 := by cases o <;> rfl
theorem my_args_ge : ∀ {av : List my_V} {i : Nat}, ∀ x ∈ my_args i av, i ≤ x.1
  | [], _, x, h => by simp [my_args] at h
  | .inl y :: r, i, x, h => by
    simp only [my_args, List.mem_cons] at h
    rcases h with rfl | h
    · exact Nat.le_refl _
    · have := my_args_ge x h; omega
  | .inr (.inl y) :: r, i, x, h => by
    simp only [my_args, List.mem_cons] at h
    rcases h with rfl | h
    · exact Nat.le_refl _
    · have := my_args_ge x h; omega
  | .inr (.inr y) :: r, i, x, h => by
    simp only [my_args, List.mem_cons] at h
    rcases h with rfl | h
    · exact Nat.le_refl _
    · have := my_args_ge x h; omega
theorem my_lk_ne {i j : Nat} {v : Value} {l : List (Nat × Value)} (h : j ≠ i) : mj_lk ((j, v) :: l) i = mj_lk l i := by simp [mj_lk, h]
theorem my_lk_eq {i : Nat} {v : Value} {l : List (Nat × Value)} : mj_lk ((i, v) :: l) i = some v := by simp [mj_lk]
theorem my_args_sub : ∀ {av : List my_V} {i : Nat}, my_sub (my_args i av) (lv_args i (av.map my_v))
  | [], _ => fun x h => by simp [my_args] at h
  | .inl y :: r, i => fun x h => by
    simp only [my_args, List.mem_cons] at h
    simp only [List.map_cons, lv_args, my_v]
    rcases h with rfl | h
    · exact my_lk_eq
    · have := my_args_ge x h
      rw [my_lk_ne (by omega), if_neg (by simp [Value.category])]
      exact my_args_sub x h
  | .inr (.inl y) :: r, i => fun x h => by
    simp only [my_args, List.mem_cons] at h
    simp only [List.map_cons, lv_args, my_v]
    rcases h with rfl | h
    · exact my_lk_eq
    · have := my_args_ge x h
      rw [my_lk_ne (by omega), if_pos (by simp [Value.category])]
      exact my_args_sub x h
  | .inr (.inr y) :: r, i => fun x h => by
    simp only [my_args, List.mem_cons] at h
    simp only [List.map_cons, lv_args, my_v]
    rcases h with rfl | h
    · exact my_lk_eq
    · have := my_args_ge x h
      rw [my_lk_ne (by omega), if_neg (by rw [my_v_cat]; decide)]
      exact my_args_sub x h
theorem my_M_of (hq : mc_PR mi = some q) (hsz : (lg_sl (av.map my_v)).length ≤ q.2.2.1) (h : my_W e d q 0 (my_args 0 av) [] κ σ Q) : my_M e (d + 1) mi av κ σ Q := by
  intro f hf
  obtain ⟨o, n', f', c', s', o', σ', a, b, c, d, k⟩ := h (lv_args 0 (av.map my_v)) f κ.2.1 κ.2.2 0 0 my_args_sub hf ⟨Nat.zero_le _, Nat.zero_le _⟩ ⟨rfl, rfl⟩
  exact ⟨o, n', f', c', s', o', σ', mc_Ret.of hq hsz a, b, c, d, k⟩
end MYW
