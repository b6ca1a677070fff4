/-! ===== what the constructors have made: it lies as the layout says ===== -/
def my_cfv (c : Int) (a : Nat) (v : Value) : Bool := match c, v with
  | .ofNat δ, .ref b => Nat.beq b (a + δ)
  | .negSucc 0, .int _ => true
  | .negSucc 1, .int _ => true
  | .negSucc 2, .long _ => true
  | .negSucc 3, .ref _ => true
  | .negSucc 3, .null => true
  | .negSucc (m + 4), .ref b => Nat.beq b (a - m)
  | _, _ => false
def my_cfl (a : Nat) : List Int → List Value → Bool
  | [], [] => true
  | c :: r, v :: s => my_cfv c a v && my_cfl a r s
  | _, _ => false
def my_cg (t : Nat) (g : (Nat → Int32) ⊕ (Nat → Int64) ⊕ (Nat → UInt32) ⊕ (Nat → UInt64) ⊕ (Nat → Option Nat)) : Bool := match t, g with
  | 0, .inl _ => true
  | 1, .inl _ => true
  | 2, .inr (.inl _) => true
  | 3, .inl _ => true
  | 4, .inr (.inr (.inr (.inr _))) => true
  | 5, .inr (.inr (.inr (.inr _))) => true
  | 6, .inr (.inr (.inr (.inr _))) => true
  | _, _ => false
def my_cf (a : Nat) (l : Nat ⊕ (Nat × Nat)) (c : va_E) : Bool := match l, c with
  | .inl ci, .inr (cj, fs) => Nat.beq cj ci && my_cfl a (my_cd ci) fs
  | .inr (t, z), .inl (t', z', g) => (Nat.beq t' t && Nat.beq z' z) && my_cg t g
  | _, _ => false
def my_cfa (f : Nat → va_E) : Nat → List (Nat ⊕ (Nat × Nat)) → Bool
  | _, [] => true
  | a, l :: r => my_cf a l (f a) && my_cfa f (a + 1) r
/-- what is read there -/
def my_rd (f : Nat → va_E) : my_S :=
  (fun a k => match f a with
    | .inl (_, _, .inl g) => g k
    | .inr (_, fs) => (match fs[k]? with
      | some (.int x) => x
      | _ => 0)
    | _ => 0,
   fun a k => match f a with
    | .inl (_, _, .inr (.inl g)) => g k
    | .inr (_, fs) => (match fs[k]? with
      | some (.long x) => x
      | _ => 0)
    | _ => 0,
   fun a k => match f a with
    | .inl (_, _, .inr (.inr (.inr (.inr g)))) => g k
    | .inr (_, fs) => (match fs[k]? with
      | some (.ref b) => some b
      | _ => none)
    | _ => none)
theorem my_cfl_ok {f : Nat → va_E} {a ci : Nat} {fs : List Value} (hf : f a = .inr (ci, fs)) : ∀ (cs : List Int) (vs : List Value) (k0 : Nat), (∀ j, fs[k0 + j]? = vs[j]?) → my_cfl a cs vs = true → vs = my_fl (my_rd f) a cs k0
  | [], [], _, _, _ => rfl
  | [], _ :: _, _, _, h => by simp [my_cfl] at h
  | _ :: _, [], _, _, h => by simp [my_cfl] at h
  | c :: r, v :: s, k0, hk, h => by
    simp only [my_cfl, Bool.and_eq_true] at h
    have h0 : fs[k0]? = some v := by simpa using hk 0
    have ih := my_cfl_ok hf r s (k0 + 1) (fun j => by have := hk (j + 1); rw [show k0 + 1 + j = k0 + (j + 1) by omega]; simpa using this) h.2
    simp only [my_fl]
    rw [← ih]
    congr 1
    have h1 := h.1
    unfold my_cfv at h1
    split at h1
    · have := Nat.eq_of_beq_eq_true h1; subst this; rfl
    · simp [my_fld, my_rd, hf, h0]
    · simp [my_fld, my_rd, hf, h0]
    · simp [my_fld, my_rd, hf, h0]
    · simp [my_fld, my_rd, hf, h0, va_rf]
    · simp [my_fld, my_rd, hf, h0, va_rf]
    · have := Nat.eq_of_beq_eq_true h1; subst this; rfl
    · cases h1
theorem my_cf_ok {f : Nat → va_E} {a : Nat} {l : Nat ⊕ (Nat × Nat)} (h : my_cf a l (f a) = true) : f a = my_cell l (my_rd f) a := by
  rcases l with ci | ⟨t, z⟩
  · cases hf : f a with
    | inl x => rw [hf] at h; simp [my_cf] at h
    | inr x =>
      obtain ⟨cj, fs⟩ := x
      rw [hf] at h
      simp only [my_cf, Bool.and_eq_true] at h
      have := Nat.eq_of_beq_eq_true h.1
      subst this
      simp only [my_cell]
      rw [← my_cfl_ok hf (my_cd cj) fs 0 (fun j => by rw [Nat.zero_add]) h.2]
  · cases hf : f a with
    | inr x => rw [hf] at h; simp [my_cf] at h
    | inl x =>
      obtain ⟨t', z', g⟩ := x
      rw [hf] at h
      simp only [my_cf, Bool.and_eq_true] at h
      have e1 := Nat.eq_of_beq_eq_true h.1.1
      have e2 := Nat.eq_of_beq_eq_true h.1.2
      subst e1; subst e2
      have h2 := h.2
      simp only [my_cell]
      unfold my_cg at h2
      split at h2 <;> first | (cases h2; done) | (simp only [my_ac, my_rd, hf])
theorem my_cfa_ok {f : Nat → va_E} : ∀ (L : List (Nat ⊕ (Nat × Nat))) (a0 j : Nat) (l : Nat ⊕ (Nat × Nat)), my_cfa f a0 L = true → L[j]? = some l → my_cf (a0 + j) l (f (a0 + j)) = true
  | [], _, j, l, _, h => by simp at h
  | l0 :: r, a0, 0, l, h, hj => by
    simp only [my_cfa, Bool.and_eq_true] at h
    simp only [List.getElem?_cons_zero, Option.some.injEq] at hj
    subst hj
    exact h.1
  | l0 :: r, a0, j + 1, l, h, hj => by
    simp only [my_cfa, Bool.and_eq_true] at h
    have := my_cfa_ok r (a0 + 1) j l h.2 (by simpa using hj)
    rwa [show a0 + 1 + j = a0 + (j + 1) by omega] at this
theorem my_rep_of {e : my_E} {f g : Nat → va_E} (hc : my_cfa f 32 my_tb = true) (hle : my_le f g) (h0 : ∀ k, k < 32 → g k = mc_fx e.2.1 e.2.2 k) (n : Nat) (hn : 586 ≤ n) : my_rep e n g (my_rd f) := by
  have hlen : my_tb.length = 554 := by decide +kernel
  refine ⟨⟨by omega, fun a l hl => ?_⟩, fun a l hl => ?_, h0⟩
  · have h1 := my_lay_ge hl
    unfold my_lay at hl
    rw [if_neg (by omega)] at hl
    have := (List.getElem?_eq_some_iff.mp hl).1
    omega
  · have h1 := my_lay_ge hl
    have h2 := hl
    unfold my_lay at h2
    rw [if_neg (by omega)] at h2
    have h3 := my_cfa_ok my_tb 32 (a - 32) l hc h2
    rw [show 32 + (a - 32) = a by omega] at h3
    rw [← hle.1 a (by omega)]
    exact my_cf_ok h3
