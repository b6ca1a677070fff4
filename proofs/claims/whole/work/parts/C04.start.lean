
/-! ===== the start, whole: the arrays too ===== -/
def my_dA (f : Nat → va_E) (a z : Nat) (w : Nat → Option Nat) : Bool := match f a with
  | .inl (_, _, .inr (.inr (.inr (.inr g)))) => (List.range z).all (fun k => decide (g k = w k))
  | _ => false
def my_dL (f : Nat → va_E) (a z : Nat) (w : Nat → Int64) : Bool := match f a with
  | .inl (_, _, .inr (.inl g)) => (List.range z).all (fun k => decide (g k = w k))
  | _ => false
def my_dI (f : Nat → va_E) (a z : Nat) (w : Nat → Int32) : Bool := match f a with
  | .inl (_, _, .inl g) => (List.range z).all (fun k => decide (g k = w k))
  | _ => false
theorem my_dA_at {f g : Nat → va_E} {a z : Nat} {w : Nat → Option Nat} (h : my_dA f a z w = true) (hg : f a = g a) (k : Nat) (hk : k < z) : (my_rd g).2.2 a k = w k := by
  unfold my_dA at h
  split at h
  · rename_i t z' g0 hf
    have := of_decide_eq_true (List.all_eq_true.mp h k (List.mem_range.mpr hk))
    rw [hg] at hf
    simp [my_rd, hf, this]
  · cases h
theorem my_dL_at {f g : Nat → va_E} {a z : Nat} {w : Nat → Int64} (h : my_dL f a z w = true) (hg : f a = g a) (k : Nat) (hk : k < z) : (my_rd g).2.1 a k = w k := by
  unfold my_dL at h
  split at h
  · rename_i t z' g0 hf
    have := of_decide_eq_true (List.all_eq_true.mp h k (List.mem_range.mpr hk))
    rw [hg] at hf
    simp [my_rd, hf, this]
  · cases h
theorem my_dI_at {f g : Nat → va_E} {a z : Nat} {w : Nat → Int32} (h : my_dI f a z w = true) (hg : f a = g a) (k : Nat) (hk : k < z) : (my_rd g).1 a k = w k := by
  unfold my_dI at h
  split at h
  · rename_i t z' g0 hf
    have := of_decide_eq_true (List.all_eq_true.mp h k (List.mem_range.mpr hk))
    rw [hg] at hf
    simp [my_rd, hf, this]
  · cases h
def wP (i : Nat) : Option Nat := some (65 + 2 * i)
def wL (i : Nat) : Option Nat := if i = 0 then some 94 else some 101
def wV (rv k : Nat) : Option Nat := some (rv + 4 + 3 * k)
def wK (j : Nat) : Int64 := nmC (kw.getD j [])
def wR (j : Nat) : Int64 := nmR (kw.getD j [])
def wC (j : Nat) : Int64 := if j = 0 then 0 else nmR (cw j)
def my_qA (f : Nat → va_E) : Bool := my_dA f 63 12 wP && my_dA f 91 2 wL && my_dA f 110 42 (wV 108) && my_dA f 240 42 (wV 238) && my_dA f 370 42 (wV 368) && my_dL f 38 17 wK
def my_qB (f : Nat → va_E) : Bool := my_dL f 500 17 wR && my_dL f 575 32 wC && my_dI f 540 48 (fun _ => 0)
def my_chkC (fv : Value) : Bool := match my_fgo fv 100000 1049 mp_law 601024 7293034 4 (0, lv_args 0 [.ref 0], [], 32, my_fP, 0, 0) with
  | some (_, _, _, _, f, _, _) => my_qA f
  | none => false
def my_chkD (fv : Value) : Bool := match my_fgo fv 100000 1049 mp_law 601024 7293034 9 (8, [(1, .ref 32), (0, .ref 0)], [], 498, my_fP, 466, 76095) with
  | some (_, _, _, _, f, _, _) => my_qB f
  | none => false
