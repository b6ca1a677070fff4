/-! ===== rules: fields and arrays ===== -/
section MJU
variable {fv : Value} {d : Nat} {q : mj_Mi} {C S pc : Nat} {lv : List (Nat × Value)} {st : List Value} {n : Nat} {f : Nat → va_E} {cs ss a idx ci k t z : Nat} {fs : List Value} {v : Value} {r : mj_End} {g : Nat → Int32} {gl : Nat → Int64} {j x : Int32}
theorem mc_R.get (hat : mj_at q.2.2.2.2.1 pc = some (.getfield idx)) (hp : (mc_PO fv q.2.2.2.2.2.1).2.1 idx = some (ci, k, t)) (h1 : 32 ≤ a) (h2 : a < n) (hf : f a = .inr (ci, fs)) (hv : fs[k]? = some v) (h : mc_R fv d q C S (pc + 3) lv (v :: st) n f cs ss r) : mc_R fv d q C S pc lv (.ref a :: st) n f cs ss r :=
  mc_R.step hat (fun call => by simp [mj_step, mj_sw, mj_g1a, mj_g4, h1, h2, hp, hf, hv]) h
theorem mc_R.put (hat : mj_at q.2.2.2.2.1 pc = some (.putfield idx)) (hp : (mc_PO fv q.2.2.2.2.2.1).2.1 idx = some (ci, k, t)) (h1 : 32 ≤ a) (h2 : a < n) (hf : f a = .inr (ci, fs)) (hk : k < fs.length) (hv : mj_fit (mc_ty ci k) v = true) (ht : t = 0 ∨ (t = 1 ∧ q.2.2.2.2.2.2.1 = true)) (h : mc_R fv d q C S (pc + 3) lv st n (va_up f a (.inr (ci, fs.set k v))) cs ss r) : mc_R fv d q C S pc lv (v :: .ref a :: st) n f cs ss r :=
  mc_R.step hat (fun call => by simp [mj_step, mj_sw, mj_g1a, mj_g4, h1, h2, hp, hf, hk, hv, ht]) h
theorem mc_R.iald (hat : mj_at q.2.2.2.2.1 pc = some .iaload) (h1 : 32 ≤ a) (h2 : a < n) (hf : f a = .inl (0, z, .inl g)) (hj : ¬ (j < 0 ∨ z ≤ j.toNatClampNeg)) (h : mc_R fv d q C S (pc + 1) lv (.int (g j.toNatClampNeg) :: st) n f cs ss r) : mc_R fv d q C S pc lv (.int j :: .ref a :: st) n f cs ss r :=
  mc_R.step hat (fun call => by
    have e1 : mj_g2 mc_TY .iaload pc n f (.int j :: .ref a :: st) = some (pc + 1, .int (g j.toNatClampNeg) :: st) := by
      simp only [mj_g2, h1, h2, hf, and_self, if_true]
      rw [if_pos (show mc_TY[0]? = some FieldType.int from rfl), if_neg hj]
    simp [mj_step, mj_sw, mj_g1a, mj_g4, mj_g1d, mj_bin, mj_binL, mj_g7, e1]) h
theorem mc_R.iast (hat : mj_at q.2.2.2.2.1 pc = some .iastore) (h1 : 32 ≤ a) (h2 : a < n) (hf : f a = .inl (0, z, .inl g)) (hj : ¬ (j < 0 ∨ z ≤ j.toNatClampNeg)) (h : mc_R fv d q C S (pc + 1) lv st n (va_up f a (.inl (0, z, .inl (upd g j.toNatClampNeg x)))) cs ss r) : mc_R fv d q C S pc lv (.int x :: .int j :: .ref a :: st) n f cs ss r :=
  mc_R.step hat (fun call => by
    have e1 : mj_g3 mc_TY mc_cm .iastore pc n f (.int x :: .int j :: .ref a :: st) = some (pc + 1, va_up f a (.inl (0, z, .inl (upd g j.toNatClampNeg x))), st) := by
      simp only [mj_g3, h1, h2, hf, and_self, if_true]
      rw [if_pos (show mc_TY[0]? = some FieldType.int from rfl), if_neg hj]
    simp [mj_step, mj_sw, mj_g1a, mj_g4, mj_g1d, mj_bin, mj_binL, mj_g7, mj_g2, mj_g1b, mj_g8, mj_g1c, e1]) h
end MJU
