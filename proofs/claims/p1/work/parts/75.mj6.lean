/-! ===== the small machine: fields ===== -/
def mj_fit : FieldType → Value → Bool
  | .int, .int _ => true
  | .long, .long _ => true
  | .boolean, .int x => decide (x = 0) || decide (x = 1)
  | .byte, .int x => decide (x.toInt8.toInt32 = x)
  | .char, .int x => decide ((x.toUInt32 % 65536).toInt32 = x)
  | .object _, .ref _ => true
  | .object _, .null => true
  | .array _, .ref _ => true
  | .array _, .null => true
  | _, _ => false
theorem mj_fit_ok {ty : FieldType} {v : Value} (h : mj_fit ty v = true) (ρ : Nat → Nat) : narrow ty (mj_v ρ v) = mj_v ρ v ∧ fits ty (mj_v ρ v) = true := by
  unfold mj_fit at h
  split at h
  · exact ⟨rfl, rfl⟩
  · exact ⟨rfl, rfl⟩
  · simp only [Bool.or_eq_true, decide_eq_true_eq] at h
    rcases h with rfl | rfl <;> exact ⟨rfl, rfl⟩
  · have h := of_decide_eq_true h
    rw [← h]
    exact ⟨pk_nb _, pk_fb _⟩
  · have h := of_decide_eq_true h
    rw [← h]
    exact ⟨pk_nc _, pk_fc _⟩
  · exact ⟨rfl, rfl⟩
  · exact ⟨rfl, rfl⟩
  · exact ⟨rfl, rfl⟩
  · exact ⟨rfl, rfl⟩
  · cases h
def mj_g4 (cty : Nat → Nat → FieldType) (pf : Nat → Option (Nat × Nat × Nat)) (ini : Bool) (i : Instr) (pc n : Nat) (f : Nat → va_E) (st : List Value) : Option (Nat × (Nat → va_E) × List Value) :=
  match i with
  | .getfield idx => match st with
    | .ref a :: r => if 32 ≤ a ∧ a < n then match pf idx with
      | some (ci, k, _) => match f a with
        | .inr (cj, fs) => if cj = ci then match fs[k]? with
          | some v => some (pc + 3, f, v :: r)
          | none => none else none
        | _ => none
      | none => none else none
    | _ => none
  | .putfield idx => match st with
    | v :: .ref a :: r => if 32 ≤ a ∧ a < n then match pf idx with
      | some (ci, k, t) => match f a with
        | .inr (cj, fs) => if (cj = ci ∧ k < fs.length) ∧ mj_fit (cty ci k) v = true ∧ (t = 0 ∨ (t = 1 ∧ ini = true)) then some (pc + 3, va_up f a (.inr (ci, fs.set k v)), r) else none
        | _ => none
      | none => none else none
    | _ => none
  | _ => none
section MJ6
variable {p : Program} {l : Launch} {e : Env} {R : Room} {s : State} {m : MethodId} {args : Array Value} {below : List Frame} {meth : Method} {c : Code} {H H0 : Heap} {locs : List Loc} {cells slots : Nat} {Q : State → Prop}
variable {cc : ByteArray} {pc pc' nL n base : Nat} {ls : Array Slot} {st st' : List Value} {i : Instr} {D : va_G} {cl cl0 : List vw_C} {tc : Nat → ClassId} {ext : Nat → Nat} {fx : Nat → va_E} {f f' : Nat → va_E} {TY : List FieldType} {Ts : List Cond} {own : String} {cty : Nat → Nat → FieldType} {pf : Nat → Option (Nat × Nat × Nat)} {ini : Bool}
theorem mj_g4_ok (hexec : p.tables.exec = Jvm.exec) (hb : c.code = cc) (hdg : decode cc pc = .ok (i, mj_ln i)) (hts : ∀ w ∈ Ts, w.before args s = true) (hown : s.vm.findClass own = some m.cls) (hini : ini = true → meth.name = "<init>") (hsub : mj_sub cl cl0) (hCL : mj_CL cl0 Ts cty) (hPF : mj_PF cl0 Ts own pf) (hK : va_K D cl (mj_tys TY tc) s) (hM : mj_M D cl tc ext fx base n f H) (hS : va_S (mj_B base) H0 H locs) (h : mj_g4 cty pf ini i pc n f st = some (pc', f', st'))
    (kk : ∀ (H1 : Heap) (locs1 : List Loc), mj_M D cl tc ext fx base n f' H1 → va_S (mj_B base) H0 H1 locs1 → W p l e R s m args below meth c H1 locs1 cells slots Q (F0 m pc' ls (mj_st (mj_r ext base) st'))) : W p l e R s m args below meth c H locs cells slots Q (F0 m pc ls (mj_st (mj_r ext base) st)) := by
  cases i <;> simp only [mj_g4, reduceCtorEq] at h
  case getfield idx =>
    split at h <;> simp only [Option.ite_none_right_eq_some, reduceCtorEq] at h
    obtain ⟨⟨h1, h2⟩, h⟩ := h
    split at h <;> (try simp only [reduceCtorEq] at h)
    rename_i ci k t hp
    split at h <;> simp only [Option.ite_none_right_eq_some, reduceCtorEq] at h
    rename_i cj fs e1
    obtain ⟨rfl, h⟩ := h
    split at h <;> simp only [Option.some.injEq, Prod.mk.injEq, reduceCtorEq] at h
    rename_i v hv
    obtain ⟨rfl, rfl, rfl⟩ := h
    obtain ⟨q, hc, hk, hlk, -, -⟩ := hPF _ _ _ _ hp
    have hP := hM.one h1 h2 e1
    have hP0 := hM.2.2.1 _ h1 h2
    rw [e1] at hP0
    obtain ⟨r0, hr0, -⟩ := hP0
    cases hc.symm.trans (hsub.1 _ _ hr0)
    have hv2 : (fs.map (mj_v (mj_r ext base)))[k]? = some (mj_v (mj_r ext base) v) := by simp [hv]
    rcases hlk with hlk | ⟨host, hlk⟩
    · exact va_get hexec hb hts (hCL _ _ hc).1 hown hK hP 0 rfl hr0 k hk (hts _ hlk) (fun _ h9 => h9) hv2 hdg (kk H locs hM hS)
    · exact va_getN hexec hb hts (hCL _ _ hc).1 hown hK hP 0 rfl hr0 k hk (hts _ hlk) (fun _ h9 => h9) hv2 hdg (kk H locs hM hS)
  case putfield idx =>
    split at h <;> simp only [Option.ite_none_right_eq_some, reduceCtorEq] at h
    obtain ⟨⟨h1, h2⟩, h⟩ := h
    split at h <;> (try simp only [reduceCtorEq] at h)
    rename_i v a r _ ci k t hp
    split at h <;> simp only [Option.ite_none_right_eq_some, Option.some.injEq, Prod.mk.injEq, reduceCtorEq] at h
    rename_i cj fs e1
    obtain ⟨⟨⟨rfl, h3⟩, h4, h5⟩, rfl, rfl, rfl⟩ := h
    obtain ⟨q, hc, hk, hlk, hf0, hf1⟩ := hPF _ _ _ _ hp
    obtain ⟨w1, w2, w3⟩ := hCL _ _ hc
    obtain ⟨C, T, N⟩ := q
    dsimp only at hk hlk hf0 hf1 w1 w2 w3
    have hP := hM.2.2.1 _ h1 h2
    rw [e1] at hP
    obtain ⟨q', hq', cell, q1, q2, q3, q4⟩ := hP
    cases hc.symm.trans (hsub.1 _ _ hq')
    have hap := va_apart (own := own) hts w1 (cty cj) w2 w3 hK hq'
    obtain ⟨hSl, hfc, kC, hkC, hkind⟩ := hK.1 _ _ hq'
    obtain ⟨cf, kf, fi, fd, hi, hsl⟩ := hSl k hk
    obtain ⟨n1, n2⟩ := mj_fit_ok h4 (mj_r ext base)
    have hst := (u_facts hfc hkC (u_lays hts w1 hk) hi).1
    have fin : ∀ (H1 : Heap), H1[mj_r ext base a]? = some (cell.setSlot (D.2 cj k) (mj_v (mj_r ext base) v)) → va_at D cl (mj_r ext base a, mj_c (mj_r ext base) tc (.inr (cj, fs.set k v))) H1 := by
      intro H1 e2
      refine ⟨_, hq', t_OB.to (V := updV (vp_V (fs.map (mj_v (mj_r ext base)))) k (mj_v (mj_r ext base) v)) ⟨_, e2, q2, q3, t_set q4 hap hk _⟩ (fun j _ => ?_)⟩
      rw [vp_updV_set (by simpa using h3)]
      simp [List.map_set]
    by_cases ht : t = 0
    · have hlay := hts _ (w1 _ (u_in_lay hk))
      unfold u_lay at hlay
      rw [if_neg (by rw [hf0 ht]; decide)] at hlay
      have h6 := u_store hfc hkC hkind hlay hi (w2 k hk) n1 n2
      rcases hlk with hlk | ⟨host, hlk⟩
      · refine W.putK hexec hb (f := fd) ⟨hown, hts _ hlk, ⟨_, _, _, hi⟩, hst⟩ (by rw [q2]; exact h6) q1 q3 (by rw [hsl]; exact k2_hasslot (q4 k hk)) rfl rfl hdg fun H1 z1 z2 z3 => ?_
        rw [hsl] at z1 ⊢
        exact kk H1 _ (hM.put h1 h2 z2 (fin H1 z1) z3) (hS.put z2 z3 (mj_r_B h1))
      · refine va_WputK hexec hb (f := fd) hown (hts _ hlk) hi hst (by rw [q2]; exact h6) q1 q3 (by rw [hsl]; exact k2_hasslot (q4 k hk)) rfl rfl hdg fun H1 z1 z2 z3 => ?_
        rw [hsl] at z1 ⊢
        exact kk H1 _ (hM.put h1 h2 z2 (fin H1 z1) z3) (hS.put z2 z3 (mj_r_B h1))
    · obtain ⟨ht1, hi1⟩ := h5.resolve_left ht
      obtain ⟨f1, f2, f3⟩ := hf1 ht1
      have hlay := hts _ (w1 _ (u_in_lay hk))
      unfold u_lay at hlay
      rw [if_pos f1] at hlay
      have hcf : m.cls = cf := by
        obtain ⟨_, _, c', _, _, _, -, -, hf', -, -, -, hown2, -⟩ := Cond.laysFinal_spec hlay
        have e1 : c' = cf := by have := hi.symm.trans hf'; simp at this; exact this.1.symm
        rw [f2] at hown2
        rw [← e1]; exact Option.some.inj (hown.symm.trans hown2)
      have h6 := u_fits hfc hkC hkind (Or.inr hlay) hi (w2 k hk) n1 n2
      refine W.putFinK hexec hb hown (hts _ f3) hi hst hcf (hini hi1) (by rw [q2]; exact h6) q1 q3 (by rw [hsl]; exact k2_hasslot (q4 k hk)) rfl rfl hdg fun H1 z1 z2 z3 => ?_
      rw [hsl] at z1 ⊢
      exact kk H1 _ (hM.put h1 h2 z2 (fin H1 z1) z3) (hS.put z2 z3 (mj_r_B h1))
end MJ6
