/-! ===== the small machine: a step that calls is the machine's ===== -/
/-- what is thrown lies above the frame -/
def mj_TH (p : Program) (l : Launch) (e : Env) (R : Room) (s : State) (m : MethodId) (args : Array Value) (below : List Frame) (meth : Method) (c : Code) (H : Heap) (locs : List Loc) (cells slots : Nat) (Q : State → Prop) (g : JFrame) (x : Addr) : Prop :=
  ∀ T : State, T.heap = H → Stand p l e R s m args below meth c T locs cells slots → ∃ t, Steps p.tables e below ((T.setTop g).pushFrame (.throwing x)) t ∧ Q t
section MJB
variable {p : Program} {l : Launch} {e : Env} {R : Room} {s : State} {m : MethodId} {args : Array Value} {below : List Frame} {meth : Method} {c : Code} {H : Heap} {locs : List Loc} {Q : State → Prop}
variable {cc : ByteArray} {pc nL n n' base C S cs ss c' s' d : Nat} {ls : Array Slot} {st rest : List Value} {i : Instr} {D : va_G} {cl : List vw_C} {tc : Nat → ClassId} {ext : Nat → Nat} {fx : Nat → va_E} {f f' : Nat → va_E} {TY : List FieldType} {Ts : List Cond} {XF : State → Prop} {own : String} {out : mj_Out}
theorem mj_S_below (hbase : base ≤ s.heap.size) (hS : va_S (mj_B base) s.heap H locs) {q : Nat} (hq : q < base) : H[q]? = s.heap[q]? := hS.2.1 q (by omega) (fun h => by have : base ≤ q := h; omega)
theorem mj_after {first u : State} (hbase : base ≤ s.heap.size)
    (hcame : mj_Came p l e R s m args below meth c locs cs ss c' s' (mj_B base) (mj_Post D cl tc ext fx base out n' f') (F0 m pc ls (mj_st (mj_r ext base) rest)) 3 (mj_st (mj_r ext base) rest) first u)
    (hfirst : first.heap = H) (hS : va_S (mj_B base) s.heap H locs) (hHn : H.size ≤ base + (n' - 32))
    (hret : ∀ v, out = .inl v → ∀ (H1 : Heap) (locs1 : List Loc), mj_M D cl tc ext fx base n' f' H1 → va_S (mj_B base) s.heap H1 locs1 → W p l e R s m args below meth c H1 locs1 (cs + c') (ss + s') Q (F0 m (pc + 3) ls (mj_st (mj_r ext base) (v.toList ++ rest))))
    (hthr : ∀ x, out = .inr x → ∀ (H1 : Heap) (locs1 : List Loc), mj_M D cl tc ext fx base n' f' H1 → va_S (mj_B base) s.heap H1 locs1 → mj_TH p l e R s m args below meth c H1 locs1 (cs + c') (ss + s') Q (F0 m pc ls (mj_st (mj_r ext base) rest)) (mj_r ext base x)) :
    ∃ t, Steps p.tables e below u t ∧ Q t := by
  obtain ⟨o, t, T', L, X', e1, e2, ⟨ho, hM', hb'⟩, hL, hcase⟩ := hcame
  have hS' : va_S (mj_B base) s.heap T'.heap (locs ++ L) := by
    refine ⟨?_, fun q h1 h2 => ?_, fun q hq => ?_⟩
    · rw [e1, hM'.2.1]
      exact Nat.le_trans hS.1 hHn
    · have hq : q < base := Nat.not_le.mp h2
      rw [e1, hb' q hq, hfirst]
      exact mj_S_below hbase hS hq
    · rcases List.mem_append.mp hq with h | h
      · exact hS.2.2 q h
      · exact hL q h
  rcases hcase with ⟨v, rfl, hsteps⟩ | ⟨x, rfl, hsteps⟩
  · cases out with
    | inr x0 => cases ho
    | inl v0 =>
      have hv : v = v0.map (mj_v (mj_r ext base)) := by
        have h2 : Outcome.returned v = .returned (v0.map (mj_v (mj_r ext base))) := ho
        cases h2; rfl
      obtain ⟨t2, a1, b1⟩ := hret v0 rfl T'.heap (locs ++ L) (by rw [e1]; exact hM') hS' T' rfl X'
      refine ⟨t2, hsteps.trans ?_, b1⟩
      have e3 : v.toList ++ mj_st (mj_r ext base) rest = mj_st (mj_r ext base) (v0.toList ++ rest) := by
        subst hv
        cases v0 <;> rfl
      rw [e3]
      exact a1
  · cases out with
    | inl v0 => cases ho
    | inr x0 =>
      have hx : x = mj_r ext base x0 := by
        have h2 : Outcome.threw x = .threw (mj_r ext base x0) := ho
        cases h2; rfl
      obtain ⟨t2, a1, b1⟩ := hthr x0 rfl T'.heap (locs ++ L) (by rw [e1]; exact hM') hS' T' rfl X'
      refine ⟨t2, hsteps.trans ?_, b1⟩
      rw [hx]
      exact a1
end MJB
