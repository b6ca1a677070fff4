/-! ===== the bytes get more, and not too many ===== -/
def ml (S S' : St) : Prop := S.2.2.1.length ≤ S'.2.2.1.length ∧ (S.2.2.1.length ≤ 6144 → S'.2.2.1.length ≤ 6144)
theorem ml_r {S : St} : ml S S := ⟨Nat.le_refl _, id⟩
theorem ml_t {S S1 S2 : St} (h1 : ml S S1) (h2 : ml S1 S2) : ml S S2 := ⟨Nat.le_trans h1.1 h2.1, fun h => h2.2 (h1.2 h)⟩
theorem ml_e {S S' : St} (h : S'.2.2.1.length = S.2.2.1.length) : ml S S' := ⟨by omega, fun _ => by omega⟩
theorem ml_w1 {x : Int32} {S : St} : ml S (w1 x S) := by
  unfold w1
  refine my_ite (P := ml S) (fun h => ?_) (fun _ => ml_r)
  exact ⟨by simp, fun _ => by simp; omega⟩
theorem ml_wn {x : Int32} : ∀ {k j : Nat} {S : St}, ml S (wn x k j S)
  | 0, _, _ => ml_r
  | k + 1, j, S => ml_t ml_w1 ml_wn
theorem ml_wr {w : Bool} {x : Int32} {k : Nat} {S : St} : ml S (wr w x k S) := my_ite (P := ml S) (fun _ => ml_wn) (fun _ => ml_r)
theorem ml_wm {w : Bool} {pl : Nat} {S : St} : ml S (wm w pl S) := my_ite (P := ml S) (fun _ => ml_r) (fun _ => ml_r)
theorem ml_wf {w : Bool} {a b : Int32} {pl : Nat} {S : St} : ml S (wf w a b pl S) := my_ite (P := ml S) (fun _ => ml_r) (fun _ => my_ite (P := ml S) (fun _ => ml_r) (fun _ => my_ite (P := ml S) (fun _ => ml_r) (fun _ => ml_wm)))
theorem ml_wnm {w : Bool} {c : Int32} {r : Option Nat} {S : St} : ml S (wnm w c r S) := by
  unfold wnm
  refine my_ite (P := ml S) (fun _ => ?_) (fun _ => ml_r)
  cases r with
  | none => exact ml_r
  | some x => exact ml_t (ml_wn (x := c) (k := 1) (j := 0)) (ml_t (ml_e (S' := ndS x (wn c 1 0 S)) rfl) ml_wn)
theorem ml_mnt {I : List It} {w : Bool} {nm : List Nat} {kd : Int32} {pl : Nat} {S : St} : ml S (mnt I w nm kd pl S).2 := by
  unfold mnt
  cases itK I nm with
  | none => exact ml_wm
  | some k =>
    show ml S (if (itA I k).2.2.1 = kd then (some k, S) else (none, wm w pl S)).2
    split
    · exact ml_r
    · exact ml_wm
theorem ml_cend {I : List It} {w as : Bool} {r : Option Nat} {c pl : Nat} {b : Int32} {S : St} : ml S (cend I w as r c pl b S).2 := by
  cases r with
  | none => exact ml_r
  | some k =>
    show ml S (cenS I w as k c pl S)
    exact ml_t (my_ite (P := ml S) (fun _ => ml_r) (fun _ => ml_wm)) ml_wnm
def mlC (S : St) (x : Cs) : Prop := ∀ a c q S', x = some (.inr (a, c, q, S')) → ml S S'
theorem mlC_l {S : St} {q : Nat} : mlC S (some (.inl q)) := fun _ _ _ _ h => by cases h
theorem mlC_v {S S' : St} {a : Int32} {c q : Nat} (h : ml S S') : mlC S (some (.inr (a, c, q, S'))) := fun _ _ _ _ hh => by cases hh; exact h
theorem mlC_b {S S1 : St} {x : Cs} {k : Int32 → Nat → Nat → St → Cs} (h0 : ml S S1) (h : mlC S1 x) (hk : ∀ a c q S2, ml S S2 → mlC S (k a c q S2)) : mlC S (bc x k) := fun a c q S' hh => by
  rcases bc_s hh with ⟨q1, h1, h2⟩ | ⟨a1, c1, q1, S2, h1, h2⟩
  · cases h2
  · exact hk _ _ _ _ (ml_t h0 (h _ _ _ _ h1)) _ _ _ _ h2
section MML
variable {t : Nat → Int32} {n : Nat} {L : List (List Nat)} {LT : Nat → Int32} {I : List It} {w : Bool}
theorem ccal_ml {g : Cg} {as : Bool} {nm : List Nat} {pl q o : Nat} {S : St} (hg : ∀ m ty b pl rt c p o S, mlC S (g m ty b pl rt c p o S)) : mlC S (ccal t n I w g as nm pl q o S) := by
  unfold ccal
  exact my_ite (P := mlC S) (fun _ => mlC_l) (fun _ => my_ite (P := mlC S) (fun _ => mlC_v (ml_t ml_mnt ml_cend)) (fun _ => mlC_b ml_mnt (hg _ _ _ _ _ _ _ _ _) (fun _ _ _ _ h => mlC_v (ml_t h ml_cend))))
theorem cidx_ml {g : Cg} {nm : List Nat} {pl q o : Nat} {S : St} (hg : ∀ m ty b pl rt c p o S, mlC S (g m ty b pl rt c p o S)) : mlC S (cidx t n I w g nm pl q o S) := by
  unfold cidx
  exact my_ite (P := mlC S) (fun _ => mlC_l) (fun _ => mlC_b ml_mnt (hg _ _ _ _ _ _ _ _ _) (fun _ _ _ _ h => my_ite (P := mlC S) (fun _ => mlC_v (ml_t h ml_wf)) (fun _ => mlC_l)))
theorem cfac_ml {g : Cg} {p o : Nat} {S : St} (hg : ∀ m ty b pl rt c p o S, mlC S (g m ty b pl rt c p o S)) : mlC S (cfac t n L LT I w g p o S) := by
  unfold cfac
  refine my_ite (P := mlC S) (fun _ => my_ite (P := mlC S) (fun _ => mlC_l) (fun _ => mlC_b ml_r (hg _ _ _ _ _ _ _ _ _) (fun _ _ _ _ h => mlC_v (ml_t h (ml_t ml_wf ml_wr))))) (fun _ => ?_)
  refine my_ite (P := mlC S) (fun _ => my_ite (P := mlC S) (fun _ => mlC_l) (fun _ => mlC_b ml_r (hg _ _ _ _ _ _ _ _ _) (fun _ _ _ _ h => my_ite (P := mlC S) (fun _ => mlC_v h) (fun _ => mlC_l)))) (fun _ => ?_)
  refine my_ite (P := mlC S) (fun _ => mlC_v (ml_t ml_wr ml_wr)) (fun _ => ?_)
  refine my_ite (P := mlC S) (fun _ => mlC_v ml_wr) (fun _ => ?_)
  refine my_ite (P := mlC S) (fun _ => mlC_v ml_wr) (fun _ => ?_)
  refine my_ite (P := mlC S) (fun _ => ?_) (fun _ => mlC_l)
  refine my_ite (P := mlC S) (fun _ => ?_) (fun _ => my_ite (P := mlC S) (fun _ => ccal_ml hg) (fun _ => ?_))
  · exact mlC_b ml_r (cidx_ml hg) (fun _ _ _ _ h => mlC_v (ml_t h ml_wnm))
  · cases kwi L (tkm t n p) 0 with
    | none => exact mlC_v (ml_t ml_mnt ml_wnm)
    | some j => exact mlC_v (ml_t ml_wr ml_wr)
theorem cx_ml : ∀ f m ty b pl rt c p o S, mlC S (cx t n L LT I w f m ty b pl rt c p o S) := by
  intro f
  induction f with
  | zero => intro m ty b pl rt c p o S a c' q S' h; simp [cx] at h
  | succ f ih =>
    intro m ty b pl rt c p o S
    unfold cx
    refine my_ite (P := mlC S) (fun _ => mlC_b ml_r (ih _ _ _ _ _ _ _ _ _) (fun _ _ _ S2 h => fun _ _ _ _ hh => ml_t h (ih _ _ _ _ _ _ _ _ _ _ _ _ _ hh))) (fun _ => my_ite (P := mlC S) (fun _ => cfac_ml ih) (fun _ => my_ite (P := mlC S) (fun _ => my_ite (P := mlC S) (fun _ => ?_) (fun _ => mlC_v ml_r)) (fun _ => ?_)))
    · refine mlC_b ml_wf (ih _ _ _ _ _ _ _ _ _) (fun _ _ _ S2 h => my_ite (P := mlC S) (fun _ => mlC_v (ml_t h (ml_t ml_wf ml_wr))) (fun _ => fun _ _ _ _ hh => ml_t (ml_t h (ml_t ml_wf ml_wr)) (ih _ _ _ _ _ _ _ _ _ _ _ _ _ hh)))
    · refine mlC_b ml_r (ih _ _ _ _ _ _ _ _ _) (fun _ _ _ S2 h => my_ite (P := mlC S) (fun _ => fun _ _ _ _ hh => ml_t (ml_t h ml_wf) (ih _ _ _ _ _ _ _ _ _ _ _ _ _ hh)) (fun _ => my_ite (P := mlC S) (fun _ => mlC_v (ml_t h ml_wf)) (fun _ => mlC_l)))
end MML
