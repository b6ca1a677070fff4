
/-! ===== the items needed are items; nothing is written on the first way ===== -/
def mk (I : List It) (w : Bool) (S S' : St) : Prop := ((∀ x ∈ S.2.2.2, x < I.length) → ∀ x ∈ S'.2.2.2, x < I.length) ∧ (w = false → S' = S)
section MMK
variable {t : Nat → Int32} {n : Nat} {L : List (List Nat)} {LT : Nat → Int32} {I : List It} {w : Bool}
theorem mk_r {S : St} : mk I w S S := ⟨id, fun _ => rfl⟩
theorem mk_t {S S1 S2 : St} (h1 : mk I w S S1) (h2 : mk I w S1 S2) : mk I w S S2 := ⟨fun h => h2.1 (h1.1 h), fun h => by rw [h2.2 h, h1.2 h]⟩
theorem w1_N {x : Int32} {S : St} : (w1 x S).2.2.2 = S.2.2.2 := by
  unfold w1
  split <;> rfl
theorem wn_N {x : Int32} : ∀ {k j : Nat} {S : St}, (wn x k j S).2.2.2 = S.2.2.2
  | 0, _, _ => rfl
  | k + 1, j, S => by rw [wn, wn_N, w1_N]
theorem p1_N {k x : Int32} {S : St} : (p1 k x S).2.2.2 = S.2.2.2 := by
  unfold p1
  repeat' split
  all_goals rfl
theorem mk_T {S S' : St} (hw : w = true) (h : S'.2.2.2 = S.2.2.2) : mk I w S S' := ⟨fun hh x hx => hh x (by rw [← h]; exact hx), fun hf => by rw [hw] at hf; cases hf⟩
theorem mk_wr {x : Int32} {k : Nat} {S : St} : mk I w S (wr w x k S) := my_ite (P := mk I w S) (fun hw => mk_T hw wn_N) (fun _ => mk_r)
theorem mk_wm {pl : Nat} {S : St} : mk I w S (wm w pl S) := my_ite (P := mk I w S) (fun hw => mk_T hw rfl) (fun _ => mk_r)
theorem mk_wf {a b : Int32} {pl : Nat} {S : St} : mk I w S (wf w a b pl S) := my_ite (P := mk I w S) (fun _ => mk_r) (fun _ => my_ite (P := mk I w S) (fun _ => mk_r) (fun _ => my_ite (P := mk I w S) (fun _ => mk_r) (fun _ => mk_wm)))
theorem nid_m {N : List Nat} {x y : Nat} (h : y ∈ (nid N x).2) : y ∈ N ∨ y = x := by
  unfold nid at h
  split at h
  · exact Or.inl h
  · split at h
    · rcases List.mem_append.mp h with h | h
      · exact Or.inl h
      · exact Or.inr (List.mem_singleton.mp h)
    · exact Or.inl h
theorem mk_wnm {c : Int32} {r : Option Nat} {S : St} (hr : ∀ k, r = some k → k < I.length) : mk I w S (wnm w c r S) := by
  unfold wnm
  refine my_ite (P := mk I w S) (fun hw => ?_) (fun _ => mk_r)
  cases r with
  | none => exact mk_r
  | some x =>
    refine ⟨fun hh y hy => ?_, fun hf => by rw [hw] at hf; cases hf⟩
    simp only [] at hy
    rw [wn_N] at hy
    unfold ndS at hy
    simp only [] at hy
    rcases nid_m hy with h | h
    · exact hh y (by rw [wn_N] at h; exact h)
    · rw [h]; exact hr x rfl
theorem mk_mr {nm : List Nat} {kd : Int32} {pl : Nat} {S : St} : ∀ k, (mnt I w nm kd pl S).1 = some k → k < I.length := fun k h => by
  unfold mnt at h
  cases hk : itK I nm with
  | none => rw [hk] at h; cases h
  | some j =>
    rw [hk] at h
    simp only [] at h
    split at h
    · cases h; exact itK_lt hk
    · cases h
theorem mk_lnd {cF j : Int32} {S : St} : mk I w S (lnd w cF j S) := my_ite (P := mk I w S) (fun hw => mk_T hw (by rw [p1_N, p1_N])) (fun _ => mk_r)
theorem mk_lnds {cF : Int32} : ∀ {B : List Int32} {S : St}, mk I w S (lnds w cF B S)
  | [], _ => mk_r
  | j :: B, S => mk_t mk_lnd mk_lnds
theorem mk_wjS {c v : Int32} {S : St} : mk I w S (wjS w c v S) := mk_t mk_wr mk_wr
theorem mk_mnt {nm : List Nat} {kd : Int32} {pl : Nat} {S : St} : mk I w S (mnt I w nm kd pl S).2 := by
  unfold mnt
  cases itK I nm with
  | none => exact mk_wm
  | some k =>
    show mk I w S (if (itA I k).2.2.1 = kd then (some k, S) else (none, wm w pl S)).2
    split
    · exact mk_r
    · exact mk_wm
theorem mk_cend {as : Bool} {r : Option Nat} {c pl : Nat} {b : Int32} {S : St} (hr : ∀ k, r = some k → k < I.length) : mk I w S (cend I w as r c pl b S).2 := by
  cases r with
  | none => exact mk_r
  | some k =>
    show mk I w S (cenS I w as k c pl S)
    exact mk_t (my_ite (P := mk I w S) (fun _ => mk_r) (fun _ => mk_wm)) (mk_wnm hr)
def mkC (I : List It) (w : Bool) (S : St) (x : Cs) : Prop := ∀ a c q S', x = some (.inr (a, c, q, S')) → mk I w S S'
theorem mkC_l {S : St} {q : Nat} : mkC I w S (some (.inl q)) := fun _ _ _ _ h => by cases h
theorem mkC_v {S S' : St} {a : Int32} {c q : Nat} (h : mk I w S S') : mkC I w S (some (.inr (a, c, q, S'))) := fun _ _ _ _ hh => by cases hh; exact h
theorem mkC_b {S S1 : St} {x : Cs} {k : Int32 → Nat → Nat → St → Cs} (h0 : mk I w S S1) (h : mkC I w S1 x) (hk : ∀ a c q S2, mk I w S S2 → mkC I w S (k a c q S2)) : mkC I w S (bc x k) := fun a c q S' hh => by
  rcases bc_s hh with ⟨q1, h1, h2⟩ | ⟨a1, c1, q1, S2, h1, h2⟩
  · cases h2
  · exact hk _ _ _ _ (mk_t h0 (h _ _ _ _ h1)) _ _ _ _ h2
theorem ccal_mk {g : Cg} {as : Bool} {nm : List Nat} {pl q o : Nat} {S : St} (hg : ∀ m ty b pl rt c p o S, mkC I w S (g m ty b pl rt c p o S)) : mkC I w S (ccal t n I w g as nm pl q o S) := by
  unfold ccal
  exact my_ite (P := mkC I w S) (fun _ => mkC_l) (fun _ => my_ite (P := mkC I w S) (fun _ => mkC_v (mk_t mk_mnt (mk_cend mk_mr))) (fun _ => mkC_b mk_mnt (hg _ _ _ _ _ _ _ _ _) (fun _ _ _ _ h => mkC_v (mk_t h (mk_cend mk_mr)))))
theorem cidx_mk {g : Cg} {nm : List Nat} {pl q o : Nat} {S : St} (hg : ∀ m ty b pl rt c p o S, mkC I w S (g m ty b pl rt c p o S)) : mkC I w S (cidx t n I w g nm pl q o S) := by
  unfold cidx
  exact my_ite (P := mkC I w S) (fun _ => mkC_l) (fun _ => mkC_b mk_mnt (hg _ _ _ _ _ _ _ _ _) (fun _ _ _ _ h => my_ite (P := mkC I w S) (fun _ => mkC_v (mk_t h mk_wf)) (fun _ => mkC_l)))
theorem cfac_mk {g : Cg} {p o : Nat} {S : St} (hg : ∀ m ty b pl rt c p o S, mkC I w S (g m ty b pl rt c p o S)) : mkC I w S (cfac t n L LT I w g p o S) := by
  unfold cfac
  refine my_ite (P := mkC I w S) (fun _ => my_ite (P := mkC I w S) (fun _ => mkC_l) (fun _ => mkC_b mk_r (hg _ _ _ _ _ _ _ _ _) (fun _ _ _ _ h => mkC_v (mk_t h (mk_t mk_wf mk_wr))))) (fun _ => ?_)
  refine my_ite (P := mkC I w S) (fun _ => my_ite (P := mkC I w S) (fun _ => mkC_l) (fun _ => mkC_b mk_r (hg _ _ _ _ _ _ _ _ _) (fun _ _ _ _ h => my_ite (P := mkC I w S) (fun _ => mkC_v h) (fun _ => mkC_l)))) (fun _ => ?_)
  refine my_ite (P := mkC I w S) (fun _ => mkC_v (mk_t mk_wr mk_wr)) (fun _ => ?_)
  refine my_ite (P := mkC I w S) (fun _ => mkC_v mk_wr) (fun _ => ?_)
  refine my_ite (P := mkC I w S) (fun _ => mkC_v mk_wr) (fun _ => ?_)
  refine my_ite (P := mkC I w S) (fun _ => ?_) (fun _ => mkC_l)
  refine my_ite (P := mkC I w S) (fun _ => ?_) (fun _ => my_ite (P := mkC I w S) (fun _ => ccal_mk hg) (fun _ => ?_))
  · exact mkC_b mk_r (cidx_mk hg) (fun _ _ _ _ h => mkC_v (mk_t h (mk_wnm mk_mr)))
  · cases kwi L (tkm t n p) 0 with
    | none => exact mkC_v (mk_t mk_mnt (mk_wnm mk_mr))
    | some j => exact mkC_v (mk_t mk_wr mk_wr)
theorem cx_mk : ∀ f m ty b pl rt c p o S, mkC I w S (cx t n L LT I w f m ty b pl rt c p o S) := by
  intro f
  induction f with
  | zero => intro m ty b pl rt c p o S a c' q S' h; simp [cx] at h
  | succ f ih =>
    intro m ty b pl rt c p o S
    unfold cx
    refine my_ite (P := mkC I w S) (fun _ => mkC_b mk_r (ih _ _ _ _ _ _ _ _ _) (fun _ _ _ S2 h => fun _ _ _ _ hh => mk_t h (ih _ _ _ _ _ _ _ _ _ _ _ _ _ hh))) (fun _ => my_ite (P := mkC I w S) (fun _ => cfac_mk ih) (fun _ => my_ite (P := mkC I w S) (fun _ => my_ite (P := mkC I w S) (fun _ => ?_) (fun _ => mkC_v mk_r)) (fun _ => ?_)))
    · refine mkC_b mk_wf (ih _ _ _ _ _ _ _ _ _) (fun _ _ _ S2 h => my_ite (P := mkC I w S) (fun _ => mkC_v (mk_t h (mk_t mk_wf mk_wr))) (fun _ => fun _ _ _ _ hh => mk_t (mk_t h (mk_t mk_wf mk_wr)) (ih _ _ _ _ _ _ _ _ _ _ _ _ _ hh)))
    · refine mkC_b mk_r (ih _ _ _ _ _ _ _ _ _) (fun _ _ _ S2 h => my_ite (P := mkC I w S) (fun _ => fun _ _ _ _ hh => mk_t (mk_t h mk_wf) (ih _ _ _ _ _ _ _ _ _ _ _ _ _ hh)) (fun _ => my_ite (P := mkC I w S) (fun _ => mkC_v (mk_t h mk_wf)) (fun _ => mkC_l)))
def mkQ (I : List It) (w : Bool) (S : St) (x : Cq) : Prop := ∀ v, x = some (.inr v) → mk I w S v.2.2.2.2.2
theorem mkQ_l {S : St} {q : Nat} : mkQ I w S (some (.inl q)) := fun _ h => by cases h
theorem mkQ_v {S : St} {v : Cv} (h : mk I w S v.2.2.2.2.2) : mkQ I w S (some (.inr v)) := fun _ hh => by cases hh; exact h
theorem mkQ_e {S S1 : St} {x : Cs} {k : Int32 → Nat → St → Cq} (h0 : mk I w S S1) (h : mkC I w S1 x) (hk : ∀ a q S2, mk I w S S2 → mkQ I w S (k a q S2)) : mkQ I w S (ce x k) := fun v hh => by
  unfold ce at hh
  split at hh
  · cases hh
  · cases hh
  · exact hk _ _ _ (mk_t h0 (h _ _ _ _ rfl)) v hh
theorem mkQ_t {S : St} {p due : Nat} {k : Nat → Cq} (h : ∀ q, mkQ I w S (k q)) : mkQ I w S (tQ t n p due k) := my_ite (P := mkQ I w S) (fun _ => h _) (fun _ => mkQ_l)
theorem mkQ_b {S S1 : St} {x : Cq} {k : Cv → Cq} (h0 : mk I w S S1) (h : mkQ I w S1 x) (hk : ∀ v, mk I w S v.2.2.2.2.2 → mkQ I w S (k v)) : mkQ I w S (bq x k) := fun v hh => by
  unfold bq at hh
  split at hh
  · cases hh
  · cases hh
  · exact hk _ (mk_t h0 (h _ rfl)) v hh
theorem cE_mk {p o : Nat} {S : St} : mkC I w S (cE t n L LT I w p o S) := cx_mk _ _ _ _ _ _ _ _ _ _
theorem mkQ_blk {g : Ch} {p o ck : Nat} {ls : Int32} {B : List Int32} {S S1 : St} {k : Cv → Cq} (hg : ∀ m p o L LT ck ls B S, mkQ I w S (g m p o L LT ck ls B S)) (h0 : mk I w S S1) (hk : ∀ v, mk I w S v.2.2.2.2.2 → mkQ I w S (k v)) : mkQ I w S (cblk t n g p o L LT ck ls B S1 k) := my_ite (P := mkQ I w S) (fun _ => mkQ_b h0 (hg _ _ _ _ _ _ _ _ _) (fun v h => hk _ h)) (fun _ => mkQ_l)
theorem mkQ_con {p o : Nat} {S : St} {k : Nat → St → Cq} (hk : ∀ q S1, mk I w S S1 → mkQ I w S (k q S1)) : mkQ I w S (ccon t n L LT I w p o S k) := my_ite (P := mkQ I w S) (fun _ => mkQ_e mk_r cE_mk (fun _ _ _ h => my_ite (P := mkQ I w S) (fun _ => hk _ _ (mk_t h mk_wf)) (fun _ => mkQ_l))) (fun _ => mkQ_l)
theorem cst_mk {fm : Nat} {ity cF : Int32} {Nf : List (List Nat)} : ∀ (f m p o : Nat) (L : List (List Nat)) (LT : Nat → Int32) (ck : Nat) (ls : Int32) (B : List Int32) (S : St), mkQ I w S (cst t n fm ity cF I w Nf f m p o L LT ck ls B S) := by
  intro f
  induction f with
  | zero => intro m p o L LT ck ls B S v h; simp [cst] at h
  | succ f ih =>
    intro m p o L LT ck ls B S
    unfold cst
    refine my_ite (P := mkQ I w S) (fun _ => my_ite (P := mkQ I w S) (fun _ => mkQ_v mk_r) (fun _ => mkQ_b mk_r (ih _ _ _ _ _ _ _ _ _) (fun v h => fun _ hh => mk_t h (ih _ _ _ _ _ _ _ _ _ _ hh)))) (fun _ => ?_)
    refine my_ite (P := mkQ I w S) (fun _ => ?_) (fun _ => ?_)
    · unfold cnam
      refine my_ite (P := mkQ I w S) (fun _ => mkQ_e mk_r (ccal_mk (cx_mk _)) (fun _ _ _ h => mkQ_t (fun _ => mkQ_v h))) (fun _ => my_ite (P := mkQ I w S) (fun _ => mkQ_e mk_r (cidx_mk (cx_mk _)) (fun _ _ _ h => mkQ_t (fun _ => mkQ_e h cE_mk (fun _ _ _ h => mkQ_t (fun _ => mkQ_v (mk_t h (mk_t mk_wf (mk_wnm mk_mr)))))))) (fun _ => ?_))
      cases kwi L (tkm t n p) 0 with
      | none => exact mkQ_t (fun _ => mkQ_e mk_mnt cE_mk (fun _ _ _ h => mkQ_t (fun _ => mkQ_v (mk_t h (mk_t mk_wf (mk_wnm mk_mr))))))
      | some j => exact mkQ_t (fun _ => mkQ_e mk_r cE_mk (fun _ _ _ h => mkQ_t (fun _ => mkQ_v (mk_t h (mk_t mk_wf (mk_t mk_wr mk_wr))))))
    refine my_ite (P := mkQ I w S) (fun _ => ?_) (fun _ => ?_)
    · unfold clet
      exact my_ite (P := mkQ I w S) (fun _ => mkQ_t (fun _ => mkQ_e mk_r cE_mk (fun _ _ _ h => mkQ_t (fun _ => mkQ_v (mk_t h (mk_t mk_wr mk_wr)))))) (fun _ => mkQ_l)
    refine my_ite (P := mkQ I w S) (fun _ => ?_) (fun _ => ?_)
    · unfold cif
      exact mkQ_con (fun q S1 h => mkQ_blk ih (mk_t h mk_wjS) (fun v h => my_ite (P := mkQ I w S) (fun _ => mkQ_blk ih (mk_t h (mk_t mk_wjS mk_lnd)) (fun u h => mkQ_v (mk_t h mk_lnd))) (fun _ => mkQ_v (mk_t h mk_lnd))))
    refine my_ite (P := mkQ I w S) (fun _ => ?_) (fun _ => ?_)
    · unfold cwh
      exact mkQ_con (fun q S1 h => mkQ_blk ih (mk_t h (mk_t mk_wjS mk_wr)) (fun v h => mkQ_v (mk_t h (mk_t mk_wjS (mk_t mk_lnd mk_lnds)))))
    refine my_ite (P := mkQ I w S) (fun _ => ?_) (fun _ => ?_)
    · unfold clv
      exact my_ite (P := mkQ I w S) (fun _ => mkQ_l) (fun _ => mkQ_t (fun _ => mkQ_v mk_wjS))
    refine my_ite (P := mkQ I w S) (fun _ => ?_) (fun _ => ?_)
    · unfold cret
      exact my_ite (P := mkQ I w S) (fun _ => mkQ_l) (fun _ => my_ite (P := mkQ I w S) (fun _ => mkQ_e mk_r cE_mk (fun _ _ _ h => mkQ_t (fun _ => mkQ_v (mk_t h (mk_t mk_wf mk_wr))))) (fun _ => mkQ_t (fun _ => mkQ_v mk_wr)))
    refine my_ite (P := mkQ I w S) (fun _ => ?_) (fun _ => mkQ_l)
    unfold cchk
    exact mkQ_e mk_r cE_mk (fun _ _ _ h => mkQ_t (fun _ => mkQ_v (mk_t h (mk_t mk_wf (mk_t mk_wr mk_wr)))))
end MMK
