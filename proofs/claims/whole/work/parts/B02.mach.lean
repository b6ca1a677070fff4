
/-! ===== the machine as it should go ===== -/
def upN {α : Type} (f : Nat → α) (i : Nat) (v : α) : Nat → α := fun k => if k = i then v else f k
theorem upN_s {α : Type} {f : Nat → α} {i : Nat} {v : α} : upN f i v i = v := by unfold upN; rw [if_pos rfl]
theorem upN_o {α : Type} {f : Nat → α} {i k : Nat} {v : α} (h : k ≠ i) : upN f i v k = f k := by unfold upN; rw [if_neg h]
/-- values; frames (item, place, base); what frames hold; globals, cells, what was touched; fuel; the end; the check -/
abbrev Ms := (Nat × (Nat → Int32)) × (Nat × (Nat → Nat) × (Nat → Nat) × (Nat → Nat)) × (Nat → Int32) × (Nat → Int32) × (Nat → Int32) × (Nat → Nat → Bool) × Nat × Option Nat × Option (Nat × Int32)
abbrev zT (s : Ms) : Nat := s.1.1
abbrev zV (s : Ms) : Nat → Int32 := s.1.2
abbrev zD (s : Ms) : Nat := s.2.1.1
abbrev zw (s : Ms) : Nat → Nat := s.2.1.2.1
abbrev zP (s : Ms) : Nat → Nat := s.2.1.2.2.1
abbrev zB (s : Ms) : Nat → Nat := s.2.1.2.2.2
abbrev zL (s : Ms) : Nat → Int32 := s.2.2.1
abbrev zG (s : Ms) : Nat → Int32 := s.2.2.2.1
abbrev zC (s : Ms) : Nat → Int32 := s.2.2.2.2.1
abbrev zt (s : Ms) : Nat → Nat → Bool := s.2.2.2.2.2.1
abbrev zF (s : Ms) : Nat := s.2.2.2.2.2.2.1
abbrev zE (s : Ms) : Option Nat := s.2.2.2.2.2.2.2.1
abbrev zk (s : Ms) : Option (Nat × Int32) := s.2.2.2.2.2.2.2.2
def zpsh (v : Int32) (s : Ms) : Ms := ((zT s + 1, upN (zV s) (zT s) v), s.2)
def zpop (s : Ms) : Ms := ((zT s - 1, zV s), s.2)
def ztop (s : Ms) : Int32 := zV s (zT s - 1)
def zsP (p : Nat) (s : Ms) : Ms := (s.1, (zD s, zw s, upN (zP s) (zD s) p, zB s), s.2.2)
def zsL (i : Nat) (v : Int32) (s : Ms) : Ms := (s.1, s.2.1, upN (zL s) i v, s.2.2.2)
def zsG (i : Nat) (v : Int32) (s : Ms) : Ms := (s.1, s.2.1, zL s, upN (zG s) i v, s.2.2.2.2)
def zsC (i : Nat) (v : Int32) (s : Ms) : Ms := (s.1, s.2.1, zL s, zG s, upN (zC s) i v, s.2.2.2.2.2)
def ztch (kd n : Nat) (s : Ms) : Ms := (s.1, s.2.1, zL s, zG s, zC s, (fun a b => zt s a b || (decide (a = kd) && decide (b = n))), s.2.2.2.2.2.2)
def zbr (s : Ms) : Ms := (s.1, s.2.1, zL s, zG s, zC s, zt s, zF s + 1, s.2.2.2.2.2.2.2)
def zend (e : Nat) (s : Ms) : Ms := (s.1, s.2.1, zL s, zG s, zC s, zt s, zF s, some e, zk s)
def zsk (c : Nat × Int32) (s : Ms) : Ms := (s.1, s.2.1, zL s, zG s, zC s, zt s, zF s, zE s, some c)
def zlv (s : Ms) : Ms := (s.1, (zD s - 1, s.2.1.2), s.2.2)
def zopn (j c : Nat) (s : Ms) : Ms := ((zT s - c, zV s), (zD s + 1, upN (zw s) (zD s + 1) j, upN (zP s) (zD s + 1) 0, upN (zB s) (zD s + 1) (zT s - c)), (fun i => if 10 * (zD s + 1) ≤ i then (if i - 10 * (zD s + 1) < c then zV s (zT s - c + (i - 10 * (zD s + 1))) else 0) else zL s i), s.2.2.2)
/-- of an item: its number, how many parameters it has, how many cells -/
def nmk (As : List Ri) (j : Nat) : Nat := match As[j]? with
  | none => 0
  | some b => cnK (As.take j) (kdf (riF b))
def npA (As : List Ri) (j : Nat) : Nat := match As[j]? with
  | none => 0
  | some b => (riQ b).length
def alA (As : List Ri) (j : Nat) : Int32 := match As[j]? with
  | none => 0
  | some b => riV b
def zcel (As : List Ri) (j : Nat) (s : Ms) : Ms := if ztop s < 0 ∨ ¬ ztop s < alA As j then zend 5 (zpop s) else zpsh (zC s (32 * nmk As j + (ztop s).toNatClampNeg)) (zpop s)
def zset (As : List Ri) (j : Nat) (s : Ms) : Ms := if ztop (zpop s) < 0 ∨ ¬ ztop (zpop s) < alA As j then zend 5 (zpop (zpop s)) else zsC (32 * nmk As j + (ztop (zpop s)).toNatClampNeg) (ztop s) (zpop (zpop s))
def zbrn (s : Ms) : Ms := if zF s < 3000 then zbr s else zend 3 s
def zcal (As : List Ri) (j : Nat) (s : Ms) : Ms := if zF s < 3000 then (if zD s < 20 then zopn j (npA As j) (ztch 2 (nmk As j) (zbr s)) else zend 4 (ztch 2 (nmk As j) (zbr s))) else zend 3 s
def bop (c : Nat) (a b : Int32) : Int32 :=
  if c = 21 then a ||| b else if c = 22 then a &&& b else if c = 23 then (if a = b then 1 else 0) else if c = 24 then (if a = b then 0 else 1) else if c = 25 then (if a < b then 1 else 0) else if c = 26 then (if b < a then 0 else 1) else if c = 27 then a + b else if c = 28 then a - b else if c = 29 then a * b else if c = 30 then a / b else a - a / b * b
def zbin (c : Nat) (s : Ms) : Ms := if 30 ≤ c ∧ ztop s = 0 then zend 2 (zpop (zpop s)) else zpsh (bop c (ztop (zpop s)) (ztop s)) (zpop (zpop s))
/-- one instruction, its place being behind it already -/
def zop (As : List Ri) (k c : Nat) (o : Int32) (j : Nat) (s : Ms) : Ms :=
  if c = 1 then zpsh o s
  else if c = 2 then zpsh 1 s
  else if c = 3 then zpsh 0 s
  else if c = 4 then zpsh (zL s (10 * zD s + o.toNatClampNeg)) s
  else if c = 5 then zsL (10 * zD s + o.toNatClampNeg) (ztop s) (zpop s)
  else if c = 6 then zpsh (zG s (nmk As j)) (ztch 0 (nmk As j) s)
  else if c = 7 then zsG (nmk As j) (ztop s) (zpop s)
  else if c = 8 then zcel As j (ztch 1 (nmk As j) s)
  else if c = 9 then zset As j (ztch 1 (nmk As j) s)
  else if c = 10 then zcal As j s
  else if c = 11 ∨ c = 12 then zlv s
  else if c = 13 then zend 0 s
  else if c = 14 then zsP o.toNatClampNeg s
  else if c = 15 then (if ztop s = 0 then zsP o.toNatClampNeg (zpop s) else zpop s)
  else if c = 16 then zbrn s
  else if c = 17 then (if ztop s = 0 then zsk (k, o) (zend 1 (zpop s)) else zpop s)
  else if c = 19 then zpsh (-(ztop s)) (zpop s)
  else if c = 20 then zpsh (1 - ztop s) (zpop s)
  else zbin c s
/-! what is known of an item's steps -/
abbrev qS (I : List It) (a : Ri) (LT : Nat → Int32) (r1 : List Rw) : T3 := trs2 I (riT a) r1 (LT, [], none)
def pT (I : List It) (a : Ri) (LT : Nat → Int32) (r1 : List Rw) : List Int32 := (qS I a LT r1).2.1.map Prod.fst
def FS (As : List Ri) (I : List It) (k : Nat) (a : Ri) (LT : Nat → Int32) : Prop := CDO As I k a ∧ (∀ j x, (riQ a)[j]? = some x → LT j = x) ∧ (qS I a LT (riR a)).2.2 = none ∧ KS (riF a) (riR a) (riQ a).length 0 ∧ ∃ r, riR a = r ++ ptl (riF a) (riT a) ∧ STH (rwA (As.take k)).length r none 0 1
theorem hok_s : ∀ {r r' : List Rw} {h : Nat}, hok (r ++ r') h → hok r h ∧ hok r' (hrn r h)
  | [], _, _, h => ⟨trivial, h⟩
  | x :: r, r', h, hh => ⟨⟨hh.1, (hok_s (r := r) hh.2).1⟩, (hok_s (r := r) hh.2).2⟩
theorem KS_s {fm : Nat} : ∀ {r r' : List Rw} {m h : Nat}, KS fm (r ++ r') m h → KS fm r m h ∧ KS fm r' (lvs r m) (hrn r h)
  | [], _, _, _, h => ⟨trivial, h⟩
  | x :: r, r', m, h, hh => ⟨⟨hh.1, (KS_s (r := r) hh.2).1⟩, (KS_s (r := r) hh.2).2⟩
theorem hmx_s {M : Nat} : ∀ {r r' : List Rw} {h : Nat}, hmx M (r ++ r') h → hrn r h ≤ M
  | [], _, _, h => hmx_0 h
  | x :: r, r', h, hh => hmx_s (r := r) hh.2
section MMA
variable {As : List Ri} {I : List It} {k : Nat} {a : Ri} {LT : Nat → Int32}
theorem tmA_all : ∀ {As : List Ri} {m : Option Nat}, tmA I As m none → m = none ∧ ∀ a ∈ As, tmR I a none none
  | [], m, h => ⟨h.symm, fun a ha => absurd ha List.not_mem_nil⟩
  | b :: As, m, h => by
    obtain ⟨m1, h1, h2⟩ := h
    obtain ⟨g1, g2⟩ := tmA_all h2
    subst g1
    have hm := (tmR_n h1).1
    subst hm
    refine ⟨rfl, fun a ha => ?_⟩
    rcases List.mem_cons.mp ha with h3 | h3
    · rw [h3]; exact h1
    · exact g2 a h3
theorem LOf_s (hL : LOf As I) : itsB As ∧ iRel As I ∧ IC I ∧ ∀ a ∈ As, tmR I a none none := by
  obtain ⟨t, n, ht, hp, hB, hrel, hm⟩ := hL
  exact ⟨hB, hrel, IC_r hB hrel, (tmA_all hm).2⟩
theorem FS_of (hL : LOf As I) (ha : As[k]? = some a) (h2 : 2 ≤ riF a) : ∃ LT, FS As I k a LT := by
  have hm := List.mem_of_getElem? ha
  have ht := (LOf_s hL).2.2.2 a hm
  unfold tmR at ht
  rw [if_neg (by omega), if_neg (by omega)] at ht
  obtain ⟨LT, h3, h4⟩ := ht
  obtain ⟨r, hr, hs, _⟩ := (LOf_f hL).2.1 k a ha h2
  exact ⟨LT, CDO_of hL ha h2, h3, h4.symm, (LOf_K hL).1 a hm h2, r, hr, hs⟩
theorem FS_hok (h : FS As I k a LT) : hok (riR a) 0 := by
  obtain ⟨_, _, _, _, r, hr, hs⟩ := h
  rw [hr]
  exact hok_a hs.1.2.1 (by rw [hs.1.1]; exact ptl_H.1)
/-- at a place -/
theorem FS_at {r1 r2 : List Rw} (hL : LOf As I) (h : FS As I k a LT) (hr : riR a = r1 ++ r2) : (qS I a LT r1).2.2 = none ∧ TS1 (lvs r1 (riQ a).length) (qS I a LT r1) ∧ (qS I a LT r1).2.1.length = hrn r1 0 ∧ (∀ j, j < lvs r1 (riQ a).length → (qS I a LT (riR a)).1 j = (qS I a LT r1).1 j) ∧ hok r2 (hrn r1 0) ∧ KS (riF a) r2 (lvs r1 (riQ a).length) (hrn r1 0) ∧ lvs r1 (riQ a).length ≤ 10 := by
  obtain ⟨hB, hrel, hC, _⟩ := LOf_s hL
  have ho := FS_hok h
  obtain ⟨hc, hQ, hn, hK, _⟩ := h
  have hW := hB.2 a (List.mem_of_getElem? hc.1)
  have h4 : (riQ a).length ≤ 4 := hW.2.2.1
  have hn0 := hn
  rw [hr] at ho hK
  obtain ⟨o1, o2⟩ := hok_s ho
  obtain ⟨k1, k2⟩ := KS_s hK
  have hV := hc.2.2.1
  rw [hr] at hV
  have hn1 : (qS I a LT r1).2.2 = none := by
    have : (trs2 I (riT a) r2 (qS I a LT r1)).2.2 = none := by rw [← trs2_a, ← hr]; exact hn
    exact (trs2_n this).1
  have t0 : TS1 (riQ a).length (LT, [], none) := ⟨fun j hj => by
    show tyk (LT j)
    rw [hQ j _ (List.getElem?_eq_getElem hj)]
    exact hW.2.2.2.2.2.2.1 _ (List.getElem_mem hj), fun y hy => absurd hy List.not_mem_nil⟩
  have m10 := lvs_10 k1 (show (riQ a).length ≤ 10 by omega)
  obtain ⟨g1, g2, g3⟩ := ts_run hC (r := r1) (S := (LT, [], none)) (fun y hy => hV y (by simp [hy])) (show (riQ a).length ≤ 10 by omega) k1 o1 t0 hn1
  have e2 : (qS I a LT r1).2.1.length = hrn r1 0 := g2
  obtain ⟨f1, f2, f3⟩ := ts_run hC (r := r2) (S := qS I a LT r1) (fun y hy => hV y (by simp [hy])) m10 (by rw [e2]; exact k2) (by rw [e2]; exact o2) g1 (by rw [← trs2_a, ← hr]; exact hn)
  refine ⟨hn1, g1, e2, fun j hj => ?_, o2, k2, m10⟩
  have := f3 j hj
  rw [← trs2_a, ← hr] at this
  exact this
theorem FS_c4 (hL : LOf As I) (h : FS As I k a LT) : cal4 (riR a) := fun x hx hc => by
  obtain ⟨r1, r2, hr⟩ := List.append_of_mem hx
  obtain ⟨n1, ts, hl, _, ho, _⟩ := FS_at hL h hr
  have hn2 : (tr2 I (riT a) x (qS I a LT r1)).2.2 = none := by
    have h3 := h.2.2.1
    rw [hr] at h3
    have : (trs2 I (riT a) r2 (tr2 I (riT a) x (qS I a LT r1))).2.2 = none := by
      have e : qS I a LT (r1 ++ x :: r2) = trs2 I (riT a) r2 (tr2 I (riT a) x (qS I a LT r1)) := trs2_a
      rw [← e]; exact h3
    exact (trs2_n this).1
  have hC := (LOf_s hL).2.2.1
  generalize qS I a LT r1 = S at *
  obtain ⟨LT', P, mf⟩ := S
  dsimp only at n1 hl
  subst n1
  have hnd' : hnd x = x.2.1.toNatClampNeg := by unfold hnd; rw [if_pos hc]
  have h1 := ho.1
  rcases hc with hc | hc
  · rw [ty_204 hc] at hn2
    obtain ⟨_, _, _, _, _, _, h4, _⟩ := tcal_s hC ts.2 (by dsimp only; omega) hn2
    exact h4
  · rw [ty_205 hc] at hn2
    obtain ⟨_, _, _, _, _, _, h4, _⟩ := tcal_s hC ts.2 (by dsimp only; omega) hn2
    exact h4
theorem FS_96 {r1 r2 : List Rw} (hL : LOf As I) (h : FS As I k a LT) (hr : riR a = r1 ++ r2) : hrn r1 0 ≤ 96 := by
  have h4 := FS_c4 hL h
  obtain ⟨_, _, _, _, r, hr2, hs⟩ := h
  have : hmx 96 (riR a) 0 := by
    rw [hr2] at h4 ⊢
    exact hmx_a (hs.1.2.2.2 (cal4_l h4)) (by rw [hs.1.1]; exact hmx_m (by omega) ptl_H.2.1)
  rw [hr] at this
  exact hmx_s this
/-- the last step is an end -/
theorem FS_last {r1 : List Rw} {x : Rw} (h : FS As I k a LT) (hr : riR a = r1 ++ [x]) : x.1 = 11 ∨ x.1 = 12 ∨ x.1 = 13 := by
  obtain ⟨_, _, _, _, r, hr2, _⟩ := h
  have e : (riR a).getLast? = some x := by rw [hr]; simp
  rw [hr2] at e
  unfold ptl at e
  by_cases h2 : riF a = 2
  · rw [if_pos h2] at e
    simp at e
    rw [← e]; left; rfl
  · rw [if_neg h2] at e
    by_cases h3 : riF a = 3
    · rw [if_pos h3] at e
      simp at e
      rw [← e]; right; left; rfl
    · rw [if_neg h3] at e
      simp at e
      rw [← e]; right; right; rfl
/-- the next step that has bytes -/
theorem FS_nrm (hL : LOf As I) (h : FS As I k a LT) : ∀ (r2 r1 : List Rw), riR a = r1 ++ r2 → r2 ≠ [] → ∃ r1' x r2', riR a = r1' ++ x :: r2' ∧ x.1 ≠ 206 ∧ x.1 ≠ 208 ∧ lens r1' = lens r1 ∧ pT I a LT r1' = pT I a LT r1
  | [], _, _, hne => absurd rfl hne
  | x :: r2, r1, hr, _ => by
    by_cases h0 : x.1 = 206 ∨ x.1 = 208
    · have hr' : riR a = (r1 ++ [x]) ++ r2 := by rw [hr]; simp
      have hne : r2 ≠ [] := fun hh => by
        subst hh
        have := FS_last h hr
        omega
      obtain ⟨r1', y, r2', g1, g2, g3, g4, g5⟩ := FS_nrm hL h r2 (r1 ++ [x]) hr' hne
      refine ⟨r1', y, r2', g1, g2, g3, ?_, ?_⟩
      · rw [g4, lens_a]
        show lens r1 + (ln1 x.1 + 0) = _
        rw [ln_0 h0]
        omega
      · rw [g5]
        obtain ⟨n1, ts, hl, _, ho, _⟩ := FS_at hL h hr
        have n2 := (FS_at hL h hr').1
        have e : qS I a LT (r1 ++ [x]) = tr2 I (riT a) x (qS I a LT r1) := trs2_a
        unfold pT
        rw [e] at n2 ⊢
        have h1 := ho.1
        have hnd' : hnd x = 1 := by rcases h0 with h0 | h0 <;> (unfold hnd; simp [h0])
        generalize qS I a LT r1 = S at *
        obtain ⟨LT', P, mf⟩ := S
        dsimp only at n1 hl ⊢
        subst n1
        match P, hl with
        | [], hl => simp at hl; omega
        | b :: P0, _ =>
          rcases h0 with h0 | h0
          · rw [ty_206 h0]; rfl
          · rw [ty_208 h0]
    · exact ⟨r1, x, r2, hr, fun hh => h0 (Or.inl hh), fun hh => h0 (Or.inr hh), rfl, rfl⟩
end MMA
