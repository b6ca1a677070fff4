
/-! ===== the log, as a list of entries ===== -/
abbrev Et := Nat × List Nat × List Int32
abbrev eK (x : Et) : Nat := x.1
abbrev eN (x : Et) : List Nat := x.2.1
abbrev eC (x : Et) : List Int32 := x.2.2
def nmE (x : Et) : List Int32 := bts (Int32.ofNat (eN x).length) 1 0 ++ ltb (eN x)
def eh (x : Et) (k : Nat) : List Int32 := if eK x = 1 then bts (Int32.ofNat (4 + (eN x).length + (eC x).length)) 2 0 ++ (bts 1 1 0 ++ bts (Int32.ofNat k) 2 0) else bts (Int32.ofNat (2 + (eN x).length + (eC x).length)) 2 0 ++ bts 2 1 0
def hL1 (x : Et) : Nat := if eK x = 1 then 5 else 3
def el (x : Et) : Nat := hL1 x + 1 + (eN x).length + (eC x).length
def e1 (x : Et) (k : Nat) : List Int32 := eh x k ++ (nmE x ++ eC x)
def nxi (x : Et) (k : Nat) : Nat := if eK x = 1 then k + 1 else k
def en : List Et → Nat → List Int32
  | [], _ => []
  | x :: r, k => e1 x k ++ en r (nxi x k)
def els : List Et → Nat
  | [] => 0
  | x :: r => el x + els r
def nit : List Et → Nat
  | [] => 0
  | x :: r => (if eK x = 1 then 1 else 0) + nit r
def pse : List Et → Nat → List (Nat × Et)
  | [], _ => []
  | x :: r, o => (o + hL1 x, x) :: pse r (o + el x)
def itp (E : List Et) : List (Nat × Et) := (pse E 0).filter (fun y => decide (eK y.2 = 1))
def rcp (E : List Et) : List (Nat × Et) := (pse E 0).filter (fun y => !decide (eK y.2 = 1))
theorem eh_l {x : Et} {k : Nat} : (eh x k).length = hL1 x := by
  unfold eh hL1
  split
  · rw [List.length_append, List.length_append, bts_l, bts_l, bts_l]
  · rw [List.length_append, bts_l, bts_l]
theorem nmE_l {x : Et} : (nmE x).length = 1 + (eN x).length := by unfold nmE; rw [List.length_append, bts_l, ltb_l]
theorem e1_l {x : Et} {k : Nat} : (e1 x k).length = el x := by
  unfold e1 el
  rw [List.length_append, List.length_append, eh_l, nmE_l]
  omega
theorem en_l : ∀ {E : List Et} {k : Nat}, (en E k).length = els E
  | [], _ => rfl
  | x :: r, k => by rw [en, els, List.length_append, e1_l, en_l]
theorem en_a : ∀ {E F : List Et} {k : Nat}, en (E ++ F) k = en E k ++ en F (k + nit E)
  | [], F, k => by simp [en, nit]
  | x :: r, F, k => by
    rw [List.cons_append, en, en, en_a, List.append_assoc, nit]
    unfold nxi
    split
    · rw [Nat.add_assoc]
    · rw [Nat.zero_add]
theorem els_a : ∀ {E F : List Et}, els (E ++ F) = els E + els F
  | [], F => by simp [els]
  | x :: r, F => by rw [List.cons_append, els, els, els_a]; omega
theorem nit_a : ∀ {E F : List Et}, nit (E ++ F) = nit E + nit F
  | [], F => by simp [nit]
  | x :: r, F => by rw [List.cons_append, nit, nit, nit_a]; omega
theorem pse_a : ∀ {E F : List Et} {o : Nat}, pse (E ++ F) o = pse E o ++ pse F (o + els E)
  | [], F, o => by simp [pse, els]
  | x :: r, F, o => by rw [List.cons_append, pse, pse, pse_a, els, List.cons_append, Nat.add_assoc]
theorem pse_s : ∀ {E : List Et} {o : Nat} {y : Nat × Et}, y ∈ pse E o → ∃ E1 E2, E = E1 ++ y.2 :: E2 ∧ y.1 = o + els E1 + hL1 y.2
  | [], o, y, h => by simp [pse] at h
  | x :: r, o, y, h => by
    rw [pse] at h
    rcases List.mem_cons.mp h with h | h
    · subst h; exact ⟨[], r, rfl, rfl⟩
    · obtain ⟨E1, E2, h1, h2⟩ := pse_s h
      exact ⟨x :: E1, E2, by rw [h1]; rfl, by rw [h2, els]; omega⟩
/-- the bytes of an entry's name and contents -/
theorem pse_b {E : List Et} {y : Nat × Et} (h : y ∈ pse E 0) : (∀ i b, (nmE y.2 ++ eC y.2)[i]? = some b → (en E 0)[y.1 + i]? = some b) ∧ y.1 + 1 + (eN y.2).length + (eC y.2).length ≤ els E := by
  obtain ⟨E1, E2, h1, h2⟩ := pse_s h
  refine ⟨fun i b hb => ?_, ?_⟩
  · have hi := (List.getElem?_eq_some_iff.mp hb).1
    conv => lhs; rw [h1]
    rw [h2, en_a, en, Nat.zero_add, List.getElem?_append_right (by rw [en_l]; omega), en_l, show 0 + els E1 + hL1 y.2 + i - els E1 = hL1 y.2 + i by omega, e1, List.append_assoc, List.getElem?_append_right (by rw [eh_l]; omega), eh_l, show hL1 y.2 + i - hL1 y.2 = i by omega, List.getElem?_append_left hi]
    exact hb
  · rw [h2]
    conv => rhs; rw [h1, els_a, els]
    unfold el
    omega
def b8 (b : Int32) : Nat := b.toBitVec.toNat % 256
theorem b8_e (b : Int32) : b &&& 255 = Int32.ofNat (b8 b) := by
  have e : b = Int32.ofNat b.toBitVec.toNat := by
    apply Int32.toBitVec_inj.mp
    show b.toBitVec = BitVec.ofNat 32 b.toBitVec.toNat
    rw [BitVec.ofNat_toNat, BitVec.setWidth_eq]
  conv => lhs; rw [e]
  exact and255 _
theorem b8_lt (b : Int32) : b8 b < 256 := Nat.mod_lt _ (by omega)
def g1 (C : List Int32) (i : Nat) : Nat := match C[i]? with
  | none => 0
  | some b => b8 b
def g2 (C : List Int32) (i : Nat) : Nat := g1 C i + 256 * g1 C (i + 1)
theorem g1_lt (C : List Int32) (i : Nat) : g1 C i < 256 := by
  unfold g1
  cases C[i]? with
  | none => show 0 < 256; omega
  | some b => exact b8_lt b
theorem g2_lt (C : List Int32) (i : Nat) : g2 C i < 65536 := by
  have := g1_lt C i
  have := g1_lt C (i + 1)
  unfold g2
  omega
theorem g1_e {C : List Int32} {i : Nat} (h : i < C.length) : ∃ b, C[i]? = some b ∧ b &&& 255 = Int32.ofNat (g1 C i) := by
  refine ⟨C[i], List.getElem?_eq_getElem h, ?_⟩
  unfold g1
  rw [List.getElem?_eq_getElem h]
  exact b8_e _
/-- an entry that is right, with so many items before it -/
def wfe (x : Et) (k : Nat) : Prop := isN (eN x) ∧ 1 ≤ (eN x).length ∧ aB (eC x) ∧ ((eK x = 1 ∧ 2 ≤ (eC x).length) ∨ (eK x = 2 ∧ (eC x).length = 11 + 2 * g1 (eC x) 10 ∧ g1 (eC x) 10 ≤ 30 ∧ g2 (eC x) 8 < k ∧ (g1 (eC x) 0 = 1 → g2 (eC x) 1 < k) ∧ ∀ j, j < g1 (eC x) 10 → g2 (eC x) (11 + 2 * j) < k))
def wfl : List Et → Nat → Prop
  | [], _ => True
  | x :: r, k => wfe x k ∧ wfl r (nxi x k)
theorem wfe_m {x : Et} {k m : Nat} (h : wfe x k) (hm : k ≤ m) : wfe x m := by
  obtain ⟨h1, h2, h3, h4⟩ := h
  refine ⟨h1, h2, h3, ?_⟩
  rcases h4 with h4 | ⟨q1, q2, q3, q4, q5, q6⟩
  · exact Or.inl h4
  · exact Or.inr ⟨q1, q2, q3, by omega, fun hh => by have := q5 hh; omega, fun j hj => by have := q6 j hj; omega⟩
theorem wfl_a : ∀ {E F : List Et} {k : Nat}, wfl (E ++ F) k ↔ wfl E k ∧ wfl F (k + nit E)
  | [], F, k => by simp [wfl, nit]
  | x :: r, F, k => by
    rw [List.cons_append, wfl, wfl, wfl_a, nit]
    have : nxi x k + nit r = k + ((if eK x = 1 then 1 else 0) + nit r) := by unfold nxi; split <;> omega
    rw [this]
    exact ⟨fun h => ⟨⟨h.1, h.2.1⟩, h.2.2⟩, fun h => ⟨h.1.1, h.1.2, h.2⟩⟩
theorem wfl_p {E : List Et} {y : Nat × Et} (hw : wfl E 0) (h : y ∈ pse E 0) : wfe y.2 (nit E) := by
  obtain ⟨E1, E2, h1, h2⟩ := pse_s h
  rw [h1] at hw ⊢
  have := (wfl_a.mp hw).2
  rw [wfl, Nat.zero_add] at this
  exact wfe_m this.1 (by rw [nit_a]; omega)
theorem nit_p : ∀ {E : List Et} {o : Nat}, ((pse E o).filter (fun y => decide (eK y.2 = 1))).length = nit E
  | [], o => rfl
  | x :: r, o => by
    rw [pse, nit, List.filter_cons]
    by_cases c : eK x = 1
    · rw [if_pos (by simpa using c), if_pos c, List.length_cons, nit_p]; omega
    · rw [if_neg (by simpa using c), if_neg c, nit_p]; omega
theorem itp_l {E : List Et} : (itp E).length = nit E := nit_p
theorem itp_m {E : List Et} {y : Nat × Et} (h : y ∈ itp E) : y ∈ pse E 0 ∧ eK y.2 = 1 := by
  have := List.mem_filter.mp h
  exact ⟨this.1, by simpa using this.2⟩
theorem rcp_m {E : List Et} {y : Nat × Et} (h : y ∈ rcp E) : y ∈ pse E 0 ∧ ¬ eK y.2 = 1 := by
  have := List.mem_filter.mp h
  exact ⟨this.1, by simpa using this.2⟩
theorem nrc_p : ∀ {E : List Et} {o : Nat}, ((pse E o).filter (fun y => !decide (eK y.2 = 1))).length + nit E = E.length
  | [], o => rfl
  | x :: r, o => by
    have := nrc_p (E := r) (o := o + el x)
    rw [pse, nit, List.filter_cons]
    by_cases c : eK x = 1
    · rw [if_neg (by simpa using c), if_pos c, List.length_cons]; omega
    · rw [if_pos (by simpa using c), if_neg c, List.length_cons, List.length_cons]; omega
theorem wfl_n : ∀ {E : List Et} {k : Nat}, wfl E k → 9 * nit E + 16 * (E.length - nit E) ≤ els E ∧ nit E ≤ E.length
  | [], k, _ => by simp [nit, els]
  | x :: r, k, h => by
    have h1 := h.1
    obtain ⟨i1, i2⟩ := wfl_n h.2
    rw [nit, els, List.length_cons]
    obtain ⟨q1, q2, q3, q4⟩ := h1
    have e : el x = hL1 x + 1 + (eN x).length + (eC x).length := rfl
    rcases q4 with ⟨q5, q6⟩ | ⟨q5, q6, _⟩
    · rw [if_pos q5]
      have : hL1 x = 5 := if_pos q5
      omega
    · have c : ¬ eK x = 1 := by omega
      rw [if_neg c]
      have : hL1 x = 3 := if_neg c
      omega
/-- a log that is right -/
def LgW (E : List Et) : Prop := wfl E 0 ∧ els E ≤ 7747
theorem LgW_n {E : List Et} (h : LgW E) : (itp E).length ≤ 860 ∧ (rcp E).length ≤ 484 ∧ nit E ≤ 860 := by
  obtain ⟨h1, h2⟩ := wfl_n h.1
  have h3 := h.2
  have h4 := nrc_p (E := E) (o := 0)
  have h5 : (rcp E).length + nit E = E.length := h4
  rw [itp_l]
  omega
/-- the last record of that name among the first so many -/
def lrc (L : List (Nat × Et)) (nm : List Nat) : Nat → Option (Nat × Et)
  | 0 => none
  | n + 1 => match L[n]? with
    | none => lrc L nm n
    | some y => if eN y.2 = nm then some y else lrc L nm n
theorem lrc_m {L : List (Nat × Et)} {nm : List Nat} {y : Nat × Et} : ∀ {n : Nat}, lrc L nm n = some y → y ∈ L ∧ eN y.2 = nm
  | 0, h => by unfold lrc at h; cases h
  | n + 1, h => by
    unfold lrc at h
    cases hn : L[n]? with
    | none => rw [hn] at h; exact lrc_m h
    | some z =>
      rw [hn] at h
      dsimp only at h
      split at h
      · rename_i hc
        cases h
        exact ⟨List.mem_of_getElem? hn, hc⟩
      · exact lrc_m h
