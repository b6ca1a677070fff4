
/-! ===== what a half holds ===== -/
def eD (D : Nat → Int32) (a : Nat) : Nat := b8 (D a) + 256 * b8 (D (a + 1))
theorem eD_lt {D : Nat → Int32} {a : Nat} : eD D a < 65536 := by
  have := b8_lt (D a)
  have := b8_lt (D (a + 1))
  unfold eD
  omega
theorem b8_of {x : Int32} {n : Nat} (h : x &&& 255 = Int32.ofNat n) (hn : n < 256) : b8 x = n := by
  rw [b8_e] at h
  exact (oN_e (by have := b8_lt x; omega) (by omega)).mp h
theorem b8_t {n : Nat} (hn : n < 256) : b8 (bt (Int32.ofNat n) (Int32.ofNat 0)) = n := b8_of (low8 hn).symm hn
theorem b8_ep {n : Nat} (hn : n < 65536) : b8 (bt (Int32.ofNat n) (Int32.ofNat 0)) + 256 * b8 (bt (Int32.ofNat n) (Int32.ofNat 1)) = n := by
  rw [b8_of (bt_o (n := n) (j := 0) (by omega) (by omega)) (Nat.mod_lt _ (by omega)), b8_of (bt_o (n := n) (j := 1) (by omega) (by omega)) (Nat.mod_lt _ (by omega))]
  exact two_e hn
/-- the half h holds the bytes B in blocks of the epoch ep -/
def DKb (D : Nat → Int32) (h ep : Nat) (B : List Int32) : Prop := (∀ i x, B[i]? = some x → D (8192 * h + 64 * (1 + i / 61) + 3 + i % 61) = x) ∧ ∀ c, c < 127 → (61 * c < B.length → eD D (8192 * h + 64 * (1 + c)) = ep ∧ b8 (D (8192 * h + 64 * (1 + c) + 2)) = (blX B c).length) ∧ (B.length ≤ 61 * c → eD D (8192 * h + 64 * (1 + c)) < ep)
section MDI
variable {D : Nat → Int32} {h ep : Nat} {B : List Int32}
theorem w1B_o {c i : Nat} (hi : i < 8192 * h + 64 * (1 + c) ∨ 8192 * h + 64 * (1 + c) + 64 ≤ i) : w1B h ep B c D i = D i := by
  unfold w1B wBn
  rw [if_neg (by omega)]
theorem w1B_e {c : Nat} (hep : ep < 65536) : eD (w1B h ep B c D) (8192 * h + 64 * (1 + c)) = ep ∧ b8 (w1B h ep B c D (8192 * h + 64 * (1 + c) + 2)) = (blX B c).length := by
  have hl := blX_l (B := B) (c := c)
  refine ⟨?_, ?_⟩
  · unfold eD w1B wBn
    rw [if_pos (by omega), if_pos (by omega), show 8192 * h + 64 * (1 + c) - (8192 * h + 64 * (1 + c)) = 0 by omega, show 8192 * h + 64 * (1 + c) + 1 - (8192 * h + 64 * (1 + c)) = 1 by omega]
    exact b8_ep hep
  · unfold w1B wBn
    rw [if_pos (by omega), show 8192 * h + 64 * (1 + c) + 2 - (8192 * h + 64 * (1 + c)) = 2 by omega]
    exact b8_t (by omega)
theorem w1B_d {c c' : Nat} (hne : c' ≠ c) : eD (w1B h ep B c D) (8192 * h + 64 * (1 + c')) = eD D (8192 * h + 64 * (1 + c')) ∧ w1B h ep B c D (8192 * h + 64 * (1 + c') + 2) = D (8192 * h + 64 * (1 + c') + 2) := by
  unfold eD
  rw [w1B_o (by omega), w1B_o (by omega), w1B_o (by omega)]
  exact ⟨rfl, rfl⟩
theorem DK_w {c q : Nat} (hep : ep < 65536) (hc : 61 * c < B.length) (h1 : 61 * c ≤ q) (h2 : q ≤ 61 * (c + 1)) (hq : q ≤ B.length) (hk : DKb D h ep (B.take q)) : DKb (w1B h ep B c D) h ep (B.take (61 * (c + 1))) := by
  have lq : (B.take q).length = q := by rw [List.length_take]; omega
  have l2 : (B.take (61 * (c + 1))).length = min (61 * (c + 1)) B.length := List.length_take
  obtain ⟨k1, k2⟩ := hk
  rw [lq] at k2
  refine ⟨fun i x hx => ?_, fun c' hc' => ?_⟩
  · have hi := (List.getElem?_eq_some_iff.mp hx).1
    rw [l2] at hi
    rw [List.getElem?_take, if_pos (by omega)] at hx
    by_cases cc : i / 61 = c
    · have hm : i % 61 < 61 := Nat.mod_lt _ (by omega)
      unfold w1B wBn
      rw [cc, if_pos (by omega), show 8192 * h + 64 * (1 + c) + 3 + i % 61 - (8192 * h + 64 * (1 + c)) = i % 61 + 3 by omega]
      unfold bkv
      rw [if_neg (by omega), if_neg (by omega), if_neg (by omega), Nat.add_sub_cancel, blX_g hm, show 61 * c + i % 61 = i by omega, hx]
      rfl
    · have hm : i % 61 < 61 := Nat.mod_lt _ (by omega)
      rw [w1B_o (by omega)]
      exact k1 i x (by rw [List.getElem?_take, if_pos (by omega)]; exact hx)
  · obtain ⟨k3, k4⟩ := k2 c' hc'
    rw [l2]
    by_cases cc : c' = c
    · subst cc
      obtain ⟨e1, e2⟩ := w1B_e (D := D) (h := h) (B := B) (c := c') hep
      refine ⟨fun _ => ⟨e1, ?_⟩, fun hh => by omega⟩
      rw [e2, blX_l, blX_l, l2]
      omega
    · obtain ⟨e1, e2⟩ := w1B_d (D := D) (h := h) (ep := ep) (B := B) cc
      rw [e1, e2]
      refine ⟨fun hh => ?_, fun hh => k4 (by omega)⟩
      obtain ⟨k5, k6⟩ := k3 (by omega)
      refine ⟨k5, ?_⟩
      rw [k6, blX_l, blX_l, l2, lq]
      omega
def cutQ (k c q : Nat) : Nat := if k = 0 then q else 61 * (c + k)
theorem DK_wD (hep : ep < 65536) : ∀ (k c q : Nat) (D : Nat → Int32), k ≤ nbk B - c → 61 * c ≤ q → q ≤ 61 * (c + 1) → q ≤ B.length → DKb D h ep (B.take q) → DKb (wD h ep B k c D) h ep (B.take (cutQ k c q)) := by
  intro k
  induction k with
  | zero => intro c q D _ _ _ _ hk; exact hk
  | succ k ih =>
    intro c q D h0 h1 h2 h3 hk
    unfold nbk at h0
    have hw := DK_w hep (c := c) (by omega) h1 h2 h3 hk
    unfold cutQ
    rw [if_neg (by omega), wD]
    cases k with
    | zero => rw [wD, Nat.add_comm c]; rw [Nat.add_comm c] at hw; exact hw
    | succ k =>
      have := ih (c + 1) (61 * (c + 1)) _ (by unfold nbk; omega) (by omega) (by omega) (by omega) hw
      unfold cutQ at this
      rw [if_neg (by omega), show c + 1 + (k + 1) = c + (k + 1 + 1) by omega] at this
      exact this
theorem wD_o {i : Nat} : ∀ (k c : Nat) (D : Nat → Int32), (i < 8192 * h + 64 * (1 + c) ∨ 8192 * h + 64 * (1 + c + k) ≤ i) → wD h ep B k c D i = D i := by
  intro k
  induction k with
  | zero => intro c D _; rfl
  | succ k ih =>
    intro c D hi
    rw [wD, ih (c + 1) _ (by omega), w1B_o (by omega)]
theorem wH_o {t i : Nat} (hi : i < 8192 * h ∨ 8192 * h + 64 ≤ i) : wH h ep t D i = D i := by
  unfold wH wBn
  rw [if_neg (by omega)]
theorem wH_e {t : Nat} (hep : ep < 65536) (ht : t < 256) : eD (wH h ep t D) (8192 * h) = ep ∧ b8 (wH h ep t D (8192 * h + 2)) = t := by
  refine ⟨?_, ?_⟩
  · unfold eD wH wBn
    rw [if_pos (by omega), if_pos (by omega), show 8192 * h - 8192 * h = 0 by omega, show 8192 * h + 1 - 8192 * h = 1 by omega]
    exact b8_ep hep
  · unfold wH wBn
    rw [if_pos (by omega), show 8192 * h + 2 - 8192 * h = 2 by omega]
    exact b8_t ht
/-- bytes that are elsewhere do not matter -/
theorem DKb_o {D' : Nat → Int32} (hB : B.length ≤ 7747) (hk : DKb D h ep B) (ho : ∀ i, 8192 * h + 64 ≤ i → i < 8192 * h + 8192 → D' i = D i) : DKb D' h ep B := by
  obtain ⟨k1, k2⟩ := hk
  have he : ∀ c, c < 127 → eD D' (8192 * h + 64 * (1 + c)) = eD D (8192 * h + 64 * (1 + c)) := fun c hc => by
    unfold eD
    rw [ho _ (by omega) (by omega), ho _ (by omega) (by omega)]
  refine ⟨fun i x hx => ?_, fun c hc => ?_⟩
  · have hi := (List.getElem?_eq_some_iff.mp hx).1
    have hm : i % 61 < 61 := Nat.mod_lt _ (by omega)
    rw [ho _ (by omega) (by omega)]
    exact k1 i x hx
  · rw [he c hc, ho _ (by omega) (by omega)]
    exact k2 c hc
theorem DKb_n (hl : ∀ c, c < 127 → eD D (8192 * h + 64 * (1 + c)) < ep) : DKb D h ep [] := ⟨fun i x hx => by simp at hx, fun c hc => ⟨fun hh => by simp at hh, fun _ => hl c hc⟩⟩
theorem DKb_e (hk : DKb D h ep B) {c : Nat} (hc : c < 127) : eD D (8192 * h + 64 * (1 + c)) ≤ ep := by
  obtain ⟨k3, k4⟩ := hk.2 c hc
  by_cases cc : 61 * c < B.length
  · have := (k3 cc).1; omega
  · have := k4 (by omega); omega
/-- the disk: the live half h, of the epoch ep, holds B; no epoch is above M -/
def DSK (D : Nat → Int32) (h ep : Nat) (B : List Int32) (M : Nat) : Prop := (h ≤ 1 ∧ 1 ≤ ep ∧ ep ≤ M ∧ M < 65535) ∧ DKb D h ep B ∧ eD D (8192 * h) = ep ∧ b8 (D (8192 * h + 2)) = 1 ∧ (b8 (D (8192 * (1 - h) + 2)) = 1 → eD D (8192 * (1 - h)) < ep) ∧ (∀ c, c < 127 → eD D (8192 * (1 - h) + 64 * (1 + c)) ≤ max ep (eD D (8192 * (1 - h) + 64))) ∧ eD D (8192 * (1 - h) + 64) ≤ M
theorem DSK_M {M M' : Nat} (hM : M ≤ M') (hM' : M' < 65535) (hk : DSK D h ep B M) : DSK D h ep B M' := by
  obtain ⟨⟨a, b, c, d⟩, k1, k2, k3, k4, k5, k6⟩ := hk
  exact ⟨⟨a, b, by omega, hM'⟩, k1, k2, k3, k4, k5, by omega⟩
/-- behind the log some blocks are written -/
theorem DSK_a {M k : Nat} {G : List Int32} (hl : (B ++ G).length ≤ 7747) (hk : DSK D h ep B M) (hk2 : k ≤ nbk (B ++ G) - B.length / 61) : DSK (wD h ep (B ++ G) k (B.length / 61) D) h ep ((B ++ G).take (cutQ k (B.length / 61) B.length)) M := by
  obtain ⟨⟨a, b, c, d⟩, k1, k2, k3, k4, k5, k6⟩ := hk
  have hla : (B ++ G).length = B.length + G.length := List.length_append
  have hb : k ≤ 127 - B.length / 61 := by unfold nbk at hk2; omega
  have o : ∀ i, (i < 8192 * h + 64 ∨ 8192 * h + 8192 ≤ i) → wD h ep (B ++ G) k (B.length / 61) D i = D i := fun i hi => wD_o k _ D (by omega)
  refine ⟨⟨a, b, c, d⟩, ?_, ?_, ?_, ?_, ?_, ?_⟩
  · refine DK_wD (by omega) k _ _ D hk2 (by omega) (by omega) (by omega) ?_
    rw [List.take_left']
    · exact k1
    · rfl
  · unfold eD
    rw [o _ (by omega), o _ (by omega)]
    exact k2
  · rw [o _ (by omega)]
    exact k3
  · unfold eD
    rw [o _ (by omega), o _ (by omega), o _ (by omega)]
    exact k4
  · intro c hc
    unfold eD
    rw [o _ (by omega), o _ (by omega), o _ (by omega), o _ (by omega)]
    exact k5 c hc
  · unfold eD
    rw [o _ (by omega), o _ (by omega)]
    exact k6
/-- the next epoch -/
def nxE (D : Nat → Int32) (h ep : Nat) : Nat := max ep (eD D (8192 * (1 - h) + 64)) + 1
/-- the other half: some blocks of the log made anew are written -/
theorem DSK_r {M k : Nat} {N : List Int32} (hB : B.length ≤ 7747) (hN : N.length ≤ 7747) (hM : M + 1 < 65535) (hk : DSK D h ep B M) (hk2 : k ≤ nbk N) : DSK (wD (1 - h) (nxE D h ep) N k 0 D) h ep B (M + 1) := by
  obtain ⟨⟨a, b, c, d⟩, k1, k2, k3, k4, k5, k6⟩ := hk
  have hb : k ≤ 127 := by unfold nbk at hk2; omega
  have hx : nxE D h ep ≤ M + 1 := by unfold nxE; omega
  have o : ∀ i, (i < 8192 * (1 - h) + 64 ∨ 8192 * (1 - h) + 8192 ≤ i) → wD (1 - h) (nxE D h ep) N k 0 D i = D i := fun i hi => wD_o k 0 D (by omega)
  have z : ∀ c, c < 127 → eD D (8192 * (1 - h) + 64 * (1 + c)) < nxE D h ep := fun c hc => by
    have := k5 c hc
    unfold nxE
    omega
  have hw := DK_wD (h := 1 - h) (B := N) (show nxE D h ep < 65536 by omega) k 0 0 D (by omega) (by omega) (by omega) (by omega) (by rw [List.take_zero]; exact DKb_n z)
  refine ⟨⟨a, b, by omega, hM⟩, ?_, ?_, ?_, ?_, ?_, ?_⟩
  · exact DKb_o hB k1 (fun i h1 h2 => o i (by omega))
  · unfold eD
    rw [o _ (by omega), o _ (by omega)]
    exact k2
  · rw [o _ (by omega)]
    exact k3
  · unfold eD
    rw [o _ (by omega), o _ (by omega), o _ (by omega)]
    exact k4
  · intro c hc
    cases k with
    | zero => exact k5 c hc
    | succ k =>
      have h1 := DKb_e hw hc
      have h2 : eD (wD (1 - h) (nxE D h ep) N (k + 1) 0 D) (8192 * (1 - h) + 64) = nxE D h ep := by
        refine ((hw.2 0 (by omega)).1 ?_).1
        unfold cutQ
        unfold nbk at hk2
        rw [List.length_take, if_neg (by omega)]
        omega
      rw [h2]
      omega
  · cases k with
    | zero => show eD D _ ≤ _; omega
    | succ k =>
      have := DKb_e hw (c := 0) (by omega)
      show eD (wD (1 - h) (nxE D h ep) N (k + 1) 0 D) (8192 * (1 - h) + 64 * (1 + 0)) ≤ M + 1
      omega
/-- all its blocks and its head -/
theorem DSK_h {M : Nat} {N : List Int32} (hB : B.length ≤ 7747) (hN : N.length ≤ 7747) (hM : M + 1 < 65535) (hk : DSK D h ep B M) : DSK (wH (1 - h) (nxE D h ep) 1 (wD (1 - h) (nxE D h ep) N (nbk N) 0 D)) (1 - h) (nxE D h ep) N (M + 1) := by
  obtain ⟨⟨a, b, c, d⟩, k1, k2, k3, k4, k5, k6⟩ := hk
  have hb : nbk N ≤ 127 := by unfold nbk; omega
  have hx : nxE D h ep ≤ M + 1 := by unfold nxE; omega
  have hx2 : ep < nxE D h ep := by unfold nxE; omega
  have o1 : ∀ i, (i < 8192 * (1 - h) + 64 ∨ 8192 * (1 - h) + 8192 ≤ i) → wD (1 - h) (nxE D h ep) N (nbk N) 0 D i = D i := fun i hi => wD_o _ 0 D (by omega)
  have o : ∀ i, (i < 8192 * (1 - h) ∨ 8192 * (1 - h) + 8192 ≤ i) → wH (1 - h) (nxE D h ep) 1 (wD (1 - h) (nxE D h ep) N (nbk N) 0 D) i = D i := fun i hi => by rw [wH_o (by omega), o1 i (by omega)]
  have z : ∀ c, c < 127 → eD D (8192 * (1 - h) + 64 * (1 + c)) < nxE D h ep := fun c hc => by
    have := k5 c hc
    unfold nxE
    omega
  have hw := DK_wD (h := 1 - h) (B := N) (show nxE D h ep < 65536 by omega) (nbk N) 0 0 D (by omega) (by omega) (by omega) (by omega) (by rw [List.take_zero]; exact DKb_n z)
  have hcut : N.take (cutQ (nbk N) 0 0) = N := by
    refine List.take_of_length_le ?_
    unfold cutQ nbk
    split <;> omega
  rw [hcut] at hw
  obtain ⟨w1, w2⟩ := wH_e (D := wD (1 - h) (nxE D h ep) N (nbk N) 0 D) (h := 1 - h) (ep := nxE D h ep) (t := 1) (by omega) (by omega)
  have hh : 1 - (1 - h) = h := by omega
  have hE : ∀ c, c < 127 → eD (wH (1 - h) (nxE D h ep) 1 (wD (1 - h) (nxE D h ep) N (nbk N) 0 D)) (8192 * h + 64 * (1 + c)) ≤ ep := fun c hc => by
    have := DKb_e k1 hc
    unfold eD at this ⊢
    rw [o _ (by omega), o _ (by omega)]
    exact this
  refine ⟨⟨by omega, by omega, hx, hM⟩, DKb_o hN hw (fun i h1 h2 => wH_o (by omega)), w1, w2, ?_, ?_, ?_⟩
  · intro _
    rw [hh]
    unfold eD
    rw [o _ (by omega), o _ (by omega)]
    unfold eD at k2
    omega
  · intro c hc
    rw [hh]
    have := hE c hc
    omega
  · rw [hh]
    have := hE 0 (by omega)
    rw [show 64 * (1 + 0) = 64 from rfl] at this
    omega
/-- the old head says then that it doesn't count -/
theorem DSK_z {M ep' : Nat} (hep : ep' < ep) (hB : B.length ≤ 7747) (hk : DSK D h ep B M) : DSK (wH (1 - h) ep' 0 D) h ep B M := by
  obtain ⟨⟨a, b, c, d⟩, k1, k2, k3, k4, k5, k6⟩ := hk
  have o : ∀ i, (i < 8192 * (1 - h) ∨ 8192 * (1 - h) + 64 ≤ i) → wH (1 - h) ep' 0 D i = D i := fun i hi => wH_o hi
  obtain ⟨w1, w2⟩ := wH_e (D := D) (h := 1 - h) (ep := ep') (t := 0) (by omega) (by omega)
  refine ⟨⟨a, b, c, d⟩, DKb_o hB k1 (fun i h1 h2 => o i (by omega)), ?_, ?_, ?_, ?_, ?_⟩
  · unfold eD
    rw [o _ (by omega), o _ (by omega)]
    exact k2
  · rw [o _ (by omega)]
    exact k3
  · intro hh
    rw [w2] at hh
    omega
  · intro c hc
    unfold eD
    rw [o _ (by omega), o _ (by omega), o _ (by omega), o _ (by omega)]
    exact k5 c hc
  · unfold eD
    rw [o _ (by omega), o _ (by omega)]
    exact k6
end MDI
