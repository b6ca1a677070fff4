
/-! ===== an instruction keeps it: calls, ends, jumps ===== -/
section MSR
variable {As : List Ri} {I : List It} {s : Ms} {a : Ri} {LT : Nat → Int32} {r1 r2 : List Rw} {x : Rw}
theorem zop_10 {k j : Nat} {o : Int32} : zop As k 10 o j s = zcal As j s := rfl
theorem zop_11 {k j : Nat} {o : Int32} : zop As k 11 o j s = zlv s := rfl
theorem zop_12 {k j : Nat} {o : Int32} : zop As k 12 o j s = zlv s := rfl
theorem zop_13 {k j : Nat} {o : Int32} : zop As k 13 o j s = zend 0 s := rfl
theorem zop_14 {k j : Nat} {o : Int32} : zop As k 14 o j s = zsP o.toNatClampNeg s := rfl
theorem zop_15 {k j : Nat} {o : Int32} : zop As k 15 o j s = if ztop s = 0 then zsP o.toNatClampNeg (zpop s) else zpop s := rfl
theorem zop_16 {k j : Nat} {o : Int32} : zop As k 16 o j s = zbrn s := rfl
theorem zop_17 {k j : Nat} {o : Int32} : zop As k 17 o j s = if ztop s = 0 then zsk (k, o) (zend 1 (zpop s)) else zpop s := rfl
theorem pT_0 : pT I a LT [] = [] := rfl
theorem mat_0 {t : Int32} : mat t 0 := fun _ => Or.inl rfl
/-- what a call is, by its types -/
theorem FS_call {k j : Nat} (hL : LOf As I) (h : FS As I k a LT) (hr : riR a = r1 ++ x :: r2) (hx : x.1 = 204 ∨ x.1 = 205) (hj : itK I x.2.2.1 = some j) : ∃ b, As[j]? = some b ∧ itW b ∧ riF b = (if x.1 = 204 then 2 else 3) ∧ hnd x = (riQ b).length ∧ npA As j = (riQ b).length ∧ (riQ b).length ≤ (pT I a LT r1).length ∧ (∀ i t, (riQ b)[i]? = some t → (pT I a LT r1)[(riQ b).length - 1 - i]? = some t) ∧ (x.1 = 204 → pT I a LT (r1 ++ [x]) = riT b :: (pT I a LT r1).drop (riQ b).length) ∧ (x.1 = 205 → pT I a LT (r1 ++ [x]) = (pT I a LT r1).drop (riQ b).length) := by
  obtain ⟨LT1, P, e1, e2, e3, e4, e5, e6, e7, e8, e9, e10, e11⟩ := FS_next hL h hr
  obtain ⟨b, hb, hio, hw⟩ := it_at hL hj
  have hC := (LOf_s hL).2.2.1
  have hnd' : hnd x = x.2.1.toNatClampNeg := by unfold hnd; rw [if_pos hx]
  have ht : (tcal I x P none).2 = none := by
    rcases hx with hx | hx
    · rw [ty_204 hx] at e6; exact e6
    · rw [ty_205 hx] at e6; exact e6
  obtain ⟨j', k1, k2, k3, k4, k5, k6, k7, k8, k9⟩ := tcal_s hC e3 (by omega) ht
  rw [hj] at k1
  cases k1
  have h4 : (riQ b).length ≤ 4 := hw.2.2.1
  have hc : x.2.1.toNatClampNeg = (riQ b).length := by
    rw [← k4, hio.2.2.2.2.1, oN_n (by omega)]
  have hF : riF b = (if x.1 = 204 then 2 else 3) := by
    rw [hio.2.1] at k5
    have hw1 := hw.1
    rcases hx with hx | hx
    · rw [if_pos hx] at k5 ⊢
      exact (oN_e (b := 2) (by omega) (by omega)).mp k5
    · rw [if_neg (by omega)] at k5 ⊢
      exact (oN_e (b := 3) (by omega) (by omega)).mp k5
  have hlen : (P.take x.2.1.toNatClampNeg).length = (riQ b).length := by rw [List.length_take]; omega
  refine ⟨b, hb, hw, hF, by omega, by unfold npA; rw [hb], by rw [e2, List.length_map]; omega, fun i t hi => ?_, fun hx4 => ?_, fun hx5 => ?_⟩
  · have hil := (List.getElem?_eq_some_iff.mp hi).1
    have hl2 : (riQ b).length - 1 - i < P.length := by omega
    have hy := List.getElem?_eq_getElem hl2
    have hrev : (P.take x.2.1.toNatClampNeg).reverse[i]? = some (P[(riQ b).length - 1 - i]) := by
      rw [List.getElem?_reverse (by omega), hlen, List.getElem?_take, if_pos (by omega), hy]
    have := k9 i _ hrev
    rw [e2, List.getElem?_map, hy]
    show some _ = some t
    rw [this, hio.2.2.2.2.2 i t hi]
  · rw [e7, ty_204 hx4, k8, hc, e2, hio.2.2.2.1, ← List.map_drop]
    rfl
  · rw [e7, ty_205 hx5, hc, e2, ← List.map_drop]
theorem wz_call {k j : Nat} {o : Int32} (hL : LOf As I) (hc : WTc As I s) (ht : TFr As I s a LT r1 (x :: r2)) (h1 : x.1 = 204 ∨ x.1 = 205) (hj : itK I x.2.2.1 = some j) : WZ As I (zop As k (opc x.1) o j (zA r1 x s)) := by
  have hh := ht
  obtain ⟨t1, t2, t3, t4, t5, t6, t7⟩ := ht
  obtain ⟨b, b1, b2, b3, b4, b5, b6, b7, b8, b9⟩ := FS_call hL t1 t4 h1 hj
  rw [show opc x.1 = 10 by rcases h1 with h1 | h1 <;> (rw [h1]; rfl), zop_10]
  unfold zcal
  by_cases hF : zF (zA r1 x s) < 3000
  · have hF' : zF s < 3000 := hF
    rw [if_pos hF]
    by_cases hD : zD (zA r1 x s) < 20
    · have hD' : zD s < 20 := hD
      rw [if_pos hD, b5]
      have hfb : riF b = 2 ∨ riF b = 3 := by
        rcases h1 with h1 | h1
        · rw [if_pos h1] at b3; exact Or.inl b3
        · rw [if_neg (by omega)] at b3; exact Or.inr b3
      obtain ⟨LT', fs⟩ := FS_of hL b1 (by omega)
      have h4 : (riQ b).length ≤ 4 := b2.2.2.1
      -- the new state
      have eD : zD (zopn j (riQ b).length (ztch 2 (nmk As j) (zbr (zA r1 x s)))) = zD s + 1 := rfl
      have eT : zT (zopn j (riQ b).length (ztch 2 (nmk As j) (zbr (zA r1 x s)))) = zT s - (riQ b).length := rfl
      have eV : zV (zopn j (riQ b).length (ztch 2 (nmk As j) (zbr (zA r1 x s)))) = zV s := rfl
      have ew : zw (zopn j (riQ b).length (ztch 2 (nmk As j) (zbr (zA r1 x s)))) = upN (zw s) (zD s + 1) j := rfl
      have eP : zP (zopn j (riQ b).length (ztch 2 (nmk As j) (zbr (zA r1 x s)))) = upN (upN (zP s) (zD s) (lens r1 + ln1 x.1)) (zD s + 1) 0 := rfl
      have eB : zB (zopn j (riQ b).length (ztch 2 (nmk As j) (zbr (zA r1 x s)))) = upN (zB s) (zD s + 1) (zT s - (riQ b).length) := rfl
      have eL : zL (zopn j (riQ b).length (ztch 2 (nmk As j) (zbr (zA r1 x s)))) = fun i => if 10 * (zD s + 1) ≤ i then (if i - 10 * (zD s + 1) < (riQ b).length then zV s (zT s - (riQ b).length + (i - 10 * (zD s + 1))) else 0) else zL s i := rfl
      have eF : zF (zopn j (riQ b).length (ztch 2 (nmk As j) (zbr (zA r1 x s)))) = zF s + 1 := rfl
      have eG : zG (zopn j (riQ b).length (ztch 2 (nmk As j) (zbr (zA r1 x s)))) = zG s := rfl
      generalize zopn j (riQ b).length (ztch 2 (nmk As j) (zbr (zA r1 x s))) = s' at *
      have hlow : ∀ d, d < zD s' → LFr As I s' d := fun d hd => by
        rw [eD] at hd
        by_cases hdd : d = zD s
        · subst hdd
          refine ⟨a, LT, r1, x, r2, by rw [ew, upN_o (by omega)]; exact t1, t2, fun i hi => ?_, t4, h1, ?_, ?_, ?_, ?_⟩
          · rw [eL]
            dsimp only
            rw [if_neg (by omega)]
            exact t3 i hi
          · rw [eP, upN_o (by omega), upN_s, lens_a]
            rfl
          · rw [ew, upN_s]; exact hj
          · rw [eB, upN_s, upN_o (by omega), List.length_drop, b4]
            omega
          · rw [eB, upN_s, b4]
            exact vT_o (s := s) (vT_d (c := (riQ b).length) t7) (by rw [List.length_drop]; omega) (fun i _ => by rw [eV])
        · refine LFr_o (hc.2.2.2.2 d (by omega)) (by rw [ew, upN_o (by omega)]) (by rw [ew, upN_o (by omega)]) (by rw [eP, upN_o (by omega), upN_o hdd]) (by rw [eB, upN_o (by omega)]) (by rw [eB, upN_o (by omega)]) (fun i hi => ?_) (fun i _ => by rw [eV])
          rw [eL]
          dsimp only
          rw [if_neg (by omega)]
      have hc' : WTc As I s' := ⟨by rw [eD]; omega, by rw [eF]; omega, by rw [eB, upN_o (by omega)]; exact hc.2.2.1, fun u v hu hv => by rw [eG]; exact hc.2.2.2.1 u v hu hv, hlow⟩
      have ht' : TFr As I s' b LT' [] (riR b) := by
        refine ⟨by rw [ew, eD, upN_s]; exact fs, by rw [eD]; exact ⟨fun hh => by omega, fun hh => by omega⟩, fun i hi => ?_, rfl, by rw [eP, eD, upN_s]; rfl, by rw [eT, eB, eD, upN_s, pT_0]; rfl, fun i y hi => by rw [pT_0] at hi; simp at hi⟩
        rw [eL, eD]
        dsimp only
        rw [if_pos (by omega), show 10 * (zD s + 1) + i - 10 * (zD s + 1) = i by omega]
        by_cases hin : i < (riQ b).length
        · rw [if_pos hin]
          have hq := List.getElem?_eq_getElem hin
          have h0 := (FS_at (r1 := []) (r2 := riR b) hL fs rfl).2.2.2.1 i hin
          have h0' : (qS I b LT' (riR b)).1 i = (riQ b)[i] := by rw [h0]; exact fs.2.1 i _ hq
          rw [h0']
          have := t7 _ _ (b7 i _ hq)
          rw [show zT s - 1 - ((riQ b).length - 1 - i) = zT s - (riQ b).length + i by omega] at this
          exact this
        · rw [if_neg hin]
          exact mat_0
      refine ⟨WE_of hL hc' ht', fun _ => ⟨hc', b, LT', [], riR b, ht', fun hh => ?_⟩⟩
      obtain ⟨_, _, _, _, r, hr, _⟩ := fs
      rw [hr] at hh
      have := (List.append_eq_nil_iff.mp hh).2
      unfold ptl at this
      split at this
      · simp at this
      · split at this <;> simp at this
    · rw [if_neg hD]
      exact WZ_end (c := 0) (e := 4) (F' := zF s + 1) (k' := zk s) hL hc hh (Nat.zero_le _) (by omega)
  · rw [if_neg hF]
    exact WZ_end (c := 0) (e := 3) (F' := zF s) (t' := zt s) (k' := zk s) hL hc hh (Nat.zero_le _) hc.2.1
theorem wz_leave {k j : Nat} {o : Int32} (hL : LOf As I) (hc : WTc As I s) (ht : TFr As I s a LT r1 (x :: r2)) (h1 : x.1 = 11 ∨ x.1 = 12) : WZ As I (zop As k (opc x.1) o j (zA r1 x s)) ∧ 1 ≤ zD s := by
  have hh := ht
  obtain ⟨t1, t2, t3, t4, t5, t6, t7⟩ := ht
  obtain ⟨LT1, P, e1, e2, e3, e4, e5, e6, e7, e8, e9, e10, e11⟩ := FS_next hL t1 t4
  have hfm : (x.1 = 11 → riF a = 2 ∧ P.length = 1) ∧ (x.1 = 12 → riF a = 3 ∧ P.length = 0) := ⟨fun hx => by have := e9.2.2.2.2.1 hx; omega, fun hx => by have := e9.2.2.2.2.2.1 hx; omega⟩
  have hD : 1 ≤ zD s := by
    by_cases h0 : zD s = 0
    · have := t2.mp h0
      rcases h1 with h1 | h1
      · have := hfm.1 h1; omega
      · have := hfm.2 h1; omega
    · omega
  refine ⟨?_, hD⟩
  rw [show zop As k (opc x.1) o j (zA r1 x s) = zlv (zA r1 x s) by rcases h1 with h1 | h1 <;> (rw [h1]; rfl)]
  obtain ⟨d, hd⟩ : ∃ d, zD s = d + 1 := ⟨zD s - 1, by omega⟩
  obtain ⟨a', LT', r0, y, r2', g1, g2, g3, g4, g5, g6, g7, g8, g9⟩ := hc.2.2.2.2 d (by omega)
  obtain ⟨b, b1, b2, b3, b4, b5, b6, b7, b8, b9⟩ := FS_call hL g1 g4 g5 g7
  have hab : b = a := by
    have := t1.1.1
    rw [hd, b1] at this
    exact Option.some.inj this
  subst hab
  have eD : zD (zlv (zA r1 x s)) = d := by show zD s - 1 = d; omega
  have eT : zT (zlv (zA r1 x s)) = zT s := rfl
  have eV : zV (zlv (zA r1 x s)) = zV s := rfl
  have ew : zw (zlv (zA r1 x s)) = zw s := rfl
  have eP : zP (zlv (zA r1 x s)) = upN (zP s) (zD s) (lens r1 + ln1 x.1) := rfl
  have eB : zB (zlv (zA r1 x s)) = zB s := rfl
  have eL : zL (zlv (zA r1 x s)) = zL s := rfl
  have eF : zF (zlv (zA r1 x s)) = zF s := rfl
  have eG : zG (zlv (zA r1 x s)) = zG s := rfl
  generalize zlv (zA r1 x s) = s' at *
  have hc' : WTc As I s' := ⟨by rw [eD]; have := hc.1; omega, by rw [eF]; exact hc.2.1, by rw [eB]; exact hc.2.2.1, fun u v hu hv => by rw [eG]; exact hc.2.2.2.1 u v hu hv, fun d' hd' => by
    rw [eD] at hd'
    exact LFr_o (hc.2.2.2.2 d' (by omega)) (by rw [ew]) (by rw [ew]) (by rw [eP, upN_o (by omega)]) (by rw [eB]) (by rw [eB]) (fun i _ => by rw [eL]) (fun i _ => by rw [eV])⟩
  have key : zT s = zB s d + (pT I a' LT' (r0 ++ [y])).length ∧ vT s (zT s) (pT I a' LT' (r0 ++ [y])) := by
    rw [b4] at g8 g9
    rw [List.length_drop] at g8
    rw [hd] at t6
    rcases h1 with h1 | h1
    · obtain ⟨f1, f2⟩ := hfm.1 h1
      have hy : y.1 = 204 := by
        rcases g5 with g5 | g5
        · exact g5
        · rw [if_neg (by omega), f1] at b3; omega
      rw [b8 hy]
      match P, e2, e3, e6, f2 with
      | [], _, _, _, f2 => simp at f2
      | c :: c2 :: _, _, _, _, f2 => simp at f2
      | [c], e2, e3, e6, _ =>
        rw [ty_11 h1] at e6
        have hty : tyk (riT b) := b2.2.2.2.2.1 (Or.inl f1)
        have q := fl_q (e3 c (by simp)) hty e6
        have m0 : mat (riT b) (zV s (zT s - 1)) := by
          have := t7 0 c.1 (by rw [e2]; rfl)
          rw [q] at this
          exact this
        have hT1 : zT s = zB s (d + 1) + 1 := by rw [t6, e2]; rfl
        refine ⟨by rw [List.length_cons, List.length_drop]; omega, ?_⟩
        rw [hT1] at m0 ⊢
        exact vT_p (s := s) (s' := s) g9 (by rw [List.length_drop]; omega) m0 (fun _ _ => rfl) rfl
    · obtain ⟨f1, f2⟩ := hfm.2 h1
      have hy : y.1 = 205 := by
        rcases g5 with g5 | g5
        · rw [if_pos g5, f1] at b3; omega
        · exact g5
      rw [b9 hy]
      have hT1 : zT s = zB s (d + 1) := by rw [t6, e2, List.length_map, f2]; rfl
      exact ⟨by rw [List.length_drop]; omega, by rw [hT1]; exact g9⟩
  have ht' : TFr As I s' a' LT' (r0 ++ [y]) r2' := ⟨by rw [ew, eD]; exact g1, by rw [eD]; exact g2, fun i hi => by rw [eL, eD]; exact g3 i hi, by rw [g4]; simp, by rw [eP, eD, upN_o (by omega)]; exact g6, by rw [eT, eB, eD]; exact key.1, by rw [eT]; exact fun i z hi => by rw [eV]; exact key.2 i z hi⟩
  exact ⟨WE_of hL hc' ht', fun _ => ⟨hc', a', LT', _, _, ht', ne_b g1 g4 (by omega)⟩⟩
end MSR
