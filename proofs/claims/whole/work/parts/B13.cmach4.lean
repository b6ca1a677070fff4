
/-! ===== the class's machine: one instruction, as it stands in the code ===== -/
section MCS
variable {e : my_E} {d : Nat} {κ : my_K} {σ σ' : my_S} {Q : my_O → my_K → my_S → Prop} {A rv : Nat} {s : Ms} {As : List Ri} {I : List It}
theorem nmk_lt {j : Nat} {b : Ri} (hB : itsB As) (hb : As[j]? = some b) : nmk As j < mst (kdf (riF b)) ∧ j < 42 := by
  have h1 := (List.getElem?_eq_some_iff.mp hb).1
  have h2 := cnK_m (Bs := As) (j := As.length) h1 hb rfl
  rw [List.take_length] at h2
  have h3 := hB.1 (kdf (riF b))
  have h4 := itsB_42 hB
  unfold nmk
  rw [hb]
  exact ⟨by dsimp only; omega, by omega⟩
/-- an item, as its cells tell it -/
theorem itf {j : Nat} {b : Ri} (hB : itsB As) (hrel : iRel As I) (hR : RevC I As rv σ) (hb : As[j]? = some b) : σ.1 (rv + 4 + 3 * j) 1 = Int32.ofNat (kdf (riF b)) ∧ σ.1 (rv + 4 + 3 * j) 2 = Int32.ofNat (nmk As j) ∧ (riF b ≤ 1 → σ.1 (rv + 4 + 3 * j) 8 = riV b) ∧ σ.1 (rv + 4 + 3 * j) 5 = Int32.ofNat (riQ b).length := by
  have hjl := (List.getElem?_eq_some_iff.mp hb).1
  have hjI : j < I.length := by rw [hrel.1]; exact hjl
  obtain ⟨b', hb', hio⟩ := iRel_a2 hrel hjI
  rw [hb] at hb'
  cases hb'
  obtain ⟨z1, z2, z3, z4, z5, z6, z7⟩ := hR.1.2.2.2 j _ (itA_e hjI)
  have hfs : (As.map (fun a => a.1))[j]? = some (riF b) := by rw [List.getElem?_map, hb]; rfl
  obtain ⟨y1, y2⟩ := hR.2.1.1 j _ hfs
  have y3 : cnF ((As.map (fun a => a.1)).take j) (kdf (riF b)) = nmk As j := by
    unfold nmk
    rw [hb]
    dsimp only
    rw [cnK_F, List.map_take]
  rw [y3] at y2
  exact ⟨by rw [z4]; exact hio.2.2.1, y2, (hR.2.2.2.2 j b hb).1, by rw [z6]; exact hio.2.2.2.2.1⟩
theorem m_114 {c k j : Nat} {o : Int32} {b : Ri} (hA : A = 44 ∨ A = 53) (hrv : rv = 108 ∨ rv = 238 ∨ rv = 368) (hB : itsB As) (hV : itV b) (hrel : iRel As I) (hR : RevC I As rv σ) (h : CMs A rv s σ) (hb : As[j]? = some b) (hc : (c = 6 ∧ riF b = 0) ∨ (c = 7 ∧ riF b = 0) ∨ (c = 8 ∧ riF b = 1) ∨ (c = 9 ∧ riF b = 1) ∨ (c = 10 ∧ (riF b = 2 ∨ riF b = 3) ∧ (riQ b).length ≤ zT s)) (hT : zT s < 2200) (hT1 : c = 7 ∨ c = 8 → 1 ≤ zT s) (hT2 : c = 9 → 2 ≤ zT s) (hD : zD s ≤ 20) (hF : zF s ≤ 3000) (hd : 4 ≤ d) (hQ : ∀ σ', CMs A rv (zop As k c o j s) σ' → eqp (cmF A) σ σ' → Q (.inl none) κ σ') : my_M e d 114 [.inr (.inr (some A)), .inl (Int32.ofNat c), .inr (.inr (some (rv + 4 + 3 * j)))] κ σ Q := by
  obtain ⟨d, rfl⟩ := dS 1 (show 1 ≤ d by omega)
  obtain ⟨i1, i2, i3, i4⟩ := itf hB hrel hR hb
  have nl := nmk_lt hB hb
  have hin := in11 hrv nl.2
  have far : ∀ {σ' : my_S} {k : Nat}, eqp (cmF A) σ σ' → σ'.1 (rv + 4 + 3 * j) k = σ.1 (rv + 4 + 3 * j) k := fun f => eqp_g f (by unfold cmF; omega)
  have hal : alA As j = riV b := by unfold alA; rw [hb]
  have hnp : npA As j = (riQ b).length := by unfold npA; rw [hb]
  refine ys_114 (in4 hA) ?_
  unfold ys_114_0
  rw [if_neg (by simp)]
  rcases hc with ⟨rfl, hf⟩ | ⟨rfl, hf⟩ | ⟨rfl, hf⟩ | ⟨rfl, hf⟩ | ⟨rfl, hf, hq⟩
  · rw [hf] at i1 nl
    have n10 : nmk As j < 10 := nl.1
    rw [if_pos (by decide)]
    refine m_115 (K := 0) (n := nmk As j) hA h hin i1 (by omega) i2 (by omega) (by omega) (fun σ1 g1 f1 => ?_)
    rw [my_k0_v]
    refine ⟨_, rfl, hin, ?_⟩
    rw [far f1, i2]
    refine m_116 (n := nmk As j) hA g1 n10 (by omega) ?_
    rw [my_kI_v]
    refine m_117 hA g1 hT (by omega) (fun σ2 g2 f2 => ?_)
    rw [my_k0_v]
    exact hQ σ2 g2 (eqp_tr f1 f2)
  · rw [hf] at nl
    have n10 : nmk As j < 10 := nl.1
    rw [if_neg (by decide), if_pos (by decide)]
    refine ⟨_, rfl, hin, ?_⟩
    refine m_118 hA h (by omega) (hT1 (by omega)) (by omega) (fun σ1 g1 f1 => ?_)
    rw [my_kI_v, i2]
    refine m_119 (s := zpop s) hA g1 n10 (by omega) (fun σ2 g2 f2 => ?_)
    rw [my_k0_v]
    exact hQ σ2 g2 (eqp_tr f1 f2)
  · rw [hf] at i1 nl
    have n4 : nmk As j < 4 := nl.1
    have h1 := hT1 (by omega)
    rw [if_neg (by decide), if_neg (by decide), if_pos (by decide)]
    refine m_115 (K := 1) (n := nmk As j) hA h hin i1 (by omega) i2 (by omega) (by omega) (fun σ1 g1 f1 => ?_)
    rw [my_k0_v]
    refine m_118 (s := ztch 1 (nmk As j) s) hA g1 (by show zT s ≤ 2200; omega) h1 (by omega) (fun σ2 g2 f2 => ?_)
    rw [my_kI_v]
    have f12 := eqp_tr f1 f2
    refine m_120 (s := zpop (ztch 1 (nmk As j) s)) (n := nmk As j) hA g2 (by show zT s - 1 < 2200; omega) hrv nl.2 ((far f12).trans i2) n4 ((far f12).trans (i3 (by omega))) (hV.2 hf).2 (by omega) (fun σ3 g3 f3 => ?_)
    rw [my_k0_v]
    refine hQ σ3 ?_ (eqp_tr f12 f3)
    rw [zop_8]
    unfold zcel
    rw [hal]
    exact g3
  · rw [hf] at i1 nl
    have n4 : nmk As j < 4 := nl.1
    have h1 := hT2 rfl
    rw [if_neg (by decide), if_neg (by decide), if_neg (by decide), if_pos (by decide)]
    refine m_115 (K := 1) (n := nmk As j) hA h hin i1 (by omega) i2 (by omega) (by omega) (fun σ1 g1 f1 => ?_)
    rw [my_k0_v]
    refine m_118 (s := ztch 1 (nmk As j) s) hA g1 (by show zT s ≤ 2200; omega) (by show 1 ≤ zT s; omega) (by omega) (fun σ2 g2 f2 => ?_)
    rw [my_kI_v]
    refine m_118 (s := zpop (ztch 1 (nmk As j) s)) hA g2 (by show zT s - 1 ≤ 2200; omega) (by show 1 ≤ zT s - 1; omega) (by omega) (fun σ3 g3 f3 => ?_)
    rw [my_kI_v]
    have f13 := eqp_tr f1 (eqp_tr f2 f3)
    refine m_122 (s := zpop (zpop (ztch 1 (nmk As j) s))) (n := nmk As j) hA g3 hrv nl.2 ((far f13).trans i2) n4 ((far f13).trans (i3 (by omega))) (hV.2 hf).2 (by omega) (fun σ4 g4 f4 => ?_)
    rw [my_k0_v]
    refine hQ σ4 ?_ (eqp_tr f13 f4)
    rw [zop_9]
    unfold zset
    rw [hal]
    exact g4
  · have hk2 : kdf (riF b) = 2 := by rcases hf with hf | hf <;> (rw [hf]; rfl)
    rw [hk2] at i1 nl
    have n16 : nmk As j < 16 := nl.1
    rw [if_neg (by decide), if_neg (by decide), if_neg (by decide), if_neg (by decide)]
    refine m_123 (j := j) (n := nmk As j) (c := (riQ b).length) hA h hF hD (by omega) hq (by have := (hB.2 b (List.mem_of_getElem? hb)).2.2.1; exact this) hrv nl.2 i1 i2 (by omega) i4 (by omega) (fun σ1 g1 f1 => ?_)
    rw [my_k0_v]
    refine hQ σ1 ?_ f1
    rw [zop_10]
    unfold zcal
    rw [hnp]
    exact g1
theorem zop_2 {k j : Nat} {o : Int32} : zop As k 2 o j s = zpsh 1 s := rfl
theorem zop_3 {k j : Nat} {o : Int32} : zop As k 3 o j s = zpsh 0 s := rfl
theorem zop_19 {k j : Nat} {o : Int32} : zop As k 19 o j s = zpsh (-(ztop s)) (zpop s) := rfl
theorem zop_20 {k j : Nat} {o : Int32} : zop As k 20 o j s = zpsh (1 - ztop s) (zpop s) := rfl
theorem m_113f {a : Ri} {LT : Nat → Int32} {r1 r2 : List Rw} {x : Rw} {j : Nat} {bb : Ri} (hL : LOf As I) (hc : WTc As I s) (ht : TFr As I s a LT r1 (x :: r2)) (hn : 200 ≤ x.1 ∧ x.1 ≤ 205) (jj : itK I x.2.2.1 = some j) (hb : As[j]? = some bb) (hio : iOf bb (itA I j)) (hw : itW bb) : ((opc x.1 = 6 ∧ riF bb = 0) ∨ (opc x.1 = 7 ∧ riF bb = 0) ∨ (opc x.1 = 8 ∧ riF bb = 1) ∨ (opc x.1 = 9 ∧ riF bb = 1) ∨ (opc x.1 = 10 ∧ (riF bb = 2 ∨ riF bb = 3) ∧ (riQ bb).length ≤ zT s)) ∧ ((opc x.1 = 7 ∨ opc x.1 = 8 → 1 ≤ zT s) ∧ (opc x.1 = 9 → 2 ≤ zT s)) := by
  have hT0 := ht
  obtain ⟨t1, t2, t3, t4, t5, t6, t7⟩ := ht
  obtain ⟨LT1, P, e1, e2, e3, e4, e5, e6, e7, e8, e9, e10, e11⟩ := FS_next hL t1 t4
  have hPT : (pT I a LT r1).length = P.length := by rw [e2, List.length_map]
  have kd0 : (itA I j).2.2.1 = 0 → riF bb = 0 := fun hk => kdf_0 (kd_f hio hw (K := 0) (by omega) hk)
  have kd1 : (itA I j).2.2.1 = 1 → riF bb = 1 := fun hk => kdf_1 (kd_f hio hw (K := 1) (by omega) hk)
  have hcs : x.1 = 200 ∨ x.1 = 201 ∨ x.1 = 202 ∨ x.1 = 203 ∨ x.1 = 204 ∨ x.1 = 205 := by omega
  have hcc : (opc x.1 = 6 ∧ riF bb = 0) ∨ (opc x.1 = 7 ∧ riF bb = 0) ∨ (opc x.1 = 8 ∧ riF bb = 1) ∨ (opc x.1 = 9 ∧ riF bb = 1) ∨ (opc x.1 = 10 ∧ (riF bb = 2 ∨ riF bb = 3) ∧ (riQ bb).length ≤ zT s) := by
    rcases hcs with hx | hx | hx | hx | hx | hx
    · left
      rw [ty_200 hx] at e6
      obtain ⟨k', w1, w2, _⟩ := mns_s e6
      rw [jj] at w1
      cases w1
      exact ⟨by rw [hx]; rfl, kd0 w2⟩
    · right; left
      have hn1 : hnd x = 1 := by unfold hnd; simp [hx]
      match P, e5, e6 with
      | [], e5, _ => simp at e5; omega
      | c :: P0, _, e6 =>
        rw [ty_201 hx] at e6
        obtain ⟨k', w1, w2, _⟩ := mns_s (omin_0.mp e6).1
        rw [jj] at w1
        cases w1
        exact ⟨by rw [hx]; rfl, kd0 w2⟩
    · right; right; left
      have hn1 : hnd x = 1 := by unfold hnd; simp [hx]
      match P, e5, e6 with
      | [], e5, _ => simp at e5; omega
      | c :: P0, _, e6 =>
        rw [ty_202 hx] at e6
        have n0 := (mns_k (Or.inr (Or.inl rfl)) e6).1
        rw [n0] at e6
        obtain ⟨k', w1, w2, _⟩ := mns_s e6
        rw [jj] at w1
        cases w1
        exact ⟨by rw [hx]; rfl, kd1 w2⟩
    · right; right; right; left
      have hn1 : hnd x = 2 := by unfold hnd; simp [hx]
      match P, e5, e6 with
      | [], e5, _ => simp at e5; omega
      | [_], e5, _ => simp at e5; omega
      | c :: c2 :: P0, _, e6 =>
        rw [ty_203 hx] at e6
        obtain ⟨k', w1, w2, _⟩ := mns_s (omin_0.mp (omin_0.mp e6).1).1
        rw [jj] at w1
        cases w1
        exact ⟨by rw [hx]; rfl, kd1 w2⟩
    · right; right; right; right
      obtain ⟨b', b1, b2, b3, b4, b5, b6, _⟩ := FS_call hL t1 t4 (Or.inl hx) jj
      rw [hb] at b1
      cases b1
      rw [if_pos hx] at b3
      exact ⟨by rw [hx]; rfl, Or.inl b3, by omega⟩
    · right; right; right; right
      obtain ⟨b', b1, b2, b3, b4, b5, b6, _⟩ := FS_call hL t1 t4 (Or.inr hx) jj
      rw [hb] at b1
      cases b1
      rw [if_neg (by omega)] at b3
      exact ⟨by rw [hx]; rfl, Or.inr b3, by omega⟩
  have hnx : (opc x.1 = 7 ∨ opc x.1 = 8 → 1 ≤ zT s) ∧ (opc x.1 = 9 → 2 ≤ zT s) := by
    have : (opc x.1 = 7 ∨ opc x.1 = 8 → 1 ≤ hnd x) ∧ (opc x.1 = 9 → 2 ≤ hnd x) := by
      rcases hcs with hx | hx | hx | hx | hx | hx
      · rw [hx]; exact ⟨fun hh => by rcases hh with hh | hh <;> exact absurd hh (by decide), fun hh => absurd hh (by decide)⟩
      · refine ⟨fun _ => by unfold hnd; simp [hx], fun hh => ?_⟩
        rw [hx] at hh; exact absurd hh (by decide)
      · refine ⟨fun _ => by unfold hnd; simp [hx], fun hh => ?_⟩
        rw [hx] at hh; exact absurd hh (by decide)
      · refine ⟨fun hh => ?_, fun _ => by unfold hnd; simp [hx]⟩
        rw [hx] at hh; rcases hh with hh | hh <;> exact absurd hh (by decide)
      · rw [hx]; exact ⟨fun hh => by rcases hh with hh | hh <;> exact absurd hh (by decide), fun hh => absurd hh (by decide)⟩
      · rw [hx]; exact ⟨fun hh => by rcases hh with hh | hh <;> exact absurd hh (by decide), fun hh => absurd hh (by decide)⟩
    exact ⟨fun hh => by have := this.1 hh; omega, fun hh => by have := this.2 hh; omega⟩
  exact ⟨hcc, hnx⟩
theorem m_113n {a : Ri} {LT : Nat → Int32} {r1 r2 : List Rw} {x : Rw} {j : Nat} {σ1 : my_S} {t0 : Int32} (hA : A = 44 ∨ A = 53) (hrv : rv = 108 ∨ rv = 238 ∨ rv = 368) (hL : LOf As I) (R1 : RevC I As rv σ1) (g1 : CMs A rv (zA r1 x s) σ1) (hc : WTc As I s) (ht : TFr As I s a LT r1 (x :: r2)) (h6 : x.1 ≠ 206) (h8 : x.1 ≠ 208) (hj : 200 ≤ x.1 → x.1 ≤ 205 → itK I x.2.2.1 = some j) (ht0 : dwn (opc x.1) ≠ 0 → t0 = opx I As (zw s (zD s)) a r1 x) (hd : 5 ≤ d) (hQ : ∀ σ', CMs A rv (zop As (zw s (zD s)) (opc x.1) (opx I As (zw s (zD s)) a r1 x) j (zA r1 x s)) σ' → eqp (cmF A) σ1 σ' → Q (.inl none) κ σ') (hn : 200 ≤ x.1 ∧ x.1 ≤ 205) : ∃ a1, some (rv + 4 + 3 * zw s (zD s)) = some a1 ∧ my_in 11 a1 ∧ (my_M e d 209 [.inr (.inr (some a1)), .inl t0] κ σ1 (my_kA (fun x4 κ5 σ6 => my_M e d 114 [.inr (.inr (some A)), .inl (Int32.ofNat (opc x.1)), .inr (.inr x4)] κ5 σ6 (my_k0 (fun κ8 σ9 => ys_113_202 e d κ8 σ9 Q) (fun y10 κ11 σ12 => Q (.inr y10) κ11 σ12))) (fun y13 κ14 σ15 => Q (.inr y13) κ14 σ15))) := by
  obtain ⟨hB, hrel, hC, _⟩ := LOf_s hL
  have hT0 := ht
  obtain ⟨t1, t2, t3, t4, t5, t6, t7⟩ := ht
  have cd := t1.1
  have h2 := cd.2.1
  have hD := hc.1
  have hV := cd.2.2.1 x (by rw [t4]; simp)
  have hTT := TFr_T hL hc hT0
  have hkk : zw s (zD s) < 42 := by have := itsB_42 hB; have := (List.getElem?_eq_some_iff.mp cd.1).1; omega
  have hop := opc_31 hV h6 h8
  have hin := in11 hrv hkk
  obtain ⟨LT1, P, e1, e2, e3, e4, e5, e6, e7, e8, e9, e10, e11⟩ := FS_next hL t1 t4
  have hPT : (pT I a LT r1).length = P.length := by rw [e2, List.length_map]
  have fin : ∀ σ', CMs A rv (zop As (zw s (zD s)) (opc x.1) (opx I As (zw s (zD s)) a r1 x) j (zA r1 x s)) σ' → eqp (cmF A) σ1 σ' → my_k0 (fun κ σ => ys_113_202 e d κ σ Q) (fun y κ σ => Q (.inr y) κ σ) (.inl none) κ σ' := fun σ' g f => by
    rw [my_k0_v]
    exact hQ σ' g f
  have ho := opc_i hn
  have hd1 := dwn_i ho
  have ht := ht0 (by omega)
  obtain ⟨j', i, q1, q2, q3, q4, q5, q6, q7⟩ := nd_at (J := jO As (zw s (zD s)) a) (x := x) (r1 := r1) (r2 := r2) hB hrel (t4 ▸ cd.2.2.2.1) hn.1 hn.2
  rw [hj hn.1 hn.2] at q1
  cases q1
  have hox : opx I As (zw s (zD s)) a r1 x = Int32.ofNat i := by unfold opx; rw [hd1, q2, opv_1 (by omega)]
  refine ⟨_, rfl, hin, ?_⟩
  rw [ht, hox]
  have hndF : (ndF I a)[i]? = some j := by unfold ndF; rw [if_neg (by omega), t4]; exact q4
  refine c_209 hrv hkk h2 (R1.2.2.2.2 _ a cd.1) hndF (by omega) ?_
  rw [my_kA_v]
  obtain ⟨bb, hb, hio, hw⟩ := it_at hL (hj hn.1 hn.2)
  have hvb := (LOf_K hL).2 bb (List.mem_of_getElem? hb)
  obtain ⟨hcc, hnx⟩ := m_113f hL hc hT0 hn (hj hn.1 hn.2) hb hio hw
  exact m_114 (s := zA r1 x s) (k := zw s (zD s)) (o := opx I As (zw s (zD s)) a r1 x) (b := bb) hA hrv hB hvb hrel R1 g1 hb hcc (by show zT s < 2200; omega) hnx.1 hnx.2 hD hc.2.1 (by omega) fin
theorem m_113o {a : Ri} {LT : Nat → Int32} {r1 r2 : List Rw} {x : Rw} {j : Nat} {σ1 : my_S} {t0 : Int32} (hA : A = 44 ∨ A = 53) (hrv : rv = 108 ∨ rv = 238 ∨ rv = 368) (hL : LOf As I) (R1 : RevC I As rv σ1) (g1 : CMs A rv (zA r1 x s) σ1) (hc : WTc As I s) (ht : TFr As I s a LT r1 (x :: r2)) (h6 : x.1 ≠ 206) (h8 : x.1 ≠ 208) (hj : 200 ≤ x.1 → x.1 ≤ 205 → itK I x.2.2.1 = some j) (ht0 : dwn (opc x.1) ≠ 0 → t0 = opx I As (zw s (zD s)) a r1 x) (hd : 5 ≤ d) (hQ : ∀ σ', CMs A rv (zop As (zw s (zD s)) (opc x.1) (opx I As (zw s (zD s)) a r1 x) j (zA r1 x s)) σ' → eqp (cmF A) σ1 σ' → Q (.inl none) κ σ') (hn : ¬ (200 ≤ x.1 ∧ x.1 ≤ 205)) : ys_113_158 e d A (some (rv + 4 + 3 * zw s (zD s))) (Int32.ofNat (opc x.1)) t0 κ σ1 Q := by
  obtain ⟨hB, hrel, hC, _⟩ := LOf_s hL
  have hT0 := ht
  obtain ⟨t1, t2, t3, t4, t5, t6, t7⟩ := ht
  have cd := t1.1
  have h2 := cd.2.1
  have hD := hc.1
  have hV := cd.2.2.1 x (by rw [t4]; simp)
  have hTT := TFr_T hL hc hT0
  have hkk : zw s (zD s) < 42 := by have := itsB_42 hB; have := (List.getElem?_eq_some_iff.mp cd.1).1; omega
  have hop := opc_31 hV h6 h8
  have hin := in11 hrv hkk
  obtain ⟨LT1, P, e1, e2, e3, e4, e5, e6, e7, e8, e9, e10, e11⟩ := FS_next hL t1 t4
  have hPT : (pT I a LT r1).length = P.length := by rw [e2, List.length_map]
  have fin : ∀ σ', CMs A rv (zop As (zw s (zD s)) (opc x.1) (opx I As (zw s (zD s)) a r1 x) j (zA r1 x s)) σ' → eqp (cmF A) σ1 σ' → my_k0 (fun κ σ => ys_113_202 e d κ σ Q) (fun y κ σ => Q (.inr y) κ σ) (.inl none) κ σ' := fun σ' g f => by
    rw [my_k0_v]
    exact hQ σ' g f
  unfold ys_113_158
  by_cases h21 : opc x.1 < 21
  · rw [if_pos ((oN_lt1 (b := 21) (c := 21) rfl (by omega) (by omega)).mpr h21)]
    have hr := hV.2.2.2.2.1
    have hx7 : x.1 = 207 ∨ x.1 < 200 := by omega
    have hand : (opc x.1 < 11 ∨ 17 < opc x.1) → ys_113_195 e d A (Int32.ofNat (opc x.1)) t0 κ σ1 Q := fun hnn => by
      unfold ys_113_195
      have hc7 : opc x.1 = 1 ∨ opc x.1 = 2 ∨ opc x.1 = 3 ∨ opc x.1 = 4 ∨ opc x.1 = 5 ∨ opc x.1 = 19 ∨ opc x.1 = 20 := by
        rcases hx7 with hx | hx
        · rw [hx]; right; right; right; right; left; rfl
        · rw [opc_s hx] at hnn h21 ⊢
          omega
      have hl45 : opc x.1 = 4 ∨ opc x.1 = 5 → x.1 = 4 ∨ x.1 = 5 ∨ x.1 = 207 := fun hh => by
        rcases hx7 with hx | hx
        · exact Or.inr (Or.inr hx)
        · rw [opc_s hx] at hh; omega
      have hneed : opc x.1 = 5 ∨ opc x.1 = 19 ∨ opc x.1 = 20 → 1 ≤ zT s := fun hh => by
        have : 1 ≤ hnd x := by
          rcases hx7 with hx | hx
          · unfold hnd; simp [hx]
          · rw [opc_s hx] at hh
            unfold hnd
            rw [if_neg (by omega), if_neg (by omega), if_pos (by omega)]
            omega
        omega
      by_cases hd0 : dwn (opc x.1) = 0
      · have hcn : opc x.1 ≠ 1 ∧ opc x.1 ≠ 4 ∧ opc x.1 ≠ 5 := ⟨fun hh => by rw [hh] at hd0; exact absurd hd0 (by decide), fun hh => by rw [hh] at hd0; exact absurd hd0 (by decide), fun hh => by rw [hh] at hd0; exact absurd hd0 (by decide)⟩
        refine m_130 (As := As) (s := zA r1 x s) (k := zw s (zD s)) (j := j) hA g1 hc7 (by show zT s < 2200; omega) hneed hD (fun hh => by omega) (by omega) (fun σ' g f => ?_)
        refine fin σ' ?_ f
        have e : zop As (zw s (zD s)) (opc x.1) (opx I As (zw s (zD s)) a r1 x) j (zA r1 x s) = zop As (zw s (zD s)) (opc x.1) t0 j (zA r1 x s) := by
          rcases hc7 with hh | hh | hh | hh | hh | hh | hh
          · exact absurd hh hcn.1
          · rw [hh, zop_2, zop_2]
          · rw [hh, zop_3, zop_3]
          · exact absurd hh hcn.2.1
          · exact absurd hh hcn.2.2
          · rw [hh, zop_19, zop_19]
          · rw [hh, zop_20, zop_20]
        rw [e]
        exact g
      · rw [ht0 hd0]
        refine m_130 (As := As) (s := zA r1 x s) (k := zw s (zD s)) (j := j) hA g1 hc7 (by show zT s < 2200; omega) hneed hD (fun hh => ?_) (by omega) fin
        obtain ⟨i, hi, hv⟩ := hV.2.2.1 (hl45 hh)
        exact ⟨i, hi, opx_l (hl45 hh) hv hi⟩
    refine my_if (fun hh => hand (Or.inl ((oN_lt1 (b := 11) (c := 11) rfl (by omega) (by omega)).mp hh))) (fun hh1 => my_if (fun hh => hand (Or.inr ((oN_lt (p := 17) (by omega) (by omega)).mp hh))) (fun hh2 => ?_))
    have h11 : 11 ≤ opc x.1 := by
      by_cases hh : 11 ≤ opc x.1
      · exact hh
      · exact absurd ((oN_lt1 (b := 11) (c := 11) rfl (by omega) (by omega)).mpr (by omega)) hh1
    have h17 : opc x.1 ≤ 17 := by
      by_cases hh : opc x.1 ≤ 17
      · exact hh
      · exact absurd ((oN_lt (p := 17) (by omega) (by omega)).mpr (by omega)) hh2
    have hxe : opc x.1 = x.1 := by
      rcases hx7 with hx | hx
      · rw [hx] at h11; exact absurd h11 (by decide)
      · exact opc_s hx
    have hneed : opc x.1 = 11 ∨ opc x.1 = 15 ∨ opc x.1 = 17 → 1 ≤ zT s := fun hh => by
      have : 1 ≤ hnd x := by
        unfold hnd
        rw [if_neg (by omega), if_neg (by omega), if_pos (by omega)]
        omega
      omega
    have hD1 : opc x.1 = 11 ∨ opc x.1 = 12 → 1 ≤ zD s := fun hh => (wz_leave (k := 0) (j := 0) (o := 0) hL hc hT0 (by omega)).2
    by_cases hd0 : dwn (opc x.1) = 0
    · have hcn : opc x.1 ≠ 14 ∧ opc x.1 ≠ 15 ∧ opc x.1 ≠ 17 := ⟨fun hh => by rw [hh] at hd0; exact absurd hd0 (by decide), fun hh => by rw [hh] at hd0; exact absurd hd0 (by decide), fun hh => by rw [hh] at hd0; exact absurd hd0 (by decide)⟩
      refine m_127 (As := As) (s := zA r1 x s) (k := zw s (zD s)) (j := j) (o := t0) hA g1 ⟨h11, h17⟩ (by show zT s < 2200; omega) hneed hD hD1 hc.2.1 (fun hh => by omega) (by omega) (fun σ' g f => fin σ' ?_ f)
      have hc4 : opc x.1 = 11 ∨ opc x.1 = 12 ∨ opc x.1 = 13 ∨ opc x.1 = 16 := by omega
      have e : zop As (zw s (zD s)) (opc x.1) (opx I As (zw s (zD s)) a r1 x) j (zA r1 x s) = zop As (zw s (zD s)) (opc x.1) t0 j (zA r1 x s) := by
        rcases hc4 with hh | hh | hh | hh
        · rw [hh, zop_11, zop_11]
        · rw [hh, zop_12, zop_12]
        · rw [hh, zop_13, zop_13]
        · rw [hh, zop_16, zop_16]
      rw [e]
      exact g
    · rw [ht0 hd0]
      refine m_127 (As := As) (s := zA r1 x s) (k := zw s (zD s)) (j := j) hA g1 ⟨h11, h17⟩ (by show zT s < 2200; omega) hneed hD hD1 hc.2.1 (fun hh => ?_) (by omega) fin
      have hx14 : x.1 = 14 ∨ x.1 = 15 := by omega
      obtain ⟨D, hDj⟩ := FS_DJ t1
      obtain ⟨T, r1', r2', w1, w1', w2, w3, w4, w5, w6, w7, _⟩ := jmp_at hL t1 hDj t4 hx14
      refine ⟨lens r1', (opx_j t1 hx14 w2 w7).1, ?_⟩
      have l5 := lens_5 (r := r1')
      have c1500 := cd.2.2.2.2.2
      rw [w2, List.length_append] at c1500
      omega
  · rw [if_neg (fun hh => h21 ((oN_lt1 (b := 21) (c := 21) rfl (by omega) (by omega)).mp hh))]
    have hx7 : x.1 < 200 := by
      by_cases hx : x.1 < 200
      · exact hx
      · have : x.1 = 207 := by have := hV.2.2.2.2.1; omega
        rw [this] at h21; exact absurd (show opc 207 < 21 by decide) h21
    rw [opc_s hx7] at h21
    have hxr : 21 ≤ x.1 ∧ x.1 ≤ 31 := by have := hV.2.2.2.2.1; omega
    have hn2 : hnd x = 2 := by unfold hnd; rw [if_neg (by omega), if_pos (by omega)]
    refine m_125 (s := zA r1 x s) hA g1 (by rw [opc_s hx7]; exact hxr) (by show zT s ≤ 2200; omega) (by show 2 ≤ zT s; omega) (by omega) (fun σ' g f => fin σ' ?_ f)
    rw [zop_b (by rw [opc_s hx7]; exact hxr)]
    exact g
/-- ONE INSTRUCTION, the class's -/
theorem m_113 {a : Ri} {LT : Nat → Int32} {r1 r2 : List Rw} {x : Rw} {j : Nat} (hA : A = 44 ∨ A = 53) (hrv : rv = 108 ∨ rv = 238 ∨ rv = 368) (hL : LOf As I) (hR : RevC I As rv σ) (h : CMs A rv s σ) (hc : WTc As I s) (ht : TFr As I s a LT r1 (x :: r2)) (h6 : x.1 ≠ 206) (h8 : x.1 ≠ 208) (hj : 200 ≤ x.1 → x.1 ≤ 205 → itK I x.2.2.1 = some j) (hd : 6 ≤ d) (hQ : ∀ σ', CMs A rv (zop As (zw s (zD s)) (opc x.1) (opx I As (zw s (zD s)) a r1 x) j (zA r1 x s)) σ' → eqp (cmF A) σ σ' → Q (.inl none) κ σ') : my_M e d 113 [.inr (.inr (some A))] κ σ Q := by
  obtain ⟨d, rfl⟩ := dS 1 (show 1 ≤ d by omega)
  obtain ⟨hB, hrel, hC, _⟩ := LOf_s hL
  have hT0 := ht
  obtain ⟨t1, t2, t3, t4, t5, t6, t7⟩ := ht
  have cd := t1.1
  have h2 := cd.2.1
  have hD := hc.1
  have hV := cd.2.2.1 x (by rw [t4]; simp)
  have hTT := TFr_T hL hc hT0
  have hkk : zw s (zD s) < 42 := by have := itsB_42 hB; have := (List.getElem?_eq_some_iff.mp cd.1).1; omega
  have hcl := code_l cd
  have h61 := hR.2.2.2.1
  have hlr : lens (riR a) = lens r1 + (ln1 x.1 + lens r2) := by rw [t4, lens_a]; rfl
  have hop := opc_31 hV h6 h8
  have hln : ln1 x.1 = 1 + dwn (opc x.1) := (eb1_d (I := I) (J := jO As (zw s (zD s)) a) (N := ndl I r1 []) hV h6 h8 (cd.2.2.2.2.1 x (by rw [t4]; simp))).2.1
  have b := st_c cd t4 h6 h8 hR
  have p12 : σ.1 (rv + 4 + 3 * zw s (zD s)) 12 = Int32.ofNat (cdB I As (zw s (zD s)) a) := ((hR.2.2.2.2 _ a cd.1).2.2.2 h2).2.2.1
  have k3 := h.2.2.1
  have kD := k3.2 (zD s) (Nat.le_refl _)
  have hin := in11 hrv hkk
  obtain ⟨LT1, P, e1, e2, e3, e4, e5, e6, e7, e8, e9, e10, e11⟩ := FS_next hL t1 t4
  have hPT : (pT I a LT r1).length = P.length := by rw [e2, List.length_map]
  refine ys_113 (in4 hA) ?_
  unfold ys_113_0
  rw [k3.1, if_neg (oN_0 (by omega)), if_pos ((oN_lt1 (b := 21) (c := 21) rfl (by omega) (by omega)).mpr (by omega)), oN_n (by omega), kD.1]
  refine ⟨bdk (by omega) (by omega), ?_⟩
  unfold ys_113_32
  rw [if_neg (by simp), h.1, if_neg (by simp)]
  refine ⟨_, rfl, hin, ?_⟩
  rw [k3.1]
  refine ⟨bdk (by omega) (by omega), rv, rfl, in10 hrv, ?_⟩
  rw [oN_n (by omega), kD.2.1, t5, p12, ← Int32.ofNat_add]
  refine c_202 hrv (by omega) (by omega) ?_
  rw [my_kI_v, b.1, if_pos ((oN_lt1 (b := 32) (c := 32) rfl (by omega) (by omega)).mpr (by omega)), oN_n (by omega), show mc_w.getD (opc x.1) 0 = Int32.ofNat (dwn (opc x.1)) from mcw_d ⟨opc x.1, by omega⟩]
  refine ⟨bdk (by omega) (by omega), ?_⟩
  -- what comes behind the fetch
  have main : ∀ t0 : Int32, (dwn (opc x.1) ≠ 0 → t0 = opx I As (zw s (zD s)) a r1 x) → ys_113_114 e d A (some (rv + 4 + 3 * zw s (zD s))) (Int32.ofNat (opc x.1)) (Int32.ofNat (dwn (opc x.1))) t0 κ σ Q := fun t0 ht0 => by
    unfold ys_113_114
    rw [k3.1, oN_n (by omega), kD.2.1, t5, show (1 : Int32) + Int32.ofNat (dwn (opc x.1)) = Int32.ofNat (1 + dwn (opc x.1)) by rw [Int32.ofNat_add]; rfl, ← hln, ← Int32.ofNat_add]
    refine ⟨bdk (by omega) (by omega), bdk (by omega) (by omega), ?_⟩
    have hP := CMs_P (p := lens r1 + ln1 x.1) h
    generalize my_uI σ (A + 3) (zD s) (Int32.ofNat (lens r1 + ln1 x.1)) = σ1 at hP ⊢
    obtain ⟨g1, f1⟩ := hP
    have R1 : RevC I As rv σ1 := RevC_o hrel hR f1 (fun c k hh => by unfold cmF at hh; omega)
    by_cases hn : 200 ≤ x.1 ∧ x.1 ≤ 205
    · have ho := opc_i hn
      rw [if_neg (fun hh => by have := (oN_lt1 (b := 6) (c := 6) rfl (by omega) (by omega)).mp hh; omega), if_neg (fun hh => by have := (oN_lt (p := 10) (by omega) (by omega)).mp hh; omega)]
      exact m_113n hA hrv hL R1 g1 hc hT0 h6 h8 hj ht0 (by omega) (fun σ' g f => hQ σ' g (eqp_tr f1 f)) hn
    · have ho := opc_o hV h6 h8 hn
      have go := m_113o (e := e) (d := d) (κ := κ) (Q := Q) (t0 := t0) hA hrv hL R1 g1 hc hT0 h6 h8 hj ht0 (by omega) (fun σ' g f => hQ σ' g (eqp_tr f1 f)) hn
      exact my_if (fun _ => go) (fun c1 => my_if (fun _ => go) (fun c2 => by
        exfalso
        rcases ho with ho | ho
        · exact c1 ((oN_lt1 (b := 6) (c := 6) rfl (by omega) (by omega)).mpr ho)
        · exact c2 ((oN_lt (p := 10) (by omega) (by omega)).mpr ho)))
  unfold ys_113_91
  by_cases hd0 : dwn (opc x.1) = 0
  · rw [if_pos (by rw [hd0]; rfl)]
    exact main 0 (fun hh => absurd hd0 hh)
  · have hw4 := dwn_4 (c := opc x.1)
    rw [if_neg (show ¬ Int32.ofNat (dwn (opc x.1)) = 0 from fun hh => hd0 ((oN_e (b := 0) (by omega) (by omega)).mp hh))]
    refine ⟨rv, h.1, in10 hrv, ?_⟩
    rw [oN_s]
    refine c_203 (v := opn I (jO As (zw s (zD s)) a) x (ndl I r1 [])) hrv (by omega) (by omega) (fun i hi => b.2 i hi) (by omega) ?_
    rw [my_kI_v]
    exact main _ (fun _ => rfl)
end MCS
