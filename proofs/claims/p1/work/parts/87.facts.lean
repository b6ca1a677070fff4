/-! ===== the law's start: the things outside ===== -/
def mj_fv (T : Term) : Term := .field T "java/lang/String" "value" "[B"
def mj_sx (T : Term) (l : List Int32) : List Cond := [.exactly T "java/lang/String", .eq (.field T "java/lang/String" "coder" "B") (.int 0), .arrayOf (mj_fv T) .byte, .eq (.length (mj_fv T)) (.int (Int32.ofNat l.length))] ++ (List.range l.length).map fun j => .eq (.elem (mj_fv T) (.int (Int32.ofNat j))) (.int (l.getD j 0))
def mc_F : List Cond := flatC (.and given_1 narrow_1)
def mj_wd : Term := .static "SuiteKeeper" "WIDTHS" "[I"
set_option maxRecDepth 100000 in
theorem mw_f0 : (mc_F.drop 131).take 98 = mj_sx (.string "SuiteKeeper$Tokens" 29) mc_b0 := by decide +kernel
set_option maxRecDepth 100000 in
theorem mw_f1 : (mc_F.drop 229).take 23 = mj_sx (.string "SuiteKeeper$Tokens" 83) mc_b1 := by decide +kernel
set_option maxRecDepth 100000 in
theorem mw_f2 : (mc_F.drop 417).take 164 = mj_sx (.string "SuiteKeeper$Listing" 65) mc_b2 := by decide +kernel
set_option maxRecDepth 100000 in
theorem mw_fw : (mc_F.drop 12).take 34 = [.arrayOf mj_wd .int, .eq (.length mj_wd) (.int (Int32.ofNat 32))] ++ (List.range 32).map fun j => .eq (.elem mj_wd (.int (Int32.ofNat j))) (.int (mc_w.getD j 0)) := by decide +kernel
theorem mw_fc : Cond.eq (.static "java/lang/String" "COMPACT_STRINGS" "Z") (.int 1) ∈ mc_F := List.mem_of_getElem? (i := 4) (by decide +kernel)
theorem mw_ff : Cond.isRef (.static "jdk/internal/util/Preconditions" "SIOOBE_FORMATTER" "Ljava/util/function/BiFunction;") ∈ mc_F := List.mem_of_getElem? (i := 5) (by decide +kernel)
theorem mw_fu : Cond.isRef (.static Bundle.tN "UNASSIGNED_STACK" Bundle.steD) ∈ mc_F := List.mem_of_getElem? (i := 9) (by decide +kernel)
theorem mw_fn : Cond.isRef (.static Bundle.tN "SUPPRESSED_SENTINEL" Bundle.listD) ∈ mc_F := List.mem_of_getElem? (i := 10) (by decide +kernel)
theorem mw_nc : (List.range 5).all (fun i => (List.range 5).all fun j => decide (i = j) || mc_F.contains (.not (.castable (mj_nm mc_cl (13 + i)) (mj_nm mc_cl (13 + j))))) = true := by decide +kernel
theorem mj_cut {F ws : List Cond} {a b : Nat} (h : (F.drop a).take b = ws) {w : Cond} (hw : w ∈ ws) : w ∈ F := by
  rw [← h] at hw
  exact List.mem_of_mem_drop (List.mem_of_mem_take hw)
theorem mj_str1 {A0 : Array Value} {s : State} {T : Term} {l : List Int32} {B : Nat → Prop} (hl : l.length < 2 ^ 31) (hw : ∀ w ∈ mj_sx T l, w.before A0 s = true) (hB : ∀ a : Nat, a < s.heap.size → ¬ B a) :
    ∃ a v : Nat, T.eval A0 s none [] s = some (.ref a) ∧ va_O "java/lang/String" a B s s.heap ∧ va_OF "java/lang/String" "coder" "B" (.int 0) a B s s.heap ∧ va_OF "java/lang/String" "value" "[B" (.ref v) a B s s.heap ∧ va_T .byte v l.length (fun j => .int (l.getD j 0)) B s s.heap := by
  have h0 : ∀ k (c : Cond), (mj_sx T l)[k]? = some c → c.before A0 s = true := fun k c hc => hw c (List.mem_of_getElem? hc)
  obtain ⟨adK, adV, hS, he⟩ := vk_Sof (args := A0) (s := s) (N := 1) (tm := fun _ => T) (len := [l.length]) (byt := [l]) (A := B)
    (fun i hi => by obtain rfl : i = 0 := by omega
                    exact hl)
    (fun i hi => hw _ (List.mem_append_left _ (List.mem_of_getElem? (i := 0) rfl)))
    (fun i hi => hw _ (List.mem_append_left _ (List.mem_of_getElem? (i := 1) rfl)))
    (fun i hi => hw _ (List.mem_append_left _ (List.mem_of_getElem? (i := 2) rfl)))
    (fun i hi => by
      obtain rfl : i = 0 := by omega
      exact hw _ (List.mem_append_left _ (List.mem_of_getElem? (i := 3) rfl)))
    (fun i hi j hj => by
      obtain rfl : i = 0 := by omega
      exact hw _ (List.mem_append_right _ (List.mem_map.mpr ⟨j, List.mem_range.mpr hj, rfl⟩)))
    (fun i j hi hj hij => absurd (show i = j by omega) hij) hB
  obtain ⟨g1, g2, g3, g4⟩ := hS.1 0 (by omega)
  exact ⟨adK 0, adV 0, he 0 (by omega), g1, g2, g3, g4⟩
theorem mj_noncast {a b : String} {A0 : Array Value} {s : State} {c c' : ClassId} (h : (Cond.not (.castable a b)).before A0 s = true) (h1 : s.vm.findClass a = some c) (h2 : s.vm.findClass b = some c') : s.vm.assignable c c' = false := by
  simpa [Cond.before, Cond.holds, Cond.value, h1, h2] using h
theorem mj_nm_at {cl : List vw_C} {c : Nat} {q : vw_C} (h : cl[c]? = some q) : mj_nm cl c = q.1 := by simp [mj_nm, h]
theorem mw_ls : [Cond.laysStatic "SuiteKeeper" "WIDTHS" "[I", .laysStatic "java/lang/String" "COMPACT_STRINGS" "Z", .laysStatic "jdk/internal/util/Preconditions" "SIOOBE_FORMATTER" "Ljava/util/function/BiFunction;", .laysStatic Bundle.tN "UNASSIGNED_STACK" Bundle.steD, .laysStatic Bundle.tN "SUPPRESSED_SENTINEL" Bundle.listD, .initialized Bundle.tN].all (fun w => lw_tbl.contains w) = true := by decide +kernel
theorem mw_l {k : Nat} {w : Cond} (h : [Cond.laysStatic "SuiteKeeper" "WIDTHS" "[I", .laysStatic "java/lang/String" "COMPACT_STRINGS" "Z", .laysStatic "jdk/internal/util/Preconditions" "SIOOBE_FORMATTER" "Ljava/util/function/BiFunction;", .laysStatic Bundle.tN "UNASSIGNED_STACK" Bundle.steD, .laysStatic Bundle.tN "SUPPRESSED_SENTINEL" Bundle.listD, .initialized Bundle.tN][k]? = some w) : w ∈ lw_tbl := List.contains_iff_mem.mp (List.all_eq_true.mp mw_ls w (List.mem_of_getElem? h))
/-- where the things outside lie -/
def mc_ext (b wd v0 v1 v2 fa : Nat) (sa : Nat → Nat) : Nat → Nat := fun k => if k = 0 then b else if k = 27 then wd else if k = 28 then v0 else if k = 29 then v1 else if k = 30 then v2 else if k = 31 then fa else sa (k - 1)
theorem mc_ext_s {b wd v0 v1 v2 fa : Nat} {sa : Nat → Nat} {j : Nat} (hj : j < 26) : mc_ext b wd v0 v1 v2 fa sa (1 + j) = sa j := by
  unfold mc_ext
  rw [if_neg (by omega), if_neg (by omega), if_neg (by omega), if_neg (by omega), if_neg (by omega), if_neg (by omega), Nat.add_sub_cancel_left]
theorem mc_sobj {ext : Nat → Nat} {base a v : Nat} {k kv : Nat} {s : State} (hk : ext k = a) (hv : mj_r ext base kv = v) (ho : va_O "java/lang/String" a (mj_B base) s s.heap) (hc : va_OF "java/lang/String" "coder" "B" (.int 0) a (mj_B base) s s.heap) (hf : va_OF "java/lang/String" "value" "[B" (.ref v) a (mj_B base) s s.heap) :
    (∀ q, mc_cl[18]? = some q → va_O q.1 (ext k) (mj_B base) s s.heap) ∧ ∀ (j : Nat) (w : Value) (o n d : String), ([.ref kv, .int 0] : List Value)[j]? = some w → mc_EXF[j]? = some (o, n, d) → va_OF o n d (mj_v (mj_r ext base) w) (ext k) (mj_B base) s s.heap := by
  rw [hk]
  refine ⟨fun q hq => ?_, fun j w o n d hj he => ?_⟩
  · obtain rfl : (("java/lang/String", mj_T [], 0) : vw_C) = q := Option.some.inj hq
    exact ho
  · match j, hj, he with
    | 0, hj, he =>
      cases hj
      cases he
      show va_OF _ _ _ (.ref (mj_r ext base kv)) _ _ _ _
      rw [hv]
      exact hf
    | 1, hj, he =>
      cases hj
      cases he
      exact hc
    | k + 2, hj, he => simp at hj
theorem mc_start {s : State} {b L : Nat} {xs : Nat → Int32} (hts : ∀ w ∈ lw_tbl, w.before #[Value.ref b] s = true) (hX : va_X b L xs s s.heap) (hbl : b < s.heap.size) (hg : (Jvm.Cond.and given_1 narrow_1).before #[Value.ref b] s = true) :
    ∃ (fv : Value) (ext : Nat → Nat), (fv = .null ∨ fv = .ref 31) ∧ ext 0 = b ∧ mc_XF fv ext (mc_fx L xs) s.heap.size s := by
  have hF : ∀ w ∈ mc_F, w.before #[Value.ref b] s = true := flat_of_before _ hg
  have hB : ∀ a : Nat, a < s.heap.size → ¬ mj_B s.heap.size a := fun a h h' => absurd (show s.heap.size ≤ a from h') (Nat.not_le.mpr h)
  obtain ⟨a0, v0, t0, o0, c0, f0, y0⟩ := mj_str1 (B := mj_B s.heap.size) (T := .string "SuiteKeeper$Tokens" 29) (l := mc_b0) (by decide +kernel) (fun w hw => hF w (mj_cut mw_f0 hw)) hB
  obtain ⟨a1, v1, t1, o1, c1, f1, y1⟩ := mj_str1 (B := mj_B s.heap.size) (T := .string "SuiteKeeper$Tokens" 83) (l := mc_b1) (by decide +kernel) (fun w hw => hF w (mj_cut mw_f1 hw)) hB
  obtain ⟨a2, v2, t2, o2, c2, f2, y2⟩ := mj_str1 (B := mj_B s.heap.size) (T := .string "SuiteKeeper$Listing" 65) (l := mc_b2) (by decide +kernel) (fun w hw => hF w (mj_cut mw_f2 hw)) hB
  have hstr : ∀ j : Nat, ∃ a : Nat, ∀ q, mc_STR[j]? = some q → vk_R q.1 q.2.1 q.2.2 a s := by
    intro j
    cases hq : mc_STR[j]? with
    | none => exact ⟨0, fun q h => by cases h⟩
    | some q =>
      have h1 := List.all_eq_true.mp mc_strs q (List.mem_of_getElem? hq)
      obtain ⟨a, ha⟩ := mj_strR (hts _ (List.contains_iff_mem.mp h1))
      exact ⟨a, fun q' h' => by cases h'; exact ha⟩
  obtain ⟨sa, hsa⟩ := Classical.axiomOfChoice hstr
  have e0 : sa 0 = a0 := by
    have h1 := (hsa 0 _ rfl).2
    have h2 : (Term.string "SuiteKeeper$Tokens" 29).eval #[] s none [] s = some (.ref a0) := t0
    cases h1.symm.trans h2; rfl
  have e1 : sa 1 = a1 := by
    have h1 := (hsa 1 _ rfl).2
    have h2 : (Term.string "SuiteKeeper$Tokens" 83).eval #[] s none [] s = some (.ref a1) := t1
    cases h1.symm.trans h2; rfl
  have e2 : sa 12 = a2 := by
    have h1 := (hsa 12 _ rfl).2
    have h2 : (Term.string "SuiteKeeper$Listing" 65).eval #[] s none [] s = some (.ref a2) := t2
    cases h1.symm.trans h2; rfl
  obtain ⟨wd, tw, yw⟩ := va_Tof (tm := mj_wd) (ty := .int) (N := 32) (f := fun j => .int (mc_w.getD j 0)) (A := mj_B s.heap.size) (by decide) (hF _ (mj_cut mw_fw (List.mem_append_left _ (List.mem_of_getElem? (i := 0) rfl)))) (va_eqt (hF _ (mj_cut mw_fw (List.mem_append_left _ (List.mem_of_getElem? (i := 1) rfl)))))
    (fun j hj => va_eqt (hF _ (mj_cut mw_fw (List.mem_append_right _ (List.mem_map.mpr ⟨j, List.mem_range.mpr hj, rfl⟩))))) hB
  have hi : ∀ w ∈ mj_Ts, w.before #[Value.ref b] s = true := fun w hw => hts w (List.mem_filter.mp hw).1
  have zw : va_Z "SuiteKeeper" "WIDTHS" "[I" (.ref wd) (mj_B s.heap.size) s s.heap := va_Zof (hts _ (mw_l (k := 0) rfl)) (hi _ mcI_SuiteKeeper) tw hB
  have zc : va_Z "java/lang/String" "COMPACT_STRINGS" "Z" (.int 1) (mj_B s.heap.size) s s.heap := va_Zof (hts _ (mw_l (k := 1) rfl)) (hi _ mcI_java_lang_String) (va_eqt (hF _ mw_fc)) hB
  have zu : va_Zq Bundle.tN "UNASSIGNED_STACK" Bundle.steD (mj_B s.heap.size) s s.heap := va_Zqof (hts _ (mw_l (k := 3) rfl)) (hts _ (mw_l (k := 5) rfl)) (hF _ mw_fu) hB
  have zn : va_Zq Bundle.tN "SUPPRESSED_SENTINEL" Bundle.listD (mj_B s.heap.size) s s.heap := va_Zqof (hts _ (mw_l (k := 4) rfl)) (hts _ (mw_l (k := 5) rfl)) (hF _ mw_fn) hB
  have fin : ∀ (fv : Value) (fa : Nat), va_Z "jdk/internal/util/Preconditions" "SIOOBE_FORMATTER" "Ljava/util/function/BiFunction;" (mj_v (mj_r (mc_ext b wd v0 v1 v2 fa sa) s.heap.size) fv) (mj_B s.heap.size) s s.heap → mc_XF fv (mc_ext b wd v0 v1 v2 fa sa) (mc_fx L xs) s.heap.size s := by
    intro fv fa zf
    refine ⟨⟨fun j q hq => ?_, by decide, fun q hq => ?_, fun k t z g ty hk hf ht => ?_, fun k ci fs hk hf => ?_⟩, ⟨zu, fun A => hts _ (mw_l (k := 3) rfl)⟩, ⟨zn, fun A => hts _ (mw_l (k := 4) rfl)⟩, mc_ptw hts, ⟨fun q hq => absurd hq List.not_mem_nil, fun q hq A => ?_, ?_⟩⟩
    · have hj : j < 26 := (List.getElem?_eq_some_iff.mp hq).1
      rw [mc_ext_s hj]
      exact hsa j q hq
    · simp only [mc_SG, List.mem_cons, List.not_mem_nil, or_false] at hq
      rcases hq with rfl | rfl | rfl
      · exact zw
      · exact zc
      · exact zf
    · unfold mc_fx at hf
      split at hf
      · cases hf
        cases ht
        obtain ⟨scr, x1, x2, x3, x4, x5⟩ := hX
        exact ⟨scr, x1, x2, x3, by omega, by rw [x4], x5, hB b hbl⟩
      · cases hf
      · cases hf
      · cases hf
      · cases hf
        cases ht
        exact yw
      · cases hf
        cases ht
        exact y0
      · cases hf
        cases ht
        exact y1
      · cases hf
        cases ht
        exact y2
      · cases hf
    · unfold mc_fx at hf
      split at hf
      · cases hf
      · cases hf
        exact mc_sobj (k := 1) (kv := 28) e0 rfl o0 c0 f0
      · cases hf
        exact mc_sobj (k := 2) (kv := 29) e1 rfl o1 c1 f1
      · cases hf
        exact mc_sobj (k := 13) (kv := 30) e2 rfl o2 c2 f2
      · cases hf
      · cases hf
      · cases hf
      · cases hf
      · cases hf
        refine ⟨?_, ?_⟩
        · intro q hq
          exact absurd (show (none : Option vw_C) = some q from hq) (by simp)
        · intro j v o n d hj
          simp at hj
    · obtain ⟨g0, g1, g2⟩ := mw_mt q hq
      refine ⟨va_tabs rfl rfl (hts _ g0), fun hb => ?_, fun hb => ?_⟩
      · obtain ⟨p1, p2, p3⟩ := g1 hb
        exact ⟨va_tabs rfl rfl (hts _ p1), va_tabs rfl rfl (hts _ p2), va_tabs rfl rfl (hts _ p3)⟩
      · obtain ⟨p1, p2, p3⟩ := g2 hb
        exact ⟨va_tabs rfl rfl (hts _ p1), va_tabs rfl rfl (hts _ p2), va_tabs rfl rfl (hts _ p3)⟩
    · intro ci cj q r c c' hne h1 h2 k1 k2 g1 g2
      simp only [mj_ex, Bool.and_eq_true, decide_eq_true_eq] at h1 h2
      have n1 := List.all_eq_true.mp (List.all_eq_true.mp mw_nc (ci - 13) (List.mem_range.mpr (by omega))) (cj - 13) (List.mem_range.mpr (by omega))
      rw [show 13 + (ci - 13) = ci by omega, show 13 + (cj - 13) = cj by omega, mj_nm_at k1, mj_nm_at k2] at n1
      simp only [Bool.or_eq_true, decide_eq_true_eq] at n1
      rcases n1 with n1 | n1
      · omega
      · exact mj_noncast (hF _ (List.contains_iff_mem.mp n1)) g1 g2
  rcases va_Zqof (A := mj_B s.heap.size) (hts _ (mw_l (k := 2) rfl)) (hi _ mcI_jdk_internal_util_Preconditions) (hF _ mw_ff) hB with zf | ⟨t, zf⟩
  · exact ⟨.null, _, Or.inl rfl, rfl, fin .null 0 zf⟩
  · exact ⟨.ref 31, _, Or.inr rfl, rfl, fin (.ref 31) t zf⟩
