/-! the methods of java/lang/Math -/
def mp_374 : mj_Mi := (⟨"java/lang/Math", "max", "(II)I"⟩, prog_20_method_65_code, 2, (some .int), [(0, .iload_n 0), (1, .iload_n 1), (2, .if_icmp .lt 7), (5, .iload_n 0), (6, .goto 4), (9, .iload_n 1), (10, .ireturn)], 13, false, [])
set_option maxRecDepth 100000 in
theorem mb_374 : mp_374.2.2.2.2.1.all (mj_dk mp_374.2.1) = true := by decide +kernel
theorem me_374 : mj_cw mp_374 ∈ mj_Ts := mj_in_Ts (mt_3 _ (List.mem_of_getElem? (i := 237) rfl)) rfl
def mp_375 : mj_Mi := (⟨"java/lang/Math", "min", "(II)I"⟩, prog_20_method_69_code, 2, (some .int), [(0, .iload_n 0), (1, .iload_n 1), (2, .if_icmp .gt 7), (5, .iload_n 0), (6, .goto 4), (9, .iload_n 1), (10, .ireturn)], 13, false, [])
set_option maxRecDepth 100000 in
theorem mb_375 : mp_375.2.2.2.2.1.all (mj_dk mp_375.2.1) = true := by decide +kernel
theorem me_375 : mj_cw mp_375 ∈ mj_Ts := mj_in_Ts (mt_4 _ (List.mem_of_getElem? (i := 0) rfl)) rfl
