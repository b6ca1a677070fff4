/-! the methods of jdk/internal/util/Preconditions -/
def mp_411 : mj_Mi := (⟨"jdk/internal/util/Preconditions", "checkIndex", "(IILjava/util/function/BiFunction;)I"⟩, prog_28_method_11_code, 3, (some .int), [(0, .iload_n 0), (1, .ifCond .lt 8), (4, .iload_n 0), (5, .iload_n 1), (6, .if_icmp .lt 10), (9, .aload_n 2), (10, .iload_n 0), (11, .iload_n 1), (12, .invokestatic 95), (15, .athrow), (16, .iload_n 0), (17, .ireturn)], 17, false, [])
set_option maxRecDepth 100000 in
theorem mb_411 : mp_411.2.2.2.2.1.all (mj_dk mp_411.2.1) = true := by decide +kernel
theorem me_411 : mj_cw mp_411 ∈ mj_Ts := mj_in_Ts (mt_1 _ (List.mem_of_getElem? (i := 71) rfl)) rfl
