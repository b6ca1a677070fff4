/-! the methods of SuiteKeeper$Outcome -/
def mp_188 : mj_Mi := (⟨"SuiteKeeper$Outcome", "<init>", "()V"⟩, prog_7_method_1_code, 1, none, [(0, .aload_n 0), (1, .invokespecial 3), (4, .aload_n 0), (5, .bipush 30), (7, .newarray .int), (9, .putfield 9), (12, .return_)], 9, true, [])
set_option maxRecDepth 100000 in
theorem mb_188 : mp_188.2.2.2.2.1.all (mj_dk mp_188.2.1) = true := by decide +kernel
theorem me_188 : mj_cw mp_188 ∈ mj_Ts := mj_in_Ts (mt_2 _ (List.mem_of_getElem? (i := 124) rfl)) rfl
def mp_189 : mj_Mi := (⟨"SuiteKeeper$Outcome", "addEntry", "(I)V"⟩, prog_7_method_2_code, 2, none, [(0, .aload_n 0), (1, .getfield 15), (4, .ifCond .lt 35), (7, .aload_n 0), (8, .getfield 15), (11, .aload_n 0), (12, .getfield 9), (15, .arraylength), (16, .if_icmp .ge 23), (19, .aload_n 0), (20, .getfield 9), (23, .aload_n 0), (24, .getfield 15), (27, .iload_n 1), (28, .iastore), (29, .aload_n 0), (30, .dup), (31, .getfield 15), (34, .iconst 1), (35, .iadd), (36, .putfield 15), (39, .return_)], 9, false, [])
set_option maxRecDepth 100000 in
theorem mb_189 : mp_189.2.2.2.2.1.all (mj_dk mp_189.2.1) = true := by decide +kernel
theorem me_189 : mj_cw mp_189 ∈ mj_Ts := mj_in_Ts (mt_5 _ (List.mem_of_getElem? (i := 214) rfl)) rfl
def mp_190 : mj_Mi := (⟨"SuiteKeeper$Outcome", "entryAt", "(I)I"⟩, prog_7_method_3_code, 2, (some .int), [(0, .iload_n 1), (1, .ifCond .lt 20), (4, .iload_n 1), (5, .aload_n 0), (6, .getfield 15), (9, .if_icmp .ge 12), (12, .iload_n 1), (13, .aload_n 0), (14, .getfield 9), (17, .arraylength), (18, .if_icmp .lt 7), (21, .iconst (-1)), (22, .goto 9), (25, .aload_n 0), (26, .getfield 9), (29, .iload_n 1), (30, .iaload), (31, .ireturn)], 9, false, [])
set_option maxRecDepth 100000 in
theorem mb_190 : mp_190.2.2.2.2.1.all (mj_dk mp_190.2.1) = true := by decide +kernel
theorem me_190 : mj_cw mp_190 ∈ mj_Ts := mj_in_Ts (mt_5 _ (List.mem_of_getElem? (i := 237) rfl)) rfl
