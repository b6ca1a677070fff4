/-! the methods of SuiteKeeper$Slot -/
def mp_149 : mj_Mi := (⟨"SuiteKeeper$Slot", "<init>", "()V"⟩, prog_10_method_1_code, 1, none, [(0, .aload_n 0), (1, .invokespecial 3), (4, .aload_n 0), (5, .iconst 3), (6, .newarray .int), (8, .putfield 9), (11, .return_)], 6, true, [])
set_option maxRecDepth 100000 in
theorem mb_149 : mp_149.2.2.2.2.1.all (mj_dk mp_149.2.1) = true := by decide +kernel
theorem me_149 : mj_cw mp_149 ∈ mj_Ts := mj_in_Ts (mt_2 _ (List.mem_of_getElem? (i := 42) rfl)) rfl
def mp_150 : mj_Mi := (⟨"SuiteKeeper$Slot", "start", "(LSuiteKeeper$Item;I)V"⟩, prog_10_method_2_code, 3, none, [(0, .aload_n 0), (1, .aload_n 1), (2, .putfield 15), (5, .aload_n 0), (6, .iload_n 2), (7, .putfield 19), (10, .aload_n 0), (11, .iconst 0), (12, .putfield 23), (15, .aload_n 0), (16, .iconst 0), (17, .putfield 27), (20, .return_)], 6, false, [])
set_option maxRecDepth 100000 in
theorem mb_150 : mp_150.2.2.2.2.1.all (mj_dk mp_150.2.1) = true := by decide +kernel
theorem me_150 : mj_cw mp_150 ∈ mj_Ts := mj_in_Ts (mt_7 _ (List.mem_of_getElem? (i := 169) rfl)) rfl
def mp_151 : mj_Mi := (⟨"SuiteKeeper$Slot", "take", "(LSuiteKeeper$Machine;)V"⟩, prog_10_method_3_code, 3, none, [(0, .aload_n 0), (1, .aload_n 1), (2, .getfield 30), (5, .putfield 35), (8, .aload_n 0), (9, .aload_n 1), (10, .getfield 36), (13, .putfield 39), (16, .aload_n 0), (17, .aload_n 1), (18, .getfield 40), (21, .putfield 43), (24, .aload_n 0), (25, .aload_n 1), (26, .getfield 44), (29, .putfield 47), (32, .iconst 0), (33, .istore_n 2), (34, .iload_n 2), (35, .aload_n 0), (36, .getfield 9), (39, .arraylength), (40, .if_icmp .ge 20), (43, .aload_n 0), (44, .getfield 9), (47, .iload_n 2), (48, .aload_n 1), (49, .iload_n 2), (50, .invokevirtual 48), (53, .iastore), (54, .iinc 2 1), (57, .goto (-23)), (60, .return_)], 6, false, [])
set_option maxRecDepth 100000 in
theorem mb_151 : mp_151.2.2.2.2.1.all (mj_dk mp_151.2.1) = true := by decide +kernel
theorem me_151 : mj_cw mp_151 ∈ mj_Ts := mj_in_Ts (mt_7 _ (List.mem_of_getElem? (i := 178) rfl)) rfl
def mp_152 : mj_Mi := (⟨"SuiteKeeper$Slot", "hasTouched", "(II)Z"⟩, prog_10_method_4_code, 3, (some .boolean), [(0, .iload_n 1), (1, .ifCond .lt 29), (4, .iload_n 1), (5, .aload_n 0), (6, .getfield 9), (9, .arraylength), (10, .if_icmp .ge 20), (13, .aload_n 0), (14, .getfield 9), (17, .iload_n 1), (18, .iaload), (19, .iconst 1), (20, .iload_n 2), (21, .ishl), (22, .iand), (23, .ifCond .eq 7), (26, .iconst 1), (27, .goto 4), (30, .iconst 0), (31, .ireturn)], 6, false, [])
set_option maxRecDepth 100000 in
theorem mb_152 : mp_152.2.2.2.2.1.all (mj_dk mp_152.2.1) = true := by decide +kernel
theorem me_152 : mj_cw mp_152 ∈ mj_Ts := mj_in_Ts (mt_7 _ (List.mem_of_getElem? (i := 223) rfl)) rfl
