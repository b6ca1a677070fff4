/-! the methods of SuiteKeeper$Revision -/
def mp_191 : mj_Mi := (⟨"SuiteKeeper$Revision", "<init>", "()V"⟩, prog_9_method_1_code, 2, none, [(0, .aload_n 0), (1, .invokespecial 3), (4, .aload_n 0), (5, .sipush 6144), (8, .newarray .byte), (10, .putfield 9), (13, .aload_n 0), (14, .bipush 42), (16, .anewarray 15), (19, .putfield 17), (22, .aload_n 0), (23, .iconst 4), (24, .newarray .int), (26, .putfield 21), (29, .iconst 0), (30, .istore_n 1), (31, .iload_n 1), (32, .aload_n 0), (33, .getfield 17), (36, .arraylength), (37, .if_icmp .ge 22), (40, .aload_n 0), (41, .getfield 17), (44, .iload_n 1), (45, .new 15), (48, .dup), (49, .invokespecial 25), (52, .aastore), (53, .iinc 1 1), (56, .goto (-25)), (59, .return_)], 10, true, [])
set_option maxRecDepth 100000 in
theorem mb_191 : mp_191.2.2.2.2.1.all (mj_dk mp_191.2.1) = true := by decide +kernel
theorem me_191 : mj_cw mp_191 ∈ mj_Ts := mj_in_Ts (mt_3 _ (List.mem_of_getElem? (i := 21) rfl)) rfl
def mp_192 : mj_Mi := (⟨"SuiteKeeper$Revision", "clear", "()V"⟩, prog_9_method_2_code, 2, none, [(0, .aload_n 0), (1, .iconst 0), (2, .putfield 26), (5, .aload_n 0), (6, .iconst 0), (7, .putfield 30), (10, .iconst 0), (11, .istore_n 1), (12, .iload_n 1), (13, .aload_n 0), (14, .getfield 21), (17, .arraylength), (18, .if_icmp .ge 16), (21, .aload_n 0), (22, .getfield 21), (25, .iload_n 1), (26, .iconst 0), (27, .iastore), (28, .iinc 1 1), (31, .goto (-19)), (34, .return_)], 10, false, [])
set_option maxRecDepth 100000 in
theorem mb_192 : mp_192.2.2.2.2.1.all (mj_dk mp_192.2.1) = true := by decide +kernel
theorem me_192 : mj_cw mp_192 ∈ mj_Ts := mj_in_Ts (mt_4 _ (List.mem_of_getElem? (i := 47) rfl)) rfl
def mp_193 : mj_Mi := (⟨"SuiteKeeper$Revision", "inOrder", "(I)LSuiteKeeper$Item;"⟩, prog_9_method_4_code, 2, (some (.object "SuiteKeeper$Item")), [(0, .iload_n 1), (1, .ifCond .lt 20), (4, .iload_n 1), (5, .aload_n 0), (6, .getfield 30), (9, .if_icmp .ge 12), (12, .iload_n 1), (13, .aload_n 0), (14, .getfield 17), (17, .arraylength), (18, .if_icmp .lt 7), (21, .aconst_null), (22, .goto 9), (25, .aload_n 0), (26, .getfield 17), (29, .iload_n 1), (30, .aaload), (31, .areturn)], 10, false, [])
set_option maxRecDepth 100000 in
theorem mb_193 : mp_193.2.2.2.2.1.all (mj_dk mp_193.2.1) = true := by decide +kernel
theorem me_193 : mj_cw mp_193 ∈ mj_Ts := mj_in_Ts (mt_4 _ (List.mem_of_getElem? (i := 136) rfl)) rfl
def mp_194 : mj_Mi := (⟨"SuiteKeeper$Revision", "declare", "(IJ)LSuiteKeeper$Item;"⟩, prog_9_method_7_code, 6, (some (.object "SuiteKeeper$Item")), [(0, .iload_n 1), (1, .iconst 2), (2, .if_icmp .gt 7), (5, .iload_n 1), (6, .goto 6), (9, .iload_n 1), (10, .iconst 1), (11, .isub), (12, .istore 4), (14, .aload_n 0), (15, .lload_n 2), (16, .invokevirtual 43), (19, .ifnonnull 29), (22, .aload_n 0), (23, .iload 4), (25, .invokevirtual 47), (28, .iload 4), (30, .invokestatic 51), (33, .if_icmp .ge 15), (36, .aload_n 0), (37, .getfield 30), (40, .aload_n 0), (41, .getfield 17), (44, .arraylength), (45, .if_icmp .lt 5), (48, .aconst_null), (49, .areturn), (50, .aload_n 0), (51, .getfield 17), (54, .aload_n 0), (55, .getfield 30), (58, .aaload), (59, .astore 5), (61, .aload 5), (63, .iload_n 1), (64, .lload_n 2), (65, .iload 4), (67, .aload_n 0), (68, .getfield 21), (71, .iload 4), (73, .iaload), (74, .aload_n 0), (75, .getfield 30), (78, .invokevirtual 54), (81, .aload_n 0), (82, .getfield 21), (85, .iload 4), (87, .dup2), (88, .iaload), (89, .iconst 1), (90, .iadd), (91, .iastore), (92, .aload_n 0), (93, .dup), (94, .getfield 30), (97, .iconst 1), (98, .iadd), (99, .putfield 30), (102, .aload 5), (104, .areturn)], 10, false, [])
set_option maxRecDepth 100000 in
theorem mb_194 : mp_194.2.2.2.2.1.all (mj_dk mp_194.2.1) = true := by decide +kernel
theorem me_194 : mj_cw mp_194 ∈ mj_Ts := mj_in_Ts (mt_4 _ (List.mem_of_getElem? (i := 140) rfl)) rfl
def mp_195 : mj_Mi := (⟨"SuiteKeeper$Revision", "named", "(J)LSuiteKeeper$Item;"⟩, prog_9_method_6_code, 4, (some (.object "SuiteKeeper$Item")), [(0, .iconst 0), (1, .istore_n 3), (2, .iload_n 3), (3, .aload_n 0), (4, .getfield 30), (7, .if_icmp .ge 39), (10, .iload_n 3), (11, .aload_n 0), (12, .getfield 17), (15, .arraylength), (16, .if_icmp .ge 30), (19, .aload_n 0), (20, .getfield 17), (23, .iload_n 3), (24, .aaload), (25, .getfield 39), (28, .lload_n 1), (29, .lcmp), (30, .ifCond .ne 10), (33, .aload_n 0), (34, .getfield 17), (37, .iload_n 3), (38, .aaload), (39, .areturn), (40, .iinc 3 1), (43, .goto (-41)), (46, .aconst_null), (47, .areturn)], 10, false, [])
set_option maxRecDepth 100000 in
theorem mb_195 : mp_195.2.2.2.2.1.all (mj_dk mp_195.2.1) = true := by decide +kernel
theorem me_195 : mj_cw mp_195 ∈ mj_Ts := mj_in_Ts (mt_4 _ (List.mem_of_getElem? (i := 144) rfl)) rfl
def mp_196 : mj_Mi := (⟨"SuiteKeeper$Revision", "counted", "(I)I"⟩, prog_9_method_3_code, 2, (some .int), [(0, .iload_n 1), (1, .ifCond .lt 12), (4, .iload_n 1), (5, .aload_n 0), (6, .getfield 21), (9, .arraylength), (10, .if_icmp .lt 7), (13, .iconst 0), (14, .goto 9), (17, .aload_n 0), (18, .getfield 21), (21, .iload_n 1), (22, .iaload), (23, .ireturn)], 10, false, [])
set_option maxRecDepth 100000 in
theorem mb_196 : mp_196.2.2.2.2.1.all (mj_dk mp_196.2.1) = true := by decide +kernel
theorem me_196 : mj_cw mp_196 ∈ mj_Ts := mj_in_Ts (mt_4 _ (List.mem_of_getElem? (i := 148) rfl)) rfl
def mp_197 : mj_Mi := (⟨"SuiteKeeper$Revision", "mostOf", "(I)I"⟩, prog_9_method_8_code, 1, (some .int), [(0, .iload_n 0), (1, .tableswitch 42 0 3 #[31, 34, 36, 39]), (32, .bipush 10), (34, .ireturn), (35, .iconst 4), (36, .ireturn), (37, .bipush 16), (39, .ireturn), (40, .bipush 12), (42, .ireturn), (43, .iconst 0), (44, .ireturn)], 10, false, [])
set_option maxRecDepth 100000 in
theorem mb_197 : mp_197.2.2.2.2.1.all (mj_dk mp_197.2.1) = true := by decide +kernel
theorem me_197 : mj_cw mp_197 ∈ mj_Ts := mj_in_Ts (mt_4 _ (List.mem_of_getElem? (i := 151) rfl)) rfl
def mp_198 : mj_Mi := (⟨"SuiteKeeper$Revision", "write", "(II)V"⟩, prog_9_method_11_code, 4, none, [(0, .iconst 0), (1, .istore_n 3), (2, .iload_n 3), (3, .iload_n 2), (4, .if_icmp .ge 54), (7, .aload_n 0), (8, .getfield 26), (11, .ifCond .lt 41), (14, .aload_n 0), (15, .getfield 26), (18, .aload_n 0), (19, .getfield 9), (22, .arraylength), (23, .if_icmp .ge 29), (26, .aload_n 0), (27, .getfield 9), (30, .aload_n 0), (31, .getfield 26), (34, .iload_n 1), (35, .bipush 8), (37, .iload_n 3), (38, .imul), (39, .iushr), (40, .i2b), (41, .bastore), (42, .aload_n 0), (43, .dup), (44, .getfield 26), (47, .iconst 1), (48, .iadd), (49, .putfield 26), (52, .iinc 3 1), (55, .goto (-53)), (58, .return_)], 10, false, [])
set_option maxRecDepth 100000 in
theorem mb_198 : mp_198.2.2.2.2.1.all (mj_dk mp_198.2.1) = true := by decide +kernel
theorem me_198 : mj_cw mp_198 ∈ mj_Ts := mj_in_Ts (mt_4 _ (List.mem_of_getElem? (i := 188) rfl)) rfl
def mp_199 : mj_Mi := (⟨"SuiteKeeper$Revision", "patch", "(III)V"⟩, prog_9_method_12_code, 5, none, [(0, .iconst 0), (1, .istore 4), (3, .iload 4), (5, .iload_n 3), (6, .if_icmp .ge 45), (9, .iload_n 1), (10, .iload 4), (12, .iadd), (13, .ifCond .lt 32), (16, .iload_n 1), (17, .iload 4), (19, .iadd), (20, .aload_n 0), (21, .getfield 9), (24, .arraylength), (25, .if_icmp .ge 20), (28, .aload_n 0), (29, .getfield 9), (32, .iload_n 1), (33, .iload 4), (35, .iadd), (36, .iload_n 2), (37, .bipush 8), (39, .iload 4), (41, .imul), (42, .iushr), (43, .i2b), (44, .bastore), (45, .iinc 4 1), (48, .goto (-45)), (51, .return_)], 10, false, [])
set_option maxRecDepth 100000 in
theorem mb_199 : mp_199.2.2.2.2.1.all (mj_dk mp_199.2.1) = true := by decide +kernel
theorem me_199 : mj_cw mp_199 ∈ mj_Ts := mj_in_Ts (mt_5 _ (List.mem_of_getElem? (i := 77) rfl)) rfl
def mp_200 : mj_Mi := (⟨"SuiteKeeper$Revision", "find", "(II)LSuiteKeeper$Item;"⟩, prog_9_method_5_code, 4, (some (.object "SuiteKeeper$Item")), [(0, .iconst 0), (1, .istore_n 3), (2, .iload_n 3), (3, .aload_n 0), (4, .getfield 30), (7, .if_icmp .ge 51), (10, .iload_n 3), (11, .aload_n 0), (12, .getfield 17), (15, .arraylength), (16, .if_icmp .ge 42), (19, .aload_n 0), (20, .getfield 17), (23, .iload_n 3), (24, .aaload), (25, .getfield 33), (28, .iload_n 1), (29, .if_icmp .ne 23), (32, .aload_n 0), (33, .getfield 17), (36, .iload_n 3), (37, .aaload), (38, .getfield 36), (41, .iload_n 2), (42, .if_icmp .ne 10), (45, .aload_n 0), (46, .getfield 17), (49, .iload_n 3), (50, .aaload), (51, .areturn), (52, .iinc 3 1), (55, .goto (-53)), (58, .aconst_null), (59, .areturn)], 10, false, [])
set_option maxRecDepth 100000 in
theorem mb_200 : mp_200.2.2.2.2.1.all (mj_dk mp_200.2.1) = true := by decide +kernel
theorem me_200 : mj_cw mp_200 ∈ mj_Ts := mj_in_Ts (mt_5 _ (List.mem_of_getElem? (i := 192) rfl)) rfl
def mp_201 : mj_Mi := (⟨"SuiteKeeper$Revision", "hasSame", "(LSuiteKeeper$Item;[BII)Z"⟩, prog_9_method_13_code, 5, (some .boolean), [(0, .aload_n 1), (1, .getfield 62), (4, .iload 4), (6, .if_icmp .ne 25), (9, .aload_n 0), (10, .getfield 9), (13, .aload_n 1), (14, .getfield 63), (17, .aload_n 2), (18, .iload_n 3), (19, .iload 4), (21, .invokestatic 66), (24, .ifCond .eq 7), (27, .iconst 1), (28, .goto 4), (31, .iconst 0), (32, .ireturn)], 10, false, [])
set_option maxRecDepth 100000 in
theorem mb_201 : mp_201.2.2.2.2.1.all (mj_dk mp_201.2.1) = true := by decide +kernel
theorem me_201 : mj_cw mp_201 ∈ mj_Ts := mj_in_Ts (mt_5 _ (List.mem_of_getElem? (i := 230) rfl)) rfl
def mp_202 : mj_Mi := (⟨"SuiteKeeper$Revision", "at", "(I)I"⟩, prog_9_method_9_code, 2, (some .int), [(0, .aload_n 0), (1, .getfield 9), (4, .iload_n 1), (5, .invokestatic 58), (8, .ireturn)], 10, false, [])
set_option maxRecDepth 100000 in
theorem mb_202 : mp_202.2.2.2.2.1.all (mj_dk mp_202.2.1) = true := by decide +kernel
theorem me_202 : mj_cw mp_202 ∈ mj_Ts := mj_in_Ts (mt_6 _ (List.mem_of_getElem? (i := 59) rfl)) rfl
def mp_203 : mj_Mi := (⟨"SuiteKeeper$Revision", "numberAt", "(II)I"⟩, prog_9_method_10_code, 5, (some .int), [(0, .iconst 0), (1, .istore_n 3), (2, .iconst 0), (3, .istore 4), (5, .iload 4), (7, .iload_n 2), (8, .if_icmp .ge 29), (11, .iload_n 3), (12, .aload_n 0), (13, .getfield 9), (16, .iload_n 1), (17, .iload 4), (19, .iadd), (20, .invokestatic 58), (23, .bipush 8), (25, .iload 4), (27, .imul), (28, .ishl), (29, .ior), (30, .istore_n 3), (31, .iinc 4 1), (34, .goto (-29)), (37, .iload_n 3), (38, .ireturn)], 10, false, [])
set_option maxRecDepth 100000 in
theorem mb_203 : mp_203.2.2.2.2.1.all (mj_dk mp_203.2.1) = true := by decide +kernel
theorem me_203 : mj_cw mp_203 ∈ mj_Ts := mj_in_Ts (mt_6 _ (List.mem_of_getElem? (i := 127) rfl)) rfl
