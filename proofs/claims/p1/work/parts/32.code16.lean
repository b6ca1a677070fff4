/-! the methods of java/lang/StringLatin1 -/
def mp_407 : mj_Mi := (⟨"java/lang/StringLatin1", "charAt", "([BI)C"⟩, prog_23_method_2_code, 2, (some .char), [(0, .iload_n 1), (1, .aload_n 0), (2, .arraylength), (3, .invokestatic 9), (6, .aload_n 0), (7, .iload_n 1), (8, .baload), (9, .sipush 255), (12, .iand), (13, .i2c), (14, .ireturn)], 16, false, [])
set_option maxRecDepth 100000 in
theorem mb_407 : mp_407.2.2.2.2.1.all (mj_dk mp_407.2.1) = true := by decide +kernel
theorem me_407 : mj_cw mp_407 ∈ mj_Ts := mj_in_Ts (mt_1 _ (List.mem_of_getElem? (i := 63) rfl)) rfl
def mp_408 : mj_Mi := (⟨"java/lang/StringLatin1", "indexOf", "([BIII)I"⟩, prog_23_method_22_code, 4, (some .int), [(0, .iload_n 1), (1, .invokestatic 88), (4, .ifCond .ne 5), (7, .iconst (-1)), (8, .ireturn), (9, .iload_n 2), (10, .iconst 0), (11, .invokestatic 92), (14, .istore_n 2), (15, .iload_n 3), (16, .aload_n 0), (17, .arraylength), (18, .invokestatic 38), (21, .istore_n 3), (22, .iload_n 2), (23, .iload_n 3), (24, .if_icmp .lt 5), (27, .iconst (-1)), (28, .ireturn), (29, .aload_n 0), (30, .iload_n 1), (31, .iload_n 2), (32, .iload_n 3), (33, .invokestatic 95), (36, .ireturn)], 16, false, [])
set_option maxRecDepth 100000 in
theorem mb_408 : mp_408.2.2.2.2.1.all (mj_dk mp_408.2.1) = true := by decide +kernel
theorem me_408 : mj_cw mp_408 ∈ mj_Ts := mj_in_Ts (mt_3 _ (List.mem_of_getElem? (i := 231) rfl)) rfl
def mp_409 : mj_Mi := (⟨"java/lang/StringLatin1", "canEncode", "(I)Z"⟩, prog_23_method_4_code, 1, (some .boolean), [(0, .iload_n 0), (1, .ifCond .lt 14), (4, .iload_n 0), (5, .sipush 255), (8, .if_icmp .gt 7), (11, .iconst 1), (12, .goto 4), (15, .iconst 0), (16, .ireturn)], 16, false, [])
set_option maxRecDepth 100000 in
theorem mb_409 : mp_409.2.2.2.2.1.all (mj_dk mp_409.2.1) = true := by decide +kernel
theorem me_409 : mj_cw mp_409 ∈ mj_Ts := mj_in_Ts (mt_3 _ (List.mem_of_getElem? (i := 234) rfl)) rfl
def mp_410 : mj_Mi := (⟨"java/lang/StringLatin1", "indexOfChar", "([BIII)I"⟩, prog_23_method_23_code, 6, (some .int), [(0, .iload_n 1), (1, .i2b), (2, .istore 4), (4, .iload_n 2), (5, .istore 5), (7, .iload 5), (9, .iload_n 3), (10, .if_icmp .ge 21), (13, .aload_n 0), (14, .iload 5), (16, .baload), (17, .iload 4), (19, .if_icmp .ne 6), (22, .iload 5), (24, .ireturn), (25, .iinc 5 1), (28, .goto (-21)), (31, .iconst (-1)), (32, .ireturn)], 16, false, [])
set_option maxRecDepth 100000 in
theorem mb_410 : mp_410.2.2.2.2.1.all (mj_dk mp_410.2.1) = true := by decide +kernel
theorem me_410 : mj_cw mp_410 ∈ mj_Ts := mj_in_Ts (mt_4 _ (List.mem_of_getElem? (i := 3) rfl)) rfl
