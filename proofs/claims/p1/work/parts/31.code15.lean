/-! the methods of java/lang/String -/
def mp_400 : mj_Mi := (⟨"java/lang/String", "length", "()I"⟩, prog_22_method_54_code, 1, (some .int), [(0, .aload_n 0), (1, .getfield 9), (4, .arraylength), (5, .aload_n 0), (6, .invokevirtual 335), (9, .ishr), (10, .ireturn)], 15, false, [])
set_option maxRecDepth 100000 in
theorem mb_400 : mp_400.2.2.2.2.1.all (mj_dk mp_400.2.1) = true := by decide +kernel
theorem me_400 : mj_cw mp_400 ∈ mj_Ts := mj_in_Ts (mt_1 _ (List.mem_of_getElem? (i := 46) rfl)) rfl
def mp_401 : mj_Mi := (⟨"java/lang/String", "coder", "()B"⟩, prog_22_method_152_code, 1, (some .byte), [(0, .getstatic 38), (3, .ifCond .eq 10), (6, .aload_n 0), (7, .getfield 15), (10, .goto 4), (13, .iconst 1), (14, .ireturn)], 15, false, [])
set_option maxRecDepth 100000 in
theorem mb_401 : mp_401.2.2.2.2.1.all (mj_dk mp_401.2.1) = true := by decide +kernel
theorem me_401 : mj_cw mp_401 ∈ mj_Ts := mj_in_Ts (mt_1 _ (List.mem_of_getElem? (i := 50) rfl)) rfl
def mp_402 : mj_Mi := (⟨"java/lang/String", "charAt", "(I)C"⟩, prog_22_method_56_code, 2, (some .char), [(0, .aload_n 0), (1, .invokevirtual 492), (4, .ifCond .eq 12), (7, .aload_n 0), (8, .getfield 9), (11, .iload_n 1), (12, .invokestatic 495), (15, .ireturn), (16, .aload_n 0), (17, .getfield 9), (20, .iload_n 1), (21, .invokestatic 498), (24, .ireturn)], 15, false, [])
set_option maxRecDepth 100000 in
theorem mb_402 : mp_402.2.2.2.2.1.all (mj_dk mp_402.2.1) = true := by decide +kernel
theorem me_402 : mj_cw mp_402 ∈ mj_Ts := mj_in_Ts (mt_1 _ (List.mem_of_getElem? (i := 56) rfl)) rfl
def mp_403 : mj_Mi := (⟨"java/lang/String", "isLatin1", "()Z"⟩, prog_22_method_154_code, 1, (some .boolean), [(0, .getstatic 38), (3, .ifCond .eq 14), (6, .aload_n 0), (7, .getfield 15), (10, .ifCond .ne 7), (13, .iconst 1), (14, .goto 4), (17, .iconst 0), (18, .ireturn)], 15, false, [])
set_option maxRecDepth 100000 in
theorem mb_403 : mp_403.2.2.2.2.1.all (mj_dk mp_403.2.1) = true := by decide +kernel
theorem me_403 : mj_cw mp_403 ∈ mj_Ts := mj_in_Ts (mt_1 _ (List.mem_of_getElem? (i := 60) rfl)) rfl
def mp_404 : mj_Mi := (⟨"java/lang/String", "checkIndex", "(II)V"⟩, prog_22_method_155_code, 2, none, [(0, .iload_n 0), (1, .iload_n 1), (2, .getstatic 1053), (5, .invokestatic 1059), (8, .pop), (9, .return_)], 15, false, [])
set_option maxRecDepth 100000 in
theorem mb_404 : mp_404.2.2.2.2.1.all (mj_dk mp_404.2.1) = true := by decide +kernel
theorem me_404 : mj_cw mp_404 ∈ mj_Ts := mj_in_Ts (mt_1 _ (List.mem_of_getElem? (i := 66) rfl)) rfl
def mp_405 : mj_Mi := (⟨"java/lang/String", "indexOf", "(I)I"⟩, prog_22_method_79_code, 2, (some .int), [(0, .aload_n 0), (1, .iload_n 1), (2, .iconst 0), (3, .invokevirtual 633), (6, .ireturn)], 15, false, [])
set_option maxRecDepth 100000 in
theorem mb_405 : mp_405.2.2.2.2.1.all (mj_dk mp_405.2.1) = true := by decide +kernel
theorem me_405 : mj_cw mp_405 ∈ mj_Ts := mj_in_Ts (mt_3 _ (List.mem_of_getElem? (i := 223) rfl)) rfl
def mp_406 : mj_Mi := (⟨"java/lang/String", "indexOf", "(II)I"⟩, prog_22_method_80_code, 3, (some .int), [(0, .aload_n 0), (1, .invokevirtual 492), (4, .ifCond .eq 19), (7, .aload_n 0), (8, .getfield 9), (11, .iload_n 1), (12, .iload_n 2), (13, .aload_n 0), (14, .invokevirtual 505), (17, .invokestatic 637), (20, .goto 16), (23, .aload_n 0), (24, .getfield 9), (27, .iload_n 1), (28, .iload_n 2), (29, .aload_n 0), (30, .invokevirtual 505), (33, .invokestatic 640), (36, .ireturn)], 15, false, [])
set_option maxRecDepth 100000 in
theorem mb_406 : mp_406.2.2.2.2.1.all (mj_dk mp_406.2.1) = true := by decide +kernel
theorem me_406 : mj_cw mp_406 ∈ mj_Ts := mj_in_Ts (mt_3 _ (List.mem_of_getElem? (i := 227) rfl)) rfl
