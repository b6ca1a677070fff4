/-! the methods of SuiteKeeperLaw -/
def mp_376 : mj_Mi := (⟨"SuiteKeeperLaw", "put", "(LSuiteKeeper;I[J)I"⟩, method_3_code, 4, (some .int), [(0, .aload_n 2), (1, .iconst 0), (2, .aload_n 0), (3, .iload_n 1), (4, .invokevirtual 7), (7, .i2l), (8, .lastore), (9, .goto 9), (12, .astore_n 3), (13, .iconst 1), (14, .ireturn), (15, .astore_n 3), (16, .iconst 2), (17, .ireturn), (18, .iconst 0), (19, .ireturn)], 14, false, [(0, 9, 12, 13), (0, 9, 15, 15)])
set_option maxRecDepth 100000 in
theorem mb_376 : mp_376.2.2.2.2.1.all (mj_dk mp_376.2.1) = true := by decide +kernel
theorem me_376 : mj_cw mp_376 ∈ mj_Ts := mj_in_Ts (mt_5 _ (List.mem_of_getElem? (i := 118) rfl)) rfl
def mp_377 : mj_Mi := (⟨"SuiteKeeperLaw", "end", "(LSuiteKeeper;I)I"⟩, method_4_code, 3, (some .int), [(0, .aload_n 0), (1, .iload_n 1), (2, .invokevirtual 17), (5, .goto 6), (8, .astore_n 2), (9, .iconst 1), (10, .ireturn), (11, .iconst 0), (12, .ireturn)], 14, false, [(0, 5, 8, 13)])
set_option maxRecDepth 100000 in
theorem mb_377 : mp_377.2.2.2.2.1.all (mj_dk mp_377.2.1) = true := by decide +kernel
theorem me_377 : mj_cw mp_377 ∈ mj_Ts := mj_in_Ts (mt_5 _ (List.mem_of_getElem? (i := 163) rfl)) rfl
def mp_378 : mj_Mi := (⟨"SuiteKeeperLaw", "about", "(LSuiteKeeper;I[J)I"⟩, method_5_code, 4, (some .int), [(0, .aload_n 2), (1, .iconst 0), (2, .aload_n 0), (3, .iload_n 1), (4, .invokevirtual 21), (7, .i2l), (8, .lastore), (9, .goto 9), (12, .astore_n 3), (13, .iconst 1), (14, .ireturn), (15, .astore_n 3), (16, .iconst 2), (17, .ireturn), (18, .iconst 0), (19, .ireturn)], 14, false, [(0, 9, 12, 24), (0, 9, 15, 13)])
set_option maxRecDepth 100000 in
theorem mb_378 : mp_378.2.2.2.2.1.all (mj_dk mp_378.2.1) = true := by decide +kernel
theorem me_378 : mj_cw mp_378 ∈ mj_Ts := mj_in_Ts (mt_5 _ (List.mem_of_getElem? (i := 171) rfl)) rfl
def mp_379 : mj_Mi := (⟨"SuiteKeeperLaw", "code", "(LSuiteKeeper;III[J)I"⟩, method_6_code, 6, (some .int), [(0, .aload 4), (2, .iconst 0), (3, .aload_n 0), (4, .iload_n 1), (5, .iload_n 2), (6, .iload_n 3), (7, .invokevirtual 26), (10, .i2l), (11, .lastore), (12, .goto 11), (15, .astore 5), (17, .iconst 1), (18, .ireturn), (19, .astore 5), (21, .iconst 2), (22, .ireturn), (23, .iconst 0), (24, .ireturn)], 14, false, [(0, 12, 15, 24), (0, 12, 19, 30)])
set_option maxRecDepth 100000 in
theorem mb_379 : mp_379.2.2.2.2.1.all (mj_dk mp_379.2.1) = true := by decide +kernel
theorem me_379 : mj_cw mp_379 ∈ mj_Ts := mj_in_Ts (mt_6 _ (List.mem_of_getElem? (i := 25) rfl)) rfl
def mp_380 : mj_Mi := (⟨"SuiteKeeperLaw", "mark", "(LSuiteKeeper;II[J)I"⟩, method_7_code, 5, (some .int), [(0, .aload_n 3), (1, .iconst 0), (2, .aload_n 0), (3, .iload_n 1), (4, .iload_n 2), (5, .invokevirtual 32), (8, .i2l), (9, .lastore), (10, .goto 11), (13, .astore 4), (15, .iconst 1), (16, .ireturn), (17, .astore 4), (19, .iconst 2), (20, .ireturn), (21, .iconst 0), (22, .ireturn)], 14, false, [(0, 10, 13, 24), (0, 10, 17, 30)])
set_option maxRecDepth 100000 in
theorem mb_380 : mp_380.2.2.2.2.1.all (mj_dk mp_380.2.1) = true := by decide +kernel
theorem me_380 : mj_cw mp_380 ∈ mj_Ts := mj_in_Ts (mt_6 _ (List.mem_of_getElem? (i := 63) rfl)) rfl
def mp_381 : mj_Mi := (⟨"SuiteKeeperLaw", "change", "(LSuiteKeeper;II[J)I"⟩, method_8_code, 5, (some .int), [(0, .aload_n 3), (1, .iconst 0), (2, .aload_n 0), (3, .iload_n 1), (4, .iload_n 2), (5, .invokevirtual 36), (8, .i2l), (9, .lastore), (10, .goto 11), (13, .astore 4), (15, .iconst 1), (16, .ireturn), (17, .astore 4), (19, .iconst 2), (20, .ireturn), (21, .iconst 0), (22, .ireturn)], 14, false, [(0, 10, 13, 24), (0, 10, 17, 30)])
set_option maxRecDepth 100000 in
theorem mb_381 : mp_381.2.2.2.2.1.all (mj_dk mp_381.2.1) = true := by decide +kernel
theorem me_381 : mj_cw mp_381 ∈ mj_Ts := mj_in_Ts (mt_6 _ (List.mem_of_getElem? (i := 70) rfl)) rfl
def mp_382 : mj_Mi := (⟨"SuiteKeeperLaw", "gone", "(LSuiteKeeper;II[J)I"⟩, method_9_code, 5, (some .int), [(0, .aload_n 3), (1, .iconst 0), (2, .aload_n 0), (3, .iload_n 1), (4, .iload_n 2), (5, .invokevirtual 39), (8, .i2l), (9, .lastore), (10, .goto 11), (13, .astore 4), (15, .iconst 1), (16, .ireturn), (17, .astore 4), (19, .iconst 2), (20, .ireturn), (21, .iconst 0), (22, .ireturn)], 14, false, [(0, 10, 13, 24), (0, 10, 17, 30)])
set_option maxRecDepth 100000 in
theorem mb_382 : mp_382.2.2.2.2.1.all (mj_dk mp_382.2.1) = true := by decide +kernel
theorem me_382 : mj_cw mp_382 ∈ mj_Ts := mj_in_Ts (mt_6 _ (List.mem_of_getElem? (i := 78) rfl)) rfl
def mp_383 : mj_Mi := (⟨"SuiteKeeperLaw", "listing", "(LSuiteKeeper;III[J)I"⟩, method_10_code, 6, (some .int), [(0, .aload 4), (2, .iconst 0), (3, .aload_n 0), (4, .iload_n 1), (5, .iload_n 2), (6, .iload_n 3), (7, .invokevirtual 42), (10, .i2l), (11, .lastore), (12, .goto 11), (15, .astore 5), (17, .iconst 1), (18, .ireturn), (19, .astore 5), (21, .iconst 2), (22, .ireturn), (23, .iconst 0), (24, .ireturn)], 14, false, [(0, 12, 15, 24), (0, 12, 19, 30)])
set_option maxRecDepth 100000 in
theorem mb_383 : mp_383.2.2.2.2.1.all (mj_dk mp_383.2.1) = true := by decide +kernel
theorem me_383 : mj_cw mp_383 ∈ mj_Ts := mj_in_Ts (mt_6 _ (List.mem_of_getElem? (i := 90) rfl)) rfl
def mp_384 : mj_Mi := (⟨"SuiteKeeperLaw", "why", "(LSuiteKeeper;I[J)I"⟩, method_11_code, 4, (some .int), [(0, .aload_n 2), (1, .iconst 0), (2, .aload_n 0), (3, .iload_n 1), (4, .invokevirtual 45), (7, .i2l), (8, .lastore), (9, .goto 9), (12, .astore_n 3), (13, .iconst 1), (14, .ireturn), (15, .astore_n 3), (16, .iconst 2), (17, .ireturn), (18, .iconst 0), (19, .ireturn)], 14, false, [(0, 9, 12, 24), (0, 9, 15, 30)])
set_option maxRecDepth 100000 in
theorem mb_384 : mp_384.2.2.2.2.1.all (mj_dk mp_384.2.1) = true := by decide +kernel
theorem me_384 : mj_cw mp_384 ∈ mj_Ts := mj_in_Ts (mt_6 _ (List.mem_of_getElem? (i := 137) rfl)) rfl
def mp_385 : mj_Mi := (⟨"SuiteKeeperLaw", "whyName", "(LSuiteKeeper;II[J)I"⟩, method_12_code, 5, (some .int), [(0, .aload_n 3), (1, .iconst 0), (2, .aload_n 0), (3, .iload_n 1), (4, .iload_n 2), (5, .invokevirtual 48), (8, .i2l), (9, .lastore), (10, .goto 15), (13, .astore 4), (15, .iconst 1), (16, .ireturn), (17, .astore 4), (19, .iconst 2), (20, .ireturn), (21, .astore 4), (23, .iconst 3), (24, .ireturn), (25, .iconst 0), (26, .ireturn)], 14, false, [(0, 10, 13, 24), (0, 10, 17, 30), (0, 10, 21, 51)])
set_option maxRecDepth 100000 in
theorem mb_385 : mp_385.2.2.2.2.1.all (mj_dk mp_385.2.1) = true := by decide +kernel
theorem me_385 : mj_cw mp_385 ∈ mj_Ts := mj_in_Ts (mt_6 _ (List.mem_of_getElem? (i := 144) rfl)) rfl
def mp_386 : mj_Mi := (⟨"SuiteKeeperLaw", "trace", "(LSuiteKeeper;I)I"⟩, method_13_code, 3, (some .int), [(0, .aload_n 0), (1, .iload_n 1), (2, .invokevirtual 53), (5, .goto 9), (8, .astore_n 2), (9, .iconst 1), (10, .ireturn), (11, .astore_n 2), (12, .iconst 2), (13, .ireturn), (14, .iconst 0), (15, .ireturn)], 14, false, [(0, 5, 8, 24), (0, 5, 11, 30)])
set_option maxRecDepth 100000 in
theorem mb_386 : mp_386.2.2.2.2.1.all (mj_dk mp_386.2.1) = true := by decide +kernel
theorem me_386 : mj_cw mp_386 ∈ mj_Ts := mj_in_Ts (mt_6 _ (List.mem_of_getElem? (i := 176) rfl)) rfl
def mp_387 : mj_Mi := (⟨"SuiteKeeperLaw", "step", "(LSuiteKeeper;I[J)I"⟩, method_14_code, 4, (some .int), [(0, .aload_n 2), (1, .iconst 0), (2, .aload_n 0), (3, .iload_n 1), (4, .invokevirtual 56), (7, .i2l), (8, .lastore), (9, .goto 9), (12, .astore_n 3), (13, .iconst 1), (14, .ireturn), (15, .astore_n 3), (16, .iconst 2), (17, .ireturn), (18, .iconst 0), (19, .ireturn)], 14, false, [(0, 9, 12, 24), (0, 9, 15, 13)])
set_option maxRecDepth 100000 in
theorem mb_387 : mp_387.2.2.2.2.1.all (mj_dk mp_387.2.1) = true := by decide +kernel
theorem me_387 : mj_cw mp_387 ∈ mj_Ts := mj_in_Ts (mt_6 _ (List.mem_of_getElem? (i := 196) rfl)) rfl
def mp_388 : mj_Mi := (⟨"SuiteKeeperLaw", "traced", "(LSuiteKeeper;I[J)I"⟩, method_15_code, 4, (some .int), [(0, .aload_n 2), (1, .iconst 0), (2, .aload_n 0), (3, .iload_n 1), (4, .invokevirtual 59), (7, .i2l), (8, .lastore), (9, .goto 9), (12, .astore_n 3), (13, .iconst 1), (14, .ireturn), (15, .astore_n 3), (16, .iconst 2), (17, .ireturn), (18, .iconst 0), (19, .ireturn)], 14, false, [(0, 9, 12, 24), (0, 9, 15, 13)])
set_option maxRecDepth 100000 in
theorem mb_388 : mp_388.2.2.2.2.1.all (mj_dk mp_388.2.1) = true := by decide +kernel
theorem me_388 : mj_cw mp_388 ∈ mj_Ts := mj_in_Ts (mt_7 _ (List.mem_of_getElem? (i := 55) rfl)) rfl
def mp_389 : mj_Mi := (⟨"SuiteKeeperLaw", "value", "(LSuiteKeeper;I[J)I"⟩, method_16_code, 4, (some .int), [(0, .aload_n 2), (1, .iconst 0), (2, .aload_n 0), (3, .iload_n 1), (4, .invokevirtual 62), (7, .i2l), (8, .lastore), (9, .goto 9), (12, .astore_n 3), (13, .iconst 1), (14, .ireturn), (15, .astore_n 3), (16, .iconst 2), (17, .ireturn), (18, .iconst 0), (19, .ireturn)], 14, false, [(0, 9, 12, 24), (0, 9, 15, 30)])
set_option maxRecDepth 100000 in
theorem mb_389 : mp_389.2.2.2.2.1.all (mj_dk mp_389.2.1) = true := by decide +kernel
theorem me_389 : mj_cw mp_389 ∈ mj_Ts := mj_in_Ts (mt_7 _ (List.mem_of_getElem? (i := 78) rfl)) rfl
def mp_390 : mj_Mi := (⟨"SuiteKeeperLaw", "local", "(LSuiteKeeper;I[J)I"⟩, method_17_code, 4, (some .int), [(0, .aload_n 2), (1, .iconst 0), (2, .aload_n 0), (3, .iload_n 1), (4, .invokevirtual 65), (7, .i2l), (8, .lastore), (9, .goto 9), (12, .astore_n 3), (13, .iconst 1), (14, .ireturn), (15, .astore_n 3), (16, .iconst 2), (17, .ireturn), (18, .iconst 0), (19, .ireturn)], 14, false, [(0, 9, 12, 24), (0, 9, 15, 30)])
set_option maxRecDepth 100000 in
theorem mb_390 : mp_390.2.2.2.2.1.all (mj_dk mp_390.2.1) = true := by decide +kernel
theorem me_390 : mj_cw mp_390 ∈ mj_Ts := mj_in_Ts (mt_7 _ (List.mem_of_getElem? (i := 90) rfl)) rfl
def mp_391 : mj_Mi := (⟨"SuiteKeeperLaw", "global", "(LSuiteKeeper;I[J)I"⟩, method_18_code, 4, (some .int), [(0, .aload_n 2), (1, .iconst 0), (2, .aload_n 0), (3, .iload_n 1), (4, .invokevirtual 68), (7, .i2l), (8, .lastore), (9, .goto 9), (12, .astore_n 3), (13, .iconst 1), (14, .ireturn), (15, .astore_n 3), (16, .iconst 2), (17, .ireturn), (18, .iconst 0), (19, .ireturn)], 14, false, [(0, 9, 12, 24), (0, 9, 15, 30)])
set_option maxRecDepth 100000 in
theorem mb_391 : mp_391.2.2.2.2.1.all (mj_dk mp_391.2.1) = true := by decide +kernel
theorem me_391 : mj_cw mp_391 ∈ mj_Ts := mj_in_Ts (mt_7 _ (List.mem_of_getElem? (i := 103) rfl)) rfl
def mp_392 : mj_Mi := (⟨"SuiteKeeperLaw", "cell", "(LSuiteKeeper;II[J)I"⟩, method_19_code, 5, (some .int), [(0, .aload_n 3), (1, .iconst 0), (2, .aload_n 0), (3, .iload_n 1), (4, .iload_n 2), (5, .invokevirtual 71), (8, .i2l), (9, .lastore), (10, .goto 11), (13, .astore 4), (15, .iconst 1), (16, .ireturn), (17, .astore 4), (19, .iconst 2), (20, .ireturn), (21, .iconst 0), (22, .ireturn)], 14, false, [(0, 10, 13, 24), (0, 10, 17, 30)])
set_option maxRecDepth 100000 in
theorem mb_392 : mp_392.2.2.2.2.1.all (mj_dk mp_392.2.1) = true := by decide +kernel
theorem me_392 : mj_cw mp_392 ∈ mj_Ts := mj_in_Ts (mt_7 _ (List.mem_of_getElem? (i := 112) rfl)) rfl
def mp_393 : mj_Mi := (⟨"SuiteKeeperLaw", "touches", "(LSuiteKeeper;II[J)I"⟩, method_20_code, 5, (some .int), [(0, .aload_n 3), (1, .iconst 0), (2, .aload_n 0), (3, .iload_n 1), (4, .iload_n 2), (5, .invokevirtual 74), (8, .ifCond .eq 7), (11, .lconst 1), (12, .goto 4), (15, .lconst 0), (16, .lastore), (17, .goto 11), (20, .astore 4), (22, .iconst 1), (23, .ireturn), (24, .astore 4), (26, .iconst 2), (27, .ireturn), (28, .iconst 0), (29, .ireturn)], 14, false, [(0, 17, 20, 24), (0, 17, 24, 30)])
set_option maxRecDepth 100000 in
theorem mb_393 : mp_393.2.2.2.2.1.all (mj_dk mp_393.2.1) = true := by decide +kernel
theorem me_393 : mj_cw mp_393 ∈ mj_Ts := mj_in_Ts (mt_7 _ (List.mem_of_getElem? (i := 121) rfl)) rfl
def mp_394 : mj_Mi := (⟨"SuiteKeeperLaw", "disk", "(LSuiteKeeper;I[J)I"⟩, method_21_code, 4, (some .int), [(0, .aload_n 2), (1, .iconst 0), (2, .aload_n 0), (3, .iload_n 1), (4, .invokevirtual 78), (7, .i2l), (8, .lastore), (9, .goto 6), (12, .astore_n 3), (13, .iconst 1), (14, .ireturn), (15, .iconst 0), (16, .ireturn)], 14, false, [(0, 9, 12, 30)])
set_option maxRecDepth 100000 in
theorem mb_394 : mp_394.2.2.2.2.1.all (mj_dk mp_394.2.1) = true := by decide +kernel
theorem me_394 : mj_cw mp_394 ∈ mj_Ts := mj_in_Ts (mt_7 _ (List.mem_of_getElem? (i := 136) rfl)) rfl
def mp_395 : mj_Mi := (⟨"SuiteKeeperLaw", "run", "(LSuiteKeeper;II[J)I"⟩, method_22_code, 5, (some .int), [(0, .aload_n 3), (1, .iconst 0), (2, .aload_n 0), (3, .iload_n 1), (4, .iload_n 2), (5, .invokevirtual 81), (8, .i2l), (9, .lastore), (10, .goto 11), (13, .astore 4), (15, .iconst 1), (16, .ireturn), (17, .astore 4), (19, .iconst 2), (20, .ireturn), (21, .iconst 0), (22, .ireturn)], 14, false, [(0, 10, 13, 24), (0, 10, 17, 13)])
set_option maxRecDepth 100000 in
theorem mb_395 : mp_395.2.2.2.2.1.all (mj_dk mp_395.2.1) = true := by decide +kernel
theorem me_395 : mj_cw mp_395 ∈ mj_Ts := mj_in_Ts (mt_7 _ (List.mem_of_getElem? (i := 144) rfl)) rfl
def mp_396 : mj_Mi := (⟨"SuiteKeeperLaw", "slot", "(LSuiteKeeper;II[J)I"⟩, method_23_code, 5, (some .int), [(0, .aload_n 3), (1, .iconst 0), (2, .aload_n 0), (3, .iload_n 1), (4, .iload_n 2), (5, .invokevirtual 84), (8, .i2l), (9, .lastore), (10, .goto 15), (13, .astore 4), (15, .iconst 1), (16, .ireturn), (17, .astore 4), (19, .iconst 2), (20, .ireturn), (21, .astore 4), (23, .iconst 3), (24, .ireturn), (25, .iconst 0), (26, .ireturn)], 14, false, [(0, 10, 13, 24), (0, 10, 17, 30), (0, 10, 21, 13)])
set_option maxRecDepth 100000 in
theorem mb_396 : mp_396.2.2.2.2.1.all (mj_dk mp_396.2.1) = true := by decide +kernel
theorem me_396 : mj_cw mp_396 ∈ mj_Ts := mj_in_Ts (mt_8 _ (List.mem_of_getElem? (i := 52) rfl)) rfl
def mp_397 : mj_Mi := (⟨"SuiteKeeperLaw", "verdict", "(LSuiteKeeper;I[J)I"⟩, method_24_code, 4, (some .int), [(0, .aload_n 2), (1, .iconst 0), (2, .aload_n 0), (3, .iload_n 1), (4, .invokevirtual 87), (7, .i2l), (8, .lastore), (9, .goto 9), (12, .astore_n 3), (13, .iconst 1), (14, .ireturn), (15, .astore_n 3), (16, .iconst 2), (17, .ireturn), (18, .iconst 0), (19, .ireturn)], 14, false, [(0, 9, 12, 24), (0, 9, 15, 30)])
set_option maxRecDepth 100000 in
theorem mb_397 : mp_397.2.2.2.2.1.all (mj_dk mp_397.2.1) = true := by decide +kernel
theorem me_397 : mj_cw mp_397 ∈ mj_Ts := mj_in_Ts (mt_8 _ (List.mem_of_getElem? (i := 61) rfl)) rfl
def mp_398 : mj_Mi := (⟨"SuiteKeeperLaw", "record", "(LSuiteKeeper;II[J)I"⟩, method_25_code, 5, (some .int), [(0, .aload_n 3), (1, .iconst 0), (2, .aload_n 0), (3, .iload_n 1), (4, .iload_n 2), (5, .invokevirtual 90), (8, .i2l), (9, .lastore), (10, .goto 19), (13, .astore 4), (15, .iconst 1), (16, .ireturn), (17, .astore 4), (19, .iconst 2), (20, .ireturn), (21, .astore 4), (23, .iconst 3), (24, .ireturn), (25, .astore 4), (27, .iconst 4), (28, .ireturn), (29, .iconst 0), (30, .ireturn)], 14, false, [(0, 10, 13, 24), (0, 10, 17, 30), (0, 10, 21, 51), (0, 10, 25, 13)])
set_option maxRecDepth 100000 in
theorem mb_398 : mp_398.2.2.2.2.1.all (mj_dk mp_398.2.1) = true := by decide +kernel
theorem me_398 : mj_cw mp_398 ∈ mj_Ts := mj_in_Ts (mt_8 _ (List.mem_of_getElem? (i := 68) rfl)) rfl
def mp_399 : mj_Mi := (⟨"SuiteKeeperLaw", "touched", "(LSuiteKeeper;III[J)I"⟩, method_26_code, 6, (some .int), [(0, .aload 4), (2, .iconst 0), (3, .aload_n 0), (4, .iload_n 1), (5, .iload_n 2), (6, .iload_n 3), (7, .invokevirtual 93), (10, .ifCond .eq 7), (13, .lconst 1), (14, .goto 4), (17, .lconst 0), (18, .lastore), (19, .goto 19), (22, .astore 5), (24, .iconst 1), (25, .ireturn), (26, .astore 5), (28, .iconst 2), (29, .ireturn), (30, .astore 5), (32, .iconst 3), (33, .ireturn), (34, .astore 5), (36, .iconst 4), (37, .ireturn), (38, .iconst 0), (39, .ireturn)], 14, false, [(0, 19, 22, 24), (0, 19, 26, 30), (0, 19, 30, 51), (0, 19, 34, 13)])
set_option maxRecDepth 100000 in
theorem mb_399 : mp_399.2.2.2.2.1.all (mj_dk mp_399.2.1) = true := by decide +kernel
theorem me_399 : mj_cw mp_399 ∈ mj_Ts := mj_in_Ts (mt_8 _ (List.mem_of_getElem? (i := 81) rfl)) rfl
