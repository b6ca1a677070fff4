/-! ===== the law's calls where there is no revision, or no trace: both refuse with 1 ===== -/
section MYK
variable {e : my_E} {κ : my_K} {σ : my_S} {Q : my_O → my_K → my_S → Prop} {v4 : Int32}
theorem l_3 (f1 : σ.1 32 10 = 0) (f2 : σ.1 498 65 = 0) (hc : 1 ≤ κ.2.1) (hs : 6 ≤ κ.2.2) (b1 : my_bd (v4 + 1) e.2.1) (hn : ys_law_1663 e 1049 v4 (κ.1 + 1, κ.2.1 - 1, κ.2.2 - 6) (my_uI σ 498 0 1) Q) : ys_law_257 e 1049 v4 κ σ Q := by
  unfold ys_law_257
  refine ⟨b1, ys_378 ?_⟩
  unfold ys_378_0
  refine c_9 f1 (by decide) hc hs ?_
  rw [my_kI_x, if_pos rfl, my_kI_v]
  refine ⟨b1, r_333 f2 (fun x => ?_)⟩
  rw [my_kI_v]
  refine r_213 ?_
  rw [my_kI_v, if_pos (show (my_uI σ 498 0 1).1 498 0 = 1 from rfl), if_neg (by decide)]
  exact hn
theorem l_4 (f1 : σ.1 32 10 = 0) (f2 : σ.1 498 65 = 0) (hc : 1 ≤ κ.2.1) (hs : 6 ≤ κ.2.2) (b1 : my_bd (v4 + 1) e.2.1) (b2 : my_bd (v4 + 2) e.2.1) (b3 : my_bd (v4 + 3) e.2.1) (hn : ys_law_1663 e 1049 v4 (κ.1 + 1, κ.2.1 - 1, κ.2.2 - 6) (my_uI σ 498 0 1) Q) : ys_law_313 e 1049 v4 κ σ Q := by
  unfold ys_law_313
  refine ⟨b1, b2, b3, ys_379 ?_⟩
  unfold ys_379_0
  refine c_16 f1 (by decide) hc hs ?_
  rw [my_kI_x, if_pos rfl, my_kI_v]
  refine ⟨b1, b2, b3, r_280 f2 (fun x => ?_)⟩
  rw [my_kI_v]
  refine r_213 ?_
  rw [my_kI_v, if_pos (show (my_uI σ 498 0 1).1 498 0 = 1 from rfl), if_neg (by decide)]
  exact hn
theorem l_5 (f1 : σ.1 32 10 = 0) (f2 : σ.1 498 65 = 0) (hc : 1 ≤ κ.2.1) (hs : 6 ≤ κ.2.2) (b1 : my_bd (v4 + 1) e.2.1) (b2 : my_bd (v4 + 2) e.2.1) (hn : ys_law_1663 e 1049 v4 (κ.1 + 1, κ.2.1 - 1, κ.2.2 - 6) (my_uI σ 498 0 1) Q) : ys_law_393 e 1049 v4 κ σ Q := by
  unfold ys_law_393
  refine ⟨b1, b2, ys_380 ?_⟩
  unfold ys_380_0
  refine c_19 f1 (by decide) hc hs ?_
  rw [my_kI_x, if_pos rfl, my_kI_v]
  refine ⟨b1, b2, r_346 f2 (fun x => ?_)⟩
  rw [my_kI_v]
  refine r_213 ?_
  rw [my_kI_v, if_pos (show (my_uI σ 498 0 1).1 498 0 = 1 from rfl), if_neg (by decide)]
  exact hn
theorem l_6 (f1 : σ.1 32 10 = 0) (f2 : σ.1 498 65 = 0) (hc : 1 ≤ κ.2.1) (hs : 6 ≤ κ.2.2) (b1 : my_bd (v4 + 1) e.2.1) (b2 : my_bd (v4 + 2) e.2.1) (hn : ys_law_1663 e 1049 v4 (κ.1 + 1, κ.2.1 - 1, κ.2.2 - 6) (my_uI σ 498 0 1) Q) : ys_law_461 e 1049 v4 κ σ Q := by
  unfold ys_law_461
  refine ⟨b1, b2, ys_381 ?_⟩
  unfold ys_381_0
  refine c_20 f1 (by decide) hc hs ?_
  rw [my_kI_x, if_pos rfl, my_kI_v]
  refine ⟨b1, b2, r_348 f2 (fun x => ?_)⟩
  rw [my_kI_v]
  refine r_213 ?_
  rw [my_kI_v, if_pos (show (my_uI σ 498 0 1).1 498 0 = 1 from rfl), if_neg (by decide)]
  exact hn
theorem l_7 (f1 : σ.1 32 10 = 0) (f2 : σ.1 498 65 = 0) (f3 : σ.1 498 124 = 0) (hc : 1 ≤ κ.2.1) (hs : 6 ≤ κ.2.2) (b1 : my_bd (v4 + 1) e.2.1) (b2 : my_bd (v4 + 2) e.2.1) (hn : ys_law_1663 e 1049 v4 (κ.1 + 1, κ.2.1 - 1, κ.2.2 - 6) (my_uI σ 498 0 1) Q) : ys_law_529 e 1049 v4 κ σ Q := by
  unfold ys_law_529
  refine ⟨b1, b2, ys_382 ?_⟩
  unfold ys_382_0
  refine c_21 f1 (by decide) hc hs ?_
  rw [my_kI_x, if_pos rfl, my_kI_v]
  refine ⟨b1, b2, r_350 f2 f3 (fun x => ?_)⟩
  rw [my_kI_v]
  refine r_213 ?_
  rw [my_kI_v, if_pos (show (my_uI σ 498 0 1).1 498 0 = 1 from rfl), if_neg (by decide)]
  exact hn
theorem l_8 (f1 : σ.1 32 10 = 0) (f2 : σ.1 498 65 = 0) (hc : 1 ≤ κ.2.1) (hs : 6 ≤ κ.2.2) (b1 : my_bd (v4 + 1) e.2.1) (b2 : my_bd (v4 + 2) e.2.1) (b3 : my_bd (v4 + 3) e.2.1) (hn : ys_law_1663 e 1049 v4 (κ.1 + 1, κ.2.1 - 1, κ.2.2 - 6) (my_uI σ 498 0 1) Q) : ys_law_597 e 1049 v4 κ σ Q := by
  unfold ys_law_597
  refine ⟨b1, b2, b3, ys_383 ?_⟩
  unfold ys_383_0
  refine c_23 f1 (by decide) hc hs ?_
  rw [my_kI_x, if_pos rfl, my_kI_v]
  refine ⟨b1, b2, b3, r_355 f2 (fun x => ?_)⟩
  rw [my_kI_v]
  refine r_213 ?_
  rw [my_kI_v, if_pos (show (my_uI σ 498 0 1).1 498 0 = 1 from rfl), if_neg (by decide)]
  exact hn
theorem l_9 (f1 : σ.1 32 10 = 0) (f2 : σ.1 498 65 = 0) (hc : 1 ≤ κ.2.1) (hs : 6 ≤ κ.2.2) (b1 : my_bd (v4 + 1) e.2.1) (hn : ys_law_1663 e 1049 v4 (κ.1 + 1, κ.2.1 - 1, κ.2.2 - 6) (my_uI σ 498 0 1) Q) : ys_law_677 e 1049 v4 κ σ Q := by
  unfold ys_law_677
  refine ⟨b1, ys_384 ?_⟩
  unfold ys_384_0
  refine c_24 f1 (by decide) hc hs ?_
  rw [my_kI_x, if_pos rfl, my_kI_v]
  refine ⟨b1, r_352 f2 (fun x => ?_)⟩
  rw [my_kI_v]
  refine r_213 ?_
  rw [my_kI_v, if_pos (show (my_uI σ 498 0 1).1 498 0 = 1 from rfl), if_neg (by decide)]
  exact hn
theorem l_10 (f1 : σ.1 32 10 = 0) (f2 : σ.1 498 65 = 0) (hc : 1 ≤ κ.2.1) (hs : 6 ≤ κ.2.2) (b1 : my_bd (v4 + 1) e.2.1) (b2 : my_bd (v4 + 2) e.2.1) (hn : ys_law_1663 e 1049 v4 (κ.1 + 1, κ.2.1 - 1, κ.2.2 - 6) (my_uI σ 498 0 1) Q) : ys_law_733 e 1049 v4 κ σ Q := by
  unfold ys_law_733
  refine ⟨b1, b2, ys_385 ?_⟩
  unfold ys_385_0
  refine c_25 f1 (by decide) hc hs ?_
  rw [my_kI_x, if_pos rfl, my_kI_v]
  refine ⟨b1, b2, r_354 f2 (fun x => ?_)⟩
  rw [my_kI_v]
  refine r_213 ?_
  rw [my_kI_v, if_pos (show (my_uI σ 498 0 1).1 498 0 = 1 from rfl), if_neg (by decide)]
  exact hn
theorem l_11 (f1 : σ.1 32 10 = 0) (f2 : σ.1 498 65 = 0) (hc : 1 ≤ κ.2.1) (hs : 6 ≤ κ.2.2) (b1 : my_bd (v4 + 1) e.2.1) (hn : ys_law_1663 e 1049 v4 (κ.1 + 1, κ.2.1 - 1, κ.2.2 - 6) (my_uI σ 498 0 1) Q) : ys_law_801 e 1049 v4 κ σ Q := by
  unfold ys_law_801
  refine ⟨b1, ys_386 ?_⟩
  unfold ys_386_0
  refine c_26 f1 (by decide) hc hs ?_
  rw [my_k0_x, if_pos rfl, my_kI_v]
  refine ⟨b1, r_361 f2 ?_⟩
  rw [my_k0_v]
  refine r_213 ?_
  rw [my_kI_v, if_pos (show (my_uI σ 498 0 1).1 498 0 = 1 from rfl)]
  exact hn
theorem l_12 (f1 : σ.1 32 11 = 0) (f2 : σ.1 498 133 = 0) (hc : 1 ≤ κ.2.1) (hs : 6 ≤ κ.2.2) (b1 : my_bd (v4 + 1) e.2.1) (hn : ys_law_1663 e 1049 v4 (κ.1 + 1, κ.2.1 - 1, κ.2.2 - 6) (my_uI σ 498 0 1) Q) : ys_law_837 e 1049 v4 κ σ Q := by
  unfold ys_law_837
  refine ⟨b1, ys_387 ?_⟩
  unfold ys_387_0
  refine c_27 f1 (by decide) hc hs ?_
  rw [my_kI_x, if_pos rfl, my_kI_v]
  refine ⟨b1, r_364 f2 (fun x => ?_)⟩
  rw [my_kI_v]
  refine r_213 ?_
  rw [my_kI_v, if_pos (show (my_uI σ 498 0 1).1 498 0 = 1 from rfl), if_neg (by decide)]
  exact hn
theorem l_13 (f1 : σ.1 32 11 = 0) (f2 : σ.1 498 133 = 0) (hc : 1 ≤ κ.2.1) (hs : 6 ≤ κ.2.2) (b1 : my_bd (v4 + 1) e.2.1) (hn : ys_law_1663 e 1049 v4 (κ.1 + 1, κ.2.1 - 1, κ.2.2 - 6) (my_uI σ 498 0 1) Q) : ys_law_893 e 1049 v4 κ σ Q := by
  unfold ys_law_893
  refine ⟨b1, ys_388 ?_⟩
  unfold ys_388_0
  refine c_29 f1 (by decide) hc hs ?_
  rw [my_kI_x, if_pos rfl, my_kI_v]
  refine ⟨b1, r_366 f2 (fun x => ?_)⟩
  rw [my_kI_v]
  refine r_213 ?_
  rw [my_kI_v, if_pos (show (my_uI σ 498 0 1).1 498 0 = 1 from rfl), if_neg (by decide)]
  exact hn
theorem l_14 (f1 : σ.1 32 11 = 0) (f2 : σ.1 498 133 = 0) (hc : 1 ≤ κ.2.1) (hs : 6 ≤ κ.2.2) (b1 : my_bd (v4 + 1) e.2.1) (hn : ys_law_1663 e 1049 v4 (κ.1 + 1, κ.2.1 - 1, κ.2.2 - 6) (my_uI σ 498 0 1) Q) : ys_law_949 e 1049 v4 κ σ Q := by
  unfold ys_law_949
  refine ⟨b1, ys_389 ?_⟩
  unfold ys_389_0
  refine c_30 f1 (by decide) hc hs ?_
  rw [my_kI_x, if_pos rfl, my_kI_v]
  refine ⟨b1, r_369 f2 (fun x => ?_)⟩
  rw [my_kI_v]
  refine r_213 ?_
  rw [my_kI_v, if_pos (show (my_uI σ 498 0 1).1 498 0 = 1 from rfl), if_neg (by decide)]
  exact hn
theorem l_15 (f1 : σ.1 32 11 = 0) (f2 : σ.1 498 133 = 0) (f3 : σ.1 498 139 = 0) (f4 : σ.1 583 0 = 0) (hc : 1 ≤ κ.2.1) (hs : 6 ≤ κ.2.2) (b1 : my_bd (v4 + 1) e.2.1) (hn : ys_law_1663 e 1049 v4 (κ.1 + 1, κ.2.1 - 1, κ.2.2 - 6) (my_uI σ 498 0 1) Q) : ys_law_1005 e 1049 v4 κ σ Q := by
  unfold ys_law_1005
  refine ⟨b1, ys_390 ?_⟩
  unfold ys_390_0
  refine c_31 f1 (by decide) hc hs ?_
  rw [my_kI_x, if_pos rfl, my_kI_v]
  refine ⟨b1, r_370 f2 f3 f4 (fun x => ?_)⟩
  rw [my_kI_v]
  refine r_213 ?_
  rw [my_kI_v, if_pos (show (my_uI σ 498 0 1).1 498 0 = 1 from rfl), if_neg (by decide)]
  exact hn
theorem l_16 (f1 : σ.1 32 11 = 0) (f2 : σ.1 498 133 = 0) (hc : 1 ≤ κ.2.1) (hs : 6 ≤ κ.2.2) (b1 : my_bd (v4 + 1) e.2.1) (hn : ys_law_1663 e 1049 v4 (κ.1 + 1, κ.2.1 - 1, κ.2.2 - 6) (my_uI σ 498 0 1) Q) : ys_law_1061 e 1049 v4 κ σ Q := by
  unfold ys_law_1061
  refine ⟨b1, ys_391 ?_⟩
  unfold ys_391_0
  refine c_32 f1 (by decide) hc hs ?_
  rw [my_kI_x, if_pos rfl, my_kI_v]
  refine ⟨b1, r_371 f2 (fun x => ?_)⟩
  rw [my_kI_v]
  refine r_213 ?_
  rw [my_kI_v, if_pos (show (my_uI σ 498 0 1).1 498 0 = 1 from rfl), if_neg (by decide)]
  exact hn
theorem l_17 (f1 : σ.1 32 11 = 0) (f2 : σ.1 498 133 = 0) (hc : 1 ≤ κ.2.1) (hs : 6 ≤ κ.2.2) (b1 : my_bd (v4 + 1) e.2.1) (b2 : my_bd (v4 + 2) e.2.1) (hn : ys_law_1663 e 1049 v4 (κ.1 + 1, κ.2.1 - 1, κ.2.2 - 6) (my_uI σ 498 0 1) Q) : ys_law_1117 e 1049 v4 κ σ Q := by
  unfold ys_law_1117
  refine ⟨b1, b2, ys_392 ?_⟩
  unfold ys_392_0
  refine c_33 f1 (by decide) hc hs ?_
  rw [my_kI_x, if_pos rfl, my_kI_v]
  refine ⟨b1, b2, r_372 f2 (fun x => ?_)⟩
  rw [my_kI_v]
  refine r_213 ?_
  rw [my_kI_v, if_pos (show (my_uI σ 498 0 1).1 498 0 = 1 from rfl), if_neg (by decide)]
  exact hn
theorem l_18 (f1 : σ.1 32 11 = 0) (f2 : σ.1 498 133 = 0) (hc : 1 ≤ κ.2.1) (hs : 6 ≤ κ.2.2) (b1 : my_bd (v4 + 1) e.2.1) (b2 : my_bd (v4 + 2) e.2.1) (hn : ys_law_1663 e 1049 v4 (κ.1 + 1, κ.2.1 - 1, κ.2.2 - 6) (my_uI σ 498 0 1) Q) : ys_law_1185 e 1049 v4 κ σ Q := by
  unfold ys_law_1185
  refine ⟨b1, b2, ys_393 ?_⟩
  unfold ys_393_0
  refine c_34 f1 (by decide) hc hs ?_
  rw [my_kI_x, if_pos rfl, my_kI_v]
  refine ⟨b1, b2, r_373 f2 (fun x => ?_)⟩
  rw [my_kI_v]
  refine r_213 ?_
  rw [my_kI_v, if_pos (show (my_uI σ 498 0 1).1 498 0 = 1 from rfl), if_neg (by decide)]
  exact hn
theorem l_20 (f1 : σ.1 32 10 = 0) (f2 : σ.1 498 65 = 0) (hc : 1 ≤ κ.2.1) (hs : 6 ≤ κ.2.2) (b1 : my_bd (v4 + 1) e.2.1) (b2 : my_bd (v4 + 2) e.2.1) (hn : ys_law_1663 e 1049 v4 (κ.1 + 1, κ.2.1 - 1, κ.2.2 - 6) (my_uI σ 498 0 1) Q) : ys_law_1316 e 1049 v4 κ σ Q := by
  unfold ys_law_1316
  refine ⟨b1, b2, ys_395 ?_⟩
  unfold ys_395_0
  refine c_36 f1 (by decide) hc hs ?_
  rw [my_kI_x, if_pos rfl, my_kI_v]
  refine ⟨b1, b2, r_282 f2 (fun x => ?_)⟩
  rw [my_kI_v]
  refine r_213 ?_
  rw [my_kI_v, if_pos (show (my_uI σ 498 0 1).1 498 0 = 1 from rfl), if_neg (by decide)]
  exact hn
theorem l_21 (f1 : σ.1 32 10 = 0) (f2 : σ.1 498 65 = 0) (hc : 1 ≤ κ.2.1) (hs : 6 ≤ κ.2.2) (b1 : my_bd (v4 + 1) e.2.1) (b2 : my_bd (v4 + 2) e.2.1) (hn : ys_law_1663 e 1049 v4 (κ.1 + 1, κ.2.1 - 1, κ.2.2 - 6) (my_uI σ 498 0 1) Q) : ys_law_1384 e 1049 v4 κ σ Q := by
  unfold ys_law_1384
  refine ⟨b1, b2, ys_396 ?_⟩
  unfold ys_396_0
  refine c_38 f1 (by decide) hc hs ?_
  rw [my_kI_x, if_pos rfl, my_kI_v]
  refine ⟨b1, b2, r_338 f2 (fun x => ?_)⟩
  rw [my_kI_v]
  refine r_213 ?_
  rw [my_kI_v, if_pos (show (my_uI σ 498 0 1).1 498 0 = 1 from rfl), if_neg (by decide)]
  exact hn
theorem l_22 (f1 : σ.1 32 10 = 0) (f2 : σ.1 498 65 = 0) (hc : 1 ≤ κ.2.1) (hs : 6 ≤ κ.2.2) (b1 : my_bd (v4 + 1) e.2.1) (hn : ys_law_1663 e 1049 v4 (κ.1 + 1, κ.2.1 - 1, κ.2.2 - 6) (my_uI σ 498 0 1) Q) : ys_law_1452 e 1049 v4 κ σ Q := by
  unfold ys_law_1452
  refine ⟨b1, ys_397 ?_⟩
  unfold ys_397_0
  refine c_39 f1 (by decide) hc hs ?_
  rw [my_kI_x, if_pos rfl, my_kI_v]
  refine ⟨b1, r_339 f2 (fun x => ?_)⟩
  rw [my_kI_v]
  refine r_213 ?_
  rw [my_kI_v, if_pos (show (my_uI σ 498 0 1).1 498 0 = 1 from rfl), if_neg (by decide)]
  exact hn
theorem l_23 (f1 : σ.1 32 10 = 0) (f2 : σ.1 498 65 = 0) (hc : 1 ≤ κ.2.1) (hs : 6 ≤ κ.2.2) (b1 : my_bd (v4 + 1) e.2.1) (b2 : my_bd (v4 + 2) e.2.1) (hn : ys_law_1663 e 1049 v4 (κ.1 + 1, κ.2.1 - 1, κ.2.2 - 6) (my_uI σ 498 0 1) Q) : ys_law_1508 e 1049 v4 κ σ Q := by
  unfold ys_law_1508
  refine ⟨b1, b2, ys_398 ?_⟩
  unfold ys_398_0
  refine c_40 f1 (by decide) hc hs ?_
  rw [my_kI_x, if_pos rfl, my_kI_v]
  refine ⟨b1, b2, r_342 f2 (fun x => ?_)⟩
  rw [my_kI_v]
  refine r_213 ?_
  rw [my_kI_v, if_pos (show (my_uI σ 498 0 1).1 498 0 = 1 from rfl), if_neg (by decide)]
  exact hn
theorem l_24 (f1 : σ.1 32 10 = 0) (f2 : σ.1 498 65 = 0) (hc : 1 ≤ κ.2.1) (hs : 6 ≤ κ.2.2) (b1 : my_bd (v4 + 1) e.2.1) (b2 : my_bd (v4 + 2) e.2.1) (b3 : my_bd (v4 + 3) e.2.1) (hn : ys_law_1663 e 1049 v4 (κ.1 + 1, κ.2.1 - 1, κ.2.2 - 6) (my_uI σ 498 0 1) Q) : ys_law_1576 e 1049 v4 κ σ Q := by
  unfold ys_law_1576
  refine ⟨b1, b2, b3, ys_399 ?_⟩
  unfold ys_399_0
  refine c_42 f1 (by decide) hc hs ?_
  rw [my_kI_x, if_pos rfl, my_kI_v]
  refine ⟨b1, b2, b3, r_344 f2 (fun x => ?_)⟩
  rw [my_kI_v]
  refine r_213 ?_
  rw [my_kI_v, if_pos (show (my_uI σ 498 0 1).1 498 0 = 1 from rfl), if_neg (by decide)]
  exact hn
end MYK
