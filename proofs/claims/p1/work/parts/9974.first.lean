/-! ===== .. and what stands there at first ===== -/
def my_vq : Value → Value → Bool
  | .int x, .int y => decide (x = y)
  | .long x, .long y => decide (x = y)
  | .ref a, .ref b => Nat.beq a b
  | .null, .null => true
  | _, _ => false
theorem my_vq_ok {v w : Value} (h : my_vq v w = true) : v = w := by
  cases v <;> cases w <;> simp only [my_vq, reduceCtorEq, Bool.false_eq_true, decide_eq_true_eq] at h
  · rw [h]
  · rw [h]
  · rfl
  · rw [Nat.eq_of_beq_eq_true h]
def my_vql : List Value → List Value → Bool
  | [], [] => true
  | v :: r, w :: s => my_vq v w && my_vql r s
  | _, _ => false
theorem my_vql_ok : ∀ {l m : List Value}, my_vql l m = true → l = m
  | [], [], _ => rfl
  | [], _ :: _, h => by simp [my_vql] at h
  | _ :: _, [], h => by simp [my_vql] at h
  | v :: r, w :: s, h => by
    simp only [my_vql, Bool.and_eq_true] at h
    rw [my_vq_ok h.1, my_vql_ok h.2]
def my_FO : List (Nat × List Value) := [
  (32, [.ref 33, .ref 39, .ref 43, .ref 44, .ref 53, .ref 62, .ref 89, .ref 108, .ref 238, .ref 368, .int 0, .int 0, .int 0]),
  (33, [.ref 34, .int 0, .ref 35, .ref 36, .ref 37, .int 0, .int 0, .ref 38, .int 0, .int 0, .long 0, .int 0]),
  (39, [.ref 33, .null, .null, .int 0, .int 0, .int 0, .ref 40, .ref 41, .int 0, .int 0, .int 0, .int 0, .ref 42, .int 0]),
  (43, [.int 0, .int 0, .int 0]),
  (44, [.null, .ref 45, .int 0, .ref 46, .ref 47, .ref 48, .ref 49, .int 0, .ref 50, .ref 51, .ref 52, .int 0, .int 0, .int 0, .null, .int 0]),
  (53, [.null, .ref 54, .int 0, .ref 55, .ref 56, .ref 57, .ref 58, .int 0, .ref 59, .ref 60, .ref 61, .int 0, .int 0, .int 0, .null, .int 0]),
  (62, [.ref 63, .ref 64, .int 0, .int 0, .int 0]),
  (89, [.ref 90, .ref 91, .ref 92, .int 0, .int 0, .int 0, .int 0, .int 0]),
  (92, [.long 0, .int 0, .int 0, .int 0, .int 0, .int 0, .int 0, .int 0, .ref 93]),
  (94, [.ref 95, .int 0, .int 1, .ref 96, .ref 97, .ref 98, .int 0, .ref 99, .ref 100, .int 0, .int 0, .int 1]),
  (101, [.ref 102, .int 0, .int 0, .ref 103, .ref 104, .ref 105, .int 0, .ref 106, .ref 107, .int 0, .int 0, .int 1]),
  (108, [.ref 109, .int 0, .ref 110, .int 0, .ref 111]),
  (238, [.ref 239, .int 0, .ref 240, .int 0, .ref 241]),
  (368, [.ref 369, .int 0, .ref 370, .int 0, .ref 371]),
  (498, [.int 0, .ref 499, .int 0, .ref 500, .int 0, .int 0, .int 0, .int 0, .long 0, .int 0, .int 0, .int 0, .ref 501, .ref 502, .ref 503, .ref 504, .ref 505, .ref 506, .ref 507, .ref 508, .ref 509, .ref 510, .ref 511, .int 0, .ref 512, .ref 513, .ref 514, .ref 515, .ref 516, .int 0, .int 0, .long 0, .ref 517, .ref 518, .ref 519, .ref 520, .int 0, .ref 521, .ref 522, .ref 523, .int 0, .ref 524, .ref 525, .int 0, .int 0, .ref 526, .ref 527, .int 0, .ref 528, .int 0, .ref 529, .ref 530, .ref 531, .ref 532, .ref 533, .ref 534, .ref 535, .int 0, .ref 536, .ref 537, .int 0, .int 0, .int 0, .int 0, .int 0, .int 0, .ref 538, .ref 539, .ref 540, .ref 541, .int 0, .ref 542, .ref 543, .ref 544, .ref 545, .int 0, .int 0, .int 0, .int 0, .int 0, .int 0, .int 0, .ref 546, .int 0, .int 1, .ref 547, .int 0, .int 0, .int 0, .int 0, .int 0, .ref 548, .ref 549, .int 0, .ref 550, .int 0, .ref 551, .int 0, .ref 552, .int 0, .ref 553, .int 0, .ref 554, .ref 555, .int 0, .int 0, .ref 556, .int (-1), .ref 557, .ref 558, .ref 559, .ref 560, .ref 561, .ref 562, .ref 563, .ref 564, .ref 565, .ref 566, .int 0, .int 0, .ref 567, .ref 568, .ref 569, .int 0, .int 0, .ref 570, .ref 571, .ref 572, .ref 573, .ref 574, .ref 575, .ref 576, .int 0, .int 0, .int 0, .int 0, .int 0, .int 0, .int 0, .int 0, .int 0, .int 0, .ref 577, .ref 578, .ref 579, .ref 580, .ref 581, .ref 582, .ref 583, .ref 584])]
def my_fo (F : List (Nat × List Value)) (f : Nat → va_E) : Bool := F.all (fun q => match f q.1 with
  | .inr (_, fs) => my_vql fs q.2
  | _ => false)
def my_dz (j : Nat) : Int32 := if j = 0 then 1 else if j = 2 then 1 else 0
def my_da (f : Nat → va_E) (a z : Nat) (w : Nat → Int32) : Bool := match f a with
  | .inl (_, _, .inl g) => (List.range z).all (fun k => decide (g k = w k))
  | _ => false
def my_fP : Nat → va_E := fun k => if k = 0 then my_pz else if k < 32 then mc_fx 0 (fun _ => 0) k else my_pz
/-- the first four instructions of the law: the class's constructor; the next nine: the reference's -/
def my_chkA (fv : Value) : Bool := match my_fgo fv 100000 1049 mp_law 600002 7302232 4 (0, lv_args 0 [.ref 0], [], 32, my_fP, 0, 0) with
  | some (pc, lv, st, n, f, cs, ss) => (Nat.beq pc 8 && st.isEmpty && Nat.beq n 498 && Nat.beq cs 466 && Nat.beq ss 76095) && my_vql (lv.map (·.2)) [.ref 32, .ref 0] && decide (lv.map (·.1) = [1, 0]) && my_cfa f 32 (my_tb.take 466) && my_fo (my_FO.take 14) f && my_da f 90 16384 my_dz
  | none => false
def my_chkB (fv : Value) : Bool := match my_fgo fv 100000 1049 mp_law 600002 7302232 9 (8, [(1, .ref 32), (0, .ref 0)], [], 498, my_fP, 466, 76095) with
  | some (pc, lv, st, n, f, cs, ss) => (Nat.beq pc 23 && st.isEmpty && Nat.beq n 586 && Nat.beq cs 554 && Nat.beq ss 275688) && my_vql (lv.map (·.2)) [.int 0, .ref 585, .ref 498, .ref 32, .ref 0] && decide (lv.map (·.1) = [4, 3, 2, 1, 0]) && my_cfa f 498 (my_tb.drop 466) && my_fo (my_FO.drop 14) f && my_da f 546 16384 my_dz && my_da f 583 24 (fun _ => 0) && (List.range 466).all (fun k => !my_tg (f (k + 32)))
  | none => false
