
/-! ===== bytes are bytes ===== -/
def isB (x : Int32) : Prop := -128 ≤ x.toInt ∧ x.toInt ≤ 127
theorem isB_bt {v j : Int32} : isB (bt v j) := by
  unfold bt isB
  rw [Int8.toInt_toInt32]
  generalize ((((v).toUInt32 >>> (((8 * j) : Int32).toUInt32 &&& Int32.toUInt32 31)).toInt32 : Int32).toInt8.toInt32 : Int32).toInt8 = z
  have h1 := Int8.le_toInt z
  have h2 := Int8.toInt_lt z
  omega
theorem isB_e {x y : Int32} (hx : isB x) (hy : isB y) : x &&& 255 = y &&& 255 ↔ x = y := by
  constructor
  · intro h
    rw [and255i, and255i] at h
    unfold isB at hx hy
    have h2 := congrArg Int32.toInt h
    rw [Int32.toInt_ofInt_of_le (by omega) (by omega), Int32.toInt_ofInt_of_le (by omega) (by omega)] at h2
    exact Int32.toInt_inj.mp (by omega)
  · intro h; rw [h]
def aB (l : List Int32) : Prop := ∀ x ∈ l, isB x
theorem aB_a {l m : List Int32} (h1 : aB l) (h2 : aB m) : aB (l ++ m) := fun x hx => by
  rcases List.mem_append.mp hx with h | h
  · exact h1 x h
  · exact h2 x h
theorem aB_n : aB [] := fun x hx => absurd hx List.not_mem_nil
theorem aB_bts {v : Int32} : ∀ {k j : Nat}, aB (bts v k j)
  | 0, _ => aB_n
  | k + 1, j => fun x hx => by
    rcases List.mem_cons.mp hx with h | h
    · rw [h]; exact isB_bt
    · exact aB_bts x h
theorem aB_b1s : ∀ {T : List Int32}, aB (b1s T)
  | [] => aB_n
  | x :: T => aB_a (l := bts x 1 0) (m := b1s T) aB_bts aB_b1s
theorem aB_nmB {it : It} : aB (nmB it) := aB_a aB_bts (aB_a aB_bts aB_b1s)
theorem aB_nms {I : List It} : ∀ {N : List Nat}, aB (nmsB I N)
  | [] => aB_n
  | x :: N => aB_a (l := nmB (itA I x)) (m := nmsB I N) aB_nmB aB_nms
theorem aB_eb1 {I : List It} {J : Nat → Int32} {x : Rw} {N : List Nat} : aB (eb1 I J x N) := by
  unfold eb1
  split
  · exact aB_a aB_bts aB_bts
  split
  · exact aB_a aB_bts aB_bts
  split
  · exact aB_a aB_bts aB_bts
  split
  · unfold nmd
    split
    · exact aB_n
    · exact aB_a aB_bts aB_bts
  split
  · exact aB_n
  split
  · exact aB_a aB_bts aB_bts
  · exact aB_bts
theorem aB_eb {I : List It} {J : Nat → Int32} : ∀ {r : List Rw} {N : List Nat}, aB (eb I J r N)
  | [], _ => aB_n
  | x :: r, N => aB_a (l := eb1 I J x N) (m := eb I J r (nd1 I x N)) aB_eb1 aB_eb
theorem aB_ib {I : List It} {i : Nat} {a : Ri} : aB (ib I i a) := by
  unfold ib
  split
  · exact aB_a aB_bts (aB_a aB_bts aB_bts)
  split
  · exact aB_a aB_bts aB_bts
  · refine aB_a (aB_a ?_ (aB_a aB_bts aB_bts)) (aB_a aB_eb (aB_a aB_bts aB_nms))
    unfold hdB
    exact aB_a aB_bts (aB_a aB_bts (aB_a aB_b1s aB_bts))
