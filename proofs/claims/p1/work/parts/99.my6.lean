/-! ===== a block as a statement ===== -/
def my_k0 (A : my_K → my_S → Prop) (B : Nat × Nat → my_K → my_S → Prop) : my_O → my_K → my_S → Prop := fun o κ σ => match o with
  | .inl none => A κ σ
  | .inr y => B y κ σ
  | _ => False
def my_kI (A : Int32 → my_K → my_S → Prop) (B : Nat × Nat → my_K → my_S → Prop) : my_O → my_K → my_S → Prop := fun o κ σ => match o with
  | .inl (some (.inl x)) => A x κ σ
  | .inr y => B y κ σ
  | _ => False
def my_kL (A : Int64 → my_K → my_S → Prop) (B : Nat × Nat → my_K → my_S → Prop) : my_O → my_K → my_S → Prop := fun o κ σ => match o with
  | .inl (some (.inr (.inl x))) => A x κ σ
  | .inr y => B y κ σ
  | _ => False
def my_kA (A : Option Nat → my_K → my_S → Prop) (B : Nat × Nat → my_K → my_S → Prop) : my_O → my_K → my_S → Prop := fun o κ σ => match o with
  | .inl (some (.inr (.inr x))) => A x κ σ
  | .inr y => B y κ σ
  | _ => False
theorem my_k0_mono {A A' : my_K → my_S → Prop} {B B' : Nat × Nat → my_K → my_S → Prop} (hA : ∀ κ σ, A κ σ → A' κ σ) (hB : ∀ y κ σ, B y κ σ → B' y κ σ) : ∀ o κ σ, my_k0 A B o κ σ → my_k0 A' B' o κ σ := by
  intro o κ σ h
  rcases o with (_ | v) | y
  · exact hA κ σ h
  · cases h
  · exact hB y κ σ h
theorem my_kI_mono {A A' : Int32 → my_K → my_S → Prop} {B B' : Nat × Nat → my_K → my_S → Prop} (hA : ∀ x κ σ, A x κ σ → A' x κ σ) (hB : ∀ y κ σ, B y κ σ → B' y κ σ) : ∀ o κ σ, my_kI A B o κ σ → my_kI A' B' o κ σ := by
  intro o κ σ h
  rcases o with (_ | (v | v | v)) | y
  · cases h
  · exact hA v κ σ h
  · cases h
  · cases h
  · exact hB y κ σ h
theorem my_kL_mono {A A' : Int64 → my_K → my_S → Prop} {B B' : Nat × Nat → my_K → my_S → Prop} (hA : ∀ x κ σ, A x κ σ → A' x κ σ) (hB : ∀ y κ σ, B y κ σ → B' y κ σ) : ∀ o κ σ, my_kL A B o κ σ → my_kL A' B' o κ σ := by
  intro o κ σ h
  rcases o with (_ | (v | v | v)) | y
  · cases h
  · cases h
  · exact hA v κ σ h
  · cases h
  · exact hB y κ σ h
theorem my_kA_mono {A A' : Option Nat → my_K → my_S → Prop} {B B' : Nat × Nat → my_K → my_S → Prop} (hA : ∀ x κ σ, A x κ σ → A' x κ σ) (hB : ∀ y κ σ, B y κ σ → B' y κ σ) : ∀ o κ σ, my_kA A B o κ σ → my_kA A' B' o κ σ := by
  intro o κ σ h
  rcases o with (_ | (v | v | v)) | y
  · cases h
  · cases h
  · cases h
  · exact hA v κ σ h
  · exact hB y κ σ h
def my_hs (e : my_E) (d : Nat) (q : mj_Mi) (Q : my_O → my_K → my_S → Prop) (lv : List (Nat × my_V)) (y : Nat × Nat) (κ : my_K) (σ : my_S) : List (List Nat) → Prop
  | (ci :: x) :: r => if y.2 = ci then my_lf e d q Q x lv [.inr (.inr (some y.1))] κ σ else my_hs e d q Q lv y κ σ r
  | _ => False
def my_ex (e : my_E) (d : Nat) (q : mj_Mi) (Q : my_O → my_K → my_S → Prop) (lv : List (Nat × my_V)) (hs : List (List Nat)) : Nat × Nat → my_K → my_S → Prop := fun y κ σ => match hs with
  | [] => Q (.inr y) κ σ
  | h :: t => my_hs e d q Q lv y κ σ (h :: t)
def my_iv (e : my_E) (d : Nat) (q : mj_Mi) (Q : my_O → my_K → my_S → Prop) (rk mi : Nat) (av r : List my_V) (lf : List Nat) (hs : List (List Nat)) (lv : List (Nat × my_V)) (κ : my_K) (σ : my_S) : Prop := match rk with
  | 0 => my_M e d mi av κ σ (my_k0 (fun κ' σ' => my_lf e d q Q lf lv r κ' σ') (my_ex e d q Q lv hs))
  | 1 => my_M e d mi av κ σ (my_kI (fun x κ' σ' => my_lf e d q Q lf lv (.inl x :: r) κ' σ') (my_ex e d q Q lv hs))
  | 2 => my_M e d mi av κ σ (my_kL (fun x κ' σ' => my_lf e d q Q lf lv (.inr (.inl x) :: r) κ' σ') (my_ex e d q Q lv hs))
  | _ => my_M e d mi av κ σ (my_kA (fun x κ' σ' => my_lf e d q Q lf lv (.inr (.inr x) :: r) κ' σ') (my_ex e d q Q lv hs))
def my_sws (e : my_E) (d : Nat) (q : mj_Mi) (Q : my_O → my_K → my_S → Prop) (v : Int32) (lv : List (Nat × my_V)) (st : List my_V) (κ : my_K) (σ : my_S) : List (List Nat) → Prop
  | [] => False
  | [x] => my_lf e d q Q x lv st κ σ
  | (k :: x) :: y :: r => if v = Int32.ofNat k then my_lf e d q Q x lv st κ σ else my_sws e d q Q v lv st κ σ (y :: r)
  | [] :: _ :: _ => False
def my_ef (e : my_E) (d : Nat) (q : mj_Mi) (Q : my_O → my_K → my_S → Prop) (i : Instr) (x : List (List Nat)) (lv : List (Nat × my_V)) (st : List my_V) (κ : my_K) (σ : my_S) (K : List my_V → my_S → Prop) : Prop := match i with
  | .getfield _ => match x, st with
    | [[m, A, ci, k, ty, B]], .inr (.inr o) :: r => my_rf m A o (my_in ci) (fun a => K (my_fx ty B σ a k :: r) σ)
    | _, _ => False
  | .putfield _ => match x, st with
    | [[m, A, ci, k, 0]], .inl v :: .inr (.inr o) :: r => my_rf m A o (my_in ci) (fun a => K r (my_uI σ a k v))
    | [[m, A, ci, k, 1]], .inl v :: .inr (.inr o) :: r => (v = 0 ∨ v = 1) ∧ my_rf m A o (my_in ci) (fun a => K r (my_uI σ a k v))
    | [[m, A, ci, k, 2]], .inr (.inl v) :: .inr (.inr o) :: r => my_rf m A o (my_in ci) (fun a => K r (my_uL σ a k v))
    | [[m, A, ci, k, 3]], .inr (.inr v) :: .inr (.inr o) :: r => my_rf m A o (my_in ci) (fun a => K r (my_uA σ a k v))
    | _, _ => False
  | .iaload => match x, st with
    | [[m, A, z]], .inl j :: .inr (.inr o) :: r => my_rf m A o (my_ar 0 z) (fun a => my_bd j z ∧ K (.inl (σ.1 a j.toNatClampNeg) :: r) σ)
    | [[27]], .inl j :: .inr (.inr o) :: r => o = some 27 ∧ my_bd j 32 ∧ K (.inl (mc_w.getD j.toNatClampNeg 0) :: r) σ
    | [[0]], .inl j :: .inr (.inr o) :: r => o = some 0 ∧ my_bd j e.2.1 ∧ K (.inl (e.2.2 j.toNatClampNeg) :: r) σ
    | _, _ => False
  | .baload => match x, st with
    | [[m, A, t, z]], .inl j :: .inr (.inr o) :: r => my_rf m A o (my_ar t z) (fun a => my_bd j z ∧ K (.inl (σ.1 a j.toNatClampNeg) :: r) σ)
    | _, _ => False
  | .laload => match x, st with
    | [[m, A, z]], .inl j :: .inr (.inr o) :: r => my_rf m A o (my_ar 2 z) (fun a => my_bd j z ∧ K (.inr (.inl (σ.2.1 a j.toNatClampNeg)) :: r) σ)
    | _, _ => False
  | .aaload => match x, st with
    | [[m, A, t, z]], .inl j :: .inr (.inr o) :: r => my_rf m A o (my_ar t z) (fun a => my_bd j z ∧ K (.inr (.inr (σ.2.2 a j.toNatClampNeg)) :: r) σ)
    | _, _ => False
  | .arraylength => match x, st with
    | [[m, A, t, z]], .inr (.inr o) :: r => my_rf m A o (my_ar t z) (fun _ => K (.inl (Int32.ofNat z) :: r) σ)
    | [[27]], .inr (.inr o) :: r => o = some 27 ∧ K (.inl 32 :: r) σ
    | [[0]], .inr (.inr o) :: r => o = some 0 ∧ K (.inl (Int32.ofNat e.2.1) :: r) σ
    | _, _ => False
  | .iastore => match x, st with
    | [[m, A, z]], .inl v :: .inl j :: .inr (.inr o) :: r => my_rf m A o (my_ar 0 z) (fun a => my_bd j z ∧ K r (my_uI σ a j.toNatClampNeg v))
    | _, _ => False
  | .bastore => match x, st with
    | [[m, A, 1, z]], .inl v :: .inl j :: .inr (.inr o) :: r => my_rf m A o (my_ar 1 z) (fun a => my_bd j z ∧ K r (my_uI σ a j.toNatClampNeg v.toInt8.toInt32))
    | [[m, A, 3, z]], .inl v :: .inl j :: .inr (.inr o) :: r => (v = 0 ∨ v = 1) ∧ my_rf m A o (my_ar 3 z) (fun a => my_bd j z ∧ K r (my_uI σ a j.toNatClampNeg v))
    | _, _ => False
  | .lastore => match x, st with
    | [[m, A, z]], .inr (.inl v) :: .inl j :: .inr (.inr o) :: r => my_rf m A o (my_ar 2 z) (fun a => my_bd j z ∧ K r (my_uL σ a j.toNatClampNeg v))
    | _, _ => False
  | .aastore => match x, st with
    | [[m, A, t, z, ci]], .inr (.inr v) :: .inl j :: .inr (.inr o) :: r => (∀ b, v = some b → my_in ci b) ∧ my_rf m A o (my_ar t z) (fun a => my_bd j z ∧ K r (my_uA σ a j.toNatClampNeg v))
    | _, _ => False
  | .getstatic _ => match x with
    | [[27]] => K (.inr (.inr (some 27)) :: st) σ
    | _ => False
  | .ldc _ => match x with
    | [[w]] => K (.inl (Int32.ofNat w) :: st) σ
    | _ => False
  | .ldc_w _ => match x with
    | [[w]] => K (.inl (Int32.ofNat w) :: st) σ
    | _ => False
  | .ldc2_w _ => match x with
    | [[w]] => K (.inr (.inl (Int64.ofNat w)) :: st) σ
    | _ => False
  | .idiv => match st with
    | .inl b :: .inl a :: r => b ≠ 0 ∧ K (.inl (a / b) :: r) σ
    | _ => False
  | .irem => match st with
    | .inl b :: .inl a :: r => b ≠ 0 ∧ K (.inl (a - a / b * b) :: r) σ
    | _ => False
  | .ldiv => match st with
    | .inr (.inl b) :: .inr (.inl a) :: r => b ≠ 0 ∧ K (.inr (.inl (a / b)) :: r) σ
    | _ => False
  | .lrem => match st with
    | .inr (.inl b) :: .inr (.inl a) :: r => b ≠ 0 ∧ K (.inr (.inl (a - a / b * b)) :: r) σ
    | _ => False
  | .ifCond cd _ => match x, st with
    | [t, u], .inl a :: r => my_cmp cd a 0 (my_lf e d q Q t lv r κ σ) (my_lf e d q Q u lv r κ σ)
    | _, _ => False
  | .if_icmp cd _ => match x, st with
    | [t, u], .inl b :: .inl a :: r => my_cmp cd a b (my_lf e d q Q t lv r κ σ) (my_lf e d q Q u lv r κ σ)
    | _, _ => False
  | .ifnull _ => match x, st with
    | [t, u], .inr (.inr o) :: r => if o = none then my_lf e d q Q t lv r κ σ else my_lf e d q Q u lv r κ σ
    | _, _ => False
  | .ifnonnull _ => match x, st with
    | [t, u], .inr (.inr o) :: r => if o = none then my_lf e d q Q u lv r κ σ else my_lf e d q Q t lv r κ σ
    | _, _ => False
  | .if_acmp cd _ => match x, st with
    | [t, u], .inr (.inr b) :: .inr (.inr a) :: r => ((∀ c, a = some c → 32 ≤ c) ∧ ∀ c, b = some c → 32 ≤ c) ∧ match cd with
      | .eq => if a = b then my_lf e d q Q t lv r κ σ else my_lf e d q Q u lv r κ σ
      | .ne => if a = b then my_lf e d q Q u lv r κ σ else my_lf e d q Q t lv r κ σ
    | _, _ => False
  | .tableswitch .. => match st with
    | .inl v :: r => my_sws e d q Q v lv r κ σ x
    | _ => False
  | .lookupswitch .. => match st with
    | .inl v :: r => my_sws e d q Q v lv r κ σ x
    | _ => False
  | .ireturn => match x, st with
    | [[0]], [.inl v] => Q (.inl (some (.inl v))) κ σ
    | [[1]], [.inl v] => (v = 0 ∨ v = 1) ∧ Q (.inl (some (.inl v))) κ σ
    | _, _ => False
  | .lreturn => match st with
    | [.inr (.inl v)] => Q (.inl (some (.inr (.inl v)))) κ σ
    | _ => False
  | .areturn => match st with
    | [.inr (.inr v)] => Q (.inl (some (.inr (.inr v)))) κ σ
    | _ => False
  | .return_ => match st with
    | [] => Q (.inl none) κ σ
    | _ => False
  | .new _ => match x with
    | [[ci, z, _]] => (5 ≤ d ∧ Nat.ble (my_wt st) 24 = true) ∧ (1 ≤ κ.2.1 ∧ z ≤ κ.2.2) ∧ Q (.inr (κ.1, ci)) (κ.1 + 1, κ.2.1 - 1, κ.2.2 - z) σ
    | _ => False
  | .invokestatic _ => match x with
    | [[b]] => match st with
      | .inl v :: .inl u :: r => Nat.ble (my_wt r) 24 = true ∧ K (.inl (bif Nat.beq b 1 then (if u < v then v else u) else (if v < u then v else u)) :: r) σ
      | _ => False
    | [mi, np, rk] :: lf :: hs => (Nat.ble np st.length = true ∧ Nat.ble (my_wt (st.drop np)) 24 = true) ∧ my_iv e d q Q rk mi (st.take np).reverse (st.drop np) lf hs lv κ σ
    | _ => False
  | .invokevirtual _ => match x with
    | [mi, np, rk, m, A, ci] :: lf :: hs => Nat.ble np st.length = true ∧ match st.drop np with
      | .inr (.inr o) :: r => Nat.ble (my_wt r) 24 = true ∧ my_rf m A o (my_in ci) (fun a => my_iv e d q Q rk mi (.inr (.inr (some a)) :: (st.take np).reverse) r lf hs lv κ σ)
      | _ => False
    | _ => False
  | _ => False
def my_blk (e : my_E) (d : Nat) (q : mj_Mi) (Q : my_O → my_K → my_S → Prop) : List (Instr × List (List Nat)) → List (Nat × my_V) → List my_V → my_K → my_S → Prop
  | [], _, _, _, _ => False
  | (.nop, x) :: _, lv, st, κ, σ => my_lf e d q Q ((match x with | [y] => y | _ => [])) lv st κ σ
  | (i, x) :: r, lv, st, κ, σ => match my_pu i lv st with
    | some (lv1, st1) => my_blk e d q Q r lv1 st1 κ σ
    | none => my_ef e d q Q i x lv st κ σ (fun st' σ' => my_blk e d q Q r lv st' κ σ')
