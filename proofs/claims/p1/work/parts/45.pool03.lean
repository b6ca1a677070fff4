/-! the pool of SuiteKeeper$Listing -/
def mf_3 : List mj_EF := [(422, false, 9, 3, 0, 0), (0, false, 15, 3, 1, 0), (0, false, 18, 3, 2, 0), (326, true, 77, 11, 4, 0), (27, true, 30, 11, 12, 0), (2, true, 21, 11, 13, 0)]
def mk_3 : List mj_EK := []
def ma_3 : List (Nat × Nat × Nat × String) := []
def mi_3 : List (Nat × Nat × Int32) := []
def ml_3 : List (Nat × Nat × Int64) := [(1541, 88, 10), (0, 90, 48)]
def mm_3 : List mj_EM := [(1526, false, 26, 1, 103, 3, 3), (3, false, 33, 1, 202, 1, 10), (2, false, 43, 1, 104, 1, 3), (3, false, 47, 1, 105, 1, 3), (5, false, 50, 1, 106, 1, 3), (4, false, 67, 1, 400, 0, 18), (0, false, 73, 1, 402, 1, 18), (0, false, 53, 1, 203, 2, 10), (3, false, 57, 1, 209, 1, 11), (0, false, 61, 1, 107, 1, 3), (3, true, 80, 0, 4, 1, 0), (0, true, 84, 0, 5, 2, 0)]
def mo_3 : List (Nat × (Nat × Nat × Nat × Nat)) := [(3, 3, 0, 0, 0)]
def mS_3 : List (Nat × Nat) := [(65, 13)]
def mG_3 : List (Nat × Bool × Nat × String × String × String) := [(1531, true, 39, "SuiteKeeper", "WIDTHS", "[I")]
def mV_3 (fv : Value) : Nat → Value := fun idx => if idx = 39 then .ref 27 else .null
def mX_3 : List (Nat × Nat × Nat) := []
def mE_3 : List (Nat × Nat × Nat × String × String × String) := []
def mq_3 (fv : Value) : mj_Po := ("SuiteKeeper$Listing", mj_fd (mf_3.map mj_eF), mj_fd (mk_3.map mj_eK), mj_fd (ma_3.map fun e => (e.2.1, e.2.2.1)), mj_fd (mi_3.map fun e => (e.2.1, e.2.2)), mj_fd (ml_3.map fun e => (e.2.1, e.2.2)), mj_fd (mo_3 ++ mm_3.map mj_eM), mj_fd mS_3, mj_fd (mG_3.map fun e => (e.2.2.1, mV_3 fv e.2.2.1)), mj_fd (mX_3.map fun e => (e.2.1, e.2.2)), mj_fd (mE_3.map fun e => (e.2.1, e.2.2.1)))
set_option maxRecDepth 100000 in
theorem mr_3 (fv : Value) : mj_Pl mc_cl mj_Ts mc_TY mc_STR (mc_SG fv) mc_EXF mc_PR (mq_3 fv) := ⟨mj_PF_of (own := "SuiteKeeper$Listing") (E := mf_3) (by decide +kernel) (by decide +kernel), mj_PC_of (own := "SuiteKeeper$Listing") (E := mk_3) mc_MM (by decide +kernel) (by decide +kernel), mj_PA_of (own := "SuiteKeeper$Listing") (E := ma_3) (fun _ h => absurd h List.not_mem_nil) (by decide +kernel) (by decide +kernel), mj_PI_of (own := "SuiteKeeper$Listing") (E := mi_3) (by decide +kernel), mj_PL_of (own := "SuiteKeeper$Listing") (E := ml_3) (by decide +kernel), mj_PM_of (own := "SuiteKeeper$Listing") (KD := mc_KD) (ob := mo_3) (E := mm_3) (List.forall_mem_cons.mpr ⟨rfl, fun _ h => absurd h List.not_mem_nil⟩) mc_hKD (by decide +kernel) (by decide +kernel), mj_PO_of (own := "SuiteKeeper$Listing") (ob := mo_3) (E := mm_3) (by decide +kernel) (List.forall_mem_cons.mpr ⟨mj_in_Ts (mt_1 _ (List.mem_of_getElem? (i := 195) rfl)) rfl, fun _ h => absurd h List.not_mem_nil⟩) mc_oi mc_oc, mj_PS_of (own := "SuiteKeeper$Listing") (E := mS_3) (by decide +kernel), mj_PG_of (own := "SuiteKeeper$Listing") (E := mG_3) (vs := mV_3 fv) (List.forall_mem_cons.mpr ⟨List.mem_of_getElem? (i := 0) rfl, fun _ h => absurd h List.not_mem_nil⟩) (by decide +kernel), mj_PX_of (own := "SuiteKeeper$Listing") (E := mX_3) (by decide +kernel) (by decide +kernel), mj_PE_of (own := "SuiteKeeper$Listing") (E := mE_3) (by decide +kernel) (by decide +kernel)⟩
