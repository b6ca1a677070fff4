/-! the pool of SuiteKeeper$Slot -/
def mf_6 : List mj_EF := [(453, true, 36, 4, 11, 0), (2, true, 30, 4, 12, 0), (4, true, 40, 4, 14, 0), (1, true, 44, 4, 15, 0), (46, false, 15, 6, 0, 0), (2, false, 19, 6, 1, 0), (7, false, 23, 6, 5, 0), (1, false, 27, 6, 6, 0), (1, false, 35, 6, 7, 0), (1, false, 39, 6, 8, 0), (2, false, 43, 6, 9, 0), (1, false, 47, 6, 10, 0), (1, false, 9, 6, 11, 1)]
def mk_6 : List mj_EK := []
def ma_6 : List (Nat × Nat × Nat × String) := []
def mi_6 : List (Nat × Nat × Int32) := []
def ml_6 : List (Nat × Nat × Int64) := []
def mm_6 : List mj_EM := [(1845, false, 48, 1, 139, 1, 4)]
def mo_6 : List (Nat × (Nat × Nat × Nat × Nat)) := [(3, 3, 0, 0, 0)]
def mS_6 : List (Nat × Nat) := []
def mG_6 : List (Nat × Bool × Nat × String × String × String) := []
def mV_6 (fv : Value) : Nat → Value := fun idx => .null
def mX_6 : List (Nat × Nat × Nat) := []
def mE_6 : List (Nat × Nat × Nat × String × String × String) := []
def mq_6 (fv : Value) : mj_Po := ("SuiteKeeper$Slot", mj_fd (mf_6.map mj_eF), mj_fd (mk_6.map mj_eK), mj_fd (ma_6.map fun e => (e.2.1, e.2.2.1)), mj_fd (mi_6.map fun e => (e.2.1, e.2.2)), mj_fd (ml_6.map fun e => (e.2.1, e.2.2)), mj_fd (mo_6 ++ mm_6.map mj_eM), mj_fd mS_6, mj_fd (mG_6.map fun e => (e.2.2.1, mV_6 fv e.2.2.1)), mj_fd (mX_6.map fun e => (e.2.1, e.2.2)), mj_fd (mE_6.map fun e => (e.2.1, e.2.2.1)))
set_option maxRecDepth 100000 in
theorem mr_6 (fv : Value) : mj_Pl mc_cl mj_Ts mc_TY mc_STR (mc_SG fv) mc_EXF mc_PR (mq_6 fv) := ⟨mj_PF_of (own := "SuiteKeeper$Slot") (E := mf_6) (by decide +kernel) (by decide +kernel), mj_PC_of (own := "SuiteKeeper$Slot") (E := mk_6) mc_MM (by decide +kernel) (by decide +kernel), mj_PA_of (own := "SuiteKeeper$Slot") (E := ma_6) (fun _ h => absurd h List.not_mem_nil) (by decide +kernel) (by decide +kernel), mj_PI_of (own := "SuiteKeeper$Slot") (E := mi_6) (by decide +kernel), mj_PL_of (own := "SuiteKeeper$Slot") (E := ml_6) (by decide +kernel), mj_PM_of (own := "SuiteKeeper$Slot") (KD := mc_KD) (ob := mo_6) (E := mm_6) (List.forall_mem_cons.mpr ⟨rfl, fun _ h => absurd h List.not_mem_nil⟩) mc_hKD (by decide +kernel) (by decide +kernel), mj_PO_of (own := "SuiteKeeper$Slot") (ob := mo_6) (E := mm_6) (by decide +kernel) (List.forall_mem_cons.mpr ⟨mj_in_Ts (mt_2 _ (List.mem_of_getElem? (i := 43) rfl)) rfl, fun _ h => absurd h List.not_mem_nil⟩) mc_oi mc_oc, mj_PS_of (own := "SuiteKeeper$Slot") (E := mS_6) (by decide +kernel), mj_PG_of (own := "SuiteKeeper$Slot") (E := mG_6) (vs := mV_6 fv) (fun _ h => absurd h List.not_mem_nil) (by decide +kernel), mj_PX_of (own := "SuiteKeeper$Slot") (E := mX_6) (by decide +kernel) (by decide +kernel), mj_PE_of (own := "SuiteKeeper$Slot") (E := mE_6) (by decide +kernel) (by decide +kernel)⟩
