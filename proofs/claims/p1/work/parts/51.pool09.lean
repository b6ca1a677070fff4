/-! the pool of SuiteKeeper$Outcome -/
def mf_9 : List mj_EF := [(612, false, 15, 9, 7, 0), (3, false, 9, 9, 8, 1)]
def mk_9 : List mj_EK := []
def ma_9 : List (Nat × Nat × Nat × String) := []
def mi_9 : List (Nat × Nat × Int32) := []
def ml_9 : List (Nat × Nat × Int64) := []
def mm_9 : List mj_EM := []
def mo_9 : List (Nat × (Nat × Nat × Nat × Nat)) := [(3, 3, 0, 0, 0)]
def mS_9 : List (Nat × Nat) := []
def mG_9 : List (Nat × Bool × Nat × String × String × String) := []
def mV_9 (fv : Value) : Nat → Value := fun idx => .null
def mX_9 : List (Nat × Nat × Nat) := []
def mE_9 : List (Nat × Nat × Nat × String × String × String) := []
def mq_9 (fv : Value) : mj_Po := ("SuiteKeeper$Outcome", mj_fd (mf_9.map mj_eF), mj_fd (mk_9.map mj_eK), mj_fd (ma_9.map fun e => (e.2.1, e.2.2.1)), mj_fd (mi_9.map fun e => (e.2.1, e.2.2)), mj_fd (ml_9.map fun e => (e.2.1, e.2.2)), mj_fd (mo_9 ++ mm_9.map mj_eM), mj_fd mS_9, mj_fd (mG_9.map fun e => (e.2.2.1, mV_9 fv e.2.2.1)), mj_fd (mX_9.map fun e => (e.2.1, e.2.2)), mj_fd (mE_9.map fun e => (e.2.1, e.2.2.1)))
set_option maxRecDepth 100000 in
theorem mr_9 (fv : Value) : mj_Pl mc_cl mj_Ts mc_TY mc_STR (mc_SG fv) mc_EXF mc_PR (mq_9 fv) := ⟨mj_PF_of (own := "SuiteKeeper$Outcome") (E := mf_9) (by decide +kernel) (by decide +kernel), mj_PC_of (own := "SuiteKeeper$Outcome") (E := mk_9) mc_MM (by decide +kernel) (by decide +kernel), mj_PA_of (own := "SuiteKeeper$Outcome") (E := ma_9) (fun _ h => absurd h List.not_mem_nil) (by decide +kernel) (by decide +kernel), mj_PI_of (own := "SuiteKeeper$Outcome") (E := mi_9) (by decide +kernel), mj_PL_of (own := "SuiteKeeper$Outcome") (E := ml_9) (by decide +kernel), mj_PM_of (own := "SuiteKeeper$Outcome") (KD := mc_KD) (ob := mo_9) (E := mm_9) (List.forall_mem_cons.mpr ⟨rfl, fun _ h => absurd h List.not_mem_nil⟩) mc_hKD (by decide +kernel) (by decide +kernel), mj_PO_of (own := "SuiteKeeper$Outcome") (ob := mo_9) (E := mm_9) (by decide +kernel) (List.forall_mem_cons.mpr ⟨mj_in_Ts (mt_2 _ (List.mem_of_getElem? (i := 125) rfl)) rfl, fun _ h => absurd h List.not_mem_nil⟩) mc_oi mc_oc, mj_PS_of (own := "SuiteKeeper$Outcome") (E := mS_9) (by decide +kernel), mj_PG_of (own := "SuiteKeeper$Outcome") (E := mG_9) (vs := mV_9 fv) (fun _ h => absurd h List.not_mem_nil) (by decide +kernel), mj_PX_of (own := "SuiteKeeper$Outcome") (E := mX_9) (by decide +kernel) (by decide +kernel), mj_PE_of (own := "SuiteKeeper$Outcome") (E := mE_9) (by decide +kernel) (by decide +kernel)⟩
