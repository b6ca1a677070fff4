/-! the pool of SuiteKeeper$Crew -/
def mf_5 : List mj_EF := [(514, true, 37, 6, 1, 0), (0, true, 40, 6, 2, 0), (1, true, 43, 6, 3, 0), (1, true, 49, 6, 4, 0), (2, true, 52, 6, 5, 0), (5, true, 46, 6, 8, 0), (31, false, 11, 5, 0, 1), (0, false, 17, 5, 1, 1), (0, false, 22, 5, 2, 0), (1, false, 30, 5, 3, 0), (0, false, 26, 5, 4, 0)]
def mk_5 : List mj_EK := [(503, 9, 6, 12)]
def ma_5 : List (Nat × Nat × Nat × String) := [(503, 9, 5, "SuiteKeeper$Slot")]
def mi_5 : List (Nat × Nat × Int32) := []
def ml_5 : List (Nat × Nat × Int64) := []
def mm_5 : List mj_EM := [(506, true, 21, 2, 149, 0, 0), (1325, false, 33, 1, 150, 2, 6)]
def mo_5 : List (Nat × (Nat × Nat × Nat × Nat)) := [(3, 3, 0, 0, 0)]
def mS_5 : List (Nat × Nat) := []
def mG_5 : List (Nat × Bool × Nat × String × String × String) := []
def mV_5 (fv : Value) : Nat → Value := fun idx => .null
def mX_5 : List (Nat × Nat × Nat) := []
def mE_5 : List (Nat × Nat × Nat × String × String × String) := []
def mq_5 (fv : Value) : mj_Po := ("SuiteKeeper$Crew", mj_fd (mf_5.map mj_eF), mj_fd (mk_5.map mj_eK), mj_fd (ma_5.map fun e => (e.2.1, e.2.2.1)), mj_fd (mi_5.map fun e => (e.2.1, e.2.2)), mj_fd (ml_5.map fun e => (e.2.1, e.2.2)), mj_fd (mo_5 ++ mm_5.map mj_eM), mj_fd mS_5, mj_fd (mG_5.map fun e => (e.2.2.1, mV_5 fv e.2.2.1)), mj_fd (mX_5.map fun e => (e.2.1, e.2.2)), mj_fd (mE_5.map fun e => (e.2.1, e.2.2.1)))
set_option maxRecDepth 100000 in
theorem mr_5 (fv : Value) : mj_Pl mc_cl mj_Ts mc_TY mc_STR (mc_SG fv) mc_EXF mc_PR (mq_5 fv) := ⟨mj_PF_of (own := "SuiteKeeper$Crew") (E := mf_5) (by decide +kernel) (by decide +kernel), mj_PC_of (own := "SuiteKeeper$Crew") (E := mk_5) mc_MM (by decide +kernel) (by decide +kernel), mj_PA_of (own := "SuiteKeeper$Crew") (E := ma_5) (List.forall_mem_cons.mpr ⟨mcO_SuiteKeeper_Slot, fun _ h => absurd h List.not_mem_nil⟩) (by decide +kernel) (by decide +kernel), mj_PI_of (own := "SuiteKeeper$Crew") (E := mi_5) (by decide +kernel), mj_PL_of (own := "SuiteKeeper$Crew") (E := ml_5) (by decide +kernel), mj_PM_of (own := "SuiteKeeper$Crew") (KD := mc_KD) (ob := mo_5) (E := mm_5) (List.forall_mem_cons.mpr ⟨rfl, fun _ h => absurd h List.not_mem_nil⟩) mc_hKD (by decide +kernel) (by decide +kernel), mj_PO_of (own := "SuiteKeeper$Crew") (ob := mo_5) (E := mm_5) (by decide +kernel) (List.forall_mem_cons.mpr ⟨mj_in_Ts (mt_2 _ (List.mem_of_getElem? (i := 36) rfl)) rfl, fun _ h => absurd h List.not_mem_nil⟩) mc_oi mc_oc, mj_PS_of (own := "SuiteKeeper$Crew") (E := mS_5) (by decide +kernel), mj_PG_of (own := "SuiteKeeper$Crew") (E := mG_5) (vs := mV_5 fv) (fun _ h => absurd h List.not_mem_nil) (by decide +kernel), mj_PX_of (own := "SuiteKeeper$Crew") (E := mX_5) (by decide +kernel) (by decide +kernel), mj_PE_of (own := "SuiteKeeper$Crew") (E := mE_5) (by decide +kernel) (by decide +kernel)⟩
