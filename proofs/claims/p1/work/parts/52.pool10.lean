/-! the pool of SuiteKeeper$Revision -/
def mf_10 : List mj_EF := [(739, true, 33, 11, 1, 0), (4, true, 36, 11, 2, 0), (7, true, 39, 11, 4, 0), (19, true, 63, 11, 10, 0), (4, true, 62, 11, 11, 0), (43, false, 9, 10, 0, 1), (2, false, 26, 10, 1, 0), (1, false, 17, 10, 2, 1), (0, false, 30, 10, 3, 0), (0, false, 21, 10, 4, 1)]
def mk_10 : List mj_EK := [(729, 15, 11, 16)]
def ma_10 : List (Nat × Nat × Nat × String) := [(729, 15, 4, "SuiteKeeper$Item")]
def mi_10 : List (Nat × Nat × Int32) := []
def ml_10 : List (Nat × Nat × Int64) := []
def mm_10 : List mj_EM := [(731, true, 25, 2, 204, 0, 0), (355, false, 43, 1, 195, 1, 10), (3, false, 47, 1, 196, 1, 10), (3, false, 51, 0, 197, 1, 0), (2, false, 54, 1, 205, 5, 11), (318, true, 66, 0, 13, 5, 0), (68, true, 58, 0, 3, 2, 0)]
def mo_10 : List (Nat × (Nat × Nat × Nat × Nat)) := [(3, 3, 0, 0, 0)]
def mS_10 : List (Nat × Nat) := []
def mG_10 : List (Nat × Bool × Nat × String × String × String) := []
def mV_10 (fv : Value) : Nat → Value := fun idx => .null
def mX_10 : List (Nat × Nat × Nat) := []
def mE_10 : List (Nat × Nat × Nat × String × String × String) := []
def mq_10 (fv : Value) : mj_Po := ("SuiteKeeper$Revision", mj_fd (mf_10.map mj_eF), mj_fd (mk_10.map mj_eK), mj_fd (ma_10.map fun e => (e.2.1, e.2.2.1)), mj_fd (mi_10.map fun e => (e.2.1, e.2.2)), mj_fd (ml_10.map fun e => (e.2.1, e.2.2)), mj_fd (mo_10 ++ mm_10.map mj_eM), mj_fd mS_10, mj_fd (mG_10.map fun e => (e.2.2.1, mV_10 fv e.2.2.1)), mj_fd (mX_10.map fun e => (e.2.1, e.2.2)), mj_fd (mE_10.map fun e => (e.2.1, e.2.2.1)))
set_option maxRecDepth 100000 in
theorem mr_10 (fv : Value) : mj_Pl mc_cl mj_Ts mc_TY mc_STR (mc_SG fv) mc_EXF mc_PR (mq_10 fv) := ⟨mj_PF_of (own := "SuiteKeeper$Revision") (E := mf_10) (by decide +kernel) (by decide +kernel), mj_PC_of (own := "SuiteKeeper$Revision") (E := mk_10) mc_MM (by decide +kernel) (by decide +kernel), mj_PA_of (own := "SuiteKeeper$Revision") (E := ma_10) (List.forall_mem_cons.mpr ⟨mcO_SuiteKeeper_Item, fun _ h => absurd h List.not_mem_nil⟩) (by decide +kernel) (by decide +kernel), mj_PI_of (own := "SuiteKeeper$Revision") (E := mi_10) (by decide +kernel), mj_PL_of (own := "SuiteKeeper$Revision") (E := ml_10) (by decide +kernel), mj_PM_of (own := "SuiteKeeper$Revision") (KD := mc_KD) (ob := mo_10) (E := mm_10) (List.forall_mem_cons.mpr ⟨rfl, fun _ h => absurd h List.not_mem_nil⟩) mc_hKD (by decide +kernel) (by decide +kernel), mj_PO_of (own := "SuiteKeeper$Revision") (ob := mo_10) (E := mm_10) (by decide +kernel) (List.forall_mem_cons.mpr ⟨mj_in_Ts (mt_3 _ (List.mem_of_getElem? (i := 22) rfl)) rfl, fun _ h => absurd h List.not_mem_nil⟩) mc_oi mc_oc, mj_PS_of (own := "SuiteKeeper$Revision") (E := mS_10) (by decide +kernel), mj_PG_of (own := "SuiteKeeper$Revision") (E := mG_10) (vs := mV_10 fv) (fun _ h => absurd h List.not_mem_nil) (by decide +kernel), mj_PX_of (own := "SuiteKeeper$Revision") (E := mX_10) (by decide +kernel) (by decide +kernel), mj_PE_of (own := "SuiteKeeper$Revision") (E := mE_10) (by decide +kernel) (by decide +kernel)⟩
