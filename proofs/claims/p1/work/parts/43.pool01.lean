/-! the pool of SuiteKeeper$Tokens -/
def mf_1 : List mj_EF := [(320, false, 9, 1, 0, 1), (0, false, 45, 1, 1, 0), (1, false, 15, 1, 2, 1), (0, false, 19, 1, 3, 1), (0, false, 22, 1, 4, 1), (0, false, 53, 1, 5, 0), (0, false, 92, 1, 6, 0), (0, false, 26, 1, 7, 1), (1, false, 98, 1, 8, 0), (2, false, 101, 1, 9, 0), (1, false, 104, 1, 10, 0), (1, false, 108, 1, 11, 0)]
def mk_1 : List mj_EK := []
def ma_1 : List (Nat × Nat × Nat × String) := []
def mi_1 : List (Nat × Nat × Int32) := []
def ml_1 : List (Nat × Nat × Int64) := []
def mm_1 : List mj_EM := [(269, false, 31, 1, 400, 0, 18), (9, false, 37, 1, 402, 1, 18), (37, true, 41, 0, 1, 3, 0), (570, false, 56, 1, 45, 1, 1), (3, false, 67, 1, 46, 1, 1), (3, true, 49, 0, 3, 2, 0), (2, false, 60, 1, 47, 1, 1), (3, false, 70, 0, 48, 1, 0), (2, false, 74, 1, 49, 1, 1), (3, false, 88, 1, 50, 1, 1), (3, false, 63, 1, 51, 3, 1), (3, false, 77, 0, 52, 1, 0), (2, false, 80, 1, 53, 1, 1), (4, false, 85, 1, 405, 1, 18), (71, false, 95, 1, 55, 0, 1)]
def mo_1 : List (Nat × (Nat × Nat × Nat × Nat)) := [(3, 3, 0, 0, 0)]
def mS_1 : List (Nat × Nat) := [(29, 1), (83, 2)]
def mG_1 : List (Nat × Bool × Nat × String × String × String) := []
def mV_1 (fv : Value) : Nat → Value := fun idx => .null
def mX_1 : List (Nat × Nat × Nat) := []
def mE_1 : List (Nat × Nat × Nat × String × String × String) := []
def mq_1 (fv : Value) : mj_Po := ("SuiteKeeper$Tokens", mj_fd (mf_1.map mj_eF), mj_fd (mk_1.map mj_eK), mj_fd (ma_1.map fun e => (e.2.1, e.2.2.1)), mj_fd (mi_1.map fun e => (e.2.1, e.2.2)), mj_fd (ml_1.map fun e => (e.2.1, e.2.2)), mj_fd (mo_1 ++ mm_1.map mj_eM), mj_fd mS_1, mj_fd (mG_1.map fun e => (e.2.2.1, mV_1 fv e.2.2.1)), mj_fd (mX_1.map fun e => (e.2.1, e.2.2)), mj_fd (mE_1.map fun e => (e.2.1, e.2.2.1)))
set_option maxRecDepth 100000 in
theorem mr_1 (fv : Value) : mj_Pl mc_cl mj_Ts mc_TY mc_STR (mc_SG fv) mc_EXF mc_PR (mq_1 fv) := ⟨mj_PF_of (own := "SuiteKeeper$Tokens") (E := mf_1) (by decide +kernel) (by decide +kernel), mj_PC_of (own := "SuiteKeeper$Tokens") (E := mk_1) mc_MM (by decide +kernel) (by decide +kernel), mj_PA_of (own := "SuiteKeeper$Tokens") (E := ma_1) (fun _ h => absurd h List.not_mem_nil) (by decide +kernel) (by decide +kernel), mj_PI_of (own := "SuiteKeeper$Tokens") (E := mi_1) (by decide +kernel), mj_PL_of (own := "SuiteKeeper$Tokens") (E := ml_1) (by decide +kernel), mj_PM_of (own := "SuiteKeeper$Tokens") (KD := mc_KD) (ob := mo_1) (E := mm_1) (List.forall_mem_cons.mpr ⟨rfl, fun _ h => absurd h List.not_mem_nil⟩) mc_hKD (by decide +kernel) (by decide +kernel), mj_PO_of (own := "SuiteKeeper$Tokens") (ob := mo_1) (E := mm_1) (by decide +kernel) (List.forall_mem_cons.mpr ⟨mj_in_Ts (mt_1 _ (List.mem_of_getElem? (i := 41) rfl)) rfl, fun _ h => absurd h List.not_mem_nil⟩) mc_oi mc_oc, mj_PS_of (own := "SuiteKeeper$Tokens") (E := mS_1) (by decide +kernel), mj_PG_of (own := "SuiteKeeper$Tokens") (E := mG_1) (vs := mV_1 fv) (fun _ h => absurd h List.not_mem_nil) (by decide +kernel), mj_PX_of (own := "SuiteKeeper$Tokens") (E := mX_1) (by decide +kernel) (by decide +kernel), mj_PE_of (own := "SuiteKeeper$Tokens") (E := mE_1) (by decide +kernel) (by decide +kernel)⟩
