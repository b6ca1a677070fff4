/-! the pool of java/lang/String -/
def mf_15 : List mj_EF := []
def mk_15 : List mj_EK := []
def ma_15 : List (Nat × Nat × Nat × String) := []
def mi_15 : List (Nat × Nat × Int32) := []
def ml_15 : List (Nat × Nat × Int64) := []
def mm_15 : List mj_EM := [(273, false, 335, 1, 401, 0, 18), (9, false, 492, 1, 403, 0, 18), (3, false, 495, 0, 407, 2, 0), (7, false, 1059, 0, 411, 3, 0), (634, false, 633, 1, 406, 2, 18), (3, false, 505, 1, 400, 0, 18), (0, false, 637, 0, 408, 4, 0)]
def mo_15 : List (Nat × (Nat × Nat × Nat × Nat)) := []
def mS_15 : List (Nat × Nat) := []
def mG_15 : List (Nat × Bool × Nat × String × String × String) := [(277, false, 38, "java/lang/String", "COMPACT_STRINGS", "Z"), (15, false, 1053, "jdk/internal/util/Preconditions", "SIOOBE_FORMATTER", "Ljava/util/function/BiFunction;")]
def mV_15 (fv : Value) : Nat → Value := fun idx => if idx = 1053 then fv else if idx = 38 then .int 1 else .null
def mX_15 : List (Nat × Nat × Nat) := []
def mE_15 : List (Nat × Nat × Nat × String × String × String) := [(3113, 9, 0, "java/lang/String", "value", "[B"), (0, 15, 1, "java/lang/String", "coder", "B")]
def mq_15 (fv : Value) : mj_Po := ("java/lang/String", mj_fd (mf_15.map mj_eF), mj_fd (mk_15.map mj_eK), mj_fd (ma_15.map fun e => (e.2.1, e.2.2.1)), mj_fd (mi_15.map fun e => (e.2.1, e.2.2)), mj_fd (ml_15.map fun e => (e.2.1, e.2.2)), mj_fd (mo_15 ++ mm_15.map mj_eM), mj_fd mS_15, mj_fd (mG_15.map fun e => (e.2.2.1, mV_15 fv e.2.2.1)), mj_fd (mX_15.map fun e => (e.2.1, e.2.2)), mj_fd (mE_15.map fun e => (e.2.1, e.2.2.1)))
set_option maxRecDepth 100000 in
theorem mr_15 (fv : Value) : mj_Pl mc_cl mj_Ts mc_TY mc_STR (mc_SG fv) mc_EXF mc_PR (mq_15 fv) := ⟨mj_PF_of (own := "java/lang/String") (E := mf_15) (by decide +kernel) (by decide +kernel), mj_PC_of (own := "java/lang/String") (E := mk_15) mc_MM (by decide +kernel) (by decide +kernel), mj_PA_of (own := "java/lang/String") (E := ma_15) (fun _ h => absurd h List.not_mem_nil) (by decide +kernel) (by decide +kernel), mj_PI_of (own := "java/lang/String") (E := mi_15) (by decide +kernel), mj_PL_of (own := "java/lang/String") (E := ml_15) (by decide +kernel), mj_PM_of (own := "java/lang/String") (KD := mc_KD) (ob := mo_15) (E := mm_15) (fun _ h => absurd h List.not_mem_nil) mc_hKD (by decide +kernel) (by decide +kernel), mj_PO_of (own := "java/lang/String") (ob := mo_15) (E := mm_15) (by decide +kernel) (fun _ h => absurd h List.not_mem_nil) mc_oi mc_oc, mj_PS_of (own := "java/lang/String") (E := mS_15) (by decide +kernel), mj_PG_of (own := "java/lang/String") (E := mG_15) (vs := mV_15 fv) (List.forall_mem_cons.mpr ⟨List.mem_of_getElem? (i := 1) rfl, List.forall_mem_cons.mpr ⟨List.mem_of_getElem? (i := 2) rfl, fun _ h => absurd h List.not_mem_nil⟩⟩) (by decide +kernel), mj_PX_of (own := "java/lang/String") (E := mX_15) (by decide +kernel) (by decide +kernel), mj_PE_of (own := "java/lang/String") (E := mE_15) (by decide +kernel) (by decide +kernel)⟩
