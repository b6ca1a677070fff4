/-! the pool of java/lang/Math -/
def mf_13 : List mj_EF := []
def mk_13 : List mj_EK := []
def ma_13 : List (Nat × Nat × Nat × String) := []
def mi_13 : List (Nat × Nat × Int32) := []
def ml_13 : List (Nat × Nat × Int64) := []
def mm_13 : List mj_EM := []
def mo_13 : List (Nat × (Nat × Nat × Nat × Nat)) := []
def mS_13 : List (Nat × Nat) := []
def mG_13 : List (Nat × Bool × Nat × String × String × String) := []
def mV_13 (fv : Value) : Nat → Value := fun idx => .null
def mX_13 : List (Nat × Nat × Nat) := []
def mE_13 : List (Nat × Nat × Nat × String × String × String) := []
def mq_13 (fv : Value) : mj_Po := ("java/lang/Math", mj_fd (mf_13.map mj_eF), mj_fd (mk_13.map mj_eK), mj_fd (ma_13.map fun e => (e.2.1, e.2.2.1)), mj_fd (mi_13.map fun e => (e.2.1, e.2.2)), mj_fd (ml_13.map fun e => (e.2.1, e.2.2)), mj_fd (mo_13 ++ mm_13.map mj_eM), mj_fd mS_13, mj_fd (mG_13.map fun e => (e.2.2.1, mV_13 fv e.2.2.1)), mj_fd (mX_13.map fun e => (e.2.1, e.2.2)), mj_fd (mE_13.map fun e => (e.2.1, e.2.2.1)))
set_option maxRecDepth 100000 in
theorem mr_13 (fv : Value) : mj_Pl mc_cl mj_Ts mc_TY mc_STR (mc_SG fv) mc_EXF mc_PR (mq_13 fv) := ⟨mj_PF_of (own := "java/lang/Math") (E := mf_13) (by decide +kernel) (by decide +kernel), mj_PC_of (own := "java/lang/Math") (E := mk_13) mc_MM (by decide +kernel) (by decide +kernel), mj_PA_of (own := "java/lang/Math") (E := ma_13) (fun _ h => absurd h List.not_mem_nil) (by decide +kernel) (by decide +kernel), mj_PI_of (own := "java/lang/Math") (E := mi_13) (by decide +kernel), mj_PL_of (own := "java/lang/Math") (E := ml_13) (by decide +kernel), mj_PM_of (own := "java/lang/Math") (KD := mc_KD) (ob := mo_13) (E := mm_13) (fun _ h => absurd h List.not_mem_nil) mc_hKD (by decide +kernel) (by decide +kernel), mj_PO_of (own := "java/lang/Math") (ob := mo_13) (E := mm_13) (by decide +kernel) (fun _ h => absurd h List.not_mem_nil) mc_oi mc_oc, mj_PS_of (own := "java/lang/Math") (E := mS_13) (by decide +kernel), mj_PG_of (own := "java/lang/Math") (E := mG_13) (vs := mV_13 fv) (fun _ h => absurd h List.not_mem_nil) (by decide +kernel), mj_PX_of (own := "java/lang/Math") (E := mX_13) (by decide +kernel) (by decide +kernel), mj_PE_of (own := "java/lang/Math") (E := mE_13) (by decide +kernel) (by decide +kernel)⟩
