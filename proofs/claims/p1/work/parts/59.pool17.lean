/-! the pool of jdk/internal/util/Preconditions -/
def mf_17 : List mj_EF := []
def mk_17 : List mj_EK := []
def ma_17 : List (Nat × Nat × Nat × String) := []
def mi_17 : List (Nat × Nat × Int32) := []
def ml_17 : List (Nat × Nat × Int64) := []
def mm_17 : List mj_EM := []
def mo_17 : List (Nat × (Nat × Nat × Nat × Nat)) := []
def mS_17 : List (Nat × Nat) := []
def mG_17 : List (Nat × Bool × Nat × String × String × String) := []
def mV_17 (fv : Value) : Nat → Value := fun idx => .null
def mX_17 : List (Nat × Nat × Nat) := []
def mE_17 : List (Nat × Nat × Nat × String × String × String) := []
def mq_17 (fv : Value) : mj_Po := ("jdk/internal/util/Preconditions", mj_fd (mf_17.map mj_eF), mj_fd (mk_17.map mj_eK), mj_fd (ma_17.map fun e => (e.2.1, e.2.2.1)), mj_fd (mi_17.map fun e => (e.2.1, e.2.2)), mj_fd (ml_17.map fun e => (e.2.1, e.2.2)), mj_fd (mo_17 ++ mm_17.map mj_eM), mj_fd mS_17, mj_fd (mG_17.map fun e => (e.2.2.1, mV_17 fv e.2.2.1)), mj_fd (mX_17.map fun e => (e.2.1, e.2.2)), mj_fd (mE_17.map fun e => (e.2.1, e.2.2.1)))
set_option maxRecDepth 100000 in
theorem mr_17 (fv : Value) : mj_Pl mc_cl mj_Ts mc_TY mc_STR (mc_SG fv) mc_EXF mc_PR (mq_17 fv) := ⟨mj_PF_of (own := "jdk/internal/util/Preconditions") (E := mf_17) (by decide +kernel) (by decide +kernel), mj_PC_of (own := "jdk/internal/util/Preconditions") (E := mk_17) mc_MM (by decide +kernel) (by decide +kernel), mj_PA_of (own := "jdk/internal/util/Preconditions") (E := ma_17) (fun _ h => absurd h List.not_mem_nil) (by decide +kernel) (by decide +kernel), mj_PI_of (own := "jdk/internal/util/Preconditions") (E := mi_17) (by decide +kernel), mj_PL_of (own := "jdk/internal/util/Preconditions") (E := ml_17) (by decide +kernel), mj_PM_of (own := "jdk/internal/util/Preconditions") (KD := mc_KD) (ob := mo_17) (E := mm_17) (fun _ h => absurd h List.not_mem_nil) mc_hKD (by decide +kernel) (by decide +kernel), mj_PO_of (own := "jdk/internal/util/Preconditions") (ob := mo_17) (E := mm_17) (by decide +kernel) (fun _ h => absurd h List.not_mem_nil) mc_oi mc_oc, mj_PS_of (own := "jdk/internal/util/Preconditions") (E := mS_17) (by decide +kernel), mj_PG_of (own := "jdk/internal/util/Preconditions") (E := mG_17) (vs := mV_17 fv) (fun _ h => absurd h List.not_mem_nil) (by decide +kernel), mj_PX_of (own := "jdk/internal/util/Preconditions") (E := mX_17) (by decide +kernel) (by decide +kernel), mj_PE_of (own := "jdk/internal/util/Preconditions") (E := mE_17) (by decide +kernel) (by decide +kernel)⟩
