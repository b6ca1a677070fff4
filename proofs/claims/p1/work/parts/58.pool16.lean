/-! the pool of java/lang/StringLatin1 -/
def mf_16 : List mj_EF := []
def mk_16 : List mj_EK := []
def ma_16 : List (Nat × Nat × Nat × String) := []
def mi_16 : List (Nat × Nat × Int32) := []
def ml_16 : List (Nat × Nat × Int64) := []
def mm_16 : List mj_EM := [(290, false, 9, 0, 404, 2, 0), (647, false, 88, 0, 409, 1, 0), (8, false, 95, 0, 410, 4, 0)]
def mo_16 : List (Nat × (Nat × Nat × Nat × Nat)) := []
def mS_16 : List (Nat × Nat) := []
def mG_16 : List (Nat × Bool × Nat × String × String × String) := []
def mV_16 (fv : Value) : Nat → Value := fun idx => .null
def mX_16 : List (Nat × Nat × Nat) := []
def mE_16 : List (Nat × Nat × Nat × String × String × String) := []
def mq_16 (fv : Value) : mj_Po := ("java/lang/StringLatin1", mj_fd (mf_16.map mj_eF), mj_fd (mk_16.map mj_eK), mj_fd (ma_16.map fun e => (e.2.1, e.2.2.1)), mj_fd (mi_16.map fun e => (e.2.1, e.2.2)), mj_fd (ml_16.map fun e => (e.2.1, e.2.2)), mj_fd (mo_16 ++ mm_16.map mj_eM), mj_fd mS_16, mj_fd (mG_16.map fun e => (e.2.2.1, mV_16 fv e.2.2.1)), mj_fd (mX_16.map fun e => (e.2.1, e.2.2)), mj_fd (mE_16.map fun e => (e.2.1, e.2.2.1)))
set_option maxRecDepth 100000 in
theorem mr_16 (fv : Value) : mj_Pl mc_cl mj_Ts mc_TY mc_STR (mc_SG fv) mc_EXF mc_PR (mq_16 fv) := ⟨mj_PF_of (own := "java/lang/StringLatin1") (E := mf_16) (by decide +kernel) (by decide +kernel), mj_PC_of (own := "java/lang/StringLatin1") (E := mk_16) mc_MM (by decide +kernel) (by decide +kernel), mj_PA_of (own := "java/lang/StringLatin1") (E := ma_16) (fun _ h => absurd h List.not_mem_nil) (by decide +kernel) (by decide +kernel), mj_PI_of (own := "java/lang/StringLatin1") (E := mi_16) (by decide +kernel), mj_PL_of (own := "java/lang/StringLatin1") (E := ml_16) (by decide +kernel), mj_PM_of (own := "java/lang/StringLatin1") (KD := mc_KD) (ob := mo_16) (E := mm_16) (fun _ h => absurd h List.not_mem_nil) mc_hKD (by decide +kernel) (by decide +kernel), mj_PO_of (own := "java/lang/StringLatin1") (ob := mo_16) (E := mm_16) (by decide +kernel) (fun _ h => absurd h List.not_mem_nil) mc_oi mc_oc, mj_PS_of (own := "java/lang/StringLatin1") (E := mS_16) (by decide +kernel), mj_PG_of (own := "java/lang/StringLatin1") (E := mG_16) (vs := mV_16 fv) (fun _ h => absurd h List.not_mem_nil) (by decide +kernel), mj_PX_of (own := "java/lang/StringLatin1") (E := mX_16) (by decide +kernel) (by decide +kernel), mj_PE_of (own := "java/lang/StringLatin1") (E := mE_16) (by decide +kernel) (by decide +kernel)⟩
