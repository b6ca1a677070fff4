/-! the pool of SuiteKeeper$Item -/
def mf_11 : List mj_EF := [(736, false, 19, 11, 0, 0), (1, false, 27, 11, 1, 0), (4, false, 30, 11, 2, 0), (3, false, 33, 11, 3, 0), (1, false, 23, 11, 4, 0), (5, false, 36, 11, 5, 0), (2, false, 9, 11, 6, 1), (0, false, 39, 11, 7, 0), (1, false, 42, 11, 8, 0), (3, false, 45, 11, 9, 0), (2, false, 48, 11, 10, 0), (4, false, 51, 11, 11, 0), (4, false, 54, 11, 12, 0), (4, false, 57, 11, 13, 0), (1, false, 60, 11, 14, 0), (1, false, 15, 11, 15, 1)]
def mk_11 : List mj_EK := []
def ma_11 : List (Nat × Nat × Nat × String) := [(735, 10, 4, "SuiteKeeper$Item")]
def mi_11 : List (Nat × Nat × Int32) := []
def ml_11 : List (Nat × Nat × Int64) := []
def mm_11 : List mj_EM := []
def mo_11 : List (Nat × (Nat × Nat × Nat × Nat)) := [(3, 3, 0, 0, 0)]
def mS_11 : List (Nat × Nat) := []
def mG_11 : List (Nat × Bool × Nat × String × String × String) := []
def mV_11 (fv : Value) : Nat → Value := fun idx => .null
def mX_11 : List (Nat × Nat × Nat) := []
def mE_11 : List (Nat × Nat × Nat × String × String × String) := []
def mq_11 (fv : Value) : mj_Po := ("SuiteKeeper$Item", mj_fd (mf_11.map mj_eF), mj_fd (mk_11.map mj_eK), mj_fd (ma_11.map fun e => (e.2.1, e.2.2.1)), mj_fd (mi_11.map fun e => (e.2.1, e.2.2)), mj_fd (ml_11.map fun e => (e.2.1, e.2.2)), mj_fd (mo_11 ++ mm_11.map mj_eM), mj_fd mS_11, mj_fd (mG_11.map fun e => (e.2.2.1, mV_11 fv e.2.2.1)), mj_fd (mX_11.map fun e => (e.2.1, e.2.2)), mj_fd (mE_11.map fun e => (e.2.1, e.2.2.1)))
set_option maxRecDepth 100000 in
theorem mr_11 (fv : Value) : mj_Pl mc_cl mj_Ts mc_TY mc_STR (mc_SG fv) mc_EXF mc_PR (mq_11 fv) := ⟨mj_PF_of (own := "SuiteKeeper$Item") (E := mf_11) (by decide +kernel) (by decide +kernel), mj_PC_of (own := "SuiteKeeper$Item") (E := mk_11) mc_MM (by decide +kernel) (by decide +kernel), mj_PA_of (own := "SuiteKeeper$Item") (E := ma_11) (List.forall_mem_cons.mpr ⟨mcO_SuiteKeeper_Item, fun _ h => absurd h List.not_mem_nil⟩) (by decide +kernel) (by decide +kernel), mj_PI_of (own := "SuiteKeeper$Item") (E := mi_11) (by decide +kernel), mj_PL_of (own := "SuiteKeeper$Item") (E := ml_11) (by decide +kernel), mj_PM_of (own := "SuiteKeeper$Item") (KD := mc_KD) (ob := mo_11) (E := mm_11) (List.forall_mem_cons.mpr ⟨rfl, fun _ h => absurd h List.not_mem_nil⟩) mc_hKD (by decide +kernel) (by decide +kernel), mj_PO_of (own := "SuiteKeeper$Item") (ob := mo_11) (E := mm_11) (by decide +kernel) (List.forall_mem_cons.mpr ⟨mj_in_Ts (mt_3 _ (List.mem_of_getElem? (i := 28) rfl)) rfl, fun _ h => absurd h List.not_mem_nil⟩) mc_oi mc_oc, mj_PS_of (own := "SuiteKeeper$Item") (E := mS_11) (by decide +kernel), mj_PG_of (own := "SuiteKeeper$Item") (E := mG_11) (vs := mV_11 fv) (fun _ h => absurd h List.not_mem_nil) (by decide +kernel), mj_PX_of (own := "SuiteKeeper$Item") (E := mX_11) (by decide +kernel) (by decide +kernel), mj_PE_of (own := "SuiteKeeper$Item") (E := mE_11) (by decide +kernel) (by decide +kernel)⟩
