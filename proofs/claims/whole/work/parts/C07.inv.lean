
/-! ===== what holds between the calls: all of it ===== -/
def INV (cnt M : Nat) (σ : my_S) : Prop := ∃ (cu ol sp : Nat) (As : List Ri) (I : List It) (Bs : List Ri) (I' : List It), itsB As ∧ INVr cnt cu ol sp As I Bs I' σ ∧ INVt σ ∧ INVk cnt cu As I σ ∧ INVd M σ ∧ INVc cu As σ ∧ cwR σ
theorem cwR_o {F : Nat → Nat → Prop} {σ σ' : my_S} (h : cwR σ) (f : eqp F σ σ') (hF : ∀ k, ¬ F 575 k) : cwR σ' := fun c h1 h2 => ((f 575 c (hF c)).2.1).trans (h c h1 h2)
theorem dz_e {a : Nat} (h : 3 ≤ a) : eD my_dz a = 0 := by
  have g : ∀ {j : Nat}, 3 ≤ j → my_dz j = 0 := fun {j} hj => by unfold my_dz; rw [if_neg (by omega), if_neg (by omega)]
  unfold eD
  rw [g h, g (by omega)]
  rfl
theorem dz_8 (j : Nat) : my_dz j = my_dz j &&& 255 := by
  unfold my_dz
  split
  · decide
  · split <;> decide
theorem DSK_0 : DSK my_dz 0 1 [] 1 := by
  refine ⟨⟨by omega, by omega, by omega, by omega⟩, ⟨fun i x hx => by simp at hx, fun c hc => ⟨fun hh => by simp at hh, fun _ => ?_⟩⟩, by decide, by decide, fun _ => ?_, fun c hc => ?_, ?_⟩
  · rw [dz_e (by omega)]; omega
  · rw [dz_e (by omega)]; omega
  · rw [dz_e (by omega)]; omega
  · rw [dz_e (by omega)]; omega
/-- it holds at the start -/
theorem INV_0 {σ : my_S} (h : my_fr2 σ) : INV 0 1 σ := by
  obtain ⟨⟨⟨a1, a2, a3⟩, ⟨a4, a5, a6⟩, a7, ⟨a8, a9, a10⟩, ⟨a11, a12, a13⟩, a14, a15, a16, a17⟩, ⟨⟨r1, r2, r3, r4, r5, r6, r7, r8⟩, ⟨r9, r10, r11, r12⟩, r13, r14, r15⟩, r16, hd, hP, hL, ⟨hV1, hV2, hV3⟩, hK, hR, hC, hb⟩ := h
  refine ⟨108, 238, 368, [], [], [], [], itsB_n, ⟨⟨a1, r1, by omega⟩, ⟨by omega, by omega, by omega, by omega, by omega, by omega⟩, ?_, ⟨a4, a5, a6⟩, fun _ => ⟨r3, r6⟩, fun hh => by omega, fun _ => rfl, fun hh => by omega⟩, ⟨⟨fun _ => 0, 0, ⟨by omega, fun j hj => by omega⟩, ⟨a7, fun j hj => by omega⟩, ⟨r5, fun j hj => by omega⟩⟩, fun j hj => hK j hj, fun j hj => hR j hj⟩, ⟨⟨some (0, 0), r7, r8⟩, fun v hv => Or.inl (hb v hv), ⟨0, 0, by omega, by omega, r4, r16⟩, Or.inl ⟨a2, r2⟩⟩, ⟨my_dz, 0, 1, [], 0, ⟨DSK_0, ⟨trivial, by decide⟩, (fun y hy => by cases hy)⟩, ⟨fun i hi => (hd i hi).1, ?_, a11, a15, hL 0 (by omega), hL 1 (by omega), a12⟩, ⟨fun i hi => ((hd i hi).2).trans (dz_8 i), ⟨r11, (fun i x hx => by cases hx)⟩, r9, r10, r12⟩, a13.trans r14.symm, a3.trans r15.symm⟩, ⟨fun i => 65 + 2 * i, ⟨fun i hi => ⟨i, hi, rfl⟩, fun i i' h1 h2 hh => ?_⟩, fun i hi => hP i hi, Or.inl ⟨a10, a8, r13, 0, by omega, a9⟩⟩, fun c h1 h2 => ?_⟩
  · intro rv hrv k hk
    rcases hrv with rfl | rfl | rfl
    · exact hV1 k hk
    · exact hV2 k hk
    · exact hV3 k hk
  · exact ⟨a14, (fun i x hx => by cases hx), ⟨a16, (fun j y hy => by cases hy)⟩, a17, (fun j y hy => by cases hy)⟩
  · have hh' : 65 + 2 * i = 65 + 2 * i' := hh
    omega
  · rw [hC c (by omega)]
    unfold wC
    rw [if_neg (by omega)]
