
/-! ===== the class: enterTouched, all kinds ===== -/
section MCU
variable {As : List Ri} {I : List It} {rv A a kt : Nat} {e : my_E} {d : Nat} {κ : my_K} {σ σ' : my_S} {Q : my_O → my_K → my_S → Prop} {E E' : List Et} {s : Ms}
theorem WX_92 {F : Nat → Nat → Prop} (hA : lg2 A) (h : WX A E E' σ) (f : eqp F σ σ') (hF : ∀ c k, F c k → c = 92 ∨ c = 93) : WX A E E' σ' := by
  have hA' := hA
  unfold lg2 at hA'
  obtain ⟨w1, w2⟩ := h
  refine ⟨w1, ?_⟩
  rcases w2 with ⟨p1, p2, p3⟩ | ⟨p0, B, L, R, b1, b2, b3, b4, b5, b6, b7, b8⟩
  · exact Or.inl ⟨p1, LgC_o p2 f (fun c k hh => by have := hF c k hh; omega), (eqp_g f (fun hh => by have := hF _ _ hh; omega)).trans p3⟩
  · exact Or.inr ⟨p0, B, L, R, b1, WB_o b2 f (fun c k hh => by have := hF c k hh; unfold wbF; omega), NI_o b3 f (fun c k hh => by have := hF c k hh; omega), b4, NR_o b5 f (fun c k hh => by have := hF c k hh; omega), b6, b7, b8⟩
theorem c_162 (hA : lg2 A) (hU : nmU As) (ha : 65 ≤ a ∧ a < 88) (h : LD As I rv σ) (hS : SlC rv a kt s σ) (hX : WX A E E' σ) (hd : 4 ≤ d) (hQ : ∀ σ' ws, WX A E (adM As I (tls As s) E').1 σ' → OcT ws σ' → ws.length = (tls As s).length → (els (adM As I (tls As s) E').1 ≤ 7747 → ws = (adM As I (tls As s) E').2.map Int32.ofNat) → eqp (ctF A) σ σ' → Q (.inl none) κ σ') : my_M e d 162 [.inr (.inr (some 89)), .inr (.inr (some A)), .inr (.inr (some rv)), .inr (.inr (some a))] κ σ Q := by
  obtain ⟨d, rfl⟩ := dS 1 (show 1 ≤ d by omega)
  have hA' := hA
  unfold lg2 at hA'
  have hrv := h.2.2.1
  have c0 : cnK As 0 ≤ 10 := h.1.1 0
  have c1 : cnK As 1 ≤ 4 := h.1.1 1
  have c2 : cnK As 2 ≤ 16 := h.1.1 2
  have l0 := tl2_l (As := As) (s := s) (kd := 0) (m := cnK As 0) (n := 0)
  have l1 := tl2_l (As := As) (s := s) (kd := 1) (m := cnK As 1) (n := 0)
  refine ys_162 ?_
  unfold ys_162_0
  have f0 : eqp (fun c k => c = 92 ∧ k = 7) σ (my_uI σ 92 7 0) := eqp_I eqp_rf ⟨rfl, rfl⟩
  have o0 : OcT [] (my_uI σ 92 7 0) := ⟨uI_s, fun j w hj => by simp at hj⟩
  generalize my_uI σ 92 7 0 = σ0 at f0 o0 ⊢
  have x0 := WX_92 hA hX f0 (fun c k hh => Or.inl hh.1)
  have g0 : eqp (ctF A) σ σ0 := eqp_mo f0 (fun c k hh => Or.inr (Or.inl hh))
  refine ys_162_11_ok ?_
  unfold ys_162_11
  rw [if_pos (by decide)]
  refine ys_162_20_ok (c_162l (kd := 0) (E := E) hA hU (by omega) ha h hS (by omega) (cnK As 0) 0 E' [] σ0 (Nat.zero_add _) (by simp; omega) x0 o0 g0 (fun σ1 ws1 x1 o1 n1 q1 g1 => ?_))
  unfold ys_162_11
  rw [if_pos (show Int32.ofNat (0 + 1) < 3 by decide)]
  have n1 : ws1.length = (tl2 As s 0 (cnK As 0) 0).length := by simpa using n1
  refine ys_162_20_ok (c_162l (kd := 1) (E := E) hA hU (by omega) ha h hS (by omega) (cnK As 1) 0 _ ws1 σ1 (Nat.zero_add _) (by omega) x1 o1 g1 (fun σ2 ws2 x2 o2 n2 q2 g2 => ?_))
  unfold ys_162_11
  rw [if_pos (show Int32.ofNat (1 + 1) < 3 by decide)]
  refine ys_162_20_ok (c_162l (kd := 2) (E := E) hA hU (by omega) ha h hS (by omega) (cnK As 2) 0 _ ws2 σ2 (Nat.zero_add _) (by omega) x2 o2 g2 (fun σ3 ws3 x3 o3 n3 q3 g3 => ?_))
  unfold ys_162_11
  rw [if_neg (show ¬ Int32.ofNat (2 + 1) < 3 by decide)]
  have ea : adM As I (tls As s) E' = ((adM As I (tl2 As s 2 (cnK As 2) 0) (adM As I (tl2 As s 1 (cnK As 1) 0) (adM As I (tl2 As s 0 (cnK As 0) 0) E').1).1).1, (adM As I (tl2 As s 0 (cnK As 0) 0) E').2 ++ ((adM As I (tl2 As s 1 (cnK As 1) 0) (adM As I (tl2 As s 0 (cnK As 0) 0) E').1).2 ++ (adM As I (tl2 As s 2 (cnK As 2) 0) (adM As I (tl2 As s 1 (cnK As 1) 0) (adM As I (tl2 As s 0 (cnK As 0) 0) E').1).1).2)) := by
    unfold tls
    rw [adM_a, adM_a]
  rw [ea] at hQ
  refine hQ σ3 ws3 x3 o3 ?_ (fun hh => ?_) g3
  · unfold tls
    rw [List.length_append, List.length_append]
    omega
  · have gg2 := adM_g (As := As) (I := I) (ks := tl2 As s 2 (cnK As 2) 0) (E := (adM As I (tl2 As s 1 (cnK As 1) 0) (adM As I (tl2 As s 0 (cnK As 0) 0) E').1).1)
    have gg1 := adM_g (As := As) (I := I) (ks := tl2 As s 1 (cnK As 1) 0) (E := (adM As I (tl2 As s 0 (cnK As 0) 0) E').1)
    dsimp only at hh
    rw [q3 hh, q2 (by omega), q1 (by omega)]
    rw [List.nil_append, List.map_append, List.map_append, List.append_assoc]
end MCU
