
/-! ===== what holds of texts and revisions between the calls ===== -/
/-- the text, the words -/
def INVt (σ : my_S) : Prop := (∃ t n, txt t n ∧ txC t n σ ∧ txR t n σ) ∧ kwC σ ∧ kwR σ
/-- the three revisions -/
def tri (cu ol sp : Nat) : Prop := (cu = 108 ∨ cu = 238 ∨ cu = 368) ∧ (ol = 108 ∨ ol = 238 ∨ ol = 368) ∧ (sp = 108 ∨ sp = 238 ∨ sp = 368) ∧ cu ≠ ol ∧ cu ≠ sp ∧ ol ≠ sp
def rfs (σ : my_S) : Prop := ∀ rv, (rv = 108 ∨ rv = 238 ∨ rv = 368) → ∀ k, k < 42 → σ.2.2 (rv + 2) k = some (rv + 4 + 3 * k)
/-- cnt loads; what is loaded, what was before -/
def INVr (cnt cu ol sp : Nat) (As : List Ri) (I : List It) (Bs : List Ri) (I' : List It) (σ : my_S) : Prop :=
  (σ.1 32 10 = Int32.ofNat cnt ∧ σ.1 498 65 = Int32.ofNat cnt ∧ cnt < 2000000000) ∧ tri cu ol sp ∧ rfs σ ∧ (σ.2.2 32 7 = some cu ∧ σ.2.2 32 8 = some ol ∧ σ.2.2 32 9 = some sp) ∧
  (cnt = 0 → σ.1 498 124 = 0 ∧ σ.1 498 57 = 0) ∧
  (1 ≤ cnt → LOf As I ∧ RevC I As cu σ ∧ NowR I As σ ∧ OLB Bs I' σ) ∧
  (cnt ≤ 1 → Bs = []) ∧ (2 ≤ cnt → LOf Bs I' ∧ RevC I' Bs ol σ)
section MIN
variable {e : my_E} {κ : my_K} {σ : my_S} {Q : my_O → my_K → my_S → Prop} {As Bs : List Ri} {I I' : List It} {cnt cu ol sp : Nat} {v4 : Int32}
theorem itsB_n : itsB [] := ⟨fun k => by simp [cnK], by simp⟩
/-- what the answering ops want of it -/
theorem INVr_LD (h : INVr cnt cu ol sp As I Bs I' σ) (hc : 1 ≤ cnt) : LD As I cu σ := by
  obtain ⟨⟨h1, h2, h3⟩, h4, h5, ⟨h6, _⟩, _, h8, _⟩ := h
  obtain ⟨⟨t, n, _, _, hB, hrel, _⟩, hR, hN, _⟩ := h8 hc
  refine ⟨hB, hrel, h4.1, ?_, ?_, h6, hR, hN⟩
  · rw [h1]; intro hh; have := (oN_e (b := 0) (by omega) (by omega)).mp hh; omega
  · rw [h2]; intro hh; have := (oN_e (b := 0) (by omega) (by omega)).mp hh; omega
theorem INVr_OLC (h : INVr cnt cu ol sp As I Bs I' σ) : OLC Bs I' ol σ := by
  obtain ⟨⟨h1, h2, h3⟩, h4, h5, ⟨h6, h7, _⟩, _, h8, h9, h10⟩ := h
  have hlt : ∀ {c : Nat}, c < 2147483648 → ((1 : Int32) < Int32.ofNat c ↔ 1 < c) := fun hc => oN_lt (p := 1) (by omega) hc
  by_cases hc : cnt ≤ 1
  · exact Or.inl ⟨by rw [h1, hlt (by omega)]; omega, h9 hc⟩
  · obtain ⟨⟨t, n, _, _, hB, hrel, _⟩, hR⟩ := h10 (by omega)
    exact Or.inr ⟨by rw [h1, hlt (by omega)]; omega, h7, h4.2.1, hB, hrel, hR⟩
theorem INVr_B (h : INVr cnt cu ol sp As I Bs I' σ) : itsB Bs := by
  by_cases hc : cnt ≤ 1
  · rw [h.2.2.2.2.2.2.1 hc]; exact itsB_n
  · obtain ⟨⟨t, n, _, _, hB, _⟩, _⟩ := h.2.2.2.2.2.2.2 (by omega)
    exact hB
/-- load keeps it -/
theorem l_2i (h : INVr cnt cu ol sp As I Bs I' σ) (ht : INVt σ) (hcn : cnt < 1000000000) (hκ : 1 ≤ κ.2.1 ∧ 6 ≤ κ.2.2)
    (hn1 : ∀ κ' σ', (κ' = κ ∨ κ' = (κ.1 + 1, κ.2.1 - 1, κ.2.2 - 6)) → INVr cnt cu ol sp As I Bs I' σ' → INVt σ' → eqp (fun c k => clF sp c k ∨ ldF c k) σ σ' → ys_law_1663 e 1049 v4 κ' σ' Q)
    (hn2 : ∀ As' J σ', INVr (cnt + 1) sp cu ol As' J (if cnt = 0 then [] else As) (if cnt = 0 then [] else I) σ' → INVt σ' → σ'.1 32 11 = 0 → σ'.1 62 2 = 0 → σ'.1 62 4 = 0 → σ'.1 498 107 = Int32.ofInt (-1) → σ'.1 498 133 = 0 → eqp (fun c k => clG sp c k ∨ lgF c k) σ σ' → ys_law_1663 e 1049 v4 κ σ' Q) : ys_law_244 e 1049 v4 κ σ Q := by
  obtain ⟨⟨t, n, htx, hxC, hxR⟩, hwC, hwR⟩ := ht
  obtain ⟨⟨h1, h2, h3⟩, h4, h5, ⟨h6, h7, h7'⟩, h8, h9, h10, h11⟩ := h
  have i0 : ∀ c : Nat, c < 2000000000 → (Int32.ofNat c = 0 ↔ c = 0) := fun c hc => oN_e (b := 0) (by omega) (by omega)
  have hm : ∃ m0 l0, (if σ.1 498 65 = 0 then 0 else σ.1 498 49) = Int32.ofNat m0 ∧ m0 ≤ 48 ∧ σ.1 498 57 = Int32.ofNat l0 ∧ l0 ≤ 20000 ∧ (cnt = 0 → m0 = 0) ∧ (1 ≤ cnt → m0 = As.length ∧ l0 = (ibA I 0 As).length) := by
    by_cases hc : cnt = 0
    · refine ⟨0, 0, ?_, by omega, (h8 hc).2, by omega, fun _ => rfl, fun hh => by omega⟩
      rw [h2, if_pos ((i0 cnt (by omega)).mpr hc)]
      rfl
    · obtain ⟨⟨_, _, _, _, hB, _, _⟩, hR, hN, _⟩ := h9 (by omega)
      have h42 := itsB_42 hB
      refine ⟨As.length, (ibA I 0 As).length, ?_, by omega, hN.1.1, by have := hR.2.2.2.1; omega, fun hh => absurd hh hc, fun _ => ⟨rfl, rfl⟩⟩
      rw [h2, if_neg (fun hh => hc ((i0 cnt (by omega)).mp hh))]
      exact hN.2.2.1
  obtain ⟨m0, l0, e1, e2, e3, e4, e5, e6⟩ := hm
  have hcs := h4.1
  have hos := h4.2.1
  have hss := h4.2.2.1
  have hne := h4.2.2.2
  refine l_2 htx hxC hxR hwC hwR hκ hss h7' (h5 sp hss) e1 e2 e3 e4 (fun κ' σ' hk z1 z2 f => ?_) (fun As' J σ' hL hRev hNow hOld z1 z2 a7 a8 a9 a10 a11 b2 b4 u65 u107 u133 f => ?_)
  · have g : ∀ {c k}, ¬ clF sp c k → ¬ ldF c k → ¬ (clF sp c k ∨ ldF c k) := fun p q hh => by rcases hh with hh | hh; exact p hh; exact q hh
    have gi : ∀ {c k}, ¬ (clF sp c k ∨ ldF c k) → σ'.1 c k = σ.1 c k := fun p => eqp_g f p
    have ga : ∀ {c k}, ¬ (clF sp c k ∨ ldF c k) → σ'.2.2 c k = σ.2.2 c k := fun {c k} p => (f c k p).2.2
    refine hn1 κ' σ' hk ⟨⟨(gi (by unfold clF ldF; omega)).trans h1, (gi (by unfold clF ldF; omega)).trans h2, h3⟩, h4, fun rv hrv k hk2 => (ga (by unfold clF ldF; omega)).trans (h5 rv hrv k hk2), ⟨(ga (by unfold clF ldF; omega)).trans h6, (ga (by unfold clF ldF; omega)).trans h7, (ga (by unfold clF ldF; omega)).trans h7'⟩, fun hc => ⟨(gi (by unfold clF ldF; omega)).trans (h8 hc).1, (gi (by unfold clF ldF; omega)).trans (h8 hc).2⟩, fun hc => ?_, h10, fun hc => ?_⟩ ⟨⟨t, 0, ⟨by omega, fun j hj => by omega⟩, ⟨z1, fun j hj => by omega⟩, ⟨z2, fun j hj => by omega⟩⟩, fun j hj => ((f 38 j (by unfold clF ldF; omega)).2.1).trans (hwC j hj), fun j hj => ((f 500 j (by unfold clF ldF; omega)).2.1).trans (hwR j hj)⟩ f
    · obtain ⟨hL, hR, hN, hO⟩ := h9 hc
      have hrel := hL
      obtain ⟨_, _, _, _, hB, hrel, _⟩ := hrel
      have hLD : LD As I cu σ := INVr_LD ⟨⟨h1, h2, h3⟩, h4, h5, ⟨h6, h7, h7'⟩, h8, h9, h10, h11⟩ hc
      exact ⟨hL, RevC_o hrel hR f (fun c k hh => by unfold clF ldF at hh; omega), NowR_o hB hrel (LD_30 hLD) hN f (fun c k hh => by unfold clF ldF at hh; unfold coF; omega), OLB_o hO f (fun c k hh => by unfold clF ldF at hh; omega)⟩
    · obtain ⟨hL, hR⟩ := h11 hc
      have hrel := hL
      obtain ⟨_, _, _, _, hB, hrel, _⟩ := hrel
      exact ⟨hL, RevC_o hrel hR f (fun c k hh => by unfold clF ldF at hh; omega)⟩
  · have ga : ∀ {c k}, ¬ (clG sp c k ∨ lgF c k) → σ'.2.2 c k = σ.2.2 c k := fun {c k} p => (f c k p).2.2
    have i1 : Int32.ofNat cnt + 1 = Int32.ofNat (cnt + 1) := oN_s cnt
    refine hn2 As' J σ' ⟨⟨by rw [a10, h1, i1], by rw [u65, h2, i1], by omega⟩, ⟨hss, hcs, hos, by omega, by omega, by omega⟩, fun rv hrv k hk2 => (ga (by unfold clG clF lgF ldF coF olF; omega)).trans (h5 rv hrv k hk2), ⟨a7, a8.trans h6, a9.trans h7⟩, fun hc => by omega, fun _ => ⟨hL, hRev, hNow, ?_⟩, fun hc => by rw [if_pos (by omega)], fun hc => ?_⟩ ⟨⟨t, 0, ⟨by omega, fun j hj => by omega⟩, ⟨z1, fun j hj => by omega⟩, ⟨z2, fun j hj => by omega⟩⟩, fun j hj => ((f 38 j (by unfold clG clF lgF ldF coF olF; omega)).2.1).trans (hwC j hj), fun j hj => ((f 500 j (by unfold clG clF lgF ldF coF olF; omega)).2.1).trans (hwR j hj)⟩ a11 b2 b4 u107 u133 f
    · by_cases hc : cnt = 0
      · rw [if_pos hc, if_pos hc]
        rw [e5 hc] at hOld
        exact OLB_0 hOld
      · rw [if_neg hc, if_neg hc]
        obtain ⟨_, hR, hN, _⟩ := h9 (by omega)
        exact OLB_of (e6 (by omega)).1 (e6 (by omega)).2 hR.2.2.2.1 hN hOld
    · have hc0 : ¬ cnt = 0 := by omega
      rw [if_neg hc0, if_neg hc0]
      obtain ⟨hLo, hR, _⟩ := h9 (by omega)
      have hrel := hLo
      obtain ⟨_, _, _, _, hB, hrel, _⟩ := hrel
      exact ⟨hLo, RevC_o hrel hR f (fun c k hh => by unfold clG clF lgF ldF coF olF at hh; omega)⟩
end MIN
