
/-! ===== the entries of a run: the items, one after the other ===== -/
def itE (As : List Ri) (I : List It) (k : Nat) : Et := match As[k]? with
  | none => (1, [], [])
  | some a => (1, riN a, ib I (rwA (As.take k)).length a)
def adK (As : List Ri) (I : List It) (E : List Et) (k : Nat) : List Et × Nat := adE E (eN (itE As I k)) (eC (itE As I k))
def adM (As : List Ri) (I : List It) : List Nat → List Et → List Et × List Nat
  | [], E => (E, [])
  | k :: r, E => ((adM As I r (adK As I E k).1).1, (adK As I E k).2 :: (adM As I r (adK As I E k).1).2)
theorem adM_l {As : List Ri} {I : List It} : ∀ {ks : List Nat} {E : List Et}, (adM As I ks E).2.length = ks.length
  | [], _ => rfl
  | k :: r, E => by rw [adM, List.length_cons, List.length_cons, adM_l]
def RS (As : List Ri) (I : List It) (rv : Nat) (E : List Et) (K : List Nat) (σ : my_S) : Prop := LD As I rv σ ∧ LgR E [] σ ∧ PrR E σ ∧ FrR As I E K σ ∧ K.Nodup
def rsF (c k : Nat) : Prop := frF c k ∨ c = 554
section MMF
variable {As : List Ri} {I : List It} {rv : Nat} {e : my_E} {d : Nat} {κ : my_K} {σ σ' : my_S} {Q : my_O → my_K → my_S → Prop} {E : List Et} {K : List Nat} {L : List Nat}
theorem FrR_o {F : Nat → Nat → Prop} (h : FrR As I E K σ) (f : eqp F σ σ') (hF : ∀ c k, F c k → ¬ frF c k) : FrR As I E K σ' := by
  obtain ⟨h1, h2, h3, h4, h5⟩ := h
  exact ⟨FRy_o h1 f (fun c k hh => by have := hF c k hh; unfold frF fyF at this; omega), (eqp_g f (fun hh => hF _ _ hh (Or.inr (Or.inl ⟨rfl, rfl⟩)))).trans h2, h3, fun i k hk => (eqp_g f (fun hh => hF _ _ hh (Or.inr (Or.inr rfl)))).trans (h4 i k hk), h5⟩
theorem RS_554 {j : Nat} {x : Int32} (h : RS As I rv E K σ) : RS As I rv E K (my_uI σ 554 j x) := by
  have f : eqp (fun c _ => c = 554) σ (my_uI σ 554 j x) := eqp_I eqp_rf rfl
  obtain ⟨h1, h2, h3, h4, h5⟩ := h
  have := h1.2.2.1
  exact ⟨LD_o (LD_30 h1) h1 f (fun c k hh => by unfold coF; omega), LgR_o h2 f (fun c k hh => by omega), PrR_o h3 f (fun c k hh => by omega), FrR_o h4 f (fun c k hh => by unfold frF fyF; omega), h5⟩
/-- one item's entry, the reference's -/
theorem f_314r {k : Nat} (hU : nmU As) (hW : LgW E) (h : RS As I rv E K σ) (hK : K.length < 40) (hk : k < As.length) (hd : 6 ≤ d) (hQ : ∀ σ' K', (adK As I (E ++ frE As I K) k).1 = E ++ frE As I K' → K'.length ≤ K.length + 1 → RS As I rv E K' σ' → eqp frF σ σ' → Q (.inl (some (.inl (Int32.ofNat (adK As I (E ++ frE As I K) k).2)))) κ σ') : my_M e d 314 [.inr (.inr (some 498)), .inl (Int32.ofNat k)] κ σ Q := by
  obtain ⟨h1, h2, h3, h4, h5⟩ := h
  have ha := List.getElem?_eq_getElem hk
  generalize As[k] = a at ha
  have hit : itE As I k = (1, riN a, ib I (rwA (As.take k)).length a) := by unfold itE; rw [ha]
  have had : adK As I (E ++ frE As I K) k = adE (E ++ frE As I K) (riN a) (ib I (rwA (As.take k)).length a) := by unfold adK; rw [hit]
  rw [had] at hQ
  have h61 := h1.2.2.2.2.2.2.1.2.2.2.1
  have hb := frE_b (I := I) h1.1 h5 h4.2.2.2.2 h61
  have hil := ib_l (I := I) ha
  have hrv := h1.2.2.1
  refine f_314 h1 hU hW h2 h3 h4 hK ha (by omega) hd (fun σ1 K' q1 q2 q3 f1 => ?_)
  have fx : ∀ c q, frF c q → (c = 551 ∨ (c = 498 ∧ q = 97)) ∨ (c = 498 ∧ q = 99) ∨ c = 552 := fun c q hh => by unfold frF fyF at hh; exact hh
  refine hQ σ1 K' q1 ?_ ⟨LD_o (LD_30 h1) h1 f1 (fun c q hh => by have := fx c q hh; unfold coF; omega), LgR_o h2 f1 (fun c q hh => by have := fx c q hh; omega), PrR_o h3 f1 (fun c q hh => by have := fx c q hh; omega), q3, ?_⟩ f1
  · rcases q2 with rfl | ⟨_, rfl⟩
    · omega
    · rw [List.length_append, List.length_singleton]; omega
  · rcases q2 with rfl | ⟨hn, rfl⟩
    · exact h5
    · exact List.nodup_append.mpr ⟨h5, by simp, fun x hx y hy => by rw [List.mem_singleton.mp hy]; exact fun hh => hn (hh ▸ hx)⟩
/-- the touched ones, the reference's -/
theorem f_311l {i kt : Nat} {own : Int32} (hU : nmU As) (hW : LgW E) (hL : L.length ≤ 30) (hLA : ∀ k ∈ L, k < As.length) (hd : 6 ≤ d) (hT : TLR L σ) (hQ : ∀ σ' K' ns, RS As I rv E K' σ' → K'.length ≤ 31 → ns.length = L.length → (∀ (j x : Nat), ns[j]? = some x → σ'.1 554 j = Int32.ofNat x) → eqp rsF σ σ' → (∃ E0 : List Et, ns = (adM As I L E0).2 ∧ (adM As I L E0).1 = E ++ frE As I K' ∧ E0 = E ++ frE As I K) → (my_bd (Int32.ofNat i) 12) ∧ if σ'.1 562 (Int32.ofNat i).toNatClampNeg = 1 then ys_311_84 e d (Int32.ofNat i) (Int32.ofNat kt) own 1 κ σ' Q else ys_311_84 e d (Int32.ofNat i) (Int32.ofNat kt) own 0 κ σ' Q) : ∀ (m j : Nat) (K1 : List Nat) (ns : List Nat) (σ' : my_S), j + m = L.length → RS As I rv E K1 σ' → K1.length ≤ j + 1 → ns.length = j → (∀ (u x : Nat), ns[u]? = some x → σ'.1 554 u = Int32.ofNat x) → eqp rsF σ σ' → (adM As I L (E ++ frE As I K)).1 = (adM As I (L.drop j) (E ++ frE As I K1)).1 → (adM As I L (E ++ frE As I K)).2 = ns ++ (adM As I (L.drop j) (E ++ frE As I K1)).2 → ys_311_36 e d (Int32.ofNat i) (Int32.ofNat kt) own (Int32.ofNat j) κ σ' Q := by
  intro m
  induction m with
  | zero =>
    intro j K1 ns σ' hj hR hK hns h554 f a1 a2
    have hT' := TLR_o hT f (fun c k hh => by unfold rsF frF fyF at hh; unfold tdF; omega)
    rw [List.drop_of_length_le (by omega)] at a1 a2
    unfold ys_311_36
    rw [hT'.1, if_neg (by rw [oN_lt (by omega) (by omega)]; omega)]
    rw [adM, List.append_nil] at a2
    exact hQ σ' K1 ns hR (by omega) (by omega) h554 f ⟨E ++ frE As I K, a2.symm, by rw [a1, adM], rfl⟩
  | succ m ih =>
    intro j K1 ns σ' hj hR hK hns h554 f a1 a2
    have hjl : j < L.length := by omega
    have hT' := TLR_o hT f (fun c k hh => by unfold rsF frF fyF at hh; unfold tdF; omega)
    have hLj := List.getElem?_eq_getElem hjl
    rw [List.drop_eq_getElem_cons hjl] at a1 a2
    have hmem := hLA L[j] (List.getElem_mem hjl)
    generalize L[j] = k at hLj a1 a2 hmem
    unfold ys_311_36
    rw [hT'.1, if_pos ((oN_lt (by omega) (by omega)).mpr hjl), oN_n (by omega), hT'.2 j k hLj]
    refine ⟨bdk (by omega) (by omega), f_314r hU hW hR (by omega) hmem hd (fun σ2 K2 q1 q2 q3 f2 => ?_)⟩
    rw [my_kI_v, oN_s]
    refine ⟨bdk (by omega) (by omega), ?_⟩
    rw [adM, q1] at a1 a2
    have f3 : eqp rsF σ (my_uI σ2 554 j (Int32.ofNat (adK As I (E ++ frE As I K1) k).2)) := eqp_I (eqp_tr f (eqp_mo f2 (fun c k hh => Or.inl hh))) (Or.inr rfl)
    refine ys_311_36_ok (ih (j + 1) K2 (ns ++ [(adK As I (E ++ frE As I K1) k).2]) _ (by omega) (RS_554 q3) (by omega) (by rw [List.length_append, List.length_singleton]; omega) (fun u x hx => ?_) f3 a1 (by rw [a2, List.append_assoc]; rfl))
    rw [my_uI_1]
    rcases gA hx with ⟨p1, p2⟩ | ⟨p1, p2⟩
    · rw [if_neg (by omega), eqp_g f2 (by unfold frF fyF; omega)]
      exact h554 u x p2
    · rw [if_pos ⟨rfl, by omega⟩, p2]
end MMF
