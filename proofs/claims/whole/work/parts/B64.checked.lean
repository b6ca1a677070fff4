
/-! ===== a run that ends with a check that is false tells which ===== -/
section MCK
variable {As : List Ri} {I : List It} {s s' : Ms}
/-- the check is told, and it stands in an item -/
def CKd (As : List Ri) (s : Ms) : Prop := zE s = some 1 → ∃ c, zk s = some c ∧ c.1 < As.length
theorem zop_C {k c j : Nat} {o : Int32} (hE : zE s = none) (hk : k < As.length) : CKd As (zop As k c o j s) := by
  have keep : ∀ {t : Ms}, zE t = zE s → CKd As t := fun {t} ht h1 => by rw [ht, hE] at h1; cases h1
  have ends : ∀ {n : Nat} {t : Ms}, n ≠ 1 → zE t = some n → CKd As t := fun {n t} hn ht h1 => by rw [ht] at h1; exact absurd (Option.some.inj h1) hn
  by_cases c1 : c = 1
  · subst c1; exact keep rfl
  by_cases c2 : c = 2
  · subst c2; exact keep rfl
  by_cases c3 : c = 3
  · subst c3; exact keep rfl
  by_cases c4 : c = 4
  · subst c4; exact keep rfl
  by_cases c5 : c = 5
  · subst c5; exact keep rfl
  by_cases c6 : c = 6
  · subst c6; exact keep rfl
  by_cases c7 : c = 7
  · subst c7; exact keep rfl
  by_cases c8 : c = 8
  · subst c8
    rw [zop_8]
    unfold zcel
    split
    · exact ends (n := 5) (by omega) rfl
    · exact keep rfl
  by_cases c9 : c = 9
  · subst c9
    rw [zop_9]
    unfold zset
    split
    · exact ends (n := 5) (by omega) rfl
    · exact keep rfl
  by_cases c10 : c = 10
  · subst c10
    rw [zop_10]
    unfold zcal
    split
    · split
      · exact keep rfl
      · exact ends (n := 4) (by omega) rfl
    · exact ends (n := 3) (by omega) rfl
  by_cases c11 : c = 11
  · subst c11; exact keep rfl
  by_cases c12 : c = 12
  · subst c12; exact keep rfl
  by_cases c13 : c = 13
  · subst c13; exact ends (n := 0) (by omega) rfl
  by_cases c14 : c = 14
  · subst c14; exact keep rfl
  by_cases c15 : c = 15
  · subst c15
    rw [zop_15]
    split
    · exact keep rfl
    · exact keep rfl
  by_cases c16 : c = 16
  · subst c16
    rw [zop_16]
    unfold zbrn
    split
    · exact keep rfl
    · exact ends (n := 3) (by omega) rfl
  by_cases c17 : c = 17
  · subst c17
    rw [zop_17]
    split
    · exact fun _ => ⟨(k, o), rfl, hk⟩
    · exact keep rfl
  by_cases c19 : c = 19
  · subst c19; exact keep rfl
  by_cases c20 : c = 20
  · subst c20; exact keep rfl
  have e : zop As k c o j s = zbin c s := by
    unfold zop
    rw [if_neg (by omega), if_neg (by omega), if_neg (by omega), if_neg (by omega), if_neg (by omega), if_neg (by omega), if_neg (by omega), if_neg (by omega), if_neg (by omega), if_neg (by omega), if_neg (by omega), if_neg (by omega), if_neg (by omega), if_neg (by omega), if_neg (by omega), if_neg (by omega), if_neg (by omega), if_neg (by omega)]
  rw [e]
  unfold zbin
  split
  · exact ends (n := 2) (by omega) rfl
  · exact keep rfl
theorem ZR_C : ∀ {n : Nat} {s s' : Ms}, ZR As I n s s' → CKd As s → CKd As s'
  | 0, s, s', hz, h => by
    have hz : s' = s := hz
    subst hz
    exact h
  | n + 1, s, s', hz, h => by
    obtain ⟨hE, hc, s1, ⟨a, LT, r1, x, r2, jj, ht, h6, h8, hjj, hs1⟩, hz1⟩ := hz
    have hk := (List.getElem?_eq_some_iff.mp ht.1.1.1).1
    refine ZR_C hz1 ?_
    rw [hs1]
    exact zop_C (s := zA r1 x s) hE hk
theorem CKd_0 {k : Nat} : CKd As (z0 As k) := fun h => by
  have h : (none : Option Nat) = some 1 := h
  cases h
end MCK
