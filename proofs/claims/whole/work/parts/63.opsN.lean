/-! ===== the tales heard ===== -/
/-- tale i tells that the groups p and q are two, and is not left out -/
def TwoAt (S : St) (p1 p2 : Int32) (i : Nat) : Prop := ((S.1 0 32 (Int32.toNatClampNeg (S.1 0 13 i)) = p1 ∧ S.1 0 32 (Int32.toNatClampNeg (S.1 0 14 i)) = p2) ∨ (S.1 0 32 (Int32.toNatClampNeg (S.1 0 13 i)) = p2 ∧ S.1 0 32 (Int32.toNatClampNeg (S.1 0 14 i)) = p1)) ∧ S.1 0 15 i = 0 ∧ (ishrF (S.1 0 0 33) (nI i)) &&& 1 = 0
theorem areTwo_step (S : St) (p1 p2 p3 : Int32) (k i : Nat) (x : Int32) : ∃ y, LX8_areTwo_6 S p1 p2 p3 (k + 1) i x = LX8_areTwo_6 S p1 p2 p3 k (i + 1) y ∧ (¬ y = 0 ↔ ¬ x = 0 ∨ TwoAt S p1 p2 i) := by
  unfold TwoAt
  rw [LX8_areTwo_6]
  have n10 : ¬ (1 : Int32) = 0 := by decide
  generalize S.1 0 32 (Int32.toNatClampNeg (S.1 0 13 i)) = A
  generalize S.1 0 32 (Int32.toNatClampNeg (S.1 0 14 i)) = B
  generalize S.1 0 15 i = C
  generalize (ishrF (S.1 0 0 33) (nI i)) &&& 1 = D
  repeat' split
  all_goals refine ⟨_, rfl, ?_⟩
  all_goals simp_all
theorem areTwo_eq (S : St) (p1 p2 p3 : Int32) : ∀ (k i : Nat) (x : Int32), ¬ LX8_areTwo_6 S p1 p2 p3 k i x = 0 ↔ ¬ x = 0 ∨ ∃ j, i ≤ j ∧ j < i + k ∧ TwoAt S p1 p2 j := by
  intro k
  induction k with
  | zero =>
    intro i x
    rw [LX8_areTwo_6]
    exact ⟨Or.inl, fun h => h.elim id (fun ⟨j, h1, h2, _⟩ => absurd h2 (by omega))⟩
  | succ k ih =>
    intro i x
    obtain ⟨y, e, hy⟩ := areTwo_step S p1 p2 p3 k i x
    rw [e, ih, hy]
    constructor
    · rintro ((h | h) | ⟨j, h1, h2, h3⟩)
      · exact Or.inl h
      · exact Or.inr ⟨i, Nat.le_refl _, by omega, h⟩
      · exact Or.inr ⟨j, by omega, by omega, h3⟩
    · rintro (h | ⟨j, h1, h2, h3⟩)
      · exact Or.inl (Or.inl h)
      · by_cases q : j = i
        · subst q; exact Or.inl (Or.inr h3)
        · exact Or.inr ⟨j, by omega, by omega, h3⟩
theorem two_iff (S : St) (p1 p2 : Int32) {n : Nat} (hn : n < 2 ^ 31) : ¬ tX8_areTwo S p1 p2 (nI n) = 0 ↔ ∃ j, j < n ∧ TwoAt S p1 p2 j := by
  unfold tX8_areTwo
  rw [nI_clamp hn, areTwo_eq]
  constructor
  · rintro (h | ⟨j, h1, h2, h3⟩)
    · exact absurd rfl h
    · exact ⟨j, by omega, h3⟩
  · rintro ⟨j, h1, h2⟩
    exact Or.inr ⟨j, by omega, by omega, h2⟩
