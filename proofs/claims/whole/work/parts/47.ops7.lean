theorem E_holds (S M : St) (p1 p2 : Int32) : tX7_holds S p1 p2 = tX8_holds M p1 p2 := by
  unfold tX7_holds tX8_holds
  simp only [wj999, wj1]
  by_cases c1 : wi p1 0 999999
  rotate_left
  · simp only [if_neg c1]
  simp only [if_pos c1]
  obtain ⟨t, ht, rfl⟩ := wi999 c1
  have zA : ∀ i, i < 64 → tX7_digitsAdded S (nI t) (nI i) = tX8_digitsOf M (nI t) (nI i) 0 := fun i hi => by rw [added_cls S (by omega) hi, added_mod M (by omega) hi]
  have zS : ∀ i, i < 64 → (if 0 ≤ ((tX7_digitsAdded S (nI t) 63) - (2 * (tX7_digitsAdded S (nI t) (nI i)))) then ((tX7_digitsAdded S (nI t) 63) - (2 * (tX7_digitsAdded S (nI t) (nI i)))) else 0 - ((tX7_digitsAdded S (nI t) 63) - (2 * (tX7_digitsAdded S (nI t) (nI i))))) = (Int64.toInt32 (tX8_size M (Int32.toInt64 ((2 * (tX8_digitsOf M (nI t) (nI i) 0)) - (tX8_digitsOf M (nI t) 63 0))))) := by
    intro i hi
    rw [show (63 : Int32) = nI 63 from rfl, added_cls S (by omega) hi, added_mod M (by omega) hi, added_cls S (by omega) (by decide), added_mod M (by omega) (by decide)]
    have z1 := dsum_le t i
    have z2 := dsum_le t 63
    exact abs54 _ (by omega) _ (by omega)
  have hL : ∀ (k i : Nat) (b d : Int32), i + k = 64 → LX7_holds_38 S (nI t) p2 k i b d = LX8_holds_42 M (nI t) p2 k i d b := by
    intro k
    induction k with
    | zero => intro i b d _; rw [LX7_holds_38, LX8_holds_42]
    | succ k ih =>
      intro i b d hi
      rw [LX7_holds_38, LX8_holds_42, zS i (by omega), ih (i + 1) _ _ (by omega), ih (i + 1) _ _ (by omega)]
  have h64 : LX7_holds_38 S (nI t) p2 64 0 0 (tX7_digitsAdded S (nI t) 63) = LX7_holds_38 S (nI t) p2 63 1 0 (tX7_digitsAdded S (nI t) 63) := by
    have z0 : tX7_digitsAdded S (nI t) (nI 0) = 0 := by rw [added_cls S (by omega) (by decide)]; simp [dsum]; rfl
    have z2 := dsum_le t 63
    have zz : ∀ x : Int32, x - 2 * 0 = x := fun x => by rw [Int32.mul_zero, Int32.sub_zero]
    rw [LX7_holds_38, z0, zz, if_pos]
    rw [show (63 : Int32) = nI 63 from rfl, added_cls S (by omega) (by decide)]
    rw [if_pos (nI_pos' (by omega))]
    exact Int32.le_refl _
  rw [h64, hL 63 1 _ _ rfl, show (63 : Int32) = nI 63 from rfl, added_cls S (by omega) (by decide), added_mod M (by omega) (by decide)]
