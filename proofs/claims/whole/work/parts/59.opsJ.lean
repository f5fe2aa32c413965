/-! ===== what the reference keeps aside, and puts back ===== -/
def Kept (M Z : St) : Prop := (∀ b, b ≠ 28 → Z.1 0 b = M.1 0 b) ∧ (∀ k, k < 6 → Z.1 0 28 k = M.1 0 2 k ∧ Z.1 0 28 (6 + k) = M.1 0 5 k) ∧ (∀ j, j < 18 → Z.1 0 28 (12 + j) = M.1 0 6 j) ∧
  Z.1 0 28 30 = M.1 0 0 1 ∧ Z.1 0 28 31 = M.1 0 0 9 ∧ Z.1 0 28 32 = M.1 0 0 10 ∧ Z.1 0 28 33 = M.1 0 0 11 ∧ Z.1 0 28 34 = M.1 0 0 12
theorem keep2 (S0 M : St) : ∀ (k i : Nat) (Z : St), i + k = 18 → (∀ b, b ≠ 28 → Z.1 0 b = M.1 0 b) → (∀ k, k < 6 → Z.1 0 28 k = M.1 0 2 k ∧ Z.1 0 28 (6 + k) = M.1 0 5 k) → (∀ j, j < i → Z.1 0 28 (12 + j) = M.1 0 6 j) → Kept M (LX8_keepNow_43 S0 k i Z) := by
  intro k
  induction k with
  | zero =>
    intro i Z hi h1 h2 h3
    obtain rfl : i = 18 := by omega
    rw [LX8_keepNow_43, bnd_def]
    have z0 := h1 0 (by decide)
    refine ⟨fun b hb => ?_, fun k hk => ?_, fun j hj => ?_, ?_, ?_, ?_, ?_, ?_⟩
    · rw [up_row_ne _ _ hb, up_row_ne _ _ hb, up_row_ne _ _ hb, up_row_ne _ _ hb, up_row_ne _ _ hb, h1 b hb]
    · have n : ∀ e, e < 12 → ¬ e = 30 ∧ ¬ e = 31 ∧ ¬ e = 32 ∧ ¬ e = 33 ∧ ¬ e = 34 := fun e he => by omega
      obtain ⟨a1, a2, a3, a4, a5⟩ := n k (by omega)
      obtain ⟨c1, c2, c3, c4, c5⟩ := n (6 + k) (by omega)
      simp only [up_val, a1, a2, a3, a4, a5, c1, c2, c3, c4, c5, and_false, if_false]
      exact h2 k hk
    · have n : ∀ e, e < 30 → ¬ e = 30 ∧ ¬ e = 31 ∧ ¬ e = 32 ∧ ¬ e = 33 ∧ ¬ e = 34 := fun e he => by omega
      obtain ⟨c1, c2, c3, c4, c5⟩ := n (12 + j) (by omega)
      simp only [up_val, c1, c2, c3, c4, c5, and_false, if_false]
      exact h3 j hj
    all_goals simp [up_val, z0]
  | succ k ih =>
    intro i Z hi h1 h2 h3
    rw [LX8_keepNow_43]
    refine ih (i + 1) _ (by omega) (fun b hb => by rw [up_row_ne _ _ hb, h1 b hb]) (fun k hk => ?_) (fun j hj => ?_)
    · have n1 : ¬ k = 12 + i := by omega
      have n2 : ¬ 6 + k = 12 + i := by omega
      simp only [up_val, n1, n2, and_false, if_false]
      exact h2 k hk
    · by_cases q : j = i
      · subst q
        rw [h1 6 (by decide)]
        simp [up_val]
      · have n2 : ¬ 12 + j = 12 + i := by omega
        simp only [up_val, n2, and_false, if_false]
        exact h3 j (by omega)
theorem keep1 (S0 M : St) : ∀ (k i : Nat) (Z : St), i + k = 6 → (∀ b, b ≠ 28 → Z.1 0 b = M.1 0 b) → (∀ k, k < i → Z.1 0 28 k = M.1 0 2 k ∧ Z.1 0 28 (6 + k) = M.1 0 5 k) → Kept M (LX8_keepNow_2 S0 k i Z) := by
  intro k
  induction k with
  | zero =>
    intro i Z hi h1 h2
    obtain rfl : i = 6 := by omega
    rw [LX8_keepNow_2]
    exact keep2 S0 M 18 0 Z rfl h1 h2 (fun j hj => absurd hj (by omega))
  | succ k ih =>
    intro i Z hi h1 h2
    rw [LX8_keepNow_2]
    refine ih (i + 1) _ (by omega) (fun b hb => by rw [up_row_ne _ _ hb, up_row_ne _ _ hb, h1 b hb]) (fun j hj => ?_)
    rw [up_row_ne Z _ (show (5 : Nat) ≠ 28 by decide), h1 2 (by decide), h1 5 (by decide)]
    by_cases q : j = i
    · subst q
      have n1 : ¬ j = 6 + j := by omega
      simp [up_val]
    · have n1 : ¬ j = 6 + i := by omega
      have n2 : ¬ 6 + j = i := by omega
      have n3 : ¬ 6 + j = 6 + i := by omega
      simp only [up_val, q, n1, n2, n3, and_false, if_false]
      exact h2 j (by omega)
theorem keep_val (M : St) : Kept M (tX8_keepNow M) := keep1 M M 6 0 M rfl (fun _ _ => rfl) (fun k hk => absurd hk (by omega))
/-- after the putting back: the rows as row 28 holds them -/
def Put (W Z : St) : Prop := (∀ b, b ≠ 0 → b ≠ 2 → b ≠ 5 → b ≠ 6 → Z.1 0 b = W.1 0 b) ∧ (∀ k, k < 6 → Z.1 0 2 k = W.1 0 28 k ∧ Z.1 0 5 k = W.1 0 28 (6 + k)) ∧ (∀ j, j < 18 → Z.1 0 6 j = W.1 0 28 (12 + j)) ∧
  Z.1 0 0 1 = W.1 0 28 30 ∧ Z.1 0 0 9 = W.1 0 28 31 ∧ Z.1 0 0 10 = W.1 0 28 32 ∧ Z.1 0 0 11 = W.1 0 28 33 ∧ Z.1 0 0 12 = W.1 0 28 34 ∧ ∀ j, j ≠ 1 → j ≠ 9 → j ≠ 10 → j ≠ 11 → j ≠ 12 → Z.1 0 0 j = W.1 0 0 j
theorem back2 (S0 W : St) (p : Int32) : ∀ (k i : Nat) (Z : St), i + k = 18 → (∀ b, b ≠ 2 → b ≠ 5 → b ≠ 6 → Z.1 0 b = W.1 0 b) → (∀ k, k < 6 → Z.1 0 2 k = W.1 0 28 k ∧ Z.1 0 5 k = W.1 0 28 (6 + k)) → (∀ j, j < i → Z.1 0 6 j = W.1 0 28 (12 + j)) →
    (LX8_back_43 S0 p k i Z).1 = p ∧ Put W (LX8_back_43 S0 p k i Z).2 := by
  intro k
  induction k with
  | zero =>
    intro i Z hi h1 h2 h3
    obtain rfl : i = 18 := by omega
    rw [LX8_back_43, bnd_def]
    have z0 := h1 0 (by decide) (by decide) (by decide)
    have z28 := h1 28 (by decide) (by decide) (by decide)
    refine ⟨rfl, fun b b0 b2 b5 b6 => ?_, fun k hk => ?_, fun j hj => ?_, ?_, ?_, ?_, ?_, ?_, fun j j1 j9 j10 j11 j12 => ?_⟩
    · show (up _ 0 0 12 _).1 0 b = _
      rw [up_row_ne _ _ b0, up_row_ne _ _ b0, up_row_ne _ _ b0, up_row_ne _ _ b0, up_row_ne _ _ b0, h1 b b2 b5 b6]
    · simp [up_val]; exact h2 k hk
    · simp [up_val]; exact h3 j hj
    · simp [up_val, z28]
    · simp [up_val, z28]
    · simp [up_val, z28]
    · simp [up_val, z28]
    · simp [up_val, z28]
    · simp [up_val, j1, j9, j10, j11, j12, z0]
  | succ k ih =>
    intro i Z hi h1 h2 h3
    rw [LX8_back_43, h1 28 (by decide) (by decide) (by decide)]
    refine ih (i + 1) _ (by omega) (fun b b2 b5 b6 => by rw [up_row_ne _ _ b6, h1 b b2 b5 b6]) (fun k hk => ?_) (fun j hj => ?_)
    · rw [up_row_ne _ _ (by decide), up_row_ne _ _ (by decide)]; exact h2 k hk
    · by_cases q : j = i
      · subst q; simp [up_val]
      · simp only [up_val, q, and_false, if_false]
        exact h3 j (by omega)
theorem back1 (S0 W : St) (p : Int32) : ∀ (k i : Nat) (Z : St), i + k = 6 → (∀ b, b ≠ 2 → b ≠ 5 → b ≠ 6 → Z.1 0 b = W.1 0 b) → (∀ k, k < i → Z.1 0 2 k = W.1 0 28 k ∧ Z.1 0 5 k = W.1 0 28 (6 + k)) →
    (LX8_back_2 S0 p k i Z).1 = p ∧ Put W (LX8_back_2 S0 p k i Z).2 := by
  intro k
  induction k with
  | zero =>
    intro i Z hi h1 h2
    obtain rfl : i = 6 := by omega
    rw [LX8_back_2]
    exact back2 S0 W p 18 0 Z rfl h1 h2 (fun j hj => absurd hj (by omega))
  | succ k ih =>
    intro i Z hi h1 h2
    rw [LX8_back_2]
    refine ih (i + 1) _ (by omega) (fun b b2 b5 b6 => by rw [up_row_ne _ _ b5, up_row_ne _ _ b2, h1 b b2 b5 b6]) (fun j hj => ?_)
    rw [up_row_ne Z _ (show (28 : Nat) ≠ 2 by decide), h1 28 (by decide) (by decide) (by decide)]
    by_cases q : j = i
    · subst q; simp [up_val]
    · simp only [up_val, q, and_false, if_false]
      exact h2 j (by omega)
theorem back_val (W : St) (p : Int32) : (tX8_back W p).1 = p ∧ Put W (tX8_back W p).2 := back1 W W p 6 0 W rfl (fun _ _ _ _ => rfl) (fun k hk => absurd hk (by omega))
/-- states that agree where the relation looks -/
def MB (M W : St) : Prop := (∀ k, k < 6 → W.1 0 2 k = M.1 0 2 k ∧ W.1 0 5 k = M.1 0 5 k) ∧ (∀ j, j < 18 → W.1 0 6 j = M.1 0 6 j) ∧ (∀ j, j < 13 → W.1 0 0 j = M.1 0 0 j) ∧ W.1 0 0 16 = M.1 0 0 16 ∧ W.1 0 0 18 = M.1 0 0 18 ∧
  W.1 0 3 = M.1 0 3 ∧ W.1 0 4 = M.1 0 4 ∧ W.1 0 13 = M.1 0 13 ∧ W.1 0 14 = M.1 0 14 ∧ W.1 0 15 = M.1 0 15 ∧ W.1 0 17 = M.1 0 17 ∧ W.1 0 35 = M.1 0 35 ∧ W.1 0 36 = M.1 0 36
theorem Rel.mb {S M S' W : St} (h : Rel S M) (hS : ∀ r, r ≠ 1 → r ≠ 5 → r ≠ 9 → S'.1 r = S.1 r) (hM : MB M W) : Rel S' W := by
  obtain ⟨m2, m6, m0, m16, m18, m3, m4, m13, m14, m15, m17, m35, m36⟩ := hM
  refine h.ofOwn ?_ ?_ (fun r _ r1 r5 r9 => hS r r1 r5 r9) m16 m18 m13 m14 m15 m17 m35 m36
  · rw [hS 0 (by decide) (by decide) (by decide)]
    refine h.own.cg (fun _ _ _ _ => rfl) (fun _ _ _ _ => rfl) (fun _ _ => rfl) (fun j hj => m0 j (by omega)) (fun j hj => m0 _ (by omega)) (fun i hi k hk => ?_) (fun k hk => m6 k hk)
    rcases (by omega : i = 0 ∨ i = 1 ∨ i = 2 ∨ i = 3) with rfl | rfl | rfl | rfl
    · exact (m2 k hk).1
    · show W.1 0 3 k = M.1 0 3 k; rw [m3]
    · show W.1 0 4 k = M.1 0 4 k; rw [m4]
    · exact (m2 k hk).2
  · rw [hS 0 (by decide) (by decide) (by decide)]; exact h.ok
/-- kept, then anything that leaves the rest, then put back -/
theorem mb_back {M Z W V : St} (hK : Kept M Z) (h28 : W.1 0 28 = Z.1 0 28) (hb : ∀ b, b ≠ 0 → b ≠ 2 → b ≠ 5 → b ≠ 6 → b ≠ 19 → b ≠ 20 → b ≠ 21 → W.1 0 b = Z.1 0 b) (h0 : ∀ j, j = 0 ∨ (1 < j ∧ j < 9) ∨ j = 16 ∨ j = 18 → W.1 0 0 j = Z.1 0 0 j) (hP : Put W V) : MB M V := by
  obtain ⟨k0, k1, k2, k30, k31, k32, k33, k34⟩ := hK
  obtain ⟨p0, p1, p2, p30, p31, p32, p33, p34, pj⟩ := hP
  have z0 : Z.1 0 0 = M.1 0 0 := k0 0 (by decide)
  have row : ∀ b, b ≠ 0 → b ≠ 2 → b ≠ 5 → b ≠ 6 → b ≠ 19 → b ≠ 20 → b ≠ 21 → b ≠ 28 → V.1 0 b = M.1 0 b := fun b b0 b2 b5 b6 b19 b20 b21 b28 => by rw [p0 b b0 b2 b5 b6, hb b b0 b2 b5 b6 b19 b20 b21, k0 b b28]
  have sc : ∀ j, j = 0 ∨ (1 < j ∧ j < 9) ∨ j = 16 ∨ j = 18 → V.1 0 0 j = M.1 0 0 j := fun j hj => by rw [pj j (by omega) (by omega) (by omega) (by omega) (by omega), h0 j hj, z0]
  refine ⟨fun k hk => ⟨by rw [(p1 k hk).1, h28, (k1 k hk).1], by rw [(p1 k hk).2, h28, (k1 k hk).2]⟩, fun j hj => by rw [p2 j hj, h28, k2 j hj], fun j hj => ?_, sc 16 (by decide), sc 18 (by decide), row _ (by decide) (by decide) (by decide) (by decide) (by decide) (by decide) (by decide) (by decide), row _ (by decide) (by decide) (by decide) (by decide) (by decide) (by decide) (by decide) (by decide), row _ (by decide) (by decide) (by decide) (by decide) (by decide) (by decide) (by decide) (by decide), row _ (by decide) (by decide) (by decide) (by decide) (by decide) (by decide) (by decide) (by decide), row _ (by decide) (by decide) (by decide) (by decide) (by decide) (by decide) (by decide) (by decide), row _ (by decide) (by decide) (by decide) (by decide) (by decide) (by decide) (by decide) (by decide), row _ (by decide) (by decide) (by decide) (by decide) (by decide) (by decide) (by decide) (by decide), row _ (by decide) (by decide) (by decide) (by decide) (by decide) (by decide) (by decide) (by decide)⟩
  rcases (by omega : (j = 0 ∨ (1 < j ∧ j < 9)) ∨ j = 1 ∨ j = 9 ∨ j = 10 ∨ j = 11 ∨ j = 12) with q | rfl | rfl | rfl | rfl | rfl
  · exact sc j (by omega)
  · rw [p30, h28, k30]
  · rw [p31, h28, k31]
  · rw [p32, h28, k32]
  · rw [p33, h28, k33]
  · rw [p34, h28, k34]
