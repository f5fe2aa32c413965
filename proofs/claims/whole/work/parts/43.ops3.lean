/-- the numbers of the owner anew: one slot of row 6 -/
theorem own_sc {ow ow' : Nat → Nat → Int32} {sc sc' : Nat → Int32} {ar ar' : Nat → Nat → Int32} (h : OwnRel ow sc ar) (h1 : ∀ k j, ¬ k = 6 → ow' k j = ow k j) (h2 : ∀ i j, 0 < i → i < 7 → ar' i j = ar i j) (h0 : sc' 0 = sc 0 ∧ sc' 1 = sc 1)
    (hs : sc' 7 = ow' 6 0 ∧ sc' 8 = ow' 6 1 ∧ sc' 9 = ow' 6 2 ∧ sc' 10 = ow' 6 3 ∧ sc' 11 = ow' 6 4 ∧ sc' 12 = ow' 6 5) : OwnRel ow' sc' ar' := by
  obtain ⟨b0, b1, hr, -⟩ := h
  refine ⟨?_, ?_, fun j hj => ?_, hs⟩
  · rw [h0.1]; exact b0.cong (fun j hj => by rw [h1 j 0 (by omega)])
  · rw [h0.2]; exact b1.cong (fun j hj => by rw [h1 j 0 (by omega), h1 j 1 (by omega)])
  · obtain ⟨r1, r2, r3, r4, r5⟩ := hr j hj
    rw [h2 2 j (by decide) (by decide), h2 3 j (by decide) (by decide), h2 4 j (by decide) (by decide), h2 5 j (by decide) (by decide), h1 j 2 (by omega), h1 j 3 (by omega), h1 j 4 (by omega), h1 j 5 (by omega)]
    refine ⟨r1, r2, r3, r4, fun e he => ?_⟩
    rw [h2 6 _ (by decide) (by decide), h1 _ _ (by omega)]
    exact r5 e he
theorem ok_sc {ow ow' : Nat → Nat → Int32} (h : OwnOk ow) (h1 : ∀ k j, ¬ k = 6 → ow' k j = ow k j) (h2 : wi (ow' 6 1) 0 20 ∧ wi (ow' 6 2) 0 1 ∧ wi (ow' 6 3) 0 99) : OwnOk ow' := by
  obtain ⟨k1, -⟩ := h
  refine ⟨fun j hj => ?_, h2⟩
  obtain ⟨a1, a2, a3, a4⟩ := k1 j hj
  rw [h1 j 2 (by omega), h1 j 3 (by omega), h1 j 5 (by omega)]
  exact ⟨a1, a2, a3, fun e he => by rw [h1 _ _ (by omega)]; exact a4 e he⟩
theorem E_set {S M : St} (h : Rel S M) (p1 p2 : Int32) : Ans (tX7_set S p1 p2) (tX8_set M p1 p2) := by
  unfold tX7_set tX8_set
  have hO := h.own
  obtain ⟨-, -, -, s7, s8, s9, s10, s11, s12⟩ := id hO
  obtain ⟨k1, k2, k3, k4⟩ := h.ok
  simp only [wj2, wj99, wj20, wj1, bnd_def]
  have z12 : ¬ (1 : Int32) = 2 := by decide
  have z01 : ¬ (0 : Int32) = 1 := by decide
  have z02 : ¬ (0 : Int32) = 2 := by decide
  have z10 : ¬ (1 : Int32) = 0 := by decide
  have z20 : ¬ (2 : Int32) = 0 := by decide
  have z21 : ¬ (2 : Int32) = 1 := by decide
  by_cases c0 : p1 = 0
  · subst c0
    simp only [if_true, z01, z02, if_false, if_pos (show wi 0 0 2 by decide)]
    by_cases cv : wi p2 0 99
    · simp only [if_pos cv]
      refine ⟨s7.symm, h.ofOwn (own_sc hO (fun k j hk => by simp [up_val, hk]) (fun i j hi _ => by simp [up_val, show ¬ i = 0 by omega]) (by simp [up_val]) (by simp [up_val]; exact ⟨s8, s9, s10, s11, s12⟩)) (ok_sc h.ok (fun k j hk => by simp [up_val, hk]) (by simp [up_val]; exact ⟨k2, k3, k4⟩)) (fun r h0 _ _ _ => up_r _ _ h0) ?_ ?_ ?_ ?_ ?_ ?_ ?_ ?_⟩
      all_goals first | (funext j; simp [up_val]; done) | simp [up_val]
    · simp only [if_neg cv]; exact Ans.same h
  by_cases c1 : p1 = 1
  · subst c1
    simp only [if_true, z10, z12, if_false, if_pos (show wi 1 0 2 by decide)]
    by_cases cv : wi p2 0 20
    · simp only [if_pos cv]
      refine ⟨s8.symm, h.ofOwn (own_sc hO (fun k j hk => by simp [up_val, hk]) (fun i j hi _ => by simp [up_val, show ¬ i = 0 by omega]) (by simp [up_val]) (by simp [up_val]; exact ⟨s7, s9, s10, s11, s12⟩)) (ok_sc h.ok (fun k j hk => by simp [up_val, hk]) (by simp [up_val]; exact ⟨cv, k3, k4⟩)) (fun r h0 _ _ _ => up_r _ _ h0) ?_ ?_ ?_ ?_ ?_ ?_ ?_ ?_⟩
      all_goals first | (funext j; simp [up_val]; done) | simp [up_val]
    · simp only [if_neg cv]; exact Ans.same h
  by_cases c2 : p1 = 2
  · subst c2
    simp only [if_true, z20, z21, if_false, if_pos (show wi 2 0 2 by decide)]
    by_cases cv : wi p2 0 1
    · simp only [if_pos cv]
      refine ⟨s9.symm, h.ofOwn (own_sc hO (fun k j hk => by simp [up_val, hk]) (fun i j hi _ => by simp [up_val, show ¬ i = 0 by omega]) (by simp [up_val]) (by simp [up_val]; exact ⟨s7, s8, s10, s11, s12⟩)) (ok_sc h.ok (fun k j hk => by simp [up_val, hk]) (by simp [up_val]; exact ⟨k2, cv, k4⟩)) (fun r h0 _ _ _ => up_r _ _ h0) ?_ ?_ ?_ ?_ ?_ ?_ ?_ ?_⟩
      all_goals first | (funext j; simp [up_val]; done) | simp [up_val]
    · simp only [if_neg cv]; exact Ans.same h
  have cn : ¬ wi p1 0 2 := by
    intro hc
    obtain ⟨k, hk, rfl, -⟩ := wi2_k hc
    rcases (show k = 0 ∨ k = 1 ∨ k = 2 by omega) with rfl | rfl | rfl
    · exact c0 rfl
    · exact c1 rfl
    · exact c2 rfl
  simp only [if_neg c0, if_neg c1, if_neg c2, if_neg cn]
  exact Ans.same h
theorem Rel.ofPad {S M S' M' : St} (h : Rel S M) (hP : PadRel S' M') (hS : ∀ r, r ≠ 4 → S'.1 r = S.1 r) (hM : ∀ b, b ≠ 0 → b ≠ 17 → M'.1 0 b = M.1 0 b) (h0 : ∀ j, j ≠ 18 → M'.1 0 0 j = M.1 0 0 j) : Rel S' M' := by
  obtain ⟨hO, hK, -, hT, hI0, hI1⟩ := h
  refine ⟨?_, ?_, hP, ?_, hI0.cong (hS _ (by decide)) (hS _ (by decide)) (hS _ (by decide)) (hM _ (by decide) (by decide)) (hM _ (by decide) (by decide)), hI1.cong (hS _ (by decide)) (hS _ (by decide)) (hS _ (by decide)) (hM _ (by decide) (by decide)) (hM _ (by decide) (by decide))⟩
  · rw [hS 0 (by decide)]
    obtain ⟨b0, b1, hr, hs⟩ := hO
    refine ⟨?_, ?_, fun j hj => ?_, ?_⟩
    · rw [h0 0 (by decide)]; exact b0
    · rw [h0 1 (by decide)]; exact b1
    · rw [hM 2 (by decide) (by decide), hM 3 (by decide) (by decide), hM 4 (by decide) (by decide), hM 5 (by decide) (by decide), hM 6 (by decide) (by decide)]; exact hr j hj
    · rw [h0 7 (by decide), h0 8 (by decide), h0 9 (by decide), h0 10 (by decide), h0 11 (by decide), h0 12 (by decide)]; exact hs
  · rw [hS 0 (by decide)]; exact hK
  · rw [hS 6 (by decide), h0 16 (by decide), hM 13 (by decide) (by decide), hM 14 (by decide) (by decide), hM 15 (by decide) (by decide)]; exact hT
theorem E_say {S M : St} (h : Rel S M) (p1 : Int32) : Ans (tX7_say S p1) (tX8_say M p1) := by
  unfold tX7_say tX8_say tX3_put
  obtain ⟨e18, hc, hp⟩ := h.pad
  simp only [wj33, bnd_def, e18]
  by_cases c1 : wi p1 33 126
  rotate_left
  · simp only [if_neg c1]; exact Ans.same h
  obtain ⟨n, hn, en, ecl⟩ := wi_k (n := 60) hc rfl (by decide)
  simp only [if_pos c1, en]
  have z : ¬ nI n < 0 := nI_pos (by omega)
  have z10 : ¬ (1 : Int32) = 0 := by decide
  by_cases c2 : n = 60
  · subst c2
    have z2 : ¬ nI 60 < (60 : Int32) := by decide
    simp only [if_neg z, if_neg z2, if_pos (show nI 60 = (60 : Int32) from rfl), if_true]
    exact Ans.same h
  · have z2 : nI n < (60 : Int32) := nI_lt (b := 60) (by omega) (by decide)
    have z3 : ¬ nI n = (60 : Int32) := fun q => c2 ((nI_eq (b := 60) (by omega) (by decide)).mp q)
    simp only [if_neg z, if_pos z2, if_neg z3, z10, if_false]
    have ec : (nI n).toNatClampNeg = n := nI_clamp (by omega)
    rw [ec]
    have e1 : (up S 4 1 n p1).1 4 0 0 = nI n := by simp [up_val, en]
    have e2 : (up M 0 17 n p1).1 0 0 18 = nI n := by simp [up_val, e18, en]
    rw [e1, e2, nI_1]
    refine ⟨by simp [up_val], h.ofPad ?_ (fun r hr => by rw [up_r _ _ hr, up_r _ _ hr]) (fun b h0 h1 => by rw [up_row_ne _ _ h0, up_row_ne _ _ h1]) (fun j hj => by simp [up_val, hj])⟩
    refine ⟨by simp [up_val], ?_, fun j hj => ?_⟩
    · have e3 : (up (up S 4 1 n p1) 4 0 0 (nI (n + 1))).1 4 0 0 = nI (n + 1) := by simp [up_val]
      rw [e3]
      exact ⟨nI_pos' (by omega), nI_le (b := 60) (by omega) (by decide)⟩
    · simp [up_val]
      split
      · rfl
      · exact hp j hj
