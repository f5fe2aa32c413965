theorem w03 {x : Int32} (h : wi x 0 3) : x = 0 ∨ x = 1 ∨ x = 2 ∨ x = 3 := by
  obtain ⟨k, hk, rfl⟩ := wi_kk (n := 3) (by decide) h
  rcases (by omega : k = 0 ∨ k = 1 ∨ k = 2 ∨ k = 3) with rfl | rfl | rfl | rfl
  · exact Or.inl rfl
  · exact Or.inr (Or.inl rfl)
  · exact Or.inr (Or.inr (Or.inl rfl))
  · exact Or.inr (Or.inr (Or.inr rfl))
theorem w04 {x : Int32} (h : wi x 0 4) : x = 0 ∨ x = 1 ∨ x = 2 ∨ x = 3 ∨ x = 4 := by
  obtain ⟨k, hk, rfl⟩ := wi_kk (n := 4) (by decide) h
  rcases (by omega : k = 0 ∨ k = 1 ∨ k = 2 ∨ k = 3 ∨ k = 4) with rfl | rfl | rfl | rfl | rfl
  · exact Or.inl rfl
  · exact Or.inr (Or.inl rfl)
  · exact Or.inr (Or.inr (Or.inl rfl))
  · exact Or.inr (Or.inr (Or.inr (Or.inl rfl)))
  · exact Or.inr (Or.inr (Or.inr (Or.inr rfl)))
theorem E_total {S M : St} (h : Rel S M) (p1 : Int32) : Ans (tX7_total S p1) (tX8_total M p1) := by
  unfold tX7_total tX8_total tX8_ofAll
  simp only [wj3, bnd_def]
  by_cases c1 : wi p1 0 3
  rotate_left
  · simp only [if_neg c1]; exact Ans.same h
  rw [if_pos c1, if_pos c1]
  have ht := try_eq h
  generalize (tX7_tryVoyages S).2 = Z at ht ⊢
  generalize (tX8_refusal M).2 = W at ht ⊢
  generalize (tX7_tryVoyages S).1 = a at ht ⊢
  generalize (tX8_refusal M).1 = b at ht ⊢
  have n36 : ¬ (-3 : Int32) = -6 := by decide
  have n56 : ¬ (-5 : Int32) = -6 := by decide
  have n30 : ¬ (-3 : Int32) = 0 := by decide
  have n50 : ¬ (-5 : Int32) = 0 := by decide
  have tb := fun p => try_back h ht p
  obtain ⟨-, -, ⟨rfl, rfl, hv, -⟩ | ⟨rfl, rfl, hv⟩ | ⟨rfl, rfl⟩⟩ := ht
  · obtain ⟨⟨-, -, -, -, -, s9, s10, s11, s12⟩, -⟩ := hv
    rcases w03 c1 with rfl | rfl | rfl | rfl
    · simp only [if_true]; exact Ans.mk (by rw [(tb _).1, s11]) (tb _).2.1
    · simp only [zneq, if_true, if_false]; exact Ans.mk (by rw [(tb _).1, s12]) (tb _).2.1
    · simp only [zneq, if_true, if_false]; exact Ans.mk (by rw [(tb _).1, s9]) (tb _).2.1
    · simp only [zneq, if_true, if_false]; exact Ans.mk (by rw [(tb _).1, s10]) (tb _).2.1
  · simp only [n36, n30, if_false]; exact Ans.mk (tb _).1.symm (tb _).2.1
  · simp only [n56, n50, if_false]; exact Ans.mk (tb _).1.symm (tb _).2.1
theorem E_behind {S M : St} (h : Rel S M) (p1 p2 : Int32) : Ans (tX7_behind S p1 p2) (tX8_behind M p1 p2) := by
  unfold tX7_behind tX8_behind
  simp only [mSh_iff h.own, wj4, bnd_def]
  by_cases c0 : isAt S 0 p1
  rotate_left
  · simp only [if_neg c0]; exact Ans.same h
  by_cases c1 : wi p2 0 4
  rotate_left
  · simp only [if_pos c0, if_neg c1]; exact Ans.same h
  rw [if_pos c0, if_pos c0, if_pos c1, if_pos c1]
  have ht := try_eq h
  have hk := keep_val M
  generalize (tX7_tryVoyages S).2 = Z at ht ⊢
  generalize (tX8_refusal M).2 = W at ht ⊢
  generalize (tX7_tryVoyages S).1 = a at ht ⊢
  generalize (tX8_refusal M).1 = b at ht ⊢
  have n36 : ¬ (-3 : Int32) = -6 := by decide
  have n56 : ¬ (-5 : Int32) = -6 := by decide
  have n30 : ¬ (-3 : Int32) = 0 := by decide
  have n50 : ¬ (-5 : Int32) = 0 := by decide
  have tb := fun p => try_back h ht p
  obtain ⟨-, hFR, ⟨rfl, rfl, hv, -⟩ | ⟨rfl, rfl, hv⟩ | ⟨rfl, rfl⟩⟩ := ht
  · have hO := hv.1
    have e0 : W.1 0 0 0 = M.1 0 0 0 := by rw [hFR.2 0 (by decide), hk.1 0 (by decide)]
    have hat : isAt Z 1 p1 := by
      rw [← mSh_iff hO]
      have := (mSh_iff h.own p1).mpr c0
      unfold mSh at this ⊢
      rw [e0]; exact this
    simp only [if_true, if_pos hat]
    obtain ⟨hp, hb⟩ := hat
    obtain ⟨k, hk6, rfl, e⟩ := plc_k hp
    rw [e] at hb
    obtain ⟨r2, r3, r4, r5, -⟩ := hO.2.2.1 k hk6
    rw [e]
    unfold tX8_ofShip
    rw [e]
    rcases w04 c1 with rfl | rfl | rfl | rfl | rfl
    · simp only [if_true]; exact Ans.mk (by rw [(tb _).1, r2]) (tb _).2.1
    · simp only [zneq, if_true, if_false]; exact Ans.mk (by rw [(tb _).1, r5]) (tb _).2.1
    · simp only [zneq, if_true, if_false]; exact Ans.mk (by rw [(tb _).1, sums_eq hO hk6]) (tb _).2.1
    · simp only [zneq, if_true, if_false]
      refine Ans.mk ?_ (tb _).2.1
      rw [(tb _).1]
      unfold tX8_risk
      rw [e, r5, risk_eq hO hk6]
    · simp only [zneq, if_true, if_false]
      have hz := af_bit hO hk6 hb
      by_cases c2 : b01 (Z.1 1 k 1) = 0
      · rw [if_pos c2]; exact Ans.mk (by rw [(tb _).1]; exact (hz.mpr c2).symm) (tb _).2.1
      · rw [if_neg c2]
        refine Ans.mk ?_ (tb _).2.1
        rw [(tb _).1]
        exact ((hO.2.1.bit hk6).mpr ⟨hb, fun q => c2 (b01_nz.mpr q)⟩).symm
  · simp only [n36, n30, if_false]; exact Ans.mk (tb _).1.symm (tb _).2.1
  · simp only [n56, n50, if_false]; exact Ans.mk (tb _).1.symm (tb _).2.1
theorem E_done {S M : St} (h : Rel S M) : Ans (tX7_done S) (tX8_done M) := by
  unfold tX7_done tX8_done
  simp only [bnd_def]
  have ht := try_eq h
  have hk := keep_val M
  generalize (tX7_tryVoyages S).2 = Z at ht ⊢
  generalize (tX8_refusal M).2 = W at ht ⊢
  generalize (tX7_tryVoyages S).1 = a at ht ⊢
  generalize (tX8_refusal M).1 = b at ht ⊢
  have n36 : ¬ (-3 : Int32) = -6 := by decide
  have n56 : ¬ (-5 : Int32) = -6 := by decide
  have n30 : ¬ (-3 : Int32) = 0 := by decide
  have n50 : ¬ (-5 : Int32) = 0 := by decide
  have tb := fun p => try_back h ht p
  obtain ⟨hS, ⟨fb, f0⟩, ⟨rfl, rfl, hv, h22⟩ | ⟨rfl, rfl, hv⟩ | ⟨rfl, rfl⟩⟩ := ht
  · simp only [if_true]
    have hC := c2_val Z (o := 0) (o2 := 1) (by decide) 6 0 Z rfl
    generalize hCC : tX2_copyFrom Z 0 1 = C
    have hC' : LX2_copyFrom_2 Z 0 1 6 0 Z = C := hCC
    rw [hC'] at hC
    obtain ⟨a1, a2, a3, a4⟩ := hC
    have row : ∀ b, b ≠ 0 → b ≠ 2 → b ≠ 5 → b ≠ 6 → b ≠ 19 → b ≠ 20 → b ≠ 21 → b ≠ 28 → (up W 0 0 18 0).1 0 b = M.1 0 b := fun b b0 b2 b5 b6 b19 b20 b21 b28 => by rw [up_row_ne _ _ b0, fb b b0 b2 b5 b6 b19 b20 b21, hk.1 b b28]
    have r0 : ∀ r, r ≠ 0 → r ≠ 1 → r ≠ 5 → r ≠ 4 → (up C 4 0 0 0).1 r = S.1 r := fun r q0 q1 q5 q4 => by rw [up_r _ _ q4, a1 r q0, hS r q1 q5]
    refine ⟨?_, ?_, ?_, ?_, ?_, ?_, ?_⟩
    · show (up C 4 0 0 0).1 5 0 0 = (up W 0 0 18 0).1 0 0 22
      rw [up_r _ _ (by decide), a1 5 (by decide), h22]
      simp [up_val]
    · show OwnRel ((up C 4 0 0 0).1 0) ((up W 0 0 18 0).1 0 0) ((up W 0 0 18 0).1 0)
      rw [up_r _ _ (by decide)]
      exact hv.1.cg (fun k hk j hj => by rw [a3 k hk j hj, if_pos (by omega)]) (fun k hk j hj => by rw [a4 k hk j hj, if_pos (by omega)]) a2 (fun j hj => by simp [up_val, show ¬ j = 18 by omega]) (fun j hj => by simp [up_val, show ¬ 7 + j = 18 by omega]) (fun i hi k hk => by rw [up_row_ne _ _ (by omega)]) (fun k hk => by rw [up_row_ne _ _ (by omega)])
    · show OwnOk ((up C 4 0 0 0).1 0)
      rw [up_r _ _ (by decide)]
      exact hv.2.1.cg (fun k hk j hj => by rw [a3 k hk j hj, if_pos (by omega)]) (fun k hk j hj => by rw [a4 k hk j hj, if_pos (by omega)]) a2
    · refine ⟨?_, ?_, fun j hj => ?_⟩
      · simp [up_val]
      · simp [up_val]; decide
      · show (up W 0 0 18 0).1 0 17 j = (up C 4 0 0 0).1 4 1 j
        rw [row 17 (by decide) (by decide) (by decide) (by decide) (by decide) (by decide) (by decide) (by decide), up_row_ne _ _ (by decide), a1 4 (by decide), hS 4 (by decide) (by decide)]
        exact h.pad.2.2 j hj
    · show TalRel ((up C 4 0 0 0).1 6) ((up W 0 0 18 0).1 0 0 16) ((up W 0 0 18 0).1 0 13) ((up W 0 0 18 0).1 0 14) ((up W 0 0 18 0).1 0 15)
      have e16 : (up W 0 0 18 0).1 0 0 16 = M.1 0 0 16 := by
        have : (up W 0 0 18 0).1 0 0 16 = W.1 0 0 16 := by simp [up_val]
        rw [this, f0 16 (by decide), hk.1 0 (by decide)]
      rw [r0 6 (by decide) (by decide) (by decide) (by decide), e16, row 13 (by decide) (by decide) (by decide) (by decide) (by decide) (by decide) (by decide) (by decide), row 14 (by decide) (by decide) (by decide) (by decide) (by decide) (by decide) (by decide) (by decide), row 15 (by decide) (by decide) (by decide) (by decide) (by decide) (by decide) (by decide) (by decide)]
      exact h.tal
    · exact h.2.2.2.2.1.cong (r0 _ (by decide) (by decide) (by decide) (by decide)) (r0 _ (by decide) (by decide) (by decide) (by decide)) (r0 _ (by decide) (by decide) (by decide) (by decide)) (row 35 (by decide) (by decide) (by decide) (by decide) (by decide) (by decide) (by decide) (by decide)) (row 36 (by decide) (by decide) (by decide) (by decide) (by decide) (by decide) (by decide) (by decide))
    · exact h.2.2.2.2.2.cong (r0 _ (by decide) (by decide) (by decide) (by decide)) (r0 _ (by decide) (by decide) (by decide) (by decide)) (r0 _ (by decide) (by decide) (by decide) (by decide)) (row 35 (by decide) (by decide) (by decide) (by decide) (by decide) (by decide) (by decide) (by decide)) (row 36 (by decide) (by decide) (by decide) (by decide) (by decide) (by decide) (by decide) (by decide))
  · simp only [n36, n30, if_false]; exact Ans.mk (tb _).1.symm (tb _).2.1
  · simp only [n56, n50, if_false]; exact Ans.mk (tb _).1.symm (tb _).2.1
