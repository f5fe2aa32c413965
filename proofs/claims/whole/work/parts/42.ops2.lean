theorem wi2_k {x : Int32} (h : wi x 0 2) : ∃ e, e < 3 ∧ x = nI e ∧ x.toNatClampNeg = e := by
  obtain ⟨k, hk, e⟩ := wi_k (n := 2) h rfl (by decide)
  exact ⟨k, by omega, e⟩
theorem sumAt_nI (S : St) (o k : Nat) {e : Nat} (he : e < 3) : tX4_sumAt S o k (nI e) = S.1 o (10 + k) e := by
  unfold tX4_sumAt
  rw [if_neg (nI_pos (by omega)), if_neg (show ¬ (3 : Int32) ≤ nI e from nI_ge (a := e) (b := 3) he (by decide)), nI_clamp (by omega)]
theorem putSum_nI (S : St) (o k : Nat) (v : Int32) {e : Nat} (he : e < 3) : tX4_putSum S o k (nI e) v = up S o (10 + k) e v := by
  unfold tX4_putSum
  rw [if_neg (nI_pos (by omega)), if_neg (show ¬ (3 : Int32) ≤ nI e from nI_ge (a := e) (b := 3) he (by decide)), nI_clamp (by omega)]
/-- a sum of a ship anew -/
theorem own_sum {ow ow' : Nat → Nat → Int32} {sc : Nat → Int32} {ar ar' : Nat → Nat → Int32} {k e : Nat} {v : Int32} (hk : k < 6) (he : e < 3) (h : OwnRel ow sc ar)
    (h1 : ∀ i j, ow' i j = if i = 10 + k ∧ j = e then v else ow i j) (h2 : ∀ i j, 0 < i → ar' i j = if i = 6 ∧ j = 3 * k + e then v else ar i j) : OwnRel ow' sc ar' := by
  obtain ⟨b0, b1, hr, hs⟩ := h
  have n6 : ¬ 6 = 10 + k := by omega
  refine ⟨b0.cong (fun j hj => ?_), b1.cong (fun j hj => ?_), fun j hj => ?_, ?_⟩
  · rw [h1]; simp [show ¬ j = 10 + k by omega]
  · rw [h1, h1]; simp [show ¬ j = 10 + k by omega]
  · obtain ⟨r1, r2, r3, r4, r5⟩ := hr j hj
    have nj : ¬ j = 10 + k := by omega
    simp only [h1]
    rw [h2 2 j (by decide), h2 3 j (by decide), h2 4 j (by decide), h2 5 j (by decide)]
    simp [nj, r1, r2, r3, r4]
    intro f hf
    rw [h2 6 _ (by decide)]
    by_cases hq : j = k ∧ f = e
    · obtain ⟨rfl, rfl⟩ := hq; simp
    · have q1 : ¬ 3 * j + f = 3 * k + e := by omega
      have q2 : ¬ (j = k ∧ f = e) := hq
      simp [q1, q2]
      exact r5 f hf
  · simp only [h1]
    simp [n6]
    exact hs
theorem ok_sum {ow ow' : Nat → Nat → Int32} {k e : Nat} {v : Int32} (hk : k < 6) (hv : wi v 0 99) (h : OwnOk ow) (h1 : ∀ i j, ow' i j = if i = 10 + k ∧ j = e then v else ow i j) : OwnOk ow' := by
  obtain ⟨k1, k2⟩ := h
  have n6 : ¬ 6 = 10 + k := by omega
  refine ⟨fun j hj => ?_, ?_⟩
  · obtain ⟨a1, a2, a3, a4⟩ := k1 j hj
    simp only [h1]
    simp only [show ¬ j = 10 + k by omega, false_and, if_false]
    refine ⟨a1, a2, a3, fun f hf => ?_⟩
    split
    · exact hv
    · exact a4 f hf
  · simp only [h1]
    simpa [n6] using k2
theorem E_insure {S M : St} (h : Rel S M) (p1 p2 p3 : Int32) : Ans (tX7_insure S p1 p2 p3) (tX8_insure M p1 p2 p3) := by
  unfold tX7_insure tX8_insure
  have hO := h.own
  simp only [mSh_iff hO, wj2, wj99]
  by_cases c1 : isAt S 0 p1
  rotate_left
  · simp only [if_neg c1]; exact Ans.same h
  by_cases c2 : wi p2 0 2
  rotate_left
  · simp only [if_pos c1, if_neg c2]; exact Ans.same h
  by_cases c3 : wi p3 0 99
  rotate_left
  · simp only [if_pos c1, if_pos c2, if_neg c3]; exact Ans.same h
  simp only [if_pos c1, if_pos c2, if_pos c3, bnd_def]
  obtain ⟨k, hk, rfl, e⟩ := plc_k c1.1
  obtain ⟨f, hf, rfl, ef⟩ := wi2_k c2
  rw [e, sumAt_nI _ _ _ hf, putSum_nI _ _ _ _ hf, sidxE k hk f hf]
  have h1 : ∀ i j, (up S 0 (10 + k) f p3).1 0 i j = if i = 10 + k ∧ j = f then p3 else S.1 0 i j := fun i j => by simp [up_val]
  refine ⟨((hO.2.2.1 k hk).2.2.2.2 f hf).symm, h.ofOwn ?_ (ok_sum hk c3 h.ok h1) (fun r h0 _ _ _ => up_r _ _ h0) ?_ ?_ ?_ ?_ ?_ ?_ ?_ ?_⟩
  · have e0 : (up M 0 6 (3 * k + f) p3).1 0 0 = M.1 0 0 := by funext j; simp [up_val]
    show OwnRel _ ((up M 0 6 (3 * k + f) p3).1 0 0) _
    rw [e0]
    exact own_sum hk hf hO h1 (fun i j hi => by simp [up_val])
  all_goals first | (funext j; simp [up_val]; done) | simp [up_val]
theorem E_load {S M : St} (h : Rel S M) (p1 p2 : Int32) : Ans (tX7_load S p1 p2) (tX8_load M p1 p2) := by
  unfold tX7_load tX8_load
  have hO := h.own
  simp only [mSh_iff hO, wj9]
  by_cases c1 : isAt S 0 p1
  rotate_left
  · simp only [if_neg c1]; exact Ans.same h
  by_cases c2 : wi p2 0 9
  rotate_left
  · simp only [if_pos c1, if_neg c2]; exact Ans.same h
  simp only [if_pos c1, if_pos c2]
  obtain ⟨k, hk, rfl, e⟩ := plc_k c1.1
  rw [e]
  have h10 : ∀ j, ¬ 10 + j = k := by omega
  have h6 : ¬ 6 = k := by omega
  refine ⟨(hO.2.2.1 k hk).2.2.2.1.symm, h.ofOwn ?_ ?_ (fun r h0 _ _ _ => up_r _ _ h0) ?_ ?_ ?_ ?_ ?_ ?_ ?_ ?_⟩
  · obtain ⟨b0, b1, hr, hs⟩ := hO
    refine ⟨?_, ?_, fun j hj => ?_, ?_⟩
    · simp only [up_val]; simpa using b0
    · simp only [up_val]; simpa using b1
    · obtain ⟨r1, r2, r3, r4, r5⟩ := hr j hj
      simp only [up_val]
      simp [h10, r1, r2, r3, r4]
      exact r5
    · simp only [up_val]
      simpa [h6] using hs
  · obtain ⟨k1, k2⟩ := h.ok
    refine ⟨fun j hj => ?_, ?_⟩
    · obtain ⟨a1, a2, a3, a4⟩ := k1 j hj
      simp only [up_val]
      simp only [h10, false_and, and_false, if_false]
      refine ⟨by simpa using a1, by simpa using a2, ?_, a4⟩
      split
      · exact c2
      · exact a3
    · simp only [up_val]
      simpa [h6] using k2
  all_goals first | (funext j; simp [up_val]; done) | simp [up_val]
theorem E_wipe {S M : St} (h : Rel S M) : Ans (tX7_wipe S) (tX8_wipe M) := by
  unfold tX7_wipe tX8_wipe
  obtain ⟨hO, hK, hP, hT, hI0, hI1⟩ := h
  refine ⟨hP.1.symm, ?_, ?_, ?_, ?_, hI0.cong (up_r _ _ (by decide)) (up_r _ _ (by decide)) (up_r _ _ (by decide)) (up_row_ne _ _ (by decide)) (up_row_ne _ _ (by decide)), hI1.cong (up_r _ _ (by decide)) (up_r _ _ (by decide)) (up_r _ _ (by decide)) (up_row_ne _ _ (by decide)) (up_row_ne _ _ (by decide))⟩
  · rw [up_r _ _ (by decide)]
    obtain ⟨b0, b1, hr, hs⟩ := hO
    refine ⟨?_, ?_, fun j hj => ?_, ?_⟩
    · simp only [up_val]; simpa using b0
    · simp only [up_val]; simpa using b1
    · simp only [up_val]; simpa using hr j hj
    · simp only [up_val]; simpa using hs
  · rw [up_r _ _ (by decide)]; exact hK
  · refine ⟨by simp [up_val], by simp [up_val]; decide, fun j hj => ?_⟩
    simp only [up_val]
    simpa using hP.2.2 j hj
  · rw [up_r _ _ (by decide)]
    have e : (up M 0 0 18 0).1 0 0 16 = M.1 0 0 16 := by simp [up_val]
    show TalRel _ ((up M 0 0 18 0).1 0 0 16) _ _ _
    rw [e, up_row_ne _ _ (by decide), up_row_ne _ _ (by decide), up_row_ne _ _ (by decide)]
    exact hT
