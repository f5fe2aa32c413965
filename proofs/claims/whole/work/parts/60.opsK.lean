/-! ===== trying the voyages ===== -/
def FR (Z W : St) : Prop := (∀ b, b ≠ 0 → b ≠ 2 → b ≠ 5 → b ≠ 6 → b ≠ 19 → b ≠ 20 → b ≠ 21 → W.1 0 b = Z.1 0 b) ∧ ∀ j, j = 0 ∨ (1 < j ∧ j < 9) ∨ j = 16 ∨ j = 18 → W.1 0 0 j = Z.1 0 0 j
theorem FR.mp {Z W : St} (h : MP Z W) : FR Z W := ⟨fun b b0 _ _ _ b19 b20 b21 => h.1 b b0 b19 b20 b21, fun j hj => h.2 j (by omega)⟩
theorem FR.go {Z W V : St} (h : MP Z W) (g : GFr W V) : FR Z V := ⟨fun b b0 b2 b5 b6 b19 b20 b21 => by rw [g.1 b b0 b2 b5 b6, h.1 b b0 b19 b20 b21], fun j hj => by
  rw [g.2 j (by omega) (by omega) (by omega) (by omega) (by omega) (by omega) (by omega) (by omega) (by omega) (by omega) (by omega) (by omega), h.2 j (by omega)]⟩
def VR (Z W : St) : Prop := OwnRel (Z.1 1) (W.1 0 0) (W.1 0) ∧ OwnOk (Z.1 1) ∧ Z.1 5 0 1 = W.1 0 0 29 ∧ Z.1 5 0 2 = W.1 0 0 30 ∧ Z.1 5 0 3 = W.1 0 0 23 ∧ Z.1 5 0 4 = W.1 0 0 24 ∧ Z.1 5 0 5 = W.1 0 0 25 ∧ Z.1 5 0 6 = W.1 0 0 26
def TryOk (S M Z W : St) (a b : Int32) : Prop := (∀ r, r ≠ 1 → r ≠ 5 → Z.1 r = S.1 r) ∧ FR (tX8_keepNow M) W ∧
  ((a = 0 ∧ b = -6 ∧ VR Z W ∧ Z.1 5 0 0 = W.1 0 0 22) ∨ (a = -3 ∧ b = -3 ∧ VR Z W) ∨ (a = -5 ∧ b = -5))
theorem try_eq {S M : St} (h : Rel S M) : TryOk S M (tX7_tryVoyages S).2 (tX8_refusal M).2 (tX7_tryVoyages S).1 (tX8_refusal M).1 := by
  have hW0 := keep_val M
  unfold tX7_tryVoyages tX8_refusal
  simp only [bnd_def]
  have hZ := c2_val S (o := 1) (o2 := 0) (by decide) 6 0 S rfl
  generalize hC : tX2_copyFrom S 1 0 = C
  have hC' : LX2_copyFrom_2 S 1 0 6 0 S = C := hC
  rw [hC'] at hZ
  obtain ⟨a1, a2, a3, a4⟩ := hZ
  obtain ⟨w1, -⟩ := id hW0
  generalize hV0 : tX8_keepNow M = V0 at w1 hW0
  have w0 : V0.1 0 0 = M.1 0 0 := w1 0 (by decide)
  have hP : PadRel S V0 := h.pad.cong rfl (by rw [w0]) (w1 17 (by decide))
  have hPC : PadRel C V0 := h.pad.cong (a1 4 (by decide)) (by rw [w0]) (w1 17 (by decide))
  obtain ⟨f1, f2, -, f4⟩ := fault_eq hP
  obtain ⟨-, -, f3, -⟩ := fault_eq hPC
  rw [f1]
  generalize (tX8_fault V0).1 = r at f3 f4 ⊢
  generalize (tX8_fault V0).2 = V1 at f2 f3 ⊢
  by_cases c1 : r = -6
  · subst c1
    rw [if_pos rfl, if_pos (show (-6 : Int32) < 0 by decide)]
    obtain ⟨n, hn, h40, hF, h22, hE⟩ := f3 rfl
    have hO : OwnRel (C.1 1) (V1.1 0 0) (V1.1 0) := by
      have row : ∀ b, b ≠ 0 → b ≠ 19 → b ≠ 20 → b ≠ 21 → b ≠ 28 → V1.1 0 b = M.1 0 b := fun b b0 b1 b2 b3 b4 => by rw [f2.1 b b0 b1 b2 b3, w1 b b4]
      have sc : ∀ j, j ≠ 22 → V1.1 0 0 j = M.1 0 0 j := fun j hj => by rw [f2.2 j hj, w0]
      exact h.own.cg (fun k hk j hj => by rw [a3 k hk j hj, if_pos (by omega)]) (fun k hk j hj => by rw [a4 k hk j hj, if_pos (by omega)]) a2 (fun j hj => sc j (by omega)) (fun j hj => sc _ (by omega)) (fun i hi k hk => by rw [row _ (by omega) (by omega) (by omega) (by omega) (by omega)]) (fun k hk => by rw [row _ (by omega) (by omega) (by omega) (by omega) (by omega)])
    have hK : OwnOk (C.1 1) := h.ok.cg (fun k hk j hj => by rw [a3 k hk j hj, if_pos (by omega)]) (fun k hk j hj => by rw [a4 k hk j hj, if_pos (by omega)]) a2
    obtain ⟨⟨q1, q2, q3, q4, q5, q6, q7, q8, q9, q10⟩, qs⟩ := run_eq (S := C) (M := V1) (o := 1) (by decide) (by decide) hn h40 h22 hE hO hK
    generalize tX6_run C 1 = Z at q1 q2 q3 q5 q6 q7 q8 q9 q10 qs ⊢
    generalize tX8_goVoyages V1 = W at q1 q4 q5 q6 q7 q8 q9 q10 qs ⊢
    have hfr : ∀ r, r ≠ 1 → r ≠ 5 → Z.1 r = S.1 r := fun r r1 r5 => by rw [q3 r r1 r5, a1 r r1]
    have hFR : FR (tX8_keepNow M) W := by rw [hV0]; exact FR.go f2 q4
    rcases qs with ⟨s1, s2, s3⟩ | ⟨s1, s2⟩
    · rw [if_pos s1, if_pos (show W.1 0 0 29 < 0 by rw [← q5, s1]; decide)]
      refine ⟨hfr, hFR, Or.inl ⟨rfl, rfl, ⟨q1, q2, q5, q6, q7, q8, q9, q10⟩, ?_⟩⟩
      show Z.1 5 0 0 = W.1 0 0 22
      rw [s2, q4.2 22 (by decide) (by decide) (by decide) (by decide) (by decide) (by decide) (by decide) (by decide) (by decide) (by decide) (by decide) (by decide), h22]
    · rw [if_neg s2, if_neg (show ¬ W.1 0 0 29 < 0 from Int32.not_lt.mpr s1)]
      exact ⟨hfr, hFR, Or.inr (Or.inl ⟨rfl, rfl, ⟨q1, q2, q5, q6, q7, q8, q9, q10⟩⟩)⟩
  · have c2 : 0 ≤ r := f4.resolve_left c1
    rw [if_neg c1, if_neg (Int32.not_lt.mpr c2)]
    exact ⟨fun _ _ _ => rfl, by rw [hV0]; exact FR.mp f2, Or.inr (Or.inr ⟨rfl, rfl⟩)⟩
theorem E_fault {S M : St} (h : Rel S M) : tX7_fault S = (tX8_fault M).1 ∧ Rel S (tX8_fault M).2 := by
  obtain ⟨f1, f2, -, -⟩ := fault_eq h.pad
  refine ⟨f1, h.mb (fun _ _ _ _ => rfl) ?_⟩
  have row : ∀ b, b ≠ 0 → b ≠ 19 → b ≠ 20 → b ≠ 21 → (tX8_fault M).2.1 0 b = M.1 0 b := f2.1
  exact ⟨fun k _ => ⟨by rw [row 2 (by decide) (by decide) (by decide) (by decide)], by rw [row 5 (by decide) (by decide) (by decide) (by decide)]⟩, fun j _ => by rw [row 6 (by decide) (by decide) (by decide) (by decide)], fun j hj => f2.2 j (by omega), f2.2 16 (by decide), f2.2 18 (by decide), row _ (by decide) (by decide) (by decide) (by decide), row _ (by decide) (by decide) (by decide) (by decide), row _ (by decide) (by decide) (by decide) (by decide), row _ (by decide) (by decide) (by decide) (by decide), row _ (by decide) (by decide) (by decide) (by decide), row _ (by decide) (by decide) (by decide) (by decide), row _ (by decide) (by decide) (by decide) (by decide), row _ (by decide) (by decide) (by decide) (by decide)⟩
/-- after trying and putting back, whatever is answered -/
theorem try_back {S M Z W : St} {a b : Int32} (h : Rel S M) (ht : TryOk S M Z W a b) (p : Int32) : (tX8_back W p).1 = p ∧ Rel Z (tX8_back W p).2 ∧ ∀ j, j ≠ 1 → j ≠ 9 → j ≠ 10 → j ≠ 11 → j ≠ 12 → (tX8_back W p).2.1 0 0 j = W.1 0 0 j := by
  obtain ⟨t1, ⟨t2, t3⟩, -⟩ := ht
  obtain ⟨b1, b2⟩ := back_val W p
  exact ⟨b1, h.mb (fun r r1 r5 _ => t1 r r1 r5) (mb_back (keep_val M) (t2 28 (by decide) (by decide) (by decide) (by decide) (by decide) (by decide) (by decide)) t2 t3 b2), b2.2.2.2.2.2.2.2.2⟩
theorem w02 {x : Int32} (h : wi x 0 2) : x = 0 ∨ x = 1 ∨ x = 2 := by
  obtain ⟨k, hk, rfl, -⟩ := wi2_k h
  rcases (by omega : k = 0 ∨ k = 1 ∨ k = 2) with rfl | rfl | rfl
  · exact Or.inl rfl
  · exact Or.inr (Or.inl rfl)
  · exact Or.inr (Or.inr rfl)
theorem E_judge {S M : St} (h : Rel S M) (p1 : Int32) : Ans (tX7_judge S p1) (tX8_judge M p1) := by
  unfold tX7_judge tX8_judge
  simp only [wj2, bnd_def]
  by_cases c1 : wi p1 0 2
  rotate_left
  · simp only [if_neg c1]; exact Ans.same h
  rw [if_pos c1, if_pos c1]
  have ht := try_eq h
  generalize (tX7_tryVoyages S).2 = Z at ht ⊢
  generalize (tX8_refusal M).2 = W at ht ⊢
  generalize (tX7_tryVoyages S).1 = a at ht ⊢
  generalize (tX8_refusal M).1 = b at ht ⊢
  obtain ⟨b1, b2, b3⟩ := try_back h ht b
  generalize (tX8_back W b).2 = V at b2 b3 ⊢
  rw [b1]
  have v29 := b3 29 (by decide) (by decide) (by decide) (by decide) (by decide)
  have v30 := b3 30 (by decide) (by decide) (by decide) (by decide) (by decide)
  have v23 := b3 23 (by decide) (by decide) (by decide) (by decide) (by decide)
  have n35 : ¬ (-3 : Int32) = -5 := by decide
  have n65 : ¬ (-6 : Int32) = -5 := by decide
  have n05 : ¬ (0 : Int32) = -5 := by decide
  have n63 : ¬ (-6 : Int32) = -3 := by decide
  have n30 : ¬ (-3 : Int32) = 0 := by decide
  have l01 : (0 : Int32) ≤ 1 := by decide
  have l21 : ¬ (2 : Int32) ≤ 1 := by decide
  obtain ⟨-, -, ⟨rfl, rfl, hv, -⟩ | ⟨rfl, rfl, hv⟩ | ⟨rfl, rfl⟩⟩ := ht
  · obtain ⟨-, -, e1, e2, e3, -⟩ := hv
    rcases w02 c1 with rfl | rfl | rfl
    · simp only [n65, n05, l01, if_true, if_false, v29]; exact Ans.mk e1 b2
    · simp only [n65, n05, zneq, Int32.le_refl, if_true, if_false, v30]; exact Ans.mk e2 b2
    · simp only [n65, n05, n63, zneq, l21, if_true, if_false, v23]; exact Ans.mk e3 b2
  · obtain ⟨-, -, e1, e2, e3, -⟩ := hv
    rcases w02 c1 with rfl | rfl | rfl
    · simp only [n35, l01, if_true, if_false, v29]; exact Ans.mk e1 b2
    · simp only [n35, zneq, Int32.le_refl, if_true, if_false, v30]; exact Ans.mk e2 b2
    · simp only [n35, n30, zneq, l21, if_true, if_false]; exact Ans.mk rfl b2
  · simp only [if_true]; exact Ans.mk rfl b2
theorem E_sunk {S M : St} (h : Rel S M) (p1 : Int32) : Ans (tX7_sunk S p1) (tX8_sunk M p1) := by
  unfold tX7_sunk tX8_sunk
  simp only [wj2, bnd_def]
  by_cases c1 : wi p1 0 2
  rotate_left
  · simp only [if_neg c1]; exact Ans.same h
  rw [if_pos c1, if_pos c1]
  have ht := try_eq h
  generalize (tX7_tryVoyages S).2 = Z at ht ⊢
  generalize (tX8_refusal M).2 = W at ht ⊢
  generalize (tX7_tryVoyages S).1 = a at ht ⊢
  generalize (tX8_refusal M).1 = b at ht ⊢
  obtain ⟨b1, b2, b3⟩ := try_back h ht b
  generalize (tX8_back W b).2 = V at b2 b3 ⊢
  rw [b1]
  have v24 := b3 24 (by decide) (by decide) (by decide) (by decide) (by decide)
  have v25 := b3 25 (by decide) (by decide) (by decide) (by decide) (by decide)
  have v26 := b3 26 (by decide) (by decide) (by decide) (by decide) (by decide)
  have n36 : ¬ (-3 : Int32) = -6 := by decide
  have n56 : ¬ (-5 : Int32) = -6 := by decide
  have n30 : ¬ (-3 : Int32) = 0 := by decide
  have n50 : ¬ (-5 : Int32) = 0 := by decide
  obtain ⟨-, -, ⟨rfl, rfl, hv, -⟩ | ⟨rfl, rfl, hv⟩ | ⟨rfl, rfl⟩⟩ := ht
  · obtain ⟨-, -, -, -, -, e4, e5, e6⟩ := hv
    rcases w02 c1 with rfl | rfl | rfl
    · simp only [if_true, v24]; exact Ans.mk e4 b2
    · simp only [zneq, if_true, if_false, v25]; exact Ans.mk e5 b2
    · simp only [zneq, if_true, if_false, v26]; exact Ans.mk e6 b2
  · simp only [n36, n30, if_false]; exact Ans.mk rfl b2
  · simp only [n56, n50, if_false]; exact Ans.mk rfl b2
