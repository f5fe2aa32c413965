theorem OwnRel.cg {ow ow' : Nat → Nat → Int32} {sc sc' : Nat → Int32} {ar ar' : Nat → Nat → Int32} (h : OwnRel ow sc ar)
    (h1 : ∀ k, k < 6 → ∀ j, j < 6 → ow' k j = ow k j) (h2 : ∀ k, k < 6 → ∀ e, e < 3 → ow' (10 + k) e = ow (10 + k) e) (h3 : ∀ j, j < 6 → ow' 6 j = ow 6 j)
    (h4 : ∀ j, j < 2 → sc' j = sc j) (h5 : ∀ j, j < 6 → sc' (7 + j) = sc (7 + j)) (h6 : ∀ i, i < 4 → ∀ k, k < 6 → ar' (2 + i) k = ar (2 + i) k) (h7 : ∀ k, k < 18 → ar' 6 k = ar 6 k) : OwnRel ow' sc' ar' := by
  obtain ⟨b0, b1, hr, s7, s8, s9, s10, s11, s12⟩ := h
  refine ⟨?_, ?_, fun k hk => ?_, ?_, ?_, ?_, ?_, ?_, ?_⟩
  · rw [h4 0 (by decide)]; exact b0.cong (fun k hk => by rw [h1 k hk 0 (by decide)])
  · rw [h4 1 (by decide)]; exact b1.cong (fun k hk => by rw [h1 k hk 0 (by decide), h1 k hk 1 (by decide)])
  · obtain ⟨r2, r3, r4, r5, r6⟩ := hr k hk
    rw [h6 0 (by decide) k hk, h6 1 (by decide) k hk, h6 2 (by decide) k hk, h6 3 (by decide) k hk, h1 k hk 2 (by decide), h1 k hk 3 (by decide), h1 k hk 4 (by decide), h1 k hk 5 (by decide)]
    exact ⟨r2, r3, r4, r5, fun e he => by rw [h7 _ (by omega), h2 k hk e he]; exact r6 e he⟩
  · rw [h5 0 (by decide), h3 0 (by decide)]; exact s7
  · rw [h5 1 (by decide), h3 1 (by decide)]; exact s8
  · rw [h5 2 (by decide), h3 2 (by decide)]; exact s9
  · rw [h5 3 (by decide), h3 3 (by decide)]; exact s10
  · rw [h5 4 (by decide), h3 4 (by decide)]; exact s11
  · rw [h5 5 (by decide), h3 5 (by decide)]; exact s12
theorem OwnOk.cg {ow ow' : Nat → Nat → Int32} (h : OwnOk ow) (h1 : ∀ k, k < 6 → ∀ j, j < 6 → ow' k j = ow k j) (h2 : ∀ k, k < 6 → ∀ e, e < 3 → ow' (10 + k) e = ow (10 + k) e) (h3 : ∀ j, j < 6 → ow' 6 j = ow 6 j) : OwnOk ow' := by
  obtain ⟨k1, k2, k3, k4⟩ := h
  refine ⟨fun k hk => ?_, ?_, ?_, ?_⟩
  · obtain ⟨a1, a2, a3, a4⟩ := k1 k hk
    rw [h1 k hk 2 (by decide), h1 k hk 3 (by decide), h1 k hk 5 (by decide)]
    exact ⟨a1, a2, a3, fun e he => by rw [h2 k hk e he]; exact a4 e he⟩
  · rw [h3 1 (by decide)]; exact k2
  · rw [h3 2 (by decide)]; exact k3
  · rw [h3 3 (by decide)]; exact k4
theorem TalRel.cg {tl tl' : Nat → Nat → Int32} {c c' : Int32} {t1 t2 t3 t1' t2' t3' : Nat → Int32} (h : TalRel tl c t1 t2 t3) (h0 : tl' 0 0 = tl 0 0) (hb : ∀ b, 1 ≤ b → b ≤ 3 → ∀ e, e < 8 → tl' b e = tl b e)
    (hc : c' = c) (h1 : ∀ e, e < 8 → t1' e = t1 e) (h2 : ∀ e, e < 8 → t2' e = t2 e) (h3 : ∀ e, e < 8 → t3' e = t3 e) : TalRel tl' c' t1' t2' t3' := by
  obtain ⟨e0, e1, e2⟩ := h
  refine ⟨by rw [hc, h0, e0], by rw [h0]; exact e1, fun e he => ?_⟩
  rw [h1 e he, h2 e he, h3 e he, hb 1 (by decide) (by decide) e he, hb 2 (by decide) (by decide) e he, hb 3 (by decide) (by decide) e he]
  exact e2 e he
theorem ImgRel.cg {q : Nat} {S M S' M' : St} (h : ImgRel q S M) (h1 : S'.1 (10 + q) = S.1 (10 + q)) (h2 : S'.1 (q + 2) = S.1 (q + 2)) (h3 : S'.1 (6 + (q + 1)) = S.1 (6 + (q + 1))) (h35 : ∀ j, j < 75 → M'.1 0 35 (90 * q + j) = M.1 0 35 (90 * q + j)) (h36 : M'.1 0 36 q = M.1 0 36 q) : ImgRel q S' M' := by
  unfold ImgRel at h ⊢
  rw [h1, h2, h3, h36]
  refine ⟨h.1, fun hz => ?_⟩
  obtain ⟨a, b, c⟩ := h.2 hz
  refine ⟨a.cg (fun _ _ _ _ => rfl) (fun _ _ _ _ => rfl) (fun _ _ => rfl) (fun j hj => ?_) (fun j hj => ?_) (fun i hi k hk => ?_) (fun k hk => ?_), b, c.cg rfl (fun _ _ _ _ _ => rfl) (h35 8 (by decide)) (fun e he => h35 _ (by omega)) (fun e he => h35 _ (by omega)) (fun e he => h35 _ (by omega))⟩
  · simp only [kSc, if_pos hj]; exact h35 j (by omega)
  · simp only [kSc, if_neg (show ¬ 7 + j < 2 by omega)]; exact h35 _ (by omega)
  · simp only [kAr, if_pos (show 2 + i < 6 by omega)]; exact h35 _ (by omega)
  · simp only [kAr, if_neg (show ¬ 6 < 6 by omega)]; exact h35 _ (by omega)
theorem wi1_k {x : Int32} (h : wi x 0 1) : ∃ q, (q = 0 ∨ q = 1) ∧ x = nI q := by
  obtain ⟨k, hk, e, -⟩ := wi_k (n := 1) h rfl (by decide)
  exact ⟨k, by omega, e⟩
theorem ikc_iff (x : Int32) : ikc x ↔ wi x 0 1 := by
  unfold ikc wi
  rw [Int32.lt_iff_toInt_lt, Int32.le_iff_toInt_le, Int32.le_iff_toInt_le, ti0, ti1, ti2]
  omega
/-- where a slot of the kept row comes from -/
theorem zp_sc : ∀ s, s < 9 → zpi s = 0 ∧ zpj s = if s < 2 then s else if s < 8 then s + 5 else 16 := by decide +kernel
theorem zp_ar : ∀ i, i < 4 → ∀ k, k < 6 → zpi (6 * (2 + i) - 3 + k) = 2 + i ∧ zpj (6 * (2 + i) - 3 + k) = k := by decide +kernel
theorem zp_su : ∀ k, k < 18 → zpi (33 + k) = 6 ∧ zpj (33 + k) = k := by decide +kernel
theorem zp_tl : ∀ e, e < 8 → (zpi (51 + e) = 13 ∧ zpj (51 + e) = e) ∧ (zpi (59 + e) = 14 ∧ zpj (59 + e) = e) ∧ (zpi (67 + e) = 15 ∧ zpj (67 + e) = e) := by decide +kernel
/-- the kept row is the reference's rows -/
theorem kept_own {ow ow' : Nat → Nat → Int32} {K : Nat → Int32} {R : Nat → Nat → Int32} (hK : ∀ s, s < 75 → K s = R (zpi s) (zpj s)) (h : OwnRel ow (R 0) R)
    (h1 : ∀ k, k < 6 → ∀ j, j < 6 → ow' k j = ow k j) (h2 : ∀ k, k < 6 → ∀ e, e < 3 → ow' (10 + k) e = ow (10 + k) e) (h3 : ∀ j, j < 6 → ow' 6 j = ow 6 j) : OwnRel ow' (kSc K) (kAr K) := by
  refine h.cg h1 h2 h3 (fun j hj => ?_) (fun j hj => ?_) (fun i hi k hk => ?_) (fun k hk => ?_)
  · obtain ⟨e1, e2⟩ := zp_sc j (by omega)
    rw [if_pos hj] at e2
    simp only [kSc, if_pos hj]
    rw [hK j (by omega), e1, e2]
  · obtain ⟨e1, e2⟩ := zp_sc (2 + j) (by omega)
    rw [if_neg (by omega), if_pos (by omega)] at e2
    simp only [kSc, if_neg (show ¬ 7 + j < 2 by omega)]
    rw [show 7 + j - 5 = 2 + j by omega, hK _ (by omega), e1, e2, show 2 + j + 5 = 7 + j by omega]
  · obtain ⟨e1, e2⟩ := zp_ar i hi k hk
    simp only [kAr, if_pos (show 2 + i < 6 by omega)]
    rw [hK _ (by omega), e1, e2]
  · obtain ⟨e1, e2⟩ := zp_su k hk
    simp only [kAr, if_neg (show ¬ 6 < 6 by omega)]
    rw [hK _ (by omega), e1, e2]
theorem back_own {ow ow' : Nat → Nat → Int32} {K : Nat → Int32} {R : Nat → Nat → Int32} (hK : ∀ s, s < 75 → R (zpi s) (zpj s) = K s) (h : OwnRel ow (kSc K) (kAr K))
    (h1 : ∀ k, k < 6 → ∀ j, j < 6 → ow' k j = ow k j) (h2 : ∀ k, k < 6 → ∀ e, e < 3 → ow' (10 + k) e = ow (10 + k) e) (h3 : ∀ j, j < 6 → ow' 6 j = ow 6 j) : OwnRel ow' (R 0) R := by
  refine h.cg h1 h2 h3 (fun j hj => ?_) (fun j hj => ?_) (fun i hi k hk => ?_) (fun k hk => ?_)
  · obtain ⟨e1, e2⟩ := zp_sc j (by omega)
    rw [if_pos hj] at e2
    simp only [kSc, if_pos hj]
    have := hK j (by omega)
    rw [e1, e2] at this
    exact this
  · obtain ⟨e1, e2⟩ := zp_sc (2 + j) (by omega)
    rw [if_neg (by omega), if_pos (by omega)] at e2
    simp only [kSc, if_neg (show ¬ 7 + j < 2 by omega)]
    have := hK (2 + j) (by omega)
    rw [e1, e2, show 2 + j + 5 = 7 + j by omega] at this
    rw [show 7 + j - 5 = 2 + j by omega]
    exact this
  · obtain ⟨e1, e2⟩ := zp_ar i hi k hk
    simp only [kAr, if_pos (show 2 + i < 6 by omega)]
    have := hK (6 * (2 + i) - 3 + k) (by omega)
    rw [e1, e2] at this
    exact this
  · obtain ⟨e1, e2⟩ := zp_su k hk
    simp only [kAr, if_neg (show ¬ 6 < 6 by omega)]
    have := hK (33 + k) (by omega)
    rw [e1, e2] at this
    exact this
theorem kept_tal {tl tl' : Nat → Nat → Int32} {K : Nat → Int32} {R : Nat → Nat → Int32} (hK : ∀ s, s < 75 → K s = R (zpi s) (zpj s)) (h : TalRel tl (R 0 16) (R 13) (R 14) (R 15)) (h0 : tl' 0 0 = tl 0 0) (hb : ∀ b, 1 ≤ b → b ≤ 3 → ∀ e, e < 8 → tl' b e = tl b e) :
    TalRel tl' (K 8) (fun e => K (51 + e)) (fun e => K (59 + e)) (fun e => K (67 + e)) := by
  refine h.cg h0 hb (hK 8 (by decide)) (fun e he => ?_) (fun e he => ?_) (fun e he => ?_)
  · have := hK (51 + e) (by omega)
    rw [(zp_tl e he).1.1, (zp_tl e he).1.2] at this
    exact this
  · have := hK (59 + e) (by omega)
    rw [(zp_tl e he).2.1.1, (zp_tl e he).2.1.2] at this
    exact this
  · have := hK (67 + e) (by omega)
    rw [(zp_tl e he).2.2.1, (zp_tl e he).2.2.2] at this
    exact this
theorem back_tal {tl tl' : Nat → Nat → Int32} {K : Nat → Int32} {R : Nat → Nat → Int32} (hK : ∀ s, s < 75 → R (zpi s) (zpj s) = K s) (h : TalRel tl (K 8) (fun e => K (51 + e)) (fun e => K (59 + e)) (fun e => K (67 + e))) (h0 : tl' 0 0 = tl 0 0) (hb : ∀ b, 1 ≤ b → b ≤ 3 → ∀ e, e < 8 → tl' b e = tl b e) :
    TalRel tl' (R 0 16) (R 13) (R 14) (R 15) := by
  refine h.cg h0 hb (hK 8 (by decide)) (fun e he => ?_) (fun e he => ?_) (fun e he => ?_)
  · have := hK (51 + e) (by omega)
    rw [(zp_tl e he).1.1, (zp_tl e he).1.2] at this
    exact this
  · have := hK (59 + e) (by omega)
    rw [(zp_tl e he).2.1.1, (zp_tl e he).2.1.2] at this
    exact this
  · have := hK (67 + e) (by omega)
    rw [(zp_tl e he).2.2.1, (zp_tl e he).2.2.2] at this
    exact this
theorem z90 : ∀ q, q < 2 → (90 : Int32) * nI q = nI (90 * q) := by decide
theorem E_image {S M : St} (h : Rel S M) (p1 : Int32) : Ans (tX7_image S p1) (tX8_image M p1) := by
  unfold tX7_image tX8_image
  simp only [wj1, ikc_iff, bnd_def]
  by_cases c1 : wi p1 0 1
  rotate_left
  · simp only [if_neg c1]; exact Ans.same h
  simp only [if_pos c1]
  obtain ⟨q, hq, rfl⟩ := wi1_k c1
  have hq2 : q < 2 := by omega
  rw [nI_clamp (by omega), z90 q hq2]
  obtain ⟨a1, -, a3, a4⟩ := c2_val S (o := q + 2) (o2 := 0) (by omega) 6 0 S rfl
  have a2 := (c2_val S (o := q + 2) (o2 := 0) (by omega) 6 0 S rfl).2.1
  generalize hA : tX2_copyFrom S (q + 2) 0 = A
  have hA' : LX2_copyFrom_2 S (q + 2) 0 6 0 S = A := hA
  rw [hA'] at a1 a2 a3 a4
  obtain ⟨b1, b2, b3⟩ := c5_val A (t := q + 1) (t2 := 0) (by omega) 8 0 A rfl
  generalize hB : tX5_copyFrom A (q + 1) 0 = B
  have hB' : LX5_copyFrom_2 A (q + 1) 0 8 0 A = B := hB
  rw [hB'] at b1 b2 b3
  generalize hM1 : up (up M 0 0 37 (nI (90 * q))) 0 0 38 1 = M1
  have m1 : ∀ i j, ¬ (i = 0 ∧ j = 37) → ¬ (i = 0 ∧ j = 38) → M1.1 0 i j = M.1 0 i j := fun i j h7 h8 => by subst hM1; simp [up_val, h7, h8]
  have hW : Wr M1 M1 (90 * q) 0 := by
    refine ⟨by subst hM1; simp [up_val], by subst hM1; simp [up_val, b01], fun j => ?_, fun i j hi hj => rfl⟩
    rw [if_neg (by omega)]
  obtain ⟨-, -, z35, zf⟩ := wr_all (by omega) hW
  generalize tX8_passAll M1 = Z at z35 zf ⊢
  generalize hS' : up B (10 + q) 0 0 1 = S'
  generalize hM' : up Z 0 36 q 1 = M'
  have fM : ∀ i j, i ≠ 35 → i ≠ 36 → ¬ (i = 0 ∧ j = 37) → ¬ (i = 0 ∧ j = 38) → M'.1 0 i j = M.1 0 i j := fun i j h5 h6 h7 h8 => by
    subst hM'
    rw [up_row_ne _ _ h6, zf i j h5 h7, m1 i j h7 h8]
  have fR : ∀ i, i ≠ 0 → i ≠ 35 → i ≠ 36 → M'.1 0 i = M.1 0 i := fun i h0 h5 h6 => by funext j; exact fM i j h5 h6 (fun w => h0 w.1) (fun w => h0 w.1)
  have f35 : ∀ j, M'.1 0 35 j = Z.1 0 35 j := fun j => by subst hM'; rw [up_row_ne _ _ (by decide)]
  have f36 : ∀ j, M'.1 0 36 j = if j = q then 1 else M.1 0 36 j := fun j => by
    subst hM'
    simp only [up_val, true_and]
    rw [zf 36 j (by decide) (by omega), m1 36 j (by omega) (by omega)]
  have fS : ∀ r, r ≠ q + 2 → r ≠ 6 + (q + 1) → r ≠ 10 + q → S'.1 r = S.1 r := fun r h1 h2 h3 => by subst hS'; rw [up_r _ _ h3, b1 r h2, a1 r h1]
  have fS1 : S'.1 (q + 2) = A.1 (q + 2) := by subst hS'; rw [up_r _ _ (by omega), b1 _ (by omega)]
  have fS2 : S'.1 (6 + (q + 1)) = B.1 (6 + (q + 1)) := by subst hS'; rw [up_r _ _ (by omega)]
  have fS3 : S'.1 (10 + q) 0 0 = 1 := by subst hS'; simp [up_val]
  have a0 : A.1 (6 + 0) = S.1 6 := a1 _ (by omega)
  have hKr : ∀ s, s < 75 → M'.1 0 35 (90 * q + s) = M.1 0 (zpi s) (zpj s) := fun s hs => by
    obtain ⟨n35, -, -, n37, n38, -⟩ := zp_ne s hs
    rw [f35, z35, if_pos (by omega), show 90 * q + s - 90 * q = s by omega, m1 _ _ n37 n38]
  obtain ⟨hO, hK, hP, hT, hI0, hI1⟩ := h
  have hImg : ∀ q', q' < 2 → ImgRel q' S M → ImgRel q' S' M' := fun q' hq' hI => by
    by_cases hqq : q' = q
    · subst hqq
      unfold ImgRel
      rw [f36, if_pos rfl, fS3]
      refine ⟨rfl, fun _ => ⟨?_, ?_, ?_⟩⟩
      · rw [fS1]
        exact kept_own (K := fun j => M'.1 0 35 (90 * q' + j)) hKr hO (fun k hk j hj => by rw [a3 k hk j hj, if_pos (by omega)]) (fun k hk j hj => by rw [a4 k hk j hj, if_pos (by omega)]) a2
      · rw [fS1]
        exact hK.cg (fun k hk j hj => by rw [a3 k hk j hj, if_pos (by omega)]) (fun k hk j hj => by rw [a4 k hk j hj, if_pos (by omega)]) a2
      · rw [fS2]
        exact kept_tal (K := fun j => M'.1 0 35 (90 * q' + j)) hKr hT (by rw [b2, a0]) (fun b h1 h3 e he => by rw [b3 b h1 h3 e he, if_pos (by omega), a0])
    · refine hI.cg (fS _ (by omega) (by omega) (by omega)) (fS _ (by omega) (by omega) (by omega)) (fS _ (by omega) (by omega) (by omega)) (fun j hj => ?_) ?_
      · rw [f35, z35, if_neg (by omega), m1 _ _ (by omega) (by omega)]
      · rw [f36, if_neg hqq]
  refine ⟨rfl, ?_, ?_, ?_, ?_, hImg 0 (by decide) hI0, hImg 1 (by decide) hI1⟩
  · show OwnRel (S'.1 0) (M'.1 0 0) (M'.1 0)
    rw [fS 0 (by omega) (by omega) (by omega)]
    exact hO.cg (fun _ _ _ _ => rfl) (fun _ _ _ _ => rfl) (fun _ _ => rfl) (fun j hj => fM _ _ (by decide) (by decide) (by omega) (by omega)) (fun j hj => fM _ _ (by decide) (by decide) (by omega) (by omega)) (fun i hi k hk => fM _ _ (by omega) (by omega) (by omega) (by omega)) (fun k hk => fM _ _ (by omega) (by omega) (by omega) (by omega))
  · show OwnOk (S'.1 0)
    rw [fS 0 (by omega) (by omega) (by omega)]; exact hK
  · exact hP.cong (fS 4 (by omega) (by omega) (by omega)) (fM _ _ (by decide) (by decide) (by omega) (by omega)) (fR _ (by decide) (by decide) (by decide))
  · show TalRel (S'.1 6) (M'.1 0 0 16) (M'.1 0 13) (M'.1 0 14) (M'.1 0 15)
    rw [fS 6 (by omega) (by omega) (by omega), fM 0 16 (by decide) (by decide) (by omega) (by omega), fR 13 (by decide) (by decide) (by decide), fR 14 (by decide) (by decide) (by decide), fR 15 (by decide) (by decide) (by decide)]
    exact hT
theorem b01_nz {x : Int32} : b01 x = 0 ↔ x = 0 := by
  unfold b01
  by_cases h : x = 0 <;> simp [h]
theorem E_restore {S M : St} (h : Rel S M) (p1 : Int32) : Ans (tX7_restore S p1) (tX8_restore M p1) := by
  unfold tX7_restore tX8_restore
  simp only [wj1, ikc_iff, bnd_def]
  by_cases c1 : wi p1 0 1
  rotate_left
  · simp only [if_neg c1]; exact Ans.same h
  simp only [if_pos c1]
  obtain ⟨q, hq, rfl⟩ := wi1_k c1
  have hq2 : q < 2 := by omega
  rw [nI_clamp (by omega), z90 q hq2]
  have hIq : ImgRel q S M := by
    rcases hq with rfl | rfl
    · exact h.2.2.2.2.1
    · exact h.2.2.2.2.2
  rw [hIq.1]
  by_cases c2 : b01 (S.1 (10 + q) 0 0) = 0
  · rw [if_pos c2, if_pos c2]; exact Ans.same h
  rw [if_neg c2, if_neg c2]
  obtain ⟨kO, kK, kT⟩ := hIq.2 (fun w => c2 (b01_nz.mpr w))
  obtain ⟨a1, -, a3, a4⟩ := c2_val S (o := 0) (o2 := q + 2) (by omega) 6 0 S rfl
  have a2 := (c2_val S (o := 0) (o2 := q + 2) (by omega) 6 0 S rfl).2.1
  generalize hA : tX2_copyFrom S 0 (q + 2) = A
  have hA' : LX2_copyFrom_2 S 0 (q + 2) 6 0 S = A := hA
  rw [hA'] at a1 a2 a3 a4
  obtain ⟨b1, b2, b3⟩ := c5_val A (t := 0) (t2 := q + 1) (by omega) 8 0 A rfl
  generalize hB : tX5_copyFrom A 0 (q + 1) = B
  have hB' : LX5_copyFrom_2 A 0 (q + 1) 8 0 A = B := hB
  rw [hB'] at b1 b2 b3
  generalize hM1 : up (up M 0 0 37 (nI (90 * q))) 0 0 38 0 = M1
  have m1 : ∀ i j, ¬ (i = 0 ∧ j = 37) → ¬ (i = 0 ∧ j = 38) → M1.1 0 i j = M.1 0 i j := fun i j h7 h8 => by subst hM1; simp [up_val, h7, h8]
  have hW : Rd M1 M1 (90 * q) 0 := ⟨by subst hM1; simp [up_val], by subst hM1; simp [up_val, b01], rfl, fun _ => rfl, fun _ => rfl, fun _ => rfl, fun s hs => absurd hs (by omega)⟩
  obtain ⟨-, -, z18, z35, z36, z17, zs⟩ := rd_all (by omega) hW
  generalize tX8_passAll M1 = Z at z18 z35 z36 z17 zs ⊢
  have f35 : Z.1 0 35 = M.1 0 35 := by funext j; rw [z35, m1 _ _ (by omega) (by omega)]
  have f36 : Z.1 0 36 = M.1 0 36 := by funext j; rw [z36, m1 _ _ (by omega) (by omega)]
  have f17 : Z.1 0 17 = M.1 0 17 := by funext j; rw [z17, m1 _ _ (by omega) (by omega)]
  have f18 : Z.1 0 0 18 = M.1 0 0 18 := by rw [z18, m1 _ _ (by omega) (by omega)]
  have hKr : ∀ s, s < 75 → Z.1 0 (zpi s) (zpj s) = M.1 0 35 (90 * q + s) := fun s hs => by rw [zs s hs, m1 _ _ (by omega) (by omega)]
  have fS : ∀ r, r ≠ 0 → r ≠ 6 → B.1 r = S.1 r := fun r h0 h6 => by rw [b1 r (by omega), a1 r h0]
  have f0 : B.1 0 = A.1 0 := b1 0 (by omega)
  have aq : A.1 (6 + (q + 1)) = S.1 (6 + (q + 1)) := a1 _ (by omega)
  obtain ⟨hO, hK, hP, hT, hI0, hI1⟩ := h
  refine ⟨rfl, ?_, ?_, ?_, ?_, ?_, ?_⟩
  · show OwnRel (B.1 0) (Z.1 0 0) (Z.1 0)
    rw [f0]
    exact back_own (K := fun j => M.1 0 35 (90 * q + j)) hKr kO (fun k hk j hj => by rw [a3 k hk j hj, if_pos (by omega)]) (fun k hk j hj => by rw [a4 k hk j hj, if_pos (by omega)]) a2
  · show OwnOk (B.1 0)
    rw [f0]
    exact kK.cg (fun k hk j hj => by rw [a3 k hk j hj, if_pos (by omega)]) (fun k hk j hj => by rw [a4 k hk j hj, if_pos (by omega)]) a2
  · exact hP.cong (fS 4 (by decide) (by decide)) f18 f17
  · show TalRel (B.1 6) (Z.1 0 0 16) (Z.1 0 13) (Z.1 0 14) (Z.1 0 15)
    exact back_tal (K := fun j => M.1 0 35 (90 * q + j)) hKr kT (b2.trans (by rw [aq])) (fun b h1 h3 e he => (b3 b h1 h3 e he).trans (by rw [if_pos (by omega), aq]))
  · exact hI0.cong (fS _ (by decide) (by decide)) (fS _ (by decide) (by decide)) (fS _ (by decide) (by decide)) f35 f36
  · exact hI1.cong (fS _ (by decide) (by decide)) (fS _ (by decide) (by decide)) (fS _ (by decide) (by decide)) f35 f36
