theorem E_tale {S M : St} (h : Rel S M) (p1 p2 p3 : Int32) : Ans (tX7_tale S p1 p2 p3) (tX8_tale M p1 p2 p3) := by
  unfold tX7_tale tX8_tale tX5_put
  obtain ⟨e16, hc, ht⟩ := h.tal
  simp only [wj7, Nat.add_zero, e16]
  by_cases c1 : wi p1 0 7
  rotate_left
  · simp only [if_neg c1]; exact Ans.same h
  by_cases c2 : wi p2 0 7
  rotate_left
  · simp only [if_pos c1, if_neg c2]; exact Ans.same h
  by_cases c3 : p1 = p2
  · simp only [if_pos c1, if_pos c2, if_pos c3]; exact Ans.same h
  simp only [if_pos c1, if_pos c2, if_neg c3, bnd_def]
  obtain ⟨n, hn, en, ecl⟩ := wi_k (n := 8) hc rfl (by decide)
  have z : ¬ nI n < 0 := nI_pos (by omega)
  have z10 : ¬ (1 : Int32) = 0 := by decide
  rw [en]
  by_cases c4 : n = 8
  · subst c4
    have z2 : ¬ nI 8 < (8 : Int32) := by decide
    simp only [if_neg z, if_neg z2, if_pos (show nI 8 = (8 : Int32) from rfl), if_true]
    exact Ans.same h
  have z2 : nI n < (8 : Int32) := nI_lt (b := 8) (by omega) (by decide)
  have z3 : ¬ nI n = (8 : Int32) := fun q => c4 ((nI_eq (b := 8) (by omega) (by decide)).mp q)
  have ec : (nI n).toNatClampNeg = n := nI_clamp (by omega)
  simp only [if_neg z, if_pos z2, if_neg z3, z10, if_false, ec]
  have m1 : ∀ b v, b ≠ 0 → (up M 0 b n v).1 0 0 16 = nI n := fun b v hb => by rw [up_row_ne _ _ (by omega)]; exact e16.trans en
  have m2 : ∀ b v b' v', b ≠ 0 → b' ≠ 0 → (up (up M 0 b n v) 0 b' n v').1 0 0 16 = nI n := fun b v b' v' hb hb' => by rw [up_row_ne _ _ (by omega), m1 _ _ hb]
  have m3 : ∀ b v b' v' b2 v2, b ≠ 0 → b' ≠ 0 → b2 ≠ 0 → (up (up (up M 0 b n v) 0 b' n v') 0 b2 n v2).1 0 0 16 = nI n := fun b v b' v' b2 v2 hb hb' hb2 => by rw [up_row_ne _ _ (by omega), m2 _ _ _ _ hb hb']
  have s1 : ∀ b v, b ≠ 0 → (up S 6 b n v).1 6 0 0 = nI n := fun b v hb => by rw [up_row_ne _ _ (by omega)]; exact en
  have s2 : ∀ b v b' v', b ≠ 0 → b' ≠ 0 → (up (up S 6 b n v) 6 b' n v').1 6 0 0 = nI n := fun b v b' v' hb hb' => by rw [up_row_ne _ _ (by omega), s1 _ _ hb]
  have s3 : ∀ b v b' v' b2 v2, b ≠ 0 → b' ≠ 0 → b2 ≠ 0 → (up (up (up S 6 b n v) 6 b' n v') 6 b2 n v2).1 6 0 0 = nI n := fun b v b' v' b2 v2 hb hb' hb2 => by rw [up_row_ne _ _ (by omega), s2 _ _ _ _ hb hb']
  have m0 : M.1 0 0 16 = nI n := e16.trans en
  rw [m1 13 _ (by decide), ec, m2 13 _ 14 _ (by decide) (by decide), ec, m3 13 _ 14 _ 15 _ (by decide) (by decide) (by decide), m3 13 _ 14 _ 15 _ (by decide) (by decide) (by decide), s1 1 _ (by decide), ec, s2 1 _ 2 _ (by decide) (by decide), ec, s3 1 _ 2 _ 3 _ (by decide) (by decide) (by decide), nI_1]
  have hfin : ∀ v, v = b01 p3 → Ans ((up (up (up (up S 6 1 n p1) 6 2 n p2) 6 3 n p3) 6 0 0 (nI (n + 1))).1 6 0 0, up (up (up (up S 6 1 n p1) 6 2 n p2) 6 3 n p3) 6 0 0 (nI (n + 1)))
      ((up (up (up (up M 0 13 n p1) 0 14 n p2) 0 15 n v) 0 0 16 (nI (n + 1))).1 0 0 16, up (up (up (up M 0 13 n p1) 0 14 n p2) 0 15 n v) 0 0 16 (nI (n + 1))) := by
    intro v hv
    refine ⟨by simp [up_val], ?_⟩
    obtain ⟨hO, hK, hP, hT, hI0, hI1⟩ := h
    have zr : ∀ r, r ≠ 6 → (up (up (up (up S 6 1 n p1) 6 2 n p2) 6 3 n p3) 6 0 0 (nI (n + 1))).1 r = S.1 r := fun r hr => by rw [up_r _ _ hr, up_r _ _ hr, up_r _ _ hr, up_r _ _ hr]
    have zb : ∀ b, b ≠ 0 → b ≠ 13 → b ≠ 14 → b ≠ 15 → (up (up (up (up M 0 13 n p1) 0 14 n p2) 0 15 n v) 0 0 16 (nI (n + 1))).1 0 b = M.1 0 b := fun b h0 h1 h2 h3 => by rw [up_row_ne _ _ h0, up_row_ne _ _ h3, up_row_ne _ _ h2, up_row_ne _ _ h1]
    refine ⟨?_, ?_, hP.cong (zr _ (by decide)) (by simp [up_val]) (zb _ (by decide) (by decide) (by decide) (by decide)), ?_, hI0.cong (zr _ (by decide)) (zr _ (by decide)) (zr _ (by decide)) (zb _ (by decide) (by decide) (by decide) (by decide)) (zb _ (by decide) (by decide) (by decide) (by decide)), hI1.cong (zr _ (by decide)) (zr _ (by decide)) (zr _ (by decide)) (zb _ (by decide) (by decide) (by decide) (by decide)) (zb _ (by decide) (by decide) (by decide) (by decide))⟩
    · refine own_sc hO (fun k j hk => by rw [zr 0 (by decide)]) (fun i j hi hi7 => by rw [zb i (by omega) (by omega) (by omega) (by omega)]) (by simp [up_val]) ?_
      rw [zr 0 (by decide)]
      simp [up_val]
      exact hO.2.2.2
    · rw [zr 0 (by decide)]; exact hK
    · refine ⟨by simp [up_val], ?_, fun e he => ?_⟩
      · have e3 : (up (up (up (up S 6 1 n p1) 6 2 n p2) 6 3 n p3) 6 0 0 (nI (n + 1))).1 6 0 0 = nI (n + 1) := by simp [up_val]
        rw [e3]
        exact ⟨nI_pos' (by omega), nI_le (b := 8) (by omega) (by decide)⟩
      · obtain ⟨t1, t2, t3, t4, t5⟩ := ht e he
        simp only [up_val]
        by_cases hen : e = n
        · subst hen
          simp [hv]
          exact ⟨c1, c2⟩
        · simp [hen, t1, t2, t3]
          exact ⟨t4, t5⟩
  by_cases c5 : b01 p3 = 0
  · rw [if_pos c5]; exact hfin 0 c5.symm
  · rw [if_neg c5]
    refine hfin 1 ?_
    unfold b01 at c5 ⊢
    split
    · rename_i q; exact absurd (if_pos q) c5
    · rfl
