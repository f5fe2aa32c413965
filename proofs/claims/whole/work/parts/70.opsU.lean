/-! ===== both sides have heard the tales ===== -/
theorem hear2_eq (S : St) : ∀ (k i : Nat) (Z : St), i + k = 8 → ∃ Y, LX1_hear_2 S 0 k i Z = LX1_hear_48 S 0 (Int32.toNatClampNeg (Z.1 6 0 0)) 0 Y ∧ (∀ r, r ≠ 9 → Y.1 r = Z.1 r) ∧ (∀ j, j < 8 → Y.1 9 1 j = (if i ≤ j then nI j else Z.1 9 1 j) ∧ Y.1 9 2 j = (if i ≤ j then 0 else Z.1 9 2 j)) ∧ Y.1 9 0 0 = -6 ∧ Y.1 9 0 1 = 0 := by
  intro k
  induction k with
  | zero =>
    intro i Z hi
    have h69 : (6 + 0 : Nat) ≠ 9 := by decide
    refine ⟨up (up Z 9 0 0 (-6)) 9 0 1 0, ?_, fun r hr => by rw [up_r _ _ hr, up_r _ _ hr], fun j hj => ⟨?_, ?_⟩, ?_, ?_⟩
    · rw [LX1_hear_2, up_r _ _ h69, up_r _ _ h69]
    · rw [up_row_ne _ _ (by decide), up_row_ne _ _ (by decide), if_neg (by omega)]
    · rw [up_row_ne _ _ (by decide), up_row_ne _ _ (by decide), if_neg (by omega)]
    · simp [up_val]
    · simp [up_val]
  | succ k ih =>
    intro i Z hi
    obtain ⟨Y, e, h1, h2, h3, h4⟩ := ih (i + 1) (up (up (up Z 9 1 i (nI i)) 9 2 i 0) 9 3 i 0) (by omega)
    have h69 : (6 : Nat) ≠ 9 := by decide
    refine ⟨Y, ?_, fun r hr => by rw [h1 r hr, up_r _ _ hr, up_r _ _ hr, up_r _ _ hr], fun j hj => ?_, h3, h4⟩
    · rw [LX1_hear_2, e, up_r _ _ h69, up_r _ _ h69, up_r _ _ h69]
    · obtain ⟨g1, g2⟩ := h2 j hj
      rw [g1, g2]
      by_cases q : j = i
      · subst q
        rw [if_neg (show ¬ j + 1 ≤ j by omega), if_neg (show ¬ j + 1 ≤ j by omega), if_pos (Nat.le_refl _), if_pos (Nat.le_refl _)]
        exact ⟨by simp [up_val], by simp [up_val]⟩
      · by_cases w : i + 1 ≤ j
        · rw [if_pos w, if_pos w, if_pos (by omega), if_pos (by omega)]; exact ⟨rfl, rfl⟩
        · rw [if_neg w, if_neg w, if_neg (by omega), if_neg (by omega)]
          exact ⟨by simp [up_val, q], by simp [up_val, q]⟩
theorem hear7_eq (M : St) : ∀ (k i : Nat) (W : St), i + k = 8 → ∃ Y, LX8_hearTales_7 M k i W = LX8_hearTales_28 M (Int32.toNatClampNeg (M.1 0 0 16)) 0 Y ∧ (∀ b, b ≠ 32 → Y.1 0 b = W.1 0 b) ∧ ∀ j, j < 8 → Y.1 0 32 j = (if i ≤ j then nI j else W.1 0 32 j) := by
  intro k
  induction k with
  | zero =>
    intro i W hi
    exact ⟨W, by rw [LX8_hearTales_7], fun _ _ => rfl, fun j hj => by rw [if_neg (by omega)]⟩
  | succ k ih =>
    intro i W hi
    obtain ⟨Y, e, h1, h2⟩ := ih (i + 1) (up W 0 32 i (nI i)) (by omega)
    refine ⟨Y, ?_, fun b hb => by rw [h1 b hb, up_row_ne _ _ hb], fun j hj => ?_⟩
    · rw [LX8_hearTales_7, e]
    · rw [h2 j hj]
      by_cases q : j = i
      · subst q
        rw [if_neg (by omega), if_pos (Nat.le_refl _)]
        simp [up_val]
      · by_cases w : i + 1 ≤ j
        · rw [if_pos w, if_pos (by omega)]
        · rw [if_neg w, if_neg (by omega)]
          simp [up_val, q]
theorem hear_loop {S M : St} (hM : zName M) (hT : ∀ e, e < 8 → ∃ a b, a < 8 ∧ b < 8 ∧ S.1 6 1 e = nI a ∧ S.1 6 2 e = nI b ∧ M.1 0 13 e = nI a ∧ M.1 0 14 e = nI b ∧ M.1 0 15 e = b01 (S.1 6 3 e)) (S0 M0 : St) :
    ∀ (k i : Nat) (Z W : St) (f g : Nat → Nat) (L : Nat), i + k ≤ 8 → Hr S M i Z W f g L → ∃ f' g' L', Hr S M (i + k) (LX1_hear_48 S0 0 k i Z) (LX8_hearTales_28 M0 k i W) f' g' L' := by
  intro k
  induction k with
  | zero =>
    intro i Z W f g L _ h
    exact ⟨f, g, L, by rw [LX1_hear_48, LX8_hearTales_28]; exact h⟩
  | succ k ih =>
    intro i Z W f g L hi h
    obtain ⟨a, b, ha, hb, s1, s2, m1, m2, m3⟩ := hT i (by omega)
    obtain ⟨Z', W', f', g', L', h', e1, e2⟩ := hr_step hM (by omega) ha hb s1 s2 rfl m1 m2 m3 h S0 M0
    rw [e1, e2, show i + (k + 1) = (i + 1) + k by omega]
    exact ih (i + 1) Z' W' f' g' L' (by omega) h'
theorem tal_at {S M : St} (h : Rel S M) : (∀ e, e < 8 → ∃ a b, a < 8 ∧ b < 8 ∧ S.1 6 1 e = nI a ∧ S.1 6 2 e = nI b ∧ M.1 0 13 e = nI a ∧ M.1 0 14 e = nI b ∧ M.1 0 15 e = b01 (S.1 6 3 e)) ∧ zName M ∧ ∃ t, t ≤ 8 ∧ S.1 6 0 0 = nI t ∧ M.1 0 0 16 = nI t := by
  obtain ⟨hc, hw, ht⟩ := h.tal
  refine ⟨fun e he => ?_, fun e he => ?_, ?_⟩
  · obtain ⟨t1, t2, t3, w1, w2⟩ := ht e he
    obtain ⟨a, ha, ea, -⟩ := wi_k (n := 7) w1 rfl (by decide)
    obtain ⟨b, hb, eb, -⟩ := wi_k (n := 7) w2 rfl (by decide)
    exact ⟨a, b, by omega, by omega, ea, eb, t1.trans ea, t2.trans eb, t3⟩
  · obtain ⟨t1, t2, t3, w1, w2⟩ := ht e he
    rw [t1, t2]
    exact ⟨w1, w2⟩
  · obtain ⟨t, ht8, et, -⟩ := wi_k (n := 8) hw rfl (by decide)
    exact ⟨t, ht8, et, hc.trans et⟩
theorem hear_all {S M : St} (h : Rel S M) : ∃ t f g L, t ≤ 8 ∧ M.1 0 0 16 = nI t ∧ Hr S M t (tX1_hear S 0) (tX8_hearTales M) f g L := by
  obtain ⟨hT, hM, t, ht, e1, e2⟩ := tal_at h
  obtain ⟨Y, y1, y2, y3, y4, y5⟩ := hear2_eq S 8 0 S rfl
  obtain ⟨V, v1, v2, v3⟩ := hear7_eq M 8 0 (up M 0 0 33 0) rfl
  have hs : ∀ p q, ¬ Ap M 0 0 (fun k => k) p q := fun p q => by
    rintro ⟨j, hj, -⟩
    exact absurd hj (Nat.not_lt_zero _)
  have hz : ∀ p, p < 8 → ∀ q, q < 8 → ¬ zB Y p q := fun p hp q hq => by
    unfold zB
    rw [(y3 p hp).2, if_pos (Nat.zero_le _)]
    intro w
    exact absurd ((bit256 0 (by decide) q hq).mp w) (by simp)
  have h0 : Hr S M 0 Y V (fun k => k) (fun k => k) 0 := by
    refine ⟨⟨fun k hk => ⟨hk, rfl, hk, ?_, ?_⟩, fun _ _ _ _ => Iff.rfl⟩, ⟨fun b b0 b32 => ?_, fun j hj => ?_⟩, fun p hp => ⟨0, by decide, ?_⟩, by decide, ?_, fun p q hp hq _ _ => ⟨fun w => absurd w (hz p hp q hq), fun w => absurd w (hs p q)⟩, fun p => hs p p, y2, y5, y4⟩
    · rw [(y3 k hk).1, if_pos (Nat.zero_le _)]
    · rw [v3 k hk, if_pos (Nat.zero_le _)]
    · rw [v2 b b32, up_row_ne _ _ b0]
    · rw [v2 0 (by decide)]; simp [up_val, hj]
    · rw [(y3 p hp).2, if_pos (Nat.zero_le _)]; rfl
    · rw [v2 0 (by decide)]; simp [up_val]; rfl
  obtain ⟨f, g, L, hF⟩ := hear_loop hM hT S M t 0 Y V (fun k => k) (fun k => k) 0 (by omega) h0
  refine ⟨t, f, g, L, ht, e2, ?_⟩
  rw [Nat.zero_add] at hF
  have ea : tX1_hear S 0 = LX1_hear_48 S 0 t 0 Y := by
    unfold tX1_hear
    rw [y1, e1, nI_clamp (by omega)]
  have eb : tX8_hearTales M = LX8_hearTales_28 M t 0 V := by
    unfold tX8_hearTales
    rw [v1, e2, nI_clamp (by omega)]
  rw [ea, eb]
  exact hF
theorem Rel.hear {S M Z W : St} (h : Rel S M) (hZ : ∀ r, r ≠ 9 → Z.1 r = S.1 r) (h1 : ∀ b, b ≠ 0 → b ≠ 32 → b ≠ 34 → W.1 0 b = M.1 0 b) (h2 : ∀ j, j ≠ 33 → W.1 0 0 j = M.1 0 0 j) : Rel Z W := by
  refine h.ofOwn ?_ ?_ (fun r _ _ _ h9 => hZ r h9) (h2 16 (by decide)) (h2 18 (by decide)) (h1 13 (by decide) (by decide) (by decide)) (h1 14 (by decide) (by decide) (by decide)) (h1 15 (by decide) (by decide) (by decide)) (h1 17 (by decide) (by decide) (by decide)) (h1 35 (by decide) (by decide) (by decide)) (h1 36 (by decide) (by decide) (by decide))
  · rw [hZ 0 (by decide)]
    exact h.own.cg (fun _ _ _ _ => rfl) (fun _ _ _ _ => rfl) (fun _ _ => rfl) (fun j hj => h2 j (by omega)) (fun j hj => h2 (7 + j) (by omega)) (fun i hi k _ => by rw [h1 (2 + i) (by omega) (by omega) (by omega)]) (fun k _ => by rw [h1 6 (by decide) (by decide) (by decide)])
  · rw [hZ 0 (by decide)]
    exact h.ok
theorem zfL_0 {L : Nat} : ∀ i, zcL L i = 0 → zfL L i = -6 := by
  intro i
  induction i with
  | zero => intro _; rfl
  | succ i ih =>
    intro h
    rw [zcL] at h
    rw [zfL]
    by_cases c : L.testBit i = true
    · rw [if_pos c] at h; omega
    · rw [if_neg (fun w => c w.2)]; exact ih (by omega)
theorem zcL_up {L i : Nat} (h : L < 2 ^ i) : ∀ d, zcL L (i + d) = zcL L i := by
  intro d
  induction d with
  | zero => rfl
  | succ d ih =>
    rw [← Nat.add_assoc, zcL, ih, lt_tb (L := L) (i := i + d) (Nat.lt_of_lt_of_le h (Nat.pow_le_pow_right (by decide) (by omega)))]
    rfl
theorem cnt256 : ∀ n, n < 256 → tX8_bitsOf S0X (nI n) = nI (zcL n 8) := by decide +kernel
theorem bits_S (M : St) (x : Int32) : tX8_bitsOf M x = tX8_bitsOf S0X x := by
  have e2 : ∀ (k : Nat) (a b : Int32), LX8_bitsOf_4 M x k a b = LX8_bitsOf_4 S0X x k a b := by
    intro k
    induction k with
    | zero => intro a b; rfl
    | succ k ih => intro a b; rw [LX8_bitsOf_4, LX8_bitsOf_4, ih]
  exact e2 _ _ _
theorem broken27 (M : St) (p : Int32) {W : St} {L : Nat} (hL : L < 256) (h33 : W.1 0 0 33 = nI L) : ∀ (k : Nat) (x : Int32), k ≤ 8 → LX8_broken_27 M p W k x = if p = 0 then ((if zcL L k = 0 then x else zfL L k), W) else (nI (zcL L 8), W) := by
  intro k
  induction k with
  | zero =>
    intro x _
    rw [LX8_broken_27, h33, bits_S, cnt256 L hL]
    by_cases c : p = 0
    · rw [if_pos c, if_pos c]; rfl
    · rw [if_neg c, if_neg c]
  | succ k ih =>
    intro x hk
    rw [LX8_broken_27, ih _ (by omega), ih _ (by omega), h33]
    by_cases c : p = 0
    · simp only [if_pos c]
      by_cases d : L.testBit k = true
      · rw [if_pos ((bit256 L hL k (by omega)).mpr d)]
        have e1 : ¬ zcL L (k + 1) = 0 := by rw [zcL, if_pos d]; omega
        rw [if_neg e1, zfL]
        by_cases q : zcL L k = 0
        · rw [if_pos q, if_pos ⟨q, d⟩]
        · rw [if_neg q, if_neg (fun w => q w.1)]
      · rw [if_neg (fun w => d ((bit256 L hL k (by omega)).mp w))]
        have e1 : zcL L (k + 1) = zcL L k := by rw [zcL, if_neg d]; rfl
        have e2 : zfL L (k + 1) = zfL L k := by rw [zfL, if_neg (fun w => d w.2)]
        rw [e1, e2]
    · simp only [if_neg c, ite_self]
theorem E_broken {S M : St} (h : Rel S M) (p1 : Int32) : Ans (tX7_broken S p1) (tX8_broken M p1) := by
  unfold tX7_broken tX8_broken
  simp only [wj1]
  by_cases c : wi p1 0 1
  rotate_left
  · rw [if_neg c, if_neg c]; exact Ans.same h
  rw [if_pos c, if_pos c, bnd_def, bnd_def]
  obtain ⟨t, f, g, L, ht, e, hH⟩ := hear_all h
  obtain ⟨hN, hW, hz, hL, h33, hA, hs, h9, hc1, hc0⟩ := hH
  have hL8 : L < 256 := Nat.lt_of_lt_of_le hL (pow8 ht)
  have hR : Rel (tX1_hear S 0) (tX8_hearTales M) := h.hear h9 (fun b b0 b32 _ => hW.1 b b0 b32) hW.2
  have h8 : zcL L 8 = zcL L t := by
    have := zcL_up hL (8 - t)
    rwa [show t + (8 - t) = 8 by omega] at this
  have h0 : (if zcL L t = 0 then (-6 : Int32) else zfL L t) = zfL L t := by
    by_cases q : zcL L t = 0
    · rw [if_pos q, zfL_0 t q]
    · rw [if_neg q]
  rw [e, nI_clamp (by omega), broken27 M p1 hL8 h33 t (-6) ht, h0, h8]
  by_cases d : p1 = 0
  · rw [if_pos d, if_pos d]; exact Ans.mk hc0 hR
  · rw [if_neg d, if_neg d]; exact Ans.mk hc1 hR
