theorem run_step {S M : St} {o i m : Nat} (ho4 : 4 ≠ o) (ho5 : 5 ≠ o) (hE : Entry S M i m) (hm : m < 2 ^ 30) {Z W : St} (h : RF S M o Z W) (hbad : Z.1 5 0 1 = -6) (hct : Z.1 5 0 0 = nI m) (hb2 : Z.1 5 0 2 = -6) :
    ∃ W', (∀ K, LX8_goVoyages_18 M (K + 1) m W = LX8_goVoyages_18 M K (m + 1) W') ∧ RF S M o (tX6_take Z o (nI i)) W' ∧
      (((tX6_take Z o (nI i)).1 5 0 1 = -6 ∧ (tX6_take Z o (nI i)).1 5 0 0 = nI (m + 1) ∧ (tX6_take Z o (nI i)).1 5 0 2 = -6) ∨ (0 ≤ W'.1 0 0 29 ∧ ¬ (tX6_take Z o (nI i)).1 5 0 1 = -6)) := by
  obtain ⟨hO, hK, hS, hM, e1, e2, e3, e4, e5, e6⟩ := h
  obtain ⟨a, ha, hk, r19, h0, h1, r20, r21⟩ := hE
  have h4 : Z.1 4 = S.1 4 := hS 4 ho4 (by decide)
  have z29 : ¬ 0 ≤ W.1 0 0 29 := by rw [← e1, hbad]; decide
  have hkz : tX3_kindAt Z (nI i) = zk a := (kind_cong h4 _).trans hk
  have hpz := shipn_cong h4 (nI i)
  have hnz := numb_cong h4 (nI i)
  generalize hP : tX3_shipNumberAt S (nI i) = P at r20 hpz
  generalize hN : tX3_numberAt S (nI i) = N at r21 hnz h0 h1
  have g19 : W.1 0 19 = M.1 0 19 := hM.1 19 (by decide) (by decide) (by decide) (by decide)
  have g20 : W.1 0 20 = M.1 0 20 := hM.1 20 (by decide) (by decide) (by decide) (by decide)
  have g21 : W.1 0 21 = M.1 0 21 := hM.1 21 (by decide) (by decide) (by decide) (by decide)
  have hO1 : OwnRel (Z.1 o) ((up W 0 0 27 (nI m)).1 0 0) ((up W 0 0 27 (nI m)).1 0) := own_m hO (fun j hj => by simp [up_val, show ¬ j = 27 by omega]) (fun b hb => up_row_ne _ _ hb)
  have hwhy : tX8_whyNot (up W 0 0 27 (nI m)) ((up W 0 0 27 (nI m)).1 0 19 m) ((up W 0 0 27 (nI m)).1 0 20 m) ((up W 0 0 27 (nI m)).1 0 21 m) = tX2_reasonAgainst Z o (zk a) P N := by
    rw [up_row_ne W _ (show (19 : Nat) ≠ 0 by decide), up_row_ne W _ (show (20 : Nat) ≠ 0 by decide), up_row_ne W _ (show (21 : Nat) ≠ 0 by decide), g19, g20, g21, r19, why_cong _ ha r20 r21]
    exact (why_eq hO1 hK ha P N h0).symm
  rcases why_pos Z o (zk a) P N with hR | hR
  · have hO2 : OwnRel (Z.1 o) ((up (up (up W 0 0 27 (nI m)) 0 0 29 (-6)) 0 0 30 (-6)).1 0 0) ((up (up (up W 0 0 27 (nI m)) 0 0 29 (-6)) 0 0 30 (-6)).1 0) := own_m hO (fun j hj => by simp [up_val, show ¬ j = 27 by omega, show ¬ j = 29 by omega, show ¬ j = 30 by omega]) (fun b hb => by rw [up_row_ne _ _ hb, up_row_ne _ _ hb, up_row_ne _ _ hb])
    obtain ⟨q1, q2, q3, ⟨q4, q5⟩, q23, q24, q25, q26⟩ := act_eq hO2 hK ha h0 h1 hR
    obtain ⟨t0, t1, t2, t3, t4, t5, t6, t7⟩ := takeX (Z := Z) (o := o) (p := nI i) ha hkz (by rw [hpz, hnz]; exact hR)
    rw [hpz, hnz] at t0 t1 t2 t3 t4 t5 t6 t7
    have hh : ∀ K, LX8_goVoyages_18 M (K + 1) m W = LX8_goVoyages_18 M K (m + 1) (tX8_happen (up (up (up W 0 0 27 (nI m)) 0 0 29 (-6)) 0 0 30 (-6)) (nI a) P N) := fun K => by
      rw [LX8_goVoyages_18, if_neg z29, hwhy, hR, if_pos (by decide), if_pos rfl, bnd_def]
      have u19 : (up (up (up W 0 0 27 (nI m)) 0 0 29 (-6)) 0 0 30 (-6)).1 0 19 = M.1 0 19 := by rw [up_row_ne _ _ (by decide), up_row_ne _ _ (by decide), up_row_ne _ _ (by decide), g19]
      have u20 : (up (up (up W 0 0 27 (nI m)) 0 0 29 (-6)) 0 0 30 (-6)).1 0 20 = M.1 0 20 := by rw [up_row_ne _ _ (by decide), up_row_ne _ _ (by decide), up_row_ne _ _ (by decide), g20]
      have u21 : (up (up (up W 0 0 27 (nI m)) 0 0 29 (-6)) 0 0 30 (-6)).1 0 21 = M.1 0 21 := by rw [up_row_ne _ _ (by decide), up_row_ne _ _ (by decide), up_row_ne _ _ (by decide), g21]
      rw [u19, u20, u21, r19, hap_cong _ ha r20 r21]
    refine ⟨_, hh, ?_, ?_⟩
    · generalize tX8_happen (up (up (up W 0 0 27 (nI m)) 0 0 29 (-6)) 0 0 30 (-6)) (nI a) P N = W' at q1 q2 q4 q5 q23 q24 q25 q26 ⊢
      generalize tX2_act Z o (zk a) P N = Z' at q1 q2 q3 t0 t1 t2 t3 t4 t5 t6 t7
      have z5 : Z'.1 5 = Z.1 5 := q3 5 ho5
      rw [z5] at t1 t2 t3 t4 t5 t6 t7
      have v23 : (up (up (up W 0 0 27 (nI m)) 0 0 29 (-6)) 0 0 30 (-6)).1 0 0 23 = W.1 0 0 23 := by simp [up_val]
      have v24 : (up (up (up W 0 0 27 (nI m)) 0 0 29 (-6)) 0 0 30 (-6)).1 0 0 24 = W.1 0 0 24 := by simp [up_val]
      have v25 : (up (up (up W 0 0 27 (nI m)) 0 0 29 (-6)) 0 0 30 (-6)).1 0 0 25 = W.1 0 0 25 := by simp [up_val]
      have v26 : (up (up (up W 0 0 27 (nI m)) 0 0 29 (-6)) 0 0 30 (-6)).1 0 0 26 = W.1 0 0 26 := by simp [up_val]
      have v27 : (up (up (up W 0 0 27 (nI m)) 0 0 29 (-6)) 0 0 30 (-6)).1 0 0 27 = nI m := by simp [up_val]
      have v29 : (up (up (up W 0 0 27 (nI m)) 0 0 29 (-6)) 0 0 30 (-6)).1 0 0 29 = -6 := by simp [up_val]
      have v30 : (up (up (up W 0 0 27 (nI m)) 0 0 29 (-6)) 0 0 30 (-6)).1 0 0 30 = -6 := by simp [up_val]
      have w29 : W'.1 0 0 29 = -6 := by rw [q5 29 (by decide) (by decide) (by decide) (by decide) (by decide) (by decide) (by decide) (by decide) (by decide), v29]
      have w30 : W'.1 0 0 30 = -6 := by rw [q5 30 (by decide) (by decide) (by decide) (by decide) (by decide) (by decide) (by decide) (by decide) (by decide), v30]
      rw [v23] at q23
      rw [v24, v26, v27] at q24
      rw [v25, v26] at q25
      rw [v26] at q26
      refine ⟨by rw [t0 o (fun q => ho5 q.symm)]; exact q1, by rw [t0 o (fun q => ho5 q.symm)]; exact q2, fun r ro r5 => by rw [t0 r r5, q3 r ro, hS r ro r5], ⟨fun b b0 b2 b5 b6 => ?_, fun j j1 j9 j10 j11 j12 j23 j24 j25 j26 j27 j29 j30 => ?_⟩, ?_, ?_, ?_, ?_, ?_, ?_⟩
      · rw [q4 b b0 b2 b5 b6, up_row_ne _ _ b0, up_row_ne _ _ b0, up_row_ne _ _ b0, hM.1 b b0 b2 b5 b6]
      · rw [q5 j j1 j9 j10 j11 j12 j23 j24 j25 j26, ← hM.2 j j1 j9 j10 j11 j12 j23 j24 j25 j26 j27 j29 j30]
        simp [up_val, j27, j29, j30]
      · rw [t2, hbad, w29]
      · rw [t3, hb2, w30]
      · rw [t4, q23, e3]
      · rw [t5, q24, e6, e4, hct]
      · rw [t6, q25, e6, e5]
      · rw [t7, q26, e6]
    · refine Or.inl ⟨?_, ?_, ?_⟩
      · rw [t2, q3 5 ho5, hbad]
      · rw [t1, q3 5 ho5, hct, nI_1]
      · rw [t3, q3 5 ho5, hb2]
  · have hR0 : ¬ tX2_reasonAgainst Z o (zk a) P N = 0 := fun q => hR (by rw [q]; decide)
    refine ⟨up (up (up W 0 0 27 (nI m)) 0 0 29 (nI m)) 0 0 30 (tX2_reasonAgainst Z o (zk a) P N), fun K => by rw [LX8_goVoyages_18, if_neg z29, hwhy, if_neg hR, if_neg hR0], ?_, ?_⟩
    · unfold tX6_take
      rw [hkz, hpz, hnz, if_neg hR0, bnd_def]
      generalize tX2_reasonAgainst Z o (zk a) P N = R
      refine ⟨?_, ?_, fun r ro r5 => by rw [up_r _ _ r5, up_r _ _ r5, hS r ro r5], ⟨fun b b0 b2 b5 b6 => ?_, fun j j1 j9 j10 j11 j12 j23 j24 j25 j26 j27 j29 j30 => ?_⟩, ?_, ?_, ?_, ?_, ?_, ?_⟩
      · rw [up_r _ _ (fun q => ho5 q.symm), up_r _ _ (fun q => ho5 q.symm)]
        exact own_m hO (fun j hj => by simp [up_val, show ¬ j = 27 by omega, show ¬ j = 29 by omega, show ¬ j = 30 by omega]) (fun b hb => by rw [up_row_ne _ _ hb, up_row_ne _ _ hb, up_row_ne _ _ hb])
      · rw [up_r _ _ (fun q => ho5 q.symm), up_r _ _ (fun q => ho5 q.symm)]; exact hK
      · rw [up_row_ne _ _ b0, up_row_ne _ _ b0, up_row_ne _ _ b0, hM.1 b b0 b2 b5 b6]
      · rw [← hM.2 j j1 j9 j10 j11 j12 j23 j24 j25 j26 j27 j29 j30]
        simp [up_val, j27, j29, j30]
      · simp [up_val, hct]
      · simp [up_val]
      · simp [up_val, e3]
      · simp [up_val, e4]
      · simp [up_val, e5]
      · simp [up_val, e6]
    · refine Or.inr ⟨by simp [up_val]; exact nI_pos' (by omega), ?_⟩
      unfold tX6_take
      rw [hkz, hpz, hnz, if_neg hR0, bnd_def]
      simp [up_val, hct]
      intro q
      have := congrArg Int32.toInt q
      rw [nI_toInt (by omega), show (-6 : Int32).toInt = -6 by decide] at this
      omega
def Stat (S : St) (i : Nat) (Z W : St) : Prop := (Z.1 5 0 1 = -6 ∧ Z.1 5 0 0 = nI (zcnt S i) ∧ Z.1 5 0 2 = -6) ∨ (0 ≤ W.1 0 0 29 ∧ ¬ Z.1 5 0 1 = -6)
theorem run_loop {S M : St} {o n : Nat} (ho4 : 4 ≠ o) (ho5 : 5 ≠ o) (hn : n ≤ 60) (S0 : St) (hE : ∀ j, j < n → zbg S j → Entry S M j (zcnt S j)) : ∀ (k i : Nat) (Z W : St), i + k = n → RF S M o Z W → Stat S i Z W →
    RF S M o (LX6_run_6 S0 o k i Z) (LX8_goVoyages_18 M (zcnt S n - zcnt S i) (zcnt S i) W) ∧ Stat S n (LX6_run_6 S0 o k i Z) (LX8_goVoyages_18 M (zcnt S n - zcnt S i) (zcnt S i) W) := by
  intro k
  induction k with
  | zero =>
    intro i Z W hi h hs
    obtain rfl : i = n := by omega
    rw [LX6_run_6, Nat.sub_self, LX8_goVoyages_18]
    exact ⟨h, hs⟩
  | succ k ih =>
    intro i Z W hi h hs
    rcases hs with ⟨hb, hc, hb2⟩ | ⟨hb, hb1⟩
    · have h4 : Z.1 4 = S.1 4 := h.2.2.1 4 ho4 (by decide)
      rw [LX6_run_6, if_pos hb, begin_cong h4, bnd_def]
      by_cases hg : tX3_actBeginsAt S (nI i) = 0
      · rw [if_pos hg]
        have hz : zcnt S (i + 1) = zcnt S i := by rw [zcnt, if_pos hg]; rfl
        rw [← hz]
        exact ih (i + 1) Z W (by omega) h (Or.inl ⟨hb, by rw [hz]; exact hc, hb2⟩)
      · rw [if_neg hg]
        have hz : zcnt S (i + 1) = zcnt S i + 1 := by rw [zcnt, if_neg hg]
        have hle := zcnt_mono S (i + 1) (n - (i + 1))
        rw [show i + 1 + (n - (i + 1)) = n by omega, hz] at hle
        have hzi := zcnt_le S i
        obtain ⟨W', r1, r2, r3⟩ := run_step ho4 ho5 (hE i (by omega) hg) (by omega) h hb hc hb2
        rw [show zcnt S n - zcnt S i = (zcnt S n - zcnt S (i + 1)) + 1 by omega, r1, ← hz]
        refine ih (i + 1) _ W' (by omega) r2 ?_
        rcases r3 with ⟨a1, a2, a3⟩ | a
        · exact Or.inl ⟨a1, by rw [hz]; exact a2, a3⟩
        · exact Or.inr a
    · rw [LX6_run_6, if_neg hb1, go_stop M hb]
      exact ⟨h, Or.inr ⟨hb, hb1⟩⟩
/-- the whole run, from the start of the counts -/
theorem run_eq {S M : St} {o n : Nat} (ho4 : 4 ≠ o) (ho5 : 5 ≠ o) (hn : n ≤ 60) (h40 : S.1 4 0 0 = nI n) (h22 : M.1 0 0 22 = nI (zcnt S n)) (hE : ∀ j, j < n → zbg S j → Entry S M j (zcnt S j)) (hO : OwnRel (S.1 o) (M.1 0 0) (M.1 0)) (hK : OwnOk (S.1 o)) :
    RF S M o (tX6_run S o) (tX8_goVoyages M) ∧ Stat S n (tX6_run S o) (tX8_goVoyages M) := by
  have hz := zcnt_le S n
  unfold tX6_run tX8_goVoyages
  rw [bnd_def, bnd_def, h40, h22, nI_clamp (by omega), nI_clamp (by omega)]
  have hS : ∀ r, r ≠ 5 → (tX6_begin S).1 r = S.1 r := fun r h5 => by unfold tX6_begin; rw [up_r _ _ h5, up_r _ _ h5, up_r _ _ h5, up_r _ _ h5, up_r _ _ h5, up_r _ _ h5, up_r _ _ h5]
  have h := run_loop ho4 ho5 hn S hE n 0 (tX6_begin S) (up (up (tX8_beginCount M) 0 0 29 (-6)) 0 0 30 (-6)) (by omega) ?_ ?_
  · exact h
  · refine ⟨?_, ?_, fun r ro r5 => hS r r5, ⟨fun b b0 b2 b5 b6 => ?_, fun j j1 j9 j10 j11 j12 j23 j24 j25 j26 j27 j29 j30 => ?_⟩, ?_, ?_, ?_, ?_, ?_, ?_⟩
    · rw [hS o (fun q => ho5 q.symm)]
      unfold tX8_beginCount
      refine own_m hO (fun j hj => ?_) (fun b hb => ?_)
      · simp [up_val, show ¬ j = 23 by omega, show ¬ j = 24 by omega, show ¬ j = 25 by omega, show ¬ j = 26 by omega, show ¬ j = 29 by omega, show ¬ j = 30 by omega]
      · rw [up_row_ne _ _ hb, up_row_ne _ _ hb, up_row_ne _ _ hb, up_row_ne _ _ hb, up_row_ne _ _ hb, up_row_ne _ _ hb]
    · rw [hS o (fun q => ho5 q.symm)]; exact hK
    · unfold tX8_beginCount
      rw [up_row_ne _ _ b0, up_row_ne _ _ b0, up_row_ne _ _ b0, up_row_ne _ _ b0, up_row_ne _ _ b0, up_row_ne _ _ b0]
    · unfold tX8_beginCount
      simp [up_val, j23, j24, j25, j26, j29, j30]
    all_goals unfold tX6_begin tX8_beginCount; simp [up_val]
  · unfold tX6_begin
    refine Or.inl ⟨by simp [up_val], by simp [up_val, zcnt]; rfl, by simp [up_val]⟩
