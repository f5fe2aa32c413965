theorem zcnt2 {S : St} {i : Nat} (h : zbg S i) (h1 : ¬ zbg S (i + 1)) : zcnt S (i + 2) = zcnt S i + 1 := by
  have q1 : tX3_actBeginsAt S (nI (i + 1)) = 0 := Classical.not_not.mp h1
  rw [show i + 2 = i + 1 + 1 from rfl, zcnt, zcnt, if_neg h, if_pos q1]
theorem zcnt3 {S : St} {i : Nat} (h : zbg S i) (h1 : ¬ zbg S (i + 1)) (h2 : ¬ zbg S (i + 2)) : zcnt S (i + 3) = zcnt S i + 1 := by
  have q2 : tX3_actBeginsAt S (nI (i + 2)) = 0 := Classical.not_not.mp h2
  rw [show i + 3 = i + 2 + 1 from rfl, zcnt, zcnt2 h h1, if_pos q2]
theorem not_bg {S : St} {i : Nat} {c : Int32} (hc : tX3_signAt S (nI i) = c) (h : ¬ c = 46 ∧ ¬ wi (c - 65) 0 5) : ¬ zbg S i := fun q => q (no_begin (by rw [hc]; exact h.1) (by rw [hc]; exact h.2))
theorem close_fr {M M' : St} (h : MP M M') (a : Nat) (x v w : Int32) : MP M (up (up (up M' 0 19 a x) 0 21 a v) 0 0 22 w) := by
  refine ⟨fun b b0 b1 b2 b3 => ?_, fun j hj => ?_⟩
  · rw [up_row_ne _ _ b0, up_row_ne _ _ b3, up_row_ne _ _ b1]; exact h.1 b b0 b1 b2 b3
  · rw [← h.2 j hj]; simp [up_val, hj]
def StepOk (S M M' : St) (i x : Nat) (c : Int32) : Prop := ∃ r M2, tX8_readOn M' (nI x) c = (r, M2) ∧ tX3_dueBehind S (nI x) c = r ∧ MP M M2 ∧ (r = -6 ∨ ∃ d i1, r = nI d ∧ d ≤ 3 ∧ i + 1 = i1 + (if d = 0 then 0 else if d = 1 then 1 else 2) ∧ Inv S M i1 d M2)
theorem zlow : (¬ (105 : Int32) = 46 ∧ ¬ wi ((105 : Int32) - 65) 0 5) ∧ (¬ (108 : Int32) = 46 ∧ ¬ wi ((108 : Int32) - 65) 0 5) ∧ (¬ (112 : Int32) = 46 ∧ ¬ wi ((112 : Int32) - 65) 0 5) ∧ (¬ (115 : Int32) = 46 ∧ ¬ wi ((115 : Int32) - 65) 0 5) ∧ (¬ (120 : Int32) = 46 ∧ ¬ wi ((120 : Int32) - 65) 0 5) := by decide
theorem step1c {S M M' : St} {i0 α : Nat} (h : Inv S M i0 1 M') (hi : i0 < 2 ^ 30) (hα : α = 2 ∨ α = 3 ∨ α = 4) (hc : tX3_signAt S (nI (i0 + 1)) = zk α) :
    tX8_close M' (nI α) 0 = (0, up (up (up M' 0 19 (zcnt S i0) (nI α)) 0 21 (zcnt S i0) 0) 0 0 22 (nI (zcnt S i0 + 1))) ∧ MP M (up (up (up M' 0 19 (zcnt S i0) (nI α)) 0 21 (zcnt S i0) 0) 0 0 22 (nI (zcnt S i0 + 1))) ∧
    Inv S M (i0 + 2) 0 (up (up (up M' 0 19 (zcnt S i0) (nI α)) 0 21 (zcnt S i0) 0) 0 0 22 (nI (zcnt S i0 + 1))) := by
  have hz := zcnt_le S i0
  have nb : ¬ zbg S (i0 + 1) := by
    rcases hα with rfl | rfl | rfl
    · exact not_bg hc zlow.2.2.1
    · exact not_bg hc zlow.2.2.2.1
    · exact not_bg hc zlow.2.2.2.2
  refine ⟨closeX h.ct (by omega) _ _, close_fr h.fr _ _ _ _, inv_close h (by decide) (by omega) hc (fun q => absurd q (by omega)) (fun q => absurd q (by omega)) (fun q => absurd q (by omega)) (zcnt2 (h.sh (by decide)).1 nb) (fun j h1 h2 => ?_) hi⟩
  obtain rfl : j = i0 + 1 := by omega
  exact nb
theorem step1 {S M M' : St} {i0 : Nat} {c : Int32} (h : Inv S M i0 1 M') (hi : i0 < 2 ^ 30) (hc : tX3_signAt S (nI (i0 + 1)) = c) : StepOk S M M' (i0 + 1) 1 c := by
  unfold StepOk tX8_readOn tX3_dueBehind tX3_dueBehindDeed
  simp only [znI, zneq, if_true, if_false, bnd_def]
  have n1 : ¬ (1 : Int32) = 2 := by decide
  have n2 : ¬ (1 : Int32) = 3 := by decide
  simp only [n1, n2, if_false]
  by_cases c1 : c = 105
  · subst c1
    simp only [if_true]
    refine ⟨_, _, rfl, rfl, h.fr, Or.inr ⟨2, i0, rfl, by decide, rfl, ⟨h.fr, h.ct, h.en, fun _ => h.sh (by decide), fun _ => hc, fun q => absurd q (by decide), fun _ => not_bg hc zlow.1⟩⟩⟩
  by_cases c2 : c = 108
  · subst c2
    simp only [zneq, if_true, if_false]
    refine ⟨_, _, rfl, rfl, h.fr, Or.inr ⟨3, i0, rfl, by decide, rfl, ⟨h.fr, h.ct, h.en, fun _ => h.sh (by decide), fun q => absurd q (by decide), fun _ => hc, fun _ => not_bg hc zlow.2.1⟩⟩⟩
  by_cases c3 : c = 112
  · subst c3
    simp only [zneq, if_true, if_false]
    obtain ⟨q1, q2, q3⟩ := step1c h hi (α := 2) (by decide) hc
    rw [show (2 : Int32) = nI 2 from rfl, q1]
    exact ⟨_, _, rfl, rfl, q2, Or.inr ⟨0, i0 + 2, rfl, by decide, rfl, q3⟩⟩
  by_cases c4 : c = 115
  · subst c4
    simp only [zneq, if_true, if_false]
    obtain ⟨q1, q2, q3⟩ := step1c h hi (α := 3) (by decide) hc
    rw [show (3 : Int32) = nI 3 from rfl, q1]
    exact ⟨_, _, rfl, rfl, q2, Or.inr ⟨0, i0 + 2, rfl, by decide, rfl, q3⟩⟩
  by_cases c5 : c = 120
  · subst c5
    simp only [zneq, if_true, if_false]
    obtain ⟨q1, q2, q3⟩ := step1c h hi (α := 4) (by decide) hc
    rw [show (4 : Int32) = nI 4 from rfl, q1]
    exact ⟨_, _, rfl, rfl, q2, Or.inr ⟨0, i0 + 2, rfl, by decide, rfl, q3⟩⟩
  simp only [if_neg c1, if_neg c2, if_neg c3, if_neg c4, if_neg c5]
  exact ⟨_, _, rfl, rfl, h.fr, Or.inl rfl⟩
theorem num_at {S : St} {i0 : Nat} {c : Int32} (hc : tX3_signAt S (nI (i0 + 2)) = c) : tX3_numberAt S (nI i0) = c - 48 := by
  unfold tX3_numberAt
  rw [show (2 : Int32) = nI 2 from rfl, nI_add, hc]
theorem digit_bg {S : St} {i : Nat} {c : Int32} (hc : tX3_signAt S (nI i) = c) (h : wi (c - 48) 0 9) : ¬ zbg S i := by
  obtain ⟨d, hd, rfl⟩ := (w489 _).mp h
  exact not_bg hc (zno (d := d) (A := 48) (by omega) (by omega))
theorem w29 {x : Int32} (h : wi x 0 2) : wi x 0 9 := ⟨h.1, Int32.le_trans h.2 (by decide)⟩
theorem step2 {S M M' : St} {i0 : Nat} {c : Int32} (h : Inv S M i0 2 M') (hi : i0 < 2 ^ 30) (hc : tX3_signAt S (nI (i0 + 2)) = c) : StepOk S M M' (i0 + 2) 2 c := by
  unfold StepOk tX8_readOn tX3_dueBehind
  simp only [znI, zneq, if_true, if_false, bnd_def, v482]
  have hz := zcnt_le S i0
  by_cases c1 : wi (c - 48) 0 2
  · simp only [if_pos c1]
    have nb := digit_bg hc (w29 c1)
    have n1 := h.nb (by decide)
    rw [closeX h.ct (by omega)]
    refine ⟨_, _, rfl, rfl, close_fr h.fr _ _ _ _, Or.inr ⟨0, i0 + 3, rfl, by decide, rfl, ?_⟩⟩
    refine inv_close (α := 0) h (by decide) (by decide) (h.k2 rfl) (fun _ => (num_at hc).symm) (fun _ => by rw [num_at hc]; exact c1) (fun q => absurd q (by decide)) (zcnt3 (h.sh (by decide)).1 n1 nb) (fun j h1 h2 => ?_) hi
    rcases (by omega : j = i0 + 1 ∨ j = i0 + 2) with rfl | rfl
    · exact n1
    · exact nb
  · simp only [if_neg c1]
    exact ⟨_, _, rfl, rfl, h.fr, Or.inl rfl⟩
theorem step3 {S M M' : St} {i0 : Nat} {c : Int32} (h : Inv S M i0 3 M') (hi : i0 < 2 ^ 30) (hc : tX3_signAt S (nI (i0 + 2)) = c) : StepOk S M M' (i0 + 2) 3 c := by
  unfold StepOk tX8_readOn tX3_dueBehind
  simp only [znI, zneq, if_true, if_false, bnd_def, v489]
  have hz := zcnt_le S i0
  by_cases c1 : wi (c - 48) 0 9
  · simp only [if_pos c1]
    have nb := digit_bg hc c1
    have n1 := h.nb (by decide)
    rw [closeX h.ct (by omega)]
    refine ⟨_, _, rfl, rfl, close_fr h.fr _ _ _ _, Or.inr ⟨0, i0 + 3, rfl, by decide, rfl, ?_⟩⟩
    refine inv_close (α := 1) h (by decide) (by decide) (h.k3 rfl) (fun _ => (num_at hc).symm) (fun q => absurd q (by decide)) (fun _ => by rw [num_at hc]; exact c1) (zcnt3 (h.sh (by decide)).1 n1 nb) (fun j h1 h2 => ?_) hi
    rcases (by omega : j = i0 + 1 ∨ j = i0 + 2) with rfl | rfl
    · exact n1
    · exact nb
  · simp only [if_neg c1]
    exact ⟨_, _, rfl, rfl, h.fr, Or.inl rfl⟩
theorem sign_in {S : St} {n i : Nat} (hn : S.1 4 0 0 = nI n) (h : i < n) (h60 : n ≤ 60) : tX3_signAt S (nI i) = S.1 4 1 i := by
  unfold tX3_signAt
  rw [if_neg (nI_pos (by omega)), hn, if_neg (show ¬ nI n ≤ nI i from nI_ge h (by omega)), if_neg (show ¬ (60 : Int32) ≤ nI i from nI_ge (b := 60) (by omega) (by decide)), nI_clamp (by omega)]
def Full (S M M' : St) (n : Nat) : Prop := MP M M' ∧ M'.1 0 0 22 = nI (zcnt S n) ∧ ∀ j, j < n → zbg S j → Entry S M' j (zcnt S j)
theorem stepA {S M M' : St} {i0 d : Nat} {c : Int32} (h : Inv S M i0 d M') (hd : d ≤ 3) (hi : i0 < 2 ^ 30) (hc : tX3_signAt S (nI (i0 + (if d = 0 then 0 else if d = 1 then 1 else 2))) = c) : StepOk S M M' (i0 + (if d = 0 then 0 else if d = 1 then 1 else 2)) d c := by
  rcases (by omega : d = 0 ∨ d = 1 ∨ d = 2 ∨ d = 3) with rfl | rfl | rfl | rfl
  · exact step0 h hi hc
  · exact step1 h hi hc
  · exact step2 h hi hc
  · exact step3 h hi hc
theorem parse_eq {S M : St} {n : Nat} (hn : S.1 4 0 0 = nI n) (h60 : n ≤ 60) (h18 : M.1 0 0 18 = nI n) (h17 : ∀ j, j < n → M.1 0 17 j = S.1 4 1 j) : ∀ (k i i0 d : Nat) (M' : St), i + k = n → i = i0 + (if d = 0 then 0 else if d = 1 then 1 else 2) → d ≤ 3 → Inv S M i0 d M' →
    LX3_faultPlace_4 S k i (nI d) = (LX8_fault_9 M k i (nI d) M').1 ∧ MP M (LX8_fault_9 M k i (nI d) M').2 ∧ ((LX8_fault_9 M k i (nI d) M').1 = -6 → Full S M (LX8_fault_9 M k i (nI d) M').2 n) ∧ ((LX8_fault_9 M k i (nI d) M').1 = -6 ∨ 0 ≤ (LX8_fault_9 M k i (nI d) M').1) := by
  intro k
  induction k with
  | zero =>
    intro i i0 d M' hi hi0 hd h
    rw [LX3_faultPlace_4, LX8_fault_9]
    by_cases c : d = 0
    · subst c
      rw [if_pos (show nI 0 = 0 from rfl), if_pos (show nI 0 = 0 from rfl)]
      obtain rfl : i0 = n := by simp at hi0; omega
      exact ⟨rfl, h.fr, fun _ => ⟨h.fr, h.ct, h.en⟩, Or.inl rfl⟩
    · have n0 : ¬ nI d = 0 := fun q => c ((nI_eq (b := 0) (by omega) (by decide)).mp q)
      rw [if_neg n0, if_neg n0, hn, h.fr.2 18 (by decide), h18]
      refine ⟨rfl, h.fr, fun q => ?_, Or.inr (nI_pos' (by omega))⟩
      exfalso
      have q : nI n = -6 := q
      have := congrArg Int32.toInt q
      rw [nI_toInt (by omega), show (-6 : Int32).toInt = -6 by decide] at this
      omega
  | succ k ih =>
    intro i i0 d M' hi hi0 hd h
    have hin : i < n := by omega
    have hs := sign_in hn hin h60
    rw [LX3_faultPlace_4, LX8_fault_9, hs, h.fr.1 17 (by decide) (by decide) (by decide) (by decide), h17 i hin]
    have hc : tX3_signAt S (nI (i0 + (if d = 0 then 0 else if d = 1 then 1 else 2))) = S.1 4 1 i := by rw [← hi0]; exact hs
    obtain ⟨r, M2, e1, e2, hF, hr⟩ := stepA h hd (by omega) hc
    rw [e1, e2]
    simp only [bnd_def]
    rcases hr with rfl | ⟨d', i1, rfl, hd', hi1, hI⟩
    · rw [if_pos rfl, if_neg (by decide)]
      refine ⟨rfl, hF, fun q => ?_, Or.inr (nI_pos' (by omega))⟩
      exfalso
      have q : nI i = -6 := q
      have := congrArg Int32.toInt q
      rw [nI_toInt (by omega), show (-6 : Int32).toInt = -6 by decide] at this
      omega
    · have n6 : ¬ nI d' = -6 := fun q => by
        have := congrArg Int32.toInt q
        rw [nI_toInt (by omega), show (-6 : Int32).toInt = -6 by decide] at this
        omega
      rw [if_neg n6, if_pos (nI_pos' (by omega))]
      exact ih (i + 1) i1 d' M2 (by omega) (by rw [← hi1, ← hi0]) hd' hI
theorem fault_eq {S M : St} (h : PadRel S M) : tX3_faultPlace S = (tX8_fault M).1 ∧ MP M (tX8_fault M).2 ∧ ((tX8_fault M).1 = -6 → ∃ n, n ≤ 60 ∧ S.1 4 0 0 = nI n ∧ Full S M (tX8_fault M).2 n) ∧ ((tX8_fault M).1 = -6 ∨ 0 ≤ (tX8_fault M).1) := by
  obtain ⟨e18, hc, hp⟩ := h
  obtain ⟨n, hn, en, ecl⟩ := wi_k (n := 60) hc rfl (by decide)
  have h18 : M.1 0 0 18 = nI n := e18.trans en
  have hM : MP M (up M 0 0 22 0) := ⟨fun b b0 _ _ _ => up_row_ne _ _ b0, fun j hj => by simp [up_val, hj]⟩
  have hI : Inv S M 0 0 (up M 0 0 22 0) := ⟨hM, by simp [up_val, zcnt]; rfl, fun j hj => absurd hj (by omega), fun q => absurd rfl q, fun q => absurd q (by decide), fun q => absurd q (by decide), fun q => absurd q (by decide)⟩
  obtain ⟨q1, q2, q3, q4⟩ := parse_eq en hn h18 (fun j hj => hp j (by omega)) n 0 0 0 (up M 0 0 22 0) (by omega) rfl (by decide) hI
  unfold tX3_faultPlace tX8_fault
  rw [ecl, h18, nI_clamp (by omega)]
  exact ⟨q1, q2, fun q => ⟨n, hn, en, q3 q⟩, q4⟩
