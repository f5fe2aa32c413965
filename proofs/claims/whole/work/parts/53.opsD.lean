/-! ===== one act of a voyage ===== -/
def zk (a : Nat) : Int32 := if a = 0 then 105 else if a = 1 then 108 else if a = 2 then 112 else if a = 3 then 115 else if a = 4 then 120 else 46
theorem sail_eq {S M : St} {o k : Nat} (h : OwnRel (S.1 o) (M.1 0 0) (M.1 0)) (hk : k < 6) : tX2_reasonAgainstSailing S o k = if (M.1 0 5 k) = 0 then 4 else (if (tX8_risk M (nI k)) ≤ (M.1 0 0 7) then 0 else 5) := by
  unfold tX2_reasonAgainstSailing tX8_risk
  rw [nI_clamp (by omega), risk_eq h hk, (h.2.2.1 k hk).2.2.2.1, h.2.2.2.1]
theorem af_bit {S M : St} {o k : Nat} (h : OwnRel (S.1 o) (M.1 0 0) (M.1 0)) (hk : k < 6) (hc : ¬ S.1 o k 0 = 0) : (ishrF (M.1 0 0 1) (nI k)) &&& 1 = 0 ↔ b01 (S.1 o k 1) = 0 := by
  rw [h.2.1.bitz hk, b01_nz]
  constructor
  · intro q
    exact Classical.byContradiction (fun w => q ⟨hc, w⟩)
  · intro q w; exact w.2 q
theorem zneq : (¬ (105 : Int32) = 46) ∧ (¬ (108 : Int32) = 46) ∧ (¬ (112 : Int32) = 46) ∧ (¬ (115 : Int32) = 46) ∧ (¬ (120 : Int32) = 46) ∧ (¬ (108 : Int32) = 105) ∧ (¬ (112 : Int32) = 105) ∧ (¬ (115 : Int32) = 105) ∧ (¬ (120 : Int32) = 105) ∧ (¬ (112 : Int32) = 108) ∧ (¬ (115 : Int32) = 108) ∧ (¬ (120 : Int32) = 108) ∧ (¬ (112 : Int32) = 115) ∧ (¬ (112 : Int32) = 120) ∧ (¬ (115 : Int32) = 112) ∧ (¬ (120 : Int32) = 112) ∧ (¬ (120 : Int32) = 115) ∧ (¬ (115 : Int32) = 120)
    ∧ (¬ (0 : Int32) = 5) ∧ (¬ (1 : Int32) = 5) ∧ (¬ (2 : Int32) = 5) ∧ (¬ (3 : Int32) = 5) ∧ (¬ (4 : Int32) = 5) ∧ (¬ (1 : Int32) = 0) ∧ (¬ (2 : Int32) = 0) ∧ (¬ (3 : Int32) = 0) ∧ (¬ (4 : Int32) = 0) ∧ (¬ (5 : Int32) = 0) ∧ (¬ (2 : Int32) = 1) ∧ (¬ (3 : Int32) = 1) ∧ (¬ (4 : Int32) = 1) ∧ (¬ (5 : Int32) = 1) ∧ (¬ (3 : Int32) = 2) ∧ (¬ (4 : Int32) = 2) ∧ (¬ (5 : Int32) = 2) ∧ (¬ (4 : Int32) = 3) ∧ (¬ (5 : Int32) = 3) ∧ (¬ (5 : Int32) = 4) := by decide
theorem znI : nI 0 = (0 : Int32) ∧ nI 1 = (1 : Int32) ∧ nI 2 = (2 : Int32) ∧ nI 3 = (3 : Int32) ∧ nI 4 = (4 : Int32) ∧ nI 5 = (5 : Int32) := ⟨rfl, rfl, rfl, rfl, rfl, rfl⟩
theorem zkN : zk 0 = 105 ∧ zk 1 = 108 ∧ zk 2 = 112 ∧ zk 3 = 115 ∧ zk 4 = 120 ∧ zk 5 = 46 := ⟨rfl, rfl, rfl, rfl, rfl, rfl⟩
theorem why_eq {S M : St} {o : Nat} (hO : OwnRel (S.1 o) (M.1 0 0) (M.1 0)) (hK : OwnOk (S.1 o)) {a : Nat} (ha : a < 6) (p n : Int32) (hn : a = 0 → wi n 0 2) : tX2_reasonAgainst S o (zk a) p n = tX8_whyNot M (nI a) p n := by
  unfold tX2_reasonAgainst tX8_whyNot
  simp only [mSh_iff hO]
  have hcase : a = 5 ∨ (¬ zk a = 46 ∧ ¬ nI a = 5) := by
    rcases (by omega : a = 5 ∨ a = 0 ∨ a = 1 ∨ a = 2 ∨ a = 3 ∨ a = 4) with rfl | rfl | rfl | rfl | rfl | rfl
    · exact Or.inl rfl
    all_goals exact Or.inr (by decide)
  rcases hcase with rfl | ⟨n46, n5⟩
  · obtain ⟨s, hs, es⟩ := wi_kk (n := 99) (by decide) hK.2.2.2
    rw [if_pos (show zk 5 = 46 from rfl), if_pos (show nI 5 = 5 from rfl), hO.2.2.2.2.2.2.1, es]
    by_cases c : s = 99
    · subst c; decide
    · rw [if_pos (show nI s < 99 from nI_lt (b := 99) (by omega) (by decide)), if_neg (show ¬ nI s = (99 : Int32) from fun q => c ((nI_eq (b := 99) (by omega) (by decide)).mp q))]
  rw [if_neg n46, if_neg n5]
  by_cases c1 : isAt S o p
  rotate_left
  · rw [if_neg c1, if_neg c1]
  rw [if_pos c1, if_pos c1]
  obtain ⟨hp, hb⟩ := c1
  obtain ⟨k, hk, rfl, e⟩ := plc_k hp
  rw [e] at hb
  simp only [af_bit hO hk hb, e]
  by_cases c2 : b01 (S.1 o k 1) = 0
  · rw [if_pos c2, if_pos c2]
  rw [if_neg c2, if_neg c2]
  rcases (by omega : a = 0 ∨ a = 1 ∨ a = 2 ∨ a = 3 ∨ a = 4 ∨ a = 5) with rfl | rfl | rfl | rfl | rfl | rfl
  · obtain ⟨f, hf, rfl, ef⟩ := wi2_k (hn rfl)
    rw [sumAt_nI _ _ _ hf, sidxE k hk f hf, (hO.2.2.1 k hk).2.2.2.2 f hf]
    simp only [zkN, znI, if_true]
  · simp only [zkN, znI, zneq, if_true, if_false, (hO.2.2.1 k hk).2.2.2.1]
  · simp only [zkN, znI, zneq, if_true, if_false]
  · simp only [zkN, znI, zneq, if_true, if_false, sail_eq hO hk]
  · simp only [zkN, znI, zneq, if_true, if_false, sail_eq hO hk]
  · exact absurd rfl n46
theorem own_ship {ow ow' : Nat → Nat → Int32} {sc sc' : Nat → Int32} {ar ar' : Nat → Nat → Int32} {k : Nat} {F A L G D : Int32} (hk : k < 6) (h : OwnRel ow sc ar)
    (h1 : ∀ i j, ow' i j = if i = k ∧ j = 1 then F else if i = k ∧ j = 2 then A else if i = k ∧ j = 5 then L else if i = 6 ∧ j = 4 then G else if i = 6 ∧ j = 5 then D else ow i j)
    (h0 : sc' 0 = sc 0 ∧ sc' 7 = sc 7 ∧ sc' 8 = sc 8 ∧ sc' 9 = sc 9 ∧ sc' 10 = sc 10) (h11 : sc' 11 = G) (h12 : sc' 12 = D) (hB : BitsOf (sc' 1) (fun j => ¬ ow j 0 = 0 ∧ ¬ (if j = k then F else ow j 1) = 0))
    (h2 : ∀ j, ar' 2 j = if j = k then A else ar 2 j) (h5 : ∀ j, ar' 5 j = if j = k then L else ar 5 j) (hr : ar' 3 = ar 3 ∧ ar' 4 = ar 4 ∧ ar' 6 = ar 6) : OwnRel ow' sc' ar' := by
  obtain ⟨b0, b1, hh, s7, s8, s9, s10, s11, s12⟩ := h
  obtain ⟨g0, g7, g8, g9, g10⟩ := h0
  obtain ⟨r3, r4, r6⟩ := hr
  have n6 : ¬ 6 = k := by omega
  refine ⟨?_, ?_, fun j hj => ?_, ?_, ?_, ?_, ?_, ?_, ?_⟩
  · rw [g0]
    refine b0.cong (fun j hj => ?_)
    rw [h1]
    simp [show ¬ j = 6 by omega]
  · refine hB.cong (fun j hj => ?_)
    rw [h1, h1]
    simp [show ¬ j = 6 by omega]
  · obtain ⟨q2, q3, q4, q5, q6⟩ := hh j hj
    have m6 : ¬ j = 6 := by omega
    rw [h2, h5, r3, r4, r6, h1, h1, h1, h1]
    simp [m6, q2, q3, q4, q5]
    intro e he
    rw [h1]
    simp [show ¬ 10 + j = k by omega, show ¬ 10 + j = 6 by omega]
    exact q6 e he
  · rw [g7, h1]; simp [n6]; exact s7
  · rw [g8, h1]; simp [n6]; exact s8
  · rw [g9, h1]; simp [n6]; exact s9
  · rw [g10, h1]; simp [n6]; exact s10
  · rw [h11, h1]; simp [n6]
  · rw [h12, h1]; simp [n6]
theorem ok_ship {ow ow' : Nat → Nat → Int32} {k : Nat} {F A L G D : Int32} (hk : k < 6) (h : OwnOk ow) (hA : wi A 0 40) (hL : wi L 0 9)
    (h1 : ∀ i j, ow' i j = if i = k ∧ j = 1 then F else if i = k ∧ j = 2 then A else if i = k ∧ j = 5 then L else if i = 6 ∧ j = 4 then G else if i = 6 ∧ j = 5 then D else ow i j) : OwnOk ow' := by
  obtain ⟨k1, k2⟩ := h
  have n6 : ¬ 6 = k := by omega
  refine ⟨fun j hj => ?_, ?_⟩
  · obtain ⟨a1, a2, a3, a4⟩ := k1 j hj
    have m6 : ¬ j = 6 := by omega
    rw [h1, h1, h1]
    simp only [m6, false_and, if_false]
    refine ⟨?_, by simpa using a2, ?_, fun e he => ?_⟩
    · by_cases q : j = k
      · simp [q]; exact hA
      · simp [q]; exact a1
    · by_cases q : j = k
      · simp [q]; exact hL
      · simp [q]; exact a3
    · rw [h1]
      simp [show ¬ 10 + j = k by omega, show ¬ 10 + j = 6 by omega]
      exact a4 e he
  · rw [h1, h1, h1]
    simpa [n6] using k2
/-- what an act leaves as it was, of the reference's world -/
def MFr (M M' : St) : Prop := (∀ b, b ≠ 0 → b ≠ 2 → b ≠ 5 → b ≠ 6 → M'.1 0 b = M.1 0 b) ∧ ∀ j, j ≠ 1 → j ≠ 9 → j ≠ 10 → j ≠ 11 → j ≠ 12 → j ≠ 23 → j ≠ 24 → j ≠ 25 → j ≠ 26 → M'.1 0 0 j = M.1 0 0 j
theorem insured_cong {M M' : St} (p : Int32) (h : M'.1 0 6 = M.1 0 6) : tX8_insured M' p = tX8_insured M p := by
  unfold tX8_insured
  rw [h]
theorem sinkM (M : St) {k : Nat} (hk : k < 6) : (∀ b, b ≠ 0 → (tX8_sink M (nI k)).1 0 b = M.1 0 b) ∧ ∀ j, (tX8_sink M (nI k)).1 0 0 j =
    if j = 23 then M.1 0 0 23 + 1 else if j = 11 then M.1 0 0 11 + (tX8_insured M (nI k) - M.1 0 3 k) else if j = 12 then M.1 0 0 12 + M.1 0 4 k else if j = 1 then M.1 0 0 1 &&& ((ishlF 1 (nI k)) ^^^ (-1))
    else if j = 24 then (if M.1 0 0 26 = 0 then M.1 0 0 27 else M.1 0 0 24) else if j = 25 then (if M.1 0 0 26 = 0 then nI k else M.1 0 0 25) else if j = 26 then M.1 0 0 26 + 1 else M.1 0 0 j := by
  unfold tX8_sink
  rw [insured_cong (M := M) (nI k) (up_row_ne _ _ (by decide))]
  generalize tX8_insured M (nI k) = I
  have e : (nI k).toNatClampNeg = k := nI_clamp (by omega)
  rw [e]
  simp only [bnd_def]
  by_cases h26 : M.1 0 0 26 = 0
  · constructor
    · intro b hb
      simp [up_val, h26]
      funext j
      simp [up_val, hb]
    · intro j
      simp [up_val, h26]
      by_cases j1 : j = 1 <;> by_cases j11 : j = 11 <;> by_cases j12 : j = 12 <;> by_cases j23 : j = 23 <;> by_cases j24 : j = 24 <;> by_cases j25 : j = 25 <;> by_cases j26 : j = 26 <;> simp_all <;> omega
  · constructor
    · intro b hb
      simp [up_val, h26]
      funext j
      simp [up_val, hb]
    · intro j
      simp [up_val, h26]
      by_cases j1 : j = 1 <;> by_cases j11 : j = 11 <;> by_cases j12 : j = 12 <;> by_cases j23 : j = 23 <;> by_cases j24 : j = 24 <;> by_cases j25 : j = 25 <;> by_cases j26 : j = 26 <;> simp_all <;> omega
