/-! fractions in lowest terms -/
theorem toI0 : (0 : Int64).toInt = 0 := by decide
theorem lrm_lN {a b : Nat} (ha : a < 2 ^ 63) (h0 : 0 < b) (hb : b < 2 ^ 63) : lrm (lN a) (lN b) = lN (a % b) := pk_lRem ha h0 hb
theorem gcd_cls (S : St) (y1 y2 : Int64) : ∀ (j k i a b : Nat), a < 2 ^ 63 → b < 2 ^ 63 → b < 2 ^ j → 2 * j ≤ k → LX7_commonDivisor_3 S y1 y2 k i (lN a) (lN b) = lN (Nat.gcd a b) := by
  have z : ∀ (k i a : Nat), LX7_commonDivisor_3 S y1 y2 k i (lN a) (lN 0) = lN a := by
    intro k i a
    cases k with
    | zero => rfl
    | succ k => rw [LX7_commonDivisor_3, if_pos (show lN 0 = 0 from rfl)]
  intro j
  induction j with
  | zero =>
    intro k i a b ha hb h1 _
    obtain rfl : b = 0 := by omega
    rw [z, Nat.gcd_zero_right]
  | succ j ih =>
    intro k i a b ha hb h1 hk
    rcases Nat.eq_zero_or_pos b with h0 | h0
    · subst h0; rw [z, Nat.gcd_zero_right]
    · obtain ⟨k, rfl⟩ : ∃ k', k = k' + 2 := ⟨k - 2, by omega⟩
      have nb : ¬ lN b = 0 := fun q => by
        rw [show (0 : Int64) = lN 0 from rfl, pk_lEQ hb (by decide)] at q
        omega
      rw [LX7_commonDivisor_3, if_neg nb, lrm_lN ha h0 hb]
      have hm : a % b < b := Nat.mod_lt _ h0
      rcases Nat.eq_zero_or_pos (a % b) with h2 | h2
      · rw [h2, z, Nat.gcd_comm a b, Nat.gcd_rec, h2, Nat.gcd_zero_left]
      · have nm : ¬ lN (a % b) = 0 := fun q => by
          rw [show (0 : Int64) = lN 0 from rfl, pk_lEQ (by omega) (by decide)] at q
          omega
        rw [LX7_commonDivisor_3, if_neg nm, lrm_lN hb h2 (by omega), ih k _ _ _ (by omega) (by have := Nat.mod_lt b h2; omega) ?_ (by omega)]
        · rw [Nat.gcd_comm a b, Nat.gcd_rec b a, Nat.gcd_comm (a % b) b, Nat.gcd_comm (a % b), ← Nat.gcd_rec, Nat.gcd_comm]
        · have h3 : b % (a % b) < a % b := Nat.mod_lt _ h2
          have h4 : b % (a % b) + a % b ≤ b := by
            have h5 := Nat.div_add_mod b (a % b)
            have h6 : 1 ≤ b / (a % b) := (Nat.one_le_div_iff h2).mpr (by omega)
            have h7 : a % b ≤ a % b * (b / (a % b)) := Nat.le_mul_of_pos_right _ h6
            omega
          have h8 : 2 ^ (j + 1) = 2 * 2 ^ j := by rw [Nat.pow_succ, Nat.mul_comm]
          omega
theorem gcd_mod (M : St) (y1 y2 : Int64) (p1 : Int32) : ∀ (k a b : Nat), a < 2 ^ 63 → b < 2 ^ 63 → a < k → LX8_lowest_9 M y1 y2 p1 k (lN a) (lN b) = if p1 = 0 then y1 / lN (Nat.gcd a b) else y2 / lN (Nat.gcd a b) := by
  intro k
  induction k with
  | zero => intro a b _ _ h; omega
  | succ k ih =>
    intro a b ha hb hk
    rw [LX8_lowest_9]
    rcases Nat.eq_zero_or_pos a with h0 | h0
    · subst h0
      rw [if_pos (show lN 0 = 0 from rfl), Nat.gcd_zero_left]
    · have na : ¬ lN a = 0 := fun q => by
        rw [show (0 : Int64) = lN 0 from rfl, pk_lEQ ha (by decide)] at q
        omega
      have hm : b % a < a := Nat.mod_lt _ h0
      rw [if_neg na, lrm_lN hb h0 ha, ih _ _ (by omega) ha (by omega), ← Nat.gcd_rec]
/-- an Int64 with an absolute value -/
def AbsL (y : Int64) (a : Nat) : Prop := a < 2 ^ 63 ∧ (y = lN a ∨ (0 < a ∧ y = -lN a))
theorem lN_neg {a : Nat} (h0 : 0 < a) (h : a < 2 ^ 63) : (-lN a).toInt = -(a : Int) := by
  rw [Int64.toInt_neg, pk_lT h]
  apply Int.bmod_eq_of_le <;> omega
theorem AbsL.cls {y : Int64} {a : Nat} (h : AbsL y a) : (if 0 < y then y else -y) = lN a := by
  obtain ⟨ha, rfl | ⟨h0, rfl⟩⟩ := h
  · split
    · rfl
    · rename_i hc
      have h1 : a = 0 := by
        rw [Int64.lt_iff_toInt_lt, pk_lT ha, toI0] at hc
        omega
      subst h1; rfl
  · rw [if_neg, Int64.neg_neg]
    rw [Int64.lt_iff_toInt_lt, lN_neg h0 ha, toI0]
    omega
theorem AbsL.mod {M : St} {y : Int64} {a : Nat} (h : AbsL y a) : tX8_size M y = lN a := by
  unfold tX8_size
  obtain ⟨ha, rfl | ⟨h0, rfl⟩⟩ := h
  · rw [if_neg]
    rw [Int64.lt_iff_toInt_lt, pk_lT ha, toI0]
    omega
  · rw [if_pos, Int64.zero_sub, Int64.neg_neg]
    rw [Int64.lt_iff_toInt_lt, lN_neg h0 ha, toI0]
    omega
theorem AbsL.of32 (x : Int32) : ∃ a, a ≤ 2 ^ 31 ∧ AbsL (Int32.toInt64 x) a := by
  have h1 := Int32.le_toInt x
  have h2 := Int32.toInt_lt x
  rcases Int.lt_or_le x.toInt 0 with h | h
  · refine ⟨(-x.toInt).toNat, by omega, by omega, Or.inr ⟨by omega, ?_⟩⟩
    rw [← Int64.toInt_inj, Int32.toInt_toInt64, lN_neg (by omega) (by omega)]
    omega
  · refine ⟨x.toInt.toNat, by omega, by omega, Or.inl ?_⟩
    rw [← Int64.toInt_inj, Int32.toInt_toInt64, pk_lT (by omega)]
    omega
theorem frac_eq {S M : St} {y : Int64} {a b : Nat} (h : AbsL y a) (h0 : 0 < b) (hb : b < 2 ^ 41) (p1 : Int32) : tX7_partOf S y (lN b) p1 = tX8_lowest M y (lN b) p1 := by
  have hb63 : b < 2 ^ 63 := by omega
  unfold tX7_partOf tX8_lowest tX7_commonDivisor
  rw [h.cls, gcd_cls S _ _ 41 100 0 a b h.1 hb63 hb (by decide), h.mod, gcd_mod M _ _ _ _ a b h.1 hb63 (by rw [pk_lT h.1]; omega)]
  have hg : ¬ lN (Nat.gcd a b) = 0 := by
    have h1 : 0 < Nat.gcd a b := Nat.gcd_pos_of_pos_right _ h0
    have h2 : Nat.gcd a b ≤ b := Nat.le_of_dvd h0 (Nat.gcd_dvd_right a b)
    intro q
    rw [show (0 : Int64) = lN 0 from rfl, pk_lEQ (by omega) (by decide)] at q
    omega
  simp only [if_neg hg]
/-! what a voyage brings -/
theorem risk_eq {S M : St} {o k : Nat} (h : OwnRel (S.1 o) (M.1 0 0) (M.1 0)) (hk : k < 6) (n : Int32) : tX2_riskWith S o k n = tX8_riskWith M (nI k) n := by
  unfold tX2_riskWith tX8_riskWith
  obtain ⟨-, -, hr, -, -, s9, -⟩ := h
  rw [nI_clamp (by omega), (hr k hk).1, s9]
theorem sums_eq {S M : St} {o k : Nat} (h : OwnRel (S.1 o) (M.1 0 0) (M.1 0)) (hk : k < 6) : tX4_allSums S o k = tX8_insured M (nI k) := by
  unfold tX4_allSums tX8_insured
  obtain ⟨s0, s1, s2, s3⟩ := sidx k hk
  have r := (h.2.2.1 k hk).2.2.2.2
  simp only [bnd_def]
  rw [s1, s2, s3, r 0 (by decide), r 1 (by decide), r 2 (by decide), Int32.zero_add]
theorem mean_eq {S M : St} {o k : Nat} (h : OwnRel (S.1 o) (M.1 0 0) (M.1 0)) (hk : k < 6) (n v : Int32) : tX2_hundredfoldMean S o k n v = tX8_meanWith M (nI k) n v := by
  unfold tX2_hundredfoldMean tX8_meanWith
  rw [risk_eq h hk, nI_clamp (by omega), (h.2.2.1 k hk).2.1, h.2.2.2.2.1]
theorem deep_eq {S M : St} {o k : Nat} (h : OwnRel (S.1 o) (M.1 0 0) (M.1 0)) (hk : k < 6) (v : Int32) : tX2_deepestFor S o k v = tX8_deepWith M (nI k) v := by
  unfold tX2_deepestFor tX8_deepWith
  have hL : ∀ (f i : Nat) (x : Int32), LX2_deepestFor_5 S o k v f i x = LX8_deepWith_5 M (nI k) v f i x := by
    intro f
    induction f with
    | zero => intro i x; rfl
    | succ f ih =>
      intro i x
      rw [LX2_deepestFor_5, LX8_deepWith_5, mean_eq h hk, mean_eq h hk, ih, ih]
  exact hL _ _ _
theorem E_mean {S M : St} (h : Rel S M) (p1 p2 p3 : Int32) : tX7_mean S p1 p2 p3 = tX8_mean M p1 p2 p3 := by
  unfold tX7_mean tX8_mean
  have hO := h.own
  simp only [mSh_iff hO, wj9, wj1]
  by_cases c1 : isAt S 0 p1
  rotate_left
  · simp only [if_neg c1]
  obtain ⟨k, hk, rfl, e⟩ := plc_k c1.1
  simp only [if_pos c1]
  rw [e, mean_eq hO hk, sums_eq hO hk]
  obtain ⟨a, ha, hA⟩ := AbsL.of32 (tX8_meanWith M (nI k) p2 (tX8_insured M (nI k)))
  rw [show (100 : Int64) = lN 100 from rfl, frac_eq hA (by decide) (by decide)]
theorem E_deep {S M : St} (h : Rel S M) (p1 : Int32) : tX7_deep S p1 = tX8_deep M p1 := by
  unfold tX7_deep tX8_deep
  have hO := h.own
  simp only [mSh_iff hO]
  by_cases c1 : isAt S 0 p1
  rotate_left
  · simp only [if_neg c1]
  obtain ⟨k, hk, rfl, e⟩ := plc_k c1.1
  simp only [if_pos c1]
  rw [e, deep_eq hO hk, sums_eq hO hk]
