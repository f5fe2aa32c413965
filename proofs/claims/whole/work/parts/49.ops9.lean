theorem Rel.l {S M S' M' : St} (h : Rel S M) (h1 : S'.1 = S.1) (h2 : M'.1 = M.1) : Rel S' M' := by
  obtain ⟨a, b⟩ := S
  obtain ⟨c, d⟩ := M
  obtain ⟨a', b'⟩ := S'
  obtain ⟨c', d'⟩ := M'
  obtain rfl : a' = a := h1
  obtain rfl : c' = c := h2
  exact h
def Ch (S M : St) (k m : Nat) : Prop := ∀ j, j < 7 → ∃ c, c ≤ (if j < k then 100 ^ m else 100 ^ (m + 1)) ∧ S.2 j = lN c ∧ M.2 j = lN c
theorem uL_val (S : St) (j : Nat) (v : Int64) (i : Nat) : (uL S j v).2 i = if i = j then v else S.2 i := rfl
theorem lN_bound {m p c : Nat} (hc : c ≤ 100 ^ m) (hp : p ≤ 100) : c * p ≤ 100 ^ (m + 1) := by
  rw [Nat.pow_succ]
  exact Nat.mul_le_mul hc hp
theorem lN_bound2 {m p c d : Nat} (hc : c ≤ 100 ^ m) (hd : d ≤ 100 ^ m) (hp : p ≤ 100) : c * (100 - p) + d * p ≤ 100 ^ (m + 1) := by
  rw [Nat.pow_succ, show (100 : Nat) ^ m * 100 = 100 ^ m * (100 - p) + 100 ^ m * p by rw [← Nat.mul_add, Nat.sub_add_cancel hp]]
  exact Nat.add_le_add (Nat.mul_le_mul hc (Nat.le_refl _)) (Nat.mul_le_mul hd (Nat.le_refl _))
theorem chance_eq (S0 M0 : St) {p m : Nat} (hp : p ≤ 100) : ∀ (k : Nat) (S M : St), k ≤ 7 → Ch S M k m →
    (LX2_addChance_5 S0 (nI p) k S).1 = S.1 ∧ (LX8_oneMore_3 M0 (nI p) k M).1 = M.1 ∧ Ch (LX2_addChance_5 S0 (nI p) k S) (LX8_oneMore_3 M0 (nI p) k M) 0 m := by
  intro k
  induction k with
  | zero => intro S M _ h; rw [LX2_addChance_5, LX8_oneMore_3]; exact ⟨rfl, rfl, h⟩
  | succ k ih =>
    intro S M hk h
    obtain ⟨c, hc, e1, e2⟩ := h k (by omega)
    rw [if_pos (by omega)] at hc
    have e100 : Int32.toInt64 (100 - nI p) = lN (100 - p) := by rw [show (100 : Int32) - nI p = nI (100 - p) from pk_sub (a := 100) (by omega), nI_l (by omega)]
    have ep : Int32.toInt64 (nI p) = lN p := nI_l (by omega)
    rw [LX2_addChance_5, LX8_oneMore_3, e1, e2, e100, ep]
    by_cases h0 : k = 0
    · subst h0
      have z1 : nI 0 ≤ (0 : Int32) := by decide
      rw [if_pos z1, if_pos (show nI 0 = 0 from rfl), show (0 : Int64) = lN 0 from rfl, lN_mul, lN_mul, lN_add]
      refine ih _ _ (by omega) (fun j hj => ?_)
      by_cases hj0 : j = 0
      · subst hj0
        refine ⟨c * (100 - p) + 0 * p, ?_, by rw [uL_val, if_pos rfl], by rw [uL_val, if_pos rfl]⟩
        rw [if_neg (by omega)]
        exact lN_bound2 hc (Nat.zero_le _) hp
      · obtain ⟨d, hd, f1, f2⟩ := h j hj
        exact ⟨d, by rw [if_neg (by omega)] at hd ⊢; exact hd, by rw [uL_val, if_neg hj0, f1], by rw [uL_val, if_neg hj0, f2]⟩
    · have n1 : ¬ nI k ≤ (0 : Int32) := nI_nle (by omega) (by omega)
      have n2 : ¬ nI k = (0 : Int32) := fun q => h0 ((nI_eq (b := 0) (by omega) (by decide)).mp q)
      have e3 : (nI k - 1).toNatClampNeg = k - 1 := by rw [show (1 : Int32) = nI 1 from rfl, pk_sub (by omega), nI_clamp (by omega)]
      obtain ⟨d, hd, f1, f2⟩ := h (k - 1) (by omega)
      rw [if_pos (by omega)] at hd
      rw [if_neg n1, if_neg n2, e3, f1, f2, lN_mul, lN_mul, lN_add]
      simp only [bnd_def]
      refine ih _ _ (by omega) (fun j hj => ?_)
      by_cases hjk : j = k
      · subst hjk
        refine ⟨c * (100 - p) + d * p, ?_, by rw [uL_val, if_pos rfl], by rw [uL_val, if_pos rfl]⟩
        rw [if_neg (by omega)]
        exact lN_bound2 hc hd hp
      · obtain ⟨a, ha, g1, g2⟩ := h j hj
        refine ⟨a, ?_, by rw [uL_val, if_neg hjk, g1], by rw [uL_val, if_neg hjk, g2]⟩
        by_cases hjl : j < k
        · rw [if_pos (by omega)] at ha ⊢; exact ha
        · rw [if_neg (by omega)] at ha ⊢; exact ha
theorem risk_nI {S : St} {o k : Nat} (h : OwnOk (S.1 o)) (hk : k < 6) : ∃ p, p ≤ 82 ∧ tX2_riskWith S o k (S.1 o k 5) = nI p := by
  obtain ⟨h1, -, h2, -⟩ := h
  obtain ⟨a1, -, a3, -⟩ := h1 k hk
  obtain ⟨a, ha, ea⟩ := wi_kk (n := 40) (by decide) a1
  obtain ⟨b, hb, eb⟩ := wi_kk (n := 9) (by decide) a3
  obtain ⟨c, hc, ec⟩ := wi_kk (n := 1) (by decide) h2
  refine ⟨a + 3 * b + 15 * c, by omega, ?_⟩
  unfold tX2_riskWith
  rw [ea, eb, ec, show (3 : Int32) * nI b = nI (3 * b) from pk_mul 3 b, show (15 : Int32) * nI c = nI (15 * c) from pk_mul 15 c, nI_add, nI_add]
theorem mAf_iff {S M : St} (h : OwnRel (S.1 0) (M.1 0 0) (M.1 0)) (p : Int32) : mAf M p ↔ isAf S 0 p := by
  unfold mAf isAf
  rw [mSh_iff h]
  constructor
  · rintro ⟨hp, hb⟩
    refine ⟨hp, ?_⟩
    obtain ⟨k, hk, rfl, e⟩ := plc_k hp.1
    rw [e]
    exact ((h.2.1.bit hk).mp hb).2
  · rintro ⟨hp, hb⟩
    refine ⟨hp, ?_⟩
    obtain ⟨k, hk, rfl, e⟩ := plc_k hp.1
    rw [e] at hb
    have := hp.2
    rw [e] at this
    exact (h.2.1.bit hk).mpr ⟨this, hb⟩
theorem fill_eq {S M : St} (h : Rel S M) (p1 p2 : Int32) : ∀ (k i m : Nat) (S' M' : St), i + k = 6 → m ≤ i → S'.1 = S.1 → M'.1 = M.1 → Ch S' M' 7 m →
    ∃ S2 M2 m2, m2 ≤ 6 ∧ S2.1 = S.1 ∧ M2.1 = M.1 ∧ Ch S2 M2 7 m2 ∧ LX2_fillChances_31 S 0 k i (lN (100 ^ m)) S' = (lN (100 ^ m2), S2) ∧ LX8_losses_78 M p1 p2 k i (lN (100 ^ m)) M' = LX8_losses_122 M p1 p2 (lN (100 ^ m2)) M2 (7 - (Int32.toNatClampNeg p1)) (Int32.toNatClampNeg p1) 0 := by
  intro k
  induction k with
  | zero => intro i m S' M' hi hm h1 h2 hC; rw [LX2_fillChances_31, LX8_losses_78]; exact ⟨S', M', m, by omega, h1, h2, hC, rfl, rfl⟩
  | succ k ih =>
    intro i m S' M' hi hm h1 h2 hC
    have hR : Rel S' M' := h.l h1 h2
    have hO := hR.own
    have hi6 : i < 6 := by omega
    rw [LX2_fillChances_31, LX8_losses_78]
    simp only [mAf_iff hO, bnd_def]
    by_cases hc : isAf S' 0 (nI i)
    · rw [if_pos hc, if_pos hc, nI_clamp (by omega)]
      obtain ⟨p, hp, ep⟩ := risk_nI hR.ok hi6
      have er : tX8_risk M' (nI i) = nI p := by
        unfold tX8_risk
        rw [nI_clamp (by omega), (hO.2.2.1 i hi6).2.2.2.1, ← risk_eq hO hi6, ep]
      rw [ep, er, show lN (100 ^ m) * 100 = lN (100 ^ (m + 1)) by rw [show (100 : Int64) = lN 100 from rfl, lN_mul, Nat.pow_succ]]
      obtain ⟨q1, q2, q3⟩ := chance_eq S' M' (p := p) (m := m) (by omega) 7 S' M' (by decide) hC
      exact ih (i + 1) (m + 1) _ _ (by omega) (by omega) (q1.trans h1) (q2.trans h2) (fun j hj => by
        obtain ⟨c, hc, e1, e2⟩ := q3 j hj
        rw [if_neg (by omega)] at hc
        exact ⟨c, by rw [if_pos hj]; exact hc, e1, e2⟩)
    · rw [if_neg hc, if_neg hc]
      exact ih (i + 1) m _ _ (by omega) (by omega) h1 h2 hC
theorem fill_init {S M : St} (h : Rel S M) (p1 p2 : Int32) : ∀ (k i : Nat) (S' M' : St), i + k = 7 → S'.1 = S.1 → M'.1 = M.1 → (∀ j, j < i → S'.2 j = lN (if j = 0 then 1 else 0) ∧ M'.2 j = lN (if j = 0 then 1 else 0)) →
    ∃ S2 M2 m2, m2 ≤ 6 ∧ S2.1 = S.1 ∧ M2.1 = M.1 ∧ Ch S2 M2 7 m2 ∧ LX2_fillChances_2 S 0 k i S' = (lN (100 ^ m2), S2) ∧ LX8_losses_46 M p1 p2 k i M' = LX8_losses_122 M p1 p2 (lN (100 ^ m2)) M2 (7 - (Int32.toNatClampNeg p1)) (Int32.toNatClampNeg p1) 0 := by
  intro k
  induction k with
  | zero =>
    intro i S' M' hi h1 h2 hv
    rw [LX2_fillChances_2, LX8_losses_46]
    refine fill_eq h p1 p2 6 0 0 S' M' rfl (by decide) h1 h2 (fun j hj => ?_)
    obtain ⟨v1, v2⟩ := hv j (by omega)
    refine ⟨_, ?_, v1, v2⟩
    rw [if_pos hj]
    split <;> decide
  | succ k ih =>
    intro i S' M' hi h1 h2 hv
    rw [LX2_fillChances_2, LX8_losses_46]
    by_cases h0 : i = 0
    · subst h0
      rw [if_pos (show nI 0 = 0 from rfl), if_pos (show nI 0 = 0 from rfl)]
      refine ih 1 _ _ (by omega) h1 h2 (fun j hj => ?_)
      obtain rfl : j = 0 := by omega
      exact ⟨rfl, rfl⟩
    · have n2 : ¬ nI i = (0 : Int32) := fun q => h0 ((nI_eq (b := 0) (by omega) (by decide)).mp q)
      rw [if_neg n2, if_neg n2]
      refine ih (i + 1) _ _ (by omega) h1 h2 (fun j hj => ?_)
      by_cases hji : j = i
      · subst hji
        rw [uL_val, uL_val, if_pos rfl, if_neg h0]
        exact ⟨rfl, if_pos rfl⟩
      · rw [uL_val, uL_val, if_neg hji, if_neg hji]
        exact hv j (by omega)
theorem sum_eq {S M S2 M2 : St} {m : Nat} (p1 p2 : Int32) (hm : m ≤ 6) (hC : Ch S2 M2 7 m) : ∀ (k i a : Nat), i + k = 7 → a ≤ i * 1000000000000 →
    (LX7_losses_61 S p1 p2 S2 (lN (100 ^ m)) k i (lN a)).1 = (LX8_losses_122 M p1 p2 (lN (100 ^ m)) M2 k i (lN a)).1 ∧ (LX7_losses_61 S p1 p2 S2 (lN (100 ^ m)) k i (lN a)).2 = S2 ∧ (LX8_losses_122 M p1 p2 (lN (100 ^ m)) M2 k i (lN a)).2 = M2 := by
  have hb : 100 ^ m ≤ 1000000000000 := Nat.pow_le_pow_right (n := 100) (by decide) hm
  intro k
  induction k with
  | zero =>
    intro i a hi ha
    rw [LX7_losses_61, LX8_losses_122]
    exact ⟨frac_eq ⟨by omega, Or.inl rfl⟩ (Nat.pos_of_ne_zero (by simp)) (by omega) _, rfl, rfl⟩
  | succ k ih =>
    intro i a hi ha
    obtain ⟨c, hc, e1, e2⟩ := hC i (by omega)
    rw [if_pos (by omega)] at hc
    rw [LX7_losses_61, LX8_losses_122, e1, e2, lN_add]
    exact ih (i + 1) (a + c) (by omega) (by omega)
theorem mean_bound {S : St} {o k : Nat} (h : OwnOk (S.1 o)) (hk : k < 6) : -100000 ≤ (tX2_hundredfoldMean S o k (S.1 o k 5) (tX4_allSums S o k)).toInt ∧ (tX2_hundredfoldMean S o k (S.1 o k 5) (tX4_allSums S o k)).toInt ≤ 100000 := by
  obtain ⟨r, hr, er⟩ := risk_nI h hk
  obtain ⟨h1, h2, -, -⟩ := h
  obtain ⟨a1, a2, a3, a4⟩ := h1 k hk
  obtain ⟨w, hw, ew⟩ := wi_kk (n := 99) (by decide) a2
  obtain ⟨l, hl, el⟩ := wi_kk (n := 9) (by decide) a3
  obtain ⟨f, hf, ef⟩ := wi_kk (n := 20) (by decide) h2
  obtain ⟨x, hx, ex⟩ := wi_kk (n := 99) (by decide) (a4 0 (by decide))
  obtain ⟨y, hy, ey⟩ := wi_kk (n := 99) (by decide) (a4 1 (by decide))
  obtain ⟨z, hz, ez⟩ := wi_kk (n := 99) (by decide) (a4 2 (by decide))
  have es : tX4_allSums S o k = nI (x + y + z) := by
    unfold tX4_allSums
    rw [ex, ey, ez, Int32.zero_add, nI_add, nI_add]
  have eq : (100 - nI r) * nI l * nI f = nI ((100 - r) * l * f) := by rw [show (100 : Int32) - nI r = nI (100 - r) from pk_sub (a := 100) (by omega), pk_mul, pk_mul]
  unfold tX2_hundredfoldMean
  rw [er, es, ew, el, ef, eq, Int32.mul_sub, pk_mul, pk_mul]
  have b1 : r * (x + y + z) ≤ 82 * 297 := Nat.mul_le_mul hr (by omega)
  have b2 : r * w ≤ 82 * 99 := Nat.mul_le_mul hr hw
  have b3 : (100 - r) * l * f ≤ 100 * 9 * 20 := Nat.mul_le_mul (Nat.mul_le_mul (by omega) hl) hf
  generalize r * (x + y + z) = A at b1 ⊢
  generalize r * w = B at b2 ⊢
  generalize (100 - r) * l * f = C at b3 ⊢
  rw [Int32.toInt_add, Int32.toInt_sub, nI_toInt (by omega), nI_toInt (by omega), nI_toInt (by omega), Int.bmod_eq_of_le (n := (A : Int) - B) (by omega) (by omega), Int.bmod_eq_of_le (by omega) (by omega)]
  omega
theorem meanAll_eq {S M : St} (h : Rel S M) : ∀ (k i : Nat) (x : Int32) (y : Int64), i + k = 6 → y.toInt = x.toInt → -100000 * (i : Int) ≤ x.toInt → x.toInt ≤ 100000 * (i : Int) →
    ∃ z : Int32, LX2_hundredfoldMeanOfAll_4 S 0 k i x = z ∧ LX8_meanOfAll_4 M k i y = Int32.toInt64 z := by
  have hO := h.own
  intro k
  induction k with
  | zero =>
    intro i x y hi he _ _
    rw [LX2_hundredfoldMeanOfAll_4, LX8_meanOfAll_4]
    exact ⟨x, rfl, by rw [← Int64.toInt_inj, Int32.toInt_toInt64, he]⟩
  | succ k ih =>
    intro i x y hi he b1 b2
    have hi6 : i < 6 := by omega
    rw [LX2_hundredfoldMeanOfAll_4, LX8_meanOfAll_4]
    simp only [mAf_iff hO, bnd_def]
    by_cases hc : isAf S 0 (nI i)
    · rw [if_pos hc, if_pos hc, nI_clamp (by omega), (hO.2.2.1 i hi6).2.2.2.1, ← sums_eq hO hi6, ← mean_eq hO hi6]
      have hb := mean_bound h.ok hi6
      generalize tX2_hundredfoldMean S 0 i (S.1 0 i 5) (tX4_allSums S 0 i) = v at hb ⊢
      obtain ⟨v1, v2⟩ := hb
      have ex : (x + v).toInt = x.toInt + v.toInt := by rw [Int32.toInt_add, Int.bmod_eq_of_le (by omega) (by omega)]
      refine ih (i + 1) _ _ (by omega) ?_ (by rw [ex]; omega) (by rw [ex]; omega)
      rw [ex, Int64.toInt_add, he, Int32.toInt_toInt64, Int.bmod_eq_of_le (by omega) (by omega)]
    · rw [if_neg hc, if_neg hc, Int64.add_zero]
      exact ih (i + 1) x y (by omega) he (by omega) (by omega)
theorem E_losses {S M : St} (h : Rel S M) (p1 p2 : Int32) : Ans (tX7_losses S p1 p2) (tX8_losses M p1 p2) := by
  unfold tX7_losses tX8_losses
  simp only [wjm6, wj1, bnd_def]
  by_cases c1 : wi p1 (-1) 6
  rotate_left
  · simp only [if_neg c1]; exact Ans.same h
  by_cases c2 : wi p2 0 1
  rotate_left
  · simp only [if_pos c1, if_neg c2]; exact Ans.same h
  simp only [if_pos c1, if_pos c2]
  by_cases c3 : 0 ≤ p1
  · rw [if_pos c3, if_pos c3]
    obtain ⟨n, hn, rfl⟩ := wi_kk (n := 6) (by decide) ⟨c3, c1.2⟩
    obtain ⟨S2, M2, m, hm, h1, h2, hC, e1, e2⟩ := fill_init h (nI n) p2 7 0 S M rfl rfl rfl (fun j hj => absurd hj (by omega))
    have e1 : tX2_fillChances S 0 = (lN (100 ^ m), S2) := e1
    rw [e1, e2, nI_clamp (by omega)]
    obtain ⟨q1, q2, q3⟩ := sum_eq (S := S) (M := M) (nI n) p2 hm hC (7 - n) n 0 (by omega) (by omega)
    exact ⟨q1, by rw [show (LX7_losses_61 S (nI n) p2 S2 (lN (100 ^ m)) (7 - n) n 0).2 = S2 from q2, show (LX8_losses_122 M (nI n) p2 (lN (100 ^ m)) M2 (7 - n) n 0).2 = M2 from q3]; exact h.l h1 h2⟩
  · rw [if_neg c3, if_neg c3]
    obtain ⟨z, e1, e2⟩ := meanAll_eq h 6 0 0 0 rfl rfl (by decide) (by decide)
    have e1 : tX2_hundredfoldMeanOfAll S 0 = z := e1
    have e2 : tX8_meanOfAll M = Int32.toInt64 z := e2
    rw [e1, e2]
    obtain ⟨a, ha, hA⟩ := AbsL.of32 z
    refine Ans.mk ?_ h
    show tX7_partOf S (Int32.toInt64 z) (lN 100) p2 = tX8_lowest M (Int32.toInt64 z) (lN 100) p2
    exact frac_eq hA (by decide) (by decide) p2
