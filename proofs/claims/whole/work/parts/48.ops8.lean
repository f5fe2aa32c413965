theorem zup {n : Nat} (h : n < 2 ^ 31) : Int32.toInt64 (nI n) = lN n := by
  rw [← Int64.toInt_inj, Int32.toInt_toInt64, pk_lT (by omega), nI_toInt h]
theorem lik1 (S : St) {a s : Nat} (n : Int32) (ha : a ≤ 100) : ∀ (k i x : Nat), s ≤ i → i + k ≤ 6 → LX7_likelihood_5 S (nI a) n (nI s) k i (lN x) = lN (x * (100 - a) ^ k) := by
  intro k
  induction k with
  | zero => intro i x _ _; rw [LX7_likelihood_5, Nat.pow_zero, Nat.mul_one]
  | succ k ih =>
    intro i x hs hi
    rw [LX7_likelihood_5, if_pos (nI_le hs (by omega)), show (100 : Int32) - nI a = nI (100 - a) from pk_sub (a := 100) (by omega), zup (by omega), lN_mul, ih _ _ (by omega) (by omega), Nat.pow_succ', Nat.mul_assoc]
theorem lik0 (S : St) {a s n : Nat} (ha : a ≤ 100) (hs : s ≤ n) (hn : n ≤ 6) : ∀ (j k i x : Nat), i + j = s → i + k = n → LX7_likelihood_5 S (nI a) (nI n) (nI s) k i (lN x) = lN (x * (a ^ j * (100 - a) ^ (n - s))) := by
  intro j
  induction j with
  | zero =>
    intro k i x h1 h2
    rw [lik1 S (nI n) ha k i x (by omega) (by omega), Nat.pow_zero, Nat.one_mul, show k = n - s by omega]
  | succ j ih =>
    intro k i x h1 h2
    obtain ⟨k, rfl⟩ : ∃ k', k = k' + 1 := ⟨k - 1, by omega⟩
    have zn : ¬ nI s ≤ nI i := fun q => by
      rw [Int32.le_iff_toInt_le, nI_toInt (by omega), nI_toInt (by omega)] at q
      omega
    rw [LX7_likelihood_5, if_neg zn, zup (by omega), lN_mul, ih k (i + 1) _ (by omega) (by omega), Nat.pow_succ', Nat.mul_assoc, Nat.mul_assoc]
theorem lik_cls (S : St) {a s n : Nat} (ha : a ≤ 100) (hs : s ≤ n) (hn : n ≤ 6) : tX7_likelihood S (nI a) (nI n) (nI s) = lN (a ^ s * (100 - a) ^ (n - s)) := by
  unfold tX7_likelihood
  rw [nI_clamp (by omega)]
  have h := lik0 S ha hs hn s n 0 1 (by omega) (by omega)
  rw [Nat.one_mul] at h
  exact h
theorem tim0 (M : St) (a : Nat) (p : Int32) : ∀ (k i x : Nat), LX8_times_5 M (lN a) p k i (lN x) = lN (x * a ^ k) := by
  intro k
  induction k with
  | zero => intro i x; rw [LX8_times_5, Nat.pow_zero, Nat.mul_one]
  | succ k ih => intro i x; rw [LX8_times_5, lN_mul, ih, Nat.pow_succ', Nat.mul_assoc]
theorem tim_mod (M : St) {a k : Nat} (hk : k ≤ 6) : tX8_times M (lN a) (nI k) = lN (a ^ k) := by
  unfold tX8_times
  rw [nI_clamp (by omega)]
  have h := tim0 M a (nI k) k 0 1
  rw [Nat.one_mul] at h
  exact h
theorem lik_mod (M : St) {a s n : Nat} (ha : a ≤ 100) (hs : s ≤ n) (hn : n ≤ 6) : (tX8_times M (Int32.toInt64 (nI a)) (nI s)) * (tX8_times M (Int32.toInt64 (100 - nI a)) (nI n - nI s)) = lN (a ^ s * (100 - a) ^ (n - s)) := by
  rw [show (100 : Int32) - nI a = nI (100 - a) from pk_sub (a := 100) (by omega), pk_sub (by omega), zup (by omega), zup (by omega), tim_mod M (by omega), tim_mod M (by omega), lN_mul]
theorem lik_le {a s n : Nat} (ha : a ≤ 100) (hs : s ≤ n) (hn : n ≤ 6) : a ^ s * (100 - a) ^ (n - s) ≤ 1000000000000 := by
  have h1 : a ^ s ≤ 100 ^ s := Nat.pow_le_pow_left ha _
  have h2 : (100 - a) ^ (n - s) ≤ 100 ^ (n - s) := Nat.pow_le_pow_left (by omega) _
  have h3 := Nat.mul_le_mul h1 h2
  rw [← Nat.pow_add, show s + (n - s) = n by omega] at h3
  have h4 : 100 ^ n ≤ 100 ^ 6 := Nat.pow_le_pow_right (by decide) hn
  exact Nat.le_trans h3 h4
theorem wi_kk {x : Int32} {n : Nat} (hn : n < 2 ^ 31) (h : wi x 0 (nI n)) : ∃ k, k ≤ n ∧ x = nI k := by
  obtain ⟨k, hk, e, -⟩ := wi_k (n := n) h rfl hn
  exact ⟨k, hk, e⟩
theorem wjX (x y : Int32) : wj (Int32.toInt64 x) 0 (Int32.toInt64 y) ↔ wi x 0 y := wjI 0 y (by decide) (Int32.toInt_toInt64 y)
theorem E_meant (S M : St) (p1 p2 p3 p4 p5 : Int32) : tX7_meant S p1 p2 p3 p4 p5 = tX8_meant M p1 p2 p3 p4 p5 := by
  unfold tX7_meant tX8_meant
  simp only [wj100, wj6, wjX, wj1]
  by_cases c1 : wi p1 0 100
  rotate_left
  · simp only [if_neg c1]
  by_cases c2 : wi p2 0 100
  rotate_left
  · simp only [if_pos c1, if_neg c2]
  by_cases c3 : wi p3 0 6
  rotate_left
  · simp only [if_pos c1, if_pos c2, if_neg c3]
  by_cases c4 : wi p4 0 p3
  rotate_left
  · simp only [if_pos c1, if_pos c2, if_pos c3, if_neg c4]
  by_cases c5 : wi p5 0 1
  rotate_left
  · simp only [if_pos c1, if_pos c2, if_pos c3, if_pos c4, if_neg c5]
  simp only [if_pos c1, if_pos c2, if_pos c3, if_pos c4, if_pos c5]
  obtain ⟨a, ha, rfl⟩ := wi_kk (n := 100) (by decide) c1
  obtain ⟨b, hb, rfl⟩ := wi_kk (n := 100) (by decide) c2
  obtain ⟨n, hn, rfl⟩ := wi_kk (n := 6) (by decide) c3
  obtain ⟨s, hs, rfl⟩ := wi_kk (n := n) (by omega) c4
  obtain ⟨w, hw, rfl⟩ := wi_kk (n := 1) (by decide) c5
  rw [lik_cls S ha hs hn, lik_cls S hb hs hn, lik_mod M ha hs hn, lik_mod M hb hs hn, lN_add]
  have la := lik_le ha hs hn
  have lb := lik_le hb hs hn
  by_cases c6 : lN (a ^ s * (100 - a) ^ (n - s) + b ^ s * (100 - b) ^ (n - s)) = 0
  · rw [if_pos c6, if_pos c6, zup (by omega)]
    unfold tX7_partOf tX7_commonDivisor
    rw [show (if (0 : Int64) < 0 then (0 : Int64) else -0) = lN 0 by decide, show (1 : Int64) = lN 1 from rfl, gcd_cls S _ _ 41 100 0 0 1 (by decide) (by decide) (by decide) (by decide)]
    rcases (by omega : w = 0 ∨ w = 1) with rfl | rfl
    · rfl
    · rfl
  · rw [if_neg c6, if_neg c6]
    have h0 : 0 < a ^ s * (100 - a) ^ (n - s) + b ^ s * (100 - b) ^ (n - s) := by
      rcases Nat.eq_zero_or_pos (a ^ s * (100 - a) ^ (n - s) + b ^ s * (100 - b) ^ (n - s)) with q | q
      · rw [q] at c6; exact absurd rfl c6
      · exact q
    exact frac_eq ⟨by omega, Or.inl rfl⟩ h0 (by omega) _
