/-! digits -/
theorem bit64g : ∀ n, n < 64 → ∀ k, k < 6 → ((ishrF (nI n) (nI k)) &&& 1 = 1 ↔ n.testBit k = true) := bit64
def dsum (t b : Nat) : Nat → Nat → Nat
  | 0, _ => 0
  | k + 1, i => (if b.testBit i = true then t / 10 ^ i % 10 else 0) + dsum t b k (i + 1)
def dsumH (t b : Nat) : Nat → Nat → Nat
  | 0, _ => 0
  | k + 1, i => (if b.testBit (5 - i) = true then t / 10 ^ i % 10 else 0) + dsumH t b k (i + 1)
theorem p10_le (t i : Nat) : t / 10 ^ i ≤ t := Nat.div_le_self _ _
theorem p10_s (t i : Nat) : t / 10 ^ i / 10 = t / 10 ^ (i + 1) := by rw [Nat.div_div_eq_div_mul, Nat.pow_succ]
theorem dA_eq (S : St) (p b : Int32) {t n : Nat} (ht : t < 2 ^ 31) (hn : n < 64) (hb : b = nI n) : ∀ (k i s : Nat), i + k = 6 → LX7_digitsAdded_7 S p b k i (nI (t / 10 ^ i)) (nI s) = nI (s + dsum t n k i) := by
  subst hb
  intro k
  induction k with
  | zero => intro i s _; rfl
  | succ k ih =>
    intro i s hi
    have h1 := p10_le t i
    rw [LX7_digitsAdded_7, show nI (t / 10 ^ i) / 10 = nI (t / 10 ^ i / 10) from pk_div (d := 10) (by omega) (by decide) (by decide), p10_s, show irm (nI (t / 10 ^ i)) 10 = nI (t / 10 ^ i % 10) from irm_nI (d := 10) (by omega) (by decide) (by decide), nI_add, ih _ _ (by omega), ih _ _ (by omega), dsum]
    simp only [bit64g n hn i (by omega)]
    by_cases hc : n.testBit i = true
    · rw [if_pos hc, if_pos hc, Nat.add_assoc]
    · rw [if_neg hc, if_neg hc, Nat.zero_add]
theorem dO_eq (M : St) (p b : Int32) {t n : Nat} (ht : t < 2 ^ 31) (hn : n < 64) (hb : b = nI n) : ∀ (k i s : Nat), i + k = 6 → LX8_digitsOf_8 M p b 0 k i (nI s) (nI (t / 10 ^ i)) = nI (s + dsum t n k i) := by
  subst hb
  intro k
  induction k with
  | zero => intro i s _; rfl
  | succ k ih =>
    intro i s hi
    have h1 := p10_le t i
    rw [LX8_digitsOf_8, if_pos (show b01 0 = 0 by decide), show nI (t / 10 ^ i) / 10 = nI (t / 10 ^ i / 10) from pk_div (d := 10) (by omega) (by decide) (by decide), p10_s, show irm (nI (t / 10 ^ i)) 10 = nI (t / 10 ^ i % 10) from irm_nI (d := 10) (by omega) (by decide) (by decide), nI_add, Int32.add_zero, ih _ _ (by omega), ih _ _ (by omega), dsum]
    simp only [bit64g n hn i (by omega)]
    by_cases hc : n.testBit i = true
    · rw [if_pos hc, if_pos hc, Nat.add_assoc]
    · rw [if_neg hc, if_neg hc, Nat.zero_add]
theorem dH_eq (M : St) (p b : Int32) {t n : Nat} (ht : t < 2 ^ 31) (hn : n < 64) (hb : b = nI n) : ∀ (k i s : Nat), i + k = 6 → LX8_digitsOf_8 M p b 1 k i (nI s) (nI (t / 10 ^ i)) = nI (s + dsumH t n k i) := by
  subst hb
  intro k
  induction k with
  | zero => intro i s _; rfl
  | succ k ih =>
    intro i s hi
    have h1 := p10_le t i
    rw [LX8_digitsOf_8, if_neg (show ¬ b01 1 = 0 by decide), show nI (t / 10 ^ i) / 10 = nI (t / 10 ^ i / 10) from pk_div (d := 10) (by omega) (by decide) (by decide), p10_s, show irm (nI (t / 10 ^ i)) 10 = nI (t / 10 ^ i % 10) from irm_nI (d := 10) (by omega) (by decide) (by decide), nI_add, Int32.add_zero, ih _ _ (by omega), ih _ _ (by omega), dsumH, show (5 : Int32) - nI i = nI (5 - i) from pk_sub (a := 5) (by omega)]
    simp only [bit64g n hn (5 - i) (by omega)]
    by_cases hc : n.testBit (5 - i) = true
    · rw [if_pos hc, if_pos hc, Nat.add_assoc]
    · rw [if_neg hc, if_neg hc, Nat.zero_add]
def turnN (t : Nat) : Nat := ((((t % 10 * 10 + t / 10 % 10) * 10 + t / 100 % 10) * 10 + t / 1000 % 10) * 10 + t / 10000 % 10) * 10 + t / 100000 % 10
theorem turned_eq (S : St) {t : Nat} (ht : t ≤ 999999) : tX7_turned S (nI t) = nI (turnN t) := by
  have d10 : ∀ {r : Nat}, r ≤ 999999 → nI r / 10 = nI (r / 10) := fun h => pk_div (d := 10) (by omega) (by decide) (by decide)
  have m10 : ∀ {r : Nat}, r ≤ 999999 → irm (nI r) 10 = nI (r % 10) := fun h => irm_nI (d := 10) (by omega) (by decide) (by decide)
  have x10 : ∀ {r : Nat}, nI r * 10 = nI (r * 10) := fun {r} => pk_mul r 10
  unfold tX7_turned
  rw [LX7_turned_6, LX7_turned_6, LX7_turned_6, LX7_turned_6, LX7_turned_6, LX7_turned_6, LX7_turned_6]
  rw [m10 ht, d10 ht, m10 (by omega), d10 (by omega), m10 (by omega), d10 (by omega), m10 (by omega), d10 (by omega), m10 (by omega), d10 (by omega), m10 (by omega), show (0 : Int32) * 10 = nI 0 from rfl]
  simp only [nI_add, x10]
  unfold turnN
  simp only [Nat.div_div_eq_div_mul, Nat.zero_add]
theorem dig6 {a b c d e f N : Nat} (ha : a < 10) (hb : b < 10) (hc : c < 10) (hd : d < 10) (he : e < 10) (hf : f < 10) (hN : N = a * 100000 + b * 10000 + c * 1000 + d * 100 + e * 10 + f) :
    N % 10 = f ∧ N / 10 % 10 = e ∧ N / 100 % 10 = d ∧ N / 1000 % 10 = c ∧ N / 10000 % 10 = b ∧ N / 100000 % 10 = a := by
  have q1 : N / 10 = a * 10000 + b * 1000 + c * 100 + d * 10 + e := by omega
  have q2 : N / 100 = a * 1000 + b * 100 + c * 10 + d := by omega
  have q3 : N / 1000 = a * 100 + b * 10 + c := by omega
  have q4 : N / 10000 = a * 10 + b := by omega
  have q5 : N / 100000 = a := by omega
  rw [q1, q2, q3, q4, q5]
  clear q1 q2 q3 q4 q5
  refine ⟨by omega, by omega, by omega, by omega, by omega, by omega⟩
theorem zmod10 (x : Nat) : x % 10 < 10 := Nat.mod_lt _ (by decide)
theorem turn_dsum {t : Nat} (n : Nat) (ht : t ≤ 999999) : dsum (turnN t) n 6 0 = dsumH t n 6 0 := by
  have e : turnN t = t % 10 * 100000 + t / 10 % 10 * 10000 + t / 100 % 10 * 1000 + t / 1000 % 10 * 100 + t / 10000 % 10 * 10 + t / 100000 % 10 := by unfold turnN; omega
  obtain ⟨g0, g1, g2, g3, g4, g5⟩ := dig6 (zmod10 _) (zmod10 _) (zmod10 _) (zmod10 _) (zmod10 _) (zmod10 _) e
  have h0 : turnN t / 10 ^ 0 % 10 = t / 10 ^ 5 % 10 := by rw [Nat.pow_zero, Nat.div_one]; exact g0
  have h1 : turnN t / 10 ^ 1 % 10 = t / 10 ^ 4 % 10 := g1
  have h2 : turnN t / 10 ^ 2 % 10 = t / 10 ^ 3 % 10 := g2
  have h3 : turnN t / 10 ^ 3 % 10 = t / 10 ^ 2 % 10 := g3
  have h4 : turnN t / 10 ^ 4 % 10 = t / 10 ^ 1 % 10 := g4
  have h5 : turnN t / 10 ^ 5 % 10 = t / 10 ^ 0 % 10 := by rw [Nat.pow_zero, Nat.div_one]; exact g5
  simp only [dsum, dsumH, h0, h1, h2, h3, h4, h5]
  simp only [show 0 + 1 = 1 from rfl, show 1 + 1 = 2 from rfl, show 2 + 1 = 3 from rfl, show 3 + 1 = 4 from rfl, show 4 + 1 = 5 from rfl, h0, h1, h2, h3, h4, h5, show 5 - 0 = 5 from rfl, show 5 - 1 = 4 from rfl, show 5 - 2 = 3 from rfl, show 5 - 3 = 2 from rfl, show 5 - 4 = 1 from rfl, show 5 - 5 = 0 from rfl]
  omega
theorem dig_le (x : Nat) (c : Bool) : (if c = true then x % 10 else 0) ≤ 9 := by split <;> omega
theorem dsum_le (t n : Nat) : dsum t n 6 0 ≤ 54 := by
  simp only [dsum]
  have a0 := dig_le (t / 10 ^ 0) (n.testBit 0)
  have a1 := dig_le (t / 10 ^ (0 + 1)) (n.testBit (0 + 1))
  have a2 := dig_le (t / 10 ^ (0 + 1 + 1)) (n.testBit (0 + 1 + 1))
  have a3 := dig_le (t / 10 ^ (0 + 1 + 1 + 1)) (n.testBit (0 + 1 + 1 + 1))
  have a4 := dig_le (t / 10 ^ (0 + 1 + 1 + 1 + 1)) (n.testBit (0 + 1 + 1 + 1 + 1))
  have a5 := dig_le (t / 10 ^ (0 + 1 + 1 + 1 + 1 + 1)) (n.testBit (0 + 1 + 1 + 1 + 1 + 1))
  omega
theorem added_cls (S : St) {t n : Nat} (ht : t < 2 ^ 31) (hn : n < 64) : tX7_digitsAdded S (nI t) (nI n) = nI (dsum t n 6 0) := by
  unfold tX7_digitsAdded
  have h := dA_eq S (nI t) (nI n) ht hn rfl 6 0 0 rfl
  rw [Nat.pow_zero, Nat.div_one, Nat.zero_add] at h
  exact h
theorem added_mod (M : St) {t n : Nat} (ht : t < 2 ^ 31) (hn : n < 64) : tX8_digitsOf M (nI t) (nI n) 0 = nI (dsum t n 6 0) := by
  unfold tX8_digitsOf
  have h := dO_eq M (nI t) (nI n) ht hn rfl 6 0 0 rfl
  rw [Nat.pow_zero, Nat.div_one, Nat.zero_add] at h
  exact h
theorem added_modH (M : St) {t n : Nat} (ht : t < 2 ^ 31) (hn : n < 64) : tX8_digitsOf M (nI t) (nI n) 1 = nI (dsumH t n 6 0) := by
  unfold tX8_digitsOf
  have h := dH_eq M (nI t) (nI n) ht hn rfl 6 0 0 rfl
  rw [Nat.pow_zero, Nat.div_one, Nat.zero_add] at h
  exact h
theorem turn_lt {t : Nat} : turnN t < 2 ^ 31 := by unfold turnN; omega
theorem fleet_d (S M : St) {t n : Nat} (ht : t ≤ 999999) (hn : n < 64) : tX7_digitsAdded S (tX7_turned S (nI t)) (nI n) = tX8_digitsOf M (nI t) (nI n) 1 := by
  rw [turned_eq S ht, added_cls S turn_lt hn, turn_dsum n ht, added_modH M (by omega) hn]
theorem wi999 {x : Int32} (h : wi x 0 999999) : ∃ t, t ≤ 999999 ∧ x = nI t := by
  obtain ⟨k, hk, e, -⟩ := wi_k (n := 999999) h rfl (by decide)
  exact ⟨k, hk, e⟩
theorem E_fleet (S M : St) (p1 p2 p3 p4 : Int32) : tX7_fleet S p1 p2 p3 p4 = tX8_fleet M p1 p2 p3 p4 := by
  unfold tX7_fleet tX8_fleet
  simp only [wj999, wj54, wj1]
  by_cases c1 : wi p1 0 999999
  rotate_left
  · simp only [if_neg c1]
  by_cases c2 : wi p2 0 999999
  rotate_left
  · simp only [if_pos c1, if_neg c2]
  simp only [if_pos c1, if_pos c2]
  obtain ⟨t1, h1, rfl⟩ := wi999 c1
  obtain ⟨t2, h2, rfl⟩ := wi999 c2
  have hL : ∀ (k i b : Nat), i + k = 64 → b < 64 → LX7_fleet_64 S (nI t1) (nI t2) p3 p4 k i (nI b) (tX8_digitsOf M (nI t2) (nI b) 1) = LX8_fleet_56 M (nI t1) (nI t2) p3 p4 k i (nI b) := by
    intro k
    induction k with
    | zero => intro i b _ _; rw [LX7_fleet_64, LX8_fleet_56]
    | succ k ih =>
      intro i b hi hb
      rw [LX7_fleet_64, LX8_fleet_56, fleet_d S M h2 (by omega), fleet_d S M h1 (by omega), ih (i + 1) b (by omega) hb, ih (i + 1) i (by omega) (by omega)]
      by_cases q1 : p3 < tX8_digitsOf M (nI t1) (nI i) 1
      · simp only [if_pos q1, ite_self]
      · simp only [if_neg q1]
  have e0 : tX8_digitsOf M (nI t2) (nI 0) 1 = 0 := by rw [added_modH M (by omega) (by decide)]; simp [dsumH]; rfl
  have h63 := hL 63 1 0 rfl (by decide)
  rw [e0] at h63
  have h64 : LX7_fleet_64 S (nI t1) (nI t2) p3 p4 64 0 0 0 = LX7_fleet_64 S (nI t1) (nI t2) p3 p4 63 1 (nI 0) 0 := by
    rw [LX7_fleet_64, fleet_d S M h2 (by decide), e0, if_pos (show (0 : Int32) ≤ 0 by decide)]
    rfl
  rw [h64, h63]
  rfl
theorem abs54 : ∀ a, a < 64 → ∀ d, d < 64 → (if 0 ≤ (nI a - (2 * nI d)) then (nI a - (2 * nI d)) else 0 - (nI a - (2 * nI d))) = Int64.toInt32 (tX8_size S0X (Int32.toInt64 ((2 * nI d) - nI a))) := by decide +kernel
