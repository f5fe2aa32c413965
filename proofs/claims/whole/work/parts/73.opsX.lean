/-! masks of names, counts -/
def zmk (b : Nat → Bool) : Nat → Nat
  | 0 => 0
  | k + 1 => if b k = true then zmk b k ||| 2 ^ k else zmk b k
theorem zmk_bit (b : Nat → Bool) (a : Nat) : ∀ n, (zmk b n).testBit a = true ↔ a < n ∧ b a = true := by
  intro n
  induction n with
  | zero => rw [zmk, Nat.zero_testBit]; exact ⟨fun h => absurd h (by decide), fun h => absurd h.1 (Nat.not_lt_zero _)⟩
  | succ n ih =>
    rw [zmk]
    by_cases c : b n = true
    · rw [if_pos c, tb_or, ih]
      constructor
      · rintro (rfl | ⟨h, h'⟩)
        · exact ⟨Nat.lt_succ_self _, c⟩
        · exact ⟨by omega, h'⟩
      · rintro ⟨h, h'⟩
        by_cases q : a = n
        · exact Or.inl q
        · exact Or.inr ⟨by omega, h'⟩
    · rw [if_neg c, ih]
      constructor
      · rintro ⟨h, h'⟩; exact ⟨by omega, h'⟩
      · rintro ⟨h, h'⟩
        by_cases q : a = n
        · subst q; exact absurd h' c
        · exact ⟨by omega, h'⟩
theorem zmk_lt (b : Nat → Bool) : ∀ n, zmk b n < 2 ^ n := by
  intro n
  induction n with
  | zero => rw [zmk]; decide
  | succ n ih =>
    have h1 : (2 : Nat) ^ n < 2 ^ (n + 1) := Nat.pow_lt_pow_right (by decide) (by omega)
    rw [zmk]
    split
    · exact Nat.or_lt_two_pow (Nat.lt_trans ih h1) h1
    · exact Nat.lt_trans ih h1
theorem zext {x y : Nat} (hx : x < 256) (hy : y < 256) (h : ∀ a, a < 8 → (x.testBit a = true ↔ y.testBit a = true)) : x = y := by
  apply Nat.eq_of_testBit_eq
  intro i
  by_cases c : i < 8
  · exact Bool.eq_iff_iff.mpr (h i c)
  · have h8 : 256 ≤ 2 ^ i := by
      have := Nat.pow_le_pow_right (n := 2) (by decide) (show 8 ≤ i by omega)
      exact this
    rw [Nat.testBit_lt_two_pow (Nat.lt_of_lt_of_le hx h8), Nat.testBit_lt_two_pow (Nat.lt_of_lt_of_le hy h8)]
def zhow (b : Nat → Bool) : Nat → Nat
  | 0 => 0
  | k + 1 => zhow b k + (if b k = true then 1 else 0)
theorem zhow_le (b : Nat → Bool) : ∀ n, zhow b n ≤ n := by
  intro n
  induction n with
  | zero => exact Nat.le_refl _
  | succ n ih => rw [zhow]; split <;> omega
theorem zhow_mono {b b' : Nat → Bool} (h : ∀ j, b j = true → b' j = true) : ∀ n, zhow b n ≤ zhow b' n := by
  intro n
  induction n with
  | zero => exact Nat.le_refl _
  | succ n ih =>
    rw [zhow, zhow]
    by_cases c : b n = true
    · rw [if_pos c, if_pos (h n c)]; omega
    · rw [if_neg c]; omega
theorem zhow_more {b b' : Nat → Bool} (h : ∀ j, b j = true → b' j = true) {x : Nat} (hx : b' x = true) (hn : ¬ b x = true) : ∀ n, x < n → zhow b n + 1 ≤ zhow b' n := by
  intro n
  induction n with
  | zero => intro w; exact absurd w (Nat.not_lt_zero _)
  | succ n ih =>
    intro w
    rw [zhow, zhow]
    by_cases q : x = n
    · subst q
      have := zhow_mono h x
      rw [if_neg hn, if_pos hx]; omega
    · have := ih (by omega)
      by_cases c : b n = true
      · rw [if_pos c, if_pos (h n c)]; omega
      · rw [if_neg c]; omega
/-- the names of a ship, as bits; the names of the ships whose bits are below s; how many such ships -/
def zM (h : Nat → Nat) (j : Nat) : Nat := zmk (fun a => decide (h a = j)) 8
def zT (h : Nat → Nat) (s : Nat) : Nat := zmk (fun a => decide (zM h (h a) < s)) 8
def zN (h : Nat → Nat) (s m : Nat) : Nat := zhow (fun j => decide (zM h j ≠ 0 ∧ zM h j < s)) m
theorem zM_bit (h : Nat → Nat) (j : Nat) {a : Nat} (ha : a < 8) : (zM h j).testBit a = true ↔ h a = j := by
  unfold zM
  rw [zmk_bit]
  simp [ha]
theorem zM_lt (h : Nat → Nat) (j : Nat) : zM h j < 256 := zmk_lt _ 8
theorem zT_bit (h : Nat → Nat) (s : Nat) {a : Nat} (ha : a < 8) : (zT h s).testBit a = true ↔ zM h (h a) < s := by
  unfold zT
  rw [zmk_bit]
  simp [ha]
theorem zT_lt (h : Nat → Nat) (s : Nat) : zT h s < 256 := zmk_lt _ 8
theorem zM_ne {h : Nat → Nat} {a : Nat} (ha : a < 8) : zM h (h a) ≠ 0 := fun e => by
  have := (zM_bit h (h a) ha).mpr rfl
  rw [e, Nat.zero_testBit] at this
  exact absurd this (by decide)
theorem zT_one (h : Nat → Nat) : zT h 1 = 0 := zext (zT_lt h 1) (by decide) (fun a ha => by
  rw [zT_bit h 1 ha, Nat.zero_testBit]
  have := zM_ne (h := h) ha
  exact ⟨fun w => absurd w (by omega), fun w => absurd w (by decide)⟩)
theorem zbit255 : ∀ a, a < 8 → (255 : Nat).testBit a = true := by decide
theorem zT_all (h : Nat → Nat) : zT h 256 = 255 := zext (zT_lt h 256) (by decide) (fun a ha => by
  rw [zT_bit h 256 ha]
  exact ⟨fun _ => zbit255 a ha, fun _ => zM_lt h _⟩)
/-- no ship has just the names s: nothing new -/
theorem zT_skip {h : Nat → Nat} {s m : Nat} (hm : ∀ a, a < 8 → h a < m) (hno : ¬ ∃ j, j < m ∧ zM h j = s) : zT h (s + 1) = zT h s := zext (zT_lt h _) (zT_lt h _) (fun a ha => by
  rw [zT_bit h _ ha, zT_bit h _ ha]
  have : ¬ zM h (h a) = s := fun e => hno ⟨h a, hm a ha, e⟩
  omega)
theorem zN_mono (h : Nat → Nat) (s m : Nat) : zN h s m ≤ zN h (s + 1) m := zhow_mono (fun j w => by
  simp only [decide_eq_true_eq] at w ⊢
  exact ⟨w.1, by omega⟩) m
/-- a ship has just the names s -/
theorem zT_add {h : Nat → Nat} {s j0 : Nat} (e0 : zM h j0 = s) : zT h (s + 1) &&& s = s ∧ zT h (s + 1) ^^^ s = zT h s := by
  have hs : s < 256 := by rw [← e0]; exact zM_lt h j0
  have hb : ∀ a, a < 8 → (s.testBit a = true ↔ h a = j0) := fun a ha => by rw [← e0]; exact zM_bit h j0 ha
  refine ⟨zext (zx_and_lt (zT_lt h _)) hs (fun a ha => ?_), zext (Nat.xor_lt_two_pow (n := 8) (zT_lt h _) hs) (zT_lt h _) (fun a ha => ?_)⟩
  · rw [Nat.testBit_and, Bool.and_eq_true, zT_bit h _ ha, hb a ha]
    exact ⟨fun w => w.2, fun w => ⟨by rw [w, e0]; omega, w⟩⟩
  · rw [Nat.testBit_xor, zT_bit h s ha]
    have h1 := zT_bit h (s + 1) ha
    have h2 := hb a ha
    have hiff : ∀ x y : Bool, ((x ^^ y) = true ↔ (x = true ∧ ¬ y = true) ∨ (¬ x = true ∧ y = true)) := by decide
    rw [hiff, h1, h2]
    by_cases q : h a = j0
    · have : zM h (h a) = s := by rw [q]; exact e0
      simp only [q, not_true, and_false, false_or, and_true]
      rw [q] at this
      omega
    · have : ¬ zM h (h a) = s := fun w => by
        have := (hb a ha).mp (by rw [← w]; exact (zM_bit h _ ha).mpr rfl)
        exact q this
      simp only [q, not_false_eq_true, and_true, and_false, or_false]
      omega
theorem zN_add {h : Nat → Nat} {s m j0 : Nat} (hj : j0 < m) (e0 : zM h j0 = s) (hs : s ≠ 0) : zN h s m + 1 ≤ zN h (s + 1) m := zhow_more (x := j0) (fun j w => by
  simp only [decide_eq_true_eq] at w ⊢
  exact ⟨w.1, by omega⟩) (by simp only [decide_eq_true_eq]; rw [e0]; exact ⟨hs, by omega⟩) (by simp only [decide_eq_true_eq]; rw [e0]; omega) m hj
