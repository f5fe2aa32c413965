/-! ===== copies of an owner, of the tales, and what the reference keeps ===== -/
theorem c4_val (S : St) {o o2 k : Nat} (hk : k < 6) (ho : ¬ o2 = o) (a i j : Nat) : (tX4_copyFrom S o k o2 k).1 a i j = if a = o ∧ i = k ∧ j < 6 then S.1 o2 k j else if a = o ∧ i = 10 + k ∧ j < 3 then S.1 o2 (10 + k) j else S.1 a i j := by
  have z0 : ∀ Z : St, tX4_sumAt Z o2 k 0 = Z.1 o2 (10 + k) 0 := fun Z => sumAt_nI Z o2 k (e := 0) (by decide)
  have z1 : ∀ Z : St, tX4_sumAt Z o2 k 1 = Z.1 o2 (10 + k) 1 := fun Z => sumAt_nI Z o2 k (e := 1) (by decide)
  have z2 : ∀ Z : St, tX4_sumAt Z o2 k 2 = Z.1 o2 (10 + k) 2 := fun Z => sumAt_nI Z o2 k (e := 2) (by decide)
  have h10 : ¬ k = 10 + k := by omega
  have h11 : ¬ 10 + k = k := by omega
  unfold tX4_copyFrom
  simp only [bnd_def, z0, z1, z2]
  simp only [up_val, ho, false_and, if_false]
  by_cases h1 : a = o
  · subst h1
    by_cases h2 : i = k
    · subst h2
      simp [h10]
      by_cases j0 : j = 0 <;> by_cases j1 : j = 1 <;> by_cases j2 : j = 2 <;> by_cases j3 : j = 3 <;> by_cases j4 : j = 4 <;> by_cases j5 : j = 5 <;> simp_all <;> omega
    · by_cases h3 : i = 10 + k
      · subst h3
        simp [h11]
        by_cases j0 : j = 0 <;> by_cases j1 : j = 1 <;> by_cases j2 : j = 2 <;> simp_all <;> omega
      · simp [h2, h3]
  · simp [h1]
theorem c2_val (S0 : St) {o o2 : Nat} (ho : ¬ o2 = o) : ∀ (k i : Nat) (Z : St), i + k = 6 →
    (∀ a, a ≠ o → (LX2_copyFrom_2 S0 o o2 k i Z).1 a = Z.1 a) ∧ (∀ j, j < 6 → (LX2_copyFrom_2 S0 o o2 k i Z).1 o 6 j = Z.1 o2 6 j) ∧
    (∀ m, m < 6 → ∀ j, j < 6 → (LX2_copyFrom_2 S0 o o2 k i Z).1 o m j = if i ≤ m then Z.1 o2 m j else Z.1 o m j) ∧
    (∀ m, m < 6 → ∀ j, j < 3 → (LX2_copyFrom_2 S0 o o2 k i Z).1 o (10 + m) j = if i ≤ m then Z.1 o2 (10 + m) j else Z.1 o (10 + m) j) := by
  intro k
  induction k with
  | zero =>
    intro i Z hi
    obtain rfl : i = 6 := by omega
    rw [LX2_copyFrom_2]
    simp only [bnd_def]
    refine ⟨fun a ha => by rw [up_r _ _ ha, up_r _ _ ha, up_r _ _ ha, up_r _ _ ha, up_r _ _ ha, up_r _ _ ha], fun j hj => ?_, fun m hm j hj => ?_, fun m hm j hj => ?_⟩
    · simp only [up_val, ho, false_and, if_false]
      rcases (by omega : j = 0 ∨ j = 1 ∨ j = 2 ∨ j = 3 ∨ j = 4 ∨ j = 5) with rfl | rfl | rfl | rfl | rfl | rfl <;> simp
    · have z1 : ¬ m = 6 := by omega
      have z2 : ¬ 6 ≤ m := by omega
      simp [up_val, z1, z2]
    · have z1 : ¬ 10 + m = 6 := by omega
      have z2 : ¬ 6 ≤ m := by omega
      simp [up_val, z1, z2]
  | succ k ih =>
    intro i Z hi
    have hi6 : i < 6 := by omega
    have hp : plc (nI i) := plc_nI hi6
    rw [LX2_copyFrom_2, if_pos hp, bnd_def, nI_clamp (by omega)]
    obtain ⟨g1, g2, g3, g4⟩ := ih (i + 1) (tX4_copyFrom Z o i o2 i) (by omega)
    have hv := c4_val Z (o := o) (o2 := o2) hi6 ho
    refine ⟨fun a ha => ?_, fun j hj => ?_, fun m hm j hj => ?_, fun m hm j hj => ?_⟩
    · rw [g1 a ha]
      funext x y
      rw [hv]
      simp [ha]
    · rw [g2 j hj, hv]
      simp [ho]
    · rw [g3 m hm j hj, hv, hv]
      simp only [ho, false_and, if_false, true_and]
      by_cases q1 : m = i
      · subst q1
        simp [hj, show ¬ m + 1 ≤ m by omega]
      · have q2 : ¬ m = 10 + i := by omega
        simp [q1, q2]
        by_cases q3 : i ≤ m
        · simp [q3, show i + 1 ≤ m by omega]
        · simp [q3, show ¬ i + 1 ≤ m by omega]
    · rw [g4 m hm j hj, hv, hv]
      simp only [ho, false_and, if_false, true_and]
      have q2 : ¬ 10 + m = i := by omega
      by_cases q1 : m = i
      · subst q1
        simp [q2, hj, show ¬ m + 1 ≤ m by omega]
      · simp [q1, q2]
        by_cases q3 : i ≤ m
        · simp [q3, show i + 1 ≤ m by omega]
        · simp [q3, show ¬ i + 1 ≤ m by omega]
theorem c5_val (S0 : St) {t t2 : Nat} (ht : ¬ t2 = t) : ∀ (k i : Nat) (Z : St), i + k = 8 →
    (∀ a, a ≠ 6 + t → (LX5_copyFrom_2 S0 t t2 k i Z).1 a = Z.1 a) ∧ (LX5_copyFrom_2 S0 t t2 k i Z).1 (6 + t) 0 0 = Z.1 (6 + t2) 0 0 ∧
    (∀ b, 1 ≤ b → b ≤ 3 → ∀ e, e < 8 → (LX5_copyFrom_2 S0 t t2 k i Z).1 (6 + t) b e = if i ≤ e then Z.1 (6 + t2) b e else Z.1 (6 + t) b e) := by
  have ho : ¬ 6 + t2 = 6 + t := by omega
  intro k
  induction k with
  | zero =>
    intro i Z hi
    obtain rfl : i = 8 := by omega
    rw [LX5_copyFrom_2]
    refine ⟨fun a ha => by rw [up_r _ _ ha], by simp [up_val], fun b h1 h3 e he => ?_⟩
    have z1 : ¬ b = 0 := by omega
    have z2 : ¬ 8 ≤ e := by omega
    simp [up_val, z1, z2]
  | succ k ih =>
    intro i Z hi
    rw [LX5_copyFrom_2, bnd_def]
    obtain ⟨g1, g2, g3⟩ := ih (i + 1) (up (up (up Z (6 + t) 1 i (Z.1 (6 + t2) 1 i)) (6 + t) 2 i ((up Z (6 + t) 1 i (Z.1 (6 + t2) 1 i)).1 (6 + t2) 2 i)) (6 + t) 3 i ((up (up Z (6 + t) 1 i (Z.1 (6 + t2) 1 i)) (6 + t) 2 i ((up Z (6 + t) 1 i (Z.1 (6 + t2) 1 i)).1 (6 + t2) 2 i)).1 (6 + t2) 3 i)) (by omega)
    refine ⟨fun a ha => ?_, ?_, fun b h1 h3 e he => ?_⟩
    · rw [g1 a ha, up_r _ _ ha, up_r _ _ ha, up_r _ _ ha]
    · rw [g2]
      simp only [up_val, ho, false_and, if_false]
    · rw [g3 b h1 h3 e he]
      simp only [up_val, ho, false_and, if_false, true_and]
      by_cases q1 : e = i
      · subst q1
        have q2 : ¬ e + 1 ≤ e := by omega
        rcases (by omega : b = 1 ∨ b = 2 ∨ b = 3) with rfl | rfl | rfl <;> simp [q2]
      · simp [q1]
        by_cases q3 : i ≤ e
        · simp [q3, show i + 1 ≤ e by omega]
        · simp [q3, show ¬ i + 1 ≤ e by omega]
def zpi (s : Nat) : Nat := if s < 9 then 0 else if s < 15 then 2 else if s < 21 then 3 else if s < 27 then 4 else if s < 33 then 5 else if s < 51 then 6 else if s < 59 then 13 else if s < 67 then 14 else 15
def zpj (s : Nat) : Nat := if s < 2 then s else if s < 8 then s + 5 else if s < 9 then 16 else if s < 15 then s - 9 else if s < 21 then s - 15 else if s < 27 then s - 21 else if s < 33 then s - 27 else if s < 51 then s - 33 else if s < 59 then s - 51 else if s < 67 then s - 59 else s - 67
theorem zpr_all (F : St → Nat → Prop) (i n : Nat) (t0 : Nat) (S0 : St) (p1 : Int32) (hst : ∀ Z t i j, t < 75 → zpi t = i → zpj t = j → F Z t → F (up (tX8_pass Z (Z.1 0 i j)).2 0 i j (tX8_pass Z (Z.1 0 i j)).1) (t + 1))
    (hp : ∀ e, e < n → t0 + e < 75 ∧ zpi (t0 + e) = i ∧ zpj (t0 + e) = e) : ∀ (k e : Nat) (Z : St), e + k = n → F Z (t0 + e) → F (LX8_passRow_2 S0 i n p1 k e Z) (t0 + n) := by
  intro k
  induction k with
  | zero =>
    intro e Z he h
    obtain rfl : e = n := by omega
    rw [LX8_passRow_2]
    exact h
  | succ k ih =>
    intro e Z he h
    rw [LX8_passRow_2, bnd_def, bnd_def]
    obtain ⟨q1, q2, q3⟩ := hp e (by omega)
    exact ih (e + 1) _ (by omega) (hst Z (t0 + e) i e q1 q2 q3 h)
theorem zall (F : St → Nat → Prop) (hst : ∀ Z t i j, t < 75 → zpi t = i → zpj t = j → F Z t → F (up (tX8_pass Z (Z.1 0 i j)).2 0 i j (tX8_pass Z (Z.1 0 i j)).1) (t + 1)) {S : St} (h0 : F S 0) : F (tX8_passAll S) 75 := by
  unfold tX8_passAll
  rw [bnd_def, bnd_def]
  have h1 := hst S 0 0 0 (by decide) (by decide) (by decide) h0
  generalize up (tX8_pass S (S.1 0 0 0)).2 0 0 0 (tX8_pass S (S.1 0 0 0)).1 = W1 at h1 ⊢
  rw [bnd_def, bnd_def]
  have h2 := hst W1 1 0 1 (by decide) (by decide) (by decide) h1
  generalize up (tX8_pass W1 (W1.1 0 0 1)).2 0 0 1 (tX8_pass W1 (W1.1 0 0 1)).1 = W2 at h2 ⊢
  rw [bnd_def, bnd_def]
  have h3 := hst W2 2 0 7 (by decide) (by decide) (by decide) h2
  generalize up (tX8_pass W2 (W2.1 0 0 7)).2 0 0 7 (tX8_pass W2 (W2.1 0 0 7)).1 = W3 at h3 ⊢
  rw [bnd_def, bnd_def]
  have h4 := hst W3 3 0 8 (by decide) (by decide) (by decide) h3
  generalize up (tX8_pass W3 (W3.1 0 0 8)).2 0 0 8 (tX8_pass W3 (W3.1 0 0 8)).1 = W4 at h4 ⊢
  rw [bnd_def, bnd_def]
  have h5 := hst W4 4 0 9 (by decide) (by decide) (by decide) h4
  generalize up (tX8_pass W4 (W4.1 0 0 9)).2 0 0 9 (tX8_pass W4 (W4.1 0 0 9)).1 = W5 at h5 ⊢
  rw [bnd_def, bnd_def]
  have h6 := hst W5 5 0 10 (by decide) (by decide) (by decide) h5
  generalize up (tX8_pass W5 (W5.1 0 0 10)).2 0 0 10 (tX8_pass W5 (W5.1 0 0 10)).1 = W6 at h6 ⊢
  rw [bnd_def, bnd_def]
  have h7 := hst W6 6 0 11 (by decide) (by decide) (by decide) h6
  generalize up (tX8_pass W6 (W6.1 0 0 11)).2 0 0 11 (tX8_pass W6 (W6.1 0 0 11)).1 = W7 at h7 ⊢
  rw [bnd_def, bnd_def]
  have h8 := hst W7 7 0 12 (by decide) (by decide) (by decide) h7
  generalize up (tX8_pass W7 (W7.1 0 0 12)).2 0 0 12 (tX8_pass W7 (W7.1 0 0 12)).1 = W8 at h8 ⊢
  rw [bnd_def, bnd_def]
  have h9 := hst W8 8 0 16 (by decide) (by decide) (by decide) h8
  generalize up (tX8_pass W8 (W8.1 0 0 16)).2 0 0 16 (tX8_pass W8 (W8.1 0 0 16)).1 = W9 at h9 ⊢
  rw [bnd_def]
  have h10 : F (tX8_passRow W9 2 6 6) (9 + 6) := zpr_all F 2 6 9 W9 6 hst (by decide) 6 0 W9 rfl h9
  generalize tX8_passRow W9 2 6 6 = W10 at h10 ⊢
  rw [bnd_def]
  have h11 : F (tX8_passRow W10 3 6 6) (15 + 6) := zpr_all F 3 6 15 W10 6 hst (by decide) 6 0 W10 rfl h10
  generalize tX8_passRow W10 3 6 6 = W11 at h11 ⊢
  rw [bnd_def]
  have h12 : F (tX8_passRow W11 4 6 6) (21 + 6) := zpr_all F 4 6 21 W11 6 hst (by decide) 6 0 W11 rfl h11
  generalize tX8_passRow W11 4 6 6 = W12 at h12 ⊢
  rw [bnd_def]
  have h13 : F (tX8_passRow W12 5 6 6) (27 + 6) := zpr_all F 5 6 27 W12 6 hst (by decide) 6 0 W12 rfl h12
  generalize tX8_passRow W12 5 6 6 = W13 at h13 ⊢
  rw [bnd_def]
  have h14 : F (tX8_passRow W13 6 18 18) (33 + 18) := zpr_all F 6 18 33 W13 18 hst (by decide) 18 0 W13 rfl h13
  generalize tX8_passRow W13 6 18 18 = W14 at h14 ⊢
  rw [bnd_def]
  have h15 : F (tX8_passRow W14 13 8 8) (51 + 8) := zpr_all F 13 8 51 W14 8 hst (by decide) 8 0 W14 rfl h14
  generalize tX8_passRow W14 13 8 8 = W15 at h15 ⊢
  rw [bnd_def]
  have h16 : F (tX8_passRow W15 14 8 8) (59 + 8) := zpr_all F 14 8 59 W15 8 hst (by decide) 8 0 W15 rfl h15
  generalize tX8_passRow W15 14 8 8 = W16 at h16 ⊢
  rw [bnd_def]
  have h17 : F (tX8_passRow W16 15 8 8) (67 + 8) := zpr_all F 15 8 67 W16 8 hst (by decide) 8 0 W16 rfl h16
  generalize tX8_passRow W16 15 8 8 = W17 at h17 ⊢
  exact h17
def Wr (S0 S : St) (b t : Nat) : Prop := S.1 0 0 37 = nI (b + t) ∧ ¬ b01 (S.1 0 0 38) = 0 ∧ (∀ j, S.1 0 35 j = if b ≤ j ∧ j < b + t then S0.1 0 (zpi (j - b)) (zpj (j - b)) else S0.1 0 35 j) ∧ (∀ i j, i ≠ 35 → ¬ (i = 0 ∧ j = 37) → S.1 0 i j = S0.1 0 i j)
theorem zp_ne : ∀ t, t < 75 → zpi t ≠ 35 ∧ zpi t ≠ 36 ∧ zpi t ≠ 17 ∧ ¬ (zpi t = 0 ∧ zpj t = 37) ∧ ¬ (zpi t = 0 ∧ zpj t = 38) ∧ ¬ (zpi t = 0 ∧ zpj t = 18) := by decide +kernel
theorem zp_inj : ∀ s, s < 75 → ∀ t, t < 75 → zpi s = zpi t → zpj s = zpj t → s = t := by decide +kernel
theorem wr_step (S0 : St) {b : Nat} (hb : b ≤ 90) (Z : St) (t i j : Nat) (ht : t < 75) (hi : zpi t = i) (hj : zpj t = j) (h : Wr S0 Z b t) : Wr S0 (up (tX8_pass Z (Z.1 0 i j)).2 0 i j (tX8_pass Z (Z.1 0 i j)).1) b (t + 1) := by
  obtain ⟨h37, h38, h35, hf⟩ := h
  obtain ⟨n35, n36, n17, n37, n38, -⟩ := zp_ne t ht
  rw [hi] at n35 n36 n17
  rw [hi, hj] at n37 n38
  have hv : Z.1 0 i j = S0.1 0 i j := hf i j n35 n37
  unfold tX8_pass
  rw [if_neg h38, bnd_def, h37, nI_clamp (by omega)]
  have e37 : (up Z 0 35 (b + t) (Z.1 0 i j)).1 0 0 37 = nI (b + t) := by rw [up_row_ne _ _ (by decide), h37]
  simp only [e37, nI_1]
  have a37 : ¬ (i = 0 ∧ j = 37) := n37
  refine ⟨?_, ?_, fun x => ?_, fun x y hx hxy => ?_⟩
  · have q : ¬ (0 = i ∧ 37 = j) := fun q => n37 ⟨q.1.symm, q.2.symm⟩
    simp only [up_val, q, and_false, if_false, true_and]
    simp
    rfl
  · have q : ¬ (0 = i ∧ 38 = j) := fun q => n38 ⟨q.1.symm, q.2.symm⟩
    simp only [up_val, q, and_false, if_false, true_and]
    simpa using h38
  · have q : ¬ 35 = i := fun q => n35 q.symm
    simp only [up_val, q, false_and, and_false, if_false, true_and]
    by_cases hx : x = b + t
    · subst hx
      rw [show b + t - b = t by omega, hi, hj, hv]
      simp
    · simp [hx]
      rw [h35 x]
      by_cases q1 : b ≤ x ∧ x < b + t
      · rw [if_pos q1, if_pos ⟨q1.1, by omega⟩]
      · rw [if_neg q1, if_neg (fun q2 => q1 ⟨q2.1, by omega⟩)]
  · simp only [up_val, hx, false_and, and_false, if_false, true_and]
    by_cases q1 : x = i ∧ y = j
    · rw [if_pos q1, q1.1, q1.2, hv]
    · rw [if_neg q1, if_neg hxy]
      exact hf x y hx hxy
def Rd (S0 S : St) (b t : Nat) : Prop := S.1 0 0 37 = nI (b + t) ∧ b01 (S.1 0 0 38) = 0 ∧ S.1 0 0 18 = S0.1 0 0 18 ∧ (∀ j, S.1 0 35 j = S0.1 0 35 j) ∧ (∀ j, S.1 0 36 j = S0.1 0 36 j) ∧ (∀ j, S.1 0 17 j = S0.1 0 17 j) ∧ ∀ s, s < t → S.1 0 (zpi s) (zpj s) = S0.1 0 35 (b + s)
theorem rd_step (S0 : St) {b : Nat} (hb : b ≤ 90) (Z : St) (t i j : Nat) (ht : t < 75) (hi : zpi t = i) (hj : zpj t = j) (h : t ≤ 75 ∧ Rd S0 Z b t) : t + 1 ≤ 75 ∧ Rd S0 (up (tX8_pass Z (Z.1 0 i j)).2 0 i j (tX8_pass Z (Z.1 0 i j)).1) b (t + 1) := by
  refine ⟨by omega, ?_⟩
  obtain ⟨-, h37, h38, h18, h35, h36, h17, hs⟩ := h
  obtain ⟨n35, n36, n17, n37, n38, n18⟩ := zp_ne t ht
  rw [hi] at n35 n36 n17
  rw [hi, hj] at n37 n38 n18
  unfold tX8_pass
  rw [if_pos h38, bnd_def, h37, nI_clamp (by omega)]
  have e37 : (up Z 0 35 (b + t) (Z.1 0 35 (b + t))).1 0 0 37 = nI (b + t) := by rw [up_row_ne _ _ (by decide), h37]
  simp only [e37, nI_1]
  have m35 : ¬ 35 = i := fun q => n35 q.symm
  have m36 : ¬ 36 = i := fun q => n36 q.symm
  have m17 : ¬ 17 = i := fun q => n17 q.symm
  have m37 : ¬ (0 = i ∧ 37 = j) := fun q => n37 ⟨q.1.symm, q.2.symm⟩
  have m38 : ¬ (0 = i ∧ 38 = j) := fun q => n38 ⟨q.1.symm, q.2.symm⟩
  have m18 : ¬ (0 = i ∧ 18 = j) := fun q => n18 ⟨q.1.symm, q.2.symm⟩
  refine ⟨?_, ?_, ?_, fun x => ?_, fun x => ?_, fun x => ?_, fun s hst => ?_⟩
  · simp only [up_val, m37, and_false, if_false, true_and]
    simp
    rfl
  · simp only [up_val, m38, and_false, if_false, true_and]
    simpa using h38
  · simp only [up_val, m18, and_false, if_false, true_and]
    simpa using h18
  · simp only [up_val, m35, and_false, false_and, if_false, true_and]
    by_cases hx : x = b + t
    · subst hx; simp [h35]
    · simp [hx, h35]
  · simp only [up_val, m36, and_false, false_and, if_false, true_and]
    simp [h36]
  · simp only [up_val, m17, and_false, false_and, if_false, true_and]
    simp [h17]
  · obtain ⟨k35, k36, k17, k37, k38, k18⟩ := zp_ne s (by omega)
    simp only [up_val, k35, k37, false_and, and_false, if_false, true_and]
    by_cases q1 : zpi s = i ∧ zpj s = j
    · obtain rfl : s = t := zp_inj s (by omega) t ht (q1.1.trans hi.symm) (q1.2.trans hj.symm)
      rw [if_pos q1, h35]
    · rw [if_neg q1]
      have : s ≠ t := fun q => q1 ⟨by rw [q, hi], by rw [q, hj]⟩
      exact hs s (by omega)
theorem wr_all {S0 S : St} {b : Nat} (hb : b ≤ 90) (h : Wr S0 S b 0) : Wr S0 (tX8_passAll S) b 75 := zall (fun Z t => Wr S0 Z b t) (fun Z t i j ht hi hj hz => wr_step S0 hb Z t i j ht hi hj hz) h
theorem rd_all {S0 S : St} {b : Nat} (hb : b ≤ 90) (h : Rd S0 S b 0) : Rd S0 (tX8_passAll S) b 75 := (zall (fun Z t => t ≤ 75 ∧ Rd S0 Z b t) (fun Z t i j ht hi hj hz => rd_step S0 hb Z t i j ht hi hj hz) ⟨by decide, h⟩).2
