/-! ===== how many ships at the least: the reference's rows ===== -/
theorem zx_and (a b : Nat) : nI a &&& nI b = nI (a &&& b) := by
  apply Int32.toBitVec_inj.1
  show BitVec.ofNat 32 a &&& BitVec.ofNat 32 b = BitVec.ofNat 32 (a &&& b)
  apply BitVec.eq_of_getLsbD_eq
  intro i hi
  simp [hi]
theorem zx_xor (a b : Nat) : nI a ^^^ nI b = nI (a ^^^ b) := by
  apply Int32.toBitVec_inj.1
  show BitVec.ofNat 32 a ^^^ BitVec.ofNat 32 b = BitVec.ofNat 32 (a ^^^ b)
  apply BitVec.eq_of_getLsbD_eq
  intro i hi
  simp [hi]
theorem zx_m1 : (-1 : Int32) = nI 4294967295 := by decide
theorem zx_and_lt {a b : Nat} (h : a < 256) : a &&& b < 256 := Nat.lt_of_le_of_lt Nat.and_le_left h
theorem zx_sub {j s : Nat} (hj : j < 256) (h : j &&& s = s) : nI j &&& (nI s ^^^ (-1)) = nI (j ^^^ s) := by
  rw [zx_m1, zx_xor, zx_and, Nat.and_xor_distrib_left, h]
  have e : j &&& 4294967295 = j := by
    have := Nat.and_two_pow_sub_one_eq_mod j 32
    rw [show (2 : Nat) ^ 32 - 1 = 4294967295 by decide] at this
    rw [this, Nat.mod_eq_of_lt (by omega)]
  rw [e, Nat.xor_comm]
theorem zx_le {j s : Nat} (h : j &&& s = s) : j ^^^ s ≤ j := by
  have e : j &&& (j ^^^ s) = j ^^^ s := by rw [Nat.and_xor_distrib_left, h, Nat.and_self]
  rw [← e]
  exact Nat.and_le_left
def OneOk (S : St) (p1 : Int32) (a b : Nat) : Prop := ((ishrF p1 (nI a)) &&& 1) = 1 → ((((ishrF p1 (nI b)) &&& 1) = 1 → (S.1 0 32 a = S.1 0 32 b ∨ tX8_areTwo S (S.1 0 32 a) (S.1 0 32 b) (S.1 0 0 16) = 0)) ∧ (¬ ((ishrF p1 (nI b)) &&& 1) = 1 → ¬ S.1 0 32 a = S.1 0 32 b))
theorem one_step (S : St) (p1 : Int32) (a : Nat) (K : Int32 → Int32) (k i : Nat) (x : Int32) : ∃ y, LX8_isOneShip_13 S p1 a K (k + 1) i x = LX8_isOneShip_13 S p1 a K k (i + 1) y ∧ (¬ y = 0 ↔ ¬ x = 0 ∧ OneOk S p1 a i) := by
  unfold OneOk
  rw [LX8_isOneShip_13]
  have n10 : ¬ (1 : Int32) = 0 := by decide
  generalize tX8_areTwo S (S.1 0 32 a) (S.1 0 32 i) (S.1 0 0 16) = T
  generalize S.1 0 32 a = A
  generalize S.1 0 32 i = B
  generalize (ishrF p1 (nI a)) &&& 1 = C
  generalize (ishrF p1 (nI i)) &&& 1 = D
  repeat' split
  all_goals refine ⟨_, rfl, ?_⟩
  all_goals simp_all
theorem one_row (S : St) (p1 : Int32) (a : Nat) (K : Int32 → Int32) : ∀ (k i : Nat) (x : Int32), ∃ y, LX8_isOneShip_13 S p1 a K k i x = K y ∧ (¬ y = 0 ↔ ¬ x = 0 ∧ ∀ j, i ≤ j → j < i + k → OneOk S p1 a j) := by
  intro k
  induction k with
  | zero =>
    intro i x
    exact ⟨x, by rw [LX8_isOneShip_13], ⟨fun h => ⟨h, fun j h1 h2 => absurd h2 (by omega)⟩, fun h => h.1⟩⟩
  | succ k ih =>
    intro i x
    obtain ⟨y, e, hy⟩ := one_step S p1 a K k i x
    obtain ⟨z, e2, hz⟩ := ih (i + 1) y
    refine ⟨z, e.trans e2, ?_⟩
    rw [hz, hy]
    constructor
    · rintro ⟨⟨h1, h2⟩, h3⟩
      refine ⟨h1, fun j j1 j2 => ?_⟩
      by_cases q : j = i
      · subst q; exact h2
      · exact h3 j (by omega) (by omega)
    · rintro ⟨h1, h2⟩
      exact ⟨⟨h1, h2 i (Nat.le_refl _) (by omega)⟩, fun j j1 j2 => h2 j (by omega) (by omega)⟩
theorem one_all (S : St) (p1 : Int32) : ∀ (k i : Nat) (x : Int32), ¬ LX8_isOneShip_4 S p1 k i x = 0 ↔ ¬ x = 0 ∧ ∀ a, i ≤ a → a < i + k → ∀ b, b < 8 → OneOk S p1 a b := by
  intro k
  induction k with
  | zero =>
    intro i x
    rw [LX8_isOneShip_4]
    exact ⟨fun h => ⟨h, fun j h1 h2 => absurd h2 (by omega)⟩, fun h => h.1⟩
  | succ k ih =>
    intro i x
    obtain ⟨y, e, hy⟩ := one_row S p1 i (fun zx8 => LX8_isOneShip_4 S p1 k (i + 1) zx8) 8 0 x
    rw [LX8_isOneShip_4, e, ih, hy]
    constructor
    · rintro ⟨⟨h1, h2⟩, h3⟩
      refine ⟨h1, fun j j1 j2 b hb => ?_⟩
      by_cases q : j = i
      · subst q; exact h2 b (Nat.zero_le _) (by omega)
      · exact h3 j (by omega) (by omega) b hb
    · rintro ⟨h1, h2⟩
      exact ⟨⟨h1, fun j _ j2 => h2 i (Nat.le_refl _) (by omega) j (by omega)⟩, fun j j1 j2 => h2 j (by omega) (by omega)⟩
/-- all but the row of the fewest -/
def zRow (W V : St) : Prop := ∀ b, b ≠ 34 → V.1 0 b = W.1 0 b
theorem zRow.rf (W : St) : zRow W W := fun _ _ => rfl
theorem zRow.tr {W V U : St} (h : zRow W V) (h' : zRow V U) : zRow W U := fun b hb => (h' b hb).trans (h b hb)
theorem zRow.up (W : St) (j : Nat) (v : Int32) : zRow W (up W 0 34 j v) := fun b hb => up_row_ne _ _ hb
theorem two_row {W V : St} (h : zRow W V) (p q : Int32) {n : Nat} (hn : n < 2 ^ 31) : (tX8_areTwo V p q (nI n) = 0 ↔ tX8_areTwo W p q (nI n) = 0) := by
  have e : ¬ tX8_areTwo V p q (nI n) = 0 ↔ ¬ tX8_areTwo W p q (nI n) = 0 := by
    rw [two_iff V p q hn, two_iff W p q hn]
    unfold TwoAt
    rw [h 13 (by decide), h 14 (by decide), h 15 (by decide), h 32 (by decide), h 0 (by decide)]
  exact ⟨fun w => Classical.byContradiction fun q => e.mpr q w, fun w => Classical.byContradiction fun q => e.mp q w⟩
/-- a set of names that may be one ship: whole groups, no two of it told apart -/
def zGood (f : Nat → Nat) (C : Nat → Nat → Prop) (s : Nat) : Prop := ∀ a b, a < 8 → b < 8 → s.testBit a = true → (s.testBit b = true → f a = f b ∨ ¬ C (f a) (f b)) ∧ (¬ s.testBit b = true → ¬ f a = f b)
theorem good_iff {M Z W V : St} {f g : Nat → Nat} {L t s : Nat} (hN : HrN Z W f g) (hW : HrW M W) (hM : zName M) (ht : t ≤ 8) (hL : L < 256) (h33 : W.1 0 0 33 = nI L) (h16 : M.1 0 0 16 = nI t) (hV : zRow W V) (hs : s < 256) :
    ¬ tX8_isOneShip V (nI s) = 0 ↔ zGood f (Ap M L t f) s := by
  unfold tX8_isOneShip
  rw [one_all]
  have v16 : V.1 0 0 16 = nI t := by rw [hV 0 (by decide), hW.2 16 (by decide), h16]
  have key : ∀ a b, a < 8 → b < 8 → (OneOk V (nI s) a b ↔ (s.testBit a = true → (s.testBit b = true → f a = f b ∨ ¬ Ap M L t f (f a) (f b)) ∧ (¬ s.testBit b = true → ¬ f a = f b))) := fun a b ha hb => by
    unfold OneOk
    have e1 : (V.1 0 32 a = V.1 0 32 b ↔ f a = f b) := by
      rw [hV 32 (by decide), (hN.1 a ha).2.2.2.2, (hN.1 b hb).2.2.2.2, hN.2 a b ha hb]
      exact nI_eq (by have := (hN.1 a ha).2.2.1; omega) (by have := (hN.1 b hb).2.2.1; omega)
    have e2 : (tX8_areTwo V (V.1 0 32 a) (V.1 0 32 b) (V.1 0 0 16) = 0 ↔ ¬ Ap M L t f (f a) (f b)) := by
      rw [v16, two_row hV _ _ (by omega), hV 32 (by decide), ← ap_two hN hW hM ht hL h33 ha hb]
      exact Classical.not_not.symm
    rw [e1, e2, bit256 s hs a ha, bit256 s hs b hb]
  constructor
  · rintro ⟨-, h⟩ a b ha hb
    exact (key a b ha hb).mp (h a (Nat.zero_le _) (by omega) b hb)
  · intro h
    exact ⟨by decide, fun a _ ha b hb => (key a b (by omega) hb).mpr (h a b (by omega) hb)⟩
theorem add_val (S0 : St) {s : Nat} (hs : s < 256) : ∀ (k : Nat) (Z : St), k < 256 → zRow Z (LX8_addShip_4 S0 (nI s) k Z) ∧
    ∀ j, j < 256 → (LX8_addShip_4 S0 (nI s) k Z).1 0 34 j = if 0 < j ∧ j ≤ k ∧ j &&& s = s then (if Z.1 0 34 j ≤ Z.1 0 34 (j ^^^ s) + 1 then Z.1 0 34 j else Z.1 0 34 (j ^^^ s) + 1) else Z.1 0 34 j := by
  intro k
  induction k with
  | zero =>
    intro Z _
    rw [LX8_addShip_4]
    exact ⟨zRow.rf Z, fun j _ => by rw [if_neg (by omega)]⟩
  | succ k ih =>
    intro Z hk
    have hcond : ((nI (k + 1) &&& nI s) = nI s ↔ (k + 1) &&& s = s) := by
      rw [zx_and]
      exact nI_eq (by have := zx_and_lt (a := k + 1) (b := s) hk; omega) (by omega)
    rw [LX8_addShip_4]
    by_cases c : (k + 1) &&& s = s
    · rw [if_pos (hcond.mpr c), zx_sub hk c]
      have hle := zx_le c
      rw [nI_clamp (by omega)]
      have fin : ∀ v : Int32, v = (if Z.1 0 34 (k + 1) ≤ Z.1 0 34 ((k + 1) ^^^ s) + 1 then Z.1 0 34 (k + 1) else Z.1 0 34 ((k + 1) ^^^ s) + 1) → zRow Z (LX8_addShip_4 S0 (nI s) k (up Z 0 34 (k + 1) v)) ∧
          ∀ j, j < 256 → (LX8_addShip_4 S0 (nI s) k (up Z 0 34 (k + 1) v)).1 0 34 j = if 0 < j ∧ j ≤ k + 1 ∧ j &&& s = s then (if Z.1 0 34 j ≤ Z.1 0 34 (j ^^^ s) + 1 then Z.1 0 34 j else Z.1 0 34 (j ^^^ s) + 1) else Z.1 0 34 j := by
        intro v hv
        obtain ⟨h1, h2⟩ := ih (up Z 0 34 (k + 1) v) (by omega)
        refine ⟨(zRow.up Z (k + 1) v).tr h1, fun j hj => ?_⟩
        rw [h2 j hj]
        have hv2 : ∀ i, i ≠ k + 1 → (up Z 0 34 (k + 1) v).1 0 34 i = Z.1 0 34 i := fun i hi => by simp [up_val, hi]
        by_cases q : j = k + 1
        · subst q
          rw [if_neg (by omega), if_pos ⟨by omega, Nat.le_refl _, c⟩, ← hv]
          simp [up_val]
        · by_cases w : 0 < j ∧ j ≤ k ∧ j &&& s = s
          · have := zx_le w.2.2
            rw [if_pos w, hv2 j q, hv2 (j ^^^ s) (by omega), if_pos (show 0 < j ∧ j ≤ k + 1 ∧ j &&& s = s from ⟨w.1, by omega, w.2.2⟩)]
          · rw [if_neg w, if_neg (fun e => w ⟨e.1, by omega, e.2.2⟩), hv2 j q]
      by_cases d : Z.1 0 34 (k + 1) ≤ Z.1 0 34 ((k + 1) ^^^ s) + 1
      · rw [if_pos d]; exact fin _ (by rw [if_pos d])
      · rw [if_neg d, bnd_def]; exact fin _ (by rw [if_neg d])
    · rw [if_neg (fun w => c (hcond.mp w))]
      obtain ⟨h1, h2⟩ := ih Z (by omega)
      refine ⟨h1, fun j hj => ?_⟩
      rw [h2 j hj]
      by_cases q : j = k + 1
      · subst q
        rw [if_neg (by omega), if_neg (fun w => c w.2.2)]
      · by_cases w : 0 < j ∧ j ≤ k ∧ j &&& s = s
        · rw [if_pos w, if_pos (show 0 < j ∧ j ≤ k + 1 ∧ j &&& s = s from ⟨w.1, by omega, w.2.2⟩)]
        · rw [if_neg w, if_neg (fun e => w ⟨e.1, by omega, e.2.2⟩)]
