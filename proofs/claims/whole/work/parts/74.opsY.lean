/-! ===== ones: the fewest, row by row ===== -/
def zCol (f : Nat → Nat) (C : Nat → Nat → Prop) (v j : Nat) : Prop := ∃ c : Nat → Nat, (∀ a, a < 8 → j.testBit a = true → c a < v) ∧ ∀ a b, a < 8 → b < 8 → j.testBit a = true → j.testBit b = true → (f a = f b → c a = c b) ∧ (C (f a) (f b) → ¬ c a = c b)
def zLI (f : Nat → Nat) (C : Nat → Nat → Prop) (V : St) : Prop := ∀ j, j < 256 → ∃ v, v ≤ 99 ∧ V.1 0 34 j = nI v ∧ (v = 99 ∨ zCol f C v j)
def zUI (f : Nat → Nat) (C : Nat → Nat → Prop) (V : St) (i : Nat) : Prop := ∀ m c, zVal f C m c → ∃ v, v ≤ 99 ∧ V.1 0 34 (zT (fun a => c (f a)) i) = nI v ∧ v ≤ zN (fun a => c (f a)) i m
theorem sub_bit {j s a : Nat} (h : j &&& s = s) (hs : s.testBit a = true) : j.testBit a = true := by
  rw [← h, Nat.testBit_and, Bool.and_eq_true] at hs
  exact hs.1
theorem dif_bit {j s a : Nat} (h : j &&& s = s) : (j ^^^ s).testBit a = true ↔ j.testBit a = true ∧ ¬ s.testBit a = true := by
  have hiff : ∀ x y : Bool, ((x ^^ y) = true ↔ (x = true ∧ ¬ y = true) ∨ (¬ x = true ∧ y = true)) := by decide
  rw [Nat.testBit_xor, hiff]
  exact ⟨fun w => w.elim id (fun w => absurd (sub_bit h w.2) w.1), Or.inl⟩
theorem li_add {f : Nat → Nat} {C : Nat → Nat → Prop} (hself : ∀ p, ¬ C p p) (hsym : ∀ p q, C p q → C q p) {V : St} {s : Nat} (hs : s < 256) (hI : zLI f C V) (hg : zGood f C s) : zLI f C (tX8_addShip V (nI s)) := by
  intro j hj
  obtain ⟨-, h2⟩ := add_val V hs 255 V (by decide)
  unfold tX8_addShip
  rw [h2 j hj]
  obtain ⟨v1, l1, e1, d1⟩ := hI j hj
  by_cases c : 0 < j ∧ j ≤ 255 ∧ j &&& s = s
  rotate_left
  · rw [if_neg c]; exact ⟨v1, l1, e1, d1⟩
  rw [if_pos c]
  have hjs := c.2.2
  have hle := zx_le hjs
  obtain ⟨v2, l2, e2, d2⟩ := hI (j ^^^ s) (by omega)
  rw [e1, e2, nI_1]
  by_cases q : v1 ≤ v2 + 1
  · rw [if_pos ((nI_leI (by omega) (by omega)).mpr q)]; exact ⟨v1, l1, rfl, d1⟩
  · rw [if_neg (fun w => q ((nI_leI (by omega) (by omega)).mp w))]
    refine ⟨v2 + 1, by omega, rfl, Or.inr ?_⟩
    rcases d2 with d2 | ⟨c2, d2, d3⟩
    · omega
    refine ⟨fun a => if s.testBit a = true then v2 else c2 a, fun a ha hb => ?_, fun a b ha hb ja jb => ?_⟩
    · dsimp only
      by_cases w : s.testBit a = true
      · rw [if_pos w]; omega
      · rw [if_neg w]
        have := d2 a ha ((dif_bit hjs).mpr ⟨hb, w⟩)
        omega
    · dsimp only
      by_cases wa : s.testBit a = true
      · obtain ⟨g1, g2⟩ := hg a b ha hb wa
        by_cases wb : s.testBit b = true
        · rw [if_pos wa, if_pos wb]
          refine ⟨fun _ => rfl, fun w => ?_⟩
          rcases g1 wb with g | g
          · rw [g] at w; exact absurd w (hself _)
          · exact absurd w g
        · rw [if_pos wa, if_neg wb]
          have := d2 b hb ((dif_bit hjs).mpr ⟨jb, wb⟩)
          exact ⟨fun w => absurd w (g2 wb), fun _ => by omega⟩
      · by_cases wb : s.testBit b = true
        · obtain ⟨g1, g2⟩ := hg b a hb ha wb
          rw [if_neg wa, if_pos wb]
          have := d2 a ha ((dif_bit hjs).mpr ⟨ja, wa⟩)
          exact ⟨fun w => absurd w.symm (g2 wa), fun _ => by omega⟩
        · rw [if_neg wa, if_neg wb]
          exact d3 a b ha hb ((dif_bit hjs).mpr ⟨ja, wa⟩) ((dif_bit hjs).mpr ⟨jb, wb⟩)
theorem ui_step {f : Nat → Nat} {C : Nat → Nat → Prop} (hf : ∀ a, a < 8 → f a < 8 ∧ f (f a) = f a) {V : St} {i : Nat} (h1 : 1 ≤ i) (hi : i < 256) (hI : zLI f C V) (hU : zUI f C V i) (hg : ¬ tX8_isOneShip V (nI i) = 0 ↔ zGood f C i) : zUI f C (if tX8_isOneShip V (nI i) = 0 then V else tX8_addShip V (nI i)) (i + 1) := by
  intro m c hv
  obtain ⟨v, l, e, le⟩ := hU m c hv
  have hm : ∀ a, a < 8 → (fun a => c (f a)) a < m := fun a ha => hv.1 (f a) (hf a ha).1 (hf a ha).2
  obtain ⟨-, add⟩ := add_val V hi 255 V (by decide)
  by_cases ex : ∃ j, j < m ∧ zM (fun a => c (f a)) j = i
  · obtain ⟨j0, hj0, e0⟩ := ex
    have good : zGood f C i := by
      intro a b ha hb ia
      have hab : c (f a) = j0 := (zM_bit _ j0 ha).mp (by rw [e0]; exact ia)
      refine ⟨fun ib => Or.inr (fun w => ?_), fun ib w => ib ?_⟩
      · have hbb : c (f b) = j0 := (zM_bit _ j0 hb).mp (by rw [e0]; exact ib)
        exact hv.2 (f a) (f b) (hf a ha).1 (hf b hb).1 (hf a ha).2 (hf b hb).2 w (hab.trans hbb.symm)
      · rw [← e0]
        exact (zM_bit _ j0 hb).mpr (by rw [← w]; exact hab)
    rw [if_neg (hg.mpr good)]
    obtain ⟨t1, t2⟩ := zT_add (h := fun a => c (f a)) e0
    have n1 := zN_add hj0 e0 (show i ≠ 0 by omega)
    have tl := zT_lt (fun a => c (f a)) (i + 1)
    have tp : 0 < zT (fun a => c (f a)) (i + 1) := by
      rcases Nat.eq_zero_or_pos (zT (fun a => c (f a)) (i + 1)) with w | w
      · rw [w, Nat.zero_and] at t1; omega
      · exact w
    obtain ⟨w, lw, ew, -⟩ := hI _ tl
    unfold tX8_addShip
    rw [add _ tl, if_pos ⟨tp, by omega, t1⟩, t2, e, ew, nI_1]
    by_cases q : w ≤ v + 1
    · rw [if_pos ((nI_leI (by omega) (by omega)).mpr q)]; exact ⟨w, lw, rfl, by omega⟩
    · rw [if_neg (fun z => q ((nI_leI (by omega) (by omega)).mp z))]; exact ⟨v + 1, by omega, rfl, by omega⟩
  · rw [zT_skip hm ex]
    have n1 := zN_mono (fun a => c (f a)) i m
    have tl := zT_lt (fun a => c (f a)) i
    by_cases q : tX8_isOneShip V (nI i) = 0
    · rw [if_pos q]; exact ⟨v, l, e, by omega⟩
    · rw [if_neg q]
      unfold tX8_addShip
      rw [add _ tl]
      by_cases d : 0 < zT (fun a => c (f a)) i ∧ zT (fun a => c (f a)) i ≤ 255 ∧ zT (fun a => c (f a)) i &&& i = i
      · have hle := zx_le d.2.2
        obtain ⟨w, lw, ew, -⟩ := hI (zT (fun a => c (f a)) i ^^^ i) (by omega)
        rw [if_pos d, e, ew, nI_1]
        by_cases z : v ≤ w + 1
        · rw [if_pos ((nI_leI (by omega) (by omega)).mpr z)]; exact ⟨v, l, rfl, by omega⟩
        · rw [if_neg (fun y => z ((nI_leI (by omega) (by omega)).mp y))]; exact ⟨w + 1, by omega, rfl, by omega⟩
      · rw [if_neg d]; exact ⟨v, l, e, by omega⟩
theorem ones36 {f : Nat → Nat} {C : Nat → Nat → Prop} (hself : ∀ p, ¬ C p p) (hsym : ∀ p q, C p q → C q p) (hf : ∀ a, a < 8 → f a < 8 ∧ f (f a) = f a) {W : St} (hg : ∀ V s, zRow W V → s < 256 → (¬ tX8_isOneShip V (nI s) = 0 ↔ zGood f C s)) (S0 : St) :
    ∀ (k i : Nat) (V : St), i + k = 256 → 1 ≤ i → zRow W V → zLI f C V → zUI f C V i → ∃ v Y, LX8_ones_36 S0 k i V = (nI v, Y) ∧ zRow W Y ∧ v ≤ 99 ∧ (v = 99 ∨ zCol f C v 255) ∧ ∀ m c, zVal f C m c → v ≤ m := by
  intro k
  induction k with
  | zero =>
    intro i V hi h1 hR hI hU
    obtain rfl : i = 256 := by omega
    obtain ⟨v, l, e, d⟩ := hI 255 (by decide)
    refine ⟨v, V, by rw [LX8_ones_36, e], hR, l, d, fun m c hv => ?_⟩
    obtain ⟨w, lw, ew, le⟩ := hU m c hv
    rw [zT_all, e] at ew
    have : v = w := (nI_eq (by omega) (by omega)).mp ew
    have h2 := zhow_le (fun j => decide (zM (fun a => c (f a)) j ≠ 0 ∧ zM (fun a => c (f a)) j < 256)) m
    unfold zN at le
    omega
  | succ k ih =>
    intro i V hi h1 hR hI hU
    have hi2 : i < 256 := by omega
    have hgi := hg V i hR hi2
    have hU' := ui_step hf h1 hi2 hI hU hgi
    rw [LX8_ones_36]
    by_cases q : tX8_isOneShip V (nI i) = 0
    · rw [if_pos q] at hU' ⊢
      exact ih (i + 1) V (by omega) (by omega) hR hI hU'
    · rw [if_neg q] at hU' ⊢
      rw [bnd_def]
      exact ih (i + 1) _ (by omega) (by omega) (hR.tr (add_val V hi2 255 V (by decide)).1) (li_add hself hsym hi2 hI (hgi.mp q)) hU'
theorem ones13 (S0 : St) : ∀ (k i : Nat) (Z : St), i + k = 256 → ∃ Y, LX8_ones_13 S0 k i Z = LX8_ones_36 S0 255 1 Y ∧ zRow Z Y ∧ ∀ j, j < 256 → Y.1 0 34 j = if i ≤ j then 99 else Z.1 0 34 j := by
  intro k
  induction k with
  | zero =>
    intro i Z hi
    exact ⟨Z, by rw [LX8_ones_13], zRow.rf Z, fun j hj => by rw [if_neg (by omega)]⟩
  | succ k ih =>
    intro i Z hi
    obtain ⟨Y, e, h1, h2⟩ := ih (i + 1) (up Z 0 34 i 99) (by omega)
    refine ⟨Y, by rw [LX8_ones_13, e], (zRow.up Z i 99).tr h1, fun j hj => ?_⟩
    rw [h2 j hj]
    by_cases q : j = i
    · subst q
      rw [if_neg (by omega), if_pos (Nat.le_refl _)]
      simp [up_val]
    · by_cases w : i + 1 ≤ j
      · rw [if_pos w, if_pos (by omega)]
      · rw [if_neg w, if_neg (by omega)]
        simp [up_val, q]
