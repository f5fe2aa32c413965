theorem or256 : ∀ n, n < 256 → ∀ k, k < 8 → (nI n ||| ishlF 1 (nI k)) = nI (n ||| 2 ^ k) ∧ (n ||| 2 ^ k) < 256 := by decide +kernel
theorem bit256 : ∀ n, n < 256 → ∀ k, k < 8 → ((ishrF (nI n) (nI k)) &&& 1 = 1 ↔ n.testBit k = true) := by decide +kernel
theorem bit256z : ∀ n, n < 256 → ∀ k, k < 8 → ((ishrF (nI n) (nI k)) &&& 1 = 0 ↔ ¬ n.testBit k = true) := by decide +kernel
theorem tb_or {n k q : Nat} : (n ||| 2 ^ k).testBit q = true ↔ (q = k ∨ n.testBit q = true) := by
  rw [Nat.testBit_or, Bool.or_eq_true, Nat.testBit_two_pow]
  simp only [decide_eq_true_eq]
  exact ⟨fun h => h.elim Or.inr (fun w => Or.inl w.symm), fun h => h.elim (fun w => Or.inr w.symm) Or.inl⟩
/-- the bits of the names told apart -/
def zB (Z : St) (p q : Nat) : Prop := (ishrF (Z.1 9 2 p) (nI q)) &&& 1 = 1
def zW (Z : St) : Prop := ∀ p, p < 8 → ∃ o, o < 256 ∧ Z.1 9 2 p = nI o
theorem art_zB {Z : St} {p q : Nat} (hp : p < 8) : art Z (nI p) (nI q) ↔ zB Z p q := by
  unfold art zB
  rw [nI_clamp (by omega)]
  exact ⟨fun h => h.2, fun h => ⟨⟨nI_pos' (by omega), nI_lt (b := 8) hp (by decide)⟩, h⟩⟩
theorem up_zW {Z : St} {p k : Nat} (h : zW Z) (hp : p < 8) (hk : k < 8) : zW (up Z 9 2 p (Z.1 9 2 p ||| ishlF 1 (nI k))) ∧ ∀ a b, b < 8 → (zB (up Z 9 2 p (Z.1 9 2 p ||| ishlF 1 (nI k))) a b ↔ zB Z a b ∨ (a = p ∧ b = k)) := by
  obtain ⟨o, ho, e⟩ := h p hp
  obtain ⟨e1, e2⟩ := or256 o ho k hk
  rw [e, e1]
  refine ⟨fun q hq => ?_, fun a b hb => ?_⟩
  · by_cases c : q = p
    · subst c; exact ⟨_, e2, by simp [up_val]⟩
    · obtain ⟨x, hx, ex⟩ := h q hq
      exact ⟨x, hx, by simp [up_val, c, ex]⟩
  · unfold zB
    by_cases c : a = p
    · subst c
      rw [show (up Z 9 2 a (nI (o ||| 2 ^ k))).1 9 2 a = nI (o ||| 2 ^ k) by simp [up_val], bit256 _ e2 b hb, tb_or, e, bit256 o ho b hb]
      exact ⟨fun w => w.elim (fun w => Or.inr ⟨rfl, w⟩) Or.inl, fun w => w.elim Or.inr (fun w => Or.inl w.2)⟩
    · rw [show (up Z 9 2 p (nI (o ||| 2 ^ k))).1 9 2 a = Z.1 9 2 a by simp [up_val, c]]
      exact ⟨Or.inl, fun w => w.elim id (fun w => absurd w.1 c)⟩
/-- what a step that only tells names apart, or joins them, leaves -/
def zFr (Z Y : St) : Prop := (∀ r, r ≠ 9 → Y.1 r = Z.1 r) ∧ ∀ j, j ≠ 1 → j ≠ 2 → Y.1 9 j = Z.1 9 j
theorem wi7 {p : Nat} (h : p < 8) : wi (nI p) 0 7 := ⟨nI_pos' (by omega), nI_le (b := 7) (by omega) (by decide)⟩
theorem part_val {Z : St} {p q : Nat} (h : zW Z) (hp : p < 8) (hq : q < 8) : zW (tX1_partNames Z (nI p) (nI q)) ∧ (∀ a b, b < 8 → (zB (tX1_partNames Z (nI p) (nI q)) a b ↔ zB Z a b ∨ (a = p ∧ b = q) ∨ (a = q ∧ b = p))) ∧ (tX1_partNames Z (nI p) (nI q)).1 9 1 = Z.1 9 1 ∧ zFr Z (tX1_partNames Z (nI p) (nI q)) := by
  unfold tX1_partNames
  rw [if_pos (wi7 hp), if_pos (wi7 hq), bnd_def, bnd_def, nI_clamp (by omega), nI_clamp (by omega)]
  obtain ⟨w1, b1⟩ := up_zW h hp hq
  obtain ⟨w2, b2⟩ := up_zW w1 hq hp
  refine ⟨w2, fun a b hb => ?_, ?_, fun r hr => ?_, fun j j1 j2 => ?_⟩
  · rw [b2 a b hb, b1 a b hb, or_assoc]
  · rw [up_row_ne _ _ (by decide), up_row_ne _ _ (by decide)]
  · rw [up_r _ _ hr, up_r _ _ hr]
  · rw [up_row_ne _ _ j2, up_row_ne _ _ j2]
theorem joinM (S0 : St) (p1 p2 : Int32) : ∀ (k i : Nat) (Z : St), i + k = 8 → (∀ b, b ≠ 32 → (LX8_join_18 S0 p1 p2 k i Z).1 0 b = Z.1 0 b) ∧
    ∀ j, j < 8 → (LX8_join_18 S0 p1 p2 k i Z).1 0 32 j = if i ≤ j ∧ Z.1 0 32 j = S0.1 0 32 (Int32.toNatClampNeg p1) then S0.1 0 32 (Int32.toNatClampNeg p2) else Z.1 0 32 j := by
  intro k
  induction k with
  | zero =>
    intro i Z hi
    rw [LX8_join_18]
    exact ⟨fun _ _ => rfl, fun j hj => by rw [if_neg (by omega)]⟩
  | succ k ih =>
    intro i Z hi
    rw [LX8_join_18]
    by_cases c : Z.1 0 32 i = S0.1 0 32 (Int32.toNatClampNeg p1)
    · rw [if_pos c]
      obtain ⟨g1, g2⟩ := ih (i + 1) (up Z 0 32 i (S0.1 0 32 (Int32.toNatClampNeg p2))) (by omega)
      refine ⟨fun b hb => by rw [g1 b hb, up_row_ne _ _ hb], fun j hj => ?_⟩
      rw [g2 j hj]
      by_cases q : j = i
      · subst q
        rw [if_neg (by omega), if_pos ⟨Nat.le_refl _, c⟩]
        simp [up_val]
      · rw [show (up Z 0 32 i (S0.1 0 32 (Int32.toNatClampNeg p2))).1 0 32 j = Z.1 0 32 j by simp [up_val, q]]
        by_cases w : i + 1 ≤ j
        · simp only [w, show i ≤ j by omega, true_and]
        · simp only [w, show ¬ i ≤ j by omega, false_and, if_false]
    · rw [if_neg c]
      obtain ⟨g1, g2⟩ := ih (i + 1) (up Z 0 32 i (Z.1 0 32 i)) (by omega)
      refine ⟨fun b hb => by rw [g1 b hb, up_row_ne _ _ hb], fun j hj => ?_⟩
      rw [g2 j hj]
      by_cases q : j = i
      · subst q
        rw [if_neg (by omega), if_neg (fun w => c w.2)]
        simp [up_val]
      · rw [show (up Z 0 32 i (Z.1 0 32 i)).1 0 32 j = Z.1 0 32 j by simp [up_val, q]]
        by_cases w : i + 1 ≤ j
        · simp only [w, show i ≤ j by omega, true_and]
        · simp only [w, show ¬ i ≤ j by omega, false_and, if_false]
theorem joinX (S0 : St) {a b : Nat} (ha : a < 8) (hb : b < 8) (hab : ¬ a = b) : ∀ (k i : Nat) (Z : St), i + k = 8 → zW Z → ¬ zB Z b b →
    zW (LX1_joinNames_2 S0 (nI a) (nI b) k i Z) ∧ zFr Z (LX1_joinNames_2 S0 (nI a) (nI b) k i Z) ∧ (∀ j, j < 8 → (LX1_joinNames_2 S0 (nI a) (nI b) k i Z).1 9 1 j = if i ≤ j ∧ Z.1 9 1 j = nI b then nI a else Z.1 9 1 j) ∧
    ∀ p q, p < 8 → q < 8 → (zB (LX1_joinNames_2 S0 (nI a) (nI b) k i Z) p q ↔ zB Z p q ∨ (p = a ∧ i ≤ q ∧ zB Z b q) ∨ (q = a ∧ i ≤ p ∧ zB Z b p)) := by
  intro k
  induction k with
  | zero =>
    intro i Z hi hw hbb
    rw [LX1_joinNames_2]
    refine ⟨hw, ⟨fun _ _ => rfl, fun _ _ _ => rfl⟩, fun j hj => by rw [if_neg (by omega)], fun p q hp hq => ⟨Or.inl, ?_⟩⟩
    rintro (h | ⟨_, h, _⟩ | ⟨_, h, _⟩)
    · exact h
    · omega
    · omega
  | succ k ih =>
    intro i Z hi hw hbb
    have hi8 : i < 8 := by omega
    have key : ∀ Y : St, zW Y → (∀ p q, zB Y p q ↔ zB Z p q) → zFr Z Y → (∀ j, j < 8 → Y.1 9 1 j = if j = i ∧ Z.1 9 1 j = nI b then nI a else Z.1 9 1 j) →
        zW (if art Y (nI b) (nI i) then bnd (tX1_partNames Y (nI a) (nI i)) (fun zS => LX1_joinNames_2 S0 (nI a) (nI b) k (i + 1) zS) else LX1_joinNames_2 S0 (nI a) (nI b) k (i + 1) Y) ∧
        zFr Z (if art Y (nI b) (nI i) then bnd (tX1_partNames Y (nI a) (nI i)) (fun zS => LX1_joinNames_2 S0 (nI a) (nI b) k (i + 1) zS) else LX1_joinNames_2 S0 (nI a) (nI b) k (i + 1) Y) ∧
        (∀ j, j < 8 → (if art Y (nI b) (nI i) then bnd (tX1_partNames Y (nI a) (nI i)) (fun zS => LX1_joinNames_2 S0 (nI a) (nI b) k (i + 1) zS) else LX1_joinNames_2 S0 (nI a) (nI b) k (i + 1) Y).1 9 1 j = if i ≤ j ∧ Z.1 9 1 j = nI b then nI a else Z.1 9 1 j) ∧
        ∀ p q, p < 8 → q < 8 → (zB (if art Y (nI b) (nI i) then bnd (tX1_partNames Y (nI a) (nI i)) (fun zS => LX1_joinNames_2 S0 (nI a) (nI b) k (i + 1) zS) else LX1_joinNames_2 S0 (nI a) (nI b) k (i + 1) Y) p q ↔ zB Z p q ∨ (p = a ∧ i ≤ q ∧ zB Z b q) ∨ (q = a ∧ i ≤ p ∧ zB Z b p)) := by
      intro Y hY hB hF h1
      have ha1 : ¬ nI a = nI b := fun w => hab ((nI_eq (by omega) (by omega)).mp w)
      have fin1 : ∀ j, j < 8 → (if i + 1 ≤ j ∧ Y.1 9 1 j = nI b then nI a else Y.1 9 1 j) = if i ≤ j ∧ Z.1 9 1 j = nI b then nI a else Z.1 9 1 j := fun j hj => by
        rw [h1 j hj]
        by_cases q : j = i
        · subst q
          rw [if_neg (fun w => absurd w.1 (by omega))]
          simp
        · simp only [q, false_and, if_false]
          by_cases w : i + 1 ≤ j
          · simp only [w, show i ≤ j by omega, true_and]
          · simp only [w, show ¬ i ≤ j by omega, false_and, if_false]
      by_cases c : zB Z b i
      · have hart : art Y (nI b) (nI i) := (art_zB hb).mpr ((hB b i).mpr c)
        rw [if_pos hart, bnd_def]
        obtain ⟨v1, v2, v3, v4⟩ := part_val hY ha hi8
        have hib : ¬ b = i := fun w => by subst w; exact hbb c
        obtain ⟨g1, g2, g3, g4⟩ := ih (i + 1) (tX1_partNames Y (nI a) (nI i)) (by omega) v1 (fun w => by
          rw [v2 b b hb, hB] at w
          rcases w with w | ⟨w, -⟩ | ⟨w, -⟩
          · exact hbb w
          · exact hab w.symm
          · exact hib w)
        refine ⟨g1, ⟨fun r hr => by rw [g2.1 r hr, v4.1 r hr, hF.1 r hr], fun j j1 j2 => by rw [g2.2 j j1 j2, v4.2 j j1 j2, hF.2 j j1 j2]⟩, fun j hj => by rw [g3 j hj, v3, fin1 j hj], fun p q hp hq => ?_⟩
        rw [g4 p q hp hq, v2 p q hq, v2 b q hq, v2 b p hp, hB, hB, hB]
        constructor
        · rintro ((h | ⟨h, h'⟩ | ⟨h, h'⟩) | ⟨h, h', h'' | ⟨h'', -⟩ | ⟨h'', -⟩⟩ | ⟨h, h', h'' | ⟨h'', -⟩ | ⟨h'', -⟩⟩)
          · exact Or.inl h
          · subst h'; exact Or.inr (Or.inl ⟨h, Nat.le_refl _, c⟩)
          · subst h; exact Or.inr (Or.inr ⟨h', Nat.le_refl _, c⟩)
          · exact Or.inr (Or.inl ⟨h, by omega, h''⟩)
          · exact absurd h''.symm hab
          · exact absurd h'' hib
          · exact Or.inr (Or.inr ⟨h, by omega, h''⟩)
          · exact absurd h''.symm hab
          · exact absurd h'' hib
        · rintro (h | ⟨h, h', h''⟩ | ⟨h, h', h''⟩)
          · exact Or.inl (Or.inl h)
          · by_cases q' : q = i
            · exact Or.inl (Or.inr (Or.inl ⟨h, q'⟩))
            · exact Or.inr (Or.inl ⟨h, by omega, Or.inl h''⟩)
          · by_cases q' : p = i
            · exact Or.inl (Or.inr (Or.inr ⟨q', h⟩))
            · exact Or.inr (Or.inr ⟨h, by omega, Or.inl h''⟩)
      · have hart : ¬ art Y (nI b) (nI i) := fun w => c ((hB b i).mp ((art_zB hb).mp w))
        rw [if_neg hart]
        obtain ⟨g1, g2, g3, g4⟩ := ih (i + 1) Y (by omega) hY (fun w => hbb ((hB b b).mp w))
        refine ⟨g1, ⟨fun r hr => by rw [g2.1 r hr, hF.1 r hr], fun j j1 j2 => by rw [g2.2 j j1 j2, hF.2 j j1 j2]⟩, fun j hj => by rw [g3 j hj, fin1 j hj], fun p q hp hq => ?_⟩
        rw [g4 p q hp hq, hB, hB, hB]
        constructor
        · rintro (h | ⟨h, h', h''⟩ | ⟨h, h', h''⟩)
          · exact Or.inl h
          · exact Or.inr (Or.inl ⟨h, by omega, h''⟩)
          · exact Or.inr (Or.inr ⟨h, by omega, h''⟩)
        · rintro (h | ⟨h, h', h''⟩ | ⟨h, h', h''⟩)
          · exact Or.inl h
          · have : ¬ q = i := fun w => by subst w; exact c h''
            exact Or.inr (Or.inl ⟨h, by omega, h''⟩)
          · have : ¬ p = i := fun w => by subst w; exact c h''
            exact Or.inr (Or.inr ⟨h, by omega, h''⟩)
    rw [LX1_joinNames_2]
    by_cases c : Z.1 9 1 i = nI b
    · rw [if_pos c]
      refine key (up Z 9 1 i (nI a)) (fun p hp => ?_) (fun p q => ?_) ⟨fun r hr => up_r _ _ hr, fun j j1 j2 => up_row_ne _ _ j1⟩ (fun j hj => ?_)
      · rw [up_row_ne _ _ (by decide)]; exact hw p hp
      · unfold zB; rw [up_row_ne _ _ (by decide)]
      · by_cases q : j = i
        · subst q; rw [if_pos ⟨rfl, c⟩]; simp [up_val]
        · rw [if_neg (fun w => q w.1)]; simp [up_val, q]
    · rw [if_neg c]
      exact key Z hw (fun _ _ => Iff.rfl) ⟨fun _ _ => rfl, fun _ _ _ => rfl⟩ (fun j hj => by
        by_cases q : j = i
        · subst q; rw [if_neg (fun w => c w.2)]
        · rw [if_neg (fun w => q w.1)])
