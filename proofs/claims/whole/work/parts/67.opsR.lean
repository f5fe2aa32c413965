/-- how many tales below i are left out, and the first -/
def zcL (L : Nat) : Nat → Nat
  | 0 => 0
  | i + 1 => zcL L i + (if L.testBit i = true then 1 else 0)
def zfL (L : Nat) : Nat → Int32
  | 0 => -6
  | i + 1 => if zcL L i = 0 ∧ L.testBit i = true then nI i else zfL L i
theorem zcL_cong {L L' : Nat} : ∀ i, (∀ j, j < i → L'.testBit j = L.testBit j) → zcL L' i = zcL L i ∧ zfL L' i = zfL L i := by
  intro i
  induction i with
  | zero => intro _; exact ⟨rfl, rfl⟩
  | succ i ih =>
    intro h
    obtain ⟨e1, e2⟩ := ih (fun j hj => h j (by omega))
    rw [zcL, zcL, zfL, zfL, e1, e2, h i (by omega)]
    exact ⟨rfl, rfl⟩
theorem zcL_le (L i : Nat) : zcL L i ≤ i := by
  induction i with
  | zero => exact Nat.le_refl _
  | succ i ih => rw [zcL]; split <;> omega
def Hr (S M : St) (i : Nat) (Z W : St) (f g : Nat → Nat) (L : Nat) : Prop := HrN Z W f g ∧ HrW M W ∧ zW Z ∧ L < 2 ^ i ∧ W.1 0 0 33 = nI L ∧ (∀ p q, p < 8 → q < 8 → f p = p → f q = q → (zB Z p q ↔ Ap M L i f p q)) ∧ (∀ p, ¬ Ap M L i f p p) ∧
  (∀ r, r ≠ 9 → Z.1 r = S.1 r) ∧ Z.1 9 0 1 = nI (zcL L i) ∧ Z.1 9 0 0 = zfL L i
theorem lt_tb {L i : Nat} (h : L < 2 ^ i) : L.testBit i = false := Nat.testBit_lt_two_pow h
theorem or_low {L i j : Nat} (hj : j < i) : (L ||| 2 ^ i).testBit j = L.testBit j := by
  rw [Nat.testBit_or, Nat.testBit_two_pow]
  simp [show ¬ i = j by omega]
theorem or_lt2 {L i : Nat} (h : L < 2 ^ i) : L ||| 2 ^ i < 2 ^ (i + 1) := Nat.or_lt_two_pow (Nat.lt_of_lt_of_le h (Nat.pow_le_pow_right (by decide) (by omega))) (Nat.pow_lt_pow_right (by decide) (by omega))
theorem pow8 {i : Nat} (h : i ≤ 8) : 2 ^ i ≤ 256 := Nat.pow_le_pow_right (n := 2) (by decide) h
/-- kept: the tale is not left out -/
theorem hr_keep {S M Z W Z' W' : St} {f g f' g' : Nat → Nat} {L i : Nat} (h : Hr S M i Z W f g L) (hN : HrN Z' W' f' g') (hW : HrW M W') (hz : zW Z') (h33 : W'.1 0 0 33 = W.1 0 0 33) (hA : ∀ p q, p < 8 → q < 8 → f' p = p → f' q = q → (zB Z' p q ↔ Ap M L (i + 1) f' p q)) (hs : ∀ p, ¬ Ap M L (i + 1) f' p p) (hF : zFr Z Z') : Hr S M (i + 1) Z' W' f' g' L := by
  obtain ⟨a1, a2, a3, a4, a5, a6, a7, a8, a9, a10⟩ := h
  refine ⟨hN, hW, hz, Nat.lt_of_lt_of_le a4 (Nat.pow_le_pow_right (by decide) (by omega)), h33.trans a5, hA, hs, fun r hr => by rw [hF.1 r hr, a8 r hr], ?_, ?_⟩
  · rw [hF.2 0 (by decide) (by decide), a9, zcL, lt_tb a4]; rfl
  · rw [hF.2 0 (by decide) (by decide), a10, zfL, lt_tb a4]; simp
/-- left out -/
theorem hr_out {S M Z W : St} {f g : Nat → Nat} {L i : Nat} (hi : i < 8) (h : Hr S M i Z W f g L) :
    Hr S M (i + 1) (if Z.1 9 0 1 = 0 then up (up Z 9 0 0 (nI i)) 9 0 1 ((up Z 9 0 0 (nI i)).1 9 0 1 + 1) else up Z 9 0 1 (Z.1 9 0 1 + 1)) (up W 0 0 33 (W.1 0 0 33 ||| ishlF 1 (nI i))) f g (L ||| 2 ^ i) := by
  obtain ⟨⟨a0, a1⟩, ⟨a2, a2'⟩, a3, a4, a5, a6, a7, a8, a9, a10⟩ := h
  have hp := pow8 (i := i) (by omega)
  obtain ⟨e1, e2⟩ := or256 L (by omega) i hi
  have hz := zcL_le L i
  obtain ⟨c1, c2⟩ := zcL_cong (L := L) (L' := L ||| 2 ^ i) i (fun j hj => or_low hj)
  have tb : (L ||| 2 ^ i).testBit i = true := tb_or.mpr (Or.inl rfl)
  have hc0 : Z.1 9 0 1 = 0 ↔ zcL L i = 0 := by rw [a9]; exact nI_eq (b := 0) (by omega) (by decide)
  have hskip : ∀ p q, Ap M (L ||| 2 ^ i) (i + 1) f p q ↔ Ap M L i f p q := fun p q => ap_skip (fun j hj => or_low hj) (fun w => w.2 tb)
  have fin : ∀ Z' : St, (∀ r, r ≠ 9 → Z'.1 r = Z.1 r) → (∀ j, j ≠ 0 → Z'.1 9 j = Z.1 9 j) → Z'.1 9 0 1 = Z.1 9 0 1 + 1 → (Z'.1 9 0 0 = if zcL L i = 0 then nI i else Z.1 9 0 0) → Hr S M (i + 1) Z' (up W 0 0 33 (W.1 0 0 33 ||| ishlF 1 (nI i))) f g (L ||| 2 ^ i) := by
    intro Z' h9 h0 hc hf
    refine ⟨⟨fun k hk => ?_, a1⟩, ⟨fun b b0 b32 => by rw [up_row_ne _ _ b0, a2 b b0 b32], fun j hj => by rw [← a2' j hj]; simp [up_val, hj]⟩, fun p hp => by rw [h0 2 (by decide)]; exact a3 p hp, or_lt2 a4, ?_, fun p q hp hq hfp hfq => ?_, fun p w => a7 p ((hskip p p).mp w), fun r hr => by rw [h9 r hr, a8 r hr], ?_, ?_⟩
    · rw [h0 1 (by decide), up_row_ne _ _ (by decide)]; exact a0 k hk
    · rw [a5, e1]; simp [up_val]
    · rw [hskip]
      unfold zB
      rw [h0 2 (by decide)]
      exact a6 p q hp hq hfp hfq
    · rw [hc, a9, zcL, c1, tb, if_pos rfl, nI_1]
    · rw [hf, zfL, c1, c2, tb, a10]; simp
  by_cases c : Z.1 9 0 1 = 0
  · rw [if_pos c]
    refine fin _ (fun r hr => by rw [up_r _ _ hr, up_r _ _ hr]) (fun j hj => by rw [up_row_ne _ _ hj, up_row_ne _ _ hj]) (by simp [up_val]) ?_
    rw [if_pos (hc0.mp c)]; simp [up_val]
  · rw [if_neg c]
    refine fin _ (fun r hr => by rw [up_r _ _ hr]) (fun j hj => by rw [up_row_ne _ _ hj]) (by simp [up_val]) ?_
    rw [if_neg (fun w => c (hc0.mpr w))]; simp [up_val]
