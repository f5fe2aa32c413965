/-- tale j tells that the first names p and q are two, and is not left out (L: the tales left out, as bits; f: the first name of each) -/
def Ap (M : St) (L i : Nat) (f : Nat → Nat) (p q : Nat) : Prop := ∃ j, j < i ∧ M.1 0 15 j = 0 ∧ ¬ L.testBit j = true ∧ ((f (M.1 0 13 j).toNatClampNeg = p ∧ f (M.1 0 14 j).toNatClampNeg = q) ∨ (f (M.1 0 13 j).toNatClampNeg = q ∧ f (M.1 0 14 j).toNatClampNeg = p))
def zName (M : St) : Prop := ∀ j, j < 8 → wi (M.1 0 13 j) 0 7 ∧ wi (M.1 0 14 j) 0 7
def HrN (Z W : St) (f g : Nat → Nat) : Prop := (∀ k, k < 8 → f k < 8 ∧ f (f k) = f k ∧ g k < 8 ∧ Z.1 9 1 k = nI (f k) ∧ W.1 0 32 k = nI (g k)) ∧ ∀ a b, a < 8 → b < 8 → (f a = f b ↔ g a = g b)
def HrW (M W : St) : Prop := (∀ b, b ≠ 0 → b ≠ 32 → W.1 0 b = M.1 0 b) ∧ ∀ j, j ≠ 33 → W.1 0 0 j = M.1 0 0 j
theorem name_nI {x : Int32} (h : wi x 0 7) : x.toNatClampNeg < 8 := by
  obtain ⟨k, hk, rfl, e⟩ := wi_k (n := 7) h rfl (by decide)
  omega
theorem ap_two {M Z W : St} {f g : Nat → Nat} {L i a b : Nat} (hN : HrN Z W f g) (hW : HrW M W) (hM : zName M) (hi : i ≤ 8) (hL : L < 256) (h33 : W.1 0 0 33 = nI L) (ha : a < 8) (hb : b < 8) :
    ¬ tX8_areTwo W (W.1 0 32 a) (W.1 0 32 b) (nI i) = 0 ↔ Ap M L i f (f a) (f b) := by
  obtain ⟨h1, h2⟩ := hN
  rw [two_iff _ _ _ (by omega)]
  unfold TwoAt Ap
  have e13 : W.1 0 13 = M.1 0 13 := hW.1 13 (by decide) (by decide)
  have e14 : W.1 0 14 = M.1 0 14 := hW.1 14 (by decide) (by decide)
  have e15 : W.1 0 15 = M.1 0 15 := hW.1 15 (by decide) (by decide)
  rw [e13, e14, e15, h33, (h1 a ha).2.2.2.2, (h1 b hb).2.2.2.2]
  have key : ∀ c d, c < 8 → d < 8 → (W.1 0 32 c = nI (g d) ↔ f c = f d) := fun c d hc hd => by
    rw [(h1 c hc).2.2.2.2, nI_eq (by have := (h1 c hc).2.2.1; omega) (by have := (h1 d hd).2.2.1; omega), h2 c d hc hd]
  constructor
  · rintro ⟨j, hj, hn, h0, hbit⟩
    have n1 := name_nI (hM j (by omega)).1
    have n2 := name_nI (hM j (by omega)).2
    refine ⟨j, hj, h0, (bit256z L hL j (by omega)).mp hbit, ?_⟩
    rw [key _ _ n1 ha, key _ _ n2 hb, key _ _ n1 hb, key _ _ n2 ha] at hn
    exact hn
  · rintro ⟨j, hj, h0, hbit, hn⟩
    have n1 := name_nI (hM j (by omega)).1
    have n2 := name_nI (hM j (by omega)).2
    refine ⟨j, hj, ?_, h0, (bit256z L hL j (by omega)).mpr hbit⟩
    rw [key _ _ n1 ha, key _ _ n2 hb, key _ _ n1 hb, key _ _ n2 ha]
    exact hn
