theorem zdec {P Q : Prop} (h : P ↔ Q) : (P ∧ Q) ∨ (¬ P ∧ ¬ Q) := by
  by_cases c : P
  · exact Or.inl ⟨c, h.mp c⟩
  · exact Or.inr ⟨c, fun q => c (h.mpr q)⟩
theorem part_join {f g : Nat → Nat} (h : ∀ a b, a < 8 → b < 8 → (f a = f b ↔ g a = g b)) {a b lo hi : Nat} (ha : a < 8) (hb : b < 8) (hl : (lo = f a ∧ hi = f b) ∨ (lo = f b ∧ hi = f a)) (x y : Nat) (hx : x < 8) (hy : y < 8) :
    ((if f x = hi then lo else f x) = (if f y = hi then lo else f y)) ↔ ((if g x = g a then g b else g x) = (if g y = g a then g b else g y)) := by
  have h1 := zdec (h x a hx ha)
  have h2 := zdec (h x b hx hb)
  have h3 := zdec (h y a hy ha)
  have h4 := zdec (h y b hy hb)
  have h5 := zdec (h x y hx hy)
  have h6 := zdec (h a b ha hb)
  generalize f x = fx at *
  generalize f y = fy at *
  generalize f a = fa at *
  generalize f b = fb at *
  generalize g x = gx at *
  generalize g y = gy at *
  generalize g a = ga at *
  generalize g b = gb at *
  clear h
  constructor
  · intro w
    split at w <;> split at w <;> split <;> split <;> omega
  · intro w
    split at w <;> split at w <;> split <;> split <;> omega
theorem Ap.mono {M : St} {L i : Nat} {f : Nat → Nat} {p q : Nat} (h : Ap M L i f p q) : ∃ x y, x < 8 → y < 8 → (f x = p ∧ f y = q) ∨ (f x = q ∧ f y = p) := by
  obtain ⟨j, _, _, _, hn⟩ := h
  exact ⟨_, _, fun _ _ => hn⟩
theorem Ap.symm {M : St} {L i : Nat} {f : Nat → Nat} {p q : Nat} (h : Ap M L i f p q) : Ap M L i f q p := by
  obtain ⟨j, h1, h2, h3, h4⟩ := h
  exact ⟨j, h1, h2, h3, h4.symm⟩
/-- a tale left out, or one that tells two to be one: nothing is told apart by it -/
theorem ap_skip {M : St} {L L' i : Nat} {f : Nat → Nat} {p q : Nat} (hL : ∀ j, j < i → (L'.testBit j = L.testBit j)) (hi : ¬ (M.1 0 15 i = 0 ∧ ¬ L'.testBit i = true)) : Ap M L' (i + 1) f p q ↔ Ap M L i f p q := by
  constructor
  · rintro ⟨j, h1, h2, h3, h4⟩
    by_cases c : j = i
    · subst c; exact absurd ⟨h2, h3⟩ hi
    · exact ⟨j, by omega, h2, by rw [← hL j (by omega)]; exact h3, h4⟩
  · rintro ⟨j, h1, h2, h3, h4⟩
    exact ⟨j, by omega, h2, by rw [hL j h1]; exact h3, h4⟩
/-- a tale that tells two, kept -/
theorem ap_two1 {M : St} {L i : Nat} {f : Nat → Nat} {p q : Nat} (h0 : M.1 0 15 i = 0) (hb : ¬ L.testBit i = true) : Ap M L (i + 1) f p q ↔ Ap M L i f p q ∨ (f (M.1 0 13 i).toNatClampNeg = p ∧ f (M.1 0 14 i).toNatClampNeg = q) ∨ (f (M.1 0 13 i).toNatClampNeg = q ∧ f (M.1 0 14 i).toNatClampNeg = p) := by
  constructor
  · rintro ⟨j, h1, h2, h3, h4⟩
    by_cases c : j = i
    · subst c; exact Or.inr h4
    · exact Or.inl ⟨j, by omega, h2, h3, h4⟩
  · rintro (⟨j, h1, h2, h3, h4⟩ | h)
    · exact ⟨j, by omega, h2, h3, h4⟩
    · exact ⟨i, by omega, h0, hb, h⟩
/-- two first names made one: lo stays, hi goes -/
theorem ap_join {M : St} {L i : Nat} {f : Nat → Nat} {lo hi p q : Nat} (hne : ¬ lo = hi) (hno : ¬ Ap M L i f lo hi) (hself : ∀ x, ¬ Ap M L i f x x) (hp : ¬ p = hi) (hq : ¬ q = hi) :
    Ap M L i (fun k => if f k = hi then lo else f k) p q ↔ Ap M L i f p q ∨ (p = lo ∧ Ap M L i f hi q) ∨ (q = lo ∧ Ap M L i f hi p) := by
  constructor
  · rintro ⟨j, h1, h2, h3, h4⟩
    dsimp only at h4
    have mk : ∀ x y, ((f (M.1 0 13 j).toNatClampNeg = x ∧ f (M.1 0 14 j).toNatClampNeg = y) ∨ (f (M.1 0 13 j).toNatClampNeg = y ∧ f (M.1 0 14 j).toNatClampNeg = x)) → Ap M L i f x y := fun x y w => ⟨j, h1, h2, h3, w⟩
    generalize f (M.1 0 13 j).toNatClampNeg = A at h4 mk
    generalize f (M.1 0 14 j).toNatClampNeg = B at h4 mk
    have hAB := mk A B (Or.inl ⟨rfl, rfl⟩)
    by_cases cA : A = hi
    · by_cases cB : B = hi
      · exfalso; subst cA; subst cB; exact hself _ hAB
      · simp only [cA, cB, if_true, if_false] at h4
        subst cA
        rcases h4 with ⟨w1, w2⟩ | ⟨w1, w2⟩
        · exact Or.inr (Or.inl ⟨w1.symm, by rw [← w2]; exact hAB⟩)
        · exact Or.inr (Or.inr ⟨w1.symm, by rw [← w2]; exact hAB⟩)
    · by_cases cB : B = hi
      · simp only [cA, cB, if_true, if_false] at h4
        subst cB
        rcases h4 with ⟨w1, w2⟩ | ⟨w1, w2⟩
        · exact Or.inr (Or.inr ⟨w2.symm, by rw [← w1]; exact hAB.symm⟩)
        · exact Or.inr (Or.inl ⟨w2.symm, by rw [← w1]; exact hAB.symm⟩)
      · simp only [cA, cB, if_false] at h4
        exact Or.inl (mk p q h4)
  · rintro (⟨j, h1, h2, h3, h4⟩ | ⟨rfl, j, h1, h2, h3, h4⟩ | ⟨rfl, j, h1, h2, h3, h4⟩)
    · refine ⟨j, h1, h2, h3, ?_⟩
      rcases h4 with ⟨w1, w2⟩ | ⟨w1, w2⟩
      · exact Or.inl ⟨by simp only [w1, hp, if_false], by simp only [w2, hq, if_false]⟩
      · exact Or.inr ⟨by simp only [w1, hq, if_false], by simp only [w2, hp, if_false]⟩
    · refine ⟨j, h1, h2, h3, ?_⟩
      rcases h4 with ⟨w1, w2⟩ | ⟨w1, w2⟩
      · exact Or.inl ⟨by simp only [w1, if_true], by simp only [w2, hq, if_false]⟩
      · exact Or.inr ⟨by simp only [w1, hq, if_false], by simp only [w2, if_true]⟩
    · refine ⟨j, h1, h2, h3, ?_⟩
      rcases h4 with ⟨w1, w2⟩ | ⟨w1, w2⟩
      · exact Or.inr ⟨by simp only [w1, if_true], by simp only [w2, hp, if_false]⟩
      · exact Or.inl ⟨by simp only [w1, hp, if_false], by simp only [w2, if_true]⟩
