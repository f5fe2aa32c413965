theorem first_nI {Z : St} {f : Nat → Nat} {a : Nat} (ha : a < 8) (h : Z.1 9 1 a = nI (f a)) : tX1_firstNameOf Z (nI a) = nI (f a) := by
  unfold tX1_firstNameOf
  rw [if_neg (nI_pos (by omega)), if_neg (show ¬ (8 : Int32) ≤ nI a from nI_ge (b := 8) ha (by decide)), nI_clamp (by omega), h]
theorem takes_eq {M Z W : St} {f g : Nat → Nat} {L i a b : Nat} {s : Int32} (hN : HrN Z W f g) (hA : ∀ p q, p < 8 → q < 8 → f p = p → f q = q → (zB Z p q ↔ Ap M L i f p q)) (hs : ∀ p, ¬ Ap M L i f p p) (ha : a < 8) (hb : b < 8) :
    tX1_takes Z (nI a) (nI b) s = if f a = f b then (if b01 s = 0 then (0, Z) else (1, Z)) else if art Z (nI (f a)) (nI (f b)) then (if b01 s = 0 then (1, tX1_partNames Z (nI (f a)) (nI (f b))) else (0, Z)) else (if b01 s = 0 then (1, tX1_partNames Z (nI (f a)) (nI (f b))) else (1, tX1_joinNames Z (nI (if f b < f a then f b else f a)) (nI (if f a < f b then f b else f a)))) := by
  obtain ⟨h1, h2⟩ := hN
  obtain ⟨a1, a2, -, a4, -⟩ := h1 a ha
  obtain ⟨b1, b2, -, b4, -⟩ := h1 b hb
  unfold tX1_takes
  rw [first_nI ha a4, first_nI hb b4]
  have hart : art Z (nI (f a)) (nI (f b)) ↔ Ap M L i f (f a) (f b) := (art_zB a1).trans (hA _ _ a1 b1 a2 b2)
  have heq : nI (f a) = nI (f b) ↔ f a = f b := nI_eq (by omega) (by omega)
  have hlt : ∀ x y, x < 8 → y < 8 → (nI x < nI y ↔ x < y) := fun x y hx hy => nI_ltI (by omega) (by omega)
  simp only [bnd_def]
  by_cases c : f a = f b
  · have hn : ¬ art Z (nI (f a)) (nI (f b)) := fun w => by
      have := hart.mp w
      rw [c] at this
      exact hs _ this
    rw [if_pos (heq.mpr c), if_neg hn, if_pos c]
  · rw [if_neg (fun w => c (heq.mp w)), if_neg c]
    by_cases d : art Z (nI (f a)) (nI (f b))
    · rw [if_pos d, if_pos d]
    · rw [if_neg d, if_neg d]
      by_cases e : b01 s = 0
      · rw [if_pos e, if_pos e]
      · rw [if_neg e, if_neg e]
        by_cases q : f a < f b
        · have q2 : ¬ f b < f a := by omega
          rw [if_neg (fun w => q2 ((hlt _ _ b1 a1).mp w)), if_pos ((hlt _ _ a1 b1).mpr q), if_neg q2, if_pos q]
        · have q2 : f b < f a := by omega
          rw [if_pos ((hlt _ _ b1 a1).mpr q2), if_neg (fun w => q ((hlt _ _ a1 b1).mp w)), if_pos q2, if_neg q]
