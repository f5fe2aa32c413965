theorem E_ones {S M : St} (h : Rel S M) : Ans (tX7_ones S) (tX8_ones M) := by
  obtain ⟨-, hM, -⟩ := tal_at h
  obtain ⟨t, f, g, L, ht, e16, hH⟩ := hear_all h
  obtain ⟨hN, hW, hz, hL, h33, hA, hs, h9, hc1, hc0⟩ := hH
  have hL8 : L < 256 := Nat.lt_of_lt_of_le hL (pow8 ht)
  have hsym : ∀ p q, Ap M L t f p q → Ap M L t f q p := fun p q w => w.symm
  have hf : ∀ a, a < 8 → f a < 8 ∧ f (f a) = f a := fun a ha => ⟨(hN.1 a ha).1, (hN.1 a ha).2.1⟩
  have hZ : FsOk (tX1_hear S 0) f (Ap M L t f) := ⟨fun k hk => ⟨(hN.1 k hk).1, (hN.1 k hk).2.2.2.1⟩, hA⟩
  obtain ⟨r, Y, e, k1, ⟨c, hc⟩, k3⟩ := fs_least hZ hsym hs
  unfold tX7_ones tX8_ones
  rw [bnd_def, bnd_def, bnd_def, bnd_def, e]
  obtain ⟨V, y1, y2, y3⟩ := ones13 M 255 1 (up (tX8_hearTales M) 0 34 0 0) rfl
  have y2 : zRow (tX8_hearTales M) V := (zRow.up (tX8_hearTales M) 0 0).tr y2
  have v0 : V.1 0 34 0 = nI 0 := by rw [y3 0 (by decide), if_neg (by decide)]; simp [up_val]; rfl
  have hLI : zLI f (Ap M L t f) V := by
    intro j hj
    by_cases q : j = 0
    · subst q
      exact ⟨0, by decide, v0, Or.inr ⟨fun _ => 0, fun a _ hb => absurd hb (by rw [Nat.zero_testBit]; decide), fun a b _ _ hb => absurd hb (by rw [Nat.zero_testBit]; decide)⟩⟩
    · exact ⟨99, by decide, by rw [y3 j hj, if_pos (by omega)]; rfl, Or.inl rfl⟩
  have hUI : zUI f (Ap M L t f) V 1 := fun m c _ => ⟨0, by decide, by rw [zT_one]; exact v0, Nat.zero_le _⟩
  obtain ⟨v, X, x1, x2, x3, x4, x5⟩ := ones36 hs hsym hf (fun V s hV hs' => good_iff hN hW hM ht hL8 h33 e16 hV hs') M 255 1 V rfl (Nat.le_refl _) y2 hLI hUI
  rw [y1, x1]
  have hv8 : v ≤ 8 := x5 8 (fun p => p) ⟨fun p hp _ => hp, fun p q _ _ _ _ hC w => by
    dsimp only at w
    rw [w] at hC
    exact hs _ hC⟩
  have hvr : v ≤ r := x5 r c hc
  have hrv : r ≤ v := by
    rcases x4 with x4 | ⟨c2, d1, d2⟩
    · omega
    · exact k3 v c2 ⟨fun p hp _ => d1 p hp (zbit255 p hp), fun p q hp hq ep eq hC => (d2 p q hp hq (zbit255 p hp) (zbit255 q hq)).2 (by rw [ep, eq]; exact hC)⟩
  obtain rfl : r = v := by omega
  exact Ans.mk rfl (h.hear (fun x hx => (k1.1 x hx).trans (h9 x hx)) (fun b b0 b32 b34 => (x2 b b34).trans (hW.1 b b0 b32)) (fun j hj => by rw [x2 0 (by decide)]; exact hW.2 j hj))
