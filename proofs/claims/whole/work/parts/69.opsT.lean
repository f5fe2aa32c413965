theorem or0 (x : Int32) : x ||| 0 = x := by simp
theorem hear_class (S0 Z Z' : St) {i : Nat} {a b : Nat} {s : Int32} (hi : i < 8) (e1 : Z.1 6 1 i = nI a) (e2 : Z.1 6 2 i = nI b) (e3 : Z.1 6 3 i = s)
    (h : (∃ w, ¬ w = 0 ∧ tX1_takes Z (nI a) (nI b) s = (w, Z')) ∨ (tX1_takes Z (nI a) (nI b) s = (0, Z) ∧ Z' = (if Z.1 9 0 1 = 0 then up (up Z 9 0 0 (nI i)) 9 0 1 ((up Z 9 0 0 (nI i)).1 9 0 1 + 1) else up Z 9 0 1 (Z.1 9 0 1 + 1)))) (K : Nat) :
    LX1_hear_48 S0 0 (K + 1) i Z = LX1_hear_48 S0 0 K (i + 1) Z' := by
  rw [LX1_hear_48, if_neg (show ¬ (8 : Int32) ≤ nI i from nI_ge (b := 8) hi (by decide)), Nat.add_zero, e1, e2, e3]
  rcases h with ⟨w, hw, h⟩ | ⟨h, rfl⟩
  · rw [h, bnd_def, bnd_def, if_neg hw]
  · rw [h, bnd_def, bnd_def, if_pos rfl]
    by_cases c : Z.1 9 0 1 = 0
    · rw [if_pos c, if_pos c]
    · rw [if_neg c, if_neg c]
theorem part_min {x y : Nat} : ((if y < x then y else x) = x ∧ (if x < y then y else x) = y) ∨ ((if y < x then y else x) = y ∧ (if x < y then y else x) = x) := by
  by_cases c : y < x
  · rw [if_pos c, if_neg (by omega)]; exact Or.inr ⟨rfl, rfl⟩
  · by_cases d : x < y
    · rw [if_neg c, if_pos d]; exact Or.inl ⟨rfl, rfl⟩
    · rw [if_neg c, if_neg d]; exact Or.inl ⟨rfl, by omega⟩
theorem hr_step {S M Z W : St} {f g : Nat → Nat} {L i a b : Nat} {s : Int32} (hM : zName M) (hi : i < 8) (ha : a < 8) (hb : b < 8) (s1 : S.1 6 1 i = nI a) (s2 : S.1 6 2 i = nI b) (s3 : S.1 6 3 i = s) (m1 : M.1 0 13 i = nI a) (m2 : M.1 0 14 i = nI b) (m3 : M.1 0 15 i = b01 s) (h : Hr S M i Z W f g L) (S0 M0 : St) :
    ∃ Z' W' f' g' L', Hr S M (i + 1) Z' W' f' g' L' ∧ (∀ K, LX1_hear_48 S0 0 (K + 1) i Z = LX1_hear_48 S0 0 K (i + 1) Z') ∧ (∀ K, LX8_hearTales_28 M0 (K + 1) i W = LX8_hearTales_28 M0 K (i + 1) W') := by
  have hH := h
  obtain ⟨hN, hW, hz, hL, h33, hA, hs, h9, hc1, hc0⟩ := h
  have hp8 := pow8 (i := i) (by omega)
  have w13 : W.1 0 13 i = nI a := by rw [hW.1 13 (by decide) (by decide), m1]
  have w14 : W.1 0 14 i = nI b := by rw [hW.1 14 (by decide) (by decide), m2]
  have w15 : W.1 0 15 i = b01 s := by rw [hW.1 15 (by decide) (by decide), m3]
  have z6 : Z.1 6 = S.1 6 := h9 6 (by decide)
  have hcl : ∀ Z', ((∃ w, ¬ w = 0 ∧ tX1_takes Z (nI a) (nI b) s = (w, Z')) ∨ (tX1_takes Z (nI a) (nI b) s = (0, Z) ∧ Z' = (if Z.1 9 0 1 = 0 then up (up Z 9 0 0 (nI i)) 9 0 1 ((up Z 9 0 0 (nI i)).1 9 0 1 + 1) else up Z 9 0 1 (Z.1 9 0 1 + 1)))) → ∀ K, LX1_hear_48 S0 0 (K + 1) i Z = LX1_hear_48 S0 0 K (i + 1) Z' :=
    fun Z' hh K => hear_class S0 Z Z' hi (by rw [z6, s1]) (by rw [z6, s2]) (by rw [z6, s3]) hh K
  have htk := takes_eq (s := s) hN hA hs ha hb
  have h2 := ap_two (i := i) (L := L) hN hW hM (by omega) (by omega) h33 ha hb
  obtain ⟨n1, n2⟩ := id hN
  obtain ⟨a1, a2, a3, a4, a5⟩ := n1 a ha
  obtain ⟨b1, b2, b3, b4, b5⟩ := n1 b hb
  have hart : art Z (nI (f a)) (nI (f b)) ↔ Ap M L i f (f a) (f b) := (art_zB a1).trans (hA _ _ a1 b1 a2 b2)
  have hgab : W.1 0 32 a = W.1 0 32 b ↔ f a = f b := by rw [a5, b5, n2 a b ha hb]; exact nI_eq (by omega) (by omega)
  have hcn : ∀ {x : Nat}, x < 8 → (nI x).toNatClampNeg = x := fun hx => nI_clamp (by omega)
  have hor : W.1 0 0 33 ||| 0 = W.1 0 0 33 := or0 _
  have n10 : ¬ (1 : Int32) = 0 := by decide
  have n01 : ¬ (0 : Int32) = 1 := by decide
  have hb01 : b01 s = 0 ∨ b01 s = 1 := by unfold b01; by_cases c : s = 0 <;> simp [c]
  -- the reference's world with its word of tales left out written anew
  have hW0 : HrW M (up W 0 0 33 (W.1 0 0 33)) := ⟨fun x x0 x32 => by rw [up_row_ne _ _ x0, hW.1 x x0 x32], fun j hj => by rw [← hW.2 j hj]; simp [up_val, hj]⟩
  have hN0 : HrN Z (up W 0 0 33 (W.1 0 0 33)) f g := ⟨fun k hk => by rw [up_row_ne _ _ (by decide)]; exact n1 k hk, n2⟩
  have e33 : (up W 0 0 33 (W.1 0 0 33)).1 0 0 33 = W.1 0 0 33 := by simp [up_val]
  have e15 : (up W 0 0 33 (W.1 0 0 33)).1 0 15 i = b01 s := by rw [up_row_ne _ _ (by decide), w15]
  have hnL : ¬ L.testBit i = true := by rw [lt_tb hL]; simp
  rcases hb01 with e | e
  · -- two
    by_cases c : f a = f b
    · refine ⟨_, _, f, g, L ||| 2 ^ i, hr_out hi hH, hcl _ (Or.inr ⟨by rw [htk, if_pos c, if_pos e], rfl⟩), fun K => ?_⟩
      rw [LX8_hearTales_28, w15, e, if_neg n01, w13, w14, hcn ha, hcn hb, if_pos (hgab.mpr c)]
    · have htk' : tX1_takes Z (nI a) (nI b) s = (1, tX1_partNames Z (nI (f a)) (nI (f b))) := by
        rw [htk, if_neg c]
        by_cases d : art Z (nI (f a)) (nI (f b))
        · rw [if_pos d, if_pos e]
        · rw [if_neg d, if_pos e]
      obtain ⟨v1, v2, v3, v4⟩ := part_val hz a1 b1
      have f13 : f (M.1 0 13 i).toNatClampNeg = f a := by rw [m1, hcn ha]
      have f14 : f (M.1 0 14 i).toNatClampNeg = f b := by rw [m2, hcn hb]
      have hap : ∀ p q, Ap M L (i + 1) f p q ↔ Ap M L i f p q ∨ (f a = p ∧ f b = q) ∨ (f a = q ∧ f b = p) := fun p q => by
        rw [ap_two1 (m3.trans e) hnL, f13, f14]
      refine ⟨_, _, f, g, L, hr_keep hH (Z' := tX1_partNames Z (nI (f a)) (nI (f b))) (W' := up W 0 0 33 (W.1 0 0 33)) ⟨fun k hk => ?_, n2⟩ hW0 v1 e33 (fun p q hp hq hfp hfq => ?_) (fun p w => ?_) v4, hcl _ (Or.inl ⟨1, n10, htk'⟩), fun K => ?_⟩
      · rw [v3]; exact hN0.1 k hk
      · rw [v2 p q hq, hap, hA p q hp hq hfp hfq]
        constructor
        · rintro (w | ⟨w, w'⟩ | ⟨w, w'⟩)
          · exact Or.inl w
          · exact Or.inr (Or.inl ⟨w.symm, w'.symm⟩)
          · exact Or.inr (Or.inr ⟨w'.symm, w.symm⟩)
        · rintro (w | ⟨w, w'⟩ | ⟨w, w'⟩)
          · exact Or.inl w
          · exact Or.inr (Or.inl ⟨w.symm, w'.symm⟩)
          · exact Or.inr (Or.inr ⟨w'.symm, w.symm⟩)
      · rcases (hap p p).mp w with w | ⟨w, w'⟩ | ⟨w, w'⟩
        · exact hs p w
        · exact c (w.trans w'.symm)
        · exact c (w.trans w'.symm)
      · rw [LX8_hearTales_28, w15, e, if_neg n01, w13, w14, hcn ha, hcn hb, if_neg (fun w => c (hgab.mp w)), hor, e15, e, if_neg n01]
  · -- one
    by_cases d : Ap M L i f (f a) (f b)
    · have c : ¬ f a = f b := fun w => by rw [w] at d; exact hs _ d
      refine ⟨_, _, f, g, L ||| 2 ^ i, hr_out hi hH, hcl _ (Or.inr ⟨by rw [htk, if_neg c, if_pos (hart.mpr d), if_neg (by rw [e]; exact n10)], rfl⟩), fun K => ?_⟩
      have hz2 := h2.mpr d
      rw [LX8_hearTales_28, w15, e, if_pos rfl, w13, w14, hcn ha, hcn hb, if_neg hz2]
    · have hz2 : tX8_areTwo W (W.1 0 32 a) (W.1 0 32 b) (nI i) = 0 := Classical.byContradiction (fun w => d (h2.mp w))
      have hmod : ∀ K, LX8_hearTales_28 M0 (K + 1) i W = LX8_hearTales_28 M0 K (i + 1) (tX8_join (up W 0 0 33 (W.1 0 0 33)) (nI a) (nI b)) := fun K => by
        have x13 : (up W 0 0 33 (W.1 0 0 33)).1 0 13 i = nI a := by rw [up_row_ne _ _ (by decide), w13]
        have x14 : (up W 0 0 33 (W.1 0 0 33)).1 0 14 i = nI b := by rw [up_row_ne _ _ (by decide), w14]
        rw [LX8_hearTales_28, w15, e, if_pos rfl, w13, w14, hcn ha, hcn hb, if_pos hz2, hor, e15, e, if_pos rfl, x13, x14, bnd_def]
      obtain ⟨j1, j2⟩ := joinM (up W 0 0 33 (W.1 0 0 33)) (nI a) (nI b) 8 0 (up W 0 0 33 (W.1 0 0 33)) rfl
      have j1 : ∀ x, x ≠ 32 → (tX8_join (up W 0 0 33 (W.1 0 0 33)) (nI a) (nI b)).1 0 x = (up W 0 0 33 (W.1 0 0 33)).1 0 x := j1
      have j2 : ∀ k, k < 8 → (tX8_join (up W 0 0 33 (W.1 0 0 33)) (nI a) (nI b)).1 0 32 k = nI (if g k = g a then g b else g k) := fun k hk => by
        have := j2 k hk
        rw [hcn ha, hcn hb, up_row_ne W _ (show (32 : Nat) ≠ 0 by decide), (n1 k hk).2.2.2.2, a5, b5] at this
        refine this.trans ?_
        have hgk := (n1 k hk).2.2.1
        by_cases q : g k = g a
        · rw [if_pos ⟨Nat.zero_le _, by rw [q]⟩, if_pos q]
        · rw [if_neg (fun w => q ((nI_eq (by omega) (by omega)).mp w.2)), if_neg q]
      have hWj : HrW M (tX8_join (up W 0 0 33 (W.1 0 0 33)) (nI a) (nI b)) := ⟨fun x x0 x32 => by rw [j1 x x32, hW0.1 x x0 x32], fun j hj => by rw [j1 0 (by decide), hW0.2 j hj]⟩
      have j33 : (tX8_join (up W 0 0 33 (W.1 0 0 33)) (nI a) (nI b)).1 0 0 33 = W.1 0 0 33 := by rw [j1 0 (by decide), e33]
      have hskip : ∀ (ff : Nat → Nat) p q, Ap M L (i + 1) ff p q ↔ Ap M L i ff p q := fun ff p q => ap_skip (fun _ _ => rfl) (fun w => by rw [m3, e] at w; exact n10 w.1)
      by_cases c : f a = f b
      · have hg : g a = g b := (n2 a b ha hb).mp c
        refine ⟨_, _, f, g, L, hr_keep hH (Z' := Z) (W' := tX8_join (up W 0 0 33 (W.1 0 0 33)) (nI a) (nI b)) ⟨fun k hk => ?_, n2⟩ hWj hz j33 (fun p q hp hq hfp hfq => by rw [hskip]; exact hA p q hp hq hfp hfq) (fun p w => hs p ((hskip f p p).mp w)) ⟨fun _ _ => rfl, fun _ _ _ => rfl⟩, hcl _ (Or.inl ⟨1, n10, by rw [htk, if_pos c, if_neg (by rw [e]; exact n10)]⟩), hmod⟩
        obtain ⟨q1, q2, q3, q4, -⟩ := n1 k hk
        refine ⟨q1, q2, q3, q4, ?_⟩
        rw [j2 k hk]
        by_cases q : g k = g a
        · rw [if_pos q, q, hg]
        · rw [if_neg q]
      · generalize hlo : (if f b < f a then f b else f a) = lo at htk
        generalize hhi : (if f a < f b then f b else f a) = hi' at htk
        have hl : (lo = f a ∧ hi' = f b) ∨ (lo = f b ∧ hi' = f a) := by rw [← hlo, ← hhi]; exact part_min
        have hlo8 : lo < 8 ∧ f lo = lo := by
          rcases hl with ⟨w, -⟩ | ⟨w, -⟩
          · rw [w]; exact ⟨a1, a2⟩
          · rw [w]; exact ⟨b1, b2⟩
        have hhi8 : hi' < 8 ∧ f hi' = hi' := by
          rcases hl with ⟨-, w⟩ | ⟨-, w⟩
          · rw [w]; exact ⟨b1, b2⟩
          · rw [w]; exact ⟨a1, a2⟩
        have hne : ¬ lo = hi' := by rcases hl with ⟨w, w'⟩ | ⟨w, w'⟩ <;> omega
        have hno : ¬ Ap M L i f lo hi' := by
          rcases hl with ⟨w, w'⟩ | ⟨w, w'⟩
          · rw [w, w']; exact d
          · rw [w, w']; exact fun q => d q.symm
        have htk' : tX1_takes Z (nI a) (nI b) s = (1, tX1_joinNames Z (nI lo) (nI hi')) := by
          rw [htk, if_neg c, if_neg (fun w => d (hart.mp w)), if_neg (by rw [e]; exact n10)]
        have hbb : ¬ zB Z hi' hi' := fun w => hs hi' ((hA hi' hi' hhi8.1 hhi8.1 hhi8.2 hhi8.2).mp w)
        obtain ⟨x1, x2, x3, x4⟩ := joinX Z hlo8.1 hhi8.1 hne 8 0 Z rfl hz hbb
        have hfix : ∀ p, (if f p = hi' then lo else f p) = p → f p = p ∧ ¬ p = hi' := fun p hp => by
          by_cases q : f p = hi'
          · rw [if_pos q] at hp
            exfalso
            rw [← hp, hlo8.2] at q
            exact hne q
          · rw [if_neg q] at hp
            exact ⟨hp, fun w => q (hp.trans w)⟩
        refine ⟨tX1_joinNames Z (nI lo) (nI hi'), _, fun k => if f k = hi' then lo else f k, fun k => if g k = g a then g b else g k, L, hr_keep hH (W' := tX8_join (up W 0 0 33 (W.1 0 0 33)) (nI a) (nI b)) ⟨fun k hk => ?_, fun x y hx hy => part_join n2 ha hb hl x y hx hy⟩ hWj x1 j33 (fun p q hp hq hfp hfq => ?_) (fun p w => ?_) x2, hcl _ (Or.inl ⟨1, n10, htk'⟩), hmod⟩
        · obtain ⟨q1, q2, q3, q4, -⟩ := n1 k hk
          refine ⟨?_, ?_, ?_, ?_, j2 k hk⟩
          · dsimp only; split
            · exact hlo8.1
            · exact q1
          · dsimp only
            by_cases q : f k = hi'
            · rw [if_pos q, hlo8.2, if_neg hne]
            · rw [if_neg q, q2, if_neg q]
          · dsimp only; split
            · exact b3
            · exact q3
          · show (LX1_joinNames_2 Z (nI lo) (nI hi') 8 0 Z).1 9 1 k = nI (if f k = hi' then lo else f k)
            rw [x3 k hk, q4]
            by_cases q : f k = hi'
            · rw [if_pos ⟨Nat.zero_le _, by rw [q]⟩, if_pos q]
            · rw [if_neg (fun w => q ((nI_eq (by omega) (by omega)).mp w.2)), if_neg q]
        · obtain ⟨fp, np⟩ := hfix p hfp
          obtain ⟨fq, nq⟩ := hfix q hfq
          rw [hskip, ap_join hne hno hs np nq, ← hA p q hp hq fp fq, ← hA hi' q hhi8.1 hq hhi8.2 fq, ← hA hi' p hhi8.1 hp hhi8.2 fp]
          refine (x4 p q hp hq).trans ?_
          simp only [Nat.zero_le, true_and]
        · have w := (hskip _ p p).mp w
          by_cases np : p = hi'
          · obtain ⟨j, -, -, -, w4⟩ := w
            have w5 : (if f (M.1 0 13 j).toNatClampNeg = hi' then lo else f (M.1 0 13 j).toNatClampNeg) = hi' := by
              rcases w4 with ⟨w4, -⟩ | ⟨w4, -⟩
              · exact w4.trans np
              · exact w4.trans np
            by_cases q : f (M.1 0 13 j).toNatClampNeg = hi'
            · rw [if_pos q] at w5; exact hne w5
            · rw [if_neg q] at w5; exact q w5
          · rcases (ap_join hne hno hs np np).mp w with w | ⟨w, w'⟩ | ⟨w, w'⟩
            · exact hs p w
            · rw [w] at w'; exact hno w'.symm
            · rw [w] at w'; exact hno w'.symm
