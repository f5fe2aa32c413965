/-! ===== the calls, one by one: the same answer, related states ===== -/
theorem up_val (S : St) (r i j : Nat) (v : Int32) (a b c : Nat) : (up S r i j v).1 a b c = if a = r ∧ b = i ∧ c = j then v else S.1 a b c := by
  unfold up upd
  by_cases h1 : a = r ∧ b = i
  · by_cases h2 : c = j
    · simp [h1, h2]
    · simp [h1, h2]
  · have h3 : ¬ (a = r ∧ b = i ∧ c = j) := fun q => h1 ⟨q.1, q.2.1⟩
    simp [h1, h3]
def Ans {α : Type} (r1 r2 : α × St) : Prop := r1.1 = r2.1 ∧ Rel r1.2 r2.2
theorem Ans.same {α : Type} {a : α} {S M : St} (h : Rel S M) : Ans (a, S) (a, M) := ⟨rfl, h⟩
theorem Ans.mk {α : Type} {a b : α} {S M : St} (e : a = b) (h : Rel S M) : Ans (a, S) (b, M) := ⟨e, h⟩
theorem E_sell {S M : St} (h : Rel S M) (p1 : Int32) : Ans (tX7_sell S p1) (tX8_sell M p1) := by
  unfold tX7_sell tX8_sell
  have hO := h.own
  by_cases hc : isAt S 0 p1
  · rw [if_pos hc, if_pos ((mSh_iff hO p1).mpr hc)]
    simp only [bnd_def]
    obtain ⟨k, hk, rfl, e⟩ := plc_k hc.1
    rw [e]
    have h10 : ∀ j, ¬ 10 + j = k := by omega
    have h6 : ¬ 6 = k := by omega
    have hN : OwnRel ((up S 0 k 0 0).1 0) ((up (up M 0 0 0 ((M.1 0 0 0) &&& ((ishlF 1 (nI k)) ^^^ (-1)))) 0 0 1 (((up M 0 0 0 ((M.1 0 0 0) &&& ((ishlF 1 (nI k)) ^^^ (-1)))).1 0 0 1) &&& ((ishlF 1 (nI k)) ^^^ (-1)))).1 0 0) ((up (up M 0 0 0 ((M.1 0 0 0) &&& ((ishlF 1 (nI k)) ^^^ (-1)))) 0 0 1 (((up M 0 0 0 ((M.1 0 0 0) &&& ((ishlF 1 (nI k)) ^^^ (-1)))).1 0 0 1) &&& ((ishlF 1 (nI k)) ^^^ (-1)))).1 0) := by
      obtain ⟨b0, b1, hr, hs⟩ := hO
      refine ⟨?_, ?_, fun j hj => ?_, ?_⟩
      · simp only [up_val]
        exact b0.clr hk (fun j hj => by by_cases hjk : j = k <;> simp [hjk])
      · simp only [up_val]
        exact b1.clr hk (fun j hj => by by_cases hjk : j = k <;> simp [hjk])
      · simp [up_val, h10]
        simpa using hr j hj
      · simp [up_val, h6]
        simpa using hs
    refine ⟨?_, h.ofOwn hN ?_ (fun r h0 _ _ _ => up_r _ _ h0) ?_ ?_ ?_ ?_ ?_ ?_ ?_ ?_⟩
    · exact countThere_eq hN.1
    · obtain ⟨k1, k2⟩ := h.ok
      refine ⟨fun j hj => ?_, ?_⟩
      · simp [up_val, h10]
        simpa using k1 j hj
      · simp [up_val, h6]
        simpa using k2
    all_goals first | (funext j; simp [up_val]; done) | simp [up_val]
  · rw [if_neg hc, if_neg (fun q => hc ((mSh_iff hO p1).mp q))]
    exact Ans.same h
theorem sidx : ∀ k, k < 6 → Int32.toNatClampNeg ((3 * nI k) + 0) = 3 * k + 0 ∧ Int32.toNatClampNeg ((3 * nI k) + 1) = 3 * k + 1 ∧ Int32.toNatClampNeg ((3 * nI k) + 2) = 3 * k + 2 ∧ Int32.toNatClampNeg (3 * nI k) = 3 * k + 0 := by decide +kernel
theorem sidxE : ∀ k, k < 6 → ∀ e, e < 3 → Int32.toNatClampNeg ((3 * nI k) + nI e) = 3 * k + e := by decide +kernel
theorem launch_val (S : St) (o k : Nat) (p2 p3 p4 : Int32) (hk : k < 6) (i j : Nat) : (tX4_launch S o k p2 p3 p4).1 o i j = if i = k ∧ j < 6 then (if j = 0 then 1 else if j = 1 then 1 else if j = 2 then p2 else if j = 3 then p3 else if j = 4 then p4 else 0) else if i = 10 + k ∧ j < 3 then 0 else S.1 o i j := by
  unfold tX4_launch
  simp only [bnd_def, up_val]
  have h10 : ¬ k = 10 + k := by omega
  by_cases h1 : i = k
  · subst h1
    simp [h10]
    by_cases j0 : j = 0 <;> by_cases j1 : j = 1 <;> by_cases j2 : j = 2 <;> by_cases j3 : j = 3 <;> by_cases j4 : j = 4 <;> by_cases j5 : j = 5 <;> simp_all <;> omega
  · simp [h1]
    by_cases h2 : i = 10 + k
    · simp [h2]
      by_cases j0 : j = 0 <;> by_cases j1 : j = 1 <;> by_cases j2 : j = 2 <;> simp_all <;> omega
    · simp [h2]
theorem launch_fr (S : St) {o k r : Nat} (h : r ≠ o) (p2 p3 p4 : Int32) : (tX4_launch S o k p2 p3 p4).1 r = S.1 r := by
  unfold tX4_launch
  simp only [bnd_def, up_r _ _ h]
theorem wjp (x : Int32) : wj (Int32.toInt64 x) 0 5 ↔ plc x := (wjI 0 5 (by decide) (by decide)).trans (plc_wi x).symm
theorem wj1 (x : Int32) : wj (Int32.toInt64 x) 0 1 ↔ wi x 0 1 := wjI 0 1 (by decide) (by decide)
theorem wj2 (x : Int32) : wj (Int32.toInt64 x) 0 2 ↔ wi x 0 2 := wjI 0 2 (by decide) (by decide)
theorem wj3 (x : Int32) : wj (Int32.toInt64 x) 0 3 ↔ wi x 0 3 := wjI 0 3 (by decide) (by decide)
theorem wj4 (x : Int32) : wj (Int32.toInt64 x) 0 4 ↔ wi x 0 4 := wjI 0 4 (by decide) (by decide)
theorem wj6 (x : Int32) : wj (Int32.toInt64 x) 0 6 ↔ wi x 0 6 := wjI 0 6 (by decide) (by decide)
theorem wj7 (x : Int32) : wj (Int32.toInt64 x) 0 7 ↔ wi x 0 7 := wjI 0 7 (by decide) (by decide)
theorem wj9 (x : Int32) : wj (Int32.toInt64 x) 0 9 ↔ wi x 0 9 := wjI 0 9 (by decide) (by decide)
theorem wj20 (x : Int32) : wj (Int32.toInt64 x) 0 20 ↔ wi x 0 20 := wjI 0 20 (by decide) (by decide)
theorem wj40 (x : Int32) : wj (Int32.toInt64 x) 0 40 ↔ wi x 0 40 := wjI 0 40 (by decide) (by decide)
theorem wj54 (x : Int32) : wj (Int32.toInt64 x) 0 54 ↔ wi x 0 54 := wjI 0 54 (by decide) (by decide)
theorem wj99 (x : Int32) : wj (Int32.toInt64 x) 0 99 ↔ wi x 0 99 := wjI 0 99 (by decide) (by decide)
theorem wj100 (x : Int32) : wj (Int32.toInt64 x) 0 100 ↔ wi x 0 100 := wjI 0 100 (by decide) (by decide)
theorem wj999 (x : Int32) : wj (Int32.toInt64 x) 0 999999 ↔ wi x 0 999999 := wjI 0 999999 (by decide) (by decide)
theorem wj9999 (x : Int32) : wj (Int32.toInt64 x) 0 9999 ↔ wi x 0 9999 := wjI 0 9999 (by decide) (by decide)
theorem wj1_9 (x : Int32) : wj (Int32.toInt64 x) 1 9 ↔ wi x 1 9 := wjI 1 9 (by decide) (by decide)
theorem wj1_20 (x : Int32) : wj (Int32.toInt64 x) 1 20 ↔ wi x 1 20 := wjI 1 20 (by decide) (by decide)
theorem wj1_99 (x : Int32) : wj (Int32.toInt64 x) 1 99 ↔ wi x 1 99 := wjI 1 99 (by decide) (by decide)
theorem wj33 (x : Int32) : wj (Int32.toInt64 x) 33 126 ↔ wi x 33 126 := wjI 33 126 (by decide) (by decide)
theorem wjm6 (x : Int32) : wj (Int32.toInt64 x) (-1) 6 ↔ wi x (-1) 6 := wjI (-1) 6 (by decide) (by decide)
theorem wj10_69 (x : Int32) : wj (Int32.toInt64 x) 10 69 ↔ wi x 10 69 := wjI 10 69 (by decide) (by decide)
theorem E_ship {S M : St} (h : Rel S M) (p1 p2 p3 p4 : Int32) : Ans (tX7_ship S p1 p2 p3 p4) (tX8_ship M p1 p2 p3 p4) := by
  unfold tX7_ship tX8_ship
  have hO := h.own
  simp only [wjp, wj40, wj99, wj1_20]
  by_cases c1 : plc p1
  rotate_left
  · simp only [if_neg c1]; exact Ans.same h
  by_cases c2 : wi p2 0 40
  rotate_left
  · simp only [if_pos c1, if_neg c2]; exact Ans.same h
  by_cases c3 : wi p3 0 99
  rotate_left
  · simp only [if_pos c1, if_pos c2, if_neg c3]; exact Ans.same h
  by_cases c4 : wi p4 1 20
  rotate_left
  · simp only [if_pos c1, if_pos c2, if_pos c3, if_neg c4]; exact Ans.same h
  simp only [if_pos c1, if_pos c2, if_pos c3, if_pos c4, bnd_def]
  obtain ⟨k, hk, rfl, e⟩ := plc_k c1
  obtain ⟨s0, s1, s2, -⟩ := sidx k hk
  rw [e, s0, s1, s2]
  generalize hM : up (up (up (up (up (up (up (up (up M 0 0 0 (M.1 0 0 0 ||| ishlF 1 (nI k))) 0 0 1 ((up M 0 0 0 (M.1 0 0 0 ||| ishlF 1 (nI k))).1 0 0 1 ||| ishlF 1 (nI k))) 0 2 k p2) 0 3 k p3) 0 4 k p4) 0 5 k 0) 0 6 (3 * k + 0) 0) 0 6 (3 * k + 1) 0) 0 6 (3 * k + 2) 0 = M'
  have hN : OwnRel ((tX4_launch S 0 k p2 p3 p4).1 0) (M'.1 0 0) (M'.1 0) := by
    obtain ⟨b0, b1, hr, hs⟩ := hO
    subst hM
    refine ⟨?_, ?_, fun j hj => ?_, ?_⟩
    · simp [up_val]
      refine b0.set hk (fun j hj => ?_)
      rw [launch_val _ _ _ _ _ _ hk]
      by_cases hjk : j = k
      · simp [hjk]
      · simp [hjk, show ¬ j = 10 + k by omega]
    · simp [up_val]
      refine b1.set hk (fun j hj => ?_)
      rw [launch_val _ _ _ _ _ _ hk, launch_val _ _ _ _ _ _ hk]
      by_cases hjk : j = k
      · simp [hjk]
      · simp [hjk, show ¬ j = 10 + k by omega]
    · simp only [launch_val _ _ _ _ _ _ hk]
      by_cases hjk : j = k
      · subst hjk
        simp [up_val, show ¬ 10 + j = j by omega]
        intro e he
        simp [he, show e = 0 ∨ e = 1 ∨ e = 2 by omega]
        omega
      · obtain ⟨r1, r2, r3, r4, r5⟩ := hr j hj
        have h3 : ∀ e, e < 3 → ¬ 3 * j + e = 3 * k ∧ ¬ 3 * j + e = 3 * k + 1 ∧ ¬ 3 * j + e = 3 * k + 2 := by omega
        simp [up_val, hjk, show ¬ j = 10 + k by omega, r1, r2, r3, r4]
        intro e he
        obtain ⟨q1, q2, q3⟩ := h3 e he
        simp [q1, q2, q3, show ¬ 10 + j = k by omega]
        exact r5 e he
    · simp only [launch_val _ _ _ _ _ _ hk]
      simp [up_val, show ¬ 6 = k by omega, show ¬ 6 = 10 + k by omega]
      simpa using hs
  refine ⟨countThere_eq hN.1, h.ofOwn hN ?_ (fun r h0 _ _ _ => launch_fr _ h0 _ _ _) ?_ ?_ ?_ ?_ ?_ ?_ ?_ ?_⟩
  · obtain ⟨k1, k2⟩ := h.ok
    refine ⟨fun j hj => ?_, ?_⟩
    · simp only [launch_val _ _ _ _ _ _ hk]
      by_cases hjk : j = k
      · subst hjk
        simp [show ¬ 10 + j = j by omega]
        exact ⟨c2, c3, by decide, fun e he => by simp [he]; decide⟩
      · simp [hjk, show ¬ j = 10 + k by omega, show ¬ 10 + j = k by omega]
        simpa using k1 j hj
    · simp only [launch_val _ _ _ _ _ _ hk]
      simp [show ¬ 6 = k by omega, show ¬ 6 = 10 + k by omega]
      simpa using k2
  all_goals subst hM
  all_goals first | (funext j; simp [up_val]; done) | simp [up_val]
