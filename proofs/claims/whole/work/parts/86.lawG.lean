/-! ===== THE LAW'S START ===== -/
theorem rel0 : Rel S0X S0M := by
  have k6 : ∀ k, k < 6 → ¬ k = 6 := fun k hk => by omega
  have k16 : ∀ k, k < 6 → ¬ 10 + k = 6 := fun k hk => by omega
  have w0 : wi 0 0 99 ∧ wi 0 0 40 ∧ wi 0 0 9 ∧ wi 0 0 7 := by decide
  refine ⟨⟨⟨0, by decide, rfl, fun k hk => ?_⟩, ⟨0, by decide, rfl, fun k hk => ?_⟩, fun k hk => ?_, rfl, rfl, rfl, rfl, rfl, rfl⟩, ⟨fun k hk => ?_, by decide, by decide, by decide⟩, ⟨rfl, by decide, fun j hj => rfl⟩, ⟨rfl, by decide, fun e he => ⟨rfl, rfl, ?_, w0.2.2.2, w0.2.2.2⟩⟩, ⟨rfl, fun h => absurd rfl h⟩, ⟨rfl, fun h => absurd rfl h⟩⟩
  · simp [S0X, k6 k hk]
  · simp [S0X, k6 k hk]
  · simp [S0X, S0M, k6 k hk, k16 k hk]
  · simp only [S0X, k6 k hk, k16 k hk, and_false, if_false]
    exact ⟨w0.2.1, w0.1, w0.2.2.1, fun e he => w0.1⟩
  · simp [S0X, S0M, b01]
theorem va_Pl {D : va_G} {cl : List vw_C} {ws w2 : va_W} {H : Heap} (h : va_P D cl (ws ++ w2) H) : va_P D cl ws H := fun k q hk => h k q (by rw [List.getElem?_append_left (List.getElem?_eq_some_iff.mp hk).1]; exact hk)
theorem va_Pr {D : va_G} {cl : List vw_C} {ws w2 : va_W} {H : Heap} (h : va_P D cl (ws ++ w2) H) : va_P D cl w2 H := fun k q hk => h (ws.length + k) q (by rw [List.getElem?_append_right (by omega), Nat.add_sub_cancel_left]; exact hk)
theorem va_Dr {A : Nat → Prop} {ws w2 : va_W} (h : va_D A (ws ++ w2)) : va_D A w2 := by
  have e : ∀ (k : Nat) (q : Nat × va_E), w2[k]? = some q → (ws ++ w2)[ws.length + k]? = some q := fun k q hk => by rw [List.getElem?_append_right (by omega), Nat.add_sub_cancel_left]; exact hk
  exact ⟨fun i j p q hp hq hpq => by have := h.1 _ _ p q (e i p hp) (e j q hq) hpq; omega, fun k q hk => h.2 _ q (e k q hk)⟩
/-- the last cell lies apart from the others -/
theorem va_Dx {A : Nat → Prop} {ws : va_W} {a : Nat} {x : va_E} (h : va_D A (ws ++ [(a, x)])) {k : Nat} {q : Nat × va_E} (hk : ws[k]? = some q) : ¬ q.1 = a := fun w => by
  have hlt : k < ws.length := (List.getElem?_eq_some_iff.mp hk).1
  have h1 : (ws ++ [(a, x)])[k]? = some q := by rw [List.getElem?_append_left hlt]; exact hk
  have h2 : (ws ++ [(a, x)])[ws.length]? = some (a, x) := by simp
  have := h.1 _ _ q (a, x) h1 h2 w
  omega
theorem law_arr {s : State} {args : Array Value} {ty : FieldType} (h : (Cond.arrayClass ty).before args s = true) (hp : ty = .int ∨ ty = .long ∨ ty = .boolean) : ∃ cA : ClassId, ArrOfT s cA ty ∧ va_RA s cA ty := by
  obtain ⟨cA, k, comp, h1, h2, h3⟩ := Cond.arrayClass_spec h
  refine ⟨cA, fun n z => ⟨fun k h => (by cases h), k, h2, comp, h3⟩, ?_⟩
  rcases hp with rfl | rfl | rfl <;> exact h1
theorem law_arq {s : State} {args : Array Value} {C : String} (h : (Cond.arrayOver (.object C)).before args s = true) : ∃ cA : ClassId, ArrOfT s cA (.object C) ∧ va_RA s cA (.object C) := by
  obtain ⟨comp, cA, k, h1, h2, h3, h4, h5⟩ := Cond.arrayOver_spec h
  exact ⟨cA, fun n z => ⟨fun k h => (by cases h), k, h3, comp, h4⟩, k, comp, h3, h4, h1, h5⟩
set_option maxHeartbeats 4000000 in
theorem law_KC {s : State} {b : Nat} (hts : ∀ w ∈ lw_tbl, w.before #[Value.ref b] s = true) : ∃ g0 : va_G × (Nat → ClassId), ∀ u : Nat → Nat → Nat, KC (u, g0) s := by
  have htA : ∀ w ∈ lw_all, w.before #[Value.ref b] s = true := fun w h => hts w (lw_all_tbl h)
  obtain ⟨c0, i0, k0⟩ := u_known (C := RX0) (T := TX0) (N := 3) (n := 3) htA inA0 (htA _ q242)
  obtain ⟨c1, i1, k1⟩ := u_known (C := RX1) (T := TX1) (N := 5) (n := 5) htA inA1 (htA _ q217)
  obtain ⟨c2, i2, k2⟩ := u_known (C := RX2) (T := TX2) (N := 7) (n := 7) htA inA2 (htA _ q66)
  obtain ⟨c3, i3, k3⟩ := u_known (C := RX3) (T := TX3) (N := 2) (n := 2) htA inA3 (htA _ q142)
  obtain ⟨c4, i4, k4⟩ := u_known (C := RX4) (T := TX4) (N := 7) (n := 7) htA inA4 (htA _ q73)
  obtain ⟨c5, i5, k5⟩ := u_known (C := RX5) (T := TX5) (N := 4) (n := 4) htA inA5 (htA _ q192)
  obtain ⟨c6, i6, k6⟩ := u_known (C := RX6) (T := TX6) (N := 7) (n := 7) htA inA6 (htA _ q157)
  obtain ⟨c7, i7, k7⟩ := u_known (C := RX7) (T := TX7) (N := 8) (n := 8) htA inA7 (htA _ q58)
  obtain ⟨c8, i8, k8⟩ := u_known (C := RX8) (T := TX8) (N := 39) (n := 39) htA inA8 (htA _ q671)
  obtain ⟨D, hD⟩ : ∃ D : va_G, ∀ (k : Nat) (q : vw_C), vwCl[k]? = some q → u_Kn s q.1 q.2.1 q.2.2 (D.1 k) (D.2 k) := by
    refine ⟨(fun k => if k = 0 then c0 else if k = 1 then c1 else if k = 2 then c2 else if k = 3 then c3 else if k = 4 then c4 else if k = 5 then c5 else if k = 6 then c6 else if k = 7 then c7 else c8, fun k => if k = 0 then i0 else if k = 1 then i1 else if k = 2 then i2 else if k = 3 then i3 else if k = 4 then i4 else if k = 5 then i5 else if k = 6 then i6 else if k = 7 then i7 else i8), ?_⟩
    intro k q hq
    match k, hq with
    | 0, hq => cases hq; exact k0
    | 1, hq => cases hq; exact k1
    | 2, hq => cases hq; exact k2
    | 3, hq => cases hq; exact k3
    | 4, hq => cases hq; exact k4
    | 5, hq => cases hq; exact k5
    | 6, hq => cases hq; exact k6
    | 7, hq => cases hq; exact k7
    | 8, hq => cases hq; exact k8
    | k + 9, hq => simp [vwCl] at hq
  obtain ⟨a0, r0, s0⟩ := law_arr (htA _ q112) (Or.inl rfl)
  obtain ⟨a1, r1, s1⟩ := law_arr (htA _ q288) (Or.inr (Or.inl rfl))
  obtain ⟨a2, r2, s2⟩ := law_arr (htA _ q215) (Or.inr (Or.inr rfl))
  have w3 : (Cond.arrayOver (.object "BelowWorth$Ship")).before #[Value.ref b] s = true := hts _ (List.mem_of_getElem? (i := 72) (by decide +kernel))
  have w4 : (Cond.arrayOver (.object "BelowWorth$Image")).before #[Value.ref b] s = true := hts _ (List.mem_of_getElem? (i := 241) (by decide +kernel))
  have w5 : (Cond.methodLinkNest "BelowWorth" 28 yX6_init "BelowWorth").before #[Value.ref b] s = true := hts _ (List.mem_of_getElem? (i := 158) (by decide +kernel))
  have w6 : (Cond.methodLinkNest "BelowWorth$Pad" 34 yX7_within "BelowWorth").before #[Value.ref b] s = true := hts _ (List.mem_of_getElem? (i := 378) (by decide +kernel))
  have w7 : (Cond.methodLinkNest "BelowWorth$Namings" 71 yX7_within "BelowWorth").before #[Value.ref b] s = true := hts _ (List.mem_of_getElem? (i := 597) (by decide +kernel))
  obtain ⟨a3, r3, s3⟩ := law_arq w3
  obtain ⟨a4, r4, s4⟩ := law_arq w4
  refine ⟨(D, fun t => if t = 0 then a0 else if t = 1 then a1 else if t = 2 then a2 else if t = 3 then a3 else a4), fun u => ⟨⟨⟨hD, fun k q hk => ?_⟩, va_Nw.of rfl w6, va_Nw.of rfl w7⟩, va_AO.of w3, va_AO.of w4, va_Nw.of rfl w5⟩⟩
  match k, hk with
  | 0, hk => cases hk; exact ⟨r0, s0⟩
  | 1, hk => cases hk; exact ⟨r1, s1⟩
  | 2, hk => cases hk; exact ⟨r2, s2⟩
  | 3, hk => cases hk; exact ⟨r3, s3⟩
  | 4, hk => cases hk; exact ⟨r4, s4⟩
  | k + 5, hk => simp [tyR] at hk
