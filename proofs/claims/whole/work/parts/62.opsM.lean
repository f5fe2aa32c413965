/-! ===== a drawn year ===== -/
theorem and64 : ∀ n, n < 64 → ∀ m, m < 64 → (nI n &&& nI m) = nI (n &&& m) ∧ (n &&& m) < 64 := by decide +kernel
def zpc (n : Nat) : Nat → Nat → Nat
  | 0, _ => 0
  | k + 1, i => (if n.testBit i = true then 1 else 0) + zpc n k (i + 1)
theorem zpc64 : ∀ n, n < 64 → nI (zpc n 6 0) = tJ6_bitCount_0f7a4 S0X (nI n) := by decide +kernel
theorem countAf_eq {S M : St} {o : Nat} (h : OwnRel (S.1 o) (M.1 0 0) (M.1 0)) : tX2_countAfloat S o = tX8_bitsOf M ((M.1 0 0 1) &&& (M.1 0 0 0)) := by
  obtain ⟨n0, hn0, e0, t0⟩ := h.1
  obtain ⟨n1, hn1, e1, t1⟩ := h.2.1
  obtain ⟨e2, hl⟩ := and64 n1 hn1 n0 hn0
  rw [e0, e1, e2, ← cnt64 _ hl S M]
  have hb : ∀ k, k < 6 → ((n1 &&& n0).testBit k = true ↔ isAf S o (nI k)) := fun k hk => by
    rw [Nat.testBit_and, Bool.and_eq_true, t0 k hk, t1 k hk]
    unfold isAf
    rw [isAt_nI hk, nI_clamp (by omega)]
    exact ⟨fun q => q.1, fun q => ⟨q, q.1⟩⟩
  have hL : ∀ (k i c : Nat), i + k = 6 → LX2_countAfloat_4 S o k i (nI c) = nI (c + zpc (n1 &&& n0) k i) := by
    intro k
    induction k with
    | zero => intro i c _; rw [LX2_countAfloat_4]; rfl
    | succ k ih =>
      intro i c hi
      rw [LX2_countAfloat_4, zpc]
      by_cases q : isAf S o (nI i)
      · rw [if_pos q, if_pos ((hb i (by omega)).mpr q), nI_1, ih _ _ (by omega), Nat.add_assoc]
      · rw [if_neg q, if_neg (fun w => q ((hb i (by omega)).mp w)), ih _ _ (by omega), Nat.zero_add]
  have h6 := hL 6 0 0 rfl
  rw [Nat.zero_add, zpc64 _ hl] at h6
  exact h6
theorem drawn_eq {S M : St} {o : Nat} (h : OwnRel (S.1 o) (M.1 0 0) (M.1 0)) {q : Nat} (hq : q < 8) (p z : Int32) : ∃ a, a < 6 ∧ tX2_kindDrawn S o (nI q) p (irm z 100) = zk a ∧ tX8_actBy M (nI q) p z = nI a := by
  unfold tX2_kindDrawn tX8_actBy
  have d : ∀ a b : Nat, a < 8 → b < 8 → a ≠ b → ¬ nI a = nI b := fun a b ha hb hab w => hab ((nI_eq (by omega) (by omega)).mp w)
  have l3 : ∀ a : Nat, a < 3 → ¬ (3 : Int32) ≤ nI a := fun a ha => nI_ge (b := 3) ha (by decide)
  have g3 : ∀ a : Nat, 3 ≤ a → a < 8 → (3 : Int32) ≤ nI a := fun a ha hb => nI_le (a := 3) ha (by omega)
  by_cases q0 : q = 0
  · subst q0; exact ⟨0, by decide, if_pos rfl, if_pos rfl⟩
  rw [if_neg (show ¬ nI q = (0 : Int32) from d q 0 hq (by decide) q0), if_neg (show ¬ nI q = (0 : Int32) from d q 0 hq (by decide) q0)]
  by_cases q1 : q = 1
  · subst q1; exact ⟨1, by decide, if_pos rfl, if_neg (l3 1 (by decide))⟩
  rw [if_neg (show ¬ nI q = (1 : Int32) from d q 1 hq (by decide) q1)]
  by_cases q2 : q = 2
  · subst q2; exact ⟨1, by decide, if_pos rfl, if_neg (l3 2 (by decide))⟩
  rw [if_neg (show ¬ nI q = (2 : Int32) from d q 2 hq (by decide) q2), if_pos (g3 q (by omega) hq)]
  by_cases q3 : q = 3
  · subst q3; exact ⟨2, by decide, if_pos rfl, if_pos rfl⟩
  rw [if_neg (show ¬ nI q = (3 : Int32) from d q 3 hq (by decide) q3), if_neg (show ¬ nI q = (3 : Int32) from d q 3 hq (by decide) q3)]
  by_cases q4 : q = 4
  · subst q4; exact ⟨5, by decide, if_pos rfl, if_pos rfl⟩
  rw [if_neg (show ¬ nI q = (4 : Int32) from d q 4 hq (by decide) q4), if_neg (show ¬ nI q = (4 : Int32) from d q 4 hq (by decide) q4)]
  simp only [mSh_iff h]
  by_cases c : isAt S o p
  · rw [if_pos c, if_pos c]
    obtain ⟨k, hk, rfl, e⟩ := plc_k c.1
    unfold tX8_risk
    rw [e, risk_eq h hk, (h.2.2.1 k hk).2.2.2.1]
    by_cases c2 : tX8_riskWith M (nI k) (S.1 o k 5) ≤ irm z 100
    · rw [if_pos c2, if_pos c2]; exact ⟨3, by decide, rfl, rfl⟩
    · rw [if_neg c2, if_neg c2]; exact ⟨4, by decide, rfl, rfl⟩
  · rw [if_neg c, if_neg c]; exact ⟨3, by decide, rfl, rfl⟩
def YR (S M Z W : St) : Prop := OwnRel (Z.1 1) (W.1 0 0) (W.1 0) ∧ OwnOk (Z.1 1) ∧ (∀ r, r ≠ 1 → Z.1 r = S.1 r) ∧ FR (tX8_keepNow M) W
theorem FR.act {Z W V : St} (h : FR Z W) (g : MFr W V) : FR Z V := ⟨fun b b0 b2 b5 b6 b19 b20 b21 => by rw [g.1 b b0 b2 b5 b6, h.1 b b0 b2 b5 b6 b19 b20 b21], fun j hj => by
  rw [g.2 j (by omega) (by omega) (by omega) (by omega) (by omega) (by omega) (by omega) (by omega) (by omega), h.2 j hj]⟩
theorem year_act {S M Z W : St} (h : YR S M Z W) {a : Nat} (ha : a < 6) {p n : Int32} (h0 : a = 0 → wi n 0 2) (h1 : a = 1 → wi n 0 9) :
    YR S M (if tX2_reasonAgainst Z 1 (zk a) p n = 0 then tX2_act Z 1 (zk a) p n else Z) (if tX8_whyNot W (nI a) p n = 0 then tX8_happen W (nI a) p n else W) := by
  obtain ⟨hO, hK, hS, hF⟩ := h
  rw [← why_eq hO hK ha p n h0]
  by_cases c : tX2_reasonAgainst Z 1 (zk a) p n = 0
  · rw [if_pos c, if_pos c]
    obtain ⟨q1, q2, q3, q4, -⟩ := act_eq hO hK ha h0 h1 c
    exact ⟨q1, q2, fun r hr => by rw [q3 r hr, hS r hr], hF.act q4⟩
  · rw [if_neg c, if_neg c]
    exact ⟨hO, hK, hS, hF⟩
theorem zk105 {a : Nat} (ha : a < 6) : zk a = 105 ↔ a = 0 := by
  rcases (by omega : a = 0 ∨ a = 1 ∨ a = 2 ∨ a = 3 ∨ a = 4 ∨ a = 5) with rfl | rfl | rfl | rfl | rfl | rfl <;> decide
theorem nI00 {a : Nat} (ha : a < 6) : nI a = 0 ↔ a = 0 := nI_eq (b := 0) (by omega) (by decide)
theorem yrI {j : Nat} (hj : j ≤ 65536) : irm ((75 * nI j) + 74) 65537 = nI ((75 * j + 74) % 65537) := by
  rw [show (75 : Int32) * nI j = nI (75 * j) from pk_mul 75 j, show (74 : Int32) = nI 74 from rfl, nI_add]
  exact irm_nI (d := 65537) (by omega) (by decide) (by decide)
theorem year_loop {S M : St} (h : Rel S M) (p1 p2 p3 : Int32) (hp : wi p3 0 2) : ∀ (k i j : Nat) (Z W : St), j ≤ 65536 → YR S M Z W → Ans (LX7_year_50 S p1 p2 p3 k i (nI j) Z) (LX8_year_53 M p1 p2 p3 k i (nI j) W) := by
  intro k
  induction k with
  | zero =>
    intro i j Z W hj hY
    obtain ⟨hO, hK, hS, hF⟩ := hY
    rw [LX7_year_50, LX8_year_53]
    simp only [bnd_def]
    have tb : ∀ p, (tX8_back W p).1 = p ∧ Rel Z (tX8_back W p).2 := fun p => by
      obtain ⟨b1, b2⟩ := back_val W p
      exact ⟨b1, h.mb (fun r r1 _ _ => hS r r1) (mb_back (keep_val M) (hF.1 28 (by decide) (by decide) (by decide) (by decide) (by decide) (by decide) (by decide)) hF.1 hF.2 b2)⟩
    have hAf := countAf_eq hO
    obtain ⟨-, -, -, -, -, -, -, s11, s12⟩ := hO
    rcases w02 hp with rfl | rfl | rfl
    · simp only [if_true]; exact Ans.mk (by rw [(tb _).1, s11]) (tb _).2
    · simp only [zneq, if_true, if_false]; exact Ans.mk (by rw [(tb _).1, s12]) (tb _).2
    · simp only [zneq, if_false]; exact Ans.mk (by rw [(tb _).1, hAf]) (tb _).2
  | succ k ih =>
    intro i j Z W hj hY
    rw [LX7_year_50, LX8_year_53, yrI hj, yrE hj]
    have hm : (75 * j + 74) % 65537 ≤ 65536 := by omega
    generalize (75 * j + 74) % 65537 = m at hm ⊢
    have e6 : nI m / 6 = nI (m / 6) := pk_div (d := 6) (by omega) (by decide) (by decide)
    have e48 : nI m / 48 = nI (m / 48) := pk_div (d := 48) (by omega) (by decide) (by decide)
    have e68 : irm (nI (m / 6)) 8 = nI (m / 6 % 8) := irm_nI (d := 8) (by omega) (by decide) (by decide)
    have r3 : irm (nI (m / 48)) 3 = nI (m / 48 % 3) := irm_nI (d := 3) (by omega) (by decide) (by decide)
    have r10 : irm (nI (m / 48)) 10 = nI (m / 48 % 10) := irm_nI (d := 10) (by omega) (by decide) (by decide)
    unfold tX2_actAsDrawn
    rw [e6, e48, e68, r3, r10]
    obtain ⟨a, ha, k1, k2⟩ := drawn_eq (S := Z) (M := W) (o := 1) hY.1 (q := m / 6 % 8) (by omega) (irm (nI m) 6) (nI (m / 48))
    rw [k1, k2]
    simp only [bnd_def]
    by_cases a0 : a = 0
    · rw [if_pos ((zk105 ha).mpr a0), if_pos ((nI00 ha).mpr a0)]
      have hA := year_act hY ha (p := irm (nI m) 6) (n := nI (m / 48 % 3)) (fun _ => ⟨nI_pos' (by omega), nI_le (b := 2) (by omega) (by decide)⟩) (fun q => absurd q (by omega))
      have hh := ih (i + 1) m _ _ hm hA
      by_cases c : tX8_whyNot W (nI a) (irm (nI m) 6) (nI (m / 48 % 3)) = 0
      · rw [if_pos c] at hh ⊢; exact hh
      · rw [if_neg c] at hh ⊢; exact hh
    · rw [if_neg (fun q => a0 ((zk105 ha).mp q)), if_neg (fun q => a0 ((nI00 ha).mp q))]
      have hA := year_act hY ha (p := irm (nI m) 6) (n := nI (m / 48 % 10)) (fun q => absurd q a0) (fun _ => ⟨nI_pos' (by omega), nI_le (b := 9) (by omega) (by decide)⟩)
      have hh := ih (i + 1) m _ _ hm hA
      by_cases c : tX8_whyNot W (nI a) (irm (nI m) 6) (nI (m / 48 % 10)) = 0
      · rw [if_pos c] at hh ⊢; exact hh
      · rw [if_neg c] at hh ⊢; exact hh
theorem E_year {S M : St} (h : Rel S M) (p1 p2 p3 : Int32) : Ans (tX7_year S p1 p2 p3) (tX8_year M p1 p2 p3) := by
  unfold tX7_year tX8_year
  simp only [wj9999, wj1_99, wj2, bnd_def]
  by_cases c1 : wi p1 0 9999
  rotate_left
  · simp only [if_neg c1]; exact Ans.same h
  by_cases c2 : wi p2 1 99
  rotate_left
  · simp only [if_pos c1, if_neg c2]; exact Ans.same h
  by_cases c3 : wi p3 0 2
  rotate_left
  · simp only [if_pos c1, if_pos c2, if_neg c3]; exact Ans.same h
  rw [if_pos c1, if_pos c2, if_pos c3, if_pos c1, if_pos c2, if_pos c3]
  obtain ⟨j, hj, rfl⟩ := wi_kk (n := 9999) (by decide) c1
  refine year_loop h _ _ _ c3 _ _ j _ _ (by omega) ?_
  have hk := keep_val M
  have hZ := c2_val S (o := 1) (o2 := 0) (by decide) 6 0 S rfl
  generalize hC : tX2_copyFrom S 1 0 = C
  have hC' : LX2_copyFrom_2 S 1 0 6 0 S = C := hC
  rw [hC'] at hZ
  obtain ⟨a1, a2, a3, a4⟩ := hZ
  have hb : ∀ b, b ≠ 0 → (tX8_beginCount (tX8_keepNow M)).1 0 b = (tX8_keepNow M).1 0 b := fun b b0 => by
    unfold tX8_beginCount
    rw [up_row_ne _ _ b0, up_row_ne _ _ b0, up_row_ne _ _ b0, up_row_ne _ _ b0]
  have h0 : ∀ j, j < 23 → (tX8_beginCount (tX8_keepNow M)).1 0 0 j = (tX8_keepNow M).1 0 0 j := fun j hj => by
    unfold tX8_beginCount
    simp [up_val, show ¬ j = 23 by omega, show ¬ j = 24 by omega, show ¬ j = 25 by omega, show ¬ j = 26 by omega]
  refine ⟨?_, ?_, a1, ⟨fun b b0 _ _ _ _ _ _ => hb b b0, fun j hj => h0 j (by omega)⟩⟩
  · exact h.own.cg (fun k hk j hj => by rw [a3 k hk j hj, if_pos (by omega)]) (fun k hk j hj => by rw [a4 k hk j hj, if_pos (by omega)]) a2 (fun j hj => by rw [h0 j (by omega), hk.1 0 (by decide)]) (fun j hj => by rw [h0 _ (by omega), hk.1 0 (by decide)]) (fun i hi k _ => by rw [hb _ (by omega), hk.1 _ (by omega)]) (fun k _ => by rw [hb _ (by decide), hk.1 _ (by decide)])
  · exact h.ok.cg (fun k hk j hj => by rw [a3 k hk j hj, if_pos (by omega)]) (fun k hk j hj => by rw [a4 k hk j hj, if_pos (by omega)]) a2
