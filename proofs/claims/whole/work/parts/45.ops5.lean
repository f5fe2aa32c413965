theorem E_share {S M : St} (h : Rel S M) (p1 p2 : Int32) : tX7_share S p1 p2 = tX8_share M p1 p2 := by
  unfold tX7_share tX8_share
  have hO := h.own
  simp only [mSh_iff hO, wj1_9]
  by_cases c1 : isAt S 0 p1
  rotate_left
  · simp only [if_neg c1]
  by_cases c2 : wi p2 1 9
  rotate_left
  · simp only [if_pos c1, if_neg c2]
  simp only [if_pos c1, if_pos c2]
  obtain ⟨k, hk, rfl, e⟩ := plc_k c1.1
  have hL : ∀ f i : Nat, i + f = 11 → LX8_share_32 M (nI k) p2 i (LX7_share_37 S (nI k) p2 f i) = LX8_share_32 M (nI k) p2 11 (-6) := by
    intro f
    induction f with
    | zero =>
      intro i hi
      obtain rfl : i = 11 := by omega
      rw [LX7_share_37]
    | succ f ih =>
      intro i hi
      rw [← ih (i + 1) (by omega), LX7_share_37, LX8_share_32, e, deep_eq hO hk, sums_eq hO hk]
      split
      · rfl
      · rfl
  have := hL 11 0 rfl
  rw [← this, LX8_share_32]
theorem irm_pos {a b : Nat} (ha : a < 2 ^ 31) (h0 : 0 < b) (hb : b < 2 ^ 31) : irm (nI a) (nI b) = 0 ↔ irm (nI a) (nI b) ≤ 0 := by
  rw [irm_nI ha h0 hb]
  have hm : a % b < 2 ^ 31 := by have := Nat.mod_lt a h0; omega
  rw [show (0 : Int32) = nI 0 from rfl, nI_eq hm (by decide), nI_leI hm (by decide)]
  omega
theorem E_berth (S M : St) (p1 p2 p3 : Int32) : tX7_berth S p1 p2 p3 = tX8_berth M p1 p2 p3 := by
  unfold tX7_berth tX8_berth
  simp only [wj1_99, wj1_9, wj1]
  by_cases c1 : wi p1 1 99
  rotate_left
  · simp only [if_neg c1]
  by_cases c2 : wi p2 1 9
  rotate_left
  · simp only [if_pos c1, if_neg c2]
  simp only [if_pos c1, if_pos c2]
  have g1 : ∀ {x : Int32} {B : Int32}, wi x 1 B → ∃ j, 0 < j ∧ j < 2 ^ 31 ∧ x = nI j := by
    intro x B hx
    have q1 := hx.1
    rw [Int32.le_iff_toInt_le, ti1] at q1
    obtain ⟨j, hj, rfl⟩ := tiN0 (x := x) (by omega)
    rw [nI_toInt hj] at q1
    exact ⟨j, by omega, hj, rfl⟩
  obtain ⟨a, ha0, ha, rfl⟩ := g1 c1
  obtain ⟨b, hb0, hb, rfl⟩ := g1 c2
  have hb9 : b ≤ 9 := (nI_leI (b := 9) hb (by decide)).mp c2.2
  rw [show (1 : Int32) = nI 1 from rfl, pk_sub (by omega), nI_add]
  have hi := irm_pos (a := a - 1) (b := b + 1) (by omega) (by omega) (by omega)
  simp only [hi]
theorem bitv : ∀ n, n < 64 → ∀ k, k < 6 → (ishrF (nI n) (nI k)) &&& 1 = if n.testBit k = true then 1 else 0 := by decide +kernel
theorem sidxM : ∀ k, k < 6 → Int32.toNatClampNeg (((3 * nI k) + 2) - 2) = 3 * k + 0 ∧ Int32.toNatClampNeg (((3 * nI k) + 3) - 2) = 3 * k + 1 ∧ Int32.toNatClampNeg (((3 * nI k) + 4) - 2) = 3 * k + 2 := by decide +kernel
theorem toldOf_eq {S M : St} (h : Rel S M) {x : Int32} (p : Int32) (hc : isAt S 0 x) : tX7_toldOf S 0 x.toNatClampNeg p = tX8_toldOf M x p := by
  have hO := h.own
  unfold tX7_toldOf tX8_toldOf
  rw [if_pos ((mSh_iff hO x).mpr hc)]
  obtain ⟨hp, hb⟩ := hc
  obtain ⟨k, hk, rfl, e⟩ := plc_k hp
  rw [e] at hb ⊢
  obtain ⟨r2, r3, r4, r5, r6⟩ := hO.2.2.1 k hk
  obtain ⟨m2, m3, m4⟩ := sidxM k hk
  by_cases c0 : p = 0
  · simp only [if_pos c0]; exact r2.symm
  by_cases c1 : p = 1
  · simp only [if_neg c0, if_pos c1]; exact r3.symm
  by_cases c2 : p = 2
  · subst c2
    simp only [if_neg c0, if_neg c1, if_true]
    rw [m2, r6 0 (by decide)]
    exact sumAt_nI S 0 k (e := 0) (by decide)
  by_cases c3 : p = 3
  · subst c3
    simp only [if_neg c0, if_neg c1, if_neg c2, if_true]
    rw [m3, r6 1 (by decide)]
    exact sumAt_nI S 0 k (e := 1) (by decide)
  by_cases c4 : p = 4
  · subst c4
    simp only [if_neg c0, if_neg c1, if_neg c2, if_neg c3, if_true]
    rw [m4, r6 2 (by decide)]
    exact sumAt_nI S 0 k (e := 2) (by decide)
  by_cases c5 : p = 5
  · simp only [if_neg c0, if_neg c1, if_neg c2, if_neg c3, if_neg c4, if_pos c5]; exact r5.symm
  by_cases c6 : p = 6
  · simp only [if_neg c0, if_neg c1, if_neg c2, if_neg c3, if_neg c4, if_neg c5, if_pos c6]; exact r4.symm
  by_cases c7 : p = 7
  · simp only [if_neg c0, if_neg c1, if_neg c2, if_neg c3, if_neg c4, if_neg c5, if_neg c6, if_pos c7, b01_0]
    obtain ⟨n, hn, en, ht⟩ := hO.2.1
    rw [en, bitv n hn k hk]
    have := ht k hk
    by_cases c8 : S.1 0 k 1 = 0
    · rw [if_pos c8, if_neg (fun q => ((this.mp q).2 c8))]
    · rw [if_neg c8, if_pos (this.mpr ⟨hb, c8⟩)]
  · simp only [if_neg c0, if_neg c1, if_neg c2, if_neg c3, if_neg c4, if_neg c5, if_neg c6, if_neg c7]
theorem E_told {S M : St} (h : Rel S M) (p1 : Int32) : tX7_told S p1 = tX8_told M p1 := by
  unfold tX7_told tX8_told
  have hO := h.own
  obtain ⟨-, -, -, s7, s8, s9, s10, s11, s12⟩ := id hO
  simp only [wj10_69, Nat.add_zero]
  by_cases c1 : wi p1 10 69
  · have n1 : ¬ p1 < 10 := Int32.not_lt.mpr c1.1
    rw [if_pos c1, if_neg n1]
    by_cases c2 : isAt S 0 ((p1 / 10) - 1)
    · rw [if_pos c2]; exact toldOf_eq h _ c2
    · rw [if_neg c2]
      unfold tX8_toldOf
      rw [if_neg (fun q => c2 ((mSh_iff hO _).mp q))]
  · rw [if_neg c1]
    by_cases c2 : p1 < 10
    · rw [if_pos c2]
      rw [h.pad.1, h.tal.1, s7, s8, s9, s10, s11, s12, bitsThere_eq hO.1]
    · rw [if_neg c2]
      have e10 : (10 : Int32).toInt = 10 := by decide
      have e69 : (69 : Int32).toInt = 69 := by decide
      have q1 : ¬ p1 ≤ 69 := fun q => c1 ⟨Int32.not_lt.mp c2, q⟩
      rw [Int32.le_iff_toInt_le, e69] at q1
      obtain ⟨n, hn, rfl⟩ := tiN0 (x := p1) (by omega)
      rw [nI_toInt hn] at q1
      have ne : ∀ d : Nat, d < 10 → ¬ nI n = nI d := fun d hd q => by
        have := (nI_eq hn (by omega)).mp q
        omega
      rw [if_neg (show ¬ nI n = (0 : Int32) from ne 0 (by decide)), if_neg (show ¬ nI n = (1 : Int32) from ne 1 (by decide)), if_neg (show ¬ nI n = (2 : Int32) from ne 2 (by decide)), if_neg (show ¬ nI n = (3 : Int32) from ne 3 (by decide)), if_neg (show ¬ nI n = (4 : Int32) from ne 4 (by decide)), if_neg (show ¬ nI n = (5 : Int32) from ne 5 (by decide)), if_neg (show ¬ nI n = (6 : Int32) from ne 6 (by decide)), if_neg (show ¬ nI n = (7 : Int32) from ne 7 (by decide)), if_neg (show ¬ nI n = (8 : Int32) from ne 8 (by decide))]
      rw [if_neg]
      rintro ⟨⟨-, hp⟩, -⟩
      have e1 : nI n / 10 = nI (n / 10) := pk_div (d := 10) hn (by decide) (by decide)
      rw [e1, show (1 : Int32) = nI 1 from rfl, pk_sub (by omega)] at hp
      have := (nI_ltI (b := 6) (by omega) (by decide)).mp hp
      omega
theorem E_forget {S M : St} (h : Rel S M) : Ans (tX7_forget S) (tX8_forget M) := by
  unfold tX7_forget tX8_forget
  obtain ⟨hO, hK, hP, hT, hI0, hI1⟩ := h
  simp only [Nat.add_zero]
  refine ⟨hT.1.symm, ?_, ?_, ?_, ?_, hI0.cong (up_r _ _ (by decide)) (up_r _ _ (by decide)) (up_r _ _ (by decide)) (up_row_ne _ _ (by decide)) (up_row_ne _ _ (by decide)), hI1.cong (up_r _ _ (by decide)) (up_r _ _ (by decide)) (up_r _ _ (by decide)) (up_row_ne _ _ (by decide)) (up_row_ne _ _ (by decide))⟩
  · refine own_sc hO (fun k j hk => by rw [up_r _ _ (by decide)]) (fun i j hi _ => by simp [up_val, show ¬ i = 0 by omega]) (by simp [up_val]) ?_
    rw [up_r S _ (show (0 : Nat) ≠ 6 by decide)]
    simp [up_val]
    exact hO.2.2.2
  · rw [up_r _ _ (by decide)]; exact hK
  · exact hP.cong (up_r _ _ (by decide)) (by simp [up_val]) (up_row_ne _ _ (by decide))
  · refine ⟨by simp [up_val], by simp [up_val]; decide, fun e he => ?_⟩
    simp only [up_val]
    simpa using hT.2.2 e he
