/-! ===== the pad read: one sign after the other ===== -/
theorem wsub {x : Int32} {A b : Nat} (hA : A + b < 2 ^ 31) : wi (x - nI A) 0 (nI b) ↔ ∃ d, d ≤ b ∧ x = nI (A + d) := by
  constructor
  · intro h
    obtain ⟨d, hd, e⟩ := wi_kk (n := b) (by omega) h
    refine ⟨d, hd, ?_⟩
    have : x = (x - nI A) + nI A := (Int32.sub_add_cancel x (nI A)).symm
    rw [this, e, nI_add, Nat.add_comm]
  · rintro ⟨d, hd, rfl⟩
    rw [pk_sub (by omega), Nat.add_sub_cancel_left]
    exact ⟨nI_pos' (by omega), nI_le (by omega) (by omega)⟩
theorem wbet {x : Int32} {A b : Nat} (hA : A + b < 2 ^ 31) : wi x (nI A) (nI (A + b)) ↔ ∃ d, d ≤ b ∧ x = nI (A + d) := by
  constructor
  · rintro ⟨h1, h2⟩
    rw [Int32.le_iff_toInt_le, nI_toInt (by omega)] at h1 h2
    obtain ⟨m, hm, rfl⟩ := tiN0 (x := x) (by omega)
    rw [nI_toInt hm] at h1 h2
    exact ⟨m - A, by omega, by rw [show A + (m - A) = m by omega]⟩
  · rintro ⟨d, hd, rfl⟩
    exact ⟨nI_le (by omega) (by omega), nI_le (by omega) (by omega)⟩
theorem w65 (x : Int32) : wi (x - 65) 0 5 ↔ ∃ d, d ≤ 5 ∧ x = nI (65 + d) := wsub (A := 65) (b := 5) (by decide)
theorem w482 (x : Int32) : wi (x - 48) 0 2 ↔ ∃ d, d ≤ 2 ∧ x = nI (48 + d) := wsub (A := 48) (b := 2) (by decide)
theorem w489 (x : Int32) : wi (x - 48) 0 9 ↔ ∃ d, d ≤ 9 ∧ x = nI (48 + d) := wsub (A := 48) (b := 9) (by decide)
theorem v65 (x : Int32) : wj (Int32.toInt64 x) 65 70 ↔ wi (x - 65) 0 5 := ((wjI 65 70 (by decide) (by decide)).trans (wbet (A := 65) (b := 5) (by decide))).trans (w65 x).symm
theorem v482 (x : Int32) : wj (Int32.toInt64 x) 48 50 ↔ wi (x - 48) 0 2 := ((wjI 48 50 (by decide) (by decide)).trans (wbet (A := 48) (b := 2) (by decide))).trans (w482 x).symm
theorem v489 (x : Int32) : wj (Int32.toInt64 x) 48 57 ↔ wi (x - 48) 0 9 := ((wjI 48 57 (by decide) (by decide)).trans (wbet (A := 48) (b := 9) (by decide))).trans (w489 x).symm
def zbg (S : St) (i : Nat) : Prop := ¬ tX3_actBeginsAt S (nI i) = 0
def zcnt (S : St) : Nat → Nat
  | 0 => 0
  | i + 1 => zcnt S i + (if tX3_actBeginsAt S (nI i) = 0 then 0 else 1)
theorem zcnt_le (S : St) (i : Nat) : zcnt S i ≤ i := by
  induction i with
  | zero => exact Nat.le_refl _
  | succ i ih => rw [zcnt]; split <;> omega
theorem zcnt_mono (S : St) (i k : Nat) : zcnt S i ≤ zcnt S (i + k) := by
  induction k with
  | zero => exact Nat.le_refl _
  | succ k ih => rw [← Nat.add_assoc, zcnt]; omega
theorem zcnt_lt {S : St} {j i : Nat} (h : j < i) (hb : zbg S j) : zcnt S j < zcnt S i := by
  have h1 := zcnt_mono S (j + 1) (i - (j + 1))
  rw [show j + 1 + (i - (j + 1)) = i by omega, zcnt, if_neg hb] at h1
  omega
def Entry (S M' : St) (j m : Nat) : Prop := ∃ a, a < 6 ∧ tX3_kindAt S (nI j) = zk a ∧ M'.1 0 19 m = nI a ∧ (a = 0 → wi (tX3_numberAt S (nI j)) 0 2) ∧ (a = 1 → wi (tX3_numberAt S (nI j)) 0 9) ∧ (a < 5 → M'.1 0 20 m = tX3_shipNumberAt S (nI j)) ∧ (a < 2 → M'.1 0 21 m = tX3_numberAt S (nI j))
theorem Entry.cg {S M M' : St} {j m : Nat} (h : Entry S M j m) (h1 : M'.1 0 19 m = M.1 0 19 m) (h2 : M'.1 0 20 m = M.1 0 20 m) (h3 : M'.1 0 21 m = M.1 0 21 m) : Entry S M' j m := by
  unfold Entry at h ⊢
  rw [h1, h2, h3]
  exact h
def MP (M M' : St) : Prop := (∀ b, b ≠ 0 → b ≠ 19 → b ≠ 20 → b ≠ 21 → M'.1 0 b = M.1 0 b) ∧ ∀ j, j ≠ 22 → M'.1 0 0 j = M.1 0 0 j
def Inv (S M : St) (i0 d : Nat) (M' : St) : Prop := MP M M' ∧ M'.1 0 0 22 = nI (zcnt S i0) ∧ (∀ j, j < i0 → zbg S j → Entry S M' j (zcnt S j)) ∧
  (d ≠ 0 → zbg S i0 ∧ ¬ tX3_signAt S (nI i0) = 46 ∧ M'.1 0 20 (zcnt S i0) = tX3_shipNumberAt S (nI i0)) ∧ (d = 2 → tX3_signAt S (nI (i0 + 1)) = 105) ∧ (d = 3 → tX3_signAt S (nI (i0 + 1)) = 108) ∧ (2 ≤ d → ¬ zbg S (i0 + 1))
theorem Inv.fr {S M M' : St} {i0 d : Nat} (h : Inv S M i0 d M') : MP M M' := h.1
theorem Inv.ct {S M M' : St} {i0 d : Nat} (h : Inv S M i0 d M') : M'.1 0 0 22 = nI (zcnt S i0) := h.2.1
theorem Inv.en {S M M' : St} {i0 d : Nat} (h : Inv S M i0 d M') : ∀ j, j < i0 → zbg S j → Entry S M' j (zcnt S j) := h.2.2.1
theorem Inv.sh {S M M' : St} {i0 d : Nat} (h : Inv S M i0 d M') : d ≠ 0 → zbg S i0 ∧ ¬ tX3_signAt S (nI i0) = 46 ∧ M'.1 0 20 (zcnt S i0) = tX3_shipNumberAt S (nI i0) := h.2.2.2.1
theorem Inv.k2 {S M M' : St} {i0 d : Nat} (h : Inv S M i0 d M') : d = 2 → tX3_signAt S (nI (i0 + 1)) = 105 := h.2.2.2.2.1
theorem Inv.k3 {S M M' : St} {i0 d : Nat} (h : Inv S M i0 d M') : d = 3 → tX3_signAt S (nI (i0 + 1)) = 108 := h.2.2.2.2.2.1
theorem Inv.nb {S M M' : St} {i0 d : Nat} (h : Inv S M i0 d M') : 2 ≤ d → ¬ zbg S (i0 + 1) := h.2.2.2.2.2.2
theorem closeX {M : St} {a : Nat} (h : M.1 0 0 22 = nI a) (ha : a < 2 ^ 31) (x v : Int32) : tX8_close M x v = (0, up (up (up M 0 19 a x) 0 21 a v) 0 0 22 (nI (a + 1))) := by
  unfold tX8_close
  rw [h, nI_clamp ha]
  have e1 : (up M 0 19 a x).1 0 0 22 = nI a := by rw [up_row_ne _ _ (by decide), h]
  have e2 : ∀ w, (up (up M 0 19 a x) 0 21 w v).1 0 0 22 = nI a := fun w => by rw [up_row_ne _ _ (by decide), e1]
  rw [e2, e1, nI_clamp ha, bnd_def, nI_1]
theorem inv_close {S M M' : St} {i0 d L α : Nat} {v : Int32} (h : Inv S M i0 d M') (hd : d ≠ 0) (hα : α < 5) (hk : tX3_signAt S (nI (i0 + 1)) = zk α) (hv : α < 2 → v = tX3_numberAt S (nI i0))
    (h0 : α = 0 → wi (tX3_numberAt S (nI i0)) 0 2) (h1 : α = 1 → wi (tX3_numberAt S (nI i0)) 0 9) (hc : zcnt S (i0 + L) = zcnt S i0 + 1) (hnb : ∀ j, i0 < j → j < i0 + L → ¬ zbg S j) (hi : i0 < 2 ^ 30) :
    Inv S M (i0 + L) 0 (up (up (up M' 0 19 (zcnt S i0) (nI α)) 0 21 (zcnt S i0) v) 0 0 22 (nI (zcnt S i0 + 1))) := by
  obtain ⟨s1, s2, s3⟩ := h.sh hd
  refine ⟨⟨fun b b0 b1 b2 b3 => ?_, fun j hj => ?_⟩, ?_, fun j hj hb => ?_, fun q => absurd rfl q, fun q => absurd q (by decide), fun q => absurd q (by decide), fun q => absurd q (by decide)⟩
  · rw [up_row_ne _ _ b0, up_row_ne _ _ b3, up_row_ne _ _ b1]; exact h.fr.1 b b0 b1 b2 b3
  · rw [← h.fr.2 j hj]; simp [up_val, hj]
  · rw [hc]; simp [up_val]
  · rcases Nat.lt_trichotomy j i0 with q | q | q
    · have hl := zcnt_lt q hb
      refine (h.en j q hb).cg ?_ ?_ ?_
      · simp [up_val, show ¬ zcnt S j = zcnt S i0 by omega]
      · simp [up_val]
      · simp [up_val, show ¬ zcnt S j = zcnt S i0 by omega]
    · subst q
      refine ⟨α, by omega, ?_, by simp [up_val], h0, h1, fun _ => by rw [← s3]; simp [up_val], fun q => by rw [← hv q]; simp [up_val]⟩
      unfold tX3_kindAt
      rw [if_neg s2, nI_1, hk]
    · exact absurd hb (hnb j q hj)
theorem no_begin {S : St} {i : Nat} (h1 : ¬ tX3_signAt S (nI i) = 46) (h2 : ¬ wi (tX3_signAt S (nI i) - 65) 0 5) : tX3_actBeginsAt S (nI i) = 0 := by
  unfold tX3_actBeginsAt
  rw [if_neg h1, if_neg h2]
theorem zno {d A : Nat} (h : A + d < 65 ∧ ¬ A + d = 46 ∨ 70 < A + d) (hb : A + d < 2 ^ 31) : ¬ nI (A + d) = 46 ∧ ¬ wi (nI (A + d) - 65) 0 5 := by
  refine ⟨fun q => ?_, fun q => ?_⟩
  · have := (nI_eq (b := 46) hb (by decide)).mp q
    omega
  · obtain ⟨e, he, q⟩ := (w65 _).mp q
    have := (nI_eq (b := 65 + e) hb (by omega)).mp q
    omega
theorem step0 {S M M' : St} {i : Nat} {c : Int32} (h : Inv S M i 0 M') (hi : i < 2 ^ 30) (hc : tX3_signAt S (nI i) = c) :
    ∃ r M2, tX8_readOn M' 0 c = (r, M2) ∧ tX3_dueBehind S 0 c = r ∧ MP M M2 ∧ (r = -6 ∨ ∃ d i1, r = nI d ∧ d ≤ 3 ∧ i + 1 = i1 + (if d = 0 then 0 else if d = 1 then 1 else 2) ∧ Inv S M i1 d M2) := by
  have hz := zcnt_le S i
  unfold tX8_readOn tX3_dueBehind
  simp only [v65, if_true, bnd_def, h.ct]
  rw [nI_clamp (by omega)]
  by_cases c1 : wi (c - 65) 0 5
  · have n46 : ¬ c = 46 := by
      obtain ⟨e, he, rfl⟩ := (w65 _).mp c1
      intro q
      have := (nI_eq (b := 46) (by omega) (by decide)).mp q
      omega
    rw [if_pos c1, if_neg n46, if_pos c1]
    refine ⟨_, _, rfl, rfl, ⟨fun b b0 b1 b2 b3 => ?_, fun j hj => ?_⟩, Or.inr ⟨1, i, rfl, by decide, rfl, ⟨fun b b0 b1 b2 b3 => ?_, fun j hj => ?_⟩, ?_, fun j hj hb => ?_, fun _ => ⟨?_, ?_, ?_⟩, fun q => absurd q (by decide), fun q => absurd q (by decide), fun q => absurd q (by decide)⟩⟩
    · rw [up_row_ne _ _ b2]; exact h.fr.1 b b0 b1 b2 b3
    · rw [up_row_ne _ _ (by decide)]; exact h.fr.2 j hj
    · rw [up_row_ne _ _ b2]; exact h.fr.1 b b0 b1 b2 b3
    · rw [up_row_ne _ _ (by decide)]; exact h.fr.2 j hj
    · rw [up_row_ne _ _ (by decide)]; exact h.ct
    · have hl := zcnt_lt hj hb
      refine (h.en j hj hb).cg ?_ ?_ ?_
      · simp [up_val]
      · simp [up_val, show ¬ zcnt S j = zcnt S i by omega]
      · simp [up_val]
    · unfold zbg tX3_actBeginsAt
      rw [hc, if_neg n46, if_pos c1]
      decide
    · rw [hc]; exact n46
    · unfold tX3_shipNumberAt
      rw [hc]
      simp [up_val]
  · rw [if_neg c1]
    by_cases c2 : c = 46
    · rw [if_pos c2, if_pos c2]
      have e22 : (up M' 0 20 (zcnt S i) 0).1 0 0 22 = nI (zcnt S i) := by rw [up_row_ne _ _ (by decide)]; exact h.ct
      rw [closeX e22 (by omega)]
      have hbg : zbg S i := by unfold zbg tX3_actBeginsAt; rw [hc, if_pos c2]; decide
      have hF : MP M (up (up (up (up M' 0 20 (zcnt S i) 0) 0 19 (zcnt S i) 5) 0 21 (zcnt S i) 0) 0 0 22 (nI (zcnt S i + 1))) := by
        refine ⟨fun b b0 b1 b2 b3 => ?_, fun j hj => ?_⟩
        · rw [up_row_ne _ _ b0, up_row_ne _ _ b3, up_row_ne _ _ b1, up_row_ne _ _ b2]; exact h.fr.1 b b0 b1 b2 b3
        · rw [← h.fr.2 j hj]; simp [up_val, hj]
      refine ⟨_, _, rfl, rfl, hF, Or.inr ⟨0, i + 1, rfl, by decide, rfl, hF, ?_, fun j hj hb => ?_, fun q => absurd rfl q, fun q => absurd q (by decide), fun q => absurd q (by decide), fun q => absurd q (by decide)⟩⟩
      · rw [zcnt, if_neg hbg]; simp [up_val]
      · by_cases q : j = i
        · subst q
          refine ⟨5, by decide, ?_, by simp [up_val]; rfl, fun q => absurd q (by decide), fun q => absurd q (by decide), fun q => absurd q (by decide), fun q => absurd q (by decide)⟩
          unfold tX3_kindAt
          rw [hc, if_pos c2]; rfl
        · have hl := zcnt_lt (show j < i by omega) hb
          refine (h.en j (by omega) hb).cg ?_ ?_ ?_
          · simp [up_val, show ¬ zcnt S j = zcnt S i by omega]
          · simp [up_val, show ¬ zcnt S j = zcnt S i by omega]
          · simp [up_val, show ¬ zcnt S j = zcnt S i by omega]
    · rw [if_neg c2, if_neg c2, if_neg c1]
      refine ⟨_, _, rfl, rfl, ⟨fun b b0 b1 b2 b3 => ?_, fun j hj => ?_⟩, Or.inl rfl⟩
      · rw [up_row_ne _ _ b2]; exact h.fr.1 b b0 b1 b2 b3
      · rw [up_row_ne _ _ (by decide)]; exact h.fr.2 j hj
