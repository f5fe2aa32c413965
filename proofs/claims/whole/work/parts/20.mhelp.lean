/-! ===== words for the reference ===== -/
abbrev wj (v a b : Int64) : Prop := a ≤ v ∧ v ≤ b
abbrev mSh (S : St) (k : Int32) : Prop := wj (Int32.toInt64 k) 0 5 ∧ (ishrF (S.1 0 0 0) k) &&& 1 = 1
theorem wj_ti {x : Int32} {a b : Int64} (h : wj (Int32.toInt64 x) a b) : a.toInt ≤ x.toInt ∧ x.toInt ≤ b.toInt := by
  have h1 := h.1
  have h2 := h.2
  rw [Int64.le_iff_toInt_le, Int32.toInt_toInt64] at h1 h2
  exact ⟨h1, h2⟩
theorem vp_ti {x : Int32} {N : Nat} (h0 : 0 ≤ x.toInt) (h1 : x.toInt < N) : vp_in x N := vp_in_iff.mpr ⟨h0, h1⟩
theorem wj_in {x : Int32} {b : Int64} {N : Nat} (h : wj (Int32.toInt64 x) 0 b) (hb : b.toInt < N) (_ : True = True) : vp_in x N := by
  obtain ⟨h1, h2⟩ := wj_ti h
  have e0 : (0 : Int64).toInt = 0 := by decide
  exact vp_ti (by omega) (by omega)
theorem mSh_in {S : St} {x : Int32} (h : mSh S x) : vp_in x 6 := wj_in h.1 (by decide) rfl
theorem wj_wi {x : Int32} {a b : Int64} {A B : Int32} (h : wj (Int32.toInt64 x) a b) (ha : A.toInt = a.toInt) (hb : B.toInt = b.toInt) : wi x A B := by
  obtain ⟨h1, h2⟩ := wj_ti h
  exact ⟨Int32.le_iff_toInt_le.mpr (by omega), Int32.le_iff_toInt_le.mpr (by omega)⟩
theorem vp3 {k e : Int32} (hk : vp_in k 6) (he : wi e 0 2) : vp_in ((3 * k) + e) 18 := by
  obtain ⟨j, hj, rfl⟩ := vp_in_of hk (by decide)
  obtain ⟨i, hi, rfl⟩ := nI_of (x := e) (Int32.not_lt.mpr he.1)
  have h2 : i ≤ 2 := (nI_leI (b := 2) hi (by decide)).mp he.2
  rw [show (3 : Int32) * nI j = nI (3 * j) from pk_mul 3 j, nI_add]
  exact vp_in_nI (by omega) (by decide)
theorem vp3z {k : Int32} (hk : vp_in k 6) : vp_in (3 * k) 18 := by
  obtain ⟨j, hj, rfl⟩ := vp_in_of hk (by decide)
  rw [show (3 : Int32) * nI j = nI (3 * j) from pk_mul 3 j]
  exact vp_in_nI (by omega) (by decide)
theorem vpe {x B : Int32} {N : Nat} (h : wi x 0 B) (hne : ¬ x = B) (hB : B = nI N := by rfl) (hN : N < 2 ^ 31 := by decide) : vp_in x N :=
  vpx (Int32.not_lt.mpr h.1) (fun q => hne (Int32.le_antisymm h.2 q)) hB hN
theorem popL {x : Int32} (h : ¬ x = 0) : (x &&& (x - 1)).toBitVec.toNat < x.toBitVec.toNat := by
  have h1 : (x &&& (x - 1)).toBitVec.toNat ≤ (x - 1).toBitVec.toNat := by
    rw [Int32.toBitVec_and, BitVec.toNat_and]
    exact Nat.and_le_right
  have h2 : x.toBitVec.toNat ≠ 0 := fun q => h (Int32.toBitVec_inj.mp (BitVec.eq_of_toNat_eq (by rw [q]; rfl)))
  have h3 : (x - 1).toBitVec.toNat = x.toBitVec.toNat - 1 := by
    rw [Int32.toBitVec_sub, BitVec.toNat_sub]
    have h4 : (1 : Int32).toBitVec.toNat = 1 := by decide
    have h5 := x.toBitVec.isLt
    rw [h4]
    omega
  omega
