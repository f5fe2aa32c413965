/-! ===== THE TWO WORLDS ===== -/
def VX : List (Nat × Nat) := [(0, 0), (0, 1), (0, 2), (0, 3), (0, 4), (0, 5), (0, 6), (0, 7), (0, 10), (0, 11), (0, 12), (0, 13), (0, 14), (0, 15),
  (1, 0), (1, 1), (1, 2), (1, 3), (1, 4), (1, 5), (1, 6), (1, 7), (1, 10), (1, 11), (1, 12), (1, 13), (1, 14), (1, 15),
  (2, 0), (2, 1), (2, 2), (2, 3), (2, 4), (2, 5), (2, 6), (2, 7), (2, 10), (2, 11), (2, 12), (2, 13), (2, 14), (2, 15),
  (3, 0), (3, 1), (3, 2), (3, 3), (3, 4), (3, 5), (3, 6), (3, 7), (3, 10), (3, 11), (3, 12), (3, 13), (3, 14), (3, 15),
  (4, 0), (4, 1), (5, 0), (6, 0), (6, 1), (6, 2), (6, 3), (7, 0), (7, 1), (7, 2), (7, 3), (8, 0), (8, 1), (8, 2), (8, 3),
  (9, 0), (9, 1), (9, 2), (9, 3), (10, 0), (11, 0), (12, 0), (12, 1), (12, 2)]
def fShip (g : Gd) (o k : Nat) (row : Nat → Int32) : List Value := [.int (b01 (row 0)), .int (b01 (row 1)), .int (row 2), .int (row 3), .int (row 4), .int (row 5), .ref (g.1 o (10 + k))]
def fOwner (g : Gd) (o : Nat) (row : Nat → Int32) : List Value := [.ref (g.1 o 7), .int (row 0), .int (row 1), .int (row 2), .int (row 3), .int (row 4), .int (row 5)]
def fPad (g : Gd) (row : Nat → Int32) : List Value := [.ref (g.1 4 1), .int (row 0)]
def fVoy (row : Nat → Int32) : List Value := [.int (row 0), .int (row 1), .int (row 2), .int (row 3), .int (row 4), .int (row 5), .int (row 6)]
def fTales (g : Gd) (t : Nat) (row : Nat → Int32) : List Value := [.ref (g.1 t 1), .ref (g.1 t 2), .ref (g.1 t 3), .int (row 0)]
def fNam (g : Gd) (row : Nat → Int32) : List Value := [.ref (g.1 9 1), .ref (g.1 9 2), .ref (g.1 9 3), .int (row 0), .int (row 1)]
def fImg (g : Gd) (q : Nat) (row : Nat → Int32) : List Value := [.int (b01 (row 0)), .ref (g.1 (q + 2) 6), .ref (g.1 (6 + (q + 1)) 0)]
def fMain (g : Gd) (_ : Nat → Int32) : List Value := [.ref (g.1 0 6), .ref (g.1 1 6), .ref (g.1 4 0), .ref (g.1 5 0), .ref (g.1 6 0), .ref (g.1 9 0), .ref (g.1 12 1), .ref (g.1 12 2)]
def ctXr (g : Gd) (row : Nat → Int32) (L : Nat → Int64) (r i : Nat) : va_E :=
  if r < 4 then
    if i < 6 then .inr (4, fShip g r i row)
    else if i = 6 then .inr (2, fOwner g r row)
    else if i = 7 then .inl (g.2.2 3, 6, .inr (.inr (.inr (.inr (fun k => some (g.1 r k))))))
    else .inl (g.2.2 0, 3, .inl row)
  else if r = 4 then
    if i = 0 then .inr (3, fPad g row) else .inl (g.2.2 0, 60, .inl row)
  else if r = 5 then .inr (6, fVoy row)
  else if r < 9 then
    if i = 0 then .inr (5, fTales g r row) else if i = 3 then .inl (g.2.2 2, 8, .inl (fun j => b01 (row j))) else .inl (g.2.2 0, 8, .inl row)
  else if r = 9 then
    if i = 0 then .inr (1, fNam g row) else .inl (g.2.2 0, 8, .inl row)
  else if r < 12 then .inr (0, fImg g (r - 10) row)
  else if i = 0 then .inr (7, fMain g row)
  else if i = 1 then .inl (g.2.2 4, 2, .inr (.inr (.inr (.inr (fun k => some (g.1 (10 + k) 0))))))
  else if r = 12 ∧ i = 2 then .inl (g.2.2 1, 7, .inr (.inl L))
  else .inr (9, [])
def ctX : CtF := fun g S r i => ctXr g (S.1 r i) S.2 r i
theorem locX : LocF ctX := fun g S r i j v a b h => by unfold ctX; rw [up_ne S v h, up_L]
theorem VX_nd : VX.Nodup := by decide
theorem VX_at {r i : Nat} (h : (r, i) ∈ VX) : ∃ j : Nat, VX[j]? = some (r, i) := List.getElem?_of_mem h
theorem VX_ship : ∀ o, o < 4 → ∀ k, k < 6 → (o, k) ∈ VX := by decide
theorem VX_sums : ∀ o, o < 4 → ∀ k, k < 6 → (o, 10 + k) ∈ VX := by decide
theorem VX_own : ∀ o, o < 4 → (o, 6) ∈ VX ∧ (o, 7) ∈ VX := by decide
theorem VX_tal : ∀ t, t < 3 → (6 + t, 0) ∈ VX ∧ (6 + t, 1) ∈ VX ∧ (6 + t, 2) ∈ VX ∧ (6 + t, 3) ∈ VX := by decide
theorem VX_img : ∀ q, q < 2 → (10 + q, 0) ∈ VX := by decide
theorem xShip (g : Gd) {o k : Nat} (ho : o < 4) (hk : k < 6) : IsO VX ctX g o k 4 (fShip g o k) := ⟨VX_at (VX_ship o ho k hk), fun S => by simp [ctX, ctXr, ho, hk]⟩
theorem xSums (g : Gd) {o k : Nat} (ho : o < 4) (hk : k < 6) : IsI VX ctX g o (10 + k) 3 := ⟨VX_at (VX_sums o ho k hk), fun S => by
  have h1 : ¬ 10 + k < 6 := by omega
  have h2 : ¬ 10 + k = 6 := by omega
  have h3 : ¬ 10 + k = 7 := by omega
  simp [ctX, ctXr, ho, h1, h2, h3]⟩
theorem xOwner (g : Gd) {o : Nat} (ho : o < 4) : IsO VX ctX g o 6 2 (fOwner g o) := ⟨VX_at (VX_own o ho).1, fun S => by simp [ctX, ctXr, ho]⟩
theorem xShips (g : Gd) {o : Nat} (ho : o < 4) : IsQ VX ctX g o 7 6 3 (fun k => some (g.1 o k)) := ⟨VX_at (VX_own o ho).2, fun S => by simp [ctX, ctXr, ho]⟩
theorem xPad (g : Gd) : IsO VX ctX g 4 0 3 (fPad g) := ⟨VX_at (by decide), fun S => rfl⟩
theorem xSigns (g : Gd) : IsI VX ctX g 4 1 60 := ⟨VX_at (by decide), fun S => rfl⟩
theorem xVoy (g : Gd) : IsO VX ctX g 5 0 6 fVoy := ⟨VX_at (by decide), fun S => rfl⟩
theorem tal_no {t : Nat} (ht : t < 3) : ¬ 6 + t < 4 ∧ ¬ 6 + t = 4 ∧ ¬ 6 + t = 5 ∧ 6 + t < 9 := by omega
theorem xTales (g : Gd) {t : Nat} (ht : t < 3) : IsO VX ctX g (6 + t) 0 5 (fTales g (6 + t)) := ⟨VX_at (VX_tal t ht).1, fun S => by
  obtain ⟨h1, h2, h3, h4⟩ := tal_no ht
  simp [ctX, ctXr, h1, h2, h3, h4]⟩
theorem xOnes (g : Gd) {t : Nat} (ht : t < 3) : IsI VX ctX g (6 + t) 1 8 := ⟨VX_at (VX_tal t ht).2.1, fun S => by
  obtain ⟨h1, h2, h3, h4⟩ := tal_no ht
  simp [ctX, ctXr, h1, h2, h3, h4]⟩
theorem xTwos (g : Gd) {t : Nat} (ht : t < 3) : IsI VX ctX g (6 + t) 2 8 := ⟨VX_at (VX_tal t ht).2.2.1, fun S => by
  obtain ⟨h1, h2, h3, h4⟩ := tal_no ht
  simp [ctX, ctXr, h1, h2, h3, h4]⟩
theorem xSames (g : Gd) {t : Nat} (ht : t < 3) : IsZ VX ctX g (6 + t) 3 8 := ⟨VX_at (VX_tal t ht).2.2.2, fun S => by
  obtain ⟨h1, h2, h3, h4⟩ := tal_no ht
  simp [ctX, ctXr, h1, h2, h3, h4]⟩
theorem xNam (g : Gd) : IsO VX ctX g 9 0 1 (fNam g) := ⟨VX_at (by decide), fun S => rfl⟩
theorem xFirsts (g : Gd) : IsI VX ctX g 9 1 8 := ⟨VX_at (by decide), fun S => rfl⟩
theorem xOthers (g : Gd) : IsI VX ctX g 9 2 8 := ⟨VX_at (by decide), fun S => rfl⟩
theorem xTried (g : Gd) : IsI VX ctX g 9 3 8 := ⟨VX_at (by decide), fun S => rfl⟩
theorem xImg (g : Gd) {q : Nat} (hq : q < 2) : IsO VX ctX g (10 + q) 0 0 (fImg g q) := ⟨VX_at (VX_img q hq), fun S => by
  have h1 : ¬ 10 + q < 4 ∧ ¬ 10 + q = 4 ∧ ¬ 10 + q = 5 ∧ ¬ 10 + q < 9 ∧ ¬ 10 + q = 9 ∧ 10 + q < 12 ∧ 10 + q - 10 = q := by omega
  obtain ⟨h1, h2, h3, h4, h5, h6, h7⟩ := h1
  simp [ctX, ctXr, h1, h2, h3, h4, h5, h6, h7]⟩
theorem xMain (g : Gd) : IsO VX ctX g 12 0 7 (fMain g) := ⟨VX_at (by decide), fun S => rfl⟩
theorem xImgs (g : Gd) : IsQ VX ctX g 12 1 2 4 (fun k => some (g.1 (10 + k) 0)) := ⟨VX_at (by decide), fun S => rfl⟩
theorem ctXr_L (g : Gd) (row : Nat → Int32) (L L' : Nat → Int64) {r i : Nat} (h : ¬ (r = 12 ∧ i = 2)) : ctXr g row L r i = ctXr g row L' r i := by unfold ctXr; simp only [if_neg h]
theorem xChances (g : Gd) : IsJ VX ctX g 12 2 7 := ⟨VX_at (by decide), fun S => rfl, fun S j v a b h => ctXr_L g (S.1 a b) _ _ h⟩
/-! the reference's world: one object (its numbers by the field's slot), its arrays (by the field's slot) -/
def VM : List (Nat × Nat) := [(0, 0), (0, 2), (0, 3), (0, 4), (0, 5), (0, 6), (0, 13), (0, 14), (0, 15), (0, 17), (0, 19), (0, 20), (0, 21), (0, 28), (0, 31), (0, 32), (0, 34), (0, 35), (0, 36)]
def fMod (g : Gd) (row : Nat → Int32) : List Value := [.int (row 0), .int (row 1), .ref (g.1 0 2), .ref (g.1 0 3), .ref (g.1 0 4), .ref (g.1 0 5), .ref (g.1 0 6), .int (row 7), .int (row 8), .int (row 9), .int (row 10), .int (row 11), .int (row 12), .ref (g.1 0 13), .ref (g.1 0 14), .ref (g.1 0 15), .int (row 16), .ref (g.1 0 17), .int (row 18), .ref (g.1 0 19), .ref (g.1 0 20), .ref (g.1 0 21), .int (row 22), .int (row 23), .int (row 24), .int (row 25), .int (row 26), .int (row 27), .ref (g.1 0 28), .int (row 29), .int (row 30), .ref (g.1 0 31), .ref (g.1 0 32), .int (row 33), .ref (g.1 0 34), .ref (g.1 0 35), .ref (g.1 0 36), .int (row 37), .int (b01 (row 38))]
def lenM (i : Nat) : Nat := if i < 6 then 6 else if i = 6 then 18 else if i < 17 then 8 else if i < 28 then 60 else if i = 28 then 35 else if i = 32 then 8 else if i = 34 then 256 else 180
def ctMr (g : Gd) (row : Nat → Int32) (L : Nat → Int64) (i : Nat) : va_E :=
  if i = 0 then .inr (8, fMod g row)
  else if i = 31 then .inl (g.2.2 1, 7, .inr (.inl L))
  else if i = 36 then .inl (g.2.2 2, 2, .inl (fun j => b01 (row j)))
  else .inl (g.2.2 0, lenM i, .inl row)
def ctM : CtF := fun g S r i => ctMr g (S.1 r i) (if r = 0 then S.2 else fun _ => 0) i
theorem ctMr_L (g : Gd) (row : Nat → Int32) (L L' : Nat → Int64) {i : Nat} (h : ¬ i = 31) : ctMr g row L i = ctMr g row L' i := by unfold ctMr; simp only [if_neg h]
theorem locM : LocF ctM := fun g S r i j v a b h => by unfold ctM; rw [up_ne S v h, up_L]
theorem VM_nd : VM.Nodup := by decide
theorem VM_at {r i : Nat} (h : (r, i) ∈ VM) : ∃ j : Nat, VM[j]? = some (r, i) := List.getElem?_of_mem h
theorem mMain (g : Gd) : IsO VM ctM g 0 0 8 (fMod g) := ⟨VM_at (by decide), fun S => rfl⟩
theorem mI (g : Gd) {i n : Nat} (hm : (0, i) ∈ VM) (h0 : ¬ i = 0) (h1 : ¬ i = 31) (h2 : ¬ i = 36) (hn : lenM i = n) : IsI VM ctM g 0 i n := ⟨VM_at hm, fun S => by simp [ctM, ctMr, h0, h1, h2, hn]⟩
theorem mAge (g : Gd) : IsI VM ctM g 0 2 6 := mI g (by decide) (by decide) (by decide) (by decide) rfl
theorem mWorth (g : Gd) : IsI VM ctM g 0 3 6 := mI g (by decide) (by decide) (by decide) (by decide) rfl
theorem mCrew (g : Gd) : IsI VM ctM g 0 4 6 := mI g (by decide) (by decide) (by decide) (by decide) rfl
theorem mLoads (g : Gd) : IsI VM ctM g 0 5 6 := mI g (by decide) (by decide) (by decide) (by decide) rfl
theorem mSums (g : Gd) : IsI VM ctM g 0 6 18 := mI g (by decide) (by decide) (by decide) (by decide) rfl
theorem mTOne (g : Gd) : IsI VM ctM g 0 13 8 := mI g (by decide) (by decide) (by decide) (by decide) rfl
theorem mTTwo (g : Gd) : IsI VM ctM g 0 14 8 := mI g (by decide) (by decide) (by decide) (by decide) rfl
theorem mTSame (g : Gd) : IsI VM ctM g 0 15 8 := mI g (by decide) (by decide) (by decide) (by decide) rfl
theorem mPad (g : Gd) : IsI VM ctM g 0 17 60 := mI g (by decide) (by decide) (by decide) (by decide) rfl
theorem mAct (g : Gd) : IsI VM ctM g 0 19 60 := mI g (by decide) (by decide) (by decide) (by decide) rfl
theorem mWho (g : Gd) : IsI VM ctM g 0 20 60 := mI g (by decide) (by decide) (by decide) (by decide) rfl
theorem mMuch (g : Gd) : IsI VM ctM g 0 21 60 := mI g (by decide) (by decide) (by decide) (by decide) rfl
theorem mHad (g : Gd) : IsI VM ctM g 0 28 35 := mI g (by decide) (by decide) (by decide) (by decide) rfl
theorem mGroup (g : Gd) : IsI VM ctM g 0 32 8 := mI g (by decide) (by decide) (by decide) (by decide) rfl
theorem mFewest (g : Gd) : IsI VM ctM g 0 34 256 := mI g (by decide) (by decide) (by decide) (by decide) rfl
theorem mKept (g : Gd) : IsI VM ctM g 0 35 180 := mI g (by decide) (by decide) (by decide) (by decide) rfl
theorem mIsKept (g : Gd) : IsZ VM ctM g 0 36 2 := ⟨VM_at (by decide), fun S => rfl⟩
theorem mParts (g : Gd) : IsJ VM ctM g 0 31 7 := ⟨VM_at (by decide), fun S => rfl, fun S j v a b h => by
  by_cases ha : a = 0
  · exact ctMr_L g _ _ _ (fun hb => h ⟨ha, hb⟩)
  · show ctMr g (S.1 a b) (if a = 0 then vp_updL S.2 j v else fun _ => 0) b = ctMr g (S.1 a b) (if a = 0 then S.2 else fun _ => 0) b
    rw [if_neg ha, if_neg ha]⟩
/-! words of the methods' answers -/
abbrev wi (v a b : Int32) : Prop := a ≤ v ∧ v ≤ b
abbrev plc (n : Int32) : Prop := 0 ≤ n ∧ n < 6
abbrev isAt (S : St) (o : Nat) (n : Int32) : Prop := plc n ∧ ¬ S.1 o n.toNatClampNeg 0 = 0
abbrev isAf (S : St) (o : Nat) (n : Int32) : Prop := isAt S o n ∧ ¬ S.1 o n.toNatClampNeg 1 = 0
theorem b01_0 (x : Int32) : b01 x = 0 ↔ x = 0 := by unfold b01; by_cases h : x = 0 <;> simp [h]
theorem tiN {n : Nat} (h : n < 2147483648) : (OfNat.ofNat n : Int32).toInt = (n : Int) := nI_toInt h
theorem plc_lt {n : Int32} (h : plc n) : n.toNatClampNeg < 6 := by
  have h1 := h.1
  have h2 := h.2
  rw [Int32.le_iff_toInt_le] at h1
  rw [Int32.lt_iff_toInt_lt] at h2
  have e0 : (0 : Int32).toInt = 0 := by decide
  have e6 : (6 : Int32).toInt = 6 := by decide
  rw [Int32.toNatClampNeg]
  omega
theorem vpm1 {k N : Nat} (h : ¬ nI k ≤ 0) (hk : k < N) (hN : N < 2 ^ 31) : vp_in (nI k - 1) N := by
  cases k with
  | zero => exact absurd (by decide) h
  | succ j => rw [nI_pred]; exact vp_in_nI (by omega) hN
theorem up_sge0 {B : Int32} {i : Nat} (hik : i + 0 = B.toNatClampNeg) : B ≤ nI i := by
  have hb : B.toInt.toNat = B.toNatClampNeg := rfl
  have hl := Int32.toInt_lt B
  rw [Int32.le_iff_toInt_le, nI_toInt (by omega)]
  omega
theorem up_sge1 {B : Int32} {i k : Nat} (hik : i + (k + 1) = B.toNatClampNeg) : ¬ B ≤ nI i := by
  have hb : B.toInt.toNat = B.toNatClampNeg := rfl
  have hl := Int32.toInt_lt B
  rw [Int32.le_iff_toInt_le, nI_toInt (by omega)]
  omega
theorem tcl (B : Int32) : B.toNatClampNeg < 2147483648 := by
  have hb : B.toInt.toNat = B.toNatClampNeg := rfl
  have hl := Int32.toInt_lt B
  omega
theorem vpx2 {y : Int32} {i N : Nat} (hc : ¬ y ≤ nI i) (hi : i < 2147483648) (hy : y = nI N) (hN : N < 2 ^ 31) : vp_in (nI i) N := by
  subst hy
  exact vp_in_nI (Nat.lt_of_not_le (fun h => hc ((nI_leI hN hi).mpr h))) hN
theorem lv_eqI {ls : Array Slot} {n i : Nat} {x y : Int32} {l : List (Nat × Value)} (h : lv_has ls n ((i, .int x) :: l)) (e : x = y) : lv_has ls n ((i, .int y) :: l) := e ▸ h
theorem nI_cl {x : Int32} (h : ¬ x < 0) : x = nI x.toNatClampNeg := by
  obtain ⟨j, hj, rfl⟩ := nI_of h
  rw [nI_clamp hj]
theorem up_r (S : St) {r i j a : Nat} (v : Int32) (h : a ≠ r) : (up S r i j v).1 a = S.1 a := by funext b; exact up_ne S v (fun q => h q.1)
abbrev ikc (n : Int32) : Prop := 0 ≤ n ∧ n < 2
theorem ikc_lt {n : Int32} (h : ikc n) : n.toNatClampNeg < 2 := by
  have h1 := h.1
  have h2 := h.2
  rw [Int32.le_iff_toInt_le] at h1
  rw [Int32.lt_iff_toInt_lt] at h2
  have e0 : (0 : Int32).toInt = 0 := by decide
  have e6 : (2 : Int32).toInt = 2 := by decide
  rw [Int32.toNatClampNeg]
  omega
abbrev art (S : St) (f s : Int32) : Prop := (0 ≤ f ∧ f < 8) ∧ (ishrF (S.1 9 2 f.toNatClampNeg) s) &&& 1 = 1
theorem vpw {x B : Int32} {N : Nat} (h : wi x 0 B) (hB : B < nI N) (_ : True = True) (hN : N < 2 ^ 31) : vp_in x N :=
  vpx (Int32.not_lt.mpr h.1) (Int32.not_le.mpr (Int32.lt_of_le_of_lt h.2 hB)) rfl hN
theorem ti0 : (0 : Int32).toInt = 0 := by decide
theorem ti1 : (1 : Int32).toInt = 1 := by decide
theorem ti2 : (2 : Int32).toInt = 2 := by decide
theorem ti3 : (3 : Int32).toInt = 3 := by decide
theorem ti5 : (5 : Int32).toInt = 5 := by decide
theorem ti6 : (6 : Int32).toInt = 6 := by decide
theorem ti7 : (7 : Int32).toInt = 7 := by decide
theorem ti8 : (8 : Int32).toInt = 8 := by decide
theorem ti9 : (9 : Int32).toInt = 9 := by decide
theorem tim1 : (-1 : Int32).toInt = -1 := by decide
theorem m1_eq (x : Int32) : x + (-1) = x - 1 := by rw [Int32.sub_eq_add_neg]
theorem m1_nI (k : Nat) : nI (k + 1) + (-1) = nI k := pk_m1 k
theorem dn1 {k : Nat} (h : k + 1 < 2 ^ 31) : ¬ nI (k + 1) ≤ 0 := nI_nle (Nat.succ_pos k) h
theorem wi_le {p : Int32} (h : wi p (-1) 6) : p.toNatClampNeg ≤ 6 := by
  have h2 := h.2
  rw [Int32.le_iff_toInt_le, ti6] at h2
  rw [Int32.toNatClampNeg]
  omega
theorem wi_ne {p : Int32} (h : wi p 1 9) : ¬ p + 1 = 0 := by
  intro e
  have h1 := h.1
  have h2 := h.2
  rw [Int32.le_iff_toInt_le, ti1] at h1
  rw [Int32.le_iff_toInt_le, ti9] at h2
  obtain ⟨j, hj, rfl⟩ := nI_of (x := p) (by rw [Int32.lt_iff_toInt_lt, ti0]; omega)
  rw [nI_toInt hj] at h1 h2
  rw [nI_1] at e
  exact nI_ne0 (Nat.succ_pos j) (by omega) e
