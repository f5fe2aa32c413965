theorem tX8_in_tree (g : Gd) (S : St) (y1 : Int64) (y2 : Int64) (y3 : Int64) : ((if wj y1 y2 y3 then 1 else 0) : Int32) =
  (if y1 < y2 then 0 else (if y3 < y1 then 0 else 1)) := by
  repeat' split
  all_goals first | rfl | (simp_all; done) | (exfalso; simp only [wj, Int64.lt_iff_toInt_lt, Int64.le_iff_toInt_le] at *; omega)
set_option maxHeartbeats 4000000 in
set_option maxRecDepth 100000 in
theorem kX8_in (l : Launch) (g : Gd) (A : Nat → Prop) (hA : Ads g.1 VM A) (S : St) (y1 : Int64) (y2 : Int64) (y3 : Int64) : Met l yX8_in (wU yX8_in cX8_in 6 (some .boolean)) { frames := 0, cells := 0, slots := 0, locals := 0 } (va_Pc [.long y1, .long y2, .long y3] (PW VM ctM g S)) (va_Qi (fun r u => r = (if wj y1 y2 y3 then 1 else 0) ∧ u = S) (fun u U => PW VM ctM g u U) A) 0 0 A := by
  refine ent (cc := cX8_in) (maxL := 6) (ret := (some .boolean)) (by decide) (Nat.le_of_ble_eq_true rfl) ?_
  intro p e s m below meth c args Q C0 hr hlocks hP hK hQ ls hl
  have hx := C0.1
  have hb := C0.2.1
  have hml := C0.2.2.1
  have hown := C0.2.2.2.1
  have hts := C0.2.2.2.2
  obtain ⟨F, hF⟩ : ∃ F : Int32, F = (if wj y1 y2 y3 then 1 else 0) := ⟨_, rfl⟩
  have hf := hF
  rw [tX8_in_tree g S y1 y2 y3] at hf
  have hS : va_S A s.heap s.heap [] := va_S.rf
  have hl : lv_has ls 6 [(0, .long y1), (2, .long y2), (4, .long y3)] := hl
  refine lv_lload_n hx hb dX8_in_0 rfl (lv_at hl 0 rfl) ?_
  refine lv_lload_n hx hb dX8_in_1 rfl (lv_at hl 1 rfl) ?_
  refine klcmp_lt (tgt := 17) hx hb dX8_in_2 dX8_in_3 (by decide) (fun zc1 => ?_) (fun zc1 => ?_)
  · have hf := hf.trans (if_pos zc1)
    refine lv_iconst (v := 0) hx hb dX8_in_17 (by decide) ?_
    exact rz hQ C0 hr hlocks hK hP hS rfl (by rw [← hF]; exact ⟨hf.symm, rfl⟩) dX8_in_18
  · have hf := hf.trans (if_neg zc1)
    refine lv_lload_n hx hb dX8_in_6 rfl (lv_at hl 0 rfl) ?_
    refine lv_lload hx hb dX8_in_7 (lv_at hl 2 rfl) ?_
    refine klcmp_gt (tgt := 17) hx hb dX8_in_9 dX8_in_10 (by decide) (fun zc2 => ?_) (fun zc2 => ?_)
    · have hf := hf.trans (if_pos zc2)
      refine lv_iconst (v := 0) hx hb dX8_in_17 (by decide) ?_
      exact rz hQ C0 hr hlocks hK hP hS rfl (by rw [← hF]; exact ⟨hf.symm, rfl⟩) dX8_in_18
    · have hf := hf.trans (if_neg zc2)
      refine lv_iconst (v := 1) hx hb dX8_in_13 (by decide) ?_
      refine lv_goto (tgt := 18) hx hb dX8_in_14 (by decide) ?_
      exact rz hQ C0 hr hlocks hK hP hS rfl (by rw [← hF]; exact ⟨hf.symm, rfl⟩) dX8_in_18
def LX8_bitsOf_4 (S : St) (p1 : Int32) : Nat → Int32 → Int32 → Int32
  | 0, zx3, zx4 => zx4
  | zk2 + 1, zx3, zx4 => (if zx3 = 0 then zx4 else (LX8_bitsOf_4 S p1 zk2 (zx3 &&& (zx3 - 1)) (zx4 + 1)))
def tX8_bitsOf (S : St) (p1 : Int32) : Int32 :=
  (LX8_bitsOf_4 S p1 (p1.toBitVec.toNat + 1) p1 0)
set_option maxHeartbeats 4000000 in
set_option maxRecDepth 100000 in
theorem kX8_bitsOf (l : Launch) (g : Gd) (A : Nat → Prop) (hA : Ads g.1 VM A) (S : St) (p1 : Int32) : Met l yX8_bitsOf (wU yX8_bitsOf cX8_bitsOf 3 (some .int)) { frames := 0, cells := 0, slots := 0, locals := 0 } (va_Pc [.int p1] (PW VM ctM g S)) (va_Qi (fun r u => r = tX8_bitsOf S p1 ∧ u = S) (fun u U => PW VM ctM g u U) A) 0 0 A := by
  refine ent (cc := cX8_bitsOf) (maxL := 3) (ret := (some .int)) (by decide) (Nat.le_of_ble_eq_true rfl) ?_
  intro p e s m below meth c args Q C0 hr hlocks hP hK hQ ls hl
  have hx := C0.1
  have hb := C0.2.1
  have hml := C0.2.2.1
  have hown := C0.2.2.2.1
  have hts := C0.2.2.2.2
  obtain ⟨F, hF⟩ : ∃ F : Int32, F = tX8_bitsOf S p1 := ⟨_, rfl⟩
  have hf := hF
  unfold tX8_bitsOf at hf
  have hS : va_S A s.heap s.heap [] := va_S.rf
  have hl : lv_has ls 3 [(0, .int p1)] := hl
  refine lv_iconst (v := 0) hx hb dX8_bitsOf_0 (by decide) ?_
  refine lv_istore_n (lv' := [(1, .int 0), (0, .int p1)]) hx hb dX8_bitsOf_1 rfl hl (by decide) rfl (fun ls hl => ?_)
  refine lv_iload_n hx hb dX8_bitsOf_2 rfl (lv_at hl 1 rfl) ?_
  refine lv_istore_n (lv' := [(2, .int p1), (1, .int 0), (0, .int p1)]) hx hb dX8_bitsOf_3 rfl hl (by decide) rfl (fun ls hl => ?_)
  have lp4 : ∀ (zk2 : Nat) (zx3 : Int32) (zx4 : Int32) (H : Heap) (locs : List Loc), (zx3.toBitVec.toNat < zk2) → (F = LX8_bitsOf_4 S p1 zk2 zx3 zx4) → HW VM ctM g S H → va_S A s.heap H locs → ∀ ls : Array Slot, lv_has ls 3 [(0, .int p1), (2, .int zx3), (1, .int zx4)] → W p l e { frames := 0, cells := 0, slots := 0, locals := 0 } s m args below meth c H locs 0 0 Q (F0 m 4 ls []) := by
    intro zk2
    induction zk2 with
    | zero =>
      intro zx3 zx4 H locs hme hf hP hS ls hl
      exact absurd hme (Nat.not_lt_zero _)
    | succ zk2 ih4 =>
      intro zx3 zx4 H locs hme hf hP hS ls hl
      rw [LX8_bitsOf_4] at hf
      refine lv_iload_n hx hb dX8_bitsOf_4 rfl (lv_at hl 1 rfl) ?_
      refine lv_if_eq (tgt := 20) hx hb dX8_bitsOf_5 (by decide) (fun zc5 => ?_) (fun zc5 => ?_)
      · have hf := hf.trans (if_pos zc5)
        refine lv_iload_n hx hb dX8_bitsOf_20 rfl (lv_at hl 2 rfl) ?_
        exact ri hQ C0 hr hlocks hK hP hS (by rw [← hF]; exact ⟨hf.symm, rfl⟩) dX8_bitsOf_21
      · have hf := hf.trans (if_neg zc5)
        refine lv_iinc (v := (zx4 + 1)) (lv' := [(1, .int (zx4 + 1)), (0, .int p1), (2, .int zx3)]) hx hb dX8_bitsOf_8 hl (k := 2) rfl rfl (by decide) rfl (fun ls hl => ?_)
        refine lv_iload_n hx hb dX8_bitsOf_11 rfl (lv_at hl 2 rfl) ?_
        refine lv_iload_n hx hb dX8_bitsOf_12 rfl (lv_at hl 2 rfl) ?_
        refine lv_iconst (v := 1) hx hb dX8_bitsOf_13 (by decide) ?_
        refine lv_isub hx hb dX8_bitsOf_14 ?_
        refine lv_iand hx hb dX8_bitsOf_15 ?_
        refine lv_istore_n (lv' := [(2, .int (zx3 &&& (zx3 - 1))), (1, .int (zx4 + 1)), (0, .int p1)]) hx hb dX8_bitsOf_16 rfl hl (by decide) rfl (fun ls hl => ?_)
        refine lv_goto (tgt := 4) hx hb dX8_bitsOf_17 (by decide) ?_
        exact ih4 (zx3 &&& (zx3 - 1)) (zx4 + 1) _ _ (by have := popL zc5; omega) hf hP hS ls (lv_sub hl [2, 0, 1] rfl)
  exact lp4 (p1.toBitVec.toNat + 1) p1 0 _ _ (Nat.lt_succ_self _) hf hP hS ls (lv_sub hl [2, 0, 1] rfl)
theorem tX8_isShip_tree (g : Gd) (S : St) (p1 : Int32) : ((if mSh S p1 then 1 else 0) : Int32) =
  (if wj (Int32.toInt64 p1) 0 5 then (if ((ishrF (S.1 0 0 0) p1) &&& 1) = 1 then 1 else 0) else 0) := by
  simp only [mSh]
  repeat' split
  all_goals first | rfl | (simp_all; done)
set_option maxHeartbeats 4000000 in
set_option maxRecDepth 100000 in
theorem kX8_isShip (l : Launch) (g : Gd) (A : Nat → Prop) (hA : Ads g.1 VM A) (S : St) (p1 : Int32) : Met l yX8_isShip (wU yX8_isShip cX8_isShip 2 (some .boolean)) { frames := 1, cells := 0, slots := 0, locals := 25 } (va_Pc [.ref (g.1 0 0), .int p1] (PW VM ctM g S)) (va_Qi (fun r u => r = (if mSh S p1 then 1 else 0) ∧ u = S) (fun u U => PW VM ctM g u U) A) 0 0 A := by
  refine ent (cc := cX8_isShip) (maxL := 2) (ret := (some .boolean)) (by decide) (Nat.le_of_ble_eq_true rfl) ?_
  intro p e s m below meth c args Q C0 hr hlocks hP hK hQ ls hl
  have hx := C0.1
  have hb := C0.2.1
  have hml := C0.2.2.1
  have hown := C0.2.2.2.1
  have hts := C0.2.2.2.2
  obtain ⟨F, hF⟩ : ∃ F : Int32, F = (if mSh S p1 then 1 else 0) := ⟨_, rfl⟩
  have hf := hF
  rw [tX8_isShip_tree g S p1] at hf
  have hS : va_S A s.heap s.heap [] := va_S.rf
  have hl : lv_has ls 2 [(0, .ref (g.1 0 0)), (1, .int p1)] := hl
  refine lv_iload_n hx hb dX8_isShip_0 rfl (lv_at hl 1 rfl) ?_
  refine lv_i2l (v := (Int32.toInt64 p1)) hx hb dX8_isShip_1 rfl ?_
  refine lv_lconst (v := 0) hx hb dX8_isShip_2 (by decide) ?_
  refine lv_ldc2 (v := 5) hx hb hown (hts _ q798) dX8_isShip_3 ?_
  refine kzc (va_runS (As := [.long (Int32.toInt64 p1), .long 0, .long 5]) (rest := []) C0 (kX8_in l g A hA S (Int32.toInt64 p1) 0 5) (va_cwS 3 hts (gS q799 q800 q54 q801) rfl rfl rfl (by decide +kernel) ⟨Nat.le_of_ble_eq_true rfl, Nat.le_of_ble_eq_true rfl⟩) (preS hP hK) rfl rfl hl.1 rfl (lv_room (Nat.le_of_ble_eq_true rfl)) dX8_isShip_6 ⟨Nat.zero_le _, Nat.zero_le _⟩) hS (fun _ h => h) (fun zc1 H locs hP hS => ?_) (fun zc1 H locs hP hS => ?_)
  · have hf := hf.trans (if_pos zc1)
    refine lv_if_eq (tgt := 28) hx hb dX8_isShip_9 (by decide) (fun zc2 => absurd zc2 (by decide)) (fun zc2 => ?_)
    refine lv_aload_n hx hb dX8_isShip_12 rfl (lv_at hl 0 rfl) ?_
    refine gO (T := TX8) C0 inA8 hK hP (mMain g) rfl 0 (by decide) (hts _ q676) (v := .int (S.1 0 0 0)) rfl dX8_isShip_13 ?_
    refine lv_iload_n hx hb dX8_isShip_16 rfl (lv_at hl 1 rfl) ?_
    refine kishr hx hb dX8_isShip_17 ?_
    refine lv_iconst (v := 1) hx hb dX8_isShip_18 (by decide) ?_
    refine lv_iand hx hb dX8_isShip_19 ?_
    refine lv_iconst (v := 1) hx hb dX8_isShip_20 (by decide) ?_
    refine lv_icmp_ne (tgt := 28) hx hb dX8_isShip_21 (by decide) (fun zc3 => ?_) (fun zc3 => ?_)
    · have hf := hf.trans (if_neg zc3)
      refine lv_iconst (v := 0) hx hb dX8_isShip_28 (by decide) ?_
      exact rz hQ C0 hr hlocks hK hP hS rfl (by rw [← hF]; exact ⟨hf.symm, rfl⟩) dX8_isShip_29
    · have hf := hf.trans (if_pos zc3)
      refine lv_iconst (v := 1) hx hb dX8_isShip_24 (by decide) ?_
      refine lv_goto (tgt := 29) hx hb dX8_isShip_25 (by decide) ?_
      exact rz hQ C0 hr hlocks hK hP hS rfl (by rw [← hF]; exact ⟨hf.symm, rfl⟩) dX8_isShip_29
  · have hf := hf.trans (if_neg zc1)
    refine lv_if_eq (tgt := 28) hx hb dX8_isShip_9 (by decide) (fun zc4 => ?_) (fun zc4 => absurd (by decide) zc4)
    refine lv_iconst (v := 0) hx hb dX8_isShip_28 (by decide) ?_
    exact rz hQ C0 hr hlocks hK hP hS rfl (by rw [← hF]; exact ⟨hf.symm, rfl⟩) dX8_isShip_29
def tX8_ship (S : St) (p1 : Int32) (p2 : Int32) (p3 : Int32) (p4 : Int32) : Int32 × St :=
  (if wj (Int32.toInt64 p1) 0 5 then (if wj (Int32.toInt64 p2) 0 40 then (if wj (Int32.toInt64 p3) 0 99 then (if wj (Int32.toInt64 p4) 1 20 then (bnd (up (up S 0 0 0 ((S.1 0 0 0) ||| (ishlF 1 p1))) 0 0 1 (((up S 0 0 0 ((S.1 0 0 0) ||| (ishlF 1 p1))).1 0 0 1) ||| (ishlF 1 p1))) (fun zS9 => (bnd (up (up (up zS9 0 2 (Int32.toNatClampNeg p1) p2) 0 3 (Int32.toNatClampNeg p1) p3) 0 4 (Int32.toNatClampNeg p1) p4) (fun zS10 => (bnd (up (up (up zS10 0 5 (Int32.toNatClampNeg p1) 0) 0 6 (Int32.toNatClampNeg ((3 * p1) + 0)) 0) 0 6 (Int32.toNatClampNeg ((3 * p1) + 1)) 0) (fun zS13 => ((tX8_bitsOf (up zS13 0 6 (Int32.toNatClampNeg ((3 * p1) + 2)) 0) ((up zS13 0 6 (Int32.toNatClampNeg ((3 * p1) + 2)) 0).1 0 0 0)), (up zS13 0 6 (Int32.toNatClampNeg ((3 * p1) + 2)) 0)))))))) else ((-2), S)) else ((-2), S)) else ((-2), S)) else ((-1), S))
set_option maxHeartbeats 4000000 in
set_option maxRecDepth 100000 in
theorem kX8_ship (l : Launch) (g : Gd) (A : Nat → Prop) (hA : Ads g.1 VM A) (S : St) (p1 : Int32) (p2 : Int32) (p3 : Int32) (p4 : Int32) : Met l yX8_ship (wU yX8_ship cX8_ship 6 (some .int)) { frames := 1, cells := 0, slots := 0, locals := 25 } (va_Pc [.ref (g.1 0 0), .int p1, .int p2, .int p3, .int p4] (PW VM ctM g S)) (va_Qi (fun r u => r = (tX8_ship S p1 p2 p3 p4).1 ∧ u = (tX8_ship S p1 p2 p3 p4).2) (fun u U => PW VM ctM g u U) A) 0 0 A := by
  refine ent (cc := cX8_ship) (maxL := 6) (ret := (some .int)) (by decide) (Nat.le_of_ble_eq_true rfl) ?_
  intro p e s m below meth c args Q C0 hr hlocks hP hK hQ ls hl
  have hx := C0.1
  have hb := C0.2.1
  have hml := C0.2.2.1
  have hown := C0.2.2.2.1
  have hts := C0.2.2.2.2
  obtain ⟨F, hF⟩ : ∃ F : Int32 × St, F = tX8_ship S p1 p2 p3 p4 := ⟨_, rfl⟩
  have hf := hF
  unfold tX8_ship at hf
  have hS : va_S A s.heap s.heap [] := va_S.rf
  have hl : lv_has ls 6 [(0, .ref (g.1 0 0)), (1, .int p1), (2, .int p2), (3, .int p3), (4, .int p4)] := hl
  refine lv_iload_n hx hb dX8_ship_0 rfl (lv_at hl 1 rfl) ?_
  refine lv_i2l (v := (Int32.toInt64 p1)) hx hb dX8_ship_1 rfl ?_
  refine lv_lconst (v := 0) hx hb dX8_ship_2 (by decide) ?_
  refine lv_ldc2 (v := 5) hx hb hown (hts _ q798) dX8_ship_3 ?_
  refine kzc (va_runS (As := [.long (Int32.toInt64 p1), .long 0, .long 5]) (rest := []) C0 (kX8_in l g A hA S (Int32.toInt64 p1) 0 5) (va_cwS 3 hts (gS q799 q800 q54 q801) rfl rfl rfl (by decide +kernel) ⟨Nat.le_of_ble_eq_true rfl, Nat.le_of_ble_eq_true rfl⟩) (preS hP hK) rfl rfl hl.1 rfl (lv_room (Nat.le_of_ble_eq_true rfl)) dX8_ship_6 ⟨Nat.zero_le _, Nat.zero_le _⟩) hS (fun _ h => h) (fun zc1 H locs hP hS => ?_) (fun zc1 H locs hP hS => ?_)
  · have hf := hf.trans (if_pos zc1)
    refine lv_if_ne (tgt := 14) hx hb dX8_ship_9 (by decide) (fun zc2 => ?_) (fun zc2 => absurd zc2 (by decide))
    refine lv_iload_n hx hb dX8_ship_14 rfl (lv_at hl 2 rfl) ?_
    refine lv_i2l (v := (Int32.toInt64 p2)) hx hb dX8_ship_15 rfl ?_
    refine lv_lconst (v := 0) hx hb dX8_ship_16 (by decide) ?_
    refine lv_ldc2 (v := 40) hx hb hown (hts _ q802) dX8_ship_17 ?_
    refine kzc (va_runS (As := [.long (Int32.toInt64 p2), .long 0, .long 40]) (rest := []) C0 (kX8_in l g A hA S (Int32.toInt64 p2) 0 40) (va_cwS 3 hts (gS q799 q800 q54 q801) rfl rfl rfl (by decide +kernel) ⟨Nat.le_of_ble_eq_true rfl, Nat.le_of_ble_eq_true rfl⟩) (preS hP hK) rfl rfl hl.1 rfl (lv_room (Nat.le_of_ble_eq_true rfl)) dX8_ship_20 ⟨Nat.zero_le _, Nat.zero_le _⟩) hS (fun _ h => h) (fun zc3 H locs hP hS => ?_) (fun zc3 H locs hP hS => ?_)
    · have hf := hf.trans (if_pos zc3)
      refine lv_if_eq (tgt := 51) hx hb dX8_ship_23 (by decide) (fun zc4 => absurd zc4 (by decide)) (fun zc4 => ?_)
      refine lv_iload_n hx hb dX8_ship_26 rfl (lv_at hl 3 rfl) ?_
      refine lv_i2l (v := (Int32.toInt64 p3)) hx hb dX8_ship_27 rfl ?_
      refine lv_lconst (v := 0) hx hb dX8_ship_28 (by decide) ?_
      refine lv_ldc2 (v := 99) hx hb hown (hts _ q803) dX8_ship_29 ?_
      refine kzc (va_runS (As := [.long (Int32.toInt64 p3), .long 0, .long 99]) (rest := []) C0 (kX8_in l g A hA S (Int32.toInt64 p3) 0 99) (va_cwS 3 hts (gS q799 q800 q54 q801) rfl rfl rfl (by decide +kernel) ⟨Nat.le_of_ble_eq_true rfl, Nat.le_of_ble_eq_true rfl⟩) (preS hP hK) rfl rfl hl.1 rfl (lv_room (Nat.le_of_ble_eq_true rfl)) dX8_ship_32 ⟨Nat.zero_le _, Nat.zero_le _⟩) hS (fun _ h => h) (fun zc5 H locs hP hS => ?_) (fun zc5 H locs hP hS => ?_)
      · have hf := hf.trans (if_pos zc5)
        refine lv_if_eq (tgt := 51) hx hb dX8_ship_35 (by decide) (fun zc6 => absurd zc6 (by decide)) (fun zc6 => ?_)
        refine lv_iload hx hb dX8_ship_38 (lv_at hl 4 rfl) ?_
        refine lv_i2l (v := (Int32.toInt64 p4)) hx hb dX8_ship_40 rfl ?_
        refine lv_lconst (v := 1) hx hb dX8_ship_41 (by decide) ?_
        refine lv_ldc2 (v := 20) hx hb hown (hts _ q804) dX8_ship_42 ?_
        refine kzc (va_runS (As := [.long (Int32.toInt64 p4), .long 1, .long 20]) (rest := []) C0 (kX8_in l g A hA S (Int32.toInt64 p4) 1 20) (va_cwS 3 hts (gS q799 q800 q54 q801) rfl rfl rfl (by decide +kernel) ⟨Nat.le_of_ble_eq_true rfl, Nat.le_of_ble_eq_true rfl⟩) (preS hP hK) rfl rfl hl.1 rfl (lv_room (Nat.le_of_ble_eq_true rfl)) dX8_ship_45 ⟨Nat.zero_le _, Nat.zero_le _⟩) hS (fun _ h => h) (fun zc7 H locs hP hS => ?_) (fun zc7 H locs hP hS => ?_)
        · have hf := hf.trans (if_pos zc7)
          refine lv_if_ne (tgt := 54) hx hb dX8_ship_48 (by decide) (fun zc8 => ?_) (fun zc8 => absurd zc8 (by decide))
          refine lv_aload_n hx hb dX8_ship_54 rfl (lv_at hl 0 rfl) ?_
          refine lv_dup hx hb dX8_ship_55 rfl ?_
          refine gO (T := TX8) C0 inA8 hK hP (mMain g) rfl 0 (by decide) (hts _ q676) (v := .int (S.1 0 0 0)) rfl dX8_ship_56 ?_
          refine lv_iconst (v := 1) hx hb dX8_ship_59 (by decide) ?_
          refine lv_iload_n hx hb dX8_ship_60 rfl (lv_at hl 1 rfl) ?_
          refine kishl hx hb dX8_ship_61 ?_
          refine lv_ior hx hb dX8_ship_62 ?_
          refine pO (T := TX8) (ty0 := tyX8) locM C0 inA8 tyX8_ok nmX8 hK hP hA hS (mMain g) rfl 0 (by decide) (hts _ q676) rfl 0 ((S.1 0 0 0) ||| (ishlF 1 p1)) rfl rfl rfl (Nat.le_of_ble_eq_true rfl) dX8_ship_63 (fun H locs hP hS => ?_)
          refine lv_aload_n hx hb dX8_ship_66 rfl (lv_at hl 0 rfl) ?_
          refine lv_dup hx hb dX8_ship_67 rfl ?_
          refine gO (T := TX8) C0 inA8 hK hP (mMain g) rfl 1 (by decide) (hts _ q677) (v := .int ((up S 0 0 0 ((S.1 0 0 0) ||| (ishlF 1 p1))).1 0 0 1)) rfl dX8_ship_68 ?_
          refine lv_iconst (v := 1) hx hb dX8_ship_71 (by decide) ?_
          refine lv_iload_n hx hb dX8_ship_72 rfl (lv_at hl 1 rfl) ?_
          refine kishl hx hb dX8_ship_73 ?_
          refine lv_ior hx hb dX8_ship_74 ?_
          refine pO (T := TX8) (ty0 := tyX8) locM C0 inA8 tyX8_ok nmX8 hK hP hA hS (mMain g) rfl 1 (by decide) (hts _ q677) rfl 1 (((up S 0 0 0 ((S.1 0 0 0) ||| (ishlF 1 p1))).1 0 0 1) ||| (ishlF 1 p1)) rfl rfl rfl (Nat.le_of_ble_eq_true rfl) dX8_ship_75 (fun H locs hP hS => ?_)
          obtain ⟨zS9, hzS9⟩ : ∃ z : St, z = (up (up S 0 0 0 ((S.1 0 0 0) ||| (ishlF 1 p1))) 0 0 1 (((up S 0 0 0 ((S.1 0 0 0) ||| (ishlF 1 p1))).1 0 0 1) ||| (ishlF 1 p1))) := ⟨_, rfl⟩
          rw [← hzS9] at hP
          have hf := hf.trans (bnd_eq hzS9)
          refine lv_aload_n hx hb dX8_ship_78 rfl (lv_at hl 0 rfl) ?_
          refine gO (T := TX8) C0 inA8 hK hP (mMain g) rfl 2 (by decide) (hts _ q678) (v := .ref (g.1 0 2)) rfl dX8_ship_79 ?_
          refine lv_iload_n hx hb dX8_ship_82 rfl (lv_at hl 1 rfl) ?_
          refine lv_iload_n hx hb dX8_ship_83 rfl (lv_at hl 2 rfl) ?_
          refine pI locM C0 hK hP hA hS (mAge g) (wj_in (N := 6) zc1 (by decide) rfl) dX8_ship_84 (fun H locs hP hS => ?_)
          refine lv_aload_n hx hb dX8_ship_85 rfl (lv_at hl 0 rfl) ?_
          refine gO (T := TX8) C0 inA8 hK hP (mMain g) rfl 3 (by decide) (hts _ q679) (v := .ref (g.1 0 3)) rfl dX8_ship_86 ?_
          refine lv_iload_n hx hb dX8_ship_89 rfl (lv_at hl 1 rfl) ?_
          refine lv_iload_n hx hb dX8_ship_90 rfl (lv_at hl 3 rfl) ?_
          refine pI locM C0 hK hP hA hS (mWorth g) (wj_in (N := 6) zc1 (by decide) rfl) dX8_ship_91 (fun H locs hP hS => ?_)
          refine lv_aload_n hx hb dX8_ship_92 rfl (lv_at hl 0 rfl) ?_
          refine gO (T := TX8) C0 inA8 hK hP (mMain g) rfl 4 (by decide) (hts _ q680) (v := .ref (g.1 0 4)) rfl dX8_ship_93 ?_
          refine lv_iload_n hx hb dX8_ship_96 rfl (lv_at hl 1 rfl) ?_
          refine lv_iload hx hb dX8_ship_97 (lv_at hl 4 rfl) ?_
          refine pI locM C0 hK hP hA hS (mCrew g) (wj_in (N := 6) zc1 (by decide) rfl) dX8_ship_99 (fun H locs hP hS => ?_)
          obtain ⟨zS10, hzS10⟩ : ∃ z : St, z = (up (up (up zS9 0 2 (Int32.toNatClampNeg p1) p2) 0 3 (Int32.toNatClampNeg p1) p3) 0 4 (Int32.toNatClampNeg p1) p4) := ⟨_, rfl⟩
          rw [← hzS10] at hP
          have hf := hf.trans (bnd_eq hzS10)
          refine lv_aload_n hx hb dX8_ship_100 rfl (lv_at hl 0 rfl) ?_
          refine gO (T := TX8) C0 inA8 hK hP (mMain g) rfl 5 (by decide) (hts _ q681) (v := .ref (g.1 0 5)) rfl dX8_ship_101 ?_
          refine lv_iload_n hx hb dX8_ship_104 rfl (lv_at hl 1 rfl) ?_
          refine lv_iconst (v := 0) hx hb dX8_ship_105 (by decide) ?_
          refine pI locM C0 hK hP hA hS (mLoads g) (wj_in (N := 6) zc1 (by decide) rfl) dX8_ship_106 (fun H locs hP hS => ?_)
          refine lv_iconst (v := 0) hx hb dX8_ship_107 (by decide) ?_
          refine lv_istore (lv' := [(5, .int 0), (0, .ref (g.1 0 0)), (1, .int p1), (2, .int p2), (3, .int p3), (4, .int p4)]) hx hb dX8_ship_108 hl (by decide) rfl (fun ls hl => ?_)
          refine lv_iload hx hb dX8_ship_110 (lv_at hl 0 rfl) ?_
          refine lv_iconst (v := 3) hx hb dX8_ship_112 (by decide) ?_
          refine lv_icmp_ge (tgt := 134) hx hb dX8_ship_113 (by decide) (fun zc11 => absurd zc11 (by decide)) (fun zc11 => ?_)
          refine lv_aload_n hx hb dX8_ship_116 rfl (lv_at hl 1 rfl) ?_
          refine gO (T := TX8) C0 inA8 hK hP (mMain g) rfl 6 (by decide) (hts _ q682) (v := .ref (g.1 0 6)) rfl dX8_ship_117 ?_
          refine lv_iconst (v := 3) hx hb dX8_ship_120 (by decide) ?_
          refine lv_iload_n hx hb dX8_ship_121 rfl (lv_at hl 2 rfl) ?_
          refine lv_imul hx hb dX8_ship_122 ?_
          refine lv_iload hx hb dX8_ship_123 (lv_at hl 0 rfl) ?_
          refine lv_iadd hx hb dX8_ship_125 ?_
          refine lv_iconst (v := 0) hx hb dX8_ship_126 (by decide) ?_
          refine pI locM C0 hK hP hA hS (mSums g) (vp3 (wj_in (N := 6) zc1 (by decide) rfl) (show wi 0 0 2 by decide)) dX8_ship_127 (fun H locs hP hS => ?_)
          refine lv_iinc (v := 1) (lv' := [(5, .int 1), (0, .ref (g.1 0 0)), (1, .int p1), (2, .int p2), (3, .int p3), (4, .int p4)]) hx hb dX8_ship_128 hl (k := 0) rfl (by decide) (by decide) rfl (fun ls hl => ?_)
          refine lv_goto (tgt := 110) hx hb dX8_ship_131 (by decide) ?_
          refine lv_iload hx hb dX8_ship_110 (lv_at hl 0 rfl) ?_
          refine lv_iconst (v := 3) hx hb dX8_ship_112 (by decide) ?_
          refine lv_icmp_ge (tgt := 134) hx hb dX8_ship_113 (by decide) (fun zc12 => absurd zc12 (by decide)) (fun zc12 => ?_)
          refine lv_aload_n hx hb dX8_ship_116 rfl (lv_at hl 1 rfl) ?_
          refine gO (T := TX8) C0 inA8 hK hP (mMain g) rfl 6 (by decide) (hts _ q682) (v := .ref (g.1 0 6)) rfl dX8_ship_117 ?_
          refine lv_iconst (v := 3) hx hb dX8_ship_120 (by decide) ?_
          refine lv_iload_n hx hb dX8_ship_121 rfl (lv_at hl 2 rfl) ?_
          refine lv_imul hx hb dX8_ship_122 ?_
          refine lv_iload hx hb dX8_ship_123 (lv_at hl 0 rfl) ?_
          refine lv_iadd hx hb dX8_ship_125 ?_
          refine lv_iconst (v := 0) hx hb dX8_ship_126 (by decide) ?_
          refine pI locM C0 hK hP hA hS (mSums g) (vp3 (wj_in (N := 6) zc1 (by decide) rfl) (show wi 1 0 2 by decide)) dX8_ship_127 (fun H locs hP hS => ?_)
          obtain ⟨zS13, hzS13⟩ : ∃ z : St, z = (up (up (up zS10 0 5 (Int32.toNatClampNeg p1) 0) 0 6 (Int32.toNatClampNeg ((3 * p1) + 0)) 0) 0 6 (Int32.toNatClampNeg ((3 * p1) + 1)) 0) := ⟨_, rfl⟩
          rw [← hzS13] at hP
          have hf := hf.trans (bnd_eq hzS13)
          refine lv_iinc (v := 2) (lv' := [(5, .int 2), (0, .ref (g.1 0 0)), (1, .int p1), (2, .int p2), (3, .int p3), (4, .int p4)]) hx hb dX8_ship_128 hl (k := 0) rfl (by decide) (by decide) rfl (fun ls hl => ?_)
          refine lv_goto (tgt := 110) hx hb dX8_ship_131 (by decide) ?_
          refine lv_iload hx hb dX8_ship_110 (lv_at hl 0 rfl) ?_
          refine lv_iconst (v := 3) hx hb dX8_ship_112 (by decide) ?_
          refine lv_icmp_ge (tgt := 134) hx hb dX8_ship_113 (by decide) (fun zc14 => absurd zc14 (by decide)) (fun zc14 => ?_)
          refine lv_aload_n hx hb dX8_ship_116 rfl (lv_at hl 1 rfl) ?_
          refine gO (T := TX8) C0 inA8 hK hP (mMain g) rfl 6 (by decide) (hts _ q682) (v := .ref (g.1 0 6)) rfl dX8_ship_117 ?_
          refine lv_iconst (v := 3) hx hb dX8_ship_120 (by decide) ?_
          refine lv_iload_n hx hb dX8_ship_121 rfl (lv_at hl 2 rfl) ?_
          refine lv_imul hx hb dX8_ship_122 ?_
          refine lv_iload hx hb dX8_ship_123 (lv_at hl 0 rfl) ?_
          refine lv_iadd hx hb dX8_ship_125 ?_
          refine lv_iconst (v := 0) hx hb dX8_ship_126 (by decide) ?_
          refine pI locM C0 hK hP hA hS (mSums g) (vp3 (wj_in (N := 6) zc1 (by decide) rfl) (show wi 2 0 2 by decide)) dX8_ship_127 (fun H locs hP hS => ?_)
          refine lv_iinc (v := 3) (lv' := [(5, .int 3), (0, .ref (g.1 0 0)), (1, .int p1), (2, .int p2), (3, .int p3), (4, .int p4)]) hx hb dX8_ship_128 hl (k := 0) rfl (by decide) (by decide) rfl (fun ls hl => ?_)
          refine lv_goto (tgt := 110) hx hb dX8_ship_131 (by decide) ?_
          refine lv_iload hx hb dX8_ship_110 (lv_at hl 0 rfl) ?_
          refine lv_iconst (v := 3) hx hb dX8_ship_112 (by decide) ?_
          refine lv_icmp_ge (tgt := 134) hx hb dX8_ship_113 (by decide) (fun zc15 => ?_) (fun zc15 => absurd (by decide) zc15)
          refine lv_aload_n hx hb dX8_ship_134 rfl (lv_at hl 1 rfl) ?_
          refine gO (T := TX8) C0 inA8 hK hP (mMain g) rfl 0 (by decide) (hts _ q676) (v := .int ((up zS13 0 6 (Int32.toNatClampNeg ((3 * p1) + 2)) 0).1 0 0 0)) rfl dX8_ship_135 ?_
          refine kiP (va_runS (As := [.int ((up zS13 0 6 (Int32.toNatClampNeg ((3 * p1) + 2)) 0).1 0 0 0)]) (rest := []) C0 (kX8_bitsOf l g A hA (up zS13 0 6 (Int32.toNatClampNeg ((3 * p1) + 2)) 0) ((up zS13 0 6 (Int32.toNatClampNeg ((3 * p1) + 2)) 0).1 0 0 0)) (va_cwS 1 hts (gS q805 q806 q54 q807) rfl rfl rfl (by decide +kernel) ⟨Nat.le_of_ble_eq_true rfl, Nat.le_of_ble_eq_true rfl⟩) (preS hP hK) rfl rfl hl.1 rfl (lv_room (Nat.le_of_ble_eq_true rfl)) dX8_ship_138 ⟨Nat.zero_le _, Nat.zero_le _⟩) hS (fun _ h => h) (fun H locs hP hS => ?_)
          exact ri hQ C0 hr hlocks hK hP hS (by rw [← hF]; exact fin2 hf) dX8_ship_141
        · have hf := hf.trans (if_neg zc7)
          refine lv_if_ne (tgt := 54) hx hb dX8_ship_48 (by decide) (fun zc16 => absurd (by decide) zc16) (fun zc16 => ?_)
          refine lv_bipush (v := (-2)) hx hb dX8_ship_51 (by decide) ?_
          exact ri hQ C0 hr hlocks hK hP hS (by rw [← hF]; exact fin2 hf) dX8_ship_53
      · have hf := hf.trans (if_neg zc5)
        refine lv_if_eq (tgt := 51) hx hb dX8_ship_35 (by decide) (fun zc17 => ?_) (fun zc17 => absurd (by decide) zc17)
        refine lv_bipush (v := (-2)) hx hb dX8_ship_51 (by decide) ?_
        exact ri hQ C0 hr hlocks hK hP hS (by rw [← hF]; exact fin2 hf) dX8_ship_53
    · have hf := hf.trans (if_neg zc3)
      refine lv_if_eq (tgt := 51) hx hb dX8_ship_23 (by decide) (fun zc18 => ?_) (fun zc18 => absurd (by decide) zc18)
      refine lv_bipush (v := (-2)) hx hb dX8_ship_51 (by decide) ?_
      exact ri hQ C0 hr hlocks hK hP hS (by rw [← hF]; exact fin2 hf) dX8_ship_53
  · have hf := hf.trans (if_neg zc1)
    refine lv_if_ne (tgt := 14) hx hb dX8_ship_9 (by decide) (fun zc19 => absurd (by decide) zc19) (fun zc19 => ?_)
    refine lv_iconst (v := (-1)) hx hb dX8_ship_12 (by decide) ?_
    exact ri hQ C0 hr hlocks hK hP hS (by rw [← hF]; exact fin2 hf) dX8_ship_13
def tX8_sell (S : St) (p1 : Int32) : Int32 × St :=
  (if mSh S p1 then (bnd (up (up S 0 0 0 ((S.1 0 0 0) &&& ((ishlF 1 p1) ^^^ (-1)))) 0 0 1 (((up S 0 0 0 ((S.1 0 0 0) &&& ((ishlF 1 p1) ^^^ (-1)))).1 0 0 1) &&& ((ishlF 1 p1) ^^^ (-1)))) (fun zS3 => ((tX8_bitsOf zS3 (zS3.1 0 0 0)), zS3))) else ((-1), S))
set_option maxHeartbeats 4000000 in
set_option maxRecDepth 100000 in
theorem kX8_sell (l : Launch) (g : Gd) (A : Nat → Prop) (hA : Ads g.1 VM A) (S : St) (p1 : Int32) : Met l yX8_sell (wU yX8_sell cX8_sell 2 (some .int)) { frames := 2, cells := 0, slots := 0, locals := 46 } (va_Pc [.ref (g.1 0 0), .int p1] (PW VM ctM g S)) (va_Qi (fun r u => r = (tX8_sell S p1).1 ∧ u = (tX8_sell S p1).2) (fun u U => PW VM ctM g u U) A) 0 0 A := by
  refine ent (cc := cX8_sell) (maxL := 2) (ret := (some .int)) (by decide) (Nat.le_of_ble_eq_true rfl) ?_
  intro p e s m below meth c args Q C0 hr hlocks hP hK hQ ls hl
  have hx := C0.1
  have hb := C0.2.1
  have hml := C0.2.2.1
  have hown := C0.2.2.2.1
  have hts := C0.2.2.2.2
  obtain ⟨F, hF⟩ : ∃ F : Int32 × St, F = tX8_sell S p1 := ⟨_, rfl⟩
  have hf := hF
  unfold tX8_sell at hf
  have hS : va_S A s.heap s.heap [] := va_S.rf
  have hl : lv_has ls 2 [(0, .ref (g.1 0 0)), (1, .int p1)] := hl
  refine lv_aload_n hx hb dX8_sell_0 rfl (lv_at hl 0 rfl) ?_
  refine lv_iload_n hx hb dX8_sell_1 rfl (lv_at hl 1 rfl) ?_
  refine kzc (va_runV (As := [.int p1]) (rest := []) C0 (kX8_isShip l g A hA S p1) (cwV 1 hts (gV q812 q814 q13 q54 q815) rfl rfl rfl (by decide +kernel) ⟨Nat.le_of_ble_eq_true rfl, Nat.le_of_ble_eq_true rfl⟩) (preV (recO (mMain g) hP hK rfl) hP hK) rfl rfl hl.1 rfl (lv_room (Nat.le_of_ble_eq_true rfl)) dX8_sell_2 ⟨Nat.zero_le _, Nat.zero_le _⟩) hS (fun _ h => h) (fun zc1 H locs hP hS => ?_) (fun zc1 H locs hP hS => ?_)
  · have hf := hf.trans (if_pos zc1)
    refine lv_if_ne (tgt := 10) hx hb dX8_sell_5 (by decide) (fun zc2 => ?_) (fun zc2 => absurd zc2 (by decide))
    refine lv_aload_n hx hb dX8_sell_10 rfl (lv_at hl 0 rfl) ?_
    refine lv_dup hx hb dX8_sell_11 rfl ?_
    refine gO (T := TX8) C0 inA8 hK hP (mMain g) rfl 0 (by decide) (hts _ q676) (v := .int (S.1 0 0 0)) rfl dX8_sell_12 ?_
    refine lv_iconst (v := 1) hx hb dX8_sell_15 (by decide) ?_
    refine lv_iload_n hx hb dX8_sell_16 rfl (lv_at hl 1 rfl) ?_
    refine kishl hx hb dX8_sell_17 ?_
    refine lv_iconst (v := (-1)) hx hb dX8_sell_18 (by decide) ?_
    refine lv_ixor hx hb dX8_sell_19 ?_
    refine lv_iand hx hb dX8_sell_20 ?_
    refine pO (T := TX8) (ty0 := tyX8) locM C0 inA8 tyX8_ok nmX8 hK hP hA hS (mMain g) rfl 0 (by decide) (hts _ q676) rfl 0 ((S.1 0 0 0) &&& ((ishlF 1 p1) ^^^ (-1))) rfl rfl rfl (Nat.le_of_ble_eq_true rfl) dX8_sell_21 (fun H locs hP hS => ?_)
    refine lv_aload_n hx hb dX8_sell_24 rfl (lv_at hl 0 rfl) ?_
    refine lv_dup hx hb dX8_sell_25 rfl ?_
    refine gO (T := TX8) C0 inA8 hK hP (mMain g) rfl 1 (by decide) (hts _ q677) (v := .int ((up S 0 0 0 ((S.1 0 0 0) &&& ((ishlF 1 p1) ^^^ (-1)))).1 0 0 1)) rfl dX8_sell_26 ?_
    refine lv_iconst (v := 1) hx hb dX8_sell_29 (by decide) ?_
    refine lv_iload_n hx hb dX8_sell_30 rfl (lv_at hl 1 rfl) ?_
    refine kishl hx hb dX8_sell_31 ?_
    refine lv_iconst (v := (-1)) hx hb dX8_sell_32 (by decide) ?_
    refine lv_ixor hx hb dX8_sell_33 ?_
    refine lv_iand hx hb dX8_sell_34 ?_
    refine pO (T := TX8) (ty0 := tyX8) locM C0 inA8 tyX8_ok nmX8 hK hP hA hS (mMain g) rfl 1 (by decide) (hts _ q677) rfl 1 (((up S 0 0 0 ((S.1 0 0 0) &&& ((ishlF 1 p1) ^^^ (-1)))).1 0 0 1) &&& ((ishlF 1 p1) ^^^ (-1))) rfl rfl rfl (Nat.le_of_ble_eq_true rfl) dX8_sell_35 (fun H locs hP hS => ?_)
    obtain ⟨zS3, hzS3⟩ : ∃ z : St, z = (up (up S 0 0 0 ((S.1 0 0 0) &&& ((ishlF 1 p1) ^^^ (-1)))) 0 0 1 (((up S 0 0 0 ((S.1 0 0 0) &&& ((ishlF 1 p1) ^^^ (-1)))).1 0 0 1) &&& ((ishlF 1 p1) ^^^ (-1)))) := ⟨_, rfl⟩
    rw [← hzS3] at hP
    have hf := hf.trans (bnd_eq hzS3)
    refine lv_aload_n hx hb dX8_sell_38 rfl (lv_at hl 0 rfl) ?_
    refine gO (T := TX8) C0 inA8 hK hP (mMain g) rfl 0 (by decide) (hts _ q676) (v := .int (zS3.1 0 0 0)) rfl dX8_sell_39 ?_
    refine kiP (va_runS (As := [.int (zS3.1 0 0 0)]) (rest := []) C0 (kX8_bitsOf l g A hA zS3 (zS3.1 0 0 0)) (va_cwS 1 hts (gS q805 q806 q54 q807) rfl rfl rfl (by decide +kernel) ⟨Nat.le_of_ble_eq_true rfl, Nat.le_of_ble_eq_true rfl⟩) (preS hP hK) rfl rfl hl.1 rfl (lv_room (Nat.le_of_ble_eq_true rfl)) dX8_sell_42 ⟨Nat.zero_le _, Nat.zero_le _⟩) hS (fun _ h => h) (fun H locs hP hS => ?_)
    exact ri hQ C0 hr hlocks hK hP hS (by rw [← hF]; exact fin2 hf) dX8_sell_45
  · have hf := hf.trans (if_neg zc1)
    refine lv_if_ne (tgt := 10) hx hb dX8_sell_5 (by decide) (fun zc4 => absurd (by decide) zc4) (fun zc4 => ?_)
    refine lv_iconst (v := (-1)) hx hb dX8_sell_8 (by decide) ?_
    exact ri hQ C0 hr hlocks hK hP hS (by rw [← hF]; exact fin2 hf) dX8_sell_9
def tX8_insure (S : St) (p1 : Int32) (p2 : Int32) (p3 : Int32) : Int32 × St :=
  (if mSh S p1 then (if wj (Int32.toInt64 p2) 0 2 then (if wj (Int32.toInt64 p3) 0 99 then ((S.1 0 6 (Int32.toNatClampNeg ((3 * p1) + p2))), (up S 0 6 (Int32.toNatClampNeg ((3 * p1) + p2)) p3)) else ((-2), S)) else ((-2), S)) else ((-1), S))
set_option maxHeartbeats 4000000 in
set_option maxRecDepth 100000 in
theorem kX8_insure (l : Launch) (g : Gd) (A : Nat → Prop) (hA : Ads g.1 VM A) (S : St) (p1 : Int32) (p2 : Int32) (p3 : Int32) : Met l yX8_insure (wU yX8_insure cX8_insure 5 (some .int)) { frames := 2, cells := 0, slots := 0, locals := 46 } (va_Pc [.ref (g.1 0 0), .int p1, .int p2, .int p3] (PW VM ctM g S)) (va_Qi (fun r u => r = (tX8_insure S p1 p2 p3).1 ∧ u = (tX8_insure S p1 p2 p3).2) (fun u U => PW VM ctM g u U) A) 0 0 A := by
  refine ent (cc := cX8_insure) (maxL := 5) (ret := (some .int)) (by decide) (Nat.le_of_ble_eq_true rfl) ?_
  intro p e s m below meth c args Q C0 hr hlocks hP hK hQ ls hl
  have hx := C0.1
  have hb := C0.2.1
  have hml := C0.2.2.1
  have hown := C0.2.2.2.1
  have hts := C0.2.2.2.2
  obtain ⟨F, hF⟩ : ∃ F : Int32 × St, F = tX8_insure S p1 p2 p3 := ⟨_, rfl⟩
  have hf := hF
  unfold tX8_insure at hf
  have hS : va_S A s.heap s.heap [] := va_S.rf
  have hl : lv_has ls 5 [(0, .ref (g.1 0 0)), (1, .int p1), (2, .int p2), (3, .int p3)] := hl
  refine lv_aload_n hx hb dX8_insure_0 rfl (lv_at hl 0 rfl) ?_
  refine lv_iload_n hx hb dX8_insure_1 rfl (lv_at hl 1 rfl) ?_
  refine kzc (va_runV (As := [.int p1]) (rest := []) C0 (kX8_isShip l g A hA S p1) (cwV 1 hts (gV q812 q814 q13 q54 q815) rfl rfl rfl (by decide +kernel) ⟨Nat.le_of_ble_eq_true rfl, Nat.le_of_ble_eq_true rfl⟩) (preV (recO (mMain g) hP hK rfl) hP hK) rfl rfl hl.1 rfl (lv_room (Nat.le_of_ble_eq_true rfl)) dX8_insure_2 ⟨Nat.zero_le _, Nat.zero_le _⟩) hS (fun _ h => h) (fun zc1 H locs hP hS => ?_) (fun zc1 H locs hP hS => ?_)
  · have hf := hf.trans (if_pos zc1)
    refine lv_if_ne (tgt := 10) hx hb dX8_insure_5 (by decide) (fun zc2 => ?_) (fun zc2 => absurd zc2 (by decide))
    refine lv_iload_n hx hb dX8_insure_10 rfl (lv_at hl 2 rfl) ?_
    refine lv_i2l (v := (Int32.toInt64 p2)) hx hb dX8_insure_11 rfl ?_
    refine lv_lconst (v := 0) hx hb dX8_insure_12 (by decide) ?_
    refine lv_ldc2 (v := 2) hx hb hown (hts _ q820) dX8_insure_13 ?_
    refine kzc (va_runS (As := [.long (Int32.toInt64 p2), .long 0, .long 2]) (rest := []) C0 (kX8_in l g A hA S (Int32.toInt64 p2) 0 2) (va_cwS 3 hts (gS q799 q800 q54 q801) rfl rfl rfl (by decide +kernel) ⟨Nat.le_of_ble_eq_true rfl, Nat.le_of_ble_eq_true rfl⟩) (preS hP hK) rfl rfl hl.1 rfl (lv_room (Nat.le_of_ble_eq_true rfl)) dX8_insure_16 ⟨Nat.zero_le _, Nat.zero_le _⟩) hS (fun _ h => h) (fun zc3 H locs hP hS => ?_) (fun zc3 H locs hP hS => ?_)
    · have hf := hf.trans (if_pos zc3)
      refine lv_if_eq (tgt := 34) hx hb dX8_insure_19 (by decide) (fun zc4 => absurd zc4 (by decide)) (fun zc4 => ?_)
      refine lv_iload_n hx hb dX8_insure_22 rfl (lv_at hl 3 rfl) ?_
      refine lv_i2l (v := (Int32.toInt64 p3)) hx hb dX8_insure_23 rfl ?_
      refine lv_lconst (v := 0) hx hb dX8_insure_24 (by decide) ?_
      refine lv_ldc2 (v := 99) hx hb hown (hts _ q803) dX8_insure_25 ?_
      refine kzc (va_runS (As := [.long (Int32.toInt64 p3), .long 0, .long 99]) (rest := []) C0 (kX8_in l g A hA S (Int32.toInt64 p3) 0 99) (va_cwS 3 hts (gS q799 q800 q54 q801) rfl rfl rfl (by decide +kernel) ⟨Nat.le_of_ble_eq_true rfl, Nat.le_of_ble_eq_true rfl⟩) (preS hP hK) rfl rfl hl.1 rfl (lv_room (Nat.le_of_ble_eq_true rfl)) dX8_insure_28 ⟨Nat.zero_le _, Nat.zero_le _⟩) hS (fun _ h => h) (fun zc5 H locs hP hS => ?_) (fun zc5 H locs hP hS => ?_)
      · have hf := hf.trans (if_pos zc5)
        refine lv_if_ne (tgt := 37) hx hb dX8_insure_31 (by decide) (fun zc6 => ?_) (fun zc6 => absurd zc6 (by decide))
        refine lv_aload_n hx hb dX8_insure_37 rfl (lv_at hl 0 rfl) ?_
        refine gO (T := TX8) C0 inA8 hK hP (mMain g) rfl 6 (by decide) (hts _ q682) (v := .ref (g.1 0 6)) rfl dX8_insure_38 ?_
        refine lv_iconst (v := 3) hx hb dX8_insure_41 (by decide) ?_
        refine lv_iload_n hx hb dX8_insure_42 rfl (lv_at hl 1 rfl) ?_
        refine lv_imul hx hb dX8_insure_43 ?_
        refine lv_iload_n hx hb dX8_insure_44 rfl (lv_at hl 2 rfl) ?_
        refine lv_iadd hx hb dX8_insure_45 ?_
        refine gI C0 hK hP (mSums g) (vp3 (mSh_in zc1) (wj_wi zc3 (by decide) (by decide) : wi p2 0 2)) dX8_insure_46 ?_
        refine lv_istore (lv' := [(4, .int (S.1 0 6 (Int32.toNatClampNeg ((3 * p1) + p2)))), (0, .ref (g.1 0 0)), (1, .int p1), (2, .int p2), (3, .int p3)]) hx hb dX8_insure_47 hl (by decide) rfl (fun ls hl => ?_)
        refine lv_aload_n hx hb dX8_insure_49 rfl (lv_at hl 1 rfl) ?_
        refine gO (T := TX8) C0 inA8 hK hP (mMain g) rfl 6 (by decide) (hts _ q682) (v := .ref (g.1 0 6)) rfl dX8_insure_50 ?_
        refine lv_iconst (v := 3) hx hb dX8_insure_53 (by decide) ?_
        refine lv_iload_n hx hb dX8_insure_54 rfl (lv_at hl 2 rfl) ?_
        refine lv_imul hx hb dX8_insure_55 ?_
        refine lv_iload_n hx hb dX8_insure_56 rfl (lv_at hl 3 rfl) ?_
        refine lv_iadd hx hb dX8_insure_57 ?_
        refine lv_iload_n hx hb dX8_insure_58 rfl (lv_at hl 4 rfl) ?_
        refine pI locM C0 hK hP hA hS (mSums g) (vp3 (mSh_in zc1) (wj_wi zc3 (by decide) (by decide) : wi p2 0 2)) dX8_insure_59 (fun H locs hP hS => ?_)
        refine lv_iload hx hb dX8_insure_60 (lv_at hl 0 rfl) ?_
        exact ri hQ C0 hr hlocks hK hP hS (by rw [← hF]; exact fin2 hf) dX8_insure_62
      · have hf := hf.trans (if_neg zc5)
        refine lv_if_ne (tgt := 37) hx hb dX8_insure_31 (by decide) (fun zc7 => absurd (by decide) zc7) (fun zc7 => ?_)
        refine lv_bipush (v := (-2)) hx hb dX8_insure_34 (by decide) ?_
        exact ri hQ C0 hr hlocks hK hP hS (by rw [← hF]; exact fin2 hf) dX8_insure_36
    · have hf := hf.trans (if_neg zc3)
      refine lv_if_eq (tgt := 34) hx hb dX8_insure_19 (by decide) (fun zc8 => ?_) (fun zc8 => absurd (by decide) zc8)
      refine lv_bipush (v := (-2)) hx hb dX8_insure_34 (by decide) ?_
      exact ri hQ C0 hr hlocks hK hP hS (by rw [← hF]; exact fin2 hf) dX8_insure_36
  · have hf := hf.trans (if_neg zc1)
    refine lv_if_ne (tgt := 10) hx hb dX8_insure_5 (by decide) (fun zc9 => absurd (by decide) zc9) (fun zc9 => ?_)
    refine lv_iconst (v := (-1)) hx hb dX8_insure_8 (by decide) ?_
    exact ri hQ C0 hr hlocks hK hP hS (by rw [← hF]; exact fin2 hf) dX8_insure_9
def tX8_load (S : St) (p1 : Int32) (p2 : Int32) : Int32 × St :=
  (if mSh S p1 then (if wj (Int32.toInt64 p2) 0 9 then ((S.1 0 5 (Int32.toNatClampNeg p1)), (up S 0 5 (Int32.toNatClampNeg p1) p2)) else ((-2), S)) else ((-1), S))
set_option maxHeartbeats 4000000 in
set_option maxRecDepth 100000 in
theorem kX8_load (l : Launch) (g : Gd) (A : Nat → Prop) (hA : Ads g.1 VM A) (S : St) (p1 : Int32) (p2 : Int32) : Met l yX8_load (wU yX8_load cX8_load 4 (some .int)) { frames := 2, cells := 0, slots := 0, locals := 46 } (va_Pc [.ref (g.1 0 0), .int p1, .int p2] (PW VM ctM g S)) (va_Qi (fun r u => r = (tX8_load S p1 p2).1 ∧ u = (tX8_load S p1 p2).2) (fun u U => PW VM ctM g u U) A) 0 0 A := by
  refine ent (cc := cX8_load) (maxL := 4) (ret := (some .int)) (by decide) (Nat.le_of_ble_eq_true rfl) ?_
  intro p e s m below meth c args Q C0 hr hlocks hP hK hQ ls hl
  have hx := C0.1
  have hb := C0.2.1
  have hml := C0.2.2.1
  have hown := C0.2.2.2.1
  have hts := C0.2.2.2.2
  obtain ⟨F, hF⟩ : ∃ F : Int32 × St, F = tX8_load S p1 p2 := ⟨_, rfl⟩
  have hf := hF
  unfold tX8_load at hf
  have hS : va_S A s.heap s.heap [] := va_S.rf
  have hl : lv_has ls 4 [(0, .ref (g.1 0 0)), (1, .int p1), (2, .int p2)] := hl
  refine lv_aload_n hx hb dX8_load_0 rfl (lv_at hl 0 rfl) ?_
  refine lv_iload_n hx hb dX8_load_1 rfl (lv_at hl 1 rfl) ?_
  refine kzc (va_runV (As := [.int p1]) (rest := []) C0 (kX8_isShip l g A hA S p1) (cwV 1 hts (gV q812 q814 q13 q54 q815) rfl rfl rfl (by decide +kernel) ⟨Nat.le_of_ble_eq_true rfl, Nat.le_of_ble_eq_true rfl⟩) (preV (recO (mMain g) hP hK rfl) hP hK) rfl rfl hl.1 rfl (lv_room (Nat.le_of_ble_eq_true rfl)) dX8_load_2 ⟨Nat.zero_le _, Nat.zero_le _⟩) hS (fun _ h => h) (fun zc1 H locs hP hS => ?_) (fun zc1 H locs hP hS => ?_)
  · have hf := hf.trans (if_pos zc1)
    refine lv_if_ne (tgt := 10) hx hb dX8_load_5 (by decide) (fun zc2 => ?_) (fun zc2 => absurd zc2 (by decide))
    refine lv_iload_n hx hb dX8_load_10 rfl (lv_at hl 2 rfl) ?_
    refine lv_i2l (v := (Int32.toInt64 p2)) hx hb dX8_load_11 rfl ?_
    refine lv_lconst (v := 0) hx hb dX8_load_12 (by decide) ?_
    refine lv_ldc2 (v := 9) hx hb hown (hts _ q825) dX8_load_13 ?_
    refine kzc (va_runS (As := [.long (Int32.toInt64 p2), .long 0, .long 9]) (rest := []) C0 (kX8_in l g A hA S (Int32.toInt64 p2) 0 9) (va_cwS 3 hts (gS q799 q800 q54 q801) rfl rfl rfl (by decide +kernel) ⟨Nat.le_of_ble_eq_true rfl, Nat.le_of_ble_eq_true rfl⟩) (preS hP hK) rfl rfl hl.1 rfl (lv_room (Nat.le_of_ble_eq_true rfl)) dX8_load_16 ⟨Nat.zero_le _, Nat.zero_le _⟩) hS (fun _ h => h) (fun zc3 H locs hP hS => ?_) (fun zc3 H locs hP hS => ?_)
    · have hf := hf.trans (if_pos zc3)
      refine lv_if_ne (tgt := 25) hx hb dX8_load_19 (by decide) (fun zc4 => ?_) (fun zc4 => absurd zc4 (by decide))
      refine lv_aload_n hx hb dX8_load_25 rfl (lv_at hl 0 rfl) ?_
      refine gO (T := TX8) C0 inA8 hK hP (mMain g) rfl 5 (by decide) (hts _ q681) (v := .ref (g.1 0 5)) rfl dX8_load_26 ?_
      refine lv_iload_n hx hb dX8_load_29 rfl (lv_at hl 1 rfl) ?_
      refine gI C0 hK hP (mLoads g) (mSh_in zc1) dX8_load_30 ?_
      refine lv_istore_n (lv' := [(3, .int (S.1 0 5 (Int32.toNatClampNeg p1))), (0, .ref (g.1 0 0)), (1, .int p1), (2, .int p2)]) hx hb dX8_load_31 rfl hl (by decide) rfl (fun ls hl => ?_)
      refine lv_aload_n hx hb dX8_load_32 rfl (lv_at hl 1 rfl) ?_
      refine gO (T := TX8) C0 inA8 hK hP (mMain g) rfl 5 (by decide) (hts _ q681) (v := .ref (g.1 0 5)) rfl dX8_load_33 ?_
      refine lv_iload_n hx hb dX8_load_36 rfl (lv_at hl 2 rfl) ?_
      refine lv_iload_n hx hb dX8_load_37 rfl (lv_at hl 3 rfl) ?_
      refine pI locM C0 hK hP hA hS (mLoads g) (mSh_in zc1) dX8_load_38 (fun H locs hP hS => ?_)
      refine lv_iload_n hx hb dX8_load_39 rfl (lv_at hl 0 rfl) ?_
      exact ri hQ C0 hr hlocks hK hP hS (by rw [← hF]; exact fin2 hf) dX8_load_40
    · have hf := hf.trans (if_neg zc3)
      refine lv_if_ne (tgt := 25) hx hb dX8_load_19 (by decide) (fun zc5 => absurd (by decide) zc5) (fun zc5 => ?_)
      refine lv_bipush (v := (-2)) hx hb dX8_load_22 (by decide) ?_
      exact ri hQ C0 hr hlocks hK hP hS (by rw [← hF]; exact fin2 hf) dX8_load_24
  · have hf := hf.trans (if_neg zc1)
    refine lv_if_ne (tgt := 10) hx hb dX8_load_5 (by decide) (fun zc6 => absurd (by decide) zc6) (fun zc6 => ?_)
    refine lv_iconst (v := (-1)) hx hb dX8_load_8 (by decide) ?_
    exact ri hQ C0 hr hlocks hK hP hS (by rw [← hF]; exact fin2 hf) dX8_load_9
def tX8_set (S : St) (p1 : Int32) (p2 : Int32) : Int32 × St :=
  (if wj (Int32.toInt64 p1) 0 2 then (if p1 = 0 then (if wj (Int32.toInt64 p2) 0 99 then (if p1 = 1 then (if p1 = 2 then ((S.1 0 0 7), (up (up (up S 0 0 7 p2) 0 0 8 p2) 0 0 9 p2)) else ((S.1 0 0 7), (up (up (up S 0 0 7 p2) 0 0 8 p2) 0 0 9 ((up (up S 0 0 7 p2) 0 0 8 p2).1 0 0 9)))) else (if p1 = 2 then ((S.1 0 0 7), (up (up (up S 0 0 7 p2) 0 0 8 ((up S 0 0 7 p2).1 0 0 8)) 0 0 9 p2)) else (bnd (up (up (up S 0 0 7 p2) 0 0 8 ((up S 0 0 7 p2).1 0 0 8)) 0 0 9 ((up (up S 0 0 7 p2) 0 0 8 ((up S 0 0 7 p2).1 0 0 8)).1 0 0 9)) (fun zS29 => ((S.1 0 0 7), zS29))))) else ((-2), S)) else (if p1 = 1 then (if wj (Int32.toInt64 p2) 0 20 then (if p1 = 2 then ((S.1 0 0 8), (up (up (up S 0 0 7 (S.1 0 0 7)) 0 0 8 p2) 0 0 9 p2)) else (bnd (up (up (up S 0 0 7 (S.1 0 0 7)) 0 0 8 p2) 0 0 9 ((up (up S 0 0 7 (S.1 0 0 7)) 0 0 8 p2).1 0 0 9)) (fun zS21 => ((S.1 0 0 8), zS21)))) else ((-2), S)) else (if wj (Int32.toInt64 p2) 0 1 then (if p1 = 2 then ((S.1 0 0 9), (up (up (up S 0 0 7 (S.1 0 0 7)) 0 0 8 ((up S 0 0 7 (S.1 0 0 7)).1 0 0 8)) 0 0 9 p2)) else (bnd (up (up (up S 0 0 7 (S.1 0 0 7)) 0 0 8 ((up S 0 0 7 (S.1 0 0 7)).1 0 0 8)) 0 0 9 ((up (up S 0 0 7 (S.1 0 0 7)) 0 0 8 ((up S 0 0 7 (S.1 0 0 7)).1 0 0 8)).1 0 0 9)) (fun zS12 => ((S.1 0 0 9), zS12)))) else ((-2), S)))) else ((-2), S))
set_option maxHeartbeats 4000000 in
set_option maxRecDepth 100000 in
theorem kX8_set (l : Launch) (g : Gd) (A : Nat → Prop) (hA : Ads g.1 VM A) (S : St) (p1 : Int32) (p2 : Int32) : Met l yX8_set (wU yX8_set cX8_set 4 (some .int)) { frames := 1, cells := 0, slots := 0, locals := 25 } (va_Pc [.ref (g.1 0 0), .int p1, .int p2] (PW VM ctM g S)) (va_Qi (fun r u => r = (tX8_set S p1 p2).1 ∧ u = (tX8_set S p1 p2).2) (fun u U => PW VM ctM g u U) A) 0 0 A := by
  refine ent (cc := cX8_set) (maxL := 4) (ret := (some .int)) (by decide) (Nat.le_of_ble_eq_true rfl) ?_
  intro p e s m below meth c args Q C0 hr hlocks hP hK hQ ls hl
  have hx := C0.1
  have hb := C0.2.1
  have hml := C0.2.2.1
  have hown := C0.2.2.2.1
  have hts := C0.2.2.2.2
  obtain ⟨F, hF⟩ : ∃ F : Int32 × St, F = tX8_set S p1 p2 := ⟨_, rfl⟩
  have hf := hF
  unfold tX8_set at hf
  have hS : va_S A s.heap s.heap [] := va_S.rf
  have hl : lv_has ls 4 [(0, .ref (g.1 0 0)), (1, .int p1), (2, .int p2)] := hl
  refine lv_iload_n hx hb dX8_set_0 rfl (lv_at hl 1 rfl) ?_
  refine lv_i2l (v := (Int32.toInt64 p1)) hx hb dX8_set_1 rfl ?_
  refine lv_lconst (v := 0) hx hb dX8_set_2 (by decide) ?_
  refine lv_ldc2 (v := 2) hx hb hown (hts _ q820) dX8_set_3 ?_
  refine kzc (va_runS (As := [.long (Int32.toInt64 p1), .long 0, .long 2]) (rest := []) C0 (kX8_in l g A hA S (Int32.toInt64 p1) 0 2) (va_cwS 3 hts (gS q799 q800 q54 q801) rfl rfl rfl (by decide +kernel) ⟨Nat.le_of_ble_eq_true rfl, Nat.le_of_ble_eq_true rfl⟩) (preS hP hK) rfl rfl hl.1 rfl (lv_room (Nat.le_of_ble_eq_true rfl)) dX8_set_6 ⟨Nat.zero_le _, Nat.zero_le _⟩) hS (fun _ h => h) (fun zc1 H locs hP hS => ?_) (fun zc1 H locs hP hS => ?_)
  · have hf := hf.trans (if_pos zc1)
    refine lv_if_eq (tgt := 43) hx hb dX8_set_9 (by decide) (fun zc2 => absurd zc2 (by decide)) (fun zc2 => ?_)
    refine lv_iload_n hx hb dX8_set_12 rfl (lv_at hl 2 rfl) ?_
    refine lv_i2l (v := (Int32.toInt64 p2)) hx hb dX8_set_13 rfl ?_
    refine lv_lconst (v := 0) hx hb dX8_set_14 (by decide) ?_
    refine lv_iload_n hx hb dX8_set_15 rfl (lv_at hl 1 rfl) ?_
    refine lv_if_ne (tgt := 25) hx hb dX8_set_16 (by decide) (fun zc3 => ?_) (fun zc3 => ?_)
    · have hf := hf.trans (if_neg zc3)
      refine lv_iload_n hx hb dX8_set_25 rfl (lv_at hl 1 rfl) ?_
      refine lv_iconst (v := 1) hx hb dX8_set_26 (by decide) ?_
      refine lv_icmp_ne (tgt := 36) hx hb dX8_set_27 (by decide) (fun zc4 => ?_) (fun zc4 => ?_)
      · have hf := hf.trans (if_neg zc4)
        refine lv_lconst (v := 1) hx hb dX8_set_36 (by decide) ?_
        refine kzc (va_runS (As := [.long (Int32.toInt64 p2), .long 0, .long 1]) (rest := []) C0 (kX8_in l g A hA S (Int32.toInt64 p2) 0 1) (va_cwS 3 hts (gS q799 q800 q54 q801) rfl rfl rfl (by decide +kernel) ⟨Nat.le_of_ble_eq_true rfl, Nat.le_of_ble_eq_true rfl⟩) (preS hP hK) rfl rfl hl.1 rfl (lv_room (Nat.le_of_ble_eq_true rfl)) dX8_set_37 ⟨Nat.zero_le _, Nat.zero_le _⟩) hS (fun _ h => h) (fun zc5 H locs hP hS => ?_) (fun zc5 H locs hP hS => ?_)
        · have hf := hf.trans (if_pos zc5)
          refine lv_if_ne (tgt := 46) hx hb dX8_set_40 (by decide) (fun zc6 => ?_) (fun zc6 => absurd zc6 (by decide))
          refine lv_iload_n hx hb dX8_set_46 rfl (lv_at hl 1 rfl) ?_
          refine lv_if_ne (tgt := 57) hx hb dX8_set_47 (by decide) (fun zc7 => ?_) (fun zc7 => absurd zc7 zc3)
          refine lv_iload_n hx hb dX8_set_57 rfl (lv_at hl 1 rfl) ?_
          refine lv_iconst (v := 1) hx hb dX8_set_58 (by decide) ?_
          refine lv_icmp_ne (tgt := 69) hx hb dX8_set_59 (by decide) (fun zc8 => ?_) (fun zc8 => absurd zc8 zc4)
          refine lv_aload_n hx hb dX8_set_69 rfl (lv_at hl 0 rfl) ?_
          refine gO (T := TX8) C0 inA8 hK hP (mMain g) rfl 9 (by decide) (hts _ q685) (v := .int (S.1 0 0 9)) rfl dX8_set_70 ?_
          refine lv_istore_n (lv' := [(3, .int (S.1 0 0 9)), (0, .ref (g.1 0 0)), (1, .int p1), (2, .int p2)]) hx hb dX8_set_73 rfl hl (by decide) rfl (fun ls hl => ?_)
          refine lv_aload_n hx hb dX8_set_74 rfl (lv_at hl 1 rfl) ?_
          refine lv_iload_n hx hb dX8_set_75 rfl (lv_at hl 2 rfl) ?_
          refine lv_if_ne (tgt := 83) hx hb dX8_set_76 (by decide) (fun zc9 => ?_) (fun zc9 => absurd zc9 zc3)
          refine lv_aload_n hx hb dX8_set_83 rfl (lv_at hl 1 rfl) ?_
          refine gO (T := TX8) C0 inA8 hK hP (mMain g) rfl 7 (by decide) (hts _ q683) (v := .int (S.1 0 0 7)) rfl dX8_set_84 ?_
          refine pO (T := TX8) (ty0 := tyX8) locM C0 inA8 tyX8_ok nmX8 hK hP hA hS (mMain g) rfl 7 (by decide) (hts _ q683) rfl 7 (S.1 0 0 7) rfl rfl rfl (Nat.le_of_ble_eq_true rfl) dX8_set_87 (fun H locs hP hS => ?_)
          refine lv_aload_n hx hb dX8_set_90 rfl (lv_at hl 1 rfl) ?_
          refine lv_iload_n hx hb dX8_set_91 rfl (lv_at hl 2 rfl) ?_
          refine lv_iconst (v := 1) hx hb dX8_set_92 (by decide) ?_
          refine lv_icmp_ne (tgt := 100) hx hb dX8_set_93 (by decide) (fun zc10 => ?_) (fun zc10 => absurd zc10 zc4)
          refine lv_aload_n hx hb dX8_set_100 rfl (lv_at hl 1 rfl) ?_
          refine gO (T := TX8) C0 inA8 hK hP (mMain g) rfl 8 (by decide) (hts _ q684) (v := .int ((up S 0 0 7 (S.1 0 0 7)).1 0 0 8)) rfl dX8_set_101 ?_
          refine pO (T := TX8) (ty0 := tyX8) locM C0 inA8 tyX8_ok nmX8 hK hP hA hS (mMain g) rfl 8 (by decide) (hts _ q684) rfl 8 ((up S 0 0 7 (S.1 0 0 7)).1 0 0 8) rfl rfl rfl (Nat.le_of_ble_eq_true rfl) dX8_set_104 (fun H locs hP hS => ?_)
          refine lv_aload_n hx hb dX8_set_107 rfl (lv_at hl 1 rfl) ?_
          refine lv_iload_n hx hb dX8_set_108 rfl (lv_at hl 2 rfl) ?_
          refine lv_iconst (v := 2) hx hb dX8_set_109 (by decide) ?_
          refine lv_icmp_ne (tgt := 117) hx hb dX8_set_110 (by decide) (fun zc11 => ?_) (fun zc11 => ?_)
          · have hf := hf.trans (if_neg zc11)
            refine lv_aload_n hx hb dX8_set_117 rfl (lv_at hl 1 rfl) ?_
            refine gO (T := TX8) C0 inA8 hK hP (mMain g) rfl 9 (by decide) (hts _ q685) (v := .int ((up (up S 0 0 7 (S.1 0 0 7)) 0 0 8 ((up S 0 0 7 (S.1 0 0 7)).1 0 0 8)).1 0 0 9)) rfl dX8_set_118 ?_
            refine pO (T := TX8) (ty0 := tyX8) locM C0 inA8 tyX8_ok nmX8 hK hP hA hS (mMain g) rfl 9 (by decide) (hts _ q685) rfl 9 ((up (up S 0 0 7 (S.1 0 0 7)) 0 0 8 ((up S 0 0 7 (S.1 0 0 7)).1 0 0 8)).1 0 0 9) rfl rfl rfl (Nat.le_of_ble_eq_true rfl) dX8_set_121 (fun H locs hP hS => ?_)
            obtain ⟨zS12, hzS12⟩ : ∃ z : St, z = (up (up (up S 0 0 7 (S.1 0 0 7)) 0 0 8 ((up S 0 0 7 (S.1 0 0 7)).1 0 0 8)) 0 0 9 ((up (up S 0 0 7 (S.1 0 0 7)) 0 0 8 ((up S 0 0 7 (S.1 0 0 7)).1 0 0 8)).1 0 0 9)) := ⟨_, rfl⟩
            rw [← hzS12] at hP
            have hf := hf.trans (bnd_eq hzS12)
            refine lv_iload_n hx hb dX8_set_124 rfl (lv_at hl 0 rfl) ?_
            exact ri hQ C0 hr hlocks hK hP hS (by rw [← hF]; exact fin2 hf) dX8_set_125
          · have hf := hf.trans (if_pos zc11)
            refine lv_iload_n hx hb dX8_set_113 rfl (lv_at hl 3 rfl) ?_
            refine lv_goto (tgt := 121) hx hb dX8_set_114 (by decide) ?_
            refine pO (T := TX8) (ty0 := tyX8) locM C0 inA8 tyX8_ok nmX8 hK hP hA hS (mMain g) rfl 9 (by decide) (hts _ q685) rfl 9 p2 rfl rfl rfl (Nat.le_of_ble_eq_true rfl) dX8_set_121 (fun H locs hP hS => ?_)
            refine lv_iload_n hx hb dX8_set_124 rfl (lv_at hl 0 rfl) ?_
            exact ri hQ C0 hr hlocks hK hP hS (by rw [← hF]; exact fin2 hf) dX8_set_125
        · have hf := hf.trans (if_neg zc5)
          refine lv_if_ne (tgt := 46) hx hb dX8_set_40 (by decide) (fun zc13 => absurd (by decide) zc13) (fun zc13 => ?_)
          refine lv_bipush (v := (-2)) hx hb dX8_set_43 (by decide) ?_
          exact ri hQ C0 hr hlocks hK hP hS (by rw [← hF]; exact fin2 hf) dX8_set_45
      · have hf := hf.trans (if_pos zc4)
        refine lv_ldc2 (v := 20) hx hb hown (hts _ q804) dX8_set_30 ?_
        refine lv_goto (tgt := 37) hx hb dX8_set_33 (by decide) ?_
        refine kzc (va_runS (As := [.long (Int32.toInt64 p2), .long 0, .long 20]) (rest := []) C0 (kX8_in l g A hA S (Int32.toInt64 p2) 0 20) (va_cwS 3 hts (gS q799 q800 q54 q801) rfl rfl rfl (by decide +kernel) ⟨Nat.le_of_ble_eq_true rfl, Nat.le_of_ble_eq_true rfl⟩) (preS hP hK) rfl rfl hl.1 rfl (lv_room (Nat.le_of_ble_eq_true rfl)) dX8_set_37 ⟨Nat.zero_le _, Nat.zero_le _⟩) hS (fun _ h => h) (fun zc14 H locs hP hS => ?_) (fun zc14 H locs hP hS => ?_)
        · have hf := hf.trans (if_pos zc14)
          refine lv_if_ne (tgt := 46) hx hb dX8_set_40 (by decide) (fun zc15 => ?_) (fun zc15 => absurd zc15 (by decide))
          refine lv_iload_n hx hb dX8_set_46 rfl (lv_at hl 1 rfl) ?_
          refine lv_if_ne (tgt := 57) hx hb dX8_set_47 (by decide) (fun zc16 => ?_) (fun zc16 => absurd zc16 zc3)
          refine lv_iload_n hx hb dX8_set_57 rfl (lv_at hl 1 rfl) ?_
          refine lv_iconst (v := 1) hx hb dX8_set_58 (by decide) ?_
          refine lv_icmp_ne (tgt := 69) hx hb dX8_set_59 (by decide) (fun zc17 => absurd zc4 zc17) (fun zc17 => ?_)
          refine lv_aload_n hx hb dX8_set_62 rfl (lv_at hl 0 rfl) ?_
          refine gO (T := TX8) C0 inA8 hK hP (mMain g) rfl 8 (by decide) (hts _ q684) (v := .int (S.1 0 0 8)) rfl dX8_set_63 ?_
          refine lv_goto (tgt := 73) hx hb dX8_set_66 (by decide) ?_
          refine lv_istore_n (lv' := [(3, .int (S.1 0 0 8)), (0, .ref (g.1 0 0)), (1, .int p1), (2, .int p2)]) hx hb dX8_set_73 rfl hl (by decide) rfl (fun ls hl => ?_)
          refine lv_aload_n hx hb dX8_set_74 rfl (lv_at hl 1 rfl) ?_
          refine lv_iload_n hx hb dX8_set_75 rfl (lv_at hl 2 rfl) ?_
          refine lv_if_ne (tgt := 83) hx hb dX8_set_76 (by decide) (fun zc18 => ?_) (fun zc18 => absurd zc18 zc3)
          refine lv_aload_n hx hb dX8_set_83 rfl (lv_at hl 1 rfl) ?_
          refine gO (T := TX8) C0 inA8 hK hP (mMain g) rfl 7 (by decide) (hts _ q683) (v := .int (S.1 0 0 7)) rfl dX8_set_84 ?_
          refine pO (T := TX8) (ty0 := tyX8) locM C0 inA8 tyX8_ok nmX8 hK hP hA hS (mMain g) rfl 7 (by decide) (hts _ q683) rfl 7 (S.1 0 0 7) rfl rfl rfl (Nat.le_of_ble_eq_true rfl) dX8_set_87 (fun H locs hP hS => ?_)
          refine lv_aload_n hx hb dX8_set_90 rfl (lv_at hl 1 rfl) ?_
          refine lv_iload_n hx hb dX8_set_91 rfl (lv_at hl 2 rfl) ?_
          refine lv_iconst (v := 1) hx hb dX8_set_92 (by decide) ?_
          refine lv_icmp_ne (tgt := 100) hx hb dX8_set_93 (by decide) (fun zc19 => absurd zc4 zc19) (fun zc19 => ?_)
          refine lv_iload_n hx hb dX8_set_96 rfl (lv_at hl 3 rfl) ?_
          refine lv_goto (tgt := 104) hx hb dX8_set_97 (by decide) ?_
          refine pO (T := TX8) (ty0 := tyX8) locM C0 inA8 tyX8_ok nmX8 hK hP hA hS (mMain g) rfl 8 (by decide) (hts _ q684) rfl 8 p2 rfl rfl rfl (Nat.le_of_ble_eq_true rfl) dX8_set_104 (fun H locs hP hS => ?_)
          refine lv_aload_n hx hb dX8_set_107 rfl (lv_at hl 1 rfl) ?_
          refine lv_iload_n hx hb dX8_set_108 rfl (lv_at hl 2 rfl) ?_
          refine lv_iconst (v := 2) hx hb dX8_set_109 (by decide) ?_
          refine lv_icmp_ne (tgt := 117) hx hb dX8_set_110 (by decide) (fun zc20 => ?_) (fun zc20 => ?_)
          · have hf := hf.trans (if_neg zc20)
            refine lv_aload_n hx hb dX8_set_117 rfl (lv_at hl 1 rfl) ?_
            refine gO (T := TX8) C0 inA8 hK hP (mMain g) rfl 9 (by decide) (hts _ q685) (v := .int ((up (up S 0 0 7 (S.1 0 0 7)) 0 0 8 p2).1 0 0 9)) rfl dX8_set_118 ?_
            refine pO (T := TX8) (ty0 := tyX8) locM C0 inA8 tyX8_ok nmX8 hK hP hA hS (mMain g) rfl 9 (by decide) (hts _ q685) rfl 9 ((up (up S 0 0 7 (S.1 0 0 7)) 0 0 8 p2).1 0 0 9) rfl rfl rfl (Nat.le_of_ble_eq_true rfl) dX8_set_121 (fun H locs hP hS => ?_)
            obtain ⟨zS21, hzS21⟩ : ∃ z : St, z = (up (up (up S 0 0 7 (S.1 0 0 7)) 0 0 8 p2) 0 0 9 ((up (up S 0 0 7 (S.1 0 0 7)) 0 0 8 p2).1 0 0 9)) := ⟨_, rfl⟩
            rw [← hzS21] at hP
            have hf := hf.trans (bnd_eq hzS21)
            refine lv_iload_n hx hb dX8_set_124 rfl (lv_at hl 0 rfl) ?_
            exact ri hQ C0 hr hlocks hK hP hS (by rw [← hF]; exact fin2 hf) dX8_set_125
          · have hf := hf.trans (if_pos zc20)
            refine lv_iload_n hx hb dX8_set_113 rfl (lv_at hl 3 rfl) ?_
            refine lv_goto (tgt := 121) hx hb dX8_set_114 (by decide) ?_
            refine pO (T := TX8) (ty0 := tyX8) locM C0 inA8 tyX8_ok nmX8 hK hP hA hS (mMain g) rfl 9 (by decide) (hts _ q685) rfl 9 p2 rfl rfl rfl (Nat.le_of_ble_eq_true rfl) dX8_set_121 (fun H locs hP hS => ?_)
            refine lv_iload_n hx hb dX8_set_124 rfl (lv_at hl 0 rfl) ?_
            exact ri hQ C0 hr hlocks hK hP hS (by rw [← hF]; exact fin2 hf) dX8_set_125
        · have hf := hf.trans (if_neg zc14)
          refine lv_if_ne (tgt := 46) hx hb dX8_set_40 (by decide) (fun zc22 => absurd (by decide) zc22) (fun zc22 => ?_)
          refine lv_bipush (v := (-2)) hx hb dX8_set_43 (by decide) ?_
          exact ri hQ C0 hr hlocks hK hP hS (by rw [← hF]; exact fin2 hf) dX8_set_45
    · have hf := hf.trans (if_pos zc3)
      refine lv_ldc2 (v := 99) hx hb hown (hts _ q803) dX8_set_19 ?_
      refine lv_goto (tgt := 37) hx hb dX8_set_22 (by decide) ?_
      refine kzc (va_runS (As := [.long (Int32.toInt64 p2), .long 0, .long 99]) (rest := []) C0 (kX8_in l g A hA S (Int32.toInt64 p2) 0 99) (va_cwS 3 hts (gS q799 q800 q54 q801) rfl rfl rfl (by decide +kernel) ⟨Nat.le_of_ble_eq_true rfl, Nat.le_of_ble_eq_true rfl⟩) (preS hP hK) rfl rfl hl.1 rfl (lv_room (Nat.le_of_ble_eq_true rfl)) dX8_set_37 ⟨Nat.zero_le _, Nat.zero_le _⟩) hS (fun _ h => h) (fun zc23 H locs hP hS => ?_) (fun zc23 H locs hP hS => ?_)
      · have hf := hf.trans (if_pos zc23)
        refine lv_if_ne (tgt := 46) hx hb dX8_set_40 (by decide) (fun zc24 => ?_) (fun zc24 => absurd zc24 (by decide))
        refine lv_iload_n hx hb dX8_set_46 rfl (lv_at hl 1 rfl) ?_
        refine lv_if_ne (tgt := 57) hx hb dX8_set_47 (by decide) (fun zc25 => absurd zc3 zc25) (fun zc25 => ?_)
        refine lv_aload_n hx hb dX8_set_50 rfl (lv_at hl 0 rfl) ?_
        refine gO (T := TX8) C0 inA8 hK hP (mMain g) rfl 7 (by decide) (hts _ q683) (v := .int (S.1 0 0 7)) rfl dX8_set_51 ?_
        refine lv_goto (tgt := 73) hx hb dX8_set_54 (by decide) ?_
        refine lv_istore_n (lv' := [(3, .int (S.1 0 0 7)), (0, .ref (g.1 0 0)), (1, .int p1), (2, .int p2)]) hx hb dX8_set_73 rfl hl (by decide) rfl (fun ls hl => ?_)
        refine lv_aload_n hx hb dX8_set_74 rfl (lv_at hl 1 rfl) ?_
        refine lv_iload_n hx hb dX8_set_75 rfl (lv_at hl 2 rfl) ?_
        refine lv_if_ne (tgt := 83) hx hb dX8_set_76 (by decide) (fun zc26 => absurd zc3 zc26) (fun zc26 => ?_)
        refine lv_iload_n hx hb dX8_set_79 rfl (lv_at hl 3 rfl) ?_
        refine lv_goto (tgt := 87) hx hb dX8_set_80 (by decide) ?_
        refine pO (T := TX8) (ty0 := tyX8) locM C0 inA8 tyX8_ok nmX8 hK hP hA hS (mMain g) rfl 7 (by decide) (hts _ q683) rfl 7 p2 rfl rfl rfl (Nat.le_of_ble_eq_true rfl) dX8_set_87 (fun H locs hP hS => ?_)
        refine lv_aload_n hx hb dX8_set_90 rfl (lv_at hl 1 rfl) ?_
        refine lv_iload_n hx hb dX8_set_91 rfl (lv_at hl 2 rfl) ?_
        refine lv_iconst (v := 1) hx hb dX8_set_92 (by decide) ?_
        refine lv_icmp_ne (tgt := 100) hx hb dX8_set_93 (by decide) (fun zc27 => ?_) (fun zc27 => ?_)
        · have hf := hf.trans (if_neg zc27)
          refine lv_aload_n hx hb dX8_set_100 rfl (lv_at hl 1 rfl) ?_
          refine gO (T := TX8) C0 inA8 hK hP (mMain g) rfl 8 (by decide) (hts _ q684) (v := .int ((up S 0 0 7 p2).1 0 0 8)) rfl dX8_set_101 ?_
          refine pO (T := TX8) (ty0 := tyX8) locM C0 inA8 tyX8_ok nmX8 hK hP hA hS (mMain g) rfl 8 (by decide) (hts _ q684) rfl 8 ((up S 0 0 7 p2).1 0 0 8) rfl rfl rfl (Nat.le_of_ble_eq_true rfl) dX8_set_104 (fun H locs hP hS => ?_)
          refine lv_aload_n hx hb dX8_set_107 rfl (lv_at hl 1 rfl) ?_
          refine lv_iload_n hx hb dX8_set_108 rfl (lv_at hl 2 rfl) ?_
          refine lv_iconst (v := 2) hx hb dX8_set_109 (by decide) ?_
          refine lv_icmp_ne (tgt := 117) hx hb dX8_set_110 (by decide) (fun zc28 => ?_) (fun zc28 => ?_)
          · have hf := hf.trans (if_neg zc28)
            refine lv_aload_n hx hb dX8_set_117 rfl (lv_at hl 1 rfl) ?_
            refine gO (T := TX8) C0 inA8 hK hP (mMain g) rfl 9 (by decide) (hts _ q685) (v := .int ((up (up S 0 0 7 p2) 0 0 8 ((up S 0 0 7 p2).1 0 0 8)).1 0 0 9)) rfl dX8_set_118 ?_
            refine pO (T := TX8) (ty0 := tyX8) locM C0 inA8 tyX8_ok nmX8 hK hP hA hS (mMain g) rfl 9 (by decide) (hts _ q685) rfl 9 ((up (up S 0 0 7 p2) 0 0 8 ((up S 0 0 7 p2).1 0 0 8)).1 0 0 9) rfl rfl rfl (Nat.le_of_ble_eq_true rfl) dX8_set_121 (fun H locs hP hS => ?_)
            obtain ⟨zS29, hzS29⟩ : ∃ z : St, z = (up (up (up S 0 0 7 p2) 0 0 8 ((up S 0 0 7 p2).1 0 0 8)) 0 0 9 ((up (up S 0 0 7 p2) 0 0 8 ((up S 0 0 7 p2).1 0 0 8)).1 0 0 9)) := ⟨_, rfl⟩
            rw [← hzS29] at hP
            have hf := hf.trans (bnd_eq hzS29)
            refine lv_iload_n hx hb dX8_set_124 rfl (lv_at hl 0 rfl) ?_
            exact ri hQ C0 hr hlocks hK hP hS (by rw [← hF]; exact fin2 hf) dX8_set_125
          · have hf := hf.trans (if_pos zc28)
            refine lv_iload_n hx hb dX8_set_113 rfl (lv_at hl 3 rfl) ?_
            refine lv_goto (tgt := 121) hx hb dX8_set_114 (by decide) ?_
            refine pO (T := TX8) (ty0 := tyX8) locM C0 inA8 tyX8_ok nmX8 hK hP hA hS (mMain g) rfl 9 (by decide) (hts _ q685) rfl 9 p2 rfl rfl rfl (Nat.le_of_ble_eq_true rfl) dX8_set_121 (fun H locs hP hS => ?_)
            refine lv_iload_n hx hb dX8_set_124 rfl (lv_at hl 0 rfl) ?_
            exact ri hQ C0 hr hlocks hK hP hS (by rw [← hF]; exact fin2 hf) dX8_set_125
        · have hf := hf.trans (if_pos zc27)
          refine lv_iload_n hx hb dX8_set_96 rfl (lv_at hl 3 rfl) ?_
          refine lv_goto (tgt := 104) hx hb dX8_set_97 (by decide) ?_
          refine pO (T := TX8) (ty0 := tyX8) locM C0 inA8 tyX8_ok nmX8 hK hP hA hS (mMain g) rfl 8 (by decide) (hts _ q684) rfl 8 p2 rfl rfl rfl (Nat.le_of_ble_eq_true rfl) dX8_set_104 (fun H locs hP hS => ?_)
          refine lv_aload_n hx hb dX8_set_107 rfl (lv_at hl 1 rfl) ?_
          refine lv_iload_n hx hb dX8_set_108 rfl (lv_at hl 2 rfl) ?_
          refine lv_iconst (v := 2) hx hb dX8_set_109 (by decide) ?_
          refine lv_icmp_ne (tgt := 117) hx hb dX8_set_110 (by decide) (fun zc30 => ?_) (fun zc30 => ?_)
          · have hf := hf.trans (if_neg zc30)
            refine lv_aload_n hx hb dX8_set_117 rfl (lv_at hl 1 rfl) ?_
            refine gO (T := TX8) C0 inA8 hK hP (mMain g) rfl 9 (by decide) (hts _ q685) (v := .int ((up (up S 0 0 7 p2) 0 0 8 p2).1 0 0 9)) rfl dX8_set_118 ?_
            refine pO (T := TX8) (ty0 := tyX8) locM C0 inA8 tyX8_ok nmX8 hK hP hA hS (mMain g) rfl 9 (by decide) (hts _ q685) rfl 9 ((up (up S 0 0 7 p2) 0 0 8 p2).1 0 0 9) rfl rfl rfl (Nat.le_of_ble_eq_true rfl) dX8_set_121 (fun H locs hP hS => ?_)
            refine lv_iload_n hx hb dX8_set_124 rfl (lv_at hl 0 rfl) ?_
            exact ri hQ C0 hr hlocks hK hP hS (by rw [← hF]; exact fin2 hf) dX8_set_125
          · have hf := hf.trans (if_pos zc30)
            refine lv_iload_n hx hb dX8_set_113 rfl (lv_at hl 3 rfl) ?_
            refine lv_goto (tgt := 121) hx hb dX8_set_114 (by decide) ?_
            refine pO (T := TX8) (ty0 := tyX8) locM C0 inA8 tyX8_ok nmX8 hK hP hA hS (mMain g) rfl 9 (by decide) (hts _ q685) rfl 9 p2 rfl rfl rfl (Nat.le_of_ble_eq_true rfl) dX8_set_121 (fun H locs hP hS => ?_)
            refine lv_iload_n hx hb dX8_set_124 rfl (lv_at hl 0 rfl) ?_
            exact ri hQ C0 hr hlocks hK hP hS (by rw [← hF]; exact fin2 hf) dX8_set_125
      · have hf := hf.trans (if_neg zc23)
        refine lv_if_ne (tgt := 46) hx hb dX8_set_40 (by decide) (fun zc31 => absurd (by decide) zc31) (fun zc31 => ?_)
        refine lv_bipush (v := (-2)) hx hb dX8_set_43 (by decide) ?_
        exact ri hQ C0 hr hlocks hK hP hS (by rw [← hF]; exact fin2 hf) dX8_set_45
  · have hf := hf.trans (if_neg zc1)
    refine lv_if_eq (tgt := 43) hx hb dX8_set_9 (by decide) (fun zc32 => ?_) (fun zc32 => absurd (by decide) zc32)
    refine lv_bipush (v := (-2)) hx hb dX8_set_43 (by decide) ?_
    exact ri hQ C0 hr hlocks hK hP hS (by rw [← hF]; exact fin2 hf) dX8_set_45
def tX8_say (S : St) (p1 : Int32) : Int32 × St :=
  (if wj (Int32.toInt64 p1) 33 126 then (if (S.1 0 0 18) = 60 then ((-4), S) else (bnd (up (up S 0 17 (Int32.toNatClampNeg (S.1 0 0 18)) p1) 0 0 18 (((up S 0 17 (Int32.toNatClampNeg (S.1 0 0 18)) p1).1 0 0 18) + 1)) (fun zS4 => ((zS4.1 0 0 18), zS4)))) else ((-2), S))
set_option maxHeartbeats 4000000 in
set_option maxRecDepth 100000 in
theorem kX8_say (l : Launch) (g : Gd) (A : Nat → Prop) (hA : Ads g.1 VM A) (S : St) (p1 : Int32) (hp : wi (S.1 0 0 18) 0 60) : Met l yX8_say (wU yX8_say cX8_say 2 (some .int)) { frames := 1, cells := 0, slots := 0, locals := 25 } (va_Pc [.ref (g.1 0 0), .int p1] (PW VM ctM g S)) (va_Qi (fun r u => r = (tX8_say S p1).1 ∧ u = (tX8_say S p1).2) (fun u U => PW VM ctM g u U) A) 0 0 A := by
  refine ent (cc := cX8_say) (maxL := 2) (ret := (some .int)) (by decide) (Nat.le_of_ble_eq_true rfl) ?_
  intro p e s m below meth c args Q C0 hr hlocks hP hK hQ ls hl
  have hx := C0.1
  have hb := C0.2.1
  have hml := C0.2.2.1
  have hown := C0.2.2.2.1
  have hts := C0.2.2.2.2
  obtain ⟨F, hF⟩ : ∃ F : Int32 × St, F = tX8_say S p1 := ⟨_, rfl⟩
  have hf := hF
  unfold tX8_say at hf
  have hS : va_S A s.heap s.heap [] := va_S.rf
  have hl : lv_has ls 2 [(0, .ref (g.1 0 0)), (1, .int p1)] := hl
  refine lv_iload_n hx hb dX8_say_0 rfl (lv_at hl 1 rfl) ?_
  refine lv_i2l (v := (Int32.toInt64 p1)) hx hb dX8_say_1 rfl ?_
  refine lv_ldc2 (v := 33) hx hb hown (hts _ q834) dX8_say_2 ?_
  refine lv_ldc2 (v := 126) hx hb hown (hts _ q835) dX8_say_5 ?_
  refine kzc (va_runS (As := [.long (Int32.toInt64 p1), .long 33, .long 126]) (rest := []) C0 (kX8_in l g A hA S (Int32.toInt64 p1) 33 126) (va_cwS 3 hts (gS q799 q800 q54 q801) rfl rfl rfl (by decide +kernel) ⟨Nat.le_of_ble_eq_true rfl, Nat.le_of_ble_eq_true rfl⟩) (preS hP hK) rfl rfl hl.1 rfl (lv_room (Nat.le_of_ble_eq_true rfl)) dX8_say_8 ⟨Nat.zero_le _, Nat.zero_le _⟩) hS (fun _ h => h) (fun zc1 H locs hP hS => ?_) (fun zc1 H locs hP hS => ?_)
  · have hf := hf.trans (if_pos zc1)
    refine lv_if_ne (tgt := 17) hx hb dX8_say_11 (by decide) (fun zc2 => ?_) (fun zc2 => absurd zc2 (by decide))
    refine lv_aload_n hx hb dX8_say_17 rfl (lv_at hl 0 rfl) ?_
    refine gO (T := TX8) C0 inA8 hK hP (mMain g) rfl 18 (by decide) (hts _ q694) (v := .int (S.1 0 0 18)) rfl dX8_say_18 ?_
    refine lv_bipush (v := 60) hx hb dX8_say_21 (by decide) ?_
    refine lv_icmp_ne (tgt := 29) hx hb dX8_say_23 (by decide) (fun zc3 => ?_) (fun zc3 => ?_)
    · have hf := hf.trans (if_neg zc3)
      refine lv_aload_n hx hb dX8_say_29 rfl (lv_at hl 0 rfl) ?_
      refine gO (T := TX8) C0 inA8 hK hP (mMain g) rfl 17 (by decide) (hts _ q693) (v := .ref (g.1 0 17)) rfl dX8_say_30 ?_
      refine lv_aload_n hx hb dX8_say_33 rfl (lv_at hl 0 rfl) ?_
      refine gO (T := TX8) C0 inA8 hK hP (mMain g) rfl 18 (by decide) (hts _ q694) (v := .int (S.1 0 0 18)) rfl dX8_say_34 ?_
      refine lv_iload_n hx hb dX8_say_37 rfl (lv_at hl 1 rfl) ?_
      refine pI locM C0 hK hP hA hS (mPad g) (vpe hp zc3) dX8_say_38 (fun H locs hP hS => ?_)
      refine lv_aload_n hx hb dX8_say_39 rfl (lv_at hl 0 rfl) ?_
      refine lv_dup hx hb dX8_say_40 rfl ?_
      refine gO (T := TX8) C0 inA8 hK hP (mMain g) rfl 18 (by decide) (hts _ q694) (v := .int ((up S 0 17 (Int32.toNatClampNeg (S.1 0 0 18)) p1).1 0 0 18)) rfl dX8_say_41 ?_
      refine lv_iconst (v := 1) hx hb dX8_say_44 (by decide) ?_
      refine lv_iadd hx hb dX8_say_45 ?_
      refine pO (T := TX8) (ty0 := tyX8) locM C0 inA8 tyX8_ok nmX8 hK hP hA hS (mMain g) rfl 18 (by decide) (hts _ q694) rfl 18 (((up S 0 17 (Int32.toNatClampNeg (S.1 0 0 18)) p1).1 0 0 18) + 1) rfl rfl rfl (Nat.le_of_ble_eq_true rfl) dX8_say_46 (fun H locs hP hS => ?_)
      obtain ⟨zS4, hzS4⟩ : ∃ z : St, z = (up (up S 0 17 (Int32.toNatClampNeg (S.1 0 0 18)) p1) 0 0 18 (((up S 0 17 (Int32.toNatClampNeg (S.1 0 0 18)) p1).1 0 0 18) + 1)) := ⟨_, rfl⟩
      rw [← hzS4] at hP
      have hf := hf.trans (bnd_eq hzS4)
      refine lv_aload_n hx hb dX8_say_49 rfl (lv_at hl 0 rfl) ?_
      refine gO (T := TX8) C0 inA8 hK hP (mMain g) rfl 18 (by decide) (hts _ q694) (v := .int (zS4.1 0 0 18)) rfl dX8_say_50 ?_
      exact ri hQ C0 hr hlocks hK hP hS (by rw [← hF]; exact fin2 hf) dX8_say_53
    · have hf := hf.trans (if_pos zc3)
      refine lv_bipush (v := (-4)) hx hb dX8_say_26 (by decide) ?_
      exact ri hQ C0 hr hlocks hK hP hS (by rw [← hF]; exact fin2 hf) dX8_say_28
  · have hf := hf.trans (if_neg zc1)
    refine lv_if_ne (tgt := 17) hx hb dX8_say_11 (by decide) (fun zc5 => absurd (by decide) zc5) (fun zc5 => ?_)
    refine lv_bipush (v := (-2)) hx hb dX8_say_14 (by decide) ?_
    exact ri hQ C0 hr hlocks hK hP hS (by rw [← hF]; exact fin2 hf) dX8_say_16
def tX8_wipe (S : St) : Int32 × St :=
  ((S.1 0 0 18), (up S 0 0 18 0))
set_option maxHeartbeats 4000000 in
set_option maxRecDepth 100000 in
theorem kX8_wipe (l : Launch) (g : Gd) (A : Nat → Prop) (hA : Ads g.1 VM A) (S : St)  : Met l yX8_wipe (wU yX8_wipe cX8_wipe 2 (some .int)) { frames := 0, cells := 0, slots := 0, locals := 0 } (va_Pc [.ref (g.1 0 0)] (PW VM ctM g S)) (va_Qi (fun r u => r = (tX8_wipe S).1 ∧ u = (tX8_wipe S).2) (fun u U => PW VM ctM g u U) A) 0 0 A := by
  refine ent (cc := cX8_wipe) (maxL := 2) (ret := (some .int)) (by decide) (Nat.le_of_ble_eq_true rfl) ?_
  intro p e s m below meth c args Q C0 hr hlocks hP hK hQ ls hl
  have hx := C0.1
  have hb := C0.2.1
  have hml := C0.2.2.1
  have hown := C0.2.2.2.1
  have hts := C0.2.2.2.2
  obtain ⟨F, hF⟩ : ∃ F : Int32 × St, F = tX8_wipe S := ⟨_, rfl⟩
  have hf := hF
  unfold tX8_wipe at hf
  have hS : va_S A s.heap s.heap [] := va_S.rf
  have hl : lv_has ls 2 [(0, .ref (g.1 0 0))] := hl
  refine lv_aload_n hx hb dX8_wipe_0 rfl (lv_at hl 0 rfl) ?_
  refine gO (T := TX8) C0 inA8 hK hP (mMain g) rfl 18 (by decide) (hts _ q694) (v := .int (S.1 0 0 18)) rfl dX8_wipe_1 ?_
  refine lv_istore_n (lv' := [(1, .int (S.1 0 0 18)), (0, .ref (g.1 0 0))]) hx hb dX8_wipe_4 rfl hl (by decide) rfl (fun ls hl => ?_)
  refine lv_aload_n hx hb dX8_wipe_5 rfl (lv_at hl 1 rfl) ?_
  refine lv_iconst (v := 0) hx hb dX8_wipe_6 (by decide) ?_
  refine pO (T := TX8) (ty0 := tyX8) locM C0 inA8 tyX8_ok nmX8 hK hP hA hS (mMain g) rfl 18 (by decide) (hts _ q694) rfl 18 0 rfl rfl rfl (Nat.le_of_ble_eq_true rfl) dX8_wipe_7 (fun H locs hP hS => ?_)
  refine lv_iload_n hx hb dX8_wipe_10 rfl (lv_at hl 0 rfl) ?_
  exact ri hQ C0 hr hlocks hK hP hS (by rw [← hF]; exact fin2 hf) dX8_wipe_11
def tX8_close (S : St) (p1 : Int32) (p2 : Int32) : Int32 × St :=
  (bnd (((up (up S 0 19 (Int32.toNatClampNeg (S.1 0 0 22)) p1) 0 21 (Int32.toNatClampNeg ((up S 0 19 (Int32.toNatClampNeg (S.1 0 0 22)) p1).1 0 0 22)) p2).1 0 0 22) + 1) (fun zx1 => (0, (up (up (up S 0 19 (Int32.toNatClampNeg (S.1 0 0 22)) p1) 0 21 (Int32.toNatClampNeg ((up S 0 19 (Int32.toNatClampNeg (S.1 0 0 22)) p1).1 0 0 22)) p2) 0 0 22 zx1))))
set_option maxHeartbeats 4000000 in
set_option maxRecDepth 100000 in
theorem kX8_close (l : Launch) (g : Gd) (A : Nat → Prop) (hA : Ads g.1 VM A) (S : St) (p1 : Int32) (p2 : Int32) (ha : vp_in (S.1 0 0 22) 60) : Met l yX8_close (wU yX8_close cX8_close 3 (some .int)) { frames := 0, cells := 0, slots := 0, locals := 0 } (va_Pc [.ref (g.1 0 0), .int p1, .int p2] (PW VM ctM g S)) (va_Qi (fun r u => r = (tX8_close S p1 p2).1 ∧ u = (tX8_close S p1 p2).2) (fun u U => PW VM ctM g u U) A) 0 0 A := by
  refine ent (cc := cX8_close) (maxL := 3) (ret := (some .int)) (by decide) (Nat.le_of_ble_eq_true rfl) ?_
  intro p e s m below meth c args Q C0 hr hlocks hP hK hQ ls hl
  have hx := C0.1
  have hb := C0.2.1
  have hml := C0.2.2.1
  have hown := C0.2.2.2.1
  have hts := C0.2.2.2.2
  obtain ⟨F, hF⟩ : ∃ F : Int32 × St, F = tX8_close S p1 p2 := ⟨_, rfl⟩
  have hf := hF
  unfold tX8_close at hf
  have hS : va_S A s.heap s.heap [] := va_S.rf
  have hl : lv_has ls 3 [(0, .ref (g.1 0 0)), (1, .int p1), (2, .int p2)] := hl
  refine lv_aload_n hx hb dX8_close_0 rfl (lv_at hl 0 rfl) ?_
  refine gO (T := TX8) C0 inA8 hK hP (mMain g) rfl 19 (by decide) (hts _ q695) (v := .ref (g.1 0 19)) rfl dX8_close_1 ?_
  refine lv_aload_n hx hb dX8_close_4 rfl (lv_at hl 0 rfl) ?_
  refine gO (T := TX8) C0 inA8 hK hP (mMain g) rfl 22 (by decide) (hts _ q698) (v := .int (S.1 0 0 22)) rfl dX8_close_5 ?_
  refine lv_iload_n hx hb dX8_close_8 rfl (lv_at hl 1 rfl) ?_
  refine pI locM C0 hK hP hA hS (mAct g) (by first | exact ha | (simp only [up_ne _ _ (show ¬ (0 = 0 ∧ 0 = 19) by decide), up_ne _ _ (show ¬ (0 = 0 ∧ 0 = 21) by decide)]; exact ha)) dX8_close_9 (fun H locs hP hS => ?_)
  refine lv_aload_n hx hb dX8_close_10 rfl (lv_at hl 0 rfl) ?_
  refine gO (T := TX8) C0 inA8 hK hP (mMain g) rfl 21 (by decide) (hts _ q697) (v := .ref (g.1 0 21)) rfl dX8_close_11 ?_
  refine lv_aload_n hx hb dX8_close_14 rfl (lv_at hl 0 rfl) ?_
  refine gO (T := TX8) C0 inA8 hK hP (mMain g) rfl 22 (by decide) (hts _ q698) (v := .int ((up S 0 19 (Int32.toNatClampNeg (S.1 0 0 22)) p1).1 0 0 22)) rfl dX8_close_15 ?_
  refine lv_iload_n hx hb dX8_close_18 rfl (lv_at hl 2 rfl) ?_
  refine pI locM C0 hK hP hA hS (mMuch g) (by first | exact ha | (simp only [up_ne _ _ (show ¬ (0 = 0 ∧ 0 = 19) by decide), up_ne _ _ (show ¬ (0 = 0 ∧ 0 = 21) by decide)]; exact ha)) dX8_close_19 (fun H locs hP hS => ?_)
  refine lv_aload_n hx hb dX8_close_20 rfl (lv_at hl 0 rfl) ?_
  refine lv_dup hx hb dX8_close_21 rfl ?_
  refine gO (T := TX8) C0 inA8 hK hP (mMain g) rfl 22 (by decide) (hts _ q698) (v := .int ((up (up S 0 19 (Int32.toNatClampNeg (S.1 0 0 22)) p1) 0 21 (Int32.toNatClampNeg ((up S 0 19 (Int32.toNatClampNeg (S.1 0 0 22)) p1).1 0 0 22)) p2).1 0 0 22)) rfl dX8_close_22 ?_
  refine lv_iconst (v := 1) hx hb dX8_close_25 (by decide) ?_
  refine lv_iadd hx hb dX8_close_26 ?_
  refine lv_topi (fun zx1 hzx1 => ?_)
  have hf := hf.trans (bnd_eq hzx1)
  refine pO (T := TX8) (ty0 := tyX8) locM C0 inA8 tyX8_ok nmX8 hK hP hA hS (mMain g) rfl 22 (by decide) (hts _ q698) rfl 22 zx1 rfl rfl rfl (Nat.le_of_ble_eq_true rfl) dX8_close_27 (fun H locs hP hS => ?_)
  refine lv_iconst (v := 0) hx hb dX8_close_30 (by decide) ?_
  exact ri hQ C0 hr hlocks hK hP hS (by rw [← hF]; exact fin2 hf) dX8_close_31
def tX8_readOn (S : St) (p1 : Int32) (p2 : Int32) : Int32 × St :=
  (if p1 = 0 then (if wj (Int32.toInt64 p2) 65 70 then (1, (up S 0 20 (Int32.toNatClampNeg (S.1 0 0 22)) (p2 - 65))) else (if p2 = 46 then (bnd (tX8_close (up S 0 20 (Int32.toNatClampNeg (S.1 0 0 22)) 0) 5 0).2 (fun zS32 => bnd (tX8_close (up S 0 20 (Int32.toNatClampNeg (S.1 0 0 22)) 0) 5 0).1 (fun zr31 => (zr31, zS32)))) else ((-6), (up S 0 20 (Int32.toNatClampNeg (S.1 0 0 22)) 0)))) else (if p1 = 2 then (if wj (Int32.toInt64 p2) 48 50 then (bnd (tX8_close S 0 (p2 - 48)).2 (fun zS23 => bnd (tX8_close S 0 (p2 - 48)).1 (fun zr22 => (zr22, zS23)))) else ((-6), S)) else (if p1 = 3 then (if wj (Int32.toInt64 p2) 48 57 then (bnd (tX8_close S 1 (p2 - 48)).2 (fun zS18 => bnd (tX8_close S 1 (p2 - 48)).1 (fun zr17 => (zr17, zS18)))) else ((-6), S)) else (if p2 = 105 then (2, S) else (if p2 = 108 then (3, S) else (if p2 = 112 then (bnd (tX8_close S 2 0).2 (fun zS8 => bnd (tX8_close S 2 0).1 (fun zr7 => (zr7, zS8)))) else (if p2 = 115 then (bnd (tX8_close S 3 0).2 (fun zS11 => bnd (tX8_close S 3 0).1 (fun zr10 => (zr10, zS11)))) else (if p2 = 120 then (bnd (tX8_close S 4 0).2 (fun zS14 => bnd (tX8_close S 4 0).1 (fun zr13 => (zr13, zS14)))) else ((-6), S)))))))))
set_option maxHeartbeats 4000000 in
set_option maxRecDepth 100000 in
theorem kX8_readOn (l : Launch) (g : Gd) (A : Nat → Prop) (hA : Ads g.1 VM A) (S : St) (p1 : Int32) (p2 : Int32) (ha : vp_in (S.1 0 0 22) 60) : Met l yX8_readOn (wU yX8_readOn cX8_readOn 4 (some .int)) { frames := 1, cells := 0, slots := 0, locals := 25 } (va_Pc [.ref (g.1 0 0), .int p1, .int p2] (PW VM ctM g S)) (va_Qi (fun r u => r = (tX8_readOn S p1 p2).1 ∧ u = (tX8_readOn S p1 p2).2) (fun u U => PW VM ctM g u U) A) 0 0 A := by
  refine ent (cc := cX8_readOn) (maxL := 4) (ret := (some .int)) (by decide) (Nat.le_of_ble_eq_true rfl) ?_
  intro p e s m below meth c args Q C0 hr hlocks hP hK hQ ls hl
  have hx := C0.1
  have hb := C0.2.1
  have hml := C0.2.2.1
  have hown := C0.2.2.2.1
  have hts := C0.2.2.2.2
  obtain ⟨F, hF⟩ : ∃ F : Int32 × St, F = tX8_readOn S p1 p2 := ⟨_, rfl⟩
  have hf := hF
  unfold tX8_readOn at hf
  have hS : va_S A s.heap s.heap [] := va_S.rf
  have hl : lv_has ls 4 [(0, .ref (g.1 0 0)), (1, .int p1), (2, .int p2)] := hl
  refine lv_iload_n hx hb dX8_readOn_0 rfl (lv_at hl 1 rfl) ?_
  refine lv_if_ne (tgt := 63) hx hb dX8_readOn_1 (by decide) (fun zc1 => ?_) (fun zc1 => ?_)
  · have hf := hf.trans (if_neg zc1)
    refine lv_iload_n hx hb dX8_readOn_63 rfl (lv_at hl 1 rfl) ?_
    refine lv_iconst (v := 2) hx hb dX8_readOn_64 (by decide) ?_
    refine lv_icmp_ne (tgt := 97) hx hb dX8_readOn_65 (by decide) (fun zc2 => ?_) (fun zc2 => ?_)
    · have hf := hf.trans (if_neg zc2)
      refine lv_iload_n hx hb dX8_readOn_97 rfl (lv_at hl 1 rfl) ?_
      refine lv_iconst (v := 3) hx hb dX8_readOn_98 (by decide) ?_
      refine lv_icmp_ne (tgt := 131) hx hb dX8_readOn_99 (by decide) (fun zc3 => ?_) (fun zc3 => ?_)
      · have hf := hf.trans (if_neg zc3)
        refine lv_iload_n hx hb dX8_readOn_131 rfl (lv_at hl 2 rfl) ?_
        by_cases zc4 : p2 = 105
        · have hf := hf.trans (if_pos zc4)
          refine lv_lookup (off := 52) (tgt := 184) hx hb dX8_readOn_132 (by decide) (by rw [zc4]; decide) (by decide) ?_
          refine lv_iconst (v := 2) hx hb dX8_readOn_184 (by decide) ?_
          exact ri hQ C0 hr hlocks hK hP hS (by rw [← hF]; exact fin2 hf) dX8_readOn_185
        · have hf := hf.trans (if_neg zc4)
          by_cases zc5 : p2 = 108
          · have hf := hf.trans (if_pos zc5)
            refine lv_lookup (off := 54) (tgt := 186) hx hb dX8_readOn_132 (by decide) (by rw [zc5]; decide) (by decide) ?_
            refine lv_iconst (v := 3) hx hb dX8_readOn_186 (by decide) ?_
            exact ri hQ C0 hr hlocks hK hP hS (by rw [← hF]; exact fin2 hf) dX8_readOn_187
          · have hf := hf.trans (if_neg zc5)
            by_cases zc6 : p2 = 112
            · have hf := hf.trans (if_pos zc6)
              refine lv_lookup (off := 56) (tgt := 188) hx hb dX8_readOn_132 (by decide) (by rw [zc6]; decide) (by decide) ?_
              refine lv_aload_n hx hb dX8_readOn_188 rfl (lv_at hl 0 rfl) ?_
              refine lv_iconst (v := 2) hx hb dX8_readOn_189 (by decide) ?_
              refine lv_iconst (v := 0) hx hb dX8_readOn_190 (by decide) ?_
              refine ki (va_runV (As := [.int 2, .int 0]) (rest := []) C0 (kX8_close l g A hA S 2 0 (by first | exact ha | (simp only [up_ne _ _ (show ¬ (0 = 0 ∧ 0 = 20) by decide)]; exact ha))) (cwV 2 hts (gV q850 q852 q15 q54 q853) rfl rfl rfl (by decide +kernel) ⟨Nat.le_of_ble_eq_true rfl, Nat.le_of_ble_eq_true rfl⟩) (preV (recO (mMain g) hP hK rfl) hP hK) rfl rfl hl.1 rfl (lv_room (Nat.le_of_ble_eq_true rfl)) dX8_readOn_191 ⟨Nat.zero_le _, Nat.zero_le _⟩) hS (fun _ h => h) (fun zr7 zS8 H locs hw hP hS => ?_)
              have hf := (hf.trans (bnd_eq hw.2)).trans (bnd_eq hw.1)
              exact ri hQ C0 hr hlocks hK hP hS (by rw [← hF]; exact fin2 hf) dX8_readOn_194
            · have hf := hf.trans (if_neg zc6)
              by_cases zc9 : p2 = 115
              · have hf := hf.trans (if_pos zc9)
                refine lv_lookup (off := 63) (tgt := 195) hx hb dX8_readOn_132 (by decide) (by rw [zc9]; decide) (by decide) ?_
                refine lv_aload_n hx hb dX8_readOn_195 rfl (lv_at hl 0 rfl) ?_
                refine lv_iconst (v := 3) hx hb dX8_readOn_196 (by decide) ?_
                refine lv_iconst (v := 0) hx hb dX8_readOn_197 (by decide) ?_
                refine ki (va_runV (As := [.int 3, .int 0]) (rest := []) C0 (kX8_close l g A hA S 3 0 (by first | exact ha | (simp only [up_ne _ _ (show ¬ (0 = 0 ∧ 0 = 20) by decide)]; exact ha))) (cwV 2 hts (gV q850 q852 q15 q54 q853) rfl rfl rfl (by decide +kernel) ⟨Nat.le_of_ble_eq_true rfl, Nat.le_of_ble_eq_true rfl⟩) (preV (recO (mMain g) hP hK rfl) hP hK) rfl rfl hl.1 rfl (lv_room (Nat.le_of_ble_eq_true rfl)) dX8_readOn_198 ⟨Nat.zero_le _, Nat.zero_le _⟩) hS (fun _ h => h) (fun zr10 zS11 H locs hw hP hS => ?_)
                have hf := (hf.trans (bnd_eq hw.2)).trans (bnd_eq hw.1)
                exact ri hQ C0 hr hlocks hK hP hS (by rw [← hF]; exact fin2 hf) dX8_readOn_201
              · have hf := hf.trans (if_neg zc9)
                by_cases zc12 : p2 = 120
                · have hf := hf.trans (if_pos zc12)
                  refine lv_lookup (off := 70) (tgt := 202) hx hb dX8_readOn_132 (by decide) (by rw [zc12]; decide) (by decide) ?_
                  refine lv_aload_n hx hb dX8_readOn_202 rfl (lv_at hl 0 rfl) ?_
                  refine lv_iconst (v := 4) hx hb dX8_readOn_203 (by decide) ?_
                  refine lv_iconst (v := 0) hx hb dX8_readOn_204 (by decide) ?_
                  refine ki (va_runV (As := [.int 4, .int 0]) (rest := []) C0 (kX8_close l g A hA S 4 0 (by first | exact ha | (simp only [up_ne _ _ (show ¬ (0 = 0 ∧ 0 = 20) by decide)]; exact ha))) (cwV 2 hts (gV q850 q852 q15 q54 q853) rfl rfl rfl (by decide +kernel) ⟨Nat.le_of_ble_eq_true rfl, Nat.le_of_ble_eq_true rfl⟩) (preV (recO (mMain g) hP hK rfl) hP hK) rfl rfl hl.1 rfl (lv_room (Nat.le_of_ble_eq_true rfl)) dX8_readOn_205 ⟨Nat.zero_le _, Nat.zero_le _⟩) hS (fun _ h => h) (fun zr13 zS14 H locs hw hP hS => ?_)
                  have hf := (hf.trans (bnd_eq hw.2)).trans (bnd_eq hw.1)
                  exact ri hQ C0 hr hlocks hK hP hS (by rw [← hF]; exact fin2 hf) dX8_readOn_208
                · have hf := hf.trans (if_neg zc12)
                  refine lv_lookup (off := 77) (tgt := 209) hx hb dX8_readOn_132 (by decide) ((lv_osw zc4 (by decide)).trans ((lv_osw zc5 (by decide)).trans ((lv_osw zc6 (by decide)).trans ((lv_osw zc9 (by decide)).trans ((lv_osw zc12 (by decide)).trans rfl))))) (by decide) ?_
                  refine lv_bipush (v := (-6)) hx hb dX8_readOn_209 (by decide) ?_
                  exact ri hQ C0 hr hlocks hK hP hS (by rw [← hF]; exact fin2 hf) dX8_readOn_211
      · have hf := hf.trans (if_pos zc3)
        refine lv_iload_n hx hb dX8_readOn_102 rfl (lv_at hl 2 rfl) ?_
        refine lv_i2l (v := (Int32.toInt64 p2)) hx hb dX8_readOn_103 rfl ?_
        refine lv_ldc2 (v := 48) hx hb hown (hts _ q854) dX8_readOn_104 ?_
        refine lv_ldc2 (v := 57) hx hb hown (hts _ q856) dX8_readOn_107 ?_
        refine kzc (va_runS (As := [.long (Int32.toInt64 p2), .long 48, .long 57]) (rest := []) C0 (kX8_in l g A hA S (Int32.toInt64 p2) 48 57) (va_cwS 3 hts (gS q799 q800 q54 q801) rfl rfl rfl (by decide +kernel) ⟨Nat.le_of_ble_eq_true rfl, Nat.le_of_ble_eq_true rfl⟩) (preS hP hK) rfl rfl hl.1 rfl (lv_room (Nat.le_of_ble_eq_true rfl)) dX8_readOn_110 ⟨Nat.zero_le _, Nat.zero_le _⟩) hS (fun _ h => h) (fun zc15 H locs hP hS => ?_) (fun zc15 H locs hP hS => ?_)
        · have hf := hf.trans (if_pos zc15)
          refine lv_if_eq (tgt := 128) hx hb dX8_readOn_113 (by decide) (fun zc16 => absurd zc16 (by decide)) (fun zc16 => ?_)
          refine lv_aload_n hx hb dX8_readOn_116 rfl (lv_at hl 0 rfl) ?_
          refine lv_iconst (v := 1) hx hb dX8_readOn_117 (by decide) ?_
          refine lv_iload_n hx hb dX8_readOn_118 rfl (lv_at hl 2 rfl) ?_
          refine lv_bipush (v := 48) hx hb dX8_readOn_119 (by decide) ?_
          refine lv_isub hx hb dX8_readOn_121 ?_
          refine ki (va_runV (As := [.int 1, .int (p2 - 48)]) (rest := []) C0 (kX8_close l g A hA S 1 (p2 - 48) (by first | exact ha | (simp only [up_ne _ _ (show ¬ (0 = 0 ∧ 0 = 20) by decide)]; exact ha))) (cwV 2 hts (gV q850 q852 q15 q54 q853) rfl rfl rfl (by decide +kernel) ⟨Nat.le_of_ble_eq_true rfl, Nat.le_of_ble_eq_true rfl⟩) (preV (recO (mMain g) hP hK rfl) hP hK) rfl rfl hl.1 rfl (lv_room (Nat.le_of_ble_eq_true rfl)) dX8_readOn_122 ⟨Nat.zero_le _, Nat.zero_le _⟩) hS (fun _ h => h) (fun zr17 zS18 H locs hw hP hS => ?_)
          have hf := (hf.trans (bnd_eq hw.2)).trans (bnd_eq hw.1)
          refine lv_goto (tgt := 130) hx hb dX8_readOn_125 (by decide) ?_
          exact ri hQ C0 hr hlocks hK hP hS (by rw [← hF]; exact fin2 hf) dX8_readOn_130
        · have hf := hf.trans (if_neg zc15)
          refine lv_if_eq (tgt := 128) hx hb dX8_readOn_113 (by decide) (fun zc19 => ?_) (fun zc19 => absurd (by decide) zc19)
          refine lv_bipush (v := (-6)) hx hb dX8_readOn_128 (by decide) ?_
          exact ri hQ C0 hr hlocks hK hP hS (by rw [← hF]; exact fin2 hf) dX8_readOn_130
    · have hf := hf.trans (if_pos zc2)
      refine lv_iload_n hx hb dX8_readOn_68 rfl (lv_at hl 2 rfl) ?_
      refine lv_i2l (v := (Int32.toInt64 p2)) hx hb dX8_readOn_69 rfl ?_
      refine lv_ldc2 (v := 48) hx hb hown (hts _ q854) dX8_readOn_70 ?_
      refine lv_ldc2 (v := 50) hx hb hown (hts _ q855) dX8_readOn_73 ?_
      refine kzc (va_runS (As := [.long (Int32.toInt64 p2), .long 48, .long 50]) (rest := []) C0 (kX8_in l g A hA S (Int32.toInt64 p2) 48 50) (va_cwS 3 hts (gS q799 q800 q54 q801) rfl rfl rfl (by decide +kernel) ⟨Nat.le_of_ble_eq_true rfl, Nat.le_of_ble_eq_true rfl⟩) (preS hP hK) rfl rfl hl.1 rfl (lv_room (Nat.le_of_ble_eq_true rfl)) dX8_readOn_76 ⟨Nat.zero_le _, Nat.zero_le _⟩) hS (fun _ h => h) (fun zc20 H locs hP hS => ?_) (fun zc20 H locs hP hS => ?_)
      · have hf := hf.trans (if_pos zc20)
        refine lv_if_eq (tgt := 94) hx hb dX8_readOn_79 (by decide) (fun zc21 => absurd zc21 (by decide)) (fun zc21 => ?_)
        refine lv_aload_n hx hb dX8_readOn_82 rfl (lv_at hl 0 rfl) ?_
        refine lv_iconst (v := 0) hx hb dX8_readOn_83 (by decide) ?_
        refine lv_iload_n hx hb dX8_readOn_84 rfl (lv_at hl 2 rfl) ?_
        refine lv_bipush (v := 48) hx hb dX8_readOn_85 (by decide) ?_
        refine lv_isub hx hb dX8_readOn_87 ?_
        refine ki (va_runV (As := [.int 0, .int (p2 - 48)]) (rest := []) C0 (kX8_close l g A hA S 0 (p2 - 48) (by first | exact ha | (simp only [up_ne _ _ (show ¬ (0 = 0 ∧ 0 = 20) by decide)]; exact ha))) (cwV 2 hts (gV q850 q852 q15 q54 q853) rfl rfl rfl (by decide +kernel) ⟨Nat.le_of_ble_eq_true rfl, Nat.le_of_ble_eq_true rfl⟩) (preV (recO (mMain g) hP hK rfl) hP hK) rfl rfl hl.1 rfl (lv_room (Nat.le_of_ble_eq_true rfl)) dX8_readOn_88 ⟨Nat.zero_le _, Nat.zero_le _⟩) hS (fun _ h => h) (fun zr22 zS23 H locs hw hP hS => ?_)
        have hf := (hf.trans (bnd_eq hw.2)).trans (bnd_eq hw.1)
        refine lv_goto (tgt := 96) hx hb dX8_readOn_91 (by decide) ?_
        exact ri hQ C0 hr hlocks hK hP hS (by rw [← hF]; exact fin2 hf) dX8_readOn_96
      · have hf := hf.trans (if_neg zc20)
        refine lv_if_eq (tgt := 94) hx hb dX8_readOn_79 (by decide) (fun zc24 => ?_) (fun zc24 => absurd (by decide) zc24)
        refine lv_bipush (v := (-6)) hx hb dX8_readOn_94 (by decide) ?_
        exact ri hQ C0 hr hlocks hK hP hS (by rw [← hF]; exact fin2 hf) dX8_readOn_96
  · have hf := hf.trans (if_pos zc1)
    refine lv_iload_n hx hb dX8_readOn_4 rfl (lv_at hl 2 rfl) ?_
    refine lv_i2l (v := (Int32.toInt64 p2)) hx hb dX8_readOn_5 rfl ?_
    refine lv_ldc2 (v := 65) hx hb hown (hts _ q848) dX8_readOn_6 ?_
    refine lv_ldc2 (v := 70) hx hb hown (hts _ q849) dX8_readOn_9 ?_
    refine kzc (va_runS (As := [.long (Int32.toInt64 p2), .long 65, .long 70]) (rest := []) C0 (kX8_in l g A hA S (Int32.toInt64 p2) 65 70) (va_cwS 3 hts (gS q799 q800 q54 q801) rfl rfl rfl (by decide +kernel) ⟨Nat.le_of_ble_eq_true rfl, Nat.le_of_ble_eq_true rfl⟩) (preS hP hK) rfl rfl hl.1 rfl (lv_room (Nat.le_of_ble_eq_true rfl)) dX8_readOn_12 ⟨Nat.zero_le _, Nat.zero_le _⟩) hS (fun _ h => h) (fun zc25 H locs hP hS => ?_) (fun zc25 H locs hP hS => ?_)
    · have hf := hf.trans (if_pos zc25)
      refine lv_istore_n (lv' := [(3, .int 1), (0, .ref (g.1 0 0)), (1, .int p1), (2, .int p2)]) hx hb dX8_readOn_15 rfl hl (by decide) rfl (fun ls hl => ?_)
      refine lv_aload_n hx hb dX8_readOn_16 rfl (lv_at hl 1 rfl) ?_
      refine gO (T := TX8) C0 inA8 hK hP (mMain g) rfl 20 (by decide) (hts _ q696) (v := .ref (g.1 0 20)) rfl dX8_readOn_17 ?_
      refine lv_aload_n hx hb dX8_readOn_20 rfl (lv_at hl 1 rfl) ?_
      refine gO (T := TX8) C0 inA8 hK hP (mMain g) rfl 22 (by decide) (hts _ q698) (v := .int (S.1 0 0 22)) rfl dX8_readOn_21 ?_
      refine lv_iload_n hx hb dX8_readOn_24 rfl (lv_at hl 0 rfl) ?_
      refine lv_if_eq (tgt := 35) hx hb dX8_readOn_25 (by decide) (fun zc26 => absurd zc26 (by decide)) (fun zc26 => ?_)
      refine lv_iload_n hx hb dX8_readOn_28 rfl (lv_at hl 3 rfl) ?_
      refine lv_bipush (v := 65) hx hb dX8_readOn_29 (by decide) ?_
      refine lv_isub hx hb dX8_readOn_31 ?_
      refine lv_goto (tgt := 36) hx hb dX8_readOn_32 (by decide) ?_
      refine pI locM C0 hK hP hA hS (mWho g) ha dX8_readOn_36 (fun H locs hP hS => ?_)
      refine lv_iload_n hx hb dX8_readOn_37 rfl (lv_at hl 0 rfl) ?_
      refine lv_if_eq (tgt := 45) hx hb dX8_readOn_38 (by decide) (fun zc27 => absurd zc27 (by decide)) (fun zc27 => ?_)
      refine lv_iconst (v := 1) hx hb dX8_readOn_41 (by decide) ?_
      refine lv_goto (tgt := 62) hx hb dX8_readOn_42 (by decide) ?_
      exact ri hQ C0 hr hlocks hK hP hS (by rw [← hF]; exact fin2 hf) dX8_readOn_62
    · have hf := hf.trans (if_neg zc25)
      refine lv_istore_n (lv' := [(3, .int 0), (0, .ref (g.1 0 0)), (1, .int p1), (2, .int p2)]) hx hb dX8_readOn_15 rfl hl (by decide) rfl (fun ls hl => ?_)
      refine lv_aload_n hx hb dX8_readOn_16 rfl (lv_at hl 1 rfl) ?_
      refine gO (T := TX8) C0 inA8 hK hP (mMain g) rfl 20 (by decide) (hts _ q696) (v := .ref (g.1 0 20)) rfl dX8_readOn_17 ?_
      refine lv_aload_n hx hb dX8_readOn_20 rfl (lv_at hl 1 rfl) ?_
      refine gO (T := TX8) C0 inA8 hK hP (mMain g) rfl 22 (by decide) (hts _ q698) (v := .int (S.1 0 0 22)) rfl dX8_readOn_21 ?_
      refine lv_iload_n hx hb dX8_readOn_24 rfl (lv_at hl 0 rfl) ?_
      refine lv_if_eq (tgt := 35) hx hb dX8_readOn_25 (by decide) (fun zc28 => ?_) (fun zc28 => absurd (by decide) zc28)
      refine lv_iconst (v := 0) hx hb dX8_readOn_35 (by decide) ?_
      refine pI locM C0 hK hP hA hS (mWho g) ha dX8_readOn_36 (fun H locs hP hS => ?_)
      refine lv_iload_n hx hb dX8_readOn_37 rfl (lv_at hl 0 rfl) ?_
      refine lv_if_eq (tgt := 45) hx hb dX8_readOn_38 (by decide) (fun zc29 => ?_) (fun zc29 => absurd (by decide) zc29)
      refine lv_iload_n hx hb dX8_readOn_45 rfl (lv_at hl 3 rfl) ?_
      refine lv_bipush (v := 46) hx hb dX8_readOn_46 (by decide) ?_
      refine lv_icmp_ne (tgt := 60) hx hb dX8_readOn_48 (by decide) (fun zc30 => ?_) (fun zc30 => ?_)
      · have hf := hf.trans (if_neg zc30)
        refine lv_bipush (v := (-6)) hx hb dX8_readOn_60 (by decide) ?_
        exact ri hQ C0 hr hlocks hK hP hS (by rw [← hF]; exact fin2 hf) dX8_readOn_62
      · have hf := hf.trans (if_pos zc30)
        refine lv_aload_n hx hb dX8_readOn_51 rfl (lv_at hl 1 rfl) ?_
        refine lv_iconst (v := 5) hx hb dX8_readOn_52 (by decide) ?_
        refine lv_iconst (v := 0) hx hb dX8_readOn_53 (by decide) ?_
        refine ki (va_runV (As := [.int 5, .int 0]) (rest := []) C0 (kX8_close l g A hA (up S 0 20 (Int32.toNatClampNeg (S.1 0 0 22)) 0) 5 0 (by first | exact ha | (simp only [up_ne _ _ (show ¬ (0 = 0 ∧ 0 = 20) by decide)]; exact ha))) (cwV 2 hts (gV q850 q852 q15 q54 q853) rfl rfl rfl (by decide +kernel) ⟨Nat.le_of_ble_eq_true rfl, Nat.le_of_ble_eq_true rfl⟩) (preV (recO (mMain g) hP hK rfl) hP hK) rfl rfl hl.1 rfl (lv_room (Nat.le_of_ble_eq_true rfl)) dX8_readOn_54 ⟨Nat.zero_le _, Nat.zero_le _⟩) hS (fun _ h => h) (fun zr31 zS32 H locs hw hP hS => ?_)
        have hf := (hf.trans (bnd_eq hw.2)).trans (bnd_eq hw.1)
        refine lv_goto (tgt := 62) hx hb dX8_readOn_57 (by decide) ?_
        exact ri hQ C0 hr hlocks hK hP hS (by rw [← hF]; exact fin2 hf) dX8_readOn_62
def tX8_riskWith (S : St) (p1 : Int32) (p2 : Int32) : Int32 :=
  (((S.1 0 2 (Int32.toNatClampNeg p1)) + (3 * p2)) + (15 * (S.1 0 0 9)))
set_option maxHeartbeats 4000000 in
set_option maxRecDepth 100000 in
theorem kX8_riskWith (l : Launch) (g : Gd) (A : Nat → Prop) (hA : Ads g.1 VM A) (S : St) (p1 : Int32) (p2 : Int32) (hk : vp_in p1 6) : Met l yX8_riskWith (wU yX8_riskWith cX8_riskWith 3 (some .int)) { frames := 0, cells := 0, slots := 0, locals := 0 } (va_Pc [.ref (g.1 0 0), .int p1, .int p2] (PW VM ctM g S)) (va_Qi (fun r u => r = tX8_riskWith S p1 p2 ∧ u = S) (fun u U => PW VM ctM g u U) A) 0 0 A := by
  refine ent (cc := cX8_riskWith) (maxL := 3) (ret := (some .int)) (by decide) (Nat.le_of_ble_eq_true rfl) ?_
  intro p e s m below meth c args Q C0 hr hlocks hP hK hQ ls hl
  have hx := C0.1
  have hb := C0.2.1
  have hml := C0.2.2.1
  have hown := C0.2.2.2.1
  have hts := C0.2.2.2.2
  obtain ⟨F, hF⟩ : ∃ F : Int32, F = tX8_riskWith S p1 p2 := ⟨_, rfl⟩
  have hf := hF
  unfold tX8_riskWith at hf
  have hS : va_S A s.heap s.heap [] := va_S.rf
  have hl : lv_has ls 3 [(0, .ref (g.1 0 0)), (1, .int p1), (2, .int p2)] := hl
  refine lv_aload_n hx hb dX8_riskWith_0 rfl (lv_at hl 0 rfl) ?_
  refine gO (T := TX8) C0 inA8 hK hP (mMain g) rfl 2 (by decide) (hts _ q678) (v := .ref (g.1 0 2)) rfl dX8_riskWith_1 ?_
  refine lv_iload_n hx hb dX8_riskWith_4 rfl (lv_at hl 1 rfl) ?_
  refine gI C0 hK hP (mAge g) hk dX8_riskWith_5 ?_
  refine lv_iconst (v := 3) hx hb dX8_riskWith_6 (by decide) ?_
  refine lv_iload_n hx hb dX8_riskWith_7 rfl (lv_at hl 2 rfl) ?_
  refine lv_imul hx hb dX8_riskWith_8 ?_
  refine lv_iadd hx hb dX8_riskWith_9 ?_
  refine lv_bipush (v := 15) hx hb dX8_riskWith_10 (by decide) ?_
  refine lv_aload_n hx hb dX8_riskWith_12 rfl (lv_at hl 0 rfl) ?_
  refine gO (T := TX8) C0 inA8 hK hP (mMain g) rfl 9 (by decide) (hts _ q685) (v := .int (S.1 0 0 9)) rfl dX8_riskWith_13 ?_
  refine lv_imul hx hb dX8_riskWith_16 ?_
  refine lv_iadd hx hb dX8_riskWith_17 ?_
  exact ri hQ C0 hr hlocks hK hP hS (by rw [← hF]; exact ⟨hf.symm, rfl⟩) dX8_riskWith_18
def tX8_risk (S : St) (p1 : Int32) : Int32 :=
  (tX8_riskWith S p1 (S.1 0 5 (Int32.toNatClampNeg p1)))
set_option maxHeartbeats 4000000 in
set_option maxRecDepth 100000 in
theorem kX8_risk (l : Launch) (g : Gd) (A : Nat → Prop) (hA : Ads g.1 VM A) (S : St) (p1 : Int32) (hk : vp_in p1 6) : Met l yX8_risk (wU yX8_risk cX8_risk 2 (some .int)) { frames := 1, cells := 0, slots := 0, locals := 22 } (va_Pc [.ref (g.1 0 0), .int p1] (PW VM ctM g S)) (va_Qi (fun r u => r = tX8_risk S p1 ∧ u = S) (fun u U => PW VM ctM g u U) A) 0 0 A := by
  refine ent (cc := cX8_risk) (maxL := 2) (ret := (some .int)) (by decide) (Nat.le_of_ble_eq_true rfl) ?_
  intro p e s m below meth c args Q C0 hr hlocks hP hK hQ ls hl
  have hx := C0.1
  have hb := C0.2.1
  have hml := C0.2.2.1
  have hown := C0.2.2.2.1
  have hts := C0.2.2.2.2
  obtain ⟨F, hF⟩ : ∃ F : Int32, F = tX8_risk S p1 := ⟨_, rfl⟩
  have hf := hF
  unfold tX8_risk at hf
  have hS : va_S A s.heap s.heap [] := va_S.rf
  have hl : lv_has ls 2 [(0, .ref (g.1 0 0)), (1, .int p1)] := hl
  refine lv_aload_n hx hb dX8_risk_0 rfl (lv_at hl 0 rfl) ?_
  refine lv_iload_n hx hb dX8_risk_1 rfl (lv_at hl 1 rfl) ?_
  refine lv_aload_n hx hb dX8_risk_2 rfl (lv_at hl 0 rfl) ?_
  refine gO (T := TX8) C0 inA8 hK hP (mMain g) rfl 5 (by decide) (hts _ q681) (v := .ref (g.1 0 5)) rfl dX8_risk_3 ?_
  refine lv_iload_n hx hb dX8_risk_6 rfl (lv_at hl 1 rfl) ?_
  refine gI C0 hK hP (mLoads g) hk dX8_risk_7 ?_
  refine kiP (va_runV (As := [.int p1, .int (S.1 0 5 (Int32.toNatClampNeg p1))]) (rest := []) C0 (kX8_riskWith l g A hA S p1 (S.1 0 5 (Int32.toNatClampNeg p1)) hk) (cwV 2 hts (gV q886 q888 q22 q54 q889) rfl rfl rfl (by decide +kernel) ⟨Nat.le_of_ble_eq_true rfl, Nat.le_of_ble_eq_true rfl⟩) (preV (recO (mMain g) hP hK rfl) hP hK) rfl rfl hl.1 rfl (lv_room (Nat.le_of_ble_eq_true rfl)) dX8_risk_8 ⟨Nat.zero_le _, Nat.zero_le _⟩) hS (fun _ h => h) (fun H locs hP hS => ?_)
  exact ri hQ C0 hr hlocks hK hP hS (by rw [← hF]; exact ⟨hf.symm, rfl⟩) dX8_risk_11
def tX8_insured (S : St) (p1 : Int32) : Int32 :=
  (bnd (((S.1 0 6 (Int32.toNatClampNeg (3 * p1))) + (S.1 0 6 (Int32.toNatClampNeg ((3 * p1) + 1)))) + (S.1 0 6 (Int32.toNatClampNeg ((3 * p1) + 2)))) (fun zx1 => zx1))
set_option maxHeartbeats 4000000 in
set_option maxRecDepth 100000 in
theorem kX8_insured (l : Launch) (g : Gd) (A : Nat → Prop) (hA : Ads g.1 VM A) (S : St) (p1 : Int32) (hk : vp_in p1 6) : Met l yX8_insured (wU yX8_insured cX8_insured 2 (some .int)) { frames := 0, cells := 0, slots := 0, locals := 0 } (va_Pc [.ref (g.1 0 0), .int p1] (PW VM ctM g S)) (va_Qi (fun r u => r = tX8_insured S p1 ∧ u = S) (fun u U => PW VM ctM g u U) A) 0 0 A := by
  refine ent (cc := cX8_insured) (maxL := 2) (ret := (some .int)) (by decide) (Nat.le_of_ble_eq_true rfl) ?_
  intro p e s m below meth c args Q C0 hr hlocks hP hK hQ ls hl
  have hx := C0.1
  have hb := C0.2.1
  have hml := C0.2.2.1
  have hown := C0.2.2.2.1
  have hts := C0.2.2.2.2
  obtain ⟨F, hF⟩ : ∃ F : Int32, F = tX8_insured S p1 := ⟨_, rfl⟩
  have hf := hF
  unfold tX8_insured at hf
  have hS : va_S A s.heap s.heap [] := va_S.rf
  have hl : lv_has ls 2 [(0, .ref (g.1 0 0)), (1, .int p1)] := hl
  refine lv_aload_n hx hb dX8_insured_0 rfl (lv_at hl 0 rfl) ?_
  refine gO (T := TX8) C0 inA8 hK hP (mMain g) rfl 6 (by decide) (hts _ q682) (v := .ref (g.1 0 6)) rfl dX8_insured_1 ?_
  refine lv_iconst (v := 3) hx hb dX8_insured_4 (by decide) ?_
  refine lv_iload_n hx hb dX8_insured_5 rfl (lv_at hl 1 rfl) ?_
  refine lv_imul hx hb dX8_insured_6 ?_
  refine gI C0 hK hP (mSums g) (vp3z hk) dX8_insured_7 ?_
  refine lv_aload_n hx hb dX8_insured_8 rfl (lv_at hl 0 rfl) ?_
  refine gO (T := TX8) C0 inA8 hK hP (mMain g) rfl 6 (by decide) (hts _ q682) (v := .ref (g.1 0 6)) rfl dX8_insured_9 ?_
  refine lv_iconst (v := 3) hx hb dX8_insured_12 (by decide) ?_
  refine lv_iload_n hx hb dX8_insured_13 rfl (lv_at hl 1 rfl) ?_
  refine lv_imul hx hb dX8_insured_14 ?_
  refine lv_iconst (v := 1) hx hb dX8_insured_15 (by decide) ?_
  refine lv_iadd hx hb dX8_insured_16 ?_
  refine gI C0 hK hP (mSums g) (vp3 hk (show wi 1 0 2 by decide)) dX8_insured_17 ?_
  refine lv_iadd hx hb dX8_insured_18 ?_
  refine lv_aload_n hx hb dX8_insured_19 rfl (lv_at hl 0 rfl) ?_
  refine gO (T := TX8) C0 inA8 hK hP (mMain g) rfl 6 (by decide) (hts _ q682) (v := .ref (g.1 0 6)) rfl dX8_insured_20 ?_
  refine lv_iconst (v := 3) hx hb dX8_insured_23 (by decide) ?_
  refine lv_iload_n hx hb dX8_insured_24 rfl (lv_at hl 1 rfl) ?_
  refine lv_imul hx hb dX8_insured_25 ?_
  refine lv_iconst (v := 2) hx hb dX8_insured_26 (by decide) ?_
  refine lv_iadd hx hb dX8_insured_27 ?_
  refine gI C0 hK hP (mSums g) (vp3 hk (show wi 2 0 2 by decide)) dX8_insured_28 ?_
  refine lv_iadd hx hb dX8_insured_29 ?_
  refine lv_topi (fun zx1 hzx1 => ?_)
  have hf := hf.trans (bnd_eq hzx1)
  exact ri hQ C0 hr hlocks hK hP hS (by rw [← hF]; exact ⟨hf.symm, rfl⟩) dX8_insured_30
def tX8_whyNot (S : St) (p1 : Int32) (p2 : Int32) (p3 : Int32) : Int32 :=
  (if p1 = 5 then (if (S.1 0 0 10) = 99 then 6 else 0) else (if mSh S p2 then (if ((ishrF (S.1 0 0 1) p2) &&& 1) = 0 then 2 else (if p1 = 0 then (if ((S.1 0 6 (Int32.toNatClampNeg ((3 * p2) + p3))) + 10) ≤ 99 then 0 else 3) else (if p1 = 1 then (if (S.1 0 5 (Int32.toNatClampNeg p2)) = p3 then 4 else 0) else (if p1 = 2 then 0 else (if (S.1 0 5 (Int32.toNatClampNeg p2)) = 0 then 4 else (if (tX8_risk S p2) ≤ (S.1 0 0 7) then 0 else 5)))))) else 1))
set_option maxHeartbeats 4000000 in
set_option maxRecDepth 100000 in
theorem kX8_whyNot (l : Launch) (g : Gd) (A : Nat → Prop) (hA : Ads g.1 VM A) (S : St) (p1 : Int32) (p2 : Int32) (p3 : Int32) (hv : p1 = 0 → wi p3 0 2) : Met l yX8_whyNot (wU yX8_whyNot cX8_whyNot 4 (some .int)) { frames := 2, cells := 0, slots := 0, locals := 46 } (va_Pc [.ref (g.1 0 0), .int p1, .int p2, .int p3] (PW VM ctM g S)) (va_Qi (fun r u => r = tX8_whyNot S p1 p2 p3 ∧ u = S) (fun u U => PW VM ctM g u U) A) 0 0 A := by
  refine ent (cc := cX8_whyNot) (maxL := 4) (ret := (some .int)) (by decide) (Nat.le_of_ble_eq_true rfl) ?_
  intro p e s m below meth c args Q C0 hr hlocks hP hK hQ ls hl
  have hx := C0.1
  have hb := C0.2.1
  have hml := C0.2.2.1
  have hown := C0.2.2.2.1
  have hts := C0.2.2.2.2
  obtain ⟨F, hF⟩ : ∃ F : Int32, F = tX8_whyNot S p1 p2 p3 := ⟨_, rfl⟩
  have hf := hF
  unfold tX8_whyNot at hf
  have hS : va_S A s.heap s.heap [] := va_S.rf
  have hl : lv_has ls 4 [(0, .ref (g.1 0 0)), (1, .int p1), (2, .int p2), (3, .int p3)] := hl
  refine lv_iload_n hx hb dX8_whyNot_0 rfl (lv_at hl 1 rfl) ?_
  refine lv_iconst (v := 5) hx hb dX8_whyNot_1 (by decide) ?_
  refine lv_icmp_ne (tgt := 21) hx hb dX8_whyNot_2 (by decide) (fun zc1 => ?_) (fun zc1 => ?_)
  · have hf := hf.trans (if_neg zc1)
    refine lv_aload_n hx hb dX8_whyNot_21 rfl (lv_at hl 0 rfl) ?_
    refine lv_iload_n hx hb dX8_whyNot_22 rfl (lv_at hl 2 rfl) ?_
    refine kzc (va_runV (As := [.int p2]) (rest := []) C0 (kX8_isShip l g A hA S p2) (cwV 1 hts (gV q812 q814 q13 q54 q815) rfl rfl rfl (by decide +kernel) ⟨Nat.le_of_ble_eq_true rfl, Nat.le_of_ble_eq_true rfl⟩) (preV (recO (mMain g) hP hK rfl) hP hK) rfl rfl hl.1 rfl (lv_room (Nat.le_of_ble_eq_true rfl)) dX8_whyNot_23 ⟨Nat.zero_le _, Nat.zero_le _⟩) hS (fun _ h => h) (fun zc2 H locs hP hS => ?_) (fun zc2 H locs hP hS => ?_)
    · have hf := hf.trans (if_pos zc2)
      refine lv_if_ne (tgt := 31) hx hb dX8_whyNot_26 (by decide) (fun zc3 => ?_) (fun zc3 => absurd zc3 (by decide))
      refine lv_aload_n hx hb dX8_whyNot_31 rfl (lv_at hl 0 rfl) ?_
      refine gO (T := TX8) C0 inA8 hK hP (mMain g) rfl 1 (by decide) (hts _ q677) (v := .int (S.1 0 0 1)) rfl dX8_whyNot_32 ?_
      refine lv_iload_n hx hb dX8_whyNot_35 rfl (lv_at hl 2 rfl) ?_
      refine kishr hx hb dX8_whyNot_36 ?_
      refine lv_iconst (v := 1) hx hb dX8_whyNot_37 (by decide) ?_
      refine lv_iand hx hb dX8_whyNot_38 ?_
      refine lv_if_ne (tgt := 44) hx hb dX8_whyNot_39 (by decide) (fun zc4 => ?_) (fun zc4 => ?_)
      · have hf := hf.trans (if_neg zc4)
        refine lv_iload_n hx hb dX8_whyNot_44 rfl (lv_at hl 1 rfl) ?_
        by_cases zc5 : p1 = 0
        · have hf := hf.trans (if_pos zc5)
          refine lv_tableIn (off := 27) (tgt := 72) hx hb dX8_whyNot_45 (by rw [zc5]; decide) (by rw [zc5]; decide) (by rw [zc5]; decide) (by decide) ?_
          refine lv_aload_n hx hb dX8_whyNot_72 rfl (lv_at hl 0 rfl) ?_
          refine gO (T := TX8) C0 inA8 hK hP (mMain g) rfl 6 (by decide) (hts _ q682) (v := .ref (g.1 0 6)) rfl dX8_whyNot_73 ?_
          refine lv_iconst (v := 3) hx hb dX8_whyNot_76 (by decide) ?_
          refine lv_iload_n hx hb dX8_whyNot_77 rfl (lv_at hl 2 rfl) ?_
          refine lv_imul hx hb dX8_whyNot_78 ?_
          refine lv_iload_n hx hb dX8_whyNot_79 rfl (lv_at hl 3 rfl) ?_
          refine lv_iadd hx hb dX8_whyNot_80 ?_
          refine gI C0 hK hP (mSums g) (vp3 (mSh_in zc2) (hv zc5)) dX8_whyNot_81 ?_
          refine lv_bipush (v := 10) hx hb dX8_whyNot_82 (by decide) ?_
          refine lv_iadd hx hb dX8_whyNot_84 ?_
          refine lv_bipush (v := 99) hx hb dX8_whyNot_85 (by decide) ?_
          refine lv_icmp_le (tgt := 94) hx hb dX8_whyNot_87 (by decide) (fun zc6 => ?_) (fun zc6 => ?_)
          · have hf := hf.trans (if_pos zc6)
            refine lv_iconst (v := 0) hx hb dX8_whyNot_94 (by decide) ?_
            exact ri hQ C0 hr hlocks hK hP hS (by rw [← hF]; exact ⟨hf.symm, rfl⟩) dX8_whyNot_95
          · have hf := hf.trans (if_neg zc6)
            refine lv_iconst (v := 3) hx hb dX8_whyNot_90 (by decide) ?_
            refine lv_goto (tgt := 95) hx hb dX8_whyNot_91 (by decide) ?_
            exact ri hQ C0 hr hlocks hK hP hS (by rw [← hF]; exact ⟨hf.symm, rfl⟩) dX8_whyNot_95
        · have hf := hf.trans (if_neg zc5)
          by_cases zc7 : p1 = 1
          · have hf := hf.trans (if_pos zc7)
            refine lv_tableIn (off := 51) (tgt := 96) hx hb dX8_whyNot_45 (by rw [zc7]; decide) (by rw [zc7]; decide) (by rw [zc7]; decide) (by decide) ?_
            refine lv_aload_n hx hb dX8_whyNot_96 rfl (lv_at hl 0 rfl) ?_
            refine gO (T := TX8) C0 inA8 hK hP (mMain g) rfl 5 (by decide) (hts _ q681) (v := .ref (g.1 0 5)) rfl dX8_whyNot_97 ?_
            refine lv_iload_n hx hb dX8_whyNot_100 rfl (lv_at hl 2 rfl) ?_
            refine gI C0 hK hP (mLoads g) (mSh_in zc2) dX8_whyNot_101 ?_
            refine lv_iload_n hx hb dX8_whyNot_102 rfl (lv_at hl 3 rfl) ?_
            refine lv_icmp_ne (tgt := 110) hx hb dX8_whyNot_103 (by decide) (fun zc8 => ?_) (fun zc8 => ?_)
            · have hf := hf.trans (if_neg zc8)
              refine lv_iconst (v := 0) hx hb dX8_whyNot_110 (by decide) ?_
              exact ri hQ C0 hr hlocks hK hP hS (by rw [← hF]; exact ⟨hf.symm, rfl⟩) dX8_whyNot_111
            · have hf := hf.trans (if_pos zc8)
              refine lv_iconst (v := 4) hx hb dX8_whyNot_106 (by decide) ?_
              refine lv_goto (tgt := 111) hx hb dX8_whyNot_107 (by decide) ?_
              exact ri hQ C0 hr hlocks hK hP hS (by rw [← hF]; exact ⟨hf.symm, rfl⟩) dX8_whyNot_111
          · have hf := hf.trans (if_neg zc7)
            by_cases zc9 : p1 = 2
            · have hf := hf.trans (if_pos zc9)
              refine lv_tableIn (off := 67) (tgt := 112) hx hb dX8_whyNot_45 (by rw [zc9]; decide) (by rw [zc9]; decide) (by rw [zc9]; decide) (by decide) ?_
              refine lv_iconst (v := 0) hx hb dX8_whyNot_112 (by decide) ?_
              exact ri hQ C0 hr hlocks hK hP hS (by rw [← hF]; exact ⟨hf.symm, rfl⟩) dX8_whyNot_113
            · have hf := hf.trans (if_neg zc9)
              refine lv_tableOut (tgt := 114) hx hb dX8_whyNot_45 (by have h0 := lv_neT (a := 0) zc5 (by decide); have h1 := lv_neT (a := 1) zc7 (by decide); have h2 := lv_neT (a := 2) zc9 (by decide); omega) (by decide) ?_
              refine lv_aload_n hx hb dX8_whyNot_114 rfl (lv_at hl 0 rfl) ?_
              refine gO (T := TX8) C0 inA8 hK hP (mMain g) rfl 5 (by decide) (hts _ q681) (v := .ref (g.1 0 5)) rfl dX8_whyNot_115 ?_
              refine lv_iload_n hx hb dX8_whyNot_118 rfl (lv_at hl 2 rfl) ?_
              refine gI C0 hK hP (mLoads g) (mSh_in zc2) dX8_whyNot_119 ?_
              refine lv_if_ne (tgt := 127) hx hb dX8_whyNot_120 (by decide) (fun zc10 => ?_) (fun zc10 => ?_)
              · have hf := hf.trans (if_neg zc10)
                refine lv_aload_n hx hb dX8_whyNot_127 rfl (lv_at hl 0 rfl) ?_
                refine lv_iload_n hx hb dX8_whyNot_128 rfl (lv_at hl 2 rfl) ?_
                refine kiP (va_runV (As := [.int p2]) (rest := []) C0 (kX8_risk l g A hA S p2 (mSh_in zc2)) (cwV 1 hts (gV q882 q884 q21 q54 q885) rfl rfl rfl (by decide +kernel) ⟨Nat.le_of_ble_eq_true rfl, Nat.le_of_ble_eq_true rfl⟩) (preV (recO (mMain g) hP hK rfl) hP hK) rfl rfl hl.1 rfl (lv_room (Nat.le_of_ble_eq_true rfl)) dX8_whyNot_129 ⟨Nat.zero_le _, Nat.zero_le _⟩) hS (fun _ h => h) (fun H locs hP hS => ?_)
                refine lv_aload_n hx hb dX8_whyNot_132 rfl (lv_at hl 0 rfl) ?_
                refine gO (T := TX8) C0 inA8 hK hP (mMain g) rfl 7 (by decide) (hts _ q683) (v := .int (S.1 0 0 7)) rfl dX8_whyNot_133 ?_
                refine lv_icmp_le (tgt := 143) hx hb dX8_whyNot_136 (by decide) (fun zc11 => ?_) (fun zc11 => ?_)
                · have hf := hf.trans (if_pos zc11)
                  refine lv_iconst (v := 0) hx hb dX8_whyNot_143 (by decide) ?_
                  exact ri hQ C0 hr hlocks hK hP hS (by rw [← hF]; exact ⟨hf.symm, rfl⟩) dX8_whyNot_144
                · have hf := hf.trans (if_neg zc11)
                  refine lv_iconst (v := 5) hx hb dX8_whyNot_139 (by decide) ?_
                  refine lv_goto (tgt := 144) hx hb dX8_whyNot_140 (by decide) ?_
                  exact ri hQ C0 hr hlocks hK hP hS (by rw [← hF]; exact ⟨hf.symm, rfl⟩) dX8_whyNot_144
              · have hf := hf.trans (if_pos zc10)
                refine lv_iconst (v := 4) hx hb dX8_whyNot_123 (by decide) ?_
                refine lv_goto (tgt := 144) hx hb dX8_whyNot_124 (by decide) ?_
                exact ri hQ C0 hr hlocks hK hP hS (by rw [← hF]; exact ⟨hf.symm, rfl⟩) dX8_whyNot_144
      · have hf := hf.trans (if_pos zc4)
        refine lv_iconst (v := 2) hx hb dX8_whyNot_42 (by decide) ?_
        exact ri hQ C0 hr hlocks hK hP hS (by rw [← hF]; exact ⟨hf.symm, rfl⟩) dX8_whyNot_43
    · have hf := hf.trans (if_neg zc2)
      refine lv_if_ne (tgt := 31) hx hb dX8_whyNot_26 (by decide) (fun zc12 => absurd (by decide) zc12) (fun zc12 => ?_)
      refine lv_iconst (v := 1) hx hb dX8_whyNot_29 (by decide) ?_
      exact ri hQ C0 hr hlocks hK hP hS (by rw [← hF]; exact ⟨hf.symm, rfl⟩) dX8_whyNot_30
  · have hf := hf.trans (if_pos zc1)
    refine lv_aload_n hx hb dX8_whyNot_5 rfl (lv_at hl 0 rfl) ?_
    refine gO (T := TX8) C0 inA8 hK hP (mMain g) rfl 10 (by decide) (hts _ q686) (v := .int (S.1 0 0 10)) rfl dX8_whyNot_6 ?_
    refine lv_bipush (v := 99) hx hb dX8_whyNot_9 (by decide) ?_
    refine lv_icmp_ne (tgt := 19) hx hb dX8_whyNot_11 (by decide) (fun zc13 => ?_) (fun zc13 => ?_)
    · have hf := hf.trans (if_neg zc13)
      refine lv_iconst (v := 0) hx hb dX8_whyNot_19 (by decide) ?_
      exact ri hQ C0 hr hlocks hK hP hS (by rw [← hF]; exact ⟨hf.symm, rfl⟩) dX8_whyNot_20
    · have hf := hf.trans (if_pos zc13)
      refine lv_bipush (v := 6) hx hb dX8_whyNot_14 (by decide) ?_
      refine lv_goto (tgt := 20) hx hb dX8_whyNot_16 (by decide) ?_
      exact ri hQ C0 hr hlocks hK hP hS (by rw [← hF]; exact ⟨hf.symm, rfl⟩) dX8_whyNot_20
def tX8_sail (S : St) (p1 : Int32) : St :=
  (bnd (((up S 0 0 23 ((S.1 0 0 23) + 1)).1 0 0 11) + (((up S 0 0 23 ((S.1 0 0 23) + 1)).1 0 5 (Int32.toNatClampNeg p1)) * ((up S 0 0 23 ((S.1 0 0 23) + 1)).1 0 0 8))) (fun zx1 => (if 40 ≤ ((up (up S 0 0 23 ((S.1 0 0 23) + 1)) 0 0 11 zx1).1 0 2 (Int32.toNatClampNeg p1)) then (bnd (up (up (up (up S 0 0 23 ((S.1 0 0 23) + 1)) 0 0 11 zx1) 0 2 (Int32.toNatClampNeg p1) 40) 0 5 (Int32.toNatClampNeg p1) 0) (fun zS3 => zS3)) else (bnd (up (up (up S 0 0 23 ((S.1 0 0 23) + 1)) 0 0 11 zx1) 0 2 (Int32.toNatClampNeg p1) (((up (up S 0 0 23 ((S.1 0 0 23) + 1)) 0 0 11 zx1).1 0 2 (Int32.toNatClampNeg p1)) + 1)) (fun zS4 => (up zS4 0 5 (Int32.toNatClampNeg p1) 0))))))
set_option maxHeartbeats 4000000 in
set_option maxRecDepth 100000 in
theorem kX8_sail (l : Launch) (g : Gd) (A : Nat → Prop) (hA : Ads g.1 VM A) (S : St) (p1 : Int32) (hk : vp_in p1 6) : Met l yX8_sail (wU yX8_sail cX8_sail 2 none) { frames := 0, cells := 0, slots := 0, locals := 0 } (va_Pc [.ref (g.1 0 0), .int p1] (PW VM ctM g S)) (va_Qv (fun u => u = tX8_sail S p1) (fun u U => PW VM ctM g u U) A) 0 0 A := by
  refine ent (cc := cX8_sail) (maxL := 2) (ret := none) (by decide) (Nat.le_of_ble_eq_true rfl) ?_
  intro p e s m below meth c args Q C0 hr hlocks hP hK hQ ls hl
  have hx := C0.1
  have hb := C0.2.1
  have hml := C0.2.2.1
  have hown := C0.2.2.2.1
  have hts := C0.2.2.2.2
  obtain ⟨F, hF⟩ : ∃ F : St, F = tX8_sail S p1 := ⟨_, rfl⟩
  have hf := hF
  unfold tX8_sail at hf
  have hS : va_S A s.heap s.heap [] := va_S.rf
  have hl : lv_has ls 2 [(0, .ref (g.1 0 0)), (1, .int p1)] := hl
  refine lv_aload_n hx hb dX8_sail_0 rfl (lv_at hl 0 rfl) ?_
  refine lv_dup hx hb dX8_sail_1 rfl ?_
  refine gO (T := TX8) C0 inA8 hK hP (mMain g) rfl 23 (by decide) (hts _ q699) (v := .int (S.1 0 0 23)) rfl dX8_sail_2 ?_
  refine lv_iconst (v := 1) hx hb dX8_sail_5 (by decide) ?_
  refine lv_iadd hx hb dX8_sail_6 ?_
  refine pO (T := TX8) (ty0 := tyX8) locM C0 inA8 tyX8_ok nmX8 hK hP hA hS (mMain g) rfl 23 (by decide) (hts _ q699) rfl 23 ((S.1 0 0 23) + 1) rfl rfl rfl (Nat.le_of_ble_eq_true rfl) dX8_sail_7 (fun H locs hP hS => ?_)
  refine lv_aload_n hx hb dX8_sail_10 rfl (lv_at hl 0 rfl) ?_
  refine lv_dup hx hb dX8_sail_11 rfl ?_
  refine gO (T := TX8) C0 inA8 hK hP (mMain g) rfl 11 (by decide) (hts _ q687) (v := .int ((up S 0 0 23 ((S.1 0 0 23) + 1)).1 0 0 11)) rfl dX8_sail_12 ?_
  refine lv_aload_n hx hb dX8_sail_15 rfl (lv_at hl 0 rfl) ?_
  refine gO (T := TX8) C0 inA8 hK hP (mMain g) rfl 5 (by decide) (hts _ q681) (v := .ref (g.1 0 5)) rfl dX8_sail_16 ?_
  refine lv_iload_n hx hb dX8_sail_19 rfl (lv_at hl 1 rfl) ?_
  refine gI C0 hK hP (mLoads g) hk dX8_sail_20 ?_
  refine lv_aload_n hx hb dX8_sail_21 rfl (lv_at hl 0 rfl) ?_
  refine gO (T := TX8) C0 inA8 hK hP (mMain g) rfl 8 (by decide) (hts _ q684) (v := .int ((up S 0 0 23 ((S.1 0 0 23) + 1)).1 0 0 8)) rfl dX8_sail_22 ?_
  refine lv_imul hx hb dX8_sail_25 ?_
  refine lv_iadd hx hb dX8_sail_26 ?_
  refine lv_topi (fun zx1 hzx1 => ?_)
  have hf := hf.trans (bnd_eq hzx1)
  refine pO (T := TX8) (ty0 := tyX8) locM C0 inA8 tyX8_ok nmX8 hK hP hA hS (mMain g) rfl 11 (by decide) (hts _ q687) rfl 11 zx1 rfl rfl rfl (Nat.le_of_ble_eq_true rfl) dX8_sail_27 (fun H locs hP hS => ?_)
  refine lv_aload_n hx hb dX8_sail_30 rfl (lv_at hl 0 rfl) ?_
  refine gO (T := TX8) C0 inA8 hK hP (mMain g) rfl 2 (by decide) (hts _ q678) (v := .ref (g.1 0 2)) rfl dX8_sail_31 ?_
  refine lv_iload_n hx hb dX8_sail_34 rfl (lv_at hl 1 rfl) ?_
  refine lv_aload_n hx hb dX8_sail_35 rfl (lv_at hl 0 rfl) ?_
  refine gO (T := TX8) C0 inA8 hK hP (mMain g) rfl 2 (by decide) (hts _ q678) (v := .ref (g.1 0 2)) rfl dX8_sail_36 ?_
  refine lv_iload_n hx hb dX8_sail_39 rfl (lv_at hl 1 rfl) ?_
  refine gI C0 hK hP (mAge g) hk dX8_sail_40 ?_
  refine lv_bipush (v := 40) hx hb dX8_sail_41 (by decide) ?_
  refine lv_icmp_ge (tgt := 57) hx hb dX8_sail_43 (by decide) (fun zc2 => ?_) (fun zc2 => ?_)
  · have hf := hf.trans (if_pos zc2)
    refine lv_bipush (v := 40) hx hb dX8_sail_57 (by decide) ?_
    refine pI locM C0 hK hP hA hS (mAge g) hk dX8_sail_59 (fun H locs hP hS => ?_)
    refine lv_aload_n hx hb dX8_sail_60 rfl (lv_at hl 0 rfl) ?_
    refine gO (T := TX8) C0 inA8 hK hP (mMain g) rfl 5 (by decide) (hts _ q681) (v := .ref (g.1 0 5)) rfl dX8_sail_61 ?_
    refine lv_iload_n hx hb dX8_sail_64 rfl (lv_at hl 1 rfl) ?_
    refine lv_iconst (v := 0) hx hb dX8_sail_65 (by decide) ?_
    refine pI locM C0 hK hP hA hS (mLoads g) hk dX8_sail_66 (fun H locs hP hS => ?_)
    obtain ⟨zS3, hzS3⟩ : ∃ z : St, z = (up (up (up (up S 0 0 23 ((S.1 0 0 23) + 1)) 0 0 11 zx1) 0 2 (Int32.toNatClampNeg p1) 40) 0 5 (Int32.toNatClampNeg p1) 0) := ⟨_, rfl⟩
    rw [← hzS3] at hP
    have hf := hf.trans (bnd_eq hzS3)
    exact rv hQ C0 hr hlocks hK hP hS (by rw [← hF]; exact hf.symm) dX8_sail_67
  · have hf := hf.trans (if_neg zc2)
    refine lv_aload_n hx hb dX8_sail_46 rfl (lv_at hl 0 rfl) ?_
    refine gO (T := TX8) C0 inA8 hK hP (mMain g) rfl 2 (by decide) (hts _ q678) (v := .ref (g.1 0 2)) rfl dX8_sail_47 ?_
    refine lv_iload_n hx hb dX8_sail_50 rfl (lv_at hl 1 rfl) ?_
    refine gI C0 hK hP (mAge g) hk dX8_sail_51 ?_
    refine lv_iconst (v := 1) hx hb dX8_sail_52 (by decide) ?_
    refine lv_iadd hx hb dX8_sail_53 ?_
    refine lv_goto (tgt := 59) hx hb dX8_sail_54 (by decide) ?_
    refine pI locM C0 hK hP hA hS (mAge g) hk dX8_sail_59 (fun H locs hP hS => ?_)
    obtain ⟨zS4, hzS4⟩ : ∃ z : St, z = (up (up (up S 0 0 23 ((S.1 0 0 23) + 1)) 0 0 11 zx1) 0 2 (Int32.toNatClampNeg p1) (((up (up S 0 0 23 ((S.1 0 0 23) + 1)) 0 0 11 zx1).1 0 2 (Int32.toNatClampNeg p1)) + 1)) := ⟨_, rfl⟩
    rw [← hzS4] at hP
    have hf := hf.trans (bnd_eq hzS4)
    refine lv_aload_n hx hb dX8_sail_60 rfl (lv_at hl 0 rfl) ?_
    refine gO (T := TX8) C0 inA8 hK hP (mMain g) rfl 5 (by decide) (hts _ q681) (v := .ref (g.1 0 5)) rfl dX8_sail_61 ?_
    refine lv_iload_n hx hb dX8_sail_64 rfl (lv_at hl 1 rfl) ?_
    refine lv_iconst (v := 0) hx hb dX8_sail_65 (by decide) ?_
    refine pI locM C0 hK hP hA hS (mLoads g) hk dX8_sail_66 (fun H locs hP hS => ?_)
    exact rv hQ C0 hr hlocks hK hP hS (by rw [← hF]; exact hf.symm) dX8_sail_67
def tX8_sink (S : St) (p1 : Int32) : St :=
  (bnd (((up S 0 0 23 ((S.1 0 0 23) + 1)).1 0 0 11) + ((tX8_insured (up S 0 0 23 ((S.1 0 0 23) + 1)) p1) - ((up S 0 0 23 ((S.1 0 0 23) + 1)).1 0 3 (Int32.toNatClampNeg p1)))) (fun zx1 => (bnd (((up (up S 0 0 23 ((S.1 0 0 23) + 1)) 0 0 11 zx1).1 0 0 12) + ((up (up S 0 0 23 ((S.1 0 0 23) + 1)) 0 0 11 zx1).1 0 4 (Int32.toNatClampNeg p1))) (fun zx2 => (bnd (up (up (up (up S 0 0 23 ((S.1 0 0 23) + 1)) 0 0 11 zx1) 0 0 12 zx2) 0 0 1 (((up (up (up S 0 0 23 ((S.1 0 0 23) + 1)) 0 0 11 zx1) 0 0 12 zx2).1 0 0 1) &&& ((ishlF 1 p1) ^^^ (-1)))) (fun zS3 => (if (zS3.1 0 0 26) = 0 then (if ((up zS3 0 0 24 (zS3.1 0 0 27)).1 0 0 26) = 0 then (bnd (up (up (up zS3 0 0 24 (zS3.1 0 0 27)) 0 0 25 p1) 0 0 26 (((up (up zS3 0 0 24 (zS3.1 0 0 27)) 0 0 25 p1).1 0 0 26) + 1)) (fun zS10 => zS10)) else (bnd (up (up (up zS3 0 0 24 (zS3.1 0 0 27)) 0 0 25 ((up zS3 0 0 24 (zS3.1 0 0 27)).1 0 0 25)) 0 0 26 (((up (up zS3 0 0 24 (zS3.1 0 0 27)) 0 0 25 ((up zS3 0 0 24 (zS3.1 0 0 27)).1 0 0 25)).1 0 0 26) + 1)) (fun zS9 => zS9))) else (if ((up zS3 0 0 24 (zS3.1 0 0 24)).1 0 0 26) = 0 then (bnd (up (up (up zS3 0 0 24 (zS3.1 0 0 24)) 0 0 25 p1) 0 0 26 (((up (up zS3 0 0 24 (zS3.1 0 0 24)) 0 0 25 p1).1 0 0 26) + 1)) (fun zS7 => zS7)) else (bnd (up (up (up zS3 0 0 24 (zS3.1 0 0 24)) 0 0 25 ((up zS3 0 0 24 (zS3.1 0 0 24)).1 0 0 25)) 0 0 26 (((up (up zS3 0 0 24 (zS3.1 0 0 24)) 0 0 25 ((up zS3 0 0 24 (zS3.1 0 0 24)).1 0 0 25)).1 0 0 26) + 1)) (fun zS6 => zS6))))))))))
set_option maxHeartbeats 4000000 in
set_option maxRecDepth 100000 in
theorem kX8_sink (l : Launch) (g : Gd) (A : Nat → Prop) (hA : Ads g.1 VM A) (S : St) (p1 : Int32) (hk : vp_in p1 6) : Met l yX8_sink (wU yX8_sink cX8_sink 2 none) { frames := 1, cells := 0, slots := 0, locals := 21 } (va_Pc [.ref (g.1 0 0), .int p1] (PW VM ctM g S)) (va_Qv (fun u => u = tX8_sink S p1) (fun u U => PW VM ctM g u U) A) 0 0 A := by
  refine ent (cc := cX8_sink) (maxL := 2) (ret := none) (by decide) (Nat.le_of_ble_eq_true rfl) ?_
  intro p e s m below meth c args Q C0 hr hlocks hP hK hQ ls hl
  have hx := C0.1
  have hb := C0.2.1
  have hml := C0.2.2.1
  have hown := C0.2.2.2.1
  have hts := C0.2.2.2.2
  obtain ⟨F, hF⟩ : ∃ F : St, F = tX8_sink S p1 := ⟨_, rfl⟩
  have hf := hF
  unfold tX8_sink at hf
  have hS : va_S A s.heap s.heap [] := va_S.rf
  have hl : lv_has ls 2 [(0, .ref (g.1 0 0)), (1, .int p1)] := hl
  refine lv_aload_n hx hb dX8_sink_0 rfl (lv_at hl 0 rfl) ?_
  refine lv_dup hx hb dX8_sink_1 rfl ?_
  refine gO (T := TX8) C0 inA8 hK hP (mMain g) rfl 23 (by decide) (hts _ q699) (v := .int (S.1 0 0 23)) rfl dX8_sink_2 ?_
  refine lv_iconst (v := 1) hx hb dX8_sink_5 (by decide) ?_
  refine lv_iadd hx hb dX8_sink_6 ?_
  refine pO (T := TX8) (ty0 := tyX8) locM C0 inA8 tyX8_ok nmX8 hK hP hA hS (mMain g) rfl 23 (by decide) (hts _ q699) rfl 23 ((S.1 0 0 23) + 1) rfl rfl rfl (Nat.le_of_ble_eq_true rfl) dX8_sink_7 (fun H locs hP hS => ?_)
  refine lv_aload_n hx hb dX8_sink_10 rfl (lv_at hl 0 rfl) ?_
  refine lv_dup hx hb dX8_sink_11 rfl ?_
  refine gO (T := TX8) C0 inA8 hK hP (mMain g) rfl 11 (by decide) (hts _ q687) (v := .int ((up S 0 0 23 ((S.1 0 0 23) + 1)).1 0 0 11)) rfl dX8_sink_12 ?_
  refine lv_aload_n hx hb dX8_sink_15 rfl (lv_at hl 0 rfl) ?_
  refine lv_iload_n hx hb dX8_sink_16 rfl (lv_at hl 1 rfl) ?_
  refine kiP (va_runV (As := [.int p1]) (rest := [.int ((up S 0 0 23 ((S.1 0 0 23) + 1)).1 0 0 11), .ref (g.1 0 0)]) C0 (kX8_insured l g A hA (up S 0 0 23 ((S.1 0 0 23) + 1)) p1 (by exact hk)) (cwV 1 hts (gV q902 q904 q26 q54 q905) rfl rfl rfl (by decide +kernel) ⟨Nat.le_of_ble_eq_true rfl, Nat.le_of_ble_eq_true rfl⟩) (preV (recO (mMain g) hP hK rfl) hP hK) rfl rfl hl.1 rfl (lv_room (Nat.le_of_ble_eq_true rfl)) dX8_sink_17 ⟨Nat.zero_le _, Nat.zero_le _⟩) hS (fun _ h => h) (fun H locs hP hS => ?_)
  refine lv_aload_n hx hb dX8_sink_20 rfl (lv_at hl 0 rfl) ?_
  refine gO (T := TX8) C0 inA8 hK hP (mMain g) rfl 3 (by decide) (hts _ q679) (v := .ref (g.1 0 3)) rfl dX8_sink_21 ?_
  refine lv_iload_n hx hb dX8_sink_24 rfl (lv_at hl 1 rfl) ?_
  refine gI C0 hK hP (mWorth g) hk dX8_sink_25 ?_
  refine lv_isub hx hb dX8_sink_26 ?_
  refine lv_iadd hx hb dX8_sink_27 ?_
  refine lv_topi (fun zx1 hzx1 => ?_)
  have hf := hf.trans (bnd_eq hzx1)
  refine pO (T := TX8) (ty0 := tyX8) locM C0 inA8 tyX8_ok nmX8 hK hP hA hS (mMain g) rfl 11 (by decide) (hts _ q687) rfl 11 zx1 rfl rfl rfl (Nat.le_of_ble_eq_true rfl) dX8_sink_28 (fun H locs hP hS => ?_)
  refine lv_aload_n hx hb dX8_sink_31 rfl (lv_at hl 0 rfl) ?_
  refine lv_dup hx hb dX8_sink_32 rfl ?_
  refine gO (T := TX8) C0 inA8 hK hP (mMain g) rfl 12 (by decide) (hts _ q688) (v := .int ((up (up S 0 0 23 ((S.1 0 0 23) + 1)) 0 0 11 zx1).1 0 0 12)) rfl dX8_sink_33 ?_
  refine lv_aload_n hx hb dX8_sink_36 rfl (lv_at hl 0 rfl) ?_
  refine gO (T := TX8) C0 inA8 hK hP (mMain g) rfl 4 (by decide) (hts _ q680) (v := .ref (g.1 0 4)) rfl dX8_sink_37 ?_
  refine lv_iload_n hx hb dX8_sink_40 rfl (lv_at hl 1 rfl) ?_
  refine gI C0 hK hP (mCrew g) hk dX8_sink_41 ?_
  refine lv_iadd hx hb dX8_sink_42 ?_
  refine lv_topi (fun zx2 hzx2 => ?_)
  have hf := hf.trans (bnd_eq hzx2)
  refine pO (T := TX8) (ty0 := tyX8) locM C0 inA8 tyX8_ok nmX8 hK hP hA hS (mMain g) rfl 12 (by decide) (hts _ q688) rfl 12 zx2 rfl rfl rfl (Nat.le_of_ble_eq_true rfl) dX8_sink_43 (fun H locs hP hS => ?_)
  refine lv_aload_n hx hb dX8_sink_46 rfl (lv_at hl 0 rfl) ?_
  refine lv_dup hx hb dX8_sink_47 rfl ?_
  refine gO (T := TX8) C0 inA8 hK hP (mMain g) rfl 1 (by decide) (hts _ q677) (v := .int ((up (up (up S 0 0 23 ((S.1 0 0 23) + 1)) 0 0 11 zx1) 0 0 12 zx2).1 0 0 1)) rfl dX8_sink_48 ?_
  refine lv_iconst (v := 1) hx hb dX8_sink_51 (by decide) ?_
  refine lv_iload_n hx hb dX8_sink_52 rfl (lv_at hl 1 rfl) ?_
  refine kishl hx hb dX8_sink_53 ?_
  refine lv_iconst (v := (-1)) hx hb dX8_sink_54 (by decide) ?_
  refine lv_ixor hx hb dX8_sink_55 ?_
  refine lv_iand hx hb dX8_sink_56 ?_
  refine pO (T := TX8) (ty0 := tyX8) locM C0 inA8 tyX8_ok nmX8 hK hP hA hS (mMain g) rfl 1 (by decide) (hts _ q677) rfl 1 (((up (up (up S 0 0 23 ((S.1 0 0 23) + 1)) 0 0 11 zx1) 0 0 12 zx2).1 0 0 1) &&& ((ishlF 1 p1) ^^^ (-1))) rfl rfl rfl (Nat.le_of_ble_eq_true rfl) dX8_sink_57 (fun H locs hP hS => ?_)
  obtain ⟨zS3, hzS3⟩ : ∃ z : St, z = (up (up (up (up S 0 0 23 ((S.1 0 0 23) + 1)) 0 0 11 zx1) 0 0 12 zx2) 0 0 1 (((up (up (up S 0 0 23 ((S.1 0 0 23) + 1)) 0 0 11 zx1) 0 0 12 zx2).1 0 0 1) &&& ((ishlF 1 p1) ^^^ (-1)))) := ⟨_, rfl⟩
  rw [← hzS3] at hP
  have hf := hf.trans (bnd_eq hzS3)
  refine lv_aload_n hx hb dX8_sink_60 rfl (lv_at hl 0 rfl) ?_
  refine lv_aload_n hx hb dX8_sink_61 rfl (lv_at hl 0 rfl) ?_
  refine gO (T := TX8) C0 inA8 hK hP (mMain g) rfl 26 (by decide) (hts _ q702) (v := .int (zS3.1 0 0 26)) rfl dX8_sink_62 ?_
  refine lv_if_ne (tgt := 75) hx hb dX8_sink_65 (by decide) (fun zc4 => ?_) (fun zc4 => ?_)
  · have hf := hf.trans (if_neg zc4)
    refine lv_aload_n hx hb dX8_sink_75 rfl (lv_at hl 0 rfl) ?_
    refine gO (T := TX8) C0 inA8 hK hP (mMain g) rfl 24 (by decide) (hts _ q700) (v := .int (zS3.1 0 0 24)) rfl dX8_sink_76 ?_
    refine pO (T := TX8) (ty0 := tyX8) locM C0 inA8 tyX8_ok nmX8 hK hP hA hS (mMain g) rfl 24 (by decide) (hts _ q700) rfl 24 (zS3.1 0 0 24) rfl rfl rfl (Nat.le_of_ble_eq_true rfl) dX8_sink_79 (fun H locs hP hS => ?_)
    refine lv_aload_n hx hb dX8_sink_82 rfl (lv_at hl 0 rfl) ?_
    refine lv_aload_n hx hb dX8_sink_83 rfl (lv_at hl 0 rfl) ?_
    refine gO (T := TX8) C0 inA8 hK hP (mMain g) rfl 26 (by decide) (hts _ q702) (v := .int ((up zS3 0 0 24 (zS3.1 0 0 24)).1 0 0 26)) rfl dX8_sink_84 ?_
    refine lv_if_ne (tgt := 94) hx hb dX8_sink_87 (by decide) (fun zc5 => ?_) (fun zc5 => ?_)
    · have hf := hf.trans (if_neg zc5)
      refine lv_aload_n hx hb dX8_sink_94 rfl (lv_at hl 0 rfl) ?_
      refine gO (T := TX8) C0 inA8 hK hP (mMain g) rfl 25 (by decide) (hts _ q701) (v := .int ((up zS3 0 0 24 (zS3.1 0 0 24)).1 0 0 25)) rfl dX8_sink_95 ?_
      refine pO (T := TX8) (ty0 := tyX8) locM C0 inA8 tyX8_ok nmX8 hK hP hA hS (mMain g) rfl 25 (by decide) (hts _ q701) rfl 25 ((up zS3 0 0 24 (zS3.1 0 0 24)).1 0 0 25) rfl rfl rfl (Nat.le_of_ble_eq_true rfl) dX8_sink_98 (fun H locs hP hS => ?_)
      refine lv_aload_n hx hb dX8_sink_101 rfl (lv_at hl 0 rfl) ?_
      refine lv_dup hx hb dX8_sink_102 rfl ?_
      refine gO (T := TX8) C0 inA8 hK hP (mMain g) rfl 26 (by decide) (hts _ q702) (v := .int ((up (up zS3 0 0 24 (zS3.1 0 0 24)) 0 0 25 ((up zS3 0 0 24 (zS3.1 0 0 24)).1 0 0 25)).1 0 0 26)) rfl dX8_sink_103 ?_
      refine lv_iconst (v := 1) hx hb dX8_sink_106 (by decide) ?_
      refine lv_iadd hx hb dX8_sink_107 ?_
      refine pO (T := TX8) (ty0 := tyX8) locM C0 inA8 tyX8_ok nmX8 hK hP hA hS (mMain g) rfl 26 (by decide) (hts _ q702) rfl 26 (((up (up zS3 0 0 24 (zS3.1 0 0 24)) 0 0 25 ((up zS3 0 0 24 (zS3.1 0 0 24)).1 0 0 25)).1 0 0 26) + 1) rfl rfl rfl (Nat.le_of_ble_eq_true rfl) dX8_sink_108 (fun H locs hP hS => ?_)
      obtain ⟨zS6, hzS6⟩ : ∃ z : St, z = (up (up (up zS3 0 0 24 (zS3.1 0 0 24)) 0 0 25 ((up zS3 0 0 24 (zS3.1 0 0 24)).1 0 0 25)) 0 0 26 (((up (up zS3 0 0 24 (zS3.1 0 0 24)) 0 0 25 ((up zS3 0 0 24 (zS3.1 0 0 24)).1 0 0 25)).1 0 0 26) + 1)) := ⟨_, rfl⟩
      rw [← hzS6] at hP
      have hf := hf.trans (bnd_eq hzS6)
      exact rv hQ C0 hr hlocks hK hP hS (by rw [← hF]; exact hf.symm) dX8_sink_111
    · have hf := hf.trans (if_pos zc5)
      refine lv_iload_n hx hb dX8_sink_90 rfl (lv_at hl 1 rfl) ?_
      refine lv_goto (tgt := 98) hx hb dX8_sink_91 (by decide) ?_
      refine pO (T := TX8) (ty0 := tyX8) locM C0 inA8 tyX8_ok nmX8 hK hP hA hS (mMain g) rfl 25 (by decide) (hts _ q701) rfl 25 p1 rfl rfl rfl (Nat.le_of_ble_eq_true rfl) dX8_sink_98 (fun H locs hP hS => ?_)
      refine lv_aload_n hx hb dX8_sink_101 rfl (lv_at hl 0 rfl) ?_
      refine lv_dup hx hb dX8_sink_102 rfl ?_
      refine gO (T := TX8) C0 inA8 hK hP (mMain g) rfl 26 (by decide) (hts _ q702) (v := .int ((up (up zS3 0 0 24 (zS3.1 0 0 24)) 0 0 25 p1).1 0 0 26)) rfl dX8_sink_103 ?_
      refine lv_iconst (v := 1) hx hb dX8_sink_106 (by decide) ?_
      refine lv_iadd hx hb dX8_sink_107 ?_
      refine pO (T := TX8) (ty0 := tyX8) locM C0 inA8 tyX8_ok nmX8 hK hP hA hS (mMain g) rfl 26 (by decide) (hts _ q702) rfl 26 (((up (up zS3 0 0 24 (zS3.1 0 0 24)) 0 0 25 p1).1 0 0 26) + 1) rfl rfl rfl (Nat.le_of_ble_eq_true rfl) dX8_sink_108 (fun H locs hP hS => ?_)
      obtain ⟨zS7, hzS7⟩ : ∃ z : St, z = (up (up (up zS3 0 0 24 (zS3.1 0 0 24)) 0 0 25 p1) 0 0 26 (((up (up zS3 0 0 24 (zS3.1 0 0 24)) 0 0 25 p1).1 0 0 26) + 1)) := ⟨_, rfl⟩
      rw [← hzS7] at hP
      have hf := hf.trans (bnd_eq hzS7)
      exact rv hQ C0 hr hlocks hK hP hS (by rw [← hF]; exact hf.symm) dX8_sink_111
  · have hf := hf.trans (if_pos zc4)
    refine lv_aload_n hx hb dX8_sink_68 rfl (lv_at hl 0 rfl) ?_
    refine gO (T := TX8) C0 inA8 hK hP (mMain g) rfl 27 (by decide) (hts _ q703) (v := .int (zS3.1 0 0 27)) rfl dX8_sink_69 ?_
    refine lv_goto (tgt := 79) hx hb dX8_sink_72 (by decide) ?_
    refine pO (T := TX8) (ty0 := tyX8) locM C0 inA8 tyX8_ok nmX8 hK hP hA hS (mMain g) rfl 24 (by decide) (hts _ q700) rfl 24 (zS3.1 0 0 27) rfl rfl rfl (Nat.le_of_ble_eq_true rfl) dX8_sink_79 (fun H locs hP hS => ?_)
    refine lv_aload_n hx hb dX8_sink_82 rfl (lv_at hl 0 rfl) ?_
    refine lv_aload_n hx hb dX8_sink_83 rfl (lv_at hl 0 rfl) ?_
    refine gO (T := TX8) C0 inA8 hK hP (mMain g) rfl 26 (by decide) (hts _ q702) (v := .int ((up zS3 0 0 24 (zS3.1 0 0 27)).1 0 0 26)) rfl dX8_sink_84 ?_
    refine lv_if_ne (tgt := 94) hx hb dX8_sink_87 (by decide) (fun zc8 => ?_) (fun zc8 => ?_)
    · have hf := hf.trans (if_neg zc8)
      refine lv_aload_n hx hb dX8_sink_94 rfl (lv_at hl 0 rfl) ?_
      refine gO (T := TX8) C0 inA8 hK hP (mMain g) rfl 25 (by decide) (hts _ q701) (v := .int ((up zS3 0 0 24 (zS3.1 0 0 27)).1 0 0 25)) rfl dX8_sink_95 ?_
      refine pO (T := TX8) (ty0 := tyX8) locM C0 inA8 tyX8_ok nmX8 hK hP hA hS (mMain g) rfl 25 (by decide) (hts _ q701) rfl 25 ((up zS3 0 0 24 (zS3.1 0 0 27)).1 0 0 25) rfl rfl rfl (Nat.le_of_ble_eq_true rfl) dX8_sink_98 (fun H locs hP hS => ?_)
      refine lv_aload_n hx hb dX8_sink_101 rfl (lv_at hl 0 rfl) ?_
      refine lv_dup hx hb dX8_sink_102 rfl ?_
      refine gO (T := TX8) C0 inA8 hK hP (mMain g) rfl 26 (by decide) (hts _ q702) (v := .int ((up (up zS3 0 0 24 (zS3.1 0 0 27)) 0 0 25 ((up zS3 0 0 24 (zS3.1 0 0 27)).1 0 0 25)).1 0 0 26)) rfl dX8_sink_103 ?_
      refine lv_iconst (v := 1) hx hb dX8_sink_106 (by decide) ?_
      refine lv_iadd hx hb dX8_sink_107 ?_
      refine pO (T := TX8) (ty0 := tyX8) locM C0 inA8 tyX8_ok nmX8 hK hP hA hS (mMain g) rfl 26 (by decide) (hts _ q702) rfl 26 (((up (up zS3 0 0 24 (zS3.1 0 0 27)) 0 0 25 ((up zS3 0 0 24 (zS3.1 0 0 27)).1 0 0 25)).1 0 0 26) + 1) rfl rfl rfl (Nat.le_of_ble_eq_true rfl) dX8_sink_108 (fun H locs hP hS => ?_)
      obtain ⟨zS9, hzS9⟩ : ∃ z : St, z = (up (up (up zS3 0 0 24 (zS3.1 0 0 27)) 0 0 25 ((up zS3 0 0 24 (zS3.1 0 0 27)).1 0 0 25)) 0 0 26 (((up (up zS3 0 0 24 (zS3.1 0 0 27)) 0 0 25 ((up zS3 0 0 24 (zS3.1 0 0 27)).1 0 0 25)).1 0 0 26) + 1)) := ⟨_, rfl⟩
      rw [← hzS9] at hP
      have hf := hf.trans (bnd_eq hzS9)
      exact rv hQ C0 hr hlocks hK hP hS (by rw [← hF]; exact hf.symm) dX8_sink_111
    · have hf := hf.trans (if_pos zc8)
      refine lv_iload_n hx hb dX8_sink_90 rfl (lv_at hl 1 rfl) ?_
      refine lv_goto (tgt := 98) hx hb dX8_sink_91 (by decide) ?_
      refine pO (T := TX8) (ty0 := tyX8) locM C0 inA8 tyX8_ok nmX8 hK hP hA hS (mMain g) rfl 25 (by decide) (hts _ q701) rfl 25 p1 rfl rfl rfl (Nat.le_of_ble_eq_true rfl) dX8_sink_98 (fun H locs hP hS => ?_)
      refine lv_aload_n hx hb dX8_sink_101 rfl (lv_at hl 0 rfl) ?_
      refine lv_dup hx hb dX8_sink_102 rfl ?_
      refine gO (T := TX8) C0 inA8 hK hP (mMain g) rfl 26 (by decide) (hts _ q702) (v := .int ((up (up zS3 0 0 24 (zS3.1 0 0 27)) 0 0 25 p1).1 0 0 26)) rfl dX8_sink_103 ?_
      refine lv_iconst (v := 1) hx hb dX8_sink_106 (by decide) ?_
      refine lv_iadd hx hb dX8_sink_107 ?_
      refine pO (T := TX8) (ty0 := tyX8) locM C0 inA8 tyX8_ok nmX8 hK hP hA hS (mMain g) rfl 26 (by decide) (hts _ q702) rfl 26 (((up (up zS3 0 0 24 (zS3.1 0 0 27)) 0 0 25 p1).1 0 0 26) + 1) rfl rfl rfl (Nat.le_of_ble_eq_true rfl) dX8_sink_108 (fun H locs hP hS => ?_)
      obtain ⟨zS10, hzS10⟩ : ∃ z : St, z = (up (up (up zS3 0 0 24 (zS3.1 0 0 27)) 0 0 25 p1) 0 0 26 (((up (up zS3 0 0 24 (zS3.1 0 0 27)) 0 0 25 p1).1 0 0 26) + 1)) := ⟨_, rfl⟩
      rw [← hzS10] at hP
      have hf := hf.trans (bnd_eq hzS10)
      exact rv hQ C0 hr hlocks hK hP hS (by rw [← hF]; exact hf.symm) dX8_sink_111
def tX8_happen (S : St) (p1 : Int32) (p2 : Int32) (p3 : Int32) : St :=
  (if p1 = 0 then (bnd (up S 0 6 (Int32.toNatClampNeg ((3 * p2) + p3)) ((S.1 0 6 (Int32.toNatClampNeg ((3 * p2) + p3))) + 10)) (fun zS2 => zS2)) else (if p1 = 1 then (up S 0 5 (Int32.toNatClampNeg p2) p3) else (if p1 = 2 then (up S 0 2 (Int32.toNatClampNeg p2) ((S.1 0 2 (Int32.toNatClampNeg p2)) / 2)) else (if p1 = 3 then (bnd (tX8_sail S p2) (fun zS6 => zS6)) else (if p1 = 4 then (bnd (tX8_sink S p2) (fun zS8 => zS8)) else (bnd (up (up S 0 0 9 (1 - (S.1 0 0 9))) 0 0 10 (((up S 0 0 9 (1 - (S.1 0 0 9))).1 0 0 10) + 1)) (fun zS9 => zS9)))))))
set_option maxHeartbeats 4000000 in
set_option maxRecDepth 100000 in
theorem kX8_happen (l : Launch) (g : Gd) (A : Nat → Prop) (hA : Ads g.1 VM A) (S : St) (p1 : Int32) (p2 : Int32) (p3 : Int32) (hk : ¬ p1 = 5 → vp_in p2 6) (hv : p1 = 0 → wi p3 0 2) : Met l yX8_happen (wU yX8_happen cX8_happen 4 none) { frames := 2, cells := 0, slots := 0, locals := 42 } (va_Pc [.ref (g.1 0 0), .int p1, .int p2, .int p3] (PW VM ctM g S)) (va_Qv (fun u => u = tX8_happen S p1 p2 p3) (fun u U => PW VM ctM g u U) A) 0 0 A := by
  refine ent (cc := cX8_happen) (maxL := 4) (ret := none) (by decide) (Nat.le_of_ble_eq_true rfl) ?_
  intro p e s m below meth c args Q C0 hr hlocks hP hK hQ ls hl
  have hx := C0.1
  have hb := C0.2.1
  have hml := C0.2.2.1
  have hown := C0.2.2.2.1
  have hts := C0.2.2.2.2
  obtain ⟨F, hF⟩ : ∃ F : St, F = tX8_happen S p1 p2 p3 := ⟨_, rfl⟩
  have hf := hF
  unfold tX8_happen at hf
  have hS : va_S A s.heap s.heap [] := va_S.rf
  have hl : lv_has ls 4 [(0, .ref (g.1 0 0)), (1, .int p1), (2, .int p2), (3, .int p3)] := hl
  refine lv_iload_n hx hb dX8_happen_0 rfl (lv_at hl 1 rfl) ?_
  by_cases zc1 : p1 = 0
  · have hf := hf.trans (if_pos zc1)
    refine lv_tableIn (off := 35) (tgt := 36) hx hb dX8_happen_1 (by rw [zc1]; decide) (by rw [zc1]; decide) (by rw [zc1]; decide) (by decide) ?_
    refine lv_aload_n hx hb dX8_happen_36 rfl (lv_at hl 0 rfl) ?_
    refine gO (T := TX8) C0 inA8 hK hP (mMain g) rfl 6 (by decide) (hts _ q682) (v := .ref (g.1 0 6)) rfl dX8_happen_37 ?_
    refine lv_iconst (v := 3) hx hb dX8_happen_40 (by decide) ?_
    refine lv_iload_n hx hb dX8_happen_41 rfl (lv_at hl 2 rfl) ?_
    refine lv_imul hx hb dX8_happen_42 ?_
    refine lv_iload_n hx hb dX8_happen_43 rfl (lv_at hl 3 rfl) ?_
    refine lv_iadd hx hb dX8_happen_44 ?_
    refine lv_dup2_11 hx hb dX8_happen_45 rfl rfl ?_
    refine gI C0 hK hP (mSums g) (vp3 (hk (by rw [zc1]; decide)) (hv zc1)) dX8_happen_46 ?_
    refine lv_bipush (v := 10) hx hb dX8_happen_47 (by decide) ?_
    refine lv_iadd hx hb dX8_happen_49 ?_
    refine pI locM C0 hK hP hA hS (mSums g) (vp3 (hk (by rw [zc1]; decide)) (hv zc1)) dX8_happen_50 (fun H locs hP hS => ?_)
    obtain ⟨zS2, hzS2⟩ : ∃ z : St, z = (up S 0 6 (Int32.toNatClampNeg ((3 * p2) + p3)) ((S.1 0 6 (Int32.toNatClampNeg ((3 * p2) + p3))) + 10)) := ⟨_, rfl⟩
    rw [← hzS2] at hP
    have hf := hf.trans (bnd_eq hzS2)
    refine lv_goto (tgt := 113) hx hb dX8_happen_51 (by decide) ?_
    exact rv hQ C0 hr hlocks hK hP hS (by rw [← hF]; exact hf.symm) dX8_happen_113
  · have hf := hf.trans (if_neg zc1)
    by_cases zc3 : p1 = 1
    · have hf := hf.trans (if_pos zc3)
      refine lv_tableIn (off := 53) (tgt := 54) hx hb dX8_happen_1 (by rw [zc3]; decide) (by rw [zc3]; decide) (by rw [zc3]; decide) (by decide) ?_
      refine lv_aload_n hx hb dX8_happen_54 rfl (lv_at hl 0 rfl) ?_
      refine gO (T := TX8) C0 inA8 hK hP (mMain g) rfl 5 (by decide) (hts _ q681) (v := .ref (g.1 0 5)) rfl dX8_happen_55 ?_
      refine lv_iload_n hx hb dX8_happen_58 rfl (lv_at hl 2 rfl) ?_
      refine lv_iload_n hx hb dX8_happen_59 rfl (lv_at hl 3 rfl) ?_
      refine pI locM C0 hK hP hA hS (mLoads g) (hk (by rw [zc3]; decide)) dX8_happen_60 (fun H locs hP hS => ?_)
      refine lv_goto (tgt := 113) hx hb dX8_happen_61 (by decide) ?_
      exact rv hQ C0 hr hlocks hK hP hS (by rw [← hF]; exact hf.symm) dX8_happen_113
    · have hf := hf.trans (if_neg zc3)
      by_cases zc4 : p1 = 2
      · have hf := hf.trans (if_pos zc4)
        refine lv_tableIn (off := 63) (tgt := 64) hx hb dX8_happen_1 (by rw [zc4]; decide) (by rw [zc4]; decide) (by rw [zc4]; decide) (by decide) ?_
        refine lv_aload_n hx hb dX8_happen_64 rfl (lv_at hl 0 rfl) ?_
        refine gO (T := TX8) C0 inA8 hK hP (mMain g) rfl 2 (by decide) (hts _ q678) (v := .ref (g.1 0 2)) rfl dX8_happen_65 ?_
        refine lv_iload_n hx hb dX8_happen_68 rfl (lv_at hl 2 rfl) ?_
        refine lv_dup2_11 hx hb dX8_happen_69 rfl rfl ?_
        refine gI C0 hK hP (mAge g) (hk (by rw [zc4]; decide)) dX8_happen_70 ?_
        refine lv_iconst (v := 2) hx hb dX8_happen_71 (by decide) ?_
        refine lv_idiv hx hb dX8_happen_72 (by decide) ?_
        refine pI locM C0 hK hP hA hS (mAge g) (hk (by rw [zc4]; decide)) dX8_happen_73 (fun H locs hP hS => ?_)
        refine lv_goto (tgt := 113) hx hb dX8_happen_74 (by decide) ?_
        exact rv hQ C0 hr hlocks hK hP hS (by rw [← hF]; exact hf.symm) dX8_happen_113
      · have hf := hf.trans (if_neg zc4)
        by_cases zc5 : p1 = 3
        · have hf := hf.trans (if_pos zc5)
          refine lv_tableIn (off := 76) (tgt := 77) hx hb dX8_happen_1 (by rw [zc5]; decide) (by rw [zc5]; decide) (by rw [zc5]; decide) (by decide) ?_
          refine lv_aload_n hx hb dX8_happen_77 rfl (lv_at hl 0 rfl) ?_
          refine lv_iload_n hx hb dX8_happen_78 rfl (lv_at hl 2 rfl) ?_
          refine kv (va_runV (As := [.int p2]) (rest := []) C0 (kX8_sail l g A hA S p2 (hk (by rw [zc5]; decide))) (cwV 1 hts (gV q894 q896 q24 q54 q897) rfl rfl rfl (by decide +kernel) ⟨Nat.le_of_ble_eq_true rfl, Nat.le_of_ble_eq_true rfl⟩) (preV (recO (mMain g) hP hK rfl) hP hK) rfl rfl hl.1 rfl (lv_room (Nat.le_of_ble_eq_true rfl)) dX8_happen_79 ⟨Nat.zero_le _, Nat.zero_le _⟩) hS (fun _ h => h) (fun zS6 H locs hw hP hS => ?_)
          have hf := hf.trans (bnd_eq hw)
          refine lv_goto (tgt := 113) hx hb dX8_happen_82 (by decide) ?_
          exact rv hQ C0 hr hlocks hK hP hS (by rw [← hF]; exact hf.symm) dX8_happen_113
        · have hf := hf.trans (if_neg zc5)
          by_cases zc7 : p1 = 4
          · have hf := hf.trans (if_pos zc7)
            refine lv_tableIn (off := 84) (tgt := 85) hx hb dX8_happen_1 (by rw [zc7]; decide) (by rw [zc7]; decide) (by rw [zc7]; decide) (by decide) ?_
            refine lv_aload_n hx hb dX8_happen_85 rfl (lv_at hl 0 rfl) ?_
            refine lv_iload_n hx hb dX8_happen_86 rfl (lv_at hl 2 rfl) ?_
            refine kv (va_runV (As := [.int p2]) (rest := []) C0 (kX8_sink l g A hA S p2 (hk (by rw [zc7]; decide))) (cwV 1 hts (gV q898 q900 q25 q54 q901) rfl rfl rfl (by decide +kernel) ⟨Nat.le_of_ble_eq_true rfl, Nat.le_of_ble_eq_true rfl⟩) (preV (recO (mMain g) hP hK rfl) hP hK) rfl rfl hl.1 rfl (lv_room (Nat.le_of_ble_eq_true rfl)) dX8_happen_87 ⟨Nat.zero_le _, Nat.zero_le _⟩) hS (fun _ h => h) (fun zS8 H locs hw hP hS => ?_)
            have hf := hf.trans (bnd_eq hw)
            refine lv_goto (tgt := 113) hx hb dX8_happen_90 (by decide) ?_
            exact rv hQ C0 hr hlocks hK hP hS (by rw [← hF]; exact hf.symm) dX8_happen_113
          · have hf := hf.trans (if_neg zc7)
            refine lv_tableOut (tgt := 93) hx hb dX8_happen_1 (by have h0 := lv_neT (a := 0) zc1 (by decide); have h1 := lv_neT (a := 1) zc3 (by decide); have h2 := lv_neT (a := 2) zc4 (by decide); have h3 := lv_neT (a := 3) zc5 (by decide); have h4 := lv_neT (a := 4) zc7 (by decide); omega) (by decide) ?_
            refine lv_aload_n hx hb dX8_happen_93 rfl (lv_at hl 0 rfl) ?_
            refine lv_iconst (v := 1) hx hb dX8_happen_94 (by decide) ?_
            refine lv_aload_n hx hb dX8_happen_95 rfl (lv_at hl 0 rfl) ?_
            refine gO (T := TX8) C0 inA8 hK hP (mMain g) rfl 9 (by decide) (hts _ q685) (v := .int (S.1 0 0 9)) rfl dX8_happen_96 ?_
            refine lv_isub hx hb dX8_happen_99 ?_
            refine pO (T := TX8) (ty0 := tyX8) locM C0 inA8 tyX8_ok nmX8 hK hP hA hS (mMain g) rfl 9 (by decide) (hts _ q685) rfl 9 (1 - (S.1 0 0 9)) rfl rfl rfl (Nat.le_of_ble_eq_true rfl) dX8_happen_100 (fun H locs hP hS => ?_)
            refine lv_aload_n hx hb dX8_happen_103 rfl (lv_at hl 0 rfl) ?_
            refine lv_dup hx hb dX8_happen_104 rfl ?_
            refine gO (T := TX8) C0 inA8 hK hP (mMain g) rfl 10 (by decide) (hts _ q686) (v := .int ((up S 0 0 9 (1 - (S.1 0 0 9))).1 0 0 10)) rfl dX8_happen_105 ?_
            refine lv_iconst (v := 1) hx hb dX8_happen_108 (by decide) ?_
            refine lv_iadd hx hb dX8_happen_109 ?_
            refine pO (T := TX8) (ty0 := tyX8) locM C0 inA8 tyX8_ok nmX8 hK hP hA hS (mMain g) rfl 10 (by decide) (hts _ q686) rfl 10 (((up S 0 0 9 (1 - (S.1 0 0 9))).1 0 0 10) + 1) rfl rfl rfl (Nat.le_of_ble_eq_true rfl) dX8_happen_110 (fun H locs hP hS => ?_)
            obtain ⟨zS9, hzS9⟩ : ∃ z : St, z = (up (up S 0 0 9 (1 - (S.1 0 0 9))) 0 0 10 (((up S 0 0 9 (1 - (S.1 0 0 9))).1 0 0 10) + 1)) := ⟨_, rfl⟩
            rw [← hzS9] at hP
            have hf := hf.trans (bnd_eq hzS9)
            exact rv hQ C0 hr hlocks hK hP hS (by rw [← hF]; exact hf.symm) dX8_happen_113
def LX8_keepNow_43 (S : St) : Nat → Nat → St → St
  | 0, zi5, zS7 => (bnd (up (up (up zS7 0 28 30 (zS7.1 0 0 1)) 0 28 31 ((up zS7 0 28 30 (zS7.1 0 0 1)).1 0 0 9)) 0 28 32 ((up (up zS7 0 28 30 (zS7.1 0 0 1)) 0 28 31 ((up zS7 0 28 30 (zS7.1 0 0 1)).1 0 0 9)).1 0 0 10)) (fun zS9 => (up (up zS9 0 28 33 (zS9.1 0 0 11)) 0 28 34 ((up zS9 0 28 33 (zS9.1 0 0 11)).1 0 0 12))))
  | zk6 + 1, zi5, zS7 => (LX8_keepNow_43 S zk6 (zi5 + 1) (up zS7 0 28 (12 + zi5) (zS7.1 0 6 zi5)))
def LX8_keepNow_2 (S : St) : Nat → Nat → St → St
  | 0, zi1, zS3 => (LX8_keepNow_43 S 18 0 zS3)
  | zk2 + 1, zi1, zS3 => (LX8_keepNow_2 S zk2 (zi1 + 1) (up (up zS3 0 28 zi1 (zS3.1 0 2 zi1)) 0 28 (6 + zi1) ((up zS3 0 28 zi1 (zS3.1 0 2 zi1)).1 0 5 zi1)))
def tX8_keepNow (S : St) : St :=
  (LX8_keepNow_2 S 6 0 S)
set_option maxHeartbeats 4000000 in
set_option maxRecDepth 100000 in
theorem kX8_keepNow (l : Launch) (g : Gd) (A : Nat → Prop) (hA : Ads g.1 VM A) (S : St)  : Met l yX8_keepNow (wU yX8_keepNow cX8_keepNow 2 none) { frames := 0, cells := 0, slots := 0, locals := 0 } (va_Pc [.ref (g.1 0 0)] (PW VM ctM g S)) (va_Qv (fun u => u = tX8_keepNow S) (fun u U => PW VM ctM g u U) A) 0 0 A := by
  refine ent (cc := cX8_keepNow) (maxL := 2) (ret := none) (by decide) (Nat.le_of_ble_eq_true rfl) ?_
  intro p e s m below meth c args Q C0 hr hlocks hP hK hQ ls hl
  have hx := C0.1
  have hb := C0.2.1
  have hml := C0.2.2.1
  have hown := C0.2.2.2.1
  have hts := C0.2.2.2.2
  obtain ⟨F, hF⟩ : ∃ F : St, F = tX8_keepNow S := ⟨_, rfl⟩
  have hf := hF
  unfold tX8_keepNow at hf
  have hS : va_S A s.heap s.heap [] := va_S.rf
  have hl : lv_has ls 2 [(0, .ref (g.1 0 0))] := hl
  refine lv_iconst (v := 0) hx hb dX8_keepNow_0 (by decide) ?_
  refine lv_istore_n (lv' := [(1, .int 0), (0, .ref (g.1 0 0))]) hx hb dX8_keepNow_1 rfl hl (by decide) rfl (fun ls hl => ?_)
  have lp2 : ∀ (zk2 zi1 : Nat) (zS3 : St) (H : Heap) (locs : List Loc), (zi1 + zk2 = 6) → (F = LX8_keepNow_2 S zk2 zi1 zS3) → HW VM ctM g zS3 H → va_S A s.heap H locs → ∀ ls : Array Slot, lv_has ls 2 [(1, .int (nI zi1)), (0, .ref (g.1 0 0))] → W p l e { frames := 0, cells := 0, slots := 0, locals := 0 } s m args below meth c H locs 0 0 Q (F0 m 2 ls []) := by
    intro zk2
    induction zk2 with
    | zero =>
      intro zi1 zS3 H locs hik hf hP hS ls hl
      rw [LX8_keepNow_2] at hf
      refine lv_iload_n hx hb dX8_keepNow_2 rfl (lv_at hl 0 rfl) ?_
      refine lv_bipush (v := 6) hx hb dX8_keepNow_3 (by decide) ?_
      refine lv_icmp_ge (tgt := 41) hx hb dX8_keepNow_5 (by decide) (fun zc4 => ?_) (fun zc4 => absurd (up_ge0 rfl hik (by decide)) zc4)
      refine lv_iconst (v := 0) hx hb dX8_keepNow_41 (by decide) ?_
      refine lv_istore_n (lv' := [(1, .int 0), (0, .ref (g.1 0 0))]) hx hb dX8_keepNow_42 rfl hl (by decide) rfl (fun ls hl => ?_)
      have lp43 : ∀ (zk6 zi5 : Nat) (zS7 : St) (H : Heap) (locs : List Loc), (zi5 + zk6 = 18) → (F = LX8_keepNow_43 S zk6 zi5 zS7) → HW VM ctM g zS7 H → va_S A s.heap H locs → ∀ ls : Array Slot, lv_has ls 2 [(1, .int (nI zi5)), (0, .ref (g.1 0 0))] → W p l e { frames := 0, cells := 0, slots := 0, locals := 0 } s m args below meth c H locs 0 0 Q (F0 m 43 ls []) := by
        intro zk6
        induction zk6 with
        | zero =>
          intro zi5 zS7 H locs hik hf hP hS ls hl
          rw [LX8_keepNow_43] at hf
          refine lv_iload_n hx hb dX8_keepNow_43 rfl (lv_at hl 0 rfl) ?_
          refine lv_bipush (v := 18) hx hb dX8_keepNow_44 (by decide) ?_
          refine lv_icmp_ge (tgt := 70) hx hb dX8_keepNow_46 (by decide) (fun zc8 => ?_) (fun zc8 => absurd (up_ge0 rfl hik (by decide)) zc8)
          refine lv_aload_n hx hb dX8_keepNow_70 rfl (lv_at hl 1 rfl) ?_
          refine gO (T := TX8) C0 inA8 hK hP (mMain g) rfl 28 (by decide) (hts _ q704) (v := .ref (g.1 0 28)) rfl dX8_keepNow_71 ?_
          refine lv_bipush (v := 30) hx hb dX8_keepNow_74 (by decide) ?_
          refine lv_aload_n hx hb dX8_keepNow_76 rfl (lv_at hl 1 rfl) ?_
          refine gO (T := TX8) C0 inA8 hK hP (mMain g) rfl 1 (by decide) (hts _ q677) (v := .int (zS7.1 0 0 1)) rfl dX8_keepNow_77 ?_
          refine pI locM C0 hK hP hA hS (mHad g) (show vp_in 30 35 from vp_in_nI (n := 30) (by decide) (by decide)) dX8_keepNow_80 (fun H locs hP hS => ?_)
          have hP : HW VM ctM g (up zS7 0 28 30 (zS7.1 0 0 1)) H := hP
          refine lv_aload_n hx hb dX8_keepNow_81 rfl (lv_at hl 1 rfl) ?_
          refine gO (T := TX8) C0 inA8 hK hP (mMain g) rfl 28 (by decide) (hts _ q704) (v := .ref (g.1 0 28)) rfl dX8_keepNow_82 ?_
          refine lv_bipush (v := 31) hx hb dX8_keepNow_85 (by decide) ?_
          refine lv_aload_n hx hb dX8_keepNow_87 rfl (lv_at hl 1 rfl) ?_
          refine gO (T := TX8) C0 inA8 hK hP (mMain g) rfl 9 (by decide) (hts _ q685) (v := .int ((up zS7 0 28 30 (zS7.1 0 0 1)).1 0 0 9)) rfl dX8_keepNow_88 ?_
          refine pI locM C0 hK hP hA hS (mHad g) (show vp_in 31 35 from vp_in_nI (n := 31) (by decide) (by decide)) dX8_keepNow_91 (fun H locs hP hS => ?_)
          have hP : HW VM ctM g (up (up zS7 0 28 30 (zS7.1 0 0 1)) 0 28 31 ((up zS7 0 28 30 (zS7.1 0 0 1)).1 0 0 9)) H := hP
          refine lv_aload_n hx hb dX8_keepNow_92 rfl (lv_at hl 1 rfl) ?_
          refine gO (T := TX8) C0 inA8 hK hP (mMain g) rfl 28 (by decide) (hts _ q704) (v := .ref (g.1 0 28)) rfl dX8_keepNow_93 ?_
          refine lv_bipush (v := 32) hx hb dX8_keepNow_96 (by decide) ?_
          refine lv_aload_n hx hb dX8_keepNow_98 rfl (lv_at hl 1 rfl) ?_
          refine gO (T := TX8) C0 inA8 hK hP (mMain g) rfl 10 (by decide) (hts _ q686) (v := .int ((up (up zS7 0 28 30 (zS7.1 0 0 1)) 0 28 31 ((up zS7 0 28 30 (zS7.1 0 0 1)).1 0 0 9)).1 0 0 10)) rfl dX8_keepNow_99 ?_
          refine pI locM C0 hK hP hA hS (mHad g) (show vp_in 32 35 from vp_in_nI (n := 32) (by decide) (by decide)) dX8_keepNow_102 (fun H locs hP hS => ?_)
          have hP : HW VM ctM g (up (up (up zS7 0 28 30 (zS7.1 0 0 1)) 0 28 31 ((up zS7 0 28 30 (zS7.1 0 0 1)).1 0 0 9)) 0 28 32 ((up (up zS7 0 28 30 (zS7.1 0 0 1)) 0 28 31 ((up zS7 0 28 30 (zS7.1 0 0 1)).1 0 0 9)).1 0 0 10)) H := hP
          obtain ⟨zS9, hzS9⟩ : ∃ z : St, z = (up (up (up zS7 0 28 30 (zS7.1 0 0 1)) 0 28 31 ((up zS7 0 28 30 (zS7.1 0 0 1)).1 0 0 9)) 0 28 32 ((up (up zS7 0 28 30 (zS7.1 0 0 1)) 0 28 31 ((up zS7 0 28 30 (zS7.1 0 0 1)).1 0 0 9)).1 0 0 10)) := ⟨_, rfl⟩
          rw [← hzS9] at hP
          have hf := hf.trans (bnd_eq hzS9)
          refine lv_aload_n hx hb dX8_keepNow_103 rfl (lv_at hl 1 rfl) ?_
          refine gO (T := TX8) C0 inA8 hK hP (mMain g) rfl 28 (by decide) (hts _ q704) (v := .ref (g.1 0 28)) rfl dX8_keepNow_104 ?_
          refine lv_bipush (v := 33) hx hb dX8_keepNow_107 (by decide) ?_
          refine lv_aload_n hx hb dX8_keepNow_109 rfl (lv_at hl 1 rfl) ?_
          refine gO (T := TX8) C0 inA8 hK hP (mMain g) rfl 11 (by decide) (hts _ q687) (v := .int (zS9.1 0 0 11)) rfl dX8_keepNow_110 ?_
          refine pI locM C0 hK hP hA hS (mHad g) (show vp_in 33 35 from vp_in_nI (n := 33) (by decide) (by decide)) dX8_keepNow_113 (fun H locs hP hS => ?_)
          have hP : HW VM ctM g (up zS9 0 28 33 (zS9.1 0 0 11)) H := hP
          refine lv_aload_n hx hb dX8_keepNow_114 rfl (lv_at hl 1 rfl) ?_
          refine gO (T := TX8) C0 inA8 hK hP (mMain g) rfl 28 (by decide) (hts _ q704) (v := .ref (g.1 0 28)) rfl dX8_keepNow_115 ?_
          refine lv_bipush (v := 34) hx hb dX8_keepNow_118 (by decide) ?_
          refine lv_aload_n hx hb dX8_keepNow_120 rfl (lv_at hl 1 rfl) ?_
          refine gO (T := TX8) C0 inA8 hK hP (mMain g) rfl 12 (by decide) (hts _ q688) (v := .int ((up zS9 0 28 33 (zS9.1 0 0 11)).1 0 0 12)) rfl dX8_keepNow_121 ?_
          refine pI locM C0 hK hP hA hS (mHad g) (show vp_in 34 35 from vp_in_nI (n := 34) (by decide) (by decide)) dX8_keepNow_124 (fun H locs hP hS => ?_)
          have hP : HW VM ctM g (up (up zS9 0 28 33 (zS9.1 0 0 11)) 0 28 34 ((up zS9 0 28 33 (zS9.1 0 0 11)).1 0 0 12)) H := hP
          exact rv hQ C0 hr hlocks hK hP hS (by rw [← hF]; exact hf.symm) dX8_keepNow_125
        | succ zk6 ih43 =>
          intro zi5 zS7 H locs hik hf hP hS ls hl
          rw [LX8_keepNow_43] at hf
          refine lv_iload_n hx hb dX8_keepNow_43 rfl (lv_at hl 0 rfl) ?_
          refine lv_bipush (v := 18) hx hb dX8_keepNow_44 (by decide) ?_
          refine lv_icmp_ge (tgt := 70) hx hb dX8_keepNow_46 (by decide) (fun zc10 => absurd zc10 (up_ge1 rfl hik (by decide))) (fun zc10 => ?_)
          refine lv_aload_n hx hb dX8_keepNow_49 rfl (lv_at hl 1 rfl) ?_
          refine gO (T := TX8) C0 inA8 hK hP (mMain g) rfl 28 (by decide) (hts _ q704) (v := .ref (g.1 0 28)) rfl dX8_keepNow_50 ?_
          refine lv_bipush (v := 12) hx hb dX8_keepNow_53 (by decide) ?_
          refine lv_iload_n hx hb dX8_keepNow_55 rfl (lv_at hl 0 rfl) ?_
          refine lv_iadd hx hb dX8_keepNow_56 ?_
          rw [show (12 : Int32) + nI zi5 = nI (12 + zi5) from nI_add _ _]
          refine lv_aload_n hx hb dX8_keepNow_57 rfl (lv_at hl 1 rfl) ?_
          refine gO (T := TX8) C0 inA8 hK hP (mMain g) rfl 6 (by decide) (hts _ q682) (v := .ref (g.1 0 6)) rfl dX8_keepNow_58 ?_
          refine lv_iload_n hx hb dX8_keepNow_61 rfl (lv_at hl 0 rfl) ?_
          refine gI C0 hK hP (mSums g) (vp_in_nI (by omega) (by decide)) dX8_keepNow_62 ?_
          rw [nI_clamp (n := zi5) (by omega)]
          refine pI locM C0 hK hP hA hS (mHad g) (vp_in_nI (by omega) (by decide)) dX8_keepNow_63 (fun H locs hP hS => ?_)
          rw [nI_clamp (n := (12 + zi5)) (by omega)] at hP
          refine lv_iinc (v := (nI (zi5 + 1))) (lv' := [(1, .int (nI (zi5 + 1))), (0, .ref (g.1 0 0))]) hx hb dX8_keepNow_64 hl (k := 0) rfl (nI_1 _) (by decide) rfl (fun ls hl => ?_)
          refine lv_goto (tgt := 43) hx hb dX8_keepNow_67 (by decide) ?_
          exact ih43 (zi5 + 1) (up zS7 0 28 (12 + zi5) (zS7.1 0 6 zi5)) _ _ (by omega) hf hP hS ls (lv_sub hl [0, 1] rfl)
      exact lp43 18 0 zS3 _ _ (by decide) hf hP hS ls (lv_sub hl [0, 1] rfl)
    | succ zk2 ih2 =>
      intro zi1 zS3 H locs hik hf hP hS ls hl
      rw [LX8_keepNow_2] at hf
      refine lv_iload_n hx hb dX8_keepNow_2 rfl (lv_at hl 0 rfl) ?_
      refine lv_bipush (v := 6) hx hb dX8_keepNow_3 (by decide) ?_
      refine lv_icmp_ge (tgt := 41) hx hb dX8_keepNow_5 (by decide) (fun zc11 => absurd zc11 (up_ge1 rfl hik (by decide))) (fun zc11 => ?_)
      refine lv_aload_n hx hb dX8_keepNow_8 rfl (lv_at hl 1 rfl) ?_
      refine gO (T := TX8) C0 inA8 hK hP (mMain g) rfl 28 (by decide) (hts _ q704) (v := .ref (g.1 0 28)) rfl dX8_keepNow_9 ?_
      refine lv_iload_n hx hb dX8_keepNow_12 rfl (lv_at hl 0 rfl) ?_
      refine lv_aload_n hx hb dX8_keepNow_13 rfl (lv_at hl 1 rfl) ?_
      refine gO (T := TX8) C0 inA8 hK hP (mMain g) rfl 2 (by decide) (hts _ q678) (v := .ref (g.1 0 2)) rfl dX8_keepNow_14 ?_
      refine lv_iload_n hx hb dX8_keepNow_17 rfl (lv_at hl 0 rfl) ?_
      refine gI C0 hK hP (mAge g) (vp_in_nI (by omega) (by decide)) dX8_keepNow_18 ?_
      rw [nI_clamp (n := zi1) (by omega)]
      refine pI locM C0 hK hP hA hS (mHad g) (vp_in_nI (by omega) (by decide)) dX8_keepNow_19 (fun H locs hP hS => ?_)
      rw [nI_clamp (n := zi1) (by omega)] at hP
      refine lv_aload_n hx hb dX8_keepNow_20 rfl (lv_at hl 1 rfl) ?_
      refine gO (T := TX8) C0 inA8 hK hP (mMain g) rfl 28 (by decide) (hts _ q704) (v := .ref (g.1 0 28)) rfl dX8_keepNow_21 ?_
      refine lv_bipush (v := 6) hx hb dX8_keepNow_24 (by decide) ?_
      refine lv_iload_n hx hb dX8_keepNow_26 rfl (lv_at hl 0 rfl) ?_
      refine lv_iadd hx hb dX8_keepNow_27 ?_
      rw [show (6 : Int32) + nI zi1 = nI (6 + zi1) from nI_add _ _]
      refine lv_aload_n hx hb dX8_keepNow_28 rfl (lv_at hl 1 rfl) ?_
      refine gO (T := TX8) C0 inA8 hK hP (mMain g) rfl 5 (by decide) (hts _ q681) (v := .ref (g.1 0 5)) rfl dX8_keepNow_29 ?_
      refine lv_iload_n hx hb dX8_keepNow_32 rfl (lv_at hl 0 rfl) ?_
      refine gI C0 hK hP (mLoads g) (vp_in_nI (by omega) (by decide)) dX8_keepNow_33 ?_
      rw [nI_clamp (n := zi1) (by omega)]
      refine pI locM C0 hK hP hA hS (mHad g) (vp_in_nI (by omega) (by decide)) dX8_keepNow_34 (fun H locs hP hS => ?_)
      rw [nI_clamp (n := (6 + zi1)) (by omega)] at hP
      refine lv_iinc (v := (nI (zi1 + 1))) (lv' := [(1, .int (nI (zi1 + 1))), (0, .ref (g.1 0 0))]) hx hb dX8_keepNow_35 hl (k := 0) rfl (nI_1 _) (by decide) rfl (fun ls hl => ?_)
      refine lv_goto (tgt := 2) hx hb dX8_keepNow_38 (by decide) ?_
      exact ih2 (zi1 + 1) (up (up zS3 0 28 zi1 (zS3.1 0 2 zi1)) 0 28 (6 + zi1) ((up zS3 0 28 zi1 (zS3.1 0 2 zi1)).1 0 5 zi1)) _ _ (by omega) hf hP hS ls (lv_sub hl [0, 1] rfl)
  exact lp2 6 0 S _ _ (by decide) hf hP hS ls (lv_sub hl [0, 1] rfl)
def LX8_back_43 (S : St) (p1 : Int32) : Nat → Nat → St → Int32 × St
  | 0, zi5, zS7 => (bnd (up (up (up zS7 0 0 1 (zS7.1 0 28 30)) 0 0 9 ((up zS7 0 0 1 (zS7.1 0 28 30)).1 0 28 31)) 0 0 10 ((up (up zS7 0 0 1 (zS7.1 0 28 30)) 0 0 9 ((up zS7 0 0 1 (zS7.1 0 28 30)).1 0 28 31)).1 0 28 32)) (fun zS9 => (p1, (up (up zS9 0 0 11 (zS9.1 0 28 33)) 0 0 12 ((up zS9 0 0 11 (zS9.1 0 28 33)).1 0 28 34)))))
  | zk6 + 1, zi5, zS7 => (LX8_back_43 S p1 zk6 (zi5 + 1) (up zS7 0 6 zi5 (zS7.1 0 28 (12 + zi5))))
def LX8_back_2 (S : St) (p1 : Int32) : Nat → Nat → St → Int32 × St
  | 0, zi1, zS3 => (LX8_back_43 S p1 18 0 zS3)
  | zk2 + 1, zi1, zS3 => (LX8_back_2 S p1 zk2 (zi1 + 1) (up (up zS3 0 2 zi1 (zS3.1 0 28 zi1)) 0 5 zi1 ((up zS3 0 2 zi1 (zS3.1 0 28 zi1)).1 0 28 (6 + zi1))))
def tX8_back (S : St) (p1 : Int32) : Int32 × St :=
  (LX8_back_2 S p1 6 0 S)
set_option maxHeartbeats 4000000 in
set_option maxRecDepth 100000 in
theorem kX8_back (l : Launch) (g : Gd) (A : Nat → Prop) (hA : Ads g.1 VM A) (S : St) (p1 : Int32) : Met l yX8_back (wU yX8_back cX8_back 3 (some .int)) { frames := 0, cells := 0, slots := 0, locals := 0 } (va_Pc [.ref (g.1 0 0), .int p1] (PW VM ctM g S)) (va_Qi (fun r u => r = (tX8_back S p1).1 ∧ u = (tX8_back S p1).2) (fun u U => PW VM ctM g u U) A) 0 0 A := by
  refine ent (cc := cX8_back) (maxL := 3) (ret := (some .int)) (by decide) (Nat.le_of_ble_eq_true rfl) ?_
  intro p e s m below meth c args Q C0 hr hlocks hP hK hQ ls hl
  have hx := C0.1
  have hb := C0.2.1
  have hml := C0.2.2.1
  have hown := C0.2.2.2.1
  have hts := C0.2.2.2.2
  obtain ⟨F, hF⟩ : ∃ F : Int32 × St, F = tX8_back S p1 := ⟨_, rfl⟩
  have hf := hF
  unfold tX8_back at hf
  have hS : va_S A s.heap s.heap [] := va_S.rf
  have hl : lv_has ls 3 [(0, .ref (g.1 0 0)), (1, .int p1)] := hl
  refine lv_iconst (v := 0) hx hb dX8_back_0 (by decide) ?_
  refine lv_istore_n (lv' := [(2, .int 0), (0, .ref (g.1 0 0)), (1, .int p1)]) hx hb dX8_back_1 rfl hl (by decide) rfl (fun ls hl => ?_)
  have lp2 : ∀ (zk2 zi1 : Nat) (zS3 : St) (H : Heap) (locs : List Loc), (zi1 + zk2 = 6) → (F = LX8_back_2 S p1 zk2 zi1 zS3) → HW VM ctM g zS3 H → va_S A s.heap H locs → ∀ ls : Array Slot, lv_has ls 3 [(2, .int (nI zi1)), (0, .ref (g.1 0 0)), (1, .int p1)] → W p l e { frames := 0, cells := 0, slots := 0, locals := 0 } s m args below meth c H locs 0 0 Q (F0 m 2 ls []) := by
    intro zk2
    induction zk2 with
    | zero =>
      intro zi1 zS3 H locs hik hf hP hS ls hl
      rw [LX8_back_2] at hf
      refine lv_iload_n hx hb dX8_back_2 rfl (lv_at hl 0 rfl) ?_
      refine lv_bipush (v := 6) hx hb dX8_back_3 (by decide) ?_
      refine lv_icmp_ge (tgt := 41) hx hb dX8_back_5 (by decide) (fun zc4 => ?_) (fun zc4 => absurd (up_ge0 rfl hik (by decide)) zc4)
      refine lv_iconst (v := 0) hx hb dX8_back_41 (by decide) ?_
      refine lv_istore_n (lv' := [(2, .int 0), (0, .ref (g.1 0 0)), (1, .int p1)]) hx hb dX8_back_42 rfl hl (by decide) rfl (fun ls hl => ?_)
      have lp43 : ∀ (zk6 zi5 : Nat) (zS7 : St) (H : Heap) (locs : List Loc), (zi5 + zk6 = 18) → (F = LX8_back_43 S p1 zk6 zi5 zS7) → HW VM ctM g zS7 H → va_S A s.heap H locs → ∀ ls : Array Slot, lv_has ls 3 [(2, .int (nI zi5)), (0, .ref (g.1 0 0)), (1, .int p1)] → W p l e { frames := 0, cells := 0, slots := 0, locals := 0 } s m args below meth c H locs 0 0 Q (F0 m 43 ls []) := by
        intro zk6
        induction zk6 with
        | zero =>
          intro zi5 zS7 H locs hik hf hP hS ls hl
          rw [LX8_back_43] at hf
          refine lv_iload_n hx hb dX8_back_43 rfl (lv_at hl 0 rfl) ?_
          refine lv_bipush (v := 18) hx hb dX8_back_44 (by decide) ?_
          refine lv_icmp_ge (tgt := 70) hx hb dX8_back_46 (by decide) (fun zc8 => ?_) (fun zc8 => absurd (up_ge0 rfl hik (by decide)) zc8)
          refine lv_aload_n hx hb dX8_back_70 rfl (lv_at hl 1 rfl) ?_
          refine lv_aload_n hx hb dX8_back_71 rfl (lv_at hl 1 rfl) ?_
          refine gO (T := TX8) C0 inA8 hK hP (mMain g) rfl 28 (by decide) (hts _ q704) (v := .ref (g.1 0 28)) rfl dX8_back_72 ?_
          refine lv_bipush (v := 30) hx hb dX8_back_75 (by decide) ?_
          refine gI C0 hK hP (mHad g) (show vp_in 30 35 from vp_in_nI (n := 30) (by decide) (by decide)) dX8_back_77 ?_
          refine W.eq (g2 := F0 m 78 ls (.int (zS7.1 0 28 30) :: .ref (g.1 0 0) :: [])) rfl ?_
          refine pO (T := TX8) (ty0 := tyX8) locM C0 inA8 tyX8_ok nmX8 hK hP hA hS (mMain g) rfl 1 (by decide) (hts _ q677) rfl 1 (zS7.1 0 28 30) rfl rfl rfl (Nat.le_of_ble_eq_true rfl) dX8_back_78 (fun H locs hP hS => ?_)
          refine lv_aload_n hx hb dX8_back_81 rfl (lv_at hl 1 rfl) ?_
          refine lv_aload_n hx hb dX8_back_82 rfl (lv_at hl 1 rfl) ?_
          refine gO (T := TX8) C0 inA8 hK hP (mMain g) rfl 28 (by decide) (hts _ q704) (v := .ref (g.1 0 28)) rfl dX8_back_83 ?_
          refine lv_bipush (v := 31) hx hb dX8_back_86 (by decide) ?_
          refine gI C0 hK hP (mHad g) (show vp_in 31 35 from vp_in_nI (n := 31) (by decide) (by decide)) dX8_back_88 ?_
          refine W.eq (g2 := F0 m 89 ls (.int ((up zS7 0 0 1 (zS7.1 0 28 30)).1 0 28 31) :: .ref (g.1 0 0) :: [])) rfl ?_
          refine pO (T := TX8) (ty0 := tyX8) locM C0 inA8 tyX8_ok nmX8 hK hP hA hS (mMain g) rfl 9 (by decide) (hts _ q685) rfl 9 ((up zS7 0 0 1 (zS7.1 0 28 30)).1 0 28 31) rfl rfl rfl (Nat.le_of_ble_eq_true rfl) dX8_back_89 (fun H locs hP hS => ?_)
          refine lv_aload_n hx hb dX8_back_92 rfl (lv_at hl 1 rfl) ?_
          refine lv_aload_n hx hb dX8_back_93 rfl (lv_at hl 1 rfl) ?_
          refine gO (T := TX8) C0 inA8 hK hP (mMain g) rfl 28 (by decide) (hts _ q704) (v := .ref (g.1 0 28)) rfl dX8_back_94 ?_
          refine lv_bipush (v := 32) hx hb dX8_back_97 (by decide) ?_
          refine gI C0 hK hP (mHad g) (show vp_in 32 35 from vp_in_nI (n := 32) (by decide) (by decide)) dX8_back_99 ?_
          refine W.eq (g2 := F0 m 100 ls (.int ((up (up zS7 0 0 1 (zS7.1 0 28 30)) 0 0 9 ((up zS7 0 0 1 (zS7.1 0 28 30)).1 0 28 31)).1 0 28 32) :: .ref (g.1 0 0) :: [])) rfl ?_
          refine pO (T := TX8) (ty0 := tyX8) locM C0 inA8 tyX8_ok nmX8 hK hP hA hS (mMain g) rfl 10 (by decide) (hts _ q686) rfl 10 ((up (up zS7 0 0 1 (zS7.1 0 28 30)) 0 0 9 ((up zS7 0 0 1 (zS7.1 0 28 30)).1 0 28 31)).1 0 28 32) rfl rfl rfl (Nat.le_of_ble_eq_true rfl) dX8_back_100 (fun H locs hP hS => ?_)
          obtain ⟨zS9, hzS9⟩ : ∃ z : St, z = (up (up (up zS7 0 0 1 (zS7.1 0 28 30)) 0 0 9 ((up zS7 0 0 1 (zS7.1 0 28 30)).1 0 28 31)) 0 0 10 ((up (up zS7 0 0 1 (zS7.1 0 28 30)) 0 0 9 ((up zS7 0 0 1 (zS7.1 0 28 30)).1 0 28 31)).1 0 28 32)) := ⟨_, rfl⟩
          rw [← hzS9] at hP
          have hf := hf.trans (bnd_eq hzS9)
          refine lv_aload_n hx hb dX8_back_103 rfl (lv_at hl 1 rfl) ?_
          refine lv_aload_n hx hb dX8_back_104 rfl (lv_at hl 1 rfl) ?_
          refine gO (T := TX8) C0 inA8 hK hP (mMain g) rfl 28 (by decide) (hts _ q704) (v := .ref (g.1 0 28)) rfl dX8_back_105 ?_
          refine lv_bipush (v := 33) hx hb dX8_back_108 (by decide) ?_
          refine gI C0 hK hP (mHad g) (show vp_in 33 35 from vp_in_nI (n := 33) (by decide) (by decide)) dX8_back_110 ?_
          refine W.eq (g2 := F0 m 111 ls (.int (zS9.1 0 28 33) :: .ref (g.1 0 0) :: [])) rfl ?_
          refine pO (T := TX8) (ty0 := tyX8) locM C0 inA8 tyX8_ok nmX8 hK hP hA hS (mMain g) rfl 11 (by decide) (hts _ q687) rfl 11 (zS9.1 0 28 33) rfl rfl rfl (Nat.le_of_ble_eq_true rfl) dX8_back_111 (fun H locs hP hS => ?_)
          refine lv_aload_n hx hb dX8_back_114 rfl (lv_at hl 1 rfl) ?_
          refine lv_aload_n hx hb dX8_back_115 rfl (lv_at hl 1 rfl) ?_
          refine gO (T := TX8) C0 inA8 hK hP (mMain g) rfl 28 (by decide) (hts _ q704) (v := .ref (g.1 0 28)) rfl dX8_back_116 ?_
          refine lv_bipush (v := 34) hx hb dX8_back_119 (by decide) ?_
          refine gI C0 hK hP (mHad g) (show vp_in 34 35 from vp_in_nI (n := 34) (by decide) (by decide)) dX8_back_121 ?_
          refine W.eq (g2 := F0 m 122 ls (.int ((up zS9 0 0 11 (zS9.1 0 28 33)).1 0 28 34) :: .ref (g.1 0 0) :: [])) rfl ?_
          refine pO (T := TX8) (ty0 := tyX8) locM C0 inA8 tyX8_ok nmX8 hK hP hA hS (mMain g) rfl 12 (by decide) (hts _ q688) rfl 12 ((up zS9 0 0 11 (zS9.1 0 28 33)).1 0 28 34) rfl rfl rfl (Nat.le_of_ble_eq_true rfl) dX8_back_122 (fun H locs hP hS => ?_)
          refine lv_iload_n hx hb dX8_back_125 rfl (lv_at hl 2 rfl) ?_
          exact ri hQ C0 hr hlocks hK hP hS (by rw [← hF]; exact fin2 hf) dX8_back_126
        | succ zk6 ih43 =>
          intro zi5 zS7 H locs hik hf hP hS ls hl
          rw [LX8_back_43] at hf
          refine lv_iload_n hx hb dX8_back_43 rfl (lv_at hl 0 rfl) ?_
          refine lv_bipush (v := 18) hx hb dX8_back_44 (by decide) ?_
          refine lv_icmp_ge (tgt := 70) hx hb dX8_back_46 (by decide) (fun zc10 => absurd zc10 (up_ge1 rfl hik (by decide))) (fun zc10 => ?_)
          refine lv_aload_n hx hb dX8_back_49 rfl (lv_at hl 1 rfl) ?_
          refine gO (T := TX8) C0 inA8 hK hP (mMain g) rfl 6 (by decide) (hts _ q682) (v := .ref (g.1 0 6)) rfl dX8_back_50 ?_
          refine lv_iload_n hx hb dX8_back_53 rfl (lv_at hl 0 rfl) ?_
          refine lv_aload_n hx hb dX8_back_54 rfl (lv_at hl 1 rfl) ?_
          refine gO (T := TX8) C0 inA8 hK hP (mMain g) rfl 28 (by decide) (hts _ q704) (v := .ref (g.1 0 28)) rfl dX8_back_55 ?_
          refine lv_bipush (v := 12) hx hb dX8_back_58 (by decide) ?_
          refine lv_iload_n hx hb dX8_back_60 rfl (lv_at hl 0 rfl) ?_
          refine lv_iadd hx hb dX8_back_61 ?_
          rw [show (12 : Int32) + nI zi5 = nI (12 + zi5) from nI_add _ _]
          refine gI C0 hK hP (mHad g) (vp_in_nI (by omega) (by decide)) dX8_back_62 ?_
          rw [nI_clamp (n := (12 + zi5)) (by omega)]
          refine pI locM C0 hK hP hA hS (mSums g) (vp_in_nI (by omega) (by decide)) dX8_back_63 (fun H locs hP hS => ?_)
          rw [nI_clamp (n := zi5) (by omega)] at hP
          refine lv_iinc (v := (nI (zi5 + 1))) (lv' := [(2, .int (nI (zi5 + 1))), (0, .ref (g.1 0 0)), (1, .int p1)]) hx hb dX8_back_64 hl (k := 0) rfl (nI_1 _) (by decide) rfl (fun ls hl => ?_)
          refine lv_goto (tgt := 43) hx hb dX8_back_67 (by decide) ?_
          exact ih43 (zi5 + 1) (up zS7 0 6 zi5 (zS7.1 0 28 (12 + zi5))) _ _ (by omega) hf hP hS ls (lv_sub hl [0, 1, 2] rfl)
      exact lp43 18 0 zS3 _ _ (by decide) hf hP hS ls (lv_sub hl [0, 1, 2] rfl)
    | succ zk2 ih2 =>
      intro zi1 zS3 H locs hik hf hP hS ls hl
      rw [LX8_back_2] at hf
      refine lv_iload_n hx hb dX8_back_2 rfl (lv_at hl 0 rfl) ?_
      refine lv_bipush (v := 6) hx hb dX8_back_3 (by decide) ?_
      refine lv_icmp_ge (tgt := 41) hx hb dX8_back_5 (by decide) (fun zc11 => absurd zc11 (up_ge1 rfl hik (by decide))) (fun zc11 => ?_)
      refine lv_aload_n hx hb dX8_back_8 rfl (lv_at hl 1 rfl) ?_
      refine gO (T := TX8) C0 inA8 hK hP (mMain g) rfl 2 (by decide) (hts _ q678) (v := .ref (g.1 0 2)) rfl dX8_back_9 ?_
      refine lv_iload_n hx hb dX8_back_12 rfl (lv_at hl 0 rfl) ?_
      refine lv_aload_n hx hb dX8_back_13 rfl (lv_at hl 1 rfl) ?_
      refine gO (T := TX8) C0 inA8 hK hP (mMain g) rfl 28 (by decide) (hts _ q704) (v := .ref (g.1 0 28)) rfl dX8_back_14 ?_
      refine lv_iload_n hx hb dX8_back_17 rfl (lv_at hl 0 rfl) ?_
      refine gI C0 hK hP (mHad g) (vp_in_nI (by omega) (by decide)) dX8_back_18 ?_
      rw [nI_clamp (n := zi1) (by omega)]
      refine pI locM C0 hK hP hA hS (mAge g) (vp_in_nI (by omega) (by decide)) dX8_back_19 (fun H locs hP hS => ?_)
      rw [nI_clamp (n := zi1) (by omega)] at hP
      refine lv_aload_n hx hb dX8_back_20 rfl (lv_at hl 1 rfl) ?_
      refine gO (T := TX8) C0 inA8 hK hP (mMain g) rfl 5 (by decide) (hts _ q681) (v := .ref (g.1 0 5)) rfl dX8_back_21 ?_
      refine lv_iload_n hx hb dX8_back_24 rfl (lv_at hl 0 rfl) ?_
      refine lv_aload_n hx hb dX8_back_25 rfl (lv_at hl 1 rfl) ?_
      refine gO (T := TX8) C0 inA8 hK hP (mMain g) rfl 28 (by decide) (hts _ q704) (v := .ref (g.1 0 28)) rfl dX8_back_26 ?_
      refine lv_bipush (v := 6) hx hb dX8_back_29 (by decide) ?_
      refine lv_iload_n hx hb dX8_back_31 rfl (lv_at hl 0 rfl) ?_
      refine lv_iadd hx hb dX8_back_32 ?_
      rw [show (6 : Int32) + nI zi1 = nI (6 + zi1) from nI_add _ _]
      refine gI C0 hK hP (mHad g) (vp_in_nI (by omega) (by decide)) dX8_back_33 ?_
      rw [nI_clamp (n := (6 + zi1)) (by omega)]
      refine pI locM C0 hK hP hA hS (mLoads g) (vp_in_nI (by omega) (by decide)) dX8_back_34 (fun H locs hP hS => ?_)
      rw [nI_clamp (n := zi1) (by omega)] at hP
      refine lv_iinc (v := (nI (zi1 + 1))) (lv' := [(2, .int (nI (zi1 + 1))), (0, .ref (g.1 0 0)), (1, .int p1)]) hx hb dX8_back_35 hl (k := 0) rfl (nI_1 _) (by decide) rfl (fun ls hl => ?_)
      refine lv_goto (tgt := 2) hx hb dX8_back_38 (by decide) ?_
      exact ih2 (zi1 + 1) (up (up zS3 0 2 zi1 (zS3.1 0 28 zi1)) 0 5 zi1 ((up zS3 0 2 zi1 (zS3.1 0 28 zi1)).1 0 28 (6 + zi1))) _ _ (by omega) hf hP hS ls (lv_sub hl [0, 1, 2] rfl)
  exact lp2 6 0 S _ _ (by decide) hf hP hS ls (lv_sub hl [0, 1, 2] rfl)
def tX8_beginCount (S : St) : St :=
  (up (up (up (up S 0 0 23 0) 0 0 24 (-6)) 0 0 25 (-6)) 0 0 26 0)
set_option maxHeartbeats 4000000 in
set_option maxRecDepth 100000 in
theorem kX8_beginCount (l : Launch) (g : Gd) (A : Nat → Prop) (hA : Ads g.1 VM A) (S : St)  : Met l yX8_beginCount (wU yX8_beginCount cX8_beginCount 1 none) { frames := 0, cells := 0, slots := 0, locals := 0 } (va_Pc [.ref (g.1 0 0)] (PW VM ctM g S)) (va_Qv (fun u => u = tX8_beginCount S) (fun u U => PW VM ctM g u U) A) 0 0 A := by
  refine ent (cc := cX8_beginCount) (maxL := 1) (ret := none) (by decide) (Nat.le_of_ble_eq_true rfl) ?_
  intro p e s m below meth c args Q C0 hr hlocks hP hK hQ ls hl
  have hx := C0.1
  have hb := C0.2.1
  have hml := C0.2.2.1
  have hown := C0.2.2.2.1
  have hts := C0.2.2.2.2
  obtain ⟨F, hF⟩ : ∃ F : St, F = tX8_beginCount S := ⟨_, rfl⟩
  have hf := hF
  unfold tX8_beginCount at hf
  have hS : va_S A s.heap s.heap [] := va_S.rf
  have hl : lv_has ls 1 [(0, .ref (g.1 0 0))] := hl
  refine lv_aload_n hx hb dX8_beginCount_0 rfl (lv_at hl 0 rfl) ?_
  refine lv_iconst (v := 0) hx hb dX8_beginCount_1 (by decide) ?_
  refine pO (T := TX8) (ty0 := tyX8) locM C0 inA8 tyX8_ok nmX8 hK hP hA hS (mMain g) rfl 23 (by decide) (hts _ q699) rfl 23 0 rfl rfl rfl (Nat.le_of_ble_eq_true rfl) dX8_beginCount_2 (fun H locs hP hS => ?_)
  refine lv_aload_n hx hb dX8_beginCount_5 rfl (lv_at hl 0 rfl) ?_
  refine lv_bipush (v := (-6)) hx hb dX8_beginCount_6 (by decide) ?_
  refine pO (T := TX8) (ty0 := tyX8) locM C0 inA8 tyX8_ok nmX8 hK hP hA hS (mMain g) rfl 24 (by decide) (hts _ q700) rfl 24 (-6) rfl rfl rfl (Nat.le_of_ble_eq_true rfl) dX8_beginCount_8 (fun H locs hP hS => ?_)
  refine lv_aload_n hx hb dX8_beginCount_11 rfl (lv_at hl 0 rfl) ?_
  refine lv_bipush (v := (-6)) hx hb dX8_beginCount_12 (by decide) ?_
  refine pO (T := TX8) (ty0 := tyX8) locM C0 inA8 tyX8_ok nmX8 hK hP hA hS (mMain g) rfl 25 (by decide) (hts _ q701) rfl 25 (-6) rfl rfl rfl (Nat.le_of_ble_eq_true rfl) dX8_beginCount_14 (fun H locs hP hS => ?_)
  refine lv_aload_n hx hb dX8_beginCount_17 rfl (lv_at hl 0 rfl) ?_
  refine lv_iconst (v := 0) hx hb dX8_beginCount_18 (by decide) ?_
  refine pO (T := TX8) (ty0 := tyX8) locM C0 inA8 tyX8_ok nmX8 hK hP hA hS (mMain g) rfl 26 (by decide) (hts _ q702) rfl 26 0 rfl rfl rfl (Nat.le_of_ble_eq_true rfl) dX8_beginCount_19 (fun H locs hP hS => ?_)
  exact rv hQ C0 hr hlocks hK hP hS (by rw [← hF]; exact hf.symm) dX8_beginCount_22
