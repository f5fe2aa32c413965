def tX8_tale (S : St) (p1 : Int32) (p2 : Int32) (p3 : Int32) : Int32 × St :=
  (if wj (Int32.toInt64 p1) 0 7 then (if wj (Int32.toInt64 p2) 0 7 then (if p1 = p2 then ((-1), S) else (if (S.1 0 0 16) = 8 then ((-4), S) else (if (b01 p3) = 0 then (bnd (((up (up (up S 0 13 (Int32.toNatClampNeg (S.1 0 0 16)) p1) 0 14 (Int32.toNatClampNeg ((up S 0 13 (Int32.toNatClampNeg (S.1 0 0 16)) p1).1 0 0 16)) p2) 0 15 (Int32.toNatClampNeg ((up (up S 0 13 (Int32.toNatClampNeg (S.1 0 0 16)) p1) 0 14 (Int32.toNatClampNeg ((up S 0 13 (Int32.toNatClampNeg (S.1 0 0 16)) p1).1 0 0 16)) p2).1 0 0 16)) 0).1 0 0 16) + 1) (fun zx8 => (((up (up (up (up S 0 13 (Int32.toNatClampNeg (S.1 0 0 16)) p1) 0 14 (Int32.toNatClampNeg ((up S 0 13 (Int32.toNatClampNeg (S.1 0 0 16)) p1).1 0 0 16)) p2) 0 15 (Int32.toNatClampNeg ((up (up S 0 13 (Int32.toNatClampNeg (S.1 0 0 16)) p1) 0 14 (Int32.toNatClampNeg ((up S 0 13 (Int32.toNatClampNeg (S.1 0 0 16)) p1).1 0 0 16)) p2).1 0 0 16)) 0) 0 0 16 zx8).1 0 0 16), (up (up (up (up S 0 13 (Int32.toNatClampNeg (S.1 0 0 16)) p1) 0 14 (Int32.toNatClampNeg ((up S 0 13 (Int32.toNatClampNeg (S.1 0 0 16)) p1).1 0 0 16)) p2) 0 15 (Int32.toNatClampNeg ((up (up S 0 13 (Int32.toNatClampNeg (S.1 0 0 16)) p1) 0 14 (Int32.toNatClampNeg ((up S 0 13 (Int32.toNatClampNeg (S.1 0 0 16)) p1).1 0 0 16)) p2).1 0 0 16)) 0) 0 0 16 zx8)))) else (bnd (((up (up (up S 0 13 (Int32.toNatClampNeg (S.1 0 0 16)) p1) 0 14 (Int32.toNatClampNeg ((up S 0 13 (Int32.toNatClampNeg (S.1 0 0 16)) p1).1 0 0 16)) p2) 0 15 (Int32.toNatClampNeg ((up (up S 0 13 (Int32.toNatClampNeg (S.1 0 0 16)) p1) 0 14 (Int32.toNatClampNeg ((up S 0 13 (Int32.toNatClampNeg (S.1 0 0 16)) p1).1 0 0 16)) p2).1 0 0 16)) 1).1 0 0 16) + 1) (fun zx9 => (((up (up (up (up S 0 13 (Int32.toNatClampNeg (S.1 0 0 16)) p1) 0 14 (Int32.toNatClampNeg ((up S 0 13 (Int32.toNatClampNeg (S.1 0 0 16)) p1).1 0 0 16)) p2) 0 15 (Int32.toNatClampNeg ((up (up S 0 13 (Int32.toNatClampNeg (S.1 0 0 16)) p1) 0 14 (Int32.toNatClampNeg ((up S 0 13 (Int32.toNatClampNeg (S.1 0 0 16)) p1).1 0 0 16)) p2).1 0 0 16)) 1) 0 0 16 zx9).1 0 0 16), (up (up (up (up S 0 13 (Int32.toNatClampNeg (S.1 0 0 16)) p1) 0 14 (Int32.toNatClampNeg ((up S 0 13 (Int32.toNatClampNeg (S.1 0 0 16)) p1).1 0 0 16)) p2) 0 15 (Int32.toNatClampNeg ((up (up S 0 13 (Int32.toNatClampNeg (S.1 0 0 16)) p1) 0 14 (Int32.toNatClampNeg ((up S 0 13 (Int32.toNatClampNeg (S.1 0 0 16)) p1).1 0 0 16)) p2).1 0 0 16)) 1) 0 0 16 zx9))))))) else ((-1), S)) else ((-1), S))
set_option maxHeartbeats 4000000 in
set_option maxRecDepth 100000 in
theorem kX8_tale (l : Launch) (g : Gd) (A : Nat → Prop) (hA : Ads g.1 VM A) (S : St) (p1 : Int32) (p2 : Int32) (p3 : Int32) (ht : wi (S.1 0 0 16) 0 8) : Met l yX8_tale (wU yX8_tale cX8_tale 4 (some .int)) { frames := 1, cells := 0, slots := 0, locals := 25 } (va_Pc [.ref (g.1 0 0), .int p1, .int p2, .int (b01 p3)] (PW VM ctM g S)) (va_Qi (fun r u => r = (tX8_tale S p1 p2 p3).1 ∧ u = (tX8_tale S p1 p2 p3).2) (fun u U => PW VM ctM g u U) A) 0 0 A := by
  refine ent (cc := cX8_tale) (maxL := 4) (ret := (some .int)) (by decide) (Nat.le_of_ble_eq_true rfl) ?_
  intro p e s m below meth c args Q C0 hr hlocks hP hK hQ ls hl
  have hx := C0.1
  have hb := C0.2.1
  have hml := C0.2.2.1
  have hown := C0.2.2.2.1
  have hts := C0.2.2.2.2
  obtain ⟨F, hF⟩ : ∃ F : Int32 × St, F = tX8_tale S p1 p2 p3 := ⟨_, rfl⟩
  have hf := hF
  unfold tX8_tale at hf
  have hS : va_S A s.heap s.heap [] := va_S.rf
  have hl : lv_has ls 4 [(0, .ref (g.1 0 0)), (1, .int p1), (2, .int p2), (3, .int (b01 p3))] := hl
  refine lv_iload_n hx hb dX8_tale_0 rfl (lv_at hl 1 rfl) ?_
  refine lv_i2l (v := (Int32.toInt64 p1)) hx hb dX8_tale_1 rfl ?_
  refine lv_lconst (v := 0) hx hb dX8_tale_2 (by decide) ?_
  refine lv_ldc2 (v := 7) hx hb hown (hts _ q1008) dX8_tale_3 ?_
  refine kzc (va_runS (As := [.long (Int32.toInt64 p1), .long 0, .long 7]) (rest := []) C0 (kX8_in l g A hA S (Int32.toInt64 p1) 0 7) (va_cwS 3 hts (gS q799 q800 q54 q801) rfl rfl rfl (by decide +kernel) ⟨Nat.le_of_ble_eq_true rfl, Nat.le_of_ble_eq_true rfl⟩) (preS hP hK) rfl rfl hl.1 rfl (lv_room (Nat.le_of_ble_eq_true rfl)) dX8_tale_6 ⟨Nat.zero_le _, Nat.zero_le _⟩) hS (fun _ h => h) (fun zc1 H locs hP hS => ?_) (fun zc1 H locs hP hS => ?_)
  · have hf := hf.trans (if_pos zc1)
    refine lv_if_eq (tgt := 29) hx hb dX8_tale_9 (by decide) (fun zc2 => absurd zc2 (by decide)) (fun zc2 => ?_)
    refine lv_iload_n hx hb dX8_tale_12 rfl (lv_at hl 2 rfl) ?_
    refine lv_i2l (v := (Int32.toInt64 p2)) hx hb dX8_tale_13 rfl ?_
    refine lv_lconst (v := 0) hx hb dX8_tale_14 (by decide) ?_
    refine lv_ldc2 (v := 7) hx hb hown (hts _ q1008) dX8_tale_15 ?_
    refine kzc (va_runS (As := [.long (Int32.toInt64 p2), .long 0, .long 7]) (rest := []) C0 (kX8_in l g A hA S (Int32.toInt64 p2) 0 7) (va_cwS 3 hts (gS q799 q800 q54 q801) rfl rfl rfl (by decide +kernel) ⟨Nat.le_of_ble_eq_true rfl, Nat.le_of_ble_eq_true rfl⟩) (preS hP hK) rfl rfl hl.1 rfl (lv_room (Nat.le_of_ble_eq_true rfl)) dX8_tale_18 ⟨Nat.zero_le _, Nat.zero_le _⟩) hS (fun _ h => h) (fun zc3 H locs hP hS => ?_) (fun zc3 H locs hP hS => ?_)
    · have hf := hf.trans (if_pos zc3)
      refine lv_if_eq (tgt := 29) hx hb dX8_tale_21 (by decide) (fun zc4 => absurd zc4 (by decide)) (fun zc4 => ?_)
      refine lv_iload_n hx hb dX8_tale_24 rfl (lv_at hl 1 rfl) ?_
      refine lv_iload_n hx hb dX8_tale_25 rfl (lv_at hl 2 rfl) ?_
      refine lv_icmp_ne (tgt := 31) hx hb dX8_tale_26 (by decide) (fun zc5 => ?_) (fun zc5 => ?_)
      · have hf := hf.trans (if_neg zc5)
        refine lv_aload_n hx hb dX8_tale_31 rfl (lv_at hl 0 rfl) ?_
        refine gO (T := TX8) C0 inA8 hK hP (mMain g) rfl 16 (by decide) (hts _ q692) (v := .int (S.1 0 0 16)) rfl dX8_tale_32 ?_
        refine lv_bipush (v := 8) hx hb dX8_tale_35 (by decide) ?_
        refine lv_icmp_ne (tgt := 43) hx hb dX8_tale_37 (by decide) (fun zc6 => ?_) (fun zc6 => ?_)
        · have hf := hf.trans (if_neg zc6)
          refine lv_aload_n hx hb dX8_tale_43 rfl (lv_at hl 0 rfl) ?_
          refine gO (T := TX8) C0 inA8 hK hP (mMain g) rfl 13 (by decide) (hts _ q689) (v := .ref (g.1 0 13)) rfl dX8_tale_44 ?_
          refine lv_aload_n hx hb dX8_tale_47 rfl (lv_at hl 0 rfl) ?_
          refine gO (T := TX8) C0 inA8 hK hP (mMain g) rfl 16 (by decide) (hts _ q692) (v := .int (S.1 0 0 16)) rfl dX8_tale_48 ?_
          refine lv_iload_n hx hb dX8_tale_51 rfl (lv_at hl 1 rfl) ?_
          refine pI locM C0 hK hP hA hS (mTOne g) (by first | exact vpe ht zc6 | (simp only [up_row_ne _ _ (show (0 : Nat) ≠ 13 by decide), up_row_ne _ _ (show (0 : Nat) ≠ 14 by decide)]; exact vpe ht zc6)) dX8_tale_52 (fun H locs hP hS => ?_)
          refine lv_aload_n hx hb dX8_tale_53 rfl (lv_at hl 0 rfl) ?_
          refine gO (T := TX8) C0 inA8 hK hP (mMain g) rfl 14 (by decide) (hts _ q690) (v := .ref (g.1 0 14)) rfl dX8_tale_54 ?_
          refine lv_aload_n hx hb dX8_tale_57 rfl (lv_at hl 0 rfl) ?_
          refine gO (T := TX8) C0 inA8 hK hP (mMain g) rfl 16 (by decide) (hts _ q692) (v := .int ((up S 0 13 (Int32.toNatClampNeg (S.1 0 0 16)) p1).1 0 0 16)) rfl dX8_tale_58 ?_
          refine lv_iload_n hx hb dX8_tale_61 rfl (lv_at hl 2 rfl) ?_
          refine pI locM C0 hK hP hA hS (mTTwo g) (by first | exact vpe ht zc6 | (simp only [up_row_ne _ _ (show (0 : Nat) ≠ 13 by decide), up_row_ne _ _ (show (0 : Nat) ≠ 14 by decide)]; exact vpe ht zc6)) dX8_tale_62 (fun H locs hP hS => ?_)
          refine lv_aload_n hx hb dX8_tale_63 rfl (lv_at hl 0 rfl) ?_
          refine gO (T := TX8) C0 inA8 hK hP (mMain g) rfl 15 (by decide) (hts _ q691) (v := .ref (g.1 0 15)) rfl dX8_tale_64 ?_
          refine lv_aload_n hx hb dX8_tale_67 rfl (lv_at hl 0 rfl) ?_
          refine gO (T := TX8) C0 inA8 hK hP (mMain g) rfl 16 (by decide) (hts _ q692) (v := .int ((up (up S 0 13 (Int32.toNatClampNeg (S.1 0 0 16)) p1) 0 14 (Int32.toNatClampNeg ((up S 0 13 (Int32.toNatClampNeg (S.1 0 0 16)) p1).1 0 0 16)) p2).1 0 0 16)) rfl dX8_tale_68 ?_
          refine lv_iload_n hx hb dX8_tale_71 rfl (lv_at hl 3 rfl) ?_
          refine lv_if_eq (tgt := 79) hx hb dX8_tale_72 (by decide) (fun zc7 => ?_) (fun zc7 => ?_)
          · have hf := hf.trans (if_pos zc7)
            refine lv_iconst (v := 0) hx hb dX8_tale_79 (by decide) ?_
            refine pI locM C0 hK hP hA hS (mTSame g) (by first | exact vpe ht zc6 | (simp only [up_row_ne _ _ (show (0 : Nat) ≠ 13 by decide), up_row_ne _ _ (show (0 : Nat) ≠ 14 by decide)]; exact vpe ht zc6)) dX8_tale_80 (fun H locs hP hS => ?_)
            refine lv_aload_n hx hb dX8_tale_81 rfl (lv_at hl 0 rfl) ?_
            refine lv_dup hx hb dX8_tale_82 rfl ?_
            refine gO (T := TX8) C0 inA8 hK hP (mMain g) rfl 16 (by decide) (hts _ q692) (v := .int ((up (up (up S 0 13 (Int32.toNatClampNeg (S.1 0 0 16)) p1) 0 14 (Int32.toNatClampNeg ((up S 0 13 (Int32.toNatClampNeg (S.1 0 0 16)) p1).1 0 0 16)) p2) 0 15 (Int32.toNatClampNeg ((up (up S 0 13 (Int32.toNatClampNeg (S.1 0 0 16)) p1) 0 14 (Int32.toNatClampNeg ((up S 0 13 (Int32.toNatClampNeg (S.1 0 0 16)) p1).1 0 0 16)) p2).1 0 0 16)) 0).1 0 0 16)) rfl dX8_tale_83 ?_
            refine lv_iconst (v := 1) hx hb dX8_tale_86 (by decide) ?_
            refine lv_iadd hx hb dX8_tale_87 ?_
            refine lv_topi (fun zx8 hzx8 => ?_)
            have hf := hf.trans (bnd_eq hzx8)
            refine pO (T := TX8) (ty0 := tyX8) locM C0 inA8 tyX8_ok nmX8 hK hP hA hS (mMain g) rfl 16 (by decide) (hts _ q692) rfl 16 zx8 rfl rfl rfl (Nat.le_of_ble_eq_true rfl) dX8_tale_88 (fun H locs hP hS => ?_)
            refine lv_aload_n hx hb dX8_tale_91 rfl (lv_at hl 0 rfl) ?_
            refine gO (T := TX8) C0 inA8 hK hP (mMain g) rfl 16 (by decide) (hts _ q692) (v := .int ((up (up (up (up S 0 13 (Int32.toNatClampNeg (S.1 0 0 16)) p1) 0 14 (Int32.toNatClampNeg ((up S 0 13 (Int32.toNatClampNeg (S.1 0 0 16)) p1).1 0 0 16)) p2) 0 15 (Int32.toNatClampNeg ((up (up S 0 13 (Int32.toNatClampNeg (S.1 0 0 16)) p1) 0 14 (Int32.toNatClampNeg ((up S 0 13 (Int32.toNatClampNeg (S.1 0 0 16)) p1).1 0 0 16)) p2).1 0 0 16)) 0) 0 0 16 zx8).1 0 0 16)) rfl dX8_tale_92 ?_
            exact ri hQ C0 hr hlocks hK hP hS (by rw [← hF]; exact fin2 hf) dX8_tale_95
          · have hf := hf.trans (if_neg zc7)
            refine lv_iconst (v := 1) hx hb dX8_tale_75 (by decide) ?_
            refine lv_goto (tgt := 80) hx hb dX8_tale_76 (by decide) ?_
            refine pI locM C0 hK hP hA hS (mTSame g) (by first | exact vpe ht zc6 | (simp only [up_row_ne _ _ (show (0 : Nat) ≠ 13 by decide), up_row_ne _ _ (show (0 : Nat) ≠ 14 by decide)]; exact vpe ht zc6)) dX8_tale_80 (fun H locs hP hS => ?_)
            refine lv_aload_n hx hb dX8_tale_81 rfl (lv_at hl 0 rfl) ?_
            refine lv_dup hx hb dX8_tale_82 rfl ?_
            refine gO (T := TX8) C0 inA8 hK hP (mMain g) rfl 16 (by decide) (hts _ q692) (v := .int ((up (up (up S 0 13 (Int32.toNatClampNeg (S.1 0 0 16)) p1) 0 14 (Int32.toNatClampNeg ((up S 0 13 (Int32.toNatClampNeg (S.1 0 0 16)) p1).1 0 0 16)) p2) 0 15 (Int32.toNatClampNeg ((up (up S 0 13 (Int32.toNatClampNeg (S.1 0 0 16)) p1) 0 14 (Int32.toNatClampNeg ((up S 0 13 (Int32.toNatClampNeg (S.1 0 0 16)) p1).1 0 0 16)) p2).1 0 0 16)) 1).1 0 0 16)) rfl dX8_tale_83 ?_
            refine lv_iconst (v := 1) hx hb dX8_tale_86 (by decide) ?_
            refine lv_iadd hx hb dX8_tale_87 ?_
            refine lv_topi (fun zx9 hzx9 => ?_)
            have hf := hf.trans (bnd_eq hzx9)
            refine pO (T := TX8) (ty0 := tyX8) locM C0 inA8 tyX8_ok nmX8 hK hP hA hS (mMain g) rfl 16 (by decide) (hts _ q692) rfl 16 zx9 rfl rfl rfl (Nat.le_of_ble_eq_true rfl) dX8_tale_88 (fun H locs hP hS => ?_)
            refine lv_aload_n hx hb dX8_tale_91 rfl (lv_at hl 0 rfl) ?_
            refine gO (T := TX8) C0 inA8 hK hP (mMain g) rfl 16 (by decide) (hts _ q692) (v := .int ((up (up (up (up S 0 13 (Int32.toNatClampNeg (S.1 0 0 16)) p1) 0 14 (Int32.toNatClampNeg ((up S 0 13 (Int32.toNatClampNeg (S.1 0 0 16)) p1).1 0 0 16)) p2) 0 15 (Int32.toNatClampNeg ((up (up S 0 13 (Int32.toNatClampNeg (S.1 0 0 16)) p1) 0 14 (Int32.toNatClampNeg ((up S 0 13 (Int32.toNatClampNeg (S.1 0 0 16)) p1).1 0 0 16)) p2).1 0 0 16)) 1) 0 0 16 zx9).1 0 0 16)) rfl dX8_tale_92 ?_
            exact ri hQ C0 hr hlocks hK hP hS (by rw [← hF]; exact fin2 hf) dX8_tale_95
        · have hf := hf.trans (if_pos zc6)
          refine lv_bipush (v := (-4)) hx hb dX8_tale_40 (by decide) ?_
          exact ri hQ C0 hr hlocks hK hP hS (by rw [← hF]; exact fin2 hf) dX8_tale_42
      · have hf := hf.trans (if_pos zc5)
        refine lv_iconst (v := (-1)) hx hb dX8_tale_29 (by decide) ?_
        exact ri hQ C0 hr hlocks hK hP hS (by rw [← hF]; exact fin2 hf) dX8_tale_30
    · have hf := hf.trans (if_neg zc3)
      refine lv_if_eq (tgt := 29) hx hb dX8_tale_21 (by decide) (fun zc10 => ?_) (fun zc10 => absurd (by decide) zc10)
      refine lv_iconst (v := (-1)) hx hb dX8_tale_29 (by decide) ?_
      exact ri hQ C0 hr hlocks hK hP hS (by rw [← hF]; exact fin2 hf) dX8_tale_30
  · have hf := hf.trans (if_neg zc1)
    refine lv_if_eq (tgt := 29) hx hb dX8_tale_9 (by decide) (fun zc11 => ?_) (fun zc11 => absurd (by decide) zc11)
    refine lv_iconst (v := (-1)) hx hb dX8_tale_29 (by decide) ?_
    exact ri hQ C0 hr hlocks hK hP hS (by rw [← hF]; exact fin2 hf) dX8_tale_30
def tX8_forget (S : St) : Int32 × St :=
  ((S.1 0 0 16), (up S 0 0 16 0))
set_option maxHeartbeats 4000000 in
set_option maxRecDepth 100000 in
theorem kX8_forget (l : Launch) (g : Gd) (A : Nat → Prop) (hA : Ads g.1 VM A) (S : St)  : Met l yX8_forget (wU yX8_forget cX8_forget 2 (some .int)) { frames := 0, cells := 0, slots := 0, locals := 0 } (va_Pc [.ref (g.1 0 0)] (PW VM ctM g S)) (va_Qi (fun r u => r = (tX8_forget S).1 ∧ u = (tX8_forget S).2) (fun u U => PW VM ctM g u U) A) 0 0 A := by
  refine ent (cc := cX8_forget) (maxL := 2) (ret := (some .int)) (by decide) (Nat.le_of_ble_eq_true rfl) ?_
  intro p e s m below meth c args Q C0 hr hlocks hP hK hQ ls hl
  have hx := C0.1
  have hb := C0.2.1
  have hml := C0.2.2.1
  have hown := C0.2.2.2.1
  have hts := C0.2.2.2.2
  obtain ⟨F, hF⟩ : ∃ F : Int32 × St, F = tX8_forget S := ⟨_, rfl⟩
  have hf := hF
  unfold tX8_forget at hf
  have hS : va_S A s.heap s.heap [] := va_S.rf
  have hl : lv_has ls 2 [(0, .ref (g.1 0 0))] := hl
  refine lv_aload_n hx hb dX8_forget_0 rfl (lv_at hl 0 rfl) ?_
  refine gO (T := TX8) C0 inA8 hK hP (mMain g) rfl 16 (by decide) (hts _ q692) (v := .int (S.1 0 0 16)) rfl dX8_forget_1 ?_
  refine lv_istore_n (lv' := [(1, .int (S.1 0 0 16)), (0, .ref (g.1 0 0))]) hx hb dX8_forget_4 rfl hl (by decide) rfl (fun ls hl => ?_)
  refine lv_aload_n hx hb dX8_forget_5 rfl (lv_at hl 1 rfl) ?_
  refine lv_iconst (v := 0) hx hb dX8_forget_6 (by decide) ?_
  refine pO (T := TX8) (ty0 := tyX8) locM C0 inA8 tyX8_ok nmX8 hK hP hA hS (mMain g) rfl 16 (by decide) (hts _ q692) rfl 16 0 rfl rfl rfl (Nat.le_of_ble_eq_true rfl) dX8_forget_7 (fun H locs hP hS => ?_)
  refine lv_iload_n hx hb dX8_forget_10 rfl (lv_at hl 0 rfl) ?_
  exact ri hQ C0 hr hlocks hK hP hS (by rw [← hF]; exact fin2 hf) dX8_forget_11
def LX8_join_18 (S : St) (p1 : Int32) (p2 : Int32) : Nat → Nat → St → St
  | 0, zi1, zS3 => zS3
  | zk2 + 1, zi1, zS3 => (if (zS3.1 0 32 zi1) = (S.1 0 32 (Int32.toNatClampNeg p1)) then (LX8_join_18 S p1 p2 zk2 (zi1 + 1) (up zS3 0 32 zi1 (S.1 0 32 (Int32.toNatClampNeg p2)))) else (LX8_join_18 S p1 p2 zk2 (zi1 + 1) (up zS3 0 32 zi1 (zS3.1 0 32 zi1))))
def tX8_join (S : St) (p1 : Int32) (p2 : Int32) : St :=
  (LX8_join_18 S p1 p2 8 0 S)
set_option maxHeartbeats 4000000 in
set_option maxRecDepth 100000 in
theorem kX8_join (l : Launch) (g : Gd) (A : Nat → Prop) (hA : Ads g.1 VM A) (S : St) (p1 : Int32) (p2 : Int32) (hja : vp_in p1 8) (hjb : vp_in p2 8) : Met l yX8_join (wU yX8_join cX8_join 6 none) { frames := 0, cells := 0, slots := 0, locals := 0 } (va_Pc [.ref (g.1 0 0), .int p1, .int p2] (PW VM ctM g S)) (va_Qv (fun u => u = tX8_join S p1 p2) (fun u U => PW VM ctM g u U) A) 0 0 A := by
  refine ent (cc := cX8_join) (maxL := 6) (ret := none) (by decide) (Nat.le_of_ble_eq_true rfl) ?_
  intro p e s m below meth c args Q C0 hr hlocks hP hK hQ ls hl
  have hx := C0.1
  have hb := C0.2.1
  have hml := C0.2.2.1
  have hown := C0.2.2.2.1
  have hts := C0.2.2.2.2
  obtain ⟨F, hF⟩ : ∃ F : St, F = tX8_join S p1 p2 := ⟨_, rfl⟩
  have hf := hF
  unfold tX8_join at hf
  have hS : va_S A s.heap s.heap [] := va_S.rf
  have hl : lv_has ls 6 [(0, .ref (g.1 0 0)), (1, .int p1), (2, .int p2)] := hl
  refine lv_aload_n hx hb dX8_join_0 rfl (lv_at hl 0 rfl) ?_
  refine gO (T := TX8) C0 inA8 hK hP (mMain g) rfl 32 (by decide) (hts _ q708) (v := .ref (g.1 0 32)) rfl dX8_join_1 ?_
  refine lv_iload_n hx hb dX8_join_4 rfl (lv_at hl 1 rfl) ?_
  refine gI C0 hK hP (mGroup g) hja dX8_join_5 ?_
  refine lv_istore_n (lv' := [(3, .int (S.1 0 32 (Int32.toNatClampNeg p1))), (0, .ref (g.1 0 0)), (1, .int p1), (2, .int p2)]) hx hb dX8_join_6 rfl hl (by decide) rfl (fun ls hl => ?_)
  refine lv_aload_n hx hb dX8_join_7 rfl (lv_at hl 1 rfl) ?_
  refine gO (T := TX8) C0 inA8 hK hP (mMain g) rfl 32 (by decide) (hts _ q708) (v := .ref (g.1 0 32)) rfl dX8_join_8 ?_
  refine lv_iload_n hx hb dX8_join_11 rfl (lv_at hl 3 rfl) ?_
  refine gI C0 hK hP (mGroup g) hjb dX8_join_12 ?_
  refine lv_istore (lv' := [(4, .int (S.1 0 32 (Int32.toNatClampNeg p2))), (3, .int (S.1 0 32 (Int32.toNatClampNeg p1))), (0, .ref (g.1 0 0)), (1, .int p1), (2, .int p2)]) hx hb dX8_join_13 hl (by decide) rfl (fun ls hl => ?_)
  refine lv_iconst (v := 0) hx hb dX8_join_15 (by decide) ?_
  refine lv_istore (lv' := [(5, .int 0), (4, .int (S.1 0 32 (Int32.toNatClampNeg p2))), (3, .int (S.1 0 32 (Int32.toNatClampNeg p1))), (0, .ref (g.1 0 0)), (1, .int p1), (2, .int p2)]) hx hb dX8_join_16 hl (by decide) rfl (fun ls hl => ?_)
  have lp18 : ∀ (zk2 zi1 : Nat) (zS3 : St) (H : Heap) (locs : List Loc), (zi1 + zk2 = 8) → (F = LX8_join_18 S p1 p2 zk2 zi1 zS3) → HW VM ctM g zS3 H → va_S A s.heap H locs → ∀ ls : Array Slot, lv_has ls 6 [(5, .int (nI zi1)), (4, .int (S.1 0 32 (Int32.toNatClampNeg p2))), (3, .int (S.1 0 32 (Int32.toNatClampNeg p1))), (0, .ref (g.1 0 0)), (1, .int p1), (2, .int p2)] → W p l e { frames := 0, cells := 0, slots := 0, locals := 0 } s m args below meth c H locs 0 0 Q (F0 m 18 ls []) := by
    intro zk2
    induction zk2 with
    | zero =>
      intro zi1 zS3 H locs hik hf hP hS ls hl
      rw [LX8_join_18] at hf
      refine lv_iload hx hb dX8_join_18 (lv_at hl 0 rfl) ?_
      refine lv_bipush (v := 8) hx hb dX8_join_20 (by decide) ?_
      refine lv_icmp_ge (tgt := 61) hx hb dX8_join_22 (by decide) (fun zc4 => ?_) (fun zc4 => absurd (up_ge0 rfl hik (by decide)) zc4)
      exact rv hQ C0 hr hlocks hK hP hS (by rw [← hF]; exact hf.symm) dX8_join_61
    | succ zk2 ih18 =>
      intro zi1 zS3 H locs hik hf hP hS ls hl
      rw [LX8_join_18] at hf
      refine lv_iload hx hb dX8_join_18 (lv_at hl 0 rfl) ?_
      refine lv_bipush (v := 8) hx hb dX8_join_20 (by decide) ?_
      refine lv_icmp_ge (tgt := 61) hx hb dX8_join_22 (by decide) (fun zc5 => absurd zc5 (up_ge1 rfl hik (by decide))) (fun zc5 => ?_)
      refine lv_aload_n hx hb dX8_join_25 rfl (lv_at hl 3 rfl) ?_
      refine gO (T := TX8) C0 inA8 hK hP (mMain g) rfl 32 (by decide) (hts _ q708) (v := .ref (g.1 0 32)) rfl dX8_join_26 ?_
      refine lv_iload hx hb dX8_join_29 (lv_at hl 0 rfl) ?_
      refine lv_aload_n hx hb dX8_join_31 rfl (lv_at hl 3 rfl) ?_
      refine gO (T := TX8) C0 inA8 hK hP (mMain g) rfl 32 (by decide) (hts _ q708) (v := .ref (g.1 0 32)) rfl dX8_join_32 ?_
      refine lv_iload hx hb dX8_join_35 (lv_at hl 0 rfl) ?_
      refine gI C0 hK hP (mGroup g) (vp_in_nI (by omega) (by decide)) dX8_join_37 ?_
      rw [nI_clamp (n := zi1) (by omega)]
      refine lv_iload_n hx hb dX8_join_38 rfl (lv_at hl 2 rfl) ?_
      refine lv_icmp_ne (tgt := 47) hx hb dX8_join_39 (by decide) (fun zc6 => ?_) (fun zc6 => ?_)
      · have hf := hf.trans (if_neg zc6)
        refine lv_aload_n hx hb dX8_join_47 rfl (lv_at hl 3 rfl) ?_
        refine gO (T := TX8) C0 inA8 hK hP (mMain g) rfl 32 (by decide) (hts _ q708) (v := .ref (g.1 0 32)) rfl dX8_join_48 ?_
        refine lv_iload hx hb dX8_join_51 (lv_at hl 0 rfl) ?_
        refine gI C0 hK hP (mGroup g) (vp_in_nI (by omega) (by decide)) dX8_join_53 ?_
        rw [nI_clamp (n := zi1) (by omega)]
        refine pI locM C0 hK hP hA hS (mGroup g) (vp_in_nI (by omega) (by decide)) dX8_join_54 (fun H locs hP hS => ?_)
        rw [nI_clamp (n := zi1) (by omega)] at hP
        refine lv_iinc (v := (nI (zi1 + 1))) (lv' := [(5, .int (nI (zi1 + 1))), (4, .int (S.1 0 32 (Int32.toNatClampNeg p2))), (3, .int (S.1 0 32 (Int32.toNatClampNeg p1))), (0, .ref (g.1 0 0)), (1, .int p1), (2, .int p2)]) hx hb dX8_join_55 hl (k := 0) rfl (nI_1 _) (by decide) rfl (fun ls hl => ?_)
        refine lv_goto (tgt := 18) hx hb dX8_join_58 (by decide) ?_
        exact ih18 (zi1 + 1) (up zS3 0 32 zi1 (zS3.1 0 32 zi1)) _ _ (by omega) hf hP hS ls (lv_sub hl [0, 1, 2, 3, 4, 5] rfl)
      · have hf := hf.trans (if_pos zc6)
        refine lv_iload hx hb dX8_join_42 (lv_at hl 1 rfl) ?_
        refine lv_goto (tgt := 54) hx hb dX8_join_44 (by decide) ?_
        refine pI locM C0 hK hP hA hS (mGroup g) (vp_in_nI (by omega) (by decide)) dX8_join_54 (fun H locs hP hS => ?_)
        rw [nI_clamp (n := zi1) (by omega)] at hP
        refine lv_iinc (v := (nI (zi1 + 1))) (lv' := [(5, .int (nI (zi1 + 1))), (4, .int (S.1 0 32 (Int32.toNatClampNeg p2))), (3, .int (S.1 0 32 (Int32.toNatClampNeg p1))), (0, .ref (g.1 0 0)), (1, .int p1), (2, .int p2)]) hx hb dX8_join_55 hl (k := 0) rfl (nI_1 _) (by decide) rfl (fun ls hl => ?_)
        refine lv_goto (tgt := 18) hx hb dX8_join_58 (by decide) ?_
        exact ih18 (zi1 + 1) (up zS3 0 32 zi1 (S.1 0 32 (Int32.toNatClampNeg p2))) _ _ (by omega) hf hP hS ls (lv_sub hl [0, 1, 2, 3, 4, 5] rfl)
  exact lp18 8 0 S _ _ (by decide) hf hP hS ls (lv_sub hl [0, 1, 2, 3, 4, 5] rfl)
theorem zor_nar {x : Int32} (h : x = 0 ∨ x = 1) : narrow .boolean (.int x) = .int x := by
  rcases h with rfl | rfl <;> rfl
def LX8_areTwo_6 (S : St) (p1 : Int32) (p2 : Int32) (p3 : Int32) : Nat → Nat → Int32 → Int32
  | 0, zi1, zx3 => zx3
  | zk2 + 1, zi1, zx3 => (if (S.1 0 32 (Int32.toNatClampNeg (S.1 0 13 zi1))) = p1 then (if (S.1 0 32 (Int32.toNatClampNeg (S.1 0 14 zi1))) = p2 then (if zx3 = 0 then (if (S.1 0 15 zi1) = 0 then (if ((ishrF (S.1 0 0 33) (nI zi1)) &&& 1) = 0 then (LX8_areTwo_6 S p1 p2 p3 zk2 (zi1 + 1) 1) else (LX8_areTwo_6 S p1 p2 p3 zk2 (zi1 + 1) 0)) else (LX8_areTwo_6 S p1 p2 p3 zk2 (zi1 + 1) 0)) else (LX8_areTwo_6 S p1 p2 p3 zk2 (zi1 + 1) 1)) else (if (S.1 0 32 (Int32.toNatClampNeg (S.1 0 13 zi1))) = p2 then (if (S.1 0 32 (Int32.toNatClampNeg (S.1 0 14 zi1))) = p1 then (if zx3 = 0 then (if (S.1 0 15 zi1) = 0 then (if ((ishrF (S.1 0 0 33) (nI zi1)) &&& 1) = 0 then (LX8_areTwo_6 S p1 p2 p3 zk2 (zi1 + 1) 1) else (LX8_areTwo_6 S p1 p2 p3 zk2 (zi1 + 1) 0)) else (LX8_areTwo_6 S p1 p2 p3 zk2 (zi1 + 1) 0)) else (LX8_areTwo_6 S p1 p2 p3 zk2 (zi1 + 1) 1)) else (if zx3 = 0 then (LX8_areTwo_6 S p1 p2 p3 zk2 (zi1 + 1) 0) else (LX8_areTwo_6 S p1 p2 p3 zk2 (zi1 + 1) 1))) else (if zx3 = 0 then (LX8_areTwo_6 S p1 p2 p3 zk2 (zi1 + 1) 0) else (LX8_areTwo_6 S p1 p2 p3 zk2 (zi1 + 1) 1)))) else (if (S.1 0 32 (Int32.toNatClampNeg (S.1 0 13 zi1))) = p2 then (if (S.1 0 32 (Int32.toNatClampNeg (S.1 0 14 zi1))) = p1 then (if zx3 = 0 then (if (S.1 0 15 zi1) = 0 then (if ((ishrF (S.1 0 0 33) (nI zi1)) &&& 1) = 0 then (LX8_areTwo_6 S p1 p2 p3 zk2 (zi1 + 1) 1) else (LX8_areTwo_6 S p1 p2 p3 zk2 (zi1 + 1) 0)) else (LX8_areTwo_6 S p1 p2 p3 zk2 (zi1 + 1) 0)) else (LX8_areTwo_6 S p1 p2 p3 zk2 (zi1 + 1) 1)) else (if zx3 = 0 then (LX8_areTwo_6 S p1 p2 p3 zk2 (zi1 + 1) 0) else (LX8_areTwo_6 S p1 p2 p3 zk2 (zi1 + 1) 1))) else (if zx3 = 0 then (LX8_areTwo_6 S p1 p2 p3 zk2 (zi1 + 1) 0) else (LX8_areTwo_6 S p1 p2 p3 zk2 (zi1 + 1) 1))))
def tX8_areTwo (S : St) (p1 : Int32) (p2 : Int32) (p3 : Int32) : Int32 :=
  (LX8_areTwo_6 S p1 p2 p3 (Int32.toNatClampNeg p3) 0 0)
set_option maxHeartbeats 4000000 in
set_option maxRecDepth 100000 in
theorem kX8_areTwo (l : Launch) (g : Gd) (A : Nat → Prop) (hA : Ads g.1 VM A) (S : St) (p1 : Int32) (p2 : Int32) (p3 : Int32) (hn8 : p3.toNatClampNeg ≤ 8) (htk : ∀ j, j < p3.toNatClampNeg → vp_in (S.1 0 13 j) 8 ∧ vp_in (S.1 0 14 j) 8) : Met l yX8_areTwo (wU yX8_areTwo cX8_areTwo 9 (some .boolean)) { frames := 0, cells := 0, slots := 0, locals := 0 } (va_Pc [.ref (g.1 0 0), .int p1, .int p2, .int p3] (PW VM ctM g S)) (va_Qi (fun r u => r = tX8_areTwo S p1 p2 p3 ∧ u = S) (fun u U => PW VM ctM g u U) A) 0 0 A := by
  refine ent (cc := cX8_areTwo) (maxL := 9) (ret := (some .boolean)) (by decide) (Nat.le_of_ble_eq_true rfl) ?_
  intro p e s m below meth c args Q C0 hr hlocks hP hK hQ ls hl
  have hx := C0.1
  have hb := C0.2.1
  have hml := C0.2.2.1
  have hown := C0.2.2.2.1
  have hts := C0.2.2.2.2
  obtain ⟨F, hF⟩ : ∃ F : Int32, F = tX8_areTwo S p1 p2 p3 := ⟨_, rfl⟩
  have hf := hF
  unfold tX8_areTwo at hf
  have hS : va_S A s.heap s.heap [] := va_S.rf
  have hl : lv_has ls 9 [(0, .ref (g.1 0 0)), (1, .int p1), (2, .int p2), (3, .int p3)] := hl
  refine lv_iconst (v := 0) hx hb dX8_areTwo_0 (by decide) ?_
  refine lv_istore (lv' := [(4, .int 0), (0, .ref (g.1 0 0)), (1, .int p1), (2, .int p2), (3, .int p3)]) hx hb dX8_areTwo_1 hl (by decide) rfl (fun ls hl => ?_)
  refine lv_iconst (v := 0) hx hb dX8_areTwo_3 (by decide) ?_
  refine lv_istore (lv' := [(5, .int 0), (4, .int 0), (0, .ref (g.1 0 0)), (1, .int p1), (2, .int p2), (3, .int p3)]) hx hb dX8_areTwo_4 hl (by decide) rfl (fun ls hl => ?_)
  have lp6 : ∀ (zk2 zi1 : Nat) (zx3 : Int32) (H : Heap) (locs : List Loc), (zi1 + zk2 = (Int32.toNatClampNeg p3)) → (zx3 = 0 ∨ zx3 = 1) → (F = LX8_areTwo_6 S p1 p2 p3 zk2 zi1 zx3) → HW VM ctM g S H → va_S A s.heap H locs → ∀ ls : Array Slot, lv_has ls 9 [(5, .int (nI zi1)), (0, .ref (g.1 0 0)), (1, .int p1), (2, .int p2), (3, .int p3), (4, .int zx3)] → W p l e { frames := 0, cells := 0, slots := 0, locals := 0 } s m args below meth c H locs 0 0 Q (F0 m 6 ls []) := by
    intro zk2
    induction zk2 with
    | zero =>
      intro zi1 zx3 H locs hik hz hf hP hS ls hl
      rw [LX8_areTwo_6] at hf
      refine lv_iload hx hb dX8_areTwo_6 (lv_at hl 0 rfl) ?_
      refine lv_iload_n hx hb dX8_areTwo_8 rfl (lv_at hl 4 rfl) ?_
      refine lv_icmp_ge (tgt := 116) hx hb dX8_areTwo_9 (by decide) (fun zc4 => ?_) (fun zc4 => absurd (up_sge0 hik) zc4)
      refine lv_iload hx hb dX8_areTwo_116 (lv_at hl 5 rfl) ?_
      exact rz hQ C0 hr hlocks hK hP hS (zor_nar hz) (by rw [← hF]; exact ⟨hf.symm, rfl⟩) dX8_areTwo_118
    | succ zk2 ih6 =>
      intro zi1 zx3 H locs hik hz hf hP hS ls hl
      rw [LX8_areTwo_6] at hf
      refine lv_iload hx hb dX8_areTwo_6 (lv_at hl 0 rfl) ?_
      refine lv_iload_n hx hb dX8_areTwo_8 rfl (lv_at hl 4 rfl) ?_
      refine lv_icmp_ge (tgt := 116) hx hb dX8_areTwo_9 (by decide) (fun zc5 => absurd zc5 (up_sge1 hik)) (fun zc5 => ?_)
      refine lv_aload_n hx hb dX8_areTwo_12 rfl (lv_at hl 1 rfl) ?_
      refine gO (T := TX8) C0 inA8 hK hP (mMain g) rfl 32 (by decide) (hts _ q708) (v := .ref (g.1 0 32)) rfl dX8_areTwo_13 ?_
      refine lv_aload_n hx hb dX8_areTwo_16 rfl (lv_at hl 1 rfl) ?_
      refine gO (T := TX8) C0 inA8 hK hP (mMain g) rfl 13 (by decide) (hts _ q689) (v := .ref (g.1 0 13)) rfl dX8_areTwo_17 ?_
      refine lv_iload hx hb dX8_areTwo_20 (lv_at hl 0 rfl) ?_
      refine gI C0 hK hP (mTOne g) (vp_in_nI (by omega) (by decide)) dX8_areTwo_22 ?_
      rw [nI_clamp (n := zi1) (by omega)]
      refine gI C0 hK hP (mGroup g) (htk _ (by omega)).1 dX8_areTwo_23 ?_
      refine lv_istore (lv' := [(6, .int (S.1 0 32 (Int32.toNatClampNeg (S.1 0 13 zi1)))), (5, .int (nI zi1)), (0, .ref (g.1 0 0)), (1, .int p1), (2, .int p2), (3, .int p3), (4, .int zx3)]) hx hb dX8_areTwo_24 hl (by decide) rfl (fun ls hl => ?_)
      refine lv_aload_n hx hb dX8_areTwo_26 rfl (lv_at hl 2 rfl) ?_
      refine gO (T := TX8) C0 inA8 hK hP (mMain g) rfl 32 (by decide) (hts _ q708) (v := .ref (g.1 0 32)) rfl dX8_areTwo_27 ?_
      refine lv_aload_n hx hb dX8_areTwo_30 rfl (lv_at hl 2 rfl) ?_
      refine gO (T := TX8) C0 inA8 hK hP (mMain g) rfl 14 (by decide) (hts _ q690) (v := .ref (g.1 0 14)) rfl dX8_areTwo_31 ?_
      refine lv_iload hx hb dX8_areTwo_34 (lv_at hl 1 rfl) ?_
      refine gI C0 hK hP (mTTwo g) (vp_in_nI (by omega) (by decide)) dX8_areTwo_36 ?_
      rw [nI_clamp (n := zi1) (by omega)]
      refine gI C0 hK hP (mGroup g) (htk _ (by omega)).2 dX8_areTwo_37 ?_
      refine lv_istore (lv' := [(7, .int (S.1 0 32 (Int32.toNatClampNeg (S.1 0 14 zi1)))), (6, .int (S.1 0 32 (Int32.toNatClampNeg (S.1 0 13 zi1)))), (5, .int (nI zi1)), (0, .ref (g.1 0 0)), (1, .int p1), (2, .int p2), (3, .int p3), (4, .int zx3)]) hx hb dX8_areTwo_38 hl (by decide) rfl (fun ls hl => ?_)
      refine lv_iload hx hb dX8_areTwo_40 (lv_at hl 1 rfl) ?_
      refine lv_iload_n hx hb dX8_areTwo_42 rfl (lv_at hl 4 rfl) ?_
      refine lv_icmp_ne (tgt := 52) hx hb dX8_areTwo_43 (by decide) (fun zc6 => ?_) (fun zc6 => ?_)
      · have hf := hf.trans (if_neg zc6)
        refine lv_iload hx hb dX8_areTwo_52 (lv_at hl 1 rfl) ?_
        refine lv_iload_n hx hb dX8_areTwo_54 rfl (lv_at hl 5 rfl) ?_
        refine lv_icmp_ne (tgt := 68) hx hb dX8_areTwo_55 (by decide) (fun zc7 => ?_) (fun zc7 => ?_)
        · have hf := hf.trans (if_neg zc7)
          refine lv_iconst (v := 0) hx hb dX8_areTwo_68 (by decide) ?_
          refine lv_istore (lv' := [(8, .int 0), (7, .int (S.1 0 32 (Int32.toNatClampNeg (S.1 0 14 zi1)))), (6, .int (S.1 0 32 (Int32.toNatClampNeg (S.1 0 13 zi1)))), (5, .int (nI zi1)), (0, .ref (g.1 0 0)), (1, .int p1), (2, .int p2), (3, .int p3), (4, .int zx3)]) hx hb dX8_areTwo_69 hl (by decide) rfl (fun ls hl => ?_)
          refine lv_iload hx hb dX8_areTwo_71 (lv_at hl 8 rfl) ?_
          refine lv_if_ne (tgt := 103) hx hb dX8_areTwo_73 (by decide) (fun zc8 => ?_) (fun zc8 => ?_)
          · have hf := hf.trans (if_neg zc8)
            refine lv_iconst (v := 1) hx hb dX8_areTwo_103 (by decide) ?_
            refine lv_goto (tgt := 108) hx hb dX8_areTwo_104 (by decide) ?_
            refine lv_istore (lv' := [(4, .int 1), (8, .int 0), (7, .int (S.1 0 32 (Int32.toNatClampNeg (S.1 0 14 zi1)))), (6, .int (S.1 0 32 (Int32.toNatClampNeg (S.1 0 13 zi1)))), (5, .int (nI zi1)), (0, .ref (g.1 0 0)), (1, .int p1), (2, .int p2), (3, .int p3)]) hx hb dX8_areTwo_108 hl (by decide) rfl (fun ls hl => ?_)
            refine lv_iinc (v := (nI (zi1 + 1))) (lv' := [(5, .int (nI (zi1 + 1))), (4, .int 1), (8, .int 0), (7, .int (S.1 0 32 (Int32.toNatClampNeg (S.1 0 14 zi1)))), (6, .int (S.1 0 32 (Int32.toNatClampNeg (S.1 0 13 zi1)))), (0, .ref (g.1 0 0)), (1, .int p1), (2, .int p2), (3, .int p3)]) hx hb dX8_areTwo_110 hl (k := 4) rfl (nI_1 _) (by decide) rfl (fun ls hl => ?_)
            refine lv_goto (tgt := 6) hx hb dX8_areTwo_113 (by decide) ?_
            exact ih6 (zi1 + 1) 1 _ _ (by omega) (by first | exact Or.inl rfl | exact Or.inr rfl) hf hP hS ls (lv_sub hl [0, 5, 6, 7, 8, 1] rfl)
          · have hf := hf.trans (if_pos zc8)
            refine lv_iload hx hb dX8_areTwo_76 (lv_at hl 0 rfl) ?_
            refine lv_if_eq (tgt := 107) hx hb dX8_areTwo_78 (by decide) (fun zc9 => ?_) (fun zc9 => absurd (by decide) zc9)
            refine lv_iconst (v := 0) hx hb dX8_areTwo_107 (by decide) ?_
            refine lv_istore (lv' := [(4, .int 0), (8, .int 0), (7, .int (S.1 0 32 (Int32.toNatClampNeg (S.1 0 14 zi1)))), (6, .int (S.1 0 32 (Int32.toNatClampNeg (S.1 0 13 zi1)))), (5, .int (nI zi1)), (0, .ref (g.1 0 0)), (1, .int p1), (2, .int p2), (3, .int p3)]) hx hb dX8_areTwo_108 hl (by decide) rfl (fun ls hl => ?_)
            refine lv_iinc (v := (nI (zi1 + 1))) (lv' := [(5, .int (nI (zi1 + 1))), (4, .int 0), (8, .int 0), (7, .int (S.1 0 32 (Int32.toNatClampNeg (S.1 0 14 zi1)))), (6, .int (S.1 0 32 (Int32.toNatClampNeg (S.1 0 13 zi1)))), (0, .ref (g.1 0 0)), (1, .int p1), (2, .int p2), (3, .int p3)]) hx hb dX8_areTwo_110 hl (k := 4) rfl (nI_1 _) (by decide) rfl (fun ls hl => ?_)
            refine lv_goto (tgt := 6) hx hb dX8_areTwo_113 (by decide) ?_
            exact ih6 (zi1 + 1) 0 _ _ (by omega) (by first | exact Or.inl rfl | exact Or.inr rfl) hf hP hS ls (lv_sub hl [0, 5, 6, 7, 8, 1] rfl)
        · have hf := hf.trans (if_pos zc7)
          refine lv_iload hx hb dX8_areTwo_58 (lv_at hl 0 rfl) ?_
          refine lv_iload_n hx hb dX8_areTwo_60 rfl (lv_at hl 4 rfl) ?_
          refine lv_icmp_ne (tgt := 68) hx hb dX8_areTwo_61 (by decide) (fun zc10 => ?_) (fun zc10 => ?_)
          · have hf := hf.trans (if_neg zc10)
            refine lv_iconst (v := 0) hx hb dX8_areTwo_68 (by decide) ?_
            refine lv_istore (lv' := [(8, .int 0), (7, .int (S.1 0 32 (Int32.toNatClampNeg (S.1 0 14 zi1)))), (6, .int (S.1 0 32 (Int32.toNatClampNeg (S.1 0 13 zi1)))), (5, .int (nI zi1)), (0, .ref (g.1 0 0)), (1, .int p1), (2, .int p2), (3, .int p3), (4, .int zx3)]) hx hb dX8_areTwo_69 hl (by decide) rfl (fun ls hl => ?_)
            refine lv_iload hx hb dX8_areTwo_71 (lv_at hl 8 rfl) ?_
            refine lv_if_ne (tgt := 103) hx hb dX8_areTwo_73 (by decide) (fun zc11 => ?_) (fun zc11 => ?_)
            · have hf := hf.trans (if_neg zc11)
              refine lv_iconst (v := 1) hx hb dX8_areTwo_103 (by decide) ?_
              refine lv_goto (tgt := 108) hx hb dX8_areTwo_104 (by decide) ?_
              refine lv_istore (lv' := [(4, .int 1), (8, .int 0), (7, .int (S.1 0 32 (Int32.toNatClampNeg (S.1 0 14 zi1)))), (6, .int (S.1 0 32 (Int32.toNatClampNeg (S.1 0 13 zi1)))), (5, .int (nI zi1)), (0, .ref (g.1 0 0)), (1, .int p1), (2, .int p2), (3, .int p3)]) hx hb dX8_areTwo_108 hl (by decide) rfl (fun ls hl => ?_)
              refine lv_iinc (v := (nI (zi1 + 1))) (lv' := [(5, .int (nI (zi1 + 1))), (4, .int 1), (8, .int 0), (7, .int (S.1 0 32 (Int32.toNatClampNeg (S.1 0 14 zi1)))), (6, .int (S.1 0 32 (Int32.toNatClampNeg (S.1 0 13 zi1)))), (0, .ref (g.1 0 0)), (1, .int p1), (2, .int p2), (3, .int p3)]) hx hb dX8_areTwo_110 hl (k := 4) rfl (nI_1 _) (by decide) rfl (fun ls hl => ?_)
              refine lv_goto (tgt := 6) hx hb dX8_areTwo_113 (by decide) ?_
              exact ih6 (zi1 + 1) 1 _ _ (by omega) (by first | exact Or.inl rfl | exact Or.inr rfl) hf hP hS ls (lv_sub hl [0, 5, 6, 7, 8, 1] rfl)
            · have hf := hf.trans (if_pos zc11)
              refine lv_iload hx hb dX8_areTwo_76 (lv_at hl 0 rfl) ?_
              refine lv_if_eq (tgt := 107) hx hb dX8_areTwo_78 (by decide) (fun zc12 => ?_) (fun zc12 => absurd (by decide) zc12)
              refine lv_iconst (v := 0) hx hb dX8_areTwo_107 (by decide) ?_
              refine lv_istore (lv' := [(4, .int 0), (8, .int 0), (7, .int (S.1 0 32 (Int32.toNatClampNeg (S.1 0 14 zi1)))), (6, .int (S.1 0 32 (Int32.toNatClampNeg (S.1 0 13 zi1)))), (5, .int (nI zi1)), (0, .ref (g.1 0 0)), (1, .int p1), (2, .int p2), (3, .int p3)]) hx hb dX8_areTwo_108 hl (by decide) rfl (fun ls hl => ?_)
              refine lv_iinc (v := (nI (zi1 + 1))) (lv' := [(5, .int (nI (zi1 + 1))), (4, .int 0), (8, .int 0), (7, .int (S.1 0 32 (Int32.toNatClampNeg (S.1 0 14 zi1)))), (6, .int (S.1 0 32 (Int32.toNatClampNeg (S.1 0 13 zi1)))), (0, .ref (g.1 0 0)), (1, .int p1), (2, .int p2), (3, .int p3)]) hx hb dX8_areTwo_110 hl (k := 4) rfl (nI_1 _) (by decide) rfl (fun ls hl => ?_)
              refine lv_goto (tgt := 6) hx hb dX8_areTwo_113 (by decide) ?_
              exact ih6 (zi1 + 1) 0 _ _ (by omega) (by first | exact Or.inl rfl | exact Or.inr rfl) hf hP hS ls (lv_sub hl [0, 5, 6, 7, 8, 1] rfl)
          · have hf := hf.trans (if_pos zc10)
            refine lv_iconst (v := 1) hx hb dX8_areTwo_64 (by decide) ?_
            refine lv_goto (tgt := 69) hx hb dX8_areTwo_65 (by decide) ?_
            refine lv_istore (lv' := [(8, .int 1), (7, .int (S.1 0 32 (Int32.toNatClampNeg (S.1 0 14 zi1)))), (6, .int (S.1 0 32 (Int32.toNatClampNeg (S.1 0 13 zi1)))), (5, .int (nI zi1)), (0, .ref (g.1 0 0)), (1, .int p1), (2, .int p2), (3, .int p3), (4, .int zx3)]) hx hb dX8_areTwo_69 hl (by decide) rfl (fun ls hl => ?_)
            refine lv_iload hx hb dX8_areTwo_71 (lv_at hl 8 rfl) ?_
            refine lv_if_ne (tgt := 103) hx hb dX8_areTwo_73 (by decide) (fun zc13 => ?_) (fun zc13 => ?_)
            · have hf := hf.trans (if_neg zc13)
              refine lv_iconst (v := 1) hx hb dX8_areTwo_103 (by decide) ?_
              refine lv_goto (tgt := 108) hx hb dX8_areTwo_104 (by decide) ?_
              refine lv_istore (lv' := [(4, .int 1), (8, .int 1), (7, .int (S.1 0 32 (Int32.toNatClampNeg (S.1 0 14 zi1)))), (6, .int (S.1 0 32 (Int32.toNatClampNeg (S.1 0 13 zi1)))), (5, .int (nI zi1)), (0, .ref (g.1 0 0)), (1, .int p1), (2, .int p2), (3, .int p3)]) hx hb dX8_areTwo_108 hl (by decide) rfl (fun ls hl => ?_)
              refine lv_iinc (v := (nI (zi1 + 1))) (lv' := [(5, .int (nI (zi1 + 1))), (4, .int 1), (8, .int 1), (7, .int (S.1 0 32 (Int32.toNatClampNeg (S.1 0 14 zi1)))), (6, .int (S.1 0 32 (Int32.toNatClampNeg (S.1 0 13 zi1)))), (0, .ref (g.1 0 0)), (1, .int p1), (2, .int p2), (3, .int p3)]) hx hb dX8_areTwo_110 hl (k := 4) rfl (nI_1 _) (by decide) rfl (fun ls hl => ?_)
              refine lv_goto (tgt := 6) hx hb dX8_areTwo_113 (by decide) ?_
              exact ih6 (zi1 + 1) 1 _ _ (by omega) (by first | exact Or.inl rfl | exact Or.inr rfl) hf hP hS ls (lv_sub hl [0, 5, 6, 7, 8, 1] rfl)
            · have hf := hf.trans (if_pos zc13)
              refine lv_iload hx hb dX8_areTwo_76 (lv_at hl 0 rfl) ?_
              refine lv_if_eq (tgt := 107) hx hb dX8_areTwo_78 (by decide) (fun zc14 => absurd zc14 (by decide)) (fun zc14 => ?_)
              refine lv_aload_n hx hb dX8_areTwo_81 rfl (lv_at hl 4 rfl) ?_
              refine gO (T := TX8) C0 inA8 hK hP (mMain g) rfl 15 (by decide) (hts _ q691) (v := .ref (g.1 0 15)) rfl dX8_areTwo_82 ?_
              refine lv_iload hx hb dX8_areTwo_85 (lv_at hl 3 rfl) ?_
              refine gI C0 hK hP (mTSame g) (vp_in_nI (by omega) (by decide)) dX8_areTwo_87 ?_
              rw [nI_clamp (n := zi1) (by omega)]
              refine lv_if_ne (tgt := 107) hx hb dX8_areTwo_88 (by decide) (fun zc15 => ?_) (fun zc15 => ?_)
              · have hf := hf.trans (if_neg zc15)
                refine lv_iconst (v := 0) hx hb dX8_areTwo_107 (by decide) ?_
                refine lv_istore (lv' := [(4, .int 0), (8, .int 1), (7, .int (S.1 0 32 (Int32.toNatClampNeg (S.1 0 14 zi1)))), (6, .int (S.1 0 32 (Int32.toNatClampNeg (S.1 0 13 zi1)))), (5, .int (nI zi1)), (0, .ref (g.1 0 0)), (1, .int p1), (2, .int p2), (3, .int p3)]) hx hb dX8_areTwo_108 hl (by decide) rfl (fun ls hl => ?_)
                refine lv_iinc (v := (nI (zi1 + 1))) (lv' := [(5, .int (nI (zi1 + 1))), (4, .int 0), (8, .int 1), (7, .int (S.1 0 32 (Int32.toNatClampNeg (S.1 0 14 zi1)))), (6, .int (S.1 0 32 (Int32.toNatClampNeg (S.1 0 13 zi1)))), (0, .ref (g.1 0 0)), (1, .int p1), (2, .int p2), (3, .int p3)]) hx hb dX8_areTwo_110 hl (k := 4) rfl (nI_1 _) (by decide) rfl (fun ls hl => ?_)
                refine lv_goto (tgt := 6) hx hb dX8_areTwo_113 (by decide) ?_
                exact ih6 (zi1 + 1) 0 _ _ (by omega) (by first | exact Or.inl rfl | exact Or.inr rfl) hf hP hS ls (lv_sub hl [0, 5, 6, 7, 8, 1] rfl)
              · have hf := hf.trans (if_pos zc15)
                refine lv_aload_n hx hb dX8_areTwo_91 rfl (lv_at hl 4 rfl) ?_
                refine gO (T := TX8) C0 inA8 hK hP (mMain g) rfl 33 (by decide) (hts _ q709) (v := .int (S.1 0 0 33)) rfl dX8_areTwo_92 ?_
                refine lv_iload hx hb dX8_areTwo_95 (lv_at hl 3 rfl) ?_
                refine kishr hx hb dX8_areTwo_97 ?_
                refine lv_iconst (v := 1) hx hb dX8_areTwo_98 (by decide) ?_
                refine lv_iand hx hb dX8_areTwo_99 ?_
                refine lv_if_ne (tgt := 107) hx hb dX8_areTwo_100 (by decide) (fun zc16 => ?_) (fun zc16 => ?_)
                · have hf := hf.trans (if_neg zc16)
                  refine lv_iconst (v := 0) hx hb dX8_areTwo_107 (by decide) ?_
                  refine lv_istore (lv' := [(4, .int 0), (8, .int 1), (7, .int (S.1 0 32 (Int32.toNatClampNeg (S.1 0 14 zi1)))), (6, .int (S.1 0 32 (Int32.toNatClampNeg (S.1 0 13 zi1)))), (5, .int (nI zi1)), (0, .ref (g.1 0 0)), (1, .int p1), (2, .int p2), (3, .int p3)]) hx hb dX8_areTwo_108 hl (by decide) rfl (fun ls hl => ?_)
                  refine lv_iinc (v := (nI (zi1 + 1))) (lv' := [(5, .int (nI (zi1 + 1))), (4, .int 0), (8, .int 1), (7, .int (S.1 0 32 (Int32.toNatClampNeg (S.1 0 14 zi1)))), (6, .int (S.1 0 32 (Int32.toNatClampNeg (S.1 0 13 zi1)))), (0, .ref (g.1 0 0)), (1, .int p1), (2, .int p2), (3, .int p3)]) hx hb dX8_areTwo_110 hl (k := 4) rfl (nI_1 _) (by decide) rfl (fun ls hl => ?_)
                  refine lv_goto (tgt := 6) hx hb dX8_areTwo_113 (by decide) ?_
                  exact ih6 (zi1 + 1) 0 _ _ (by omega) (by first | exact Or.inl rfl | exact Or.inr rfl) hf hP hS ls (lv_sub hl [0, 5, 6, 7, 8, 1] rfl)
                · have hf := hf.trans (if_pos zc16)
                  refine lv_iconst (v := 1) hx hb dX8_areTwo_103 (by decide) ?_
                  refine lv_goto (tgt := 108) hx hb dX8_areTwo_104 (by decide) ?_
                  refine lv_istore (lv' := [(4, .int 1), (8, .int 1), (7, .int (S.1 0 32 (Int32.toNatClampNeg (S.1 0 14 zi1)))), (6, .int (S.1 0 32 (Int32.toNatClampNeg (S.1 0 13 zi1)))), (5, .int (nI zi1)), (0, .ref (g.1 0 0)), (1, .int p1), (2, .int p2), (3, .int p3)]) hx hb dX8_areTwo_108 hl (by decide) rfl (fun ls hl => ?_)
                  refine lv_iinc (v := (nI (zi1 + 1))) (lv' := [(5, .int (nI (zi1 + 1))), (4, .int 1), (8, .int 1), (7, .int (S.1 0 32 (Int32.toNatClampNeg (S.1 0 14 zi1)))), (6, .int (S.1 0 32 (Int32.toNatClampNeg (S.1 0 13 zi1)))), (0, .ref (g.1 0 0)), (1, .int p1), (2, .int p2), (3, .int p3)]) hx hb dX8_areTwo_110 hl (k := 4) rfl (nI_1 _) (by decide) rfl (fun ls hl => ?_)
                  refine lv_goto (tgt := 6) hx hb dX8_areTwo_113 (by decide) ?_
                  exact ih6 (zi1 + 1) 1 _ _ (by omega) (by first | exact Or.inl rfl | exact Or.inr rfl) hf hP hS ls (lv_sub hl [0, 5, 6, 7, 8, 1] rfl)
      · have hf := hf.trans (if_pos zc6)
        refine lv_iload hx hb dX8_areTwo_46 (lv_at hl 0 rfl) ?_
        refine lv_iload_n hx hb dX8_areTwo_48 rfl (lv_at hl 5 rfl) ?_
        refine lv_icmp_eq (tgt := 64) hx hb dX8_areTwo_49 (by decide) (fun zc17 => ?_) (fun zc17 => ?_)
        · have hf := hf.trans (if_pos zc17)
          refine lv_iconst (v := 1) hx hb dX8_areTwo_64 (by decide) ?_
          refine lv_goto (tgt := 69) hx hb dX8_areTwo_65 (by decide) ?_
          refine lv_istore (lv' := [(8, .int 1), (7, .int (S.1 0 32 (Int32.toNatClampNeg (S.1 0 14 zi1)))), (6, .int (S.1 0 32 (Int32.toNatClampNeg (S.1 0 13 zi1)))), (5, .int (nI zi1)), (0, .ref (g.1 0 0)), (1, .int p1), (2, .int p2), (3, .int p3), (4, .int zx3)]) hx hb dX8_areTwo_69 hl (by decide) rfl (fun ls hl => ?_)
          refine lv_iload hx hb dX8_areTwo_71 (lv_at hl 8 rfl) ?_
          refine lv_if_ne (tgt := 103) hx hb dX8_areTwo_73 (by decide) (fun zc18 => ?_) (fun zc18 => ?_)
          · have hf := hf.trans (if_neg zc18)
            refine lv_iconst (v := 1) hx hb dX8_areTwo_103 (by decide) ?_
            refine lv_goto (tgt := 108) hx hb dX8_areTwo_104 (by decide) ?_
            refine lv_istore (lv' := [(4, .int 1), (8, .int 1), (7, .int (S.1 0 32 (Int32.toNatClampNeg (S.1 0 14 zi1)))), (6, .int (S.1 0 32 (Int32.toNatClampNeg (S.1 0 13 zi1)))), (5, .int (nI zi1)), (0, .ref (g.1 0 0)), (1, .int p1), (2, .int p2), (3, .int p3)]) hx hb dX8_areTwo_108 hl (by decide) rfl (fun ls hl => ?_)
            refine lv_iinc (v := (nI (zi1 + 1))) (lv' := [(5, .int (nI (zi1 + 1))), (4, .int 1), (8, .int 1), (7, .int (S.1 0 32 (Int32.toNatClampNeg (S.1 0 14 zi1)))), (6, .int (S.1 0 32 (Int32.toNatClampNeg (S.1 0 13 zi1)))), (0, .ref (g.1 0 0)), (1, .int p1), (2, .int p2), (3, .int p3)]) hx hb dX8_areTwo_110 hl (k := 4) rfl (nI_1 _) (by decide) rfl (fun ls hl => ?_)
            refine lv_goto (tgt := 6) hx hb dX8_areTwo_113 (by decide) ?_
            exact ih6 (zi1 + 1) 1 _ _ (by omega) (by first | exact Or.inl rfl | exact Or.inr rfl) hf hP hS ls (lv_sub hl [0, 5, 6, 7, 8, 1] rfl)
          · have hf := hf.trans (if_pos zc18)
            refine lv_iload hx hb dX8_areTwo_76 (lv_at hl 0 rfl) ?_
            refine lv_if_eq (tgt := 107) hx hb dX8_areTwo_78 (by decide) (fun zc19 => absurd zc19 (by decide)) (fun zc19 => ?_)
            refine lv_aload_n hx hb dX8_areTwo_81 rfl (lv_at hl 4 rfl) ?_
            refine gO (T := TX8) C0 inA8 hK hP (mMain g) rfl 15 (by decide) (hts _ q691) (v := .ref (g.1 0 15)) rfl dX8_areTwo_82 ?_
            refine lv_iload hx hb dX8_areTwo_85 (lv_at hl 3 rfl) ?_
            refine gI C0 hK hP (mTSame g) (vp_in_nI (by omega) (by decide)) dX8_areTwo_87 ?_
            rw [nI_clamp (n := zi1) (by omega)]
            refine lv_if_ne (tgt := 107) hx hb dX8_areTwo_88 (by decide) (fun zc20 => ?_) (fun zc20 => ?_)
            · have hf := hf.trans (if_neg zc20)
              refine lv_iconst (v := 0) hx hb dX8_areTwo_107 (by decide) ?_
              refine lv_istore (lv' := [(4, .int 0), (8, .int 1), (7, .int (S.1 0 32 (Int32.toNatClampNeg (S.1 0 14 zi1)))), (6, .int (S.1 0 32 (Int32.toNatClampNeg (S.1 0 13 zi1)))), (5, .int (nI zi1)), (0, .ref (g.1 0 0)), (1, .int p1), (2, .int p2), (3, .int p3)]) hx hb dX8_areTwo_108 hl (by decide) rfl (fun ls hl => ?_)
              refine lv_iinc (v := (nI (zi1 + 1))) (lv' := [(5, .int (nI (zi1 + 1))), (4, .int 0), (8, .int 1), (7, .int (S.1 0 32 (Int32.toNatClampNeg (S.1 0 14 zi1)))), (6, .int (S.1 0 32 (Int32.toNatClampNeg (S.1 0 13 zi1)))), (0, .ref (g.1 0 0)), (1, .int p1), (2, .int p2), (3, .int p3)]) hx hb dX8_areTwo_110 hl (k := 4) rfl (nI_1 _) (by decide) rfl (fun ls hl => ?_)
              refine lv_goto (tgt := 6) hx hb dX8_areTwo_113 (by decide) ?_
              exact ih6 (zi1 + 1) 0 _ _ (by omega) (by first | exact Or.inl rfl | exact Or.inr rfl) hf hP hS ls (lv_sub hl [0, 5, 6, 7, 8, 1] rfl)
            · have hf := hf.trans (if_pos zc20)
              refine lv_aload_n hx hb dX8_areTwo_91 rfl (lv_at hl 4 rfl) ?_
              refine gO (T := TX8) C0 inA8 hK hP (mMain g) rfl 33 (by decide) (hts _ q709) (v := .int (S.1 0 0 33)) rfl dX8_areTwo_92 ?_
              refine lv_iload hx hb dX8_areTwo_95 (lv_at hl 3 rfl) ?_
              refine kishr hx hb dX8_areTwo_97 ?_
              refine lv_iconst (v := 1) hx hb dX8_areTwo_98 (by decide) ?_
              refine lv_iand hx hb dX8_areTwo_99 ?_
              refine lv_if_ne (tgt := 107) hx hb dX8_areTwo_100 (by decide) (fun zc21 => ?_) (fun zc21 => ?_)
              · have hf := hf.trans (if_neg zc21)
                refine lv_iconst (v := 0) hx hb dX8_areTwo_107 (by decide) ?_
                refine lv_istore (lv' := [(4, .int 0), (8, .int 1), (7, .int (S.1 0 32 (Int32.toNatClampNeg (S.1 0 14 zi1)))), (6, .int (S.1 0 32 (Int32.toNatClampNeg (S.1 0 13 zi1)))), (5, .int (nI zi1)), (0, .ref (g.1 0 0)), (1, .int p1), (2, .int p2), (3, .int p3)]) hx hb dX8_areTwo_108 hl (by decide) rfl (fun ls hl => ?_)
                refine lv_iinc (v := (nI (zi1 + 1))) (lv' := [(5, .int (nI (zi1 + 1))), (4, .int 0), (8, .int 1), (7, .int (S.1 0 32 (Int32.toNatClampNeg (S.1 0 14 zi1)))), (6, .int (S.1 0 32 (Int32.toNatClampNeg (S.1 0 13 zi1)))), (0, .ref (g.1 0 0)), (1, .int p1), (2, .int p2), (3, .int p3)]) hx hb dX8_areTwo_110 hl (k := 4) rfl (nI_1 _) (by decide) rfl (fun ls hl => ?_)
                refine lv_goto (tgt := 6) hx hb dX8_areTwo_113 (by decide) ?_
                exact ih6 (zi1 + 1) 0 _ _ (by omega) (by first | exact Or.inl rfl | exact Or.inr rfl) hf hP hS ls (lv_sub hl [0, 5, 6, 7, 8, 1] rfl)
              · have hf := hf.trans (if_pos zc21)
                refine lv_iconst (v := 1) hx hb dX8_areTwo_103 (by decide) ?_
                refine lv_goto (tgt := 108) hx hb dX8_areTwo_104 (by decide) ?_
                refine lv_istore (lv' := [(4, .int 1), (8, .int 1), (7, .int (S.1 0 32 (Int32.toNatClampNeg (S.1 0 14 zi1)))), (6, .int (S.1 0 32 (Int32.toNatClampNeg (S.1 0 13 zi1)))), (5, .int (nI zi1)), (0, .ref (g.1 0 0)), (1, .int p1), (2, .int p2), (3, .int p3)]) hx hb dX8_areTwo_108 hl (by decide) rfl (fun ls hl => ?_)
                refine lv_iinc (v := (nI (zi1 + 1))) (lv' := [(5, .int (nI (zi1 + 1))), (4, .int 1), (8, .int 1), (7, .int (S.1 0 32 (Int32.toNatClampNeg (S.1 0 14 zi1)))), (6, .int (S.1 0 32 (Int32.toNatClampNeg (S.1 0 13 zi1)))), (0, .ref (g.1 0 0)), (1, .int p1), (2, .int p2), (3, .int p3)]) hx hb dX8_areTwo_110 hl (k := 4) rfl (nI_1 _) (by decide) rfl (fun ls hl => ?_)
                refine lv_goto (tgt := 6) hx hb dX8_areTwo_113 (by decide) ?_
                exact ih6 (zi1 + 1) 1 _ _ (by omega) (by first | exact Or.inl rfl | exact Or.inr rfl) hf hP hS ls (lv_sub hl [0, 5, 6, 7, 8, 1] rfl)
        · have hf := hf.trans (if_neg zc17)
          refine lv_iload hx hb dX8_areTwo_52 (lv_at hl 1 rfl) ?_
          refine lv_iload_n hx hb dX8_areTwo_54 rfl (lv_at hl 5 rfl) ?_
          refine lv_icmp_ne (tgt := 68) hx hb dX8_areTwo_55 (by decide) (fun zc22 => ?_) (fun zc22 => ?_)
          · have hf := hf.trans (if_neg zc22)
            refine lv_iconst (v := 0) hx hb dX8_areTwo_68 (by decide) ?_
            refine lv_istore (lv' := [(8, .int 0), (7, .int (S.1 0 32 (Int32.toNatClampNeg (S.1 0 14 zi1)))), (6, .int (S.1 0 32 (Int32.toNatClampNeg (S.1 0 13 zi1)))), (5, .int (nI zi1)), (0, .ref (g.1 0 0)), (1, .int p1), (2, .int p2), (3, .int p3), (4, .int zx3)]) hx hb dX8_areTwo_69 hl (by decide) rfl (fun ls hl => ?_)
            refine lv_iload hx hb dX8_areTwo_71 (lv_at hl 8 rfl) ?_
            refine lv_if_ne (tgt := 103) hx hb dX8_areTwo_73 (by decide) (fun zc23 => ?_) (fun zc23 => ?_)
            · have hf := hf.trans (if_neg zc23)
              refine lv_iconst (v := 1) hx hb dX8_areTwo_103 (by decide) ?_
              refine lv_goto (tgt := 108) hx hb dX8_areTwo_104 (by decide) ?_
              refine lv_istore (lv' := [(4, .int 1), (8, .int 0), (7, .int (S.1 0 32 (Int32.toNatClampNeg (S.1 0 14 zi1)))), (6, .int (S.1 0 32 (Int32.toNatClampNeg (S.1 0 13 zi1)))), (5, .int (nI zi1)), (0, .ref (g.1 0 0)), (1, .int p1), (2, .int p2), (3, .int p3)]) hx hb dX8_areTwo_108 hl (by decide) rfl (fun ls hl => ?_)
              refine lv_iinc (v := (nI (zi1 + 1))) (lv' := [(5, .int (nI (zi1 + 1))), (4, .int 1), (8, .int 0), (7, .int (S.1 0 32 (Int32.toNatClampNeg (S.1 0 14 zi1)))), (6, .int (S.1 0 32 (Int32.toNatClampNeg (S.1 0 13 zi1)))), (0, .ref (g.1 0 0)), (1, .int p1), (2, .int p2), (3, .int p3)]) hx hb dX8_areTwo_110 hl (k := 4) rfl (nI_1 _) (by decide) rfl (fun ls hl => ?_)
              refine lv_goto (tgt := 6) hx hb dX8_areTwo_113 (by decide) ?_
              exact ih6 (zi1 + 1) 1 _ _ (by omega) (by first | exact Or.inl rfl | exact Or.inr rfl) hf hP hS ls (lv_sub hl [0, 5, 6, 7, 8, 1] rfl)
            · have hf := hf.trans (if_pos zc23)
              refine lv_iload hx hb dX8_areTwo_76 (lv_at hl 0 rfl) ?_
              refine lv_if_eq (tgt := 107) hx hb dX8_areTwo_78 (by decide) (fun zc24 => ?_) (fun zc24 => absurd (by decide) zc24)
              refine lv_iconst (v := 0) hx hb dX8_areTwo_107 (by decide) ?_
              refine lv_istore (lv' := [(4, .int 0), (8, .int 0), (7, .int (S.1 0 32 (Int32.toNatClampNeg (S.1 0 14 zi1)))), (6, .int (S.1 0 32 (Int32.toNatClampNeg (S.1 0 13 zi1)))), (5, .int (nI zi1)), (0, .ref (g.1 0 0)), (1, .int p1), (2, .int p2), (3, .int p3)]) hx hb dX8_areTwo_108 hl (by decide) rfl (fun ls hl => ?_)
              refine lv_iinc (v := (nI (zi1 + 1))) (lv' := [(5, .int (nI (zi1 + 1))), (4, .int 0), (8, .int 0), (7, .int (S.1 0 32 (Int32.toNatClampNeg (S.1 0 14 zi1)))), (6, .int (S.1 0 32 (Int32.toNatClampNeg (S.1 0 13 zi1)))), (0, .ref (g.1 0 0)), (1, .int p1), (2, .int p2), (3, .int p3)]) hx hb dX8_areTwo_110 hl (k := 4) rfl (nI_1 _) (by decide) rfl (fun ls hl => ?_)
              refine lv_goto (tgt := 6) hx hb dX8_areTwo_113 (by decide) ?_
              exact ih6 (zi1 + 1) 0 _ _ (by omega) (by first | exact Or.inl rfl | exact Or.inr rfl) hf hP hS ls (lv_sub hl [0, 5, 6, 7, 8, 1] rfl)
          · have hf := hf.trans (if_pos zc22)
            refine lv_iload hx hb dX8_areTwo_58 (lv_at hl 0 rfl) ?_
            refine lv_iload_n hx hb dX8_areTwo_60 rfl (lv_at hl 4 rfl) ?_
            refine lv_icmp_ne (tgt := 68) hx hb dX8_areTwo_61 (by decide) (fun zc25 => ?_) (fun zc25 => ?_)
            · have hf := hf.trans (if_neg zc25)
              refine lv_iconst (v := 0) hx hb dX8_areTwo_68 (by decide) ?_
              refine lv_istore (lv' := [(8, .int 0), (7, .int (S.1 0 32 (Int32.toNatClampNeg (S.1 0 14 zi1)))), (6, .int (S.1 0 32 (Int32.toNatClampNeg (S.1 0 13 zi1)))), (5, .int (nI zi1)), (0, .ref (g.1 0 0)), (1, .int p1), (2, .int p2), (3, .int p3), (4, .int zx3)]) hx hb dX8_areTwo_69 hl (by decide) rfl (fun ls hl => ?_)
              refine lv_iload hx hb dX8_areTwo_71 (lv_at hl 8 rfl) ?_
              refine lv_if_ne (tgt := 103) hx hb dX8_areTwo_73 (by decide) (fun zc26 => ?_) (fun zc26 => ?_)
              · have hf := hf.trans (if_neg zc26)
                refine lv_iconst (v := 1) hx hb dX8_areTwo_103 (by decide) ?_
                refine lv_goto (tgt := 108) hx hb dX8_areTwo_104 (by decide) ?_
                refine lv_istore (lv' := [(4, .int 1), (8, .int 0), (7, .int (S.1 0 32 (Int32.toNatClampNeg (S.1 0 14 zi1)))), (6, .int (S.1 0 32 (Int32.toNatClampNeg (S.1 0 13 zi1)))), (5, .int (nI zi1)), (0, .ref (g.1 0 0)), (1, .int p1), (2, .int p2), (3, .int p3)]) hx hb dX8_areTwo_108 hl (by decide) rfl (fun ls hl => ?_)
                refine lv_iinc (v := (nI (zi1 + 1))) (lv' := [(5, .int (nI (zi1 + 1))), (4, .int 1), (8, .int 0), (7, .int (S.1 0 32 (Int32.toNatClampNeg (S.1 0 14 zi1)))), (6, .int (S.1 0 32 (Int32.toNatClampNeg (S.1 0 13 zi1)))), (0, .ref (g.1 0 0)), (1, .int p1), (2, .int p2), (3, .int p3)]) hx hb dX8_areTwo_110 hl (k := 4) rfl (nI_1 _) (by decide) rfl (fun ls hl => ?_)
                refine lv_goto (tgt := 6) hx hb dX8_areTwo_113 (by decide) ?_
                exact ih6 (zi1 + 1) 1 _ _ (by omega) (by first | exact Or.inl rfl | exact Or.inr rfl) hf hP hS ls (lv_sub hl [0, 5, 6, 7, 8, 1] rfl)
              · have hf := hf.trans (if_pos zc26)
                refine lv_iload hx hb dX8_areTwo_76 (lv_at hl 0 rfl) ?_
                refine lv_if_eq (tgt := 107) hx hb dX8_areTwo_78 (by decide) (fun zc27 => ?_) (fun zc27 => absurd (by decide) zc27)
                refine lv_iconst (v := 0) hx hb dX8_areTwo_107 (by decide) ?_
                refine lv_istore (lv' := [(4, .int 0), (8, .int 0), (7, .int (S.1 0 32 (Int32.toNatClampNeg (S.1 0 14 zi1)))), (6, .int (S.1 0 32 (Int32.toNatClampNeg (S.1 0 13 zi1)))), (5, .int (nI zi1)), (0, .ref (g.1 0 0)), (1, .int p1), (2, .int p2), (3, .int p3)]) hx hb dX8_areTwo_108 hl (by decide) rfl (fun ls hl => ?_)
                refine lv_iinc (v := (nI (zi1 + 1))) (lv' := [(5, .int (nI (zi1 + 1))), (4, .int 0), (8, .int 0), (7, .int (S.1 0 32 (Int32.toNatClampNeg (S.1 0 14 zi1)))), (6, .int (S.1 0 32 (Int32.toNatClampNeg (S.1 0 13 zi1)))), (0, .ref (g.1 0 0)), (1, .int p1), (2, .int p2), (3, .int p3)]) hx hb dX8_areTwo_110 hl (k := 4) rfl (nI_1 _) (by decide) rfl (fun ls hl => ?_)
                refine lv_goto (tgt := 6) hx hb dX8_areTwo_113 (by decide) ?_
                exact ih6 (zi1 + 1) 0 _ _ (by omega) (by first | exact Or.inl rfl | exact Or.inr rfl) hf hP hS ls (lv_sub hl [0, 5, 6, 7, 8, 1] rfl)
            · have hf := hf.trans (if_pos zc25)
              refine lv_iconst (v := 1) hx hb dX8_areTwo_64 (by decide) ?_
              refine lv_goto (tgt := 69) hx hb dX8_areTwo_65 (by decide) ?_
              refine lv_istore (lv' := [(8, .int 1), (7, .int (S.1 0 32 (Int32.toNatClampNeg (S.1 0 14 zi1)))), (6, .int (S.1 0 32 (Int32.toNatClampNeg (S.1 0 13 zi1)))), (5, .int (nI zi1)), (0, .ref (g.1 0 0)), (1, .int p1), (2, .int p2), (3, .int p3), (4, .int zx3)]) hx hb dX8_areTwo_69 hl (by decide) rfl (fun ls hl => ?_)
              refine lv_iload hx hb dX8_areTwo_71 (lv_at hl 8 rfl) ?_
              refine lv_if_ne (tgt := 103) hx hb dX8_areTwo_73 (by decide) (fun zc28 => ?_) (fun zc28 => ?_)
              · have hf := hf.trans (if_neg zc28)
                refine lv_iconst (v := 1) hx hb dX8_areTwo_103 (by decide) ?_
                refine lv_goto (tgt := 108) hx hb dX8_areTwo_104 (by decide) ?_
                refine lv_istore (lv' := [(4, .int 1), (8, .int 1), (7, .int (S.1 0 32 (Int32.toNatClampNeg (S.1 0 14 zi1)))), (6, .int (S.1 0 32 (Int32.toNatClampNeg (S.1 0 13 zi1)))), (5, .int (nI zi1)), (0, .ref (g.1 0 0)), (1, .int p1), (2, .int p2), (3, .int p3)]) hx hb dX8_areTwo_108 hl (by decide) rfl (fun ls hl => ?_)
                refine lv_iinc (v := (nI (zi1 + 1))) (lv' := [(5, .int (nI (zi1 + 1))), (4, .int 1), (8, .int 1), (7, .int (S.1 0 32 (Int32.toNatClampNeg (S.1 0 14 zi1)))), (6, .int (S.1 0 32 (Int32.toNatClampNeg (S.1 0 13 zi1)))), (0, .ref (g.1 0 0)), (1, .int p1), (2, .int p2), (3, .int p3)]) hx hb dX8_areTwo_110 hl (k := 4) rfl (nI_1 _) (by decide) rfl (fun ls hl => ?_)
                refine lv_goto (tgt := 6) hx hb dX8_areTwo_113 (by decide) ?_
                exact ih6 (zi1 + 1) 1 _ _ (by omega) (by first | exact Or.inl rfl | exact Or.inr rfl) hf hP hS ls (lv_sub hl [0, 5, 6, 7, 8, 1] rfl)
              · have hf := hf.trans (if_pos zc28)
                refine lv_iload hx hb dX8_areTwo_76 (lv_at hl 0 rfl) ?_
                refine lv_if_eq (tgt := 107) hx hb dX8_areTwo_78 (by decide) (fun zc29 => absurd zc29 (by decide)) (fun zc29 => ?_)
                refine lv_aload_n hx hb dX8_areTwo_81 rfl (lv_at hl 4 rfl) ?_
                refine gO (T := TX8) C0 inA8 hK hP (mMain g) rfl 15 (by decide) (hts _ q691) (v := .ref (g.1 0 15)) rfl dX8_areTwo_82 ?_
                refine lv_iload hx hb dX8_areTwo_85 (lv_at hl 3 rfl) ?_
                refine gI C0 hK hP (mTSame g) (vp_in_nI (by omega) (by decide)) dX8_areTwo_87 ?_
                rw [nI_clamp (n := zi1) (by omega)]
                refine lv_if_ne (tgt := 107) hx hb dX8_areTwo_88 (by decide) (fun zc30 => ?_) (fun zc30 => ?_)
                · have hf := hf.trans (if_neg zc30)
                  refine lv_iconst (v := 0) hx hb dX8_areTwo_107 (by decide) ?_
                  refine lv_istore (lv' := [(4, .int 0), (8, .int 1), (7, .int (S.1 0 32 (Int32.toNatClampNeg (S.1 0 14 zi1)))), (6, .int (S.1 0 32 (Int32.toNatClampNeg (S.1 0 13 zi1)))), (5, .int (nI zi1)), (0, .ref (g.1 0 0)), (1, .int p1), (2, .int p2), (3, .int p3)]) hx hb dX8_areTwo_108 hl (by decide) rfl (fun ls hl => ?_)
                  refine lv_iinc (v := (nI (zi1 + 1))) (lv' := [(5, .int (nI (zi1 + 1))), (4, .int 0), (8, .int 1), (7, .int (S.1 0 32 (Int32.toNatClampNeg (S.1 0 14 zi1)))), (6, .int (S.1 0 32 (Int32.toNatClampNeg (S.1 0 13 zi1)))), (0, .ref (g.1 0 0)), (1, .int p1), (2, .int p2), (3, .int p3)]) hx hb dX8_areTwo_110 hl (k := 4) rfl (nI_1 _) (by decide) rfl (fun ls hl => ?_)
                  refine lv_goto (tgt := 6) hx hb dX8_areTwo_113 (by decide) ?_
                  exact ih6 (zi1 + 1) 0 _ _ (by omega) (by first | exact Or.inl rfl | exact Or.inr rfl) hf hP hS ls (lv_sub hl [0, 5, 6, 7, 8, 1] rfl)
                · have hf := hf.trans (if_pos zc30)
                  refine lv_aload_n hx hb dX8_areTwo_91 rfl (lv_at hl 4 rfl) ?_
                  refine gO (T := TX8) C0 inA8 hK hP (mMain g) rfl 33 (by decide) (hts _ q709) (v := .int (S.1 0 0 33)) rfl dX8_areTwo_92 ?_
                  refine lv_iload hx hb dX8_areTwo_95 (lv_at hl 3 rfl) ?_
                  refine kishr hx hb dX8_areTwo_97 ?_
                  refine lv_iconst (v := 1) hx hb dX8_areTwo_98 (by decide) ?_
                  refine lv_iand hx hb dX8_areTwo_99 ?_
                  refine lv_if_ne (tgt := 107) hx hb dX8_areTwo_100 (by decide) (fun zc31 => ?_) (fun zc31 => ?_)
                  · have hf := hf.trans (if_neg zc31)
                    refine lv_iconst (v := 0) hx hb dX8_areTwo_107 (by decide) ?_
                    refine lv_istore (lv' := [(4, .int 0), (8, .int 1), (7, .int (S.1 0 32 (Int32.toNatClampNeg (S.1 0 14 zi1)))), (6, .int (S.1 0 32 (Int32.toNatClampNeg (S.1 0 13 zi1)))), (5, .int (nI zi1)), (0, .ref (g.1 0 0)), (1, .int p1), (2, .int p2), (3, .int p3)]) hx hb dX8_areTwo_108 hl (by decide) rfl (fun ls hl => ?_)
                    refine lv_iinc (v := (nI (zi1 + 1))) (lv' := [(5, .int (nI (zi1 + 1))), (4, .int 0), (8, .int 1), (7, .int (S.1 0 32 (Int32.toNatClampNeg (S.1 0 14 zi1)))), (6, .int (S.1 0 32 (Int32.toNatClampNeg (S.1 0 13 zi1)))), (0, .ref (g.1 0 0)), (1, .int p1), (2, .int p2), (3, .int p3)]) hx hb dX8_areTwo_110 hl (k := 4) rfl (nI_1 _) (by decide) rfl (fun ls hl => ?_)
                    refine lv_goto (tgt := 6) hx hb dX8_areTwo_113 (by decide) ?_
                    exact ih6 (zi1 + 1) 0 _ _ (by omega) (by first | exact Or.inl rfl | exact Or.inr rfl) hf hP hS ls (lv_sub hl [0, 5, 6, 7, 8, 1] rfl)
                  · have hf := hf.trans (if_pos zc31)
                    refine lv_iconst (v := 1) hx hb dX8_areTwo_103 (by decide) ?_
                    refine lv_goto (tgt := 108) hx hb dX8_areTwo_104 (by decide) ?_
                    refine lv_istore (lv' := [(4, .int 1), (8, .int 1), (7, .int (S.1 0 32 (Int32.toNatClampNeg (S.1 0 14 zi1)))), (6, .int (S.1 0 32 (Int32.toNatClampNeg (S.1 0 13 zi1)))), (5, .int (nI zi1)), (0, .ref (g.1 0 0)), (1, .int p1), (2, .int p2), (3, .int p3)]) hx hb dX8_areTwo_108 hl (by decide) rfl (fun ls hl => ?_)
                    refine lv_iinc (v := (nI (zi1 + 1))) (lv' := [(5, .int (nI (zi1 + 1))), (4, .int 1), (8, .int 1), (7, .int (S.1 0 32 (Int32.toNatClampNeg (S.1 0 14 zi1)))), (6, .int (S.1 0 32 (Int32.toNatClampNeg (S.1 0 13 zi1)))), (0, .ref (g.1 0 0)), (1, .int p1), (2, .int p2), (3, .int p3)]) hx hb dX8_areTwo_110 hl (k := 4) rfl (nI_1 _) (by decide) rfl (fun ls hl => ?_)
                    refine lv_goto (tgt := 6) hx hb dX8_areTwo_113 (by decide) ?_
                    exact ih6 (zi1 + 1) 1 _ _ (by omega) (by first | exact Or.inl rfl | exact Or.inr rfl) hf hP hS ls (lv_sub hl [0, 5, 6, 7, 8, 1] rfl)
  exact lp6 (Int32.toNatClampNeg p3) 0 0 _ _ (Nat.zero_add _) (Or.inl rfl) hf hP hS ls (lv_sub hl [0, 2, 3, 4, 5, 1] rfl)
theorem join_row {b : Nat} (h : b ≠ 32) (S0 : St) (p1 p2 : Int32) : ∀ (k i : Nat) (S : St), (LX8_join_18 S0 p1 p2 k i S).1 0 b = S.1 0 b := by
  intro k
  induction k with
  | zero => intro i S; rfl
  | succ k ih =>
    intro i S
    rw [LX8_join_18]
    split
    all_goals rw [ih, up_row_ne _ _ h]
theorem joinM_row (S : St) {b : Nat} (h : b ≠ 32) (p1 p2 : Int32) : (tX8_join S p1 p2).1 0 b = S.1 0 b := join_row h S p1 p2 _ _ _
theorem up_lo (S : St) (v : Int32) {j k : Nat} (h : j ≠ k) : (up S 0 0 k v).1 0 0 j = S.1 0 0 j := by rw [up_row]; exact pk_un h
def LX8_hearTales_28 (S : St) : Nat → Nat → St → St
  | 0, zi5, zS7 => zS7
  | zk6 + 1, zi5, zS7 => (if (zS7.1 0 15 zi5) = 1 then (if (tX8_areTwo zS7 (zS7.1 0 32 (Int32.toNatClampNeg (zS7.1 0 13 zi5))) (zS7.1 0 32 (Int32.toNatClampNeg (zS7.1 0 14 zi5))) (nI zi5)) = 0 then (if ((up zS7 0 0 33 ((zS7.1 0 0 33) ||| 0)).1 0 15 zi5) = 1 then (bnd (tX8_join (up zS7 0 0 33 ((zS7.1 0 0 33) ||| 0)) ((up zS7 0 0 33 ((zS7.1 0 0 33) ||| 0)).1 0 13 zi5) ((up zS7 0 0 33 ((zS7.1 0 0 33) ||| 0)).1 0 14 zi5)) (fun zS24 => (LX8_hearTales_28 S zk6 (zi5 + 1) zS24))) else (LX8_hearTales_28 S zk6 (zi5 + 1) (up zS7 0 0 33 ((zS7.1 0 0 33) ||| 0)))) else (LX8_hearTales_28 S zk6 (zi5 + 1) (up zS7 0 0 33 ((zS7.1 0 0 33) ||| (ishlF 1 (nI zi5)))))) else (if (zS7.1 0 32 (Int32.toNatClampNeg (zS7.1 0 13 zi5))) = (zS7.1 0 32 (Int32.toNatClampNeg (zS7.1 0 14 zi5))) then (LX8_hearTales_28 S zk6 (zi5 + 1) (up zS7 0 0 33 ((zS7.1 0 0 33) ||| (ishlF 1 (nI zi5))))) else (if ((up zS7 0 0 33 ((zS7.1 0 0 33) ||| 0)).1 0 15 zi5) = 1 then (bnd (tX8_join (up zS7 0 0 33 ((zS7.1 0 0 33) ||| 0)) ((up zS7 0 0 33 ((zS7.1 0 0 33) ||| 0)).1 0 13 zi5) ((up zS7 0 0 33 ((zS7.1 0 0 33) ||| 0)).1 0 14 zi5)) (fun zS17 => (LX8_hearTales_28 S zk6 (zi5 + 1) zS17))) else (LX8_hearTales_28 S zk6 (zi5 + 1) (up zS7 0 0 33 ((zS7.1 0 0 33) ||| 0))))))
def LX8_hearTales_7 (S : St) : Nat → Nat → St → St
  | 0, zi1, zS3 => (LX8_hearTales_28 S (Int32.toNatClampNeg (S.1 0 0 16)) 0 zS3)
  | zk2 + 1, zi1, zS3 => (LX8_hearTales_7 S zk2 (zi1 + 1) (up zS3 0 32 zi1 (nI zi1)))
def tX8_hearTales (S : St) : St :=
  (LX8_hearTales_7 S 8 0 (up S 0 0 33 0))
set_option maxHeartbeats 4000000 in
set_option maxRecDepth 100000 in
theorem kX8_hearTales (l : Launch) (g : Gd) (A : Nat → Prop) (hA : Ads g.1 VM A) (S : St)  (ht : wi (S.1 0 0 16) 0 8) (htk : ∀ j, j < (S.1 0 0 16).toNatClampNeg → vp_in (S.1 0 13 j) 8 ∧ vp_in (S.1 0 14 j) 8) : Met l yX8_hearTales (wU yX8_hearTales cX8_hearTales 5 none) { frames := 1, cells := 0, slots := 0, locals := 28 } (va_Pc [.ref (g.1 0 0)] (PW VM ctM g S)) (va_Qv (fun u => u = tX8_hearTales S) (fun u U => PW VM ctM g u U) A) 0 0 A := by
  refine ent (cc := cX8_hearTales) (maxL := 5) (ret := none) (by decide) (Nat.le_of_ble_eq_true rfl) ?_
  intro p e s m below meth c args Q C0 hr hlocks hP hK hQ ls hl
  have hx := C0.1
  have hb := C0.2.1
  have hml := C0.2.2.1
  have hown := C0.2.2.2.1
  have hts := C0.2.2.2.2
  obtain ⟨F, hF⟩ : ∃ F : St, F = tX8_hearTales S := ⟨_, rfl⟩
  have hf := hF
  unfold tX8_hearTales at hf
  have hS : va_S A s.heap s.heap [] := va_S.rf
  have hl : lv_has ls 5 [(0, .ref (g.1 0 0))] := hl
  refine lv_aload_n hx hb dX8_hearTales_0 rfl (lv_at hl 0 rfl) ?_
  refine lv_iconst (v := 0) hx hb dX8_hearTales_1 (by decide) ?_
  refine pO (T := TX8) (ty0 := tyX8) locM C0 inA8 tyX8_ok nmX8 hK hP hA hS (mMain g) rfl 33 (by decide) (hts _ q709) rfl 33 0 rfl rfl rfl (Nat.le_of_ble_eq_true rfl) dX8_hearTales_2 (fun H locs hP hS => ?_)
  refine lv_iconst (v := 0) hx hb dX8_hearTales_5 (by decide) ?_
  refine lv_istore_n (lv' := [(1, .int 0), (0, .ref (g.1 0 0))]) hx hb dX8_hearTales_6 rfl hl (by decide) rfl (fun ls hl => ?_)
  have lp7 : ∀ (zk2 zi1 : Nat) (zS3 : St) (H : Heap) (locs : List Loc), (zi1 + zk2 = 8) → (zS3.1 0 0 16 = S.1 0 0 16) → (zS3.1 0 13 = S.1 0 13) → (zS3.1 0 14 = S.1 0 14) → (F = LX8_hearTales_7 S zk2 zi1 zS3) → HW VM ctM g zS3 H → va_S A s.heap H locs → ∀ ls : Array Slot, lv_has ls 5 [(1, .int (nI zi1)), (0, .ref (g.1 0 0))] → W p l e { frames := 1, cells := 0, slots := 0, locals := 28 } s m args below meth c H locs 0 0 Q (F0 m 7 ls []) := by
    intro zk2
    induction zk2 with
    | zero =>
      intro zi1 zS3 H locs hik hi1 hr1 hr2 hf hP hS ls hl
      rw [LX8_hearTales_7] at hf
      refine lv_iload_n hx hb dX8_hearTales_7 rfl (lv_at hl 0 rfl) ?_
      refine lv_bipush (v := 8) hx hb dX8_hearTales_8 (by decide) ?_
      refine lv_icmp_ge (tgt := 26) hx hb dX8_hearTales_10 (by decide) (fun zc4 => ?_) (fun zc4 => absurd (up_ge0 rfl hik (by decide)) zc4)
      refine lv_iconst (v := 0) hx hb dX8_hearTales_26 (by decide) ?_
      refine lv_istore_n (lv' := [(1, .int 0), (0, .ref (g.1 0 0))]) hx hb dX8_hearTales_27 rfl hl (by decide) rfl (fun ls hl => ?_)
      have lp28 : ∀ (zk6 zi5 : Nat) (zS7 : St) (H : Heap) (locs : List Loc), (zi5 + zk6 = (Int32.toNatClampNeg (S.1 0 0 16))) → (zS7.1 0 0 16 = S.1 0 0 16) → (zS7.1 0 13 = S.1 0 13) → (zS7.1 0 14 = S.1 0 14) → (F = LX8_hearTales_28 S zk6 zi5 zS7) → HW VM ctM g zS7 H → va_S A s.heap H locs → ∀ ls : Array Slot, lv_has ls 5 [(1, .int (nI zi5)), (0, .ref (g.1 0 0))] → W p l e { frames := 1, cells := 0, slots := 0, locals := 28 } s m args below meth c H locs 0 0 Q (F0 m 28 ls []) := by
        intro zk6
        induction zk6 with
        | zero =>
          intro zi5 zS7 H locs hik hi1 hr1 hr2 hf hP hS ls hl
          have hcl : (S.1 0 0 16).toNatClampNeg ≤ 8 := wi_cl (n := 8) ht rfl (by decide)
          rw [LX8_hearTales_28] at hf
          refine lv_iload_n hx hb dX8_hearTales_28 rfl (lv_at hl 0 rfl) ?_
          refine lv_aload_n hx hb dX8_hearTales_29 rfl (lv_at hl 1 rfl) ?_
          refine gO (T := TX8) C0 inA8 hK hP (mMain g) rfl 16 (by decide) (hts _ q692) (v := .int (zS7.1 0 0 16)) rfl dX8_hearTales_30 ?_
          refine lv_icmp_ge (tgt := 158) hx hb dX8_hearTales_33 (by decide) (fun zc8 => ?_) (fun zc8 => absurd (by rw [hi1]; exact up_sge0 hik) zc8)
          exact rv hQ C0 hr hlocks hK hP hS (by rw [← hF]; exact hf.symm) dX8_hearTales_158
        | succ zk6 ih28 =>
          intro zi5 zS7 H locs hik hi1 hr1 hr2 hf hP hS ls hl
          have hcl : (S.1 0 0 16).toNatClampNeg ≤ 8 := wi_cl (n := 8) ht rfl (by decide)
          rw [LX8_hearTales_28] at hf
          refine lv_iload_n hx hb dX8_hearTales_28 rfl (lv_at hl 0 rfl) ?_
          refine lv_aload_n hx hb dX8_hearTales_29 rfl (lv_at hl 1 rfl) ?_
          refine gO (T := TX8) C0 inA8 hK hP (mMain g) rfl 16 (by decide) (hts _ q692) (v := .int (zS7.1 0 0 16)) rfl dX8_hearTales_30 ?_
          refine lv_icmp_ge (tgt := 158) hx hb dX8_hearTales_33 (by decide) (fun zc9 => absurd zc9 (by rw [hi1]; exact up_sge1 hik)) (fun zc9 => ?_)
          refine lv_aload_n hx hb dX8_hearTales_36 rfl (lv_at hl 1 rfl) ?_
          refine gO (T := TX8) C0 inA8 hK hP (mMain g) rfl 32 (by decide) (hts _ q708) (v := .ref (g.1 0 32)) rfl dX8_hearTales_37 ?_
          refine lv_aload_n hx hb dX8_hearTales_40 rfl (lv_at hl 1 rfl) ?_
          refine gO (T := TX8) C0 inA8 hK hP (mMain g) rfl 13 (by decide) (hts _ q689) (v := .ref (g.1 0 13)) rfl dX8_hearTales_41 ?_
          refine lv_iload_n hx hb dX8_hearTales_44 rfl (lv_at hl 0 rfl) ?_
          refine gI C0 hK hP (mTOne g) (vp_in_nI (by omega) (by decide)) dX8_hearTales_45 ?_
          rw [nI_clamp (n := zi5) (by omega)]
          refine gI C0 hK hP (mGroup g) (by rw [hr1]; exact (htk _ (by omega)).1) dX8_hearTales_46 ?_
          refine lv_istore_n (lv' := [(2, .int (zS7.1 0 32 (Int32.toNatClampNeg (zS7.1 0 13 zi5)))), (1, .int (nI zi5)), (0, .ref (g.1 0 0))]) hx hb dX8_hearTales_47 rfl hl (by decide) rfl (fun ls hl => ?_)
          refine lv_aload_n hx hb dX8_hearTales_48 rfl (lv_at hl 2 rfl) ?_
          refine gO (T := TX8) C0 inA8 hK hP (mMain g) rfl 32 (by decide) (hts _ q708) (v := .ref (g.1 0 32)) rfl dX8_hearTales_49 ?_
          refine lv_aload_n hx hb dX8_hearTales_52 rfl (lv_at hl 2 rfl) ?_
          refine gO (T := TX8) C0 inA8 hK hP (mMain g) rfl 14 (by decide) (hts _ q690) (v := .ref (g.1 0 14)) rfl dX8_hearTales_53 ?_
          refine lv_iload_n hx hb dX8_hearTales_56 rfl (lv_at hl 1 rfl) ?_
          refine gI C0 hK hP (mTTwo g) (vp_in_nI (by omega) (by decide)) dX8_hearTales_57 ?_
          rw [nI_clamp (n := zi5) (by omega)]
          refine gI C0 hK hP (mGroup g) (by rw [hr2]; exact (htk _ (by omega)).2) dX8_hearTales_58 ?_
          refine lv_istore_n (lv' := [(3, .int (zS7.1 0 32 (Int32.toNatClampNeg (zS7.1 0 14 zi5)))), (2, .int (zS7.1 0 32 (Int32.toNatClampNeg (zS7.1 0 13 zi5)))), (1, .int (nI zi5)), (0, .ref (g.1 0 0))]) hx hb dX8_hearTales_59 rfl hl (by decide) rfl (fun ls hl => ?_)
          refine lv_aload_n hx hb dX8_hearTales_60 rfl (lv_at hl 3 rfl) ?_
          refine gO (T := TX8) C0 inA8 hK hP (mMain g) rfl 15 (by decide) (hts _ q691) (v := .ref (g.1 0 15)) rfl dX8_hearTales_61 ?_
          refine lv_iload_n hx hb dX8_hearTales_64 rfl (lv_at hl 2 rfl) ?_
          refine gI C0 hK hP (mTSame g) (vp_in_nI (by omega) (by decide)) dX8_hearTales_65 ?_
          rw [nI_clamp (n := zi5) (by omega)]
          refine lv_iconst (v := 1) hx hb dX8_hearTales_66 (by decide) ?_
          refine lv_icmp_ne (tgt := 88) hx hb dX8_hearTales_67 (by decide) (fun zc10 => ?_) (fun zc10 => ?_)
          · have hf := hf.trans (if_neg zc10)
            refine lv_iload_n hx hb dX8_hearTales_88 rfl (lv_at hl 1 rfl) ?_
            refine lv_iload_n hx hb dX8_hearTales_89 rfl (lv_at hl 0 rfl) ?_
            refine lv_icmp_eq (tgt := 97) hx hb dX8_hearTales_90 (by decide) (fun zc11 => ?_) (fun zc11 => ?_)
            · have hf := hf.trans (if_pos zc11)
              refine lv_iconst (v := 0) hx hb dX8_hearTales_97 (by decide) ?_
              refine lv_istore (lv' := [(4, .int 0), (3, .int (zS7.1 0 32 (Int32.toNatClampNeg (zS7.1 0 14 zi5)))), (2, .int (zS7.1 0 32 (Int32.toNatClampNeg (zS7.1 0 13 zi5)))), (1, .int (nI zi5)), (0, .ref (g.1 0 0))]) hx hb dX8_hearTales_98 hl (by decide) rfl (fun ls hl => ?_)
              refine lv_aload_n hx hb dX8_hearTales_100 rfl (lv_at hl 4 rfl) ?_
              refine lv_dup hx hb dX8_hearTales_101 rfl ?_
              refine gO (T := TX8) C0 inA8 hK hP (mMain g) rfl 33 (by decide) (hts _ q709) (v := .int (zS7.1 0 0 33)) rfl dX8_hearTales_102 ?_
              refine lv_iload hx hb dX8_hearTales_105 (lv_at hl 0 rfl) ?_
              refine lv_if_eq (tgt := 114) hx hb dX8_hearTales_107 (by decide) (fun zc12 => ?_) (fun zc12 => absurd (by decide) zc12)
              refine lv_iconst (v := 1) hx hb dX8_hearTales_114 (by decide) ?_
              refine lv_iload_n hx hb dX8_hearTales_115 rfl (lv_at hl 3 rfl) ?_
              refine kishl hx hb dX8_hearTales_116 ?_
              refine lv_ior hx hb dX8_hearTales_117 ?_
              refine pO (T := TX8) (ty0 := tyX8) locM C0 inA8 tyX8_ok nmX8 hK hP hA hS (mMain g) rfl 33 (by decide) (hts _ q709) rfl 33 ((zS7.1 0 0 33) ||| (ishlF 1 (nI zi5))) rfl rfl rfl (Nat.le_of_ble_eq_true rfl) dX8_hearTales_118 (fun H locs hP hS => ?_)
              refine lv_iload hx hb dX8_hearTales_121 (lv_at hl 0 rfl) ?_
              refine lv_if_eq (tgt := 152) hx hb dX8_hearTales_123 (by decide) (fun zc13 => ?_) (fun zc13 => absurd (by decide) zc13)
              refine lv_iinc (v := (nI (zi5 + 1))) (lv' := [(1, .int (nI (zi5 + 1))), (4, .int 0), (3, .int (zS7.1 0 32 (Int32.toNatClampNeg (zS7.1 0 14 zi5)))), (2, .int (zS7.1 0 32 (Int32.toNatClampNeg (zS7.1 0 13 zi5)))), (0, .ref (g.1 0 0))]) hx hb dX8_hearTales_152 hl (k := 3) rfl (nI_1 _) (by decide) rfl (fun ls hl => ?_)
              refine lv_goto (tgt := 28) hx hb dX8_hearTales_155 (by decide) ?_
              exact ih28 (zi5 + 1) (up zS7 0 0 33 ((zS7.1 0 0 33) ||| (ishlF 1 (nI zi5)))) _ _ (by omega) (by first | (rw [hw, joinM_row _ (by decide)]; simp [up, upd, hi1]) | simp [up, upd, hi1]) (by first | (rw [hw, joinM_row _ (by decide)]; simp [up, hr1]) | simp [up, hr1]) (by first | (rw [hw, joinM_row _ (by decide)]; simp [up, hr2]) | simp [up, hr2]) hf hP hS ls (lv_sub hl [0, 4] rfl)
            · have hf := hf.trans (if_neg zc11)
              refine lv_iconst (v := 1) hx hb dX8_hearTales_93 (by decide) ?_
              refine lv_goto (tgt := 98) hx hb dX8_hearTales_94 (by decide) ?_
              refine lv_istore (lv' := [(4, .int 1), (3, .int (zS7.1 0 32 (Int32.toNatClampNeg (zS7.1 0 14 zi5)))), (2, .int (zS7.1 0 32 (Int32.toNatClampNeg (zS7.1 0 13 zi5)))), (1, .int (nI zi5)), (0, .ref (g.1 0 0))]) hx hb dX8_hearTales_98 hl (by decide) rfl (fun ls hl => ?_)
              refine lv_aload_n hx hb dX8_hearTales_100 rfl (lv_at hl 4 rfl) ?_
              refine lv_dup hx hb dX8_hearTales_101 rfl ?_
              refine gO (T := TX8) C0 inA8 hK hP (mMain g) rfl 33 (by decide) (hts _ q709) (v := .int (zS7.1 0 0 33)) rfl dX8_hearTales_102 ?_
              refine lv_iload hx hb dX8_hearTales_105 (lv_at hl 0 rfl) ?_
              refine lv_if_eq (tgt := 114) hx hb dX8_hearTales_107 (by decide) (fun zc14 => absurd zc14 (by decide)) (fun zc14 => ?_)
              refine lv_iconst (v := 0) hx hb dX8_hearTales_110 (by decide) ?_
              refine lv_goto (tgt := 117) hx hb dX8_hearTales_111 (by decide) ?_
              refine lv_ior hx hb dX8_hearTales_117 ?_
              refine pO (T := TX8) (ty0 := tyX8) locM C0 inA8 tyX8_ok nmX8 hK hP hA hS (mMain g) rfl 33 (by decide) (hts _ q709) rfl 33 ((zS7.1 0 0 33) ||| 0) rfl rfl rfl (Nat.le_of_ble_eq_true rfl) dX8_hearTales_118 (fun H locs hP hS => ?_)
              refine lv_iload hx hb dX8_hearTales_121 (lv_at hl 0 rfl) ?_
              refine lv_if_eq (tgt := 152) hx hb dX8_hearTales_123 (by decide) (fun zc15 => absurd zc15 (by decide)) (fun zc15 => ?_)
              refine lv_aload_n hx hb dX8_hearTales_126 rfl (lv_at hl 4 rfl) ?_
              refine gO (T := TX8) C0 inA8 hK hP (mMain g) rfl 15 (by decide) (hts _ q691) (v := .ref (g.1 0 15)) rfl dX8_hearTales_127 ?_
              refine lv_iload_n hx hb dX8_hearTales_130 rfl (lv_at hl 3 rfl) ?_
              refine gI C0 hK hP (mTSame g) (vp_in_nI (by omega) (by decide)) dX8_hearTales_131 ?_
              rw [nI_clamp (n := zi5) (by omega)]
              refine lv_iconst (v := 1) hx hb dX8_hearTales_132 (by decide) ?_
              refine lv_icmp_ne (tgt := 152) hx hb dX8_hearTales_133 (by decide) (fun zc16 => ?_) (fun zc16 => ?_)
              · have hf := hf.trans (if_neg zc16)
                refine lv_iinc (v := (nI (zi5 + 1))) (lv' := [(1, .int (nI (zi5 + 1))), (4, .int 1), (3, .int (zS7.1 0 32 (Int32.toNatClampNeg (zS7.1 0 14 zi5)))), (2, .int (zS7.1 0 32 (Int32.toNatClampNeg (zS7.1 0 13 zi5)))), (0, .ref (g.1 0 0))]) hx hb dX8_hearTales_152 hl (k := 3) rfl (nI_1 _) (by decide) rfl (fun ls hl => ?_)
                refine lv_goto (tgt := 28) hx hb dX8_hearTales_155 (by decide) ?_
                exact ih28 (zi5 + 1) (up zS7 0 0 33 ((zS7.1 0 0 33) ||| 0)) _ _ (by omega) (by first | (rw [hw, joinM_row _ (by decide)]; simp [up, upd, hi1]) | simp [up, upd, hi1]) (by first | (rw [hw, joinM_row _ (by decide)]; simp [up, hr1]) | simp [up, hr1]) (by first | (rw [hw, joinM_row _ (by decide)]; simp [up, hr2]) | simp [up, hr2]) hf hP hS ls (lv_sub hl [0, 4] rfl)
              · have hf := hf.trans (if_pos zc16)
                refine lv_aload_n hx hb dX8_hearTales_136 rfl (lv_at hl 4 rfl) ?_
                refine lv_aload_n hx hb dX8_hearTales_137 rfl (lv_at hl 4 rfl) ?_
                refine gO (T := TX8) C0 inA8 hK hP (mMain g) rfl 13 (by decide) (hts _ q689) (v := .ref (g.1 0 13)) rfl dX8_hearTales_138 ?_
                refine lv_iload_n hx hb dX8_hearTales_141 rfl (lv_at hl 3 rfl) ?_
                refine gI C0 hK hP (mTOne g) (vp_in_nI (by omega) (by decide)) dX8_hearTales_142 ?_
                rw [nI_clamp (n := zi5) (by omega)]
                refine lv_aload_n hx hb dX8_hearTales_143 rfl (lv_at hl 4 rfl) ?_
                refine gO (T := TX8) C0 inA8 hK hP (mMain g) rfl 14 (by decide) (hts _ q690) (v := .ref (g.1 0 14)) rfl dX8_hearTales_144 ?_
                refine lv_iload_n hx hb dX8_hearTales_147 rfl (lv_at hl 3 rfl) ?_
                refine gI C0 hK hP (mTTwo g) (vp_in_nI (by omega) (by decide)) dX8_hearTales_148 ?_
                rw [nI_clamp (n := zi5) (by omega)]
                refine kv (va_runV (As := [.int ((up zS7 0 0 33 ((zS7.1 0 0 33) ||| 0)).1 0 13 zi5), .int ((up zS7 0 0 33 ((zS7.1 0 0 33) ||| 0)).1 0 14 zi5)]) (rest := []) C0 (kX8_join l g A hA (up zS7 0 0 33 ((zS7.1 0 0 33) ||| 0)) ((up zS7 0 0 33 ((zS7.1 0 0 33) ||| 0)).1 0 13 zi5) ((up zS7 0 0 33 ((zS7.1 0 0 33) ||| 0)).1 0 14 zi5) (by simp only [up_row_ne _ _ (show (13 : Nat) ≠ 0 by decide), hr1]; exact (htk _ (by omega)).1) (by simp only [up_row_ne _ _ (show (14 : Nat) ≠ 0 by decide), hr2]; exact (htk _ (by omega)).2)) (cwV 2 hts (gV q1025 q1027 q37 q54 q1028) rfl rfl rfl (by decide +kernel) ⟨Nat.le_of_ble_eq_true rfl, Nat.le_of_ble_eq_true rfl⟩) (preV (recO (mMain g) hP hK rfl) hP hK) rfl rfl hl.1 rfl (lv_room (Nat.le_of_ble_eq_true rfl)) dX8_hearTales_149 ⟨Nat.zero_le _, Nat.zero_le _⟩) hS (fun _ h => h) (fun zS17 H locs hw hP hS => ?_)
                have hf := hf.trans (bnd_eq hw)
                refine lv_iinc (v := (nI (zi5 + 1))) (lv' := [(1, .int (nI (zi5 + 1))), (4, .int 1), (3, .int (zS7.1 0 32 (Int32.toNatClampNeg (zS7.1 0 14 zi5)))), (2, .int (zS7.1 0 32 (Int32.toNatClampNeg (zS7.1 0 13 zi5)))), (0, .ref (g.1 0 0))]) hx hb dX8_hearTales_152 hl (k := 3) rfl (nI_1 _) (by decide) rfl (fun ls hl => ?_)
                refine lv_goto (tgt := 28) hx hb dX8_hearTales_155 (by decide) ?_
                exact ih28 (zi5 + 1) zS17 _ _ (by omega) (by first | (rw [hw, joinM_row _ (by decide)]; simp [up, upd, hi1]) | simp [up, upd, hi1]) (by first | (rw [hw, joinM_row _ (by decide)]; simp [up, hr1]) | simp [up, hr1]) (by first | (rw [hw, joinM_row _ (by decide)]; simp [up, hr2]) | simp [up, hr2]) hf hP hS ls (lv_sub hl [0, 4] rfl)
          · have hf := hf.trans (if_pos zc10)
            refine lv_aload_n hx hb dX8_hearTales_70 rfl (lv_at hl 3 rfl) ?_
            refine lv_iload_n hx hb dX8_hearTales_71 rfl (lv_at hl 1 rfl) ?_
            refine lv_iload_n hx hb dX8_hearTales_72 rfl (lv_at hl 0 rfl) ?_
            refine lv_iload_n hx hb dX8_hearTales_73 rfl (lv_at hl 2 rfl) ?_
            refine kiP (va_runV (As := [.int (zS7.1 0 32 (Int32.toNatClampNeg (zS7.1 0 13 zi5))), .int (zS7.1 0 32 (Int32.toNatClampNeg (zS7.1 0 14 zi5))), .int (nI zi5)]) (rest := []) C0 (kX8_areTwo l g A hA zS7 (zS7.1 0 32 (Int32.toNatClampNeg (zS7.1 0 13 zi5))) (zS7.1 0 32 (Int32.toNatClampNeg (zS7.1 0 14 zi5))) (nI zi5) (by rw [nI_clamp (by omega)]; omega) (by rw [nI_clamp (by omega)]; intro j hj; rw [hr1, hr2]; exact htk j (by omega))) (cwV 3 hts (gV q1021 q1023 q36 q54 q1024) rfl rfl rfl (by decide +kernel) ⟨Nat.le_of_ble_eq_true rfl, Nat.le_of_ble_eq_true rfl⟩) (preV (recO (mMain g) hP hK rfl) hP hK) rfl rfl hl.1 rfl (lv_room (Nat.le_of_ble_eq_true rfl)) dX8_hearTales_74 ⟨Nat.zero_le _, Nat.zero_le _⟩) hS (fun _ h => h) (fun H locs hP hS => ?_)
            refine lv_if_ne (tgt := 84) hx hb dX8_hearTales_77 (by decide) (fun zc18 => ?_) (fun zc18 => ?_)
            · have hf := hf.trans (if_neg zc18)
              refine lv_iconst (v := 0) hx hb dX8_hearTales_84 (by decide) ?_
              refine lv_goto (tgt := 98) hx hb dX8_hearTales_85 (by decide) ?_
              refine lv_istore (lv' := [(4, .int 0), (3, .int (zS7.1 0 32 (Int32.toNatClampNeg (zS7.1 0 14 zi5)))), (2, .int (zS7.1 0 32 (Int32.toNatClampNeg (zS7.1 0 13 zi5)))), (1, .int (nI zi5)), (0, .ref (g.1 0 0))]) hx hb dX8_hearTales_98 hl (by decide) rfl (fun ls hl => ?_)
              refine lv_aload_n hx hb dX8_hearTales_100 rfl (lv_at hl 4 rfl) ?_
              refine lv_dup hx hb dX8_hearTales_101 rfl ?_
              refine gO (T := TX8) C0 inA8 hK hP (mMain g) rfl 33 (by decide) (hts _ q709) (v := .int (zS7.1 0 0 33)) rfl dX8_hearTales_102 ?_
              refine lv_iload hx hb dX8_hearTales_105 (lv_at hl 0 rfl) ?_
              refine lv_if_eq (tgt := 114) hx hb dX8_hearTales_107 (by decide) (fun zc19 => ?_) (fun zc19 => absurd (by decide) zc19)
              refine lv_iconst (v := 1) hx hb dX8_hearTales_114 (by decide) ?_
              refine lv_iload_n hx hb dX8_hearTales_115 rfl (lv_at hl 3 rfl) ?_
              refine kishl hx hb dX8_hearTales_116 ?_
              refine lv_ior hx hb dX8_hearTales_117 ?_
              refine pO (T := TX8) (ty0 := tyX8) locM C0 inA8 tyX8_ok nmX8 hK hP hA hS (mMain g) rfl 33 (by decide) (hts _ q709) rfl 33 ((zS7.1 0 0 33) ||| (ishlF 1 (nI zi5))) rfl rfl rfl (Nat.le_of_ble_eq_true rfl) dX8_hearTales_118 (fun H locs hP hS => ?_)
              refine lv_iload hx hb dX8_hearTales_121 (lv_at hl 0 rfl) ?_
              refine lv_if_eq (tgt := 152) hx hb dX8_hearTales_123 (by decide) (fun zc20 => ?_) (fun zc20 => absurd (by decide) zc20)
              refine lv_iinc (v := (nI (zi5 + 1))) (lv' := [(1, .int (nI (zi5 + 1))), (4, .int 0), (3, .int (zS7.1 0 32 (Int32.toNatClampNeg (zS7.1 0 14 zi5)))), (2, .int (zS7.1 0 32 (Int32.toNatClampNeg (zS7.1 0 13 zi5)))), (0, .ref (g.1 0 0))]) hx hb dX8_hearTales_152 hl (k := 3) rfl (nI_1 _) (by decide) rfl (fun ls hl => ?_)
              refine lv_goto (tgt := 28) hx hb dX8_hearTales_155 (by decide) ?_
              exact ih28 (zi5 + 1) (up zS7 0 0 33 ((zS7.1 0 0 33) ||| (ishlF 1 (nI zi5)))) _ _ (by omega) (by first | (rw [hw, joinM_row _ (by decide)]; simp [up, upd, hi1]) | simp [up, upd, hi1]) (by first | (rw [hw, joinM_row _ (by decide)]; simp [up, hr1]) | simp [up, hr1]) (by first | (rw [hw, joinM_row _ (by decide)]; simp [up, hr2]) | simp [up, hr2]) hf hP hS ls (lv_sub hl [0, 4] rfl)
            · have hf := hf.trans (if_pos zc18)
              refine lv_iconst (v := 1) hx hb dX8_hearTales_80 (by decide) ?_
              refine lv_goto (tgt := 98) hx hb dX8_hearTales_81 (by decide) ?_
              refine lv_istore (lv' := [(4, .int 1), (3, .int (zS7.1 0 32 (Int32.toNatClampNeg (zS7.1 0 14 zi5)))), (2, .int (zS7.1 0 32 (Int32.toNatClampNeg (zS7.1 0 13 zi5)))), (1, .int (nI zi5)), (0, .ref (g.1 0 0))]) hx hb dX8_hearTales_98 hl (by decide) rfl (fun ls hl => ?_)
              refine lv_aload_n hx hb dX8_hearTales_100 rfl (lv_at hl 4 rfl) ?_
              refine lv_dup hx hb dX8_hearTales_101 rfl ?_
              refine gO (T := TX8) C0 inA8 hK hP (mMain g) rfl 33 (by decide) (hts _ q709) (v := .int (zS7.1 0 0 33)) rfl dX8_hearTales_102 ?_
              refine lv_iload hx hb dX8_hearTales_105 (lv_at hl 0 rfl) ?_
              refine lv_if_eq (tgt := 114) hx hb dX8_hearTales_107 (by decide) (fun zc21 => absurd zc21 (by decide)) (fun zc21 => ?_)
              refine lv_iconst (v := 0) hx hb dX8_hearTales_110 (by decide) ?_
              refine lv_goto (tgt := 117) hx hb dX8_hearTales_111 (by decide) ?_
              refine lv_ior hx hb dX8_hearTales_117 ?_
              refine pO (T := TX8) (ty0 := tyX8) locM C0 inA8 tyX8_ok nmX8 hK hP hA hS (mMain g) rfl 33 (by decide) (hts _ q709) rfl 33 ((zS7.1 0 0 33) ||| 0) rfl rfl rfl (Nat.le_of_ble_eq_true rfl) dX8_hearTales_118 (fun H locs hP hS => ?_)
              refine lv_iload hx hb dX8_hearTales_121 (lv_at hl 0 rfl) ?_
              refine lv_if_eq (tgt := 152) hx hb dX8_hearTales_123 (by decide) (fun zc22 => absurd zc22 (by decide)) (fun zc22 => ?_)
              refine lv_aload_n hx hb dX8_hearTales_126 rfl (lv_at hl 4 rfl) ?_
              refine gO (T := TX8) C0 inA8 hK hP (mMain g) rfl 15 (by decide) (hts _ q691) (v := .ref (g.1 0 15)) rfl dX8_hearTales_127 ?_
              refine lv_iload_n hx hb dX8_hearTales_130 rfl (lv_at hl 3 rfl) ?_
              refine gI C0 hK hP (mTSame g) (vp_in_nI (by omega) (by decide)) dX8_hearTales_131 ?_
              rw [nI_clamp (n := zi5) (by omega)]
              refine lv_iconst (v := 1) hx hb dX8_hearTales_132 (by decide) ?_
              refine lv_icmp_ne (tgt := 152) hx hb dX8_hearTales_133 (by decide) (fun zc23 => ?_) (fun zc23 => ?_)
              · have hf := hf.trans (if_neg zc23)
                refine lv_iinc (v := (nI (zi5 + 1))) (lv' := [(1, .int (nI (zi5 + 1))), (4, .int 1), (3, .int (zS7.1 0 32 (Int32.toNatClampNeg (zS7.1 0 14 zi5)))), (2, .int (zS7.1 0 32 (Int32.toNatClampNeg (zS7.1 0 13 zi5)))), (0, .ref (g.1 0 0))]) hx hb dX8_hearTales_152 hl (k := 3) rfl (nI_1 _) (by decide) rfl (fun ls hl => ?_)
                refine lv_goto (tgt := 28) hx hb dX8_hearTales_155 (by decide) ?_
                exact ih28 (zi5 + 1) (up zS7 0 0 33 ((zS7.1 0 0 33) ||| 0)) _ _ (by omega) (by first | (rw [hw, joinM_row _ (by decide)]; simp [up, upd, hi1]) | simp [up, upd, hi1]) (by first | (rw [hw, joinM_row _ (by decide)]; simp [up, hr1]) | simp [up, hr1]) (by first | (rw [hw, joinM_row _ (by decide)]; simp [up, hr2]) | simp [up, hr2]) hf hP hS ls (lv_sub hl [0, 4] rfl)
              · have hf := hf.trans (if_pos zc23)
                refine lv_aload_n hx hb dX8_hearTales_136 rfl (lv_at hl 4 rfl) ?_
                refine lv_aload_n hx hb dX8_hearTales_137 rfl (lv_at hl 4 rfl) ?_
                refine gO (T := TX8) C0 inA8 hK hP (mMain g) rfl 13 (by decide) (hts _ q689) (v := .ref (g.1 0 13)) rfl dX8_hearTales_138 ?_
                refine lv_iload_n hx hb dX8_hearTales_141 rfl (lv_at hl 3 rfl) ?_
                refine gI C0 hK hP (mTOne g) (vp_in_nI (by omega) (by decide)) dX8_hearTales_142 ?_
                rw [nI_clamp (n := zi5) (by omega)]
                refine lv_aload_n hx hb dX8_hearTales_143 rfl (lv_at hl 4 rfl) ?_
                refine gO (T := TX8) C0 inA8 hK hP (mMain g) rfl 14 (by decide) (hts _ q690) (v := .ref (g.1 0 14)) rfl dX8_hearTales_144 ?_
                refine lv_iload_n hx hb dX8_hearTales_147 rfl (lv_at hl 3 rfl) ?_
                refine gI C0 hK hP (mTTwo g) (vp_in_nI (by omega) (by decide)) dX8_hearTales_148 ?_
                rw [nI_clamp (n := zi5) (by omega)]
                refine kv (va_runV (As := [.int ((up zS7 0 0 33 ((zS7.1 0 0 33) ||| 0)).1 0 13 zi5), .int ((up zS7 0 0 33 ((zS7.1 0 0 33) ||| 0)).1 0 14 zi5)]) (rest := []) C0 (kX8_join l g A hA (up zS7 0 0 33 ((zS7.1 0 0 33) ||| 0)) ((up zS7 0 0 33 ((zS7.1 0 0 33) ||| 0)).1 0 13 zi5) ((up zS7 0 0 33 ((zS7.1 0 0 33) ||| 0)).1 0 14 zi5) (by simp only [up_row_ne _ _ (show (13 : Nat) ≠ 0 by decide), hr1]; exact (htk _ (by omega)).1) (by simp only [up_row_ne _ _ (show (14 : Nat) ≠ 0 by decide), hr2]; exact (htk _ (by omega)).2)) (cwV 2 hts (gV q1025 q1027 q37 q54 q1028) rfl rfl rfl (by decide +kernel) ⟨Nat.le_of_ble_eq_true rfl, Nat.le_of_ble_eq_true rfl⟩) (preV (recO (mMain g) hP hK rfl) hP hK) rfl rfl hl.1 rfl (lv_room (Nat.le_of_ble_eq_true rfl)) dX8_hearTales_149 ⟨Nat.zero_le _, Nat.zero_le _⟩) hS (fun _ h => h) (fun zS24 H locs hw hP hS => ?_)
                have hf := hf.trans (bnd_eq hw)
                refine lv_iinc (v := (nI (zi5 + 1))) (lv' := [(1, .int (nI (zi5 + 1))), (4, .int 1), (3, .int (zS7.1 0 32 (Int32.toNatClampNeg (zS7.1 0 14 zi5)))), (2, .int (zS7.1 0 32 (Int32.toNatClampNeg (zS7.1 0 13 zi5)))), (0, .ref (g.1 0 0))]) hx hb dX8_hearTales_152 hl (k := 3) rfl (nI_1 _) (by decide) rfl (fun ls hl => ?_)
                refine lv_goto (tgt := 28) hx hb dX8_hearTales_155 (by decide) ?_
                exact ih28 (zi5 + 1) zS24 _ _ (by omega) (by first | (rw [hw, joinM_row _ (by decide)]; simp [up, upd, hi1]) | simp [up, upd, hi1]) (by first | (rw [hw, joinM_row _ (by decide)]; simp [up, hr1]) | simp [up, hr1]) (by first | (rw [hw, joinM_row _ (by decide)]; simp [up, hr2]) | simp [up, hr2]) hf hP hS ls (lv_sub hl [0, 4] rfl)
      exact lp28 (Int32.toNatClampNeg (S.1 0 0 16)) 0 zS3 _ _ (Nat.zero_add _) hi1 hr1 hr2 hf hP hS ls (lv_sub hl [0, 1] rfl)
    | succ zk2 ih7 =>
      intro zi1 zS3 H locs hik hi1 hr1 hr2 hf hP hS ls hl
      rw [LX8_hearTales_7] at hf
      refine lv_iload_n hx hb dX8_hearTales_7 rfl (lv_at hl 0 rfl) ?_
      refine lv_bipush (v := 8) hx hb dX8_hearTales_8 (by decide) ?_
      refine lv_icmp_ge (tgt := 26) hx hb dX8_hearTales_10 (by decide) (fun zc25 => absurd zc25 (up_ge1 rfl hik (by decide))) (fun zc25 => ?_)
      refine lv_aload_n hx hb dX8_hearTales_13 rfl (lv_at hl 1 rfl) ?_
      refine gO (T := TX8) C0 inA8 hK hP (mMain g) rfl 32 (by decide) (hts _ q708) (v := .ref (g.1 0 32)) rfl dX8_hearTales_14 ?_
      refine lv_iload_n hx hb dX8_hearTales_17 rfl (lv_at hl 0 rfl) ?_
      refine lv_iload_n hx hb dX8_hearTales_18 rfl (lv_at hl 0 rfl) ?_
      refine pI locM C0 hK hP hA hS (mGroup g) (vp_in_nI (by omega) (by decide)) dX8_hearTales_19 (fun H locs hP hS => ?_)
      rw [nI_clamp (n := zi1) (by omega)] at hP
      refine lv_iinc (v := (nI (zi1 + 1))) (lv' := [(1, .int (nI (zi1 + 1))), (0, .ref (g.1 0 0))]) hx hb dX8_hearTales_20 hl (k := 0) rfl (nI_1 _) (by decide) rfl (fun ls hl => ?_)
      refine lv_goto (tgt := 7) hx hb dX8_hearTales_23 (by decide) ?_
      exact ih7 (zi1 + 1) (up zS3 0 32 zi1 (nI zi1)) _ _ (by omega) (by simp [up, hi1]) (by simp [up, hr1]) (by simp [up, hr2]) hf hP hS ls (lv_sub hl [0, 1] rfl)
  exact lp7 8 0 (up S 0 0 33 0) _ _ (by decide) (by simp [up, upd]) (by simp [up]) (by simp [up]) hf hP hS ls (lv_sub hl [0, 1] rfl)
