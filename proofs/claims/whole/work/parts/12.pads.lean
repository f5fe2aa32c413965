def tX3_put (S : St) (p1 : Int32) : Int32 × St :=
  (if (S.1 4 0 0) < 0 then (0, S) else (if (S.1 4 0 0) < 60 then (bnd (up (up S 4 1 (Int32.toNatClampNeg (S.1 4 0 0)) p1) 4 0 0 (((up S 4 1 (Int32.toNatClampNeg (S.1 4 0 0)) p1).1 4 0 0) + 1)) (fun zS3 => (1, zS3))) else (0, S)))
set_option maxHeartbeats 4000000 in
set_option maxRecDepth 100000 in
theorem kX3_put (l : Launch) (g : Gd) (A : Nat → Prop) (hA : Ads g.1 VX A) (S : St) (p1 : Int32) : Met l yX3_put (wU yX3_put cX3_put 2 (some .boolean)) { frames := 0, cells := 0, slots := 0, locals := 0 } (va_Pc [.ref (g.1 4 0), .int p1] (PW VX ctX g S)) (va_Qi (fun r u => r = (tX3_put S p1).1 ∧ u = (tX3_put S p1).2) (fun u U => PW VX ctX g u U) A) 0 0 A := by
  refine ent (cc := cX3_put) (maxL := 2) (ret := (some .boolean)) (by decide) (Nat.le_of_ble_eq_true rfl) ?_
  intro p e s m below meth c args Q C0 hr hlocks hP hK hQ ls hl
  have hx := C0.1
  have hb := C0.2.1
  have hml := C0.2.2.1
  have hown := C0.2.2.2.1
  have hts := C0.2.2.2.2
  obtain ⟨F, hF⟩ : ∃ F : Int32 × St, F = tX3_put S p1 := ⟨_, rfl⟩
  have hf := hF
  unfold tX3_put at hf
  have hS : va_S A s.heap s.heap [] := va_S.rf
  have hl : lv_has ls 2 [(0, .ref (g.1 4 0)), (1, .int p1)] := hl
  refine lv_aload_n hx hb dX3_put_0 rfl (lv_at hl 0 rfl) ?_
  refine gO (T := TX3) C0 inA3 hK hP (xPad g) rfl 1 (by decide) (hts _ q148) (v := .int (S.1 4 0 0)) rfl dX3_put_1 ?_
  refine lv_if_lt (tgt := 19) hx hb dX3_put_4 (by decide) (fun zc1 => ?_) (fun zc1 => ?_)
  · have hf := hf.trans (if_pos zc1)
    refine lv_iconst (v := 0) hx hb dX3_put_19 (by decide) ?_
    exact rz hQ C0 hr hlocks hK hP hS rfl (by rw [← hF]; exact fin2 hf) dX3_put_20
  · have hf := hf.trans (if_neg zc1)
    refine lv_aload_n hx hb dX3_put_7 rfl (lv_at hl 0 rfl) ?_
    refine gO (T := TX3) C0 inA3 hK hP (xPad g) rfl 1 (by decide) (hts _ q148) (v := .int (S.1 4 0 0)) rfl dX3_put_8 ?_
    refine lv_aload_n hx hb dX3_put_11 rfl (lv_at hl 0 rfl) ?_
    refine gO (T := TX3) C0 inA3 hK hP (xPad g) rfl 0 (by decide) (hts _ q147) (v := .ref (g.1 4 1)) rfl dX3_put_12 ?_
    refine lenI (v := 60) C0 hK hP (xSigns g) rfl dX3_put_15 ?_
    refine lv_icmp_lt (tgt := 21) hx hb dX3_put_16 (by decide) (fun zc2 => ?_) (fun zc2 => ?_)
    · have hf := hf.trans (if_pos zc2)
      refine lv_aload_n hx hb dX3_put_21 rfl (lv_at hl 0 rfl) ?_
      refine gO (T := TX3) C0 inA3 hK hP (xPad g) rfl 0 (by decide) (hts _ q147) (v := .ref (g.1 4 1)) rfl dX3_put_22 ?_
      refine lv_aload_n hx hb dX3_put_25 rfl (lv_at hl 0 rfl) ?_
      refine gO (T := TX3) C0 inA3 hK hP (xPad g) rfl 1 (by decide) (hts _ q148) (v := .int (S.1 4 0 0)) rfl dX3_put_26 ?_
      refine lv_iload_n hx hb dX3_put_29 rfl (lv_at hl 1 rfl) ?_
      refine pI locX C0 hK hP hA hS (xSigns g) (vpx (N := 60) zc1 (Int32.not_le.mpr zc2) rfl (by decide)) dX3_put_30 (fun H locs hP hS => ?_)
      refine lv_aload_n hx hb dX3_put_31 rfl (lv_at hl 0 rfl) ?_
      refine lv_dup hx hb dX3_put_32 rfl ?_
      refine gO (T := TX3) C0 inA3 hK hP (xPad g) rfl 1 (by decide) (hts _ q148) (v := .int ((up S 4 1 (Int32.toNatClampNeg (S.1 4 0 0)) p1).1 4 0 0)) rfl dX3_put_33 ?_
      refine lv_iconst (v := 1) hx hb dX3_put_36 (by decide) ?_
      refine lv_iadd hx hb dX3_put_37 ?_
      refine pO (T := TX3) (ty0 := tyX3) locX C0 inA3 tyX3_ok nmX3 hK hP hA hS (xPad g) rfl 1 (by decide) (hts _ q148) rfl 0 (((up S 4 1 (Int32.toNatClampNeg (S.1 4 0 0)) p1).1 4 0 0) + 1) rfl rfl rfl (Nat.le_of_ble_eq_true rfl) dX3_put_38 (fun H locs hP hS => ?_)
      obtain ⟨zS3, hzS3⟩ : ∃ z : St, z = (up (up S 4 1 (Int32.toNatClampNeg (S.1 4 0 0)) p1) 4 0 0 (((up S 4 1 (Int32.toNatClampNeg (S.1 4 0 0)) p1).1 4 0 0) + 1)) := ⟨_, rfl⟩
      rw [← hzS3] at hP
      have hf := hf.trans (bnd_eq hzS3)
      refine lv_iconst (v := 1) hx hb dX3_put_41 (by decide) ?_
      exact rz hQ C0 hr hlocks hK hP hS rfl (by rw [← hF]; exact fin2 hf) dX3_put_42
    · have hf := hf.trans (if_neg zc2)
      refine lv_iconst (v := 0) hx hb dX3_put_19 (by decide) ?_
      exact rz hQ C0 hr hlocks hK hP hS rfl (by rw [← hF]; exact fin2 hf) dX3_put_20
def tX3_signAt (S : St) (p1 : Int32) : Int32 :=
  (if p1 < 0 then 0 else (if (S.1 4 0 0) ≤ p1 then 0 else (if 60 ≤ p1 then 0 else (S.1 4 1 (Int32.toNatClampNeg p1)))))
set_option maxHeartbeats 4000000 in
set_option maxRecDepth 100000 in
theorem kX3_signAt (l : Launch) (g : Gd) (A : Nat → Prop) (hA : Ads g.1 VX A) (S : St) (p1 : Int32) : Met l yX3_signAt (wU yX3_signAt cX3_signAt 2 (some .int)) { frames := 0, cells := 0, slots := 0, locals := 0 } (va_Pc [.ref (g.1 4 0), .int p1] (PW VX ctX g S)) (va_Qi (fun r u => r = tX3_signAt S p1 ∧ u = S) (fun u U => PW VX ctX g u U) A) 0 0 A := by
  refine ent (cc := cX3_signAt) (maxL := 2) (ret := (some .int)) (by decide) (Nat.le_of_ble_eq_true rfl) ?_
  intro p e s m below meth c args Q C0 hr hlocks hP hK hQ ls hl
  have hx := C0.1
  have hb := C0.2.1
  have hml := C0.2.2.1
  have hown := C0.2.2.2.1
  have hts := C0.2.2.2.2
  obtain ⟨F, hF⟩ : ∃ F : Int32, F = tX3_signAt S p1 := ⟨_, rfl⟩
  have hf := hF
  unfold tX3_signAt at hf
  have hS : va_S A s.heap s.heap [] := va_S.rf
  have hl : lv_has ls 2 [(0, .ref (g.1 4 0)), (1, .int p1)] := hl
  refine lv_iload_n hx hb dX3_signAt_0 rfl (lv_at hl 1 rfl) ?_
  refine lv_if_lt (tgt := 30) hx hb dX3_signAt_1 (by decide) (fun zc1 => ?_) (fun zc1 => ?_)
  · have hf := hf.trans (if_pos zc1)
    refine lv_iconst (v := 0) hx hb dX3_signAt_30 (by decide) ?_
    exact ri hQ C0 hr hlocks hK hP hS (by rw [← hF]; exact ⟨hf.symm, rfl⟩) dX3_signAt_31
  · have hf := hf.trans (if_neg zc1)
    refine lv_iload_n hx hb dX3_signAt_4 rfl (lv_at hl 1 rfl) ?_
    refine lv_aload_n hx hb dX3_signAt_5 rfl (lv_at hl 0 rfl) ?_
    refine gO (T := TX3) C0 inA3 hK hP (xPad g) rfl 1 (by decide) (hts _ q148) (v := .int (S.1 4 0 0)) rfl dX3_signAt_6 ?_
    refine lv_icmp_ge (tgt := 30) hx hb dX3_signAt_9 (by decide) (fun zc2 => ?_) (fun zc2 => ?_)
    · have hf := hf.trans (if_pos zc2)
      refine lv_iconst (v := 0) hx hb dX3_signAt_30 (by decide) ?_
      exact ri hQ C0 hr hlocks hK hP hS (by rw [← hF]; exact ⟨hf.symm, rfl⟩) dX3_signAt_31
    · have hf := hf.trans (if_neg zc2)
      refine lv_iload_n hx hb dX3_signAt_12 rfl (lv_at hl 1 rfl) ?_
      refine lv_aload_n hx hb dX3_signAt_13 rfl (lv_at hl 0 rfl) ?_
      refine gO (T := TX3) C0 inA3 hK hP (xPad g) rfl 0 (by decide) (hts _ q147) (v := .ref (g.1 4 1)) rfl dX3_signAt_14 ?_
      refine lenI (v := 60) C0 hK hP (xSigns g) rfl dX3_signAt_17 ?_
      refine lv_icmp_ge (tgt := 30) hx hb dX3_signAt_18 (by decide) (fun zc3 => ?_) (fun zc3 => ?_)
      · have hf := hf.trans (if_pos zc3)
        refine lv_iconst (v := 0) hx hb dX3_signAt_30 (by decide) ?_
        exact ri hQ C0 hr hlocks hK hP hS (by rw [← hF]; exact ⟨hf.symm, rfl⟩) dX3_signAt_31
      · have hf := hf.trans (if_neg zc3)
        refine lv_aload_n hx hb dX3_signAt_21 rfl (lv_at hl 0 rfl) ?_
        refine gO (T := TX3) C0 inA3 hK hP (xPad g) rfl 0 (by decide) (hts _ q147) (v := .ref (g.1 4 1)) rfl dX3_signAt_22 ?_
        refine lv_iload_n hx hb dX3_signAt_25 rfl (lv_at hl 1 rfl) ?_
        refine gI C0 hK hP (xSigns g) (vpx (N := 60) zc1 zc3 rfl (by decide)) dX3_signAt_26 ?_
        refine lv_goto (tgt := 31) hx hb dX3_signAt_27 (by decide) ?_
        exact ri hQ C0 hr hlocks hK hP hS (by rw [← hF]; exact ⟨hf.symm, rfl⟩) dX3_signAt_31
def tX3_dueBehindDeed (S : St) (p1 : Int32) : Int32 :=
  (if p1 = 105 then 2 else (if p1 = 108 then 3 else (if p1 = 112 then 0 else (if p1 = 115 then 0 else (if p1 = 120 then 0 else (-6))))))
set_option maxHeartbeats 4000000 in
set_option maxRecDepth 100000 in
theorem kX3_dueBehindDeed (l : Launch) (g : Gd) (A : Nat → Prop) (hA : Ads g.1 VX A) (S : St) (p1 : Int32) : Met l yX3_dueBehindDeed (wU yX3_dueBehindDeed cX3_dueBehindDeed 1 (some .int)) { frames := 0, cells := 0, slots := 0, locals := 0 } (va_Pc [.int p1] (PW VX ctX g S)) (va_Qi (fun r u => r = tX3_dueBehindDeed S p1 ∧ u = S) (fun u U => PW VX ctX g u U) A) 0 0 A := by
  refine ent (cc := cX3_dueBehindDeed) (maxL := 1) (ret := (some .int)) (by decide) (Nat.le_of_ble_eq_true rfl) ?_
  intro p e s m below meth c args Q C0 hr hlocks hP hK hQ ls hl
  have hx := C0.1
  have hb := C0.2.1
  have hml := C0.2.2.1
  have hown := C0.2.2.2.1
  have hts := C0.2.2.2.2
  obtain ⟨F, hF⟩ : ∃ F : Int32, F = tX3_dueBehindDeed S p1 := ⟨_, rfl⟩
  have hf := hF
  unfold tX3_dueBehindDeed at hf
  have hS : va_S A s.heap s.heap [] := va_S.rf
  have hl : lv_has ls 1 [(0, .int p1)] := hl
  refine lv_iload_n hx hb dX3_dueBehindDeed_0 rfl (lv_at hl 0 rfl) ?_
  by_cases zc1 : p1 = 105
  · have hf := hf.trans (if_pos zc1)
    refine lv_lookup (off := 51) (tgt := 52) hx hb dX3_dueBehindDeed_1 (by decide) (by rw [zc1]; decide) (by decide) ?_
    refine lv_iconst (v := 2) hx hb dX3_dueBehindDeed_52 (by decide) ?_
    exact ri hQ C0 hr hlocks hK hP hS (by rw [← hF]; exact ⟨hf.symm, rfl⟩) dX3_dueBehindDeed_53
  · have hf := hf.trans (if_neg zc1)
    by_cases zc2 : p1 = 108
    · have hf := hf.trans (if_pos zc2)
      refine lv_lookup (off := 53) (tgt := 54) hx hb dX3_dueBehindDeed_1 (by decide) (by rw [zc2]; decide) (by decide) ?_
      refine lv_iconst (v := 3) hx hb dX3_dueBehindDeed_54 (by decide) ?_
      exact ri hQ C0 hr hlocks hK hP hS (by rw [← hF]; exact ⟨hf.symm, rfl⟩) dX3_dueBehindDeed_55
    · have hf := hf.trans (if_neg zc2)
      by_cases zc3 : p1 = 112
      · have hf := hf.trans (if_pos zc3)
        refine lv_lookup (off := 55) (tgt := 56) hx hb dX3_dueBehindDeed_1 (by decide) (by rw [zc3]; decide) (by decide) ?_
        refine lv_iconst (v := 0) hx hb dX3_dueBehindDeed_56 (by decide) ?_
        exact ri hQ C0 hr hlocks hK hP hS (by rw [← hF]; exact ⟨hf.symm, rfl⟩) dX3_dueBehindDeed_57
      · have hf := hf.trans (if_neg zc3)
        by_cases zc4 : p1 = 115
        · have hf := hf.trans (if_pos zc4)
          refine lv_lookup (off := 55) (tgt := 56) hx hb dX3_dueBehindDeed_1 (by decide) (by rw [zc4]; decide) (by decide) ?_
          refine lv_iconst (v := 0) hx hb dX3_dueBehindDeed_56 (by decide) ?_
          exact ri hQ C0 hr hlocks hK hP hS (by rw [← hF]; exact ⟨hf.symm, rfl⟩) dX3_dueBehindDeed_57
        · have hf := hf.trans (if_neg zc4)
          by_cases zc5 : p1 = 120
          · have hf := hf.trans (if_pos zc5)
            refine lv_lookup (off := 55) (tgt := 56) hx hb dX3_dueBehindDeed_1 (by decide) (by rw [zc5]; decide) (by decide) ?_
            refine lv_iconst (v := 0) hx hb dX3_dueBehindDeed_56 (by decide) ?_
            exact ri hQ C0 hr hlocks hK hP hS (by rw [← hF]; exact ⟨hf.symm, rfl⟩) dX3_dueBehindDeed_57
          · have hf := hf.trans (if_neg zc5)
            refine lv_lookup (off := 57) (tgt := 58) hx hb dX3_dueBehindDeed_1 (by decide) ((lv_osw zc1 (by decide)).trans ((lv_osw zc2 (by decide)).trans ((lv_osw zc3 (by decide)).trans ((lv_osw zc4 (by decide)).trans ((lv_osw zc5 (by decide)).trans rfl))))) (by decide) ?_
            refine lv_bipush (v := (-6)) hx hb dX3_dueBehindDeed_58 (by decide) ?_
            exact ri hQ C0 hr hlocks hK hP hS (by rw [← hF]; exact ⟨hf.symm, rfl⟩) dX3_dueBehindDeed_60
def tX3_dueBehind (S : St) (p1 : Int32) (p2 : Int32) : Int32 :=
  (if p1 = 0 then (if p2 = 46 then 0 else (if wi (p2 - 65) 0 5 then 1 else (-6))) else (if p1 = 1 then (tX3_dueBehindDeed S p2) else (if p1 = 2 then (if wi (p2 - 48) 0 2 then 0 else (-6)) else (if wi (p2 - 48) 0 9 then 0 else (-6)))))
set_option maxHeartbeats 4000000 in
set_option maxRecDepth 100000 in
theorem kX3_dueBehind (l : Launch) (g : Gd) (A : Nat → Prop) (hA : Ads g.1 VX A) (S : St) (p1 : Int32) (p2 : Int32) : Met l yX3_dueBehind (wU yX3_dueBehind cX3_dueBehind 2 (some .int)) { frames := 2, cells := 0, slots := 0, locals := 42 } (va_Pc [.int p1, .int p2] (PW VX ctX g S)) (va_Qi (fun r u => r = tX3_dueBehind S p1 p2 ∧ u = S) (fun u U => PW VX ctX g u U) A) 0 0 A := by
  refine ent (cc := cX3_dueBehind) (maxL := 2) (ret := (some .int)) (by decide) (Nat.le_of_ble_eq_true rfl) ?_
  intro p e s m below meth c args Q C0 hr hlocks hP hK hQ ls hl
  have hx := C0.1
  have hb := C0.2.1
  have hml := C0.2.2.1
  have hown := C0.2.2.2.1
  have hts := C0.2.2.2.2
  obtain ⟨F, hF⟩ : ∃ F : Int32, F = tX3_dueBehind S p1 p2 := ⟨_, rfl⟩
  have hf := hF
  unfold tX3_dueBehind at hf
  have hS : va_S A s.heap s.heap [] := va_S.rf
  have hl : lv_has ls 2 [(0, .int p1), (1, .int p2)] := hl
  refine lv_iload_n hx hb dX3_dueBehind_0 rfl (lv_at hl 0 rfl) ?_
  by_cases zc1 : p1 = 0
  · have hf := hf.trans (if_pos zc1)
    refine lv_tableIn (off := 27) (tgt := 28) hx hb dX3_dueBehind_1 (by rw [zc1]; decide) (by rw [zc1]; decide) (by rw [zc1]; decide) (by decide) ?_
    refine lv_iload_n hx hb dX3_dueBehind_28 rfl (lv_at hl 1 rfl) ?_
    refine lv_bipush (v := 46) hx hb dX3_dueBehind_29 (by decide) ?_
    refine lv_icmp_ne (tgt := 38) hx hb dX3_dueBehind_31 (by decide) (fun zc2 => ?_) (fun zc2 => ?_)
    · have hf := hf.trans (if_neg zc2)
      refine lv_iload_n hx hb dX3_dueBehind_38 rfl (lv_at hl 1 rfl) ?_
      refine kzc (va_runS (As := [.int p2]) (rest := []) C0 (kX3_isLetter l g A hA S p2) (va_cwS 1 hts (gS q375 q376 q49 q377) rfl rfl rfl (by decide +kernel) ⟨Nat.le_of_ble_eq_true rfl, Nat.le_of_ble_eq_true rfl⟩) (preS hP hK) rfl rfl hl.1 rfl (lv_room (Nat.le_of_ble_eq_true rfl)) dX3_dueBehind_39 ⟨Nat.zero_le _, Nat.zero_le _⟩) hS (fun _ h => h) (fun zc3 H locs hP hS => ?_) (fun zc3 H locs hP hS => ?_)
      · have hf := hf.trans (if_pos zc3)
        refine lv_if_eq (tgt := 49) hx hb dX3_dueBehind_42 (by decide) (fun zc4 => absurd zc4 (by decide)) (fun zc4 => ?_)
        refine lv_iconst (v := 1) hx hb dX3_dueBehind_45 (by decide) ?_
        refine lv_goto (tgt := 51) hx hb dX3_dueBehind_46 (by decide) ?_
        exact ri hQ C0 hr hlocks hK hP hS (by rw [← hF]; exact ⟨hf.symm, rfl⟩) dX3_dueBehind_51
      · have hf := hf.trans (if_neg zc3)
        refine lv_if_eq (tgt := 49) hx hb dX3_dueBehind_42 (by decide) (fun zc5 => ?_) (fun zc5 => absurd (by decide) zc5)
        refine lv_bipush (v := (-6)) hx hb dX3_dueBehind_49 (by decide) ?_
        exact ri hQ C0 hr hlocks hK hP hS (by rw [← hF]; exact ⟨hf.symm, rfl⟩) dX3_dueBehind_51
    · have hf := hf.trans (if_pos zc2)
      refine lv_iconst (v := 0) hx hb dX3_dueBehind_34 (by decide) ?_
      refine lv_goto (tgt := 51) hx hb dX3_dueBehind_35 (by decide) ?_
      exact ri hQ C0 hr hlocks hK hP hS (by rw [← hF]; exact ⟨hf.symm, rfl⟩) dX3_dueBehind_51
  · have hf := hf.trans (if_neg zc1)
    by_cases zc6 : p1 = 1
    · have hf := hf.trans (if_pos zc6)
      refine lv_tableIn (off := 51) (tgt := 52) hx hb dX3_dueBehind_1 (by rw [zc6]; decide) (by rw [zc6]; decide) (by rw [zc6]; decide) (by decide) ?_
      refine lv_iload_n hx hb dX3_dueBehind_52 rfl (lv_at hl 1 rfl) ?_
      refine kiP (va_runS (As := [.int p2]) (rest := []) C0 (kX3_dueBehindDeed l g A hA S p2) (va_cwS 1 hts (gS q379 q380 q49 q381) rfl rfl rfl (by decide +kernel) ⟨Nat.le_of_ble_eq_true rfl, Nat.le_of_ble_eq_true rfl⟩) (preS hP hK) rfl rfl hl.1 rfl (lv_room (Nat.le_of_ble_eq_true rfl)) dX3_dueBehind_53 ⟨Nat.zero_le _, Nat.zero_le _⟩) hS (fun _ h => h) (fun H locs hP hS => ?_)
      exact ri hQ C0 hr hlocks hK hP hS (by rw [← hF]; exact ⟨hf.symm, rfl⟩) dX3_dueBehind_56
    · have hf := hf.trans (if_neg zc6)
      by_cases zc7 : p1 = 2
      · have hf := hf.trans (if_pos zc7)
        refine lv_tableIn (off := 56) (tgt := 57) hx hb dX3_dueBehind_1 (by rw [zc7]; decide) (by rw [zc7]; decide) (by rw [zc7]; decide) (by decide) ?_
        refine lv_iload_n hx hb dX3_dueBehind_57 rfl (lv_at hl 1 rfl) ?_
        refine lv_bipush (v := 48) hx hb dX3_dueBehind_58 (by decide) ?_
        refine lv_isub hx hb dX3_dueBehind_60 ?_
        refine lv_iconst (v := 0) hx hb dX3_dueBehind_61 (by decide) ?_
        refine lv_iconst (v := 2) hx hb dX3_dueBehind_62 (by decide) ?_
        refine kzc (va_runSN (As := [.int (p2 - 48), .int 0, .int 2]) (rest := []) C0 (kX7_within l g A hA S (p2 - 48) 0 2) ⟨va_cnB 3 hts (gU q299) rfl rfl rfl hK.2.1 (hts _ q46) (by decide +kernel) ⟨Nat.le_of_ble_eq_true rfl, Nat.le_of_ble_eq_true rfl⟩, hts _ q298, trivial⟩ (preS hP hK) rfl rfl hl.1 rfl (lv_room (Nat.le_of_ble_eq_true rfl)) dX3_dueBehind_63 ⟨Nat.zero_le _, Nat.zero_le _⟩) hS (fun _ h => h) (fun zc8 H locs hP hS => ?_) (fun zc8 H locs hP hS => ?_)
        · have hf := hf.trans (if_pos zc8)
          refine lv_if_eq (tgt := 73) hx hb dX3_dueBehind_66 (by decide) (fun zc9 => absurd zc9 (by decide)) (fun zc9 => ?_)
          refine lv_iconst (v := 0) hx hb dX3_dueBehind_69 (by decide) ?_
          refine lv_goto (tgt := 75) hx hb dX3_dueBehind_70 (by decide) ?_
          exact ri hQ C0 hr hlocks hK hP hS (by rw [← hF]; exact ⟨hf.symm, rfl⟩) dX3_dueBehind_75
        · have hf := hf.trans (if_neg zc8)
          refine lv_if_eq (tgt := 73) hx hb dX3_dueBehind_66 (by decide) (fun zc10 => ?_) (fun zc10 => absurd (by decide) zc10)
          refine lv_bipush (v := (-6)) hx hb dX3_dueBehind_73 (by decide) ?_
          exact ri hQ C0 hr hlocks hK hP hS (by rw [← hF]; exact ⟨hf.symm, rfl⟩) dX3_dueBehind_75
      · have hf := hf.trans (if_neg zc7)
        refine lv_tableOut (tgt := 76) hx hb dX3_dueBehind_1 (by have h0 := lv_neT (a := 0) zc1 (by decide); have h1 := lv_neT (a := 1) zc6 (by decide); have h2 := lv_neT (a := 2) zc7 (by decide); omega) (by decide) ?_
        refine lv_iload_n hx hb dX3_dueBehind_76 rfl (lv_at hl 1 rfl) ?_
        refine lv_bipush (v := 48) hx hb dX3_dueBehind_77 (by decide) ?_
        refine lv_isub hx hb dX3_dueBehind_79 ?_
        refine lv_iconst (v := 0) hx hb dX3_dueBehind_80 (by decide) ?_
        refine lv_bipush (v := 9) hx hb dX3_dueBehind_81 (by decide) ?_
        refine kzc (va_runSN (As := [.int (p2 - 48), .int 0, .int 9]) (rest := []) C0 (kX7_within l g A hA S (p2 - 48) 0 9) ⟨va_cnB 3 hts (gU q299) rfl rfl rfl hK.2.1 (hts _ q46) (by decide +kernel) ⟨Nat.le_of_ble_eq_true rfl, Nat.le_of_ble_eq_true rfl⟩, hts _ q298, trivial⟩ (preS hP hK) rfl rfl hl.1 rfl (lv_room (Nat.le_of_ble_eq_true rfl)) dX3_dueBehind_83 ⟨Nat.zero_le _, Nat.zero_le _⟩) hS (fun _ h => h) (fun zc11 H locs hP hS => ?_) (fun zc11 H locs hP hS => ?_)
        · have hf := hf.trans (if_pos zc11)
          refine lv_if_eq (tgt := 93) hx hb dX3_dueBehind_86 (by decide) (fun zc12 => absurd zc12 (by decide)) (fun zc12 => ?_)
          refine lv_iconst (v := 0) hx hb dX3_dueBehind_89 (by decide) ?_
          refine lv_goto (tgt := 95) hx hb dX3_dueBehind_90 (by decide) ?_
          exact ri hQ C0 hr hlocks hK hP hS (by rw [← hF]; exact ⟨hf.symm, rfl⟩) dX3_dueBehind_95
        · have hf := hf.trans (if_neg zc11)
          refine lv_if_eq (tgt := 93) hx hb dX3_dueBehind_86 (by decide) (fun zc13 => ?_) (fun zc13 => absurd (by decide) zc13)
          refine lv_bipush (v := (-6)) hx hb dX3_dueBehind_93 (by decide) ?_
          exact ri hQ C0 hr hlocks hK hP hS (by rw [← hF]; exact ⟨hf.symm, rfl⟩) dX3_dueBehind_95
def LX3_faultPlace_4 (S : St) : Nat → Nat → Int32 → Int32
  | 0, zi1, zx3 => (if zx3 = 0 then (-6) else (S.1 4 0 0))
  | zk2 + 1, zi1, zx3 => (if (tX3_dueBehind S zx3 (tX3_signAt S (nI zi1))) = (-6) then (nI zi1) else (LX3_faultPlace_4 S zk2 (zi1 + 1) (tX3_dueBehind S zx3 (tX3_signAt S (nI zi1)))))
def tX3_faultPlace (S : St) : Int32 :=
  (LX3_faultPlace_4 S (Int32.toNatClampNeg (S.1 4 0 0)) 0 0)
set_option maxHeartbeats 4000000 in
set_option maxRecDepth 100000 in
theorem kX3_faultPlace (l : Launch) (g : Gd) (A : Nat → Prop) (hA : Ads g.1 VX A) (S : St)  : Met l yX3_faultPlace (wU yX3_faultPlace cX3_faultPlace 3 (some .int)) { frames := 3, cells := 0, slots := 0, locals := 63 } (va_Pc [.ref (g.1 4 0)] (PW VX ctX g S)) (va_Qi (fun r u => r = tX3_faultPlace S ∧ u = S) (fun u U => PW VX ctX g u U) A) 0 0 A := by
  refine ent (cc := cX3_faultPlace) (maxL := 3) (ret := (some .int)) (by decide) (Nat.le_of_ble_eq_true rfl) ?_
  intro p e s m below meth c args Q C0 hr hlocks hP hK hQ ls hl
  have hx := C0.1
  have hb := C0.2.1
  have hml := C0.2.2.1
  have hown := C0.2.2.2.1
  have hts := C0.2.2.2.2
  obtain ⟨F, hF⟩ : ∃ F : Int32, F = tX3_faultPlace S := ⟨_, rfl⟩
  have hf := hF
  unfold tX3_faultPlace at hf
  have hS : va_S A s.heap s.heap [] := va_S.rf
  have hl : lv_has ls 3 [(0, .ref (g.1 4 0))] := hl
  refine lv_iconst (v := 0) hx hb dX3_faultPlace_0 (by decide) ?_
  refine lv_istore_n (lv' := [(1, .int 0), (0, .ref (g.1 4 0))]) hx hb dX3_faultPlace_1 rfl hl (by decide) rfl (fun ls hl => ?_)
  refine lv_iconst (v := 0) hx hb dX3_faultPlace_2 (by decide) ?_
  refine lv_istore_n (lv' := [(2, .int 0), (1, .int 0), (0, .ref (g.1 4 0))]) hx hb dX3_faultPlace_3 rfl hl (by decide) rfl (fun ls hl => ?_)
  have lp4 : ∀ (zk2 zi1 : Nat) (zx3 : Int32) (H : Heap) (locs : List Loc), (zi1 + zk2 = (Int32.toNatClampNeg (S.1 4 0 0))) → (F = LX3_faultPlace_4 S zk2 zi1 zx3) → HW VX ctX g S H → va_S A s.heap H locs → ∀ ls : Array Slot, lv_has ls 3 [(2, .int (nI zi1)), (0, .ref (g.1 4 0)), (1, .int zx3)] → W p l e { frames := 3, cells := 0, slots := 0, locals := 63 } s m args below meth c H locs 0 0 Q (F0 m 4 ls []) := by
    intro zk2
    induction zk2 with
    | zero =>
      intro zi1 zx3 H locs hik hf hP hS ls hl
      rw [LX3_faultPlace_4] at hf
      refine lv_iload_n hx hb dX3_faultPlace_4 rfl (lv_at hl 0 rfl) ?_
      refine lv_aload_n hx hb dX3_faultPlace_5 rfl (lv_at hl 1 rfl) ?_
      refine gO (T := TX3) C0 inA3 hK hP (xPad g) rfl 1 (by decide) (hts _ q148) (v := .int (S.1 4 0 0)) rfl dX3_faultPlace_6 ?_
      refine lv_icmp_ge (tgt := 36) hx hb dX3_faultPlace_9 (by decide) (fun zc4 => ?_) (fun zc4 => absurd (up_sge0 hik) zc4)
      refine lv_iload_n hx hb dX3_faultPlace_36 rfl (lv_at hl 2 rfl) ?_
      refine lv_if_ne (tgt := 45) hx hb dX3_faultPlace_37 (by decide) (fun zc5 => ?_) (fun zc5 => ?_)
      · have hf := hf.trans (if_neg zc5)
        refine lv_aload_n hx hb dX3_faultPlace_45 rfl (lv_at hl 1 rfl) ?_
        refine gO (T := TX3) C0 inA3 hK hP (xPad g) rfl 1 (by decide) (hts _ q148) (v := .int (S.1 4 0 0)) rfl dX3_faultPlace_46 ?_
        exact ri hQ C0 hr hlocks hK hP hS (by rw [← hF]; exact ⟨hf.symm, rfl⟩) dX3_faultPlace_49
      · have hf := hf.trans (if_pos zc5)
        refine lv_bipush (v := (-6)) hx hb dX3_faultPlace_40 (by decide) ?_
        refine lv_goto (tgt := 49) hx hb dX3_faultPlace_42 (by decide) ?_
        exact ri hQ C0 hr hlocks hK hP hS (by rw [← hF]; exact ⟨hf.symm, rfl⟩) dX3_faultPlace_49
    | succ zk2 ih4 =>
      intro zi1 zx3 H locs hik hf hP hS ls hl
      rw [LX3_faultPlace_4] at hf
      refine lv_iload_n hx hb dX3_faultPlace_4 rfl (lv_at hl 0 rfl) ?_
      refine lv_aload_n hx hb dX3_faultPlace_5 rfl (lv_at hl 1 rfl) ?_
      refine gO (T := TX3) C0 inA3 hK hP (xPad g) rfl 1 (by decide) (hts _ q148) (v := .int (S.1 4 0 0)) rfl dX3_faultPlace_6 ?_
      refine lv_icmp_ge (tgt := 36) hx hb dX3_faultPlace_9 (by decide) (fun zc6 => absurd zc6 (up_sge1 hik)) (fun zc6 => ?_)
      refine lv_iload_n hx hb dX3_faultPlace_12 rfl (lv_at hl 2 rfl) ?_
      refine lv_aload_n hx hb dX3_faultPlace_13 rfl (lv_at hl 1 rfl) ?_
      refine lv_iload_n hx hb dX3_faultPlace_14 rfl (lv_at hl 0 rfl) ?_
      refine kiP (va_runV (As := [.int (nI zi1)]) (rest := [.int zx3]) C0 (kX3_signAt l g A hA S (nI zi1)) (cwV 1 hts (gV q368 q369 q370 q49 q371) rfl rfl rfl (by decide +kernel) ⟨Nat.le_of_ble_eq_true rfl, Nat.le_of_ble_eq_true rfl⟩) (preV (recO (xPad g) hP hK rfl) hP hK) rfl rfl hl.1 rfl (lv_room (Nat.le_of_ble_eq_true rfl)) dX3_faultPlace_15 ⟨Nat.zero_le _, Nat.zero_le _⟩) hS (fun _ h => h) (fun H locs hP hS => ?_)
      refine kiP (va_runS (As := [.int zx3, .int (tX3_signAt S (nI zi1))]) (rest := []) C0 (kX3_dueBehind l g A hA S zx3 (tX3_signAt S (nI zi1))) (va_cwS 2 hts (gS q372 q373 q49 q374) rfl rfl rfl (by decide +kernel) ⟨Nat.le_of_ble_eq_true rfl, Nat.le_of_ble_eq_true rfl⟩) (preS hP hK) rfl rfl hl.1 rfl (lv_room (Nat.le_of_ble_eq_true rfl)) dX3_faultPlace_18 ⟨Nat.zero_le _, Nat.zero_le _⟩) hS (fun _ h => h) (fun H locs hP hS => ?_)
      refine lv_istore_n (lv' := [(1, .int (tX3_dueBehind S zx3 (tX3_signAt S (nI zi1)))), (2, .int (nI zi1)), (0, .ref (g.1 4 0))]) hx hb dX3_faultPlace_21 rfl hl (by decide) rfl (fun ls hl => ?_)
      refine lv_iload_n hx hb dX3_faultPlace_22 rfl (lv_at hl 0 rfl) ?_
      refine lv_bipush (v := (-6)) hx hb dX3_faultPlace_23 (by decide) ?_
      refine lv_icmp_ne (tgt := 30) hx hb dX3_faultPlace_25 (by decide) (fun zc7 => ?_) (fun zc7 => ?_)
      · have hf := hf.trans (if_neg zc7)
        refine lv_iinc (v := (nI (zi1 + 1))) (lv' := [(2, .int (nI (zi1 + 1))), (1, .int (tX3_dueBehind S zx3 (tX3_signAt S (nI zi1)))), (0, .ref (g.1 4 0))]) hx hb dX3_faultPlace_30 hl (k := 1) rfl (nI_1 _) (by decide) rfl (fun ls hl => ?_)
        refine lv_goto (tgt := 4) hx hb dX3_faultPlace_33 (by decide) ?_
        exact ih4 (zi1 + 1) (tX3_dueBehind S zx3 (tX3_signAt S (nI zi1))) _ _ (by omega) hf hP hS ls (lv_sub hl [0, 2, 1] rfl)
      · have hf := hf.trans (if_pos zc7)
        refine lv_iload_n hx hb dX3_faultPlace_28 rfl (lv_at hl 1 rfl) ?_
        exact ri hQ C0 hr hlocks hK hP hS (by rw [← hF]; exact ⟨hf.symm, rfl⟩) dX3_faultPlace_29
  exact lp4 (Int32.toNatClampNeg (S.1 4 0 0)) 0 0 _ _ (Nat.zero_add _) hf hP hS ls (lv_sub hl [0, 2, 1] rfl)
def tX3_actBeginsAt (S : St) (p1 : Int32) : Int32 :=
  (if (tX3_signAt S p1) = 46 then 1 else (if wi ((tX3_signAt S p1) - 65) 0 5 then 1 else 0))
set_option maxHeartbeats 4000000 in
set_option maxRecDepth 100000 in
theorem kX3_actBeginsAt (l : Launch) (g : Gd) (A : Nat → Prop) (hA : Ads g.1 VX A) (S : St) (p1 : Int32) : Met l yX3_actBeginsAt (wU yX3_actBeginsAt cX3_actBeginsAt 3 (some .boolean)) { frames := 2, cells := 0, slots := 0, locals := 42 } (va_Pc [.ref (g.1 4 0), .int p1] (PW VX ctX g S)) (va_Qi (fun r u => r = tX3_actBeginsAt S p1 ∧ u = S) (fun u U => PW VX ctX g u U) A) 0 0 A := by
  refine ent (cc := cX3_actBeginsAt) (maxL := 3) (ret := (some .boolean)) (by decide) (Nat.le_of_ble_eq_true rfl) ?_
  intro p e s m below meth c args Q C0 hr hlocks hP hK hQ ls hl
  have hx := C0.1
  have hb := C0.2.1
  have hml := C0.2.2.1
  have hown := C0.2.2.2.1
  have hts := C0.2.2.2.2
  obtain ⟨F, hF⟩ : ∃ F : Int32, F = tX3_actBeginsAt S p1 := ⟨_, rfl⟩
  have hf := hF
  unfold tX3_actBeginsAt at hf
  have hS : va_S A s.heap s.heap [] := va_S.rf
  have hl : lv_has ls 3 [(0, .ref (g.1 4 0)), (1, .int p1)] := hl
  refine lv_aload_n hx hb dX3_actBeginsAt_0 rfl (lv_at hl 0 rfl) ?_
  refine lv_iload_n hx hb dX3_actBeginsAt_1 rfl (lv_at hl 1 rfl) ?_
  refine kiP (va_runV (As := [.int p1]) (rest := []) C0 (kX3_signAt l g A hA S p1) (cwV 1 hts (gV q368 q369 q370 q49 q371) rfl rfl rfl (by decide +kernel) ⟨Nat.le_of_ble_eq_true rfl, Nat.le_of_ble_eq_true rfl⟩) (preV (recO (xPad g) hP hK rfl) hP hK) rfl rfl hl.1 rfl (lv_room (Nat.le_of_ble_eq_true rfl)) dX3_actBeginsAt_2 ⟨Nat.zero_le _, Nat.zero_le _⟩) hS (fun _ h => h) (fun H locs hP hS => ?_)
  refine lv_istore_n (lv' := [(2, .int (tX3_signAt S p1)), (0, .ref (g.1 4 0)), (1, .int p1)]) hx hb dX3_actBeginsAt_5 rfl hl (by decide) rfl (fun ls hl => ?_)
  refine lv_iload_n hx hb dX3_actBeginsAt_6 rfl (lv_at hl 0 rfl) ?_
  refine lv_bipush (v := 46) hx hb dX3_actBeginsAt_7 (by decide) ?_
  refine lv_icmp_eq (tgt := 19) hx hb dX3_actBeginsAt_9 (by decide) (fun zc1 => ?_) (fun zc1 => ?_)
  · have hf := hf.trans (if_pos zc1)
    refine lv_iconst (v := 1) hx hb dX3_actBeginsAt_19 (by decide) ?_
    refine lv_goto (tgt := 24) hx hb dX3_actBeginsAt_20 (by decide) ?_
    exact rz hQ C0 hr hlocks hK hP hS rfl (by rw [← hF]; exact ⟨hf.symm, rfl⟩) dX3_actBeginsAt_24
  · have hf := hf.trans (if_neg zc1)
    refine lv_iload_n hx hb dX3_actBeginsAt_12 rfl (lv_at hl 0 rfl) ?_
    refine kzc (va_runS (As := [.int (tX3_signAt S p1)]) (rest := []) C0 (kX3_isLetter l g A hA S (tX3_signAt S p1)) (va_cwS 1 hts (gS q375 q376 q49 q377) rfl rfl rfl (by decide +kernel) ⟨Nat.le_of_ble_eq_true rfl, Nat.le_of_ble_eq_true rfl⟩) (preS hP hK) rfl rfl hl.1 rfl (lv_room (Nat.le_of_ble_eq_true rfl)) dX3_actBeginsAt_13 ⟨Nat.zero_le _, Nat.zero_le _⟩) hS (fun _ h => h) (fun zc2 H locs hP hS => ?_) (fun zc2 H locs hP hS => ?_)
    · have hf := hf.trans (if_pos zc2)
      refine lv_if_eq (tgt := 23) hx hb dX3_actBeginsAt_16 (by decide) (fun zc3 => absurd zc3 (by decide)) (fun zc3 => ?_)
      refine lv_iconst (v := 1) hx hb dX3_actBeginsAt_19 (by decide) ?_
      refine lv_goto (tgt := 24) hx hb dX3_actBeginsAt_20 (by decide) ?_
      exact rz hQ C0 hr hlocks hK hP hS rfl (by rw [← hF]; exact ⟨hf.symm, rfl⟩) dX3_actBeginsAt_24
    · have hf := hf.trans (if_neg zc2)
      refine lv_if_eq (tgt := 23) hx hb dX3_actBeginsAt_16 (by decide) (fun zc4 => ?_) (fun zc4 => absurd (by decide) zc4)
      refine lv_iconst (v := 0) hx hb dX3_actBeginsAt_23 (by decide) ?_
      exact rz hQ C0 hr hlocks hK hP hS rfl (by rw [← hF]; exact ⟨hf.symm, rfl⟩) dX3_actBeginsAt_24
def tX3_kindAt (S : St) (p1 : Int32) : Int32 :=
  (if (tX3_signAt S p1) = 46 then 46 else (tX3_signAt S (p1 + 1)))
set_option maxHeartbeats 4000000 in
set_option maxRecDepth 100000 in
theorem kX3_kindAt (l : Launch) (g : Gd) (A : Nat → Prop) (hA : Ads g.1 VX A) (S : St) (p1 : Int32) : Met l yX3_kindAt (wU yX3_kindAt cX3_kindAt 2 (some .int)) { frames := 1, cells := 0, slots := 0, locals := 21 } (va_Pc [.ref (g.1 4 0), .int p1] (PW VX ctX g S)) (va_Qi (fun r u => r = tX3_kindAt S p1 ∧ u = S) (fun u U => PW VX ctX g u U) A) 0 0 A := by
  refine ent (cc := cX3_kindAt) (maxL := 2) (ret := (some .int)) (by decide) (Nat.le_of_ble_eq_true rfl) ?_
  intro p e s m below meth c args Q C0 hr hlocks hP hK hQ ls hl
  have hx := C0.1
  have hb := C0.2.1
  have hml := C0.2.2.1
  have hown := C0.2.2.2.1
  have hts := C0.2.2.2.2
  obtain ⟨F, hF⟩ : ∃ F : Int32, F = tX3_kindAt S p1 := ⟨_, rfl⟩
  have hf := hF
  unfold tX3_kindAt at hf
  have hS : va_S A s.heap s.heap [] := va_S.rf
  have hl : lv_has ls 2 [(0, .ref (g.1 4 0)), (1, .int p1)] := hl
  refine lv_aload_n hx hb dX3_kindAt_0 rfl (lv_at hl 0 rfl) ?_
  refine lv_iload_n hx hb dX3_kindAt_1 rfl (lv_at hl 1 rfl) ?_
  refine kiP (va_runV (As := [.int p1]) (rest := []) C0 (kX3_signAt l g A hA S p1) (cwV 1 hts (gV q368 q369 q370 q49 q371) rfl rfl rfl (by decide +kernel) ⟨Nat.le_of_ble_eq_true rfl, Nat.le_of_ble_eq_true rfl⟩) (preV (recO (xPad g) hP hK rfl) hP hK) rfl rfl hl.1 rfl (lv_room (Nat.le_of_ble_eq_true rfl)) dX3_kindAt_2 ⟨Nat.zero_le _, Nat.zero_le _⟩) hS (fun _ h => h) (fun H locs hP hS => ?_)
  refine lv_bipush (v := 46) hx hb dX3_kindAt_5 (by decide) ?_
  refine lv_icmp_ne (tgt := 15) hx hb dX3_kindAt_7 (by decide) (fun zc1 => ?_) (fun zc1 => ?_)
  · have hf := hf.trans (if_neg zc1)
    refine lv_aload_n hx hb dX3_kindAt_15 rfl (lv_at hl 0 rfl) ?_
    refine lv_iload_n hx hb dX3_kindAt_16 rfl (lv_at hl 1 rfl) ?_
    refine lv_iconst (v := 1) hx hb dX3_kindAt_17 (by decide) ?_
    refine lv_iadd hx hb dX3_kindAt_18 ?_
    refine kiP (va_runV (As := [.int (p1 + 1)]) (rest := []) C0 (kX3_signAt l g A hA S (p1 + 1)) (cwV 1 hts (gV q368 q369 q370 q49 q371) rfl rfl rfl (by decide +kernel) ⟨Nat.le_of_ble_eq_true rfl, Nat.le_of_ble_eq_true rfl⟩) (preV (recO (xPad g) hP hK rfl) hP hK) rfl rfl hl.1 rfl (lv_room (Nat.le_of_ble_eq_true rfl)) dX3_kindAt_19 ⟨Nat.zero_le _, Nat.zero_le _⟩) hS (fun _ h => h) (fun H locs hP hS => ?_)
    exact ri hQ C0 hr hlocks hK hP hS (by rw [← hF]; exact ⟨hf.symm, rfl⟩) dX3_kindAt_22
  · have hf := hf.trans (if_pos zc1)
    refine lv_bipush (v := 46) hx hb dX3_kindAt_10 (by decide) ?_
    refine lv_goto (tgt := 22) hx hb dX3_kindAt_12 (by decide) ?_
    exact ri hQ C0 hr hlocks hK hP hS (by rw [← hF]; exact ⟨hf.symm, rfl⟩) dX3_kindAt_22
def tX3_shipNumberAt (S : St) (p1 : Int32) : Int32 :=
  ((tX3_signAt S p1) - 65)
set_option maxHeartbeats 4000000 in
set_option maxRecDepth 100000 in
theorem kX3_shipNumberAt (l : Launch) (g : Gd) (A : Nat → Prop) (hA : Ads g.1 VX A) (S : St) (p1 : Int32) : Met l yX3_shipNumberAt (wU yX3_shipNumberAt cX3_shipNumberAt 2 (some .int)) { frames := 1, cells := 0, slots := 0, locals := 21 } (va_Pc [.ref (g.1 4 0), .int p1] (PW VX ctX g S)) (va_Qi (fun r u => r = tX3_shipNumberAt S p1 ∧ u = S) (fun u U => PW VX ctX g u U) A) 0 0 A := by
  refine ent (cc := cX3_shipNumberAt) (maxL := 2) (ret := (some .int)) (by decide) (Nat.le_of_ble_eq_true rfl) ?_
  intro p e s m below meth c args Q C0 hr hlocks hP hK hQ ls hl
  have hx := C0.1
  have hb := C0.2.1
  have hml := C0.2.2.1
  have hown := C0.2.2.2.1
  have hts := C0.2.2.2.2
  obtain ⟨F, hF⟩ : ∃ F : Int32, F = tX3_shipNumberAt S p1 := ⟨_, rfl⟩
  have hf := hF
  unfold tX3_shipNumberAt at hf
  have hS : va_S A s.heap s.heap [] := va_S.rf
  have hl : lv_has ls 2 [(0, .ref (g.1 4 0)), (1, .int p1)] := hl
  refine lv_aload_n hx hb dX3_shipNumberAt_0 rfl (lv_at hl 0 rfl) ?_
  refine lv_iload_n hx hb dX3_shipNumberAt_1 rfl (lv_at hl 1 rfl) ?_
  refine kiP (va_runV (As := [.int p1]) (rest := []) C0 (kX3_signAt l g A hA S p1) (cwV 1 hts (gV q368 q369 q370 q49 q371) rfl rfl rfl (by decide +kernel) ⟨Nat.le_of_ble_eq_true rfl, Nat.le_of_ble_eq_true rfl⟩) (preV (recO (xPad g) hP hK rfl) hP hK) rfl rfl hl.1 rfl (lv_room (Nat.le_of_ble_eq_true rfl)) dX3_shipNumberAt_2 ⟨Nat.zero_le _, Nat.zero_le _⟩) hS (fun _ h => h) (fun H locs hP hS => ?_)
  refine lv_bipush (v := 65) hx hb dX3_shipNumberAt_5 (by decide) ?_
  refine lv_isub hx hb dX3_shipNumberAt_7 ?_
  exact ri hQ C0 hr hlocks hK hP hS (by rw [← hF]; exact ⟨hf.symm, rfl⟩) dX3_shipNumberAt_8
def tX3_numberAt (S : St) (p1 : Int32) : Int32 :=
  ((tX3_signAt S (p1 + 2)) - 48)
set_option maxHeartbeats 4000000 in
set_option maxRecDepth 100000 in
theorem kX3_numberAt (l : Launch) (g : Gd) (A : Nat → Prop) (hA : Ads g.1 VX A) (S : St) (p1 : Int32) : Met l yX3_numberAt (wU yX3_numberAt cX3_numberAt 2 (some .int)) { frames := 1, cells := 0, slots := 0, locals := 21 } (va_Pc [.ref (g.1 4 0), .int p1] (PW VX ctX g S)) (va_Qi (fun r u => r = tX3_numberAt S p1 ∧ u = S) (fun u U => PW VX ctX g u U) A) 0 0 A := by
  refine ent (cc := cX3_numberAt) (maxL := 2) (ret := (some .int)) (by decide) (Nat.le_of_ble_eq_true rfl) ?_
  intro p e s m below meth c args Q C0 hr hlocks hP hK hQ ls hl
  have hx := C0.1
  have hb := C0.2.1
  have hml := C0.2.2.1
  have hown := C0.2.2.2.1
  have hts := C0.2.2.2.2
  obtain ⟨F, hF⟩ : ∃ F : Int32, F = tX3_numberAt S p1 := ⟨_, rfl⟩
  have hf := hF
  unfold tX3_numberAt at hf
  have hS : va_S A s.heap s.heap [] := va_S.rf
  have hl : lv_has ls 2 [(0, .ref (g.1 4 0)), (1, .int p1)] := hl
  refine lv_aload_n hx hb dX3_numberAt_0 rfl (lv_at hl 0 rfl) ?_
  refine lv_iload_n hx hb dX3_numberAt_1 rfl (lv_at hl 1 rfl) ?_
  refine lv_iconst (v := 2) hx hb dX3_numberAt_2 (by decide) ?_
  refine lv_iadd hx hb dX3_numberAt_3 ?_
  refine kiP (va_runV (As := [.int (p1 + 2)]) (rest := []) C0 (kX3_signAt l g A hA S (p1 + 2)) (cwV 1 hts (gV q368 q369 q370 q49 q371) rfl rfl rfl (by decide +kernel) ⟨Nat.le_of_ble_eq_true rfl, Nat.le_of_ble_eq_true rfl⟩) (preV (recO (xPad g) hP hK rfl) hP hK) rfl rfl hl.1 rfl (lv_room (Nat.le_of_ble_eq_true rfl)) dX3_numberAt_4 ⟨Nat.zero_le _, Nat.zero_le _⟩) hS (fun _ h => h) (fun H locs hP hS => ?_)
  refine lv_bipush (v := 48) hx hb dX3_numberAt_7 (by decide) ?_
  refine lv_isub hx hb dX3_numberAt_9 ?_
  exact ri hQ C0 hr hlocks hK hP hS (by rw [← hF]; exact ⟨hf.symm, rfl⟩) dX3_numberAt_10
def tX6_begin (S : St) : St :=
  (up (up (up (up (up (up (up S 5 0 0 0) 5 0 1 (-6)) 5 0 2 (-6)) 5 0 3 0) 5 0 4 (-6)) 5 0 5 (-6)) 5 0 6 0)
set_option maxHeartbeats 4000000 in
set_option maxRecDepth 100000 in
theorem kX6_begin (l : Launch) (g : Gd) (A : Nat → Prop) (hA : Ads g.1 VX A) (S : St)  : Met l yX6_begin (wU yX6_begin cX6_begin 1 none) { frames := 0, cells := 0, slots := 0, locals := 0 } (va_Pc [.ref (g.1 5 0)] (PW VX ctX g S)) (va_Qv (fun u => u = tX6_begin S) (fun u U => PW VX ctX g u U) A) 0 0 A := by
  refine ent (cc := cX6_begin) (maxL := 1) (ret := none) (by decide) (Nat.le_of_ble_eq_true rfl) ?_
  intro p e s m below meth c args Q C0 hr hlocks hP hK hQ ls hl
  have hx := C0.1
  have hb := C0.2.1
  have hml := C0.2.2.1
  have hown := C0.2.2.2.1
  have hts := C0.2.2.2.2
  obtain ⟨F, hF⟩ : ∃ F : St, F = tX6_begin S := ⟨_, rfl⟩
  have hf := hF
  unfold tX6_begin at hf
  have hS : va_S A s.heap s.heap [] := va_S.rf
  have hl : lv_has ls 1 [(0, .ref (g.1 5 0))] := hl
  refine lv_aload_n hx hb dX6_begin_0 rfl (lv_at hl 0 rfl) ?_
  refine lv_iconst (v := 0) hx hb dX6_begin_1 (by decide) ?_
  refine pO (T := TX6) (ty0 := tyX6) locX C0 inA6 tyX6_ok nmX6 hK hP hA hS (xVoy g) rfl 0 (by decide) (hts _ q162) rfl 0 0 rfl rfl rfl (Nat.le_of_ble_eq_true rfl) dX6_begin_2 (fun H locs hP hS => ?_)
  refine lv_aload_n hx hb dX6_begin_5 rfl (lv_at hl 0 rfl) ?_
  refine lv_bipush (v := (-6)) hx hb dX6_begin_6 (by decide) ?_
  refine pO (T := TX6) (ty0 := tyX6) locX C0 inA6 tyX6_ok nmX6 hK hP hA hS (xVoy g) rfl 1 (by decide) (hts _ q164) rfl 1 (-6) rfl rfl rfl (Nat.le_of_ble_eq_true rfl) dX6_begin_8 (fun H locs hP hS => ?_)
  refine lv_aload_n hx hb dX6_begin_11 rfl (lv_at hl 0 rfl) ?_
  refine lv_bipush (v := (-6)) hx hb dX6_begin_12 (by decide) ?_
  refine pO (T := TX6) (ty0 := tyX6) locX C0 inA6 tyX6_ok nmX6 hK hP hA hS (xVoy g) rfl 2 (by decide) (hts _ q166) rfl 2 (-6) rfl rfl rfl (Nat.le_of_ble_eq_true rfl) dX6_begin_14 (fun H locs hP hS => ?_)
  refine lv_aload_n hx hb dX6_begin_17 rfl (lv_at hl 0 rfl) ?_
  refine lv_iconst (v := 0) hx hb dX6_begin_18 (by decide) ?_
  refine pO (T := TX6) (ty0 := tyX6) locX C0 inA6 tyX6_ok nmX6 hK hP hA hS (xVoy g) rfl 3 (by decide) (hts _ q168) rfl 3 0 rfl rfl rfl (Nat.le_of_ble_eq_true rfl) dX6_begin_19 (fun H locs hP hS => ?_)
  refine lv_aload_n hx hb dX6_begin_22 rfl (lv_at hl 0 rfl) ?_
  refine lv_bipush (v := (-6)) hx hb dX6_begin_23 (by decide) ?_
  refine pO (T := TX6) (ty0 := tyX6) locX C0 inA6 tyX6_ok nmX6 hK hP hA hS (xVoy g) rfl 4 (by decide) (hts _ q170) rfl 4 (-6) rfl rfl rfl (Nat.le_of_ble_eq_true rfl) dX6_begin_25 (fun H locs hP hS => ?_)
  refine lv_aload_n hx hb dX6_begin_28 rfl (lv_at hl 0 rfl) ?_
  refine lv_bipush (v := (-6)) hx hb dX6_begin_29 (by decide) ?_
  refine pO (T := TX6) (ty0 := tyX6) locX C0 inA6 tyX6_ok nmX6 hK hP hA hS (xVoy g) rfl 5 (by decide) (hts _ q172) rfl 5 (-6) rfl rfl rfl (Nat.le_of_ble_eq_true rfl) dX6_begin_31 (fun H locs hP hS => ?_)
  refine lv_aload_n hx hb dX6_begin_34 rfl (lv_at hl 0 rfl) ?_
  refine lv_iconst (v := 0) hx hb dX6_begin_35 (by decide) ?_
  refine pO (T := TX6) (ty0 := tyX6) locX C0 inA6 tyX6_ok nmX6 hK hP hA hS (xVoy g) rfl 6 (by decide) (hts _ q174) rfl 6 0 rfl rfl rfl (Nat.le_of_ble_eq_true rfl) dX6_begin_36 (fun H locs hP hS => ?_)
  exact rv hQ C0 hr hlocks hK hP hS (by rw [← hF]; exact hf.symm) dX6_begin_39
def tX6_noteSinking (S : St) (p1 : Int32) : St :=
  (if (S.1 5 0 6) = 0 then (bnd (up (up (up S 5 0 4 (S.1 5 0 0)) 5 0 5 p1) 5 0 6 (((up (up S 5 0 4 (S.1 5 0 0)) 5 0 5 p1).1 5 0 6) + 1)) (fun zS2 => zS2)) else (up S 5 0 6 ((S.1 5 0 6) + 1)))
set_option maxHeartbeats 4000000 in
set_option maxRecDepth 100000 in
theorem kX6_noteSinking (l : Launch) (g : Gd) (A : Nat → Prop) (hA : Ads g.1 VX A) (S : St) (p1 : Int32) : Met l yX6_noteSinking (wU yX6_noteSinking cX6_noteSinking 2 none) { frames := 0, cells := 0, slots := 0, locals := 0 } (va_Pc [.ref (g.1 5 0), .int p1] (PW VX ctX g S)) (va_Qv (fun u => u = tX6_noteSinking S p1) (fun u U => PW VX ctX g u U) A) 0 0 A := by
  refine ent (cc := cX6_noteSinking) (maxL := 2) (ret := none) (by decide) (Nat.le_of_ble_eq_true rfl) ?_
  intro p e s m below meth c args Q C0 hr hlocks hP hK hQ ls hl
  have hx := C0.1
  have hb := C0.2.1
  have hml := C0.2.2.1
  have hown := C0.2.2.2.1
  have hts := C0.2.2.2.2
  obtain ⟨F, hF⟩ : ∃ F : St, F = tX6_noteSinking S p1 := ⟨_, rfl⟩
  have hf := hF
  unfold tX6_noteSinking at hf
  have hS : va_S A s.heap s.heap [] := va_S.rf
  have hl : lv_has ls 2 [(0, .ref (g.1 5 0)), (1, .int p1)] := hl
  refine lv_aload_n hx hb dX6_noteSinking_0 rfl (lv_at hl 0 rfl) ?_
  refine gO (T := TX6) C0 inA6 hK hP (xVoy g) rfl 6 (by decide) (hts _ q174) (v := .int (S.1 5 0 6)) rfl dX6_noteSinking_1 ?_
  refine lv_if_ne (tgt := 20) hx hb dX6_noteSinking_4 (by decide) (fun zc1 => ?_) (fun zc1 => ?_)
  · have hf := hf.trans (if_neg zc1)
    refine lv_aload_n hx hb dX6_noteSinking_20 rfl (lv_at hl 0 rfl) ?_
    refine lv_dup hx hb dX6_noteSinking_21 rfl ?_
    refine gO (T := TX6) C0 inA6 hK hP (xVoy g) rfl 6 (by decide) (hts _ q174) (v := .int (S.1 5 0 6)) rfl dX6_noteSinking_22 ?_
    refine lv_iconst (v := 1) hx hb dX6_noteSinking_25 (by decide) ?_
    refine lv_iadd hx hb dX6_noteSinking_26 ?_
    refine pO (T := TX6) (ty0 := tyX6) locX C0 inA6 tyX6_ok nmX6 hK hP hA hS (xVoy g) rfl 6 (by decide) (hts _ q174) rfl 6 ((S.1 5 0 6) + 1) rfl rfl rfl (Nat.le_of_ble_eq_true rfl) dX6_noteSinking_27 (fun H locs hP hS => ?_)
    exact rv hQ C0 hr hlocks hK hP hS (by rw [← hF]; exact hf.symm) dX6_noteSinking_30
  · have hf := hf.trans (if_pos zc1)
    refine lv_aload_n hx hb dX6_noteSinking_7 rfl (lv_at hl 0 rfl) ?_
    refine lv_aload_n hx hb dX6_noteSinking_8 rfl (lv_at hl 0 rfl) ?_
    refine gO (T := TX6) C0 inA6 hK hP (xVoy g) rfl 0 (by decide) (hts _ q162) (v := .int (S.1 5 0 0)) rfl dX6_noteSinking_9 ?_
    refine pO (T := TX6) (ty0 := tyX6) locX C0 inA6 tyX6_ok nmX6 hK hP hA hS (xVoy g) rfl 4 (by decide) (hts _ q170) rfl 4 (S.1 5 0 0) rfl rfl rfl (Nat.le_of_ble_eq_true rfl) dX6_noteSinking_12 (fun H locs hP hS => ?_)
    refine lv_aload_n hx hb dX6_noteSinking_15 rfl (lv_at hl 0 rfl) ?_
    refine lv_iload_n hx hb dX6_noteSinking_16 rfl (lv_at hl 1 rfl) ?_
    refine pO (T := TX6) (ty0 := tyX6) locX C0 inA6 tyX6_ok nmX6 hK hP hA hS (xVoy g) rfl 5 (by decide) (hts _ q172) rfl 5 p1 rfl rfl rfl (Nat.le_of_ble_eq_true rfl) dX6_noteSinking_17 (fun H locs hP hS => ?_)
    refine lv_aload_n hx hb dX6_noteSinking_20 rfl (lv_at hl 0 rfl) ?_
    refine lv_dup hx hb dX6_noteSinking_21 rfl ?_
    refine gO (T := TX6) C0 inA6 hK hP (xVoy g) rfl 6 (by decide) (hts _ q174) (v := .int ((up (up S 5 0 4 (S.1 5 0 0)) 5 0 5 p1).1 5 0 6)) rfl dX6_noteSinking_22 ?_
    refine lv_iconst (v := 1) hx hb dX6_noteSinking_25 (by decide) ?_
    refine lv_iadd hx hb dX6_noteSinking_26 ?_
    refine pO (T := TX6) (ty0 := tyX6) locX C0 inA6 tyX6_ok nmX6 hK hP hA hS (xVoy g) rfl 6 (by decide) (hts _ q174) rfl 6 (((up (up S 5 0 4 (S.1 5 0 0)) 5 0 5 p1).1 5 0 6) + 1) rfl rfl rfl (Nat.le_of_ble_eq_true rfl) dX6_noteSinking_27 (fun H locs hP hS => ?_)
    obtain ⟨zS2, hzS2⟩ : ∃ z : St, z = (up (up (up S 5 0 4 (S.1 5 0 0)) 5 0 5 p1) 5 0 6 (((up (up S 5 0 4 (S.1 5 0 0)) 5 0 5 p1).1 5 0 6) + 1)) := ⟨_, rfl⟩
    rw [← hzS2] at hP
    have hf := hf.trans (bnd_eq hzS2)
    exact rv hQ C0 hr hlocks hK hP hS (by rw [← hF]; exact hf.symm) dX6_noteSinking_30
def tX6_take (S : St) (o : Nat) (p1 : Int32) : St :=
  (if (tX2_reasonAgainst S o (tX3_kindAt S p1) (tX3_shipNumberAt S p1) (tX3_numberAt S p1)) = 0 then (bnd (tX2_act S o (tX3_kindAt S p1) (tX3_shipNumberAt S p1) (tX3_numberAt S p1)) (fun zS2 => (if (tX3_kindAt S p1) = 115 then (if (tX3_kindAt S p1) = 120 then (bnd (tX6_noteSinking (up zS2 5 0 3 ((zS2.1 5 0 3) + 1)) (tX3_shipNumberAt S p1)) (fun zS6 => (up zS6 5 0 0 ((zS6.1 5 0 0) + 1)))) else (bnd (up (up zS2 5 0 3 ((zS2.1 5 0 3) + 1)) 5 0 0 (((up zS2 5 0 3 ((zS2.1 5 0 3) + 1)).1 5 0 0) + 1)) (fun zS5 => zS5))) else (if (tX3_kindAt S p1) = 120 then (bnd (tX6_noteSinking (up zS2 5 0 3 ((zS2.1 5 0 3) + 1)) (tX3_shipNumberAt S p1)) (fun zS10 => (up zS10 5 0 0 ((zS10.1 5 0 0) + 1)))) else (up zS2 5 0 0 ((zS2.1 5 0 0) + 1)))))) else (bnd (up (up S 5 0 1 (S.1 5 0 0)) 5 0 2 (tX2_reasonAgainst S o (tX3_kindAt S p1) (tX3_shipNumberAt S p1) (tX3_numberAt S p1))) (fun zS11 => zS11)))
set_option maxHeartbeats 4000000 in
set_option maxRecDepth 100000 in
theorem kX6_take (l : Launch) (g : Gd) (A : Nat → Prop) (hA : Ads g.1 VX A) (S : St) (o : Nat) (p1 : Int32) (ho : o < 4) : Met l yX6_take (wU yX6_take cX6_take 8 none) { frames := 3, cells := 0, slots := 0, locals := 67 } (va_Pc [.ref (g.1 5 0), .ref (g.1 4 0), .int p1, .ref (g.1 o 6)] (PW VX ctX g S)) (va_Qv (fun u => u = tX6_take S o p1) (fun u U => PW VX ctX g u U) A) 0 0 A := by
  refine ent (cc := cX6_take) (maxL := 8) (ret := none) (by decide) (Nat.le_of_ble_eq_true rfl) ?_
  intro p e s m below meth c args Q C0 hr hlocks hP hK hQ ls hl
  have hx := C0.1
  have hb := C0.2.1
  have hml := C0.2.2.1
  have hown := C0.2.2.2.1
  have hts := C0.2.2.2.2
  obtain ⟨F, hF⟩ : ∃ F : St, F = tX6_take S o p1 := ⟨_, rfl⟩
  have hf := hF
  unfold tX6_take at hf
  have hS : va_S A s.heap s.heap [] := va_S.rf
  have hl : lv_has ls 8 [(0, .ref (g.1 5 0)), (1, .ref (g.1 4 0)), (2, .int p1), (3, .ref (g.1 o 6))] := hl
  refine lv_aload_n hx hb dX6_take_0 rfl (lv_at hl 1 rfl) ?_
  refine lv_iload_n hx hb dX6_take_1 rfl (lv_at hl 2 rfl) ?_
  refine kiP (va_runV (As := [.int p1]) (rest := []) C0 (kX3_kindAt l g A hA S p1) (cwV 1 hts (gV q415 q416 q417 q49 q418) rfl rfl rfl (by decide +kernel) ⟨Nat.le_of_ble_eq_true rfl, Nat.le_of_ble_eq_true rfl⟩) (preV (recO (xPad g) hP hK rfl) hP hK) rfl rfl hl.1 rfl (lv_room (Nat.le_of_ble_eq_true rfl)) dX6_take_2 ⟨Nat.zero_le _, Nat.zero_le _⟩) hS (fun _ h => h) (fun H locs hP hS => ?_)
  refine lv_istore (lv' := [(4, .int (tX3_kindAt S p1)), (0, .ref (g.1 5 0)), (1, .ref (g.1 4 0)), (2, .int p1), (3, .ref (g.1 o 6))]) hx hb dX6_take_5 hl (by decide) rfl (fun ls hl => ?_)
  refine lv_aload_n hx hb dX6_take_7 rfl (lv_at hl 2 rfl) ?_
  refine lv_iload_n hx hb dX6_take_8 rfl (lv_at hl 3 rfl) ?_
  refine kiP (va_runV (As := [.int p1]) (rest := []) C0 (kX3_shipNumberAt l g A hA S p1) (cwV 1 hts (gV q419 q420 q421 q49 q422) rfl rfl rfl (by decide +kernel) ⟨Nat.le_of_ble_eq_true rfl, Nat.le_of_ble_eq_true rfl⟩) (preV (recO (xPad g) hP hK rfl) hP hK) rfl rfl hl.1 rfl (lv_room (Nat.le_of_ble_eq_true rfl)) dX6_take_9 ⟨Nat.zero_le _, Nat.zero_le _⟩) hS (fun _ h => h) (fun H locs hP hS => ?_)
  refine lv_istore (lv' := [(5, .int (tX3_shipNumberAt S p1)), (4, .int (tX3_kindAt S p1)), (0, .ref (g.1 5 0)), (1, .ref (g.1 4 0)), (2, .int p1), (3, .ref (g.1 o 6))]) hx hb dX6_take_12 hl (by decide) rfl (fun ls hl => ?_)
  refine lv_aload_n hx hb dX6_take_14 rfl (lv_at hl 3 rfl) ?_
  refine lv_iload_n hx hb dX6_take_15 rfl (lv_at hl 4 rfl) ?_
  refine kiP (va_runV (As := [.int p1]) (rest := []) C0 (kX3_numberAt l g A hA S p1) (cwV 1 hts (gV q423 q424 q425 q49 q426) rfl rfl rfl (by decide +kernel) ⟨Nat.le_of_ble_eq_true rfl, Nat.le_of_ble_eq_true rfl⟩) (preV (recO (xPad g) hP hK rfl) hP hK) rfl rfl hl.1 rfl (lv_room (Nat.le_of_ble_eq_true rfl)) dX6_take_16 ⟨Nat.zero_le _, Nat.zero_le _⟩) hS (fun _ h => h) (fun H locs hP hS => ?_)
  refine lv_istore (lv' := [(6, .int (tX3_numberAt S p1)), (5, .int (tX3_shipNumberAt S p1)), (4, .int (tX3_kindAt S p1)), (0, .ref (g.1 5 0)), (1, .ref (g.1 4 0)), (2, .int p1), (3, .ref (g.1 o 6))]) hx hb dX6_take_19 hl (by decide) rfl (fun ls hl => ?_)
  refine lv_aload_n hx hb dX6_take_21 rfl (lv_at hl 6 rfl) ?_
  refine lv_iload hx hb dX6_take_22 (lv_at hl 2 rfl) ?_
  refine lv_iload hx hb dX6_take_24 (lv_at hl 1 rfl) ?_
  refine lv_iload hx hb dX6_take_26 (lv_at hl 0 rfl) ?_
  refine kiP (va_runV (As := [.int (tX3_kindAt S p1), .int (tX3_shipNumberAt S p1), .int (tX3_numberAt S p1)]) (rest := []) C0 (kX2_reasonAgainst l g A hA S o (tX3_kindAt S p1) (tX3_shipNumberAt S p1) (tX3_numberAt S p1) ho) (cwV 3 hts (gV q427 q428 q429 q47 q430) rfl rfl rfl (by decide +kernel) ⟨Nat.le_of_ble_eq_true rfl, Nat.le_of_ble_eq_true rfl⟩) (preV (recO (xOwner g ho) hP hK rfl) hP hK) rfl rfl hl.1 rfl (lv_room (Nat.le_of_ble_eq_true rfl)) dX6_take_28 ⟨Nat.zero_le _, Nat.zero_le _⟩) hS (fun _ h => h) (fun H locs hP hS => ?_)
  refine lv_istore (lv' := [(7, .int (tX2_reasonAgainst S o (tX3_kindAt S p1) (tX3_shipNumberAt S p1) (tX3_numberAt S p1))), (6, .int (tX3_numberAt S p1)), (5, .int (tX3_shipNumberAt S p1)), (4, .int (tX3_kindAt S p1)), (0, .ref (g.1 5 0)), (1, .ref (g.1 4 0)), (2, .int p1), (3, .ref (g.1 o 6))]) hx hb dX6_take_31 hl (by decide) rfl (fun ls hl => ?_)
  refine lv_iload hx hb dX6_take_33 (lv_at hl 0 rfl) ?_
  refine lv_if_eq (tgt := 53) hx hb dX6_take_35 (by decide) (fun zc1 => ?_) (fun zc1 => ?_)
  · have hf := hf.trans (if_pos zc1)
    refine lv_aload_n hx hb dX6_take_53 rfl (lv_at hl 7 rfl) ?_
    refine lv_iload hx hb dX6_take_54 (lv_at hl 3 rfl) ?_
    refine lv_iload hx hb dX6_take_56 (lv_at hl 2 rfl) ?_
    refine lv_iload hx hb dX6_take_58 (lv_at hl 1 rfl) ?_
    refine kv (va_runV (As := [.int (tX3_kindAt S p1), .int (tX3_shipNumberAt S p1), .int (tX3_numberAt S p1)]) (rest := []) C0 (kX2_act l g A hA S o (tX3_kindAt S p1) (tX3_shipNumberAt S p1) (tX3_numberAt S p1) ho) (cwV 3 hts (gV q440 q441 q442 q47 q443) rfl rfl rfl (by decide +kernel) ⟨Nat.le_of_ble_eq_true rfl, Nat.le_of_ble_eq_true rfl⟩) (preV (recO (xOwner g ho) hP hK rfl) hP hK) rfl rfl hl.1 rfl (lv_room (Nat.le_of_ble_eq_true rfl)) dX6_take_60 ⟨Nat.zero_le _, Nat.zero_le _⟩) hS (fun _ h => h) (fun zS2 H locs hw hP hS => ?_)
    have hf := hf.trans (bnd_eq hw)
    refine lv_iload hx hb dX6_take_63 (lv_at hl 3 rfl) ?_
    refine lv_bipush (v := 115) hx hb dX6_take_65 (by decide) ?_
    refine lv_icmp_eq (tgt := 77) hx hb dX6_take_67 (by decide) (fun zc3 => ?_) (fun zc3 => ?_)
    · have hf := hf.trans (if_pos zc3)
      refine lv_aload_n hx hb dX6_take_77 rfl (lv_at hl 4 rfl) ?_
      refine lv_dup hx hb dX6_take_78 rfl ?_
      refine gO (T := TX6) C0 inA6 hK hP (xVoy g) rfl 3 (by decide) (hts _ q168) (v := .int (zS2.1 5 0 3)) rfl dX6_take_79 ?_
      refine lv_iconst (v := 1) hx hb dX6_take_82 (by decide) ?_
      refine lv_iadd hx hb dX6_take_83 ?_
      refine pO (T := TX6) (ty0 := tyX6) locX C0 inA6 tyX6_ok nmX6 hK hP hA hS (xVoy g) rfl 3 (by decide) (hts _ q168) rfl 3 ((zS2.1 5 0 3) + 1) rfl rfl rfl (Nat.le_of_ble_eq_true rfl) dX6_take_84 (fun H locs hP hS => ?_)
      refine lv_iload hx hb dX6_take_87 (lv_at hl 3 rfl) ?_
      refine lv_bipush (v := 120) hx hb dX6_take_89 (by decide) ?_
      refine lv_icmp_ne (tgt := 100) hx hb dX6_take_91 (by decide) (fun zc4 => ?_) (fun zc4 => ?_)
      · have hf := hf.trans (if_neg zc4)
        refine lv_aload_n hx hb dX6_take_100 rfl (lv_at hl 4 rfl) ?_
        refine lv_dup hx hb dX6_take_101 rfl ?_
        refine gO (T := TX6) C0 inA6 hK hP (xVoy g) rfl 0 (by decide) (hts _ q162) (v := .int ((up zS2 5 0 3 ((zS2.1 5 0 3) + 1)).1 5 0 0)) rfl dX6_take_102 ?_
        refine lv_iconst (v := 1) hx hb dX6_take_105 (by decide) ?_
        refine lv_iadd hx hb dX6_take_106 ?_
        refine pO (T := TX6) (ty0 := tyX6) locX C0 inA6 tyX6_ok nmX6 hK hP hA hS (xVoy g) rfl 0 (by decide) (hts _ q162) rfl 0 (((up zS2 5 0 3 ((zS2.1 5 0 3) + 1)).1 5 0 0) + 1) rfl rfl rfl (Nat.le_of_ble_eq_true rfl) dX6_take_107 (fun H locs hP hS => ?_)
        obtain ⟨zS5, hzS5⟩ : ∃ z : St, z = (up (up zS2 5 0 3 ((zS2.1 5 0 3) + 1)) 5 0 0 (((up zS2 5 0 3 ((zS2.1 5 0 3) + 1)).1 5 0 0) + 1)) := ⟨_, rfl⟩
        rw [← hzS5] at hP
        have hf := hf.trans (bnd_eq hzS5)
        exact rv hQ C0 hr hlocks hK hP hS (by rw [← hF]; exact hf.symm) dX6_take_110
      · have hf := hf.trans (if_pos zc4)
        refine lv_aload_n hx hb dX6_take_94 rfl (lv_at hl 4 rfl) ?_
        refine lv_iload hx hb dX6_take_95 (lv_at hl 2 rfl) ?_
        refine kv (va_runV (As := [.int (tX3_shipNumberAt S p1)]) (rest := []) C0 (kX6_noteSinking l g A hA (up zS2 5 0 3 ((zS2.1 5 0 3) + 1)) (tX3_shipNumberAt S p1)) (cwV 1 hts (gV q460 q462 q6 q50 q463) rfl rfl rfl (by decide +kernel) ⟨Nat.le_of_ble_eq_true rfl, Nat.le_of_ble_eq_true rfl⟩) (preV (recO (xVoy g) hP hK rfl) hP hK) rfl rfl hl.1 rfl (lv_room (Nat.le_of_ble_eq_true rfl)) dX6_take_97 ⟨Nat.zero_le _, Nat.zero_le _⟩) hS (fun _ h => h) (fun zS6 H locs hw hP hS => ?_)
        have hf := hf.trans (bnd_eq hw)
        refine lv_aload_n hx hb dX6_take_100 rfl (lv_at hl 4 rfl) ?_
        refine lv_dup hx hb dX6_take_101 rfl ?_
        refine gO (T := TX6) C0 inA6 hK hP (xVoy g) rfl 0 (by decide) (hts _ q162) (v := .int (zS6.1 5 0 0)) rfl dX6_take_102 ?_
        refine lv_iconst (v := 1) hx hb dX6_take_105 (by decide) ?_
        refine lv_iadd hx hb dX6_take_106 ?_
        refine pO (T := TX6) (ty0 := tyX6) locX C0 inA6 tyX6_ok nmX6 hK hP hA hS (xVoy g) rfl 0 (by decide) (hts _ q162) rfl 0 ((zS6.1 5 0 0) + 1) rfl rfl rfl (Nat.le_of_ble_eq_true rfl) dX6_take_107 (fun H locs hP hS => ?_)
        exact rv hQ C0 hr hlocks hK hP hS (by rw [← hF]; exact hf.symm) dX6_take_110
    · have hf := hf.trans (if_neg zc3)
      refine lv_iload hx hb dX6_take_70 (lv_at hl 3 rfl) ?_
      refine lv_bipush (v := 120) hx hb dX6_take_72 (by decide) ?_
      refine lv_icmp_ne (tgt := 87) hx hb dX6_take_74 (by decide) (fun zc7 => ?_) (fun zc7 => ?_)
      · have hf := hf.trans (if_neg zc7)
        refine lv_iload hx hb dX6_take_87 (lv_at hl 3 rfl) ?_
        refine lv_bipush (v := 120) hx hb dX6_take_89 (by decide) ?_
        refine lv_icmp_ne (tgt := 100) hx hb dX6_take_91 (by decide) (fun zc8 => ?_) (fun zc8 => absurd zc8 zc7)
        refine lv_aload_n hx hb dX6_take_100 rfl (lv_at hl 4 rfl) ?_
        refine lv_dup hx hb dX6_take_101 rfl ?_
        refine gO (T := TX6) C0 inA6 hK hP (xVoy g) rfl 0 (by decide) (hts _ q162) (v := .int (zS2.1 5 0 0)) rfl dX6_take_102 ?_
        refine lv_iconst (v := 1) hx hb dX6_take_105 (by decide) ?_
        refine lv_iadd hx hb dX6_take_106 ?_
        refine pO (T := TX6) (ty0 := tyX6) locX C0 inA6 tyX6_ok nmX6 hK hP hA hS (xVoy g) rfl 0 (by decide) (hts _ q162) rfl 0 ((zS2.1 5 0 0) + 1) rfl rfl rfl (Nat.le_of_ble_eq_true rfl) dX6_take_107 (fun H locs hP hS => ?_)
        exact rv hQ C0 hr hlocks hK hP hS (by rw [← hF]; exact hf.symm) dX6_take_110
      · have hf := hf.trans (if_pos zc7)
        refine lv_aload_n hx hb dX6_take_77 rfl (lv_at hl 4 rfl) ?_
        refine lv_dup hx hb dX6_take_78 rfl ?_
        refine gO (T := TX6) C0 inA6 hK hP (xVoy g) rfl 3 (by decide) (hts _ q168) (v := .int (zS2.1 5 0 3)) rfl dX6_take_79 ?_
        refine lv_iconst (v := 1) hx hb dX6_take_82 (by decide) ?_
        refine lv_iadd hx hb dX6_take_83 ?_
        refine pO (T := TX6) (ty0 := tyX6) locX C0 inA6 tyX6_ok nmX6 hK hP hA hS (xVoy g) rfl 3 (by decide) (hts _ q168) rfl 3 ((zS2.1 5 0 3) + 1) rfl rfl rfl (Nat.le_of_ble_eq_true rfl) dX6_take_84 (fun H locs hP hS => ?_)
        refine lv_iload hx hb dX6_take_87 (lv_at hl 3 rfl) ?_
        refine lv_bipush (v := 120) hx hb dX6_take_89 (by decide) ?_
        refine lv_icmp_ne (tgt := 100) hx hb dX6_take_91 (by decide) (fun zc9 => absurd zc7 zc9) (fun zc9 => ?_)
        refine lv_aload_n hx hb dX6_take_94 rfl (lv_at hl 4 rfl) ?_
        refine lv_iload hx hb dX6_take_95 (lv_at hl 2 rfl) ?_
        refine kv (va_runV (As := [.int (tX3_shipNumberAt S p1)]) (rest := []) C0 (kX6_noteSinking l g A hA (up zS2 5 0 3 ((zS2.1 5 0 3) + 1)) (tX3_shipNumberAt S p1)) (cwV 1 hts (gV q460 q462 q6 q50 q463) rfl rfl rfl (by decide +kernel) ⟨Nat.le_of_ble_eq_true rfl, Nat.le_of_ble_eq_true rfl⟩) (preV (recO (xVoy g) hP hK rfl) hP hK) rfl rfl hl.1 rfl (lv_room (Nat.le_of_ble_eq_true rfl)) dX6_take_97 ⟨Nat.zero_le _, Nat.zero_le _⟩) hS (fun _ h => h) (fun zS10 H locs hw hP hS => ?_)
        have hf := hf.trans (bnd_eq hw)
        refine lv_aload_n hx hb dX6_take_100 rfl (lv_at hl 4 rfl) ?_
        refine lv_dup hx hb dX6_take_101 rfl ?_
        refine gO (T := TX6) C0 inA6 hK hP (xVoy g) rfl 0 (by decide) (hts _ q162) (v := .int (zS10.1 5 0 0)) rfl dX6_take_102 ?_
        refine lv_iconst (v := 1) hx hb dX6_take_105 (by decide) ?_
        refine lv_iadd hx hb dX6_take_106 ?_
        refine pO (T := TX6) (ty0 := tyX6) locX C0 inA6 tyX6_ok nmX6 hK hP hA hS (xVoy g) rfl 0 (by decide) (hts _ q162) rfl 0 ((zS10.1 5 0 0) + 1) rfl rfl rfl (Nat.le_of_ble_eq_true rfl) dX6_take_107 (fun H locs hP hS => ?_)
        exact rv hQ C0 hr hlocks hK hP hS (by rw [← hF]; exact hf.symm) dX6_take_110
  · have hf := hf.trans (if_neg zc1)
    refine lv_aload_n hx hb dX6_take_38 rfl (lv_at hl 4 rfl) ?_
    refine lv_aload_n hx hb dX6_take_39 rfl (lv_at hl 4 rfl) ?_
    refine gO (T := TX6) C0 inA6 hK hP (xVoy g) rfl 0 (by decide) (hts _ q162) (v := .int (S.1 5 0 0)) rfl dX6_take_40 ?_
    refine pO (T := TX6) (ty0 := tyX6) locX C0 inA6 tyX6_ok nmX6 hK hP hA hS (xVoy g) rfl 1 (by decide) (hts _ q164) rfl 1 (S.1 5 0 0) rfl rfl rfl (Nat.le_of_ble_eq_true rfl) dX6_take_43 (fun H locs hP hS => ?_)
    refine lv_aload_n hx hb dX6_take_46 rfl (lv_at hl 4 rfl) ?_
    refine lv_iload hx hb dX6_take_47 (lv_at hl 0 rfl) ?_
    refine pO (T := TX6) (ty0 := tyX6) locX C0 inA6 tyX6_ok nmX6 hK hP hA hS (xVoy g) rfl 2 (by decide) (hts _ q166) rfl 2 (tX2_reasonAgainst S o (tX3_kindAt S p1) (tX3_shipNumberAt S p1) (tX3_numberAt S p1)) rfl rfl rfl (Nat.le_of_ble_eq_true rfl) dX6_take_49 (fun H locs hP hS => ?_)
    obtain ⟨zS11, hzS11⟩ : ∃ z : St, z = (up (up S 5 0 1 (S.1 5 0 0)) 5 0 2 (tX2_reasonAgainst S o (tX3_kindAt S p1) (tX3_shipNumberAt S p1) (tX3_numberAt S p1))) := ⟨_, rfl⟩
    rw [← hzS11] at hP
    have hf := hf.trans (bnd_eq hzS11)
    exact rv hQ C0 hr hlocks hK hP hS (by rw [← hF]; exact hf.symm) dX6_take_52
theorem bnd_def {α β : Type} (a : α) (f : α → β) : bnd a f = f a := rfl
theorem begin_pad (S : St) : (tX6_begin S).1 4 = S.1 4 := by unfold tX6_begin; simp only [up_r _ _ (show (4 : Nat) ≠ 5 by decide)]
theorem putSum_fr (S : St) {o k r : Nat} (h : r ≠ o) (p1 p2 : Int32) : (tX4_putSum S o k p1 p2).1 r = S.1 r := by
  unfold tX4_putSum
  repeat' split
  all_goals simp only [up_r _ _ h]
theorem comeHome_fr (S : St) {o k r : Nat} (h : r ≠ o) : (tX2_comeHome S o k).1 r = S.1 r := by unfold tX2_comeHome; simp only [bnd_def, up_r _ _ h]
theorem sink_fr (S : St) {o k r : Nat} (h : r ≠ o) : (tX2_sink S o k).1 r = S.1 r := by unfold tX2_sink; simp only [bnd_def, up_r _ _ h]
theorem act_fr (S : St) {o r : Nat} (h : r ≠ o) (p1 p2 p3 : Int32) : (tX2_act S o p1 p2 p3).1 r = S.1 r := by
  unfold tX2_act
  repeat' split
  all_goals simp only [bnd_def, up_r _ _ h, putSum_fr S h, comeHome_fr S h, sink_fr S h]
theorem note_fr (S : St) {r : Nat} (h : r ≠ 5) (p1 : Int32) : (tX6_noteSinking S p1).1 r = S.1 r := by
  unfold tX6_noteSinking
  repeat' split
  all_goals simp only [bnd_def, up_r _ _ h]
theorem take_fr (S : St) {o r : Nat} (h : r ≠ o) (h5 : r ≠ 5) (p1 : Int32) : (tX6_take S o p1).1 r = S.1 r := by
  unfold tX6_take
  simp only [bnd_def]
  repeat' split
  all_goals simp only [bnd_def, up_r _ _ h5, note_fr _ h5, act_fr _ h]
theorem take_pad {S : St} {o : Nat} (ho : o < 4) (p1 : Int32) : (tX6_take S o p1).1 4 = S.1 4 := take_fr S (show 4 ≠ o by omega) (by decide) p1
def LX6_run_6 (S : St) (o : Nat) : Nat → Nat → St → St
  | 0, zi2, zS4 => zS4
  | zk3 + 1, zi2, zS4 => (if (zS4.1 5 0 1) = (-6) then (if (tX3_actBeginsAt zS4 (nI zi2)) = 0 then (LX6_run_6 S o zk3 (zi2 + 1) zS4) else (bnd (tX6_take zS4 o (nI zi2)) (fun zS9 => (LX6_run_6 S o zk3 (zi2 + 1) zS9)))) else zS4)
def tX6_run (S : St) (o : Nat) : St :=
  (bnd (tX6_begin S) (fun zS1 => (LX6_run_6 S o (Int32.toNatClampNeg (S.1 4 0 0)) 0 zS1)))
set_option maxHeartbeats 4000000 in
set_option maxRecDepth 100000 in
theorem kX6_run (l : Launch) (g : Gd) (A : Nat → Prop) (hA : Ads g.1 VX A) (S : St) (o : Nat) (ho : o < 4) : Met l yX6_run (wU yX6_run cX6_run 4 none) { frames := 4, cells := 0, slots := 0, locals := 94 } (va_Pc [.ref (g.1 5 0), .ref (g.1 4 0), .ref (g.1 o 6)] (PW VX ctX g S)) (va_Qv (fun u => u = tX6_run S o) (fun u U => PW VX ctX g u U) A) 0 0 A := by
  refine ent (cc := cX6_run) (maxL := 4) (ret := none) (by decide) (Nat.le_of_ble_eq_true rfl) ?_
  intro p e s m below meth c args Q C0 hr hlocks hP hK hQ ls hl
  have hx := C0.1
  have hb := C0.2.1
  have hml := C0.2.2.1
  have hown := C0.2.2.2.1
  have hts := C0.2.2.2.2
  obtain ⟨F, hF⟩ : ∃ F : St, F = tX6_run S o := ⟨_, rfl⟩
  have hf := hF
  unfold tX6_run at hf
  have hS : va_S A s.heap s.heap [] := va_S.rf
  have hl : lv_has ls 4 [(0, .ref (g.1 5 0)), (1, .ref (g.1 4 0)), (2, .ref (g.1 o 6))] := hl
  refine lv_aload_n hx hb dX6_run_0 rfl (lv_at hl 0 rfl) ?_
  refine kv (va_runV (As := []) (rest := []) C0 (kX6_begin l g A hA S ) (cwV 0 hts (gV q403 q405 q1 q50 q406) rfl rfl rfl (by decide +kernel) ⟨Nat.le_of_ble_eq_true rfl, Nat.le_of_ble_eq_true rfl⟩) (preV (recO (xVoy g) hP hK rfl) hP hK) rfl rfl hl.1 rfl (lv_room (Nat.le_of_ble_eq_true rfl)) dX6_run_1 ⟨Nat.zero_le _, Nat.zero_le _⟩) hS (fun _ h => h) (fun zS1 H locs hw hP hS => ?_)
  have hf := hf.trans (bnd_eq hw)
  refine lv_iconst (v := 0) hx hb dX6_run_4 (by decide) ?_
  refine lv_istore_n (lv' := [(3, .int 0), (0, .ref (g.1 5 0)), (1, .ref (g.1 4 0)), (2, .ref (g.1 o 6))]) hx hb dX6_run_5 rfl hl (by decide) rfl (fun ls hl => ?_)
  have lp6 : ∀ (zk3 zi2 : Nat) (zS4 : St) (H : Heap) (locs : List Loc), (zi2 + zk3 = (Int32.toNatClampNeg (S.1 4 0 0))) → (zS4.1 4 0 0 = S.1 4 0 0) → (F = LX6_run_6 S o zk3 zi2 zS4) → HW VX ctX g zS4 H → va_S A s.heap H locs → ∀ ls : Array Slot, lv_has ls 4 [(3, .int (nI zi2)), (0, .ref (g.1 5 0)), (1, .ref (g.1 4 0)), (2, .ref (g.1 o 6))] → W p l e { frames := 4, cells := 0, slots := 0, locals := 94 } s m args below meth c H locs 0 0 Q (F0 m 6 ls []) := by
    intro zk3
    induction zk3 with
    | zero =>
      intro zi2 zS4 H locs hik hi1 hf hP hS ls hl
      rw [LX6_run_6] at hf
      refine lv_iload_n hx hb dX6_run_6 rfl (lv_at hl 0 rfl) ?_
      refine lv_aload_n hx hb dX6_run_7 rfl (lv_at hl 2 rfl) ?_
      refine gO (T := TX3) C0 inA3 hK hP (xPad g) rfl 1 (by decide) (hts _ q149) (v := .int (zS4.1 4 0 0)) rfl dX6_run_8 ?_
      refine lv_icmp_ge (tgt := 44) hx hb dX6_run_11 (by decide) (fun zc5 => ?_) (fun zc5 => absurd (by rw [hi1]; exact up_sge0 hik) zc5)
      exact rv hQ C0 hr hlocks hK hP hS (by rw [← hF]; exact hf.symm) dX6_run_44
    | succ zk3 ih6 =>
      intro zi2 zS4 H locs hik hi1 hf hP hS ls hl
      rw [LX6_run_6] at hf
      refine lv_iload_n hx hb dX6_run_6 rfl (lv_at hl 0 rfl) ?_
      refine lv_aload_n hx hb dX6_run_7 rfl (lv_at hl 2 rfl) ?_
      refine gO (T := TX3) C0 inA3 hK hP (xPad g) rfl 1 (by decide) (hts _ q149) (v := .int (zS4.1 4 0 0)) rfl dX6_run_8 ?_
      refine lv_icmp_ge (tgt := 44) hx hb dX6_run_11 (by decide) (fun zc6 => absurd zc6 (by rw [hi1]; exact up_sge1 hik)) (fun zc6 => ?_)
      refine lv_aload_n hx hb dX6_run_14 rfl (lv_at hl 1 rfl) ?_
      refine gO (T := TX6) C0 inA6 hK hP (xVoy g) rfl 1 (by decide) (hts _ q164) (v := .int (zS4.1 5 0 1)) rfl dX6_run_15 ?_
      refine lv_bipush (v := (-6)) hx hb dX6_run_18 (by decide) ?_
      refine lv_icmp_ne (tgt := 44) hx hb dX6_run_20 (by decide) (fun zc7 => ?_) (fun zc7 => ?_)
      · have hf := hf.trans (if_neg zc7)
        exact rv hQ C0 hr hlocks hK hP hS (by rw [← hF]; exact hf.symm) dX6_run_44
      · have hf := hf.trans (if_pos zc7)
        refine lv_aload_n hx hb dX6_run_23 rfl (lv_at hl 2 rfl) ?_
        refine lv_iload_n hx hb dX6_run_24 rfl (lv_at hl 0 rfl) ?_
        refine kiP (va_runV (As := [.int (nI zi2)]) (rest := []) C0 (kX3_actBeginsAt l g A hA zS4 (nI zi2)) (cwV 1 hts (gV q407 q408 q409 q49 q410) rfl rfl rfl (by decide +kernel) ⟨Nat.le_of_ble_eq_true rfl, Nat.le_of_ble_eq_true rfl⟩) (preV (recO (xPad g) hP hK rfl) hP hK) rfl rfl hl.1 rfl (lv_room (Nat.le_of_ble_eq_true rfl)) dX6_run_25 ⟨Nat.zero_le _, Nat.zero_le _⟩) hS (fun _ h => h) (fun H locs hP hS => ?_)
        refine lv_if_eq (tgt := 38) hx hb dX6_run_28 (by decide) (fun zc8 => ?_) (fun zc8 => ?_)
        · have hf := hf.trans (if_pos zc8)
          refine lv_iinc (v := (nI (zi2 + 1))) (lv' := [(3, .int (nI (zi2 + 1))), (0, .ref (g.1 5 0)), (1, .ref (g.1 4 0)), (2, .ref (g.1 o 6))]) hx hb dX6_run_38 hl (k := 0) rfl (nI_1 _) (by decide) rfl (fun ls hl => ?_)
          refine lv_goto (tgt := 6) hx hb dX6_run_41 (by decide) ?_
          exact ih6 (zi2 + 1) zS4 _ _ (by omega) (by first | exact hi1 | (rw [hw, take_pad ho]; exact hi1)) hf hP hS ls (lv_sub hl [0, 1, 2, 3] rfl)
        · have hf := hf.trans (if_neg zc8)
          refine lv_aload_n hx hb dX6_run_31 rfl (lv_at hl 1 rfl) ?_
          refine lv_aload_n hx hb dX6_run_32 rfl (lv_at hl 2 rfl) ?_
          refine lv_iload_n hx hb dX6_run_33 rfl (lv_at hl 0 rfl) ?_
          refine lv_aload_n hx hb dX6_run_34 rfl (lv_at hl 3 rfl) ?_
          refine kv (va_runV (As := [.ref (g.1 4 0), .int (nI zi2), .ref (g.1 o 6)]) (rest := []) C0 (kX6_take l g A hA zS4 o (nI zi2) ho) (cwV 3 hts (gV q411 q413 q2 q50 q414) rfl rfl rfl (by decide +kernel) ⟨Nat.le_of_ble_eq_true rfl, Nat.le_of_ble_eq_true rfl⟩) (preV (recO (xVoy g) hP hK rfl) hP hK) rfl rfl hl.1 rfl (lv_room (Nat.le_of_ble_eq_true rfl)) dX6_run_35 ⟨Nat.zero_le _, Nat.zero_le _⟩) hS (fun _ h => h) (fun zS9 H locs hw hP hS => ?_)
          have hf := hf.trans (bnd_eq hw)
          refine lv_iinc (v := (nI (zi2 + 1))) (lv' := [(3, .int (nI (zi2 + 1))), (0, .ref (g.1 5 0)), (1, .ref (g.1 4 0)), (2, .ref (g.1 o 6))]) hx hb dX6_run_38 hl (k := 0) rfl (nI_1 _) (by decide) rfl (fun ls hl => ?_)
          refine lv_goto (tgt := 6) hx hb dX6_run_41 (by decide) ?_
          exact ih6 (zi2 + 1) zS9 _ _ (by omega) (by first | exact hi1 | (rw [hw, take_pad ho]; exact hi1)) hf hP hS ls (lv_sub hl [0, 1, 2, 3] rfl)
  exact lp6 (Int32.toNatClampNeg (S.1 4 0 0)) 0 zS1 _ _ (Nat.zero_add _) (by rw [hw, begin_pad]) hf hP hS ls (lv_sub hl [0, 1, 2, 3] rfl)
def tX5_put (S : St) (t : Nat) (p1 : Int32) (p2 : Int32) (p3 : Int32) : Int32 × St :=
  (if (S.1 (6 + t) 0 0) < 0 then (0, S) else (if (S.1 (6 + t) 0 0) < 8 then (bnd (((up (up (up S (6 + t) 1 (Int32.toNatClampNeg (S.1 (6 + t) 0 0)) p1) (6 + t) 2 (Int32.toNatClampNeg ((up S (6 + t) 1 (Int32.toNatClampNeg (S.1 (6 + t) 0 0)) p1).1 (6 + t) 0 0)) p2) (6 + t) 3 (Int32.toNatClampNeg ((up (up S (6 + t) 1 (Int32.toNatClampNeg (S.1 (6 + t) 0 0)) p1) (6 + t) 2 (Int32.toNatClampNeg ((up S (6 + t) 1 (Int32.toNatClampNeg (S.1 (6 + t) 0 0)) p1).1 (6 + t) 0 0)) p2).1 (6 + t) 0 0)) p3).1 (6 + t) 0 0) + 1) (fun zx3 => (1, (up (up (up (up S (6 + t) 1 (Int32.toNatClampNeg (S.1 (6 + t) 0 0)) p1) (6 + t) 2 (Int32.toNatClampNeg ((up S (6 + t) 1 (Int32.toNatClampNeg (S.1 (6 + t) 0 0)) p1).1 (6 + t) 0 0)) p2) (6 + t) 3 (Int32.toNatClampNeg ((up (up S (6 + t) 1 (Int32.toNatClampNeg (S.1 (6 + t) 0 0)) p1) (6 + t) 2 (Int32.toNatClampNeg ((up S (6 + t) 1 (Int32.toNatClampNeg (S.1 (6 + t) 0 0)) p1).1 (6 + t) 0 0)) p2).1 (6 + t) 0 0)) p3) (6 + t) 0 0 zx3)))) else (0, S)))
set_option maxHeartbeats 4000000 in
set_option maxRecDepth 100000 in
theorem kX5_put (l : Launch) (g : Gd) (A : Nat → Prop) (hA : Ads g.1 VX A) (S : St) (t : Nat) (p1 : Int32) (p2 : Int32) (p3 : Int32) (ht : t < 3) : Met l yX5_put (wU yX5_put cX5_put 4 (some .boolean)) { frames := 0, cells := 0, slots := 0, locals := 0 } (va_Pc [.ref (g.1 (6 + t) 0), .int p1, .int p2, .int (b01 p3)] (PW VX ctX g S)) (va_Qi (fun r u => r = (tX5_put S t p1 p2 p3).1 ∧ u = (tX5_put S t p1 p2 p3).2) (fun u U => PW VX ctX g u U) A) 0 0 A := by
  refine ent (cc := cX5_put) (maxL := 4) (ret := (some .boolean)) (by decide) (Nat.le_of_ble_eq_true rfl) ?_
  intro p e s m below meth c args Q C0 hr hlocks hP hK hQ ls hl
  have hx := C0.1
  have hb := C0.2.1
  have hml := C0.2.2.1
  have hown := C0.2.2.2.1
  have hts := C0.2.2.2.2
  obtain ⟨F, hF⟩ : ∃ F : Int32 × St, F = tX5_put S t p1 p2 p3 := ⟨_, rfl⟩
  have hf := hF
  unfold tX5_put at hf
  have hS : va_S A s.heap s.heap [] := va_S.rf
  have hl : lv_has ls 4 [(0, .ref (g.1 (6 + t) 0)), (1, .int p1), (2, .int p2), (3, .int (b01 p3))] := hl
  refine lv_aload_n hx hb dX5_put_0 rfl (lv_at hl 0 rfl) ?_
  refine gO (T := TX5) C0 inA5 hK hP (xTales g ht) rfl 3 (by decide) (hts _ q203) (v := .int (S.1 (6 + t) 0 0)) rfl dX5_put_1 ?_
  refine lv_if_lt (tgt := 16) hx hb dX5_put_4 (by decide) (fun zc1 => ?_) (fun zc1 => ?_)
  · have hf := hf.trans (if_pos zc1)
    refine lv_iconst (v := 0) hx hb dX5_put_16 (by decide) ?_
    exact rz hQ C0 hr hlocks hK hP hS rfl (by rw [← hF]; exact fin2 hf) dX5_put_17
  · have hf := hf.trans (if_neg zc1)
    refine lv_aload_n hx hb dX5_put_7 rfl (lv_at hl 0 rfl) ?_
    refine gO (T := TX5) C0 inA5 hK hP (xTales g ht) rfl 3 (by decide) (hts _ q203) (v := .int (S.1 (6 + t) 0 0)) rfl dX5_put_8 ?_
    refine lv_bipush (v := 8) hx hb dX5_put_11 (by decide) ?_
    refine lv_icmp_lt (tgt := 18) hx hb dX5_put_13 (by decide) (fun zc2 => ?_) (fun zc2 => ?_)
    · have hf := hf.trans (if_pos zc2)
      refine lv_aload_n hx hb dX5_put_18 rfl (lv_at hl 0 rfl) ?_
      refine gO (T := TX5) C0 inA5 hK hP (xTales g ht) rfl 0 (by decide) (hts _ q197) (v := .ref (g.1 (6 + t) 1)) rfl dX5_put_19 ?_
      refine lv_aload_n hx hb dX5_put_22 rfl (lv_at hl 0 rfl) ?_
      refine gO (T := TX5) C0 inA5 hK hP (xTales g ht) rfl 3 (by decide) (hts _ q203) (v := .int (S.1 (6 + t) 0 0)) rfl dX5_put_23 ?_
      refine lv_iload_n hx hb dX5_put_26 rfl (lv_at hl 1 rfl) ?_
      refine pI locX C0 hK hP hA hS (xOnes g ht) (vpx (N := 8) zc1 (Int32.not_le.mpr zc2) rfl (by decide)) dX5_put_27 (fun H locs hP hS => ?_)
      refine lv_aload_n hx hb dX5_put_28 rfl (lv_at hl 0 rfl) ?_
      refine gO (T := TX5) C0 inA5 hK hP (xTales g ht) rfl 1 (by decide) (hts _ q199) (v := .ref (g.1 (6 + t) 2)) rfl dX5_put_29 ?_
      refine lv_aload_n hx hb dX5_put_32 rfl (lv_at hl 0 rfl) ?_
      refine gO (T := TX5) C0 inA5 hK hP (xTales g ht) rfl 3 (by decide) (hts _ q203) (v := .int ((up S (6 + t) 1 (Int32.toNatClampNeg (S.1 (6 + t) 0 0)) p1).1 (6 + t) 0 0)) rfl dX5_put_33 ?_
      refine lv_iload_n hx hb dX5_put_36 rfl (lv_at hl 2 rfl) ?_
      refine pI locX C0 hK hP hA hS (xTwos g ht) (by simp only [up_ne _ _ (show ¬ (6 + t = 6 + t ∧ 0 = 1) by omega), up_ne _ _ (show ¬ (6 + t = 6 + t ∧ 0 = 2) by omega)]; exact vpx (N := 8) zc1 (Int32.not_le.mpr zc2) rfl (by decide)) dX5_put_37 (fun H locs hP hS => ?_)
      refine lv_aload_n hx hb dX5_put_38 rfl (lv_at hl 0 rfl) ?_
      refine gO (T := TX5) C0 inA5 hK hP (xTales g ht) rfl 2 (by decide) (hts _ q201) (v := .ref (g.1 (6 + t) 3)) rfl dX5_put_39 ?_
      refine lv_aload_n hx hb dX5_put_42 rfl (lv_at hl 0 rfl) ?_
      refine gO (T := TX5) C0 inA5 hK hP (xTales g ht) rfl 3 (by decide) (hts _ q203) (v := .int ((up (up S (6 + t) 1 (Int32.toNatClampNeg (S.1 (6 + t) 0 0)) p1) (6 + t) 2 (Int32.toNatClampNeg ((up S (6 + t) 1 (Int32.toNatClampNeg (S.1 (6 + t) 0 0)) p1).1 (6 + t) 0 0)) p2).1 (6 + t) 0 0)) rfl dX5_put_43 ?_
      refine lv_iload_n hx hb dX5_put_46 rfl (lv_at hl 3 rfl) ?_
      refine pZ locX C0 hK hP hA hS (xSames g ht) (v := p3) (by simp only [up_ne _ _ (show ¬ (6 + t = 6 + t ∧ 0 = 1) by omega), up_ne _ _ (show ¬ (6 + t = 6 + t ∧ 0 = 2) by omega)]; exact vpx (N := 8) zc1 (Int32.not_le.mpr zc2) rfl (by decide)) dX5_put_47 (fun H locs hP hS => ?_)
      refine lv_aload_n hx hb dX5_put_48 rfl (lv_at hl 0 rfl) ?_
      refine lv_dup hx hb dX5_put_49 rfl ?_
      refine gO (T := TX5) C0 inA5 hK hP (xTales g ht) rfl 3 (by decide) (hts _ q203) (v := .int ((up (up (up S (6 + t) 1 (Int32.toNatClampNeg (S.1 (6 + t) 0 0)) p1) (6 + t) 2 (Int32.toNatClampNeg ((up S (6 + t) 1 (Int32.toNatClampNeg (S.1 (6 + t) 0 0)) p1).1 (6 + t) 0 0)) p2) (6 + t) 3 (Int32.toNatClampNeg ((up (up S (6 + t) 1 (Int32.toNatClampNeg (S.1 (6 + t) 0 0)) p1) (6 + t) 2 (Int32.toNatClampNeg ((up S (6 + t) 1 (Int32.toNatClampNeg (S.1 (6 + t) 0 0)) p1).1 (6 + t) 0 0)) p2).1 (6 + t) 0 0)) p3).1 (6 + t) 0 0)) rfl dX5_put_50 ?_
      refine lv_iconst (v := 1) hx hb dX5_put_53 (by decide) ?_
      refine lv_iadd hx hb dX5_put_54 ?_
      refine lv_topi (fun zx3 hzx3 => ?_)
      have hf := hf.trans (bnd_eq hzx3)
      refine pO (T := TX5) (ty0 := tyX5) locX C0 inA5 tyX5_ok nmX5 hK hP hA hS (xTales g ht) rfl 3 (by decide) (hts _ q203) rfl 0 zx3 rfl rfl rfl (Nat.le_of_ble_eq_true rfl) dX5_put_55 (fun H locs hP hS => ?_)
      refine lv_iconst (v := 1) hx hb dX5_put_58 (by decide) ?_
      exact rz hQ C0 hr hlocks hK hP hS rfl (by rw [← hF]; exact fin2 hf) dX5_put_59
    · have hf := hf.trans (if_neg zc2)
      refine lv_iconst (v := 0) hx hb dX5_put_16 (by decide) ?_
      exact rz hQ C0 hr hlocks hK hP hS rfl (by rw [← hF]; exact fin2 hf) dX5_put_17
def LX5_copyFrom_2 (S : St) (t : Nat) (t2 : Nat) : Nat → Nat → St → St
  | 0, zi1, zS3 => (up zS3 (6 + t) 0 0 (zS3.1 (6 + t2) 0 0))
  | zk2 + 1, zi1, zS3 => (bnd (up (up zS3 (6 + t) 1 zi1 (zS3.1 (6 + t2) 1 zi1)) (6 + t) 2 zi1 ((up zS3 (6 + t) 1 zi1 (zS3.1 (6 + t2) 1 zi1)).1 (6 + t2) 2 zi1)) (fun zS6 => (LX5_copyFrom_2 S t t2 zk2 (zi1 + 1) (up zS6 (6 + t) 3 zi1 (zS6.1 (6 + t2) 3 zi1)))))
def tX5_copyFrom (S : St) (t : Nat) (t2 : Nat) : St :=
  (LX5_copyFrom_2 S t t2 8 0 S)
set_option maxHeartbeats 4000000 in
set_option maxRecDepth 100000 in
theorem kX5_copyFrom (l : Launch) (g : Gd) (A : Nat → Prop) (hA : Ads g.1 VX A) (S : St) (t : Nat) (t2 : Nat) (ht : t < 3) (ht2 : t2 < 3) : Met l yX5_copyFrom (wU yX5_copyFrom cX5_copyFrom 3 none) { frames := 0, cells := 0, slots := 0, locals := 0 } (va_Pc [.ref (g.1 (6 + t) 0), .ref (g.1 (6 + t2) 0)] (PW VX ctX g S)) (va_Qv (fun u => u = tX5_copyFrom S t t2) (fun u U => PW VX ctX g u U) A) 0 0 A := by
  refine ent (cc := cX5_copyFrom) (maxL := 3) (ret := none) (by decide) (Nat.le_of_ble_eq_true rfl) ?_
  intro p e s m below meth c args Q C0 hr hlocks hP hK hQ ls hl
  have hx := C0.1
  have hb := C0.2.1
  have hml := C0.2.2.1
  have hown := C0.2.2.2.1
  have hts := C0.2.2.2.2
  obtain ⟨F, hF⟩ : ∃ F : St, F = tX5_copyFrom S t t2 := ⟨_, rfl⟩
  have hf := hF
  unfold tX5_copyFrom at hf
  have hS : va_S A s.heap s.heap [] := va_S.rf
  have hl : lv_has ls 3 [(0, .ref (g.1 (6 + t) 0)), (1, .ref (g.1 (6 + t2) 0))] := hl
  refine lv_iconst (v := 0) hx hb dX5_copyFrom_0 (by decide) ?_
  refine lv_istore_n (lv' := [(2, .int 0), (0, .ref (g.1 (6 + t) 0)), (1, .ref (g.1 (6 + t2) 0))]) hx hb dX5_copyFrom_1 rfl hl (by decide) rfl (fun ls hl => ?_)
  have lp2 : ∀ (zk2 zi1 : Nat) (zS3 : St) (H : Heap) (locs : List Loc), (zi1 + zk2 = 8) → (F = LX5_copyFrom_2 S t t2 zk2 zi1 zS3) → HW VX ctX g zS3 H → va_S A s.heap H locs → ∀ ls : Array Slot, lv_has ls 3 [(2, .int (nI zi1)), (0, .ref (g.1 (6 + t) 0)), (1, .ref (g.1 (6 + t2) 0))] → W p l e { frames := 0, cells := 0, slots := 0, locals := 0 } s m args below meth c H locs 0 0 Q (F0 m 2 ls []) := by
    intro zk2
    induction zk2 with
    | zero =>
      intro zi1 zS3 H locs hik hf hP hS ls hl
      rw [LX5_copyFrom_2] at hf
      refine lv_iload_n hx hb dX5_copyFrom_2 rfl (lv_at hl 0 rfl) ?_
      refine lv_bipush (v := 8) hx hb dX5_copyFrom_3 (by decide) ?_
      refine lv_icmp_ge (tgt := 50) hx hb dX5_copyFrom_5 (by decide) (fun zc4 => ?_) (fun zc4 => absurd (up_ge0 rfl hik (by decide)) zc4)
      refine lv_aload_n hx hb dX5_copyFrom_50 rfl (lv_at hl 1 rfl) ?_
      refine lv_aload_n hx hb dX5_copyFrom_51 rfl (lv_at hl 2 rfl) ?_
      refine gO (T := TX5) C0 inA5 hK hP (xTales g ht2) rfl 3 (by decide) (hts _ q203) (v := .int (zS3.1 (6 + t2) 0 0)) rfl dX5_copyFrom_52 ?_
      refine pO (T := TX5) (ty0 := tyX5) locX C0 inA5 tyX5_ok nmX5 hK hP hA hS (xTales g ht) rfl 3 (by decide) (hts _ q203) rfl 0 (zS3.1 (6 + t2) 0 0) rfl rfl rfl (Nat.le_of_ble_eq_true rfl) dX5_copyFrom_55 (fun H locs hP hS => ?_)
      exact rv hQ C0 hr hlocks hK hP hS (by rw [← hF]; exact hf.symm) dX5_copyFrom_58
    | succ zk2 ih2 =>
      intro zi1 zS3 H locs hik hf hP hS ls hl
      rw [LX5_copyFrom_2] at hf
      refine lv_iload_n hx hb dX5_copyFrom_2 rfl (lv_at hl 0 rfl) ?_
      refine lv_bipush (v := 8) hx hb dX5_copyFrom_3 (by decide) ?_
      refine lv_icmp_ge (tgt := 50) hx hb dX5_copyFrom_5 (by decide) (fun zc5 => absurd zc5 (up_ge1 rfl hik (by decide))) (fun zc5 => ?_)
      refine lv_aload_n hx hb dX5_copyFrom_8 rfl (lv_at hl 1 rfl) ?_
      refine gO (T := TX5) C0 inA5 hK hP (xTales g ht) rfl 0 (by decide) (hts _ q197) (v := .ref (g.1 (6 + t) 1)) rfl dX5_copyFrom_9 ?_
      refine lv_iload_n hx hb dX5_copyFrom_12 rfl (lv_at hl 0 rfl) ?_
      refine lv_aload_n hx hb dX5_copyFrom_13 rfl (lv_at hl 2 rfl) ?_
      refine gO (T := TX5) C0 inA5 hK hP (xTales g ht2) rfl 0 (by decide) (hts _ q197) (v := .ref (g.1 (6 + t2) 1)) rfl dX5_copyFrom_14 ?_
      refine lv_iload_n hx hb dX5_copyFrom_17 rfl (lv_at hl 0 rfl) ?_
      refine gI C0 hK hP (xOnes g ht2) (vp_in_nI (by omega) (by decide)) dX5_copyFrom_18 ?_
      rw [nI_clamp (n := zi1) (by omega)]
      refine pI locX C0 hK hP hA hS (xOnes g ht) (vp_in_nI (by omega) (by decide)) dX5_copyFrom_19 (fun H locs hP hS => ?_)
      rw [nI_clamp (n := zi1) (by omega)] at hP
      refine lv_aload_n hx hb dX5_copyFrom_20 rfl (lv_at hl 1 rfl) ?_
      refine gO (T := TX5) C0 inA5 hK hP (xTales g ht) rfl 1 (by decide) (hts _ q199) (v := .ref (g.1 (6 + t) 2)) rfl dX5_copyFrom_21 ?_
      refine lv_iload_n hx hb dX5_copyFrom_24 rfl (lv_at hl 0 rfl) ?_
      refine lv_aload_n hx hb dX5_copyFrom_25 rfl (lv_at hl 2 rfl) ?_
      refine gO (T := TX5) C0 inA5 hK hP (xTales g ht2) rfl 1 (by decide) (hts _ q199) (v := .ref (g.1 (6 + t2) 2)) rfl dX5_copyFrom_26 ?_
      refine lv_iload_n hx hb dX5_copyFrom_29 rfl (lv_at hl 0 rfl) ?_
      refine gI C0 hK hP (xTwos g ht2) (vp_in_nI (by omega) (by decide)) dX5_copyFrom_30 ?_
      rw [nI_clamp (n := zi1) (by omega)]
      refine pI locX C0 hK hP hA hS (xTwos g ht) (vp_in_nI (by omega) (by decide)) dX5_copyFrom_31 (fun H locs hP hS => ?_)
      rw [nI_clamp (n := zi1) (by omega)] at hP
      obtain ⟨zS6, hzS6⟩ : ∃ z : St, z = (up (up zS3 (6 + t) 1 zi1 (zS3.1 (6 + t2) 1 zi1)) (6 + t) 2 zi1 ((up zS3 (6 + t) 1 zi1 (zS3.1 (6 + t2) 1 zi1)).1 (6 + t2) 2 zi1)) := ⟨_, rfl⟩
      rw [← hzS6] at hP
      have hf := hf.trans (bnd_eq hzS6)
      refine lv_aload_n hx hb dX5_copyFrom_32 rfl (lv_at hl 1 rfl) ?_
      refine gO (T := TX5) C0 inA5 hK hP (xTales g ht) rfl 2 (by decide) (hts _ q201) (v := .ref (g.1 (6 + t) 3)) rfl dX5_copyFrom_33 ?_
      refine lv_iload_n hx hb dX5_copyFrom_36 rfl (lv_at hl 0 rfl) ?_
      refine lv_aload_n hx hb dX5_copyFrom_37 rfl (lv_at hl 2 rfl) ?_
      refine gO (T := TX5) C0 inA5 hK hP (xTales g ht2) rfl 2 (by decide) (hts _ q201) (v := .ref (g.1 (6 + t2) 3)) rfl dX5_copyFrom_38 ?_
      refine lv_iload_n hx hb dX5_copyFrom_41 rfl (lv_at hl 0 rfl) ?_
      refine gZ C0 hK hP (xSames g ht2) (vp_in_nI (by omega) (by decide)) dX5_copyFrom_42 ?_
      rw [nI_clamp (n := zi1) (by omega)]
      refine pZ locX C0 hK hP hA hS (xSames g ht) (v := (zS6.1 (6 + t2) 3 zi1)) (vp_in_nI (by omega) (by decide)) dX5_copyFrom_43 (fun H locs hP hS => ?_)
      rw [nI_clamp (n := zi1) (by omega)] at hP
      refine lv_iinc (v := (nI (zi1 + 1))) (lv' := [(2, .int (nI (zi1 + 1))), (0, .ref (g.1 (6 + t) 0)), (1, .ref (g.1 (6 + t2) 0))]) hx hb dX5_copyFrom_44 hl (k := 0) rfl (nI_1 _) (by decide) rfl (fun ls hl => ?_)
      refine lv_goto (tgt := 2) hx hb dX5_copyFrom_47 (by decide) ?_
      exact ih2 (zi1 + 1) (up zS6 (6 + t) 3 zi1 (zS6.1 (6 + t2) 3 zi1)) _ _ (by omega) hf hP hS ls (lv_sub hl [0, 1, 2] rfl)
  exact lp2 8 0 S _ _ (by decide) hf hP hS ls (lv_sub hl [0, 1, 2] rfl)
