def tX8_refusal (S : St) : Int32 × St :=
  (bnd (tX8_keepNow S) (fun zS1 => (bnd (tX8_fault zS1).2 (fun zS3 => bnd (tX8_fault zS1).1 (fun zr2 => (if zr2 < 0 then (bnd (tX8_goVoyages zS3) (fun zS5 => (if (zS5.1 0 0 29) < 0 then ((-6), zS5) else ((-3), zS5)))) else ((-5), zS3)))))))
set_option maxHeartbeats 4000000 in
set_option maxRecDepth 100000 in
theorem kX8_refusal (l : Launch) (g : Gd) (A : Nat → Prop) (hA : Ads g.1 VM A) (S : St)  (hp : wi (S.1 0 0 18) 0 60) : Met l yX8_refusal (wU yX8_refusal cX8_refusal 1 (some .int)) { frames := 4, cells := 0, slots := 0, locals := 91 } (va_Pc [.ref (g.1 0 0)] (PW VM ctM g S)) (va_Qi (fun r u => r = (tX8_refusal S).1 ∧ u = (tX8_refusal S).2) (fun u U => PW VM ctM g u U) A) 0 0 A := by
  refine ent (cc := cX8_refusal) (maxL := 1) (ret := (some .int)) (by decide) (Nat.le_of_ble_eq_true rfl) ?_
  intro p e s m below meth c args Q C0 hr hlocks hP hK hQ ls hl
  have hx := C0.1
  have hb := C0.2.1
  have hml := C0.2.2.1
  have hown := C0.2.2.2.1
  have hts := C0.2.2.2.2
  obtain ⟨F, hF⟩ : ∃ F : Int32 × St, F = tX8_refusal S := ⟨_, rfl⟩
  have hf := hF
  unfold tX8_refusal at hf
  have hS : va_S A s.heap s.heap [] := va_S.rf
  have hl : lv_has ls 1 [(0, .ref (g.1 0 0))] := hl
  refine lv_aload_n hx hb dX8_refusal_0 rfl (lv_at hl 0 rfl) ?_
  refine kv (va_runV (As := []) (rest := []) C0 (kX8_keepNow l g A hA S ) (cwV 0 hts (gV q865 q867 q17 q54 q868) rfl rfl rfl (by decide +kernel) ⟨Nat.le_of_ble_eq_true rfl, Nat.le_of_ble_eq_true rfl⟩) (preV (recO (mMain g) hP hK rfl) hP hK) rfl rfl hl.1 rfl (lv_room (Nat.le_of_ble_eq_true rfl)) dX8_refusal_1 ⟨Nat.zero_le _, Nat.zero_le _⟩) hS (fun _ h => h) (fun zS1 H locs hw hP hS => ?_)
  have hf := hf.trans (bnd_eq hw)
  have hk1 := hw
  refine lv_aload_n hx hb dX8_refusal_4 rfl (lv_at hl 0 rfl) ?_
  refine ki (va_runV (As := []) (rest := []) C0 (kX8_fault l g A hA zS1  (by rw [hw]; exact keep_pad hp)) (cwV 0 hts (gV q869 q841 q842 q54 q843) rfl rfl rfl (by decide +kernel) ⟨Nat.le_of_ble_eq_true rfl, Nat.le_of_ble_eq_true rfl⟩) (preV (recO (mMain g) hP hK rfl) hP hK) rfl rfl hl.1 rfl (lv_room (Nat.le_of_ble_eq_true rfl)) dX8_refusal_5 ⟨Nat.zero_le _, Nat.zero_le _⟩) hS (fun _ h => h) (fun zr2 zS3 H locs hw hP hS => ?_)
  have hf := (hf.trans (bnd_eq hw.2)).trans (bnd_eq hw.1)
  refine lv_if_lt (tgt := 14) hx hb dX8_refusal_8 (by decide) (fun zc4 => ?_) (fun zc4 => ?_)
  · have hf := hf.trans (if_pos zc4)
    refine lv_aload_n hx hb dX8_refusal_14 rfl (lv_at hl 0 rfl) ?_
    refine kv (va_runV (As := []) (rest := []) C0 (kX8_goVoyages l g A hA zS3  (by rw [hw.2, hk1]; exact (fault_ok _ (keep_pad hp)).1) (by rw [hw.2, hk1]; exact (fault_ok _ (keep_pad hp)).2)) (cwV 0 hts (gV q870 q872 q18 q54 q873) rfl rfl rfl (by decide +kernel) ⟨Nat.le_of_ble_eq_true rfl, Nat.le_of_ble_eq_true rfl⟩) (preV (recO (mMain g) hP hK rfl) hP hK) rfl rfl hl.1 rfl (lv_room (Nat.le_of_ble_eq_true rfl)) dX8_refusal_15 ⟨Nat.zero_le _, Nat.zero_le _⟩) hS (fun _ h => h) (fun zS5 H locs hw hP hS => ?_)
    have hf := hf.trans (bnd_eq hw)
    refine lv_aload_n hx hb dX8_refusal_18 rfl (lv_at hl 0 rfl) ?_
    refine gO (T := TX8) C0 inA8 hK hP (mMain g) rfl 29 (by decide) (hts _ q705) (v := .int (zS5.1 0 0 29)) rfl dX8_refusal_19 ?_
    refine lv_if_lt (tgt := 30) hx hb dX8_refusal_22 (by decide) (fun zc6 => ?_) (fun zc6 => ?_)
    · have hf := hf.trans (if_pos zc6)
      refine lv_bipush (v := (-6)) hx hb dX8_refusal_30 (by decide) ?_
      exact ri hQ C0 hr hlocks hK hP hS (by rw [← hF]; exact fin2 hf) dX8_refusal_32
    · have hf := hf.trans (if_neg zc6)
      refine lv_bipush (v := (-3)) hx hb dX8_refusal_25 (by decide) ?_
      refine lv_goto (tgt := 32) hx hb dX8_refusal_27 (by decide) ?_
      exact ri hQ C0 hr hlocks hK hP hS (by rw [← hF]; exact fin2 hf) dX8_refusal_32
  · have hf := hf.trans (if_neg zc4)
    refine lv_bipush (v := (-5)) hx hb dX8_refusal_11 (by decide) ?_
    exact ri hQ C0 hr hlocks hK hP hS (by rw [← hF]; exact fin2 hf) dX8_refusal_13
def tX8_judge (S : St) (p1 : Int32) : Int32 × St :=
  (if wj (Int32.toInt64 p1) 0 2 then (bnd (tX8_refusal S).2 (fun zS4 => bnd (tX8_refusal S).1 (fun zr3 => (bnd (tX8_back zS4 zr3).2 (fun zS6 => bnd (tX8_back zS4 zr3).1 (fun zr5 => (if zr5 = (-5) then (zr5, zS6) else (if p1 ≤ 1 then (if p1 = 0 then ((zS6.1 0 0 29), zS6) else (if p1 = 1 then ((zS6.1 0 0 30), zS6) else ((zS6.1 0 0 23), zS6))) else (if zr5 = (-3) then (zr5, zS6) else (if p1 = 0 then ((zS6.1 0 0 29), zS6) else (if p1 = 1 then ((zS6.1 0 0 30), zS6) else ((zS6.1 0 0 23), zS6)))))))))))) else ((-2), S))
set_option maxHeartbeats 4000000 in
set_option maxRecDepth 100000 in
theorem kX8_judge (l : Launch) (g : Gd) (A : Nat → Prop) (hA : Ads g.1 VM A) (S : St) (p1 : Int32) (hp : wi (S.1 0 0 18) 0 60) : Met l yX8_judge (wU yX8_judge cX8_judge 3 (some .int)) { frames := 5, cells := 0, slots := 0, locals := 111 } (va_Pc [.ref (g.1 0 0), .int p1] (PW VM ctM g S)) (va_Qi (fun r u => r = (tX8_judge S p1).1 ∧ u = (tX8_judge S p1).2) (fun u U => PW VM ctM g u U) A) 0 0 A := by
  refine ent (cc := cX8_judge) (maxL := 3) (ret := (some .int)) (by decide) (Nat.le_of_ble_eq_true rfl) ?_
  intro p e s m below meth c args Q C0 hr hlocks hP hK hQ ls hl
  have hx := C0.1
  have hb := C0.2.1
  have hml := C0.2.2.1
  have hown := C0.2.2.2.1
  have hts := C0.2.2.2.2
  obtain ⟨F, hF⟩ : ∃ F : Int32 × St, F = tX8_judge S p1 := ⟨_, rfl⟩
  have hf := hF
  unfold tX8_judge at hf
  have hS : va_S A s.heap s.heap [] := va_S.rf
  have hl : lv_has ls 3 [(0, .ref (g.1 0 0)), (1, .int p1)] := hl
  refine lv_iload_n hx hb dX8_judge_0 rfl (lv_at hl 1 rfl) ?_
  refine lv_i2l (v := (Int32.toInt64 p1)) hx hb dX8_judge_1 rfl ?_
  refine lv_lconst (v := 0) hx hb dX8_judge_2 (by decide) ?_
  refine lv_ldc2 (v := 2) hx hb hown (hts _ q820) dX8_judge_3 ?_
  refine kzc (va_runS (As := [.long (Int32.toInt64 p1), .long 0, .long 2]) (rest := []) C0 (kX8_in l g A hA S (Int32.toInt64 p1) 0 2) (va_cwS 3 hts (gS q799 q800 q54 q801) rfl rfl rfl (by decide +kernel) ⟨Nat.le_of_ble_eq_true rfl, Nat.le_of_ble_eq_true rfl⟩) (preS hP hK) rfl rfl hl.1 rfl (lv_room (Nat.le_of_ble_eq_true rfl)) dX8_judge_6 ⟨Nat.zero_le _, Nat.zero_le _⟩) hS (fun _ h => h) (fun zc1 H locs hP hS => ?_) (fun zc1 H locs hP hS => ?_)
  · have hf := hf.trans (if_pos zc1)
    refine lv_if_ne (tgt := 15) hx hb dX8_judge_9 (by decide) (fun zc2 => ?_) (fun zc2 => absurd zc2 (by decide))
    refine lv_aload_n hx hb dX8_judge_15 rfl (lv_at hl 0 rfl) ?_
    refine lv_aload_n hx hb dX8_judge_16 rfl (lv_at hl 0 rfl) ?_
    refine ki (va_runV (As := []) (rest := [.ref (g.1 0 0)]) C0 (kX8_refusal l g A hA S  hp) (cwV 0 hts (gV q861 q863 q16 q54 q864) rfl rfl rfl (by decide +kernel) ⟨Nat.le_of_ble_eq_true rfl, Nat.le_of_ble_eq_true rfl⟩) (preV (recO (mMain g) hP hK rfl) hP hK) rfl rfl hl.1 rfl (lv_room (Nat.le_of_ble_eq_true rfl)) dX8_judge_17 ⟨Nat.zero_le _, Nat.zero_le _⟩) hS (fun _ h => h) (fun zr3 zS4 H locs hw hP hS => ?_)
    have hf := (hf.trans (bnd_eq hw.2)).trans (bnd_eq hw.1)
    refine ki (va_runV (As := [.int zr3]) (rest := []) C0 (kX8_back l g A hA zS4 zr3) (cwV 1 hts (gV q906 q908 q27 q54 q909) rfl rfl rfl (by decide +kernel) ⟨Nat.le_of_ble_eq_true rfl, Nat.le_of_ble_eq_true rfl⟩) (preV (recO (mMain g) hP hK rfl) hP hK) rfl rfl hl.1 rfl (lv_room (Nat.le_of_ble_eq_true rfl)) dX8_judge_20 ⟨Nat.zero_le _, Nat.zero_le _⟩) hS (fun _ h => h) (fun zr5 zS6 H locs hw hP hS => ?_)
    have hf := (hf.trans (bnd_eq hw.2)).trans (bnd_eq hw.1)
    refine lv_istore_n (lv' := [(2, .int zr5), (0, .ref (g.1 0 0)), (1, .int p1)]) hx hb dX8_judge_23 rfl hl (by decide) rfl (fun ls hl => ?_)
    refine lv_iload_n hx hb dX8_judge_24 rfl (lv_at hl 0 rfl) ?_
    refine lv_bipush (v := (-5)) hx hb dX8_judge_25 (by decide) ?_
    refine lv_icmp_eq (tgt := 41) hx hb dX8_judge_27 (by decide) (fun zc7 => ?_) (fun zc7 => ?_)
    · have hf := hf.trans (if_pos zc7)
      refine lv_iload_n hx hb dX8_judge_41 rfl (lv_at hl 0 rfl) ?_
      exact ri hQ C0 hr hlocks hK hP hS (by rw [← hF]; exact fin2 hf) dX8_judge_42
    · have hf := hf.trans (if_neg zc7)
      refine lv_iload_n hx hb dX8_judge_30 rfl (lv_at hl 2 rfl) ?_
      refine lv_iconst (v := 1) hx hb dX8_judge_31 (by decide) ?_
      refine lv_icmp_le (tgt := 43) hx hb dX8_judge_32 (by decide) (fun zc8 => ?_) (fun zc8 => ?_)
      · have hf := hf.trans (if_pos zc8)
        refine lv_iload_n hx hb dX8_judge_43 rfl (lv_at hl 2 rfl) ?_
        refine lv_if_ne (tgt := 54) hx hb dX8_judge_44 (by decide) (fun zc9 => ?_) (fun zc9 => ?_)
        · have hf := hf.trans (if_neg zc9)
          refine lv_iload_n hx hb dX8_judge_54 rfl (lv_at hl 2 rfl) ?_
          refine lv_iconst (v := 1) hx hb dX8_judge_55 (by decide) ?_
          refine lv_icmp_ne (tgt := 66) hx hb dX8_judge_56 (by decide) (fun zc10 => ?_) (fun zc10 => ?_)
          · have hf := hf.trans (if_neg zc10)
            refine lv_aload_n hx hb dX8_judge_66 rfl (lv_at hl 1 rfl) ?_
            refine gO (T := TX8) C0 inA8 hK hP (mMain g) rfl 23 (by decide) (hts _ q699) (v := .int (zS6.1 0 0 23)) rfl dX8_judge_67 ?_
            exact ri hQ C0 hr hlocks hK hP hS (by rw [← hF]; exact fin2 hf) dX8_judge_70
          · have hf := hf.trans (if_pos zc10)
            refine lv_aload_n hx hb dX8_judge_59 rfl (lv_at hl 1 rfl) ?_
            refine gO (T := TX8) C0 inA8 hK hP (mMain g) rfl 30 (by decide) (hts _ q706) (v := .int (zS6.1 0 0 30)) rfl dX8_judge_60 ?_
            refine lv_goto (tgt := 70) hx hb dX8_judge_63 (by decide) ?_
            exact ri hQ C0 hr hlocks hK hP hS (by rw [← hF]; exact fin2 hf) dX8_judge_70
        · have hf := hf.trans (if_pos zc9)
          refine lv_aload_n hx hb dX8_judge_47 rfl (lv_at hl 1 rfl) ?_
          refine gO (T := TX8) C0 inA8 hK hP (mMain g) rfl 29 (by decide) (hts _ q705) (v := .int (zS6.1 0 0 29)) rfl dX8_judge_48 ?_
          refine lv_goto (tgt := 70) hx hb dX8_judge_51 (by decide) ?_
          exact ri hQ C0 hr hlocks hK hP hS (by rw [← hF]; exact fin2 hf) dX8_judge_70
      · have hf := hf.trans (if_neg zc8)
        refine lv_iload_n hx hb dX8_judge_35 rfl (lv_at hl 0 rfl) ?_
        refine lv_bipush (v := (-3)) hx hb dX8_judge_36 (by decide) ?_
        refine lv_icmp_ne (tgt := 43) hx hb dX8_judge_38 (by decide) (fun zc11 => ?_) (fun zc11 => ?_)
        · have hf := hf.trans (if_neg zc11)
          refine lv_iload_n hx hb dX8_judge_43 rfl (lv_at hl 2 rfl) ?_
          refine lv_if_ne (tgt := 54) hx hb dX8_judge_44 (by decide) (fun zc12 => ?_) (fun zc12 => ?_)
          · have hf := hf.trans (if_neg zc12)
            refine lv_iload_n hx hb dX8_judge_54 rfl (lv_at hl 2 rfl) ?_
            refine lv_iconst (v := 1) hx hb dX8_judge_55 (by decide) ?_
            refine lv_icmp_ne (tgt := 66) hx hb dX8_judge_56 (by decide) (fun zc13 => ?_) (fun zc13 => ?_)
            · have hf := hf.trans (if_neg zc13)
              refine lv_aload_n hx hb dX8_judge_66 rfl (lv_at hl 1 rfl) ?_
              refine gO (T := TX8) C0 inA8 hK hP (mMain g) rfl 23 (by decide) (hts _ q699) (v := .int (zS6.1 0 0 23)) rfl dX8_judge_67 ?_
              exact ri hQ C0 hr hlocks hK hP hS (by rw [← hF]; exact fin2 hf) dX8_judge_70
            · have hf := hf.trans (if_pos zc13)
              refine lv_aload_n hx hb dX8_judge_59 rfl (lv_at hl 1 rfl) ?_
              refine gO (T := TX8) C0 inA8 hK hP (mMain g) rfl 30 (by decide) (hts _ q706) (v := .int (zS6.1 0 0 30)) rfl dX8_judge_60 ?_
              refine lv_goto (tgt := 70) hx hb dX8_judge_63 (by decide) ?_
              exact ri hQ C0 hr hlocks hK hP hS (by rw [← hF]; exact fin2 hf) dX8_judge_70
          · have hf := hf.trans (if_pos zc12)
            refine lv_aload_n hx hb dX8_judge_47 rfl (lv_at hl 1 rfl) ?_
            refine gO (T := TX8) C0 inA8 hK hP (mMain g) rfl 29 (by decide) (hts _ q705) (v := .int (zS6.1 0 0 29)) rfl dX8_judge_48 ?_
            refine lv_goto (tgt := 70) hx hb dX8_judge_51 (by decide) ?_
            exact ri hQ C0 hr hlocks hK hP hS (by rw [← hF]; exact fin2 hf) dX8_judge_70
        · have hf := hf.trans (if_pos zc11)
          refine lv_iload_n hx hb dX8_judge_41 rfl (lv_at hl 0 rfl) ?_
          exact ri hQ C0 hr hlocks hK hP hS (by rw [← hF]; exact fin2 hf) dX8_judge_42
  · have hf := hf.trans (if_neg zc1)
    refine lv_if_ne (tgt := 15) hx hb dX8_judge_9 (by decide) (fun zc14 => absurd (by decide) zc14) (fun zc14 => ?_)
    refine lv_bipush (v := (-2)) hx hb dX8_judge_12 (by decide) ?_
    exact ri hQ C0 hr hlocks hK hP hS (by rw [← hF]; exact fin2 hf) dX8_judge_14
def tX8_ofShip (S : St) (p1 : Int32) (p2 : Int32) : Int32 :=
  (if p2 = 0 then (S.1 0 2 (Int32.toNatClampNeg p1)) else (if p2 = 1 then (S.1 0 5 (Int32.toNatClampNeg p1)) else (if p2 = 2 then (tX8_insured S p1) else (if p2 = 3 then (tX8_risk S p1) else ((ishrF (S.1 0 0 1) p1) &&& 1)))))
set_option maxHeartbeats 4000000 in
set_option maxRecDepth 100000 in
theorem kX8_ofShip (l : Launch) (g : Gd) (A : Nat → Prop) (hA : Ads g.1 VM A) (S : St) (p1 : Int32) (p2 : Int32) (hk : vp_in p1 6) : Met l yX8_ofShip (wU yX8_ofShip cX8_ofShip 3 (some .int)) { frames := 2, cells := 0, slots := 0, locals := 43 } (va_Pc [.ref (g.1 0 0), .int p1, .int p2] (PW VM ctM g S)) (va_Qi (fun r u => r = tX8_ofShip S p1 p2 ∧ u = S) (fun u U => PW VM ctM g u U) A) 0 0 A := by
  refine ent (cc := cX8_ofShip) (maxL := 3) (ret := (some .int)) (by decide) (Nat.le_of_ble_eq_true rfl) ?_
  intro p e s m below meth c args Q C0 hr hlocks hP hK hQ ls hl
  have hx := C0.1
  have hb := C0.2.1
  have hml := C0.2.2.1
  have hown := C0.2.2.2.1
  have hts := C0.2.2.2.2
  obtain ⟨F, hF⟩ : ∃ F : Int32, F = tX8_ofShip S p1 p2 := ⟨_, rfl⟩
  have hf := hF
  unfold tX8_ofShip at hf
  have hS : va_S A s.heap s.heap [] := va_S.rf
  have hl : lv_has ls 3 [(0, .ref (g.1 0 0)), (1, .int p1), (2, .int p2)] := hl
  refine lv_iload_n hx hb dX8_ofShip_0 rfl (lv_at hl 2 rfl) ?_
  by_cases zc1 : p2 = 0
  · have hf := hf.trans (if_pos zc1)
    refine lv_tableIn (off := 31) (tgt := 32) hx hb dX8_ofShip_1 (by rw [zc1]; decide) (by rw [zc1]; decide) (by rw [zc1]; decide) (by decide) ?_
    refine lv_aload_n hx hb dX8_ofShip_32 rfl (lv_at hl 0 rfl) ?_
    refine gO (T := TX8) C0 inA8 hK hP (mMain g) rfl 2 (by decide) (hts _ q678) (v := .ref (g.1 0 2)) rfl dX8_ofShip_33 ?_
    refine lv_iload_n hx hb dX8_ofShip_36 rfl (lv_at hl 1 rfl) ?_
    refine gI C0 hK hP (mAge g) hk dX8_ofShip_37 ?_
    exact ri hQ C0 hr hlocks hK hP hS (by rw [← hF]; exact ⟨hf.symm, rfl⟩) dX8_ofShip_38
  · have hf := hf.trans (if_neg zc1)
    by_cases zc2 : p2 = 1
    · have hf := hf.trans (if_pos zc2)
      refine lv_tableIn (off := 38) (tgt := 39) hx hb dX8_ofShip_1 (by rw [zc2]; decide) (by rw [zc2]; decide) (by rw [zc2]; decide) (by decide) ?_
      refine lv_aload_n hx hb dX8_ofShip_39 rfl (lv_at hl 0 rfl) ?_
      refine gO (T := TX8) C0 inA8 hK hP (mMain g) rfl 5 (by decide) (hts _ q681) (v := .ref (g.1 0 5)) rfl dX8_ofShip_40 ?_
      refine lv_iload_n hx hb dX8_ofShip_43 rfl (lv_at hl 1 rfl) ?_
      refine gI C0 hK hP (mLoads g) hk dX8_ofShip_44 ?_
      exact ri hQ C0 hr hlocks hK hP hS (by rw [← hF]; exact ⟨hf.symm, rfl⟩) dX8_ofShip_45
    · have hf := hf.trans (if_neg zc2)
      by_cases zc3 : p2 = 2
      · have hf := hf.trans (if_pos zc3)
        refine lv_tableIn (off := 45) (tgt := 46) hx hb dX8_ofShip_1 (by rw [zc3]; decide) (by rw [zc3]; decide) (by rw [zc3]; decide) (by decide) ?_
        refine lv_aload_n hx hb dX8_ofShip_46 rfl (lv_at hl 0 rfl) ?_
        refine lv_iload_n hx hb dX8_ofShip_47 rfl (lv_at hl 1 rfl) ?_
        refine kiP (va_runV (As := [.int p1]) (rest := []) C0 (kX8_insured l g A hA S p1 hk) (cwV 1 hts (gV q902 q904 q26 q54 q905) rfl rfl rfl (by decide +kernel) ⟨Nat.le_of_ble_eq_true rfl, Nat.le_of_ble_eq_true rfl⟩) (preV (recO (mMain g) hP hK rfl) hP hK) rfl rfl hl.1 rfl (lv_room (Nat.le_of_ble_eq_true rfl)) dX8_ofShip_48 ⟨Nat.zero_le _, Nat.zero_le _⟩) hS (fun _ h => h) (fun H locs hP hS => ?_)
        exact ri hQ C0 hr hlocks hK hP hS (by rw [← hF]; exact ⟨hf.symm, rfl⟩) dX8_ofShip_51
      · have hf := hf.trans (if_neg zc3)
        by_cases zc4 : p2 = 3
        · have hf := hf.trans (if_pos zc4)
          refine lv_tableIn (off := 51) (tgt := 52) hx hb dX8_ofShip_1 (by rw [zc4]; decide) (by rw [zc4]; decide) (by rw [zc4]; decide) (by decide) ?_
          refine lv_aload_n hx hb dX8_ofShip_52 rfl (lv_at hl 0 rfl) ?_
          refine lv_iload_n hx hb dX8_ofShip_53 rfl (lv_at hl 1 rfl) ?_
          refine kiP (va_runV (As := [.int p1]) (rest := []) C0 (kX8_risk l g A hA S p1 hk) (cwV 1 hts (gV q882 q884 q21 q54 q885) rfl rfl rfl (by decide +kernel) ⟨Nat.le_of_ble_eq_true rfl, Nat.le_of_ble_eq_true rfl⟩) (preV (recO (mMain g) hP hK rfl) hP hK) rfl rfl hl.1 rfl (lv_room (Nat.le_of_ble_eq_true rfl)) dX8_ofShip_54 ⟨Nat.zero_le _, Nat.zero_le _⟩) hS (fun _ h => h) (fun H locs hP hS => ?_)
          exact ri hQ C0 hr hlocks hK hP hS (by rw [← hF]; exact ⟨hf.symm, rfl⟩) dX8_ofShip_57
        · have hf := hf.trans (if_neg zc4)
          refine lv_tableOut (tgt := 58) hx hb dX8_ofShip_1 (by have h0 := lv_neT (a := 0) zc1 (by decide); have h1 := lv_neT (a := 1) zc2 (by decide); have h2 := lv_neT (a := 2) zc3 (by decide); have h3 := lv_neT (a := 3) zc4 (by decide); omega) (by decide) ?_
          refine lv_aload_n hx hb dX8_ofShip_58 rfl (lv_at hl 0 rfl) ?_
          refine gO (T := TX8) C0 inA8 hK hP (mMain g) rfl 1 (by decide) (hts _ q677) (v := .int (S.1 0 0 1)) rfl dX8_ofShip_59 ?_
          refine lv_iload_n hx hb dX8_ofShip_62 rfl (lv_at hl 1 rfl) ?_
          refine kishr hx hb dX8_ofShip_63 ?_
          refine lv_iconst (v := 1) hx hb dX8_ofShip_64 (by decide) ?_
          refine lv_iand hx hb dX8_ofShip_65 ?_
          exact ri hQ C0 hr hlocks hK hP hS (by rw [← hF]; exact ⟨hf.symm, rfl⟩) dX8_ofShip_66
def tX8_behind (S : St) (p1 : Int32) (p2 : Int32) : Int32 × St :=
  (if mSh S p1 then (if wj (Int32.toInt64 p2) 0 4 then (bnd (tX8_refusal S).2 (fun zS6 => bnd (tX8_refusal S).1 (fun zr5 => (if zr5 = (-6) then (bnd (tX8_back zS6 (tX8_ofShip zS6 p1 p2)).2 (fun zS9 => bnd (tX8_back zS6 (tX8_ofShip zS6 p1 p2)).1 (fun zr8 => (zr8, zS9)))) else (bnd (tX8_back zS6 zr5).2 (fun zS11 => bnd (tX8_back zS6 zr5).1 (fun zr10 => (zr10, zS11)))))))) else ((-2), S)) else ((-1), S))
set_option maxHeartbeats 4000000 in
set_option maxRecDepth 100000 in
theorem kX8_behind (l : Launch) (g : Gd) (A : Nat → Prop) (hA : Ads g.1 VM A) (S : St) (p1 : Int32) (p2 : Int32) (hp : wi (S.1 0 0 18) 0 60) : Met l yX8_behind (wU yX8_behind cX8_behind 4 (some .int)) { frames := 5, cells := 0, slots := 0, locals := 111 } (va_Pc [.ref (g.1 0 0), .int p1, .int p2] (PW VM ctM g S)) (va_Qi (fun r u => r = (tX8_behind S p1 p2).1 ∧ u = (tX8_behind S p1 p2).2) (fun u U => PW VM ctM g u U) A) 0 0 A := by
  refine ent (cc := cX8_behind) (maxL := 4) (ret := (some .int)) (by decide) (Nat.le_of_ble_eq_true rfl) ?_
  intro p e s m below meth c args Q C0 hr hlocks hP hK hQ ls hl
  have hx := C0.1
  have hb := C0.2.1
  have hml := C0.2.2.1
  have hown := C0.2.2.2.1
  have hts := C0.2.2.2.2
  obtain ⟨F, hF⟩ : ∃ F : Int32 × St, F = tX8_behind S p1 p2 := ⟨_, rfl⟩
  have hf := hF
  unfold tX8_behind at hf
  have hS : va_S A s.heap s.heap [] := va_S.rf
  have hl : lv_has ls 4 [(0, .ref (g.1 0 0)), (1, .int p1), (2, .int p2)] := hl
  refine lv_aload_n hx hb dX8_behind_0 rfl (lv_at hl 0 rfl) ?_
  refine lv_iload_n hx hb dX8_behind_1 rfl (lv_at hl 1 rfl) ?_
  refine kzc (va_runV (As := [.int p1]) (rest := []) C0 (kX8_isShip l g A hA S p1) (cwV 1 hts (gV q812 q814 q13 q54 q815) rfl rfl rfl (by decide +kernel) ⟨Nat.le_of_ble_eq_true rfl, Nat.le_of_ble_eq_true rfl⟩) (preV (recO (mMain g) hP hK rfl) hP hK) rfl rfl hl.1 rfl (lv_room (Nat.le_of_ble_eq_true rfl)) dX8_behind_2 ⟨Nat.zero_le _, Nat.zero_le _⟩) hS (fun _ h => h) (fun zc1 H locs hP hS => ?_) (fun zc1 H locs hP hS => ?_)
  · have hf := hf.trans (if_pos zc1)
    refine lv_if_ne (tgt := 10) hx hb dX8_behind_5 (by decide) (fun zc2 => ?_) (fun zc2 => absurd zc2 (by decide))
    refine lv_iload_n hx hb dX8_behind_10 rfl (lv_at hl 2 rfl) ?_
    refine lv_i2l (v := (Int32.toInt64 p2)) hx hb dX8_behind_11 rfl ?_
    refine lv_lconst (v := 0) hx hb dX8_behind_12 (by decide) ?_
    refine lv_ldc2 (v := 4) hx hb hown (hts _ q914) dX8_behind_13 ?_
    refine kzc (va_runS (As := [.long (Int32.toInt64 p2), .long 0, .long 4]) (rest := []) C0 (kX8_in l g A hA S (Int32.toInt64 p2) 0 4) (va_cwS 3 hts (gS q799 q800 q54 q801) rfl rfl rfl (by decide +kernel) ⟨Nat.le_of_ble_eq_true rfl, Nat.le_of_ble_eq_true rfl⟩) (preS hP hK) rfl rfl hl.1 rfl (lv_room (Nat.le_of_ble_eq_true rfl)) dX8_behind_16 ⟨Nat.zero_le _, Nat.zero_le _⟩) hS (fun _ h => h) (fun zc3 H locs hP hS => ?_) (fun zc3 H locs hP hS => ?_)
    · have hf := hf.trans (if_pos zc3)
      refine lv_if_ne (tgt := 25) hx hb dX8_behind_19 (by decide) (fun zc4 => ?_) (fun zc4 => absurd zc4 (by decide))
      refine lv_aload_n hx hb dX8_behind_25 rfl (lv_at hl 0 rfl) ?_
      refine ki (va_runV (As := []) (rest := []) C0 (kX8_refusal l g A hA S  hp) (cwV 0 hts (gV q861 q863 q16 q54 q864) rfl rfl rfl (by decide +kernel) ⟨Nat.le_of_ble_eq_true rfl, Nat.le_of_ble_eq_true rfl⟩) (preV (recO (mMain g) hP hK rfl) hP hK) rfl rfl hl.1 rfl (lv_room (Nat.le_of_ble_eq_true rfl)) dX8_behind_26 ⟨Nat.zero_le _, Nat.zero_le _⟩) hS (fun _ h => h) (fun zr5 zS6 H locs hw hP hS => ?_)
      have hf := (hf.trans (bnd_eq hw.2)).trans (bnd_eq hw.1)
      refine lv_istore_n (lv' := [(3, .int zr5), (0, .ref (g.1 0 0)), (1, .int p1), (2, .int p2)]) hx hb dX8_behind_29 rfl hl (by decide) rfl (fun ls hl => ?_)
      refine lv_aload_n hx hb dX8_behind_30 rfl (lv_at hl 1 rfl) ?_
      refine lv_iload_n hx hb dX8_behind_31 rfl (lv_at hl 0 rfl) ?_
      refine lv_bipush (v := (-6)) hx hb dX8_behind_32 (by decide) ?_
      refine lv_icmp_eq (tgt := 41) hx hb dX8_behind_34 (by decide) (fun zc7 => ?_) (fun zc7 => ?_)
      · have hf := hf.trans (if_pos zc7)
        refine lv_aload_n hx hb dX8_behind_41 rfl (lv_at hl 1 rfl) ?_
        refine lv_iload_n hx hb dX8_behind_42 rfl (lv_at hl 2 rfl) ?_
        refine lv_iload_n hx hb dX8_behind_43 rfl (lv_at hl 3 rfl) ?_
        refine kiP (va_runV (As := [.int p1, .int p2]) (rest := [.ref (g.1 0 0)]) C0 (kX8_ofShip l g A hA zS6 p1 p2 (mSh_in zc1)) (cwV 2 hts (gV q915 q917 q28 q54 q918) rfl rfl rfl (by decide +kernel) ⟨Nat.le_of_ble_eq_true rfl, Nat.le_of_ble_eq_true rfl⟩) (preV (recO (mMain g) hP hK rfl) hP hK) rfl rfl hl.1 rfl (lv_room (Nat.le_of_ble_eq_true rfl)) dX8_behind_44 ⟨Nat.zero_le _, Nat.zero_le _⟩) hS (fun _ h => h) (fun H locs hP hS => ?_)
        refine ki (va_runV (As := [.int (tX8_ofShip zS6 p1 p2)]) (rest := []) C0 (kX8_back l g A hA zS6 (tX8_ofShip zS6 p1 p2)) (cwV 1 hts (gV q906 q908 q27 q54 q909) rfl rfl rfl (by decide +kernel) ⟨Nat.le_of_ble_eq_true rfl, Nat.le_of_ble_eq_true rfl⟩) (preV (recO (mMain g) hP hK rfl) hP hK) rfl rfl hl.1 rfl (lv_room (Nat.le_of_ble_eq_true rfl)) dX8_behind_47 ⟨Nat.zero_le _, Nat.zero_le _⟩) hS (fun _ h => h) (fun zr8 zS9 H locs hw hP hS => ?_)
        have hf := (hf.trans (bnd_eq hw.2)).trans (bnd_eq hw.1)
        exact ri hQ C0 hr hlocks hK hP hS (by rw [← hF]; exact fin2 hf) dX8_behind_50
      · have hf := hf.trans (if_neg zc7)
        refine lv_iload_n hx hb dX8_behind_37 rfl (lv_at hl 0 rfl) ?_
        refine lv_goto (tgt := 47) hx hb dX8_behind_38 (by decide) ?_
        refine ki (va_runV (As := [.int zr5]) (rest := []) C0 (kX8_back l g A hA zS6 zr5) (cwV 1 hts (gV q906 q908 q27 q54 q909) rfl rfl rfl (by decide +kernel) ⟨Nat.le_of_ble_eq_true rfl, Nat.le_of_ble_eq_true rfl⟩) (preV (recO (mMain g) hP hK rfl) hP hK) rfl rfl hl.1 rfl (lv_room (Nat.le_of_ble_eq_true rfl)) dX8_behind_47 ⟨Nat.zero_le _, Nat.zero_le _⟩) hS (fun _ h => h) (fun zr10 zS11 H locs hw hP hS => ?_)
        have hf := (hf.trans (bnd_eq hw.2)).trans (bnd_eq hw.1)
        exact ri hQ C0 hr hlocks hK hP hS (by rw [← hF]; exact fin2 hf) dX8_behind_50
    · have hf := hf.trans (if_neg zc3)
      refine lv_if_ne (tgt := 25) hx hb dX8_behind_19 (by decide) (fun zc12 => absurd (by decide) zc12) (fun zc12 => ?_)
      refine lv_bipush (v := (-2)) hx hb dX8_behind_22 (by decide) ?_
      exact ri hQ C0 hr hlocks hK hP hS (by rw [← hF]; exact fin2 hf) dX8_behind_24
  · have hf := hf.trans (if_neg zc1)
    refine lv_if_ne (tgt := 10) hx hb dX8_behind_5 (by decide) (fun zc13 => absurd (by decide) zc13) (fun zc13 => ?_)
    refine lv_iconst (v := (-1)) hx hb dX8_behind_8 (by decide) ?_
    exact ri hQ C0 hr hlocks hK hP hS (by rw [← hF]; exact fin2 hf) dX8_behind_9
def tX8_ofAll (S : St) (p1 : Int32) : Int32 :=
  (if p1 = 0 then ((S.1 0 0 11) + 100000) else (if p1 = 1 then (S.1 0 0 12) else (if p1 = 2 then (S.1 0 0 9) else (S.1 0 0 10))))
set_option maxHeartbeats 4000000 in
set_option maxRecDepth 100000 in
theorem kX8_ofAll (l : Launch) (g : Gd) (A : Nat → Prop) (hA : Ads g.1 VM A) (S : St) (p1 : Int32) : Met l yX8_ofAll (wU yX8_ofAll cX8_ofAll 2 (some .int)) { frames := 0, cells := 0, slots := 0, locals := 0 } (va_Pc [.ref (g.1 0 0), .int p1] (PW VM ctM g S)) (va_Qi (fun r u => r = tX8_ofAll S p1 ∧ u = S) (fun u U => PW VM ctM g u U) A) 0 0 A := by
  refine ent (cc := cX8_ofAll) (maxL := 2) (ret := (some .int)) (by decide) (Nat.le_of_ble_eq_true rfl) ?_
  intro p e s m below meth c args Q C0 hr hlocks hP hK hQ ls hl
  have hx := C0.1
  have hb := C0.2.1
  have hml := C0.2.2.1
  have hown := C0.2.2.2.1
  have hts := C0.2.2.2.2
  obtain ⟨F, hF⟩ : ∃ F : Int32, F = tX8_ofAll S p1 := ⟨_, rfl⟩
  have hf := hF
  unfold tX8_ofAll at hf
  have hS : va_S A s.heap s.heap [] := va_S.rf
  have hl : lv_has ls 2 [(0, .ref (g.1 0 0)), (1, .int p1)] := hl
  refine lv_iload_n hx hb dX8_ofAll_0 rfl (lv_at hl 1 rfl) ?_
  by_cases zc1 : p1 = 0
  · have hf := hf.trans (if_pos zc1)
    refine lv_tableIn (off := 27) (tgt := 28) hx hb dX8_ofAll_1 (by rw [zc1]; decide) (by rw [zc1]; decide) (by rw [zc1]; decide) (by decide) ?_
    refine lv_aload_n hx hb dX8_ofAll_28 rfl (lv_at hl 0 rfl) ?_
    refine gO (T := TX8) C0 inA8 hK hP (mMain g) rfl 11 (by decide) (hts _ q687) (v := .int (S.1 0 0 11)) rfl dX8_ofAll_29 ?_
    refine lv_ldc (v := 100000) hx hb hown (hts _ q928) dX8_ofAll_32 ?_
    refine lv_iadd hx hb dX8_ofAll_34 ?_
    exact ri hQ C0 hr hlocks hK hP hS (by rw [← hF]; exact ⟨hf.symm, rfl⟩) dX8_ofAll_35
  · have hf := hf.trans (if_neg zc1)
    by_cases zc2 : p1 = 1
    · have hf := hf.trans (if_pos zc2)
      refine lv_tableIn (off := 35) (tgt := 36) hx hb dX8_ofAll_1 (by rw [zc2]; decide) (by rw [zc2]; decide) (by rw [zc2]; decide) (by decide) ?_
      refine lv_aload_n hx hb dX8_ofAll_36 rfl (lv_at hl 0 rfl) ?_
      refine gO (T := TX8) C0 inA8 hK hP (mMain g) rfl 12 (by decide) (hts _ q688) (v := .int (S.1 0 0 12)) rfl dX8_ofAll_37 ?_
      exact ri hQ C0 hr hlocks hK hP hS (by rw [← hF]; exact ⟨hf.symm, rfl⟩) dX8_ofAll_40
    · have hf := hf.trans (if_neg zc2)
      by_cases zc3 : p1 = 2
      · have hf := hf.trans (if_pos zc3)
        refine lv_tableIn (off := 40) (tgt := 41) hx hb dX8_ofAll_1 (by rw [zc3]; decide) (by rw [zc3]; decide) (by rw [zc3]; decide) (by decide) ?_
        refine lv_aload_n hx hb dX8_ofAll_41 rfl (lv_at hl 0 rfl) ?_
        refine gO (T := TX8) C0 inA8 hK hP (mMain g) rfl 9 (by decide) (hts _ q685) (v := .int (S.1 0 0 9)) rfl dX8_ofAll_42 ?_
        exact ri hQ C0 hr hlocks hK hP hS (by rw [← hF]; exact ⟨hf.symm, rfl⟩) dX8_ofAll_45
      · have hf := hf.trans (if_neg zc3)
        refine lv_tableOut (tgt := 46) hx hb dX8_ofAll_1 (by have h0 := lv_neT (a := 0) zc1 (by decide); have h1 := lv_neT (a := 1) zc2 (by decide); have h2 := lv_neT (a := 2) zc3 (by decide); omega) (by decide) ?_
        refine lv_aload_n hx hb dX8_ofAll_46 rfl (lv_at hl 0 rfl) ?_
        refine gO (T := TX8) C0 inA8 hK hP (mMain g) rfl 10 (by decide) (hts _ q686) (v := .int (S.1 0 0 10)) rfl dX8_ofAll_47 ?_
        exact ri hQ C0 hr hlocks hK hP hS (by rw [← hF]; exact ⟨hf.symm, rfl⟩) dX8_ofAll_50
def tX8_total (S : St) (p1 : Int32) : Int32 × St :=
  (if wj (Int32.toInt64 p1) 0 3 then (bnd (tX8_refusal S).2 (fun zS4 => bnd (tX8_refusal S).1 (fun zr3 => (if zr3 = (-6) then (bnd (tX8_back zS4 (tX8_ofAll zS4 p1)).2 (fun zS7 => bnd (tX8_back zS4 (tX8_ofAll zS4 p1)).1 (fun zr6 => (zr6, zS7)))) else (bnd (tX8_back zS4 zr3).2 (fun zS9 => bnd (tX8_back zS4 zr3).1 (fun zr8 => (zr8, zS9)))))))) else ((-2), S))
set_option maxHeartbeats 4000000 in
set_option maxRecDepth 100000 in
theorem kX8_total (l : Launch) (g : Gd) (A : Nat → Prop) (hA : Ads g.1 VM A) (S : St) (p1 : Int32) (hp : wi (S.1 0 0 18) 0 60) : Met l yX8_total (wU yX8_total cX8_total 3 (some .int)) { frames := 5, cells := 0, slots := 0, locals := 111 } (va_Pc [.ref (g.1 0 0), .int p1] (PW VM ctM g S)) (va_Qi (fun r u => r = (tX8_total S p1).1 ∧ u = (tX8_total S p1).2) (fun u U => PW VM ctM g u U) A) 0 0 A := by
  refine ent (cc := cX8_total) (maxL := 3) (ret := (some .int)) (by decide) (Nat.le_of_ble_eq_true rfl) ?_
  intro p e s m below meth c args Q C0 hr hlocks hP hK hQ ls hl
  have hx := C0.1
  have hb := C0.2.1
  have hml := C0.2.2.1
  have hown := C0.2.2.2.1
  have hts := C0.2.2.2.2
  obtain ⟨F, hF⟩ : ∃ F : Int32 × St, F = tX8_total S p1 := ⟨_, rfl⟩
  have hf := hF
  unfold tX8_total at hf
  have hS : va_S A s.heap s.heap [] := va_S.rf
  have hl : lv_has ls 3 [(0, .ref (g.1 0 0)), (1, .int p1)] := hl
  refine lv_iload_n hx hb dX8_total_0 rfl (lv_at hl 1 rfl) ?_
  refine lv_i2l (v := (Int32.toInt64 p1)) hx hb dX8_total_1 rfl ?_
  refine lv_lconst (v := 0) hx hb dX8_total_2 (by decide) ?_
  refine lv_ldc2 (v := 3) hx hb hown (hts _ q923) dX8_total_3 ?_
  refine kzc (va_runS (As := [.long (Int32.toInt64 p1), .long 0, .long 3]) (rest := []) C0 (kX8_in l g A hA S (Int32.toInt64 p1) 0 3) (va_cwS 3 hts (gS q799 q800 q54 q801) rfl rfl rfl (by decide +kernel) ⟨Nat.le_of_ble_eq_true rfl, Nat.le_of_ble_eq_true rfl⟩) (preS hP hK) rfl rfl hl.1 rfl (lv_room (Nat.le_of_ble_eq_true rfl)) dX8_total_6 ⟨Nat.zero_le _, Nat.zero_le _⟩) hS (fun _ h => h) (fun zc1 H locs hP hS => ?_) (fun zc1 H locs hP hS => ?_)
  · have hf := hf.trans (if_pos zc1)
    refine lv_if_ne (tgt := 15) hx hb dX8_total_9 (by decide) (fun zc2 => ?_) (fun zc2 => absurd zc2 (by decide))
    refine lv_aload_n hx hb dX8_total_15 rfl (lv_at hl 0 rfl) ?_
    refine ki (va_runV (As := []) (rest := []) C0 (kX8_refusal l g A hA S  hp) (cwV 0 hts (gV q861 q863 q16 q54 q864) rfl rfl rfl (by decide +kernel) ⟨Nat.le_of_ble_eq_true rfl, Nat.le_of_ble_eq_true rfl⟩) (preV (recO (mMain g) hP hK rfl) hP hK) rfl rfl hl.1 rfl (lv_room (Nat.le_of_ble_eq_true rfl)) dX8_total_16 ⟨Nat.zero_le _, Nat.zero_le _⟩) hS (fun _ h => h) (fun zr3 zS4 H locs hw hP hS => ?_)
    have hf := (hf.trans (bnd_eq hw.2)).trans (bnd_eq hw.1)
    refine lv_istore_n (lv' := [(2, .int zr3), (0, .ref (g.1 0 0)), (1, .int p1)]) hx hb dX8_total_19 rfl hl (by decide) rfl (fun ls hl => ?_)
    refine lv_aload_n hx hb dX8_total_20 rfl (lv_at hl 1 rfl) ?_
    refine lv_iload_n hx hb dX8_total_21 rfl (lv_at hl 0 rfl) ?_
    refine lv_bipush (v := (-6)) hx hb dX8_total_22 (by decide) ?_
    refine lv_icmp_eq (tgt := 31) hx hb dX8_total_24 (by decide) (fun zc5 => ?_) (fun zc5 => ?_)
    · have hf := hf.trans (if_pos zc5)
      refine lv_aload_n hx hb dX8_total_31 rfl (lv_at hl 1 rfl) ?_
      refine lv_iload_n hx hb dX8_total_32 rfl (lv_at hl 2 rfl) ?_
      refine kiP (va_runV (As := [.int p1]) (rest := [.ref (g.1 0 0)]) C0 (kX8_ofAll l g A hA zS4 p1) (cwV 1 hts (gV q924 q926 q29 q54 q927) rfl rfl rfl (by decide +kernel) ⟨Nat.le_of_ble_eq_true rfl, Nat.le_of_ble_eq_true rfl⟩) (preV (recO (mMain g) hP hK rfl) hP hK) rfl rfl hl.1 rfl (lv_room (Nat.le_of_ble_eq_true rfl)) dX8_total_33 ⟨Nat.zero_le _, Nat.zero_le _⟩) hS (fun _ h => h) (fun H locs hP hS => ?_)
      refine ki (va_runV (As := [.int (tX8_ofAll zS4 p1)]) (rest := []) C0 (kX8_back l g A hA zS4 (tX8_ofAll zS4 p1)) (cwV 1 hts (gV q906 q908 q27 q54 q909) rfl rfl rfl (by decide +kernel) ⟨Nat.le_of_ble_eq_true rfl, Nat.le_of_ble_eq_true rfl⟩) (preV (recO (mMain g) hP hK rfl) hP hK) rfl rfl hl.1 rfl (lv_room (Nat.le_of_ble_eq_true rfl)) dX8_total_36 ⟨Nat.zero_le _, Nat.zero_le _⟩) hS (fun _ h => h) (fun zr6 zS7 H locs hw hP hS => ?_)
      have hf := (hf.trans (bnd_eq hw.2)).trans (bnd_eq hw.1)
      exact ri hQ C0 hr hlocks hK hP hS (by rw [← hF]; exact fin2 hf) dX8_total_39
    · have hf := hf.trans (if_neg zc5)
      refine lv_iload_n hx hb dX8_total_27 rfl (lv_at hl 0 rfl) ?_
      refine lv_goto (tgt := 36) hx hb dX8_total_28 (by decide) ?_
      refine ki (va_runV (As := [.int zr3]) (rest := []) C0 (kX8_back l g A hA zS4 zr3) (cwV 1 hts (gV q906 q908 q27 q54 q909) rfl rfl rfl (by decide +kernel) ⟨Nat.le_of_ble_eq_true rfl, Nat.le_of_ble_eq_true rfl⟩) (preV (recO (mMain g) hP hK rfl) hP hK) rfl rfl hl.1 rfl (lv_room (Nat.le_of_ble_eq_true rfl)) dX8_total_36 ⟨Nat.zero_le _, Nat.zero_le _⟩) hS (fun _ h => h) (fun zr8 zS9 H locs hw hP hS => ?_)
      have hf := (hf.trans (bnd_eq hw.2)).trans (bnd_eq hw.1)
      exact ri hQ C0 hr hlocks hK hP hS (by rw [← hF]; exact fin2 hf) dX8_total_39
  · have hf := hf.trans (if_neg zc1)
    refine lv_if_ne (tgt := 15) hx hb dX8_total_9 (by decide) (fun zc10 => absurd (by decide) zc10) (fun zc10 => ?_)
    refine lv_bipush (v := (-2)) hx hb dX8_total_12 (by decide) ?_
    exact ri hQ C0 hr hlocks hK hP hS (by rw [← hF]; exact fin2 hf) dX8_total_14
def tX8_sunk (S : St) (p1 : Int32) : Int32 × St :=
  (if wj (Int32.toInt64 p1) 0 2 then (bnd (tX8_refusal S).2 (fun zS4 => bnd (tX8_refusal S).1 (fun zr3 => (bnd (tX8_back zS4 zr3).2 (fun zS6 => bnd (tX8_back zS4 zr3).1 (fun zr5 => (if zr5 = (-6) then (if p1 = 0 then ((zS6.1 0 0 24), zS6) else (if p1 = 1 then ((zS6.1 0 0 25), zS6) else ((zS6.1 0 0 26), zS6))) else (zr5, zS6)))))))) else ((-2), S))
set_option maxHeartbeats 4000000 in
set_option maxRecDepth 100000 in
theorem kX8_sunk (l : Launch) (g : Gd) (A : Nat → Prop) (hA : Ads g.1 VM A) (S : St) (p1 : Int32) (hp : wi (S.1 0 0 18) 0 60) : Met l yX8_sunk (wU yX8_sunk cX8_sunk 3 (some .int)) { frames := 5, cells := 0, slots := 0, locals := 111 } (va_Pc [.ref (g.1 0 0), .int p1] (PW VM ctM g S)) (va_Qi (fun r u => r = (tX8_sunk S p1).1 ∧ u = (tX8_sunk S p1).2) (fun u U => PW VM ctM g u U) A) 0 0 A := by
  refine ent (cc := cX8_sunk) (maxL := 3) (ret := (some .int)) (by decide) (Nat.le_of_ble_eq_true rfl) ?_
  intro p e s m below meth c args Q C0 hr hlocks hP hK hQ ls hl
  have hx := C0.1
  have hb := C0.2.1
  have hml := C0.2.2.1
  have hown := C0.2.2.2.1
  have hts := C0.2.2.2.2
  obtain ⟨F, hF⟩ : ∃ F : Int32 × St, F = tX8_sunk S p1 := ⟨_, rfl⟩
  have hf := hF
  unfold tX8_sunk at hf
  have hS : va_S A s.heap s.heap [] := va_S.rf
  have hl : lv_has ls 3 [(0, .ref (g.1 0 0)), (1, .int p1)] := hl
  refine lv_iload_n hx hb dX8_sunk_0 rfl (lv_at hl 1 rfl) ?_
  refine lv_i2l (v := (Int32.toInt64 p1)) hx hb dX8_sunk_1 rfl ?_
  refine lv_lconst (v := 0) hx hb dX8_sunk_2 (by decide) ?_
  refine lv_ldc2 (v := 2) hx hb hown (hts _ q820) dX8_sunk_3 ?_
  refine kzc (va_runS (As := [.long (Int32.toInt64 p1), .long 0, .long 2]) (rest := []) C0 (kX8_in l g A hA S (Int32.toInt64 p1) 0 2) (va_cwS 3 hts (gS q799 q800 q54 q801) rfl rfl rfl (by decide +kernel) ⟨Nat.le_of_ble_eq_true rfl, Nat.le_of_ble_eq_true rfl⟩) (preS hP hK) rfl rfl hl.1 rfl (lv_room (Nat.le_of_ble_eq_true rfl)) dX8_sunk_6 ⟨Nat.zero_le _, Nat.zero_le _⟩) hS (fun _ h => h) (fun zc1 H locs hP hS => ?_) (fun zc1 H locs hP hS => ?_)
  · have hf := hf.trans (if_pos zc1)
    refine lv_if_ne (tgt := 15) hx hb dX8_sunk_9 (by decide) (fun zc2 => ?_) (fun zc2 => absurd zc2 (by decide))
    refine lv_aload_n hx hb dX8_sunk_15 rfl (lv_at hl 0 rfl) ?_
    refine lv_aload_n hx hb dX8_sunk_16 rfl (lv_at hl 0 rfl) ?_
    refine ki (va_runV (As := []) (rest := [.ref (g.1 0 0)]) C0 (kX8_refusal l g A hA S  hp) (cwV 0 hts (gV q861 q863 q16 q54 q864) rfl rfl rfl (by decide +kernel) ⟨Nat.le_of_ble_eq_true rfl, Nat.le_of_ble_eq_true rfl⟩) (preV (recO (mMain g) hP hK rfl) hP hK) rfl rfl hl.1 rfl (lv_room (Nat.le_of_ble_eq_true rfl)) dX8_sunk_17 ⟨Nat.zero_le _, Nat.zero_le _⟩) hS (fun _ h => h) (fun zr3 zS4 H locs hw hP hS => ?_)
    have hf := (hf.trans (bnd_eq hw.2)).trans (bnd_eq hw.1)
    refine ki (va_runV (As := [.int zr3]) (rest := []) C0 (kX8_back l g A hA zS4 zr3) (cwV 1 hts (gV q906 q908 q27 q54 q909) rfl rfl rfl (by decide +kernel) ⟨Nat.le_of_ble_eq_true rfl, Nat.le_of_ble_eq_true rfl⟩) (preV (recO (mMain g) hP hK rfl) hP hK) rfl rfl hl.1 rfl (lv_room (Nat.le_of_ble_eq_true rfl)) dX8_sunk_20 ⟨Nat.zero_le _, Nat.zero_le _⟩) hS (fun _ h => h) (fun zr5 zS6 H locs hw hP hS => ?_)
    have hf := (hf.trans (bnd_eq hw.2)).trans (bnd_eq hw.1)
    refine lv_istore_n (lv' := [(2, .int zr5), (0, .ref (g.1 0 0)), (1, .int p1)]) hx hb dX8_sunk_23 rfl hl (by decide) rfl (fun ls hl => ?_)
    refine lv_iload_n hx hb dX8_sunk_24 rfl (lv_at hl 0 rfl) ?_
    refine lv_bipush (v := (-6)) hx hb dX8_sunk_25 (by decide) ?_
    refine lv_icmp_eq (tgt := 34) hx hb dX8_sunk_27 (by decide) (fun zc7 => ?_) (fun zc7 => ?_)
    · have hf := hf.trans (if_pos zc7)
      refine lv_iload_n hx hb dX8_sunk_34 rfl (lv_at hl 2 rfl) ?_
      refine lv_if_ne (tgt := 45) hx hb dX8_sunk_35 (by decide) (fun zc8 => ?_) (fun zc8 => ?_)
      · have hf := hf.trans (if_neg zc8)
        refine lv_iload_n hx hb dX8_sunk_45 rfl (lv_at hl 2 rfl) ?_
        refine lv_iconst (v := 1) hx hb dX8_sunk_46 (by decide) ?_
        refine lv_icmp_ne (tgt := 57) hx hb dX8_sunk_47 (by decide) (fun zc9 => ?_) (fun zc9 => ?_)
        · have hf := hf.trans (if_neg zc9)
          refine lv_aload_n hx hb dX8_sunk_57 rfl (lv_at hl 1 rfl) ?_
          refine gO (T := TX8) C0 inA8 hK hP (mMain g) rfl 26 (by decide) (hts _ q702) (v := .int (zS6.1 0 0 26)) rfl dX8_sunk_58 ?_
          exact ri hQ C0 hr hlocks hK hP hS (by rw [← hF]; exact fin2 hf) dX8_sunk_61
        · have hf := hf.trans (if_pos zc9)
          refine lv_aload_n hx hb dX8_sunk_50 rfl (lv_at hl 1 rfl) ?_
          refine gO (T := TX8) C0 inA8 hK hP (mMain g) rfl 25 (by decide) (hts _ q701) (v := .int (zS6.1 0 0 25)) rfl dX8_sunk_51 ?_
          refine lv_goto (tgt := 61) hx hb dX8_sunk_54 (by decide) ?_
          exact ri hQ C0 hr hlocks hK hP hS (by rw [← hF]; exact fin2 hf) dX8_sunk_61
      · have hf := hf.trans (if_pos zc8)
        refine lv_aload_n hx hb dX8_sunk_38 rfl (lv_at hl 1 rfl) ?_
        refine gO (T := TX8) C0 inA8 hK hP (mMain g) rfl 24 (by decide) (hts _ q700) (v := .int (zS6.1 0 0 24)) rfl dX8_sunk_39 ?_
        refine lv_goto (tgt := 61) hx hb dX8_sunk_42 (by decide) ?_
        exact ri hQ C0 hr hlocks hK hP hS (by rw [← hF]; exact fin2 hf) dX8_sunk_61
    · have hf := hf.trans (if_neg zc7)
      refine lv_iload_n hx hb dX8_sunk_30 rfl (lv_at hl 0 rfl) ?_
      refine lv_goto (tgt := 61) hx hb dX8_sunk_31 (by decide) ?_
      exact ri hQ C0 hr hlocks hK hP hS (by rw [← hF]; exact fin2 hf) dX8_sunk_61
  · have hf := hf.trans (if_neg zc1)
    refine lv_if_ne (tgt := 15) hx hb dX8_sunk_9 (by decide) (fun zc10 => absurd (by decide) zc10) (fun zc10 => ?_)
    refine lv_bipush (v := (-2)) hx hb dX8_sunk_12 (by decide) ?_
    exact ri hQ C0 hr hlocks hK hP hS (by rw [← hF]; exact fin2 hf) dX8_sunk_14
def tX8_done (S : St) : Int32 × St :=
  (bnd (tX8_refusal S).2 (fun zS2 => bnd (tX8_refusal S).1 (fun zr1 => (if zr1 = (-6) then (((up zS2 0 0 18 0).1 0 0 22), (up zS2 0 0 18 0)) else (bnd (tX8_back zS2 zr1).2 (fun zS5 => bnd (tX8_back zS2 zr1).1 (fun zr4 => (zr4, zS5))))))))
set_option maxHeartbeats 4000000 in
set_option maxRecDepth 100000 in
theorem kX8_done (l : Launch) (g : Gd) (A : Nat → Prop) (hA : Ads g.1 VM A) (S : St)  (hp : wi (S.1 0 0 18) 0 60) : Met l yX8_done (wU yX8_done cX8_done 2 (some .int)) { frames := 5, cells := 0, slots := 0, locals := 111 } (va_Pc [.ref (g.1 0 0)] (PW VM ctM g S)) (va_Qi (fun r u => r = (tX8_done S).1 ∧ u = (tX8_done S).2) (fun u U => PW VM ctM g u U) A) 0 0 A := by
  refine ent (cc := cX8_done) (maxL := 2) (ret := (some .int)) (by decide) (Nat.le_of_ble_eq_true rfl) ?_
  intro p e s m below meth c args Q C0 hr hlocks hP hK hQ ls hl
  have hx := C0.1
  have hb := C0.2.1
  have hml := C0.2.2.1
  have hown := C0.2.2.2.1
  have hts := C0.2.2.2.2
  obtain ⟨F, hF⟩ : ∃ F : Int32 × St, F = tX8_done S := ⟨_, rfl⟩
  have hf := hF
  unfold tX8_done at hf
  have hS : va_S A s.heap s.heap [] := va_S.rf
  have hl : lv_has ls 2 [(0, .ref (g.1 0 0))] := hl
  refine lv_aload_n hx hb dX8_done_0 rfl (lv_at hl 0 rfl) ?_
  refine ki (va_runV (As := []) (rest := []) C0 (kX8_refusal l g A hA S  hp) (cwV 0 hts (gV q861 q863 q16 q54 q864) rfl rfl rfl (by decide +kernel) ⟨Nat.le_of_ble_eq_true rfl, Nat.le_of_ble_eq_true rfl⟩) (preV (recO (mMain g) hP hK rfl) hP hK) rfl rfl hl.1 rfl (lv_room (Nat.le_of_ble_eq_true rfl)) dX8_done_1 ⟨Nat.zero_le _, Nat.zero_le _⟩) hS (fun _ h => h) (fun zr1 zS2 H locs hw hP hS => ?_)
  have hf := (hf.trans (bnd_eq hw.2)).trans (bnd_eq hw.1)
  refine lv_istore_n (lv' := [(1, .int zr1), (0, .ref (g.1 0 0))]) hx hb dX8_done_4 rfl hl (by decide) rfl (fun ls hl => ?_)
  refine lv_iload_n hx hb dX8_done_5 rfl (lv_at hl 0 rfl) ?_
  refine lv_bipush (v := (-6)) hx hb dX8_done_6 (by decide) ?_
  refine lv_icmp_eq (tgt := 17) hx hb dX8_done_8 (by decide) (fun zc3 => ?_) (fun zc3 => ?_)
  · have hf := hf.trans (if_pos zc3)
    refine lv_aload_n hx hb dX8_done_17 rfl (lv_at hl 1 rfl) ?_
    refine lv_iconst (v := 0) hx hb dX8_done_18 (by decide) ?_
    refine pO (T := TX8) (ty0 := tyX8) locM C0 inA8 tyX8_ok nmX8 hK hP hA hS (mMain g) rfl 18 (by decide) (hts _ q694) rfl 18 0 rfl rfl rfl (Nat.le_of_ble_eq_true rfl) dX8_done_19 (fun H locs hP hS => ?_)
    refine lv_aload_n hx hb dX8_done_22 rfl (lv_at hl 1 rfl) ?_
    refine gO (T := TX8) C0 inA8 hK hP (mMain g) rfl 22 (by decide) (hts _ q698) (v := .int ((up zS2 0 0 18 0).1 0 0 22)) rfl dX8_done_23 ?_
    exact ri hQ C0 hr hlocks hK hP hS (by rw [← hF]; exact fin2 hf) dX8_done_26
  · have hf := hf.trans (if_neg zc3)
    refine lv_aload_n hx hb dX8_done_11 rfl (lv_at hl 1 rfl) ?_
    refine lv_iload_n hx hb dX8_done_12 rfl (lv_at hl 0 rfl) ?_
    refine ki (va_runV (As := [.int zr1]) (rest := []) C0 (kX8_back l g A hA zS2 zr1) (cwV 1 hts (gV q906 q908 q27 q54 q909) rfl rfl rfl (by decide +kernel) ⟨Nat.le_of_ble_eq_true rfl, Nat.le_of_ble_eq_true rfl⟩) (preV (recO (mMain g) hP hK rfl) hP hK) rfl rfl hl.1 rfl (lv_room (Nat.le_of_ble_eq_true rfl)) dX8_done_13 ⟨Nat.zero_le _, Nat.zero_le _⟩) hS (fun _ h => h) (fun zr4 zS5 H locs hw hP hS => ?_)
    have hf := (hf.trans (bnd_eq hw.2)).trans (bnd_eq hw.1)
    exact ri hQ C0 hr hlocks hK hP hS (by rw [← hF]; exact fin2 hf) dX8_done_16
def tX8_size (S : St) (y1 : Int64) : Int64 :=
  (if y1 < 0 then (0 - y1) else y1)
set_option maxHeartbeats 4000000 in
set_option maxRecDepth 100000 in
theorem kX8_size (l : Launch) (g : Gd) (A : Nat → Prop) (hA : Ads g.1 VM A) (S : St) (y1 : Int64) : Met l yX8_size (wU yX8_size cX8_size 2 (some .long)) { frames := 0, cells := 0, slots := 0, locals := 0 } (va_Pc [.long y1] (PW VM ctM g S)) (va_Ql (fun r u => r = tX8_size S y1 ∧ u = S) (fun u U => PW VM ctM g u U) A) 0 0 A := by
  refine ent (cc := cX8_size) (maxL := 2) (ret := (some .long)) (by decide) (Nat.le_of_ble_eq_true rfl) ?_
  intro p e s m below meth c args Q C0 hr hlocks hP hK hQ ls hl
  have hx := C0.1
  have hb := C0.2.1
  have hml := C0.2.2.1
  have hown := C0.2.2.2.1
  have hts := C0.2.2.2.2
  obtain ⟨F, hF⟩ : ∃ F : Int64, F = tX8_size S y1 := ⟨_, rfl⟩
  have hf := hF
  unfold tX8_size at hf
  have hS : va_S A s.heap s.heap [] := va_S.rf
  have hl : lv_has ls 2 [(0, .long y1)] := hl
  refine lv_lload_n hx hb dX8_size_0 rfl (lv_at hl 0 rfl) ?_
  refine lv_lconst (v := 0) hx hb dX8_size_1 (by decide) ?_
  refine klcmp_ge (tgt := 11) hx hb dX8_size_2 dX8_size_3 (by decide) (fun zc1 => ?_) (fun zc1 => ?_)
  · have hf := hf.trans (if_neg zc1)
    refine lv_lload_n hx hb dX8_size_11 rfl (lv_at hl 0 rfl) ?_
    exact rl hQ C0 hr hlocks hK hP hS (by rw [← hF]; exact ⟨hf.symm, rfl⟩) dX8_size_12
  · have hf := hf.trans (if_pos zc1)
    refine lv_lload_n hx hb dX8_size_6 rfl (lv_at hl 0 rfl) ?_
    refine lv_lneg hx hb dX8_size_7 ?_
    refine lv_goto (tgt := 12) hx hb dX8_size_8 (by decide) ?_
    exact rl hQ C0 hr hlocks hK hP hS (by rw [← hF]; exact ⟨hf.symm, rfl⟩) dX8_size_12
theorem lrm_toInt (a b : Int64) : (lrm a b).toInt = a.toInt.tmod b.toInt := by
  unfold lrm
  rw [Int64.toInt_sub, Int64.toInt_mul, Int64.toInt_div]
  have h1 : (a.toInt - ((a.toInt.tdiv b.toInt).bmod (2 ^ 64) * b.toInt).bmod (2 ^ 64)).bmod (2 ^ 64) = (a.toInt - a.toInt.tdiv b.toInt * b.toInt).bmod (2 ^ 64) := by simp
  have h2 : a.toInt - a.toInt.tdiv b.toInt * b.toInt = a.toInt.tmod b.toInt := by
    have := Int.tdiv_mul_add_tmod a.toInt b.toInt
    omega
  rw [h1, h2]
  have l1 := Int64.le_toInt a
  have l2 := Int64.toInt_lt a
  have l3 : (a.toInt.tmod b.toInt).natAbs ≤ a.toInt.natAbs := by
    rw [Int.natAbs_tmod]
    exact Nat.mod_le _ _
  have l4 : (0 ≤ a.toInt → 0 ≤ a.toInt.tmod b.toInt) ∧ (a.toInt < 0 → a.toInt.tmod b.toInt ≤ 0) := by
    refine ⟨fun h => Int.tmod_nonneg _ h, fun h => ?_⟩
    have h9 := Int.tmod_nonneg b.toInt (show 0 ≤ -a.toInt by omega)
    rw [Int.neg_tmod] at h9
    omega
  apply Int.bmod_eq_of_le <;> omega
theorem lrm_abs (a : Int64) {b : Int64} (hne : ¬ b = 0) : (lrm a b).toInt.natAbs < b.toInt.natAbs := by
  rw [lrm_toInt, Int.natAbs_tmod]
  apply Nat.mod_lt
  have h : ¬ b.toInt = 0 := fun q => hne (Int64.toInt_inj.mp (by rw [q]; rfl))
  omega
def LX8_lowest_9 (S : St) (y1 : Int64) (y2 : Int64) (p1 : Int32) : Nat → Int64 → Int64 → Int64
  | 0, zx3, zx4 => 0
  | zk2 + 1, zx3, zx4 => (if zx3 = 0 then (if p1 = 0 then (y1 / zx4) else (y2 / zx4)) else (LX8_lowest_9 S y1 y2 p1 zk2 (lrm zx4 zx3) zx3))
def tX8_lowest (S : St) (y1 : Int64) (y2 : Int64) (p1 : Int32) : Int64 :=
  (LX8_lowest_9 S y1 y2 p1 (((tX8_size S y1)).toInt.natAbs + 1) (tX8_size S y1) y2)
set_option maxHeartbeats 4000000 in
set_option maxRecDepth 100000 in
theorem kX8_lowest (l : Launch) (g : Gd) (A : Nat → Prop) (hA : Ads g.1 VM A) (S : St) (y1 : Int64) (y2 : Int64) (p1 : Int32) (hlo : ¬ y2 = 0) : Met l yX8_lowest (wU yX8_lowest cX8_lowest 11 (some .long)) { frames := 1, cells := 0, slots := 0, locals := 21 } (va_Pc [.long y1, .long y2, .int p1] (PW VM ctM g S)) (va_Ql (fun r u => r = tX8_lowest S y1 y2 p1 ∧ u = S) (fun u U => PW VM ctM g u U) A) 0 0 A := by
  refine ent (cc := cX8_lowest) (maxL := 11) (ret := (some .long)) (by decide) (Nat.le_of_ble_eq_true rfl) ?_
  intro p e s m below meth c args Q C0 hr hlocks hP hK hQ ls hl
  have hx := C0.1
  have hb := C0.2.1
  have hml := C0.2.2.1
  have hown := C0.2.2.2.1
  have hts := C0.2.2.2.2
  obtain ⟨F, hF⟩ : ∃ F : Int64, F = tX8_lowest S y1 y2 p1 := ⟨_, rfl⟩
  have hf := hF
  unfold tX8_lowest at hf
  have hS : va_S A s.heap s.heap [] := va_S.rf
  have hl : lv_has ls 11 [(0, .long y1), (2, .long y2), (4, .int p1)] := hl
  refine lv_lload_n hx hb dX8_lowest_0 rfl (lv_at hl 1 rfl) ?_
  refine lv_lstore (lv' := [(5, .long y2), (0, .long y1), (2, .long y2), (4, .int p1)]) hx hb dX8_lowest_1 hl (by decide) rfl (fun ls hl => ?_)
  refine lv_lload_n hx hb dX8_lowest_3 rfl (lv_at hl 1 rfl) ?_
  refine klP (va_runS (As := [.long y1]) (rest := []) C0 (kX8_size l g A hA S y1) (va_cwS 1 hts (gS q951 q952 q54 q953) rfl rfl rfl (by decide +kernel) ⟨Nat.le_of_ble_eq_true rfl, Nat.le_of_ble_eq_true rfl⟩) (preS hP hK) rfl rfl hl.1 rfl (lv_room (Nat.le_of_ble_eq_true rfl)) dX8_lowest_4 ⟨Nat.zero_le _, Nat.zero_le _⟩) hS (fun _ h => h) (fun H locs hP hS => ?_)
  refine lv_lstore (lv' := [(7, .long (tX8_size S y1)), (5, .long y2), (0, .long y1), (2, .long y2), (4, .int p1)]) hx hb dX8_lowest_7 hl (by decide) rfl (fun ls hl => ?_)
  have lp9 : ∀ (zk2 : Nat) (zx3 : Int64) (zx4 : Int64) (H : Heap) (locs : List Loc), (¬ zx4 = 0) → ((zx3).toInt.natAbs < zk2) → (F = LX8_lowest_9 S y1 y2 p1 zk2 zx3 zx4) → HW VM ctM g S H → va_S A s.heap H locs → ∀ ls : Array Slot, lv_has ls 11 [(0, .long y1), (2, .long y2), (4, .int p1), (7, .long zx3), (5, .long zx4)] → W p l e { frames := 1, cells := 0, slots := 0, locals := 21 } s m args below meth c H locs 0 0 Q (F0 m 9 ls []) := by
    intro zk2
    induction zk2 with
    | zero =>
      intro zx3 zx4 H locs haa hme hf hP hS ls hl
      exact absurd hme (Nat.not_lt_zero _)
    | succ zk2 ih9 =>
      intro zx3 zx4 H locs haa hme hf hP hS ls hl
      rw [LX8_lowest_9] at hf
      refine lv_lload hx hb dX8_lowest_9 (lv_at hl 3 rfl) ?_
      refine lv_lconst (v := 0) hx hb dX8_lowest_11 (by decide) ?_
      refine klcmp_eq (tgt := 34) hx hb dX8_lowest_12 dX8_lowest_13 (by decide) (fun zc5 => ?_) (fun zc5 => ?_)
      · have hf := hf.trans (if_pos zc5)
        refine lv_iload hx hb dX8_lowest_34 (lv_at hl 2 rfl) ?_
        refine lv_if_ne (tgt := 46) hx hb dX8_lowest_36 (by decide) (fun zc6 => ?_) (fun zc6 => ?_)
        · have hf := hf.trans (if_neg zc6)
          refine lv_lload_n hx hb dX8_lowest_46 rfl (lv_at hl 1 rfl) ?_
          refine lv_lload hx hb dX8_lowest_47 (lv_at hl 4 rfl) ?_
          refine lv_ldiv hx hb dX8_lowest_49 haa ?_
          exact rl hQ C0 hr hlocks hK hP hS (by rw [← hF]; exact ⟨hf.symm, rfl⟩) dX8_lowest_50
        · have hf := hf.trans (if_pos zc6)
          refine lv_lload_n hx hb dX8_lowest_39 rfl (lv_at hl 0 rfl) ?_
          refine lv_lload hx hb dX8_lowest_40 (lv_at hl 4 rfl) ?_
          refine lv_ldiv hx hb dX8_lowest_42 haa ?_
          refine lv_goto (tgt := 50) hx hb dX8_lowest_43 (by decide) ?_
          exact rl hQ C0 hr hlocks hK hP hS (by rw [← hF]; exact ⟨hf.symm, rfl⟩) dX8_lowest_50
      · have hf := hf.trans (if_neg zc5)
        refine lv_lload hx hb dX8_lowest_16 (lv_at hl 4 rfl) ?_
        refine lv_lload hx hb dX8_lowest_18 (lv_at hl 3 rfl) ?_
        refine klrem hx hb dX8_lowest_20 zc5 ?_
        refine lv_lstore (lv' := [(9, .long (lrm zx4 zx3)), (0, .long y1), (2, .long y2), (4, .int p1), (7, .long zx3), (5, .long zx4)]) hx hb dX8_lowest_21 hl (by decide) rfl (fun ls hl => ?_)
        refine lv_lload hx hb dX8_lowest_23 (lv_at hl 4 rfl) ?_
        refine lv_lstore (lv' := [(5, .long zx3), (9, .long (lrm zx4 zx3)), (0, .long y1), (2, .long y2), (4, .int p1), (7, .long zx3)]) hx hb dX8_lowest_25 hl (by decide) rfl (fun ls hl => ?_)
        refine lv_lload hx hb dX8_lowest_27 (lv_at hl 1 rfl) ?_
        refine lv_lstore (lv' := [(7, .long (lrm zx4 zx3)), (5, .long zx3), (9, .long (lrm zx4 zx3)), (0, .long y1), (2, .long y2), (4, .int p1)]) hx hb dX8_lowest_29 hl (by decide) rfl (fun ls hl => ?_)
        refine lv_goto (tgt := 9) hx hb dX8_lowest_31 (by decide) ?_
        exact ih9 (lrm zx4 zx3) zx3 _ _ zc5 (Nat.lt_of_lt_of_le (lrm_abs _ zc5) (Nat.le_of_lt_succ hme)) hf hP hS ls (lv_sub hl [3, 4, 5, 0, 1] rfl)
  exact lp9 (((tX8_size S y1)).toInt.natAbs + 1) (tX8_size S y1) y2 _ _ hlo (Nat.lt_succ_self _) hf hP hS ls (lv_sub hl [2, 3, 4, 0, 1] rfl)
def tX8_meanWith (S : St) (p1 : Int32) (p2 : Int32) (p3 : Int32) : Int32 :=
  (((tX8_riskWith S p1 p2) * (p3 - (S.1 0 3 (Int32.toNatClampNeg p1)))) + (((100 - (tX8_riskWith S p1 p2)) * p2) * (S.1 0 0 8)))
set_option maxHeartbeats 4000000 in
set_option maxRecDepth 100000 in
theorem kX8_meanWith (l : Launch) (g : Gd) (A : Nat → Prop) (hA : Ads g.1 VM A) (S : St) (p1 : Int32) (p2 : Int32) (p3 : Int32) (hk : vp_in p1 6) : Met l yX8_meanWith (wU yX8_meanWith cX8_meanWith 5 (some .int)) { frames := 1, cells := 0, slots := 0, locals := 22 } (va_Pc [.ref (g.1 0 0), .int p1, .int p2, .int p3] (PW VM ctM g S)) (va_Qi (fun r u => r = tX8_meanWith S p1 p2 p3 ∧ u = S) (fun u U => PW VM ctM g u U) A) 0 0 A := by
  refine ent (cc := cX8_meanWith) (maxL := 5) (ret := (some .int)) (by decide) (Nat.le_of_ble_eq_true rfl) ?_
  intro p e s m below meth c args Q C0 hr hlocks hP hK hQ ls hl
  have hx := C0.1
  have hb := C0.2.1
  have hml := C0.2.2.1
  have hown := C0.2.2.2.1
  have hts := C0.2.2.2.2
  obtain ⟨F, hF⟩ : ∃ F : Int32, F = tX8_meanWith S p1 p2 p3 := ⟨_, rfl⟩
  have hf := hF
  unfold tX8_meanWith at hf
  have hS : va_S A s.heap s.heap [] := va_S.rf
  have hl : lv_has ls 5 [(0, .ref (g.1 0 0)), (1, .int p1), (2, .int p2), (3, .int p3)] := hl
  refine lv_aload_n hx hb dX8_meanWith_0 rfl (lv_at hl 0 rfl) ?_
  refine lv_iload_n hx hb dX8_meanWith_1 rfl (lv_at hl 1 rfl) ?_
  refine lv_iload_n hx hb dX8_meanWith_2 rfl (lv_at hl 2 rfl) ?_
  refine kiP (va_runV (As := [.int p1, .int p2]) (rest := []) C0 (kX8_riskWith l g A hA S p1 p2 hk) (cwV 2 hts (gV q886 q888 q22 q54 q889) rfl rfl rfl (by decide +kernel) ⟨Nat.le_of_ble_eq_true rfl, Nat.le_of_ble_eq_true rfl⟩) (preV (recO (mMain g) hP hK rfl) hP hK) rfl rfl hl.1 rfl (lv_room (Nat.le_of_ble_eq_true rfl)) dX8_meanWith_3 ⟨Nat.zero_le _, Nat.zero_le _⟩) hS (fun _ h => h) (fun H locs hP hS => ?_)
  refine lv_istore (lv' := [(4, .int (tX8_riskWith S p1 p2)), (0, .ref (g.1 0 0)), (1, .int p1), (2, .int p2), (3, .int p3)]) hx hb dX8_meanWith_6 hl (by decide) rfl (fun ls hl => ?_)
  refine lv_iload hx hb dX8_meanWith_8 (lv_at hl 0 rfl) ?_
  refine lv_iload_n hx hb dX8_meanWith_10 rfl (lv_at hl 4 rfl) ?_
  refine lv_aload_n hx hb dX8_meanWith_11 rfl (lv_at hl 1 rfl) ?_
  refine gO (T := TX8) C0 inA8 hK hP (mMain g) rfl 3 (by decide) (hts _ q679) (v := .ref (g.1 0 3)) rfl dX8_meanWith_12 ?_
  refine lv_iload_n hx hb dX8_meanWith_15 rfl (lv_at hl 2 rfl) ?_
  refine gI C0 hK hP (mWorth g) hk dX8_meanWith_16 ?_
  refine lv_isub hx hb dX8_meanWith_17 ?_
  refine lv_imul hx hb dX8_meanWith_18 ?_
  refine lv_bipush (v := 100) hx hb dX8_meanWith_19 (by decide) ?_
  refine lv_iload hx hb dX8_meanWith_21 (lv_at hl 0 rfl) ?_
  refine lv_isub hx hb dX8_meanWith_23 ?_
  refine lv_iload_n hx hb dX8_meanWith_24 rfl (lv_at hl 3 rfl) ?_
  refine lv_imul hx hb dX8_meanWith_25 ?_
  refine lv_aload_n hx hb dX8_meanWith_26 rfl (lv_at hl 1 rfl) ?_
  refine gO (T := TX8) C0 inA8 hK hP (mMain g) rfl 8 (by decide) (hts _ q684) (v := .int (S.1 0 0 8)) rfl dX8_meanWith_27 ?_
  refine lv_imul hx hb dX8_meanWith_30 ?_
  refine lv_iadd hx hb dX8_meanWith_31 ?_
  exact ri hQ C0 hr hlocks hK hP hS (by rw [← hF]; exact ⟨hf.symm, rfl⟩) dX8_meanWith_32
def tX8_mean (S : St) (p1 : Int32) (p2 : Int32) (p3 : Int32) : Int64 :=
  (if mSh S p1 then (if wj (Int32.toInt64 p2) 0 9 then (if wj (Int32.toInt64 p3) 0 1 then (tX8_lowest S (Int32.toInt64 (tX8_meanWith S p1 p2 (tX8_insured S p1))) 100 p3) else (-1000000000000000002)) else (-1000000000000000002)) else (-1000000000000000001))
set_option maxHeartbeats 4000000 in
set_option maxRecDepth 100000 in
theorem kX8_mean (l : Launch) (g : Gd) (A : Nat → Prop) (hA : Ads g.1 VM A) (S : St) (p1 : Int32) (p2 : Int32) (p3 : Int32) : Met l yX8_mean (wU yX8_mean cX8_mean 4 (some .long)) { frames := 2, cells := 0, slots := 0, locals := 51 } (va_Pc [.ref (g.1 0 0), .int p1, .int p2, .int p3] (PW VM ctM g S)) (va_Ql (fun r u => r = tX8_mean S p1 p2 p3 ∧ u = S) (fun u U => PW VM ctM g u U) A) 0 0 A := by
  refine ent (cc := cX8_mean) (maxL := 4) (ret := (some .long)) (by decide) (Nat.le_of_ble_eq_true rfl) ?_
  intro p e s m below meth c args Q C0 hr hlocks hP hK hQ ls hl
  have hx := C0.1
  have hb := C0.2.1
  have hml := C0.2.2.1
  have hown := C0.2.2.2.1
  have hts := C0.2.2.2.2
  obtain ⟨F, hF⟩ : ∃ F : Int64, F = tX8_mean S p1 p2 p3 := ⟨_, rfl⟩
  have hf := hF
  unfold tX8_mean at hf
  have hS : va_S A s.heap s.heap [] := va_S.rf
  have hl : lv_has ls 4 [(0, .ref (g.1 0 0)), (1, .int p1), (2, .int p2), (3, .int p3)] := hl
  refine lv_aload_n hx hb dX8_mean_0 rfl (lv_at hl 0 rfl) ?_
  refine lv_iload_n hx hb dX8_mean_1 rfl (lv_at hl 1 rfl) ?_
  refine kzc (va_runV (As := [.int p1]) (rest := []) C0 (kX8_isShip l g A hA S p1) (cwV 1 hts (gV q812 q814 q13 q54 q815) rfl rfl rfl (by decide +kernel) ⟨Nat.le_of_ble_eq_true rfl, Nat.le_of_ble_eq_true rfl⟩) (preV (recO (mMain g) hP hK rfl) hP hK) rfl rfl hl.1 rfl (lv_room (Nat.le_of_ble_eq_true rfl)) dX8_mean_2 ⟨Nat.zero_le _, Nat.zero_le _⟩) hS (fun _ h => h) (fun zc1 H locs hP hS => ?_) (fun zc1 H locs hP hS => ?_)
  · have hf := hf.trans (if_pos zc1)
    refine lv_if_ne (tgt := 12) hx hb dX8_mean_5 (by decide) (fun zc2 => ?_) (fun zc2 => absurd zc2 (by decide))
    refine lv_iload_n hx hb dX8_mean_12 rfl (lv_at hl 2 rfl) ?_
    refine lv_i2l (v := (Int32.toInt64 p2)) hx hb dX8_mean_13 rfl ?_
    refine lv_lconst (v := 0) hx hb dX8_mean_14 (by decide) ?_
    refine lv_ldc2 (v := 9) hx hb hown (hts _ q825) dX8_mean_15 ?_
    refine kzc (va_runS (As := [.long (Int32.toInt64 p2), .long 0, .long 9]) (rest := []) C0 (kX8_in l g A hA S (Int32.toInt64 p2) 0 9) (va_cwS 3 hts (gS q799 q800 q54 q801) rfl rfl rfl (by decide +kernel) ⟨Nat.le_of_ble_eq_true rfl, Nat.le_of_ble_eq_true rfl⟩) (preS hP hK) rfl rfl hl.1 rfl (lv_room (Nat.le_of_ble_eq_true rfl)) dX8_mean_18 ⟨Nat.zero_le _, Nat.zero_le _⟩) hS (fun _ h => h) (fun zc3 H locs hP hS => ?_) (fun zc3 H locs hP hS => ?_)
    · have hf := hf.trans (if_pos zc3)
      refine lv_if_eq (tgt := 34) hx hb dX8_mean_21 (by decide) (fun zc4 => absurd zc4 (by decide)) (fun zc4 => ?_)
      refine lv_iload_n hx hb dX8_mean_24 rfl (lv_at hl 3 rfl) ?_
      refine lv_i2l (v := (Int32.toInt64 p3)) hx hb dX8_mean_25 rfl ?_
      refine lv_lconst (v := 0) hx hb dX8_mean_26 (by decide) ?_
      refine lv_lconst (v := 1) hx hb dX8_mean_27 (by decide) ?_
      refine kzc (va_runS (As := [.long (Int32.toInt64 p3), .long 0, .long 1]) (rest := []) C0 (kX8_in l g A hA S (Int32.toInt64 p3) 0 1) (va_cwS 3 hts (gS q799 q800 q54 q801) rfl rfl rfl (by decide +kernel) ⟨Nat.le_of_ble_eq_true rfl, Nat.le_of_ble_eq_true rfl⟩) (preS hP hK) rfl rfl hl.1 rfl (lv_room (Nat.le_of_ble_eq_true rfl)) dX8_mean_28 ⟨Nat.zero_le _, Nat.zero_le _⟩) hS (fun _ h => h) (fun zc5 H locs hP hS => ?_) (fun zc5 H locs hP hS => ?_)
      · have hf := hf.trans (if_pos zc5)
        refine lv_if_ne (tgt := 38) hx hb dX8_mean_31 (by decide) (fun zc6 => ?_) (fun zc6 => absurd zc6 (by decide))
        refine lv_aload_n hx hb dX8_mean_38 rfl (lv_at hl 0 rfl) ?_
        refine lv_iload_n hx hb dX8_mean_39 rfl (lv_at hl 1 rfl) ?_
        refine lv_iload_n hx hb dX8_mean_40 rfl (lv_at hl 2 rfl) ?_
        refine lv_aload_n hx hb dX8_mean_41 rfl (lv_at hl 0 rfl) ?_
        refine lv_iload_n hx hb dX8_mean_42 rfl (lv_at hl 1 rfl) ?_
        refine kiP (va_runV (As := [.int p1]) (rest := [.int p2, .int p1, .ref (g.1 0 0)]) C0 (kX8_insured l g A hA S p1 (mSh_in zc1)) (cwV 1 hts (gV q902 q904 q26 q54 q905) rfl rfl rfl (by decide +kernel) ⟨Nat.le_of_ble_eq_true rfl, Nat.le_of_ble_eq_true rfl⟩) (preV (recO (mMain g) hP hK rfl) hP hK) rfl rfl hl.1 rfl (lv_room (Nat.le_of_ble_eq_true rfl)) dX8_mean_43 ⟨Nat.zero_le _, Nat.zero_le _⟩) hS (fun _ h => h) (fun H locs hP hS => ?_)
        refine kiP (va_runV (As := [.int p1, .int p2, .int (tX8_insured S p1)]) (rest := []) C0 (kX8_meanWith l g A hA S p1 p2 (tX8_insured S p1) (mSh_in zc1)) (cwV 3 hts (gV q943 q945 q30 q54 q946) rfl rfl rfl (by decide +kernel) ⟨Nat.le_of_ble_eq_true rfl, Nat.le_of_ble_eq_true rfl⟩) (preV (recO (mMain g) hP hK rfl) hP hK) rfl rfl hl.1 rfl (lv_room (Nat.le_of_ble_eq_true rfl)) dX8_mean_46 ⟨Nat.zero_le _, Nat.zero_le _⟩) hS (fun _ h => h) (fun H locs hP hS => ?_)
        refine lv_i2l (v := (Int32.toInt64 (tX8_meanWith S p1 p2 (tX8_insured S p1)))) hx hb dX8_mean_49 rfl ?_
        refine lv_ldc2 (v := 100) hx hb hown (hts _ q947) dX8_mean_50 ?_
        refine lv_iload_n hx hb dX8_mean_53 rfl (lv_at hl 3 rfl) ?_
        refine klP (va_runS (As := [.long (Int32.toInt64 (tX8_meanWith S p1 p2 (tX8_insured S p1))), .long 100, .int p3]) (rest := []) C0 (kX8_lowest l g A hA S (Int32.toInt64 (tX8_meanWith S p1 p2 (tX8_insured S p1))) 100 p3 (by decide)) (va_cwS 3 hts (gS q948 q949 q54 q950) rfl rfl rfl (by decide +kernel) ⟨Nat.le_of_ble_eq_true rfl, Nat.le_of_ble_eq_true rfl⟩) (preS hP hK) rfl rfl hl.1 rfl (lv_room (Nat.le_of_ble_eq_true rfl)) dX8_mean_54 ⟨Nat.zero_le _, Nat.zero_le _⟩) hS (fun _ h => h) (fun H locs hP hS => ?_)
        exact rl hQ C0 hr hlocks hK hP hS (by rw [← hF]; exact ⟨hf.symm, rfl⟩) dX8_mean_57
      · have hf := hf.trans (if_neg zc5)
        refine lv_if_ne (tgt := 38) hx hb dX8_mean_31 (by decide) (fun zc7 => absurd (by decide) zc7) (fun zc7 => ?_)
        refine lv_ldc2 (v := (-1000000000000000002)) hx hb hown (hts _ q942) dX8_mean_34 ?_
        exact rl hQ C0 hr hlocks hK hP hS (by rw [← hF]; exact ⟨hf.symm, rfl⟩) dX8_mean_37
    · have hf := hf.trans (if_neg zc3)
      refine lv_if_eq (tgt := 34) hx hb dX8_mean_21 (by decide) (fun zc8 => ?_) (fun zc8 => absurd (by decide) zc8)
      refine lv_ldc2 (v := (-1000000000000000002)) hx hb hown (hts _ q942) dX8_mean_34 ?_
      exact rl hQ C0 hr hlocks hK hP hS (by rw [← hF]; exact ⟨hf.symm, rfl⟩) dX8_mean_37
  · have hf := hf.trans (if_neg zc1)
    refine lv_if_ne (tgt := 12) hx hb dX8_mean_5 (by decide) (fun zc9 => absurd (by decide) zc9) (fun zc9 => ?_)
    refine lv_ldc2 (v := (-1000000000000000001)) hx hb hown (hts _ q941) dX8_mean_8 ?_
    exact rl hQ C0 hr hlocks hK hP hS (by rw [← hF]; exact ⟨hf.symm, rfl⟩) dX8_mean_11
def LX8_deepWith_5 (S : St) (p1 : Int32) (p2 : Int32) : Nat → Nat → Int32 → Int32
  | 0, zi1, zx3 => zx3
  | zk2 + 1, zi1, zx3 => (if (tX8_meanWith S p1 (nI zi1) p2) ≤ (tX8_meanWith S p1 zx3 p2) then (LX8_deepWith_5 S p1 p2 zk2 (zi1 + 1) zx3) else (LX8_deepWith_5 S p1 p2 zk2 (zi1 + 1) (nI zi1)))
def tX8_deepWith (S : St) (p1 : Int32) (p2 : Int32) : Int32 :=
  (LX8_deepWith_5 S p1 p2 8 2 1)
set_option maxHeartbeats 4000000 in
set_option maxRecDepth 100000 in
theorem kX8_deepWith (l : Launch) (g : Gd) (A : Nat → Prop) (hA : Ads g.1 VM A) (S : St) (p1 : Int32) (p2 : Int32) (hk : vp_in p1 6) : Met l yX8_deepWith (wU yX8_deepWith cX8_deepWith 5 (some .int)) { frames := 2, cells := 0, slots := 0, locals := 46 } (va_Pc [.ref (g.1 0 0), .int p1, .int p2] (PW VM ctM g S)) (va_Qi (fun r u => r = tX8_deepWith S p1 p2 ∧ u = S) (fun u U => PW VM ctM g u U) A) 0 0 A := by
  refine ent (cc := cX8_deepWith) (maxL := 5) (ret := (some .int)) (by decide) (Nat.le_of_ble_eq_true rfl) ?_
  intro p e s m below meth c args Q C0 hr hlocks hP hK hQ ls hl
  have hx := C0.1
  have hb := C0.2.1
  have hml := C0.2.2.1
  have hown := C0.2.2.2.1
  have hts := C0.2.2.2.2
  obtain ⟨F, hF⟩ : ∃ F : Int32, F = tX8_deepWith S p1 p2 := ⟨_, rfl⟩
  have hf := hF
  unfold tX8_deepWith at hf
  have hS : va_S A s.heap s.heap [] := va_S.rf
  have hl : lv_has ls 5 [(0, .ref (g.1 0 0)), (1, .int p1), (2, .int p2)] := hl
  refine lv_iconst (v := 1) hx hb dX8_deepWith_0 (by decide) ?_
  refine lv_istore_n (lv' := [(3, .int 1), (0, .ref (g.1 0 0)), (1, .int p1), (2, .int p2)]) hx hb dX8_deepWith_1 rfl hl (by decide) rfl (fun ls hl => ?_)
  refine lv_iconst (v := 2) hx hb dX8_deepWith_2 (by decide) ?_
  refine lv_istore (lv' := [(4, .int 2), (3, .int 1), (0, .ref (g.1 0 0)), (1, .int p1), (2, .int p2)]) hx hb dX8_deepWith_3 hl (by decide) rfl (fun ls hl => ?_)
  have lp5 : ∀ (zk2 zi1 : Nat) (zx3 : Int32) (H : Heap) (locs : List Loc), (zi1 + zk2 = 10) → (F = LX8_deepWith_5 S p1 p2 zk2 zi1 zx3) → HW VM ctM g S H → va_S A s.heap H locs → ∀ ls : Array Slot, lv_has ls 5 [(4, .int (nI zi1)), (0, .ref (g.1 0 0)), (1, .int p1), (2, .int p2), (3, .int zx3)] → W p l e { frames := 2, cells := 0, slots := 0, locals := 46 } s m args below meth c H locs 0 0 Q (F0 m 5 ls []) := by
    intro zk2
    induction zk2 with
    | zero =>
      intro zi1 zx3 H locs hik hf hP hS ls hl
      rw [LX8_deepWith_5] at hf
      refine lv_iload hx hb dX8_deepWith_5 (lv_at hl 0 rfl) ?_
      refine lv_bipush (v := 9) hx hb dX8_deepWith_7 (by decide) ?_
      refine lv_icmp_gt (tgt := 43) hx hb dX8_deepWith_9 (by decide) (fun zc4 => ?_) (fun zc4 => absurd (up_gt0 (rfl : (9 : Int32) = nI 9) hik (by decide)) zc4)
      refine lv_iload_n hx hb dX8_deepWith_43 rfl (lv_at hl 4 rfl) ?_
      exact ri hQ C0 hr hlocks hK hP hS (by rw [← hF]; exact ⟨hf.symm, rfl⟩) dX8_deepWith_44
    | succ zk2 ih5 =>
      intro zi1 zx3 H locs hik hf hP hS ls hl
      rw [LX8_deepWith_5] at hf
      refine lv_iload hx hb dX8_deepWith_5 (lv_at hl 0 rfl) ?_
      refine lv_bipush (v := 9) hx hb dX8_deepWith_7 (by decide) ?_
      refine lv_icmp_gt (tgt := 43) hx hb dX8_deepWith_9 (by decide) (fun zc5 => absurd zc5 (up_gt1 (rfl : (9 : Int32) = nI 9) hik (by decide))) (fun zc5 => ?_)
      refine lv_aload_n hx hb dX8_deepWith_12 rfl (lv_at hl 1 rfl) ?_
      refine lv_iload_n hx hb dX8_deepWith_13 rfl (lv_at hl 2 rfl) ?_
      refine lv_iload hx hb dX8_deepWith_14 (lv_at hl 0 rfl) ?_
      refine lv_iload_n hx hb dX8_deepWith_16 rfl (lv_at hl 3 rfl) ?_
      refine kiP (va_runV (As := [.int p1, .int (nI zi1), .int p2]) (rest := []) C0 (kX8_meanWith l g A hA S p1 (nI zi1) p2 hk) (cwV 3 hts (gV q943 q945 q30 q54 q946) rfl rfl rfl (by decide +kernel) ⟨Nat.le_of_ble_eq_true rfl, Nat.le_of_ble_eq_true rfl⟩) (preV (recO (mMain g) hP hK rfl) hP hK) rfl rfl hl.1 rfl (lv_room (Nat.le_of_ble_eq_true rfl)) dX8_deepWith_17 ⟨Nat.zero_le _, Nat.zero_le _⟩) hS (fun _ h => h) (fun H locs hP hS => ?_)
      refine lv_aload_n hx hb dX8_deepWith_20 rfl (lv_at hl 1 rfl) ?_
      refine lv_iload_n hx hb dX8_deepWith_21 rfl (lv_at hl 2 rfl) ?_
      refine lv_iload_n hx hb dX8_deepWith_22 rfl (lv_at hl 4 rfl) ?_
      refine lv_iload_n hx hb dX8_deepWith_23 rfl (lv_at hl 3 rfl) ?_
      refine kiP (va_runV (As := [.int p1, .int zx3, .int p2]) (rest := [.int (tX8_meanWith S p1 (nI zi1) p2)]) C0 (kX8_meanWith l g A hA S p1 zx3 p2 hk) (cwV 3 hts (gV q943 q945 q30 q54 q946) rfl rfl rfl (by decide +kernel) ⟨Nat.le_of_ble_eq_true rfl, Nat.le_of_ble_eq_true rfl⟩) (preV (recO (mMain g) hP hK rfl) hP hK) rfl rfl hl.1 rfl (lv_room (Nat.le_of_ble_eq_true rfl)) dX8_deepWith_24 ⟨Nat.zero_le _, Nat.zero_le _⟩) hS (fun _ h => h) (fun H locs hP hS => ?_)
      refine lv_icmp_le (tgt := 35) hx hb dX8_deepWith_27 (by decide) (fun zc6 => ?_) (fun zc6 => ?_)
      · have hf := hf.trans (if_pos zc6)
        refine lv_iload_n hx hb dX8_deepWith_35 rfl (lv_at hl 4 rfl) ?_
        refine lv_istore_n (lv' := [(3, .int zx3), (4, .int (nI zi1)), (0, .ref (g.1 0 0)), (1, .int p1), (2, .int p2)]) hx hb dX8_deepWith_36 rfl hl (by decide) rfl (fun ls hl => ?_)
        refine lv_iinc (v := (nI (zi1 + 1))) (lv' := [(4, .int (nI (zi1 + 1))), (3, .int zx3), (0, .ref (g.1 0 0)), (1, .int p1), (2, .int p2)]) hx hb dX8_deepWith_37 hl (k := 1) rfl (nI_1 _) (by decide) rfl (fun ls hl => ?_)
        refine lv_goto (tgt := 5) hx hb dX8_deepWith_40 (by decide) ?_
        exact ih5 (zi1 + 1) zx3 _ _ (by omega) hf hP hS ls (lv_sub hl [0, 2, 3, 4, 1] rfl)
      · have hf := hf.trans (if_neg zc6)
        refine lv_iload hx hb dX8_deepWith_30 (lv_at hl 0 rfl) ?_
        refine lv_goto (tgt := 36) hx hb dX8_deepWith_32 (by decide) ?_
        refine lv_istore_n (lv' := [(3, .int (nI zi1)), (4, .int (nI zi1)), (0, .ref (g.1 0 0)), (1, .int p1), (2, .int p2)]) hx hb dX8_deepWith_36 rfl hl (by decide) rfl (fun ls hl => ?_)
        refine lv_iinc (v := (nI (zi1 + 1))) (lv' := [(4, .int (nI (zi1 + 1))), (3, .int (nI zi1)), (0, .ref (g.1 0 0)), (1, .int p1), (2, .int p2)]) hx hb dX8_deepWith_37 hl (k := 1) rfl (nI_1 _) (by decide) rfl (fun ls hl => ?_)
        refine lv_goto (tgt := 5) hx hb dX8_deepWith_40 (by decide) ?_
        exact ih5 (zi1 + 1) (nI zi1) _ _ (by omega) hf hP hS ls (lv_sub hl [0, 2, 3, 4, 1] rfl)
  exact lp5 8 2 1 _ _ (by decide) hf hP hS ls (lv_sub hl [0, 2, 3, 4, 1] rfl)
def tX8_deep (S : St) (p1 : Int32) : Int32 :=
  (if mSh S p1 then (tX8_deepWith S p1 (tX8_insured S p1)) else (-1))
set_option maxHeartbeats 4000000 in
set_option maxRecDepth 100000 in
theorem kX8_deep (l : Launch) (g : Gd) (A : Nat → Prop) (hA : Ads g.1 VM A) (S : St) (p1 : Int32) : Met l yX8_deep (wU yX8_deep cX8_deep 2 (some .int)) { frames := 3, cells := 0, slots := 0, locals := 70 } (va_Pc [.ref (g.1 0 0), .int p1] (PW VM ctM g S)) (va_Qi (fun r u => r = tX8_deep S p1 ∧ u = S) (fun u U => PW VM ctM g u U) A) 0 0 A := by
  refine ent (cc := cX8_deep) (maxL := 2) (ret := (some .int)) (by decide) (Nat.le_of_ble_eq_true rfl) ?_
  intro p e s m below meth c args Q C0 hr hlocks hP hK hQ ls hl
  have hx := C0.1
  have hb := C0.2.1
  have hml := C0.2.2.1
  have hown := C0.2.2.2.1
  have hts := C0.2.2.2.2
  obtain ⟨F, hF⟩ : ∃ F : Int32, F = tX8_deep S p1 := ⟨_, rfl⟩
  have hf := hF
  unfold tX8_deep at hf
  have hS : va_S A s.heap s.heap [] := va_S.rf
  have hl : lv_has ls 2 [(0, .ref (g.1 0 0)), (1, .int p1)] := hl
  refine lv_aload_n hx hb dX8_deep_0 rfl (lv_at hl 0 rfl) ?_
  refine lv_iload_n hx hb dX8_deep_1 rfl (lv_at hl 1 rfl) ?_
  refine kzc (va_runV (As := [.int p1]) (rest := []) C0 (kX8_isShip l g A hA S p1) (cwV 1 hts (gV q812 q814 q13 q54 q815) rfl rfl rfl (by decide +kernel) ⟨Nat.le_of_ble_eq_true rfl, Nat.le_of_ble_eq_true rfl⟩) (preV (recO (mMain g) hP hK rfl) hP hK) rfl rfl hl.1 rfl (lv_room (Nat.le_of_ble_eq_true rfl)) dX8_deep_2 ⟨Nat.zero_le _, Nat.zero_le _⟩) hS (fun _ h => h) (fun zc1 H locs hP hS => ?_) (fun zc1 H locs hP hS => ?_)
  · have hf := hf.trans (if_pos zc1)
    refine lv_if_eq (tgt := 21) hx hb dX8_deep_5 (by decide) (fun zc2 => absurd zc2 (by decide)) (fun zc2 => ?_)
    refine lv_aload_n hx hb dX8_deep_8 rfl (lv_at hl 0 rfl) ?_
    refine lv_iload_n hx hb dX8_deep_9 rfl (lv_at hl 1 rfl) ?_
    refine lv_aload_n hx hb dX8_deep_10 rfl (lv_at hl 0 rfl) ?_
    refine lv_iload_n hx hb dX8_deep_11 rfl (lv_at hl 1 rfl) ?_
    refine kiP (va_runV (As := [.int p1]) (rest := [.int p1, .ref (g.1 0 0)]) C0 (kX8_insured l g A hA S p1 (mSh_in zc1)) (cwV 1 hts (gV q902 q904 q26 q54 q905) rfl rfl rfl (by decide +kernel) ⟨Nat.le_of_ble_eq_true rfl, Nat.le_of_ble_eq_true rfl⟩) (preV (recO (mMain g) hP hK rfl) hP hK) rfl rfl hl.1 rfl (lv_room (Nat.le_of_ble_eq_true rfl)) dX8_deep_12 ⟨Nat.zero_le _, Nat.zero_le _⟩) hS (fun _ h => h) (fun H locs hP hS => ?_)
    refine kiP (va_runV (As := [.int p1, .int (tX8_insured S p1)]) (rest := []) C0 (kX8_deepWith l g A hA S p1 (tX8_insured S p1) (mSh_in zc1)) (cwV 2 hts (gV q958 q960 q31 q54 q961) rfl rfl rfl (by decide +kernel) ⟨Nat.le_of_ble_eq_true rfl, Nat.le_of_ble_eq_true rfl⟩) (preV (recO (mMain g) hP hK rfl) hP hK) rfl rfl hl.1 rfl (lv_room (Nat.le_of_ble_eq_true rfl)) dX8_deep_15 ⟨Nat.zero_le _, Nat.zero_le _⟩) hS (fun _ h => h) (fun H locs hP hS => ?_)
    refine lv_goto (tgt := 22) hx hb dX8_deep_18 (by decide) ?_
    exact ri hQ C0 hr hlocks hK hP hS (by rw [← hF]; exact ⟨hf.symm, rfl⟩) dX8_deep_22
  · have hf := hf.trans (if_neg zc1)
    refine lv_if_eq (tgt := 21) hx hb dX8_deep_5 (by decide) (fun zc3 => ?_) (fun zc3 => absurd (by decide) zc3)
    refine lv_iconst (v := (-1)) hx hb dX8_deep_21 (by decide) ?_
    exact ri hQ C0 hr hlocks hK hP hS (by rw [← hF]; exact ⟨hf.symm, rfl⟩) dX8_deep_22
def LX8_share_32 (S : St) (p1 : Int32) (p2 : Int32) : Nat → Int32 → Int32
  | 0, zx7 => zx7
  | zk6 + 1, zx7 => (if p2 < (tX8_deepWith S p1 (((tX8_insured S p1) * (10 - (nI zk6))) / 10)) then (LX8_share_32 S p1 p2 zk6 zx7) else (LX8_share_32 S p1 p2 zk6 (nI zk6)))
def tX8_share (S : St) (p1 : Int32) (p2 : Int32) : Int32 :=
  (if mSh S p1 then (if wj (Int32.toInt64 p2) 1 9 then (LX8_share_32 S p1 p2 11 (-6)) else (-2)) else (-1))
set_option maxHeartbeats 4000000 in
set_option maxRecDepth 100000 in
theorem kX8_share (l : Launch) (g : Gd) (A : Nat → Prop) (hA : Ads g.1 VM A) (S : St) (p1 : Int32) (p2 : Int32) : Met l yX8_share (wU yX8_share cX8_share 5 (some .int)) { frames := 3, cells := 0, slots := 0, locals := 70 } (va_Pc [.ref (g.1 0 0), .int p1, .int p2] (PW VM ctM g S)) (va_Qi (fun r u => r = tX8_share S p1 p2 ∧ u = S) (fun u U => PW VM ctM g u U) A) 0 0 A := by
  refine ent (cc := cX8_share) (maxL := 5) (ret := (some .int)) (by decide) (Nat.le_of_ble_eq_true rfl) ?_
  intro p e s m below meth c args Q C0 hr hlocks hP hK hQ ls hl
  have hx := C0.1
  have hb := C0.2.1
  have hml := C0.2.2.1
  have hown := C0.2.2.2.1
  have hts := C0.2.2.2.2
  obtain ⟨F, hF⟩ : ∃ F : Int32, F = tX8_share S p1 p2 := ⟨_, rfl⟩
  have hf := hF
  unfold tX8_share at hf
  have hS : va_S A s.heap s.heap [] := va_S.rf
  have hl : lv_has ls 5 [(0, .ref (g.1 0 0)), (1, .int p1), (2, .int p2)] := hl
  refine lv_aload_n hx hb dX8_share_0 rfl (lv_at hl 0 rfl) ?_
  refine lv_iload_n hx hb dX8_share_1 rfl (lv_at hl 1 rfl) ?_
  refine kzc (va_runV (As := [.int p1]) (rest := []) C0 (kX8_isShip l g A hA S p1) (cwV 1 hts (gV q812 q814 q13 q54 q815) rfl rfl rfl (by decide +kernel) ⟨Nat.le_of_ble_eq_true rfl, Nat.le_of_ble_eq_true rfl⟩) (preV (recO (mMain g) hP hK rfl) hP hK) rfl rfl hl.1 rfl (lv_room (Nat.le_of_ble_eq_true rfl)) dX8_share_2 ⟨Nat.zero_le _, Nat.zero_le _⟩) hS (fun _ h => h) (fun zc1 H locs hP hS => ?_) (fun zc1 H locs hP hS => ?_)
  · have hf := hf.trans (if_pos zc1)
    refine lv_if_ne (tgt := 10) hx hb dX8_share_5 (by decide) (fun zc2 => ?_) (fun zc2 => absurd zc2 (by decide))
    refine lv_iload_n hx hb dX8_share_10 rfl (lv_at hl 2 rfl) ?_
    refine lv_i2l (v := (Int32.toInt64 p2)) hx hb dX8_share_11 rfl ?_
    refine lv_lconst (v := 1) hx hb dX8_share_12 (by decide) ?_
    refine lv_ldc2 (v := 9) hx hb hown (hts _ q825) dX8_share_13 ?_
    refine kzc (va_runS (As := [.long (Int32.toInt64 p2), .long 1, .long 9]) (rest := []) C0 (kX8_in l g A hA S (Int32.toInt64 p2) 1 9) (va_cwS 3 hts (gS q799 q800 q54 q801) rfl rfl rfl (by decide +kernel) ⟨Nat.le_of_ble_eq_true rfl, Nat.le_of_ble_eq_true rfl⟩) (preS hP hK) rfl rfl hl.1 rfl (lv_room (Nat.le_of_ble_eq_true rfl)) dX8_share_16 ⟨Nat.zero_le _, Nat.zero_le _⟩) hS (fun _ h => h) (fun zc3 H locs hP hS => ?_) (fun zc3 H locs hP hS => ?_)
    · have hf := hf.trans (if_pos zc3)
      refine lv_if_ne (tgt := 25) hx hb dX8_share_19 (by decide) (fun zc4 => ?_) (fun zc4 => absurd zc4 (by decide))
      refine lv_bipush (v := (-6)) hx hb dX8_share_25 (by decide) ?_
      refine lv_istore_n (lv' := [(3, .int (-6)), (0, .ref (g.1 0 0)), (1, .int p1), (2, .int p2)]) hx hb dX8_share_27 rfl hl (by decide) rfl (fun ls hl => ?_)
      refine lv_bipush (v := 10) hx hb dX8_share_28 (by decide) ?_
      refine lv_istore (lv' := [(4, .int 10), (3, .int (-6)), (0, .ref (g.1 0 0)), (1, .int p1), (2, .int p2)]) hx hb dX8_share_30 hl (by decide) rfl (fun ls hl => ?_)
      have lp32 : ∀ (zk6 : Nat) (zx7 : Int32) (H : Heap) (locs : List Loc), (zk6 ≤ 11) → (F = LX8_share_32 S p1 p2 zk6 zx7) → HW VM ctM g S H → va_S A s.heap H locs → ∀ ls : Array Slot, lv_has ls 5 [(4, .int (nI zk6 - 1)), (0, .ref (g.1 0 0)), (1, .int p1), (2, .int p2), (3, .int zx7)] → W p l e { frames := 3, cells := 0, slots := 0, locals := 70 } s m args below meth c H locs 0 0 Q (F0 m 32 ls []) := by
        intro zk6
        induction zk6 with
        | zero =>
          intro zx7 H locs hik hf hP hS ls hl
          rw [LX8_share_32] at hf
          refine lv_iload hx hb dX8_share_32 (lv_at hl 0 rfl) ?_
          refine lv_if_lt (tgt := 73) hx hb dX8_share_34 (by decide) (fun zc8 => ?_) (fun zc8 => absurd (by decide) zc8)
          refine lv_iload_n hx hb dX8_share_73 rfl (lv_at hl 4 rfl) ?_
          exact ri hQ C0 hr hlocks hK hP hS (by rw [← hF]; exact ⟨hf.symm, rfl⟩) dX8_share_74
        | succ zk6 ih32 =>
          intro zx7 H locs hik hf hP hS ls hl
          rw [LX8_share_32] at hf
          rw [nI_pred] at hl
          refine lv_iload hx hb dX8_share_32 (lv_at hl 0 rfl) ?_
          refine lv_if_lt (tgt := 73) hx hb dX8_share_34 (by decide) (fun zc9 => absurd zc9 (nI_pos (by omega))) (fun zc9 => ?_)
          refine lv_aload_n hx hb dX8_share_37 rfl (lv_at hl 1 rfl) ?_
          refine lv_iload_n hx hb dX8_share_38 rfl (lv_at hl 2 rfl) ?_
          refine lv_aload_n hx hb dX8_share_39 rfl (lv_at hl 1 rfl) ?_
          refine lv_iload_n hx hb dX8_share_40 rfl (lv_at hl 2 rfl) ?_
          refine kiP (va_runV (As := [.int p1]) (rest := [.int p1, .ref (g.1 0 0)]) C0 (kX8_insured l g A hA S p1 (mSh_in zc1)) (cwV 1 hts (gV q902 q904 q26 q54 q905) rfl rfl rfl (by decide +kernel) ⟨Nat.le_of_ble_eq_true rfl, Nat.le_of_ble_eq_true rfl⟩) (preV (recO (mMain g) hP hK rfl) hP hK) rfl rfl hl.1 rfl (lv_room (Nat.le_of_ble_eq_true rfl)) dX8_share_41 ⟨Nat.zero_le _, Nat.zero_le _⟩) hS (fun _ h => h) (fun H locs hP hS => ?_)
          refine lv_bipush (v := 10) hx hb dX8_share_44 (by decide) ?_
          refine lv_iload hx hb dX8_share_46 (lv_at hl 0 rfl) ?_
          refine lv_isub hx hb dX8_share_48 ?_
          refine lv_imul hx hb dX8_share_49 ?_
          refine lv_bipush (v := 10) hx hb dX8_share_50 (by decide) ?_
          refine lv_idiv hx hb dX8_share_52 (by decide) ?_
          refine kiP (va_runV (As := [.int p1, .int (((tX8_insured S p1) * (10 - (nI zk6))) / 10)]) (rest := []) C0 (kX8_deepWith l g A hA S p1 (((tX8_insured S p1) * (10 - (nI zk6))) / 10) (mSh_in zc1)) (cwV 2 hts (gV q958 q960 q31 q54 q961) rfl rfl rfl (by decide +kernel) ⟨Nat.le_of_ble_eq_true rfl, Nat.le_of_ble_eq_true rfl⟩) (preV (recO (mMain g) hP hK rfl) hP hK) rfl rfl hl.1 rfl (lv_room (Nat.le_of_ble_eq_true rfl)) dX8_share_53 ⟨Nat.zero_le _, Nat.zero_le _⟩) hS (fun _ h => h) (fun H locs hP hS => ?_)
          refine lv_iload_n hx hb dX8_share_56 rfl (lv_at hl 3 rfl) ?_
          refine lv_icmp_gt (tgt := 65) hx hb dX8_share_57 (by decide) (fun zc10 => ?_) (fun zc10 => ?_)
          · have hf := hf.trans (if_pos zc10)
            refine lv_iload_n hx hb dX8_share_65 rfl (lv_at hl 4 rfl) ?_
            refine lv_istore_n (lv' := [(3, .int zx7), (4, .int (nI zk6)), (0, .ref (g.1 0 0)), (1, .int p1), (2, .int p2)]) hx hb dX8_share_66 rfl hl (by decide) rfl (fun ls hl => ?_)
            refine lv_iinc (v := ((nI zk6) + (-1))) (lv' := [(4, .int ((nI zk6) + (-1))), (3, .int zx7), (0, .ref (g.1 0 0)), (1, .int p1), (2, .int p2)]) hx hb dX8_share_67 hl (k := 1) rfl rfl (by decide) rfl (fun ls hl => ?_)
            refine lv_goto (tgt := 32) hx hb dX8_share_70 (by decide) ?_
            exact ih32 zx7 _ _ (by omega) hf hP hS ls (lv_sub (lv_eqI hl (m1_eq _)) [0, 2, 3, 4, 1] rfl)
          · have hf := hf.trans (if_neg zc10)
            refine lv_iload hx hb dX8_share_60 (lv_at hl 0 rfl) ?_
            refine lv_goto (tgt := 66) hx hb dX8_share_62 (by decide) ?_
            refine lv_istore_n (lv' := [(3, .int (nI zk6)), (4, .int (nI zk6)), (0, .ref (g.1 0 0)), (1, .int p1), (2, .int p2)]) hx hb dX8_share_66 rfl hl (by decide) rfl (fun ls hl => ?_)
            refine lv_iinc (v := ((nI zk6) + (-1))) (lv' := [(4, .int ((nI zk6) + (-1))), (3, .int (nI zk6)), (0, .ref (g.1 0 0)), (1, .int p1), (2, .int p2)]) hx hb dX8_share_67 hl (k := 1) rfl rfl (by decide) rfl (fun ls hl => ?_)
            refine lv_goto (tgt := 32) hx hb dX8_share_70 (by decide) ?_
            exact ih32 (nI zk6) _ _ (by omega) hf hP hS ls (lv_sub (lv_eqI hl (m1_eq _)) [0, 2, 3, 4, 1] rfl)
      exact lp32 11 (-6) _ _ (by decide) hf hP hS ls (lv_sub (lv_eqI hl (by decide)) [0, 2, 3, 4, 1] rfl)
    · have hf := hf.trans (if_neg zc3)
      refine lv_if_ne (tgt := 25) hx hb dX8_share_19 (by decide) (fun zc11 => absurd (by decide) zc11) (fun zc11 => ?_)
      refine lv_bipush (v := (-2)) hx hb dX8_share_22 (by decide) ?_
      exact ri hQ C0 hr hlocks hK hP hS (by rw [← hF]; exact ⟨hf.symm, rfl⟩) dX8_share_24
  · have hf := hf.trans (if_neg zc1)
    refine lv_if_ne (tgt := 10) hx hb dX8_share_5 (by decide) (fun zc12 => absurd (by decide) zc12) (fun zc12 => ?_)
    refine lv_iconst (v := (-1)) hx hb dX8_share_8 (by decide) ?_
    exact ri hQ C0 hr hlocks hK hP hS (by rw [← hF]; exact ⟨hf.symm, rfl⟩) dX8_share_9
