def tX7_mean (S : St) (p1 : Int32) (p2 : Int32) (p3 : Int32) : Int64 :=
  (if isAt S 0 p1 then (if wi p2 0 9 then (if wi p3 0 1 then (tX7_partOf S (Int32.toInt64 (tX2_hundredfoldMean S 0 (Int32.toNatClampNeg p1) p2 (tX4_allSums S 0 (Int32.toNatClampNeg p1)))) 100 p3) else (-1000000000000000002)) else (-1000000000000000002)) else (-1000000000000000001))
set_option maxHeartbeats 4000000 in
set_option maxRecDepth 100000 in
theorem kX7_mean (l : Launch) (g : Gd) (A : Nat → Prop) (hA : Ads g.1 VX A) (S : St) (p1 : Int32) (p2 : Int32) (p3 : Int32) : Met l yX7_mean (wU yX7_mean cX7_mean 5 (some .long)) { frames := 2, cells := 0, slots := 0, locals := 54 } (va_Pc [.ref (g.1 12 0), .int p1, .int p2, .int p3] (PW VX ctX g S)) (va_Ql (fun r u => r = tX7_mean S p1 p2 p3 ∧ u = S) (fun u U => PW VX ctX g u U) A) 0 0 A := by
  refine ent (cc := cX7_mean) (maxL := 5) (ret := (some .long)) (by decide) (Nat.le_of_ble_eq_true rfl) ?_
  intro p e s m below meth c args Q C0 hr hlocks hP hK hQ ls hl
  have hx := C0.1
  have hb := C0.2.1
  have hml := C0.2.2.1
  have hown := C0.2.2.2.1
  have hts := C0.2.2.2.2
  obtain ⟨F, hF⟩ : ∃ F : Int64, F = tX7_mean S p1 p2 p3 := ⟨_, rfl⟩
  have hf := hF
  unfold tX7_mean at hf
  have hS : va_S A s.heap s.heap [] := va_S.rf
  have hl : lv_has ls 5 [(0, .ref (g.1 12 0)), (1, .int p1), (2, .int p2), (3, .int p3)] := hl
  refine lv_aload_n hx hb dX7_mean_0 rfl (lv_at hl 0 rfl) ?_
  refine gO (T := TX7) C0 inA7 hK hP (xMain g) rfl 0 (by decide) (hts _ q263) (v := .ref (g.1 0 6)) rfl dX7_mean_1 ?_
  refine lv_iload_n hx hb dX7_mean_4 rfl (lv_at hl 1 rfl) ?_
  refine kqc (va_runV (As := [.int p1]) (rest := []) C0 (kX2_shipAt l g A hA S 0 p1 (by decide)) (cwV 1 hts (gV q327 q313 q314 q47 q315) rfl rfl rfl (by decide +kernel) ⟨Nat.le_of_ble_eq_true rfl, Nat.le_of_ble_eq_true rfl⟩) (preV (recO (xOwner g (by decide)) hP hK rfl) hP hK) rfl rfl hl.1 rfl (lv_room (Nat.le_of_ble_eq_true rfl)) dX7_mean_5 ⟨Nat.zero_le _, Nat.zero_le _⟩) hS (fun _ h => h) (fun zc1 H locs hP hS => ?_) (fun zc1 H locs hP hS => ?_)
  · have hf := hf.trans (if_pos zc1)
    refine lv_astore (lv' := [(4, .ref (g.1 0 (Int32.toNatClampNeg p1))), (0, .ref (g.1 12 0)), (1, .int p1), (2, .int p2), (3, .int p3)]) hx hb dX7_mean_8 hl (by decide) rfl (fun ls hl => ?_)
    refine lv_aload hx hb dX7_mean_10 (lv_at hl 0 rfl) ?_
    refine lv_ifnonnull (tgt := 19) hx hb dX7_mean_12 (by decide) ?_
    refine lv_iload_n hx hb dX7_mean_19 rfl (lv_at hl 3 rfl) ?_
    refine lv_iconst (v := 0) hx hb dX7_mean_20 (by decide) ?_
    refine lv_bipush (v := 9) hx hb dX7_mean_21 (by decide) ?_
    refine kzc (va_runS (As := [.int p2, .int 0, .int 9]) (rest := []) C0 (kX7_within l g A hA S p2 0 9) (va_cwS 3 hts (gS q297 q298 q46 q299) rfl rfl rfl (by decide +kernel) ⟨Nat.le_of_ble_eq_true rfl, Nat.le_of_ble_eq_true rfl⟩) (preS hP hK) rfl rfl hl.1 rfl (lv_room (Nat.le_of_ble_eq_true rfl)) dX7_mean_23 ⟨Nat.zero_le _, Nat.zero_le _⟩) hS (fun _ h => h) (fun zc2 H locs hP hS => ?_) (fun zc2 H locs hP hS => ?_)
    · have hf := hf.trans (if_pos zc2)
      refine lv_if_eq (tgt := 38) hx hb dX7_mean_26 (by decide) (fun zc3 => absurd zc3 (by decide)) (fun zc3 => ?_)
      refine lv_iload_n hx hb dX7_mean_29 rfl (lv_at hl 4 rfl) ?_
      refine lv_iconst (v := 0) hx hb dX7_mean_30 (by decide) ?_
      refine lv_iconst (v := 1) hx hb dX7_mean_31 (by decide) ?_
      refine kzc (va_runS (As := [.int p3, .int 0, .int 1]) (rest := []) C0 (kX7_within l g A hA S p3 0 1) (va_cwS 3 hts (gS q297 q298 q46 q299) rfl rfl rfl (by decide +kernel) ⟨Nat.le_of_ble_eq_true rfl, Nat.le_of_ble_eq_true rfl⟩) (preS hP hK) rfl rfl hl.1 rfl (lv_room (Nat.le_of_ble_eq_true rfl)) dX7_mean_32 ⟨Nat.zero_le _, Nat.zero_le _⟩) hS (fun _ h => h) (fun zc4 H locs hP hS => ?_) (fun zc4 H locs hP hS => ?_)
      · have hf := hf.trans (if_pos zc4)
        refine lv_if_ne (tgt := 42) hx hb dX7_mean_35 (by decide) (fun zc5 => ?_) (fun zc5 => absurd zc5 (by decide))
        refine lv_aload_n hx hb dX7_mean_42 rfl (lv_at hl 1 rfl) ?_
        refine gO (T := TX7) C0 inA7 hK hP (xMain g) rfl 0 (by decide) (hts _ q263) (v := .ref (g.1 0 6)) rfl dX7_mean_43 ?_
        refine lv_aload hx hb dX7_mean_46 (lv_at hl 0 rfl) ?_
        refine lv_iload_n hx hb dX7_mean_48 rfl (lv_at hl 3 rfl) ?_
        refine lv_aload hx hb dX7_mean_49 (lv_at hl 0 rfl) ?_
        refine kiP (va_runV (As := []) (rest := [.int p2, .ref (g.1 0 (Int32.toNatClampNeg p1)), .ref (g.1 0 6)]) C0 (kX4_allSums l g A hA S 0 (Int32.toNatClampNeg p1) (by decide) (plc_lt zc1.1)) (cwV 0 hts (gV q468 q457 q458 q48 q459) rfl rfl rfl (by decide +kernel) ⟨Nat.le_of_ble_eq_true rfl, Nat.le_of_ble_eq_true rfl⟩) (preV (recO (xShip g (by decide) (plc_lt zc1.1)) hP hK rfl) hP hK) rfl rfl hl.1 rfl (lv_room (Nat.le_of_ble_eq_true rfl)) dX7_mean_51 ⟨Nat.zero_le _, Nat.zero_le _⟩) hS (fun _ h => h) (fun H locs hP hS => ?_)
        refine kiP (va_runV (As := [.ref (g.1 0 (Int32.toNatClampNeg p1)), .int p2, .int (tX4_allSums S 0 (Int32.toNatClampNeg p1))]) (rest := []) C0 (kX2_hundredfoldMean l g A hA S 0 (Int32.toNatClampNeg p1) p2 (tX4_allSums S 0 (Int32.toNatClampNeg p1)) (by decide) (plc_lt zc1.1)) (cwV 3 hts (gV q489 q490 q491 q47 q492) rfl rfl rfl (by decide +kernel) ⟨Nat.le_of_ble_eq_true rfl, Nat.le_of_ble_eq_true rfl⟩) (preV (recO (xOwner g (by decide)) hP hK rfl) hP hK) rfl rfl hl.1 rfl (lv_room (Nat.le_of_ble_eq_true rfl)) dX7_mean_54 ⟨Nat.zero_le _, Nat.zero_le _⟩) hS (fun _ h => h) (fun H locs hP hS => ?_)
        refine lv_i2l (v := (Int32.toInt64 (tX2_hundredfoldMean S 0 (Int32.toNatClampNeg p1) p2 (tX4_allSums S 0 (Int32.toNatClampNeg p1))))) hx hb dX7_mean_57 rfl ?_
        refine lv_ldc2 (v := 100) hx hb hown (hts _ q493) dX7_mean_58 ?_
        refine lv_iload_n hx hb dX7_mean_61 rfl (lv_at hl 4 rfl) ?_
        refine klP (va_runS (As := [.long (Int32.toInt64 (tX2_hundredfoldMean S 0 (Int32.toNatClampNeg p1) p2 (tX4_allSums S 0 (Int32.toNatClampNeg p1)))), .long 100, .int p3]) (rest := []) C0 (kX7_partOf l g A hA S (Int32.toInt64 (tX2_hundredfoldMean S 0 (Int32.toNatClampNeg p1) p2 (tX4_allSums S 0 (Int32.toNatClampNeg p1)))) 100 p3) (va_cwS 3 hts (gS q494 q495 q46 q496) rfl rfl rfl (by decide +kernel) ⟨Nat.le_of_ble_eq_true rfl, Nat.le_of_ble_eq_true rfl⟩) (preS hP hK) rfl rfl hl.1 rfl (lv_room (Nat.le_of_ble_eq_true rfl)) dX7_mean_62 ⟨Nat.zero_le _, Nat.zero_le _⟩) hS (fun _ h => h) (fun H locs hP hS => ?_)
        exact rl hQ C0 hr hlocks hK hP hS (by rw [← hF]; exact ⟨hf.symm, rfl⟩) dX7_mean_65
      · have hf := hf.trans (if_neg zc4)
        refine lv_if_ne (tgt := 42) hx hb dX7_mean_35 (by decide) (fun zc6 => absurd (by decide) zc6) (fun zc6 => ?_)
        refine lv_ldc2 (v := (-1000000000000000002)) hx hb hown (hts _ q488) dX7_mean_38 ?_
        exact rl hQ C0 hr hlocks hK hP hS (by rw [← hF]; exact ⟨hf.symm, rfl⟩) dX7_mean_41
    · have hf := hf.trans (if_neg zc2)
      refine lv_if_eq (tgt := 38) hx hb dX7_mean_26 (by decide) (fun zc7 => ?_) (fun zc7 => absurd (by decide) zc7)
      refine lv_ldc2 (v := (-1000000000000000002)) hx hb hown (hts _ q488) dX7_mean_38 ?_
      exact rl hQ C0 hr hlocks hK hP hS (by rw [← hF]; exact ⟨hf.symm, rfl⟩) dX7_mean_41
  · have hf := hf.trans (if_neg zc1)
    refine lv_astoreN (lv' := [(4, .null), (0, .ref (g.1 12 0)), (1, .int p1), (2, .int p2), (3, .int p3)]) hx hb dX7_mean_8 hl (by decide) rfl (fun ls hl => ?_)
    refine lv_aloadN hx hb dX7_mean_10 (lv_at hl 0 rfl) ?_
    refine lv_ifnonnullN hx hb dX7_mean_12 ?_
    refine lv_ldc2 (v := (-1000000000000000001)) hx hb hown (hts _ q487) dX7_mean_15 ?_
    exact rl hQ C0 hr hlocks hK hP hS (by rw [← hF]; exact ⟨hf.symm, rfl⟩) dX7_mean_18
def tX7_deep (S : St) (p1 : Int32) : Int32 :=
  (if isAt S 0 p1 then (tX2_deepestFor S 0 (Int32.toNatClampNeg p1) (tX4_allSums S 0 (Int32.toNatClampNeg p1))) else (-1))
set_option maxHeartbeats 4000000 in
set_option maxRecDepth 100000 in
theorem kX7_deep (l : Launch) (g : Gd) (A : Nat → Prop) (hA : Ads g.1 VX A) (S : St) (p1 : Int32) : Met l yX7_deep (wU yX7_deep cX7_deep 3 (some .int)) { frames := 3, cells := 0, slots := 0, locals := 70 } (va_Pc [.ref (g.1 12 0), .int p1] (PW VX ctX g S)) (va_Qi (fun r u => r = tX7_deep S p1 ∧ u = S) (fun u U => PW VX ctX g u U) A) 0 0 A := by
  refine ent (cc := cX7_deep) (maxL := 3) (ret := (some .int)) (by decide) (Nat.le_of_ble_eq_true rfl) ?_
  intro p e s m below meth c args Q C0 hr hlocks hP hK hQ ls hl
  have hx := C0.1
  have hb := C0.2.1
  have hml := C0.2.2.1
  have hown := C0.2.2.2.1
  have hts := C0.2.2.2.2
  obtain ⟨F, hF⟩ : ∃ F : Int32, F = tX7_deep S p1 := ⟨_, rfl⟩
  have hf := hF
  unfold tX7_deep at hf
  have hS : va_S A s.heap s.heap [] := va_S.rf
  have hl : lv_has ls 3 [(0, .ref (g.1 12 0)), (1, .int p1)] := hl
  refine lv_aload_n hx hb dX7_deep_0 rfl (lv_at hl 0 rfl) ?_
  refine gO (T := TX7) C0 inA7 hK hP (xMain g) rfl 0 (by decide) (hts _ q263) (v := .ref (g.1 0 6)) rfl dX7_deep_1 ?_
  refine lv_iload_n hx hb dX7_deep_4 rfl (lv_at hl 1 rfl) ?_
  refine kqc (va_runV (As := [.int p1]) (rest := []) C0 (kX2_shipAt l g A hA S 0 p1 (by decide)) (cwV 1 hts (gV q327 q313 q314 q47 q315) rfl rfl rfl (by decide +kernel) ⟨Nat.le_of_ble_eq_true rfl, Nat.le_of_ble_eq_true rfl⟩) (preV (recO (xOwner g (by decide)) hP hK rfl) hP hK) rfl rfl hl.1 rfl (lv_room (Nat.le_of_ble_eq_true rfl)) dX7_deep_5 ⟨Nat.zero_le _, Nat.zero_le _⟩) hS (fun _ h => h) (fun zc1 H locs hP hS => ?_) (fun zc1 H locs hP hS => ?_)
  · have hf := hf.trans (if_pos zc1)
    refine lv_astore_n (lv' := [(2, .ref (g.1 0 (Int32.toNatClampNeg p1))), (0, .ref (g.1 12 0)), (1, .int p1)]) hx hb dX7_deep_8 rfl hl (by decide) rfl (fun ls hl => ?_)
    refine lv_aload_n hx hb dX7_deep_9 rfl (lv_at hl 0 rfl) ?_
    refine lv_ifnonnull (tgt := 15) hx hb dX7_deep_10 (by decide) ?_
    refine lv_aload_n hx hb dX7_deep_15 rfl (lv_at hl 1 rfl) ?_
    refine gO (T := TX7) C0 inA7 hK hP (xMain g) rfl 0 (by decide) (hts _ q263) (v := .ref (g.1 0 6)) rfl dX7_deep_16 ?_
    refine lv_aload_n hx hb dX7_deep_19 rfl (lv_at hl 0 rfl) ?_
    refine lv_aload_n hx hb dX7_deep_20 rfl (lv_at hl 0 rfl) ?_
    refine kiP (va_runV (As := []) (rest := [.ref (g.1 0 (Int32.toNatClampNeg p1)), .ref (g.1 0 6)]) C0 (kX4_allSums l g A hA S 0 (Int32.toNatClampNeg p1) (by decide) (plc_lt zc1.1)) (cwV 0 hts (gV q468 q457 q458 q48 q459) rfl rfl rfl (by decide +kernel) ⟨Nat.le_of_ble_eq_true rfl, Nat.le_of_ble_eq_true rfl⟩) (preV (recO (xShip g (by decide) (plc_lt zc1.1)) hP hK rfl) hP hK) rfl rfl hl.1 rfl (lv_room (Nat.le_of_ble_eq_true rfl)) dX7_deep_21 ⟨Nat.zero_le _, Nat.zero_le _⟩) hS (fun _ h => h) (fun H locs hP hS => ?_)
    refine kiP (va_runV (As := [.ref (g.1 0 (Int32.toNatClampNeg p1)), .int (tX4_allSums S 0 (Int32.toNatClampNeg p1))]) (rest := []) C0 (kX2_deepestFor l g A hA S 0 (Int32.toNatClampNeg p1) (tX4_allSums S 0 (Int32.toNatClampNeg p1)) (by decide) (plc_lt zc1.1)) (cwV 2 hts (gV q507 q508 q509 q47 q510) rfl rfl rfl (by decide +kernel) ⟨Nat.le_of_ble_eq_true rfl, Nat.le_of_ble_eq_true rfl⟩) (preV (recO (xOwner g (by decide)) hP hK rfl) hP hK) rfl rfl hl.1 rfl (lv_room (Nat.le_of_ble_eq_true rfl)) dX7_deep_24 ⟨Nat.zero_le _, Nat.zero_le _⟩) hS (fun _ h => h) (fun H locs hP hS => ?_)
    exact ri hQ C0 hr hlocks hK hP hS (by rw [← hF]; exact ⟨hf.symm, rfl⟩) dX7_deep_27
  · have hf := hf.trans (if_neg zc1)
    refine lv_astore_nN (lv' := [(2, .null), (0, .ref (g.1 12 0)), (1, .int p1)]) hx hb dX7_deep_8 rfl hl (by decide) rfl (fun ls hl => ?_)
    refine lv_aload_nN hx hb dX7_deep_9 rfl (lv_at hl 0 rfl) ?_
    refine lv_ifnonnullN hx hb dX7_deep_10 ?_
    refine lv_iconst (v := (-1)) hx hb dX7_deep_13 (by decide) ?_
    exact ri hQ C0 hr hlocks hK hP hS (by rw [← hF]; exact ⟨hf.symm, rfl⟩) dX7_deep_14
def LX7_share_37 (S : St) (p1 : Int32) (p2 : Int32) : Nat → Nat → Int32
  | 0, zi4 => (-6)
  | zk5 + 1, zi4 => (if p2 < (tX2_deepestFor S 0 (Int32.toNatClampNeg p1) (((tX4_allSums S 0 (Int32.toNatClampNeg p1)) * (10 - (nI zi4))) / 10)) then (LX7_share_37 S p1 p2 zk5 (zi4 + 1)) else (nI zi4))
def tX7_share (S : St) (p1 : Int32) (p2 : Int32) : Int32 :=
  (if isAt S 0 p1 then (if wi p2 1 9 then (LX7_share_37 S p1 p2 11 0) else (-2)) else (-1))
set_option maxHeartbeats 4000000 in
set_option maxRecDepth 100000 in
theorem kX7_share (l : Launch) (g : Gd) (A : Nat → Prop) (hA : Ads g.1 VX A) (S : St) (p1 : Int32) (p2 : Int32) : Met l yX7_share (wU yX7_share cX7_share 6 (some .int)) { frames := 3, cells := 0, slots := 0, locals := 70 } (va_Pc [.ref (g.1 12 0), .int p1, .int p2] (PW VX ctX g S)) (va_Qi (fun r u => r = tX7_share S p1 p2 ∧ u = S) (fun u U => PW VX ctX g u U) A) 0 0 A := by
  refine ent (cc := cX7_share) (maxL := 6) (ret := (some .int)) (by decide) (Nat.le_of_ble_eq_true rfl) ?_
  intro p e s m below meth c args Q C0 hr hlocks hP hK hQ ls hl
  have hx := C0.1
  have hb := C0.2.1
  have hml := C0.2.2.1
  have hown := C0.2.2.2.1
  have hts := C0.2.2.2.2
  obtain ⟨F, hF⟩ : ∃ F : Int32, F = tX7_share S p1 p2 := ⟨_, rfl⟩
  have hf := hF
  unfold tX7_share at hf
  have hS : va_S A s.heap s.heap [] := va_S.rf
  have hl : lv_has ls 6 [(0, .ref (g.1 12 0)), (1, .int p1), (2, .int p2)] := hl
  refine lv_aload_n hx hb dX7_share_0 rfl (lv_at hl 0 rfl) ?_
  refine gO (T := TX7) C0 inA7 hK hP (xMain g) rfl 0 (by decide) (hts _ q263) (v := .ref (g.1 0 6)) rfl dX7_share_1 ?_
  refine lv_iload_n hx hb dX7_share_4 rfl (lv_at hl 1 rfl) ?_
  refine kqc (va_runV (As := [.int p1]) (rest := []) C0 (kX2_shipAt l g A hA S 0 p1 (by decide)) (cwV 1 hts (gV q327 q313 q314 q47 q315) rfl rfl rfl (by decide +kernel) ⟨Nat.le_of_ble_eq_true rfl, Nat.le_of_ble_eq_true rfl⟩) (preV (recO (xOwner g (by decide)) hP hK rfl) hP hK) rfl rfl hl.1 rfl (lv_room (Nat.le_of_ble_eq_true rfl)) dX7_share_5 ⟨Nat.zero_le _, Nat.zero_le _⟩) hS (fun _ h => h) (fun zc1 H locs hP hS => ?_) (fun zc1 H locs hP hS => ?_)
  · have hf := hf.trans (if_pos zc1)
    refine lv_astore_n (lv' := [(3, .ref (g.1 0 (Int32.toNatClampNeg p1))), (0, .ref (g.1 12 0)), (1, .int p1), (2, .int p2)]) hx hb dX7_share_8 rfl hl (by decide) rfl (fun ls hl => ?_)
    refine lv_aload_n hx hb dX7_share_9 rfl (lv_at hl 0 rfl) ?_
    refine lv_ifnonnull (tgt := 15) hx hb dX7_share_10 (by decide) ?_
    refine lv_iload_n hx hb dX7_share_15 rfl (lv_at hl 3 rfl) ?_
    refine lv_iconst (v := 1) hx hb dX7_share_16 (by decide) ?_
    refine lv_bipush (v := 9) hx hb dX7_share_17 (by decide) ?_
    refine kzc (va_runS (As := [.int p2, .int 1, .int 9]) (rest := []) C0 (kX7_within l g A hA S p2 1 9) (va_cwS 3 hts (gS q297 q298 q46 q299) rfl rfl rfl (by decide +kernel) ⟨Nat.le_of_ble_eq_true rfl, Nat.le_of_ble_eq_true rfl⟩) (preS hP hK) rfl rfl hl.1 rfl (lv_room (Nat.le_of_ble_eq_true rfl)) dX7_share_19 ⟨Nat.zero_le _, Nat.zero_le _⟩) hS (fun _ h => h) (fun zc2 H locs hP hS => ?_) (fun zc2 H locs hP hS => ?_)
    · have hf := hf.trans (if_pos zc2)
      refine lv_if_ne (tgt := 28) hx hb dX7_share_22 (by decide) (fun zc3 => ?_) (fun zc3 => absurd zc3 (by decide))
      refine lv_aload_n hx hb dX7_share_28 rfl (lv_at hl 0 rfl) ?_
      refine kiP (va_runV (As := []) (rest := []) C0 (kX4_allSums l g A hA S 0 (Int32.toNatClampNeg p1) (by decide) (plc_lt zc1.1)) (cwV 0 hts (gV q468 q457 q458 q48 q459) rfl rfl rfl (by decide +kernel) ⟨Nat.le_of_ble_eq_true rfl, Nat.le_of_ble_eq_true rfl⟩) (preV (recO (xShip g (by decide) (plc_lt zc1.1)) hP hK rfl) hP hK) rfl rfl hl.1 rfl (lv_room (Nat.le_of_ble_eq_true rfl)) dX7_share_29 ⟨Nat.zero_le _, Nat.zero_le _⟩) hS (fun _ h => h) (fun H locs hP hS => ?_)
      refine lv_istore (lv' := [(4, .int (tX4_allSums S 0 (Int32.toNatClampNeg p1))), (3, .ref (g.1 0 (Int32.toNatClampNeg p1))), (0, .ref (g.1 12 0)), (1, .int p1), (2, .int p2)]) hx hb dX7_share_32 hl (by decide) rfl (fun ls hl => ?_)
      refine lv_iconst (v := 0) hx hb dX7_share_34 (by decide) ?_
      refine lv_istore (lv' := [(5, .int 0), (4, .int (tX4_allSums S 0 (Int32.toNatClampNeg p1))), (3, .ref (g.1 0 (Int32.toNatClampNeg p1))), (0, .ref (g.1 12 0)), (1, .int p1), (2, .int p2)]) hx hb dX7_share_35 hl (by decide) rfl (fun ls hl => ?_)
      have lp37 : ∀ (zk5 zi4 : Nat) (H : Heap) (locs : List Loc), (zi4 + zk5 = 11) → (F = LX7_share_37 S p1 p2 zk5 zi4) → HW VX ctX g S H → va_S A s.heap H locs → ∀ ls : Array Slot, lv_has ls 6 [(5, .int (nI zi4)), (4, .int (tX4_allSums S 0 (Int32.toNatClampNeg p1))), (3, .ref (g.1 0 (Int32.toNatClampNeg p1))), (0, .ref (g.1 12 0)), (1, .int p1), (2, .int p2)] → W p l e { frames := 3, cells := 0, slots := 0, locals := 70 } s m args below meth c H locs 0 0 Q (F0 m 37 ls []) := by
        intro zk5
        induction zk5 with
        | zero =>
          intro zi4 H locs hik hf hP hS ls hl
          rw [LX7_share_37] at hf
          refine lv_iload hx hb dX7_share_37 (lv_at hl 0 rfl) ?_
          refine lv_bipush (v := 10) hx hb dX7_share_39 (by decide) ?_
          refine lv_icmp_gt (tgt := 76) hx hb dX7_share_41 (by decide) (fun zc6 => ?_) (fun zc6 => absurd (up_gt0 (rfl : (10 : Int32) = nI 10) hik (by decide)) zc6)
          refine lv_bipush (v := (-6)) hx hb dX7_share_76 (by decide) ?_
          exact ri hQ C0 hr hlocks hK hP hS (by rw [← hF]; exact ⟨hf.symm, rfl⟩) dX7_share_78
        | succ zk5 ih37 =>
          intro zi4 H locs hik hf hP hS ls hl
          rw [LX7_share_37] at hf
          refine lv_iload hx hb dX7_share_37 (lv_at hl 0 rfl) ?_
          refine lv_bipush (v := 10) hx hb dX7_share_39 (by decide) ?_
          refine lv_icmp_gt (tgt := 76) hx hb dX7_share_41 (by decide) (fun zc7 => absurd zc7 (up_gt1 (rfl : (10 : Int32) = nI 10) hik (by decide))) (fun zc7 => ?_)
          refine lv_aload_n hx hb dX7_share_44 rfl (lv_at hl 3 rfl) ?_
          refine gO (T := TX7) C0 inA7 hK hP (xMain g) rfl 0 (by decide) (hts _ q263) (v := .ref (g.1 0 6)) rfl dX7_share_45 ?_
          refine lv_aload_n hx hb dX7_share_48 rfl (lv_at hl 2 rfl) ?_
          refine lv_iload hx hb dX7_share_49 (lv_at hl 1 rfl) ?_
          refine lv_bipush (v := 10) hx hb dX7_share_51 (by decide) ?_
          refine lv_iload hx hb dX7_share_53 (lv_at hl 0 rfl) ?_
          refine lv_isub hx hb dX7_share_55 ?_
          refine lv_imul hx hb dX7_share_56 ?_
          refine lv_bipush (v := 10) hx hb dX7_share_57 (by decide) ?_
          refine lv_idiv hx hb dX7_share_59 (by decide) ?_
          refine kiP (va_runV (As := [.ref (g.1 0 (Int32.toNatClampNeg p1)), .int (((tX4_allSums S 0 (Int32.toNatClampNeg p1)) * (10 - (nI zi4))) / 10)]) (rest := []) C0 (kX2_deepestFor l g A hA S 0 (Int32.toNatClampNeg p1) (((tX4_allSums S 0 (Int32.toNatClampNeg p1)) * (10 - (nI zi4))) / 10) (by decide) (plc_lt zc1.1)) (cwV 2 hts (gV q507 q508 q509 q47 q510) rfl rfl rfl (by decide +kernel) ⟨Nat.le_of_ble_eq_true rfl, Nat.le_of_ble_eq_true rfl⟩) (preV (recO (xOwner g (by decide)) hP hK rfl) hP hK) rfl rfl hl.1 rfl (lv_room (Nat.le_of_ble_eq_true rfl)) dX7_share_60 ⟨Nat.zero_le _, Nat.zero_le _⟩) hS (fun _ h => h) (fun H locs hP hS => ?_)
          refine lv_iload_n hx hb dX7_share_63 rfl (lv_at hl 5 rfl) ?_
          refine lv_icmp_gt (tgt := 70) hx hb dX7_share_64 (by decide) (fun zc8 => ?_) (fun zc8 => ?_)
          · have hf := hf.trans (if_pos zc8)
            refine lv_iinc (v := (nI (zi4 + 1))) (lv' := [(5, .int (nI (zi4 + 1))), (4, .int (tX4_allSums S 0 (Int32.toNatClampNeg p1))), (3, .ref (g.1 0 (Int32.toNatClampNeg p1))), (0, .ref (g.1 12 0)), (1, .int p1), (2, .int p2)]) hx hb dX7_share_70 hl (k := 0) rfl (nI_1 _) (by decide) rfl (fun ls hl => ?_)
            refine lv_goto (tgt := 37) hx hb dX7_share_73 (by decide) ?_
            exact ih37 (zi4 + 1) _ _ (by omega) hf hP hS ls (lv_sub hl [0, 1, 2, 3, 4, 5] rfl)
          · have hf := hf.trans (if_neg zc8)
            refine lv_iload hx hb dX7_share_67 (lv_at hl 0 rfl) ?_
            exact ri hQ C0 hr hlocks hK hP hS (by rw [← hF]; exact ⟨hf.symm, rfl⟩) dX7_share_69
      exact lp37 11 0 _ _ (by decide) hf hP hS ls (lv_sub hl [0, 1, 2, 3, 4, 5] rfl)
    · have hf := hf.trans (if_neg zc2)
      refine lv_if_ne (tgt := 28) hx hb dX7_share_22 (by decide) (fun zc9 => absurd (by decide) zc9) (fun zc9 => ?_)
      refine lv_bipush (v := (-2)) hx hb dX7_share_25 (by decide) ?_
      exact ri hQ C0 hr hlocks hK hP hS (by rw [← hF]; exact ⟨hf.symm, rfl⟩) dX7_share_27
  · have hf := hf.trans (if_neg zc1)
    refine lv_astore_nN (lv' := [(3, .null), (0, .ref (g.1 12 0)), (1, .int p1), (2, .int p2)]) hx hb dX7_share_8 rfl hl (by decide) rfl (fun ls hl => ?_)
    refine lv_aload_nN hx hb dX7_share_9 rfl (lv_at hl 0 rfl) ?_
    refine lv_ifnonnullN hx hb dX7_share_10 ?_
    refine lv_iconst (v := (-1)) hx hb dX7_share_13 (by decide) ?_
    exact ri hQ C0 hr hlocks hK hP hS (by rw [← hF]; exact ⟨hf.symm, rfl⟩) dX7_share_14
def LX7_losses_61 (S : St) (p1 : Int32) (p2 : Int32) (zS7 : St) (zr6 : Int64) : Nat → Nat → Int64 → Int64 × St
  | 0, zi8, zx10 => ((tX7_partOf zS7 zx10 zr6 p2), zS7)
  | zk9 + 1, zi8, zx10 => (LX7_losses_61 S p1 p2 zS7 zr6 zk9 (zi8 + 1) (zx10 + (zS7.2 zi8)))
def tX7_losses (S : St) (p1 : Int32) (p2 : Int32) : Int64 × St :=
  (if wi p1 (-1) 6 then (if wi p2 0 1 then (if 0 ≤ p1 then (bnd (tX2_fillChances S 0).2 (fun zS7 => bnd (tX2_fillChances S 0).1 (fun zr6 => (LX7_losses_61 S p1 p2 zS7 zr6 (7 - (Int32.toNatClampNeg p1)) (Int32.toNatClampNeg p1) 0)))) else ((tX7_partOf S (Int32.toInt64 (tX2_hundredfoldMeanOfAll S 0)) 100 p2), S)) else ((-1000000000000000002), S)) else ((-1000000000000000002), S))
set_option maxHeartbeats 4000000 in
set_option maxRecDepth 100000 in
theorem kX7_losses (l : Launch) (g : Gd) (A : Nat → Prop) (hA : Ads g.1 VX A) (S : St) (p1 : Int32) (p2 : Int32) : Met l yX7_losses (wU yX7_losses cX7_losses 8 (some .long)) { frames := 4, cells := 0, slots := 0, locals := 90 } (va_Pc [.ref (g.1 12 0), .int p1, .int p2] (PW VX ctX g S)) (va_Ql (fun r u => r = (tX7_losses S p1 p2).1 ∧ u = (tX7_losses S p1 p2).2) (fun u U => PW VX ctX g u U) A) 0 0 A := by
  refine ent (cc := cX7_losses) (maxL := 8) (ret := (some .long)) (by decide) (Nat.le_of_ble_eq_true rfl) ?_
  intro p e s m below meth c args Q C0 hr hlocks hP hK hQ ls hl
  have hx := C0.1
  have hb := C0.2.1
  have hml := C0.2.2.1
  have hown := C0.2.2.2.1
  have hts := C0.2.2.2.2
  obtain ⟨F, hF⟩ : ∃ F : Int64 × St, F = tX7_losses S p1 p2 := ⟨_, rfl⟩
  have hf := hF
  unfold tX7_losses at hf
  have hS : va_S A s.heap s.heap [] := va_S.rf
  have hl : lv_has ls 8 [(0, .ref (g.1 12 0)), (1, .int p1), (2, .int p2)] := hl
  refine lv_iload_n hx hb dX7_losses_0 rfl (lv_at hl 1 rfl) ?_
  refine lv_iconst (v := (-1)) hx hb dX7_losses_1 (by decide) ?_
  refine lv_bipush (v := 6) hx hb dX7_losses_2 (by decide) ?_
  refine kzc (va_runS (As := [.int p1, .int (-1), .int 6]) (rest := []) C0 (kX7_within l g A hA S p1 (-1) 6) (va_cwS 3 hts (gS q297 q298 q46 q299) rfl rfl rfl (by decide +kernel) ⟨Nat.le_of_ble_eq_true rfl, Nat.le_of_ble_eq_true rfl⟩) (preS hP hK) rfl rfl hl.1 rfl (lv_room (Nat.le_of_ble_eq_true rfl)) dX7_losses_4 ⟨Nat.zero_le _, Nat.zero_le _⟩) hS (fun _ h => h) (fun zc1 H locs hP hS => ?_) (fun zc1 H locs hP hS => ?_)
  · have hf := hf.trans (if_pos zc1)
    refine lv_if_eq (tgt := 19) hx hb dX7_losses_7 (by decide) (fun zc2 => absurd zc2 (by decide)) (fun zc2 => ?_)
    refine lv_iload_n hx hb dX7_losses_10 rfl (lv_at hl 2 rfl) ?_
    refine lv_iconst (v := 0) hx hb dX7_losses_11 (by decide) ?_
    refine lv_iconst (v := 1) hx hb dX7_losses_12 (by decide) ?_
    refine kzc (va_runS (As := [.int p2, .int 0, .int 1]) (rest := []) C0 (kX7_within l g A hA S p2 0 1) (va_cwS 3 hts (gS q297 q298 q46 q299) rfl rfl rfl (by decide +kernel) ⟨Nat.le_of_ble_eq_true rfl, Nat.le_of_ble_eq_true rfl⟩) (preS hP hK) rfl rfl hl.1 rfl (lv_room (Nat.le_of_ble_eq_true rfl)) dX7_losses_13 ⟨Nat.zero_le _, Nat.zero_le _⟩) hS (fun _ h => h) (fun zc3 H locs hP hS => ?_) (fun zc3 H locs hP hS => ?_)
    · have hf := hf.trans (if_pos zc3)
      refine lv_if_ne (tgt := 23) hx hb dX7_losses_16 (by decide) (fun zc4 => ?_) (fun zc4 => absurd zc4 (by decide))
      refine lv_iload_n hx hb dX7_losses_23 rfl (lv_at hl 1 rfl) ?_
      refine lv_if_ge (tgt := 43) hx hb dX7_losses_24 (by decide) (fun zc5 => ?_) (fun zc5 => ?_)
      · have hf := hf.trans (if_pos zc5)
        refine lv_aload_n hx hb dX7_losses_43 rfl (lv_at hl 0 rfl) ?_
        refine gO (T := TX7) C0 inA7 hK hP (xMain g) rfl 0 (by decide) (hts _ q263) (v := .ref (g.1 0 6)) rfl dX7_losses_44 ?_
        refine lv_aload_n hx hb dX7_losses_47 rfl (lv_at hl 0 rfl) ?_
        refine gO (T := TX7) C0 inA7 hK hP (xMain g) rfl 7 (by decide) (hts _ q270) (v := .ref (g.1 12 2)) rfl dX7_losses_48 ?_
        refine kl (va_runV (As := [.ref (g.1 12 2)]) (rest := []) C0 (kX2_fillChances l g A hA S 0 (by decide)) (cwV 1 hts (gV q528 q529 q530 q47 q531) rfl rfl rfl (by decide +kernel) ⟨Nat.le_of_ble_eq_true rfl, Nat.le_of_ble_eq_true rfl⟩) (preV (recO (xOwner g (by decide)) hP hK rfl) hP hK) rfl rfl hl.1 rfl (lv_room (Nat.le_of_ble_eq_true rfl)) dX7_losses_51 ⟨Nat.zero_le _, Nat.zero_le _⟩) hS (fun _ h => h) (fun zr6 zS7 H locs hw hP hS => ?_)
        have hf := (hf.trans (bnd_eq hw.2)).trans (bnd_eq hw.1)
        refine lv_lstore_n (lv' := [(3, .long zr6), (0, .ref (g.1 12 0)), (1, .int p1), (2, .int p2)]) hx hb dX7_losses_54 rfl hl (by decide) rfl (fun ls hl => ?_)
        refine lv_lconst (v := 0) hx hb dX7_losses_55 (by decide) ?_
        refine lv_lstore (lv' := [(5, .long 0), (3, .long zr6), (0, .ref (g.1 12 0)), (1, .int p1), (2, .int p2)]) hx hb dX7_losses_56 hl (by decide) rfl (fun ls hl => ?_)
        refine lv_iload_n hx hb dX7_losses_58 rfl (lv_at hl 3 rfl) ?_
        refine lv_istore (lv' := [(7, .int p1), (5, .long 0), (3, .long zr6), (0, .ref (g.1 12 0)), (1, .int p1), (2, .int p2)]) hx hb dX7_losses_59 hl (by decide) rfl (fun ls hl => ?_)
        have lp61 : ∀ (zk9 zi8 : Nat) (zx10 : Int64) (H : Heap) (locs : List Loc), (zi8 + zk9 = 7) → (F = LX7_losses_61 S p1 p2 zS7 zr6 zk9 zi8 zx10) → HW VX ctX g zS7 H → va_S A s.heap H locs → ∀ ls : Array Slot, lv_has ls 8 [(7, .int (nI zi8)), (3, .long zr6), (0, .ref (g.1 12 0)), (1, .int p1), (2, .int p2), (5, .long zx10)] → W p l e { frames := 4, cells := 0, slots := 0, locals := 90 } s m args below meth c H locs 0 0 Q (F0 m 61 ls []) := by
          intro zk9
          induction zk9 with
          | zero =>
            intro zi8 zx10 H locs hik hf hP hS ls hl
            rw [LX7_losses_61] at hf
            refine lv_iload hx hb dX7_losses_61 (lv_at hl 0 rfl) ?_
            refine lv_aload_n hx hb dX7_losses_63 rfl (lv_at hl 2 rfl) ?_
            refine gO (T := TX7) C0 inA7 hK hP (xMain g) rfl 7 (by decide) (hts _ q270) (v := .ref (g.1 12 2)) rfl dX7_losses_64 ?_
            refine lenJ (v := 7) C0 hK hP (xChances g) rfl dX7_losses_67 ?_
            refine lv_icmp_ge (tgt := 89) hx hb dX7_losses_68 (by decide) (fun zc11 => ?_) (fun zc11 => absurd (up_ge0 rfl hik (by decide)) zc11)
            refine lv_lload hx hb dX7_losses_89 (lv_at hl 5 rfl) ?_
            refine lv_lload_n hx hb dX7_losses_91 rfl (lv_at hl 1 rfl) ?_
            refine lv_iload_n hx hb dX7_losses_92 rfl (lv_at hl 4 rfl) ?_
            refine klP (va_runS (As := [.long zx10, .long zr6, .int p2]) (rest := []) C0 (kX7_partOf l g A hA zS7 zx10 zr6 p2) (va_cwS 3 hts (gS q494 q495 q46 q496) rfl rfl rfl (by decide +kernel) ⟨Nat.le_of_ble_eq_true rfl, Nat.le_of_ble_eq_true rfl⟩) (preS hP hK) rfl rfl hl.1 rfl (lv_room (Nat.le_of_ble_eq_true rfl)) dX7_losses_93 ⟨Nat.zero_le _, Nat.zero_le _⟩) hS (fun _ h => h) (fun H locs hP hS => ?_)
            exact rl hQ C0 hr hlocks hK hP hS (by rw [← hF]; exact fin2 hf) dX7_losses_96
          | succ zk9 ih61 =>
            intro zi8 zx10 H locs hik hf hP hS ls hl
            rw [LX7_losses_61] at hf
            refine lv_iload hx hb dX7_losses_61 (lv_at hl 0 rfl) ?_
            refine lv_aload_n hx hb dX7_losses_63 rfl (lv_at hl 2 rfl) ?_
            refine gO (T := TX7) C0 inA7 hK hP (xMain g) rfl 7 (by decide) (hts _ q270) (v := .ref (g.1 12 2)) rfl dX7_losses_64 ?_
            refine lenJ (v := 7) C0 hK hP (xChances g) rfl dX7_losses_67 ?_
            refine lv_icmp_ge (tgt := 89) hx hb dX7_losses_68 (by decide) (fun zc12 => absurd zc12 (up_ge1 rfl hik (by decide))) (fun zc12 => ?_)
            refine lv_lload hx hb dX7_losses_71 (lv_at hl 5 rfl) ?_
            refine lv_aload_n hx hb dX7_losses_73 rfl (lv_at hl 2 rfl) ?_
            refine gO (T := TX7) C0 inA7 hK hP (xMain g) rfl 7 (by decide) (hts _ q270) (v := .ref (g.1 12 2)) rfl dX7_losses_74 ?_
            refine lv_iload hx hb dX7_losses_77 (lv_at hl 0 rfl) ?_
            refine gJ C0 hK hP (xChances g) (vp_in_nI (by omega) (by decide)) dX7_losses_79 ?_
            rw [nI_clamp (n := zi8) (by omega)]
            refine lv_ladd hx hb dX7_losses_80 ?_
            refine lv_lstore (lv' := [(5, .long (zx10 + (zS7.2 zi8))), (7, .int (nI zi8)), (3, .long zr6), (0, .ref (g.1 12 0)), (1, .int p1), (2, .int p2)]) hx hb dX7_losses_81 hl (by decide) rfl (fun ls hl => ?_)
            refine lv_iinc (v := (nI (zi8 + 1))) (lv' := [(7, .int (nI (zi8 + 1))), (5, .long (zx10 + (zS7.2 zi8))), (3, .long zr6), (0, .ref (g.1 12 0)), (1, .int p1), (2, .int p2)]) hx hb dX7_losses_83 hl (k := 1) rfl (nI_1 _) (by decide) rfl (fun ls hl => ?_)
            refine lv_goto (tgt := 61) hx hb dX7_losses_86 (by decide) ?_
            exact ih61 (zi8 + 1) (zx10 + (zS7.2 zi8)) _ _ (by omega) hf hP hS ls (lv_sub hl [0, 2, 3, 4, 5, 1] rfl)
        exact lp61 (7 - (Int32.toNatClampNeg p1)) (Int32.toNatClampNeg p1) 0 _ _ (by have := wi_le zc1; omega) hf hP hS ls (lv_sub (lv_eqI hl (nI_cl (Int32.not_lt.mpr zc5))) [0, 2, 3, 4, 5, 1] rfl)
      · have hf := hf.trans (if_neg zc5)
        refine lv_aload_n hx hb dX7_losses_27 rfl (lv_at hl 0 rfl) ?_
        refine gO (T := TX7) C0 inA7 hK hP (xMain g) rfl 0 (by decide) (hts _ q263) (v := .ref (g.1 0 6)) rfl dX7_losses_28 ?_
        refine kiP (va_runV (As := []) (rest := []) C0 (kX2_hundredfoldMeanOfAll l g A hA S 0 (by decide)) (cwV 0 hts (gV q520 q521 q522 q47 q523) rfl rfl rfl (by decide +kernel) ⟨Nat.le_of_ble_eq_true rfl, Nat.le_of_ble_eq_true rfl⟩) (preV (recO (xOwner g (by decide)) hP hK rfl) hP hK) rfl rfl hl.1 rfl (lv_room (Nat.le_of_ble_eq_true rfl)) dX7_losses_31 ⟨Nat.zero_le _, Nat.zero_le _⟩) hS (fun _ h => h) (fun H locs hP hS => ?_)
        refine lv_i2l (v := (Int32.toInt64 (tX2_hundredfoldMeanOfAll S 0))) hx hb dX7_losses_34 rfl ?_
        refine lv_ldc2 (v := 100) hx hb hown (hts _ q493) dX7_losses_35 ?_
        refine lv_iload_n hx hb dX7_losses_38 rfl (lv_at hl 2 rfl) ?_
        refine klP (va_runS (As := [.long (Int32.toInt64 (tX2_hundredfoldMeanOfAll S 0)), .long 100, .int p2]) (rest := []) C0 (kX7_partOf l g A hA S (Int32.toInt64 (tX2_hundredfoldMeanOfAll S 0)) 100 p2) (va_cwS 3 hts (gS q494 q495 q46 q496) rfl rfl rfl (by decide +kernel) ⟨Nat.le_of_ble_eq_true rfl, Nat.le_of_ble_eq_true rfl⟩) (preS hP hK) rfl rfl hl.1 rfl (lv_room (Nat.le_of_ble_eq_true rfl)) dX7_losses_39 ⟨Nat.zero_le _, Nat.zero_le _⟩) hS (fun _ h => h) (fun H locs hP hS => ?_)
        exact rl hQ C0 hr hlocks hK hP hS (by rw [← hF]; exact fin2 hf) dX7_losses_42
    · have hf := hf.trans (if_neg zc3)
      refine lv_if_ne (tgt := 23) hx hb dX7_losses_16 (by decide) (fun zc13 => absurd (by decide) zc13) (fun zc13 => ?_)
      refine lv_ldc2 (v := (-1000000000000000002)) hx hb hown (hts _ q488) dX7_losses_19 ?_
      exact rl hQ C0 hr hlocks hK hP hS (by rw [← hF]; exact fin2 hf) dX7_losses_22
  · have hf := hf.trans (if_neg zc1)
    refine lv_if_eq (tgt := 19) hx hb dX7_losses_7 (by decide) (fun zc14 => ?_) (fun zc14 => absurd (by decide) zc14)
    refine lv_ldc2 (v := (-1000000000000000002)) hx hb hown (hts _ q488) dX7_losses_19 ?_
    exact rl hQ C0 hr hlocks hK hP hS (by rw [← hF]; exact fin2 hf) dX7_losses_22
def LX7_fleet_64 (S : St) (p1 : Int32) (p2 : Int32) (p3 : Int32) (p4 : Int32) : Nat → Nat → Int32 → Int32 → Int32
  | 0, zi9, zx11, zx12 => (if p4 = 0 then zx12 else zx11)
  | zk10 + 1, zi9, zx11, zx12 => (if (tX7_digitsAdded S (tX7_turned S p2) (nI zi9)) ≤ zx12 then (LX7_fleet_64 S p1 p2 p3 p4 zk10 (zi9 + 1) zx11 zx12) else (if p3 < (tX7_digitsAdded S (tX7_turned S p1) (nI zi9)) then (LX7_fleet_64 S p1 p2 p3 p4 zk10 (zi9 + 1) zx11 zx12) else (LX7_fleet_64 S p1 p2 p3 p4 zk10 (zi9 + 1) (nI zi9) (tX7_digitsAdded S (tX7_turned S p2) (nI zi9)))))
def tX7_fleet (S : St) (p1 : Int32) (p2 : Int32) (p3 : Int32) (p4 : Int32) : Int32 :=
  (if wi p1 0 999999 then (if wi p2 0 999999 then (if wi p3 0 54 then (if wi p4 0 1 then (LX7_fleet_64 S p1 p2 p3 p4 64 0 0 0) else (-2)) else (-2)) else (-2)) else (-2))
set_option maxHeartbeats 4000000 in
set_option maxRecDepth 100000 in
theorem kX7_fleet (l : Launch) (g : Gd) (A : Nat → Prop) (hA : Ads g.1 VX A) (S : St) (p1 : Int32) (p2 : Int32) (p3 : Int32) (p4 : Int32) : Met l yX7_fleet (wU yX7_fleet cX7_fleet 11 (some .int)) { frames := 1, cells := 0, slots := 0, locals := 24 } (va_Pc [.ref (g.1 12 0), .int p1, .int p2, .int p3, .int p4] (PW VX ctX g S)) (va_Qi (fun r u => r = tX7_fleet S p1 p2 p3 p4 ∧ u = S) (fun u U => PW VX ctX g u U) A) 0 0 A := by
  refine ent (cc := cX7_fleet) (maxL := 11) (ret := (some .int)) (by decide) (Nat.le_of_ble_eq_true rfl) ?_
  intro p e s m below meth c args Q C0 hr hlocks hP hK hQ ls hl
  have hx := C0.1
  have hb := C0.2.1
  have hml := C0.2.2.1
  have hown := C0.2.2.2.1
  have hts := C0.2.2.2.2
  obtain ⟨F, hF⟩ : ∃ F : Int32, F = tX7_fleet S p1 p2 p3 p4 := ⟨_, rfl⟩
  have hf := hF
  unfold tX7_fleet at hf
  have hS : va_S A s.heap s.heap [] := va_S.rf
  have hl : lv_has ls 11 [(0, .ref (g.1 12 0)), (1, .int p1), (2, .int p2), (3, .int p3), (4, .int p4)] := hl
  refine lv_iload_n hx hb dX7_fleet_0 rfl (lv_at hl 1 rfl) ?_
  refine lv_iconst (v := 0) hx hb dX7_fleet_1 (by decide) ?_
  refine lv_ldc (v := 999999) hx hb hown (hts _ q540) dX7_fleet_2 ?_
  refine kzc (va_runS (As := [.int p1, .int 0, .int 999999]) (rest := []) C0 (kX7_within l g A hA S p1 0 999999) (va_cwS 3 hts (gS q297 q298 q46 q299) rfl rfl rfl (by decide +kernel) ⟨Nat.le_of_ble_eq_true rfl, Nat.le_of_ble_eq_true rfl⟩) (preS hP hK) rfl rfl hl.1 rfl (lv_room (Nat.le_of_ble_eq_true rfl)) dX7_fleet_4 ⟨Nat.zero_le _, Nat.zero_le _⟩) hS (fun _ h => h) (fun zc1 H locs hP hS => ?_) (fun zc1 H locs hP hS => ?_)
  · have hf := hf.trans (if_pos zc1)
    refine lv_if_eq (tgt := 40) hx hb dX7_fleet_7 (by decide) (fun zc2 => absurd zc2 (by decide)) (fun zc2 => ?_)
    refine lv_iload_n hx hb dX7_fleet_10 rfl (lv_at hl 2 rfl) ?_
    refine lv_iconst (v := 0) hx hb dX7_fleet_11 (by decide) ?_
    refine lv_ldc (v := 999999) hx hb hown (hts _ q540) dX7_fleet_12 ?_
    refine kzc (va_runS (As := [.int p2, .int 0, .int 999999]) (rest := []) C0 (kX7_within l g A hA S p2 0 999999) (va_cwS 3 hts (gS q297 q298 q46 q299) rfl rfl rfl (by decide +kernel) ⟨Nat.le_of_ble_eq_true rfl, Nat.le_of_ble_eq_true rfl⟩) (preS hP hK) rfl rfl hl.1 rfl (lv_room (Nat.le_of_ble_eq_true rfl)) dX7_fleet_14 ⟨Nat.zero_le _, Nat.zero_le _⟩) hS (fun _ h => h) (fun zc3 H locs hP hS => ?_) (fun zc3 H locs hP hS => ?_)
    · have hf := hf.trans (if_pos zc3)
      refine lv_if_eq (tgt := 40) hx hb dX7_fleet_17 (by decide) (fun zc4 => absurd zc4 (by decide)) (fun zc4 => ?_)
      refine lv_iload_n hx hb dX7_fleet_20 rfl (lv_at hl 3 rfl) ?_
      refine lv_iconst (v := 0) hx hb dX7_fleet_21 (by decide) ?_
      refine lv_bipush (v := 54) hx hb dX7_fleet_22 (by decide) ?_
      refine kzc (va_runS (As := [.int p3, .int 0, .int 54]) (rest := []) C0 (kX7_within l g A hA S p3 0 54) (va_cwS 3 hts (gS q297 q298 q46 q299) rfl rfl rfl (by decide +kernel) ⟨Nat.le_of_ble_eq_true rfl, Nat.le_of_ble_eq_true rfl⟩) (preS hP hK) rfl rfl hl.1 rfl (lv_room (Nat.le_of_ble_eq_true rfl)) dX7_fleet_24 ⟨Nat.zero_le _, Nat.zero_le _⟩) hS (fun _ h => h) (fun zc5 H locs hP hS => ?_) (fun zc5 H locs hP hS => ?_)
      · have hf := hf.trans (if_pos zc5)
        refine lv_if_eq (tgt := 40) hx hb dX7_fleet_27 (by decide) (fun zc6 => absurd zc6 (by decide)) (fun zc6 => ?_)
        refine lv_iload hx hb dX7_fleet_30 (lv_at hl 4 rfl) ?_
        refine lv_iconst (v := 0) hx hb dX7_fleet_32 (by decide) ?_
        refine lv_iconst (v := 1) hx hb dX7_fleet_33 (by decide) ?_
        refine kzc (va_runS (As := [.int p4, .int 0, .int 1]) (rest := []) C0 (kX7_within l g A hA S p4 0 1) (va_cwS 3 hts (gS q297 q298 q46 q299) rfl rfl rfl (by decide +kernel) ⟨Nat.le_of_ble_eq_true rfl, Nat.le_of_ble_eq_true rfl⟩) (preS hP hK) rfl rfl hl.1 rfl (lv_room (Nat.le_of_ble_eq_true rfl)) dX7_fleet_34 ⟨Nat.zero_le _, Nat.zero_le _⟩) hS (fun _ h => h) (fun zc7 H locs hP hS => ?_) (fun zc7 H locs hP hS => ?_)
        · have hf := hf.trans (if_pos zc7)
          refine lv_if_ne (tgt := 43) hx hb dX7_fleet_37 (by decide) (fun zc8 => ?_) (fun zc8 => absurd zc8 (by decide))
          refine lv_iload_n hx hb dX7_fleet_43 rfl (lv_at hl 1 rfl) ?_
          refine kiP (va_runS (As := [.int p1]) (rest := []) C0 (kX7_turned l g A hA S p1) (va_cwS 1 hts (gS q541 q542 q46 q543) rfl rfl rfl (by decide +kernel) ⟨Nat.le_of_ble_eq_true rfl, Nat.le_of_ble_eq_true rfl⟩) (preS hP hK) rfl rfl hl.1 rfl (lv_room (Nat.le_of_ble_eq_true rfl)) dX7_fleet_44 ⟨Nat.zero_le _, Nat.zero_le _⟩) hS (fun _ h => h) (fun H locs hP hS => ?_)
          refine lv_istore (lv' := [(5, .int (tX7_turned S p1)), (0, .ref (g.1 12 0)), (1, .int p1), (2, .int p2), (3, .int p3), (4, .int p4)]) hx hb dX7_fleet_47 hl (by decide) rfl (fun ls hl => ?_)
          refine lv_iload_n hx hb dX7_fleet_49 rfl (lv_at hl 3 rfl) ?_
          refine kiP (va_runS (As := [.int p2]) (rest := []) C0 (kX7_turned l g A hA S p2) (va_cwS 1 hts (gS q541 q542 q46 q543) rfl rfl rfl (by decide +kernel) ⟨Nat.le_of_ble_eq_true rfl, Nat.le_of_ble_eq_true rfl⟩) (preS hP hK) rfl rfl hl.1 rfl (lv_room (Nat.le_of_ble_eq_true rfl)) dX7_fleet_50 ⟨Nat.zero_le _, Nat.zero_le _⟩) hS (fun _ h => h) (fun H locs hP hS => ?_)
          refine lv_istore (lv' := [(6, .int (tX7_turned S p2)), (5, .int (tX7_turned S p1)), (0, .ref (g.1 12 0)), (1, .int p1), (2, .int p2), (3, .int p3), (4, .int p4)]) hx hb dX7_fleet_53 hl (by decide) rfl (fun ls hl => ?_)
          refine lv_iconst (v := 0) hx hb dX7_fleet_55 (by decide) ?_
          refine lv_istore (lv' := [(7, .int 0), (6, .int (tX7_turned S p2)), (5, .int (tX7_turned S p1)), (0, .ref (g.1 12 0)), (1, .int p1), (2, .int p2), (3, .int p3), (4, .int p4)]) hx hb dX7_fleet_56 hl (by decide) rfl (fun ls hl => ?_)
          refine lv_iconst (v := 0) hx hb dX7_fleet_58 (by decide) ?_
          refine lv_istore (lv' := [(8, .int 0), (7, .int 0), (6, .int (tX7_turned S p2)), (5, .int (tX7_turned S p1)), (0, .ref (g.1 12 0)), (1, .int p1), (2, .int p2), (3, .int p3), (4, .int p4)]) hx hb dX7_fleet_59 hl (by decide) rfl (fun ls hl => ?_)
          refine lv_iconst (v := 0) hx hb dX7_fleet_61 (by decide) ?_
          refine lv_istore (lv' := [(9, .int 0), (8, .int 0), (7, .int 0), (6, .int (tX7_turned S p2)), (5, .int (tX7_turned S p1)), (0, .ref (g.1 12 0)), (1, .int p1), (2, .int p2), (3, .int p3), (4, .int p4)]) hx hb dX7_fleet_62 hl (by decide) rfl (fun ls hl => ?_)
          have lp64 : ∀ (zk10 zi9 : Nat) (zx11 : Int32) (zx12 : Int32) (H : Heap) (locs : List Loc), (zi9 + zk10 = 64) → (F = LX7_fleet_64 S p1 p2 p3 p4 zk10 zi9 zx11 zx12) → HW VX ctX g S H → va_S A s.heap H locs → ∀ ls : Array Slot, lv_has ls 11 [(9, .int (nI zi9)), (6, .int (tX7_turned S p2)), (5, .int (tX7_turned S p1)), (0, .ref (g.1 12 0)), (1, .int p1), (2, .int p2), (3, .int p3), (4, .int p4), (8, .int zx11), (7, .int zx12)] → W p l e { frames := 1, cells := 0, slots := 0, locals := 24 } s m args below meth c H locs 0 0 Q (F0 m 64 ls []) := by
            intro zk10
            induction zk10 with
            | zero =>
              intro zi9 zx11 zx12 H locs hik hf hP hS ls hl
              rw [LX7_fleet_64] at hf
              refine lv_iload hx hb dX7_fleet_64 (lv_at hl 0 rfl) ?_
              refine lv_bipush (v := 64) hx hb dX7_fleet_66 (by decide) ?_
              refine lv_icmp_ge (tgt := 112) hx hb dX7_fleet_68 (by decide) (fun zc13 => ?_) (fun zc13 => absurd (up_ge0 rfl hik (by decide)) zc13)
              refine lv_iload hx hb dX7_fleet_112 (lv_at hl 7 rfl) ?_
              refine lv_if_ne (tgt := 122) hx hb dX7_fleet_114 (by decide) (fun zc14 => ?_) (fun zc14 => ?_)
              · have hf := hf.trans (if_neg zc14)
                refine lv_iload hx hb dX7_fleet_122 (lv_at hl 8 rfl) ?_
                exact ri hQ C0 hr hlocks hK hP hS (by rw [← hF]; exact ⟨hf.symm, rfl⟩) dX7_fleet_124
              · have hf := hf.trans (if_pos zc14)
                refine lv_iload hx hb dX7_fleet_117 (lv_at hl 9 rfl) ?_
                refine lv_goto (tgt := 124) hx hb dX7_fleet_119 (by decide) ?_
                exact ri hQ C0 hr hlocks hK hP hS (by rw [← hF]; exact ⟨hf.symm, rfl⟩) dX7_fleet_124
            | succ zk10 ih64 =>
              intro zi9 zx11 zx12 H locs hik hf hP hS ls hl
              rw [LX7_fleet_64] at hf
              refine lv_iload hx hb dX7_fleet_64 (lv_at hl 0 rfl) ?_
              refine lv_bipush (v := 64) hx hb dX7_fleet_66 (by decide) ?_
              refine lv_icmp_ge (tgt := 112) hx hb dX7_fleet_68 (by decide) (fun zc15 => absurd zc15 (up_ge1 rfl hik (by decide))) (fun zc15 => ?_)
              refine lv_iload hx hb dX7_fleet_71 (lv_at hl 1 rfl) ?_
              refine lv_iload hx hb dX7_fleet_73 (lv_at hl 0 rfl) ?_
              refine kiP (va_runS (As := [.int (tX7_turned S p2), .int (nI zi9)]) (rest := []) C0 (kX7_digitsAdded l g A hA S (tX7_turned S p2) (nI zi9)) (va_cwS 2 hts (gS q544 q545 q46 q546) rfl rfl rfl (by decide +kernel) ⟨Nat.le_of_ble_eq_true rfl, Nat.le_of_ble_eq_true rfl⟩) (preS hP hK) rfl rfl hl.1 rfl (lv_room (Nat.le_of_ble_eq_true rfl)) dX7_fleet_75 ⟨Nat.zero_le _, Nat.zero_le _⟩) hS (fun _ h => h) (fun H locs hP hS => ?_)
              refine lv_istore (lv' := [(10, .int (tX7_digitsAdded S (tX7_turned S p2) (nI zi9))), (9, .int (nI zi9)), (6, .int (tX7_turned S p2)), (5, .int (tX7_turned S p1)), (0, .ref (g.1 12 0)), (1, .int p1), (2, .int p2), (3, .int p3), (4, .int p4), (8, .int zx11), (7, .int zx12)]) hx hb dX7_fleet_78 hl (by decide) rfl (fun ls hl => ?_)
              refine lv_iload hx hb dX7_fleet_80 (lv_at hl 0 rfl) ?_
              refine lv_iload hx hb dX7_fleet_82 (lv_at hl 10 rfl) ?_
              refine lv_icmp_le (tgt := 106) hx hb dX7_fleet_84 (by decide) (fun zc16 => ?_) (fun zc16 => ?_)
              · have hf := hf.trans (if_pos zc16)
                refine lv_iinc (v := (nI (zi9 + 1))) (lv' := [(9, .int (nI (zi9 + 1))), (10, .int (tX7_digitsAdded S (tX7_turned S p2) (nI zi9))), (6, .int (tX7_turned S p2)), (5, .int (tX7_turned S p1)), (0, .ref (g.1 12 0)), (1, .int p1), (2, .int p2), (3, .int p3), (4, .int p4), (8, .int zx11), (7, .int zx12)]) hx hb dX7_fleet_106 hl (k := 1) rfl (nI_1 _) (by decide) rfl (fun ls hl => ?_)
                refine lv_goto (tgt := 64) hx hb dX7_fleet_109 (by decide) ?_
                exact ih64 (zi9 + 1) zx11 zx12 _ _ (by omega) hf hP hS ls (lv_sub hl [0, 2, 3, 4, 5, 6, 7, 8, 9, 10] rfl)
              · have hf := hf.trans (if_neg zc16)
                refine lv_iload hx hb dX7_fleet_87 (lv_at hl 3 rfl) ?_
                refine lv_iload hx hb dX7_fleet_89 (lv_at hl 1 rfl) ?_
                refine kiP (va_runS (As := [.int (tX7_turned S p1), .int (nI zi9)]) (rest := []) C0 (kX7_digitsAdded l g A hA S (tX7_turned S p1) (nI zi9)) (va_cwS 2 hts (gS q544 q545 q46 q546) rfl rfl rfl (by decide +kernel) ⟨Nat.le_of_ble_eq_true rfl, Nat.le_of_ble_eq_true rfl⟩) (preS hP hK) rfl rfl hl.1 rfl (lv_room (Nat.le_of_ble_eq_true rfl)) dX7_fleet_91 ⟨Nat.zero_le _, Nat.zero_le _⟩) hS (fun _ h => h) (fun H locs hP hS => ?_)
                refine lv_iload_n hx hb dX7_fleet_94 rfl (lv_at hl 7 rfl) ?_
                refine lv_icmp_gt (tgt := 106) hx hb dX7_fleet_95 (by decide) (fun zc17 => ?_) (fun zc17 => ?_)
                · have hf := hf.trans (if_pos zc17)
                  refine lv_iinc (v := (nI (zi9 + 1))) (lv' := [(9, .int (nI (zi9 + 1))), (10, .int (tX7_digitsAdded S (tX7_turned S p2) (nI zi9))), (6, .int (tX7_turned S p2)), (5, .int (tX7_turned S p1)), (0, .ref (g.1 12 0)), (1, .int p1), (2, .int p2), (3, .int p3), (4, .int p4), (8, .int zx11), (7, .int zx12)]) hx hb dX7_fleet_106 hl (k := 1) rfl (nI_1 _) (by decide) rfl (fun ls hl => ?_)
                  refine lv_goto (tgt := 64) hx hb dX7_fleet_109 (by decide) ?_
                  exact ih64 (zi9 + 1) zx11 zx12 _ _ (by omega) hf hP hS ls (lv_sub hl [0, 2, 3, 4, 5, 6, 7, 8, 9, 10] rfl)
                · have hf := hf.trans (if_neg zc17)
                  refine lv_iload hx hb dX7_fleet_98 (lv_at hl 0 rfl) ?_
                  refine lv_istore (lv' := [(7, .int (tX7_digitsAdded S (tX7_turned S p2) (nI zi9))), (10, .int (tX7_digitsAdded S (tX7_turned S p2) (nI zi9))), (9, .int (nI zi9)), (6, .int (tX7_turned S p2)), (5, .int (tX7_turned S p1)), (0, .ref (g.1 12 0)), (1, .int p1), (2, .int p2), (3, .int p3), (4, .int p4), (8, .int zx11)]) hx hb dX7_fleet_100 hl (by decide) rfl (fun ls hl => ?_)
                  refine lv_iload hx hb dX7_fleet_102 (lv_at hl 2 rfl) ?_
                  refine lv_istore (lv' := [(8, .int (nI zi9)), (7, .int (tX7_digitsAdded S (tX7_turned S p2) (nI zi9))), (10, .int (tX7_digitsAdded S (tX7_turned S p2) (nI zi9))), (9, .int (nI zi9)), (6, .int (tX7_turned S p2)), (5, .int (tX7_turned S p1)), (0, .ref (g.1 12 0)), (1, .int p1), (2, .int p2), (3, .int p3), (4, .int p4)]) hx hb dX7_fleet_104 hl (by decide) rfl (fun ls hl => ?_)
                  refine lv_iinc (v := (nI (zi9 + 1))) (lv' := [(9, .int (nI (zi9 + 1))), (8, .int (nI zi9)), (7, .int (tX7_digitsAdded S (tX7_turned S p2) (nI zi9))), (10, .int (tX7_digitsAdded S (tX7_turned S p2) (nI zi9))), (6, .int (tX7_turned S p2)), (5, .int (tX7_turned S p1)), (0, .ref (g.1 12 0)), (1, .int p1), (2, .int p2), (3, .int p3), (4, .int p4)]) hx hb dX7_fleet_106 hl (k := 3) rfl (nI_1 _) (by decide) rfl (fun ls hl => ?_)
                  refine lv_goto (tgt := 64) hx hb dX7_fleet_109 (by decide) ?_
                  exact ih64 (zi9 + 1) (nI zi9) (tX7_digitsAdded S (tX7_turned S p2) (nI zi9)) _ _ (by omega) hf hP hS ls (lv_sub hl [0, 4, 5, 6, 7, 8, 9, 10, 1, 2] rfl)
          exact lp64 64 0 0 0 _ _ (by decide) hf hP hS ls (lv_sub hl [0, 3, 4, 5, 6, 7, 8, 9, 1, 2] rfl)
        · have hf := hf.trans (if_neg zc7)
          refine lv_if_ne (tgt := 43) hx hb dX7_fleet_37 (by decide) (fun zc18 => absurd (by decide) zc18) (fun zc18 => ?_)
          refine lv_bipush (v := (-2)) hx hb dX7_fleet_40 (by decide) ?_
          exact ri hQ C0 hr hlocks hK hP hS (by rw [← hF]; exact ⟨hf.symm, rfl⟩) dX7_fleet_42
      · have hf := hf.trans (if_neg zc5)
        refine lv_if_eq (tgt := 40) hx hb dX7_fleet_27 (by decide) (fun zc19 => ?_) (fun zc19 => absurd (by decide) zc19)
        refine lv_bipush (v := (-2)) hx hb dX7_fleet_40 (by decide) ?_
        exact ri hQ C0 hr hlocks hK hP hS (by rw [← hF]; exact ⟨hf.symm, rfl⟩) dX7_fleet_42
    · have hf := hf.trans (if_neg zc3)
      refine lv_if_eq (tgt := 40) hx hb dX7_fleet_17 (by decide) (fun zc20 => ?_) (fun zc20 => absurd (by decide) zc20)
      refine lv_bipush (v := (-2)) hx hb dX7_fleet_40 (by decide) ?_
      exact ri hQ C0 hr hlocks hK hP hS (by rw [← hF]; exact ⟨hf.symm, rfl⟩) dX7_fleet_42
  · have hf := hf.trans (if_neg zc1)
    refine lv_if_eq (tgt := 40) hx hb dX7_fleet_7 (by decide) (fun zc21 => ?_) (fun zc21 => absurd (by decide) zc21)
    refine lv_bipush (v := (-2)) hx hb dX7_fleet_40 (by decide) ?_
    exact ri hQ C0 hr hlocks hK hP hS (by rw [← hF]; exact ⟨hf.symm, rfl⟩) dX7_fleet_42
def LX7_holds_38 (S : St) (p1 : Int32) (p2 : Int32) : Nat → Nat → Int32 → Int32 → Int32
  | 0, zi5, zx7, zx8 => (if p2 = 0 then zx8 else zx7)
  | zk6 + 1, zi5, zx7, zx8 => (if zx8 ≤ (if 0 ≤ ((tX7_digitsAdded S p1 63) - (2 * (tX7_digitsAdded S p1 (nI zi5)))) then ((tX7_digitsAdded S p1 63) - (2 * (tX7_digitsAdded S p1 (nI zi5)))) else 0 - ((tX7_digitsAdded S p1 63) - (2 * (tX7_digitsAdded S p1 (nI zi5))))) then (LX7_holds_38 S p1 p2 zk6 (zi5 + 1) zx7 zx8) else (LX7_holds_38 S p1 p2 zk6 (zi5 + 1) (nI zi5) (if 0 ≤ ((tX7_digitsAdded S p1 63) - (2 * (tX7_digitsAdded S p1 (nI zi5)))) then ((tX7_digitsAdded S p1 63) - (2 * (tX7_digitsAdded S p1 (nI zi5)))) else 0 - ((tX7_digitsAdded S p1 63) - (2 * (tX7_digitsAdded S p1 (nI zi5)))))))
def tX7_holds (S : St) (p1 : Int32) (p2 : Int32) : Int32 :=
  (if wi p1 0 999999 then (if wi p2 0 1 then (LX7_holds_38 S p1 p2 64 0 0 (tX7_digitsAdded S p1 63)) else (-2)) else (-2))
set_option maxHeartbeats 4000000 in
set_option maxRecDepth 100000 in
theorem kX7_holds (l : Launch) (g : Gd) (A : Nat → Prop) (hA : Ads g.1 VX A) (S : St) (p1 : Int32) (p2 : Int32) : Met l yX7_holds (wU yX7_holds cX7_holds 8 (some .int)) { frames := 1, cells := 0, slots := 0, locals := 24 } (va_Pc [.ref (g.1 12 0), .int p1, .int p2] (PW VX ctX g S)) (va_Qi (fun r u => r = tX7_holds S p1 p2 ∧ u = S) (fun u U => PW VX ctX g u U) A) 0 0 A := by
  refine ent (cc := cX7_holds) (maxL := 8) (ret := (some .int)) (by decide) (Nat.le_of_ble_eq_true rfl) ?_
  intro p e s m below meth c args Q C0 hr hlocks hP hK hQ ls hl
  have hx := C0.1
  have hb := C0.2.1
  have hml := C0.2.2.1
  have hown := C0.2.2.2.1
  have hts := C0.2.2.2.2
  obtain ⟨F, hF⟩ : ∃ F : Int32, F = tX7_holds S p1 p2 := ⟨_, rfl⟩
  have hf := hF
  unfold tX7_holds at hf
  have hS : va_S A s.heap s.heap [] := va_S.rf
  have hl : lv_has ls 8 [(0, .ref (g.1 12 0)), (1, .int p1), (2, .int p2)] := hl
  refine lv_iload_n hx hb dX7_holds_0 rfl (lv_at hl 1 rfl) ?_
  refine lv_iconst (v := 0) hx hb dX7_holds_1 (by decide) ?_
  refine lv_ldc (v := 999999) hx hb hown (hts _ q540) dX7_holds_2 ?_
  refine kzc (va_runS (As := [.int p1, .int 0, .int 999999]) (rest := []) C0 (kX7_within l g A hA S p1 0 999999) (va_cwS 3 hts (gS q297 q298 q46 q299) rfl rfl rfl (by decide +kernel) ⟨Nat.le_of_ble_eq_true rfl, Nat.le_of_ble_eq_true rfl⟩) (preS hP hK) rfl rfl hl.1 rfl (lv_room (Nat.le_of_ble_eq_true rfl)) dX7_holds_4 ⟨Nat.zero_le _, Nat.zero_le _⟩) hS (fun _ h => h) (fun zc1 H locs hP hS => ?_) (fun zc1 H locs hP hS => ?_)
  · have hf := hf.trans (if_pos zc1)
    refine lv_if_eq (tgt := 19) hx hb dX7_holds_7 (by decide) (fun zc2 => absurd zc2 (by decide)) (fun zc2 => ?_)
    refine lv_iload_n hx hb dX7_holds_10 rfl (lv_at hl 2 rfl) ?_
    refine lv_iconst (v := 0) hx hb dX7_holds_11 (by decide) ?_
    refine lv_iconst (v := 1) hx hb dX7_holds_12 (by decide) ?_
    refine kzc (va_runS (As := [.int p2, .int 0, .int 1]) (rest := []) C0 (kX7_within l g A hA S p2 0 1) (va_cwS 3 hts (gS q297 q298 q46 q299) rfl rfl rfl (by decide +kernel) ⟨Nat.le_of_ble_eq_true rfl, Nat.le_of_ble_eq_true rfl⟩) (preS hP hK) rfl rfl hl.1 rfl (lv_room (Nat.le_of_ble_eq_true rfl)) dX7_holds_13 ⟨Nat.zero_le _, Nat.zero_le _⟩) hS (fun _ h => h) (fun zc3 H locs hP hS => ?_) (fun zc3 H locs hP hS => ?_)
    · have hf := hf.trans (if_pos zc3)
      refine lv_if_ne (tgt := 22) hx hb dX7_holds_16 (by decide) (fun zc4 => ?_) (fun zc4 => absurd zc4 (by decide))
      refine lv_iload_n hx hb dX7_holds_22 rfl (lv_at hl 1 rfl) ?_
      refine lv_bipush (v := 63) hx hb dX7_holds_23 (by decide) ?_
      refine kiP (va_runS (As := [.int p1, .int 63]) (rest := []) C0 (kX7_digitsAdded l g A hA S p1 63) (va_cwS 2 hts (gS q544 q545 q46 q546) rfl rfl rfl (by decide +kernel) ⟨Nat.le_of_ble_eq_true rfl, Nat.le_of_ble_eq_true rfl⟩) (preS hP hK) rfl rfl hl.1 rfl (lv_room (Nat.le_of_ble_eq_true rfl)) dX7_holds_25 ⟨Nat.zero_le _, Nat.zero_le _⟩) hS (fun _ h => h) (fun H locs hP hS => ?_)
      refine lv_istore_n (lv' := [(3, .int (tX7_digitsAdded S p1 63)), (0, .ref (g.1 12 0)), (1, .int p1), (2, .int p2)]) hx hb dX7_holds_28 rfl hl (by decide) rfl (fun ls hl => ?_)
      refine lv_iload_n hx hb dX7_holds_29 rfl (lv_at hl 0 rfl) ?_
      refine lv_istore (lv' := [(4, .int (tX7_digitsAdded S p1 63)), (3, .int (tX7_digitsAdded S p1 63)), (0, .ref (g.1 12 0)), (1, .int p1), (2, .int p2)]) hx hb dX7_holds_30 hl (by decide) rfl (fun ls hl => ?_)
      refine lv_iconst (v := 0) hx hb dX7_holds_32 (by decide) ?_
      refine lv_istore (lv' := [(5, .int 0), (4, .int (tX7_digitsAdded S p1 63)), (3, .int (tX7_digitsAdded S p1 63)), (0, .ref (g.1 12 0)), (1, .int p1), (2, .int p2)]) hx hb dX7_holds_33 hl (by decide) rfl (fun ls hl => ?_)
      refine lv_iconst (v := 0) hx hb dX7_holds_35 (by decide) ?_
      refine lv_istore (lv' := [(6, .int 0), (5, .int 0), (4, .int (tX7_digitsAdded S p1 63)), (3, .int (tX7_digitsAdded S p1 63)), (0, .ref (g.1 12 0)), (1, .int p1), (2, .int p2)]) hx hb dX7_holds_36 hl (by decide) rfl (fun ls hl => ?_)
      have lp38 : ∀ (zk6 zi5 : Nat) (zx7 : Int32) (zx8 : Int32) (H : Heap) (locs : List Loc), (zi5 + zk6 = 64) → (F = LX7_holds_38 S p1 p2 zk6 zi5 zx7 zx8) → HW VX ctX g S H → va_S A s.heap H locs → ∀ ls : Array Slot, lv_has ls 8 [(6, .int (nI zi5)), (3, .int (tX7_digitsAdded S p1 63)), (0, .ref (g.1 12 0)), (1, .int p1), (2, .int p2), (5, .int zx7), (4, .int zx8)] → W p l e { frames := 1, cells := 0, slots := 0, locals := 24 } s m args below meth c H locs 0 0 Q (F0 m 38 ls []) := by
        intro zk6
        induction zk6 with
        | zero =>
          intro zi5 zx7 zx8 H locs hik hf hP hS ls hl
          rw [LX7_holds_38] at hf
          refine lv_iload hx hb dX7_holds_38 (lv_at hl 0 rfl) ?_
          refine lv_bipush (v := 64) hx hb dX7_holds_40 (by decide) ?_
          refine lv_icmp_ge (tgt := 81) hx hb dX7_holds_42 (by decide) (fun zc9 => ?_) (fun zc9 => absurd (up_ge0 rfl hik (by decide)) zc9)
          refine lv_iload_n hx hb dX7_holds_81 rfl (lv_at hl 4 rfl) ?_
          refine lv_if_ne (tgt := 90) hx hb dX7_holds_82 (by decide) (fun zc10 => ?_) (fun zc10 => ?_)
          · have hf := hf.trans (if_neg zc10)
            refine lv_iload hx hb dX7_holds_90 (lv_at hl 5 rfl) ?_
            exact ri hQ C0 hr hlocks hK hP hS (by rw [← hF]; exact ⟨hf.symm, rfl⟩) dX7_holds_92
          · have hf := hf.trans (if_pos zc10)
            refine lv_iload hx hb dX7_holds_85 (lv_at hl 6 rfl) ?_
            refine lv_goto (tgt := 92) hx hb dX7_holds_87 (by decide) ?_
            exact ri hQ C0 hr hlocks hK hP hS (by rw [← hF]; exact ⟨hf.symm, rfl⟩) dX7_holds_92
        | succ zk6 ih38 =>
          intro zi5 zx7 zx8 H locs hik hf hP hS ls hl
          rw [LX7_holds_38] at hf
          refine lv_iload hx hb dX7_holds_38 (lv_at hl 0 rfl) ?_
          refine lv_bipush (v := 64) hx hb dX7_holds_40 (by decide) ?_
          refine lv_icmp_ge (tgt := 81) hx hb dX7_holds_42 (by decide) (fun zc11 => absurd zc11 (up_ge1 rfl hik (by decide))) (fun zc11 => ?_)
          refine lv_iload_n hx hb dX7_holds_45 rfl (lv_at hl 1 rfl) ?_
          refine lv_iconst (v := 2) hx hb dX7_holds_46 (by decide) ?_
          refine lv_iload_n hx hb dX7_holds_47 rfl (lv_at hl 3 rfl) ?_
          refine lv_iload hx hb dX7_holds_48 (lv_at hl 0 rfl) ?_
          refine kiP (va_runS (As := [.int p1, .int (nI zi5)]) (rest := [.int 2, .int (tX7_digitsAdded S p1 63)]) C0 (kX7_digitsAdded l g A hA S p1 (nI zi5)) (va_cwS 2 hts (gS q544 q545 q46 q546) rfl rfl rfl (by decide +kernel) ⟨Nat.le_of_ble_eq_true rfl, Nat.le_of_ble_eq_true rfl⟩) (preS hP hK) rfl rfl hl.1 rfl (lv_room (Nat.le_of_ble_eq_true rfl)) dX7_holds_50 ⟨Nat.zero_le _, Nat.zero_le _⟩) hS (fun _ h => h) (fun H locs hP hS => ?_)
          refine lv_imul hx hb dX7_holds_53 ?_
          refine lv_isub hx hb dX7_holds_54 ?_
          refine va_mabs hx hb (by rw [hml]; exact hl.1.symm) hown (hts _ q551) (hts _ q552) (hts _ q56) (hts _ q553) (Nat.le_of_ble_eq_true rfl) (Nat.le_of_ble_eq_true rfl) (Nat.zero_le _) (Nat.zero_le _) dX7_holds_55 ?_
          refine lv_istore (lv' := [(7, .int (if 0 ≤ ((tX7_digitsAdded S p1 63) - (2 * (tX7_digitsAdded S p1 (nI zi5)))) then ((tX7_digitsAdded S p1 63) - (2 * (tX7_digitsAdded S p1 (nI zi5)))) else 0 - ((tX7_digitsAdded S p1 63) - (2 * (tX7_digitsAdded S p1 (nI zi5)))))), (6, .int (nI zi5)), (3, .int (tX7_digitsAdded S p1 63)), (0, .ref (g.1 12 0)), (1, .int p1), (2, .int p2), (5, .int zx7), (4, .int zx8)]) hx hb dX7_holds_58 hl (by decide) rfl (fun ls hl => ?_)
          refine lv_iload hx hb dX7_holds_60 (lv_at hl 0 rfl) ?_
          refine lv_iload hx hb dX7_holds_62 (lv_at hl 7 rfl) ?_
          refine lv_icmp_ge (tgt := 75) hx hb dX7_holds_64 (by decide) (fun zc12 => ?_) (fun zc12 => ?_)
          · have hf := hf.trans (if_pos zc12)
            refine lv_iinc (v := (nI (zi5 + 1))) (lv' := [(6, .int (nI (zi5 + 1))), (7, .int (if 0 ≤ ((tX7_digitsAdded S p1 63) - (2 * (tX7_digitsAdded S p1 (nI zi5)))) then ((tX7_digitsAdded S p1 63) - (2 * (tX7_digitsAdded S p1 (nI zi5)))) else 0 - ((tX7_digitsAdded S p1 63) - (2 * (tX7_digitsAdded S p1 (nI zi5)))))), (3, .int (tX7_digitsAdded S p1 63)), (0, .ref (g.1 12 0)), (1, .int p1), (2, .int p2), (5, .int zx7), (4, .int zx8)]) hx hb dX7_holds_75 hl (k := 1) rfl (nI_1 _) (by decide) rfl (fun ls hl => ?_)
            refine lv_goto (tgt := 38) hx hb dX7_holds_78 (by decide) ?_
            exact ih38 (zi5 + 1) zx7 zx8 _ _ (by omega) hf hP hS ls (lv_sub hl [0, 2, 3, 4, 5, 6, 7] rfl)
          · have hf := hf.trans (if_neg zc12)
            refine lv_iload hx hb dX7_holds_67 (lv_at hl 0 rfl) ?_
            refine lv_istore (lv' := [(4, .int (if 0 ≤ ((tX7_digitsAdded S p1 63) - (2 * (tX7_digitsAdded S p1 (nI zi5)))) then ((tX7_digitsAdded S p1 63) - (2 * (tX7_digitsAdded S p1 (nI zi5)))) else 0 - ((tX7_digitsAdded S p1 63) - (2 * (tX7_digitsAdded S p1 (nI zi5)))))), (7, .int (if 0 ≤ ((tX7_digitsAdded S p1 63) - (2 * (tX7_digitsAdded S p1 (nI zi5)))) then ((tX7_digitsAdded S p1 63) - (2 * (tX7_digitsAdded S p1 (nI zi5)))) else 0 - ((tX7_digitsAdded S p1 63) - (2 * (tX7_digitsAdded S p1 (nI zi5)))))), (6, .int (nI zi5)), (3, .int (tX7_digitsAdded S p1 63)), (0, .ref (g.1 12 0)), (1, .int p1), (2, .int p2), (5, .int zx7)]) hx hb dX7_holds_69 hl (by decide) rfl (fun ls hl => ?_)
            refine lv_iload hx hb dX7_holds_71 (lv_at hl 2 rfl) ?_
            refine lv_istore (lv' := [(5, .int (nI zi5)), (4, .int (if 0 ≤ ((tX7_digitsAdded S p1 63) - (2 * (tX7_digitsAdded S p1 (nI zi5)))) then ((tX7_digitsAdded S p1 63) - (2 * (tX7_digitsAdded S p1 (nI zi5)))) else 0 - ((tX7_digitsAdded S p1 63) - (2 * (tX7_digitsAdded S p1 (nI zi5)))))), (7, .int (if 0 ≤ ((tX7_digitsAdded S p1 63) - (2 * (tX7_digitsAdded S p1 (nI zi5)))) then ((tX7_digitsAdded S p1 63) - (2 * (tX7_digitsAdded S p1 (nI zi5)))) else 0 - ((tX7_digitsAdded S p1 63) - (2 * (tX7_digitsAdded S p1 (nI zi5)))))), (6, .int (nI zi5)), (3, .int (tX7_digitsAdded S p1 63)), (0, .ref (g.1 12 0)), (1, .int p1), (2, .int p2)]) hx hb dX7_holds_73 hl (by decide) rfl (fun ls hl => ?_)
            refine lv_iinc (v := (nI (zi5 + 1))) (lv' := [(6, .int (nI (zi5 + 1))), (5, .int (nI zi5)), (4, .int (if 0 ≤ ((tX7_digitsAdded S p1 63) - (2 * (tX7_digitsAdded S p1 (nI zi5)))) then ((tX7_digitsAdded S p1 63) - (2 * (tX7_digitsAdded S p1 (nI zi5)))) else 0 - ((tX7_digitsAdded S p1 63) - (2 * (tX7_digitsAdded S p1 (nI zi5)))))), (7, .int (if 0 ≤ ((tX7_digitsAdded S p1 63) - (2 * (tX7_digitsAdded S p1 (nI zi5)))) then ((tX7_digitsAdded S p1 63) - (2 * (tX7_digitsAdded S p1 (nI zi5)))) else 0 - ((tX7_digitsAdded S p1 63) - (2 * (tX7_digitsAdded S p1 (nI zi5)))))), (3, .int (tX7_digitsAdded S p1 63)), (0, .ref (g.1 12 0)), (1, .int p1), (2, .int p2)]) hx hb dX7_holds_75 hl (k := 3) rfl (nI_1 _) (by decide) rfl (fun ls hl => ?_)
            refine lv_goto (tgt := 38) hx hb dX7_holds_78 (by decide) ?_
            exact ih38 (zi5 + 1) (nI zi5) (if 0 ≤ ((tX7_digitsAdded S p1 63) - (2 * (tX7_digitsAdded S p1 (nI zi5)))) then ((tX7_digitsAdded S p1 63) - (2 * (tX7_digitsAdded S p1 (nI zi5)))) else 0 - ((tX7_digitsAdded S p1 63) - (2 * (tX7_digitsAdded S p1 (nI zi5))))) _ _ (by omega) hf hP hS ls (lv_sub hl [0, 4, 5, 6, 7, 1, 2] rfl)
      exact lp38 64 0 0 (tX7_digitsAdded S p1 63) _ _ (by decide) hf hP hS ls (lv_sub hl [0, 3, 4, 5, 6, 1, 2] rfl)
    · have hf := hf.trans (if_neg zc3)
      refine lv_if_ne (tgt := 22) hx hb dX7_holds_16 (by decide) (fun zc13 => absurd (by decide) zc13) (fun zc13 => ?_)
      refine lv_bipush (v := (-2)) hx hb dX7_holds_19 (by decide) ?_
      exact ri hQ C0 hr hlocks hK hP hS (by rw [← hF]; exact ⟨hf.symm, rfl⟩) dX7_holds_21
  · have hf := hf.trans (if_neg zc1)
    refine lv_if_eq (tgt := 19) hx hb dX7_holds_7 (by decide) (fun zc14 => ?_) (fun zc14 => absurd (by decide) zc14)
    refine lv_bipush (v := (-2)) hx hb dX7_holds_19 (by decide) ?_
    exact ri hQ C0 hr hlocks hK hP hS (by rw [← hF]; exact ⟨hf.symm, rfl⟩) dX7_holds_21
def tX7_meant (S : St) (p1 : Int32) (p2 : Int32) (p3 : Int32) (p4 : Int32) (p5 : Int32) : Int64 :=
  (if wi p1 0 100 then (if wi p2 0 100 then (if wi p3 0 6 then (if wi p4 0 p3 then (if wi p5 0 1 then (if ((tX7_likelihood S p1 p3 p4) + (tX7_likelihood S p2 p3 p4)) = 0 then (tX7_partOf S 0 1 p5) else (tX7_partOf S (tX7_likelihood S p2 p3 p4) ((tX7_likelihood S p1 p3 p4) + (tX7_likelihood S p2 p3 p4)) p5)) else (-1000000000000000002)) else (-1000000000000000002)) else (-1000000000000000002)) else (-1000000000000000002)) else (-1000000000000000002))
set_option maxHeartbeats 4000000 in
set_option maxRecDepth 100000 in
theorem kX7_meant (l : Launch) (g : Gd) (A : Nat → Prop) (hA : Ads g.1 VX A) (S : St) (p1 : Int32) (p2 : Int32) (p3 : Int32) (p4 : Int32) (p5 : Int32) : Met l yX7_meant (wU yX7_meant cX7_meant 12 (some .long)) { frames := 2, cells := 0, slots := 0, locals := 54 } (va_Pc [.ref (g.1 12 0), .int p1, .int p2, .int p3, .int p4, .int p5] (PW VX ctX g S)) (va_Ql (fun r u => r = tX7_meant S p1 p2 p3 p4 p5 ∧ u = S) (fun u U => PW VX ctX g u U) A) 0 0 A := by
  refine ent (cc := cX7_meant) (maxL := 12) (ret := (some .long)) (by decide) (Nat.le_of_ble_eq_true rfl) ?_
  intro p e s m below meth c args Q C0 hr hlocks hP hK hQ ls hl
  have hx := C0.1
  have hb := C0.2.1
  have hml := C0.2.2.1
  have hown := C0.2.2.2.1
  have hts := C0.2.2.2.2
  obtain ⟨F, hF⟩ : ∃ F : Int64, F = tX7_meant S p1 p2 p3 p4 p5 := ⟨_, rfl⟩
  have hf := hF
  unfold tX7_meant at hf
  have hS : va_S A s.heap s.heap [] := va_S.rf
  have hl : lv_has ls 12 [(0, .ref (g.1 12 0)), (1, .int p1), (2, .int p2), (3, .int p3), (4, .int p4), (5, .int p5)] := hl
  refine lv_iload_n hx hb dX7_meant_0 rfl (lv_at hl 1 rfl) ?_
  refine lv_iconst (v := 0) hx hb dX7_meant_1 (by decide) ?_
  refine lv_bipush (v := 100) hx hb dX7_meant_2 (by decide) ?_
  refine kzc (va_runS (As := [.int p1, .int 0, .int 100]) (rest := []) C0 (kX7_within l g A hA S p1 0 100) (va_cwS 3 hts (gS q297 q298 q46 q299) rfl rfl rfl (by decide +kernel) ⟨Nat.le_of_ble_eq_true rfl, Nat.le_of_ble_eq_true rfl⟩) (preS hP hK) rfl rfl hl.1 rfl (lv_room (Nat.le_of_ble_eq_true rfl)) dX7_meant_4 ⟨Nat.zero_le _, Nat.zero_le _⟩) hS (fun _ h => h) (fun zc1 H locs hP hS => ?_) (fun zc1 H locs hP hS => ?_)
  · have hf := hf.trans (if_pos zc1)
    refine lv_if_eq (tgt := 50) hx hb dX7_meant_7 (by decide) (fun zc2 => absurd zc2 (by decide)) (fun zc2 => ?_)
    refine lv_iload_n hx hb dX7_meant_10 rfl (lv_at hl 2 rfl) ?_
    refine lv_iconst (v := 0) hx hb dX7_meant_11 (by decide) ?_
    refine lv_bipush (v := 100) hx hb dX7_meant_12 (by decide) ?_
    refine kzc (va_runS (As := [.int p2, .int 0, .int 100]) (rest := []) C0 (kX7_within l g A hA S p2 0 100) (va_cwS 3 hts (gS q297 q298 q46 q299) rfl rfl rfl (by decide +kernel) ⟨Nat.le_of_ble_eq_true rfl, Nat.le_of_ble_eq_true rfl⟩) (preS hP hK) rfl rfl hl.1 rfl (lv_room (Nat.le_of_ble_eq_true rfl)) dX7_meant_14 ⟨Nat.zero_le _, Nat.zero_le _⟩) hS (fun _ h => h) (fun zc3 H locs hP hS => ?_) (fun zc3 H locs hP hS => ?_)
    · have hf := hf.trans (if_pos zc3)
      refine lv_if_eq (tgt := 50) hx hb dX7_meant_17 (by decide) (fun zc4 => absurd zc4 (by decide)) (fun zc4 => ?_)
      refine lv_iload_n hx hb dX7_meant_20 rfl (lv_at hl 3 rfl) ?_
      refine lv_iconst (v := 0) hx hb dX7_meant_21 (by decide) ?_
      refine lv_bipush (v := 6) hx hb dX7_meant_22 (by decide) ?_
      refine kzc (va_runS (As := [.int p3, .int 0, .int 6]) (rest := []) C0 (kX7_within l g A hA S p3 0 6) (va_cwS 3 hts (gS q297 q298 q46 q299) rfl rfl rfl (by decide +kernel) ⟨Nat.le_of_ble_eq_true rfl, Nat.le_of_ble_eq_true rfl⟩) (preS hP hK) rfl rfl hl.1 rfl (lv_room (Nat.le_of_ble_eq_true rfl)) dX7_meant_24 ⟨Nat.zero_le _, Nat.zero_le _⟩) hS (fun _ h => h) (fun zc5 H locs hP hS => ?_) (fun zc5 H locs hP hS => ?_)
      · have hf := hf.trans (if_pos zc5)
        refine lv_if_eq (tgt := 50) hx hb dX7_meant_27 (by decide) (fun zc6 => absurd zc6 (by decide)) (fun zc6 => ?_)
        refine lv_iload hx hb dX7_meant_30 (lv_at hl 4 rfl) ?_
        refine lv_iconst (v := 0) hx hb dX7_meant_32 (by decide) ?_
        refine lv_iload_n hx hb dX7_meant_33 rfl (lv_at hl 3 rfl) ?_
        refine kzc (va_runS (As := [.int p4, .int 0, .int p3]) (rest := []) C0 (kX7_within l g A hA S p4 0 p3) (va_cwS 3 hts (gS q297 q298 q46 q299) rfl rfl rfl (by decide +kernel) ⟨Nat.le_of_ble_eq_true rfl, Nat.le_of_ble_eq_true rfl⟩) (preS hP hK) rfl rfl hl.1 rfl (lv_room (Nat.le_of_ble_eq_true rfl)) dX7_meant_34 ⟨Nat.zero_le _, Nat.zero_le _⟩) hS (fun _ h => h) (fun zc7 H locs hP hS => ?_) (fun zc7 H locs hP hS => ?_)
        · have hf := hf.trans (if_pos zc7)
          refine lv_if_eq (tgt := 50) hx hb dX7_meant_37 (by decide) (fun zc8 => absurd zc8 (by decide)) (fun zc8 => ?_)
          refine lv_iload hx hb dX7_meant_40 (lv_at hl 5 rfl) ?_
          refine lv_iconst (v := 0) hx hb dX7_meant_42 (by decide) ?_
          refine lv_iconst (v := 1) hx hb dX7_meant_43 (by decide) ?_
          refine kzc (va_runS (As := [.int p5, .int 0, .int 1]) (rest := []) C0 (kX7_within l g A hA S p5 0 1) (va_cwS 3 hts (gS q297 q298 q46 q299) rfl rfl rfl (by decide +kernel) ⟨Nat.le_of_ble_eq_true rfl, Nat.le_of_ble_eq_true rfl⟩) (preS hP hK) rfl rfl hl.1 rfl (lv_room (Nat.le_of_ble_eq_true rfl)) dX7_meant_44 ⟨Nat.zero_le _, Nat.zero_le _⟩) hS (fun _ h => h) (fun zc9 H locs hP hS => ?_) (fun zc9 H locs hP hS => ?_)
          · have hf := hf.trans (if_pos zc9)
            refine lv_if_ne (tgt := 54) hx hb dX7_meant_47 (by decide) (fun zc10 => ?_) (fun zc10 => absurd zc10 (by decide))
            refine lv_iload_n hx hb dX7_meant_54 rfl (lv_at hl 1 rfl) ?_
            refine lv_iload_n hx hb dX7_meant_55 rfl (lv_at hl 3 rfl) ?_
            refine lv_iload hx hb dX7_meant_56 (lv_at hl 4 rfl) ?_
            refine klP (va_runS (As := [.int p1, .int p3, .int p4]) (rest := []) C0 (kX7_likelihood l g A hA S p1 p3 p4) (va_cwS 3 hts (gS q558 q559 q46 q560) rfl rfl rfl (by decide +kernel) ⟨Nat.le_of_ble_eq_true rfl, Nat.le_of_ble_eq_true rfl⟩) (preS hP hK) rfl rfl hl.1 rfl (lv_room (Nat.le_of_ble_eq_true rfl)) dX7_meant_58 ⟨Nat.zero_le _, Nat.zero_le _⟩) hS (fun _ h => h) (fun H locs hP hS => ?_)
            refine lv_lstore (lv' := [(6, .long (tX7_likelihood S p1 p3 p4)), (0, .ref (g.1 12 0)), (1, .int p1), (2, .int p2), (3, .int p3), (4, .int p4), (5, .int p5)]) hx hb dX7_meant_61 hl (by decide) rfl (fun ls hl => ?_)
            refine lv_iload_n hx hb dX7_meant_63 rfl (lv_at hl 3 rfl) ?_
            refine lv_iload_n hx hb dX7_meant_64 rfl (lv_at hl 4 rfl) ?_
            refine lv_iload hx hb dX7_meant_65 (lv_at hl 5 rfl) ?_
            refine klP (va_runS (As := [.int p2, .int p3, .int p4]) (rest := []) C0 (kX7_likelihood l g A hA S p2 p3 p4) (va_cwS 3 hts (gS q558 q559 q46 q560) rfl rfl rfl (by decide +kernel) ⟨Nat.le_of_ble_eq_true rfl, Nat.le_of_ble_eq_true rfl⟩) (preS hP hK) rfl rfl hl.1 rfl (lv_room (Nat.le_of_ble_eq_true rfl)) dX7_meant_67 ⟨Nat.zero_le _, Nat.zero_le _⟩) hS (fun _ h => h) (fun H locs hP hS => ?_)
            refine lv_lstore (lv' := [(8, .long (tX7_likelihood S p2 p3 p4)), (6, .long (tX7_likelihood S p1 p3 p4)), (0, .ref (g.1 12 0)), (1, .int p1), (2, .int p2), (3, .int p3), (4, .int p4), (5, .int p5)]) hx hb dX7_meant_70 hl (by decide) rfl (fun ls hl => ?_)
            refine lv_lload hx hb dX7_meant_72 (lv_at hl 1 rfl) ?_
            refine lv_lload hx hb dX7_meant_74 (lv_at hl 0 rfl) ?_
            refine lv_ladd hx hb dX7_meant_76 ?_
            refine lv_lstore (lv' := [(10, .long ((tX7_likelihood S p1 p3 p4) + (tX7_likelihood S p2 p3 p4))), (8, .long (tX7_likelihood S p2 p3 p4)), (6, .long (tX7_likelihood S p1 p3 p4)), (0, .ref (g.1 12 0)), (1, .int p1), (2, .int p2), (3, .int p3), (4, .int p4), (5, .int p5)]) hx hb dX7_meant_77 hl (by decide) rfl (fun ls hl => ?_)
            refine lv_lload hx hb dX7_meant_79 (lv_at hl 0 rfl) ?_
            refine lv_lconst (v := 0) hx hb dX7_meant_81 (by decide) ?_
            refine klcmp_ne (tgt := 96) hx hb dX7_meant_82 dX7_meant_83 (by decide) (fun zc11 => ?_) (fun zc11 => ?_)
            · have hf := hf.trans (if_neg zc11)
              refine lv_lload hx hb dX7_meant_96 (lv_at hl 1 rfl) ?_
              refine lv_lload hx hb dX7_meant_98 (lv_at hl 0 rfl) ?_
              refine lv_iload hx hb dX7_meant_100 (lv_at hl 8 rfl) ?_
              refine klP (va_runS (As := [.long (tX7_likelihood S p2 p3 p4), .long ((tX7_likelihood S p1 p3 p4) + (tX7_likelihood S p2 p3 p4)), .int p5]) (rest := []) C0 (kX7_partOf l g A hA S (tX7_likelihood S p2 p3 p4) ((tX7_likelihood S p1 p3 p4) + (tX7_likelihood S p2 p3 p4)) p5) (va_cwS 3 hts (gS q494 q495 q46 q496) rfl rfl rfl (by decide +kernel) ⟨Nat.le_of_ble_eq_true rfl, Nat.le_of_ble_eq_true rfl⟩) (preS hP hK) rfl rfl hl.1 rfl (lv_room (Nat.le_of_ble_eq_true rfl)) dX7_meant_102 ⟨Nat.zero_le _, Nat.zero_le _⟩) hS (fun _ h => h) (fun H locs hP hS => ?_)
              exact rl hQ C0 hr hlocks hK hP hS (by rw [← hF]; exact ⟨hf.symm, rfl⟩) dX7_meant_105
            · have hf := hf.trans (if_pos zc11)
              refine lv_lconst (v := 0) hx hb dX7_meant_86 (by decide) ?_
              refine lv_lconst (v := 1) hx hb dX7_meant_87 (by decide) ?_
              refine lv_iload hx hb dX7_meant_88 (lv_at hl 8 rfl) ?_
              refine klP (va_runS (As := [.long 0, .long 1, .int p5]) (rest := []) C0 (kX7_partOf l g A hA S 0 1 p5) (va_cwS 3 hts (gS q494 q495 q46 q496) rfl rfl rfl (by decide +kernel) ⟨Nat.le_of_ble_eq_true rfl, Nat.le_of_ble_eq_true rfl⟩) (preS hP hK) rfl rfl hl.1 rfl (lv_room (Nat.le_of_ble_eq_true rfl)) dX7_meant_90 ⟨Nat.zero_le _, Nat.zero_le _⟩) hS (fun _ h => h) (fun H locs hP hS => ?_)
              refine lv_goto (tgt := 105) hx hb dX7_meant_93 (by decide) ?_
              exact rl hQ C0 hr hlocks hK hP hS (by rw [← hF]; exact ⟨hf.symm, rfl⟩) dX7_meant_105
          · have hf := hf.trans (if_neg zc9)
            refine lv_if_ne (tgt := 54) hx hb dX7_meant_47 (by decide) (fun zc12 => absurd (by decide) zc12) (fun zc12 => ?_)
            refine lv_ldc2 (v := (-1000000000000000002)) hx hb hown (hts _ q488) dX7_meant_50 ?_
            exact rl hQ C0 hr hlocks hK hP hS (by rw [← hF]; exact ⟨hf.symm, rfl⟩) dX7_meant_53
        · have hf := hf.trans (if_neg zc7)
          refine lv_if_eq (tgt := 50) hx hb dX7_meant_37 (by decide) (fun zc13 => ?_) (fun zc13 => absurd (by decide) zc13)
          refine lv_ldc2 (v := (-1000000000000000002)) hx hb hown (hts _ q488) dX7_meant_50 ?_
          exact rl hQ C0 hr hlocks hK hP hS (by rw [← hF]; exact ⟨hf.symm, rfl⟩) dX7_meant_53
      · have hf := hf.trans (if_neg zc5)
        refine lv_if_eq (tgt := 50) hx hb dX7_meant_27 (by decide) (fun zc14 => ?_) (fun zc14 => absurd (by decide) zc14)
        refine lv_ldc2 (v := (-1000000000000000002)) hx hb hown (hts _ q488) dX7_meant_50 ?_
        exact rl hQ C0 hr hlocks hK hP hS (by rw [← hF]; exact ⟨hf.symm, rfl⟩) dX7_meant_53
    · have hf := hf.trans (if_neg zc3)
      refine lv_if_eq (tgt := 50) hx hb dX7_meant_17 (by decide) (fun zc15 => ?_) (fun zc15 => absurd (by decide) zc15)
      refine lv_ldc2 (v := (-1000000000000000002)) hx hb hown (hts _ q488) dX7_meant_50 ?_
      exact rl hQ C0 hr hlocks hK hP hS (by rw [← hF]; exact ⟨hf.symm, rfl⟩) dX7_meant_53
  · have hf := hf.trans (if_neg zc1)
    refine lv_if_eq (tgt := 50) hx hb dX7_meant_7 (by decide) (fun zc16 => ?_) (fun zc16 => absurd (by decide) zc16)
    refine lv_ldc2 (v := (-1000000000000000002)) hx hb hown (hts _ q488) dX7_meant_50 ?_
    exact rl hQ C0 hr hlocks hK hP hS (by rw [← hF]; exact ⟨hf.symm, rfl⟩) dX7_meant_53
def tX7_tale (S : St) (p1 : Int32) (p2 : Int32) (p3 : Int32) : Int32 × St :=
  (if wi p1 0 7 then (if wi p2 0 7 then (if p1 = p2 then ((-1), S) else (bnd (tX5_put S 0 p1 p2 p3).2 (fun zS7 => bnd (tX5_put S 0 p1 p2 p3).1 (fun zr6 => (if zr6 = 0 then ((-4), zS7) else ((zS7.1 (6 + 0) 0 0), zS7)))))) else ((-1), S)) else ((-1), S))
set_option maxHeartbeats 4000000 in
set_option maxRecDepth 100000 in
theorem kX7_tale (l : Launch) (g : Gd) (A : Nat → Prop) (hA : Ads g.1 VX A) (S : St) (p1 : Int32) (p2 : Int32) (p3 : Int32) : Met l yX7_tale (wU yX7_tale cX7_tale 4 (some .int)) { frames := 1, cells := 0, slots := 0, locals := 23 } (va_Pc [.ref (g.1 12 0), .int p1, .int p2, .int (b01 p3)] (PW VX ctX g S)) (va_Qi (fun r u => r = (tX7_tale S p1 p2 p3).1 ∧ u = (tX7_tale S p1 p2 p3).2) (fun u U => PW VX ctX g u U) A) 0 0 A := by
  refine ent (cc := cX7_tale) (maxL := 4) (ret := (some .int)) (by decide) (Nat.le_of_ble_eq_true rfl) ?_
  intro p e s m below meth c args Q C0 hr hlocks hP hK hQ ls hl
  have hx := C0.1
  have hb := C0.2.1
  have hml := C0.2.2.1
  have hown := C0.2.2.2.1
  have hts := C0.2.2.2.2
  obtain ⟨F, hF⟩ : ∃ F : Int32 × St, F = tX7_tale S p1 p2 p3 := ⟨_, rfl⟩
  have hf := hF
  unfold tX7_tale at hf
  have hS : va_S A s.heap s.heap [] := va_S.rf
  have hl : lv_has ls 4 [(0, .ref (g.1 12 0)), (1, .int p1), (2, .int p2), (3, .int (b01 p3))] := hl
  refine lv_iload_n hx hb dX7_tale_0 rfl (lv_at hl 1 rfl) ?_
  refine lv_iconst (v := 0) hx hb dX7_tale_1 (by decide) ?_
  refine lv_bipush (v := 7) hx hb dX7_tale_2 (by decide) ?_
  refine kzc (va_runS (As := [.int p1, .int 0, .int 7]) (rest := []) C0 (kX7_within l g A hA S p1 0 7) (va_cwS 3 hts (gS q297 q298 q46 q299) rfl rfl rfl (by decide +kernel) ⟨Nat.le_of_ble_eq_true rfl, Nat.le_of_ble_eq_true rfl⟩) (preS hP hK) rfl rfl hl.1 rfl (lv_room (Nat.le_of_ble_eq_true rfl)) dX7_tale_4 ⟨Nat.zero_le _, Nat.zero_le _⟩) hS (fun _ h => h) (fun zc1 H locs hP hS => ?_) (fun zc1 H locs hP hS => ?_)
  · have hf := hf.trans (if_pos zc1)
    refine lv_if_eq (tgt := 25) hx hb dX7_tale_7 (by decide) (fun zc2 => absurd zc2 (by decide)) (fun zc2 => ?_)
    refine lv_iload_n hx hb dX7_tale_10 rfl (lv_at hl 2 rfl) ?_
    refine lv_iconst (v := 0) hx hb dX7_tale_11 (by decide) ?_
    refine lv_bipush (v := 7) hx hb dX7_tale_12 (by decide) ?_
    refine kzc (va_runS (As := [.int p2, .int 0, .int 7]) (rest := []) C0 (kX7_within l g A hA S p2 0 7) (va_cwS 3 hts (gS q297 q298 q46 q299) rfl rfl rfl (by decide +kernel) ⟨Nat.le_of_ble_eq_true rfl, Nat.le_of_ble_eq_true rfl⟩) (preS hP hK) rfl rfl hl.1 rfl (lv_room (Nat.le_of_ble_eq_true rfl)) dX7_tale_14 ⟨Nat.zero_le _, Nat.zero_le _⟩) hS (fun _ h => h) (fun zc3 H locs hP hS => ?_) (fun zc3 H locs hP hS => ?_)
    · have hf := hf.trans (if_pos zc3)
      refine lv_if_eq (tgt := 25) hx hb dX7_tale_17 (by decide) (fun zc4 => absurd zc4 (by decide)) (fun zc4 => ?_)
      refine lv_iload_n hx hb dX7_tale_20 rfl (lv_at hl 1 rfl) ?_
      refine lv_iload_n hx hb dX7_tale_21 rfl (lv_at hl 2 rfl) ?_
      refine lv_icmp_ne (tgt := 27) hx hb dX7_tale_22 (by decide) (fun zc5 => ?_) (fun zc5 => ?_)
      · have hf := hf.trans (if_neg zc5)
        refine lv_aload_n hx hb dX7_tale_27 rfl (lv_at hl 0 rfl) ?_
        refine gO (T := TX7) C0 inA7 hK hP (xMain g) rfl 4 (by decide) (hts _ q267) (v := .ref (g.1 (6 + 0) 0)) rfl dX7_tale_28 ?_
        refine lv_iload_n hx hb dX7_tale_31 rfl (lv_at hl 1 rfl) ?_
        refine lv_iload_n hx hb dX7_tale_32 rfl (lv_at hl 2 rfl) ?_
        refine lv_iload_n hx hb dX7_tale_33 rfl (lv_at hl 3 rfl) ?_
        refine ki (va_runV (As := [.int p1, .int p2, .int (b01 p3)]) (rest := []) C0 (kX5_put l g A hA S 0 p1 p2 p3 (by decide)) (cwV 3 hts (gV q565 q566 q567 q51 q568) rfl rfl rfl (by decide +kernel) ⟨Nat.le_of_ble_eq_true rfl, Nat.le_of_ble_eq_true rfl⟩) (preV (recO (xTales g (by decide)) hP hK rfl) hP hK) rfl rfl hl.1 rfl (lv_room (Nat.le_of_ble_eq_true rfl)) dX7_tale_34 ⟨Nat.zero_le _, Nat.zero_le _⟩) hS (fun _ h => h) (fun zr6 zS7 H locs hw hP hS => ?_)
        have hf := (hf.trans (bnd_eq hw.2)).trans (bnd_eq hw.1)
        refine lv_if_eq (tgt := 50) hx hb dX7_tale_37 (by decide) (fun zc8 => ?_) (fun zc8 => ?_)
        · have hf := hf.trans (if_pos zc8)
          refine lv_bipush (v := (-4)) hx hb dX7_tale_50 (by decide) ?_
          exact ri hQ C0 hr hlocks hK hP hS (by rw [← hF]; exact fin2 hf) dX7_tale_52
        · have hf := hf.trans (if_neg zc8)
          refine lv_aload_n hx hb dX7_tale_40 rfl (lv_at hl 0 rfl) ?_
          refine gO (T := TX7) C0 inA7 hK hP (xMain g) rfl 4 (by decide) (hts _ q267) (v := .ref (g.1 (6 + 0) 0)) rfl dX7_tale_41 ?_
          refine gO (T := TX5) C0 inA5 hK hP (xTales g (by decide)) rfl 3 (by decide) (hts _ q205) (v := .int (zS7.1 (6 + 0) 0 0)) rfl dX7_tale_44 ?_
          refine lv_goto (tgt := 52) hx hb dX7_tale_47 (by decide) ?_
          exact ri hQ C0 hr hlocks hK hP hS (by rw [← hF]; exact fin2 hf) dX7_tale_52
      · have hf := hf.trans (if_pos zc5)
        refine lv_iconst (v := (-1)) hx hb dX7_tale_25 (by decide) ?_
        exact ri hQ C0 hr hlocks hK hP hS (by rw [← hF]; exact fin2 hf) dX7_tale_26
    · have hf := hf.trans (if_neg zc3)
      refine lv_if_eq (tgt := 25) hx hb dX7_tale_17 (by decide) (fun zc9 => ?_) (fun zc9 => absurd (by decide) zc9)
      refine lv_iconst (v := (-1)) hx hb dX7_tale_25 (by decide) ?_
      exact ri hQ C0 hr hlocks hK hP hS (by rw [← hF]; exact fin2 hf) dX7_tale_26
  · have hf := hf.trans (if_neg zc1)
    refine lv_if_eq (tgt := 25) hx hb dX7_tale_7 (by decide) (fun zc10 => ?_) (fun zc10 => absurd (by decide) zc10)
    refine lv_iconst (v := (-1)) hx hb dX7_tale_25 (by decide) ?_
    exact ri hQ C0 hr hlocks hK hP hS (by rw [← hF]; exact fin2 hf) dX7_tale_26
def tX7_forget (S : St) : Int32 × St :=
  ((S.1 (6 + 0) 0 0), (up S (6 + 0) 0 0 0))
set_option maxHeartbeats 4000000 in
set_option maxRecDepth 100000 in
theorem kX7_forget (l : Launch) (g : Gd) (A : Nat → Prop) (hA : Ads g.1 VX A) (S : St)  : Met l yX7_forget (wU yX7_forget cX7_forget 2 (some .int)) { frames := 0, cells := 0, slots := 0, locals := 0 } (va_Pc [.ref (g.1 12 0)] (PW VX ctX g S)) (va_Qi (fun r u => r = (tX7_forget S).1 ∧ u = (tX7_forget S).2) (fun u U => PW VX ctX g u U) A) 0 0 A := by
  refine ent (cc := cX7_forget) (maxL := 2) (ret := (some .int)) (by decide) (Nat.le_of_ble_eq_true rfl) ?_
  intro p e s m below meth c args Q C0 hr hlocks hP hK hQ ls hl
  have hx := C0.1
  have hb := C0.2.1
  have hml := C0.2.2.1
  have hown := C0.2.2.2.1
  have hts := C0.2.2.2.2
  obtain ⟨F, hF⟩ : ∃ F : Int32 × St, F = tX7_forget S := ⟨_, rfl⟩
  have hf := hF
  unfold tX7_forget at hf
  have hS : va_S A s.heap s.heap [] := va_S.rf
  have hl : lv_has ls 2 [(0, .ref (g.1 12 0))] := hl
  refine lv_aload_n hx hb dX7_forget_0 rfl (lv_at hl 0 rfl) ?_
  refine gO (T := TX7) C0 inA7 hK hP (xMain g) rfl 4 (by decide) (hts _ q267) (v := .ref (g.1 (6 + 0) 0)) rfl dX7_forget_1 ?_
  refine gO (T := TX5) C0 inA5 hK hP (xTales g (by decide)) rfl 3 (by decide) (hts _ q205) (v := .int (S.1 (6 + 0) 0 0)) rfl dX7_forget_4 ?_
  refine lv_istore_n (lv' := [(1, .int (S.1 (6 + 0) 0 0)), (0, .ref (g.1 12 0))]) hx hb dX7_forget_7 rfl hl (by decide) rfl (fun ls hl => ?_)
  refine lv_aload_n hx hb dX7_forget_8 rfl (lv_at hl 1 rfl) ?_
  refine gO (T := TX7) C0 inA7 hK hP (xMain g) rfl 4 (by decide) (hts _ q267) (v := .ref (g.1 (6 + 0) 0)) rfl dX7_forget_9 ?_
  refine lv_iconst (v := 0) hx hb dX7_forget_12 (by decide) ?_
  refine pO (T := TX5) (ty0 := tyX5) locX C0 inA5 tyX5_ok nmX5 hK hP hA hS (xTales g (by decide)) rfl 3 (by decide) (hts _ q205) rfl 0 0 rfl rfl rfl (Nat.le_of_ble_eq_true rfl) dX7_forget_13 (fun H locs hP hS => ?_)
  refine lv_iload_n hx hb dX7_forget_16 rfl (lv_at hl 0 rfl) ?_
  exact ri hQ C0 hr hlocks hK hP hS (by rw [← hF]; exact fin2 hf) dX7_forget_17
def tX7_broken (S : St) (p1 : Int32) : Int32 × St :=
  (if wi p1 0 1 then (bnd (tX1_hear S 0) (fun zS3 => (if p1 = 0 then ((zS3.1 9 0 0), zS3) else ((zS3.1 9 0 1), zS3)))) else ((-2), S))
set_option maxHeartbeats 4000000 in
set_option maxRecDepth 100000 in
theorem kX7_broken (l : Launch) (g : Gd) (A : Nat → Prop) (hA : Ads g.1 VX A) (S : St) (p1 : Int32) : Met l yX7_broken (wU yX7_broken cX7_broken 2 (some .int)) { frames := 5, cells := 0, slots := 0, locals := 116 } (va_Pc [.ref (g.1 12 0), .int p1] (PW VX ctX g S)) (va_Qi (fun r u => r = (tX7_broken S p1).1 ∧ u = (tX7_broken S p1).2) (fun u U => PW VX ctX g u U) A) 0 0 A := by
  refine ent (cc := cX7_broken) (maxL := 2) (ret := (some .int)) (by decide) (Nat.le_of_ble_eq_true rfl) ?_
  intro p e s m below meth c args Q C0 hr hlocks hP hK hQ ls hl
  have hx := C0.1
  have hb := C0.2.1
  have hml := C0.2.2.1
  have hown := C0.2.2.2.1
  have hts := C0.2.2.2.2
  obtain ⟨F, hF⟩ : ∃ F : Int32 × St, F = tX7_broken S p1 := ⟨_, rfl⟩
  have hf := hF
  unfold tX7_broken at hf
  have hS : va_S A s.heap s.heap [] := va_S.rf
  have hl : lv_has ls 2 [(0, .ref (g.1 12 0)), (1, .int p1)] := hl
  refine lv_iload_n hx hb dX7_broken_0 rfl (lv_at hl 1 rfl) ?_
  refine lv_iconst (v := 0) hx hb dX7_broken_1 (by decide) ?_
  refine lv_iconst (v := 1) hx hb dX7_broken_2 (by decide) ?_
  refine kzc (va_runS (As := [.int p1, .int 0, .int 1]) (rest := []) C0 (kX7_within l g A hA S p1 0 1) (va_cwS 3 hts (gS q297 q298 q46 q299) rfl rfl rfl (by decide +kernel) ⟨Nat.le_of_ble_eq_true rfl, Nat.le_of_ble_eq_true rfl⟩) (preS hP hK) rfl rfl hl.1 rfl (lv_room (Nat.le_of_ble_eq_true rfl)) dX7_broken_3 ⟨Nat.zero_le _, Nat.zero_le _⟩) hS (fun _ h => h) (fun zc1 H locs hP hS => ?_) (fun zc1 H locs hP hS => ?_)
  · have hf := hf.trans (if_pos zc1)
    refine lv_if_ne (tgt := 12) hx hb dX7_broken_6 (by decide) (fun zc2 => ?_) (fun zc2 => absurd zc2 (by decide))
    refine lv_aload_n hx hb dX7_broken_12 rfl (lv_at hl 0 rfl) ?_
    refine gO (T := TX7) C0 inA7 hK hP (xMain g) rfl 5 (by decide) (hts _ q268) (v := .ref (g.1 9 0)) rfl dX7_broken_13 ?_
    refine lv_aload_n hx hb dX7_broken_16 rfl (lv_at hl 0 rfl) ?_
    refine gO (T := TX7) C0 inA7 hK hP (xMain g) rfl 4 (by decide) (hts _ q267) (v := .ref (g.1 (6 + 0) 0)) rfl dX7_broken_17 ?_
    refine kv (va_runV (As := [.ref (g.1 (6 + 0) 0)]) (rest := []) C0 (kX1_hear l g A hA S 0 (by decide)) (cwV 1 hts (gV q577 q578 q579 q52 q580) rfl rfl rfl (by decide +kernel) ⟨Nat.le_of_ble_eq_true rfl, Nat.le_of_ble_eq_true rfl⟩) (preV (recO (xNam g) hP hK rfl) hP hK) rfl rfl hl.1 rfl (lv_room (Nat.le_of_ble_eq_true rfl)) dX7_broken_20 ⟨Nat.zero_le _, Nat.zero_le _⟩) hS (fun _ h => h) (fun zS3 H locs hw hP hS => ?_)
    have hf := hf.trans (bnd_eq hw)
    refine lv_iload_n hx hb dX7_broken_23 rfl (lv_at hl 1 rfl) ?_
    refine lv_if_ne (tgt := 37) hx hb dX7_broken_24 (by decide) (fun zc4 => ?_) (fun zc4 => ?_)
    · have hf := hf.trans (if_neg zc4)
      refine lv_aload_n hx hb dX7_broken_37 rfl (lv_at hl 0 rfl) ?_
      refine gO (T := TX7) C0 inA7 hK hP (xMain g) rfl 5 (by decide) (hts _ q268) (v := .ref (g.1 9 0)) rfl dX7_broken_38 ?_
      refine gO (T := TX1) C0 inA1 hK hP (xNam g) rfl 4 (by decide) (hts _ q228) (v := .int (zS3.1 9 0 1)) rfl dX7_broken_41 ?_
      exact ri hQ C0 hr hlocks hK hP hS (by rw [← hF]; exact fin2 hf) dX7_broken_44
    · have hf := hf.trans (if_pos zc4)
      refine lv_aload_n hx hb dX7_broken_27 rfl (lv_at hl 0 rfl) ?_
      refine gO (T := TX7) C0 inA7 hK hP (xMain g) rfl 5 (by decide) (hts _ q268) (v := .ref (g.1 9 0)) rfl dX7_broken_28 ?_
      refine gO (T := TX1) C0 inA1 hK hP (xNam g) rfl 3 (by decide) (hts _ q226) (v := .int (zS3.1 9 0 0)) rfl dX7_broken_31 ?_
      refine lv_goto (tgt := 44) hx hb dX7_broken_34 (by decide) ?_
      exact ri hQ C0 hr hlocks hK hP hS (by rw [← hF]; exact fin2 hf) dX7_broken_44
  · have hf := hf.trans (if_neg zc1)
    refine lv_if_ne (tgt := 12) hx hb dX7_broken_6 (by decide) (fun zc5 => absurd (by decide) zc5) (fun zc5 => ?_)
    refine lv_bipush (v := (-2)) hx hb dX7_broken_9 (by decide) ?_
    exact ri hQ C0 hr hlocks hK hP hS (by rw [← hF]; exact fin2 hf) dX7_broken_11
def tX7_berth (S : St) (p1 : Int32) (p2 : Int32) (p3 : Int32) : Int32 :=
  (if wi p1 1 99 then (if wi p2 1 9 then (if wi p3 0 1 then (if p3 = 0 then (if (irm (p1 - 1) (p2 + 1)) = 0 then 0 else 1) else (if (irm (p1 - 1) (p2 + 1)) = 0 then (-6) else (irm (p1 - 1) (p2 + 1)))) else (-2)) else (-2)) else (-2))
set_option maxHeartbeats 4000000 in
set_option maxRecDepth 100000 in
theorem kX7_berth (l : Launch) (g : Gd) (A : Nat → Prop) (hA : Ads g.1 VX A) (S : St) (p1 : Int32) (p2 : Int32) (p3 : Int32) : Met l yX7_berth (wU yX7_berth cX7_berth 5 (some .int)) { frames := 1, cells := 0, slots := 0, locals := 22 } (va_Pc [.ref (g.1 12 0), .int p1, .int p2, .int p3] (PW VX ctX g S)) (va_Qi (fun r u => r = tX7_berth S p1 p2 p3 ∧ u = S) (fun u U => PW VX ctX g u U) A) 0 0 A := by
  refine ent (cc := cX7_berth) (maxL := 5) (ret := (some .int)) (by decide) (Nat.le_of_ble_eq_true rfl) ?_
  intro p e s m below meth c args Q C0 hr hlocks hP hK hQ ls hl
  have hx := C0.1
  have hb := C0.2.1
  have hml := C0.2.2.1
  have hown := C0.2.2.2.1
  have hts := C0.2.2.2.2
  obtain ⟨F, hF⟩ : ∃ F : Int32, F = tX7_berth S p1 p2 p3 := ⟨_, rfl⟩
  have hf := hF
  unfold tX7_berth at hf
  have hS : va_S A s.heap s.heap [] := va_S.rf
  have hl : lv_has ls 5 [(0, .ref (g.1 12 0)), (1, .int p1), (2, .int p2), (3, .int p3)] := hl
  refine lv_iload_n hx hb dX7_berth_0 rfl (lv_at hl 1 rfl) ?_
  refine lv_iconst (v := 1) hx hb dX7_berth_1 (by decide) ?_
  refine lv_bipush (v := 99) hx hb dX7_berth_2 (by decide) ?_
  refine kzc (va_runS (As := [.int p1, .int 1, .int 99]) (rest := []) C0 (kX7_within l g A hA S p1 1 99) (va_cwS 3 hts (gS q297 q298 q46 q299) rfl rfl rfl (by decide +kernel) ⟨Nat.le_of_ble_eq_true rfl, Nat.le_of_ble_eq_true rfl⟩) (preS hP hK) rfl rfl hl.1 rfl (lv_room (Nat.le_of_ble_eq_true rfl)) dX7_berth_4 ⟨Nat.zero_le _, Nat.zero_le _⟩) hS (fun _ h => h) (fun zc1 H locs hP hS => ?_) (fun zc1 H locs hP hS => ?_)
  · have hf := hf.trans (if_pos zc1)
    refine lv_if_eq (tgt := 29) hx hb dX7_berth_7 (by decide) (fun zc2 => absurd zc2 (by decide)) (fun zc2 => ?_)
    refine lv_iload_n hx hb dX7_berth_10 rfl (lv_at hl 2 rfl) ?_
    refine lv_iconst (v := 1) hx hb dX7_berth_11 (by decide) ?_
    refine lv_bipush (v := 9) hx hb dX7_berth_12 (by decide) ?_
    refine kzc (va_runS (As := [.int p2, .int 1, .int 9]) (rest := []) C0 (kX7_within l g A hA S p2 1 9) (va_cwS 3 hts (gS q297 q298 q46 q299) rfl rfl rfl (by decide +kernel) ⟨Nat.le_of_ble_eq_true rfl, Nat.le_of_ble_eq_true rfl⟩) (preS hP hK) rfl rfl hl.1 rfl (lv_room (Nat.le_of_ble_eq_true rfl)) dX7_berth_14 ⟨Nat.zero_le _, Nat.zero_le _⟩) hS (fun _ h => h) (fun zc3 H locs hP hS => ?_) (fun zc3 H locs hP hS => ?_)
    · have hf := hf.trans (if_pos zc3)
      refine lv_if_eq (tgt := 29) hx hb dX7_berth_17 (by decide) (fun zc4 => absurd zc4 (by decide)) (fun zc4 => ?_)
      refine lv_iload_n hx hb dX7_berth_20 rfl (lv_at hl 3 rfl) ?_
      refine lv_iconst (v := 0) hx hb dX7_berth_21 (by decide) ?_
      refine lv_iconst (v := 1) hx hb dX7_berth_22 (by decide) ?_
      refine kzc (va_runS (As := [.int p3, .int 0, .int 1]) (rest := []) C0 (kX7_within l g A hA S p3 0 1) (va_cwS 3 hts (gS q297 q298 q46 q299) rfl rfl rfl (by decide +kernel) ⟨Nat.le_of_ble_eq_true rfl, Nat.le_of_ble_eq_true rfl⟩) (preS hP hK) rfl rfl hl.1 rfl (lv_room (Nat.le_of_ble_eq_true rfl)) dX7_berth_23 ⟨Nat.zero_le _, Nat.zero_le _⟩) hS (fun _ h => h) (fun zc5 H locs hP hS => ?_) (fun zc5 H locs hP hS => ?_)
      · have hf := hf.trans (if_pos zc5)
        refine lv_if_ne (tgt := 32) hx hb dX7_berth_26 (by decide) (fun zc6 => ?_) (fun zc6 => absurd zc6 (by decide))
        refine lv_iload_n hx hb dX7_berth_32 rfl (lv_at hl 1 rfl) ?_
        refine lv_iconst (v := 1) hx hb dX7_berth_33 (by decide) ?_
        refine lv_isub hx hb dX7_berth_34 ?_
        refine lv_iload_n hx hb dX7_berth_35 rfl (lv_at hl 2 rfl) ?_
        refine lv_iconst (v := 1) hx hb dX7_berth_36 (by decide) ?_
        refine lv_iadd hx hb dX7_berth_37 ?_
        refine kirem hx hb dX7_berth_38 (wi_ne zc3) ?_
        refine lv_istore (lv' := [(4, .int (irm (p1 - 1) (p2 + 1))), (0, .ref (g.1 12 0)), (1, .int p1), (2, .int p2), (3, .int p3)]) hx hb dX7_berth_39 hl (by decide) rfl (fun ls hl => ?_)
        refine lv_iload_n hx hb dX7_berth_41 rfl (lv_at hl 4 rfl) ?_
        refine lv_if_ne (tgt := 56) hx hb dX7_berth_42 (by decide) (fun zc7 => ?_) (fun zc7 => ?_)
        · have hf := hf.trans (if_neg zc7)
          refine lv_iload hx hb dX7_berth_56 (lv_at hl 0 rfl) ?_
          refine lv_if_ne (tgt := 66) hx hb dX7_berth_58 (by decide) (fun zc8 => ?_) (fun zc8 => ?_)
          · have hf := hf.trans (if_neg zc8)
            refine lv_iload hx hb dX7_berth_66 (lv_at hl 0 rfl) ?_
            exact ri hQ C0 hr hlocks hK hP hS (by rw [← hF]; exact ⟨hf.symm, rfl⟩) dX7_berth_68
          · have hf := hf.trans (if_pos zc8)
            refine lv_bipush (v := (-6)) hx hb dX7_berth_61 (by decide) ?_
            refine lv_goto (tgt := 68) hx hb dX7_berth_63 (by decide) ?_
            exact ri hQ C0 hr hlocks hK hP hS (by rw [← hF]; exact ⟨hf.symm, rfl⟩) dX7_berth_68
        · have hf := hf.trans (if_pos zc7)
          refine lv_iload hx hb dX7_berth_45 (lv_at hl 0 rfl) ?_
          refine lv_if_ne (tgt := 54) hx hb dX7_berth_47 (by decide) (fun zc9 => ?_) (fun zc9 => ?_)
          · have hf := hf.trans (if_neg zc9)
            refine lv_iconst (v := 1) hx hb dX7_berth_54 (by decide) ?_
            exact ri hQ C0 hr hlocks hK hP hS (by rw [← hF]; exact ⟨hf.symm, rfl⟩) dX7_berth_55
          · have hf := hf.trans (if_pos zc9)
            refine lv_iconst (v := 0) hx hb dX7_berth_50 (by decide) ?_
            refine lv_goto (tgt := 55) hx hb dX7_berth_51 (by decide) ?_
            exact ri hQ C0 hr hlocks hK hP hS (by rw [← hF]; exact ⟨hf.symm, rfl⟩) dX7_berth_55
      · have hf := hf.trans (if_neg zc5)
        refine lv_if_ne (tgt := 32) hx hb dX7_berth_26 (by decide) (fun zc10 => absurd (by decide) zc10) (fun zc10 => ?_)
        refine lv_bipush (v := (-2)) hx hb dX7_berth_29 (by decide) ?_
        exact ri hQ C0 hr hlocks hK hP hS (by rw [← hF]; exact ⟨hf.symm, rfl⟩) dX7_berth_31
    · have hf := hf.trans (if_neg zc3)
      refine lv_if_eq (tgt := 29) hx hb dX7_berth_17 (by decide) (fun zc11 => ?_) (fun zc11 => absurd (by decide) zc11)
      refine lv_bipush (v := (-2)) hx hb dX7_berth_29 (by decide) ?_
      exact ri hQ C0 hr hlocks hK hP hS (by rw [← hF]; exact ⟨hf.symm, rfl⟩) dX7_berth_31
  · have hf := hf.trans (if_neg zc1)
    refine lv_if_eq (tgt := 29) hx hb dX7_berth_7 (by decide) (fun zc12 => ?_) (fun zc12 => absurd (by decide) zc12)
    refine lv_bipush (v := (-2)) hx hb dX7_berth_29 (by decide) ?_
    exact ri hQ C0 hr hlocks hK hP hS (by rw [← hF]; exact ⟨hf.symm, rfl⟩) dX7_berth_31
def LX7_year_50 (S : St) (p1 : Int32) (p2 : Int32) (p3 : Int32) : Nat → Nat → Int32 → St → Int32 × St
  | 0, zi8, zx10, zS11 => (if p3 = 0 then (((zS11.1 1 6 4) + 100000), zS11) else (if p3 = 1 then ((zS11.1 1 6 5), zS11) else ((tX2_countAfloat zS11 1), zS11)))
  | zk9 + 1, zi8, zx10, zS11 => (bnd (tX2_actAsDrawn zS11 1 (irm ((75 * zx10) + 74) 65537)) (fun zS16 => (LX7_year_50 S p1 p2 p3 zk9 (zi8 + 1) (irm ((75 * zx10) + 74) 65537) zS16)))
def tX7_year (S : St) (p1 : Int32) (p2 : Int32) (p3 : Int32) : Int32 × St :=
  (if wi p1 0 9999 then (if wi p2 1 99 then (if wi p3 0 2 then (bnd (tX2_copyFrom S 1 0) (fun zS7 => (LX7_year_50 S p1 p2 p3 (Int32.toNatClampNeg p2) 0 p1 zS7))) else ((-2), S)) else ((-2), S)) else ((-2), S))
set_option maxHeartbeats 4000000 in
set_option maxRecDepth 100000 in
theorem kX7_year (l : Launch) (g : Gd) (A : Nat → Prop) (hA : Ads g.1 VX A) (S : St) (p1 : Int32) (p2 : Int32) (p3 : Int32) : Met l yX7_year (wU yX7_year cX7_year 6 (some .int)) { frames := 4, cells := 0, slots := 0, locals := 93 } (va_Pc [.ref (g.1 12 0), .int p1, .int p2, .int p3] (PW VX ctX g S)) (va_Qi (fun r u => r = (tX7_year S p1 p2 p3).1 ∧ u = (tX7_year S p1 p2 p3).2) (fun u U => PW VX ctX g u U) A) 0 0 A := by
  refine ent (cc := cX7_year) (maxL := 6) (ret := (some .int)) (by decide) (Nat.le_of_ble_eq_true rfl) ?_
  intro p e s m below meth c args Q C0 hr hlocks hP hK hQ ls hl
  have hx := C0.1
  have hb := C0.2.1
  have hml := C0.2.2.1
  have hown := C0.2.2.2.1
  have hts := C0.2.2.2.2
  obtain ⟨F, hF⟩ : ∃ F : Int32 × St, F = tX7_year S p1 p2 p3 := ⟨_, rfl⟩
  have hf := hF
  unfold tX7_year at hf
  have hS : va_S A s.heap s.heap [] := va_S.rf
  have hl : lv_has ls 6 [(0, .ref (g.1 12 0)), (1, .int p1), (2, .int p2), (3, .int p3)] := hl
  refine lv_iload_n hx hb dX7_year_0 rfl (lv_at hl 1 rfl) ?_
  refine lv_iconst (v := 0) hx hb dX7_year_1 (by decide) ?_
  refine lv_sipush (v := 9999) hx hb dX7_year_2 (by decide) ?_
  refine kzc (va_runS (As := [.int p1, .int 0, .int 9999]) (rest := []) C0 (kX7_within l g A hA S p1 0 9999) (va_cwS 3 hts (gS q297 q298 q46 q299) rfl rfl rfl (by decide +kernel) ⟨Nat.le_of_ble_eq_true rfl, Nat.le_of_ble_eq_true rfl⟩) (preS hP hK) rfl rfl hl.1 rfl (lv_room (Nat.le_of_ble_eq_true rfl)) dX7_year_5 ⟨Nat.zero_le _, Nat.zero_le _⟩) hS (fun _ h => h) (fun zc1 H locs hP hS => ?_) (fun zc1 H locs hP hS => ?_)
  · have hf := hf.trans (if_pos zc1)
    refine lv_if_eq (tgt := 30) hx hb dX7_year_8 (by decide) (fun zc2 => absurd zc2 (by decide)) (fun zc2 => ?_)
    refine lv_iload_n hx hb dX7_year_11 rfl (lv_at hl 2 rfl) ?_
    refine lv_iconst (v := 1) hx hb dX7_year_12 (by decide) ?_
    refine lv_bipush (v := 99) hx hb dX7_year_13 (by decide) ?_
    refine kzc (va_runS (As := [.int p2, .int 1, .int 99]) (rest := []) C0 (kX7_within l g A hA S p2 1 99) (va_cwS 3 hts (gS q297 q298 q46 q299) rfl rfl rfl (by decide +kernel) ⟨Nat.le_of_ble_eq_true rfl, Nat.le_of_ble_eq_true rfl⟩) (preS hP hK) rfl rfl hl.1 rfl (lv_room (Nat.le_of_ble_eq_true rfl)) dX7_year_15 ⟨Nat.zero_le _, Nat.zero_le _⟩) hS (fun _ h => h) (fun zc3 H locs hP hS => ?_) (fun zc3 H locs hP hS => ?_)
    · have hf := hf.trans (if_pos zc3)
      refine lv_if_eq (tgt := 30) hx hb dX7_year_18 (by decide) (fun zc4 => absurd zc4 (by decide)) (fun zc4 => ?_)
      refine lv_iload_n hx hb dX7_year_21 rfl (lv_at hl 3 rfl) ?_
      refine lv_iconst (v := 0) hx hb dX7_year_22 (by decide) ?_
      refine lv_iconst (v := 2) hx hb dX7_year_23 (by decide) ?_
      refine kzc (va_runS (As := [.int p3, .int 0, .int 2]) (rest := []) C0 (kX7_within l g A hA S p3 0 2) (va_cwS 3 hts (gS q297 q298 q46 q299) rfl rfl rfl (by decide +kernel) ⟨Nat.le_of_ble_eq_true rfl, Nat.le_of_ble_eq_true rfl⟩) (preS hP hK) rfl rfl hl.1 rfl (lv_room (Nat.le_of_ble_eq_true rfl)) dX7_year_24 ⟨Nat.zero_le _, Nat.zero_le _⟩) hS (fun _ h => h) (fun zc5 H locs hP hS => ?_) (fun zc5 H locs hP hS => ?_)
      · have hf := hf.trans (if_pos zc5)
        refine lv_if_ne (tgt := 33) hx hb dX7_year_27 (by decide) (fun zc6 => ?_) (fun zc6 => absurd zc6 (by decide))
        refine lv_aload_n hx hb dX7_year_33 rfl (lv_at hl 0 rfl) ?_
        refine gO (T := TX7) C0 inA7 hK hP (xMain g) rfl 1 (by decide) (hts _ q264) (v := .ref (g.1 1 6)) rfl dX7_year_34 ?_
        refine lv_aload_n hx hb dX7_year_37 rfl (lv_at hl 0 rfl) ?_
        refine gO (T := TX7) C0 inA7 hK hP (xMain g) rfl 0 (by decide) (hts _ q263) (v := .ref (g.1 0 6)) rfl dX7_year_38 ?_
        refine kv (va_runV (As := [.ref (g.1 0 6)]) (rest := []) C0 (kX2_copyFrom l g A hA S 1 0 (by decide) (by decide)) (cwV 1 hts (gV q390 q391 q392 q47 q393) rfl rfl rfl (by decide +kernel) ⟨Nat.le_of_ble_eq_true rfl, Nat.le_of_ble_eq_true rfl⟩) (preV (recO (xOwner g (by decide)) hP hK rfl) hP hK) rfl rfl hl.1 rfl (lv_room (Nat.le_of_ble_eq_true rfl)) dX7_year_41 ⟨Nat.zero_le _, Nat.zero_le _⟩) hS (fun _ h => h) (fun zS7 H locs hw hP hS => ?_)
        have hf := hf.trans (bnd_eq hw)
        refine lv_iload_n hx hb dX7_year_44 rfl (lv_at hl 1 rfl) ?_
        refine lv_istore (lv' := [(4, .int p1), (0, .ref (g.1 12 0)), (1, .int p1), (2, .int p2), (3, .int p3)]) hx hb dX7_year_45 hl (by decide) rfl (fun ls hl => ?_)
        refine lv_iconst (v := 0) hx hb dX7_year_47 (by decide) ?_
        refine lv_istore (lv' := [(5, .int 0), (4, .int p1), (0, .ref (g.1 12 0)), (1, .int p1), (2, .int p2), (3, .int p3)]) hx hb dX7_year_48 hl (by decide) rfl (fun ls hl => ?_)
        have lp50 : ∀ (zk9 zi8 : Nat) (zx10 : Int32) (zS11 : St) (H : Heap) (locs : List Loc), (zi8 + zk9 = (Int32.toNatClampNeg p2)) → (F = LX7_year_50 S p1 p2 p3 zk9 zi8 zx10 zS11) → HW VX ctX g zS11 H → va_S A s.heap H locs → ∀ ls : Array Slot, lv_has ls 6 [(5, .int (nI zi8)), (0, .ref (g.1 12 0)), (1, .int p1), (2, .int p2), (3, .int p3), (4, .int zx10)] → W p l e { frames := 4, cells := 0, slots := 0, locals := 93 } s m args below meth c H locs 0 0 Q (F0 m 50 ls []) := by
          intro zk9
          induction zk9 with
          | zero =>
            intro zi8 zx10 zS11 H locs hik hf hP hS ls hl
            rw [LX7_year_50] at hf
            refine lv_iload hx hb dX7_year_50 (lv_at hl 0 rfl) ?_
            refine lv_iload_n hx hb dX7_year_52 rfl (lv_at hl 3 rfl) ?_
            refine lv_icmp_ge (tgt := 84) hx hb dX7_year_53 (by decide) (fun zc12 => ?_) (fun zc12 => absurd (up_sge0 hik) zc12)
            refine lv_iload_n hx hb dX7_year_84 rfl (lv_at hl 4 rfl) ?_
            by_cases zc13 : p3 = 0
            · have hf := hf.trans (if_pos zc13)
              refine lv_lookup (off := 27) (tgt := 112) hx hb dX7_year_85 (by decide) (by rw [zc13]; decide) (by decide) ?_
              refine lv_aload_n hx hb dX7_year_112 rfl (lv_at hl 1 rfl) ?_
              refine gO (T := TX7) C0 inA7 hK hP (xMain g) rfl 1 (by decide) (hts _ q264) (v := .ref (g.1 1 6)) rfl dX7_year_113 ?_
              refine gO (T := TX2) C0 inA2 hK hP (xOwner g (by decide)) rfl 5 (by decide) (hts _ q123) (v := .int (zS11.1 1 6 4)) rfl dX7_year_116 ?_
              refine lv_ldc (v := 100000) hx hb hown (hts _ q474) dX7_year_119 ?_
              refine lv_iadd hx hb dX7_year_121 ?_
              exact ri hQ C0 hr hlocks hK hP hS (by rw [← hF]; exact fin2 hf) dX7_year_122
            · have hf := hf.trans (if_neg zc13)
              by_cases zc14 : p3 = 1
              · have hf := hf.trans (if_pos zc14)
                refine lv_lookup (off := 38) (tgt := 123) hx hb dX7_year_85 (by decide) (by rw [zc14]; decide) (by decide) ?_
                refine lv_aload_n hx hb dX7_year_123 rfl (lv_at hl 1 rfl) ?_
                refine gO (T := TX7) C0 inA7 hK hP (xMain g) rfl 1 (by decide) (hts _ q264) (v := .ref (g.1 1 6)) rfl dX7_year_124 ?_
                refine gO (T := TX2) C0 inA2 hK hP (xOwner g (by decide)) rfl 6 (by decide) (hts _ q125) (v := .int (zS11.1 1 6 5)) rfl dX7_year_127 ?_
                exact ri hQ C0 hr hlocks hK hP hS (by rw [← hF]; exact fin2 hf) dX7_year_130
              · have hf := hf.trans (if_neg zc14)
                refine lv_lookup (off := 46) (tgt := 131) hx hb dX7_year_85 (by decide) ((lv_osw zc13 (by decide)).trans ((lv_osw zc14 (by decide)).trans rfl)) (by decide) ?_
                refine lv_aload_n hx hb dX7_year_131 rfl (lv_at hl 1 rfl) ?_
                refine gO (T := TX7) C0 inA7 hK hP (xMain g) rfl 1 (by decide) (hts _ q264) (v := .ref (g.1 1 6)) rfl dX7_year_132 ?_
                refine kiP (va_runV (As := []) (rest := []) C0 (kX2_countAfloat l g A hA zS11 1 (by decide)) (cwV 0 hts (gV q642 q643 q644 q47 q645) rfl rfl rfl (by decide +kernel) ⟨Nat.le_of_ble_eq_true rfl, Nat.le_of_ble_eq_true rfl⟩) (preV (recO (xOwner g (by decide)) hP hK rfl) hP hK) rfl rfl hl.1 rfl (lv_room (Nat.le_of_ble_eq_true rfl)) dX7_year_135 ⟨Nat.zero_le _, Nat.zero_le _⟩) hS (fun _ h => h) (fun H locs hP hS => ?_)
                exact ri hQ C0 hr hlocks hK hP hS (by rw [← hF]; exact fin2 hf) dX7_year_138
          | succ zk9 ih50 =>
            intro zi8 zx10 zS11 H locs hik hf hP hS ls hl
            rw [LX7_year_50] at hf
            refine lv_iload hx hb dX7_year_50 (lv_at hl 0 rfl) ?_
            refine lv_iload_n hx hb dX7_year_52 rfl (lv_at hl 3 rfl) ?_
            refine lv_icmp_ge (tgt := 84) hx hb dX7_year_53 (by decide) (fun zc15 => absurd zc15 (up_sge1 hik)) (fun zc15 => ?_)
            refine lv_bipush (v := 75) hx hb dX7_year_56 (by decide) ?_
            refine lv_iload hx hb dX7_year_58 (lv_at hl 5 rfl) ?_
            refine lv_imul hx hb dX7_year_60 ?_
            refine lv_bipush (v := 74) hx hb dX7_year_61 (by decide) ?_
            refine lv_iadd hx hb dX7_year_63 ?_
            refine lv_ldc (v := 65537) hx hb hown (hts _ q631) dX7_year_64 ?_
            refine kirem hx hb dX7_year_66 (by decide) ?_
            refine lv_istore (lv' := [(4, .int (irm ((75 * zx10) + 74) 65537)), (5, .int (nI zi8)), (0, .ref (g.1 12 0)), (1, .int p1), (2, .int p2), (3, .int p3)]) hx hb dX7_year_67 hl (by decide) rfl (fun ls hl => ?_)
            refine lv_aload_n hx hb dX7_year_69 rfl (lv_at hl 2 rfl) ?_
            refine gO (T := TX7) C0 inA7 hK hP (xMain g) rfl 1 (by decide) (hts _ q264) (v := .ref (g.1 1 6)) rfl dX7_year_70 ?_
            refine lv_iload hx hb dX7_year_73 (lv_at hl 0 rfl) ?_
            refine kv (va_runV (As := [.int (irm ((75 * zx10) + 74) 65537)]) (rest := []) C0 (kX2_actAsDrawn l g A hA zS11 1 (irm ((75 * zx10) + 74) 65537) (by decide)) (cwV 1 hts (gV q632 q633 q634 q47 q635) rfl rfl rfl (by decide +kernel) ⟨Nat.le_of_ble_eq_true rfl, Nat.le_of_ble_eq_true rfl⟩) (preV (recO (xOwner g (by decide)) hP hK rfl) hP hK) rfl rfl hl.1 rfl (lv_room (Nat.le_of_ble_eq_true rfl)) dX7_year_75 ⟨Nat.zero_le _, Nat.zero_le _⟩) hS (fun _ h => h) (fun zS16 H locs hw hP hS => ?_)
            have hf := hf.trans (bnd_eq hw)
            refine lv_iinc (v := (nI (zi8 + 1))) (lv' := [(5, .int (nI (zi8 + 1))), (4, .int (irm ((75 * zx10) + 74) 65537)), (0, .ref (g.1 12 0)), (1, .int p1), (2, .int p2), (3, .int p3)]) hx hb dX7_year_78 hl (k := 1) rfl (nI_1 _) (by decide) rfl (fun ls hl => ?_)
            refine lv_goto (tgt := 50) hx hb dX7_year_81 (by decide) ?_
            exact ih50 (zi8 + 1) (irm ((75 * zx10) + 74) 65537) zS16 _ _ (by omega) hf hP hS ls (lv_sub hl [0, 2, 3, 4, 5, 1] rfl)
        exact lp50 (Int32.toNatClampNeg p2) 0 p1 zS7 _ _ (Nat.zero_add _) hf hP hS ls (lv_sub hl [0, 2, 3, 4, 5, 1] rfl)
      · have hf := hf.trans (if_neg zc5)
        refine lv_if_ne (tgt := 33) hx hb dX7_year_27 (by decide) (fun zc17 => absurd (by decide) zc17) (fun zc17 => ?_)
        refine lv_bipush (v := (-2)) hx hb dX7_year_30 (by decide) ?_
        exact ri hQ C0 hr hlocks hK hP hS (by rw [← hF]; exact fin2 hf) dX7_year_32
    · have hf := hf.trans (if_neg zc3)
      refine lv_if_eq (tgt := 30) hx hb dX7_year_18 (by decide) (fun zc18 => ?_) (fun zc18 => absurd (by decide) zc18)
      refine lv_bipush (v := (-2)) hx hb dX7_year_30 (by decide) ?_
      exact ri hQ C0 hr hlocks hK hP hS (by rw [← hF]; exact fin2 hf) dX7_year_32
  · have hf := hf.trans (if_neg zc1)
    refine lv_if_eq (tgt := 30) hx hb dX7_year_8 (by decide) (fun zc19 => ?_) (fun zc19 => absurd (by decide) zc19)
    refine lv_bipush (v := (-2)) hx hb dX7_year_30 (by decide) ?_
    exact ri hQ C0 hr hlocks hK hP hS (by rw [← hF]; exact fin2 hf) dX7_year_32
def tX7_image (S : St) (p1 : Int32) : Int32 × St :=
  (if ikc p1 then (bnd (tX2_copyFrom S ((Int32.toNatClampNeg p1) + 2) 0) (fun zS2 => (bnd (tX5_copyFrom zS2 ((Int32.toNatClampNeg p1) + 1) 0) (fun zS3 => (1, (up zS3 (10 + (Int32.toNatClampNeg p1)) 0 0 1)))))) else ((-2), S))
set_option maxHeartbeats 4000000 in
set_option maxRecDepth 100000 in
theorem kX7_image (l : Launch) (g : Gd) (A : Nat → Prop) (hA : Ads g.1 VX A) (S : St) (p1 : Int32) : Met l yX7_image (wU yX7_image cX7_image 3 (some .int)) { frames := 3, cells := 0, slots := 0, locals := 67 } (va_Pc [.ref (g.1 12 0), .int p1] (PW VX ctX g S)) (va_Qi (fun r u => r = (tX7_image S p1).1 ∧ u = (tX7_image S p1).2) (fun u U => PW VX ctX g u U) A) 0 0 A := by
  refine ent (cc := cX7_image) (maxL := 3) (ret := (some .int)) (by decide) (Nat.le_of_ble_eq_true rfl) ?_
  intro p e s m below meth c args Q C0 hr hlocks hP hK hQ ls hl
  have hx := C0.1
  have hb := C0.2.1
  have hml := C0.2.2.1
  have hown := C0.2.2.2.1
  have hts := C0.2.2.2.2
  obtain ⟨F, hF⟩ : ∃ F : Int32 × St, F = tX7_image S p1 := ⟨_, rfl⟩
  have hf := hF
  unfold tX7_image at hf
  have hS : va_S A s.heap s.heap [] := va_S.rf
  have hl : lv_has ls 3 [(0, .ref (g.1 12 0)), (1, .int p1)] := hl
  refine lv_aload_n hx hb dX7_image_0 rfl (lv_at hl 0 rfl) ?_
  refine lv_iload_n hx hb dX7_image_1 rfl (lv_at hl 1 rfl) ?_
  refine kqc (va_runV (As := [.int p1]) (rest := []) C0 (kX7_imageAt l g A hA S p1) (cwV 1 hts (gV q650 q652 q12 q46 q653) rfl rfl rfl (by decide +kernel) ⟨Nat.le_of_ble_eq_true rfl, Nat.le_of_ble_eq_true rfl⟩) (preV (recO (xMain g) hP hK rfl) hP hK) rfl rfl hl.1 rfl (lv_room (Nat.le_of_ble_eq_true rfl)) dX7_image_2 ⟨Nat.zero_le _, Nat.zero_le _⟩) hS (fun _ h => h) (fun zc1 H locs hP hS => ?_) (fun zc1 H locs hP hS => ?_)
  · have hf := hf.trans (if_pos zc1)
    refine lv_astore_n (lv' := [(2, .ref (g.1 (10 + (Int32.toNatClampNeg p1)) 0)), (0, .ref (g.1 12 0)), (1, .int p1)]) hx hb dX7_image_5 rfl hl (by decide) rfl (fun ls hl => ?_)
    refine lv_aload_n hx hb dX7_image_6 rfl (lv_at hl 0 rfl) ?_
    refine lv_ifnonnull (tgt := 13) hx hb dX7_image_7 (by decide) ?_
    refine lv_aload_n hx hb dX7_image_13 rfl (lv_at hl 0 rfl) ?_
    refine gO (T := TX0) C0 inA0 hK hP (xImg g (ikc_lt zc1)) rfl 1 (by decide) (hts _ q253) (v := .ref (g.1 ((Int32.toNatClampNeg p1) + 2) 6)) rfl dX7_image_14 ?_
    refine lv_aload_n hx hb dX7_image_17 rfl (lv_at hl 1 rfl) ?_
    refine gO (T := TX7) C0 inA7 hK hP (xMain g) rfl 0 (by decide) (hts _ q263) (v := .ref (g.1 0 6)) rfl dX7_image_18 ?_
    refine kv (va_runV (As := [.ref (g.1 0 6)]) (rest := []) C0 (kX2_copyFrom l g A hA S ((Int32.toNatClampNeg p1) + 2) 0 (show (Int32.toNatClampNeg p1) + 2 < 4 by have := (ikc_lt zc1); omega) (by decide)) (cwV 1 hts (gV q390 q391 q392 q47 q393) rfl rfl rfl (by decide +kernel) ⟨Nat.le_of_ble_eq_true rfl, Nat.le_of_ble_eq_true rfl⟩) (preV (recO (xOwner g (show (Int32.toNatClampNeg p1) + 2 < 4 by have := (ikc_lt zc1); omega)) hP hK rfl) hP hK) rfl rfl hl.1 rfl (lv_room (Nat.le_of_ble_eq_true rfl)) dX7_image_21 ⟨Nat.zero_le _, Nat.zero_le _⟩) hS (fun _ h => h) (fun zS2 H locs hw hP hS => ?_)
    have hf := hf.trans (bnd_eq hw)
    refine lv_aload_n hx hb dX7_image_24 rfl (lv_at hl 0 rfl) ?_
    refine gO (T := TX0) C0 inA0 hK hP (xImg g (ikc_lt zc1)) rfl 2 (by decide) (hts _ q255) (v := .ref (g.1 (6 + ((Int32.toNatClampNeg p1) + 1)) 0)) rfl dX7_image_25 ?_
    refine lv_aload_n hx hb dX7_image_28 rfl (lv_at hl 1 rfl) ?_
    refine gO (T := TX7) C0 inA7 hK hP (xMain g) rfl 4 (by decide) (hts _ q267) (v := .ref (g.1 (6 + 0) 0)) rfl dX7_image_29 ?_
    refine kv (va_runV (As := [.ref (g.1 (6 + 0) 0)]) (rest := []) C0 (kX5_copyFrom l g A hA zS2 ((Int32.toNatClampNeg p1) + 1) 0 (show (Int32.toNatClampNeg p1) + 1 < 3 by have := (ikc_lt zc1); omega) (by decide)) (cwV 1 hts (gV q654 q655 q656 q51 q657) rfl rfl rfl (by decide +kernel) ⟨Nat.le_of_ble_eq_true rfl, Nat.le_of_ble_eq_true rfl⟩) (preV (recO (xTales g (show (Int32.toNatClampNeg p1) + 1 < 3 by have := (ikc_lt zc1); omega)) hP hK rfl) hP hK) rfl rfl hl.1 rfl (lv_room (Nat.le_of_ble_eq_true rfl)) dX7_image_32 ⟨Nat.zero_le _, Nat.zero_le _⟩) hS (fun _ h => h) (fun zS3 H locs hw hP hS => ?_)
    have hf := hf.trans (bnd_eq hw)
    refine lv_aload_n hx hb dX7_image_35 rfl (lv_at hl 0 rfl) ?_
    refine lv_iconst (v := 1) hx hb dX7_image_36 (by decide) ?_
    refine pO (T := TX0) (ty0 := tyX0) locX C0 inA0 tyX0_ok nmX0 hK hP hA hS (xImg g (ikc_lt zc1)) rfl 0 (by decide) (hts _ q251) rfl 0 1 rfl rfl rfl (Nat.le_of_ble_eq_true rfl) dX7_image_37 (fun H locs hP hS => ?_)
    refine lv_iconst (v := 1) hx hb dX7_image_40 (by decide) ?_
    exact ri hQ C0 hr hlocks hK hP hS (by rw [← hF]; exact fin2 hf) dX7_image_41
  · have hf := hf.trans (if_neg zc1)
    refine lv_astore_nN (lv' := [(2, .null), (0, .ref (g.1 12 0)), (1, .int p1)]) hx hb dX7_image_5 rfl hl (by decide) rfl (fun ls hl => ?_)
    refine lv_aload_nN hx hb dX7_image_6 rfl (lv_at hl 0 rfl) ?_
    refine lv_ifnonnullN hx hb dX7_image_7 ?_
    refine lv_bipush (v := (-2)) hx hb dX7_image_10 (by decide) ?_
    exact ri hQ C0 hr hlocks hK hP hS (by rw [← hF]; exact fin2 hf) dX7_image_12
def tX7_restore (S : St) (p1 : Int32) : Int32 × St :=
  (if ikc p1 then (if (b01 (S.1 (10 + (Int32.toNatClampNeg p1)) 0 0)) = 0 then ((-3), S) else (bnd (tX2_copyFrom S 0 ((Int32.toNatClampNeg p1) + 2)) (fun zS3 => (bnd (tX5_copyFrom zS3 0 ((Int32.toNatClampNeg p1) + 1)) (fun zS4 => (1, zS4)))))) else ((-2), S))
set_option maxHeartbeats 4000000 in
set_option maxRecDepth 100000 in
theorem kX7_restore (l : Launch) (g : Gd) (A : Nat → Prop) (hA : Ads g.1 VX A) (S : St) (p1 : Int32) : Met l yX7_restore (wU yX7_restore cX7_restore 3 (some .int)) { frames := 3, cells := 0, slots := 0, locals := 67 } (va_Pc [.ref (g.1 12 0), .int p1] (PW VX ctX g S)) (va_Qi (fun r u => r = (tX7_restore S p1).1 ∧ u = (tX7_restore S p1).2) (fun u U => PW VX ctX g u U) A) 0 0 A := by
  refine ent (cc := cX7_restore) (maxL := 3) (ret := (some .int)) (by decide) (Nat.le_of_ble_eq_true rfl) ?_
  intro p e s m below meth c args Q C0 hr hlocks hP hK hQ ls hl
  have hx := C0.1
  have hb := C0.2.1
  have hml := C0.2.2.1
  have hown := C0.2.2.2.1
  have hts := C0.2.2.2.2
  obtain ⟨F, hF⟩ : ∃ F : Int32 × St, F = tX7_restore S p1 := ⟨_, rfl⟩
  have hf := hF
  unfold tX7_restore at hf
  have hS : va_S A s.heap s.heap [] := va_S.rf
  have hl : lv_has ls 3 [(0, .ref (g.1 12 0)), (1, .int p1)] := hl
  refine lv_aload_n hx hb dX7_restore_0 rfl (lv_at hl 0 rfl) ?_
  refine lv_iload_n hx hb dX7_restore_1 rfl (lv_at hl 1 rfl) ?_
  refine kqc (va_runV (As := [.int p1]) (rest := []) C0 (kX7_imageAt l g A hA S p1) (cwV 1 hts (gV q650 q652 q12 q46 q653) rfl rfl rfl (by decide +kernel) ⟨Nat.le_of_ble_eq_true rfl, Nat.le_of_ble_eq_true rfl⟩) (preV (recO (xMain g) hP hK rfl) hP hK) rfl rfl hl.1 rfl (lv_room (Nat.le_of_ble_eq_true rfl)) dX7_restore_2 ⟨Nat.zero_le _, Nat.zero_le _⟩) hS (fun _ h => h) (fun zc1 H locs hP hS => ?_) (fun zc1 H locs hP hS => ?_)
  · have hf := hf.trans (if_pos zc1)
    refine lv_astore_n (lv' := [(2, .ref (g.1 (10 + (Int32.toNatClampNeg p1)) 0)), (0, .ref (g.1 12 0)), (1, .int p1)]) hx hb dX7_restore_5 rfl hl (by decide) rfl (fun ls hl => ?_)
    refine lv_aload_n hx hb dX7_restore_6 rfl (lv_at hl 0 rfl) ?_
    refine lv_ifnonnull (tgt := 13) hx hb dX7_restore_7 (by decide) ?_
    refine lv_aload_n hx hb dX7_restore_13 rfl (lv_at hl 0 rfl) ?_
    refine gO (T := TX0) C0 inA0 hK hP (xImg g (ikc_lt zc1)) rfl 0 (by decide) (hts _ q251) (v := .int (b01 (S.1 (10 + (Int32.toNatClampNeg p1)) 0 0))) rfl dX7_restore_14 ?_
    refine lv_if_ne (tgt := 23) hx hb dX7_restore_17 (by decide) (fun zc2 => ?_) (fun zc2 => ?_)
    · have hf := hf.trans (if_neg zc2)
      refine lv_aload_n hx hb dX7_restore_23 rfl (lv_at hl 1 rfl) ?_
      refine gO (T := TX7) C0 inA7 hK hP (xMain g) rfl 0 (by decide) (hts _ q263) (v := .ref (g.1 0 6)) rfl dX7_restore_24 ?_
      refine lv_aload_n hx hb dX7_restore_27 rfl (lv_at hl 0 rfl) ?_
      refine gO (T := TX0) C0 inA0 hK hP (xImg g (ikc_lt zc1)) rfl 1 (by decide) (hts _ q253) (v := .ref (g.1 ((Int32.toNatClampNeg p1) + 2) 6)) rfl dX7_restore_28 ?_
      refine kv (va_runV (As := [.ref (g.1 ((Int32.toNatClampNeg p1) + 2) 6)]) (rest := []) C0 (kX2_copyFrom l g A hA S 0 ((Int32.toNatClampNeg p1) + 2) (by decide) (show (Int32.toNatClampNeg p1) + 2 < 4 by have := (ikc_lt zc1); omega)) (cwV 1 hts (gV q390 q391 q392 q47 q393) rfl rfl rfl (by decide +kernel) ⟨Nat.le_of_ble_eq_true rfl, Nat.le_of_ble_eq_true rfl⟩) (preV (recO (xOwner g (by decide)) hP hK rfl) hP hK) rfl rfl hl.1 rfl (lv_room (Nat.le_of_ble_eq_true rfl)) dX7_restore_31 ⟨Nat.zero_le _, Nat.zero_le _⟩) hS (fun _ h => h) (fun zS3 H locs hw hP hS => ?_)
      have hf := hf.trans (bnd_eq hw)
      refine lv_aload_n hx hb dX7_restore_34 rfl (lv_at hl 1 rfl) ?_
      refine gO (T := TX7) C0 inA7 hK hP (xMain g) rfl 4 (by decide) (hts _ q267) (v := .ref (g.1 (6 + 0) 0)) rfl dX7_restore_35 ?_
      refine lv_aload_n hx hb dX7_restore_38 rfl (lv_at hl 0 rfl) ?_
      refine gO (T := TX0) C0 inA0 hK hP (xImg g (ikc_lt zc1)) rfl 2 (by decide) (hts _ q255) (v := .ref (g.1 (6 + ((Int32.toNatClampNeg p1) + 1)) 0)) rfl dX7_restore_39 ?_
      refine kv (va_runV (As := [.ref (g.1 (6 + ((Int32.toNatClampNeg p1) + 1)) 0)]) (rest := []) C0 (kX5_copyFrom l g A hA zS3 0 ((Int32.toNatClampNeg p1) + 1) (by decide) (show (Int32.toNatClampNeg p1) + 1 < 3 by have := (ikc_lt zc1); omega)) (cwV 1 hts (gV q654 q655 q656 q51 q657) rfl rfl rfl (by decide +kernel) ⟨Nat.le_of_ble_eq_true rfl, Nat.le_of_ble_eq_true rfl⟩) (preV (recO (xTales g (by decide)) hP hK rfl) hP hK) rfl rfl hl.1 rfl (lv_room (Nat.le_of_ble_eq_true rfl)) dX7_restore_42 ⟨Nat.zero_le _, Nat.zero_le _⟩) hS (fun _ h => h) (fun zS4 H locs hw hP hS => ?_)
      have hf := hf.trans (bnd_eq hw)
      refine lv_iconst (v := 1) hx hb dX7_restore_45 (by decide) ?_
      exact ri hQ C0 hr hlocks hK hP hS (by rw [← hF]; exact fin2 hf) dX7_restore_46
    · have hf := hf.trans (if_pos zc2)
      refine lv_bipush (v := (-3)) hx hb dX7_restore_20 (by decide) ?_
      exact ri hQ C0 hr hlocks hK hP hS (by rw [← hF]; exact fin2 hf) dX7_restore_22
  · have hf := hf.trans (if_neg zc1)
    refine lv_astore_nN (lv' := [(2, .null), (0, .ref (g.1 12 0)), (1, .int p1)]) hx hb dX7_restore_5 rfl hl (by decide) rfl (fun ls hl => ?_)
    refine lv_aload_nN hx hb dX7_restore_6 rfl (lv_at hl 0 rfl) ?_
    refine lv_ifnonnullN hx hb dX7_restore_7 ?_
    refine lv_bipush (v := (-2)) hx hb dX7_restore_10 (by decide) ?_
    exact ri hQ C0 hr hlocks hK hP hS (by rw [← hF]; exact fin2 hf) dX7_restore_12
def tX7_told (S : St) (p1 : Int32) : Int32 :=
  (if p1 < 10 then (if p1 = 0 then (S.1 4 0 0) else (if p1 = 1 then (tX2_bitsThere S 0) else (if p1 = 2 then (S.1 0 6 0) else (if p1 = 3 then (S.1 0 6 1) else (if p1 = 4 then (S.1 0 6 2) else (if p1 = 5 then (S.1 0 6 3) else (if p1 = 6 then (S.1 (6 + 0) 0 0) else (if p1 = 7 then (S.1 0 6 5) else (if p1 = 8 then ((S.1 0 6 4) + 100000) else (-2)))))))))) else (if isAt S 0 ((p1 / 10) - 1) then (tX7_toldOf S 0 (Int32.toNatClampNeg ((p1 / 10) - 1)) (irm p1 10)) else (-2)))
set_option maxHeartbeats 4000000 in
set_option maxRecDepth 100000 in
theorem kX7_told (l : Launch) (g : Gd) (A : Nat → Prop) (hA : Ads g.1 VX A) (S : St) (p1 : Int32) : Met l yX7_told (wU yX7_told cX7_told 3 (some .int)) { frames := 3, cells := 0, slots := 0, locals := 65 } (va_Pc [.ref (g.1 12 0), .int p1] (PW VX ctX g S)) (va_Qi (fun r u => r = tX7_told S p1 ∧ u = S) (fun u U => PW VX ctX g u U) A) 0 0 A := by
  refine ent (cc := cX7_told) (maxL := 3) (ret := (some .int)) (by decide) (Nat.le_of_ble_eq_true rfl) ?_
  intro p e s m below meth c args Q C0 hr hlocks hP hK hQ ls hl
  have hx := C0.1
  have hb := C0.2.1
  have hml := C0.2.2.1
  have hown := C0.2.2.2.1
  have hts := C0.2.2.2.2
  obtain ⟨F, hF⟩ : ∃ F : Int32, F = tX7_told S p1 := ⟨_, rfl⟩
  have hf := hF
  unfold tX7_told at hf
  have hS : va_S A s.heap s.heap [] := va_S.rf
  have hl : lv_has ls 3 [(0, .ref (g.1 12 0)), (1, .int p1)] := hl
  refine lv_iload_n hx hb dX7_told_0 rfl (lv_at hl 1 rfl) ?_
  refine lv_bipush (v := 10) hx hb dX7_told_1 (by decide) ?_
  refine lv_icmp_lt (tgt := 38) hx hb dX7_told_3 (by decide) (fun zc1 => ?_) (fun zc1 => ?_)
  · have hf := hf.trans (if_pos zc1)
    refine lv_iload_n hx hb dX7_told_38 rfl (lv_at hl 1 rfl) ?_
    by_cases zc2 : p1 = 0
    · have hf := hf.trans (if_pos zc2)
      refine lv_tableIn (off := 49) (tgt := 88) hx hb dX7_told_39 (by rw [zc2]; decide) (by rw [zc2]; decide) (by rw [zc2]; decide) (by decide) ?_
      refine lv_aload_n hx hb dX7_told_88 rfl (lv_at hl 0 rfl) ?_
      refine gO (T := TX7) C0 inA7 hK hP (xMain g) rfl 2 (by decide) (hts _ q265) (v := .ref (g.1 4 0)) rfl dX7_told_89 ?_
      refine gO (T := TX3) C0 inA3 hK hP (xPad g) rfl 1 (by decide) (hts _ q150) (v := .int (S.1 4 0 0)) rfl dX7_told_92 ?_
      exact ri hQ C0 hr hlocks hK hP hS (by rw [← hF]; exact ⟨hf.symm, rfl⟩) dX7_told_95
    · have hf := hf.trans (if_neg zc2)
      by_cases zc3 : p1 = 1
      · have hf := hf.trans (if_pos zc3)
        refine lv_tableIn (off := 57) (tgt := 96) hx hb dX7_told_39 (by rw [zc3]; decide) (by rw [zc3]; decide) (by rw [zc3]; decide) (by decide) ?_
        refine lv_aload_n hx hb dX7_told_96 rfl (lv_at hl 0 rfl) ?_
        refine gO (T := TX7) C0 inA7 hK hP (xMain g) rfl 0 (by decide) (hts _ q263) (v := .ref (g.1 0 6)) rfl dX7_told_97 ?_
        refine kiP (va_runV (As := []) (rest := []) C0 (kX2_bitsThere l g A hA S 0 (by decide)) (cwV 0 hts (gV q669 q309 q310 q47 q311) rfl rfl rfl (by decide +kernel) ⟨Nat.le_of_ble_eq_true rfl, Nat.le_of_ble_eq_true rfl⟩) (preV (recO (xOwner g (by decide)) hP hK rfl) hP hK) rfl rfl hl.1 rfl (lv_room (Nat.le_of_ble_eq_true rfl)) dX7_told_100 ⟨Nat.zero_le _, Nat.zero_le _⟩) hS (fun _ h => h) (fun H locs hP hS => ?_)
        exact ri hQ C0 hr hlocks hK hP hS (by rw [← hF]; exact ⟨hf.symm, rfl⟩) dX7_told_103
      · have hf := hf.trans (if_neg zc3)
        by_cases zc4 : p1 = 2
        · have hf := hf.trans (if_pos zc4)
          refine lv_tableIn (off := 65) (tgt := 104) hx hb dX7_told_39 (by rw [zc4]; decide) (by rw [zc4]; decide) (by rw [zc4]; decide) (by decide) ?_
          refine lv_aload_n hx hb dX7_told_104 rfl (lv_at hl 0 rfl) ?_
          refine gO (T := TX7) C0 inA7 hK hP (xMain g) rfl 0 (by decide) (hts _ q263) (v := .ref (g.1 0 6)) rfl dX7_told_105 ?_
          refine gO (T := TX2) C0 inA2 hK hP (xOwner g (by decide)) rfl 1 (by decide) (hts _ q115) (v := .int (S.1 0 6 0)) rfl dX7_told_108 ?_
          exact ri hQ C0 hr hlocks hK hP hS (by rw [← hF]; exact ⟨hf.symm, rfl⟩) dX7_told_111
        · have hf := hf.trans (if_neg zc4)
          by_cases zc5 : p1 = 3
          · have hf := hf.trans (if_pos zc5)
            refine lv_tableIn (off := 73) (tgt := 112) hx hb dX7_told_39 (by rw [zc5]; decide) (by rw [zc5]; decide) (by rw [zc5]; decide) (by decide) ?_
            refine lv_aload_n hx hb dX7_told_112 rfl (lv_at hl 0 rfl) ?_
            refine gO (T := TX7) C0 inA7 hK hP (xMain g) rfl 0 (by decide) (hts _ q263) (v := .ref (g.1 0 6)) rfl dX7_told_113 ?_
            refine gO (T := TX2) C0 inA2 hK hP (xOwner g (by decide)) rfl 2 (by decide) (hts _ q117) (v := .int (S.1 0 6 1)) rfl dX7_told_116 ?_
            exact ri hQ C0 hr hlocks hK hP hS (by rw [← hF]; exact ⟨hf.symm, rfl⟩) dX7_told_119
          · have hf := hf.trans (if_neg zc5)
            by_cases zc6 : p1 = 4
            · have hf := hf.trans (if_pos zc6)
              refine lv_tableIn (off := 81) (tgt := 120) hx hb dX7_told_39 (by rw [zc6]; decide) (by rw [zc6]; decide) (by rw [zc6]; decide) (by decide) ?_
              refine lv_aload_n hx hb dX7_told_120 rfl (lv_at hl 0 rfl) ?_
              refine gO (T := TX7) C0 inA7 hK hP (xMain g) rfl 0 (by decide) (hts _ q263) (v := .ref (g.1 0 6)) rfl dX7_told_121 ?_
              refine gO (T := TX2) C0 inA2 hK hP (xOwner g (by decide)) rfl 3 (by decide) (hts _ q119) (v := .int (S.1 0 6 2)) rfl dX7_told_124 ?_
              exact ri hQ C0 hr hlocks hK hP hS (by rw [← hF]; exact ⟨hf.symm, rfl⟩) dX7_told_127
            · have hf := hf.trans (if_neg zc6)
              by_cases zc7 : p1 = 5
              · have hf := hf.trans (if_pos zc7)
                refine lv_tableIn (off := 89) (tgt := 128) hx hb dX7_told_39 (by rw [zc7]; decide) (by rw [zc7]; decide) (by rw [zc7]; decide) (by decide) ?_
                refine lv_aload_n hx hb dX7_told_128 rfl (lv_at hl 0 rfl) ?_
                refine gO (T := TX7) C0 inA7 hK hP (xMain g) rfl 0 (by decide) (hts _ q263) (v := .ref (g.1 0 6)) rfl dX7_told_129 ?_
                refine gO (T := TX2) C0 inA2 hK hP (xOwner g (by decide)) rfl 4 (by decide) (hts _ q121) (v := .int (S.1 0 6 3)) rfl dX7_told_132 ?_
                exact ri hQ C0 hr hlocks hK hP hS (by rw [← hF]; exact ⟨hf.symm, rfl⟩) dX7_told_135
              · have hf := hf.trans (if_neg zc7)
                by_cases zc8 : p1 = 6
                · have hf := hf.trans (if_pos zc8)
                  refine lv_tableIn (off := 97) (tgt := 136) hx hb dX7_told_39 (by rw [zc8]; decide) (by rw [zc8]; decide) (by rw [zc8]; decide) (by decide) ?_
                  refine lv_aload_n hx hb dX7_told_136 rfl (lv_at hl 0 rfl) ?_
                  refine gO (T := TX7) C0 inA7 hK hP (xMain g) rfl 4 (by decide) (hts _ q267) (v := .ref (g.1 (6 + 0) 0)) rfl dX7_told_137 ?_
                  refine gO (T := TX5) C0 inA5 hK hP (xTales g (by decide)) rfl 3 (by decide) (hts _ q205) (v := .int (S.1 (6 + 0) 0 0)) rfl dX7_told_140 ?_
                  exact ri hQ C0 hr hlocks hK hP hS (by rw [← hF]; exact ⟨hf.symm, rfl⟩) dX7_told_143
                · have hf := hf.trans (if_neg zc8)
                  by_cases zc9 : p1 = 7
                  · have hf := hf.trans (if_pos zc9)
                    refine lv_tableIn (off := 105) (tgt := 144) hx hb dX7_told_39 (by rw [zc9]; decide) (by rw [zc9]; decide) (by rw [zc9]; decide) (by decide) ?_
                    refine lv_aload_n hx hb dX7_told_144 rfl (lv_at hl 0 rfl) ?_
                    refine gO (T := TX7) C0 inA7 hK hP (xMain g) rfl 0 (by decide) (hts _ q263) (v := .ref (g.1 0 6)) rfl dX7_told_145 ?_
                    refine gO (T := TX2) C0 inA2 hK hP (xOwner g (by decide)) rfl 6 (by decide) (hts _ q125) (v := .int (S.1 0 6 5)) rfl dX7_told_148 ?_
                    exact ri hQ C0 hr hlocks hK hP hS (by rw [← hF]; exact ⟨hf.symm, rfl⟩) dX7_told_151
                  · have hf := hf.trans (if_neg zc9)
                    by_cases zc10 : p1 = 8
                    · have hf := hf.trans (if_pos zc10)
                      refine lv_tableIn (off := 113) (tgt := 152) hx hb dX7_told_39 (by rw [zc10]; decide) (by rw [zc10]; decide) (by rw [zc10]; decide) (by decide) ?_
                      refine lv_aload_n hx hb dX7_told_152 rfl (lv_at hl 0 rfl) ?_
                      refine gO (T := TX7) C0 inA7 hK hP (xMain g) rfl 0 (by decide) (hts _ q263) (v := .ref (g.1 0 6)) rfl dX7_told_153 ?_
                      refine gO (T := TX2) C0 inA2 hK hP (xOwner g (by decide)) rfl 5 (by decide) (hts _ q123) (v := .int (S.1 0 6 4)) rfl dX7_told_156 ?_
                      refine lv_ldc (v := 100000) hx hb hown (hts _ q474) dX7_told_159 ?_
                      refine lv_iadd hx hb dX7_told_161 ?_
                      exact ri hQ C0 hr hlocks hK hP hS (by rw [← hF]; exact ⟨hf.symm, rfl⟩) dX7_told_162
                    · have hf := hf.trans (if_neg zc10)
                      refine lv_tableOut (tgt := 163) hx hb dX7_told_39 (by have h0 := lv_neT (a := 0) zc2 (by decide); have h1 := lv_neT (a := 1) zc3 (by decide); have h2 := lv_neT (a := 2) zc4 (by decide); have h3 := lv_neT (a := 3) zc5 (by decide); have h4 := lv_neT (a := 4) zc6 (by decide); have h5 := lv_neT (a := 5) zc7 (by decide); have h6 := lv_neT (a := 6) zc8 (by decide); have h7 := lv_neT (a := 7) zc9 (by decide); have h8 := lv_neT (a := 8) zc10 (by decide); omega) (by decide) ?_
                      refine lv_bipush (v := (-2)) hx hb dX7_told_163 (by decide) ?_
                      exact ri hQ C0 hr hlocks hK hP hS (by rw [← hF]; exact ⟨hf.symm, rfl⟩) dX7_told_165
  · have hf := hf.trans (if_neg zc1)
    refine lv_aload_n hx hb dX7_told_6 rfl (lv_at hl 0 rfl) ?_
    refine gO (T := TX7) C0 inA7 hK hP (xMain g) rfl 0 (by decide) (hts _ q263) (v := .ref (g.1 0 6)) rfl dX7_told_7 ?_
    refine lv_iload_n hx hb dX7_told_10 rfl (lv_at hl 1 rfl) ?_
    refine lv_bipush (v := 10) hx hb dX7_told_11 (by decide) ?_
    refine lv_idiv hx hb dX7_told_13 (by decide) ?_
    refine lv_iconst (v := 1) hx hb dX7_told_14 (by decide) ?_
    refine lv_isub hx hb dX7_told_15 ?_
    refine kqc (va_runV (As := [.int ((p1 / 10) - 1)]) (rest := []) C0 (kX2_shipAt l g A hA S 0 ((p1 / 10) - 1) (by decide)) (cwV 1 hts (gV q327 q313 q314 q47 q315) rfl rfl rfl (by decide +kernel) ⟨Nat.le_of_ble_eq_true rfl, Nat.le_of_ble_eq_true rfl⟩) (preV (recO (xOwner g (by decide)) hP hK rfl) hP hK) rfl rfl hl.1 rfl (lv_room (Nat.le_of_ble_eq_true rfl)) dX7_told_16 ⟨Nat.zero_le _, Nat.zero_le _⟩) hS (fun _ h => h) (fun zc11 H locs hP hS => ?_) (fun zc11 H locs hP hS => ?_)
    · have hf := hf.trans (if_pos zc11)
      refine lv_astore_n (lv' := [(2, .ref (g.1 0 (Int32.toNatClampNeg ((p1 / 10) - 1)))), (0, .ref (g.1 12 0)), (1, .int p1)]) hx hb dX7_told_19 rfl hl (by decide) rfl (fun ls hl => ?_)
      refine lv_aload_n hx hb dX7_told_20 rfl (lv_at hl 0 rfl) ?_
      refine lv_ifnonnull (tgt := 29) hx hb dX7_told_21 (by decide) ?_
      refine lv_aload_n hx hb dX7_told_29 rfl (lv_at hl 0 rfl) ?_
      refine lv_iload_n hx hb dX7_told_30 rfl (lv_at hl 2 rfl) ?_
      refine lv_bipush (v := 10) hx hb dX7_told_31 (by decide) ?_
      refine kirem hx hb dX7_told_33 (by decide) ?_
      refine kiP (va_runS (As := [.ref (g.1 0 (Int32.toNatClampNeg ((p1 / 10) - 1))), .int (irm p1 10)]) (rest := []) C0 (kX7_toldOf l g A hA S 0 (Int32.toNatClampNeg ((p1 / 10) - 1)) (irm p1 10) (by decide) (plc_lt zc11.1)) (va_cwS 2 hts (gS q666 q667 q46 q668) rfl rfl rfl (by decide +kernel) ⟨Nat.le_of_ble_eq_true rfl, Nat.le_of_ble_eq_true rfl⟩) (preS hP hK) rfl rfl hl.1 rfl (lv_room (Nat.le_of_ble_eq_true rfl)) dX7_told_34 ⟨Nat.zero_le _, Nat.zero_le _⟩) hS (fun _ h => h) (fun H locs hP hS => ?_)
      exact ri hQ C0 hr hlocks hK hP hS (by rw [← hF]; exact ⟨hf.symm, rfl⟩) dX7_told_37
    · have hf := hf.trans (if_neg zc11)
      refine lv_astore_nN (lv' := [(2, .null), (0, .ref (g.1 12 0)), (1, .int p1)]) hx hb dX7_told_19 rfl hl (by decide) rfl (fun ls hl => ?_)
      refine lv_aload_nN hx hb dX7_told_20 rfl (lv_at hl 0 rfl) ?_
      refine lv_ifnonnullN hx hb dX7_told_21 ?_
      refine lv_bipush (v := (-2)) hx hb dX7_told_24 (by decide) ?_
      refine lv_goto (tgt := 37) hx hb dX7_told_26 (by decide) ?_
      exact ri hQ C0 hr hlocks hK hP hS (by rw [← hF]; exact ⟨hf.symm, rfl⟩) dX7_told_37
