theorem tX7_within_tree (g : Gd) (S : St) (p1 : Int32) (p2 : Int32) (p3 : Int32) : ((if wi p1 p2 p3 then 1 else 0) : Int32) =
  (if p1 < p2 then 0 else (if p3 < p1 then 0 else 1)) := by
  repeat' split
  all_goals first | rfl | (simp_all; done) | (exfalso; simp only [wi, plc, ikc, art, Int32.lt_iff_toInt_lt, Int32.le_iff_toInt_le, ti0, ti1, ti2, ti3, ti6, ti8] at *; omega)
set_option maxHeartbeats 4000000 in
set_option maxRecDepth 100000 in
theorem kX7_within (l : Launch) (g : Gd) (A : Nat → Prop) (hA : Ads g.1 VX A) (S : St) (p1 : Int32) (p2 : Int32) (p3 : Int32) : Met l yX7_within (wU yX7_within cX7_within 3 (some .boolean)) { frames := 0, cells := 0, slots := 0, locals := 0 } (va_Pc [.int p1, .int p2, .int p3] (PW VX ctX g S)) (va_Qi (fun r u => r = (if wi p1 p2 p3 then 1 else 0) ∧ u = S) (fun u U => PW VX ctX g u U) A) 0 0 A := by
  refine ent (cc := cX7_within) (maxL := 3) (ret := (some .boolean)) (by decide) (Nat.le_of_ble_eq_true rfl) ?_
  intro p e s m below meth c args Q C0 hr hlocks hP hK hQ ls hl
  have hx := C0.1
  have hb := C0.2.1
  have hml := C0.2.2.1
  have hown := C0.2.2.2.1
  have hts := C0.2.2.2.2
  obtain ⟨F, hF⟩ : ∃ F : Int32, F = (if wi p1 p2 p3 then 1 else 0) := ⟨_, rfl⟩
  have hf := hF
  rw [tX7_within_tree g S p1 p2 p3] at hf
  have hS : va_S A s.heap s.heap [] := va_S.rf
  have hl : lv_has ls 3 [(0, .int p1), (1, .int p2), (2, .int p3)] := hl
  refine lv_iload_n hx hb dX7_within_0 rfl (lv_at hl 0 rfl) ?_
  refine lv_iload_n hx hb dX7_within_1 rfl (lv_at hl 1 rfl) ?_
  refine lv_icmp_lt (tgt := 14) hx hb dX7_within_2 (by decide) (fun zc1 => ?_) (fun zc1 => ?_)
  · have hf := hf.trans (if_pos zc1)
    refine lv_iconst (v := 0) hx hb dX7_within_14 (by decide) ?_
    exact rz hQ C0 hr hlocks hK hP hS rfl (by rw [← hF]; exact ⟨hf.symm, rfl⟩) dX7_within_15
  · have hf := hf.trans (if_neg zc1)
    refine lv_iload_n hx hb dX7_within_5 rfl (lv_at hl 0 rfl) ?_
    refine lv_iload_n hx hb dX7_within_6 rfl (lv_at hl 2 rfl) ?_
    refine lv_icmp_gt (tgt := 14) hx hb dX7_within_7 (by decide) (fun zc2 => ?_) (fun zc2 => ?_)
    · have hf := hf.trans (if_pos zc2)
      refine lv_iconst (v := 0) hx hb dX7_within_14 (by decide) ?_
      exact rz hQ C0 hr hlocks hK hP hS rfl (by rw [← hF]; exact ⟨hf.symm, rfl⟩) dX7_within_15
    · have hf := hf.trans (if_neg zc2)
      refine lv_iconst (v := 1) hx hb dX7_within_10 (by decide) ?_
      refine lv_goto (tgt := 15) hx hb dX7_within_11 (by decide) ?_
      exact rz hQ C0 hr hlocks hK hP hS rfl (by rw [← hF]; exact ⟨hf.symm, rfl⟩) dX7_within_15
theorem tX3_isLetter_tree (g : Gd) (S : St) (p1 : Int32) : ((if wi (p1 - 65) 0 5 then 1 else 0) : Int32) =
  (if wi (p1 - 65) 0 5 then 1 else 0) := by
  repeat' split
  all_goals first | rfl | (simp_all; done) | (exfalso; simp only [wi, plc, ikc, art, Int32.lt_iff_toInt_lt, Int32.le_iff_toInt_le, ti0, ti1, ti2, ti3, ti6, ti8] at *; omega)
set_option maxHeartbeats 4000000 in
set_option maxRecDepth 100000 in
theorem kX3_isLetter (l : Launch) (g : Gd) (A : Nat → Prop) (hA : Ads g.1 VX A) (S : St) (p1 : Int32) : Met l yX3_isLetter (wU yX3_isLetter cX3_isLetter 1 (some .boolean)) { frames := 1, cells := 0, slots := 0, locals := 22 } (va_Pc [.int p1] (PW VX ctX g S)) (va_Qi (fun r u => r = (if wi (p1 - 65) 0 5 then 1 else 0) ∧ u = S) (fun u U => PW VX ctX g u U) A) 0 0 A := by
  refine ent (cc := cX3_isLetter) (maxL := 1) (ret := (some .boolean)) (by decide) (Nat.le_of_ble_eq_true rfl) ?_
  intro p e s m below meth c args Q C0 hr hlocks hP hK hQ ls hl
  have hx := C0.1
  have hb := C0.2.1
  have hml := C0.2.2.1
  have hown := C0.2.2.2.1
  have hts := C0.2.2.2.2
  obtain ⟨F, hF⟩ : ∃ F : Int32, F = (if wi (p1 - 65) 0 5 then 1 else 0) := ⟨_, rfl⟩
  have hf := hF
  rw [tX3_isLetter_tree g S p1] at hf
  have hS : va_S A s.heap s.heap [] := va_S.rf
  have hl : lv_has ls 1 [(0, .int p1)] := hl
  refine lv_iload_n hx hb dX3_isLetter_0 rfl (lv_at hl 0 rfl) ?_
  refine lv_bipush (v := 65) hx hb dX3_isLetter_1 (by decide) ?_
  refine lv_isub hx hb dX3_isLetter_3 ?_
  refine lv_iconst (v := 0) hx hb dX3_isLetter_4 (by decide) ?_
  refine lv_iconst (v := 5) hx hb dX3_isLetter_5 (by decide) ?_
  refine kzc (va_runSN (As := [.int (p1 - 65), .int 0, .int 5]) (rest := []) C0 (kX7_within l g A hA S (p1 - 65) 0 5) ⟨va_cnB 3 hts (gU q299) rfl rfl rfl hK.2.1 (hts _ q46) (by decide +kernel) ⟨Nat.le_of_ble_eq_true rfl, Nat.le_of_ble_eq_true rfl⟩, hts _ q298, trivial⟩ (preS hP hK) rfl rfl hl.1 rfl (lv_room (Nat.le_of_ble_eq_true rfl)) dX3_isLetter_6 ⟨Nat.zero_le _, Nat.zero_le _⟩) hS (fun _ h => h) (fun zc1 H locs hP hS => ?_) (fun zc1 H locs hP hS => ?_)
  · have hf := hf.trans (if_pos zc1)
    exact rz hQ C0 hr hlocks hK hP hS rfl (by rw [← hF]; exact ⟨hf.symm, rfl⟩) dX3_isLetter_9
  · have hf := hf.trans (if_neg zc1)
    exact rz hQ C0 hr hlocks hK hP hS rfl (by rw [← hF]; exact ⟨hf.symm, rfl⟩) dX3_isLetter_9
def tJ6_bitCount_0f7a4 (S : St) (p1 : Int32) : Int32 :=
  (bnd ((((p1 - ((iushrF p1 1) &&& 1431655765)) &&& 858993459) + ((iushrF (p1 - ((iushrF p1 1) &&& 1431655765)) 2) &&& 858993459)) + (iushrF (((p1 - ((iushrF p1 1) &&& 1431655765)) &&& 858993459) + ((iushrF (p1 - ((iushrF p1 1) &&& 1431655765)) 2) &&& 858993459)) 4)) (fun zx1 => (bnd ((((zx1 &&& 252645135) + (iushrF (zx1 &&& 252645135) 8)) + (iushrF ((zx1 &&& 252645135) + (iushrF (zx1 &&& 252645135) 8)) 16)) &&& 63) (fun zx2 => zx2))))
set_option maxHeartbeats 4000000 in
set_option maxRecDepth 100000 in
theorem kJ6_bitCount_0f7a4 (l : Launch) (g : Gd) (A : Nat → Prop) (hA : Ads g.1 VX A) (S : St) (p1 : Int32) : Met l yJ6_bitCount_0f7a4 (wU yJ6_bitCount_0f7a4 cJ6_bitCount_0f7a4 1 (some .int)) { frames := 0, cells := 0, slots := 0, locals := 0 } (va_Pc [.int p1] (PW VX ctX g S)) (va_Qi (fun r u => r = tJ6_bitCount_0f7a4 S p1 ∧ u = S) (fun u U => PW VX ctX g u U) A) 0 0 A := by
  refine ent (cc := cJ6_bitCount_0f7a4) (maxL := 1) (ret := (some .int)) (by decide) (Nat.le_of_ble_eq_true rfl) ?_
  intro p e s m below meth c args Q C0 hr hlocks hP hK hQ ls hl
  have hx := C0.1
  have hb := C0.2.1
  have hml := C0.2.2.1
  have hown := C0.2.2.2.1
  have hts := C0.2.2.2.2
  obtain ⟨F, hF⟩ : ∃ F : Int32, F = tJ6_bitCount_0f7a4 S p1 := ⟨_, rfl⟩
  have hf := hF
  unfold tJ6_bitCount_0f7a4 at hf
  have hS : va_S A s.heap s.heap [] := va_S.rf
  have hl : lv_has ls 1 [(0, .int p1)] := hl
  refine lv_iload_n hx hb dJ6_bitCount_0f7a4_0 rfl (lv_at hl 0 rfl) ?_
  refine lv_iload_n hx hb dJ6_bitCount_0f7a4_1 rfl (lv_at hl 0 rfl) ?_
  refine lv_iconst (v := 1) hx hb dJ6_bitCount_0f7a4_2 (by decide) ?_
  refine kiushr hx hb dJ6_bitCount_0f7a4_3 ?_
  refine lv_ldcw (v := 1431655765) hx hb hown (hts _ q320) dJ6_bitCount_0f7a4_4 ?_
  refine lv_iand hx hb dJ6_bitCount_0f7a4_7 ?_
  refine lv_isub hx hb dJ6_bitCount_0f7a4_8 ?_
  refine lv_istore_n (lv' := [(0, .int (p1 - ((iushrF p1 1) &&& 1431655765)))]) hx hb dJ6_bitCount_0f7a4_9 rfl hl (by decide) rfl (fun ls hl => ?_)
  refine lv_iload_n hx hb dJ6_bitCount_0f7a4_10 rfl (lv_at hl 0 rfl) ?_
  refine lv_ldcw (v := 858993459) hx hb hown (hts _ q321) dJ6_bitCount_0f7a4_11 ?_
  refine lv_iand hx hb dJ6_bitCount_0f7a4_14 ?_
  refine lv_iload_n hx hb dJ6_bitCount_0f7a4_15 rfl (lv_at hl 0 rfl) ?_
  refine lv_iconst (v := 2) hx hb dJ6_bitCount_0f7a4_16 (by decide) ?_
  refine kiushr hx hb dJ6_bitCount_0f7a4_17 ?_
  refine lv_ldcw (v := 858993459) hx hb hown (hts _ q321) dJ6_bitCount_0f7a4_18 ?_
  refine lv_iand hx hb dJ6_bitCount_0f7a4_21 ?_
  refine lv_iadd hx hb dJ6_bitCount_0f7a4_22 ?_
  refine lv_istore_n (lv' := [(0, .int (((p1 - ((iushrF p1 1) &&& 1431655765)) &&& 858993459) + ((iushrF (p1 - ((iushrF p1 1) &&& 1431655765)) 2) &&& 858993459)))]) hx hb dJ6_bitCount_0f7a4_23 rfl hl (by decide) rfl (fun ls hl => ?_)
  refine lv_iload_n hx hb dJ6_bitCount_0f7a4_24 rfl (lv_at hl 0 rfl) ?_
  refine lv_iload_n hx hb dJ6_bitCount_0f7a4_25 rfl (lv_at hl 0 rfl) ?_
  refine lv_iconst (v := 4) hx hb dJ6_bitCount_0f7a4_26 (by decide) ?_
  refine kiushr hx hb dJ6_bitCount_0f7a4_27 ?_
  refine lv_iadd hx hb dJ6_bitCount_0f7a4_28 ?_
  refine lv_topi (fun zx1 hzx1 => ?_)
  have hf := hf.trans (bnd_eq hzx1)
  refine lv_ldcw (v := 252645135) hx hb hown (hts _ q322) dJ6_bitCount_0f7a4_29 ?_
  refine lv_iand hx hb dJ6_bitCount_0f7a4_32 ?_
  refine lv_istore_n (lv' := [(0, .int (zx1 &&& 252645135))]) hx hb dJ6_bitCount_0f7a4_33 rfl hl (by decide) rfl (fun ls hl => ?_)
  refine lv_iload_n hx hb dJ6_bitCount_0f7a4_34 rfl (lv_at hl 0 rfl) ?_
  refine lv_iload_n hx hb dJ6_bitCount_0f7a4_35 rfl (lv_at hl 0 rfl) ?_
  refine lv_bipush (v := 8) hx hb dJ6_bitCount_0f7a4_36 (by decide) ?_
  refine kiushr hx hb dJ6_bitCount_0f7a4_38 ?_
  refine lv_iadd hx hb dJ6_bitCount_0f7a4_39 ?_
  refine lv_istore_n (lv' := [(0, .int ((zx1 &&& 252645135) + (iushrF (zx1 &&& 252645135) 8)))]) hx hb dJ6_bitCount_0f7a4_40 rfl hl (by decide) rfl (fun ls hl => ?_)
  refine lv_iload_n hx hb dJ6_bitCount_0f7a4_41 rfl (lv_at hl 0 rfl) ?_
  refine lv_iload_n hx hb dJ6_bitCount_0f7a4_42 rfl (lv_at hl 0 rfl) ?_
  refine lv_bipush (v := 16) hx hb dJ6_bitCount_0f7a4_43 (by decide) ?_
  refine kiushr hx hb dJ6_bitCount_0f7a4_45 ?_
  refine lv_iadd hx hb dJ6_bitCount_0f7a4_46 ?_
  refine lv_istore_n (lv' := [(0, .int (((zx1 &&& 252645135) + (iushrF (zx1 &&& 252645135) 8)) + (iushrF ((zx1 &&& 252645135) + (iushrF (zx1 &&& 252645135) 8)) 16)))]) hx hb dJ6_bitCount_0f7a4_47 rfl hl (by decide) rfl (fun ls hl => ?_)
  refine lv_iload_n hx hb dJ6_bitCount_0f7a4_48 rfl (lv_at hl 0 rfl) ?_
  refine lv_bipush (v := 63) hx hb dJ6_bitCount_0f7a4_49 (by decide) ?_
  refine lv_iand hx hb dJ6_bitCount_0f7a4_51 ?_
  refine lv_topi (fun zx2 hzx2 => ?_)
  have hf := hf.trans (bnd_eq hzx2)
  exact ri hQ C0 hr hlocks hK hP hS (by rw [← hF]; exact ⟨hf.symm, rfl⟩) dJ6_bitCount_0f7a4_52
theorem tX2_placeAt_tree (g : Gd) (S : St) (o : Nat) (p1 : Int32) : ((if plc p1 then some (g.1 o (Int32.toNatClampNeg p1)) else none) : Option Nat) =
  (if p1 < 0 then none else (if 6 ≤ p1 then none else (some (g.1 o (Int32.toNatClampNeg p1))))) := by
  repeat' split
  all_goals first | rfl | (simp_all; done) | (exfalso; simp only [wi, plc, ikc, art, Int32.lt_iff_toInt_lt, Int32.le_iff_toInt_le, ti0, ti1, ti2, ti3, ti6, ti8] at *; omega)
set_option maxHeartbeats 4000000 in
set_option maxRecDepth 100000 in
theorem kX2_placeAt (l : Launch) (g : Gd) (A : Nat → Prop) (hA : Ads g.1 VX A) (S : St) (o : Nat) (p1 : Int32) (ho : o < 4) : Met l yX2_placeAt (wU yX2_placeAt cX2_placeAt 2 (some (.object "BelowWorth$Ship"))) { frames := 0, cells := 0, slots := 0, locals := 0 } (va_Pc [.ref (g.1 o 6), .int p1] (PW VX ctX g S)) (va_Qq (fun r u => r = (if plc p1 then some (g.1 o (Int32.toNatClampNeg p1)) else none) ∧ u = S) (fun u U => PW VX ctX g u U) A) 0 0 A := by
  refine ent (cc := cX2_placeAt) (maxL := 2) (ret := (some (.object "BelowWorth$Ship"))) (by decide) (Nat.le_of_ble_eq_true rfl) ?_
  intro p e s m below meth c args Q C0 hr hlocks hP hK hQ ls hl
  have hx := C0.1
  have hb := C0.2.1
  have hml := C0.2.2.1
  have hown := C0.2.2.2.1
  have hts := C0.2.2.2.2
  obtain ⟨F, hF⟩ : ∃ F : Option Nat, F = (if plc p1 then some (g.1 o (Int32.toNatClampNeg p1)) else none) := ⟨_, rfl⟩
  have hf := hF
  rw [tX2_placeAt_tree g S o p1] at hf
  have hS : va_S A s.heap s.heap [] := va_S.rf
  have hl : lv_has ls 2 [(0, .ref (g.1 o 6)), (1, .int p1)] := hl
  refine lv_iload_n hx hb dX2_placeAt_0 rfl (lv_at hl 1 rfl) ?_
  refine lv_if_lt (tgt := 22) hx hb dX2_placeAt_1 (by decide) (fun zc1 => ?_) (fun zc1 => ?_)
  · have hf := hf.trans (if_pos zc1)
    refine lv_null hx hb dX2_placeAt_22 ?_
    exact rq none hQ C0 hr hlocks hK hP hS (by rw [← hF]; exact ⟨hf.symm, rfl⟩) dX2_placeAt_23
  · have hf := hf.trans (if_neg zc1)
    refine lv_iload_n hx hb dX2_placeAt_4 rfl (lv_at hl 1 rfl) ?_
    refine lv_aload_n hx hb dX2_placeAt_5 rfl (lv_at hl 0 rfl) ?_
    refine gO (T := TX2) C0 inA2 hK hP (xOwner g ho) rfl 0 (by decide) (hts _ q113) (v := .ref (g.1 o 7)) rfl dX2_placeAt_6 ?_
    refine lenQ (v := 6) C0 hK hP (xShips g ho) rfl rfl dX2_placeAt_9 ?_
    refine lv_icmp_ge (tgt := 22) hx hb dX2_placeAt_10 (by decide) (fun zc2 => ?_) (fun zc2 => ?_)
    · have hf := hf.trans (if_pos zc2)
      refine lv_null hx hb dX2_placeAt_22 ?_
      exact rq none hQ C0 hr hlocks hK hP hS (by rw [← hF]; exact ⟨hf.symm, rfl⟩) dX2_placeAt_23
    · have hf := hf.trans (if_neg zc2)
      refine lv_aload_n hx hb dX2_placeAt_13 rfl (lv_at hl 0 rfl) ?_
      refine gO (T := TX2) C0 inA2 hK hP (xOwner g ho) rfl 0 (by decide) (hts _ q113) (v := .ref (g.1 o 7)) rfl dX2_placeAt_14 ?_
      refine lv_iload_n hx hb dX2_placeAt_17 rfl (lv_at hl 1 rfl) ?_
      refine gQ C0 hK hP (xShips g ho) rfl (vpx (N := 6) zc1 zc2 rfl (by decide)) dX2_placeAt_18 ?_
      refine W.eq (g2 := F0 m 19 ls (.ref (g.1 o (Int32.toNatClampNeg p1)) :: [])) rfl ?_
      refine lv_goto (tgt := 23) hx hb dX2_placeAt_19 (by decide) ?_
      exact rq (some (g.1 o (Int32.toNatClampNeg p1))) hQ C0 hr hlocks hK hP hS (by rw [← hF]; exact ⟨hf.symm, rfl⟩) dX2_placeAt_23
theorem tX2_shipAt_tree (g : Gd) (S : St) (o : Nat) (p1 : Int32) : ((if isAt S o p1 then some (g.1 o (Int32.toNatClampNeg p1)) else none) : Option Nat) =
  (if plc p1 then (if (b01 (S.1 o (Int32.toNatClampNeg p1) 0)) = 0 then none else (some (g.1 o (Int32.toNatClampNeg p1)))) else none) := by
  simp only [isAt, b01_0]
  repeat' split
  all_goals first | rfl | (simp_all; done)
set_option maxHeartbeats 4000000 in
set_option maxRecDepth 100000 in
theorem kX2_shipAt (l : Launch) (g : Gd) (A : Nat → Prop) (hA : Ads g.1 VX A) (S : St) (o : Nat) (p1 : Int32) (ho : o < 4) : Met l yX2_shipAt (wU yX2_shipAt cX2_shipAt 3 (some (.object "BelowWorth$Ship"))) { frames := 1, cells := 0, slots := 0, locals := 21 } (va_Pc [.ref (g.1 o 6), .int p1] (PW VX ctX g S)) (va_Qq (fun r u => r = (if isAt S o p1 then some (g.1 o (Int32.toNatClampNeg p1)) else none) ∧ u = S) (fun u U => PW VX ctX g u U) A) 0 0 A := by
  refine ent (cc := cX2_shipAt) (maxL := 3) (ret := (some (.object "BelowWorth$Ship"))) (by decide) (Nat.le_of_ble_eq_true rfl) ?_
  intro p e s m below meth c args Q C0 hr hlocks hP hK hQ ls hl
  have hx := C0.1
  have hb := C0.2.1
  have hml := C0.2.2.1
  have hown := C0.2.2.2.1
  have hts := C0.2.2.2.2
  obtain ⟨F, hF⟩ : ∃ F : Option Nat, F = (if isAt S o p1 then some (g.1 o (Int32.toNatClampNeg p1)) else none) := ⟨_, rfl⟩
  have hf := hF
  rw [tX2_shipAt_tree g S o p1] at hf
  have hS : va_S A s.heap s.heap [] := va_S.rf
  have hl : lv_has ls 3 [(0, .ref (g.1 o 6)), (1, .int p1)] := hl
  refine lv_aload_n hx hb dX2_shipAt_0 rfl (lv_at hl 0 rfl) ?_
  refine lv_iload_n hx hb dX2_shipAt_1 rfl (lv_at hl 1 rfl) ?_
  refine kqc (va_runV (As := [.int p1]) (rest := []) C0 (kX2_placeAt l g A hA S o p1 ho) (cwV 1 hts (gV q316 q294 q295 q47 q296) rfl rfl rfl (by decide +kernel) ⟨Nat.le_of_ble_eq_true rfl, Nat.le_of_ble_eq_true rfl⟩) (preV (recO (xOwner g ho) hP hK rfl) hP hK) rfl rfl hl.1 rfl (lv_room (Nat.le_of_ble_eq_true rfl)) dX2_shipAt_2 ⟨Nat.zero_le _, Nat.zero_le _⟩) hS (fun _ h => h) (fun zc1 H locs hP hS => ?_) (fun zc1 H locs hP hS => ?_)
  · have hf := hf.trans (if_pos zc1)
    refine lv_astore_n (lv' := [(2, .ref (g.1 o (Int32.toNatClampNeg p1))), (0, .ref (g.1 o 6)), (1, .int p1)]) hx hb dX2_shipAt_5 rfl hl (by decide) rfl (fun ls hl => ?_)
    refine lv_aload_n hx hb dX2_shipAt_6 rfl (lv_at hl 0 rfl) ?_
    refine lv_ifnull hx hb dX2_shipAt_7 ?_
    refine lv_aload_n hx hb dX2_shipAt_10 rfl (lv_at hl 0 rfl) ?_
    refine gO (T := TX4) C0 inA4 hK hP (xShip g (by omega) (plc_lt zc1)) rfl 0 (by decide) (hts _ q80) (v := .int (b01 (S.1 o (Int32.toNatClampNeg p1) 0))) rfl dX2_shipAt_11 ?_
    refine lv_if_eq (tgt := 21) hx hb dX2_shipAt_14 (by decide) (fun zc2 => ?_) (fun zc2 => ?_)
    · have hf := hf.trans (if_pos zc2)
      refine lv_null hx hb dX2_shipAt_21 ?_
      exact rq none hQ C0 hr hlocks hK hP hS (by rw [← hF]; exact ⟨hf.symm, rfl⟩) dX2_shipAt_22
    · have hf := hf.trans (if_neg zc2)
      refine lv_aload_n hx hb dX2_shipAt_17 rfl (lv_at hl 0 rfl) ?_
      refine lv_goto (tgt := 22) hx hb dX2_shipAt_18 (by decide) ?_
      exact rq (some (g.1 o (Int32.toNatClampNeg p1))) hQ C0 hr hlocks hK hP hS (by rw [← hF]; exact ⟨hf.symm, rfl⟩) dX2_shipAt_22
  · have hf := hf.trans (if_neg zc1)
    refine lv_astore_nN (lv' := [(2, .null), (0, .ref (g.1 o 6)), (1, .int p1)]) hx hb dX2_shipAt_5 rfl hl (by decide) rfl (fun ls hl => ?_)
    refine lv_aload_nN hx hb dX2_shipAt_6 rfl (lv_at hl 0 rfl) ?_
    refine lv_ifnullN (tgt := 21) hx hb dX2_shipAt_7 (by decide) ?_
    refine lv_null hx hb dX2_shipAt_21 ?_
    exact rq none hQ C0 hr hlocks hK hP hS (by rw [← hF]; exact ⟨hf.symm, rfl⟩) dX2_shipAt_22
theorem tX2_shipAfloatAt_tree (g : Gd) (S : St) (o : Nat) (p1 : Int32) : ((if isAf S o p1 then some (g.1 o (Int32.toNatClampNeg p1)) else none) : Option Nat) =
  (if isAt S o p1 then (if (b01 (S.1 o (Int32.toNatClampNeg p1) 1)) = 0 then none else (some (g.1 o (Int32.toNatClampNeg p1)))) else none) := by
  simp only [isAf, b01_0]
  repeat' split
  all_goals first | rfl | (simp_all; done)
set_option maxHeartbeats 4000000 in
set_option maxRecDepth 100000 in
theorem kX2_shipAfloatAt (l : Launch) (g : Gd) (A : Nat → Prop) (hA : Ads g.1 VX A) (S : St) (o : Nat) (p1 : Int32) (ho : o < 4) : Met l yX2_shipAfloatAt (wU yX2_shipAfloatAt cX2_shipAfloatAt 3 (some (.object "BelowWorth$Ship"))) { frames := 2, cells := 0, slots := 0, locals := 43 } (va_Pc [.ref (g.1 o 6), .int p1] (PW VX ctX g S)) (va_Qq (fun r u => r = (if isAf S o p1 then some (g.1 o (Int32.toNatClampNeg p1)) else none) ∧ u = S) (fun u U => PW VX ctX g u U) A) 0 0 A := by
  refine ent (cc := cX2_shipAfloatAt) (maxL := 3) (ret := (some (.object "BelowWorth$Ship"))) (by decide) (Nat.le_of_ble_eq_true rfl) ?_
  intro p e s m below meth c args Q C0 hr hlocks hP hK hQ ls hl
  have hx := C0.1
  have hb := C0.2.1
  have hml := C0.2.2.1
  have hown := C0.2.2.2.1
  have hts := C0.2.2.2.2
  obtain ⟨F, hF⟩ : ∃ F : Option Nat, F = (if isAf S o p1 then some (g.1 o (Int32.toNatClampNeg p1)) else none) := ⟨_, rfl⟩
  have hf := hF
  rw [tX2_shipAfloatAt_tree g S o p1] at hf
  have hS : va_S A s.heap s.heap [] := va_S.rf
  have hl : lv_has ls 3 [(0, .ref (g.1 o 6)), (1, .int p1)] := hl
  refine lv_aload_n hx hb dX2_shipAfloatAt_0 rfl (lv_at hl 0 rfl) ?_
  refine lv_iload_n hx hb dX2_shipAfloatAt_1 rfl (lv_at hl 1 rfl) ?_
  refine kqc (va_runV (As := [.int p1]) (rest := []) C0 (kX2_shipAt l g A hA S o p1 ho) (cwV 1 hts (gV q312 q313 q314 q47 q315) rfl rfl rfl (by decide +kernel) ⟨Nat.le_of_ble_eq_true rfl, Nat.le_of_ble_eq_true rfl⟩) (preV (recO (xOwner g ho) hP hK rfl) hP hK) rfl rfl hl.1 rfl (lv_room (Nat.le_of_ble_eq_true rfl)) dX2_shipAfloatAt_2 ⟨Nat.zero_le _, Nat.zero_le _⟩) hS (fun _ h => h) (fun zc1 H locs hP hS => ?_) (fun zc1 H locs hP hS => ?_)
  · have hf := hf.trans (if_pos zc1)
    refine lv_astore_n (lv' := [(2, .ref (g.1 o (Int32.toNatClampNeg p1))), (0, .ref (g.1 o 6)), (1, .int p1)]) hx hb dX2_shipAfloatAt_5 rfl hl (by decide) rfl (fun ls hl => ?_)
    refine lv_aload_n hx hb dX2_shipAfloatAt_6 rfl (lv_at hl 0 rfl) ?_
    refine lv_ifnull hx hb dX2_shipAfloatAt_7 ?_
    refine lv_aload_n hx hb dX2_shipAfloatAt_10 rfl (lv_at hl 0 rfl) ?_
    refine gO (T := TX4) C0 inA4 hK hP (xShip g (by omega) (plc_lt zc1.1)) rfl 1 (by decide) (hts _ q82) (v := .int (b01 (S.1 o (Int32.toNatClampNeg p1) 1))) rfl dX2_shipAfloatAt_11 ?_
    refine lv_if_eq (tgt := 21) hx hb dX2_shipAfloatAt_14 (by decide) (fun zc2 => ?_) (fun zc2 => ?_)
    · have hf := hf.trans (if_pos zc2)
      refine lv_null hx hb dX2_shipAfloatAt_21 ?_
      exact rq none hQ C0 hr hlocks hK hP hS (by rw [← hF]; exact ⟨hf.symm, rfl⟩) dX2_shipAfloatAt_22
    · have hf := hf.trans (if_neg zc2)
      refine lv_aload_n hx hb dX2_shipAfloatAt_17 rfl (lv_at hl 0 rfl) ?_
      refine lv_goto (tgt := 22) hx hb dX2_shipAfloatAt_18 (by decide) ?_
      exact rq (some (g.1 o (Int32.toNatClampNeg p1))) hQ C0 hr hlocks hK hP hS (by rw [← hF]; exact ⟨hf.symm, rfl⟩) dX2_shipAfloatAt_22
  · have hf := hf.trans (if_neg zc1)
    refine lv_astore_nN (lv' := [(2, .null), (0, .ref (g.1 o 6)), (1, .int p1)]) hx hb dX2_shipAfloatAt_5 rfl hl (by decide) rfl (fun ls hl => ?_)
    refine lv_aload_nN hx hb dX2_shipAfloatAt_6 rfl (lv_at hl 0 rfl) ?_
    refine lv_ifnullN (tgt := 21) hx hb dX2_shipAfloatAt_7 (by decide) ?_
    refine lv_null hx hb dX2_shipAfloatAt_21 ?_
    exact rq none hQ C0 hr hlocks hK hP hS (by rw [← hF]; exact ⟨hf.symm, rfl⟩) dX2_shipAfloatAt_22
def LX2_bitsThere_4 (S : St) (o : Nat) : Nat → Nat → Int32 → Int32
  | 0, zi1, zx3 => zx3
  | zk2 + 1, zi1, zx3 => (if isAt S o (nI zi1) then (LX2_bitsThere_4 S o zk2 (zi1 + 1) (zx3 ||| (ishlF 1 (nI zi1)))) else (LX2_bitsThere_4 S o zk2 (zi1 + 1) zx3))
def tX2_bitsThere (S : St) (o : Nat) : Int32 :=
  (LX2_bitsThere_4 S o 6 0 0)
set_option maxHeartbeats 4000000 in
set_option maxRecDepth 100000 in
theorem kX2_bitsThere (l : Launch) (g : Gd) (A : Nat → Prop) (hA : Ads g.1 VX A) (S : St) (o : Nat) (ho : o < 4) : Met l yX2_bitsThere (wU yX2_bitsThere cX2_bitsThere 3 (some .int)) { frames := 2, cells := 0, slots := 0, locals := 43 } (va_Pc [.ref (g.1 o 6)] (PW VX ctX g S)) (va_Qi (fun r u => r = tX2_bitsThere S o ∧ u = S) (fun u U => PW VX ctX g u U) A) 0 0 A := by
  refine ent (cc := cX2_bitsThere) (maxL := 3) (ret := (some .int)) (by decide) (Nat.le_of_ble_eq_true rfl) ?_
  intro p e s m below meth c args Q C0 hr hlocks hP hK hQ ls hl
  have hx := C0.1
  have hb := C0.2.1
  have hml := C0.2.2.1
  have hown := C0.2.2.2.1
  have hts := C0.2.2.2.2
  obtain ⟨F, hF⟩ : ∃ F : Int32, F = tX2_bitsThere S o := ⟨_, rfl⟩
  have hf := hF
  unfold tX2_bitsThere at hf
  have hS : va_S A s.heap s.heap [] := va_S.rf
  have hl : lv_has ls 3 [(0, .ref (g.1 o 6))] := hl
  refine lv_iconst (v := 0) hx hb dX2_bitsThere_0 (by decide) ?_
  refine lv_istore_n (lv' := [(1, .int 0), (0, .ref (g.1 o 6))]) hx hb dX2_bitsThere_1 rfl hl (by decide) rfl (fun ls hl => ?_)
  refine lv_iconst (v := 0) hx hb dX2_bitsThere_2 (by decide) ?_
  refine lv_istore_n (lv' := [(2, .int 0), (1, .int 0), (0, .ref (g.1 o 6))]) hx hb dX2_bitsThere_3 rfl hl (by decide) rfl (fun ls hl => ?_)
  have lp4 : ∀ (zk2 zi1 : Nat) (zx3 : Int32) (H : Heap) (locs : List Loc), (zi1 + zk2 = 6) → (F = LX2_bitsThere_4 S o zk2 zi1 zx3) → HW VX ctX g S H → va_S A s.heap H locs → ∀ ls : Array Slot, lv_has ls 3 [(2, .int (nI zi1)), (0, .ref (g.1 o 6)), (1, .int zx3)] → W p l e { frames := 2, cells := 0, slots := 0, locals := 43 } s m args below meth c H locs 0 0 Q (F0 m 4 ls []) := by
    intro zk2
    induction zk2 with
    | zero =>
      intro zi1 zx3 H locs hik hf hP hS ls hl
      rw [LX2_bitsThere_4] at hf
      refine lv_iload_n hx hb dX2_bitsThere_4 rfl (lv_at hl 0 rfl) ?_
      refine lv_bipush (v := 6) hx hb dX2_bitsThere_5 (by decide) ?_
      refine lv_icmp_ge (tgt := 30) hx hb dX2_bitsThere_7 (by decide) (fun zc4 => ?_) (fun zc4 => absurd (up_ge0 rfl hik (by decide)) zc4)
      refine lv_iload_n hx hb dX2_bitsThere_30 rfl (lv_at hl 2 rfl) ?_
      exact ri hQ C0 hr hlocks hK hP hS (by rw [← hF]; exact ⟨hf.symm, rfl⟩) dX2_bitsThere_31
    | succ zk2 ih4 =>
      intro zi1 zx3 H locs hik hf hP hS ls hl
      rw [LX2_bitsThere_4] at hf
      refine lv_iload_n hx hb dX2_bitsThere_4 rfl (lv_at hl 0 rfl) ?_
      refine lv_bipush (v := 6) hx hb dX2_bitsThere_5 (by decide) ?_
      refine lv_icmp_ge (tgt := 30) hx hb dX2_bitsThere_7 (by decide) (fun zc5 => absurd zc5 (up_ge1 rfl hik (by decide))) (fun zc5 => ?_)
      refine lv_aload_n hx hb dX2_bitsThere_10 rfl (lv_at hl 1 rfl) ?_
      refine lv_iload_n hx hb dX2_bitsThere_11 rfl (lv_at hl 0 rfl) ?_
      refine kqc (va_runV (As := [.int (nI zi1)]) (rest := []) C0 (kX2_shipAt l g A hA S o (nI zi1) ho) (cwV 1 hts (gV q312 q313 q314 q47 q315) rfl rfl rfl (by decide +kernel) ⟨Nat.le_of_ble_eq_true rfl, Nat.le_of_ble_eq_true rfl⟩) (preV (recO (xOwner g ho) hP hK rfl) hP hK) rfl rfl hl.1 rfl (lv_room (Nat.le_of_ble_eq_true rfl)) dX2_bitsThere_12 ⟨Nat.zero_le _, Nat.zero_le _⟩) hS (fun _ h => h) (fun zc6 H locs hP hS => ?_) (fun zc6 H locs hP hS => ?_)
      · have hf := hf.trans (if_pos zc6)
        refine lv_ifnull hx hb dX2_bitsThere_15 ?_
        refine lv_iload_n hx hb dX2_bitsThere_18 rfl (lv_at hl 2 rfl) ?_
        refine lv_iconst (v := 1) hx hb dX2_bitsThere_19 (by decide) ?_
        refine lv_iload_n hx hb dX2_bitsThere_20 rfl (lv_at hl 0 rfl) ?_
        refine kishl hx hb dX2_bitsThere_21 ?_
        refine lv_ior hx hb dX2_bitsThere_22 ?_
        refine lv_istore_n (lv' := [(1, .int (zx3 ||| (ishlF 1 (nI zi1)))), (2, .int (nI zi1)), (0, .ref (g.1 o 6))]) hx hb dX2_bitsThere_23 rfl hl (by decide) rfl (fun ls hl => ?_)
        refine lv_iinc (v := (nI (zi1 + 1))) (lv' := [(2, .int (nI (zi1 + 1))), (1, .int (zx3 ||| (ishlF 1 (nI zi1)))), (0, .ref (g.1 o 6))]) hx hb dX2_bitsThere_24 hl (k := 1) rfl (nI_1 _) (by decide) rfl (fun ls hl => ?_)
        refine lv_goto (tgt := 4) hx hb dX2_bitsThere_27 (by decide) ?_
        exact ih4 (zi1 + 1) (zx3 ||| (ishlF 1 (nI zi1))) _ _ (by omega) hf hP hS ls (lv_sub hl [0, 2, 1] rfl)
      · have hf := hf.trans (if_neg zc6)
        refine lv_ifnullN (tgt := 24) hx hb dX2_bitsThere_15 (by decide) ?_
        refine lv_iinc (v := (nI (zi1 + 1))) (lv' := [(2, .int (nI (zi1 + 1))), (0, .ref (g.1 o 6)), (1, .int zx3)]) hx hb dX2_bitsThere_24 hl (k := 0) rfl (nI_1 _) (by decide) rfl (fun ls hl => ?_)
        refine lv_goto (tgt := 4) hx hb dX2_bitsThere_27 (by decide) ?_
        exact ih4 (zi1 + 1) zx3 _ _ (by omega) hf hP hS ls (lv_sub hl [0, 1, 2] rfl)
  exact lp4 6 0 0 _ _ (by decide) hf hP hS ls (lv_sub hl [0, 2, 1] rfl)
def tX2_countThere (S : St) (o : Nat) : Int32 :=
  (tJ6_bitCount_0f7a4 S (tX2_bitsThere S o))
set_option maxHeartbeats 4000000 in
set_option maxRecDepth 100000 in
theorem kX2_countThere (l : Launch) (g : Gd) (A : Nat → Prop) (hA : Ads g.1 VX A) (S : St) (o : Nat) (ho : o < 4) : Met l yX2_countThere (wU yX2_countThere cX2_countThere 1 (some .int)) { frames := 3, cells := 0, slots := 0, locals := 65 } (va_Pc [.ref (g.1 o 6)] (PW VX ctX g S)) (va_Qi (fun r u => r = tX2_countThere S o ∧ u = S) (fun u U => PW VX ctX g u U) A) 0 0 A := by
  refine ent (cc := cX2_countThere) (maxL := 1) (ret := (some .int)) (by decide) (Nat.le_of_ble_eq_true rfl) ?_
  intro p e s m below meth c args Q C0 hr hlocks hP hK hQ ls hl
  have hx := C0.1
  have hb := C0.2.1
  have hml := C0.2.2.1
  have hown := C0.2.2.2.1
  have hts := C0.2.2.2.2
  obtain ⟨F, hF⟩ : ∃ F : Int32, F = tX2_countThere S o := ⟨_, rfl⟩
  have hf := hF
  unfold tX2_countThere at hf
  have hS : va_S A s.heap s.heap [] := va_S.rf
  have hl : lv_has ls 1 [(0, .ref (g.1 o 6))] := hl
  refine lv_aload_n hx hb dX2_countThere_0 rfl (lv_at hl 0 rfl) ?_
  refine kiP (va_runV (As := []) (rest := []) C0 (kX2_bitsThere l g A hA S o ho) (cwV 0 hts (gV q308 q309 q310 q47 q311) rfl rfl rfl (by decide +kernel) ⟨Nat.le_of_ble_eq_true rfl, Nat.le_of_ble_eq_true rfl⟩) (preV (recO (xOwner g ho) hP hK rfl) hP hK) rfl rfl hl.1 rfl (lv_room (Nat.le_of_ble_eq_true rfl)) dX2_countThere_1 ⟨Nat.zero_le _, Nat.zero_le _⟩) hS (fun _ h => h) (fun H locs hP hS => ?_)
  refine kiP (va_runS (As := [.int (tX2_bitsThere S o)]) (rest := []) C0 (kJ6_bitCount_0f7a4 l g A hA S (tX2_bitsThere S o)) (va_cwS 1 hts (gS q317 q318 q55 q319) rfl rfl rfl (by decide +kernel) ⟨Nat.le_of_ble_eq_true rfl, Nat.le_of_ble_eq_true rfl⟩) (preS hP hK) rfl rfl hl.1 rfl (lv_room (Nat.le_of_ble_eq_true rfl)) dX2_countThere_4 ⟨Nat.zero_le _, Nat.zero_le _⟩) hS (fun _ h => h) (fun H locs hP hS => ?_)
  exact ri hQ C0 hr hlocks hK hP hS (by rw [← hF]; exact ⟨hf.symm, rfl⟩) dX2_countThere_7
def LX2_countAfloat_4 (S : St) (o : Nat) : Nat → Nat → Int32 → Int32
  | 0, zi1, zx3 => zx3
  | zk2 + 1, zi1, zx3 => (if isAf S o (nI zi1) then (LX2_countAfloat_4 S o zk2 (zi1 + 1) (zx3 + 1)) else (LX2_countAfloat_4 S o zk2 (zi1 + 1) zx3))
def tX2_countAfloat (S : St) (o : Nat) : Int32 :=
  (LX2_countAfloat_4 S o 6 0 0)
set_option maxHeartbeats 4000000 in
set_option maxRecDepth 100000 in
theorem kX2_countAfloat (l : Launch) (g : Gd) (A : Nat → Prop) (hA : Ads g.1 VX A) (S : St) (o : Nat) (ho : o < 4) : Met l yX2_countAfloat (wU yX2_countAfloat cX2_countAfloat 3 (some .int)) { frames := 3, cells := 0, slots := 0, locals := 65 } (va_Pc [.ref (g.1 o 6)] (PW VX ctX g S)) (va_Qi (fun r u => r = tX2_countAfloat S o ∧ u = S) (fun u U => PW VX ctX g u U) A) 0 0 A := by
  refine ent (cc := cX2_countAfloat) (maxL := 3) (ret := (some .int)) (by decide) (Nat.le_of_ble_eq_true rfl) ?_
  intro p e s m below meth c args Q C0 hr hlocks hP hK hQ ls hl
  have hx := C0.1
  have hb := C0.2.1
  have hml := C0.2.2.1
  have hown := C0.2.2.2.1
  have hts := C0.2.2.2.2
  obtain ⟨F, hF⟩ : ∃ F : Int32, F = tX2_countAfloat S o := ⟨_, rfl⟩
  have hf := hF
  unfold tX2_countAfloat at hf
  have hS : va_S A s.heap s.heap [] := va_S.rf
  have hl : lv_has ls 3 [(0, .ref (g.1 o 6))] := hl
  refine lv_iconst (v := 0) hx hb dX2_countAfloat_0 (by decide) ?_
  refine lv_istore_n (lv' := [(1, .int 0), (0, .ref (g.1 o 6))]) hx hb dX2_countAfloat_1 rfl hl (by decide) rfl (fun ls hl => ?_)
  refine lv_iconst (v := 0) hx hb dX2_countAfloat_2 (by decide) ?_
  refine lv_istore_n (lv' := [(2, .int 0), (1, .int 0), (0, .ref (g.1 o 6))]) hx hb dX2_countAfloat_3 rfl hl (by decide) rfl (fun ls hl => ?_)
  have lp4 : ∀ (zk2 zi1 : Nat) (zx3 : Int32) (H : Heap) (locs : List Loc), (zi1 + zk2 = 6) → (F = LX2_countAfloat_4 S o zk2 zi1 zx3) → HW VX ctX g S H → va_S A s.heap H locs → ∀ ls : Array Slot, lv_has ls 3 [(2, .int (nI zi1)), (0, .ref (g.1 o 6)), (1, .int zx3)] → W p l e { frames := 3, cells := 0, slots := 0, locals := 65 } s m args below meth c H locs 0 0 Q (F0 m 4 ls []) := by
    intro zk2
    induction zk2 with
    | zero =>
      intro zi1 zx3 H locs hik hf hP hS ls hl
      rw [LX2_countAfloat_4] at hf
      refine lv_iload_n hx hb dX2_countAfloat_4 rfl (lv_at hl 0 rfl) ?_
      refine lv_bipush (v := 6) hx hb dX2_countAfloat_5 (by decide) ?_
      refine lv_icmp_ge (tgt := 27) hx hb dX2_countAfloat_7 (by decide) (fun zc4 => ?_) (fun zc4 => absurd (up_ge0 rfl hik (by decide)) zc4)
      refine lv_iload_n hx hb dX2_countAfloat_27 rfl (lv_at hl 2 rfl) ?_
      exact ri hQ C0 hr hlocks hK hP hS (by rw [← hF]; exact ⟨hf.symm, rfl⟩) dX2_countAfloat_28
    | succ zk2 ih4 =>
      intro zi1 zx3 H locs hik hf hP hS ls hl
      rw [LX2_countAfloat_4] at hf
      refine lv_iload_n hx hb dX2_countAfloat_4 rfl (lv_at hl 0 rfl) ?_
      refine lv_bipush (v := 6) hx hb dX2_countAfloat_5 (by decide) ?_
      refine lv_icmp_ge (tgt := 27) hx hb dX2_countAfloat_7 (by decide) (fun zc5 => absurd zc5 (up_ge1 rfl hik (by decide))) (fun zc5 => ?_)
      refine lv_aload_n hx hb dX2_countAfloat_10 rfl (lv_at hl 1 rfl) ?_
      refine lv_iload_n hx hb dX2_countAfloat_11 rfl (lv_at hl 0 rfl) ?_
      refine kqc (va_runV (As := [.int (nI zi1)]) (rest := []) C0 (kX2_shipAfloatAt l g A hA S o (nI zi1) ho) (cwV 1 hts (gV q524 q525 q526 q47 q527) rfl rfl rfl (by decide +kernel) ⟨Nat.le_of_ble_eq_true rfl, Nat.le_of_ble_eq_true rfl⟩) (preV (recO (xOwner g ho) hP hK rfl) hP hK) rfl rfl hl.1 rfl (lv_room (Nat.le_of_ble_eq_true rfl)) dX2_countAfloat_12 ⟨Nat.zero_le _, Nat.zero_le _⟩) hS (fun _ h => h) (fun zc6 H locs hP hS => ?_) (fun zc6 H locs hP hS => ?_)
      · have hf := hf.trans (if_pos zc6)
        refine lv_ifnull hx hb dX2_countAfloat_15 ?_
        refine lv_iinc (v := (zx3 + 1)) (lv' := [(1, .int (zx3 + 1)), (2, .int (nI zi1)), (0, .ref (g.1 o 6))]) hx hb dX2_countAfloat_18 hl (k := 2) rfl rfl (by decide) rfl (fun ls hl => ?_)
        refine lv_iinc (v := (nI (zi1 + 1))) (lv' := [(2, .int (nI (zi1 + 1))), (1, .int (zx3 + 1)), (0, .ref (g.1 o 6))]) hx hb dX2_countAfloat_21 hl (k := 1) rfl (nI_1 _) (by decide) rfl (fun ls hl => ?_)
        refine lv_goto (tgt := 4) hx hb dX2_countAfloat_24 (by decide) ?_
        exact ih4 (zi1 + 1) (zx3 + 1) _ _ (by omega) hf hP hS ls (lv_sub hl [0, 2, 1] rfl)
      · have hf := hf.trans (if_neg zc6)
        refine lv_ifnullN (tgt := 21) hx hb dX2_countAfloat_15 (by decide) ?_
        refine lv_iinc (v := (nI (zi1 + 1))) (lv' := [(2, .int (nI (zi1 + 1))), (0, .ref (g.1 o 6)), (1, .int zx3)]) hx hb dX2_countAfloat_21 hl (k := 0) rfl (nI_1 _) (by decide) rfl (fun ls hl => ?_)
        refine lv_goto (tgt := 4) hx hb dX2_countAfloat_24 (by decide) ?_
        exact ih4 (zi1 + 1) zx3 _ _ (by omega) hf hP hS ls (lv_sub hl [0, 1, 2] rfl)
  exact lp4 6 0 0 _ _ (by decide) hf hP hS ls (lv_sub hl [0, 2, 1] rfl)
def tX2_riskWith (S : St) (o : Nat) (k : Nat) (p1 : Int32) : Int32 :=
  (((S.1 o k 2) + (3 * p1)) + (15 * (S.1 o 6 2)))
set_option maxHeartbeats 4000000 in
set_option maxRecDepth 100000 in
theorem kX2_riskWith (l : Launch) (g : Gd) (A : Nat → Prop) (hA : Ads g.1 VX A) (S : St) (o : Nat) (k : Nat) (p1 : Int32) (ho : o < 4) (hk : k < 6) : Met l yX2_riskWith (wU yX2_riskWith cX2_riskWith 3 (some .int)) { frames := 0, cells := 0, slots := 0, locals := 0 } (va_Pc [.ref (g.1 o 6), .ref (g.1 o k), .int p1] (PW VX ctX g S)) (va_Qi (fun r u => r = tX2_riskWith S o k p1 ∧ u = S) (fun u U => PW VX ctX g u U) A) 0 0 A := by
  refine ent (cc := cX2_riskWith) (maxL := 3) (ret := (some .int)) (by decide) (Nat.le_of_ble_eq_true rfl) ?_
  intro p e s m below meth c args Q C0 hr hlocks hP hK hQ ls hl
  have hx := C0.1
  have hb := C0.2.1
  have hml := C0.2.2.1
  have hown := C0.2.2.2.1
  have hts := C0.2.2.2.2
  obtain ⟨F, hF⟩ : ∃ F : Int32, F = tX2_riskWith S o k p1 := ⟨_, rfl⟩
  have hf := hF
  unfold tX2_riskWith at hf
  have hS : va_S A s.heap s.heap [] := va_S.rf
  have hl : lv_has ls 3 [(0, .ref (g.1 o 6)), (1, .ref (g.1 o k)), (2, .int p1)] := hl
  refine lv_aload_n hx hb dX2_riskWith_0 rfl (lv_at hl 1 rfl) ?_
  refine gO (T := TX4) C0 inA4 hK hP (xShip g ho hk) rfl 2 (by decide) (hts _ q85) (v := .int (S.1 o k 2)) rfl dX2_riskWith_1 ?_
  refine lv_iconst (v := 3) hx hb dX2_riskWith_4 (by decide) ?_
  refine lv_iload_n hx hb dX2_riskWith_5 rfl (lv_at hl 2 rfl) ?_
  refine lv_imul hx hb dX2_riskWith_6 ?_
  refine lv_iadd hx hb dX2_riskWith_7 ?_
  refine lv_bipush (v := 15) hx hb dX2_riskWith_8 (by decide) ?_
  refine lv_aload_n hx hb dX2_riskWith_10 rfl (lv_at hl 0 rfl) ?_
  refine gO (T := TX2) C0 inA2 hK hP (xOwner g ho) rfl 3 (by decide) (hts _ q118) (v := .int (S.1 o 6 2)) rfl dX2_riskWith_11 ?_
  refine lv_imul hx hb dX2_riskWith_14 ?_
  refine lv_iadd hx hb dX2_riskWith_15 ?_
  exact ri hQ C0 hr hlocks hK hP hS (by rw [← hF]; exact ⟨hf.symm, rfl⟩) dX2_riskWith_16
def tX2_hundredfoldMean (S : St) (o : Nat) (k : Nat) (p1 : Int32) (p2 : Int32) : Int32 :=
  (((tX2_riskWith S o k p1) * (p2 - (S.1 o k 3))) + (((100 - (tX2_riskWith S o k p1)) * p1) * (S.1 o 6 1)))
set_option maxHeartbeats 4000000 in
set_option maxRecDepth 100000 in
theorem kX2_hundredfoldMean (l : Launch) (g : Gd) (A : Nat → Prop) (hA : Ads g.1 VX A) (S : St) (o : Nat) (k : Nat) (p1 : Int32) (p2 : Int32) (ho : o < 4) (hk : k < 6) : Met l yX2_hundredfoldMean (wU yX2_hundredfoldMean cX2_hundredfoldMean 5 (some .int)) { frames := 1, cells := 0, slots := 0, locals := 22 } (va_Pc [.ref (g.1 o 6), .ref (g.1 o k), .int p1, .int p2] (PW VX ctX g S)) (va_Qi (fun r u => r = tX2_hundredfoldMean S o k p1 p2 ∧ u = S) (fun u U => PW VX ctX g u U) A) 0 0 A := by
  refine ent (cc := cX2_hundredfoldMean) (maxL := 5) (ret := (some .int)) (by decide) (Nat.le_of_ble_eq_true rfl) ?_
  intro p e s m below meth c args Q C0 hr hlocks hP hK hQ ls hl
  have hx := C0.1
  have hb := C0.2.1
  have hml := C0.2.2.1
  have hown := C0.2.2.2.1
  have hts := C0.2.2.2.2
  obtain ⟨F, hF⟩ : ∃ F : Int32, F = tX2_hundredfoldMean S o k p1 p2 := ⟨_, rfl⟩
  have hf := hF
  unfold tX2_hundredfoldMean at hf
  have hS : va_S A s.heap s.heap [] := va_S.rf
  have hl : lv_has ls 5 [(0, .ref (g.1 o 6)), (1, .ref (g.1 o k)), (2, .int p1), (3, .int p2)] := hl
  refine lv_aload_n hx hb dX2_hundredfoldMean_0 rfl (lv_at hl 0 rfl) ?_
  refine lv_aload_n hx hb dX2_hundredfoldMean_1 rfl (lv_at hl 1 rfl) ?_
  refine lv_iload_n hx hb dX2_hundredfoldMean_2 rfl (lv_at hl 2 rfl) ?_
  refine kiP (va_runV (As := [.ref (g.1 o k), .int p1]) (rest := []) C0 (kX2_riskWith l g A hA S o k p1 ho hk) (cwV 2 hts (gV q436 q437 q438 q47 q439) rfl rfl rfl (by decide +kernel) ⟨Nat.le_of_ble_eq_true rfl, Nat.le_of_ble_eq_true rfl⟩) (preV (recO (xOwner g ho) hP hK rfl) hP hK) rfl rfl hl.1 rfl (lv_room (Nat.le_of_ble_eq_true rfl)) dX2_hundredfoldMean_3 ⟨Nat.zero_le _, Nat.zero_le _⟩) hS (fun _ h => h) (fun H locs hP hS => ?_)
  refine lv_istore (lv' := [(4, .int (tX2_riskWith S o k p1)), (0, .ref (g.1 o 6)), (1, .ref (g.1 o k)), (2, .int p1), (3, .int p2)]) hx hb dX2_hundredfoldMean_6 hl (by decide) rfl (fun ls hl => ?_)
  refine lv_iload hx hb dX2_hundredfoldMean_8 (lv_at hl 0 rfl) ?_
  refine lv_iload_n hx hb dX2_hundredfoldMean_10 rfl (lv_at hl 4 rfl) ?_
  refine lv_aload_n hx hb dX2_hundredfoldMean_11 rfl (lv_at hl 2 rfl) ?_
  refine gO (T := TX4) C0 inA4 hK hP (xShip g ho hk) rfl 3 (by decide) (hts _ q88) (v := .int (S.1 o k 3)) rfl dX2_hundredfoldMean_12 ?_
  refine lv_isub hx hb dX2_hundredfoldMean_15 ?_
  refine lv_imul hx hb dX2_hundredfoldMean_16 ?_
  refine lv_bipush (v := 100) hx hb dX2_hundredfoldMean_17 (by decide) ?_
  refine lv_iload hx hb dX2_hundredfoldMean_19 (lv_at hl 0 rfl) ?_
  refine lv_isub hx hb dX2_hundredfoldMean_21 ?_
  refine lv_iload_n hx hb dX2_hundredfoldMean_22 rfl (lv_at hl 3 rfl) ?_
  refine lv_imul hx hb dX2_hundredfoldMean_23 ?_
  refine lv_aload_n hx hb dX2_hundredfoldMean_24 rfl (lv_at hl 1 rfl) ?_
  refine gO (T := TX2) C0 inA2 hK hP (xOwner g ho) rfl 2 (by decide) (hts _ q116) (v := .int (S.1 o 6 1)) rfl dX2_hundredfoldMean_25 ?_
  refine lv_imul hx hb dX2_hundredfoldMean_28 ?_
  refine lv_iadd hx hb dX2_hundredfoldMean_29 ?_
  exact ri hQ C0 hr hlocks hK hP hS (by rw [← hF]; exact ⟨hf.symm, rfl⟩) dX2_hundredfoldMean_30
def LX2_hundredfoldMeanOfAll_4 (S : St) (o : Nat) : Nat → Nat → Int32 → Int32
  | 0, zi1, zx3 => zx3
  | zk2 + 1, zi1, zx3 => (if isAf S o (nI zi1) then (bnd (zx3 + (tX2_hundredfoldMean S o (Int32.toNatClampNeg (nI zi1)) (S.1 o (Int32.toNatClampNeg (nI zi1)) 5) (tX4_allSums S o (Int32.toNatClampNeg (nI zi1))))) (fun zx7 => (LX2_hundredfoldMeanOfAll_4 S o zk2 (zi1 + 1) zx7))) else (LX2_hundredfoldMeanOfAll_4 S o zk2 (zi1 + 1) zx3))
def tX2_hundredfoldMeanOfAll (S : St) (o : Nat) : Int32 :=
  (LX2_hundredfoldMeanOfAll_4 S o 6 0 0)
set_option maxHeartbeats 4000000 in
set_option maxRecDepth 100000 in
theorem kX2_hundredfoldMeanOfAll (l : Launch) (g : Gd) (A : Nat → Prop) (hA : Ads g.1 VX A) (S : St) (o : Nat) (ho : o < 4) : Met l yX2_hundredfoldMeanOfAll (wU yX2_hundredfoldMeanOfAll cX2_hundredfoldMeanOfAll 4 (some .int)) { frames := 3, cells := 0, slots := 0, locals := 65 } (va_Pc [.ref (g.1 o 6)] (PW VX ctX g S)) (va_Qi (fun r u => r = tX2_hundredfoldMeanOfAll S o ∧ u = S) (fun u U => PW VX ctX g u U) A) 0 0 A := by
  refine ent (cc := cX2_hundredfoldMeanOfAll) (maxL := 4) (ret := (some .int)) (by decide) (Nat.le_of_ble_eq_true rfl) ?_
  intro p e s m below meth c args Q C0 hr hlocks hP hK hQ ls hl
  have hx := C0.1
  have hb := C0.2.1
  have hml := C0.2.2.1
  have hown := C0.2.2.2.1
  have hts := C0.2.2.2.2
  obtain ⟨F, hF⟩ : ∃ F : Int32, F = tX2_hundredfoldMeanOfAll S o := ⟨_, rfl⟩
  have hf := hF
  unfold tX2_hundredfoldMeanOfAll at hf
  have hS : va_S A s.heap s.heap [] := va_S.rf
  have hl : lv_has ls 4 [(0, .ref (g.1 o 6))] := hl
  refine lv_iconst (v := 0) hx hb dX2_hundredfoldMeanOfAll_0 (by decide) ?_
  refine lv_istore_n (lv' := [(1, .int 0), (0, .ref (g.1 o 6))]) hx hb dX2_hundredfoldMeanOfAll_1 rfl hl (by decide) rfl (fun ls hl => ?_)
  refine lv_iconst (v := 0) hx hb dX2_hundredfoldMeanOfAll_2 (by decide) ?_
  refine lv_istore_n (lv' := [(2, .int 0), (1, .int 0), (0, .ref (g.1 o 6))]) hx hb dX2_hundredfoldMeanOfAll_3 rfl hl (by decide) rfl (fun ls hl => ?_)
  have lp4 : ∀ (zk2 zi1 : Nat) (zx3 : Int32) (H : Heap) (locs : List Loc), (zi1 + zk2 = 6) → (F = LX2_hundredfoldMeanOfAll_4 S o zk2 zi1 zx3) → HW VX ctX g S H → va_S A s.heap H locs → ∀ ls : Array Slot, lv_has ls 4 [(2, .int (nI zi1)), (0, .ref (g.1 o 6)), (1, .int zx3)] → W p l e { frames := 3, cells := 0, slots := 0, locals := 65 } s m args below meth c H locs 0 0 Q (F0 m 4 ls []) := by
    intro zk2
    induction zk2 with
    | zero =>
      intro zi1 zx3 H locs hik hf hP hS ls hl
      rw [LX2_hundredfoldMeanOfAll_4] at hf
      refine lv_iload_n hx hb dX2_hundredfoldMeanOfAll_4 rfl (lv_at hl 0 rfl) ?_
      refine lv_bipush (v := 6) hx hb dX2_hundredfoldMeanOfAll_5 (by decide) ?_
      refine lv_icmp_ge (tgt := 42) hx hb dX2_hundredfoldMeanOfAll_7 (by decide) (fun zc4 => ?_) (fun zc4 => absurd (up_ge0 rfl hik (by decide)) zc4)
      refine lv_iload_n hx hb dX2_hundredfoldMeanOfAll_42 rfl (lv_at hl 2 rfl) ?_
      exact ri hQ C0 hr hlocks hK hP hS (by rw [← hF]; exact ⟨hf.symm, rfl⟩) dX2_hundredfoldMeanOfAll_43
    | succ zk2 ih4 =>
      intro zi1 zx3 H locs hik hf hP hS ls hl
      rw [LX2_hundredfoldMeanOfAll_4] at hf
      refine lv_iload_n hx hb dX2_hundredfoldMeanOfAll_4 rfl (lv_at hl 0 rfl) ?_
      refine lv_bipush (v := 6) hx hb dX2_hundredfoldMeanOfAll_5 (by decide) ?_
      refine lv_icmp_ge (tgt := 42) hx hb dX2_hundredfoldMeanOfAll_7 (by decide) (fun zc5 => absurd zc5 (up_ge1 rfl hik (by decide))) (fun zc5 => ?_)
      refine lv_aload_n hx hb dX2_hundredfoldMeanOfAll_10 rfl (lv_at hl 1 rfl) ?_
      refine lv_iload_n hx hb dX2_hundredfoldMeanOfAll_11 rfl (lv_at hl 0 rfl) ?_
      refine kqc (va_runV (As := [.int (nI zi1)]) (rest := []) C0 (kX2_shipAfloatAt l g A hA S o (nI zi1) ho) (cwV 1 hts (gV q524 q525 q526 q47 q527) rfl rfl rfl (by decide +kernel) ⟨Nat.le_of_ble_eq_true rfl, Nat.le_of_ble_eq_true rfl⟩) (preV (recO (xOwner g ho) hP hK rfl) hP hK) rfl rfl hl.1 rfl (lv_room (Nat.le_of_ble_eq_true rfl)) dX2_hundredfoldMeanOfAll_12 ⟨Nat.zero_le _, Nat.zero_le _⟩) hS (fun _ h => h) (fun zc6 H locs hP hS => ?_) (fun zc6 H locs hP hS => ?_)
      · have hf := hf.trans (if_pos zc6)
        refine lv_astore_n (lv' := [(3, .ref (g.1 o (Int32.toNatClampNeg (nI zi1)))), (2, .int (nI zi1)), (0, .ref (g.1 o 6)), (1, .int zx3)]) hx hb dX2_hundredfoldMeanOfAll_15 rfl hl (by decide) rfl (fun ls hl => ?_)
        refine lv_aload_n hx hb dX2_hundredfoldMeanOfAll_16 rfl (lv_at hl 0 rfl) ?_
        refine lv_ifnull hx hb dX2_hundredfoldMeanOfAll_17 ?_
        refine lv_iload_n hx hb dX2_hundredfoldMeanOfAll_20 rfl (lv_at hl 3 rfl) ?_
        refine lv_aload_n hx hb dX2_hundredfoldMeanOfAll_21 rfl (lv_at hl 2 rfl) ?_
        refine lv_aload_n hx hb dX2_hundredfoldMeanOfAll_22 rfl (lv_at hl 0 rfl) ?_
        refine lv_aload_n hx hb dX2_hundredfoldMeanOfAll_23 rfl (lv_at hl 0 rfl) ?_
        refine gO (T := TX4) C0 inA4 hK hP (xShip g (by omega) (plc_lt zc6.1.1)) rfl 5 (by decide) (hts _ q95) (v := .int (S.1 o (Int32.toNatClampNeg (nI zi1)) 5)) rfl dX2_hundredfoldMeanOfAll_24 ?_
        refine lv_aload_n hx hb dX2_hundredfoldMeanOfAll_27 rfl (lv_at hl 0 rfl) ?_
        refine kiP (va_runV (As := []) (rest := [.int (S.1 o (Int32.toNatClampNeg (nI zi1)) 5), .ref (g.1 o (Int32.toNatClampNeg (nI zi1))), .ref (g.1 o 6), .int zx3]) C0 (kX4_allSums l g A hA S o (Int32.toNatClampNeg (nI zi1)) (by omega) (plc_lt zc6.1.1)) (cwV 0 hts (gV q456 q457 q458 q48 q459) rfl rfl rfl (by decide +kernel) ⟨Nat.le_of_ble_eq_true rfl, Nat.le_of_ble_eq_true rfl⟩) (preV (recO (xShip g (by omega) (plc_lt zc6.1.1)) hP hK rfl) hP hK) rfl rfl hl.1 rfl (lv_room (Nat.le_of_ble_eq_true rfl)) dX2_hundredfoldMeanOfAll_28 ⟨Nat.zero_le _, Nat.zero_le _⟩) hS (fun _ h => h) (fun H locs hP hS => ?_)
        refine kiP (va_runV (As := [.ref (g.1 o (Int32.toNatClampNeg (nI zi1))), .int (S.1 o (Int32.toNatClampNeg (nI zi1)) 5), .int (tX4_allSums S o (Int32.toNatClampNeg (nI zi1)))]) (rest := [.int zx3]) C0 (kX2_hundredfoldMean l g A hA S o (Int32.toNatClampNeg (nI zi1)) (S.1 o (Int32.toNatClampNeg (nI zi1)) 5) (tX4_allSums S o (Int32.toNatClampNeg (nI zi1))) (by omega) (plc_lt zc6.1.1)) (cwV 3 hts (gV q511 q490 q491 q47 q492) rfl rfl rfl (by decide +kernel) ⟨Nat.le_of_ble_eq_true rfl, Nat.le_of_ble_eq_true rfl⟩) (preV (recO (xOwner g ho) hP hK rfl) hP hK) rfl rfl hl.1 rfl (lv_room (Nat.le_of_ble_eq_true rfl)) dX2_hundredfoldMeanOfAll_31 ⟨Nat.zero_le _, Nat.zero_le _⟩) hS (fun _ h => h) (fun H locs hP hS => ?_)
        refine lv_iadd hx hb dX2_hundredfoldMeanOfAll_34 ?_
        refine lv_topi (fun zx7 hzx7 => ?_)
        have hf := hf.trans (bnd_eq hzx7)
        refine lv_istore_n (lv' := [(1, .int zx7), (3, .ref (g.1 o (Int32.toNatClampNeg (nI zi1)))), (2, .int (nI zi1)), (0, .ref (g.1 o 6))]) hx hb dX2_hundredfoldMeanOfAll_35 rfl hl (by decide) rfl (fun ls hl => ?_)
        refine lv_iinc (v := (nI (zi1 + 1))) (lv' := [(2, .int (nI (zi1 + 1))), (1, .int zx7), (3, .ref (g.1 o (Int32.toNatClampNeg (nI zi1)))), (0, .ref (g.1 o 6))]) hx hb dX2_hundredfoldMeanOfAll_36 hl (k := 2) rfl (nI_1 _) (by decide) rfl (fun ls hl => ?_)
        refine lv_goto (tgt := 4) hx hb dX2_hundredfoldMeanOfAll_39 (by decide) ?_
        exact ih4 (zi1 + 1) zx7 _ _ (by omega) hf hP hS ls (lv_sub hl [0, 3, 1] rfl)
      · have hf := hf.trans (if_neg zc6)
        refine lv_astore_nN (lv' := [(3, .null), (2, .int (nI zi1)), (0, .ref (g.1 o 6)), (1, .int zx3)]) hx hb dX2_hundredfoldMeanOfAll_15 rfl hl (by decide) rfl (fun ls hl => ?_)
        refine lv_aload_nN hx hb dX2_hundredfoldMeanOfAll_16 rfl (lv_at hl 0 rfl) ?_
        refine lv_ifnullN (tgt := 36) hx hb dX2_hundredfoldMeanOfAll_17 (by decide) ?_
        refine lv_iinc (v := (nI (zi1 + 1))) (lv' := [(2, .int (nI (zi1 + 1))), (3, .null), (0, .ref (g.1 o 6)), (1, .int zx3)]) hx hb dX2_hundredfoldMeanOfAll_36 hl (k := 1) rfl (nI_1 _) (by decide) rfl (fun ls hl => ?_)
        refine lv_goto (tgt := 4) hx hb dX2_hundredfoldMeanOfAll_39 (by decide) ?_
        exact ih4 (zi1 + 1) zx3 _ _ (by omega) hf hP hS ls (lv_sub hl [0, 2, 3] rfl)
  exact lp4 6 0 0 _ _ (by decide) hf hP hS ls (lv_sub hl [0, 2, 1] rfl)
def LX2_deepestFor_5 (S : St) (o : Nat) (k : Nat) (p1 : Int32) : Nat → Nat → Int32 → Int32
  | 0, zi1, zx3 => zx3
  | zk2 + 1, zi1, zx3 => (if (tX2_hundredfoldMean S o k (nI zi1) p1) ≤ (tX2_hundredfoldMean S o k zx3 p1) then (LX2_deepestFor_5 S o k p1 zk2 (zi1 + 1) zx3) else (LX2_deepestFor_5 S o k p1 zk2 (zi1 + 1) (nI zi1)))
def tX2_deepestFor (S : St) (o : Nat) (k : Nat) (p1 : Int32) : Int32 :=
  (LX2_deepestFor_5 S o k p1 8 2 1)
set_option maxHeartbeats 4000000 in
set_option maxRecDepth 100000 in
theorem kX2_deepestFor (l : Launch) (g : Gd) (A : Nat → Prop) (hA : Ads g.1 VX A) (S : St) (o : Nat) (k : Nat) (p1 : Int32) (ho : o < 4) (hk : k < 6) : Met l yX2_deepestFor (wU yX2_deepestFor cX2_deepestFor 5 (some .int)) { frames := 2, cells := 0, slots := 0, locals := 46 } (va_Pc [.ref (g.1 o 6), .ref (g.1 o k), .int p1] (PW VX ctX g S)) (va_Qi (fun r u => r = tX2_deepestFor S o k p1 ∧ u = S) (fun u U => PW VX ctX g u U) A) 0 0 A := by
  refine ent (cc := cX2_deepestFor) (maxL := 5) (ret := (some .int)) (by decide) (Nat.le_of_ble_eq_true rfl) ?_
  intro p e s m below meth c args Q C0 hr hlocks hP hK hQ ls hl
  have hx := C0.1
  have hb := C0.2.1
  have hml := C0.2.2.1
  have hown := C0.2.2.2.1
  have hts := C0.2.2.2.2
  obtain ⟨F, hF⟩ : ∃ F : Int32, F = tX2_deepestFor S o k p1 := ⟨_, rfl⟩
  have hf := hF
  unfold tX2_deepestFor at hf
  have hS : va_S A s.heap s.heap [] := va_S.rf
  have hl : lv_has ls 5 [(0, .ref (g.1 o 6)), (1, .ref (g.1 o k)), (2, .int p1)] := hl
  refine lv_iconst (v := 1) hx hb dX2_deepestFor_0 (by decide) ?_
  refine lv_istore_n (lv' := [(3, .int 1), (0, .ref (g.1 o 6)), (1, .ref (g.1 o k)), (2, .int p1)]) hx hb dX2_deepestFor_1 rfl hl (by decide) rfl (fun ls hl => ?_)
  refine lv_iconst (v := 2) hx hb dX2_deepestFor_2 (by decide) ?_
  refine lv_istore (lv' := [(4, .int 2), (3, .int 1), (0, .ref (g.1 o 6)), (1, .ref (g.1 o k)), (2, .int p1)]) hx hb dX2_deepestFor_3 hl (by decide) rfl (fun ls hl => ?_)
  have lp5 : ∀ (zk2 zi1 : Nat) (zx3 : Int32) (H : Heap) (locs : List Loc), (zi1 + zk2 = 10) → (F = LX2_deepestFor_5 S o k p1 zk2 zi1 zx3) → HW VX ctX g S H → va_S A s.heap H locs → ∀ ls : Array Slot, lv_has ls 5 [(4, .int (nI zi1)), (0, .ref (g.1 o 6)), (1, .ref (g.1 o k)), (2, .int p1), (3, .int zx3)] → W p l e { frames := 2, cells := 0, slots := 0, locals := 46 } s m args below meth c H locs 0 0 Q (F0 m 5 ls []) := by
    intro zk2
    induction zk2 with
    | zero =>
      intro zi1 zx3 H locs hik hf hP hS ls hl
      rw [LX2_deepestFor_5] at hf
      refine lv_iload hx hb dX2_deepestFor_5 (lv_at hl 0 rfl) ?_
      refine lv_bipush (v := 9) hx hb dX2_deepestFor_7 (by decide) ?_
      refine lv_icmp_gt (tgt := 39) hx hb dX2_deepestFor_9 (by decide) (fun zc4 => ?_) (fun zc4 => absurd (up_gt0 (rfl : (9 : Int32) = nI 9) hik (by decide)) zc4)
      refine lv_iload_n hx hb dX2_deepestFor_39 rfl (lv_at hl 4 rfl) ?_
      exact ri hQ C0 hr hlocks hK hP hS (by rw [← hF]; exact ⟨hf.symm, rfl⟩) dX2_deepestFor_40
    | succ zk2 ih5 =>
      intro zi1 zx3 H locs hik hf hP hS ls hl
      rw [LX2_deepestFor_5] at hf
      refine lv_iload hx hb dX2_deepestFor_5 (lv_at hl 0 rfl) ?_
      refine lv_bipush (v := 9) hx hb dX2_deepestFor_7 (by decide) ?_
      refine lv_icmp_gt (tgt := 39) hx hb dX2_deepestFor_9 (by decide) (fun zc5 => absurd zc5 (up_gt1 (rfl : (9 : Int32) = nI 9) hik (by decide))) (fun zc5 => ?_)
      refine lv_aload_n hx hb dX2_deepestFor_12 rfl (lv_at hl 1 rfl) ?_
      refine lv_aload_n hx hb dX2_deepestFor_13 rfl (lv_at hl 2 rfl) ?_
      refine lv_iload hx hb dX2_deepestFor_14 (lv_at hl 0 rfl) ?_
      refine lv_iload_n hx hb dX2_deepestFor_16 rfl (lv_at hl 3 rfl) ?_
      refine kiP (va_runV (As := [.ref (g.1 o k), .int (nI zi1), .int p1]) (rest := []) C0 (kX2_hundredfoldMean l g A hA S o k (nI zi1) p1 ho hk) (cwV 3 hts (gV q511 q490 q491 q47 q492) rfl rfl rfl (by decide +kernel) ⟨Nat.le_of_ble_eq_true rfl, Nat.le_of_ble_eq_true rfl⟩) (preV (recO (xOwner g ho) hP hK rfl) hP hK) rfl rfl hl.1 rfl (lv_room (Nat.le_of_ble_eq_true rfl)) dX2_deepestFor_17 ⟨Nat.zero_le _, Nat.zero_le _⟩) hS (fun _ h => h) (fun H locs hP hS => ?_)
      refine lv_aload_n hx hb dX2_deepestFor_20 rfl (lv_at hl 1 rfl) ?_
      refine lv_aload_n hx hb dX2_deepestFor_21 rfl (lv_at hl 2 rfl) ?_
      refine lv_iload_n hx hb dX2_deepestFor_22 rfl (lv_at hl 4 rfl) ?_
      refine lv_iload_n hx hb dX2_deepestFor_23 rfl (lv_at hl 3 rfl) ?_
      refine kiP (va_runV (As := [.ref (g.1 o k), .int zx3, .int p1]) (rest := [.int (tX2_hundredfoldMean S o k (nI zi1) p1)]) C0 (kX2_hundredfoldMean l g A hA S o k zx3 p1 ho hk) (cwV 3 hts (gV q511 q490 q491 q47 q492) rfl rfl rfl (by decide +kernel) ⟨Nat.le_of_ble_eq_true rfl, Nat.le_of_ble_eq_true rfl⟩) (preV (recO (xOwner g ho) hP hK rfl) hP hK) rfl rfl hl.1 rfl (lv_room (Nat.le_of_ble_eq_true rfl)) dX2_deepestFor_24 ⟨Nat.zero_le _, Nat.zero_le _⟩) hS (fun _ h => h) (fun H locs hP hS => ?_)
      refine lv_icmp_le (tgt := 33) hx hb dX2_deepestFor_27 (by decide) (fun zc6 => ?_) (fun zc6 => ?_)
      · have hf := hf.trans (if_pos zc6)
        refine lv_iinc (v := (nI (zi1 + 1))) (lv' := [(4, .int (nI (zi1 + 1))), (0, .ref (g.1 o 6)), (1, .ref (g.1 o k)), (2, .int p1), (3, .int zx3)]) hx hb dX2_deepestFor_33 hl (k := 0) rfl (nI_1 _) (by decide) rfl (fun ls hl => ?_)
        refine lv_goto (tgt := 5) hx hb dX2_deepestFor_36 (by decide) ?_
        exact ih5 (zi1 + 1) zx3 _ _ (by omega) hf hP hS ls (lv_sub hl [0, 1, 2, 3, 4] rfl)
      · have hf := hf.trans (if_neg zc6)
        refine lv_iload hx hb dX2_deepestFor_30 (lv_at hl 0 rfl) ?_
        refine lv_istore_n (lv' := [(3, .int (nI zi1)), (4, .int (nI zi1)), (0, .ref (g.1 o 6)), (1, .ref (g.1 o k)), (2, .int p1)]) hx hb dX2_deepestFor_32 rfl hl (by decide) rfl (fun ls hl => ?_)
        refine lv_iinc (v := (nI (zi1 + 1))) (lv' := [(4, .int (nI (zi1 + 1))), (3, .int (nI zi1)), (0, .ref (g.1 o 6)), (1, .ref (g.1 o k)), (2, .int p1)]) hx hb dX2_deepestFor_33 hl (k := 1) rfl (nI_1 _) (by decide) rfl (fun ls hl => ?_)
        refine lv_goto (tgt := 5) hx hb dX2_deepestFor_36 (by decide) ?_
        exact ih5 (zi1 + 1) (nI zi1) _ _ (by omega) hf hP hS ls (lv_sub hl [0, 2, 3, 4, 1] rfl)
  exact lp5 8 2 1 _ _ (by decide) hf hP hS ls (lv_sub hl [0, 2, 3, 4, 1] rfl)
def LX2_addChance_5 (S : St) (p1 : Int32) : Nat → St → St
  | 0, zS3 => zS3
  | zk2 + 1, zS3 => (if (nI zk2) ≤ 0 then (LX2_addChance_5 S p1 zk2 (uL zS3 zk2 (((zS3.2 zk2) * (Int32.toInt64 (100 - p1))) + (0 * (Int32.toInt64 p1))))) else (bnd (uL zS3 zk2 (((zS3.2 zk2) * (Int32.toInt64 (100 - p1))) + ((zS3.2 (Int32.toNatClampNeg ((nI zk2) - 1))) * (Int32.toInt64 p1)))) (fun zS7 => (LX2_addChance_5 S p1 zk2 zS7))))
def tX2_addChance (S : St) (p1 : Int32) : St :=
  (LX2_addChance_5 S p1 7 S)
set_option maxHeartbeats 4000000 in
set_option maxRecDepth 100000 in
theorem kX2_addChance (l : Launch) (g : Gd) (A : Nat → Prop) (hA : Ads g.1 VX A) (S : St) (p1 : Int32) : Met l yX2_addChance (wU yX2_addChance cX2_addChance 5 none) { frames := 0, cells := 0, slots := 0, locals := 0 } (va_Pc [.ref (g.1 12 2), .int p1] (PW VX ctX g S)) (va_Qv (fun u => u = tX2_addChance S p1) (fun u U => PW VX ctX g u U) A) 0 0 A := by
  refine ent (cc := cX2_addChance) (maxL := 5) (ret := none) (by decide) (Nat.le_of_ble_eq_true rfl) ?_
  intro p e s m below meth c args Q C0 hr hlocks hP hK hQ ls hl
  have hx := C0.1
  have hb := C0.2.1
  have hml := C0.2.2.1
  have hown := C0.2.2.2.1
  have hts := C0.2.2.2.2
  obtain ⟨F, hF⟩ : ∃ F : St, F = tX2_addChance S p1 := ⟨_, rfl⟩
  have hf := hF
  unfold tX2_addChance at hf
  have hS : va_S A s.heap s.heap [] := va_S.rf
  have hl : lv_has ls 5 [(0, .ref (g.1 12 2)), (1, .int p1)] := hl
  refine lv_aload_n hx hb dX2_addChance_0 rfl (lv_at hl 0 rfl) ?_
  refine lenJ (v := 7) C0 hK hP (xChances g) rfl dX2_addChance_1 ?_
  refine lv_iconst (v := 1) hx hb dX2_addChance_2 (by decide) ?_
  refine lv_isub hx hb dX2_addChance_3 ?_
  refine lv_istore_n (lv' := [(2, .int (7 - 1)), (0, .ref (g.1 12 2)), (1, .int p1)]) hx hb dX2_addChance_4 rfl hl (by decide) rfl (fun ls hl => ?_)
  have lp5 : ∀ (zk2 : Nat) (zS3 : St) (H : Heap) (locs : List Loc), (zk2 ≤ 7) → (F = LX2_addChance_5 S p1 zk2 zS3) → HW VX ctX g zS3 H → va_S A s.heap H locs → ∀ ls : Array Slot, lv_has ls 5 [(2, .int (nI zk2 - 1)), (0, .ref (g.1 12 2)), (1, .int p1)] → W p l e { frames := 0, cells := 0, slots := 0, locals := 0 } s m args below meth c H locs 0 0 Q (F0 m 5 ls []) := by
    intro zk2
    induction zk2 with
    | zero =>
      intro zS3 H locs hik hf hP hS ls hl
      rw [LX2_addChance_5] at hf
      refine lv_iload_n hx hb dX2_addChance_5 rfl (lv_at hl 0 rfl) ?_
      refine lv_if_lt (tgt := 46) hx hb dX2_addChance_6 (by decide) (fun zc4 => ?_) (fun zc4 => absurd (by decide) zc4)
      exact rv hQ C0 hr hlocks hK hP hS (by rw [← hF]; exact hf.symm) dX2_addChance_46
    | succ zk2 ih5 =>
      intro zS3 H locs hik hf hP hS ls hl
      rw [LX2_addChance_5] at hf
      rw [nI_pred] at hl
      refine lv_iload_n hx hb dX2_addChance_5 rfl (lv_at hl 0 rfl) ?_
      refine lv_if_lt (tgt := 46) hx hb dX2_addChance_6 (by decide) (fun zc5 => absurd zc5 (nI_pos (by omega))) (fun zc5 => ?_)
      refine lv_iload_n hx hb dX2_addChance_9 rfl (lv_at hl 0 rfl) ?_
      refine lv_if_le (tgt := 21) hx hb dX2_addChance_10 (by decide) (fun zc6 => ?_) (fun zc6 => ?_)
      · have hf := hf.trans (if_pos zc6)
        refine lv_lconst (v := 0) hx hb dX2_addChance_21 (by decide) ?_
        refine lv_lstore_n (lv' := [(3, .long 0), (2, .int (nI zk2)), (0, .ref (g.1 12 2)), (1, .int p1)]) hx hb dX2_addChance_22 rfl hl (by decide) rfl (fun ls hl => ?_)
        refine lv_aload_n hx hb dX2_addChance_23 rfl (lv_at hl 2 rfl) ?_
        refine lv_iload_n hx hb dX2_addChance_24 rfl (lv_at hl 1 rfl) ?_
        refine lv_aload_n hx hb dX2_addChance_25 rfl (lv_at hl 2 rfl) ?_
        refine lv_iload_n hx hb dX2_addChance_26 rfl (lv_at hl 1 rfl) ?_
        refine gJ C0 hK hP (xChances g) (vp_in_nI (by omega) (by decide)) dX2_addChance_27 ?_
        rw [nI_clamp (n := zk2) (by omega)]
        refine lv_bipush (v := 100) hx hb dX2_addChance_28 (by decide) ?_
        refine lv_iload_n hx hb dX2_addChance_30 rfl (lv_at hl 3 rfl) ?_
        refine lv_isub hx hb dX2_addChance_31 ?_
        refine lv_i2l (v := (Int32.toInt64 (100 - p1))) hx hb dX2_addChance_32 rfl ?_
        refine lv_lmul hx hb dX2_addChance_33 ?_
        refine lv_lload_n hx hb dX2_addChance_34 rfl (lv_at hl 0 rfl) ?_
        refine lv_iload_n hx hb dX2_addChance_35 rfl (lv_at hl 3 rfl) ?_
        refine lv_i2l (v := (Int32.toInt64 p1)) hx hb dX2_addChance_36 rfl ?_
        refine lv_lmul hx hb dX2_addChance_37 ?_
        refine lv_ladd hx hb dX2_addChance_38 ?_
        refine pJ C0 hK hP hA hS (xChances g) (vp_in_nI (by omega) (by decide)) dX2_addChance_39 (fun H locs hP hS => ?_)
        rw [nI_clamp (n := zk2) (by omega)] at hP
        refine lv_iinc (v := ((nI zk2) + (-1))) (lv' := [(2, .int ((nI zk2) + (-1))), (3, .long 0), (0, .ref (g.1 12 2)), (1, .int p1)]) hx hb dX2_addChance_40 hl (k := 1) rfl rfl (by decide) rfl (fun ls hl => ?_)
        refine lv_goto (tgt := 5) hx hb dX2_addChance_43 (by decide) ?_
        exact ih5 (uL zS3 zk2 (((zS3.2 zk2) * (Int32.toInt64 (100 - p1))) + (0 * (Int32.toInt64 p1)))) _ _ (by omega) hf hP hS ls (lv_sub (lv_eqI hl (m1_eq _)) [0, 2, 3] rfl)
      · have hf := hf.trans (if_neg zc6)
        refine lv_aload_n hx hb dX2_addChance_13 rfl (lv_at hl 1 rfl) ?_
        refine lv_iload_n hx hb dX2_addChance_14 rfl (lv_at hl 0 rfl) ?_
        refine lv_iconst (v := 1) hx hb dX2_addChance_15 (by decide) ?_
        refine lv_isub hx hb dX2_addChance_16 ?_
        refine gJ C0 hK hP (xChances g) (vpm1 zc6 (by omega) (by decide)) dX2_addChance_17 ?_
        refine lv_goto (tgt := 22) hx hb dX2_addChance_18 (by decide) ?_
        refine lv_lstore_n (lv' := [(3, .long (zS3.2 (Int32.toNatClampNeg ((nI zk2) - 1)))), (2, .int (nI zk2)), (0, .ref (g.1 12 2)), (1, .int p1)]) hx hb dX2_addChance_22 rfl hl (by decide) rfl (fun ls hl => ?_)
        refine lv_aload_n hx hb dX2_addChance_23 rfl (lv_at hl 2 rfl) ?_
        refine lv_iload_n hx hb dX2_addChance_24 rfl (lv_at hl 1 rfl) ?_
        refine lv_aload_n hx hb dX2_addChance_25 rfl (lv_at hl 2 rfl) ?_
        refine lv_iload_n hx hb dX2_addChance_26 rfl (lv_at hl 1 rfl) ?_
        refine gJ C0 hK hP (xChances g) (vp_in_nI (by omega) (by decide)) dX2_addChance_27 ?_
        rw [nI_clamp (n := zk2) (by omega)]
        refine lv_bipush (v := 100) hx hb dX2_addChance_28 (by decide) ?_
        refine lv_iload_n hx hb dX2_addChance_30 rfl (lv_at hl 3 rfl) ?_
        refine lv_isub hx hb dX2_addChance_31 ?_
        refine lv_i2l (v := (Int32.toInt64 (100 - p1))) hx hb dX2_addChance_32 rfl ?_
        refine lv_lmul hx hb dX2_addChance_33 ?_
        refine lv_lload_n hx hb dX2_addChance_34 rfl (lv_at hl 0 rfl) ?_
        refine lv_iload_n hx hb dX2_addChance_35 rfl (lv_at hl 3 rfl) ?_
        refine lv_i2l (v := (Int32.toInt64 p1)) hx hb dX2_addChance_36 rfl ?_
        refine lv_lmul hx hb dX2_addChance_37 ?_
        refine lv_ladd hx hb dX2_addChance_38 ?_
        refine pJ C0 hK hP hA hS (xChances g) (vp_in_nI (by omega) (by decide)) dX2_addChance_39 (fun H locs hP hS => ?_)
        rw [nI_clamp (n := zk2) (by omega)] at hP
        obtain ⟨zS7, hzS7⟩ : ∃ z : St, z = (uL zS3 zk2 (((zS3.2 zk2) * (Int32.toInt64 (100 - p1))) + ((zS3.2 (Int32.toNatClampNeg ((nI zk2) - 1))) * (Int32.toInt64 p1)))) := ⟨_, rfl⟩
        rw [← hzS7] at hP
        have hf := hf.trans (bnd_eq hzS7)
        refine lv_iinc (v := ((nI zk2) + (-1))) (lv' := [(2, .int ((nI zk2) + (-1))), (3, .long (zS3.2 (Int32.toNatClampNeg ((nI zk2) - 1)))), (0, .ref (g.1 12 2)), (1, .int p1)]) hx hb dX2_addChance_40 hl (k := 1) rfl rfl (by decide) rfl (fun ls hl => ?_)
        refine lv_goto (tgt := 5) hx hb dX2_addChance_43 (by decide) ?_
        exact ih5 zS7 _ _ (by omega) hf hP hS ls (lv_sub (lv_eqI hl (m1_eq _)) [0, 2, 3] rfl)
  exact lp5 7 S _ _ (by decide) hf hP hS ls (lv_sub (lv_eqI hl (by decide)) [0, 1, 2] rfl)
def LX2_fillChances_31 (S : St) (o : Nat) : Nat → Nat → Int64 → St → Int64 × St
  | 0, zi5, zx7, zS8 => (zx7, zS8)
  | zk6 + 1, zi5, zx7, zS8 => (if isAf zS8 o (nI zi5) then (bnd (tX2_addChance zS8 (tX2_riskWith zS8 o (Int32.toNatClampNeg (nI zi5)) (zS8.1 o (Int32.toNatClampNeg (nI zi5)) 5))) (fun zS12 => (LX2_fillChances_31 S o zk6 (zi5 + 1) (zx7 * 100) zS12))) else (LX2_fillChances_31 S o zk6 (zi5 + 1) zx7 zS8))
def LX2_fillChances_2 (S : St) (o : Nat) : Nat → Nat → St → Int64 × St
  | 0, zi1, zS3 => (LX2_fillChances_31 S o 6 0 1 zS3)
  | zk2 + 1, zi1, zS3 => (if (nI zi1) = 0 then (LX2_fillChances_2 S o zk2 (zi1 + 1) (uL zS3 zi1 1)) else (LX2_fillChances_2 S o zk2 (zi1 + 1) (uL zS3 zi1 0)))
def tX2_fillChances (S : St) (o : Nat) : Int64 × St :=
  (LX2_fillChances_2 S o 7 0 S)
set_option maxHeartbeats 4000000 in
set_option maxRecDepth 100000 in
theorem kX2_fillChances (l : Launch) (g : Gd) (A : Nat → Prop) (hA : Ads g.1 VX A) (S : St) (o : Nat) (ho : o < 4) : Met l yX2_fillChances (wU yX2_fillChances cX2_fillChances 6 (some .long)) { frames := 3, cells := 0, slots := 0, locals := 65 } (va_Pc [.ref (g.1 o 6), .ref (g.1 12 2)] (PW VX ctX g S)) (va_Ql (fun r u => r = (tX2_fillChances S o).1 ∧ u = (tX2_fillChances S o).2) (fun u U => PW VX ctX g u U) A) 0 0 A := by
  refine ent (cc := cX2_fillChances) (maxL := 6) (ret := (some .long)) (by decide) (Nat.le_of_ble_eq_true rfl) ?_
  intro p e s m below meth c args Q C0 hr hlocks hP hK hQ ls hl
  have hx := C0.1
  have hb := C0.2.1
  have hml := C0.2.2.1
  have hown := C0.2.2.2.1
  have hts := C0.2.2.2.2
  obtain ⟨F, hF⟩ : ∃ F : Int64 × St, F = tX2_fillChances S o := ⟨_, rfl⟩
  have hf := hF
  unfold tX2_fillChances at hf
  have hS : va_S A s.heap s.heap [] := va_S.rf
  have hl : lv_has ls 6 [(0, .ref (g.1 o 6)), (1, .ref (g.1 12 2))] := hl
  refine lv_iconst (v := 0) hx hb dX2_fillChances_0 (by decide) ?_
  refine lv_istore_n (lv' := [(2, .int 0), (0, .ref (g.1 o 6)), (1, .ref (g.1 12 2))]) hx hb dX2_fillChances_1 rfl hl (by decide) rfl (fun ls hl => ?_)
  have lp2 : ∀ (zk2 zi1 : Nat) (zS3 : St) (H : Heap) (locs : List Loc), (zi1 + zk2 = 7) → (F = LX2_fillChances_2 S o zk2 zi1 zS3) → HW VX ctX g zS3 H → va_S A s.heap H locs → ∀ ls : Array Slot, lv_has ls 6 [(2, .int (nI zi1)), (0, .ref (g.1 o 6)), (1, .ref (g.1 12 2))] → W p l e { frames := 3, cells := 0, slots := 0, locals := 65 } s m args below meth c H locs 0 0 Q (F0 m 2 ls []) := by
    intro zk2
    induction zk2 with
    | zero =>
      intro zi1 zS3 H locs hik hf hP hS ls hl
      rw [LX2_fillChances_2] at hf
      refine lv_iload_n hx hb dX2_fillChances_2 rfl (lv_at hl 0 rfl) ?_
      refine lv_aload_n hx hb dX2_fillChances_3 rfl (lv_at hl 2 rfl) ?_
      refine lenJ (v := 7) C0 hK hP (xChances g) rfl dX2_fillChances_4 ?_
      refine lv_icmp_ge (tgt := 26) hx hb dX2_fillChances_5 (by decide) (fun zc4 => ?_) (fun zc4 => absurd (up_ge0 rfl hik (by decide)) zc4)
      refine lv_lconst (v := 1) hx hb dX2_fillChances_26 (by decide) ?_
      refine lv_lstore_n (lv' := [(2, .long 1), (0, .ref (g.1 o 6)), (1, .ref (g.1 12 2))]) hx hb dX2_fillChances_27 rfl hl (by decide) rfl (fun ls hl => ?_)
      refine lv_iconst (v := 0) hx hb dX2_fillChances_28 (by decide) ?_
      refine lv_istore (lv' := [(4, .int 0), (2, .long 1), (0, .ref (g.1 o 6)), (1, .ref (g.1 12 2))]) hx hb dX2_fillChances_29 hl (by decide) rfl (fun ls hl => ?_)
      have lp31 : ∀ (zk6 zi5 : Nat) (zx7 : Int64) (zS8 : St) (H : Heap) (locs : List Loc), (zi5 + zk6 = 6) → (F = LX2_fillChances_31 S o zk6 zi5 zx7 zS8) → HW VX ctX g zS8 H → va_S A s.heap H locs → ∀ ls : Array Slot, lv_has ls 6 [(4, .int (nI zi5)), (0, .ref (g.1 o 6)), (1, .ref (g.1 12 2)), (2, .long zx7)] → W p l e { frames := 3, cells := 0, slots := 0, locals := 65 } s m args below meth c H locs 0 0 Q (F0 m 31 ls []) := by
        intro zk6
        induction zk6 with
        | zero =>
          intro zi5 zx7 zS8 H locs hik hf hP hS ls hl
          rw [LX2_fillChances_31] at hf
          refine lv_iload hx hb dX2_fillChances_31 (lv_at hl 0 rfl) ?_
          refine lv_bipush (v := 6) hx hb dX2_fillChances_33 (by decide) ?_
          refine lv_icmp_ge (tgt := 78) hx hb dX2_fillChances_35 (by decide) (fun zc9 => ?_) (fun zc9 => absurd (up_ge0 rfl hik (by decide)) zc9)
          refine lv_lload_n hx hb dX2_fillChances_78 rfl (lv_at hl 3 rfl) ?_
          exact rl hQ C0 hr hlocks hK hP hS (by rw [← hF]; exact fin2 hf) dX2_fillChances_79
        | succ zk6 ih31 =>
          intro zi5 zx7 zS8 H locs hik hf hP hS ls hl
          rw [LX2_fillChances_31] at hf
          refine lv_iload hx hb dX2_fillChances_31 (lv_at hl 0 rfl) ?_
          refine lv_bipush (v := 6) hx hb dX2_fillChances_33 (by decide) ?_
          refine lv_icmp_ge (tgt := 78) hx hb dX2_fillChances_35 (by decide) (fun zc10 => absurd zc10 (up_ge1 rfl hik (by decide))) (fun zc10 => ?_)
          refine lv_aload_n hx hb dX2_fillChances_38 rfl (lv_at hl 1 rfl) ?_
          refine lv_iload hx hb dX2_fillChances_39 (lv_at hl 0 rfl) ?_
          refine kqc (va_runV (As := [.int (nI zi5)]) (rest := []) C0 (kX2_shipAfloatAt l g A hA zS8 o (nI zi5) ho) (cwV 1 hts (gV q524 q525 q526 q47 q527) rfl rfl rfl (by decide +kernel) ⟨Nat.le_of_ble_eq_true rfl, Nat.le_of_ble_eq_true rfl⟩) (preV (recO (xOwner g ho) hP hK rfl) hP hK) rfl rfl hl.1 rfl (lv_room (Nat.le_of_ble_eq_true rfl)) dX2_fillChances_41 ⟨Nat.zero_le _, Nat.zero_le _⟩) hS (fun _ h => h) (fun zc11 H locs hP hS => ?_) (fun zc11 H locs hP hS => ?_)
          · have hf := hf.trans (if_pos zc11)
            refine lv_astore (lv' := [(5, .ref (g.1 o (Int32.toNatClampNeg (nI zi5)))), (4, .int (nI zi5)), (0, .ref (g.1 o 6)), (1, .ref (g.1 12 2)), (2, .long zx7)]) hx hb dX2_fillChances_44 hl (by decide) rfl (fun ls hl => ?_)
            refine lv_aload hx hb dX2_fillChances_46 (lv_at hl 0 rfl) ?_
            refine lv_ifnull hx hb dX2_fillChances_48 ?_
            refine lv_aload_n hx hb dX2_fillChances_51 rfl (lv_at hl 3 rfl) ?_
            refine lv_aload_n hx hb dX2_fillChances_52 rfl (lv_at hl 2 rfl) ?_
            refine lv_aload hx hb dX2_fillChances_53 (lv_at hl 0 rfl) ?_
            refine lv_aload hx hb dX2_fillChances_55 (lv_at hl 0 rfl) ?_
            refine gO (T := TX4) C0 inA4 hK hP (xShip g (by omega) (plc_lt zc11.1.1)) rfl 5 (by decide) (hts _ q95) (v := .int (zS8.1 o (Int32.toNatClampNeg (nI zi5)) 5)) rfl dX2_fillChances_57 ?_
            refine kiP (va_runV (As := [.ref (g.1 o (Int32.toNatClampNeg (nI zi5))), .int (zS8.1 o (Int32.toNatClampNeg (nI zi5)) 5)]) (rest := [.ref (g.1 12 2)]) C0 (kX2_riskWith l g A hA zS8 o (Int32.toNatClampNeg (nI zi5)) (zS8.1 o (Int32.toNatClampNeg (nI zi5)) 5) (by omega) (plc_lt zc11.1.1)) (cwV 2 hts (gV q436 q437 q438 q47 q439) rfl rfl rfl (by decide +kernel) ⟨Nat.le_of_ble_eq_true rfl, Nat.le_of_ble_eq_true rfl⟩) (preV (recO (xOwner g ho) hP hK rfl) hP hK) rfl rfl hl.1 rfl (lv_room (Nat.le_of_ble_eq_true rfl)) dX2_fillChances_60 ⟨Nat.zero_le _, Nat.zero_le _⟩) hS (fun _ h => h) (fun H locs hP hS => ?_)
            refine kv (va_runS (As := [.ref (g.1 12 2), .int (tX2_riskWith zS8 o (Int32.toNatClampNeg (nI zi5)) (zS8.1 o (Int32.toNatClampNeg (nI zi5)) 5))]) (rest := []) C0 (kX2_addChance l g A hA zS8 (tX2_riskWith zS8 o (Int32.toNatClampNeg (nI zi5)) (zS8.1 o (Int32.toNatClampNeg (nI zi5)) 5))) (va_cwS 2 hts (gS q532 q533 q47 q534) rfl rfl rfl (by decide +kernel) ⟨Nat.le_of_ble_eq_true rfl, Nat.le_of_ble_eq_true rfl⟩) (preS hP hK) rfl rfl hl.1 rfl (lv_room (Nat.le_of_ble_eq_true rfl)) dX2_fillChances_63 ⟨Nat.zero_le _, Nat.zero_le _⟩) hS (fun _ h => h) (fun zS12 H locs hw hP hS => ?_)
            have hf := hf.trans (bnd_eq hw)
            refine lv_lload_n hx hb dX2_fillChances_66 rfl (lv_at hl 4 rfl) ?_
            refine lv_ldc2 (v := 100) hx hb hown (hts _ q535) dX2_fillChances_67 ?_
            refine lv_lmul hx hb dX2_fillChances_70 ?_
            refine lv_lstore_n (lv' := [(2, .long (zx7 * 100)), (5, .ref (g.1 o (Int32.toNatClampNeg (nI zi5)))), (4, .int (nI zi5)), (0, .ref (g.1 o 6)), (1, .ref (g.1 12 2))]) hx hb dX2_fillChances_71 rfl hl (by decide) rfl (fun ls hl => ?_)
            refine lv_iinc (v := (nI (zi5 + 1))) (lv' := [(4, .int (nI (zi5 + 1))), (2, .long (zx7 * 100)), (5, .ref (g.1 o (Int32.toNatClampNeg (nI zi5)))), (0, .ref (g.1 o 6)), (1, .ref (g.1 12 2))]) hx hb dX2_fillChances_72 hl (k := 2) rfl (nI_1 _) (by decide) rfl (fun ls hl => ?_)
            refine lv_goto (tgt := 31) hx hb dX2_fillChances_75 (by decide) ?_
            exact ih31 (zi5 + 1) (zx7 * 100) zS12 _ _ (by omega) hf hP hS ls (lv_sub hl [0, 3, 4, 1] rfl)
          · have hf := hf.trans (if_neg zc11)
            refine lv_astoreN (lv' := [(5, .null), (4, .int (nI zi5)), (0, .ref (g.1 o 6)), (1, .ref (g.1 12 2)), (2, .long zx7)]) hx hb dX2_fillChances_44 hl (by decide) rfl (fun ls hl => ?_)
            refine lv_aloadN hx hb dX2_fillChances_46 (lv_at hl 0 rfl) ?_
            refine lv_ifnullN (tgt := 72) hx hb dX2_fillChances_48 (by decide) ?_
            refine lv_iinc (v := (nI (zi5 + 1))) (lv' := [(4, .int (nI (zi5 + 1))), (5, .null), (0, .ref (g.1 o 6)), (1, .ref (g.1 12 2)), (2, .long zx7)]) hx hb dX2_fillChances_72 hl (k := 1) rfl (nI_1 _) (by decide) rfl (fun ls hl => ?_)
            refine lv_goto (tgt := 31) hx hb dX2_fillChances_75 (by decide) ?_
            exact ih31 (zi5 + 1) zx7 zS8 _ _ (by omega) hf hP hS ls (lv_sub hl [0, 2, 3, 4] rfl)
      exact lp31 6 0 1 zS3 _ _ (by decide) hf hP hS ls (lv_sub hl [0, 2, 3, 1] rfl)
    | succ zk2 ih2 =>
      intro zi1 zS3 H locs hik hf hP hS ls hl
      rw [LX2_fillChances_2] at hf
      refine lv_iload_n hx hb dX2_fillChances_2 rfl (lv_at hl 0 rfl) ?_
      refine lv_aload_n hx hb dX2_fillChances_3 rfl (lv_at hl 2 rfl) ?_
      refine lenJ (v := 7) C0 hK hP (xChances g) rfl dX2_fillChances_4 ?_
      refine lv_icmp_ge (tgt := 26) hx hb dX2_fillChances_5 (by decide) (fun zc13 => absurd zc13 (up_ge1 rfl hik (by decide))) (fun zc13 => ?_)
      refine lv_aload_n hx hb dX2_fillChances_8 rfl (lv_at hl 2 rfl) ?_
      refine lv_iload_n hx hb dX2_fillChances_9 rfl (lv_at hl 0 rfl) ?_
      refine lv_iload_n hx hb dX2_fillChances_10 rfl (lv_at hl 0 rfl) ?_
      refine lv_if_ne (tgt := 18) hx hb dX2_fillChances_11 (by decide) (fun zc14 => ?_) (fun zc14 => ?_)
      · have hf := hf.trans (if_neg zc14)
        refine lv_lconst (v := 0) hx hb dX2_fillChances_18 (by decide) ?_
        refine pJ C0 hK hP hA hS (xChances g) (vp_in_nI (by omega) (by decide)) dX2_fillChances_19 (fun H locs hP hS => ?_)
        rw [nI_clamp (n := zi1) (by omega)] at hP
        refine lv_iinc (v := (nI (zi1 + 1))) (lv' := [(2, .int (nI (zi1 + 1))), (0, .ref (g.1 o 6)), (1, .ref (g.1 12 2))]) hx hb dX2_fillChances_20 hl (k := 0) rfl (nI_1 _) (by decide) rfl (fun ls hl => ?_)
        refine lv_goto (tgt := 2) hx hb dX2_fillChances_23 (by decide) ?_
        exact ih2 (zi1 + 1) (uL zS3 zi1 0) _ _ (by omega) hf hP hS ls (lv_sub hl [0, 1, 2] rfl)
      · have hf := hf.trans (if_pos zc14)
        refine lv_lconst (v := 1) hx hb dX2_fillChances_14 (by decide) ?_
        refine lv_goto (tgt := 19) hx hb dX2_fillChances_15 (by decide) ?_
        refine pJ C0 hK hP hA hS (xChances g) (vp_in_nI (by omega) (by decide)) dX2_fillChances_19 (fun H locs hP hS => ?_)
        rw [nI_clamp (n := zi1) (by omega)] at hP
        refine lv_iinc (v := (nI (zi1 + 1))) (lv' := [(2, .int (nI (zi1 + 1))), (0, .ref (g.1 o 6)), (1, .ref (g.1 12 2))]) hx hb dX2_fillChances_20 hl (k := 0) rfl (nI_1 _) (by decide) rfl (fun ls hl => ?_)
        refine lv_goto (tgt := 2) hx hb dX2_fillChances_23 (by decide) ?_
        exact ih2 (zi1 + 1) (uL zS3 zi1 1) _ _ (by omega) hf hP hS ls (lv_sub hl [0, 1, 2] rfl)
  exact lp2 7 0 S _ _ (by decide) hf hP hS ls (lv_sub hl [0, 1, 2] rfl)
def tX2_reasonAgainstSailing (S : St) (o : Nat) (k : Nat) : Int32 :=
  (if (S.1 o k 5) = 0 then 4 else (if (tX2_riskWith S o k (S.1 o k 5)) ≤ (S.1 o 6 0) then 0 else 5))
set_option maxHeartbeats 4000000 in
set_option maxRecDepth 100000 in
theorem kX2_reasonAgainstSailing (l : Launch) (g : Gd) (A : Nat → Prop) (hA : Ads g.1 VX A) (S : St) (o : Nat) (k : Nat) (ho : o < 4) (hk : k < 6) : Met l yX2_reasonAgainstSailing (wU yX2_reasonAgainstSailing cX2_reasonAgainstSailing 2 (some .int)) { frames := 1, cells := 0, slots := 0, locals := 22 } (va_Pc [.ref (g.1 o 6), .ref (g.1 o k)] (PW VX ctX g S)) (va_Qi (fun r u => r = tX2_reasonAgainstSailing S o k ∧ u = S) (fun u U => PW VX ctX g u U) A) 0 0 A := by
  refine ent (cc := cX2_reasonAgainstSailing) (maxL := 2) (ret := (some .int)) (by decide) (Nat.le_of_ble_eq_true rfl) ?_
  intro p e s m below meth c args Q C0 hr hlocks hP hK hQ ls hl
  have hx := C0.1
  have hb := C0.2.1
  have hml := C0.2.2.1
  have hown := C0.2.2.2.1
  have hts := C0.2.2.2.2
  obtain ⟨F, hF⟩ : ∃ F : Int32, F = tX2_reasonAgainstSailing S o k := ⟨_, rfl⟩
  have hf := hF
  unfold tX2_reasonAgainstSailing at hf
  have hS : va_S A s.heap s.heap [] := va_S.rf
  have hl : lv_has ls 2 [(0, .ref (g.1 o 6)), (1, .ref (g.1 o k))] := hl
  refine lv_aload_n hx hb dX2_reasonAgainstSailing_0 rfl (lv_at hl 1 rfl) ?_
  refine gO (T := TX4) C0 inA4 hK hP (xShip g ho hk) rfl 5 (by decide) (hts _ q95) (v := .int (S.1 o k 5)) rfl dX2_reasonAgainstSailing_1 ?_
  refine lv_if_ne (tgt := 9) hx hb dX2_reasonAgainstSailing_4 (by decide) (fun zc1 => ?_) (fun zc1 => ?_)
  · have hf := hf.trans (if_neg zc1)
    refine lv_aload_n hx hb dX2_reasonAgainstSailing_9 rfl (lv_at hl 0 rfl) ?_
    refine lv_aload_n hx hb dX2_reasonAgainstSailing_10 rfl (lv_at hl 1 rfl) ?_
    refine lv_aload_n hx hb dX2_reasonAgainstSailing_11 rfl (lv_at hl 1 rfl) ?_
    refine gO (T := TX4) C0 inA4 hK hP (xShip g ho hk) rfl 5 (by decide) (hts _ q95) (v := .int (S.1 o k 5)) rfl dX2_reasonAgainstSailing_12 ?_
    refine kiP (va_runV (As := [.ref (g.1 o k), .int (S.1 o k 5)]) (rest := []) C0 (kX2_riskWith l g A hA S o k (S.1 o k 5) ho hk) (cwV 2 hts (gV q436 q437 q438 q47 q439) rfl rfl rfl (by decide +kernel) ⟨Nat.le_of_ble_eq_true rfl, Nat.le_of_ble_eq_true rfl⟩) (preV (recO (xOwner g ho) hP hK rfl) hP hK) rfl rfl hl.1 rfl (lv_room (Nat.le_of_ble_eq_true rfl)) dX2_reasonAgainstSailing_15 ⟨Nat.zero_le _, Nat.zero_le _⟩) hS (fun _ h => h) (fun H locs hP hS => ?_)
    refine lv_aload_n hx hb dX2_reasonAgainstSailing_18 rfl (lv_at hl 0 rfl) ?_
    refine gO (T := TX2) C0 inA2 hK hP (xOwner g ho) rfl 1 (by decide) (hts _ q114) (v := .int (S.1 o 6 0)) rfl dX2_reasonAgainstSailing_19 ?_
    refine lv_icmp_le (tgt := 29) hx hb dX2_reasonAgainstSailing_22 (by decide) (fun zc2 => ?_) (fun zc2 => ?_)
    · have hf := hf.trans (if_pos zc2)
      refine lv_iconst (v := 0) hx hb dX2_reasonAgainstSailing_29 (by decide) ?_
      exact ri hQ C0 hr hlocks hK hP hS (by rw [← hF]; exact ⟨hf.symm, rfl⟩) dX2_reasonAgainstSailing_30
    · have hf := hf.trans (if_neg zc2)
      refine lv_iconst (v := 5) hx hb dX2_reasonAgainstSailing_25 (by decide) ?_
      refine lv_goto (tgt := 30) hx hb dX2_reasonAgainstSailing_26 (by decide) ?_
      exact ri hQ C0 hr hlocks hK hP hS (by rw [← hF]; exact ⟨hf.symm, rfl⟩) dX2_reasonAgainstSailing_30
  · have hf := hf.trans (if_pos zc1)
    refine lv_iconst (v := 4) hx hb dX2_reasonAgainstSailing_7 (by decide) ?_
    exact ri hQ C0 hr hlocks hK hP hS (by rw [← hF]; exact ⟨hf.symm, rfl⟩) dX2_reasonAgainstSailing_8
def tX2_reasonAgainst (S : St) (o : Nat) (p1 : Int32) (p2 : Int32) (p3 : Int32) : Int32 :=
  (if p1 = 46 then (if (S.1 o 6 3) < 99 then 0 else 6) else (if isAt S o p2 then (if (b01 (S.1 o (Int32.toNatClampNeg p2) 1)) = 0 then 2 else (if p1 = 105 then (if ((tX4_sumAt S o (Int32.toNatClampNeg p2) p3) + 10) ≤ 99 then 0 else 3) else (if p1 = 108 then (if (S.1 o (Int32.toNatClampNeg p2) 5) = p3 then 4 else 0) else (if p1 = 115 then (tX2_reasonAgainstSailing S o (Int32.toNatClampNeg p2)) else (if p1 = 120 then (tX2_reasonAgainstSailing S o (Int32.toNatClampNeg p2)) else 0))))) else 1))
set_option maxHeartbeats 4000000 in
set_option maxRecDepth 100000 in
theorem kX2_reasonAgainst (l : Launch) (g : Gd) (A : Nat → Prop) (hA : Ads g.1 VX A) (S : St) (o : Nat) (p1 : Int32) (p2 : Int32) (p3 : Int32) (ho : o < 4) : Met l yX2_reasonAgainst (wU yX2_reasonAgainst cX2_reasonAgainst 5 (some .int)) { frames := 2, cells := 0, slots := 0, locals := 43 } (va_Pc [.ref (g.1 o 6), .int p1, .int p2, .int p3] (PW VX ctX g S)) (va_Qi (fun r u => r = tX2_reasonAgainst S o p1 p2 p3 ∧ u = S) (fun u U => PW VX ctX g u U) A) 0 0 A := by
  refine ent (cc := cX2_reasonAgainst) (maxL := 5) (ret := (some .int)) (by decide) (Nat.le_of_ble_eq_true rfl) ?_
  intro p e s m below meth c args Q C0 hr hlocks hP hK hQ ls hl
  have hx := C0.1
  have hb := C0.2.1
  have hml := C0.2.2.1
  have hown := C0.2.2.2.1
  have hts := C0.2.2.2.2
  obtain ⟨F, hF⟩ : ∃ F : Int32, F = tX2_reasonAgainst S o p1 p2 p3 := ⟨_, rfl⟩
  have hf := hF
  unfold tX2_reasonAgainst at hf
  have hS : va_S A s.heap s.heap [] := va_S.rf
  have hl : lv_has ls 5 [(0, .ref (g.1 o 6)), (1, .int p1), (2, .int p2), (3, .int p3)] := hl
  refine lv_iload_n hx hb dX2_reasonAgainst_0 rfl (lv_at hl 1 rfl) ?_
  refine lv_bipush (v := 46) hx hb dX2_reasonAgainst_1 (by decide) ?_
  refine lv_icmp_ne (tgt := 22) hx hb dX2_reasonAgainst_3 (by decide) (fun zc1 => ?_) (fun zc1 => ?_)
  · have hf := hf.trans (if_neg zc1)
    refine lv_aload_n hx hb dX2_reasonAgainst_22 rfl (lv_at hl 0 rfl) ?_
    refine lv_iload_n hx hb dX2_reasonAgainst_23 rfl (lv_at hl 2 rfl) ?_
    refine kqc (va_runV (As := [.int p2]) (rest := []) C0 (kX2_shipAt l g A hA S o p2 ho) (cwV 1 hts (gV q312 q313 q314 q47 q315) rfl rfl rfl (by decide +kernel) ⟨Nat.le_of_ble_eq_true rfl, Nat.le_of_ble_eq_true rfl⟩) (preV (recO (xOwner g ho) hP hK rfl) hP hK) rfl rfl hl.1 rfl (lv_room (Nat.le_of_ble_eq_true rfl)) dX2_reasonAgainst_24 ⟨Nat.zero_le _, Nat.zero_le _⟩) hS (fun _ h => h) (fun zc2 H locs hP hS => ?_) (fun zc2 H locs hP hS => ?_)
    · have hf := hf.trans (if_pos zc2)
      refine lv_astore (lv' := [(4, .ref (g.1 o (Int32.toNatClampNeg p2))), (0, .ref (g.1 o 6)), (1, .int p1), (2, .int p2), (3, .int p3)]) hx hb dX2_reasonAgainst_27 hl (by decide) rfl (fun ls hl => ?_)
      refine lv_aload hx hb dX2_reasonAgainst_29 (lv_at hl 0 rfl) ?_
      refine lv_ifnonnull (tgt := 36) hx hb dX2_reasonAgainst_31 (by decide) ?_
      refine lv_aload hx hb dX2_reasonAgainst_36 (lv_at hl 0 rfl) ?_
      refine gO (T := TX4) C0 inA4 hK hP (xShip g (by omega) (plc_lt zc2.1)) rfl 1 (by decide) (hts _ q82) (v := .int (b01 (S.1 o (Int32.toNatClampNeg p2) 1))) rfl dX2_reasonAgainst_38 ?_
      refine lv_if_ne (tgt := 46) hx hb dX2_reasonAgainst_41 (by decide) (fun zc3 => ?_) (fun zc3 => ?_)
      · have hf := hf.trans (if_neg zc3)
        refine lv_iload_n hx hb dX2_reasonAgainst_46 rfl (lv_at hl 2 rfl) ?_
        by_cases zc4 : p1 = 105
        · have hf := hf.trans (if_pos zc4)
          refine lv_lookup (off := 41) (tgt := 88) hx hb dX2_reasonAgainst_47 (by decide) (by rw [zc4]; decide) (by decide) ?_
          refine lv_aload hx hb dX2_reasonAgainst_88 (lv_at hl 0 rfl) ?_
          refine lv_iload_n hx hb dX2_reasonAgainst_90 rfl (lv_at hl 4 rfl) ?_
          refine kiP (va_runV (As := [.int p3]) (rest := []) C0 (kX4_sumAt l g A hA S o (Int32.toNatClampNeg p2) p3 (by omega) (plc_lt zc2.1)) (cwV 1 hts (gV q431 q333 q334 q48 q335) rfl rfl rfl (by decide +kernel) ⟨Nat.le_of_ble_eq_true rfl, Nat.le_of_ble_eq_true rfl⟩) (preV (recO (xShip g (by omega) (plc_lt zc2.1)) hP hK rfl) hP hK) rfl rfl hl.1 rfl (lv_room (Nat.le_of_ble_eq_true rfl)) dX2_reasonAgainst_91 ⟨Nat.zero_le _, Nat.zero_le _⟩) hS (fun _ h => h) (fun H locs hP hS => ?_)
          refine lv_bipush (v := 10) hx hb dX2_reasonAgainst_94 (by decide) ?_
          refine lv_iadd hx hb dX2_reasonAgainst_96 ?_
          refine lv_bipush (v := 99) hx hb dX2_reasonAgainst_97 (by decide) ?_
          refine lv_icmp_le (tgt := 106) hx hb dX2_reasonAgainst_99 (by decide) (fun zc5 => ?_) (fun zc5 => ?_)
          · have hf := hf.trans (if_pos zc5)
            refine lv_iconst (v := 0) hx hb dX2_reasonAgainst_106 (by decide) ?_
            exact ri hQ C0 hr hlocks hK hP hS (by rw [← hF]; exact ⟨hf.symm, rfl⟩) dX2_reasonAgainst_107
          · have hf := hf.trans (if_neg zc5)
            refine lv_iconst (v := 3) hx hb dX2_reasonAgainst_102 (by decide) ?_
            refine lv_goto (tgt := 107) hx hb dX2_reasonAgainst_103 (by decide) ?_
            exact ri hQ C0 hr hlocks hK hP hS (by rw [← hF]; exact ⟨hf.symm, rfl⟩) dX2_reasonAgainst_107
        · have hf := hf.trans (if_neg zc4)
          by_cases zc6 : p1 = 108
          · have hf := hf.trans (if_pos zc6)
            refine lv_lookup (off := 61) (tgt := 108) hx hb dX2_reasonAgainst_47 (by decide) (by rw [zc6]; decide) (by decide) ?_
            refine lv_aload hx hb dX2_reasonAgainst_108 (lv_at hl 0 rfl) ?_
            refine gO (T := TX4) C0 inA4 hK hP (xShip g (by omega) (plc_lt zc2.1)) rfl 5 (by decide) (hts _ q95) (v := .int (S.1 o (Int32.toNatClampNeg p2) 5)) rfl dX2_reasonAgainst_110 ?_
            refine lv_iload_n hx hb dX2_reasonAgainst_113 rfl (lv_at hl 4 rfl) ?_
            refine lv_icmp_ne (tgt := 121) hx hb dX2_reasonAgainst_114 (by decide) (fun zc7 => ?_) (fun zc7 => ?_)
            · have hf := hf.trans (if_neg zc7)
              refine lv_iconst (v := 0) hx hb dX2_reasonAgainst_121 (by decide) ?_
              exact ri hQ C0 hr hlocks hK hP hS (by rw [← hF]; exact ⟨hf.symm, rfl⟩) dX2_reasonAgainst_122
            · have hf := hf.trans (if_pos zc7)
              refine lv_iconst (v := 4) hx hb dX2_reasonAgainst_117 (by decide) ?_
              refine lv_goto (tgt := 122) hx hb dX2_reasonAgainst_118 (by decide) ?_
              exact ri hQ C0 hr hlocks hK hP hS (by rw [← hF]; exact ⟨hf.symm, rfl⟩) dX2_reasonAgainst_122
          · have hf := hf.trans (if_neg zc6)
            by_cases zc8 : p1 = 115
            · have hf := hf.trans (if_pos zc8)
              refine lv_lookup (off := 76) (tgt := 123) hx hb dX2_reasonAgainst_47 (by decide) (by rw [zc8]; decide) (by decide) ?_
              refine lv_aload_n hx hb dX2_reasonAgainst_123 rfl (lv_at hl 1 rfl) ?_
              refine lv_aload hx hb dX2_reasonAgainst_124 (lv_at hl 0 rfl) ?_
              refine kiP (va_runV (As := [.ref (g.1 o (Int32.toNatClampNeg p2))]) (rest := []) C0 (kX2_reasonAgainstSailing l g A hA S o (Int32.toNatClampNeg p2) (by omega) (plc_lt zc2.1)) (cwV 1 hts (gV q432 q434 q3 q47 q435) rfl rfl rfl (by decide +kernel) ⟨Nat.le_of_ble_eq_true rfl, Nat.le_of_ble_eq_true rfl⟩) (preV (recO (xOwner g ho) hP hK rfl) hP hK) rfl rfl hl.1 rfl (lv_room (Nat.le_of_ble_eq_true rfl)) dX2_reasonAgainst_126 ⟨Nat.zero_le _, Nat.zero_le _⟩) hS (fun _ h => h) (fun H locs hP hS => ?_)
              exact ri hQ C0 hr hlocks hK hP hS (by rw [← hF]; exact ⟨hf.symm, rfl⟩) dX2_reasonAgainst_129
            · have hf := hf.trans (if_neg zc8)
              by_cases zc9 : p1 = 120
              · have hf := hf.trans (if_pos zc9)
                refine lv_lookup (off := 76) (tgt := 123) hx hb dX2_reasonAgainst_47 (by decide) (by rw [zc9]; decide) (by decide) ?_
                refine lv_aload_n hx hb dX2_reasonAgainst_123 rfl (lv_at hl 1 rfl) ?_
                refine lv_aload hx hb dX2_reasonAgainst_124 (lv_at hl 0 rfl) ?_
                refine kiP (va_runV (As := [.ref (g.1 o (Int32.toNatClampNeg p2))]) (rest := []) C0 (kX2_reasonAgainstSailing l g A hA S o (Int32.toNatClampNeg p2) (by omega) (plc_lt zc2.1)) (cwV 1 hts (gV q432 q434 q3 q47 q435) rfl rfl rfl (by decide +kernel) ⟨Nat.le_of_ble_eq_true rfl, Nat.le_of_ble_eq_true rfl⟩) (preV (recO (xOwner g ho) hP hK rfl) hP hK) rfl rfl hl.1 rfl (lv_room (Nat.le_of_ble_eq_true rfl)) dX2_reasonAgainst_126 ⟨Nat.zero_le _, Nat.zero_le _⟩) hS (fun _ h => h) (fun H locs hP hS => ?_)
                exact ri hQ C0 hr hlocks hK hP hS (by rw [← hF]; exact ⟨hf.symm, rfl⟩) dX2_reasonAgainst_129
              · have hf := hf.trans (if_neg zc9)
                refine lv_lookup (off := 83) (tgt := 130) hx hb dX2_reasonAgainst_47 (by decide) ((lv_osw zc4 (by decide)).trans ((lv_osw zc6 (by decide)).trans ((lv_osw zc8 (by decide)).trans ((lv_osw zc9 (by decide)).trans rfl)))) (by decide) ?_
                refine lv_iconst (v := 0) hx hb dX2_reasonAgainst_130 (by decide) ?_
                exact ri hQ C0 hr hlocks hK hP hS (by rw [← hF]; exact ⟨hf.symm, rfl⟩) dX2_reasonAgainst_131
      · have hf := hf.trans (if_pos zc3)
        refine lv_iconst (v := 2) hx hb dX2_reasonAgainst_44 (by decide) ?_
        exact ri hQ C0 hr hlocks hK hP hS (by rw [← hF]; exact ⟨hf.symm, rfl⟩) dX2_reasonAgainst_45
    · have hf := hf.trans (if_neg zc2)
      refine lv_astoreN (lv' := [(4, .null), (0, .ref (g.1 o 6)), (1, .int p1), (2, .int p2), (3, .int p3)]) hx hb dX2_reasonAgainst_27 hl (by decide) rfl (fun ls hl => ?_)
      refine lv_aloadN hx hb dX2_reasonAgainst_29 (lv_at hl 0 rfl) ?_
      refine lv_ifnonnullN hx hb dX2_reasonAgainst_31 ?_
      refine lv_iconst (v := 1) hx hb dX2_reasonAgainst_34 (by decide) ?_
      exact ri hQ C0 hr hlocks hK hP hS (by rw [← hF]; exact ⟨hf.symm, rfl⟩) dX2_reasonAgainst_35
  · have hf := hf.trans (if_pos zc1)
    refine lv_aload_n hx hb dX2_reasonAgainst_6 rfl (lv_at hl 0 rfl) ?_
    refine gO (T := TX2) C0 inA2 hK hP (xOwner g ho) rfl 4 (by decide) (hts _ q120) (v := .int (S.1 o 6 3)) rfl dX2_reasonAgainst_7 ?_
    refine lv_bipush (v := 99) hx hb dX2_reasonAgainst_10 (by decide) ?_
    refine lv_icmp_lt (tgt := 20) hx hb dX2_reasonAgainst_12 (by decide) (fun zc10 => ?_) (fun zc10 => ?_)
    · have hf := hf.trans (if_pos zc10)
      refine lv_iconst (v := 0) hx hb dX2_reasonAgainst_20 (by decide) ?_
      exact ri hQ C0 hr hlocks hK hP hS (by rw [← hF]; exact ⟨hf.symm, rfl⟩) dX2_reasonAgainst_21
    · have hf := hf.trans (if_neg zc10)
      refine lv_bipush (v := 6) hx hb dX2_reasonAgainst_15 (by decide) ?_
      refine lv_goto (tgt := 21) hx hb dX2_reasonAgainst_17 (by decide) ?_
      exact ri hQ C0 hr hlocks hK hP hS (by rw [← hF]; exact ⟨hf.symm, rfl⟩) dX2_reasonAgainst_21
def tX2_comeHome (S : St) (o : Nat) (k : Nat) : St :=
  (bnd (up (up S o 6 4 ((S.1 o 6 4) + ((S.1 o k 5) * (S.1 o 6 1)))) o k 2 (if 40 < (((up S o 6 4 ((S.1 o 6 4) + ((S.1 o k 5) * (S.1 o 6 1)))).1 o k 2) + 1) then 40 else (((up S o 6 4 ((S.1 o 6 4) + ((S.1 o k 5) * (S.1 o 6 1)))).1 o k 2) + 1))) (fun zS1 => (up zS1 o k 5 0)))
set_option maxHeartbeats 4000000 in
set_option maxRecDepth 100000 in
theorem kX2_comeHome (l : Launch) (g : Gd) (A : Nat → Prop) (hA : Ads g.1 VX A) (S : St) (o : Nat) (k : Nat) (ho : o < 4) (hk : k < 6) : Met l yX2_comeHome (wU yX2_comeHome cX2_comeHome 2 none) { frames := 1, cells := 0, slots := 0, locals := 21 } (va_Pc [.ref (g.1 o 6), .ref (g.1 o k)] (PW VX ctX g S)) (va_Qv (fun u => u = tX2_comeHome S o k) (fun u U => PW VX ctX g u U) A) 0 0 A := by
  refine ent (cc := cX2_comeHome) (maxL := 2) (ret := none) (by decide) (Nat.le_of_ble_eq_true rfl) ?_
  intro p e s m below meth c args Q C0 hr hlocks hP hK hQ ls hl
  have hx := C0.1
  have hb := C0.2.1
  have hml := C0.2.2.1
  have hown := C0.2.2.2.1
  have hts := C0.2.2.2.2
  obtain ⟨F, hF⟩ : ∃ F : St, F = tX2_comeHome S o k := ⟨_, rfl⟩
  have hf := hF
  unfold tX2_comeHome at hf
  have hS : va_S A s.heap s.heap [] := va_S.rf
  have hl : lv_has ls 2 [(0, .ref (g.1 o 6)), (1, .ref (g.1 o k))] := hl
  refine lv_aload_n hx hb dX2_comeHome_0 rfl (lv_at hl 0 rfl) ?_
  refine lv_dup hx hb dX2_comeHome_1 rfl ?_
  refine gO (T := TX2) C0 inA2 hK hP (xOwner g ho) rfl 5 (by decide) (hts _ q122) (v := .int (S.1 o 6 4)) rfl dX2_comeHome_2 ?_
  refine lv_aload_n hx hb dX2_comeHome_5 rfl (lv_at hl 1 rfl) ?_
  refine gO (T := TX4) C0 inA4 hK hP (xShip g ho hk) rfl 5 (by decide) (hts _ q95) (v := .int (S.1 o k 5)) rfl dX2_comeHome_6 ?_
  refine lv_aload_n hx hb dX2_comeHome_9 rfl (lv_at hl 0 rfl) ?_
  refine gO (T := TX2) C0 inA2 hK hP (xOwner g ho) rfl 2 (by decide) (hts _ q116) (v := .int (S.1 o 6 1)) rfl dX2_comeHome_10 ?_
  refine lv_imul hx hb dX2_comeHome_13 ?_
  refine lv_iadd hx hb dX2_comeHome_14 ?_
  refine pO (T := TX2) (ty0 := tyX2) locX C0 inA2 tyX2_ok nmX2 hK hP hA hS (xOwner g ho) rfl 5 (by decide) (hts _ q122) rfl 4 ((S.1 o 6 4) + ((S.1 o k 5) * (S.1 o 6 1))) rfl rfl rfl (Nat.le_of_ble_eq_true rfl) dX2_comeHome_15 (fun H locs hP hS => ?_)
  refine lv_aload_n hx hb dX2_comeHome_18 rfl (lv_at hl 1 rfl) ?_
  refine lv_aload_n hx hb dX2_comeHome_19 rfl (lv_at hl 1 rfl) ?_
  refine gO (T := TX4) C0 inA4 hK hP (xShip g ho hk) rfl 2 (by decide) (hts _ q85) (v := .int ((up S o 6 4 ((S.1 o 6 4) + ((S.1 o k 5) * (S.1 o 6 1)))).1 o k 2)) rfl dX2_comeHome_20 ?_
  refine lv_iconst (v := 1) hx hb dX2_comeHome_23 (by decide) ?_
  refine lv_iadd hx hb dX2_comeHome_24 ?_
  refine lv_bipush (v := 40) hx hb dX2_comeHome_25 (by decide) ?_
  refine va_mmin hx hb (by rw [hml]; exact hl.1.symm) hown (hts _ q449) (hts _ q450) (hts _ q56) (hts _ q451) (Nat.le_of_ble_eq_true rfl) (Nat.le_of_ble_eq_true rfl) (Nat.zero_le _) (Nat.zero_le _) dX2_comeHome_27 ?_
  refine pO (T := TX4) (ty0 := tyX4) locX C0 inA4 tyX4_ok nmX4 hK hP hA hS (xShip g ho hk) rfl 2 (by decide) (hts _ q85) rfl 2 (if 40 < (((up S o 6 4 ((S.1 o 6 4) + ((S.1 o k 5) * (S.1 o 6 1)))).1 o k 2) + 1) then 40 else (((up S o 6 4 ((S.1 o 6 4) + ((S.1 o k 5) * (S.1 o 6 1)))).1 o k 2) + 1)) rfl rfl rfl (Nat.le_of_ble_eq_true rfl) dX2_comeHome_30 (fun H locs hP hS => ?_)
  obtain ⟨zS1, hzS1⟩ : ∃ z : St, z = (up (up S o 6 4 ((S.1 o 6 4) + ((S.1 o k 5) * (S.1 o 6 1)))) o k 2 (if 40 < (((up S o 6 4 ((S.1 o 6 4) + ((S.1 o k 5) * (S.1 o 6 1)))).1 o k 2) + 1) then 40 else (((up S o 6 4 ((S.1 o 6 4) + ((S.1 o k 5) * (S.1 o 6 1)))).1 o k 2) + 1))) := ⟨_, rfl⟩
  rw [← hzS1] at hP
  have hf := hf.trans (bnd_eq hzS1)
  refine lv_aload_n hx hb dX2_comeHome_33 rfl (lv_at hl 1 rfl) ?_
  refine lv_iconst (v := 0) hx hb dX2_comeHome_34 (by decide) ?_
  refine pO (T := TX4) (ty0 := tyX4) locX C0 inA4 tyX4_ok nmX4 hK hP hA hS (xShip g ho hk) rfl 5 (by decide) (hts _ q95) rfl 5 0 rfl rfl rfl (Nat.le_of_ble_eq_true rfl) dX2_comeHome_35 (fun H locs hP hS => ?_)
  exact rv hQ C0 hr hlocks hK hP hS (by rw [← hF]; exact hf.symm) dX2_comeHome_38
def tX2_sink (S : St) (o : Nat) (k : Nat) : St :=
  (bnd (((up S o 6 4 ((S.1 o 6 4) + ((tX4_allSums S o k) - (S.1 o k 3)))).1 o 6 5) + ((up S o 6 4 ((S.1 o 6 4) + ((tX4_allSums S o k) - (S.1 o k 3)))).1 o k 4)) (fun zx1 => (bnd (up (up (up S o 6 4 ((S.1 o 6 4) + ((tX4_allSums S o k) - (S.1 o k 3)))) o 6 5 zx1) o k 1 0) (fun zS2 => zS2))))
set_option maxHeartbeats 4000000 in
set_option maxRecDepth 100000 in
theorem kX2_sink (l : Launch) (g : Gd) (A : Nat → Prop) (hA : Ads g.1 VX A) (S : St) (o : Nat) (k : Nat) (ho : o < 4) (hk : k < 6) : Met l yX2_sink (wU yX2_sink cX2_sink 2 none) { frames := 1, cells := 0, slots := 0, locals := 22 } (va_Pc [.ref (g.1 o 6), .ref (g.1 o k)] (PW VX ctX g S)) (va_Qv (fun u => u = tX2_sink S o k) (fun u U => PW VX ctX g u U) A) 0 0 A := by
  refine ent (cc := cX2_sink) (maxL := 2) (ret := none) (by decide) (Nat.le_of_ble_eq_true rfl) ?_
  intro p e s m below meth c args Q C0 hr hlocks hP hK hQ ls hl
  have hx := C0.1
  have hb := C0.2.1
  have hml := C0.2.2.1
  have hown := C0.2.2.2.1
  have hts := C0.2.2.2.2
  obtain ⟨F, hF⟩ : ∃ F : St, F = tX2_sink S o k := ⟨_, rfl⟩
  have hf := hF
  unfold tX2_sink at hf
  have hS : va_S A s.heap s.heap [] := va_S.rf
  have hl : lv_has ls 2 [(0, .ref (g.1 o 6)), (1, .ref (g.1 o k))] := hl
  refine lv_aload_n hx hb dX2_sink_0 rfl (lv_at hl 0 rfl) ?_
  refine lv_dup hx hb dX2_sink_1 rfl ?_
  refine gO (T := TX2) C0 inA2 hK hP (xOwner g ho) rfl 5 (by decide) (hts _ q122) (v := .int (S.1 o 6 4)) rfl dX2_sink_2 ?_
  refine lv_aload_n hx hb dX2_sink_5 rfl (lv_at hl 1 rfl) ?_
  refine kiP (va_runV (As := []) (rest := [.int (S.1 o 6 4), .ref (g.1 o 6)]) C0 (kX4_allSums l g A hA S o k ho hk) (cwV 0 hts (gV q456 q457 q458 q48 q459) rfl rfl rfl (by decide +kernel) ⟨Nat.le_of_ble_eq_true rfl, Nat.le_of_ble_eq_true rfl⟩) (preV (recO (xShip g ho hk) hP hK rfl) hP hK) rfl rfl hl.1 rfl (lv_room (Nat.le_of_ble_eq_true rfl)) dX2_sink_6 ⟨Nat.zero_le _, Nat.zero_le _⟩) hS (fun _ h => h) (fun H locs hP hS => ?_)
  refine lv_aload_n hx hb dX2_sink_9 rfl (lv_at hl 1 rfl) ?_
  refine gO (T := TX4) C0 inA4 hK hP (xShip g ho hk) rfl 3 (by decide) (hts _ q88) (v := .int (S.1 o k 3)) rfl dX2_sink_10 ?_
  refine lv_isub hx hb dX2_sink_13 ?_
  refine lv_iadd hx hb dX2_sink_14 ?_
  refine pO (T := TX2) (ty0 := tyX2) locX C0 inA2 tyX2_ok nmX2 hK hP hA hS (xOwner g ho) rfl 5 (by decide) (hts _ q122) rfl 4 ((S.1 o 6 4) + ((tX4_allSums S o k) - (S.1 o k 3))) rfl rfl rfl (Nat.le_of_ble_eq_true rfl) dX2_sink_15 (fun H locs hP hS => ?_)
  refine lv_aload_n hx hb dX2_sink_18 rfl (lv_at hl 0 rfl) ?_
  refine lv_dup hx hb dX2_sink_19 rfl ?_
  refine gO (T := TX2) C0 inA2 hK hP (xOwner g ho) rfl 6 (by decide) (hts _ q124) (v := .int ((up S o 6 4 ((S.1 o 6 4) + ((tX4_allSums S o k) - (S.1 o k 3)))).1 o 6 5)) rfl dX2_sink_20 ?_
  refine lv_aload_n hx hb dX2_sink_23 rfl (lv_at hl 1 rfl) ?_
  refine gO (T := TX4) C0 inA4 hK hP (xShip g ho hk) rfl 4 (by decide) (hts _ q91) (v := .int ((up S o 6 4 ((S.1 o 6 4) + ((tX4_allSums S o k) - (S.1 o k 3)))).1 o k 4)) rfl dX2_sink_24 ?_
  refine lv_iadd hx hb dX2_sink_27 ?_
  refine lv_topi (fun zx1 hzx1 => ?_)
  have hf := hf.trans (bnd_eq hzx1)
  refine pO (T := TX2) (ty0 := tyX2) locX C0 inA2 tyX2_ok nmX2 hK hP hA hS (xOwner g ho) rfl 6 (by decide) (hts _ q124) rfl 5 zx1 rfl rfl rfl (Nat.le_of_ble_eq_true rfl) dX2_sink_28 (fun H locs hP hS => ?_)
  refine lv_aload_n hx hb dX2_sink_31 rfl (lv_at hl 1 rfl) ?_
  refine lv_iconst (v := 0) hx hb dX2_sink_32 (by decide) ?_
  refine pO (T := TX4) (ty0 := tyX4) locX C0 inA4 tyX4_ok nmX4 hK hP hA hS (xShip g ho hk) rfl 1 (by decide) (hts _ q82) rfl 1 0 rfl rfl rfl (Nat.le_of_ble_eq_true rfl) dX2_sink_33 (fun H locs hP hS => ?_)
  obtain ⟨zS2, hzS2⟩ : ∃ z : St, z = (up (up (up S o 6 4 ((S.1 o 6 4) + ((tX4_allSums S o k) - (S.1 o k 3)))) o 6 5 zx1) o k 1 0) := ⟨_, rfl⟩
  rw [← hzS2] at hP
  have hf := hf.trans (bnd_eq hzS2)
  exact rv hQ C0 hr hlocks hK hP hS (by rw [← hF]; exact hf.symm) dX2_sink_36
def tX2_act (S : St) (o : Nat) (p1 : Int32) (p2 : Int32) (p3 : Int32) : St :=
  (if p1 = 46 then (up (up S o 6 2 (1 - (S.1 o 6 2))) o 6 3 (((up S o 6 2 (1 - (S.1 o 6 2))).1 o 6 3) + 1)) else (if isAt S o p2 then (if p1 = 105 then (bnd (tX4_putSum S o (Int32.toNatClampNeg p2) p3 ((tX4_sumAt S o (Int32.toNatClampNeg p2) p3) + 10)) (fun zS4 => zS4)) else (if p1 = 108 then (up S o (Int32.toNatClampNeg p2) 5 p3) else (if p1 = 112 then (up S o (Int32.toNatClampNeg p2) 2 ((S.1 o (Int32.toNatClampNeg p2) 2) / 2)) else (if p1 = 115 then (bnd (tX2_comeHome S o (Int32.toNatClampNeg p2)) (fun zS8 => zS8)) else (if p1 = 120 then (bnd (tX2_sink S o (Int32.toNatClampNeg p2)) (fun zS10 => zS10)) else S))))) else S))
set_option maxHeartbeats 4000000 in
set_option maxRecDepth 100000 in
theorem kX2_act (l : Launch) (g : Gd) (A : Nat → Prop) (hA : Ads g.1 VX A) (S : St) (o : Nat) (p1 : Int32) (p2 : Int32) (p3 : Int32) (ho : o < 4) : Met l yX2_act (wU yX2_act cX2_act 5 none) { frames := 2, cells := 0, slots := 0, locals := 43 } (va_Pc [.ref (g.1 o 6), .int p1, .int p2, .int p3] (PW VX ctX g S)) (va_Qv (fun u => u = tX2_act S o p1 p2 p3) (fun u U => PW VX ctX g u U) A) 0 0 A := by
  refine ent (cc := cX2_act) (maxL := 5) (ret := none) (by decide) (Nat.le_of_ble_eq_true rfl) ?_
  intro p e s m below meth c args Q C0 hr hlocks hP hK hQ ls hl
  have hx := C0.1
  have hb := C0.2.1
  have hml := C0.2.2.1
  have hown := C0.2.2.2.1
  have hts := C0.2.2.2.2
  obtain ⟨F, hF⟩ : ∃ F : St, F = tX2_act S o p1 p2 p3 := ⟨_, rfl⟩
  have hf := hF
  unfold tX2_act at hf
  have hS : va_S A s.heap s.heap [] := va_S.rf
  have hl : lv_has ls 5 [(0, .ref (g.1 o 6)), (1, .int p1), (2, .int p2), (3, .int p3)] := hl
  refine lv_iload_n hx hb dX2_act_0 rfl (lv_at hl 1 rfl) ?_
  refine lv_bipush (v := 46) hx hb dX2_act_1 (by decide) ?_
  refine lv_icmp_ne (tgt := 27) hx hb dX2_act_3 (by decide) (fun zc1 => ?_) (fun zc1 => ?_)
  · have hf := hf.trans (if_neg zc1)
    refine lv_aload_n hx hb dX2_act_27 rfl (lv_at hl 0 rfl) ?_
    refine lv_iload_n hx hb dX2_act_28 rfl (lv_at hl 2 rfl) ?_
    refine kqc (va_runV (As := [.int p2]) (rest := []) C0 (kX2_shipAt l g A hA S o p2 ho) (cwV 1 hts (gV q312 q313 q314 q47 q315) rfl rfl rfl (by decide +kernel) ⟨Nat.le_of_ble_eq_true rfl, Nat.le_of_ble_eq_true rfl⟩) (preV (recO (xOwner g ho) hP hK rfl) hP hK) rfl rfl hl.1 rfl (lv_room (Nat.le_of_ble_eq_true rfl)) dX2_act_29 ⟨Nat.zero_le _, Nat.zero_le _⟩) hS (fun _ h => h) (fun zc2 H locs hP hS => ?_) (fun zc2 H locs hP hS => ?_)
    · have hf := hf.trans (if_pos zc2)
      refine lv_astore (lv' := [(4, .ref (g.1 o (Int32.toNatClampNeg p2))), (0, .ref (g.1 o 6)), (1, .int p1), (2, .int p2), (3, .int p3)]) hx hb dX2_act_32 hl (by decide) rfl (fun ls hl => ?_)
      refine lv_aload hx hb dX2_act_34 (lv_at hl 0 rfl) ?_
      refine lv_ifnonnull (tgt := 40) hx hb dX2_act_36 (by decide) ?_
      refine lv_iload_n hx hb dX2_act_40 rfl (lv_at hl 2 rfl) ?_
      by_cases zc3 : p1 = 105
      · have hf := hf.trans (if_pos zc3)
        refine lv_lookup (off := 51) (tgt := 92) hx hb dX2_act_41 (by decide) (by rw [zc3]; decide) (by decide) ?_
        refine lv_aload hx hb dX2_act_92 (lv_at hl 0 rfl) ?_
        refine lv_iload_n hx hb dX2_act_94 rfl (lv_at hl 4 rfl) ?_
        refine lv_aload hx hb dX2_act_95 (lv_at hl 0 rfl) ?_
        refine lv_iload_n hx hb dX2_act_97 rfl (lv_at hl 4 rfl) ?_
        refine kiP (va_runV (As := [.int p3]) (rest := [.int p3, .ref (g.1 o (Int32.toNatClampNeg p2))]) C0 (kX4_sumAt l g A hA S o (Int32.toNatClampNeg p2) p3 (by omega) (plc_lt zc2.1)) (cwV 1 hts (gV q431 q333 q334 q48 q335) rfl rfl rfl (by decide +kernel) ⟨Nat.le_of_ble_eq_true rfl, Nat.le_of_ble_eq_true rfl⟩) (preV (recO (xShip g (by omega) (plc_lt zc2.1)) hP hK rfl) hP hK) rfl rfl hl.1 rfl (lv_room (Nat.le_of_ble_eq_true rfl)) dX2_act_98 ⟨Nat.zero_le _, Nat.zero_le _⟩) hS (fun _ h => h) (fun H locs hP hS => ?_)
        refine lv_bipush (v := 10) hx hb dX2_act_101 (by decide) ?_
        refine lv_iadd hx hb dX2_act_103 ?_
        refine kv (va_runV (As := [.int p3, .int ((tX4_sumAt S o (Int32.toNatClampNeg p2) p3) + 10)]) (rest := []) C0 (kX4_putSum l g A hA S o (Int32.toNatClampNeg p2) p3 ((tX4_sumAt S o (Int32.toNatClampNeg p2) p3) + 10) (by omega) (plc_lt zc2.1)) (cwV 2 hts (gV q444 q337 q338 q48 q339) rfl rfl rfl (by decide +kernel) ⟨Nat.le_of_ble_eq_true rfl, Nat.le_of_ble_eq_true rfl⟩) (preV (recO (xShip g (by omega) (plc_lt zc2.1)) hP hK rfl) hP hK) rfl rfl hl.1 rfl (lv_room (Nat.le_of_ble_eq_true rfl)) dX2_act_104 ⟨Nat.zero_le _, Nat.zero_le _⟩) hS (fun _ h => h) (fun zS4 H locs hw hP hS => ?_)
        have hf := hf.trans (bnd_eq hw)
        refine lv_goto (tgt := 151) hx hb dX2_act_107 (by decide) ?_
        exact rv hQ C0 hr hlocks hK hP hS (by rw [← hF]; exact hf.symm) dX2_act_151
      · have hf := hf.trans (if_neg zc3)
        by_cases zc5 : p1 = 108
        · have hf := hf.trans (if_pos zc5)
          refine lv_lookup (off := 69) (tgt := 110) hx hb dX2_act_41 (by decide) (by rw [zc5]; decide) (by decide) ?_
          refine lv_aload hx hb dX2_act_110 (lv_at hl 0 rfl) ?_
          refine lv_iload_n hx hb dX2_act_112 rfl (lv_at hl 4 rfl) ?_
          refine pO (T := TX4) (ty0 := tyX4) locX C0 inA4 tyX4_ok nmX4 hK hP hA hS (xShip g (by omega) (plc_lt zc2.1)) rfl 5 (by decide) (hts _ q95) rfl 5 p3 rfl rfl rfl (Nat.le_of_ble_eq_true rfl) dX2_act_113 (fun H locs hP hS => ?_)
          refine lv_goto (tgt := 151) hx hb dX2_act_116 (by decide) ?_
          exact rv hQ C0 hr hlocks hK hP hS (by rw [← hF]; exact hf.symm) dX2_act_151
        · have hf := hf.trans (if_neg zc5)
          by_cases zc6 : p1 = 112
          · have hf := hf.trans (if_pos zc6)
            refine lv_lookup (off := 78) (tgt := 119) hx hb dX2_act_41 (by decide) (by rw [zc6]; decide) (by decide) ?_
            refine lv_aload hx hb dX2_act_119 (lv_at hl 0 rfl) ?_
            refine lv_dup hx hb dX2_act_121 rfl ?_
            refine gO (T := TX4) C0 inA4 hK hP (xShip g (by omega) (plc_lt zc2.1)) rfl 2 (by decide) (hts _ q85) (v := .int (S.1 o (Int32.toNatClampNeg p2) 2)) rfl dX2_act_122 ?_
            refine lv_iconst (v := 2) hx hb dX2_act_125 (by decide) ?_
            refine lv_idiv hx hb dX2_act_126 (by decide) ?_
            refine pO (T := TX4) (ty0 := tyX4) locX C0 inA4 tyX4_ok nmX4 hK hP hA hS (xShip g (by omega) (plc_lt zc2.1)) rfl 2 (by decide) (hts _ q85) rfl 2 ((S.1 o (Int32.toNatClampNeg p2) 2) / 2) rfl rfl rfl (Nat.le_of_ble_eq_true rfl) dX2_act_127 (fun H locs hP hS => ?_)
            refine lv_goto (tgt := 151) hx hb dX2_act_130 (by decide) ?_
            exact rv hQ C0 hr hlocks hK hP hS (by rw [← hF]; exact hf.symm) dX2_act_151
          · have hf := hf.trans (if_neg zc6)
            by_cases zc7 : p1 = 115
            · have hf := hf.trans (if_pos zc7)
              refine lv_lookup (off := 92) (tgt := 133) hx hb dX2_act_41 (by decide) (by rw [zc7]; decide) (by decide) ?_
              refine lv_aload_n hx hb dX2_act_133 rfl (lv_at hl 1 rfl) ?_
              refine lv_aload hx hb dX2_act_134 (lv_at hl 0 rfl) ?_
              refine kv (va_runV (As := [.ref (g.1 o (Int32.toNatClampNeg p2))]) (rest := []) C0 (kX2_comeHome l g A hA S o (Int32.toNatClampNeg p2) (by omega) (plc_lt zc2.1)) (cwV 1 hts (gV q445 q447 q4 q47 q448) rfl rfl rfl (by decide +kernel) ⟨Nat.le_of_ble_eq_true rfl, Nat.le_of_ble_eq_true rfl⟩) (preV (recO (xOwner g ho) hP hK rfl) hP hK) rfl rfl hl.1 rfl (lv_room (Nat.le_of_ble_eq_true rfl)) dX2_act_136 ⟨Nat.zero_le _, Nat.zero_le _⟩) hS (fun _ h => h) (fun zS8 H locs hw hP hS => ?_)
              have hf := hf.trans (bnd_eq hw)
              refine lv_goto (tgt := 151) hx hb dX2_act_139 (by decide) ?_
              exact rv hQ C0 hr hlocks hK hP hS (by rw [← hF]; exact hf.symm) dX2_act_151
            · have hf := hf.trans (if_neg zc7)
              by_cases zc9 : p1 = 120
              · have hf := hf.trans (if_pos zc9)
                refine lv_lookup (off := 101) (tgt := 142) hx hb dX2_act_41 (by decide) (by rw [zc9]; decide) (by decide) ?_
                refine lv_aload_n hx hb dX2_act_142 rfl (lv_at hl 1 rfl) ?_
                refine lv_aload hx hb dX2_act_143 (lv_at hl 0 rfl) ?_
                refine kv (va_runV (As := [.ref (g.1 o (Int32.toNatClampNeg p2))]) (rest := []) C0 (kX2_sink l g A hA S o (Int32.toNatClampNeg p2) (by omega) (plc_lt zc2.1)) (cwV 1 hts (gV q452 q454 q5 q47 q455) rfl rfl rfl (by decide +kernel) ⟨Nat.le_of_ble_eq_true rfl, Nat.le_of_ble_eq_true rfl⟩) (preV (recO (xOwner g ho) hP hK rfl) hP hK) rfl rfl hl.1 rfl (lv_room (Nat.le_of_ble_eq_true rfl)) dX2_act_145 ⟨Nat.zero_le _, Nat.zero_le _⟩) hS (fun _ h => h) (fun zS10 H locs hw hP hS => ?_)
                have hf := hf.trans (bnd_eq hw)
                refine lv_goto (tgt := 151) hx hb dX2_act_148 (by decide) ?_
                exact rv hQ C0 hr hlocks hK hP hS (by rw [← hF]; exact hf.symm) dX2_act_151
              · have hf := hf.trans (if_neg zc9)
                refine lv_lookup (off := 110) (tgt := 151) hx hb dX2_act_41 (by decide) ((lv_osw zc3 (by decide)).trans ((lv_osw zc5 (by decide)).trans ((lv_osw zc6 (by decide)).trans ((lv_osw zc7 (by decide)).trans ((lv_osw zc9 (by decide)).trans rfl))))) (by decide) ?_
                exact rv hQ C0 hr hlocks hK hP hS (by rw [← hF]; exact hf.symm) dX2_act_151
    · have hf := hf.trans (if_neg zc2)
      refine lv_astoreN (lv' := [(4, .null), (0, .ref (g.1 o 6)), (1, .int p1), (2, .int p2), (3, .int p3)]) hx hb dX2_act_32 hl (by decide) rfl (fun ls hl => ?_)
      refine lv_aloadN hx hb dX2_act_34 (lv_at hl 0 rfl) ?_
      refine lv_ifnonnullN hx hb dX2_act_36 ?_
      exact rv hQ C0 hr hlocks hK hP hS (by rw [← hF]; exact hf.symm) dX2_act_39
  · have hf := hf.trans (if_pos zc1)
    refine lv_aload_n hx hb dX2_act_6 rfl (lv_at hl 0 rfl) ?_
    refine lv_iconst (v := 1) hx hb dX2_act_7 (by decide) ?_
    refine lv_aload_n hx hb dX2_act_8 rfl (lv_at hl 0 rfl) ?_
    refine gO (T := TX2) C0 inA2 hK hP (xOwner g ho) rfl 3 (by decide) (hts _ q118) (v := .int (S.1 o 6 2)) rfl dX2_act_9 ?_
    refine lv_isub hx hb dX2_act_12 ?_
    refine pO (T := TX2) (ty0 := tyX2) locX C0 inA2 tyX2_ok nmX2 hK hP hA hS (xOwner g ho) rfl 3 (by decide) (hts _ q118) rfl 2 (1 - (S.1 o 6 2)) rfl rfl rfl (Nat.le_of_ble_eq_true rfl) dX2_act_13 (fun H locs hP hS => ?_)
    refine lv_aload_n hx hb dX2_act_16 rfl (lv_at hl 0 rfl) ?_
    refine lv_dup hx hb dX2_act_17 rfl ?_
    refine gO (T := TX2) C0 inA2 hK hP (xOwner g ho) rfl 4 (by decide) (hts _ q120) (v := .int ((up S o 6 2 (1 - (S.1 o 6 2))).1 o 6 3)) rfl dX2_act_18 ?_
    refine lv_iconst (v := 1) hx hb dX2_act_21 (by decide) ?_
    refine lv_iadd hx hb dX2_act_22 ?_
    refine pO (T := TX2) (ty0 := tyX2) locX C0 inA2 tyX2_ok nmX2 hK hP hA hS (xOwner g ho) rfl 4 (by decide) (hts _ q120) rfl 3 (((up S o 6 2 (1 - (S.1 o 6 2))).1 o 6 3) + 1) rfl rfl rfl (Nat.le_of_ble_eq_true rfl) dX2_act_23 (fun H locs hP hS => ?_)
    exact rv hQ C0 hr hlocks hK hP hS (by rw [← hF]; exact hf.symm) dX2_act_26
def tX2_kindDrawn (S : St) (o : Nat) (p1 : Int32) (p2 : Int32) (p3 : Int32) : Int32 :=
  (if p1 = 0 then 105 else (if p1 = 1 then 108 else (if p1 = 2 then 108 else (if p1 = 3 then 112 else (if p1 = 4 then 46 else (if isAt S o p2 then (if (tX2_riskWith S o (Int32.toNatClampNeg p2) (S.1 o (Int32.toNatClampNeg p2) 5)) ≤ p3 then 115 else 120) else 115))))))
set_option maxHeartbeats 4000000 in
set_option maxRecDepth 100000 in
theorem kX2_kindDrawn (l : Launch) (g : Gd) (A : Nat → Prop) (hA : Ads g.1 VX A) (S : St) (o : Nat) (p1 : Int32) (p2 : Int32) (p3 : Int32) (ho : o < 4) : Met l yX2_kindDrawn (wU yX2_kindDrawn cX2_kindDrawn 5 (some .int)) { frames := 2, cells := 0, slots := 0, locals := 43 } (va_Pc [.ref (g.1 o 6), .int p1, .int p2, .int p3] (PW VX ctX g S)) (va_Qi (fun r u => r = tX2_kindDrawn S o p1 p2 p3 ∧ u = S) (fun u U => PW VX ctX g u U) A) 0 0 A := by
  refine ent (cc := cX2_kindDrawn) (maxL := 5) (ret := (some .int)) (by decide) (Nat.le_of_ble_eq_true rfl) ?_
  intro p e s m below meth c args Q C0 hr hlocks hP hK hQ ls hl
  have hx := C0.1
  have hb := C0.2.1
  have hml := C0.2.2.1
  have hown := C0.2.2.2.1
  have hts := C0.2.2.2.2
  obtain ⟨F, hF⟩ : ∃ F : Int32, F = tX2_kindDrawn S o p1 p2 p3 := ⟨_, rfl⟩
  have hf := hF
  unfold tX2_kindDrawn at hf
  have hS : va_S A s.heap s.heap [] := va_S.rf
  have hl : lv_has ls 5 [(0, .ref (g.1 o 6)), (1, .int p1), (2, .int p2), (3, .int p3)] := hl
  refine lv_iload_n hx hb dX2_kindDrawn_0 rfl (lv_at hl 1 rfl) ?_
  by_cases zc1 : p1 = 0
  · have hf := hf.trans (if_pos zc1)
    refine lv_tableIn (off := 35) (tgt := 36) hx hb dX2_kindDrawn_1 (by rw [zc1]; decide) (by rw [zc1]; decide) (by rw [zc1]; decide) (by decide) ?_
    refine lv_bipush (v := 105) hx hb dX2_kindDrawn_36 (by decide) ?_
    exact ri hQ C0 hr hlocks hK hP hS (by rw [← hF]; exact ⟨hf.symm, rfl⟩) dX2_kindDrawn_38
  · have hf := hf.trans (if_neg zc1)
    by_cases zc2 : p1 = 1
    · have hf := hf.trans (if_pos zc2)
      refine lv_tableIn (off := 38) (tgt := 39) hx hb dX2_kindDrawn_1 (by rw [zc2]; decide) (by rw [zc2]; decide) (by rw [zc2]; decide) (by decide) ?_
      refine lv_bipush (v := 108) hx hb dX2_kindDrawn_39 (by decide) ?_
      exact ri hQ C0 hr hlocks hK hP hS (by rw [← hF]; exact ⟨hf.symm, rfl⟩) dX2_kindDrawn_41
    · have hf := hf.trans (if_neg zc2)
      by_cases zc3 : p1 = 2
      · have hf := hf.trans (if_pos zc3)
        refine lv_tableIn (off := 38) (tgt := 39) hx hb dX2_kindDrawn_1 (by rw [zc3]; decide) (by rw [zc3]; decide) (by rw [zc3]; decide) (by decide) ?_
        refine lv_bipush (v := 108) hx hb dX2_kindDrawn_39 (by decide) ?_
        exact ri hQ C0 hr hlocks hK hP hS (by rw [← hF]; exact ⟨hf.symm, rfl⟩) dX2_kindDrawn_41
      · have hf := hf.trans (if_neg zc3)
        by_cases zc4 : p1 = 3
        · have hf := hf.trans (if_pos zc4)
          refine lv_tableIn (off := 41) (tgt := 42) hx hb dX2_kindDrawn_1 (by rw [zc4]; decide) (by rw [zc4]; decide) (by rw [zc4]; decide) (by decide) ?_
          refine lv_bipush (v := 112) hx hb dX2_kindDrawn_42 (by decide) ?_
          exact ri hQ C0 hr hlocks hK hP hS (by rw [← hF]; exact ⟨hf.symm, rfl⟩) dX2_kindDrawn_44
        · have hf := hf.trans (if_neg zc4)
          by_cases zc5 : p1 = 4
          · have hf := hf.trans (if_pos zc5)
            refine lv_tableIn (off := 44) (tgt := 45) hx hb dX2_kindDrawn_1 (by rw [zc5]; decide) (by rw [zc5]; decide) (by rw [zc5]; decide) (by decide) ?_
            refine lv_bipush (v := 46) hx hb dX2_kindDrawn_45 (by decide) ?_
            exact ri hQ C0 hr hlocks hK hP hS (by rw [← hF]; exact ⟨hf.symm, rfl⟩) dX2_kindDrawn_47
          · have hf := hf.trans (if_neg zc5)
            refine lv_tableOut (tgt := 48) hx hb dX2_kindDrawn_1 (by have h0 := lv_neT (a := 0) zc1 (by decide); have h1 := lv_neT (a := 1) zc2 (by decide); have h2 := lv_neT (a := 2) zc3 (by decide); have h3 := lv_neT (a := 3) zc4 (by decide); have h4 := lv_neT (a := 4) zc5 (by decide); omega) (by decide) ?_
            refine lv_aload_n hx hb dX2_kindDrawn_48 rfl (lv_at hl 0 rfl) ?_
            refine lv_iload_n hx hb dX2_kindDrawn_49 rfl (lv_at hl 2 rfl) ?_
            refine kqc (va_runV (As := [.int p2]) (rest := []) C0 (kX2_shipAt l g A hA S o p2 ho) (cwV 1 hts (gV q312 q313 q314 q47 q315) rfl rfl rfl (by decide +kernel) ⟨Nat.le_of_ble_eq_true rfl, Nat.le_of_ble_eq_true rfl⟩) (preV (recO (xOwner g ho) hP hK rfl) hP hK) rfl rfl hl.1 rfl (lv_room (Nat.le_of_ble_eq_true rfl)) dX2_kindDrawn_50 ⟨Nat.zero_le _, Nat.zero_le _⟩) hS (fun _ h => h) (fun zc6 H locs hP hS => ?_) (fun zc6 H locs hP hS => ?_)
            · have hf := hf.trans (if_pos zc6)
              refine lv_astore (lv' := [(4, .ref (g.1 o (Int32.toNatClampNeg p2))), (0, .ref (g.1 o 6)), (1, .int p1), (2, .int p2), (3, .int p3)]) hx hb dX2_kindDrawn_53 hl (by decide) rfl (fun ls hl => ?_)
              refine lv_aload hx hb dX2_kindDrawn_55 (lv_at hl 0 rfl) ?_
              refine lv_ifnull hx hb dX2_kindDrawn_57 ?_
              refine lv_iload_n hx hb dX2_kindDrawn_60 rfl (lv_at hl 4 rfl) ?_
              refine lv_aload_n hx hb dX2_kindDrawn_61 rfl (lv_at hl 1 rfl) ?_
              refine lv_aload hx hb dX2_kindDrawn_62 (lv_at hl 0 rfl) ?_
              refine lv_aload hx hb dX2_kindDrawn_64 (lv_at hl 0 rfl) ?_
              refine gO (T := TX4) C0 inA4 hK hP (xShip g (by omega) (plc_lt zc6.1)) rfl 5 (by decide) (hts _ q95) (v := .int (S.1 o (Int32.toNatClampNeg p2) 5)) rfl dX2_kindDrawn_66 ?_
              refine kiP (va_runV (As := [.ref (g.1 o (Int32.toNatClampNeg p2)), .int (S.1 o (Int32.toNatClampNeg p2) 5)]) (rest := [.int p3]) C0 (kX2_riskWith l g A hA S o (Int32.toNatClampNeg p2) (S.1 o (Int32.toNatClampNeg p2) 5) (by omega) (plc_lt zc6.1)) (cwV 2 hts (gV q436 q437 q438 q47 q439) rfl rfl rfl (by decide +kernel) ⟨Nat.le_of_ble_eq_true rfl, Nat.le_of_ble_eq_true rfl⟩) (preV (recO (xOwner g ho) hP hK rfl) hP hK) rfl rfl hl.1 rfl (lv_room (Nat.le_of_ble_eq_true rfl)) dX2_kindDrawn_69 ⟨Nat.zero_le _, Nat.zero_le _⟩) hS (fun _ h => h) (fun H locs hP hS => ?_)
              refine lv_icmp_ge (tgt := 80) hx hb dX2_kindDrawn_72 (by decide) (fun zc7 => ?_) (fun zc7 => ?_)
              · have hf := hf.trans (if_pos zc7)
                refine lv_bipush (v := 115) hx hb dX2_kindDrawn_80 (by decide) ?_
                exact ri hQ C0 hr hlocks hK hP hS (by rw [← hF]; exact ⟨hf.symm, rfl⟩) dX2_kindDrawn_82
              · have hf := hf.trans (if_neg zc7)
                refine lv_bipush (v := 120) hx hb dX2_kindDrawn_75 (by decide) ?_
                refine lv_goto (tgt := 82) hx hb dX2_kindDrawn_77 (by decide) ?_
                exact ri hQ C0 hr hlocks hK hP hS (by rw [← hF]; exact ⟨hf.symm, rfl⟩) dX2_kindDrawn_82
            · have hf := hf.trans (if_neg zc6)
              refine lv_astoreN (lv' := [(4, .null), (0, .ref (g.1 o 6)), (1, .int p1), (2, .int p2), (3, .int p3)]) hx hb dX2_kindDrawn_53 hl (by decide) rfl (fun ls hl => ?_)
              refine lv_aloadN hx hb dX2_kindDrawn_55 (lv_at hl 0 rfl) ?_
              refine lv_ifnullN (tgt := 80) hx hb dX2_kindDrawn_57 (by decide) ?_
              refine lv_bipush (v := 115) hx hb dX2_kindDrawn_80 (by decide) ?_
              exact ri hQ C0 hr hlocks hK hP hS (by rw [← hF]; exact ⟨hf.symm, rfl⟩) dX2_kindDrawn_82
def tX2_actAsDrawn (S : St) (o : Nat) (p1 : Int32) : St :=
  (if (tX2_kindDrawn S o (irm (p1 / 6) 8) (irm p1 6) (irm (p1 / 48) 100)) = 105 then (if (tX2_reasonAgainst S o (tX2_kindDrawn S o (irm (p1 / 6) 8) (irm p1 6) (irm (p1 / 48) 100)) (irm p1 6) (irm (p1 / 48) 3)) = 0 then (bnd (tX2_act S o (tX2_kindDrawn S o (irm (p1 / 6) 8) (irm p1 6) (irm (p1 / 48) 100)) (irm p1 6) (irm (p1 / 48) 3)) (fun zS5 => zS5)) else S) else (if (tX2_reasonAgainst S o (tX2_kindDrawn S o (irm (p1 / 6) 8) (irm p1 6) (irm (p1 / 48) 100)) (irm p1 6) (irm (p1 / 48) 10)) = 0 then (bnd (tX2_act S o (tX2_kindDrawn S o (irm (p1 / 6) 8) (irm p1 6) (irm (p1 / 48) 100)) (irm p1 6) (irm (p1 / 48) 10)) (fun zS3 => zS3)) else S))
set_option maxHeartbeats 4000000 in
set_option maxRecDepth 100000 in
theorem kX2_actAsDrawn (l : Launch) (g : Gd) (A : Nat → Prop) (hA : Ads g.1 VX A) (S : St) (o : Nat) (p1 : Int32) (ho : o < 4) : Met l yX2_actAsDrawn (wU yX2_actAsDrawn cX2_actAsDrawn 7 none) { frames := 3, cells := 0, slots := 0, locals := 67 } (va_Pc [.ref (g.1 o 6), .int p1] (PW VX ctX g S)) (va_Qv (fun u => u = tX2_actAsDrawn S o p1) (fun u U => PW VX ctX g u U) A) 0 0 A := by
  refine ent (cc := cX2_actAsDrawn) (maxL := 7) (ret := none) (by decide) (Nat.le_of_ble_eq_true rfl) ?_
  intro p e s m below meth c args Q C0 hr hlocks hP hK hQ ls hl
  have hx := C0.1
  have hb := C0.2.1
  have hml := C0.2.2.1
  have hown := C0.2.2.2.1
  have hts := C0.2.2.2.2
  obtain ⟨F, hF⟩ : ∃ F : St, F = tX2_actAsDrawn S o p1 := ⟨_, rfl⟩
  have hf := hF
  unfold tX2_actAsDrawn at hf
  have hS : va_S A s.heap s.heap [] := va_S.rf
  have hl : lv_has ls 7 [(0, .ref (g.1 o 6)), (1, .int p1)] := hl
  refine lv_iload_n hx hb dX2_actAsDrawn_0 rfl (lv_at hl 1 rfl) ?_
  refine lv_bipush (v := 6) hx hb dX2_actAsDrawn_1 (by decide) ?_
  refine kirem hx hb dX2_actAsDrawn_3 (by decide) ?_
  refine lv_istore_n (lv' := [(2, .int (irm p1 6)), (0, .ref (g.1 o 6)), (1, .int p1)]) hx hb dX2_actAsDrawn_4 rfl hl (by decide) rfl (fun ls hl => ?_)
  refine lv_iload_n hx hb dX2_actAsDrawn_5 rfl (lv_at hl 2 rfl) ?_
  refine lv_bipush (v := 6) hx hb dX2_actAsDrawn_6 (by decide) ?_
  refine lv_idiv hx hb dX2_actAsDrawn_8 (by decide) ?_
  refine lv_bipush (v := 8) hx hb dX2_actAsDrawn_9 (by decide) ?_
  refine kirem hx hb dX2_actAsDrawn_11 (by decide) ?_
  refine lv_istore_n (lv' := [(3, .int (irm (p1 / 6) 8)), (2, .int (irm p1 6)), (0, .ref (g.1 o 6)), (1, .int p1)]) hx hb dX2_actAsDrawn_12 rfl hl (by decide) rfl (fun ls hl => ?_)
  refine lv_iload_n hx hb dX2_actAsDrawn_13 rfl (lv_at hl 3 rfl) ?_
  refine lv_bipush (v := 48) hx hb dX2_actAsDrawn_14 (by decide) ?_
  refine lv_idiv hx hb dX2_actAsDrawn_16 (by decide) ?_
  refine lv_istore (lv' := [(4, .int (p1 / 48)), (3, .int (irm (p1 / 6) 8)), (2, .int (irm p1 6)), (0, .ref (g.1 o 6)), (1, .int p1)]) hx hb dX2_actAsDrawn_17 hl (by decide) rfl (fun ls hl => ?_)
  refine lv_aload_n hx hb dX2_actAsDrawn_19 rfl (lv_at hl 3 rfl) ?_
  refine lv_iload_n hx hb dX2_actAsDrawn_20 rfl (lv_at hl 1 rfl) ?_
  refine lv_iload_n hx hb dX2_actAsDrawn_21 rfl (lv_at hl 2 rfl) ?_
  refine lv_iload hx hb dX2_actAsDrawn_22 (lv_at hl 0 rfl) ?_
  refine lv_bipush (v := 100) hx hb dX2_actAsDrawn_24 (by decide) ?_
  refine kirem hx hb dX2_actAsDrawn_26 (by decide) ?_
  refine kiP (va_runV (As := [.int (irm (p1 / 6) 8), .int (irm p1 6), .int (irm (p1 / 48) 100)]) (rest := []) C0 (kX2_kindDrawn l g A hA S o (irm (p1 / 6) 8) (irm p1 6) (irm (p1 / 48) 100) ho) (cwV 3 hts (gV q636 q638 q11 q47 q639) rfl rfl rfl (by decide +kernel) ⟨Nat.le_of_ble_eq_true rfl, Nat.le_of_ble_eq_true rfl⟩) (preV (recO (xOwner g ho) hP hK rfl) hP hK) rfl rfl hl.1 rfl (lv_room (Nat.le_of_ble_eq_true rfl)) dX2_actAsDrawn_27 ⟨Nat.zero_le _, Nat.zero_le _⟩) hS (fun _ h => h) (fun H locs hP hS => ?_)
  refine lv_istore (lv' := [(5, .int (tX2_kindDrawn S o (irm (p1 / 6) 8) (irm p1 6) (irm (p1 / 48) 100))), (4, .int (p1 / 48)), (3, .int (irm (p1 / 6) 8)), (2, .int (irm p1 6)), (0, .ref (g.1 o 6)), (1, .int p1)]) hx hb dX2_actAsDrawn_30 hl (by decide) rfl (fun ls hl => ?_)
  refine lv_iload hx hb dX2_actAsDrawn_32 (lv_at hl 0 rfl) ?_
  refine lv_bipush (v := 105) hx hb dX2_actAsDrawn_34 (by decide) ?_
  refine lv_icmp_ne (tgt := 46) hx hb dX2_actAsDrawn_36 (by decide) (fun zc1 => ?_) (fun zc1 => ?_)
  · have hf := hf.trans (if_neg zc1)
    refine lv_iload hx hb dX2_actAsDrawn_46 (lv_at hl 1 rfl) ?_
    refine lv_bipush (v := 10) hx hb dX2_actAsDrawn_48 (by decide) ?_
    refine kirem hx hb dX2_actAsDrawn_50 (by decide) ?_
    refine lv_istore (lv' := [(6, .int (irm (p1 / 48) 10)), (5, .int (tX2_kindDrawn S o (irm (p1 / 6) 8) (irm p1 6) (irm (p1 / 48) 100))), (4, .int (p1 / 48)), (3, .int (irm (p1 / 6) 8)), (2, .int (irm p1 6)), (0, .ref (g.1 o 6)), (1, .int p1)]) hx hb dX2_actAsDrawn_51 hl (by decide) rfl (fun ls hl => ?_)
    refine lv_aload_n hx hb dX2_actAsDrawn_53 rfl (lv_at hl 5 rfl) ?_
    refine lv_iload hx hb dX2_actAsDrawn_54 (lv_at hl 1 rfl) ?_
    refine lv_iload_n hx hb dX2_actAsDrawn_56 rfl (lv_at hl 4 rfl) ?_
    refine lv_iload hx hb dX2_actAsDrawn_57 (lv_at hl 0 rfl) ?_
    refine kiP (va_runV (As := [.int (tX2_kindDrawn S o (irm (p1 / 6) 8) (irm p1 6) (irm (p1 / 48) 100)), .int (irm p1 6), .int (irm (p1 / 48) 10)]) (rest := []) C0 (kX2_reasonAgainst l g A hA S o (tX2_kindDrawn S o (irm (p1 / 6) 8) (irm p1 6) (irm (p1 / 48) 100)) (irm p1 6) (irm (p1 / 48) 10) ho) (cwV 3 hts (gV q640 q428 q429 q47 q430) rfl rfl rfl (by decide +kernel) ⟨Nat.le_of_ble_eq_true rfl, Nat.le_of_ble_eq_true rfl⟩) (preV (recO (xOwner g ho) hP hK rfl) hP hK) rfl rfl hl.1 rfl (lv_room (Nat.le_of_ble_eq_true rfl)) dX2_actAsDrawn_59 ⟨Nat.zero_le _, Nat.zero_le _⟩) hS (fun _ h => h) (fun H locs hP hS => ?_)
    refine lv_if_ne (tgt := 74) hx hb dX2_actAsDrawn_62 (by decide) (fun zc2 => ?_) (fun zc2 => ?_)
    · have hf := hf.trans (if_neg zc2)
      exact rv hQ C0 hr hlocks hK hP hS (by rw [← hF]; exact hf.symm) dX2_actAsDrawn_74
    · have hf := hf.trans (if_pos zc2)
      refine lv_aload_n hx hb dX2_actAsDrawn_65 rfl (lv_at hl 5 rfl) ?_
      refine lv_iload hx hb dX2_actAsDrawn_66 (lv_at hl 1 rfl) ?_
      refine lv_iload_n hx hb dX2_actAsDrawn_68 rfl (lv_at hl 4 rfl) ?_
      refine lv_iload hx hb dX2_actAsDrawn_69 (lv_at hl 0 rfl) ?_
      refine kv (va_runV (As := [.int (tX2_kindDrawn S o (irm (p1 / 6) 8) (irm p1 6) (irm (p1 / 48) 100)), .int (irm p1 6), .int (irm (p1 / 48) 10)]) (rest := []) C0 (kX2_act l g A hA S o (tX2_kindDrawn S o (irm (p1 / 6) 8) (irm p1 6) (irm (p1 / 48) 100)) (irm p1 6) (irm (p1 / 48) 10) ho) (cwV 3 hts (gV q641 q441 q442 q47 q443) rfl rfl rfl (by decide +kernel) ⟨Nat.le_of_ble_eq_true rfl, Nat.le_of_ble_eq_true rfl⟩) (preV (recO (xOwner g ho) hP hK rfl) hP hK) rfl rfl hl.1 rfl (lv_room (Nat.le_of_ble_eq_true rfl)) dX2_actAsDrawn_71 ⟨Nat.zero_le _, Nat.zero_le _⟩) hS (fun _ h => h) (fun zS3 H locs hw hP hS => ?_)
      have hf := hf.trans (bnd_eq hw)
      exact rv hQ C0 hr hlocks hK hP hS (by rw [← hF]; exact hf.symm) dX2_actAsDrawn_74
  · have hf := hf.trans (if_pos zc1)
    refine lv_iload hx hb dX2_actAsDrawn_39 (lv_at hl 1 rfl) ?_
    refine lv_iconst (v := 3) hx hb dX2_actAsDrawn_41 (by decide) ?_
    refine kirem hx hb dX2_actAsDrawn_42 (by decide) ?_
    refine lv_goto (tgt := 51) hx hb dX2_actAsDrawn_43 (by decide) ?_
    refine lv_istore (lv' := [(6, .int (irm (p1 / 48) 3)), (5, .int (tX2_kindDrawn S o (irm (p1 / 6) 8) (irm p1 6) (irm (p1 / 48) 100))), (4, .int (p1 / 48)), (3, .int (irm (p1 / 6) 8)), (2, .int (irm p1 6)), (0, .ref (g.1 o 6)), (1, .int p1)]) hx hb dX2_actAsDrawn_51 hl (by decide) rfl (fun ls hl => ?_)
    refine lv_aload_n hx hb dX2_actAsDrawn_53 rfl (lv_at hl 5 rfl) ?_
    refine lv_iload hx hb dX2_actAsDrawn_54 (lv_at hl 1 rfl) ?_
    refine lv_iload_n hx hb dX2_actAsDrawn_56 rfl (lv_at hl 4 rfl) ?_
    refine lv_iload hx hb dX2_actAsDrawn_57 (lv_at hl 0 rfl) ?_
    refine kiP (va_runV (As := [.int (tX2_kindDrawn S o (irm (p1 / 6) 8) (irm p1 6) (irm (p1 / 48) 100)), .int (irm p1 6), .int (irm (p1 / 48) 3)]) (rest := []) C0 (kX2_reasonAgainst l g A hA S o (tX2_kindDrawn S o (irm (p1 / 6) 8) (irm p1 6) (irm (p1 / 48) 100)) (irm p1 6) (irm (p1 / 48) 3) ho) (cwV 3 hts (gV q640 q428 q429 q47 q430) rfl rfl rfl (by decide +kernel) ⟨Nat.le_of_ble_eq_true rfl, Nat.le_of_ble_eq_true rfl⟩) (preV (recO (xOwner g ho) hP hK rfl) hP hK) rfl rfl hl.1 rfl (lv_room (Nat.le_of_ble_eq_true rfl)) dX2_actAsDrawn_59 ⟨Nat.zero_le _, Nat.zero_le _⟩) hS (fun _ h => h) (fun H locs hP hS => ?_)
    refine lv_if_ne (tgt := 74) hx hb dX2_actAsDrawn_62 (by decide) (fun zc4 => ?_) (fun zc4 => ?_)
    · have hf := hf.trans (if_neg zc4)
      exact rv hQ C0 hr hlocks hK hP hS (by rw [← hF]; exact hf.symm) dX2_actAsDrawn_74
    · have hf := hf.trans (if_pos zc4)
      refine lv_aload_n hx hb dX2_actAsDrawn_65 rfl (lv_at hl 5 rfl) ?_
      refine lv_iload hx hb dX2_actAsDrawn_66 (lv_at hl 1 rfl) ?_
      refine lv_iload_n hx hb dX2_actAsDrawn_68 rfl (lv_at hl 4 rfl) ?_
      refine lv_iload hx hb dX2_actAsDrawn_69 (lv_at hl 0 rfl) ?_
      refine kv (va_runV (As := [.int (tX2_kindDrawn S o (irm (p1 / 6) 8) (irm p1 6) (irm (p1 / 48) 100)), .int (irm p1 6), .int (irm (p1 / 48) 3)]) (rest := []) C0 (kX2_act l g A hA S o (tX2_kindDrawn S o (irm (p1 / 6) 8) (irm p1 6) (irm (p1 / 48) 100)) (irm p1 6) (irm (p1 / 48) 3) ho) (cwV 3 hts (gV q641 q441 q442 q47 q443) rfl rfl rfl (by decide +kernel) ⟨Nat.le_of_ble_eq_true rfl, Nat.le_of_ble_eq_true rfl⟩) (preV (recO (xOwner g ho) hP hK rfl) hP hK) rfl rfl hl.1 rfl (lv_room (Nat.le_of_ble_eq_true rfl)) dX2_actAsDrawn_71 ⟨Nat.zero_le _, Nat.zero_le _⟩) hS (fun _ h => h) (fun zS5 H locs hw hP hS => ?_)
      have hf := hf.trans (bnd_eq hw)
      exact rv hQ C0 hr hlocks hK hP hS (by rw [← hF]; exact hf.symm) dX2_actAsDrawn_74
def LX2_copyFrom_2 (S : St) (o : Nat) (o2 : Nat) : Nat → Nat → St → St
  | 0, zi1, zS3 => (bnd (up (up (up zS3 o 6 0 (zS3.1 o2 6 0)) o 6 1 ((up zS3 o 6 0 (zS3.1 o2 6 0)).1 o2 6 1)) o 6 2 ((up (up zS3 o 6 0 (zS3.1 o2 6 0)) o 6 1 ((up zS3 o 6 0 (zS3.1 o2 6 0)).1 o2 6 1)).1 o2 6 2)) (fun zS5 => (bnd (up (up (up zS5 o 6 3 (zS5.1 o2 6 3)) o 6 4 ((up zS5 o 6 3 (zS5.1 o2 6 3)).1 o2 6 4)) o 6 5 ((up (up zS5 o 6 3 (zS5.1 o2 6 3)) o 6 4 ((up zS5 o 6 3 (zS5.1 o2 6 3)).1 o2 6 4)).1 o2 6 5)) (fun zS6 => zS6))))
  | zk2 + 1, zi1, zS3 => (if plc (nI zi1) then (bnd (tX4_copyFrom zS3 o (Int32.toNatClampNeg (nI zi1)) o2 (Int32.toNatClampNeg (nI zi1))) (fun zS10 => (LX2_copyFrom_2 S o o2 zk2 (zi1 + 1) zS10))) else (LX2_copyFrom_2 S o o2 zk2 (zi1 + 1) zS3))
def tX2_copyFrom (S : St) (o : Nat) (o2 : Nat) : St :=
  (LX2_copyFrom_2 S o o2 6 0 S)
set_option maxHeartbeats 4000000 in
set_option maxRecDepth 100000 in
theorem kX2_copyFrom (l : Launch) (g : Gd) (A : Nat → Prop) (hA : Ads g.1 VX A) (S : St) (o : Nat) (o2 : Nat) (ho : o < 4) (ho2 : o2 < 4) : Met l yX2_copyFrom (wU yX2_copyFrom cX2_copyFrom 5 none) { frames := 2, cells := 0, slots := 0, locals := 43 } (va_Pc [.ref (g.1 o 6), .ref (g.1 o2 6)] (PW VX ctX g S)) (va_Qv (fun u => u = tX2_copyFrom S o o2) (fun u U => PW VX ctX g u U) A) 0 0 A := by
  refine ent (cc := cX2_copyFrom) (maxL := 5) (ret := none) (by decide) (Nat.le_of_ble_eq_true rfl) ?_
  intro p e s m below meth c args Q C0 hr hlocks hP hK hQ ls hl
  have hx := C0.1
  have hb := C0.2.1
  have hml := C0.2.2.1
  have hown := C0.2.2.2.1
  have hts := C0.2.2.2.2
  obtain ⟨F, hF⟩ : ∃ F : St, F = tX2_copyFrom S o o2 := ⟨_, rfl⟩
  have hf := hF
  unfold tX2_copyFrom at hf
  have hS : va_S A s.heap s.heap [] := va_S.rf
  have hl : lv_has ls 5 [(0, .ref (g.1 o 6)), (1, .ref (g.1 o2 6))] := hl
  refine lv_iconst (v := 0) hx hb dX2_copyFrom_0 (by decide) ?_
  refine lv_istore_n (lv' := [(2, .int 0), (0, .ref (g.1 o 6)), (1, .ref (g.1 o2 6))]) hx hb dX2_copyFrom_1 rfl hl (by decide) rfl (fun ls hl => ?_)
  have lp2 : ∀ (zk2 zi1 : Nat) (zS3 : St) (H : Heap) (locs : List Loc), (zi1 + zk2 = 6) → (F = LX2_copyFrom_2 S o o2 zk2 zi1 zS3) → HW VX ctX g zS3 H → va_S A s.heap H locs → ∀ ls : Array Slot, lv_has ls 5 [(2, .int (nI zi1)), (0, .ref (g.1 o 6)), (1, .ref (g.1 o2 6))] → W p l e { frames := 2, cells := 0, slots := 0, locals := 43 } s m args below meth c H locs 0 0 Q (F0 m 2 ls []) := by
    intro zk2
    induction zk2 with
    | zero =>
      intro zi1 zS3 H locs hik hf hP hS ls hl
      rw [LX2_copyFrom_2] at hf
      refine lv_iload_n hx hb dX2_copyFrom_2 rfl (lv_at hl 0 rfl) ?_
      refine lv_aload_n hx hb dX2_copyFrom_3 rfl (lv_at hl 1 rfl) ?_
      refine gO (T := TX2) C0 inA2 hK hP (xOwner g ho) rfl 0 (by decide) (hts _ q113) (v := .ref (g.1 o 7)) rfl dX2_copyFrom_4 ?_
      refine lenQ (v := 6) C0 hK hP (xShips g ho) rfl rfl dX2_copyFrom_7 ?_
      refine lv_icmp_ge (tgt := 45) hx hb dX2_copyFrom_8 (by decide) (fun zc4 => ?_) (fun zc4 => absurd (up_ge0 rfl hik (by decide)) zc4)
      refine lv_aload_n hx hb dX2_copyFrom_45 rfl (lv_at hl 1 rfl) ?_
      refine lv_aload_n hx hb dX2_copyFrom_46 rfl (lv_at hl 2 rfl) ?_
      refine gO (T := TX2) C0 inA2 hK hP (xOwner g ho2) rfl 1 (by decide) (hts _ q114) (v := .int (zS3.1 o2 6 0)) rfl dX2_copyFrom_47 ?_
      refine pO (T := TX2) (ty0 := tyX2) locX C0 inA2 tyX2_ok nmX2 hK hP hA hS (xOwner g ho) rfl 1 (by decide) (hts _ q114) rfl 0 (zS3.1 o2 6 0) rfl rfl rfl (Nat.le_of_ble_eq_true rfl) dX2_copyFrom_50 (fun H locs hP hS => ?_)
      refine lv_aload_n hx hb dX2_copyFrom_53 rfl (lv_at hl 1 rfl) ?_
      refine lv_aload_n hx hb dX2_copyFrom_54 rfl (lv_at hl 2 rfl) ?_
      refine gO (T := TX2) C0 inA2 hK hP (xOwner g ho2) rfl 2 (by decide) (hts _ q116) (v := .int ((up zS3 o 6 0 (zS3.1 o2 6 0)).1 o2 6 1)) rfl dX2_copyFrom_55 ?_
      refine pO (T := TX2) (ty0 := tyX2) locX C0 inA2 tyX2_ok nmX2 hK hP hA hS (xOwner g ho) rfl 2 (by decide) (hts _ q116) rfl 1 ((up zS3 o 6 0 (zS3.1 o2 6 0)).1 o2 6 1) rfl rfl rfl (Nat.le_of_ble_eq_true rfl) dX2_copyFrom_58 (fun H locs hP hS => ?_)
      refine lv_aload_n hx hb dX2_copyFrom_61 rfl (lv_at hl 1 rfl) ?_
      refine lv_aload_n hx hb dX2_copyFrom_62 rfl (lv_at hl 2 rfl) ?_
      refine gO (T := TX2) C0 inA2 hK hP (xOwner g ho2) rfl 3 (by decide) (hts _ q118) (v := .int ((up (up zS3 o 6 0 (zS3.1 o2 6 0)) o 6 1 ((up zS3 o 6 0 (zS3.1 o2 6 0)).1 o2 6 1)).1 o2 6 2)) rfl dX2_copyFrom_63 ?_
      refine pO (T := TX2) (ty0 := tyX2) locX C0 inA2 tyX2_ok nmX2 hK hP hA hS (xOwner g ho) rfl 3 (by decide) (hts _ q118) rfl 2 ((up (up zS3 o 6 0 (zS3.1 o2 6 0)) o 6 1 ((up zS3 o 6 0 (zS3.1 o2 6 0)).1 o2 6 1)).1 o2 6 2) rfl rfl rfl (Nat.le_of_ble_eq_true rfl) dX2_copyFrom_66 (fun H locs hP hS => ?_)
      obtain ⟨zS5, hzS5⟩ : ∃ z : St, z = (up (up (up zS3 o 6 0 (zS3.1 o2 6 0)) o 6 1 ((up zS3 o 6 0 (zS3.1 o2 6 0)).1 o2 6 1)) o 6 2 ((up (up zS3 o 6 0 (zS3.1 o2 6 0)) o 6 1 ((up zS3 o 6 0 (zS3.1 o2 6 0)).1 o2 6 1)).1 o2 6 2)) := ⟨_, rfl⟩
      rw [← hzS5] at hP
      have hf := hf.trans (bnd_eq hzS5)
      refine lv_aload_n hx hb dX2_copyFrom_69 rfl (lv_at hl 1 rfl) ?_
      refine lv_aload_n hx hb dX2_copyFrom_70 rfl (lv_at hl 2 rfl) ?_
      refine gO (T := TX2) C0 inA2 hK hP (xOwner g ho2) rfl 4 (by decide) (hts _ q120) (v := .int (zS5.1 o2 6 3)) rfl dX2_copyFrom_71 ?_
      refine pO (T := TX2) (ty0 := tyX2) locX C0 inA2 tyX2_ok nmX2 hK hP hA hS (xOwner g ho) rfl 4 (by decide) (hts _ q120) rfl 3 (zS5.1 o2 6 3) rfl rfl rfl (Nat.le_of_ble_eq_true rfl) dX2_copyFrom_74 (fun H locs hP hS => ?_)
      refine lv_aload_n hx hb dX2_copyFrom_77 rfl (lv_at hl 1 rfl) ?_
      refine lv_aload_n hx hb dX2_copyFrom_78 rfl (lv_at hl 2 rfl) ?_
      refine gO (T := TX2) C0 inA2 hK hP (xOwner g ho2) rfl 5 (by decide) (hts _ q122) (v := .int ((up zS5 o 6 3 (zS5.1 o2 6 3)).1 o2 6 4)) rfl dX2_copyFrom_79 ?_
      refine pO (T := TX2) (ty0 := tyX2) locX C0 inA2 tyX2_ok nmX2 hK hP hA hS (xOwner g ho) rfl 5 (by decide) (hts _ q122) rfl 4 ((up zS5 o 6 3 (zS5.1 o2 6 3)).1 o2 6 4) rfl rfl rfl (Nat.le_of_ble_eq_true rfl) dX2_copyFrom_82 (fun H locs hP hS => ?_)
      refine lv_aload_n hx hb dX2_copyFrom_85 rfl (lv_at hl 1 rfl) ?_
      refine lv_aload_n hx hb dX2_copyFrom_86 rfl (lv_at hl 2 rfl) ?_
      refine gO (T := TX2) C0 inA2 hK hP (xOwner g ho2) rfl 6 (by decide) (hts _ q124) (v := .int ((up (up zS5 o 6 3 (zS5.1 o2 6 3)) o 6 4 ((up zS5 o 6 3 (zS5.1 o2 6 3)).1 o2 6 4)).1 o2 6 5)) rfl dX2_copyFrom_87 ?_
      refine pO (T := TX2) (ty0 := tyX2) locX C0 inA2 tyX2_ok nmX2 hK hP hA hS (xOwner g ho) rfl 6 (by decide) (hts _ q124) rfl 5 ((up (up zS5 o 6 3 (zS5.1 o2 6 3)) o 6 4 ((up zS5 o 6 3 (zS5.1 o2 6 3)).1 o2 6 4)).1 o2 6 5) rfl rfl rfl (Nat.le_of_ble_eq_true rfl) dX2_copyFrom_90 (fun H locs hP hS => ?_)
      obtain ⟨zS6, hzS6⟩ : ∃ z : St, z = (up (up (up zS5 o 6 3 (zS5.1 o2 6 3)) o 6 4 ((up zS5 o 6 3 (zS5.1 o2 6 3)).1 o2 6 4)) o 6 5 ((up (up zS5 o 6 3 (zS5.1 o2 6 3)) o 6 4 ((up zS5 o 6 3 (zS5.1 o2 6 3)).1 o2 6 4)).1 o2 6 5)) := ⟨_, rfl⟩
      rw [← hzS6] at hP
      have hf := hf.trans (bnd_eq hzS6)
      exact rv hQ C0 hr hlocks hK hP hS (by rw [← hF]; exact hf.symm) dX2_copyFrom_93
    | succ zk2 ih2 =>
      intro zi1 zS3 H locs hik hf hP hS ls hl
      rw [LX2_copyFrom_2] at hf
      refine lv_iload_n hx hb dX2_copyFrom_2 rfl (lv_at hl 0 rfl) ?_
      refine lv_aload_n hx hb dX2_copyFrom_3 rfl (lv_at hl 1 rfl) ?_
      refine gO (T := TX2) C0 inA2 hK hP (xOwner g ho) rfl 0 (by decide) (hts _ q113) (v := .ref (g.1 o 7)) rfl dX2_copyFrom_4 ?_
      refine lenQ (v := 6) C0 hK hP (xShips g ho) rfl rfl dX2_copyFrom_7 ?_
      refine lv_icmp_ge (tgt := 45) hx hb dX2_copyFrom_8 (by decide) (fun zc7 => absurd zc7 (up_ge1 rfl hik (by decide))) (fun zc7 => ?_)
      refine lv_aload_n hx hb dX2_copyFrom_11 rfl (lv_at hl 1 rfl) ?_
      refine lv_iload_n hx hb dX2_copyFrom_12 rfl (lv_at hl 0 rfl) ?_
      refine kqc (va_runV (As := [.int (nI zi1)]) (rest := []) C0 (kX2_placeAt l g A hA zS3 o (nI zi1) ho) (cwV 1 hts (gV q316 q294 q295 q47 q296) rfl rfl rfl (by decide +kernel) ⟨Nat.le_of_ble_eq_true rfl, Nat.le_of_ble_eq_true rfl⟩) (preV (recO (xOwner g ho) hP hK rfl) hP hK) rfl rfl hl.1 rfl (lv_room (Nat.le_of_ble_eq_true rfl)) dX2_copyFrom_13 ⟨Nat.zero_le _, Nat.zero_le _⟩) hS (fun _ h => h) (fun zc8 H locs hP hS => ?_) (fun zc8 H locs hP hS => ?_)
      · have hf := hf.trans (if_pos zc8)
        refine lv_astore_n (lv' := [(3, .ref (g.1 o (Int32.toNatClampNeg (nI zi1)))), (2, .int (nI zi1)), (0, .ref (g.1 o 6)), (1, .ref (g.1 o2 6))]) hx hb dX2_copyFrom_16 rfl hl (by decide) rfl (fun ls hl => ?_)
        refine lv_aload_n hx hb dX2_copyFrom_17 rfl (lv_at hl 3 rfl) ?_
        refine lv_iload_n hx hb dX2_copyFrom_18 rfl (lv_at hl 1 rfl) ?_
        refine kqc (va_runV (As := [.int (nI zi1)]) (rest := []) C0 (kX2_placeAt l g A hA zS3 o2 (nI zi1) ho2) (cwV 1 hts (gV q316 q294 q295 q47 q296) rfl rfl rfl (by decide +kernel) ⟨Nat.le_of_ble_eq_true rfl, Nat.le_of_ble_eq_true rfl⟩) (preV (recO (xOwner g ho2) hP hK rfl) hP hK) rfl rfl hl.1 rfl (lv_room (Nat.le_of_ble_eq_true rfl)) dX2_copyFrom_19 ⟨Nat.zero_le _, Nat.zero_le _⟩) hS (fun _ h => h) (fun _ H locs hP hS => ?_) (fun h9 _ _ _ _ => absurd zc8 h9)
        refine lv_astore (lv' := [(4, .ref (g.1 o2 (Int32.toNatClampNeg (nI zi1)))), (3, .ref (g.1 o (Int32.toNatClampNeg (nI zi1)))), (2, .int (nI zi1)), (0, .ref (g.1 o 6)), (1, .ref (g.1 o2 6))]) hx hb dX2_copyFrom_22 hl (by decide) rfl (fun ls hl => ?_)
        refine lv_aload_n hx hb dX2_copyFrom_24 rfl (lv_at hl 1 rfl) ?_
        refine lv_ifnull hx hb dX2_copyFrom_25 ?_
        refine lv_aload hx hb dX2_copyFrom_28 (lv_at hl 0 rfl) ?_
        refine lv_ifnull hx hb dX2_copyFrom_30 ?_
        refine lv_aload_n hx hb dX2_copyFrom_33 rfl (lv_at hl 1 rfl) ?_
        refine lv_aload hx hb dX2_copyFrom_34 (lv_at hl 0 rfl) ?_
        refine kv (va_runV (As := [.ref (g.1 o2 (Int32.toNatClampNeg (nI zi1)))]) (rest := []) C0 (kX4_copyFrom l g A hA zS3 o (Int32.toNatClampNeg (nI zi1)) o2 (Int32.toNatClampNeg (nI zi1)) (by omega) (plc_lt zc8) (by omega) (plc_lt zc8)) (cwV 1 hts (gV q394 q395 q396 q48 q397) rfl rfl rfl (by decide +kernel) ⟨Nat.le_of_ble_eq_true rfl, Nat.le_of_ble_eq_true rfl⟩) (preV (recO (xShip g (by omega) (plc_lt zc8)) hP hK rfl) hP hK) rfl rfl hl.1 rfl (lv_room (Nat.le_of_ble_eq_true rfl)) dX2_copyFrom_36 ⟨Nat.zero_le _, Nat.zero_le _⟩) hS (fun _ h => h) (fun zS10 H locs hw hP hS => ?_)
        have hf := hf.trans (bnd_eq hw)
        refine lv_iinc (v := (nI (zi1 + 1))) (lv' := [(2, .int (nI (zi1 + 1))), (4, .ref (g.1 o2 (Int32.toNatClampNeg (nI zi1)))), (3, .ref (g.1 o (Int32.toNatClampNeg (nI zi1)))), (0, .ref (g.1 o 6)), (1, .ref (g.1 o2 6))]) hx hb dX2_copyFrom_39 hl (k := 2) rfl (nI_1 _) (by decide) rfl (fun ls hl => ?_)
        refine lv_goto (tgt := 2) hx hb dX2_copyFrom_42 (by decide) ?_
        exact ih2 (zi1 + 1) zS10 _ _ (by omega) hf hP hS ls (lv_sub hl [0, 3, 4] rfl)
      · have hf := hf.trans (if_neg zc8)
        refine lv_astore_nN (lv' := [(3, .null), (2, .int (nI zi1)), (0, .ref (g.1 o 6)), (1, .ref (g.1 o2 6))]) hx hb dX2_copyFrom_16 rfl hl (by decide) rfl (fun ls hl => ?_)
        refine lv_aload_n hx hb dX2_copyFrom_17 rfl (lv_at hl 3 rfl) ?_
        refine lv_iload_n hx hb dX2_copyFrom_18 rfl (lv_at hl 1 rfl) ?_
        refine kqc (va_runV (As := [.int (nI zi1)]) (rest := []) C0 (kX2_placeAt l g A hA zS3 o2 (nI zi1) ho2) (cwV 1 hts (gV q316 q294 q295 q47 q296) rfl rfl rfl (by decide +kernel) ⟨Nat.le_of_ble_eq_true rfl, Nat.le_of_ble_eq_true rfl⟩) (preV (recO (xOwner g ho2) hP hK rfl) hP hK) rfl rfl hl.1 rfl (lv_room (Nat.le_of_ble_eq_true rfl)) dX2_copyFrom_19 ⟨Nat.zero_le _, Nat.zero_le _⟩) hS (fun _ h => h) (fun h9 _ _ _ _ => absurd h9 zc8) (fun _ H locs hP hS => ?_)
        refine lv_astoreN (lv' := [(4, .null), (3, .null), (2, .int (nI zi1)), (0, .ref (g.1 o 6)), (1, .ref (g.1 o2 6))]) hx hb dX2_copyFrom_22 hl (by decide) rfl (fun ls hl => ?_)
        refine lv_aload_nN hx hb dX2_copyFrom_24 rfl (lv_at hl 1 rfl) ?_
        refine lv_ifnullN (tgt := 39) hx hb dX2_copyFrom_25 (by decide) ?_
        refine lv_iinc (v := (nI (zi1 + 1))) (lv' := [(2, .int (nI (zi1 + 1))), (4, .null), (3, .null), (0, .ref (g.1 o 6)), (1, .ref (g.1 o2 6))]) hx hb dX2_copyFrom_39 hl (k := 2) rfl (nI_1 _) (by decide) rfl (fun ls hl => ?_)
        refine lv_goto (tgt := 2) hx hb dX2_copyFrom_42 (by decide) ?_
        exact ih2 (zi1 + 1) zS3 _ _ (by omega) hf hP hS ls (lv_sub hl [0, 3, 4] rfl)
  exact lp2 6 0 S _ _ (by decide) hf hP hS ls (lv_sub hl [0, 1, 2] rfl)
