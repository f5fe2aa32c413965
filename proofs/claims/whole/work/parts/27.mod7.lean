def tX8_actBy (S : St) (p1 : Int32) (p2 : Int32) (p3 : Int32) : Int32 :=
  (if p1 = 0 then 0 else (if 3 ≤ p1 then (if p1 = 3 then 2 else (if p1 = 4 then 5 else (if mSh S p2 then (if (tX8_risk S p2) ≤ (irm p3 100) then 3 else 4) else 3))) else 1))
set_option maxHeartbeats 4000000 in
set_option maxRecDepth 100000 in
theorem kX8_actBy (l : Launch) (g : Gd) (A : Nat → Prop) (hA : Ads g.1 VM A) (S : St) (p1 : Int32) (p2 : Int32) (p3 : Int32) : Met l yX8_actBy (wU yX8_actBy cX8_actBy 4 (some .int)) { frames := 2, cells := 0, slots := 0, locals := 46 } (va_Pc [.ref (g.1 0 0), .int p1, .int p2, .int p3] (PW VM ctM g S)) (va_Qi (fun r u => r = tX8_actBy S p1 p2 p3 ∧ u = S) (fun u U => PW VM ctM g u U) A) 0 0 A := by
  refine ent (cc := cX8_actBy) (maxL := 4) (ret := (some .int)) (by decide) (Nat.le_of_ble_eq_true rfl) ?_
  intro p e s m below meth c args Q C0 hr hlocks hP hK hQ ls hl
  have hx := C0.1
  have hb := C0.2.1
  have hml := C0.2.2.1
  have hown := C0.2.2.2.1
  have hts := C0.2.2.2.2
  obtain ⟨F, hF⟩ : ∃ F : Int32, F = tX8_actBy S p1 p2 p3 := ⟨_, rfl⟩
  have hf := hF
  unfold tX8_actBy at hf
  have hS : va_S A s.heap s.heap [] := va_S.rf
  have hl : lv_has ls 4 [(0, .ref (g.1 0 0)), (1, .int p1), (2, .int p2), (3, .int p3)] := hl
  refine lv_iload_n hx hb dX8_actBy_0 rfl (lv_at hl 1 rfl) ?_
  refine lv_if_ne (tgt := 8) hx hb dX8_actBy_1 (by decide) (fun zc1 => ?_) (fun zc1 => ?_)
  · have hf := hf.trans (if_neg zc1)
    refine lv_iload_n hx hb dX8_actBy_8 rfl (lv_at hl 1 rfl) ?_
    refine lv_iconst (v := 3) hx hb dX8_actBy_9 (by decide) ?_
    refine lv_icmp_ge (tgt := 17) hx hb dX8_actBy_10 (by decide) (fun zc2 => ?_) (fun zc2 => ?_)
    · have hf := hf.trans (if_pos zc2)
      refine lv_iload_n hx hb dX8_actBy_17 rfl (lv_at hl 1 rfl) ?_
      refine lv_iconst (v := 3) hx hb dX8_actBy_18 (by decide) ?_
      refine lv_icmp_ne (tgt := 26) hx hb dX8_actBy_19 (by decide) (fun zc3 => ?_) (fun zc3 => ?_)
      · have hf := hf.trans (if_neg zc3)
        refine lv_iload_n hx hb dX8_actBy_26 rfl (lv_at hl 1 rfl) ?_
        refine lv_iconst (v := 4) hx hb dX8_actBy_27 (by decide) ?_
        refine lv_icmp_ne (tgt := 35) hx hb dX8_actBy_28 (by decide) (fun zc4 => ?_) (fun zc4 => ?_)
        · have hf := hf.trans (if_neg zc4)
          refine lv_aload_n hx hb dX8_actBy_35 rfl (lv_at hl 0 rfl) ?_
          refine lv_iload_n hx hb dX8_actBy_36 rfl (lv_at hl 2 rfl) ?_
          refine kzc (va_runV (As := [.int p2]) (rest := []) C0 (kX8_isShip l g A hA S p2) (cwV 1 hts (gV q812 q814 q13 q54 q815) rfl rfl rfl (by decide +kernel) ⟨Nat.le_of_ble_eq_true rfl, Nat.le_of_ble_eq_true rfl⟩) (preV (recO (mMain g) hP hK rfl) hP hK) rfl rfl hl.1 rfl (lv_room (Nat.le_of_ble_eq_true rfl)) dX8_actBy_37 ⟨Nat.zero_le _, Nat.zero_le _⟩) hS (fun _ h => h) (fun zc5 H locs hP hS => ?_) (fun zc5 H locs hP hS => ?_)
          · have hf := hf.trans (if_pos zc5)
            refine lv_if_eq (tgt := 59) hx hb dX8_actBy_40 (by decide) (fun zc6 => absurd zc6 (by decide)) (fun zc6 => ?_)
            refine lv_iload_n hx hb dX8_actBy_43 rfl (lv_at hl 3 rfl) ?_
            refine lv_bipush (v := 100) hx hb dX8_actBy_44 (by decide) ?_
            refine kirem hx hb dX8_actBy_46 (by decide) ?_
            refine lv_aload_n hx hb dX8_actBy_47 rfl (lv_at hl 0 rfl) ?_
            refine lv_iload_n hx hb dX8_actBy_48 rfl (lv_at hl 2 rfl) ?_
            refine kiP (va_runV (As := [.int p2]) (rest := [.int (irm p3 100)]) C0 (kX8_risk l g A hA S p2 (mSh_in zc5)) (cwV 1 hts (gV q882 q884 q21 q54 q885) rfl rfl rfl (by decide +kernel) ⟨Nat.le_of_ble_eq_true rfl, Nat.le_of_ble_eq_true rfl⟩) (preV (recO (mMain g) hP hK rfl) hP hK) rfl rfl hl.1 rfl (lv_room (Nat.le_of_ble_eq_true rfl)) dX8_actBy_49 ⟨Nat.zero_le _, Nat.zero_le _⟩) hS (fun _ h => h) (fun H locs hP hS => ?_)
            refine lv_icmp_ge (tgt := 59) hx hb dX8_actBy_52 (by decide) (fun zc7 => ?_) (fun zc7 => ?_)
            · have hf := hf.trans (if_pos zc7)
              refine lv_iconst (v := 3) hx hb dX8_actBy_59 (by decide) ?_
              exact ri hQ C0 hr hlocks hK hP hS (by rw [← hF]; exact ⟨hf.symm, rfl⟩) dX8_actBy_60
            · have hf := hf.trans (if_neg zc7)
              refine lv_iconst (v := 4) hx hb dX8_actBy_55 (by decide) ?_
              refine lv_goto (tgt := 60) hx hb dX8_actBy_56 (by decide) ?_
              exact ri hQ C0 hr hlocks hK hP hS (by rw [← hF]; exact ⟨hf.symm, rfl⟩) dX8_actBy_60
          · have hf := hf.trans (if_neg zc5)
            refine lv_if_eq (tgt := 59) hx hb dX8_actBy_40 (by decide) (fun zc8 => ?_) (fun zc8 => absurd (by decide) zc8)
            refine lv_iconst (v := 3) hx hb dX8_actBy_59 (by decide) ?_
            exact ri hQ C0 hr hlocks hK hP hS (by rw [← hF]; exact ⟨hf.symm, rfl⟩) dX8_actBy_60
        · have hf := hf.trans (if_pos zc4)
          refine lv_iconst (v := 5) hx hb dX8_actBy_31 (by decide) ?_
          refine lv_goto (tgt := 60) hx hb dX8_actBy_32 (by decide) ?_
          exact ri hQ C0 hr hlocks hK hP hS (by rw [← hF]; exact ⟨hf.symm, rfl⟩) dX8_actBy_60
      · have hf := hf.trans (if_pos zc3)
        refine lv_iconst (v := 2) hx hb dX8_actBy_22 (by decide) ?_
        refine lv_goto (tgt := 60) hx hb dX8_actBy_23 (by decide) ?_
        exact ri hQ C0 hr hlocks hK hP hS (by rw [← hF]; exact ⟨hf.symm, rfl⟩) dX8_actBy_60
    · have hf := hf.trans (if_neg zc2)
      refine lv_iconst (v := 1) hx hb dX8_actBy_13 (by decide) ?_
      refine lv_goto (tgt := 60) hx hb dX8_actBy_14 (by decide) ?_
      exact ri hQ C0 hr hlocks hK hP hS (by rw [← hF]; exact ⟨hf.symm, rfl⟩) dX8_actBy_60
  · have hf := hf.trans (if_pos zc1)
    refine lv_iconst (v := 0) hx hb dX8_actBy_4 (by decide) ?_
    refine lv_goto (tgt := 60) hx hb dX8_actBy_5 (by decide) ?_
    exact ri hQ C0 hr hlocks hK hP hS (by rw [← hF]; exact ⟨hf.symm, rfl⟩) dX8_actBy_60
theorem yrE {j : Nat} (hj : j ≤ 65536) : (Int64.toInt32 (lrm ((75 * (Int32.toInt64 (nI j))) + 74) 65537)) = nI ((75 * j + 74) % 65537) := by
  rw [nI_l (by omega), show (75 : Int64) = lN 75 from rfl, show (74 : Int64) = lN 74 from rfl, show (65537 : Int64) = lN 65537 from rfl, lN_mul, lN_add]
  show (lrm (lN (75 * j + 74)) (lN 65537)).toInt32 = _
  rw [show lrm (lN (75 * j + 74)) (lN 65537) = lN ((75 * j + 74) % 65537) from pk_lRem (by omega) (by decide) (by decide), lN_i]
theorem tiN0 {x : Int32} (h : 0 ≤ x.toInt) : ∃ j : Nat, j < 2 ^ 31 ∧ x = nI j := nI_of (by rw [Int32.lt_iff_toInt_lt, ti0]; omega)
theorem yr1 {x : Int32} (h : 0 ≤ x.toInt ∧ x.toInt ≤ 65536) : 0 ≤ (Int64.toInt32 (lrm ((75 * (Int32.toInt64 x)) + 74) 65537)).toInt ∧ (Int64.toInt32 (lrm ((75 * (Int32.toInt64 x)) + 74) 65537)).toInt ≤ 65536 := by
  obtain ⟨j, hj, rfl⟩ := tiN0 h.1
  have h2 := h.2
  rw [nI_toInt hj] at h2
  have h3 : (75 * j + 74) % 65537 < 65537 := Nat.mod_lt _ (by decide)
  rw [yrE (by omega), nI_toInt (by omega)]
  omega
theorem irm_nI {j d : Nat} (hj : j < 2 ^ 31) (h0 : 0 < d) (hd : d < 2 ^ 31) : irm (nI j) (nI d) = nI (j % d) := pk_rem hj h0 hd
theorem irm_vp {x : Int32} (h : 0 ≤ x.toInt) : vp_in (irm x 6) 6 := by
  obtain ⟨j, hj, rfl⟩ := tiN0 h
  rw [show irm (nI j) 6 = nI (j % 6) from irm_nI (d := 6) hj (by decide) (by decide)]
  exact vp_in_nI (Nat.mod_lt _ (by decide)) (by decide)
theorem irm_wi {x : Int32} (h : 0 ≤ x.toInt) : wi (irm (x / 48) 3) 0 2 := by
  obtain ⟨j, hj, rfl⟩ := tiN0 h
  have h3 : j / 48 % 3 < 3 := Nat.mod_lt _ (by decide)
  have h4 : j / 48 ≤ j := Nat.div_le_self _ _
  rw [show nI j / 48 = nI (j / 48) from pk_div (d := 48) hj (by decide) (by decide), show irm (nI (j / 48)) 3 = nI (j / 48 % 3) from irm_nI (d := 3) (by omega) (by decide) (by decide)]
  exact ⟨nI_pos' (by omega), (nI_leI (b := 2) (by omega) (by decide)).mpr (by omega)⟩
theorem yr0 {x : Int32} (h : wj (Int32.toInt64 x) 0 9999) : 0 ≤ x.toInt ∧ x.toInt ≤ 65536 := by
  obtain ⟨h1, h2⟩ := wj_ti h
  have e1 : (0 : Int64).toInt = 0 := by decide
  have e2 : (9999 : Int64).toInt = 9999 := by decide
  omega
def LX8_year_53 (S : St) (p1 : Int32) (p2 : Int32) (p3 : Int32) : Nat → Nat → Int32 → St → Int32 × St
  | 0, zi9, zx11, zS12 => (if p3 = 0 then (bnd (tX8_back zS12 ((zS12.1 0 0 11) + 100000)).2 (fun zS21 => bnd (tX8_back zS12 ((zS12.1 0 0 11) + 100000)).1 (fun zr20 => (zr20, zS21)))) else (if p3 = 1 then (bnd (tX8_back zS12 (zS12.1 0 0 12)).2 (fun zS19 => bnd (tX8_back zS12 (zS12.1 0 0 12)).1 (fun zr18 => (zr18, zS19)))) else (bnd (tX8_back zS12 (tX8_bitsOf zS12 ((zS12.1 0 0 1) &&& (zS12.1 0 0 0)))).2 (fun zS17 => bnd (tX8_back zS12 (tX8_bitsOf zS12 ((zS12.1 0 0 1) &&& (zS12.1 0 0 0)))).1 (fun zr16 => (zr16, zS17))))))
  | zk10 + 1, zi9, zx11, zS12 => (if (tX8_actBy zS12 (irm ((Int64.toInt32 (lrm ((75 * (Int32.toInt64 zx11)) + 74) 65537)) / 6) 8) (irm (Int64.toInt32 (lrm ((75 * (Int32.toInt64 zx11)) + 74) 65537)) 6) ((Int64.toInt32 (lrm ((75 * (Int32.toInt64 zx11)) + 74) 65537)) / 48)) = 0 then (if (tX8_whyNot zS12 (tX8_actBy zS12 (irm ((Int64.toInt32 (lrm ((75 * (Int32.toInt64 zx11)) + 74) 65537)) / 6) 8) (irm (Int64.toInt32 (lrm ((75 * (Int32.toInt64 zx11)) + 74) 65537)) 6) ((Int64.toInt32 (lrm ((75 * (Int32.toInt64 zx11)) + 74) 65537)) / 48)) (irm (Int64.toInt32 (lrm ((75 * (Int32.toInt64 zx11)) + 74) 65537)) 6) (irm ((Int64.toInt32 (lrm ((75 * (Int32.toInt64 zx11)) + 74) 65537)) / 48) 3)) = 0 then (bnd (tX8_happen zS12 (tX8_actBy zS12 (irm ((Int64.toInt32 (lrm ((75 * (Int32.toInt64 zx11)) + 74) 65537)) / 6) 8) (irm (Int64.toInt32 (lrm ((75 * (Int32.toInt64 zx11)) + 74) 65537)) 6) ((Int64.toInt32 (lrm ((75 * (Int32.toInt64 zx11)) + 74) 65537)) / 48)) (irm (Int64.toInt32 (lrm ((75 * (Int32.toInt64 zx11)) + 74) 65537)) 6) (irm ((Int64.toInt32 (lrm ((75 * (Int32.toInt64 zx11)) + 74) 65537)) / 48) 3)) (fun zS27 => (LX8_year_53 S p1 p2 p3 zk10 (zi9 + 1) (Int64.toInt32 (lrm ((75 * (Int32.toInt64 zx11)) + 74) 65537)) zS27))) else (LX8_year_53 S p1 p2 p3 zk10 (zi9 + 1) (Int64.toInt32 (lrm ((75 * (Int32.toInt64 zx11)) + 74) 65537)) zS12)) else (if (tX8_whyNot zS12 (tX8_actBy zS12 (irm ((Int64.toInt32 (lrm ((75 * (Int32.toInt64 zx11)) + 74) 65537)) / 6) 8) (irm (Int64.toInt32 (lrm ((75 * (Int32.toInt64 zx11)) + 74) 65537)) 6) ((Int64.toInt32 (lrm ((75 * (Int32.toInt64 zx11)) + 74) 65537)) / 48)) (irm (Int64.toInt32 (lrm ((75 * (Int32.toInt64 zx11)) + 74) 65537)) 6) (irm ((Int64.toInt32 (lrm ((75 * (Int32.toInt64 zx11)) + 74) 65537)) / 48) 10)) = 0 then (bnd (tX8_happen zS12 (tX8_actBy zS12 (irm ((Int64.toInt32 (lrm ((75 * (Int32.toInt64 zx11)) + 74) 65537)) / 6) 8) (irm (Int64.toInt32 (lrm ((75 * (Int32.toInt64 zx11)) + 74) 65537)) 6) ((Int64.toInt32 (lrm ((75 * (Int32.toInt64 zx11)) + 74) 65537)) / 48)) (irm (Int64.toInt32 (lrm ((75 * (Int32.toInt64 zx11)) + 74) 65537)) 6) (irm ((Int64.toInt32 (lrm ((75 * (Int32.toInt64 zx11)) + 74) 65537)) / 48) 10)) (fun zS25 => (LX8_year_53 S p1 p2 p3 zk10 (zi9 + 1) (Int64.toInt32 (lrm ((75 * (Int32.toInt64 zx11)) + 74) 65537)) zS25))) else (LX8_year_53 S p1 p2 p3 zk10 (zi9 + 1) (Int64.toInt32 (lrm ((75 * (Int32.toInt64 zx11)) + 74) 65537)) zS12)))
def tX8_year (S : St) (p1 : Int32) (p2 : Int32) (p3 : Int32) : Int32 × St :=
  (if wj (Int32.toInt64 p1) 0 9999 then (if wj (Int32.toInt64 p2) 1 99 then (if wj (Int32.toInt64 p3) 0 2 then (bnd (tX8_keepNow S) (fun zS7 => (bnd (tX8_beginCount zS7) (fun zS8 => (LX8_year_53 S p1 p2 p3 (Int32.toNatClampNeg p2) 0 p1 zS8))))) else ((-2), S)) else ((-2), S)) else ((-2), S))
set_option maxHeartbeats 4000000 in
set_option maxRecDepth 100000 in
theorem kX8_year (l : Launch) (g : Gd) (A : Nat → Prop) (hA : Ads g.1 VM A) (S : St) (p1 : Int32) (p2 : Int32) (p3 : Int32) : Met l yX8_year (wU yX8_year cX8_year 10 (some .int)) { frames := 3, cells := 0, slots := 0, locals := 69 } (va_Pc [.ref (g.1 0 0), .int p1, .int p2, .int p3] (PW VM ctM g S)) (va_Qi (fun r u => r = (tX8_year S p1 p2 p3).1 ∧ u = (tX8_year S p1 p2 p3).2) (fun u U => PW VM ctM g u U) A) 0 0 A := by
  refine ent (cc := cX8_year) (maxL := 10) (ret := (some .int)) (by decide) (Nat.le_of_ble_eq_true rfl) ?_
  intro p e s m below meth c args Q C0 hr hlocks hP hK hQ ls hl
  have hx := C0.1
  have hb := C0.2.1
  have hml := C0.2.2.1
  have hown := C0.2.2.2.1
  have hts := C0.2.2.2.2
  obtain ⟨F, hF⟩ : ∃ F : Int32 × St, F = tX8_year S p1 p2 p3 := ⟨_, rfl⟩
  have hf := hF
  unfold tX8_year at hf
  have hS : va_S A s.heap s.heap [] := va_S.rf
  have hl : lv_has ls 10 [(0, .ref (g.1 0 0)), (1, .int p1), (2, .int p2), (3, .int p3)] := hl
  refine lv_iload_n hx hb dX8_year_0 rfl (lv_at hl 1 rfl) ?_
  refine lv_i2l (v := (Int32.toInt64 p1)) hx hb dX8_year_1 rfl ?_
  refine lv_lconst (v := 0) hx hb dX8_year_2 (by decide) ?_
  refine lv_ldc2 (v := 9999) hx hb hown (hts _ q1049) dX8_year_3 ?_
  refine kzc (va_runS (As := [.long (Int32.toInt64 p1), .long 0, .long 9999]) (rest := []) C0 (kX8_in l g A hA S (Int32.toInt64 p1) 0 9999) (va_cwS 3 hts (gS q799 q800 q54 q801) rfl rfl rfl (by decide +kernel) ⟨Nat.le_of_ble_eq_true rfl, Nat.le_of_ble_eq_true rfl⟩) (preS hP hK) rfl rfl hl.1 rfl (lv_room (Nat.le_of_ble_eq_true rfl)) dX8_year_6 ⟨Nat.zero_le _, Nat.zero_le _⟩) hS (fun _ h => h) (fun zc1 H locs hP hS => ?_) (fun zc1 H locs hP hS => ?_)
  · have hf := hf.trans (if_pos zc1)
    refine lv_if_eq (tgt := 36) hx hb dX8_year_9 (by decide) (fun zc2 => absurd zc2 (by decide)) (fun zc2 => ?_)
    refine lv_iload_n hx hb dX8_year_12 rfl (lv_at hl 2 rfl) ?_
    refine lv_i2l (v := (Int32.toInt64 p2)) hx hb dX8_year_13 rfl ?_
    refine lv_lconst (v := 1) hx hb dX8_year_14 (by decide) ?_
    refine lv_ldc2 (v := 99) hx hb hown (hts _ q803) dX8_year_15 ?_
    refine kzc (va_runS (As := [.long (Int32.toInt64 p2), .long 1, .long 99]) (rest := []) C0 (kX8_in l g A hA S (Int32.toInt64 p2) 1 99) (va_cwS 3 hts (gS q799 q800 q54 q801) rfl rfl rfl (by decide +kernel) ⟨Nat.le_of_ble_eq_true rfl, Nat.le_of_ble_eq_true rfl⟩) (preS hP hK) rfl rfl hl.1 rfl (lv_room (Nat.le_of_ble_eq_true rfl)) dX8_year_18 ⟨Nat.zero_le _, Nat.zero_le _⟩) hS (fun _ h => h) (fun zc3 H locs hP hS => ?_) (fun zc3 H locs hP hS => ?_)
    · have hf := hf.trans (if_pos zc3)
      refine lv_if_eq (tgt := 36) hx hb dX8_year_21 (by decide) (fun zc4 => absurd zc4 (by decide)) (fun zc4 => ?_)
      refine lv_iload_n hx hb dX8_year_24 rfl (lv_at hl 3 rfl) ?_
      refine lv_i2l (v := (Int32.toInt64 p3)) hx hb dX8_year_25 rfl ?_
      refine lv_lconst (v := 0) hx hb dX8_year_26 (by decide) ?_
      refine lv_ldc2 (v := 2) hx hb hown (hts _ q820) dX8_year_27 ?_
      refine kzc (va_runS (As := [.long (Int32.toInt64 p3), .long 0, .long 2]) (rest := []) C0 (kX8_in l g A hA S (Int32.toInt64 p3) 0 2) (va_cwS 3 hts (gS q799 q800 q54 q801) rfl rfl rfl (by decide +kernel) ⟨Nat.le_of_ble_eq_true rfl, Nat.le_of_ble_eq_true rfl⟩) (preS hP hK) rfl rfl hl.1 rfl (lv_room (Nat.le_of_ble_eq_true rfl)) dX8_year_30 ⟨Nat.zero_le _, Nat.zero_le _⟩) hS (fun _ h => h) (fun zc5 H locs hP hS => ?_) (fun zc5 H locs hP hS => ?_)
      · have hf := hf.trans (if_pos zc5)
        refine lv_if_ne (tgt := 39) hx hb dX8_year_33 (by decide) (fun zc6 => ?_) (fun zc6 => absurd zc6 (by decide))
        refine lv_aload_n hx hb dX8_year_39 rfl (lv_at hl 0 rfl) ?_
        refine kv (va_runV (As := []) (rest := []) C0 (kX8_keepNow l g A hA S ) (cwV 0 hts (gV q865 q867 q17 q54 q868) rfl rfl rfl (by decide +kernel) ⟨Nat.le_of_ble_eq_true rfl, Nat.le_of_ble_eq_true rfl⟩) (preV (recO (mMain g) hP hK rfl) hP hK) rfl rfl hl.1 rfl (lv_room (Nat.le_of_ble_eq_true rfl)) dX8_year_40 ⟨Nat.zero_le _, Nat.zero_le _⟩) hS (fun _ h => h) (fun zS7 H locs hw hP hS => ?_)
        have hf := hf.trans (bnd_eq hw)
        refine lv_aload_n hx hb dX8_year_43 rfl (lv_at hl 0 rfl) ?_
        refine kv (va_runV (As := []) (rest := []) C0 (kX8_beginCount l g A hA zS7 ) (cwV 0 hts (gV q874 q876 q19 q54 q877) rfl rfl rfl (by decide +kernel) ⟨Nat.le_of_ble_eq_true rfl, Nat.le_of_ble_eq_true rfl⟩) (preV (recO (mMain g) hP hK rfl) hP hK) rfl rfl hl.1 rfl (lv_room (Nat.le_of_ble_eq_true rfl)) dX8_year_44 ⟨Nat.zero_le _, Nat.zero_le _⟩) hS (fun _ h => h) (fun zS8 H locs hw hP hS => ?_)
        have hf := hf.trans (bnd_eq hw)
        refine lv_iload_n hx hb dX8_year_47 rfl (lv_at hl 1 rfl) ?_
        refine lv_istore (lv' := [(4, .int p1), (0, .ref (g.1 0 0)), (1, .int p1), (2, .int p2), (3, .int p3)]) hx hb dX8_year_48 hl (by decide) rfl (fun ls hl => ?_)
        refine lv_iconst (v := 0) hx hb dX8_year_50 (by decide) ?_
        refine lv_istore (lv' := [(5, .int 0), (4, .int p1), (0, .ref (g.1 0 0)), (1, .int p1), (2, .int p2), (3, .int p3)]) hx hb dX8_year_51 hl (by decide) rfl (fun ls hl => ?_)
        have lp53 : ∀ (zk10 zi9 : Nat) (zx11 : Int32) (zS12 : St) (H : Heap) (locs : List Loc), (zi9 + zk10 = (Int32.toNatClampNeg p2)) → (0 ≤ (zx11).toInt ∧ (zx11).toInt ≤ 65536) → (F = LX8_year_53 S p1 p2 p3 zk10 zi9 zx11 zS12) → HW VM ctM g zS12 H → va_S A s.heap H locs → ∀ ls : Array Slot, lv_has ls 10 [(5, .int (nI zi9)), (0, .ref (g.1 0 0)), (1, .int p1), (2, .int p2), (3, .int p3), (4, .int zx11)] → W p l e { frames := 3, cells := 0, slots := 0, locals := 69 } s m args below meth c H locs 0 0 Q (F0 m 53 ls []) := by
          intro zk10
          induction zk10 with
          | zero =>
            intro zi9 zx11 zS12 H locs hik hxr hf hP hS ls hl
            rw [LX8_year_53] at hf
            refine lv_iload hx hb dX8_year_53 (lv_at hl 0 rfl) ?_
            refine lv_iload_n hx hb dX8_year_55 rfl (lv_at hl 3 rfl) ?_
            refine lv_icmp_ge (tgt := 157) hx hb dX8_year_56 (by decide) (fun zc13 => ?_) (fun zc13 => absurd (up_sge0 hik) zc13)
            refine lv_iload_n hx hb dX8_year_157 rfl (lv_at hl 4 rfl) ?_
            refine lv_if_ne (tgt := 171) hx hb dX8_year_158 (by decide) (fun zc14 => ?_) (fun zc14 => ?_)
            · have hf := hf.trans (if_neg zc14)
              refine lv_iload_n hx hb dX8_year_171 rfl (lv_at hl 4 rfl) ?_
              refine lv_iconst (v := 1) hx hb dX8_year_172 (by decide) ?_
              refine lv_icmp_ne (tgt := 183) hx hb dX8_year_173 (by decide) (fun zc15 => ?_) (fun zc15 => ?_)
              · have hf := hf.trans (if_neg zc15)
                refine lv_aload_n hx hb dX8_year_183 rfl (lv_at hl 1 rfl) ?_
                refine gO (T := TX8) C0 inA8 hK hP (mMain g) rfl 1 (by decide) (hts _ q677) (v := .int (zS12.1 0 0 1)) rfl dX8_year_184 ?_
                refine lv_aload_n hx hb dX8_year_187 rfl (lv_at hl 1 rfl) ?_
                refine gO (T := TX8) C0 inA8 hK hP (mMain g) rfl 0 (by decide) (hts _ q676) (v := .int (zS12.1 0 0 0)) rfl dX8_year_188 ?_
                refine lv_iand hx hb dX8_year_191 ?_
                refine kiP (va_runS (As := [.int ((zS12.1 0 0 1) &&& (zS12.1 0 0 0))]) (rest := []) C0 (kX8_bitsOf l g A hA zS12 ((zS12.1 0 0 1) &&& (zS12.1 0 0 0))) (va_cwS 1 hts (gS q805 q806 q54 q807) rfl rfl rfl (by decide +kernel) ⟨Nat.le_of_ble_eq_true rfl, Nat.le_of_ble_eq_true rfl⟩) (preS hP hK) rfl rfl hl.1 rfl (lv_room (Nat.le_of_ble_eq_true rfl)) dX8_year_192 ⟨Nat.zero_le _, Nat.zero_le _⟩) hS (fun _ h => h) (fun H locs hP hS => ?_)
                refine lv_istore (lv' := [(5, .int (tX8_bitsOf zS12 ((zS12.1 0 0 1) &&& (zS12.1 0 0 0)))), (0, .ref (g.1 0 0)), (1, .int p1), (2, .int p2), (3, .int p3), (4, .int zx11)]) hx hb dX8_year_195 hl (by decide) rfl (fun ls hl => ?_)
                refine lv_aload_n hx hb dX8_year_197 rfl (lv_at hl 1 rfl) ?_
                refine lv_iload hx hb dX8_year_198 (lv_at hl 0 rfl) ?_
                refine ki (va_runV (As := [.int (tX8_bitsOf zS12 ((zS12.1 0 0 1) &&& (zS12.1 0 0 0)))]) (rest := []) C0 (kX8_back l g A hA zS12 (tX8_bitsOf zS12 ((zS12.1 0 0 1) &&& (zS12.1 0 0 0)))) (cwV 1 hts (gV q906 q908 q27 q54 q909) rfl rfl rfl (by decide +kernel) ⟨Nat.le_of_ble_eq_true rfl, Nat.le_of_ble_eq_true rfl⟩) (preV (recO (mMain g) hP hK rfl) hP hK) rfl rfl hl.1 rfl (lv_room (Nat.le_of_ble_eq_true rfl)) dX8_year_200 ⟨Nat.zero_le _, Nat.zero_le _⟩) hS (fun _ h => h) (fun zr16 zS17 H locs hw hP hS => ?_)
                have hf := (hf.trans (bnd_eq hw.2)).trans (bnd_eq hw.1)
                exact ri hQ C0 hr hlocks hK hP hS (by rw [← hF]; exact fin2 hf) dX8_year_203
              · have hf := hf.trans (if_pos zc15)
                refine lv_aload_n hx hb dX8_year_176 rfl (lv_at hl 1 rfl) ?_
                refine gO (T := TX8) C0 inA8 hK hP (mMain g) rfl 12 (by decide) (hts _ q688) (v := .int (zS12.1 0 0 12)) rfl dX8_year_177 ?_
                refine lv_goto (tgt := 195) hx hb dX8_year_180 (by decide) ?_
                refine lv_istore (lv' := [(5, .int (zS12.1 0 0 12)), (0, .ref (g.1 0 0)), (1, .int p1), (2, .int p2), (3, .int p3), (4, .int zx11)]) hx hb dX8_year_195 hl (by decide) rfl (fun ls hl => ?_)
                refine lv_aload_n hx hb dX8_year_197 rfl (lv_at hl 1 rfl) ?_
                refine lv_iload hx hb dX8_year_198 (lv_at hl 0 rfl) ?_
                refine ki (va_runV (As := [.int (zS12.1 0 0 12)]) (rest := []) C0 (kX8_back l g A hA zS12 (zS12.1 0 0 12)) (cwV 1 hts (gV q906 q908 q27 q54 q909) rfl rfl rfl (by decide +kernel) ⟨Nat.le_of_ble_eq_true rfl, Nat.le_of_ble_eq_true rfl⟩) (preV (recO (mMain g) hP hK rfl) hP hK) rfl rfl hl.1 rfl (lv_room (Nat.le_of_ble_eq_true rfl)) dX8_year_200 ⟨Nat.zero_le _, Nat.zero_le _⟩) hS (fun _ h => h) (fun zr18 zS19 H locs hw hP hS => ?_)
                have hf := (hf.trans (bnd_eq hw.2)).trans (bnd_eq hw.1)
                exact ri hQ C0 hr hlocks hK hP hS (by rw [← hF]; exact fin2 hf) dX8_year_203
            · have hf := hf.trans (if_pos zc14)
              refine lv_aload_n hx hb dX8_year_161 rfl (lv_at hl 1 rfl) ?_
              refine gO (T := TX8) C0 inA8 hK hP (mMain g) rfl 11 (by decide) (hts _ q687) (v := .int (zS12.1 0 0 11)) rfl dX8_year_162 ?_
              refine lv_ldc (v := 100000) hx hb hown (hts _ q928) dX8_year_165 ?_
              refine lv_iadd hx hb dX8_year_167 ?_
              refine lv_goto (tgt := 195) hx hb dX8_year_168 (by decide) ?_
              refine lv_istore (lv' := [(5, .int ((zS12.1 0 0 11) + 100000)), (0, .ref (g.1 0 0)), (1, .int p1), (2, .int p2), (3, .int p3), (4, .int zx11)]) hx hb dX8_year_195 hl (by decide) rfl (fun ls hl => ?_)
              refine lv_aload_n hx hb dX8_year_197 rfl (lv_at hl 1 rfl) ?_
              refine lv_iload hx hb dX8_year_198 (lv_at hl 0 rfl) ?_
              refine ki (va_runV (As := [.int ((zS12.1 0 0 11) + 100000)]) (rest := []) C0 (kX8_back l g A hA zS12 ((zS12.1 0 0 11) + 100000)) (cwV 1 hts (gV q906 q908 q27 q54 q909) rfl rfl rfl (by decide +kernel) ⟨Nat.le_of_ble_eq_true rfl, Nat.le_of_ble_eq_true rfl⟩) (preV (recO (mMain g) hP hK rfl) hP hK) rfl rfl hl.1 rfl (lv_room (Nat.le_of_ble_eq_true rfl)) dX8_year_200 ⟨Nat.zero_le _, Nat.zero_le _⟩) hS (fun _ h => h) (fun zr20 zS21 H locs hw hP hS => ?_)
              have hf := (hf.trans (bnd_eq hw.2)).trans (bnd_eq hw.1)
              exact ri hQ C0 hr hlocks hK hP hS (by rw [← hF]; exact fin2 hf) dX8_year_203
          | succ zk10 ih53 =>
            intro zi9 zx11 zS12 H locs hik hxr hf hP hS ls hl
            rw [LX8_year_53] at hf
            refine lv_iload hx hb dX8_year_53 (lv_at hl 0 rfl) ?_
            refine lv_iload_n hx hb dX8_year_55 rfl (lv_at hl 3 rfl) ?_
            refine lv_icmp_ge (tgt := 157) hx hb dX8_year_56 (by decide) (fun zc22 => absurd zc22 (up_sge1 hik)) (fun zc22 => ?_)
            refine lv_ldc2 (v := 75) hx hb hown (hts _ q1050) dX8_year_59 ?_
            refine lv_iload hx hb dX8_year_62 (lv_at hl 5 rfl) ?_
            refine lv_i2l (v := (Int32.toInt64 zx11)) hx hb dX8_year_64 rfl ?_
            refine lv_lmul hx hb dX8_year_65 ?_
            refine lv_ldc2 (v := 74) hx hb hown (hts _ q1051) dX8_year_66 ?_
            refine lv_ladd hx hb dX8_year_69 ?_
            refine lv_ldc2 (v := 65537) hx hb hown (hts _ q1052) dX8_year_70 ?_
            refine klrem hx hb dX8_year_73 (by decide) ?_
            refine lv_l2i (v := (Int64.toInt32 (lrm ((75 * (Int32.toInt64 zx11)) + 74) 65537))) hx hb dX8_year_74 rfl ?_
            refine lv_istore (lv' := [(4, .int (Int64.toInt32 (lrm ((75 * (Int32.toInt64 zx11)) + 74) 65537))), (5, .int (nI zi9)), (0, .ref (g.1 0 0)), (1, .int p1), (2, .int p2), (3, .int p3)]) hx hb dX8_year_75 hl (by decide) rfl (fun ls hl => ?_)
            refine lv_iload hx hb dX8_year_77 (lv_at hl 0 rfl) ?_
            refine lv_bipush (v := 6) hx hb dX8_year_79 (by decide) ?_
            refine kirem hx hb dX8_year_81 (by decide) ?_
            refine lv_istore (lv' := [(6, .int (irm (Int64.toInt32 (lrm ((75 * (Int32.toInt64 zx11)) + 74) 65537)) 6)), (4, .int (Int64.toInt32 (lrm ((75 * (Int32.toInt64 zx11)) + 74) 65537))), (5, .int (nI zi9)), (0, .ref (g.1 0 0)), (1, .int p1), (2, .int p2), (3, .int p3)]) hx hb dX8_year_82 hl (by decide) rfl (fun ls hl => ?_)
            refine lv_iload hx hb dX8_year_84 (lv_at hl 1 rfl) ?_
            refine lv_bipush (v := 48) hx hb dX8_year_86 (by decide) ?_
            refine lv_idiv hx hb dX8_year_88 (by decide) ?_
            refine lv_istore (lv' := [(7, .int ((Int64.toInt32 (lrm ((75 * (Int32.toInt64 zx11)) + 74) 65537)) / 48)), (6, .int (irm (Int64.toInt32 (lrm ((75 * (Int32.toInt64 zx11)) + 74) 65537)) 6)), (4, .int (Int64.toInt32 (lrm ((75 * (Int32.toInt64 zx11)) + 74) 65537))), (5, .int (nI zi9)), (0, .ref (g.1 0 0)), (1, .int p1), (2, .int p2), (3, .int p3)]) hx hb dX8_year_89 hl (by decide) rfl (fun ls hl => ?_)
            refine lv_aload_n hx hb dX8_year_91 rfl (lv_at hl 4 rfl) ?_
            refine lv_iload hx hb dX8_year_92 (lv_at hl 2 rfl) ?_
            refine lv_bipush (v := 6) hx hb dX8_year_94 (by decide) ?_
            refine lv_idiv hx hb dX8_year_96 (by decide) ?_
            refine lv_bipush (v := 8) hx hb dX8_year_97 (by decide) ?_
            refine kirem hx hb dX8_year_99 (by decide) ?_
            refine lv_iload hx hb dX8_year_100 (lv_at hl 1 rfl) ?_
            refine lv_iload hx hb dX8_year_102 (lv_at hl 0 rfl) ?_
            refine kiP (va_runV (As := [.int (irm ((Int64.toInt32 (lrm ((75 * (Int32.toInt64 zx11)) + 74) 65537)) / 6) 8), .int (irm (Int64.toInt32 (lrm ((75 * (Int32.toInt64 zx11)) + 74) 65537)) 6), .int ((Int64.toInt32 (lrm ((75 * (Int32.toInt64 zx11)) + 74) 65537)) / 48)]) (rest := []) C0 (kX8_actBy l g A hA zS12 (irm ((Int64.toInt32 (lrm ((75 * (Int32.toInt64 zx11)) + 74) 65537)) / 6) 8) (irm (Int64.toInt32 (lrm ((75 * (Int32.toInt64 zx11)) + 74) 65537)) 6) ((Int64.toInt32 (lrm ((75 * (Int32.toInt64 zx11)) + 74) 65537)) / 48)) (cwV 3 hts (gV q1053 q1055 q40 q54 q1056) rfl rfl rfl (by decide +kernel) ⟨Nat.le_of_ble_eq_true rfl, Nat.le_of_ble_eq_true rfl⟩) (preV (recO (mMain g) hP hK rfl) hP hK) rfl rfl hl.1 rfl (lv_room (Nat.le_of_ble_eq_true rfl)) dX8_year_104 ⟨Nat.zero_le _, Nat.zero_le _⟩) hS (fun _ h => h) (fun H locs hP hS => ?_)
            refine lv_istore (lv' := [(8, .int (tX8_actBy zS12 (irm ((Int64.toInt32 (lrm ((75 * (Int32.toInt64 zx11)) + 74) 65537)) / 6) 8) (irm (Int64.toInt32 (lrm ((75 * (Int32.toInt64 zx11)) + 74) 65537)) 6) ((Int64.toInt32 (lrm ((75 * (Int32.toInt64 zx11)) + 74) 65537)) / 48))), (7, .int ((Int64.toInt32 (lrm ((75 * (Int32.toInt64 zx11)) + 74) 65537)) / 48)), (6, .int (irm (Int64.toInt32 (lrm ((75 * (Int32.toInt64 zx11)) + 74) 65537)) 6)), (4, .int (Int64.toInt32 (lrm ((75 * (Int32.toInt64 zx11)) + 74) 65537))), (5, .int (nI zi9)), (0, .ref (g.1 0 0)), (1, .int p1), (2, .int p2), (3, .int p3)]) hx hb dX8_year_107 hl (by decide) rfl (fun ls hl => ?_)
            refine lv_iload hx hb dX8_year_109 (lv_at hl 0 rfl) ?_
            refine lv_if_ne (tgt := 121) hx hb dX8_year_111 (by decide) (fun zc23 => ?_) (fun zc23 => ?_)
            · have hf := hf.trans (if_neg zc23)
              refine lv_iload hx hb dX8_year_121 (lv_at hl 1 rfl) ?_
              refine lv_bipush (v := 10) hx hb dX8_year_123 (by decide) ?_
              refine kirem hx hb dX8_year_125 (by decide) ?_
              refine lv_istore (lv' := [(9, .int (irm ((Int64.toInt32 (lrm ((75 * (Int32.toInt64 zx11)) + 74) 65537)) / 48) 10)), (8, .int (tX8_actBy zS12 (irm ((Int64.toInt32 (lrm ((75 * (Int32.toInt64 zx11)) + 74) 65537)) / 6) 8) (irm (Int64.toInt32 (lrm ((75 * (Int32.toInt64 zx11)) + 74) 65537)) 6) ((Int64.toInt32 (lrm ((75 * (Int32.toInt64 zx11)) + 74) 65537)) / 48))), (7, .int ((Int64.toInt32 (lrm ((75 * (Int32.toInt64 zx11)) + 74) 65537)) / 48)), (6, .int (irm (Int64.toInt32 (lrm ((75 * (Int32.toInt64 zx11)) + 74) 65537)) 6)), (4, .int (Int64.toInt32 (lrm ((75 * (Int32.toInt64 zx11)) + 74) 65537))), (5, .int (nI zi9)), (0, .ref (g.1 0 0)), (1, .int p1), (2, .int p2), (3, .int p3)]) hx hb dX8_year_126 hl (by decide) rfl (fun ls hl => ?_)
              refine lv_aload_n hx hb dX8_year_128 rfl (lv_at hl 6 rfl) ?_
              refine lv_iload hx hb dX8_year_129 (lv_at hl 1 rfl) ?_
              refine lv_iload hx hb dX8_year_131 (lv_at hl 3 rfl) ?_
              refine lv_iload hx hb dX8_year_133 (lv_at hl 0 rfl) ?_
              refine kiP (va_runV (As := [.int (tX8_actBy zS12 (irm ((Int64.toInt32 (lrm ((75 * (Int32.toInt64 zx11)) + 74) 65537)) / 6) 8) (irm (Int64.toInt32 (lrm ((75 * (Int32.toInt64 zx11)) + 74) 65537)) 6) ((Int64.toInt32 (lrm ((75 * (Int32.toInt64 zx11)) + 74) 65537)) / 48)), .int (irm (Int64.toInt32 (lrm ((75 * (Int32.toInt64 zx11)) + 74) 65537)) 6), .int (irm ((Int64.toInt32 (lrm ((75 * (Int32.toInt64 zx11)) + 74) 65537)) / 48) 10)]) (rest := []) C0 (kX8_whyNot l g A hA zS12 (tX8_actBy zS12 (irm ((Int64.toInt32 (lrm ((75 * (Int32.toInt64 zx11)) + 74) 65537)) / 6) 8) (irm (Int64.toInt32 (lrm ((75 * (Int32.toInt64 zx11)) + 74) 65537)) 6) ((Int64.toInt32 (lrm ((75 * (Int32.toInt64 zx11)) + 74) 65537)) / 48)) (irm (Int64.toInt32 (lrm ((75 * (Int32.toInt64 zx11)) + 74) 65537)) 6) (irm ((Int64.toInt32 (lrm ((75 * (Int32.toInt64 zx11)) + 74) 65537)) / 48) 10) (fun h9 => absurd h9 zc23)) (cwV 3 hts (gV q878 q880 q20 q54 q881) rfl rfl rfl (by decide +kernel) ⟨Nat.le_of_ble_eq_true rfl, Nat.le_of_ble_eq_true rfl⟩) (preV (recO (mMain g) hP hK rfl) hP hK) rfl rfl hl.1 rfl (lv_room (Nat.le_of_ble_eq_true rfl)) dX8_year_135 ⟨Nat.zero_le _, Nat.zero_le _⟩) hS (fun _ h => h) (fun H locs hP hS => ?_)
              refine lv_if_ne (tgt := 151) hx hb dX8_year_138 (by decide) (fun zc24 => ?_) (fun zc24 => ?_)
              · have hf := hf.trans (if_neg zc24)
                refine lv_iinc (v := (nI (zi9 + 1))) (lv' := [(5, .int (nI (zi9 + 1))), (9, .int (irm ((Int64.toInt32 (lrm ((75 * (Int32.toInt64 zx11)) + 74) 65537)) / 48) 10)), (8, .int (tX8_actBy zS12 (irm ((Int64.toInt32 (lrm ((75 * (Int32.toInt64 zx11)) + 74) 65537)) / 6) 8) (irm (Int64.toInt32 (lrm ((75 * (Int32.toInt64 zx11)) + 74) 65537)) 6) ((Int64.toInt32 (lrm ((75 * (Int32.toInt64 zx11)) + 74) 65537)) / 48))), (7, .int ((Int64.toInt32 (lrm ((75 * (Int32.toInt64 zx11)) + 74) 65537)) / 48)), (6, .int (irm (Int64.toInt32 (lrm ((75 * (Int32.toInt64 zx11)) + 74) 65537)) 6)), (4, .int (Int64.toInt32 (lrm ((75 * (Int32.toInt64 zx11)) + 74) 65537))), (0, .ref (g.1 0 0)), (1, .int p1), (2, .int p2), (3, .int p3)]) hx hb dX8_year_151 hl (k := 5) rfl (nI_1 _) (by decide) rfl (fun ls hl => ?_)
                refine lv_goto (tgt := 53) hx hb dX8_year_154 (by decide) ?_
                exact ih53 (zi9 + 1) (Int64.toInt32 (lrm ((75 * (Int32.toInt64 zx11)) + 74) 65537)) zS12 _ _ (by omega) (yr1 hxr) hf hP hS ls (lv_sub hl [0, 6, 7, 8, 9, 5] rfl)
              · have hf := hf.trans (if_pos zc24)
                refine lv_aload_n hx hb dX8_year_141 rfl (lv_at hl 6 rfl) ?_
                refine lv_iload hx hb dX8_year_142 (lv_at hl 1 rfl) ?_
                refine lv_iload hx hb dX8_year_144 (lv_at hl 3 rfl) ?_
                refine lv_iload hx hb dX8_year_146 (lv_at hl 0 rfl) ?_
                refine kv (va_runV (As := [.int (tX8_actBy zS12 (irm ((Int64.toInt32 (lrm ((75 * (Int32.toInt64 zx11)) + 74) 65537)) / 6) 8) (irm (Int64.toInt32 (lrm ((75 * (Int32.toInt64 zx11)) + 74) 65537)) 6) ((Int64.toInt32 (lrm ((75 * (Int32.toInt64 zx11)) + 74) 65537)) / 48)), .int (irm (Int64.toInt32 (lrm ((75 * (Int32.toInt64 zx11)) + 74) 65537)) 6), .int (irm ((Int64.toInt32 (lrm ((75 * (Int32.toInt64 zx11)) + 74) 65537)) / 48) 10)]) (rest := []) C0 (kX8_happen l g A hA zS12 (tX8_actBy zS12 (irm ((Int64.toInt32 (lrm ((75 * (Int32.toInt64 zx11)) + 74) 65537)) / 6) 8) (irm (Int64.toInt32 (lrm ((75 * (Int32.toInt64 zx11)) + 74) 65537)) 6) ((Int64.toInt32 (lrm ((75 * (Int32.toInt64 zx11)) + 74) 65537)) / 48)) (irm (Int64.toInt32 (lrm ((75 * (Int32.toInt64 zx11)) + 74) 65537)) 6) (irm ((Int64.toInt32 (lrm ((75 * (Int32.toInt64 zx11)) + 74) 65537)) / 48) 10) (fun _ => irm_vp (yr1 hxr).1) (fun h9 => absurd h9 zc23)) (cwV 3 hts (gV q890 q892 q23 q54 q893) rfl rfl rfl (by decide +kernel) ⟨Nat.le_of_ble_eq_true rfl, Nat.le_of_ble_eq_true rfl⟩) (preV (recO (mMain g) hP hK rfl) hP hK) rfl rfl hl.1 rfl (lv_room (Nat.le_of_ble_eq_true rfl)) dX8_year_148 ⟨Nat.zero_le _, Nat.zero_le _⟩) hS (fun _ h => h) (fun zS25 H locs hw hP hS => ?_)
                have hf := hf.trans (bnd_eq hw)
                refine lv_iinc (v := (nI (zi9 + 1))) (lv' := [(5, .int (nI (zi9 + 1))), (9, .int (irm ((Int64.toInt32 (lrm ((75 * (Int32.toInt64 zx11)) + 74) 65537)) / 48) 10)), (8, .int (tX8_actBy zS12 (irm ((Int64.toInt32 (lrm ((75 * (Int32.toInt64 zx11)) + 74) 65537)) / 6) 8) (irm (Int64.toInt32 (lrm ((75 * (Int32.toInt64 zx11)) + 74) 65537)) 6) ((Int64.toInt32 (lrm ((75 * (Int32.toInt64 zx11)) + 74) 65537)) / 48))), (7, .int ((Int64.toInt32 (lrm ((75 * (Int32.toInt64 zx11)) + 74) 65537)) / 48)), (6, .int (irm (Int64.toInt32 (lrm ((75 * (Int32.toInt64 zx11)) + 74) 65537)) 6)), (4, .int (Int64.toInt32 (lrm ((75 * (Int32.toInt64 zx11)) + 74) 65537))), (0, .ref (g.1 0 0)), (1, .int p1), (2, .int p2), (3, .int p3)]) hx hb dX8_year_151 hl (k := 5) rfl (nI_1 _) (by decide) rfl (fun ls hl => ?_)
                refine lv_goto (tgt := 53) hx hb dX8_year_154 (by decide) ?_
                exact ih53 (zi9 + 1) (Int64.toInt32 (lrm ((75 * (Int32.toInt64 zx11)) + 74) 65537)) zS25 _ _ (by omega) (yr1 hxr) hf hP hS ls (lv_sub hl [0, 6, 7, 8, 9, 5] rfl)
            · have hf := hf.trans (if_pos zc23)
              refine lv_iload hx hb dX8_year_114 (lv_at hl 1 rfl) ?_
              refine lv_iconst (v := 3) hx hb dX8_year_116 (by decide) ?_
              refine kirem hx hb dX8_year_117 (by decide) ?_
              refine lv_goto (tgt := 126) hx hb dX8_year_118 (by decide) ?_
              refine lv_istore (lv' := [(9, .int (irm ((Int64.toInt32 (lrm ((75 * (Int32.toInt64 zx11)) + 74) 65537)) / 48) 3)), (8, .int (tX8_actBy zS12 (irm ((Int64.toInt32 (lrm ((75 * (Int32.toInt64 zx11)) + 74) 65537)) / 6) 8) (irm (Int64.toInt32 (lrm ((75 * (Int32.toInt64 zx11)) + 74) 65537)) 6) ((Int64.toInt32 (lrm ((75 * (Int32.toInt64 zx11)) + 74) 65537)) / 48))), (7, .int ((Int64.toInt32 (lrm ((75 * (Int32.toInt64 zx11)) + 74) 65537)) / 48)), (6, .int (irm (Int64.toInt32 (lrm ((75 * (Int32.toInt64 zx11)) + 74) 65537)) 6)), (4, .int (Int64.toInt32 (lrm ((75 * (Int32.toInt64 zx11)) + 74) 65537))), (5, .int (nI zi9)), (0, .ref (g.1 0 0)), (1, .int p1), (2, .int p2), (3, .int p3)]) hx hb dX8_year_126 hl (by decide) rfl (fun ls hl => ?_)
              refine lv_aload_n hx hb dX8_year_128 rfl (lv_at hl 6 rfl) ?_
              refine lv_iload hx hb dX8_year_129 (lv_at hl 1 rfl) ?_
              refine lv_iload hx hb dX8_year_131 (lv_at hl 3 rfl) ?_
              refine lv_iload hx hb dX8_year_133 (lv_at hl 0 rfl) ?_
              refine kiP (va_runV (As := [.int (tX8_actBy zS12 (irm ((Int64.toInt32 (lrm ((75 * (Int32.toInt64 zx11)) + 74) 65537)) / 6) 8) (irm (Int64.toInt32 (lrm ((75 * (Int32.toInt64 zx11)) + 74) 65537)) 6) ((Int64.toInt32 (lrm ((75 * (Int32.toInt64 zx11)) + 74) 65537)) / 48)), .int (irm (Int64.toInt32 (lrm ((75 * (Int32.toInt64 zx11)) + 74) 65537)) 6), .int (irm ((Int64.toInt32 (lrm ((75 * (Int32.toInt64 zx11)) + 74) 65537)) / 48) 3)]) (rest := []) C0 (kX8_whyNot l g A hA zS12 (tX8_actBy zS12 (irm ((Int64.toInt32 (lrm ((75 * (Int32.toInt64 zx11)) + 74) 65537)) / 6) 8) (irm (Int64.toInt32 (lrm ((75 * (Int32.toInt64 zx11)) + 74) 65537)) 6) ((Int64.toInt32 (lrm ((75 * (Int32.toInt64 zx11)) + 74) 65537)) / 48)) (irm (Int64.toInt32 (lrm ((75 * (Int32.toInt64 zx11)) + 74) 65537)) 6) (irm ((Int64.toInt32 (lrm ((75 * (Int32.toInt64 zx11)) + 74) 65537)) / 48) 3) (fun _ => irm_wi (yr1 hxr).1)) (cwV 3 hts (gV q878 q880 q20 q54 q881) rfl rfl rfl (by decide +kernel) ⟨Nat.le_of_ble_eq_true rfl, Nat.le_of_ble_eq_true rfl⟩) (preV (recO (mMain g) hP hK rfl) hP hK) rfl rfl hl.1 rfl (lv_room (Nat.le_of_ble_eq_true rfl)) dX8_year_135 ⟨Nat.zero_le _, Nat.zero_le _⟩) hS (fun _ h => h) (fun H locs hP hS => ?_)
              refine lv_if_ne (tgt := 151) hx hb dX8_year_138 (by decide) (fun zc26 => ?_) (fun zc26 => ?_)
              · have hf := hf.trans (if_neg zc26)
                refine lv_iinc (v := (nI (zi9 + 1))) (lv' := [(5, .int (nI (zi9 + 1))), (9, .int (irm ((Int64.toInt32 (lrm ((75 * (Int32.toInt64 zx11)) + 74) 65537)) / 48) 3)), (8, .int (tX8_actBy zS12 (irm ((Int64.toInt32 (lrm ((75 * (Int32.toInt64 zx11)) + 74) 65537)) / 6) 8) (irm (Int64.toInt32 (lrm ((75 * (Int32.toInt64 zx11)) + 74) 65537)) 6) ((Int64.toInt32 (lrm ((75 * (Int32.toInt64 zx11)) + 74) 65537)) / 48))), (7, .int ((Int64.toInt32 (lrm ((75 * (Int32.toInt64 zx11)) + 74) 65537)) / 48)), (6, .int (irm (Int64.toInt32 (lrm ((75 * (Int32.toInt64 zx11)) + 74) 65537)) 6)), (4, .int (Int64.toInt32 (lrm ((75 * (Int32.toInt64 zx11)) + 74) 65537))), (0, .ref (g.1 0 0)), (1, .int p1), (2, .int p2), (3, .int p3)]) hx hb dX8_year_151 hl (k := 5) rfl (nI_1 _) (by decide) rfl (fun ls hl => ?_)
                refine lv_goto (tgt := 53) hx hb dX8_year_154 (by decide) ?_
                exact ih53 (zi9 + 1) (Int64.toInt32 (lrm ((75 * (Int32.toInt64 zx11)) + 74) 65537)) zS12 _ _ (by omega) (yr1 hxr) hf hP hS ls (lv_sub hl [0, 6, 7, 8, 9, 5] rfl)
              · have hf := hf.trans (if_pos zc26)
                refine lv_aload_n hx hb dX8_year_141 rfl (lv_at hl 6 rfl) ?_
                refine lv_iload hx hb dX8_year_142 (lv_at hl 1 rfl) ?_
                refine lv_iload hx hb dX8_year_144 (lv_at hl 3 rfl) ?_
                refine lv_iload hx hb dX8_year_146 (lv_at hl 0 rfl) ?_
                refine kv (va_runV (As := [.int (tX8_actBy zS12 (irm ((Int64.toInt32 (lrm ((75 * (Int32.toInt64 zx11)) + 74) 65537)) / 6) 8) (irm (Int64.toInt32 (lrm ((75 * (Int32.toInt64 zx11)) + 74) 65537)) 6) ((Int64.toInt32 (lrm ((75 * (Int32.toInt64 zx11)) + 74) 65537)) / 48)), .int (irm (Int64.toInt32 (lrm ((75 * (Int32.toInt64 zx11)) + 74) 65537)) 6), .int (irm ((Int64.toInt32 (lrm ((75 * (Int32.toInt64 zx11)) + 74) 65537)) / 48) 3)]) (rest := []) C0 (kX8_happen l g A hA zS12 (tX8_actBy zS12 (irm ((Int64.toInt32 (lrm ((75 * (Int32.toInt64 zx11)) + 74) 65537)) / 6) 8) (irm (Int64.toInt32 (lrm ((75 * (Int32.toInt64 zx11)) + 74) 65537)) 6) ((Int64.toInt32 (lrm ((75 * (Int32.toInt64 zx11)) + 74) 65537)) / 48)) (irm (Int64.toInt32 (lrm ((75 * (Int32.toInt64 zx11)) + 74) 65537)) 6) (irm ((Int64.toInt32 (lrm ((75 * (Int32.toInt64 zx11)) + 74) 65537)) / 48) 3) (fun _ => irm_vp (yr1 hxr).1) (fun _ => irm_wi (yr1 hxr).1)) (cwV 3 hts (gV q890 q892 q23 q54 q893) rfl rfl rfl (by decide +kernel) ⟨Nat.le_of_ble_eq_true rfl, Nat.le_of_ble_eq_true rfl⟩) (preV (recO (mMain g) hP hK rfl) hP hK) rfl rfl hl.1 rfl (lv_room (Nat.le_of_ble_eq_true rfl)) dX8_year_148 ⟨Nat.zero_le _, Nat.zero_le _⟩) hS (fun _ h => h) (fun zS27 H locs hw hP hS => ?_)
                have hf := hf.trans (bnd_eq hw)
                refine lv_iinc (v := (nI (zi9 + 1))) (lv' := [(5, .int (nI (zi9 + 1))), (9, .int (irm ((Int64.toInt32 (lrm ((75 * (Int32.toInt64 zx11)) + 74) 65537)) / 48) 3)), (8, .int (tX8_actBy zS12 (irm ((Int64.toInt32 (lrm ((75 * (Int32.toInt64 zx11)) + 74) 65537)) / 6) 8) (irm (Int64.toInt32 (lrm ((75 * (Int32.toInt64 zx11)) + 74) 65537)) 6) ((Int64.toInt32 (lrm ((75 * (Int32.toInt64 zx11)) + 74) 65537)) / 48))), (7, .int ((Int64.toInt32 (lrm ((75 * (Int32.toInt64 zx11)) + 74) 65537)) / 48)), (6, .int (irm (Int64.toInt32 (lrm ((75 * (Int32.toInt64 zx11)) + 74) 65537)) 6)), (4, .int (Int64.toInt32 (lrm ((75 * (Int32.toInt64 zx11)) + 74) 65537))), (0, .ref (g.1 0 0)), (1, .int p1), (2, .int p2), (3, .int p3)]) hx hb dX8_year_151 hl (k := 5) rfl (nI_1 _) (by decide) rfl (fun ls hl => ?_)
                refine lv_goto (tgt := 53) hx hb dX8_year_154 (by decide) ?_
                exact ih53 (zi9 + 1) (Int64.toInt32 (lrm ((75 * (Int32.toInt64 zx11)) + 74) 65537)) zS27 _ _ (by omega) (yr1 hxr) hf hP hS ls (lv_sub hl [0, 6, 7, 8, 9, 5] rfl)
        exact lp53 (Int32.toNatClampNeg p2) 0 p1 zS8 _ _ (Nat.zero_add _) (yr0 zc1) hf hP hS ls (lv_sub hl [0, 2, 3, 4, 5, 1] rfl)
      · have hf := hf.trans (if_neg zc5)
        refine lv_if_ne (tgt := 39) hx hb dX8_year_33 (by decide) (fun zc28 => absurd (by decide) zc28) (fun zc28 => ?_)
        refine lv_bipush (v := (-2)) hx hb dX8_year_36 (by decide) ?_
        exact ri hQ C0 hr hlocks hK hP hS (by rw [← hF]; exact fin2 hf) dX8_year_38
    · have hf := hf.trans (if_neg zc3)
      refine lv_if_eq (tgt := 36) hx hb dX8_year_21 (by decide) (fun zc29 => ?_) (fun zc29 => absurd (by decide) zc29)
      refine lv_bipush (v := (-2)) hx hb dX8_year_36 (by decide) ?_
      exact ri hQ C0 hr hlocks hK hP hS (by rw [← hF]; exact fin2 hf) dX8_year_38
  · have hf := hf.trans (if_neg zc1)
    refine lv_if_eq (tgt := 36) hx hb dX8_year_9 (by decide) (fun zc30 => ?_) (fun zc30 => absurd (by decide) zc30)
    refine lv_bipush (v := (-2)) hx hb dX8_year_36 (by decide) ?_
    exact ri hQ C0 hr hlocks hK hP hS (by rw [← hF]; exact fin2 hf) dX8_year_38
def tX8_pass (S : St) (p1 : Int32) : Int32 × St :=
  (if (b01 (S.1 0 0 38)) = 0 then (bnd (up S 0 35 (Int32.toNatClampNeg (S.1 0 0 37)) (S.1 0 35 (Int32.toNatClampNeg (S.1 0 0 37)))) (fun zS2 => ((S.1 0 35 (Int32.toNatClampNeg (S.1 0 0 37))), (up zS2 0 0 37 ((zS2.1 0 0 37) + 1))))) else (bnd (up (up S 0 35 (Int32.toNatClampNeg (S.1 0 0 37)) p1) 0 0 37 (((up S 0 35 (Int32.toNatClampNeg (S.1 0 0 37)) p1).1 0 0 37) + 1)) (fun zS3 => (p1, zS3))))
set_option maxHeartbeats 4000000 in
set_option maxRecDepth 100000 in
theorem kX8_pass (l : Launch) (g : Gd) (A : Nat → Prop) (hA : Ads g.1 VM A) (S : St) (p1 : Int32) (hk : vp_in (S.1 0 0 37) 180) : Met l yX8_pass (wU yX8_pass cX8_pass 3 (some .int)) { frames := 0, cells := 0, slots := 0, locals := 0 } (va_Pc [.ref (g.1 0 0), .int p1] (PW VM ctM g S)) (va_Qi (fun r u => r = (tX8_pass S p1).1 ∧ u = (tX8_pass S p1).2) (fun u U => PW VM ctM g u U) A) 0 0 A := by
  refine ent (cc := cX8_pass) (maxL := 3) (ret := (some .int)) (by decide) (Nat.le_of_ble_eq_true rfl) ?_
  intro p e s m below meth c args Q C0 hr hlocks hP hK hQ ls hl
  have hx := C0.1
  have hb := C0.2.1
  have hml := C0.2.2.1
  have hown := C0.2.2.2.1
  have hts := C0.2.2.2.2
  obtain ⟨F, hF⟩ : ∃ F : Int32 × St, F = tX8_pass S p1 := ⟨_, rfl⟩
  have hf := hF
  unfold tX8_pass at hf
  have hS : va_S A s.heap s.heap [] := va_S.rf
  have hl : lv_has ls 3 [(0, .ref (g.1 0 0)), (1, .int p1)] := hl
  refine lv_aload_n hx hb dX8_pass_0 rfl (lv_at hl 0 rfl) ?_
  refine gO (T := TX8) C0 inA8 hK hP (mMain g) rfl 38 (by decide) (hts _ q714) (v := .int (b01 (S.1 0 0 38))) rfl dX8_pass_1 ?_
  refine lv_if_eq (tgt := 11) hx hb dX8_pass_4 (by decide) (fun zc1 => ?_) (fun zc1 => ?_)
  · have hf := hf.trans (if_pos zc1)
    refine lv_aload_n hx hb dX8_pass_11 rfl (lv_at hl 0 rfl) ?_
    refine gO (T := TX8) C0 inA8 hK hP (mMain g) rfl 35 (by decide) (hts _ q711) (v := .ref (g.1 0 35)) rfl dX8_pass_12 ?_
    refine lv_aload_n hx hb dX8_pass_15 rfl (lv_at hl 0 rfl) ?_
    refine gO (T := TX8) C0 inA8 hK hP (mMain g) rfl 37 (by decide) (hts _ q713) (v := .int (S.1 0 0 37)) rfl dX8_pass_16 ?_
    refine gI C0 hK hP (mKept g) hk dX8_pass_19 ?_
    refine lv_istore_n (lv' := [(2, .int (S.1 0 35 (Int32.toNatClampNeg (S.1 0 0 37)))), (0, .ref (g.1 0 0)), (1, .int p1)]) hx hb dX8_pass_20 rfl hl (by decide) rfl (fun ls hl => ?_)
    refine lv_aload_n hx hb dX8_pass_21 rfl (lv_at hl 1 rfl) ?_
    refine gO (T := TX8) C0 inA8 hK hP (mMain g) rfl 35 (by decide) (hts _ q711) (v := .ref (g.1 0 35)) rfl dX8_pass_22 ?_
    refine lv_aload_n hx hb dX8_pass_25 rfl (lv_at hl 1 rfl) ?_
    refine gO (T := TX8) C0 inA8 hK hP (mMain g) rfl 37 (by decide) (hts _ q713) (v := .int (S.1 0 0 37)) rfl dX8_pass_26 ?_
    refine lv_iload_n hx hb dX8_pass_29 rfl (lv_at hl 0 rfl) ?_
    refine pI locM C0 hK hP hA hS (mKept g) hk dX8_pass_30 (fun H locs hP hS => ?_)
    obtain ⟨zS2, hzS2⟩ : ∃ z : St, z = (up S 0 35 (Int32.toNatClampNeg (S.1 0 0 37)) (S.1 0 35 (Int32.toNatClampNeg (S.1 0 0 37)))) := ⟨_, rfl⟩
    rw [← hzS2] at hP
    have hf := hf.trans (bnd_eq hzS2)
    refine lv_aload_n hx hb dX8_pass_31 rfl (lv_at hl 1 rfl) ?_
    refine lv_dup hx hb dX8_pass_32 rfl ?_
    refine gO (T := TX8) C0 inA8 hK hP (mMain g) rfl 37 (by decide) (hts _ q713) (v := .int (zS2.1 0 0 37)) rfl dX8_pass_33 ?_
    refine lv_iconst (v := 1) hx hb dX8_pass_36 (by decide) ?_
    refine lv_iadd hx hb dX8_pass_37 ?_
    refine pO (T := TX8) (ty0 := tyX8) locM C0 inA8 tyX8_ok nmX8 hK hP hA hS (mMain g) rfl 37 (by decide) (hts _ q713) rfl 37 ((zS2.1 0 0 37) + 1) rfl rfl rfl (Nat.le_of_ble_eq_true rfl) dX8_pass_38 (fun H locs hP hS => ?_)
    refine lv_iload_n hx hb dX8_pass_41 rfl (lv_at hl 0 rfl) ?_
    exact ri hQ C0 hr hlocks hK hP hS (by rw [← hF]; exact fin2 hf) dX8_pass_42
  · have hf := hf.trans (if_neg zc1)
    refine lv_iload_n hx hb dX8_pass_7 rfl (lv_at hl 1 rfl) ?_
    refine lv_goto (tgt := 20) hx hb dX8_pass_8 (by decide) ?_
    refine lv_istore_n (lv' := [(2, .int p1), (0, .ref (g.1 0 0)), (1, .int p1)]) hx hb dX8_pass_20 rfl hl (by decide) rfl (fun ls hl => ?_)
    refine lv_aload_n hx hb dX8_pass_21 rfl (lv_at hl 1 rfl) ?_
    refine gO (T := TX8) C0 inA8 hK hP (mMain g) rfl 35 (by decide) (hts _ q711) (v := .ref (g.1 0 35)) rfl dX8_pass_22 ?_
    refine lv_aload_n hx hb dX8_pass_25 rfl (lv_at hl 1 rfl) ?_
    refine gO (T := TX8) C0 inA8 hK hP (mMain g) rfl 37 (by decide) (hts _ q713) (v := .int (S.1 0 0 37)) rfl dX8_pass_26 ?_
    refine lv_iload_n hx hb dX8_pass_29 rfl (lv_at hl 0 rfl) ?_
    refine pI locM C0 hK hP hA hS (mKept g) hk dX8_pass_30 (fun H locs hP hS => ?_)
    refine lv_aload_n hx hb dX8_pass_31 rfl (lv_at hl 1 rfl) ?_
    refine lv_dup hx hb dX8_pass_32 rfl ?_
    refine gO (T := TX8) C0 inA8 hK hP (mMain g) rfl 37 (by decide) (hts _ q713) (v := .int ((up S 0 35 (Int32.toNatClampNeg (S.1 0 0 37)) p1).1 0 0 37)) rfl dX8_pass_33 ?_
    refine lv_iconst (v := 1) hx hb dX8_pass_36 (by decide) ?_
    refine lv_iadd hx hb dX8_pass_37 ?_
    refine pO (T := TX8) (ty0 := tyX8) locM C0 inA8 tyX8_ok nmX8 hK hP hA hS (mMain g) rfl 37 (by decide) (hts _ q713) rfl 37 (((up S 0 35 (Int32.toNatClampNeg (S.1 0 0 37)) p1).1 0 0 37) + 1) rfl rfl rfl (Nat.le_of_ble_eq_true rfl) dX8_pass_38 (fun H locs hP hS => ?_)
    obtain ⟨zS3, hzS3⟩ : ∃ z : St, z = (up (up S 0 35 (Int32.toNatClampNeg (S.1 0 0 37)) p1) 0 0 37 (((up S 0 35 (Int32.toNatClampNeg (S.1 0 0 37)) p1).1 0 0 37) + 1)) := ⟨_, rfl⟩
    rw [← hzS3] at hP
    have hf := hf.trans (bnd_eq hzS3)
    refine lv_iload_n hx hb dX8_pass_41 rfl (lv_at hl 0 rfl) ?_
    exact ri hQ C0 hr hlocks hK hP hS (by rw [← hF]; exact fin2 hf) dX8_pass_42
theorem pass_37 (S : St) (v : Int32) : (tX8_pass S v).2.1 0 0 37 = S.1 0 0 37 + 1 := by
  unfold tX8_pass
  repeat' split
  all_goals simp [bnd_def, up, upd]
theorem pass_kp {r v : Int32} {S S' : St} {n : Nat} (hw : r = (tX8_pass S v).1 ∧ S' = (tX8_pass S v).2) (h : S.1 0 0 37 = nI n) : S'.1 0 0 37 = nI (n + 1) := by
  rw [hw.2, pass_37, h, nI_1]
def LX8_passRow_2 (S : St) (i : Nat) (n : Nat) (p1 : Int32) : Nat → Nat → St → St
  | 0, zi1, zS3 => zS3
  | zk2 + 1, zi1, zS3 => (bnd (tX8_pass zS3 (zS3.1 0 i zi1)).2 (fun zS7 => bnd (tX8_pass zS3 (zS3.1 0 i zi1)).1 (fun zr6 => (LX8_passRow_2 S i n p1 zk2 (zi1 + 1) (up zS7 0 i zi1 zr6)))))
def tX8_passRow (S : St) (i : Nat) (n : Nat) (p1 : Int32) : St :=
  (LX8_passRow_2 S i n p1 (Int32.toNatClampNeg p1) 0 S)
set_option maxHeartbeats 4000000 in
set_option maxRecDepth 100000 in
theorem kX8_passRow (l : Launch) (g : Gd) (A : Nat → Prop) (hA : Ads g.1 VM A) (S : St) (i : Nat) (n : Nat) (p1 : Int32) (hi : IsI VM ctM g 0 i n) (hi0 : ¬ i = 0) (hn2 : n < 2 ^ 31) (hn : p1.toNatClampNeg ≤ n) (hq9 : ¬ S.1 0 0 37 < 0) (hqb : (S.1 0 0 37).toNatClampNeg + p1.toNatClampNeg ≤ 180) : Met l yX8_passRow (wU yX8_passRow cX8_passRow 4 none) { frames := 1, cells := 0, slots := 0, locals := 22 } (va_Pc [.ref (g.1 0 0), .ref (g.1 0 i), .int p1] (PW VM ctM g S)) (va_Qv (fun u => u = tX8_passRow S i n p1) (fun u U => PW VM ctM g u U) A) 0 0 A := by
  refine ent (cc := cX8_passRow) (maxL := 4) (ret := none) (by decide) (Nat.le_of_ble_eq_true rfl) ?_
  intro p e s m below meth c args Q C0 hr hlocks hP hK hQ ls hl
  have hx := C0.1
  have hb := C0.2.1
  have hml := C0.2.2.1
  have hown := C0.2.2.2.1
  have hts := C0.2.2.2.2
  obtain ⟨F, hF⟩ : ∃ F : St, F = tX8_passRow S i n p1 := ⟨_, rfl⟩
  have hf := hF
  unfold tX8_passRow at hf
  have hS : va_S A s.heap s.heap [] := va_S.rf
  have hl : lv_has ls 4 [(0, .ref (g.1 0 0)), (1, .ref (g.1 0 i)), (2, .int p1)] := hl
  refine lv_iconst (v := 0) hx hb dX8_passRow_0 (by decide) ?_
  refine lv_istore_n (lv' := [(3, .int 0), (0, .ref (g.1 0 0)), (1, .ref (g.1 0 i)), (2, .int p1)]) hx hb dX8_passRow_1 rfl hl (by decide) rfl (fun ls hl => ?_)
  have lp2 : ∀ (zk2 zi1 : Nat) (zS3 : St) (H : Heap) (locs : List Loc), (zi1 + zk2 = (Int32.toNatClampNeg p1)) → (zS3.1 0 0 37 = nI ((S.1 0 0 37).toNatClampNeg + zi1)) → (F = LX8_passRow_2 S i n p1 zk2 zi1 zS3) → HW VM ctM g zS3 H → va_S A s.heap H locs → ∀ ls : Array Slot, lv_has ls 4 [(3, .int (nI zi1)), (0, .ref (g.1 0 0)), (1, .ref (g.1 0 i)), (2, .int p1)] → W p l e { frames := 1, cells := 0, slots := 0, locals := 22 } s m args below meth c H locs 0 0 Q (F0 m 2 ls []) := by
    intro zk2
    induction zk2 with
    | zero =>
      intro zi1 zS3 H locs hik hqi hf hP hS ls hl
      rw [LX8_passRow_2] at hf
      refine lv_iload_n hx hb dX8_passRow_2 rfl (lv_at hl 0 rfl) ?_
      refine lv_iload_n hx hb dX8_passRow_3 rfl (lv_at hl 3 rfl) ?_
      refine lv_icmp_ge (tgt := 23) hx hb dX8_passRow_4 (by decide) (fun zc4 => ?_) (fun zc4 => absurd (up_sge0 hik) zc4)
      exact rv hQ C0 hr hlocks hK hP hS (by rw [← hF]; exact hf.symm) dX8_passRow_23
    | succ zk2 ih2 =>
      intro zi1 zS3 H locs hik hqi hf hP hS ls hl
      rw [LX8_passRow_2] at hf
      refine lv_iload_n hx hb dX8_passRow_2 rfl (lv_at hl 0 rfl) ?_
      refine lv_iload_n hx hb dX8_passRow_3 rfl (lv_at hl 3 rfl) ?_
      refine lv_icmp_ge (tgt := 23) hx hb dX8_passRow_4 (by decide) (fun zc5 => absurd zc5 (up_sge1 hik)) (fun zc5 => ?_)
      refine lv_aload_n hx hb dX8_passRow_7 rfl (lv_at hl 2 rfl) ?_
      refine lv_iload_n hx hb dX8_passRow_8 rfl (lv_at hl 0 rfl) ?_
      refine lv_aload_n hx hb dX8_passRow_9 rfl (lv_at hl 1 rfl) ?_
      refine lv_aload_n hx hb dX8_passRow_10 rfl (lv_at hl 2 rfl) ?_
      refine lv_iload_n hx hb dX8_passRow_11 rfl (lv_at hl 0 rfl) ?_
      refine gI C0 hK hP hi (vp_in_nI (by omega) hn2) dX8_passRow_12 ?_
      rw [nI_clamp (n := zi1) (by omega)]
      refine ki (va_runV (As := [.int (zS3.1 0 i zi1)]) (rest := [.int (nI zi1), .ref (g.1 0 i)]) C0 (kX8_pass l g A hA zS3 (zS3.1 0 i zi1) (by rw [hqi]; exact vp_in_nI (by omega) (by decide))) (cwV 1 hts (gV q1065 q1067 q42 q54 q1068) rfl rfl rfl (by decide +kernel) ⟨Nat.le_of_ble_eq_true rfl, Nat.le_of_ble_eq_true rfl⟩) (preV (recO (mMain g) hP hK rfl) hP hK) rfl rfl hl.1 rfl (lv_room (Nat.le_of_ble_eq_true rfl)) dX8_passRow_13 ⟨Nat.zero_le _, Nat.zero_le _⟩) hS (fun _ h => h) (fun zr6 zS7 H locs hw hP hS => ?_)
      have hf := (hf.trans (bnd_eq hw.2)).trans (bnd_eq hw.1)
      refine pI locM C0 hK hP hA hS hi (vp_in_nI (by omega) hn2) dX8_passRow_16 (fun H locs hP hS => ?_)
      rw [nI_clamp (n := zi1) (by omega)] at hP
      refine lv_iinc (v := (nI (zi1 + 1))) (lv' := [(3, .int (nI (zi1 + 1))), (0, .ref (g.1 0 0)), (1, .ref (g.1 0 i)), (2, .int p1)]) hx hb dX8_passRow_17 hl (k := 0) rfl (nI_1 _) (by decide) rfl (fun ls hl => ?_)
      refine lv_goto (tgt := 2) hx hb dX8_passRow_20 (by decide) ?_
      exact ih2 (zi1 + 1) (up zS7 0 i zi1 zr6) _ _ (by omega) (by rw [up_row_ne _ _ (Ne.symm hi0)]; exact pass_kp hw hqi) hf hP hS ls (lv_sub hl [0, 1, 2, 3] rfl)
  exact lp2 (Int32.toNatClampNeg p1) 0 S _ _ (Nat.zero_add _) (nI_cl hq9) hf hP hS ls (lv_sub hl [0, 1, 2, 3] rfl)
theorem kp_nn {x : Int32} {n : Nat} (h : x = nI n) (hn : n < 2 ^ 31) : ¬ x < 0 := by rw [h]; exact nI_pos hn
theorem kp_row {x y : Int32} {n m : Nat} (h : x = nI n) (hm : y.toNatClampNeg = m) (hn : n + m ≤ 180) : x.toNatClampNeg + y.toNatClampNeg ≤ 180 := by
  rw [h, hm, nI_clamp (by omega)]
  exact hn
theorem row2_37 {i : Nat} (hi : ¬ i = 0) (S0 : St) (n : Nat) (p1 : Int32) : ∀ (k j : Nat) (S : St) (a : Nat), S.1 0 0 37 = nI a → (LX8_passRow_2 S0 i n p1 k j S).1 0 0 37 = nI (a + k) := by
  intro k
  induction k with
  | zero => intro j S a h; exact h
  | succ k ih =>
    intro j S a h
    rw [LX8_passRow_2]
    simp only [bnd_def]
    rw [ih _ _ (a + 1)]
    · congr 1; omega
    · rw [up_row_ne _ _ (Ne.symm hi), pass_37, h, nI_1]
theorem row_kp {i n : Nat} {p1 : Int32} {S S' : St} {m a : Nat} (hi : ¬ i = 0) (hm : p1.toNatClampNeg = m) (hw : S' = tX8_passRow S i n p1) (h : S.1 0 0 37 = nI a) (_ : a ≤ 180) : S'.1 0 0 37 = nI (a + m) := by
  rw [hw]
  unfold tX8_passRow
  rw [row2_37 hi _ _ _ _ _ _ _ h, hm]
def tX8_passAll (S : St) : St :=
  (bnd (tX8_pass S (S.1 0 0 0)).2 (fun zS2 => bnd (tX8_pass S (S.1 0 0 0)).1 (fun zr1 => (bnd (tX8_pass (up zS2 0 0 0 zr1) ((up zS2 0 0 0 zr1).1 0 0 1)).2 (fun zS4 => bnd (tX8_pass (up zS2 0 0 0 zr1) ((up zS2 0 0 0 zr1).1 0 0 1)).1 (fun zr3 => (bnd (tX8_pass (up zS4 0 0 1 zr3) ((up zS4 0 0 1 zr3).1 0 0 7)).2 (fun zS6 => bnd (tX8_pass (up zS4 0 0 1 zr3) ((up zS4 0 0 1 zr3).1 0 0 7)).1 (fun zr5 => (bnd (tX8_pass (up zS6 0 0 7 zr5) ((up zS6 0 0 7 zr5).1 0 0 8)).2 (fun zS8 => bnd (tX8_pass (up zS6 0 0 7 zr5) ((up zS6 0 0 7 zr5).1 0 0 8)).1 (fun zr7 => (bnd (tX8_pass (up zS8 0 0 8 zr7) ((up zS8 0 0 8 zr7).1 0 0 9)).2 (fun zS10 => bnd (tX8_pass (up zS8 0 0 8 zr7) ((up zS8 0 0 8 zr7).1 0 0 9)).1 (fun zr9 => (bnd (tX8_pass (up zS10 0 0 9 zr9) ((up zS10 0 0 9 zr9).1 0 0 10)).2 (fun zS12 => bnd (tX8_pass (up zS10 0 0 9 zr9) ((up zS10 0 0 9 zr9).1 0 0 10)).1 (fun zr11 => (bnd (tX8_pass (up zS12 0 0 10 zr11) ((up zS12 0 0 10 zr11).1 0 0 11)).2 (fun zS14 => bnd (tX8_pass (up zS12 0 0 10 zr11) ((up zS12 0 0 10 zr11).1 0 0 11)).1 (fun zr13 => (bnd (tX8_pass (up zS14 0 0 11 zr13) ((up zS14 0 0 11 zr13).1 0 0 12)).2 (fun zS16 => bnd (tX8_pass (up zS14 0 0 11 zr13) ((up zS14 0 0 11 zr13).1 0 0 12)).1 (fun zr15 => (bnd (tX8_pass (up zS16 0 0 12 zr15) ((up zS16 0 0 12 zr15).1 0 0 16)).2 (fun zS18 => bnd (tX8_pass (up zS16 0 0 12 zr15) ((up zS16 0 0 12 zr15).1 0 0 16)).1 (fun zr17 => (bnd (tX8_passRow (up zS18 0 0 16 zr17) 2 6 6) (fun zS19 => (bnd (tX8_passRow zS19 3 6 6) (fun zS20 => (bnd (tX8_passRow zS20 4 6 6) (fun zS21 => (bnd (tX8_passRow zS21 5 6 6) (fun zS22 => (bnd (tX8_passRow zS22 6 18 18) (fun zS23 => (bnd (tX8_passRow zS23 13 8 8) (fun zS24 => (bnd (tX8_passRow zS24 14 8 8) (fun zS25 => (bnd (tX8_passRow zS25 15 8 8) (fun zS26 => zS26)))))))))))))))))))))))))))))))))))))))))))
set_option maxHeartbeats 4000000 in
set_option maxRecDepth 100000 in
theorem kX8_passAll (l : Launch) (g : Gd) (A : Nat → Prop) (hA : Ads g.1 VM A) (S : St)  (hq9 : ¬ S.1 0 0 37 < 0) (hqb : (S.1 0 0 37).toNatClampNeg + 90 ≤ 180) : Met l yX8_passAll (wU yX8_passAll cX8_passAll 1 none) { frames := 2, cells := 0, slots := 0, locals := 45 } (va_Pc [.ref (g.1 0 0)] (PW VM ctM g S)) (va_Qv (fun u => u = tX8_passAll S) (fun u U => PW VM ctM g u U) A) 0 0 A := by
  refine ent (cc := cX8_passAll) (maxL := 1) (ret := none) (by decide) (Nat.le_of_ble_eq_true rfl) ?_
  intro p e s m below meth c args Q C0 hr hlocks hP hK hQ ls hl
  have hx := C0.1
  have hb := C0.2.1
  have hml := C0.2.2.1
  have hown := C0.2.2.2.1
  have hts := C0.2.2.2.2
  obtain ⟨F, hF⟩ : ∃ F : St, F = tX8_passAll S := ⟨_, rfl⟩
  have hf := hF
  unfold tX8_passAll at hf
  have hS : va_S A s.heap s.heap [] := va_S.rf
  have hkp := nI_cl hq9
  have hl : lv_has ls 1 [(0, .ref (g.1 0 0))] := hl
  refine lv_aload_n hx hb dX8_passAll_0 rfl (lv_at hl 0 rfl) ?_
  refine lv_aload_n hx hb dX8_passAll_1 rfl (lv_at hl 0 rfl) ?_
  refine lv_aload_n hx hb dX8_passAll_2 rfl (lv_at hl 0 rfl) ?_
  refine gO (T := TX8) C0 inA8 hK hP (mMain g) rfl 0 (by decide) (hts _ q676) (v := .int (S.1 0 0 0)) rfl dX8_passAll_3 ?_
  refine ki (va_runV (As := [.int (S.1 0 0 0)]) (rest := [.ref (g.1 0 0)]) C0 (kX8_pass l g A hA S (S.1 0 0 0) (by rw [hkp]; exact vp_in_nI (by omega) (by decide))) (cwV 1 hts (gV q1065 q1067 q42 q54 q1068) rfl rfl rfl (by decide +kernel) ⟨Nat.le_of_ble_eq_true rfl, Nat.le_of_ble_eq_true rfl⟩) (preV (recO (mMain g) hP hK rfl) hP hK) rfl rfl hl.1 rfl (lv_room (Nat.le_of_ble_eq_true rfl)) dX8_passAll_6 ⟨Nat.zero_le _, Nat.zero_le _⟩) hS (fun _ h => h) (fun zr1 zS2 H locs hw hP hS => ?_)
  have hf := (hf.trans (bnd_eq hw.2)).trans (bnd_eq hw.1)
  have hkp := pass_kp hw hkp
  refine pO (T := TX8) (ty0 := tyX8) locM C0 inA8 tyX8_ok nmX8 hK hP hA hS (mMain g) rfl 0 (by decide) (hts _ q676) rfl 0 zr1 rfl rfl rfl (Nat.le_of_ble_eq_true rfl) dX8_passAll_9 (fun H locs hP hS => ?_)
  have hkp : (up zS2 0 0 0 zr1).1 0 0 37 = nI _ := (up_lo _ _ (by decide)).trans hkp
  refine lv_aload_n hx hb dX8_passAll_12 rfl (lv_at hl 0 rfl) ?_
  refine lv_aload_n hx hb dX8_passAll_13 rfl (lv_at hl 0 rfl) ?_
  refine lv_aload_n hx hb dX8_passAll_14 rfl (lv_at hl 0 rfl) ?_
  refine gO (T := TX8) C0 inA8 hK hP (mMain g) rfl 1 (by decide) (hts _ q677) (v := .int ((up zS2 0 0 0 zr1).1 0 0 1)) rfl dX8_passAll_15 ?_
  refine ki (va_runV (As := [.int ((up zS2 0 0 0 zr1).1 0 0 1)]) (rest := [.ref (g.1 0 0)]) C0 (kX8_pass l g A hA (up zS2 0 0 0 zr1) ((up zS2 0 0 0 zr1).1 0 0 1) (by rw [hkp]; exact vp_in_nI (by omega) (by decide))) (cwV 1 hts (gV q1065 q1067 q42 q54 q1068) rfl rfl rfl (by decide +kernel) ⟨Nat.le_of_ble_eq_true rfl, Nat.le_of_ble_eq_true rfl⟩) (preV (recO (mMain g) hP hK rfl) hP hK) rfl rfl hl.1 rfl (lv_room (Nat.le_of_ble_eq_true rfl)) dX8_passAll_18 ⟨Nat.zero_le _, Nat.zero_le _⟩) hS (fun _ h => h) (fun zr3 zS4 H locs hw hP hS => ?_)
  have hf := (hf.trans (bnd_eq hw.2)).trans (bnd_eq hw.1)
  have hkp := pass_kp hw hkp
  refine pO (T := TX8) (ty0 := tyX8) locM C0 inA8 tyX8_ok nmX8 hK hP hA hS (mMain g) rfl 1 (by decide) (hts _ q677) rfl 1 zr3 rfl rfl rfl (Nat.le_of_ble_eq_true rfl) dX8_passAll_21 (fun H locs hP hS => ?_)
  have hkp : (up zS4 0 0 1 zr3).1 0 0 37 = nI _ := (up_lo _ _ (by decide)).trans hkp
  refine lv_aload_n hx hb dX8_passAll_24 rfl (lv_at hl 0 rfl) ?_
  refine lv_aload_n hx hb dX8_passAll_25 rfl (lv_at hl 0 rfl) ?_
  refine lv_aload_n hx hb dX8_passAll_26 rfl (lv_at hl 0 rfl) ?_
  refine gO (T := TX8) C0 inA8 hK hP (mMain g) rfl 7 (by decide) (hts _ q683) (v := .int ((up zS4 0 0 1 zr3).1 0 0 7)) rfl dX8_passAll_27 ?_
  refine ki (va_runV (As := [.int ((up zS4 0 0 1 zr3).1 0 0 7)]) (rest := [.ref (g.1 0 0)]) C0 (kX8_pass l g A hA (up zS4 0 0 1 zr3) ((up zS4 0 0 1 zr3).1 0 0 7) (by rw [hkp]; exact vp_in_nI (by omega) (by decide))) (cwV 1 hts (gV q1065 q1067 q42 q54 q1068) rfl rfl rfl (by decide +kernel) ⟨Nat.le_of_ble_eq_true rfl, Nat.le_of_ble_eq_true rfl⟩) (preV (recO (mMain g) hP hK rfl) hP hK) rfl rfl hl.1 rfl (lv_room (Nat.le_of_ble_eq_true rfl)) dX8_passAll_30 ⟨Nat.zero_le _, Nat.zero_le _⟩) hS (fun _ h => h) (fun zr5 zS6 H locs hw hP hS => ?_)
  have hf := (hf.trans (bnd_eq hw.2)).trans (bnd_eq hw.1)
  have hkp := pass_kp hw hkp
  refine pO (T := TX8) (ty0 := tyX8) locM C0 inA8 tyX8_ok nmX8 hK hP hA hS (mMain g) rfl 7 (by decide) (hts _ q683) rfl 7 zr5 rfl rfl rfl (Nat.le_of_ble_eq_true rfl) dX8_passAll_33 (fun H locs hP hS => ?_)
  have hkp : (up zS6 0 0 7 zr5).1 0 0 37 = nI _ := (up_lo _ _ (by decide)).trans hkp
  refine lv_aload_n hx hb dX8_passAll_36 rfl (lv_at hl 0 rfl) ?_
  refine lv_aload_n hx hb dX8_passAll_37 rfl (lv_at hl 0 rfl) ?_
  refine lv_aload_n hx hb dX8_passAll_38 rfl (lv_at hl 0 rfl) ?_
  refine gO (T := TX8) C0 inA8 hK hP (mMain g) rfl 8 (by decide) (hts _ q684) (v := .int ((up zS6 0 0 7 zr5).1 0 0 8)) rfl dX8_passAll_39 ?_
  refine ki (va_runV (As := [.int ((up zS6 0 0 7 zr5).1 0 0 8)]) (rest := [.ref (g.1 0 0)]) C0 (kX8_pass l g A hA (up zS6 0 0 7 zr5) ((up zS6 0 0 7 zr5).1 0 0 8) (by rw [hkp]; exact vp_in_nI (by omega) (by decide))) (cwV 1 hts (gV q1065 q1067 q42 q54 q1068) rfl rfl rfl (by decide +kernel) ⟨Nat.le_of_ble_eq_true rfl, Nat.le_of_ble_eq_true rfl⟩) (preV (recO (mMain g) hP hK rfl) hP hK) rfl rfl hl.1 rfl (lv_room (Nat.le_of_ble_eq_true rfl)) dX8_passAll_42 ⟨Nat.zero_le _, Nat.zero_le _⟩) hS (fun _ h => h) (fun zr7 zS8 H locs hw hP hS => ?_)
  have hf := (hf.trans (bnd_eq hw.2)).trans (bnd_eq hw.1)
  have hkp := pass_kp hw hkp
  refine pO (T := TX8) (ty0 := tyX8) locM C0 inA8 tyX8_ok nmX8 hK hP hA hS (mMain g) rfl 8 (by decide) (hts _ q684) rfl 8 zr7 rfl rfl rfl (Nat.le_of_ble_eq_true rfl) dX8_passAll_45 (fun H locs hP hS => ?_)
  have hkp : (up zS8 0 0 8 zr7).1 0 0 37 = nI _ := (up_lo _ _ (by decide)).trans hkp
  refine lv_aload_n hx hb dX8_passAll_48 rfl (lv_at hl 0 rfl) ?_
  refine lv_aload_n hx hb dX8_passAll_49 rfl (lv_at hl 0 rfl) ?_
  refine lv_aload_n hx hb dX8_passAll_50 rfl (lv_at hl 0 rfl) ?_
  refine gO (T := TX8) C0 inA8 hK hP (mMain g) rfl 9 (by decide) (hts _ q685) (v := .int ((up zS8 0 0 8 zr7).1 0 0 9)) rfl dX8_passAll_51 ?_
  refine ki (va_runV (As := [.int ((up zS8 0 0 8 zr7).1 0 0 9)]) (rest := [.ref (g.1 0 0)]) C0 (kX8_pass l g A hA (up zS8 0 0 8 zr7) ((up zS8 0 0 8 zr7).1 0 0 9) (by rw [hkp]; exact vp_in_nI (by omega) (by decide))) (cwV 1 hts (gV q1065 q1067 q42 q54 q1068) rfl rfl rfl (by decide +kernel) ⟨Nat.le_of_ble_eq_true rfl, Nat.le_of_ble_eq_true rfl⟩) (preV (recO (mMain g) hP hK rfl) hP hK) rfl rfl hl.1 rfl (lv_room (Nat.le_of_ble_eq_true rfl)) dX8_passAll_54 ⟨Nat.zero_le _, Nat.zero_le _⟩) hS (fun _ h => h) (fun zr9 zS10 H locs hw hP hS => ?_)
  have hf := (hf.trans (bnd_eq hw.2)).trans (bnd_eq hw.1)
  have hkp := pass_kp hw hkp
  refine pO (T := TX8) (ty0 := tyX8) locM C0 inA8 tyX8_ok nmX8 hK hP hA hS (mMain g) rfl 9 (by decide) (hts _ q685) rfl 9 zr9 rfl rfl rfl (Nat.le_of_ble_eq_true rfl) dX8_passAll_57 (fun H locs hP hS => ?_)
  have hkp : (up zS10 0 0 9 zr9).1 0 0 37 = nI _ := (up_lo _ _ (by decide)).trans hkp
  refine lv_aload_n hx hb dX8_passAll_60 rfl (lv_at hl 0 rfl) ?_
  refine lv_aload_n hx hb dX8_passAll_61 rfl (lv_at hl 0 rfl) ?_
  refine lv_aload_n hx hb dX8_passAll_62 rfl (lv_at hl 0 rfl) ?_
  refine gO (T := TX8) C0 inA8 hK hP (mMain g) rfl 10 (by decide) (hts _ q686) (v := .int ((up zS10 0 0 9 zr9).1 0 0 10)) rfl dX8_passAll_63 ?_
  refine ki (va_runV (As := [.int ((up zS10 0 0 9 zr9).1 0 0 10)]) (rest := [.ref (g.1 0 0)]) C0 (kX8_pass l g A hA (up zS10 0 0 9 zr9) ((up zS10 0 0 9 zr9).1 0 0 10) (by rw [hkp]; exact vp_in_nI (by omega) (by decide))) (cwV 1 hts (gV q1065 q1067 q42 q54 q1068) rfl rfl rfl (by decide +kernel) ⟨Nat.le_of_ble_eq_true rfl, Nat.le_of_ble_eq_true rfl⟩) (preV (recO (mMain g) hP hK rfl) hP hK) rfl rfl hl.1 rfl (lv_room (Nat.le_of_ble_eq_true rfl)) dX8_passAll_66 ⟨Nat.zero_le _, Nat.zero_le _⟩) hS (fun _ h => h) (fun zr11 zS12 H locs hw hP hS => ?_)
  have hf := (hf.trans (bnd_eq hw.2)).trans (bnd_eq hw.1)
  have hkp := pass_kp hw hkp
  refine pO (T := TX8) (ty0 := tyX8) locM C0 inA8 tyX8_ok nmX8 hK hP hA hS (mMain g) rfl 10 (by decide) (hts _ q686) rfl 10 zr11 rfl rfl rfl (Nat.le_of_ble_eq_true rfl) dX8_passAll_69 (fun H locs hP hS => ?_)
  have hkp : (up zS12 0 0 10 zr11).1 0 0 37 = nI _ := (up_lo _ _ (by decide)).trans hkp
  refine lv_aload_n hx hb dX8_passAll_72 rfl (lv_at hl 0 rfl) ?_
  refine lv_aload_n hx hb dX8_passAll_73 rfl (lv_at hl 0 rfl) ?_
  refine lv_aload_n hx hb dX8_passAll_74 rfl (lv_at hl 0 rfl) ?_
  refine gO (T := TX8) C0 inA8 hK hP (mMain g) rfl 11 (by decide) (hts _ q687) (v := .int ((up zS12 0 0 10 zr11).1 0 0 11)) rfl dX8_passAll_75 ?_
  refine ki (va_runV (As := [.int ((up zS12 0 0 10 zr11).1 0 0 11)]) (rest := [.ref (g.1 0 0)]) C0 (kX8_pass l g A hA (up zS12 0 0 10 zr11) ((up zS12 0 0 10 zr11).1 0 0 11) (by rw [hkp]; exact vp_in_nI (by omega) (by decide))) (cwV 1 hts (gV q1065 q1067 q42 q54 q1068) rfl rfl rfl (by decide +kernel) ⟨Nat.le_of_ble_eq_true rfl, Nat.le_of_ble_eq_true rfl⟩) (preV (recO (mMain g) hP hK rfl) hP hK) rfl rfl hl.1 rfl (lv_room (Nat.le_of_ble_eq_true rfl)) dX8_passAll_78 ⟨Nat.zero_le _, Nat.zero_le _⟩) hS (fun _ h => h) (fun zr13 zS14 H locs hw hP hS => ?_)
  have hf := (hf.trans (bnd_eq hw.2)).trans (bnd_eq hw.1)
  have hkp := pass_kp hw hkp
  refine pO (T := TX8) (ty0 := tyX8) locM C0 inA8 tyX8_ok nmX8 hK hP hA hS (mMain g) rfl 11 (by decide) (hts _ q687) rfl 11 zr13 rfl rfl rfl (Nat.le_of_ble_eq_true rfl) dX8_passAll_81 (fun H locs hP hS => ?_)
  have hkp : (up zS14 0 0 11 zr13).1 0 0 37 = nI _ := (up_lo _ _ (by decide)).trans hkp
  refine lv_aload_n hx hb dX8_passAll_84 rfl (lv_at hl 0 rfl) ?_
  refine lv_aload_n hx hb dX8_passAll_85 rfl (lv_at hl 0 rfl) ?_
  refine lv_aload_n hx hb dX8_passAll_86 rfl (lv_at hl 0 rfl) ?_
  refine gO (T := TX8) C0 inA8 hK hP (mMain g) rfl 12 (by decide) (hts _ q688) (v := .int ((up zS14 0 0 11 zr13).1 0 0 12)) rfl dX8_passAll_87 ?_
  refine ki (va_runV (As := [.int ((up zS14 0 0 11 zr13).1 0 0 12)]) (rest := [.ref (g.1 0 0)]) C0 (kX8_pass l g A hA (up zS14 0 0 11 zr13) ((up zS14 0 0 11 zr13).1 0 0 12) (by rw [hkp]; exact vp_in_nI (by omega) (by decide))) (cwV 1 hts (gV q1065 q1067 q42 q54 q1068) rfl rfl rfl (by decide +kernel) ⟨Nat.le_of_ble_eq_true rfl, Nat.le_of_ble_eq_true rfl⟩) (preV (recO (mMain g) hP hK rfl) hP hK) rfl rfl hl.1 rfl (lv_room (Nat.le_of_ble_eq_true rfl)) dX8_passAll_90 ⟨Nat.zero_le _, Nat.zero_le _⟩) hS (fun _ h => h) (fun zr15 zS16 H locs hw hP hS => ?_)
  have hf := (hf.trans (bnd_eq hw.2)).trans (bnd_eq hw.1)
  have hkp := pass_kp hw hkp
  refine pO (T := TX8) (ty0 := tyX8) locM C0 inA8 tyX8_ok nmX8 hK hP hA hS (mMain g) rfl 12 (by decide) (hts _ q688) rfl 12 zr15 rfl rfl rfl (Nat.le_of_ble_eq_true rfl) dX8_passAll_93 (fun H locs hP hS => ?_)
  have hkp : (up zS16 0 0 12 zr15).1 0 0 37 = nI _ := (up_lo _ _ (by decide)).trans hkp
  refine lv_aload_n hx hb dX8_passAll_96 rfl (lv_at hl 0 rfl) ?_
  refine lv_aload_n hx hb dX8_passAll_97 rfl (lv_at hl 0 rfl) ?_
  refine lv_aload_n hx hb dX8_passAll_98 rfl (lv_at hl 0 rfl) ?_
  refine gO (T := TX8) C0 inA8 hK hP (mMain g) rfl 16 (by decide) (hts _ q692) (v := .int ((up zS16 0 0 12 zr15).1 0 0 16)) rfl dX8_passAll_99 ?_
  refine ki (va_runV (As := [.int ((up zS16 0 0 12 zr15).1 0 0 16)]) (rest := [.ref (g.1 0 0)]) C0 (kX8_pass l g A hA (up zS16 0 0 12 zr15) ((up zS16 0 0 12 zr15).1 0 0 16) (by rw [hkp]; exact vp_in_nI (by omega) (by decide))) (cwV 1 hts (gV q1065 q1067 q42 q54 q1068) rfl rfl rfl (by decide +kernel) ⟨Nat.le_of_ble_eq_true rfl, Nat.le_of_ble_eq_true rfl⟩) (preV (recO (mMain g) hP hK rfl) hP hK) rfl rfl hl.1 rfl (lv_room (Nat.le_of_ble_eq_true rfl)) dX8_passAll_102 ⟨Nat.zero_le _, Nat.zero_le _⟩) hS (fun _ h => h) (fun zr17 zS18 H locs hw hP hS => ?_)
  have hf := (hf.trans (bnd_eq hw.2)).trans (bnd_eq hw.1)
  have hkp := pass_kp hw hkp
  refine pO (T := TX8) (ty0 := tyX8) locM C0 inA8 tyX8_ok nmX8 hK hP hA hS (mMain g) rfl 16 (by decide) (hts _ q692) rfl 16 zr17 rfl rfl rfl (Nat.le_of_ble_eq_true rfl) dX8_passAll_105 (fun H locs hP hS => ?_)
  have hkp : (up zS18 0 0 16 zr17).1 0 0 37 = nI _ := (up_lo _ _ (by decide)).trans hkp
  refine lv_aload_n hx hb dX8_passAll_108 rfl (lv_at hl 0 rfl) ?_
  refine lv_aload_n hx hb dX8_passAll_109 rfl (lv_at hl 0 rfl) ?_
  refine gO (T := TX8) C0 inA8 hK hP (mMain g) rfl 2 (by decide) (hts _ q678) (v := .ref (g.1 0 2)) rfl dX8_passAll_110 ?_
  refine lv_bipush (v := 6) hx hb dX8_passAll_113 (by decide) ?_
  refine kv (va_runV (As := [.ref (g.1 0 2), .int 6]) (rest := []) C0 (kX8_passRow l g A hA (up zS18 0 0 16 zr17) 2 6 6 (mAge g) (by decide) (by decide) (by decide) (kp_nn hkp (by omega)) (kp_row (m := 6) hkp (by decide) (by omega))) (cwV 2 hts (gV q1069 q1071 q43 q54 q1072) rfl rfl rfl (by decide +kernel) ⟨Nat.le_of_ble_eq_true rfl, Nat.le_of_ble_eq_true rfl⟩) (preV (recO (mMain g) hP hK rfl) hP hK) rfl rfl hl.1 rfl (lv_room (Nat.le_of_ble_eq_true rfl)) dX8_passAll_115 ⟨Nat.zero_le _, Nat.zero_le _⟩) hS (fun _ h => h) (fun zS19 H locs hw hP hS => ?_)
  have hf := hf.trans (bnd_eq hw)
  have hkp := row_kp (m := 6) (by decide) (by decide) hw hkp (by omega)
  refine lv_aload_n hx hb dX8_passAll_118 rfl (lv_at hl 0 rfl) ?_
  refine lv_aload_n hx hb dX8_passAll_119 rfl (lv_at hl 0 rfl) ?_
  refine gO (T := TX8) C0 inA8 hK hP (mMain g) rfl 3 (by decide) (hts _ q679) (v := .ref (g.1 0 3)) rfl dX8_passAll_120 ?_
  refine lv_bipush (v := 6) hx hb dX8_passAll_123 (by decide) ?_
  refine kv (va_runV (As := [.ref (g.1 0 3), .int 6]) (rest := []) C0 (kX8_passRow l g A hA zS19 3 6 6 (mWorth g) (by decide) (by decide) (by decide) (kp_nn hkp (by omega)) (kp_row (m := 6) hkp (by decide) (by omega))) (cwV 2 hts (gV q1069 q1071 q43 q54 q1072) rfl rfl rfl (by decide +kernel) ⟨Nat.le_of_ble_eq_true rfl, Nat.le_of_ble_eq_true rfl⟩) (preV (recO (mMain g) hP hK rfl) hP hK) rfl rfl hl.1 rfl (lv_room (Nat.le_of_ble_eq_true rfl)) dX8_passAll_125 ⟨Nat.zero_le _, Nat.zero_le _⟩) hS (fun _ h => h) (fun zS20 H locs hw hP hS => ?_)
  have hf := hf.trans (bnd_eq hw)
  have hkp := row_kp (m := 6) (by decide) (by decide) hw hkp (by omega)
  refine lv_aload_n hx hb dX8_passAll_128 rfl (lv_at hl 0 rfl) ?_
  refine lv_aload_n hx hb dX8_passAll_129 rfl (lv_at hl 0 rfl) ?_
  refine gO (T := TX8) C0 inA8 hK hP (mMain g) rfl 4 (by decide) (hts _ q680) (v := .ref (g.1 0 4)) rfl dX8_passAll_130 ?_
  refine lv_bipush (v := 6) hx hb dX8_passAll_133 (by decide) ?_
  refine kv (va_runV (As := [.ref (g.1 0 4), .int 6]) (rest := []) C0 (kX8_passRow l g A hA zS20 4 6 6 (mCrew g) (by decide) (by decide) (by decide) (kp_nn hkp (by omega)) (kp_row (m := 6) hkp (by decide) (by omega))) (cwV 2 hts (gV q1069 q1071 q43 q54 q1072) rfl rfl rfl (by decide +kernel) ⟨Nat.le_of_ble_eq_true rfl, Nat.le_of_ble_eq_true rfl⟩) (preV (recO (mMain g) hP hK rfl) hP hK) rfl rfl hl.1 rfl (lv_room (Nat.le_of_ble_eq_true rfl)) dX8_passAll_135 ⟨Nat.zero_le _, Nat.zero_le _⟩) hS (fun _ h => h) (fun zS21 H locs hw hP hS => ?_)
  have hf := hf.trans (bnd_eq hw)
  have hkp := row_kp (m := 6) (by decide) (by decide) hw hkp (by omega)
  refine lv_aload_n hx hb dX8_passAll_138 rfl (lv_at hl 0 rfl) ?_
  refine lv_aload_n hx hb dX8_passAll_139 rfl (lv_at hl 0 rfl) ?_
  refine gO (T := TX8) C0 inA8 hK hP (mMain g) rfl 5 (by decide) (hts _ q681) (v := .ref (g.1 0 5)) rfl dX8_passAll_140 ?_
  refine lv_bipush (v := 6) hx hb dX8_passAll_143 (by decide) ?_
  refine kv (va_runV (As := [.ref (g.1 0 5), .int 6]) (rest := []) C0 (kX8_passRow l g A hA zS21 5 6 6 (mLoads g) (by decide) (by decide) (by decide) (kp_nn hkp (by omega)) (kp_row (m := 6) hkp (by decide) (by omega))) (cwV 2 hts (gV q1069 q1071 q43 q54 q1072) rfl rfl rfl (by decide +kernel) ⟨Nat.le_of_ble_eq_true rfl, Nat.le_of_ble_eq_true rfl⟩) (preV (recO (mMain g) hP hK rfl) hP hK) rfl rfl hl.1 rfl (lv_room (Nat.le_of_ble_eq_true rfl)) dX8_passAll_145 ⟨Nat.zero_le _, Nat.zero_le _⟩) hS (fun _ h => h) (fun zS22 H locs hw hP hS => ?_)
  have hf := hf.trans (bnd_eq hw)
  have hkp := row_kp (m := 6) (by decide) (by decide) hw hkp (by omega)
  refine lv_aload_n hx hb dX8_passAll_148 rfl (lv_at hl 0 rfl) ?_
  refine lv_aload_n hx hb dX8_passAll_149 rfl (lv_at hl 0 rfl) ?_
  refine gO (T := TX8) C0 inA8 hK hP (mMain g) rfl 6 (by decide) (hts _ q682) (v := .ref (g.1 0 6)) rfl dX8_passAll_150 ?_
  refine lv_bipush (v := 18) hx hb dX8_passAll_153 (by decide) ?_
  refine kv (va_runV (As := [.ref (g.1 0 6), .int 18]) (rest := []) C0 (kX8_passRow l g A hA zS22 6 18 18 (mSums g) (by decide) (by decide) (by decide) (kp_nn hkp (by omega)) (kp_row (m := 18) hkp (by decide) (by omega))) (cwV 2 hts (gV q1069 q1071 q43 q54 q1072) rfl rfl rfl (by decide +kernel) ⟨Nat.le_of_ble_eq_true rfl, Nat.le_of_ble_eq_true rfl⟩) (preV (recO (mMain g) hP hK rfl) hP hK) rfl rfl hl.1 rfl (lv_room (Nat.le_of_ble_eq_true rfl)) dX8_passAll_155 ⟨Nat.zero_le _, Nat.zero_le _⟩) hS (fun _ h => h) (fun zS23 H locs hw hP hS => ?_)
  have hf := hf.trans (bnd_eq hw)
  have hkp := row_kp (m := 18) (by decide) (by decide) hw hkp (by omega)
  refine lv_aload_n hx hb dX8_passAll_158 rfl (lv_at hl 0 rfl) ?_
  refine lv_aload_n hx hb dX8_passAll_159 rfl (lv_at hl 0 rfl) ?_
  refine gO (T := TX8) C0 inA8 hK hP (mMain g) rfl 13 (by decide) (hts _ q689) (v := .ref (g.1 0 13)) rfl dX8_passAll_160 ?_
  refine lv_bipush (v := 8) hx hb dX8_passAll_163 (by decide) ?_
  refine kv (va_runV (As := [.ref (g.1 0 13), .int 8]) (rest := []) C0 (kX8_passRow l g A hA zS23 13 8 8 (mTOne g) (by decide) (by decide) (by decide) (kp_nn hkp (by omega)) (kp_row (m := 8) hkp (by decide) (by omega))) (cwV 2 hts (gV q1069 q1071 q43 q54 q1072) rfl rfl rfl (by decide +kernel) ⟨Nat.le_of_ble_eq_true rfl, Nat.le_of_ble_eq_true rfl⟩) (preV (recO (mMain g) hP hK rfl) hP hK) rfl rfl hl.1 rfl (lv_room (Nat.le_of_ble_eq_true rfl)) dX8_passAll_165 ⟨Nat.zero_le _, Nat.zero_le _⟩) hS (fun _ h => h) (fun zS24 H locs hw hP hS => ?_)
  have hf := hf.trans (bnd_eq hw)
  have hkp := row_kp (m := 8) (by decide) (by decide) hw hkp (by omega)
  refine lv_aload_n hx hb dX8_passAll_168 rfl (lv_at hl 0 rfl) ?_
  refine lv_aload_n hx hb dX8_passAll_169 rfl (lv_at hl 0 rfl) ?_
  refine gO (T := TX8) C0 inA8 hK hP (mMain g) rfl 14 (by decide) (hts _ q690) (v := .ref (g.1 0 14)) rfl dX8_passAll_170 ?_
  refine lv_bipush (v := 8) hx hb dX8_passAll_173 (by decide) ?_
  refine kv (va_runV (As := [.ref (g.1 0 14), .int 8]) (rest := []) C0 (kX8_passRow l g A hA zS24 14 8 8 (mTTwo g) (by decide) (by decide) (by decide) (kp_nn hkp (by omega)) (kp_row (m := 8) hkp (by decide) (by omega))) (cwV 2 hts (gV q1069 q1071 q43 q54 q1072) rfl rfl rfl (by decide +kernel) ⟨Nat.le_of_ble_eq_true rfl, Nat.le_of_ble_eq_true rfl⟩) (preV (recO (mMain g) hP hK rfl) hP hK) rfl rfl hl.1 rfl (lv_room (Nat.le_of_ble_eq_true rfl)) dX8_passAll_175 ⟨Nat.zero_le _, Nat.zero_le _⟩) hS (fun _ h => h) (fun zS25 H locs hw hP hS => ?_)
  have hf := hf.trans (bnd_eq hw)
  have hkp := row_kp (m := 8) (by decide) (by decide) hw hkp (by omega)
  refine lv_aload_n hx hb dX8_passAll_178 rfl (lv_at hl 0 rfl) ?_
  refine lv_aload_n hx hb dX8_passAll_179 rfl (lv_at hl 0 rfl) ?_
  refine gO (T := TX8) C0 inA8 hK hP (mMain g) rfl 15 (by decide) (hts _ q691) (v := .ref (g.1 0 15)) rfl dX8_passAll_180 ?_
  refine lv_bipush (v := 8) hx hb dX8_passAll_183 (by decide) ?_
  refine kv (va_runV (As := [.ref (g.1 0 15), .int 8]) (rest := []) C0 (kX8_passRow l g A hA zS25 15 8 8 (mTSame g) (by decide) (by decide) (by decide) (kp_nn hkp (by omega)) (kp_row (m := 8) hkp (by decide) (by omega))) (cwV 2 hts (gV q1069 q1071 q43 q54 q1072) rfl rfl rfl (by decide +kernel) ⟨Nat.le_of_ble_eq_true rfl, Nat.le_of_ble_eq_true rfl⟩) (preV (recO (mMain g) hP hK rfl) hP hK) rfl rfl hl.1 rfl (lv_room (Nat.le_of_ble_eq_true rfl)) dX8_passAll_185 ⟨Nat.zero_le _, Nat.zero_le _⟩) hS (fun _ h => h) (fun zS26 H locs hw hP hS => ?_)
  have hf := hf.trans (bnd_eq hw)
  have hkp := row_kp (m := 8) (by decide) (by decide) hw hkp (by omega)
  exact rv hQ C0 hr hlocks hK hP hS (by rw [← hF]; exact hf.symm) dX8_passAll_188
theorem im90 {p : Int32} (h : wj (Int32.toInt64 p) 0 1) : ¬ (90 * p) < 0 ∧ (90 * p).toNatClampNeg + 90 ≤ 180 := by
  obtain ⟨j, hj, rfl⟩ := vp_in_of (wj_in (N := 2) h (by decide) rfl) (by decide)
  rw [show (90 : Int32) * nI j = nI (90 * j) from pk_mul 90 j, nI_clamp (by omega)]
  exact ⟨nI_pos (by omega), by omega⟩
def tX8_image (S : St) (p1 : Int32) : Int32 × St :=
  (if wj (Int32.toInt64 p1) 0 1 then (bnd (tX8_passAll (up (up S 0 0 37 (90 * p1)) 0 0 38 1)) (fun zS3 => (1, (up zS3 0 36 (Int32.toNatClampNeg p1) 1)))) else ((-2), S))
set_option maxHeartbeats 4000000 in
set_option maxRecDepth 100000 in
theorem kX8_image (l : Launch) (g : Gd) (A : Nat → Prop) (hA : Ads g.1 VM A) (S : St) (p1 : Int32) : Met l yX8_image (wU yX8_image cX8_image 2 (some .int)) { frames := 3, cells := 0, slots := 0, locals := 65 } (va_Pc [.ref (g.1 0 0), .int p1] (PW VM ctM g S)) (va_Qi (fun r u => r = (tX8_image S p1).1 ∧ u = (tX8_image S p1).2) (fun u U => PW VM ctM g u U) A) 0 0 A := by
  refine ent (cc := cX8_image) (maxL := 2) (ret := (some .int)) (by decide) (Nat.le_of_ble_eq_true rfl) ?_
  intro p e s m below meth c args Q C0 hr hlocks hP hK hQ ls hl
  have hx := C0.1
  have hb := C0.2.1
  have hml := C0.2.2.1
  have hown := C0.2.2.2.1
  have hts := C0.2.2.2.2
  obtain ⟨F, hF⟩ : ∃ F : Int32 × St, F = tX8_image S p1 := ⟨_, rfl⟩
  have hf := hF
  unfold tX8_image at hf
  have hS : va_S A s.heap s.heap [] := va_S.rf
  have hl : lv_has ls 2 [(0, .ref (g.1 0 0)), (1, .int p1)] := hl
  refine lv_iload_n hx hb dX8_image_0 rfl (lv_at hl 1 rfl) ?_
  refine lv_i2l (v := (Int32.toInt64 p1)) hx hb dX8_image_1 rfl ?_
  refine lv_lconst (v := 0) hx hb dX8_image_2 (by decide) ?_
  refine lv_lconst (v := 1) hx hb dX8_image_3 (by decide) ?_
  refine kzc (va_runS (As := [.long (Int32.toInt64 p1), .long 0, .long 1]) (rest := []) C0 (kX8_in l g A hA S (Int32.toInt64 p1) 0 1) (va_cwS 3 hts (gS q799 q800 q54 q801) rfl rfl rfl (by decide +kernel) ⟨Nat.le_of_ble_eq_true rfl, Nat.le_of_ble_eq_true rfl⟩) (preS hP hK) rfl rfl hl.1 rfl (lv_room (Nat.le_of_ble_eq_true rfl)) dX8_image_4 ⟨Nat.zero_le _, Nat.zero_le _⟩) hS (fun _ h => h) (fun zc1 H locs hP hS => ?_) (fun zc1 H locs hP hS => ?_)
  · have hf := hf.trans (if_pos zc1)
    refine lv_if_ne (tgt := 13) hx hb dX8_image_7 (by decide) (fun zc2 => ?_) (fun zc2 => absurd zc2 (by decide))
    refine lv_aload_n hx hb dX8_image_13 rfl (lv_at hl 0 rfl) ?_
    refine lv_bipush (v := 90) hx hb dX8_image_14 (by decide) ?_
    refine lv_iload_n hx hb dX8_image_16 rfl (lv_at hl 1 rfl) ?_
    refine lv_imul hx hb dX8_image_17 ?_
    refine pO (T := TX8) (ty0 := tyX8) locM C0 inA8 tyX8_ok nmX8 hK hP hA hS (mMain g) rfl 37 (by decide) (hts _ q713) rfl 37 (90 * p1) rfl rfl rfl (Nat.le_of_ble_eq_true rfl) dX8_image_18 (fun H locs hP hS => ?_)
    refine lv_aload_n hx hb dX8_image_21 rfl (lv_at hl 0 rfl) ?_
    refine lv_iconst (v := 1) hx hb dX8_image_22 (by decide) ?_
    refine pO (T := TX8) (ty0 := tyX8) locM C0 inA8 tyX8_ok nmX8 hK hP hA hS (mMain g) rfl 38 (by decide) (hts _ q714) rfl 38 1 rfl rfl rfl (Nat.le_of_ble_eq_true rfl) dX8_image_23 (fun H locs hP hS => ?_)
    refine lv_aload_n hx hb dX8_image_26 rfl (lv_at hl 0 rfl) ?_
    refine kv (va_runV (As := []) (rest := []) C0 (kX8_passAll l g A hA (up (up S 0 0 37 (90 * p1)) 0 0 38 1)  (by rw [up_lo _ _ (by decide), up_at]; exact (im90 zc1).1) (by rw [up_lo _ _ (by decide), up_at]; exact (im90 zc1).2)) (cwV 0 hts (gV q1061 q1063 q41 q54 q1064) rfl rfl rfl (by decide +kernel) ⟨Nat.le_of_ble_eq_true rfl, Nat.le_of_ble_eq_true rfl⟩) (preV (recO (mMain g) hP hK rfl) hP hK) rfl rfl hl.1 rfl (lv_room (Nat.le_of_ble_eq_true rfl)) dX8_image_27 ⟨Nat.zero_le _, Nat.zero_le _⟩) hS (fun _ h => h) (fun zS3 H locs hw hP hS => ?_)
    have hf := hf.trans (bnd_eq hw)
    refine lv_aload_n hx hb dX8_image_30 rfl (lv_at hl 0 rfl) ?_
    refine gO (T := TX8) C0 inA8 hK hP (mMain g) rfl 36 (by decide) (hts _ q712) (v := .ref (g.1 0 36)) rfl dX8_image_31 ?_
    refine lv_iload_n hx hb dX8_image_34 rfl (lv_at hl 1 rfl) ?_
    refine lv_iconst (v := 1) hx hb dX8_image_35 (by decide) ?_
    refine pZ locM C0 hK hP hA hS (mIsKept g) (v := 1) (wj_in (N := 2) zc1 (by decide) rfl) dX8_image_36 (fun H locs hP hS => ?_)
    refine lv_iconst (v := 1) hx hb dX8_image_37 (by decide) ?_
    exact ri hQ C0 hr hlocks hK hP hS (by rw [← hF]; exact fin2 hf) dX8_image_38
  · have hf := hf.trans (if_neg zc1)
    refine lv_if_ne (tgt := 13) hx hb dX8_image_7 (by decide) (fun zc4 => absurd (by decide) zc4) (fun zc4 => ?_)
    refine lv_bipush (v := (-2)) hx hb dX8_image_10 (by decide) ?_
    exact ri hQ C0 hr hlocks hK hP hS (by rw [← hF]; exact fin2 hf) dX8_image_12
def tX8_restore (S : St) (p1 : Int32) : Int32 × St :=
  (if wj (Int32.toInt64 p1) 0 1 then (if (b01 (S.1 0 36 (Int32.toNatClampNeg p1))) = 0 then ((-3), S) else (bnd (tX8_passAll (up (up S 0 0 37 (90 * p1)) 0 0 38 0)) (fun zS4 => (1, zS4)))) else ((-2), S))
set_option maxHeartbeats 4000000 in
set_option maxRecDepth 100000 in
theorem kX8_restore (l : Launch) (g : Gd) (A : Nat → Prop) (hA : Ads g.1 VM A) (S : St) (p1 : Int32) : Met l yX8_restore (wU yX8_restore cX8_restore 2 (some .int)) { frames := 3, cells := 0, slots := 0, locals := 65 } (va_Pc [.ref (g.1 0 0), .int p1] (PW VM ctM g S)) (va_Qi (fun r u => r = (tX8_restore S p1).1 ∧ u = (tX8_restore S p1).2) (fun u U => PW VM ctM g u U) A) 0 0 A := by
  refine ent (cc := cX8_restore) (maxL := 2) (ret := (some .int)) (by decide) (Nat.le_of_ble_eq_true rfl) ?_
  intro p e s m below meth c args Q C0 hr hlocks hP hK hQ ls hl
  have hx := C0.1
  have hb := C0.2.1
  have hml := C0.2.2.1
  have hown := C0.2.2.2.1
  have hts := C0.2.2.2.2
  obtain ⟨F, hF⟩ : ∃ F : Int32 × St, F = tX8_restore S p1 := ⟨_, rfl⟩
  have hf := hF
  unfold tX8_restore at hf
  have hS : va_S A s.heap s.heap [] := va_S.rf
  have hl : lv_has ls 2 [(0, .ref (g.1 0 0)), (1, .int p1)] := hl
  refine lv_iload_n hx hb dX8_restore_0 rfl (lv_at hl 1 rfl) ?_
  refine lv_i2l (v := (Int32.toInt64 p1)) hx hb dX8_restore_1 rfl ?_
  refine lv_lconst (v := 0) hx hb dX8_restore_2 (by decide) ?_
  refine lv_lconst (v := 1) hx hb dX8_restore_3 (by decide) ?_
  refine kzc (va_runS (As := [.long (Int32.toInt64 p1), .long 0, .long 1]) (rest := []) C0 (kX8_in l g A hA S (Int32.toInt64 p1) 0 1) (va_cwS 3 hts (gS q799 q800 q54 q801) rfl rfl rfl (by decide +kernel) ⟨Nat.le_of_ble_eq_true rfl, Nat.le_of_ble_eq_true rfl⟩) (preS hP hK) rfl rfl hl.1 rfl (lv_room (Nat.le_of_ble_eq_true rfl)) dX8_restore_4 ⟨Nat.zero_le _, Nat.zero_le _⟩) hS (fun _ h => h) (fun zc1 H locs hP hS => ?_) (fun zc1 H locs hP hS => ?_)
  · have hf := hf.trans (if_pos zc1)
    refine lv_if_ne (tgt := 13) hx hb dX8_restore_7 (by decide) (fun zc2 => ?_) (fun zc2 => absurd zc2 (by decide))
    refine lv_aload_n hx hb dX8_restore_13 rfl (lv_at hl 0 rfl) ?_
    refine gO (T := TX8) C0 inA8 hK hP (mMain g) rfl 36 (by decide) (hts _ q712) (v := .ref (g.1 0 36)) rfl dX8_restore_14 ?_
    refine lv_iload_n hx hb dX8_restore_17 rfl (lv_at hl 1 rfl) ?_
    refine gZ C0 hK hP (mIsKept g) (wj_in (N := 2) zc1 (by decide) rfl) dX8_restore_18 ?_
    refine lv_if_ne (tgt := 25) hx hb dX8_restore_19 (by decide) (fun zc3 => ?_) (fun zc3 => ?_)
    · have hf := hf.trans (if_neg zc3)
      refine lv_aload_n hx hb dX8_restore_25 rfl (lv_at hl 0 rfl) ?_
      refine lv_bipush (v := 90) hx hb dX8_restore_26 (by decide) ?_
      refine lv_iload_n hx hb dX8_restore_28 rfl (lv_at hl 1 rfl) ?_
      refine lv_imul hx hb dX8_restore_29 ?_
      refine pO (T := TX8) (ty0 := tyX8) locM C0 inA8 tyX8_ok nmX8 hK hP hA hS (mMain g) rfl 37 (by decide) (hts _ q713) rfl 37 (90 * p1) rfl rfl rfl (Nat.le_of_ble_eq_true rfl) dX8_restore_30 (fun H locs hP hS => ?_)
      refine lv_aload_n hx hb dX8_restore_33 rfl (lv_at hl 0 rfl) ?_
      refine lv_iconst (v := 0) hx hb dX8_restore_34 (by decide) ?_
      refine pO (T := TX8) (ty0 := tyX8) locM C0 inA8 tyX8_ok nmX8 hK hP hA hS (mMain g) rfl 38 (by decide) (hts _ q714) rfl 38 0 rfl rfl rfl (Nat.le_of_ble_eq_true rfl) dX8_restore_35 (fun H locs hP hS => ?_)
      refine lv_aload_n hx hb dX8_restore_38 rfl (lv_at hl 0 rfl) ?_
      refine kv (va_runV (As := []) (rest := []) C0 (kX8_passAll l g A hA (up (up S 0 0 37 (90 * p1)) 0 0 38 0)  (by rw [up_lo _ _ (by decide), up_at]; exact (im90 zc1).1) (by rw [up_lo _ _ (by decide), up_at]; exact (im90 zc1).2)) (cwV 0 hts (gV q1061 q1063 q41 q54 q1064) rfl rfl rfl (by decide +kernel) ⟨Nat.le_of_ble_eq_true rfl, Nat.le_of_ble_eq_true rfl⟩) (preV (recO (mMain g) hP hK rfl) hP hK) rfl rfl hl.1 rfl (lv_room (Nat.le_of_ble_eq_true rfl)) dX8_restore_39 ⟨Nat.zero_le _, Nat.zero_le _⟩) hS (fun _ h => h) (fun zS4 H locs hw hP hS => ?_)
      have hf := hf.trans (bnd_eq hw)
      refine lv_iconst (v := 1) hx hb dX8_restore_42 (by decide) ?_
      exact ri hQ C0 hr hlocks hK hP hS (by rw [← hF]; exact fin2 hf) dX8_restore_43
    · have hf := hf.trans (if_pos zc3)
      refine lv_bipush (v := (-3)) hx hb dX8_restore_22 (by decide) ?_
      exact ri hQ C0 hr hlocks hK hP hS (by rw [← hF]; exact fin2 hf) dX8_restore_24
  · have hf := hf.trans (if_neg zc1)
    refine lv_if_ne (tgt := 13) hx hb dX8_restore_7 (by decide) (fun zc5 => absurd (by decide) zc5) (fun zc5 => ?_)
    refine lv_bipush (v := (-2)) hx hb dX8_restore_10 (by decide) ?_
    exact ri hQ C0 hr hlocks hK hP hS (by rw [← hF]; exact fin2 hf) dX8_restore_12
theorem told_in {k v : Int32} (hk : vp_in k 6) (h : v = 2 ∨ v = 3 ∨ v = 4) : vp_in (((3 * k) + v) - 2) 18 := by
  obtain ⟨j, hj, rfl⟩ := vp_in_of hk (by decide)
  rw [show (3 : Int32) * nI j = nI (3 * j) from pk_mul 3 j]
  rcases h with rfl | rfl | rfl
  · rw [show (2 : Int32) = nI 2 from rfl, nI_add, pk_sub (by omega)]; exact vp_in_nI (by omega) (by decide)
  · rw [show (2 : Int32) = nI 2 from rfl, show (3 : Int32) = nI 3 from rfl, nI_add, pk_sub (by omega)]; exact vp_in_nI (by omega) (by decide)
  · rw [show (2 : Int32) = nI 2 from rfl, show (4 : Int32) = nI 4 from rfl, nI_add, pk_sub (by omega)]; exact vp_in_nI (by omega) (by decide)
def tX8_toldOf (S : St) (p1 : Int32) (p2 : Int32) : Int32 :=
  (if mSh S p1 then (if p2 = 0 then (S.1 0 2 (Int32.toNatClampNeg p1)) else (if p2 = 1 then (S.1 0 3 (Int32.toNatClampNeg p1)) else (if p2 = 2 then (S.1 0 6 (Int32.toNatClampNeg (((3 * p1) + p2) - 2))) else (if p2 = 3 then (S.1 0 6 (Int32.toNatClampNeg (((3 * p1) + p2) - 2))) else (if p2 = 4 then (S.1 0 6 (Int32.toNatClampNeg (((3 * p1) + p2) - 2))) else (if p2 = 5 then (S.1 0 5 (Int32.toNatClampNeg p1)) else (if p2 = 6 then (S.1 0 4 (Int32.toNatClampNeg p1)) else (if p2 = 7 then ((ishrF (S.1 0 0 1) p1) &&& 1) else (-2))))))))) else (-2))
set_option maxHeartbeats 4000000 in
set_option maxRecDepth 100000 in
theorem kX8_toldOf (l : Launch) (g : Gd) (A : Nat → Prop) (hA : Ads g.1 VM A) (S : St) (p1 : Int32) (p2 : Int32) : Met l yX8_toldOf (wU yX8_toldOf cX8_toldOf 3 (some .int)) { frames := 2, cells := 0, slots := 0, locals := 46 } (va_Pc [.ref (g.1 0 0), .int p1, .int p2] (PW VM ctM g S)) (va_Qi (fun r u => r = tX8_toldOf S p1 p2 ∧ u = S) (fun u U => PW VM ctM g u U) A) 0 0 A := by
  refine ent (cc := cX8_toldOf) (maxL := 3) (ret := (some .int)) (by decide) (Nat.le_of_ble_eq_true rfl) ?_
  intro p e s m below meth c args Q C0 hr hlocks hP hK hQ ls hl
  have hx := C0.1
  have hb := C0.2.1
  have hml := C0.2.2.1
  have hown := C0.2.2.2.1
  have hts := C0.2.2.2.2
  obtain ⟨F, hF⟩ : ∃ F : Int32, F = tX8_toldOf S p1 p2 := ⟨_, rfl⟩
  have hf := hF
  unfold tX8_toldOf at hf
  have hS : va_S A s.heap s.heap [] := va_S.rf
  have hl : lv_has ls 3 [(0, .ref (g.1 0 0)), (1, .int p1), (2, .int p2)] := hl
  refine lv_aload_n hx hb dX8_toldOf_0 rfl (lv_at hl 0 rfl) ?_
  refine lv_iload_n hx hb dX8_toldOf_1 rfl (lv_at hl 1 rfl) ?_
  refine kzc (va_runV (As := [.int p1]) (rest := []) C0 (kX8_isShip l g A hA S p1) (cwV 1 hts (gV q812 q814 q13 q54 q815) rfl rfl rfl (by decide +kernel) ⟨Nat.le_of_ble_eq_true rfl, Nat.le_of_ble_eq_true rfl⟩) (preV (recO (mMain g) hP hK rfl) hP hK) rfl rfl hl.1 rfl (lv_room (Nat.le_of_ble_eq_true rfl)) dX8_toldOf_2 ⟨Nat.zero_le _, Nat.zero_le _⟩) hS (fun _ h => h) (fun zc1 H locs hP hS => ?_) (fun zc1 H locs hP hS => ?_)
  · have hf := hf.trans (if_pos zc1)
    refine lv_if_ne (tgt := 11) hx hb dX8_toldOf_5 (by decide) (fun zc2 => ?_) (fun zc2 => absurd zc2 (by decide))
    refine lv_iload_n hx hb dX8_toldOf_11 rfl (lv_at hl 2 rfl) ?_
    by_cases zc3 : p2 = 0
    · have hf := hf.trans (if_pos zc3)
      refine lv_tableIn (off := 48) (tgt := 60) hx hb dX8_toldOf_12 (by rw [zc3]; decide) (by rw [zc3]; decide) (by rw [zc3]; decide) (by decide) ?_
      refine lv_aload_n hx hb dX8_toldOf_60 rfl (lv_at hl 0 rfl) ?_
      refine gO (T := TX8) C0 inA8 hK hP (mMain g) rfl 2 (by decide) (hts _ q678) (v := .ref (g.1 0 2)) rfl dX8_toldOf_61 ?_
      refine lv_iload_n hx hb dX8_toldOf_64 rfl (lv_at hl 1 rfl) ?_
      refine gI C0 hK hP (mAge g) (mSh_in zc1) dX8_toldOf_65 ?_
      exact ri hQ C0 hr hlocks hK hP hS (by rw [← hF]; exact ⟨hf.symm, rfl⟩) dX8_toldOf_66
    · have hf := hf.trans (if_neg zc3)
      by_cases zc4 : p2 = 1
      · have hf := hf.trans (if_pos zc4)
        refine lv_tableIn (off := 55) (tgt := 67) hx hb dX8_toldOf_12 (by rw [zc4]; decide) (by rw [zc4]; decide) (by rw [zc4]; decide) (by decide) ?_
        refine lv_aload_n hx hb dX8_toldOf_67 rfl (lv_at hl 0 rfl) ?_
        refine gO (T := TX8) C0 inA8 hK hP (mMain g) rfl 3 (by decide) (hts _ q679) (v := .ref (g.1 0 3)) rfl dX8_toldOf_68 ?_
        refine lv_iload_n hx hb dX8_toldOf_71 rfl (lv_at hl 1 rfl) ?_
        refine gI C0 hK hP (mWorth g) (mSh_in zc1) dX8_toldOf_72 ?_
        exact ri hQ C0 hr hlocks hK hP hS (by rw [← hF]; exact ⟨hf.symm, rfl⟩) dX8_toldOf_73
      · have hf := hf.trans (if_neg zc4)
        by_cases zc5 : p2 = 2
        · have hf := hf.trans (if_pos zc5)
          refine lv_tableIn (off := 62) (tgt := 74) hx hb dX8_toldOf_12 (by rw [zc5]; decide) (by rw [zc5]; decide) (by rw [zc5]; decide) (by decide) ?_
          refine lv_aload_n hx hb dX8_toldOf_74 rfl (lv_at hl 0 rfl) ?_
          refine gO (T := TX8) C0 inA8 hK hP (mMain g) rfl 6 (by decide) (hts _ q682) (v := .ref (g.1 0 6)) rfl dX8_toldOf_75 ?_
          refine lv_iconst (v := 3) hx hb dX8_toldOf_78 (by decide) ?_
          refine lv_iload_n hx hb dX8_toldOf_79 rfl (lv_at hl 1 rfl) ?_
          refine lv_imul hx hb dX8_toldOf_80 ?_
          refine lv_iload_n hx hb dX8_toldOf_81 rfl (lv_at hl 2 rfl) ?_
          refine lv_iadd hx hb dX8_toldOf_82 ?_
          refine lv_iconst (v := 2) hx hb dX8_toldOf_83 (by decide) ?_
          refine lv_isub hx hb dX8_toldOf_84 ?_
          refine gI C0 hK hP (mSums g) (told_in (mSh_in zc1) (Or.inl zc5)) dX8_toldOf_85 ?_
          exact ri hQ C0 hr hlocks hK hP hS (by rw [← hF]; exact ⟨hf.symm, rfl⟩) dX8_toldOf_86
        · have hf := hf.trans (if_neg zc5)
          by_cases zc6 : p2 = 3
          · have hf := hf.trans (if_pos zc6)
            refine lv_tableIn (off := 62) (tgt := 74) hx hb dX8_toldOf_12 (by rw [zc6]; decide) (by rw [zc6]; decide) (by rw [zc6]; decide) (by decide) ?_
            refine lv_aload_n hx hb dX8_toldOf_74 rfl (lv_at hl 0 rfl) ?_
            refine gO (T := TX8) C0 inA8 hK hP (mMain g) rfl 6 (by decide) (hts _ q682) (v := .ref (g.1 0 6)) rfl dX8_toldOf_75 ?_
            refine lv_iconst (v := 3) hx hb dX8_toldOf_78 (by decide) ?_
            refine lv_iload_n hx hb dX8_toldOf_79 rfl (lv_at hl 1 rfl) ?_
            refine lv_imul hx hb dX8_toldOf_80 ?_
            refine lv_iload_n hx hb dX8_toldOf_81 rfl (lv_at hl 2 rfl) ?_
            refine lv_iadd hx hb dX8_toldOf_82 ?_
            refine lv_iconst (v := 2) hx hb dX8_toldOf_83 (by decide) ?_
            refine lv_isub hx hb dX8_toldOf_84 ?_
            refine gI C0 hK hP (mSums g) (told_in (mSh_in zc1) (Or.inr (Or.inl zc6))) dX8_toldOf_85 ?_
            exact ri hQ C0 hr hlocks hK hP hS (by rw [← hF]; exact ⟨hf.symm, rfl⟩) dX8_toldOf_86
          · have hf := hf.trans (if_neg zc6)
            by_cases zc7 : p2 = 4
            · have hf := hf.trans (if_pos zc7)
              refine lv_tableIn (off := 62) (tgt := 74) hx hb dX8_toldOf_12 (by rw [zc7]; decide) (by rw [zc7]; decide) (by rw [zc7]; decide) (by decide) ?_
              refine lv_aload_n hx hb dX8_toldOf_74 rfl (lv_at hl 0 rfl) ?_
              refine gO (T := TX8) C0 inA8 hK hP (mMain g) rfl 6 (by decide) (hts _ q682) (v := .ref (g.1 0 6)) rfl dX8_toldOf_75 ?_
              refine lv_iconst (v := 3) hx hb dX8_toldOf_78 (by decide) ?_
              refine lv_iload_n hx hb dX8_toldOf_79 rfl (lv_at hl 1 rfl) ?_
              refine lv_imul hx hb dX8_toldOf_80 ?_
              refine lv_iload_n hx hb dX8_toldOf_81 rfl (lv_at hl 2 rfl) ?_
              refine lv_iadd hx hb dX8_toldOf_82 ?_
              refine lv_iconst (v := 2) hx hb dX8_toldOf_83 (by decide) ?_
              refine lv_isub hx hb dX8_toldOf_84 ?_
              refine gI C0 hK hP (mSums g) (told_in (mSh_in zc1) (Or.inr (Or.inr zc7))) dX8_toldOf_85 ?_
              exact ri hQ C0 hr hlocks hK hP hS (by rw [← hF]; exact ⟨hf.symm, rfl⟩) dX8_toldOf_86
            · have hf := hf.trans (if_neg zc7)
              by_cases zc8 : p2 = 5
              · have hf := hf.trans (if_pos zc8)
                refine lv_tableIn (off := 75) (tgt := 87) hx hb dX8_toldOf_12 (by rw [zc8]; decide) (by rw [zc8]; decide) (by rw [zc8]; decide) (by decide) ?_
                refine lv_aload_n hx hb dX8_toldOf_87 rfl (lv_at hl 0 rfl) ?_
                refine gO (T := TX8) C0 inA8 hK hP (mMain g) rfl 5 (by decide) (hts _ q681) (v := .ref (g.1 0 5)) rfl dX8_toldOf_88 ?_
                refine lv_iload_n hx hb dX8_toldOf_91 rfl (lv_at hl 1 rfl) ?_
                refine gI C0 hK hP (mLoads g) (mSh_in zc1) dX8_toldOf_92 ?_
                exact ri hQ C0 hr hlocks hK hP hS (by rw [← hF]; exact ⟨hf.symm, rfl⟩) dX8_toldOf_93
              · have hf := hf.trans (if_neg zc8)
                by_cases zc9 : p2 = 6
                · have hf := hf.trans (if_pos zc9)
                  refine lv_tableIn (off := 82) (tgt := 94) hx hb dX8_toldOf_12 (by rw [zc9]; decide) (by rw [zc9]; decide) (by rw [zc9]; decide) (by decide) ?_
                  refine lv_aload_n hx hb dX8_toldOf_94 rfl (lv_at hl 0 rfl) ?_
                  refine gO (T := TX8) C0 inA8 hK hP (mMain g) rfl 4 (by decide) (hts _ q680) (v := .ref (g.1 0 4)) rfl dX8_toldOf_95 ?_
                  refine lv_iload_n hx hb dX8_toldOf_98 rfl (lv_at hl 1 rfl) ?_
                  refine gI C0 hK hP (mCrew g) (mSh_in zc1) dX8_toldOf_99 ?_
                  exact ri hQ C0 hr hlocks hK hP hS (by rw [← hF]; exact ⟨hf.symm, rfl⟩) dX8_toldOf_100
                · have hf := hf.trans (if_neg zc9)
                  by_cases zc10 : p2 = 7
                  · have hf := hf.trans (if_pos zc10)
                    refine lv_tableIn (off := 89) (tgt := 101) hx hb dX8_toldOf_12 (by rw [zc10]; decide) (by rw [zc10]; decide) (by rw [zc10]; decide) (by decide) ?_
                    refine lv_aload_n hx hb dX8_toldOf_101 rfl (lv_at hl 0 rfl) ?_
                    refine gO (T := TX8) C0 inA8 hK hP (mMain g) rfl 1 (by decide) (hts _ q677) (v := .int (S.1 0 0 1)) rfl dX8_toldOf_102 ?_
                    refine lv_iload_n hx hb dX8_toldOf_105 rfl (lv_at hl 1 rfl) ?_
                    refine kishr hx hb dX8_toldOf_106 ?_
                    refine lv_iconst (v := 1) hx hb dX8_toldOf_107 (by decide) ?_
                    refine lv_iand hx hb dX8_toldOf_108 ?_
                    exact ri hQ C0 hr hlocks hK hP hS (by rw [← hF]; exact ⟨hf.symm, rfl⟩) dX8_toldOf_109
                  · have hf := hf.trans (if_neg zc10)
                    refine lv_tableOut (tgt := 110) hx hb dX8_toldOf_12 (by have h0 := lv_neT (a := 0) zc3 (by decide); have h1 := lv_neT (a := 1) zc4 (by decide); have h2 := lv_neT (a := 2) zc5 (by decide); have h3 := lv_neT (a := 3) zc6 (by decide); have h4 := lv_neT (a := 4) zc7 (by decide); have h5 := lv_neT (a := 5) zc8 (by decide); have h6 := lv_neT (a := 6) zc9 (by decide); have h7 := lv_neT (a := 7) zc10 (by decide); omega) (by decide) ?_
                    refine lv_bipush (v := (-2)) hx hb dX8_toldOf_110 (by decide) ?_
                    exact ri hQ C0 hr hlocks hK hP hS (by rw [← hF]; exact ⟨hf.symm, rfl⟩) dX8_toldOf_112
  · have hf := hf.trans (if_neg zc1)
    refine lv_if_ne (tgt := 11) hx hb dX8_toldOf_5 (by decide) (fun zc11 => absurd (by decide) zc11) (fun zc11 => ?_)
    refine lv_bipush (v := (-2)) hx hb dX8_toldOf_8 (by decide) ?_
    exact ri hQ C0 hr hlocks hK hP hS (by rw [← hF]; exact ⟨hf.symm, rfl⟩) dX8_toldOf_10
def tX8_told (S : St) (p1 : Int32) : Int32 :=
  (if wj (Int32.toInt64 p1) 10 69 then (tX8_toldOf S ((p1 / 10) - 1) (irm p1 10)) else (if p1 = 0 then (S.1 0 0 18) else (if p1 = 1 then (S.1 0 0 0) else (if p1 = 2 then (S.1 0 0 7) else (if p1 = 3 then (S.1 0 0 8) else (if p1 = 4 then (S.1 0 0 9) else (if p1 = 5 then (S.1 0 0 10) else (if p1 = 6 then (S.1 0 0 16) else (if p1 = 7 then (S.1 0 0 12) else (if p1 = 8 then ((S.1 0 0 11) + 100000) else (-2)))))))))))
set_option maxHeartbeats 4000000 in
set_option maxRecDepth 100000 in
theorem kX8_told (l : Launch) (g : Gd) (A : Nat → Prop) (hA : Ads g.1 VM A) (S : St) (p1 : Int32) : Met l yX8_told (wU yX8_told cX8_told 2 (some .int)) { frames := 3, cells := 0, slots := 0, locals := 68 } (va_Pc [.ref (g.1 0 0), .int p1] (PW VM ctM g S)) (va_Qi (fun r u => r = tX8_told S p1 ∧ u = S) (fun u U => PW VM ctM g u U) A) 0 0 A := by
  refine ent (cc := cX8_told) (maxL := 2) (ret := (some .int)) (by decide) (Nat.le_of_ble_eq_true rfl) ?_
  intro p e s m below meth c args Q C0 hr hlocks hP hK hQ ls hl
  have hx := C0.1
  have hb := C0.2.1
  have hml := C0.2.2.1
  have hown := C0.2.2.2.1
  have hts := C0.2.2.2.2
  obtain ⟨F, hF⟩ : ∃ F : Int32, F = tX8_told S p1 := ⟨_, rfl⟩
  have hf := hF
  unfold tX8_told at hf
  have hS : va_S A s.heap s.heap [] := va_S.rf
  have hl : lv_has ls 2 [(0, .ref (g.1 0 0)), (1, .int p1)] := hl
  refine lv_iload_n hx hb dX8_told_0 rfl (lv_at hl 1 rfl) ?_
  refine lv_i2l (v := (Int32.toInt64 p1)) hx hb dX8_told_1 rfl ?_
  refine lv_ldc2 (v := 10) hx hb hown (hts _ q1081) dX8_told_2 ?_
  refine lv_ldc2 (v := 69) hx hb hown (hts _ q1082) dX8_told_5 ?_
  refine kzc (va_runS (As := [.long (Int32.toInt64 p1), .long 10, .long 69]) (rest := []) C0 (kX8_in l g A hA S (Int32.toInt64 p1) 10 69) (va_cwS 3 hts (gS q799 q800 q54 q801) rfl rfl rfl (by decide +kernel) ⟨Nat.le_of_ble_eq_true rfl, Nat.le_of_ble_eq_true rfl⟩) (preS hP hK) rfl rfl hl.1 rfl (lv_room (Nat.le_of_ble_eq_true rfl)) dX8_told_8 ⟨Nat.zero_le _, Nat.zero_le _⟩) hS (fun _ h => h) (fun zc1 H locs hP hS => ?_) (fun zc1 H locs hP hS => ?_)
  · have hf := hf.trans (if_pos zc1)
    refine lv_if_eq (tgt := 29) hx hb dX8_told_11 (by decide) (fun zc2 => absurd zc2 (by decide)) (fun zc2 => ?_)
    refine lv_aload_n hx hb dX8_told_14 rfl (lv_at hl 0 rfl) ?_
    refine lv_iload_n hx hb dX8_told_15 rfl (lv_at hl 1 rfl) ?_
    refine lv_bipush (v := 10) hx hb dX8_told_16 (by decide) ?_
    refine lv_idiv hx hb dX8_told_18 (by decide) ?_
    refine lv_iconst (v := 1) hx hb dX8_told_19 (by decide) ?_
    refine lv_isub hx hb dX8_told_20 ?_
    refine lv_iload_n hx hb dX8_told_21 rfl (lv_at hl 1 rfl) ?_
    refine lv_bipush (v := 10) hx hb dX8_told_22 (by decide) ?_
    refine kirem hx hb dX8_told_24 (by decide) ?_
    refine kiP (va_runV (As := [.int ((p1 / 10) - 1), .int (irm p1 10)]) (rest := []) C0 (kX8_toldOf l g A hA S ((p1 / 10) - 1) (irm p1 10)) (cwV 2 hts (gV q1083 q1085 q44 q54 q1086) rfl rfl rfl (by decide +kernel) ⟨Nat.le_of_ble_eq_true rfl, Nat.le_of_ble_eq_true rfl⟩) (preV (recO (mMain g) hP hK rfl) hP hK) rfl rfl hl.1 rfl (lv_room (Nat.le_of_ble_eq_true rfl)) dX8_told_25 ⟨Nat.zero_le _, Nat.zero_le _⟩) hS (fun _ h => h) (fun H locs hP hS => ?_)
    exact ri hQ C0 hr hlocks hK hP hS (by rw [← hF]; exact ⟨hf.symm, rfl⟩) dX8_told_28
  · have hf := hf.trans (if_neg zc1)
    refine lv_if_eq (tgt := 29) hx hb dX8_told_11 (by decide) (fun zc3 => ?_) (fun zc3 => absurd (by decide) zc3)
    refine lv_iload_n hx hb dX8_told_29 rfl (lv_at hl 1 rfl) ?_
    by_cases zc4 : p1 = 0
    · have hf := hf.trans (if_pos zc4)
      refine lv_tableIn (off := 50) (tgt := 80) hx hb dX8_told_30 (by rw [zc4]; decide) (by rw [zc4]; decide) (by rw [zc4]; decide) (by decide) ?_
      refine lv_aload_n hx hb dX8_told_80 rfl (lv_at hl 0 rfl) ?_
      refine gO (T := TX8) C0 inA8 hK hP (mMain g) rfl 18 (by decide) (hts _ q694) (v := .int (S.1 0 0 18)) rfl dX8_told_81 ?_
      exact ri hQ C0 hr hlocks hK hP hS (by rw [← hF]; exact ⟨hf.symm, rfl⟩) dX8_told_84
    · have hf := hf.trans (if_neg zc4)
      by_cases zc5 : p1 = 1
      · have hf := hf.trans (if_pos zc5)
        refine lv_tableIn (off := 55) (tgt := 85) hx hb dX8_told_30 (by rw [zc5]; decide) (by rw [zc5]; decide) (by rw [zc5]; decide) (by decide) ?_
        refine lv_aload_n hx hb dX8_told_85 rfl (lv_at hl 0 rfl) ?_
        refine gO (T := TX8) C0 inA8 hK hP (mMain g) rfl 0 (by decide) (hts _ q676) (v := .int (S.1 0 0 0)) rfl dX8_told_86 ?_
        exact ri hQ C0 hr hlocks hK hP hS (by rw [← hF]; exact ⟨hf.symm, rfl⟩) dX8_told_89
      · have hf := hf.trans (if_neg zc5)
        by_cases zc6 : p1 = 2
        · have hf := hf.trans (if_pos zc6)
          refine lv_tableIn (off := 60) (tgt := 90) hx hb dX8_told_30 (by rw [zc6]; decide) (by rw [zc6]; decide) (by rw [zc6]; decide) (by decide) ?_
          refine lv_aload_n hx hb dX8_told_90 rfl (lv_at hl 0 rfl) ?_
          refine gO (T := TX8) C0 inA8 hK hP (mMain g) rfl 7 (by decide) (hts _ q683) (v := .int (S.1 0 0 7)) rfl dX8_told_91 ?_
          exact ri hQ C0 hr hlocks hK hP hS (by rw [← hF]; exact ⟨hf.symm, rfl⟩) dX8_told_94
        · have hf := hf.trans (if_neg zc6)
          by_cases zc7 : p1 = 3
          · have hf := hf.trans (if_pos zc7)
            refine lv_tableIn (off := 65) (tgt := 95) hx hb dX8_told_30 (by rw [zc7]; decide) (by rw [zc7]; decide) (by rw [zc7]; decide) (by decide) ?_
            refine lv_aload_n hx hb dX8_told_95 rfl (lv_at hl 0 rfl) ?_
            refine gO (T := TX8) C0 inA8 hK hP (mMain g) rfl 8 (by decide) (hts _ q684) (v := .int (S.1 0 0 8)) rfl dX8_told_96 ?_
            exact ri hQ C0 hr hlocks hK hP hS (by rw [← hF]; exact ⟨hf.symm, rfl⟩) dX8_told_99
          · have hf := hf.trans (if_neg zc7)
            by_cases zc8 : p1 = 4
            · have hf := hf.trans (if_pos zc8)
              refine lv_tableIn (off := 70) (tgt := 100) hx hb dX8_told_30 (by rw [zc8]; decide) (by rw [zc8]; decide) (by rw [zc8]; decide) (by decide) ?_
              refine lv_aload_n hx hb dX8_told_100 rfl (lv_at hl 0 rfl) ?_
              refine gO (T := TX8) C0 inA8 hK hP (mMain g) rfl 9 (by decide) (hts _ q685) (v := .int (S.1 0 0 9)) rfl dX8_told_101 ?_
              exact ri hQ C0 hr hlocks hK hP hS (by rw [← hF]; exact ⟨hf.symm, rfl⟩) dX8_told_104
            · have hf := hf.trans (if_neg zc8)
              by_cases zc9 : p1 = 5
              · have hf := hf.trans (if_pos zc9)
                refine lv_tableIn (off := 75) (tgt := 105) hx hb dX8_told_30 (by rw [zc9]; decide) (by rw [zc9]; decide) (by rw [zc9]; decide) (by decide) ?_
                refine lv_aload_n hx hb dX8_told_105 rfl (lv_at hl 0 rfl) ?_
                refine gO (T := TX8) C0 inA8 hK hP (mMain g) rfl 10 (by decide) (hts _ q686) (v := .int (S.1 0 0 10)) rfl dX8_told_106 ?_
                exact ri hQ C0 hr hlocks hK hP hS (by rw [← hF]; exact ⟨hf.symm, rfl⟩) dX8_told_109
              · have hf := hf.trans (if_neg zc9)
                by_cases zc10 : p1 = 6
                · have hf := hf.trans (if_pos zc10)
                  refine lv_tableIn (off := 80) (tgt := 110) hx hb dX8_told_30 (by rw [zc10]; decide) (by rw [zc10]; decide) (by rw [zc10]; decide) (by decide) ?_
                  refine lv_aload_n hx hb dX8_told_110 rfl (lv_at hl 0 rfl) ?_
                  refine gO (T := TX8) C0 inA8 hK hP (mMain g) rfl 16 (by decide) (hts _ q692) (v := .int (S.1 0 0 16)) rfl dX8_told_111 ?_
                  exact ri hQ C0 hr hlocks hK hP hS (by rw [← hF]; exact ⟨hf.symm, rfl⟩) dX8_told_114
                · have hf := hf.trans (if_neg zc10)
                  by_cases zc11 : p1 = 7
                  · have hf := hf.trans (if_pos zc11)
                    refine lv_tableIn (off := 85) (tgt := 115) hx hb dX8_told_30 (by rw [zc11]; decide) (by rw [zc11]; decide) (by rw [zc11]; decide) (by decide) ?_
                    refine lv_aload_n hx hb dX8_told_115 rfl (lv_at hl 0 rfl) ?_
                    refine gO (T := TX8) C0 inA8 hK hP (mMain g) rfl 12 (by decide) (hts _ q688) (v := .int (S.1 0 0 12)) rfl dX8_told_116 ?_
                    exact ri hQ C0 hr hlocks hK hP hS (by rw [← hF]; exact ⟨hf.symm, rfl⟩) dX8_told_119
                  · have hf := hf.trans (if_neg zc11)
                    by_cases zc12 : p1 = 8
                    · have hf := hf.trans (if_pos zc12)
                      refine lv_tableIn (off := 90) (tgt := 120) hx hb dX8_told_30 (by rw [zc12]; decide) (by rw [zc12]; decide) (by rw [zc12]; decide) (by decide) ?_
                      refine lv_aload_n hx hb dX8_told_120 rfl (lv_at hl 0 rfl) ?_
                      refine gO (T := TX8) C0 inA8 hK hP (mMain g) rfl 11 (by decide) (hts _ q687) (v := .int (S.1 0 0 11)) rfl dX8_told_121 ?_
                      refine lv_ldc (v := 100000) hx hb hown (hts _ q928) dX8_told_124 ?_
                      refine lv_iadd hx hb dX8_told_126 ?_
                      exact ri hQ C0 hr hlocks hK hP hS (by rw [← hF]; exact ⟨hf.symm, rfl⟩) dX8_told_127
                    · have hf := hf.trans (if_neg zc12)
                      refine lv_tableOut (tgt := 128) hx hb dX8_told_30 (by have h0 := lv_neT (a := 0) zc4 (by decide); have h1 := lv_neT (a := 1) zc5 (by decide); have h2 := lv_neT (a := 2) zc6 (by decide); have h3 := lv_neT (a := 3) zc7 (by decide); have h4 := lv_neT (a := 4) zc8 (by decide); have h5 := lv_neT (a := 5) zc9 (by decide); have h6 := lv_neT (a := 6) zc10 (by decide); have h7 := lv_neT (a := 7) zc11 (by decide); have h8 := lv_neT (a := 8) zc12 (by decide); omega) (by decide) ?_
                      refine lv_bipush (v := (-2)) hx hb dX8_told_128 (by decide) ?_
                      exact ri hQ C0 hr hlocks hK hP hS (by rw [← hF]; exact ⟨hf.symm, rfl⟩) dX8_told_130
