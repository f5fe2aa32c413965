def tX1_firstNameOf (S : St) (p1 : Int32) : Int32 :=
  (if p1 < 0 then 0 else (if 8 ≤ p1 then 0 else (S.1 9 1 (Int32.toNatClampNeg p1))))
set_option maxHeartbeats 4000000 in
set_option maxRecDepth 100000 in
theorem kX1_firstNameOf (l : Launch) (g : Gd) (A : Nat → Prop) (hA : Ads g.1 VX A) (S : St) (p1 : Int32) : Met l yX1_firstNameOf (wU yX1_firstNameOf cX1_firstNameOf 2 (some .int)) { frames := 0, cells := 0, slots := 0, locals := 0 } (va_Pc [.ref (g.1 9 0), .int p1] (PW VX ctX g S)) (va_Qi (fun r u => r = tX1_firstNameOf S p1 ∧ u = S) (fun u U => PW VX ctX g u U) A) 0 0 A := by
  refine ent (cc := cX1_firstNameOf) (maxL := 2) (ret := (some .int)) (by decide) (Nat.le_of_ble_eq_true rfl) ?_
  intro p e s m below meth c args Q C0 hr hlocks hP hK hQ ls hl
  have hx := C0.1
  have hb := C0.2.1
  have hml := C0.2.2.1
  have hown := C0.2.2.2.1
  have hts := C0.2.2.2.2
  obtain ⟨F, hF⟩ : ∃ F : Int32, F = tX1_firstNameOf S p1 := ⟨_, rfl⟩
  have hf := hF
  unfold tX1_firstNameOf at hf
  have hS : va_S A s.heap s.heap [] := va_S.rf
  have hl : lv_has ls 2 [(0, .ref (g.1 9 0)), (1, .int p1)] := hl
  refine lv_iload_n hx hb dX1_firstNameOf_0 rfl (lv_at hl 1 rfl) ?_
  refine lv_if_lt (tgt := 19) hx hb dX1_firstNameOf_1 (by decide) (fun zc1 => ?_) (fun zc1 => ?_)
  · have hf := hf.trans (if_pos zc1)
    refine lv_iconst (v := 0) hx hb dX1_firstNameOf_19 (by decide) ?_
    exact ri hQ C0 hr hlocks hK hP hS (by rw [← hF]; exact ⟨hf.symm, rfl⟩) dX1_firstNameOf_20
  · have hf := hf.trans (if_neg zc1)
    refine lv_iload_n hx hb dX1_firstNameOf_4 rfl (lv_at hl 1 rfl) ?_
    refine lv_bipush (v := 8) hx hb dX1_firstNameOf_5 (by decide) ?_
    refine lv_icmp_ge (tgt := 19) hx hb dX1_firstNameOf_7 (by decide) (fun zc2 => ?_) (fun zc2 => ?_)
    · have hf := hf.trans (if_pos zc2)
      refine lv_iconst (v := 0) hx hb dX1_firstNameOf_19 (by decide) ?_
      exact ri hQ C0 hr hlocks hK hP hS (by rw [← hF]; exact ⟨hf.symm, rfl⟩) dX1_firstNameOf_20
    · have hf := hf.trans (if_neg zc2)
      refine lv_aload_n hx hb dX1_firstNameOf_10 rfl (lv_at hl 0 rfl) ?_
      refine gO (T := TX1) C0 inA1 hK hP (xNam g) rfl 0 (by decide) (hts _ q222) (v := .ref (g.1 9 1)) rfl dX1_firstNameOf_11 ?_
      refine lv_iload_n hx hb dX1_firstNameOf_14 rfl (lv_at hl 1 rfl) ?_
      refine gI C0 hK hP (xFirsts g) (vpx (N := 8) zc1 zc2 rfl (by decide)) dX1_firstNameOf_15 ?_
      refine lv_goto (tgt := 20) hx hb dX1_firstNameOf_16 (by decide) ?_
      exact ri hQ C0 hr hlocks hK hP hS (by rw [← hF]; exact ⟨hf.symm, rfl⟩) dX1_firstNameOf_20
theorem tX1_areTwo_tree (g : Gd) (S : St) (p1 : Int32) (p2 : Int32) : ((if art S p1 p2 then 1 else 0) : Int32) =
  (if p1 < 0 then 0 else (if 8 ≤ p1 then 0 else (if ((ishrF (S.1 9 2 (Int32.toNatClampNeg p1)) p2) &&& 1) = 1 then 1 else 0))) := by
  repeat' split
  all_goals first | rfl | (simp_all; done) | (exfalso; simp only [wi, plc, ikc, art, Int32.lt_iff_toInt_lt, Int32.le_iff_toInt_le, ti0, ti1, ti2, ti3, ti6, ti8] at *; omega)
set_option maxHeartbeats 4000000 in
set_option maxRecDepth 100000 in
theorem kX1_areTwo (l : Launch) (g : Gd) (A : Nat → Prop) (hA : Ads g.1 VX A) (S : St) (p1 : Int32) (p2 : Int32) : Met l yX1_areTwo (wU yX1_areTwo cX1_areTwo 3 (some .boolean)) { frames := 0, cells := 0, slots := 0, locals := 0 } (va_Pc [.ref (g.1 9 0), .int p1, .int p2] (PW VX ctX g S)) (va_Qi (fun r u => r = (if art S p1 p2 then 1 else 0) ∧ u = S) (fun u U => PW VX ctX g u U) A) 0 0 A := by
  refine ent (cc := cX1_areTwo) (maxL := 3) (ret := (some .boolean)) (by decide) (Nat.le_of_ble_eq_true rfl) ?_
  intro p e s m below meth c args Q C0 hr hlocks hP hK hQ ls hl
  have hx := C0.1
  have hb := C0.2.1
  have hml := C0.2.2.1
  have hown := C0.2.2.2.1
  have hts := C0.2.2.2.2
  obtain ⟨F, hF⟩ : ∃ F : Int32, F = (if art S p1 p2 then 1 else 0) := ⟨_, rfl⟩
  have hf := hF
  rw [tX1_areTwo_tree g S p1 p2] at hf
  have hS : va_S A s.heap s.heap [] := va_S.rf
  have hl : lv_has ls 3 [(0, .ref (g.1 9 0)), (1, .int p1), (2, .int p2)] := hl
  refine lv_iload_n hx hb dX1_areTwo_0 rfl (lv_at hl 1 rfl) ?_
  refine lv_if_lt (tgt := 28) hx hb dX1_areTwo_1 (by decide) (fun zc1 => ?_) (fun zc1 => ?_)
  · have hf := hf.trans (if_pos zc1)
    refine lv_iconst (v := 0) hx hb dX1_areTwo_28 (by decide) ?_
    exact rz hQ C0 hr hlocks hK hP hS rfl (by rw [← hF]; exact ⟨hf.symm, rfl⟩) dX1_areTwo_29
  · have hf := hf.trans (if_neg zc1)
    refine lv_iload_n hx hb dX1_areTwo_4 rfl (lv_at hl 1 rfl) ?_
    refine lv_bipush (v := 8) hx hb dX1_areTwo_5 (by decide) ?_
    refine lv_icmp_ge (tgt := 28) hx hb dX1_areTwo_7 (by decide) (fun zc2 => ?_) (fun zc2 => ?_)
    · have hf := hf.trans (if_pos zc2)
      refine lv_iconst (v := 0) hx hb dX1_areTwo_28 (by decide) ?_
      exact rz hQ C0 hr hlocks hK hP hS rfl (by rw [← hF]; exact ⟨hf.symm, rfl⟩) dX1_areTwo_29
    · have hf := hf.trans (if_neg zc2)
      refine lv_aload_n hx hb dX1_areTwo_10 rfl (lv_at hl 0 rfl) ?_
      refine gO (T := TX1) C0 inA1 hK hP (xNam g) rfl 1 (by decide) (hts _ q223) (v := .ref (g.1 9 2)) rfl dX1_areTwo_11 ?_
      refine lv_iload_n hx hb dX1_areTwo_14 rfl (lv_at hl 1 rfl) ?_
      refine gI C0 hK hP (xOthers g) (vpx (N := 8) zc1 zc2 rfl (by decide)) dX1_areTwo_15 ?_
      refine lv_iload_n hx hb dX1_areTwo_16 rfl (lv_at hl 2 rfl) ?_
      refine kishr hx hb dX1_areTwo_17 ?_
      refine lv_iconst (v := 1) hx hb dX1_areTwo_18 (by decide) ?_
      refine lv_iand hx hb dX1_areTwo_19 ?_
      refine lv_iconst (v := 1) hx hb dX1_areTwo_20 (by decide) ?_
      refine lv_icmp_ne (tgt := 28) hx hb dX1_areTwo_21 (by decide) (fun zc3 => ?_) (fun zc3 => ?_)
      · have hf := hf.trans (if_neg zc3)
        refine lv_iconst (v := 0) hx hb dX1_areTwo_28 (by decide) ?_
        exact rz hQ C0 hr hlocks hK hP hS rfl (by rw [← hF]; exact ⟨hf.symm, rfl⟩) dX1_areTwo_29
      · have hf := hf.trans (if_pos zc3)
        refine lv_iconst (v := 1) hx hb dX1_areTwo_24 (by decide) ?_
        refine lv_goto (tgt := 29) hx hb dX1_areTwo_25 (by decide) ?_
        exact rz hQ C0 hr hlocks hK hP hS rfl (by rw [← hF]; exact ⟨hf.symm, rfl⟩) dX1_areTwo_29
def tX1_partNames (S : St) (p1 : Int32) (p2 : Int32) : St :=
  (if wi p1 0 7 then (if wi p2 0 7 then (bnd (((up S 9 2 (Int32.toNatClampNeg p1) ((S.1 9 2 (Int32.toNatClampNeg p1)) ||| (ishlF 1 p2))).1 9 2 (Int32.toNatClampNeg p2)) ||| (ishlF 1 p1)) (fun zx5 => (bnd (up (up S 9 2 (Int32.toNatClampNeg p1) ((S.1 9 2 (Int32.toNatClampNeg p1)) ||| (ishlF 1 p2))) 9 2 (Int32.toNatClampNeg p2) zx5) (fun zS6 => zS6)))) else S) else S)
set_option maxHeartbeats 4000000 in
set_option maxRecDepth 100000 in
theorem kX1_partNames (l : Launch) (g : Gd) (A : Nat → Prop) (hA : Ads g.1 VX A) (S : St) (p1 : Int32) (p2 : Int32) : Met l yX1_partNames (wU yX1_partNames cX1_partNames 3 none) { frames := 1, cells := 0, slots := 0, locals := 22 } (va_Pc [.ref (g.1 9 0), .int p1, .int p2] (PW VX ctX g S)) (va_Qv (fun u => u = tX1_partNames S p1 p2) (fun u U => PW VX ctX g u U) A) 0 0 A := by
  refine ent (cc := cX1_partNames) (maxL := 3) (ret := none) (by decide) (Nat.le_of_ble_eq_true rfl) ?_
  intro p e s m below meth c args Q C0 hr hlocks hP hK hQ ls hl
  have hx := C0.1
  have hb := C0.2.1
  have hml := C0.2.2.1
  have hown := C0.2.2.2.1
  have hts := C0.2.2.2.2
  obtain ⟨F, hF⟩ : ∃ F : St, F = tX1_partNames S p1 p2 := ⟨_, rfl⟩
  have hf := hF
  unfold tX1_partNames at hf
  have hS : va_S A s.heap s.heap [] := va_S.rf
  have hl : lv_has ls 3 [(0, .ref (g.1 9 0)), (1, .int p1), (2, .int p2)] := hl
  refine lv_iload_n hx hb dX1_partNames_0 rfl (lv_at hl 1 rfl) ?_
  refine lv_iconst (v := 0) hx hb dX1_partNames_1 (by decide) ?_
  refine lv_bipush (v := 7) hx hb dX1_partNames_2 (by decide) ?_
  refine kzc (va_runSN (As := [.int p1, .int 0, .int 7]) (rest := []) C0 (kX7_within l g A hA S p1 0 7) ⟨va_cnB 3 hts (gU q299) rfl rfl rfl hK.2.2 (hts _ q46) (by decide +kernel) ⟨Nat.le_of_ble_eq_true rfl, Nat.le_of_ble_eq_true rfl⟩, hts _ q298, trivial⟩ (preS hP hK) rfl rfl hl.1 rfl (lv_room (Nat.le_of_ble_eq_true rfl)) dX1_partNames_4 ⟨Nat.zero_le _, Nat.zero_le _⟩) hS (fun _ h => h) (fun zc1 H locs hP hS => ?_) (fun zc1 H locs hP hS => ?_)
  · have hf := hf.trans (if_pos zc1)
    refine lv_if_eq (tgt := 44) hx hb dX1_partNames_7 (by decide) (fun zc2 => absurd zc2 (by decide)) (fun zc2 => ?_)
    refine lv_iload_n hx hb dX1_partNames_10 rfl (lv_at hl 2 rfl) ?_
    refine lv_iconst (v := 0) hx hb dX1_partNames_11 (by decide) ?_
    refine lv_bipush (v := 7) hx hb dX1_partNames_12 (by decide) ?_
    refine kzc (va_runSN (As := [.int p2, .int 0, .int 7]) (rest := []) C0 (kX7_within l g A hA S p2 0 7) ⟨va_cnB 3 hts (gU q299) rfl rfl rfl hK.2.2 (hts _ q46) (by decide +kernel) ⟨Nat.le_of_ble_eq_true rfl, Nat.le_of_ble_eq_true rfl⟩, hts _ q298, trivial⟩ (preS hP hK) rfl rfl hl.1 rfl (lv_room (Nat.le_of_ble_eq_true rfl)) dX1_partNames_14 ⟨Nat.zero_le _, Nat.zero_le _⟩) hS (fun _ h => h) (fun zc3 H locs hP hS => ?_) (fun zc3 H locs hP hS => ?_)
    · have hf := hf.trans (if_pos zc3)
      refine lv_if_eq (tgt := 44) hx hb dX1_partNames_17 (by decide) (fun zc4 => absurd zc4 (by decide)) (fun zc4 => ?_)
      refine lv_aload_n hx hb dX1_partNames_20 rfl (lv_at hl 0 rfl) ?_
      refine gO (T := TX1) C0 inA1 hK hP (xNam g) rfl 1 (by decide) (hts _ q223) (v := .ref (g.1 9 2)) rfl dX1_partNames_21 ?_
      refine lv_iload_n hx hb dX1_partNames_24 rfl (lv_at hl 1 rfl) ?_
      refine lv_dup2_11 hx hb dX1_partNames_25 rfl rfl ?_
      refine gI C0 hK hP (xOthers g) (vpw (N := 8) zc1 (by decide) rfl (by decide)) dX1_partNames_26 ?_
      refine lv_iconst (v := 1) hx hb dX1_partNames_27 (by decide) ?_
      refine lv_iload_n hx hb dX1_partNames_28 rfl (lv_at hl 2 rfl) ?_
      refine kishl hx hb dX1_partNames_29 ?_
      refine lv_ior hx hb dX1_partNames_30 ?_
      refine pI locX C0 hK hP hA hS (xOthers g) (vpw (N := 8) zc1 (by decide) rfl (by decide)) dX1_partNames_31 (fun H locs hP hS => ?_)
      refine lv_aload_n hx hb dX1_partNames_32 rfl (lv_at hl 0 rfl) ?_
      refine gO (T := TX1) C0 inA1 hK hP (xNam g) rfl 1 (by decide) (hts _ q223) (v := .ref (g.1 9 2)) rfl dX1_partNames_33 ?_
      refine lv_iload_n hx hb dX1_partNames_36 rfl (lv_at hl 2 rfl) ?_
      refine lv_dup2_11 hx hb dX1_partNames_37 rfl rfl ?_
      refine gI C0 hK hP (xOthers g) (vpw (N := 8) zc3 (by decide) rfl (by decide)) dX1_partNames_38 ?_
      refine lv_iconst (v := 1) hx hb dX1_partNames_39 (by decide) ?_
      refine lv_iload_n hx hb dX1_partNames_40 rfl (lv_at hl 1 rfl) ?_
      refine kishl hx hb dX1_partNames_41 ?_
      refine lv_ior hx hb dX1_partNames_42 ?_
      refine lv_topi (fun zx5 hzx5 => ?_)
      have hf := hf.trans (bnd_eq hzx5)
      refine pI locX C0 hK hP hA hS (xOthers g) (vpw (N := 8) zc3 (by decide) rfl (by decide)) dX1_partNames_43 (fun H locs hP hS => ?_)
      obtain ⟨zS6, hzS6⟩ : ∃ z : St, z = (up (up S 9 2 (Int32.toNatClampNeg p1) ((S.1 9 2 (Int32.toNatClampNeg p1)) ||| (ishlF 1 p2))) 9 2 (Int32.toNatClampNeg p2) zx5) := ⟨_, rfl⟩
      rw [← hzS6] at hP
      have hf := hf.trans (bnd_eq hzS6)
      exact rv hQ C0 hr hlocks hK hP hS (by rw [← hF]; exact hf.symm) dX1_partNames_44
    · have hf := hf.trans (if_neg zc3)
      refine lv_if_eq (tgt := 44) hx hb dX1_partNames_17 (by decide) (fun zc7 => ?_) (fun zc7 => absurd (by decide) zc7)
      exact rv hQ C0 hr hlocks hK hP hS (by rw [← hF]; exact hf.symm) dX1_partNames_44
  · have hf := hf.trans (if_neg zc1)
    refine lv_if_eq (tgt := 44) hx hb dX1_partNames_7 (by decide) (fun zc8 => ?_) (fun zc8 => absurd (by decide) zc8)
    exact rv hQ C0 hr hlocks hK hP hS (by rw [← hF]; exact hf.symm) dX1_partNames_44
def LX1_joinNames_2 (S : St) (p1 : Int32) (p2 : Int32) : Nat → Nat → St → St
  | 0, zi1, zS3 => zS3
  | zk2 + 1, zi1, zS3 => (if (zS3.1 9 1 zi1) = p2 then (if art (up zS3 9 1 zi1 p1) p2 (nI zi1) then (bnd (tX1_partNames (up zS3 9 1 zi1 p1) p1 (nI zi1)) (fun zS13 => (LX1_joinNames_2 S p1 p2 zk2 (zi1 + 1) zS13))) else (LX1_joinNames_2 S p1 p2 zk2 (zi1 + 1) (up zS3 9 1 zi1 p1))) else (if art zS3 p2 (nI zi1) then (bnd (tX1_partNames zS3 p1 (nI zi1)) (fun zS9 => (LX1_joinNames_2 S p1 p2 zk2 (zi1 + 1) zS9))) else (LX1_joinNames_2 S p1 p2 zk2 (zi1 + 1) zS3)))
def tX1_joinNames (S : St) (p1 : Int32) (p2 : Int32) : St :=
  (LX1_joinNames_2 S p1 p2 8 0 S)
set_option maxHeartbeats 4000000 in
set_option maxRecDepth 100000 in
theorem kX1_joinNames (l : Launch) (g : Gd) (A : Nat → Prop) (hA : Ads g.1 VX A) (S : St) (p1 : Int32) (p2 : Int32) : Met l yX1_joinNames (wU yX1_joinNames cX1_joinNames 4 none) { frames := 2, cells := 0, slots := 0, locals := 44 } (va_Pc [.ref (g.1 9 0), .int p1, .int p2] (PW VX ctX g S)) (va_Qv (fun u => u = tX1_joinNames S p1 p2) (fun u U => PW VX ctX g u U) A) 0 0 A := by
  refine ent (cc := cX1_joinNames) (maxL := 4) (ret := none) (by decide) (Nat.le_of_ble_eq_true rfl) ?_
  intro p e s m below meth c args Q C0 hr hlocks hP hK hQ ls hl
  have hx := C0.1
  have hb := C0.2.1
  have hml := C0.2.2.1
  have hown := C0.2.2.2.1
  have hts := C0.2.2.2.2
  obtain ⟨F, hF⟩ : ∃ F : St, F = tX1_joinNames S p1 p2 := ⟨_, rfl⟩
  have hf := hF
  unfold tX1_joinNames at hf
  have hS : va_S A s.heap s.heap [] := va_S.rf
  have hl : lv_has ls 4 [(0, .ref (g.1 9 0)), (1, .int p1), (2, .int p2)] := hl
  refine lv_iconst (v := 0) hx hb dX1_joinNames_0 (by decide) ?_
  refine lv_istore_n (lv' := [(3, .int 0), (0, .ref (g.1 9 0)), (1, .int p1), (2, .int p2)]) hx hb dX1_joinNames_1 rfl hl (by decide) rfl (fun ls hl => ?_)
  have lp2 : ∀ (zk2 zi1 : Nat) (zS3 : St) (H : Heap) (locs : List Loc), (zi1 + zk2 = 8) → (F = LX1_joinNames_2 S p1 p2 zk2 zi1 zS3) → HW VX ctX g zS3 H → va_S A s.heap H locs → ∀ ls : Array Slot, lv_has ls 4 [(3, .int (nI zi1)), (0, .ref (g.1 9 0)), (1, .int p1), (2, .int p2)] → W p l e { frames := 2, cells := 0, slots := 0, locals := 44 } s m args below meth c H locs 0 0 Q (F0 m 2 ls []) := by
    intro zk2
    induction zk2 with
    | zero =>
      intro zi1 zS3 H locs hik hf hP hS ls hl
      rw [LX1_joinNames_2] at hf
      refine lv_iload_n hx hb dX1_joinNames_2 rfl (lv_at hl 0 rfl) ?_
      refine lv_bipush (v := 8) hx hb dX1_joinNames_3 (by decide) ?_
      refine lv_icmp_ge (tgt := 46) hx hb dX1_joinNames_5 (by decide) (fun zc4 => ?_) (fun zc4 => absurd (up_ge0 rfl hik (by decide)) zc4)
      exact rv hQ C0 hr hlocks hK hP hS (by rw [← hF]; exact hf.symm) dX1_joinNames_46
    | succ zk2 ih2 =>
      intro zi1 zS3 H locs hik hf hP hS ls hl
      rw [LX1_joinNames_2] at hf
      refine lv_iload_n hx hb dX1_joinNames_2 rfl (lv_at hl 0 rfl) ?_
      refine lv_bipush (v := 8) hx hb dX1_joinNames_3 (by decide) ?_
      refine lv_icmp_ge (tgt := 46) hx hb dX1_joinNames_5 (by decide) (fun zc5 => absurd zc5 (up_ge1 rfl hik (by decide))) (fun zc5 => ?_)
      refine lv_aload_n hx hb dX1_joinNames_8 rfl (lv_at hl 1 rfl) ?_
      refine gO (T := TX1) C0 inA1 hK hP (xNam g) rfl 0 (by decide) (hts _ q222) (v := .ref (g.1 9 1)) rfl dX1_joinNames_9 ?_
      refine lv_iload_n hx hb dX1_joinNames_12 rfl (lv_at hl 0 rfl) ?_
      refine gI C0 hK hP (xFirsts g) (vp_in_nI (by omega) (by decide)) dX1_joinNames_13 ?_
      rw [nI_clamp (n := zi1) (by omega)]
      refine lv_iload_n hx hb dX1_joinNames_14 rfl (lv_at hl 3 rfl) ?_
      refine lv_icmp_ne (tgt := 25) hx hb dX1_joinNames_15 (by decide) (fun zc6 => ?_) (fun zc6 => ?_)
      · have hf := hf.trans (if_neg zc6)
        refine lv_aload_n hx hb dX1_joinNames_25 rfl (lv_at hl 1 rfl) ?_
        refine lv_iload_n hx hb dX1_joinNames_26 rfl (lv_at hl 3 rfl) ?_
        refine lv_iload_n hx hb dX1_joinNames_27 rfl (lv_at hl 0 rfl) ?_
        refine kzc (va_runV (As := [.int p2, .int (nI zi1)]) (rest := []) C0 (kX1_areTwo l g A hA zS3 p2 (nI zi1)) (cwV 2 hts (gV q589 q591 q8 q52 q592) rfl rfl rfl (by decide +kernel) ⟨Nat.le_of_ble_eq_true rfl, Nat.le_of_ble_eq_true rfl⟩) (preV (recO (xNam g) hP hK rfl) hP hK) rfl rfl hl.1 rfl (lv_room (Nat.le_of_ble_eq_true rfl)) dX1_joinNames_28 ⟨Nat.zero_le _, Nat.zero_le _⟩) hS (fun _ h => h) (fun zc7 H locs hP hS => ?_) (fun zc7 H locs hP hS => ?_)
        · have hf := hf.trans (if_pos zc7)
          refine lv_if_eq (tgt := 40) hx hb dX1_joinNames_31 (by decide) (fun zc8 => absurd zc8 (by decide)) (fun zc8 => ?_)
          refine lv_aload_n hx hb dX1_joinNames_34 rfl (lv_at hl 1 rfl) ?_
          refine lv_iload_n hx hb dX1_joinNames_35 rfl (lv_at hl 2 rfl) ?_
          refine lv_iload_n hx hb dX1_joinNames_36 rfl (lv_at hl 0 rfl) ?_
          refine kv (va_runV (As := [.int p1, .int (nI zi1)]) (rest := []) C0 (kX1_partNames l g A hA zS3 p1 (nI zi1)) (cwV 2 hts (gV q593 q595 q9 q52 q596) rfl rfl rfl (by decide +kernel) ⟨Nat.le_of_ble_eq_true rfl, Nat.le_of_ble_eq_true rfl⟩) (preV (recO (xNam g) hP hK rfl) hP hK) rfl rfl hl.1 rfl (lv_room (Nat.le_of_ble_eq_true rfl)) dX1_joinNames_37 ⟨Nat.zero_le _, Nat.zero_le _⟩) hS (fun _ h => h) (fun zS9 H locs hw hP hS => ?_)
          have hf := hf.trans (bnd_eq hw)
          refine lv_iinc (v := (nI (zi1 + 1))) (lv' := [(3, .int (nI (zi1 + 1))), (0, .ref (g.1 9 0)), (1, .int p1), (2, .int p2)]) hx hb dX1_joinNames_40 hl (k := 0) rfl (nI_1 _) (by decide) rfl (fun ls hl => ?_)
          refine lv_goto (tgt := 2) hx hb dX1_joinNames_43 (by decide) ?_
          exact ih2 (zi1 + 1) zS9 _ _ (by omega) hf hP hS ls (lv_sub hl [0, 1, 2, 3] rfl)
        · have hf := hf.trans (if_neg zc7)
          refine lv_if_eq (tgt := 40) hx hb dX1_joinNames_31 (by decide) (fun zc10 => ?_) (fun zc10 => absurd (by decide) zc10)
          refine lv_iinc (v := (nI (zi1 + 1))) (lv' := [(3, .int (nI (zi1 + 1))), (0, .ref (g.1 9 0)), (1, .int p1), (2, .int p2)]) hx hb dX1_joinNames_40 hl (k := 0) rfl (nI_1 _) (by decide) rfl (fun ls hl => ?_)
          refine lv_goto (tgt := 2) hx hb dX1_joinNames_43 (by decide) ?_
          exact ih2 (zi1 + 1) zS3 _ _ (by omega) hf hP hS ls (lv_sub hl [0, 1, 2, 3] rfl)
      · have hf := hf.trans (if_pos zc6)
        refine lv_aload_n hx hb dX1_joinNames_18 rfl (lv_at hl 1 rfl) ?_
        refine gO (T := TX1) C0 inA1 hK hP (xNam g) rfl 0 (by decide) (hts _ q222) (v := .ref (g.1 9 1)) rfl dX1_joinNames_19 ?_
        refine lv_iload_n hx hb dX1_joinNames_22 rfl (lv_at hl 0 rfl) ?_
        refine lv_iload_n hx hb dX1_joinNames_23 rfl (lv_at hl 2 rfl) ?_
        refine pI locX C0 hK hP hA hS (xFirsts g) (vp_in_nI (by omega) (by decide)) dX1_joinNames_24 (fun H locs hP hS => ?_)
        rw [nI_clamp (n := zi1) (by omega)] at hP
        refine lv_aload_n hx hb dX1_joinNames_25 rfl (lv_at hl 1 rfl) ?_
        refine lv_iload_n hx hb dX1_joinNames_26 rfl (lv_at hl 3 rfl) ?_
        refine lv_iload_n hx hb dX1_joinNames_27 rfl (lv_at hl 0 rfl) ?_
        refine kzc (va_runV (As := [.int p2, .int (nI zi1)]) (rest := []) C0 (kX1_areTwo l g A hA (up zS3 9 1 zi1 p1) p2 (nI zi1)) (cwV 2 hts (gV q589 q591 q8 q52 q592) rfl rfl rfl (by decide +kernel) ⟨Nat.le_of_ble_eq_true rfl, Nat.le_of_ble_eq_true rfl⟩) (preV (recO (xNam g) hP hK rfl) hP hK) rfl rfl hl.1 rfl (lv_room (Nat.le_of_ble_eq_true rfl)) dX1_joinNames_28 ⟨Nat.zero_le _, Nat.zero_le _⟩) hS (fun _ h => h) (fun zc11 H locs hP hS => ?_) (fun zc11 H locs hP hS => ?_)
        · have hf := hf.trans (if_pos zc11)
          refine lv_if_eq (tgt := 40) hx hb dX1_joinNames_31 (by decide) (fun zc12 => absurd zc12 (by decide)) (fun zc12 => ?_)
          refine lv_aload_n hx hb dX1_joinNames_34 rfl (lv_at hl 1 rfl) ?_
          refine lv_iload_n hx hb dX1_joinNames_35 rfl (lv_at hl 2 rfl) ?_
          refine lv_iload_n hx hb dX1_joinNames_36 rfl (lv_at hl 0 rfl) ?_
          refine kv (va_runV (As := [.int p1, .int (nI zi1)]) (rest := []) C0 (kX1_partNames l g A hA (up zS3 9 1 zi1 p1) p1 (nI zi1)) (cwV 2 hts (gV q593 q595 q9 q52 q596) rfl rfl rfl (by decide +kernel) ⟨Nat.le_of_ble_eq_true rfl, Nat.le_of_ble_eq_true rfl⟩) (preV (recO (xNam g) hP hK rfl) hP hK) rfl rfl hl.1 rfl (lv_room (Nat.le_of_ble_eq_true rfl)) dX1_joinNames_37 ⟨Nat.zero_le _, Nat.zero_le _⟩) hS (fun _ h => h) (fun zS13 H locs hw hP hS => ?_)
          have hf := hf.trans (bnd_eq hw)
          refine lv_iinc (v := (nI (zi1 + 1))) (lv' := [(3, .int (nI (zi1 + 1))), (0, .ref (g.1 9 0)), (1, .int p1), (2, .int p2)]) hx hb dX1_joinNames_40 hl (k := 0) rfl (nI_1 _) (by decide) rfl (fun ls hl => ?_)
          refine lv_goto (tgt := 2) hx hb dX1_joinNames_43 (by decide) ?_
          exact ih2 (zi1 + 1) zS13 _ _ (by omega) hf hP hS ls (lv_sub hl [0, 1, 2, 3] rfl)
        · have hf := hf.trans (if_neg zc11)
          refine lv_if_eq (tgt := 40) hx hb dX1_joinNames_31 (by decide) (fun zc14 => ?_) (fun zc14 => absurd (by decide) zc14)
          refine lv_iinc (v := (nI (zi1 + 1))) (lv' := [(3, .int (nI (zi1 + 1))), (0, .ref (g.1 9 0)), (1, .int p1), (2, .int p2)]) hx hb dX1_joinNames_40 hl (k := 0) rfl (nI_1 _) (by decide) rfl (fun ls hl => ?_)
          refine lv_goto (tgt := 2) hx hb dX1_joinNames_43 (by decide) ?_
          exact ih2 (zi1 + 1) (up zS3 9 1 zi1 p1) _ _ (by omega) hf hP hS ls (lv_sub hl [0, 1, 2, 3] rfl)
  exact lp2 8 0 S _ _ (by decide) hf hP hS ls (lv_sub hl [0, 1, 2, 3] rfl)
def tX1_takes (S : St) (p1 : Int32) (p2 : Int32) (p3 : Int32) : Int32 × St :=
  (if (tX1_firstNameOf S p1) = (tX1_firstNameOf S p2) then (if art S (tX1_firstNameOf S p1) (tX1_firstNameOf S p2) then (if (b01 p3) = 0 then (0, S) else (0, S)) else (if (b01 p3) = 0 then (0, S) else (1, S))) else (if art S (tX1_firstNameOf S p1) (tX1_firstNameOf S p2) then (if (b01 p3) = 0 then (bnd (tX1_partNames S (tX1_firstNameOf S p1) (tX1_firstNameOf S p2)) (fun zS6 => (1, zS6))) else (0, S)) else (if (b01 p3) = 0 then (bnd (tX1_partNames S (tX1_firstNameOf S p1) (tX1_firstNameOf S p2)) (fun zS11 => (1, zS11))) else (bnd (tX1_joinNames S (if (tX1_firstNameOf S p2) < (tX1_firstNameOf S p1) then (tX1_firstNameOf S p2) else (tX1_firstNameOf S p1)) (if (tX1_firstNameOf S p1) < (tX1_firstNameOf S p2) then (tX1_firstNameOf S p2) else (tX1_firstNameOf S p1))) (fun zS15 => (1, zS15))))))
set_option maxHeartbeats 4000000 in
set_option maxRecDepth 100000 in
theorem kX1_takes (l : Launch) (g : Gd) (A : Nat → Prop) (hA : Ads g.1 VX A) (S : St) (p1 : Int32) (p2 : Int32) (p3 : Int32) : Met l yX1_takes (wU yX1_takes cX1_takes 8 (some .boolean)) { frames := 3, cells := 0, slots := 0, locals := 67 } (va_Pc [.ref (g.1 9 0), .int p1, .int p2, .int (b01 p3)] (PW VX ctX g S)) (va_Qi (fun r u => r = (tX1_takes S p1 p2 p3).1 ∧ u = (tX1_takes S p1 p2 p3).2) (fun u U => PW VX ctX g u U) A) 0 0 A := by
  refine ent (cc := cX1_takes) (maxL := 8) (ret := (some .boolean)) (by decide) (Nat.le_of_ble_eq_true rfl) ?_
  intro p e s m below meth c args Q C0 hr hlocks hP hK hQ ls hl
  have hx := C0.1
  have hb := C0.2.1
  have hml := C0.2.2.1
  have hown := C0.2.2.2.1
  have hts := C0.2.2.2.2
  obtain ⟨F, hF⟩ : ∃ F : Int32 × St, F = tX1_takes S p1 p2 p3 := ⟨_, rfl⟩
  have hf := hF
  unfold tX1_takes at hf
  have hS : va_S A s.heap s.heap [] := va_S.rf
  have hl : lv_has ls 8 [(0, .ref (g.1 9 0)), (1, .int p1), (2, .int p2), (3, .int (b01 p3))] := hl
  refine lv_aload_n hx hb dX1_takes_0 rfl (lv_at hl 0 rfl) ?_
  refine lv_iload_n hx hb dX1_takes_1 rfl (lv_at hl 1 rfl) ?_
  refine kiP (va_runV (As := [.int p1]) (rest := []) C0 (kX1_firstNameOf l g A hA S p1) (cwV 1 hts (gV q585 q586 q587 q52 q588) rfl rfl rfl (by decide +kernel) ⟨Nat.le_of_ble_eq_true rfl, Nat.le_of_ble_eq_true rfl⟩) (preV (recO (xNam g) hP hK rfl) hP hK) rfl rfl hl.1 rfl (lv_room (Nat.le_of_ble_eq_true rfl)) dX1_takes_2 ⟨Nat.zero_le _, Nat.zero_le _⟩) hS (fun _ h => h) (fun H locs hP hS => ?_)
  refine lv_istore (lv' := [(4, .int (tX1_firstNameOf S p1)), (0, .ref (g.1 9 0)), (1, .int p1), (2, .int p2), (3, .int (b01 p3))]) hx hb dX1_takes_5 hl (by decide) rfl (fun ls hl => ?_)
  refine lv_aload_n hx hb dX1_takes_7 rfl (lv_at hl 1 rfl) ?_
  refine lv_iload_n hx hb dX1_takes_8 rfl (lv_at hl 3 rfl) ?_
  refine kiP (va_runV (As := [.int p2]) (rest := []) C0 (kX1_firstNameOf l g A hA S p2) (cwV 1 hts (gV q585 q586 q587 q52 q588) rfl rfl rfl (by decide +kernel) ⟨Nat.le_of_ble_eq_true rfl, Nat.le_of_ble_eq_true rfl⟩) (preV (recO (xNam g) hP hK rfl) hP hK) rfl rfl hl.1 rfl (lv_room (Nat.le_of_ble_eq_true rfl)) dX1_takes_9 ⟨Nat.zero_le _, Nat.zero_le _⟩) hS (fun _ h => h) (fun H locs hP hS => ?_)
  refine lv_istore (lv' := [(5, .int (tX1_firstNameOf S p2)), (4, .int (tX1_firstNameOf S p1)), (0, .ref (g.1 9 0)), (1, .int p1), (2, .int p2), (3, .int (b01 p3))]) hx hb dX1_takes_12 hl (by decide) rfl (fun ls hl => ?_)
  refine lv_iload hx hb dX1_takes_14 (lv_at hl 1 rfl) ?_
  refine lv_iload hx hb dX1_takes_16 (lv_at hl 0 rfl) ?_
  refine lv_icmp_ne (tgt := 25) hx hb dX1_takes_18 (by decide) (fun zc1 => ?_) (fun zc1 => ?_)
  · have hf := hf.trans (if_neg zc1)
    refine lv_iconst (v := 0) hx hb dX1_takes_25 (by decide) ?_
    refine lv_istore (lv' := [(6, .int 0), (5, .int (tX1_firstNameOf S p2)), (4, .int (tX1_firstNameOf S p1)), (0, .ref (g.1 9 0)), (1, .int p1), (2, .int p2), (3, .int (b01 p3))]) hx hb dX1_takes_26 hl (by decide) rfl (fun ls hl => ?_)
    refine lv_aload_n hx hb dX1_takes_28 rfl (lv_at hl 3 rfl) ?_
    refine lv_iload hx hb dX1_takes_29 (lv_at hl 2 rfl) ?_
    refine lv_iload hx hb dX1_takes_31 (lv_at hl 1 rfl) ?_
    refine kzc (va_runV (As := [.int (tX1_firstNameOf S p1), .int (tX1_firstNameOf S p2)]) (rest := []) C0 (kX1_areTwo l g A hA S (tX1_firstNameOf S p1) (tX1_firstNameOf S p2)) (cwV 2 hts (gV q589 q591 q8 q52 q592) rfl rfl rfl (by decide +kernel) ⟨Nat.le_of_ble_eq_true rfl, Nat.le_of_ble_eq_true rfl⟩) (preV (recO (xNam g) hP hK rfl) hP hK) rfl rfl hl.1 rfl (lv_room (Nat.le_of_ble_eq_true rfl)) dX1_takes_33 ⟨Nat.zero_le _, Nat.zero_le _⟩) hS (fun _ h => h) (fun zc2 H locs hP hS => ?_) (fun zc2 H locs hP hS => ?_)
    · have hf := hf.trans (if_pos zc2)
      refine lv_istore (lv' := [(7, .int 1), (6, .int 0), (5, .int (tX1_firstNameOf S p2)), (4, .int (tX1_firstNameOf S p1)), (0, .ref (g.1 9 0)), (1, .int p1), (2, .int p2), (3, .int (b01 p3))]) hx hb dX1_takes_36 hl (by decide) rfl (fun ls hl => ?_)
      refine lv_iload_n hx hb dX1_takes_38 rfl (lv_at hl 7 rfl) ?_
      refine lv_if_eq (tgt := 50) hx hb dX1_takes_39 (by decide) (fun zc3 => ?_) (fun zc3 => ?_)
      · have hf := hf.trans (if_pos zc3)
        refine lv_iload hx hb dX1_takes_50 (lv_at hl 1 rfl) ?_
        refine lv_if_eq (tgt := 57) hx hb dX1_takes_52 (by decide) (fun zc4 => ?_) (fun zc4 => absurd (by decide) zc4)
        refine lv_iload_n hx hb dX1_takes_57 rfl (lv_at hl 7 rfl) ?_
        refine lv_if_ne (tgt := 72) hx hb dX1_takes_58 (by decide) (fun zc5 => absurd zc3 zc5) (fun zc5 => ?_)
        refine lv_aload_n hx hb dX1_takes_61 rfl (lv_at hl 4 rfl) ?_
        refine lv_iload hx hb dX1_takes_62 (lv_at hl 3 rfl) ?_
        refine lv_iload hx hb dX1_takes_64 (lv_at hl 2 rfl) ?_
        refine kv (va_runV (As := [.int (tX1_firstNameOf S p1), .int (tX1_firstNameOf S p2)]) (rest := []) C0 (kX1_partNames l g A hA S (tX1_firstNameOf S p1) (tX1_firstNameOf S p2)) (cwV 2 hts (gV q593 q595 q9 q52 q596) rfl rfl rfl (by decide +kernel) ⟨Nat.le_of_ble_eq_true rfl, Nat.le_of_ble_eq_true rfl⟩) (preV (recO (xNam g) hP hK rfl) hP hK) rfl rfl hl.1 rfl (lv_room (Nat.le_of_ble_eq_true rfl)) dX1_takes_66 ⟨Nat.zero_le _, Nat.zero_le _⟩) hS (fun _ h => h) (fun zS6 H locs hw hP hS => ?_)
        have hf := hf.trans (bnd_eq hw)
        refine lv_goto (tgt := 95) hx hb dX1_takes_69 (by decide) ?_
        refine lv_iconst (v := 1) hx hb dX1_takes_95 (by decide) ?_
        exact rz hQ C0 hr hlocks hK hP hS rfl (by rw [← hF]; exact fin2 hf) dX1_takes_96
      · have hf := hf.trans (if_neg zc3)
        refine lv_iload hx hb dX1_takes_42 (lv_at hl 0 rfl) ?_
        refine lv_if_eq (tgt := 57) hx hb dX1_takes_44 (by decide) (fun zc7 => absurd zc7 (by decide)) (fun zc7 => ?_)
        refine lv_goto (tgt := 55) hx hb dX1_takes_47 (by decide) ?_
        refine lv_iconst (v := 0) hx hb dX1_takes_55 (by decide) ?_
        exact rz hQ C0 hr hlocks hK hP hS rfl (by rw [← hF]; exact fin2 hf) dX1_takes_56
    · have hf := hf.trans (if_neg zc2)
      refine lv_istore (lv' := [(7, .int 0), (6, .int 0), (5, .int (tX1_firstNameOf S p2)), (4, .int (tX1_firstNameOf S p1)), (0, .ref (g.1 9 0)), (1, .int p1), (2, .int p2), (3, .int (b01 p3))]) hx hb dX1_takes_36 hl (by decide) rfl (fun ls hl => ?_)
      refine lv_iload_n hx hb dX1_takes_38 rfl (lv_at hl 7 rfl) ?_
      refine lv_if_eq (tgt := 50) hx hb dX1_takes_39 (by decide) (fun zc8 => ?_) (fun zc8 => ?_)
      · have hf := hf.trans (if_pos zc8)
        refine lv_iload hx hb dX1_takes_50 (lv_at hl 1 rfl) ?_
        refine lv_if_eq (tgt := 57) hx hb dX1_takes_52 (by decide) (fun zc9 => ?_) (fun zc9 => absurd (by decide) zc9)
        refine lv_iload_n hx hb dX1_takes_57 rfl (lv_at hl 7 rfl) ?_
        refine lv_if_ne (tgt := 72) hx hb dX1_takes_58 (by decide) (fun zc10 => absurd zc8 zc10) (fun zc10 => ?_)
        refine lv_aload_n hx hb dX1_takes_61 rfl (lv_at hl 4 rfl) ?_
        refine lv_iload hx hb dX1_takes_62 (lv_at hl 3 rfl) ?_
        refine lv_iload hx hb dX1_takes_64 (lv_at hl 2 rfl) ?_
        refine kv (va_runV (As := [.int (tX1_firstNameOf S p1), .int (tX1_firstNameOf S p2)]) (rest := []) C0 (kX1_partNames l g A hA S (tX1_firstNameOf S p1) (tX1_firstNameOf S p2)) (cwV 2 hts (gV q593 q595 q9 q52 q596) rfl rfl rfl (by decide +kernel) ⟨Nat.le_of_ble_eq_true rfl, Nat.le_of_ble_eq_true rfl⟩) (preV (recO (xNam g) hP hK rfl) hP hK) rfl rfl hl.1 rfl (lv_room (Nat.le_of_ble_eq_true rfl)) dX1_takes_66 ⟨Nat.zero_le _, Nat.zero_le _⟩) hS (fun _ h => h) (fun zS11 H locs hw hP hS => ?_)
        have hf := hf.trans (bnd_eq hw)
        refine lv_goto (tgt := 95) hx hb dX1_takes_69 (by decide) ?_
        refine lv_iconst (v := 1) hx hb dX1_takes_95 (by decide) ?_
        exact rz hQ C0 hr hlocks hK hP hS rfl (by rw [← hF]; exact fin2 hf) dX1_takes_96
      · have hf := hf.trans (if_neg zc8)
        refine lv_iload hx hb dX1_takes_42 (lv_at hl 0 rfl) ?_
        refine lv_if_eq (tgt := 57) hx hb dX1_takes_44 (by decide) (fun zc12 => ?_) (fun zc12 => absurd (by decide) zc12)
        refine lv_iload_n hx hb dX1_takes_57 rfl (lv_at hl 7 rfl) ?_
        refine lv_if_ne (tgt := 72) hx hb dX1_takes_58 (by decide) (fun zc13 => ?_) (fun zc13 => absurd zc13 zc8)
        refine lv_iload hx hb dX1_takes_72 (lv_at hl 1 rfl) ?_
        refine lv_if_ne (tgt := 95) hx hb dX1_takes_74 (by decide) (fun zc14 => absurd (by decide) zc14) (fun zc14 => ?_)
        refine lv_aload_n hx hb dX1_takes_77 rfl (lv_at hl 4 rfl) ?_
        refine lv_iload hx hb dX1_takes_78 (lv_at hl 3 rfl) ?_
        refine lv_iload hx hb dX1_takes_80 (lv_at hl 2 rfl) ?_
        refine va_mmin hx hb (by rw [hml]; exact hl.1.symm) hown (hts _ q598) (hts _ q450) (hts _ q56) (hts _ q451) (Nat.le_of_ble_eq_true rfl) (Nat.le_of_ble_eq_true rfl) (Nat.zero_le _) (Nat.zero_le _) dX1_takes_82 ?_
        refine lv_iload hx hb dX1_takes_85 (lv_at hl 3 rfl) ?_
        refine lv_iload hx hb dX1_takes_87 (lv_at hl 2 rfl) ?_
        refine va_mmax hx hb (by rw [hml]; exact hl.1.symm) hown (hts _ q599) (hts _ q600) (hts _ q56) (hts _ q601) (Nat.le_of_ble_eq_true rfl) (Nat.le_of_ble_eq_true rfl) (Nat.zero_le _) (Nat.zero_le _) dX1_takes_89 ?_
        refine kv (va_runV (As := [.int (if (tX1_firstNameOf S p2) < (tX1_firstNameOf S p1) then (tX1_firstNameOf S p2) else (tX1_firstNameOf S p1)), .int (if (tX1_firstNameOf S p1) < (tX1_firstNameOf S p2) then (tX1_firstNameOf S p2) else (tX1_firstNameOf S p1))]) (rest := []) C0 (kX1_joinNames l g A hA S (if (tX1_firstNameOf S p2) < (tX1_firstNameOf S p1) then (tX1_firstNameOf S p2) else (tX1_firstNameOf S p1)) (if (tX1_firstNameOf S p1) < (tX1_firstNameOf S p2) then (tX1_firstNameOf S p2) else (tX1_firstNameOf S p1))) (cwV 2 hts (gV q602 q604 q10 q52 q605) rfl rfl rfl (by decide +kernel) ⟨Nat.le_of_ble_eq_true rfl, Nat.le_of_ble_eq_true rfl⟩) (preV (recO (xNam g) hP hK rfl) hP hK) rfl rfl hl.1 rfl (lv_room (Nat.le_of_ble_eq_true rfl)) dX1_takes_92 ⟨Nat.zero_le _, Nat.zero_le _⟩) hS (fun _ h => h) (fun zS15 H locs hw hP hS => ?_)
        have hf := hf.trans (bnd_eq hw)
        refine lv_iconst (v := 1) hx hb dX1_takes_95 (by decide) ?_
        exact rz hQ C0 hr hlocks hK hP hS rfl (by rw [← hF]; exact fin2 hf) dX1_takes_96
  · have hf := hf.trans (if_pos zc1)
    refine lv_iconst (v := 1) hx hb dX1_takes_21 (by decide) ?_
    refine lv_goto (tgt := 26) hx hb dX1_takes_22 (by decide) ?_
    refine lv_istore (lv' := [(6, .int 1), (5, .int (tX1_firstNameOf S p2)), (4, .int (tX1_firstNameOf S p1)), (0, .ref (g.1 9 0)), (1, .int p1), (2, .int p2), (3, .int (b01 p3))]) hx hb dX1_takes_26 hl (by decide) rfl (fun ls hl => ?_)
    refine lv_aload_n hx hb dX1_takes_28 rfl (lv_at hl 3 rfl) ?_
    refine lv_iload hx hb dX1_takes_29 (lv_at hl 2 rfl) ?_
    refine lv_iload hx hb dX1_takes_31 (lv_at hl 1 rfl) ?_
    refine kzc (va_runV (As := [.int (tX1_firstNameOf S p1), .int (tX1_firstNameOf S p2)]) (rest := []) C0 (kX1_areTwo l g A hA S (tX1_firstNameOf S p1) (tX1_firstNameOf S p2)) (cwV 2 hts (gV q589 q591 q8 q52 q592) rfl rfl rfl (by decide +kernel) ⟨Nat.le_of_ble_eq_true rfl, Nat.le_of_ble_eq_true rfl⟩) (preV (recO (xNam g) hP hK rfl) hP hK) rfl rfl hl.1 rfl (lv_room (Nat.le_of_ble_eq_true rfl)) dX1_takes_33 ⟨Nat.zero_le _, Nat.zero_le _⟩) hS (fun _ h => h) (fun zc16 H locs hP hS => ?_) (fun zc16 H locs hP hS => ?_)
    · have hf := hf.trans (if_pos zc16)
      refine lv_istore (lv' := [(7, .int 1), (6, .int 1), (5, .int (tX1_firstNameOf S p2)), (4, .int (tX1_firstNameOf S p1)), (0, .ref (g.1 9 0)), (1, .int p1), (2, .int p2), (3, .int (b01 p3))]) hx hb dX1_takes_36 hl (by decide) rfl (fun ls hl => ?_)
      refine lv_iload_n hx hb dX1_takes_38 rfl (lv_at hl 7 rfl) ?_
      refine lv_if_eq (tgt := 50) hx hb dX1_takes_39 (by decide) (fun zc17 => ?_) (fun zc17 => ?_)
      · have hf := hf.trans (if_pos zc17)
        refine lv_iload hx hb dX1_takes_50 (lv_at hl 1 rfl) ?_
        refine lv_if_eq (tgt := 57) hx hb dX1_takes_52 (by decide) (fun zc18 => absurd zc18 (by decide)) (fun zc18 => ?_)
        refine lv_iconst (v := 0) hx hb dX1_takes_55 (by decide) ?_
        exact rz hQ C0 hr hlocks hK hP hS rfl (by rw [← hF]; exact fin2 hf) dX1_takes_56
      · have hf := hf.trans (if_neg zc17)
        refine lv_iload hx hb dX1_takes_42 (lv_at hl 0 rfl) ?_
        refine lv_if_eq (tgt := 57) hx hb dX1_takes_44 (by decide) (fun zc19 => absurd zc19 (by decide)) (fun zc19 => ?_)
        refine lv_goto (tgt := 55) hx hb dX1_takes_47 (by decide) ?_
        refine lv_iconst (v := 0) hx hb dX1_takes_55 (by decide) ?_
        exact rz hQ C0 hr hlocks hK hP hS rfl (by rw [← hF]; exact fin2 hf) dX1_takes_56
    · have hf := hf.trans (if_neg zc16)
      refine lv_istore (lv' := [(7, .int 0), (6, .int 1), (5, .int (tX1_firstNameOf S p2)), (4, .int (tX1_firstNameOf S p1)), (0, .ref (g.1 9 0)), (1, .int p1), (2, .int p2), (3, .int (b01 p3))]) hx hb dX1_takes_36 hl (by decide) rfl (fun ls hl => ?_)
      refine lv_iload_n hx hb dX1_takes_38 rfl (lv_at hl 7 rfl) ?_
      refine lv_if_eq (tgt := 50) hx hb dX1_takes_39 (by decide) (fun zc20 => ?_) (fun zc20 => ?_)
      · have hf := hf.trans (if_pos zc20)
        refine lv_iload hx hb dX1_takes_50 (lv_at hl 1 rfl) ?_
        refine lv_if_eq (tgt := 57) hx hb dX1_takes_52 (by decide) (fun zc21 => absurd zc21 (by decide)) (fun zc21 => ?_)
        refine lv_iconst (v := 0) hx hb dX1_takes_55 (by decide) ?_
        exact rz hQ C0 hr hlocks hK hP hS rfl (by rw [← hF]; exact fin2 hf) dX1_takes_56
      · have hf := hf.trans (if_neg zc20)
        refine lv_iload hx hb dX1_takes_42 (lv_at hl 0 rfl) ?_
        refine lv_if_eq (tgt := 57) hx hb dX1_takes_44 (by decide) (fun zc22 => ?_) (fun zc22 => absurd (by decide) zc22)
        refine lv_iload_n hx hb dX1_takes_57 rfl (lv_at hl 7 rfl) ?_
        refine lv_if_ne (tgt := 72) hx hb dX1_takes_58 (by decide) (fun zc23 => ?_) (fun zc23 => absurd zc23 zc20)
        refine lv_iload hx hb dX1_takes_72 (lv_at hl 1 rfl) ?_
        refine lv_if_ne (tgt := 95) hx hb dX1_takes_74 (by decide) (fun zc24 => ?_) (fun zc24 => absurd zc24 (by decide))
        refine lv_iconst (v := 1) hx hb dX1_takes_95 (by decide) ?_
        exact rz hQ C0 hr hlocks hK hP hS rfl (by rw [← hF]; exact fin2 hf) dX1_takes_96
def LX1_mayBeOn_2 (S : St) (p1 : Int32) (p2 : Int32) : Nat → Nat → Int32
  | 0, zi1 => 1
  | zk2 + 1, zi1 => (if 8 ≤ (nI zi1) then 1 else (if (S.1 9 1 zi1) = (nI zi1) then (if (S.1 9 3 zi1) = p2 then (if art S p1 (nI zi1) then 0 else (LX1_mayBeOn_2 S p1 p2 zk2 (zi1 + 1))) else (LX1_mayBeOn_2 S p1 p2 zk2 (zi1 + 1))) else (LX1_mayBeOn_2 S p1 p2 zk2 (zi1 + 1))))
def tX1_mayBeOn (S : St) (p1 : Int32) (p2 : Int32) : Int32 :=
  (LX1_mayBeOn_2 S p1 p2 (Int32.toNatClampNeg p1) 0)
set_option maxHeartbeats 4000000 in
set_option maxRecDepth 100000 in
theorem kX1_mayBeOn (l : Launch) (g : Gd) (A : Nat → Prop) (hA : Ads g.1 VX A) (S : St) (p1 : Int32) (p2 : Int32) : Met l yX1_mayBeOn (wU yX1_mayBeOn cX1_mayBeOn 4 (some .boolean)) { frames := 1, cells := 0, slots := 0, locals := 22 } (va_Pc [.ref (g.1 9 0), .int p1, .int p2] (PW VX ctX g S)) (va_Qi (fun r u => r = tX1_mayBeOn S p1 p2 ∧ u = S) (fun u U => PW VX ctX g u U) A) 0 0 A := by
  refine ent (cc := cX1_mayBeOn) (maxL := 4) (ret := (some .boolean)) (by decide) (Nat.le_of_ble_eq_true rfl) ?_
  intro p e s m below meth c args Q C0 hr hlocks hP hK hQ ls hl
  have hx := C0.1
  have hb := C0.2.1
  have hml := C0.2.2.1
  have hown := C0.2.2.2.1
  have hts := C0.2.2.2.2
  obtain ⟨F, hF⟩ : ∃ F : Int32, F = tX1_mayBeOn S p1 p2 := ⟨_, rfl⟩
  have hf := hF
  unfold tX1_mayBeOn at hf
  have hS : va_S A s.heap s.heap [] := va_S.rf
  have hl : lv_has ls 4 [(0, .ref (g.1 9 0)), (1, .int p1), (2, .int p2)] := hl
  refine lv_iconst (v := 0) hx hb dX1_mayBeOn_0 (by decide) ?_
  refine lv_istore_n (lv' := [(3, .int 0), (0, .ref (g.1 9 0)), (1, .int p1), (2, .int p2)]) hx hb dX1_mayBeOn_1 rfl hl (by decide) rfl (fun ls hl => ?_)
  have lp2 : ∀ (zk2 zi1 : Nat) (H : Heap) (locs : List Loc), (zi1 + zk2 = (Int32.toNatClampNeg p1)) → (F = LX1_mayBeOn_2 S p1 p2 zk2 zi1) → HW VX ctX g S H → va_S A s.heap H locs → ∀ ls : Array Slot, lv_has ls 4 [(3, .int (nI zi1)), (0, .ref (g.1 9 0)), (1, .int p1), (2, .int p2)] → W p l e { frames := 1, cells := 0, slots := 0, locals := 22 } s m args below meth c H locs 0 0 Q (F0 m 2 ls []) := by
    intro zk2
    induction zk2 with
    | zero =>
      intro zi1 H locs hik hf hP hS ls hl
      have hcl := tcl p1
      rw [LX1_mayBeOn_2] at hf
      refine lv_iload_n hx hb dX1_mayBeOn_2 rfl (lv_at hl 0 rfl) ?_
      refine lv_iload_n hx hb dX1_mayBeOn_3 rfl (lv_at hl 2 rfl) ?_
      refine lv_icmp_ge (tgt := 50) hx hb dX1_mayBeOn_4 (by decide) (fun zc3 => ?_) (fun zc3 => absurd (up_sge0 hik) zc3)
      refine lv_iconst (v := 1) hx hb dX1_mayBeOn_50 (by decide) ?_
      exact rz hQ C0 hr hlocks hK hP hS rfl (by rw [← hF]; exact ⟨hf.symm, rfl⟩) dX1_mayBeOn_51
    | succ zk2 ih2 =>
      intro zi1 H locs hik hf hP hS ls hl
      have hcl := tcl p1
      rw [LX1_mayBeOn_2] at hf
      refine lv_iload_n hx hb dX1_mayBeOn_2 rfl (lv_at hl 0 rfl) ?_
      refine lv_iload_n hx hb dX1_mayBeOn_3 rfl (lv_at hl 2 rfl) ?_
      refine lv_icmp_ge (tgt := 50) hx hb dX1_mayBeOn_4 (by decide) (fun zc4 => absurd zc4 (up_sge1 hik)) (fun zc4 => ?_)
      refine lv_iload_n hx hb dX1_mayBeOn_7 rfl (lv_at hl 0 rfl) ?_
      refine lv_bipush (v := 8) hx hb dX1_mayBeOn_8 (by decide) ?_
      refine lv_icmp_ge (tgt := 50) hx hb dX1_mayBeOn_10 (by decide) (fun zc5 => ?_) (fun zc5 => ?_)
      · have hf := hf.trans (if_pos zc5)
        refine lv_iconst (v := 1) hx hb dX1_mayBeOn_50 (by decide) ?_
        exact rz hQ C0 hr hlocks hK hP hS rfl (by rw [← hF]; exact ⟨hf.symm, rfl⟩) dX1_mayBeOn_51
      · have hf := hf.trans (if_neg zc5)
        refine lv_aload_n hx hb dX1_mayBeOn_13 rfl (lv_at hl 1 rfl) ?_
        refine gO (T := TX1) C0 inA1 hK hP (xNam g) rfl 0 (by decide) (hts _ q222) (v := .ref (g.1 9 1)) rfl dX1_mayBeOn_14 ?_
        refine lv_iload_n hx hb dX1_mayBeOn_17 rfl (lv_at hl 0 rfl) ?_
        refine gI C0 hK hP (xFirsts g) (vpx2 zc5 (by omega) rfl (by decide)) dX1_mayBeOn_18 ?_
        rw [nI_clamp (n := zi1) (by omega)]
        refine lv_iload_n hx hb dX1_mayBeOn_19 rfl (lv_at hl 0 rfl) ?_
        refine lv_icmp_ne (tgt := 44) hx hb dX1_mayBeOn_20 (by decide) (fun zc6 => ?_) (fun zc6 => ?_)
        · have hf := hf.trans (if_neg zc6)
          refine lv_iinc (v := (nI (zi1 + 1))) (lv' := [(3, .int (nI (zi1 + 1))), (0, .ref (g.1 9 0)), (1, .int p1), (2, .int p2)]) hx hb dX1_mayBeOn_44 hl (k := 0) rfl (nI_1 _) (by decide) rfl (fun ls hl => ?_)
          refine lv_goto (tgt := 2) hx hb dX1_mayBeOn_47 (by decide) ?_
          exact ih2 (zi1 + 1) _ _ (by omega) hf hP hS ls (lv_sub hl [0, 1, 2, 3] rfl)
        · have hf := hf.trans (if_pos zc6)
          refine lv_aload_n hx hb dX1_mayBeOn_23 rfl (lv_at hl 1 rfl) ?_
          refine gO (T := TX1) C0 inA1 hK hP (xNam g) rfl 2 (by decide) (hts _ q224) (v := .ref (g.1 9 3)) rfl dX1_mayBeOn_24 ?_
          refine lv_iload_n hx hb dX1_mayBeOn_27 rfl (lv_at hl 0 rfl) ?_
          refine gI C0 hK hP (xTried g) (vpx2 zc5 (by omega) rfl (by decide)) dX1_mayBeOn_28 ?_
          rw [nI_clamp (n := zi1) (by omega)]
          refine lv_iload_n hx hb dX1_mayBeOn_29 rfl (lv_at hl 3 rfl) ?_
          refine lv_icmp_ne (tgt := 44) hx hb dX1_mayBeOn_30 (by decide) (fun zc7 => ?_) (fun zc7 => ?_)
          · have hf := hf.trans (if_neg zc7)
            refine lv_iinc (v := (nI (zi1 + 1))) (lv' := [(3, .int (nI (zi1 + 1))), (0, .ref (g.1 9 0)), (1, .int p1), (2, .int p2)]) hx hb dX1_mayBeOn_44 hl (k := 0) rfl (nI_1 _) (by decide) rfl (fun ls hl => ?_)
            refine lv_goto (tgt := 2) hx hb dX1_mayBeOn_47 (by decide) ?_
            exact ih2 (zi1 + 1) _ _ (by omega) hf hP hS ls (lv_sub hl [0, 1, 2, 3] rfl)
          · have hf := hf.trans (if_pos zc7)
            refine lv_aload_n hx hb dX1_mayBeOn_33 rfl (lv_at hl 1 rfl) ?_
            refine lv_iload_n hx hb dX1_mayBeOn_34 rfl (lv_at hl 2 rfl) ?_
            refine lv_iload_n hx hb dX1_mayBeOn_35 rfl (lv_at hl 0 rfl) ?_
            refine kzc (va_runV (As := [.int p1, .int (nI zi1)]) (rest := []) C0 (kX1_areTwo l g A hA S p1 (nI zi1)) (cwV 2 hts (gV q589 q591 q8 q52 q592) rfl rfl rfl (by decide +kernel) ⟨Nat.le_of_ble_eq_true rfl, Nat.le_of_ble_eq_true rfl⟩) (preV (recO (xNam g) hP hK rfl) hP hK) rfl rfl hl.1 rfl (lv_room (Nat.le_of_ble_eq_true rfl)) dX1_mayBeOn_36 ⟨Nat.zero_le _, Nat.zero_le _⟩) hS (fun _ h => h) (fun zc8 H locs hP hS => ?_) (fun zc8 H locs hP hS => ?_)
            · have hf := hf.trans (if_pos zc8)
              refine lv_if_eq (tgt := 44) hx hb dX1_mayBeOn_39 (by decide) (fun zc9 => absurd zc9 (by decide)) (fun zc9 => ?_)
              refine lv_iconst (v := 0) hx hb dX1_mayBeOn_42 (by decide) ?_
              exact rz hQ C0 hr hlocks hK hP hS rfl (by rw [← hF]; exact ⟨hf.symm, rfl⟩) dX1_mayBeOn_43
            · have hf := hf.trans (if_neg zc8)
              refine lv_if_eq (tgt := 44) hx hb dX1_mayBeOn_39 (by decide) (fun zc10 => ?_) (fun zc10 => absurd (by decide) zc10)
              refine lv_iinc (v := (nI (zi1 + 1))) (lv' := [(3, .int (nI (zi1 + 1))), (0, .ref (g.1 9 0)), (1, .int p1), (2, .int p2)]) hx hb dX1_mayBeOn_44 hl (k := 0) rfl (nI_1 _) (by decide) rfl (fun ls hl => ?_)
              refine lv_goto (tgt := 2) hx hb dX1_mayBeOn_47 (by decide) ?_
              exact ih2 (zi1 + 1) _ _ (by omega) hf hP hS ls (lv_sub hl [0, 1, 2, 3] rfl)
  exact lp2 (Int32.toNatClampNeg p1) 0 _ _ (Nat.zero_add _) hf hP hS ls (lv_sub hl [0, 1, 2, 3] rfl)
def tX1_putOn (S : St) (p1 : Int32) (p2 : Int32) : St :=
  (if p1 < 0 then S else (if 8 ≤ p1 then S else (up S 9 3 (Int32.toNatClampNeg p1) p2)))
set_option maxHeartbeats 4000000 in
set_option maxRecDepth 100000 in
theorem kX1_putOn (l : Launch) (g : Gd) (A : Nat → Prop) (hA : Ads g.1 VX A) (S : St) (p1 : Int32) (p2 : Int32) : Met l yX1_putOn (wU yX1_putOn cX1_putOn 3 none) { frames := 0, cells := 0, slots := 0, locals := 0 } (va_Pc [.ref (g.1 9 0), .int p1, .int p2] (PW VX ctX g S)) (va_Qv (fun u => u = tX1_putOn S p1 p2) (fun u U => PW VX ctX g u U) A) 0 0 A := by
  refine ent (cc := cX1_putOn) (maxL := 3) (ret := none) (by decide) (Nat.le_of_ble_eq_true rfl) ?_
  intro p e s m below meth c args Q C0 hr hlocks hP hK hQ ls hl
  have hx := C0.1
  have hb := C0.2.1
  have hml := C0.2.2.1
  have hown := C0.2.2.2.1
  have hts := C0.2.2.2.2
  obtain ⟨F, hF⟩ : ∃ F : St, F = tX1_putOn S p1 p2 := ⟨_, rfl⟩
  have hf := hF
  unfold tX1_putOn at hf
  have hS : va_S A s.heap s.heap [] := va_S.rf
  have hl : lv_has ls 3 [(0, .ref (g.1 9 0)), (1, .int p1), (2, .int p2)] := hl
  refine lv_iload_n hx hb dX1_putOn_0 rfl (lv_at hl 1 rfl) ?_
  refine lv_if_lt (tgt := 17) hx hb dX1_putOn_1 (by decide) (fun zc1 => ?_) (fun zc1 => ?_)
  · have hf := hf.trans (if_pos zc1)
    exact rv hQ C0 hr hlocks hK hP hS (by rw [← hF]; exact hf.symm) dX1_putOn_17
  · have hf := hf.trans (if_neg zc1)
    refine lv_iload_n hx hb dX1_putOn_4 rfl (lv_at hl 1 rfl) ?_
    refine lv_bipush (v := 8) hx hb dX1_putOn_5 (by decide) ?_
    refine lv_icmp_ge (tgt := 17) hx hb dX1_putOn_7 (by decide) (fun zc2 => ?_) (fun zc2 => ?_)
    · have hf := hf.trans (if_pos zc2)
      exact rv hQ C0 hr hlocks hK hP hS (by rw [← hF]; exact hf.symm) dX1_putOn_17
    · have hf := hf.trans (if_neg zc2)
      refine lv_aload_n hx hb dX1_putOn_10 rfl (lv_at hl 0 rfl) ?_
      refine gO (T := TX1) C0 inA1 hK hP (xNam g) rfl 2 (by decide) (hts _ q224) (v := .ref (g.1 9 3)) rfl dX1_putOn_11 ?_
      refine lv_iload_n hx hb dX1_putOn_14 rfl (lv_at hl 1 rfl) ?_
      refine lv_iload_n hx hb dX1_putOn_15 rfl (lv_at hl 2 rfl) ?_
      refine pI locX C0 hK hP hA hS (xTried g) (vpx (N := 8) zc1 zc2 rfl (by decide)) dX1_putOn_16 (fun H locs hP hS => ?_)
      exact rv hQ C0 hr hlocks hK hP hS (by rw [← hF]; exact hf.symm) dX1_putOn_17
theorem part_fr (S : St) {r : Nat} (h : r ≠ 9) (p1 p2 : Int32) : (tX1_partNames S p1 p2).1 r = S.1 r := by
  unfold tX1_partNames
  repeat' split
  all_goals simp only [bnd_def, up_r _ _ h]
theorem join_fr {r : Nat} (h : r ≠ 9) (S0 : St) (p1 p2 : Int32) : ∀ (k i : Nat) (S : St), (LX1_joinNames_2 S0 p1 p2 k i S).1 r = S.1 r := by
  intro k
  induction k with
  | zero => intro i S; rfl
  | succ k ih =>
    intro i S
    rw [LX1_joinNames_2]
    repeat' split
    all_goals simp only [bnd_def, ih, up_r _ _ h, part_fr _ h]
theorem takes_fr (S : St) {r : Nat} (h : r ≠ 9) (p1 p2 p3 : Int32) : (tX1_takes S p1 p2 p3).2.1 r = S.1 r := by
  unfold tX1_takes
  repeat' split
  all_goals simp only [bnd_def, part_fr _ h, tX1_joinNames, join_fr h]
def LX1_hear_48 (S : St) (t : Nat) : Nat → Nat → St → St
  | 0, zi5, zS7 => zS7
  | zk6 + 1, zi5, zS7 => (if 8 ≤ (nI zi5) then zS7 else (bnd (tX1_takes zS7 (zS7.1 (6 + t) 1 zi5) (zS7.1 (6 + t) 2 zi5) (zS7.1 (6 + t) 3 zi5)).2 (fun zS12 => bnd (tX1_takes zS7 (zS7.1 (6 + t) 1 zi5) (zS7.1 (6 + t) 2 zi5) (zS7.1 (6 + t) 3 zi5)).1 (fun zr11 => (if zr11 = 0 then (if (zS12.1 9 0 1) = 0 then (LX1_hear_48 S t zk6 (zi5 + 1) (up (up zS12 9 0 0 (nI zi5)) 9 0 1 (((up zS12 9 0 0 (nI zi5)).1 9 0 1) + 1))) else (LX1_hear_48 S t zk6 (zi5 + 1) (up zS12 9 0 1 ((zS12.1 9 0 1) + 1)))) else (LX1_hear_48 S t zk6 (zi5 + 1) zS12))))))
def LX1_hear_2 (S : St) (t : Nat) : Nat → Nat → St → St
  | 0, zi1, zS3 => (LX1_hear_48 S t (Int32.toNatClampNeg ((up (up zS3 9 0 0 (-6)) 9 0 1 0).1 (6 + t) 0 0)) 0 (up (up zS3 9 0 0 (-6)) 9 0 1 0))
  | zk2 + 1, zi1, zS3 => (LX1_hear_2 S t zk2 (zi1 + 1) (up (up (up zS3 9 1 zi1 (nI zi1)) 9 2 zi1 0) 9 3 zi1 0))
def tX1_hear (S : St) (t : Nat) : St :=
  (LX1_hear_2 S t 8 0 S)
set_option maxHeartbeats 4000000 in
set_option maxRecDepth 100000 in
theorem kX1_hear (l : Launch) (g : Gd) (A : Nat → Prop) (hA : Ads g.1 VX A) (S : St) (t : Nat) (ht : t < 3) : Met l yX1_hear (wU yX1_hear cX1_hear 3 none) { frames := 4, cells := 0, slots := 0, locals := 94 } (va_Pc [.ref (g.1 9 0), .ref (g.1 (6 + t) 0)] (PW VX ctX g S)) (va_Qv (fun u => u = tX1_hear S t) (fun u U => PW VX ctX g u U) A) 0 0 A := by
  refine ent (cc := cX1_hear) (maxL := 3) (ret := none) (by decide) (Nat.le_of_ble_eq_true rfl) ?_
  intro p e s m below meth c args Q C0 hr hlocks hP hK hQ ls hl
  have hx := C0.1
  have hb := C0.2.1
  have hml := C0.2.2.1
  have hown := C0.2.2.2.1
  have hts := C0.2.2.2.2
  obtain ⟨F, hF⟩ : ∃ F : St, F = tX1_hear S t := ⟨_, rfl⟩
  have hf := hF
  unfold tX1_hear at hf
  have hS : va_S A s.heap s.heap [] := va_S.rf
  have hl : lv_has ls 3 [(0, .ref (g.1 9 0)), (1, .ref (g.1 (6 + t) 0))] := hl
  refine lv_iconst (v := 0) hx hb dX1_hear_0 (by decide) ?_
  refine lv_istore_n (lv' := [(2, .int 0), (0, .ref (g.1 9 0)), (1, .ref (g.1 (6 + t) 0))]) hx hb dX1_hear_1 rfl hl (by decide) rfl (fun ls hl => ?_)
  have lp2 : ∀ (zk2 zi1 : Nat) (zS3 : St) (H : Heap) (locs : List Loc), (zi1 + zk2 = 8) → (F = LX1_hear_2 S t zk2 zi1 zS3) → HW VX ctX g zS3 H → va_S A s.heap H locs → ∀ ls : Array Slot, lv_has ls 3 [(2, .int (nI zi1)), (0, .ref (g.1 9 0)), (1, .ref (g.1 (6 + t) 0))] → W p l e { frames := 4, cells := 0, slots := 0, locals := 94 } s m args below meth c H locs 0 0 Q (F0 m 2 ls []) := by
    intro zk2
    induction zk2 with
    | zero =>
      intro zi1 zS3 H locs hik hf hP hS ls hl
      rw [LX1_hear_2] at hf
      refine lv_iload_n hx hb dX1_hear_2 rfl (lv_at hl 0 rfl) ?_
      refine lv_bipush (v := 8) hx hb dX1_hear_3 (by decide) ?_
      refine lv_icmp_ge (tgt := 35) hx hb dX1_hear_5 (by decide) (fun zc4 => ?_) (fun zc4 => absurd (up_ge0 rfl hik (by decide)) zc4)
      refine lv_aload_n hx hb dX1_hear_35 rfl (lv_at hl 1 rfl) ?_
      refine lv_bipush (v := (-6)) hx hb dX1_hear_36 (by decide) ?_
      refine pO (T := TX1) (ty0 := tyX1) locX C0 inA1 tyX1_ok nmX1 hK hP hA hS (xNam g) rfl 3 (by decide) (hts _ q225) rfl 0 (-6) rfl rfl rfl (Nat.le_of_ble_eq_true rfl) dX1_hear_38 (fun H locs hP hS => ?_)
      refine lv_aload_n hx hb dX1_hear_41 rfl (lv_at hl 1 rfl) ?_
      refine lv_iconst (v := 0) hx hb dX1_hear_42 (by decide) ?_
      refine pO (T := TX1) (ty0 := tyX1) locX C0 inA1 tyX1_ok nmX1 hK hP hA hS (xNam g) rfl 4 (by decide) (hts _ q227) rfl 1 0 rfl rfl rfl (Nat.le_of_ble_eq_true rfl) dX1_hear_43 (fun H locs hP hS => ?_)
      refine lv_iconst (v := 0) hx hb dX1_hear_46 (by decide) ?_
      refine lv_istore_n (lv' := [(2, .int 0), (0, .ref (g.1 9 0)), (1, .ref (g.1 (6 + t) 0))]) hx hb dX1_hear_47 rfl hl (by decide) rfl (fun ls hl => ?_)
      have lp48 : ∀ (zk6 zi5 : Nat) (zS7 : St) (H : Heap) (locs : List Loc), (zi5 + zk6 = (Int32.toNatClampNeg ((up (up zS3 9 0 0 (-6)) 9 0 1 0).1 (6 + t) 0 0))) → (zS7.1 (6 + t) 0 0 = (up (up zS3 9 0 0 (-6)) 9 0 1 0).1 (6 + t) 0 0) → (F = LX1_hear_48 S t zk6 zi5 zS7) → HW VX ctX g zS7 H → va_S A s.heap H locs → ∀ ls : Array Slot, lv_has ls 3 [(2, .int (nI zi5)), (0, .ref (g.1 9 0)), (1, .ref (g.1 (6 + t) 0))] → W p l e { frames := 4, cells := 0, slots := 0, locals := 94 } s m args below meth c H locs 0 0 Q (F0 m 48 ls []) := by
        intro zk6
        induction zk6 with
        | zero =>
          intro zi5 zS7 H locs hik hi1 hf hP hS ls hl
          have hcl := tcl (zS7.1 (6 + t) 0 0)
          rw [hi1] at hcl
          rw [LX1_hear_48] at hf
          refine lv_iload_n hx hb dX1_hear_48 rfl (lv_at hl 0 rfl) ?_
          refine lv_aload_n hx hb dX1_hear_49 rfl (lv_at hl 2 rfl) ?_
          refine gO (T := TX5) C0 inA5 hK hP (xTales g ht) rfl 3 (by decide) (hts _ q204) (v := .int (zS7.1 (6 + t) 0 0)) rfl dX1_hear_50 ?_
          refine lv_icmp_ge (tgt := 115) hx hb dX1_hear_53 (by decide) (fun zc8 => ?_) (fun zc8 => absurd (by rw [hi1]; exact up_sge0 hik) zc8)
          exact rv hQ C0 hr hlocks hK hP hS (by rw [← hF]; exact hf.symm) dX1_hear_115
        | succ zk6 ih48 =>
          intro zi5 zS7 H locs hik hi1 hf hP hS ls hl
          have hcl := tcl (zS7.1 (6 + t) 0 0)
          rw [hi1] at hcl
          rw [LX1_hear_48] at hf
          refine lv_iload_n hx hb dX1_hear_48 rfl (lv_at hl 0 rfl) ?_
          refine lv_aload_n hx hb dX1_hear_49 rfl (lv_at hl 2 rfl) ?_
          refine gO (T := TX5) C0 inA5 hK hP (xTales g ht) rfl 3 (by decide) (hts _ q204) (v := .int (zS7.1 (6 + t) 0 0)) rfl dX1_hear_50 ?_
          refine lv_icmp_ge (tgt := 115) hx hb dX1_hear_53 (by decide) (fun zc9 => absurd zc9 (by rw [hi1]; exact up_sge1 hik)) (fun zc9 => ?_)
          refine lv_iload_n hx hb dX1_hear_56 rfl (lv_at hl 0 rfl) ?_
          refine lv_bipush (v := 8) hx hb dX1_hear_57 (by decide) ?_
          refine lv_icmp_ge (tgt := 115) hx hb dX1_hear_59 (by decide) (fun zc10 => ?_) (fun zc10 => ?_)
          · have hf := hf.trans (if_pos zc10)
            exact rv hQ C0 hr hlocks hK hP hS (by rw [← hF]; exact hf.symm) dX1_hear_115
          · have hf := hf.trans (if_neg zc10)
            refine lv_aload_n hx hb dX1_hear_62 rfl (lv_at hl 1 rfl) ?_
            refine lv_aload_n hx hb dX1_hear_63 rfl (lv_at hl 2 rfl) ?_
            refine gO (T := TX5) C0 inA5 hK hP (xTales g ht) rfl 0 (by decide) (hts _ q198) (v := .ref (g.1 (6 + t) 1)) rfl dX1_hear_64 ?_
            refine lv_iload_n hx hb dX1_hear_67 rfl (lv_at hl 0 rfl) ?_
            refine gI C0 hK hP (xOnes g ht) (vpx2 zc10 (by omega) rfl (by decide)) dX1_hear_68 ?_
            rw [nI_clamp (n := zi5) (by omega)]
            refine lv_aload_n hx hb dX1_hear_69 rfl (lv_at hl 2 rfl) ?_
            refine gO (T := TX5) C0 inA5 hK hP (xTales g ht) rfl 1 (by decide) (hts _ q200) (v := .ref (g.1 (6 + t) 2)) rfl dX1_hear_70 ?_
            refine lv_iload_n hx hb dX1_hear_73 rfl (lv_at hl 0 rfl) ?_
            refine gI C0 hK hP (xTwos g ht) (vpx2 zc10 (by omega) rfl (by decide)) dX1_hear_74 ?_
            rw [nI_clamp (n := zi5) (by omega)]
            refine lv_aload_n hx hb dX1_hear_75 rfl (lv_at hl 2 rfl) ?_
            refine gO (T := TX5) C0 inA5 hK hP (xTales g ht) rfl 2 (by decide) (hts _ q202) (v := .ref (g.1 (6 + t) 3)) rfl dX1_hear_76 ?_
            refine lv_iload_n hx hb dX1_hear_79 rfl (lv_at hl 0 rfl) ?_
            refine gZ C0 hK hP (xSames g ht) (vpx2 zc10 (by omega) rfl (by decide)) dX1_hear_80 ?_
            rw [nI_clamp (n := zi5) (by omega)]
            refine ki (va_runV (As := [.int (zS7.1 (6 + t) 1 zi5), .int (zS7.1 (6 + t) 2 zi5), .int (b01 (zS7.1 (6 + t) 3 zi5))]) (rest := []) C0 (kX1_takes l g A hA zS7 (zS7.1 (6 + t) 1 zi5) (zS7.1 (6 + t) 2 zi5) (zS7.1 (6 + t) 3 zi5)) (cwV 3 hts (gV q581 q583 q7 q52 q584) rfl rfl rfl (by decide +kernel) ⟨Nat.le_of_ble_eq_true rfl, Nat.le_of_ble_eq_true rfl⟩) (preV (recO (xNam g) hP hK rfl) hP hK) rfl rfl hl.1 rfl (lv_room (Nat.le_of_ble_eq_true rfl)) dX1_hear_81 ⟨Nat.zero_le _, Nat.zero_le _⟩) hS (fun _ h => h) (fun zr11 zS12 H locs hw hP hS => ?_)
            have hf := (hf.trans (bnd_eq hw.2)).trans (bnd_eq hw.1)
            refine lv_if_ne (tgt := 109) hx hb dX1_hear_84 (by decide) (fun zc13 => ?_) (fun zc13 => ?_)
            · have hf := hf.trans (if_neg zc13)
              refine lv_iinc (v := (nI (zi5 + 1))) (lv' := [(2, .int (nI (zi5 + 1))), (0, .ref (g.1 9 0)), (1, .ref (g.1 (6 + t) 0))]) hx hb dX1_hear_109 hl (k := 0) rfl (nI_1 _) (by decide) rfl (fun ls hl => ?_)
              refine lv_goto (tgt := 48) hx hb dX1_hear_112 (by decide) ?_
              exact ih48 (zi5 + 1) zS12 _ _ (by omega) (by simp only [up_r _ _ (show 6 + t ≠ 9 by omega), hw.2, takes_fr _ (show 6 + t ≠ 9 by omega)] at hi1 ⊢; exact hi1) hf hP hS ls (lv_sub hl [0, 1, 2] rfl)
            · have hf := hf.trans (if_pos zc13)
              refine lv_aload_n hx hb dX1_hear_87 rfl (lv_at hl 1 rfl) ?_
              refine gO (T := TX1) C0 inA1 hK hP (xNam g) rfl 4 (by decide) (hts _ q227) (v := .int (zS12.1 9 0 1)) rfl dX1_hear_88 ?_
              refine lv_if_ne (tgt := 99) hx hb dX1_hear_91 (by decide) (fun zc14 => ?_) (fun zc14 => ?_)
              · have hf := hf.trans (if_neg zc14)
                refine lv_aload_n hx hb dX1_hear_99 rfl (lv_at hl 1 rfl) ?_
                refine lv_dup hx hb dX1_hear_100 rfl ?_
                refine gO (T := TX1) C0 inA1 hK hP (xNam g) rfl 4 (by decide) (hts _ q227) (v := .int (zS12.1 9 0 1)) rfl dX1_hear_101 ?_
                refine lv_iconst (v := 1) hx hb dX1_hear_104 (by decide) ?_
                refine lv_iadd hx hb dX1_hear_105 ?_
                refine pO (T := TX1) (ty0 := tyX1) locX C0 inA1 tyX1_ok nmX1 hK hP hA hS (xNam g) rfl 4 (by decide) (hts _ q227) rfl 1 ((zS12.1 9 0 1) + 1) rfl rfl rfl (Nat.le_of_ble_eq_true rfl) dX1_hear_106 (fun H locs hP hS => ?_)
                refine lv_iinc (v := (nI (zi5 + 1))) (lv' := [(2, .int (nI (zi5 + 1))), (0, .ref (g.1 9 0)), (1, .ref (g.1 (6 + t) 0))]) hx hb dX1_hear_109 hl (k := 0) rfl (nI_1 _) (by decide) rfl (fun ls hl => ?_)
                refine lv_goto (tgt := 48) hx hb dX1_hear_112 (by decide) ?_
                exact ih48 (zi5 + 1) (up zS12 9 0 1 ((zS12.1 9 0 1) + 1)) _ _ (by omega) (by simp only [up_r _ _ (show 6 + t ≠ 9 by omega), hw.2, takes_fr _ (show 6 + t ≠ 9 by omega)] at hi1 ⊢; exact hi1) hf hP hS ls (lv_sub hl [0, 1, 2] rfl)
              · have hf := hf.trans (if_pos zc14)
                refine lv_aload_n hx hb dX1_hear_94 rfl (lv_at hl 1 rfl) ?_
                refine lv_iload_n hx hb dX1_hear_95 rfl (lv_at hl 0 rfl) ?_
                refine pO (T := TX1) (ty0 := tyX1) locX C0 inA1 tyX1_ok nmX1 hK hP hA hS (xNam g) rfl 3 (by decide) (hts _ q225) rfl 0 (nI zi5) rfl rfl rfl (Nat.le_of_ble_eq_true rfl) dX1_hear_96 (fun H locs hP hS => ?_)
                refine lv_aload_n hx hb dX1_hear_99 rfl (lv_at hl 1 rfl) ?_
                refine lv_dup hx hb dX1_hear_100 rfl ?_
                refine gO (T := TX1) C0 inA1 hK hP (xNam g) rfl 4 (by decide) (hts _ q227) (v := .int ((up zS12 9 0 0 (nI zi5)).1 9 0 1)) rfl dX1_hear_101 ?_
                refine lv_iconst (v := 1) hx hb dX1_hear_104 (by decide) ?_
                refine lv_iadd hx hb dX1_hear_105 ?_
                refine pO (T := TX1) (ty0 := tyX1) locX C0 inA1 tyX1_ok nmX1 hK hP hA hS (xNam g) rfl 4 (by decide) (hts _ q227) rfl 1 (((up zS12 9 0 0 (nI zi5)).1 9 0 1) + 1) rfl rfl rfl (Nat.le_of_ble_eq_true rfl) dX1_hear_106 (fun H locs hP hS => ?_)
                refine lv_iinc (v := (nI (zi5 + 1))) (lv' := [(2, .int (nI (zi5 + 1))), (0, .ref (g.1 9 0)), (1, .ref (g.1 (6 + t) 0))]) hx hb dX1_hear_109 hl (k := 0) rfl (nI_1 _) (by decide) rfl (fun ls hl => ?_)
                refine lv_goto (tgt := 48) hx hb dX1_hear_112 (by decide) ?_
                exact ih48 (zi5 + 1) (up (up zS12 9 0 0 (nI zi5)) 9 0 1 (((up zS12 9 0 0 (nI zi5)).1 9 0 1) + 1)) _ _ (by omega) (by simp only [up_r _ _ (show 6 + t ≠ 9 by omega), hw.2, takes_fr _ (show 6 + t ≠ 9 by omega)] at hi1 ⊢; exact hi1) hf hP hS ls (lv_sub hl [0, 1, 2] rfl)
      exact lp48 (Int32.toNatClampNeg ((up (up zS3 9 0 0 (-6)) 9 0 1 0).1 (6 + t) 0 0)) 0 (up (up zS3 9 0 0 (-6)) 9 0 1 0) _ _ (Nat.zero_add _) rfl hf hP hS ls (lv_sub hl [0, 1, 2] rfl)
    | succ zk2 ih2 =>
      intro zi1 zS3 H locs hik hf hP hS ls hl
      rw [LX1_hear_2] at hf
      refine lv_iload_n hx hb dX1_hear_2 rfl (lv_at hl 0 rfl) ?_
      refine lv_bipush (v := 8) hx hb dX1_hear_3 (by decide) ?_
      refine lv_icmp_ge (tgt := 35) hx hb dX1_hear_5 (by decide) (fun zc15 => absurd zc15 (up_ge1 rfl hik (by decide))) (fun zc15 => ?_)
      refine lv_aload_n hx hb dX1_hear_8 rfl (lv_at hl 1 rfl) ?_
      refine gO (T := TX1) C0 inA1 hK hP (xNam g) rfl 0 (by decide) (hts _ q222) (v := .ref (g.1 9 1)) rfl dX1_hear_9 ?_
      refine lv_iload_n hx hb dX1_hear_12 rfl (lv_at hl 0 rfl) ?_
      refine lv_iload_n hx hb dX1_hear_13 rfl (lv_at hl 0 rfl) ?_
      refine pI locX C0 hK hP hA hS (xFirsts g) (vp_in_nI (by omega) (by decide)) dX1_hear_14 (fun H locs hP hS => ?_)
      rw [nI_clamp (n := zi1) (by omega)] at hP
      refine lv_aload_n hx hb dX1_hear_15 rfl (lv_at hl 1 rfl) ?_
      refine gO (T := TX1) C0 inA1 hK hP (xNam g) rfl 1 (by decide) (hts _ q223) (v := .ref (g.1 9 2)) rfl dX1_hear_16 ?_
      refine lv_iload_n hx hb dX1_hear_19 rfl (lv_at hl 0 rfl) ?_
      refine lv_iconst (v := 0) hx hb dX1_hear_20 (by decide) ?_
      refine pI locX C0 hK hP hA hS (xOthers g) (vp_in_nI (by omega) (by decide)) dX1_hear_21 (fun H locs hP hS => ?_)
      rw [nI_clamp (n := zi1) (by omega)] at hP
      refine lv_aload_n hx hb dX1_hear_22 rfl (lv_at hl 1 rfl) ?_
      refine gO (T := TX1) C0 inA1 hK hP (xNam g) rfl 2 (by decide) (hts _ q224) (v := .ref (g.1 9 3)) rfl dX1_hear_23 ?_
      refine lv_iload_n hx hb dX1_hear_26 rfl (lv_at hl 0 rfl) ?_
      refine lv_iconst (v := 0) hx hb dX1_hear_27 (by decide) ?_
      refine pI locX C0 hK hP hA hS (xTried g) (vp_in_nI (by omega) (by decide)) dX1_hear_28 (fun H locs hP hS => ?_)
      rw [nI_clamp (n := zi1) (by omega)] at hP
      refine lv_iinc (v := (nI (zi1 + 1))) (lv' := [(2, .int (nI (zi1 + 1))), (0, .ref (g.1 9 0)), (1, .ref (g.1 (6 + t) 0))]) hx hb dX1_hear_29 hl (k := 0) rfl (nI_1 _) (by decide) rfl (fun ls hl => ?_)
      refine lv_goto (tgt := 2) hx hb dX1_hear_32 (by decide) ?_
      exact ih2 (zi1 + 1) (up (up (up zS3 9 1 zi1 (nI zi1)) 9 2 zi1 0) 9 3 zi1 0) _ _ (by omega) hf hP hS ls (lv_sub hl [0, 1, 2] rfl)
  exact lp2 8 0 S _ _ (by decide) hf hP hS ls (lv_sub hl [0, 1, 2] rfl)
