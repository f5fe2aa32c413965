theorem vpn1 {k : Nat} (h : ¬ nI k = 0) (hk : k + 1 ≤ 7) : vp_in (nI k - 1) 7 := by
  cases k with
  | zero => exact absurd rfl h
  | succ j => rw [nI_pred]; exact vp_in_nI (by omega) (by decide)
def LX8_oneMore_3 (S : St) (p1 : Int32) : Nat → St → St
  | 0, zS3 => zS3
  | zk2 + 1, zS3 => (if (nI zk2) = 0 then (LX8_oneMore_3 S p1 zk2 (uL zS3 zk2 (((zS3.2 zk2) * (Int32.toInt64 (100 - p1))) + (0 * (Int32.toInt64 p1))))) else (bnd (uL zS3 zk2 (((zS3.2 zk2) * (Int32.toInt64 (100 - p1))) + ((zS3.2 (Int32.toNatClampNeg ((nI zk2) - 1))) * (Int32.toInt64 p1)))) (fun zS7 => (LX8_oneMore_3 S p1 zk2 zS7))))
def tX8_oneMore (S : St) (p1 : Int32) : St :=
  (LX8_oneMore_3 S p1 7 S)
set_option maxHeartbeats 4000000 in
set_option maxRecDepth 100000 in
theorem kX8_oneMore (l : Launch) (g : Gd) (A : Nat → Prop) (hA : Ads g.1 VM A) (S : St) (p1 : Int32) : Met l yX8_oneMore (wU yX8_oneMore cX8_oneMore 5 none) { frames := 0, cells := 0, slots := 0, locals := 0 } (va_Pc [.ref (g.1 0 0), .int p1] (PW VM ctM g S)) (va_Qv (fun u => u = tX8_oneMore S p1) (fun u U => PW VM ctM g u U) A) 0 0 A := by
  refine ent (cc := cX8_oneMore) (maxL := 5) (ret := none) (by decide) (Nat.le_of_ble_eq_true rfl) ?_
  intro p e s m below meth c args Q C0 hr hlocks hP hK hQ ls hl
  have hx := C0.1
  have hb := C0.2.1
  have hml := C0.2.2.1
  have hown := C0.2.2.2.1
  have hts := C0.2.2.2.2
  obtain ⟨F, hF⟩ : ∃ F : St, F = tX8_oneMore S p1 := ⟨_, rfl⟩
  have hf := hF
  unfold tX8_oneMore at hf
  have hS : va_S A s.heap s.heap [] := va_S.rf
  have hl : lv_has ls 5 [(0, .ref (g.1 0 0)), (1, .int p1)] := hl
  refine lv_bipush (v := 6) hx hb dX8_oneMore_0 (by decide) ?_
  refine lv_istore_n (lv' := [(2, .int 6), (0, .ref (g.1 0 0)), (1, .int p1)]) hx hb dX8_oneMore_2 rfl hl (by decide) rfl (fun ls hl => ?_)
  have lp3 : ∀ (zk2 : Nat) (zS3 : St) (H : Heap) (locs : List Loc), (zk2 ≤ 7) → (F = LX8_oneMore_3 S p1 zk2 zS3) → HW VM ctM g zS3 H → va_S A s.heap H locs → ∀ ls : Array Slot, lv_has ls 5 [(2, .int (nI zk2 - 1)), (0, .ref (g.1 0 0)), (1, .int p1)] → W p l e { frames := 0, cells := 0, slots := 0, locals := 0 } s m args below meth c H locs 0 0 Q (F0 m 3 ls []) := by
    intro zk2
    induction zk2 with
    | zero =>
      intro zS3 H locs hik hf hP hS ls hl
      rw [LX8_oneMore_3] at hf
      refine lv_iload_n hx hb dX8_oneMore_3 rfl (lv_at hl 0 rfl) ?_
      refine lv_if_lt (tgt := 53) hx hb dX8_oneMore_4 (by decide) (fun zc4 => ?_) (fun zc4 => absurd (by decide) zc4)
      exact rv hQ C0 hr hlocks hK hP hS (by rw [← hF]; exact hf.symm) dX8_oneMore_53
    | succ zk2 ih3 =>
      intro zS3 H locs hik hf hP hS ls hl
      rw [LX8_oneMore_3] at hf
      rw [nI_pred] at hl
      refine lv_iload_n hx hb dX8_oneMore_3 rfl (lv_at hl 0 rfl) ?_
      refine lv_if_lt (tgt := 53) hx hb dX8_oneMore_4 (by decide) (fun zc5 => absurd zc5 (nI_pos (by omega))) (fun zc5 => ?_)
      refine lv_iload_n hx hb dX8_oneMore_7 rfl (lv_at hl 0 rfl) ?_
      refine lv_if_ne (tgt := 15) hx hb dX8_oneMore_8 (by decide) (fun zc6 => ?_) (fun zc6 => ?_)
      · have hf := hf.trans (if_neg zc6)
        refine lv_aload_n hx hb dX8_oneMore_15 rfl (lv_at hl 1 rfl) ?_
        refine gO (T := TX8) C0 inA8 hK hP (mMain g) rfl 31 (by decide) (hts _ q707) (v := .ref (g.1 0 31)) rfl dX8_oneMore_16 ?_
        refine lv_iload_n hx hb dX8_oneMore_19 rfl (lv_at hl 0 rfl) ?_
        refine lv_iconst (v := 1) hx hb dX8_oneMore_20 (by decide) ?_
        refine lv_isub hx hb dX8_oneMore_21 ?_
        refine gJ C0 hK hP (mParts g) (vpn1 zc6 (by omega)) dX8_oneMore_22 ?_
        refine lv_lstore_n (lv' := [(3, .long (zS3.2 (Int32.toNatClampNeg ((nI zk2) - 1)))), (2, .int (nI zk2)), (0, .ref (g.1 0 0)), (1, .int p1)]) hx hb dX8_oneMore_23 rfl hl (by decide) rfl (fun ls hl => ?_)
        refine lv_aload_n hx hb dX8_oneMore_24 rfl (lv_at hl 2 rfl) ?_
        refine gO (T := TX8) C0 inA8 hK hP (mMain g) rfl 31 (by decide) (hts _ q707) (v := .ref (g.1 0 31)) rfl dX8_oneMore_25 ?_
        refine lv_iload_n hx hb dX8_oneMore_28 rfl (lv_at hl 1 rfl) ?_
        refine lv_aload_n hx hb dX8_oneMore_29 rfl (lv_at hl 2 rfl) ?_
        refine gO (T := TX8) C0 inA8 hK hP (mMain g) rfl 31 (by decide) (hts _ q707) (v := .ref (g.1 0 31)) rfl dX8_oneMore_30 ?_
        refine lv_iload_n hx hb dX8_oneMore_33 rfl (lv_at hl 1 rfl) ?_
        refine gJ C0 hK hP (mParts g) (vp_in_nI (by omega) (by decide)) dX8_oneMore_34 ?_
        rw [nI_clamp (n := zk2) (by omega)]
        refine lv_bipush (v := 100) hx hb dX8_oneMore_35 (by decide) ?_
        refine lv_iload_n hx hb dX8_oneMore_37 rfl (lv_at hl 3 rfl) ?_
        refine lv_isub hx hb dX8_oneMore_38 ?_
        refine lv_i2l (v := (Int32.toInt64 (100 - p1))) hx hb dX8_oneMore_39 rfl ?_
        refine lv_lmul hx hb dX8_oneMore_40 ?_
        refine lv_lload_n hx hb dX8_oneMore_41 rfl (lv_at hl 0 rfl) ?_
        refine lv_iload_n hx hb dX8_oneMore_42 rfl (lv_at hl 3 rfl) ?_
        refine lv_i2l (v := (Int32.toInt64 p1)) hx hb dX8_oneMore_43 rfl ?_
        refine lv_lmul hx hb dX8_oneMore_44 ?_
        refine lv_ladd hx hb dX8_oneMore_45 ?_
        refine pJ C0 hK hP hA hS (mParts g) (vp_in_nI (by omega) (by decide)) dX8_oneMore_46 (fun H locs hP hS => ?_)
        rw [nI_clamp (n := zk2) (by omega)] at hP
        obtain ⟨zS7, hzS7⟩ : ∃ z : St, z = (uL zS3 zk2 (((zS3.2 zk2) * (Int32.toInt64 (100 - p1))) + ((zS3.2 (Int32.toNatClampNeg ((nI zk2) - 1))) * (Int32.toInt64 p1)))) := ⟨_, rfl⟩
        rw [← hzS7] at hP
        have hf := hf.trans (bnd_eq hzS7)
        refine lv_iinc (v := ((nI zk2) + (-1))) (lv' := [(2, .int ((nI zk2) + (-1))), (3, .long (zS3.2 (Int32.toNatClampNeg ((nI zk2) - 1)))), (0, .ref (g.1 0 0)), (1, .int p1)]) hx hb dX8_oneMore_47 hl (k := 1) rfl rfl (by decide) rfl (fun ls hl => ?_)
        refine lv_goto (tgt := 3) hx hb dX8_oneMore_50 (by decide) ?_
        exact ih3 zS7 _ _ (by omega) hf hP hS ls (lv_sub (lv_eqI hl (m1_eq _)) [0, 2, 3] rfl)
      · have hf := hf.trans (if_pos zc6)
        refine lv_lconst (v := 0) hx hb dX8_oneMore_11 (by decide) ?_
        refine lv_goto (tgt := 23) hx hb dX8_oneMore_12 (by decide) ?_
        refine lv_lstore_n (lv' := [(3, .long 0), (2, .int (nI zk2)), (0, .ref (g.1 0 0)), (1, .int p1)]) hx hb dX8_oneMore_23 rfl hl (by decide) rfl (fun ls hl => ?_)
        refine lv_aload_n hx hb dX8_oneMore_24 rfl (lv_at hl 2 rfl) ?_
        refine gO (T := TX8) C0 inA8 hK hP (mMain g) rfl 31 (by decide) (hts _ q707) (v := .ref (g.1 0 31)) rfl dX8_oneMore_25 ?_
        refine lv_iload_n hx hb dX8_oneMore_28 rfl (lv_at hl 1 rfl) ?_
        refine lv_aload_n hx hb dX8_oneMore_29 rfl (lv_at hl 2 rfl) ?_
        refine gO (T := TX8) C0 inA8 hK hP (mMain g) rfl 31 (by decide) (hts _ q707) (v := .ref (g.1 0 31)) rfl dX8_oneMore_30 ?_
        refine lv_iload_n hx hb dX8_oneMore_33 rfl (lv_at hl 1 rfl) ?_
        refine gJ C0 hK hP (mParts g) (vp_in_nI (by omega) (by decide)) dX8_oneMore_34 ?_
        rw [nI_clamp (n := zk2) (by omega)]
        refine lv_bipush (v := 100) hx hb dX8_oneMore_35 (by decide) ?_
        refine lv_iload_n hx hb dX8_oneMore_37 rfl (lv_at hl 3 rfl) ?_
        refine lv_isub hx hb dX8_oneMore_38 ?_
        refine lv_i2l (v := (Int32.toInt64 (100 - p1))) hx hb dX8_oneMore_39 rfl ?_
        refine lv_lmul hx hb dX8_oneMore_40 ?_
        refine lv_lload_n hx hb dX8_oneMore_41 rfl (lv_at hl 0 rfl) ?_
        refine lv_iload_n hx hb dX8_oneMore_42 rfl (lv_at hl 3 rfl) ?_
        refine lv_i2l (v := (Int32.toInt64 p1)) hx hb dX8_oneMore_43 rfl ?_
        refine lv_lmul hx hb dX8_oneMore_44 ?_
        refine lv_ladd hx hb dX8_oneMore_45 ?_
        refine pJ C0 hK hP hA hS (mParts g) (vp_in_nI (by omega) (by decide)) dX8_oneMore_46 (fun H locs hP hS => ?_)
        rw [nI_clamp (n := zk2) (by omega)] at hP
        refine lv_iinc (v := ((nI zk2) + (-1))) (lv' := [(2, .int ((nI zk2) + (-1))), (3, .long 0), (0, .ref (g.1 0 0)), (1, .int p1)]) hx hb dX8_oneMore_47 hl (k := 1) rfl rfl (by decide) rfl (fun ls hl => ?_)
        refine lv_goto (tgt := 3) hx hb dX8_oneMore_50 (by decide) ?_
        exact ih3 (uL zS3 zk2 (((zS3.2 zk2) * (Int32.toInt64 (100 - p1))) + (0 * (Int32.toInt64 p1)))) _ _ (by omega) hf hP hS ls (lv_sub (lv_eqI hl (m1_eq _)) [0, 2, 3] rfl)
  exact lp3 7 S _ _ (by decide) hf hP hS ls (lv_sub (lv_eqI hl (by decide)) [0, 1, 2] rfl)
abbrev mAf (S : St) (k : Int32) : Prop := mSh S k ∧ (ishrF (S.1 0 0 1) k) &&& 1 = 1
theorem tX8_isAfloat_tree (g : Gd) (S : St) (p1 : Int32) : ((if mAf S p1 then 1 else 0) : Int32) =
  (if mSh S p1 then (if ((ishrF (S.1 0 0 1) p1) &&& 1) = 1 then 1 else 0) else 0) := by
  simp only [mAf]
  repeat' split
  all_goals first | rfl | (simp_all; done)
set_option maxHeartbeats 4000000 in
set_option maxRecDepth 100000 in
theorem kX8_isAfloat (l : Launch) (g : Gd) (A : Nat → Prop) (hA : Ads g.1 VM A) (S : St) (p1 : Int32) : Met l yX8_isAfloat (wU yX8_isAfloat cX8_isAfloat 2 (some .boolean)) { frames := 2, cells := 0, slots := 0, locals := 46 } (va_Pc [.ref (g.1 0 0), .int p1] (PW VM ctM g S)) (va_Qi (fun r u => r = (if mAf S p1 then 1 else 0) ∧ u = S) (fun u U => PW VM ctM g u U) A) 0 0 A := by
  refine ent (cc := cX8_isAfloat) (maxL := 2) (ret := (some .boolean)) (by decide) (Nat.le_of_ble_eq_true rfl) ?_
  intro p e s m below meth c args Q C0 hr hlocks hP hK hQ ls hl
  have hx := C0.1
  have hb := C0.2.1
  have hml := C0.2.2.1
  have hown := C0.2.2.2.1
  have hts := C0.2.2.2.2
  obtain ⟨F, hF⟩ : ∃ F : Int32, F = (if mAf S p1 then 1 else 0) := ⟨_, rfl⟩
  have hf := hF
  rw [tX8_isAfloat_tree g S p1] at hf
  have hS : va_S A s.heap s.heap [] := va_S.rf
  have hl : lv_has ls 2 [(0, .ref (g.1 0 0)), (1, .int p1)] := hl
  refine lv_aload_n hx hb dX8_isAfloat_0 rfl (lv_at hl 0 rfl) ?_
  refine lv_iload_n hx hb dX8_isAfloat_1 rfl (lv_at hl 1 rfl) ?_
  refine kzc (va_runV (As := [.int p1]) (rest := []) C0 (kX8_isShip l g A hA S p1) (cwV 1 hts (gV q812 q814 q13 q54 q815) rfl rfl rfl (by decide +kernel) ⟨Nat.le_of_ble_eq_true rfl, Nat.le_of_ble_eq_true rfl⟩) (preV (recO (mMain g) hP hK rfl) hP hK) rfl rfl hl.1 rfl (lv_room (Nat.le_of_ble_eq_true rfl)) dX8_isAfloat_2 ⟨Nat.zero_le _, Nat.zero_le _⟩) hS (fun _ h => h) (fun zc1 H locs hP hS => ?_) (fun zc1 H locs hP hS => ?_)
  · have hf := hf.trans (if_pos zc1)
    refine lv_if_eq (tgt := 24) hx hb dX8_isAfloat_5 (by decide) (fun zc2 => absurd zc2 (by decide)) (fun zc2 => ?_)
    refine lv_aload_n hx hb dX8_isAfloat_8 rfl (lv_at hl 0 rfl) ?_
    refine gO (T := TX8) C0 inA8 hK hP (mMain g) rfl 1 (by decide) (hts _ q677) (v := .int (S.1 0 0 1)) rfl dX8_isAfloat_9 ?_
    refine lv_iload_n hx hb dX8_isAfloat_12 rfl (lv_at hl 1 rfl) ?_
    refine kishr hx hb dX8_isAfloat_13 ?_
    refine lv_iconst (v := 1) hx hb dX8_isAfloat_14 (by decide) ?_
    refine lv_iand hx hb dX8_isAfloat_15 ?_
    refine lv_iconst (v := 1) hx hb dX8_isAfloat_16 (by decide) ?_
    refine lv_icmp_ne (tgt := 24) hx hb dX8_isAfloat_17 (by decide) (fun zc3 => ?_) (fun zc3 => ?_)
    · have hf := hf.trans (if_neg zc3)
      refine lv_iconst (v := 0) hx hb dX8_isAfloat_24 (by decide) ?_
      exact rz hQ C0 hr hlocks hK hP hS rfl (by rw [← hF]; exact ⟨hf.symm, rfl⟩) dX8_isAfloat_25
    · have hf := hf.trans (if_pos zc3)
      refine lv_iconst (v := 1) hx hb dX8_isAfloat_20 (by decide) ?_
      refine lv_goto (tgt := 25) hx hb dX8_isAfloat_21 (by decide) ?_
      exact rz hQ C0 hr hlocks hK hP hS rfl (by rw [← hF]; exact ⟨hf.symm, rfl⟩) dX8_isAfloat_25
  · have hf := hf.trans (if_neg zc1)
    refine lv_if_eq (tgt := 24) hx hb dX8_isAfloat_5 (by decide) (fun zc4 => ?_) (fun zc4 => absurd (by decide) zc4)
    refine lv_iconst (v := 0) hx hb dX8_isAfloat_24 (by decide) ?_
    exact rz hQ C0 hr hlocks hK hP hS rfl (by rw [← hF]; exact ⟨hf.symm, rfl⟩) dX8_isAfloat_25
def LX8_meanOfAll_4 (S : St) : Nat → Nat → Int64 → Int64
  | 0, zi1, zx3 => zx3
  | zk2 + 1, zi1, zx3 => (if mAf S (nI zi1) then (LX8_meanOfAll_4 S zk2 (zi1 + 1) (zx3 + (Int32.toInt64 (tX8_meanWith S (nI zi1) (S.1 0 5 zi1) (tX8_insured S (nI zi1)))))) else (LX8_meanOfAll_4 S zk2 (zi1 + 1) (zx3 + 0)))
def tX8_meanOfAll (S : St) : Int64 :=
  (LX8_meanOfAll_4 S 6 0 0)
set_option maxHeartbeats 4000000 in
set_option maxRecDepth 100000 in
theorem kX8_meanOfAll (l : Launch) (g : Gd) (A : Nat → Prop) (hA : Ads g.1 VM A) (S : St)  : Met l yX8_meanOfAll (wU yX8_meanOfAll cX8_meanOfAll 4 (some .long)) { frames := 3, cells := 0, slots := 0, locals := 67 } (va_Pc [.ref (g.1 0 0)] (PW VM ctM g S)) (va_Ql (fun r u => r = tX8_meanOfAll S ∧ u = S) (fun u U => PW VM ctM g u U) A) 0 0 A := by
  refine ent (cc := cX8_meanOfAll) (maxL := 4) (ret := (some .long)) (by decide) (Nat.le_of_ble_eq_true rfl) ?_
  intro p e s m below meth c args Q C0 hr hlocks hP hK hQ ls hl
  have hx := C0.1
  have hb := C0.2.1
  have hml := C0.2.2.1
  have hown := C0.2.2.2.1
  have hts := C0.2.2.2.2
  obtain ⟨F, hF⟩ : ∃ F : Int64, F = tX8_meanOfAll S := ⟨_, rfl⟩
  have hf := hF
  unfold tX8_meanOfAll at hf
  have hS : va_S A s.heap s.heap [] := va_S.rf
  have hl : lv_has ls 4 [(0, .ref (g.1 0 0))] := hl
  refine lv_lconst (v := 0) hx hb dX8_meanOfAll_0 (by decide) ?_
  refine lv_lstore_n (lv' := [(1, .long 0), (0, .ref (g.1 0 0))]) hx hb dX8_meanOfAll_1 rfl hl (by decide) rfl (fun ls hl => ?_)
  refine lv_iconst (v := 0) hx hb dX8_meanOfAll_2 (by decide) ?_
  refine lv_istore_n (lv' := [(3, .int 0), (1, .long 0), (0, .ref (g.1 0 0))]) hx hb dX8_meanOfAll_3 rfl hl (by decide) rfl (fun ls hl => ?_)
  have lp4 : ∀ (zk2 zi1 : Nat) (zx3 : Int64) (H : Heap) (locs : List Loc), (zi1 + zk2 = 6) → (F = LX8_meanOfAll_4 S zk2 zi1 zx3) → HW VM ctM g S H → va_S A s.heap H locs → ∀ ls : Array Slot, lv_has ls 4 [(3, .int (nI zi1)), (0, .ref (g.1 0 0)), (1, .long zx3)] → W p l e { frames := 3, cells := 0, slots := 0, locals := 67 } s m args below meth c H locs 0 0 Q (F0 m 4 ls []) := by
    intro zk2
    induction zk2 with
    | zero =>
      intro zi1 zx3 H locs hik hf hP hS ls hl
      rw [LX8_meanOfAll_4] at hf
      refine lv_iload_n hx hb dX8_meanOfAll_4 rfl (lv_at hl 0 rfl) ?_
      refine lv_bipush (v := 6) hx hb dX8_meanOfAll_5 (by decide) ?_
      refine lv_icmp_ge (tgt := 48) hx hb dX8_meanOfAll_7 (by decide) (fun zc4 => ?_) (fun zc4 => absurd (up_ge0 rfl hik (by decide)) zc4)
      refine lv_lload_n hx hb dX8_meanOfAll_48 rfl (lv_at hl 2 rfl) ?_
      exact rl hQ C0 hr hlocks hK hP hS (by rw [← hF]; exact ⟨hf.symm, rfl⟩) dX8_meanOfAll_49
    | succ zk2 ih4 =>
      intro zi1 zx3 H locs hik hf hP hS ls hl
      rw [LX8_meanOfAll_4] at hf
      refine lv_iload_n hx hb dX8_meanOfAll_4 rfl (lv_at hl 0 rfl) ?_
      refine lv_bipush (v := 6) hx hb dX8_meanOfAll_5 (by decide) ?_
      refine lv_icmp_ge (tgt := 48) hx hb dX8_meanOfAll_7 (by decide) (fun zc5 => absurd zc5 (up_ge1 rfl hik (by decide))) (fun zc5 => ?_)
      refine lv_lload_n hx hb dX8_meanOfAll_10 rfl (lv_at hl 2 rfl) ?_
      refine lv_aload_n hx hb dX8_meanOfAll_11 rfl (lv_at hl 1 rfl) ?_
      refine lv_iload_n hx hb dX8_meanOfAll_12 rfl (lv_at hl 0 rfl) ?_
      refine kzc (va_runV (As := [.int (nI zi1)]) (rest := [.long zx3]) C0 (kX8_isAfloat l g A hA S (nI zi1)) (cwV 1 hts (gV q976 q978 q33 q54 q979) rfl rfl rfl (by decide +kernel) ⟨Nat.le_of_ble_eq_true rfl, Nat.le_of_ble_eq_true rfl⟩) (preV (recO (mMain g) hP hK rfl) hP hK) rfl rfl hl.1 rfl (lv_room (Nat.le_of_ble_eq_true rfl)) dX8_meanOfAll_13 ⟨Nat.zero_le _, Nat.zero_le _⟩) hS (fun _ h => h) (fun zc6 H locs hP hS => ?_) (fun zc6 H locs hP hS => ?_)
      · have hf := hf.trans (if_pos zc6)
        refine lv_if_eq (tgt := 39) hx hb dX8_meanOfAll_16 (by decide) (fun zc7 => absurd zc7 (by decide)) (fun zc7 => ?_)
        refine lv_aload_n hx hb dX8_meanOfAll_19 rfl (lv_at hl 1 rfl) ?_
        refine lv_iload_n hx hb dX8_meanOfAll_20 rfl (lv_at hl 0 rfl) ?_
        refine lv_aload_n hx hb dX8_meanOfAll_21 rfl (lv_at hl 1 rfl) ?_
        refine gO (T := TX8) C0 inA8 hK hP (mMain g) rfl 5 (by decide) (hts _ q681) (v := .ref (g.1 0 5)) rfl dX8_meanOfAll_22 ?_
        refine lv_iload_n hx hb dX8_meanOfAll_25 rfl (lv_at hl 0 rfl) ?_
        refine gI C0 hK hP (mLoads g) (vp_in_nI (by omega) (by decide)) dX8_meanOfAll_26 ?_
        rw [nI_clamp (n := zi1) (by omega)]
        refine lv_aload_n hx hb dX8_meanOfAll_27 rfl (lv_at hl 1 rfl) ?_
        refine lv_iload_n hx hb dX8_meanOfAll_28 rfl (lv_at hl 0 rfl) ?_
        refine kiP (va_runV (As := [.int (nI zi1)]) (rest := [.int (S.1 0 5 zi1), .int (nI zi1), .ref (g.1 0 0), .long zx3]) C0 (kX8_insured l g A hA S (nI zi1) (mSh_in zc6.1)) (cwV 1 hts (gV q902 q904 q26 q54 q905) rfl rfl rfl (by decide +kernel) ⟨Nat.le_of_ble_eq_true rfl, Nat.le_of_ble_eq_true rfl⟩) (preV (recO (mMain g) hP hK rfl) hP hK) rfl rfl hl.1 rfl (lv_room (Nat.le_of_ble_eq_true rfl)) dX8_meanOfAll_29 ⟨Nat.zero_le _, Nat.zero_le _⟩) hS (fun _ h => h) (fun H locs hP hS => ?_)
        refine kiP (va_runV (As := [.int (nI zi1), .int (S.1 0 5 zi1), .int (tX8_insured S (nI zi1))]) (rest := [.long zx3]) C0 (kX8_meanWith l g A hA S (nI zi1) (S.1 0 5 zi1) (tX8_insured S (nI zi1)) (mSh_in zc6.1)) (cwV 3 hts (gV q943 q945 q30 q54 q946) rfl rfl rfl (by decide +kernel) ⟨Nat.le_of_ble_eq_true rfl, Nat.le_of_ble_eq_true rfl⟩) (preV (recO (mMain g) hP hK rfl) hP hK) rfl rfl hl.1 rfl (lv_room (Nat.le_of_ble_eq_true rfl)) dX8_meanOfAll_32 ⟨Nat.zero_le _, Nat.zero_le _⟩) hS (fun _ h => h) (fun H locs hP hS => ?_)
        refine lv_i2l (v := (Int32.toInt64 (tX8_meanWith S (nI zi1) (S.1 0 5 zi1) (tX8_insured S (nI zi1))))) hx hb dX8_meanOfAll_35 rfl ?_
        refine lv_goto (tgt := 40) hx hb dX8_meanOfAll_36 (by decide) ?_
        refine lv_ladd hx hb dX8_meanOfAll_40 ?_
        refine lv_lstore_n (lv' := [(1, .long (zx3 + (Int32.toInt64 (tX8_meanWith S (nI zi1) (S.1 0 5 zi1) (tX8_insured S (nI zi1)))))), (3, .int (nI zi1)), (0, .ref (g.1 0 0))]) hx hb dX8_meanOfAll_41 rfl hl (by decide) rfl (fun ls hl => ?_)
        refine lv_iinc (v := (nI (zi1 + 1))) (lv' := [(3, .int (nI (zi1 + 1))), (1, .long (zx3 + (Int32.toInt64 (tX8_meanWith S (nI zi1) (S.1 0 5 zi1) (tX8_insured S (nI zi1)))))), (0, .ref (g.1 0 0))]) hx hb dX8_meanOfAll_42 hl (k := 1) rfl (nI_1 _) (by decide) rfl (fun ls hl => ?_)
        refine lv_goto (tgt := 4) hx hb dX8_meanOfAll_45 (by decide) ?_
        exact ih4 (zi1 + 1) (zx3 + (Int32.toInt64 (tX8_meanWith S (nI zi1) (S.1 0 5 zi1) (tX8_insured S (nI zi1))))) _ _ (by omega) hf hP hS ls (lv_sub hl [0, 2, 1] rfl)
      · have hf := hf.trans (if_neg zc6)
        refine lv_if_eq (tgt := 39) hx hb dX8_meanOfAll_16 (by decide) (fun zc8 => ?_) (fun zc8 => absurd (by decide) zc8)
        refine lv_lconst (v := 0) hx hb dX8_meanOfAll_39 (by decide) ?_
        refine lv_ladd hx hb dX8_meanOfAll_40 ?_
        refine lv_lstore_n (lv' := [(1, .long (zx3 + 0)), (3, .int (nI zi1)), (0, .ref (g.1 0 0))]) hx hb dX8_meanOfAll_41 rfl hl (by decide) rfl (fun ls hl => ?_)
        refine lv_iinc (v := (nI (zi1 + 1))) (lv' := [(3, .int (nI (zi1 + 1))), (1, .long (zx3 + 0)), (0, .ref (g.1 0 0))]) hx hb dX8_meanOfAll_42 hl (k := 1) rfl (nI_1 _) (by decide) rfl (fun ls hl => ?_)
        refine lv_goto (tgt := 4) hx hb dX8_meanOfAll_45 (by decide) ?_
        exact ih4 (zi1 + 1) (zx3 + 0) _ _ (by omega) hf hP hS ls (lv_sub hl [0, 2, 1] rfl)
  exact lp4 6 0 0 _ _ (by decide) hf hP hS ls (lv_sub hl [0, 2, 1] rfl)
def LX8_digitsOf_8 (S : St) (p1 : Int32) (p2 : Int32) (p3 : Int32) : Nat → Nat → Int32 → Int32 → Int32
  | 0, zi1, zx3, zx4 => zx3
  | zk2 + 1, zi1, zx3, zx4 => (if (b01 p3) = 0 then (if ((ishrF p2 (nI zi1)) &&& 1) = 1 then (LX8_digitsOf_8 S p1 p2 p3 zk2 (zi1 + 1) (zx3 + (irm zx4 10)) (zx4 / 10)) else (LX8_digitsOf_8 S p1 p2 p3 zk2 (zi1 + 1) (zx3 + 0) (zx4 / 10))) else (if ((ishrF p2 (5 - (nI zi1))) &&& 1) = 1 then (LX8_digitsOf_8 S p1 p2 p3 zk2 (zi1 + 1) (zx3 + (irm zx4 10)) (zx4 / 10)) else (LX8_digitsOf_8 S p1 p2 p3 zk2 (zi1 + 1) (zx3 + 0) (zx4 / 10))))
def tX8_digitsOf (S : St) (p1 : Int32) (p2 : Int32) (p3 : Int32) : Int32 :=
  (LX8_digitsOf_8 S p1 p2 p3 6 0 0 p1)
set_option maxHeartbeats 4000000 in
set_option maxRecDepth 100000 in
theorem kX8_digitsOf (l : Launch) (g : Gd) (A : Nat → Prop) (hA : Ads g.1 VM A) (S : St) (p1 : Int32) (p2 : Int32) (p3 : Int32) : Met l yX8_digitsOf (wU yX8_digitsOf cX8_digitsOf 7 (some .int)) { frames := 0, cells := 0, slots := 0, locals := 0 } (va_Pc [.int p1, .int p2, .int (b01 p3)] (PW VM ctM g S)) (va_Qi (fun r u => r = tX8_digitsOf S p1 p2 p3 ∧ u = S) (fun u U => PW VM ctM g u U) A) 0 0 A := by
  refine ent (cc := cX8_digitsOf) (maxL := 7) (ret := (some .int)) (by decide) (Nat.le_of_ble_eq_true rfl) ?_
  intro p e s m below meth c args Q C0 hr hlocks hP hK hQ ls hl
  have hx := C0.1
  have hb := C0.2.1
  have hml := C0.2.2.1
  have hown := C0.2.2.2.1
  have hts := C0.2.2.2.2
  obtain ⟨F, hF⟩ : ∃ F : Int32, F = tX8_digitsOf S p1 p2 p3 := ⟨_, rfl⟩
  have hf := hF
  unfold tX8_digitsOf at hf
  have hS : va_S A s.heap s.heap [] := va_S.rf
  have hl : lv_has ls 7 [(0, .int p1), (1, .int p2), (2, .int (b01 p3))] := hl
  refine lv_iload_n hx hb dX8_digitsOf_0 rfl (lv_at hl 0 rfl) ?_
  refine lv_istore_n (lv' := [(3, .int p1), (0, .int p1), (1, .int p2), (2, .int (b01 p3))]) hx hb dX8_digitsOf_1 rfl hl (by decide) rfl (fun ls hl => ?_)
  refine lv_iconst (v := 0) hx hb dX8_digitsOf_2 (by decide) ?_
  refine lv_istore (lv' := [(4, .int 0), (3, .int p1), (0, .int p1), (1, .int p2), (2, .int (b01 p3))]) hx hb dX8_digitsOf_3 hl (by decide) rfl (fun ls hl => ?_)
  refine lv_iconst (v := 0) hx hb dX8_digitsOf_5 (by decide) ?_
  refine lv_istore (lv' := [(5, .int 0), (4, .int 0), (3, .int p1), (0, .int p1), (1, .int p2), (2, .int (b01 p3))]) hx hb dX8_digitsOf_6 hl (by decide) rfl (fun ls hl => ?_)
  have lp8 : ∀ (zk2 zi1 : Nat) (zx3 : Int32) (zx4 : Int32) (H : Heap) (locs : List Loc), (zi1 + zk2 = 6) → (F = LX8_digitsOf_8 S p1 p2 p3 zk2 zi1 zx3 zx4) → HW VM ctM g S H → va_S A s.heap H locs → ∀ ls : Array Slot, lv_has ls 7 [(5, .int (nI zi1)), (0, .int p1), (1, .int p2), (2, .int (b01 p3)), (4, .int zx3), (3, .int zx4)] → W p l e { frames := 0, cells := 0, slots := 0, locals := 0 } s m args below meth c H locs 0 0 Q (F0 m 8 ls []) := by
    intro zk2
    induction zk2 with
    | zero =>
      intro zi1 zx3 zx4 H locs hik hf hP hS ls hl
      rw [LX8_digitsOf_8] at hf
      refine lv_iload hx hb dX8_digitsOf_8 (lv_at hl 0 rfl) ?_
      refine lv_bipush (v := 6) hx hb dX8_digitsOf_10 (by decide) ?_
      refine lv_icmp_ge (tgt := 64) hx hb dX8_digitsOf_12 (by decide) (fun zc5 => ?_) (fun zc5 => absurd (up_ge0 rfl hik (by decide)) zc5)
      refine lv_iload hx hb dX8_digitsOf_64 (lv_at hl 4 rfl) ?_
      exact ri hQ C0 hr hlocks hK hP hS (by rw [← hF]; exact ⟨hf.symm, rfl⟩) dX8_digitsOf_66
    | succ zk2 ih8 =>
      intro zi1 zx3 zx4 H locs hik hf hP hS ls hl
      rw [LX8_digitsOf_8] at hf
      refine lv_iload hx hb dX8_digitsOf_8 (lv_at hl 0 rfl) ?_
      refine lv_bipush (v := 6) hx hb dX8_digitsOf_10 (by decide) ?_
      refine lv_icmp_ge (tgt := 64) hx hb dX8_digitsOf_12 (by decide) (fun zc6 => absurd zc6 (up_ge1 rfl hik (by decide))) (fun zc6 => ?_)
      refine lv_iload_n hx hb dX8_digitsOf_15 rfl (lv_at hl 3 rfl) ?_
      refine lv_if_eq (tgt := 26) hx hb dX8_digitsOf_16 (by decide) (fun zc7 => ?_) (fun zc7 => ?_)
      · have hf := hf.trans (if_pos zc7)
        refine lv_iload hx hb dX8_digitsOf_26 (lv_at hl 0 rfl) ?_
        refine lv_istore (lv' := [(6, .int (nI zi1)), (5, .int (nI zi1)), (0, .int p1), (1, .int p2), (2, .int (b01 p3)), (4, .int zx3), (3, .int zx4)]) hx hb dX8_digitsOf_28 hl (by decide) rfl (fun ls hl => ?_)
        refine lv_iload hx hb dX8_digitsOf_30 (lv_at hl 5 rfl) ?_
        refine lv_iload_n hx hb dX8_digitsOf_32 rfl (lv_at hl 3 rfl) ?_
        refine lv_iload hx hb dX8_digitsOf_33 (lv_at hl 0 rfl) ?_
        refine kishr hx hb dX8_digitsOf_35 ?_
        refine lv_iconst (v := 1) hx hb dX8_digitsOf_36 (by decide) ?_
        refine lv_iand hx hb dX8_digitsOf_37 ?_
        refine lv_iconst (v := 1) hx hb dX8_digitsOf_38 (by decide) ?_
        refine lv_icmp_ne (tgt := 49) hx hb dX8_digitsOf_39 (by decide) (fun zc8 => ?_) (fun zc8 => ?_)
        · have hf := hf.trans (if_neg zc8)
          refine lv_iconst (v := 0) hx hb dX8_digitsOf_49 (by decide) ?_
          refine lv_iadd hx hb dX8_digitsOf_50 ?_
          refine lv_istore (lv' := [(4, .int (zx3 + 0)), (6, .int (nI zi1)), (5, .int (nI zi1)), (0, .int p1), (1, .int p2), (2, .int (b01 p3)), (3, .int zx4)]) hx hb dX8_digitsOf_51 hl (by decide) rfl (fun ls hl => ?_)
          refine lv_iload_n hx hb dX8_digitsOf_53 rfl (lv_at hl 6 rfl) ?_
          refine lv_bipush (v := 10) hx hb dX8_digitsOf_54 (by decide) ?_
          refine lv_idiv hx hb dX8_digitsOf_56 (by decide) ?_
          refine lv_istore_n (lv' := [(3, .int (zx4 / 10)), (4, .int (zx3 + 0)), (6, .int (nI zi1)), (5, .int (nI zi1)), (0, .int p1), (1, .int p2), (2, .int (b01 p3))]) hx hb dX8_digitsOf_57 rfl hl (by decide) rfl (fun ls hl => ?_)
          refine lv_iinc (v := (nI (zi1 + 1))) (lv' := [(5, .int (nI (zi1 + 1))), (3, .int (zx4 / 10)), (4, .int (zx3 + 0)), (6, .int (nI zi1)), (0, .int p1), (1, .int p2), (2, .int (b01 p3))]) hx hb dX8_digitsOf_58 hl (k := 3) rfl (nI_1 _) (by decide) rfl (fun ls hl => ?_)
          refine lv_goto (tgt := 8) hx hb dX8_digitsOf_61 (by decide) ?_
          exact ih8 (zi1 + 1) (zx3 + 0) (zx4 / 10) _ _ (by omega) hf hP hS ls (lv_sub hl [0, 4, 5, 6, 2, 1] rfl)
        · have hf := hf.trans (if_pos zc8)
          refine lv_iload_n hx hb dX8_digitsOf_42 rfl (lv_at hl 6 rfl) ?_
          refine lv_bipush (v := 10) hx hb dX8_digitsOf_43 (by decide) ?_
          refine kirem hx hb dX8_digitsOf_45 (by decide) ?_
          refine lv_goto (tgt := 50) hx hb dX8_digitsOf_46 (by decide) ?_
          refine lv_iadd hx hb dX8_digitsOf_50 ?_
          refine lv_istore (lv' := [(4, .int (zx3 + (irm zx4 10))), (6, .int (nI zi1)), (5, .int (nI zi1)), (0, .int p1), (1, .int p2), (2, .int (b01 p3)), (3, .int zx4)]) hx hb dX8_digitsOf_51 hl (by decide) rfl (fun ls hl => ?_)
          refine lv_iload_n hx hb dX8_digitsOf_53 rfl (lv_at hl 6 rfl) ?_
          refine lv_bipush (v := 10) hx hb dX8_digitsOf_54 (by decide) ?_
          refine lv_idiv hx hb dX8_digitsOf_56 (by decide) ?_
          refine lv_istore_n (lv' := [(3, .int (zx4 / 10)), (4, .int (zx3 + (irm zx4 10))), (6, .int (nI zi1)), (5, .int (nI zi1)), (0, .int p1), (1, .int p2), (2, .int (b01 p3))]) hx hb dX8_digitsOf_57 rfl hl (by decide) rfl (fun ls hl => ?_)
          refine lv_iinc (v := (nI (zi1 + 1))) (lv' := [(5, .int (nI (zi1 + 1))), (3, .int (zx4 / 10)), (4, .int (zx3 + (irm zx4 10))), (6, .int (nI zi1)), (0, .int p1), (1, .int p2), (2, .int (b01 p3))]) hx hb dX8_digitsOf_58 hl (k := 3) rfl (nI_1 _) (by decide) rfl (fun ls hl => ?_)
          refine lv_goto (tgt := 8) hx hb dX8_digitsOf_61 (by decide) ?_
          exact ih8 (zi1 + 1) (zx3 + (irm zx4 10)) (zx4 / 10) _ _ (by omega) hf hP hS ls (lv_sub hl [0, 4, 5, 6, 2, 1] rfl)
      · have hf := hf.trans (if_neg zc7)
        refine lv_iconst (v := 5) hx hb dX8_digitsOf_19 (by decide) ?_
        refine lv_iload hx hb dX8_digitsOf_20 (lv_at hl 0 rfl) ?_
        refine lv_isub hx hb dX8_digitsOf_22 ?_
        refine lv_goto (tgt := 28) hx hb dX8_digitsOf_23 (by decide) ?_
        refine lv_istore (lv' := [(6, .int (5 - (nI zi1))), (5, .int (nI zi1)), (0, .int p1), (1, .int p2), (2, .int (b01 p3)), (4, .int zx3), (3, .int zx4)]) hx hb dX8_digitsOf_28 hl (by decide) rfl (fun ls hl => ?_)
        refine lv_iload hx hb dX8_digitsOf_30 (lv_at hl 5 rfl) ?_
        refine lv_iload_n hx hb dX8_digitsOf_32 rfl (lv_at hl 3 rfl) ?_
        refine lv_iload hx hb dX8_digitsOf_33 (lv_at hl 0 rfl) ?_
        refine kishr hx hb dX8_digitsOf_35 ?_
        refine lv_iconst (v := 1) hx hb dX8_digitsOf_36 (by decide) ?_
        refine lv_iand hx hb dX8_digitsOf_37 ?_
        refine lv_iconst (v := 1) hx hb dX8_digitsOf_38 (by decide) ?_
        refine lv_icmp_ne (tgt := 49) hx hb dX8_digitsOf_39 (by decide) (fun zc9 => ?_) (fun zc9 => ?_)
        · have hf := hf.trans (if_neg zc9)
          refine lv_iconst (v := 0) hx hb dX8_digitsOf_49 (by decide) ?_
          refine lv_iadd hx hb dX8_digitsOf_50 ?_
          refine lv_istore (lv' := [(4, .int (zx3 + 0)), (6, .int (5 - (nI zi1))), (5, .int (nI zi1)), (0, .int p1), (1, .int p2), (2, .int (b01 p3)), (3, .int zx4)]) hx hb dX8_digitsOf_51 hl (by decide) rfl (fun ls hl => ?_)
          refine lv_iload_n hx hb dX8_digitsOf_53 rfl (lv_at hl 6 rfl) ?_
          refine lv_bipush (v := 10) hx hb dX8_digitsOf_54 (by decide) ?_
          refine lv_idiv hx hb dX8_digitsOf_56 (by decide) ?_
          refine lv_istore_n (lv' := [(3, .int (zx4 / 10)), (4, .int (zx3 + 0)), (6, .int (5 - (nI zi1))), (5, .int (nI zi1)), (0, .int p1), (1, .int p2), (2, .int (b01 p3))]) hx hb dX8_digitsOf_57 rfl hl (by decide) rfl (fun ls hl => ?_)
          refine lv_iinc (v := (nI (zi1 + 1))) (lv' := [(5, .int (nI (zi1 + 1))), (3, .int (zx4 / 10)), (4, .int (zx3 + 0)), (6, .int (5 - (nI zi1))), (0, .int p1), (1, .int p2), (2, .int (b01 p3))]) hx hb dX8_digitsOf_58 hl (k := 3) rfl (nI_1 _) (by decide) rfl (fun ls hl => ?_)
          refine lv_goto (tgt := 8) hx hb dX8_digitsOf_61 (by decide) ?_
          exact ih8 (zi1 + 1) (zx3 + 0) (zx4 / 10) _ _ (by omega) hf hP hS ls (lv_sub hl [0, 4, 5, 6, 2, 1] rfl)
        · have hf := hf.trans (if_pos zc9)
          refine lv_iload_n hx hb dX8_digitsOf_42 rfl (lv_at hl 6 rfl) ?_
          refine lv_bipush (v := 10) hx hb dX8_digitsOf_43 (by decide) ?_
          refine kirem hx hb dX8_digitsOf_45 (by decide) ?_
          refine lv_goto (tgt := 50) hx hb dX8_digitsOf_46 (by decide) ?_
          refine lv_iadd hx hb dX8_digitsOf_50 ?_
          refine lv_istore (lv' := [(4, .int (zx3 + (irm zx4 10))), (6, .int (5 - (nI zi1))), (5, .int (nI zi1)), (0, .int p1), (1, .int p2), (2, .int (b01 p3)), (3, .int zx4)]) hx hb dX8_digitsOf_51 hl (by decide) rfl (fun ls hl => ?_)
          refine lv_iload_n hx hb dX8_digitsOf_53 rfl (lv_at hl 6 rfl) ?_
          refine lv_bipush (v := 10) hx hb dX8_digitsOf_54 (by decide) ?_
          refine lv_idiv hx hb dX8_digitsOf_56 (by decide) ?_
          refine lv_istore_n (lv' := [(3, .int (zx4 / 10)), (4, .int (zx3 + (irm zx4 10))), (6, .int (5 - (nI zi1))), (5, .int (nI zi1)), (0, .int p1), (1, .int p2), (2, .int (b01 p3))]) hx hb dX8_digitsOf_57 rfl hl (by decide) rfl (fun ls hl => ?_)
          refine lv_iinc (v := (nI (zi1 + 1))) (lv' := [(5, .int (nI (zi1 + 1))), (3, .int (zx4 / 10)), (4, .int (zx3 + (irm zx4 10))), (6, .int (5 - (nI zi1))), (0, .int p1), (1, .int p2), (2, .int (b01 p3))]) hx hb dX8_digitsOf_58 hl (k := 3) rfl (nI_1 _) (by decide) rfl (fun ls hl => ?_)
          refine lv_goto (tgt := 8) hx hb dX8_digitsOf_61 (by decide) ?_
          exact ih8 (zi1 + 1) (zx3 + (irm zx4 10)) (zx4 / 10) _ _ (by omega) hf hP hS ls (lv_sub hl [0, 4, 5, 6, 2, 1] rfl)
  exact lp8 6 0 0 p1 _ _ (by decide) hf hP hS ls (lv_sub hl [0, 3, 4, 5, 1, 2] rfl)
def LX8_fleet_56 (S : St) (p1 : Int32) (p2 : Int32) (p3 : Int32) (p4 : Int32) : Nat → Nat → Int32 → Int32
  | 0, zi9, zx11 => (if p4 = 0 then (tX8_digitsOf S p2 zx11 1) else zx11)
  | zk10 + 1, zi9, zx11 => (if p3 < (tX8_digitsOf S p1 (nI zi9) 1) then (LX8_fleet_56 S p1 p2 p3 p4 zk10 (zi9 + 1) zx11) else (if (tX8_digitsOf S p2 (nI zi9) 1) ≤ (tX8_digitsOf S p2 zx11 1) then (LX8_fleet_56 S p1 p2 p3 p4 zk10 (zi9 + 1) zx11) else (LX8_fleet_56 S p1 p2 p3 p4 zk10 (zi9 + 1) (nI zi9))))
def tX8_fleet (S : St) (p1 : Int32) (p2 : Int32) (p3 : Int32) (p4 : Int32) : Int32 :=
  (if wj (Int32.toInt64 p1) 0 999999 then (if wj (Int32.toInt64 p2) 0 999999 then (if wj (Int32.toInt64 p3) 0 54 then (if wj (Int32.toInt64 p4) 0 1 then (LX8_fleet_56 S p1 p2 p3 p4 63 1 0) else (-2)) else (-2)) else (-2)) else (-2))
set_option maxHeartbeats 4000000 in
set_option maxRecDepth 100000 in
theorem kX8_fleet (l : Launch) (g : Gd) (A : Nat → Prop) (hA : Ads g.1 VM A) (S : St) (p1 : Int32) (p2 : Int32) (p3 : Int32) (p4 : Int32) : Met l yX8_fleet (wU yX8_fleet cX8_fleet 8 (some .int)) { frames := 1, cells := 0, slots := 0, locals := 26 } (va_Pc [.ref (g.1 0 0), .int p1, .int p2, .int p3, .int p4] (PW VM ctM g S)) (va_Qi (fun r u => r = tX8_fleet S p1 p2 p3 p4 ∧ u = S) (fun u U => PW VM ctM g u U) A) 0 0 A := by
  refine ent (cc := cX8_fleet) (maxL := 8) (ret := (some .int)) (by decide) (Nat.le_of_ble_eq_true rfl) ?_
  intro p e s m below meth c args Q C0 hr hlocks hP hK hQ ls hl
  have hx := C0.1
  have hb := C0.2.1
  have hml := C0.2.2.1
  have hown := C0.2.2.2.1
  have hts := C0.2.2.2.2
  obtain ⟨F, hF⟩ : ∃ F : Int32, F = tX8_fleet S p1 p2 p3 p4 := ⟨_, rfl⟩
  have hf := hF
  unfold tX8_fleet at hf
  have hS : va_S A s.heap s.heap [] := va_S.rf
  have hl : lv_has ls 8 [(0, .ref (g.1 0 0)), (1, .int p1), (2, .int p2), (3, .int p3), (4, .int p4)] := hl
  refine lv_iload_n hx hb dX8_fleet_0 rfl (lv_at hl 1 rfl) ?_
  refine lv_i2l (v := (Int32.toInt64 p1)) hx hb dX8_fleet_1 rfl ?_
  refine lv_lconst (v := 0) hx hb dX8_fleet_2 (by decide) ?_
  refine lv_ldc2 (v := 999999) hx hb hown (hts _ q988) dX8_fleet_3 ?_
  refine kzc (va_runS (As := [.long (Int32.toInt64 p1), .long 0, .long 999999]) (rest := []) C0 (kX8_in l g A hA S (Int32.toInt64 p1) 0 999999) (va_cwS 3 hts (gS q799 q800 q54 q801) rfl rfl rfl (by decide +kernel) ⟨Nat.le_of_ble_eq_true rfl, Nat.le_of_ble_eq_true rfl⟩) (preS hP hK) rfl rfl hl.1 rfl (lv_room (Nat.le_of_ble_eq_true rfl)) dX8_fleet_6 ⟨Nat.zero_le _, Nat.zero_le _⟩) hS (fun _ h => h) (fun zc1 H locs hP hS => ?_) (fun zc1 H locs hP hS => ?_)
  · have hf := hf.trans (if_pos zc1)
    refine lv_if_eq (tgt := 47) hx hb dX8_fleet_9 (by decide) (fun zc2 => absurd zc2 (by decide)) (fun zc2 => ?_)
    refine lv_iload_n hx hb dX8_fleet_12 rfl (lv_at hl 2 rfl) ?_
    refine lv_i2l (v := (Int32.toInt64 p2)) hx hb dX8_fleet_13 rfl ?_
    refine lv_lconst (v := 0) hx hb dX8_fleet_14 (by decide) ?_
    refine lv_ldc2 (v := 999999) hx hb hown (hts _ q988) dX8_fleet_15 ?_
    refine kzc (va_runS (As := [.long (Int32.toInt64 p2), .long 0, .long 999999]) (rest := []) C0 (kX8_in l g A hA S (Int32.toInt64 p2) 0 999999) (va_cwS 3 hts (gS q799 q800 q54 q801) rfl rfl rfl (by decide +kernel) ⟨Nat.le_of_ble_eq_true rfl, Nat.le_of_ble_eq_true rfl⟩) (preS hP hK) rfl rfl hl.1 rfl (lv_room (Nat.le_of_ble_eq_true rfl)) dX8_fleet_18 ⟨Nat.zero_le _, Nat.zero_le _⟩) hS (fun _ h => h) (fun zc3 H locs hP hS => ?_) (fun zc3 H locs hP hS => ?_)
    · have hf := hf.trans (if_pos zc3)
      refine lv_if_eq (tgt := 47) hx hb dX8_fleet_21 (by decide) (fun zc4 => absurd zc4 (by decide)) (fun zc4 => ?_)
      refine lv_iload_n hx hb dX8_fleet_24 rfl (lv_at hl 3 rfl) ?_
      refine lv_i2l (v := (Int32.toInt64 p3)) hx hb dX8_fleet_25 rfl ?_
      refine lv_lconst (v := 0) hx hb dX8_fleet_26 (by decide) ?_
      refine lv_ldc2 (v := 54) hx hb hown (hts _ q989) dX8_fleet_27 ?_
      refine kzc (va_runS (As := [.long (Int32.toInt64 p3), .long 0, .long 54]) (rest := []) C0 (kX8_in l g A hA S (Int32.toInt64 p3) 0 54) (va_cwS 3 hts (gS q799 q800 q54 q801) rfl rfl rfl (by decide +kernel) ⟨Nat.le_of_ble_eq_true rfl, Nat.le_of_ble_eq_true rfl⟩) (preS hP hK) rfl rfl hl.1 rfl (lv_room (Nat.le_of_ble_eq_true rfl)) dX8_fleet_30 ⟨Nat.zero_le _, Nat.zero_le _⟩) hS (fun _ h => h) (fun zc5 H locs hP hS => ?_) (fun zc5 H locs hP hS => ?_)
      · have hf := hf.trans (if_pos zc5)
        refine lv_if_eq (tgt := 47) hx hb dX8_fleet_33 (by decide) (fun zc6 => absurd zc6 (by decide)) (fun zc6 => ?_)
        refine lv_iload hx hb dX8_fleet_36 (lv_at hl 4 rfl) ?_
        refine lv_i2l (v := (Int32.toInt64 p4)) hx hb dX8_fleet_38 rfl ?_
        refine lv_lconst (v := 0) hx hb dX8_fleet_39 (by decide) ?_
        refine lv_lconst (v := 1) hx hb dX8_fleet_40 (by decide) ?_
        refine kzc (va_runS (As := [.long (Int32.toInt64 p4), .long 0, .long 1]) (rest := []) C0 (kX8_in l g A hA S (Int32.toInt64 p4) 0 1) (va_cwS 3 hts (gS q799 q800 q54 q801) rfl rfl rfl (by decide +kernel) ⟨Nat.le_of_ble_eq_true rfl, Nat.le_of_ble_eq_true rfl⟩) (preS hP hK) rfl rfl hl.1 rfl (lv_room (Nat.le_of_ble_eq_true rfl)) dX8_fleet_41 ⟨Nat.zero_le _, Nat.zero_le _⟩) hS (fun _ h => h) (fun zc7 H locs hP hS => ?_) (fun zc7 H locs hP hS => ?_)
        · have hf := hf.trans (if_pos zc7)
          refine lv_if_ne (tgt := 50) hx hb dX8_fleet_44 (by decide) (fun zc8 => ?_) (fun zc8 => absurd zc8 (by decide))
          refine lv_iconst (v := 0) hx hb dX8_fleet_50 (by decide) ?_
          refine lv_istore (lv' := [(5, .int 0), (0, .ref (g.1 0 0)), (1, .int p1), (2, .int p2), (3, .int p3), (4, .int p4)]) hx hb dX8_fleet_51 hl (by decide) rfl (fun ls hl => ?_)
          refine lv_iconst (v := 1) hx hb dX8_fleet_53 (by decide) ?_
          refine lv_istore (lv' := [(6, .int 1), (5, .int 0), (0, .ref (g.1 0 0)), (1, .int p1), (2, .int p2), (3, .int p3), (4, .int p4)]) hx hb dX8_fleet_54 hl (by decide) rfl (fun ls hl => ?_)
          have lp56 : ∀ (zk10 zi9 : Nat) (zx11 : Int32) (H : Heap) (locs : List Loc), (zi9 + zk10 = 64) → (F = LX8_fleet_56 S p1 p2 p3 p4 zk10 zi9 zx11) → HW VM ctM g S H → va_S A s.heap H locs → ∀ ls : Array Slot, lv_has ls 8 [(6, .int (nI zi9)), (0, .ref (g.1 0 0)), (1, .int p1), (2, .int p2), (3, .int p3), (4, .int p4), (5, .int zx11)] → W p l e { frames := 1, cells := 0, slots := 0, locals := 26 } s m args below meth c H locs 0 0 Q (F0 m 56 ls []) := by
            intro zk10
            induction zk10 with
            | zero =>
              intro zi9 zx11 H locs hik hf hP hS ls hl
              rw [LX8_fleet_56] at hf
              refine lv_iload hx hb dX8_fleet_56 (lv_at hl 0 rfl) ?_
              refine lv_bipush (v := 64) hx hb dX8_fleet_58 (by decide) ?_
              refine lv_icmp_ge (tgt := 118) hx hb dX8_fleet_60 (by decide) (fun zc12 => ?_) (fun zc12 => absurd (up_ge0 rfl hik (by decide)) zc12)
              refine lv_iload hx hb dX8_fleet_118 (lv_at hl 5 rfl) ?_
              refine lv_if_ne (tgt := 133) hx hb dX8_fleet_120 (by decide) (fun zc13 => ?_) (fun zc13 => ?_)
              · have hf := hf.trans (if_neg zc13)
                refine lv_iload hx hb dX8_fleet_133 (lv_at hl 6 rfl) ?_
                exact ri hQ C0 hr hlocks hK hP hS (by rw [← hF]; exact ⟨hf.symm, rfl⟩) dX8_fleet_135
              · have hf := hf.trans (if_pos zc13)
                refine lv_iload_n hx hb dX8_fleet_123 rfl (lv_at hl 3 rfl) ?_
                refine lv_iload hx hb dX8_fleet_124 (lv_at hl 6 rfl) ?_
                refine lv_iconst (v := 1) hx hb dX8_fleet_126 (by decide) ?_
                refine kiP (va_runS (As := [.int p2, .int zx11, .int 1]) (rest := []) C0 (kX8_digitsOf l g A hA S p2 zx11 1) (va_cwS 3 hts (gS q990 q991 q54 q992) rfl rfl rfl (by decide +kernel) ⟨Nat.le_of_ble_eq_true rfl, Nat.le_of_ble_eq_true rfl⟩) (preS hP hK) rfl rfl hl.1 rfl (lv_room (Nat.le_of_ble_eq_true rfl)) dX8_fleet_127 ⟨Nat.zero_le _, Nat.zero_le _⟩) hS (fun _ h => h) (fun H locs hP hS => ?_)
                refine lv_goto (tgt := 135) hx hb dX8_fleet_130 (by decide) ?_
                exact ri hQ C0 hr hlocks hK hP hS (by rw [← hF]; exact ⟨hf.symm, rfl⟩) dX8_fleet_135
            | succ zk10 ih56 =>
              intro zi9 zx11 H locs hik hf hP hS ls hl
              rw [LX8_fleet_56] at hf
              refine lv_iload hx hb dX8_fleet_56 (lv_at hl 0 rfl) ?_
              refine lv_bipush (v := 64) hx hb dX8_fleet_58 (by decide) ?_
              refine lv_icmp_ge (tgt := 118) hx hb dX8_fleet_60 (by decide) (fun zc14 => absurd zc14 (up_ge1 rfl hik (by decide))) (fun zc14 => ?_)
              refine lv_iload_n hx hb dX8_fleet_63 rfl (lv_at hl 2 rfl) ?_
              refine lv_iload hx hb dX8_fleet_64 (lv_at hl 0 rfl) ?_
              refine lv_iconst (v := 1) hx hb dX8_fleet_66 (by decide) ?_
              refine kiP (va_runS (As := [.int p1, .int (nI zi9), .int 1]) (rest := []) C0 (kX8_digitsOf l g A hA S p1 (nI zi9) 1) (va_cwS 3 hts (gS q990 q991 q54 q992) rfl rfl rfl (by decide +kernel) ⟨Nat.le_of_ble_eq_true rfl, Nat.le_of_ble_eq_true rfl⟩) (preS hP hK) rfl rfl hl.1 rfl (lv_room (Nat.le_of_ble_eq_true rfl)) dX8_fleet_67 ⟨Nat.zero_le _, Nat.zero_le _⟩) hS (fun _ h => h) (fun H locs hP hS => ?_)
              refine lv_iload_n hx hb dX8_fleet_70 rfl (lv_at hl 4 rfl) ?_
              refine lv_icmp_gt (tgt := 78) hx hb dX8_fleet_71 (by decide) (fun zc15 => ?_) (fun zc15 => ?_)
              · have hf := hf.trans (if_pos zc15)
                refine lv_iconst (v := 0) hx hb dX8_fleet_78 (by decide) ?_
                refine lv_istore (lv' := [(7, .int 0), (6, .int (nI zi9)), (0, .ref (g.1 0 0)), (1, .int p1), (2, .int p2), (3, .int p3), (4, .int p4), (5, .int zx11)]) hx hb dX8_fleet_79 hl (by decide) rfl (fun ls hl => ?_)
                refine lv_iload hx hb dX8_fleet_81 (lv_at hl 0 rfl) ?_
                refine lv_if_eq (tgt := 108) hx hb dX8_fleet_83 (by decide) (fun zc16 => ?_) (fun zc16 => absurd (by decide) zc16)
                refine lv_iload hx hb dX8_fleet_108 (lv_at hl 7 rfl) ?_
                refine lv_istore (lv' := [(5, .int zx11), (7, .int 0), (6, .int (nI zi9)), (0, .ref (g.1 0 0)), (1, .int p1), (2, .int p2), (3, .int p3), (4, .int p4)]) hx hb dX8_fleet_110 hl (by decide) rfl (fun ls hl => ?_)
                refine lv_iinc (v := (nI (zi9 + 1))) (lv' := [(6, .int (nI (zi9 + 1))), (5, .int zx11), (7, .int 0), (0, .ref (g.1 0 0)), (1, .int p1), (2, .int p2), (3, .int p3), (4, .int p4)]) hx hb dX8_fleet_112 hl (k := 2) rfl (nI_1 _) (by decide) rfl (fun ls hl => ?_)
                refine lv_goto (tgt := 56) hx hb dX8_fleet_115 (by decide) ?_
                exact ih56 (zi9 + 1) zx11 _ _ (by omega) hf hP hS ls (lv_sub hl [0, 3, 4, 5, 6, 7, 1] rfl)
              · have hf := hf.trans (if_neg zc15)
                refine lv_iconst (v := 1) hx hb dX8_fleet_74 (by decide) ?_
                refine lv_goto (tgt := 79) hx hb dX8_fleet_75 (by decide) ?_
                refine lv_istore (lv' := [(7, .int 1), (6, .int (nI zi9)), (0, .ref (g.1 0 0)), (1, .int p1), (2, .int p2), (3, .int p3), (4, .int p4), (5, .int zx11)]) hx hb dX8_fleet_79 hl (by decide) rfl (fun ls hl => ?_)
                refine lv_iload hx hb dX8_fleet_81 (lv_at hl 0 rfl) ?_
                refine lv_if_eq (tgt := 108) hx hb dX8_fleet_83 (by decide) (fun zc17 => absurd zc17 (by decide)) (fun zc17 => ?_)
                refine lv_iload_n hx hb dX8_fleet_86 rfl (lv_at hl 4 rfl) ?_
                refine lv_iload hx hb dX8_fleet_87 (lv_at hl 1 rfl) ?_
                refine lv_iconst (v := 1) hx hb dX8_fleet_89 (by decide) ?_
                refine kiP (va_runS (As := [.int p2, .int (nI zi9), .int 1]) (rest := []) C0 (kX8_digitsOf l g A hA S p2 (nI zi9) 1) (va_cwS 3 hts (gS q990 q991 q54 q992) rfl rfl rfl (by decide +kernel) ⟨Nat.le_of_ble_eq_true rfl, Nat.le_of_ble_eq_true rfl⟩) (preS hP hK) rfl rfl hl.1 rfl (lv_room (Nat.le_of_ble_eq_true rfl)) dX8_fleet_90 ⟨Nat.zero_le _, Nat.zero_le _⟩) hS (fun _ h => h) (fun H locs hP hS => ?_)
                refine lv_iload_n hx hb dX8_fleet_93 rfl (lv_at hl 4 rfl) ?_
                refine lv_iload hx hb dX8_fleet_94 (lv_at hl 7 rfl) ?_
                refine lv_iconst (v := 1) hx hb dX8_fleet_96 (by decide) ?_
                refine kiP (va_runS (As := [.int p2, .int zx11, .int 1]) (rest := [.int (tX8_digitsOf S p2 (nI zi9) 1)]) C0 (kX8_digitsOf l g A hA S p2 zx11 1) (va_cwS 3 hts (gS q990 q991 q54 q992) rfl rfl rfl (by decide +kernel) ⟨Nat.le_of_ble_eq_true rfl, Nat.le_of_ble_eq_true rfl⟩) (preS hP hK) rfl rfl hl.1 rfl (lv_room (Nat.le_of_ble_eq_true rfl)) dX8_fleet_97 ⟨Nat.zero_le _, Nat.zero_le _⟩) hS (fun _ h => h) (fun H locs hP hS => ?_)
                refine lv_icmp_le (tgt := 108) hx hb dX8_fleet_100 (by decide) (fun zc18 => ?_) (fun zc18 => ?_)
                · have hf := hf.trans (if_pos zc18)
                  refine lv_iload hx hb dX8_fleet_108 (lv_at hl 7 rfl) ?_
                  refine lv_istore (lv' := [(5, .int zx11), (7, .int 1), (6, .int (nI zi9)), (0, .ref (g.1 0 0)), (1, .int p1), (2, .int p2), (3, .int p3), (4, .int p4)]) hx hb dX8_fleet_110 hl (by decide) rfl (fun ls hl => ?_)
                  refine lv_iinc (v := (nI (zi9 + 1))) (lv' := [(6, .int (nI (zi9 + 1))), (5, .int zx11), (7, .int 1), (0, .ref (g.1 0 0)), (1, .int p1), (2, .int p2), (3, .int p3), (4, .int p4)]) hx hb dX8_fleet_112 hl (k := 2) rfl (nI_1 _) (by decide) rfl (fun ls hl => ?_)
                  refine lv_goto (tgt := 56) hx hb dX8_fleet_115 (by decide) ?_
                  exact ih56 (zi9 + 1) zx11 _ _ (by omega) hf hP hS ls (lv_sub hl [0, 3, 4, 5, 6, 7, 1] rfl)
                · have hf := hf.trans (if_neg zc18)
                  refine lv_iload hx hb dX8_fleet_103 (lv_at hl 1 rfl) ?_
                  refine lv_goto (tgt := 110) hx hb dX8_fleet_105 (by decide) ?_
                  refine lv_istore (lv' := [(5, .int (nI zi9)), (7, .int 1), (6, .int (nI zi9)), (0, .ref (g.1 0 0)), (1, .int p1), (2, .int p2), (3, .int p3), (4, .int p4)]) hx hb dX8_fleet_110 hl (by decide) rfl (fun ls hl => ?_)
                  refine lv_iinc (v := (nI (zi9 + 1))) (lv' := [(6, .int (nI (zi9 + 1))), (5, .int (nI zi9)), (7, .int 1), (0, .ref (g.1 0 0)), (1, .int p1), (2, .int p2), (3, .int p3), (4, .int p4)]) hx hb dX8_fleet_112 hl (k := 2) rfl (nI_1 _) (by decide) rfl (fun ls hl => ?_)
                  refine lv_goto (tgt := 56) hx hb dX8_fleet_115 (by decide) ?_
                  exact ih56 (zi9 + 1) (nI zi9) _ _ (by omega) hf hP hS ls (lv_sub hl [0, 3, 4, 5, 6, 7, 1] rfl)
          exact lp56 63 1 0 _ _ (by decide) hf hP hS ls (lv_sub hl [0, 2, 3, 4, 5, 6, 1] rfl)
        · have hf := hf.trans (if_neg zc7)
          refine lv_if_ne (tgt := 50) hx hb dX8_fleet_44 (by decide) (fun zc19 => absurd (by decide) zc19) (fun zc19 => ?_)
          refine lv_bipush (v := (-2)) hx hb dX8_fleet_47 (by decide) ?_
          exact ri hQ C0 hr hlocks hK hP hS (by rw [← hF]; exact ⟨hf.symm, rfl⟩) dX8_fleet_49
      · have hf := hf.trans (if_neg zc5)
        refine lv_if_eq (tgt := 47) hx hb dX8_fleet_33 (by decide) (fun zc20 => ?_) (fun zc20 => absurd (by decide) zc20)
        refine lv_bipush (v := (-2)) hx hb dX8_fleet_47 (by decide) ?_
        exact ri hQ C0 hr hlocks hK hP hS (by rw [← hF]; exact ⟨hf.symm, rfl⟩) dX8_fleet_49
    · have hf := hf.trans (if_neg zc3)
      refine lv_if_eq (tgt := 47) hx hb dX8_fleet_21 (by decide) (fun zc21 => ?_) (fun zc21 => absurd (by decide) zc21)
      refine lv_bipush (v := (-2)) hx hb dX8_fleet_47 (by decide) ?_
      exact ri hQ C0 hr hlocks hK hP hS (by rw [← hF]; exact ⟨hf.symm, rfl⟩) dX8_fleet_49
  · have hf := hf.trans (if_neg zc1)
    refine lv_if_eq (tgt := 47) hx hb dX8_fleet_9 (by decide) (fun zc22 => ?_) (fun zc22 => absurd (by decide) zc22)
    refine lv_bipush (v := (-2)) hx hb dX8_fleet_47 (by decide) ?_
    exact ri hQ C0 hr hlocks hK hP hS (by rw [← hF]; exact ⟨hf.symm, rfl⟩) dX8_fleet_49
def LX8_holds_42 (S : St) (p1 : Int32) (p2 : Int32) : Nat → Nat → Int32 → Int32 → Int32
  | 0, zi5, zx7, zx8 => (if p2 = 0 then zx7 else zx8)
  | zk6 + 1, zi5, zx7, zx8 => (if zx7 ≤ (Int64.toInt32 (tX8_size S (Int32.toInt64 ((2 * (tX8_digitsOf S p1 (nI zi5) 0)) - (tX8_digitsOf S p1 63 0))))) then (LX8_holds_42 S p1 p2 zk6 (zi5 + 1) zx7 zx8) else (LX8_holds_42 S p1 p2 zk6 (zi5 + 1) (Int64.toInt32 (tX8_size S (Int32.toInt64 ((2 * (tX8_digitsOf S p1 (nI zi5) 0)) - (tX8_digitsOf S p1 63 0))))) (nI zi5)))
def tX8_holds (S : St) (p1 : Int32) (p2 : Int32) : Int32 :=
  (if wj (Int32.toInt64 p1) 0 999999 then (if wj (Int32.toInt64 p2) 0 1 then (LX8_holds_42 S p1 p2 63 1 (tX8_digitsOf S p1 63 0) 0) else (-2)) else (-2))
set_option maxHeartbeats 4000000 in
set_option maxRecDepth 100000 in
theorem kX8_holds (l : Launch) (g : Gd) (A : Nat → Prop) (hA : Ads g.1 VM A) (S : St) (p1 : Int32) (p2 : Int32) : Met l yX8_holds (wU yX8_holds cX8_holds 8 (some .int)) { frames := 1, cells := 0, slots := 0, locals := 26 } (va_Pc [.ref (g.1 0 0), .int p1, .int p2] (PW VM ctM g S)) (va_Qi (fun r u => r = tX8_holds S p1 p2 ∧ u = S) (fun u U => PW VM ctM g u U) A) 0 0 A := by
  refine ent (cc := cX8_holds) (maxL := 8) (ret := (some .int)) (by decide) (Nat.le_of_ble_eq_true rfl) ?_
  intro p e s m below meth c args Q C0 hr hlocks hP hK hQ ls hl
  have hx := C0.1
  have hb := C0.2.1
  have hml := C0.2.2.1
  have hown := C0.2.2.2.1
  have hts := C0.2.2.2.2
  obtain ⟨F, hF⟩ : ∃ F : Int32, F = tX8_holds S p1 p2 := ⟨_, rfl⟩
  have hf := hF
  unfold tX8_holds at hf
  have hS : va_S A s.heap s.heap [] := va_S.rf
  have hl : lv_has ls 8 [(0, .ref (g.1 0 0)), (1, .int p1), (2, .int p2)] := hl
  refine lv_iload_n hx hb dX8_holds_0 rfl (lv_at hl 1 rfl) ?_
  refine lv_i2l (v := (Int32.toInt64 p1)) hx hb dX8_holds_1 rfl ?_
  refine lv_lconst (v := 0) hx hb dX8_holds_2 (by decide) ?_
  refine lv_ldc2 (v := 999999) hx hb hown (hts _ q988) dX8_holds_3 ?_
  refine kzc (va_runS (As := [.long (Int32.toInt64 p1), .long 0, .long 999999]) (rest := []) C0 (kX8_in l g A hA S (Int32.toInt64 p1) 0 999999) (va_cwS 3 hts (gS q799 q800 q54 q801) rfl rfl rfl (by decide +kernel) ⟨Nat.le_of_ble_eq_true rfl, Nat.le_of_ble_eq_true rfl⟩) (preS hP hK) rfl rfl hl.1 rfl (lv_room (Nat.le_of_ble_eq_true rfl)) dX8_holds_6 ⟨Nat.zero_le _, Nat.zero_le _⟩) hS (fun _ h => h) (fun zc1 H locs hP hS => ?_) (fun zc1 H locs hP hS => ?_)
  · have hf := hf.trans (if_pos zc1)
    refine lv_if_eq (tgt := 22) hx hb dX8_holds_9 (by decide) (fun zc2 => absurd zc2 (by decide)) (fun zc2 => ?_)
    refine lv_iload_n hx hb dX8_holds_12 rfl (lv_at hl 2 rfl) ?_
    refine lv_i2l (v := (Int32.toInt64 p2)) hx hb dX8_holds_13 rfl ?_
    refine lv_lconst (v := 0) hx hb dX8_holds_14 (by decide) ?_
    refine lv_lconst (v := 1) hx hb dX8_holds_15 (by decide) ?_
    refine kzc (va_runS (As := [.long (Int32.toInt64 p2), .long 0, .long 1]) (rest := []) C0 (kX8_in l g A hA S (Int32.toInt64 p2) 0 1) (va_cwS 3 hts (gS q799 q800 q54 q801) rfl rfl rfl (by decide +kernel) ⟨Nat.le_of_ble_eq_true rfl, Nat.le_of_ble_eq_true rfl⟩) (preS hP hK) rfl rfl hl.1 rfl (lv_room (Nat.le_of_ble_eq_true rfl)) dX8_holds_16 ⟨Nat.zero_le _, Nat.zero_le _⟩) hS (fun _ h => h) (fun zc3 H locs hP hS => ?_) (fun zc3 H locs hP hS => ?_)
    · have hf := hf.trans (if_pos zc3)
      refine lv_if_ne (tgt := 25) hx hb dX8_holds_19 (by decide) (fun zc4 => ?_) (fun zc4 => absurd zc4 (by decide))
      refine lv_iload_n hx hb dX8_holds_25 rfl (lv_at hl 1 rfl) ?_
      refine lv_bipush (v := 63) hx hb dX8_holds_26 (by decide) ?_
      refine lv_iconst (v := 0) hx hb dX8_holds_28 (by decide) ?_
      refine kiP (va_runS (As := [.int p1, .int 63, .int 0]) (rest := []) C0 (kX8_digitsOf l g A hA S p1 63 0) (va_cwS 3 hts (gS q990 q991 q54 q992) rfl rfl rfl (by decide +kernel) ⟨Nat.le_of_ble_eq_true rfl, Nat.le_of_ble_eq_true rfl⟩) (preS hP hK) rfl rfl hl.1 rfl (lv_room (Nat.le_of_ble_eq_true rfl)) dX8_holds_29 ⟨Nat.zero_le _, Nat.zero_le _⟩) hS (fun _ h => h) (fun H locs hP hS => ?_)
      refine lv_istore_n (lv' := [(3, .int (tX8_digitsOf S p1 63 0)), (0, .ref (g.1 0 0)), (1, .int p1), (2, .int p2)]) hx hb dX8_holds_32 rfl hl (by decide) rfl (fun ls hl => ?_)
      refine lv_iconst (v := 0) hx hb dX8_holds_33 (by decide) ?_
      refine lv_istore (lv' := [(4, .int 0), (3, .int (tX8_digitsOf S p1 63 0)), (0, .ref (g.1 0 0)), (1, .int p1), (2, .int p2)]) hx hb dX8_holds_34 hl (by decide) rfl (fun ls hl => ?_)
      refine lv_iload_n hx hb dX8_holds_36 rfl (lv_at hl 1 rfl) ?_
      refine lv_istore (lv' := [(5, .int (tX8_digitsOf S p1 63 0)), (4, .int 0), (3, .int (tX8_digitsOf S p1 63 0)), (0, .ref (g.1 0 0)), (1, .int p1), (2, .int p2)]) hx hb dX8_holds_37 hl (by decide) rfl (fun ls hl => ?_)
      refine lv_iconst (v := 1) hx hb dX8_holds_39 (by decide) ?_
      refine lv_istore (lv' := [(6, .int 1), (5, .int (tX8_digitsOf S p1 63 0)), (4, .int 0), (3, .int (tX8_digitsOf S p1 63 0)), (0, .ref (g.1 0 0)), (1, .int p1), (2, .int p2)]) hx hb dX8_holds_40 hl (by decide) rfl (fun ls hl => ?_)
      have lp42 : ∀ (zk6 zi5 : Nat) (zx7 : Int32) (zx8 : Int32) (H : Heap) (locs : List Loc), (zi5 + zk6 = 64) → (F = LX8_holds_42 S p1 p2 zk6 zi5 zx7 zx8) → HW VM ctM g S H → va_S A s.heap H locs → ∀ ls : Array Slot, lv_has ls 8 [(6, .int (nI zi5)), (3, .int (tX8_digitsOf S p1 63 0)), (0, .ref (g.1 0 0)), (1, .int p1), (2, .int p2), (5, .int zx7), (4, .int zx8)] → W p l e { frames := 1, cells := 0, slots := 0, locals := 26 } s m args below meth c H locs 0 0 Q (F0 m 42 ls []) := by
        intro zk6
        induction zk6 with
        | zero =>
          intro zi5 zx7 zx8 H locs hik hf hP hS ls hl
          rw [LX8_holds_42] at hf
          refine lv_iload hx hb dX8_holds_42 (lv_at hl 0 rfl) ?_
          refine lv_bipush (v := 64) hx hb dX8_holds_44 (by decide) ?_
          refine lv_icmp_ge (tgt := 105) hx hb dX8_holds_46 (by decide) (fun zc9 => ?_) (fun zc9 => absurd (up_ge0 rfl hik (by decide)) zc9)
          refine lv_iload_n hx hb dX8_holds_105 rfl (lv_at hl 4 rfl) ?_
          refine lv_if_ne (tgt := 114) hx hb dX8_holds_106 (by decide) (fun zc10 => ?_) (fun zc10 => ?_)
          · have hf := hf.trans (if_neg zc10)
            refine lv_iload hx hb dX8_holds_114 (lv_at hl 6 rfl) ?_
            exact ri hQ C0 hr hlocks hK hP hS (by rw [← hF]; exact ⟨hf.symm, rfl⟩) dX8_holds_116
          · have hf := hf.trans (if_pos zc10)
            refine lv_iload hx hb dX8_holds_109 (lv_at hl 5 rfl) ?_
            refine lv_goto (tgt := 116) hx hb dX8_holds_111 (by decide) ?_
            exact ri hQ C0 hr hlocks hK hP hS (by rw [← hF]; exact ⟨hf.symm, rfl⟩) dX8_holds_116
        | succ zk6 ih42 =>
          intro zi5 zx7 zx8 H locs hik hf hP hS ls hl
          rw [LX8_holds_42] at hf
          refine lv_iload hx hb dX8_holds_42 (lv_at hl 0 rfl) ?_
          refine lv_bipush (v := 64) hx hb dX8_holds_44 (by decide) ?_
          refine lv_icmp_ge (tgt := 105) hx hb dX8_holds_46 (by decide) (fun zc11 => absurd zc11 (up_ge1 rfl hik (by decide))) (fun zc11 => ?_)
          refine lv_iconst (v := 2) hx hb dX8_holds_49 (by decide) ?_
          refine lv_iload_n hx hb dX8_holds_50 rfl (lv_at hl 3 rfl) ?_
          refine lv_iload hx hb dX8_holds_51 (lv_at hl 0 rfl) ?_
          refine lv_iconst (v := 0) hx hb dX8_holds_53 (by decide) ?_
          refine kiP (va_runS (As := [.int p1, .int (nI zi5), .int 0]) (rest := [.int 2]) C0 (kX8_digitsOf l g A hA S p1 (nI zi5) 0) (va_cwS 3 hts (gS q990 q991 q54 q992) rfl rfl rfl (by decide +kernel) ⟨Nat.le_of_ble_eq_true rfl, Nat.le_of_ble_eq_true rfl⟩) (preS hP hK) rfl rfl hl.1 rfl (lv_room (Nat.le_of_ble_eq_true rfl)) dX8_holds_54 ⟨Nat.zero_le _, Nat.zero_le _⟩) hS (fun _ h => h) (fun H locs hP hS => ?_)
          refine lv_imul hx hb dX8_holds_57 ?_
          refine lv_iload_n hx hb dX8_holds_58 rfl (lv_at hl 1 rfl) ?_
          refine lv_isub hx hb dX8_holds_59 ?_
          refine lv_i2l (v := (Int32.toInt64 ((2 * (tX8_digitsOf S p1 (nI zi5) 0)) - (tX8_digitsOf S p1 63 0)))) hx hb dX8_holds_60 rfl ?_
          refine klP (va_runS (As := [.long (Int32.toInt64 ((2 * (tX8_digitsOf S p1 (nI zi5) 0)) - (tX8_digitsOf S p1 63 0)))]) (rest := []) C0 (kX8_size l g A hA S (Int32.toInt64 ((2 * (tX8_digitsOf S p1 (nI zi5) 0)) - (tX8_digitsOf S p1 63 0)))) (va_cwS 1 hts (gS q951 q952 q54 q953) rfl rfl rfl (by decide +kernel) ⟨Nat.le_of_ble_eq_true rfl, Nat.le_of_ble_eq_true rfl⟩) (preS hP hK) rfl rfl hl.1 rfl (lv_room (Nat.le_of_ble_eq_true rfl)) dX8_holds_61 ⟨Nat.zero_le _, Nat.zero_le _⟩) hS (fun _ h => h) (fun H locs hP hS => ?_)
          refine lv_l2i (v := (Int64.toInt32 (tX8_size S (Int32.toInt64 ((2 * (tX8_digitsOf S p1 (nI zi5) 0)) - (tX8_digitsOf S p1 63 0)))))) hx hb dX8_holds_64 rfl ?_
          refine lv_istore (lv' := [(7, .int (Int64.toInt32 (tX8_size S (Int32.toInt64 ((2 * (tX8_digitsOf S p1 (nI zi5) 0)) - (tX8_digitsOf S p1 63 0)))))), (6, .int (nI zi5)), (3, .int (tX8_digitsOf S p1 63 0)), (0, .ref (g.1 0 0)), (1, .int p1), (2, .int p2), (5, .int zx7), (4, .int zx8)]) hx hb dX8_holds_65 hl (by decide) rfl (fun ls hl => ?_)
          refine lv_iload hx hb dX8_holds_67 (lv_at hl 0 rfl) ?_
          refine lv_iload hx hb dX8_holds_69 (lv_at hl 6 rfl) ?_
          refine lv_icmp_ge (tgt := 79) hx hb dX8_holds_71 (by decide) (fun zc12 => ?_) (fun zc12 => ?_)
          · have hf := hf.trans (if_pos zc12)
            refine lv_iload hx hb dX8_holds_79 (lv_at hl 7 rfl) ?_
            refine lv_istore (lv' := [(4, .int zx8), (7, .int (Int64.toInt32 (tX8_size S (Int32.toInt64 ((2 * (tX8_digitsOf S p1 (nI zi5) 0)) - (tX8_digitsOf S p1 63 0)))))), (6, .int (nI zi5)), (3, .int (tX8_digitsOf S p1 63 0)), (0, .ref (g.1 0 0)), (1, .int p1), (2, .int p2), (5, .int zx7)]) hx hb dX8_holds_81 hl (by decide) rfl (fun ls hl => ?_)
            refine lv_iload hx hb dX8_holds_83 (lv_at hl 1 rfl) ?_
            refine lv_iload hx hb dX8_holds_85 (lv_at hl 7 rfl) ?_
            refine lv_icmp_ge (tgt := 95) hx hb dX8_holds_87 (by decide) (fun zc13 => ?_) (fun zc13 => absurd zc12 zc13)
            refine lv_iload hx hb dX8_holds_95 (lv_at hl 7 rfl) ?_
            refine lv_istore (lv' := [(5, .int zx7), (4, .int zx8), (7, .int (Int64.toInt32 (tX8_size S (Int32.toInt64 ((2 * (tX8_digitsOf S p1 (nI zi5) 0)) - (tX8_digitsOf S p1 63 0)))))), (6, .int (nI zi5)), (3, .int (tX8_digitsOf S p1 63 0)), (0, .ref (g.1 0 0)), (1, .int p1), (2, .int p2)]) hx hb dX8_holds_97 hl (by decide) rfl (fun ls hl => ?_)
            refine lv_iinc (v := (nI (zi5 + 1))) (lv' := [(6, .int (nI (zi5 + 1))), (5, .int zx7), (4, .int zx8), (7, .int (Int64.toInt32 (tX8_size S (Int32.toInt64 ((2 * (tX8_digitsOf S p1 (nI zi5) 0)) - (tX8_digitsOf S p1 63 0)))))), (3, .int (tX8_digitsOf S p1 63 0)), (0, .ref (g.1 0 0)), (1, .int p1), (2, .int p2)]) hx hb dX8_holds_99 hl (k := 3) rfl (nI_1 _) (by decide) rfl (fun ls hl => ?_)
            refine lv_goto (tgt := 42) hx hb dX8_holds_102 (by decide) ?_
            exact ih42 (zi5 + 1) zx7 zx8 _ _ (by omega) hf hP hS ls (lv_sub hl [0, 4, 5, 6, 7, 1, 2] rfl)
          · have hf := hf.trans (if_neg zc12)
            refine lv_iload hx hb dX8_holds_74 (lv_at hl 1 rfl) ?_
            refine lv_goto (tgt := 81) hx hb dX8_holds_76 (by decide) ?_
            refine lv_istore (lv' := [(4, .int (nI zi5)), (7, .int (Int64.toInt32 (tX8_size S (Int32.toInt64 ((2 * (tX8_digitsOf S p1 (nI zi5) 0)) - (tX8_digitsOf S p1 63 0)))))), (6, .int (nI zi5)), (3, .int (tX8_digitsOf S p1 63 0)), (0, .ref (g.1 0 0)), (1, .int p1), (2, .int p2), (5, .int zx7)]) hx hb dX8_holds_81 hl (by decide) rfl (fun ls hl => ?_)
            refine lv_iload hx hb dX8_holds_83 (lv_at hl 1 rfl) ?_
            refine lv_iload hx hb dX8_holds_85 (lv_at hl 7 rfl) ?_
            refine lv_icmp_ge (tgt := 95) hx hb dX8_holds_87 (by decide) (fun zc14 => absurd zc14 zc12) (fun zc14 => ?_)
            refine lv_iload hx hb dX8_holds_90 (lv_at hl 1 rfl) ?_
            refine lv_goto (tgt := 97) hx hb dX8_holds_92 (by decide) ?_
            refine lv_istore (lv' := [(5, .int (Int64.toInt32 (tX8_size S (Int32.toInt64 ((2 * (tX8_digitsOf S p1 (nI zi5) 0)) - (tX8_digitsOf S p1 63 0)))))), (4, .int (nI zi5)), (7, .int (Int64.toInt32 (tX8_size S (Int32.toInt64 ((2 * (tX8_digitsOf S p1 (nI zi5) 0)) - (tX8_digitsOf S p1 63 0)))))), (6, .int (nI zi5)), (3, .int (tX8_digitsOf S p1 63 0)), (0, .ref (g.1 0 0)), (1, .int p1), (2, .int p2)]) hx hb dX8_holds_97 hl (by decide) rfl (fun ls hl => ?_)
            refine lv_iinc (v := (nI (zi5 + 1))) (lv' := [(6, .int (nI (zi5 + 1))), (5, .int (Int64.toInt32 (tX8_size S (Int32.toInt64 ((2 * (tX8_digitsOf S p1 (nI zi5) 0)) - (tX8_digitsOf S p1 63 0)))))), (4, .int (nI zi5)), (7, .int (Int64.toInt32 (tX8_size S (Int32.toInt64 ((2 * (tX8_digitsOf S p1 (nI zi5) 0)) - (tX8_digitsOf S p1 63 0)))))), (3, .int (tX8_digitsOf S p1 63 0)), (0, .ref (g.1 0 0)), (1, .int p1), (2, .int p2)]) hx hb dX8_holds_99 hl (k := 3) rfl (nI_1 _) (by decide) rfl (fun ls hl => ?_)
            refine lv_goto (tgt := 42) hx hb dX8_holds_102 (by decide) ?_
            exact ih42 (zi5 + 1) (Int64.toInt32 (tX8_size S (Int32.toInt64 ((2 * (tX8_digitsOf S p1 (nI zi5) 0)) - (tX8_digitsOf S p1 63 0))))) (nI zi5) _ _ (by omega) hf hP hS ls (lv_sub hl [0, 4, 5, 6, 7, 1, 2] rfl)
      exact lp42 63 1 (tX8_digitsOf S p1 63 0) 0 _ _ (by decide) hf hP hS ls (lv_sub hl [0, 3, 4, 5, 6, 1, 2] rfl)
    · have hf := hf.trans (if_neg zc3)
      refine lv_if_ne (tgt := 25) hx hb dX8_holds_19 (by decide) (fun zc15 => absurd (by decide) zc15) (fun zc15 => ?_)
      refine lv_bipush (v := (-2)) hx hb dX8_holds_22 (by decide) ?_
      exact ri hQ C0 hr hlocks hK hP hS (by rw [← hF]; exact ⟨hf.symm, rfl⟩) dX8_holds_24
  · have hf := hf.trans (if_neg zc1)
    refine lv_if_eq (tgt := 22) hx hb dX8_holds_9 (by decide) (fun zc16 => ?_) (fun zc16 => absurd (by decide) zc16)
    refine lv_bipush (v := (-2)) hx hb dX8_holds_22 (by decide) ?_
    exact ri hQ C0 hr hlocks hK hP hS (by rw [← hF]; exact ⟨hf.symm, rfl⟩) dX8_holds_24
def LX8_times_5 (S : St) (y1 : Int64) (p1 : Int32) : Nat → Nat → Int64 → Int64
  | 0, zi1, zx3 => zx3
  | zk2 + 1, zi1, zx3 => (LX8_times_5 S y1 p1 zk2 (zi1 + 1) (zx3 * y1))
def tX8_times (S : St) (y1 : Int64) (p1 : Int32) : Int64 :=
  (LX8_times_5 S y1 p1 (Int32.toNatClampNeg p1) 0 1)
set_option maxHeartbeats 4000000 in
set_option maxRecDepth 100000 in
theorem kX8_times (l : Launch) (g : Gd) (A : Nat → Prop) (hA : Ads g.1 VM A) (S : St) (y1 : Int64) (p1 : Int32) : Met l yX8_times (wU yX8_times cX8_times 6 (some .long)) { frames := 0, cells := 0, slots := 0, locals := 0 } (va_Pc [.long y1, .int p1] (PW VM ctM g S)) (va_Ql (fun r u => r = tX8_times S y1 p1 ∧ u = S) (fun u U => PW VM ctM g u U) A) 0 0 A := by
  refine ent (cc := cX8_times) (maxL := 6) (ret := (some .long)) (by decide) (Nat.le_of_ble_eq_true rfl) ?_
  intro p e s m below meth c args Q C0 hr hlocks hP hK hQ ls hl
  have hx := C0.1
  have hb := C0.2.1
  have hml := C0.2.2.1
  have hown := C0.2.2.2.1
  have hts := C0.2.2.2.2
  obtain ⟨F, hF⟩ : ∃ F : Int64, F = tX8_times S y1 p1 := ⟨_, rfl⟩
  have hf := hF
  unfold tX8_times at hf
  have hS : va_S A s.heap s.heap [] := va_S.rf
  have hl : lv_has ls 6 [(0, .long y1), (2, .int p1)] := hl
  refine lv_lconst (v := 1) hx hb dX8_times_0 (by decide) ?_
  refine lv_lstore_n (lv' := [(3, .long 1), (0, .long y1), (2, .int p1)]) hx hb dX8_times_1 rfl hl (by decide) rfl (fun ls hl => ?_)
  refine lv_iconst (v := 0) hx hb dX8_times_2 (by decide) ?_
  refine lv_istore (lv' := [(5, .int 0), (3, .long 1), (0, .long y1), (2, .int p1)]) hx hb dX8_times_3 hl (by decide) rfl (fun ls hl => ?_)
  have lp5 : ∀ (zk2 zi1 : Nat) (zx3 : Int64) (H : Heap) (locs : List Loc), (zi1 + zk2 = (Int32.toNatClampNeg p1)) → (F = LX8_times_5 S y1 p1 zk2 zi1 zx3) → HW VM ctM g S H → va_S A s.heap H locs → ∀ ls : Array Slot, lv_has ls 6 [(5, .int (nI zi1)), (0, .long y1), (2, .int p1), (3, .long zx3)] → W p l e { frames := 0, cells := 0, slots := 0, locals := 0 } s m args below meth c H locs 0 0 Q (F0 m 5 ls []) := by
    intro zk2
    induction zk2 with
    | zero =>
      intro zi1 zx3 H locs hik hf hP hS ls hl
      rw [LX8_times_5] at hf
      refine lv_iload hx hb dX8_times_5 (lv_at hl 0 rfl) ?_
      refine lv_iload_n hx hb dX8_times_7 rfl (lv_at hl 2 rfl) ?_
      refine lv_icmp_ge (tgt := 21) hx hb dX8_times_8 (by decide) (fun zc4 => ?_) (fun zc4 => absurd (up_sge0 hik) zc4)
      refine lv_lload_n hx hb dX8_times_21 rfl (lv_at hl 3 rfl) ?_
      exact rl hQ C0 hr hlocks hK hP hS (by rw [← hF]; exact ⟨hf.symm, rfl⟩) dX8_times_22
    | succ zk2 ih5 =>
      intro zi1 zx3 H locs hik hf hP hS ls hl
      rw [LX8_times_5] at hf
      refine lv_iload hx hb dX8_times_5 (lv_at hl 0 rfl) ?_
      refine lv_iload_n hx hb dX8_times_7 rfl (lv_at hl 2 rfl) ?_
      refine lv_icmp_ge (tgt := 21) hx hb dX8_times_8 (by decide) (fun zc5 => absurd zc5 (up_sge1 hik)) (fun zc5 => ?_)
      refine lv_lload_n hx hb dX8_times_11 rfl (lv_at hl 3 rfl) ?_
      refine lv_lload_n hx hb dX8_times_12 rfl (lv_at hl 1 rfl) ?_
      refine lv_lmul hx hb dX8_times_13 ?_
      refine lv_lstore_n (lv' := [(3, .long (zx3 * y1)), (5, .int (nI zi1)), (0, .long y1), (2, .int p1)]) hx hb dX8_times_14 rfl hl (by decide) rfl (fun ls hl => ?_)
      refine lv_iinc (v := (nI (zi1 + 1))) (lv' := [(5, .int (nI (zi1 + 1))), (3, .long (zx3 * y1)), (0, .long y1), (2, .int p1)]) hx hb dX8_times_15 hl (k := 1) rfl (nI_1 _) (by decide) rfl (fun ls hl => ?_)
      refine lv_goto (tgt := 5) hx hb dX8_times_18 (by decide) ?_
      exact ih5 (zi1 + 1) (zx3 * y1) _ _ (by omega) hf hP hS ls (lv_sub hl [0, 2, 3, 1] rfl)
  exact lp5 (Int32.toNatClampNeg p1) 0 1 _ _ (Nat.zero_add _) hf hP hS ls (lv_sub hl [0, 2, 3, 1] rfl)
theorem pw_ne {x : Int64} {i : Nat} (h : ∃ m, m ≤ i ∧ i ≤ 6 ∧ x = lN (100 ^ m)) : ¬ x = 0 := by
  obtain ⟨m, h1, h2, rfl⟩ := h
  have h3 : 100 ^ m ≤ 100 ^ 6 := Nat.pow_le_pow_right (by decide) (by omega)
  have h4 : 0 < 100 ^ m := Nat.pow_pos (by decide)
  intro q
  rw [show (0 : Int64) = lN 0 from rfl, pk_lEQ (by omega) (by decide)] at q
  omega
theorem pw_s {x : Int64} {i : Nat} (h : ∃ m, m ≤ i ∧ i ≤ 6 ∧ x = lN (100 ^ m)) (hi : i < 6) : (∃ m, m ≤ i + 1 ∧ i + 1 ≤ 6 ∧ x = lN (100 ^ m)) ∧ ∃ m, m ≤ i + 1 ∧ i + 1 ≤ 6 ∧ x * 100 = lN (100 ^ m) := by
  obtain ⟨m, h1, h2, rfl⟩ := h
  exact ⟨⟨m, by omega, by omega, rfl⟩, m + 1, by omega, by omega, by rw [show (100 : Int64) = lN 100 from rfl, lN_mul, Nat.pow_succ]⟩
theorem wj_le6 {p : Int32} (h : wj (Int32.toInt64 p) (-1) 6) : p.toNatClampNeg ≤ 6 := by
  obtain ⟨-, h2⟩ := wj_ti h
  have e2 : (6 : Int64).toInt = 6 := by decide
  rw [Int32.toNatClampNeg]
  omega
def LX8_losses_122 (S : St) (p1 : Int32) (p2 : Int32) (zx12 : Int64) (zS13 : St) : Nat → Nat → Int64 → Int64 × St
  | 0, zi15, zx17 => ((tX8_lowest zS13 zx17 zx12 p2), zS13)
  | zk16 + 1, zi15, zx17 => (LX8_losses_122 S p1 p2 zx12 zS13 zk16 (zi15 + 1) (zx17 + (zS13.2 zi15)))
def LX8_losses_78 (S : St) (p1 : Int32) (p2 : Int32) : Nat → Nat → Int64 → St → Int64 × St
  | 0, zi10, zx12, zS13 => (LX8_losses_122 S p1 p2 zx12 zS13 (7 - (Int32.toNatClampNeg p1)) (Int32.toNatClampNeg p1) 0)
  | zk11 + 1, zi10, zx12, zS13 => (if mAf zS13 (nI zi10) then (bnd (tX8_oneMore zS13 (tX8_risk zS13 (nI zi10))) (fun zS23 => (LX8_losses_78 S p1 p2 zk11 (zi10 + 1) (zx12 * 100) zS23))) else (LX8_losses_78 S p1 p2 zk11 (zi10 + 1) zx12 zS13))
def LX8_losses_46 (S : St) (p1 : Int32) (p2 : Int32) : Nat → Nat → St → Int64 × St
  | 0, zi6, zS8 => (LX8_losses_78 S p1 p2 6 0 1 zS8)
  | zk7 + 1, zi6, zS8 => (if (nI zi6) = 0 then (LX8_losses_46 S p1 p2 zk7 (zi6 + 1) (uL zS8 zi6 1)) else (LX8_losses_46 S p1 p2 zk7 (zi6 + 1) (uL zS8 zi6 0)))
def tX8_losses (S : St) (p1 : Int32) (p2 : Int32) : Int64 × St :=
  (if wj (Int32.toInt64 p1) (-1) 6 then (if wj (Int32.toInt64 p2) 0 1 then (if 0 ≤ p1 then (LX8_losses_46 S p1 p2 7 0 S) else ((tX8_lowest S (tX8_meanOfAll S) 100 p2), S)) else ((-1000000000000000002), S)) else ((-1000000000000000002), S))
set_option maxHeartbeats 4000000 in
set_option maxRecDepth 100000 in
theorem kX8_losses (l : Launch) (g : Gd) (A : Nat → Prop) (hA : Ads g.1 VM A) (S : St) (p1 : Int32) (p2 : Int32) : Met l yX8_losses (wU yX8_losses cX8_losses 8 (some .long)) { frames := 4, cells := 0, slots := 0, locals := 90 } (va_Pc [.ref (g.1 0 0), .int p1, .int p2] (PW VM ctM g S)) (va_Ql (fun r u => r = (tX8_losses S p1 p2).1 ∧ u = (tX8_losses S p1 p2).2) (fun u U => PW VM ctM g u U) A) 0 0 A := by
  refine ent (cc := cX8_losses) (maxL := 8) (ret := (some .long)) (by decide) (Nat.le_of_ble_eq_true rfl) ?_
  intro p e s m below meth c args Q C0 hr hlocks hP hK hQ ls hl
  have hx := C0.1
  have hb := C0.2.1
  have hml := C0.2.2.1
  have hown := C0.2.2.2.1
  have hts := C0.2.2.2.2
  obtain ⟨F, hF⟩ : ∃ F : Int64 × St, F = tX8_losses S p1 p2 := ⟨_, rfl⟩
  have hf := hF
  unfold tX8_losses at hf
  have hS : va_S A s.heap s.heap [] := va_S.rf
  have hl : lv_has ls 8 [(0, .ref (g.1 0 0)), (1, .int p1), (2, .int p2)] := hl
  refine lv_iload_n hx hb dX8_losses_0 rfl (lv_at hl 1 rfl) ?_
  refine lv_i2l (v := (Int32.toInt64 p1)) hx hb dX8_losses_1 rfl ?_
  refine lv_ldc2 (v := (-1)) hx hb hown (hts _ q970) dX8_losses_2 ?_
  refine lv_ldc2 (v := 6) hx hb hown (hts _ q971) dX8_losses_5 ?_
  refine kzc (va_runS (As := [.long (Int32.toInt64 p1), .long (-1), .long 6]) (rest := []) C0 (kX8_in l g A hA S (Int32.toInt64 p1) (-1) 6) (va_cwS 3 hts (gS q799 q800 q54 q801) rfl rfl rfl (by decide +kernel) ⟨Nat.le_of_ble_eq_true rfl, Nat.le_of_ble_eq_true rfl⟩) (preS hP hK) rfl rfl hl.1 rfl (lv_room (Nat.le_of_ble_eq_true rfl)) dX8_losses_8 ⟨Nat.zero_le _, Nat.zero_le _⟩) hS (fun _ h => h) (fun zc1 H locs hP hS => ?_) (fun zc1 H locs hP hS => ?_)
  · have hf := hf.trans (if_pos zc1)
    refine lv_if_eq (tgt := 24) hx hb dX8_losses_11 (by decide) (fun zc2 => absurd zc2 (by decide)) (fun zc2 => ?_)
    refine lv_iload_n hx hb dX8_losses_14 rfl (lv_at hl 2 rfl) ?_
    refine lv_i2l (v := (Int32.toInt64 p2)) hx hb dX8_losses_15 rfl ?_
    refine lv_lconst (v := 0) hx hb dX8_losses_16 (by decide) ?_
    refine lv_lconst (v := 1) hx hb dX8_losses_17 (by decide) ?_
    refine kzc (va_runS (As := [.long (Int32.toInt64 p2), .long 0, .long 1]) (rest := []) C0 (kX8_in l g A hA S (Int32.toInt64 p2) 0 1) (va_cwS 3 hts (gS q799 q800 q54 q801) rfl rfl rfl (by decide +kernel) ⟨Nat.le_of_ble_eq_true rfl, Nat.le_of_ble_eq_true rfl⟩) (preS hP hK) rfl rfl hl.1 rfl (lv_room (Nat.le_of_ble_eq_true rfl)) dX8_losses_18 ⟨Nat.zero_le _, Nat.zero_le _⟩) hS (fun _ h => h) (fun zc3 H locs hP hS => ?_) (fun zc3 H locs hP hS => ?_)
    · have hf := hf.trans (if_pos zc3)
      refine lv_if_ne (tgt := 28) hx hb dX8_losses_21 (by decide) (fun zc4 => ?_) (fun zc4 => absurd zc4 (by decide))
      refine lv_iload_n hx hb dX8_losses_28 rfl (lv_at hl 1 rfl) ?_
      refine lv_if_ge (tgt := 44) hx hb dX8_losses_29 (by decide) (fun zc5 => ?_) (fun zc5 => ?_)
      · have hf := hf.trans (if_pos zc5)
        refine lv_iconst (v := 0) hx hb dX8_losses_44 (by decide) ?_
        refine lv_istore_n (lv' := [(3, .int 0), (0, .ref (g.1 0 0)), (1, .int p1), (2, .int p2)]) hx hb dX8_losses_45 rfl hl (by decide) rfl (fun ls hl => ?_)
        have lp46 : ∀ (zk7 zi6 : Nat) (zS8 : St) (H : Heap) (locs : List Loc), (zi6 + zk7 = 7) → (F = LX8_losses_46 S p1 p2 zk7 zi6 zS8) → HW VM ctM g zS8 H → va_S A s.heap H locs → ∀ ls : Array Slot, lv_has ls 8 [(3, .int (nI zi6)), (0, .ref (g.1 0 0)), (1, .int p1), (2, .int p2)] → W p l e { frames := 4, cells := 0, slots := 0, locals := 90 } s m args below meth c H locs 0 0 Q (F0 m 46 ls []) := by
          intro zk7
          induction zk7 with
          | zero =>
            intro zi6 zS8 H locs hik hf hP hS ls hl
            rw [LX8_losses_46] at hf
            refine lv_iload_n hx hb dX8_losses_46 rfl (lv_at hl 0 rfl) ?_
            refine lv_bipush (v := 7) hx hb dX8_losses_47 (by decide) ?_
            refine lv_icmp_ge (tgt := 73) hx hb dX8_losses_49 (by decide) (fun zc9 => ?_) (fun zc9 => absurd (up_ge0 rfl hik (by decide)) zc9)
            refine lv_lconst (v := 1) hx hb dX8_losses_73 (by decide) ?_
            refine lv_lstore_n (lv' := [(3, .long 1), (0, .ref (g.1 0 0)), (1, .int p1), (2, .int p2)]) hx hb dX8_losses_74 rfl hl (by decide) rfl (fun ls hl => ?_)
            refine lv_iconst (v := 0) hx hb dX8_losses_75 (by decide) ?_
            refine lv_istore (lv' := [(5, .int 0), (3, .long 1), (0, .ref (g.1 0 0)), (1, .int p1), (2, .int p2)]) hx hb dX8_losses_76 hl (by decide) rfl (fun ls hl => ?_)
            have lp78 : ∀ (zk11 zi10 : Nat) (zx12 : Int64) (zS13 : St) (H : Heap) (locs : List Loc), (zi10 + zk11 = 6) → (∃ m, m ≤ zi10 ∧ zi10 ≤ 6 ∧ zx12 = lN (100 ^ m)) → (F = LX8_losses_78 S p1 p2 zk11 zi10 zx12 zS13) → HW VM ctM g zS13 H → va_S A s.heap H locs → ∀ ls : Array Slot, lv_has ls 8 [(5, .int (nI zi10)), (0, .ref (g.1 0 0)), (1, .int p1), (2, .int p2), (3, .long zx12)] → W p l e { frames := 4, cells := 0, slots := 0, locals := 90 } s m args below meth c H locs 0 0 Q (F0 m 78 ls []) := by
              intro zk11
              induction zk11 with
              | zero =>
                intro zi10 zx12 zS13 H locs hik hall hf hP hS ls hl
                rw [LX8_losses_78] at hf
                refine lv_iload hx hb dX8_losses_78 (lv_at hl 0 rfl) ?_
                refine lv_bipush (v := 6) hx hb dX8_losses_80 (by decide) ?_
                refine lv_icmp_ge (tgt := 116) hx hb dX8_losses_82 (by decide) (fun zc14 => ?_) (fun zc14 => absurd (up_ge0 rfl hik (by decide)) zc14)
                refine lv_lconst (v := 0) hx hb dX8_losses_116 (by decide) ?_
                refine lv_lstore (lv' := [(5, .long 0), (0, .ref (g.1 0 0)), (1, .int p1), (2, .int p2), (3, .long zx12)]) hx hb dX8_losses_117 hl (by decide) rfl (fun ls hl => ?_)
                refine lv_iload_n hx hb dX8_losses_119 rfl (lv_at hl 2 rfl) ?_
                refine lv_istore (lv' := [(7, .int p1), (5, .long 0), (0, .ref (g.1 0 0)), (1, .int p1), (2, .int p2), (3, .long zx12)]) hx hb dX8_losses_120 hl (by decide) rfl (fun ls hl => ?_)
                have lp122 : ∀ (zk16 zi15 : Nat) (zx17 : Int64) (H : Heap) (locs : List Loc), (zi15 + zk16 = 7) → (F = LX8_losses_122 S p1 p2 zx12 zS13 zk16 zi15 zx17) → HW VM ctM g zS13 H → va_S A s.heap H locs → ∀ ls : Array Slot, lv_has ls 8 [(7, .int (nI zi15)), (0, .ref (g.1 0 0)), (1, .int p1), (2, .int p2), (3, .long zx12), (5, .long zx17)] → W p l e { frames := 4, cells := 0, slots := 0, locals := 90 } s m args below meth c H locs 0 0 Q (F0 m 122 ls []) := by
                  intro zk16
                  induction zk16 with
                  | zero =>
                    intro zi15 zx17 H locs hik hf hP hS ls hl
                    rw [LX8_losses_122] at hf
                    refine lv_iload hx hb dX8_losses_122 (lv_at hl 0 rfl) ?_
                    refine lv_bipush (v := 7) hx hb dX8_losses_124 (by decide) ?_
                    refine lv_icmp_ge (tgt := 147) hx hb dX8_losses_126 (by decide) (fun zc18 => ?_) (fun zc18 => absurd (up_ge0 rfl hik (by decide)) zc18)
                    refine lv_lload hx hb dX8_losses_147 (lv_at hl 5 rfl) ?_
                    refine lv_lload_n hx hb dX8_losses_149 rfl (lv_at hl 4 rfl) ?_
                    refine lv_iload_n hx hb dX8_losses_150 rfl (lv_at hl 3 rfl) ?_
                    refine klP (va_runS (As := [.long zx17, .long zx12, .int p2]) (rest := []) C0 (kX8_lowest l g A hA zS13 zx17 zx12 p2 (pw_ne hall)) (va_cwS 3 hts (gS q948 q949 q54 q950) rfl rfl rfl (by decide +kernel) ⟨Nat.le_of_ble_eq_true rfl, Nat.le_of_ble_eq_true rfl⟩) (preS hP hK) rfl rfl hl.1 rfl (lv_room (Nat.le_of_ble_eq_true rfl)) dX8_losses_151 ⟨Nat.zero_le _, Nat.zero_le _⟩) hS (fun _ h => h) (fun H locs hP hS => ?_)
                    exact rl hQ C0 hr hlocks hK hP hS (by rw [← hF]; exact fin2 hf) dX8_losses_154
                  | succ zk16 ih122 =>
                    intro zi15 zx17 H locs hik hf hP hS ls hl
                    rw [LX8_losses_122] at hf
                    refine lv_iload hx hb dX8_losses_122 (lv_at hl 0 rfl) ?_
                    refine lv_bipush (v := 7) hx hb dX8_losses_124 (by decide) ?_
                    refine lv_icmp_ge (tgt := 147) hx hb dX8_losses_126 (by decide) (fun zc19 => absurd zc19 (up_ge1 rfl hik (by decide))) (fun zc19 => ?_)
                    refine lv_lload hx hb dX8_losses_129 (lv_at hl 5 rfl) ?_
                    refine lv_aload_n hx hb dX8_losses_131 rfl (lv_at hl 1 rfl) ?_
                    refine gO (T := TX8) C0 inA8 hK hP (mMain g) rfl 31 (by decide) (hts _ q707) (v := .ref (g.1 0 31)) rfl dX8_losses_132 ?_
                    refine lv_iload hx hb dX8_losses_135 (lv_at hl 0 rfl) ?_
                    refine gJ C0 hK hP (mParts g) (vp_in_nI (by omega) (by decide)) dX8_losses_137 ?_
                    rw [nI_clamp (n := zi15) (by omega)]
                    refine lv_ladd hx hb dX8_losses_138 ?_
                    refine lv_lstore (lv' := [(5, .long (zx17 + (zS13.2 zi15))), (7, .int (nI zi15)), (0, .ref (g.1 0 0)), (1, .int p1), (2, .int p2), (3, .long zx12)]) hx hb dX8_losses_139 hl (by decide) rfl (fun ls hl => ?_)
                    refine lv_iinc (v := (nI (zi15 + 1))) (lv' := [(7, .int (nI (zi15 + 1))), (5, .long (zx17 + (zS13.2 zi15))), (0, .ref (g.1 0 0)), (1, .int p1), (2, .int p2), (3, .long zx12)]) hx hb dX8_losses_141 hl (k := 1) rfl (nI_1 _) (by decide) rfl (fun ls hl => ?_)
                    refine lv_goto (tgt := 122) hx hb dX8_losses_144 (by decide) ?_
                    exact ih122 (zi15 + 1) (zx17 + (zS13.2 zi15)) _ _ (by omega) hf hP hS ls (lv_sub hl [0, 2, 3, 4, 5, 1] rfl)
                exact lp122 (7 - (Int32.toNatClampNeg p1)) (Int32.toNatClampNeg p1) 0 _ _ (by have := wj_le6 zc1; omega) hf hP hS ls (lv_sub (lv_eqI hl (nI_cl (Int32.not_lt.mpr zc5))) [0, 2, 3, 4, 5, 1] rfl)
              | succ zk11 ih78 =>
                intro zi10 zx12 zS13 H locs hik hall hf hP hS ls hl
                rw [LX8_losses_78] at hf
                refine lv_iload hx hb dX8_losses_78 (lv_at hl 0 rfl) ?_
                refine lv_bipush (v := 6) hx hb dX8_losses_80 (by decide) ?_
                refine lv_icmp_ge (tgt := 116) hx hb dX8_losses_82 (by decide) (fun zc20 => absurd zc20 (up_ge1 rfl hik (by decide))) (fun zc20 => ?_)
                refine lv_aload_n hx hb dX8_losses_85 rfl (lv_at hl 1 rfl) ?_
                refine lv_iload hx hb dX8_losses_86 (lv_at hl 0 rfl) ?_
                refine kzc (va_runV (As := [.int (nI zi10)]) (rest := []) C0 (kX8_isAfloat l g A hA zS13 (nI zi10)) (cwV 1 hts (gV q976 q978 q33 q54 q979) rfl rfl rfl (by decide +kernel) ⟨Nat.le_of_ble_eq_true rfl, Nat.le_of_ble_eq_true rfl⟩) (preV (recO (mMain g) hP hK rfl) hP hK) rfl rfl hl.1 rfl (lv_room (Nat.le_of_ble_eq_true rfl)) dX8_losses_88 ⟨Nat.zero_le _, Nat.zero_le _⟩) hS (fun _ h => h) (fun zc21 H locs hP hS => ?_) (fun zc21 H locs hP hS => ?_)
                · have hf := hf.trans (if_pos zc21)
                  refine lv_if_eq (tgt := 110) hx hb dX8_losses_91 (by decide) (fun zc22 => absurd zc22 (by decide)) (fun zc22 => ?_)
                  refine lv_aload_n hx hb dX8_losses_94 rfl (lv_at hl 1 rfl) ?_
                  refine lv_aload_n hx hb dX8_losses_95 rfl (lv_at hl 1 rfl) ?_
                  refine lv_iload hx hb dX8_losses_96 (lv_at hl 0 rfl) ?_
                  refine kiP (va_runV (As := [.int (nI zi10)]) (rest := [.ref (g.1 0 0)]) C0 (kX8_risk l g A hA zS13 (nI zi10) (mSh_in zc21.1)) (cwV 1 hts (gV q882 q884 q21 q54 q885) rfl rfl rfl (by decide +kernel) ⟨Nat.le_of_ble_eq_true rfl, Nat.le_of_ble_eq_true rfl⟩) (preV (recO (mMain g) hP hK rfl) hP hK) rfl rfl hl.1 rfl (lv_room (Nat.le_of_ble_eq_true rfl)) dX8_losses_98 ⟨Nat.zero_le _, Nat.zero_le _⟩) hS (fun _ h => h) (fun H locs hP hS => ?_)
                  refine kv (va_runV (As := [.int (tX8_risk zS13 (nI zi10))]) (rest := []) C0 (kX8_oneMore l g A hA zS13 (tX8_risk zS13 (nI zi10))) (cwV 1 hts (gV q980 q982 q34 q54 q983) rfl rfl rfl (by decide +kernel) ⟨Nat.le_of_ble_eq_true rfl, Nat.le_of_ble_eq_true rfl⟩) (preV (recO (mMain g) hP hK rfl) hP hK) rfl rfl hl.1 rfl (lv_room (Nat.le_of_ble_eq_true rfl)) dX8_losses_101 ⟨Nat.zero_le _, Nat.zero_le _⟩) hS (fun _ h => h) (fun zS23 H locs hw hP hS => ?_)
                  have hf := hf.trans (bnd_eq hw)
                  refine lv_lload_n hx hb dX8_losses_104 rfl (lv_at hl 4 rfl) ?_
                  refine lv_ldc2 (v := 100) hx hb hown (hts _ q947) dX8_losses_105 ?_
                  refine lv_lmul hx hb dX8_losses_108 ?_
                  refine lv_lstore_n (lv' := [(3, .long (zx12 * 100)), (5, .int (nI zi10)), (0, .ref (g.1 0 0)), (1, .int p1), (2, .int p2)]) hx hb dX8_losses_109 rfl hl (by decide) rfl (fun ls hl => ?_)
                  refine lv_iinc (v := (nI (zi10 + 1))) (lv' := [(5, .int (nI (zi10 + 1))), (3, .long (zx12 * 100)), (0, .ref (g.1 0 0)), (1, .int p1), (2, .int p2)]) hx hb dX8_losses_110 hl (k := 1) rfl (nI_1 _) (by decide) rfl (fun ls hl => ?_)
                  refine lv_goto (tgt := 78) hx hb dX8_losses_113 (by decide) ?_
                  exact ih78 (zi10 + 1) (zx12 * 100) zS23 _ _ (by omega) (by first | exact (pw_s hall (by omega)).2 | exact (pw_s hall (by omega)).1) hf hP hS ls (lv_sub hl [0, 2, 3, 4, 1] rfl)
                · have hf := hf.trans (if_neg zc21)
                  refine lv_if_eq (tgt := 110) hx hb dX8_losses_91 (by decide) (fun zc24 => ?_) (fun zc24 => absurd (by decide) zc24)
                  refine lv_iinc (v := (nI (zi10 + 1))) (lv' := [(5, .int (nI (zi10 + 1))), (0, .ref (g.1 0 0)), (1, .int p1), (2, .int p2), (3, .long zx12)]) hx hb dX8_losses_110 hl (k := 0) rfl (nI_1 _) (by decide) rfl (fun ls hl => ?_)
                  refine lv_goto (tgt := 78) hx hb dX8_losses_113 (by decide) ?_
                  exact ih78 (zi10 + 1) zx12 zS13 _ _ (by omega) (by first | exact (pw_s hall (by omega)).2 | exact (pw_s hall (by omega)).1) hf hP hS ls (lv_sub hl [0, 1, 2, 3, 4] rfl)
            exact lp78 6 0 1 zS8 _ _ (by decide) ⟨0, by omega, by omega, rfl⟩ hf hP hS ls (lv_sub hl [0, 2, 3, 4, 1] rfl)
          | succ zk7 ih46 =>
            intro zi6 zS8 H locs hik hf hP hS ls hl
            rw [LX8_losses_46] at hf
            refine lv_iload_n hx hb dX8_losses_46 rfl (lv_at hl 0 rfl) ?_
            refine lv_bipush (v := 7) hx hb dX8_losses_47 (by decide) ?_
            refine lv_icmp_ge (tgt := 73) hx hb dX8_losses_49 (by decide) (fun zc25 => absurd zc25 (up_ge1 rfl hik (by decide))) (fun zc25 => ?_)
            refine lv_aload_n hx hb dX8_losses_52 rfl (lv_at hl 1 rfl) ?_
            refine gO (T := TX8) C0 inA8 hK hP (mMain g) rfl 31 (by decide) (hts _ q707) (v := .ref (g.1 0 31)) rfl dX8_losses_53 ?_
            refine lv_iload_n hx hb dX8_losses_56 rfl (lv_at hl 0 rfl) ?_
            refine lv_iload_n hx hb dX8_losses_57 rfl (lv_at hl 0 rfl) ?_
            refine lv_if_ne (tgt := 65) hx hb dX8_losses_58 (by decide) (fun zc26 => ?_) (fun zc26 => ?_)
            · have hf := hf.trans (if_neg zc26)
              refine lv_lconst (v := 0) hx hb dX8_losses_65 (by decide) ?_
              refine pJ C0 hK hP hA hS (mParts g) (vp_in_nI (by omega) (by decide)) dX8_losses_66 (fun H locs hP hS => ?_)
              rw [nI_clamp (n := zi6) (by omega)] at hP
              refine lv_iinc (v := (nI (zi6 + 1))) (lv' := [(3, .int (nI (zi6 + 1))), (0, .ref (g.1 0 0)), (1, .int p1), (2, .int p2)]) hx hb dX8_losses_67 hl (k := 0) rfl (nI_1 _) (by decide) rfl (fun ls hl => ?_)
              refine lv_goto (tgt := 46) hx hb dX8_losses_70 (by decide) ?_
              exact ih46 (zi6 + 1) (uL zS8 zi6 0) _ _ (by omega) hf hP hS ls (lv_sub hl [0, 1, 2, 3] rfl)
            · have hf := hf.trans (if_pos zc26)
              refine lv_lconst (v := 1) hx hb dX8_losses_61 (by decide) ?_
              refine lv_goto (tgt := 66) hx hb dX8_losses_62 (by decide) ?_
              refine pJ C0 hK hP hA hS (mParts g) (vp_in_nI (by omega) (by decide)) dX8_losses_66 (fun H locs hP hS => ?_)
              rw [nI_clamp (n := zi6) (by omega)] at hP
              refine lv_iinc (v := (nI (zi6 + 1))) (lv' := [(3, .int (nI (zi6 + 1))), (0, .ref (g.1 0 0)), (1, .int p1), (2, .int p2)]) hx hb dX8_losses_67 hl (k := 0) rfl (nI_1 _) (by decide) rfl (fun ls hl => ?_)
              refine lv_goto (tgt := 46) hx hb dX8_losses_70 (by decide) ?_
              exact ih46 (zi6 + 1) (uL zS8 zi6 1) _ _ (by omega) hf hP hS ls (lv_sub hl [0, 1, 2, 3] rfl)
        exact lp46 7 0 S _ _ (by decide) hf hP hS ls (lv_sub hl [0, 1, 2, 3] rfl)
      · have hf := hf.trans (if_neg zc5)
        refine lv_aload_n hx hb dX8_losses_32 rfl (lv_at hl 0 rfl) ?_
        refine klP (va_runV (As := []) (rest := []) C0 (kX8_meanOfAll l g A hA S ) (cwV 0 hts (gV q972 q974 q32 q54 q975) rfl rfl rfl (by decide +kernel) ⟨Nat.le_of_ble_eq_true rfl, Nat.le_of_ble_eq_true rfl⟩) (preV (recO (mMain g) hP hK rfl) hP hK) rfl rfl hl.1 rfl (lv_room (Nat.le_of_ble_eq_true rfl)) dX8_losses_33 ⟨Nat.zero_le _, Nat.zero_le _⟩) hS (fun _ h => h) (fun H locs hP hS => ?_)
        refine lv_ldc2 (v := 100) hx hb hown (hts _ q947) dX8_losses_36 ?_
        refine lv_iload_n hx hb dX8_losses_39 rfl (lv_at hl 2 rfl) ?_
        refine klP (va_runS (As := [.long (tX8_meanOfAll S), .long 100, .int p2]) (rest := []) C0 (kX8_lowest l g A hA S (tX8_meanOfAll S) 100 p2 (by decide)) (va_cwS 3 hts (gS q948 q949 q54 q950) rfl rfl rfl (by decide +kernel) ⟨Nat.le_of_ble_eq_true rfl, Nat.le_of_ble_eq_true rfl⟩) (preS hP hK) rfl rfl hl.1 rfl (lv_room (Nat.le_of_ble_eq_true rfl)) dX8_losses_40 ⟨Nat.zero_le _, Nat.zero_le _⟩) hS (fun _ h => h) (fun H locs hP hS => ?_)
        exact rl hQ C0 hr hlocks hK hP hS (by rw [← hF]; exact fin2 hf) dX8_losses_43
    · have hf := hf.trans (if_neg zc3)
      refine lv_if_ne (tgt := 28) hx hb dX8_losses_21 (by decide) (fun zc27 => absurd (by decide) zc27) (fun zc27 => ?_)
      refine lv_ldc2 (v := (-1000000000000000002)) hx hb hown (hts _ q942) dX8_losses_24 ?_
      exact rl hQ C0 hr hlocks hK hP hS (by rw [← hF]; exact fin2 hf) dX8_losses_27
  · have hf := hf.trans (if_neg zc1)
    refine lv_if_eq (tgt := 24) hx hb dX8_losses_11 (by decide) (fun zc28 => ?_) (fun zc28 => absurd (by decide) zc28)
    refine lv_ldc2 (v := (-1000000000000000002)) hx hb hown (hts _ q942) dX8_losses_24 ?_
    exact rl hQ C0 hr hlocks hK hP hS (by rw [← hF]; exact fin2 hf) dX8_losses_27
def tX8_meant (S : St) (p1 : Int32) (p2 : Int32) (p3 : Int32) (p4 : Int32) (p5 : Int32) : Int64 :=
  (if wj (Int32.toInt64 p1) 0 100 then (if wj (Int32.toInt64 p2) 0 100 then (if wj (Int32.toInt64 p3) 0 6 then (if wj (Int32.toInt64 p4) 0 (Int32.toInt64 p3) then (if wj (Int32.toInt64 p5) 0 1 then (if (((tX8_times S (Int32.toInt64 p1) p4) * (tX8_times S (Int32.toInt64 (100 - p1)) (p3 - p4))) + ((tX8_times S (Int32.toInt64 p2) p4) * (tX8_times S (Int32.toInt64 (100 - p2)) (p3 - p4)))) = 0 then (Int32.toInt64 p5) else (tX8_lowest S ((tX8_times S (Int32.toInt64 p2) p4) * (tX8_times S (Int32.toInt64 (100 - p2)) (p3 - p4))) (((tX8_times S (Int32.toInt64 p1) p4) * (tX8_times S (Int32.toInt64 (100 - p1)) (p3 - p4))) + ((tX8_times S (Int32.toInt64 p2) p4) * (tX8_times S (Int32.toInt64 (100 - p2)) (p3 - p4)))) p5)) else (-1000000000000000002)) else (-1000000000000000002)) else (-1000000000000000002)) else (-1000000000000000002)) else (-1000000000000000002))
set_option maxHeartbeats 4000000 in
set_option maxRecDepth 100000 in
theorem kX8_meant (l : Launch) (g : Gd) (A : Nat → Prop) (hA : Ads g.1 VM A) (S : St) (p1 : Int32) (p2 : Int32) (p3 : Int32) (p4 : Int32) (p5 : Int32) : Met l yX8_meant (wU yX8_meant cX8_meant 10 (some .long)) { frames := 2, cells := 0, slots := 0, locals := 51 } (va_Pc [.ref (g.1 0 0), .int p1, .int p2, .int p3, .int p4, .int p5] (PW VM ctM g S)) (va_Ql (fun r u => r = tX8_meant S p1 p2 p3 p4 p5 ∧ u = S) (fun u U => PW VM ctM g u U) A) 0 0 A := by
  refine ent (cc := cX8_meant) (maxL := 10) (ret := (some .long)) (by decide) (Nat.le_of_ble_eq_true rfl) ?_
  intro p e s m below meth c args Q C0 hr hlocks hP hK hQ ls hl
  have hx := C0.1
  have hb := C0.2.1
  have hml := C0.2.2.1
  have hown := C0.2.2.2.1
  have hts := C0.2.2.2.2
  obtain ⟨F, hF⟩ : ∃ F : Int64, F = tX8_meant S p1 p2 p3 p4 p5 := ⟨_, rfl⟩
  have hf := hF
  unfold tX8_meant at hf
  have hS : va_S A s.heap s.heap [] := va_S.rf
  have hl : lv_has ls 10 [(0, .ref (g.1 0 0)), (1, .int p1), (2, .int p2), (3, .int p3), (4, .int p4), (5, .int p5)] := hl
  refine lv_iload_n hx hb dX8_meant_0 rfl (lv_at hl 1 rfl) ?_
  refine lv_i2l (v := (Int32.toInt64 p1)) hx hb dX8_meant_1 rfl ?_
  refine lv_lconst (v := 0) hx hb dX8_meant_2 (by decide) ?_
  refine lv_ldc2 (v := 100) hx hb hown (hts _ q947) dX8_meant_3 ?_
  refine kzc (va_runS (As := [.long (Int32.toInt64 p1), .long 0, .long 100]) (rest := []) C0 (kX8_in l g A hA S (Int32.toInt64 p1) 0 100) (va_cwS 3 hts (gS q799 q800 q54 q801) rfl rfl rfl (by decide +kernel) ⟨Nat.le_of_ble_eq_true rfl, Nat.le_of_ble_eq_true rfl⟩) (preS hP hK) rfl rfl hl.1 rfl (lv_room (Nat.le_of_ble_eq_true rfl)) dX8_meant_6 ⟨Nat.zero_le _, Nat.zero_le _⟩) hS (fun _ h => h) (fun zc1 H locs hP hS => ?_) (fun zc1 H locs hP hS => ?_)
  · have hf := hf.trans (if_pos zc1)
    refine lv_if_eq (tgt := 59) hx hb dX8_meant_9 (by decide) (fun zc2 => absurd zc2 (by decide)) (fun zc2 => ?_)
    refine lv_iload_n hx hb dX8_meant_12 rfl (lv_at hl 2 rfl) ?_
    refine lv_i2l (v := (Int32.toInt64 p2)) hx hb dX8_meant_13 rfl ?_
    refine lv_lconst (v := 0) hx hb dX8_meant_14 (by decide) ?_
    refine lv_ldc2 (v := 100) hx hb hown (hts _ q947) dX8_meant_15 ?_
    refine kzc (va_runS (As := [.long (Int32.toInt64 p2), .long 0, .long 100]) (rest := []) C0 (kX8_in l g A hA S (Int32.toInt64 p2) 0 100) (va_cwS 3 hts (gS q799 q800 q54 q801) rfl rfl rfl (by decide +kernel) ⟨Nat.le_of_ble_eq_true rfl, Nat.le_of_ble_eq_true rfl⟩) (preS hP hK) rfl rfl hl.1 rfl (lv_room (Nat.le_of_ble_eq_true rfl)) dX8_meant_18 ⟨Nat.zero_le _, Nat.zero_le _⟩) hS (fun _ h => h) (fun zc3 H locs hP hS => ?_) (fun zc3 H locs hP hS => ?_)
    · have hf := hf.trans (if_pos zc3)
      refine lv_if_eq (tgt := 59) hx hb dX8_meant_21 (by decide) (fun zc4 => absurd zc4 (by decide)) (fun zc4 => ?_)
      refine lv_iload_n hx hb dX8_meant_24 rfl (lv_at hl 3 rfl) ?_
      refine lv_i2l (v := (Int32.toInt64 p3)) hx hb dX8_meant_25 rfl ?_
      refine lv_lconst (v := 0) hx hb dX8_meant_26 (by decide) ?_
      refine lv_ldc2 (v := 6) hx hb hown (hts _ q971) dX8_meant_27 ?_
      refine kzc (va_runS (As := [.long (Int32.toInt64 p3), .long 0, .long 6]) (rest := []) C0 (kX8_in l g A hA S (Int32.toInt64 p3) 0 6) (va_cwS 3 hts (gS q799 q800 q54 q801) rfl rfl rfl (by decide +kernel) ⟨Nat.le_of_ble_eq_true rfl, Nat.le_of_ble_eq_true rfl⟩) (preS hP hK) rfl rfl hl.1 rfl (lv_room (Nat.le_of_ble_eq_true rfl)) dX8_meant_30 ⟨Nat.zero_le _, Nat.zero_le _⟩) hS (fun _ h => h) (fun zc5 H locs hP hS => ?_) (fun zc5 H locs hP hS => ?_)
      · have hf := hf.trans (if_pos zc5)
        refine lv_if_eq (tgt := 59) hx hb dX8_meant_33 (by decide) (fun zc6 => absurd zc6 (by decide)) (fun zc6 => ?_)
        refine lv_iload hx hb dX8_meant_36 (lv_at hl 4 rfl) ?_
        refine lv_i2l (v := (Int32.toInt64 p4)) hx hb dX8_meant_38 rfl ?_
        refine lv_lconst (v := 0) hx hb dX8_meant_39 (by decide) ?_
        refine lv_iload_n hx hb dX8_meant_40 rfl (lv_at hl 3 rfl) ?_
        refine lv_i2l (v := (Int32.toInt64 p3)) hx hb dX8_meant_41 rfl ?_
        refine kzc (va_runS (As := [.long (Int32.toInt64 p4), .long 0, .long (Int32.toInt64 p3)]) (rest := []) C0 (kX8_in l g A hA S (Int32.toInt64 p4) 0 (Int32.toInt64 p3)) (va_cwS 3 hts (gS q799 q800 q54 q801) rfl rfl rfl (by decide +kernel) ⟨Nat.le_of_ble_eq_true rfl, Nat.le_of_ble_eq_true rfl⟩) (preS hP hK) rfl rfl hl.1 rfl (lv_room (Nat.le_of_ble_eq_true rfl)) dX8_meant_42 ⟨Nat.zero_le _, Nat.zero_le _⟩) hS (fun _ h => h) (fun zc7 H locs hP hS => ?_) (fun zc7 H locs hP hS => ?_)
        · have hf := hf.trans (if_pos zc7)
          refine lv_if_eq (tgt := 59) hx hb dX8_meant_45 (by decide) (fun zc8 => absurd zc8 (by decide)) (fun zc8 => ?_)
          refine lv_iload hx hb dX8_meant_48 (lv_at hl 5 rfl) ?_
          refine lv_i2l (v := (Int32.toInt64 p5)) hx hb dX8_meant_50 rfl ?_
          refine lv_lconst (v := 0) hx hb dX8_meant_51 (by decide) ?_
          refine lv_lconst (v := 1) hx hb dX8_meant_52 (by decide) ?_
          refine kzc (va_runS (As := [.long (Int32.toInt64 p5), .long 0, .long 1]) (rest := []) C0 (kX8_in l g A hA S (Int32.toInt64 p5) 0 1) (va_cwS 3 hts (gS q799 q800 q54 q801) rfl rfl rfl (by decide +kernel) ⟨Nat.le_of_ble_eq_true rfl, Nat.le_of_ble_eq_true rfl⟩) (preS hP hK) rfl rfl hl.1 rfl (lv_room (Nat.le_of_ble_eq_true rfl)) dX8_meant_53 ⟨Nat.zero_le _, Nat.zero_le _⟩) hS (fun _ h => h) (fun zc9 H locs hP hS => ?_) (fun zc9 H locs hP hS => ?_)
          · have hf := hf.trans (if_pos zc9)
            refine lv_if_ne (tgt := 63) hx hb dX8_meant_56 (by decide) (fun zc10 => ?_) (fun zc10 => absurd zc10 (by decide))
            refine lv_iload_n hx hb dX8_meant_63 rfl (lv_at hl 1 rfl) ?_
            refine lv_i2l (v := (Int32.toInt64 p1)) hx hb dX8_meant_64 rfl ?_
            refine lv_iload hx hb dX8_meant_65 (lv_at hl 4 rfl) ?_
            refine klP (va_runS (As := [.long (Int32.toInt64 p1), .int p4]) (rest := []) C0 (kX8_times l g A hA S (Int32.toInt64 p1) p4) (va_cwS 2 hts (gS q1001 q1002 q54 q1003) rfl rfl rfl (by decide +kernel) ⟨Nat.le_of_ble_eq_true rfl, Nat.le_of_ble_eq_true rfl⟩) (preS hP hK) rfl rfl hl.1 rfl (lv_room (Nat.le_of_ble_eq_true rfl)) dX8_meant_67 ⟨Nat.zero_le _, Nat.zero_le _⟩) hS (fun _ h => h) (fun H locs hP hS => ?_)
            refine lv_bipush (v := 100) hx hb dX8_meant_70 (by decide) ?_
            refine lv_iload_n hx hb dX8_meant_72 rfl (lv_at hl 1 rfl) ?_
            refine lv_isub hx hb dX8_meant_73 ?_
            refine lv_i2l (v := (Int32.toInt64 (100 - p1))) hx hb dX8_meant_74 rfl ?_
            refine lv_iload_n hx hb dX8_meant_75 rfl (lv_at hl 3 rfl) ?_
            refine lv_iload hx hb dX8_meant_76 (lv_at hl 4 rfl) ?_
            refine lv_isub hx hb dX8_meant_78 ?_
            refine klP (va_runS (As := [.long (Int32.toInt64 (100 - p1)), .int (p3 - p4)]) (rest := [.long (tX8_times S (Int32.toInt64 p1) p4)]) C0 (kX8_times l g A hA S (Int32.toInt64 (100 - p1)) (p3 - p4)) (va_cwS 2 hts (gS q1001 q1002 q54 q1003) rfl rfl rfl (by decide +kernel) ⟨Nat.le_of_ble_eq_true rfl, Nat.le_of_ble_eq_true rfl⟩) (preS hP hK) rfl rfl hl.1 rfl (lv_room (Nat.le_of_ble_eq_true rfl)) dX8_meant_79 ⟨Nat.zero_le _, Nat.zero_le _⟩) hS (fun _ h => h) (fun H locs hP hS => ?_)
            refine lv_lmul hx hb dX8_meant_82 ?_
            refine lv_lstore (lv' := [(6, .long ((tX8_times S (Int32.toInt64 p1) p4) * (tX8_times S (Int32.toInt64 (100 - p1)) (p3 - p4)))), (0, .ref (g.1 0 0)), (1, .int p1), (2, .int p2), (3, .int p3), (4, .int p4), (5, .int p5)]) hx hb dX8_meant_83 hl (by decide) rfl (fun ls hl => ?_)
            refine lv_iload_n hx hb dX8_meant_85 rfl (lv_at hl 3 rfl) ?_
            refine lv_i2l (v := (Int32.toInt64 p2)) hx hb dX8_meant_86 rfl ?_
            refine lv_iload hx hb dX8_meant_87 (lv_at hl 5 rfl) ?_
            refine klP (va_runS (As := [.long (Int32.toInt64 p2), .int p4]) (rest := []) C0 (kX8_times l g A hA S (Int32.toInt64 p2) p4) (va_cwS 2 hts (gS q1001 q1002 q54 q1003) rfl rfl rfl (by decide +kernel) ⟨Nat.le_of_ble_eq_true rfl, Nat.le_of_ble_eq_true rfl⟩) (preS hP hK) rfl rfl hl.1 rfl (lv_room (Nat.le_of_ble_eq_true rfl)) dX8_meant_89 ⟨Nat.zero_le _, Nat.zero_le _⟩) hS (fun _ h => h) (fun H locs hP hS => ?_)
            refine lv_bipush (v := 100) hx hb dX8_meant_92 (by decide) ?_
            refine lv_iload_n hx hb dX8_meant_94 rfl (lv_at hl 3 rfl) ?_
            refine lv_isub hx hb dX8_meant_95 ?_
            refine lv_i2l (v := (Int32.toInt64 (100 - p2))) hx hb dX8_meant_96 rfl ?_
            refine lv_iload_n hx hb dX8_meant_97 rfl (lv_at hl 4 rfl) ?_
            refine lv_iload hx hb dX8_meant_98 (lv_at hl 5 rfl) ?_
            refine lv_isub hx hb dX8_meant_100 ?_
            refine klP (va_runS (As := [.long (Int32.toInt64 (100 - p2)), .int (p3 - p4)]) (rest := [.long (tX8_times S (Int32.toInt64 p2) p4)]) C0 (kX8_times l g A hA S (Int32.toInt64 (100 - p2)) (p3 - p4)) (va_cwS 2 hts (gS q1001 q1002 q54 q1003) rfl rfl rfl (by decide +kernel) ⟨Nat.le_of_ble_eq_true rfl, Nat.le_of_ble_eq_true rfl⟩) (preS hP hK) rfl rfl hl.1 rfl (lv_room (Nat.le_of_ble_eq_true rfl)) dX8_meant_101 ⟨Nat.zero_le _, Nat.zero_le _⟩) hS (fun _ h => h) (fun H locs hP hS => ?_)
            refine lv_lmul hx hb dX8_meant_104 ?_
            refine lv_lstore (lv' := [(8, .long ((tX8_times S (Int32.toInt64 p2) p4) * (tX8_times S (Int32.toInt64 (100 - p2)) (p3 - p4)))), (6, .long ((tX8_times S (Int32.toInt64 p1) p4) * (tX8_times S (Int32.toInt64 (100 - p1)) (p3 - p4)))), (0, .ref (g.1 0 0)), (1, .int p1), (2, .int p2), (3, .int p3), (4, .int p4), (5, .int p5)]) hx hb dX8_meant_105 hl (by decide) rfl (fun ls hl => ?_)
            refine lv_lload hx hb dX8_meant_107 (lv_at hl 1 rfl) ?_
            refine lv_lload hx hb dX8_meant_109 (lv_at hl 0 rfl) ?_
            refine lv_ladd hx hb dX8_meant_111 ?_
            refine lv_lconst (v := 0) hx hb dX8_meant_112 (by decide) ?_
            refine klcmp_ne (tgt := 123) hx hb dX8_meant_113 dX8_meant_114 (by decide) (fun zc11 => ?_) (fun zc11 => ?_)
            · have hf := hf.trans (if_neg zc11)
              refine lv_lload hx hb dX8_meant_123 (lv_at hl 0 rfl) ?_
              refine lv_lload hx hb dX8_meant_125 (lv_at hl 1 rfl) ?_
              refine lv_lload hx hb dX8_meant_127 (lv_at hl 0 rfl) ?_
              refine lv_ladd hx hb dX8_meant_129 ?_
              refine lv_iload hx hb dX8_meant_130 (lv_at hl 7 rfl) ?_
              refine klP (va_runS (As := [.long ((tX8_times S (Int32.toInt64 p2) p4) * (tX8_times S (Int32.toInt64 (100 - p2)) (p3 - p4))), .long (((tX8_times S (Int32.toInt64 p1) p4) * (tX8_times S (Int32.toInt64 (100 - p1)) (p3 - p4))) + ((tX8_times S (Int32.toInt64 p2) p4) * (tX8_times S (Int32.toInt64 (100 - p2)) (p3 - p4)))), .int p5]) (rest := []) C0 (kX8_lowest l g A hA S ((tX8_times S (Int32.toInt64 p2) p4) * (tX8_times S (Int32.toInt64 (100 - p2)) (p3 - p4))) (((tX8_times S (Int32.toInt64 p1) p4) * (tX8_times S (Int32.toInt64 (100 - p1)) (p3 - p4))) + ((tX8_times S (Int32.toInt64 p2) p4) * (tX8_times S (Int32.toInt64 (100 - p2)) (p3 - p4)))) p5 zc11) (va_cwS 3 hts (gS q948 q949 q54 q950) rfl rfl rfl (by decide +kernel) ⟨Nat.le_of_ble_eq_true rfl, Nat.le_of_ble_eq_true rfl⟩) (preS hP hK) rfl rfl hl.1 rfl (lv_room (Nat.le_of_ble_eq_true rfl)) dX8_meant_132 ⟨Nat.zero_le _, Nat.zero_le _⟩) hS (fun _ h => h) (fun H locs hP hS => ?_)
              exact rl hQ C0 hr hlocks hK hP hS (by rw [← hF]; exact ⟨hf.symm, rfl⟩) dX8_meant_135
            · have hf := hf.trans (if_pos zc11)
              refine lv_iload hx hb dX8_meant_117 (lv_at hl 7 rfl) ?_
              refine lv_i2l (v := (Int32.toInt64 p5)) hx hb dX8_meant_119 rfl ?_
              refine lv_goto (tgt := 135) hx hb dX8_meant_120 (by decide) ?_
              exact rl hQ C0 hr hlocks hK hP hS (by rw [← hF]; exact ⟨hf.symm, rfl⟩) dX8_meant_135
          · have hf := hf.trans (if_neg zc9)
            refine lv_if_ne (tgt := 63) hx hb dX8_meant_56 (by decide) (fun zc12 => absurd (by decide) zc12) (fun zc12 => ?_)
            refine lv_ldc2 (v := (-1000000000000000002)) hx hb hown (hts _ q942) dX8_meant_59 ?_
            exact rl hQ C0 hr hlocks hK hP hS (by rw [← hF]; exact ⟨hf.symm, rfl⟩) dX8_meant_62
        · have hf := hf.trans (if_neg zc7)
          refine lv_if_eq (tgt := 59) hx hb dX8_meant_45 (by decide) (fun zc13 => ?_) (fun zc13 => absurd (by decide) zc13)
          refine lv_ldc2 (v := (-1000000000000000002)) hx hb hown (hts _ q942) dX8_meant_59 ?_
          exact rl hQ C0 hr hlocks hK hP hS (by rw [← hF]; exact ⟨hf.symm, rfl⟩) dX8_meant_62
      · have hf := hf.trans (if_neg zc5)
        refine lv_if_eq (tgt := 59) hx hb dX8_meant_33 (by decide) (fun zc14 => ?_) (fun zc14 => absurd (by decide) zc14)
        refine lv_ldc2 (v := (-1000000000000000002)) hx hb hown (hts _ q942) dX8_meant_59 ?_
        exact rl hQ C0 hr hlocks hK hP hS (by rw [← hF]; exact ⟨hf.symm, rfl⟩) dX8_meant_62
    · have hf := hf.trans (if_neg zc3)
      refine lv_if_eq (tgt := 59) hx hb dX8_meant_21 (by decide) (fun zc15 => ?_) (fun zc15 => absurd (by decide) zc15)
      refine lv_ldc2 (v := (-1000000000000000002)) hx hb hown (hts _ q942) dX8_meant_59 ?_
      exact rl hQ C0 hr hlocks hK hP hS (by rw [← hF]; exact ⟨hf.symm, rfl⟩) dX8_meant_62
  · have hf := hf.trans (if_neg zc1)
    refine lv_if_eq (tgt := 59) hx hb dX8_meant_9 (by decide) (fun zc16 => ?_) (fun zc16 => absurd (by decide) zc16)
    refine lv_ldc2 (v := (-1000000000000000002)) hx hb hown (hts _ q942) dX8_meant_59 ?_
    exact rl hQ C0 hr hlocks hK hP hS (by rw [← hF]; exact ⟨hf.symm, rfl⟩) dX8_meant_62
