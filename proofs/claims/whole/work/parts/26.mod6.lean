theorem hear28_t (S0 : St) : ∀ (k i : Nat) (S : St), (LX8_hearTales_28 S0 k i S).1 0 0 16 = S.1 0 0 16 := by
  intro k
  induction k with
  | zero => intro i S; rfl
  | succ k ih =>
    intro i S
    rw [LX8_hearTales_28]
    simp only [bnd_def]
    repeat' split
    all_goals rw [ih]
    all_goals first
      | (rw [up_lo _ _ (by decide)]; done)
      | (rw [joinM_row _ (by decide), up_lo _ _ (by decide)]; done)
theorem hear7_t (S0 : St) : ∀ (k i : Nat) (S : St), (LX8_hearTales_7 S0 k i S).1 0 0 16 = S.1 0 0 16 := by
  intro k
  induction k with
  | zero => intro i S; rw [LX8_hearTales_7]; exact hear28_t _ _ _ _
  | succ k ih => intro i S; rw [LX8_hearTales_7, ih, up_row_ne _ _ (by decide)]
theorem hear_t (S : St) : (tX8_hearTales S).1 0 0 16 = S.1 0 0 16 := by
  unfold tX8_hearTales
  rw [hear7_t, up_lo _ _ (by decide)]
theorem hl0p {x : Int32} (h : wi x 0 8) : x - 1 = nI x.toNatClampNeg - 1 := by
  rw [← nI_cl (Int32.not_lt.mpr h.1)]
def LX8_broken_27 (S : St) (p1 : Int32) (zS3 : St) : Nat → Int32 → Int32 × St
  | 0, zx6 => (if p1 = 0 then (zx6, zS3) else ((tX8_bitsOf zS3 (zS3.1 0 0 33)), zS3))
  | zk5 + 1, zx6 => (if ((ishrF (zS3.1 0 0 33) (nI zk5)) &&& 1) = 1 then (LX8_broken_27 S p1 zS3 zk5 (nI zk5)) else (LX8_broken_27 S p1 zS3 zk5 zx6))
def tX8_broken (S : St) (p1 : Int32) : Int32 × St :=
  (if wj (Int32.toInt64 p1) 0 1 then (bnd (tX8_hearTales S) (fun zS3 => (LX8_broken_27 S p1 zS3 (Int32.toNatClampNeg (S.1 0 0 16)) (-6)))) else ((-2), S))
set_option maxHeartbeats 4000000 in
set_option maxRecDepth 100000 in
theorem kX8_broken (l : Launch) (g : Gd) (A : Nat → Prop) (hA : Ads g.1 VM A) (S : St) (p1 : Int32) (ht : wi (S.1 0 0 16) 0 8) (htk : ∀ j, j < (S.1 0 0 16).toNatClampNeg → vp_in (S.1 0 13 j) 8 ∧ vp_in (S.1 0 14 j) 8) : Met l yX8_broken (wU yX8_broken cX8_broken 4 (some .int)) { frames := 2, cells := 0, slots := 0, locals := 52 } (va_Pc [.ref (g.1 0 0), .int p1] (PW VM ctM g S)) (va_Qi (fun r u => r = (tX8_broken S p1).1 ∧ u = (tX8_broken S p1).2) (fun u U => PW VM ctM g u U) A) 0 0 A := by
  refine ent (cc := cX8_broken) (maxL := 4) (ret := (some .int)) (by decide) (Nat.le_of_ble_eq_true rfl) ?_
  intro p e s m below meth c args Q C0 hr hlocks hP hK hQ ls hl
  have hx := C0.1
  have hb := C0.2.1
  have hml := C0.2.2.1
  have hown := C0.2.2.2.1
  have hts := C0.2.2.2.2
  obtain ⟨F, hF⟩ : ∃ F : Int32 × St, F = tX8_broken S p1 := ⟨_, rfl⟩
  have hf := hF
  unfold tX8_broken at hf
  have hS : va_S A s.heap s.heap [] := va_S.rf
  have hl : lv_has ls 4 [(0, .ref (g.1 0 0)), (1, .int p1)] := hl
  refine lv_iload_n hx hb dX8_broken_0 rfl (lv_at hl 1 rfl) ?_
  refine lv_i2l (v := (Int32.toInt64 p1)) hx hb dX8_broken_1 rfl ?_
  refine lv_lconst (v := 0) hx hb dX8_broken_2 (by decide) ?_
  refine lv_lconst (v := 1) hx hb dX8_broken_3 (by decide) ?_
  refine kzc (va_runS (As := [.long (Int32.toInt64 p1), .long 0, .long 1]) (rest := []) C0 (kX8_in l g A hA S (Int32.toInt64 p1) 0 1) (va_cwS 3 hts (gS q799 q800 q54 q801) rfl rfl rfl (by decide +kernel) ⟨Nat.le_of_ble_eq_true rfl, Nat.le_of_ble_eq_true rfl⟩) (preS hP hK) rfl rfl hl.1 rfl (lv_room (Nat.le_of_ble_eq_true rfl)) dX8_broken_4 ⟨Nat.zero_le _, Nat.zero_le _⟩) hS (fun _ h => h) (fun zc1 H locs hP hS => ?_) (fun zc1 H locs hP hS => ?_)
  · have hf := hf.trans (if_pos zc1)
    refine lv_if_ne (tgt := 13) hx hb dX8_broken_7 (by decide) (fun zc2 => ?_) (fun zc2 => absurd zc2 (by decide))
    refine lv_aload_n hx hb dX8_broken_13 rfl (lv_at hl 0 rfl) ?_
    refine kv (va_runV (As := []) (rest := []) C0 (kX8_hearTales l g A hA S  ht htk) (cwV 0 hts (gV q1017 q1019 q35 q54 q1020) rfl rfl rfl (by decide +kernel) ⟨Nat.le_of_ble_eq_true rfl, Nat.le_of_ble_eq_true rfl⟩) (preV (recO (mMain g) hP hK rfl) hP hK) rfl rfl hl.1 rfl (lv_room (Nat.le_of_ble_eq_true rfl)) dX8_broken_14 ⟨Nat.zero_le _, Nat.zero_le _⟩) hS (fun _ h => h) (fun zS3 H locs hw hP hS => ?_)
    have hf := hf.trans (bnd_eq hw)
    refine lv_bipush (v := (-6)) hx hb dX8_broken_17 (by decide) ?_
    refine lv_istore_n (lv' := [(2, .int (-6)), (0, .ref (g.1 0 0)), (1, .int p1)]) hx hb dX8_broken_19 rfl hl (by decide) rfl (fun ls hl => ?_)
    refine lv_aload_n hx hb dX8_broken_20 rfl (lv_at hl 1 rfl) ?_
    refine gO (T := TX8) C0 inA8 hK hP (mMain g) rfl 16 (by decide) (hts _ q692) (v := .int (zS3.1 0 0 16)) rfl dX8_broken_21 ?_
    refine lv_iconst (v := 1) hx hb dX8_broken_24 (by decide) ?_
    refine lv_isub hx hb dX8_broken_25 ?_
    refine lv_istore_n (lv' := [(3, .int ((zS3.1 0 0 16) - 1)), (2, .int (-6)), (0, .ref (g.1 0 0)), (1, .int p1)]) hx hb dX8_broken_26 rfl hl (by decide) rfl (fun ls hl => ?_)
    have lp27 : ∀ (zk5 : Nat) (zx6 : Int32) (H : Heap) (locs : List Loc), (zk5 ≤ (Int32.toNatClampNeg (S.1 0 0 16))) → (F = LX8_broken_27 S p1 zS3 zk5 zx6) → HW VM ctM g zS3 H → va_S A s.heap H locs → ∀ ls : Array Slot, lv_has ls 4 [(3, .int (nI zk5 - 1)), (0, .ref (g.1 0 0)), (1, .int p1), (2, .int zx6)] → W p l e { frames := 2, cells := 0, slots := 0, locals := 52 } s m args below meth c H locs 0 0 Q (F0 m 27 ls []) := by
      intro zk5
      induction zk5 with
      | zero =>
        intro zx6 H locs hik hf hP hS ls hl
        have hcl := tcl (S.1 0 0 16)
        rw [LX8_broken_27] at hf
        refine lv_iload_n hx hb dX8_broken_27 rfl (lv_at hl 0 rfl) ?_
        refine lv_if_lt (tgt := 55) hx hb dX8_broken_28 (by decide) (fun zc7 => ?_) (fun zc7 => absurd (by decide) zc7)
        refine lv_iload_n hx hb dX8_broken_55 rfl (lv_at hl 2 rfl) ?_
        refine lv_if_ne (tgt := 63) hx hb dX8_broken_56 (by decide) (fun zc8 => ?_) (fun zc8 => ?_)
        · have hf := hf.trans (if_neg zc8)
          refine lv_aload_n hx hb dX8_broken_63 rfl (lv_at hl 1 rfl) ?_
          refine gO (T := TX8) C0 inA8 hK hP (mMain g) rfl 33 (by decide) (hts _ q709) (v := .int (zS3.1 0 0 33)) rfl dX8_broken_64 ?_
          refine kiP (va_runS (As := [.int (zS3.1 0 0 33)]) (rest := []) C0 (kX8_bitsOf l g A hA zS3 (zS3.1 0 0 33)) (va_cwS 1 hts (gS q805 q806 q54 q807) rfl rfl rfl (by decide +kernel) ⟨Nat.le_of_ble_eq_true rfl, Nat.le_of_ble_eq_true rfl⟩) (preS hP hK) rfl rfl hl.1 rfl (lv_room (Nat.le_of_ble_eq_true rfl)) dX8_broken_67 ⟨Nat.zero_le _, Nat.zero_le _⟩) hS (fun _ h => h) (fun H locs hP hS => ?_)
          exact ri hQ C0 hr hlocks hK hP hS (by rw [← hF]; exact fin2 hf) dX8_broken_70
        · have hf := hf.trans (if_pos zc8)
          refine lv_iload_n hx hb dX8_broken_59 rfl (lv_at hl 3 rfl) ?_
          refine lv_goto (tgt := 70) hx hb dX8_broken_60 (by decide) ?_
          exact ri hQ C0 hr hlocks hK hP hS (by rw [← hF]; exact fin2 hf) dX8_broken_70
      | succ zk5 ih27 =>
        intro zx6 H locs hik hf hP hS ls hl
        have hcl := tcl (S.1 0 0 16)
        rw [LX8_broken_27] at hf
        rw [nI_pred] at hl
        refine lv_iload_n hx hb dX8_broken_27 rfl (lv_at hl 0 rfl) ?_
        refine lv_if_lt (tgt := 55) hx hb dX8_broken_28 (by decide) (fun zc9 => absurd zc9 (nI_pos (by omega))) (fun zc9 => ?_)
        refine lv_aload_n hx hb dX8_broken_31 rfl (lv_at hl 1 rfl) ?_
        refine gO (T := TX8) C0 inA8 hK hP (mMain g) rfl 33 (by decide) (hts _ q709) (v := .int (zS3.1 0 0 33)) rfl dX8_broken_32 ?_
        refine lv_iload_n hx hb dX8_broken_35 rfl (lv_at hl 0 rfl) ?_
        refine kishr hx hb dX8_broken_36 ?_
        refine lv_iconst (v := 1) hx hb dX8_broken_37 (by decide) ?_
        refine lv_iand hx hb dX8_broken_38 ?_
        refine lv_iconst (v := 1) hx hb dX8_broken_39 (by decide) ?_
        refine lv_icmp_ne (tgt := 47) hx hb dX8_broken_40 (by decide) (fun zc10 => ?_) (fun zc10 => ?_)
        · have hf := hf.trans (if_neg zc10)
          refine lv_iload_n hx hb dX8_broken_47 rfl (lv_at hl 3 rfl) ?_
          refine lv_istore_n (lv' := [(2, .int zx6), (3, .int (nI zk5)), (0, .ref (g.1 0 0)), (1, .int p1)]) hx hb dX8_broken_48 rfl hl (by decide) rfl (fun ls hl => ?_)
          refine lv_iinc (v := ((nI zk5) + (-1))) (lv' := [(3, .int ((nI zk5) + (-1))), (2, .int zx6), (0, .ref (g.1 0 0)), (1, .int p1)]) hx hb dX8_broken_49 hl (k := 1) rfl rfl (by decide) rfl (fun ls hl => ?_)
          refine lv_goto (tgt := 27) hx hb dX8_broken_52 (by decide) ?_
          exact ih27 zx6 _ _ (by omega) hf hP hS ls (lv_sub (lv_eqI hl (m1_eq _)) [0, 2, 3, 1] rfl)
        · have hf := hf.trans (if_pos zc10)
          refine lv_iload_n hx hb dX8_broken_43 rfl (lv_at hl 0 rfl) ?_
          refine lv_goto (tgt := 48) hx hb dX8_broken_44 (by decide) ?_
          refine lv_istore_n (lv' := [(2, .int (nI zk5)), (3, .int (nI zk5)), (0, .ref (g.1 0 0)), (1, .int p1)]) hx hb dX8_broken_48 rfl hl (by decide) rfl (fun ls hl => ?_)
          refine lv_iinc (v := ((nI zk5) + (-1))) (lv' := [(3, .int ((nI zk5) + (-1))), (2, .int (nI zk5)), (0, .ref (g.1 0 0)), (1, .int p1)]) hx hb dX8_broken_49 hl (k := 1) rfl rfl (by decide) rfl (fun ls hl => ?_)
          refine lv_goto (tgt := 27) hx hb dX8_broken_52 (by decide) ?_
          exact ih27 (nI zk5) _ _ (by omega) hf hP hS ls (lv_sub (lv_eqI hl (m1_eq _)) [0, 2, 3, 1] rfl)
    exact lp27 (Int32.toNatClampNeg (S.1 0 0 16)) (-6) _ _ (Nat.le_refl _) hf hP hS ls (lv_sub (lv_eqI hl (by rw [hw, hear_t]; exact hl0p ht)) [0, 2, 3, 1] rfl)
  · have hf := hf.trans (if_neg zc1)
    refine lv_if_ne (tgt := 13) hx hb dX8_broken_7 (by decide) (fun zc11 => absurd (by decide) zc11) (fun zc11 => ?_)
    refine lv_bipush (v := (-2)) hx hb dX8_broken_10 (by decide) ?_
    exact ri hQ C0 hr hlocks hK hP hS (by rw [← hF]; exact fin2 hf) dX8_broken_12
def LX8_isOneShip_13 (S : St) (p1 : Int32) (zi1 : Nat) (K : Int32 → Int32) : Nat → Nat → Int32 → Int32
  | 0, zi6, zx8 => (K zx8)
  | zk7 + 1, zi6, zx8 => (if ((ishrF p1 (nI zi1)) &&& 1) = 1 then (if ((ishrF p1 (nI zi6)) &&& 1) = 1 then (if (S.1 0 32 zi1) = (S.1 0 32 zi6) then (if zx8 = 0 then (LX8_isOneShip_13 S p1 zi1 K zk7 (zi6 + 1) 0) else (LX8_isOneShip_13 S p1 zi1 K zk7 (zi6 + 1) 1)) else (if (tX8_areTwo S (S.1 0 32 zi1) (S.1 0 32 zi6) (S.1 0 0 16)) = 0 then (if zx8 = 0 then (LX8_isOneShip_13 S p1 zi1 K zk7 (zi6 + 1) 0) else (LX8_isOneShip_13 S p1 zi1 K zk7 (zi6 + 1) 1)) else (if zx8 = 0 then (LX8_isOneShip_13 S p1 zi1 K zk7 (zi6 + 1) 0) else (LX8_isOneShip_13 S p1 zi1 K zk7 (zi6 + 1) 0)))) else (if (S.1 0 32 zi1) = (S.1 0 32 zi6) then (if zx8 = 0 then (LX8_isOneShip_13 S p1 zi1 K zk7 (zi6 + 1) 0) else (LX8_isOneShip_13 S p1 zi1 K zk7 (zi6 + 1) 0)) else (if zx8 = 0 then (LX8_isOneShip_13 S p1 zi1 K zk7 (zi6 + 1) 0) else (LX8_isOneShip_13 S p1 zi1 K zk7 (zi6 + 1) 1)))) else (if ((ishrF p1 (nI zi6)) &&& 1) = 1 then (if zx8 = 0 then (LX8_isOneShip_13 S p1 zi1 K zk7 (zi6 + 1) 0) else (LX8_isOneShip_13 S p1 zi1 K zk7 (zi6 + 1) 1)) else (if zx8 = 0 then (LX8_isOneShip_13 S p1 zi1 K zk7 (zi6 + 1) 0) else (LX8_isOneShip_13 S p1 zi1 K zk7 (zi6 + 1) 1))))
def LX8_isOneShip_4 (S : St) (p1 : Int32) : Nat → Nat → Int32 → Int32
  | 0, zi1, zx3 => zx3
  | zk2 + 1, zi1, zx3 => (LX8_isOneShip_13 S p1 zi1 (fun zx8 => (LX8_isOneShip_4 S p1 zk2 (zi1 + 1) zx8)) 8 0 zx3)
def tX8_isOneShip (S : St) (p1 : Int32) : Int32 :=
  (LX8_isOneShip_4 S p1 8 0 1)
set_option maxHeartbeats 4000000 in
set_option maxRecDepth 100000 in
theorem kX8_isOneShip (l : Launch) (g : Gd) (A : Nat → Prop) (hA : Ads g.1 VM A) (S : St) (p1 : Int32) (ht : wi (S.1 0 0 16) 0 8) (htk : ∀ j, j < (S.1 0 0 16).toNatClampNeg → vp_in (S.1 0 13 j) 8 ∧ vp_in (S.1 0 14 j) 8) : Met l yX8_isOneShip (wU yX8_isOneShip cX8_isOneShip 9 (some .boolean)) { frames := 1, cells := 0, slots := 0, locals := 28 } (va_Pc [.ref (g.1 0 0), .int p1] (PW VM ctM g S)) (va_Qi (fun r u => r = tX8_isOneShip S p1 ∧ u = S) (fun u U => PW VM ctM g u U) A) 0 0 A := by
  refine ent (cc := cX8_isOneShip) (maxL := 9) (ret := (some .boolean)) (by decide) (Nat.le_of_ble_eq_true rfl) ?_
  intro p e s m below meth c args Q C0 hr hlocks hP hK hQ ls hl
  have hx := C0.1
  have hb := C0.2.1
  have hml := C0.2.2.1
  have hown := C0.2.2.2.1
  have hts := C0.2.2.2.2
  obtain ⟨F, hF⟩ : ∃ F : Int32, F = tX8_isOneShip S p1 := ⟨_, rfl⟩
  have hf := hF
  unfold tX8_isOneShip at hf
  have hS : va_S A s.heap s.heap [] := va_S.rf
  have hl : lv_has ls 9 [(0, .ref (g.1 0 0)), (1, .int p1)] := hl
  refine lv_iconst (v := 1) hx hb dX8_isOneShip_0 (by decide) ?_
  refine lv_istore_n (lv' := [(2, .int 1), (0, .ref (g.1 0 0)), (1, .int p1)]) hx hb dX8_isOneShip_1 rfl hl (by decide) rfl (fun ls hl => ?_)
  refine lv_iconst (v := 0) hx hb dX8_isOneShip_2 (by decide) ?_
  refine lv_istore_n (lv' := [(3, .int 0), (2, .int 1), (0, .ref (g.1 0 0)), (1, .int p1)]) hx hb dX8_isOneShip_3 rfl hl (by decide) rfl (fun ls hl => ?_)
  have lp4 : ∀ (zk2 zi1 : Nat) (zx3 : Int32) (H : Heap) (locs : List Loc), (zi1 + zk2 = 8) → (zx3 = 0 ∨ zx3 = 1) → (F = LX8_isOneShip_4 S p1 zk2 zi1 zx3) → HW VM ctM g S H → va_S A s.heap H locs → ∀ ls : Array Slot, lv_has ls 9 [(3, .int (nI zi1)), (0, .ref (g.1 0 0)), (1, .int p1), (2, .int zx3)] → W p l e { frames := 1, cells := 0, slots := 0, locals := 28 } s m args below meth c H locs 0 0 Q (F0 m 4 ls []) := by
    intro zk2
    induction zk2 with
    | zero =>
      intro zi1 zx3 H locs hik hz hf hP hS ls hl
      rw [LX8_isOneShip_4] at hf
      refine lv_iload_n hx hb dX8_isOneShip_4 rfl (lv_at hl 0 rfl) ?_
      refine lv_bipush (v := 8) hx hb dX8_isOneShip_5 (by decide) ?_
      refine lv_icmp_ge (tgt := 175) hx hb dX8_isOneShip_7 (by decide) (fun zc4 => ?_) (fun zc4 => absurd (up_ge0 rfl hik (by decide)) zc4)
      refine lv_iload_n hx hb dX8_isOneShip_175 rfl (lv_at hl 3 rfl) ?_
      exact rz hQ C0 hr hlocks hK hP hS (zor_nar hz) (by rw [← hF]; exact ⟨hf.symm, rfl⟩) dX8_isOneShip_176
    | succ zk2 ih4 =>
      intro zi1 zx3 H locs hik hz hf hP hS ls hl
      rw [LX8_isOneShip_4] at hf
      refine lv_iload_n hx hb dX8_isOneShip_4 rfl (lv_at hl 0 rfl) ?_
      refine lv_bipush (v := 8) hx hb dX8_isOneShip_5 (by decide) ?_
      refine lv_icmp_ge (tgt := 175) hx hb dX8_isOneShip_7 (by decide) (fun zc5 => absurd zc5 (up_ge1 rfl hik (by decide))) (fun zc5 => ?_)
      refine lv_iconst (v := 0) hx hb dX8_isOneShip_10 (by decide) ?_
      refine lv_istore (lv' := [(4, .int 0), (3, .int (nI zi1)), (0, .ref (g.1 0 0)), (1, .int p1), (2, .int zx3)]) hx hb dX8_isOneShip_11 hl (by decide) rfl (fun ls hl => ?_)
      have lp13 : ∀ (zk7 zi6 : Nat) (zx8 : Int32) (H : Heap) (locs : List Loc), (zi6 + zk7 = 8) → (zx8 = 0 ∨ zx8 = 1) → (F = LX8_isOneShip_13 S p1 zi1 (fun zx8 => (LX8_isOneShip_4 S p1 zk2 (zi1 + 1) zx8)) zk7 zi6 zx8) → HW VM ctM g S H → va_S A s.heap H locs → ∀ ls : Array Slot, lv_has ls 9 [(4, .int (nI zi6)), (3, .int (nI zi1)), (0, .ref (g.1 0 0)), (1, .int p1), (2, .int zx8)] → W p l e { frames := 1, cells := 0, slots := 0, locals := 28 } s m args below meth c H locs 0 0 Q (F0 m 13 ls []) := by
        intro zk7
        induction zk7 with
        | zero =>
          intro zi6 zx8 H locs hik hz9 hf hP hS ls hl
          rw [LX8_isOneShip_13] at hf
          refine lv_iload hx hb dX8_isOneShip_13 (lv_at hl 0 rfl) ?_
          refine lv_bipush (v := 8) hx hb dX8_isOneShip_15 (by decide) ?_
          refine lv_icmp_ge (tgt := 169) hx hb dX8_isOneShip_17 (by decide) (fun zc9 => ?_) (fun zc9 => absurd (up_ge0 rfl hik (by decide)) zc9)
          refine lv_iinc (v := (nI (zi1 + 1))) (lv' := [(3, .int (nI (zi1 + 1))), (4, .int (nI zi6)), (0, .ref (g.1 0 0)), (1, .int p1), (2, .int zx8)]) hx hb dX8_isOneShip_169 hl (k := 1) rfl (nI_1 _) (by decide) rfl (fun ls hl => ?_)
          refine lv_goto (tgt := 4) hx hb dX8_isOneShip_172 (by decide) ?_
          exact ih4 (zi1 + 1) zx8 _ _ (by omega) (by first | exact hz9 | exact Or.inl rfl | exact Or.inr rfl) hf hP hS ls (lv_sub hl [0, 2, 3, 4] rfl)
        | succ zk7 ih13 =>
          intro zi6 zx8 H locs hik hz9 hf hP hS ls hl
          rw [LX8_isOneShip_13] at hf
          refine lv_iload hx hb dX8_isOneShip_13 (lv_at hl 0 rfl) ?_
          refine lv_bipush (v := 8) hx hb dX8_isOneShip_15 (by decide) ?_
          refine lv_icmp_ge (tgt := 169) hx hb dX8_isOneShip_17 (by decide) (fun zc10 => absurd zc10 (up_ge1 rfl hik (by decide))) (fun zc10 => ?_)
          refine lv_iload_n hx hb dX8_isOneShip_20 rfl (lv_at hl 3 rfl) ?_
          refine lv_iload_n hx hb dX8_isOneShip_21 rfl (lv_at hl 1 rfl) ?_
          refine kishr hx hb dX8_isOneShip_22 ?_
          refine lv_iconst (v := 1) hx hb dX8_isOneShip_23 (by decide) ?_
          refine lv_iand hx hb dX8_isOneShip_24 ?_
          refine lv_iconst (v := 1) hx hb dX8_isOneShip_25 (by decide) ?_
          refine lv_icmp_ne (tgt := 33) hx hb dX8_isOneShip_26 (by decide) (fun zc11 => ?_) (fun zc11 => ?_)
          · have hf := hf.trans (if_neg zc11)
            refine lv_iconst (v := 0) hx hb dX8_isOneShip_33 (by decide) ?_
            refine lv_istore (lv' := [(5, .int 0), (4, .int (nI zi6)), (3, .int (nI zi1)), (0, .ref (g.1 0 0)), (1, .int p1), (2, .int zx8)]) hx hb dX8_isOneShip_34 hl (by decide) rfl (fun ls hl => ?_)
            refine lv_iload_n hx hb dX8_isOneShip_36 rfl (lv_at hl 4 rfl) ?_
            refine lv_iload hx hb dX8_isOneShip_37 (lv_at hl 1 rfl) ?_
            refine kishr hx hb dX8_isOneShip_39 ?_
            refine lv_iconst (v := 1) hx hb dX8_isOneShip_40 (by decide) ?_
            refine lv_iand hx hb dX8_isOneShip_41 ?_
            refine lv_iconst (v := 1) hx hb dX8_isOneShip_42 (by decide) ?_
            refine lv_icmp_ne (tgt := 50) hx hb dX8_isOneShip_43 (by decide) (fun zc12 => ?_) (fun zc12 => ?_)
            · have hf := hf.trans (if_neg zc12)
              refine lv_iconst (v := 0) hx hb dX8_isOneShip_50 (by decide) ?_
              refine lv_istore (lv' := [(6, .int 0), (5, .int 0), (4, .int (nI zi6)), (3, .int (nI zi1)), (0, .ref (g.1 0 0)), (1, .int p1), (2, .int zx8)]) hx hb dX8_isOneShip_51 hl (by decide) rfl (fun ls hl => ?_)
              refine lv_iload hx hb dX8_isOneShip_53 (lv_at hl 1 rfl) ?_
              refine lv_if_eq (tgt := 83) hx hb dX8_isOneShip_55 (by decide) (fun zc13 => ?_) (fun zc13 => absurd (by decide) zc13)
              refine lv_iconst (v := 0) hx hb dX8_isOneShip_83 (by decide) ?_
              refine lv_istore (lv' := [(7, .int 0), (6, .int 0), (5, .int 0), (4, .int (nI zi6)), (3, .int (nI zi1)), (0, .ref (g.1 0 0)), (1, .int p1), (2, .int zx8)]) hx hb dX8_isOneShip_84 hl (by decide) rfl (fun ls hl => ?_)
              refine lv_iload hx hb dX8_isOneShip_86 (lv_at hl 2 rfl) ?_
              refine lv_if_eq (tgt := 140) hx hb dX8_isOneShip_88 (by decide) (fun zc14 => ?_) (fun zc14 => absurd (by decide) zc14)
              refine lv_iconst (v := 0) hx hb dX8_isOneShip_140 (by decide) ?_
              refine lv_istore (lv' := [(8, .int 0), (7, .int 0), (6, .int 0), (5, .int 0), (4, .int (nI zi6)), (3, .int (nI zi1)), (0, .ref (g.1 0 0)), (1, .int p1), (2, .int zx8)]) hx hb dX8_isOneShip_141 hl (by decide) rfl (fun ls hl => ?_)
              refine lv_iload_n hx hb dX8_isOneShip_143 rfl (lv_at hl 8 rfl) ?_
              refine lv_if_eq (tgt := 161) hx hb dX8_isOneShip_144 (by decide) (fun zc15 => ?_) (fun zc15 => ?_)
              · have hf := hf.trans (if_pos zc15)
                refine lv_iconst (v := 0) hx hb dX8_isOneShip_161 (by decide) ?_
                refine lv_istore_n (lv' := [(2, .int 0), (8, .int 0), (7, .int 0), (6, .int 0), (5, .int 0), (4, .int (nI zi6)), (3, .int (nI zi1)), (0, .ref (g.1 0 0)), (1, .int p1)]) hx hb dX8_isOneShip_162 rfl hl (by decide) rfl (fun ls hl => ?_)
                refine lv_iinc (v := (nI (zi6 + 1))) (lv' := [(4, .int (nI (zi6 + 1))), (2, .int 0), (8, .int 0), (7, .int 0), (6, .int 0), (5, .int 0), (3, .int (nI zi1)), (0, .ref (g.1 0 0)), (1, .int p1)]) hx hb dX8_isOneShip_163 hl (k := 5) rfl (nI_1 _) (by decide) rfl (fun ls hl => ?_)
                refine lv_goto (tgt := 13) hx hb dX8_isOneShip_166 (by decide) ?_
                exact ih13 (zi6 + 1) 0 _ _ (by omega) (by first | exact Or.inl rfl | exact Or.inr rfl) hf hP hS ls (lv_sub hl [0, 6, 7, 8, 1] rfl)
              · have hf := hf.trans (if_neg zc15)
                refine lv_iload hx hb dX8_isOneShip_147 (lv_at hl 1 rfl) ?_
                refine lv_if_ne (tgt := 161) hx hb dX8_isOneShip_149 (by decide) (fun zc16 => absurd (by decide) zc16) (fun zc16 => ?_)
                refine lv_iload hx hb dX8_isOneShip_152 (lv_at hl 0 rfl) ?_
                refine lv_if_ne (tgt := 161) hx hb dX8_isOneShip_154 (by decide) (fun zc17 => absurd (by decide) zc17) (fun zc17 => ?_)
                refine lv_iconst (v := 1) hx hb dX8_isOneShip_157 (by decide) ?_
                refine lv_goto (tgt := 162) hx hb dX8_isOneShip_158 (by decide) ?_
                refine lv_istore_n (lv' := [(2, .int 1), (8, .int 0), (7, .int 0), (6, .int 0), (5, .int 0), (4, .int (nI zi6)), (3, .int (nI zi1)), (0, .ref (g.1 0 0)), (1, .int p1)]) hx hb dX8_isOneShip_162 rfl hl (by decide) rfl (fun ls hl => ?_)
                refine lv_iinc (v := (nI (zi6 + 1))) (lv' := [(4, .int (nI (zi6 + 1))), (2, .int 1), (8, .int 0), (7, .int 0), (6, .int 0), (5, .int 0), (3, .int (nI zi1)), (0, .ref (g.1 0 0)), (1, .int p1)]) hx hb dX8_isOneShip_163 hl (k := 5) rfl (nI_1 _) (by decide) rfl (fun ls hl => ?_)
                refine lv_goto (tgt := 13) hx hb dX8_isOneShip_166 (by decide) ?_
                exact ih13 (zi6 + 1) 1 _ _ (by omega) (by first | exact Or.inl rfl | exact Or.inr rfl) hf hP hS ls (lv_sub hl [0, 6, 7, 8, 1] rfl)
            · have hf := hf.trans (if_pos zc12)
              refine lv_iconst (v := 1) hx hb dX8_isOneShip_46 (by decide) ?_
              refine lv_goto (tgt := 51) hx hb dX8_isOneShip_47 (by decide) ?_
              refine lv_istore (lv' := [(6, .int 1), (5, .int 0), (4, .int (nI zi6)), (3, .int (nI zi1)), (0, .ref (g.1 0 0)), (1, .int p1), (2, .int zx8)]) hx hb dX8_isOneShip_51 hl (by decide) rfl (fun ls hl => ?_)
              refine lv_iload hx hb dX8_isOneShip_53 (lv_at hl 1 rfl) ?_
              refine lv_if_eq (tgt := 83) hx hb dX8_isOneShip_55 (by decide) (fun zc18 => ?_) (fun zc18 => absurd (by decide) zc18)
              refine lv_iconst (v := 0) hx hb dX8_isOneShip_83 (by decide) ?_
              refine lv_istore (lv' := [(7, .int 0), (6, .int 1), (5, .int 0), (4, .int (nI zi6)), (3, .int (nI zi1)), (0, .ref (g.1 0 0)), (1, .int p1), (2, .int zx8)]) hx hb dX8_isOneShip_84 hl (by decide) rfl (fun ls hl => ?_)
              refine lv_iload hx hb dX8_isOneShip_86 (lv_at hl 2 rfl) ?_
              refine lv_if_eq (tgt := 140) hx hb dX8_isOneShip_88 (by decide) (fun zc19 => ?_) (fun zc19 => absurd (by decide) zc19)
              refine lv_iconst (v := 0) hx hb dX8_isOneShip_140 (by decide) ?_
              refine lv_istore (lv' := [(8, .int 0), (7, .int 0), (6, .int 1), (5, .int 0), (4, .int (nI zi6)), (3, .int (nI zi1)), (0, .ref (g.1 0 0)), (1, .int p1), (2, .int zx8)]) hx hb dX8_isOneShip_141 hl (by decide) rfl (fun ls hl => ?_)
              refine lv_iload_n hx hb dX8_isOneShip_143 rfl (lv_at hl 8 rfl) ?_
              refine lv_if_eq (tgt := 161) hx hb dX8_isOneShip_144 (by decide) (fun zc20 => ?_) (fun zc20 => ?_)
              · have hf := hf.trans (if_pos zc20)
                refine lv_iconst (v := 0) hx hb dX8_isOneShip_161 (by decide) ?_
                refine lv_istore_n (lv' := [(2, .int 0), (8, .int 0), (7, .int 0), (6, .int 1), (5, .int 0), (4, .int (nI zi6)), (3, .int (nI zi1)), (0, .ref (g.1 0 0)), (1, .int p1)]) hx hb dX8_isOneShip_162 rfl hl (by decide) rfl (fun ls hl => ?_)
                refine lv_iinc (v := (nI (zi6 + 1))) (lv' := [(4, .int (nI (zi6 + 1))), (2, .int 0), (8, .int 0), (7, .int 0), (6, .int 1), (5, .int 0), (3, .int (nI zi1)), (0, .ref (g.1 0 0)), (1, .int p1)]) hx hb dX8_isOneShip_163 hl (k := 5) rfl (nI_1 _) (by decide) rfl (fun ls hl => ?_)
                refine lv_goto (tgt := 13) hx hb dX8_isOneShip_166 (by decide) ?_
                exact ih13 (zi6 + 1) 0 _ _ (by omega) (by first | exact Or.inl rfl | exact Or.inr rfl) hf hP hS ls (lv_sub hl [0, 6, 7, 8, 1] rfl)
              · have hf := hf.trans (if_neg zc20)
                refine lv_iload hx hb dX8_isOneShip_147 (lv_at hl 1 rfl) ?_
                refine lv_if_ne (tgt := 161) hx hb dX8_isOneShip_149 (by decide) (fun zc21 => absurd (by decide) zc21) (fun zc21 => ?_)
                refine lv_iload hx hb dX8_isOneShip_152 (lv_at hl 0 rfl) ?_
                refine lv_if_ne (tgt := 161) hx hb dX8_isOneShip_154 (by decide) (fun zc22 => absurd (by decide) zc22) (fun zc22 => ?_)
                refine lv_iconst (v := 1) hx hb dX8_isOneShip_157 (by decide) ?_
                refine lv_goto (tgt := 162) hx hb dX8_isOneShip_158 (by decide) ?_
                refine lv_istore_n (lv' := [(2, .int 1), (8, .int 0), (7, .int 0), (6, .int 1), (5, .int 0), (4, .int (nI zi6)), (3, .int (nI zi1)), (0, .ref (g.1 0 0)), (1, .int p1)]) hx hb dX8_isOneShip_162 rfl hl (by decide) rfl (fun ls hl => ?_)
                refine lv_iinc (v := (nI (zi6 + 1))) (lv' := [(4, .int (nI (zi6 + 1))), (2, .int 1), (8, .int 0), (7, .int 0), (6, .int 1), (5, .int 0), (3, .int (nI zi1)), (0, .ref (g.1 0 0)), (1, .int p1)]) hx hb dX8_isOneShip_163 hl (k := 5) rfl (nI_1 _) (by decide) rfl (fun ls hl => ?_)
                refine lv_goto (tgt := 13) hx hb dX8_isOneShip_166 (by decide) ?_
                exact ih13 (zi6 + 1) 1 _ _ (by omega) (by first | exact Or.inl rfl | exact Or.inr rfl) hf hP hS ls (lv_sub hl [0, 6, 7, 8, 1] rfl)
          · have hf := hf.trans (if_pos zc11)
            refine lv_iconst (v := 1) hx hb dX8_isOneShip_29 (by decide) ?_
            refine lv_goto (tgt := 34) hx hb dX8_isOneShip_30 (by decide) ?_
            refine lv_istore (lv' := [(5, .int 1), (4, .int (nI zi6)), (3, .int (nI zi1)), (0, .ref (g.1 0 0)), (1, .int p1), (2, .int zx8)]) hx hb dX8_isOneShip_34 hl (by decide) rfl (fun ls hl => ?_)
            refine lv_iload_n hx hb dX8_isOneShip_36 rfl (lv_at hl 4 rfl) ?_
            refine lv_iload hx hb dX8_isOneShip_37 (lv_at hl 1 rfl) ?_
            refine kishr hx hb dX8_isOneShip_39 ?_
            refine lv_iconst (v := 1) hx hb dX8_isOneShip_40 (by decide) ?_
            refine lv_iand hx hb dX8_isOneShip_41 ?_
            refine lv_iconst (v := 1) hx hb dX8_isOneShip_42 (by decide) ?_
            refine lv_icmp_ne (tgt := 50) hx hb dX8_isOneShip_43 (by decide) (fun zc23 => ?_) (fun zc23 => ?_)
            · have hf := hf.trans (if_neg zc23)
              refine lv_iconst (v := 0) hx hb dX8_isOneShip_50 (by decide) ?_
              refine lv_istore (lv' := [(6, .int 0), (5, .int 1), (4, .int (nI zi6)), (3, .int (nI zi1)), (0, .ref (g.1 0 0)), (1, .int p1), (2, .int zx8)]) hx hb dX8_isOneShip_51 hl (by decide) rfl (fun ls hl => ?_)
              refine lv_iload hx hb dX8_isOneShip_53 (lv_at hl 1 rfl) ?_
              refine lv_if_eq (tgt := 83) hx hb dX8_isOneShip_55 (by decide) (fun zc24 => absurd zc24 (by decide)) (fun zc24 => ?_)
              refine lv_iload hx hb dX8_isOneShip_58 (lv_at hl 0 rfl) ?_
              refine lv_if_ne (tgt := 83) hx hb dX8_isOneShip_60 (by decide) (fun zc25 => absurd (by decide) zc25) (fun zc25 => ?_)
              refine lv_aload_n hx hb dX8_isOneShip_63 rfl (lv_at hl 4 rfl) ?_
              refine gO (T := TX8) C0 inA8 hK hP (mMain g) rfl 32 (by decide) (hts _ q708) (v := .ref (g.1 0 32)) rfl dX8_isOneShip_64 ?_
              refine lv_iload_n hx hb dX8_isOneShip_67 rfl (lv_at hl 3 rfl) ?_
              refine gI C0 hK hP (mGroup g) (vp_in_nI (by omega) (by decide)) dX8_isOneShip_68 ?_
              rw [nI_clamp (n := zi1) (by omega)]
              refine lv_aload_n hx hb dX8_isOneShip_69 rfl (lv_at hl 4 rfl) ?_
              refine gO (T := TX8) C0 inA8 hK hP (mMain g) rfl 32 (by decide) (hts _ q708) (v := .ref (g.1 0 32)) rfl dX8_isOneShip_70 ?_
              refine lv_iload hx hb dX8_isOneShip_73 (lv_at hl 2 rfl) ?_
              refine gI C0 hK hP (mGroup g) (vp_in_nI (by omega) (by decide)) dX8_isOneShip_75 ?_
              rw [nI_clamp (n := zi6) (by omega)]
              refine lv_icmp_ne (tgt := 83) hx hb dX8_isOneShip_76 (by decide) (fun zc26 => ?_) (fun zc26 => ?_)
              · have hf := hf.trans (if_neg zc26)
                refine lv_iconst (v := 0) hx hb dX8_isOneShip_83 (by decide) ?_
                refine lv_istore (lv' := [(7, .int 0), (6, .int 0), (5, .int 1), (4, .int (nI zi6)), (3, .int (nI zi1)), (0, .ref (g.1 0 0)), (1, .int p1), (2, .int zx8)]) hx hb dX8_isOneShip_84 hl (by decide) rfl (fun ls hl => ?_)
                refine lv_iload hx hb dX8_isOneShip_86 (lv_at hl 2 rfl) ?_
                refine lv_if_eq (tgt := 140) hx hb dX8_isOneShip_88 (by decide) (fun zc27 => absurd zc27 (by decide)) (fun zc27 => ?_)
                refine lv_iload hx hb dX8_isOneShip_91 (lv_at hl 1 rfl) ?_
                refine lv_if_eq (tgt := 140) hx hb dX8_isOneShip_93 (by decide) (fun zc28 => ?_) (fun zc28 => absurd (by decide) zc28)
                refine lv_iconst (v := 0) hx hb dX8_isOneShip_140 (by decide) ?_
                refine lv_istore (lv' := [(8, .int 0), (7, .int 0), (6, .int 0), (5, .int 1), (4, .int (nI zi6)), (3, .int (nI zi1)), (0, .ref (g.1 0 0)), (1, .int p1), (2, .int zx8)]) hx hb dX8_isOneShip_141 hl (by decide) rfl (fun ls hl => ?_)
                refine lv_iload_n hx hb dX8_isOneShip_143 rfl (lv_at hl 8 rfl) ?_
                refine lv_if_eq (tgt := 161) hx hb dX8_isOneShip_144 (by decide) (fun zc29 => ?_) (fun zc29 => ?_)
                · have hf := hf.trans (if_pos zc29)
                  refine lv_iconst (v := 0) hx hb dX8_isOneShip_161 (by decide) ?_
                  refine lv_istore_n (lv' := [(2, .int 0), (8, .int 0), (7, .int 0), (6, .int 0), (5, .int 1), (4, .int (nI zi6)), (3, .int (nI zi1)), (0, .ref (g.1 0 0)), (1, .int p1)]) hx hb dX8_isOneShip_162 rfl hl (by decide) rfl (fun ls hl => ?_)
                  refine lv_iinc (v := (nI (zi6 + 1))) (lv' := [(4, .int (nI (zi6 + 1))), (2, .int 0), (8, .int 0), (7, .int 0), (6, .int 0), (5, .int 1), (3, .int (nI zi1)), (0, .ref (g.1 0 0)), (1, .int p1)]) hx hb dX8_isOneShip_163 hl (k := 5) rfl (nI_1 _) (by decide) rfl (fun ls hl => ?_)
                  refine lv_goto (tgt := 13) hx hb dX8_isOneShip_166 (by decide) ?_
                  exact ih13 (zi6 + 1) 0 _ _ (by omega) (by first | exact Or.inl rfl | exact Or.inr rfl) hf hP hS ls (lv_sub hl [0, 6, 7, 8, 1] rfl)
                · have hf := hf.trans (if_neg zc29)
                  refine lv_iload hx hb dX8_isOneShip_147 (lv_at hl 1 rfl) ?_
                  refine lv_if_ne (tgt := 161) hx hb dX8_isOneShip_149 (by decide) (fun zc30 => absurd (by decide) zc30) (fun zc30 => ?_)
                  refine lv_iload hx hb dX8_isOneShip_152 (lv_at hl 0 rfl) ?_
                  refine lv_if_ne (tgt := 161) hx hb dX8_isOneShip_154 (by decide) (fun zc31 => absurd (by decide) zc31) (fun zc31 => ?_)
                  refine lv_iconst (v := 1) hx hb dX8_isOneShip_157 (by decide) ?_
                  refine lv_goto (tgt := 162) hx hb dX8_isOneShip_158 (by decide) ?_
                  refine lv_istore_n (lv' := [(2, .int 1), (8, .int 0), (7, .int 0), (6, .int 0), (5, .int 1), (4, .int (nI zi6)), (3, .int (nI zi1)), (0, .ref (g.1 0 0)), (1, .int p1)]) hx hb dX8_isOneShip_162 rfl hl (by decide) rfl (fun ls hl => ?_)
                  refine lv_iinc (v := (nI (zi6 + 1))) (lv' := [(4, .int (nI (zi6 + 1))), (2, .int 1), (8, .int 0), (7, .int 0), (6, .int 0), (5, .int 1), (3, .int (nI zi1)), (0, .ref (g.1 0 0)), (1, .int p1)]) hx hb dX8_isOneShip_163 hl (k := 5) rfl (nI_1 _) (by decide) rfl (fun ls hl => ?_)
                  refine lv_goto (tgt := 13) hx hb dX8_isOneShip_166 (by decide) ?_
                  exact ih13 (zi6 + 1) 1 _ _ (by omega) (by first | exact Or.inl rfl | exact Or.inr rfl) hf hP hS ls (lv_sub hl [0, 6, 7, 8, 1] rfl)
              · have hf := hf.trans (if_pos zc26)
                refine lv_iconst (v := 1) hx hb dX8_isOneShip_79 (by decide) ?_
                refine lv_goto (tgt := 84) hx hb dX8_isOneShip_80 (by decide) ?_
                refine lv_istore (lv' := [(7, .int 1), (6, .int 0), (5, .int 1), (4, .int (nI zi6)), (3, .int (nI zi1)), (0, .ref (g.1 0 0)), (1, .int p1), (2, .int zx8)]) hx hb dX8_isOneShip_84 hl (by decide) rfl (fun ls hl => ?_)
                refine lv_iload hx hb dX8_isOneShip_86 (lv_at hl 2 rfl) ?_
                refine lv_if_eq (tgt := 140) hx hb dX8_isOneShip_88 (by decide) (fun zc32 => absurd zc32 (by decide)) (fun zc32 => ?_)
                refine lv_iload hx hb dX8_isOneShip_91 (lv_at hl 1 rfl) ?_
                refine lv_if_eq (tgt := 140) hx hb dX8_isOneShip_93 (by decide) (fun zc33 => ?_) (fun zc33 => absurd (by decide) zc33)
                refine lv_iconst (v := 0) hx hb dX8_isOneShip_140 (by decide) ?_
                refine lv_istore (lv' := [(8, .int 0), (7, .int 1), (6, .int 0), (5, .int 1), (4, .int (nI zi6)), (3, .int (nI zi1)), (0, .ref (g.1 0 0)), (1, .int p1), (2, .int zx8)]) hx hb dX8_isOneShip_141 hl (by decide) rfl (fun ls hl => ?_)
                refine lv_iload_n hx hb dX8_isOneShip_143 rfl (lv_at hl 8 rfl) ?_
                refine lv_if_eq (tgt := 161) hx hb dX8_isOneShip_144 (by decide) (fun zc34 => ?_) (fun zc34 => ?_)
                · have hf := hf.trans (if_pos zc34)
                  refine lv_iconst (v := 0) hx hb dX8_isOneShip_161 (by decide) ?_
                  refine lv_istore_n (lv' := [(2, .int 0), (8, .int 0), (7, .int 1), (6, .int 0), (5, .int 1), (4, .int (nI zi6)), (3, .int (nI zi1)), (0, .ref (g.1 0 0)), (1, .int p1)]) hx hb dX8_isOneShip_162 rfl hl (by decide) rfl (fun ls hl => ?_)
                  refine lv_iinc (v := (nI (zi6 + 1))) (lv' := [(4, .int (nI (zi6 + 1))), (2, .int 0), (8, .int 0), (7, .int 1), (6, .int 0), (5, .int 1), (3, .int (nI zi1)), (0, .ref (g.1 0 0)), (1, .int p1)]) hx hb dX8_isOneShip_163 hl (k := 5) rfl (nI_1 _) (by decide) rfl (fun ls hl => ?_)
                  refine lv_goto (tgt := 13) hx hb dX8_isOneShip_166 (by decide) ?_
                  exact ih13 (zi6 + 1) 0 _ _ (by omega) (by first | exact Or.inl rfl | exact Or.inr rfl) hf hP hS ls (lv_sub hl [0, 6, 7, 8, 1] rfl)
                · have hf := hf.trans (if_neg zc34)
                  refine lv_iload hx hb dX8_isOneShip_147 (lv_at hl 1 rfl) ?_
                  refine lv_if_ne (tgt := 161) hx hb dX8_isOneShip_149 (by decide) (fun zc35 => ?_) (fun zc35 => absurd zc35 (by decide))
                  refine lv_iconst (v := 0) hx hb dX8_isOneShip_161 (by decide) ?_
                  refine lv_istore_n (lv' := [(2, .int 0), (8, .int 0), (7, .int 1), (6, .int 0), (5, .int 1), (4, .int (nI zi6)), (3, .int (nI zi1)), (0, .ref (g.1 0 0)), (1, .int p1)]) hx hb dX8_isOneShip_162 rfl hl (by decide) rfl (fun ls hl => ?_)
                  refine lv_iinc (v := (nI (zi6 + 1))) (lv' := [(4, .int (nI (zi6 + 1))), (2, .int 0), (8, .int 0), (7, .int 1), (6, .int 0), (5, .int 1), (3, .int (nI zi1)), (0, .ref (g.1 0 0)), (1, .int p1)]) hx hb dX8_isOneShip_163 hl (k := 5) rfl (nI_1 _) (by decide) rfl (fun ls hl => ?_)
                  refine lv_goto (tgt := 13) hx hb dX8_isOneShip_166 (by decide) ?_
                  exact ih13 (zi6 + 1) 0 _ _ (by omega) (by first | exact Or.inl rfl | exact Or.inr rfl) hf hP hS ls (lv_sub hl [0, 6, 7, 8, 1] rfl)
            · have hf := hf.trans (if_pos zc23)
              refine lv_iconst (v := 1) hx hb dX8_isOneShip_46 (by decide) ?_
              refine lv_goto (tgt := 51) hx hb dX8_isOneShip_47 (by decide) ?_
              refine lv_istore (lv' := [(6, .int 1), (5, .int 1), (4, .int (nI zi6)), (3, .int (nI zi1)), (0, .ref (g.1 0 0)), (1, .int p1), (2, .int zx8)]) hx hb dX8_isOneShip_51 hl (by decide) rfl (fun ls hl => ?_)
              refine lv_iload hx hb dX8_isOneShip_53 (lv_at hl 1 rfl) ?_
              refine lv_if_eq (tgt := 83) hx hb dX8_isOneShip_55 (by decide) (fun zc36 => absurd zc36 (by decide)) (fun zc36 => ?_)
              refine lv_iload hx hb dX8_isOneShip_58 (lv_at hl 0 rfl) ?_
              refine lv_if_ne (tgt := 83) hx hb dX8_isOneShip_60 (by decide) (fun zc37 => ?_) (fun zc37 => absurd zc37 (by decide))
              refine lv_iconst (v := 0) hx hb dX8_isOneShip_83 (by decide) ?_
              refine lv_istore (lv' := [(7, .int 0), (6, .int 1), (5, .int 1), (4, .int (nI zi6)), (3, .int (nI zi1)), (0, .ref (g.1 0 0)), (1, .int p1), (2, .int zx8)]) hx hb dX8_isOneShip_84 hl (by decide) rfl (fun ls hl => ?_)
              refine lv_iload hx hb dX8_isOneShip_86 (lv_at hl 2 rfl) ?_
              refine lv_if_eq (tgt := 140) hx hb dX8_isOneShip_88 (by decide) (fun zc38 => absurd zc38 (by decide)) (fun zc38 => ?_)
              refine lv_iload hx hb dX8_isOneShip_91 (lv_at hl 1 rfl) ?_
              refine lv_if_eq (tgt := 140) hx hb dX8_isOneShip_93 (by decide) (fun zc39 => absurd zc39 (by decide)) (fun zc39 => ?_)
              refine lv_aload_n hx hb dX8_isOneShip_96 rfl (lv_at hl 5 rfl) ?_
              refine gO (T := TX8) C0 inA8 hK hP (mMain g) rfl 32 (by decide) (hts _ q708) (v := .ref (g.1 0 32)) rfl dX8_isOneShip_97 ?_
              refine lv_iload_n hx hb dX8_isOneShip_100 rfl (lv_at hl 4 rfl) ?_
              refine gI C0 hK hP (mGroup g) (vp_in_nI (by omega) (by decide)) dX8_isOneShip_101 ?_
              rw [nI_clamp (n := zi1) (by omega)]
              refine lv_aload_n hx hb dX8_isOneShip_102 rfl (lv_at hl 5 rfl) ?_
              refine gO (T := TX8) C0 inA8 hK hP (mMain g) rfl 32 (by decide) (hts _ q708) (v := .ref (g.1 0 32)) rfl dX8_isOneShip_103 ?_
              refine lv_iload hx hb dX8_isOneShip_106 (lv_at hl 3 rfl) ?_
              refine gI C0 hK hP (mGroup g) (vp_in_nI (by omega) (by decide)) dX8_isOneShip_108 ?_
              rw [nI_clamp (n := zi6) (by omega)]
              refine lv_icmp_eq (tgt := 140) hx hb dX8_isOneShip_109 (by decide) (fun zc40 => ?_) (fun zc40 => ?_)
              · have hf := hf.trans (if_pos zc40)
                refine lv_iconst (v := 0) hx hb dX8_isOneShip_140 (by decide) ?_
                refine lv_istore (lv' := [(8, .int 0), (7, .int 0), (6, .int 1), (5, .int 1), (4, .int (nI zi6)), (3, .int (nI zi1)), (0, .ref (g.1 0 0)), (1, .int p1), (2, .int zx8)]) hx hb dX8_isOneShip_141 hl (by decide) rfl (fun ls hl => ?_)
                refine lv_iload_n hx hb dX8_isOneShip_143 rfl (lv_at hl 8 rfl) ?_
                refine lv_if_eq (tgt := 161) hx hb dX8_isOneShip_144 (by decide) (fun zc41 => ?_) (fun zc41 => ?_)
                · have hf := hf.trans (if_pos zc41)
                  refine lv_iconst (v := 0) hx hb dX8_isOneShip_161 (by decide) ?_
                  refine lv_istore_n (lv' := [(2, .int 0), (8, .int 0), (7, .int 0), (6, .int 1), (5, .int 1), (4, .int (nI zi6)), (3, .int (nI zi1)), (0, .ref (g.1 0 0)), (1, .int p1)]) hx hb dX8_isOneShip_162 rfl hl (by decide) rfl (fun ls hl => ?_)
                  refine lv_iinc (v := (nI (zi6 + 1))) (lv' := [(4, .int (nI (zi6 + 1))), (2, .int 0), (8, .int 0), (7, .int 0), (6, .int 1), (5, .int 1), (3, .int (nI zi1)), (0, .ref (g.1 0 0)), (1, .int p1)]) hx hb dX8_isOneShip_163 hl (k := 5) rfl (nI_1 _) (by decide) rfl (fun ls hl => ?_)
                  refine lv_goto (tgt := 13) hx hb dX8_isOneShip_166 (by decide) ?_
                  exact ih13 (zi6 + 1) 0 _ _ (by omega) (by first | exact Or.inl rfl | exact Or.inr rfl) hf hP hS ls (lv_sub hl [0, 6, 7, 8, 1] rfl)
                · have hf := hf.trans (if_neg zc41)
                  refine lv_iload hx hb dX8_isOneShip_147 (lv_at hl 1 rfl) ?_
                  refine lv_if_ne (tgt := 161) hx hb dX8_isOneShip_149 (by decide) (fun zc42 => absurd (by decide) zc42) (fun zc42 => ?_)
                  refine lv_iload hx hb dX8_isOneShip_152 (lv_at hl 0 rfl) ?_
                  refine lv_if_ne (tgt := 161) hx hb dX8_isOneShip_154 (by decide) (fun zc43 => absurd (by decide) zc43) (fun zc43 => ?_)
                  refine lv_iconst (v := 1) hx hb dX8_isOneShip_157 (by decide) ?_
                  refine lv_goto (tgt := 162) hx hb dX8_isOneShip_158 (by decide) ?_
                  refine lv_istore_n (lv' := [(2, .int 1), (8, .int 0), (7, .int 0), (6, .int 1), (5, .int 1), (4, .int (nI zi6)), (3, .int (nI zi1)), (0, .ref (g.1 0 0)), (1, .int p1)]) hx hb dX8_isOneShip_162 rfl hl (by decide) rfl (fun ls hl => ?_)
                  refine lv_iinc (v := (nI (zi6 + 1))) (lv' := [(4, .int (nI (zi6 + 1))), (2, .int 1), (8, .int 0), (7, .int 0), (6, .int 1), (5, .int 1), (3, .int (nI zi1)), (0, .ref (g.1 0 0)), (1, .int p1)]) hx hb dX8_isOneShip_163 hl (k := 5) rfl (nI_1 _) (by decide) rfl (fun ls hl => ?_)
                  refine lv_goto (tgt := 13) hx hb dX8_isOneShip_166 (by decide) ?_
                  exact ih13 (zi6 + 1) 1 _ _ (by omega) (by first | exact Or.inl rfl | exact Or.inr rfl) hf hP hS ls (lv_sub hl [0, 6, 7, 8, 1] rfl)
              · have hf := hf.trans (if_neg zc40)
                refine lv_aload_n hx hb dX8_isOneShip_112 rfl (lv_at hl 5 rfl) ?_
                refine lv_aload_n hx hb dX8_isOneShip_113 rfl (lv_at hl 5 rfl) ?_
                refine gO (T := TX8) C0 inA8 hK hP (mMain g) rfl 32 (by decide) (hts _ q708) (v := .ref (g.1 0 32)) rfl dX8_isOneShip_114 ?_
                refine lv_iload_n hx hb dX8_isOneShip_117 rfl (lv_at hl 4 rfl) ?_
                refine gI C0 hK hP (mGroup g) (vp_in_nI (by omega) (by decide)) dX8_isOneShip_118 ?_
                rw [nI_clamp (n := zi1) (by omega)]
                refine lv_aload_n hx hb dX8_isOneShip_119 rfl (lv_at hl 5 rfl) ?_
                refine gO (T := TX8) C0 inA8 hK hP (mMain g) rfl 32 (by decide) (hts _ q708) (v := .ref (g.1 0 32)) rfl dX8_isOneShip_120 ?_
                refine lv_iload hx hb dX8_isOneShip_123 (lv_at hl 3 rfl) ?_
                refine gI C0 hK hP (mGroup g) (vp_in_nI (by omega) (by decide)) dX8_isOneShip_125 ?_
                rw [nI_clamp (n := zi6) (by omega)]
                refine lv_aload_n hx hb dX8_isOneShip_126 rfl (lv_at hl 5 rfl) ?_
                refine gO (T := TX8) C0 inA8 hK hP (mMain g) rfl 16 (by decide) (hts _ q692) (v := .int (S.1 0 0 16)) rfl dX8_isOneShip_127 ?_
                refine kiP (va_runV (As := [.int (S.1 0 32 zi1), .int (S.1 0 32 zi6), .int (S.1 0 0 16)]) (rest := []) C0 (kX8_areTwo l g A hA S (S.1 0 32 zi1) (S.1 0 32 zi6) (S.1 0 0 16) (wi_cl (n := 8) ht rfl (by decide)) htk) (cwV 3 hts (gV q1021 q1023 q36 q54 q1024) rfl rfl rfl (by decide +kernel) ⟨Nat.le_of_ble_eq_true rfl, Nat.le_of_ble_eq_true rfl⟩) (preV (recO (mMain g) hP hK rfl) hP hK) rfl rfl hl.1 rfl (lv_room (Nat.le_of_ble_eq_true rfl)) dX8_isOneShip_130 ⟨Nat.zero_le _, Nat.zero_le _⟩) hS (fun _ h => h) (fun H locs hP hS => ?_)
                refine lv_if_eq (tgt := 140) hx hb dX8_isOneShip_133 (by decide) (fun zc44 => ?_) (fun zc44 => ?_)
                · have hf := hf.trans (if_pos zc44)
                  refine lv_iconst (v := 0) hx hb dX8_isOneShip_140 (by decide) ?_
                  refine lv_istore (lv' := [(8, .int 0), (7, .int 0), (6, .int 1), (5, .int 1), (4, .int (nI zi6)), (3, .int (nI zi1)), (0, .ref (g.1 0 0)), (1, .int p1), (2, .int zx8)]) hx hb dX8_isOneShip_141 hl (by decide) rfl (fun ls hl => ?_)
                  refine lv_iload_n hx hb dX8_isOneShip_143 rfl (lv_at hl 8 rfl) ?_
                  refine lv_if_eq (tgt := 161) hx hb dX8_isOneShip_144 (by decide) (fun zc45 => ?_) (fun zc45 => ?_)
                  · have hf := hf.trans (if_pos zc45)
                    refine lv_iconst (v := 0) hx hb dX8_isOneShip_161 (by decide) ?_
                    refine lv_istore_n (lv' := [(2, .int 0), (8, .int 0), (7, .int 0), (6, .int 1), (5, .int 1), (4, .int (nI zi6)), (3, .int (nI zi1)), (0, .ref (g.1 0 0)), (1, .int p1)]) hx hb dX8_isOneShip_162 rfl hl (by decide) rfl (fun ls hl => ?_)
                    refine lv_iinc (v := (nI (zi6 + 1))) (lv' := [(4, .int (nI (zi6 + 1))), (2, .int 0), (8, .int 0), (7, .int 0), (6, .int 1), (5, .int 1), (3, .int (nI zi1)), (0, .ref (g.1 0 0)), (1, .int p1)]) hx hb dX8_isOneShip_163 hl (k := 5) rfl (nI_1 _) (by decide) rfl (fun ls hl => ?_)
                    refine lv_goto (tgt := 13) hx hb dX8_isOneShip_166 (by decide) ?_
                    exact ih13 (zi6 + 1) 0 _ _ (by omega) (by first | exact Or.inl rfl | exact Or.inr rfl) hf hP hS ls (lv_sub hl [0, 6, 7, 8, 1] rfl)
                  · have hf := hf.trans (if_neg zc45)
                    refine lv_iload hx hb dX8_isOneShip_147 (lv_at hl 1 rfl) ?_
                    refine lv_if_ne (tgt := 161) hx hb dX8_isOneShip_149 (by decide) (fun zc46 => absurd (by decide) zc46) (fun zc46 => ?_)
                    refine lv_iload hx hb dX8_isOneShip_152 (lv_at hl 0 rfl) ?_
                    refine lv_if_ne (tgt := 161) hx hb dX8_isOneShip_154 (by decide) (fun zc47 => absurd (by decide) zc47) (fun zc47 => ?_)
                    refine lv_iconst (v := 1) hx hb dX8_isOneShip_157 (by decide) ?_
                    refine lv_goto (tgt := 162) hx hb dX8_isOneShip_158 (by decide) ?_
                    refine lv_istore_n (lv' := [(2, .int 1), (8, .int 0), (7, .int 0), (6, .int 1), (5, .int 1), (4, .int (nI zi6)), (3, .int (nI zi1)), (0, .ref (g.1 0 0)), (1, .int p1)]) hx hb dX8_isOneShip_162 rfl hl (by decide) rfl (fun ls hl => ?_)
                    refine lv_iinc (v := (nI (zi6 + 1))) (lv' := [(4, .int (nI (zi6 + 1))), (2, .int 1), (8, .int 0), (7, .int 0), (6, .int 1), (5, .int 1), (3, .int (nI zi1)), (0, .ref (g.1 0 0)), (1, .int p1)]) hx hb dX8_isOneShip_163 hl (k := 5) rfl (nI_1 _) (by decide) rfl (fun ls hl => ?_)
                    refine lv_goto (tgt := 13) hx hb dX8_isOneShip_166 (by decide) ?_
                    exact ih13 (zi6 + 1) 1 _ _ (by omega) (by first | exact Or.inl rfl | exact Or.inr rfl) hf hP hS ls (lv_sub hl [0, 6, 7, 8, 1] rfl)
                · have hf := hf.trans (if_neg zc44)
                  refine lv_iconst (v := 1) hx hb dX8_isOneShip_136 (by decide) ?_
                  refine lv_goto (tgt := 141) hx hb dX8_isOneShip_137 (by decide) ?_
                  refine lv_istore (lv' := [(8, .int 1), (7, .int 0), (6, .int 1), (5, .int 1), (4, .int (nI zi6)), (3, .int (nI zi1)), (0, .ref (g.1 0 0)), (1, .int p1), (2, .int zx8)]) hx hb dX8_isOneShip_141 hl (by decide) rfl (fun ls hl => ?_)
                  refine lv_iload_n hx hb dX8_isOneShip_143 rfl (lv_at hl 8 rfl) ?_
                  refine lv_if_eq (tgt := 161) hx hb dX8_isOneShip_144 (by decide) (fun zc48 => ?_) (fun zc48 => ?_)
                  · have hf := hf.trans (if_pos zc48)
                    refine lv_iconst (v := 0) hx hb dX8_isOneShip_161 (by decide) ?_
                    refine lv_istore_n (lv' := [(2, .int 0), (8, .int 1), (7, .int 0), (6, .int 1), (5, .int 1), (4, .int (nI zi6)), (3, .int (nI zi1)), (0, .ref (g.1 0 0)), (1, .int p1)]) hx hb dX8_isOneShip_162 rfl hl (by decide) rfl (fun ls hl => ?_)
                    refine lv_iinc (v := (nI (zi6 + 1))) (lv' := [(4, .int (nI (zi6 + 1))), (2, .int 0), (8, .int 1), (7, .int 0), (6, .int 1), (5, .int 1), (3, .int (nI zi1)), (0, .ref (g.1 0 0)), (1, .int p1)]) hx hb dX8_isOneShip_163 hl (k := 5) rfl (nI_1 _) (by decide) rfl (fun ls hl => ?_)
                    refine lv_goto (tgt := 13) hx hb dX8_isOneShip_166 (by decide) ?_
                    exact ih13 (zi6 + 1) 0 _ _ (by omega) (by first | exact Or.inl rfl | exact Or.inr rfl) hf hP hS ls (lv_sub hl [0, 6, 7, 8, 1] rfl)
                  · have hf := hf.trans (if_neg zc48)
                    refine lv_iload hx hb dX8_isOneShip_147 (lv_at hl 1 rfl) ?_
                    refine lv_if_ne (tgt := 161) hx hb dX8_isOneShip_149 (by decide) (fun zc49 => absurd (by decide) zc49) (fun zc49 => ?_)
                    refine lv_iload hx hb dX8_isOneShip_152 (lv_at hl 0 rfl) ?_
                    refine lv_if_ne (tgt := 161) hx hb dX8_isOneShip_154 (by decide) (fun zc50 => ?_) (fun zc50 => absurd zc50 (by decide))
                    refine lv_iconst (v := 0) hx hb dX8_isOneShip_161 (by decide) ?_
                    refine lv_istore_n (lv' := [(2, .int 0), (8, .int 1), (7, .int 0), (6, .int 1), (5, .int 1), (4, .int (nI zi6)), (3, .int (nI zi1)), (0, .ref (g.1 0 0)), (1, .int p1)]) hx hb dX8_isOneShip_162 rfl hl (by decide) rfl (fun ls hl => ?_)
                    refine lv_iinc (v := (nI (zi6 + 1))) (lv' := [(4, .int (nI (zi6 + 1))), (2, .int 0), (8, .int 1), (7, .int 0), (6, .int 1), (5, .int 1), (3, .int (nI zi1)), (0, .ref (g.1 0 0)), (1, .int p1)]) hx hb dX8_isOneShip_163 hl (k := 5) rfl (nI_1 _) (by decide) rfl (fun ls hl => ?_)
                    refine lv_goto (tgt := 13) hx hb dX8_isOneShip_166 (by decide) ?_
                    exact ih13 (zi6 + 1) 0 _ _ (by omega) (by first | exact Or.inl rfl | exact Or.inr rfl) hf hP hS ls (lv_sub hl [0, 6, 7, 8, 1] rfl)
      exact lp13 8 0 zx3 _ _ (by decide) hz hf hP hS ls (lv_sub hl [0, 1, 2, 3, 4] rfl)
  exact lp4 8 0 1 _ _ (by decide) (Or.inr rfl) hf hP hS ls (lv_sub hl [0, 2, 3, 1] rfl)
theorem and_in {s : Nat} {y : Int32} (hs : s < 256) : vp_in ((nI s) &&& y) 256 := by
  have h : ((nI s) &&& y).toBitVec.toNat ≤ s := by
    rw [Int32.toBitVec_and, BitVec.toNat_and]
    have h2 : (nI s).toBitVec.toNat = s := pk_tn (by omega)
    rw [h2]
    exact Nat.and_le_left
  have e : ((nI s) &&& y) = nI ((nI s) &&& y).toBitVec.toNat := by
    apply Int32.toBitVec_inj.mp
    apply BitVec.eq_of_toNat_eq
    rw [pk_tn (by omega)]
  rw [e]
  exact vp_in_nI (by omega) (by decide)
def LX8_addShip_4 (S : St) (p1 : Int32) : Nat → St → St
  | 0, zS3 => zS3
  | zk2 + 1, zS3 => (if ((nI (zk2 + 1)) &&& p1) = p1 then (if (zS3.1 0 34 (zk2 + 1)) ≤ ((zS3.1 0 34 (Int32.toNatClampNeg ((nI (zk2 + 1)) &&& (p1 ^^^ (-1))))) + 1) then (LX8_addShip_4 S p1 zk2 (up zS3 0 34 (zk2 + 1) (zS3.1 0 34 (zk2 + 1)))) else (bnd (up zS3 0 34 (zk2 + 1) ((zS3.1 0 34 (Int32.toNatClampNeg ((nI (zk2 + 1)) &&& (p1 ^^^ (-1))))) + 1)) (fun zS8 => (LX8_addShip_4 S p1 zk2 zS8)))) else (LX8_addShip_4 S p1 zk2 zS3))
def tX8_addShip (S : St) (p1 : Int32) : St :=
  (LX8_addShip_4 S p1 255 S)
set_option maxHeartbeats 4000000 in
set_option maxRecDepth 100000 in
theorem kX8_addShip (l : Launch) (g : Gd) (A : Nat → Prop) (hA : Ads g.1 VM A) (S : St) (p1 : Int32) : Met l yX8_addShip (wU yX8_addShip cX8_addShip 4 none) { frames := 0, cells := 0, slots := 0, locals := 0 } (va_Pc [.ref (g.1 0 0), .int p1] (PW VM ctM g S)) (va_Qv (fun u => u = tX8_addShip S p1) (fun u U => PW VM ctM g u U) A) 0 0 A := by
  refine ent (cc := cX8_addShip) (maxL := 4) (ret := none) (by decide) (Nat.le_of_ble_eq_true rfl) ?_
  intro p e s m below meth c args Q C0 hr hlocks hP hK hQ ls hl
  have hx := C0.1
  have hb := C0.2.1
  have hml := C0.2.2.1
  have hown := C0.2.2.2.1
  have hts := C0.2.2.2.2
  obtain ⟨F, hF⟩ : ∃ F : St, F = tX8_addShip S p1 := ⟨_, rfl⟩
  have hf := hF
  unfold tX8_addShip at hf
  have hS : va_S A s.heap s.heap [] := va_S.rf
  have hl : lv_has ls 4 [(0, .ref (g.1 0 0)), (1, .int p1)] := hl
  refine lv_sipush (v := 255) hx hb dX8_addShip_0 (by decide) ?_
  refine lv_istore_n (lv' := [(2, .int 255), (0, .ref (g.1 0 0)), (1, .int p1)]) hx hb dX8_addShip_3 rfl hl (by decide) rfl (fun ls hl => ?_)
  have lp4 : ∀ (zk2 : Nat) (zS3 : St) (H : Heap) (locs : List Loc), (zk2 ≤ 255) → (F = LX8_addShip_4 S p1 zk2 zS3) → HW VM ctM g zS3 H → va_S A s.heap H locs → ∀ ls : Array Slot, lv_has ls 4 [(2, .int (nI zk2)), (0, .ref (g.1 0 0)), (1, .int p1)] → W p l e { frames := 0, cells := 0, slots := 0, locals := 0 } s m args below meth c H locs 0 0 Q (F0 m 4 ls []) := by
    intro zk2
    induction zk2 with
    | zero =>
      intro zS3 H locs hik hf hP hS ls hl
      rw [LX8_addShip_4] at hf
      refine lv_iload_n hx hb dX8_addShip_4 rfl (lv_at hl 0 rfl) ?_
      refine lv_if_le (tgt := 60) hx hb dX8_addShip_5 (by decide) (fun zc4 => ?_) (fun zc4 => absurd (by decide) zc4)
      exact rv hQ C0 hr hlocks hK hP hS (by rw [← hF]; exact hf.symm) dX8_addShip_60
    | succ zk2 ih4 =>
      intro zS3 H locs hik hf hP hS ls hl
      rw [LX8_addShip_4] at hf
      refine lv_iload_n hx hb dX8_addShip_4 rfl (lv_at hl 0 rfl) ?_
      refine lv_if_le (tgt := 60) hx hb dX8_addShip_5 (by decide) (fun zc5 => absurd zc5 (dn1 (by omega))) (fun zc5 => ?_)
      refine lv_iload_n hx hb dX8_addShip_8 rfl (lv_at hl 0 rfl) ?_
      refine lv_iload_n hx hb dX8_addShip_9 rfl (lv_at hl 2 rfl) ?_
      refine lv_iand hx hb dX8_addShip_10 ?_
      refine lv_iload_n hx hb dX8_addShip_11 rfl (lv_at hl 2 rfl) ?_
      refine lv_icmp_ne (tgt := 54) hx hb dX8_addShip_12 (by decide) (fun zc6 => ?_) (fun zc6 => ?_)
      · have hf := hf.trans (if_neg zc6)
        refine lv_iinc (v := ((nI (zk2 + 1)) + (-1))) (lv' := [(2, .int ((nI (zk2 + 1)) + (-1))), (0, .ref (g.1 0 0)), (1, .int p1)]) hx hb dX8_addShip_54 hl (k := 0) rfl rfl (by decide) rfl (fun ls hl => ?_)
        refine lv_goto (tgt := 4) hx hb dX8_addShip_57 (by decide) ?_
        exact ih4 zS3 _ _ (by omega) hf hP hS ls (lv_sub (lv_eqI hl (m1_nI _)) [0, 1, 2] rfl)
      · have hf := hf.trans (if_pos zc6)
        refine lv_aload_n hx hb dX8_addShip_15 rfl (lv_at hl 1 rfl) ?_
        refine gO (T := TX8) C0 inA8 hK hP (mMain g) rfl 34 (by decide) (hts _ q710) (v := .ref (g.1 0 34)) rfl dX8_addShip_16 ?_
        refine lv_iload_n hx hb dX8_addShip_19 rfl (lv_at hl 0 rfl) ?_
        refine lv_iload_n hx hb dX8_addShip_20 rfl (lv_at hl 2 rfl) ?_
        refine lv_iconst (v := (-1)) hx hb dX8_addShip_21 (by decide) ?_
        refine lv_ixor hx hb dX8_addShip_22 ?_
        refine lv_iand hx hb dX8_addShip_23 ?_
        refine gI C0 hK hP (mFewest g) (and_in (by omega)) dX8_addShip_24 ?_
        refine lv_iconst (v := 1) hx hb dX8_addShip_25 (by decide) ?_
        refine lv_iadd hx hb dX8_addShip_26 ?_
        refine lv_istore_n (lv' := [(3, .int ((zS3.1 0 34 (Int32.toNatClampNeg ((nI (zk2 + 1)) &&& (p1 ^^^ (-1))))) + 1)), (2, .int (nI (zk2 + 1))), (0, .ref (g.1 0 0)), (1, .int p1)]) hx hb dX8_addShip_27 rfl hl (by decide) rfl (fun ls hl => ?_)
        refine lv_aload_n hx hb dX8_addShip_28 rfl (lv_at hl 2 rfl) ?_
        refine gO (T := TX8) C0 inA8 hK hP (mMain g) rfl 34 (by decide) (hts _ q710) (v := .ref (g.1 0 34)) rfl dX8_addShip_29 ?_
        refine lv_iload_n hx hb dX8_addShip_32 rfl (lv_at hl 1 rfl) ?_
        refine lv_iload_n hx hb dX8_addShip_33 rfl (lv_at hl 0 rfl) ?_
        refine lv_aload_n hx hb dX8_addShip_34 rfl (lv_at hl 2 rfl) ?_
        refine gO (T := TX8) C0 inA8 hK hP (mMain g) rfl 34 (by decide) (hts _ q710) (v := .ref (g.1 0 34)) rfl dX8_addShip_35 ?_
        refine lv_iload_n hx hb dX8_addShip_38 rfl (lv_at hl 1 rfl) ?_
        refine gI C0 hK hP (mFewest g) (vp_in_nI (by omega) (by decide)) dX8_addShip_39 ?_
        rw [nI_clamp (n := (zk2 + 1)) (by omega)]
        refine lv_icmp_ge (tgt := 47) hx hb dX8_addShip_40 (by decide) (fun zc7 => ?_) (fun zc7 => ?_)
        · have hf := hf.trans (if_pos zc7)
          refine lv_aload_n hx hb dX8_addShip_47 rfl (lv_at hl 2 rfl) ?_
          refine gO (T := TX8) C0 inA8 hK hP (mMain g) rfl 34 (by decide) (hts _ q710) (v := .ref (g.1 0 34)) rfl dX8_addShip_48 ?_
          refine lv_iload_n hx hb dX8_addShip_51 rfl (lv_at hl 1 rfl) ?_
          refine gI C0 hK hP (mFewest g) (vp_in_nI (by omega) (by decide)) dX8_addShip_52 ?_
          rw [nI_clamp (n := (zk2 + 1)) (by omega)]
          refine pI locM C0 hK hP hA hS (mFewest g) (vp_in_nI (by omega) (by decide)) dX8_addShip_53 (fun H locs hP hS => ?_)
          rw [nI_clamp (n := (zk2 + 1)) (by omega)] at hP
          refine lv_iinc (v := ((nI (zk2 + 1)) + (-1))) (lv' := [(2, .int ((nI (zk2 + 1)) + (-1))), (3, .int ((zS3.1 0 34 (Int32.toNatClampNeg ((nI (zk2 + 1)) &&& (p1 ^^^ (-1))))) + 1)), (0, .ref (g.1 0 0)), (1, .int p1)]) hx hb dX8_addShip_54 hl (k := 1) rfl rfl (by decide) rfl (fun ls hl => ?_)
          refine lv_goto (tgt := 4) hx hb dX8_addShip_57 (by decide) ?_
          exact ih4 (up zS3 0 34 (zk2 + 1) (zS3.1 0 34 (zk2 + 1))) _ _ (by omega) hf hP hS ls (lv_sub (lv_eqI hl (m1_nI _)) [0, 2, 3] rfl)
        · have hf := hf.trans (if_neg zc7)
          refine lv_iload_n hx hb dX8_addShip_43 rfl (lv_at hl 0 rfl) ?_
          refine lv_goto (tgt := 53) hx hb dX8_addShip_44 (by decide) ?_
          refine pI locM C0 hK hP hA hS (mFewest g) (vp_in_nI (by omega) (by decide)) dX8_addShip_53 (fun H locs hP hS => ?_)
          rw [nI_clamp (n := (zk2 + 1)) (by omega)] at hP
          obtain ⟨zS8, hzS8⟩ : ∃ z : St, z = (up zS3 0 34 (zk2 + 1) ((zS3.1 0 34 (Int32.toNatClampNeg ((nI (zk2 + 1)) &&& (p1 ^^^ (-1))))) + 1)) := ⟨_, rfl⟩
          rw [← hzS8] at hP
          have hf := hf.trans (bnd_eq hzS8)
          refine lv_iinc (v := ((nI (zk2 + 1)) + (-1))) (lv' := [(2, .int ((nI (zk2 + 1)) + (-1))), (3, .int ((zS3.1 0 34 (Int32.toNatClampNeg ((nI (zk2 + 1)) &&& (p1 ^^^ (-1))))) + 1)), (0, .ref (g.1 0 0)), (1, .int p1)]) hx hb dX8_addShip_54 hl (k := 1) rfl rfl (by decide) rfl (fun ls hl => ?_)
          refine lv_goto (tgt := 4) hx hb dX8_addShip_57 (by decide) ?_
          exact ih4 zS8 _ _ (by omega) hf hP hS ls (lv_sub (lv_eqI hl (m1_nI _)) [0, 2, 3] rfl)
  exact lp4 255 S _ _ (by decide) hf hP hS ls (lv_sub (lv_eqI hl (by decide)) [0, 1, 2] rfl)
theorem hear28_row {b : Nat} (h0 : b ≠ 0) (h1 : b ≠ 32) (S0 : St) : ∀ (k i : Nat) (S : St), (LX8_hearTales_28 S0 k i S).1 0 b = S.1 0 b := by
  intro k
  induction k with
  | zero => intro i S; rfl
  | succ k ih =>
    intro i S
    rw [LX8_hearTales_28]
    simp only [bnd_def]
    repeat' split
    all_goals rw [ih]
    all_goals first
      | (rw [up_row_ne _ _ h0]; done)
      | (rw [joinM_row _ h1, up_row_ne _ _ h0]; done)
theorem hear7_row {b : Nat} (h0 : b ≠ 0) (h1 : b ≠ 32) (S0 : St) : ∀ (k i : Nat) (S : St), (LX8_hearTales_7 S0 k i S).1 0 b = S.1 0 b := by
  intro k
  induction k with
  | zero => intro i S; rw [LX8_hearTales_7]; exact hear28_row h0 h1 _ _ _ _
  | succ k ih => intro i S; rw [LX8_hearTales_7, ih, up_row_ne _ _ h1]
theorem hear_row {b : Nat} (h0 : b ≠ 0) (h1 : b ≠ 32) {S : St} : (tX8_hearTales S).1 0 b = S.1 0 b := by
  unfold tX8_hearTales
  rw [hear7_row h0 h1, up_row_ne _ _ h0]
theorem add4_row {b : Nat} (h : b ≠ 34) (S0 : St) (p1 : Int32) : ∀ (k : Nat) (S : St), (LX8_addShip_4 S0 p1 k S).1 0 b = S.1 0 b := by
  intro k
  induction k with
  | zero => intro S; rfl
  | succ k ih =>
    intro S
    rw [LX8_addShip_4]
    simp only [bnd_def]
    repeat' split
    all_goals rw [ih]
    all_goals first | rfl | rw [up_row_ne _ _ h]
theorem add_row {b : Nat} (h : b ≠ 34) {S : St} {p1 : Int32} : (tX8_addShip S p1).1 0 b = S.1 0 b := add4_row h S p1 _ _
def LX8_ones_36 (S : St) : Nat → Nat → St → Int32 × St
  | 0, zi6, zS8 => ((zS8.1 0 34 255), zS8)
  | zk7 + 1, zi6, zS8 => (if (tX8_isOneShip zS8 (nI zi6)) = 0 then (LX8_ones_36 S zk7 (zi6 + 1) zS8) else (bnd (tX8_addShip zS8 (nI zi6)) (fun zS12 => (LX8_ones_36 S zk7 (zi6 + 1) zS12))))
def LX8_ones_13 (S : St) : Nat → Nat → St → Int32 × St
  | 0, zi2, zS4 => (LX8_ones_36 S 255 1 zS4)
  | zk3 + 1, zi2, zS4 => (LX8_ones_13 S zk3 (zi2 + 1) (up zS4 0 34 zi2 99))
def tX8_ones (S : St) : Int32 × St :=
  (bnd (tX8_hearTales S) (fun zS1 => (LX8_ones_13 S 255 1 (up zS1 0 34 0 0))))
set_option maxHeartbeats 4000000 in
set_option maxRecDepth 100000 in
theorem kX8_ones (l : Launch) (g : Gd) (A : Nat → Prop) (hA : Ads g.1 VM A) (S : St)  (ht : wi (S.1 0 0 16) 0 8) (htk : ∀ j, j < (S.1 0 0 16).toNatClampNeg → vp_in (S.1 0 13 j) 8 ∧ vp_in (S.1 0 14 j) 8) : Met l yX8_ones (wU yX8_ones cX8_ones 2 (some .int)) { frames := 2, cells := 0, slots := 0, locals := 56 } (va_Pc [.ref (g.1 0 0)] (PW VM ctM g S)) (va_Qi (fun r u => r = (tX8_ones S).1 ∧ u = (tX8_ones S).2) (fun u U => PW VM ctM g u U) A) 0 0 A := by
  refine ent (cc := cX8_ones) (maxL := 2) (ret := (some .int)) (by decide) (Nat.le_of_ble_eq_true rfl) ?_
  intro p e s m below meth c args Q C0 hr hlocks hP hK hQ ls hl
  have hx := C0.1
  have hb := C0.2.1
  have hml := C0.2.2.1
  have hown := C0.2.2.2.1
  have hts := C0.2.2.2.2
  obtain ⟨F, hF⟩ : ∃ F : Int32 × St, F = tX8_ones S := ⟨_, rfl⟩
  have hf := hF
  unfold tX8_ones at hf
  have hS : va_S A s.heap s.heap [] := va_S.rf
  have hl : lv_has ls 2 [(0, .ref (g.1 0 0))] := hl
  refine lv_aload_n hx hb dX8_ones_0 rfl (lv_at hl 0 rfl) ?_
  refine kv (va_runV (As := []) (rest := []) C0 (kX8_hearTales l g A hA S  ht htk) (cwV 0 hts (gV q1017 q1019 q35 q54 q1020) rfl rfl rfl (by decide +kernel) ⟨Nat.le_of_ble_eq_true rfl, Nat.le_of_ble_eq_true rfl⟩) (preV (recO (mMain g) hP hK rfl) hP hK) rfl rfl hl.1 rfl (lv_room (Nat.le_of_ble_eq_true rfl)) dX8_ones_1 ⟨Nat.zero_le _, Nat.zero_le _⟩) hS (fun _ h => h) (fun zS1 H locs hw hP hS => ?_)
  have hf := hf.trans (bnd_eq hw)
  refine lv_aload_n hx hb dX8_ones_4 rfl (lv_at hl 0 rfl) ?_
  refine gO (T := TX8) C0 inA8 hK hP (mMain g) rfl 34 (by decide) (hts _ q710) (v := .ref (g.1 0 34)) rfl dX8_ones_5 ?_
  refine lv_iconst (v := 0) hx hb dX8_ones_8 (by decide) ?_
  refine lv_iconst (v := 0) hx hb dX8_ones_9 (by decide) ?_
  refine pI locM C0 hK hP hA hS (mFewest g) (show vp_in 0 256 from vp_in_nI (n := 0) (by decide) (by decide)) dX8_ones_10 (fun H locs hP hS => ?_)
  have hP : HW VM ctM g (up zS1 0 34 0 0) H := hP
  refine lv_iconst (v := 1) hx hb dX8_ones_11 (by decide) ?_
  refine lv_istore_n (lv' := [(1, .int 1), (0, .ref (g.1 0 0))]) hx hb dX8_ones_12 rfl hl (by decide) rfl (fun ls hl => ?_)
  have lp13 : ∀ (zk3 zi2 : Nat) (zS4 : St) (H : Heap) (locs : List Loc), (zi2 + zk3 = 256) → (zS4.1 0 0 16 = S.1 0 0 16) → (zS4.1 0 13 = S.1 0 13) → (zS4.1 0 14 = S.1 0 14) → (F = LX8_ones_13 S zk3 zi2 zS4) → HW VM ctM g zS4 H → va_S A s.heap H locs → ∀ ls : Array Slot, lv_has ls 2 [(1, .int (nI zi2)), (0, .ref (g.1 0 0))] → W p l e { frames := 2, cells := 0, slots := 0, locals := 56 } s m args below meth c H locs 0 0 Q (F0 m 13 ls []) := by
    intro zk3
    induction zk3 with
    | zero =>
      intro zi2 zS4 H locs hik hi1 hr1 hr2 hf hP hS ls hl
      rw [LX8_ones_13] at hf
      refine lv_iload_n hx hb dX8_ones_13 rfl (lv_at hl 0 rfl) ?_
      refine lv_sipush (v := 256) hx hb dX8_ones_14 (by decide) ?_
      refine lv_icmp_ge (tgt := 34) hx hb dX8_ones_17 (by decide) (fun zc5 => ?_) (fun zc5 => absurd (up_ge0 rfl hik (by decide)) zc5)
      refine lv_iconst (v := 1) hx hb dX8_ones_34 (by decide) ?_
      refine lv_istore_n (lv' := [(1, .int 1), (0, .ref (g.1 0 0))]) hx hb dX8_ones_35 rfl hl (by decide) rfl (fun ls hl => ?_)
      have lp36 : ∀ (zk7 zi6 : Nat) (zS8 : St) (H : Heap) (locs : List Loc), (zi6 + zk7 = 256) → (zS8.1 0 0 16 = S.1 0 0 16) → (zS8.1 0 13 = S.1 0 13) → (zS8.1 0 14 = S.1 0 14) → (F = LX8_ones_36 S zk7 zi6 zS8) → HW VM ctM g zS8 H → va_S A s.heap H locs → ∀ ls : Array Slot, lv_has ls 2 [(1, .int (nI zi6)), (0, .ref (g.1 0 0))] → W p l e { frames := 2, cells := 0, slots := 0, locals := 56 } s m args below meth c H locs 0 0 Q (F0 m 36 ls []) := by
        intro zk7
        induction zk7 with
        | zero =>
          intro zi6 zS8 H locs hik hi1 hr1 hr2 hf hP hS ls hl
          rw [LX8_ones_36] at hf
          refine lv_iload_n hx hb dX8_ones_36 rfl (lv_at hl 0 rfl) ?_
          refine lv_sipush (v := 256) hx hb dX8_ones_37 (by decide) ?_
          refine lv_icmp_ge (tgt := 62) hx hb dX8_ones_40 (by decide) (fun zc9 => ?_) (fun zc9 => absurd (up_ge0 rfl hik (by decide)) zc9)
          refine lv_aload_n hx hb dX8_ones_62 rfl (lv_at hl 1 rfl) ?_
          refine gO (T := TX8) C0 inA8 hK hP (mMain g) rfl 34 (by decide) (hts _ q710) (v := .ref (g.1 0 34)) rfl dX8_ones_63 ?_
          refine lv_sipush (v := 255) hx hb dX8_ones_66 (by decide) ?_
          refine gI C0 hK hP (mFewest g) (show vp_in 255 256 from vp_in_nI (n := 255) (by decide) (by decide)) dX8_ones_69 ?_
          refine W.eq (g2 := F0 m 70 ls (.int (zS8.1 0 34 255) :: [])) rfl ?_
          exact ri hQ C0 hr hlocks hK hP hS (by rw [← hF]; exact fin2 hf) dX8_ones_70
        | succ zk7 ih36 =>
          intro zi6 zS8 H locs hik hi1 hr1 hr2 hf hP hS ls hl
          rw [LX8_ones_36] at hf
          refine lv_iload_n hx hb dX8_ones_36 rfl (lv_at hl 0 rfl) ?_
          refine lv_sipush (v := 256) hx hb dX8_ones_37 (by decide) ?_
          refine lv_icmp_ge (tgt := 62) hx hb dX8_ones_40 (by decide) (fun zc10 => absurd zc10 (up_ge1 rfl hik (by decide))) (fun zc10 => ?_)
          refine lv_aload_n hx hb dX8_ones_43 rfl (lv_at hl 1 rfl) ?_
          refine lv_iload_n hx hb dX8_ones_44 rfl (lv_at hl 0 rfl) ?_
          refine kiP (va_runV (As := [.int (nI zi6)]) (rest := []) C0 (kX8_isOneShip l g A hA zS8 (nI zi6) (by rw [hi1]; exact ht) (by rw [hi1, hr1, hr2]; exact htk)) (cwV 1 hts (gV q1033 q1035 q38 q54 q1036) rfl rfl rfl (by decide +kernel) ⟨Nat.le_of_ble_eq_true rfl, Nat.le_of_ble_eq_true rfl⟩) (preV (recO (mMain g) hP hK rfl) hP hK) rfl rfl hl.1 rfl (lv_room (Nat.le_of_ble_eq_true rfl)) dX8_ones_45 ⟨Nat.zero_le _, Nat.zero_le _⟩) hS (fun _ h => h) (fun H locs hP hS => ?_)
          refine lv_if_eq (tgt := 56) hx hb dX8_ones_48 (by decide) (fun zc11 => ?_) (fun zc11 => ?_)
          · have hf := hf.trans (if_pos zc11)
            refine lv_iinc (v := (nI (zi6 + 1))) (lv' := [(1, .int (nI (zi6 + 1))), (0, .ref (g.1 0 0))]) hx hb dX8_ones_56 hl (k := 0) rfl (nI_1 _) (by decide) rfl (fun ls hl => ?_)
            refine lv_goto (tgt := 36) hx hb dX8_ones_59 (by decide) ?_
            exact ih36 (zi6 + 1) zS8 _ _ (by omega) (by first | exact hi1 | (rw [hw, add_row (by decide)]; exact hi1)) (by first | exact hr1 | (rw [hw, add_row (by decide)]; exact hr1)) (by first | exact hr2 | (rw [hw, add_row (by decide)]; exact hr2)) hf hP hS ls (lv_sub hl [0, 1] rfl)
          · have hf := hf.trans (if_neg zc11)
            refine lv_aload_n hx hb dX8_ones_51 rfl (lv_at hl 1 rfl) ?_
            refine lv_iload_n hx hb dX8_ones_52 rfl (lv_at hl 0 rfl) ?_
            refine kv (va_runV (As := [.int (nI zi6)]) (rest := []) C0 (kX8_addShip l g A hA zS8 (nI zi6)) (cwV 1 hts (gV q1037 q1039 q39 q54 q1040) rfl rfl rfl (by decide +kernel) ⟨Nat.le_of_ble_eq_true rfl, Nat.le_of_ble_eq_true rfl⟩) (preV (recO (mMain g) hP hK rfl) hP hK) rfl rfl hl.1 rfl (lv_room (Nat.le_of_ble_eq_true rfl)) dX8_ones_53 ⟨Nat.zero_le _, Nat.zero_le _⟩) hS (fun _ h => h) (fun zS12 H locs hw hP hS => ?_)
            have hf := hf.trans (bnd_eq hw)
            refine lv_iinc (v := (nI (zi6 + 1))) (lv' := [(1, .int (nI (zi6 + 1))), (0, .ref (g.1 0 0))]) hx hb dX8_ones_56 hl (k := 0) rfl (nI_1 _) (by decide) rfl (fun ls hl => ?_)
            refine lv_goto (tgt := 36) hx hb dX8_ones_59 (by decide) ?_
            exact ih36 (zi6 + 1) zS12 _ _ (by omega) (by first | exact hi1 | (rw [hw, add_row (by decide)]; exact hi1)) (by first | exact hr1 | (rw [hw, add_row (by decide)]; exact hr1)) (by first | exact hr2 | (rw [hw, add_row (by decide)]; exact hr2)) hf hP hS ls (lv_sub hl [0, 1] rfl)
      exact lp36 255 1 zS4 _ _ (by decide) hi1 hr1 hr2 hf hP hS ls (lv_sub hl [0, 1] rfl)
    | succ zk3 ih13 =>
      intro zi2 zS4 H locs hik hi1 hr1 hr2 hf hP hS ls hl
      rw [LX8_ones_13] at hf
      refine lv_iload_n hx hb dX8_ones_13 rfl (lv_at hl 0 rfl) ?_
      refine lv_sipush (v := 256) hx hb dX8_ones_14 (by decide) ?_
      refine lv_icmp_ge (tgt := 34) hx hb dX8_ones_17 (by decide) (fun zc13 => absurd zc13 (up_ge1 rfl hik (by decide))) (fun zc13 => ?_)
      refine lv_aload_n hx hb dX8_ones_20 rfl (lv_at hl 1 rfl) ?_
      refine gO (T := TX8) C0 inA8 hK hP (mMain g) rfl 34 (by decide) (hts _ q710) (v := .ref (g.1 0 34)) rfl dX8_ones_21 ?_
      refine lv_iload_n hx hb dX8_ones_24 rfl (lv_at hl 0 rfl) ?_
      refine lv_bipush (v := 99) hx hb dX8_ones_25 (by decide) ?_
      refine pI locM C0 hK hP hA hS (mFewest g) (vp_in_nI (by omega) (by decide)) dX8_ones_27 (fun H locs hP hS => ?_)
      rw [nI_clamp (n := zi2) (by omega)] at hP
      refine lv_iinc (v := (nI (zi2 + 1))) (lv' := [(1, .int (nI (zi2 + 1))), (0, .ref (g.1 0 0))]) hx hb dX8_ones_28 hl (k := 0) rfl (nI_1 _) (by decide) rfl (fun ls hl => ?_)
      refine lv_goto (tgt := 13) hx hb dX8_ones_31 (by decide) ?_
      exact ih13 (zi2 + 1) (up zS4 0 34 zi2 99) _ _ (by omega) (by rw [up_row_ne _ _ (by decide)]; exact hi1) (by rw [up_row_ne _ _ (by decide)]; exact hr1) (by rw [up_row_ne _ _ (by decide)]; exact hr2) hf hP hS ls (lv_sub hl [0, 1] rfl)
  exact lp13 255 1 (up zS1 0 34 0 0) _ _ (by decide) (by rw [up_row_ne _ _ (by decide), hw, hear_t]) (by rw [up_row_ne _ _ (by decide), hw, hear_row (by decide) (by decide)]) (by rw [up_row_ne _ _ (by decide), hw, hear_row (by decide) (by decide)]) hf hP hS ls (lv_sub hl [0, 1] rfl)
def tX8_berth (S : St) (p1 : Int32) (p2 : Int32) (p3 : Int32) : Int32 :=
  (if wj (Int32.toInt64 p1) 1 99 then (if wj (Int32.toInt64 p2) 1 9 then (if wj (Int32.toInt64 p3) 0 1 then (if p3 = 0 then (if (irm (p1 - 1) (p2 + 1)) ≤ 0 then 0 else 1) else (if (irm (p1 - 1) (p2 + 1)) ≤ 0 then (-6) else (irm (p1 - 1) (p2 + 1)))) else (-2)) else (-2)) else (-2))
set_option maxHeartbeats 4000000 in
set_option maxRecDepth 100000 in
theorem kX8_berth (l : Launch) (g : Gd) (A : Nat → Prop) (hA : Ads g.1 VM A) (S : St) (p1 : Int32) (p2 : Int32) (p3 : Int32) : Met l yX8_berth (wU yX8_berth cX8_berth 5 (some .int)) { frames := 1, cells := 0, slots := 0, locals := 25 } (va_Pc [.ref (g.1 0 0), .int p1, .int p2, .int p3] (PW VM ctM g S)) (va_Qi (fun r u => r = tX8_berth S p1 p2 p3 ∧ u = S) (fun u U => PW VM ctM g u U) A) 0 0 A := by
  refine ent (cc := cX8_berth) (maxL := 5) (ret := (some .int)) (by decide) (Nat.le_of_ble_eq_true rfl) ?_
  intro p e s m below meth c args Q C0 hr hlocks hP hK hQ ls hl
  have hx := C0.1
  have hb := C0.2.1
  have hml := C0.2.2.1
  have hown := C0.2.2.2.1
  have hts := C0.2.2.2.2
  obtain ⟨F, hF⟩ : ∃ F : Int32, F = tX8_berth S p1 p2 p3 := ⟨_, rfl⟩
  have hf := hF
  unfold tX8_berth at hf
  have hS : va_S A s.heap s.heap [] := va_S.rf
  have hl : lv_has ls 5 [(0, .ref (g.1 0 0)), (1, .int p1), (2, .int p2), (3, .int p3)] := hl
  refine lv_iload_n hx hb dX8_berth_0 rfl (lv_at hl 1 rfl) ?_
  refine lv_i2l (v := (Int32.toInt64 p1)) hx hb dX8_berth_1 rfl ?_
  refine lv_lconst (v := 1) hx hb dX8_berth_2 (by decide) ?_
  refine lv_ldc2 (v := 99) hx hb hown (hts _ q803) dX8_berth_3 ?_
  refine kzc (va_runS (As := [.long (Int32.toInt64 p1), .long 1, .long 99]) (rest := []) C0 (kX8_in l g A hA S (Int32.toInt64 p1) 1 99) (va_cwS 3 hts (gS q799 q800 q54 q801) rfl rfl rfl (by decide +kernel) ⟨Nat.le_of_ble_eq_true rfl, Nat.le_of_ble_eq_true rfl⟩) (preS hP hK) rfl rfl hl.1 rfl (lv_room (Nat.le_of_ble_eq_true rfl)) dX8_berth_6 ⟨Nat.zero_le _, Nat.zero_le _⟩) hS (fun _ h => h) (fun zc1 H locs hP hS => ?_) (fun zc1 H locs hP hS => ?_)
  · have hf := hf.trans (if_pos zc1)
    refine lv_if_eq (tgt := 34) hx hb dX8_berth_9 (by decide) (fun zc2 => absurd zc2 (by decide)) (fun zc2 => ?_)
    refine lv_iload_n hx hb dX8_berth_12 rfl (lv_at hl 2 rfl) ?_
    refine lv_i2l (v := (Int32.toInt64 p2)) hx hb dX8_berth_13 rfl ?_
    refine lv_lconst (v := 1) hx hb dX8_berth_14 (by decide) ?_
    refine lv_ldc2 (v := 9) hx hb hown (hts _ q825) dX8_berth_15 ?_
    refine kzc (va_runS (As := [.long (Int32.toInt64 p2), .long 1, .long 9]) (rest := []) C0 (kX8_in l g A hA S (Int32.toInt64 p2) 1 9) (va_cwS 3 hts (gS q799 q800 q54 q801) rfl rfl rfl (by decide +kernel) ⟨Nat.le_of_ble_eq_true rfl, Nat.le_of_ble_eq_true rfl⟩) (preS hP hK) rfl rfl hl.1 rfl (lv_room (Nat.le_of_ble_eq_true rfl)) dX8_berth_18 ⟨Nat.zero_le _, Nat.zero_le _⟩) hS (fun _ h => h) (fun zc3 H locs hP hS => ?_) (fun zc3 H locs hP hS => ?_)
    · have hf := hf.trans (if_pos zc3)
      refine lv_if_eq (tgt := 34) hx hb dX8_berth_21 (by decide) (fun zc4 => absurd zc4 (by decide)) (fun zc4 => ?_)
      refine lv_iload_n hx hb dX8_berth_24 rfl (lv_at hl 3 rfl) ?_
      refine lv_i2l (v := (Int32.toInt64 p3)) hx hb dX8_berth_25 rfl ?_
      refine lv_lconst (v := 0) hx hb dX8_berth_26 (by decide) ?_
      refine lv_lconst (v := 1) hx hb dX8_berth_27 (by decide) ?_
      refine kzc (va_runS (As := [.long (Int32.toInt64 p3), .long 0, .long 1]) (rest := []) C0 (kX8_in l g A hA S (Int32.toInt64 p3) 0 1) (va_cwS 3 hts (gS q799 q800 q54 q801) rfl rfl rfl (by decide +kernel) ⟨Nat.le_of_ble_eq_true rfl, Nat.le_of_ble_eq_true rfl⟩) (preS hP hK) rfl rfl hl.1 rfl (lv_room (Nat.le_of_ble_eq_true rfl)) dX8_berth_28 ⟨Nat.zero_le _, Nat.zero_le _⟩) hS (fun _ h => h) (fun zc5 H locs hP hS => ?_) (fun zc5 H locs hP hS => ?_)
      · have hf := hf.trans (if_pos zc5)
        refine lv_if_ne (tgt := 37) hx hb dX8_berth_31 (by decide) (fun zc6 => ?_) (fun zc6 => absurd zc6 (by decide))
        refine lv_iload_n hx hb dX8_berth_37 rfl (lv_at hl 1 rfl) ?_
        refine lv_iconst (v := 1) hx hb dX8_berth_38 (by decide) ?_
        refine lv_isub hx hb dX8_berth_39 ?_
        refine lv_iload_n hx hb dX8_berth_40 rfl (lv_at hl 2 rfl) ?_
        refine lv_iconst (v := 1) hx hb dX8_berth_41 (by decide) ?_
        refine lv_iadd hx hb dX8_berth_42 ?_
        refine kirem hx hb dX8_berth_43 (wi_ne (wj_wi zc3 (by decide) (by decide))) ?_
        refine lv_istore (lv' := [(4, .int (irm (p1 - 1) (p2 + 1))), (0, .ref (g.1 0 0)), (1, .int p1), (2, .int p2), (3, .int p3)]) hx hb dX8_berth_44 hl (by decide) rfl (fun ls hl => ?_)
        refine lv_iload_n hx hb dX8_berth_46 rfl (lv_at hl 4 rfl) ?_
        refine lv_if_ne (tgt := 63) hx hb dX8_berth_47 (by decide) (fun zc7 => ?_) (fun zc7 => ?_)
        · have hf := hf.trans (if_neg zc7)
          refine lv_iload hx hb dX8_berth_63 (lv_at hl 0 rfl) ?_
          refine lv_if_le (tgt := 73) hx hb dX8_berth_65 (by decide) (fun zc8 => ?_) (fun zc8 => ?_)
          · have hf := hf.trans (if_pos zc8)
            refine lv_bipush (v := (-6)) hx hb dX8_berth_73 (by decide) ?_
            exact ri hQ C0 hr hlocks hK hP hS (by rw [← hF]; exact ⟨hf.symm, rfl⟩) dX8_berth_75
          · have hf := hf.trans (if_neg zc8)
            refine lv_iload hx hb dX8_berth_68 (lv_at hl 0 rfl) ?_
            refine lv_goto (tgt := 75) hx hb dX8_berth_70 (by decide) ?_
            exact ri hQ C0 hr hlocks hK hP hS (by rw [← hF]; exact ⟨hf.symm, rfl⟩) dX8_berth_75
        · have hf := hf.trans (if_pos zc7)
          refine lv_iload hx hb dX8_berth_50 (lv_at hl 0 rfl) ?_
          refine lv_if_le (tgt := 59) hx hb dX8_berth_52 (by decide) (fun zc9 => ?_) (fun zc9 => ?_)
          · have hf := hf.trans (if_pos zc9)
            refine lv_iconst (v := 0) hx hb dX8_berth_59 (by decide) ?_
            refine lv_goto (tgt := 75) hx hb dX8_berth_60 (by decide) ?_
            exact ri hQ C0 hr hlocks hK hP hS (by rw [← hF]; exact ⟨hf.symm, rfl⟩) dX8_berth_75
          · have hf := hf.trans (if_neg zc9)
            refine lv_iconst (v := 1) hx hb dX8_berth_55 (by decide) ?_
            refine lv_goto (tgt := 75) hx hb dX8_berth_56 (by decide) ?_
            exact ri hQ C0 hr hlocks hK hP hS (by rw [← hF]; exact ⟨hf.symm, rfl⟩) dX8_berth_75
      · have hf := hf.trans (if_neg zc5)
        refine lv_if_ne (tgt := 37) hx hb dX8_berth_31 (by decide) (fun zc10 => absurd (by decide) zc10) (fun zc10 => ?_)
        refine lv_bipush (v := (-2)) hx hb dX8_berth_34 (by decide) ?_
        exact ri hQ C0 hr hlocks hK hP hS (by rw [← hF]; exact ⟨hf.symm, rfl⟩) dX8_berth_36
    · have hf := hf.trans (if_neg zc3)
      refine lv_if_eq (tgt := 34) hx hb dX8_berth_21 (by decide) (fun zc11 => ?_) (fun zc11 => absurd (by decide) zc11)
      refine lv_bipush (v := (-2)) hx hb dX8_berth_34 (by decide) ?_
      exact ri hQ C0 hr hlocks hK hP hS (by rw [← hF]; exact ⟨hf.symm, rfl⟩) dX8_berth_36
  · have hf := hf.trans (if_neg zc1)
    refine lv_if_eq (tgt := 34) hx hb dX8_berth_9 (by decide) (fun zc12 => ?_) (fun zc12 => absurd (by decide) zc12)
    refine lv_bipush (v := (-2)) hx hb dX8_berth_34 (by decide) ?_
    exact ri hQ C0 hr hlocks hK hP hS (by rw [← hF]; exact ⟨hf.symm, rfl⟩) dX8_berth_36
