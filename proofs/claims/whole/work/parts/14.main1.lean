theorem tX7_imageAt_tree (g : Gd) (S : St) (p1 : Int32) : ((if ikc p1 then some (g.1 (10 + (Int32.toNatClampNeg p1)) 0) else none) : Option Nat) =
  (if p1 < 0 then none else (if 2 ≤ p1 then none else (some (g.1 (10 + (Int32.toNatClampNeg p1)) 0)))) := by
  repeat' split
  all_goals first | rfl | (simp_all; done) | (exfalso; simp only [wi, plc, ikc, art, Int32.lt_iff_toInt_lt, Int32.le_iff_toInt_le, ti0, ti1, ti2, ti3, ti6, ti8] at *; omega)
set_option maxHeartbeats 4000000 in
set_option maxRecDepth 100000 in
theorem kX7_imageAt (l : Launch) (g : Gd) (A : Nat → Prop) (hA : Ads g.1 VX A) (S : St) (p1 : Int32) : Met l yX7_imageAt (wU yX7_imageAt cX7_imageAt 2 (some (.object "BelowWorth$Image"))) { frames := 0, cells := 0, slots := 0, locals := 0 } (va_Pc [.ref (g.1 12 0), .int p1] (PW VX ctX g S)) (va_Qq (fun r u => r = (if ikc p1 then some (g.1 (10 + (Int32.toNatClampNeg p1)) 0) else none) ∧ u = S) (fun u U => PW VX ctX g u U) A) 0 0 A := by
  refine ent (cc := cX7_imageAt) (maxL := 2) (ret := (some (.object "BelowWorth$Image"))) (by decide) (Nat.le_of_ble_eq_true rfl) ?_
  intro p e s m below meth c args Q C0 hr hlocks hP hK hQ ls hl
  have hx := C0.1
  have hb := C0.2.1
  have hml := C0.2.2.1
  have hown := C0.2.2.2.1
  have hts := C0.2.2.2.2
  obtain ⟨F, hF⟩ : ∃ F : Option Nat, F = (if ikc p1 then some (g.1 (10 + (Int32.toNatClampNeg p1)) 0) else none) := ⟨_, rfl⟩
  have hf := hF
  rw [tX7_imageAt_tree g S p1] at hf
  have hS : va_S A s.heap s.heap [] := va_S.rf
  have hl : lv_has ls 2 [(0, .ref (g.1 12 0)), (1, .int p1)] := hl
  refine lv_iload_n hx hb dX7_imageAt_0 rfl (lv_at hl 1 rfl) ?_
  refine lv_if_lt (tgt := 22) hx hb dX7_imageAt_1 (by decide) (fun zc1 => ?_) (fun zc1 => ?_)
  · have hf := hf.trans (if_pos zc1)
    refine lv_null hx hb dX7_imageAt_22 ?_
    exact rq none hQ C0 hr hlocks hK hP hS (by rw [← hF]; exact ⟨hf.symm, rfl⟩) dX7_imageAt_23
  · have hf := hf.trans (if_neg zc1)
    refine lv_iload_n hx hb dX7_imageAt_4 rfl (lv_at hl 1 rfl) ?_
    refine lv_aload_n hx hb dX7_imageAt_5 rfl (lv_at hl 0 rfl) ?_
    refine gO (T := TX7) C0 inA7 hK hP (xMain g) rfl 6 (by decide) (hts _ q269) (v := .ref (g.1 12 1)) rfl dX7_imageAt_6 ?_
    refine lenQ (v := 2) C0 hK hP (xImgs g) rfl rfl dX7_imageAt_9 ?_
    refine lv_icmp_ge (tgt := 22) hx hb dX7_imageAt_10 (by decide) (fun zc2 => ?_) (fun zc2 => ?_)
    · have hf := hf.trans (if_pos zc2)
      refine lv_null hx hb dX7_imageAt_22 ?_
      exact rq none hQ C0 hr hlocks hK hP hS (by rw [← hF]; exact ⟨hf.symm, rfl⟩) dX7_imageAt_23
    · have hf := hf.trans (if_neg zc2)
      refine lv_aload_n hx hb dX7_imageAt_13 rfl (lv_at hl 0 rfl) ?_
      refine gO (T := TX7) C0 inA7 hK hP (xMain g) rfl 6 (by decide) (hts _ q269) (v := .ref (g.1 12 1)) rfl dX7_imageAt_14 ?_
      refine lv_iload_n hx hb dX7_imageAt_17 rfl (lv_at hl 1 rfl) ?_
      refine gQ C0 hK hP (xImgs g) rfl (vpx (N := 2) zc1 zc2 rfl (by decide)) dX7_imageAt_18 ?_
      refine W.eq (g2 := F0 m 19 ls (.ref (g.1 (10 + (Int32.toNatClampNeg p1)) 0) :: [])) rfl ?_
      refine lv_goto (tgt := 23) hx hb dX7_imageAt_19 (by decide) ?_
      exact rq (some (g.1 (10 + (Int32.toNatClampNeg p1)) 0)) hQ C0 hr hlocks hK hP hS (by rw [← hF]; exact ⟨hf.symm, rfl⟩) dX7_imageAt_23
def tX7_toldOf (S : St) (o : Nat) (k : Nat) (p1 : Int32) : Int32 :=
  (if p1 = 0 then (S.1 o k 2) else (if p1 = 1 then (S.1 o k 3) else (if p1 = 2 then (tX4_sumAt S o k (p1 - 2)) else (if p1 = 3 then (tX4_sumAt S o k (p1 - 2)) else (if p1 = 4 then (tX4_sumAt S o k (p1 - 2)) else (if p1 = 5 then (S.1 o k 5) else (if p1 = 6 then (S.1 o k 4) else (if p1 = 7 then (if (b01 (S.1 o k 1)) = 0 then 0 else 1) else (-2)))))))))
set_option maxHeartbeats 4000000 in
set_option maxRecDepth 100000 in
theorem kX7_toldOf (l : Launch) (g : Gd) (A : Nat → Prop) (hA : Ads g.1 VX A) (S : St) (o : Nat) (k : Nat) (p1 : Int32) (ho : o < 4) (hk : k < 6) : Met l yX7_toldOf (wU yX7_toldOf cX7_toldOf 2 (some .int)) { frames := 1, cells := 0, slots := 0, locals := 21 } (va_Pc [.ref (g.1 o k), .int p1] (PW VX ctX g S)) (va_Qi (fun r u => r = tX7_toldOf S o k p1 ∧ u = S) (fun u U => PW VX ctX g u U) A) 0 0 A := by
  refine ent (cc := cX7_toldOf) (maxL := 2) (ret := (some .int)) (by decide) (Nat.le_of_ble_eq_true rfl) ?_
  intro p e s m below meth c args Q C0 hr hlocks hP hK hQ ls hl
  have hx := C0.1
  have hb := C0.2.1
  have hml := C0.2.2.1
  have hown := C0.2.2.2.1
  have hts := C0.2.2.2.2
  obtain ⟨F, hF⟩ : ∃ F : Int32, F = tX7_toldOf S o k p1 := ⟨_, rfl⟩
  have hf := hF
  unfold tX7_toldOf at hf
  have hS : va_S A s.heap s.heap [] := va_S.rf
  have hl : lv_has ls 2 [(0, .ref (g.1 o k)), (1, .int p1)] := hl
  refine lv_iload_n hx hb dX7_toldOf_0 rfl (lv_at hl 1 rfl) ?_
  by_cases zc1 : p1 = 0
  · have hf := hf.trans (if_pos zc1)
    refine lv_tableIn (off := 47) (tgt := 48) hx hb dX7_toldOf_1 (by rw [zc1]; decide) (by rw [zc1]; decide) (by rw [zc1]; decide) (by decide) ?_
    refine lv_aload_n hx hb dX7_toldOf_48 rfl (lv_at hl 0 rfl) ?_
    refine gO (T := TX4) C0 inA4 hK hP (xShip g ho hk) rfl 2 (by decide) (hts _ q86) (v := .int (S.1 o k 2)) rfl dX7_toldOf_49 ?_
    exact ri hQ C0 hr hlocks hK hP hS (by rw [← hF]; exact ⟨hf.symm, rfl⟩) dX7_toldOf_52
  · have hf := hf.trans (if_neg zc1)
    by_cases zc2 : p1 = 1
    · have hf := hf.trans (if_pos zc2)
      refine lv_tableIn (off := 52) (tgt := 53) hx hb dX7_toldOf_1 (by rw [zc2]; decide) (by rw [zc2]; decide) (by rw [zc2]; decide) (by decide) ?_
      refine lv_aload_n hx hb dX7_toldOf_53 rfl (lv_at hl 0 rfl) ?_
      refine gO (T := TX4) C0 inA4 hK hP (xShip g ho hk) rfl 3 (by decide) (hts _ q89) (v := .int (S.1 o k 3)) rfl dX7_toldOf_54 ?_
      exact ri hQ C0 hr hlocks hK hP hS (by rw [← hF]; exact ⟨hf.symm, rfl⟩) dX7_toldOf_57
    · have hf := hf.trans (if_neg zc2)
      by_cases zc3 : p1 = 2
      · have hf := hf.trans (if_pos zc3)
        refine lv_tableIn (off := 57) (tgt := 58) hx hb dX7_toldOf_1 (by rw [zc3]; decide) (by rw [zc3]; decide) (by rw [zc3]; decide) (by decide) ?_
        refine lv_aload_n hx hb dX7_toldOf_58 rfl (lv_at hl 0 rfl) ?_
        refine lv_iload_n hx hb dX7_toldOf_59 rfl (lv_at hl 1 rfl) ?_
        refine lv_iconst (v := 2) hx hb dX7_toldOf_60 (by decide) ?_
        refine lv_isub hx hb dX7_toldOf_61 ?_
        refine kiP (va_runV (As := [.int (p1 - 2)]) (rest := []) C0 (kX4_sumAt l g A hA S o k (p1 - 2) ho hk) (cwV 1 hts (gV q332 q333 q334 q48 q335) rfl rfl rfl (by decide +kernel) ⟨Nat.le_of_ble_eq_true rfl, Nat.le_of_ble_eq_true rfl⟩) (preV (recO (xShip g ho hk) hP hK rfl) hP hK) rfl rfl hl.1 rfl (lv_room (Nat.le_of_ble_eq_true rfl)) dX7_toldOf_62 ⟨Nat.zero_le _, Nat.zero_le _⟩) hS (fun _ h => h) (fun H locs hP hS => ?_)
        exact ri hQ C0 hr hlocks hK hP hS (by rw [← hF]; exact ⟨hf.symm, rfl⟩) dX7_toldOf_65
      · have hf := hf.trans (if_neg zc3)
        by_cases zc4 : p1 = 3
        · have hf := hf.trans (if_pos zc4)
          refine lv_tableIn (off := 57) (tgt := 58) hx hb dX7_toldOf_1 (by rw [zc4]; decide) (by rw [zc4]; decide) (by rw [zc4]; decide) (by decide) ?_
          refine lv_aload_n hx hb dX7_toldOf_58 rfl (lv_at hl 0 rfl) ?_
          refine lv_iload_n hx hb dX7_toldOf_59 rfl (lv_at hl 1 rfl) ?_
          refine lv_iconst (v := 2) hx hb dX7_toldOf_60 (by decide) ?_
          refine lv_isub hx hb dX7_toldOf_61 ?_
          refine kiP (va_runV (As := [.int (p1 - 2)]) (rest := []) C0 (kX4_sumAt l g A hA S o k (p1 - 2) ho hk) (cwV 1 hts (gV q332 q333 q334 q48 q335) rfl rfl rfl (by decide +kernel) ⟨Nat.le_of_ble_eq_true rfl, Nat.le_of_ble_eq_true rfl⟩) (preV (recO (xShip g ho hk) hP hK rfl) hP hK) rfl rfl hl.1 rfl (lv_room (Nat.le_of_ble_eq_true rfl)) dX7_toldOf_62 ⟨Nat.zero_le _, Nat.zero_le _⟩) hS (fun _ h => h) (fun H locs hP hS => ?_)
          exact ri hQ C0 hr hlocks hK hP hS (by rw [← hF]; exact ⟨hf.symm, rfl⟩) dX7_toldOf_65
        · have hf := hf.trans (if_neg zc4)
          by_cases zc5 : p1 = 4
          · have hf := hf.trans (if_pos zc5)
            refine lv_tableIn (off := 57) (tgt := 58) hx hb dX7_toldOf_1 (by rw [zc5]; decide) (by rw [zc5]; decide) (by rw [zc5]; decide) (by decide) ?_
            refine lv_aload_n hx hb dX7_toldOf_58 rfl (lv_at hl 0 rfl) ?_
            refine lv_iload_n hx hb dX7_toldOf_59 rfl (lv_at hl 1 rfl) ?_
            refine lv_iconst (v := 2) hx hb dX7_toldOf_60 (by decide) ?_
            refine lv_isub hx hb dX7_toldOf_61 ?_
            refine kiP (va_runV (As := [.int (p1 - 2)]) (rest := []) C0 (kX4_sumAt l g A hA S o k (p1 - 2) ho hk) (cwV 1 hts (gV q332 q333 q334 q48 q335) rfl rfl rfl (by decide +kernel) ⟨Nat.le_of_ble_eq_true rfl, Nat.le_of_ble_eq_true rfl⟩) (preV (recO (xShip g ho hk) hP hK rfl) hP hK) rfl rfl hl.1 rfl (lv_room (Nat.le_of_ble_eq_true rfl)) dX7_toldOf_62 ⟨Nat.zero_le _, Nat.zero_le _⟩) hS (fun _ h => h) (fun H locs hP hS => ?_)
            exact ri hQ C0 hr hlocks hK hP hS (by rw [← hF]; exact ⟨hf.symm, rfl⟩) dX7_toldOf_65
          · have hf := hf.trans (if_neg zc5)
            by_cases zc6 : p1 = 5
            · have hf := hf.trans (if_pos zc6)
              refine lv_tableIn (off := 65) (tgt := 66) hx hb dX7_toldOf_1 (by rw [zc6]; decide) (by rw [zc6]; decide) (by rw [zc6]; decide) (by decide) ?_
              refine lv_aload_n hx hb dX7_toldOf_66 rfl (lv_at hl 0 rfl) ?_
              refine gO (T := TX4) C0 inA4 hK hP (xShip g ho hk) rfl 5 (by decide) (hts _ q94) (v := .int (S.1 o k 5)) rfl dX7_toldOf_67 ?_
              exact ri hQ C0 hr hlocks hK hP hS (by rw [← hF]; exact ⟨hf.symm, rfl⟩) dX7_toldOf_70
            · have hf := hf.trans (if_neg zc6)
              by_cases zc7 : p1 = 6
              · have hf := hf.trans (if_pos zc7)
                refine lv_tableIn (off := 70) (tgt := 71) hx hb dX7_toldOf_1 (by rw [zc7]; decide) (by rw [zc7]; decide) (by rw [zc7]; decide) (by decide) ?_
                refine lv_aload_n hx hb dX7_toldOf_71 rfl (lv_at hl 0 rfl) ?_
                refine gO (T := TX4) C0 inA4 hK hP (xShip g ho hk) rfl 4 (by decide) (hts _ q92) (v := .int (S.1 o k 4)) rfl dX7_toldOf_72 ?_
                exact ri hQ C0 hr hlocks hK hP hS (by rw [← hF]; exact ⟨hf.symm, rfl⟩) dX7_toldOf_75
              · have hf := hf.trans (if_neg zc7)
                by_cases zc8 : p1 = 7
                · have hf := hf.trans (if_pos zc8)
                  refine lv_tableIn (off := 75) (tgt := 76) hx hb dX7_toldOf_1 (by rw [zc8]; decide) (by rw [zc8]; decide) (by rw [zc8]; decide) (by decide) ?_
                  refine lv_aload_n hx hb dX7_toldOf_76 rfl (lv_at hl 0 rfl) ?_
                  refine gO (T := TX4) C0 inA4 hK hP (xShip g ho hk) rfl 1 (by decide) (hts _ q83) (v := .int (b01 (S.1 o k 1))) rfl dX7_toldOf_77 ?_
                  refine lv_if_eq (tgt := 87) hx hb dX7_toldOf_80 (by decide) (fun zc9 => ?_) (fun zc9 => ?_)
                  · have hf := hf.trans (if_pos zc9)
                    refine lv_iconst (v := 0) hx hb dX7_toldOf_87 (by decide) ?_
                    exact ri hQ C0 hr hlocks hK hP hS (by rw [← hF]; exact ⟨hf.symm, rfl⟩) dX7_toldOf_88
                  · have hf := hf.trans (if_neg zc9)
                    refine lv_iconst (v := 1) hx hb dX7_toldOf_83 (by decide) ?_
                    refine lv_goto (tgt := 88) hx hb dX7_toldOf_84 (by decide) ?_
                    exact ri hQ C0 hr hlocks hK hP hS (by rw [← hF]; exact ⟨hf.symm, rfl⟩) dX7_toldOf_88
                · have hf := hf.trans (if_neg zc8)
                  refine lv_tableOut (tgt := 89) hx hb dX7_toldOf_1 (by have h0 := lv_neT (a := 0) zc1 (by decide); have h1 := lv_neT (a := 1) zc2 (by decide); have h2 := lv_neT (a := 2) zc3 (by decide); have h3 := lv_neT (a := 3) zc4 (by decide); have h4 := lv_neT (a := 4) zc5 (by decide); have h5 := lv_neT (a := 5) zc6 (by decide); have h6 := lv_neT (a := 6) zc7 (by decide); have h7 := lv_neT (a := 7) zc8 (by decide); omega) (by decide) ?_
                  refine lv_bipush (v := (-2)) hx hb dX7_toldOf_89 (by decide) ?_
                  exact ri hQ C0 hr hlocks hK hP hS (by rw [← hF]; exact ⟨hf.symm, rfl⟩) dX7_toldOf_91
def LX7_commonDivisor_3 (S : St) (y1 : Int64) (y2 : Int64) : Nat → Nat → Int64 → Int64 → Int64
  | 0, zi1, zx3, zx4 => zx3
  | zk2 + 1, zi1, zx3, zx4 => (if zx4 = 0 then zx3 else (LX7_commonDivisor_3 S y1 y2 zk2 (zi1 + 1) zx4 (lrm zx3 zx4)))
def tX7_commonDivisor (S : St) (y1 : Int64) (y2 : Int64) : Int64 :=
  (LX7_commonDivisor_3 S y1 y2 100 0 y1 y2)
set_option maxHeartbeats 4000000 in
set_option maxRecDepth 100000 in
theorem kX7_commonDivisor (l : Launch) (g : Gd) (A : Nat → Prop) (hA : Ads g.1 VX A) (S : St) (y1 : Int64) (y2 : Int64) : Met l yX7_commonDivisor (wU yX7_commonDivisor cX7_commonDivisor 7 (some .long)) { frames := 0, cells := 0, slots := 0, locals := 0 } (va_Pc [.long y1, .long y2] (PW VX ctX g S)) (va_Ql (fun r u => r = tX7_commonDivisor S y1 y2 ∧ u = S) (fun u U => PW VX ctX g u U) A) 0 0 A := by
  refine ent (cc := cX7_commonDivisor) (maxL := 7) (ret := (some .long)) (by decide) (Nat.le_of_ble_eq_true rfl) ?_
  intro p e s m below meth c args Q C0 hr hlocks hP hK hQ ls hl
  have hx := C0.1
  have hb := C0.2.1
  have hml := C0.2.2.1
  have hown := C0.2.2.2.1
  have hts := C0.2.2.2.2
  obtain ⟨F, hF⟩ : ∃ F : Int64, F = tX7_commonDivisor S y1 y2 := ⟨_, rfl⟩
  have hf := hF
  unfold tX7_commonDivisor at hf
  have hS : va_S A s.heap s.heap [] := va_S.rf
  have hl : lv_has ls 7 [(0, .long y1), (2, .long y2)] := hl
  refine lv_iconst (v := 0) hx hb dX7_commonDivisor_0 (by decide) ?_
  refine lv_istore (lv' := [(4, .int 0), (0, .long y1), (2, .long y2)]) hx hb dX7_commonDivisor_1 hl (by decide) rfl (fun ls hl => ?_)
  have lp3 : ∀ (zk2 zi1 : Nat) (zx3 : Int64) (zx4 : Int64) (H : Heap) (locs : List Loc), (zi1 + zk2 = 100) → (F = LX7_commonDivisor_3 S y1 y2 zk2 zi1 zx3 zx4) → HW VX ctX g S H → va_S A s.heap H locs → ∀ ls : Array Slot, lv_has ls 7 [(4, .int (nI zi1)), (0, .long zx3), (2, .long zx4)] → W p l e { frames := 0, cells := 0, slots := 0, locals := 0 } s m args below meth c H locs 0 0 Q (F0 m 3 ls []) := by
    intro zk2
    induction zk2 with
    | zero =>
      intro zi1 zx3 zx4 H locs hik hf hP hS ls hl
      rw [LX7_commonDivisor_3] at hf
      refine lv_iload hx hb dX7_commonDivisor_3 (lv_at hl 0 rfl) ?_
      refine lv_bipush (v := 100) hx hb dX7_commonDivisor_5 (by decide) ?_
      refine lv_icmp_ge (tgt := 32) hx hb dX7_commonDivisor_7 (by decide) (fun zc5 => ?_) (fun zc5 => absurd (up_ge0 rfl hik (by decide)) zc5)
      refine lv_lload_n hx hb dX7_commonDivisor_32 rfl (lv_at hl 1 rfl) ?_
      exact rl hQ C0 hr hlocks hK hP hS (by rw [← hF]; exact ⟨hf.symm, rfl⟩) dX7_commonDivisor_33
    | succ zk2 ih3 =>
      intro zi1 zx3 zx4 H locs hik hf hP hS ls hl
      rw [LX7_commonDivisor_3] at hf
      refine lv_iload hx hb dX7_commonDivisor_3 (lv_at hl 0 rfl) ?_
      refine lv_bipush (v := 100) hx hb dX7_commonDivisor_5 (by decide) ?_
      refine lv_icmp_ge (tgt := 32) hx hb dX7_commonDivisor_7 (by decide) (fun zc6 => absurd zc6 (up_ge1 rfl hik (by decide))) (fun zc6 => ?_)
      refine lv_lload_n hx hb dX7_commonDivisor_10 rfl (lv_at hl 2 rfl) ?_
      refine lv_lconst (v := 0) hx hb dX7_commonDivisor_11 (by decide) ?_
      refine klcmp_eq (tgt := 32) hx hb dX7_commonDivisor_12 dX7_commonDivisor_13 (by decide) (fun zc7 => ?_) (fun zc7 => ?_)
      · have hf := hf.trans (if_pos zc7)
        refine lv_lload_n hx hb dX7_commonDivisor_32 rfl (lv_at hl 1 rfl) ?_
        exact rl hQ C0 hr hlocks hK hP hS (by rw [← hF]; exact ⟨hf.symm, rfl⟩) dX7_commonDivisor_33
      · have hf := hf.trans (if_neg zc7)
        refine lv_lload_n hx hb dX7_commonDivisor_16 rfl (lv_at hl 1 rfl) ?_
        refine lv_lload_n hx hb dX7_commonDivisor_17 rfl (lv_at hl 2 rfl) ?_
        refine klrem hx hb dX7_commonDivisor_18 zc7 ?_
        refine lv_lstore (lv' := [(5, .long (lrm zx3 zx4)), (4, .int (nI zi1)), (0, .long zx3), (2, .long zx4)]) hx hb dX7_commonDivisor_19 hl (by decide) rfl (fun ls hl => ?_)
        refine lv_lload_n hx hb dX7_commonDivisor_21 rfl (lv_at hl 3 rfl) ?_
        refine lv_lstore_n (lv' := [(0, .long zx4), (5, .long (lrm zx3 zx4)), (4, .int (nI zi1)), (2, .long zx4)]) hx hb dX7_commonDivisor_22 rfl hl (by decide) rfl (fun ls hl => ?_)
        refine lv_lload hx hb dX7_commonDivisor_23 (lv_at hl 1 rfl) ?_
        refine lv_lstore_n (lv' := [(2, .long (lrm zx3 zx4)), (0, .long zx4), (5, .long (lrm zx3 zx4)), (4, .int (nI zi1))]) hx hb dX7_commonDivisor_25 rfl hl (by decide) rfl (fun ls hl => ?_)
        refine lv_iinc (v := (nI (zi1 + 1))) (lv' := [(4, .int (nI (zi1 + 1))), (2, .long (lrm zx3 zx4)), (0, .long zx4), (5, .long (lrm zx3 zx4))]) hx hb dX7_commonDivisor_26 hl (k := 3) rfl (nI_1 _) (by decide) rfl (fun ls hl => ?_)
        refine lv_goto (tgt := 3) hx hb dX7_commonDivisor_29 (by decide) ?_
        exact ih3 (zi1 + 1) zx4 (lrm zx3 zx4) _ _ (by omega) hf hP hS ls (lv_sub hl [0, 2, 1] rfl)
  exact lp3 100 0 y1 y2 _ _ (by decide) hf hP hS ls (lv_sub hl [0, 1, 2] rfl)
def tX7_partOf (S : St) (y1 : Int64) (y2 : Int64) (p1 : Int32) : Int64 :=
  (if p1 = 0 then (if (tX7_commonDivisor S (if 0 < y1 then y1 else -y1) y2) = 0 then y1 else (y1 / (tX7_commonDivisor S (if 0 < y1 then y1 else -y1) y2))) else (if (tX7_commonDivisor S (if 0 < y1 then y1 else -y1) y2) = 0 then y2 else (y2 / (tX7_commonDivisor S (if 0 < y1 then y1 else -y1) y2))))
set_option maxHeartbeats 4000000 in
set_option maxRecDepth 100000 in
theorem kX7_partOf (l : Launch) (g : Gd) (A : Nat → Prop) (hA : Ads g.1 VX A) (S : St) (y1 : Int64) (y2 : Int64) (p1 : Int32) : Met l yX7_partOf (wU yX7_partOf cX7_partOf 9 (some .long)) { frames := 1, cells := 0, slots := 0, locals := 26 } (va_Pc [.long y1, .long y2, .int p1] (PW VX ctX g S)) (va_Ql (fun r u => r = tX7_partOf S y1 y2 p1 ∧ u = S) (fun u U => PW VX ctX g u U) A) 0 0 A := by
  refine ent (cc := cX7_partOf) (maxL := 9) (ret := (some .long)) (by decide) (Nat.le_of_ble_eq_true rfl) ?_
  intro p e s m below meth c args Q C0 hr hlocks hP hK hQ ls hl
  have hx := C0.1
  have hb := C0.2.1
  have hml := C0.2.2.1
  have hown := C0.2.2.2.1
  have hts := C0.2.2.2.2
  obtain ⟨F, hF⟩ : ∃ F : Int64, F = tX7_partOf S y1 y2 p1 := ⟨_, rfl⟩
  have hf := hF
  unfold tX7_partOf at hf
  have hS : va_S A s.heap s.heap [] := va_S.rf
  have hl : lv_has ls 9 [(0, .long y1), (2, .long y2), (4, .int p1)] := hl
  refine lv_lload_n hx hb dX7_partOf_0 rfl (lv_at hl 0 rfl) ?_
  refine va_mabs_long hx hb (by rw [hml]; exact hl.1.symm) hown (hts _ q497) (hts _ q498) (hts _ q56) (hts _ q499) (Nat.le_of_ble_eq_true rfl) (Nat.le_of_ble_eq_true rfl) (Nat.zero_le _) (Nat.zero_le _) dX7_partOf_1 ?_
  refine lv_lload_n hx hb dX7_partOf_4 rfl (lv_at hl 1 rfl) ?_
  refine klP (va_runS (As := [.long (if 0 < y1 then y1 else -y1), .long y2]) (rest := []) C0 (kX7_commonDivisor l g A hA S (if 0 < y1 then y1 else -y1) y2) (va_cwS 2 hts (gS q500 q501 q46 q502) rfl rfl rfl (by decide +kernel) ⟨Nat.le_of_ble_eq_true rfl, Nat.le_of_ble_eq_true rfl⟩) (preS hP hK) rfl rfl hl.1 rfl (lv_room (Nat.le_of_ble_eq_true rfl)) dX7_partOf_5 ⟨Nat.zero_le _, Nat.zero_le _⟩) hS (fun _ h => h) (fun H locs hP hS => ?_)
  refine lv_lstore (lv' := [(5, .long (tX7_commonDivisor S (if 0 < y1 then y1 else -y1) y2)), (0, .long y1), (2, .long y2), (4, .int p1)]) hx hb dX7_partOf_8 hl (by decide) rfl (fun ls hl => ?_)
  refine lv_iload hx hb dX7_partOf_10 (lv_at hl 3 rfl) ?_
  refine lv_if_ne (tgt := 19) hx hb dX7_partOf_12 (by decide) (fun zc1 => ?_) (fun zc1 => ?_)
  · have hf := hf.trans (if_neg zc1)
    refine lv_lload_n hx hb dX7_partOf_19 rfl (lv_at hl 2 rfl) ?_
    refine lv_lstore (lv' := [(7, .long y2), (5, .long (tX7_commonDivisor S (if 0 < y1 then y1 else -y1) y2)), (0, .long y1), (2, .long y2), (4, .int p1)]) hx hb dX7_partOf_20 hl (by decide) rfl (fun ls hl => ?_)
    refine lv_lload hx hb dX7_partOf_22 (lv_at hl 1 rfl) ?_
    refine lv_lconst (v := 0) hx hb dX7_partOf_24 (by decide) ?_
    refine klcmp_ne (tgt := 34) hx hb dX7_partOf_25 dX7_partOf_26 (by decide) (fun zc2 => ?_) (fun zc2 => ?_)
    · have hf := hf.trans (if_neg zc2)
      refine lv_lload hx hb dX7_partOf_34 (lv_at hl 0 rfl) ?_
      refine lv_lload hx hb dX7_partOf_36 (lv_at hl 1 rfl) ?_
      refine lv_ldiv hx hb dX7_partOf_38 zc2 ?_
      exact rl hQ C0 hr hlocks hK hP hS (by rw [← hF]; exact ⟨hf.symm, rfl⟩) dX7_partOf_39
    · have hf := hf.trans (if_pos zc2)
      refine lv_lload hx hb dX7_partOf_29 (lv_at hl 0 rfl) ?_
      refine lv_goto (tgt := 39) hx hb dX7_partOf_31 (by decide) ?_
      exact rl hQ C0 hr hlocks hK hP hS (by rw [← hF]; exact ⟨hf.symm, rfl⟩) dX7_partOf_39
  · have hf := hf.trans (if_pos zc1)
    refine lv_lload_n hx hb dX7_partOf_15 rfl (lv_at hl 1 rfl) ?_
    refine lv_goto (tgt := 20) hx hb dX7_partOf_16 (by decide) ?_
    refine lv_lstore (lv' := [(7, .long y1), (5, .long (tX7_commonDivisor S (if 0 < y1 then y1 else -y1) y2)), (0, .long y1), (2, .long y2), (4, .int p1)]) hx hb dX7_partOf_20 hl (by decide) rfl (fun ls hl => ?_)
    refine lv_lload hx hb dX7_partOf_22 (lv_at hl 1 rfl) ?_
    refine lv_lconst (v := 0) hx hb dX7_partOf_24 (by decide) ?_
    refine klcmp_ne (tgt := 34) hx hb dX7_partOf_25 dX7_partOf_26 (by decide) (fun zc3 => ?_) (fun zc3 => ?_)
    · have hf := hf.trans (if_neg zc3)
      refine lv_lload hx hb dX7_partOf_34 (lv_at hl 0 rfl) ?_
      refine lv_lload hx hb dX7_partOf_36 (lv_at hl 1 rfl) ?_
      refine lv_ldiv hx hb dX7_partOf_38 zc3 ?_
      exact rl hQ C0 hr hlocks hK hP hS (by rw [← hF]; exact ⟨hf.symm, rfl⟩) dX7_partOf_39
    · have hf := hf.trans (if_pos zc3)
      refine lv_lload hx hb dX7_partOf_29 (lv_at hl 0 rfl) ?_
      refine lv_goto (tgt := 39) hx hb dX7_partOf_31 (by decide) ?_
      exact rl hQ C0 hr hlocks hK hP hS (by rw [← hF]; exact ⟨hf.symm, rfl⟩) dX7_partOf_39
def LX7_likelihood_5 (S : St) (p1 : Int32) (p2 : Int32) (p3 : Int32) : Nat → Nat → Int64 → Int64
  | 0, zi1, zx3 => zx3
  | zk2 + 1, zi1, zx3 => (if p3 ≤ (nI zi1) then (LX7_likelihood_5 S p1 p2 p3 zk2 (zi1 + 1) (zx3 * (Int32.toInt64 (100 - p1)))) else (LX7_likelihood_5 S p1 p2 p3 zk2 (zi1 + 1) (zx3 * (Int32.toInt64 p1))))
def tX7_likelihood (S : St) (p1 : Int32) (p2 : Int32) (p3 : Int32) : Int64 :=
  (LX7_likelihood_5 S p1 p2 p3 (Int32.toNatClampNeg p2) 0 1)
set_option maxHeartbeats 4000000 in
set_option maxRecDepth 100000 in
theorem kX7_likelihood (l : Launch) (g : Gd) (A : Nat → Prop) (hA : Ads g.1 VX A) (S : St) (p1 : Int32) (p2 : Int32) (p3 : Int32) : Met l yX7_likelihood (wU yX7_likelihood cX7_likelihood 6 (some .long)) { frames := 0, cells := 0, slots := 0, locals := 0 } (va_Pc [.int p1, .int p2, .int p3] (PW VX ctX g S)) (va_Ql (fun r u => r = tX7_likelihood S p1 p2 p3 ∧ u = S) (fun u U => PW VX ctX g u U) A) 0 0 A := by
  refine ent (cc := cX7_likelihood) (maxL := 6) (ret := (some .long)) (by decide) (Nat.le_of_ble_eq_true rfl) ?_
  intro p e s m below meth c args Q C0 hr hlocks hP hK hQ ls hl
  have hx := C0.1
  have hb := C0.2.1
  have hml := C0.2.2.1
  have hown := C0.2.2.2.1
  have hts := C0.2.2.2.2
  obtain ⟨F, hF⟩ : ∃ F : Int64, F = tX7_likelihood S p1 p2 p3 := ⟨_, rfl⟩
  have hf := hF
  unfold tX7_likelihood at hf
  have hS : va_S A s.heap s.heap [] := va_S.rf
  have hl : lv_has ls 6 [(0, .int p1), (1, .int p2), (2, .int p3)] := hl
  refine lv_lconst (v := 1) hx hb dX7_likelihood_0 (by decide) ?_
  refine lv_lstore_n (lv' := [(3, .long 1), (0, .int p1), (1, .int p2), (2, .int p3)]) hx hb dX7_likelihood_1 rfl hl (by decide) rfl (fun ls hl => ?_)
  refine lv_iconst (v := 0) hx hb dX7_likelihood_2 (by decide) ?_
  refine lv_istore (lv' := [(5, .int 0), (3, .long 1), (0, .int p1), (1, .int p2), (2, .int p3)]) hx hb dX7_likelihood_3 hl (by decide) rfl (fun ls hl => ?_)
  have lp5 : ∀ (zk2 zi1 : Nat) (zx3 : Int64) (H : Heap) (locs : List Loc), (zi1 + zk2 = (Int32.toNatClampNeg p2)) → (F = LX7_likelihood_5 S p1 p2 p3 zk2 zi1 zx3) → HW VX ctX g S H → va_S A s.heap H locs → ∀ ls : Array Slot, lv_has ls 6 [(5, .int (nI zi1)), (0, .int p1), (1, .int p2), (2, .int p3), (3, .long zx3)] → W p l e { frames := 0, cells := 0, slots := 0, locals := 0 } s m args below meth c H locs 0 0 Q (F0 m 5 ls []) := by
    intro zk2
    induction zk2 with
    | zero =>
      intro zi1 zx3 H locs hik hf hP hS ls hl
      rw [LX7_likelihood_5] at hf
      refine lv_iload hx hb dX7_likelihood_5 (lv_at hl 0 rfl) ?_
      refine lv_iload_n hx hb dX7_likelihood_7 rfl (lv_at hl 2 rfl) ?_
      refine lv_icmp_ge (tgt := 36) hx hb dX7_likelihood_8 (by decide) (fun zc4 => ?_) (fun zc4 => absurd (up_sge0 hik) zc4)
      refine lv_lload_n hx hb dX7_likelihood_36 rfl (lv_at hl 4 rfl) ?_
      exact rl hQ C0 hr hlocks hK hP hS (by rw [← hF]; exact ⟨hf.symm, rfl⟩) dX7_likelihood_37
    | succ zk2 ih5 =>
      intro zi1 zx3 H locs hik hf hP hS ls hl
      rw [LX7_likelihood_5] at hf
      refine lv_iload hx hb dX7_likelihood_5 (lv_at hl 0 rfl) ?_
      refine lv_iload_n hx hb dX7_likelihood_7 rfl (lv_at hl 2 rfl) ?_
      refine lv_icmp_ge (tgt := 36) hx hb dX7_likelihood_8 (by decide) (fun zc5 => absurd zc5 (up_sge1 hik)) (fun zc5 => ?_)
      refine lv_lload_n hx hb dX7_likelihood_11 rfl (lv_at hl 4 rfl) ?_
      refine lv_iload hx hb dX7_likelihood_12 (lv_at hl 0 rfl) ?_
      refine lv_iload_n hx hb dX7_likelihood_14 rfl (lv_at hl 3 rfl) ?_
      refine lv_icmp_ge (tgt := 23) hx hb dX7_likelihood_15 (by decide) (fun zc6 => ?_) (fun zc6 => ?_)
      · have hf := hf.trans (if_pos zc6)
        refine lv_bipush (v := 100) hx hb dX7_likelihood_23 (by decide) ?_
        refine lv_iload_n hx hb dX7_likelihood_25 rfl (lv_at hl 1 rfl) ?_
        refine lv_isub hx hb dX7_likelihood_26 ?_
        refine lv_i2l (v := (Int32.toInt64 (100 - p1))) hx hb dX7_likelihood_27 rfl ?_
        refine lv_lmul hx hb dX7_likelihood_28 ?_
        refine lv_lstore_n (lv' := [(3, .long (zx3 * (Int32.toInt64 (100 - p1)))), (5, .int (nI zi1)), (0, .int p1), (1, .int p2), (2, .int p3)]) hx hb dX7_likelihood_29 rfl hl (by decide) rfl (fun ls hl => ?_)
        refine lv_iinc (v := (nI (zi1 + 1))) (lv' := [(5, .int (nI (zi1 + 1))), (3, .long (zx3 * (Int32.toInt64 (100 - p1)))), (0, .int p1), (1, .int p2), (2, .int p3)]) hx hb dX7_likelihood_30 hl (k := 1) rfl (nI_1 _) (by decide) rfl (fun ls hl => ?_)
        refine lv_goto (tgt := 5) hx hb dX7_likelihood_33 (by decide) ?_
        exact ih5 (zi1 + 1) (zx3 * (Int32.toInt64 (100 - p1))) _ _ (by omega) hf hP hS ls (lv_sub hl [0, 2, 3, 4, 1] rfl)
      · have hf := hf.trans (if_neg zc6)
        refine lv_iload_n hx hb dX7_likelihood_18 rfl (lv_at hl 1 rfl) ?_
        refine lv_i2l (v := (Int32.toInt64 p1)) hx hb dX7_likelihood_19 rfl ?_
        refine lv_goto (tgt := 28) hx hb dX7_likelihood_20 (by decide) ?_
        refine lv_lmul hx hb dX7_likelihood_28 ?_
        refine lv_lstore_n (lv' := [(3, .long (zx3 * (Int32.toInt64 p1))), (5, .int (nI zi1)), (0, .int p1), (1, .int p2), (2, .int p3)]) hx hb dX7_likelihood_29 rfl hl (by decide) rfl (fun ls hl => ?_)
        refine lv_iinc (v := (nI (zi1 + 1))) (lv' := [(5, .int (nI (zi1 + 1))), (3, .long (zx3 * (Int32.toInt64 p1))), (0, .int p1), (1, .int p2), (2, .int p3)]) hx hb dX7_likelihood_30 hl (k := 1) rfl (nI_1 _) (by decide) rfl (fun ls hl => ?_)
        refine lv_goto (tgt := 5) hx hb dX7_likelihood_33 (by decide) ?_
        exact ih5 (zi1 + 1) (zx3 * (Int32.toInt64 p1)) _ _ (by omega) hf hP hS ls (lv_sub hl [0, 2, 3, 4, 1] rfl)
  exact lp5 (Int32.toNatClampNeg p2) 0 1 _ _ (Nat.zero_add _) hf hP hS ls (lv_sub hl [0, 2, 3, 4, 1] rfl)
def LX7_turned_6 (S : St) (p1 : Int32) : Nat → Nat → Int32 → Int32 → Int32
  | 0, zi1, zx3, zx4 => zx4
  | zk2 + 1, zi1, zx3, zx4 => (LX7_turned_6 S p1 zk2 (zi1 + 1) (zx3 / 10) ((zx4 * 10) + (irm zx3 10)))
def tX7_turned (S : St) (p1 : Int32) : Int32 :=
  (LX7_turned_6 S p1 6 0 p1 0)
set_option maxHeartbeats 4000000 in
set_option maxRecDepth 100000 in
theorem kX7_turned (l : Launch) (g : Gd) (A : Nat → Prop) (hA : Ads g.1 VX A) (S : St) (p1 : Int32) : Met l yX7_turned (wU yX7_turned cX7_turned 4 (some .int)) { frames := 0, cells := 0, slots := 0, locals := 0 } (va_Pc [.int p1] (PW VX ctX g S)) (va_Qi (fun r u => r = tX7_turned S p1 ∧ u = S) (fun u U => PW VX ctX g u U) A) 0 0 A := by
  refine ent (cc := cX7_turned) (maxL := 4) (ret := (some .int)) (by decide) (Nat.le_of_ble_eq_true rfl) ?_
  intro p e s m below meth c args Q C0 hr hlocks hP hK hQ ls hl
  have hx := C0.1
  have hb := C0.2.1
  have hml := C0.2.2.1
  have hown := C0.2.2.2.1
  have hts := C0.2.2.2.2
  obtain ⟨F, hF⟩ : ∃ F : Int32, F = tX7_turned S p1 := ⟨_, rfl⟩
  have hf := hF
  unfold tX7_turned at hf
  have hS : va_S A s.heap s.heap [] := va_S.rf
  have hl : lv_has ls 4 [(0, .int p1)] := hl
  refine lv_iconst (v := 0) hx hb dX7_turned_0 (by decide) ?_
  refine lv_istore_n (lv' := [(1, .int 0), (0, .int p1)]) hx hb dX7_turned_1 rfl hl (by decide) rfl (fun ls hl => ?_)
  refine lv_iload_n hx hb dX7_turned_2 rfl (lv_at hl 1 rfl) ?_
  refine lv_istore_n (lv' := [(2, .int p1), (1, .int 0), (0, .int p1)]) hx hb dX7_turned_3 rfl hl (by decide) rfl (fun ls hl => ?_)
  refine lv_iconst (v := 0) hx hb dX7_turned_4 (by decide) ?_
  refine lv_istore_n (lv' := [(3, .int 0), (2, .int p1), (1, .int 0), (0, .int p1)]) hx hb dX7_turned_5 rfl hl (by decide) rfl (fun ls hl => ?_)
  have lp6 : ∀ (zk2 zi1 : Nat) (zx3 : Int32) (zx4 : Int32) (H : Heap) (locs : List Loc), (zi1 + zk2 = 6) → (F = LX7_turned_6 S p1 zk2 zi1 zx3 zx4) → HW VX ctX g S H → va_S A s.heap H locs → ∀ ls : Array Slot, lv_has ls 4 [(3, .int (nI zi1)), (0, .int p1), (2, .int zx3), (1, .int zx4)] → W p l e { frames := 0, cells := 0, slots := 0, locals := 0 } s m args below meth c H locs 0 0 Q (F0 m 6 ls []) := by
    intro zk2
    induction zk2 with
    | zero =>
      intro zi1 zx3 zx4 H locs hik hf hP hS ls hl
      rw [LX7_turned_6] at hf
      refine lv_iload_n hx hb dX7_turned_6 rfl (lv_at hl 0 rfl) ?_
      refine lv_bipush (v := 6) hx hb dX7_turned_7 (by decide) ?_
      refine lv_icmp_ge (tgt := 33) hx hb dX7_turned_9 (by decide) (fun zc5 => ?_) (fun zc5 => absurd (up_ge0 rfl hik (by decide)) zc5)
      refine lv_iload_n hx hb dX7_turned_33 rfl (lv_at hl 3 rfl) ?_
      exact ri hQ C0 hr hlocks hK hP hS (by rw [← hF]; exact ⟨hf.symm, rfl⟩) dX7_turned_34
    | succ zk2 ih6 =>
      intro zi1 zx3 zx4 H locs hik hf hP hS ls hl
      rw [LX7_turned_6] at hf
      refine lv_iload_n hx hb dX7_turned_6 rfl (lv_at hl 0 rfl) ?_
      refine lv_bipush (v := 6) hx hb dX7_turned_7 (by decide) ?_
      refine lv_icmp_ge (tgt := 33) hx hb dX7_turned_9 (by decide) (fun zc6 => absurd zc6 (up_ge1 rfl hik (by decide))) (fun zc6 => ?_)
      refine lv_iload_n hx hb dX7_turned_12 rfl (lv_at hl 3 rfl) ?_
      refine lv_bipush (v := 10) hx hb dX7_turned_13 (by decide) ?_
      refine lv_imul hx hb dX7_turned_15 ?_
      refine lv_iload_n hx hb dX7_turned_16 rfl (lv_at hl 2 rfl) ?_
      refine lv_bipush (v := 10) hx hb dX7_turned_17 (by decide) ?_
      refine kirem hx hb dX7_turned_19 (by decide) ?_
      refine lv_iadd hx hb dX7_turned_20 ?_
      refine lv_istore_n (lv' := [(1, .int ((zx4 * 10) + (irm zx3 10))), (3, .int (nI zi1)), (0, .int p1), (2, .int zx3)]) hx hb dX7_turned_21 rfl hl (by decide) rfl (fun ls hl => ?_)
      refine lv_iload_n hx hb dX7_turned_22 rfl (lv_at hl 3 rfl) ?_
      refine lv_bipush (v := 10) hx hb dX7_turned_23 (by decide) ?_
      refine lv_idiv hx hb dX7_turned_25 (by decide) ?_
      refine lv_istore_n (lv' := [(2, .int (zx3 / 10)), (1, .int ((zx4 * 10) + (irm zx3 10))), (3, .int (nI zi1)), (0, .int p1)]) hx hb dX7_turned_26 rfl hl (by decide) rfl (fun ls hl => ?_)
      refine lv_iinc (v := (nI (zi1 + 1))) (lv' := [(3, .int (nI (zi1 + 1))), (2, .int (zx3 / 10)), (1, .int ((zx4 * 10) + (irm zx3 10))), (0, .int p1)]) hx hb dX7_turned_27 hl (k := 2) rfl (nI_1 _) (by decide) rfl (fun ls hl => ?_)
      refine lv_goto (tgt := 6) hx hb dX7_turned_30 (by decide) ?_
      exact ih6 (zi1 + 1) (zx3 / 10) ((zx4 * 10) + (irm zx3 10)) _ _ (by omega) hf hP hS ls (lv_sub hl [0, 3, 1, 2] rfl)
  exact lp6 6 0 p1 0 _ _ (by decide) hf hP hS ls (lv_sub hl [0, 3, 1, 2] rfl)
def LX7_digitsAdded_7 (S : St) (p1 : Int32) (p2 : Int32) : Nat → Nat → Int32 → Int32 → Int32
  | 0, zi1, zx3, zx4 => zx4
  | zk2 + 1, zi1, zx3, zx4 => (if ((ishrF p2 (nI zi1)) &&& 1) = 1 then (LX7_digitsAdded_7 S p1 p2 zk2 (zi1 + 1) (zx3 / 10) (zx4 + (irm zx3 10))) else (LX7_digitsAdded_7 S p1 p2 zk2 (zi1 + 1) (zx3 / 10) zx4))
def tX7_digitsAdded (S : St) (p1 : Int32) (p2 : Int32) : Int32 :=
  (LX7_digitsAdded_7 S p1 p2 6 0 p1 0)
set_option maxHeartbeats 4000000 in
set_option maxRecDepth 100000 in
theorem kX7_digitsAdded (l : Launch) (g : Gd) (A : Nat → Prop) (hA : Ads g.1 VX A) (S : St) (p1 : Int32) (p2 : Int32) : Met l yX7_digitsAdded (wU yX7_digitsAdded cX7_digitsAdded 5 (some .int)) { frames := 0, cells := 0, slots := 0, locals := 0 } (va_Pc [.int p1, .int p2] (PW VX ctX g S)) (va_Qi (fun r u => r = tX7_digitsAdded S p1 p2 ∧ u = S) (fun u U => PW VX ctX g u U) A) 0 0 A := by
  refine ent (cc := cX7_digitsAdded) (maxL := 5) (ret := (some .int)) (by decide) (Nat.le_of_ble_eq_true rfl) ?_
  intro p e s m below meth c args Q C0 hr hlocks hP hK hQ ls hl
  have hx := C0.1
  have hb := C0.2.1
  have hml := C0.2.2.1
  have hown := C0.2.2.2.1
  have hts := C0.2.2.2.2
  obtain ⟨F, hF⟩ : ∃ F : Int32, F = tX7_digitsAdded S p1 p2 := ⟨_, rfl⟩
  have hf := hF
  unfold tX7_digitsAdded at hf
  have hS : va_S A s.heap s.heap [] := va_S.rf
  have hl : lv_has ls 5 [(0, .int p1), (1, .int p2)] := hl
  refine lv_iconst (v := 0) hx hb dX7_digitsAdded_0 (by decide) ?_
  refine lv_istore_n (lv' := [(2, .int 0), (0, .int p1), (1, .int p2)]) hx hb dX7_digitsAdded_1 rfl hl (by decide) rfl (fun ls hl => ?_)
  refine lv_iload_n hx hb dX7_digitsAdded_2 rfl (lv_at hl 1 rfl) ?_
  refine lv_istore_n (lv' := [(3, .int p1), (2, .int 0), (0, .int p1), (1, .int p2)]) hx hb dX7_digitsAdded_3 rfl hl (by decide) rfl (fun ls hl => ?_)
  refine lv_iconst (v := 0) hx hb dX7_digitsAdded_4 (by decide) ?_
  refine lv_istore (lv' := [(4, .int 0), (3, .int p1), (2, .int 0), (0, .int p1), (1, .int p2)]) hx hb dX7_digitsAdded_5 hl (by decide) rfl (fun ls hl => ?_)
  have lp7 : ∀ (zk2 zi1 : Nat) (zx3 : Int32) (zx4 : Int32) (H : Heap) (locs : List Loc), (zi1 + zk2 = 6) → (F = LX7_digitsAdded_7 S p1 p2 zk2 zi1 zx3 zx4) → HW VX ctX g S H → va_S A s.heap H locs → ∀ ls : Array Slot, lv_has ls 5 [(4, .int (nI zi1)), (0, .int p1), (1, .int p2), (3, .int zx3), (2, .int zx4)] → W p l e { frames := 0, cells := 0, slots := 0, locals := 0 } s m args below meth c H locs 0 0 Q (F0 m 7 ls []) := by
    intro zk2
    induction zk2 with
    | zero =>
      intro zi1 zx3 zx4 H locs hik hf hP hS ls hl
      rw [LX7_digitsAdded_7] at hf
      refine lv_iload hx hb dX7_digitsAdded_7 (lv_at hl 0 rfl) ?_
      refine lv_bipush (v := 6) hx hb dX7_digitsAdded_9 (by decide) ?_
      refine lv_icmp_ge (tgt := 42) hx hb dX7_digitsAdded_11 (by decide) (fun zc5 => ?_) (fun zc5 => absurd (up_ge0 rfl hik (by decide)) zc5)
      refine lv_iload_n hx hb dX7_digitsAdded_42 rfl (lv_at hl 4 rfl) ?_
      exact ri hQ C0 hr hlocks hK hP hS (by rw [← hF]; exact ⟨hf.symm, rfl⟩) dX7_digitsAdded_43
    | succ zk2 ih7 =>
      intro zi1 zx3 zx4 H locs hik hf hP hS ls hl
      rw [LX7_digitsAdded_7] at hf
      refine lv_iload hx hb dX7_digitsAdded_7 (lv_at hl 0 rfl) ?_
      refine lv_bipush (v := 6) hx hb dX7_digitsAdded_9 (by decide) ?_
      refine lv_icmp_ge (tgt := 42) hx hb dX7_digitsAdded_11 (by decide) (fun zc6 => absurd zc6 (up_ge1 rfl hik (by decide))) (fun zc6 => ?_)
      refine lv_iload_n hx hb dX7_digitsAdded_14 rfl (lv_at hl 2 rfl) ?_
      refine lv_iload hx hb dX7_digitsAdded_15 (lv_at hl 0 rfl) ?_
      refine kishr hx hb dX7_digitsAdded_17 ?_
      refine lv_iconst (v := 1) hx hb dX7_digitsAdded_18 (by decide) ?_
      refine lv_iand hx hb dX7_digitsAdded_19 ?_
      refine lv_iconst (v := 1) hx hb dX7_digitsAdded_20 (by decide) ?_
      refine lv_icmp_ne (tgt := 31) hx hb dX7_digitsAdded_21 (by decide) (fun zc7 => ?_) (fun zc7 => ?_)
      · have hf := hf.trans (if_neg zc7)
        refine lv_iload_n hx hb dX7_digitsAdded_31 rfl (lv_at hl 3 rfl) ?_
        refine lv_bipush (v := 10) hx hb dX7_digitsAdded_32 (by decide) ?_
        refine lv_idiv hx hb dX7_digitsAdded_34 (by decide) ?_
        refine lv_istore_n (lv' := [(3, .int (zx3 / 10)), (4, .int (nI zi1)), (0, .int p1), (1, .int p2), (2, .int zx4)]) hx hb dX7_digitsAdded_35 rfl hl (by decide) rfl (fun ls hl => ?_)
        refine lv_iinc (v := (nI (zi1 + 1))) (lv' := [(4, .int (nI (zi1 + 1))), (3, .int (zx3 / 10)), (0, .int p1), (1, .int p2), (2, .int zx4)]) hx hb dX7_digitsAdded_36 hl (k := 1) rfl (nI_1 _) (by decide) rfl (fun ls hl => ?_)
        refine lv_goto (tgt := 7) hx hb dX7_digitsAdded_39 (by decide) ?_
        exact ih7 (zi1 + 1) (zx3 / 10) zx4 _ _ (by omega) hf hP hS ls (lv_sub hl [0, 2, 3, 1, 4] rfl)
      · have hf := hf.trans (if_pos zc7)
        refine lv_iload_n hx hb dX7_digitsAdded_24 rfl (lv_at hl 4 rfl) ?_
        refine lv_iload_n hx hb dX7_digitsAdded_25 rfl (lv_at hl 3 rfl) ?_
        refine lv_bipush (v := 10) hx hb dX7_digitsAdded_26 (by decide) ?_
        refine kirem hx hb dX7_digitsAdded_28 (by decide) ?_
        refine lv_iadd hx hb dX7_digitsAdded_29 ?_
        refine lv_istore_n (lv' := [(2, .int (zx4 + (irm zx3 10))), (4, .int (nI zi1)), (0, .int p1), (1, .int p2), (3, .int zx3)]) hx hb dX7_digitsAdded_30 rfl hl (by decide) rfl (fun ls hl => ?_)
        refine lv_iload_n hx hb dX7_digitsAdded_31 rfl (lv_at hl 4 rfl) ?_
        refine lv_bipush (v := 10) hx hb dX7_digitsAdded_32 (by decide) ?_
        refine lv_idiv hx hb dX7_digitsAdded_34 (by decide) ?_
        refine lv_istore_n (lv' := [(3, .int (zx3 / 10)), (2, .int (zx4 + (irm zx3 10))), (4, .int (nI zi1)), (0, .int p1), (1, .int p2)]) hx hb dX7_digitsAdded_35 rfl hl (by decide) rfl (fun ls hl => ?_)
        refine lv_iinc (v := (nI (zi1 + 1))) (lv' := [(4, .int (nI (zi1 + 1))), (3, .int (zx3 / 10)), (2, .int (zx4 + (irm zx3 10))), (0, .int p1), (1, .int p2)]) hx hb dX7_digitsAdded_36 hl (k := 2) rfl (nI_1 _) (by decide) rfl (fun ls hl => ?_)
        refine lv_goto (tgt := 7) hx hb dX7_digitsAdded_39 (by decide) ?_
        exact ih7 (zi1 + 1) (zx3 / 10) (zx4 + (irm zx3 10)) _ _ (by omega) hf hP hS ls (lv_sub hl [0, 3, 4, 1, 2] rfl)
  exact lp7 6 0 p1 0 _ _ (by decide) hf hP hS ls (lv_sub hl [0, 3, 4, 1, 2] rfl)
def tX7_tryVoyages (S : St) : Int32 × St :=
  (if (tX3_faultPlace S) = (-6) then (bnd (tX2_copyFrom S 1 0) (fun zS2 => (bnd (tX6_run zS2 1) (fun zS3 => (if (zS3.1 5 0 1) = (-6) then (0, zS3) else ((-3), zS3)))))) else ((-5), S))
set_option maxHeartbeats 4000000 in
set_option maxRecDepth 100000 in
theorem kX7_tryVoyages (l : Launch) (g : Gd) (A : Nat → Prop) (hA : Ads g.1 VX A) (S : St)  : Met l yX7_tryVoyages (wU yX7_tryVoyages cX7_tryVoyages 1 (some .int)) { frames := 5, cells := 0, slots := 0, locals := 117 } (va_Pc [.ref (g.1 12 0)] (PW VX ctX g S)) (va_Qi (fun r u => r = (tX7_tryVoyages S).1 ∧ u = (tX7_tryVoyages S).2) (fun u U => PW VX ctX g u U) A) 0 0 A := by
  refine ent (cc := cX7_tryVoyages) (maxL := 1) (ret := (some .int)) (by decide) (Nat.le_of_ble_eq_true rfl) ?_
  intro p e s m below meth c args Q C0 hr hlocks hP hK hQ ls hl
  have hx := C0.1
  have hb := C0.2.1
  have hml := C0.2.2.1
  have hown := C0.2.2.2.1
  have hts := C0.2.2.2.2
  obtain ⟨F, hF⟩ : ∃ F : Int32 × St, F = tX7_tryVoyages S := ⟨_, rfl⟩
  have hf := hF
  unfold tX7_tryVoyages at hf
  have hS : va_S A s.heap s.heap [] := va_S.rf
  have hl : lv_has ls 1 [(0, .ref (g.1 12 0))] := hl
  refine lv_aload_n hx hb dX7_tryVoyages_0 rfl (lv_at hl 0 rfl) ?_
  refine gO (T := TX7) C0 inA7 hK hP (xMain g) rfl 2 (by decide) (hts _ q265) (v := .ref (g.1 4 0)) rfl dX7_tryVoyages_1 ?_
  refine kiP (va_runV (As := []) (rest := []) C0 (kX3_faultPlace l g A hA S ) (cwV 0 hts (gV q364 q365 q366 q49 q367) rfl rfl rfl (by decide +kernel) ⟨Nat.le_of_ble_eq_true rfl, Nat.le_of_ble_eq_true rfl⟩) (preV (recO (xPad g) hP hK rfl) hP hK) rfl rfl hl.1 rfl (lv_room (Nat.le_of_ble_eq_true rfl)) dX7_tryVoyages_4 ⟨Nat.zero_le _, Nat.zero_le _⟩) hS (fun _ h => h) (fun H locs hP hS => ?_)
  refine lv_bipush (v := (-6)) hx hb dX7_tryVoyages_7 (by decide) ?_
  refine lv_icmp_eq (tgt := 15) hx hb dX7_tryVoyages_9 (by decide) (fun zc1 => ?_) (fun zc1 => ?_)
  · have hf := hf.trans (if_pos zc1)
    refine lv_aload_n hx hb dX7_tryVoyages_15 rfl (lv_at hl 0 rfl) ?_
    refine gO (T := TX7) C0 inA7 hK hP (xMain g) rfl 1 (by decide) (hts _ q264) (v := .ref (g.1 1 6)) rfl dX7_tryVoyages_16 ?_
    refine lv_aload_n hx hb dX7_tryVoyages_19 rfl (lv_at hl 0 rfl) ?_
    refine gO (T := TX7) C0 inA7 hK hP (xMain g) rfl 0 (by decide) (hts _ q263) (v := .ref (g.1 0 6)) rfl dX7_tryVoyages_20 ?_
    refine kv (va_runV (As := [.ref (g.1 0 6)]) (rest := []) C0 (kX2_copyFrom l g A hA S 1 0 (by decide) (by decide)) (cwV 1 hts (gV q390 q391 q392 q47 q393) rfl rfl rfl (by decide +kernel) ⟨Nat.le_of_ble_eq_true rfl, Nat.le_of_ble_eq_true rfl⟩) (preV (recO (xOwner g (by decide)) hP hK rfl) hP hK) rfl rfl hl.1 rfl (lv_room (Nat.le_of_ble_eq_true rfl)) dX7_tryVoyages_23 ⟨Nat.zero_le _, Nat.zero_le _⟩) hS (fun _ h => h) (fun zS2 H locs hw hP hS => ?_)
    have hf := hf.trans (bnd_eq hw)
    refine lv_aload_n hx hb dX7_tryVoyages_26 rfl (lv_at hl 0 rfl) ?_
    refine gO (T := TX7) C0 inA7 hK hP (xMain g) rfl 3 (by decide) (hts _ q266) (v := .ref (g.1 5 0)) rfl dX7_tryVoyages_27 ?_
    refine lv_aload_n hx hb dX7_tryVoyages_30 rfl (lv_at hl 0 rfl) ?_
    refine gO (T := TX7) C0 inA7 hK hP (xMain g) rfl 2 (by decide) (hts _ q265) (v := .ref (g.1 4 0)) rfl dX7_tryVoyages_31 ?_
    refine lv_aload_n hx hb dX7_tryVoyages_34 rfl (lv_at hl 0 rfl) ?_
    refine gO (T := TX7) C0 inA7 hK hP (xMain g) rfl 1 (by decide) (hts _ q264) (v := .ref (g.1 1 6)) rfl dX7_tryVoyages_35 ?_
    refine kv (va_runV (As := [.ref (g.1 4 0), .ref (g.1 1 6)]) (rest := []) C0 (kX6_run l g A hA zS2 1 (by decide)) (cwV 2 hts (gV q399 q400 q401 q50 q402) rfl rfl rfl (by decide +kernel) ⟨Nat.le_of_ble_eq_true rfl, Nat.le_of_ble_eq_true rfl⟩) (preV (recO (xVoy g) hP hK rfl) hP hK) rfl rfl hl.1 rfl (lv_room (Nat.le_of_ble_eq_true rfl)) dX7_tryVoyages_38 ⟨Nat.zero_le _, Nat.zero_le _⟩) hS (fun _ h => h) (fun zS3 H locs hw hP hS => ?_)
    have hf := hf.trans (bnd_eq hw)
    refine lv_aload_n hx hb dX7_tryVoyages_41 rfl (lv_at hl 0 rfl) ?_
    refine gO (T := TX7) C0 inA7 hK hP (xMain g) rfl 3 (by decide) (hts _ q266) (v := .ref (g.1 5 0)) rfl dX7_tryVoyages_42 ?_
    refine gO (T := TX6) C0 inA6 hK hP (xVoy g) rfl 1 (by decide) (hts _ q165) (v := .int (zS3.1 5 0 1)) rfl dX7_tryVoyages_45 ?_
    refine lv_bipush (v := (-6)) hx hb dX7_tryVoyages_48 (by decide) ?_
    refine lv_icmp_ne (tgt := 57) hx hb dX7_tryVoyages_50 (by decide) (fun zc4 => ?_) (fun zc4 => ?_)
    · have hf := hf.trans (if_neg zc4)
      refine lv_bipush (v := (-3)) hx hb dX7_tryVoyages_57 (by decide) ?_
      exact ri hQ C0 hr hlocks hK hP hS (by rw [← hF]; exact fin2 hf) dX7_tryVoyages_59
    · have hf := hf.trans (if_pos zc4)
      refine lv_iconst (v := 0) hx hb dX7_tryVoyages_53 (by decide) ?_
      refine lv_goto (tgt := 59) hx hb dX7_tryVoyages_54 (by decide) ?_
      exact ri hQ C0 hr hlocks hK hP hS (by rw [← hF]; exact fin2 hf) dX7_tryVoyages_59
  · have hf := hf.trans (if_neg zc1)
    refine lv_bipush (v := (-5)) hx hb dX7_tryVoyages_12 (by decide) ?_
    exact ri hQ C0 hr hlocks hK hP hS (by rw [← hF]; exact fin2 hf) dX7_tryVoyages_14
def tX7_ship (S : St) (p1 : Int32) (p2 : Int32) (p3 : Int32) (p4 : Int32) : Int32 × St :=
  (if plc p1 then (if wi p2 0 40 then (if wi p3 0 99 then (if wi p4 1 20 then (bnd (tX4_launch S 0 (Int32.toNatClampNeg p1) p2 p3 p4) (fun zS8 => ((tX2_countThere zS8 0), zS8))) else ((-2), S)) else ((-2), S)) else ((-2), S)) else ((-1), S))
set_option maxHeartbeats 4000000 in
set_option maxRecDepth 100000 in
theorem kX7_ship (l : Launch) (g : Gd) (A : Nat → Prop) (hA : Ads g.1 VX A) (S : St) (p1 : Int32) (p2 : Int32) (p3 : Int32) (p4 : Int32) : Met l yX7_ship (wU yX7_ship cX7_ship 6 (some .int)) { frames := 4, cells := 0, slots := 0, locals := 85 } (va_Pc [.ref (g.1 12 0), .int p1, .int p2, .int p3, .int p4] (PW VX ctX g S)) (va_Qi (fun r u => r = (tX7_ship S p1 p2 p3 p4).1 ∧ u = (tX7_ship S p1 p2 p3 p4).2) (fun u U => PW VX ctX g u U) A) 0 0 A := by
  refine ent (cc := cX7_ship) (maxL := 6) (ret := (some .int)) (by decide) (Nat.le_of_ble_eq_true rfl) ?_
  intro p e s m below meth c args Q C0 hr hlocks hP hK hQ ls hl
  have hx := C0.1
  have hb := C0.2.1
  have hml := C0.2.2.1
  have hown := C0.2.2.2.1
  have hts := C0.2.2.2.2
  obtain ⟨F, hF⟩ : ∃ F : Int32 × St, F = tX7_ship S p1 p2 p3 p4 := ⟨_, rfl⟩
  have hf := hF
  unfold tX7_ship at hf
  have hS : va_S A s.heap s.heap [] := va_S.rf
  have hl : lv_has ls 6 [(0, .ref (g.1 12 0)), (1, .int p1), (2, .int p2), (3, .int p3), (4, .int p4)] := hl
  refine lv_aload_n hx hb dX7_ship_0 rfl (lv_at hl 0 rfl) ?_
  refine gO (T := TX7) C0 inA7 hK hP (xMain g) rfl 0 (by decide) (hts _ q263) (v := .ref (g.1 0 6)) rfl dX7_ship_1 ?_
  refine lv_iload_n hx hb dX7_ship_4 rfl (lv_at hl 1 rfl) ?_
  refine kqc (va_runV (As := [.int p1]) (rest := []) C0 (kX2_placeAt l g A hA S 0 p1 (by decide)) (cwV 1 hts (gV q293 q294 q295 q47 q296) rfl rfl rfl (by decide +kernel) ⟨Nat.le_of_ble_eq_true rfl, Nat.le_of_ble_eq_true rfl⟩) (preV (recO (xOwner g (by decide)) hP hK rfl) hP hK) rfl rfl hl.1 rfl (lv_room (Nat.le_of_ble_eq_true rfl)) dX7_ship_5 ⟨Nat.zero_le _, Nat.zero_le _⟩) hS (fun _ h => h) (fun zc1 H locs hP hS => ?_) (fun zc1 H locs hP hS => ?_)
  · have hf := hf.trans (if_pos zc1)
    refine lv_astore (lv' := [(5, .ref (g.1 0 (Int32.toNatClampNeg p1))), (0, .ref (g.1 12 0)), (1, .int p1), (2, .int p2), (3, .int p3), (4, .int p4)]) hx hb dX7_ship_8 hl (by decide) rfl (fun ls hl => ?_)
    refine lv_aload hx hb dX7_ship_10 (lv_at hl 0 rfl) ?_
    refine lv_ifnonnull (tgt := 17) hx hb dX7_ship_12 (by decide) ?_
    refine lv_iload_n hx hb dX7_ship_17 rfl (lv_at hl 3 rfl) ?_
    refine lv_iconst (v := 0) hx hb dX7_ship_18 (by decide) ?_
    refine lv_bipush (v := 40) hx hb dX7_ship_19 (by decide) ?_
    refine kzc (va_runS (As := [.int p2, .int 0, .int 40]) (rest := []) C0 (kX7_within l g A hA S p2 0 40) (va_cwS 3 hts (gS q297 q298 q46 q299) rfl rfl rfl (by decide +kernel) ⟨Nat.le_of_ble_eq_true rfl, Nat.le_of_ble_eq_true rfl⟩) (preS hP hK) rfl rfl hl.1 rfl (lv_room (Nat.le_of_ble_eq_true rfl)) dX7_ship_21 ⟨Nat.zero_le _, Nat.zero_le _⟩) hS (fun _ h => h) (fun zc2 H locs hP hS => ?_) (fun zc2 H locs hP hS => ?_)
    · have hf := hf.trans (if_pos zc2)
      refine lv_if_eq (tgt := 48) hx hb dX7_ship_24 (by decide) (fun zc3 => absurd zc3 (by decide)) (fun zc3 => ?_)
      refine lv_iload_n hx hb dX7_ship_27 rfl (lv_at hl 4 rfl) ?_
      refine lv_iconst (v := 0) hx hb dX7_ship_28 (by decide) ?_
      refine lv_bipush (v := 99) hx hb dX7_ship_29 (by decide) ?_
      refine kzc (va_runS (As := [.int p3, .int 0, .int 99]) (rest := []) C0 (kX7_within l g A hA S p3 0 99) (va_cwS 3 hts (gS q297 q298 q46 q299) rfl rfl rfl (by decide +kernel) ⟨Nat.le_of_ble_eq_true rfl, Nat.le_of_ble_eq_true rfl⟩) (preS hP hK) rfl rfl hl.1 rfl (lv_room (Nat.le_of_ble_eq_true rfl)) dX7_ship_31 ⟨Nat.zero_le _, Nat.zero_le _⟩) hS (fun _ h => h) (fun zc4 H locs hP hS => ?_) (fun zc4 H locs hP hS => ?_)
      · have hf := hf.trans (if_pos zc4)
        refine lv_if_eq (tgt := 48) hx hb dX7_ship_34 (by decide) (fun zc5 => absurd zc5 (by decide)) (fun zc5 => ?_)
        refine lv_iload hx hb dX7_ship_37 (lv_at hl 5 rfl) ?_
        refine lv_iconst (v := 1) hx hb dX7_ship_39 (by decide) ?_
        refine lv_bipush (v := 20) hx hb dX7_ship_40 (by decide) ?_
        refine kzc (va_runS (As := [.int p4, .int 1, .int 20]) (rest := []) C0 (kX7_within l g A hA S p4 1 20) (va_cwS 3 hts (gS q297 q298 q46 q299) rfl rfl rfl (by decide +kernel) ⟨Nat.le_of_ble_eq_true rfl, Nat.le_of_ble_eq_true rfl⟩) (preS hP hK) rfl rfl hl.1 rfl (lv_room (Nat.le_of_ble_eq_true rfl)) dX7_ship_42 ⟨Nat.zero_le _, Nat.zero_le _⟩) hS (fun _ h => h) (fun zc6 H locs hP hS => ?_) (fun zc6 H locs hP hS => ?_)
        · have hf := hf.trans (if_pos zc6)
          refine lv_if_ne (tgt := 51) hx hb dX7_ship_45 (by decide) (fun zc7 => ?_) (fun zc7 => absurd zc7 (by decide))
          refine lv_aload hx hb dX7_ship_51 (lv_at hl 0 rfl) ?_
          refine lv_iload_n hx hb dX7_ship_53 rfl (lv_at hl 3 rfl) ?_
          refine lv_iload_n hx hb dX7_ship_54 rfl (lv_at hl 4 rfl) ?_
          refine lv_iload hx hb dX7_ship_55 (lv_at hl 5 rfl) ?_
          refine kv (va_runV (As := [.int p2, .int p3, .int p4]) (rest := []) C0 (kX4_launch l g A hA S 0 (Int32.toNatClampNeg p1) p2 p3 p4 (by decide) (plc_lt zc1)) (cwV 3 hts (gV q300 q301 q302 q48 q303) rfl rfl rfl (by decide +kernel) ⟨Nat.le_of_ble_eq_true rfl, Nat.le_of_ble_eq_true rfl⟩) (preV (recO (xShip g (by decide) (plc_lt zc1)) hP hK rfl) hP hK) rfl rfl hl.1 rfl (lv_room (Nat.le_of_ble_eq_true rfl)) dX7_ship_57 ⟨Nat.zero_le _, Nat.zero_le _⟩) hS (fun _ h => h) (fun zS8 H locs hw hP hS => ?_)
          have hf := hf.trans (bnd_eq hw)
          refine lv_aload_n hx hb dX7_ship_60 rfl (lv_at hl 1 rfl) ?_
          refine gO (T := TX7) C0 inA7 hK hP (xMain g) rfl 0 (by decide) (hts _ q263) (v := .ref (g.1 0 6)) rfl dX7_ship_61 ?_
          refine kiP (va_runV (As := []) (rest := []) C0 (kX2_countThere l g A hA zS8 0 (by decide)) (cwV 0 hts (gV q304 q305 q306 q47 q307) rfl rfl rfl (by decide +kernel) ⟨Nat.le_of_ble_eq_true rfl, Nat.le_of_ble_eq_true rfl⟩) (preV (recO (xOwner g (by decide)) hP hK rfl) hP hK) rfl rfl hl.1 rfl (lv_room (Nat.le_of_ble_eq_true rfl)) dX7_ship_64 ⟨Nat.zero_le _, Nat.zero_le _⟩) hS (fun _ h => h) (fun H locs hP hS => ?_)
          exact ri hQ C0 hr hlocks hK hP hS (by rw [← hF]; exact fin2 hf) dX7_ship_67
        · have hf := hf.trans (if_neg zc6)
          refine lv_if_ne (tgt := 51) hx hb dX7_ship_45 (by decide) (fun zc9 => absurd (by decide) zc9) (fun zc9 => ?_)
          refine lv_bipush (v := (-2)) hx hb dX7_ship_48 (by decide) ?_
          exact ri hQ C0 hr hlocks hK hP hS (by rw [← hF]; exact fin2 hf) dX7_ship_50
      · have hf := hf.trans (if_neg zc4)
        refine lv_if_eq (tgt := 48) hx hb dX7_ship_34 (by decide) (fun zc10 => ?_) (fun zc10 => absurd (by decide) zc10)
        refine lv_bipush (v := (-2)) hx hb dX7_ship_48 (by decide) ?_
        exact ri hQ C0 hr hlocks hK hP hS (by rw [← hF]; exact fin2 hf) dX7_ship_50
    · have hf := hf.trans (if_neg zc2)
      refine lv_if_eq (tgt := 48) hx hb dX7_ship_24 (by decide) (fun zc11 => ?_) (fun zc11 => absurd (by decide) zc11)
      refine lv_bipush (v := (-2)) hx hb dX7_ship_48 (by decide) ?_
      exact ri hQ C0 hr hlocks hK hP hS (by rw [← hF]; exact fin2 hf) dX7_ship_50
  · have hf := hf.trans (if_neg zc1)
    refine lv_astoreN (lv' := [(5, .null), (0, .ref (g.1 12 0)), (1, .int p1), (2, .int p2), (3, .int p3), (4, .int p4)]) hx hb dX7_ship_8 hl (by decide) rfl (fun ls hl => ?_)
    refine lv_aloadN hx hb dX7_ship_10 (lv_at hl 0 rfl) ?_
    refine lv_ifnonnullN hx hb dX7_ship_12 ?_
    refine lv_iconst (v := (-1)) hx hb dX7_ship_15 (by decide) ?_
    exact ri hQ C0 hr hlocks hK hP hS (by rw [← hF]; exact fin2 hf) dX7_ship_16
def tX7_sell (S : St) (p1 : Int32) : Int32 × St :=
  (if isAt S 0 p1 then ((tX2_countThere (up S 0 (Int32.toNatClampNeg p1) 0 0) 0), (up S 0 (Int32.toNatClampNeg p1) 0 0)) else ((-1), S))
set_option maxHeartbeats 4000000 in
set_option maxRecDepth 100000 in
theorem kX7_sell (l : Launch) (g : Gd) (A : Nat → Prop) (hA : Ads g.1 VX A) (S : St) (p1 : Int32) : Met l yX7_sell (wU yX7_sell cX7_sell 3 (some .int)) { frames := 4, cells := 0, slots := 0, locals := 85 } (va_Pc [.ref (g.1 12 0), .int p1] (PW VX ctX g S)) (va_Qi (fun r u => r = (tX7_sell S p1).1 ∧ u = (tX7_sell S p1).2) (fun u U => PW VX ctX g u U) A) 0 0 A := by
  refine ent (cc := cX7_sell) (maxL := 3) (ret := (some .int)) (by decide) (Nat.le_of_ble_eq_true rfl) ?_
  intro p e s m below meth c args Q C0 hr hlocks hP hK hQ ls hl
  have hx := C0.1
  have hb := C0.2.1
  have hml := C0.2.2.1
  have hown := C0.2.2.2.1
  have hts := C0.2.2.2.2
  obtain ⟨F, hF⟩ : ∃ F : Int32 × St, F = tX7_sell S p1 := ⟨_, rfl⟩
  have hf := hF
  unfold tX7_sell at hf
  have hS : va_S A s.heap s.heap [] := va_S.rf
  have hl : lv_has ls 3 [(0, .ref (g.1 12 0)), (1, .int p1)] := hl
  refine lv_aload_n hx hb dX7_sell_0 rfl (lv_at hl 0 rfl) ?_
  refine gO (T := TX7) C0 inA7 hK hP (xMain g) rfl 0 (by decide) (hts _ q263) (v := .ref (g.1 0 6)) rfl dX7_sell_1 ?_
  refine lv_iload_n hx hb dX7_sell_4 rfl (lv_at hl 1 rfl) ?_
  refine kqc (va_runV (As := [.int p1]) (rest := []) C0 (kX2_shipAt l g A hA S 0 p1 (by decide)) (cwV 1 hts (gV q327 q313 q314 q47 q315) rfl rfl rfl (by decide +kernel) ⟨Nat.le_of_ble_eq_true rfl, Nat.le_of_ble_eq_true rfl⟩) (preV (recO (xOwner g (by decide)) hP hK rfl) hP hK) rfl rfl hl.1 rfl (lv_room (Nat.le_of_ble_eq_true rfl)) dX7_sell_5 ⟨Nat.zero_le _, Nat.zero_le _⟩) hS (fun _ h => h) (fun zc1 H locs hP hS => ?_) (fun zc1 H locs hP hS => ?_)
  · have hf := hf.trans (if_pos zc1)
    refine lv_astore_n (lv' := [(2, .ref (g.1 0 (Int32.toNatClampNeg p1))), (0, .ref (g.1 12 0)), (1, .int p1)]) hx hb dX7_sell_8 rfl hl (by decide) rfl (fun ls hl => ?_)
    refine lv_aload_n hx hb dX7_sell_9 rfl (lv_at hl 0 rfl) ?_
    refine lv_ifnonnull (tgt := 15) hx hb dX7_sell_10 (by decide) ?_
    refine lv_aload_n hx hb dX7_sell_15 rfl (lv_at hl 0 rfl) ?_
    refine lv_iconst (v := 0) hx hb dX7_sell_16 (by decide) ?_
    refine pO (T := TX4) (ty0 := tyX4) locX C0 inA4 tyX4_ok nmX4 hK hP hA hS (xShip g (by decide) (plc_lt zc1.1)) rfl 0 (by decide) (hts _ q79) rfl 0 0 rfl rfl rfl (Nat.le_of_ble_eq_true rfl) dX7_sell_17 (fun H locs hP hS => ?_)
    refine lv_aload_n hx hb dX7_sell_20 rfl (lv_at hl 1 rfl) ?_
    refine gO (T := TX7) C0 inA7 hK hP (xMain g) rfl 0 (by decide) (hts _ q263) (v := .ref (g.1 0 6)) rfl dX7_sell_21 ?_
    refine kiP (va_runV (As := []) (rest := []) C0 (kX2_countThere l g A hA (up S 0 (Int32.toNatClampNeg p1) 0 0) 0 (by decide)) (cwV 0 hts (gV q304 q305 q306 q47 q307) rfl rfl rfl (by decide +kernel) ⟨Nat.le_of_ble_eq_true rfl, Nat.le_of_ble_eq_true rfl⟩) (preV (recO (xOwner g (by decide)) hP hK rfl) hP hK) rfl rfl hl.1 rfl (lv_room (Nat.le_of_ble_eq_true rfl)) dX7_sell_24 ⟨Nat.zero_le _, Nat.zero_le _⟩) hS (fun _ h => h) (fun H locs hP hS => ?_)
    exact ri hQ C0 hr hlocks hK hP hS (by rw [← hF]; exact fin2 hf) dX7_sell_27
  · have hf := hf.trans (if_neg zc1)
    refine lv_astore_nN (lv' := [(2, .null), (0, .ref (g.1 12 0)), (1, .int p1)]) hx hb dX7_sell_8 rfl hl (by decide) rfl (fun ls hl => ?_)
    refine lv_aload_nN hx hb dX7_sell_9 rfl (lv_at hl 0 rfl) ?_
    refine lv_ifnonnullN hx hb dX7_sell_10 ?_
    refine lv_iconst (v := (-1)) hx hb dX7_sell_13 (by decide) ?_
    exact ri hQ C0 hr hlocks hK hP hS (by rw [← hF]; exact fin2 hf) dX7_sell_14
def tX7_insure (S : St) (p1 : Int32) (p2 : Int32) (p3 : Int32) : Int32 × St :=
  (if isAt S 0 p1 then (if wi p2 0 2 then (if wi p3 0 99 then (bnd (tX4_putSum S 0 (Int32.toNatClampNeg p1) p2 p3) (fun zS6 => ((tX4_sumAt S 0 (Int32.toNatClampNeg p1) p2), zS6))) else ((-2), S)) else ((-2), S)) else ((-1), S))
set_option maxHeartbeats 4000000 in
set_option maxRecDepth 100000 in
theorem kX7_insure (l : Launch) (g : Gd) (A : Nat → Prop) (hA : Ads g.1 VX A) (S : St) (p1 : Int32) (p2 : Int32) (p3 : Int32) : Met l yX7_insure (wU yX7_insure cX7_insure 6 (some .int)) { frames := 2, cells := 0, slots := 0, locals := 43 } (va_Pc [.ref (g.1 12 0), .int p1, .int p2, .int p3] (PW VX ctX g S)) (va_Qi (fun r u => r = (tX7_insure S p1 p2 p3).1 ∧ u = (tX7_insure S p1 p2 p3).2) (fun u U => PW VX ctX g u U) A) 0 0 A := by
  refine ent (cc := cX7_insure) (maxL := 6) (ret := (some .int)) (by decide) (Nat.le_of_ble_eq_true rfl) ?_
  intro p e s m below meth c args Q C0 hr hlocks hP hK hQ ls hl
  have hx := C0.1
  have hb := C0.2.1
  have hml := C0.2.2.1
  have hown := C0.2.2.2.1
  have hts := C0.2.2.2.2
  obtain ⟨F, hF⟩ : ∃ F : Int32 × St, F = tX7_insure S p1 p2 p3 := ⟨_, rfl⟩
  have hf := hF
  unfold tX7_insure at hf
  have hS : va_S A s.heap s.heap [] := va_S.rf
  have hl : lv_has ls 6 [(0, .ref (g.1 12 0)), (1, .int p1), (2, .int p2), (3, .int p3)] := hl
  refine lv_aload_n hx hb dX7_insure_0 rfl (lv_at hl 0 rfl) ?_
  refine gO (T := TX7) C0 inA7 hK hP (xMain g) rfl 0 (by decide) (hts _ q263) (v := .ref (g.1 0 6)) rfl dX7_insure_1 ?_
  refine lv_iload_n hx hb dX7_insure_4 rfl (lv_at hl 1 rfl) ?_
  refine kqc (va_runV (As := [.int p1]) (rest := []) C0 (kX2_shipAt l g A hA S 0 p1 (by decide)) (cwV 1 hts (gV q327 q313 q314 q47 q315) rfl rfl rfl (by decide +kernel) ⟨Nat.le_of_ble_eq_true rfl, Nat.le_of_ble_eq_true rfl⟩) (preV (recO (xOwner g (by decide)) hP hK rfl) hP hK) rfl rfl hl.1 rfl (lv_room (Nat.le_of_ble_eq_true rfl)) dX7_insure_5 ⟨Nat.zero_le _, Nat.zero_le _⟩) hS (fun _ h => h) (fun zc1 H locs hP hS => ?_) (fun zc1 H locs hP hS => ?_)
  · have hf := hf.trans (if_pos zc1)
    refine lv_astore (lv' := [(4, .ref (g.1 0 (Int32.toNatClampNeg p1))), (0, .ref (g.1 12 0)), (1, .int p1), (2, .int p2), (3, .int p3)]) hx hb dX7_insure_8 hl (by decide) rfl (fun ls hl => ?_)
    refine lv_aload hx hb dX7_insure_10 (lv_at hl 0 rfl) ?_
    refine lv_ifnonnull (tgt := 17) hx hb dX7_insure_12 (by decide) ?_
    refine lv_iload_n hx hb dX7_insure_17 rfl (lv_at hl 3 rfl) ?_
    refine lv_iconst (v := 0) hx hb dX7_insure_18 (by decide) ?_
    refine lv_iconst (v := 2) hx hb dX7_insure_19 (by decide) ?_
    refine kzc (va_runS (As := [.int p2, .int 0, .int 2]) (rest := []) C0 (kX7_within l g A hA S p2 0 2) (va_cwS 3 hts (gS q297 q298 q46 q299) rfl rfl rfl (by decide +kernel) ⟨Nat.le_of_ble_eq_true rfl, Nat.le_of_ble_eq_true rfl⟩) (preS hP hK) rfl rfl hl.1 rfl (lv_room (Nat.le_of_ble_eq_true rfl)) dX7_insure_20 ⟨Nat.zero_le _, Nat.zero_le _⟩) hS (fun _ h => h) (fun zc2 H locs hP hS => ?_) (fun zc2 H locs hP hS => ?_)
    · have hf := hf.trans (if_pos zc2)
      refine lv_if_eq (tgt := 36) hx hb dX7_insure_23 (by decide) (fun zc3 => absurd zc3 (by decide)) (fun zc3 => ?_)
      refine lv_iload_n hx hb dX7_insure_26 rfl (lv_at hl 4 rfl) ?_
      refine lv_iconst (v := 0) hx hb dX7_insure_27 (by decide) ?_
      refine lv_bipush (v := 99) hx hb dX7_insure_28 (by decide) ?_
      refine kzc (va_runS (As := [.int p3, .int 0, .int 99]) (rest := []) C0 (kX7_within l g A hA S p3 0 99) (va_cwS 3 hts (gS q297 q298 q46 q299) rfl rfl rfl (by decide +kernel) ⟨Nat.le_of_ble_eq_true rfl, Nat.le_of_ble_eq_true rfl⟩) (preS hP hK) rfl rfl hl.1 rfl (lv_room (Nat.le_of_ble_eq_true rfl)) dX7_insure_30 ⟨Nat.zero_le _, Nat.zero_le _⟩) hS (fun _ h => h) (fun zc4 H locs hP hS => ?_) (fun zc4 H locs hP hS => ?_)
      · have hf := hf.trans (if_pos zc4)
        refine lv_if_ne (tgt := 39) hx hb dX7_insure_33 (by decide) (fun zc5 => ?_) (fun zc5 => absurd zc5 (by decide))
        refine lv_aload hx hb dX7_insure_39 (lv_at hl 0 rfl) ?_
        refine lv_iload_n hx hb dX7_insure_41 rfl (lv_at hl 3 rfl) ?_
        refine kiP (va_runV (As := [.int p2]) (rest := []) C0 (kX4_sumAt l g A hA S 0 (Int32.toNatClampNeg p1) p2 (by decide) (plc_lt zc1.1)) (cwV 1 hts (gV q332 q333 q334 q48 q335) rfl rfl rfl (by decide +kernel) ⟨Nat.le_of_ble_eq_true rfl, Nat.le_of_ble_eq_true rfl⟩) (preV (recO (xShip g (by decide) (plc_lt zc1.1)) hP hK rfl) hP hK) rfl rfl hl.1 rfl (lv_room (Nat.le_of_ble_eq_true rfl)) dX7_insure_42 ⟨Nat.zero_le _, Nat.zero_le _⟩) hS (fun _ h => h) (fun H locs hP hS => ?_)
        refine lv_istore (lv' := [(5, .int (tX4_sumAt S 0 (Int32.toNatClampNeg p1) p2)), (4, .ref (g.1 0 (Int32.toNatClampNeg p1))), (0, .ref (g.1 12 0)), (1, .int p1), (2, .int p2), (3, .int p3)]) hx hb dX7_insure_45 hl (by decide) rfl (fun ls hl => ?_)
        refine lv_aload hx hb dX7_insure_47 (lv_at hl 1 rfl) ?_
        refine lv_iload_n hx hb dX7_insure_49 rfl (lv_at hl 4 rfl) ?_
        refine lv_iload_n hx hb dX7_insure_50 rfl (lv_at hl 5 rfl) ?_
        refine kv (va_runV (As := [.int p2, .int p3]) (rest := []) C0 (kX4_putSum l g A hA S 0 (Int32.toNatClampNeg p1) p2 p3 (by decide) (plc_lt zc1.1)) (cwV 2 hts (gV q336 q337 q338 q48 q339) rfl rfl rfl (by decide +kernel) ⟨Nat.le_of_ble_eq_true rfl, Nat.le_of_ble_eq_true rfl⟩) (preV (recO (xShip g (by decide) (plc_lt zc1.1)) hP hK rfl) hP hK) rfl rfl hl.1 rfl (lv_room (Nat.le_of_ble_eq_true rfl)) dX7_insure_51 ⟨Nat.zero_le _, Nat.zero_le _⟩) hS (fun _ h => h) (fun zS6 H locs hw hP hS => ?_)
        have hf := hf.trans (bnd_eq hw)
        refine lv_iload hx hb dX7_insure_54 (lv_at hl 0 rfl) ?_
        exact ri hQ C0 hr hlocks hK hP hS (by rw [← hF]; exact fin2 hf) dX7_insure_56
      · have hf := hf.trans (if_neg zc4)
        refine lv_if_ne (tgt := 39) hx hb dX7_insure_33 (by decide) (fun zc7 => absurd (by decide) zc7) (fun zc7 => ?_)
        refine lv_bipush (v := (-2)) hx hb dX7_insure_36 (by decide) ?_
        exact ri hQ C0 hr hlocks hK hP hS (by rw [← hF]; exact fin2 hf) dX7_insure_38
    · have hf := hf.trans (if_neg zc2)
      refine lv_if_eq (tgt := 36) hx hb dX7_insure_23 (by decide) (fun zc8 => ?_) (fun zc8 => absurd (by decide) zc8)
      refine lv_bipush (v := (-2)) hx hb dX7_insure_36 (by decide) ?_
      exact ri hQ C0 hr hlocks hK hP hS (by rw [← hF]; exact fin2 hf) dX7_insure_38
  · have hf := hf.trans (if_neg zc1)
    refine lv_astoreN (lv' := [(4, .null), (0, .ref (g.1 12 0)), (1, .int p1), (2, .int p2), (3, .int p3)]) hx hb dX7_insure_8 hl (by decide) rfl (fun ls hl => ?_)
    refine lv_aloadN hx hb dX7_insure_10 (lv_at hl 0 rfl) ?_
    refine lv_ifnonnullN hx hb dX7_insure_12 ?_
    refine lv_iconst (v := (-1)) hx hb dX7_insure_15 (by decide) ?_
    exact ri hQ C0 hr hlocks hK hP hS (by rw [← hF]; exact fin2 hf) dX7_insure_16
def tX7_load (S : St) (p1 : Int32) (p2 : Int32) : Int32 × St :=
  (if isAt S 0 p1 then (if wi p2 0 9 then ((S.1 0 (Int32.toNatClampNeg p1) 5), (up S 0 (Int32.toNatClampNeg p1) 5 p2)) else ((-2), S)) else ((-1), S))
set_option maxHeartbeats 4000000 in
set_option maxRecDepth 100000 in
theorem kX7_load (l : Launch) (g : Gd) (A : Nat → Prop) (hA : Ads g.1 VX A) (S : St) (p1 : Int32) (p2 : Int32) : Met l yX7_load (wU yX7_load cX7_load 5 (some .int)) { frames := 2, cells := 0, slots := 0, locals := 43 } (va_Pc [.ref (g.1 12 0), .int p1, .int p2] (PW VX ctX g S)) (va_Qi (fun r u => r = (tX7_load S p1 p2).1 ∧ u = (tX7_load S p1 p2).2) (fun u U => PW VX ctX g u U) A) 0 0 A := by
  refine ent (cc := cX7_load) (maxL := 5) (ret := (some .int)) (by decide) (Nat.le_of_ble_eq_true rfl) ?_
  intro p e s m below meth c args Q C0 hr hlocks hP hK hQ ls hl
  have hx := C0.1
  have hb := C0.2.1
  have hml := C0.2.2.1
  have hown := C0.2.2.2.1
  have hts := C0.2.2.2.2
  obtain ⟨F, hF⟩ : ∃ F : Int32 × St, F = tX7_load S p1 p2 := ⟨_, rfl⟩
  have hf := hF
  unfold tX7_load at hf
  have hS : va_S A s.heap s.heap [] := va_S.rf
  have hl : lv_has ls 5 [(0, .ref (g.1 12 0)), (1, .int p1), (2, .int p2)] := hl
  refine lv_aload_n hx hb dX7_load_0 rfl (lv_at hl 0 rfl) ?_
  refine gO (T := TX7) C0 inA7 hK hP (xMain g) rfl 0 (by decide) (hts _ q263) (v := .ref (g.1 0 6)) rfl dX7_load_1 ?_
  refine lv_iload_n hx hb dX7_load_4 rfl (lv_at hl 1 rfl) ?_
  refine kqc (va_runV (As := [.int p1]) (rest := []) C0 (kX2_shipAt l g A hA S 0 p1 (by decide)) (cwV 1 hts (gV q327 q313 q314 q47 q315) rfl rfl rfl (by decide +kernel) ⟨Nat.le_of_ble_eq_true rfl, Nat.le_of_ble_eq_true rfl⟩) (preV (recO (xOwner g (by decide)) hP hK rfl) hP hK) rfl rfl hl.1 rfl (lv_room (Nat.le_of_ble_eq_true rfl)) dX7_load_5 ⟨Nat.zero_le _, Nat.zero_le _⟩) hS (fun _ h => h) (fun zc1 H locs hP hS => ?_) (fun zc1 H locs hP hS => ?_)
  · have hf := hf.trans (if_pos zc1)
    refine lv_astore_n (lv' := [(3, .ref (g.1 0 (Int32.toNatClampNeg p1))), (0, .ref (g.1 12 0)), (1, .int p1), (2, .int p2)]) hx hb dX7_load_8 rfl hl (by decide) rfl (fun ls hl => ?_)
    refine lv_aload_n hx hb dX7_load_9 rfl (lv_at hl 0 rfl) ?_
    refine lv_ifnonnull (tgt := 15) hx hb dX7_load_10 (by decide) ?_
    refine lv_iload_n hx hb dX7_load_15 rfl (lv_at hl 3 rfl) ?_
    refine lv_iconst (v := 0) hx hb dX7_load_16 (by decide) ?_
    refine lv_bipush (v := 9) hx hb dX7_load_17 (by decide) ?_
    refine kzc (va_runS (As := [.int p2, .int 0, .int 9]) (rest := []) C0 (kX7_within l g A hA S p2 0 9) (va_cwS 3 hts (gS q297 q298 q46 q299) rfl rfl rfl (by decide +kernel) ⟨Nat.le_of_ble_eq_true rfl, Nat.le_of_ble_eq_true rfl⟩) (preS hP hK) rfl rfl hl.1 rfl (lv_room (Nat.le_of_ble_eq_true rfl)) dX7_load_19 ⟨Nat.zero_le _, Nat.zero_le _⟩) hS (fun _ h => h) (fun zc2 H locs hP hS => ?_) (fun zc2 H locs hP hS => ?_)
    · have hf := hf.trans (if_pos zc2)
      refine lv_if_ne (tgt := 28) hx hb dX7_load_22 (by decide) (fun zc3 => ?_) (fun zc3 => absurd zc3 (by decide))
      refine lv_aload_n hx hb dX7_load_28 rfl (lv_at hl 0 rfl) ?_
      refine gO (T := TX4) C0 inA4 hK hP (xShip g (by decide) (plc_lt zc1.1)) rfl 5 (by decide) (hts _ q94) (v := .int (S.1 0 (Int32.toNatClampNeg p1) 5)) rfl dX7_load_29 ?_
      refine lv_istore (lv' := [(4, .int (S.1 0 (Int32.toNatClampNeg p1) 5)), (3, .ref (g.1 0 (Int32.toNatClampNeg p1))), (0, .ref (g.1 12 0)), (1, .int p1), (2, .int p2)]) hx hb dX7_load_32 hl (by decide) rfl (fun ls hl => ?_)
      refine lv_aload_n hx hb dX7_load_34 rfl (lv_at hl 1 rfl) ?_
      refine lv_iload_n hx hb dX7_load_35 rfl (lv_at hl 4 rfl) ?_
      refine pO (T := TX4) (ty0 := tyX4) locX C0 inA4 tyX4_ok nmX4 hK hP hA hS (xShip g (by decide) (plc_lt zc1.1)) rfl 5 (by decide) (hts _ q94) rfl 5 p2 rfl rfl rfl (Nat.le_of_ble_eq_true rfl) dX7_load_36 (fun H locs hP hS => ?_)
      refine lv_iload hx hb dX7_load_39 (lv_at hl 0 rfl) ?_
      exact ri hQ C0 hr hlocks hK hP hS (by rw [← hF]; exact fin2 hf) dX7_load_41
    · have hf := hf.trans (if_neg zc2)
      refine lv_if_ne (tgt := 28) hx hb dX7_load_22 (by decide) (fun zc4 => absurd (by decide) zc4) (fun zc4 => ?_)
      refine lv_bipush (v := (-2)) hx hb dX7_load_25 (by decide) ?_
      exact ri hQ C0 hr hlocks hK hP hS (by rw [← hF]; exact fin2 hf) dX7_load_27
  · have hf := hf.trans (if_neg zc1)
    refine lv_astore_nN (lv' := [(3, .null), (0, .ref (g.1 12 0)), (1, .int p1), (2, .int p2)]) hx hb dX7_load_8 rfl hl (by decide) rfl (fun ls hl => ?_)
    refine lv_aload_nN hx hb dX7_load_9 rfl (lv_at hl 0 rfl) ?_
    refine lv_ifnonnullN hx hb dX7_load_10 ?_
    refine lv_iconst (v := (-1)) hx hb dX7_load_13 (by decide) ?_
    exact ri hQ C0 hr hlocks hK hP hS (by rw [← hF]; exact fin2 hf) dX7_load_14
def tX7_set (S : St) (p1 : Int32) (p2 : Int32) : Int32 × St :=
  (if p1 = 0 then (if wi p2 0 99 then ((S.1 0 6 0), (up S 0 6 0 p2)) else (if p1 = 1 then (if wi p2 0 20 then ((S.1 0 6 1), (up S 0 6 1 p2)) else (if p1 = 2 then (if wi p2 0 1 then ((S.1 0 6 2), (up S 0 6 2 p2)) else ((-2), S)) else ((-2), S))) else (if p1 = 2 then (if wi p2 0 1 then ((S.1 0 6 2), (up S 0 6 2 p2)) else ((-2), S)) else ((-2), S)))) else (if p1 = 1 then (if wi p2 0 20 then ((S.1 0 6 1), (up S 0 6 1 p2)) else (if p1 = 2 then (if wi p2 0 1 then ((S.1 0 6 2), (up S 0 6 2 p2)) else ((-2), S)) else ((-2), S))) else (if p1 = 2 then (if wi p2 0 1 then ((S.1 0 6 2), (up S 0 6 2 p2)) else ((-2), S)) else ((-2), S))))
set_option maxHeartbeats 4000000 in
set_option maxRecDepth 100000 in
theorem kX7_set (l : Launch) (g : Gd) (A : Nat → Prop) (hA : Ads g.1 VX A) (S : St) (p1 : Int32) (p2 : Int32) : Met l yX7_set (wU yX7_set cX7_set 4 (some .int)) { frames := 1, cells := 0, slots := 0, locals := 22 } (va_Pc [.ref (g.1 12 0), .int p1, .int p2] (PW VX ctX g S)) (va_Qi (fun r u => r = (tX7_set S p1 p2).1 ∧ u = (tX7_set S p1 p2).2) (fun u U => PW VX ctX g u U) A) 0 0 A := by
  refine ent (cc := cX7_set) (maxL := 4) (ret := (some .int)) (by decide) (Nat.le_of_ble_eq_true rfl) ?_
  intro p e s m below meth c args Q C0 hr hlocks hP hK hQ ls hl
  have hx := C0.1
  have hb := C0.2.1
  have hml := C0.2.2.1
  have hown := C0.2.2.2.1
  have hts := C0.2.2.2.2
  obtain ⟨F, hF⟩ : ∃ F : Int32 × St, F = tX7_set S p1 p2 := ⟨_, rfl⟩
  have hf := hF
  unfold tX7_set at hf
  have hS : va_S A s.heap s.heap [] := va_S.rf
  have hl : lv_has ls 4 [(0, .ref (g.1 12 0)), (1, .int p1), (2, .int p2)] := hl
  refine lv_bipush (v := (-2)) hx hb dX7_set_0 (by decide) ?_
  refine lv_istore_n (lv' := [(3, .int (-2)), (0, .ref (g.1 12 0)), (1, .int p1), (2, .int p2)]) hx hb dX7_set_2 rfl hl (by decide) rfl (fun ls hl => ?_)
  refine lv_iload_n hx hb dX7_set_3 rfl (lv_at hl 2 rfl) ?_
  refine lv_if_ne (tgt := 36) hx hb dX7_set_4 (by decide) (fun zc1 => ?_) (fun zc1 => ?_)
  · have hf := hf.trans (if_neg zc1)
    refine lv_iload_n hx hb dX7_set_36 rfl (lv_at hl 2 rfl) ?_
    refine lv_iconst (v := 1) hx hb dX7_set_37 (by decide) ?_
    refine lv_icmp_ne (tgt := 70) hx hb dX7_set_38 (by decide) (fun zc2 => ?_) (fun zc2 => ?_)
    · have hf := hf.trans (if_neg zc2)
      refine lv_iload_n hx hb dX7_set_70 rfl (lv_at hl 2 rfl) ?_
      refine lv_iconst (v := 2) hx hb dX7_set_71 (by decide) ?_
      refine lv_icmp_ne (tgt := 100) hx hb dX7_set_72 (by decide) (fun zc3 => ?_) (fun zc3 => ?_)
      · have hf := hf.trans (if_neg zc3)
        refine lv_iload_n hx hb dX7_set_100 rfl (lv_at hl 0 rfl) ?_
        exact ri hQ C0 hr hlocks hK hP hS (by rw [← hF]; exact fin2 hf) dX7_set_101
      · have hf := hf.trans (if_pos zc3)
        refine lv_iload_n hx hb dX7_set_75 rfl (lv_at hl 3 rfl) ?_
        refine lv_iconst (v := 0) hx hb dX7_set_76 (by decide) ?_
        refine lv_iconst (v := 1) hx hb dX7_set_77 (by decide) ?_
        refine kzc (va_runS (As := [.int p2, .int 0, .int 1]) (rest := []) C0 (kX7_within l g A hA S p2 0 1) (va_cwS 3 hts (gS q297 q298 q46 q299) rfl rfl rfl (by decide +kernel) ⟨Nat.le_of_ble_eq_true rfl, Nat.le_of_ble_eq_true rfl⟩) (preS hP hK) rfl rfl hl.1 rfl (lv_room (Nat.le_of_ble_eq_true rfl)) dX7_set_78 ⟨Nat.zero_le _, Nat.zero_le _⟩) hS (fun _ h => h) (fun zc4 H locs hP hS => ?_) (fun zc4 H locs hP hS => ?_)
        · have hf := hf.trans (if_pos zc4)
          refine lv_if_eq (tgt := 100) hx hb dX7_set_81 (by decide) (fun zc5 => absurd zc5 (by decide)) (fun zc5 => ?_)
          refine lv_aload_n hx hb dX7_set_84 rfl (lv_at hl 1 rfl) ?_
          refine gO (T := TX7) C0 inA7 hK hP (xMain g) rfl 0 (by decide) (hts _ q263) (v := .ref (g.1 0 6)) rfl dX7_set_85 ?_
          refine gO (T := TX2) C0 inA2 hK hP (xOwner g (by decide)) rfl 3 (by decide) (hts _ q119) (v := .int (S.1 0 6 2)) rfl dX7_set_88 ?_
          refine lv_istore_n (lv' := [(3, .int (S.1 0 6 2)), (0, .ref (g.1 12 0)), (1, .int p1), (2, .int p2)]) hx hb dX7_set_91 rfl hl (by decide) rfl (fun ls hl => ?_)
          refine lv_aload_n hx hb dX7_set_92 rfl (lv_at hl 1 rfl) ?_
          refine gO (T := TX7) C0 inA7 hK hP (xMain g) rfl 0 (by decide) (hts _ q263) (v := .ref (g.1 0 6)) rfl dX7_set_93 ?_
          refine lv_iload_n hx hb dX7_set_96 rfl (lv_at hl 3 rfl) ?_
          refine pO (T := TX2) (ty0 := tyX2) locX C0 inA2 tyX2_ok nmX2 hK hP hA hS (xOwner g (by decide)) rfl 3 (by decide) (hts _ q119) rfl 2 p2 rfl rfl rfl (Nat.le_of_ble_eq_true rfl) dX7_set_97 (fun H locs hP hS => ?_)
          refine lv_iload_n hx hb dX7_set_100 rfl (lv_at hl 0 rfl) ?_
          exact ri hQ C0 hr hlocks hK hP hS (by rw [← hF]; exact fin2 hf) dX7_set_101
        · have hf := hf.trans (if_neg zc4)
          refine lv_if_eq (tgt := 100) hx hb dX7_set_81 (by decide) (fun zc6 => ?_) (fun zc6 => absurd (by decide) zc6)
          refine lv_iload_n hx hb dX7_set_100 rfl (lv_at hl 0 rfl) ?_
          exact ri hQ C0 hr hlocks hK hP hS (by rw [← hF]; exact fin2 hf) dX7_set_101
    · have hf := hf.trans (if_pos zc2)
      refine lv_iload_n hx hb dX7_set_41 rfl (lv_at hl 3 rfl) ?_
      refine lv_iconst (v := 0) hx hb dX7_set_42 (by decide) ?_
      refine lv_bipush (v := 20) hx hb dX7_set_43 (by decide) ?_
      refine kzc (va_runS (As := [.int p2, .int 0, .int 20]) (rest := []) C0 (kX7_within l g A hA S p2 0 20) (va_cwS 3 hts (gS q297 q298 q46 q299) rfl rfl rfl (by decide +kernel) ⟨Nat.le_of_ble_eq_true rfl, Nat.le_of_ble_eq_true rfl⟩) (preS hP hK) rfl rfl hl.1 rfl (lv_room (Nat.le_of_ble_eq_true rfl)) dX7_set_45 ⟨Nat.zero_le _, Nat.zero_le _⟩) hS (fun _ h => h) (fun zc7 H locs hP hS => ?_) (fun zc7 H locs hP hS => ?_)
      · have hf := hf.trans (if_pos zc7)
        refine lv_if_eq (tgt := 70) hx hb dX7_set_48 (by decide) (fun zc8 => absurd zc8 (by decide)) (fun zc8 => ?_)
        refine lv_aload_n hx hb dX7_set_51 rfl (lv_at hl 1 rfl) ?_
        refine gO (T := TX7) C0 inA7 hK hP (xMain g) rfl 0 (by decide) (hts _ q263) (v := .ref (g.1 0 6)) rfl dX7_set_52 ?_
        refine gO (T := TX2) C0 inA2 hK hP (xOwner g (by decide)) rfl 2 (by decide) (hts _ q117) (v := .int (S.1 0 6 1)) rfl dX7_set_55 ?_
        refine lv_istore_n (lv' := [(3, .int (S.1 0 6 1)), (0, .ref (g.1 12 0)), (1, .int p1), (2, .int p2)]) hx hb dX7_set_58 rfl hl (by decide) rfl (fun ls hl => ?_)
        refine lv_aload_n hx hb dX7_set_59 rfl (lv_at hl 1 rfl) ?_
        refine gO (T := TX7) C0 inA7 hK hP (xMain g) rfl 0 (by decide) (hts _ q263) (v := .ref (g.1 0 6)) rfl dX7_set_60 ?_
        refine lv_iload_n hx hb dX7_set_63 rfl (lv_at hl 3 rfl) ?_
        refine pO (T := TX2) (ty0 := tyX2) locX C0 inA2 tyX2_ok nmX2 hK hP hA hS (xOwner g (by decide)) rfl 2 (by decide) (hts _ q117) rfl 1 p2 rfl rfl rfl (Nat.le_of_ble_eq_true rfl) dX7_set_64 (fun H locs hP hS => ?_)
        refine lv_goto (tgt := 100) hx hb dX7_set_67 (by decide) ?_
        refine lv_iload_n hx hb dX7_set_100 rfl (lv_at hl 0 rfl) ?_
        exact ri hQ C0 hr hlocks hK hP hS (by rw [← hF]; exact fin2 hf) dX7_set_101
      · have hf := hf.trans (if_neg zc7)
        refine lv_if_eq (tgt := 70) hx hb dX7_set_48 (by decide) (fun zc9 => ?_) (fun zc9 => absurd (by decide) zc9)
        refine lv_iload_n hx hb dX7_set_70 rfl (lv_at hl 2 rfl) ?_
        refine lv_iconst (v := 2) hx hb dX7_set_71 (by decide) ?_
        refine lv_icmp_ne (tgt := 100) hx hb dX7_set_72 (by decide) (fun zc10 => ?_) (fun zc10 => ?_)
        · have hf := hf.trans (if_neg zc10)
          refine lv_iload_n hx hb dX7_set_100 rfl (lv_at hl 0 rfl) ?_
          exact ri hQ C0 hr hlocks hK hP hS (by rw [← hF]; exact fin2 hf) dX7_set_101
        · have hf := hf.trans (if_pos zc10)
          refine lv_iload_n hx hb dX7_set_75 rfl (lv_at hl 3 rfl) ?_
          refine lv_iconst (v := 0) hx hb dX7_set_76 (by decide) ?_
          refine lv_iconst (v := 1) hx hb dX7_set_77 (by decide) ?_
          refine kzc (va_runS (As := [.int p2, .int 0, .int 1]) (rest := []) C0 (kX7_within l g A hA S p2 0 1) (va_cwS 3 hts (gS q297 q298 q46 q299) rfl rfl rfl (by decide +kernel) ⟨Nat.le_of_ble_eq_true rfl, Nat.le_of_ble_eq_true rfl⟩) (preS hP hK) rfl rfl hl.1 rfl (lv_room (Nat.le_of_ble_eq_true rfl)) dX7_set_78 ⟨Nat.zero_le _, Nat.zero_le _⟩) hS (fun _ h => h) (fun zc11 H locs hP hS => ?_) (fun zc11 H locs hP hS => ?_)
          · have hf := hf.trans (if_pos zc11)
            refine lv_if_eq (tgt := 100) hx hb dX7_set_81 (by decide) (fun zc12 => absurd zc12 (by decide)) (fun zc12 => ?_)
            refine lv_aload_n hx hb dX7_set_84 rfl (lv_at hl 1 rfl) ?_
            refine gO (T := TX7) C0 inA7 hK hP (xMain g) rfl 0 (by decide) (hts _ q263) (v := .ref (g.1 0 6)) rfl dX7_set_85 ?_
            refine gO (T := TX2) C0 inA2 hK hP (xOwner g (by decide)) rfl 3 (by decide) (hts _ q119) (v := .int (S.1 0 6 2)) rfl dX7_set_88 ?_
            refine lv_istore_n (lv' := [(3, .int (S.1 0 6 2)), (0, .ref (g.1 12 0)), (1, .int p1), (2, .int p2)]) hx hb dX7_set_91 rfl hl (by decide) rfl (fun ls hl => ?_)
            refine lv_aload_n hx hb dX7_set_92 rfl (lv_at hl 1 rfl) ?_
            refine gO (T := TX7) C0 inA7 hK hP (xMain g) rfl 0 (by decide) (hts _ q263) (v := .ref (g.1 0 6)) rfl dX7_set_93 ?_
            refine lv_iload_n hx hb dX7_set_96 rfl (lv_at hl 3 rfl) ?_
            refine pO (T := TX2) (ty0 := tyX2) locX C0 inA2 tyX2_ok nmX2 hK hP hA hS (xOwner g (by decide)) rfl 3 (by decide) (hts _ q119) rfl 2 p2 rfl rfl rfl (Nat.le_of_ble_eq_true rfl) dX7_set_97 (fun H locs hP hS => ?_)
            refine lv_iload_n hx hb dX7_set_100 rfl (lv_at hl 0 rfl) ?_
            exact ri hQ C0 hr hlocks hK hP hS (by rw [← hF]; exact fin2 hf) dX7_set_101
          · have hf := hf.trans (if_neg zc11)
            refine lv_if_eq (tgt := 100) hx hb dX7_set_81 (by decide) (fun zc13 => ?_) (fun zc13 => absurd (by decide) zc13)
            refine lv_iload_n hx hb dX7_set_100 rfl (lv_at hl 0 rfl) ?_
            exact ri hQ C0 hr hlocks hK hP hS (by rw [← hF]; exact fin2 hf) dX7_set_101
  · have hf := hf.trans (if_pos zc1)
    refine lv_iload_n hx hb dX7_set_7 rfl (lv_at hl 3 rfl) ?_
    refine lv_iconst (v := 0) hx hb dX7_set_8 (by decide) ?_
    refine lv_bipush (v := 99) hx hb dX7_set_9 (by decide) ?_
    refine kzc (va_runS (As := [.int p2, .int 0, .int 99]) (rest := []) C0 (kX7_within l g A hA S p2 0 99) (va_cwS 3 hts (gS q297 q298 q46 q299) rfl rfl rfl (by decide +kernel) ⟨Nat.le_of_ble_eq_true rfl, Nat.le_of_ble_eq_true rfl⟩) (preS hP hK) rfl rfl hl.1 rfl (lv_room (Nat.le_of_ble_eq_true rfl)) dX7_set_11 ⟨Nat.zero_le _, Nat.zero_le _⟩) hS (fun _ h => h) (fun zc14 H locs hP hS => ?_) (fun zc14 H locs hP hS => ?_)
    · have hf := hf.trans (if_pos zc14)
      refine lv_if_eq (tgt := 36) hx hb dX7_set_14 (by decide) (fun zc15 => absurd zc15 (by decide)) (fun zc15 => ?_)
      refine lv_aload_n hx hb dX7_set_17 rfl (lv_at hl 1 rfl) ?_
      refine gO (T := TX7) C0 inA7 hK hP (xMain g) rfl 0 (by decide) (hts _ q263) (v := .ref (g.1 0 6)) rfl dX7_set_18 ?_
      refine gO (T := TX2) C0 inA2 hK hP (xOwner g (by decide)) rfl 1 (by decide) (hts _ q115) (v := .int (S.1 0 6 0)) rfl dX7_set_21 ?_
      refine lv_istore_n (lv' := [(3, .int (S.1 0 6 0)), (0, .ref (g.1 12 0)), (1, .int p1), (2, .int p2)]) hx hb dX7_set_24 rfl hl (by decide) rfl (fun ls hl => ?_)
      refine lv_aload_n hx hb dX7_set_25 rfl (lv_at hl 1 rfl) ?_
      refine gO (T := TX7) C0 inA7 hK hP (xMain g) rfl 0 (by decide) (hts _ q263) (v := .ref (g.1 0 6)) rfl dX7_set_26 ?_
      refine lv_iload_n hx hb dX7_set_29 rfl (lv_at hl 3 rfl) ?_
      refine pO (T := TX2) (ty0 := tyX2) locX C0 inA2 tyX2_ok nmX2 hK hP hA hS (xOwner g (by decide)) rfl 1 (by decide) (hts _ q115) rfl 0 p2 rfl rfl rfl (Nat.le_of_ble_eq_true rfl) dX7_set_30 (fun H locs hP hS => ?_)
      refine lv_goto (tgt := 100) hx hb dX7_set_33 (by decide) ?_
      refine lv_iload_n hx hb dX7_set_100 rfl (lv_at hl 0 rfl) ?_
      exact ri hQ C0 hr hlocks hK hP hS (by rw [← hF]; exact fin2 hf) dX7_set_101
    · have hf := hf.trans (if_neg zc14)
      refine lv_if_eq (tgt := 36) hx hb dX7_set_14 (by decide) (fun zc16 => ?_) (fun zc16 => absurd (by decide) zc16)
      refine lv_iload_n hx hb dX7_set_36 rfl (lv_at hl 2 rfl) ?_
      refine lv_iconst (v := 1) hx hb dX7_set_37 (by decide) ?_
      refine lv_icmp_ne (tgt := 70) hx hb dX7_set_38 (by decide) (fun zc17 => ?_) (fun zc17 => ?_)
      · have hf := hf.trans (if_neg zc17)
        refine lv_iload_n hx hb dX7_set_70 rfl (lv_at hl 2 rfl) ?_
        refine lv_iconst (v := 2) hx hb dX7_set_71 (by decide) ?_
        refine lv_icmp_ne (tgt := 100) hx hb dX7_set_72 (by decide) (fun zc18 => ?_) (fun zc18 => ?_)
        · have hf := hf.trans (if_neg zc18)
          refine lv_iload_n hx hb dX7_set_100 rfl (lv_at hl 0 rfl) ?_
          exact ri hQ C0 hr hlocks hK hP hS (by rw [← hF]; exact fin2 hf) dX7_set_101
        · have hf := hf.trans (if_pos zc18)
          refine lv_iload_n hx hb dX7_set_75 rfl (lv_at hl 3 rfl) ?_
          refine lv_iconst (v := 0) hx hb dX7_set_76 (by decide) ?_
          refine lv_iconst (v := 1) hx hb dX7_set_77 (by decide) ?_
          refine kzc (va_runS (As := [.int p2, .int 0, .int 1]) (rest := []) C0 (kX7_within l g A hA S p2 0 1) (va_cwS 3 hts (gS q297 q298 q46 q299) rfl rfl rfl (by decide +kernel) ⟨Nat.le_of_ble_eq_true rfl, Nat.le_of_ble_eq_true rfl⟩) (preS hP hK) rfl rfl hl.1 rfl (lv_room (Nat.le_of_ble_eq_true rfl)) dX7_set_78 ⟨Nat.zero_le _, Nat.zero_le _⟩) hS (fun _ h => h) (fun zc19 H locs hP hS => ?_) (fun zc19 H locs hP hS => ?_)
          · have hf := hf.trans (if_pos zc19)
            refine lv_if_eq (tgt := 100) hx hb dX7_set_81 (by decide) (fun zc20 => absurd zc20 (by decide)) (fun zc20 => ?_)
            refine lv_aload_n hx hb dX7_set_84 rfl (lv_at hl 1 rfl) ?_
            refine gO (T := TX7) C0 inA7 hK hP (xMain g) rfl 0 (by decide) (hts _ q263) (v := .ref (g.1 0 6)) rfl dX7_set_85 ?_
            refine gO (T := TX2) C0 inA2 hK hP (xOwner g (by decide)) rfl 3 (by decide) (hts _ q119) (v := .int (S.1 0 6 2)) rfl dX7_set_88 ?_
            refine lv_istore_n (lv' := [(3, .int (S.1 0 6 2)), (0, .ref (g.1 12 0)), (1, .int p1), (2, .int p2)]) hx hb dX7_set_91 rfl hl (by decide) rfl (fun ls hl => ?_)
            refine lv_aload_n hx hb dX7_set_92 rfl (lv_at hl 1 rfl) ?_
            refine gO (T := TX7) C0 inA7 hK hP (xMain g) rfl 0 (by decide) (hts _ q263) (v := .ref (g.1 0 6)) rfl dX7_set_93 ?_
            refine lv_iload_n hx hb dX7_set_96 rfl (lv_at hl 3 rfl) ?_
            refine pO (T := TX2) (ty0 := tyX2) locX C0 inA2 tyX2_ok nmX2 hK hP hA hS (xOwner g (by decide)) rfl 3 (by decide) (hts _ q119) rfl 2 p2 rfl rfl rfl (Nat.le_of_ble_eq_true rfl) dX7_set_97 (fun H locs hP hS => ?_)
            refine lv_iload_n hx hb dX7_set_100 rfl (lv_at hl 0 rfl) ?_
            exact ri hQ C0 hr hlocks hK hP hS (by rw [← hF]; exact fin2 hf) dX7_set_101
          · have hf := hf.trans (if_neg zc19)
            refine lv_if_eq (tgt := 100) hx hb dX7_set_81 (by decide) (fun zc21 => ?_) (fun zc21 => absurd (by decide) zc21)
            refine lv_iload_n hx hb dX7_set_100 rfl (lv_at hl 0 rfl) ?_
            exact ri hQ C0 hr hlocks hK hP hS (by rw [← hF]; exact fin2 hf) dX7_set_101
      · have hf := hf.trans (if_pos zc17)
        refine lv_iload_n hx hb dX7_set_41 rfl (lv_at hl 3 rfl) ?_
        refine lv_iconst (v := 0) hx hb dX7_set_42 (by decide) ?_
        refine lv_bipush (v := 20) hx hb dX7_set_43 (by decide) ?_
        refine kzc (va_runS (As := [.int p2, .int 0, .int 20]) (rest := []) C0 (kX7_within l g A hA S p2 0 20) (va_cwS 3 hts (gS q297 q298 q46 q299) rfl rfl rfl (by decide +kernel) ⟨Nat.le_of_ble_eq_true rfl, Nat.le_of_ble_eq_true rfl⟩) (preS hP hK) rfl rfl hl.1 rfl (lv_room (Nat.le_of_ble_eq_true rfl)) dX7_set_45 ⟨Nat.zero_le _, Nat.zero_le _⟩) hS (fun _ h => h) (fun zc22 H locs hP hS => ?_) (fun zc22 H locs hP hS => ?_)
        · have hf := hf.trans (if_pos zc22)
          refine lv_if_eq (tgt := 70) hx hb dX7_set_48 (by decide) (fun zc23 => absurd zc23 (by decide)) (fun zc23 => ?_)
          refine lv_aload_n hx hb dX7_set_51 rfl (lv_at hl 1 rfl) ?_
          refine gO (T := TX7) C0 inA7 hK hP (xMain g) rfl 0 (by decide) (hts _ q263) (v := .ref (g.1 0 6)) rfl dX7_set_52 ?_
          refine gO (T := TX2) C0 inA2 hK hP (xOwner g (by decide)) rfl 2 (by decide) (hts _ q117) (v := .int (S.1 0 6 1)) rfl dX7_set_55 ?_
          refine lv_istore_n (lv' := [(3, .int (S.1 0 6 1)), (0, .ref (g.1 12 0)), (1, .int p1), (2, .int p2)]) hx hb dX7_set_58 rfl hl (by decide) rfl (fun ls hl => ?_)
          refine lv_aload_n hx hb dX7_set_59 rfl (lv_at hl 1 rfl) ?_
          refine gO (T := TX7) C0 inA7 hK hP (xMain g) rfl 0 (by decide) (hts _ q263) (v := .ref (g.1 0 6)) rfl dX7_set_60 ?_
          refine lv_iload_n hx hb dX7_set_63 rfl (lv_at hl 3 rfl) ?_
          refine pO (T := TX2) (ty0 := tyX2) locX C0 inA2 tyX2_ok nmX2 hK hP hA hS (xOwner g (by decide)) rfl 2 (by decide) (hts _ q117) rfl 1 p2 rfl rfl rfl (Nat.le_of_ble_eq_true rfl) dX7_set_64 (fun H locs hP hS => ?_)
          refine lv_goto (tgt := 100) hx hb dX7_set_67 (by decide) ?_
          refine lv_iload_n hx hb dX7_set_100 rfl (lv_at hl 0 rfl) ?_
          exact ri hQ C0 hr hlocks hK hP hS (by rw [← hF]; exact fin2 hf) dX7_set_101
        · have hf := hf.trans (if_neg zc22)
          refine lv_if_eq (tgt := 70) hx hb dX7_set_48 (by decide) (fun zc24 => ?_) (fun zc24 => absurd (by decide) zc24)
          refine lv_iload_n hx hb dX7_set_70 rfl (lv_at hl 2 rfl) ?_
          refine lv_iconst (v := 2) hx hb dX7_set_71 (by decide) ?_
          refine lv_icmp_ne (tgt := 100) hx hb dX7_set_72 (by decide) (fun zc25 => ?_) (fun zc25 => ?_)
          · have hf := hf.trans (if_neg zc25)
            refine lv_iload_n hx hb dX7_set_100 rfl (lv_at hl 0 rfl) ?_
            exact ri hQ C0 hr hlocks hK hP hS (by rw [← hF]; exact fin2 hf) dX7_set_101
          · have hf := hf.trans (if_pos zc25)
            refine lv_iload_n hx hb dX7_set_75 rfl (lv_at hl 3 rfl) ?_
            refine lv_iconst (v := 0) hx hb dX7_set_76 (by decide) ?_
            refine lv_iconst (v := 1) hx hb dX7_set_77 (by decide) ?_
            refine kzc (va_runS (As := [.int p2, .int 0, .int 1]) (rest := []) C0 (kX7_within l g A hA S p2 0 1) (va_cwS 3 hts (gS q297 q298 q46 q299) rfl rfl rfl (by decide +kernel) ⟨Nat.le_of_ble_eq_true rfl, Nat.le_of_ble_eq_true rfl⟩) (preS hP hK) rfl rfl hl.1 rfl (lv_room (Nat.le_of_ble_eq_true rfl)) dX7_set_78 ⟨Nat.zero_le _, Nat.zero_le _⟩) hS (fun _ h => h) (fun zc26 H locs hP hS => ?_) (fun zc26 H locs hP hS => ?_)
            · have hf := hf.trans (if_pos zc26)
              refine lv_if_eq (tgt := 100) hx hb dX7_set_81 (by decide) (fun zc27 => absurd zc27 (by decide)) (fun zc27 => ?_)
              refine lv_aload_n hx hb dX7_set_84 rfl (lv_at hl 1 rfl) ?_
              refine gO (T := TX7) C0 inA7 hK hP (xMain g) rfl 0 (by decide) (hts _ q263) (v := .ref (g.1 0 6)) rfl dX7_set_85 ?_
              refine gO (T := TX2) C0 inA2 hK hP (xOwner g (by decide)) rfl 3 (by decide) (hts _ q119) (v := .int (S.1 0 6 2)) rfl dX7_set_88 ?_
              refine lv_istore_n (lv' := [(3, .int (S.1 0 6 2)), (0, .ref (g.1 12 0)), (1, .int p1), (2, .int p2)]) hx hb dX7_set_91 rfl hl (by decide) rfl (fun ls hl => ?_)
              refine lv_aload_n hx hb dX7_set_92 rfl (lv_at hl 1 rfl) ?_
              refine gO (T := TX7) C0 inA7 hK hP (xMain g) rfl 0 (by decide) (hts _ q263) (v := .ref (g.1 0 6)) rfl dX7_set_93 ?_
              refine lv_iload_n hx hb dX7_set_96 rfl (lv_at hl 3 rfl) ?_
              refine pO (T := TX2) (ty0 := tyX2) locX C0 inA2 tyX2_ok nmX2 hK hP hA hS (xOwner g (by decide)) rfl 3 (by decide) (hts _ q119) rfl 2 p2 rfl rfl rfl (Nat.le_of_ble_eq_true rfl) dX7_set_97 (fun H locs hP hS => ?_)
              refine lv_iload_n hx hb dX7_set_100 rfl (lv_at hl 0 rfl) ?_
              exact ri hQ C0 hr hlocks hK hP hS (by rw [← hF]; exact fin2 hf) dX7_set_101
            · have hf := hf.trans (if_neg zc26)
              refine lv_if_eq (tgt := 100) hx hb dX7_set_81 (by decide) (fun zc28 => ?_) (fun zc28 => absurd (by decide) zc28)
              refine lv_iload_n hx hb dX7_set_100 rfl (lv_at hl 0 rfl) ?_
              exact ri hQ C0 hr hlocks hK hP hS (by rw [← hF]; exact fin2 hf) dX7_set_101
def tX7_say (S : St) (p1 : Int32) : Int32 × St :=
  (if wi p1 33 126 then (bnd (tX3_put S p1).2 (fun zS4 => bnd (tX3_put S p1).1 (fun zr3 => (if zr3 = 0 then ((-4), zS4) else ((zS4.1 4 0 0), zS4))))) else ((-2), S))
set_option maxHeartbeats 4000000 in
set_option maxRecDepth 100000 in
theorem kX7_say (l : Launch) (g : Gd) (A : Nat → Prop) (hA : Ads g.1 VX A) (S : St) (p1 : Int32) : Met l yX7_say (wU yX7_say cX7_say 2 (some .int)) { frames := 1, cells := 0, slots := 0, locals := 22 } (va_Pc [.ref (g.1 12 0), .int p1] (PW VX ctX g S)) (va_Qi (fun r u => r = (tX7_say S p1).1 ∧ u = (tX7_say S p1).2) (fun u U => PW VX ctX g u U) A) 0 0 A := by
  refine ent (cc := cX7_say) (maxL := 2) (ret := (some .int)) (by decide) (Nat.le_of_ble_eq_true rfl) ?_
  intro p e s m below meth c args Q C0 hr hlocks hP hK hQ ls hl
  have hx := C0.1
  have hb := C0.2.1
  have hml := C0.2.2.1
  have hown := C0.2.2.2.1
  have hts := C0.2.2.2.2
  obtain ⟨F, hF⟩ : ∃ F : Int32 × St, F = tX7_say S p1 := ⟨_, rfl⟩
  have hf := hF
  unfold tX7_say at hf
  have hS : va_S A s.heap s.heap [] := va_S.rf
  have hl : lv_has ls 2 [(0, .ref (g.1 12 0)), (1, .int p1)] := hl
  refine lv_iload_n hx hb dX7_say_0 rfl (lv_at hl 1 rfl) ?_
  refine lv_bipush (v := 33) hx hb dX7_say_1 (by decide) ?_
  refine lv_bipush (v := 126) hx hb dX7_say_3 (by decide) ?_
  refine kzc (va_runS (As := [.int p1, .int 33, .int 126]) (rest := []) C0 (kX7_within l g A hA S p1 33 126) (va_cwS 3 hts (gS q297 q298 q46 q299) rfl rfl rfl (by decide +kernel) ⟨Nat.le_of_ble_eq_true rfl, Nat.le_of_ble_eq_true rfl⟩) (preS hP hK) rfl rfl hl.1 rfl (lv_room (Nat.le_of_ble_eq_true rfl)) dX7_say_5 ⟨Nat.zero_le _, Nat.zero_le _⟩) hS (fun _ h => h) (fun zc1 H locs hP hS => ?_) (fun zc1 H locs hP hS => ?_)
  · have hf := hf.trans (if_pos zc1)
    refine lv_if_ne (tgt := 14) hx hb dX7_say_8 (by decide) (fun zc2 => ?_) (fun zc2 => absurd zc2 (by decide))
    refine lv_aload_n hx hb dX7_say_14 rfl (lv_at hl 0 rfl) ?_
    refine gO (T := TX7) C0 inA7 hK hP (xMain g) rfl 2 (by decide) (hts _ q265) (v := .ref (g.1 4 0)) rfl dX7_say_15 ?_
    refine lv_iload_n hx hb dX7_say_18 rfl (lv_at hl 1 rfl) ?_
    refine ki (va_runV (As := [.int p1]) (rest := []) C0 (kX3_put l g A hA S p1) (cwV 1 hts (gV q352 q353 q354 q49 q355) rfl rfl rfl (by decide +kernel) ⟨Nat.le_of_ble_eq_true rfl, Nat.le_of_ble_eq_true rfl⟩) (preV (recO (xPad g) hP hK rfl) hP hK) rfl rfl hl.1 rfl (lv_room (Nat.le_of_ble_eq_true rfl)) dX7_say_19 ⟨Nat.zero_le _, Nat.zero_le _⟩) hS (fun _ h => h) (fun zr3 zS4 H locs hw hP hS => ?_)
    have hf := (hf.trans (bnd_eq hw.2)).trans (bnd_eq hw.1)
    refine lv_if_eq (tgt := 35) hx hb dX7_say_22 (by decide) (fun zc5 => ?_) (fun zc5 => ?_)
    · have hf := hf.trans (if_pos zc5)
      refine lv_bipush (v := (-4)) hx hb dX7_say_35 (by decide) ?_
      exact ri hQ C0 hr hlocks hK hP hS (by rw [← hF]; exact fin2 hf) dX7_say_37
    · have hf := hf.trans (if_neg zc5)
      refine lv_aload_n hx hb dX7_say_25 rfl (lv_at hl 0 rfl) ?_
      refine gO (T := TX7) C0 inA7 hK hP (xMain g) rfl 2 (by decide) (hts _ q265) (v := .ref (g.1 4 0)) rfl dX7_say_26 ?_
      refine gO (T := TX3) C0 inA3 hK hP (xPad g) rfl 1 (by decide) (hts _ q150) (v := .int (zS4.1 4 0 0)) rfl dX7_say_29 ?_
      refine lv_goto (tgt := 37) hx hb dX7_say_32 (by decide) ?_
      exact ri hQ C0 hr hlocks hK hP hS (by rw [← hF]; exact fin2 hf) dX7_say_37
  · have hf := hf.trans (if_neg zc1)
    refine lv_if_ne (tgt := 14) hx hb dX7_say_8 (by decide) (fun zc6 => absurd (by decide) zc6) (fun zc6 => ?_)
    refine lv_bipush (v := (-2)) hx hb dX7_say_11 (by decide) ?_
    exact ri hQ C0 hr hlocks hK hP hS (by rw [← hF]; exact fin2 hf) dX7_say_13
def tX7_wipe (S : St) : Int32 × St :=
  ((S.1 4 0 0), (up S 4 0 0 0))
set_option maxHeartbeats 4000000 in
set_option maxRecDepth 100000 in
theorem kX7_wipe (l : Launch) (g : Gd) (A : Nat → Prop) (hA : Ads g.1 VX A) (S : St)  : Met l yX7_wipe (wU yX7_wipe cX7_wipe 2 (some .int)) { frames := 0, cells := 0, slots := 0, locals := 0 } (va_Pc [.ref (g.1 12 0)] (PW VX ctX g S)) (va_Qi (fun r u => r = (tX7_wipe S).1 ∧ u = (tX7_wipe S).2) (fun u U => PW VX ctX g u U) A) 0 0 A := by
  refine ent (cc := cX7_wipe) (maxL := 2) (ret := (some .int)) (by decide) (Nat.le_of_ble_eq_true rfl) ?_
  intro p e s m below meth c args Q C0 hr hlocks hP hK hQ ls hl
  have hx := C0.1
  have hb := C0.2.1
  have hml := C0.2.2.1
  have hown := C0.2.2.2.1
  have hts := C0.2.2.2.2
  obtain ⟨F, hF⟩ : ∃ F : Int32 × St, F = tX7_wipe S := ⟨_, rfl⟩
  have hf := hF
  unfold tX7_wipe at hf
  have hS : va_S A s.heap s.heap [] := va_S.rf
  have hl : lv_has ls 2 [(0, .ref (g.1 12 0))] := hl
  refine lv_aload_n hx hb dX7_wipe_0 rfl (lv_at hl 0 rfl) ?_
  refine gO (T := TX7) C0 inA7 hK hP (xMain g) rfl 2 (by decide) (hts _ q265) (v := .ref (g.1 4 0)) rfl dX7_wipe_1 ?_
  refine gO (T := TX3) C0 inA3 hK hP (xPad g) rfl 1 (by decide) (hts _ q150) (v := .int (S.1 4 0 0)) rfl dX7_wipe_4 ?_
  refine lv_istore_n (lv' := [(1, .int (S.1 4 0 0)), (0, .ref (g.1 12 0))]) hx hb dX7_wipe_7 rfl hl (by decide) rfl (fun ls hl => ?_)
  refine lv_aload_n hx hb dX7_wipe_8 rfl (lv_at hl 1 rfl) ?_
  refine gO (T := TX7) C0 inA7 hK hP (xMain g) rfl 2 (by decide) (hts _ q265) (v := .ref (g.1 4 0)) rfl dX7_wipe_9 ?_
  refine lv_iconst (v := 0) hx hb dX7_wipe_12 (by decide) ?_
  refine pO (T := TX3) (ty0 := tyX3) locX C0 inA3 tyX3_ok nmX3 hK hP hA hS (xPad g) rfl 1 (by decide) (hts _ q150) rfl 0 0 rfl rfl rfl (Nat.le_of_ble_eq_true rfl) dX7_wipe_13 (fun H locs hP hS => ?_)
  refine lv_iload_n hx hb dX7_wipe_16 rfl (lv_at hl 0 rfl) ?_
  exact ri hQ C0 hr hlocks hK hP hS (by rw [← hF]; exact fin2 hf) dX7_wipe_17
def tX7_fault (S : St) : Int32 :=
  (tX3_faultPlace S)
set_option maxHeartbeats 4000000 in
set_option maxRecDepth 100000 in
theorem kX7_fault (l : Launch) (g : Gd) (A : Nat → Prop) (hA : Ads g.1 VX A) (S : St)  : Met l yX7_fault (wU yX7_fault cX7_fault 1 (some .int)) { frames := 4, cells := 0, slots := 0, locals := 85 } (va_Pc [.ref (g.1 12 0)] (PW VX ctX g S)) (va_Qi (fun r u => r = tX7_fault S ∧ u = S) (fun u U => PW VX ctX g u U) A) 0 0 A := by
  refine ent (cc := cX7_fault) (maxL := 1) (ret := (some .int)) (by decide) (Nat.le_of_ble_eq_true rfl) ?_
  intro p e s m below meth c args Q C0 hr hlocks hP hK hQ ls hl
  have hx := C0.1
  have hb := C0.2.1
  have hml := C0.2.2.1
  have hown := C0.2.2.2.1
  have hts := C0.2.2.2.2
  obtain ⟨F, hF⟩ : ∃ F : Int32, F = tX7_fault S := ⟨_, rfl⟩
  have hf := hF
  unfold tX7_fault at hf
  have hS : va_S A s.heap s.heap [] := va_S.rf
  have hl : lv_has ls 1 [(0, .ref (g.1 12 0))] := hl
  refine lv_aload_n hx hb dX7_fault_0 rfl (lv_at hl 0 rfl) ?_
  refine gO (T := TX7) C0 inA7 hK hP (xMain g) rfl 2 (by decide) (hts _ q265) (v := .ref (g.1 4 0)) rfl dX7_fault_1 ?_
  refine kiP (va_runV (As := []) (rest := []) C0 (kX3_faultPlace l g A hA S ) (cwV 0 hts (gV q364 q365 q366 q49 q367) rfl rfl rfl (by decide +kernel) ⟨Nat.le_of_ble_eq_true rfl, Nat.le_of_ble_eq_true rfl⟩) (preV (recO (xPad g) hP hK rfl) hP hK) rfl rfl hl.1 rfl (lv_room (Nat.le_of_ble_eq_true rfl)) dX7_fault_4 ⟨Nat.zero_le _, Nat.zero_le _⟩) hS (fun _ h => h) (fun H locs hP hS => ?_)
  exact ri hQ C0 hr hlocks hK hP hS (by rw [← hF]; exact ⟨hf.symm, rfl⟩) dX7_fault_7
def tX7_judge (S : St) (p1 : Int32) : Int32 × St :=
  (if wi p1 0 2 then (bnd (tX7_tryVoyages S).2 (fun zS4 => bnd (tX7_tryVoyages S).1 (fun zr3 => (if zr3 = (-5) then ((-5), zS4) else (if p1 = 0 then ((zS4.1 5 0 1), zS4) else (if p1 = 1 then ((zS4.1 5 0 2), zS4) else (if zr3 = 0 then ((zS4.1 5 0 3), zS4) else (zr3, zS4)))))))) else ((-2), S))
set_option maxHeartbeats 4000000 in
set_option maxRecDepth 100000 in
theorem kX7_judge (l : Launch) (g : Gd) (A : Nat → Prop) (hA : Ads g.1 VX A) (S : St) (p1 : Int32) : Met l yX7_judge (wU yX7_judge cX7_judge 3 (some .int)) { frames := 6, cells := 0, slots := 0, locals := 137 } (va_Pc [.ref (g.1 12 0), .int p1] (PW VX ctX g S)) (va_Qi (fun r u => r = (tX7_judge S p1).1 ∧ u = (tX7_judge S p1).2) (fun u U => PW VX ctX g u U) A) 0 0 A := by
  refine ent (cc := cX7_judge) (maxL := 3) (ret := (some .int)) (by decide) (Nat.le_of_ble_eq_true rfl) ?_
  intro p e s m below meth c args Q C0 hr hlocks hP hK hQ ls hl
  have hx := C0.1
  have hb := C0.2.1
  have hml := C0.2.2.1
  have hown := C0.2.2.2.1
  have hts := C0.2.2.2.2
  obtain ⟨F, hF⟩ : ∃ F : Int32 × St, F = tX7_judge S p1 := ⟨_, rfl⟩
  have hf := hF
  unfold tX7_judge at hf
  have hS : va_S A s.heap s.heap [] := va_S.rf
  have hl : lv_has ls 3 [(0, .ref (g.1 12 0)), (1, .int p1)] := hl
  refine lv_iload_n hx hb dX7_judge_0 rfl (lv_at hl 1 rfl) ?_
  refine lv_iconst (v := 0) hx hb dX7_judge_1 (by decide) ?_
  refine lv_iconst (v := 2) hx hb dX7_judge_2 (by decide) ?_
  refine kzc (va_runS (As := [.int p1, .int 0, .int 2]) (rest := []) C0 (kX7_within l g A hA S p1 0 2) (va_cwS 3 hts (gS q297 q298 q46 q299) rfl rfl rfl (by decide +kernel) ⟨Nat.le_of_ble_eq_true rfl, Nat.le_of_ble_eq_true rfl⟩) (preS hP hK) rfl rfl hl.1 rfl (lv_room (Nat.le_of_ble_eq_true rfl)) dX7_judge_3 ⟨Nat.zero_le _, Nat.zero_le _⟩) hS (fun _ h => h) (fun zc1 H locs hP hS => ?_) (fun zc1 H locs hP hS => ?_)
  · have hf := hf.trans (if_pos zc1)
    refine lv_if_ne (tgt := 12) hx hb dX7_judge_6 (by decide) (fun zc2 => ?_) (fun zc2 => absurd zc2 (by decide))
    refine lv_aload_n hx hb dX7_judge_12 rfl (lv_at hl 0 rfl) ?_
    refine ki (va_runV (As := []) (rest := []) C0 (kX7_tryVoyages l g A hA S ) (cwV 0 hts (gV q386 q388 q0 q46 q389) rfl rfl rfl (by decide +kernel) ⟨Nat.le_of_ble_eq_true rfl, Nat.le_of_ble_eq_true rfl⟩) (preV (recO (xMain g) hP hK rfl) hP hK) rfl rfl hl.1 rfl (lv_room (Nat.le_of_ble_eq_true rfl)) dX7_judge_13 ⟨Nat.zero_le _, Nat.zero_le _⟩) hS (fun _ h => h) (fun zr3 zS4 H locs hw hP hS => ?_)
    have hf := (hf.trans (bnd_eq hw.2)).trans (bnd_eq hw.1)
    refine lv_istore_n (lv' := [(2, .int zr3), (0, .ref (g.1 12 0)), (1, .int p1)]) hx hb dX7_judge_16 rfl hl (by decide) rfl (fun ls hl => ?_)
    refine lv_iload_n hx hb dX7_judge_17 rfl (lv_at hl 0 rfl) ?_
    refine lv_bipush (v := (-5)) hx hb dX7_judge_18 (by decide) ?_
    refine lv_icmp_ne (tgt := 26) hx hb dX7_judge_20 (by decide) (fun zc5 => ?_) (fun zc5 => ?_)
    · have hf := hf.trans (if_neg zc5)
      refine lv_iload_n hx hb dX7_judge_26 rfl (lv_at hl 2 rfl) ?_
      refine lv_if_ne (tgt := 38) hx hb dX7_judge_27 (by decide) (fun zc6 => ?_) (fun zc6 => ?_)
      · have hf := hf.trans (if_neg zc6)
        refine lv_iload_n hx hb dX7_judge_38 rfl (lv_at hl 2 rfl) ?_
        refine lv_iconst (v := 1) hx hb dX7_judge_39 (by decide) ?_
        refine lv_icmp_ne (tgt := 51) hx hb dX7_judge_40 (by decide) (fun zc7 => ?_) (fun zc7 => ?_)
        · have hf := hf.trans (if_neg zc7)
          refine lv_iload_n hx hb dX7_judge_51 rfl (lv_at hl 0 rfl) ?_
          refine lv_if_ne (tgt := 65) hx hb dX7_judge_52 (by decide) (fun zc8 => ?_) (fun zc8 => ?_)
          · have hf := hf.trans (if_neg zc8)
            refine lv_iload_n hx hb dX7_judge_65 rfl (lv_at hl 0 rfl) ?_
            exact ri hQ C0 hr hlocks hK hP hS (by rw [← hF]; exact fin2 hf) dX7_judge_66
          · have hf := hf.trans (if_pos zc8)
            refine lv_aload_n hx hb dX7_judge_55 rfl (lv_at hl 1 rfl) ?_
            refine gO (T := TX7) C0 inA7 hK hP (xMain g) rfl 3 (by decide) (hts _ q266) (v := .ref (g.1 5 0)) rfl dX7_judge_56 ?_
            refine gO (T := TX6) C0 inA6 hK hP (xVoy g) rfl 3 (by decide) (hts _ q169) (v := .int (zS4.1 5 0 3)) rfl dX7_judge_59 ?_
            refine lv_goto (tgt := 66) hx hb dX7_judge_62 (by decide) ?_
            exact ri hQ C0 hr hlocks hK hP hS (by rw [← hF]; exact fin2 hf) dX7_judge_66
        · have hf := hf.trans (if_pos zc7)
          refine lv_aload_n hx hb dX7_judge_43 rfl (lv_at hl 1 rfl) ?_
          refine gO (T := TX7) C0 inA7 hK hP (xMain g) rfl 3 (by decide) (hts _ q266) (v := .ref (g.1 5 0)) rfl dX7_judge_44 ?_
          refine gO (T := TX6) C0 inA6 hK hP (xVoy g) rfl 2 (by decide) (hts _ q167) (v := .int (zS4.1 5 0 2)) rfl dX7_judge_47 ?_
          exact ri hQ C0 hr hlocks hK hP hS (by rw [← hF]; exact fin2 hf) dX7_judge_50
      · have hf := hf.trans (if_pos zc6)
        refine lv_aload_n hx hb dX7_judge_30 rfl (lv_at hl 1 rfl) ?_
        refine gO (T := TX7) C0 inA7 hK hP (xMain g) rfl 3 (by decide) (hts _ q266) (v := .ref (g.1 5 0)) rfl dX7_judge_31 ?_
        refine gO (T := TX6) C0 inA6 hK hP (xVoy g) rfl 1 (by decide) (hts _ q165) (v := .int (zS4.1 5 0 1)) rfl dX7_judge_34 ?_
        exact ri hQ C0 hr hlocks hK hP hS (by rw [← hF]; exact fin2 hf) dX7_judge_37
    · have hf := hf.trans (if_pos zc5)
      refine lv_bipush (v := (-5)) hx hb dX7_judge_23 (by decide) ?_
      exact ri hQ C0 hr hlocks hK hP hS (by rw [← hF]; exact fin2 hf) dX7_judge_25
  · have hf := hf.trans (if_neg zc1)
    refine lv_if_ne (tgt := 12) hx hb dX7_judge_6 (by decide) (fun zc9 => absurd (by decide) zc9) (fun zc9 => ?_)
    refine lv_bipush (v := (-2)) hx hb dX7_judge_9 (by decide) ?_
    exact ri hQ C0 hr hlocks hK hP hS (by rw [← hF]; exact fin2 hf) dX7_judge_11
def tX7_behind (S : St) (p1 : Int32) (p2 : Int32) : Int32 × St :=
  (if isAt S 0 p1 then (if wi p2 0 4 then (bnd (tX7_tryVoyages S).2 (fun zS5 => bnd (tX7_tryVoyages S).1 (fun zr4 => (if zr4 = 0 then (if isAt zS5 1 p1 then (if p2 = 0 then ((zS5.1 1 (Int32.toNatClampNeg p1) 2), zS5) else (if p2 = 1 then ((zS5.1 1 (Int32.toNatClampNeg p1) 5), zS5) else (if p2 = 2 then ((tX4_allSums zS5 1 (Int32.toNatClampNeg p1)), zS5) else (if p2 = 3 then ((tX2_riskWith zS5 1 (Int32.toNatClampNeg p1) (zS5.1 1 (Int32.toNatClampNeg p1) 5)), zS5) else (if (b01 (zS5.1 1 (Int32.toNatClampNeg p1) 1)) = 0 then (0, zS5) else (1, zS5)))))) else ((-1), zS5)) else (zr4, zS5))))) else ((-2), S)) else ((-1), S))
set_option maxHeartbeats 4000000 in
set_option maxRecDepth 100000 in
theorem kX7_behind (l : Launch) (g : Gd) (A : Nat → Prop) (hA : Ads g.1 VX A) (S : St) (p1 : Int32) (p2 : Int32) : Met l yX7_behind (wU yX7_behind cX7_behind 5 (some .int)) { frames := 6, cells := 0, slots := 0, locals := 137 } (va_Pc [.ref (g.1 12 0), .int p1, .int p2] (PW VX ctX g S)) (va_Qi (fun r u => r = (tX7_behind S p1 p2).1 ∧ u = (tX7_behind S p1 p2).2) (fun u U => PW VX ctX g u U) A) 0 0 A := by
  refine ent (cc := cX7_behind) (maxL := 5) (ret := (some .int)) (by decide) (Nat.le_of_ble_eq_true rfl) ?_
  intro p e s m below meth c args Q C0 hr hlocks hP hK hQ ls hl
  have hx := C0.1
  have hb := C0.2.1
  have hml := C0.2.2.1
  have hown := C0.2.2.2.1
  have hts := C0.2.2.2.2
  obtain ⟨F, hF⟩ : ∃ F : Int32 × St, F = tX7_behind S p1 p2 := ⟨_, rfl⟩
  have hf := hF
  unfold tX7_behind at hf
  have hS : va_S A s.heap s.heap [] := va_S.rf
  have hl : lv_has ls 5 [(0, .ref (g.1 12 0)), (1, .int p1), (2, .int p2)] := hl
  refine lv_aload_n hx hb dX7_behind_0 rfl (lv_at hl 0 rfl) ?_
  refine gO (T := TX7) C0 inA7 hK hP (xMain g) rfl 0 (by decide) (hts _ q263) (v := .ref (g.1 0 6)) rfl dX7_behind_1 ?_
  refine lv_iload_n hx hb dX7_behind_4 rfl (lv_at hl 1 rfl) ?_
  refine kqc (va_runV (As := [.int p1]) (rest := []) C0 (kX2_shipAt l g A hA S 0 p1 (by decide)) (cwV 1 hts (gV q327 q313 q314 q47 q315) rfl rfl rfl (by decide +kernel) ⟨Nat.le_of_ble_eq_true rfl, Nat.le_of_ble_eq_true rfl⟩) (preV (recO (xOwner g (by decide)) hP hK rfl) hP hK) rfl rfl hl.1 rfl (lv_room (Nat.le_of_ble_eq_true rfl)) dX7_behind_5 ⟨Nat.zero_le _, Nat.zero_le _⟩) hS (fun _ h => h) (fun zc1 H locs hP hS => ?_) (fun zc1 H locs hP hS => ?_)
  · have hf := hf.trans (if_pos zc1)
    refine lv_ifnonnull (tgt := 13) hx hb dX7_behind_8 (by decide) ?_
    refine lv_iload_n hx hb dX7_behind_13 rfl (lv_at hl 2 rfl) ?_
    refine lv_iconst (v := 0) hx hb dX7_behind_14 (by decide) ?_
    refine lv_iconst (v := 4) hx hb dX7_behind_15 (by decide) ?_
    refine kzc (va_runS (As := [.int p2, .int 0, .int 4]) (rest := []) C0 (kX7_within l g A hA S p2 0 4) (va_cwS 3 hts (gS q297 q298 q46 q299) rfl rfl rfl (by decide +kernel) ⟨Nat.le_of_ble_eq_true rfl, Nat.le_of_ble_eq_true rfl⟩) (preS hP hK) rfl rfl hl.1 rfl (lv_room (Nat.le_of_ble_eq_true rfl)) dX7_behind_16 ⟨Nat.zero_le _, Nat.zero_le _⟩) hS (fun _ h => h) (fun zc2 H locs hP hS => ?_) (fun zc2 H locs hP hS => ?_)
    · have hf := hf.trans (if_pos zc2)
      refine lv_if_ne (tgt := 25) hx hb dX7_behind_19 (by decide) (fun zc3 => ?_) (fun zc3 => absurd zc3 (by decide))
      refine lv_aload_n hx hb dX7_behind_25 rfl (lv_at hl 0 rfl) ?_
      refine ki (va_runV (As := []) (rest := []) C0 (kX7_tryVoyages l g A hA S ) (cwV 0 hts (gV q386 q388 q0 q46 q389) rfl rfl rfl (by decide +kernel) ⟨Nat.le_of_ble_eq_true rfl, Nat.le_of_ble_eq_true rfl⟩) (preV (recO (xMain g) hP hK rfl) hP hK) rfl rfl hl.1 rfl (lv_room (Nat.le_of_ble_eq_true rfl)) dX7_behind_26 ⟨Nat.zero_le _, Nat.zero_le _⟩) hS (fun _ h => h) (fun zr4 zS5 H locs hw hP hS => ?_)
      have hf := (hf.trans (bnd_eq hw.2)).trans (bnd_eq hw.1)
      refine lv_istore_n (lv' := [(3, .int zr4), (0, .ref (g.1 12 0)), (1, .int p1), (2, .int p2)]) hx hb dX7_behind_29 rfl hl (by decide) rfl (fun ls hl => ?_)
      refine lv_iload_n hx hb dX7_behind_30 rfl (lv_at hl 0 rfl) ?_
      refine lv_if_eq (tgt := 36) hx hb dX7_behind_31 (by decide) (fun zc6 => ?_) (fun zc6 => ?_)
      · have hf := hf.trans (if_pos zc6)
        refine lv_aload_n hx hb dX7_behind_36 rfl (lv_at hl 1 rfl) ?_
        refine gO (T := TX7) C0 inA7 hK hP (xMain g) rfl 1 (by decide) (hts _ q264) (v := .ref (g.1 1 6)) rfl dX7_behind_37 ?_
        refine lv_iload_n hx hb dX7_behind_40 rfl (lv_at hl 2 rfl) ?_
        refine kqc (va_runV (As := [.int p1]) (rest := []) C0 (kX2_shipAt l g A hA zS5 1 p1 (by decide)) (cwV 1 hts (gV q327 q313 q314 q47 q315) rfl rfl rfl (by decide +kernel) ⟨Nat.le_of_ble_eq_true rfl, Nat.le_of_ble_eq_true rfl⟩) (preV (recO (xOwner g (by decide)) hP hK rfl) hP hK) rfl rfl hl.1 rfl (lv_room (Nat.le_of_ble_eq_true rfl)) dX7_behind_41 ⟨Nat.zero_le _, Nat.zero_le _⟩) hS (fun _ h => h) (fun zc7 H locs hP hS => ?_) (fun zc7 H locs hP hS => ?_)
        · have hf := hf.trans (if_pos zc7)
          refine lv_astore (lv' := [(4, .ref (g.1 1 (Int32.toNatClampNeg p1))), (3, .int zr4), (0, .ref (g.1 12 0)), (1, .int p1), (2, .int p2)]) hx hb dX7_behind_44 hl (by decide) rfl (fun ls hl => ?_)
          refine lv_aload hx hb dX7_behind_46 (lv_at hl 0 rfl) ?_
          refine lv_ifnonnull (tgt := 53) hx hb dX7_behind_48 (by decide) ?_
          refine lv_iload_n hx hb dX7_behind_53 rfl (lv_at hl 4 rfl) ?_
          by_cases zc8 : p2 = 0
          · have hf := hf.trans (if_pos zc8)
            refine lv_tableIn (off := 30) (tgt := 84) hx hb dX7_behind_54 (by rw [zc8]; decide) (by rw [zc8]; decide) (by rw [zc8]; decide) (by decide) ?_
            refine lv_aload hx hb dX7_behind_84 (lv_at hl 0 rfl) ?_
            refine gO (T := TX4) C0 inA4 hK hP (xShip g (by decide) (plc_lt zc7.1)) rfl 2 (by decide) (hts _ q86) (v := .int (zS5.1 1 (Int32.toNatClampNeg p1) 2)) rfl dX7_behind_86 ?_
            exact ri hQ C0 hr hlocks hK hP hS (by rw [← hF]; exact fin2 hf) dX7_behind_89
          · have hf := hf.trans (if_neg zc8)
            by_cases zc9 : p2 = 1
            · have hf := hf.trans (if_pos zc9)
              refine lv_tableIn (off := 36) (tgt := 90) hx hb dX7_behind_54 (by rw [zc9]; decide) (by rw [zc9]; decide) (by rw [zc9]; decide) (by decide) ?_
              refine lv_aload hx hb dX7_behind_90 (lv_at hl 0 rfl) ?_
              refine gO (T := TX4) C0 inA4 hK hP (xShip g (by decide) (plc_lt zc7.1)) rfl 5 (by decide) (hts _ q94) (v := .int (zS5.1 1 (Int32.toNatClampNeg p1) 5)) rfl dX7_behind_92 ?_
              exact ri hQ C0 hr hlocks hK hP hS (by rw [← hF]; exact fin2 hf) dX7_behind_95
            · have hf := hf.trans (if_neg zc9)
              by_cases zc10 : p2 = 2
              · have hf := hf.trans (if_pos zc10)
                refine lv_tableIn (off := 42) (tgt := 96) hx hb dX7_behind_54 (by rw [zc10]; decide) (by rw [zc10]; decide) (by rw [zc10]; decide) (by decide) ?_
                refine lv_aload hx hb dX7_behind_96 (lv_at hl 0 rfl) ?_
                refine kiP (va_runV (As := []) (rest := []) C0 (kX4_allSums l g A hA zS5 1 (Int32.toNatClampNeg p1) (by decide) (plc_lt zc7.1)) (cwV 0 hts (gV q468 q457 q458 q48 q459) rfl rfl rfl (by decide +kernel) ⟨Nat.le_of_ble_eq_true rfl, Nat.le_of_ble_eq_true rfl⟩) (preV (recO (xShip g (by decide) (plc_lt zc7.1)) hP hK rfl) hP hK) rfl rfl hl.1 rfl (lv_room (Nat.le_of_ble_eq_true rfl)) dX7_behind_98 ⟨Nat.zero_le _, Nat.zero_le _⟩) hS (fun _ h => h) (fun H locs hP hS => ?_)
                exact ri hQ C0 hr hlocks hK hP hS (by rw [← hF]; exact fin2 hf) dX7_behind_101
              · have hf := hf.trans (if_neg zc10)
                by_cases zc11 : p2 = 3
                · have hf := hf.trans (if_pos zc11)
                  refine lv_tableIn (off := 48) (tgt := 102) hx hb dX7_behind_54 (by rw [zc11]; decide) (by rw [zc11]; decide) (by rw [zc11]; decide) (by decide) ?_
                  refine lv_aload_n hx hb dX7_behind_102 rfl (lv_at hl 2 rfl) ?_
                  refine gO (T := TX7) C0 inA7 hK hP (xMain g) rfl 1 (by decide) (hts _ q264) (v := .ref (g.1 1 6)) rfl dX7_behind_103 ?_
                  refine lv_aload hx hb dX7_behind_106 (lv_at hl 0 rfl) ?_
                  refine lv_aload hx hb dX7_behind_108 (lv_at hl 0 rfl) ?_
                  refine gO (T := TX4) C0 inA4 hK hP (xShip g (by decide) (plc_lt zc7.1)) rfl 5 (by decide) (hts _ q94) (v := .int (zS5.1 1 (Int32.toNatClampNeg p1) 5)) rfl dX7_behind_110 ?_
                  refine kiP (va_runV (As := [.ref (g.1 1 (Int32.toNatClampNeg p1)), .int (zS5.1 1 (Int32.toNatClampNeg p1) 5)]) (rest := []) C0 (kX2_riskWith l g A hA zS5 1 (Int32.toNatClampNeg p1) (zS5.1 1 (Int32.toNatClampNeg p1) 5) (by decide) (plc_lt zc7.1)) (cwV 2 hts (gV q469 q437 q438 q47 q439) rfl rfl rfl (by decide +kernel) ⟨Nat.le_of_ble_eq_true rfl, Nat.le_of_ble_eq_true rfl⟩) (preV (recO (xOwner g (by decide)) hP hK rfl) hP hK) rfl rfl hl.1 rfl (lv_room (Nat.le_of_ble_eq_true rfl)) dX7_behind_113 ⟨Nat.zero_le _, Nat.zero_le _⟩) hS (fun _ h => h) (fun H locs hP hS => ?_)
                  exact ri hQ C0 hr hlocks hK hP hS (by rw [← hF]; exact fin2 hf) dX7_behind_116
                · have hf := hf.trans (if_neg zc11)
                  refine lv_tableOut (tgt := 117) hx hb dX7_behind_54 (by have h0 := lv_neT (a := 0) zc8 (by decide); have h1 := lv_neT (a := 1) zc9 (by decide); have h2 := lv_neT (a := 2) zc10 (by decide); have h3 := lv_neT (a := 3) zc11 (by decide); omega) (by decide) ?_
                  refine lv_aload hx hb dX7_behind_117 (lv_at hl 0 rfl) ?_
                  refine gO (T := TX4) C0 inA4 hK hP (xShip g (by decide) (plc_lt zc7.1)) rfl 1 (by decide) (hts _ q83) (v := .int (b01 (zS5.1 1 (Int32.toNatClampNeg p1) 1))) rfl dX7_behind_119 ?_
                  refine lv_if_eq (tgt := 129) hx hb dX7_behind_122 (by decide) (fun zc12 => ?_) (fun zc12 => ?_)
                  · have hf := hf.trans (if_pos zc12)
                    refine lv_iconst (v := 0) hx hb dX7_behind_129 (by decide) ?_
                    exact ri hQ C0 hr hlocks hK hP hS (by rw [← hF]; exact fin2 hf) dX7_behind_130
                  · have hf := hf.trans (if_neg zc12)
                    refine lv_iconst (v := 1) hx hb dX7_behind_125 (by decide) ?_
                    refine lv_goto (tgt := 130) hx hb dX7_behind_126 (by decide) ?_
                    exact ri hQ C0 hr hlocks hK hP hS (by rw [← hF]; exact fin2 hf) dX7_behind_130
        · have hf := hf.trans (if_neg zc7)
          refine lv_astoreN (lv' := [(4, .null), (3, .int zr4), (0, .ref (g.1 12 0)), (1, .int p1), (2, .int p2)]) hx hb dX7_behind_44 hl (by decide) rfl (fun ls hl => ?_)
          refine lv_aloadN hx hb dX7_behind_46 (lv_at hl 0 rfl) ?_
          refine lv_ifnonnullN hx hb dX7_behind_48 ?_
          refine lv_iconst (v := (-1)) hx hb dX7_behind_51 (by decide) ?_
          exact ri hQ C0 hr hlocks hK hP hS (by rw [← hF]; exact fin2 hf) dX7_behind_52
      · have hf := hf.trans (if_neg zc6)
        refine lv_iload_n hx hb dX7_behind_34 rfl (lv_at hl 0 rfl) ?_
        exact ri hQ C0 hr hlocks hK hP hS (by rw [← hF]; exact fin2 hf) dX7_behind_35
    · have hf := hf.trans (if_neg zc2)
      refine lv_if_ne (tgt := 25) hx hb dX7_behind_19 (by decide) (fun zc13 => absurd (by decide) zc13) (fun zc13 => ?_)
      refine lv_bipush (v := (-2)) hx hb dX7_behind_22 (by decide) ?_
      exact ri hQ C0 hr hlocks hK hP hS (by rw [← hF]; exact fin2 hf) dX7_behind_24
  · have hf := hf.trans (if_neg zc1)
    refine lv_ifnonnullN hx hb dX7_behind_8 ?_
    refine lv_iconst (v := (-1)) hx hb dX7_behind_11 (by decide) ?_
    exact ri hQ C0 hr hlocks hK hP hS (by rw [← hF]; exact fin2 hf) dX7_behind_12
def tX7_total (S : St) (p1 : Int32) : Int32 × St :=
  (if wi p1 0 3 then (bnd (tX7_tryVoyages S).2 (fun zS4 => bnd (tX7_tryVoyages S).1 (fun zr3 => (if zr3 = 0 then (if p1 = 0 then (((zS4.1 1 6 4) + 100000), zS4) else (if p1 = 1 then ((zS4.1 1 6 5), zS4) else (if p1 = 2 then ((zS4.1 1 6 2), zS4) else ((zS4.1 1 6 3), zS4)))) else (zr3, zS4))))) else ((-2), S))
set_option maxHeartbeats 4000000 in
set_option maxRecDepth 100000 in
theorem kX7_total (l : Launch) (g : Gd) (A : Nat → Prop) (hA : Ads g.1 VX A) (S : St) (p1 : Int32) : Met l yX7_total (wU yX7_total cX7_total 3 (some .int)) { frames := 6, cells := 0, slots := 0, locals := 137 } (va_Pc [.ref (g.1 12 0), .int p1] (PW VX ctX g S)) (va_Qi (fun r u => r = (tX7_total S p1).1 ∧ u = (tX7_total S p1).2) (fun u U => PW VX ctX g u U) A) 0 0 A := by
  refine ent (cc := cX7_total) (maxL := 3) (ret := (some .int)) (by decide) (Nat.le_of_ble_eq_true rfl) ?_
  intro p e s m below meth c args Q C0 hr hlocks hP hK hQ ls hl
  have hx := C0.1
  have hb := C0.2.1
  have hml := C0.2.2.1
  have hown := C0.2.2.2.1
  have hts := C0.2.2.2.2
  obtain ⟨F, hF⟩ : ∃ F : Int32 × St, F = tX7_total S p1 := ⟨_, rfl⟩
  have hf := hF
  unfold tX7_total at hf
  have hS : va_S A s.heap s.heap [] := va_S.rf
  have hl : lv_has ls 3 [(0, .ref (g.1 12 0)), (1, .int p1)] := hl
  refine lv_iload_n hx hb dX7_total_0 rfl (lv_at hl 1 rfl) ?_
  refine lv_iconst (v := 0) hx hb dX7_total_1 (by decide) ?_
  refine lv_iconst (v := 3) hx hb dX7_total_2 (by decide) ?_
  refine kzc (va_runS (As := [.int p1, .int 0, .int 3]) (rest := []) C0 (kX7_within l g A hA S p1 0 3) (va_cwS 3 hts (gS q297 q298 q46 q299) rfl rfl rfl (by decide +kernel) ⟨Nat.le_of_ble_eq_true rfl, Nat.le_of_ble_eq_true rfl⟩) (preS hP hK) rfl rfl hl.1 rfl (lv_room (Nat.le_of_ble_eq_true rfl)) dX7_total_3 ⟨Nat.zero_le _, Nat.zero_le _⟩) hS (fun _ h => h) (fun zc1 H locs hP hS => ?_) (fun zc1 H locs hP hS => ?_)
  · have hf := hf.trans (if_pos zc1)
    refine lv_if_ne (tgt := 12) hx hb dX7_total_6 (by decide) (fun zc2 => ?_) (fun zc2 => absurd zc2 (by decide))
    refine lv_aload_n hx hb dX7_total_12 rfl (lv_at hl 0 rfl) ?_
    refine ki (va_runV (As := []) (rest := []) C0 (kX7_tryVoyages l g A hA S ) (cwV 0 hts (gV q386 q388 q0 q46 q389) rfl rfl rfl (by decide +kernel) ⟨Nat.le_of_ble_eq_true rfl, Nat.le_of_ble_eq_true rfl⟩) (preV (recO (xMain g) hP hK rfl) hP hK) rfl rfl hl.1 rfl (lv_room (Nat.le_of_ble_eq_true rfl)) dX7_total_13 ⟨Nat.zero_le _, Nat.zero_le _⟩) hS (fun _ h => h) (fun zr3 zS4 H locs hw hP hS => ?_)
    have hf := (hf.trans (bnd_eq hw.2)).trans (bnd_eq hw.1)
    refine lv_istore_n (lv' := [(2, .int zr3), (0, .ref (g.1 12 0)), (1, .int p1)]) hx hb dX7_total_16 rfl hl (by decide) rfl (fun ls hl => ?_)
    refine lv_iload_n hx hb dX7_total_17 rfl (lv_at hl 0 rfl) ?_
    refine lv_if_eq (tgt := 23) hx hb dX7_total_18 (by decide) (fun zc5 => ?_) (fun zc5 => ?_)
    · have hf := hf.trans (if_pos zc5)
      refine lv_iload_n hx hb dX7_total_23 rfl (lv_at hl 2 rfl) ?_
      by_cases zc6 : p1 = 0
      · have hf := hf.trans (if_pos zc6)
        refine lv_tableIn (off := 28) (tgt := 52) hx hb dX7_total_24 (by rw [zc6]; decide) (by rw [zc6]; decide) (by rw [zc6]; decide) (by decide) ?_
        refine lv_aload_n hx hb dX7_total_52 rfl (lv_at hl 1 rfl) ?_
        refine gO (T := TX7) C0 inA7 hK hP (xMain g) rfl 1 (by decide) (hts _ q264) (v := .ref (g.1 1 6)) rfl dX7_total_53 ?_
        refine gO (T := TX2) C0 inA2 hK hP (xOwner g (by decide)) rfl 5 (by decide) (hts _ q123) (v := .int (zS4.1 1 6 4)) rfl dX7_total_56 ?_
        refine lv_ldc (v := 100000) hx hb hown (hts _ q474) dX7_total_59 ?_
        refine lv_iadd hx hb dX7_total_61 ?_
        exact ri hQ C0 hr hlocks hK hP hS (by rw [← hF]; exact fin2 hf) dX7_total_62
      · have hf := hf.trans (if_neg zc6)
        by_cases zc7 : p1 = 1
        · have hf := hf.trans (if_pos zc7)
          refine lv_tableIn (off := 39) (tgt := 63) hx hb dX7_total_24 (by rw [zc7]; decide) (by rw [zc7]; decide) (by rw [zc7]; decide) (by decide) ?_
          refine lv_aload_n hx hb dX7_total_63 rfl (lv_at hl 1 rfl) ?_
          refine gO (T := TX7) C0 inA7 hK hP (xMain g) rfl 1 (by decide) (hts _ q264) (v := .ref (g.1 1 6)) rfl dX7_total_64 ?_
          refine gO (T := TX2) C0 inA2 hK hP (xOwner g (by decide)) rfl 6 (by decide) (hts _ q125) (v := .int (zS4.1 1 6 5)) rfl dX7_total_67 ?_
          exact ri hQ C0 hr hlocks hK hP hS (by rw [← hF]; exact fin2 hf) dX7_total_70
        · have hf := hf.trans (if_neg zc7)
          by_cases zc8 : p1 = 2
          · have hf := hf.trans (if_pos zc8)
            refine lv_tableIn (off := 47) (tgt := 71) hx hb dX7_total_24 (by rw [zc8]; decide) (by rw [zc8]; decide) (by rw [zc8]; decide) (by decide) ?_
            refine lv_aload_n hx hb dX7_total_71 rfl (lv_at hl 1 rfl) ?_
            refine gO (T := TX7) C0 inA7 hK hP (xMain g) rfl 1 (by decide) (hts _ q264) (v := .ref (g.1 1 6)) rfl dX7_total_72 ?_
            refine gO (T := TX2) C0 inA2 hK hP (xOwner g (by decide)) rfl 3 (by decide) (hts _ q119) (v := .int (zS4.1 1 6 2)) rfl dX7_total_75 ?_
            exact ri hQ C0 hr hlocks hK hP hS (by rw [← hF]; exact fin2 hf) dX7_total_78
          · have hf := hf.trans (if_neg zc8)
            refine lv_tableOut (tgt := 79) hx hb dX7_total_24 (by have h0 := lv_neT (a := 0) zc6 (by decide); have h1 := lv_neT (a := 1) zc7 (by decide); have h2 := lv_neT (a := 2) zc8 (by decide); omega) (by decide) ?_
            refine lv_aload_n hx hb dX7_total_79 rfl (lv_at hl 1 rfl) ?_
            refine gO (T := TX7) C0 inA7 hK hP (xMain g) rfl 1 (by decide) (hts _ q264) (v := .ref (g.1 1 6)) rfl dX7_total_80 ?_
            refine gO (T := TX2) C0 inA2 hK hP (xOwner g (by decide)) rfl 4 (by decide) (hts _ q121) (v := .int (zS4.1 1 6 3)) rfl dX7_total_83 ?_
            exact ri hQ C0 hr hlocks hK hP hS (by rw [← hF]; exact fin2 hf) dX7_total_86
    · have hf := hf.trans (if_neg zc5)
      refine lv_iload_n hx hb dX7_total_21 rfl (lv_at hl 0 rfl) ?_
      exact ri hQ C0 hr hlocks hK hP hS (by rw [← hF]; exact fin2 hf) dX7_total_22
  · have hf := hf.trans (if_neg zc1)
    refine lv_if_ne (tgt := 12) hx hb dX7_total_6 (by decide) (fun zc9 => absurd (by decide) zc9) (fun zc9 => ?_)
    refine lv_bipush (v := (-2)) hx hb dX7_total_9 (by decide) ?_
    exact ri hQ C0 hr hlocks hK hP hS (by rw [← hF]; exact fin2 hf) dX7_total_11
def tX7_sunk (S : St) (p1 : Int32) : Int32 × St :=
  (if wi p1 0 2 then (bnd (tX7_tryVoyages S).2 (fun zS4 => bnd (tX7_tryVoyages S).1 (fun zr3 => (if zr3 = 0 then (if p1 = 0 then ((zS4.1 5 0 4), zS4) else (if p1 = 1 then ((zS4.1 5 0 5), zS4) else ((zS4.1 5 0 6), zS4))) else (zr3, zS4))))) else ((-2), S))
set_option maxHeartbeats 4000000 in
set_option maxRecDepth 100000 in
theorem kX7_sunk (l : Launch) (g : Gd) (A : Nat → Prop) (hA : Ads g.1 VX A) (S : St) (p1 : Int32) : Met l yX7_sunk (wU yX7_sunk cX7_sunk 3 (some .int)) { frames := 6, cells := 0, slots := 0, locals := 137 } (va_Pc [.ref (g.1 12 0), .int p1] (PW VX ctX g S)) (va_Qi (fun r u => r = (tX7_sunk S p1).1 ∧ u = (tX7_sunk S p1).2) (fun u U => PW VX ctX g u U) A) 0 0 A := by
  refine ent (cc := cX7_sunk) (maxL := 3) (ret := (some .int)) (by decide) (Nat.le_of_ble_eq_true rfl) ?_
  intro p e s m below meth c args Q C0 hr hlocks hP hK hQ ls hl
  have hx := C0.1
  have hb := C0.2.1
  have hml := C0.2.2.1
  have hown := C0.2.2.2.1
  have hts := C0.2.2.2.2
  obtain ⟨F, hF⟩ : ∃ F : Int32 × St, F = tX7_sunk S p1 := ⟨_, rfl⟩
  have hf := hF
  unfold tX7_sunk at hf
  have hS : va_S A s.heap s.heap [] := va_S.rf
  have hl : lv_has ls 3 [(0, .ref (g.1 12 0)), (1, .int p1)] := hl
  refine lv_iload_n hx hb dX7_sunk_0 rfl (lv_at hl 1 rfl) ?_
  refine lv_iconst (v := 0) hx hb dX7_sunk_1 (by decide) ?_
  refine lv_iconst (v := 2) hx hb dX7_sunk_2 (by decide) ?_
  refine kzc (va_runS (As := [.int p1, .int 0, .int 2]) (rest := []) C0 (kX7_within l g A hA S p1 0 2) (va_cwS 3 hts (gS q297 q298 q46 q299) rfl rfl rfl (by decide +kernel) ⟨Nat.le_of_ble_eq_true rfl, Nat.le_of_ble_eq_true rfl⟩) (preS hP hK) rfl rfl hl.1 rfl (lv_room (Nat.le_of_ble_eq_true rfl)) dX7_sunk_3 ⟨Nat.zero_le _, Nat.zero_le _⟩) hS (fun _ h => h) (fun zc1 H locs hP hS => ?_) (fun zc1 H locs hP hS => ?_)
  · have hf := hf.trans (if_pos zc1)
    refine lv_if_ne (tgt := 12) hx hb dX7_sunk_6 (by decide) (fun zc2 => ?_) (fun zc2 => absurd zc2 (by decide))
    refine lv_aload_n hx hb dX7_sunk_12 rfl (lv_at hl 0 rfl) ?_
    refine ki (va_runV (As := []) (rest := []) C0 (kX7_tryVoyages l g A hA S ) (cwV 0 hts (gV q386 q388 q0 q46 q389) rfl rfl rfl (by decide +kernel) ⟨Nat.le_of_ble_eq_true rfl, Nat.le_of_ble_eq_true rfl⟩) (preV (recO (xMain g) hP hK rfl) hP hK) rfl rfl hl.1 rfl (lv_room (Nat.le_of_ble_eq_true rfl)) dX7_sunk_13 ⟨Nat.zero_le _, Nat.zero_le _⟩) hS (fun _ h => h) (fun zr3 zS4 H locs hw hP hS => ?_)
    have hf := (hf.trans (bnd_eq hw.2)).trans (bnd_eq hw.1)
    refine lv_istore_n (lv' := [(2, .int zr3), (0, .ref (g.1 12 0)), (1, .int p1)]) hx hb dX7_sunk_16 rfl hl (by decide) rfl (fun ls hl => ?_)
    refine lv_iload_n hx hb dX7_sunk_17 rfl (lv_at hl 0 rfl) ?_
    refine lv_if_eq (tgt := 23) hx hb dX7_sunk_18 (by decide) (fun zc5 => ?_) (fun zc5 => ?_)
    · have hf := hf.trans (if_pos zc5)
      refine lv_iload_n hx hb dX7_sunk_23 rfl (lv_at hl 2 rfl) ?_
      by_cases zc6 : p1 = 0
      · have hf := hf.trans (if_pos zc6)
        refine lv_lookup (off := 28) (tgt := 52) hx hb dX7_sunk_24 (by decide) (by rw [zc6]; decide) (by decide) ?_
        refine lv_aload_n hx hb dX7_sunk_52 rfl (lv_at hl 1 rfl) ?_
        refine gO (T := TX7) C0 inA7 hK hP (xMain g) rfl 3 (by decide) (hts _ q266) (v := .ref (g.1 5 0)) rfl dX7_sunk_53 ?_
        refine gO (T := TX6) C0 inA6 hK hP (xVoy g) rfl 4 (by decide) (hts _ q171) (v := .int (zS4.1 5 0 4)) rfl dX7_sunk_56 ?_
        exact ri hQ C0 hr hlocks hK hP hS (by rw [← hF]; exact fin2 hf) dX7_sunk_59
      · have hf := hf.trans (if_neg zc6)
        by_cases zc7 : p1 = 1
        · have hf := hf.trans (if_pos zc7)
          refine lv_lookup (off := 36) (tgt := 60) hx hb dX7_sunk_24 (by decide) (by rw [zc7]; decide) (by decide) ?_
          refine lv_aload_n hx hb dX7_sunk_60 rfl (lv_at hl 1 rfl) ?_
          refine gO (T := TX7) C0 inA7 hK hP (xMain g) rfl 3 (by decide) (hts _ q266) (v := .ref (g.1 5 0)) rfl dX7_sunk_61 ?_
          refine gO (T := TX6) C0 inA6 hK hP (xVoy g) rfl 5 (by decide) (hts _ q173) (v := .int (zS4.1 5 0 5)) rfl dX7_sunk_64 ?_
          exact ri hQ C0 hr hlocks hK hP hS (by rw [← hF]; exact fin2 hf) dX7_sunk_67
        · have hf := hf.trans (if_neg zc7)
          refine lv_lookup (off := 44) (tgt := 68) hx hb dX7_sunk_24 (by decide) ((lv_osw zc6 (by decide)).trans ((lv_osw zc7 (by decide)).trans rfl)) (by decide) ?_
          refine lv_aload_n hx hb dX7_sunk_68 rfl (lv_at hl 1 rfl) ?_
          refine gO (T := TX7) C0 inA7 hK hP (xMain g) rfl 3 (by decide) (hts _ q266) (v := .ref (g.1 5 0)) rfl dX7_sunk_69 ?_
          refine gO (T := TX6) C0 inA6 hK hP (xVoy g) rfl 6 (by decide) (hts _ q175) (v := .int (zS4.1 5 0 6)) rfl dX7_sunk_72 ?_
          exact ri hQ C0 hr hlocks hK hP hS (by rw [← hF]; exact fin2 hf) dX7_sunk_75
    · have hf := hf.trans (if_neg zc5)
      refine lv_iload_n hx hb dX7_sunk_21 rfl (lv_at hl 0 rfl) ?_
      exact ri hQ C0 hr hlocks hK hP hS (by rw [← hF]; exact fin2 hf) dX7_sunk_22
  · have hf := hf.trans (if_neg zc1)
    refine lv_if_ne (tgt := 12) hx hb dX7_sunk_6 (by decide) (fun zc8 => absurd (by decide) zc8) (fun zc8 => ?_)
    refine lv_bipush (v := (-2)) hx hb dX7_sunk_9 (by decide) ?_
    exact ri hQ C0 hr hlocks hK hP hS (by rw [← hF]; exact fin2 hf) dX7_sunk_11
def tX7_done (S : St) : Int32 × St :=
  (bnd (tX7_tryVoyages S).2 (fun zS2 => bnd (tX7_tryVoyages S).1 (fun zr1 => (if zr1 = 0 then (bnd (tX2_copyFrom zS2 0 1) (fun zS4 => (((up zS4 4 0 0 0).1 5 0 0), (up zS4 4 0 0 0)))) else (zr1, zS2)))))
set_option maxHeartbeats 4000000 in
set_option maxRecDepth 100000 in
theorem kX7_done (l : Launch) (g : Gd) (A : Nat → Prop) (hA : Ads g.1 VX A) (S : St)  : Met l yX7_done (wU yX7_done cX7_done 2 (some .int)) { frames := 6, cells := 0, slots := 0, locals := 137 } (va_Pc [.ref (g.1 12 0)] (PW VX ctX g S)) (va_Qi (fun r u => r = (tX7_done S).1 ∧ u = (tX7_done S).2) (fun u U => PW VX ctX g u U) A) 0 0 A := by
  refine ent (cc := cX7_done) (maxL := 2) (ret := (some .int)) (by decide) (Nat.le_of_ble_eq_true rfl) ?_
  intro p e s m below meth c args Q C0 hr hlocks hP hK hQ ls hl
  have hx := C0.1
  have hb := C0.2.1
  have hml := C0.2.2.1
  have hown := C0.2.2.2.1
  have hts := C0.2.2.2.2
  obtain ⟨F, hF⟩ : ∃ F : Int32 × St, F = tX7_done S := ⟨_, rfl⟩
  have hf := hF
  unfold tX7_done at hf
  have hS : va_S A s.heap s.heap [] := va_S.rf
  have hl : lv_has ls 2 [(0, .ref (g.1 12 0))] := hl
  refine lv_aload_n hx hb dX7_done_0 rfl (lv_at hl 0 rfl) ?_
  refine ki (va_runV (As := []) (rest := []) C0 (kX7_tryVoyages l g A hA S ) (cwV 0 hts (gV q386 q388 q0 q46 q389) rfl rfl rfl (by decide +kernel) ⟨Nat.le_of_ble_eq_true rfl, Nat.le_of_ble_eq_true rfl⟩) (preV (recO (xMain g) hP hK rfl) hP hK) rfl rfl hl.1 rfl (lv_room (Nat.le_of_ble_eq_true rfl)) dX7_done_1 ⟨Nat.zero_le _, Nat.zero_le _⟩) hS (fun _ h => h) (fun zr1 zS2 H locs hw hP hS => ?_)
  have hf := (hf.trans (bnd_eq hw.2)).trans (bnd_eq hw.1)
  refine lv_istore_n (lv' := [(1, .int zr1), (0, .ref (g.1 12 0))]) hx hb dX7_done_4 rfl hl (by decide) rfl (fun ls hl => ?_)
  refine lv_iload_n hx hb dX7_done_5 rfl (lv_at hl 0 rfl) ?_
  refine lv_if_eq (tgt := 11) hx hb dX7_done_6 (by decide) (fun zc3 => ?_) (fun zc3 => ?_)
  · have hf := hf.trans (if_pos zc3)
    refine lv_aload_n hx hb dX7_done_11 rfl (lv_at hl 1 rfl) ?_
    refine gO (T := TX7) C0 inA7 hK hP (xMain g) rfl 0 (by decide) (hts _ q263) (v := .ref (g.1 0 6)) rfl dX7_done_12 ?_
    refine lv_aload_n hx hb dX7_done_15 rfl (lv_at hl 1 rfl) ?_
    refine gO (T := TX7) C0 inA7 hK hP (xMain g) rfl 1 (by decide) (hts _ q264) (v := .ref (g.1 1 6)) rfl dX7_done_16 ?_
    refine kv (va_runV (As := [.ref (g.1 1 6)]) (rest := []) C0 (kX2_copyFrom l g A hA zS2 0 1 (by decide) (by decide)) (cwV 1 hts (gV q390 q391 q392 q47 q393) rfl rfl rfl (by decide +kernel) ⟨Nat.le_of_ble_eq_true rfl, Nat.le_of_ble_eq_true rfl⟩) (preV (recO (xOwner g (by decide)) hP hK rfl) hP hK) rfl rfl hl.1 rfl (lv_room (Nat.le_of_ble_eq_true rfl)) dX7_done_19 ⟨Nat.zero_le _, Nat.zero_le _⟩) hS (fun _ h => h) (fun zS4 H locs hw hP hS => ?_)
    have hf := hf.trans (bnd_eq hw)
    refine lv_aload_n hx hb dX7_done_22 rfl (lv_at hl 1 rfl) ?_
    refine gO (T := TX7) C0 inA7 hK hP (xMain g) rfl 2 (by decide) (hts _ q265) (v := .ref (g.1 4 0)) rfl dX7_done_23 ?_
    refine lv_iconst (v := 0) hx hb dX7_done_26 (by decide) ?_
    refine pO (T := TX3) (ty0 := tyX3) locX C0 inA3 tyX3_ok nmX3 hK hP hA hS (xPad g) rfl 1 (by decide) (hts _ q150) rfl 0 0 rfl rfl rfl (Nat.le_of_ble_eq_true rfl) dX7_done_27 (fun H locs hP hS => ?_)
    refine lv_aload_n hx hb dX7_done_30 rfl (lv_at hl 1 rfl) ?_
    refine gO (T := TX7) C0 inA7 hK hP (xMain g) rfl 3 (by decide) (hts _ q266) (v := .ref (g.1 5 0)) rfl dX7_done_31 ?_
    refine gO (T := TX6) C0 inA6 hK hP (xVoy g) rfl 0 (by decide) (hts _ q163) (v := .int ((up zS4 4 0 0 0).1 5 0 0)) rfl dX7_done_34 ?_
    exact ri hQ C0 hr hlocks hK hP hS (by rw [← hF]; exact fin2 hf) dX7_done_37
  · have hf := hf.trans (if_neg zc3)
    refine lv_iload_n hx hb dX7_done_9 rfl (lv_at hl 0 rfl) ?_
    exact ri hQ C0 hr hlocks hK hP hS (by rw [← hF]; exact fin2 hf) dX7_done_10
