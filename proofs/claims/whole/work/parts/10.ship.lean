def tX4_sumAt (S : St) (o : Nat) (k : Nat) (p1 : Int32) : Int32 :=
  (if p1 < 0 then 0 else (if 3 ≤ p1 then 0 else (S.1 o (10 + k) (Int32.toNatClampNeg p1))))
set_option maxHeartbeats 4000000 in
set_option maxRecDepth 100000 in
theorem kX4_sumAt (l : Launch) (g : Gd) (A : Nat → Prop) (hA : Ads g.1 VX A) (S : St) (o : Nat) (k : Nat) (p1 : Int32) (ho : o < 4) (hk : k < 6) : Met l yX4_sumAt (wU yX4_sumAt cX4_sumAt 2 (some .int)) { frames := 0, cells := 0, slots := 0, locals := 0 } (va_Pc [.ref (g.1 o k), .int p1] (PW VX ctX g S)) (va_Qi (fun r u => r = tX4_sumAt S o k p1 ∧ u = S) (fun u U => PW VX ctX g u U) A) 0 0 A := by
  refine ent (cc := cX4_sumAt) (maxL := 2) (ret := (some .int)) (by decide) (Nat.le_of_ble_eq_true rfl) ?_
  intro p e s m below meth c args Q C0 hr hlocks hP hK hQ ls hl
  have hx := C0.1
  have hb := C0.2.1
  have hml := C0.2.2.1
  have hown := C0.2.2.2.1
  have hts := C0.2.2.2.2
  obtain ⟨F, hF⟩ : ∃ F : Int32, F = tX4_sumAt S o k p1 := ⟨_, rfl⟩
  have hf := hF
  unfold tX4_sumAt at hf
  have hS : va_S A s.heap s.heap [] := va_S.rf
  have hl : lv_has ls 2 [(0, .ref (g.1 o k)), (1, .int p1)] := hl
  refine lv_iload_n hx hb dX4_sumAt_0 rfl (lv_at hl 1 rfl) ?_
  refine lv_if_lt (tgt := 22) hx hb dX4_sumAt_1 (by decide) (fun zc1 => ?_) (fun zc1 => ?_)
  · have hf := hf.trans (if_pos zc1)
    refine lv_iconst (v := 0) hx hb dX4_sumAt_22 (by decide) ?_
    exact ri hQ C0 hr hlocks hK hP hS (by rw [← hF]; exact ⟨hf.symm, rfl⟩) dX4_sumAt_23
  · have hf := hf.trans (if_neg zc1)
    refine lv_iload_n hx hb dX4_sumAt_4 rfl (lv_at hl 1 rfl) ?_
    refine lv_aload_n hx hb dX4_sumAt_5 rfl (lv_at hl 0 rfl) ?_
    refine gO (T := TX4) C0 inA4 hK hP (xShip g ho hk) rfl 6 (by decide) (hts _ q96) (v := .ref (g.1 o (10 + k))) rfl dX4_sumAt_6 ?_
    refine lenI (v := 3) C0 hK hP (xSums g ho hk) rfl dX4_sumAt_9 ?_
    refine lv_icmp_ge (tgt := 22) hx hb dX4_sumAt_10 (by decide) (fun zc2 => ?_) (fun zc2 => ?_)
    · have hf := hf.trans (if_pos zc2)
      refine lv_iconst (v := 0) hx hb dX4_sumAt_22 (by decide) ?_
      exact ri hQ C0 hr hlocks hK hP hS (by rw [← hF]; exact ⟨hf.symm, rfl⟩) dX4_sumAt_23
    · have hf := hf.trans (if_neg zc2)
      refine lv_aload_n hx hb dX4_sumAt_13 rfl (lv_at hl 0 rfl) ?_
      refine gO (T := TX4) C0 inA4 hK hP (xShip g ho hk) rfl 6 (by decide) (hts _ q96) (v := .ref (g.1 o (10 + k))) rfl dX4_sumAt_14 ?_
      refine lv_iload_n hx hb dX4_sumAt_17 rfl (lv_at hl 1 rfl) ?_
      refine gI C0 hK hP (xSums g ho hk) (vpx (N := 3) zc1 zc2 rfl (by decide)) dX4_sumAt_18 ?_
      refine lv_goto (tgt := 23) hx hb dX4_sumAt_19 (by decide) ?_
      exact ri hQ C0 hr hlocks hK hP hS (by rw [← hF]; exact ⟨hf.symm, rfl⟩) dX4_sumAt_23
def tX4_putSum (S : St) (o : Nat) (k : Nat) (p1 : Int32) (p2 : Int32) : St :=
  (if p1 < 0 then S else (if 3 ≤ p1 then S else (up S o (10 + k) (Int32.toNatClampNeg p1) p2)))
set_option maxHeartbeats 4000000 in
set_option maxRecDepth 100000 in
theorem kX4_putSum (l : Launch) (g : Gd) (A : Nat → Prop) (hA : Ads g.1 VX A) (S : St) (o : Nat) (k : Nat) (p1 : Int32) (p2 : Int32) (ho : o < 4) (hk : k < 6) : Met l yX4_putSum (wU yX4_putSum cX4_putSum 3 none) { frames := 0, cells := 0, slots := 0, locals := 0 } (va_Pc [.ref (g.1 o k), .int p1, .int p2] (PW VX ctX g S)) (va_Qv (fun u => u = tX4_putSum S o k p1 p2) (fun u U => PW VX ctX g u U) A) 0 0 A := by
  refine ent (cc := cX4_putSum) (maxL := 3) (ret := none) (by decide) (Nat.le_of_ble_eq_true rfl) ?_
  intro p e s m below meth c args Q C0 hr hlocks hP hK hQ ls hl
  have hx := C0.1
  have hb := C0.2.1
  have hml := C0.2.2.1
  have hown := C0.2.2.2.1
  have hts := C0.2.2.2.2
  obtain ⟨F, hF⟩ : ∃ F : St, F = tX4_putSum S o k p1 p2 := ⟨_, rfl⟩
  have hf := hF
  unfold tX4_putSum at hf
  have hS : va_S A s.heap s.heap [] := va_S.rf
  have hl : lv_has ls 3 [(0, .ref (g.1 o k)), (1, .int p1), (2, .int p2)] := hl
  refine lv_iload_n hx hb dX4_putSum_0 rfl (lv_at hl 1 rfl) ?_
  refine lv_if_lt (tgt := 20) hx hb dX4_putSum_1 (by decide) (fun zc1 => ?_) (fun zc1 => ?_)
  · have hf := hf.trans (if_pos zc1)
    exact rv hQ C0 hr hlocks hK hP hS (by rw [← hF]; exact hf.symm) dX4_putSum_20
  · have hf := hf.trans (if_neg zc1)
    refine lv_iload_n hx hb dX4_putSum_4 rfl (lv_at hl 1 rfl) ?_
    refine lv_aload_n hx hb dX4_putSum_5 rfl (lv_at hl 0 rfl) ?_
    refine gO (T := TX4) C0 inA4 hK hP (xShip g ho hk) rfl 6 (by decide) (hts _ q96) (v := .ref (g.1 o (10 + k))) rfl dX4_putSum_6 ?_
    refine lenI (v := 3) C0 hK hP (xSums g ho hk) rfl dX4_putSum_9 ?_
    refine lv_icmp_ge (tgt := 20) hx hb dX4_putSum_10 (by decide) (fun zc2 => ?_) (fun zc2 => ?_)
    · have hf := hf.trans (if_pos zc2)
      exact rv hQ C0 hr hlocks hK hP hS (by rw [← hF]; exact hf.symm) dX4_putSum_20
    · have hf := hf.trans (if_neg zc2)
      refine lv_aload_n hx hb dX4_putSum_13 rfl (lv_at hl 0 rfl) ?_
      refine gO (T := TX4) C0 inA4 hK hP (xShip g ho hk) rfl 6 (by decide) (hts _ q96) (v := .ref (g.1 o (10 + k))) rfl dX4_putSum_14 ?_
      refine lv_iload_n hx hb dX4_putSum_17 rfl (lv_at hl 1 rfl) ?_
      refine lv_iload_n hx hb dX4_putSum_18 rfl (lv_at hl 2 rfl) ?_
      refine pI locX C0 hK hP hA hS (xSums g ho hk) (vpx (N := 3) zc1 zc2 rfl (by decide)) dX4_putSum_19 (fun H locs hP hS => ?_)
      exact rv hQ C0 hr hlocks hK hP hS (by rw [← hF]; exact hf.symm) dX4_putSum_20
def tX4_allSums (S : St) (o : Nat) (k : Nat) : Int32 :=
  (((0 + (S.1 o (10 + k) 0)) + (S.1 o (10 + k) 1)) + (S.1 o (10 + k) 2))
set_option maxHeartbeats 4000000 in
set_option maxRecDepth 100000 in
theorem kX4_allSums (l : Launch) (g : Gd) (A : Nat → Prop) (hA : Ads g.1 VX A) (S : St) (o : Nat) (k : Nat) (ho : o < 4) (hk : k < 6) : Met l yX4_allSums (wU yX4_allSums cX4_allSums 3 (some .int)) { frames := 0, cells := 0, slots := 0, locals := 0 } (va_Pc [.ref (g.1 o k)] (PW VX ctX g S)) (va_Qi (fun r u => r = tX4_allSums S o k ∧ u = S) (fun u U => PW VX ctX g u U) A) 0 0 A := by
  refine ent (cc := cX4_allSums) (maxL := 3) (ret := (some .int)) (by decide) (Nat.le_of_ble_eq_true rfl) ?_
  intro p e s m below meth c args Q C0 hr hlocks hP hK hQ ls hl
  have hx := C0.1
  have hb := C0.2.1
  have hml := C0.2.2.1
  have hown := C0.2.2.2.1
  have hts := C0.2.2.2.2
  obtain ⟨F, hF⟩ : ∃ F : Int32, F = tX4_allSums S o k := ⟨_, rfl⟩
  have hf := hF
  unfold tX4_allSums at hf
  have hS : va_S A s.heap s.heap [] := va_S.rf
  have hl : lv_has ls 3 [(0, .ref (g.1 o k))] := hl
  refine lv_iconst (v := 0) hx hb dX4_allSums_0 (by decide) ?_
  refine lv_istore_n (lv' := [(1, .int 0), (0, .ref (g.1 o k))]) hx hb dX4_allSums_1 rfl hl (by decide) rfl (fun ls hl => ?_)
  refine lv_iconst (v := 0) hx hb dX4_allSums_2 (by decide) ?_
  refine lv_istore_n (lv' := [(2, .int 0), (1, .int 0), (0, .ref (g.1 o k))]) hx hb dX4_allSums_3 rfl hl (by decide) rfl (fun ls hl => ?_)
  refine lv_iload_n hx hb dX4_allSums_4 rfl (lv_at hl 0 rfl) ?_
  refine lv_aload_n hx hb dX4_allSums_5 rfl (lv_at hl 2 rfl) ?_
  refine gO (T := TX4) C0 inA4 hK hP (xShip g ho hk) rfl 6 (by decide) (hts _ q96) (v := .ref (g.1 o (10 + k))) rfl dX4_allSums_6 ?_
  refine lenI (v := 3) C0 hK hP (xSums g ho hk) rfl dX4_allSums_9 ?_
  refine lv_icmp_ge (tgt := 28) hx hb dX4_allSums_10 (by decide) (fun zc1 => absurd zc1 (by decide)) (fun zc1 => ?_)
  refine lv_iload_n hx hb dX4_allSums_13 rfl (lv_at hl 1 rfl) ?_
  refine lv_aload_n hx hb dX4_allSums_14 rfl (lv_at hl 2 rfl) ?_
  refine gO (T := TX4) C0 inA4 hK hP (xShip g ho hk) rfl 6 (by decide) (hts _ q96) (v := .ref (g.1 o (10 + k))) rfl dX4_allSums_15 ?_
  refine lv_iload_n hx hb dX4_allSums_18 rfl (lv_at hl 0 rfl) ?_
  refine gI C0 hK hP (xSums g ho hk) (show vp_in 0 3 from vp_in_nI (n := 0) (by decide) (by decide)) dX4_allSums_19 ?_
  refine W.eq (g2 := F0 m 20 ls (.int (S.1 o (10 + k) 0) :: .int 0 :: [])) rfl ?_
  refine lv_iadd hx hb dX4_allSums_20 ?_
  refine lv_istore_n (lv' := [(1, .int (0 + (S.1 o (10 + k) 0))), (2, .int 0), (0, .ref (g.1 o k))]) hx hb dX4_allSums_21 rfl hl (by decide) rfl (fun ls hl => ?_)
  refine lv_iinc (v := 1) (lv' := [(2, .int 1), (1, .int (0 + (S.1 o (10 + k) 0))), (0, .ref (g.1 o k))]) hx hb dX4_allSums_22 hl (k := 1) rfl (by decide) (by decide) rfl (fun ls hl => ?_)
  refine lv_goto (tgt := 4) hx hb dX4_allSums_25 (by decide) ?_
  refine lv_iload_n hx hb dX4_allSums_4 rfl (lv_at hl 0 rfl) ?_
  refine lv_aload_n hx hb dX4_allSums_5 rfl (lv_at hl 2 rfl) ?_
  refine gO (T := TX4) C0 inA4 hK hP (xShip g ho hk) rfl 6 (by decide) (hts _ q96) (v := .ref (g.1 o (10 + k))) rfl dX4_allSums_6 ?_
  refine lenI (v := 3) C0 hK hP (xSums g ho hk) rfl dX4_allSums_9 ?_
  refine lv_icmp_ge (tgt := 28) hx hb dX4_allSums_10 (by decide) (fun zc2 => absurd zc2 (by decide)) (fun zc2 => ?_)
  refine lv_iload_n hx hb dX4_allSums_13 rfl (lv_at hl 1 rfl) ?_
  refine lv_aload_n hx hb dX4_allSums_14 rfl (lv_at hl 2 rfl) ?_
  refine gO (T := TX4) C0 inA4 hK hP (xShip g ho hk) rfl 6 (by decide) (hts _ q96) (v := .ref (g.1 o (10 + k))) rfl dX4_allSums_15 ?_
  refine lv_iload_n hx hb dX4_allSums_18 rfl (lv_at hl 0 rfl) ?_
  refine gI C0 hK hP (xSums g ho hk) (show vp_in 1 3 from vp_in_nI (n := 1) (by decide) (by decide)) dX4_allSums_19 ?_
  refine W.eq (g2 := F0 m 20 ls (.int (S.1 o (10 + k) 1) :: .int (0 + (S.1 o (10 + k) 0)) :: [])) rfl ?_
  refine lv_iadd hx hb dX4_allSums_20 ?_
  refine lv_istore_n (lv' := [(1, .int ((0 + (S.1 o (10 + k) 0)) + (S.1 o (10 + k) 1))), (2, .int 1), (0, .ref (g.1 o k))]) hx hb dX4_allSums_21 rfl hl (by decide) rfl (fun ls hl => ?_)
  refine lv_iinc (v := 2) (lv' := [(2, .int 2), (1, .int ((0 + (S.1 o (10 + k) 0)) + (S.1 o (10 + k) 1))), (0, .ref (g.1 o k))]) hx hb dX4_allSums_22 hl (k := 1) rfl (by decide) (by decide) rfl (fun ls hl => ?_)
  refine lv_goto (tgt := 4) hx hb dX4_allSums_25 (by decide) ?_
  refine lv_iload_n hx hb dX4_allSums_4 rfl (lv_at hl 0 rfl) ?_
  refine lv_aload_n hx hb dX4_allSums_5 rfl (lv_at hl 2 rfl) ?_
  refine gO (T := TX4) C0 inA4 hK hP (xShip g ho hk) rfl 6 (by decide) (hts _ q96) (v := .ref (g.1 o (10 + k))) rfl dX4_allSums_6 ?_
  refine lenI (v := 3) C0 hK hP (xSums g ho hk) rfl dX4_allSums_9 ?_
  refine lv_icmp_ge (tgt := 28) hx hb dX4_allSums_10 (by decide) (fun zc3 => absurd zc3 (by decide)) (fun zc3 => ?_)
  refine lv_iload_n hx hb dX4_allSums_13 rfl (lv_at hl 1 rfl) ?_
  refine lv_aload_n hx hb dX4_allSums_14 rfl (lv_at hl 2 rfl) ?_
  refine gO (T := TX4) C0 inA4 hK hP (xShip g ho hk) rfl 6 (by decide) (hts _ q96) (v := .ref (g.1 o (10 + k))) rfl dX4_allSums_15 ?_
  refine lv_iload_n hx hb dX4_allSums_18 rfl (lv_at hl 0 rfl) ?_
  refine gI C0 hK hP (xSums g ho hk) (show vp_in 2 3 from vp_in_nI (n := 2) (by decide) (by decide)) dX4_allSums_19 ?_
  refine W.eq (g2 := F0 m 20 ls (.int (S.1 o (10 + k) 2) :: .int ((0 + (S.1 o (10 + k) 0)) + (S.1 o (10 + k) 1)) :: [])) rfl ?_
  refine lv_iadd hx hb dX4_allSums_20 ?_
  refine lv_istore_n (lv' := [(1, .int (((0 + (S.1 o (10 + k) 0)) + (S.1 o (10 + k) 1)) + (S.1 o (10 + k) 2))), (2, .int 2), (0, .ref (g.1 o k))]) hx hb dX4_allSums_21 rfl hl (by decide) rfl (fun ls hl => ?_)
  refine lv_iinc (v := 3) (lv' := [(2, .int 3), (1, .int (((0 + (S.1 o (10 + k) 0)) + (S.1 o (10 + k) 1)) + (S.1 o (10 + k) 2))), (0, .ref (g.1 o k))]) hx hb dX4_allSums_22 hl (k := 1) rfl (by decide) (by decide) rfl (fun ls hl => ?_)
  refine lv_goto (tgt := 4) hx hb dX4_allSums_25 (by decide) ?_
  refine lv_iload_n hx hb dX4_allSums_4 rfl (lv_at hl 0 rfl) ?_
  refine lv_aload_n hx hb dX4_allSums_5 rfl (lv_at hl 2 rfl) ?_
  refine gO (T := TX4) C0 inA4 hK hP (xShip g ho hk) rfl 6 (by decide) (hts _ q96) (v := .ref (g.1 o (10 + k))) rfl dX4_allSums_6 ?_
  refine lenI (v := 3) C0 hK hP (xSums g ho hk) rfl dX4_allSums_9 ?_
  refine lv_icmp_ge (tgt := 28) hx hb dX4_allSums_10 (by decide) (fun zc4 => ?_) (fun zc4 => absurd (by decide) zc4)
  refine lv_iload_n hx hb dX4_allSums_28 rfl (lv_at hl 1 rfl) ?_
  exact ri hQ C0 hr hlocks hK hP hS (by rw [← hF]; exact ⟨hf.symm, rfl⟩) dX4_allSums_29
def tX4_launch (S : St) (o : Nat) (k : Nat) (p1 : Int32) (p2 : Int32) (p3 : Int32) : St :=
  (bnd (up (up (up (up (up (up (up S o k 0 1) o k 1 1) o k 2 p1) o k 3 p2) o k 4 p3) o k 5 0) o (10 + k) 0 0) (fun zS2 => (up (up zS2 o (10 + k) 1 0) o (10 + k) 2 0)))
set_option maxHeartbeats 4000000 in
set_option maxRecDepth 100000 in
theorem kX4_launch (l : Launch) (g : Gd) (A : Nat → Prop) (hA : Ads g.1 VX A) (S : St) (o : Nat) (k : Nat) (p1 : Int32) (p2 : Int32) (p3 : Int32) (ho : o < 4) (hk : k < 6) : Met l yX4_launch (wU yX4_launch cX4_launch 5 none) { frames := 0, cells := 0, slots := 0, locals := 0 } (va_Pc [.ref (g.1 o k), .int p1, .int p2, .int p3] (PW VX ctX g S)) (va_Qv (fun u => u = tX4_launch S o k p1 p2 p3) (fun u U => PW VX ctX g u U) A) 0 0 A := by
  refine ent (cc := cX4_launch) (maxL := 5) (ret := none) (by decide) (Nat.le_of_ble_eq_true rfl) ?_
  intro p e s m below meth c args Q C0 hr hlocks hP hK hQ ls hl
  have hx := C0.1
  have hb := C0.2.1
  have hml := C0.2.2.1
  have hown := C0.2.2.2.1
  have hts := C0.2.2.2.2
  obtain ⟨F, hF⟩ : ∃ F : St, F = tX4_launch S o k p1 p2 p3 := ⟨_, rfl⟩
  have hf := hF
  unfold tX4_launch at hf
  have hS : va_S A s.heap s.heap [] := va_S.rf
  have hl : lv_has ls 5 [(0, .ref (g.1 o k)), (1, .int p1), (2, .int p2), (3, .int p3)] := hl
  refine lv_aload_n hx hb dX4_launch_0 rfl (lv_at hl 0 rfl) ?_
  refine lv_iconst (v := 1) hx hb dX4_launch_1 (by decide) ?_
  refine pO (T := TX4) (ty0 := tyX4) locX C0 inA4 tyX4_ok nmX4 hK hP hA hS (xShip g ho hk) rfl 0 (by decide) (hts _ q78) rfl 0 1 rfl rfl rfl (Nat.le_of_ble_eq_true rfl) dX4_launch_2 (fun H locs hP hS => ?_)
  refine lv_aload_n hx hb dX4_launch_5 rfl (lv_at hl 0 rfl) ?_
  refine lv_iconst (v := 1) hx hb dX4_launch_6 (by decide) ?_
  refine pO (T := TX4) (ty0 := tyX4) locX C0 inA4 tyX4_ok nmX4 hK hP hA hS (xShip g ho hk) rfl 1 (by decide) (hts _ q81) rfl 1 1 rfl rfl rfl (Nat.le_of_ble_eq_true rfl) dX4_launch_7 (fun H locs hP hS => ?_)
  refine lv_aload_n hx hb dX4_launch_10 rfl (lv_at hl 0 rfl) ?_
  refine lv_iload_n hx hb dX4_launch_11 rfl (lv_at hl 1 rfl) ?_
  refine pO (T := TX4) (ty0 := tyX4) locX C0 inA4 tyX4_ok nmX4 hK hP hA hS (xShip g ho hk) rfl 2 (by decide) (hts _ q84) rfl 2 p1 rfl rfl rfl (Nat.le_of_ble_eq_true rfl) dX4_launch_12 (fun H locs hP hS => ?_)
  refine lv_aload_n hx hb dX4_launch_15 rfl (lv_at hl 0 rfl) ?_
  refine lv_iload_n hx hb dX4_launch_16 rfl (lv_at hl 2 rfl) ?_
  refine pO (T := TX4) (ty0 := tyX4) locX C0 inA4 tyX4_ok nmX4 hK hP hA hS (xShip g ho hk) rfl 3 (by decide) (hts _ q87) rfl 3 p2 rfl rfl rfl (Nat.le_of_ble_eq_true rfl) dX4_launch_17 (fun H locs hP hS => ?_)
  refine lv_aload_n hx hb dX4_launch_20 rfl (lv_at hl 0 rfl) ?_
  refine lv_iload_n hx hb dX4_launch_21 rfl (lv_at hl 3 rfl) ?_
  refine pO (T := TX4) (ty0 := tyX4) locX C0 inA4 tyX4_ok nmX4 hK hP hA hS (xShip g ho hk) rfl 4 (by decide) (hts _ q90) rfl 4 p3 rfl rfl rfl (Nat.le_of_ble_eq_true rfl) dX4_launch_22 (fun H locs hP hS => ?_)
  refine lv_aload_n hx hb dX4_launch_25 rfl (lv_at hl 0 rfl) ?_
  refine lv_iconst (v := 0) hx hb dX4_launch_26 (by decide) ?_
  refine pO (T := TX4) (ty0 := tyX4) locX C0 inA4 tyX4_ok nmX4 hK hP hA hS (xShip g ho hk) rfl 5 (by decide) (hts _ q93) rfl 5 0 rfl rfl rfl (Nat.le_of_ble_eq_true rfl) dX4_launch_27 (fun H locs hP hS => ?_)
  refine lv_iconst (v := 0) hx hb dX4_launch_30 (by decide) ?_
  refine lv_istore (lv' := [(4, .int 0), (0, .ref (g.1 o k)), (1, .int p1), (2, .int p2), (3, .int p3)]) hx hb dX4_launch_31 hl (by decide) rfl (fun ls hl => ?_)
  refine lv_iload hx hb dX4_launch_33 (lv_at hl 0 rfl) ?_
  refine lv_aload_n hx hb dX4_launch_35 rfl (lv_at hl 1 rfl) ?_
  refine gO (T := TX4) C0 inA4 hK hP (xShip g ho hk) rfl 6 (by decide) (hts _ q96) (v := .ref (g.1 o (10 + k))) rfl dX4_launch_36 ?_
  refine lenI (v := 3) C0 hK hP (xSums g ho hk) rfl dX4_launch_39 ?_
  refine lv_icmp_ge (tgt := 57) hx hb dX4_launch_40 (by decide) (fun zc1 => absurd zc1 (by decide)) (fun zc1 => ?_)
  refine lv_aload_n hx hb dX4_launch_43 rfl (lv_at hl 1 rfl) ?_
  refine gO (T := TX4) C0 inA4 hK hP (xShip g ho hk) rfl 6 (by decide) (hts _ q96) (v := .ref (g.1 o (10 + k))) rfl dX4_launch_44 ?_
  refine lv_iload hx hb dX4_launch_47 (lv_at hl 0 rfl) ?_
  refine lv_iconst (v := 0) hx hb dX4_launch_49 (by decide) ?_
  refine pI locX C0 hK hP hA hS (xSums g ho hk) (show vp_in 0 3 from vp_in_nI (n := 0) (by decide) (by decide)) dX4_launch_50 (fun H locs hP hS => ?_)
  have hP : HW VX ctX g (up (up (up (up (up (up (up S o k 0 1) o k 1 1) o k 2 p1) o k 3 p2) o k 4 p3) o k 5 0) o (10 + k) 0 0) H := hP
  obtain ⟨zS2, hzS2⟩ : ∃ z : St, z = (up (up (up (up (up (up (up S o k 0 1) o k 1 1) o k 2 p1) o k 3 p2) o k 4 p3) o k 5 0) o (10 + k) 0 0) := ⟨_, rfl⟩
  rw [← hzS2] at hP
  have hf := hf.trans (bnd_eq hzS2)
  refine lv_iinc (v := 1) (lv' := [(4, .int 1), (0, .ref (g.1 o k)), (1, .int p1), (2, .int p2), (3, .int p3)]) hx hb dX4_launch_51 hl (k := 0) rfl (by decide) (by decide) rfl (fun ls hl => ?_)
  refine lv_goto (tgt := 33) hx hb dX4_launch_54 (by decide) ?_
  refine lv_iload hx hb dX4_launch_33 (lv_at hl 0 rfl) ?_
  refine lv_aload_n hx hb dX4_launch_35 rfl (lv_at hl 1 rfl) ?_
  refine gO (T := TX4) C0 inA4 hK hP (xShip g ho hk) rfl 6 (by decide) (hts _ q96) (v := .ref (g.1 o (10 + k))) rfl dX4_launch_36 ?_
  refine lenI (v := 3) C0 hK hP (xSums g ho hk) rfl dX4_launch_39 ?_
  refine lv_icmp_ge (tgt := 57) hx hb dX4_launch_40 (by decide) (fun zc3 => absurd zc3 (by decide)) (fun zc3 => ?_)
  refine lv_aload_n hx hb dX4_launch_43 rfl (lv_at hl 1 rfl) ?_
  refine gO (T := TX4) C0 inA4 hK hP (xShip g ho hk) rfl 6 (by decide) (hts _ q96) (v := .ref (g.1 o (10 + k))) rfl dX4_launch_44 ?_
  refine lv_iload hx hb dX4_launch_47 (lv_at hl 0 rfl) ?_
  refine lv_iconst (v := 0) hx hb dX4_launch_49 (by decide) ?_
  refine pI locX C0 hK hP hA hS (xSums g ho hk) (show vp_in 1 3 from vp_in_nI (n := 1) (by decide) (by decide)) dX4_launch_50 (fun H locs hP hS => ?_)
  have hP : HW VX ctX g (up zS2 o (10 + k) 1 0) H := hP
  refine lv_iinc (v := 2) (lv' := [(4, .int 2), (0, .ref (g.1 o k)), (1, .int p1), (2, .int p2), (3, .int p3)]) hx hb dX4_launch_51 hl (k := 0) rfl (by decide) (by decide) rfl (fun ls hl => ?_)
  refine lv_goto (tgt := 33) hx hb dX4_launch_54 (by decide) ?_
  refine lv_iload hx hb dX4_launch_33 (lv_at hl 0 rfl) ?_
  refine lv_aload_n hx hb dX4_launch_35 rfl (lv_at hl 1 rfl) ?_
  refine gO (T := TX4) C0 inA4 hK hP (xShip g ho hk) rfl 6 (by decide) (hts _ q96) (v := .ref (g.1 o (10 + k))) rfl dX4_launch_36 ?_
  refine lenI (v := 3) C0 hK hP (xSums g ho hk) rfl dX4_launch_39 ?_
  refine lv_icmp_ge (tgt := 57) hx hb dX4_launch_40 (by decide) (fun zc4 => absurd zc4 (by decide)) (fun zc4 => ?_)
  refine lv_aload_n hx hb dX4_launch_43 rfl (lv_at hl 1 rfl) ?_
  refine gO (T := TX4) C0 inA4 hK hP (xShip g ho hk) rfl 6 (by decide) (hts _ q96) (v := .ref (g.1 o (10 + k))) rfl dX4_launch_44 ?_
  refine lv_iload hx hb dX4_launch_47 (lv_at hl 0 rfl) ?_
  refine lv_iconst (v := 0) hx hb dX4_launch_49 (by decide) ?_
  refine pI locX C0 hK hP hA hS (xSums g ho hk) (show vp_in 2 3 from vp_in_nI (n := 2) (by decide) (by decide)) dX4_launch_50 (fun H locs hP hS => ?_)
  have hP : HW VX ctX g (up (up zS2 o (10 + k) 1 0) o (10 + k) 2 0) H := hP
  refine lv_iinc (v := 3) (lv' := [(4, .int 3), (0, .ref (g.1 o k)), (1, .int p1), (2, .int p2), (3, .int p3)]) hx hb dX4_launch_51 hl (k := 0) rfl (by decide) (by decide) rfl (fun ls hl => ?_)
  refine lv_goto (tgt := 33) hx hb dX4_launch_54 (by decide) ?_
  refine lv_iload hx hb dX4_launch_33 (lv_at hl 0 rfl) ?_
  refine lv_aload_n hx hb dX4_launch_35 rfl (lv_at hl 1 rfl) ?_
  refine gO (T := TX4) C0 inA4 hK hP (xShip g ho hk) rfl 6 (by decide) (hts _ q96) (v := .ref (g.1 o (10 + k))) rfl dX4_launch_36 ?_
  refine lenI (v := 3) C0 hK hP (xSums g ho hk) rfl dX4_launch_39 ?_
  refine lv_icmp_ge (tgt := 57) hx hb dX4_launch_40 (by decide) (fun zc5 => ?_) (fun zc5 => absurd (by decide) zc5)
  exact rv hQ C0 hr hlocks hK hP hS (by rw [← hF]; exact hf.symm) dX4_launch_57
def tX4_copyFrom (S : St) (o : Nat) (k : Nat) (o2 : Nat) (k2 : Nat) : St :=
  (bnd (up (up (up S o k 0 (S.1 o2 k2 0)) o k 1 ((up S o k 0 (S.1 o2 k2 0)).1 o2 k2 1)) o k 2 ((up (up S o k 0 (S.1 o2 k2 0)) o k 1 ((up S o k 0 (S.1 o2 k2 0)).1 o2 k2 1)).1 o2 k2 2)) (fun zS1 => (bnd (up (up (up zS1 o k 3 (zS1.1 o2 k2 3)) o k 4 ((up zS1 o k 3 (zS1.1 o2 k2 3)).1 o2 k2 4)) o k 5 ((up (up zS1 o k 3 (zS1.1 o2 k2 3)) o k 4 ((up zS1 o k 3 (zS1.1 o2 k2 3)).1 o2 k2 4)).1 o2 k2 5)) (fun zS2 => (bnd (up (up zS2 o (10 + k) 0 (tX4_sumAt zS2 o2 k2 0)) o (10 + k) 1 (tX4_sumAt (up zS2 o (10 + k) 0 (tX4_sumAt zS2 o2 k2 0)) o2 k2 1)) (fun zS5 => (up zS5 o (10 + k) 2 (tX4_sumAt zS5 o2 k2 2))))))))
set_option maxHeartbeats 4000000 in
set_option maxRecDepth 100000 in
theorem kX4_copyFrom (l : Launch) (g : Gd) (A : Nat → Prop) (hA : Ads g.1 VX A) (S : St) (o : Nat) (k : Nat) (o2 : Nat) (k2 : Nat) (ho : o < 4) (hk : k < 6) (ho2 : o2 < 4) (hk2 : k2 < 6) : Met l yX4_copyFrom (wU yX4_copyFrom cX4_copyFrom 3 none) { frames := 1, cells := 0, slots := 0, locals := 21 } (va_Pc [.ref (g.1 o k), .ref (g.1 o2 k2)] (PW VX ctX g S)) (va_Qv (fun u => u = tX4_copyFrom S o k o2 k2) (fun u U => PW VX ctX g u U) A) 0 0 A := by
  refine ent (cc := cX4_copyFrom) (maxL := 3) (ret := none) (by decide) (Nat.le_of_ble_eq_true rfl) ?_
  intro p e s m below meth c args Q C0 hr hlocks hP hK hQ ls hl
  have hx := C0.1
  have hb := C0.2.1
  have hml := C0.2.2.1
  have hown := C0.2.2.2.1
  have hts := C0.2.2.2.2
  obtain ⟨F, hF⟩ : ∃ F : St, F = tX4_copyFrom S o k o2 k2 := ⟨_, rfl⟩
  have hf := hF
  unfold tX4_copyFrom at hf
  have hS : va_S A s.heap s.heap [] := va_S.rf
  have hl : lv_has ls 3 [(0, .ref (g.1 o k)), (1, .ref (g.1 o2 k2))] := hl
  refine lv_aload_n hx hb dX4_copyFrom_0 rfl (lv_at hl 0 rfl) ?_
  refine lv_aload_n hx hb dX4_copyFrom_1 rfl (lv_at hl 1 rfl) ?_
  refine gO (T := TX4) C0 inA4 hK hP (xShip g ho2 hk2) rfl 0 (by decide) (hts _ q78) (v := .int (b01 (S.1 o2 k2 0))) rfl dX4_copyFrom_2 ?_
  refine pO (T := TX4) (ty0 := tyX4) locX C0 inA4 tyX4_ok nmX4 hK hP hA hS (xShip g ho hk) rfl 0 (by decide) (hts _ q78) rfl 0 (S.1 o2 k2 0) rfl (b01_nar _) (b01_fit _) (Nat.le_of_ble_eq_true rfl) dX4_copyFrom_5 (fun H locs hP hS => ?_)
  refine lv_aload_n hx hb dX4_copyFrom_8 rfl (lv_at hl 0 rfl) ?_
  refine lv_aload_n hx hb dX4_copyFrom_9 rfl (lv_at hl 1 rfl) ?_
  refine gO (T := TX4) C0 inA4 hK hP (xShip g ho2 hk2) rfl 1 (by decide) (hts _ q81) (v := .int (b01 ((up S o k 0 (S.1 o2 k2 0)).1 o2 k2 1))) rfl dX4_copyFrom_10 ?_
  refine pO (T := TX4) (ty0 := tyX4) locX C0 inA4 tyX4_ok nmX4 hK hP hA hS (xShip g ho hk) rfl 1 (by decide) (hts _ q81) rfl 1 ((up S o k 0 (S.1 o2 k2 0)).1 o2 k2 1) rfl (b01_nar _) (b01_fit _) (Nat.le_of_ble_eq_true rfl) dX4_copyFrom_13 (fun H locs hP hS => ?_)
  refine lv_aload_n hx hb dX4_copyFrom_16 rfl (lv_at hl 0 rfl) ?_
  refine lv_aload_n hx hb dX4_copyFrom_17 rfl (lv_at hl 1 rfl) ?_
  refine gO (T := TX4) C0 inA4 hK hP (xShip g ho2 hk2) rfl 2 (by decide) (hts _ q84) (v := .int ((up (up S o k 0 (S.1 o2 k2 0)) o k 1 ((up S o k 0 (S.1 o2 k2 0)).1 o2 k2 1)).1 o2 k2 2)) rfl dX4_copyFrom_18 ?_
  refine pO (T := TX4) (ty0 := tyX4) locX C0 inA4 tyX4_ok nmX4 hK hP hA hS (xShip g ho hk) rfl 2 (by decide) (hts _ q84) rfl 2 ((up (up S o k 0 (S.1 o2 k2 0)) o k 1 ((up S o k 0 (S.1 o2 k2 0)).1 o2 k2 1)).1 o2 k2 2) rfl rfl rfl (Nat.le_of_ble_eq_true rfl) dX4_copyFrom_21 (fun H locs hP hS => ?_)
  obtain ⟨zS1, hzS1⟩ : ∃ z : St, z = (up (up (up S o k 0 (S.1 o2 k2 0)) o k 1 ((up S o k 0 (S.1 o2 k2 0)).1 o2 k2 1)) o k 2 ((up (up S o k 0 (S.1 o2 k2 0)) o k 1 ((up S o k 0 (S.1 o2 k2 0)).1 o2 k2 1)).1 o2 k2 2)) := ⟨_, rfl⟩
  rw [← hzS1] at hP
  have hf := hf.trans (bnd_eq hzS1)
  refine lv_aload_n hx hb dX4_copyFrom_24 rfl (lv_at hl 0 rfl) ?_
  refine lv_aload_n hx hb dX4_copyFrom_25 rfl (lv_at hl 1 rfl) ?_
  refine gO (T := TX4) C0 inA4 hK hP (xShip g ho2 hk2) rfl 3 (by decide) (hts _ q87) (v := .int (zS1.1 o2 k2 3)) rfl dX4_copyFrom_26 ?_
  refine pO (T := TX4) (ty0 := tyX4) locX C0 inA4 tyX4_ok nmX4 hK hP hA hS (xShip g ho hk) rfl 3 (by decide) (hts _ q87) rfl 3 (zS1.1 o2 k2 3) rfl rfl rfl (Nat.le_of_ble_eq_true rfl) dX4_copyFrom_29 (fun H locs hP hS => ?_)
  refine lv_aload_n hx hb dX4_copyFrom_32 rfl (lv_at hl 0 rfl) ?_
  refine lv_aload_n hx hb dX4_copyFrom_33 rfl (lv_at hl 1 rfl) ?_
  refine gO (T := TX4) C0 inA4 hK hP (xShip g ho2 hk2) rfl 4 (by decide) (hts _ q90) (v := .int ((up zS1 o k 3 (zS1.1 o2 k2 3)).1 o2 k2 4)) rfl dX4_copyFrom_34 ?_
  refine pO (T := TX4) (ty0 := tyX4) locX C0 inA4 tyX4_ok nmX4 hK hP hA hS (xShip g ho hk) rfl 4 (by decide) (hts _ q90) rfl 4 ((up zS1 o k 3 (zS1.1 o2 k2 3)).1 o2 k2 4) rfl rfl rfl (Nat.le_of_ble_eq_true rfl) dX4_copyFrom_37 (fun H locs hP hS => ?_)
  refine lv_aload_n hx hb dX4_copyFrom_40 rfl (lv_at hl 0 rfl) ?_
  refine lv_aload_n hx hb dX4_copyFrom_41 rfl (lv_at hl 1 rfl) ?_
  refine gO (T := TX4) C0 inA4 hK hP (xShip g ho2 hk2) rfl 5 (by decide) (hts _ q93) (v := .int ((up (up zS1 o k 3 (zS1.1 o2 k2 3)) o k 4 ((up zS1 o k 3 (zS1.1 o2 k2 3)).1 o2 k2 4)).1 o2 k2 5)) rfl dX4_copyFrom_42 ?_
  refine pO (T := TX4) (ty0 := tyX4) locX C0 inA4 tyX4_ok nmX4 hK hP hA hS (xShip g ho hk) rfl 5 (by decide) (hts _ q93) rfl 5 ((up (up zS1 o k 3 (zS1.1 o2 k2 3)) o k 4 ((up zS1 o k 3 (zS1.1 o2 k2 3)).1 o2 k2 4)).1 o2 k2 5) rfl rfl rfl (Nat.le_of_ble_eq_true rfl) dX4_copyFrom_45 (fun H locs hP hS => ?_)
  obtain ⟨zS2, hzS2⟩ : ∃ z : St, z = (up (up (up zS1 o k 3 (zS1.1 o2 k2 3)) o k 4 ((up zS1 o k 3 (zS1.1 o2 k2 3)).1 o2 k2 4)) o k 5 ((up (up zS1 o k 3 (zS1.1 o2 k2 3)) o k 4 ((up zS1 o k 3 (zS1.1 o2 k2 3)).1 o2 k2 4)).1 o2 k2 5)) := ⟨_, rfl⟩
  rw [← hzS2] at hP
  have hf := hf.trans (bnd_eq hzS2)
  refine lv_iconst (v := 0) hx hb dX4_copyFrom_48 (by decide) ?_
  refine lv_istore_n (lv' := [(2, .int 0), (0, .ref (g.1 o k)), (1, .ref (g.1 o2 k2))]) hx hb dX4_copyFrom_49 rfl hl (by decide) rfl (fun ls hl => ?_)
  refine lv_iload_n hx hb dX4_copyFrom_50 rfl (lv_at hl 0 rfl) ?_
  refine lv_aload_n hx hb dX4_copyFrom_51 rfl (lv_at hl 1 rfl) ?_
  refine gO (T := TX4) C0 inA4 hK hP (xShip g ho hk) rfl 6 (by decide) (hts _ q96) (v := .ref (g.1 o (10 + k))) rfl dX4_copyFrom_52 ?_
  refine lenI (v := 3) C0 hK hP (xSums g ho hk) rfl dX4_copyFrom_55 ?_
  refine lv_icmp_ge (tgt := 76) hx hb dX4_copyFrom_56 (by decide) (fun zc3 => absurd zc3 (by decide)) (fun zc3 => ?_)
  refine lv_aload_n hx hb dX4_copyFrom_59 rfl (lv_at hl 1 rfl) ?_
  refine gO (T := TX4) C0 inA4 hK hP (xShip g ho hk) rfl 6 (by decide) (hts _ q96) (v := .ref (g.1 o (10 + k))) rfl dX4_copyFrom_60 ?_
  refine lv_iload_n hx hb dX4_copyFrom_63 rfl (lv_at hl 0 rfl) ?_
  refine lv_aload_n hx hb dX4_copyFrom_64 rfl (lv_at hl 2 rfl) ?_
  refine lv_iload_n hx hb dX4_copyFrom_65 rfl (lv_at hl 0 rfl) ?_
  refine kiP (va_runV (As := [.int 0]) (rest := [.int 0, .ref (g.1 o (10 + k))]) C0 (kX4_sumAt l g A hA zS2 o2 k2 0 ho2 hk2) (cwV 1 hts (gV q398 q333 q334 q48 q335) rfl rfl rfl (by decide +kernel) ⟨Nat.le_of_ble_eq_true rfl, Nat.le_of_ble_eq_true rfl⟩) (preV (recO (xShip g ho2 hk2) hP hK rfl) hP hK) rfl rfl hl.1 rfl (lv_room (Nat.le_of_ble_eq_true rfl)) dX4_copyFrom_66 ⟨Nat.zero_le _, Nat.zero_le _⟩) hS (fun _ h => h) (fun H locs hP hS => ?_)
  refine pI locX C0 hK hP hA hS (xSums g ho hk) (show vp_in 0 3 from vp_in_nI (n := 0) (by decide) (by decide)) dX4_copyFrom_69 (fun H locs hP hS => ?_)
  have hP : HW VX ctX g (up zS2 o (10 + k) 0 (tX4_sumAt zS2 o2 k2 0)) H := hP
  refine lv_iinc (v := 1) (lv' := [(2, .int 1), (0, .ref (g.1 o k)), (1, .ref (g.1 o2 k2))]) hx hb dX4_copyFrom_70 hl (k := 0) rfl (by decide) (by decide) rfl (fun ls hl => ?_)
  refine lv_goto (tgt := 50) hx hb dX4_copyFrom_73 (by decide) ?_
  refine lv_iload_n hx hb dX4_copyFrom_50 rfl (lv_at hl 0 rfl) ?_
  refine lv_aload_n hx hb dX4_copyFrom_51 rfl (lv_at hl 1 rfl) ?_
  refine gO (T := TX4) C0 inA4 hK hP (xShip g ho hk) rfl 6 (by decide) (hts _ q96) (v := .ref (g.1 o (10 + k))) rfl dX4_copyFrom_52 ?_
  refine lenI (v := 3) C0 hK hP (xSums g ho hk) rfl dX4_copyFrom_55 ?_
  refine lv_icmp_ge (tgt := 76) hx hb dX4_copyFrom_56 (by decide) (fun zc4 => absurd zc4 (by decide)) (fun zc4 => ?_)
  refine lv_aload_n hx hb dX4_copyFrom_59 rfl (lv_at hl 1 rfl) ?_
  refine gO (T := TX4) C0 inA4 hK hP (xShip g ho hk) rfl 6 (by decide) (hts _ q96) (v := .ref (g.1 o (10 + k))) rfl dX4_copyFrom_60 ?_
  refine lv_iload_n hx hb dX4_copyFrom_63 rfl (lv_at hl 0 rfl) ?_
  refine lv_aload_n hx hb dX4_copyFrom_64 rfl (lv_at hl 2 rfl) ?_
  refine lv_iload_n hx hb dX4_copyFrom_65 rfl (lv_at hl 0 rfl) ?_
  refine kiP (va_runV (As := [.int 1]) (rest := [.int 1, .ref (g.1 o (10 + k))]) C0 (kX4_sumAt l g A hA (up zS2 o (10 + k) 0 (tX4_sumAt zS2 o2 k2 0)) o2 k2 1 ho2 hk2) (cwV 1 hts (gV q398 q333 q334 q48 q335) rfl rfl rfl (by decide +kernel) ⟨Nat.le_of_ble_eq_true rfl, Nat.le_of_ble_eq_true rfl⟩) (preV (recO (xShip g ho2 hk2) hP hK rfl) hP hK) rfl rfl hl.1 rfl (lv_room (Nat.le_of_ble_eq_true rfl)) dX4_copyFrom_66 ⟨Nat.zero_le _, Nat.zero_le _⟩) hS (fun _ h => h) (fun H locs hP hS => ?_)
  refine pI locX C0 hK hP hA hS (xSums g ho hk) (show vp_in 1 3 from vp_in_nI (n := 1) (by decide) (by decide)) dX4_copyFrom_69 (fun H locs hP hS => ?_)
  have hP : HW VX ctX g (up (up zS2 o (10 + k) 0 (tX4_sumAt zS2 o2 k2 0)) o (10 + k) 1 (tX4_sumAt (up zS2 o (10 + k) 0 (tX4_sumAt zS2 o2 k2 0)) o2 k2 1)) H := hP
  obtain ⟨zS5, hzS5⟩ : ∃ z : St, z = (up (up zS2 o (10 + k) 0 (tX4_sumAt zS2 o2 k2 0)) o (10 + k) 1 (tX4_sumAt (up zS2 o (10 + k) 0 (tX4_sumAt zS2 o2 k2 0)) o2 k2 1)) := ⟨_, rfl⟩
  rw [← hzS5] at hP
  have hf := hf.trans (bnd_eq hzS5)
  refine lv_iinc (v := 2) (lv' := [(2, .int 2), (0, .ref (g.1 o k)), (1, .ref (g.1 o2 k2))]) hx hb dX4_copyFrom_70 hl (k := 0) rfl (by decide) (by decide) rfl (fun ls hl => ?_)
  refine lv_goto (tgt := 50) hx hb dX4_copyFrom_73 (by decide) ?_
  refine lv_iload_n hx hb dX4_copyFrom_50 rfl (lv_at hl 0 rfl) ?_
  refine lv_aload_n hx hb dX4_copyFrom_51 rfl (lv_at hl 1 rfl) ?_
  refine gO (T := TX4) C0 inA4 hK hP (xShip g ho hk) rfl 6 (by decide) (hts _ q96) (v := .ref (g.1 o (10 + k))) rfl dX4_copyFrom_52 ?_
  refine lenI (v := 3) C0 hK hP (xSums g ho hk) rfl dX4_copyFrom_55 ?_
  refine lv_icmp_ge (tgt := 76) hx hb dX4_copyFrom_56 (by decide) (fun zc6 => absurd zc6 (by decide)) (fun zc6 => ?_)
  refine lv_aload_n hx hb dX4_copyFrom_59 rfl (lv_at hl 1 rfl) ?_
  refine gO (T := TX4) C0 inA4 hK hP (xShip g ho hk) rfl 6 (by decide) (hts _ q96) (v := .ref (g.1 o (10 + k))) rfl dX4_copyFrom_60 ?_
  refine lv_iload_n hx hb dX4_copyFrom_63 rfl (lv_at hl 0 rfl) ?_
  refine lv_aload_n hx hb dX4_copyFrom_64 rfl (lv_at hl 2 rfl) ?_
  refine lv_iload_n hx hb dX4_copyFrom_65 rfl (lv_at hl 0 rfl) ?_
  refine kiP (va_runV (As := [.int 2]) (rest := [.int 2, .ref (g.1 o (10 + k))]) C0 (kX4_sumAt l g A hA zS5 o2 k2 2 ho2 hk2) (cwV 1 hts (gV q398 q333 q334 q48 q335) rfl rfl rfl (by decide +kernel) ⟨Nat.le_of_ble_eq_true rfl, Nat.le_of_ble_eq_true rfl⟩) (preV (recO (xShip g ho2 hk2) hP hK rfl) hP hK) rfl rfl hl.1 rfl (lv_room (Nat.le_of_ble_eq_true rfl)) dX4_copyFrom_66 ⟨Nat.zero_le _, Nat.zero_le _⟩) hS (fun _ h => h) (fun H locs hP hS => ?_)
  refine pI locX C0 hK hP hA hS (xSums g ho hk) (show vp_in 2 3 from vp_in_nI (n := 2) (by decide) (by decide)) dX4_copyFrom_69 (fun H locs hP hS => ?_)
  have hP : HW VX ctX g (up zS5 o (10 + k) 2 (tX4_sumAt zS5 o2 k2 2)) H := hP
  refine lv_iinc (v := 3) (lv' := [(2, .int 3), (0, .ref (g.1 o k)), (1, .ref (g.1 o2 k2))]) hx hb dX4_copyFrom_70 hl (k := 0) rfl (by decide) (by decide) rfl (fun ls hl => ?_)
  refine lv_goto (tgt := 50) hx hb dX4_copyFrom_73 (by decide) ?_
  refine lv_iload_n hx hb dX4_copyFrom_50 rfl (lv_at hl 0 rfl) ?_
  refine lv_aload_n hx hb dX4_copyFrom_51 rfl (lv_at hl 1 rfl) ?_
  refine gO (T := TX4) C0 inA4 hK hP (xShip g ho hk) rfl 6 (by decide) (hts _ q96) (v := .ref (g.1 o (10 + k))) rfl dX4_copyFrom_52 ?_
  refine lenI (v := 3) C0 hK hP (xSums g ho hk) rfl dX4_copyFrom_55 ?_
  refine lv_icmp_ge (tgt := 76) hx hb dX4_copyFrom_56 (by decide) (fun zc7 => ?_) (fun zc7 => absurd (by decide) zc7)
  exact rv hQ C0 hr hlocks hK hP hS (by rw [← hF]; exact hf.symm) dX4_copyFrom_76
