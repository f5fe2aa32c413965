abbrev lX4_init (g : Gd) (h0 : Nat) (u : Nat → Nat) : va_W := [(h0, .inr (4, [.int 0, .int 0, .int 0, .int 0, .int 0, .int 0, .ref (u 0)])), ((u 0), .inl (g.2.2 0, 3, .inl (fun _ => 0)))]
set_option maxHeartbeats 4000000 in
set_option maxRecDepth 100000 in
theorem kX4_init (l : Launch) (g : Gd) (h0 sz : Nat) : Met l yX4_init (wU yX4_init cX4_init 1 none) { frames := 1, cells := 1, slots := 3, locals := 12 } (va_Pc [.ref h0] (PC g sz [(h0, .inr (4, [.int 0, .int 0, .int 0, .int 0, .int 0, .int 0, .null]))])) (va_Qv (fun _ : Nat → Nat => True) (fun u U => QC g (va_A [(h0, .inr (4, [.int 0, .int 0, .int 0, .int 0, .int 0, .int 0, .null]))] sz) (lX4_init g h0 u) U) (va_A [(h0, .inr (4, [.int 0, .int 0, .int 0, .int 0, .int 0, .int 0, .null]))] sz)) 1 3 (va_A [(h0, .inr (4, [.int 0, .int 0, .int 0, .int 0, .int 0, .int 0, .null]))] sz) := by
  refine entC (cc := cX4_init) (maxL := 1) (by decide) rfl (Nat.le_of_ble_eq_true rfl) ?_
  intro p e s m below meth c args Q C0 hr hlocks hin hP hD hK hA hQ ls hl
  have hx := C0.1
  have hb := C0.2.1
  have hml := C0.2.2.1
  have hown := C0.2.2.2.1
  have hts := C0.2.2.2.2
  generalize hAe : va_A [(h0, .inr (4, [.int 0, .int 0, .int 0, .int 0, .int 0, .int 0, .null]))] sz = A at hD hA hQ
  have hS : va_S A s.heap s.heap [] := va_S.rf
  refine lv_aload_n hx hb dX4_init_0 rfl (lv_at hl 0 rfl) ?_
  refine W.objInit hx hb hown (hts _ q77) (hts _ q63) (hts _ q64) rfl (by rw [hml]; exact hl.1) rfl dX4_init_1 (Nat.le_of_ble_eq_true rfl) (Nat.le_of_ble_eq_true rfl) ?_
  refine W.eq (g2 := F0 m 4 ls []) rfl ?_
  refine lv_aload_n hx hb dX4_init_4 rfl (lv_at hl 0 rfl) ?_
  refine lv_iconst (v := 3) hx hb dX4_init_5 (by decide) ?_
  refine va_newa (atype := .int) (ty := .int) (N' := 3) (a0 := (3, .inl (fun _ => 0))) hx hb (hts _ q112) rfl hK.1.1 hP hD hS hA (fun cA => rfl) (by decide) (by decide) (by decide) (Nat.le_of_ble_eq_true rfl) (Nat.le_of_ble_eq_true rfl) dX4_init_6 (fun zq1 cA H hKn hP hD hS => ?_)
  obtain rfl : cA = g.2.2 0 := cty 0 hKn rfl (by simp)
  have hP : va_P g.2.1 vwCl [(h0, .inr (4, [.int 0, .int 0, .int 0, .int 0, .int 0, .int 0, .null])), (zq1, .inl (g.2.2 0, 3, .inl (fun _ => 0)))] H := hP
  have hD : va_D A [(h0, .inr (4, [.int 0, .int 0, .int 0, .int 0, .int 0, .int 0, .null])), (zq1, .inl (g.2.2 0, 3, .inl (fun _ => 0)))] := hD
  refine va_putF (D := g.2.1) (ci := 4) (v := .ref zq1) (C := RX4) (T := TX4) (N := 7) hx hb hts inA4 tyX4 tyX4_ok nmX4 hown hK.1.1 hP hD hS 0 rfl rfl 6 (by decide) (hts _ q96) (fun _ h9 => h9) rfl hin rfl (tyX4_ok 6 (by decide)) rfl rfl (Nat.le_of_ble_eq_true rfl) dX4_init_8 (fun H locs hP hD hS => ?_)
  have hP : va_P g.2.1 vwCl [(h0, .inr (4, [.int 0, .int 0, .int 0, .int 0, .int 0, .int 0, .ref zq1])), (zq1, .inl (g.2.2 0, 3, .inl (fun _ => 0)))] H := hP
  have hD : va_D A [(h0, .inr (4, [.int 0, .int 0, .int 0, .int 0, .int 0, .int 0, .ref zq1])), (zq1, .inl (g.2.2 0, 3, .inl (fun _ => 0)))] := hD
  have hP9 : va_P g.2.1 vwCl (lX4_init g h0 (fun j : Nat => if j = 0 then zq1 else 0)) H := hP.sub [0, 1] rfl
  have hD9 : va_D A (lX4_init g h0 (fun j : Nat => if j = 0 then zq1 else 0)) := hD.sub [0, 1] (by decide) rfl
  exact rvC (fun j : Nat => if j = 0 then zq1 else 0) (B := fun u U => QC g A (lX4_init g h0 u) U) (post := fun _ => True) (by rw [hQ, ← hAe]) C0 hr hlocks hS trivial (fun t ht hW => QC.of hP9 hD9 hK t ht hW) (Nat.le_of_ble_eq_true rfl) (Nat.le_of_ble_eq_true rfl) dX4_init_11
abbrev lX3_init (g : Gd) (h0 : Nat) (u : Nat → Nat) : va_W := [(h0, .inr (3, [.ref (u 0), .int 0])), ((u 0), .inl (g.2.2 0, 60, .inl (fun _ => 0)))]
set_option maxHeartbeats 4000000 in
set_option maxRecDepth 100000 in
theorem kX3_init (l : Launch) (g : Gd) (h0 sz : Nat) : Met l yX3_init (wU yX3_init cX3_init 1 none) { frames := 1, cells := 1, slots := 60, locals := 12 } (va_Pc [.ref h0] (PC g sz [(h0, .inr (3, [.null, .int 0]))])) (va_Qv (fun _ : Nat → Nat => True) (fun u U => QC g (va_A [(h0, .inr (3, [.null, .int 0]))] sz) (lX3_init g h0 u) U) (va_A [(h0, .inr (3, [.null, .int 0]))] sz)) 1 60 (va_A [(h0, .inr (3, [.null, .int 0]))] sz) := by
  refine entC (cc := cX3_init) (maxL := 1) (by decide) rfl (Nat.le_of_ble_eq_true rfl) ?_
  intro p e s m below meth c args Q C0 hr hlocks hin hP hD hK hA hQ ls hl
  have hx := C0.1
  have hb := C0.2.1
  have hml := C0.2.2.1
  have hown := C0.2.2.2.1
  have hts := C0.2.2.2.2
  generalize hAe : va_A [(h0, .inr (3, [.null, .int 0]))] sz = A at hD hA hQ
  have hS : va_S A s.heap s.heap [] := va_S.rf
  refine lv_aload_n hx hb dX3_init_0 rfl (lv_at hl 0 rfl) ?_
  refine W.objInit hx hb hown (hts _ q146) (hts _ q63) (hts _ q64) rfl (by rw [hml]; exact hl.1) rfl dX3_init_1 (Nat.le_of_ble_eq_true rfl) (Nat.le_of_ble_eq_true rfl) ?_
  refine W.eq (g2 := F0 m 4 ls []) rfl ?_
  refine lv_aload_n hx hb dX3_init_4 rfl (lv_at hl 0 rfl) ?_
  refine lv_bipush (v := 60) hx hb dX3_init_5 (by decide) ?_
  refine va_newa (atype := .int) (ty := .int) (N' := 60) (a0 := (60, .inl (fun _ => 0))) hx hb (hts _ q112) rfl hK.1.1 hP hD hS hA (fun cA => rfl) (by decide) (by decide) (by decide) (Nat.le_of_ble_eq_true rfl) (Nat.le_of_ble_eq_true rfl) dX3_init_7 (fun zq1 cA H hKn hP hD hS => ?_)
  obtain rfl : cA = g.2.2 0 := cty 0 hKn rfl (by simp)
  have hP : va_P g.2.1 vwCl [(h0, .inr (3, [.null, .int 0])), (zq1, .inl (g.2.2 0, 60, .inl (fun _ => 0)))] H := hP
  have hD : va_D A [(h0, .inr (3, [.null, .int 0])), (zq1, .inl (g.2.2 0, 60, .inl (fun _ => 0)))] := hD
  refine va_putF (D := g.2.1) (ci := 3) (v := .ref zq1) (C := RX3) (T := TX3) (N := 2) hx hb hts inA3 tyX3 tyX3_ok nmX3 hown hK.1.1 hP hD hS 0 rfl rfl 0 (by decide) (hts _ q147) (fun _ h9 => h9) rfl hin rfl (tyX3_ok 0 (by decide)) rfl rfl (Nat.le_of_ble_eq_true rfl) dX3_init_9 (fun H locs hP hD hS => ?_)
  have hP : va_P g.2.1 vwCl [(h0, .inr (3, [.ref zq1, .int 0])), (zq1, .inl (g.2.2 0, 60, .inl (fun _ => 0)))] H := hP
  have hD : va_D A [(h0, .inr (3, [.ref zq1, .int 0])), (zq1, .inl (g.2.2 0, 60, .inl (fun _ => 0)))] := hD
  have hP9 : va_P g.2.1 vwCl (lX3_init g h0 (fun j : Nat => if j = 0 then zq1 else 0)) H := hP.sub [0, 1] rfl
  have hD9 : va_D A (lX3_init g h0 (fun j : Nat => if j = 0 then zq1 else 0)) := hD.sub [0, 1] (by decide) rfl
  exact rvC (fun j : Nat => if j = 0 then zq1 else 0) (B := fun u U => QC g A (lX3_init g h0 u) U) (post := fun _ => True) (by rw [hQ, ← hAe]) C0 hr hlocks hS trivial (fun t ht hW => QC.of hP9 hD9 hK t ht hW) (Nat.le_of_ble_eq_true rfl) (Nat.le_of_ble_eq_true rfl) dX3_init_12
abbrev lX6_init (g : Gd) (h0 : Nat) (u : Nat → Nat) : va_W := [(h0, .inr (6, [.int 0, .int 0, .int 0, .int 0, .int 0, .int 0, .int 0]))]
set_option maxHeartbeats 4000000 in
set_option maxRecDepth 100000 in
theorem kX6_init (l : Launch) (g : Gd) (h0 sz : Nat) : Met l yX6_init (wU yX6_init cX6_init 1 none) { frames := 1, cells := 0, slots := 0, locals := 12 } (va_Pc [.ref h0] (PC g sz [(h0, .inr (6, [.int 0, .int 0, .int 0, .int 0, .int 0, .int 0, .int 0]))])) (va_Qv (fun _ : Nat → Nat => True) (fun u U => QC g (va_A [(h0, .inr (6, [.int 0, .int 0, .int 0, .int 0, .int 0, .int 0, .int 0]))] sz) (lX6_init g h0 u) U) (va_A [(h0, .inr (6, [.int 0, .int 0, .int 0, .int 0, .int 0, .int 0, .int 0]))] sz)) 0 0 (va_A [(h0, .inr (6, [.int 0, .int 0, .int 0, .int 0, .int 0, .int 0, .int 0]))] sz) := by
  refine entC (cc := cX6_init) (maxL := 1) (by decide) rfl (Nat.le_of_ble_eq_true rfl) ?_
  intro p e s m below meth c args Q C0 hr hlocks hin hP hD hK hA hQ ls hl
  have hx := C0.1
  have hb := C0.2.1
  have hml := C0.2.2.1
  have hown := C0.2.2.2.1
  have hts := C0.2.2.2.2
  generalize hAe : va_A [(h0, .inr (6, [.int 0, .int 0, .int 0, .int 0, .int 0, .int 0, .int 0]))] sz = A at hD hA hQ
  have hS : va_S A s.heap s.heap [] := va_S.rf
  refine lv_aload_n hx hb dX6_init_0 rfl (lv_at hl 0 rfl) ?_
  refine W.objInit hx hb hown (hts _ q161) (hts _ q63) (hts _ q64) rfl (by rw [hml]; exact hl.1) rfl dX6_init_1 (Nat.le_of_ble_eq_true rfl) (Nat.le_of_ble_eq_true rfl) ?_
  refine W.eq (g2 := F0 m 4 ls []) rfl ?_
  have hP9 : va_P g.2.1 vwCl (lX6_init g h0 (fun j : Nat => 0)) s.heap := hP.sub [0] rfl
  have hD9 : va_D A (lX6_init g h0 (fun j : Nat => 0)) := hD.sub [0] (by decide) rfl
  exact rvC (fun j : Nat => 0) (B := fun u U => QC g A (lX6_init g h0 u) U) (post := fun _ => True) (by rw [hQ, ← hAe]) C0 hr hlocks hS trivial (fun t ht hW => QC.of hP9 hD9 hK t ht hW) (Nat.le_of_ble_eq_true rfl) (Nat.le_of_ble_eq_true rfl) dX6_init_4
abbrev lX5_init (g : Gd) (h0 : Nat) (u : Nat → Nat) : va_W := [(h0, .inr (5, [.ref (u 0), .ref (u 1), .ref (u 2), .int 0])), ((u 0), .inl (g.2.2 0, 8, .inl (fun _ => 0))), ((u 1), .inl (g.2.2 0, 8, .inl (fun _ => 0))), ((u 2), .inl (g.2.2 2, 8, .inl (fun _ => 0)))]
set_option maxHeartbeats 4000000 in
set_option maxRecDepth 100000 in
theorem kX5_init (l : Launch) (g : Gd) (h0 sz : Nat) : Met l yX5_init (wU yX5_init cX5_init 1 none) { frames := 1, cells := 3, slots := 24, locals := 12 } (va_Pc [.ref h0] (PC g sz [(h0, .inr (5, [.null, .null, .null, .int 0]))])) (va_Qv (fun _ : Nat → Nat => True) (fun u U => QC g (va_A [(h0, .inr (5, [.null, .null, .null, .int 0]))] sz) (lX5_init g h0 u) U) (va_A [(h0, .inr (5, [.null, .null, .null, .int 0]))] sz)) 3 24 (va_A [(h0, .inr (5, [.null, .null, .null, .int 0]))] sz) := by
  refine entC (cc := cX5_init) (maxL := 1) (by decide) rfl (Nat.le_of_ble_eq_true rfl) ?_
  intro p e s m below meth c args Q C0 hr hlocks hin hP hD hK hA hQ ls hl
  have hx := C0.1
  have hb := C0.2.1
  have hml := C0.2.2.1
  have hown := C0.2.2.2.1
  have hts := C0.2.2.2.2
  generalize hAe : va_A [(h0, .inr (5, [.null, .null, .null, .int 0]))] sz = A at hD hA hQ
  have hS : va_S A s.heap s.heap [] := va_S.rf
  refine lv_aload_n hx hb dX5_init_0 rfl (lv_at hl 0 rfl) ?_
  refine W.objInit hx hb hown (hts _ q196) (hts _ q63) (hts _ q64) rfl (by rw [hml]; exact hl.1) rfl dX5_init_1 (Nat.le_of_ble_eq_true rfl) (Nat.le_of_ble_eq_true rfl) ?_
  refine W.eq (g2 := F0 m 4 ls []) rfl ?_
  refine lv_aload_n hx hb dX5_init_4 rfl (lv_at hl 0 rfl) ?_
  refine lv_bipush (v := 8) hx hb dX5_init_5 (by decide) ?_
  refine va_newa (atype := .int) (ty := .int) (N' := 8) (a0 := (8, .inl (fun _ => 0))) hx hb (hts _ q112) rfl hK.1.1 hP hD hS hA (fun cA => rfl) (by decide) (by decide) (by decide) (Nat.le_of_ble_eq_true rfl) (Nat.le_of_ble_eq_true rfl) dX5_init_7 (fun zq1 cA H hKn hP hD hS => ?_)
  obtain rfl : cA = g.2.2 0 := cty 0 hKn rfl (by simp)
  have hP : va_P g.2.1 vwCl [(h0, .inr (5, [.null, .null, .null, .int 0])), (zq1, .inl (g.2.2 0, 8, .inl (fun _ => 0)))] H := hP
  have hD : va_D A [(h0, .inr (5, [.null, .null, .null, .int 0])), (zq1, .inl (g.2.2 0, 8, .inl (fun _ => 0)))] := hD
  refine va_putF (D := g.2.1) (ci := 5) (v := .ref zq1) (C := RX5) (T := TX5) (N := 4) hx hb hts inA5 tyX5 tyX5_ok nmX5 hown hK.1.1 hP hD hS 0 rfl rfl 0 (by decide) (hts _ q197) (fun _ h9 => h9) rfl hin rfl (tyX5_ok 0 (by decide)) rfl rfl (Nat.le_of_ble_eq_true rfl) dX5_init_9 (fun H locs hP hD hS => ?_)
  have hP : va_P g.2.1 vwCl [(h0, .inr (5, [.ref zq1, .null, .null, .int 0])), (zq1, .inl (g.2.2 0, 8, .inl (fun _ => 0)))] H := hP
  have hD : va_D A [(h0, .inr (5, [.ref zq1, .null, .null, .int 0])), (zq1, .inl (g.2.2 0, 8, .inl (fun _ => 0)))] := hD
  refine lv_aload_n hx hb dX5_init_12 rfl (lv_at hl 0 rfl) ?_
  refine lv_bipush (v := 8) hx hb dX5_init_13 (by decide) ?_
  refine va_newa (atype := .int) (ty := .int) (N' := 8) (a0 := (8, .inl (fun _ => 0))) hx hb (hts _ q112) rfl hK.1.1 hP hD hS hA (fun cA => rfl) (by decide) (by decide) (by decide) (Nat.le_of_ble_eq_true rfl) (Nat.le_of_ble_eq_true rfl) dX5_init_15 (fun zq2 cA H hKn hP hD hS => ?_)
  obtain rfl : cA = g.2.2 0 := cty 0 hKn rfl (by simp)
  have hP : va_P g.2.1 vwCl [(h0, .inr (5, [.ref zq1, .null, .null, .int 0])), (zq1, .inl (g.2.2 0, 8, .inl (fun _ => 0))), (zq2, .inl (g.2.2 0, 8, .inl (fun _ => 0)))] H := hP
  have hD : va_D A [(h0, .inr (5, [.ref zq1, .null, .null, .int 0])), (zq1, .inl (g.2.2 0, 8, .inl (fun _ => 0))), (zq2, .inl (g.2.2 0, 8, .inl (fun _ => 0)))] := hD
  refine va_putF (D := g.2.1) (ci := 5) (v := .ref zq2) (C := RX5) (T := TX5) (N := 4) hx hb hts inA5 tyX5 tyX5_ok nmX5 hown hK.1.1 hP hD hS 0 rfl rfl 1 (by decide) (hts _ q199) (fun _ h9 => h9) rfl hin rfl (tyX5_ok 1 (by decide)) rfl rfl (Nat.le_of_ble_eq_true rfl) dX5_init_17 (fun H locs hP hD hS => ?_)
  have hP : va_P g.2.1 vwCl [(h0, .inr (5, [.ref zq1, .ref zq2, .null, .int 0])), (zq1, .inl (g.2.2 0, 8, .inl (fun _ => 0))), (zq2, .inl (g.2.2 0, 8, .inl (fun _ => 0)))] H := hP
  have hD : va_D A [(h0, .inr (5, [.ref zq1, .ref zq2, .null, .int 0])), (zq1, .inl (g.2.2 0, 8, .inl (fun _ => 0))), (zq2, .inl (g.2.2 0, 8, .inl (fun _ => 0)))] := hD
  refine lv_aload_n hx hb dX5_init_20 rfl (lv_at hl 0 rfl) ?_
  refine lv_bipush (v := 8) hx hb dX5_init_21 (by decide) ?_
  refine va_newa (atype := .boolean) (ty := .boolean) (N' := 8) (a0 := (8, .inl (fun _ => 0))) hx hb (hts _ q215) rfl hK.1.1 hP hD hS hA (fun cA => rfl) (by decide) (by decide) (by decide) (Nat.le_of_ble_eq_true rfl) (Nat.le_of_ble_eq_true rfl) dX5_init_23 (fun zq3 cA H hKn hP hD hS => ?_)
  obtain rfl : cA = g.2.2 2 := cty 2 hKn rfl (by simp)
  have hP : va_P g.2.1 vwCl [(h0, .inr (5, [.ref zq1, .ref zq2, .null, .int 0])), (zq1, .inl (g.2.2 0, 8, .inl (fun _ => 0))), (zq2, .inl (g.2.2 0, 8, .inl (fun _ => 0))), (zq3, .inl (g.2.2 2, 8, .inl (fun _ => 0)))] H := hP
  have hD : va_D A [(h0, .inr (5, [.ref zq1, .ref zq2, .null, .int 0])), (zq1, .inl (g.2.2 0, 8, .inl (fun _ => 0))), (zq2, .inl (g.2.2 0, 8, .inl (fun _ => 0))), (zq3, .inl (g.2.2 2, 8, .inl (fun _ => 0)))] := hD
  refine va_putF (D := g.2.1) (ci := 5) (v := .ref zq3) (C := RX5) (T := TX5) (N := 4) hx hb hts inA5 tyX5 tyX5_ok nmX5 hown hK.1.1 hP hD hS 0 rfl rfl 2 (by decide) (hts _ q201) (fun _ h9 => h9) rfl hin rfl (tyX5_ok 2 (by decide)) rfl rfl (Nat.le_of_ble_eq_true rfl) dX5_init_25 (fun H locs hP hD hS => ?_)
  have hP : va_P g.2.1 vwCl [(h0, .inr (5, [.ref zq1, .ref zq2, .ref zq3, .int 0])), (zq1, .inl (g.2.2 0, 8, .inl (fun _ => 0))), (zq2, .inl (g.2.2 0, 8, .inl (fun _ => 0))), (zq3, .inl (g.2.2 2, 8, .inl (fun _ => 0)))] H := hP
  have hD : va_D A [(h0, .inr (5, [.ref zq1, .ref zq2, .ref zq3, .int 0])), (zq1, .inl (g.2.2 0, 8, .inl (fun _ => 0))), (zq2, .inl (g.2.2 0, 8, .inl (fun _ => 0))), (zq3, .inl (g.2.2 2, 8, .inl (fun _ => 0)))] := hD
  have hP9 : va_P g.2.1 vwCl (lX5_init g h0 (fun j : Nat => if j = 0 then zq1 else if j = 1 then zq2 else if j = 2 then zq3 else 0)) H := hP.sub [0, 1, 2, 3] rfl
  have hD9 : va_D A (lX5_init g h0 (fun j : Nat => if j = 0 then zq1 else if j = 1 then zq2 else if j = 2 then zq3 else 0)) := hD.sub [0, 1, 2, 3] (by decide) rfl
  exact rvC (fun j : Nat => if j = 0 then zq1 else if j = 1 then zq2 else if j = 2 then zq3 else 0) (B := fun u U => QC g A (lX5_init g h0 u) U) (post := fun _ => True) (by rw [hQ, ← hAe]) C0 hr hlocks hS trivial (fun t ht hW => QC.of hP9 hD9 hK t ht hW) (Nat.le_of_ble_eq_true rfl) (Nat.le_of_ble_eq_true rfl) dX5_init_28
abbrev lX1_init (g : Gd) (h0 : Nat) (u : Nat → Nat) : va_W := [(h0, .inr (1, [.ref (u 0), .ref (u 1), .ref (u 2), .int 0, .int 0])), ((u 0), .inl (g.2.2 0, 8, .inl (fun _ => 0))), ((u 1), .inl (g.2.2 0, 8, .inl (fun _ => 0))), ((u 2), .inl (g.2.2 0, 8, .inl (fun _ => 0)))]
set_option maxHeartbeats 4000000 in
set_option maxRecDepth 100000 in
theorem kX1_init (l : Launch) (g : Gd) (h0 sz : Nat) : Met l yX1_init (wU yX1_init cX1_init 1 none) { frames := 1, cells := 3, slots := 24, locals := 12 } (va_Pc [.ref h0] (PC g sz [(h0, .inr (1, [.null, .null, .null, .int 0, .int 0]))])) (va_Qv (fun _ : Nat → Nat => True) (fun u U => QC g (va_A [(h0, .inr (1, [.null, .null, .null, .int 0, .int 0]))] sz) (lX1_init g h0 u) U) (va_A [(h0, .inr (1, [.null, .null, .null, .int 0, .int 0]))] sz)) 3 24 (va_A [(h0, .inr (1, [.null, .null, .null, .int 0, .int 0]))] sz) := by
  refine entC (cc := cX1_init) (maxL := 1) (by decide) rfl (Nat.le_of_ble_eq_true rfl) ?_
  intro p e s m below meth c args Q C0 hr hlocks hin hP hD hK hA hQ ls hl
  have hx := C0.1
  have hb := C0.2.1
  have hml := C0.2.2.1
  have hown := C0.2.2.2.1
  have hts := C0.2.2.2.2
  generalize hAe : va_A [(h0, .inr (1, [.null, .null, .null, .int 0, .int 0]))] sz = A at hD hA hQ
  have hS : va_S A s.heap s.heap [] := va_S.rf
  refine lv_aload_n hx hb dX1_init_0 rfl (lv_at hl 0 rfl) ?_
  refine W.objInit hx hb hown (hts _ q221) (hts _ q63) (hts _ q64) rfl (by rw [hml]; exact hl.1) rfl dX1_init_1 (Nat.le_of_ble_eq_true rfl) (Nat.le_of_ble_eq_true rfl) ?_
  refine W.eq (g2 := F0 m 4 ls []) rfl ?_
  refine lv_aload_n hx hb dX1_init_4 rfl (lv_at hl 0 rfl) ?_
  refine lv_bipush (v := 8) hx hb dX1_init_5 (by decide) ?_
  refine va_newa (atype := .int) (ty := .int) (N' := 8) (a0 := (8, .inl (fun _ => 0))) hx hb (hts _ q112) rfl hK.1.1 hP hD hS hA (fun cA => rfl) (by decide) (by decide) (by decide) (Nat.le_of_ble_eq_true rfl) (Nat.le_of_ble_eq_true rfl) dX1_init_7 (fun zq1 cA H hKn hP hD hS => ?_)
  obtain rfl : cA = g.2.2 0 := cty 0 hKn rfl (by simp)
  have hP : va_P g.2.1 vwCl [(h0, .inr (1, [.null, .null, .null, .int 0, .int 0])), (zq1, .inl (g.2.2 0, 8, .inl (fun _ => 0)))] H := hP
  have hD : va_D A [(h0, .inr (1, [.null, .null, .null, .int 0, .int 0])), (zq1, .inl (g.2.2 0, 8, .inl (fun _ => 0)))] := hD
  refine va_putF (D := g.2.1) (ci := 1) (v := .ref zq1) (C := RX1) (T := TX1) (N := 5) hx hb hts inA1 tyX1 tyX1_ok nmX1 hown hK.1.1 hP hD hS 0 rfl rfl 0 (by decide) (hts _ q222) (fun _ h9 => h9) rfl hin rfl (tyX1_ok 0 (by decide)) rfl rfl (Nat.le_of_ble_eq_true rfl) dX1_init_9 (fun H locs hP hD hS => ?_)
  have hP : va_P g.2.1 vwCl [(h0, .inr (1, [.ref zq1, .null, .null, .int 0, .int 0])), (zq1, .inl (g.2.2 0, 8, .inl (fun _ => 0)))] H := hP
  have hD : va_D A [(h0, .inr (1, [.ref zq1, .null, .null, .int 0, .int 0])), (zq1, .inl (g.2.2 0, 8, .inl (fun _ => 0)))] := hD
  refine lv_aload_n hx hb dX1_init_12 rfl (lv_at hl 0 rfl) ?_
  refine lv_bipush (v := 8) hx hb dX1_init_13 (by decide) ?_
  refine va_newa (atype := .int) (ty := .int) (N' := 8) (a0 := (8, .inl (fun _ => 0))) hx hb (hts _ q112) rfl hK.1.1 hP hD hS hA (fun cA => rfl) (by decide) (by decide) (by decide) (Nat.le_of_ble_eq_true rfl) (Nat.le_of_ble_eq_true rfl) dX1_init_15 (fun zq2 cA H hKn hP hD hS => ?_)
  obtain rfl : cA = g.2.2 0 := cty 0 hKn rfl (by simp)
  have hP : va_P g.2.1 vwCl [(h0, .inr (1, [.ref zq1, .null, .null, .int 0, .int 0])), (zq1, .inl (g.2.2 0, 8, .inl (fun _ => 0))), (zq2, .inl (g.2.2 0, 8, .inl (fun _ => 0)))] H := hP
  have hD : va_D A [(h0, .inr (1, [.ref zq1, .null, .null, .int 0, .int 0])), (zq1, .inl (g.2.2 0, 8, .inl (fun _ => 0))), (zq2, .inl (g.2.2 0, 8, .inl (fun _ => 0)))] := hD
  refine va_putF (D := g.2.1) (ci := 1) (v := .ref zq2) (C := RX1) (T := TX1) (N := 5) hx hb hts inA1 tyX1 tyX1_ok nmX1 hown hK.1.1 hP hD hS 0 rfl rfl 1 (by decide) (hts _ q223) (fun _ h9 => h9) rfl hin rfl (tyX1_ok 1 (by decide)) rfl rfl (Nat.le_of_ble_eq_true rfl) dX1_init_17 (fun H locs hP hD hS => ?_)
  have hP : va_P g.2.1 vwCl [(h0, .inr (1, [.ref zq1, .ref zq2, .null, .int 0, .int 0])), (zq1, .inl (g.2.2 0, 8, .inl (fun _ => 0))), (zq2, .inl (g.2.2 0, 8, .inl (fun _ => 0)))] H := hP
  have hD : va_D A [(h0, .inr (1, [.ref zq1, .ref zq2, .null, .int 0, .int 0])), (zq1, .inl (g.2.2 0, 8, .inl (fun _ => 0))), (zq2, .inl (g.2.2 0, 8, .inl (fun _ => 0)))] := hD
  refine lv_aload_n hx hb dX1_init_20 rfl (lv_at hl 0 rfl) ?_
  refine lv_bipush (v := 8) hx hb dX1_init_21 (by decide) ?_
  refine va_newa (atype := .int) (ty := .int) (N' := 8) (a0 := (8, .inl (fun _ => 0))) hx hb (hts _ q112) rfl hK.1.1 hP hD hS hA (fun cA => rfl) (by decide) (by decide) (by decide) (Nat.le_of_ble_eq_true rfl) (Nat.le_of_ble_eq_true rfl) dX1_init_23 (fun zq3 cA H hKn hP hD hS => ?_)
  obtain rfl : cA = g.2.2 0 := cty 0 hKn rfl (by simp)
  have hP : va_P g.2.1 vwCl [(h0, .inr (1, [.ref zq1, .ref zq2, .null, .int 0, .int 0])), (zq1, .inl (g.2.2 0, 8, .inl (fun _ => 0))), (zq2, .inl (g.2.2 0, 8, .inl (fun _ => 0))), (zq3, .inl (g.2.2 0, 8, .inl (fun _ => 0)))] H := hP
  have hD : va_D A [(h0, .inr (1, [.ref zq1, .ref zq2, .null, .int 0, .int 0])), (zq1, .inl (g.2.2 0, 8, .inl (fun _ => 0))), (zq2, .inl (g.2.2 0, 8, .inl (fun _ => 0))), (zq3, .inl (g.2.2 0, 8, .inl (fun _ => 0)))] := hD
  refine va_putF (D := g.2.1) (ci := 1) (v := .ref zq3) (C := RX1) (T := TX1) (N := 5) hx hb hts inA1 tyX1 tyX1_ok nmX1 hown hK.1.1 hP hD hS 0 rfl rfl 2 (by decide) (hts _ q224) (fun _ h9 => h9) rfl hin rfl (tyX1_ok 2 (by decide)) rfl rfl (Nat.le_of_ble_eq_true rfl) dX1_init_25 (fun H locs hP hD hS => ?_)
  have hP : va_P g.2.1 vwCl [(h0, .inr (1, [.ref zq1, .ref zq2, .ref zq3, .int 0, .int 0])), (zq1, .inl (g.2.2 0, 8, .inl (fun _ => 0))), (zq2, .inl (g.2.2 0, 8, .inl (fun _ => 0))), (zq3, .inl (g.2.2 0, 8, .inl (fun _ => 0)))] H := hP
  have hD : va_D A [(h0, .inr (1, [.ref zq1, .ref zq2, .ref zq3, .int 0, .int 0])), (zq1, .inl (g.2.2 0, 8, .inl (fun _ => 0))), (zq2, .inl (g.2.2 0, 8, .inl (fun _ => 0))), (zq3, .inl (g.2.2 0, 8, .inl (fun _ => 0)))] := hD
  have hP9 : va_P g.2.1 vwCl (lX1_init g h0 (fun j : Nat => if j = 0 then zq1 else if j = 1 then zq2 else if j = 2 then zq3 else 0)) H := hP.sub [0, 1, 2, 3] rfl
  have hD9 : va_D A (lX1_init g h0 (fun j : Nat => if j = 0 then zq1 else if j = 1 then zq2 else if j = 2 then zq3 else 0)) := hD.sub [0, 1, 2, 3] (by decide) rfl
  exact rvC (fun j : Nat => if j = 0 then zq1 else if j = 1 then zq2 else if j = 2 then zq3 else 0) (B := fun u U => QC g A (lX1_init g h0 u) U) (post := fun _ => True) (by rw [hQ, ← hAe]) C0 hr hlocks hS trivial (fun t ht hW => QC.of hP9 hD9 hK t ht hW) (Nat.le_of_ble_eq_true rfl) (Nat.le_of_ble_eq_true rfl) dX1_init_28
