set_option maxHeartbeats 4000000 in
theorem LK_7 {p : Program} {l : Launch} {e : Env} {s : State} {m : MethodId} {below : List Frame} {meth : Method} {c : Code} {b L : Nat} {xs : Nat → Int32} (hL : L ≤ 3072) (C0 : lw_At p s m meth c b L xs) {adX adM : Nat → Nat → Nat} {g0 : va_G × (Nat → ClassId)} (hw : lw_Two s adX adM g0) {i : Nat} (hi : i + 6 ≤ L) {ls : Array Slot} (hl : lv_has ls 4 [(0, .ref b), (1, .ref (adX 12 0)), (2, .ref (adM 0 0)), (3, .int (nI i))]) (kk : lw_On p l e s m below meth c b adX adM g0 ls 1060) : lw_On p l e s m below meth c b adX adM g0 ls 385 := by
  intro S M H locs hR hPX hPM hS
  obtain ⟨hx, hb, hr, hml, hown, hts, hX, hbl, hlocks, hgv⟩ := id C0
  obtain ⟨aX, aM, hdis, hKX, hKM⟩ := id hw
  have hbA : ¬ (fun q : Nat => s.heap.size ≤ q) b := Nat.not_le.mpr hbl
  have htA : ∀ w ∈ lw_all, w.before #[Value.ref b] s = true := fun w h => hts w (lw_all_tbl h)
  have C1 : CallFix p m c cL_law 4 s #[Value.ref b] lw_all RL := ⟨hx, hb, hml, hown, htA⟩
  have dX : ∀ k ∈ VM, ¬ AdS adX VX (adM k.1 k.2) := fun k hk q => by obtain ⟨a, ha, h⟩ := q; exact hdis a ha k hk h
  have dM : ∀ k ∈ VX, ¬ AdS adM VM (adX k.1 k.2) := fun k hk q => by obtain ⟨a, ha, h⟩ := q; exact hdis k hk a ha h.symm
  refine lv_aload_n hx hb dL_law_385 rfl (lv_at hl 1 rfl) ?_
  refine lci (va_runV (As := []) (rest := []) C1 (kX7_fault l (adX, g0) (AdS (adX, g0).1 VX) aX.S S  ) (cwV 0 htA (gV q360 q361 q362 q46 q363) rfl rfl rfl (by decide +kernel) ⟨Nat.le_of_ble_eq_true rfl, Nat.le_of_ble_eq_true rfl⟩) (preV (recO (xMain (adX, g0)) hPX hKX rfl) hPX hKX) rfl rfl hl.1 rfl (lv_room (Nat.le_of_ble_eq_true rfl)) dL_law_386 ⟨Nat.le_of_ble_eq_true rfl, Nat.le_of_ble_eq_true rfl⟩) hS (Ads.A aX) hPM dX (fun r1 S1 H1 locs1 hw1 hPX1 hPM1 hS1 => ?_)
  try dsimp only at hw1
  refine lv_aload_n hx hb dL_law_389 rfl (lv_at hl 2 rfl) ?_
  refine lci (va_runV (As := []) (rest := [.int r1]) C1 (kX8_fault l (adM, g0) (AdS (adM, g0).1 VM) aM.S M  hR.hp) (cwV 0 htA (gV q840 q841 q842 q54 q843) rfl rfl rfl (by decide +kernel) ⟨Nat.le_of_ble_eq_true rfl, Nat.le_of_ble_eq_true rfl⟩) (preV (recO (mMain (adM, g0)) hPM1 hKM rfl) hPM1 hKM) rfl rfl hl.1 rfl (lv_room (Nat.le_of_ble_eq_true rfl)) dL_law_390 ⟨Nat.le_of_ble_eq_true rfl, Nat.le_of_ble_eq_true rfl⟩) hS1 (Ads.A aM) hPX1 dM (fun r2 M1 H2 locs2 hw2 hPM2 hPX2 hS2 => ?_)
  try dsimp only at hw2
  have hE := E_fault hR 
  obtain ⟨e1, f1⟩ := hw1
  obtain ⟨e2, f2⟩ := hw2
  subst e1 f1 e2 f2
  have hq := hE.1
  refine lv_icmp_eq (tgt := 1060) hx hb dL_law_393 (by decide) (fun _ => ?_) (fun hne => absurd hq hne)
  exact kk _ _ _ _ hE.2 hPX2 hPM2 hS2
set_option maxHeartbeats 4000000 in
theorem LK_8 {p : Program} {l : Launch} {e : Env} {s : State} {m : MethodId} {below : List Frame} {meth : Method} {c : Code} {b L : Nat} {xs : Nat → Int32} (hL : L ≤ 3072) (C0 : lw_At p s m meth c b L xs) {adX adM : Nat → Nat → Nat} {g0 : va_G × (Nat → ClassId)} (hw : lw_Two s adX adM g0) {i : Nat} (hi : i + 6 ≤ L) {ls : Array Slot} (hl : lv_has ls 4 [(0, .ref b), (1, .ref (adX 12 0)), (2, .ref (adM 0 0)), (3, .int (nI i))]) (kk : lw_On p l e s m below meth c b adX adM g0 ls 1060) : lw_On p l e s m below meth c b adX adM g0 ls 398 := by
  intro S M H locs hR hPX hPM hS
  obtain ⟨hx, hb, hr, hml, hown, hts, hX, hbl, hlocks, hgv⟩ := id C0
  obtain ⟨aX, aM, hdis, hKX, hKM⟩ := id hw
  have hbA : ¬ (fun q : Nat => s.heap.size ≤ q) b := Nat.not_le.mpr hbl
  have htA : ∀ w ∈ lw_all, w.before #[Value.ref b] s = true := fun w h => hts w (lw_all_tbl h)
  have C1 : CallFix p m c cL_law 4 s #[Value.ref b] lw_all RL := ⟨hx, hb, hml, hown, htA⟩
  have dX : ∀ k ∈ VM, ¬ AdS adX VX (adM k.1 k.2) := fun k hk q => by obtain ⟨a, ha, h⟩ := q; exact hdis a ha k hk h
  have dM : ∀ k ∈ VX, ¬ AdS adM VM (adX k.1 k.2) := fun k hk q => by obtain ⟨a, ha, h⟩ := q; exact hdis k hk a ha h.symm
  refine lv_aload_n hx hb dL_law_398 rfl (lv_at hl 1 rfl) ?_
  refine lwA hx hb hX hbl hbA hS hl 1 (by omega) hL dL_law_399 dL_law_400 dL_law_401 (by decide) dL_law_402 dL_law_403 ?_
  refine lci (va_runV (As := [.int (xs (i + 1))]) (rest := []) C1 (kX7_judge l (adX, g0) (AdS (adX, g0).1 VX) aX.S S (xs (i + 1)) ) (cwV 1 htA (gV q382 q383 q384 q46 q385) rfl rfl rfl (by decide +kernel) ⟨Nat.le_of_ble_eq_true rfl, Nat.le_of_ble_eq_true rfl⟩) (preV (recO (xMain (adX, g0)) hPX hKX rfl) hPX hKX) rfl rfl hl.1 rfl (lv_room (Nat.le_of_ble_eq_true rfl)) dL_law_404 ⟨Nat.le_of_ble_eq_true rfl, Nat.le_of_ble_eq_true rfl⟩) hS (Ads.A aX) hPM dX (fun r1 S1 H1 locs1 hw1 hPX1 hPM1 hS1 => ?_)
  try dsimp only at hw1
  refine lv_aload_n hx hb dL_law_407 rfl (lv_at hl 2 rfl) ?_
  refine lwA hx hb hX hbl hbA hS1 hl 1 (by omega) hL dL_law_408 dL_law_409 dL_law_410 (by decide) dL_law_411 dL_law_412 ?_
  refine lci (va_runV (As := [.int (xs (i + 1))]) (rest := [.int r1]) C1 (kX8_judge l (adM, g0) (AdS (adM, g0).1 VM) aM.S M (xs (i + 1)) hR.hp) (cwV 1 htA (gV q857 q858 q859 q54 q860) rfl rfl rfl (by decide +kernel) ⟨Nat.le_of_ble_eq_true rfl, Nat.le_of_ble_eq_true rfl⟩) (preV (recO (mMain (adM, g0)) hPM1 hKM rfl) hPM1 hKM) rfl rfl hl.1 rfl (lv_room (Nat.le_of_ble_eq_true rfl)) dL_law_413 ⟨Nat.le_of_ble_eq_true rfl, Nat.le_of_ble_eq_true rfl⟩) hS1 (Ads.A aM) hPX1 dM (fun r2 M1 H2 locs2 hw2 hPM2 hPX2 hS2 => ?_)
  try dsimp only at hw2
  have hE := E_judge hR (xs (i + 1))
  obtain ⟨e1, f1⟩ := hw1
  obtain ⟨e2, f2⟩ := hw2
  subst e1 f1 e2 f2
  have hq := hE.1
  refine lv_icmp_eq (tgt := 1060) hx hb dL_law_416 (by decide) (fun _ => ?_) (fun hne => absurd hq hne)
  exact kk _ _ _ _ hE.2 hPX2 hPM2 hS2
set_option maxHeartbeats 4000000 in
theorem LK_9 {p : Program} {l : Launch} {e : Env} {s : State} {m : MethodId} {below : List Frame} {meth : Method} {c : Code} {b L : Nat} {xs : Nat → Int32} (hL : L ≤ 3072) (C0 : lw_At p s m meth c b L xs) {adX adM : Nat → Nat → Nat} {g0 : va_G × (Nat → ClassId)} (hw : lw_Two s adX adM g0) {i : Nat} (hi : i + 6 ≤ L) {ls : Array Slot} (hl : lv_has ls 4 [(0, .ref b), (1, .ref (adX 12 0)), (2, .ref (adM 0 0)), (3, .int (nI i))]) (kk : lw_On p l e s m below meth c b adX adM g0 ls 1060) : lw_On p l e s m below meth c b adX adM g0 ls 421 := by
  intro S M H locs hR hPX hPM hS
  obtain ⟨hx, hb, hr, hml, hown, hts, hX, hbl, hlocks, hgv⟩ := id C0
  obtain ⟨aX, aM, hdis, hKX, hKM⟩ := id hw
  have hbA : ¬ (fun q : Nat => s.heap.size ≤ q) b := Nat.not_le.mpr hbl
  have htA : ∀ w ∈ lw_all, w.before #[Value.ref b] s = true := fun w h => hts w (lw_all_tbl h)
  have C1 : CallFix p m c cL_law 4 s #[Value.ref b] lw_all RL := ⟨hx, hb, hml, hown, htA⟩
  have dX : ∀ k ∈ VM, ¬ AdS adX VX (adM k.1 k.2) := fun k hk q => by obtain ⟨a, ha, h⟩ := q; exact hdis a ha k hk h
  have dM : ∀ k ∈ VX, ¬ AdS adM VM (adX k.1 k.2) := fun k hk q => by obtain ⟨a, ha, h⟩ := q; exact hdis k hk a ha h.symm
  refine lv_aload_n hx hb dL_law_421 rfl (lv_at hl 1 rfl) ?_
  refine lwA hx hb hX hbl hbA hS hl 1 (by omega) hL dL_law_422 dL_law_423 dL_law_424 (by decide) dL_law_425 dL_law_426 ?_
  refine lwA hx hb hX hbl hbA hS hl 2 (by omega) hL dL_law_427 dL_law_428 dL_law_429 (by decide) dL_law_430 dL_law_431 ?_
  refine lci (va_runV (As := [.int (xs (i + 1)), .int (xs (i + 2))]) (rest := []) C1 (kX7_behind l (adX, g0) (AdS (adX, g0).1 VX) aX.S S (xs (i + 1)) (xs (i + 2)) ) (cwV 2 htA (gV q464 q465 q466 q46 q467) rfl rfl rfl (by decide +kernel) ⟨Nat.le_of_ble_eq_true rfl, Nat.le_of_ble_eq_true rfl⟩) (preV (recO (xMain (adX, g0)) hPX hKX rfl) hPX hKX) rfl rfl hl.1 rfl (lv_room (Nat.le_of_ble_eq_true rfl)) dL_law_432 ⟨Nat.le_of_ble_eq_true rfl, Nat.le_of_ble_eq_true rfl⟩) hS (Ads.A aX) hPM dX (fun r1 S1 H1 locs1 hw1 hPX1 hPM1 hS1 => ?_)
  try dsimp only at hw1
  refine lv_aload_n hx hb dL_law_435 rfl (lv_at hl 2 rfl) ?_
  refine lwA hx hb hX hbl hbA hS1 hl 1 (by omega) hL dL_law_436 dL_law_437 dL_law_438 (by decide) dL_law_439 dL_law_440 ?_
  refine lwA hx hb hX hbl hbA hS1 hl 2 (by omega) hL dL_law_441 dL_law_442 dL_law_443 (by decide) dL_law_444 dL_law_445 ?_
  refine lci (va_runV (As := [.int (xs (i + 1)), .int (xs (i + 2))]) (rest := [.int r1]) C1 (kX8_behind l (adM, g0) (AdS (adM, g0).1 VM) aM.S M (xs (i + 1)) (xs (i + 2)) hR.hp) (cwV 2 htA (gV q910 q911 q912 q54 q913) rfl rfl rfl (by decide +kernel) ⟨Nat.le_of_ble_eq_true rfl, Nat.le_of_ble_eq_true rfl⟩) (preV (recO (mMain (adM, g0)) hPM1 hKM rfl) hPM1 hKM) rfl rfl hl.1 rfl (lv_room (Nat.le_of_ble_eq_true rfl)) dL_law_446 ⟨Nat.le_of_ble_eq_true rfl, Nat.le_of_ble_eq_true rfl⟩) hS1 (Ads.A aM) hPX1 dM (fun r2 M1 H2 locs2 hw2 hPM2 hPX2 hS2 => ?_)
  try dsimp only at hw2
  have hE := E_behind hR (xs (i + 1)) (xs (i + 2))
  obtain ⟨e1, f1⟩ := hw1
  obtain ⟨e2, f2⟩ := hw2
  subst e1 f1 e2 f2
  have hq := hE.1
  refine lv_icmp_eq (tgt := 1060) hx hb dL_law_449 (by decide) (fun _ => ?_) (fun hne => absurd hq hne)
  exact kk _ _ _ _ hE.2 hPX2 hPM2 hS2
set_option maxHeartbeats 4000000 in
theorem LK_10 {p : Program} {l : Launch} {e : Env} {s : State} {m : MethodId} {below : List Frame} {meth : Method} {c : Code} {b L : Nat} {xs : Nat → Int32} (hL : L ≤ 3072) (C0 : lw_At p s m meth c b L xs) {adX adM : Nat → Nat → Nat} {g0 : va_G × (Nat → ClassId)} (hw : lw_Two s adX adM g0) {i : Nat} (hi : i + 6 ≤ L) {ls : Array Slot} (hl : lv_has ls 4 [(0, .ref b), (1, .ref (adX 12 0)), (2, .ref (adM 0 0)), (3, .int (nI i))]) (kk : lw_On p l e s m below meth c b adX adM g0 ls 1060) : lw_On p l e s m below meth c b adX adM g0 ls 454 := by
  intro S M H locs hR hPX hPM hS
  obtain ⟨hx, hb, hr, hml, hown, hts, hX, hbl, hlocks, hgv⟩ := id C0
  obtain ⟨aX, aM, hdis, hKX, hKM⟩ := id hw
  have hbA : ¬ (fun q : Nat => s.heap.size ≤ q) b := Nat.not_le.mpr hbl
  have htA : ∀ w ∈ lw_all, w.before #[Value.ref b] s = true := fun w h => hts w (lw_all_tbl h)
  have C1 : CallFix p m c cL_law 4 s #[Value.ref b] lw_all RL := ⟨hx, hb, hml, hown, htA⟩
  have dX : ∀ k ∈ VM, ¬ AdS adX VX (adM k.1 k.2) := fun k hk q => by obtain ⟨a, ha, h⟩ := q; exact hdis a ha k hk h
  have dM : ∀ k ∈ VX, ¬ AdS adM VM (adX k.1 k.2) := fun k hk q => by obtain ⟨a, ha, h⟩ := q; exact hdis k hk a ha h.symm
  refine lv_aload_n hx hb dL_law_454 rfl (lv_at hl 1 rfl) ?_
  refine lwA hx hb hX hbl hbA hS hl 1 (by omega) hL dL_law_455 dL_law_456 dL_law_457 (by decide) dL_law_458 dL_law_459 ?_
  refine lci (va_runV (As := [.int (xs (i + 1))]) (rest := []) C1 (kX7_total l (adX, g0) (AdS (adX, g0).1 VX) aX.S S (xs (i + 1)) ) (cwV 1 htA (gV q470 q471 q472 q46 q473) rfl rfl rfl (by decide +kernel) ⟨Nat.le_of_ble_eq_true rfl, Nat.le_of_ble_eq_true rfl⟩) (preV (recO (xMain (adX, g0)) hPX hKX rfl) hPX hKX) rfl rfl hl.1 rfl (lv_room (Nat.le_of_ble_eq_true rfl)) dL_law_460 ⟨Nat.le_of_ble_eq_true rfl, Nat.le_of_ble_eq_true rfl⟩) hS (Ads.A aX) hPM dX (fun r1 S1 H1 locs1 hw1 hPX1 hPM1 hS1 => ?_)
  try dsimp only at hw1
  refine lv_aload_n hx hb dL_law_463 rfl (lv_at hl 2 rfl) ?_
  refine lwA hx hb hX hbl hbA hS1 hl 1 (by omega) hL dL_law_464 dL_law_465 dL_law_466 (by decide) dL_law_467 dL_law_468 ?_
  refine lci (va_runV (As := [.int (xs (i + 1))]) (rest := [.int r1]) C1 (kX8_total l (adM, g0) (AdS (adM, g0).1 VM) aM.S M (xs (i + 1)) hR.hp) (cwV 1 htA (gV q919 q920 q921 q54 q922) rfl rfl rfl (by decide +kernel) ⟨Nat.le_of_ble_eq_true rfl, Nat.le_of_ble_eq_true rfl⟩) (preV (recO (mMain (adM, g0)) hPM1 hKM rfl) hPM1 hKM) rfl rfl hl.1 rfl (lv_room (Nat.le_of_ble_eq_true rfl)) dL_law_469 ⟨Nat.le_of_ble_eq_true rfl, Nat.le_of_ble_eq_true rfl⟩) hS1 (Ads.A aM) hPX1 dM (fun r2 M1 H2 locs2 hw2 hPM2 hPX2 hS2 => ?_)
  try dsimp only at hw2
  have hE := E_total hR (xs (i + 1))
  obtain ⟨e1, f1⟩ := hw1
  obtain ⟨e2, f2⟩ := hw2
  subst e1 f1 e2 f2
  have hq := hE.1
  refine lv_icmp_eq (tgt := 1060) hx hb dL_law_472 (by decide) (fun _ => ?_) (fun hne => absurd hq hne)
  exact kk _ _ _ _ hE.2 hPX2 hPM2 hS2
set_option maxHeartbeats 4000000 in
theorem LK_11 {p : Program} {l : Launch} {e : Env} {s : State} {m : MethodId} {below : List Frame} {meth : Method} {c : Code} {b L : Nat} {xs : Nat → Int32} (hL : L ≤ 3072) (C0 : lw_At p s m meth c b L xs) {adX adM : Nat → Nat → Nat} {g0 : va_G × (Nat → ClassId)} (hw : lw_Two s adX adM g0) {i : Nat} (hi : i + 6 ≤ L) {ls : Array Slot} (hl : lv_has ls 4 [(0, .ref b), (1, .ref (adX 12 0)), (2, .ref (adM 0 0)), (3, .int (nI i))]) (kk : lw_On p l e s m below meth c b adX adM g0 ls 1060) : lw_On p l e s m below meth c b adX adM g0 ls 477 := by
  intro S M H locs hR hPX hPM hS
  obtain ⟨hx, hb, hr, hml, hown, hts, hX, hbl, hlocks, hgv⟩ := id C0
  obtain ⟨aX, aM, hdis, hKX, hKM⟩ := id hw
  have hbA : ¬ (fun q : Nat => s.heap.size ≤ q) b := Nat.not_le.mpr hbl
  have htA : ∀ w ∈ lw_all, w.before #[Value.ref b] s = true := fun w h => hts w (lw_all_tbl h)
  have C1 : CallFix p m c cL_law 4 s #[Value.ref b] lw_all RL := ⟨hx, hb, hml, hown, htA⟩
  have dX : ∀ k ∈ VM, ¬ AdS adX VX (adM k.1 k.2) := fun k hk q => by obtain ⟨a, ha, h⟩ := q; exact hdis a ha k hk h
  have dM : ∀ k ∈ VX, ¬ AdS adM VM (adX k.1 k.2) := fun k hk q => by obtain ⟨a, ha, h⟩ := q; exact hdis k hk a ha h.symm
  refine lv_aload_n hx hb dL_law_477 rfl (lv_at hl 1 rfl) ?_
  refine lwA hx hb hX hbl hbA hS hl 1 (by omega) hL dL_law_478 dL_law_479 dL_law_480 (by decide) dL_law_481 dL_law_482 ?_
  refine lci (va_runV (As := [.int (xs (i + 1))]) (rest := []) C1 (kX7_sunk l (adX, g0) (AdS (adX, g0).1 VX) aX.S S (xs (i + 1)) ) (cwV 1 htA (gV q475 q476 q477 q46 q478) rfl rfl rfl (by decide +kernel) ⟨Nat.le_of_ble_eq_true rfl, Nat.le_of_ble_eq_true rfl⟩) (preV (recO (xMain (adX, g0)) hPX hKX rfl) hPX hKX) rfl rfl hl.1 rfl (lv_room (Nat.le_of_ble_eq_true rfl)) dL_law_483 ⟨Nat.le_of_ble_eq_true rfl, Nat.le_of_ble_eq_true rfl⟩) hS (Ads.A aX) hPM dX (fun r1 S1 H1 locs1 hw1 hPX1 hPM1 hS1 => ?_)
  try dsimp only at hw1
  refine lv_aload_n hx hb dL_law_486 rfl (lv_at hl 2 rfl) ?_
  refine lwA hx hb hX hbl hbA hS1 hl 1 (by omega) hL dL_law_487 dL_law_488 dL_law_489 (by decide) dL_law_490 dL_law_491 ?_
  refine lci (va_runV (As := [.int (xs (i + 1))]) (rest := [.int r1]) C1 (kX8_sunk l (adM, g0) (AdS (adM, g0).1 VM) aM.S M (xs (i + 1)) hR.hp) (cwV 1 htA (gV q929 q930 q931 q54 q932) rfl rfl rfl (by decide +kernel) ⟨Nat.le_of_ble_eq_true rfl, Nat.le_of_ble_eq_true rfl⟩) (preV (recO (mMain (adM, g0)) hPM1 hKM rfl) hPM1 hKM) rfl rfl hl.1 rfl (lv_room (Nat.le_of_ble_eq_true rfl)) dL_law_492 ⟨Nat.le_of_ble_eq_true rfl, Nat.le_of_ble_eq_true rfl⟩) hS1 (Ads.A aM) hPX1 dM (fun r2 M1 H2 locs2 hw2 hPM2 hPX2 hS2 => ?_)
  try dsimp only at hw2
  have hE := E_sunk hR (xs (i + 1))
  obtain ⟨e1, f1⟩ := hw1
  obtain ⟨e2, f2⟩ := hw2
  subst e1 f1 e2 f2
  have hq := hE.1
  refine lv_icmp_eq (tgt := 1060) hx hb dL_law_495 (by decide) (fun _ => ?_) (fun hne => absurd hq hne)
  exact kk _ _ _ _ hE.2 hPX2 hPM2 hS2
set_option maxHeartbeats 4000000 in
theorem LK_12 {p : Program} {l : Launch} {e : Env} {s : State} {m : MethodId} {below : List Frame} {meth : Method} {c : Code} {b L : Nat} {xs : Nat → Int32} (hL : L ≤ 3072) (C0 : lw_At p s m meth c b L xs) {adX adM : Nat → Nat → Nat} {g0 : va_G × (Nat → ClassId)} (hw : lw_Two s adX adM g0) {i : Nat} (hi : i + 6 ≤ L) {ls : Array Slot} (hl : lv_has ls 4 [(0, .ref b), (1, .ref (adX 12 0)), (2, .ref (adM 0 0)), (3, .int (nI i))]) (kk : lw_On p l e s m below meth c b adX adM g0 ls 1060) : lw_On p l e s m below meth c b adX adM g0 ls 500 := by
  intro S M H locs hR hPX hPM hS
  obtain ⟨hx, hb, hr, hml, hown, hts, hX, hbl, hlocks, hgv⟩ := id C0
  obtain ⟨aX, aM, hdis, hKX, hKM⟩ := id hw
  have hbA : ¬ (fun q : Nat => s.heap.size ≤ q) b := Nat.not_le.mpr hbl
  have htA : ∀ w ∈ lw_all, w.before #[Value.ref b] s = true := fun w h => hts w (lw_all_tbl h)
  have C1 : CallFix p m c cL_law 4 s #[Value.ref b] lw_all RL := ⟨hx, hb, hml, hown, htA⟩
  have dX : ∀ k ∈ VM, ¬ AdS adX VX (adM k.1 k.2) := fun k hk q => by obtain ⟨a, ha, h⟩ := q; exact hdis a ha k hk h
  have dM : ∀ k ∈ VX, ¬ AdS adM VM (adX k.1 k.2) := fun k hk q => by obtain ⟨a, ha, h⟩ := q; exact hdis k hk a ha h.symm
  refine lv_aload_n hx hb dL_law_500 rfl (lv_at hl 1 rfl) ?_
  refine lci (va_runV (As := []) (rest := []) C1 (kX7_done l (adX, g0) (AdS (adX, g0).1 VX) aX.S S  ) (cwV 0 htA (gV q479 q480 q481 q46 q482) rfl rfl rfl (by decide +kernel) ⟨Nat.le_of_ble_eq_true rfl, Nat.le_of_ble_eq_true rfl⟩) (preV (recO (xMain (adX, g0)) hPX hKX rfl) hPX hKX) rfl rfl hl.1 rfl (lv_room (Nat.le_of_ble_eq_true rfl)) dL_law_501 ⟨Nat.le_of_ble_eq_true rfl, Nat.le_of_ble_eq_true rfl⟩) hS (Ads.A aX) hPM dX (fun r1 S1 H1 locs1 hw1 hPX1 hPM1 hS1 => ?_)
  try dsimp only at hw1
  refine lv_aload_n hx hb dL_law_504 rfl (lv_at hl 2 rfl) ?_
  refine lci (va_runV (As := []) (rest := [.int r1]) C1 (kX8_done l (adM, g0) (AdS (adM, g0).1 VM) aM.S M  hR.hp) (cwV 0 htA (gV q933 q934 q935 q54 q936) rfl rfl rfl (by decide +kernel) ⟨Nat.le_of_ble_eq_true rfl, Nat.le_of_ble_eq_true rfl⟩) (preV (recO (mMain (adM, g0)) hPM1 hKM rfl) hPM1 hKM) rfl rfl hl.1 rfl (lv_room (Nat.le_of_ble_eq_true rfl)) dL_law_505 ⟨Nat.le_of_ble_eq_true rfl, Nat.le_of_ble_eq_true rfl⟩) hS1 (Ads.A aM) hPX1 dM (fun r2 M1 H2 locs2 hw2 hPM2 hPX2 hS2 => ?_)
  try dsimp only at hw2
  have hE := E_done hR 
  obtain ⟨e1, f1⟩ := hw1
  obtain ⟨e2, f2⟩ := hw2
  subst e1 f1 e2 f2
  have hq := hE.1
  refine lv_icmp_eq (tgt := 1060) hx hb dL_law_508 (by decide) (fun _ => ?_) (fun hne => absurd hq hne)
  exact kk _ _ _ _ hE.2 hPX2 hPM2 hS2
set_option maxHeartbeats 4000000 in
theorem LK_13 {p : Program} {l : Launch} {e : Env} {s : State} {m : MethodId} {below : List Frame} {meth : Method} {c : Code} {b L : Nat} {xs : Nat → Int32} (hL : L ≤ 3072) (C0 : lw_At p s m meth c b L xs) {adX adM : Nat → Nat → Nat} {g0 : va_G × (Nat → ClassId)} (hw : lw_Two s adX adM g0) {i : Nat} (hi : i + 6 ≤ L) {ls : Array Slot} (hl : lv_has ls 4 [(0, .ref b), (1, .ref (adX 12 0)), (2, .ref (adM 0 0)), (3, .int (nI i))]) (kk : lw_On p l e s m below meth c b adX adM g0 ls 1060) : lw_On p l e s m below meth c b adX adM g0 ls 513 := by
  intro S M H locs hR hPX hPM hS
  obtain ⟨hx, hb, hr, hml, hown, hts, hX, hbl, hlocks, hgv⟩ := id C0
  obtain ⟨aX, aM, hdis, hKX, hKM⟩ := id hw
  have hbA : ¬ (fun q : Nat => s.heap.size ≤ q) b := Nat.not_le.mpr hbl
  have htA : ∀ w ∈ lw_all, w.before #[Value.ref b] s = true := fun w h => hts w (lw_all_tbl h)
  have C1 : CallFix p m c cL_law 4 s #[Value.ref b] lw_all RL := ⟨hx, hb, hml, hown, htA⟩
  have dX : ∀ k ∈ VM, ¬ AdS adX VX (adM k.1 k.2) := fun k hk q => by obtain ⟨a, ha, h⟩ := q; exact hdis a ha k hk h
  have dM : ∀ k ∈ VX, ¬ AdS adM VM (adX k.1 k.2) := fun k hk q => by obtain ⟨a, ha, h⟩ := q; exact hdis k hk a ha h.symm
  refine lv_aload_n hx hb dL_law_513 rfl (lv_at hl 1 rfl) ?_
  refine lwA hx hb hX hbl hbA hS hl 1 (by omega) hL dL_law_514 dL_law_515 dL_law_516 (by decide) dL_law_517 dL_law_518 ?_
  refine lwA hx hb hX hbl hbA hS hl 2 (by omega) hL dL_law_519 dL_law_520 dL_law_521 (by decide) dL_law_522 dL_law_523 ?_
  refine lwA hx hb hX hbl hbA hS hl 3 (by omega) hL dL_law_524 dL_law_525 dL_law_526 (by decide) dL_law_527 dL_law_528 ?_
  refine lcl (va_runV (As := [.int (xs (i + 1)), .int (xs (i + 2)), .int (xs (i + 3))]) (rest := []) C1 (kX7_mean l (adX, g0) (AdS (adX, g0).1 VX) aX.S S (xs (i + 1)) (xs (i + 2)) (xs (i + 3)) ) (cwV 3 htA (gV q483 q484 q485 q46 q486) rfl rfl rfl (by decide +kernel) ⟨Nat.le_of_ble_eq_true rfl, Nat.le_of_ble_eq_true rfl⟩) (preV (recO (xMain (adX, g0)) hPX hKX rfl) hPX hKX) rfl rfl hl.1 rfl (lv_room (Nat.le_of_ble_eq_true rfl)) dL_law_529 ⟨Nat.le_of_ble_eq_true rfl, Nat.le_of_ble_eq_true rfl⟩) hS (Ads.A aX) hPM dX (fun r1 S1 H1 locs1 hw1 hPX1 hPM1 hS1 => ?_)
  try dsimp only at hw1
  refine lv_aload_n hx hb dL_law_532 rfl (lv_at hl 2 rfl) ?_
  refine lwA hx hb hX hbl hbA hS1 hl 1 (by omega) hL dL_law_533 dL_law_534 dL_law_535 (by decide) dL_law_536 dL_law_537 ?_
  refine lwA hx hb hX hbl hbA hS1 hl 2 (by omega) hL dL_law_538 dL_law_539 dL_law_540 (by decide) dL_law_541 dL_law_542 ?_
  refine lwA hx hb hX hbl hbA hS1 hl 3 (by omega) hL dL_law_543 dL_law_544 dL_law_545 (by decide) dL_law_546 dL_law_547 ?_
  refine lcl (va_runV (As := [.int (xs (i + 1)), .int (xs (i + 2)), .int (xs (i + 3))]) (rest := [.long r1]) C1 (kX8_mean l (adM, g0) (AdS (adM, g0).1 VM) aM.S M (xs (i + 1)) (xs (i + 2)) (xs (i + 3)) ) (cwV 3 htA (gV q937 q938 q939 q54 q940) rfl rfl rfl (by decide +kernel) ⟨Nat.le_of_ble_eq_true rfl, Nat.le_of_ble_eq_true rfl⟩) (preV (recO (mMain (adM, g0)) hPM1 hKM rfl) hPM1 hKM) rfl rfl hl.1 rfl (lv_room (Nat.le_of_ble_eq_true rfl)) dL_law_548 ⟨Nat.le_of_ble_eq_true rfl, Nat.le_of_ble_eq_true rfl⟩) hS1 (Ads.A aM) hPX1 dM (fun r2 M1 H2 locs2 hw2 hPM2 hPX2 hS2 => ?_)
  try dsimp only at hw2
  have hE := E_mean hR (xs (i + 1)) (xs (i + 2)) (xs (i + 3))
  obtain ⟨e1, f1⟩ := hw1
  obtain ⟨e2, f2⟩ := hw2
  subst e1 f1 e2 f2
  have hq := hE
  refine klcmp_eq (tgt := 1060) hx hb dL_law_551 dL_law_552 (by decide) (fun _ => ?_) (fun hne => absurd hq hne)
  exact kk _ _ _ _ hR hPX2 hPM2 hS2
