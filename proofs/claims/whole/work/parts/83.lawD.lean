set_option maxHeartbeats 4000000 in
theorem LK_14 {p : Program} {l : Launch} {e : Env} {s : State} {m : MethodId} {below : List Frame} {meth : Method} {c : Code} {b L : Nat} {xs : Nat → Int32} (hL : L ≤ 3072) (C0 : lw_At p s m meth c b L xs) {adX adM : Nat → Nat → Nat} {g0 : va_G × (Nat → ClassId)} (hw : lw_Two s adX adM g0) {i : Nat} (hi : i + 6 ≤ L) {ls : Array Slot} (hl : lv_has ls 4 [(0, .ref b), (1, .ref (adX 12 0)), (2, .ref (adM 0 0)), (3, .int (nI i))]) (kk : lw_On p l e s m below meth c b adX adM g0 ls 1060) : lw_On p l e s m below meth c b adX adM g0 ls 557 := by
  intro S M H locs hR hPX hPM hS
  obtain ⟨hx, hb, hr, hml, hown, hts, hX, hbl, hlocks, hgv⟩ := id C0
  obtain ⟨aX, aM, hdis, hKX, hKM⟩ := id hw
  have hbA : ¬ (fun q : Nat => s.heap.size ≤ q) b := Nat.not_le.mpr hbl
  have htA : ∀ w ∈ lw_all, w.before #[Value.ref b] s = true := fun w h => hts w (lw_all_tbl h)
  have C1 : CallFix p m c cL_law 4 s #[Value.ref b] lw_all RL := ⟨hx, hb, hml, hown, htA⟩
  have dX : ∀ k ∈ VM, ¬ AdS adX VX (adM k.1 k.2) := fun k hk q => by obtain ⟨a, ha, h⟩ := q; exact hdis a ha k hk h
  have dM : ∀ k ∈ VX, ¬ AdS adM VM (adX k.1 k.2) := fun k hk q => by obtain ⟨a, ha, h⟩ := q; exact hdis k hk a ha h.symm
  refine lv_aload_n hx hb dL_law_557 rfl (lv_at hl 1 rfl) ?_
  refine lwA hx hb hX hbl hbA hS hl 1 (by omega) hL dL_law_558 dL_law_559 dL_law_560 (by decide) dL_law_561 dL_law_562 ?_
  refine lci (va_runV (As := [.int (xs (i + 1))]) (rest := []) C1 (kX7_deep l (adX, g0) (AdS (adX, g0).1 VX) aX.S S (xs (i + 1)) ) (cwV 1 htA (gV q503 q504 q505 q46 q506) rfl rfl rfl (by decide +kernel) ⟨Nat.le_of_ble_eq_true rfl, Nat.le_of_ble_eq_true rfl⟩) (preV (recO (xMain (adX, g0)) hPX hKX rfl) hPX hKX) rfl rfl hl.1 rfl (lv_room (Nat.le_of_ble_eq_true rfl)) dL_law_563 ⟨Nat.le_of_ble_eq_true rfl, Nat.le_of_ble_eq_true rfl⟩) hS (Ads.A aX) hPM dX (fun r1 S1 H1 locs1 hw1 hPX1 hPM1 hS1 => ?_)
  try dsimp only at hw1
  refine lv_aload_n hx hb dL_law_566 rfl (lv_at hl 2 rfl) ?_
  refine lwA hx hb hX hbl hbA hS1 hl 1 (by omega) hL dL_law_567 dL_law_568 dL_law_569 (by decide) dL_law_570 dL_law_571 ?_
  refine lci (va_runV (As := [.int (xs (i + 1))]) (rest := [.int r1]) C1 (kX8_deep l (adM, g0) (AdS (adM, g0).1 VM) aM.S M (xs (i + 1)) ) (cwV 1 htA (gV q954 q955 q956 q54 q957) rfl rfl rfl (by decide +kernel) ⟨Nat.le_of_ble_eq_true rfl, Nat.le_of_ble_eq_true rfl⟩) (preV (recO (mMain (adM, g0)) hPM1 hKM rfl) hPM1 hKM) rfl rfl hl.1 rfl (lv_room (Nat.le_of_ble_eq_true rfl)) dL_law_572 ⟨Nat.le_of_ble_eq_true rfl, Nat.le_of_ble_eq_true rfl⟩) hS1 (Ads.A aM) hPX1 dM (fun r2 M1 H2 locs2 hw2 hPM2 hPX2 hS2 => ?_)
  try dsimp only at hw2
  have hE := E_deep hR (xs (i + 1))
  obtain ⟨e1, f1⟩ := hw1
  obtain ⟨e2, f2⟩ := hw2
  subst e1 f1 e2 f2
  have hq := hE
  refine lv_icmp_eq (tgt := 1060) hx hb dL_law_575 (by decide) (fun _ => ?_) (fun hne => absurd hq hne)
  exact kk _ _ _ _ hR hPX2 hPM2 hS2
set_option maxHeartbeats 4000000 in
theorem LK_15 {p : Program} {l : Launch} {e : Env} {s : State} {m : MethodId} {below : List Frame} {meth : Method} {c : Code} {b L : Nat} {xs : Nat → Int32} (hL : L ≤ 3072) (C0 : lw_At p s m meth c b L xs) {adX adM : Nat → Nat → Nat} {g0 : va_G × (Nat → ClassId)} (hw : lw_Two s adX adM g0) {i : Nat} (hi : i + 6 ≤ L) {ls : Array Slot} (hl : lv_has ls 4 [(0, .ref b), (1, .ref (adX 12 0)), (2, .ref (adM 0 0)), (3, .int (nI i))]) (kk : lw_On p l e s m below meth c b adX adM g0 ls 1060) : lw_On p l e s m below meth c b adX adM g0 ls 580 := by
  intro S M H locs hR hPX hPM hS
  obtain ⟨hx, hb, hr, hml, hown, hts, hX, hbl, hlocks, hgv⟩ := id C0
  obtain ⟨aX, aM, hdis, hKX, hKM⟩ := id hw
  have hbA : ¬ (fun q : Nat => s.heap.size ≤ q) b := Nat.not_le.mpr hbl
  have htA : ∀ w ∈ lw_all, w.before #[Value.ref b] s = true := fun w h => hts w (lw_all_tbl h)
  have C1 : CallFix p m c cL_law 4 s #[Value.ref b] lw_all RL := ⟨hx, hb, hml, hown, htA⟩
  have dX : ∀ k ∈ VM, ¬ AdS adX VX (adM k.1 k.2) := fun k hk q => by obtain ⟨a, ha, h⟩ := q; exact hdis a ha k hk h
  have dM : ∀ k ∈ VX, ¬ AdS adM VM (adX k.1 k.2) := fun k hk q => by obtain ⟨a, ha, h⟩ := q; exact hdis k hk a ha h.symm
  refine lv_aload_n hx hb dL_law_580 rfl (lv_at hl 1 rfl) ?_
  refine lwA hx hb hX hbl hbA hS hl 1 (by omega) hL dL_law_581 dL_law_582 dL_law_583 (by decide) dL_law_584 dL_law_585 ?_
  refine lwA hx hb hX hbl hbA hS hl 2 (by omega) hL dL_law_586 dL_law_587 dL_law_588 (by decide) dL_law_589 dL_law_590 ?_
  refine lci (va_runV (As := [.int (xs (i + 1)), .int (xs (i + 2))]) (rest := []) C1 (kX7_share l (adX, g0) (AdS (adX, g0).1 VX) aX.S S (xs (i + 1)) (xs (i + 2)) ) (cwV 2 htA (gV q512 q513 q514 q46 q515) rfl rfl rfl (by decide +kernel) ⟨Nat.le_of_ble_eq_true rfl, Nat.le_of_ble_eq_true rfl⟩) (preV (recO (xMain (adX, g0)) hPX hKX rfl) hPX hKX) rfl rfl hl.1 rfl (lv_room (Nat.le_of_ble_eq_true rfl)) dL_law_591 ⟨Nat.le_of_ble_eq_true rfl, Nat.le_of_ble_eq_true rfl⟩) hS (Ads.A aX) hPM dX (fun r1 S1 H1 locs1 hw1 hPX1 hPM1 hS1 => ?_)
  try dsimp only at hw1
  refine lv_aload_n hx hb dL_law_594 rfl (lv_at hl 2 rfl) ?_
  refine lwA hx hb hX hbl hbA hS1 hl 1 (by omega) hL dL_law_595 dL_law_596 dL_law_597 (by decide) dL_law_598 dL_law_599 ?_
  refine lwA hx hb hX hbl hbA hS1 hl 2 (by omega) hL dL_law_600 dL_law_601 dL_law_602 (by decide) dL_law_603 dL_law_604 ?_
  refine lci (va_runV (As := [.int (xs (i + 1)), .int (xs (i + 2))]) (rest := [.int r1]) C1 (kX8_share l (adM, g0) (AdS (adM, g0).1 VM) aM.S M (xs (i + 1)) (xs (i + 2)) ) (cwV 2 htA (gV q962 q963 q964 q54 q965) rfl rfl rfl (by decide +kernel) ⟨Nat.le_of_ble_eq_true rfl, Nat.le_of_ble_eq_true rfl⟩) (preV (recO (mMain (adM, g0)) hPM1 hKM rfl) hPM1 hKM) rfl rfl hl.1 rfl (lv_room (Nat.le_of_ble_eq_true rfl)) dL_law_605 ⟨Nat.le_of_ble_eq_true rfl, Nat.le_of_ble_eq_true rfl⟩) hS1 (Ads.A aM) hPX1 dM (fun r2 M1 H2 locs2 hw2 hPM2 hPX2 hS2 => ?_)
  try dsimp only at hw2
  have hE := E_share hR (xs (i + 1)) (xs (i + 2))
  obtain ⟨e1, f1⟩ := hw1
  obtain ⟨e2, f2⟩ := hw2
  subst e1 f1 e2 f2
  have hq := hE
  refine lv_icmp_eq (tgt := 1060) hx hb dL_law_608 (by decide) (fun _ => ?_) (fun hne => absurd hq hne)
  exact kk _ _ _ _ hR hPX2 hPM2 hS2
set_option maxHeartbeats 4000000 in
theorem LK_16 {p : Program} {l : Launch} {e : Env} {s : State} {m : MethodId} {below : List Frame} {meth : Method} {c : Code} {b L : Nat} {xs : Nat → Int32} (hL : L ≤ 3072) (C0 : lw_At p s m meth c b L xs) {adX adM : Nat → Nat → Nat} {g0 : va_G × (Nat → ClassId)} (hw : lw_Two s adX adM g0) {i : Nat} (hi : i + 6 ≤ L) {ls : Array Slot} (hl : lv_has ls 4 [(0, .ref b), (1, .ref (adX 12 0)), (2, .ref (adM 0 0)), (3, .int (nI i))]) (kk : lw_On p l e s m below meth c b adX adM g0 ls 1060) : lw_On p l e s m below meth c b adX adM g0 ls 613 := by
  intro S M H locs hR hPX hPM hS
  obtain ⟨hx, hb, hr, hml, hown, hts, hX, hbl, hlocks, hgv⟩ := id C0
  obtain ⟨aX, aM, hdis, hKX, hKM⟩ := id hw
  have hbA : ¬ (fun q : Nat => s.heap.size ≤ q) b := Nat.not_le.mpr hbl
  have htA : ∀ w ∈ lw_all, w.before #[Value.ref b] s = true := fun w h => hts w (lw_all_tbl h)
  have C1 : CallFix p m c cL_law 4 s #[Value.ref b] lw_all RL := ⟨hx, hb, hml, hown, htA⟩
  have dX : ∀ k ∈ VM, ¬ AdS adX VX (adM k.1 k.2) := fun k hk q => by obtain ⟨a, ha, h⟩ := q; exact hdis a ha k hk h
  have dM : ∀ k ∈ VX, ¬ AdS adM VM (adX k.1 k.2) := fun k hk q => by obtain ⟨a, ha, h⟩ := q; exact hdis k hk a ha h.symm
  refine lv_aload_n hx hb dL_law_613 rfl (lv_at hl 1 rfl) ?_
  refine lwA hx hb hX hbl hbA hS hl 1 (by omega) hL dL_law_614 dL_law_615 dL_law_616 (by decide) dL_law_617 dL_law_618 ?_
  refine lwA hx hb hX hbl hbA hS hl 2 (by omega) hL dL_law_619 dL_law_620 dL_law_621 (by decide) dL_law_622 dL_law_623 ?_
  refine lcl (va_runV (As := [.int (xs (i + 1)), .int (xs (i + 2))]) (rest := []) C1 (kX7_losses l (adX, g0) (AdS (adX, g0).1 VX) aX.S S (xs (i + 1)) (xs (i + 2)) ) (cwV 2 htA (gV q516 q517 q518 q46 q519) rfl rfl rfl (by decide +kernel) ⟨Nat.le_of_ble_eq_true rfl, Nat.le_of_ble_eq_true rfl⟩) (preV (recO (xMain (adX, g0)) hPX hKX rfl) hPX hKX) rfl rfl hl.1 rfl (lv_room (Nat.le_of_ble_eq_true rfl)) dL_law_624 ⟨Nat.le_of_ble_eq_true rfl, Nat.le_of_ble_eq_true rfl⟩) hS (Ads.A aX) hPM dX (fun r1 S1 H1 locs1 hw1 hPX1 hPM1 hS1 => ?_)
  try dsimp only at hw1
  refine lv_aload_n hx hb dL_law_627 rfl (lv_at hl 2 rfl) ?_
  refine lwA hx hb hX hbl hbA hS1 hl 1 (by omega) hL dL_law_628 dL_law_629 dL_law_630 (by decide) dL_law_631 dL_law_632 ?_
  refine lwA hx hb hX hbl hbA hS1 hl 2 (by omega) hL dL_law_633 dL_law_634 dL_law_635 (by decide) dL_law_636 dL_law_637 ?_
  refine lcl (va_runV (As := [.int (xs (i + 1)), .int (xs (i + 2))]) (rest := [.long r1]) C1 (kX8_losses l (adM, g0) (AdS (adM, g0).1 VM) aM.S M (xs (i + 1)) (xs (i + 2)) ) (cwV 2 htA (gV q966 q967 q968 q54 q969) rfl rfl rfl (by decide +kernel) ⟨Nat.le_of_ble_eq_true rfl, Nat.le_of_ble_eq_true rfl⟩) (preV (recO (mMain (adM, g0)) hPM1 hKM rfl) hPM1 hKM) rfl rfl hl.1 rfl (lv_room (Nat.le_of_ble_eq_true rfl)) dL_law_638 ⟨Nat.le_of_ble_eq_true rfl, Nat.le_of_ble_eq_true rfl⟩) hS1 (Ads.A aM) hPX1 dM (fun r2 M1 H2 locs2 hw2 hPM2 hPX2 hS2 => ?_)
  try dsimp only at hw2
  have hE := E_losses hR (xs (i + 1)) (xs (i + 2))
  obtain ⟨e1, f1⟩ := hw1
  obtain ⟨e2, f2⟩ := hw2
  subst e1 f1 e2 f2
  have hq := hE.1
  refine klcmp_eq (tgt := 1060) hx hb dL_law_641 dL_law_642 (by decide) (fun _ => ?_) (fun hne => absurd hq hne)
  exact kk _ _ _ _ hE.2 hPX2 hPM2 hS2
set_option maxHeartbeats 4000000 in
theorem LK_17 {p : Program} {l : Launch} {e : Env} {s : State} {m : MethodId} {below : List Frame} {meth : Method} {c : Code} {b L : Nat} {xs : Nat → Int32} (hL : L ≤ 3072) (C0 : lw_At p s m meth c b L xs) {adX adM : Nat → Nat → Nat} {g0 : va_G × (Nat → ClassId)} (hw : lw_Two s adX adM g0) {i : Nat} (hi : i + 6 ≤ L) {ls : Array Slot} (hl : lv_has ls 4 [(0, .ref b), (1, .ref (adX 12 0)), (2, .ref (adM 0 0)), (3, .int (nI i))]) (kk : lw_On p l e s m below meth c b adX adM g0 ls 1060) : lw_On p l e s m below meth c b adX adM g0 ls 647 := by
  intro S M H locs hR hPX hPM hS
  obtain ⟨hx, hb, hr, hml, hown, hts, hX, hbl, hlocks, hgv⟩ := id C0
  obtain ⟨aX, aM, hdis, hKX, hKM⟩ := id hw
  have hbA : ¬ (fun q : Nat => s.heap.size ≤ q) b := Nat.not_le.mpr hbl
  have htA : ∀ w ∈ lw_all, w.before #[Value.ref b] s = true := fun w h => hts w (lw_all_tbl h)
  have C1 : CallFix p m c cL_law 4 s #[Value.ref b] lw_all RL := ⟨hx, hb, hml, hown, htA⟩
  have dX : ∀ k ∈ VM, ¬ AdS adX VX (adM k.1 k.2) := fun k hk q => by obtain ⟨a, ha, h⟩ := q; exact hdis a ha k hk h
  have dM : ∀ k ∈ VX, ¬ AdS adM VM (adX k.1 k.2) := fun k hk q => by obtain ⟨a, ha, h⟩ := q; exact hdis k hk a ha h.symm
  refine lv_aload_n hx hb dL_law_647 rfl (lv_at hl 1 rfl) ?_
  refine lwA hx hb hX hbl hbA hS hl 1 (by omega) hL dL_law_648 dL_law_649 dL_law_650 (by decide) dL_law_651 dL_law_652 ?_
  refine lwA hx hb hX hbl hbA hS hl 2 (by omega) hL dL_law_653 dL_law_654 dL_law_655 (by decide) dL_law_656 dL_law_657 ?_
  refine lwA hx hb hX hbl hbA hS hl 3 (by omega) hL dL_law_658 dL_law_659 dL_law_660 (by decide) dL_law_661 dL_law_662 ?_
  refine lwA hx hb hX hbl hbA hS hl 4 (by omega) hL dL_law_663 dL_law_664 dL_law_665 (by decide) dL_law_666 dL_law_667 ?_
  refine lci (va_runV (As := [.int (xs (i + 1)), .int (xs (i + 2)), .int (xs (i + 3)), .int (xs (i + 4))]) (rest := []) C1 (kX7_fleet l (adX, g0) (AdS (adX, g0).1 VX) aX.S S (xs (i + 1)) (xs (i + 2)) (xs (i + 3)) (xs (i + 4)) ) (cwV 4 htA (gV q536 q537 q538 q46 q539) rfl rfl rfl (by decide +kernel) ⟨Nat.le_of_ble_eq_true rfl, Nat.le_of_ble_eq_true rfl⟩) (preV (recO (xMain (adX, g0)) hPX hKX rfl) hPX hKX) rfl rfl hl.1 rfl (lv_room (Nat.le_of_ble_eq_true rfl)) dL_law_668 ⟨Nat.le_of_ble_eq_true rfl, Nat.le_of_ble_eq_true rfl⟩) hS (Ads.A aX) hPM dX (fun r1 S1 H1 locs1 hw1 hPX1 hPM1 hS1 => ?_)
  try dsimp only at hw1
  refine lv_aload_n hx hb dL_law_671 rfl (lv_at hl 2 rfl) ?_
  refine lwA hx hb hX hbl hbA hS1 hl 1 (by omega) hL dL_law_672 dL_law_673 dL_law_674 (by decide) dL_law_675 dL_law_676 ?_
  refine lwA hx hb hX hbl hbA hS1 hl 2 (by omega) hL dL_law_677 dL_law_678 dL_law_679 (by decide) dL_law_680 dL_law_681 ?_
  refine lwA hx hb hX hbl hbA hS1 hl 3 (by omega) hL dL_law_682 dL_law_683 dL_law_684 (by decide) dL_law_685 dL_law_686 ?_
  refine lwA hx hb hX hbl hbA hS1 hl 4 (by omega) hL dL_law_687 dL_law_688 dL_law_689 (by decide) dL_law_690 dL_law_691 ?_
  refine lci (va_runV (As := [.int (xs (i + 1)), .int (xs (i + 2)), .int (xs (i + 3)), .int (xs (i + 4))]) (rest := [.int r1]) C1 (kX8_fleet l (adM, g0) (AdS (adM, g0).1 VM) aM.S M (xs (i + 1)) (xs (i + 2)) (xs (i + 3)) (xs (i + 4)) ) (cwV 4 htA (gV q984 q985 q986 q54 q987) rfl rfl rfl (by decide +kernel) ⟨Nat.le_of_ble_eq_true rfl, Nat.le_of_ble_eq_true rfl⟩) (preV (recO (mMain (adM, g0)) hPM1 hKM rfl) hPM1 hKM) rfl rfl hl.1 rfl (lv_room (Nat.le_of_ble_eq_true rfl)) dL_law_692 ⟨Nat.le_of_ble_eq_true rfl, Nat.le_of_ble_eq_true rfl⟩) hS1 (Ads.A aM) hPX1 dM (fun r2 M1 H2 locs2 hw2 hPM2 hPX2 hS2 => ?_)
  try dsimp only at hw2
  have hE := E_fleet S M (xs (i + 1)) (xs (i + 2)) (xs (i + 3)) (xs (i + 4))
  obtain ⟨e1, f1⟩ := hw1
  obtain ⟨e2, f2⟩ := hw2
  subst e1 f1 e2 f2
  have hq := hE
  refine lv_icmp_eq (tgt := 1060) hx hb dL_law_695 (by decide) (fun _ => ?_) (fun hne => absurd hq hne)
  exact kk _ _ _ _ hR hPX2 hPM2 hS2
set_option maxHeartbeats 4000000 in
theorem LK_18 {p : Program} {l : Launch} {e : Env} {s : State} {m : MethodId} {below : List Frame} {meth : Method} {c : Code} {b L : Nat} {xs : Nat → Int32} (hL : L ≤ 3072) (C0 : lw_At p s m meth c b L xs) {adX adM : Nat → Nat → Nat} {g0 : va_G × (Nat → ClassId)} (hw : lw_Two s adX adM g0) {i : Nat} (hi : i + 6 ≤ L) {ls : Array Slot} (hl : lv_has ls 4 [(0, .ref b), (1, .ref (adX 12 0)), (2, .ref (adM 0 0)), (3, .int (nI i))]) (kk : lw_On p l e s m below meth c b adX adM g0 ls 1060) : lw_On p l e s m below meth c b adX adM g0 ls 700 := by
  intro S M H locs hR hPX hPM hS
  obtain ⟨hx, hb, hr, hml, hown, hts, hX, hbl, hlocks, hgv⟩ := id C0
  obtain ⟨aX, aM, hdis, hKX, hKM⟩ := id hw
  have hbA : ¬ (fun q : Nat => s.heap.size ≤ q) b := Nat.not_le.mpr hbl
  have htA : ∀ w ∈ lw_all, w.before #[Value.ref b] s = true := fun w h => hts w (lw_all_tbl h)
  have C1 : CallFix p m c cL_law 4 s #[Value.ref b] lw_all RL := ⟨hx, hb, hml, hown, htA⟩
  have dX : ∀ k ∈ VM, ¬ AdS adX VX (adM k.1 k.2) := fun k hk q => by obtain ⟨a, ha, h⟩ := q; exact hdis a ha k hk h
  have dM : ∀ k ∈ VX, ¬ AdS adM VM (adX k.1 k.2) := fun k hk q => by obtain ⟨a, ha, h⟩ := q; exact hdis k hk a ha h.symm
  refine lv_aload_n hx hb dL_law_700 rfl (lv_at hl 1 rfl) ?_
  refine lwA hx hb hX hbl hbA hS hl 1 (by omega) hL dL_law_701 dL_law_702 dL_law_703 (by decide) dL_law_704 dL_law_705 ?_
  refine lwA hx hb hX hbl hbA hS hl 2 (by omega) hL dL_law_706 dL_law_707 dL_law_708 (by decide) dL_law_709 dL_law_710 ?_
  refine lci (va_runV (As := [.int (xs (i + 1)), .int (xs (i + 2))]) (rest := []) C1 (kX7_holds l (adX, g0) (AdS (adX, g0).1 VX) aX.S S (xs (i + 1)) (xs (i + 2)) ) (cwV 2 htA (gV q547 q548 q549 q46 q550) rfl rfl rfl (by decide +kernel) ⟨Nat.le_of_ble_eq_true rfl, Nat.le_of_ble_eq_true rfl⟩) (preV (recO (xMain (adX, g0)) hPX hKX rfl) hPX hKX) rfl rfl hl.1 rfl (lv_room (Nat.le_of_ble_eq_true rfl)) dL_law_711 ⟨Nat.le_of_ble_eq_true rfl, Nat.le_of_ble_eq_true rfl⟩) hS (Ads.A aX) hPM dX (fun r1 S1 H1 locs1 hw1 hPX1 hPM1 hS1 => ?_)
  try dsimp only at hw1
  refine lv_aload_n hx hb dL_law_714 rfl (lv_at hl 2 rfl) ?_
  refine lwA hx hb hX hbl hbA hS1 hl 1 (by omega) hL dL_law_715 dL_law_716 dL_law_717 (by decide) dL_law_718 dL_law_719 ?_
  refine lwA hx hb hX hbl hbA hS1 hl 2 (by omega) hL dL_law_720 dL_law_721 dL_law_722 (by decide) dL_law_723 dL_law_724 ?_
  refine lci (va_runV (As := [.int (xs (i + 1)), .int (xs (i + 2))]) (rest := [.int r1]) C1 (kX8_holds l (adM, g0) (AdS (adM, g0).1 VM) aM.S M (xs (i + 1)) (xs (i + 2)) ) (cwV 2 htA (gV q993 q994 q995 q54 q996) rfl rfl rfl (by decide +kernel) ⟨Nat.le_of_ble_eq_true rfl, Nat.le_of_ble_eq_true rfl⟩) (preV (recO (mMain (adM, g0)) hPM1 hKM rfl) hPM1 hKM) rfl rfl hl.1 rfl (lv_room (Nat.le_of_ble_eq_true rfl)) dL_law_725 ⟨Nat.le_of_ble_eq_true rfl, Nat.le_of_ble_eq_true rfl⟩) hS1 (Ads.A aM) hPX1 dM (fun r2 M1 H2 locs2 hw2 hPM2 hPX2 hS2 => ?_)
  try dsimp only at hw2
  have hE := E_holds S M (xs (i + 1)) (xs (i + 2))
  obtain ⟨e1, f1⟩ := hw1
  obtain ⟨e2, f2⟩ := hw2
  subst e1 f1 e2 f2
  have hq := hE
  refine lv_icmp_eq (tgt := 1060) hx hb dL_law_728 (by decide) (fun _ => ?_) (fun hne => absurd hq hne)
  exact kk _ _ _ _ hR hPX2 hPM2 hS2
set_option maxHeartbeats 4000000 in
theorem LK_19 {p : Program} {l : Launch} {e : Env} {s : State} {m : MethodId} {below : List Frame} {meth : Method} {c : Code} {b L : Nat} {xs : Nat → Int32} (hL : L ≤ 3072) (C0 : lw_At p s m meth c b L xs) {adX adM : Nat → Nat → Nat} {g0 : va_G × (Nat → ClassId)} (hw : lw_Two s adX adM g0) {i : Nat} (hi : i + 6 ≤ L) {ls : Array Slot} (hl : lv_has ls 4 [(0, .ref b), (1, .ref (adX 12 0)), (2, .ref (adM 0 0)), (3, .int (nI i))]) (kk : lw_On p l e s m below meth c b adX adM g0 ls 1060) : lw_On p l e s m below meth c b adX adM g0 ls 733 := by
  intro S M H locs hR hPX hPM hS
  obtain ⟨hx, hb, hr, hml, hown, hts, hX, hbl, hlocks, hgv⟩ := id C0
  obtain ⟨aX, aM, hdis, hKX, hKM⟩ := id hw
  have hbA : ¬ (fun q : Nat => s.heap.size ≤ q) b := Nat.not_le.mpr hbl
  have htA : ∀ w ∈ lw_all, w.before #[Value.ref b] s = true := fun w h => hts w (lw_all_tbl h)
  have C1 : CallFix p m c cL_law 4 s #[Value.ref b] lw_all RL := ⟨hx, hb, hml, hown, htA⟩
  have dX : ∀ k ∈ VM, ¬ AdS adX VX (adM k.1 k.2) := fun k hk q => by obtain ⟨a, ha, h⟩ := q; exact hdis a ha k hk h
  have dM : ∀ k ∈ VX, ¬ AdS adM VM (adX k.1 k.2) := fun k hk q => by obtain ⟨a, ha, h⟩ := q; exact hdis k hk a ha h.symm
  refine lv_aload_n hx hb dL_law_733 rfl (lv_at hl 1 rfl) ?_
  refine lwA hx hb hX hbl hbA hS hl 1 (by omega) hL dL_law_734 dL_law_735 dL_law_736 (by decide) dL_law_737 dL_law_738 ?_
  refine lwA hx hb hX hbl hbA hS hl 2 (by omega) hL dL_law_739 dL_law_740 dL_law_741 (by decide) dL_law_742 dL_law_743 ?_
  refine lwA hx hb hX hbl hbA hS hl 3 (by omega) hL dL_law_744 dL_law_745 dL_law_746 (by decide) dL_law_747 dL_law_748 ?_
  refine lwA hx hb hX hbl hbA hS hl 4 (by omega) hL dL_law_749 dL_law_750 dL_law_751 (by decide) dL_law_752 dL_law_753 ?_
  refine lwA hx hb hX hbl hbA hS hl 5 (by omega) hL dL_law_754 dL_law_755 dL_law_756 (by decide) dL_law_757 dL_law_758 ?_
  refine lcl (va_runV (As := [.int (xs (i + 1)), .int (xs (i + 2)), .int (xs (i + 3)), .int (xs (i + 4)), .int (xs (i + 5))]) (rest := []) C1 (kX7_meant l (adX, g0) (AdS (adX, g0).1 VX) aX.S S (xs (i + 1)) (xs (i + 2)) (xs (i + 3)) (xs (i + 4)) (xs (i + 5)) ) (cwV 5 htA (gV q554 q555 q556 q46 q557) rfl rfl rfl (by decide +kernel) ⟨Nat.le_of_ble_eq_true rfl, Nat.le_of_ble_eq_true rfl⟩) (preV (recO (xMain (adX, g0)) hPX hKX rfl) hPX hKX) rfl rfl hl.1 rfl (lv_room (Nat.le_of_ble_eq_true rfl)) dL_law_759 ⟨Nat.le_of_ble_eq_true rfl, Nat.le_of_ble_eq_true rfl⟩) hS (Ads.A aX) hPM dX (fun r1 S1 H1 locs1 hw1 hPX1 hPM1 hS1 => ?_)
  try dsimp only at hw1
  refine lv_aload_n hx hb dL_law_762 rfl (lv_at hl 2 rfl) ?_
  refine lwA hx hb hX hbl hbA hS1 hl 1 (by omega) hL dL_law_763 dL_law_764 dL_law_765 (by decide) dL_law_766 dL_law_767 ?_
  refine lwA hx hb hX hbl hbA hS1 hl 2 (by omega) hL dL_law_768 dL_law_769 dL_law_770 (by decide) dL_law_771 dL_law_772 ?_
  refine lwA hx hb hX hbl hbA hS1 hl 3 (by omega) hL dL_law_773 dL_law_774 dL_law_775 (by decide) dL_law_776 dL_law_777 ?_
  refine lwA hx hb hX hbl hbA hS1 hl 4 (by omega) hL dL_law_778 dL_law_779 dL_law_780 (by decide) dL_law_781 dL_law_782 ?_
  refine lwA hx hb hX hbl hbA hS1 hl 5 (by omega) hL dL_law_783 dL_law_784 dL_law_785 (by decide) dL_law_786 dL_law_787 ?_
  refine lcl (va_runV (As := [.int (xs (i + 1)), .int (xs (i + 2)), .int (xs (i + 3)), .int (xs (i + 4)), .int (xs (i + 5))]) (rest := [.long r1]) C1 (kX8_meant l (adM, g0) (AdS (adM, g0).1 VM) aM.S M (xs (i + 1)) (xs (i + 2)) (xs (i + 3)) (xs (i + 4)) (xs (i + 5)) ) (cwV 5 htA (gV q997 q998 q999 q54 q1000) rfl rfl rfl (by decide +kernel) ⟨Nat.le_of_ble_eq_true rfl, Nat.le_of_ble_eq_true rfl⟩) (preV (recO (mMain (adM, g0)) hPM1 hKM rfl) hPM1 hKM) rfl rfl hl.1 rfl (lv_room (Nat.le_of_ble_eq_true rfl)) dL_law_788 ⟨Nat.le_of_ble_eq_true rfl, Nat.le_of_ble_eq_true rfl⟩) hS1 (Ads.A aM) hPX1 dM (fun r2 M1 H2 locs2 hw2 hPM2 hPX2 hS2 => ?_)
  try dsimp only at hw2
  have hE := E_meant S M (xs (i + 1)) (xs (i + 2)) (xs (i + 3)) (xs (i + 4)) (xs (i + 5))
  obtain ⟨e1, f1⟩ := hw1
  obtain ⟨e2, f2⟩ := hw2
  subst e1 f1 e2 f2
  have hq := hE
  refine klcmp_eq (tgt := 1060) hx hb dL_law_791 dL_law_792 (by decide) (fun _ => ?_) (fun hne => absurd hq hne)
  exact kk _ _ _ _ hR hPX2 hPM2 hS2
set_option maxHeartbeats 4000000 in
theorem LK_20 {p : Program} {l : Launch} {e : Env} {s : State} {m : MethodId} {below : List Frame} {meth : Method} {c : Code} {b L : Nat} {xs : Nat → Int32} (hL : L ≤ 3072) (C0 : lw_At p s m meth c b L xs) {adX adM : Nat → Nat → Nat} {g0 : va_G × (Nat → ClassId)} (hw : lw_Two s adX adM g0) {i : Nat} (hi : i + 6 ≤ L) {ls : Array Slot} (hl : lv_has ls 4 [(0, .ref b), (1, .ref (adX 12 0)), (2, .ref (adM 0 0)), (3, .int (nI i))]) (kk : lw_On p l e s m below meth c b adX adM g0 ls 1060) : lw_On p l e s m below meth c b adX adM g0 ls 797 := by
  intro S M H locs hR hPX hPM hS
  obtain ⟨hx, hb, hr, hml, hown, hts, hX, hbl, hlocks, hgv⟩ := id C0
  obtain ⟨aX, aM, hdis, hKX, hKM⟩ := id hw
  have hbA : ¬ (fun q : Nat => s.heap.size ≤ q) b := Nat.not_le.mpr hbl
  have htA : ∀ w ∈ lw_all, w.before #[Value.ref b] s = true := fun w h => hts w (lw_all_tbl h)
  have C1 : CallFix p m c cL_law 4 s #[Value.ref b] lw_all RL := ⟨hx, hb, hml, hown, htA⟩
  have dX : ∀ k ∈ VM, ¬ AdS adX VX (adM k.1 k.2) := fun k hk q => by obtain ⟨a, ha, h⟩ := q; exact hdis a ha k hk h
  have dM : ∀ k ∈ VX, ¬ AdS adM VM (adX k.1 k.2) := fun k hk q => by obtain ⟨a, ha, h⟩ := q; exact hdis k hk a ha h.symm
  refine lv_aload_n hx hb dL_law_797 rfl (lv_at hl 1 rfl) ?_
  refine lwA hx hb hX hbl hbA hS hl 1 (by omega) hL dL_law_798 dL_law_799 dL_law_800 (by decide) dL_law_801 dL_law_802 ?_
  refine lwA hx hb hX hbl hbA hS hl 2 (by omega) hL dL_law_803 dL_law_804 dL_law_805 (by decide) dL_law_806 dL_law_807 ?_
  refine lwA hx hb hX hbl hbA hS hl 3 (by omega) hL dL_law_808 dL_law_809 dL_law_810 (by decide) dL_law_811 dL_law_812 ?_
  suffices KK : W p l e room_1 s m #[Value.ref b] below meth c H locs 99 1330 (lw_Z below #[Value.ref b] s) (F0 m 821 ls [.int (b01 (xs (i + 3))), .int (xs (i + 2)), .int (xs (i + 1)), .ref (adX 12 0)]) by
    refine lv_if_eq (tgt := 820) hx hb dL_law_813 (by decide) (fun c0 => ?_) (fun c0 => ?_)
    · refine lv_iconst (v := 0) hx hb dL_law_820 (by decide) ?_
      rw [show b01 (xs (i + 3)) = 0 from (b01_0 _).mpr c0] at KK
      exact KK
    · refine lv_iconst (v := 1) hx hb dL_law_816 (by decide) ?_
      refine lv_goto (tgt := 821) hx hb dL_law_817 (by decide) ?_
      rw [show b01 (xs (i + 3)) = 1 from if_neg c0] at KK
      exact KK
  refine lci (va_runV (As := [.int (xs (i + 1)), .int (xs (i + 2)), .int (b01 (xs (i + 3)))]) (rest := []) C1 (kX7_tale l (adX, g0) (AdS (adX, g0).1 VX) aX.S S (xs (i + 1)) (xs (i + 2)) (xs (i + 3)) ) (cwV 3 htA (gV q561 q562 q563 q46 q564) rfl rfl rfl (by decide +kernel) ⟨Nat.le_of_ble_eq_true rfl, Nat.le_of_ble_eq_true rfl⟩) (preV (recO (xMain (adX, g0)) hPX hKX rfl) hPX hKX) rfl rfl hl.1 rfl (lv_room (Nat.le_of_ble_eq_true rfl)) dL_law_821 ⟨Nat.le_of_ble_eq_true rfl, Nat.le_of_ble_eq_true rfl⟩) hS (Ads.A aX) hPM dX (fun r1 S1 H1 locs1 hw1 hPX1 hPM1 hS1 => ?_)
  try dsimp only at hw1
  refine lv_aload_n hx hb dL_law_824 rfl (lv_at hl 2 rfl) ?_
  refine lwA hx hb hX hbl hbA hS1 hl 1 (by omega) hL dL_law_825 dL_law_826 dL_law_827 (by decide) dL_law_828 dL_law_829 ?_
  refine lwA hx hb hX hbl hbA hS1 hl 2 (by omega) hL dL_law_830 dL_law_831 dL_law_832 (by decide) dL_law_833 dL_law_834 ?_
  refine lwA hx hb hX hbl hbA hS1 hl 3 (by omega) hL dL_law_835 dL_law_836 dL_law_837 (by decide) dL_law_838 dL_law_839 ?_
  suffices KK : W p l e room_1 s m #[Value.ref b] below meth c H1 locs1 99 1330 (lw_Z below #[Value.ref b] s) (F0 m 848 ls [.int (b01 (xs (i + 3))), .int (xs (i + 2)), .int (xs (i + 1)), .ref (adM 0 0), .int r1]) by
    refine lv_if_eq (tgt := 847) hx hb dL_law_840 (by decide) (fun c0 => ?_) (fun c0 => ?_)
    · refine lv_iconst (v := 0) hx hb dL_law_847 (by decide) ?_
      rw [show b01 (xs (i + 3)) = 0 from (b01_0 _).mpr c0] at KK
      exact KK
    · refine lv_iconst (v := 1) hx hb dL_law_843 (by decide) ?_
      refine lv_goto (tgt := 848) hx hb dL_law_844 (by decide) ?_
      rw [show b01 (xs (i + 3)) = 1 from if_neg c0] at KK
      exact KK
  refine lci (va_runV (As := [.int (xs (i + 1)), .int (xs (i + 2)), .int (b01 (xs (i + 3)))]) (rest := [.int r1]) C1 (kX8_tale l (adM, g0) (AdS (adM, g0).1 VM) aM.S M (xs (i + 1)) (xs (i + 2)) (xs (i + 3)) hR.ht) (cwV 3 htA (gV q1004 q1005 q1006 q54 q1007) rfl rfl rfl (by decide +kernel) ⟨Nat.le_of_ble_eq_true rfl, Nat.le_of_ble_eq_true rfl⟩) (preV (recO (mMain (adM, g0)) hPM1 hKM rfl) hPM1 hKM) rfl rfl hl.1 rfl (lv_room (Nat.le_of_ble_eq_true rfl)) dL_law_848 ⟨Nat.le_of_ble_eq_true rfl, Nat.le_of_ble_eq_true rfl⟩) hS1 (Ads.A aM) hPX1 dM (fun r2 M1 H2 locs2 hw2 hPM2 hPX2 hS2 => ?_)
  try dsimp only at hw2
  have hE := E_tale hR (xs (i + 1)) (xs (i + 2)) (xs (i + 3))
  obtain ⟨e1, f1⟩ := hw1
  obtain ⟨e2, f2⟩ := hw2
  subst e1 f1 e2 f2
  have hq := hE.1
  refine lv_icmp_eq (tgt := 1060) hx hb dL_law_851 (by decide) (fun _ => ?_) (fun hne => absurd hq hne)
  exact kk _ _ _ _ hE.2 hPX2 hPM2 hS2
