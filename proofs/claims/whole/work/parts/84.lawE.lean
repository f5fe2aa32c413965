set_option maxHeartbeats 4000000 in
set_option maxRecDepth 100000 in
theorem LK_21 {p : Program} {l : Launch} {e : Env} {s : State} {m : MethodId} {below : List Frame} {meth : Method} {c : Code} {b L : Nat} {xs : Nat → Int32} (hL : L ≤ 3072) (C0 : lw_At p s m meth c b L xs) {adX adM : Nat → Nat → Nat} {g0 : va_G × (Nat → ClassId)} (hw : lw_Two s adX adM g0) {i : Nat} (hi : i + 6 ≤ L) {ls : Array Slot} (hl : lv_has ls 4 [(0, .ref b), (1, .ref (adX 12 0)), (2, .ref (adM 0 0)), (3, .int (nI i))]) (kk : lw_On p l e s m below meth c b adX adM g0 ls 1060) : lw_On p l e s m below meth c b adX adM g0 ls 856 := by
  intro S M H locs hR hPX hPM hS
  obtain ⟨hx, hb, hr, hml, hown, hts, hX, hbl, hlocks, hgv⟩ := id C0
  obtain ⟨aX, aM, hdis, hKX, hKM⟩ := id hw
  have hbA : ¬ (fun q : Nat => s.heap.size ≤ q) b := Nat.not_le.mpr hbl
  have htA : ∀ w ∈ lw_all, w.before #[Value.ref b] s = true := fun w h => hts w (lw_all_tbl h)
  have C1 : CallFix p m c cL_law 4 s #[Value.ref b] lw_all RL := ⟨hx, hb, hml, hown, htA⟩
  have dX : ∀ k ∈ VM, ¬ AdS adX VX (adM k.1 k.2) := fun k hk q => by obtain ⟨a, ha, h⟩ := q; exact hdis a ha k hk h
  have dM : ∀ k ∈ VX, ¬ AdS adM VM (adX k.1 k.2) := fun k hk q => by obtain ⟨a, ha, h⟩ := q; exact hdis k hk a ha h.symm
  refine lv_aload_n hx hb dL_law_856 rfl (lv_at hl 1 rfl) ?_
  refine lci (va_runV (As := []) (rest := []) C1 (kX7_forget l (adX, g0) (AdS (adX, g0).1 VX) aX.S S  ) (cwV 0 htA (gV q569 q570 q571 q46 q572) rfl rfl rfl (by decide +kernel) ⟨Nat.le_of_ble_eq_true rfl, Nat.le_of_ble_eq_true rfl⟩) (preV (recO (xMain (adX, g0)) hPX hKX rfl) hPX hKX) rfl rfl hl.1 rfl (lv_room (Nat.le_of_ble_eq_true rfl)) dL_law_857 ⟨Nat.le_of_ble_eq_true rfl, Nat.le_of_ble_eq_true rfl⟩) hS (Ads.A aX) hPM dX (fun r1 S1 H1 locs1 hw1 hPX1 hPM1 hS1 => ?_)
  try dsimp only at hw1
  refine lv_aload_n hx hb dL_law_860 rfl (lv_at hl 2 rfl) ?_
  refine lci (va_runV (As := []) (rest := [.int r1]) C1 (kX8_forget l (adM, g0) (AdS (adM, g0).1 VM) aM.S M  ) (cwV 0 htA (gV q1009 q1010 q1011 q54 q1012) rfl rfl rfl (by decide +kernel) ⟨Nat.le_of_ble_eq_true rfl, Nat.le_of_ble_eq_true rfl⟩) (preV (recO (mMain (adM, g0)) hPM1 hKM rfl) hPM1 hKM) rfl rfl hl.1 rfl (lv_room (Nat.le_of_ble_eq_true rfl)) dL_law_861 ⟨Nat.le_of_ble_eq_true rfl, Nat.le_of_ble_eq_true rfl⟩) hS1 (Ads.A aM) hPX1 dM (fun r2 M1 H2 locs2 hw2 hPM2 hPX2 hS2 => ?_)
  try dsimp only at hw2
  have hE := E_forget hR 
  obtain ⟨e1, f1⟩ := hw1
  obtain ⟨e2, f2⟩ := hw2
  subst e1 f1 e2 f2
  have hq := hE.1
  refine lv_icmp_eq (tgt := 1060) hx hb dL_law_864 (by decide) (fun _ => ?_) (fun hne => absurd hq hne)
  exact kk _ _ _ _ hE.2 hPX2 hPM2 hS2
set_option maxHeartbeats 4000000 in
set_option maxRecDepth 100000 in
theorem LK_22 {p : Program} {l : Launch} {e : Env} {s : State} {m : MethodId} {below : List Frame} {meth : Method} {c : Code} {b L : Nat} {xs : Nat → Int32} (hL : L ≤ 3072) (C0 : lw_At p s m meth c b L xs) {adX adM : Nat → Nat → Nat} {g0 : va_G × (Nat → ClassId)} (hw : lw_Two s adX adM g0) {i : Nat} (hi : i + 6 ≤ L) {ls : Array Slot} (hl : lv_has ls 4 [(0, .ref b), (1, .ref (adX 12 0)), (2, .ref (adM 0 0)), (3, .int (nI i))]) (kk : lw_On p l e s m below meth c b adX adM g0 ls 1060) : lw_On p l e s m below meth c b adX adM g0 ls 869 := by
  intro S M H locs hR hPX hPM hS
  obtain ⟨hx, hb, hr, hml, hown, hts, hX, hbl, hlocks, hgv⟩ := id C0
  obtain ⟨aX, aM, hdis, hKX, hKM⟩ := id hw
  have hbA : ¬ (fun q : Nat => s.heap.size ≤ q) b := Nat.not_le.mpr hbl
  have htA : ∀ w ∈ lw_all, w.before #[Value.ref b] s = true := fun w h => hts w (lw_all_tbl h)
  have C1 : CallFix p m c cL_law 4 s #[Value.ref b] lw_all RL := ⟨hx, hb, hml, hown, htA⟩
  have dX : ∀ k ∈ VM, ¬ AdS adX VX (adM k.1 k.2) := fun k hk q => by obtain ⟨a, ha, h⟩ := q; exact hdis a ha k hk h
  have dM : ∀ k ∈ VX, ¬ AdS adM VM (adX k.1 k.2) := fun k hk q => by obtain ⟨a, ha, h⟩ := q; exact hdis k hk a ha h.symm
  refine lv_aload_n hx hb dL_law_869 rfl (lv_at hl 1 rfl) ?_
  refine lwA hx hb hX hbl hbA hS hl 1 (by omega) hL dL_law_870 dL_law_871 dL_law_872 (by decide) dL_law_873 dL_law_874 ?_
  refine lci (va_runV (As := [.int (xs (i + 1))]) (rest := []) C1 (kX7_broken l (adX, g0) (AdS (adX, g0).1 VX) aX.S S (xs (i + 1)) ) (cwV 1 htA (gV q573 q574 q575 q46 q576) rfl rfl rfl (by decide +kernel) ⟨Nat.le_of_ble_eq_true rfl, Nat.le_of_ble_eq_true rfl⟩) (preV (recO (xMain (adX, g0)) hPX hKX rfl) hPX hKX) rfl rfl hl.1 rfl (lv_room (Nat.le_of_ble_eq_true rfl)) dL_law_875 ⟨Nat.le_of_ble_eq_true rfl, Nat.le_of_ble_eq_true rfl⟩) hS (Ads.A aX) hPM dX (fun r1 S1 H1 locs1 hw1 hPX1 hPM1 hS1 => ?_)
  try dsimp only at hw1
  refine lv_aload_n hx hb dL_law_878 rfl (lv_at hl 2 rfl) ?_
  refine lwA hx hb hX hbl hbA hS1 hl 1 (by omega) hL dL_law_879 dL_law_880 dL_law_881 (by decide) dL_law_882 dL_law_883 ?_
  refine lci (va_runV (As := [.int (xs (i + 1))]) (rest := [.int r1]) C1 (kX8_broken l (adM, g0) (AdS (adM, g0).1 VM) aM.S M (xs (i + 1)) hR.ht hR.htk) (cwV 1 htA (gV q1013 q1014 q1015 q54 q1016) rfl rfl rfl (by decide +kernel) ⟨Nat.le_of_ble_eq_true rfl, Nat.le_of_ble_eq_true rfl⟩) (preV (recO (mMain (adM, g0)) hPM1 hKM rfl) hPM1 hKM) rfl rfl hl.1 rfl (lv_room (Nat.le_of_ble_eq_true rfl)) dL_law_884 ⟨Nat.le_of_ble_eq_true rfl, Nat.le_of_ble_eq_true rfl⟩) hS1 (Ads.A aM) hPX1 dM (fun r2 M1 H2 locs2 hw2 hPM2 hPX2 hS2 => ?_)
  try dsimp only at hw2
  have hE := E_broken hR (xs (i + 1))
  obtain ⟨e1, f1⟩ := hw1
  obtain ⟨e2, f2⟩ := hw2
  subst e1 f1 e2 f2
  have hq := hE.1
  refine lv_icmp_eq (tgt := 1060) hx hb dL_law_887 (by decide) (fun _ => ?_) (fun hne => absurd hq hne)
  exact kk _ _ _ _ hE.2 hPX2 hPM2 hS2
set_option maxHeartbeats 4000000 in
set_option maxRecDepth 100000 in
theorem LK_23 {p : Program} {l : Launch} {e : Env} {s : State} {m : MethodId} {below : List Frame} {meth : Method} {c : Code} {b L : Nat} {xs : Nat → Int32} (hL : L ≤ 3072) (C0 : lw_At p s m meth c b L xs) {adX adM : Nat → Nat → Nat} {g0 : va_G × (Nat → ClassId)} (hw : lw_Two s adX adM g0) {i : Nat} (hi : i + 6 ≤ L) {ls : Array Slot} (hl : lv_has ls 4 [(0, .ref b), (1, .ref (adX 12 0)), (2, .ref (adM 0 0)), (3, .int (nI i))]) (kk : lw_On p l e s m below meth c b adX adM g0 ls 1060) : lw_On p l e s m below meth c b adX adM g0 ls 892 := by
  intro S M H locs hR hPX hPM hS
  obtain ⟨hx, hb, hr, hml, hown, hts, hX, hbl, hlocks, hgv⟩ := id C0
  obtain ⟨aX, aM, hdis, hKX, hKM⟩ := id hw
  have hbA : ¬ (fun q : Nat => s.heap.size ≤ q) b := Nat.not_le.mpr hbl
  have htA : ∀ w ∈ lw_all, w.before #[Value.ref b] s = true := fun w h => hts w (lw_all_tbl h)
  have C1 : CallFix p m c cL_law 4 s #[Value.ref b] lw_all RL := ⟨hx, hb, hml, hown, htA⟩
  have dX : ∀ k ∈ VM, ¬ AdS adX VX (adM k.1 k.2) := fun k hk q => by obtain ⟨a, ha, h⟩ := q; exact hdis a ha k hk h
  have dM : ∀ k ∈ VX, ¬ AdS adM VM (adX k.1 k.2) := fun k hk q => by obtain ⟨a, ha, h⟩ := q; exact hdis k hk a ha h.symm
  refine lv_aload_n hx hb dL_law_892 rfl (lv_at hl 1 rfl) ?_
  refine lci (va_runV (As := []) (rest := []) C1 (kX7_ones l (adX, g0) (AdS (adX, g0).1 VX) aX.S S  ) (cwV 0 htA (gV q606 q607 q608 q46 q609) rfl rfl rfl (by decide +kernel) ⟨Nat.le_of_ble_eq_true rfl, Nat.le_of_ble_eq_true rfl⟩) (preV (recO (xMain (adX, g0)) hPX hKX rfl) hPX hKX) rfl rfl hl.1 rfl (lv_room (Nat.le_of_ble_eq_true rfl)) dL_law_893 ⟨Nat.le_of_ble_eq_true rfl, Nat.le_of_ble_eq_true rfl⟩) hS (Ads.A aX) hPM dX (fun r1 S1 H1 locs1 hw1 hPX1 hPM1 hS1 => ?_)
  try dsimp only at hw1
  refine lv_aload_n hx hb dL_law_896 rfl (lv_at hl 2 rfl) ?_
  refine lci (va_runV (As := []) (rest := [.int r1]) C1 (kX8_ones l (adM, g0) (AdS (adM, g0).1 VM) aM.S M  hR.ht hR.htk) (cwV 0 htA (gV q1029 q1030 q1031 q54 q1032) rfl rfl rfl (by decide +kernel) ⟨Nat.le_of_ble_eq_true rfl, Nat.le_of_ble_eq_true rfl⟩) (preV (recO (mMain (adM, g0)) hPM1 hKM rfl) hPM1 hKM) rfl rfl hl.1 rfl (lv_room (Nat.le_of_ble_eq_true rfl)) dL_law_897 ⟨Nat.le_of_ble_eq_true rfl, Nat.le_of_ble_eq_true rfl⟩) hS1 (Ads.A aM) hPX1 dM (fun r2 M1 H2 locs2 hw2 hPM2 hPX2 hS2 => ?_)
  try dsimp only at hw2
  have hE := E_ones hR 
  obtain ⟨e1, f1⟩ := hw1
  obtain ⟨e2, f2⟩ := hw2
  subst e1 f1 e2 f2
  have hq := hE.1
  refine lv_icmp_eq (tgt := 1060) hx hb dL_law_900 (by decide) (fun _ => ?_) (fun hne => absurd hq hne)
  exact kk _ _ _ _ hE.2 hPX2 hPM2 hS2
set_option maxHeartbeats 4000000 in
set_option maxRecDepth 100000 in
theorem LK_24 {p : Program} {l : Launch} {e : Env} {s : State} {m : MethodId} {below : List Frame} {meth : Method} {c : Code} {b L : Nat} {xs : Nat → Int32} (hL : L ≤ 3072) (C0 : lw_At p s m meth c b L xs) {adX adM : Nat → Nat → Nat} {g0 : va_G × (Nat → ClassId)} (hw : lw_Two s adX adM g0) {i : Nat} (hi : i + 6 ≤ L) {ls : Array Slot} (hl : lv_has ls 4 [(0, .ref b), (1, .ref (adX 12 0)), (2, .ref (adM 0 0)), (3, .int (nI i))]) (kk : lw_On p l e s m below meth c b adX adM g0 ls 1060) : lw_On p l e s m below meth c b adX adM g0 ls 905 := by
  intro S M H locs hR hPX hPM hS
  obtain ⟨hx, hb, hr, hml, hown, hts, hX, hbl, hlocks, hgv⟩ := id C0
  obtain ⟨aX, aM, hdis, hKX, hKM⟩ := id hw
  have hbA : ¬ (fun q : Nat => s.heap.size ≤ q) b := Nat.not_le.mpr hbl
  have htA : ∀ w ∈ lw_all, w.before #[Value.ref b] s = true := fun w h => hts w (lw_all_tbl h)
  have C1 : CallFix p m c cL_law 4 s #[Value.ref b] lw_all RL := ⟨hx, hb, hml, hown, htA⟩
  have dX : ∀ k ∈ VM, ¬ AdS adX VX (adM k.1 k.2) := fun k hk q => by obtain ⟨a, ha, h⟩ := q; exact hdis a ha k hk h
  have dM : ∀ k ∈ VX, ¬ AdS adM VM (adX k.1 k.2) := fun k hk q => by obtain ⟨a, ha, h⟩ := q; exact hdis k hk a ha h.symm
  refine lv_aload_n hx hb dL_law_905 rfl (lv_at hl 1 rfl) ?_
  refine lwA hx hb hX hbl hbA hS hl 1 (by omega) hL dL_law_906 dL_law_907 dL_law_908 (by decide) dL_law_909 dL_law_910 ?_
  refine lwA hx hb hX hbl hbA hS hl 2 (by omega) hL dL_law_911 dL_law_912 dL_law_913 (by decide) dL_law_914 dL_law_915 ?_
  refine lwA hx hb hX hbl hbA hS hl 3 (by omega) hL dL_law_916 dL_law_917 dL_law_918 (by decide) dL_law_919 dL_law_920 ?_
  refine lci (va_runV (As := [.int (xs (i + 1)), .int (xs (i + 2)), .int (xs (i + 3))]) (rest := []) C1 (kX7_berth l (adX, g0) (AdS (adX, g0).1 VX) aX.S S (xs (i + 1)) (xs (i + 2)) (xs (i + 3)) ) (cwV 3 htA (gV q623 q624 q625 q46 q626) rfl rfl rfl (by decide +kernel) ⟨Nat.le_of_ble_eq_true rfl, Nat.le_of_ble_eq_true rfl⟩) (preV (recO (xMain (adX, g0)) hPX hKX rfl) hPX hKX) rfl rfl hl.1 rfl (lv_room (Nat.le_of_ble_eq_true rfl)) dL_law_921 ⟨Nat.le_of_ble_eq_true rfl, Nat.le_of_ble_eq_true rfl⟩) hS (Ads.A aX) hPM dX (fun r1 S1 H1 locs1 hw1 hPX1 hPM1 hS1 => ?_)
  try dsimp only at hw1
  refine lv_aload_n hx hb dL_law_924 rfl (lv_at hl 2 rfl) ?_
  refine lwA hx hb hX hbl hbA hS1 hl 1 (by omega) hL dL_law_925 dL_law_926 dL_law_927 (by decide) dL_law_928 dL_law_929 ?_
  refine lwA hx hb hX hbl hbA hS1 hl 2 (by omega) hL dL_law_930 dL_law_931 dL_law_932 (by decide) dL_law_933 dL_law_934 ?_
  refine lwA hx hb hX hbl hbA hS1 hl 3 (by omega) hL dL_law_935 dL_law_936 dL_law_937 (by decide) dL_law_938 dL_law_939 ?_
  refine lci (va_runV (As := [.int (xs (i + 1)), .int (xs (i + 2)), .int (xs (i + 3))]) (rest := [.int r1]) C1 (kX8_berth l (adM, g0) (AdS (adM, g0).1 VM) aM.S M (xs (i + 1)) (xs (i + 2)) (xs (i + 3)) ) (cwV 3 htA (gV q1041 q1042 q1043 q54 q1044) rfl rfl rfl (by decide +kernel) ⟨Nat.le_of_ble_eq_true rfl, Nat.le_of_ble_eq_true rfl⟩) (preV (recO (mMain (adM, g0)) hPM1 hKM rfl) hPM1 hKM) rfl rfl hl.1 rfl (lv_room (Nat.le_of_ble_eq_true rfl)) dL_law_940 ⟨Nat.le_of_ble_eq_true rfl, Nat.le_of_ble_eq_true rfl⟩) hS1 (Ads.A aM) hPX1 dM (fun r2 M1 H2 locs2 hw2 hPM2 hPX2 hS2 => ?_)
  try dsimp only at hw2
  have hE := E_berth S M (xs (i + 1)) (xs (i + 2)) (xs (i + 3))
  obtain ⟨e1, f1⟩ := hw1
  obtain ⟨e2, f2⟩ := hw2
  subst e1 f1 e2 f2
  have hq := hE
  refine lv_icmp_eq (tgt := 1060) hx hb dL_law_943 (by decide) (fun _ => ?_) (fun hne => absurd hq hne)
  exact kk _ _ _ _ hR hPX2 hPM2 hS2
set_option maxHeartbeats 4000000 in
set_option maxRecDepth 100000 in
theorem LK_25 {p : Program} {l : Launch} {e : Env} {s : State} {m : MethodId} {below : List Frame} {meth : Method} {c : Code} {b L : Nat} {xs : Nat → Int32} (hL : L ≤ 3072) (C0 : lw_At p s m meth c b L xs) {adX adM : Nat → Nat → Nat} {g0 : va_G × (Nat → ClassId)} (hw : lw_Two s adX adM g0) {i : Nat} (hi : i + 6 ≤ L) {ls : Array Slot} (hl : lv_has ls 4 [(0, .ref b), (1, .ref (adX 12 0)), (2, .ref (adM 0 0)), (3, .int (nI i))]) (kk : lw_On p l e s m below meth c b adX adM g0 ls 1060) : lw_On p l e s m below meth c b adX adM g0 ls 948 := by
  intro S M H locs hR hPX hPM hS
  obtain ⟨hx, hb, hr, hml, hown, hts, hX, hbl, hlocks, hgv⟩ := id C0
  obtain ⟨aX, aM, hdis, hKX, hKM⟩ := id hw
  have hbA : ¬ (fun q : Nat => s.heap.size ≤ q) b := Nat.not_le.mpr hbl
  have htA : ∀ w ∈ lw_all, w.before #[Value.ref b] s = true := fun w h => hts w (lw_all_tbl h)
  have C1 : CallFix p m c cL_law 4 s #[Value.ref b] lw_all RL := ⟨hx, hb, hml, hown, htA⟩
  have dX : ∀ k ∈ VM, ¬ AdS adX VX (adM k.1 k.2) := fun k hk q => by obtain ⟨a, ha, h⟩ := q; exact hdis a ha k hk h
  have dM : ∀ k ∈ VX, ¬ AdS adM VM (adX k.1 k.2) := fun k hk q => by obtain ⟨a, ha, h⟩ := q; exact hdis k hk a ha h.symm
  refine lv_aload_n hx hb dL_law_948 rfl (lv_at hl 1 rfl) ?_
  refine lwA hx hb hX hbl hbA hS hl 1 (by omega) hL dL_law_949 dL_law_950 dL_law_951 (by decide) dL_law_952 dL_law_953 ?_
  refine lwA hx hb hX hbl hbA hS hl 2 (by omega) hL dL_law_954 dL_law_955 dL_law_956 (by decide) dL_law_957 dL_law_958 ?_
  refine lwA hx hb hX hbl hbA hS hl 3 (by omega) hL dL_law_959 dL_law_960 dL_law_961 (by decide) dL_law_962 dL_law_963 ?_
  refine lci (va_runV (As := [.int (xs (i + 1)), .int (xs (i + 2)), .int (xs (i + 3))]) (rest := []) C1 (kX7_year l (adX, g0) (AdS (adX, g0).1 VX) aX.S S (xs (i + 1)) (xs (i + 2)) (xs (i + 3)) ) (cwV 3 htA (gV q627 q628 q629 q46 q630) rfl rfl rfl (by decide +kernel) ⟨Nat.le_of_ble_eq_true rfl, Nat.le_of_ble_eq_true rfl⟩) (preV (recO (xMain (adX, g0)) hPX hKX rfl) hPX hKX) rfl rfl hl.1 rfl (lv_room (Nat.le_of_ble_eq_true rfl)) dL_law_964 ⟨Nat.le_of_ble_eq_true rfl, Nat.le_of_ble_eq_true rfl⟩) hS (Ads.A aX) hPM dX (fun r1 S1 H1 locs1 hw1 hPX1 hPM1 hS1 => ?_)
  try dsimp only at hw1
  refine lv_aload_n hx hb dL_law_967 rfl (lv_at hl 2 rfl) ?_
  refine lwA hx hb hX hbl hbA hS1 hl 1 (by omega) hL dL_law_968 dL_law_969 dL_law_970 (by decide) dL_law_971 dL_law_972 ?_
  refine lwA hx hb hX hbl hbA hS1 hl 2 (by omega) hL dL_law_973 dL_law_974 dL_law_975 (by decide) dL_law_976 dL_law_977 ?_
  refine lwA hx hb hX hbl hbA hS1 hl 3 (by omega) hL dL_law_978 dL_law_979 dL_law_980 (by decide) dL_law_981 dL_law_982 ?_
  refine lci (va_runV (As := [.int (xs (i + 1)), .int (xs (i + 2)), .int (xs (i + 3))]) (rest := [.int r1]) C1 (kX8_year l (adM, g0) (AdS (adM, g0).1 VM) aM.S M (xs (i + 1)) (xs (i + 2)) (xs (i + 3)) ) (cwV 3 htA (gV q1045 q1046 q1047 q54 q1048) rfl rfl rfl (by decide +kernel) ⟨Nat.le_of_ble_eq_true rfl, Nat.le_of_ble_eq_true rfl⟩) (preV (recO (mMain (adM, g0)) hPM1 hKM rfl) hPM1 hKM) rfl rfl hl.1 rfl (lv_room (Nat.le_of_ble_eq_true rfl)) dL_law_983 ⟨Nat.le_of_ble_eq_true rfl, Nat.le_of_ble_eq_true rfl⟩) hS1 (Ads.A aM) hPX1 dM (fun r2 M1 H2 locs2 hw2 hPM2 hPX2 hS2 => ?_)
  try dsimp only at hw2
  have hE := E_year hR (xs (i + 1)) (xs (i + 2)) (xs (i + 3))
  obtain ⟨e1, f1⟩ := hw1
  obtain ⟨e2, f2⟩ := hw2
  subst e1 f1 e2 f2
  have hq := hE.1
  refine lv_icmp_eq (tgt := 1060) hx hb dL_law_986 (by decide) (fun _ => ?_) (fun hne => absurd hq hne)
  exact kk _ _ _ _ hE.2 hPX2 hPM2 hS2
set_option maxHeartbeats 4000000 in
set_option maxRecDepth 100000 in
theorem LK_26 {p : Program} {l : Launch} {e : Env} {s : State} {m : MethodId} {below : List Frame} {meth : Method} {c : Code} {b L : Nat} {xs : Nat → Int32} (hL : L ≤ 3072) (C0 : lw_At p s m meth c b L xs) {adX adM : Nat → Nat → Nat} {g0 : va_G × (Nat → ClassId)} (hw : lw_Two s adX adM g0) {i : Nat} (hi : i + 6 ≤ L) {ls : Array Slot} (hl : lv_has ls 4 [(0, .ref b), (1, .ref (adX 12 0)), (2, .ref (adM 0 0)), (3, .int (nI i))]) (kk : lw_On p l e s m below meth c b adX adM g0 ls 1060) : lw_On p l e s m below meth c b adX adM g0 ls 991 := by
  intro S M H locs hR hPX hPM hS
  obtain ⟨hx, hb, hr, hml, hown, hts, hX, hbl, hlocks, hgv⟩ := id C0
  obtain ⟨aX, aM, hdis, hKX, hKM⟩ := id hw
  have hbA : ¬ (fun q : Nat => s.heap.size ≤ q) b := Nat.not_le.mpr hbl
  have htA : ∀ w ∈ lw_all, w.before #[Value.ref b] s = true := fun w h => hts w (lw_all_tbl h)
  have C1 : CallFix p m c cL_law 4 s #[Value.ref b] lw_all RL := ⟨hx, hb, hml, hown, htA⟩
  have dX : ∀ k ∈ VM, ¬ AdS adX VX (adM k.1 k.2) := fun k hk q => by obtain ⟨a, ha, h⟩ := q; exact hdis a ha k hk h
  have dM : ∀ k ∈ VX, ¬ AdS adM VM (adX k.1 k.2) := fun k hk q => by obtain ⟨a, ha, h⟩ := q; exact hdis k hk a ha h.symm
  refine lv_aload_n hx hb dL_law_991 rfl (lv_at hl 1 rfl) ?_
  refine lwA hx hb hX hbl hbA hS hl 1 (by omega) hL dL_law_992 dL_law_993 dL_law_994 (by decide) dL_law_995 dL_law_996 ?_
  refine lci (va_runV (As := [.int (xs (i + 1))]) (rest := []) C1 (kX7_image l (adX, g0) (AdS (adX, g0).1 VX) aX.S S (xs (i + 1)) ) (cwV 1 htA (gV q646 q647 q648 q46 q649) rfl rfl rfl (by decide +kernel) ⟨Nat.le_of_ble_eq_true rfl, Nat.le_of_ble_eq_true rfl⟩) (preV (recO (xMain (adX, g0)) hPX hKX rfl) hPX hKX) rfl rfl hl.1 rfl (lv_room (Nat.le_of_ble_eq_true rfl)) dL_law_997 ⟨Nat.le_of_ble_eq_true rfl, Nat.le_of_ble_eq_true rfl⟩) hS (Ads.A aX) hPM dX (fun r1 S1 H1 locs1 hw1 hPX1 hPM1 hS1 => ?_)
  try dsimp only at hw1
  refine lv_aload_n hx hb dL_law_1000 rfl (lv_at hl 2 rfl) ?_
  refine lwA hx hb hX hbl hbA hS1 hl 1 (by omega) hL dL_law_1001 dL_law_1002 dL_law_1003 (by decide) dL_law_1004 dL_law_1005 ?_
  refine lci (va_runV (As := [.int (xs (i + 1))]) (rest := [.int r1]) C1 (kX8_image l (adM, g0) (AdS (adM, g0).1 VM) aM.S M (xs (i + 1)) ) (cwV 1 htA (gV q1057 q1058 q1059 q54 q1060) rfl rfl rfl (by decide +kernel) ⟨Nat.le_of_ble_eq_true rfl, Nat.le_of_ble_eq_true rfl⟩) (preV (recO (mMain (adM, g0)) hPM1 hKM rfl) hPM1 hKM) rfl rfl hl.1 rfl (lv_room (Nat.le_of_ble_eq_true rfl)) dL_law_1006 ⟨Nat.le_of_ble_eq_true rfl, Nat.le_of_ble_eq_true rfl⟩) hS1 (Ads.A aM) hPX1 dM (fun r2 M1 H2 locs2 hw2 hPM2 hPX2 hS2 => ?_)
  try dsimp only at hw2
  have hE := E_image hR (xs (i + 1))
  obtain ⟨e1, f1⟩ := hw1
  obtain ⟨e2, f2⟩ := hw2
  subst e1 f1 e2 f2
  have hq := hE.1
  refine lv_icmp_eq (tgt := 1060) hx hb dL_law_1009 (by decide) (fun _ => ?_) (fun hne => absurd hq hne)
  exact kk _ _ _ _ hE.2 hPX2 hPM2 hS2
set_option maxHeartbeats 4000000 in
set_option maxRecDepth 100000 in
theorem LK_27 {p : Program} {l : Launch} {e : Env} {s : State} {m : MethodId} {below : List Frame} {meth : Method} {c : Code} {b L : Nat} {xs : Nat → Int32} (hL : L ≤ 3072) (C0 : lw_At p s m meth c b L xs) {adX adM : Nat → Nat → Nat} {g0 : va_G × (Nat → ClassId)} (hw : lw_Two s adX adM g0) {i : Nat} (hi : i + 6 ≤ L) {ls : Array Slot} (hl : lv_has ls 4 [(0, .ref b), (1, .ref (adX 12 0)), (2, .ref (adM 0 0)), (3, .int (nI i))]) (kk : lw_On p l e s m below meth c b adX adM g0 ls 1060) : lw_On p l e s m below meth c b adX adM g0 ls 1014 := by
  intro S M H locs hR hPX hPM hS
  obtain ⟨hx, hb, hr, hml, hown, hts, hX, hbl, hlocks, hgv⟩ := id C0
  obtain ⟨aX, aM, hdis, hKX, hKM⟩ := id hw
  have hbA : ¬ (fun q : Nat => s.heap.size ≤ q) b := Nat.not_le.mpr hbl
  have htA : ∀ w ∈ lw_all, w.before #[Value.ref b] s = true := fun w h => hts w (lw_all_tbl h)
  have C1 : CallFix p m c cL_law 4 s #[Value.ref b] lw_all RL := ⟨hx, hb, hml, hown, htA⟩
  have dX : ∀ k ∈ VM, ¬ AdS adX VX (adM k.1 k.2) := fun k hk q => by obtain ⟨a, ha, h⟩ := q; exact hdis a ha k hk h
  have dM : ∀ k ∈ VX, ¬ AdS adM VM (adX k.1 k.2) := fun k hk q => by obtain ⟨a, ha, h⟩ := q; exact hdis k hk a ha h.symm
  refine lv_aload_n hx hb dL_law_1014 rfl (lv_at hl 1 rfl) ?_
  refine lwA hx hb hX hbl hbA hS hl 1 (by omega) hL dL_law_1015 dL_law_1016 dL_law_1017 (by decide) dL_law_1018 dL_law_1019 ?_
  refine lci (va_runV (As := [.int (xs (i + 1))]) (rest := []) C1 (kX7_restore l (adX, g0) (AdS (adX, g0).1 VX) aX.S S (xs (i + 1)) ) (cwV 1 htA (gV q658 q659 q660 q46 q661) rfl rfl rfl (by decide +kernel) ⟨Nat.le_of_ble_eq_true rfl, Nat.le_of_ble_eq_true rfl⟩) (preV (recO (xMain (adX, g0)) hPX hKX rfl) hPX hKX) rfl rfl hl.1 rfl (lv_room (Nat.le_of_ble_eq_true rfl)) dL_law_1020 ⟨Nat.le_of_ble_eq_true rfl, Nat.le_of_ble_eq_true rfl⟩) hS (Ads.A aX) hPM dX (fun r1 S1 H1 locs1 hw1 hPX1 hPM1 hS1 => ?_)
  try dsimp only at hw1
  refine lv_aload_n hx hb dL_law_1023 rfl (lv_at hl 2 rfl) ?_
  refine lwA hx hb hX hbl hbA hS1 hl 1 (by omega) hL dL_law_1024 dL_law_1025 dL_law_1026 (by decide) dL_law_1027 dL_law_1028 ?_
  refine lci (va_runV (As := [.int (xs (i + 1))]) (rest := [.int r1]) C1 (kX8_restore l (adM, g0) (AdS (adM, g0).1 VM) aM.S M (xs (i + 1)) ) (cwV 1 htA (gV q1073 q1074 q1075 q54 q1076) rfl rfl rfl (by decide +kernel) ⟨Nat.le_of_ble_eq_true rfl, Nat.le_of_ble_eq_true rfl⟩) (preV (recO (mMain (adM, g0)) hPM1 hKM rfl) hPM1 hKM) rfl rfl hl.1 rfl (lv_room (Nat.le_of_ble_eq_true rfl)) dL_law_1029 ⟨Nat.le_of_ble_eq_true rfl, Nat.le_of_ble_eq_true rfl⟩) hS1 (Ads.A aM) hPX1 dM (fun r2 M1 H2 locs2 hw2 hPM2 hPX2 hS2 => ?_)
  try dsimp only at hw2
  have hE := E_restore hR (xs (i + 1))
  obtain ⟨e1, f1⟩ := hw1
  obtain ⟨e2, f2⟩ := hw2
  subst e1 f1 e2 f2
  have hq := hE.1
  refine lv_icmp_eq (tgt := 1060) hx hb dL_law_1032 (by decide) (fun _ => ?_) (fun hne => absurd hq hne)
  exact kk _ _ _ _ hE.2 hPX2 hPM2 hS2
set_option maxHeartbeats 4000000 in
set_option maxRecDepth 100000 in
theorem LK_28 {p : Program} {l : Launch} {e : Env} {s : State} {m : MethodId} {below : List Frame} {meth : Method} {c : Code} {b L : Nat} {xs : Nat → Int32} (hL : L ≤ 3072) (C0 : lw_At p s m meth c b L xs) {adX adM : Nat → Nat → Nat} {g0 : va_G × (Nat → ClassId)} (hw : lw_Two s adX adM g0) {i : Nat} (hi : i + 6 ≤ L) {ls : Array Slot} (hl : lv_has ls 4 [(0, .ref b), (1, .ref (adX 12 0)), (2, .ref (adM 0 0)), (3, .int (nI i))]) (kk : lw_On p l e s m below meth c b adX adM g0 ls 1060) : lw_On p l e s m below meth c b adX adM g0 ls 1037 := by
  intro S M H locs hR hPX hPM hS
  obtain ⟨hx, hb, hr, hml, hown, hts, hX, hbl, hlocks, hgv⟩ := id C0
  obtain ⟨aX, aM, hdis, hKX, hKM⟩ := id hw
  have hbA : ¬ (fun q : Nat => s.heap.size ≤ q) b := Nat.not_le.mpr hbl
  have htA : ∀ w ∈ lw_all, w.before #[Value.ref b] s = true := fun w h => hts w (lw_all_tbl h)
  have C1 : CallFix p m c cL_law 4 s #[Value.ref b] lw_all RL := ⟨hx, hb, hml, hown, htA⟩
  have dX : ∀ k ∈ VM, ¬ AdS adX VX (adM k.1 k.2) := fun k hk q => by obtain ⟨a, ha, h⟩ := q; exact hdis a ha k hk h
  have dM : ∀ k ∈ VX, ¬ AdS adM VM (adX k.1 k.2) := fun k hk q => by obtain ⟨a, ha, h⟩ := q; exact hdis k hk a ha h.symm
  refine lv_aload_n hx hb dL_law_1037 rfl (lv_at hl 1 rfl) ?_
  refine lwA hx hb hX hbl hbA hS hl 1 (by omega) hL dL_law_1038 dL_law_1039 dL_law_1040 (by decide) dL_law_1041 dL_law_1042 ?_
  refine lci (va_runV (As := [.int (xs (i + 1))]) (rest := []) C1 (kX7_told l (adX, g0) (AdS (adX, g0).1 VX) aX.S S (xs (i + 1)) ) (cwV 1 htA (gV q662 q663 q664 q46 q665) rfl rfl rfl (by decide +kernel) ⟨Nat.le_of_ble_eq_true rfl, Nat.le_of_ble_eq_true rfl⟩) (preV (recO (xMain (adX, g0)) hPX hKX rfl) hPX hKX) rfl rfl hl.1 rfl (lv_room (Nat.le_of_ble_eq_true rfl)) dL_law_1043 ⟨Nat.le_of_ble_eq_true rfl, Nat.le_of_ble_eq_true rfl⟩) hS (Ads.A aX) hPM dX (fun r1 S1 H1 locs1 hw1 hPX1 hPM1 hS1 => ?_)
  try dsimp only at hw1
  refine lv_aload_n hx hb dL_law_1046 rfl (lv_at hl 2 rfl) ?_
  refine lwA hx hb hX hbl hbA hS1 hl 1 (by omega) hL dL_law_1047 dL_law_1048 dL_law_1049 (by decide) dL_law_1050 dL_law_1051 ?_
  refine lci (va_runV (As := [.int (xs (i + 1))]) (rest := [.int r1]) C1 (kX8_told l (adM, g0) (AdS (adM, g0).1 VM) aM.S M (xs (i + 1)) ) (cwV 1 htA (gV q1077 q1078 q1079 q54 q1080) rfl rfl rfl (by decide +kernel) ⟨Nat.le_of_ble_eq_true rfl, Nat.le_of_ble_eq_true rfl⟩) (preV (recO (mMain (adM, g0)) hPM1 hKM rfl) hPM1 hKM) rfl rfl hl.1 rfl (lv_room (Nat.le_of_ble_eq_true rfl)) dL_law_1052 ⟨Nat.le_of_ble_eq_true rfl, Nat.le_of_ble_eq_true rfl⟩) hS1 (Ads.A aM) hPX1 dM (fun r2 M1 H2 locs2 hw2 hPM2 hPX2 hS2 => ?_)
  try dsimp only at hw2
  have hE := E_told hR (xs (i + 1))
  obtain ⟨e1, f1⟩ := hw1
  obtain ⟨e2, f2⟩ := hw2
  subst e1 f1 e2 f2
  have hq := hE
  refine lv_icmp_eq (tgt := 1060) hx hb dL_law_1055 (by decide) (fun _ => ?_) (fun hne => absurd hq hne)
  exact kk _ _ _ _ hR hPX2 hPM2 hS2
