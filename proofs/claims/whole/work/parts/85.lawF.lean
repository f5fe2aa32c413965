/-! ===== THE LAW'S LOOP ===== -/
theorem law_end {L i : Nat} (hL : L ≤ 3072) (hi : i ≤ L) (h : ¬ Int32.ofNat L - 6 < nI i) : i + 6 ≤ L := by
  by_cases c : L < 6
  · exfalso
    have h6 : ∀ n, n < 6 → Int32.ofNat n - 6 < 0 := by decide
    exact h (Int32.lt_of_lt_of_le (h6 L c) (nI_pos' (by omega)))
  · have e : Int32.ofNat L - 6 = nI (L - 6) := by
      have e1 : Int32.ofNat L = nI (L - 6) + 6 := by
        rw [show (6 : Int32) = nI 6 from rfl, nI_add, show L - 6 + 6 = L by omega]
        rfl
      rw [e1, Int32.add_sub_cancel]
    rw [e] at h
    have h2 : ¬ (L - 6 < i) := fun w => h ((nI_ltI (by omega) (by omega)).mpr w)
    omega
set_option maxHeartbeats 4000000 in
theorem law_loop {p : Program} {l : Launch} {e : Env} {s : State} {m : MethodId} {below : List Frame} {meth : Method} {c : Code} {b L : Nat} {xs : Nat → Int32} (hL : L ≤ 3072) (C0 : lw_At p s m meth c b L xs) {adX adM : Nat → Nat → Nat} {g0 : va_G × (Nat → ClassId)} (hw : lw_Two s adX adM g0) : ∀ (n i : Nat), i ≤ L → L + 1 ≤ i + n → ∀ ls : Array Slot, lv_has ls 4 [(0, .ref b), (1, .ref (adX 12 0)), (2, .ref (adM 0 0)), (3, .int (nI i))] → lw_On p l e s m below meth c b adX adM g0 ls 18 := by
  intro n
  induction n with
  | zero => intro i h1 h2; exact absurd h2 (by omega)
  | succ n ih =>
    intro i hi hin ls hl S M H locs hR hPX hPM hS
    obtain ⟨hx, hb, hr, hml, hown, hts, hX, hbl, hlocks, hgv⟩ := id C0
    have hbA : ¬ (fun q : Nat => s.heap.size ≤ q) b := Nat.not_le.mpr hbl
    refine lv_iload_n hx hb dL_law_18 rfl (lv_at hl 3 rfl) ?_
    refine lv_aload_n hx hb dL_law_19 rfl (lv_at hl 0 rfl) ?_
    refine va_slen hx hb hX hbl hbA hS dL_law_20 ?_
    refine lv_bipush (v := 6) hx hb dL_law_21 (by decide) ?_
    refine lv_isub hx hb dL_law_23 ?_
    refine lv_icmp_gt (tgt := 1066) hx hb dL_law_24 (by decide) (fun c0 => ?_) (fun c0 => ?_)
    · refine lv_iconst (v := 1) hx hb dL_law_1066 (by decide) ?_
      refine va_forget (fun q hq => hS.2.2 q hq) ?_
      refine W.widen (k := 600000) (n := 7302250) (Nat.le_of_ble_eq_true rfl) (Nat.le_of_ble_eq_true rfl) ?_
      exact lw_ret hx hb hr hlocks dL_law_1067
    · have hi6 := law_end hL hi c0
      refine lv_aload_n hx hb dL_law_27 rfl (lv_at hl 0 rfl) ?_
      refine lv_iload_n hx hb dL_law_28 rfl (lv_at hl 3 rfl) ?_
      refine va_sld hx hb hX hbl hbA hS (vp_in_nI (by omega) (by omega)) dL_law_29 ?_
      refine lv_bipush (v := 31) hx hb dL_law_30 (by decide) ?_
      refine lv_iand hx hb dL_law_32 ?_
      obtain ⟨j, hj, ej⟩ := pk_andE (xs (nI i).toNatClampNeg) (m := 31) 5 (by decide)
      rw [ej]
      have kk : lw_On p l e s m below meth c b adX adM g0 ls 1060 := by
        intro S M H locs hR hPX hPM hS
        refine lv_iinc (v := nI (i + 6)) (lv' := [(3, .int (nI (i + 6))), (0, .ref b), (1, .ref (adX 12 0)), (2, .ref (adM 0 0))]) hx hb dL_law_1060 hl (k := 3) rfl (nI_add i 6) (by decide) rfl (fun ls hl => ?_)
        refine lv_goto (tgt := 18) hx hb dL_law_1063 (by decide) ?_
        exact ih (i + 6) (by omega) (by omega) ls (lv_sub hl [1, 2, 3, 0] rfl) S M H locs hR hPX hPM hS
      by_cases j0 : j = 0
      · subst j0
        refine lv_tableIn (tgt := 164) hx hb dL_law_33 (by decide) (by decide) rfl (by decide) ?_
        exact LK_0 hL C0 hw hi6 hl kk S M H locs hR hPX hPM hS
      by_cases j1 : j = 1
      · subst j1
        refine lv_tableIn (tgt := 217) hx hb dL_law_33 (by decide) (by decide) rfl (by decide) ?_
        exact LK_1 hL C0 hw hi6 hl kk S M H locs hR hPX hPM hS
      by_cases j2 : j = 2
      · subst j2
        refine lv_tableIn (tgt := 240) hx hb dL_law_33 (by decide) (by decide) rfl (by decide) ?_
        exact LK_2 hL C0 hw hi6 hl kk S M H locs hR hPX hPM hS
      by_cases j3 : j = 3
      · subst j3
        refine lv_tableIn (tgt := 283) hx hb dL_law_33 (by decide) (by decide) rfl (by decide) ?_
        exact LK_3 hL C0 hw hi6 hl kk S M H locs hR hPX hPM hS
      by_cases j4 : j = 4
      · subst j4
        refine lv_tableIn (tgt := 316) hx hb dL_law_33 (by decide) (by decide) rfl (by decide) ?_
        exact LK_4 hL C0 hw hi6 hl kk S M H locs hR hPX hPM hS
      by_cases j5 : j = 5
      · subst j5
        refine lv_tableIn (tgt := 349) hx hb dL_law_33 (by decide) (by decide) rfl (by decide) ?_
        exact LK_5 hL C0 hw hi6 hl kk S M H locs hR hPX hPM hS
      by_cases j6 : j = 6
      · subst j6
        refine lv_tableIn (tgt := 372) hx hb dL_law_33 (by decide) (by decide) rfl (by decide) ?_
        exact LK_6 hL C0 hw hi6 hl kk S M H locs hR hPX hPM hS
      by_cases j7 : j = 7
      · subst j7
        refine lv_tableIn (tgt := 385) hx hb dL_law_33 (by decide) (by decide) rfl (by decide) ?_
        exact LK_7 hL C0 hw hi6 hl kk S M H locs hR hPX hPM hS
      by_cases j8 : j = 8
      · subst j8
        refine lv_tableIn (tgt := 398) hx hb dL_law_33 (by decide) (by decide) rfl (by decide) ?_
        exact LK_8 hL C0 hw hi6 hl kk S M H locs hR hPX hPM hS
      by_cases j9 : j = 9
      · subst j9
        refine lv_tableIn (tgt := 421) hx hb dL_law_33 (by decide) (by decide) rfl (by decide) ?_
        exact LK_9 hL C0 hw hi6 hl kk S M H locs hR hPX hPM hS
      by_cases j10 : j = 10
      · subst j10
        refine lv_tableIn (tgt := 454) hx hb dL_law_33 (by decide) (by decide) rfl (by decide) ?_
        exact LK_10 hL C0 hw hi6 hl kk S M H locs hR hPX hPM hS
      by_cases j11 : j = 11
      · subst j11
        refine lv_tableIn (tgt := 477) hx hb dL_law_33 (by decide) (by decide) rfl (by decide) ?_
        exact LK_11 hL C0 hw hi6 hl kk S M H locs hR hPX hPM hS
      by_cases j12 : j = 12
      · subst j12
        refine lv_tableIn (tgt := 500) hx hb dL_law_33 (by decide) (by decide) rfl (by decide) ?_
        exact LK_12 hL C0 hw hi6 hl kk S M H locs hR hPX hPM hS
      by_cases j13 : j = 13
      · subst j13
        refine lv_tableIn (tgt := 513) hx hb dL_law_33 (by decide) (by decide) rfl (by decide) ?_
        exact LK_13 hL C0 hw hi6 hl kk S M H locs hR hPX hPM hS
      by_cases j14 : j = 14
      · subst j14
        refine lv_tableIn (tgt := 557) hx hb dL_law_33 (by decide) (by decide) rfl (by decide) ?_
        exact LK_14 hL C0 hw hi6 hl kk S M H locs hR hPX hPM hS
      by_cases j15 : j = 15
      · subst j15
        refine lv_tableIn (tgt := 580) hx hb dL_law_33 (by decide) (by decide) rfl (by decide) ?_
        exact LK_15 hL C0 hw hi6 hl kk S M H locs hR hPX hPM hS
      by_cases j16 : j = 16
      · subst j16
        refine lv_tableIn (tgt := 613) hx hb dL_law_33 (by decide) (by decide) rfl (by decide) ?_
        exact LK_16 hL C0 hw hi6 hl kk S M H locs hR hPX hPM hS
      by_cases j17 : j = 17
      · subst j17
        refine lv_tableIn (tgt := 647) hx hb dL_law_33 (by decide) (by decide) rfl (by decide) ?_
        exact LK_17 hL C0 hw hi6 hl kk S M H locs hR hPX hPM hS
      by_cases j18 : j = 18
      · subst j18
        refine lv_tableIn (tgt := 700) hx hb dL_law_33 (by decide) (by decide) rfl (by decide) ?_
        exact LK_18 hL C0 hw hi6 hl kk S M H locs hR hPX hPM hS
      by_cases j19 : j = 19
      · subst j19
        refine lv_tableIn (tgt := 733) hx hb dL_law_33 (by decide) (by decide) rfl (by decide) ?_
        exact LK_19 hL C0 hw hi6 hl kk S M H locs hR hPX hPM hS
      by_cases j20 : j = 20
      · subst j20
        refine lv_tableIn (tgt := 797) hx hb dL_law_33 (by decide) (by decide) rfl (by decide) ?_
        exact LK_20 hL C0 hw hi6 hl kk S M H locs hR hPX hPM hS
      by_cases j21 : j = 21
      · subst j21
        refine lv_tableIn (tgt := 856) hx hb dL_law_33 (by decide) (by decide) rfl (by decide) ?_
        exact LK_21 hL C0 hw hi6 hl kk S M H locs hR hPX hPM hS
      by_cases j22 : j = 22
      · subst j22
        refine lv_tableIn (tgt := 869) hx hb dL_law_33 (by decide) (by decide) rfl (by decide) ?_
        exact LK_22 hL C0 hw hi6 hl kk S M H locs hR hPX hPM hS
      by_cases j23 : j = 23
      · subst j23
        refine lv_tableIn (tgt := 892) hx hb dL_law_33 (by decide) (by decide) rfl (by decide) ?_
        exact LK_23 hL C0 hw hi6 hl kk S M H locs hR hPX hPM hS
      by_cases j24 : j = 24
      · subst j24
        refine lv_tableIn (tgt := 905) hx hb dL_law_33 (by decide) (by decide) rfl (by decide) ?_
        exact LK_24 hL C0 hw hi6 hl kk S M H locs hR hPX hPM hS
      by_cases j25 : j = 25
      · subst j25
        refine lv_tableIn (tgt := 948) hx hb dL_law_33 (by decide) (by decide) rfl (by decide) ?_
        exact LK_25 hL C0 hw hi6 hl kk S M H locs hR hPX hPM hS
      by_cases j26 : j = 26
      · subst j26
        refine lv_tableIn (tgt := 991) hx hb dL_law_33 (by decide) (by decide) rfl (by decide) ?_
        exact LK_26 hL C0 hw hi6 hl kk S M H locs hR hPX hPM hS
      by_cases j27 : j = 27
      · subst j27
        refine lv_tableIn (tgt := 1014) hx hb dL_law_33 (by decide) (by decide) rfl (by decide) ?_
        exact LK_27 hL C0 hw hi6 hl kk S M H locs hR hPX hPM hS
      by_cases j28 : j = 28
      · subst j28
        refine lv_tableIn (tgt := 1037) hx hb dL_law_33 (by decide) (by decide) rfl (by decide) ?_
        exact LK_28 hL C0 hw hi6 hl kk S M H locs hR hPX hPM hS
      refine lv_tableOut (tgt := 1060) hx hb dL_law_33 (Or.inr (by rw [nI_toInt (by omega)]; omega)) (by decide) (kk S M H locs hR hPX hPM hS)
