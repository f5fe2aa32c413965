theorem wi_nat {p : Int32} (h : wi p 0 8) : ∃ j, j ≤ 8 ∧ p = nI j := by
  obtain ⟨j, hj, rfl⟩ := nI_of (Int32.not_lt.mpr h.1)
  exact ⟨j, (nI_leI (b := 8) hj (by decide)).mp h.2, rfl⟩
theorem wi_cl8 {p : Int32} (h : wi p 0 8) : p.toNatClampNeg ≤ 8 := by
  obtain ⟨j, hj, rfl⟩ := wi_nat h
  rw [nI_clamp (by omega)]
  exact hj
theorem up_sgt0 {B : Int32} {i : Nat} (h : wi B 0 8) (hik : i + 0 = B.toNatClampNeg + 1) : B < nI i := by
  obtain ⟨j, hj, rfl⟩ := wi_nat h
  rw [nI_clamp (by omega)] at hik
  exact nI_lt (by omega) (by omega)
theorem up_sgt1 {B : Int32} {i k : Nat} (h : wi B 0 8) (hik : i + (k + 1) = B.toNatClampNeg + 1) : ¬ B < nI i := by
  obtain ⟨j, hj, rfl⟩ := wi_nat h
  rw [nI_clamp (by omega)] at hik
  exact nI_nlt (by omega) (by omega)
theorem nlt8 {n : Nat} (h : ¬ 8 ≤ nI n) : n < 8 ∨ 2 ^ 31 ≤ n := by
  rcases Nat.lt_or_ge n 8 with q | q
  · exact Or.inl q
  · rcases Nat.lt_or_ge n (2 ^ 31) with r | r
    · exact absurd (nI_le (a := 8) q r) h
    · exact Or.inr r
theorem nlt8a {n : Nat} (h : nI n < 8) : n < 8 ∨ 2 ^ 31 ≤ n := nlt8 (Int32.not_le.mpr h)
theorem wmax {p : Int32} {i : Nat} (h : wi p 0 8) (hc : i < 8) : wi (if p < nI (i + 1) then nI (i + 1) else p) 0 8 := by
  split
  · exact ⟨nI_pos' (by omega), nI_le (b := 8) (by omega) (by decide)⟩
  · exact h
def LX7_fewestShips_40 (rec : St → Nat → Int32 → Int32 → Int32 × St) (S : St) (n : Nat) (p2 : Int32) (p3 : Int32) : Nat → Nat → Int32 → St → Int32 × St
  | 0, zi4, zx6, zS7 => (zx6, zS7)
  | zk5 + 1, zi4, zx6, zS7 => (if 8 ≤ (nI zi4) then (zx6, zS7) else (if (tX1_mayBeOn zS7 (nI n) (nI zi4)) = 0 then (LX7_fewestShips_40 rec S n p2 p3 zk5 (zi4 + 1) zx6 zS7) else (bnd (tX1_putOn zS7 (nI n) (nI zi4)) (fun zS12 => (bnd (rec zS12 (n + 1) (if p2 < (nI (zi4 + 1)) then (nI (zi4 + 1)) else p2) zx6).2 (fun zS14 => bnd (rec zS12 (n + 1) (if p2 < (nI (zi4 + 1)) then (nI (zi4 + 1)) else p2) zx6).1 (fun zr13 => (LX7_fewestShips_40 rec S n p2 p3 zk5 (zi4 + 1) zr13 zS14))))))))
def tX7_fewestShips (rec : St → Nat → Int32 → Int32 → Int32 × St) (S : St) (n : Nat) (p2 : Int32) (p3 : Int32) : Int32 × St :=
  (if p2 < p3 then (if (nI n) < 8 then (if (tX1_firstNameOf S (nI n)) = (nI n) then (LX7_fewestShips_40 rec S n p2 p3 ((Int32.toNatClampNeg p2) + 1) 0 p3 S) else (bnd (rec S (n + 1) p2 p3).2 (fun zS16 => bnd (rec S (n + 1) p2 p3).1 (fun zr15 => (zr15, zS16))))) else (p2, S)) else (p3, S))
set_option maxHeartbeats 4000000 in
set_option maxRecDepth 100000 in
theorem kX7_fewestShips (l : Launch) (g : Gd) (A : Nat → Prop) (hA : Ads g.1 VX A) (S : St) (rec : St → Nat → Int32 → Int32 → Int32 × St) (n : Nat) (p2 : Int32) (p3 : Int32) (hn8 : n ≤ 8) (zd : Nat) (hu : wi p2 0 8) (hrec : n < 8 → ∀ (S : St) (p2 p3 : Int32), wi p2 0 8 → Met l yX7_fewestShips (wU yX7_fewestShips cX7_fewestShips 6 (some .int)) { frames := zd + 2, cells := 0, slots := 0, locals := 25 * zd + 60 } (va_Pc [.ref (g.1 9 0), .int (nI (n + 1)), .int p2, .int p3] (PW VX ctX g S)) (va_Qi (fun r u => r = (rec S (n + 1) p2 p3).1 ∧ u = (rec S (n + 1) p2 p3).2) (fun u U => PW VX ctX g u U) A) 0 0 A) : Met l yX7_fewestShips (wU yX7_fewestShips cX7_fewestShips 6 (some .int)) { frames := zd + 1 + 2, cells := 0, slots := 0, locals := 25 * (zd + 1) + 60 } (va_Pc [.ref (g.1 9 0), .int (nI n), .int p2, .int p3] (PW VX ctX g S)) (va_Qi (fun r u => r = (tX7_fewestShips rec S n p2 p3).1 ∧ u = (tX7_fewestShips rec S n p2 p3).2) (fun u U => PW VX ctX g u U) A) 0 0 A := by
  refine ent (cc := cX7_fewestShips) (maxL := 6) (ret := (some .int)) (by decide) (Nat.le_of_ble_eq_true rfl) ?_
  intro p e s m below meth c args Q C0 hr hlocks hP hK hQ ls hl
  have hx := C0.1
  have hb := C0.2.1
  have hml := C0.2.2.1
  have hown := C0.2.2.2.1
  have hts := C0.2.2.2.2
  obtain ⟨F, hF⟩ : ∃ F : Int32 × St, F = tX7_fewestShips rec S n p2 p3 := ⟨_, rfl⟩
  have hf := hF
  unfold tX7_fewestShips at hf
  have hS : va_S A s.heap s.heap [] := va_S.rf
  have hl : lv_has ls 6 [(0, .ref (g.1 9 0)), (1, .int (nI n)), (2, .int p2), (3, .int p3)] := hl
  refine lv_iload_n hx hb dX7_fewestShips_0 rfl (lv_at hl 2 rfl) ?_
  refine lv_iload_n hx hb dX7_fewestShips_1 rfl (lv_at hl 3 rfl) ?_
  refine lv_icmp_lt (tgt := 7) hx hb dX7_fewestShips_2 (by decide) (fun zc1 => ?_) (fun zc1 => ?_)
  · have hf := hf.trans (if_pos zc1)
    refine lv_iload_n hx hb dX7_fewestShips_7 rfl (lv_at hl 1 rfl) ?_
    refine lv_bipush (v := 8) hx hb dX7_fewestShips_8 (by decide) ?_
    refine lv_icmp_lt (tgt := 15) hx hb dX7_fewestShips_10 (by decide) (fun zc2 => ?_) (fun zc2 => ?_)
    · have hf := hf.trans (if_pos zc2)
      refine lv_aload_n hx hb dX7_fewestShips_15 rfl (lv_at hl 0 rfl) ?_
      refine lv_iload_n hx hb dX7_fewestShips_16 rfl (lv_at hl 1 rfl) ?_
      refine kiP (va_runV (As := [.int (nI n)]) (rest := []) C0 (kX1_firstNameOf l g A hA S (nI n)) (cwV 1 hts (gV q613 q586 q587 q52 q588) rfl rfl rfl (by decide +kernel) ⟨by dsimp only; omega, by dsimp only; omega⟩) (preV (recO (xNam g) hP hK rfl) hP hK) rfl rfl hl.1 rfl (lv_room (Nat.le_of_ble_eq_true rfl)) dX7_fewestShips_17 ⟨Nat.zero_le _, Nat.zero_le _⟩) hS (fun _ h => h) (fun H locs hP hS => ?_)
      refine lv_iload_n hx hb dX7_fewestShips_20 rfl (lv_at hl 1 rfl) ?_
      refine lv_icmp_eq (tgt := 34) hx hb dX7_fewestShips_21 (by decide) (fun zc3 => ?_) (fun zc3 => ?_)
      · have hf := hf.trans (if_pos zc3)
        refine lv_iload_n hx hb dX7_fewestShips_34 rfl (lv_at hl 3 rfl) ?_
        refine lv_istore (lv' := [(4, .int p3), (0, .ref (g.1 9 0)), (1, .int (nI n)), (2, .int p2), (3, .int p3)]) hx hb dX7_fewestShips_35 hl (by decide) rfl (fun ls hl => ?_)
        refine lv_iconst (v := 0) hx hb dX7_fewestShips_37 (by decide) ?_
        refine lv_istore (lv' := [(5, .int 0), (4, .int p3), (0, .ref (g.1 9 0)), (1, .int (nI n)), (2, .int p2), (3, .int p3)]) hx hb dX7_fewestShips_38 hl (by decide) rfl (fun ls hl => ?_)
        have lp40 : ∀ (zk5 zi4 : Nat) (zx6 : Int32) (zS7 : St) (H : Heap) (locs : List Loc), (zi4 + zk5 = ((Int32.toNatClampNeg p2) + 1)) → (F = LX7_fewestShips_40 rec S n p2 p3 zk5 zi4 zx6 zS7) → HW VX ctX g zS7 H → va_S A s.heap H locs → ∀ ls : Array Slot, lv_has ls 6 [(5, .int (nI zi4)), (0, .ref (g.1 9 0)), (1, .int (nI n)), (2, .int p2), (3, .int p3), (4, .int zx6)] → W p l e { frames := zd + 1 + 2, cells := 0, slots := 0, locals := 25 * (zd + 1) + 60 } s m args below meth c H locs 0 0 Q (F0 m 40 ls []) := by
          intro zk5
          induction zk5 with
          | zero =>
            intro zi4 zx6 zS7 H locs hik hf hP hS ls hl
            have hcl := wi_cl8 hu
            rw [LX7_fewestShips_40] at hf
            refine lv_iload hx hb dX7_fewestShips_40 (lv_at hl 0 rfl) ?_
            refine lv_iload_n hx hb dX7_fewestShips_42 rfl (lv_at hl 3 rfl) ?_
            refine lv_icmp_gt (tgt := 95) hx hb dX7_fewestShips_43 (by decide) (fun zc8 => ?_) (fun zc8 => absurd (up_sgt0 hu hik) zc8)
            refine lv_iload hx hb dX7_fewestShips_95 (lv_at hl 5 rfl) ?_
            exact ri hQ C0 hr hlocks hK hP hS (by rw [← hF]; exact fin2 hf) dX7_fewestShips_97
          | succ zk5 ih40 =>
            intro zi4 zx6 zS7 H locs hik hf hP hS ls hl
            have hcl := wi_cl8 hu
            rw [LX7_fewestShips_40] at hf
            refine lv_iload hx hb dX7_fewestShips_40 (lv_at hl 0 rfl) ?_
            refine lv_iload_n hx hb dX7_fewestShips_42 rfl (lv_at hl 3 rfl) ?_
            refine lv_icmp_gt (tgt := 95) hx hb dX7_fewestShips_43 (by decide) (fun zc9 => absurd zc9 (up_sgt1 hu hik)) (fun zc9 => ?_)
            refine lv_iload hx hb dX7_fewestShips_46 (lv_at hl 0 rfl) ?_
            refine lv_bipush (v := 8) hx hb dX7_fewestShips_48 (by decide) ?_
            refine lv_icmp_ge (tgt := 95) hx hb dX7_fewestShips_50 (by decide) (fun zc10 => ?_) (fun zc10 => ?_)
            · have hf := hf.trans (if_pos zc10)
              refine lv_iload hx hb dX7_fewestShips_95 (lv_at hl 5 rfl) ?_
              exact ri hQ C0 hr hlocks hK hP hS (by rw [← hF]; exact fin2 hf) dX7_fewestShips_97
            · have hf := hf.trans (if_neg zc10)
              refine lv_aload_n hx hb dX7_fewestShips_53 rfl (lv_at hl 1 rfl) ?_
              refine lv_iload_n hx hb dX7_fewestShips_54 rfl (lv_at hl 2 rfl) ?_
              refine lv_iload hx hb dX7_fewestShips_55 (lv_at hl 0 rfl) ?_
              refine kiP (va_runV (As := [.int (nI n), .int (nI zi4)]) (rest := []) C0 (kX1_mayBeOn l g A hA zS7 (nI n) (nI zi4)) (cwV 2 hts (gV q614 q615 q616 q52 q617) rfl rfl rfl (by decide +kernel) ⟨by dsimp only; omega, by dsimp only; omega⟩) (preV (recO (xNam g) hP hK rfl) hP hK) rfl rfl hl.1 rfl (lv_room (Nat.le_of_ble_eq_true rfl)) dX7_fewestShips_57 ⟨Nat.zero_le _, Nat.zero_le _⟩) hS (fun _ h => h) (fun H locs hP hS => ?_)
              refine lv_if_eq (tgt := 89) hx hb dX7_fewestShips_60 (by decide) (fun zc11 => ?_) (fun zc11 => ?_)
              · have hf := hf.trans (if_pos zc11)
                refine lv_iinc (v := (nI (zi4 + 1))) (lv' := [(5, .int (nI (zi4 + 1))), (0, .ref (g.1 9 0)), (1, .int (nI n)), (2, .int p2), (3, .int p3), (4, .int zx6)]) hx hb dX7_fewestShips_89 hl (k := 0) rfl (nI_1 _) (by decide) rfl (fun ls hl => ?_)
                refine lv_goto (tgt := 40) hx hb dX7_fewestShips_92 (by decide) ?_
                exact ih40 (zi4 + 1) zx6 zS7 _ _ (by omega) hf hP hS ls (lv_sub hl [0, 1, 2, 3, 4, 5] rfl)
              · have hf := hf.trans (if_neg zc11)
                refine lv_aload_n hx hb dX7_fewestShips_63 rfl (lv_at hl 1 rfl) ?_
                refine lv_iload_n hx hb dX7_fewestShips_64 rfl (lv_at hl 2 rfl) ?_
                refine lv_iload hx hb dX7_fewestShips_65 (lv_at hl 0 rfl) ?_
                refine kv (va_runV (As := [.int (nI n), .int (nI zi4)]) (rest := []) C0 (kX1_putOn l g A hA zS7 (nI n) (nI zi4)) (cwV 2 hts (gV q618 q619 q620 q52 q621) rfl rfl rfl (by decide +kernel) ⟨by dsimp only; omega, by dsimp only; omega⟩) (preV (recO (xNam g) hP hK rfl) hP hK) rfl rfl hl.1 rfl (lv_room (Nat.le_of_ble_eq_true rfl)) dX7_fewestShips_67 ⟨Nat.zero_le _, Nat.zero_le _⟩) hS (fun _ h => h) (fun zS12 H locs hw hP hS => ?_)
                have hf := hf.trans (bnd_eq hw)
                refine lv_aload_n hx hb dX7_fewestShips_70 rfl (lv_at hl 1 rfl) ?_
                refine lv_iload_n hx hb dX7_fewestShips_71 rfl (lv_at hl 2 rfl) ?_
                refine lv_iconst (v := 1) hx hb dX7_fewestShips_72 (by decide) ?_
                refine lv_iadd hx hb dX7_fewestShips_73 ?_
                rw [show nI n + (1 : Int32) = nI (n + 1) from nI_add _ _]
                refine lv_iload_n hx hb dX7_fewestShips_74 rfl (lv_at hl 3 rfl) ?_
                refine lv_iload hx hb dX7_fewestShips_75 (lv_at hl 0 rfl) ?_
                refine lv_iconst (v := 1) hx hb dX7_fewestShips_77 (by decide) ?_
                refine lv_iadd hx hb dX7_fewestShips_78 ?_
                rw [show nI zi4 + (1 : Int32) = nI (zi4 + 1) from nI_add _ _]
                refine va_mmax hx hb (by rw [hml]; exact hl.1.symm) hown (hts _ q622) (hts _ q600) (hts _ q56) (hts _ q601) (by dsimp; omega) (by show 2 + 13 ≤ 25 * (zd + 1) + 60; omega) (Nat.zero_le _) (Nat.zero_le _) dX7_fewestShips_79 ?_
                refine lv_iload hx hb dX7_fewestShips_82 (lv_at hl 5 rfl) ?_
                refine ki (va_runS (As := [.ref (g.1 9 0), .int (nI (n + 1)), .int (if p2 < (nI (zi4 + 1)) then (nI (zi4 + 1)) else p2), .int zx6]) (rest := []) C0 (hrec (by have := nlt8a zc2; omega) zS12 (if p2 < (nI (zi4 + 1)) then (nI (zi4 + 1)) else p2) zx6 (wmax hu (by have := nlt8 zc10; omega))) (va_cwS 4 hts (gS q610 q611 q46 q612) rfl rfl rfl (by decide +kernel) ⟨by dsimp only; omega, by dsimp only; omega⟩) (preS hP hK) rfl rfl hl.1 rfl (lv_room (Nat.le_of_ble_eq_true rfl)) dX7_fewestShips_84 ⟨Nat.zero_le _, Nat.zero_le _⟩) hS (fun _ h => h) (fun zr13 zS14 H locs hw hP hS => ?_)
                have hf := (hf.trans (bnd_eq hw.2)).trans (bnd_eq hw.1)
                refine lv_istore (lv' := [(4, .int zr13), (5, .int (nI zi4)), (0, .ref (g.1 9 0)), (1, .int (nI n)), (2, .int p2), (3, .int p3)]) hx hb dX7_fewestShips_87 hl (by decide) rfl (fun ls hl => ?_)
                refine lv_iinc (v := (nI (zi4 + 1))) (lv' := [(5, .int (nI (zi4 + 1))), (4, .int zr13), (0, .ref (g.1 9 0)), (1, .int (nI n)), (2, .int p2), (3, .int p3)]) hx hb dX7_fewestShips_89 hl (k := 1) rfl (nI_1 _) (by decide) rfl (fun ls hl => ?_)
                refine lv_goto (tgt := 40) hx hb dX7_fewestShips_92 (by decide) ?_
                exact ih40 (zi4 + 1) zr13 zS14 _ _ (by omega) hf hP hS ls (lv_sub hl [0, 2, 3, 4, 5, 1] rfl)
        exact lp40 ((Int32.toNatClampNeg p2) + 1) 0 p3 S _ _ (Nat.zero_add _) hf hP hS ls (lv_sub hl [0, 2, 3, 4, 5, 1] rfl)
      · have hf := hf.trans (if_neg zc3)
        refine lv_aload_n hx hb dX7_fewestShips_24 rfl (lv_at hl 0 rfl) ?_
        refine lv_iload_n hx hb dX7_fewestShips_25 rfl (lv_at hl 1 rfl) ?_
        refine lv_iconst (v := 1) hx hb dX7_fewestShips_26 (by decide) ?_
        refine lv_iadd hx hb dX7_fewestShips_27 ?_
        rw [show nI n + (1 : Int32) = nI (n + 1) from nI_add _ _]
        refine lv_iload_n hx hb dX7_fewestShips_28 rfl (lv_at hl 2 rfl) ?_
        refine lv_iload_n hx hb dX7_fewestShips_29 rfl (lv_at hl 3 rfl) ?_
        refine ki (va_runS (As := [.ref (g.1 9 0), .int (nI (n + 1)), .int p2, .int p3]) (rest := []) C0 (hrec (by have := nlt8a zc2; omega) S p2 p3 hu) (va_cwS 4 hts (gS q610 q611 q46 q612) rfl rfl rfl (by decide +kernel) ⟨by dsimp only; omega, by dsimp only; omega⟩) (preS hP hK) rfl rfl hl.1 rfl (lv_room (Nat.le_of_ble_eq_true rfl)) dX7_fewestShips_30 ⟨Nat.zero_le _, Nat.zero_le _⟩) hS (fun _ h => h) (fun zr15 zS16 H locs hw hP hS => ?_)
        have hf := (hf.trans (bnd_eq hw.2)).trans (bnd_eq hw.1)
        exact ri hQ C0 hr hlocks hK hP hS (by rw [← hF]; exact fin2 hf) dX7_fewestShips_33
    · have hf := hf.trans (if_neg zc2)
      refine lv_iload_n hx hb dX7_fewestShips_13 rfl (lv_at hl 2 rfl) ?_
      exact ri hQ C0 hr hlocks hK hP hS (by rw [← hF]; exact fin2 hf) dX7_fewestShips_14
  · have hf := hf.trans (if_neg zc1)
    refine lv_iload_n hx hb dX7_fewestShips_5 rfl (lv_at hl 3 rfl) ?_
    exact ri hQ C0 hr hlocks hK hP hS (by rw [← hF]; exact fin2 hf) dX7_fewestShips_6
def tX7_FS : Nat → St → Nat → Int32 → Int32 → Int32 × St
  | 0 => fun S _ _ _ => (0, S)
  | d + 1 => fun S n p2 p3 => tX7_fewestShips (tX7_FS d) S n p2 p3
set_option maxHeartbeats 4000000 in
theorem kX7_FSd (l : Launch) (g : Gd) (A : Nat → Prop) (hA : Ads g.1 VX A) : ∀ (d n : Nat) (S : St) (p2 p3 : Int32), n + d = 8 → wi p2 0 8 → Met l yX7_fewestShips (wU yX7_fewestShips cX7_fewestShips 6 (some .int)) { frames := d + 1 + 2, cells := 0, slots := 0, locals := 25 * (d + 1) + 60 } (va_Pc [.ref (g.1 9 0), .int (nI n), .int p2, .int p3] (PW VX ctX g S)) (va_Qi (fun r u => r = (tX7_FS (d + 1) S n p2 p3).1 ∧ u = (tX7_FS (d + 1) S n p2 p3).2) (fun u U => PW VX ctX g u U) A) 0 0 A := by
  intro d
  induction d with
  | zero =>
    intro n S p2 p3 hn hu
    exact kX7_fewestShips l g A hA S (tX7_FS 0) n p2 p3 (by omega) 0 hu (fun h => absurd h (by omega))
  | succ d ih =>
    intro n S p2 p3 hn hu
    exact kX7_fewestShips l g A hA S (tX7_FS (d + 1)) n p2 p3 (by omega) (d + 1) hu (fun h S p2 p3 hu => ih (n + 1) S p2 p3 (by omega) hu)
theorem kX7_FSt (l : Launch) (g : Gd) (A : Nat → Prop) (hA : Ads g.1 VX A) (S : St) (p3 : Int32) : Met l yX7_fewestShips (wU yX7_fewestShips cX7_fewestShips 6 (some .int)) { frames := 11, cells := 0, slots := 0, locals := 285 } (va_Pc [.ref (g.1 9 0), .int 0, .int 0, .int p3] (PW VX ctX g S)) (va_Qi (fun r u => r = (tX7_FS 9 S 0 0 p3).1 ∧ u = (tX7_FS 9 S 0 0 p3).2) (fun u U => PW VX ctX g u U) A) 0 0 A := kX7_FSd l g A hA 8 0 S 0 p3 rfl (by decide)
def tX7_ones (S : St) : Int32 × St :=
  (bnd (tX1_hear S 0) (fun zS1 => (bnd (tX7_FS 9 zS1 0 0 8).2 (fun zS3 => bnd (tX7_FS 9 zS1 0 0 8).1 (fun zr2 => (zr2, zS3))))))
set_option maxHeartbeats 4000000 in
set_option maxRecDepth 100000 in
theorem kX7_ones (l : Launch) (g : Gd) (A : Nat → Prop) (hA : Ads g.1 VX A) (S : St)  : Met l yX7_ones (wU yX7_ones cX7_ones 1 (some .int)) { frames := 12, cells := 0, slots := 0, locals := 310 } (va_Pc [.ref (g.1 12 0)] (PW VX ctX g S)) (va_Qi (fun r u => r = (tX7_ones S).1 ∧ u = (tX7_ones S).2) (fun u U => PW VX ctX g u U) A) 0 0 A := by
  refine ent (cc := cX7_ones) (maxL := 1) (ret := (some .int)) (by decide) (Nat.le_of_ble_eq_true rfl) ?_
  intro p e s m below meth c args Q C0 hr hlocks hP hK hQ ls hl
  have hx := C0.1
  have hb := C0.2.1
  have hml := C0.2.2.1
  have hown := C0.2.2.2.1
  have hts := C0.2.2.2.2
  obtain ⟨F, hF⟩ : ∃ F : Int32 × St, F = tX7_ones S := ⟨_, rfl⟩
  have hf := hF
  unfold tX7_ones at hf
  have hS : va_S A s.heap s.heap [] := va_S.rf
  have hl : lv_has ls 1 [(0, .ref (g.1 12 0))] := hl
  refine lv_aload_n hx hb dX7_ones_0 rfl (lv_at hl 0 rfl) ?_
  refine gO (T := TX7) C0 inA7 hK hP (xMain g) rfl 5 (by decide) (hts _ q268) (v := .ref (g.1 9 0)) rfl dX7_ones_1 ?_
  refine lv_aload_n hx hb dX7_ones_4 rfl (lv_at hl 0 rfl) ?_
  refine gO (T := TX7) C0 inA7 hK hP (xMain g) rfl 4 (by decide) (hts _ q267) (v := .ref (g.1 (6 + 0) 0)) rfl dX7_ones_5 ?_
  refine kv (va_runV (As := [.ref (g.1 (6 + 0) 0)]) (rest := []) C0 (kX1_hear l g A hA S 0 (by decide)) (cwV 1 hts (gV q577 q578 q579 q52 q580) rfl rfl rfl (by decide +kernel) ⟨Nat.le_of_ble_eq_true rfl, Nat.le_of_ble_eq_true rfl⟩) (preV (recO (xNam g) hP hK rfl) hP hK) rfl rfl hl.1 rfl (lv_room (Nat.le_of_ble_eq_true rfl)) dX7_ones_8 ⟨Nat.zero_le _, Nat.zero_le _⟩) hS (fun _ h => h) (fun zS1 H locs hw hP hS => ?_)
  have hf := hf.trans (bnd_eq hw)
  refine lv_aload_n hx hb dX7_ones_11 rfl (lv_at hl 0 rfl) ?_
  refine gO (T := TX7) C0 inA7 hK hP (xMain g) rfl 5 (by decide) (hts _ q268) (v := .ref (g.1 9 0)) rfl dX7_ones_12 ?_
  refine lv_iconst (v := 0) hx hb dX7_ones_15 (by decide) ?_
  refine lv_iconst (v := 0) hx hb dX7_ones_16 (by decide) ?_
  refine lv_bipush (v := 8) hx hb dX7_ones_17 (by decide) ?_
  refine ki (va_runS (As := [.ref (g.1 9 0), .int 0, .int 0, .int 8]) (rest := []) C0 (kX7_FSt l g A hA zS1 8) (va_cwS 4 hts (gS q610 q611 q46 q612) rfl rfl rfl (by decide +kernel) ⟨Nat.le_of_ble_eq_true rfl, Nat.le_of_ble_eq_true rfl⟩) (preS hP hK) rfl rfl hl.1 rfl (lv_room (Nat.le_of_ble_eq_true rfl)) dX7_ones_19 ⟨Nat.zero_le _, Nat.zero_le _⟩) hS (fun _ h => h) (fun zr2 zS3 H locs hw hP hS => ?_)
  have hf := (hf.trans (bnd_eq hw.2)).trans (bnd_eq hw.1)
  exact ri hQ C0 hr hlocks hK hP hS (by rw [← hF]; exact fin2 hf) dX7_ones_22
