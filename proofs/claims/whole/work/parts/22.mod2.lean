theorem close_ac {S : St} (p1 p2 : Int32) : (tX8_close S p1 p2).2.1 0 0 22 = S.1 0 0 22 + 1 := by
  unfold tX8_close
  simp only [bnd_def]
  simp [up, upd]
theorem close_r {S : St} (p1 p2 : Int32) : (tX8_close S p1 p2).1 = 0 := by unfold tX8_close; rfl
theorem up_at (S : St) (r i j : Nat) (v : Int32) : (up S r i j v).1 r i j = v := by rw [up_row]; exact pk_us
theorem up_row_ne (S : St) {r i j b : Nat} (v : Int32) (h : b ≠ i) : (up S r i j v).1 r b = S.1 r b := up_ne S v (fun q => h q.2)
theorem readOn_ac (S : St) (p1 p2 : Int32) : (tX8_readOn S p1 p2).2.1 0 0 22 = S.1 0 0 22 ∨ (tX8_readOn S p1 p2).2.1 0 0 22 = S.1 0 0 22 + 1 := by
  unfold tX8_readOn
  simp only [bnd_def]
  repeat' split
  all_goals simp only [close_ac, up_row_ne S _ (show (0 : Nat) ≠ 20 by decide), or_true, true_or]
theorem close_row (S : St) (p1 p2 : Int32) {b : Nat} (h0 : b ≠ 0) (h1 : b ≠ 19) (h2 : b ≠ 21) : (tX8_close S p1 p2).2.1 0 b = S.1 0 b := by
  unfold tX8_close
  simp only [bnd_def, up_row_ne _ _ h0, up_row_ne _ _ h1, up_row_ne _ _ h2]
theorem close_sc (S : St) (p1 p2 : Int32) {j : Nat} (h : j ≠ 22) : (tX8_close S p1 p2).2.1 0 0 j = S.1 0 0 j := by
  unfold tX8_close
  simp only [bnd_def]
  rw [up_row]
  simp only [up_row_ne _ _ (show (0 : Nat) ≠ 19 by decide), up_row_ne _ _ (show (0 : Nat) ≠ 21 by decide)]
  exact pk_un h
theorem readOn_sc (S : St) (p1 p2 : Int32) {j : Nat} (h : j ≠ 22) : (tX8_readOn S p1 p2).2.1 0 0 j = S.1 0 0 j := by
  unfold tX8_readOn
  simp only [bnd_def]
  repeat' split
  all_goals simp only [close_sc _ _ _ h, up_row_ne S _ (show (0 : Nat) ≠ 20 by decide)]
theorem ac_in {a : Int32} {i : Nat} (h : wi a 0 (nI i)) (hi : i < 60) : vp_in a 60 := vpx (Int32.not_lt.mpr h.1) (Int32.not_le.mpr (Int32.lt_of_le_of_lt h.2 (nI_lt (a := i) (b := 60) hi (by decide)))) rfl (by decide)
theorem wi_nI {a : Int32} {i : Nat} (hi : i < 2 ^ 31) : wi a 0 (nI i) ↔ ∃ j, j ≤ i ∧ a = nI j := by
  constructor
  · intro h
    obtain ⟨j, hj, rfl⟩ := nI_of (Int32.not_lt.mpr h.1)
    exact ⟨j, (nI_leI hj hi).mp h.2, rfl⟩
  · rintro ⟨j, hj, rfl⟩
    exact ⟨nI_pos' (by omega), nI_le hj hi⟩
theorem ac_step {S : St} {p1 p2 : Int32} {i : Nat} (hi : i < 60) (h : wi (S.1 0 0 22) 0 (nI i)) : wi ((tX8_readOn S p1 p2).2.1 0 0 22) 0 (nI (i + 1)) := by
  obtain ⟨j, hj, e⟩ := (wi_nI (by omega)).mp h
  rw [wi_nI (by omega)]
  rcases readOn_ac S p1 p2 with q | q
  · exact ⟨j, by omega, q.trans e⟩
  · exact ⟨j + 1, by omega, by rw [q, e, nI_1]⟩
theorem wi_cl {a : Int32} {n : Nat} {B : Int32} (h : wi a 0 B) (hB : B = nI n) (hn : n < 2 ^ 31) : a.toNatClampNeg ≤ n := by
  subst hB
  obtain ⟨j, hj, rfl⟩ := (wi_nI hn).mp h
  rw [nI_clamp (by omega)]
  exact hj
def LX8_fault_9 (S : St) : Nat → Nat → Int32 → St → Int32 × St
  | 0, zi1, zx3, zS4 => (if zx3 = 0 then ((-6), zS4) else ((zS4.1 0 0 18), zS4))
  | zk2 + 1, zi1, zx3, zS4 => (bnd (tX8_readOn zS4 zx3 (zS4.1 0 17 zi1)).2 (fun zS9 => bnd (tX8_readOn zS4 zx3 (zS4.1 0 17 zi1)).1 (fun zr8 => (if 0 ≤ zr8 then (LX8_fault_9 S zk2 (zi1 + 1) zr8 zS9) else ((nI zi1), zS9)))))
def tX8_fault (S : St) : Int32 × St :=
  (LX8_fault_9 S (Int32.toNatClampNeg (S.1 0 0 18)) 0 0 (up S 0 0 22 0))
set_option maxHeartbeats 4000000 in
set_option maxRecDepth 100000 in
theorem kX8_fault (l : Launch) (g : Gd) (A : Nat → Prop) (hA : Ads g.1 VM A) (S : St)  (hp : wi (S.1 0 0 18) 0 60) : Met l yX8_fault (wU yX8_fault cX8_fault 3 (some .int)) { frames := 2, cells := 0, slots := 0, locals := 48 } (va_Pc [.ref (g.1 0 0)] (PW VM ctM g S)) (va_Qi (fun r u => r = (tX8_fault S).1 ∧ u = (tX8_fault S).2) (fun u U => PW VM ctM g u U) A) 0 0 A := by
  refine ent (cc := cX8_fault) (maxL := 3) (ret := (some .int)) (by decide) (Nat.le_of_ble_eq_true rfl) ?_
  intro p e s m below meth c args Q C0 hr hlocks hP hK hQ ls hl
  have hx := C0.1
  have hb := C0.2.1
  have hml := C0.2.2.1
  have hown := C0.2.2.2.1
  have hts := C0.2.2.2.2
  obtain ⟨F, hF⟩ : ∃ F : Int32 × St, F = tX8_fault S := ⟨_, rfl⟩
  have hf := hF
  unfold tX8_fault at hf
  have hS : va_S A s.heap s.heap [] := va_S.rf
  have hl : lv_has ls 3 [(0, .ref (g.1 0 0))] := hl
  refine lv_aload_n hx hb dX8_fault_0 rfl (lv_at hl 0 rfl) ?_
  refine lv_iconst (v := 0) hx hb dX8_fault_1 (by decide) ?_
  refine pO (T := TX8) (ty0 := tyX8) locM C0 inA8 tyX8_ok nmX8 hK hP hA hS (mMain g) rfl 22 (by decide) (hts _ q698) rfl 22 0 rfl rfl rfl (Nat.le_of_ble_eq_true rfl) dX8_fault_2 (fun H locs hP hS => ?_)
  refine lv_iconst (v := 0) hx hb dX8_fault_5 (by decide) ?_
  refine lv_istore_n (lv' := [(1, .int 0), (0, .ref (g.1 0 0))]) hx hb dX8_fault_6 rfl hl (by decide) rfl (fun ls hl => ?_)
  refine lv_iconst (v := 0) hx hb dX8_fault_7 (by decide) ?_
  refine lv_istore_n (lv' := [(2, .int 0), (1, .int 0), (0, .ref (g.1 0 0))]) hx hb dX8_fault_8 rfl hl (by decide) rfl (fun ls hl => ?_)
  have lp9 : ∀ (zk2 zi1 : Nat) (zx3 : Int32) (zS4 : St) (H : Heap) (locs : List Loc), (zi1 + zk2 = (Int32.toNatClampNeg (S.1 0 0 18))) → (zS4.1 0 0 18 = S.1 0 0 18) → (wi (zS4.1 0 0 22) 0 (nI zi1)) → (F = LX8_fault_9 S zk2 zi1 zx3 zS4) → HW VM ctM g zS4 H → va_S A s.heap H locs → ∀ ls : Array Slot, lv_has ls 3 [(2, .int (nI zi1)), (0, .ref (g.1 0 0)), (1, .int zx3)] → W p l e { frames := 2, cells := 0, slots := 0, locals := 48 } s m args below meth c H locs 0 0 Q (F0 m 9 ls []) := by
    intro zk2
    induction zk2 with
    | zero =>
      intro zi1 zx3 zS4 H locs hik hi1 hi2 hf hP hS ls hl
      have hcl : (S.1 0 0 18).toNatClampNeg ≤ 60 := wi_cl (n := 60) hp rfl (by decide)
      rw [LX8_fault_9] at hf
      refine lv_iload_n hx hb dX8_fault_9 rfl (lv_at hl 0 rfl) ?_
      refine lv_aload_n hx hb dX8_fault_10 rfl (lv_at hl 1 rfl) ?_
      refine gO (T := TX8) C0 inA8 hK hP (mMain g) rfl 18 (by decide) (hts _ q694) (v := .int (zS4.1 0 0 18)) rfl dX8_fault_11 ?_
      refine lv_icmp_ge (tgt := 41) hx hb dX8_fault_14 (by decide) (fun zc5 => ?_) (fun zc5 => absurd (by rw [hi1]; exact up_sge0 hik) zc5)
      refine lv_iload_n hx hb dX8_fault_41 rfl (lv_at hl 2 rfl) ?_
      refine lv_if_ne (tgt := 50) hx hb dX8_fault_42 (by decide) (fun zc6 => ?_) (fun zc6 => ?_)
      · have hf := hf.trans (if_neg zc6)
        refine lv_aload_n hx hb dX8_fault_50 rfl (lv_at hl 1 rfl) ?_
        refine gO (T := TX8) C0 inA8 hK hP (mMain g) rfl 18 (by decide) (hts _ q694) (v := .int (zS4.1 0 0 18)) rfl dX8_fault_51 ?_
        exact ri hQ C0 hr hlocks hK hP hS (by rw [← hF]; exact fin2 hf) dX8_fault_54
      · have hf := hf.trans (if_pos zc6)
        refine lv_bipush (v := (-6)) hx hb dX8_fault_45 (by decide) ?_
        refine lv_goto (tgt := 54) hx hb dX8_fault_47 (by decide) ?_
        exact ri hQ C0 hr hlocks hK hP hS (by rw [← hF]; exact fin2 hf) dX8_fault_54
    | succ zk2 ih9 =>
      intro zi1 zx3 zS4 H locs hik hi1 hi2 hf hP hS ls hl
      have hcl : (S.1 0 0 18).toNatClampNeg ≤ 60 := wi_cl (n := 60) hp rfl (by decide)
      rw [LX8_fault_9] at hf
      refine lv_iload_n hx hb dX8_fault_9 rfl (lv_at hl 0 rfl) ?_
      refine lv_aload_n hx hb dX8_fault_10 rfl (lv_at hl 1 rfl) ?_
      refine gO (T := TX8) C0 inA8 hK hP (mMain g) rfl 18 (by decide) (hts _ q694) (v := .int (zS4.1 0 0 18)) rfl dX8_fault_11 ?_
      refine lv_icmp_ge (tgt := 41) hx hb dX8_fault_14 (by decide) (fun zc7 => absurd zc7 (by rw [hi1]; exact up_sge1 hik)) (fun zc7 => ?_)
      refine lv_aload_n hx hb dX8_fault_17 rfl (lv_at hl 1 rfl) ?_
      refine lv_iload_n hx hb dX8_fault_18 rfl (lv_at hl 2 rfl) ?_
      refine lv_aload_n hx hb dX8_fault_19 rfl (lv_at hl 1 rfl) ?_
      refine gO (T := TX8) C0 inA8 hK hP (mMain g) rfl 17 (by decide) (hts _ q693) (v := .ref (g.1 0 17)) rfl dX8_fault_20 ?_
      refine lv_iload_n hx hb dX8_fault_23 rfl (lv_at hl 0 rfl) ?_
      refine gI C0 hK hP (mPad g) (vp_in_nI (by omega) (by decide)) dX8_fault_24 ?_
      rw [nI_clamp (n := zi1) (by omega)]
      refine ki (va_runV (As := [.int zx3, .int (zS4.1 0 17 zi1)]) (rest := []) C0 (kX8_readOn l g A hA zS4 zx3 (zS4.1 0 17 zi1) (ac_in hi2 (by omega))) (cwV 2 hts (gV q844 q846 q14 q54 q847) rfl rfl rfl (by decide +kernel) ⟨Nat.le_of_ble_eq_true rfl, Nat.le_of_ble_eq_true rfl⟩) (preV (recO (mMain g) hP hK rfl) hP hK) rfl rfl hl.1 rfl (lv_room (Nat.le_of_ble_eq_true rfl)) dX8_fault_25 ⟨Nat.zero_le _, Nat.zero_le _⟩) hS (fun _ h => h) (fun zr8 zS9 H locs hw hP hS => ?_)
      have hf := (hf.trans (bnd_eq hw.2)).trans (bnd_eq hw.1)
      refine lv_istore_n (lv' := [(1, .int zr8), (2, .int (nI zi1)), (0, .ref (g.1 0 0))]) hx hb dX8_fault_28 rfl hl (by decide) rfl (fun ls hl => ?_)
      refine lv_iload_n hx hb dX8_fault_29 rfl (lv_at hl 0 rfl) ?_
      refine lv_if_ge (tgt := 35) hx hb dX8_fault_30 (by decide) (fun zc10 => ?_) (fun zc10 => ?_)
      · have hf := hf.trans (if_pos zc10)
        refine lv_iinc (v := (nI (zi1 + 1))) (lv' := [(2, .int (nI (zi1 + 1))), (1, .int zr8), (0, .ref (g.1 0 0))]) hx hb dX8_fault_35 hl (k := 1) rfl (nI_1 _) (by decide) rfl (fun ls hl => ?_)
        refine lv_goto (tgt := 9) hx hb dX8_fault_38 (by decide) ?_
        exact ih9 (zi1 + 1) zr8 zS9 _ _ (by omega) (by rw [hw.2, readOn_sc _ _ _ (by decide)]; exact hi1) (by rw [hw.2]; exact ac_step (by omega) hi2) hf hP hS ls (lv_sub hl [0, 2, 1] rfl)
      · have hf := hf.trans (if_neg zc10)
        refine lv_iload_n hx hb dX8_fault_33 rfl (lv_at hl 1 rfl) ?_
        exact ri hQ C0 hr hlocks hK hP hS (by rw [← hF]; exact fin2 hf) dX8_fault_34
  exact lp9 (Int32.toNatClampNeg (S.1 0 0 18)) 0 0 (up S 0 0 22 0) _ _ (Nat.zero_add _) (by rw [up_row]; exact pk_un (by decide)) (by rw [up_at]; decide) hf hP hS ls (lv_sub hl [0, 2, 1] rfl)
theorem sail_row (S : St) (p1 : Int32) {b : Nat} (h0 : b ≠ 0) (h1 : b ≠ 2) (h2 : b ≠ 5) : (tX8_sail S p1).1 0 b = S.1 0 b := by
  unfold tX8_sail
  simp only [bnd_def]
  repeat' split
  all_goals simp only [up_row_ne _ _ h0, up_row_ne _ _ h1, up_row_ne _ _ h2]
theorem sink_row (S : St) (p1 : Int32) {b : Nat} (h0 : b ≠ 0) : (tX8_sink S p1).1 0 b = S.1 0 b := by
  unfold tX8_sink
  simp only [bnd_def]
  repeat' split
  all_goals simp only [up_row_ne _ _ h0]
theorem happen_row (S : St) (p1 p2 p3 : Int32) {b : Nat} (h0 : b ≠ 0) (h1 : b ≠ 2) (h2 : b ≠ 5) (h3 : b ≠ 6) : (tX8_happen S p1 p2 p3).1 0 b = S.1 0 b := by
  unfold tX8_happen
  simp only [bnd_def]
  repeat' split
  all_goals simp only [sail_row _ _ h0 h1 h2, sink_row _ _ h0, up_row_ne _ _ h0, up_row_ne _ _ h1, up_row_ne _ _ h2, up_row_ne _ _ h3]
theorem sail_sc (S : St) (p1 : Int32) {j : Nat} (h1 : j ≠ 23) (h2 : j ≠ 11) : (tX8_sail S p1).1 0 0 j = S.1 0 0 j := by
  unfold tX8_sail
  simp only [bnd_def]
  repeat' split
  all_goals simp [up, upd, h1, h2]
theorem sink_sc (S : St) (p1 : Int32) {j : Nat} (h1 : j ≠ 23) (h2 : j ≠ 11) (h3 : j ≠ 12) (h4 : j ≠ 1) (h5 : j ≠ 24) (h6 : j ≠ 25) (h7 : j ≠ 26) : (tX8_sink S p1).1 0 0 j = S.1 0 0 j := by
  unfold tX8_sink
  simp only [bnd_def]
  repeat' split
  all_goals simp [up, upd, h1, h2, h3, h4, h5, h6, h7]
theorem happen_sc (S : St) (p1 p2 p3 : Int32) {j : Nat} (h1 : j ≠ 23) (h2 : j ≠ 11) (h3 : j ≠ 12) (h4 : j ≠ 1) (h5 : j ≠ 24) (h6 : j ≠ 25) (h7 : j ≠ 26) (h8 : j ≠ 9) (h9 : j ≠ 10) : (tX8_happen S p1 p2 p3).1 0 0 j = S.1 0 0 j := by
  unfold tX8_happen
  simp only [bnd_def]
  repeat' split
  all_goals simp [sail_sc _ _ h1 h2, sink_sc _ _ h1 h2 h3 h4 h5 h6 h7, up, upd, h8, h9]
def LX8_goVoyages_18 (S : St) : Nat → Nat → St → St
  | 0, zi2, zS4 => zS4
  | zk3 + 1, zi2, zS4 => (if 0 ≤ (zS4.1 0 0 29) then zS4 else (if (tX8_whyNot (up zS4 0 0 27 (nI zi2)) ((up zS4 0 0 27 (nI zi2)).1 0 19 zi2) ((up zS4 0 0 27 (nI zi2)).1 0 20 zi2) ((up zS4 0 0 27 (nI zi2)).1 0 21 zi2)) ≤ 0 then (if (tX8_whyNot (up zS4 0 0 27 (nI zi2)) ((up zS4 0 0 27 (nI zi2)).1 0 19 zi2) ((up zS4 0 0 27 (nI zi2)).1 0 20 zi2) ((up zS4 0 0 27 (nI zi2)).1 0 21 zi2)) = 0 then (bnd (tX8_happen (up (up (up zS4 0 0 27 (nI zi2)) 0 0 29 (-6)) 0 0 30 (-6)) ((up (up (up zS4 0 0 27 (nI zi2)) 0 0 29 (-6)) 0 0 30 (-6)).1 0 19 zi2) ((up (up (up zS4 0 0 27 (nI zi2)) 0 0 29 (-6)) 0 0 30 (-6)).1 0 20 zi2) ((up (up (up zS4 0 0 27 (nI zi2)) 0 0 29 (-6)) 0 0 30 (-6)).1 0 21 zi2)) (fun zS11 => (LX8_goVoyages_18 S zk3 (zi2 + 1) zS11))) else (LX8_goVoyages_18 S zk3 (zi2 + 1) (up (up (up zS4 0 0 27 (nI zi2)) 0 0 29 (-6)) 0 0 30 (-6)))) else (if (tX8_whyNot (up zS4 0 0 27 (nI zi2)) ((up zS4 0 0 27 (nI zi2)).1 0 19 zi2) ((up zS4 0 0 27 (nI zi2)).1 0 20 zi2) ((up zS4 0 0 27 (nI zi2)).1 0 21 zi2)) = 0 then (bnd (tX8_happen (up (up (up zS4 0 0 27 (nI zi2)) 0 0 29 (nI zi2)) 0 0 30 (tX8_whyNot (up zS4 0 0 27 (nI zi2)) ((up zS4 0 0 27 (nI zi2)).1 0 19 zi2) ((up zS4 0 0 27 (nI zi2)).1 0 20 zi2) ((up zS4 0 0 27 (nI zi2)).1 0 21 zi2))) ((up (up (up zS4 0 0 27 (nI zi2)) 0 0 29 (nI zi2)) 0 0 30 (tX8_whyNot (up zS4 0 0 27 (nI zi2)) ((up zS4 0 0 27 (nI zi2)).1 0 19 zi2) ((up zS4 0 0 27 (nI zi2)).1 0 20 zi2) ((up zS4 0 0 27 (nI zi2)).1 0 21 zi2))).1 0 19 zi2) ((up (up (up zS4 0 0 27 (nI zi2)) 0 0 29 (nI zi2)) 0 0 30 (tX8_whyNot (up zS4 0 0 27 (nI zi2)) ((up zS4 0 0 27 (nI zi2)).1 0 19 zi2) ((up zS4 0 0 27 (nI zi2)).1 0 20 zi2) ((up zS4 0 0 27 (nI zi2)).1 0 21 zi2))).1 0 20 zi2) ((up (up (up zS4 0 0 27 (nI zi2)) 0 0 29 (nI zi2)) 0 0 30 (tX8_whyNot (up zS4 0 0 27 (nI zi2)) ((up zS4 0 0 27 (nI zi2)).1 0 19 zi2) ((up zS4 0 0 27 (nI zi2)).1 0 20 zi2) ((up zS4 0 0 27 (nI zi2)).1 0 21 zi2))).1 0 21 zi2)) (fun zS14 => (LX8_goVoyages_18 S zk3 (zi2 + 1) zS14))) else (LX8_goVoyages_18 S zk3 (zi2 + 1) (up (up (up zS4 0 0 27 (nI zi2)) 0 0 29 (nI zi2)) 0 0 30 (tX8_whyNot (up zS4 0 0 27 (nI zi2)) ((up zS4 0 0 27 (nI zi2)).1 0 19 zi2) ((up zS4 0 0 27 (nI zi2)).1 0 20 zi2) ((up zS4 0 0 27 (nI zi2)).1 0 21 zi2)))))))
def tX8_goVoyages (S : St) : St :=
  (bnd (tX8_beginCount S) (fun zS1 => (LX8_goVoyages_18 S (Int32.toNatClampNeg (S.1 0 0 22)) 0 (up (up zS1 0 0 29 (-6)) 0 0 30 (-6)))))
set_option maxHeartbeats 4000000 in
set_option maxRecDepth 100000 in
theorem kX8_goVoyages (l : Launch) (g : Gd) (A : Nat → Prop) (hA : Ads g.1 VM A) (S : St)  (ha : wi (S.1 0 0 22) 0 60) (hq : ∀ j, j < (S.1 0 0 22).toNatClampNeg → (¬ S.1 0 19 j = 5 → vp_in (S.1 0 20 j) 6) ∧ (S.1 0 19 j = 0 → wi (S.1 0 21 j) 0 2)) : Met l yX8_goVoyages (wU yX8_goVoyages cX8_goVoyages 3 none) { frames := 3, cells := 0, slots := 0, locals := 69 } (va_Pc [.ref (g.1 0 0)] (PW VM ctM g S)) (va_Qv (fun u => u = tX8_goVoyages S) (fun u U => PW VM ctM g u U) A) 0 0 A := by
  refine ent (cc := cX8_goVoyages) (maxL := 3) (ret := none) (by decide) (Nat.le_of_ble_eq_true rfl) ?_
  intro p e s m below meth c args Q C0 hr hlocks hP hK hQ ls hl
  have hx := C0.1
  have hb := C0.2.1
  have hml := C0.2.2.1
  have hown := C0.2.2.2.1
  have hts := C0.2.2.2.2
  obtain ⟨F, hF⟩ : ∃ F : St, F = tX8_goVoyages S := ⟨_, rfl⟩
  have hf := hF
  unfold tX8_goVoyages at hf
  have hS : va_S A s.heap s.heap [] := va_S.rf
  have hl : lv_has ls 3 [(0, .ref (g.1 0 0))] := hl
  refine lv_aload_n hx hb dX8_goVoyages_0 rfl (lv_at hl 0 rfl) ?_
  refine kv (va_runV (As := []) (rest := []) C0 (kX8_beginCount l g A hA S ) (cwV 0 hts (gV q874 q876 q19 q54 q877) rfl rfl rfl (by decide +kernel) ⟨Nat.le_of_ble_eq_true rfl, Nat.le_of_ble_eq_true rfl⟩) (preV (recO (mMain g) hP hK rfl) hP hK) rfl rfl hl.1 rfl (lv_room (Nat.le_of_ble_eq_true rfl)) dX8_goVoyages_1 ⟨Nat.zero_le _, Nat.zero_le _⟩) hS (fun _ h => h) (fun zS1 H locs hw hP hS => ?_)
  have hf := hf.trans (bnd_eq hw)
  refine lv_aload_n hx hb dX8_goVoyages_4 rfl (lv_at hl 0 rfl) ?_
  refine lv_bipush (v := (-6)) hx hb dX8_goVoyages_5 (by decide) ?_
  refine pO (T := TX8) (ty0 := tyX8) locM C0 inA8 tyX8_ok nmX8 hK hP hA hS (mMain g) rfl 29 (by decide) (hts _ q705) rfl 29 (-6) rfl rfl rfl (Nat.le_of_ble_eq_true rfl) dX8_goVoyages_7 (fun H locs hP hS => ?_)
  refine lv_aload_n hx hb dX8_goVoyages_10 rfl (lv_at hl 0 rfl) ?_
  refine lv_bipush (v := (-6)) hx hb dX8_goVoyages_11 (by decide) ?_
  refine pO (T := TX8) (ty0 := tyX8) locM C0 inA8 tyX8_ok nmX8 hK hP hA hS (mMain g) rfl 30 (by decide) (hts _ q706) rfl 30 (-6) rfl rfl rfl (Nat.le_of_ble_eq_true rfl) dX8_goVoyages_13 (fun H locs hP hS => ?_)
  refine lv_iconst (v := 0) hx hb dX8_goVoyages_16 (by decide) ?_
  refine lv_istore_n (lv' := [(1, .int 0), (0, .ref (g.1 0 0))]) hx hb dX8_goVoyages_17 rfl hl (by decide) rfl (fun ls hl => ?_)
  have lp18 : ∀ (zk3 zi2 : Nat) (zS4 : St) (H : Heap) (locs : List Loc), (zi2 + zk3 = (Int32.toNatClampNeg (S.1 0 0 22))) → (zS4.1 0 0 22 = S.1 0 0 22) → (zS4.1 0 19 = S.1 0 19) → (zS4.1 0 20 = S.1 0 20) → (zS4.1 0 21 = S.1 0 21) → (F = LX8_goVoyages_18 S zk3 zi2 zS4) → HW VM ctM g zS4 H → va_S A s.heap H locs → ∀ ls : Array Slot, lv_has ls 3 [(1, .int (nI zi2)), (0, .ref (g.1 0 0))] → W p l e { frames := 3, cells := 0, slots := 0, locals := 69 } s m args below meth c H locs 0 0 Q (F0 m 18 ls []) := by
    intro zk3
    induction zk3 with
    | zero =>
      intro zi2 zS4 H locs hik hi1 hr1 hr2 hr3 hf hP hS ls hl
      have hcl : (S.1 0 0 22).toNatClampNeg ≤ 60 := wi_cl (n := 60) ha rfl (by decide)
      rw [LX8_goVoyages_18] at hf
      refine lv_iload_n hx hb dX8_goVoyages_18 rfl (lv_at hl 0 rfl) ?_
      refine lv_aload_n hx hb dX8_goVoyages_19 rfl (lv_at hl 1 rfl) ?_
      refine gO (T := TX8) C0 inA8 hK hP (mMain g) rfl 22 (by decide) (hts _ q698) (v := .int (zS4.1 0 0 22)) rfl dX8_goVoyages_20 ?_
      refine lv_icmp_ge (tgt := 121) hx hb dX8_goVoyages_23 (by decide) (fun zc5 => ?_) (fun zc5 => absurd (by rw [hi1]; exact up_sge0 hik) zc5)
      exact rv hQ C0 hr hlocks hK hP hS (by rw [← hF]; exact hf.symm) dX8_goVoyages_121
    | succ zk3 ih18 =>
      intro zi2 zS4 H locs hik hi1 hr1 hr2 hr3 hf hP hS ls hl
      have hcl : (S.1 0 0 22).toNatClampNeg ≤ 60 := wi_cl (n := 60) ha rfl (by decide)
      rw [LX8_goVoyages_18] at hf
      refine lv_iload_n hx hb dX8_goVoyages_18 rfl (lv_at hl 0 rfl) ?_
      refine lv_aload_n hx hb dX8_goVoyages_19 rfl (lv_at hl 1 rfl) ?_
      refine gO (T := TX8) C0 inA8 hK hP (mMain g) rfl 22 (by decide) (hts _ q698) (v := .int (zS4.1 0 0 22)) rfl dX8_goVoyages_20 ?_
      refine lv_icmp_ge (tgt := 121) hx hb dX8_goVoyages_23 (by decide) (fun zc6 => absurd zc6 (by rw [hi1]; exact up_sge1 hik)) (fun zc6 => ?_)
      refine lv_aload_n hx hb dX8_goVoyages_26 rfl (lv_at hl 1 rfl) ?_
      refine gO (T := TX8) C0 inA8 hK hP (mMain g) rfl 29 (by decide) (hts _ q705) (v := .int (zS4.1 0 0 29)) rfl dX8_goVoyages_27 ?_
      refine lv_if_ge (tgt := 121) hx hb dX8_goVoyages_30 (by decide) (fun zc7 => ?_) (fun zc7 => ?_)
      · have hf := hf.trans (if_pos zc7)
        exact rv hQ C0 hr hlocks hK hP hS (by rw [← hF]; exact hf.symm) dX8_goVoyages_121
      · have hf := hf.trans (if_neg zc7)
        refine lv_aload_n hx hb dX8_goVoyages_33 rfl (lv_at hl 1 rfl) ?_
        refine lv_iload_n hx hb dX8_goVoyages_34 rfl (lv_at hl 0 rfl) ?_
        refine pO (T := TX8) (ty0 := tyX8) locM C0 inA8 tyX8_ok nmX8 hK hP hA hS (mMain g) rfl 27 (by decide) (hts _ q703) rfl 27 (nI zi2) rfl rfl rfl (Nat.le_of_ble_eq_true rfl) dX8_goVoyages_35 (fun H locs hP hS => ?_)
        refine lv_aload_n hx hb dX8_goVoyages_38 rfl (lv_at hl 1 rfl) ?_
        refine lv_aload_n hx hb dX8_goVoyages_39 rfl (lv_at hl 1 rfl) ?_
        refine gO (T := TX8) C0 inA8 hK hP (mMain g) rfl 19 (by decide) (hts _ q695) (v := .ref (g.1 0 19)) rfl dX8_goVoyages_40 ?_
        refine lv_iload_n hx hb dX8_goVoyages_43 rfl (lv_at hl 0 rfl) ?_
        refine gI C0 hK hP (mAct g) (vp_in_nI (by omega) (by decide)) dX8_goVoyages_44 ?_
        rw [nI_clamp (n := zi2) (by omega)]
        refine lv_aload_n hx hb dX8_goVoyages_45 rfl (lv_at hl 1 rfl) ?_
        refine gO (T := TX8) C0 inA8 hK hP (mMain g) rfl 20 (by decide) (hts _ q696) (v := .ref (g.1 0 20)) rfl dX8_goVoyages_46 ?_
        refine lv_iload_n hx hb dX8_goVoyages_49 rfl (lv_at hl 0 rfl) ?_
        refine gI C0 hK hP (mWho g) (vp_in_nI (by omega) (by decide)) dX8_goVoyages_50 ?_
        rw [nI_clamp (n := zi2) (by omega)]
        refine lv_aload_n hx hb dX8_goVoyages_51 rfl (lv_at hl 1 rfl) ?_
        refine gO (T := TX8) C0 inA8 hK hP (mMain g) rfl 21 (by decide) (hts _ q697) (v := .ref (g.1 0 21)) rfl dX8_goVoyages_52 ?_
        refine lv_iload_n hx hb dX8_goVoyages_55 rfl (lv_at hl 0 rfl) ?_
        refine gI C0 hK hP (mMuch g) (vp_in_nI (by omega) (by decide)) dX8_goVoyages_56 ?_
        rw [nI_clamp (n := zi2) (by omega)]
        refine kiP (va_runV (As := [.int ((up zS4 0 0 27 (nI zi2)).1 0 19 zi2), .int ((up zS4 0 0 27 (nI zi2)).1 0 20 zi2), .int ((up zS4 0 0 27 (nI zi2)).1 0 21 zi2)]) (rest := []) C0 (kX8_whyNot l g A hA (up zS4 0 0 27 (nI zi2)) ((up zS4 0 0 27 (nI zi2)).1 0 19 zi2) ((up zS4 0 0 27 (nI zi2)).1 0 20 zi2) ((up zS4 0 0 27 (nI zi2)).1 0 21 zi2) (by simp only [up_row_ne _ _ (show (19 : Nat) ≠ 0 by decide), up_row_ne _ _ (show (21 : Nat) ≠ 0 by decide), hr1, hr3]; exact (hq _ (by omega)).2)) (cwV 3 hts (gV q878 q880 q20 q54 q881) rfl rfl rfl (by decide +kernel) ⟨Nat.le_of_ble_eq_true rfl, Nat.le_of_ble_eq_true rfl⟩) (preV (recO (mMain g) hP hK rfl) hP hK) rfl rfl hl.1 rfl (lv_room (Nat.le_of_ble_eq_true rfl)) dX8_goVoyages_57 ⟨Nat.zero_le _, Nat.zero_le _⟩) hS (fun _ h => h) (fun H locs hP hS => ?_)
        refine lv_istore_n (lv' := [(2, .int (tX8_whyNot (up zS4 0 0 27 (nI zi2)) ((up zS4 0 0 27 (nI zi2)).1 0 19 zi2) ((up zS4 0 0 27 (nI zi2)).1 0 20 zi2) ((up zS4 0 0 27 (nI zi2)).1 0 21 zi2))), (1, .int (nI zi2)), (0, .ref (g.1 0 0))]) hx hb dX8_goVoyages_60 rfl hl (by decide) rfl (fun ls hl => ?_)
        refine lv_aload_n hx hb dX8_goVoyages_61 rfl (lv_at hl 2 rfl) ?_
        refine lv_iload_n hx hb dX8_goVoyages_62 rfl (lv_at hl 0 rfl) ?_
        refine lv_if_le (tgt := 70) hx hb dX8_goVoyages_63 (by decide) (fun zc8 => ?_) (fun zc8 => ?_)
        · have hf := hf.trans (if_pos zc8)
          refine lv_bipush (v := (-6)) hx hb dX8_goVoyages_70 (by decide) ?_
          refine pO (T := TX8) (ty0 := tyX8) locM C0 inA8 tyX8_ok nmX8 hK hP hA hS (mMain g) rfl 29 (by decide) (hts _ q705) rfl 29 (-6) rfl rfl rfl (Nat.le_of_ble_eq_true rfl) dX8_goVoyages_72 (fun H locs hP hS => ?_)
          refine lv_aload_n hx hb dX8_goVoyages_75 rfl (lv_at hl 2 rfl) ?_
          refine lv_iload_n hx hb dX8_goVoyages_76 rfl (lv_at hl 0 rfl) ?_
          refine lv_if_le (tgt := 84) hx hb dX8_goVoyages_77 (by decide) (fun zc9 => ?_) (fun zc9 => absurd zc8 zc9)
          refine lv_bipush (v := (-6)) hx hb dX8_goVoyages_84 (by decide) ?_
          refine pO (T := TX8) (ty0 := tyX8) locM C0 inA8 tyX8_ok nmX8 hK hP hA hS (mMain g) rfl 30 (by decide) (hts _ q706) rfl 30 (-6) rfl rfl rfl (Nat.le_of_ble_eq_true rfl) dX8_goVoyages_86 (fun H locs hP hS => ?_)
          refine lv_iload_n hx hb dX8_goVoyages_89 rfl (lv_at hl 0 rfl) ?_
          refine lv_if_ne (tgt := 115) hx hb dX8_goVoyages_90 (by decide) (fun zc10 => ?_) (fun zc10 => ?_)
          · have hf := hf.trans (if_neg zc10)
            refine lv_iinc (v := (nI (zi2 + 1))) (lv' := [(1, .int (nI (zi2 + 1))), (2, .int (tX8_whyNot (up zS4 0 0 27 (nI zi2)) ((up zS4 0 0 27 (nI zi2)).1 0 19 zi2) ((up zS4 0 0 27 (nI zi2)).1 0 20 zi2) ((up zS4 0 0 27 (nI zi2)).1 0 21 zi2))), (0, .ref (g.1 0 0))]) hx hb dX8_goVoyages_115 hl (k := 1) rfl (nI_1 _) (by decide) rfl (fun ls hl => ?_)
            refine lv_goto (tgt := 18) hx hb dX8_goVoyages_118 (by decide) ?_
            exact ih18 (zi2 + 1) (up (up (up zS4 0 0 27 (nI zi2)) 0 0 29 (-6)) 0 0 30 (-6)) _ _ (by omega) (by first | (rw [hw, happen_sc _ _ _ _ (by decide) (by decide) (by decide) (by decide) (by decide) (by decide) (by decide) (by decide) (by decide)]; simp [up, upd, hi1]) | simp [up, upd, hi1]) (by first | (rw [hw, happen_row _ _ _ _ (by decide) (by decide) (by decide) (by decide)]; simp [up, hr1]) | simp [up, hr1]) (by first | (rw [hw, happen_row _ _ _ _ (by decide) (by decide) (by decide) (by decide)]; simp [up, hr2]) | simp [up, hr2]) (by first | (rw [hw, happen_row _ _ _ _ (by decide) (by decide) (by decide) (by decide)]; simp [up, hr3]) | simp [up, hr3]) hf hP hS ls (lv_sub hl [0, 2] rfl)
          · have hf := hf.trans (if_pos zc10)
            refine lv_aload_n hx hb dX8_goVoyages_93 rfl (lv_at hl 2 rfl) ?_
            refine lv_aload_n hx hb dX8_goVoyages_94 rfl (lv_at hl 2 rfl) ?_
            refine gO (T := TX8) C0 inA8 hK hP (mMain g) rfl 19 (by decide) (hts _ q695) (v := .ref (g.1 0 19)) rfl dX8_goVoyages_95 ?_
            refine lv_iload_n hx hb dX8_goVoyages_98 rfl (lv_at hl 1 rfl) ?_
            refine gI C0 hK hP (mAct g) (vp_in_nI (by omega) (by decide)) dX8_goVoyages_99 ?_
            rw [nI_clamp (n := zi2) (by omega)]
            refine lv_aload_n hx hb dX8_goVoyages_100 rfl (lv_at hl 2 rfl) ?_
            refine gO (T := TX8) C0 inA8 hK hP (mMain g) rfl 20 (by decide) (hts _ q696) (v := .ref (g.1 0 20)) rfl dX8_goVoyages_101 ?_
            refine lv_iload_n hx hb dX8_goVoyages_104 rfl (lv_at hl 1 rfl) ?_
            refine gI C0 hK hP (mWho g) (vp_in_nI (by omega) (by decide)) dX8_goVoyages_105 ?_
            rw [nI_clamp (n := zi2) (by omega)]
            refine lv_aload_n hx hb dX8_goVoyages_106 rfl (lv_at hl 2 rfl) ?_
            refine gO (T := TX8) C0 inA8 hK hP (mMain g) rfl 21 (by decide) (hts _ q697) (v := .ref (g.1 0 21)) rfl dX8_goVoyages_107 ?_
            refine lv_iload_n hx hb dX8_goVoyages_110 rfl (lv_at hl 1 rfl) ?_
            refine gI C0 hK hP (mMuch g) (vp_in_nI (by omega) (by decide)) dX8_goVoyages_111 ?_
            rw [nI_clamp (n := zi2) (by omega)]
            refine kv (va_runV (As := [.int ((up (up (up zS4 0 0 27 (nI zi2)) 0 0 29 (-6)) 0 0 30 (-6)).1 0 19 zi2), .int ((up (up (up zS4 0 0 27 (nI zi2)) 0 0 29 (-6)) 0 0 30 (-6)).1 0 20 zi2), .int ((up (up (up zS4 0 0 27 (nI zi2)) 0 0 29 (-6)) 0 0 30 (-6)).1 0 21 zi2)]) (rest := []) C0 (kX8_happen l g A hA (up (up (up zS4 0 0 27 (nI zi2)) 0 0 29 (-6)) 0 0 30 (-6)) ((up (up (up zS4 0 0 27 (nI zi2)) 0 0 29 (-6)) 0 0 30 (-6)).1 0 19 zi2) ((up (up (up zS4 0 0 27 (nI zi2)) 0 0 29 (-6)) 0 0 30 (-6)).1 0 20 zi2) ((up (up (up zS4 0 0 27 (nI zi2)) 0 0 29 (-6)) 0 0 30 (-6)).1 0 21 zi2) (by simp only [up_row_ne _ _ (show (19 : Nat) ≠ 0 by decide), up_row_ne _ _ (show (20 : Nat) ≠ 0 by decide), hr1, hr2]; exact (hq _ (by omega)).1) (by simp only [up_row_ne _ _ (show (19 : Nat) ≠ 0 by decide), up_row_ne _ _ (show (21 : Nat) ≠ 0 by decide), hr1, hr3]; exact (hq _ (by omega)).2)) (cwV 3 hts (gV q890 q892 q23 q54 q893) rfl rfl rfl (by decide +kernel) ⟨Nat.le_of_ble_eq_true rfl, Nat.le_of_ble_eq_true rfl⟩) (preV (recO (mMain g) hP hK rfl) hP hK) rfl rfl hl.1 rfl (lv_room (Nat.le_of_ble_eq_true rfl)) dX8_goVoyages_112 ⟨Nat.zero_le _, Nat.zero_le _⟩) hS (fun _ h => h) (fun zS11 H locs hw hP hS => ?_)
            have hf := hf.trans (bnd_eq hw)
            refine lv_iinc (v := (nI (zi2 + 1))) (lv' := [(1, .int (nI (zi2 + 1))), (2, .int (tX8_whyNot (up zS4 0 0 27 (nI zi2)) ((up zS4 0 0 27 (nI zi2)).1 0 19 zi2) ((up zS4 0 0 27 (nI zi2)).1 0 20 zi2) ((up zS4 0 0 27 (nI zi2)).1 0 21 zi2))), (0, .ref (g.1 0 0))]) hx hb dX8_goVoyages_115 hl (k := 1) rfl (nI_1 _) (by decide) rfl (fun ls hl => ?_)
            refine lv_goto (tgt := 18) hx hb dX8_goVoyages_118 (by decide) ?_
            exact ih18 (zi2 + 1) zS11 _ _ (by omega) (by first | (rw [hw, happen_sc _ _ _ _ (by decide) (by decide) (by decide) (by decide) (by decide) (by decide) (by decide) (by decide) (by decide)]; simp [up, upd, hi1]) | simp [up, upd, hi1]) (by first | (rw [hw, happen_row _ _ _ _ (by decide) (by decide) (by decide) (by decide)]; simp [up, hr1]) | simp [up, hr1]) (by first | (rw [hw, happen_row _ _ _ _ (by decide) (by decide) (by decide) (by decide)]; simp [up, hr2]) | simp [up, hr2]) (by first | (rw [hw, happen_row _ _ _ _ (by decide) (by decide) (by decide) (by decide)]; simp [up, hr3]) | simp [up, hr3]) hf hP hS ls (lv_sub hl [0, 2] rfl)
        · have hf := hf.trans (if_neg zc8)
          refine lv_iload_n hx hb dX8_goVoyages_66 rfl (lv_at hl 1 rfl) ?_
          refine lv_goto (tgt := 72) hx hb dX8_goVoyages_67 (by decide) ?_
          refine pO (T := TX8) (ty0 := tyX8) locM C0 inA8 tyX8_ok nmX8 hK hP hA hS (mMain g) rfl 29 (by decide) (hts _ q705) rfl 29 (nI zi2) rfl rfl rfl (Nat.le_of_ble_eq_true rfl) dX8_goVoyages_72 (fun H locs hP hS => ?_)
          refine lv_aload_n hx hb dX8_goVoyages_75 rfl (lv_at hl 2 rfl) ?_
          refine lv_iload_n hx hb dX8_goVoyages_76 rfl (lv_at hl 0 rfl) ?_
          refine lv_if_le (tgt := 84) hx hb dX8_goVoyages_77 (by decide) (fun zc12 => absurd zc12 zc8) (fun zc12 => ?_)
          refine lv_iload_n hx hb dX8_goVoyages_80 rfl (lv_at hl 0 rfl) ?_
          refine lv_goto (tgt := 86) hx hb dX8_goVoyages_81 (by decide) ?_
          refine pO (T := TX8) (ty0 := tyX8) locM C0 inA8 tyX8_ok nmX8 hK hP hA hS (mMain g) rfl 30 (by decide) (hts _ q706) rfl 30 (tX8_whyNot (up zS4 0 0 27 (nI zi2)) ((up zS4 0 0 27 (nI zi2)).1 0 19 zi2) ((up zS4 0 0 27 (nI zi2)).1 0 20 zi2) ((up zS4 0 0 27 (nI zi2)).1 0 21 zi2)) rfl rfl rfl (Nat.le_of_ble_eq_true rfl) dX8_goVoyages_86 (fun H locs hP hS => ?_)
          refine lv_iload_n hx hb dX8_goVoyages_89 rfl (lv_at hl 0 rfl) ?_
          refine lv_if_ne (tgt := 115) hx hb dX8_goVoyages_90 (by decide) (fun zc13 => ?_) (fun zc13 => ?_)
          · have hf := hf.trans (if_neg zc13)
            refine lv_iinc (v := (nI (zi2 + 1))) (lv' := [(1, .int (nI (zi2 + 1))), (2, .int (tX8_whyNot (up zS4 0 0 27 (nI zi2)) ((up zS4 0 0 27 (nI zi2)).1 0 19 zi2) ((up zS4 0 0 27 (nI zi2)).1 0 20 zi2) ((up zS4 0 0 27 (nI zi2)).1 0 21 zi2))), (0, .ref (g.1 0 0))]) hx hb dX8_goVoyages_115 hl (k := 1) rfl (nI_1 _) (by decide) rfl (fun ls hl => ?_)
            refine lv_goto (tgt := 18) hx hb dX8_goVoyages_118 (by decide) ?_
            exact ih18 (zi2 + 1) (up (up (up zS4 0 0 27 (nI zi2)) 0 0 29 (nI zi2)) 0 0 30 (tX8_whyNot (up zS4 0 0 27 (nI zi2)) ((up zS4 0 0 27 (nI zi2)).1 0 19 zi2) ((up zS4 0 0 27 (nI zi2)).1 0 20 zi2) ((up zS4 0 0 27 (nI zi2)).1 0 21 zi2))) _ _ (by omega) (by first | (rw [hw, happen_sc _ _ _ _ (by decide) (by decide) (by decide) (by decide) (by decide) (by decide) (by decide) (by decide) (by decide)]; simp [up, upd, hi1]) | simp [up, upd, hi1]) (by first | (rw [hw, happen_row _ _ _ _ (by decide) (by decide) (by decide) (by decide)]; simp [up, hr1]) | simp [up, hr1]) (by first | (rw [hw, happen_row _ _ _ _ (by decide) (by decide) (by decide) (by decide)]; simp [up, hr2]) | simp [up, hr2]) (by first | (rw [hw, happen_row _ _ _ _ (by decide) (by decide) (by decide) (by decide)]; simp [up, hr3]) | simp [up, hr3]) hf hP hS ls (lv_sub hl [0, 2] rfl)
          · have hf := hf.trans (if_pos zc13)
            refine lv_aload_n hx hb dX8_goVoyages_93 rfl (lv_at hl 2 rfl) ?_
            refine lv_aload_n hx hb dX8_goVoyages_94 rfl (lv_at hl 2 rfl) ?_
            refine gO (T := TX8) C0 inA8 hK hP (mMain g) rfl 19 (by decide) (hts _ q695) (v := .ref (g.1 0 19)) rfl dX8_goVoyages_95 ?_
            refine lv_iload_n hx hb dX8_goVoyages_98 rfl (lv_at hl 1 rfl) ?_
            refine gI C0 hK hP (mAct g) (vp_in_nI (by omega) (by decide)) dX8_goVoyages_99 ?_
            rw [nI_clamp (n := zi2) (by omega)]
            refine lv_aload_n hx hb dX8_goVoyages_100 rfl (lv_at hl 2 rfl) ?_
            refine gO (T := TX8) C0 inA8 hK hP (mMain g) rfl 20 (by decide) (hts _ q696) (v := .ref (g.1 0 20)) rfl dX8_goVoyages_101 ?_
            refine lv_iload_n hx hb dX8_goVoyages_104 rfl (lv_at hl 1 rfl) ?_
            refine gI C0 hK hP (mWho g) (vp_in_nI (by omega) (by decide)) dX8_goVoyages_105 ?_
            rw [nI_clamp (n := zi2) (by omega)]
            refine lv_aload_n hx hb dX8_goVoyages_106 rfl (lv_at hl 2 rfl) ?_
            refine gO (T := TX8) C0 inA8 hK hP (mMain g) rfl 21 (by decide) (hts _ q697) (v := .ref (g.1 0 21)) rfl dX8_goVoyages_107 ?_
            refine lv_iload_n hx hb dX8_goVoyages_110 rfl (lv_at hl 1 rfl) ?_
            refine gI C0 hK hP (mMuch g) (vp_in_nI (by omega) (by decide)) dX8_goVoyages_111 ?_
            rw [nI_clamp (n := zi2) (by omega)]
            refine kv (va_runV (As := [.int ((up (up (up zS4 0 0 27 (nI zi2)) 0 0 29 (nI zi2)) 0 0 30 (tX8_whyNot (up zS4 0 0 27 (nI zi2)) ((up zS4 0 0 27 (nI zi2)).1 0 19 zi2) ((up zS4 0 0 27 (nI zi2)).1 0 20 zi2) ((up zS4 0 0 27 (nI zi2)).1 0 21 zi2))).1 0 19 zi2), .int ((up (up (up zS4 0 0 27 (nI zi2)) 0 0 29 (nI zi2)) 0 0 30 (tX8_whyNot (up zS4 0 0 27 (nI zi2)) ((up zS4 0 0 27 (nI zi2)).1 0 19 zi2) ((up zS4 0 0 27 (nI zi2)).1 0 20 zi2) ((up zS4 0 0 27 (nI zi2)).1 0 21 zi2))).1 0 20 zi2), .int ((up (up (up zS4 0 0 27 (nI zi2)) 0 0 29 (nI zi2)) 0 0 30 (tX8_whyNot (up zS4 0 0 27 (nI zi2)) ((up zS4 0 0 27 (nI zi2)).1 0 19 zi2) ((up zS4 0 0 27 (nI zi2)).1 0 20 zi2) ((up zS4 0 0 27 (nI zi2)).1 0 21 zi2))).1 0 21 zi2)]) (rest := []) C0 (kX8_happen l g A hA (up (up (up zS4 0 0 27 (nI zi2)) 0 0 29 (nI zi2)) 0 0 30 (tX8_whyNot (up zS4 0 0 27 (nI zi2)) ((up zS4 0 0 27 (nI zi2)).1 0 19 zi2) ((up zS4 0 0 27 (nI zi2)).1 0 20 zi2) ((up zS4 0 0 27 (nI zi2)).1 0 21 zi2))) ((up (up (up zS4 0 0 27 (nI zi2)) 0 0 29 (nI zi2)) 0 0 30 (tX8_whyNot (up zS4 0 0 27 (nI zi2)) ((up zS4 0 0 27 (nI zi2)).1 0 19 zi2) ((up zS4 0 0 27 (nI zi2)).1 0 20 zi2) ((up zS4 0 0 27 (nI zi2)).1 0 21 zi2))).1 0 19 zi2) ((up (up (up zS4 0 0 27 (nI zi2)) 0 0 29 (nI zi2)) 0 0 30 (tX8_whyNot (up zS4 0 0 27 (nI zi2)) ((up zS4 0 0 27 (nI zi2)).1 0 19 zi2) ((up zS4 0 0 27 (nI zi2)).1 0 20 zi2) ((up zS4 0 0 27 (nI zi2)).1 0 21 zi2))).1 0 20 zi2) ((up (up (up zS4 0 0 27 (nI zi2)) 0 0 29 (nI zi2)) 0 0 30 (tX8_whyNot (up zS4 0 0 27 (nI zi2)) ((up zS4 0 0 27 (nI zi2)).1 0 19 zi2) ((up zS4 0 0 27 (nI zi2)).1 0 20 zi2) ((up zS4 0 0 27 (nI zi2)).1 0 21 zi2))).1 0 21 zi2) (by simp only [up_row_ne _ _ (show (19 : Nat) ≠ 0 by decide), up_row_ne _ _ (show (20 : Nat) ≠ 0 by decide), hr1, hr2]; exact (hq _ (by omega)).1) (by simp only [up_row_ne _ _ (show (19 : Nat) ≠ 0 by decide), up_row_ne _ _ (show (21 : Nat) ≠ 0 by decide), hr1, hr3]; exact (hq _ (by omega)).2)) (cwV 3 hts (gV q890 q892 q23 q54 q893) rfl rfl rfl (by decide +kernel) ⟨Nat.le_of_ble_eq_true rfl, Nat.le_of_ble_eq_true rfl⟩) (preV (recO (mMain g) hP hK rfl) hP hK) rfl rfl hl.1 rfl (lv_room (Nat.le_of_ble_eq_true rfl)) dX8_goVoyages_112 ⟨Nat.zero_le _, Nat.zero_le _⟩) hS (fun _ h => h) (fun zS14 H locs hw hP hS => ?_)
            have hf := hf.trans (bnd_eq hw)
            refine lv_iinc (v := (nI (zi2 + 1))) (lv' := [(1, .int (nI (zi2 + 1))), (2, .int (tX8_whyNot (up zS4 0 0 27 (nI zi2)) ((up zS4 0 0 27 (nI zi2)).1 0 19 zi2) ((up zS4 0 0 27 (nI zi2)).1 0 20 zi2) ((up zS4 0 0 27 (nI zi2)).1 0 21 zi2))), (0, .ref (g.1 0 0))]) hx hb dX8_goVoyages_115 hl (k := 1) rfl (nI_1 _) (by decide) rfl (fun ls hl => ?_)
            refine lv_goto (tgt := 18) hx hb dX8_goVoyages_118 (by decide) ?_
            exact ih18 (zi2 + 1) zS14 _ _ (by omega) (by first | (rw [hw, happen_sc _ _ _ _ (by decide) (by decide) (by decide) (by decide) (by decide) (by decide) (by decide) (by decide) (by decide)]; simp [up, upd, hi1]) | simp [up, upd, hi1]) (by first | (rw [hw, happen_row _ _ _ _ (by decide) (by decide) (by decide) (by decide)]; simp [up, hr1]) | simp [up, hr1]) (by first | (rw [hw, happen_row _ _ _ _ (by decide) (by decide) (by decide) (by decide)]; simp [up, hr2]) | simp [up, hr2]) (by first | (rw [hw, happen_row _ _ _ _ (by decide) (by decide) (by decide) (by decide)]; simp [up, hr3]) | simp [up, hr3]) hf hP hS ls (lv_sub hl [0, 2] rfl)
  exact lp18 (Int32.toNatClampNeg (S.1 0 0 22)) 0 (up (up zS1 0 0 29 (-6)) 0 0 30 (-6)) _ _ (Nat.zero_add _) (by rw [hw]; simp [tX8_beginCount, up, upd]) (by rw [hw]; simp [tX8_beginCount, up]) (by rw [hw]; simp [tX8_beginCount, up]) (by rw [hw]; simp [tX8_beginCount, up]) hf hP hS ls (lv_sub hl [0, 1] rfl)
theorem keep43_row {b : Nat} (h : b ≠ 28) (S0 : St) : ∀ (k i : Nat) (S : St), (LX8_keepNow_43 S0 k i S).1 0 b = S.1 0 b := by
  intro k
  induction k with
  | zero => intro i S; rw [LX8_keepNow_43]; simp only [bnd_def, up_row_ne _ _ h]
  | succ k ih => intro i S; rw [LX8_keepNow_43, ih]; simp only [up_row_ne _ _ h]
theorem keep2_row {b : Nat} (h : b ≠ 28) (S0 : St) : ∀ (k i : Nat) (S : St), (LX8_keepNow_2 S0 k i S).1 0 b = S.1 0 b := by
  intro k
  induction k with
  | zero => intro i S; rw [LX8_keepNow_2]; exact keep43_row h S0 _ _ _
  | succ k ih => intro i S; rw [LX8_keepNow_2, ih]; simp only [up_row_ne _ _ h]
theorem keep_row {b : Nat} (h : b ≠ 28) (S : St) : (tX8_keepNow S).1 0 b = S.1 0 b := keep2_row h S _ _ _
def gAct (S : St) (j : Nat) : Prop := vp_in (S.1 0 20 j) 6 ∧ (S.1 0 19 j = 0 → wi (S.1 0 21 j) 0 2)
def gSt (due : Int32) (S : St) (n : Nat) : Prop := S.1 0 0 22 = nI n ∧ (∀ j, j < n → gAct S j) ∧ (¬ due = 0 → vp_in (S.1 0 20 n) 6)
theorem gAct_up {S : St} {n j b : Nat} (v : Int32) (hj : j ≠ n) (h : gAct S j) : gAct (up S 0 b n v) j := by
  have e : ∀ c, (up S 0 b n v).1 0 c j = S.1 0 c j := by
    intro c
    by_cases hc : c = b
    · subst hc; rw [up_row]; exact pk_un hj
    · rw [up_row_ne S v hc]
  unfold gAct
  rw [e, e, e]
  exact h
theorem gAct_sc {S : St} {j k : Nat} (v : Int32) (h : gAct S j) : gAct (up S 0 0 k v) j := by
  unfold gAct
  rw [up_row_ne S v (show (20 : Nat) ≠ 0 by decide), up_row_ne S v (show (19 : Nat) ≠ 0 by decide), up_row_ne S v (show (21 : Nat) ≠ 0 by decide)]
  exact h
theorem close_g {S : St} {n : Nat} (hn : n < 60) (p1 p2 : Int32) (h0 : S.1 0 0 22 = nI n) (h1 : ∀ j, j < n → gAct S j) (h2 : vp_in (S.1 0 20 n) 6) (h3 : p1 = 0 → wi p2 0 2) : gSt 0 (tX8_close S p1 p2).2 (n + 1) := by
  have ec : ((nI n).toNatClampNeg) = n := nI_clamp (by omega)
  have et : (tX8_close S p1 p2).2 = up (up (up S 0 19 n p1) 0 21 n p2) 0 0 22 (nI n + 1) := by
    unfold tX8_close
    simp only [bnd_def]
    rw [up_row_ne _ _ (show (0 : Nat) ≠ 21 by decide), up_row_ne _ _ (show (0 : Nat) ≠ 19 by decide), h0, ec]
  rw [et]
  refine ⟨by rw [up_at, nI_1], fun j hj => ?_, fun h => absurd rfl h⟩
  apply gAct_sc
  by_cases hjn : j = n
  · subst hjn
    refine ⟨?_, ?_⟩
    · rw [up_row_ne _ _ (show (20 : Nat) ≠ 21 by decide), up_row_ne _ _ (show (20 : Nat) ≠ 19 by decide)]; exact h2
    · rw [up_row_ne _ _ (show (19 : Nat) ≠ 21 by decide), up_at, up_at]; exact h3
  · exact gAct_up _ hjn (gAct_up _ hjn (h1 j (by omega)))
theorem let_in {x : Int32} (h : wj (Int32.toInt64 x) 65 70) : vp_in (x - 65) 6 := by
  obtain ⟨h1, h2⟩ := wj_ti h
  have e1 : (65 : Int64).toInt = 65 := by decide
  have e2 : (70 : Int64).toInt = 70 := by decide
  rw [e1] at h1
  rw [e2] at h2
  obtain ⟨j, hj, rfl⟩ := nI_of (x := x) (by rw [Int32.lt_iff_toInt_lt, ti0]; omega)
  rw [nI_toInt hj] at h1 h2
  rw [show (65 : Int32) = nI 65 from rfl, pk_sub (by omega)]
  exact vp_in_nI (by omega) (by decide)
theorem dig_in {x : Int32} (h : wj (Int32.toInt64 x) 48 50) : wi (x - 48) 0 2 := by
  obtain ⟨h1, h2⟩ := wj_ti h
  have e1 : (48 : Int64).toInt = 48 := by decide
  have e2 : (50 : Int64).toInt = 50 := by decide
  rw [e1] at h1
  rw [e2] at h2
  obtain ⟨j, hj, rfl⟩ := nI_of (x := x) (by rw [Int32.lt_iff_toInt_lt, ti0]; omega)
  rw [nI_toInt hj] at h1 h2
  rw [show (48 : Int32) = nI 48 from rfl, pk_sub (by omega)]
  exact ⟨nI_pos' (by omega), (nI_leI (b := 2) (by omega) (by decide)).mpr (by omega)⟩
theorem readOn_g {S : St} {n : Nat} (hn : n < 60) (due c : Int32) (h : gSt due S n) : ∃ n', n' ≤ n + 1 ∧ gSt (tX8_readOn S due c).1 (tX8_readOn S due c).2 n' := by
  obtain ⟨h0, h1, h2⟩ := h
  have ec : ((nI n).toNatClampNeg) = n := nI_clamp (by omega)
  have hz : vp_in 0 6 := vp_in_nI (n := 0) (by decide) (by decide)
  have up20 : ∀ v, ∀ j, j < n → gAct (up S 0 20 n v) j := fun v j hj => gAct_up v (by omega) (h1 j hj)
  have a20 : ∀ v, (up S 0 20 n v).1 0 0 22 = nI n := fun v => by rw [up_row_ne _ _ (show (0 : Nat) ≠ 20 by decide)]; exact h0
  unfold tX8_readOn
  simp only [bnd_def, close_r]
  rw [h0, ec]
  split
  · split
    · rename_i hl
      exact ⟨n, by omega, a20 _, up20 _, fun _ => by rw [up_at]; exact let_in hl⟩
    · split
      · exact ⟨n + 1, by omega, close_g hn 5 0 (a20 _) (up20 _) (by rw [up_at]; exact hz) (fun h => absurd h (by decide))⟩
      · exact ⟨n, by omega, a20 _, up20 _, fun _ => by rw [up_at]; exact hz⟩
  · rename_i hd
    have h3 := h2 hd
    split
    · split
      · rename_i hc
        exact ⟨n + 1, by omega, close_g hn 0 _ h0 h1 h3 (fun _ => dig_in hc)⟩
      · exact ⟨n, by omega, h0, h1, fun _ => h3⟩
    · split
      · split
        · exact ⟨n + 1, by omega, close_g hn 1 _ h0 h1 h3 (fun h => absurd h (by decide))⟩
        · exact ⟨n, by omega, h0, h1, fun _ => h3⟩
      · repeat' split
        all_goals first
          | exact ⟨n, by omega, h0, h1, fun _ => h3⟩
          | exact ⟨n + 1, by omega, close_g hn 2 _ h0 h1 h3 (fun h => absurd h (by decide))⟩
          | exact ⟨n + 1, by omega, close_g hn 3 _ h0 h1 h3 (fun h => absurd h (by decide))⟩
          | exact ⟨n + 1, by omega, close_g hn 4 _ h0 h1 h3 (fun h => absurd h (by decide))⟩
theorem gSt_ac {due : Int32} {S : St} {n : Nat} (h : gSt due S n) : (S.1 0 0 22) = nI n := h.1
theorem fault_g (S0 : St) (hp : wi (S0.1 0 0 18) 0 60) : ∀ (k i : Nat) (due : Int32) (S : St) (n : Nat), i + k = (S0.1 0 0 18).toNatClampNeg → n ≤ i → gSt due S n → ∃ (d' : Int32) (n' : Nat), n' ≤ 60 ∧ gSt d' (LX8_fault_9 S0 k i due S).2 n' := by
  have hcl : (S0.1 0 0 18).toNatClampNeg ≤ 60 := wi_cl (n := 60) hp rfl (by decide)
  intro k
  induction k with
  | zero =>
    intro i due S n hik hni h
    rw [LX8_fault_9]
    split <;> exact ⟨due, n, by omega, h⟩
  | succ k ih =>
    intro i due S n hik hni h
    rw [LX8_fault_9]
    simp only [bnd_def]
    obtain ⟨n', hle, hg⟩ := readOn_g (n := n) (by omega) due (S.1 0 17 i) h
    split
    · exact ih (i + 1) _ _ n' (by omega) (by omega) hg
    · exact ⟨_, n', by omega, hg⟩
theorem fault_ok (S : St) (hp : wi (S.1 0 0 18) 0 60) : wi ((tX8_fault S).2.1 0 0 22) 0 60 ∧ ∀ j, j < ((tX8_fault S).2.1 0 0 22).toNatClampNeg → (¬ (tX8_fault S).2.1 0 19 j = 5 → vp_in ((tX8_fault S).2.1 0 20 j) 6) ∧ ((tX8_fault S).2.1 0 19 j = 0 → wi ((tX8_fault S).2.1 0 21 j) 0 2) := by
  obtain ⟨d', n', hn, h0, h1, h2⟩ := fault_g S hp _ 0 0 (up S 0 0 22 0) 0 (Nat.zero_add _) (Nat.le_refl _) ⟨by rw [up_at]; rfl, fun j hj => absurd hj (Nat.not_lt_zero _), fun h => absurd rfl h⟩
  have e : tX8_fault S = LX8_fault_9 S (Int32.toNatClampNeg (S.1 0 0 18)) 0 0 (up S 0 0 22 0) := rfl
  rw [e, h0, nI_clamp (by omega)]
  exact ⟨(wi_nI (i := 60) (by decide)).mpr ⟨n', hn, rfl⟩, fun j hj => ⟨fun _ => (h1 j hj).1, (h1 j hj).2⟩⟩
theorem keep_pad {S : St} (hp : wi (S.1 0 0 18) 0 60) : wi ((tX8_keepNow S).1 0 0 18) 0 60 := by rw [keep_row (by decide)]; exact hp
