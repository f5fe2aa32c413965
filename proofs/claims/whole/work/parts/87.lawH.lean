set_option maxHeartbeats 4000000 in
set_option maxRecDepth 100000 in
/-- the law, from its entry -/
theorem whole_start {p : Program} {e : Env} {s : State} {m : MethodId} {below : List Frame} {meth : Method} {c : Code} (l : Launch) (hflags : l.flags = flags0) {b L : Nat} {xs : Nat → Int32} (hL : L ≤ 3072) (C0 : lw_At p s m meth c b L xs) : W p l e room_1 s m #[Value.ref b] below meth c s.heap [] 0 0 (lw_Z below #[Value.ref b] s) (entryFrame m ([Value.ref b] : List Value).toArray 4) := by
  obtain ⟨hx, hb, hr, hml, hown, hts, hX, hbl, hlocks, hgv⟩ := id C0
  have hA : ∀ q : Nat, s.heap.size ≤ q → (fun q : Nat => s.heap.size ≤ q) q := fun _ h => h
  have htA : ∀ w ∈ lw_all, w.before #[Value.ref b] s = true := fun w h => hts w (lw_all_tbl h)
  have hown : s.vm.findClass RL = some m.cls := hown
  have C1 : CallFix p m c cL_law 4 s #[Value.ref b] lw_all RL := ⟨hx, hb, hml, hown, htA⟩
  obtain ⟨g0, hKC⟩ := law_KC hts
  obtain ⟨g, hg⟩ : ∃ g : Gd, g = ((fun _ _ => 0), g0) := ⟨_, rfl⟩
  have hK0 : KC g s := by rw [hg]; exact hKC _
  have hg2 : g.2 = g0 := by rw [hg]
  have hS : va_S (fun q : Nat => s.heap.size ≤ q) s.heap s.heap [] := va_S.rf
  have hP : va_P g.2.1 vwCl [] s.heap := fun k q h => by simp at h
  have hD : va_D (fun q : Nat => s.heap.size ≤ q) [] := ⟨fun i j p q h => by simp at h, fun k q h => by simp at h⟩
  have hl := lv_entry ([.ref b]) (n := 4) (Nat.le_of_ble_eq_true rfl)
  rw [lg_entry_eq]
  generalize (lg_sl ([.ref b]) ++ List.replicate (4 - (lg_sl ([.ref b])).length) Slot.unset).toArray = ls at hl ⊢
  have hl : lv_has ls 4 [(0, .ref b)] := hl
  refine va_new (ci := 7) (fs := [.null, .null, .null, .null, .null, .null, .null, .null]) (C := RX7) (T := TX7) (N := 8) hx hb htA inA7 tyX7 tyX7_ok hown (htA _ q57) (htA _ q58) (htA _ q46) hK0.1.1 hP hD hS hA rfl (fun j hj => by rcases (show j = 0 ∨ j = 1 ∨ j = 2 ∨ j = 3 ∨ j = 4 ∨ j = 5 ∨ j = 6 ∨ j = 7 by omega) with rfl | rfl | rfl | rfl | rfl | rfl | rfl | rfl <;> rfl) (Nat.le_of_ble_eq_true rfl) (Nat.le_of_ble_eq_true rfl) dL_law_0 (fun qX H hP hD hS => ?_)
  have hP : va_P g.2.1 vwCl [(qX, .inr (7, [.null, .null, .null, .null, .null, .null, .null, .null]))] H := hP
  have hD : va_D (fun q : Nat => s.heap.size ≤ q) [(qX, .inr (7, [.null, .null, .null, .null, .null, .null, .null, .null]))] := hD
  refine lv_dup hx hb dL_law_3 rfl ?_
  have hFc := va_free (wc := [(qX, .inr (7, [.null, .null, .null, .null, .null, .null, .null, .null]))]) hD hS hA [0] rfl
  refine va_callv (va_runI (As := []) (rest := [.ref qX]) C1 (kX7_init l g qX H.size) (cwI 0 htA (gU q61) rfl rfl rfl (htA _ q46) (htA _ q59) (htA _ q60) rfl (by decide +kernel) ⟨Nat.le_of_ble_eq_true rfl, Nat.le_of_ble_eq_true rfl⟩) (preC hP rfl hK0) rfl rfl hl.1 rfl (lv_room (Nat.le_of_ble_eq_true rfl)) dL_law_4 ⟨Nat.le_of_ble_eq_true rfl, Nat.le_of_ble_eq_true rfl⟩) hS (fun q _ h => hFc q h) hFc (fun adX t H1 locs1 ht hvm hw1 hB hz1 hk1 hS1 => ?_)
  obtain ⟨hPX, hAX, -⟩ := hB
  rw [ht] at hPX
  have hw1 : adX 12 0 = qX := hw1
  have aX : Ads adX VX (fun q : Nat => s.heap.size ≤ q) := ⟨hAX.1, hAX.2.1, fun k hk => hFc _ (hAX.2.2 k hk)⟩
  refine lv_astore_n (lv' := [(1, .ref qX), (0, .ref b)]) hx hb dL_law_7 rfl hl (by decide) rfl (fun ls hl => ?_)
  have hD1 : va_D (fun q : Nat => s.heap.size ≤ q) (wl adX VX (ctX (adX, g.2) S0X)) := aX.D _
  have hP1 : va_P g.2.1 vwCl (wl adX VX (ctX (adX, g.2) S0X)) H1 := hPX
  refine va_new (ci := 8) (fs := [.int 0, .int 0, .null, .null, .null, .null, .null, .int 0, .int 0, .int 0, .int 0, .int 0, .int 0, .null, .null, .null, .int 0, .null, .int 0, .null, .null, .null, .int 0, .int 0, .int 0, .int 0, .int 0, .int 0, .null, .int 0, .int 0, .null, .null, .int 0, .null, .null, .null, .int 0, .int 0]) (C := RX8) (T := TX8) (N := 39) hx hb htA inA8 tyX8 tyX8_ok hown (htA _ q670) (htA _ q671) (htA _ q54) hK0.1.1 hP1 hD1 hS1 hA rfl (fun j hj => by rcases (show j = 0 ∨ j = 1 ∨ j = 2 ∨ j = 3 ∨ j = 4 ∨ j = 5 ∨ j = 6 ∨ j = 7 ∨ j = 8 ∨ j = 9 ∨ j = 10 ∨ j = 11 ∨ j = 12 ∨ j = 13 ∨ j = 14 ∨ j = 15 ∨ j = 16 ∨ j = 17 ∨ j = 18 ∨ j = 19 ∨ j = 20 ∨ j = 21 ∨ j = 22 ∨ j = 23 ∨ j = 24 ∨ j = 25 ∨ j = 26 ∨ j = 27 ∨ j = 28 ∨ j = 29 ∨ j = 30 ∨ j = 31 ∨ j = 32 ∨ j = 33 ∨ j = 34 ∨ j = 35 ∨ j = 36 ∨ j = 37 ∨ j = 38 by omega) with rfl | rfl | rfl | rfl | rfl | rfl | rfl | rfl | rfl | rfl | rfl | rfl | rfl | rfl | rfl | rfl | rfl | rfl | rfl | rfl | rfl | rfl | rfl | rfl | rfl | rfl | rfl | rfl | rfl | rfl | rfl | rfl | rfl | rfl | rfl | rfl | rfl | rfl | rfl <;> rfl) (Nat.le_of_ble_eq_true rfl) (Nat.le_of_ble_eq_true rfl) dL_law_8 (fun qM H2 hP2 hD2 hS2 => ?_)
  have hPX2 : HW VX ctX (adX, g.2) S0X H2 := va_Pl hP2
  have hPm := va_Pr hP2
  have hDm := va_Dr hD2
  refine lv_dup hx hb dL_law_11 rfl ?_
  have hFm := va_free (wc := [(qM, .inr (8, [.int 0, .int 0, .null, .null, .null, .null, .null, .int 0, .int 0, .int 0, .int 0, .int 0, .int 0, .null, .null, .null, .int 0, .null, .int 0, .null, .null, .null, .int 0, .int 0, .int 0, .int 0, .int 0, .int 0, .null, .int 0, .int 0, .null, .null, .int 0, .null, .null, .null, .int 0, .int 0]))]) hDm hS2 hA [0] rfl
  refine va_callv (va_runI (As := []) (rest := [.ref qM]) C1 (kX8_init l g qM H2.size) (cwI 0 htA (gU q674) rfl rfl rfl (htA _ q54) (htA _ q672) (htA _ q673) rfl (by decide +kernel) ⟨Nat.le_of_ble_eq_true rfl, Nat.le_of_ble_eq_true rfl⟩) (preC hPm rfl hK0) rfl rfl hl.1 rfl (lv_room (Nat.le_of_ble_eq_true rfl)) dL_law_12 ⟨Nat.le_of_ble_eq_true rfl, Nat.le_of_ble_eq_true rfl⟩) hS2 (fun q _ h => hFm q h) hFm (fun adM t2 H3 locs3 ht2 hvm2 hw2 hB2 hz2 hk2 hS3 => ?_)
  obtain ⟨hPM, hAM, -⟩ := hB2
  rw [ht2] at hPM
  have hw2 : adM 0 0 = qM := hw2
  have aM : Ads adM VM (fun q : Nat => s.heap.size ≤ q) := ⟨hAM.1, hAM.2.1, fun k hk => hFm _ (hAM.2.2 k hk)⟩
  have hold : ∀ k ∈ VX, adX k.1 k.2 < H2.size ∧ ¬ adX k.1 k.2 = qM := fun k hk => by
    obtain ⟨n, hn⟩ := List.getElem?_of_mem hk
    have h1 := wl_at (ad := adX) (ct := ctX (adX, g.2) S0X) (show VX[n]? = some (k.1, k.2) from hn)
    exact ⟨(hPX2 n _ h1).lt, va_Dx hD2 h1⟩
  have hnot : ∀ k ∈ VX, ¬ va_A [(qM, .inr (8, [.int 0, .int 0, .null, .null, .null, .null, .null, .int 0, .int 0, .int 0, .int 0, .int 0, .int 0, .null, .null, .null, .int 0, .null, .int 0, .null, .null, .null, .int 0, .int 0, .int 0, .int 0, .int 0, .int 0, .null, .int 0, .int 0, .null, .null, .int 0, .null, .null, .null, .int 0, .int 0]))] H2.size (adX k.1 k.2) := fun k hk q => by
    obtain ⟨h1, h2⟩ := hold k hk
    rcases q with ⟨n, x, hq⟩ | hq
    · have hn : n < 1 := (List.getElem?_eq_some_iff.mp hq).1
      rw [show n = 0 by omega] at hq
      have hq := (Prod.mk.inj (Option.some.inj hq)).1
      exact h2 hq.symm
    · omega
  have hPX3 : HW VX ctX (adX, g.2) S0X H3 := HW.kept (g := (adX, g.2)) (A1 := va_A [(qM, .inr (8, [.int 0, .int 0, .null, .null, .null, .null, .null, .int 0, .int 0, .int 0, .int 0, .int 0, .int 0, .null, .null, .null, .int 0, .null, .int 0, .null, .null, .null, .int 0, .int 0, .int 0, .int 0, .int 0, .int 0, .null, .int 0, .int 0, .null, .null, .int 0, .null, .null, .null, .int 0, .int 0]))] H2.size) hPX2 hk2 hnot
  have hdis : ∀ k ∈ VX, ∀ k' ∈ VM, ¬ adX k.1 k.2 = adM k'.1 k'.2 := fun k hk k' hk' q => hnot k hk (by rw [q]; exact hAM.2.2 k' hk')
  rw [hg2] at hPX3 hPM
  have hw : lw_Two s adX adM g0 := ⟨aX, aM, hdis, (hKC adX).1, (hKC adM).1⟩
  refine lv_astore_n (lv' := [(2, .ref qM), (1, .ref qX), (0, .ref b)]) hx hb dL_law_15 rfl hl (by decide) rfl (fun ls hl => ?_)
  refine lv_iconst (v := 0) hx hb dL_law_16 (by decide) ?_
  refine lv_istore_n (lv' := [(3, .int 0), (2, .ref qM), (1, .ref qX), (0, .ref b)]) hx hb dL_law_17 rfl hl (by decide) rfl (fun ls hl => ?_)
  refine W.widen (k := 99) (n := 1330) (Nat.le_of_ble_eq_true rfl) (Nat.le_of_ble_eq_true rfl) ?_
  have hl : lv_has ls 4 [(0, .ref b), (1, .ref (adX 12 0)), (2, .ref (adM 0 0)), (3, .int (nI 0))] := by
    rw [hw1, hw2]
    exact lv_sub hl [3, 2, 1, 0] rfl
  exact law_loop hL C0 hw (L + 1) 0 (Nat.zero_le L) (by omega) ls hl S0X S0M _ _ rel0 hPX3 hPM hS3
