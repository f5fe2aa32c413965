set_option maxHeartbeats 4000000 in
theorem LK_0 {p : Program} {l : Launch} {e : Env} {s : State} {m : MethodId} {below : List Frame} {meth : Method} {c : Code} {b L : Nat} {xs : Nat → Int32} (hL : L ≤ 3072) (C0 : lw_At p s m meth c b L xs) {adX adM : Nat → Nat → Nat} {g0 : va_G × (Nat → ClassId)} (hw : lw_Two s adX adM g0) {i : Nat} (hi : i + 6 ≤ L) {ls : Array Slot} (hl : lv_has ls 4 [(0, .ref b), (1, .ref (adX 12 0)), (2, .ref (adM 0 0)), (3, .int (nI i))]) (kk : lw_On p l e s m below meth c b adX adM g0 ls 1060) : lw_On p l e s m below meth c b adX adM g0 ls 164 := by
  intro S M H locs hR hPX hPM hS
  obtain ⟨hx, hb, hr, hml, hown, hts, hX, hbl, hlocks, hgv⟩ := id C0
  obtain ⟨aX, aM, hdis, hKX, hKM⟩ := id hw
  have hbA : ¬ (fun q : Nat => s.heap.size ≤ q) b := Nat.not_le.mpr hbl
  have htA : ∀ w ∈ lw_all, w.before #[Value.ref b] s = true := fun w h => hts w (lw_all_tbl h)
  have C1 : CallFix p m c cL_law 4 s #[Value.ref b] lw_all RL := ⟨hx, hb, hml, hown, htA⟩
  have dX : ∀ k ∈ VM, ¬ AdS adX VX (adM k.1 k.2) := fun k hk q => by obtain ⟨a, ha, h⟩ := q; exact hdis a ha k hk h
  have dM : ∀ k ∈ VX, ¬ AdS adM VM (adX k.1 k.2) := fun k hk q => by obtain ⟨a, ha, h⟩ := q; exact hdis k hk a ha h.symm
  refine lv_aload_n hx hb dL_law_164 rfl (lv_at hl 1 rfl) ?_
  refine lwA hx hb hX hbl hbA hS hl 1 (by omega) hL dL_law_165 dL_law_166 dL_law_167 (by decide) dL_law_168 dL_law_169 ?_
  refine lwA hx hb hX hbl hbA hS hl 2 (by omega) hL dL_law_170 dL_law_171 dL_law_172 (by decide) dL_law_173 dL_law_174 ?_
  refine lwA hx hb hX hbl hbA hS hl 3 (by omega) hL dL_law_175 dL_law_176 dL_law_177 (by decide) dL_law_178 dL_law_179 ?_
  refine lwA hx hb hX hbl hbA hS hl 4 (by omega) hL dL_law_180 dL_law_181 dL_law_182 (by decide) dL_law_183 dL_law_184 ?_
  refine lci (va_runV (As := [.int (xs (i + 1)), .int (xs (i + 2)), .int (xs (i + 3)), .int (xs (i + 4))]) (rest := []) C1 (kX7_ship l (adX, g0) (AdS (adX, g0).1 VX) aX.S S (xs (i + 1)) (xs (i + 2)) (xs (i + 3)) (xs (i + 4)) ) (cwV 4 htA (gV q289 q290 q291 q46 q292) rfl rfl rfl (by decide +kernel) ⟨Nat.le_of_ble_eq_true rfl, Nat.le_of_ble_eq_true rfl⟩) (preV (recO (xMain (adX, g0)) hPX hKX rfl) hPX hKX) rfl rfl hl.1 rfl (lv_room (Nat.le_of_ble_eq_true rfl)) dL_law_185 ⟨Nat.le_of_ble_eq_true rfl, Nat.le_of_ble_eq_true rfl⟩) hS (Ads.A aX) hPM dX (fun r1 S1 H1 locs1 hw1 hPX1 hPM1 hS1 => ?_)
  try dsimp only at hw1
  refine lv_aload_n hx hb dL_law_188 rfl (lv_at hl 2 rfl) ?_
  refine lwA hx hb hX hbl hbA hS1 hl 1 (by omega) hL dL_law_189 dL_law_190 dL_law_191 (by decide) dL_law_192 dL_law_193 ?_
  refine lwA hx hb hX hbl hbA hS1 hl 2 (by omega) hL dL_law_194 dL_law_195 dL_law_196 (by decide) dL_law_197 dL_law_198 ?_
  refine lwA hx hb hX hbl hbA hS1 hl 3 (by omega) hL dL_law_199 dL_law_200 dL_law_201 (by decide) dL_law_202 dL_law_203 ?_
  refine lwA hx hb hX hbl hbA hS1 hl 4 (by omega) hL dL_law_204 dL_law_205 dL_law_206 (by decide) dL_law_207 dL_law_208 ?_
  refine lci (va_runV (As := [.int (xs (i + 1)), .int (xs (i + 2)), .int (xs (i + 3)), .int (xs (i + 4))]) (rest := [.int r1]) C1 (kX8_ship l (adM, g0) (AdS (adM, g0).1 VM) aM.S M (xs (i + 1)) (xs (i + 2)) (xs (i + 3)) (xs (i + 4)) ) (cwV 4 htA (gV q794 q795 q796 q54 q797) rfl rfl rfl (by decide +kernel) ⟨Nat.le_of_ble_eq_true rfl, Nat.le_of_ble_eq_true rfl⟩) (preV (recO (mMain (adM, g0)) hPM1 hKM rfl) hPM1 hKM) rfl rfl hl.1 rfl (lv_room (Nat.le_of_ble_eq_true rfl)) dL_law_209 ⟨Nat.le_of_ble_eq_true rfl, Nat.le_of_ble_eq_true rfl⟩) hS1 (Ads.A aM) hPX1 dM (fun r2 M1 H2 locs2 hw2 hPM2 hPX2 hS2 => ?_)
  try dsimp only at hw2
  have hE := E_ship hR (xs (i + 1)) (xs (i + 2)) (xs (i + 3)) (xs (i + 4))
  obtain ⟨e1, f1⟩ := hw1
  obtain ⟨e2, f2⟩ := hw2
  subst e1 f1 e2 f2
  have hq := hE.1
  refine lv_icmp_eq (tgt := 1060) hx hb dL_law_212 (by decide) (fun _ => ?_) (fun hne => absurd hq hne)
  exact kk _ _ _ _ hE.2 hPX2 hPM2 hS2
set_option maxHeartbeats 4000000 in
theorem LK_1 {p : Program} {l : Launch} {e : Env} {s : State} {m : MethodId} {below : List Frame} {meth : Method} {c : Code} {b L : Nat} {xs : Nat → Int32} (hL : L ≤ 3072) (C0 : lw_At p s m meth c b L xs) {adX adM : Nat → Nat → Nat} {g0 : va_G × (Nat → ClassId)} (hw : lw_Two s adX adM g0) {i : Nat} (hi : i + 6 ≤ L) {ls : Array Slot} (hl : lv_has ls 4 [(0, .ref b), (1, .ref (adX 12 0)), (2, .ref (adM 0 0)), (3, .int (nI i))]) (kk : lw_On p l e s m below meth c b adX adM g0 ls 1060) : lw_On p l e s m below meth c b adX adM g0 ls 217 := by
  intro S M H locs hR hPX hPM hS
  obtain ⟨hx, hb, hr, hml, hown, hts, hX, hbl, hlocks, hgv⟩ := id C0
  obtain ⟨aX, aM, hdis, hKX, hKM⟩ := id hw
  have hbA : ¬ (fun q : Nat => s.heap.size ≤ q) b := Nat.not_le.mpr hbl
  have htA : ∀ w ∈ lw_all, w.before #[Value.ref b] s = true := fun w h => hts w (lw_all_tbl h)
  have C1 : CallFix p m c cL_law 4 s #[Value.ref b] lw_all RL := ⟨hx, hb, hml, hown, htA⟩
  have dX : ∀ k ∈ VM, ¬ AdS adX VX (adM k.1 k.2) := fun k hk q => by obtain ⟨a, ha, h⟩ := q; exact hdis a ha k hk h
  have dM : ∀ k ∈ VX, ¬ AdS adM VM (adX k.1 k.2) := fun k hk q => by obtain ⟨a, ha, h⟩ := q; exact hdis k hk a ha h.symm
  refine lv_aload_n hx hb dL_law_217 rfl (lv_at hl 1 rfl) ?_
  refine lwA hx hb hX hbl hbA hS hl 1 (by omega) hL dL_law_218 dL_law_219 dL_law_220 (by decide) dL_law_221 dL_law_222 ?_
  refine lci (va_runV (As := [.int (xs (i + 1))]) (rest := []) C1 (kX7_sell l (adX, g0) (AdS (adX, g0).1 VX) aX.S S (xs (i + 1)) ) (cwV 1 htA (gV q323 q324 q325 q46 q326) rfl rfl rfl (by decide +kernel) ⟨Nat.le_of_ble_eq_true rfl, Nat.le_of_ble_eq_true rfl⟩) (preV (recO (xMain (adX, g0)) hPX hKX rfl) hPX hKX) rfl rfl hl.1 rfl (lv_room (Nat.le_of_ble_eq_true rfl)) dL_law_223 ⟨Nat.le_of_ble_eq_true rfl, Nat.le_of_ble_eq_true rfl⟩) hS (Ads.A aX) hPM dX (fun r1 S1 H1 locs1 hw1 hPX1 hPM1 hS1 => ?_)
  try dsimp only at hw1
  refine lv_aload_n hx hb dL_law_226 rfl (lv_at hl 2 rfl) ?_
  refine lwA hx hb hX hbl hbA hS1 hl 1 (by omega) hL dL_law_227 dL_law_228 dL_law_229 (by decide) dL_law_230 dL_law_231 ?_
  refine lci (va_runV (As := [.int (xs (i + 1))]) (rest := [.int r1]) C1 (kX8_sell l (adM, g0) (AdS (adM, g0).1 VM) aM.S M (xs (i + 1)) ) (cwV 1 htA (gV q808 q809 q810 q54 q811) rfl rfl rfl (by decide +kernel) ⟨Nat.le_of_ble_eq_true rfl, Nat.le_of_ble_eq_true rfl⟩) (preV (recO (mMain (adM, g0)) hPM1 hKM rfl) hPM1 hKM) rfl rfl hl.1 rfl (lv_room (Nat.le_of_ble_eq_true rfl)) dL_law_232 ⟨Nat.le_of_ble_eq_true rfl, Nat.le_of_ble_eq_true rfl⟩) hS1 (Ads.A aM) hPX1 dM (fun r2 M1 H2 locs2 hw2 hPM2 hPX2 hS2 => ?_)
  try dsimp only at hw2
  have hE := E_sell hR (xs (i + 1))
  obtain ⟨e1, f1⟩ := hw1
  obtain ⟨e2, f2⟩ := hw2
  subst e1 f1 e2 f2
  have hq := hE.1
  refine lv_icmp_eq (tgt := 1060) hx hb dL_law_235 (by decide) (fun _ => ?_) (fun hne => absurd hq hne)
  exact kk _ _ _ _ hE.2 hPX2 hPM2 hS2
set_option maxHeartbeats 4000000 in
theorem LK_2 {p : Program} {l : Launch} {e : Env} {s : State} {m : MethodId} {below : List Frame} {meth : Method} {c : Code} {b L : Nat} {xs : Nat → Int32} (hL : L ≤ 3072) (C0 : lw_At p s m meth c b L xs) {adX adM : Nat → Nat → Nat} {g0 : va_G × (Nat → ClassId)} (hw : lw_Two s adX adM g0) {i : Nat} (hi : i + 6 ≤ L) {ls : Array Slot} (hl : lv_has ls 4 [(0, .ref b), (1, .ref (adX 12 0)), (2, .ref (adM 0 0)), (3, .int (nI i))]) (kk : lw_On p l e s m below meth c b adX adM g0 ls 1060) : lw_On p l e s m below meth c b adX adM g0 ls 240 := by
  intro S M H locs hR hPX hPM hS
  obtain ⟨hx, hb, hr, hml, hown, hts, hX, hbl, hlocks, hgv⟩ := id C0
  obtain ⟨aX, aM, hdis, hKX, hKM⟩ := id hw
  have hbA : ¬ (fun q : Nat => s.heap.size ≤ q) b := Nat.not_le.mpr hbl
  have htA : ∀ w ∈ lw_all, w.before #[Value.ref b] s = true := fun w h => hts w (lw_all_tbl h)
  have C1 : CallFix p m c cL_law 4 s #[Value.ref b] lw_all RL := ⟨hx, hb, hml, hown, htA⟩
  have dX : ∀ k ∈ VM, ¬ AdS adX VX (adM k.1 k.2) := fun k hk q => by obtain ⟨a, ha, h⟩ := q; exact hdis a ha k hk h
  have dM : ∀ k ∈ VX, ¬ AdS adM VM (adX k.1 k.2) := fun k hk q => by obtain ⟨a, ha, h⟩ := q; exact hdis k hk a ha h.symm
  refine lv_aload_n hx hb dL_law_240 rfl (lv_at hl 1 rfl) ?_
  refine lwA hx hb hX hbl hbA hS hl 1 (by omega) hL dL_law_241 dL_law_242 dL_law_243 (by decide) dL_law_244 dL_law_245 ?_
  refine lwA hx hb hX hbl hbA hS hl 2 (by omega) hL dL_law_246 dL_law_247 dL_law_248 (by decide) dL_law_249 dL_law_250 ?_
  refine lwA hx hb hX hbl hbA hS hl 3 (by omega) hL dL_law_251 dL_law_252 dL_law_253 (by decide) dL_law_254 dL_law_255 ?_
  refine lci (va_runV (As := [.int (xs (i + 1)), .int (xs (i + 2)), .int (xs (i + 3))]) (rest := []) C1 (kX7_insure l (adX, g0) (AdS (adX, g0).1 VX) aX.S S (xs (i + 1)) (xs (i + 2)) (xs (i + 3)) ) (cwV 3 htA (gV q328 q329 q330 q46 q331) rfl rfl rfl (by decide +kernel) ⟨Nat.le_of_ble_eq_true rfl, Nat.le_of_ble_eq_true rfl⟩) (preV (recO (xMain (adX, g0)) hPX hKX rfl) hPX hKX) rfl rfl hl.1 rfl (lv_room (Nat.le_of_ble_eq_true rfl)) dL_law_256 ⟨Nat.le_of_ble_eq_true rfl, Nat.le_of_ble_eq_true rfl⟩) hS (Ads.A aX) hPM dX (fun r1 S1 H1 locs1 hw1 hPX1 hPM1 hS1 => ?_)
  try dsimp only at hw1
  refine lv_aload_n hx hb dL_law_259 rfl (lv_at hl 2 rfl) ?_
  refine lwA hx hb hX hbl hbA hS1 hl 1 (by omega) hL dL_law_260 dL_law_261 dL_law_262 (by decide) dL_law_263 dL_law_264 ?_
  refine lwA hx hb hX hbl hbA hS1 hl 2 (by omega) hL dL_law_265 dL_law_266 dL_law_267 (by decide) dL_law_268 dL_law_269 ?_
  refine lwA hx hb hX hbl hbA hS1 hl 3 (by omega) hL dL_law_270 dL_law_271 dL_law_272 (by decide) dL_law_273 dL_law_274 ?_
  refine lci (va_runV (As := [.int (xs (i + 1)), .int (xs (i + 2)), .int (xs (i + 3))]) (rest := [.int r1]) C1 (kX8_insure l (adM, g0) (AdS (adM, g0).1 VM) aM.S M (xs (i + 1)) (xs (i + 2)) (xs (i + 3)) ) (cwV 3 htA (gV q816 q817 q818 q54 q819) rfl rfl rfl (by decide +kernel) ⟨Nat.le_of_ble_eq_true rfl, Nat.le_of_ble_eq_true rfl⟩) (preV (recO (mMain (adM, g0)) hPM1 hKM rfl) hPM1 hKM) rfl rfl hl.1 rfl (lv_room (Nat.le_of_ble_eq_true rfl)) dL_law_275 ⟨Nat.le_of_ble_eq_true rfl, Nat.le_of_ble_eq_true rfl⟩) hS1 (Ads.A aM) hPX1 dM (fun r2 M1 H2 locs2 hw2 hPM2 hPX2 hS2 => ?_)
  try dsimp only at hw2
  have hE := E_insure hR (xs (i + 1)) (xs (i + 2)) (xs (i + 3))
  obtain ⟨e1, f1⟩ := hw1
  obtain ⟨e2, f2⟩ := hw2
  subst e1 f1 e2 f2
  have hq := hE.1
  refine lv_icmp_eq (tgt := 1060) hx hb dL_law_278 (by decide) (fun _ => ?_) (fun hne => absurd hq hne)
  exact kk _ _ _ _ hE.2 hPX2 hPM2 hS2
set_option maxHeartbeats 4000000 in
theorem LK_3 {p : Program} {l : Launch} {e : Env} {s : State} {m : MethodId} {below : List Frame} {meth : Method} {c : Code} {b L : Nat} {xs : Nat → Int32} (hL : L ≤ 3072) (C0 : lw_At p s m meth c b L xs) {adX adM : Nat → Nat → Nat} {g0 : va_G × (Nat → ClassId)} (hw : lw_Two s adX adM g0) {i : Nat} (hi : i + 6 ≤ L) {ls : Array Slot} (hl : lv_has ls 4 [(0, .ref b), (1, .ref (adX 12 0)), (2, .ref (adM 0 0)), (3, .int (nI i))]) (kk : lw_On p l e s m below meth c b adX adM g0 ls 1060) : lw_On p l e s m below meth c b adX adM g0 ls 283 := by
  intro S M H locs hR hPX hPM hS
  obtain ⟨hx, hb, hr, hml, hown, hts, hX, hbl, hlocks, hgv⟩ := id C0
  obtain ⟨aX, aM, hdis, hKX, hKM⟩ := id hw
  have hbA : ¬ (fun q : Nat => s.heap.size ≤ q) b := Nat.not_le.mpr hbl
  have htA : ∀ w ∈ lw_all, w.before #[Value.ref b] s = true := fun w h => hts w (lw_all_tbl h)
  have C1 : CallFix p m c cL_law 4 s #[Value.ref b] lw_all RL := ⟨hx, hb, hml, hown, htA⟩
  have dX : ∀ k ∈ VM, ¬ AdS adX VX (adM k.1 k.2) := fun k hk q => by obtain ⟨a, ha, h⟩ := q; exact hdis a ha k hk h
  have dM : ∀ k ∈ VX, ¬ AdS adM VM (adX k.1 k.2) := fun k hk q => by obtain ⟨a, ha, h⟩ := q; exact hdis k hk a ha h.symm
  refine lv_aload_n hx hb dL_law_283 rfl (lv_at hl 1 rfl) ?_
  refine lwA hx hb hX hbl hbA hS hl 1 (by omega) hL dL_law_284 dL_law_285 dL_law_286 (by decide) dL_law_287 dL_law_288 ?_
  refine lwA hx hb hX hbl hbA hS hl 2 (by omega) hL dL_law_289 dL_law_290 dL_law_291 (by decide) dL_law_292 dL_law_293 ?_
  refine lci (va_runV (As := [.int (xs (i + 1)), .int (xs (i + 2))]) (rest := []) C1 (kX7_load l (adX, g0) (AdS (adX, g0).1 VX) aX.S S (xs (i + 1)) (xs (i + 2)) ) (cwV 2 htA (gV q340 q341 q342 q46 q343) rfl rfl rfl (by decide +kernel) ⟨Nat.le_of_ble_eq_true rfl, Nat.le_of_ble_eq_true rfl⟩) (preV (recO (xMain (adX, g0)) hPX hKX rfl) hPX hKX) rfl rfl hl.1 rfl (lv_room (Nat.le_of_ble_eq_true rfl)) dL_law_294 ⟨Nat.le_of_ble_eq_true rfl, Nat.le_of_ble_eq_true rfl⟩) hS (Ads.A aX) hPM dX (fun r1 S1 H1 locs1 hw1 hPX1 hPM1 hS1 => ?_)
  try dsimp only at hw1
  refine lv_aload_n hx hb dL_law_297 rfl (lv_at hl 2 rfl) ?_
  refine lwA hx hb hX hbl hbA hS1 hl 1 (by omega) hL dL_law_298 dL_law_299 dL_law_300 (by decide) dL_law_301 dL_law_302 ?_
  refine lwA hx hb hX hbl hbA hS1 hl 2 (by omega) hL dL_law_303 dL_law_304 dL_law_305 (by decide) dL_law_306 dL_law_307 ?_
  refine lci (va_runV (As := [.int (xs (i + 1)), .int (xs (i + 2))]) (rest := [.int r1]) C1 (kX8_load l (adM, g0) (AdS (adM, g0).1 VM) aM.S M (xs (i + 1)) (xs (i + 2)) ) (cwV 2 htA (gV q821 q822 q823 q54 q824) rfl rfl rfl (by decide +kernel) ⟨Nat.le_of_ble_eq_true rfl, Nat.le_of_ble_eq_true rfl⟩) (preV (recO (mMain (adM, g0)) hPM1 hKM rfl) hPM1 hKM) rfl rfl hl.1 rfl (lv_room (Nat.le_of_ble_eq_true rfl)) dL_law_308 ⟨Nat.le_of_ble_eq_true rfl, Nat.le_of_ble_eq_true rfl⟩) hS1 (Ads.A aM) hPX1 dM (fun r2 M1 H2 locs2 hw2 hPM2 hPX2 hS2 => ?_)
  try dsimp only at hw2
  have hE := E_load hR (xs (i + 1)) (xs (i + 2))
  obtain ⟨e1, f1⟩ := hw1
  obtain ⟨e2, f2⟩ := hw2
  subst e1 f1 e2 f2
  have hq := hE.1
  refine lv_icmp_eq (tgt := 1060) hx hb dL_law_311 (by decide) (fun _ => ?_) (fun hne => absurd hq hne)
  exact kk _ _ _ _ hE.2 hPX2 hPM2 hS2
set_option maxHeartbeats 4000000 in
theorem LK_4 {p : Program} {l : Launch} {e : Env} {s : State} {m : MethodId} {below : List Frame} {meth : Method} {c : Code} {b L : Nat} {xs : Nat → Int32} (hL : L ≤ 3072) (C0 : lw_At p s m meth c b L xs) {adX adM : Nat → Nat → Nat} {g0 : va_G × (Nat → ClassId)} (hw : lw_Two s adX adM g0) {i : Nat} (hi : i + 6 ≤ L) {ls : Array Slot} (hl : lv_has ls 4 [(0, .ref b), (1, .ref (adX 12 0)), (2, .ref (adM 0 0)), (3, .int (nI i))]) (kk : lw_On p l e s m below meth c b adX adM g0 ls 1060) : lw_On p l e s m below meth c b adX adM g0 ls 316 := by
  intro S M H locs hR hPX hPM hS
  obtain ⟨hx, hb, hr, hml, hown, hts, hX, hbl, hlocks, hgv⟩ := id C0
  obtain ⟨aX, aM, hdis, hKX, hKM⟩ := id hw
  have hbA : ¬ (fun q : Nat => s.heap.size ≤ q) b := Nat.not_le.mpr hbl
  have htA : ∀ w ∈ lw_all, w.before #[Value.ref b] s = true := fun w h => hts w (lw_all_tbl h)
  have C1 : CallFix p m c cL_law 4 s #[Value.ref b] lw_all RL := ⟨hx, hb, hml, hown, htA⟩
  have dX : ∀ k ∈ VM, ¬ AdS adX VX (adM k.1 k.2) := fun k hk q => by obtain ⟨a, ha, h⟩ := q; exact hdis a ha k hk h
  have dM : ∀ k ∈ VX, ¬ AdS adM VM (adX k.1 k.2) := fun k hk q => by obtain ⟨a, ha, h⟩ := q; exact hdis k hk a ha h.symm
  refine lv_aload_n hx hb dL_law_316 rfl (lv_at hl 1 rfl) ?_
  refine lwA hx hb hX hbl hbA hS hl 1 (by omega) hL dL_law_317 dL_law_318 dL_law_319 (by decide) dL_law_320 dL_law_321 ?_
  refine lwA hx hb hX hbl hbA hS hl 2 (by omega) hL dL_law_322 dL_law_323 dL_law_324 (by decide) dL_law_325 dL_law_326 ?_
  refine lci (va_runV (As := [.int (xs (i + 1)), .int (xs (i + 2))]) (rest := []) C1 (kX7_set l (adX, g0) (AdS (adX, g0).1 VX) aX.S S (xs (i + 1)) (xs (i + 2)) ) (cwV 2 htA (gV q344 q345 q346 q46 q347) rfl rfl rfl (by decide +kernel) ⟨Nat.le_of_ble_eq_true rfl, Nat.le_of_ble_eq_true rfl⟩) (preV (recO (xMain (adX, g0)) hPX hKX rfl) hPX hKX) rfl rfl hl.1 rfl (lv_room (Nat.le_of_ble_eq_true rfl)) dL_law_327 ⟨Nat.le_of_ble_eq_true rfl, Nat.le_of_ble_eq_true rfl⟩) hS (Ads.A aX) hPM dX (fun r1 S1 H1 locs1 hw1 hPX1 hPM1 hS1 => ?_)
  try dsimp only at hw1
  refine lv_aload_n hx hb dL_law_330 rfl (lv_at hl 2 rfl) ?_
  refine lwA hx hb hX hbl hbA hS1 hl 1 (by omega) hL dL_law_331 dL_law_332 dL_law_333 (by decide) dL_law_334 dL_law_335 ?_
  refine lwA hx hb hX hbl hbA hS1 hl 2 (by omega) hL dL_law_336 dL_law_337 dL_law_338 (by decide) dL_law_339 dL_law_340 ?_
  refine lci (va_runV (As := [.int (xs (i + 1)), .int (xs (i + 2))]) (rest := [.int r1]) C1 (kX8_set l (adM, g0) (AdS (adM, g0).1 VM) aM.S M (xs (i + 1)) (xs (i + 2)) ) (cwV 2 htA (gV q826 q827 q828 q54 q829) rfl rfl rfl (by decide +kernel) ⟨Nat.le_of_ble_eq_true rfl, Nat.le_of_ble_eq_true rfl⟩) (preV (recO (mMain (adM, g0)) hPM1 hKM rfl) hPM1 hKM) rfl rfl hl.1 rfl (lv_room (Nat.le_of_ble_eq_true rfl)) dL_law_341 ⟨Nat.le_of_ble_eq_true rfl, Nat.le_of_ble_eq_true rfl⟩) hS1 (Ads.A aM) hPX1 dM (fun r2 M1 H2 locs2 hw2 hPM2 hPX2 hS2 => ?_)
  try dsimp only at hw2
  have hE := E_set hR (xs (i + 1)) (xs (i + 2))
  obtain ⟨e1, f1⟩ := hw1
  obtain ⟨e2, f2⟩ := hw2
  subst e1 f1 e2 f2
  have hq := hE.1
  refine lv_icmp_eq (tgt := 1060) hx hb dL_law_344 (by decide) (fun _ => ?_) (fun hne => absurd hq hne)
  exact kk _ _ _ _ hE.2 hPX2 hPM2 hS2
set_option maxHeartbeats 4000000 in
theorem LK_5 {p : Program} {l : Launch} {e : Env} {s : State} {m : MethodId} {below : List Frame} {meth : Method} {c : Code} {b L : Nat} {xs : Nat → Int32} (hL : L ≤ 3072) (C0 : lw_At p s m meth c b L xs) {adX adM : Nat → Nat → Nat} {g0 : va_G × (Nat → ClassId)} (hw : lw_Two s adX adM g0) {i : Nat} (hi : i + 6 ≤ L) {ls : Array Slot} (hl : lv_has ls 4 [(0, .ref b), (1, .ref (adX 12 0)), (2, .ref (adM 0 0)), (3, .int (nI i))]) (kk : lw_On p l e s m below meth c b adX adM g0 ls 1060) : lw_On p l e s m below meth c b adX adM g0 ls 349 := by
  intro S M H locs hR hPX hPM hS
  obtain ⟨hx, hb, hr, hml, hown, hts, hX, hbl, hlocks, hgv⟩ := id C0
  obtain ⟨aX, aM, hdis, hKX, hKM⟩ := id hw
  have hbA : ¬ (fun q : Nat => s.heap.size ≤ q) b := Nat.not_le.mpr hbl
  have htA : ∀ w ∈ lw_all, w.before #[Value.ref b] s = true := fun w h => hts w (lw_all_tbl h)
  have C1 : CallFix p m c cL_law 4 s #[Value.ref b] lw_all RL := ⟨hx, hb, hml, hown, htA⟩
  have dX : ∀ k ∈ VM, ¬ AdS adX VX (adM k.1 k.2) := fun k hk q => by obtain ⟨a, ha, h⟩ := q; exact hdis a ha k hk h
  have dM : ∀ k ∈ VX, ¬ AdS adM VM (adX k.1 k.2) := fun k hk q => by obtain ⟨a, ha, h⟩ := q; exact hdis k hk a ha h.symm
  refine lv_aload_n hx hb dL_law_349 rfl (lv_at hl 1 rfl) ?_
  refine lwA hx hb hX hbl hbA hS hl 1 (by omega) hL dL_law_350 dL_law_351 dL_law_352 (by decide) dL_law_353 dL_law_354 ?_
  refine lci (va_runV (As := [.int (xs (i + 1))]) (rest := []) C1 (kX7_say l (adX, g0) (AdS (adX, g0).1 VX) aX.S S (xs (i + 1)) ) (cwV 1 htA (gV q348 q349 q350 q46 q351) rfl rfl rfl (by decide +kernel) ⟨Nat.le_of_ble_eq_true rfl, Nat.le_of_ble_eq_true rfl⟩) (preV (recO (xMain (adX, g0)) hPX hKX rfl) hPX hKX) rfl rfl hl.1 rfl (lv_room (Nat.le_of_ble_eq_true rfl)) dL_law_355 ⟨Nat.le_of_ble_eq_true rfl, Nat.le_of_ble_eq_true rfl⟩) hS (Ads.A aX) hPM dX (fun r1 S1 H1 locs1 hw1 hPX1 hPM1 hS1 => ?_)
  try dsimp only at hw1
  refine lv_aload_n hx hb dL_law_358 rfl (lv_at hl 2 rfl) ?_
  refine lwA hx hb hX hbl hbA hS1 hl 1 (by omega) hL dL_law_359 dL_law_360 dL_law_361 (by decide) dL_law_362 dL_law_363 ?_
  refine lci (va_runV (As := [.int (xs (i + 1))]) (rest := [.int r1]) C1 (kX8_say l (adM, g0) (AdS (adM, g0).1 VM) aM.S M (xs (i + 1)) hR.hp) (cwV 1 htA (gV q830 q831 q832 q54 q833) rfl rfl rfl (by decide +kernel) ⟨Nat.le_of_ble_eq_true rfl, Nat.le_of_ble_eq_true rfl⟩) (preV (recO (mMain (adM, g0)) hPM1 hKM rfl) hPM1 hKM) rfl rfl hl.1 rfl (lv_room (Nat.le_of_ble_eq_true rfl)) dL_law_364 ⟨Nat.le_of_ble_eq_true rfl, Nat.le_of_ble_eq_true rfl⟩) hS1 (Ads.A aM) hPX1 dM (fun r2 M1 H2 locs2 hw2 hPM2 hPX2 hS2 => ?_)
  try dsimp only at hw2
  have hE := E_say hR (xs (i + 1))
  obtain ⟨e1, f1⟩ := hw1
  obtain ⟨e2, f2⟩ := hw2
  subst e1 f1 e2 f2
  have hq := hE.1
  refine lv_icmp_eq (tgt := 1060) hx hb dL_law_367 (by decide) (fun _ => ?_) (fun hne => absurd hq hne)
  exact kk _ _ _ _ hE.2 hPX2 hPM2 hS2
set_option maxHeartbeats 4000000 in
theorem LK_6 {p : Program} {l : Launch} {e : Env} {s : State} {m : MethodId} {below : List Frame} {meth : Method} {c : Code} {b L : Nat} {xs : Nat → Int32} (hL : L ≤ 3072) (C0 : lw_At p s m meth c b L xs) {adX adM : Nat → Nat → Nat} {g0 : va_G × (Nat → ClassId)} (hw : lw_Two s adX adM g0) {i : Nat} (hi : i + 6 ≤ L) {ls : Array Slot} (hl : lv_has ls 4 [(0, .ref b), (1, .ref (adX 12 0)), (2, .ref (adM 0 0)), (3, .int (nI i))]) (kk : lw_On p l e s m below meth c b adX adM g0 ls 1060) : lw_On p l e s m below meth c b adX adM g0 ls 372 := by
  intro S M H locs hR hPX hPM hS
  obtain ⟨hx, hb, hr, hml, hown, hts, hX, hbl, hlocks, hgv⟩ := id C0
  obtain ⟨aX, aM, hdis, hKX, hKM⟩ := id hw
  have hbA : ¬ (fun q : Nat => s.heap.size ≤ q) b := Nat.not_le.mpr hbl
  have htA : ∀ w ∈ lw_all, w.before #[Value.ref b] s = true := fun w h => hts w (lw_all_tbl h)
  have C1 : CallFix p m c cL_law 4 s #[Value.ref b] lw_all RL := ⟨hx, hb, hml, hown, htA⟩
  have dX : ∀ k ∈ VM, ¬ AdS adX VX (adM k.1 k.2) := fun k hk q => by obtain ⟨a, ha, h⟩ := q; exact hdis a ha k hk h
  have dM : ∀ k ∈ VX, ¬ AdS adM VM (adX k.1 k.2) := fun k hk q => by obtain ⟨a, ha, h⟩ := q; exact hdis k hk a ha h.symm
  refine lv_aload_n hx hb dL_law_372 rfl (lv_at hl 1 rfl) ?_
  refine lci (va_runV (As := []) (rest := []) C1 (kX7_wipe l (adX, g0) (AdS (adX, g0).1 VX) aX.S S  ) (cwV 0 htA (gV q356 q357 q358 q46 q359) rfl rfl rfl (by decide +kernel) ⟨Nat.le_of_ble_eq_true rfl, Nat.le_of_ble_eq_true rfl⟩) (preV (recO (xMain (adX, g0)) hPX hKX rfl) hPX hKX) rfl rfl hl.1 rfl (lv_room (Nat.le_of_ble_eq_true rfl)) dL_law_373 ⟨Nat.le_of_ble_eq_true rfl, Nat.le_of_ble_eq_true rfl⟩) hS (Ads.A aX) hPM dX (fun r1 S1 H1 locs1 hw1 hPX1 hPM1 hS1 => ?_)
  try dsimp only at hw1
  refine lv_aload_n hx hb dL_law_376 rfl (lv_at hl 2 rfl) ?_
  refine lci (va_runV (As := []) (rest := [.int r1]) C1 (kX8_wipe l (adM, g0) (AdS (adM, g0).1 VM) aM.S M  ) (cwV 0 htA (gV q836 q837 q838 q54 q839) rfl rfl rfl (by decide +kernel) ⟨Nat.le_of_ble_eq_true rfl, Nat.le_of_ble_eq_true rfl⟩) (preV (recO (mMain (adM, g0)) hPM1 hKM rfl) hPM1 hKM) rfl rfl hl.1 rfl (lv_room (Nat.le_of_ble_eq_true rfl)) dL_law_377 ⟨Nat.le_of_ble_eq_true rfl, Nat.le_of_ble_eq_true rfl⟩) hS1 (Ads.A aM) hPX1 dM (fun r2 M1 H2 locs2 hw2 hPM2 hPX2 hS2 => ?_)
  try dsimp only at hw2
  have hE := E_wipe hR 
  obtain ⟨e1, f1⟩ := hw1
  obtain ⟨e2, f2⟩ := hw2
  subst e1 f1 e2 f2
  have hq := hE.1
  refine lv_icmp_eq (tgt := 1060) hx hb dL_law_380 (by decide) (fun _ => ?_) (fun hne => absurd hq hne)
  exact kk _ _ _ _ hE.2 hPX2 hPM2 hS2
