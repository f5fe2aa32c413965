/-! ===== the voyages run ===== -/
theorem sign_cong {S Z : St} (h : Z.1 4 = S.1 4) (p : Int32) : tX3_signAt Z p = tX3_signAt S p := by unfold tX3_signAt; rw [h]
theorem kind_cong {S Z : St} (h : Z.1 4 = S.1 4) (p : Int32) : tX3_kindAt Z p = tX3_kindAt S p := by unfold tX3_kindAt; rw [sign_cong h, sign_cong h]
theorem shipn_cong {S Z : St} (h : Z.1 4 = S.1 4) (p : Int32) : tX3_shipNumberAt Z p = tX3_shipNumberAt S p := by unfold tX3_shipNumberAt; rw [sign_cong h]
theorem numb_cong {S Z : St} (h : Z.1 4 = S.1 4) (p : Int32) : tX3_numberAt Z p = tX3_numberAt S p := by unfold tX3_numberAt; rw [sign_cong h]
theorem begin_cong {S Z : St} (h : Z.1 4 = S.1 4) (p : Int32) : tX3_actBeginsAt Z p = tX3_actBeginsAt S p := by unfold tX3_actBeginsAt; rw [sign_cong h]
theorem why_cong (M : St) {a : Nat} (ha : a < 6) {p p' n n' : Int32} (hp : a < 5 → p' = p) (hn : a < 2 → n' = n) : tX8_whyNot M (nI a) p' n' = tX8_whyNot M (nI a) p n := by
  unfold tX8_whyNot
  rcases (by omega : a = 0 ∨ a = 1 ∨ a = 2 ∨ a = 3 ∨ a = 4 ∨ a = 5) with rfl | rfl | rfl | rfl | rfl | rfl
  · rw [hp (by decide), hn (by decide)]
  · rw [hp (by decide), hn (by decide)]
  all_goals simp only [znI, zneq, if_true, if_false]
  all_goals rw [hp (by decide)]
theorem hap_cong (M : St) {a : Nat} (ha : a < 6) {p p' n n' : Int32} (hp : a < 5 → p' = p) (hn : a < 2 → n' = n) : tX8_happen M (nI a) p' n' = tX8_happen M (nI a) p n := by
  unfold tX8_happen
  rcases (by omega : a = 0 ∨ a = 1 ∨ a = 2 ∨ a = 3 ∨ a = 4 ∨ a = 5) with rfl | rfl | rfl | rfl | rfl | rfl
  · rw [hp (by decide), hn (by decide)]
  · rw [hp (by decide), hn (by decide)]
  all_goals simp only [znI, zneq, if_true, if_false]
  all_goals rw [hp (by decide)]
theorem why_pos (S : St) (o : Nat) (x p n : Int32) : tX2_reasonAgainst S o x p n = 0 ∨ ¬ tX2_reasonAgainst S o x p n ≤ 0 := by
  have d1 : ¬ (1 : Int32) ≤ 0 := by decide
  have d2 : ¬ (2 : Int32) ≤ 0 := by decide
  have d3 : ¬ (3 : Int32) ≤ 0 := by decide
  have d4 : ¬ (4 : Int32) ≤ 0 := by decide
  have d5 : ¬ (5 : Int32) ≤ 0 := by decide
  have d6 : ¬ (6 : Int32) ≤ 0 := by decide
  unfold tX2_reasonAgainst tX2_reasonAgainstSailing
  by_cases c1 : x = 46
  · rw [if_pos c1]
    split
    · exact Or.inl rfl
    · exact Or.inr d6
  rw [if_neg c1]
  by_cases c2 : isAt S o p
  rotate_left
  · rw [if_neg c2]; exact Or.inr d1
  rw [if_pos c2]
  by_cases c3 : b01 (S.1 o (Int32.toNatClampNeg p) 1) = 0
  · rw [if_pos c3]; exact Or.inr d2
  rw [if_neg c3]
  repeat' split
  all_goals first | exact Or.inl rfl | exact Or.inr d3 | exact Or.inr d4 | exact Or.inr d5
def TakeOk (T Z' : St) (a : Nat) (p : Int32) : Prop := (∀ r, r ≠ 5 → T.1 r = Z'.1 r) ∧ T.1 5 0 0 = Z'.1 5 0 0 + 1 ∧ T.1 5 0 1 = Z'.1 5 0 1 ∧ T.1 5 0 2 = Z'.1 5 0 2 ∧ (T.1 5 0 3 = if a = 3 ∨ a = 4 then Z'.1 5 0 3 + 1 else Z'.1 5 0 3) ∧
  (T.1 5 0 4 = if a = 4 ∧ Z'.1 5 0 6 = 0 then Z'.1 5 0 0 else Z'.1 5 0 4) ∧ (T.1 5 0 5 = if a = 4 ∧ Z'.1 5 0 6 = 0 then p else Z'.1 5 0 5) ∧ (T.1 5 0 6 = if a = 4 then Z'.1 5 0 6 + 1 else Z'.1 5 0 6)
theorem take4 (Z' : St) (p : Int32) : TakeOk (up (tX6_noteSinking (up Z' 5 0 3 ((Z'.1 5 0 3) + 1)) p) 5 0 0 (((tX6_noteSinking (up Z' 5 0 3 ((Z'.1 5 0 3) + 1)) p).1 5 0 0) + 1)) Z' 4 p := by
  unfold tX6_noteSinking
  have e6 : (up Z' 5 0 3 ((Z'.1 5 0 3) + 1)).1 5 0 6 = Z'.1 5 0 6 := by simp [up_val]
  rw [e6]
  simp only [bnd_def]
  by_cases c : Z'.1 5 0 6 = 0
  · rw [if_pos c]
    refine ⟨fun r hr => by rw [up_r _ _ hr, up_r _ _ hr, up_r _ _ hr, up_r _ _ hr, up_r _ _ hr], ?_, ?_, ?_, ?_, ?_, ?_, ?_⟩
    all_goals simp [up_val, c]
  · rw [if_neg c]
    refine ⟨fun r hr => by rw [up_r _ _ hr, up_r _ _ hr, up_r _ _ hr], ?_, ?_, ?_, ?_, ?_, ?_, ?_⟩
    all_goals simp [up_val, c]
theorem takeX {Z : St} {o a : Nat} {p : Int32} (ha : a < 6) (hk : tX3_kindAt Z p = zk a) (hr : tX2_reasonAgainst Z o (zk a) (tX3_shipNumberAt Z p) (tX3_numberAt Z p) = 0) :
    TakeOk (tX6_take Z o p) (tX2_act Z o (zk a) (tX3_shipNumberAt Z p) (tX3_numberAt Z p)) a (tX3_shipNumberAt Z p) := by
  unfold tX6_take
  rw [hk, if_pos hr]
  simp only [bnd_def]
  generalize tX2_act Z o (zk a) (tX3_shipNumberAt Z p) (tX3_numberAt Z p) = Z'
  rcases (by omega : a = 4 ∨ a = 3 ∨ a = 0 ∨ a = 1 ∨ a = 2 ∨ a = 5) with rfl | rfl | rfl | rfl | rfl | rfl
  · rw [if_neg (show ¬ zk 4 = 115 by decide), if_pos (show zk 4 = 120 from rfl)]
    exact take4 Z' _
  · rw [if_pos (show zk 3 = 115 from rfl), if_neg (show ¬ zk 3 = 120 by decide)]
    refine ⟨fun r hr => by rw [up_r _ _ hr, up_r _ _ hr], ?_, ?_, ?_, ?_, ?_, ?_, ?_⟩
    all_goals simp [up_val]
  · rw [if_neg (show ¬ zk 0 = 115 by decide), if_neg (show ¬ zk 0 = 120 by decide)]
    refine ⟨fun r hr => by rw [up_r _ _ hr], ?_, ?_, ?_, ?_, ?_, ?_, ?_⟩
    all_goals simp [up_val]
  · rw [if_neg (show ¬ zk 1 = 115 by decide), if_neg (show ¬ zk 1 = 120 by decide)]
    refine ⟨fun r hr => by rw [up_r _ _ hr], ?_, ?_, ?_, ?_, ?_, ?_, ?_⟩
    all_goals simp [up_val]
  · rw [if_neg (show ¬ zk 2 = 115 by decide), if_neg (show ¬ zk 2 = 120 by decide)]
    refine ⟨fun r hr => by rw [up_r _ _ hr], ?_, ?_, ?_, ?_, ?_, ?_, ?_⟩
    all_goals simp [up_val]
  · rw [if_neg (show ¬ zk 5 = 115 by decide), if_neg (show ¬ zk 5 = 120 by decide)]
    refine ⟨fun r hr => by rw [up_r _ _ hr], ?_, ?_, ?_, ?_, ?_, ?_, ?_⟩
    all_goals simp [up_val]
def GFr (M W : St) : Prop := (∀ b, b ≠ 0 → b ≠ 2 → b ≠ 5 → b ≠ 6 → W.1 0 b = M.1 0 b) ∧ ∀ j, j ≠ 1 → j ≠ 9 → j ≠ 10 → j ≠ 11 → j ≠ 12 → j ≠ 23 → j ≠ 24 → j ≠ 25 → j ≠ 26 → j ≠ 27 → j ≠ 29 → j ≠ 30 → W.1 0 0 j = M.1 0 0 j
def RF (S M : St) (o : Nat) (Z W : St) : Prop := OwnRel (Z.1 o) (W.1 0 0) (W.1 0) ∧ OwnOk (Z.1 o) ∧ (∀ r, r ≠ o → r ≠ 5 → Z.1 r = S.1 r) ∧ GFr M W ∧ Z.1 5 0 1 = W.1 0 0 29 ∧ Z.1 5 0 2 = W.1 0 0 30 ∧ Z.1 5 0 3 = W.1 0 0 23 ∧ Z.1 5 0 4 = W.1 0 0 24 ∧ Z.1 5 0 5 = W.1 0 0 25 ∧ Z.1 5 0 6 = W.1 0 0 26
theorem own_m {ow : Nat → Nat → Int32} {W W' : St} (h : OwnRel ow (W.1 0 0) (W.1 0)) (h0 : ∀ j, j < 13 → W'.1 0 0 j = W.1 0 0 j) (hb : ∀ b, b ≠ 0 → W'.1 0 b = W.1 0 b) : OwnRel ow (W'.1 0 0) (W'.1 0) :=
  h.cg (fun _ _ _ _ => rfl) (fun _ _ _ _ => rfl) (fun _ _ => rfl) (fun j hj => h0 j (by omega)) (fun j hj => h0 _ (by omega)) (fun i hi k hk => by rw [hb _ (by omega)]) (fun k hk => by rw [hb _ (by decide)])
theorem go_stop (M : St) {W : St} (h : 0 ≤ W.1 0 0 29) : ∀ K m, LX8_goVoyages_18 M K m W = W := by
  intro K m
  cases K with
  | zero => rw [LX8_goVoyages_18]
  | succ K => rw [LX8_goVoyages_18, if_pos h]
