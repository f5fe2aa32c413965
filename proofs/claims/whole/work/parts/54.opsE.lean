theorem sailM (M : St) {k : Nat} (hk : k < 6) : (∀ b, b ≠ 0 → b ≠ 2 → b ≠ 5 → (tX8_sail M (nI k)).1 0 b = M.1 0 b) ∧ (∀ j, (tX8_sail M (nI k)).1 0 2 j = if j = k then (if 40 ≤ M.1 0 2 k then 40 else M.1 0 2 k + 1) else M.1 0 2 j) ∧
    (∀ j, (tX8_sail M (nI k)).1 0 5 j = if j = k then 0 else M.1 0 5 j) ∧ ∀ j, (tX8_sail M (nI k)).1 0 0 j = if j = 23 then M.1 0 0 23 + 1 else if j = 11 then M.1 0 0 11 + M.1 0 5 k * M.1 0 0 8 else M.1 0 0 j := by
  unfold tX8_sail
  have e : (nI k).toNatClampNeg = k := nI_clamp (by omega)
  rw [e]
  simp only [bnd_def]
  by_cases h40 : 40 ≤ M.1 0 2 k
  · have h40' : 40 ≤ (up (up M 0 0 23 ((M.1 0 0 23) + 1)) 0 0 11 (((up M 0 0 23 ((M.1 0 0 23) + 1)).1 0 0 11) + (((up M 0 0 23 ((M.1 0 0 23) + 1)).1 0 5 k) * ((up M 0 0 23 ((M.1 0 0 23) + 1)).1 0 0 8)))).1 0 2 k := by rw [up_row_ne _ _ (by decide), up_row_ne _ _ (by decide)]; exact h40
    rw [if_pos h40', if_pos h40]
    refine ⟨fun b h0 h2 h5 => ?_, fun j => ?_, fun j => ?_, fun j => ?_⟩
    · funext j; simp [up_val, h0, h2, h5]
    · simp [up_val]
    · simp [up_val]
    · simp [up_val]
      by_cases j11 : j = 11 <;> by_cases j23 : j = 23 <;> simp_all
  · have h40' : ¬ 40 ≤ (up (up M 0 0 23 ((M.1 0 0 23) + 1)) 0 0 11 (((up M 0 0 23 ((M.1 0 0 23) + 1)).1 0 0 11) + (((up M 0 0 23 ((M.1 0 0 23) + 1)).1 0 5 k) * ((up M 0 0 23 ((M.1 0 0 23) + 1)).1 0 0 8)))).1 0 2 k := by rw [up_row_ne _ _ (by decide), up_row_ne _ _ (by decide)]; exact h40
    rw [if_neg h40', if_neg h40]
    refine ⟨fun b h0 h2 h5 => ?_, fun j => ?_, fun j => ?_, fun j => ?_⟩
    · funext j; simp [up_val, h0, h2, h5]
    · simp [up_val]
    · simp [up_val]
    · simp [up_val]
      by_cases j11 : j = 11 <;> by_cases j23 : j = 23 <;> simp_all
theorem why0 {S : St} {o a : Nat} {p n : Int32} (ha : a < 6) (h : tX2_reasonAgainst S o (zk a) p n = 0) : (a = 5 ∧ S.1 o 6 3 < 99) ∨ (a < 5 ∧ ∃ k, k < 6 ∧ p = nI k ∧ ¬ S.1 o k 0 = 0 ∧ ¬ S.1 o k 1 = 0 ∧ (a = 0 → (tX4_sumAt S o k n) + 10 ≤ 99)) := by
  unfold tX2_reasonAgainst at h
  by_cases h5 : a = 5
  · subst h5
    rw [if_pos (show zk 5 = 46 from rfl)] at h
    refine Or.inl ⟨rfl, ?_⟩
    by_cases c : S.1 o 6 3 < 99
    · exact c
    · rw [if_neg c] at h; exact absurd h (by decide)
  · have n46 : ¬ zk a = 46 := by
      rcases (by omega : a = 0 ∨ a = 1 ∨ a = 2 ∨ a = 3 ∨ a = 4) with rfl | rfl | rfl | rfl | rfl <;> decide
    rw [if_neg n46] at h
    by_cases c1 : isAt S o p
    rotate_left
    · rw [if_neg c1] at h; exact absurd h (by decide)
    rw [if_pos c1] at h
    obtain ⟨hp, hb⟩ := c1
    obtain ⟨k, hk, rfl, e⟩ := plc_k hp
    rw [e] at hb
    by_cases c2 : b01 (S.1 o k 1) = 0
    · rw [e, if_pos c2] at h; exact absurd h (by decide)
    rw [e, if_neg c2] at h
    refine Or.inr ⟨by omega, k, hk, rfl, hb, fun w => c2 (b01_nz.mpr w), fun h0 => ?_⟩
    subst h0
    rw [if_pos (show zk 0 = 105 from rfl)] at h
    by_cases c : (tX4_sumAt S o k n) + 10 ≤ 99
    · exact c
    · rw [if_neg c] at h; exact absurd h (by decide)
/-- what an act of a voyage keeps and counts -/
def ActOk (S S' M M' : St) (o a : Nat) (p : Int32) : Prop := OwnRel (S'.1 o) (M'.1 0 0) (M'.1 0) ∧ OwnOk (S'.1 o) ∧ (∀ r, r ≠ o → S'.1 r = S.1 r) ∧ MFr M M' ∧
  (M'.1 0 0 23 = if a = 3 ∨ a = 4 then M.1 0 0 23 + 1 else M.1 0 0 23) ∧ (M'.1 0 0 24 = if a = 4 ∧ M.1 0 0 26 = 0 then M.1 0 0 27 else M.1 0 0 24) ∧ (M'.1 0 0 25 = if a = 4 ∧ M.1 0 0 26 = 0 then p else M.1 0 0 25) ∧ (M'.1 0 0 26 = if a = 4 then M.1 0 0 26 + 1 else M.1 0 0 26)
theorem act0 {S M : St} {o k f : Nat} (hO : OwnRel (S.1 o) (M.1 0 0) (M.1 0)) (hK : OwnOk (S.1 o)) (hk : k < 6) (hf : f < 3) (hw : S.1 o (10 + k) f + 10 ≤ 99) : ActOk S (up S o (10 + k) f (S.1 o (10 + k) f + 10)) M (up M 0 6 (3 * k + f) (M.1 0 6 (3 * k + f) + 10)) o 0 (nI k) := by
  have hv : wi (S.1 o (10 + k) f + 10) 0 99 := by
    obtain ⟨s, hs, es⟩ := wi_kk (n := 99) (by decide) ((hK.1 k hk).2.2.2 f hf)
    rw [es] at hw ⊢
    rw [show (10 : Int32) = nI 10 from rfl, nI_add] at hw ⊢
    exact ⟨nI_pos' (by omega), hw⟩
  have h1 : ∀ i j, (up S o (10 + k) f (S.1 o (10 + k) f + 10)).1 o i j = if i = 10 + k ∧ j = f then S.1 o (10 + k) f + 10 else S.1 o i j := fun i j => by simp [up_val]
  rw [(hO.2.2.1 k hk).2.2.2.2 f hf]
  have e0 : (up M 0 6 (3 * k + f) (S.1 o (10 + k) f + 10)).1 0 0 = M.1 0 0 := up_row_ne _ _ (by decide)
  refine ⟨?_, ok_sum hk hv hK h1, fun r hr => up_r _ _ hr, ⟨fun b h0 h2 h5 h6 => up_row_ne _ _ h6, fun j _ _ _ _ _ _ _ _ _ => by rw [e0]⟩, ?_, ?_, ?_, ?_⟩
  · rw [e0]
    exact own_sum hk hf hO h1 (fun i j hi => by simp [up_val])
  all_goals rw [e0]; simp
theorem bits_keep {ow : Nat → Nat → Int32} {x : Int32} {k : Nat} (h : BitsOf x (fun j => ¬ ow j 0 = 0 ∧ ¬ ow j 1 = 0)) : BitsOf x (fun j => ¬ ow j 0 = 0 ∧ ¬ (if j = k then ow k 1 else ow j 1) = 0) := by
  refine h.cong (fun j hj => ?_)
  by_cases q : j = k
  · subst q; simp
  · simp [q]
theorem act1 {S M : St} {o k : Nat} {n : Int32} (hO : OwnRel (S.1 o) (M.1 0 0) (M.1 0)) (hK : OwnOk (S.1 o)) (hk : k < 6) (hn : wi n 0 9) : ActOk S (up S o k 5 n) M (up M 0 5 k n) o 1 (nI k) := by
  have h1 : ∀ i j, (up S o k 5 n).1 o i j = if i = k ∧ j = 1 then S.1 o k 1 else if i = k ∧ j = 2 then S.1 o k 2 else if i = k ∧ j = 5 then n else if i = 6 ∧ j = 4 then S.1 o 6 4 else if i = 6 ∧ j = 5 then S.1 o 6 5 else S.1 o i j := fun i j => by
    simp only [up_val]
    have n6 : ¬ 6 = k := by omega
    by_cases i1 : i = k <;> by_cases i6 : i = 6 <;> by_cases j1 : j = 1 <;> by_cases j2 : j = 2 <;> by_cases j4 : j = 4 <;> by_cases j5 : j = 5 <;> simp_all
  have e0 : (up M 0 5 k n).1 0 0 = M.1 0 0 := up_row_ne _ _ (by decide)
  obtain ⟨b0, b1, hh, s7, s8, s9, s10, s11, s12⟩ := id hO
  refine ⟨?_, ok_ship hk hK (hK.1 k hk).1 hn h1, fun r hr => up_r _ _ hr, ⟨fun b h0 h2 h5 h6 => up_row_ne _ _ h5, fun j _ _ _ _ _ _ _ _ _ => by rw [e0]⟩, ?_, ?_, ?_, ?_⟩
  · rw [e0]
    refine own_ship hk hO h1 ⟨rfl, rfl, rfl, rfl, rfl⟩ s11 s12 (bits_keep b1) (fun j => ?_) (fun j => by simp [up_val]) ⟨up_row_ne _ _ (by decide), up_row_ne _ _ (by decide), up_row_ne _ _ (by decide)⟩
    rw [up_row_ne _ _ (by decide)]
    by_cases q : j = k
    · subst q; rw [if_pos rfl]; exact (hh j hk).1
    · rw [if_neg q]
  all_goals rw [e0]; simp
theorem act2 {S M : St} {o k : Nat} (hO : OwnRel (S.1 o) (M.1 0 0) (M.1 0)) (hK : OwnOk (S.1 o)) (hk : k < 6) : ActOk S (up S o k 2 (S.1 o k 2 / 2)) M (up M 0 2 k (M.1 0 2 k / 2)) o 2 (nI k) := by
  rw [(hO.2.2.1 k hk).1]
  have hA : wi (S.1 o k 2 / 2) 0 40 := by
    obtain ⟨s, hs, es⟩ := wi_kk (n := 40) (by decide) (hK.1 k hk).1
    rw [es, show nI s / 2 = nI (s / 2) from pk_div (d := 2) (by omega) (by decide) (by decide)]
    exact ⟨nI_pos' (by omega), nI_le (b := 40) (by omega) (by decide)⟩
  generalize S.1 o k 2 / 2 = n at hA ⊢
  have h1 : ∀ i j, (up S o k 2 n).1 o i j = if i = k ∧ j = 1 then S.1 o k 1 else if i = k ∧ j = 2 then n else if i = k ∧ j = 5 then S.1 o k 5 else if i = 6 ∧ j = 4 then S.1 o 6 4 else if i = 6 ∧ j = 5 then S.1 o 6 5 else S.1 o i j := fun i j => by
    simp only [up_val]
    have n6 : ¬ 6 = k := by omega
    by_cases i1 : i = k <;> by_cases i6 : i = 6 <;> by_cases j1 : j = 1 <;> by_cases j2 : j = 2 <;> by_cases j4 : j = 4 <;> by_cases j5 : j = 5 <;> simp_all
  have e0 : (up M 0 2 k n).1 0 0 = M.1 0 0 := up_row_ne _ _ (by decide)
  obtain ⟨b0, b1, hh, s7, s8, s9, s10, s11, s12⟩ := id hO
  refine ⟨?_, ok_ship hk hK hA (hK.1 k hk).2.2.1 h1, fun r hr => up_r _ _ hr, ⟨fun b h0 h2 h5 h6 => up_row_ne _ _ h2, fun j _ _ _ _ _ _ _ _ _ => by rw [e0]⟩, ?_, ?_, ?_, ?_⟩
  · rw [e0]
    refine own_ship hk hO h1 ⟨rfl, rfl, rfl, rfl, rfl⟩ s11 s12 (bits_keep b1) (fun j => by simp [up_val]) (fun j => ?_) ⟨up_row_ne _ _ (by decide), up_row_ne _ _ (by decide), up_row_ne _ _ (by decide)⟩
    rw [up_row_ne _ _ (by decide)]
    by_cases q : j = k
    · subst q; rw [if_pos rfl]; exact (hh j hk).2.2.2.1
    · rw [if_neg q]
  all_goals rw [e0]; simp
theorem act3 {S M : St} {o k : Nat} (hO : OwnRel (S.1 o) (M.1 0 0) (M.1 0)) (hK : OwnOk (S.1 o)) (hk : k < 6) : ActOk S (tX2_comeHome S o k) M (tX8_sail M (nI k)) o 3 (nI k) := by
  obtain ⟨m1, m2, m5, m0⟩ := sailM M hk
  obtain ⟨b0, b1, hh, s7, s8, s9, s10, s11, s12⟩ := id hO
  obtain ⟨s, hs, es⟩ := wi_kk (n := 40) (by decide) (hK.1 k hk).1
  have eA : (if 40 < S.1 o k 2 + 1 then 40 else S.1 o k 2 + 1) = if 40 ≤ M.1 0 2 k then 40 else M.1 0 2 k + 1 := by
    rw [(hh k hk).1, es, nI_1]
    by_cases c : s = 40
    · subst c; decide
    · rw [if_neg (show ¬ (40 : Int32) < nI (s + 1) from nI_nlt (b := s + 1) (a := 40) (by omega) (by decide)), if_neg (show ¬ (40 : Int32) ≤ nI s from nI_ge (b := 40) (a := s) (by omega) (by decide))]
  have hA : wi (if 40 < S.1 o k 2 + 1 then 40 else S.1 o k 2 + 1) 0 40 := by
    rw [es, nI_1]
    split
    · decide
    · rename_i c
      exact ⟨nI_pos' (by omega), Int32.not_lt.mp c⟩
  have h1 : ∀ i j, (tX2_comeHome S o k).1 o i j = if i = k ∧ j = 1 then S.1 o k 1 else if i = k ∧ j = 2 then (if 40 < S.1 o k 2 + 1 then 40 else S.1 o k 2 + 1) else if i = k ∧ j = 5 then 0 else if i = 6 ∧ j = 4 then (S.1 o 6 4 + S.1 o k 5 * S.1 o 6 1) else if i = 6 ∧ j = 5 then S.1 o 6 5 else S.1 o i j := fun i j => by
    unfold tX2_comeHome
    have n6 : ¬ 6 = k := by omega
    have n7 : ¬ k = 6 := by omega
    have e2 : (up S o 6 4 ((S.1 o 6 4) + ((S.1 o k 5) * (S.1 o 6 1)))).1 o k 2 = S.1 o k 2 := by rw [up_row_ne _ _ n7]
    rw [bnd_def, e2]
    simp only [up_val]
    generalize (if 40 < S.1 o k 2 + 1 then 40 else S.1 o k 2 + 1) = A
    by_cases i1 : i = k <;> by_cases i6 : i = 6 <;> by_cases j1 : j = 1 <;> by_cases j2 : j = 2 <;> by_cases j4 : j = 4 <;> by_cases j5 : j = 5 <;> simp_all
  refine ⟨?_, ok_ship hk hK hA (by decide) h1, fun r hr => ?_, ⟨fun b h0 h2 h5 h6 => m1 b h0 h2 h5, fun j _ _ _ h11 _ h23 _ _ _ => by rw [m0, if_neg h23, if_neg h11]⟩, ?_, ?_, ?_, ?_⟩
  · refine own_ship hk hO h1 ⟨by rw [m0]; rfl, by rw [m0]; rfl, by rw [m0]; rfl, by rw [m0]; rfl, by rw [m0]; rfl⟩ ?_ ?_ ?_ (fun j => ?_) (fun j => m5 j) ⟨m1 _ (by decide) (by decide) (by decide), m1 _ (by decide) (by decide) (by decide), m1 _ (by decide) (by decide) (by decide)⟩
    · rw [m0, if_neg (by decide), if_pos rfl, s11, (hh k hk).2.2.2.1, s8]
    · rw [m0, if_neg (by decide), if_neg (by decide), s12]
    · rw [m0, if_neg (by decide), if_neg (by decide)]; exact bits_keep b1
    · rw [m2, eA]
  · unfold tX2_comeHome
    rw [bnd_def, up_r _ _ hr, up_r _ _ hr, up_r _ _ hr]
  all_goals rw [m0]; simp
theorem sinkX (S : St) (o : Nat) {k : Nat} (hk : k < 6) : tX2_sink S o k = up (up (up S o 6 4 (S.1 o 6 4 + (tX4_allSums S o k - S.1 o k 3))) o 6 5 (S.1 o 6 5 + S.1 o k 4)) o k 1 0 := by
  unfold tX2_sink
  have n7 : ¬ k = 6 := by omega
  have e1 : ∀ v, (up S o 6 4 v).1 o 6 5 = S.1 o 6 5 := fun v => by simp [up_val]
  have e2 : ∀ v, (up S o 6 4 v).1 o k 4 = S.1 o k 4 := fun v => by rw [up_row_ne _ _ n7]
  rw [e1, e2, bnd_def, bnd_def]
theorem act4 {S M : St} {o k : Nat} (hO : OwnRel (S.1 o) (M.1 0 0) (M.1 0)) (hK : OwnOk (S.1 o)) (hk : k < 6) : ActOk S (tX2_sink S o k) M (tX8_sink M (nI k)) o 4 (nI k) := by
  obtain ⟨m1, m0⟩ := sinkM M hk
  obtain ⟨b0, b1, hh, s7, s8, s9, s10, s11, s12⟩ := id hO
  have h1 : ∀ i j, (tX2_sink S o k).1 o i j = if i = k ∧ j = 1 then 0 else if i = k ∧ j = 2 then S.1 o k 2 else if i = k ∧ j = 5 then S.1 o k 5 else if i = 6 ∧ j = 4 then (S.1 o 6 4 + (tX4_allSums S o k - S.1 o k 3)) else if i = 6 ∧ j = 5 then S.1 o 6 5 + S.1 o k 4 else S.1 o i j := fun i j => by
    rw [sinkX S o hk]
    generalize S.1 o 6 4 + (tX4_allSums S o k - S.1 o k 3) = G
    generalize S.1 o 6 5 + S.1 o k 4 = D
    simp only [up_val, true_and]
    by_cases i1 : i = k
    · subst i1
      have n7 : ¬ i = 6 := by omega
      by_cases j1 : j = 1
      · simp [j1]
      · by_cases j2 : j = 2
        · simp [j2, n7]
        · by_cases j5 : j = 5
          · simp [j5, n7]
          · simp [j1, j2, j5, n7]
    · by_cases i6 : i = 6
      · subst i6
        by_cases j4 : j = 4
        · simp [j4, i1]
        · by_cases j5 : j = 5
          · simp [j5, i1]
          · simp [j4, j5, i1]
      · simp [i1, i6]
  refine ⟨?_, ok_ship hk hK (hK.1 k hk).1 (hK.1 k hk).2.2.1 h1, fun r hr => ?_, ⟨fun b h0 h2 h5 h6 => m1 b h0, fun j n1 _ _ n11 n12 n23 n24 n25 n26 => by rw [m0, if_neg n23, if_neg n11, if_neg n12, if_neg n1, if_neg n24, if_neg n25, if_neg n26]⟩, ?_, ?_, ?_, ?_⟩
  · refine own_ship hk hO h1 ⟨by rw [m0]; rfl, by rw [m0]; rfl, by rw [m0]; rfl, by rw [m0]; rfl, by rw [m0]; rfl⟩ ?_ ?_ ?_ (fun j => ?_) (fun j => ?_) ⟨m1 _ (by decide), m1 _ (by decide), m1 _ (by decide)⟩
    · rw [m0, if_neg (by decide), if_pos rfl, s11, (hh k hk).2.1, sums_eq hO hk]
    · rw [m0, if_neg (by decide), if_neg (by decide), if_pos rfl, s12, (hh k hk).2.2.1]
    · rw [m0, if_neg (by decide), if_neg (by decide), if_neg (by decide), if_pos rfl]
      refine b1.clr hk (fun j hj => ?_)
      by_cases q : j = k <;> simp [q]
    · rw [m1 _ (by decide)]
      by_cases q : j = k
      · subst q; rw [if_pos rfl]; exact (hh j hk).1
      · rw [if_neg q]
    · rw [m1 _ (by decide)]
      by_cases q : j = k
      · subst q; rw [if_pos rfl]; exact (hh j hk).2.2.2.1
      · rw [if_neg q]
  · rw [sinkX S o hk, up_r _ _ hr, up_r _ _ hr, up_r _ _ hr]
  all_goals rw [m0]; simp
theorem act5 {S M : St} {o : Nat} {p : Int32} (hO : OwnRel (S.1 o) (M.1 0 0) (M.1 0)) (hK : OwnOk (S.1 o)) (hw : S.1 o 6 3 < 99) :
    ActOk S (up (up S o 6 2 (1 - (S.1 o 6 2))) o 6 3 (((up S o 6 2 (1 - (S.1 o 6 2))).1 o 6 3) + 1)) M (up (up M 0 0 9 (1 - (M.1 0 0 9))) 0 0 10 (((up M 0 0 9 (1 - (M.1 0 0 9))).1 0 0 10) + 1)) o 5 p := by
  obtain ⟨b0, b1, hh, s7, s8, s9, s10, s11, s12⟩ := id hO
  obtain ⟨k1, k2, k3, k4⟩ := id hK
  refine ⟨own_sc hO (fun k j hk => by simp [up_val, hk]) (fun i j hi _ => by simp [up_val, show ¬ i = 0 by omega]) (by simp [up_val]) ?_, ok_sc hK (fun k j hk => by simp [up_val, hk]) ?_, fun r hr => by rw [up_r _ _ hr, up_r _ _ hr], ⟨fun b h0 _ _ _ => by rw [up_row_ne _ _ h0, up_row_ne _ _ h0], fun j _ h9 h10 _ _ _ _ _ _ => by simp [up_val, h9, h10]⟩, ?_, ?_, ?_, ?_⟩
  · simp [up_val]
    refine ⟨s7, s8, by rw [s9], by rw [s10], s11, s12⟩
  · simp [up_val]
    obtain ⟨s, hs, es⟩ := wi_kk (n := 99) (by decide) k4
    obtain ⟨c, hc, ec⟩ := wi_kk (n := 1) (by decide) k3
    refine ⟨k2, ?_, ?_⟩
    · rw [ec, show (1 : Int32) = nI 1 from rfl, pk_sub (by omega)]
      exact ⟨nI_pos' (by omega), nI_le (b := 1) (by omega) (by decide)⟩
    · rw [es] at hw ⊢
      have := (nI_ltI (b := 99) (by omega) (by decide)).mp hw
      rw [nI_1]
      exact ⟨nI_pos' (by omega), nI_le (b := 99) (by omega) (by decide)⟩
  all_goals simp [up_val]
theorem act_eq {S M : St} {o : Nat} (hO : OwnRel (S.1 o) (M.1 0 0) (M.1 0)) (hK : OwnOk (S.1 o)) {a : Nat} (ha : a < 6) {p n : Int32} (h0 : a = 0 → wi n 0 2) (h1 : a = 1 → wi n 0 9) (hw : tX2_reasonAgainst S o (zk a) p n = 0) :
    ActOk S (tX2_act S o (zk a) p n) M (tX8_happen M (nI a) p n) o a p := by
  rcases why0 ha hw with ⟨rfl, hs⟩ | ⟨ha5, k, hk, rfl, hb, hf, hsum⟩
  · unfold tX2_act tX8_happen
    simp only [zkN, znI, zneq, if_true, if_false, bnd_def]
    exact act5 hO hK hs
  · have hat : isAt S o (nI k) := (isAt_nI hk).mpr hb
    unfold tX2_act tX8_happen
    rw [if_pos hat, nI_clamp (n := k) (by omega)]
    rcases (by omega : a = 0 ∨ a = 1 ∨ a = 2 ∨ a = 3 ∨ a = 4) with rfl | rfl | rfl | rfl | rfl
    · obtain ⟨f, hf3, rfl, ef⟩ := wi2_k (h0 rfl)
      have hs := hsum rfl
      simp only [zkN, znI, zneq, if_true, if_false, bnd_def]
      rw [sumAt_nI _ _ _ hf3] at hs ⊢
      rw [putSum_nI _ _ _ _ hf3, sidxE k hk f hf3]
      exact act0 hO hK hk hf3 hs
    · simp only [zkN, znI, zneq, if_true, if_false, bnd_def]
      exact act1 hO hK hk (h1 rfl)
    · simp only [zkN, znI, zneq, if_true, if_false, bnd_def]
      exact act2 hO hK hk
    · simp only [zkN, znI, zneq, if_true, if_false, bnd_def]
      exact act3 hO hK hk
    · simp only [zkN, znI, zneq, if_true, if_false, bnd_def]
      exact act4 hO hK hk
