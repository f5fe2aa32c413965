/-! ===== how many ships at the least: the class's search ===== -/
/-- a way to give the first names ships below m, two ships where they are told apart -/
def zVal (f : Nat → Nat) (C : Nat → Nat → Prop) (m : Nat) (c : Nat → Nat) : Prop := (∀ p, p < 8 → f p = p → c p < m) ∧ ∀ p q, p < 8 → q < 8 → f p = p → f q = q → C p q → ¬ c p = c q
def FsOk (Z : St) (f : Nat → Nat) (C : Nat → Nat → Prop) : Prop := (∀ k, k < 8 → f k < 8 ∧ Z.1 9 1 k = nI (f k)) ∧ ∀ p q, p < 8 → q < 8 → f p = p → f q = q → (zB Z p q ↔ C p q)
def zKeep (n : Nat) (Z Y : St) : Prop := (∀ r, r ≠ 9 → Y.1 r = Z.1 r) ∧ (∀ j, j ≠ 3 → Y.1 9 j = Z.1 9 j) ∧ ∀ p, p < n → Y.1 9 3 p = Z.1 9 3 p
theorem zKeep.rf (n : Nat) (Z : St) : zKeep n Z Z := ⟨fun _ _ => rfl, fun _ _ => rfl, fun _ _ => rfl⟩
theorem zKeep.tr {n : Nat} {X Y Z : St} (h : zKeep n X Y) (h' : zKeep n Y Z) : zKeep n X Z := ⟨fun r hr => (h'.1 r hr).trans (h.1 r hr), fun j hj => (h'.2.1 j hj).trans (h.2.1 j hj), fun p hp => (h'.2.2 p hp).trans (h.2.2 p hp)⟩
theorem zKeep.lo {n k : Nat} {X Y : St} (h : zKeep k X Y) (hn : n ≤ k) : zKeep n X Y := ⟨h.1, h.2.1, fun p hp => h.2.2 p (by omega)⟩
theorem FsOk.keep {n : Nat} {Z Y : St} {f : Nat → Nat} {C : Nat → Nat → Prop} (h : FsOk Z f C) (hk : zKeep n Z Y) : FsOk Y f C := by
  refine ⟨fun k q => ?_, fun p q hp hq e1 e2 => ?_⟩
  · rw [hk.2.1 1 (by decide)]; exact h.1 k q
  · unfold zB; rw [hk.2.1 2 (by decide)]; exact h.2 p q hp hq e1 e2
theorem may_iff {Z : St} {f : Nat → Nat} {C : Nat → Nat → Prop} {c : Nat → Nat} {n s : Nat} (h : FsOk Z f C) (hn : n < 8) (hfn : f n = n) (hs : s < 8) (hc : ∀ p, p < n → f p = p → Z.1 9 3 p = nI (c p) ∧ c p < 8) :
    ∀ k i : Nat, i + k = n → (LX1_mayBeOn_2 Z (nI n) (nI s) k i = 0 ↔ ∃ p, i ≤ p ∧ p < n ∧ f p = p ∧ c p = s ∧ C n p) := by
  intro k
  induction k with
  | zero =>
    intro i hi
    rw [LX1_mayBeOn_2]
    refine ⟨fun w => absurd w (by decide), ?_⟩
    rintro ⟨p, h1, h2, -⟩
    omega
  | succ k ih =>
    intro i hi
    have hi8 : i < 8 := by omega
    have ih := ih (i + 1) (by omega)
    have step : ∀ P : Prop, (P ↔ (f i = i ∧ c i = s ∧ C n i)) → ((∃ p, i ≤ p ∧ p < n ∧ f p = p ∧ c p = s ∧ C n p) ↔ P ∨ ∃ p, i + 1 ≤ p ∧ p < n ∧ f p = p ∧ c p = s ∧ C n p) := fun P hP => by
      constructor
      · rintro ⟨p, h1, h2, h3⟩
        by_cases q : p = i
        · subst q; exact Or.inl (hP.mpr h3)
        · exact Or.inr ⟨p, by omega, h2, h3⟩
      · rintro (w | ⟨p, h1, h2, h3⟩)
        · exact ⟨i, Nat.le_refl _, by omega, hP.mp w⟩
        · exact ⟨p, by omega, h2, h3⟩
    rw [LX1_mayBeOn_2, if_neg (show ¬ (8 : Int32) ≤ nI i from nI_ge (b := 8) hi8 (by decide)), (h.1 i hi8).2]
    have hfi := (h.1 i hi8).1
    by_cases e : f i = i
    · rw [if_pos (by rw [e])]
      obtain ⟨z1, z2⟩ := hc i (by omega) e
      rw [z1]
      by_cases d : c i = s
      · rw [if_pos (by rw [d])]
        have ha : art Z (nI n) (nI i) ↔ C n i := (art_zB hn).trans (h.2 n i hn hi8 hfn e)
        by_cases w : C n i
        · rw [if_pos (ha.mpr w), step True ⟨fun _ => ⟨e, d, w⟩, fun _ => trivial⟩]
          exact ⟨fun _ => Or.inl trivial, fun _ => rfl⟩
        · rw [if_neg (fun q => w (ha.mp q)), ih, step False ⟨False.elim, fun q => w q.2.2⟩, false_or]
      · rw [if_neg (fun q => d ((nI_eq (by omega) (by omega)).mp q)), ih, step False ⟨False.elim, fun q => d q.2.1⟩, false_or]
    · rw [if_neg (fun q => e ((nI_eq (by omega) (by omega)).mp q)), ih, step False ⟨False.elim, fun q => e q.1⟩, false_or]
/-- what a search from name n on answers -/
def FsAns (f : Nat → Nat) (C : Nat → Nat → Prop) (n : Nat) (c : Nat → Nat) (u b : Nat) (Z : St) (R : Int32 × St) : Prop :=
  ∃ r Y, R = (nI r, Y) ∧ zKeep n Z Y ∧ r ≤ b ∧ (r = b ∨ ∃ c', zVal f C r c') ∧ ∀ m c', zVal f C m c' → (∀ p, p < n → f p = p → c' p = c p) → u ≤ m → r ≤ m
def FsRec (f : Nat → Nat) (C : Nat → Nat → Prop) (n : Nat) (rec : St → Nat → Int32 → Int32 → Int32 × St) : Prop :=
  ∀ (Z : St) (c : Nat → Nat) (u b : Nat), FsOk Z f C → u ≤ n → b ≤ 8 → (∀ p, p < n → f p = p → Z.1 9 3 p = nI (c p) ∧ c p < u) → (∀ p q, p < n → q < n → f p = p → f q = q → C p q → ¬ c p = c q) → FsAns f C n c u b Z (rec Z n (nI u) (nI b))
theorem fs_loop {f : Nat → Nat} {C : Nat → Nat → Prop} (hsym : ∀ p q, C p q → C q p) (hself : ∀ p, ¬ C p p) {n : Nat} (hn : n < 8) (hfn : f n = n) {rec : St → Nat → Int32 → Int32 → Int32 × St} (hrec : FsRec f C (n + 1) rec) {c : Nat → Nat} {u : Nat} (hu : u ≤ n) (hcv : ∀ p q, p < n → q < n → f p = p → f q = q → C p q → ¬ c p = c q) (S0 : St) (pb : Int32) :
    ∀ (k i x : Nat) (Y : St), i + k = u + 1 → x ≤ 8 → FsOk Y f C → (∀ p, p < n → f p = p → Y.1 9 3 p = nI (c p) ∧ c p < u) →
      ∃ r Y', LX7_fewestShips_40 rec S0 n (nI u) pb k i (nI x) Y = (nI r, Y') ∧ zKeep n Y Y' ∧ r ≤ x ∧ (r = x ∨ ∃ c', zVal f C r c') ∧ ∀ m c', zVal f C m c' → (∀ p, p < n → f p = p → c' p = c p) → u ≤ m → i ≤ c' n → c' n ≤ u → r ≤ m := by
  intro k
  induction k with
  | zero =>
    intro i x Y hi hx hY hc
    exact ⟨x, Y, by rw [LX7_fewestShips_40], zKeep.rf n Y, Nat.le_refl _, Or.inl rfl, fun m c' _ _ _ h1 h2 => by omega⟩
  | succ k ih =>
    intro i x Y hi hx hY hc
    have hi8 : i < 8 := by omega
    rw [LX7_fewestShips_40, if_neg (show ¬ (8 : Int32) ≤ nI i from nI_ge (b := 8) hi8 (by decide))]
    have hm := may_iff (s := i) hY hn hfn hi8 (fun p hp e => ⟨(hc p hp e).1, by have := (hc p hp e).2; omega⟩) n 0 (Nat.zero_add _)
    have hmay : tX1_mayBeOn Y (nI n) (nI i) = LX1_mayBeOn_2 Y (nI n) (nI i) n 0 := by unfold tX1_mayBeOn; rw [nI_clamp (by omega)]
    rw [hmay]
    by_cases w : LX1_mayBeOn_2 Y (nI n) (nI i) n 0 = 0
    · rw [if_pos w]
      obtain ⟨p, -, p1, p2, p3, p4⟩ := hm.mp w
      obtain ⟨r, Y', e, k1, k2, k3, k4⟩ := ih (i + 1) x Y (by omega) hx hY hc
      refine ⟨r, Y', e, k1, k2, k3, fun m c' hv ha hum h1 h2 => k4 m c' hv ha hum ?_ h2⟩
      have hne : ¬ c' n = c' p := hv.2 n p hn (by omega) hfn p2 p4
      rw [ha p p1 p2, p3] at hne
      omega
    · rw [if_neg w, bnd_def, bnd_def, bnd_def]
      have hput : tX1_putOn Y (nI n) (nI i) = up Y 9 3 n (nI i) := by
        unfold tX1_putOn
        rw [if_neg (nI_pos (by omega)), if_neg (show ¬ (8 : Int32) ≤ nI n from nI_ge (b := 8) hn (by decide)), nI_clamp (by omega)]
      rw [hput]
      have hmax : (if nI u < nI (i + 1) then nI (i + 1) else nI u) = nI (if u < i + 1 then i + 1 else u) := by
        by_cases q : u < i + 1
        · rw [if_pos ((nI_ltI (by omega) (by omega)).mpr q), if_pos q]
        · rw [if_neg (fun w => q ((nI_ltI (by omega) (by omega)).mp w)), if_neg q]
      rw [hmax]
      have hu' : (if u < i + 1 then i + 1 else u) ≤ n + 1 ∧ u ≤ (if u < i + 1 then i + 1 else u) ∧ i + 1 ≤ (if u < i + 1 then i + 1 else u) ∧ ∀ m, u ≤ m → i + 1 ≤ m → (if u < i + 1 then i + 1 else u) ≤ m := by
        by_cases q : u < i + 1
        · rw [if_pos q]; exact ⟨by omega, by omega, by omega, fun m _ h => h⟩
        · rw [if_neg q]; exact ⟨by omega, by omega, by omega, fun m h _ => h⟩
      generalize (if u < i + 1 then i + 1 else u) = u' at hu'
      obtain ⟨v1, v2, v3, v4⟩ := hu'
      have hK : zKeep n Y (up Y 9 3 n (nI i)) := ⟨fun r hr => up_r _ _ hr, fun j hj => up_row_ne _ _ hj, fun p hp => by simp [up_val, show ¬ p = n by omega]⟩
      have hO := hY.keep hK
      obtain ⟨r1, Y3, e1, g1, g2, g3, g4⟩ := hrec (up Y 9 3 n (nI i)) (fun p => if p = n then i else c p) u' x hO v1 hx (fun p hp e => by
        by_cases q : p = n
        · subst q; rw [if_pos rfl]; exact ⟨by simp [up_val], by omega⟩
        · rw [if_neg q, hK.2.2 p (by omega)]
          obtain ⟨z1, z2⟩ := hc p (by omega) e
          exact ⟨z1, by omega⟩) (fun p q hp hq ep eq hC => by
        have hno : ∀ p, p < n → f p = p → C n p → ¬ c p = i := fun p hp e hC q => w (hm.mpr ⟨p, Nat.zero_le _, hp, e, q, hC⟩)
        by_cases cp : p = n
        · by_cases cq : q = n
          · exfalso
            subst cp
            subst cq
            
            exact hself _ hC
          · rw [if_pos cp, if_neg cq]
            subst cp
            exact fun w => hno q (by omega) eq hC w.symm
        · by_cases cq : q = n
          · rw [if_neg cp, if_pos cq]
            subst cq
            exact hno p (by omega) ep (hsym _ _ hC)
          · rw [if_neg cp, if_neg cq]
            exact hcv p q (by omega) (by omega) ep eq hC)
      rw [e1]
      dsimp only
      have hk1 : zKeep n Y Y3 := hK.tr (g1.lo (by omega))
      obtain ⟨r, Y', e, k1, k2, k3, k4⟩ := ih (i + 1) r1 Y3 (by omega) (by omega) (hY.keep hk1) (fun p hp e => by rw [hk1.2.2 p hp]; exact hc p hp e)
      refine ⟨r, Y', e, hk1.tr k1, by omega, ?_, fun m c' hv ha hum h1 h2 => ?_⟩
      · rcases k3 with k3 | k3
        · rcases g3 with g3 | g3
          · exact Or.inl (k3.trans g3)
          · exact Or.inr (by rw [k3]; exact g3)
        · exact Or.inr k3
      · by_cases q : c' n = i
        · have := g4 m c' hv (fun p hp ep => by
            show c' p = if p = n then i else c p
            by_cases z : p = n
            · rw [if_pos z, z]; exact q
            · rw [if_neg z]; exact ha p (by omega) ep) (v4 m hum (by have := hv.1 n hn hfn; omega))
          omega
        · exact k4 m c' hv ha hum (by omega) h2
theorem zVal.swap {f : Nat → Nat} {C : Nat → Nat → Prop} {m : Nat} {c : Nat → Nat} (h : zVal f C m c) {a b : Nat} (ha : a < m) (hb : b < m) : zVal f C m (fun p => if c p = a then b else if c p = b then a else c p) := by
  refine ⟨fun p hp e => ?_, fun p q hp hq e1 e2 hC => ?_⟩
  · have := h.1 p hp e
    dsimp only
    split
    · exact hb
    · split
      · exact ha
      · exact this
  · have := h.2 p q hp hq e1 e2 hC
    dsimp only
    generalize c p = x at *
    generalize c q = y at *
    repeat' split
    all_goals omega
theorem fs_main {f : Nat → Nat} {C : Nat → Nat → Prop} (hsym : ∀ p q, C p q → C q p) (hself : ∀ p, ¬ C p p) : ∀ d n : Nat, n + d = 8 → FsRec f C n (tX7_FS (d + 1)) := by
  intro d
  induction d with
  | zero =>
    intro n hn Z c u b hZ hu hb hc hcv
    rw [tX7_FS]
    unfold tX7_fewestShips
    dsimp only
    have h8 : ¬ nI n < (8 : Int32) := fun w => by
      have := (nI_ltI (a := n) (b := 8) (by omega) (by decide)).mp w
      omega
    by_cases q : u < b
    · rw [if_pos ((nI_ltI (by omega) (by omega)).mpr q), if_neg h8]
      exact ⟨u, Z, rfl, zKeep.rf n Z, by omega, Or.inr ⟨c, fun p hp e => (hc p (by omega) e).2, fun p q hp hq => hcv p q (by omega) (by omega)⟩, fun m c' _ _ h => h⟩
    · rw [if_neg (fun w => q ((nI_ltI (by omega) (by omega)).mp w))]
      exact ⟨b, Z, rfl, zKeep.rf n Z, Nat.le_refl _, Or.inl rfl, fun m c' _ _ h => by omega⟩
  | succ d ih =>
    intro n hn Z c u b hZ hu hb hc hcv
    have hrec := ih (n + 1) (by omega)
    have hn8 : n < 8 := by omega
    rw [tX7_FS]
    generalize tX7_FS (d + 1) = rec at hrec
    unfold tX7_fewestShips
    dsimp only
    by_cases q : u < b
    rotate_left
    · rw [if_neg (fun w => q ((nI_ltI (by omega) (by omega)).mp w))]
      exact ⟨b, Z, rfl, zKeep.rf n Z, Nat.le_refl _, Or.inl rfl, fun m c' _ _ h => by omega⟩
    rw [if_pos ((nI_ltI (by omega) (by omega)).mpr q), if_pos (show nI n < (8 : Int32) from nI_lt (b := 8) hn8 (by decide))]
    obtain ⟨hfn, e1⟩ := hZ.1 n hn8
    rw [first_nI hn8 e1]
    by_cases e : f n = n
    · rw [if_pos (by rw [e]), nI_clamp (by omega)]
      obtain ⟨r, Y, e2, k1, k2, k3, k4⟩ := fs_loop hsym hself hn8 e hrec hu hcv Z (nI b) (u + 1) 0 b Z (by omega) hb hZ hc
      refine ⟨r, Y, e2, k1, k2, k3, fun m c' hv ha hum => ?_⟩
      by_cases w : c' n ≤ u
      · exact k4 m c' hv ha hum (Nat.zero_le _) w
      · have hm := hv.1 n hn8 e
        refine k4 m _ (hv.swap (a := c' n) (b := u) hm (by omega)) (fun p hp ep => ?_) hum (Nat.zero_le _) (by rw [if_pos rfl]; exact Nat.le_refl _)
        have h1 := ha p hp ep
        have h2 := (hc p hp ep).2
        rw [if_neg (by omega), if_neg (by omega)]
        exact h1
    · rw [if_neg (fun w => e ((nI_eq (by omega) (by omega)).mp w)), bnd_def, bnd_def]
      obtain ⟨r, Y, e2, k1, k2, k3, k4⟩ := hrec Z c u b hZ (by omega) hb (fun p hp ep => hc p (by
        have : ¬ p = n := fun w => e (by rw [← w]; exact ep)
        omega) ep) (fun p q hp hq ep eq => hcv p q (by
        have : ¬ p = n := fun w => e (by rw [← w]; exact ep)
        omega) (by
        have : ¬ q = n := fun w => e (by rw [← w]; exact eq)
        omega) ep eq)
      rw [e2]
      exact ⟨r, Y, rfl, k1.lo (by omega), k2, k3, fun m c' hv ha hum => k4 m c' hv (fun p hp ep => ha p (by
        have : ¬ p = n := fun w => e (by rw [← w]; exact ep)
        omega) ep) hum⟩
theorem fs_least {f : Nat → Nat} {C : Nat → Nat → Prop} {Z : St} (hZ : FsOk Z f C) (hsym : ∀ p q, C p q → C q p) (hself : ∀ p, ¬ C p p) : ∃ r Y, tX7_FS 9 Z 0 0 8 = (nI r, Y) ∧ zKeep 0 Z Y ∧ (∃ c, zVal f C r c) ∧ ∀ m c, zVal f C m c → r ≤ m := by
  obtain ⟨r, Y, e, k1, k2, k3, k4⟩ := fs_main hsym hself 8 0 rfl Z (fun _ => 0) 0 8 hZ (Nat.le_refl _) (Nat.le_refl _) (fun p hp => absurd hp (Nat.not_lt_zero _)) (fun p q hp => absurd hp (Nat.not_lt_zero _))
  refine ⟨r, Y, e, k1, ?_, fun m c hv => k4 m c hv (fun p hp => absurd hp (Nat.not_lt_zero _)) (Nat.zero_le _)⟩
  rcases k3 with rfl | k3
  · exact ⟨fun p => p, fun p hp _ => hp, fun p q _ _ _ _ hC h => by
      dsimp only at h
      rw [h] at hC
      exact hself _ hC⟩
  · exact k3
