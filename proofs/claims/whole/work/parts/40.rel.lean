/-! ===== THE RELATION of the two states ===== -/
def BitsOf (x : Int32) (P : Nat → Prop) : Prop := ∃ n, n < 64 ∧ x = nI n ∧ ∀ k, k < 6 → (n.testBit k = true ↔ P k)
/-- an owner's ships and numbers, and the reference's rows for them -/
def OwnRel (ow : Nat → Nat → Int32) (sc : Nat → Int32) (ar : Nat → Nat → Int32) : Prop :=
  BitsOf (sc 0) (fun k => ¬ ow k 0 = 0) ∧ BitsOf (sc 1) (fun k => ¬ ow k 0 = 0 ∧ ¬ ow k 1 = 0) ∧
  (∀ k, k < 6 → ar 2 k = ow k 2 ∧ ar 3 k = ow k 3 ∧ ar 4 k = ow k 4 ∧ ar 5 k = ow k 5 ∧ ∀ e, e < 3 → ar 6 (3 * k + e) = ow (10 + k) e) ∧
  sc 7 = ow 6 0 ∧ sc 8 = ow 6 1 ∧ sc 9 = ow 6 2 ∧ sc 10 = ow 6 3 ∧ sc 11 = ow 6 4 ∧ sc 12 = ow 6 5
def OwnOk (ow : Nat → Nat → Int32) : Prop :=
  (∀ k, k < 6 → wi (ow k 2) 0 40 ∧ wi (ow k 3) 0 99 ∧ wi (ow k 5) 0 9 ∧ ∀ e, e < 3 → wi (ow (10 + k) e) 0 99) ∧ wi (ow 6 1) 0 20 ∧ wi (ow 6 2) 0 1 ∧ wi (ow 6 3) 0 99
def TalRel (tl : Nat → Nat → Int32) (cnt : Int32) (t1 t2 t3 : Nat → Int32) : Prop :=
  cnt = tl 0 0 ∧ wi (tl 0 0) 0 8 ∧ ∀ e, e < 8 → t1 e = tl 1 e ∧ t2 e = tl 2 e ∧ t3 e = b01 (tl 3 e) ∧ wi (tl 1 e) 0 7 ∧ wi (tl 2 e) 0 7
def PadRel (S M : St) : Prop := M.1 0 0 18 = S.1 4 0 0 ∧ wi (S.1 4 0 0) 0 60 ∧ ∀ j, j < 60 → M.1 0 17 j = S.1 4 1 j
/-- what a kept row holds, by the places of passAll -/
def kSc (K : Nat → Int32) : Nat → Int32 := fun j => if j < 2 then K j else K (j - 5)
def kAr (K : Nat → Int32) : Nat → Nat → Int32 := fun i k => if i < 6 then K (6 * i - 3 + k) else K (33 + k)
def ImgRel (q : Nat) (S M : St) : Prop :=
  b01 (M.1 0 36 q) = b01 (S.1 (10 + q) 0 0) ∧ (¬ S.1 (10 + q) 0 0 = 0 → OwnRel (S.1 (q + 2)) (kSc (fun j => M.1 0 35 (90 * q + j))) (kAr (fun j => M.1 0 35 (90 * q + j))) ∧ OwnOk (S.1 (q + 2)) ∧
    TalRel (S.1 (6 + (q + 1))) (M.1 0 35 (90 * q + 8)) (fun e => M.1 0 35 (90 * q + (51 + e))) (fun e => M.1 0 35 (90 * q + (59 + e))) (fun e => M.1 0 35 (90 * q + (67 + e))))
def Rel (S M : St) : Prop := OwnRel (S.1 0) (M.1 0 0) (M.1 0) ∧ OwnOk (S.1 0) ∧ PadRel S M ∧ TalRel (S.1 6) (M.1 0 0 16) (M.1 0 13) (M.1 0 14) (M.1 0 15) ∧ ImgRel 0 S M ∧ ImgRel 1 S M
theorem Rel.own {S M : St} (h : Rel S M) : OwnRel (S.1 0) (M.1 0 0) (M.1 0) := h.1
theorem Rel.ok {S M : St} (h : Rel S M) : OwnOk (S.1 0) := h.2.1
theorem Rel.pad {S M : St} (h : Rel S M) : PadRel S M := h.2.2.1
theorem Rel.tal {S M : St} (h : Rel S M) : TalRel (S.1 6) (M.1 0 0 16) (M.1 0 13) (M.1 0 14) (M.1 0 15) := h.2.2.2.1
theorem PadRel.cong {S M S' M' : St} (h : PadRel S M) (h4 : S'.1 4 = S.1 4) (h18 : M'.1 0 0 18 = M.1 0 0 18) (h17 : M'.1 0 17 = M.1 0 17) : PadRel S' M' := by
  unfold PadRel
  rw [h4, h18, h17]
  exact h
theorem ImgRel.cong {q : Nat} {S M S' M' : St} (h : ImgRel q S M) (h1 : S'.1 (10 + q) = S.1 (10 + q)) (h2 : S'.1 (q + 2) = S.1 (q + 2)) (h3 : S'.1 (6 + (q + 1)) = S.1 (6 + (q + 1))) (h35 : M'.1 0 35 = M.1 0 35) (h36 : M'.1 0 36 = M.1 0 36) : ImgRel q S' M' := by
  unfold ImgRel
  rw [h1, h2, h3, h35, h36]
  exact h
/-- all but the owner as it was -/
theorem Rel.ofOwn {S M S' M' : St} (h : Rel S M) (hO : OwnRel (S'.1 0) (M'.1 0 0) (M'.1 0)) (hK : OwnOk (S'.1 0)) (hS : ∀ r, r ≠ 0 → r ≠ 1 → r ≠ 5 → r ≠ 9 → S'.1 r = S.1 r) (h16 : M'.1 0 0 16 = M.1 0 0 16) (h18 : M'.1 0 0 18 = M.1 0 0 18)
    (h13 : M'.1 0 13 = M.1 0 13) (h14 : M'.1 0 14 = M.1 0 14) (h15 : M'.1 0 15 = M.1 0 15) (h17 : M'.1 0 17 = M.1 0 17) (h35 : M'.1 0 35 = M.1 0 35) (h36 : M'.1 0 36 = M.1 0 36) : Rel S' M' := by
  refine ⟨hO, hK, h.pad.cong (hS 4 (by decide) (by decide) (by decide) (by decide)) h18 h17, ?_, h.2.2.2.2.1.cong (hS 10 (by decide) (by decide) (by decide) (by decide)) (hS 2 (by decide) (by decide) (by decide) (by decide)) (hS 7 (by decide) (by decide) (by decide) (by decide)) h35 h36, h.2.2.2.2.2.cong (hS 11 (by decide) (by decide) (by decide) (by decide)) (hS 3 (by decide) (by decide) (by decide) (by decide)) (hS 8 (by decide) (by decide) (by decide) (by decide)) h35 h36⟩
  rw [hS 6 (by decide) (by decide) (by decide) (by decide), h16, h13, h14, h15]
  exact h.tal
theorem wjI {x : Int32} {a b : Int64} (A B : Int32) (ha : a.toInt = A.toInt) (hb : b.toInt = B.toInt) : wj (Int32.toInt64 x) a b ↔ wi x A B := by
  unfold wj wi
  rw [Int64.le_iff_toInt_le, Int64.le_iff_toInt_le, Int32.le_iff_toInt_le, Int32.le_iff_toInt_le, Int32.toInt_toInt64, ha, hb]
theorem plc_wi (x : Int32) : plc x ↔ wi x 0 5 := by
  unfold plc wi
  rw [Int32.lt_iff_toInt_lt, Int32.le_iff_toInt_le, Int32.le_iff_toInt_le, ti6, ti5]
  omega
theorem wi_k {x B : Int32} {n : Nat} (h : wi x 0 B) (hB : B = nI n) (hn : n < 2 ^ 31) : ∃ k, k ≤ n ∧ x = nI k ∧ x.toNatClampNeg = k := by
  subst hB
  obtain ⟨j, hj, rfl⟩ := (wi_nI hn).mp h
  exact ⟨j, hj, rfl, nI_clamp (by omega)⟩
theorem plc_k {x : Int32} (h : plc x) : ∃ k, k < 6 ∧ x = nI k ∧ x.toNatClampNeg = k := by
  obtain ⟨k, hk, e⟩ := wi_k (n := 5) ((plc_wi x).mp h) rfl (by decide)
  exact ⟨k, by omega, e⟩
theorem plc_nI {k : Nat} (hk : k < 6) : plc (nI k) := ⟨nI_pos' (by omega), nI_lt (b := 6) hk (by decide)⟩
theorem bit64 : ∀ n, n < 64 → ∀ k, k < 6 → ((ishrF (nI n) (nI k)) &&& 1 = 1 ↔ n.testBit k = true) := by decide +kernel
theorem bit64z : ∀ n, n < 64 → ∀ k, k < 6 → ((ishrF (nI n) (nI k)) &&& 1 = 0 ↔ ¬ n.testBit k = true) := by decide +kernel
theorem BitsOf.bit {x : Int32} {P : Nat → Prop} (h : BitsOf x P) {k : Nat} (hk : k < 6) : (ishrF x (nI k)) &&& 1 = 1 ↔ P k := by
  obtain ⟨n, hn, rfl, hb⟩ := h
  rw [bit64 n hn k hk, hb k hk]
theorem BitsOf.bitz {x : Int32} {P : Nat → Prop} (h : BitsOf x P) {k : Nat} (hk : k < 6) : (ishrF x (nI k)) &&& 1 = 0 ↔ ¬ P k := by
  obtain ⟨n, hn, rfl, hb⟩ := h
  rw [bit64z n hn k hk, hb k hk]
theorem set64 : ∀ n, n < 64 → ∀ k, k < 6 → (nI n ||| ishlF 1 (nI k)) = nI (n ||| 2 ^ k) ∧ (n ||| 2 ^ k) < 64 ∧ ∀ j, j < 6 → ((n ||| 2 ^ k).testBit j = true ↔ (j = k ∨ n.testBit j = true)) := by decide +kernel
theorem clr64 : ∀ n, n < 64 → ∀ k, k < 6 → (nI n &&& ((ishlF 1 (nI k)) ^^^ (-1))) = nI (n &&& (63 - 2 ^ k)) ∧ (n &&& (63 - 2 ^ k)) < 64 ∧ ∀ j, j < 6 → ((n &&& (63 - 2 ^ k)).testBit j = true ↔ (¬ j = k ∧ n.testBit j = true)) := by decide +kernel
theorem BitsOf.set {x : Int32} {P P' : Nat → Prop} {k : Nat} (hk : k < 6) (h : BitsOf x P) (hP : ∀ j, j < 6 → (P' j ↔ (j = k ∨ P j))) : BitsOf (x ||| ishlF 1 (nI k)) P' := by
  obtain ⟨n, hn, rfl, hb⟩ := h
  obtain ⟨e, hl, ht⟩ := set64 n hn k hk
  exact ⟨_, hl, e, fun j hj => by rw [ht j hj, hP j hj, hb j hj]⟩
theorem BitsOf.clr {x : Int32} {P P' : Nat → Prop} {k : Nat} (hk : k < 6) (h : BitsOf x P) (hP : ∀ j, j < 6 → (P' j ↔ (¬ j = k ∧ P j))) : BitsOf (x &&& ((ishlF 1 (nI k)) ^^^ (-1))) P' := by
  obtain ⟨n, hn, rfl, hb⟩ := h
  obtain ⟨e, hl, ht⟩ := clr64 n hn k hk
  exact ⟨_, hl, e, fun j hj => by rw [ht j hj, hP j hj, hb j hj]⟩
theorem BitsOf.cong {x : Int32} {P P' : Nat → Prop} (h : BitsOf x P) (hP : ∀ j, j < 6 → (P' j ↔ P j)) : BitsOf x P' := by
  obtain ⟨n, hn, rfl, hb⟩ := h
  exact ⟨n, hn, rfl, fun j hj => by rw [hb j hj, hP j hj]⟩
theorem mSh_iff {S M : St} {o : Nat} (h : OwnRel (S.1 o) (M.1 0 0) (M.1 0)) (p : Int32) : mSh M p ↔ isAt S o p := by
  unfold mSh isAt
  rw [wjI 0 5 (by decide) (by decide), ← plc_wi]
  constructor
  · rintro ⟨hp, hb⟩
    obtain ⟨k, hk, rfl, e⟩ := plc_k hp
    rw [e]
    exact ⟨hp, (h.1.bit hk).mp hb⟩
  · rintro ⟨hp, hb⟩
    obtain ⟨k, hk, rfl, e⟩ := plc_k hp
    rw [e] at hb
    exact ⟨hp, (h.1.bit hk).mpr hb⟩
theorem isAt_nI {S : St} {o k : Nat} (hk : k < 6) : isAt S o (nI k) ↔ ¬ S.1 o k 0 = 0 := by
  unfold isAt
  rw [nI_clamp (by omega)]
  exact ⟨fun h => h.2, fun h => ⟨plc_nI hk, h⟩⟩
theorem or64 : ∀ n, n < 64 → ∀ i, i < 6 → (n.testBit i = true → (nI (n % 2 ^ i) ||| ishlF 1 (nI i)) = nI (n % 2 ^ (i + 1))) ∧ (¬ n.testBit i = true → n % 2 ^ i = n % 2 ^ (i + 1)) := by decide +kernel
theorem bitsThere_eq {S : St} {o : Nat} {x : Int32} (h : BitsOf x (fun k => ¬ S.1 o k 0 = 0)) : tX2_bitsThere S o = x := by
  obtain ⟨n, hn, rfl, hb⟩ := h
  have hL : ∀ k i : Nat, i + k = 6 → LX2_bitsThere_4 S o k i (nI (n % 2 ^ i)) = nI n := by
    intro k
    induction k with
    | zero =>
      intro i hi
      obtain rfl : i = 6 := by omega
      rw [LX2_bitsThere_4, Nat.mod_eq_of_lt (by omega)]
    | succ k ih =>
      intro i hi
      rw [LX2_bitsThere_4]
      have hi6 : i < 6 := by omega
      obtain ⟨o1, o2⟩ := or64 n hn i hi6
      split
      · rename_i hc
        rw [o1 ((hb i hi6).mpr ((isAt_nI hi6).mp hc))]
        exact ih (i + 1) (by omega)
      · rename_i hc
        rw [o2 (fun q => hc ((isAt_nI hi6).mpr ((hb i hi6).mp q)))]
        exact ih (i + 1) (by omega)
  have := hL 6 0 rfl
  rwa [Nat.mod_one] at this
def bitC (S : St) (p1 : Int32) : Int32 := tJ6_bitCount_0f7a4 S p1
theorem cnt64 : ∀ n, n < 64 → ∀ S M : St, tJ6_bitCount_0f7a4 S (nI n) = tX8_bitsOf M (nI n) := by
  have h : ∀ n, n < 64 → tJ6_bitCount_0f7a4 S0X (nI n) = tX8_bitsOf S0X (nI n) := by decide +kernel
  intro n hn S M
  have e1 : tJ6_bitCount_0f7a4 S (nI n) = tJ6_bitCount_0f7a4 S0X (nI n) := rfl
  have e2 : ∀ (k : Nat) (a b : Int32), LX8_bitsOf_4 M (nI n) k a b = LX8_bitsOf_4 S0X (nI n) k a b := by
    intro k
    induction k with
    | zero => intro a b; rfl
    | succ k ih => intro a b; rw [LX8_bitsOf_4, LX8_bitsOf_4, ih]
  rw [e1, h n hn]
  exact (e2 _ _ _).symm
theorem countThere_eq {S M : St} {o : Nat} {x : Int32} (h : BitsOf x (fun k => ¬ S.1 o k 0 = 0)) : tX2_countThere S o = tX8_bitsOf M x := by
  unfold tX2_countThere
  rw [bitsThere_eq h]
  obtain ⟨n, hn, rfl, hb⟩ := h
  exact cnt64 n hn _ _
