/-! ===== BASE: a state is a memory (region, object, slot); a world is a list of cells over keys (region, object) ===== -/
abbrev St : Type := (Nat → Nat → Nat → Int32) × (Nat → Int64)
def up (S : St) (r i j : Nat) (v : Int32) : St := (fun a b => if a = r ∧ b = i then upd (S.1 a b) j v else S.1 a b, S.2)
def uL (S : St) (j : Nat) (v : Int64) : St := (S.1, vp_updL S.2 j v)
theorem up_row (S : St) (r i j : Nat) (v : Int32) : (up S r i j v).1 r i = upd (S.1 r i) j v := by simp [up]
theorem up_ne (S : St) {r i j a b : Nat} (v : Int32) (h : ¬ (a = r ∧ b = i)) : (up S r i j v).1 a b = S.1 a b := by simp [up, h]
theorem up_L (S : St) (r i j : Nat) (v : Int32) : (up S r i j v).2 = S.2 := rfl
theorem uL_I (S : St) (j : Nat) (v : Int64) : (uL S j v).1 = S.1 := rfl
def b01 (x : Int32) : Int32 := if x = 0 then 0 else 1
theorem b01_b01 (x : Int32) : b01 (b01 x) = b01 x := by unfold b01; by_cases h : x = 0 <;> simp [h]
theorem b01_nar (x : Int32) : narrow .boolean (.int (b01 x)) = .int (b01 x) := by unfold b01; by_cases h : x = 0 <;> simp [h] <;> rfl
theorem b01_fit (x : Int32) : fits .boolean (.int (b01 x)) = true := by unfold b01; by_cases h : x = 0 <;> simp [h] <;> rfl
theorem b01_vn (x : Int32) : vp_nar .boolean (b01 x) = b01 x := by unfold b01; by_cases h : x = 0 <;> simp [h] <;> rfl
theorem upd_b01 (f : Nat → Int32) (k : Nat) (x : Int32) : upd (fun j => b01 (f j)) k (b01 x) = fun j => b01 (upd f k x j) := by
  funext j; unfold upd; by_cases h : j = k <;> simp [h]
abbrev Gd : Type := (Nat → Nat → Nat) × va_G × (Nat → ClassId)
abbrev CtF : Type := Gd → St → Nat → Nat → va_E
def wl (ad : Nat → Nat → Nat) (V : List (Nat × Nat)) (ct : Nat → Nat → va_E) : va_W := V.map (fun q => (ad q.1 q.2, ct q.1 q.2))
theorem wl_at {ad : Nat → Nat → Nat} {V : List (Nat × Nat)} {ct : Nat → Nat → va_E} {j r i : Nat} (hj : V[j]? = some (r, i)) : (wl ad V ct)[j]? = some (ad r i, ct r i) := by
  simp [wl, hj]
theorem wl_set {ad : Nat → Nat → Nat} {V : List (Nat × Nat)} {ct ct' : Nat → Nat → va_E} {j r i : Nat} {e : va_E} (hn : V.Nodup) (hj : V[j]? = some (r, i)) (he : ct' r i = e) (ho : ∀ a b, ¬ (a = r ∧ b = i) → ct' a b = ct a b) :
    (wl ad V ct).set j (ad r i, e) = wl ad V ct' := by
  apply List.ext_getElem?
  intro k
  rw [List.getElem?_set]
  by_cases hk : j = k
  · subst hk
    obtain ⟨hlt, -⟩ := List.getElem?_eq_some_iff.mp hj
    have h2 : j < (wl ad V ct).length := by simp [wl, hlt]
    rw [if_pos rfl, if_pos h2, wl_at hj, he]
  · rw [if_neg hk]
    cases hq : V[k]? with
    | none => simp [wl, hq]
    | some q =>
      obtain ⟨a, b⟩ := q
      rw [wl_at hq, wl_at hq, ho a b ?_]
      rintro ⟨rfl, rfl⟩
      obtain ⟨h1, e1⟩ := List.getElem?_eq_some_iff.mp hj
      obtain ⟨h2, e2⟩ := List.getElem?_eq_some_iff.mp hq
      exact hk ((List.getElem_inj hn).mp (e1.trans e2.symm))
/-- the addresses of a world's keys are apart, and of a kind -/
def Ads (ad : Nat → Nat → Nat) (V : List (Nat × Nat)) (A : Nat → Prop) : Prop := V.Nodup ∧ (∀ q ∈ V, ∀ q' ∈ V, ad q.1 q.2 = ad q'.1 q'.2 → q = q') ∧ ∀ q ∈ V, A (ad q.1 q.2)
theorem Ads.D {ad : Nat → Nat → Nat} {V : List (Nat × Nat)} {A : Nat → Prop} (h : Ads ad V A) (ct : Nat → Nat → va_E) : va_D A (wl ad V ct) := by
  refine ⟨fun i j p q hp hq e => ?_, fun k q hq => ?_⟩
  · obtain ⟨a, ha, rfl⟩ : ∃ a, V[i]? = some a ∧ (ad a.1 a.2, ct a.1 a.2) = p := by simpa [wl] using hp
    obtain ⟨b, hb, rfl⟩ : ∃ b, V[j]? = some b ∧ (ad b.1 b.2, ct b.1 b.2) = q := by simpa [wl] using hq
    have hab := h.2.1 a (List.mem_of_getElem? ha) b (List.mem_of_getElem? hb) e
    subst hab
    obtain ⟨h1, e1⟩ := List.getElem?_eq_some_iff.mp ha
    obtain ⟨h2, e2⟩ := List.getElem?_eq_some_iff.mp hb
    exact (List.getElem_inj h.1).mp (e1.trans e2.symm)
  · obtain ⟨a, ha, rfl⟩ : ∃ a, V[k]? = some a ∧ (ad a.1 a.2, ct a.1 a.2) = q := by simpa [wl] using hq
    exact h.2.2 a (List.mem_of_getElem? ha)
def tyR (g : Gd) : List (ClassId × FieldType) := [(g.2.2 0, .int), (g.2.2 1, .long), (g.2.2 2, .boolean), (g.2.2 3, .object "BelowWorth$Ship"), (g.2.2 4, .object "BelowWorth$Image")]
/-- the two calls of a nest mate's private method -/
def NX (U : State) : Prop := va_Nw (.methodLinkNest "BelowWorth$Pad" 34 yX7_within "BelowWorth") U ∧ va_Nw (.methodLinkNest "BelowWorth$Namings" 71 yX7_within "BelowWorth") U
def KN (g : Gd) (U : State) : Prop := va_K g.2.1 vwCl (tyR g) U ∧ NX U
def HW (V : List (Nat × Nat)) (ct : CtF) (g : Gd) (S : St) (H : Heap) : Prop := va_P g.2.1 vwCl (wl g.1 V (ct g S)) H
def PW (V : List (Nat × Nat)) (ct : CtF) (g : Gd) (S : St) (U : State) : Prop := HW V ct g S U.heap ∧ KN g U
theorem KN.warm {g : Gd} {s U : State} (hW : s.WarmedH U.vm) (h : KN g s) : KN g U := ⟨va_K.moved hW.alike h.1, va_Nw.warmM hW h.2.1, va_Nw.warmM hW h.2.2⟩
theorem KN.calling {g : Gd} {U : State} {f : JFrame} {mk : MethodId} {a : Array Value} (h : KN g U) : KN g (U.calling f mk a) :=
  ⟨va_K.moved (u := U) (U := U.calling f mk a) (Vm.Alike.refl U.vm) h.1, va_Nw.same rfl (u := U) (U := U.calling f mk a) rfl h.2.1, va_Nw.same rfl (u := U) (U := U.calling f mk a) rfl h.2.2⟩
theorem PW.blind {V : List (Nat × Nat)} {ct : CtF} {g : Gd} {S : St} {av : List Value} : FrameBlind (va_Pc av (PW V ct g S)) :=
  fun _ _ _ _ q => ⟨q.1, q.2.1, q.2.2.calling⟩
theorem preV {V : List (Nat × Nat)} {ct : CtF} {g : Gd} {S : St} {s : State} {H : Heap} {C : String} {b : Addr} {As : List Value} (hrec : ∃ cellB : Cell, H[b]? = some cellB ∧ cellB.vm.isStatics = false ∧ s.vm.findClass C = some cellB.cls) (hP : HW V ct g S H) (hK : KN g s) : PreV s H C b (va_Pc (.ref b :: As) (PW V ct g S)) As :=
  ⟨PW.blind, hrec, fun U hU hW => ⟨rfl, by rw [hU]; exact hP, hK.warm hW⟩⟩
theorem preS {V : List (Nat × Nat)} {ct : CtF} {g : Gd} {S : St} {s : State} {H : Heap} {As : List Value} (hP : HW V ct g S H) (hK : KN g s) : PreS s H (va_Pc As (PW V ct g S)) As :=
  ⟨PW.blind, fun U hU hW => ⟨rfl, by rw [hU]; exact hP, hK.warm hW⟩⟩
/-- a key holds an object of class number ci, its fields read off its row -/
def IsO (V : List (Nat × Nat)) (ct : CtF) (g : Gd) (r i ci : Nat) (fsK : (Nat → Int32) → List Value) : Prop := (∃ j : Nat, V[j]? = some (r, i)) ∧ ∀ S : St, ct g S r i = .inr (ci, fsK (S.1 r i))
/-- a key holds an array of ints -/
def IsI (V : List (Nat × Nat)) (ct : CtF) (g : Gd) (r i n : Nat) : Prop := (∃ j : Nat, V[j]? = some (r, i)) ∧ ∀ S : St, ct g S r i = .inl (g.2.2 0, n, .inl (S.1 r i))
def IsZ (V : List (Nat × Nat)) (ct : CtF) (g : Gd) (r i n : Nat) : Prop := (∃ j : Nat, V[j]? = some (r, i)) ∧ ∀ S : St, ct g S r i = .inl (g.2.2 2, n, .inl (fun j => b01 (S.1 r i j)))
def IsJ (V : List (Nat × Nat)) (ct : CtF) (g : Gd) (r i n : Nat) : Prop := (∃ j : Nat, V[j]? = some (r, i)) ∧ (∀ S : St, ct g S r i = .inl (g.2.2 1, n, .inr (.inl S.2))) ∧ ∀ (S : St) (j : Nat) (v : Int64) (a b : Nat), ¬ (a = r ∧ b = i) → ct g (uL S j v) a b = ct g S a b
def IsQ (V : List (Nat × Nat)) (ct : CtF) (g : Gd) (r i n t : Nat) (f : Nat → Option Nat) : Prop := (∃ j : Nat, V[j]? = some (r, i)) ∧ ∀ S : St, ct g S r i = .inl (g.2.2 t, n, .inr (.inr (.inr (.inr f))))
/-- a write into one row changes that key's cell alone -/
def LocF (ct : CtF) : Prop := ∀ (g : Gd) (S : St) (r i j : Nat) (v : Int32) (a b : Nat), ¬ (a = r ∧ b = i) → ct g (up S r i j v) a b = ct g S a b
theorem recO {V : List (Nat × Nat)} {ct : CtF} {g : Gd} {S : St} {s : State} {H : Heap} {r i ci : Nat} {fsK : (Nat → Int32) → List Value} {q : vw_C} (hI : IsO V ct g r i ci fsK) (hP : HW V ct g S H) (hK : KN g s) (hc : vwCl[ci]? = some q) : ∃ cell : Cell, H[g.1 r i]? = some cell ∧ cell.vm.isStatics = false ∧ s.vm.findClass q.1 = some cell.cls := by
  obtain ⟨⟨j, hj⟩, he⟩ := hI
  exact va_recv hK.1 hP (q0 := j) hc ((wl_at hj).trans (by rw [he]))
abbrev wU (y : MethodName) (b : ByteArray) (n : Nat) (r : Option FieldType) : List Cond := Cond.code y b n r :: lw_all
theorem gA {ws : List Cond} (hw : ∀ w ∈ ws, w ∈ lw_all) : GoodIn lw_all ws := fun w h => ⟨hw w h, good_of_word (lw_all_good (hw w h))⟩
theorem gU {y : MethodName} {b : ByteArray} {n : Nat} {r : Option FieldType} (h : Cond.code y b n r ∈ lw_all) : GoodIn lw_all (wU y b n r) := gA fun w hw => by
  rcases List.mem_cons.mp hw with rfl | h3
  · exact h
  · exact h3
theorem gV {own C : String} {idx : Nat} {y : MethodName} {b : ByteArray} {n : Nat} {r : Option FieldType} (h1 : Cond.methodLink own idx y ∈ lw_all) (h2 : Cond.instanceMethod y ∈ lw_all) (h3 : Cond.selects C y y ∈ lw_all) (h4 : Cond.initialized C ∈ lw_all) (h5 : Cond.code y b n r ∈ lw_all) : GoodIn lw_all (wsV own idx C y (wU y b n r)) := gA fun w hw => by
  rcases List.mem_append.mp hw with h | h
  · simp only [List.mem_cons, List.not_mem_nil, or_false] at h
    rcases h with rfl | rfl | rfl | rfl <;> assumption
  · exact (gU h5 w h).1
theorem gS {own : String} {idx : Nat} {y : MethodName} {b : ByteArray} {n : Nat} {r : Option FieldType} (h1 : Cond.methodLink own idx y ∈ lw_all) (h2 : Cond.static y ∈ lw_all) (h3 : Cond.initialized y.cls ∈ lw_all) (h5 : Cond.code y b n r ∈ lw_all) : GoodIn lw_all (va_wsS own idx y (wU y b n r)) := gA fun w hw => by
  rcases List.mem_append.mp hw with h | h
  · simp only [List.mem_cons, List.not_mem_nil, or_false] at h
    rcases h with rfl | rfl | rfl <;> assumption
  · exact (gU h5 w h).1
section BaseW
variable {p : Program} {l : Launch} {e : Env} {R : Room} {s : State} {m : MethodId} {args : Array Value} {below : List Frame} {meth : Method} {c : Code} {H : Heap} {locs : List Loc} {cells slots : Nat} {Q : State → Prop} {cc : ByteArray} {nL pc : Nat} {ls : Array Slot} {rest : List Value} {Ts : List Cond} {own : String} {V : List (Nat × Nat)} {ct : CtF} {g : Gd} {S : St} {A : Nat → Prop} {H0 : Heap}
theorem gO {C : String} {T : u_T} {N ci index r i : Nat} {fsK : (Nat → Int32) → List Value} (C0 : CallFix p m c cc nL s args Ts own) (hin : ∀ w ∈ u_ws C T N, w ∈ Ts) (hK : KN g s) (hP : HW V ct g S H) (hI : IsO V ct g r i ci fsK) (hc : vwCl[ci]? = some (C, T, N)) (k : Nat) (hk : k < N) (hlink : (Cond.fieldLink own index (T k).1 (T k).2.1 (T k).2.2.1).before args s = true) {v : Value} (hv : (fsK (S.1 r i))[k]? = some v) (hdg : decode cc pc = .ok (.getfield index, 3))
    (kk : W p l e R s m args below meth c H locs cells slots Q (F0 m (pc + 3) ls (v :: rest))) : W p l e R s m args below meth c H locs cells slots Q (F0 m pc ls (.ref (g.1 r i) :: rest)) := by
  obtain ⟨⟨j, hj⟩, he⟩ := hI
  exact va_get C0.1 C0.2.1 C0.2.2.2.2 hin C0.2.2.2.1 hK.1 hP j (fs := fsK (S.1 r i)) ((wl_at hj).trans (by rw [he])) hc k hk hlink (fun _ h9 => h9) hv hdg kk
theorem pO {C : String} {T : u_T} {N ci index r i : Nat} {fsK : (Nat → Int32) → List Value} {ty0 : Nat → FieldType} (hL : LocF ct) (C0 : CallFix p m c cc nL s args Ts own) (hin : ∀ w ∈ u_ws C T N, w ∈ Ts) (hty : ∀ k, k < N → parseFieldDescriptor (T k).2.2.1 = some (ty0 k)) (hnm : ∀ a, a < N → ∀ b, b < N → a ≠ b → (T a).2.1 ≠ (T b).2.1) (hK : KN g s) (hP : HW V ct g S H) (hA : Ads g.1 V A) (hS : va_S A H0 H locs) (hI : IsO V ct g r i ci fsK) (hc : vwCl[ci]? = some (C, T, N)) (k : Nat) (hk : k < N) (hlink : (Cond.fieldLink own index (T k).1 (T k).2.1 (T k).2.2.1).before args s = true) (hfin : (T k).2.2.2 = false)
    (j : Nat) (v : Int32) {x : Value} (hset : fsK (upd (S.1 r i) j v) = (fsK (S.1 r i)).set k x) (hn : narrow (ty0 k) x = x) (hfit : fits (ty0 k) x = true) (hlen : k < (fsK (S.1 r i)).length) (hdg : decode cc pc = .ok (.putfield index, 3))
    (kk : ∀ (H1 : Heap) (locs1 : List Loc), HW V ct g (up S r i j v) H1 → va_S A H0 H1 locs1 → W p l e R s m args below meth c H1 locs1 cells slots Q (F0 m (pc + 3) ls rest)) : W p l e R s m args below meth c H locs cells slots Q (F0 m pc ls (x :: .ref (g.1 r i) :: rest)) := by
  obtain ⟨⟨q, hj⟩, he⟩ := hI
  refine va_put C0.1 C0.2.1 C0.2.2.2.2 hin ty0 hty hnm C0.2.2.2.1 hK.1 hP (hA.D _) hS q (fs := fsK (S.1 r i)) ((wl_at hj).trans (by rw [he])) hc k hk hlink (fun _ h9 => h9) hfin (hty k hk) hn hfit hlen hdg (fun H1 locs1 hP1 _ hS1 => kk H1 locs1 ?_ hS1)
  rw [wl_set (ct' := ct g (up S r i j v)) hA.1 hj (by rw [he, up_row, hset]) (fun a b h => hL g S r i j v a b h)] at hP1
  exact hP1
theorem gI {r i n : Nat} (C0 : CallFix p m c cc nL s args Ts own) (hK : KN g s) (hP : HW V ct g S H) (hI : IsI V ct g r i n) {x : Int32} (hin : vp_in x n) (hdg : decode cc pc = .ok (.iaload, 1))
    (kk : W p l e R s m args below meth c H locs cells slots Q (F0 m (pc + 1) ls (.int (S.1 r i x.toNatClampNeg) :: rest))) : W p l e R s m args below meth c H locs cells slots Q (F0 m pc ls (.int x :: .ref (g.1 r i) :: rest)) := by
  obtain ⟨⟨j, hj⟩, he⟩ := hI
  exact va_iald C0.1 C0.2.1 hK.1 hP j 0 ((wl_at hj).trans (by rw [he])) rfl hin hdg kk
theorem gZ {r i n : Nat} (C0 : CallFix p m c cc nL s args Ts own) (hK : KN g s) (hP : HW V ct g S H) (hI : IsZ V ct g r i n) {x : Int32} (hin : vp_in x n) (hdg : decode cc pc = .ok (.baload, 1))
    (kk : W p l e R s m args below meth c H locs cells slots Q (F0 m (pc + 1) ls (.int (b01 (S.1 r i x.toNatClampNeg)) :: rest))) : W p l e R s m args below meth c H locs cells slots Q (F0 m pc ls (.int x :: .ref (g.1 r i) :: rest)) := by
  obtain ⟨⟨j, hj⟩, he⟩ := hI
  exact va_zald C0.1 C0.2.1 hK.1 hP j 2 ((wl_at hj).trans (by rw [he])) rfl hin hdg kk
theorem gJ {r i n : Nat} (C0 : CallFix p m c cc nL s args Ts own) (hK : KN g s) (hP : HW V ct g S H) (hI : IsJ V ct g r i n) {x : Int32} (hin : vp_in x n) (hdg : decode cc pc = .ok (.laload, 1))
    (kk : W p l e R s m args below meth c H locs cells slots Q (F0 m (pc + 1) ls (.long (S.2 x.toNatClampNeg) :: rest))) : W p l e R s m args below meth c H locs cells slots Q (F0 m pc ls (.int x :: .ref (g.1 r i) :: rest)) := by
  obtain ⟨⟨j, hj⟩, he⟩ := hI
  exact va_lald C0.1 C0.2.1 hK.1 hP j 1 ((wl_at hj).trans (by rw [he.1])) rfl hin hdg kk
theorem gQ {r i n t : Nat} {f : Nat → Option Nat} {nm : String} (C0 : CallFix p m c cc nL s args Ts own) (hK : KN g s) (hP : HW V ct g S H) (hI : IsQ V ct g r i n t f) (ht : (tyR g)[t]? = some (g.2.2 t, .object nm)) {x : Int32} (hin : vp_in x n) (hdg : decode cc pc = .ok (.aaload, 1))
    (kk : W p l e R s m args below meth c H locs cells slots Q (F0 m (pc + 1) ls (va_rf (f x.toNatClampNeg) :: rest))) : W p l e R s m args below meth c H locs cells slots Q (F0 m pc ls (.int x :: .ref (g.1 r i) :: rest)) := by
  obtain ⟨⟨j, hj⟩, he⟩ := hI
  exact va_aldq C0.1 C0.2.1 hK.1 hP j t ((wl_at hj).trans (by rw [he])) ht hin hdg kk
theorem lenI {r i n : Nat} {v : Int32} (C0 : CallFix p m c cc nL s args Ts own) (hK : KN g s) (hP : HW V ct g S H) (hI : IsI V ct g r i n) (hv : Int32.ofNat n = v) (hdg : decode cc pc = .ok (.arraylength, 1))
    (kk : W p l e R s m args below meth c H locs cells slots Q (F0 m (pc + 1) ls (.int v :: rest))) : W p l e R s m args below meth c H locs cells slots Q (F0 m pc ls (.ref (g.1 r i) :: rest)) := by
  obtain ⟨⟨j, hj⟩, he⟩ := hI
  exact va_alen C0.1 C0.2.1 hK.1 hP j 0 (x := (n, .inl (S.1 r i))) ((wl_at hj).trans (by rw [he])) (ty := .int) rfl hv hdg kk
theorem lenJ {r i n : Nat} {v : Int32} (C0 : CallFix p m c cc nL s args Ts own) (hK : KN g s) (hP : HW V ct g S H) (hI : IsJ V ct g r i n) (hv : Int32.ofNat n = v) (hdg : decode cc pc = .ok (.arraylength, 1))
    (kk : W p l e R s m args below meth c H locs cells slots Q (F0 m (pc + 1) ls (.int v :: rest))) : W p l e R s m args below meth c H locs cells slots Q (F0 m pc ls (.ref (g.1 r i) :: rest)) := by
  obtain ⟨⟨j, hj⟩, he⟩ := hI
  exact va_alen C0.1 C0.2.1 hK.1 hP j 1 (x := (n, .inr (.inl S.2))) ((wl_at hj).trans (by rw [he.1])) (ty := .long) rfl hv hdg kk
theorem lenQ {r i n t : Nat} {f : Nat → Option Nat} {nm : String} {v : Int32} (C0 : CallFix p m c cc nL s args Ts own) (hK : KN g s) (hP : HW V ct g S H) (hI : IsQ V ct g r i n t f) (ht : (tyR g)[t]? = some (g.2.2 t, .object nm)) (hv : Int32.ofNat n = v) (hdg : decode cc pc = .ok (.arraylength, 1))
    (kk : W p l e R s m args below meth c H locs cells slots Q (F0 m (pc + 1) ls (.int v :: rest))) : W p l e R s m args below meth c H locs cells slots Q (F0 m pc ls (.ref (g.1 r i) :: rest)) := by
  obtain ⟨⟨j, hj⟩, he⟩ := hI
  exact va_alen C0.1 C0.2.1 hK.1 hP j t (x := (n, .inr (.inr (.inr (.inr f))))) ((wl_at hj).trans (by rw [he])) ht hv hdg kk
theorem pI {r i n : Nat} (hL : LocF ct) (C0 : CallFix p m c cc nL s args Ts own) (hK : KN g s) (hP : HW V ct g S H) (hA : Ads g.1 V A) (hS : va_S A H0 H locs) (hI : IsI V ct g r i n) {x v : Int32} (hin : vp_in x n) (hdg : decode cc pc = .ok (.iastore, 1))
    (kk : ∀ (H1 : Heap) (locs1 : List Loc), HW V ct g (up S r i x.toNatClampNeg v) H1 → va_S A H0 H1 locs1 → W p l e R s m args below meth c H1 locs1 cells slots Q (F0 m (pc + 1) ls rest)) : W p l e R s m args below meth c H locs cells slots Q (F0 m pc ls (.int v :: .int x :: .ref (g.1 r i) :: rest)) := by
  obtain ⟨⟨q, hj⟩, he⟩ := hI
  refine va_iast C0.1 C0.2.1 hK.1 hP (hA.D _) hS q 0 ((wl_at hj).trans (by rw [he])) rfl hin hdg (fun H1 locs1 hP1 _ hS1 => kk H1 locs1 ?_ hS1)
  rw [wl_set (ct' := ct g (up S r i x.toNatClampNeg v)) hA.1 hj (by rw [he, up_row]) (fun a b h => hL g S r i _ v a b h)] at hP1
  exact hP1
theorem pZ {r i n : Nat} (hL : LocF ct) (C0 : CallFix p m c cc nL s args Ts own) (hK : KN g s) (hP : HW V ct g S H) (hA : Ads g.1 V A) (hS : va_S A H0 H locs) (hI : IsZ V ct g r i n) {x v : Int32} (hin : vp_in x n) (hdg : decode cc pc = .ok (.bastore, 1))
    (kk : ∀ (H1 : Heap) (locs1 : List Loc), HW V ct g (up S r i x.toNatClampNeg v) H1 → va_S A H0 H1 locs1 → W p l e R s m args below meth c H1 locs1 cells slots Q (F0 m (pc + 1) ls rest)) : W p l e R s m args below meth c H locs cells slots Q (F0 m pc ls (.int (b01 v) :: .int x :: .ref (g.1 r i) :: rest)) := by
  obtain ⟨⟨q, hj⟩, he⟩ := hI
  refine va_zast C0.1 C0.2.1 hK.1 hP (hA.D _) hS q 2 ((wl_at hj).trans (by rw [he])) rfl hin hdg (fun H1 locs1 hP1 _ hS1 => kk H1 locs1 ?_ hS1)
  rw [b01_vn, upd_b01, wl_set (ct' := ct g (up S r i x.toNatClampNeg v)) hA.1 hj (by rw [he, up_row]) (fun a b h => hL g S r i _ v a b h)] at hP1
  exact hP1
theorem pJ {r i n : Nat} (C0 : CallFix p m c cc nL s args Ts own) (hK : KN g s) (hP : HW V ct g S H) (hA : Ads g.1 V A) (hS : va_S A H0 H locs) (hI : IsJ V ct g r i n) {x : Int32} {v : Int64} (hin : vp_in x n) (hdg : decode cc pc = .ok (.lastore, 1))
    (kk : ∀ (H1 : Heap) (locs1 : List Loc), HW V ct g (uL S x.toNatClampNeg v) H1 → va_S A H0 H1 locs1 → W p l e R s m args below meth c H1 locs1 cells slots Q (F0 m (pc + 1) ls rest)) : W p l e R s m args below meth c H locs cells slots Q (F0 m pc ls (.long v :: .int x :: .ref (g.1 r i) :: rest)) := by
  obtain ⟨⟨q, hj⟩, he, hl⟩ := hI
  refine va_last C0.1 C0.2.1 hK.1 hP (hA.D _) hS q 1 ((wl_at hj).trans (by rw [he])) rfl hin hdg (fun H1 locs1 hP1 _ hS1 => kk H1 locs1 ?_ hS1)
  rw [wl_set (ct' := ct g (uL S x.toNatClampNeg v)) hA.1 hj (by rw [he]; rfl) (fun a b h => hl S _ v a b h)] at hP1
  exact hP1
theorem ki {post : Int32 → St → Prop} {free : Addr → Prop} {a : Array Value} {st0 : List Value} (hr : va_Run p l e R s m args below meth c H locs cells slots 0 0 (F0 m pc ls st0) rest (va_Qi post (fun u U => PW V ct g u U) A a) free) (hS : va_S A H0 H locs) (hf : ∀ q, free q → A q)
    (kk : ∀ (r : Int32) (u : St) (H1 : Heap) (locs1 : List Loc), post r u → HW V ct g u H1 → va_S A H0 H1 locs1 → W p l e R s m args below meth c H1 locs1 cells slots Q (F0 m (pc + 3) ls (.int r :: rest))) : W p l e R s m args below meth c H locs cells slots Q (F0 m pc ls st0) :=
  va_calli hr hS (fun _ _ h => h) hf (fun r u _ H1 locs1 ht _ hw hB _ _ hS1 => kk r u H1 locs1 hw (by rw [← ht]; exact hB.1) hS1)
theorem kl {post : Int64 → St → Prop} {free : Addr → Prop} {a : Array Value} {st0 : List Value} (hr : va_Run p l e R s m args below meth c H locs cells slots 0 0 (F0 m pc ls st0) rest (va_Ql post (fun u U => PW V ct g u U) A a) free) (hS : va_S A H0 H locs) (hf : ∀ q, free q → A q)
    (kk : ∀ (r : Int64) (u : St) (H1 : Heap) (locs1 : List Loc), post r u → HW V ct g u H1 → va_S A H0 H1 locs1 → W p l e R s m args below meth c H1 locs1 cells slots Q (F0 m (pc + 3) ls (.long r :: rest))) : W p l e R s m args below meth c H locs cells slots Q (F0 m pc ls st0) :=
  va_calll hr hS (fun _ _ h => h) hf (fun r u _ H1 locs1 ht _ hw hB _ _ hS1 => kk r u H1 locs1 hw (by rw [← ht]; exact hB.1) hS1)
theorem kv {post : St → Prop} {free : Addr → Prop} {a : Array Value} {st0 : List Value} (hr : va_Run p l e R s m args below meth c H locs cells slots 0 0 (F0 m pc ls st0) rest (va_Qv post (fun u U => PW V ct g u U) A a) free) (hS : va_S A H0 H locs) (hf : ∀ q, free q → A q)
    (kk : ∀ (u : St) (H1 : Heap) (locs1 : List Loc), post u → HW V ct g u H1 → va_S A H0 H1 locs1 → W p l e R s m args below meth c H1 locs1 cells slots Q (F0 m (pc + 3) ls rest)) : W p l e R s m args below meth c H locs cells slots Q (F0 m pc ls st0) :=
  va_callv hr hS (fun _ _ h => h) hf (fun u _ H1 locs1 ht _ hw hB _ _ hS1 => kk u H1 locs1 hw (by rw [← ht]; exact hB.1) hS1)
theorem kq {post : Option Nat → St → Prop} {free : Addr → Prop} {a : Array Value} {st0 : List Value} (hr : va_Run p l e R s m args below meth c H locs cells slots 0 0 (F0 m pc ls st0) rest (va_Qq post (fun u U => PW V ct g u U) A a) free) (hS : va_S A H0 H locs) (hf : ∀ q, free q → A q)
    (kk : ∀ (r : Option Nat) (u : St) (H1 : Heap) (locs1 : List Loc), post r u → HW V ct g u H1 → va_S A H0 H1 locs1 → W p l e R s m args below meth c H1 locs1 cells slots Q (F0 m (pc + 3) ls (va_rf r :: rest))) : W p l e R s m args below meth c H locs cells slots Q (F0 m pc ls st0) :=
  va_callq hr hS (fun _ _ h => h) hf (fun r u _ H1 locs1 ht _ hw hB _ _ hS1 => kk r u H1 locs1 hw (by rw [← ht]; exact hB.1) hS1)
theorem ri {post : Int32 → St → Prop} {v : Int32} (hQ : Q = MQ below (va_Qi post (fun u U => PW V ct g u U) A) args s cells slots A) (C0 : CallFix p m c cc nL s args Ts own) (hr : meth.sig.returnType = some .int) (hlocks : meth.locks = false) (hK : KN g s) (hP : HW V ct g S H) (hS : va_S A s.heap H locs) (hq : post v S) (hdg : decode cc pc = .ok (.ireturn, 1)) :
    W p l e R s m args below meth c H locs cells slots Q (F0 m pc ls [.int v]) := by
  subst hQ
  exact W.iret C0.1 C0.2.1 hr (fun t ht hW => ⟨⟨v, S, rfl, hq, by rw [ht]; exact hP, hK.warm hW⟩, hS.F ht⟩) hS.2.2 hdg hlocks
theorem rz {post : Int32 → St → Prop} {v : Int32} (hQ : Q = MQ below (va_Qi post (fun u U => PW V ct g u U) A) args s cells slots A) (C0 : CallFix p m c cc nL s args Ts own) (hr : meth.sig.returnType = some .boolean) (hlocks : meth.locks = false) (hK : KN g s) (hP : HW V ct g S H) (hS : va_S A s.heap H locs) (hn : narrow .boolean (.int v) = .int v) (hq : post v S) (hdg : decode cc pc = .ok (.ireturn, 1)) :
    W p l e R s m args below meth c H locs cells slots Q (F0 m pc ls [.int v]) := by
  subst hQ
  exact W.zret C0.1 C0.2.1 hr hn (fun t ht hW => ⟨⟨v, S, rfl, hq, by rw [ht]; exact hP, hK.warm hW⟩, hS.F ht⟩) hS.2.2 hdg hlocks
theorem rl {post : Int64 → St → Prop} {v : Int64} (hQ : Q = MQ below (va_Ql post (fun u U => PW V ct g u U) A) args s cells slots A) (C0 : CallFix p m c cc nL s args Ts own) (hr : meth.sig.returnType = some .long) (hlocks : meth.locks = false) (hK : KN g s) (hP : HW V ct g S H) (hS : va_S A s.heap H locs) (hq : post v S) (hdg : decode cc pc = .ok (.lreturn, 1)) :
    W p l e R s m args below meth c H locs cells slots Q (F0 m pc ls [.long v]) := by
  subst hQ
  exact W.lret C0.1 C0.2.1 hr (fun t ht hW => ⟨⟨v, S, rfl, hq, by rw [ht]; exact hP, hK.warm hW⟩, hS.F ht⟩) hS.2.2 hdg hlocks
theorem rv {post : St → Prop} (hQ : Q = MQ below (va_Qv post (fun u U => PW V ct g u U) A) args s cells slots A) (C0 : CallFix p m c cc nL s args Ts own) (hr : meth.sig.returnType = none) (hlocks : meth.locks = false) (hK : KN g s) (hP : HW V ct g S H) (hS : va_S A s.heap H locs) (hq : post S) (hdg : decode cc pc = .ok (.return_, 1)) :
    W p l e R s m args below meth c H locs cells slots Q (F0 m pc ls []) := by
  subst hQ
  exact W.vret C0.1 C0.2.1 hr (fun t ht hW => ⟨⟨S, rfl, hq, by rw [ht]; exact hP, hK.warm hW⟩, hS.F ht⟩) hS.2.2 hdg hlocks
theorem rq {post : Option Nat → St → Prop} {nm : String} (v : Option Nat) (hQ : Q = MQ below (va_Qq post (fun u U => PW V ct g u U) A) args s cells slots A) (C0 : CallFix p m c cc nL s args Ts own) (hr : meth.sig.returnType = some (.object nm)) (hlocks : meth.locks = false) (hK : KN g s) (hP : HW V ct g S H) (hS : va_S A s.heap H locs) (hq : post v S) (hdg : decode cc pc = .ok (.areturn, 1)) :
    W p l e R s m args below meth c H locs cells slots Q (F0 m pc ls [va_rf v]) := by
  subst hQ
  exact W.aret C0.1 C0.2.1 hr (Or.inl ⟨nm, rfl⟩) (by cases v with | none => exact Or.inl rfl | some a => exact Or.inr ⟨a, rfl⟩) (fun t ht hW => ⟨⟨v, S, rfl, hq, by rw [ht]; exact hP, hK.warm hW⟩, hS.F ht⟩) hS.2.2 hdg hlocks
theorem ent {y : MethodName} {rm : Room} {av : List Value} {Qc : Array Value → State → Outcome → State → Prop} {maxL : Nat} {ret : Option FieldType} (hy : plainName y.cls = true) (hn : (lg_sl av).length ≤ maxL)
    (body : ∀ (p : Program) (e : Env) (s : State) (m : MethodId) (below : List Frame) (meth : Method) (c : Code) (args : Array Value) (Q : State → Prop), CallFix p m c cc maxL s args lw_all y.cls → meth.sig.returnType = ret → meth.locks = false → HW V ct g S s.heap → KN g s → Q = MQ below Qc args s 0 0 A → ∀ ls : Array Slot, lv_has ls maxL (lv_args 0 av) →
      W p l e rm s m args below meth c s.heap [] 0 0 Q (F0 m 0 ls [])) : Met l y (wU y cc maxL ret) rm (va_Pc av (PW V ct g S)) Qc 0 0 A := by
  refine Met.ofW (cc := cc) (maxL := maxL) (ret := ret) hy rfl ?_
  intro p e s m args below meth c s₁ B hml hv
  obtain ⟨rfl, hP, hK⟩ := hv
  have hl := lv_entry av hn
  rw [lg_entry_eq]
  exact body p e s m below meth c _ _ ⟨B.exec, B.bytes, hml, findClass_of_methodNamed B.named, fun w hw => atoms_spec (ws := wU y cc maxL ret) B.pre w (List.mem_cons_of_mem _ hw)⟩ B.returns B.notSynchronized hP hK rfl _ hl
theorem kzc {cnd : Prop} [Decidable cnd] {S' : St} {free : Addr → Prop} {a : Array Value} {st0 : List Value} (hr : va_Run p l e R s m args below meth c H locs cells slots 0 0 (F0 m pc ls st0) rest (va_Qi (fun r u => r = (if cnd then 1 else 0) ∧ u = S') (fun u U => PW V ct g u U) A a) free) (hS : va_S A H0 H locs) (hf : ∀ q, free q → A q)
    (k1 : cnd → ∀ (H1 : Heap) (locs1 : List Loc), HW V ct g S' H1 → va_S A H0 H1 locs1 → W p l e R s m args below meth c H1 locs1 cells slots Q (F0 m (pc + 3) ls (.int 1 :: rest)))
    (k0 : ¬ cnd → ∀ (H1 : Heap) (locs1 : List Loc), HW V ct g S' H1 → va_S A H0 H1 locs1 → W p l e R s m args below meth c H1 locs1 cells slots Q (F0 m (pc + 3) ls (.int 0 :: rest))) : W p l e R s m args below meth c H locs cells slots Q (F0 m pc ls st0) := by
  refine ki hr hS hf (fun r u H1 locs1 hw hP1 hS1 => ?_)
  obtain ⟨rfl, rfl⟩ := hw
  by_cases h : cnd
  · rw [if_pos h]; exact k1 h H1 locs1 hP1 hS1
  · rw [if_neg h]; exact k0 h H1 locs1 hP1 hS1
theorem kqc {cnd : Prop} [Decidable cnd] {b : Nat} {S' : St} {free : Addr → Prop} {a : Array Value} {st0 : List Value} (hr : va_Run p l e R s m args below meth c H locs cells slots 0 0 (F0 m pc ls st0) rest (va_Qq (fun r u => r = (if cnd then some b else none) ∧ u = S') (fun u U => PW V ct g u U) A a) free) (hS : va_S A H0 H locs) (hf : ∀ q, free q → A q)
    (k1 : cnd → ∀ (H1 : Heap) (locs1 : List Loc), HW V ct g S' H1 → va_S A H0 H1 locs1 → W p l e R s m args below meth c H1 locs1 cells slots Q (F0 m (pc + 3) ls (.ref b :: rest)))
    (k0 : ¬ cnd → ∀ (H1 : Heap) (locs1 : List Loc), HW V ct g S' H1 → va_S A H0 H1 locs1 → W p l e R s m args below meth c H1 locs1 cells slots Q (F0 m (pc + 3) ls (.null :: rest))) : W p l e R s m args below meth c H locs cells slots Q (F0 m pc ls st0) := by
  refine kq hr hS hf (fun r u H1 locs1 hw hP1 hS1 => ?_)
  obtain ⟨rfl, rfl⟩ := hw
  by_cases h : cnd
  · rw [if_pos h]; exact k1 h H1 locs1 hP1 hS1
  · rw [if_neg h]; exact k0 h H1 locs1 hP1 hS1
theorem kiP {v : Int32} {S' : St} {free : Addr → Prop} {a : Array Value} {st0 : List Value} (hr : va_Run p l e R s m args below meth c H locs cells slots 0 0 (F0 m pc ls st0) rest (va_Qi (fun r u => r = v ∧ u = S') (fun u U => PW V ct g u U) A a) free) (hS : va_S A H0 H locs) (hf : ∀ q, free q → A q)
    (k1 : ∀ (H1 : Heap) (locs1 : List Loc), HW V ct g S' H1 → va_S A H0 H1 locs1 → W p l e R s m args below meth c H1 locs1 cells slots Q (F0 m (pc + 3) ls (.int v :: rest))) : W p l e R s m args below meth c H locs cells slots Q (F0 m pc ls st0) := by
  refine ki hr hS hf (fun r u H1 locs1 hw hP1 hS1 => ?_)
  obtain ⟨rfl, rfl⟩ := hw
  exact k1 H1 locs1 hP1 hS1
theorem klP {v : Int64} {S' : St} {free : Addr → Prop} {a : Array Value} {st0 : List Value} (hr : va_Run p l e R s m args below meth c H locs cells slots 0 0 (F0 m pc ls st0) rest (va_Ql (fun r u => r = v ∧ u = S') (fun u U => PW V ct g u U) A a) free) (hS : va_S A H0 H locs) (hf : ∀ q, free q → A q)
    (k1 : ∀ (H1 : Heap) (locs1 : List Loc), HW V ct g S' H1 → va_S A H0 H1 locs1 → W p l e R s m args below meth c H1 locs1 cells slots Q (F0 m (pc + 3) ls (.long v :: rest))) : W p l e R s m args below meth c H locs cells slots Q (F0 m pc ls st0) := by
  refine kl hr hS hf (fun r u H1 locs1 hw hP1 hS1 => ?_)
  obtain ⟨rfl, rfl⟩ := hw
  exact k1 H1 locs1 hP1 hS1
end BaseW
def irm (x y : Int32) : Int32 := x - x / y * y
def lrm (x y : Int64) : Int64 := x - x / y * y
def ishlF (x y : Int32) : Int32 := x <<< (y &&& 31)
def ishrF (x y : Int32) : Int32 := x >>> (y &&& 31)
def iushrF (x y : Int32) : Int32 := (x.toUInt32 >>> (y.toUInt32 &&& Int32.toUInt32 31)).toInt32
section BaseN
variable {p : Program} {l : Launch} {e : Env} {R : Room} {s : State} {m : MethodId} {args : Array Value} {below : List Frame} {meth : Method} {c : Code} {H : Heap} {locs : List Loc} {cells slots : Nat} {Q : State → Prop} {cc : ByteArray} {pc : Nat} {ls : Array Slot} {rest : List Value}
theorem kirem (hexec : p.tables.exec = Jvm.exec) (hb : c.code = cc) {x y : Int32} (hdg : decode cc pc = .ok (.irem, 1)) (hne : ¬ y = 0) (k : W p l e R s m args below meth c H locs cells slots Q (F0 m (pc + 1) ls (.int (irm x y) :: rest))) : W p l e R s m args below meth c H locs cells slots Q (F0 m pc ls (.int y :: .int x :: rest)) := lv_irem hexec hb hdg hne k
theorem klrem (hexec : p.tables.exec = Jvm.exec) (hb : c.code = cc) {x y : Int64} (hdg : decode cc pc = .ok (.lrem, 1)) (hne : ¬ y = 0) (k : W p l e R s m args below meth c H locs cells slots Q (F0 m (pc + 1) ls (.long (lrm x y) :: rest))) : W p l e R s m args below meth c H locs cells slots Q (F0 m pc ls (.long y :: .long x :: rest)) := lv_lrem hexec hb hdg hne k
theorem kishl (hexec : p.tables.exec = Jvm.exec) (hb : c.code = cc) {x y : Int32} (hdg : decode cc pc = .ok (.ishl, 1)) (k : W p l e R s m args below meth c H locs cells slots Q (F0 m (pc + 1) ls (.int (ishlF x y) :: rest))) : W p l e R s m args below meth c H locs cells slots Q (F0 m pc ls (.int y :: .int x :: rest)) := lv_ishl hexec hb hdg k
theorem kishr (hexec : p.tables.exec = Jvm.exec) (hb : c.code = cc) {x y : Int32} (hdg : decode cc pc = .ok (.ishr, 1)) (k : W p l e R s m args below meth c H locs cells slots Q (F0 m (pc + 1) ls (.int (ishrF x y) :: rest))) : W p l e R s m args below meth c H locs cells slots Q (F0 m pc ls (.int y :: .int x :: rest)) := lv_ishr hexec hb hdg k
theorem kiushr (hexec : p.tables.exec = Jvm.exec) (hb : c.code = cc) {x y : Int32} (hdg : decode cc pc = .ok (.iushr, 1)) (k : W p l e R s m args below meth c H locs cells slots Q (F0 m (pc + 1) ls (.int (iushrF x y) :: rest))) : W p l e R s m args below meth c H locs cells slots Q (F0 m pc ls (.int y :: .int x :: rest)) := lv_iushr hexec hb hdg rfl k
theorem lcm_lt (x y : Int64) : lg_cmp x y < 0 ↔ x < y := by
  unfold lg_cmp
  by_cases h1 : x > y
  · have h2 : ¬ x < y := fun h => Int64.lt_irrefl (Int64.lt_trans h h1)
    simp only [if_pos h1, h2, iff_false]; decide
  · by_cases h2 : x = y
    · subst h2
      simp only [if_neg h1, if_pos rfl]
      exact ⟨fun h => absurd h (by decide), fun h => absurd h Int64.lt_irrefl⟩
    · simp only [if_neg h1, if_neg h2]
      exact ⟨fun _ => Int64.lt_of_le_of_ne (Int64.not_lt.mp h1) h2, fun _ => by decide⟩
theorem lcm_eq (x y : Int64) : lg_cmp x y = 0 ↔ x = y := by
  unfold lg_cmp
  by_cases h1 : x > y
  · have h2 : ¬ x = y := fun h => by subst h; exact Int64.lt_irrefl h1
    rw [if_pos h1]; exact ⟨fun h => absurd h (by decide), fun h => absurd h h2⟩
  · by_cases h2 : x = y
    · rw [if_neg h1, if_pos h2]; exact ⟨fun _ => h2, fun _ => rfl⟩
    · rw [if_neg h1, if_neg h2]; exact ⟨fun h => absurd h (by decide), fun h => absurd h h2⟩
theorem lcm_gt (x y : Int64) : 0 < lg_cmp x y ↔ y < x := by
  unfold lg_cmp
  by_cases h1 : x > y
  · have h2 : y < x := h1
    rw [if_pos h1]; exact ⟨fun _ => h2, fun _ => by decide⟩
  · have h2 : ¬ y < x := h1
    by_cases h3 : x = y
    · rw [if_neg h1, if_pos h3]; exact ⟨fun h => absurd h (by decide), fun h => absurd h h2⟩
    · rw [if_neg h1, if_neg h3]; exact ⟨fun h => absurd h (by decide), fun h => absurd h h2⟩
theorem klcmp_eq (hexec : p.tables.exec = Jvm.exec) (hb : c.code = cc) {x y : Int64} {off : Int} {tgt : Nat} (h1 : decode cc pc = .ok (.lcmp, 1)) (h2 : decode cc (pc + 1) = .ok (.ifCond .eq off, 3)) (ht : ((pc + 1 : Nat) : Int) + off = (tgt : Int)) (kt : x = y → W p l e R s m args below meth c H locs cells slots Q (F0 m tgt ls rest)) (kf : ¬ x = y → W p l e R s m args below meth c H locs cells slots Q (F0 m (pc + 1 + 3) ls rest)) : W p l e R s m args below meth c H locs cells slots Q (F0 m pc ls (.long y :: .long x :: rest)) :=
  W.lcmp hexec hb h1 (lv_if_eq hexec hb h2 ht (fun h => kt ((lcm_eq x y).mp h)) (fun h => kf (fun q => h ((lcm_eq x y).mpr q))))
theorem klcmp_ne (hexec : p.tables.exec = Jvm.exec) (hb : c.code = cc) {x y : Int64} {off : Int} {tgt : Nat} (h1 : decode cc pc = .ok (.lcmp, 1)) (h2 : decode cc (pc + 1) = .ok (.ifCond .ne off, 3)) (ht : ((pc + 1 : Nat) : Int) + off = (tgt : Int)) (kt : ¬ x = y → W p l e R s m args below meth c H locs cells slots Q (F0 m tgt ls rest)) (kf : x = y → W p l e R s m args below meth c H locs cells slots Q (F0 m (pc + 1 + 3) ls rest)) : W p l e R s m args below meth c H locs cells slots Q (F0 m pc ls (.long y :: .long x :: rest)) :=
  W.lcmp hexec hb h1 (lv_if_ne hexec hb h2 ht (fun h => kt (fun q => h ((lcm_eq x y).mpr q))) (fun h => kf ((lcm_eq x y).mp h)))
theorem klcmp_lt (hexec : p.tables.exec = Jvm.exec) (hb : c.code = cc) {x y : Int64} {off : Int} {tgt : Nat} (h1 : decode cc pc = .ok (.lcmp, 1)) (h2 : decode cc (pc + 1) = .ok (.ifCond .lt off, 3)) (ht : ((pc + 1 : Nat) : Int) + off = (tgt : Int)) (kt : x < y → W p l e R s m args below meth c H locs cells slots Q (F0 m tgt ls rest)) (kf : ¬ x < y → W p l e R s m args below meth c H locs cells slots Q (F0 m (pc + 1 + 3) ls rest)) : W p l e R s m args below meth c H locs cells slots Q (F0 m pc ls (.long y :: .long x :: rest)) :=
  W.lcmp hexec hb h1 (lv_if_lt hexec hb h2 ht (fun h => kt ((lcm_lt x y).mp h)) (fun h => kf (fun q => h ((lcm_lt x y).mpr q))))
theorem lcm_ge (x y : Int64) : 0 ≤ lg_cmp x y ↔ ¬ x < y := by rw [← lcm_lt]; exact Int32.not_lt.symm
theorem lcm_le (x y : Int64) : lg_cmp x y ≤ 0 ↔ ¬ y < x := by rw [← lcm_gt]; exact Int32.not_lt.symm
theorem klcmp_ge (hexec : p.tables.exec = Jvm.exec) (hb : c.code = cc) {x y : Int64} {off : Int} {tgt : Nat} (h1 : decode cc pc = .ok (.lcmp, 1)) (h2 : decode cc (pc + 1) = .ok (.ifCond .ge off, 3)) (ht : ((pc + 1 : Nat) : Int) + off = (tgt : Int)) (kt : ¬ x < y → W p l e R s m args below meth c H locs cells slots Q (F0 m tgt ls rest)) (kf : x < y → W p l e R s m args below meth c H locs cells slots Q (F0 m (pc + 1 + 3) ls rest)) : W p l e R s m args below meth c H locs cells slots Q (F0 m pc ls (.long y :: .long x :: rest)) :=
  W.lcmp hexec hb h1 (lv_if_ge hexec hb h2 ht (fun h => kt ((lcm_ge x y).mp h)) (fun h => kf (Classical.not_not.mp (fun q => h ((lcm_ge x y).mpr q)))))
theorem klcmp_gt (hexec : p.tables.exec = Jvm.exec) (hb : c.code = cc) {x y : Int64} {off : Int} {tgt : Nat} (h1 : decode cc pc = .ok (.lcmp, 1)) (h2 : decode cc (pc + 1) = .ok (.ifCond .gt off, 3)) (ht : ((pc + 1 : Nat) : Int) + off = (tgt : Int)) (kt : y < x → W p l e R s m args below meth c H locs cells slots Q (F0 m tgt ls rest)) (kf : ¬ y < x → W p l e R s m args below meth c H locs cells slots Q (F0 m (pc + 1 + 3) ls rest)) : W p l e R s m args below meth c H locs cells slots Q (F0 m pc ls (.long y :: .long x :: rest)) :=
  W.lcmp hexec hb h1 (lv_if_gt hexec hb h2 ht (fun h => kt ((lcm_gt x y).mp h)) (fun h => kf (fun q => h ((lcm_gt x y).mpr q))))
theorem klcmp_le (hexec : p.tables.exec = Jvm.exec) (hb : c.code = cc) {x y : Int64} {off : Int} {tgt : Nat} (h1 : decode cc pc = .ok (.lcmp, 1)) (h2 : decode cc (pc + 1) = .ok (.ifCond .le off, 3)) (ht : ((pc + 1 : Nat) : Int) + off = (tgt : Int)) (kt : ¬ y < x → W p l e R s m args below meth c H locs cells slots Q (F0 m tgt ls rest)) (kf : y < x → W p l e R s m args below meth c H locs cells slots Q (F0 m (pc + 1 + 3) ls rest)) : W p l e R s m args below meth c H locs cells slots Q (F0 m pc ls (.long y :: .long x :: rest)) :=
  W.lcmp hexec hb h1 (lv_if_le hexec hb h2 ht (fun h => kt ((lcm_le x y).mp h)) (fun h => kf (Classical.not_not.mp (fun q => h ((lcm_le x y).mpr q)))))
end BaseN
theorem vpx {x y : Int32} {N : Nat} (h0 : ¬ x < 0) (h1 : ¬ y ≤ x) (hy : y = nI N) (hN : N < 2 ^ 31) : vp_in x N := by
  obtain ⟨j, hj, rfl⟩ := nI_of h0
  subst hy
  exact vp_in_nI (Nat.lt_of_not_le (fun h => h1 ((nI_leI hN hj).mpr h))) hN
theorem vpx_lt {x : Int32} {N : Nat} (h : vp_in x N) : x.toNatClampNeg < N := Nat.not_le.mp fun q => h (Or.inr q)
theorem up_ge0 {B : Int32} {N i : Nat} (hB : B = nI N) (hik : i + 0 = N) (hN : N < 2 ^ 31) : B ≤ nI i := by subst hB; exact nI_le (by omega) (by omega)
theorem up_ge1 {B : Int32} {N i k : Nat} (hB : B = nI N) (hik : i + (k + 1) = N) (hN : N < 2 ^ 31) : ¬ B ≤ nI i := by subst hB; exact nI_ge (by omega) hN
theorem up_gt0 {B : Int32} {N i : Nat} (hB : B = nI N) (hik : i + 0 = N + 1) (hN : N + 1 < 2 ^ 31) : B < nI i := by subst hB; exact nI_lt (by omega) (by omega)
theorem up_gt1 {B : Int32} {N i k : Nat} (hB : B = nI N) (hik : i + (k + 1) = N + 1) (hN : N + 1 < 2 ^ 31) : ¬ B < nI i := by subst hB; exact nI_nlt (by omega) (by omega)
/-! the tree of a method, as the machine walks it -/
def bnd {α β : Type} (a : α) (f : α → β) : β := f a
theorem bnd_eq {α β : Type} {u a : α} {f : α → β} (h : u = a) : bnd a f = f u := by subst h; rfl
theorem fin2 {α β : Type} {F : α × β} {v : α} {u : β} (h : F = (v, u)) : v = F.1 ∧ u = F.2 := by rw [h]; exact ⟨rfl, rfl⟩
