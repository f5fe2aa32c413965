/-! ===== CONSTRUCTORS: worlds as lists of cells that grow ===== -/
def KC (g : Gd) (U : State) : Prop := KN g U ∧ va_AO "BelowWorth$Ship" U ∧ va_AO "BelowWorth$Image" U ∧ va_Nw (.methodLinkNest "BelowWorth" 28 yX6_init "BelowWorth") U
theorem KC.warm {g : Gd} {s U : State} (hW : s.WarmedH U.vm) (h : KC g s) : KC g U := ⟨h.1.warm hW, va_AO.moved hW.alike h.2.1, va_AO.moved hW.alike h.2.2.1, va_Nw.warmM hW h.2.2.2⟩
theorem KC.calling {g : Gd} {U : State} {f : JFrame} {mk : MethodId} {a : Array Value} (h : KC g U) : KC g (U.calling f mk a) :=
  ⟨h.1.calling, va_AO.moved (u := U) (U := U.calling f mk a) (Vm.Alike.refl U.vm) h.2.1, va_AO.moved (u := U) (U := U.calling f mk a) (Vm.Alike.refl U.vm) h.2.2.1, va_Nw.same rfl (u := U) (U := U.calling f mk a) rfl h.2.2.2⟩
/-- what a constructor asks: its own cell, as 'new' left it -/
def PC (g : Gd) (sz : Nat) (ws : va_W) (U : State) : Prop := U.heap.size = sz ∧ va_P g.2.1 vwCl ws U.heap ∧ KC g U
/-- what it leaves -/
def QC (g : Gd) (A : Nat → Prop) (ws : va_W) (U : State) : Prop := va_P g.2.1 vwCl ws U.heap ∧ va_D A ws ∧ KC g U
theorem PC.blind {g : Gd} {sz : Nat} {ws : va_W} {av : List Value} : FrameBlind (va_Pc av (PC g sz ws)) := fun _ _ _ _ q => ⟨q.1, q.2.1, q.2.2.1, q.2.2.2.calling⟩
theorem va_D1 {A : Nat → Prop} {a : Nat} {e : va_E} (h : A a) : va_D A [(a, e)] := by
  refine ⟨fun i j p q hi hj _ => ?_, fun k q hk => ?_⟩
  · have h1 : i < 1 := (List.getElem?_eq_some_iff.mp hi).1
    have h2 : j < 1 := (List.getElem?_eq_some_iff.mp hj).1
    omega
  · have h1 : k < 1 := (List.getElem?_eq_some_iff.mp hk).1
    rw [show k = 0 by omega] at hk
    cases hk
    exact h
theorem cty {g : Gd} {U : State} {cA : ClassId} {ty : FieldType} (t : Nat) (h : va_K g.2.1 vwCl (tyR g ++ [(cA, ty)]) U) (ht : (tyR g)[t]? = some (g.2.2 t, ty)) (hp : ty = .int ∨ ty = .long ∨ ty = .boolean ∨ ∃ C, ty = .object C) : cA = g.2.2 t := by
  have h1 := (h.2 5 (cA, ty) rfl).2
  have h2 : va_RA U (g.2.2 t) ty := by
    have hlt : t < 5 := (List.getElem?_eq_some_iff.mp ht).1
    have h3 : (tyR g ++ [(cA, ty)])[t]? = some (g.2.2 t, ty) := by rw [List.getElem?_append_left hlt]; exact ht
    exact (h.2 t _ h3).2
  rcases hp with rfl | rfl | rfl | ⟨C, rfl⟩
  · exact Option.some.inj (h1.symm.trans h2)
  · exact Option.some.inj (h1.symm.trans h2)
  · exact Option.some.inj (h1.symm.trans h2)
  · obtain ⟨_, _, _, _, _, e1⟩ := h1
    obtain ⟨_, _, _, _, _, e2⟩ := h2
    exact Option.some.inj (e1.symm.trans e2)
theorem arrV_ext {c : ClassId} {n : Nat} {f f' : Nat → Value} (h : ∀ j, j < n → f j = f' j) : arrV c n f = arrV c n f' := by
  unfold arrV
  congr 1
  apply Array.ext
  · simp
  · intro i h1 h2
    simp at h1 h2 ⊢
    exact h i h1
/-- an array of references may be told by another function that agrees -/
theorem va_refs {D : va_G} {cl : List vw_C} {H : Heap} {a n : Nat} {cA : ClassId} {f f' : Nat → Option Nat} (h : ∀ j, j < n → f j = f' j) (hq : va_at D cl (a, .inl (cA, n, .inr (.inr (.inr (.inr f))))) H) : va_at D cl (a, .inl (cA, n, .inr (.inr (.inr (.inr f'))))) H := by
  have h1 : H[a]? = some (vp_cell cA (n, .inr (.inr (.inr (.inr f))))) := hq
  show H[a]? = some (vp_cell cA (n, .inr (.inr (.inr (.inr f')))))
  rw [h1, vp_cell_q, vp_cell_q, arrV_ext (fun j hj => by rw [h j hj])]
theorem va_Pset {D : va_G} {cl : List vw_C} {ws : va_W} {H : Heap} (h : va_P D cl ws H) (k : Nat) {a : Nat} {e e' : va_E} (hk : ws[k]? = some (a, e)) (he : va_at D cl (a, e) H → va_at D cl (a, e') H) : va_P D cl (ws.set k (a, e')) H := by
  intro j q hj
  rw [List.getElem?_set] at hj
  split at hj
  · rename_i hkj
    split at hj
    · cases hj
      exact he (h k _ hk)
    · cases hj
  · exact h j q hj
theorem va_Dset {A : Nat → Prop} {ws : va_W} (h : va_D A ws) (k : Nat) {a : Nat} {e e' : va_E} (hk : ws[k]? = some (a, e)) : va_D A (ws.set k (a, e')) := h.set hk
section BaseC
variable {p : Program} {l : Launch} {e : Env} {R : Room} {s : State} {m : MethodId} {args : Array Value} {below : List Frame} {meth : Method} {c : Code} {H : Heap} {locs : List Loc} {cells slots : Nat} {Q : State → Prop} {cc : ByteArray} {nL pc : Nat} {ls : Array Slot} {rest : List Value} {own : String} {g : Gd} {A : Nat → Prop} {H0 : Heap} {ws : va_W}
theorem entC {y : MethodName} {rm : Room} {h0 sz mc ms : Nat} {e0 : va_E} {Qc : Array Value → State → Outcome → State → Prop} {maxL : Nat} (hy : plainName y.cls = true) (hyn : y.name = "<init>") (hn : 1 ≤ maxL)
    (body : ∀ (p : Program) (e : Env) (s : State) (m : MethodId) (below : List Frame) (meth : Method) (c : Code) (args : Array Value) (Q : State → Prop), CallFix p m c cc maxL s args lw_all y.cls → meth.sig.returnType = none → meth.locks = false → meth.name = "<init>" → va_P g.2.1 vwCl [(h0, e0)] s.heap → va_D (va_A [(h0, e0)] sz) [(h0, e0)] → KC g s → (∀ q, s.heap.size ≤ q → va_A [(h0, e0)] sz q) → Q = MQ below Qc args s mc ms (va_A [(h0, e0)] sz) → ∀ ls : Array Slot, lv_has ls maxL [(0, .ref h0)] →
      W p l e rm s m args below meth c s.heap [] 0 0 Q (F0 m 0 ls [])) : Met l y (wU y cc maxL none) rm (va_Pc [.ref h0] (PC g sz [(h0, e0)])) Qc mc ms (va_A [(h0, e0)] sz) := by
  refine Met.ofW (cc := cc) (maxL := maxL) (ret := none) hy rfl ?_
  intro p e s m args below meth c s₁ B hml hv
  obtain ⟨rfl, hsz, hP, hK⟩ := hv
  have hl := lv_entry [.ref h0] (n := maxL) hn
  rw [lg_entry_eq]
  exact body p e s m below meth c _ _ ⟨B.exec, B.bytes, hml, findClass_of_methodNamed B.named, fun w hw => atoms_spec (ws := wU y cc maxL none) B.pre w (List.mem_cons_of_mem _ hw)⟩ B.returns B.notSynchronized ((name_of_methodNamed B.named B.method).1.trans hyn) hP (va_D1 (Or.inl ⟨0, e0, rfl⟩)) hK (fun q h => Or.inr (by rw [← hsz]; exact h)) rfl _ hl
theorem rvC {T : Type} {post : T → Prop} {B : T → State → Prop} {mc ms : Nat} (u : T) (hQ : Q = MQ below (va_Qv post B A) args s mc ms A) (C0 : CallFix p m c cc nL s args lw_all own) (hr : meth.sig.returnType = none) (hlocks : meth.locks = false) (hS : va_S A s.heap H locs) (hq : post u) (hB : ∀ t : State, t.heap = H → s.WarmedH t.vm → B u t) (hc : cells ≤ mc) (hs : slots ≤ ms) (hdg : decode cc pc = .ok (.return_, 1)) :
    W p l e R s m args below meth c H locs cells slots Q (F0 m pc ls []) := by
  subst hQ
  refine W.widen hc hs ?_
  exact W.vret C0.1 C0.2.1 hr (fun t ht hW => ⟨⟨u, rfl, hq, hB t ht hW⟩, hS.F ht⟩) hS.2.2 hdg hlocks
theorem preC {sz : Nat} {b : Nat} {e0 : va_E} (hP : va_P g.2.1 vwCl [(b, e0)] H) (hz : H.size = sz) (hK : KC g s) : PreS s H (va_Pc [.ref b] (PC g sz [(b, e0)])) [.ref b] :=
  ⟨PC.blind, fun U hU hW => ⟨rfl, by rw [hU]; exact hz, by rw [hU]; exact hP, hK.warm hW⟩⟩
theorem QC.of {ws : va_W} (hP : va_P g.2.1 vwCl ws H) (hD : va_D A ws) (hK : KC g s) (t : State) (ht : t.heap = H) (hW : s.WarmedH t.vm) : QC g A ws t := ⟨by rw [ht]; exact hP, hD, hK.warm hW⟩
end BaseC
/-! the two systems as they are made -/
def S0X : St := (fun r i j => if r < 4 ∧ i = 6 then (if j = 0 then 60 else if j = 1 then 5 else 0) else 0, fun _ => 0)
def S0M : St := (fun _ i j => if i = 0 then (if j = 7 then 60 else if j = 8 then 5 else 0) else 0, fun _ => 0)
theorem wl_Ads {ad : Nat → Nat → Nat} {V : List (Nat × Nat)} {ct : Nat → Nat → va_E} {A : Nat → Prop} (hn : V.Nodup) (h : va_D A (wl ad V ct)) : Ads ad V A := by
  refine ⟨hn, fun q hq q' hq' e => ?_, fun q hq => ?_⟩
  · obtain ⟨i, hi⟩ := List.getElem?_of_mem hq
    obtain ⟨j, hj⟩ := List.getElem?_of_mem hq'
    have hij := h.1 i j _ _ (wl_at (ad := ad) (ct := ct) (show V[i]? = some (q.1, q.2) from hi)) (wl_at (ad := ad) (ct := ct) (show V[j]? = some (q'.1, q'.2) from hj)) e
    subst hij
    exact Option.some.inj (hi.symm.trans hj)
  · obtain ⟨i, hi⟩ := List.getElem?_of_mem hq
    exact h.2 i _ (wl_at (ad := ad) (ct := ct) (show V[i]? = some (q.1, q.2) from hi))
/-- what BelowWorth() leaves, what BelowWorthModel() leaves: addresses u -/
def BX (g : Gd) (V : List (Nat × Nat)) (ct : CtF) (S : St) (A : Nat → Prop) (u : Nat → Nat → Nat) (U : State) : Prop := HW V ct (u, g.2) S U.heap ∧ Ads u V A ∧ KC g U
theorem KC.ad {g : Gd} {u : Nat → Nat → Nat} {U : State} (h : KC g U) : KC (u, g.2) U := h
