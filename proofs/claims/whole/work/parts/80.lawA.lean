/-! ===== THE LAW: two worlds in one heap ===== -/
def AdS (ad : Nat → Nat → Nat) (V : List (Nat × Nat)) : Nat → Prop := fun q => ∃ k ∈ V, ad k.1 k.2 = q
theorem Ads.S {ad : Nat → Nat → Nat} {V : List (Nat × Nat)} {A : Nat → Prop} (h : Ads ad V A) : Ads ad V (AdS ad V) := ⟨h.1, h.2.1, fun q hq => ⟨q, hq, rfl⟩⟩
theorem Ads.A {ad : Nat → Nat → Nat} {V : List (Nat × Nat)} {A : Nat → Prop} (h : Ads ad V A) : ∀ q, AdS ad V q → A q := fun q hq => by
  obtain ⟨k, hk, rfl⟩ := hq
  exact h.2.2 k hk
/-- the addresses of the class's objects and of the reference's: none is both -/
def lw_Two (s : State) (adX adM : Nat → Nat → Nat) (g0 : va_G × (Nat → ClassId)) : Prop :=
  Ads adX VX (fun q => s.heap.size ≤ q) ∧ Ads adM VM (fun q => s.heap.size ≤ q) ∧ (∀ k ∈ VX, ∀ k' ∈ VM, ¬ adX k.1 k.2 = adM k'.1 k'.2) ∧ KN (adX, g0) s ∧ KN (adM, g0) s
theorem HW.kept {V : List (Nat × Nat)} {ct : CtF} {g : Gd} {S : St} {H H1 : Heap} {A1 : Nat → Prop} (h : HW V ct g S H) (hk : ∀ q : Nat, q < H.size → ¬ A1 q → H1[q]? = H[q]?) (hd : ∀ k ∈ V, ¬ A1 (g.1 k.1 k.2)) : HW V ct g S H1 := by
  refine va_P.kept (H := H) h (fun k x hx => hk x.1 ((h k x hx).lt) ?_)
  obtain ⟨a, ha, rfl⟩ : ∃ a, V[k]? = some a ∧ (g.1 a.1 a.2, ct g S a.1 a.2) = x := by simpa [wl] using hx
  exact hd a (List.mem_of_getElem? ha)
section LawC
variable {p : Program} {l : Launch} {e : Env} {R : Room} {s : State} {m : MethodId} {args : Array Value} {below : List Frame} {meth : Method} {c : Code} {H : Heap} {locs : List Loc} {cells slots : Nat} {Q : State → Prop} {pc : Nat} {ls : Array Slot} {rest : List Value} {V V' : List (Nat × Nat)} {ct ct' : CtF} {g g' : Gd} {S' : St} {A A1 : Nat → Prop} {H0 : Heap}
theorem lci {post : Int32 → St → Prop} {a : Array Value} {st0 : List Value} (hr : va_Run p l e R s m args below meth c H locs cells slots 0 0 (F0 m pc ls st0) rest (va_Qi post (fun u U => PW V ct g u U) A1 a) A1) (hS : va_S A H0 H locs) (hf : ∀ q, A1 q → A q) (h' : HW V' ct' g' S' H) (hd : ∀ k ∈ V', ¬ A1 (g'.1 k.1 k.2))
    (kk : ∀ (r : Int32) (u : St) (H1 : Heap) (locs1 : List Loc), post r u → HW V ct g u H1 → HW V' ct' g' S' H1 → va_S A H0 H1 locs1 → W p l e R s m args below meth c H1 locs1 cells slots Q (F0 m (pc + 3) ls (.int r :: rest))) : W p l e R s m args below meth c H locs cells slots Q (F0 m pc ls st0) :=
  va_calli hr hS (fun q _ h => hf q h) hf (fun r u _ H1 locs1 ht _ hw hB _ hk hS1 => kk r u H1 locs1 hw (by rw [← ht]; exact hB.1) (h'.kept hk hd) hS1)
theorem lcl {post : Int64 → St → Prop} {a : Array Value} {st0 : List Value} (hr : va_Run p l e R s m args below meth c H locs cells slots 0 0 (F0 m pc ls st0) rest (va_Ql post (fun u U => PW V ct g u U) A1 a) A1) (hS : va_S A H0 H locs) (hf : ∀ q, A1 q → A q) (h' : HW V' ct' g' S' H) (hd : ∀ k ∈ V', ¬ A1 (g'.1 k.1 k.2))
    (kk : ∀ (r : Int64) (u : St) (H1 : Heap) (locs1 : List Loc), post r u → HW V ct g u H1 → HW V' ct' g' S' H1 → va_S A H0 H1 locs1 → W p l e R s m args below meth c H1 locs1 cells slots Q (F0 m (pc + 3) ls (.long r :: rest))) : W p l e R s m args below meth c H locs cells slots Q (F0 m pc ls st0) :=
  va_calll hr hS (fun q _ h => hf q h) hf (fun r u _ H1 locs1 ht _ hw hB _ hk hS1 => kk r u H1 locs1 hw (by rw [← ht]; exact hB.1) (h'.kept hk hd) hS1)
/-- an int of the script on the stack -/
theorem lwA (hx : p.tables.exec = Jvm.exec) (hb : c.code = cL_law) {b L : Nat} {xs : Nat → Int32} (hX : va_X b L xs s H0) (hbl : b < H0.size) (hbA : ¬ A b) (hS : va_S A H0 H locs) {i : Nat} {v1 v2 : Value} (hl : lv_has ls 4 [(0, .ref b), (1, v1), (2, v2), (3, .int (nI i))]) (k : Nat) (hk : i + k < L) (hL : L ≤ 3072) {n : Int}
    (d0 : decode cL_law pc = .ok (.aload_n 0, 1)) (d1 : decode cL_law (pc + 1) = .ok (.iload_n 3, 1)) (d2 : decode cL_law (pc + 1 + 1) = .ok (.iconst n, 1)) (hn : Int32.ofInt n = nI k) (d3 : decode cL_law (pc + 1 + 1 + 1) = .ok (.iadd, 1)) (d4 : decode cL_law (pc + 1 + 1 + 1 + 1) = .ok (.iaload, 1))
    (kk : W p l e R s m args below meth c H locs cells slots Q (F0 m (pc + 1 + 1 + 1 + 1 + 1) ls (.int (xs (i + k)) :: rest))) : W p l e R s m args below meth c H locs cells slots Q (F0 m pc ls rest) := by
  refine lv_aload_n hx hb d0 rfl (lv_at hl 0 rfl) ?_
  refine lv_iload_n hx hb d1 rfl (lv_at hl 3 rfl) ?_
  refine lv_iconst (v := nI k) hx hb d2 hn ?_
  refine lv_iadd hx hb d3 ?_
  rw [nI_add]
  refine va_sld hx hb hX hbl hbA hS (vp_in_nI hk (by omega)) d4 ?_
  rw [nI_clamp (by omega)]
  exact kk
end LawC
theorem Rel.hp {S M : St} (h : Rel S M) : wi (M.1 0 0 18) 0 60 := by
  obtain ⟨e, w, -⟩ := h.pad
  rw [e]; exact w
theorem Rel.ht {S M : St} (h : Rel S M) : wi (M.1 0 0 16) 0 8 := by
  obtain ⟨e, w, -⟩ := h.tal
  rw [e]; exact w
theorem Rel.htk {S M : St} (h : Rel S M) : ∀ j, j < (M.1 0 0 16).toNatClampNeg → vp_in (M.1 0 13 j) 8 ∧ vp_in (M.1 0 14 j) 8 := by
  obtain ⟨hT, -, t, ht, -, e⟩ := tal_at h
  intro j hj
  rw [e, nI_clamp (by omega)] at hj
  obtain ⟨a, b, ha, hb, -, -, e1, e2, -⟩ := hT j (by omega)
  rw [e1, e2]
  exact ⟨vp_in_nI ha (by decide), vp_in_nI hb (by decide)⟩
/-- where a call's turn of the law's loop stands, and what it must come to -/
def lw_On (p : Program) (l : Launch) (e : Env) (s : State) (m : MethodId) (below : List Frame) (meth : Method) (c : Code) (b : Nat) (adX adM : Nat → Nat → Nat) (g0 : va_G × (Nat → ClassId)) (ls : Array Slot) (pc : Nat) : Prop :=
  ∀ (S M : St) (H : Heap) (locs : List Loc), Rel S M → HW VX ctX (adX, g0) S H → HW VM ctM (adM, g0) M H → va_S (fun q : Nat => s.heap.size ≤ q) s.heap H locs → W p l e room_1 s m #[Value.ref b] below meth c H locs 99 1330 (lw_Z below #[Value.ref b] s) (F0 m pc ls [])
