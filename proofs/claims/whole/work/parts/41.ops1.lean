/-! ===== the calls, one by one: the same answer, related states ===== -/
theorem up_val (S : St) (r i j : Nat) (v : Int32) (a b c : Nat) : (up S r i j v).1 a b c = if a = r ∧ b = i ∧ c = j then v else S.1 a b c := by
  unfold up upd
  by_cases h1 : a = r ∧ b = i
  · by_cases h2 : c = j
    · simp [h1, h2]
    · simp [h1, h2]
  · have h3 : ¬ (a = r ∧ b = i ∧ c = j) := fun q => h1 ⟨q.1, q.2.1⟩
    simp [h1, h3]
def Ans {α : Type} (r1 r2 : α × St) : Prop := r1.1 = r2.1 ∧ Rel r1.2 r2.2
theorem Ans.same {α : Type} {a : α} {S M : St} (h : Rel S M) : Ans (a, S) (a, M) := ⟨rfl, h⟩
theorem Ans.mk {α : Type} {a b : α} {S M : St} (e : a = b) (h : Rel S M) : Ans (a, S) (b, M) := ⟨e, h⟩
theorem E_sell {S M : St} (h : Rel S M) (p1 : Int32) : Ans (tX7_sell S p1) (tX8_sell M p1) := by
  unfold tX7_sell tX8_sell
  have hO := h.own
  by_cases hc : isAt S 0 p1
  · rw [if_pos hc, if_pos ((mSh_iff hO p1).mpr hc)]
    simp only [bnd_def]
    obtain ⟨k, hk, rfl, e⟩ := plc_k hc.1
    rw [e]
    have h10 : ∀ j, ¬ 10 + j = k := by omega
    have h6 : ¬ 6 = k := by omega
    have hN : OwnRel ((up S 0 k 0 0).1 0) ((up (up M 0 0 0 ((M.1 0 0 0) &&& ((ishlF 1 (nI k)) ^^^ (-1)))) 0 0 1 (((up M 0 0 0 ((M.1 0 0 0) &&& ((ishlF 1 (nI k)) ^^^ (-1)))).1 0 0 1) &&& ((ishlF 1 (nI k)) ^^^ (-1)))).1 0 0) ((up (up M 0 0 0 ((M.1 0 0 0) &&& ((ishlF 1 (nI k)) ^^^ (-1)))) 0 0 1 (((up M 0 0 0 ((M.1 0 0 0) &&& ((ishlF 1 (nI k)) ^^^ (-1)))).1 0 0 1) &&& ((ishlF 1 (nI k)) ^^^ (-1)))).1 0) := by
      obtain ⟨b0, b1, hr, hs⟩ := hO
      refine ⟨?_, ?_, fun j hj => ?_, ?_⟩
      · simp only [up_val]
        exact b0.clr hk (fun j hj => by by_cases hjk : j = k <;> simp [hjk])
      · simp only [up_val]
        exact b1.clr hk (fun j hj => by by_cases hjk : j = k <;> simp [hjk])
      · simp [up_val, h10]
        simpa using hr j hj
      · simp [up_val, h6]
        simpa using hs
    refine ⟨?_, h.ofOwn hN ?_ (fun r h0 _ _ _ => up_r _ _ h0) ?_ ?_ ?_ ?_ ?_ ?_ ?_ ?_⟩
    · exact countThere_eq hN.1
    · obtain ⟨k1, k2⟩ := h.ok
      refine ⟨fun j hj => ?_, ?_⟩
      · simp [up_val, h10]
        simpa using k1 j hj
      · simp [up_val, h6]
        simpa using k2
    all_goals first | (funext j; simp [up_val]; done) | simp [up_val]
  · rw [if_neg hc, if_neg (fun q => hc ((mSh_iff hO p1).mp q))]
    exact Ans.same h
