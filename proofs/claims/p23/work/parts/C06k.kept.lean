/-! whether something is kept stays -/
theorem j_k1_q6 {S S' : jS} {V V' : jH} {a k r x : Int} (hI : j_cI S V a) (h : j_q6 a k r S V x S' V') : S'.2 a 1 = S.2 a 1 := by
  have s0 := hI.2.2.2.1.2.2.1.1
  rcases h with ⟨_, e0, e, _⟩ | ⟨_, _, _, _, _, e0, e, _⟩ | ⟨k0, k1, r0, r1, n1, ex, ⟨m1, m2, m3, m4, m5⟩, v1, v2, v3, v4, v5, v6⟩
  · rw [e0]
  · rw [e0]
  · have sx : a + 31 ≤ j_slotT (a + 1) x := by unfold j_slotT; omega
    rw [(m5 a (by omega)).2 (by omega)]
theorem j_k1_q10 {S S' : jS} {V V' : jH} {a tb pt p r : Int} (h : j_q10 a tb pt p S V r S' V') : S'.2 a 1 = S.2 a 1 := by
  rcases h with ⟨_, e0, e, _⟩ | ⟨_, _, _, _, _, ⟨_, e0, e, _⟩ | ⟨_, ⟨i, _, _, _, _, e0, e, _⟩ | ⟨_, _, ⟨e0, e⟩ | ⟨d1, d2, e1, L1, ok, fr⟩⟩⟩⟩
  · rw [e0]
  · rw [e0]
  · rw [e0]
  · rw [e0]
  · rw [e1]
    show j_up _ _ _ _ a 1 = _
    rw [j_up_ne (by omega), j_ns2e _ _ _ (by omega)]
