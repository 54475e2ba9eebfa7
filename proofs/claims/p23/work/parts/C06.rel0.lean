/-! CLASS AND REFERENCE SIDE BY SIDE: kept or not, and how many states are told -/
def j_R0 (S : jS) (V : jH) : Prop := (S.2 0 1 = -1 ↔ V 1000 2 = 0) ∧ V 0 6 = V 1000 4
theorem j_R0_cw {V V1 : jH} {l1 h1 l2 h2 : Int} (h : j_cw V V1 0 l1 h1 l2 h2) : V1 0 6 = V 0 6 := h.2.2 6 (by decide)
theorem j_R0_step {S S1 : jS} {V V1 V2 : jH} (R : j_R0 S V) (n1 : j_cN S V 0 S1 V1) (k1 : S1.2 0 1 = S.2 0 1) (h6 : V1 0 6 = V 0 6) (n2 : j_mN S1 V1 1000 V2) (m2 : V2 1000 2 = V1 1000 2 ∧ V2 1000 4 = V1 1000 4) : j_R0 S1 V2 := by
  have e1 : V1 1000 = V 1000 := (n1.2.2 1000 (by omega)).2.2
  have e0 : V2 0 = V1 0 := n2.2.2 0 (by omega)
  unfold j_R0
  rw [k1, e0, h6, m2.1, m2.2, e1]
  exact R
theorem j_R0_tell {S : jS} {V V1 V2 : jH} {v r r2 : Int} (R : j_R0 S V) (q : j_q22 0 v V r V1) (m : j_r22 1000 v V1 r2 V2) : r = r2 ∧ j_R0 S V2 := by
  obtain ⟨R1, R2⟩ := R
  have e1 : V1 1000 = V 1000 := by
    rcases q with ⟨_, e, _⟩ | ⟨_, _, e⟩
    · rw [e]; exact j_up_ne (by omega)
    · rw [e, j_up_ne (by omega), j_up_ne (by omega)]
  unfold j_r22 at m
  rw [e1] at m
  rcases q with ⟨q1, q2, q3⟩ | ⟨q1, q2, q3⟩
  · rcases m with ⟨m1, m2, m3⟩ | ⟨m1, m2, m3⟩
    · have f1 : V2 1000 2 = V 1000 2 := by rw [m2]; unfold j_md; rw [j_up_off (by decide), e1]
      have f2 : V2 1000 4 = V 1000 4 := by rw [m2]; unfold j_md; rw [j_up_off (by decide), e1]
      have f3 : V2 0 6 = V 0 6 := by rw [m2, q2]; unfold j_md j_fd; rw [j_up_ne (by omega), j_up_off (by decide)]
      exact ⟨by rw [q3, m3], by rw [f1]; exact R1, by rw [f2, f3]; exact R2⟩
    · omega
  · rcases m with ⟨m1, m2, m3⟩ | ⟨m1, m2, m3⟩
    · omega
    · have f1 : V2 1000 2 = V 1000 2 := by rw [m3, j_up_off (by decide), j_up_ne (by omega), e1]
      have f2 : V2 1000 4 = V 1000 4 + 1 := by rw [m3, j_up_at]
      have f3 : V2 0 6 = V 0 6 + 1 := by rw [m3, j_up_ne (by omega), j_up_ne (by omega), q3, j_up_at]
      exact ⟨by rw [q2, m2]; omega, by rw [f1]; exact R1, by rw [f2, f3]; omega⟩
theorem j_R0_check {S : jS} {V V1 V2 : jH} {r r2 : Int} (R : j_R0 S V) (q : j_q23 0 V r V1) (n2 : j_mN S V1 1000 V2) (m : j_r23 1000 V1 r2 V2) : j_R0 S V2 := by
  obtain ⟨R1, R2⟩ := R
  have e1 : V1 1000 = V 1000 ∧ V1 0 6 = 0 := by
    rcases q with ⟨_, e, _⟩ | ⟨_, e, _⟩
    · rw [e]; unfold j_fd; exact ⟨by rw [j_up_ne (by omega), j_up_ne (by omega)], by rw [j_up_off (by decide), j_up_at]⟩
    · rw [e]; exact ⟨j_up_ne (by omega), j_up_at _ _ _ _⟩
  have e2 : V2 1000 2 = V1 1000 2 ∧ V2 1000 4 = 0 := by
    rcases m with ⟨_, e, _⟩ | ⟨_, x, ag, _⟩
    · rw [e]; unfold j_md; exact ⟨by rw [j_up_off (by decide), j_up_off (by decide)], by rw [j_up_off (by decide), j_up_at]⟩
    · have w := (j_ag_F ag).1.2
      exact ⟨by rw [w 2 (by omega), j_up_off (by decide)], by rw [w 4 (by omega), j_up_at]⟩
  have e0 : V2 0 = V1 0 := n2.2.2 0 (by omega)
  exact ⟨by rw [e2.1, e1.1]; exact R1, by rw [e0, e1.2, e2.2]⟩
theorem j_R0_keep {S S1 : jS} {V V1 V2 : jH} (R : j_R0 S V) (n1 : j_cN S V 0 S1 V1) (h6 : V1 0 6 = V 0 6) (k1 : S1.2 0 1 ≠ -1) (n2 : j_mN S1 V1 1000 V2) (m2 : V2 1000 2 = 1) (m4 : V2 1000 4 = V1 1000 4) : j_R0 S1 V2 := by
  have e1 : V1 1000 = V 1000 := (n1.2.2 1000 (by omega)).2.2
  have e0 : V2 0 = V1 0 := n2.2.2 0 (by omega)
  refine ⟨⟨fun z => absurd z k1, fun z => ?_⟩, ?_⟩
  · rw [m2] at z; exact absurd z (by decide)
  · rw [e0, h6, m4, e1]; exact R.2
theorem j_R0_back {S S1 : jS} {V V1 V2 : jH} {r r2 : Int} (R : j_R0 S V) (n1 : j_cN S V 0 S1 V1) (k1 : S1.2 0 1 = S.2 0 1) (h6 : V1 0 6 = V 0 6) (q : (S.2 0 1 = -1 ∧ r = -6) ∨ (S.2 0 1 ≠ -1 ∧ r = 1)) (n2 : j_mN S1 V1 1000 V2) (m : (V1 1000 2 = 0 ∧ V2 = j_md V1 1000 ∧ r2 = -6) ∨ (V1 1000 2 ≠ 0 ∧ r2 = 1 ∧ j_bookEq V1 V2 (1000 + 1) (1000 + 9) ∧ ∀ c : Int, (c < 1000 + 1 ∨ 1000 + 8 < c) → V2 c = V1 c)) : r = r2 ∧ j_R0 S1 V2 := by
  have e1 : V1 1000 = V 1000 := (n1.2.2 1000 (by omega)).2.2
  have e0 : V2 0 = V1 0 := n2.2.2 0 (by omega)
  have e2 : V2 1000 2 = V1 1000 2 ∧ V2 1000 4 = V1 1000 4 := by
    rcases m with ⟨_, e, _⟩ | ⟨_, _, _, f⟩
    · rw [e]; unfold j_md; exact ⟨j_up_off (by decide), j_up_off (by decide)⟩
    · rw [f 1000 (by omega)]; exact ⟨rfl, rfl⟩
  obtain ⟨R1, R2⟩ := R
  refine ⟨?_, by rw [k1, e2.1, e1]; exact R1, by rw [e0, h6, e2.2, e1]; exact R2⟩
  rw [e1] at m
  rcases q with ⟨q1, q2⟩ | ⟨q1, q2⟩
  · rcases m with ⟨_, _, m3⟩ | ⟨m1, _⟩
    · rw [q2, m3]
    · exact absurd (R1.mp q1) m1
  · rcases m with ⟨m1, _⟩ | ⟨_, m3, _⟩
    · exact absurd (R1.mpr m1) q1
    · rw [q2, m3]
theorem j_h6_q6 {S S' : jS} {V V' : jH} {a k r x : Int} (hI : j_cI S V a) (h : j_q6 a k r S V x S' V') : V' a 6 = V a 6 := by
  have s0 := hI.2.2.2.1.2.2.1.1
  rcases h with ⟨_, e0, e, _⟩ | ⟨_, _, _, _, _, e0, e, _⟩ | ⟨k0, k1, r0, r1, n1, ex, -, v1, v2, v3, v4, v5, v6⟩
  · rw [e]; exact j_up_off (by decide)
  · rw [e]; exact j_up_off (by decide)
  · have sx : a + 31 ≤ j_slotT (a + 1) x := by unfold j_slotT; omega
    rw [v6 a (by omega) (by omega)]
theorem j_m24_r6 {V V' : jH} {a k r x : Int} (h : j_r6 a k r V x V') : V' a 2 = V a 2 ∧ V' a 4 = V a 4 := by
  obtain ⟨-, e, -⟩ | ⟨-, -, -, -, -, e, -⟩ | ⟨k0, k1, r0, r1, h10, ex, e1, e4, e5, e6, e7, e8, e9⟩ := h
  · rw [e]; unfold j_md; exact ⟨j_up_off (by decide), j_up_off (by decide)⟩
  · rw [e]; unfold j_md; exact ⟨j_up_off (by decide), j_up_off (by decide)⟩
  · rw [e9 a (by omega) (by omega) (by omega) (by omega) (by omega)]; exact ⟨rfl, rfl⟩
