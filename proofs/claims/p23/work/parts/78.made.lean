/-! THE LAYOUT while things are made -/
theorem j_L_mono {S S' : jS} (L : j_L S) (h1 : ∀ a : Int, S.1 a ≠ 0 → S'.1 a = S.1 a) (h2 : ∀ a : Int, 18 ≤ S'.1 a → S.1 a = S'.1 a) (h3 : ∀ a i : Int, 18 ≤ S.1 a → S.1 a ≠ 20 → ¬ (S.1 a = 24 ∧ i = 3) → ¬ (S.1 a = 31 ∧ i = 1) → S'.2 a i = S.2 a i) : j_L S' := by
  obtain ⟨M0, M1, M2, M3, M4, M5, M6, M7, M8, M9, M10, M11, M12, M13⟩ := L
  refine ⟨?_, ?_, ?_, ?_, ?_, ?_, ?_, ?_, ?_, ?_, ?_, ?_, ?_, ?_⟩
  · intro a ha
    have e : S.1 a = 21 := (h2 a (by omega)).trans ha
    obtain ⟨q0, q1, q2, q3, q4, q5, q6, q7, q8, q9⟩ := M0 a e
    exact ⟨(h3 a 0 (by omega) (by omega) (by omega) (by omega)).trans q0, (h1 _ (by omega)).trans q1, (h3 a 1 (by omega) (by omega) (by omega) (by omega)).trans q2, (h1 _ (by omega)).trans q3, (h3 a 2 (by omega) (by omega) (by omega) (by omega)).trans q4, (h1 _ (by omega)).trans q5, (h3 a 3 (by omega) (by omega) (by omega) (by omega)).trans q6, (h1 _ (by omega)).trans q7, (h3 a 4 (by omega) (by omega) (by omega) (by omega)).trans q8, (h1 _ (by omega)).trans q9⟩
  · intro a ha
    have e : S.1 a = 22 := (h2 a (by omega)).trans ha
    obtain ⟨q0, q1, q2, q3⟩ := M1 a e
    exact ⟨(h3 a 0 (by omega) (by omega) (by omega) (by omega)).trans q0, (h1 _ (by omega)).trans q1, (h3 a 3 (by omega) (by omega) (by omega) (by omega)).trans q2, (h1 _ (by omega)).trans q3⟩
  · intro a ha
    have e : S.1 a = 23 := (h2 a (by omega)).trans ha
    obtain ⟨q0, q1⟩ := M2 a e
    exact ⟨(h3 a 0 (by omega) (by omega) (by omega) (by omega)).trans q0, (h1 _ (by omega)).trans q1⟩
  · intro a ha
    have e : S.1 a = 24 := (h2 a (by omega)).trans ha
    obtain ⟨q0, q1, q2, q3⟩ := M3 a e
    exact ⟨(h3 a 0 (by omega) (by omega) (by omega) (by omega)).trans q0, (h1 _ (by omega)).trans q1, (h3 a 1 (by omega) (by omega) (by omega) (by omega)).trans q2, (h1 _ (by omega)).trans q3⟩
  · intro a ha
    have e : S.1 a = 25 := (h2 a (by omega)).trans ha
    obtain ⟨q0, q1⟩ := M4 a e
    exact ⟨(h3 a 0 (by omega) (by omega) (by omega) (by omega)).trans q0, (h1 _ (by omega)).trans q1⟩
  · intro a ha
    have e : S.1 a = 27 := (h2 a (by omega)).trans ha
    obtain ⟨q0, q1⟩ := M5 a e
    exact ⟨(h3 a 0 (by omega) (by omega) (by omega) (by omega)).trans q0, (h1 _ (by omega)).trans q1⟩
  · intro a ha
    have e : S.1 a = 28 := (h2 a (by omega)).trans ha
    obtain ⟨q0, q1, q2, q3, q4, q5, q6, q7, q8, q9⟩ := M6 a e
    exact ⟨(h3 a 0 (by omega) (by omega) (by omega) (by omega)).trans q0, (h1 _ (by omega)).trans q1, (h3 a 1 (by omega) (by omega) (by omega) (by omega)).trans q2, (h1 _ (by omega)).trans q3, (h3 a 2 (by omega) (by omega) (by omega) (by omega)).trans q4, (h1 _ (by omega)).trans q5, (h3 a 3 (by omega) (by omega) (by omega) (by omega)).trans q6, (h1 _ (by omega)).trans q7, (h3 a 4 (by omega) (by omega) (by omega) (by omega)).trans q8, (h1 _ (by omega)).trans q9⟩
  · intro a ha
    have e : S.1 a = 29 := (h2 a (by omega)).trans ha
    obtain ⟨q0, q1⟩ := M7 a e
    exact ⟨(h3 a 0 (by omega) (by omega) (by omega) (by omega)).trans q0, (h1 _ (by omega)).trans q1⟩
  · intro a ha
    have e : S.1 a = 30 := (h2 a (by omega)).trans ha
    obtain ⟨q0, q1, q2, q3, q4, q5⟩ := M8 a e
    exact ⟨(h3 a 0 (by omega) (by omega) (by omega) (by omega)).trans q0, (h1 _ (by omega)).trans q1, (h3 a 1 (by omega) (by omega) (by omega) (by omega)).trans q2, (h1 _ (by omega)).trans q3, (h3 a 3 (by omega) (by omega) (by omega) (by omega)).trans q4, (h1 _ (by omega)).trans q5⟩
  · intro a ha
    have e : S.1 a = 31 := (h2 a (by omega)).trans ha
    obtain ⟨q0, q1, q2, q3, q4, q5, q6, q7, q8, q9⟩ := M9 a e
    exact ⟨(h3 a 0 (by omega) (by omega) (by omega) (by omega)).trans q0, (h1 _ (by omega)).trans q1, (h3 a 2 (by omega) (by omega) (by omega) (by omega)).trans q2, (h1 _ (by omega)).trans q3, (h3 a 3 (by omega) (by omega) (by omega) (by omega)).trans q4, (h1 _ (by omega)).trans q5, (h3 a 4 (by omega) (by omega) (by omega) (by omega)).trans q6, (h1 _ (by omega)).trans q7, (h3 a 5 (by omega) (by omega) (by omega) (by omega)).trans q8, (h1 _ (by omega)).trans q9⟩
  · intro a ha
    have e : S.1 a = 32 := (h2 a (by omega)).trans ha
    obtain ⟨q0, q1, q2, q3, q4, q5, q6, q7, q8, q9, q10, q11, q12, q13⟩ := M10 a e
    exact ⟨(h3 a 0 (by omega) (by omega) (by omega) (by omega)).trans q0, (h1 _ (by omega)).trans q1, (h3 a 1 (by omega) (by omega) (by omega) (by omega)).trans q2, (h1 _ (by omega)).trans q3, (h3 a 3 (by omega) (by omega) (by omega) (by omega)).trans q4, (h1 _ (by omega)).trans q5, (h3 a 4 (by omega) (by omega) (by omega) (by omega)).trans q6, (h1 _ (by omega)).trans q7, (h3 a 5 (by omega) (by omega) (by omega) (by omega)).trans q8, (h1 _ (by omega)).trans q9, (h3 a 6 (by omega) (by omega) (by omega) (by omega)).trans q10, (h1 _ (by omega)).trans q11, (h3 a 8 (by omega) (by omega) (by omega) (by omega)).trans q12, (h1 _ (by omega)).trans q13⟩
  · intro a ha
    have e : S.1 a = 33 := (h2 a (by omega)).trans ha
    obtain ⟨q0, q1, q2, q3, q4, q5, q6, q7, q8, q9, q10, q11, q12, q13, q14, q15, q16, q17, q18, q19, q20, q21, q22, q23, q24, q25, q26, q27, q28, q29, q30, q31⟩ := M11 a e
    exact ⟨(h3 a 0 (by omega) (by omega) (by omega) (by omega)).trans q0, (h1 _ (by omega)).trans q1, (h3 a 1 (by omega) (by omega) (by omega) (by omega)).trans q2, (h1 _ (by omega)).trans q3, (h3 a 5 (by omega) (by omega) (by omega) (by omega)).trans q4, (h1 _ (by omega)).trans q5, (h3 a 6 (by omega) (by omega) (by omega) (by omega)).trans q6, (h1 _ (by omega)).trans q7, (h3 a 7 (by omega) (by omega) (by omega) (by omega)).trans q8, (h1 _ (by omega)).trans q9, (h3 a 8 (by omega) (by omega) (by omega) (by omega)).trans q10, (h1 _ (by omega)).trans q11, (h3 a 11 (by omega) (by omega) (by omega) (by omega)).trans q12, (h1 _ (by omega)).trans q13, (h3 a 14 (by omega) (by omega) (by omega) (by omega)).trans q14, (h1 _ (by omega)).trans q15, (h3 a 15 (by omega) (by omega) (by omega) (by omega)).trans q16, (h1 _ (by omega)).trans q17, (h3 a 16 (by omega) (by omega) (by omega) (by omega)).trans q18, (h1 _ (by omega)).trans q19, (h3 a 17 (by omega) (by omega) (by omega) (by omega)).trans q20, (h1 _ (by omega)).trans q21, (h3 a 19 (by omega) (by omega) (by omega) (by omega)).trans q22, (h1 _ (by omega)).trans q23, (h3 a 21 (by omega) (by omega) (by omega) (by omega)).trans q24, (h1 _ (by omega)).trans q25, (h3 a 28 (by omega) (by omega) (by omega) (by omega)).trans q26, (h1 _ (by omega)).trans q27, (h3 a 29 (by omega) (by omega) (by omega) (by omega)).trans q28, (h1 _ (by omega)).trans q29, (h3 a 30 (by omega) (by omega) (by omega) (by omega)).trans q30, (h1 _ (by omega)).trans q31⟩
  · intro a i ha i0 i1
    have e : S.1 a = 18 := (h2 a (by omega)).trans ha
    obtain ⟨q0, q1⟩ := M12 a i e i0 i1
    exact ⟨(h3 a i (by omega) (by omega) (by omega) (by omega)).trans q0, (h1 _ (by omega)).trans q1⟩
  · intro a i ha i0 i1
    have e : S.1 a = 19 := (h2 a (by omega)).trans ha
    obtain ⟨q0, q1⟩ := M13 a i e i0 i1
    exact ⟨(h3 a i (by omega) (by omega) (by omega) (by omega)).trans q0, (h1 _ (by omega)).trans q1⟩
