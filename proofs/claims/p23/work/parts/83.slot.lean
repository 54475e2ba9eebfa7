/-! THE LAYOUT behind a new table -/
theorem j_L_newT {S S0 S3 : jS} {V V3 : jH} {t : Int} (L : j_L S) (hz : ∀ c : Int, t ≤ c → c ≤ t + 9 → S.1 c = 0) (h0 : ∀ c : Int, c ≠ t → S0.1 c = S.1 c ∧ S0.2 c = S.2 c) (hN : j_newT S0 V t 4 S3 V3) : j_L S3 := by
  obtain ⟨n1, n2, n3, n4, n5, n6, n7, n8⟩ := hN
  have key : ∀ a : Int, (S3.1 a = S.1 a ∧ S3.2 a = S.2 a) ∨ a = t ∨ a = t + 1 ∨ (∃ p : Int, 0 ≤ p ∧ p < 4 ∧ a = t + 2 + 2 * p) ∨ S3.1 a = 2 := fun a => by
    by_cases c : a < t ∨ t + 9 < a
    · have := n6 a c
      have h := h0 a (by omega)
      exact Or.inl ⟨this.1.trans h.1, this.2.1.trans h.2⟩
    · by_cases c1 : a = t
      · exact Or.inr (Or.inl c1)
      · by_cases c2 : a = t + 1
        · exact Or.inr (Or.inr (Or.inl c2))
        · by_cases c3 : (a - t) % 2 = 0
          · exact Or.inr (Or.inr (Or.inr (Or.inl ⟨(a - t - 2) / 2, by omega, by omega, by omega⟩)))
          · refine Or.inr (Or.inr (Or.inr (Or.inr ?_)))
            have := (n4 ((a - t - 3) / 2) (by omega) (by omega)).2.2.2
            rw [show t + 3 + 2 * ((a - t - 3) / 2) = a by omega] at this
            exact this
  have up : ∀ c : Int, S.1 c ≠ 0 → S3.1 c = S.1 c := fun c hc => by
    have co : c < t ∨ t + 9 < c := by
      by_cases c1 : c < t ∨ t + 9 < c
      · exact c1
      · exact absurd (hz c (by omega) (by omega)) hc
    exact (n6 c co).1.trans (h0 c (by omega)).1
  obtain ⟨M0, M1, M2, M3, M4, M5, M6, M7, M8, M9, M10, M11, M12, M13⟩ := L
  refine ⟨?_, ?_, ?_, ?_, ?_, ?_, ?_, ?_, ?_, ?_, ?_, ?_, ?_, ?_⟩
  · intro a ha 
    rcases key a with ⟨e1, e2⟩ | e | e | ⟨p, p0, p1, e⟩ | e
    · rw [e1] at ha
      obtain ⟨q0, q1, q2, q3, q4, q5, q6, q7, q8, q9⟩ := M0 a ha
      rw [e2]
      exact ⟨q0, (up _ (by omega)).trans q1, q2, (up _ (by omega)).trans q3, q4, (up _ (by omega)).trans q5, q6, (up _ (by omega)).trans q7, q8, (up _ (by omega)).trans q9⟩
    · rw [e, n2] at ha; omega
    · rw [e, n3] at ha; omega
    · rw [e, (n4 p p0 p1).2.1] at ha; omega
    · omega
  · intro a ha 
    rcases key a with ⟨e1, e2⟩ | e | e | ⟨p, p0, p1, e⟩ | e
    · rw [e1] at ha
      obtain ⟨q0, q1, q2, q3⟩ := M1 a ha
      rw [e2]
      exact ⟨q0, (up _ (by omega)).trans q1, q2, (up _ (by omega)).trans q3⟩
    · rw [e, n2] at ha; omega
    · rw [e, n3] at ha; omega
    · rw [e, (n4 p p0 p1).2.1] at ha; omega
    · omega
  · intro a ha 
    rcases key a with ⟨e1, e2⟩ | e | e | ⟨p, p0, p1, e⟩ | e
    · rw [e1] at ha
      obtain ⟨q0, q1⟩ := M2 a ha
      rw [e2]
      exact ⟨q0, (up _ (by omega)).trans q1⟩
    · rw [e, n2] at ha; omega
    · rw [e, n3] at ha; omega
    · obtain ⟨q0, q1, q2, q3⟩ := n4 p p0 p1
      rw [e, show t + 2 + 2 * p + 1 = t + 3 + 2 * p by omega]
      exact ⟨q2, q3⟩
    · omega
  · intro a ha 
    rcases key a with ⟨e1, e2⟩ | e | e | ⟨p, p0, p1, e⟩ | e
    · rw [e1] at ha
      obtain ⟨q0, q1, q2, q3⟩ := M3 a ha
      rw [e2]
      exact ⟨q0, (up _ (by omega)).trans q1, q2, (up _ (by omega)).trans q3⟩
    · rw [e, n2] at ha; omega
    · rw [e, n3] at ha; omega
    · rw [e, (n4 p p0 p1).2.1] at ha; omega
    · omega
  · intro a ha 
    rcases key a with ⟨e1, e2⟩ | e | e | ⟨p, p0, p1, e⟩ | e
    · rw [e1] at ha
      obtain ⟨q0, q1⟩ := M4 a ha
      rw [e2]
      exact ⟨q0, (up _ (by omega)).trans q1⟩
    · rw [e, n2] at ha; omega
    · rw [e, n3] at ha; omega
    · rw [e, (n4 p p0 p1).2.1] at ha; omega
    · omega
  · intro a ha 
    rcases key a with ⟨e1, e2⟩ | e | e | ⟨p, p0, p1, e⟩ | e
    · rw [e1] at ha
      obtain ⟨q0, q1⟩ := M5 a ha
      rw [e2]
      exact ⟨q0, (up _ (by omega)).trans q1⟩
    · rw [e, n2] at ha; omega
    · rw [e, n3] at ha; omega
    · rw [e, (n4 p p0 p1).2.1] at ha; omega
    · omega
  · intro a ha 
    rcases key a with ⟨e1, e2⟩ | e | e | ⟨p, p0, p1, e⟩ | e
    · rw [e1] at ha
      obtain ⟨q0, q1, q2, q3, q4, q5, q6, q7, q8, q9⟩ := M6 a ha
      rw [e2]
      exact ⟨q0, (up _ (by omega)).trans q1, q2, (up _ (by omega)).trans q3, q4, (up _ (by omega)).trans q5, q6, (up _ (by omega)).trans q7, q8, (up _ (by omega)).trans q9⟩
    · rw [e, n2] at ha; omega
    · rw [e, n3] at ha; omega
    · rw [e, (n4 p p0 p1).2.1] at ha; omega
    · omega
  · intro a ha 
    rcases key a with ⟨e1, e2⟩ | e | e | ⟨p, p0, p1, e⟩ | e
    · rw [e1] at ha
      obtain ⟨q0, q1⟩ := M7 a ha
      rw [e2]
      exact ⟨q0, (up _ (by omega)).trans q1⟩
    · rw [e]; exact ⟨n1, n3⟩
    · rw [e, n3] at ha; omega
    · rw [e, (n4 p p0 p1).2.1] at ha; omega
    · omega
  · intro a ha 
    rcases key a with ⟨e1, e2⟩ | e | e | ⟨p, p0, p1, e⟩ | e
    · rw [e1] at ha
      obtain ⟨q0, q1, q2, q3, q4, q5⟩ := M8 a ha
      rw [e2]
      exact ⟨q0, (up _ (by omega)).trans q1, q2, (up _ (by omega)).trans q3, q4, (up _ (by omega)).trans q5⟩
    · rw [e, n2] at ha; omega
    · rw [e, n3] at ha; omega
    · rw [e, (n4 p p0 p1).2.1] at ha; omega
    · omega
  · intro a ha 
    rcases key a with ⟨e1, e2⟩ | e | e | ⟨p, p0, p1, e⟩ | e
    · rw [e1] at ha
      obtain ⟨q0, q1, q2, q3, q4, q5, q6, q7, q8, q9⟩ := M9 a ha
      rw [e2]
      exact ⟨q0, (up _ (by omega)).trans q1, q2, (up _ (by omega)).trans q3, q4, (up _ (by omega)).trans q5, q6, (up _ (by omega)).trans q7, q8, (up _ (by omega)).trans q9⟩
    · rw [e, n2] at ha; omega
    · rw [e, n3] at ha; omega
    · rw [e, (n4 p p0 p1).2.1] at ha; omega
    · omega
  · intro a ha 
    rcases key a with ⟨e1, e2⟩ | e | e | ⟨p, p0, p1, e⟩ | e
    · rw [e1] at ha
      obtain ⟨q0, q1, q2, q3, q4, q5, q6, q7, q8, q9, q10, q11, q12, q13⟩ := M10 a ha
      rw [e2]
      exact ⟨q0, (up _ (by omega)).trans q1, q2, (up _ (by omega)).trans q3, q4, (up _ (by omega)).trans q5, q6, (up _ (by omega)).trans q7, q8, (up _ (by omega)).trans q9, q10, (up _ (by omega)).trans q11, q12, (up _ (by omega)).trans q13⟩
    · rw [e, n2] at ha; omega
    · rw [e, n3] at ha; omega
    · rw [e, (n4 p p0 p1).2.1] at ha; omega
    · omega
  · intro a ha 
    rcases key a with ⟨e1, e2⟩ | e | e | ⟨p, p0, p1, e⟩ | e
    · rw [e1] at ha
      obtain ⟨q0, q1, q2, q3, q4, q5, q6, q7, q8, q9, q10, q11, q12, q13, q14, q15, q16, q17, q18, q19, q20, q21, q22, q23, q24, q25, q26, q27, q28, q29, q30, q31⟩ := M11 a ha
      rw [e2]
      exact ⟨q0, (up _ (by omega)).trans q1, q2, (up _ (by omega)).trans q3, q4, (up _ (by omega)).trans q5, q6, (up _ (by omega)).trans q7, q8, (up _ (by omega)).trans q9, q10, (up _ (by omega)).trans q11, q12, (up _ (by omega)).trans q13, q14, (up _ (by omega)).trans q15, q16, (up _ (by omega)).trans q17, q18, (up _ (by omega)).trans q19, q20, (up _ (by omega)).trans q21, q22, (up _ (by omega)).trans q23, q24, (up _ (by omega)).trans q25, q26, (up _ (by omega)).trans q27, q28, (up _ (by omega)).trans q29, q30, (up _ (by omega)).trans q31⟩
    · rw [e, n2] at ha; omega
    · rw [e, n3] at ha; omega
    · rw [e, (n4 p p0 p1).2.1] at ha; omega
    · omega
  · intro a i ha i0 i1
    rcases key a with ⟨e1, e2⟩ | e | e | ⟨p, p0, p1, e⟩ | e
    · rw [e1] at ha
      obtain ⟨q0, q1⟩ := M12 a i ha i0 i1
      rw [e2]
      exact ⟨q0, (up _ (by omega)).trans q1⟩
    · rw [e, n2] at ha; omega
    · rw [e, n3] at ha; omega
    · rw [e, (n4 p p0 p1).2.1] at ha; omega
    · omega
  · intro a i ha i0 i1
    rcases key a with ⟨e1, e2⟩ | e | e | ⟨p, p0, p1, e⟩ | e
    · rw [e1] at ha
      obtain ⟨q0, q1⟩ := M13 a i ha i0 i1
      rw [e2]
      exact ⟨q0, (up _ (by omega)).trans q1⟩
    · rw [e, n2] at ha; omega
    · obtain ⟨q0, q1, q2, q3⟩ := n4 i i0 i1
      rw [e, show t + 1 + 1 + 2 * i = t + 2 + 2 * i by omega]
      exact ⟨q0, q1⟩
    · rw [e, (n4 p p0 p1).2.1] at ha; omega
    · omega
/-- the table in a slot -/
def j_slotT (w n : Int) : Int := w + 30 + 10 * n
theorem m11_2 (l : Launch) : M11_2 l 0 0 (fun w n S V => j_L S ∧ 0 ≤ n ∧ n < 10 ∧ 0 ≤ w ∧ S.2 (w + 14) n = j_slotT w n) (fun w n S V r S' V' => S' = S ∧ V' = V ∧ r = j_slotT w n) := by
  refine e11_2 ?_
  rintro C G h hrm hcs hl hn w n S V hw ⟨L, n0, n1, w0, hs⟩ R
  exact t11_2_0 h L hw n0 n1 (fun _ _ => t11_2_22 h L hw n0 n1 R ⟨rfl, rfl, hs⟩ (Nat.le_refl _) (Nat.le_refl _)) (fun q => absurd q (by rw [hs]; unfold j_slotT; omega))
