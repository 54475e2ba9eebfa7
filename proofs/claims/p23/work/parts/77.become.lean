/-! THE CLASS: steps and blocks become others -/
theorem j_cpy_in {V : jH} {src dst n i : Int} (h0 : 0 ≤ i) (h1 : i < n) : j_cpy V src 0 dst 0 n dst i = V src i := by
  rw [j_cpy_row, j_row_at, if_pos (by omega), show 0 + (i - 0) = i by omega]
/-- two steps are alike -/
def j_stepsEq (V V' : jH) (a o : Int) : Prop := V' a 5 = V o 5 ∧ ∀ q i : Int, 1 ≤ q → q ≤ 5 → 0 ≤ i → i < V o 5 → V' (a + q) i = V (o + q) i
theorem j_stepsBe_at {V : jH} {a o : Int} (ap : a + 5 < o ∨ o + 5 < a) : j_stepsEq V (j_stepsBe V a o) a o ∧ (∀ c : Int, (c < a ∨ a + 5 < c) → j_stepsBe V a o c = V c) ∧ ∀ j : Int, j ≠ 5 → j_stepsBe V a o a j = V a j := by
  unfold j_stepsBe j_stepsEq
  refine ⟨⟨?_, fun q i q0 q1 i0 i1 => ?_⟩, fun c hc => ?_, fun j hj => ?_⟩
  · rw [j_cpy_ne (by omega), j_cpy_ne (by omega), j_cpy_ne (by omega), j_cpy_ne (by omega), j_cpy_ne (by omega), j_up_at]
  · have : q = 1 ∨ q = 2 ∨ q = 3 ∨ q = 4 ∨ q = 5 := by omega
    rcases this with e | e | e | e | e <;> rw [e]
    · rw [j_cpy_ne (by omega), j_cpy_ne (by omega), j_cpy_ne (by omega), j_cpy_ne (by omega), j_cpy_in i0 i1, j_up_ne (by omega)]
    · rw [j_cpy_ne (by omega), j_cpy_ne (by omega), j_cpy_ne (by omega), j_cpy_in i0 i1, j_cpy_ne (by omega), j_up_ne (by omega)]
    · rw [j_cpy_ne (by omega), j_cpy_ne (by omega), j_cpy_in i0 i1, j_cpy_ne (by omega), j_cpy_ne (by omega), j_up_ne (by omega)]
    · rw [j_cpy_ne (by omega), j_cpy_in i0 i1, j_cpy_ne (by omega), j_cpy_ne (by omega), j_cpy_ne (by omega), j_up_ne (by omega)]
    · rw [j_cpy_in i0 i1, j_cpy_ne (by omega), j_cpy_ne (by omega), j_cpy_ne (by omega), j_cpy_ne (by omega), j_up_ne (by omega)]
  · rw [j_cpy_ne (by omega), j_cpy_ne (by omega), j_cpy_ne (by omega), j_cpy_ne (by omega), j_cpy_ne (by omega), j_up_ne (by omega)]
  · rw [j_cpy_ne (by omega), j_cpy_ne (by omega), j_cpy_ne (by omega), j_cpy_ne (by omega), j_cpy_ne (by omega), j_up_off hj]
/-- two blocks are alike -/
def j_blockEq (V V' : jH) (a o : Int) : Prop := V' a 1 = V o 1 ∧ V' a 2 = V o 2 ∧ V' a 4 = V o 4 ∧ (∀ i : Int, 0 ≤ i → i < V o 1 → V' (a + 1) i = V (o + 1) i) ∧ j_stepsEq V V' (a + 2) (o + 2)
theorem m3_2 (l : Launch) : M3_2 l 0 0 (fun a o S V => j_L S ∧ S.1 o = 22 ∧ (a + 7 < o ∨ o + 7 < a) ∧ 0 ≤ V o 1 ∧ V o 1 ≤ 4400 ∧ 0 ≤ V o 2 ∧ V o 2 ≤ 1 ∧ 0 ≤ V (o + 2) 5 ∧ V (o + 2) 5 ≤ 400) (fun a o S V S' V' => S' = S ∧ j_blockEq V V' a o ∧ ∀ c : Int, (c < a ∨ a + 7 < c) → V' c = V c) := by
  refine e3_2 ?_
  rintro C G h hrm hcs hl hn a o S V ha ⟨L, ho, ap, l0, l1, m0, m1, c0, c1⟩ R
  have e1 : ∀ c : Int, c ≠ a → c ≠ a + 1 → j_cpy (j_up V a 1 (V o 1)) (o + 1) 0 (a + 1) 0 (V o 1) c = V c := fun c z0 z1 => by rw [j_cpy_ne z1, j_up_ne z0]
  have eo := e1 o (by omega) (by omega)
  have e2 : ∀ c : Int, c ≠ a → c ≠ a + 1 → j_up (j_cpy (j_up V a 1 (V o 1)) (o + 1) 0 (a + 1) 0 (V o 1)) a 2 (V o 2) c = V c := fun c z0 z1 => by rw [j_up_ne z0]; exact e1 c z0 z1
  have eo2 := e2 (o + 2) (by omega) (by omega)
  refine t3_2_0 h L hrm (by omega) ho ha l0 (by omega) (by rw [eo]; exact ⟨m0, m1⟩) (m9_2 C.2.1) ⟨L, L1_3k L ho, by rw [eo, eo2]; exact c0, by rw [eo, eo2]; exact c1⟩ (Nat.zero_le _) (Nat.zero_le _) ?_
  rintro S1 V1 ⟨e0, x1⟩
  subst e0
  rw [eo] at x1
  obtain ⟨⟨s1, s2⟩, s3, s4⟩ := j_stepsBe_at (V := j_up (j_cpy (j_up V a 1 (V o 1)) (o + 1) 0 (a + 1) 0 (V o 1)) a 2 (V o 2)) (a := a + 2) (o := o + 2) (by omega)
  rw [← x1] at s1 s2 s3 s4
  rw [eo2] at s1 s2
  have ya : V1 a = j_up (j_cpy (j_up V a 1 (V o 1)) (o + 1) 0 (a + 1) 0 (V o 1)) a 2 (V o 2) a := s3 a (by omega)
  have yo : V1 o = V o := (s3 o (by omega)).trans (e2 o (by omega) (by omega))
  refine t3_2_44 h ho ha R ⟨rfl, ⟨?_, ?_, ?_, fun i i0 i1 => ?_, ?_, fun q i q0 q1 i0 i1 => ?_⟩, fun c hc => ?_⟩ (Nat.le_refl _) (Nat.le_refl _)
  · rw [j_up_off (by decide), ya, j_up_off (by decide), j_cpy_ne (by omega), j_up_at]
  · rw [j_up_off (by decide), ya, j_up_at]
  · rw [j_up_at, yo]
  · rw [j_up_ne (by omega), s3 _ (by omega), j_up_ne (by omega), j_cpy_in i0 i1, j_up_ne (by omega)]
  · rw [j_up_ne (by omega), s1]
  · rw [j_up_ne (by omega), s2 q i q0 q1 i0 i1, e2 _ (by omega) (by omega)]
  · rw [j_up_ne (by omega), s3 c (by omega)]
    exact e2 c (by omega) (by omega)
