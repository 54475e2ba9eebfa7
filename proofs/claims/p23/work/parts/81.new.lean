/-! THE CLASS: the smallest things are made -/
theorem m4_1 (l : Launch) : M4_1 l 1 257 (fun d S V => 0 ≤ d ∧ S.1 (d + 1) = 0) (fun d S V S' V' => S' = j_sp (j_ns S (d + 1) 2) d 0 (d + 1) ∧ V' = j_nv V (d + 1)) := by
  refine e4_1 ?_
  rintro C G h hrm hcs hl hn d S V hd ⟨d0, h0⟩ R
  exact t4_1_0 (a1 := d + 1) h (by omega) hn hd (by omega) h0 (by rw [hcs.1]; omega) (by rw [hcs.2]; omega) R ⟨rfl, rfl⟩ (Nat.le_refl _) (Nat.le_refl _)
theorem m8_1 (l : Launch) : M8_1 l 1 400 (fun d S V => 0 ≤ d ∧ S.1 (d + 1) = 0) (fun d S V S' V' => S' = j_sp (j_ns S (d + 1) 1) d 0 (d + 1) ∧ V' = j_up (j_nv V (d + 1)) d 1 0) := by
  refine e8_1 ?_
  rintro C G h hrm hcs hl hn d S V hd ⟨d0, h0⟩ R
  exact t8_1_0 (a1 := d + 1) h (by omega) hn hd (by omega) h0 (by rw [hcs.1]; omega) (by rw [hcs.2]; omega) R ⟨rfl, rfl⟩ (Nat.le_refl _) (Nat.le_refl _)
