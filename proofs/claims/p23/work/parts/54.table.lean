/-! THE CLASS: tables -/
def j_M (r : Int) : Int := 2 ^ r.toNat
theorem j_M_in {r : Int} (h0 : 8 ≤ r) (h1 : r ≤ 12) : j_M r = 256 ∨ j_M r = 512 ∨ j_M r = 1024 ∨ j_M r = 2048 ∨ j_M r = 4096 := by
  have : r = 8 ∨ r = 9 ∨ r = 10 ∨ r = 11 ∨ r = 12 := by omega
  rcases this with rfl | rfl | rfl | rfl | rfl <;> decide
theorem j_M_bd {r : Int} (h0 : 8 ≤ r) (h1 : r ≤ 12) : 256 ≤ j_M r ∧ j_M r ≤ 4096 := by
  rcases j_M_in h0 h1 with h | h | h | h | h <;> omega
theorem m10_4 (l : Launch) : M10_4 l 0 0 (fun t S V => 8 ≤ V t 2 ∧ V t 2 ≤ 12) (fun t S V r S' V' => S' = S ∧ V' = V ∧ r = j_M (V t 2)) := by
  refine e10_4 ?_
  rintro C G h hrm hcs hl hn t S V ht ⟨h0, h1⟩ R
  exact t10_4_0 h ht (by omega) (by omega) R ⟨rfl, rfl, rfl⟩ (Nat.le_refl _) (Nat.le_refl _)
def j_parts (k : Int) : Int := if k = 3 then 4 else 1
theorem m10_5 (l : Launch) : M10_5 l 0 0 (fun t S V => True) (fun t S V r S' V' => S' = S ∧ V' = V ∧ r = j_parts (V t 1)) := by
  refine e10_5 ?_
  rintro C G h hrm hcs hl hn t S V ht - R
  refine t10_5_0 h ht (fun q => ?_) (fun q => ?_)
  · exact t10_5_12 h (t10_5_13 h R ⟨rfl, rfl, by unfold j_parts; rw [if_neg q]⟩ (Nat.le_refl _) (Nat.le_refl _))
  · exact t10_5_8 h (t10_5_13 h R ⟨rfl, rfl, by unfold j_parts; rw [if_pos q]⟩ (Nat.le_refl _) (Nat.le_refl _))
/-- a truth value that says whether p -/
def j_says (r : Int) (p : Prop) : Prop := (r = 1 ∧ p) ∨ (r = 0 ∧ ¬ p)
theorem j_says.y {r : Int} {p : Prop} (h : j_says r p) (q : ¬ r = 0) : p := by
  rcases h with h | h
  · exact h.2
  · exact absurd h.1 q
theorem j_says.n {r : Int} {p : Prop} (h : j_says r p) (q : r = 0) : ¬ p := by
  rcases h with h | h
  · omega
  · exact h.2
theorem j_says.iff {r : Int} {p p' : Prop} (h : j_says r p) (e : p ↔ p') : j_says r p' := by
  rcases h with h | h
  · exact Or.inl ⟨h.1, e.mp h.2⟩
  · exact Or.inr ⟨h.1, fun q => h.2 (e.mpr q)⟩
theorem j_says.bit {r : Int} {p : Prop} (h : j_says r p) : 0 ≤ r ∧ r ≤ 1 := by
  rcases h with h | h <;> omega
theorem m10_8 (l : Launch) : M10_8 l 0 0 (fun t S V => True) (fun t S V r S' V' => S' = S ∧ V' = V ∧ j_says r (V t 1 = 2 ∨ V t 1 = 3)) := by
  refine e10_8 ?_
  rintro C G h hrm hcs hl hn t S V ht - R
  have hy : (V t 1 = 2 ∨ V t 1 = 3) → j_ok n_KT 1 C G 16 [] [] S V 0 0 := fun q => t10_8_16 h (t10_8_21 h R (by decide) ⟨rfl, rfl, Or.inl ⟨rfl, q⟩⟩ (Nat.le_refl _) (Nat.le_refl _))
  refine t10_8_0 h ht (fun q => hy (Or.inl q)) (fun q => ?_)
  refine t10_8_8 h ht (fun q2 => ?_) (fun q2 => hy (Or.inr q2))
  exact t10_8_20 h (t10_8_21 h R (by decide) ⟨rfl, rfl, Or.inr ⟨rfl, by omega⟩⟩ (Nat.le_refl _) (Nat.le_refl _))
theorem m10_6 (l : Launch) : M10_6 l 0 0 (fun t p S V => True) (fun t p S V r S' V' => S' = S ∧ V' = V ∧ j_says r (0 ≤ p ∧ p < j_parts (V t 1))) := by
  refine e10_6 ?_
  rintro C G h hrm hcs hl hn t p S V ht - R
  have hno : ¬ (0 ≤ p ∧ p < j_parts (V t 1)) → j_ok n_KT 2 C G 16 [] [] S V 0 0 := fun q => t10_6_16 h (t10_6_17 h R (by decide) ⟨rfl, rfl, Or.inr ⟨rfl, q⟩⟩ (Nat.le_refl _) (Nat.le_refl _))
  refine t10_6_0 h (fun q => hno (by omega)) (fun q => ?_)
  refine t10_6_4 h hrm ht (m10_5 C.2.1) trivial (Nat.zero_le _) (Nat.zero_le _) ?_
  rintro r S' V' ⟨rfl, rfl, rfl⟩
  refine t10_6_9 h (fun q2 => hno (by omega)) (fun q2 => ?_)
  exact t10_6_12 h (t10_6_17 h R (by decide) ⟨rfl, rfl, Or.inl ⟨rfl, q, q2⟩⟩ (Nat.le_refl _) (Nat.le_refl _))
theorem m10_7 (l : Launch) : M10_7 l 0 0 (fun t S V => j_L S ∧ 8 ≤ V t 2 ∧ V t 2 ≤ 12) (fun t S V r S' V' => S' = S ∧ V' = V ∧ j_says r (V (t + 3) 256 ≠ j_M (V t 2))) := by
  refine e10_7 ?_
  rintro C G h hrm hcs hl hn t S V ht ⟨L, h0, h1⟩ R
  refine t10_7_0 h L hrm ht (m4_3 C.2.1) L (Nat.zero_le _) (Nat.zero_le _) ?_
  rintro r S' V' ⟨rfl, rfl, rfl⟩
  refine t10_7_9 h hrm ht (m10_4 C.2.1) ⟨h0, h1⟩ (Nat.zero_le _) (Nat.zero_le _) ?_
  rintro r S' V' ⟨rfl, rfl, rfl⟩
  have e : t + 2 + 1 = t + 3 := by omega
  refine t10_7_13 h (fun q => ?_) (fun q => ?_)
  · rw [e] at q
    exact t10_7_20 h (t10_7_21 h R (by decide) ⟨rfl, rfl, Or.inr ⟨rfl, fun z => z q⟩⟩ (Nat.le_refl _) (Nat.le_refl _))
  · rw [e] at q
    exact t10_7_16 h (t10_7_21 h R (by decide) ⟨rfl, rfl, Or.inl ⟨rfl, q⟩⟩ (Nat.le_refl _) (Nat.le_refl _))
/-- a table as one of a kind -/
def j_isOne (its k : Int) : Prop := k = its ∨ (k = 2 ∧ its = 3) ∨ (k = 0 ∧ (its = 2 ∨ its = 3))
theorem m10_9 (l : Launch) : M10_9 l 0 0 (fun t k S V => True) (fun t k S V r S' V' => S' = S ∧ V' = V ∧ j_says r (j_isOne (V t 1) k)) := by
  refine e10_9 ?_
  rintro C G h hrm hcs hl hn t k S V ht - R
  have hy : j_isOne (V t 1) k → j_ok n_KT 2 C G 32 [] [] S V 0 0 := fun q => t10_9_32 h (t10_9_37 h R (by decide) ⟨rfl, rfl, Or.inl ⟨rfl, q⟩⟩ (Nat.le_refl _) (Nat.le_refl _))
  have hno : ¬ j_isOne (V t 1) k → j_ok n_KT 2 C G 36 [] [] S V 0 0 := fun q => t10_9_36 h (t10_9_37 h R (by decide) ⟨rfl, rfl, Or.inr ⟨rfl, q⟩⟩ (Nat.le_refl _) (Nat.le_refl _))
  have h21 : ¬ k = V t 1 → ¬ (k = 2 ∧ V t 1 = 3) → j_ok n_KT 2 C G 21 [(0, (2, t)), (1, (0, k))] [] S V 0 0 := by
    intro z1 z2
    refine t10_9_21 h (fun q => hno ?_) (fun q => ?_)
    · rintro (z | z | z)
      · exact z1 z
      · exact z2 z
      · exact q z.1
    · refine t10_9_25 h hrm ht (m10_8 C.2.1) trivial (Nat.zero_le _) (Nat.zero_le _) ?_
      rintro r S' V' ⟨rfl, rfl, hr⟩
      refine t10_9_29 h (fun q2 => hno ?_) (fun q2 => hy (Or.inr (Or.inr ⟨q, hr.y q2⟩)))
      rintro (z | z | z)
      · exact z1 z
      · exact z2 z
      · exact hr.n q2 z.2
  refine t10_9_0 h ht (fun q => hy (Or.inl q)) (fun q => ?_)
  refine t10_9_8 h (fun q2 => h21 q (fun z => q2 z.1)) (fun q2 => ?_)
  exact t10_9_13 h ht (fun q3 => hy (Or.inr (Or.inl ⟨q2, q3⟩))) (fun q3 => h21 q (fun z => q3 z.2))
theorem m10_10 (l : Launch) : M10_10 l 0 0 (fun t S V => True) (fun t S V r S' V' => S' = S ∧ V' = V ∧ j_says r (V t 1 = 0 ∨ V t 1 = 2 ∨ V t 1 = 3)) := by
  refine e10_10 ?_
  rintro C G h hrm hcs hl hn t S V ht - R
  have hy : (V t 1 = 0 ∨ V t 1 = 2 ∨ V t 1 = 3) → j_ok n_KT 1 C G 14 [] [] S V 0 0 := fun q => t10_10_14 h (t10_10_19 h R (by decide) ⟨rfl, rfl, Or.inl ⟨rfl, q⟩⟩ (Nat.le_refl _) (Nat.le_refl _))
  refine t10_10_0 h ht (fun q => hy (Or.inl q)) (fun q => ?_)
  refine t10_10_7 h hrm ht (m10_8 C.2.1) trivial (Nat.zero_le _) (Nat.zero_le _) ?_
  rintro r S' V' ⟨rfl, rfl, hr⟩
  refine t10_10_11 h (fun q2 => ?_) (fun q2 => hy (Or.inr (hr.y q2)))
  refine t10_10_18 h (t10_10_19 h R (by decide) ⟨rfl, rfl, Or.inr ⟨rfl, ?_⟩⟩ (Nat.le_refl _) (Nat.le_refl _))
  have := hr.n q2
  omega
