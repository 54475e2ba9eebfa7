/-! THE CLASS: tables, the rest -/
theorem j_flat_ne {V : jH} {a e b : Int} (h : b ≠ a) : j_flat V a e b = V b := j_row_ne h
theorem j_fill_ne {V : jH} {a n x b : Int} (h : b ≠ a) : j_fill V a n x b = V b := j_row_ne h
/-- the begins of a deal as it begins: none, or alike -/
def j_start (k r : Int) (j : Int) : Int := if k = 1 ∨ k = 4 then j * (j_M r / 256) else 0
/-- a table is begun: what holds of its numbers -/
def j_begun (V V' : jH) (t k r : Int) : Prop := V' t 1 = k ∧ V' t 2 = r ∧ (∀ p j : Int, 0 ≤ p → p < 4 → 0 ≤ j → j ≤ 256 → V' (t + 3 + 2 * p) j = j_start k r j) ∧ ∀ b : Int, b ≠ t → (∀ p : Int, 0 ≤ p → p < 4 → b ≠ t + 3 + 2 * p) → V' b = V b
theorem m10_2 (l : Launch) : M10_2 l 0 0 (fun t k r S V => j_L S ∧ 8 ≤ r ∧ r ≤ 12) (fun t k r S V S' V' => S' = S ∧ j_begun V V' t k r) := by
  refine e10_2 ?_
  rintro C G h hrm hcs hl hn t k r S V ht ⟨L, h0, h1⟩ R
  have hM := j_M_bd h0 h1
  refine t10_2_0 h ht ?_
  have hd : ∀ p : Int, 0 ≤ p → p < 4 → S.1 (t + 2 + 2 * p) = 23 := fun p p0 p1 => by
    have := LDealAk L (i := p) (L8_0k L ht) p0 p1
    rw [show t + 2 + 2 * p = t + 1 + 1 + 2 * p by omega]
    exact this
  have loop : ∀ (i : Int) (V1 : jH), (0 ≤ i ∧ i ≤ 4 ∧ V1 t 1 = k ∧ V1 t 2 = r ∧ (∀ p j : Int, 0 ≤ p → p < i → 0 ≤ j → j ≤ 256 → V1 (t + 3 + 2 * p) j = j_start k r j) ∧ ∀ b : Int, b ≠ t → (∀ p : Int, 0 ≤ p → p < 4 → b ≠ t + 3 + 2 * p) → V1 b = V b) → j_ok n_KT 4 C G 12 [(0, (2, t)), (3, (0, i))] [] S V1 0 0 := by
    refine j_loop (N := 4) (fun i V1 hi hI kk => ?_) (fun i V1 hi hI => ?_)
    · obtain ⟨g0, g1, e1, e2, e3, e4⟩ := hI
      refine t10_2_12 h (fun q => absurd q (by omega)) (fun q => ?_)
      have flat : (k = 1 ∨ k = 4) → j_ok n_KT 4 C G 33 [(0, (2, t)), (3, (0, i))] [] S V1 0 0 := by
        intro hk
        refine t10_2_33 h L hrm ht g0 q (m10_4 C.2.1) ⟨by omega, by omega⟩ (Nat.zero_le _) (Nat.zero_le _) ?_
        rintro r' S' V' ⟨rfl, rfl, rfl⟩
        refine t10_2_43 h hrm (hd i g0 q) (m4_8 C.2.1) ⟨L, by rw [e2]; omega, by rw [e2]; omega⟩ (Nat.zero_le _) (Nat.zero_le _) ?_
        rintro S' V2 ⟨rfl, rfl⟩
        refine t10_2_46 h (t10_2_58 h (by omega) (kk _ ⟨by omega, by omega, ?_, ?_, ?_, ?_⟩))
        · rw [j_flat_ne (by omega)]; exact e1
        · rw [j_flat_ne (by omega)]; exact e2
        · intro p j p0 p1 j0 j1
          by_cases hp : p = i
          · subst hp
            rw [show t + 3 + 2 * p = t + 2 + 2 * p + 1 by omega]
            unfold j_flat
            rw [j_row_at, if_pos ⟨j0, j1⟩, e2]
            unfold j_start
            rw [if_pos hk]
          · rw [j_flat_ne (by omega)]; exact e3 p j p0 (by omega) j0 j1
        · intro b b0 b1
          rw [j_flat_ne (by have := b1 i g0 q; omega)]; exact e4 b b0 b1
      refine t10_2_17 h ht (fun q2 => flat (Or.inl (by omega))) (fun q2 => ?_)
      refine t10_2_25 h ht (fun q3 => ?_) (fun q3 => flat (Or.inr (by omega)))
      refine t10_2_49 h L hrm ht g0 q (m4_7 C.2.1) L (Nat.zero_le _) (Nat.zero_le _) ?_
      rintro S' V2 ⟨rfl, rfl⟩
      refine t10_2_58 h (by omega) (kk _ ⟨by omega, by omega, ?_, ?_, ?_, ?_⟩)
      · rw [j_fill_ne (by omega)]; exact e1
      · rw [j_fill_ne (by omega)]; exact e2
      · intro p j p0 p1 j0 j1
        by_cases hp : p = i
        · subst hp
          rw [show t + 3 + 2 * p = t + 2 + 2 * p + 1 by omega]
          unfold j_fill
          rw [j_row_at, if_pos (by omega)]
          unfold j_start
          rw [if_neg (by omega)]
        · rw [j_fill_ne (by omega)]; exact e3 p j p0 (by omega) j0 j1
      · intro b b0 b1
        rw [j_fill_ne (by have := b1 i g0 q; omega)]; exact e4 b b0 b1
    · obtain ⟨g0, g1, e1, e2, e3, e4⟩ := hI
      refine t10_2_12 h (fun q => ?_) (fun q => absurd q (by omega))
      exact t10_2_64 h R ⟨rfl, e1, e2, fun p j p0 p1 => e3 p j p0 (by omega), e4⟩ (Nat.le_refl _) (Nat.le_refl _)
  refine loop 0 _ ⟨by omega, by omega, ?_, j_up_at _ _ _ _, fun p j p0 p1 => absurd p1 (by omega), fun b b0 b1 => ?_⟩
  · rw [j_up_off (by decide), j_up_at]
  · rw [j_up_ne b0, j_up_ne b0]
/-- a table is as another -/
def j_tableBe (V V' : jH) (t o : Int) : Prop := V' t 1 = V o 1 ∧ V' t 2 = V o 2 ∧ (∀ p j : Int, 0 ≤ p → p < 4 → 0 ≤ j → j ≤ 256 → V' (t + 3 + 2 * p) j = V (o + 3 + 2 * p) j) ∧ ∀ b : Int, b ≠ t → (∀ p : Int, 0 ≤ p → p < 4 → b ≠ t + 3 + 2 * p) → V' b = V b
theorem m10_3 (l : Launch) : M10_3 l 0 0 (fun t o S V => j_L S ∧ S.1 o = 29 ∧ (t + 10 ≤ o ∨ o + 10 ≤ t)) (fun t o S V S' V' => S' = S ∧ j_tableBe V V' t o) := by
  refine e10_3 ?_
  rintro C G h hrm hcs hl hn t o S V ht ⟨L, ho, hap⟩ R
  refine t10_3_0 h ho ht ?_
  have hd : ∀ u : Int, S.1 u = 29 → ∀ p : Int, 0 ≤ p → p < 4 → S.1 (u + 2 + 2 * p) = 23 := fun u hu p p0 p1 => by
    have := LDealAk L (i := p) (L8_0k L hu) p0 p1
    rw [show u + 2 + 2 * p = u + 1 + 1 + 2 * p by omega]
    exact this
  have loop : ∀ (i : Int) (V1 : jH), (0 ≤ i ∧ i ≤ 4 ∧ V1 t 1 = V o 1 ∧ V1 t 2 = V o 2 ∧ (∀ p j : Int, 0 ≤ p → p < i → 0 ≤ j → j ≤ 256 → V1 (t + 3 + 2 * p) j = V (o + 3 + 2 * p) j) ∧ ∀ b : Int, b ≠ t → (∀ p : Int, 0 ≤ p → p < 4 → b ≠ t + 3 + 2 * p) → V1 b = V b) → j_ok n_KT 3 C G 18 [(0, (2, t)), (1, (2, o)), (2, (0, i))] [] S V1 0 0 := by
    refine j_loop (N := 4) (fun i V1 hi hI kk => ?_) (fun i V1 hi hI => ?_)
    · obtain ⟨g0, g1, e1, e2, e3, e4⟩ := hI
      refine t10_3_18 h (fun q => absurd q (by omega)) (fun q => ?_)
      refine t10_3_23 h L hrm ht g0 q ho (m4_6 C.2.1) ⟨L, hd o ho i g0 q⟩ (Nat.zero_le _) (Nat.zero_le _) ?_
      rintro S' V2 ⟨rfl, rfl⟩
      refine t10_3_38 h (by omega) (kk _ ⟨by omega, by omega, ?_, ?_, ?_, ?_⟩)
      · rw [j_cpy_ne (by omega)]; exact e1
      · rw [j_cpy_ne (by omega)]; exact e2
      · intro p j p0 p1 j0 j1
        by_cases hp : p = i
        · subst hp
          rw [show t + 3 + 2 * p = t + 2 + 2 * p + 1 by omega]
          unfold j_cpy
          rw [if_pos (by omega), e4 (o + 2 + 2 * p + 1) (by omega) (fun p' q0 q1 => by omega), show o + 2 + 2 * p + 1 = o + 3 + 2 * p by omega, show 0 + (j - 0) = j by omega]
        · rw [j_cpy_ne (by omega)]; exact e3 p j p0 (by omega) j0 j1
      · intro b b0 b1
        rw [j_cpy_ne (by have := b1 i g0 q; omega)]; exact e4 b b0 b1
    · obtain ⟨g0, g1, e1, e2, e3, e4⟩ := hI
      refine t10_3_18 h (fun q => ?_) (fun q => absurd q (by omega))
      exact t10_3_44 h R ⟨rfl, e1, e2, fun p j p0 p1 => e3 p j p0 (by omega), e4⟩ (Nat.le_refl _) (Nat.le_refl _)
  refine loop 0 _ ⟨by omega, by omega, ?_, ?_, fun p j p0 p1 => absurd p1 (by omega), fun b b0 b1 => ?_⟩
  · rw [j_up_off (by decide), j_up_at]
  · rw [j_up_at, j_up_ne (by omega)]
  · rw [j_up_ne b0, j_up_ne b0]
/-- how many bytes of a block the deals take -/
def j_toldAt (V : jH) (t : Int) (p : Int) : Int := 2 + 3 * j_with (V (t + 3 + 2 * p)) 256
def j_told (V : jH) (t : Int) : Int := if V t 1 = 3 then j_toldAt V t 0 + j_toldAt V t 1 + j_toldAt V t 2 + j_toldAt V t 3 else if V t 1 = 0 ∨ V t 1 = 2 then j_toldAt V t 0 else 0
theorem j_toldAt_bd (V : jH) (t p : Int) : 2 ≤ j_toldAt V t p ∧ j_toldAt V t p ≤ 770 := by
  have := j_with_bd (V (t + 3 + 2 * p)) (n := 256) (by decide)
  unfold j_toldAt
  omega
theorem j_told_bd (V : jH) (t : Int) : 0 ≤ j_told V t ∧ j_told V t ≤ 3080 := by
  have h0 := j_toldAt_bd V t 0
  have h1 := j_toldAt_bd V t 1
  have h2 := j_toldAt_bd V t 2
  have h3 := j_toldAt_bd V t 3
  unfold j_told
  split
  · omega
  · split <;> omega
theorem m10_11 (l : Launch) : M10_11 l 0 0 (fun t S V => j_L S ∧ ∀ p : Int, 0 ≤ p → p < 4 → j_bd (V (t + 3 + 2 * p)) 1048576) (fun t S V r S' V' => S' = S ∧ V' = V ∧ r = j_told V t) := by
  refine e10_11 ?_
  rintro C G h hrm hcs hl hn t S V ht ⟨L, hb⟩ R
  refine t10_11_0 h ?_
  have hd : ∀ p : Int, 0 ≤ p → p < 4 → S.1 (t + 2 + 2 * p) = 23 := fun p p0 p1 => by
    have := LDealAk L (i := p) (L8_0k L ht) p0 p1
    rw [show t + 2 + 2 * p = t + 1 + 1 + 2 * p by omega]
    exact this
  have fin : ∀ z : Int, z = j_told V t → j_ok n_KT 3 C G 41 [(1, (0, z))] [] S V 0 0 := fun z hz => t10_11_41 h R ⟨rfl, rfl, hz⟩ (Nat.le_refl _) (Nat.le_refl _)
  -- one part
  have part : ∀ (i z : Int), 0 ≤ i → i < 4 → 0 ≤ z → z ≤ 5000 → i < j_parts (V t 1) → (V t 1 = 0 ∨ V t 1 = 2 ∨ V t 1 = 3) → j_ok n_KT 3 C G 4 [(0, (2, t)), (1, (0, z + j_toldAt V t i)), (2, (0, i + 1))] [] S V 0 0 → j_ok n_KT 3 C G 4 [(0, (2, t)), (1, (0, z)), (2, (0, i))] [] S V 0 0 := by
    intro i z g0 g1 z0 z1 hp hk k
    have hw := j_toldAt_bd V t i
    refine t10_11_4 h hrm ht (m10_5 C.2.1) trivial (Nat.zero_le _) (Nat.zero_le _) ?_
    rintro r S' V' ⟨rfl, rfl, rfl⟩
    refine t10_11_9 h (fun q => absurd q (by omega)) (fun q => ?_)
    refine t10_11_12 h hrm ht (m10_10 C.2.1) trivial (Nat.zero_le _) (Nat.zero_le _) ?_
    rintro r S' V' ⟨rfl, rfl, hr⟩
    refine t10_11_16 h (fun q2 => absurd hk (hr.n q2)) (fun q2 => ?_)
    refine t10_11_19 h L hrm ht g0 g1 (m4_4 C.2.1) ⟨L, by have := hb i g0 g1; rw [show t + 2 + 2 * i + 1 = t + 3 + 2 * i by omega]; exact this⟩ (Nat.zero_le _) (Nat.zero_le _) ?_
    rintro r2 S' V' ⟨rfl, rfl, e2⟩
    rw [show t + 2 + 2 * i + 1 = t + 3 + 2 * i by omega] at e2
    have e3 : j_toldAt V' t i = 2 + 3 * r2 := by unfold j_toldAt; rw [e2]
    rw [e3] at k
    refine t10_11_31 h (by omega) (by omega) (by omega) (by omega) ?_
    exact k
  have stop : ∀ (i z : Int), j_parts (V t 1) ≤ i → z = j_told V t → j_ok n_KT 3 C G 4 [(0, (2, t)), (1, (0, z)), (2, (0, i))] [] S V 0 0 := by
    intro i z hi hz
    refine t10_11_4 h hrm ht (m10_5 C.2.1) trivial (Nat.zero_le _) (Nat.zero_le _) ?_
    rintro r S' V' ⟨rfl, rfl, rfl⟩
    exact t10_11_9 h (fun q => fin z hz) (fun q => absurd q (by omega))
  have b0 := j_toldAt_bd V t 0
  have b1 := j_toldAt_bd V t 1
  have b2 := j_toldAt_bd V t 2
  have b3 := j_toldAt_bd V t 3
  by_cases h3 : V t 1 = 3
  · have hp : j_parts (V t 1) = 4 := by unfold j_parts; rw [if_pos h3]
    refine part 0 0 (by decide) (by decide) (by decide) (by decide) (by omega) (by omega) ?_
    refine part 1 _ (by decide) (by decide) (by omega) (by omega) (by omega) (by omega) ?_
    refine part 2 _ (by decide) (by decide) (by omega) (by omega) (by omega) (by omega) ?_
    refine part 3 _ (by decide) (by decide) (by omega) (by omega) (by omega) (by omega) ?_
    refine stop _ _ (by omega) ?_
    unfold j_told
    rw [if_pos h3]
    omega
  · have hp : j_parts (V t 1) = 1 := by unfold j_parts; rw [if_neg h3]
    by_cases h02 : V t 1 = 0 ∨ V t 1 = 2
    · refine part 0 0 (by decide) (by decide) (by decide) (by decide) (by omega) (by omega) ?_
      refine stop _ _ (by omega) ?_
      unfold j_told
      rw [if_neg h3, if_pos h02]
      omega
    · refine t10_11_4 h hrm ht (m10_5 C.2.1) trivial (Nat.zero_le _) (Nat.zero_le _) ?_
      rintro r S' V' ⟨rfl, rfl, rfl⟩
      refine t10_11_9 h (fun q => absurd q (by omega)) (fun q => ?_)
      refine t10_11_12 h hrm ht (m10_10 C.2.1) trivial (Nat.zero_le _) (Nat.zero_le _) ?_
      rintro r S' V' ⟨rfl, rfl, hr⟩
      refine t10_11_16 h (fun q2 => fin 0 ?_) (fun q2 => ?_)
      · unfold j_told
        rw [if_neg h3, if_neg h02]
      · have := hr.y q2
        omega
