/-! THE CLASS: rows and deals -/
theorem m8_2 (l : Launch) : M8_2 l 0 0 (fun a x S V => j_L S ∧ 0 ≤ V a 1 ∧ V a 1 < 400) (fun a x S V S' V' => S' = S ∧ V' = j_up (j_up V (a + 1) (V a 1) x) a 1 (V a 1 + 1)) := by
  refine e8_2 ?_
  rintro C G h hrm hcs hl hn a x S V ht ⟨L, h0, h1⟩ R
  refine t8_2_0 h ht (fun q => absurd q (by omega)) (fun q => ?_)
  refine t8_2_10 h L ht h0 h1 (by omega) ?_
  exact t8_2_30 h R ⟨rfl, rfl⟩ (Nat.le_refl _) (Nat.le_refl _)
theorem m4_3 (l : Launch) : M4_3 l 0 0 (fun d S V => j_L S) (fun d S V r S' V' => S' = S ∧ V' = V ∧ r = V (d + 1) 256) := by
  refine e4_3 ?_
  rintro C G h hrm hcs hl hn d S V ht L R
  exact t4_3_0 h L ht R ⟨rfl, rfl, rfl⟩ (Nat.le_refl _) (Nat.le_refl _)
theorem m4_2 (l : Launch) : M4_2 l 0 0 (fun d s S V => j_L S ∧ 0 ≤ s ∧ s < 256 ∧ j_I32 (V (d + 1) (s + 1) - V (d + 1) s)) (fun d s S V r S' V' => S' = S ∧ V' = V ∧ r = V (d + 1) (s + 1) - V (d + 1) s) := by
  refine e4_2 ?_
  rintro C G h hrm hcs hl hn d s S V ht ⟨L, h0, h1, hr⟩ R
  exact t4_2_0 h L ht (by omega) (by omega) (by omega) h0 (by omega) hr R ⟨rfl, rfl, rfl⟩ (Nat.le_refl _) (Nat.le_refl _)
/-- each sign has so many -/
def j_flat (V : jH) (a e : Int) : jH := j_row V a (fun j => if 0 ≤ j ∧ j ≤ 256 then j * e else V a j)
theorem m4_8 (l : Launch) : M4_8 l 0 0 (fun d al S V => j_L S ∧ 0 ≤ al ∧ al ≤ 4096) (fun d al S V S' V' => S' = S ∧ V' = j_flat V (d + 1) (al / 256)) := by
  refine e4_8 ?_
  rintro C G h hrm hcs hl hn d al S V ht ⟨L, h0, h1⟩ R
  refine t4_8_0 h h0 ?_
  have hq : 0 ≤ al / 256 ∧ al / 256 ≤ 16 := by omega
  generalize al / 256 = e at hq R ⊢
  have loop : ∀ (i : Int) (f : Int → Int), (0 ≤ i ∧ i ≤ 257 ∧ f = fun j => if 0 ≤ j ∧ j < i then j * e else V (d + 1) j) → j_ok n_KT 4 C G 8 [(0, (2, d)), (2, (0, e)), (3, (0, i))] [] S (j_row V (d + 1) f) 0 0 := by
    refine j_loop (N := 257) (fun i f hi hI k => ?_) (fun i f hi hI => ?_)
    · obtain ⟨g0, g1, rfl⟩ := hI
      refine t4_8_8 h (fun q => absurd q (by omega)) (fun q => ?_)
      have hb := j_mulb g0 q hq.1 hq.2
      refine t4_8_15 h L ht (by omega) g0 (by omega) (by omega) ?_
      rw [j_row_up]
      refine k _ ⟨by omega, by omega, ?_⟩
      funext j
      unfold j_u
      by_cases hj : j = i
      · subst hj; rw [if_pos rfl, if_pos (by omega)]
      · rw [if_neg hj]
        dsimp only
        by_cases hj2 : 0 ≤ j ∧ j < i
        · rw [if_pos hj2, if_pos (by omega)]
        · rw [if_neg hj2, if_neg (by omega)]
    · obtain ⟨g0, g1, rfl⟩ := hI
      refine t4_8_8 h (fun q => ?_) (fun q => absurd q (by omega))
      refine t4_8_30 h R ⟨rfl, ?_⟩ (Nat.le_refl _) (Nat.le_refl _)
      have : i = 257 := by omega
      subst this
      unfold j_flat
      congr 1
      funext j
      by_cases hj : 0 ≤ j ∧ j < 257
      · rw [if_pos hj, if_pos (by omega)]
      · rw [if_neg hj, if_neg (by omega)]
  have := loop 0 (V (d + 1)) ⟨by omega, by omega, by funext j; rw [if_neg (by omega)]⟩
  rw [j_row_self] at this
  exact this
/-- begins behind one sign, up to another, are changed -/
def j_raise (V : jH) (a b u by_ : Int) : jH := j_row V a (fun j => if b < j ∧ j ≤ u then V a j + by_ else V a j)
theorem m4_12 (l : Launch) : M4_12 l 0 0 (fun d b u y S V => j_L S ∧ -1 ≤ b ∧ b ≤ 256 ∧ u ≤ 256 ∧ ∀ j : Int, b < j → j ≤ u → j_I32 (V (d + 1) j + y)) (fun d b u y S V S' V' => S' = S ∧ V' = j_raise V (d + 1) b u y) := by
  refine e4_12 ?_
  rintro C G h hrm hcs hl hn d b u y S V ht ⟨L, h0, hb9, h1, hr⟩ R
  by_cases hbu : b < u
  · refine t4_12_0 h (by omega) ?_
    have loop : ∀ (i : Int) (f : Int → Int), (b < i ∧ i ≤ u + 1 ∧ f = fun j => if b < j ∧ j < i then V (d + 1) j + y else V (d + 1) j) → j_ok n_KT 5 C G 5 [(0, (2, d)), (2, (0, u)), (3, (0, y)), (4, (0, i))] [] S (j_row V (d + 1) f) 0 0 := by
      refine j_loop (N := u + 1) (fun i f hi hI k => ?_) (fun i f hi hI => ?_)
      · obtain ⟨g0, g1, rfl⟩ := hI
        refine t4_12_5 h (fun q => absurd q (by omega)) (fun q => ?_)
        have e1 : j_row V (d + 1) (fun j => if b < j ∧ j < i then V (d + 1) j + y else V (d + 1) j) (d + 1) i = V (d + 1) i := by
          rw [j_row_at, if_neg (by omega)]
        refine t4_12_11 h L ht (by omega) (by omega) (by rw [e1]; exact hr i g0 q) (by omega) ?_
        rw [j_row_up, e1]
        refine k _ ⟨by omega, by omega, ?_⟩
        funext j
        unfold j_u
        by_cases hj : j = i
        · subst hj; rw [if_pos rfl, if_pos (by omega)]
        · rw [if_neg hj]
          dsimp only
          by_cases hj2 : b < j ∧ j < i
          · rw [if_pos hj2, if_pos (by omega)]
          · rw [if_neg hj2, if_neg (by omega)]
      · obtain ⟨g0, g1, rfl⟩ := hI
        refine t4_12_5 h (fun q => ?_) (fun q => absurd q (by omega))
        refine t4_12_28 h R ⟨rfl, ?_⟩ (Nat.le_refl _) (Nat.le_refl _)
        have : i = u + 1 := by omega
        subst this
        unfold j_raise
        congr 1
        funext j
        by_cases hj : b < j ∧ j < u + 1
        · rw [if_pos hj, if_pos (by omega)]
        · rw [if_neg hj, if_neg (by omega)]
    have := loop (b + 1) (V (d + 1)) ⟨by omega, by omega, by funext j; rw [if_neg (by omega)]⟩
    rw [j_row_self] at this
    exact this
  · refine t4_12_0 h (by omega) ?_
    refine t4_12_5 h (fun q => ?_) (fun q => absurd q (by omega))
    refine t4_12_28 h R ⟨rfl, ?_⟩ (Nat.le_refl _) (Nat.le_refl _)
    unfold j_raise
    have : (fun j => if b < j ∧ j ≤ u then V (d + 1) j + y else V (d + 1) j) = V (d + 1) := by
      funext j
      rw [if_neg (by omega)]
    rw [this, j_row_self]
