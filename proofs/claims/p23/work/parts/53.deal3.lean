/-! THE CLASS: deals, the rest; tables -/
/-- behind a sign of a row: the richest other one gives it a share -/
def j_give (V : jH) (a s g : Int) : jH := if g < 0 then V else if g < s then j_raise V a g s (-1) else j_raise V a s g 1
theorem m4_14 (l : Launch) : M4_14 l 0 0 (fun d s S V => j_L S ∧ j_bd (V (d + 1)) 1048576 ∧ 0 ≤ s ∧ s < 256) (fun d s S V S' V' => S' = S ∧ ∃ g m, j_rich (V (d + 1)) s 256 g m ∧ V' = j_give V (d + 1) s g) := by
  refine e4_14 ?_
  rintro C G h hrm hcs hl hn d s S V ht ⟨L, hb, h0, h1⟩ R
  refine t4_14_0 h hrm ht (m4_15 C.2.1) ⟨L, hb⟩ (Nat.zero_le _) (Nat.zero_le _) ?_
  rintro g S' V' ⟨rfl, rfl, m, hg⟩
  refine t4_14_5 h (fun q => ?_) (fun q => ?_)
  · have hg2 : g < 256 ∧ g ≠ s := by
      rcases hg with ⟨q1, -⟩ | ⟨-, q2, q3, -⟩
      · omega
      · exact ⟨q2, q3⟩
    refine t4_14_11 h (fun q2 => ?_) (fun q2 => ?_)
    · refine t4_14_26 h hrm ht (m4_12 C.2.1) ⟨L, by omega, by omega, by omega, fun j j0 j1 => by have := hb j (by omega) (by omega); omega⟩ (Nat.zero_le _) (Nat.zero_le _) ?_
      rintro S' V' ⟨rfl, rfl⟩
      refine t4_14_33 h R ⟨rfl, g, m, hg, ?_⟩ (Nat.le_refl _) (Nat.le_refl _)
      unfold j_give
      rw [if_neg (by omega), if_neg (by omega)]
    · refine t4_14_16 h hrm ht (m4_12 C.2.1) ⟨L, by omega, by omega, by omega, fun j j0 j1 => by have := hb j (by omega) (by omega); omega⟩ (Nat.zero_le _) (Nat.zero_le _) ?_
      rintro S' V' ⟨rfl, rfl⟩
      refine t4_14_23 h (t4_14_33 h R ⟨rfl, g, m, hg, ?_⟩ (Nat.le_refl _) (Nat.le_refl _))
      unfold j_give
      rw [if_neg (by omega), if_pos q2]
  · refine t4_14_10 h R ⟨rfl, g, m, hg, ?_⟩ (Nat.le_refl _) (Nat.le_refl _)
    unfold j_give
    rw [if_pos q]
/-- how many signs have shares -/
def j_with (b : Int → Int) (n : Int) : Int := j_pre (fun s => if 0 < j_sh b s then 1 else 0) n
theorem j_with_bd (b : Int → Int) {n : Int} (h : 0 ≤ n) : 0 ≤ j_with b n ∧ j_with b n ≤ n := by
  have := j_pre_bd (f := fun s => if 0 < j_sh b s then (1 : Int) else 0) (B := 1) (i := n) (by decide) h (fun k _ _ => by
    show 0 ≤ (if 0 < j_sh b k then (1 : Int) else 0) ∧ (if 0 < j_sh b k then (1 : Int) else 0) ≤ 1
    split <;> omega)
  unfold j_with
  omega
theorem m4_4 (l : Launch) : M4_4 l 0 0 (fun d S V => j_L S ∧ j_bd (V (d + 1)) 1048576) (fun d S V r S' V' => S' = S ∧ V' = V ∧ r = j_with (V (d + 1)) 256) := by
  refine e4_4 ?_
  rintro C G h hrm hcs hl hn d S V ht ⟨L, hb⟩ R
  refine t4_4_0 h ?_
  have loop : ∀ (i : Int) (w : Int), (0 ≤ i ∧ i ≤ 256 ∧ w = j_with (V (d + 1)) i) → j_ok n_KT 3 C G 4 [(0, (2, d)), (1, (0, w)), (2, (0, i))] [] S V 0 0 := by
    refine j_loop (N := 256) (fun i w hi hI k => ?_) (fun i w hi hI => ?_)
    · obtain ⟨g0, g1, rfl⟩ := hI
      have hw := j_with_bd (V (d + 1)) g0
      have es : j_with (V (d + 1)) (i + 1) = j_with (V (d + 1)) i + (if 0 < j_sh (V (d + 1)) i then 1 else 0) := j_pre_s _ g0
      refine t4_4_4 h (fun q => absurd q (by omega)) (fun q => ?_)
      have b1 := hb i g0 (by omega)
      have b2 := hb (i + 1) (by omega) (by omega)
      refine t4_4_11 h hrm ht (m4_2 C.2.1) ⟨L, g0, q, by omega⟩ (Nat.zero_le _) (Nat.zero_le _) ?_
      rintro r S' V' ⟨rfl, rfl, rfl⟩
      refine t4_4_16 h (fun q2 => ?_) (fun q2 => ?_)
      · refine t4_4_22 h (by omega) (k _ ⟨by omega, by omega, ?_⟩)
        rw [es, if_neg (show ¬ 0 < j_sh (V' (d + 1)) i from by show ¬ 0 < V' (d + 1) (i + 1) - V' (d + 1) i; omega)]
        omega
      · refine t4_4_19 h (by omega) (t4_4_22 h (by omega) (k _ ⟨by omega, by omega, ?_⟩))
        rw [es, if_pos (show 0 < j_sh (V' (d + 1)) i from q2)]
    · obtain ⟨g0, g1, rfl⟩ := hI
      refine t4_4_4 h (fun q => ?_) (fun q => absurd q (by omega))
      have : i = 256 := by omega
      subst this
      exact t4_4_28 h R ⟨rfl, rfl, rfl⟩ (Nat.le_refl _) (Nat.le_refl _)
  exact loop 0 0 ⟨by omega, by omega, rfl⟩
/-- the sign of a slot -/
def j_slot (b : Int → Int) (x r : Int) : Prop := 0 ≤ r ∧ r < 256 ∧ (r = 0 ∨ b r ≤ x) ∧ (r = 255 ∨ x < b (r + 1))
theorem m4_13 (l : Launch) : M4_13 l 0 0 (fun d x S V => j_L S) (fun d x S V r S' V' => S' = S ∧ V' = V ∧ j_slot (V (d + 1)) x r) := by
  refine e4_13 ?_
  rintro C G h hrm hcs hl hn d x S V ht L R
  refine t4_13_0 h ?_
  have inv : ∀ (w sg : Int), Prop := fun w sg => 0 ≤ sg ∧ sg + w ≤ 256 ∧ (sg = 0 ∨ V (d + 1) sg ≤ x) ∧ (sg + w = 256 ∨ x < V (d + 1) (sg + w))
  have half : ∀ lp : Int, lp / 2 ^ (1 : Int).toNat = lp / 2 := fun lp => rfl
  have step : ∀ lp : Int, 1 ≤ lp → (∀ sg : Int, (0 ≤ sg ∧ sg + lp ≤ 256 ∧ (sg = 0 ∨ V (d + 1) sg ≤ x) ∧ (sg + lp = 256 ∨ x < V (d + 1) (sg + lp))) → j_ok n_KT 4 C G 6 [(0, (2, d)), (1, (0, x)), (2, (0, sg)), (3, (0, lp / 2))] [] S V 0 0) →
      ∀ sg : Int, (0 ≤ sg ∧ sg + 2 * lp ≤ 256 ∧ (sg = 0 ∨ V (d + 1) sg ≤ x) ∧ (sg + 2 * lp = 256 ∨ x < V (d + 1) (sg + 2 * lp))) → j_ok n_KT 4 C G 6 [(0, (2, d)), (1, (0, x)), (2, (0, sg)), (3, (0, lp))] [] S V 0 0 := by
    rintro lp h1 k sg ⟨g0, g1, g2, g3⟩
    refine t4_13_6 h (fun q => absurd q (by omega)) (fun q => ?_)
    refine t4_13_10 h L ht (by omega) (by omega) (by omega) (fun q2 => ?_) (fun q2 => ?_)
    · refine t4_13_26 h (by omega) ?_
      rw [half]
      exact k sg ⟨g0, by omega, g2, Or.inr q2⟩
    · refine t4_13_22 h (by omega) (t4_13_26 h (by omega) ?_)
      rw [half]
      refine k (sg + lp) ⟨by omega, by omega, Or.inr q2, ?_⟩
      rw [show sg + lp + lp = sg + 2 * lp by omega]
      exact g3
  have last : ∀ sg : Int, (0 ≤ sg ∧ sg + 1 ≤ 256 ∧ (sg = 0 ∨ V (d + 1) sg ≤ x) ∧ (sg + 1 = 256 ∨ x < V (d + 1) (sg + 1))) → j_ok n_KT 4 C G 6 [(0, (2, d)), (1, (0, x)), (2, (0, sg)), (3, (0, 0))] [] S V 0 0 := by
    rintro sg ⟨g0, g1, g2, g3⟩
    refine t4_13_6 h (fun q => ?_) (fun q => absurd q (by omega))
    exact t4_13_33 h R ⟨rfl, rfl, g0, by omega, g2, by omega⟩ (Nat.le_refl _) (Nat.le_refl _)
  exact step 128 (by decide) (step 64 (by decide) (step 32 (by decide) (step 16 (by decide) (step 8 (by decide) (step 4 (by decide) (step 2 (by decide) (step 1 (by decide) last))))))) 0 ⟨by decide, by decide, Or.inl rfl, Or.inl rfl⟩
theorem m4_6 (l : Launch) : M4_6 l 0 0 (fun d o S V => j_L S ∧ S.1 o = 23) (fun d o S V S' V' => S' = S ∧ V' = j_cpy V (o + 1) 0 (d + 1) 0 257) := by
  refine e4_6 ?_
  rintro C G h hrm hcs hl hn d o S V ht ⟨L, ho⟩ R
  exact t4_6_0 h L (by omega) ho ht R ⟨rfl, rfl⟩ (Nat.le_refl _) (Nat.le_refl _)
theorem m8_3 (l : Launch) : M8_3 l 0 0 (fun a o S V => j_L S ∧ S.1 o = 27 ∧ 0 ≤ V o 1 ∧ V o 1 ≤ 400) (fun a o S V S' V' => S' = S ∧ V' = j_up (j_cpy V (o + 1) 0 (a + 1) 0 (V o 1)) a 1 ((j_cpy V (o + 1) 0 (a + 1) 0 (V o 1)) o 1)) := by
  refine e8_3 ?_
  rintro C G h hrm hcs hl hn a o S V ht ⟨L, ho, h0, h1⟩ R
  exact t8_3_0 h L (by omega) ho ht h0 (by omega) R ⟨rfl, rfl⟩ (Nat.le_refl _) (Nat.le_refl _)
theorem m8_4 (l : Launch) : M8_4 l 0 0 (fun a o S V => j_L S ∧ S.1 o = 28 ∧ 0 ≤ V o 5 ∧ V o 5 ≤ 400) (fun a o S V S' V' => S' = S ∧ V' = j_up (j_cpy V (o + 1) 0 (a + 1) 0 (V o 5)) a 1 ((j_cpy V (o + 1) 0 (a + 1) 0 (V o 5)) o 5)) := by
  refine e8_4 ?_
  rintro C G h hrm hcs hl hn a o S V ht ⟨L, ho, h0, h1⟩ R
  exact t8_4_0 h L (by omega) ho ht h0 (by omega) R ⟨rfl, rfl⟩ (Nat.le_refl _) (Nat.le_refl _)
/-- all of a block's steps are those of another -/
def j_stepsBe (V : jH) (a o : Int) : jH := j_cpy (j_cpy (j_cpy (j_cpy (j_cpy (j_up V a 5 (V o 5)) (o + 1) 0 (a + 1) 0 (V o 5)) (o + 2) 0 (a + 2) 0 (V o 5)) (o + 3) 0 (a + 3) 0 (V o 5)) (o + 4) 0 (a + 4) 0 (V o 5)) (o + 5) 0 (a + 5) 0 (V o 5)
theorem m9_2 (l : Launch) : M9_2 l 0 0 (fun a o S V => j_L S ∧ S.1 o = 28 ∧ 0 ≤ V o 5 ∧ V o 5 ≤ 400) (fun a o S V S' V' => S' = S ∧ V' = j_stepsBe V a o) := by
  refine e9_2 ?_
  rintro C G h hrm hcs hl hn a o S V ht ⟨L, ho, h0, h1⟩ R
  exact t9_2_0 h L (by omega) ho ht h0 (by omega) R ⟨rfl, rfl⟩ (Nat.le_refl _) (Nat.le_refl _)
