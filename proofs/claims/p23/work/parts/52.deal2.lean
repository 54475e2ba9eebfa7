/-! THE CLASS: deals, further -/
def j_fill (V : jH) (a n x : Int) : jH := j_row V a (fun j => if 0 ≤ j ∧ j < n then x else V a j)
theorem m17_103 (l : Launch) (n : Nat) : M17_103 l 0 0 (fun a x S V => j_arr S a n ∧ (n : Int) ≤ 100000) (fun a x S V S' V' => S' = S ∧ V' = j_fill V a n x) := by
  refine e17_103 ?_
  rintro C G h hrm hcs hl hn a x S V ⟨hA, hb⟩ R
  refine t17_103_0 h hA (by omega) ?_
  have loop : ∀ (i : Int) (f : Int → Int), (0 ≤ i ∧ i ≤ n ∧ f = fun j => if 0 ≤ j ∧ j < i then x else V a j) → j_ok n_KT 4 C G 5 [(0, (2, a)), (1, (0, x)), (2, (0, i)), (3, (0, (n : Int)))] [] S (j_row V a f) 0 0 := by
    refine j_loop (N := n) (fun i f hi hI k => ?_) (fun i f hi hI => ?_)
    · obtain ⟨g0, g1, rfl⟩ := hI
      refine t17_103_5 h (fun q => absurd q (by omega)) (fun q => ?_)
      refine t17_103_10 h hA g0 q (by omega) ?_
      rw [j_row_up]
      refine k _ ⟨by omega, by omega, ?_⟩
      funext j
      unfold j_u
      by_cases hj : j = i
      · subst hj; rw [if_pos rfl, if_pos (by omega)]
      · rw [if_neg hj]
        dsimp only
        by_cases hj2 : 0 ≤ j ∧ j < i
        · rw [if_pos hj2, if_pos (by omega)]
        · rw [if_neg hj2, if_neg (by omega)]
    · obtain ⟨g0, g1, rfl⟩ := hI
      refine t17_103_5 h (fun q => ?_) (fun q => absurd q (by omega))
      have : i = n := by omega
      subst this
      exact t17_103_20 h R ⟨rfl, rfl⟩ (Nat.le_refl _) (Nat.le_refl _)
  have := loop 0 (V a) ⟨by omega, by omega, by funext j; rw [if_neg (by omega)]⟩
  rw [j_row_self] at this
  exact this
theorem m4_7 (l : Launch) : M4_7 l 0 0 (fun d S V => j_L S) (fun d S V S' V' => S' = S ∧ V' = j_fill V (d + 1) 257 0) := by
  refine e4_7 ?_
  rintro C G h hrm hcs hl hn d S V ht L R
  refine t4_7_0 h L hrm ht (m17_103 C.2.1 257) ⟨j_arr_of (L2_0k L ht) (by decide) rfl, by decide⟩ (Nat.zero_le _) (Nat.zero_le _) ?_
  rintro S' V' ⟨rfl, rfl⟩
  exact t4_7_8 h R ⟨rfl, rfl⟩ (Nat.le_refl _) (Nat.le_refl _)
theorem m4_10 (l : Launch) : M4_10 l 0 0 (fun d s x S V => j_L S ∧ 0 ≤ s ∧ s < 256) (fun d s x S V S' V' => S' = S ∧ V' = j_up V (d + 1) (s + 1) x) := by
  refine e4_10 ?_
  rintro C G h hrm hcs hl hn d s x S V ht ⟨L, h0, h1⟩ R
  exact t4_10_0 h L ht (by omega) (by omega) (by omega) R ⟨rfl, rfl⟩ (Nat.le_refl _) (Nat.le_refl _)
/-- each begin is the sum of what stood up to there -/
def j_sumUp (V : jH) (a : Int) : jH := j_row V a (fun j => if 0 ≤ j ∧ j ≤ 256 then j_pre (V a) (j + 1) else V a j)
theorem m4_11 (l : Launch) : M4_11 l 0 0 (fun d S V => j_L S ∧ ∀ j : Int, 0 ≤ j → j ≤ 256 → 0 ≤ V (d + 1) j ∧ V (d + 1) j ≤ 4096) (fun d S V S' V' => S' = S ∧ V' = j_sumUp V (d + 1)) := by
  refine e4_11 ?_
  rintro C G h hrm hcs hl hn d S V ht ⟨L, hb⟩ R
  refine t4_11_0 h ?_
  have loop : ∀ (i : Int) (f : Int → Int), (0 ≤ i ∧ i ≤ 256 ∧ f = fun j => if 0 ≤ j ∧ j ≤ i then j_pre (V (d + 1)) (j + 1) else V (d + 1) j) → j_ok n_KT 2 C G 2 [(0, (2, d)), (1, (0, i))] [] S (j_row V (d + 1) f) 0 0 := by
    refine j_loop (N := 256) (fun i f hi hI k => ?_) (fun i f hi hI => ?_)
    · obtain ⟨g0, g1, rfl⟩ := hI
      refine t4_11_2 h (fun q => absurd q (by omega)) (fun q => ?_)
      have e1 : j_row V (d + 1) (fun j => if 0 ≤ j ∧ j ≤ i then j_pre (V (d + 1)) (j + 1) else V (d + 1) j) (d + 1) (i + 1) = V (d + 1) (i + 1) := by
        rw [j_row_at, if_neg (by omega)]
      have e2 : j_row V (d + 1) (fun j => if 0 ≤ j ∧ j ≤ i then j_pre (V (d + 1)) (j + 1) else V (d + 1) j) (d + 1) i = j_pre (V (d + 1)) (i + 1) := by
        rw [j_row_at, if_pos (by omega)]
      have b1 := hb (i + 1) (by omega) (by omega)
      have b2 := j_pre_bd (f := V (d + 1)) (B := 4096) (i := i + 1) (by decide) (by omega) (fun k h0 h1 => hb k h0 (by omega))
      refine t4_11_9 h L ht (by omega) (by omega) (by omega) g0 (by omega) (by rw [e1, e2]; omega) ?_
      rw [e1, e2, j_row_up]
      refine k _ ⟨by omega, by omega, ?_⟩
      funext j
      unfold j_u
      by_cases hj : j = i + 1
      · subst hj
        rw [if_pos rfl, if_pos (by omega), j_pre_s _ (show 0 ≤ i + 1 by omega)]
        omega
      · rw [if_neg hj]
        dsimp only
        by_cases hj2 : 0 ≤ j ∧ j ≤ i
        · rw [if_pos hj2, if_pos (by omega)]
        · rw [if_neg hj2, if_neg (by omega)]
    · obtain ⟨g0, g1, rfl⟩ := hI
      refine t4_11_2 h (fun q => ?_) (fun q => absurd q (by omega))
      have : i = 256 := by omega
      subst this
      exact t4_11_32 h R ⟨rfl, rfl⟩ (Nat.le_refl _) (Nat.le_refl _)
  have := loop 0 (V (d + 1)) ⟨by omega, by omega, by
    funext j
    by_cases hj : j = 0
    · subst hj
      rw [if_pos (by omega), j_pre_s _ (show (0 : Int) ≤ 0 by omega), j_pre_0]
      omega
    · rw [if_neg (by omega)]⟩
  rw [j_row_self] at this
  exact this
theorem m4_9 (l : Launch) : M4_9 l 0 0 (fun d s f S V => j_L S ∧ 0 ≤ s ∧ s < 256 ∧ 0 ≤ f ∧ f ≤ 4096 ∧ ∀ j : Int, 0 ≤ j → j ≤ 256 → 0 ≤ V (d + 1) j ∧ V (d + 1) j ≤ 1048576) (fun d s f S V S' V' => S' = S ∧ V' = j_raise V (d + 1) s 256 (f - (V (d + 1) (s + 1) - V (d + 1) s))) := by
  refine e4_9 ?_
  rintro C G h hrm hcs hl hn d s f S V ht ⟨L, h0, h1, h2, h3, hb⟩ R
  have b1 := hb s h0 (by omega)
  have b2 := hb (s + 1) (by omega) (by omega)
  refine t4_9_0 h hrm ht (m4_2 C.2.1) ⟨L, h0, h1, by omega⟩ (Nat.zero_le _) (Nat.zero_le _) ?_
  rintro r S' V' ⟨rfl, rfl, rfl⟩
  refine t4_9_11 h hrm (by omega) ht (m4_12 C.2.1) ⟨L, by omega, by omega, by omega, fun j g0 g1 => ?_⟩ (Nat.zero_le _) (Nat.zero_le _) ?_
  · have b3 := hb j (by omega) g1
    omega
  · rintro S' V' ⟨rfl, rfl⟩
    exact t4_9_15 h R ⟨rfl, rfl⟩ (Nat.le_refl _) (Nat.le_refl _)
/-- so many shares has a sign -/
abbrev j_sh (b : Int → Int) (s : Int) : Int := b (s + 1) - b s
/-- begins are numbers of a size -/
abbrev j_bd (b : Int → Int) (B : Int) : Prop := ∀ j : Int, 0 ≤ j → j ≤ 256 → 0 ≤ b j ∧ b j ≤ B
theorem m4_5 (l : Launch) : M4_5 l 0 0 (fun d w S V => j_L S ∧ S.1 w = 27 ∧ j_bd (V (d + 1)) 1048576 ∧ 0 ≤ V w 1 ∧ V w 1 ≤ 400 ∧ ∀ i : Int, 0 ≤ i → i < V w 1 → 0 ≤ V (w + 1) i ∧ V (w + 1) i < 256)
    (fun d w S V r S' V' => S' = S ∧ V' = V ∧ ((r = -1 ∧ ∀ i : Int, 0 ≤ i → i < V w 1 → j_sh (V (d + 1)) (V (w + 1) i) ≠ 0) ∨ (0 ≤ r ∧ r < V w 1 ∧ j_sh (V (d + 1)) (V (w + 1) r) = 0 ∧ ∀ i : Int, 0 ≤ i → i < r → j_sh (V (d + 1)) (V (w + 1) i) ≠ 0))) := by
  refine e4_5 ?_
  rintro C G h hrm hcs hl hn d w S V ht ⟨L, hw, hb, h0, h1, hs⟩ R
  refine t4_5_0 h ?_
  have loop : ∀ (i : Int) (u : Unit), (0 ≤ i ∧ i ≤ V w 1 ∧ ∀ k : Int, 0 ≤ k → k < i → j_sh (V (d + 1)) (V (w + 1) k) ≠ 0) → j_ok n_KT 3 C G 2 [(0, (2, d)), (1, (2, w)), (2, (0, i))] [] S V 0 0 := by
    refine j_loop (N := V w 1) (fun i u hi hI k => ?_) (fun i u hi hI => ?_)
    · obtain ⟨g0, g1, g2⟩ := hI
      refine t4_5_2 h hw (fun q => absurd q (by omega)) (fun q => ?_)
      have s1 := hs i g0 q
      have b1 := hb (V (w + 1) i) s1.1 (by omega)
      have b2 := hb (V (w + 1) i + 1) (by omega) (by omega)
      refine t4_5_10 h L hrm hw g0 (by omega) ht (m4_2 C.2.1) ⟨L, s1.1, s1.2, by omega⟩ (Nat.zero_le _) (Nat.zero_le _) ?_
      rintro r S' V' ⟨rfl, rfl, rfl⟩
      refine t4_5_20 h (fun q2 => ?_) (fun q2 => ?_)
      · refine t4_5_25 h (by omega) (k () ⟨by omega, by omega, fun j j0 j1 => ?_⟩)
        by_cases hj : j = i
        · subst hj; exact q2
        · exact g2 j j0 (by omega)
      · exact t4_5_23 h R ⟨rfl, rfl, Or.inr ⟨g0, q, q2, g2⟩⟩ (Nat.le_refl _) (Nat.le_refl _)
    · obtain ⟨g0, g1, g2⟩ := hI
      refine t4_5_2 h hw (fun q => ?_) (fun q => absurd q (by omega))
      have : i = V w 1 := by omega
      subst this
      exact t4_5_31 h R ⟨rfl, rfl, Or.inl ⟨rfl, g2⟩⟩ (Nat.le_refl _) (Nat.le_refl _)
  exact loop 0 () ⟨by omega, h0, fun k k0 k1 => absurd k1 (by omega)⟩
/-- the lowest of the signs with the most shares but one, or -1 if that has but 1 -/
def j_rich (b : Int → Int) (s n g m : Int) : Prop :=
  (g = -1 ∧ m = 1 ∧ ∀ o : Int, 0 ≤ o → o < n → o ≠ s → j_sh b o ≤ 1) ∨
  (0 ≤ g ∧ g < n ∧ g ≠ s ∧ m = j_sh b g ∧ 1 < m ∧ ∀ o : Int, 0 ≤ o → o < n → o ≠ s → j_sh b o ≤ m ∧ (o < g → j_sh b o < m))
theorem m4_15 (l : Launch) : M4_15 l 0 0 (fun d s S V => j_L S ∧ j_bd (V (d + 1)) 1048576) (fun d s S V r S' V' => S' = S ∧ V' = V ∧ ∃ m, j_rich (V (d + 1)) s 256 r m) := by
  refine e4_15 ?_
  rintro C G h hrm hcs hl hn d s S V ht ⟨L, hb⟩ R
  refine t4_15_0 h L ht ?_
  have loop : ∀ (i : Int) (z : Int × Int), (0 ≤ i ∧ i ≤ 256 ∧ j_rich (V (d + 1)) s i z.1 z.2) → j_ok n_KT 7 C G 15 [(0, (2, d)), (1, (0, s)), (2, (0, z.1)), (3, (0, z.2)), (4, (0, V (d + 1) i)), (5, (0, i))] [] S V 0 0 := by
    refine j_loop (N := 256) (fun i z hi hI k => ?_) (fun i z hi hI => ?_)
    · obtain ⟨g, m⟩ := z
      obtain ⟨g0, g1, g2⟩ := hI
      have g2 : j_rich (V (d + 1)) s i g m := g2
      refine t4_15_15 h (fun q => absurd q (by omega)) (fun q => ?_)
      have b1 := hb i g0 (by omega)
      have b2 := hb (i + 1) (by omega) (by omega)
      have same : (j_sh (V (d + 1)) i ≤ m ∨ i = s) → j_rich (V (d + 1)) s (i + 1) g m := by
        intro hle
        rcases g2 with ⟨q1, q2, q3⟩ | ⟨q1, q2, q3, q4, q5, q6⟩
        · refine Or.inl ⟨q1, q2, fun o o0 o1 o2 => ?_⟩
          by_cases ho : o = i
          · subst ho
            rcases hle with hle | hle
            · omega
            · exact absurd hle o2
          · exact q3 o o0 (by omega) o2
        · refine Or.inr ⟨q1, by omega, q3, q4, q5, fun o o0 o1 o2 => ?_⟩
          by_cases ho : o = i
          · subst ho
            rcases hle with hle | hle
            · exact ⟨hle, fun hh => absurd hh (by omega)⟩
            · exact absurd hle o2
          · exact q6 o o0 (by omega) o2
      refine t4_15_23 h L ht (by omega) (by omega) (by omega) (by omega) (fun q2 => ?_) (fun q2 => ?_)
      · exact t4_15_58 h (by omega) (k (g, m) ⟨by omega, by omega, same (Or.inl q2)⟩)
      · refine t4_15_43 h (fun q3 => ?_) (fun q3 => ?_)
        · exact t4_15_58 h (by omega) (k (g, m) ⟨by omega, by omega, same (Or.inr q3)⟩)
        · refine t4_15_49 h (by omega) (t4_15_58 h (by omega) (k (i, j_sh (V (d + 1)) i) ⟨by omega, by omega, Or.inr ⟨g0, by omega, q3, rfl, ?_, fun o o0 o1 o2 => ?_⟩⟩))
          · show 1 < j_sh (V (d + 1)) i
            have q2 : m < j_sh (V (d + 1)) i := q2
            rcases g2 with ⟨-, p2, -⟩ | ⟨-, -, -, -, p5, -⟩ <;> omega
          · show j_sh (V (d + 1)) o ≤ j_sh (V (d + 1)) i ∧ (o < i → j_sh (V (d + 1)) o < j_sh (V (d + 1)) i)
            have q2 : m < j_sh (V (d + 1)) i := q2
            by_cases ho : o = i
            · subst ho; exact ⟨Int.le_refl _, fun hh => absurd hh (by omega)⟩
            · have hm : j_sh (V (d + 1)) o ≤ m := by
                rcases g2 with ⟨-, p2, p3⟩ | ⟨-, -, -, -, p5, p6⟩
                · have := p3 o o0 (by omega) o2; omega
                · exact (p6 o o0 (by omega) o2).1
              exact ⟨by omega, fun _ => by omega⟩
    · obtain ⟨g, m⟩ := z
      obtain ⟨g0, g1, g2⟩ := hI
      refine t4_15_15 h (fun q => ?_) (fun q => absurd q (by omega))
      have : i = 256 := by omega
      subst this
      exact t4_15_68 h R ⟨rfl, rfl, m, g2⟩ (Nat.le_refl _) (Nat.le_refl _)
  exact loop 0 (-1, 1) ⟨by omega, by omega, Or.inl ⟨rfl, rfl, fun o o0 o1 => absurd o1 (by omega)⟩⟩
