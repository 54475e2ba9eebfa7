/-! THE CLASS: the dealer -/
theorem m1_34 (l : Launch) : M1_34 l 0 0 (fun s S V => True) (fun s S V r S' V' => S' = S ∧ V' = V ∧ r = s % 4) := by
  refine e1_34 ?_
  rintro C G h hrm hcs hl hn s S V - R
  exact t1_34_0 h R ⟨rfl, rfl, rfl⟩ (Nat.le_refl _) (Nat.le_refl _)
theorem m5_8 (l : Launch) : M5_8 l 0 0 (fun a s g al S V => j_L S ∧ 0 ≤ s ∧ s < 256 ∧ V (a + 1) s ≤ 400 ∧ 0 ≤ g ∧ g ≤ 1000000000 ∧ 256 ≤ al ∧ al ≤ 4096) (fun a s g al S V r S' V' => S' = S ∧ V' = V ∧ r = j_wa (V (a + 1)) g al s) := by
  refine e5_8 ?_
  rintro C G h hrm hcs hl hn a s g al S V ht ⟨L, h0, h1, h2, h3, h4, h5, h6⟩ R
  refine t5_8_0 h L ht h0 h1 (fun q => ?_) (fun q => ?_)
  · have b := j_wa_bd (c := V (a + 1)) (g := g) (al := al) (s := s) (by omega)
    have e : j_wa (V (a + 1)) g al s = 1 + min (al - 1) (1000000 / max 1 ((g + V (a + 1) s - 1) / V (a + 1) s)) := by unfold j_wa; rw [if_neg (by omega)]
    refine t5_8_16 h (by omega) (by omega) (by omega) (by omega) q (Nat.zero_le _) (Nat.zero_le _) (by omega) (by omega) (by rw [← e]; omega) R ⟨rfl, rfl, e.symm⟩ (Nat.le_refl _) (Nat.le_refl _)
  · exact t5_8_14 h R ⟨rfl, rfl, by unfold j_wa; rw [if_pos q]⟩ (Nat.le_refl _) (Nat.le_refl _)
/-- the signs that have a count, from the lowest on -/
def j_cl (c k : Int → Int) (m n : Int) : Prop := 0 ≤ n ∧ n ≤ m ∧ (∀ i : Int, 0 ≤ i → i < n → 0 ≤ k i ∧ k i < m ∧ 0 < c (k i)) ∧ (∀ i j : Int, 0 ≤ i → i < j → j < n → k i < k j) ∧ ∀ s : Int, 0 ≤ s → s < m → 0 < c s → ∃ i : Int, 0 ≤ i ∧ i < n ∧ k i = s
theorem j_cl_at {c k : Int → Int} {n : Int} (h : j_cl c k 256 n) {f : Int → Int} (hf : ∀ s : Int, 0 ≤ s → s < 256 → c s ≤ 0 → f s = 0) : ∀ m : Int, 0 ≤ m → m ≤ 256 → ∃ j : Int, 0 ≤ j ∧ j ≤ n ∧ (∀ i : Int, 0 ≤ i → i < j → k i < m) ∧ (∀ i : Int, j ≤ i → i < n → m ≤ k i) ∧ j_pre (fun i => f (k i)) j = j_pre f m := by
  obtain ⟨h0, h1, h2, h3, h4⟩ := h
  intro m
  obtain ⟨u, hu⟩ : ∃ u : Nat, u = m.toNat := ⟨_, rfl⟩
  induction u generalizing m with
  | zero =>
    intro m0 m1
    have : m = 0 := by omega
    subst this
    exact ⟨0, by omega, h0, fun i i0 i1 => absurd i1 (by omega), fun i i0 i1 => (h2 i i0 i1).1, rfl⟩
  | succ u ih =>
    intro m0 m1
    obtain ⟨j, j0, j1, j2, j3, j4⟩ := ih (m - 1) (by omega) (by omega) (by omega)
    have em : m = (m - 1) + 1 := by omega
    by_cases hc : 0 < c (m - 1)
    · obtain ⟨i, i0, i1, i2⟩ := h4 (m - 1) (by omega) (by omega) hc
      have hij : i = j := by
        rcases Int.lt_or_le i j with z | z
        · have := j2 i i0 z; omega
        · rcases Int.lt_or_le j i with z2 | z2
          · have := h3 j i j0 z2 i1
            have := j3 j (by omega) (by omega)
            omega
          · omega
      subst hij
      refine ⟨i + 1, by omega, by omega, fun x x0 x1 => ?_, fun x x0 x1 => ?_, ?_⟩
      · by_cases e : x = i
        · subst e; omega
        · have := j2 x x0 (by omega); omega
      · have := h3 i x i0 (by omega) x1
        omega
      · rw [j_pre_s _ i0, em, j_pre_s _ (by omega), j4]
        show j_pre f (m - 1) + f (k i) = j_pre f (m - 1) + f (m - 1)
        rw [i2]
    · refine ⟨j, j0, j1, fun x x0 x1 => by have := j2 x x0 x1; omega, fun x x0 x1 => ?_, ?_⟩
      · have p1 := j3 x x0 x1
        have p2 := (h2 x (by omega) x1).2.2
        have : k x ≠ m - 1 := fun e => hc (by rw [← e]; exact p2)
        omega
      · rw [j4, em, j_pre_s _ (by omega), show m - 1 + 1 - 1 = m - 1 by omega, hf (m - 1) (by omega) (by omega) (by omega)]
        omega
theorem j_cl_sum {c k : Int → Int} {n : Int} (h : j_cl c k 256 n) {f : Int → Int} (hf : ∀ s : Int, 0 ≤ s → s < 256 → c s ≤ 0 → f s = 0) : j_pre (fun i => f (k i)) n = j_pre f 256 := by
  obtain ⟨j, j0, j1, j2, j3, j4⟩ := j_cl_at h hf 256 (by decide) (by decide)
  have : j = n := by
    rcases Int.lt_or_le j n with z | z
    · have := j3 j (by omega) z
      have := (h.2.2.1 j j0 z).2.1
      omega
    · omega
  subst this
  exact j4
/-- up to the i-th counted sign: what stands ahead of it among all signs -/
theorem j_cl_pre {c k : Int → Int} {n : Int} (h : j_cl c k 256 n) {f : Int → Int} (hf : ∀ s : Int, 0 ≤ s → s < 256 → c s ≤ 0 → f s = 0) {i : Int} (i0 : 0 ≤ i) (i1 : i < n) : j_pre (fun i => f (k i)) i = j_pre f (k i) := by
  have hk := h.2.2.1 i i0 i1
  obtain ⟨j, j0, j1, j2, j3, j4⟩ := j_cl_at h hf (k i) hk.1 (by omega)
  have : j = i := by
    rcases Int.lt_or_le j i with z | z
    · have := j3 j (by omega) (by omega)
      have := h.2.2.2.1 j i j0 z i1
      omega
    · rcases Int.lt_or_le i j with z2 | z2
      · have := j2 i i0 z2; omega
      · omega
  subst this
  exact j4
theorem m5_4 (l : Launch) : M5_4 l 0 0 (fun a S V => j_L S) (fun a S V S' V' => S' = S ∧ j_cl (V (a + 1)) (V' (a + 2)) 256 (V' a 2) ∧ (∀ b : Int, b ≠ a → b ≠ a + 2 → V' b = V b) ∧ ∀ j : Int, j ≠ 2 → V' a j = V a j) := by
  refine e5_4 ?_
  rintro C G h hrm hcs hl hn a S V ht L R
  refine t5_4_0 h ht ?_
  have loop : ∀ (i : Int) (V1 : jH), (0 ≤ i ∧ i ≤ 256 ∧ j_cl (V (a + 1)) (V1 (a + 2)) i (V1 a 2) ∧ (∀ b : Int, b ≠ a → b ≠ a + 2 → V1 b = V b) ∧ ∀ j : Int, j ≠ 2 → V1 a j = V a j) → j_ok n_KT 2 C G 7 [(0, (2, a)), (1, (0, i))] [] S V1 0 0 := by
    refine j_loop (N := 256) (fun i V1 hi hI kk => ?_) (fun i V1 hi hI => ?_)
    · obtain ⟨g0, g1, ⟨c0, c1, c2, c3, c4⟩, e1, e2⟩ := hI
      refine t5_4_7 h (fun q => absurd q (by omega)) (fun q => ?_)
      have ec : V1 (a + 1) = V (a + 1) := e1 (a + 1) (by omega) (by omega)
      refine t5_4_14 h L ht g0 q (fun q2 => ?_) (fun q2 => ?_)
      · rw [ec] at q2
        refine t5_4_43 h (by omega) (kk _ ⟨by omega, by omega, ⟨c0, by omega, fun x x0 x1 => ?_, c3, fun s s0 s1 hs => ?_⟩, e1, e2⟩)
        · have := c2 x x0 x1; omega
        · by_cases e : s = i
          · subst e; omega
          · exact c4 s s0 (by omega) hs
      · rw [ec] at q2
        refine t5_4_23 h L ht c0 (by omega) (by omega) (t5_4_43 h (by omega) (kk _ ⟨by omega, by omega, ?_, ?_, ?_⟩))
        · rw [j_up_at, j_up_ne (show a + 2 ≠ a by omega)]
          have eu : ∀ x : Int, j_up V1 (a + 2) (V1 a 2) i (a + 2) x = if x = V1 a 2 then i else V1 (a + 2) x := fun x => by simp [j_up]
          refine ⟨by omega, by omega, fun x x0 x1 => ?_, fun x y x0 x1 y1 => ?_, fun s s0 s1 hs => ?_⟩
          · rw [eu]
            by_cases e : x = V1 a 2
            · rw [if_pos e]; exact ⟨g0, by omega, q2⟩
            · rw [if_neg e]
              have := c2 x x0 (by omega)
              exact ⟨this.1, by omega, this.2.2⟩
          · rw [eu, eu, if_neg (show ¬ x = V1 a 2 by omega)]
            by_cases e : y = V1 a 2
            · rw [if_pos e]; exact (c2 x x0 (by omega)).2.1
            · rw [if_neg e]; exact c3 x y x0 x1 (by omega)
          · by_cases e : s = i
            · exact ⟨V1 a 2, c0, by omega, by rw [eu, if_pos rfl]; exact e.symm⟩
            · obtain ⟨x, x0, x1, x2⟩ := c4 s s0 (by omega) hs
              exact ⟨x, x0, by omega, by rw [eu, if_neg (by omega)]; exact x2⟩
        · intro b b0 b1
          rw [j_up_ne b0, j_up_ne b1]; exact e1 b b0 b1
        · intro j hj
          rw [j_up_off hj, j_up_ne (show a ≠ a + 2 by omega)]; exact e2 j hj
    · obtain ⟨g0, g1, c, e1, e2⟩ := hI
      refine t5_4_7 h (fun q => ?_) (fun q => absurd q (by omega))
      have : i = 256 := by omega
      subst this
      exact t5_4_49 h R ⟨rfl, c, e1, e2⟩ (Nat.le_refl _) (Nat.le_refl _)
  refine loop 0 _ ⟨by omega, by omega, ?_, fun b b0 b1 => j_up_ne b0, fun j hj => j_up_off hj⟩
  rw [j_up_at]
  exact ⟨by omega, by omega, fun x x0 x1 => absurd x1 (by omega), fun x y x0 x1 y1 => absurd y1 (by omega), fun s s0 s1 => absurd s1 (by omega)⟩
