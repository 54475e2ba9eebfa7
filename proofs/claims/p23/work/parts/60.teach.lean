/-! THE CLASS: counting and teaching -/
/-- the sign ahead (0 for the first one) -/
def j_bef (w : Int → Int) (i : Int) : Int := if i = 0 then 0 else w (i - 1)
/-- how often a sign is among the first n of a row (of a part: behind a sign that tells it) -/
def j_count (w : Int → Int) (part n s : Int) : Int := j_pre (fun i => if w i = s ∧ (part = -1 ∨ part = j_bef w i % 4) then 1 else 0) n
theorem j_count_bd (w : Int → Int) (part : Int) {n : Int} (s : Int) (h : 0 ≤ n) : 0 ≤ j_count w part n s ∧ j_count w part n s ≤ n := by
  have := j_pre_bd (f := fun i => if w i = s ∧ (part = -1 ∨ part = j_bef w i % 4) then (1 : Int) else 0) (B := 1) (i := n) (by decide) h (fun k _ _ => by
    show 0 ≤ (if _ then (1 : Int) else 0) ∧ (if _ then (1 : Int) else 0) ≤ 1
    split <;> omega)
  unfold j_count
  omega
/-- a row of signs -/
def j_rowOK (V : jH) (w : Int) : Prop := 0 ≤ V w 1 ∧ V w 1 ≤ 400 ∧ ∀ i : Int, 0 ≤ i → i < V w 1 → 0 ≤ V (w + 1) i ∧ V (w + 1) i < 256
theorem m5_3 (l : Launch) : M5_3 l 0 0 (fun a w part S V => j_L S ∧ S.1 w = 27 ∧ (w + 1 < a ∨ a + 2 < w) ∧ j_rowOK V w)
    (fun a w part S V S' V' => S' = S ∧ (∀ s : Int, 0 ≤ s → s < 256 → V' (a + 1) s = j_count (V (w + 1)) part (V w 1) s) ∧ j_cl (V' (a + 1)) (V' (a + 2)) 256 (V' a 2) ∧ (∀ b : Int, b ≠ a → b ≠ a + 1 → b ≠ a + 2 → V' b = V b) ∧ ∀ j : Int, j ≠ 2 → V' a j = V a j) := by
  refine e5_3 ?_
  rintro C G h hrm hcs hl hn a w part S V ht ⟨L, hw, hap, r0, r1, r2⟩ R
  refine t5_3_0 h L hrm ht (m17_103 C.2.1 256) ⟨j_arr_of (L3_0k L ht) (by decide) rfl, by decide⟩ (Nat.zero_le _) (Nat.zero_le _) ?_
  rintro S' V0 ⟨rfl, rfl⟩
  refine t5_3_8 h ?_
  have loop : ∀ (i : Int) (z : Int × (Int → Int)), (0 ≤ i ∧ i ≤ V w 1 ∧ z.1 = j_bef (V (w + 1)) i ∧ ∀ s : Int, 0 ≤ s → s < 256 → z.2 s = j_count (V (w + 1)) part i s) →
      j_ok n_KT 6 C G 13 [(0, (2, a)), (1, (2, w)), (2, (0, part)), (3, (0, z.1)), (4, (0, i))] [] S' (j_row V (a + 1) z.2) 0 0 := by
    refine j_loop (N := V w 1) (fun i z hi hI kk => ?_) (fun i z hi hI => ?_)
    · obtain ⟨be, f⟩ := z
      obtain ⟨g0, g1, g2, g3⟩ := hI
      have g2 : be = j_bef (V (w + 1)) i := g2
      have g3 : ∀ s : Int, 0 ≤ s → s < 256 → f s = j_count (V (w + 1)) part i s := g3
      have ew : j_row V (a + 1) f w = V w := j_row_ne (by omega)
      have ew1 : j_row V (a + 1) f (w + 1) = V (w + 1) := j_row_ne (by omega)
      have hs := r2 i g0 hi
      have eb : j_bef (V (w + 1)) (i + 1) = V (w + 1) i := by unfold j_bef; rw [if_neg (by omega), show i + 1 - 1 = i by omega]
      refine t5_3_13 h hw (fun q => absurd q (by show ¬ j_row V (a + 1) f w 1 ≤ i; rw [ew]; omega)) (fun q => ?_)
      have yes : (part = -1 ∨ part = j_bef (V (w + 1)) i % 4) → j_ok n_KT 6 C G 44 [(0, (2, a)), (1, (2, w)), (2, (0, part)), (4, (0, i)), (5, (0, V (w + 1) i))] [] S' (j_row V (a + 1) f) 0 0 := by
        intro hp
        have ef : j_row V (a + 1) f (a + 1) (V (w + 1) i) = f (V (w + 1) i) := by rw [j_row_at]
        have bf := j_count_bd (V (w + 1)) part (V (w + 1) i) g0
        have bf2 := g3 (V (w + 1) i) hs.1 hs.2
        refine t5_3_44 h L ht hs.1 hs.2 (by rw [ef]; omega) ?_
        rw [j_row_up, ef]
        refine t5_3_55 h (by omega) (kk (V (w + 1) i, j_u f (V (w + 1) i) (f (V (w + 1) i) + 1)) ⟨by omega, by omega, eb.symm, fun s s0 s1 => ?_⟩)
        show j_u f (V (w + 1) i) (f (V (w + 1) i) + 1) s = _
        unfold j_count at g3 ⊢
        rw [j_pre_s _ g0]
        by_cases e : s = V (w + 1) i
        · rw [e, j_u_at, if_pos ⟨rfl, hp⟩, g3 _ hs.1 hs.2]
        · rw [j_u_ne e, if_neg (fun z => e z.1.symm), g3 s s0 s1]
          omega
      have no : ¬ (part = -1 ∨ part = j_bef (V (w + 1)) i % 4) → j_ok n_KT 6 C G 55 [(0, (2, a)), (1, (2, w)), (2, (0, part)), (4, (0, i)), (5, (0, V (w + 1) i))] [] S' (j_row V (a + 1) f) 0 0 := by
        intro hp
        refine t5_3_55 h (by omega) (kk (V (w + 1) i, f) ⟨by omega, by omega, eb.symm, fun s s0 s1 => ?_⟩)
        show f s = _
        unfold j_count at g3 ⊢
        rw [j_pre_s _ g0, if_neg (fun z => hp z.2), g3 s s0 s1]
        omega
      refine t5_3_22 h L hw g0 (by omega) (fun q2 => ?_) (fun q2 => ?_)
      · show j_ok n_KT 6 C G 44 [(0, (2, a)), (1, (2, w)), (2, (0, part)), (4, (0, i)), (5, (0, j_row V (a + 1) f (w + 1) i))] [] S' (j_row V (a + 1) f) 0 0
        rw [ew1]
        exact yes (Or.inl q2)
      · show j_ok n_KT 6 C G 36 [(0, (2, a)), (1, (2, w)), (2, (0, part)), (3, (0, be)), (4, (0, i)), (5, (0, j_row V (a + 1) f (w + 1) i))] [] S' (j_row V (a + 1) f) 0 0
        rw [ew1]
        refine t5_3_36 h hrm (m1_34 C.2.1) trivial (Nat.zero_le _) (Nat.zero_le _) ?_
        rintro r S1 V1 ⟨rfl, rfl, rfl⟩
        refine t5_3_41 h (fun q3 => no ?_) (fun q3 => yes (Or.inr (by rw [← g2]; exact q3)))
        rintro (z | z)
        · exact q2 z
        · exact q3 (by rw [g2]; exact z)
    · obtain ⟨be, f⟩ := z
      obtain ⟨g0, g1, g2, g3⟩ := hI
      have ei : i = V w 1 := by omega
      subst ei
      have ew : j_row V (a + 1) f w = V w := j_row_ne (by omega)
      refine t5_3_13 h hw (fun q => ?_) (fun q => absurd q (by show ¬ V w 1 < j_row V (a + 1) f w 1; rw [ew]; omega))
      refine t5_3_64 h hrm ht (m5_4 C.2.1) L (Nat.zero_le _) (Nat.zero_le _) ?_
      rintro S1 V1 ⟨rfl, c1, c2, c3⟩
      have ea1 : V1 (a + 1) = f := (c2 (a + 1) (by omega) (by omega)).trans (j_row_at _ _ _)
      refine t5_3_68 h R ⟨rfl, fun s s0 s1 => ?_, ?_, fun b b0 b1 b2 => ?_, fun j hj => ?_⟩ (Nat.le_refl _) (Nat.le_refl _)
      · rw [ea1]; exact g3 s s0 s1
      · rw [ea1]
        have c1 : j_cl (j_row V (a + 1) f (a + 1)) (V1 (a + 2)) 256 (V1 a 2) := c1
        rw [j_row_at] at c1
        exact c1
      · rw [c2 b b0 b2]; exact j_row_ne b1
      · rw [c3 j hj]; exact congrFun (j_row_ne (by omega)) j
  have := loop 0 (0, fun j => if 0 ≤ j ∧ j < 256 then 0 else V (a + 1) j) ⟨by omega, r0, rfl, fun s s0 s1 => by show (if 0 ≤ s ∧ s < 256 then 0 else V (a + 1) s) = _; rw [if_pos ⟨s0, s1⟩]; rfl⟩
  exact this
theorem j_cl_congr {c c' k : Int → Int} {n : Int} (h : ∀ s : Int, 0 ≤ s → s < 256 → c' s = c s) (hc : j_cl c k 256 n) : j_cl c' k 256 n := by
  obtain ⟨h0, h1, h2, h3, h4⟩ := hc
  refine ⟨h0, h1, fun i i0 i1 => ?_, h3, fun s s0 s1 hs => h4 s s0 s1 (by rw [← h s s0 s1]; exact hs)⟩
  obtain ⟨a, b, c⟩ := h2 i i0 i1
  exact ⟨a, b, by rw [h _ a b]; exact c⟩
theorem j_opt_congr {c c' : Int → Int} {al : Int} {sh : Int → Int} (h : ∀ s : Int, 0 ≤ s → s < 256 → c' s = c s) (ho : j_opt c al sh) : j_opt c' al sh := by
  obtain ⟨h0, h1, h2, h3⟩ := ho
  refine ⟨fun s s0 s1 hs => h0 s s0 s1 (by rw [← h s s0 s1]; exact hs), fun s s0 s1 hs => h1 s s0 s1 (by rw [← h s s0 s1]; exact hs), h2, fun s t s0 s1 t0 t1 hst hs ht h2t => ?_⟩
  have := h3 s t s0 s1 t0 t1 hst (by rw [← h s s0 s1]; exact hs) (by rw [← h t t0 t1]; exact ht) h2t
  unfold j_gn at this ⊢
  rw [h s s0 s1, h t t0 t1]
  exact this
theorem j_deal_congr {c c' : Int → Int} {al : Int} {sh : Int → Int} (h : ∀ s : Int, 0 ≤ s → s < 256 → c' s = c s) (ho : j_deal c al sh) : j_deal c' al sh := by
  rcases ho with ⟨h1, s, s0, s1, s2⟩ | ⟨h1, h2⟩
  · exact Or.inl ⟨j_opt_congr h h1, s, s0, s1, by rw [h s s0 s1]; exact s2⟩
  · exact Or.inr ⟨fun s s0 s1 => by rw [h s s0 s1]; exact h1 s s0 s1, h2⟩
/-- which part of a row's signs teaches a deal -/
def j_ofPart (k p : Int) : Int := if k = 3 then p else -1
/-- a table is taught by a row -/
def j_taught (V V' : jH) (a t w : Int) : Prop :=
  (∀ p : Int, 0 ≤ p → p < j_parts (V t 1) → ∃ sh, j_deal (j_count (V (w + 1)) (j_ofPart (V t 1) p) (V w 1)) (j_M (V t 2)) sh ∧ ∀ j : Int, 0 ≤ j → j ≤ 256 → V' (t + 3 + 2 * p) j = j_pre sh j) ∧
  (∀ b : Int, b ≠ a → b ≠ a + 1 → b ≠ a + 2 → (∀ p : Int, 0 ≤ p → p < j_parts (V t 1) → b ≠ t + 3 + 2 * p) → V' b = V b) ∧ ∀ j : Int, j ≠ 2 → V' a j = V a j
theorem m5_2 (l : Launch) : M5_2 l 0 0 (fun a t w S V => j_L S ∧ S.1 t = 29 ∧ S.1 w = 27 ∧ (w + 1 < a ∨ a + 2 < w) ∧ (t + 9 < a ∨ a + 2 < t) ∧ (t + 9 < w ∨ w + 1 < t) ∧ j_rowOK V w ∧ 8 ≤ V t 2 ∧ V t 2 ≤ 12) (fun a t w S V S' V' => S' = S ∧ j_taught V V' a t w) := by
  refine e5_2 ?_
  rintro C G h hrm hcs hl hn a t w S V ht ⟨L, htt, hw, ap1, ap2, ap3, hr, m0, m1⟩ R
  have hM := j_M_bd m0 m1
  have hd : ∀ p : Int, 0 ≤ p → p < 4 → S.1 (t + 2 + 2 * p) = 23 := fun p p0 p1 => by
    have := LDealAk L (i := p) (L8_0k L htt) p0 p1
    rw [show t + 2 + 2 * p = t + 1 + 1 + 2 * p by omega]
    exact this
  have hpp : 1 ≤ j_parts (V t 1) ∧ j_parts (V t 1) ≤ 4 := by unfold j_parts; split <;> omega
  refine t5_2_0 h ?_
  have loop : ∀ (i : Int) (V1 : jH), (0 ≤ i ∧ i ≤ j_parts (V t 1) ∧ (∀ p : Int, 0 ≤ p → p < i → ∃ sh, j_deal (j_count (V (w + 1)) (j_ofPart (V t 1) p) (V w 1)) (j_M (V t 2)) sh ∧ ∀ j : Int, 0 ≤ j → j ≤ 256 → V1 (t + 3 + 2 * p) j = j_pre sh j) ∧
      (∀ b : Int, b ≠ a → b ≠ a + 1 → b ≠ a + 2 → (∀ p : Int, 0 ≤ p → p < j_parts (V t 1) → b ≠ t + 3 + 2 * p) → V1 b = V b) ∧ ∀ j : Int, j ≠ 2 → V1 a j = V a j) →
      j_ok n_KT 4 C G 2 [(0, (2, a)), (1, (2, t)), (2, (2, w)), (3, (0, i))] [] S V1 0 0 := by
    refine j_loop (N := j_parts (V t 1)) (fun i V1 hi hI kk => ?_) (fun i V1 hi hI => ?_)
    · obtain ⟨g0, g1, g2, g3, g4⟩ := hI
      have et : V1 t = V t := g3 t (by omega) (by omega) (by omega) (fun p p0 p1 => by omega)
      have ew : V1 w = V w := g3 w (by omega) (by omega) (by omega) (fun p p0 p1 => by omega)
      have ew1 : V1 (w + 1) = V (w + 1) := g3 (w + 1) (by omega) (by omega) (by omega) (fun p p0 p1 => by omega)
      refine t5_2_2 h hrm htt (m10_5 C.2.1) trivial (Nat.zero_le _) (Nat.zero_le _) ?_
      rintro r S1 V2 ⟨rfl, rfl, rfl⟩
      refine t5_2_7 h (fun q => absurd q (by rw [et]; omega)) (fun q => ?_)
      have go : j_ok n_KT 4 C G 25 [(0, (2, a)), (1, (2, t)), (2, (2, w)), (3, (0, i))] [(0, j_ofPart (V t 1) i), (2, w), (2, a)] S1 V2 0 0 := by
        refine t5_2_25 h hrm ht (m5_3 C.2.1) ⟨L, hw, ap1, by rw [j_rowOK, ew, ew1]; exact hr⟩ (Nat.zero_le _) (Nat.zero_le _) ?_
        rintro S2 V3 ⟨rfl, c1, c2, c3, c4⟩
        rw [ew, ew1] at c1
        have et3 : V3 t = V t := (c3 t (by omega) (by omega) (by omega)).trans et
        refine t5_2_28 h L hrm htt g0 (by omega) (m10_4 C.2.1) ⟨by rw [et3]; exact m0, by rw [et3]; exact m1⟩ (Nat.zero_le _) (Nat.zero_le _) ?_
        rintro r S3 V4 ⟨rfl, rfl, er⟩
        rw [et3] at er
        refine t5_2_39 h hrm ht (m5_5 C.2.1) ⟨L, hd i g0 (by omega), by omega, c2, fun s s0 s1 => ?_, by rw [er]; omega, by rw [er]; omega⟩ (Nat.zero_le _) (Nat.zero_le _) ?_
        · rw [c1 s s0 s1]
          have := j_count_bd (V (w + 1)) (j_ofPart (V t 1) i) s hr.1
          have := hr.2.1
          omega
        · rintro S4 V5 ⟨rfl, sh, hsh, rfl⟩
          rw [er] at hsh
          refine t5_2_42 h (by omega) (kk _ ⟨by omega, by omega, fun p p0 p1 => ?_, fun b b0 b1 b2 b3 => ?_, fun j hj => ?_⟩)
          · by_cases e : p = i
            · subst e
              refine ⟨sh, j_deal_congr (fun s s0 s1 => (c1 s s0 s1).symm) hsh, fun j j0 j1 => ?_⟩
              unfold j_begins
              rw [show t + 3 + 2 * p = t + 2 + 2 * p + 1 by omega, j_row_at, if_pos ⟨j0, j1⟩]
            · obtain ⟨sh', q1, q2⟩ := g2 p p0 (by omega)
              refine ⟨sh', q1, fun j j0 j1 => ?_⟩
              unfold j_begins
              rw [j_row_ne (by omega), c3 _ (by omega) (by omega) (by omega)]
              exact q2 j j0 j1
          · unfold j_begins
            rw [j_row_ne (by have := b3 i g0 hi; omega), c3 b b0 b1 b2]
            exact g3 b b0 b1 b2 b3
          · unfold j_begins
            rw [j_row_ne (by omega), c4 j hj]
            exact g4 j hj
      refine t5_2_10 h htt (fun q2 => ?_) (fun q2 => ?_)
      · rw [et] at q2
        refine t5_2_24 h ?_
        have : j_ofPart (V t 1) i = -1 := by unfold j_ofPart; rw [if_neg q2]
        rw [this] at go
        exact go
      · rw [et] at q2
        refine t5_2_20 h ?_
        have : j_ofPart (V t 1) i = i := by unfold j_ofPart; rw [if_pos q2]
        rw [this] at go
        exact go
    · obtain ⟨g0, g1, g2, g3, g4⟩ := hI
      have et : V1 t = V t := g3 t (by omega) (by omega) (by omega) (fun p p0 p1 => by omega)
      refine t5_2_2 h hrm htt (m10_5 C.2.1) trivial (Nat.zero_le _) (Nat.zero_le _) ?_
      rintro r S1 V2 ⟨rfl, rfl, rfl⟩
      refine t5_2_7 h (fun q => ?_) (fun q => absurd q (by rw [et]; omega))
      have ei : i = j_parts (V t 1) := by omega
      subst ei
      exact t5_2_48 h R ⟨rfl, g2, g3, g4⟩ (Nat.le_refl _) (Nat.le_refl _)
  exact loop 0 V ⟨by omega, by omega, fun p p0 p1 => absurd p1 (by omega), fun b _ _ _ _ => rfl, fun j _ => rfl⟩
