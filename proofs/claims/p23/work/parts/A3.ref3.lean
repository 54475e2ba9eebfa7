/-! THE REFERENCE: cost, the block from outside, numbers that wait, keeping -/
def j_r10 (a tb pt p : Int) (V : jH) (r : Int) (V' : jH) : Prop :=
  (¬ (0 ≤ tb ∧ tb < V (a + 1) 2 ∧ (0 ≤ pt ∧ pt < j_parts (V (a + 4) tb)) ∧ 0 ≤ p ∧ p < 6) ∧ V' = j_md V a ∧ r = -1) ∨
  (0 ≤ tb ∧ tb < V (a + 1) 2 ∧ (0 ≤ pt ∧ pt < j_parts (V (a + 4) tb)) ∧ 0 ≤ p ∧ p < 6 ∧ ((j_ropen V a tb ∧ V' = j_md V a ∧ r = -4) ∨
    (¬ j_ropen V a tb ∧ (
      (∃ i : Int, 0 ≤ i ∧ i < V (a + 2) p ∧ V (a + 7) (1024 * tb + 256 * pt + V (a + 3) (400 * p + i)) = 0 ∧ (∀ x : Int, 0 ≤ x → x < i → V (a + 7) (1024 * tb + 256 * pt + V (a + 3) (400 * p + x)) ≠ 0) ∧ V' = j_md (j_up V (a + 1) 12 i) a ∧ r = -5) ∨
      ((∀ x : Int, 0 ≤ x → x < V (a + 2) p → V (a + 7) (1024 * tb + 256 * pt + V (a + 3) (400 * p + x)) ≠ 0) ∧ V' = V ∧ r = j_pre (fun i => j_csum (j_M (V (a + 5) tb)) - j_csum (V (a + 7) (1024 * tb + 256 * pt + V (a + 3) (400 * p + i)))) (V (a + 2) p))))))
theorem m13_21 (l : Launch) : M13_21 l 0 0 (fun a tb pt p S V => j_mI S V a) (fun a tb pt p S V r S' V' => S' = S ∧ j_r10 a tb pt p V r V') := by
  refine e13_21 ?_
  rintro C G h hrm hcs hl hn a tb pt p S V ht hI R
  obtain ⟨L, -, a0, ⟨hR, hS, hB⟩, hk, h2, h4, h3⟩ := id hI
  have F7 : ∀ {f : Int}, f < 0 → f < 0 ∧ -2147483648 ≤ V a 3 ∧ V a 3 < 2147483647 := fun hf => ⟨hf, j_mI_F hI⟩
  have k7 := j_mk7 L ht
  have no : ¬ (0 ≤ tb ∧ tb < V (a + 1) 2 ∧ (0 ≤ pt ∧ pt < j_parts (V (a + 4) tb)) ∧ 0 ≤ p ∧ p < 6) → j_ok n_KT 9 C G 24 [(0, (2, a))] [] S V 0 0 := fun z => (t13_21_24 h hrm ht (m13_2 C.2.1) (F7 (by decide)) (Nat.zero_le _) (Nat.zero_le _) (by rintro r9 S9 V9 ⟨e0, e9, er⟩; subst e0; subst e9; subst er; exact t13_21_29 h R (⟨rfl, Or.inl ⟨z, rfl, rfl⟩⟩) (Nat.zero_le _) (Nat.zero_le _)))
  refine t13_21_0 h hrm ht (m13_5 C.2.1) ⟨L, hS.1, hS.2.1⟩ (Nat.zero_le _) (Nat.zero_le _) ?_
  rintro y S1 V1 ⟨e0, e1, hy⟩
  subst e0; subst e1
  refine t13_21_5 h (fun q => no (fun z => hy.n q ⟨z.1, z.2.1⟩)) (fun q => ?_)
  obtain ⟨t0, t1⟩ := hy.y q
  obtain ⟨t2, hT⟩ := j_mI_T hI t0 t1
  refine t13_21_8 h hrm ht (m13_19 C.2.1) ⟨L, t0, t2⟩ (Nat.zero_le _) (Nat.zero_le _) ?_
  rintro y2 S2 V2 ⟨e0, e1, hy2⟩
  subst e0; subst e1
  refine t13_21_14 h (fun q => no (fun z => hy2.n q z.2.2.1)) (fun q => ?_)
  have hpt := hy2.y q
  have pp := (j_parts_bd (V2 (a + 4) tb)).2
  refine t13_21_17 h hrm (m13_4 C.2.1) trivial (Nat.zero_le _) (Nat.zero_le _) ?_
  rintro y3 S3 V3 ⟨e0, e1, hy3⟩
  subst e0; subst e1
  refine t13_21_21 h (fun q => ?_) (fun q => no (fun z => hy3.n q z.2.2.2))
  obtain ⟨p0, p1⟩ := hy3.y q
  refine t13_21_31 h hrm ht (m13_14 C.2.1) ⟨hI, t0, t1⟩ (Nat.zero_le _) (Nat.zero_le _) ?_
  rintro y4 S4 V4 ⟨e0, e1, hy4⟩
  subst e0; subst e1
  refine t13_21_36 h (fun q => ?_) (fun q => (t13_21_39 h hrm ht (m13_2 C.2.1) (F7 (by decide)) (Nat.zero_le _) (Nat.zero_le _) (by rintro r9 S9 V9 ⟨e0, e9, er⟩; subst e0; subst e9; subst er; exact t13_21_45 h R (⟨rfl, Or.inr ⟨t0, t1, hpt, p0, p1, Or.inl ⟨hy4.y q, rfl, rfl⟩⟩⟩) (Nat.zero_le _) (Nat.zero_le _))))
  have hop := hy4.n q
  obtain ⟨s0, s1, s2⟩ := hR p p0 p1
  rw [show a + 1 + 1 = a + 2 by omega, show a + 1 + 2 = a + 3 by omega] at *
  have r8 := hT.2.2.1
  have r12 := hT.2.2.2.1
  rw [show a + 1 + 4 = a + 5 by omega] at r8 r12
  have hm := j_M_bd r8 r12
  have eM : (2 : Int) ^ (V4 (a + 5) tb).toNat = j_M (V4 (a + 5) tb) := rfl
  have bM := j_csum_bd (show 0 ≤ j_M (V4 (a + 5) tb) by omega) hm.2
  refine t13_21_47 h ?_
  have loop : ∀ (i : Int) (z : Int), (0 ≤ i ∧ i ≤ V4 (a + 2) p ∧ (∀ x : Int, 0 ≤ x → x < i → V4 (a + 7) (1024 * tb + 256 * pt + V4 (a + 3) (400 * p + x)) ≠ 0) ∧ z = j_pre (fun i => j_csum (j_M (V4 (a + 5) tb)) - j_csum (V4 (a + 7) (1024 * tb + 256 * pt + V4 (a + 3) (400 * p + i)))) i ∧ 0 ≤ z ∧ z ≤ 140000000 * i) → j_ok n_KT 9 C G 53 [(0, (2, a)), (1, (0, tb)), (2, (0, pt)), (3, (0, p)), (4, (1, z)), (6, (0, i))] [] S4 V4 0 0 := by
    refine j_loop (N := V4 (a + 2) p) (fun i z hi hI2 kk => ?_) (fun i z hi hI2 => ?_)
    · obtain ⟨g0, g1, g2, g3, g4, g5⟩ := hI2
      have hs := s2 i g0 hi
      refine t13_21_53 h L ht p0 p1 (fun z => absurd z (by omega)) (fun _ => ?_)
      refine t13_21_67 h L hrm ht (by omega) (by omega) (by omega) (by omega) (m13_11 C.2.1) ⟨t0, t2, hpt.1, (by omega), hs.1, hs.2⟩ (Nat.zero_le _) (Nat.zero_le _) ?_
      rintro y5 S5 V5 ⟨e0, e1, er⟩
      subst e0; subst e1
      rw [er]
      have b1 := j_mT_sh hT hpt.1 (show pt < 4 by omega) (s := V5 (a + 3) (400 * p + i) + 1) (by omega) (by omega)
      have b0 := j_mT_sh hT hpt.1 (show pt < 4 by omega) (s := V5 (a + 3) (400 * p + i)) (by omega) (by omega)
      rw [show a + 1 + 6 = a + 7 by omega, show a + 1 + 4 = a + 5 by omega] at b0 b1
      rw [j_pre_s _ hs.1] at b1
      have nn := hT.2.2.2.2.1 (256 * pt + V5 (a + 3) (400 * p + i)) (by omega) (by omega)
      rw [show a + 1 + 6 = a + 7 by omega, show 1024 * tb + (256 * pt + V5 (a + 3) (400 * p + i)) = 1024 * tb + 256 * pt + V5 (a + 3) (400 * p + i) by omega] at nn
      have ev : j_rs (V5 (a + 7)) (1024 * tb + 256 * pt) (V5 (a + 3) (400 * p + i)) = V5 (a + 7) (1024 * tb + 256 * pt + V5 (a + 3) (400 * p + i)) := rfl
      rw [ev] at b1
      refine t13_21_96 (n_s1 := 10240) h (j_arr_of k7 (by decide) rfl) (by omega) (by omega) (fun z0 => ?_) (fun z0 => ?_)
      · generalize ef : V5 (a + 7) (1024 * tb + 256 * pt + V5 (a + 3) (400 * p + i)) = f at *
        refine t13_21_121 h ?_
        have bf := j_csum_bd (show 0 ≤ f by omega) (show f ≤ 4096 by omega)
        have inner : ∀ (k : Int) (z2 : Int), (f ≤ k ∧ k ≤ j_M (V5 (a + 5) tb) ∧ z2 = z + (j_csum k - j_csum f) ∧ 0 ≤ z2) → j_ok n_KT 9 C G 125 [(0, (2, a)), (1, (0, tb)), (2, (0, pt)), (3, (0, p)), (4, (1, z2)), (6, (0, i)), (8, (0, k))] [] S5 V5 0 0 := by
          refine j_loop (N := j_M (V5 (a + 5) tb)) (fun k z2 hk9 hI3 ll => ?_) (fun k z2 hk9 hI3 => ?_)
          · obtain ⟨x0, x1, x2, x3⟩ := hI3
            have bk := j_csum_bd (show 0 ≤ k by omega) (show k ≤ 4096 by omega)
            have d0 : 0 ≤ 1000000 / k := Int.ediv_nonneg (by omega) (by omega)
            have d1 := j_div_anti (a := 1) (b := k) (by omega) (by omega)
            have ec : j_csum (k + 1) = j_csum k + 1000000 / k := by
              unfold j_csum
              rw [j_pre_s _ (by omega), if_neg (by omega)]
            refine t13_21_125 h L ht t0 t2 (by omega) (by omega) (fun q9 => absurd q9 (by rw [eM]; omega)) (fun _ => ?_)
            exact t13_21_141 h (by omega) (by omega) (by omega) (ll _ ⟨(by omega), (by omega), by rw [ec]; omega, (by omega)⟩)
          · obtain ⟨x0, x1, x2, x3⟩ := hI3
            have ek : k = j_M (V5 (a + 5) tb) := by omega
            rw [ek] at x2
            refine t13_21_125 h L ht t0 t2 (by omega) (by omega) (fun _ => ?_) (fun q9 => absurd q9 (by rw [eM]; omega))
            refine t13_21_158 h (by omega) (kk _ ⟨(by omega), (by omega), fun x x0 x1 => ?_, ?_, x3, (by omega)⟩)
            · by_cases e : x = i
              · rw [e, ef]; exact z0
              · exact g2 x x0 (by omega)
            · rw [j_pre_s _ g0, ← g3, ef]; exact x2
        exact inner f z ⟨Int.le_refl _, (by omega), (by omega), g4⟩
      · have F8 : (-5 : Int) < 0 ∧ -2147483648 ≤ j_up V5 (a + 1) 12 i a 3 ∧ j_up V5 (a + 1) 12 i a 3 < 2147483647 := by
          rw [j_up_ne (show a ≠ a + 1 by omega)]; exact ⟨by decide, j_mI_F hI⟩
        refine t13_21_104 h L hrm ht (m13_2 C.2.1) F8 (Nat.zero_le _) (Nat.zero_le _) ?_
        rintro y6 S6 V6 ⟨e0, e1, er6⟩
        subst e0
        exact t13_21_119 h R ⟨rfl, Or.inr ⟨t0, t1, hpt, p0, p1, Or.inr ⟨hop, Or.inl ⟨i, g0, hi, z0, g2, e1, er6⟩⟩⟩⟩ (Nat.le_refl _) (Nat.le_refl _)
    · obtain ⟨g0, g1, g2, g3, g4, g5⟩ := hI2
      have ei : i = V4 (a + 2) p := by omega
      rw [ei] at g2 g3
      exact t13_21_53 h L ht p0 p1 (fun _ => t13_21_164 h R ⟨rfl, Or.inr ⟨t0, t1, hpt, p0, p1, Or.inr ⟨hop, Or.inr ⟨g2, rfl, g3⟩⟩⟩⟩ (Nat.le_refl _) (Nat.le_refl _)) (fun z => absurd z (by omega))
  exact loop 0 0 ⟨(by omega), s0, fun x x0 x1 => absurd x1 (by omega), rfl, (by omega), (by omega)⟩
def j_r15 (a i : Int) (V : jH) (r : Int) (V' : jH) : Prop := (¬ (-1 ≤ i ∧ i < V (a + 1) 7) ∧ V' = j_md V a ∧ r = -1) ∨ (-1 ≤ i ∧ i < V (a + 1) 7 ∧ V' = V ∧ r = if i = -1 then V (a + 1) 7 else V (a + 8) i)
theorem m13_42 (l : Launch) : M13_42 l 0 0 (fun a i S V => j_mI S V a) (fun a i S V r S' V' => S' = S ∧ j_r15 a i V r V') := by
  refine e13_42 ?_
  rintro C G h hrm hcs hl hn a i S V ht hI R
  obtain ⟨L, -, a0, ⟨hR, hS, hB⟩, hk, h2, h4, h3⟩ := id hI
  have F7 : ∀ {f : Int}, f < 0 → f < 0 ∧ -2147483648 ≤ V a 3 ∧ V a 3 < 2147483647 := fun hf => ⟨hf, j_mI_F hI⟩
  have b0 := hB.1.1
  have b1 := hB.1.2.1
  refine t13_42_0 h L hrm ht (by omega) (m13_3 C.2.1) trivial (Nat.zero_le _) (Nat.zero_le _) ?_
  rintro y S1 V1 ⟨e0, e1, hy⟩
  subst e0; subst e1
  refine t13_42_18 h (fun q => ?_) (fun q => (t13_42_21 h hrm ht (m13_2 C.2.1) (F7 (by decide)) (Nat.zero_le _) (Nat.zero_le _) (by rintro r9 S9 V9 ⟨e0, e9, er⟩; subst e0; subst e9; subst er; exact t13_42_26 h R (⟨rfl, Or.inl ⟨fun z => hy.n q (by omega), rfl, rfl⟩⟩) (Nat.zero_le _) (Nat.zero_le _))))
  obtain ⟨i0, i1⟩ := hy.y q
  refine t13_42_27 h (fun q => ?_) (fun q => ?_)
  · exact t13_42_41 h L ht q (by omega) (t13_42_50 h R ⟨rfl, Or.inr ⟨i0, (by omega), rfl, by rw [if_neg (by omega)]⟩⟩ (Nat.le_refl _) (Nat.le_refl _))
  · exact t13_42_31 h L ht (t13_42_50 h R ⟨rfl, Or.inr ⟨i0, (by omega), rfl, by rw [if_pos (by omega)]⟩⟩ (Nat.le_refl _) (Nat.le_refl _))
theorem m13_43 (l : Launch) : M13_43 l 0 0 (fun a S V => j_L S) (fun a S V S' V' => S' = S ∧ V' = j_up (j_up V (a + 1) 9 0) (a + 1) 10 0) := by
  refine e13_43 ?_
  rintro C G h hrm hcs hl hn a S V ht L R
  exact t13_43_0 h L ht R ⟨rfl, rfl⟩ (Nat.le_refl _) (Nat.le_refl _)
def j_r16 (a i m : Int) (V : jH) (r : Int) (V' : jH) : Prop := (¬ (0 ≤ i ∧ i < V (a + 1) 7 ∧ 0 ≤ m ∧ m ≤ 255) ∧ V' = j_md V a ∧ r = -1) ∨ (0 ≤ i ∧ i < V (a + 1) 7 ∧ 0 ≤ m ∧ m ≤ 255 ∧ r = j_xor (V (a + 8) i) m ∧ V' = j_up (j_up (j_up V (a + 8) i (j_xor (V (a + 8) i) m)) (a + 1) 9 0) (a + 1) 10 0)
theorem m13_44 (l : Launch) : M13_44 l 0 0 (fun a i m S V => j_mI S V a) (fun a i m S V r S' V' => S' = S ∧ j_r16 a i m V r V') := by
  refine e13_44 ?_
  rintro C G h hrm hcs hl hn a i m S V ht hI R
  obtain ⟨L, -, a0, ⟨hR, hS, hB⟩, hk, h2, h4, h3⟩ := id hI
  have F7 : ∀ {f : Int}, f < 0 → f < 0 ∧ -2147483648 ≤ V a 3 ∧ V a 3 < 2147483647 := fun hf => ⟨hf, j_mI_F hI⟩
  have b0 := hB.1.1
  have b1 := hB.1.2.1
  have no : ¬ (0 ≤ i ∧ i < V (a + 1) 7 ∧ 0 ≤ m ∧ m ≤ 255) → j_ok n_KT 3 C G 31 [(0, (2, a))] [] S V 0 0 := fun z => (t13_44_31 h hrm ht (m13_2 C.2.1) (F7 (by decide)) (Nat.zero_le _) (Nat.zero_le _) (by rintro r9 S9 V9 ⟨e0, e9, er⟩; subst e0; subst e9; subst er; exact t13_44_36 h R (⟨rfl, Or.inl ⟨z, rfl, rfl⟩⟩) (Nat.zero_le _) (Nat.zero_le _)))
  refine t13_44_0 h L hrm ht (by omega) (m13_3 C.2.1) trivial (Nat.zero_le _) (Nat.zero_le _) ?_
  rintro y S1 V1 ⟨e0, e1, hy⟩
  subst e0; subst e1
  refine t13_44_16 h (fun q => no (fun z => hy.n q (by omega))) (fun q => ?_)
  obtain ⟨i0, i1⟩ := hy.y q
  refine t13_44_19 h hrm (m13_3 C.2.1) trivial (Nat.zero_le _) (Nat.zero_le _) ?_
  rintro y2 S2 V2 ⟨e0, e1, hy2⟩
  subst e0; subst e1
  refine t13_44_28 h (fun q => ?_) (fun q => no (fun z => hy2.n q z.2.2))
  obtain ⟨m0, m1⟩ := hy2.y q
  have by0 := hB.1.2.2 i i0 (by omega)
  rw [show a + 1 + 7 = a + 8 by omega] at by0
  refine t13_44_37 h L hrm ht i0 (by omega) by0.1 m0 (m13_43 C.2.1) L (Nat.zero_le _) (Nat.zero_le _) ?_
  rintro S3 V3 ⟨e0, e3⟩
  subst e0
  refine t13_44_54 h L ht i0 (by omega) R ⟨rfl, Or.inr ⟨i0, (by omega), m0, m1, ?_, e3⟩⟩ (Nat.le_refl _) (Nat.le_refl _)
  rw [e3, j_up_ne (by omega), j_up_ne (by omega), j_up_at]
def j_r17 (a w n : Int) (V : jH) (r : Int) (V' : jH) : Prop := (¬ (-400 ≤ n ∧ n ≤ 8 ∧ n ≠ 0 ∧ -(V (a + 1) 7) ≤ n) ∧ V' = j_md V a ∧ r = -1) ∨ (-400 ≤ n ∧ n ≤ 8 ∧ n ≠ 0 ∧ -(V (a + 1) 7) ≤ n ∧ 4400 < V (a + 1) 7 + n ∧ V' = j_md V a ∧ r = -2) ∨
  (-400 ≤ n ∧ n ≤ 8 ∧ n ≠ 0 ∧ -(V (a + 1) 7) ≤ n ∧ V (a + 1) 7 + n ≤ 4400 ∧ r = V (a + 1) 7 + n ∧ V' (a + 1) = j_u (j_u (j_u (V (a + 1)) 7 (V (a + 1) 7 + n)) 9 0) 10 0 ∧ (∀ i : Int, (i < V (a + 1) 7 ∨ V (a + 1) 7 + n ≤ i) → V' (a + 8) i = V (a + 8) i) ∧ (∀ i : Int, 0 ≤ i → i < n → V' (a + 8) (V (a + 1) 7 + i) = j_rby w (n - 1 - i)) ∧ ∀ c : Int, c ≠ a + 1 → c ≠ a + 8 → V' c = V c)
theorem m13_45 (l : Launch) : M13_45 l 0 0 (fun a w n S V => j_mI S V a) (fun a w n S V r S' V' => S' = S ∧ j_r17 a w n V r V') := by
  refine e13_45 ?_
  rintro C G h hrm hcs hl hn a w n S V ht hI R
  obtain ⟨L, -, a0, ⟨hR, hS, hB⟩, hk, h2, h4, h3⟩ := id hI
  have F7 : ∀ {f : Int}, f < 0 → f < 0 ∧ -2147483648 ≤ V a 3 ∧ V a 3 < 2147483647 := fun hf => ⟨hf, j_mI_F hI⟩
  have b0 := hB.1.1
  have b1 := hB.1.2.1
  have no : ¬ (-400 ≤ n ∧ n ≤ 8 ∧ n ≠ 0 ∧ -(V (a + 1) 7) ≤ n) → j_ok n_KT 5 C G 34 [(0, (2, a))] [] S V 0 0 := fun z => (t13_45_34 h hrm ht (m13_2 C.2.1) (F7 (by decide)) (Nat.zero_le _) (Nat.zero_le _) (by rintro r9 S9 V9 ⟨e0, e9, er⟩; subst e0; subst e9; subst er; exact t13_45_39 h R (⟨rfl, Or.inl ⟨z, rfl, rfl⟩⟩) (Nat.zero_le _) (Nat.zero_le _)))
  refine t13_45_0 h hrm (m13_3 C.2.1) trivial (Nat.zero_le _) (Nat.zero_le _) ?_
  rintro y S1 V1 ⟨e0, e1, hy⟩
  subst e0; subst e1
  refine t13_45_11 h (fun q => no (fun z => hy.n q ⟨z.1, z.2.1⟩)) (fun q => ?_)
  obtain ⟨n0, n1⟩ := hy.y q
  have go : n ≠ 0 → -(V1 (a + 1) 7) ≤ n → j_ok n_KT 5 C G 40 [(0, (2, a)), (1, (1, w)), (3, (0, n))] [] S1 V1 0 0 := by
    intro n2 n3
    refine t13_45_40 h L ht (by omega) (fun n4 => ?_) (fun q => (t13_45_55 h hrm ht (m13_2 C.2.1) (F7 (by decide)) (Nat.zero_le _) (Nat.zero_le _) (by rintro r9 S9 V9 ⟨e0, e9, er⟩; subst e0; subst e9; subst er; exact t13_45_61 h R (⟨rfl, Or.inr (Or.inl ⟨n0, n1, n2, n3, q, rfl, rfl⟩)⟩) (Nat.zero_le _) (Nat.zero_le _))))
    refine t13_45_62 h (by omega) ?_
    have fin : ∀ V2 : jH, (∀ k : Int, (k < V1 (a + 1) 7 ∨ V1 (a + 1) 7 + n ≤ k) → V2 (a + 8) k = V1 (a + 8) k) → (∀ k : Int, 0 ≤ k → k < n → V2 (a + 8) (V1 (a + 1) 7 + k) = j_rby w (n - 1 - k)) → (∀ c : Int, c ≠ a + 8 → V2 c = V1 c) → j_ok n_KT 5 C G 112 [(0, (2, a)), (3, (0, n))] [] S1 V2 0 0 := by
      intro V2 g1 g2 g3
      have v1 : V2 (a + 1) = V1 (a + 1) := g3 _ (by omega)
      refine t13_45_112 h L hrm ht (by rw [v1]; omega) (m13_43 C.2.1) L (Nat.zero_le _) (Nat.zero_le _) ?_
      rintro S3 V3 ⟨e0, e3⟩
      subst e0
      rw [v1] at e3
      have w1 : V3 (a + 1) = j_u (j_u (j_u (V1 (a + 1)) 7 (V1 (a + 1) 7 + n)) 9 0) 10 0 := by rw [e3, j_up_u, j_up_u, j_up_u, v1]
      refine t13_45_129 h L ht R ⟨rfl, Or.inr (Or.inr ⟨n0, n1, n2, n3, n4, ?_, w1, fun k hk => ?_, fun k k0 k1 => ?_, fun c c0 c1 => ?_⟩)⟩ (Nat.le_refl _) (Nat.le_refl _)
      · rw [w1, j_u_ne (by decide), j_u_ne (by decide), j_u_at]
      · rw [e3, j_up_ne (by omega), j_up_ne (by omega), j_up_ne (by omega)]; exact g1 k hk
      · rw [e3, j_up_ne (by omega), j_up_ne (by omega), j_up_ne (by omega)]; exact g2 k k0 k1
      · rw [e3, j_up_ne c0, j_up_ne c0, j_up_ne c0]; exact g3 c c1
    have loop : ∀ (i : Int) (V2 : jH), (i < n ∧ (0 ≤ n → -1 ≤ i) ∧ (∀ k : Int, (k < V1 (a + 1) 7 ∨ V1 (a + 1) 7 + n ≤ k) → V2 (a + 8) k = V1 (a + 8) k) ∧ (∀ k : Int, 0 ≤ k → k < n - 1 - i → k < n → V2 (a + 8) (V1 (a + 1) 7 + k) = j_rby w (n - 1 - k)) ∧ ∀ c : Int, c ≠ a + 8 → V2 c = V1 c) → j_ok n_KT 5 C G 67 [(0, (2, a)), (1, (1, w)), (3, (0, n)), (4, (0, i))] [] S1 V2 0 0 := by
      refine j_loopD (N := 0) (fun i V2 hi hI2 kk => ?_) (fun i V2 hi hI2 => ?_)
      · obtain ⟨g0, g1, g2, g3, g4⟩ := hI2
        have v1 : V2 (a + 1) = V1 (a + 1) := g4 _ (by omega)
        refine t13_45_67 h (fun q => absurd q (by omega)) (fun _ => ?_)
        refine t13_45_72 h L ht (by rw [v1]; omega) (by rw [v1]; omega) (by rw [v1]; omega) (by omega) (by omega) (by omega) (by rw [v1]; omega) (by rw [v1]; omega) (by omega) ?_
        rw [show i + (-1) = i - 1 by omega, v1]
        refine kk _ ⟨(by omega), (by omega), fun k hk => ?_, fun k k0 k1 k2 => ?_, fun c hc => ?_⟩
        · rw [j_up_off (by omega)]; exact g2 k hk
        · by_cases ek : k = n - 1 - i
          · rw [show V1 (a + 1) 7 + k = V1 (a + 1) 7 + n - 1 - i by omega, j_up_at, ek, show n - 1 - (n - 1 - i) = i by omega]
            rfl
          · rw [j_up_off (by omega)]; exact g3 k k0 (by omega) (by omega)
        · rw [j_up_ne hc]; exact g4 c hc
      · obtain ⟨g0, g1, g2, g3, g4⟩ := hI2
        exact t13_45_67 h (fun _ => fin V2 g2 (fun k k0 k1 => g3 k k0 (by omega) k1) g4) (fun q => absurd q (by omega))
    exact loop (n - 1) V1 ⟨(by omega), (by omega), fun _ _ => rfl, fun k k0 k1 => absurd k1 (by omega), fun _ _ => rfl⟩
  refine t13_45_14 h (fun q => no (by omega)) (fun q => t13_45_18 h (fun q2 => go q (by omega)) (fun q2 => t13_45_22 h L (by omega) ht (fun q3 => go q (by omega)) (fun q3 => no (by omega))))
def j_r22 (a v : Int) (V : jH) (r : Int) (V' : jH) : Prop := (V a 4 = 400 ∧ V' = j_md V a ∧ r = -2) ∨ (V a 4 < 400 ∧ r = V a 4 + 1 ∧ V' = j_up (j_up V (a + 17) (V a 4) v) a 4 (V a 4 + 1))
theorem m13_50 (l : Launch) : M13_50 l 0 0 (fun a v S V => j_mI S V a) (fun a v S V r S' V' => S' = S ∧ j_r22 a v V r V') := by
  refine e13_50 ?_
  rintro C G h hrm hcs hl hn a v S V ht hI R
  obtain ⟨L, -, a0, ⟨hR, hS, hB⟩, hk, h2, h4, h3⟩ := id hI
  have F7 : ∀ {f : Int}, f < 0 → f < 0 ∧ -2147483648 ≤ V a 3 ∧ V a 3 < 2147483647 := fun hf => ⟨hf, j_mI_F hI⟩
  exact t13_50_0 h ht (fun q => t13_50_17 h L ht h4.1 (by omega) (by omega) R ⟨rfl, Or.inr ⟨(by omega), rfl, rfl⟩⟩ (Nat.le_refl _) (Nat.le_refl _)) (fun q => (t13_50_10 h hrm ht (m13_2 C.2.1) (F7 (by decide)) (Nat.zero_le _) (Nat.zero_le _) (by rintro r9 S9 V9 ⟨e0, e9, er⟩; subst e0; subst e9; subst er; exact t13_50_16 h R (⟨rfl, Or.inl ⟨q, rfl, rfl⟩⟩) (Nat.zero_le _) (Nat.zero_le _))))
theorem m13_54 (l : Launch) : M13_54 l 0 0 (fun a k S V => j_mI S V a) (fun a k S V r S' V' => S' = S ∧ (V' = V ∨ V' = j_md V a)) := by
  refine e13_54 ?_
  rintro C G h hrm hcs hl hn a k S V ht hI R
  obtain ⟨L, -, a0, ⟨hR, hS, hB⟩, hk, h2, h4, h3⟩ := id hI
  have F7 : ∀ {f : Int}, f < 0 → f < 0 ∧ -2147483648 ≤ V a 3 ∧ V a 3 < 2147483647 := fun hf => ⟨hf, j_mI_F hI⟩
  refine t13_54_0 h (fun q => (t13_54_102 h hrm ht (m13_2 C.2.1) (F7 (by decide)) (Nat.zero_le _) (Nat.zero_le _) (by rintro r9 S9 V9 ⟨e0, e9, er⟩; subst e0; subst e9; subst er; exact t13_54_107 h R (⟨rfl, Or.inr rfl⟩) (Nat.zero_le _) (Nat.zero_le _)))) (fun q => ?_) (fun q => ?_) (fun q => ?_) (fun q => ?_) (fun q => ?_) (fun q => ?_) (fun q => ?_)
  · exact t13_54_44 h L ht R ⟨rfl, Or.inl rfl⟩ (Nat.le_refl _) (Nat.le_refl _)
  · exact t13_54_52 h L ht R ⟨rfl, Or.inl rfl⟩ (Nat.le_refl _) (Nat.le_refl _)
  · exact t13_54_60 h L ht R ⟨rfl, Or.inl rfl⟩ (Nat.le_refl _) (Nat.le_refl _)
  · exact t13_54_68 h L ht (fun z => t13_54_82 h (t13_54_83 h R ⟨rfl, Or.inl rfl⟩ (Nat.le_refl _) (Nat.le_refl _))) (fun z => t13_54_78 h (t13_54_83 h R ⟨rfl, Or.inl rfl⟩ (Nat.le_refl _) (Nat.le_refl _)))
  · exact t13_54_84 h L ht R ⟨rfl, Or.inl rfl⟩ (Nat.le_refl _) (Nat.le_refl _)
  · exact t13_54_92 h ht R ⟨rfl, Or.inl rfl⟩ (Nat.le_refl _) (Nat.le_refl _)
  · exact t13_54_97 h ht R ⟨rfl, Or.inl rfl⟩ (Nat.le_refl _) (Nat.le_refl _)
theorem m14_3 (l : Launch) (n : Nat) : M14_3 l 0 0 (fun f t S V => j_arr S f n ∧ j_arr S t n ∧ n ≤ 100000 ∧ f ≠ t) (fun f t S V S' V' => S' = S ∧ (∀ i : Int, 0 ≤ i → i < n → V' t i = V f i) ∧ ∀ c : Int, c ≠ t → V' c = V c) := by
  refine e14_3 ?_
  rintro C G h hrm hcs hl hn f t S V ⟨hf, ht, hn9, hne⟩ R
  refine t14_3_0 h ?_
  have loop : ∀ (i : Int) (V1 : jH), (0 ≤ i ∧ i ≤ n ∧ (∀ k : Int, 0 ≤ k → k < i → V1 t k = V f k) ∧ ∀ c : Int, c ≠ t → V1 c = V c) → j_ok n_KT 3 C G 2 [(0, (2, f)), (1, (2, t)), (2, (0, i))] [] S V1 0 0 := by
    refine j_loop (N := n) (fun i V1 hi hI kk => ?_) (fun i V1 hi hI => ?_)
    · obtain ⟨g0, g1, g2, g3⟩ := hI
      refine t14_3_2 h hf (by omega) (fun q => absurd q (by omega)) (fun _ => ?_)
      refine t14_3_8 h hf g0 hi ht hi (by omega) (kk _ ⟨(by omega), (by omega), fun k k0 k1 => ?_, fun c hc => ?_⟩)
      · by_cases e : k = i
        · rw [e, j_up_at, g3 f hne]
        · rw [j_up_off e]; exact g2 k k0 (by omega)
      · rw [j_up_ne hc]; exact g3 c hc
    · obtain ⟨g0, g1, g2, g3⟩ := hI
      have ei : i = n := by omega
      subst ei
      exact t14_3_2 h hf (by omega) (fun _ => t14_3_20 h R ⟨rfl, g2, g3⟩ (Nat.le_refl _) (Nat.le_refl _)) (fun q => absurd q (by omega))
  exact loop 0 V ⟨(by omega), (by omega), fun k k0 k1 => absurd k1 (by omega), fun _ _ => rfl⟩
/-- a book is as another -/
def j_bookEq (V V' : jH) (b o : Int) : Prop := (∀ j : Int, (j = 2 ∨ j = 7 ∨ j = 9 ∨ j = 10 ∨ j = 11 ∨ j = 12 ∨ j = 13) → V' b j = V o j) ∧ (∀ p : Int, 0 ≤ p → p < 6 → V' (b + 1) p = V (o + 1) p) ∧ (∀ i : Int, 0 ≤ i → i < 2400 → V' (b + 2) i = V (o + 2) i) ∧ (∀ t : Int, 0 ≤ t → t < 10 → V' (b + 3) t = V (o + 3) t ∧ V' (b + 4) t = V (o + 4) t ∧ V' (b + 5) t = V (o + 5) t) ∧ (∀ i : Int, 0 ≤ i → i < 10240 → V' (b + 6) i = V (o + 6) i) ∧ ∀ i : Int, 0 ≤ i → i < 4400 → V' (b + 7) i = V (o + 7) i
theorem m14_2 (l : Launch) : M14_2 l 0 0 (fun b o S V => j_L S ∧ S.1 o = 32 ∧ (b + 7 < o ∨ o + 7 < b) ∧ (∀ t : Int, 0 ≤ t → t < 10 → 0 ≤ V (o + 5) t ∧ V (o + 5) t ≤ 1) ∧ 0 ≤ V o 9 ∧ V o 9 ≤ 1) (fun b o S V S' V' => S' = S ∧ j_bookEq V V' b o ∧ ∀ c : Int, (c < b ∨ b + 7 < c) → V' c = V c) := by
  refine e14_2 ?_
  rintro C G h hrm hcs hl hn b o S V hb ⟨L, ho, ap, hl5, m0, m1⟩ R
  have A : ∀ {x k n : Nat} {c : Int}, S.1 c = k → k ≠ 0 → n_KT[k]? = some (1, 0, n, [(0, 0, -2147483648, 2147483647)]) → j_arr S c n := fun h1 h2 h3 => j_arr_of h1 h2 h3
  refine t14_2_0 h L hrm ho hb (m14_3 C.2.1 6) ⟨j_arr_of (L11_0k L ho) (by decide) rfl, j_arr_of (L11_0k L hb) (by decide) rfl, (by omega), (by omega)⟩ (Nat.zero_le _) (Nat.zero_le _) ?_
  rintro S1 V1 ⟨e0, a1, a2⟩
  subst e0
  refine t14_2_11 h L hrm ho hb (m14_3 C.2.1 2400) ⟨j_arr_of (L11_1k L ho) (by decide) rfl, j_arr_of (L11_1k L hb) (by decide) rfl, (by omega), (by omega)⟩ (Nat.zero_le _) (Nat.zero_le _) ?_
  rintro S2 V2 ⟨e0, b1, b2⟩
  subst e0
  refine t14_2_22 h L hrm ho hb (m14_3 C.2.1 10) ⟨j_arr_of (L11_3k L ho) (by decide) rfl, j_arr_of (L11_3k L hb) (by decide) rfl, (by omega), (by omega)⟩ (Nat.zero_le _) (Nat.zero_le _) ?_
  rintro S3 V3 ⟨e0, c1, c2⟩
  subst e0
  refine t14_2_41 h L hrm ho hb (m14_3 C.2.1 10) ⟨j_arr_of (L11_4k L ho) (by decide) rfl, j_arr_of (L11_4k L hb) (by decide) rfl, (by omega), (by omega)⟩ (Nat.zero_le _) (Nat.zero_le _) ?_
  rintro S4 V4 ⟨e0, d1, d2⟩
  subst e0
  have o4 : ∀ c : Int, (c < b ∨ b + 7 < c) → V4 c = V c := fun c hc => by rw [d2 c (by omega), c2 c (by omega), j_up_ne (by omega), b2 c (by omega), a2 c (by omega)]
  refine t14_2_52 h ?_
  have loop : ∀ (i : Int) (V5 : jH), (0 ≤ i ∧ i ≤ 10 ∧ (∀ k : Int, 0 ≤ k → k < i → V5 (b + 5) k = V (o + 5) k) ∧ ∀ c : Int, c ≠ b + 5 → V5 c = V4 c) → j_ok n_KT 3 C G 54 [(0, (2, b)), (1, (2, o)), (2, (0, i))] [] S4 V5 0 0 := by
    refine j_loop (N := 10) (fun i V5 hi hI kk => ?_) (fun i V5 hi hI => ?_)
    · obtain ⟨g0, g1, g2, g3⟩ := hI
      have eo : V5 (o + 5) i = V (o + 5) i := by rw [g3 _ (by omega), o4 _ (by omega)]
      refine t14_2_54 h (fun q => absurd q (by omega)) (fun _ => ?_)
      refine t14_2_60 h L hb ho g0 hi (by rw [eo]; exact hl5 i g0 hi) (by omega) (kk _ ⟨(by omega), (by omega), fun k k0 k1 => ?_, fun c hc => ?_⟩)
      · by_cases e : k = i
        · rw [e, j_up_at]; exact eo
        · rw [j_up_off e]; exact g2 k k0 (by omega)
      · rw [j_up_ne hc]; exact g3 c hc
    · obtain ⟨g0, g1, g2, g3⟩ := hI
      have ei : i = 10 := by omega
      subst ei
      refine t14_2_54 h (fun _ => ?_) (fun q => absurd q (by omega))
      refine t14_2_78 h L hrm ho hb (m14_3 C.2.1 10240) ⟨j_arr_of (L11_6k L ho) (by decide) rfl, j_arr_of (L11_6k L hb) (by decide) rfl, (by omega), (by omega)⟩ (Nat.zero_le _) (Nat.zero_le _) ?_
      rintro S6 V6 ⟨e0, x1, x2⟩
      subst e0
      refine t14_2_89 h L hrm ho hb (m14_3 C.2.1 4400) ⟨j_arr_of (L11_8k L ho) (by decide) rfl, j_arr_of (L11_8k L hb) (by decide) rfl, (by omega), (by omega)⟩ (Nat.zero_le _) (Nat.zero_le _) ?_
      rintro S7 V7 ⟨e0, y1, y2⟩
      subst e0
      have o7 : ∀ c : Int, (c < b ∨ b + 7 < c) → V7 c = V c := fun c hc => by rw [y2 c (by omega), j_up_ne (by omega), x2 c (by omega), g3 c (by omega)]; exact o4 c hc
      have vo : V7 o = V o := o7 o (by omega)
      have nb : ∀ {W : jH} {j x : Int}, j_up W b j x o = W o := fun {W j x} => j_up_ne (by omega)
      have vb : ∀ j : Int, j ≠ 2 → j ≠ 7 → V7 b j = V b j := fun j h1 h2 => by rw [y2 b (by omega), j_up_off h2, x2 b (by omega), g3 b (by omega), d2 b (by omega), c2 b (by omega), j_up_off h1, b2 b (by omega), a2 b (by omega)]
      have vb2 : V7 b 2 = V o 2 := by rw [y2 b (by omega), j_up_off (by decide), x2 b (by omega), g3 b (by omega), d2 b (by omega), c2 b (by omega), j_up_at, b2 o (by omega), a2 o (by omega)]
      have vb7 : V7 b 7 = V o 7 := by rw [y2 b (by omega), j_up_at, x2 o (by omega), g3 o (by omega), o4 o (by omega)]
      have fin : ∀ c : Int, c ≠ b → (j_up (j_up (j_up (j_up (j_up V7 b 9 (V7 o 9)) b 10 ((j_up V7 b 9 (V7 o 9)) o 10)) b 11 ((j_up (j_up V7 b 9 (V7 o 9)) b 10 ((j_up V7 b 9 (V7 o 9)) o 10)) o 11)) b 12 ((j_up (j_up (j_up V7 b 9 (V7 o 9)) b 10 ((j_up V7 b 9 (V7 o 9)) o 10)) b 11 ((j_up (j_up V7 b 9 (V7 o 9)) b 10 ((j_up V7 b 9 (V7 o 9)) o 10)) o 11)) o 12)) b 13 ((j_up (j_up (j_up (j_up V7 b 9 (V7 o 9)) b 10 ((j_up V7 b 9 (V7 o 9)) o 10)) b 11 ((j_up (j_up V7 b 9 (V7 o 9)) b 10 ((j_up V7 b 9 (V7 o 9)) o 10)) o 11)) b 12 ((j_up (j_up (j_up V7 b 9 (V7 o 9)) b 10 ((j_up V7 b 9 (V7 o 9)) o 10)) b 11 ((j_up (j_up V7 b 9 (V7 o 9)) b 10 ((j_up V7 b 9 (V7 o 9)) o 10)) o 11)) o 12)) o 13)) c = V7 c := fun c hc => by rw [j_up_ne hc, j_up_ne hc, j_up_ne hc, j_up_ne hc, j_up_ne hc]
      refine t14_2_108 h ho hb (by rw [vo]; exact ⟨m0, m1⟩) R ⟨rfl, ⟨fun j hj => ?_, fun p p0 p1 => ?_, fun i i0 i1 => ?_, fun t t0 t1 => ⟨?_, ?_, ?_⟩, fun i i0 i1 => ?_, fun i i0 i1 => ?_⟩, fun c hc => ?_⟩ (Nat.le_refl _) (Nat.le_refl _)
      · simp only [nb]
        rw [vo]
        rcases hj with e | e | e | e | e | e | e <;> subst e
        · rw [j_up_off (by decide), j_up_off (by decide), j_up_off (by decide), j_up_off (by decide), j_up_off (by decide)]; exact vb2
        · rw [j_up_off (by decide), j_up_off (by decide), j_up_off (by decide), j_up_off (by decide), j_up_off (by decide)]; exact vb7
        · rw [j_up_off (by decide), j_up_off (by decide), j_up_off (by decide), j_up_off (by decide), j_up_at]
        · rw [j_up_off (by decide), j_up_off (by decide), j_up_off (by decide), j_up_at]
        · rw [j_up_off (by decide), j_up_off (by decide), j_up_at]
        · rw [j_up_off (by decide), j_up_at]
        · rw [j_up_at]
      · rw [fin _ (by omega), y2 _ (by omega), j_up_ne (by omega), x2 _ (by omega), g3 _ (by omega), d2 _ (by omega), c2 _ (by omega), j_up_ne (by omega), b2 _ (by omega)]; exact a1 p p0 p1
      · rw [fin _ (by omega), y2 _ (by omega), j_up_ne (by omega), x2 _ (by omega), g3 _ (by omega), d2 _ (by omega), c2 _ (by omega), j_up_ne (by omega), b1 i i0 i1, a2 _ (by omega)]
      · rw [fin _ (by omega), y2 _ (by omega), j_up_ne (by omega), x2 _ (by omega), g3 _ (by omega), d2 _ (by omega), c1 t t0 t1, j_up_ne (by omega), b2 _ (by omega), a2 _ (by omega)]
      · rw [fin _ (by omega), y2 _ (by omega), j_up_ne (by omega), x2 _ (by omega), g3 _ (by omega), d1 t t0 t1, c2 _ (by omega), j_up_ne (by omega), b2 _ (by omega), a2 _ (by omega)]
      · rw [fin _ (by omega), y2 _ (by omega), j_up_ne (by omega), x2 _ (by omega)]; exact g2 t t0 t1
      · rw [fin _ (by omega), y2 _ (by omega), j_up_ne (by omega), x1 i i0 i1, g3 _ (by omega), o4 _ (by omega)]
      · rw [fin _ (by omega), y1 i i0 i1, j_up_ne (by omega), x2 _ (by omega), g3 _ (by omega), o4 _ (by omega)]
      · rw [fin c (by omega)]; exact o7 c hc
  exact loop 0 V4 ⟨(by omega), (by omega), fun k k0 k1 => absurd k1 (by omega), fun _ _ => rfl⟩
theorem m13_52 (l : Launch) : M13_52 l 0 0 (fun a S V => j_mI S V a) (fun a S V r S' V' => S' = S ∧ r = 1 ∧ V' a 2 = 1 ∧ (∀ j : Int, j ≠ 2 → V' a j = V a j) ∧ j_bookEq V V' (a + 9) (a + 1) ∧ ∀ c : Int, c ≠ a → (c < a + 9 ∨ a + 16 < c) → V' c = V c) := by
  refine e13_52 ?_
  rintro C G h hrm hcs hl hn a S V ht hI R
  obtain ⟨L, -, a0, ⟨hR, hS, hB⟩, hk, h2, h4, h3⟩ := id hI
  refine t13_52_0 h L hrm ht (m14_2 C.2.1) ⟨L, L12_0k L ht, (by omega), hS.2.2.1, hB.2.1.1, hB.2.1.2⟩ (Nat.zero_le _) (Nat.zero_le _) ?_
  rintro S1 V1 ⟨e0, ⟨b1, b2, b3, b4, b5, b6⟩, fr⟩
  subst e0
  refine t13_52_11 h ht R ⟨rfl, rfl, j_up_at _ _ _ _, fun j hj => by rw [j_up_off hj, fr a (by omega)], ⟨fun j hj => by rw [j_up_ne (by omega)]; exact b1 j hj, fun p p0 p1 => by rw [j_up_ne (by omega)]; exact b2 p p0 p1, fun i i0 i1 => by rw [j_up_ne (by omega)]; exact b3 i i0 i1, fun t t0 t1 => ?_, fun i i0 i1 => by rw [j_up_ne (by omega)]; exact b5 i i0 i1, fun i i0 i1 => by rw [j_up_ne (by omega)]; exact b6 i i0 i1⟩, fun c c0 c1 => by rw [j_up_ne c0]; exact fr c (by omega)⟩ (Nat.le_refl _) (Nat.le_refl _)
  rw [j_up_ne (show a + 9 + 3 ≠ a by omega), j_up_ne (show a + 9 + 4 ≠ a by omega), j_up_ne (show a + 9 + 5 ≠ a by omega)]
  exact b4 t t0 t1
theorem m13_53 (l : Launch) : M13_53 l 0 0 (fun a S V => j_mI S V a) (fun a S V r S' V' => S' = S ∧ ((V a 2 = 0 ∧ V' = j_md V a ∧ r = -6) ∨ (V a 2 ≠ 0 ∧ r = 1 ∧ j_bookEq V V' (a + 1) (a + 9) ∧ ∀ c : Int, (c < a + 1 ∨ a + 8 < c) → V' c = V c))) := by
  refine e13_53 ?_
  rintro C G h hrm hcs hl hn a S V ht hI R
  obtain ⟨L, -, a0, hb, ⟨hR, hS, hB⟩, h2, h4, h3⟩ := id hI
  have F7 : ∀ {f : Int}, f < 0 → f < 0 ∧ -2147483648 ≤ V a 3 ∧ V a 3 < 2147483647 := fun hf => ⟨hf, j_mI_F hI⟩
  refine t13_53_0 h ht (fun q => ?_) (fun q => (t13_53_7 h hrm ht (m13_2 C.2.1) (F7 (by decide)) (Nat.zero_le _) (Nat.zero_le _) (by rintro r9 S9 V9 ⟨e0, e9, er⟩; subst e0; subst e9; subst er; exact t13_53_13 h R (⟨rfl, Or.inl ⟨q, rfl, rfl⟩⟩) (Nat.zero_le _) (Nat.zero_le _))))
  refine t13_53_14 h L hrm ht (m14_2 C.2.1) ⟨L, L12_1k L ht, (by omega), hS.2.2.1, hB.2.1.1, hB.2.1.2⟩ (Nat.zero_le _) (Nat.zero_le _) ?_
  rintro S1 V1 ⟨e0, hE, fr⟩
  subst e0
  exact t13_53_25 h R ⟨rfl, Or.inr ⟨q, rfl, hE, fun c hc => fr c (by omega)⟩⟩ (Nat.le_refl _) (Nat.le_refl _)
