/-! THE REFERENCE: a block is parsed whole -/
theorem j_h4_o1 {f : Int → Int} {len r : Int} (h : (j_h1 f len).2.2 = r) (r0 : 0 ≤ r) : (j_h4 f len).2.2 = r := by
  have e2 : (j_h2 f len).2.2 = r := by unfold j_h2; rw [j_rd_wr (by rw [h]; exact r0)]; exact h
  have e3 : (j_h3 f len).2.2 = r := by unfold j_h3; rw [j_rd_wr (by rw [e2]; exact r0)]; exact e2
  unfold j_h4; rw [j_rd_wr (by rw [e3]; exact r0)]; exact e3
theorem j_h4_o2 {f : Int → Int} {len r : Int} (h : (j_h2 f len).2.2 = r) (r0 : 0 ≤ r) : (j_h4 f len).2.2 = r := by
  have e3 : (j_h3 f len).2.2 = r := by unfold j_h3; rw [j_rd_wr (by rw [h]; exact r0)]; exact h
  unfold j_h4; rw [j_rd_wr (by rw [e3]; exact r0)]; exact e3
theorem j_h4_o3 {f : Int → Int} {len r : Int} (h : (j_h3 f len).2.2 = r) (r0 : 0 ≤ r) : (j_h4 f len).2.2 = r := by
  unfold j_h4; rw [j_rd_wr (by rw [h]; exact r0)]; exact h
theorem j_rdX_wr {f : Int → Int} {len M p wr : Int} (h : 0 ≤ wr) : ∀ n : Nat, (j_rdX f len M p wr n).2.2 = wr
  | 0 => rfl
  | n + 1 => by
    have ih := j_rdX_wr (f := f) (len := len) (M := M) (p := p) h n
    show (j_rd f len (j_rdX f len M p wr n).2.1 (j_rdX f len M p wr n).2.2 3 M (256 * M - 1)).2.2 = wr
    rw [j_rd_wr (by rw [ih]; exact h)]; exact ih
theorem j_rdX_st {f : Int → Int} {len M p wr : Int} {n : Nat} (h : 0 ≤ (j_rdX f len M p wr n).2.2) : ∀ k : Nat, (j_rdX f len M p wr (n + k)).2.2 = (j_rdX f len M p wr n).2.2
  | 0 => rfl
  | k + 1 => by
    have ih := j_rdX_st h k
    show (j_rd f len (j_rdX f len M p wr (n + k)).2.1 (j_rdX f len M p wr (n + k)).2.2 3 M (256 * M - 1)).2.2 = _
    rw [j_rd_wr (by rw [ih]; exact h)]; exact ih
theorem j_hC_oS {f : Int → Int} {len r : Int} (h : (j_hS f len).2.2 = r) (r0 : 0 ≤ r) : (j_hC f len).2 = r := by
  unfold j_hC j_rdC; rw [if_pos (by rw [h]; exact r0)]; exact h
theorem j_hC_oX {f : Int → Int} {len r : Int} (h : (j_hX f len).2.2 = r) (r0 : 0 ≤ r) : (j_hC f len).2 = r := by
  refine j_hC_oS ?_ r0
  unfold j_hS j_rdS
  rw [j_rd_wr (by rw [h]; exact r0)]
  rw [if_neg (by intro z; have := z.1; dsimp only at this; omega)]
  exact h
theorem j_hC_oP {f : Int → Int} {len r : Int} (h : (j_hP f len).2.1 = r) (r0 : 0 ≤ r) : (j_hC f len).2 = r := by
  refine j_hC_oX ?_ r0
  unfold j_hX
  rw [j_rdX_wr (by rw [h]; exact r0)]; exact h
theorem j_pre_1 (g : Int → Int) : ∀ n : Nat, j_pre g ((n : Int) + 1) = g 0 + j_pre (fun s => g (s + 1)) n
  | 0 => by rw [j_pre_s _ (by omega)]; show (0 : Int) + g 0 = g 0 + 0; omega
  | n + 1 => by
    rw [show ((n + 1 : Nat) : Int) + 1 = ((n : Int) + 1) + 1 by omega, j_pre_s _ (by omega), j_pre_1 g n, show ((n + 1 : Nat) : Int) = (n : Int) + 1 by omega, j_pre_s _ (by omega)]
    omega
def j_ps9 (V : jH) (a : Int) (r : Int) (V' : jH) : Prop := j_psF V V' a ∧ ((0 ≤ (j_h4 (V (a + 8)) (V (a + 1) 7)).2.2 ∧ r = (j_h4 (V (a + 8)) (V (a + 1) 7)).2.2) ∨ ((j_h4 (V (a + 8)) (V (a + 1) 7)).2.2 < 0 ∧ 0 ≤ (j_hC (V (a + 8)) (V (a + 1) 7)).2 ∧ r = (j_hC (V (a + 8)) (V (a + 1) 7)).2) ∨
  (j_rt (V (a + 8)) (V (a + 1) 7) ∧ r = -1 ∧ V' a 9 = (j_h1 (V (a + 8)) (V (a + 1) 7)).1 ∧ V' a 10 = j_M (j_h2 (V (a + 8)) (V (a + 1) 7)).1 ∧ V' a 23 = (j_h3 (V (a + 8)) (V (a + 1) 7)).1 ∧ V' a 24 = (j_h4 (V (a + 8)) (V (a + 1) 7)).1 ∧ V' a 25 = (j_hP (V (a + 8)) (V (a + 1) 7)).1 ∧ V' a 26 = (j_hS (V (a + 8)) (V (a + 1) 7)).2.1 ∧ V' a 27 = (j_hS (V (a + 8)) (V (a + 1) 7)).1 ∧
    ∀ q x : Int, 0 ≤ q → q < j_parts (j_h1 (V (a + 8)) (V (a + 1) 7)).1 → 0 ≤ x → x ≤ 256 → j_rB (V' (a + 21)) q x = (j_hP (V (a + 8)) (V (a + 1) 7)).2.2 q x))
theorem m13_38 (l : Launch) : M13_38 l 0 0 (fun a S V => j_L S ∧ 0 ≤ a ∧ j_mbk V a) (fun a S V r S' V' => S' = S ∧ j_ps9 V a r V') := by
  refine e13_38 ?_
  rintro C G h hrm hcs hl hn a S V ht ⟨L, a0, hbk⟩ R
  obtain ⟨b0, b1, hb⟩ := id hbk
  generalize ef : V (a + 8) = f at *
  generalize el : V (a + 1) 7 = len at *
  unfold j_ps9 at R
  rw [ef, el] at R
  have k21 : S.1 (a + 21) = 12 := L12_11k L ht
  have k8 : S.1 (a + 8) = 6 := by
    have q := L11_8k L (L12_0k L ht)
    rw [show a + 8 = (a + 1) + 7 by omega]; exact q
  -- what stays
  have P8 : ∀ {W : jH}, j_psF V W a → W (a + 8) = f := fun {W} hW => by rw [hW.1 _ (by omega) (by omega), ef]
  have P7 : ∀ {W : jH}, j_psF V W a → W (a + 1) 7 = len := fun {W} hW => by rw [hW.1 _ (by omega) (by omega), el]
  have PB : ∀ {W : jH}, j_psF V W a → j_mbk W a := fun {W} hW => by unfold j_mbk; rw [P8 hW, P7 hW]; exact ⟨b0, b1, fun i i0 i1 => hb i i0 i1⟩
  have W0 : j_psF V (j_up V a 22 0) a := j_psF_up (by omega)
  -- kind
  refine t13_38_0 h hrm ht (m13_36 C.2.1) ⟨L, a0, (by omega), (by omega), PB W0, by rw [j_up_at]; omega, by rw [j_up_at, P7 W0]; exact b0⟩ (Nat.zero_le _) (Nat.zero_le _) ?_
  rintro k S1 V1 ⟨e0, hk⟩
  subst e0
  obtain ⟨F1, F1a, F1c⟩ := j_nx9_F hk
  have W1 := W0.tr F1
  unfold j_nx9 at hk
  rw [P7 W0, P8 W0, j_up_at] at hk
  have kv : j_up V1 a 9 k a 9 = k := j_up_at _ _ _ _
  refine t13_38_11 h hrm ht ht (m13_3 C.2.1) trivial (Nat.zero_le _) (Nat.zero_le _) ?_
  rintro y S2 V2 ⟨e0, e1, hy⟩
  subst e0
  have W2 : j_psF V V2 a := by rw [e1]; exact W1.tr (j_psF_up (by omega))
  have v22 : V2 a 22 = V1 a 22 := by rw [e1, j_up_off (by decide)]
  have v9 : V2 a 9 = k := by rw [e1]; exact kv
  rw [kv] at hy
  have i22 : ∀ {W : jH}, j_psF V W a → ∀ n : Int, 0 ≤ W a 22 → W a 22 ≤ 4400 → 0 ≤ n → n ≤ 3 → j_I32 (W a 22 - n) := fun {W} hW n z0 z1 z2 z3 => by constructor <;> omega
  refine t13_38_26 h (fun q1 => ?_) (fun q1 => ?_)
  rotate_left
  · refine t13_38_29 h hrm ht (m13_37 C.2.1) ⟨L, ?_⟩ (Nat.zero_le _) (Nat.zero_le _) ?_
    · rw [v22]
      rcases hk with ⟨_, _, e⟩ | ⟨g1, _, _, _, e⟩
      · rw [e, j_up_at]; constructor <;> omega
      · rw [e, j_up_at]; constructor <;> omega
    · rintro r S3 V3 ⟨e0, e3, er⟩
      subst e0; subst e3
      rw [v9, P7 W2, v22] at er
      have nn := hy.n q1
      have hr : (j_h1 f len).2.2 = r ∧ 0 ≤ r := by
        unfold j_h1
        rcases hk with ⟨g1, g2, g3⟩ | ⟨g1, g2, g3, g4, g5⟩
        · rw [j_rd_cut (by show (-1 : Int) < 0; decide) g1, er, if_pos (by omega)]; exact ⟨rfl, b0⟩
        · rw [j_rd_bad (by show (-1 : Int) < 0; decide) g1 (by show j_val f 0 (1 : Int).toNat < 0 ∨ 4 < j_val f 0 (1 : Int).toNat; rw [← g2]; omega), er, if_neg (by omega), g5, j_up_at]
          exact ⟨by show (0 : Int) = _; omega, (by omega)⟩
      exact t13_38_38 h R ⟨rfl, W2, Or.inl (by rw [j_h4_o1 hr.1 hr.2]; exact ⟨hr.2, rfl⟩)⟩ (Nat.le_refl _) (Nat.le_refl _)
  obtain ⟨k0, k1⟩ := hy.y q1
  obtain ⟨g1, g2, g5⟩ : 0 + 1 ≤ len ∧ k = j_val f 0 1 ∧ V1 a 22 = 1 := by
    rcases hk with ⟨_, z, _⟩ | ⟨g1, g2, _, _, g5⟩
    · omega
    · exact ⟨g1, g2, by rw [g5, j_up_at]; rfl⟩
  have H1 : j_h1 f len = (k, 1, -1) := by
    unfold j_h1
    rw [j_rd_good (by show (-1 : Int) < 0; decide) g1 (by show ¬ (j_val f 0 1 < 0 ∨ 4 < j_val f 0 1); rw [← g2]; omega)]
    show (j_val f 0 1, 0 + 1, (-1 : Int)) = _
    rw [← g2]; rfl
  have c2 : V2 a 22 = 1 := by rw [v22, g5]
  -- r
  refine t13_38_39 h hrm ht (m13_36 C.2.1) ⟨L, a0, (by omega), (by omega), PB W2, by rw [c2]; omega, by rw [c2, P7 W2]; exact g1⟩ (Nat.zero_le _) (Nat.zero_le _) ?_
  rintro r S3 V3 ⟨e0, hr⟩
  subst e0
  obtain ⟨F3, F3a, F3c⟩ := j_nx9_F hr
  have W3 := W2.tr F3
  unfold j_nx9 at hr
  rw [P7 W2, P8 W2, c2] at hr
  refine t13_38_44 h hrm (m13_3 C.2.1) trivial (Nat.zero_le _) (Nat.zero_le _) ?_
  rintro y S4 V4 ⟨e0, e1, hy⟩
  subst e0; subst e1
  refine t13_38_56 h (fun q2 => ?_) (fun q2 => ?_)
  rotate_left
  · refine t13_38_59 h hrm ht (m13_37 C.2.1) ⟨L, ?_⟩ (Nat.zero_le _) (Nat.zero_le _) ?_
    · rcases hr with ⟨_, _, e⟩ | ⟨g1, _, _, _, e⟩
      · rw [e, c2]; constructor <;> omega
      · rw [e, j_up_at]; constructor <;> omega
    · rintro x S5 V5 ⟨e0, e3, er⟩
      subst e0; subst e3
      rw [P7 W3] at er
      have nn := hy.n q2
      have hx : (j_h2 f len).2.2 = x ∧ 0 ≤ x := by
        unfold j_h2
        rw [H1]
        rcases hr with ⟨g1, g2, g3⟩ | ⟨g1, g2, g3, g4, g5⟩
        · rw [j_rd_cut (by show (-1 : Int) < 0; decide) g1, er, if_pos (by omega)]; exact ⟨rfl, b0⟩
        · rw [j_rd_bad (by show (-1 : Int) < 0; decide) g1 (by show j_val f 1 (1 : Int).toNat < 8 ∨ 12 < j_val f 1 (1 : Int).toNat; rw [← g2]; omega), er, if_neg (by omega), g5, j_up_at]
          exact ⟨by show (1 : Int) = _; omega, (by omega)⟩
      exact t13_38_65 h R ⟨rfl, W3, Or.inl (by rw [j_h4_o2 hx.1 hx.2]; exact ⟨hx.2, rfl⟩)⟩ (Nat.le_refl _) (Nat.le_refl _)
  obtain ⟨r0, r1⟩ := hy.y q2
  obtain ⟨g3, g4, g6⟩ : 1 + 1 ≤ len ∧ r = j_val f 1 1 ∧ V4 a 22 = 2 := by
    rcases hr with ⟨_, z, _⟩ | ⟨g1, g2, _, _, g5⟩
    · omega
    · exact ⟨g1, g2, by rw [g5, j_up_at]; rfl⟩
  have H2 : j_h2 f len = (r, 2, -1) := by
    unfold j_h2
    rw [H1, j_rd_good (by show (-1 : Int) < 0; decide) g3 (by show ¬ (j_val f 1 1 < 8 ∨ 12 < j_val f 1 1); rw [← g4]; omega)]
    show (j_val f 1 1, 1 + 1, (-1 : Int)) = _
    rw [← g4]; rfl
  have hm := j_M_bd r0 r1
  have eM : (2 : Int) ^ r.toNat = j_M r := rfl
  have x9 : V4 a 9 = k := by rw [F3a 9 (by decide)]; exact v9
  -- lanes
  have W4 : j_psF V (j_up V4 a 10 (j_M r)) a := W3.tr (j_psF_up (by omega))
  have c4 : j_up V4 a 10 (j_M r) a 22 = 2 := by rw [j_up_off (by decide)]; exact g6
  refine t13_38_66 h hrm (by omega) (by omega) ht (m13_36 C.2.1) ⟨L, a0, (by omega), (by omega), by rw [eM]; exact PB W4, by rw [eM, c4]; omega, by rw [eM, c4, P7 W4]; exact g3⟩ (Nat.zero_le _) (Nat.zero_le _) ?_
  rw [eM]
  rintro la S5 V5 ⟨e0, hl5⟩
  subst e0
  obtain ⟨F5, F5a, F5c⟩ := j_nx9_F hl5
  have W5 := W4.tr F5
  unfold j_nx9 at hl5
  rw [P7 W4, P8 W4, c4] at hl5
  have kv : j_up V5 a 23 la a 23 = la := j_up_at _ _ _ _
  refine t13_38_79 h hrm ht ht (m13_3 C.2.1) trivial (Nat.zero_le _) (Nat.zero_le _) ?_
  rintro y S6 V6 ⟨e0, e1, hy⟩
  subst e0
  rw [kv] at hy
  have W6 : j_psF V V6 a := by rw [e1]; exact W5.tr (j_psF_up (by omega))
  have v22 : V6 a 22 = V5 a 22 := by rw [e1, j_up_off (by decide)]
  have v23 : V6 a 23 = la := by rw [e1]; exact kv
  have x9' : V6 a 9 = k := by rw [e1, j_up_off (by decide), F5a 9 (by decide), j_up_off (by decide)]; exact x9
  have x10 : V6 a 10 = j_M r := by rw [e1, j_up_off (by decide), F5a 10 (by decide), j_up_at]
  refine t13_38_94 h (fun q3 => ?_) (fun q3 => ?_)
  rotate_left
  · refine t13_38_97 h hrm ht (m13_37 C.2.1) ⟨L, ?_⟩ (Nat.zero_le _) (Nat.zero_le _) ?_
    · rw [v22]
      rcases hl5 with ⟨_, _, e⟩ | ⟨g1, _, _, _, e⟩
      · rw [e, c4]; constructor <;> omega
      · rw [e, j_up_at]; constructor <;> omega
    · rintro x S7 V7 ⟨e0, e3, er⟩
      subst e0; subst e3
      rw [P7 W6, v23, v22] at er
      have nn := hy.n q3
      have hx : (j_h3 f len).2.2 = x ∧ 0 ≤ x := by
        unfold j_h3
        rw [H2]
        rcases hl5 with ⟨g1, g2, g3⟩ | ⟨g1, g2, g3, g4, g5⟩
        · rw [j_rd_cut (by show (-1 : Int) < 0; decide) g1, er, if_pos (by omega)]; exact ⟨rfl, b0⟩
        · rw [j_rd_bad (by show (-1 : Int) < 0; decide) g1 (by show j_val f 2 (1 : Int).toNat < 1 ∨ 4 < j_val f 2 (1 : Int).toNat; rw [← g2]; omega), er, if_neg (by omega), g5, j_up_at]
          exact ⟨by show (2 : Int) = _; omega, (by omega)⟩
      exact t13_38_106 h R ⟨rfl, W6, Or.inl (by rw [j_h4_o3 hx.1 hx.2]; exact ⟨hx.2, rfl⟩)⟩ (Nat.le_refl _) (Nat.le_refl _)
  obtain ⟨l0, l1⟩ := hy.y q3
  obtain ⟨g7, g8, g9⟩ : 2 + 1 ≤ len ∧ la = j_val f 2 1 ∧ V6 a 22 = 3 := by
    rcases hl5 with ⟨_, z, _⟩ | ⟨g1, g2, _, _, g5⟩
    · omega
    · exact ⟨g1, g2, by rw [v22, g5, j_up_at]; rfl⟩
  have H3 : j_h3 f len = (la, 3, -1) := by
    unfold j_h3
    rw [H2, j_rd_good (by show (-1 : Int) < 0; decide) g7 (by show ¬ (j_val f 2 1 < 1 ∨ 4 < j_val f 2 1); rw [← g8]; omega)]
    show (j_val f 2 1, 2 + 1, (-1 : Int)) = _
    rw [← g8]; rfl
  -- how many signs
  refine t13_38_107 h hrm ht (m13_36 C.2.1) ⟨L, a0, (by omega), (by omega), PB W6, by rw [g9]; omega, by rw [g9, P7 W6]; exact g7⟩ (Nat.zero_le _) (Nat.zero_le _) ?_
  rintro n S7 V7 ⟨e0, hn7⟩
  subst e0
  obtain ⟨F7, F7a, F7c⟩ := j_nx9_F hn7
  have W7 := W6.tr F7
  unfold j_nx9 at hn7
  rw [P7 W6, P8 W6, g9] at hn7
  have kv : j_up V7 a 24 n a 24 = n := j_up_at _ _ _ _
  refine t13_38_113 h hrm ht ht (m13_3 C.2.1) trivial (Nat.zero_le _) (Nat.zero_le _) ?_
  rintro y S8 V8 ⟨e0, e1, hy⟩
  subst e0
  rw [kv] at hy
  have W8 : j_psF V V8 a := by rw [e1]; exact W7.tr (j_psF_up (by omega))
  have v22 : V8 a 22 = V7 a 22 := by rw [e1, j_up_off (by decide)]
  have v24 : V8 a 24 = n := by rw [e1]; exact kv
  have z9 : V8 a 9 = k := by rw [e1, j_up_off (by decide), F7a 9 (by decide)]; exact x9'
  have z10 : V8 a 10 = j_M r := by rw [e1, j_up_off (by decide), F7a 10 (by decide)]; exact x10
  have z23 : V8 a 23 = la := by rw [e1, j_up_off (by decide), F7a 23 (by decide)]; exact v23
  refine t13_38_128 h (fun q4 => ?_) (fun q4 => ?_)
  rotate_left
  · refine t13_38_131 h hrm ht (m13_37 C.2.1) ⟨L, ?_⟩ (Nat.zero_le _) (Nat.zero_le _) ?_
    · rw [v22]
      rcases hn7 with ⟨_, _, e⟩ | ⟨g1, _, _, _, e⟩
      · rw [e, g9]; constructor <;> omega
      · rw [e, j_up_at]; constructor <;> omega
    · rintro x S9 V9 ⟨e0, e3, er⟩
      subst e0; subst e3
      rw [P7 W8, v24, v22] at er
      have nn := hy.n q4
      have hx : (j_h4 f len).2.2 = x ∧ 0 ≤ x := by
        unfold j_h4
        rw [H3]
        rcases hn7 with ⟨g1, g2, g3⟩ | ⟨g1, g2, g3, g4, g5⟩
        · rw [j_rd_cut (by show (-1 : Int) < 0; decide) g1, er, if_pos (by omega)]; exact ⟨rfl, b0⟩
        · rw [j_rd_bad (by show (-1 : Int) < 0; decide) g1 (by show j_val f 3 (2 : Int).toNat < 0 ∨ 400 < j_val f 3 (2 : Int).toNat; rw [← g2]; omega), er, if_neg (by omega), g5, j_up_at]
          exact ⟨by show (3 : Int) = _; omega, (by omega)⟩
      exact t13_38_140 h R ⟨rfl, W8, Or.inl (by rw [hx.1]; exact ⟨hx.2, rfl⟩)⟩ (Nat.le_refl _) (Nat.le_refl _)
  obtain ⟨n0, n1⟩ := hy.y q4
  obtain ⟨ga, gb, gc⟩ : 3 + 2 ≤ len ∧ n = j_val f 3 2 ∧ V8 a 22 = 5 := by
    rcases hn7 with ⟨_, z, _⟩ | ⟨g1, g2, _, _, g5⟩
    · omega
    · exact ⟨g1, g2, by rw [v22, g5, j_up_at]; rfl⟩
  have H4 : j_h4 f len = (n, 5, -1) := by
    unfold j_h4
    rw [H3, j_rd_good (by show (-1 : Int) < 0; decide) ga (by show ¬ (j_val f 3 2 < 0 ∨ 400 < j_val f 3 2); rw [← gb]; omega)]
    show (j_val f 3 2, 3 + 2, (-1 : Int)) = _
    rw [← gb]; rfl
  have q4n : (j_h4 f len).2.2 < 0 := by rw [H4]; show (-1 : Int) < 0; decide
  have pp := j_parts_bd k
  -- what a wrong place behind the head does
  have late : ∀ {W : jH} {x : Int}, j_psF V W a → (j_hC f len).2 = x → 0 ≤ x → (j_psF V W a ∧ ((0 ≤ (j_h4 f len).2.2 ∧ x = (j_h4 f len).2.2) ∨ ((j_h4 f len).2.2 < 0 ∧ 0 ≤ (j_hC f len).2 ∧ x = (j_hC f len).2) ∨ (j_rt f len ∧ x = -1 ∧ W a 9 = (j_h1 f len).1 ∧ W a 10 = j_M (j_h2 f len).1 ∧ W a 23 = (j_h3 f len).1 ∧ W a 24 = (j_h4 f len).1 ∧ W a 25 = (j_hP f len).1 ∧ W a 26 = (j_hS f len).2.1 ∧ W a 27 = (j_hS f len).1 ∧ ∀ q x : Int, 0 ≤ q → q < j_parts (j_h1 f len).1 → 0 ≤ x → x ≤ 256 → j_rB (W (a + 21)) q x = (j_hP f len).2.2 q x))) := fun hW hx x0 => ⟨hW, Or.inr (Or.inl ⟨q4n, by rw [hx]; exact x0, hx.symm⟩)⟩
  refine t13_38_141 h ?_
  -- from the states on
  have tail : ∀ W : jH, j_psF V W a → W a 9 = k → W a 10 = j_M r → W a 23 = la → W a 24 = n → W a 22 = (j_hP f len).1 → (j_hP f len).2.1 = -1 → 0 ≤ W a 22 → W a 22 ≤ len → (∀ q x : Int, 0 ≤ q → q < j_parts k → 0 ≤ x → x ≤ 256 → j_rB (W (a + 21)) q x = (j_hP f len).2.2 q x) → j_ok n_KT 4 C G 246 [(0, (2, a))] [] S8 W 0 0 := by
    intro W WF t9 t10 t23 t24 t22 tP w0 w1 tD
    refine t13_38_246 h ht ?_
    have U0 : j_psF V (j_up W a 25 (W a 22)) a := WF.tr (j_psF_up (by omega))
    have sl : ∀ (i : Int) (V9 : jH), (0 ≤ i ∧ i ≤ la ∧ (∀ c : Int, c ≠ a → V9 c = W c) ∧ (∀ j : Int, j ≠ 22 → V9 a j = j_up W a 25 (W a 22) a j) ∧ V9 a 22 = (j_rdX f len (j_M r) (j_hP f len).1 (-1) i.toNat).2.1 ∧ (j_rdX f len (j_M r) (j_hP f len).1 (-1) i.toNat).2.2 = -1 ∧ 0 ≤ V9 a 22 ∧ V9 a 22 ≤ len) → j_ok n_KT 4 C G 256 [(0, (2, a)), (2, (0, i))] [] S8 V9 0 0 := by
      refine j_loop (N := la) (fun i V9 hi hI kk => ?_) (fun i V9 hi hI => ?_)
      · obtain ⟨i0, i1, d1, d2, d3, d4, d5, d6⟩ := hI
        have U9 : j_psF V V9 a := ⟨fun c c0 c1 => by rw [d1 c c0]; exact WF.1 c c0 c1, fun j z0 z1 z2 z3 z4 z5 z6 z7 => by rw [d2 j z2, j_up_off z5]; exact WF.2 j z0 z1 z2 z3 z4 z5 z6 z7⟩
        have y23 : V9 a 23 = la := by rw [d2 23 (by decide), j_up_off (by decide)]; exact t23
        have y10 : V9 a 10 = j_M r := by rw [d2 10 (by decide), j_up_off (by decide)]; exact t10
        refine t13_38_256 h ht (fun z => absurd z (by rw [y23]; omega)) (fun _ => ?_)
        refine t13_38_264 h hrm ht (m13_36 C.2.1) ⟨L, a0, (by omega), (by omega), PB U9, d5, by rw [P7 U9]; exact d6⟩ (Nat.zero_le _) (Nat.zero_le _) ?_
        rintro x Sa Va ⟨e0, hx⟩
        subst e0
        obtain ⟨Fa, Faa, Fac⟩ := j_nx9_F hx
        have Ua := U9.tr Fa
        unfold j_nx9 at hx
        rw [P7 U9, P8 U9] at hx
        have ya10 : Va a 10 = j_M r := by rw [Faa 10 (by decide)]; exact y10
        have es : j_rdX f len (j_M r) (j_hP f len).1 (-1) (i + 1).toNat = (j_u (j_rdX f len (j_M r) (j_hP f len).1 (-1) i.toNat).1 i (j_rd f len (V9 a 22) (-1) 3 (j_M r) (256 * j_M r - 1)).1, (j_rd f len (V9 a 22) (-1) 3 (j_M r) (256 * j_M r - 1)).2) := by
          rw [show (i + 1).toNat = i.toNat + 1 by omega, j_rdX, ← d3, d4, show ((i.toNat : Nat) : Int) = i by omega]
        refine t13_38_269 h hrm ht (by rw [ya10]; omega) (by rw [ya10]; omega) (m13_3 C.2.1) trivial (Nat.zero_le _) (Nat.zero_le _) ?_
        rintro y Sb Vb ⟨e0, e1, hy⟩
        subst e0; subst e1
        rw [ya10] at hy
        refine t13_38_291 h (fun q5 => ?_) (fun q5 => ?_)
        · obtain ⟨u0, u1⟩ := hy.y q5
          obtain ⟨v1, v2, v5⟩ : V9 a 22 + 3 ≤ len ∧ x = j_val f (V9 a 22) 3 ∧ Vb a 22 = V9 a 22 + 3 := by
            rcases hx with ⟨_, z, _⟩ | ⟨v1, v2, _, _, v5⟩
            · omega
            · exact ⟨v1, v2, by rw [v5, j_up_at]⟩
          have rd : j_rd f len (V9 a 22) (-1) 3 (j_M r) (256 * j_M r - 1) = (x, V9 a 22 + 3, -1) := by
            rw [j_rd_good (by show (-1 : Int) < 0; decide) v1 (by show ¬ (j_val f (V9 a 22) 3 < _ ∨ _ < j_val f (V9 a 22) 3); rw [← v2]; omega)]
            show (j_val f (V9 a 22) 3, _, (-1 : Int)) = _
            rw [← v2]
          rw [rd] at es
          refine t13_38_301 h (by omega) (kk _ ⟨(by omega), (by omega), fun c hc => by rw [Fac c hc]; exact d1 c hc, fun j hj => by rw [Faa j hj]; exact d2 j hj, by rw [es]; exact v5, by rw [es], (by omega), (by omega)⟩)
        · refine t13_38_294 h hrm ht (m13_37 C.2.1) ⟨L, ?_⟩ (Nat.zero_le _) (Nat.zero_le _) ?_
          · rcases hx with ⟨_, _, e⟩ | ⟨g1, _, _, _, e⟩
            · rw [e]; constructor <;> omega
            · rw [e, j_up_at]; constructor <;> omega
          · rintro w Sc Vc ⟨e0, e3, er⟩
            subst e0; subst e3
            rw [P7 Ua] at er
            have nn := hy.n q5
            have hw : (j_rd f len (V9 a 22) (-1) 3 (j_M r) (256 * j_M r - 1)).2.2 = w ∧ 0 ≤ w := by
              rcases hx with ⟨g1, g2, g3⟩ | ⟨g1, g2, g3, g4, g5⟩
              · rw [j_rd_cut (by show (-1 : Int) < 0; decide) g1, er, if_pos (by omega)]; exact ⟨rfl, b0⟩
              · rw [j_rd_bad (by show (-1 : Int) < 0; decide) g1 (by show j_val f (V9 a 22) (3 : Int).toNat < _ ∨ _ < j_val f (V9 a 22) (3 : Int).toNat; rw [← g2]; omega), er, if_neg (by omega), g5, j_up_at]
                exact ⟨by show V9 a 22 = _; omega, (by omega)⟩
            have ew : (j_rdX f len (j_M r) (j_hP f len).1 (-1) (i + 1).toNat).2.2 = w := by rw [es]; exact hw.1
            have eX : (j_hX f len).2.2 = w := by
              unfold j_hX
              rw [H2, H3, tP]
              have st := j_rdX_st (f := f) (len := len) (M := j_M r) (p := (j_hP f len).1) (wr := -1) (n := (i + 1).toNat) (by rw [ew]; exact hw.2) (la.toNat - (i + 1).toNat)
              rw [show (i + 1).toNat + (la.toNat - (i + 1).toNat) = la.toNat by omega, ew] at st
              exact st
            exact t13_38_300 h R ⟨rfl, late Ua (j_hC_oX eX hw.2) hw.2⟩ (Nat.le_refl _) (Nat.le_refl _)
      · obtain ⟨i0, i1, d1, d2, d3, d4, d5, d6⟩ := hI
        have ei : i = la := by omega
        rw [ei] at d3 d4
        have U9 : j_psF V V9 a := ⟨fun c c0 c1 => by rw [d1 c c0]; exact WF.1 c c0 c1, fun j z0 z1 z2 z3 z4 z5 z6 z7 => by rw [d2 j z2, j_up_off z5]; exact WF.2 j z0 z1 z2 z3 z4 z5 z6 z7⟩
        have y23 : V9 a 23 = la := by rw [d2 23 (by decide), j_up_off (by decide)]; exact t23
        have eX1 : (j_hX f len).2.1 = V9 a 22 := by unfold j_hX; rw [H2, H3, tP]; exact d3.symm
        have eX2 : (j_hX f len).2.2 = -1 := by unfold j_hX; rw [H2, H3, tP]; exact d4
        refine t13_38_256 h ht (fun _ => ?_) (fun z => absurd z (by rw [y23]; omega))
        refine t13_38_307 h hrm ht (m13_36 C.2.1) ⟨L, a0, (by omega), (by omega), PB U9, d5, by rw [P7 U9]; exact d6⟩ (Nat.zero_le _) (Nat.zero_le _) ?_
        rintro m Sa Va ⟨e0, hx⟩
        subst e0
        obtain ⟨Fa, Faa, Fac⟩ := j_nx9_F hx
        have Ua := U9.tr Fa
        unfold j_nx9 at hx
        rw [P7 U9, P8 U9] at hx
        have Ub : j_psF V (j_up Va a 27 m) a := Ua.tr (j_psF_up (by omega))
        have m27 : j_up Va a 27 m a 27 = m := j_up_at _ _ _ _
        have m22 : j_up Va a 27 m a 22 = Va a 22 := j_up_off (by decide)
        refine t13_38_313 h ht ht (fun q6 => ?_) (fun q6 => ?_)
        rotate_left
        · rw [m27] at q6
          have g1 : len < V9 a 22 + 2 := by
            rcases hx with ⟨g1, _, _⟩ | ⟨_, _, z, _, _⟩
            · exact g1
            · omega
          have eS : (j_hS f len).2.2 = len := by
            unfold j_hS j_rdS
            rw [eX1, eX2, j_rd_cut (by show (-1 : Int) < 0; decide) g1, if_neg (by intro z; have := z.1; dsimp only at this; omega)]
          exact t13_38_323 h L ht R ⟨rfl, by rw [P7 Ub]; exact late Ub (j_hC_oS eS b0) b0⟩ (Nat.le_refl _) (Nat.le_refl _)
        · rw [m27] at q6
          obtain ⟨v1, v2, v3, v4, v5⟩ : V9 a 22 + 2 ≤ len ∧ m = j_val f (V9 a 22) 2 ∧ 0 ≤ m ∧ m < 256 ^ 2 ∧ Va a 22 = V9 a 22 + 2 := by
            rcases hx with ⟨_, z, _⟩ | ⟨v1, v2, v3, v4, v5⟩
            · omega
            · exact ⟨v1, v2, v3, v4, by rw [v5, j_up_at]⟩
          have v4 : m < 65536 := v4
          have rd : j_rd f len (V9 a 22) (-1) 2 0 65535 = (m, V9 a 22 + 2, -1) := by
            rw [j_rd_good (by show (-1 : Int) < 0; decide) v1 (by show ¬ (j_val f (V9 a 22) 2 < _ ∨ _ < j_val f (V9 a 22) 2); rw [← v2]; omega)]
            show (j_val f (V9 a 22) 2, _, (-1 : Int)) = _
            rw [← v2]
          refine t13_38_331 h L ht (by rw [m22, m27, v5]; omega) (by rw [m22, m27, v5]; omega) (fun q7 => ?_) (fun q7 => ?_)
          rotate_left
          · rw [m22, m27, v5, P7 Ub] at q7
            have eS : (j_hS f len).2.2 = V9 a 22 := by
              unfold j_hS j_rdS
              rw [eX1, eX2, rd, if_pos ⟨by show (-1 : Int) < 0; decide, by show len - (V9 a 22 + 2) ≠ m + 2; omega⟩]
            refine t13_38_352 h ht (by rw [m22, v5]; omega) R ⟨rfl, ?_⟩ (Nat.le_refl _) (Nat.le_refl _)
            rw [m22, v5, show V9 a 22 + 2 - 2 = V9 a 22 by omega]
            exact late Ub (j_hC_oS eS d5) d5
          · rw [m22, m27, v5, P7 Ub] at q7
            have eS : j_hS f len = (m, V9 a 22 + 2, -1) := by
              unfold j_hS j_rdS
              rw [eX1, eX2, rd, if_neg (by intro z; exact z.2 (by show len - (V9 a 22 + 2) = m + 2; omega))]
            have Uc : j_psF V (j_up (j_up (j_up Va a 27 m) a 26 (j_up Va a 27 m a 22)) a 22 (j_up Va a 27 m a 22 + j_up Va a 27 m a 27)) a := (Ub.tr (j_psF_up (by omega))).tr (j_psF_up (by omega))
            have cc : j_up (j_up (j_up Va a 27 m) a 26 (j_up Va a 27 m a 22)) a 22 (j_up Va a 27 m a 22 + j_up Va a 27 m a 27) a 22 = V9 a 22 + 2 + m := by rw [j_up_at, m22, m27, v5]
            refine t13_38_359 h hrm ht (by rw [m22, m27, v5]; omega) (m13_36 C.2.1) ⟨L, a0, (by omega), (by omega), PB Uc, by rw [cc]; omega, by rw [cc, P7 Uc]; omega⟩ (Nat.zero_le _) (Nat.zero_le _) ?_
            rintro sm Sd Vd ⟨e0, hs⟩
            subst e0
            obtain ⟨Fd, Fda, Fdc⟩ := j_nx9_F hs
            have Ud := Uc.tr Fd
            unfold j_nx9 at hs
            rw [P7 Uc, P8 Uc, cc] at hs
            obtain ⟨s1, s2, s5⟩ : V9 a 22 + 2 + m + 2 ≤ len ∧ sm = j_val f (V9 a 22 + 2 + m) 2 ∧ Vd a 22 = V9 a 22 + 2 + m + 2 := by
              rcases hs with ⟨z, _, _⟩ | ⟨s1, s2, _, _, s5⟩
              · omega
              · exact ⟨s1, s2, by rw [s5, j_up_at]⟩
            refine t13_38_385 h L hrm ht (by rw [P7 Ud]; omega) (m13_29 C.2.1 4400) ⟨j_arr_of k8 (by decide) rfl, by rw [P7 Ud]; omega, by rw [P7 Ud]; show len - 2 ≤ 4400; omega, (by omega), fun i z0 z1 => by rw [P7 Ud] at z1; rw [P8 Ud]; exact hb i z0 (by omega)⟩ (Nat.zero_le _) (Nat.zero_le _) ?_
            rintro su Se Ve ⟨e0, e1, eu⟩
            subst e0; subst e1
            rw [P7 Ud, P8 Ud] at eu
            have esp : len - 2 = V9 a 22 + 2 + m := by omega
            rw [esp] at eu
            have eC : (j_hC f len).2 = (j_rd f len (V9 a 22 + 2 + m) (-1) 2 (j_SUM f (V9 a 22 + 2 + m)) (j_SUM f (V9 a 22 + 2 + m))).2.2 := by
              unfold j_hC j_rdC
              rw [eS, if_neg (by show ¬ (0 : Int) ≤ -1; decide)]
            refine t13_38_406 h (fun q8 => ?_) (fun q8 => ?_)
            · have ex : (j_hC f len).2 = V9 a 22 + 2 + m := by
                rw [eC, j_rd_bad (by show (-1 : Int) < 0; decide) s1 (by show j_val f (V9 a 22 + 2 + m) 2 < _ ∨ _ < j_val f (V9 a 22 + 2 + m) 2; rw [← s2, ← eu]; omega)]
              refine t13_38_413 h ht (by rw [s5]; omega) (t13_38_419 h R ⟨rfl, ?_⟩ (Nat.le_refl _) (Nat.le_refl _))
              rw [s5, show V9 a 22 + 2 + m + 2 - 2 = V9 a 22 + 2 + m by omega]
              exact late Ud ex (by omega)
            · have ex : (j_hC f len).2 = -1 := by
                rw [eC, j_rd_good (by show (-1 : Int) < 0; decide) s1 (by show ¬ (j_val f (V9 a 22 + 2 + m) 2 < _ ∨ _ < j_val f (V9 a 22 + 2 + m) 2); rw [← s2, ← eu]; omega)]
              have yj : ∀ j : Int, j ≠ 22 → j ≠ 26 → j ≠ 27 → j ≠ 25 → Ve a j = W a j := fun j z0 z1 z2 z3 => by rw [Fda j z0, j_up_off z0, j_up_off z1, j_up_off z2, Faa j z0, d2 j z0, j_up_off z3]
              refine t13_38_409 h (t13_38_419 h R ⟨rfl, Ud, Or.inr (Or.inr ⟨⟨q4n, by rw [ex]; decide⟩, rfl, ?_, ?_, ?_, ?_, ?_, ?_, ?_, fun q x z0 z1 z2 z3 => ?_⟩)⟩ (Nat.le_refl _) (Nat.le_refl _))
              · rw [yj 9 (by decide) (by decide) (by decide) (by decide), t9, H1]
              · rw [yj 10 (by decide) (by decide) (by decide) (by decide), t10, H2]
              · rw [yj 23 (by decide) (by decide) (by decide) (by decide), t23, H3]
              · rw [yj 24 (by decide) (by decide) (by decide) (by decide), t24, H4]
              · rw [Fda 25 (by decide), j_up_off (by decide), j_up_off (by decide), j_up_off (by decide), Faa 25 (by decide), d2 25 (by decide), j_up_at]; exact t22
              · rw [Fda 26 (by decide), j_up_off (by decide), j_up_at, m22, v5, eS]
              · rw [Fda 27 (by decide), j_up_off (by decide), j_up_off (by decide), j_up_at, eS]
              · rw [H1] at z1
                rw [Fdc _ (by omega), j_up_ne (by omega), j_up_ne (by omega), j_up_ne (by omega), Fac _ (by omega), d1 _ (by omega)]
                exact tD q x z0 z1 z2 z3
    refine sl 0 _ ⟨(by omega), (by omega), fun c hc => j_up_ne hc, fun j _ => rfl, ?_, rfl, ?_, ?_⟩
    · rw [j_up_off (by decide)]; exact t22
    · rw [j_up_off (by decide)]; exact w0
    · rw [j_up_off (by decide)]; exact w1
  -- deals
  have deals : ∀ W : jH, j_psF V W a → (∀ j : Int, W a j = V8 a j) → (∀ i : Int, 0 ≤ i → i < 1024 → W (a + 21) i = if k = 1 ∨ k = 4 then j_M r / 256 else 0) → j_ok n_KT 4 C G 190 [(0, (2, a))] [] S8 W 0 0 := by
    intro W WF wa wd
    refine t13_38_190 h ?_
    by_cases td : j_isTold k
    · have tp : j_toldP k = j_parts k := by unfold j_toldP; rw [if_pos td]
      have eP : j_hP f len = j_rdP f len 5 (-1) (j_M r) (j_parts k).toNat := by unfold j_hP; rw [H1, H2, H4, if_pos td]
      have pl : ∀ (q : Int) (V9 : jH), (0 ≤ q ∧ q ≤ j_parts k ∧ j_psF V V9 a ∧ (∀ j : Int, j ≠ 22 → V9 a j = V8 a j) ∧ V9 a 22 = (j_rdP f len 5 (-1) (j_M r) q.toNat).1 ∧ (j_rdP f len 5 (-1) (j_M r) q.toNat).2.1 = -1 ∧ 0 ≤ V9 a 22 ∧ V9 a 22 ≤ len ∧ (∀ x j : Int, 0 ≤ x → x < q → 0 ≤ j → j ≤ 256 → j_rB (V9 (a + 21)) x j = (j_rdP f len 5 (-1) (j_M r) q.toNat).2.2 x j) ∧ ∀ i : Int, 256 * q ≤ i → i < 1024 → V9 (a + 21) i = 0) → j_ok n_KT 4 C G 192 [(0, (2, a)), (2, (0, q))] [] S8 V9 0 0 := by
        refine j_loop (N := j_parts k) (fun q V9 hq hI kk => ?_) (fun q V9 hq hI => ?_)
        · obtain ⟨q0, q1', U9, d1, d2, d3, d4, d5, d6, d7⟩ := hI
          have y9 : V9 a 9 = k := by rw [d1 9 (by decide)]; exact z9
          have y10 : V9 a 10 = j_M r := by rw [d1 10 (by decide)]; exact z10
          have body : j_ok n_KT 4 C G 228 [(0, (2, a)), (2, (0, q))] [] S8 V9 0 0 := by
            refine t13_38_228 h hrm ht (m13_39 C.2.1) ⟨L, a0, q0, (by omega), PB U9, d4, by rw [P7 U9]; exact d5, by rw [y10]; exact hm.1, by rw [y10]; exact hm.2, fun s s0 s1 => d7 _ (by omega) (by omega)⟩ (Nat.zero_le _) (Nat.zero_le _) ?_
            rintro x Sa Va ⟨e0, Fa, Faa, Fao, hx⟩
            subst e0
            rw [P8 U9, P7 U9, y10, d2] at hx
            have es : j_rdP f len 5 (-1) (j_M r) (q + 1).toNat = ((j_rdD f len (j_rdP f len 5 (-1) (j_M r) q.toNat).1 (-1) (j_M r)).1, (j_rdD f len (j_rdP f len 5 (-1) (j_M r) q.toNat).1 (-1) (j_M r)).2.1, fun y => if y = q then fun j => j_pre (j_rdD f len (j_rdP f len 5 (-1) (j_M r) q.toNat).1 (-1) (j_M r)).2.2.2.2 (j + 1) else (j_rdP f len 5 (-1) (j_M r) q.toNat).2.2 y) := by
              rw [show (q + 1).toNat = q.toNat + 1 by omega, j_rdP, d3, if_neg (by decide), show ((q.toNat : Nat) : Int) = q by omega]
            have Ua := U9.tr Fa
            refine t13_38_233 h (fun q5 => ?_) (fun q5 => ?_)
            · obtain ⟨e1, e2, e3, e4, e5, e6⟩ : (j_rdD f len (j_rdP f len 5 (-1) (j_M r) q.toNat).1 (-1) (j_M r)).2.1 = -1 ∧ x = -1 ∧ Va a 22 = (j_rdD f len (j_rdP f len 5 (-1) (j_M r) q.toNat).1 (-1) (j_M r)).1 ∧ 0 ≤ Va a 22 ∧ Va a 22 ≤ len ∧ ∀ s : Int, 0 ≤ s → s < 256 → Va (a + 21) (256 * q + s) = (j_rdD f len (j_rdP f len 5 (-1) (j_M r) q.toNat).1 (-1) (j_M r)).2.2.2.2 (s + 1) := by
                rcases hx with ⟨z1, z2⟩ | z
                · omega
                · exact z
              refine t13_38_240 h (by omega) (kk _ ⟨(by omega), (by omega), Ua, fun j hj => by rw [Faa j hj]; exact d1 j hj, by rw [es]; exact e3, by rw [es]; exact e1, e4, e5, fun y j z0 z1 j0 j1 => ?_, fun i i0 i1 => ?_⟩)
              · rw [es]
                show _ = (if y = q then fun j => j_pre (j_rdD f len (j_rdP f len 5 (-1) (j_M r) q.toNat).1 (-1) (j_M r)).2.2.2.2 (j + 1) else (j_rdP f len 5 (-1) (j_M r) q.toNat).2.2 y) j
                by_cases ey : y = q
                · rw [if_pos ey, ey]
                  have G := j_rdL_G (f := f) (len := len) (w := (j_rd f len (j_rdP f len 5 (-1) (j_M r) q.toNat).1 (-1) 2 1 256).1) (p := (j_rd f len (j_rdP f len 5 (-1) (j_M r) q.toNat).1 (-1) 2 1 256).2.1) (wr := (j_rd f len (j_rdP f len 5 (-1) (j_M r) q.toNat).1 (-1) 2 1 256).2.2) (M := j_M r) b0 hb (fun _ => j_rd_al (by omega) (by rw [← d2]; exact d4) (by rw [← d2]; exact d5)) (by omega) (by omega) (j_rd f len (j_rdP f len 5 (-1) (j_M r) q.toNat).1 (-1) 2 1 256).1.toNat
                  have hneg : (j_rdD f len (j_rdP f len 5 (-1) (j_M r) q.toNat).1 (-1) (j_M r)).2.1 < 0 := by rw [e1]; decide
                  have G0 : (j_rdD f len (j_rdP f len 5 (-1) (j_M r) q.toNat).1 (-1) (j_M r)).2.2.2.2 0 = 0 := (G hneg).2.1
                  have p1 := j_pre_1 (j_rdD f len (j_rdP f len 5 (-1) (j_M r) q.toNat).1 (-1) (j_M r)).2.2.2.2 j.toNat
                  rw [show ((j.toNat : Nat) : Int) = j by omega, G0] at p1
                  show j_pre (j_rs (Va (a + 21)) (256 * q)) j = j_pre _ (j + 1)
                  rw [p1, j_pre_congr (f := j_rs (Va (a + 21)) (256 * q)) (g := fun s => (j_rdD f len (j_rdP f len 5 (-1) (j_M r) q.toNat).1 (-1) (j_M r)).2.2.2.2 (s + 1)) (fun s s0 s1 => e6 s s0 (by omega))]
                  omega
                · rw [if_neg ey, ← d6 y j z0 (by omega) j0 j1]
                  exact j_pre_congr (fun s s0 s1 => by show Va (a + 21) (256 * y + s) = V9 (a + 21) (256 * y + s); exact Fao _ (by omega))
              · rw [Fao i (by omega)]; exact d7 i (by omega) i1
            · have ex : 0 ≤ (j_rdD f len (j_rdP f len 5 (-1) (j_M r) q.toNat).1 (-1) (j_M r)).2.1 ∧ x = (j_rdD f len (j_rdP f len 5 (-1) (j_M r) q.toNat).1 (-1) (j_M r)).2.1 := by
                rcases hx with z | ⟨_, z, _⟩
                · exact z
                · omega
              have eq1 : (j_rdP f len 5 (-1) (j_M r) (q + 1).toNat).2.1 = x := by rw [es]; exact ex.2.symm
              have eP2 : (j_hP f len).2.1 = x := by
                rw [eP]
                have st := j_rdP_stay (f := f) (len := len) (p := 5) (wr := -1) (M := j_M r) (n := (q + 1).toNat) (by rw [eq1]; omega) ((j_parts k).toNat - (q + 1).toNat)
                rw [show (q + 1).toNat + ((j_parts k).toNat - (q + 1).toNat) = (j_parts k).toNat by omega] at st
                rw [st]; exact eq1
              exact t13_38_238 h R ⟨rfl, late Ua (j_hC_oP eP2 q5) q5⟩ (Nat.le_refl _) (Nat.le_refl _)
          unfold j_parts at hq
          refine t13_38_192 h ht (fun z => ?_) (fun z => t13_38_201 h (t13_38_225 h (fun y => absurd y (by rw [y9] at z; rw [if_pos z] at hq; omega)) (fun _ => body)))
          rw [y9] at z
          have one : j_ok n_KT 4 C G 220 [(0, (2, a)), (2, (0, q))] [(0, q)] S8 V9 0 0 := t13_38_220 h (t13_38_225 h (fun y => absurd y (by rw [if_neg z] at hq; omega)) (fun _ => body))
          exact t13_38_205 h ht (fun _ => one) (fun y => t13_38_212 h ht (fun w => absurd td (by rw [y9] at w y; change ¬ (k = 0 ∨ k = 2 ∨ k = 3); omega)) (fun _ => one))
        · obtain ⟨q0, q1', U9, d1, d2, d3, d4, d5, d6, d7⟩ := hI
          have eq : q = j_parts k := by omega
          rw [eq] at d2 d3 d6
          have y9 : V9 a 9 = k := by rw [d1 9 (by decide)]; exact z9
          have fin : j_ok n_KT 4 C G 246 [(0, (2, a))] [] S8 V9 0 0 := tail V9 U9 y9 (by rw [d1 10 (by decide)]; exact z10) (by rw [d1 23 (by decide)]; exact z23) (by rw [d1 24 (by decide)]; exact v24) (by rw [eP]; exact d2) (by rw [eP]; exact d3) d4 d5 (fun x j z0 z1 j0 j1 => by rw [eP]; exact d6 x j z0 z1 j0 j1)
          unfold j_parts at eq
          refine t13_38_192 h ht (fun z => ?_) (fun z => t13_38_201 h (t13_38_225 h (fun _ => fin) (fun y => absurd y (by rw [y9] at z; rw [if_pos z] at eq; omega))))
          rw [y9] at z
          have one : j_ok n_KT 4 C G 220 [(0, (2, a)), (2, (0, q))] [(0, q)] S8 V9 0 0 := t13_38_220 h (t13_38_225 h (fun _ => fin) (fun y => absurd y (by rw [if_neg z] at eq; omega)))
          exact t13_38_205 h ht (fun _ => one) (fun y => t13_38_212 h ht (fun w => absurd td (by rw [y9] at w y; change ¬ (k = 0 ∨ k = 2 ∨ k = 3); omega)) (fun _ => one))
      refine pl 0 W ⟨(by omega), (by omega), WF, fun j _ => wa j, ?_, rfl, by rw [wa, gc]; omega, by rw [wa, gc]; exact ga, fun x j z0 z1 => absurd z1 (by omega), fun i i0 i1 => ?_⟩
      · rw [wa, gc]; rfl
      · rw [wd i (by omega) i1, if_neg (by change k = 0 ∨ k = 2 ∨ k = 3 at td; omega)]
    · have eP : j_hP f len = (5, -1, fun _ => j_start k r) := by unfold j_hP; rw [H1, H2, H4, if_neg td]
      have kk : k = 1 ∨ k = 4 := by change ¬ (k = 0 ∨ k = 2 ∨ k = 3) at td; omega
      have w9 : W a 9 = k := by rw [wa]; exact z9
      have fin : j_ok n_KT 4 C G 246 [(0, (2, a))] [] S8 W 0 0 := tail W WF w9 (by rw [wa]; exact z10) (by rw [wa]; exact z23) (by rw [wa]; exact v24) (by rw [eP, wa]; exact gc) (by rw [eP]) (by rw [wa, gc]; omega) (by rw [wa, gc]; exact ga) (fun q x z0 z1 x0 x1 => by
        rw [eP]
        show j_pre (j_rs (W (a + 21)) (256 * q)) x = j_start k r x
        have := j_flat_pre (D := j_rs (W (a + 21)) (256 * q)) (e := j_M r / 256) x.toNat (fun s s0 s1 => by show W (a + 21) (256 * q + s) = _; rw [wd _ (by omega) (by omega), if_pos kk])
        rw [show ((x.toNat : Nat) : Int) = x by omega] at this
        rw [this]; unfold j_start; rw [if_pos kk])
      refine t13_38_192 h ht (fun z => t13_38_205 h ht (fun y => absurd y (by rw [w9]; omega)) (fun y => t13_38_212 h ht (fun w => t13_38_224 h (t13_38_225 h (fun _ => fin) (fun x => absurd x (by decide)))) (fun w => absurd w (by rw [w9]; omega)))) (fun z => absurd z (by rw [w9]; omega))
  have init : ∀ (i : Int) (V9 : jH), (0 ≤ i ∧ i ≤ 1024 ∧ (∀ c : Int, c ≠ a + 21 → V9 c = V8 c) ∧ ∀ x : Int, 0 ≤ x → x < i → V9 (a + 21) x = if k = 1 ∨ k = 4 then j_M r / 256 else 0) → j_ok n_KT 4 C G 143 [(0, (2, a)), (2, (0, i))] [] S8 V9 0 0 := by
    refine j_loop (N := 1024) (fun i V9 hi hI kk => ?_) (fun i V9 hi hI => ?_)
    · obtain ⟨i0, i1, d1, d2⟩ := hI
      have y9 : V9 a 9 = k := by rw [d1 a (by omega)]; exact z9
      have y10 : V9 a 10 = j_M r := by rw [d1 a (by omega)]; exact z10
      refine t13_38_143 h (fun z => absurd z (by omega)) (fun _ => ?_)
      have st : ∀ y : Int, (y = if k = 1 ∨ k = 4 then j_M r / 256 else 0) → j_ok n_KT 4 C G 183 [(0, (2, a)), (2, (0, i))] [(0, y), (0, i), (2, a + 21)] S8 V9 0 0 := fun y ey => by
        refine t13_38_183 (n_s2 := 1024) h (j_arr_of k21 (by decide) rfl) i0 hi (by omega) (kk _ ⟨(by omega), (by omega), fun c hc => by rw [j_up_ne hc]; exact d1 c hc, fun x x0 x1 => ?_⟩)
        by_cases e : x = i
        · rw [e, j_up_at]; exact ey
        · rw [j_up_off e]; exact d2 x x0 (by omega)
      have flat : (k = 1 ∨ k = 4) → j_ok n_KT 4 C G 171 [(0, (2, a)), (2, (0, i))] [(0, i), (2, a + 21)] S8 V9 0 0 := fun z => t13_38_171 h ht (by rw [y10]; omega) (st _ (by rw [y10, if_pos z]))
      exact t13_38_150 h L ht (fun z => flat (Or.inl (by rw [y9] at z; exact z))) (fun z => t13_38_163 h ht (fun z2 => t13_38_182 h (st 0 (by rw [y9] at z z2; rw [if_neg (by omega)]))) (fun z2 => flat (Or.inr (by rw [y9] at z2; exact z2))))
    · obtain ⟨i0, i1, d1, d2⟩ := hI
      have ei : i = 1024 := by omega
      rw [ei] at d2
      exact t13_38_143 h (fun _ => deals V9 ⟨fun c c0 c1 => by rw [d1 c c1]; exact W8.1 c c0 c1, fun j z0 z1 z2 z3 z4 z5 z6 z7 => by rw [d1 a (by omega)]; exact W8.2 j z0 z1 z2 z3 z4 z5 z6 z7⟩ (fun j => by rw [d1 a (by omega)]) d2) (fun z => absurd z (by omega))
  exact init 0 V8 ⟨(by omega), (by omega), fun _ _ => rfl, fun x x0 x1 => absurd x1 (by omega)⟩
