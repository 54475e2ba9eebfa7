/-! THE CLASS: the first wrong place of a block -/
theorem j_start_dl {k r : Int} (h0 : 8 ≤ r) (h1 : r ≤ 12) (hk : k = 1 ∨ k = 4) : j_dl (j_start k r) 0 (j_M r) := by
  have m := j_M_256 h0 h1
  have e : ∀ j : Int, j_start k r j = j * (j_M r / 256) := fun j => by unfold j_start; rw [if_pos hk]
  refine ⟨by rw [e]; omega, by rw [e]; exact m.1, fun s s0 s1 => ?_⟩
  show 0 ≤ j_start k r (s + 1) - j_start k r s
  rw [e, e, Int.add_mul]
  omega
def j_takes (V : jH) (e b la st many n : Int) : Prop := ∃ (X : Int → Int) (w : Int → Int), j_TK V e b la st many n.toNat = some (X, 0, w) ∧ ∀ y : Int, 0 ≤ y → y < la → X y = j_M (V (e + 1) 2)
/-- the bench ahead of taking signs -/
def j_before (V V1 : jH) (b e : Int) : Prop := V1 (e + 1) 1 = (j_h1 (V (b + 1)) (V b 1)).1 ∧ V1 (e + 1) 2 = (j_h2 (V (b + 1)) (V b 1)).1 ∧ (∀ p j : Int, 0 ≤ p → p < 4 → 0 ≤ j → j ≤ 256 → V1 (e + 1 + 3 + 2 * p) j = (j_hP (V (b + 1)) (V b 1)).2.2 p j) ∧ (∀ y : Int, 0 ≤ y → y < (j_h3 (V (b + 1)) (V b 1)).1 → V1 (e + 20) y = (j_hX (V (b + 1)) (V b 1)).1 y) ∧ V1 b = V b ∧ V1 (b + 1) = V (b + 1)
theorem m7_2 (l : Launch) : M7_2 l 0 0 (fun a b e S V => j_L S ∧ S.1 b = 22 ∧ S.1 e = 21 ∧ j_blkOK V b)
    (fun a b e S V r S' V' => S' = S ∧ (∀ c : Int, c ≠ a → (c < e ∨ e + 21 < c) → V' c = V c) ∧
      ((0 ≤ (j_h4 (V (b + 1)) (V b 1)).2.2 ∧ r = (j_h4 (V (b + 1)) (V b 1)).2.2) ∨ ((j_h4 (V (b + 1)) (V b 1)).2.2 < 0 ∧ 0 ≤ (j_hC (V (b + 1)) (V b 1)).2 ∧ r = (j_hC (V (b + 1)) (V b 1)).2) ∨
      ((j_h4 (V (b + 1)) (V b 1)).2.2 < 0 ∧ (j_hC (V (b + 1)) (V b 1)).2 < 0 ∧ ∃ V1 : jH, j_before V V1 b e ∧
        ((r < 0 ∧ j_takes V1 e b (j_h3 (V (b + 1)) (V b 1)).1 (j_hS (V (b + 1)) (V b 1)).2.1 (j_hS (V (b + 1)) (V b 1)).1 (j_h4 (V (b + 1)) (V b 1)).1 ∧ j_tkI V1 e b (j_h3 (V (b + 1)) (V b 1)).1 (j_hS (V (b + 1)) (V b 1)).2.1 (j_hS (V (b + 1)) (V b 1)).1 (j_h4 (V (b + 1)) (V b 1)).1 V' ∧ V' (e + 14) 5 = (j_h4 (V (b + 1)) (V b 1)).1 ∧ V' (e + 1) = V1 (e + 1)) ∨
         (¬ j_takes V1 e b (j_h3 (V (b + 1)) (V b 1)).1 (j_hS (V (b + 1)) (V b 1)).2.1 (j_hS (V (b + 1)) (V b 1)).1 (j_h4 (V (b + 1)) (V b 1)).1 ∧ r = (j_hP (V (b + 1)) (V b 1)).1))))) := by
  refine e7_2 ?_
  rintro C G h hrm hcs hl hn a b e S V ha ⟨L, hb, he, hk⟩ R
  have kb1 := L1_0k L hb
  have kt : S.1 (e + 1) = 29 := L0_0k L he
  have k20 := L0_3k L he
  have ne : ∀ {c : Int} {k : Nat}, S.1 c = k → k ≠ 22 → k ≠ 6 → b ≠ c ∧ b + 1 ≠ c := fun {c k} hc h1 h2 => ⟨fun z => h1 (by rw [← hc, ← z, hb]), fun z => h2 (by rw [← hc, ← z, kb1])⟩
  have na := ne ha (by decide) (by decide)
  have nt := ne kt (by decide) (by decide)
  have n20 := ne k20 (by decide) (by decide)
  have kd : ∀ p : Int, 0 ≤ p → p < 4 → S.1 (e + 1 + 3 + 2 * p) = 2 := fun p p0 p1 => by
    have := L2_0k L (LDealAk L (i := p) (L8_0k L kt) p0 p1)
    rw [show e + 1 + 1 + 1 + 2 * p + 1 = e + 1 + 3 + 2 * p by omega] at this
    exact this
  have nd : ∀ p : Int, 0 ≤ p → p < 4 → b ≠ e + 1 + 3 + 2 * p ∧ b + 1 ≠ e + 1 + 3 + 2 * p := fun p p0 p1 => ne (kd p p0 p1) (by decide) (by decide)
  have at1 : a ≠ e + 1 := fun z => by rw [← z, ha] at kt; exact absurd kt (by decide)
  have a20 : a ≠ e + 20 := fun z => by rw [← z, ha] at k20; exact absurd k20 (by decide)
  have adl : ∀ p : Int, 0 ≤ p → p < 4 → a ≠ e + 1 + 3 + 2 * p := fun p p0 p1 z => by have := kd p p0 p1; rw [← z, ha] at this; exact absurd this (by decide)
  generalize ef : V (b + 1) = f at *
  generalize el : V b 1 = len at *
  obtain ⟨hl0, hl1, hf⟩ : 0 ≤ len ∧ len ≤ 4400 ∧ ∀ i : Int, 0 ≤ i → i < len → 0 ≤ f i ∧ f i ≤ 255 := by
    obtain ⟨z1, z2, z3⟩ := hk
    rw [el] at z1 z2 z3
    rw [ef] at z3
    exact ⟨z1, z2, z3⟩
  have hk' : ∀ {V2 : jH}, V2 b = V b → V2 (b + 1) = f → j_blkOK V2 b := fun {V2} z1 z2 => ⟨by rw [z1, el]; exact hl0, by rw [z1, el]; exact hl1, by rw [z1, z2, el]; exact hf⟩
  have f0 : j_up (j_up V a 0 0) a 1 (-1) b = V b := by rw [j_up_ne na.1, j_up_ne na.1]
  have f0' : j_up (j_up V a 0 0) a 1 (-1) (b + 1) = f := by rw [j_up_ne na.2, j_up_ne na.2, ef]
  have p0 : j_up (j_up V a 0 0) a 1 (-1) a 0 = 0 := by rw [j_up_off (by decide), j_up_at]
  have p0' : j_up (j_up V a 0 0) a 1 (-1) a 1 = -1 := j_up_at _ _ _ _
  refine t7_2_0 h hrm ha (m7_3 C.2.1) ⟨L, hb, hk' f0 f0', by omega, by omega, fun _ => by rw [p0, f0, el]; omega⟩ (Nat.zero_le _) (Nat.zero_le _) ?_
  rintro k S1 V1 ⟨e0, x1, y1⟩
  subst e0
  rw [f0, f0', p0, p0', el] at x1
  have x1 : (k, V1 a 0, V1 a 1) = j_h1 f len := x1
  have al1 : 0 ≤ V1 a 0 ∧ V1 a 0 ≤ len := by have := j_rd_al (f := f) (len := len) (p := 0) (wr := -1) (size := 1) (least := 0) (most := 4) (by omega) (by omega) hl0; change 0 ≤ (j_h1 f len).2.1 ∧ (j_h1 f len).2.1 ≤ len at this; rw [← x1] at this; exact this
  have g1 : V1 b = V b := (y1 b na.1).trans f0
  have g1' : V1 (b + 1) = f := (y1 _ na.2).trans f0'
  refine t7_2_18 h hrm ha (m7_3 C.2.1) ⟨L, hb, hk' g1 g1', by omega, by omega, fun _ => by rw [g1, el]; exact al1⟩ (Nat.zero_le _) (Nat.zero_le _) ?_
  rintro r S2 V2 ⟨e0, x2, y2⟩
  subst e0
  rw [g1, g1', el] at x2
  have x2 : (r, V2 a 0, V2 a 1) = j_h2 f len := by unfold j_h2; rw [← x1]; exact x2
  have al2 : 0 ≤ V2 a 0 ∧ V2 a 0 ≤ len := by have := j_rd_al (f := f) (len := len) (p := V1 a 0) (wr := V1 a 1) (size := 1) (least := 8) (most := 12) (by omega) al1.1 al1.2; have z : j_rd f len (V1 a 0) (V1 a 1) 1 8 12 = j_h2 f len := by { unfold j_h2; rw [← x1] }; rw [z, ← x2] at this; exact this
  have g2 : V2 b = V b := (y2 b na.1).trans g1
  have g2' : V2 (b + 1) = f := (y2 _ na.2).trans g1'
  refine t7_2_29 h hrm ha (m7_3 C.2.1) ⟨L, hb, hk' g2 g2', by omega, by omega, fun _ => by rw [g2, el]; exact al2⟩ (Nat.zero_le _) (Nat.zero_le _) ?_
  rintro la S3 V3 ⟨e0, x3, y3⟩
  subst e0
  rw [g2, g2', el] at x3
  have x3 : (la, V3 a 0, V3 a 1) = j_h3 f len := by unfold j_h3; rw [← x2]; exact x3
  have al3 : 0 ≤ V3 a 0 ∧ V3 a 0 ≤ len := by have := j_rd_al (f := f) (len := len) (p := V2 a 0) (wr := V2 a 1) (size := 1) (least := 1) (most := 4) (by omega) al2.1 al2.2; have z : j_rd f len (V2 a 0) (V2 a 1) 1 1 4 = j_h3 f len := by { unfold j_h3; rw [← x2] }; rw [z, ← x3] at this; exact this
  have g3 : V3 b = V b := (y3 b na.1).trans g2
  have g3' : V3 (b + 1) = f := (y3 _ na.2).trans g2'
  refine t7_2_39 h hrm ha (m7_3 C.2.1) ⟨L, hb, hk' g3 g3', by omega, by omega, fun _ => by rw [g3, el]; exact al3⟩ (Nat.zero_le _) (Nat.zero_le _) ?_
  rintro n S4 V4 ⟨e0, x4, y4⟩
  subst e0
  rw [g3, g3', el] at x4
  have x4 : (n, V4 a 0, V4 a 1) = j_h4 f len := by unfold j_h4; rw [← x3]; exact x4
  have z4 : j_rd f len (V3 a 0) (V3 a 1) 2 0 400 = j_h4 f len := by unfold j_h4; rw [← x3]
  have al4 : 0 ≤ V4 a 0 ∧ V4 a 0 ≤ len := by have := j_rd_al (f := f) (len := len) (p := V3 a 0) (wr := V3 a 1) (size := 2) (least := 0) (most := 400) (by omega) al3.1 al3.2; rw [z4, ← x4] at this; exact this
  have g4 : V4 b = V b := (y4 b na.1).trans g3
  have g4' : V4 (b + 1) = f := (y4 _ na.2).trans g3'
  have fr4 : ∀ c : Int, c ≠ a → V4 c = V c := fun c hc => by rw [y4 c hc, y3 c hc, y2 c hc, y1 c hc, j_up_ne hc, j_up_ne hc]
  refine t7_2_51 h ha (fun q => ?_) (fun q => ?_)
  rotate_left
  · refine t7_2_60 h ha R ⟨rfl, fun c c0 _ => fr4 c c0, Or.inl ?_⟩ (Nat.le_refl _) (Nat.le_refl _)
    rw [← x4]
    exact ⟨q, rfl⟩
  · -- the head is right
    have ok4 := j_rd_ok (f := f) (len := len) (p := V3 a 0) (wr := V3 a 1) (size := 2) (least := 0) (most := 400) hl0 (fun _ => al3) (by rw [z4, ← x4]; exact q)
    have hn : 0 ≤ n ∧ n ≤ 400 := by have := ok4.2.2; rw [z4, ← x4] at this; have t := congrArg Prod.fst this.1; change n = _ at t; omega
    have z3 : j_rd f len (V2 a 0) (V2 a 1) 1 1 4 = j_h3 f len := by unfold j_h3; rw [← x2]
    have ok3 := j_rd_ok (f := f) (len := len) (p := V2 a 0) (wr := V2 a 1) (size := 1) (least := 1) (most := 4) hl0 (fun _ => al2) (by rw [z3, ← x3]; exact ok4.1)
    have hla : 1 ≤ la ∧ la ≤ 4 := by have := ok3.2.2; rw [z3, ← x3] at this; have t := congrArg Prod.fst this.1; change la = _ at t; omega
    have z2 : j_rd f len (V1 a 0) (V1 a 1) 1 8 12 = j_h2 f len := by unfold j_h2; rw [← x1]
    have ok2 := j_rd_ok (f := f) (len := len) (p := V1 a 0) (wr := V1 a 1) (size := 1) (least := 8) (most := 12) hl0 (fun _ => al1) (by rw [z2, ← x2]; exact ok3.1)
    have hr : 8 ≤ r ∧ r ≤ 12 := by have := ok2.2.2; rw [z2, ← x2] at this; have t := congrArg Prod.fst this.1; change r = _ at t; omega
    have ok1 := j_rd_ok (f := f) (len := len) (p := 0) (wr := -1) (size := 1) (least := 0) (most := 4) hl0 (fun _ => ⟨by omega, hl0⟩) (by show (j_h1 f len).2.2 < 0; rw [← x1]; exact ok2.1)
    have hkd : 0 ≤ k ∧ k ≤ 4 := by have := ok1.2.2; have u := this.1; change j_h1 f len = _ at u; rw [← x1] at u; have t := congrArg Prod.fst u; change k = _ at t; omega
    have hM := j_M_bd hr.1 hr.2
    refine t7_2_65 h L hrm he (m10_2 C.2.1) ⟨L, hr.1, hr.2⟩ (Nat.zero_le _) (Nat.zero_le _) ?_
    rintro S5 V5 ⟨e0, b1, b2, b3, b4⟩
    subst e0
    have g5 : V5 b = V b := (b4 b nt.1 (fun p p0 p1 => (nd p p0 p1).1)).trans g4
    have g5' : V5 (b + 1) = f := (b4 _ nt.2 (fun p p0 p1 => (nd p p0 p1).2)).trans g4'
    have a5 : V5 a = V4 a := b4 a at1 adl
    -- from the states on
    have tail : ∀ V6 : jH, V6 a 0 = (j_hP f len).1 → V6 a 1 = (j_hP f len).2.1 → (∀ p j : Int, 0 ≤ p → p < 4 → 0 ≤ j → j ≤ 256 → V6 (e + 1 + 3 + 2 * p) j = (j_hP f len).2.2 p j) → V6 (e + 1) = V5 (e + 1) → V6 b = V b → V6 (b + 1) = f → (∀ c : Int, c ≠ a → (c < e ∨ e + 21 < c) → V6 c = V c) →
        j_ok n_KT 10 C G 94 [(0, (2, a)), (1, (2, b)), (2, (2, e)), (5, (0, la)), (6, (0, n))] [] S5 V6 0 0 := by
      intro V6 c1 c2 c3 c4 c5 c6 c7
      have aP : 0 ≤ (j_hP f len).1 ∧ (j_hP f len).1 ≤ len := by
        unfold j_hP
        split
        · exact j_rdP_al (by rw [← x4]; exact al4.1) (by rw [← x4]; exact al4.2) _
        · show 0 ≤ (j_h4 f len).2.1 ∧ (j_h4 f len).2.1 ≤ len
          rw [← x4]; exact al4
      have r6 : V6 (e + 1) 2 = r := by rw [c4]; exact b2
      refine t7_2_94 h hrm ha (m7_6 C.2.1) ⟨L, hb, he, hk' c5 c6, by omega, hla.2, by rw [r6]; exact hr.1, by rw [r6]; exact hr.2, fun _ => by rw [c1, c5, el]; exact aP⟩ (Nat.zero_le _) (Nat.zero_le _) ?_
      rintro S6 V7 ⟨e0, d1, d2, d3⟩
      subst e0
      rw [c6, c5, el, r6, c1, c2] at d1 d2
      have eX : j_rdX f len (j_M r) (j_hP f len).1 (j_hP f len).2.1 la.toNat = j_hX f len := by unfold j_hX; rw [← x2, ← x3]
      rw [eX] at d1 d2
      have aX : 0 ≤ V7 a 0 ∧ V7 a 0 ≤ len := by have := j_rdX_al (f := f) (len := len) (M := j_M r) (p := (j_hP f len).1) (wr := (j_hP f len).2.1) aP.1 aP.2 la.toNat; rw [eX, ← d1] at this; exact this
      have g7 : V7 b = V b := (d3 b na.1 n20.1).trans c5
      have g7' : V7 (b + 1) = f := (d3 _ na.2 n20.2).trans c6
      refine t7_2_108 h hrm ha (m7_7 C.2.1) ⟨L, hb, hk' g7 g7', fun _ => by rw [g7, el]; exact aX⟩ (Nat.zero_le _) (Nat.zero_le _) ?_
      rintro many S7 V8 ⟨e0, m1, m2⟩
      subst e0
      rw [g7, g7', el] at m1
      have eS : (many, V8 a 0, V8 a 1) = j_hS f len := by unfold j_hS; rw [← d1]; exact m1
      have aS := j_rdS_al (f := f) (len := len) (p := V7 a 0) (wr := V7 a 1) hl0 aX.1 aX.2
      rw [← m1] at aS
      dsimp only at aS
      have g8 : V8 b = V b := (m2 b na.1).trans g7
      have g8' : V8 (b + 1) = f := (m2 _ na.2).trans g7'
      refine t7_2_113 h hrm ha (by omega) (m7_8 C.2.1) ⟨L, hb, hk' g8 g8', fun q => by rw [g8, el]; have := (aS.2.2.2.2 q).2; omega⟩ (Nat.zero_le _) (Nat.zero_le _) ?_
      rintro S8 V9 ⟨e0, o1, o2⟩
      subst e0
      rw [g8, g8', el] at o1
      have eC : (V9 a 0, V9 a 1) = j_hC f len := by unfold j_hC; rw [← eS]; exact o1
      have fr9 : ∀ c : Int, c ≠ a → (c < e ∨ e + 21 < c) → V9 c = V c := fun c c0 cc => by rw [o2 c c0, m2 c c0, d3 c c0 (by omega)]; exact c7 c c0 cc
      have g9 : V9 b = V b := (o2 b na.1).trans g8
      have g9' : V9 (b + 1) = f := (o2 _ na.2).trans g8'
      have q4 : (j_h4 f len).2.2 < 0 := by rw [← x4]; exact q
      refine t7_2_131 h ha (fun q2 => ?_) (fun q2 => ?_)
      · refine t7_2_160 h ha R ⟨rfl, fr9, Or.inr (Or.inl ⟨q4, ?_⟩)⟩ (Nat.le_refl _) (Nat.le_refl _)
        rw [← eC]
        exact ⟨q2, rfl⟩
      · have w8 : V8 a 1 < 0 := by
          unfold j_rdC at o1
          by_cases c : 0 ≤ V8 a 1
          · rw [if_pos c] at o1
            have := congrArg Prod.snd o1
            change V9 a 1 = V8 a 1 at this
            omega
          · omega
        have w7 := (aS.2.2.2.2 w8).1
        have okX := j_rdX_ok (f := f) (len := len) (M := j_M r) (p := (j_hP f len).1) (wr := (j_hP f len).2.1) hl0 aP.1 aP.2 la.toNat (by rw [eX, ← d1]; exact w7)
        rw [eX] at okX
        have t9 : V9 (e + 1) = V5 (e + 1) := by rw [o2 _ (fun z => at1 z.symm), m2 _ (fun z => at1 z.symm), d3 _ (fun z => at1 z.symm) (by omega)]; exact c4
        have k9 : V9 (e + 1) 1 = k := by rw [t9]; exact b1
        have r9 : V9 (e + 1) 2 = r := by rw [t9]; exact b2
        have s9 : V9 (e + 20) = V7 (e + 20) := by rw [o2 _ (fun z => a20 z.symm), m2 _ (fun z => a20 z.symm)]
        have d9 : ∀ p j : Int, 0 ≤ p → p < 4 → 0 ≤ j → j ≤ 256 → V9 (e + 1 + 3 + 2 * p) j = (j_hP f len).2.2 p j := fun p j p0 p1 j0 j1 => by
          rw [o2 _ (fun z => adl p p0 p1 z.symm), m2 _ (fun z => adl p p0 p1 z.symm), d3 _ (fun z => adl p p0 p1 z.symm) (by omega)]; exact c3 p j p0 p1 j0 j1
        have bef : j_before V V9 b e := by
          unfold j_before
          rw [ef, el, ← x1, ← x2, ← x3]
          exact ⟨k9, r9, d9, fun y y0 y1 => by rw [s9]; exact d2 y y0 y1, g9, g9'⟩
        have hdl : ∀ p : Int, 0 ≤ p → p < j_parts k → j_dl (V9 (e + 1 + 3 + 2 * p)) 0 (j_M r) := fun p p0 p1 => by
          have pp : j_parts k ≤ 4 := by unfold j_parts; split <;> omega
          refine j_dl_congr (b := (j_hP f len).2.2 p) (fun j j0 j1 => d9 p j p0 (by omega) j0 j1) ?_
          have wP := okX.1
          unfold j_hP at wP ⊢
          by_cases td : j_isTold (j_h1 f len).1
          · rw [if_pos td] at wP ⊢
            rw [← x1, ← x2] at wP ⊢
            dsimp only at wP ⊢
            exact (j_rdP_dl hl0 hf (by rw [← x4]; exact al4.1) (by rw [← x4]; exact al4.2) (by omega) (by omega) _ wP).2 p p0 (by omega)
          · rw [if_neg td]
            rw [← x1, ← x2]
            rw [← x1] at td
            refine j_start_dl hr.1 hr.2 ?_
            change ¬ (k = 0 ∨ k = 2 ∨ k = 3) at td
            show k = 1 ∨ k = 4
            omega
        refine t7_2_138 h hrm he (m2_7 C.2.1) ⟨L, hb, hk' g9 g9', hn.1, hn.2, hla.1, hla.2, by omega, by omega, by omega, by omega, ⟨by rw [r9]; exact hr.1, by rw [r9]; exact hr.2, by rw [k9, r9]; exact hdl⟩, fun y y0 y1 => ?_⟩ (Nat.zero_le _) (Nat.zero_le _) ?_
        · rw [r9, s9, d2 y y0 y1]
          exact okX.2 y y0 (by omega)
        · rintro rt S9 Va ⟨e0, u1, u2, u3⟩
          subst e0
          have fra : ∀ c : Int, c ≠ a → (c < e ∨ e + 21 < c) → Va c = V c := fun c c0 cc => by rw [u1 c (by omega) (by omega) (by omega) (by omega) (by omega) (by omega) (by omega) (by omega) (by omega) (by omega)]; exact fr9 c c0 cc
          have aa : Va a = V9 a := u1 a (fun z => by rw [← z, ha] at he; exact absurd he (by decide)) (fun z => by have := L0_1k L he; rw [← z, ha] at this; exact absurd this (by decide)) (fun z => by have := L2_0k L (L4_0k L (L0_1k L he)); rw [show e + 11 + 1 + 1 = e + 13 by omega, ← z, ha] at this; exact absurd this (by decide)) (fun z => by have := L0_2k L he; rw [← z, ha] at this; exact absurd this (by decide)) (fun z => by have := L7_0k L (L0_2k L he); rw [show e + 14 + 1 = e + 15 by omega, ← z, ha] at this; exact absurd this (by decide)) (fun z => by have := L7_1k L (L0_2k L he); rw [show e + 14 + 2 = e + 16 by omega, ← z, ha] at this; exact absurd this (by decide)) (fun z => by have := L7_2k L (L0_2k L he); rw [show e + 14 + 3 = e + 17 by omega, ← z, ha] at this; exact absurd this (by decide)) (fun z => by have := L7_3k L (L0_2k L he); rw [show e + 14 + 4 = e + 18 by omega, ← z, ha] at this; exact absurd this (by decide)) (fun z => by have := L7_4k L (L0_2k L he); rw [show e + 14 + 5 = e + 19 by omega, ← z, ha] at this; exact absurd this (by decide)) a20
          have et : Va (e + 1) = V9 (e + 1) := u1 _ (by omega) (by omega) (by omega) (by omega) (by omega) (by omega) (by omega) (by omega) (by omega) (by omega)
          have qC : (j_hC f len).2 < 0 := by rw [← eC]; exact q2
          refine t7_2_151 h (fun q3 => ?_) (fun q3 => ?_)
          · refine t7_2_160 h ha R ⟨rfl, fra, Or.inr (Or.inr ⟨q4, qC, V9, bef, Or.inl ?_⟩)⟩ (Nat.le_refl _) (Nat.le_refl _)
            rcases u2 with ⟨v1, v2⟩ | ⟨v1, v2⟩
            · have u3 := u3 v1
              rw [← x3, ← x4, ← eS]
              exact ⟨by rw [aa]; exact q2, v2, u3.1, u3.2.1, et⟩
            · exact absurd v1 q3
          · refine t7_2_154 h ha (t7_2_160 h ha R ⟨rfl, fun c c0 cc => by rw [j_up_ne c0]; exact fra c c0 cc, Or.inr (Or.inr ⟨q4, qC, V9, bef, Or.inr ?_⟩)⟩ (Nat.le_refl _) (Nat.le_refl _))
            rcases u2 with ⟨v1, v2⟩ | ⟨v1, v2⟩
            · omega
            · rw [← x3, ← x4, ← eS]
              refine ⟨v2, ?_⟩
              rw [j_up_at]
              exact c1
    refine t7_2_75 h L hrm he (m10_10 C.2.1) trivial (Nat.zero_le _) (Nat.zero_le _) ?_
    rintro rt S6 V6 ⟨e0, e6, hrt⟩
    subst e0
    subst e6
    rw [b1] at hrt
    have fr5 : ∀ c : Int, c ≠ a → (c < e ∨ e + 21 < c) → V6 c = V c := fun c c0 cc => (b4 c (by omega) (fun p p0 p1 => by omega)).trans (fr4 c c0)
    have eM : j_hP f len = if j_isTold k then j_rdP f len (V4 a 0) (V4 a 1) (j_M r) (j_parts k).toNat else (V4 a 0, V4 a 1, fun _ => j_start k r) := by
      unfold j_hP; rw [← x1, ← x2, ← x4]
    refine t7_2_82 h (fun q2 => ?_) (fun q2 => ?_)
    · have td : ¬ j_isTold k := by
        rcases hrt with ⟨v1, _⟩ | ⟨_, v2⟩
        · omega
        · exact v2
      rw [if_neg td] at eM
      refine tail V6 (by rw [eM, a5]) (by rw [eM, a5]) (fun p j p0 p1 j0 j1 => ?_) rfl g5 g5' fr5
      rw [eM]
      exact b3 p j p0 p1 j0 j1
    · have td : j_isTold k := by
        rcases hrt with ⟨_, v2⟩ | ⟨v1, _⟩
        · exact v2
        · exact absurd v1 q2
      rw [if_pos td] at eM
      refine t7_2_85 h L hrm he ha (m7_4 C.2.1) ⟨L, hb, kt, hk' g5 g5', by rw [b2]; exact hr.1, by rw [b2]; exact hr.2, fun _ => by rw [a5, g5, el]; exact al4, fun p j p0 p1 j0 j1 => ?_⟩ (Nat.zero_le _) (Nat.zero_le _) ?_
      · rw [b3 p j p0 p1 j0 j1]
        unfold j_start
        rw [if_neg (by change k = 0 ∨ k = 2 ∨ k = 3 at td; omega)]
      · rintro S7 V7 ⟨e0, c1, c2, c3, c4⟩
        subst e0
        rw [g5, g5', el, a5, b1, b2, ← eM] at c1 c2 c3
        refine tail V7 c1 c2 c3 (c4 _ (fun z => at1 z.symm) (fun p p0 p1 => by omega)) ((c4 b na.1 (fun p p0 p1 => (nd p p0 p1).1)).trans g5) ((c4 _ na.2 (fun p p0 p1 => (nd p p0 p1).2)).trans g5') (fun c c0 cc => (c4 c c0 (fun p p0 p1 => by omega)).trans (fr5 c c0 cc))
