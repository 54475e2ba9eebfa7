/-! THE CLASS: taking signs, the loop -/
theorem j_now_D {V V2 : jH} {a i : Int} {w : Int → Int} (et : V2 (a + 1) = V (a + 1)) (ep : ∀ p : Int, 0 ≤ p → p < 4 → V2 (a + 1 + 3 + 2 * p) = V (a + 1 + 3 + 2 * p)) (hb : V2 (a + 11) 1 = j_bef w i) (hg : V (a + 1) 1 = 4 → ∀ j : Int, 0 ≤ j → j ≤ 256 → V2 (a + 13) j = j_G (V (a + 1) 2) w i.toNat j) {j : Int} (j0 : 0 ≤ j) (j1 : j ≤ 256) : j_now V2 a j = j_DK V a w i j := by
  unfold j_now j_gd j_DK j_D
  rw [et]
  by_cases k4 : V (a + 1) 1 = 4
  · rw [if_pos k4, if_pos k4, show a + 11 + 1 + 1 = a + 13 by omega]
    exact hg k4 j j0 j1
  · rw [if_neg k4, if_neg k4]
    by_cases k3 : V (a + 1) 1 = 3
    · rw [if_pos k3, if_pos k3, hb, show a + 1 + 2 + 2 * (j_bef w i % 4) + 1 = a + 1 + 3 + 2 * (j_bef w i % 4) by omega, ep _ (by omega) (by omega)]
    · rw [if_neg k3, if_neg k3]
      have := ep 0 (by omega) (by omega)
      rw [show a + 1 + 3 + 2 * 0 = a + 1 + 3 by omega] at this
      show V2 (a + 1 + 2 + 1) j = V (a + 1 + 3 + 2 * 0) j
      rw [show a + 1 + 2 + 1 = a + 1 + 3 by omega, show a + 1 + 3 + 2 * 0 = a + 1 + 3 by omega, this]
theorem j_sgN_rng (b : Int → Int) (x : Int) : 0 ≤ j_sgN b x 256 ∧ j_sgN b x 256 < 256 := by
  have : ∀ n : Nat, 0 ≤ j_sgN b x (n + 1) ∧ j_sgN b x (n + 1) < ((n + 1 : Nat) : Int) := by
    intro n
    induction n with
    | zero =>
      show 0 ≤ (if b ((0 : Nat) : Int) ≤ x then ((0 : Nat) : Int) else 0) ∧ (if b ((0 : Nat) : Int) ≤ x then ((0 : Nat) : Int) else 0) < ((0 + 1 : Nat) : Int)
      split <;> omega
    | succ n ih =>
      show 0 ≤ (if b ((n + 1 : Nat) : Int) ≤ x then ((n + 1 : Nat) : Int) else j_sgN b x (n + 1)) ∧ (if b ((n + 1 : Nat) : Int) ≤ x then ((n + 1 : Nat) : Int) else j_sgN b x (n + 1)) < ((n + 1 + 1 : Nat) : Int)
      split <;> omega
  exact this 255
theorem m2_7 (l : Launch) : M2_7 l 0 0 (fun a n la b st many S V => j_L S ∧ S.1 b = 22 ∧ j_blkOK V b ∧ 0 ≤ n ∧ n ≤ 400 ∧ 1 ≤ la ∧ la ≤ 4 ∧ 0 ≤ st ∧ st ≤ 4400 ∧ 0 ≤ many ∧ many ≤ 65535 ∧ j_tabOK V (a + 1) ∧ ∀ y : Int, 0 ≤ y → y < la → j_M (V (a + 1) 2) ≤ V (a + 20) y ∧ V (a + 20) y < 256 * j_M (V (a + 1) 2))
    (fun a n la b st many S V r S' V' => S' = S ∧ j_tkF V V' a ∧ j_says r (∃ (X : Int → Int) (w : Int → Int), j_TK V a b la st many n.toNat = some (X, 0, w) ∧ ∀ y : Int, 0 ≤ y → y < la → X y = j_M (V (a + 1) 2)) ∧ (r = 1 → j_tkI V a b la st many n V' ∧ V' (a + 14) 5 = n ∧ ∀ j : Int, j ≠ 5 → V' (a + 14) j = V (a + 14) j)) := by
  refine e2_7 ?_
  rintro C G h hrm hcs hl hn a n la b st many S V ha ⟨L, hb, hk, n0, n1, l0, l1, s0, s1, m0, m1, ⟨r0, r1, hB⟩, hX⟩ R
  have hM := j_M_bd r0 r1
  have ht : S.1 (a + 1) = 29 := L0_0k L ha
  have kb1 := L1_0k L hb
  have ne : ∀ {c : Int} {k : Nat}, S.1 c = k → k ≠ 22 → k ≠ 6 → b ≠ c ∧ b + 1 ≠ c := fun {c k} hc h1 h2 => ⟨fun z => h1 (by rw [← hc, ← z, hb]), fun z => h2 (by rw [← hc, ← z, kb1])⟩
  have k14 := L0_2k L ha
  have k15 : S.1 (a + 15) = 1 := by have := L7_0k L k14; rw [show a + 15 = a + 14 + 1 by omega]; exact this
  have k16 : S.1 (a + 16) = 1 := by have := L7_1k L k14; rw [show a + 16 = a + 14 + 2 by omega]; exact this
  have k17 : S.1 (a + 17) = 1 := by have := L7_2k L k14; rw [show a + 17 = a + 14 + 3 by omega]; exact this
  have k18 : S.1 (a + 18) = 1 := by have := L7_3k L k14; rw [show a + 18 = a + 14 + 4 by omega]; exact this
  have k19 : S.1 (a + 19) = 1 := by have := L7_4k L k14; rw [show a + 19 = a + 14 + 5 by omega]; exact this
  have k11 := L0_1k L ha
  have k13 : S.1 (a + 13) = 2 := by have := L2_0k L (L4_0k L k11); rw [show a + 13 = a + 11 + 1 + 1 by omega]; exact this
  have q0 := ne ha (by decide) (by decide)
  have q11 := ne k11 (by decide) (by decide)
  have q13 := ne k13 (by decide) (by decide)
  have q14 := ne k14 (by decide) (by decide)
  have q15 := ne k15 (by decide) (by decide)
  have q16 := ne k16 (by decide) (by decide)
  have q17 := ne k17 (by decide) (by decide)
  have q18 := ne k18 (by decide) (by decide)
  have q19 := ne k19 (by decide) (by decide)
  have q20 := ne (L0_3k L ha) (by decide) (by decide)
  refine t2_7_0 h (fun q => absurd q (by omega)) (fun _ => t2_7_5 h (fun _ => ?_) (fun q => absurd q (by omega)))
  refine t2_7_12 h L hrm ha (m6_2 C.2.1) ⟨L, ht, by omega, by omega, r0, r1⟩ (Nat.zero_le _) (Nat.zero_le _) ?_
  rintro S1 V1 ⟨e0, e1⟩
  subst e0
  rw [show a + 11 + 2 = a + 13 by omega] at e1
  refine t2_7_23 h L ha ?_
  have loop : ∀ (i : Int) (V2 : jH), (0 ≤ i ∧ i ≤ n ∧ j_tkI V a b la st many i V2 ∧ j_tkF V V2 a ∧ V2 (a + 14) 5 = n ∧ ∀ j : Int, j ≠ 5 → V2 (a + 14) j = V (a + 14) j) →
      j_ok n_KT 7 C G 40 [(0, (2, a)), (1, (0, n)), (2, (0, la)), (3, (2, b)), (4, (0, st)), (6, (0, i))] [] S1 V2 0 0 := by
    refine j_loop (N := n) (fun i V2 hi hI kk => ?_) (fun i V2 hi hI => ?_)
    · obtain ⟨g0, g1, g2, g3, g4, g5⟩ := hI
      have et : V2 (a + 1) = V (a + 1) := g3 _ (by omega) (by omega) (by omega) (by omega) (by omega) (by omega) (by omega) (by omega) (by omega) (by omega)
      have ep : ∀ p : Int, 0 ≤ p → p < 4 → V2 (a + 1 + 3 + 2 * p) = V (a + 1 + 3 + 2 * p) := fun p p0 p1 => g3 _ (by omega) (by omega) (by omega) (by omega) (by omega) (by omega) (by omega) (by omega) (by omega) (by omega)
      have eb : V2 b = V b := g3 b q0.1 q11.1 q13.1 q14.1 q15.1 q16.1 q17.1 q18.1 q19.1 q20.1
      have eb1 : V2 (b + 1) = V (b + 1) := g3 _ q0.2 q11.2 q13.2 q14.2 q15.2 q16.2 q17.2 q18.2 q19.2 q20.2
      have w0 : 0 ≤ i % la := Int.emod_nonneg _ (by omega)
      have w1 : i % la < la := Int.emod_lt_of_pos _ (by omega)
      obtain ⟨X, u, w, t1, t2, t3, t4, t5, t6, t7, t8, t9, t10⟩ := id g2
      have hN : ∀ j : Int, 0 ≤ j → j ≤ 256 → j_now V2 a j = j_DK V a w i j := fun j j0 j1 => j_now_D et ep t5 t6 j0 j1
      have hD : j_dl (j_now V2 a) 0 (j_M (V (a + 1) 2)) := j_dl_congr hN (j_D_dl (n := i) r0 r1 hB t4 g0 (Int.le_refl _))
      have bx := t7 (i % la) w0 w1
      refine t2_7_40 h (fun q => absurd q (by omega)) (fun _ => ?_)
      refine t2_7_46 h hrm g0 l0 ha (m2_8 C.2.1) ⟨L, hb, ⟨by rw [eb]; exact hk.1, by rw [eb]; exact hk.2.1, by rw [eb, eb1]; exact hk.2.2⟩, g0, by omega, w0, by omega, s0, s1, by rw [t3]; exact t8, by rw [t3]; omega, by rw [et]; exact r0, by rw [et]; exact r1, by rw [et, t2]; exact bx.1, by rw [et, t2]; exact bx.2, by rw [et]; exact hD⟩ (Nat.zero_le _) (Nat.zero_le _) ?_
      rintro r S2 V3 ⟨e0, f1, f2⟩
      subst e0
      have F3 : j_tkF V V3 a := fun c c0 c1 c2 c3 c4 c5 c6 c7 c8 c9 => (f1.1 c c0 c1 c2 c4 c5 c6 c7 c8 c9).trans (g3 c c0 c1 c2 c3 c4 c5 c6 c7 c8 c9)
      have e14 : V3 (a + 14) = V2 (a + 14) := f1.1 _ (by omega) (by omega) (by omega) (by omega) (by omega) (by omega) (by omega) (by omega) (by omega)
      rcases f2 with ⟨rr, no⟩ | ⟨rr, x, u', y1, y2, y3, y4, y5, y6, y7, y8⟩
      · refine t2_7_59 h (fun q => absurd rr q) (fun _ => t2_7_62 h R ⟨rfl, F3, Or.inr ⟨rfl, ?_⟩, fun z => absurd z (by decide)⟩ (Nat.le_refl _) (Nat.le_refl _))
        rintro ⟨X', w', z1, _⟩
        have s1' : j_TK V a b la st many (i.toNat + 1) = none := by
          show (j_TK V a b la st many i.toNat).bind _ = none
          rw [t1]
          show j_tk1 _ _ _ _ _ _ _ _ _ (X, u, w) = none
          unfold j_tk1
          dsimp only
          have es : j_ns1 V2 a (i % la) = j_sg (j_DK V a w i) (X (i % la) % j_M (V (a + 1) 2)) := by
            unfold j_ns1 j_sg
            rw [et, t2]
            exact j_sgN_congr 256 (fun j j0 j1 => hN j j0 (by omega))
          have sb := j_dl_congr (b := j_now V2 a) (b' := j_now V2 a) (fun _ _ _ => rfl) hD
          have hsr : 0 ≤ j_ns1 V2 a (i % la) ∧ j_ns1 V2 a (i % la) < 256 := by
            unfold j_ns1 j_sg
            exact j_sgN_rng _ _
          have ey : j_ny V2 a (i % la) = j_sh (j_DK V a w i) (j_sg (j_DK V a w i) (X (i % la) % j_M (V (a + 1) 2))) * (X (i % la) / j_M (V (a + 1) 2)) + X (i % la) % j_M (V (a + 1) 2) - j_DK V a w i (j_sg (j_DK V a w i) (X (i % la) % j_M (V (a + 1) 2))) := by
            unfold j_ny
            have esh : j_sh (j_now V2 a) (j_ns1 V2 a (i % la)) = j_sh (j_DK V a w i) (j_ns1 V2 a (i % la)) := by
              show j_now V2 a _ - j_now V2 a _ = j_DK V a w i _ - j_DK V a w i _
              rw [hN _ hsr.1 (by omega), hN _ (by omega) (by omega)]
            rw [esh, hN _ hsr.1 (by omega), es, et, t2]
          rw [show ((i.toNat : Nat) : Int) = i by omega, ← ey, ← t3]
          rw [eb, eb1, et] at no
          rw [no]
          rfl
        have := j_tk_none s1' (n.toNat - (i.toNat + 1))
        rw [show i.toNat + 1 + (n.toNat - (i.toNat + 1)) = n.toNat by omega] at this
        have z1 : j_tk _ _ _ _ _ _ _ _ _ _ n.toNat = some (X', 0, w') := z1
        rw [this] at z1
        exact absurd z1 (by simp)
      · refine t2_7_59 h (fun _ => t2_7_64 h (by omega) (kk _ ⟨by omega, by omega, ?_, F3, by rw [e14]; exact g4, fun j hj => by rw [e14]; exact g5 j hj⟩)) (fun q => absurd q (by omega))
        refine j_tkI_step g0 l0 f1 g2 eb eb1 et (fun X2 u2 w2 z => ?_) y1 y2 y3 y4 y5 y6 y7 y8
        rw [t1] at z
        have z := Option.some.inj z
        have : w = w2 := congrArg (fun q => q.2.2) z
        rw [← this]
        exact hN
    · obtain ⟨g0, g1, g2, g3, g4, g5⟩ := hI
      have ei : i = n := by omega
      rw [ei] at g2
      have et : V2 (a + 1) = V (a + 1) := g3 _ (by omega) (by omega) (by omega) (by omega) (by omega) (by omega) (by omega) (by omega) (by omega) (by omega)
      obtain ⟨X, u, w, t1, t2, t3, t4, t5, t6, t7, t8, t9, t10⟩ := id g2
      refine t2_7_40 h (fun _ => ?_) (fun q => absurd q (by omega))
      have no : ∀ {P : Prop}, ((∃ (X : Int → Int) (w : Int → Int), j_TK V a b la st many n.toNat = some (X, 0, w) ∧ ∀ y : Int, 0 ≤ y → y < la → X y = j_M (V (a + 1) 2)) → P) ↔ ((u = 0 ∧ ∀ y : Int, 0 ≤ y → y < la → X y = j_M (V (a + 1) 2)) → P) := by
        intro P
        constructor
        · rintro hh ⟨z1, z2⟩
          exact hh ⟨X, w, by rw [t1, z1], z2⟩
        · rintro hh ⟨X', w', z1, z2⟩
          rw [t1] at z1
          have z1 := Option.some.inj z1
          have a1 : X = X' := congrArg (fun q => q.1) z1
          have a2 : u = 0 := congrArg (fun q => q.2.1) z1
          exact hh ⟨a2, by rw [a1]; exact z2⟩
      refine t2_7_70 h ha (fun q => ?_) (fun q => ?_)
      · refine t2_7_89 h (t2_7_90 h R (by omega) ⟨rfl, g3, Or.inr ⟨rfl, ?_⟩, fun z => absurd z (by decide)⟩ (Nat.le_refl _) (Nat.le_refl _))
        exact no.mpr (fun z => q (by rw [t3]; exact z.1))
      · rw [t3] at q
        refine t2_7_77 h hrm ha (m2_9 C.2.1) ⟨L, by omega, l1, by rw [et]; exact r0, by rw [et]; exact r1⟩ (Nat.zero_le _) (Nat.zero_le _) ?_
        rintro r S2 V3 ⟨e0, e3, hr⟩
        subst e0
        subst e3
        rw [et, t2] at hr
        refine t2_7_82 h (fun q2 => ?_) (fun q2 => ?_)
        · refine t2_7_89 h (t2_7_90 h R (by omega) ⟨rfl, g3, Or.inr ⟨rfl, ?_⟩, fun z => absurd z (by decide)⟩ (Nat.le_refl _) (Nat.le_refl _))
          rcases hr with ⟨r2, _⟩ | ⟨_, r2⟩
          · omega
          · exact no.mpr (fun z => r2 z.2)
        · refine t2_7_85 h (t2_7_90 h R (by omega) ⟨rfl, g3, Or.inl ⟨rfl, X, w, by rw [t1, q], ?_⟩, fun _ => ⟨g2, g4, g5⟩⟩ (Nat.le_refl _) (Nat.le_refl _))
          rcases hr with ⟨_, r2⟩ | ⟨r2, _⟩
          · exact r2
          · exact absurd r2 q2
  refine loop 0 _ ⟨by omega, n0, ⟨V (a + 20), many, fun _ => 0, rfl, ?_, by rw [j_up_at], fun x x0 x1 => absurd x1 (by omega), ?_, fun hk4 j j0 j1 => ?_, hX, m0, Int.le_refl _, fun x x0 x1 => absurd x1 (by omega)⟩, fun c c0 c1 c2 c3 c4 c5 c6 c7 c8 c9 => ?_, ?_, fun j hj => ?_⟩
  · rw [j_up_ne (by omega), j_up_ne (by omega), e1, j_row_ne (by omega), j_up_ne (by omega)]
  · rw [j_up_ne (by omega), j_up_ne (by omega), e1, j_row_ne (by omega), j_up_at]; rfl
  · rw [j_up_ne (by omega), j_up_ne (by omega), e1, j_row_at]
    unfold j_g0
    rw [if_pos hk4, if_pos ⟨j0, j1⟩]
    rfl
  · rw [j_up_ne c0, j_up_ne c3, e1, j_row_ne c2, j_up_ne c1]
  · rw [j_up_ne (by omega), j_up_at]
  · rw [j_up_ne (by omega), j_up_off hj, e1, j_row_ne (by omega), j_up_ne (by omega)]
