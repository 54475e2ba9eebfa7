/-! THE CLASS: a Whole becomes another -/
def j_slS (S : jS) (w : Int) : Prop := ∀ t : Int, 0 ≤ t → t < 10 → j_slF S w t
def j_rowEq (V V' : jH) (w o : Int) : Prop := V' w 1 = V o 1 ∧ ∀ i : Int, 0 ≤ i → i < V o 1 → V' (w + 1) i = V (o + 1) i
def j_tabEq (V V' : jH) (t o : Int) : Prop := V' t 1 = V o 1 ∧ V' t 2 = V o 2 ∧ ∀ p j : Int, 0 ≤ p → p < 4 → 0 ≤ j → j ≤ 256 → V' (t + 3 + 2 * p) j = V (o + 3 + 2 * p) j
def j_wBe (S : jS) (V : jH) (w o : Int) (S' : jS) (V' : jH) : Prop := (∀ p : Int, 0 ≤ p → p < 6 → j_rowEq V V' (w + 2 + 2 * p) (o + 2 + 2 * p)) ∧ V' w 2 = V o 2 ∧ (∀ t : Int, 0 ≤ t → t < V o 2 → j_tabEq V V' (j_slotT w t) (j_slotT o t)) ∧ j_blockEq V V' (w + 15) (o + 15) ∧ V' w 4 = V o 4 ∧ V' w 5 = V o 5 ∧
  j_L S' ∧ S'.1 w = 30 ∧ j_slS S' w ∧ (∀ t : Int, 0 ≤ t → t < V o 2 → S'.2 (w + 14) t = j_slotT w t ∧ S'.1 (j_slotT w t) = 29) ∧ ∀ c : Int, (c < w ∨ w + 129 < c) → S'.1 c = S.1 c ∧ S'.2 c = S.2 c ∧ V' c = V c
theorem m11_3 (l : Launch) : M11_3 l 100 10390 (fun w o S V => j_L S ∧ 0 ≤ w ∧ 0 ≤ o ∧ (w + 129 < o ∨ o + 129 < w) ∧ j_slS S w ∧ j_wI S V o) (fun w o S V S' V' => j_wBe S V w o S' V') := by
  refine e11_3 ?_
  rintro C G h hrm hcs hl hn w o S V hw ⟨L, w0, o0, ap, hsl, ho, hr, hs, hb⟩ R
  have rk : ∀ {x p : Int}, S.1 x = 30 → 0 ≤ p → p < 6 → S.1 (x + 2 + 2 * p) = 27 := fun {x p} hx p0 p1 => by
    have := LRowAk L (i := p) (L9_0k L hx) p0 p1
    rw [show x + 1 + 1 + 2 * p = x + 2 + 2 * p by omega] at this
    exact this
  refine t11_3_0 h ?_
  have rows : ∀ (i : Int) (V1 : jH), (0 ≤ i ∧ i ≤ 6 ∧ (∀ p : Int, 0 ≤ p → p < i → j_rowEq V V1 (w + 2 + 2 * p) (o + 2 + 2 * p)) ∧ ∀ c : Int, (c < w + 2 ∨ w + 13 < c) → V1 c = V c) → j_ok n_KT 3 C G 2 [(0, (2, w)), (1, (2, o)), (2, (0, i))] [] S V1 0 0 := by
    refine j_loop (N := 6) (fun i V1 hi hI kk => ?_) (fun i V1 hi hI => ?_)
    · obtain ⟨g0, g1, g2, g3⟩ := hI
      have eo : V1 (o + 2 + 2 * i) = V (o + 2 + 2 * i) := g3 _ (by omega)
      have eo1 : V1 (o + 2 + 2 * i + 1) = V (o + 2 + 2 * i + 1) := g3 _ (by omega)
      have hri := hr i g0 hi
      refine t11_3_2 h (fun q => absurd q (by omega)) (fun _ => ?_)
      refine t11_3_8 h L hrm hw g0 hi ho (m8_3 C.2.1) ⟨L, rk ho g0 hi, by rw [eo]; exact hri.1, by rw [eo]; exact hri.2.1⟩ (Nat.zero_le _) (Nat.zero_le _) ?_
      rintro S2 V2 ⟨e0, e2⟩
      subst e0
      rw [eo, j_cpy_ne (show o + 2 + 2 * i ≠ w + 2 + 2 * i + 1 by omega), eo] at e2
      have f2 : ∀ c : Int, c ≠ w + 2 + 2 * i → c ≠ w + 2 + 2 * i + 1 → V2 c = V1 c := fun c c0 c1 => by rw [e2, j_up_ne c0, j_cpy_ne c1]
      refine t11_3_23 h (by omega) (kk _ ⟨(by omega), (by omega), fun p p0 p1 => ?_, fun c hc => ?_⟩)
      · by_cases e : p = i
        · rw [e]
          refine ⟨by rw [e2, j_up_at], fun x x0 x1 => ?_⟩
          rw [e2, j_up_ne (by omega), j_cpy_in x0 x1, eo1]
        · obtain ⟨q1, q2⟩ := g2 p p0 (by omega)
          exact ⟨by rw [f2 _ (by omega) (by omega)]; exact q1, fun x x0 x1 => by rw [f2 _ (by omega) (by omega)]; exact q2 x x0 x1⟩
      · rw [f2 c (by omega) (by omega)]; exact g3 c hc
    · obtain ⟨g0, g1, g2, g3⟩ := hI
      have ei : i = 6 := by omega
      subst ei
      refine t11_3_2 h (fun _ => t11_3_29 h ?_) (fun q => absurd q (by omega))
      have tabs : ∀ (n : Int) (z : jS × jH), (0 ≤ n ∧ n ≤ V o 2 ∧ j_L z.1 ∧ z.1.1 w = 30 ∧ j_slS z.1 w ∧ (∀ t : Int, 0 ≤ t → t < n → j_tabEq V z.2 (j_slotT w t) (j_slotT o t) ∧ z.1.2 (w + 14) t = j_slotT w t ∧ z.1.1 (j_slotT w t) = 29) ∧ (∀ c : Int, (c < w ∨ w + 129 < c) → z.1.1 c = S.1 c ∧ z.1.2 c = S.2 c ∧ z.2 c = V c) ∧ ∀ c : Int, w ≤ c → c < w + 30 → z.2 c = V1 c) →
          j_ok n_KT 3 C G 31 [(0, (2, w)), (1, (2, o)), (2, (0, n))] [] z.1 z.2 (10 * n.toNat) (1039 * n.toNat) := by
        refine j_loop (N := V o 2) (fun n z hn9 hI kk => ?_) (fun n z hn9 hI => ?_)
        · obtain ⟨S2, V2⟩ := z
          obtain ⟨n0, n1, a1, a2, a3, a4, a5, a6⟩ := hI
          dsimp only at a1 a2 a3 a4 a5 a6 ⊢
          have h10 := hs.2.1
          have co : S2.1 o = 30 := by rw [(a5 o (by omega)).1]; exact ho
          have vo : V2 o = V o := (a5 o (by omega)).2.2
          obtain ⟨o1, o2, o3⟩ := j_sI_at hs n0 hn9
          refine t11_3_31 h co (fun q => absurd q (by rw [vo]; omega)) (fun _ => ?_)
          refine t11_3_39 h hrm a2 (m11_2u C.2.1) ⟨a1, n0, (by omega), w0, a3 n n0 (by omega)⟩ (by rw [hcs.1]; omega) (by rw [hcs.2]; omega) ?_
          rintro t S3 V3 ⟨et, hM, hV⟩
          have sw : w + 30 ≤ j_slotT w n ∧ j_slotT w n + 9 ≤ w + 129 := by unfold j_slotT; omega
          have so : o + 30 ≤ j_slotT o n ∧ j_slotT o n + 9 ≤ o + 129 := by unfold j_slotT; omega
          have fV : ∀ c : Int, (c < j_slotT w n ∨ j_slotT w n + 9 < c) → V3 c = V2 c := fun c hc => by
            rcases hV with ⟨_, e⟩ | ⟨_, e⟩
            · rw [e]
            · exact e c hc
          have c3 : ∀ c : Int, (c < w ∨ w + 129 < c) → S3.1 c = S.1 c ∧ S3.2 c = S.2 c ∧ V3 c = V c := fun c hc => by
            obtain ⟨q1, q2⟩ := hM.2.2.2.2 c (by omega)
            exact ⟨q1.trans (a5 c hc).1, (q2 (by omega)).trans (a5 c hc).2.1, (fV c (by omega)).trans (a5 c hc).2.2⟩
          have co3 : S3.1 o = 30 := by rw [(c3 o (by omega)).1]; exact ho
          rw [et]
          refine t11_3_44 h hrm co3 (m11_2 C.2.1) ⟨hM.1, n0, (by omega), o0, by rw [(c3 _ (by omega)).2.1]; exact o1⟩ (by rw [hcs.1]; omega) (by rw [hcs.2]; omega) ?_
          rintro t2 S4 V4 ⟨e0, e1, et2⟩
          subst e0; subst e1
          rw [et2]
          refine t11_3_49 h hrm hM.2.2.1 (m10_3 C.2.1) ⟨hM.1, by rw [(c3 _ (by omega)).1]; exact o2, (by omega)⟩ (by rw [hcs.1]; omega) (by rw [hcs.2]; omega) ?_
          rintro S5 V5 ⟨e0, b1, b2, b3, b4⟩
          subst e0
          have f5 : ∀ c : Int, (c < j_slotT w n ∨ j_slotT w n + 9 < c) → V5 c = V4 c := fun c hc => b4 c (by omega) (fun p p0 p1 => by omega)
          have nx := kk (S5, V5) ⟨(by omega), (by omega), hM.1, ?_, fun t t0 t1 => ?_, fun t t0 t1 => ?_, fun c hc => ?_, fun c c0 c1 => ?_⟩
          · dsimp only at nx
            rw [show (n + 1).toNat = n.toNat + 1 by omega] at nx
            refine t11_3_52 h (by omega) ?_
            rw [show 10 * n.toNat + 10 + 0 + 0 = 10 * (n.toNat + 1) by omega, show 1039 * n.toNat + 1039 + 0 + 0 = 1039 * (n.toNat + 1) by omega]
            exact nx
          · show S5.1 w = 30; rw [(hM.2.2.2.2 w (by omega)).1]; exact a2
          · by_cases e : t = n
            · rw [e]; exact Or.inl ⟨hM.2.1, hM.2.2.1⟩
            · have sep : j_slotT w t + 9 < j_slotT w n ∨ j_slotT w n + 9 < j_slotT w t := by unfold j_slotT; omega
              rcases a3 t t0 t1 with ⟨q1, q2⟩ | ⟨q1, q2⟩
              · exact Or.inl ⟨by rw [hM.2.2.2.1 t e]; exact q1, by rw [(hM.2.2.2.2 _ (by omega)).1]; exact q2⟩
              · exact Or.inr ⟨by rw [hM.2.2.2.1 t e]; exact q1, fun c c0 c1 => by rw [(hM.2.2.2.2 c (by omega)).1]; exact q2 c c0 c1⟩
          · by_cases e : t = n
            · rw [e]
              refine ⟨⟨?_, ?_, fun p j p0 p1 j0 j1 => ?_⟩, hM.2.1, hM.2.2.1⟩
              · show V5 _ 1 = _; rw [b1, (c3 _ (by omega)).2.2]
              · show V5 _ 2 = _; rw [b2, (c3 _ (by omega)).2.2]
              · show V5 _ j = _; rw [b3 p j p0 p1 j0 j1, (c3 _ (by omega)).2.2]
            · have sep : j_slotT w t + 9 < j_slotT w n ∨ j_slotT w n + 9 < j_slotT w t := by unfold j_slotT; omega
              obtain ⟨⟨q1, q2, q3⟩, q4, q5⟩ := a4 t t0 (by omega)
              refine ⟨⟨?_, ?_, fun p j p0 p1 j0 j1 => ?_⟩, ?_, ?_⟩
              · show V5 _ 1 = _; rw [f5 _ (by omega), fV _ (by omega)]; exact q1
              · show V5 _ 2 = _; rw [f5 _ (by omega), fV _ (by omega)]; exact q2
              · show V5 _ j = _; rw [f5 _ (by omega), fV _ (by omega)]; exact q3 p j p0 p1 j0 j1
              · show S5.2 (w + 14) t = _; rw [hM.2.2.2.1 t e]; exact q4
              · show S5.1 _ = 29; rw [(hM.2.2.2.2 _ (by omega)).1]; exact q5
          · exact ⟨(c3 c hc).1, (c3 c hc).2.1, (f5 c (by omega)).trans (c3 c hc).2.2⟩
          · show V5 c = V1 c; rw [f5 c (by omega), fV c (by omega)]; exact a6 c c0 c1
        · obtain ⟨S2, V2⟩ := z
          obtain ⟨n0, n1, a1, a2, a3, a4, a5, a6⟩ := hI
          dsimp only at a1 a2 a3 a4 a5 a6 ⊢
          have en : n = V o 2 := by omega
          subst en
          have h10 := hs.2.1
          have co : S2.1 o = 30 := by rw [(a5 o (by omega)).1]; exact ho
          have vo : V2 o = V o := (a5 o (by omega)).2.2
          refine t11_3_31 h co (fun _ => ?_) (fun q => absurd q (by rw [vo]; omega))
          have u1 : ∀ c : Int, c ≠ w → j_up V2 w 2 (V2 o 2) c = V2 c := fun c hc => j_up_ne hc
          have vo15 : V2 (o + 15) = V (o + 15) := (a5 _ (by omega)).2.2
          have vo17 : V2 (o + 15 + 2) = V (o + 17) := by rw [show o + 15 + 2 = o + 17 by omega]; exact (a5 _ (by omega)).2.2
          refine t11_3_58 h a1 hrm co a2 (m3_2 C.2.1) ⟨a1, L9_3k a1 co, (by omega), by rw [u1 _ (by omega), vo15]; exact hb.1.1, by rw [u1 _ (by omega), vo15]; exact hb.1.2.1, by rw [u1 _ (by omega), vo15]; exact hb.2.1, by rw [u1 _ (by omega), vo15]; exact hb.2.2.1, by rw [u1 _ (by omega), vo17]; exact hb.2.2.2.1, by rw [u1 _ (by omega), vo17]; exact hb.2.2.2.2.1⟩ (by rw [hcs.1]; omega) (by rw [hcs.2]; omega) ?_
          rintro S3 V3 ⟨e0, hB, hF⟩
          subst e0
          have so : ∀ c : Int, (c < w ∨ w + 129 < c) → V3 c = V c := fun c hc => by rw [hF c (by omega), u1 c (by omega)]; exact (a5 c hc).2.2
          have sw : ∀ c : Int, w < c → (c < w + 15 ∨ w + 22 < c) → V3 c = V2 c := fun c c0 c1 => by rw [hF c (by omega), u1 c (by omega)]
          have vo3 : V3 o = V o := so o (by omega)
          have fin : ∀ c : Int, c ≠ w → j_up (j_up V3 w 4 (V3 o 4)) w 5 ((j_up V3 w 4 (V3 o 4)) o 5) c = V3 c := fun c hc => by rw [j_up_ne hc, j_up_ne hc]
          have w3 : V3 w 2 = V o 2 := by rw [hF w (by omega), j_up_at, vo]
          refine t11_3_77 h co a2 R ⟨fun p p0 p1 => ?_, ?_, fun t t0 t1 => ?_, ?_, ?_, ?_, a1, a2, a3, fun t t0 t1 => (a4 t t0 t1).2, fun c hc => ⟨(a5 c hc).1, (a5 c hc).2.1, by rw [fin c (by omega)]; exact so c hc⟩⟩ (by omega) (by omega)
          · obtain ⟨q1, q2⟩ := g2 p p0 p1
            refine ⟨?_, fun i i0 i1 => ?_⟩
            · rw [fin _ (by omega), sw _ (by omega) (by omega), a6 _ (by omega) (by omega)]; exact q1
            · rw [fin _ (by omega), sw _ (by omega) (by omega), a6 _ (by omega) (by omega)]; exact q2 i i0 i1
          · rw [j_up_off (by decide), j_up_off (by decide)]; exact w3
          · obtain ⟨⟨q1, q2, q3⟩, -⟩ := a4 t t0 t1
            have sp : w + 30 ≤ j_slotT w t ∧ j_slotT w t + 9 ≤ w + 129 := by unfold j_slotT; omega
            refine ⟨?_, ?_, fun p j p0 p1 j0 j1 => ?_⟩
            · rw [fin _ (by omega), sw _ (by omega) (by omega)]; exact q1
            · rw [fin _ (by omega), sw _ (by omega) (by omega)]; exact q2
            · rw [fin _ (by omega), sw _ (by omega) (by omega)]; exact q3 p j p0 p1 j0 j1
          · obtain ⟨q1, q2, q3, q4, q5, q6⟩ := hB
            have y15 : j_up V2 w 2 (V2 o 2) (o + 15) = V (o + 15) := by rw [u1 _ (by omega), vo15]
            have y16 : j_up V2 w 2 (V2 o 2) (o + 15 + 1) = V (o + 15 + 1) := by rw [u1 _ (by omega)]; exact (a5 _ (by omega)).2.2
            have y17 : ∀ q : Int, 0 ≤ q → q ≤ 5 → j_up V2 w 2 (V2 o 2) (o + 15 + 2 + q) = V (o + 15 + 2 + q) := fun q q0 q1 => by rw [u1 _ (by omega)]; exact (a5 _ (by omega)).2.2
            have y17' : j_up V2 w 2 (V2 o 2) (o + 15 + 2) = V (o + 15 + 2) := by rw [u1 _ (by omega)]; exact (a5 _ (by omega)).2.2
            rw [y15] at q1 q2 q3 q4
            rw [y17'] at q5 q6
            refine ⟨by rw [fin _ (by omega)]; exact q1, by rw [fin _ (by omega)]; exact q2, by rw [fin _ (by omega)]; exact q3, fun i i0 i1 => ?_, by rw [fin _ (by omega)]; exact q5, fun q i z0 z1 i0 i1 => ?_⟩
            · rw [fin _ (by omega), q4 i i0 i1, y16]
            · rw [fin _ (by omega), q6 q i z0 z1 i0 i1, y17 q (by omega) z1]
          · rw [j_up_off (by decide), j_up_at, vo3]
          · rw [j_up_at, j_up_ne (show o ≠ w by omega), vo3]
      exact tabs 0 (S, V1) ⟨(by omega), hs.1, L, hw, hsl, fun t t0 t1 => absurd t1 (by omega), fun c hc => ⟨rfl, rfl, g3 c (by omega)⟩, fun _ _ _ => rfl⟩
  exact rows 0 V ⟨(by omega), (by omega), fun p p0 p1 => absurd p1 (by omega), fun _ _ => rfl⟩
/-- what becomes another is as that was -/
theorem j_wBe_wI {S S' : jS} {V V' : jH} {w o : Int} (ho : j_wI S V o) (h : j_wBe S V w o S' V') : j_wI S' V' w := by
  obtain ⟨h1, h2, h3, ⟨b1, b2, b3, b4, b5, b6⟩, h5, h6, h7, h8, h9, h10, h11⟩ := h
  obtain ⟨o1, o2, o3, o4⟩ := ho
  refine ⟨h8, fun p p0 p1 => j_rowOK_congr (h1 p p0 p1).1 (h1 p p0 p1).2 (o2 p p0 p1), ⟨by rw [h2]; exact o3.1, by rw [h2]; exact o3.2.1, fun t t0 t1 => ?_⟩, ?_⟩
  · by_cases c : t < V o 2
    · obtain ⟨q1, q2⟩ := h10 t t0 c
      obtain ⟨q3, q4, q5⟩ := h3 t t0 c
      exact Or.inl ⟨q1, q2, fun _ => j_tI_congr q3 q4 q5 (j_sI_at o3 t0 c).2.2⟩
    · rcases h9 t t0 t1 with ⟨q1, q2⟩ | ⟨q1, q2⟩
      · exact Or.inl ⟨q1, q2, fun z => absurd z (by rw [h2]; omega)⟩
      · exact Or.inr ⟨q1, by rw [h2]; omega, q2⟩
  · obtain ⟨p1, p2, p3, p4, p5, p6, p7⟩ := o4
    rw [show w + 15 + 2 = w + 17 by omega, show o + 15 + 2 = o + 17 by omega] at b5
    exact ⟨j_blkOK_congr b1 b4 p1, by rw [b2]; exact p2, by rw [b2]; exact p3, by rw [b5]; exact p4, by rw [b5]; exact p5, by rw [b3]; exact p6, by rw [b3]; exact p7⟩
theorem j_sI_slS {S : jS} {V : jH} {w : Int} (h : j_sI S V w) : j_slS S w := fun t t0 t1 => j_sI_F h t0 t1
theorem m1_25 (l : Launch) : M1_25 l 100 10390 (fun a S V => j_cI S V a) (fun a S V r S' V' => (S.2 a 1 = -1 ∧ S' = S ∧ V' = j_fd V a ∧ r = -6) ∨ (S.2 a 1 = a + 300 ∧ r = 1 ∧ j_wBe S V (a + 1) (a + 300) S' V')) := by
  refine e1_25 ?_
  rintro C G h hrm hcs hl hn a S V ht hI R
  obtain ⟨L, -, a0, hw, hk, hd, h6, h7⟩ := id hI
  have F7 := j_cI_F7 hI
  rcases hk with ⟨k1, k2⟩ | ⟨k1, k2⟩
  · exact t1_25_0 h ht (fun q _ => absurd q (by omega)) (fun _ => (t1_25_7 h hrm ht (m1_27 C.2.1) F7 (Nat.zero_le _) (Nat.zero_le _) (by rintro r9 S9 V9 ⟨e0, e9, er⟩; subst e0; subst e9; subst er; exact t1_25_13 h R (Or.inl ⟨k1, rfl, rfl, rfl⟩) (Nat.zero_le _) (Nat.zero_le _))))
  · refine t1_25_0 h ht (fun _ _ => ?_) (fun q => absurd q (by omega))
    refine t1_25_14 h L hrm ht (m11_3 C.2.1) ⟨L, (by omega), (by omega), (by omega), j_sI_slS hw.2.2.1, by rw [k1]; exact k2⟩ (by rw [hcs.1]; omega) (by rw [hcs.2]; omega) ?_
    intro S1 V1 hB
    rw [k1] at hB
    exact t1_25_25 h R (Or.inr ⟨k1, rfl, hB⟩) (by decide) (by decide)
/-- what was kept before is there -/
theorem m1_24 (l : Launch) : M1_24 l 100 10390 (fun a S V => j_cI S V a ∧ S.2 a 1 = a + 300) (fun a S V r S' V' => r = 1 ∧ j_wBe S V (a + 300) (a + 1) S' V') := by
  refine e1_24 ?_
  rintro C G h hrm hcs hl hn a S V ht ⟨hI, hk1⟩ R
  obtain ⟨L, -, a0, hw, hk, hd, h6, h7⟩ := id hI
  rcases hk with ⟨k1, k2⟩ | ⟨k1, k2⟩
  · omega
  · refine t1_24_0 h ht (fun _ _ => ?_) (fun q => absurd q (by omega))
    refine t1_24_18 h L hrm ht (by rw [k1]; exact k2.1) (m11_3 C.2.1) ⟨L, (by omega), (by omega), (by omega), by rw [k1]; exact j_sI_slS k2.2.2.1, hw⟩ (by rw [hcs.1]; omega) (by rw [hcs.2]; omega) ?_
    intro S1 V1 hB
    rw [k1] at hB
    exact t1_24_29 h R ⟨rfl, hB⟩ (by decide) (by decide)
theorem j_wI_congr2 {S S' : jS} {V V' : jH} {w : Int} (hV : ∀ c : Int, w ≤ c → c ≤ w + 129 → S'.1 c = S.1 c ∧ S'.2 c = S.2 c ∧ V' c = V c) (h : j_wI S V w) : j_wI S' V' w := by
  obtain ⟨q1, q2, ⟨q3, q4, q5⟩, q6⟩ := h
  refine ⟨by rw [(hV _ (by omega) (by omega)).1]; exact q1, j_rI_congr (fun c c0 c1 => (hV c (by omega) (by omega)).2.2) q2, ⟨by rw [(hV _ (by omega) (by omega)).2.2]; exact q3, by rw [(hV _ (by omega) (by omega)).2.2]; exact q4, fun t t0 t1 => ?_⟩, j_bI_congr (fun c c0 c1 => (hV c (by omega) (by omega)).2.2) q6⟩
  have sp : w + 30 ≤ j_slotT w t ∧ j_slotT w t + 9 ≤ w + 129 := by unfold j_slotT; omega
  rcases q5 t t0 t1 with ⟨y1, y2, y3⟩ | ⟨y1, y2, y3⟩
  · refine Or.inl ⟨by rw [(hV _ (by omega) (by omega)).2.1]; exact y1, by rw [(hV _ (by omega) (by omega)).1]; exact y2, fun q => ?_⟩
    rw [(hV w (by omega) (by omega)).2.2] at q
    exact j_tI_congr (by rw [(hV _ (by omega) (by omega)).2.2]) (by rw [(hV _ (by omega) (by omega)).2.2]) (fun p j p0 p1 _ _ => by rw [(hV _ (by omega) (by omega)).2.2]) (y3 q)
  · exact Or.inr ⟨by rw [(hV _ (by omega) (by omega)).2.1]; exact y1, by rw [(hV _ (by omega) (by omega)).2.2]; exact y2, fun c c0 c1 => by rw [(hV c (by omega) (by omega)).1]; exact y3 c c0 c1⟩
/-- nothing was kept before -/
theorem m1_24n (l : Launch) : M1_24 l 123 19235 (fun a S V => j_cI S V a ∧ S.2 a 1 = -1) (fun a S V r S' V' => r = 1 ∧ ∃ (S1 : jS) (V1 : jH), j_wBe S1 V1 (a + 300) (a + 1) S' V' ∧ j_wI S1 V1 (a + 1) ∧ S1.2 a 1 = a + 300 ∧ (∀ i : Int, i ≠ 1 → S1.2 a i = S.2 a i) ∧ (∀ c : Int, c ≠ a → (c < a + 300 ∨ a + 322 < c) → S1.2 c = S.2 c) ∧ ∀ c : Int, (c < a + 300 ∨ a + 322 < c) → S1.1 c = S.1 c ∧ V1 c = V c) := by
  refine e1_24 ?_
  rintro C G h hrm hcs hl hn a S V ht ⟨hI, hk1⟩ R
  obtain ⟨L, -, a0, hw, hk, hd, h6, h7⟩ := id hI
  rcases hk with ⟨k1, k2⟩ | ⟨k1, k2⟩
  · refine t1_24_0 h ht (fun q _ => absurd q (by omega)) (fun _ => ?_)
    refine t1_24_7 (a1 := a + 300) h hrm (by omega) (k2 _ (by omega) (by omega)) (by rw [hcs.1]; omega) (by rw [hcs.2]; omega) (m11_1 C.2.1) ⟨(by omega), fun c c0 c1 => by rw [j_ns1e _ _ _ (by omega)]; exact k2 c (by omega) (by omega)⟩ (by rw [hcs.1]; omega) (by rw [hcs.2]; omega) ?_
    intro S1 V1 hW
    have wl := j_newW_lat hW
    have wI := j_newW_wI hW (fun c c0 c1 => by rw [j_ns1e _ _ _ (by omega)]; exact k2 c (by omega) (by omega))
    have o1 : ∀ c : Int, (c < a + 300 ∨ a + 322 < c) → S1.1 c = S.1 c ∧ S1.2 c = S.2 c ∧ V1 c = V c := fun c hc => by
      obtain ⟨q1, q2, q3⟩ := hW.1 c (by omega)
      exact ⟨q1.trans (j_ns1e _ _ _ (by omega)), q2.trans (j_ns2e _ _ _ (by omega)), q3.trans (j_nve _ _ (by omega))⟩
    have ka : S1.1 a = 31 := by rw [(o1 a (by omega)).1]; exact ht
    refine t1_24_15 h ka wI.1 ?_
    have s2 : ∀ c : Int, c ≠ a → (j_sp S1 a 1 (a + 300)).2 c = S1.2 c := fun c hc => j_up_ne hc
    have s1 : (j_sp S1 a 1 (a + 300)).2 a 1 = a + 300 := j_up_at _ _ _ _
    have up : ∀ x : Int, S.1 x ≠ 0 → S1.1 x = S.1 x := fun x hx => by
      by_cases c : a + 300 ≤ x ∧ x ≤ a + 429
      · exact absurd (k2 x c.1 c.2) hx
      · exact (o1 x (by omega)).1
    have LA : j_L (j_sp S1 a 1 (a + 300)) := j_L_of (fun x => by
      by_cases c : a + 300 ≤ x ∧ x ≤ a + 322
      · exact j_Lat_mono (S := S1) (fun _ _ => rfl) rfl (s2 x (by omega)) (wl x (by omega) (by omega))
      · by_cases c1 : x = a
        · have La := j_L_at L a
          rw [c1]
          have g := L.2.2.2.2.2.2.2.2.2.1 a ht
          obtain ⟨q0, q1, q2, q3, q4, q5, q6, q7, q8, q9⟩ := g
          have ref : ∀ i : Int, i ≠ 1 → (j_sp S1 a 1 (a + 300)).2 a i = S.2 a i := fun i hi => by
            show j_up S1.2 a 1 (a + 300) a i = _
            rw [j_up_off hi, (o1 a (by omega)).2.1]
          exact j_Lat_31 ka ⟨(ref 0 (by decide)).trans q0, (up _ (by rw [q1]; decide)).trans q1, (ref 2 (by decide)).trans q2, (up _ (by rw [q3]; decide)).trans q3, (ref 3 (by decide)).trans q4, (up _ (by rw [q5]; decide)).trans q5, (ref 4 (by decide)).trans q6, (up _ (by rw [q7]; decide)).trans q7, (ref 5 (by decide)).trans q8, (up _ (by rw [q9]; decide)).trans q9⟩
        · exact j_Lat_mono (S := S) up (o1 x (by omega)).1 ((s2 x c1).trans (o1 x (by omega)).2.1) (j_L_at L x))
    have nW : j_wI (j_sp S1 a 1 (a + 300)) V1 (a + 1) := j_wI_congr2 (fun c c0 c1 => ⟨(o1 c (by omega)).1, (s2 c (by omega)).trans (o1 c (by omega)).2.1, (o1 c (by omega)).2.2⟩) hw
    have kW : j_wI (j_sp S1 a 1 (a + 300)) V1 (a + 300) := j_wI_congr2 (S := S1) (fun c c0 c1 => ⟨rfl, s2 c (by omega), rfl⟩) wI
    refine t1_24_18 h LA hrm ka (by rw [s1]; exact kW.1) (m11_3 C.2.1) ⟨LA, by rw [s1]; omega, (by omega), by rw [s1]; omega, by rw [s1]; exact j_sI_slS kW.2.2.1, nW⟩ (by rw [hcs.1]; omega) (by rw [hcs.2]; omega) ?_
    intro S2 V2 hB
    rw [s1] at hB
    refine t1_24_29 h R ⟨rfl, j_sp S1 a 1 (a + 300), V1, hB, nW, s1, fun i hi => ?_, fun c c0 c1 => ?_, fun c hc => ⟨(o1 c hc).1, (o1 c hc).2.2⟩⟩ (by decide) (by decide)
    · show j_up S1.2 a 1 (a + 300) a i = _; rw [j_up_off hi, (o1 a (by omega)).2.1]
    · rw [s2 c c0]; exact (o1 c c1).2.1
  · omega
