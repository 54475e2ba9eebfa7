/-! THE REFERENCE: a block is parsed -/
theorem j_rd_wr {f : Int → Int} {len p wr size least most : Int} (h : 0 ≤ wr) : j_rd f len p wr size least most = (least, p, wr) := by unfold j_rd; rw [if_pos h]
theorem j_rd_cut {f : Int → Int} {len p wr size least most : Int} (h : wr < 0) (hc : len < p + size) : j_rd f len p wr size least most = (least, p, len) := by unfold j_rd; rw [if_neg (by omega), if_pos (by omega)]
theorem j_rd_bad {f : Int → Int} {len p wr size least most : Int} (h : wr < 0) (hc : p + size ≤ len) (hb : j_val f p size.toNat < least ∨ most < j_val f p size.toNat) : j_rd f len p wr size least most = (least, p, p) := by unfold j_rd; rw [if_neg (by omega), if_neg (by omega), if_pos hb]
theorem j_rd_good {f : Int → Int} {len p wr size least most : Int} (h : wr < 0) (hc : p + size ≤ len) (hb : ¬ (j_val f p size.toNat < least ∨ most < j_val f p size.toNat)) : j_rd f len p wr size least most = (j_val f p size.toNat, p + size, wr) := by unfold j_rd; rw [if_neg (by omega), if_neg (by omega), if_neg hb]
/-- the block of the reference -/
def j_mbk (V : jH) (a : Int) : Prop := 0 ≤ V (a + 1) 7 ∧ V (a + 1) 7 ≤ 4400 ∧ ∀ i : Int, 0 ≤ i → i < V (a + 1) 7 → 0 ≤ V (a + 8) i ∧ V (a + 8) i ≤ 255
def j_nx9 (V : jH) (a n : Int) (r : Int) (V' : jH) : Prop := (V (a + 1) 7 < V a 22 + n ∧ r = -1 ∧ V' = V) ∨ (V a 22 + n ≤ V (a + 1) 7 ∧ r = j_val (V (a + 8)) (V a 22) n.toNat ∧ 0 ≤ r ∧ r < 256 ^ n.toNat ∧ V' = j_up V a 22 (V a 22 + n))
theorem m13_36 (l : Launch) : M13_36 l 0 0 (fun a n S V => j_L S ∧ 0 ≤ a ∧ 1 ≤ n ∧ n ≤ 3 ∧ j_mbk V a ∧ 0 ≤ V a 22 ∧ V a 22 ≤ V (a + 1) 7) (fun a n S V r S' V' => S' = S ∧ j_nx9 V a n r V') := by
  refine e13_36 ?_
  rintro C G h hrm hcs hl hn a n S V ht ⟨L, a0, n0, n1, ⟨b0, b1, hb⟩, p0, p1⟩ R
  refine t13_36_0 h L ht (by omega) (fun q => ?_) (fun q => t13_36_16 h R ⟨rfl, Or.inl ⟨q, rfl, rfl⟩⟩ (Nat.le_refl _) (Nat.le_refl _))
  refine t13_36_18 h ?_
  have loop : ∀ (i : Int) (v : Int), (0 ≤ i ∧ i ≤ n ∧ v = j_val (V (a + 8)) (V a 22) i.toNat) → j_ok n_KT 4 C G 22 [(0, (2, a)), (1, (0, n)), (2, (0, v)), (3, (0, i))] [] S V 0 0 := by
    refine j_loop (N := n) (fun i v hi hI kk => ?_) (fun i v hi hI => ?_)
    · obtain ⟨i0, i1, e⟩ := hI
      have vb := j_val_bd (f := V (a + 8)) (p := V a 22) i.toNat (fun x x0 x1 => hb x (by omega) (by omega))
      have bx := hb (V a 22 + i) (by omega) (by omega)
      have hp : (256 : Int) ^ i.toNat ≤ 65536 := by
        have : i.toNat = 0 ∨ i.toNat = 1 ∨ i.toNat = 2 := by omega
        rcases this with z | z | z <;> rw [z] <;> decide
      rw [← e] at vb
      refine t13_36_22 h (fun z => absurd z (by omega)) (fun _ => ?_)
      refine t13_36_27 h L vb.1 (by omega) ht (by omega) (by omega) (by omega) (by omega) (by omega) bx.1 (by omega) (by omega) (by omega) (kk _ ⟨(by omega), (by omega), ?_⟩)
      rw [show (i + 1).toNat = i.toNat + 1 by omega]
      show _ = 256 * j_val (V (a + 8)) (V a 22) i.toNat + V (a + 8) (V a 22 + (i.toNat : Int))
      rw [← e, show ((i.toNat : Nat) : Int) = i by omega]
    · obtain ⟨i0, i1, e⟩ := hI
      have ei : i = n := by omega
      rw [ei] at e
      have vb := j_val_bd (f := V (a + 8)) (p := V a 22) n.toNat (fun x x0 x1 => hb x (by omega) (by omega))
      rw [← e] at vb
      exact t13_36_22 h (fun _ => t13_36_53 h ht (by omega) R ⟨rfl, Or.inr ⟨q, e, vb.1, vb.2, rfl⟩⟩ (Nat.le_refl _) (Nat.le_refl _)) (fun z => absurd z (by omega))
  exact loop 0 0 ⟨(by omega), (by omega), rfl⟩
theorem m13_37 (l : Launch) : M13_37 l 0 0 (fun a v n S V => j_L S ∧ j_I32 (V a 22 - n)) (fun a v n S V r S' V' => S' = S ∧ V' = V ∧ r = if v < 0 then V (a + 1) 7 else V a 22 - n) := by
  refine e13_37 ?_
  rintro C G h hrm hcs hl hn a v n S V ht ⟨L, hn9⟩ R
  exact t13_37_0 h (fun q => t13_37_14 h ht hn9 (t13_37_20 h R ⟨rfl, rfl, by rw [if_neg (by omega)]⟩ (Nat.le_refl _) (Nat.le_refl _))) (fun q => t13_37_4 h L ht (t13_37_20 h R ⟨rfl, rfl, by rw [if_pos q]⟩ (Nat.le_refl _) (Nat.le_refl _)))
/-- what parsing may change -/
def j_psF (V V' : jH) (a : Int) : Prop := (∀ c : Int, c ≠ a → c ≠ a + 21 → V' c = V c) ∧ ∀ j : Int, j ≠ 9 → j ≠ 10 → j ≠ 22 → j ≠ 23 → j ≠ 24 → j ≠ 25 → j ≠ 26 → j ≠ 27 → V' a j = V a j
theorem j_psF.tr {V V1 V2 : jH} {a : Int} (h : j_psF V V1 a) (h' : j_psF V1 V2 a) : j_psF V V2 a := ⟨fun c c0 c1 => (h'.1 c c0 c1).trans (h.1 c c0 c1), fun j z0 z1 z2 z3 z4 z5 z6 z7 => (h'.2 j z0 z1 z2 z3 z4 z5 z6 z7).trans (h.2 j z0 z1 z2 z3 z4 z5 z6 z7)⟩
theorem j_psF_up {V : jH} {a j x : Int} (hj : j = 9 ∨ j = 10 ∨ j = 22 ∨ j = 23 ∨ j = 24 ∨ j = 25 ∨ j = 26 ∨ j = 27) : j_psF V (j_up V a j x) a := ⟨fun c c0 _ => j_up_ne c0, fun i z0 z1 z2 z3 z4 z5 z6 z7 => j_up_off (by omega)⟩
theorem j_psF_rf {V : jH} {a : Int} : j_psF V V a := ⟨fun _ _ _ => rfl, fun _ _ _ _ _ _ _ _ _ => rfl⟩
theorem j_nx9_F {V V' : jH} {a n r : Int} (h : j_nx9 V a n r V') : j_psF V V' a ∧ (∀ j : Int, j ≠ 22 → V' a j = V a j) ∧ ∀ c : Int, c ≠ a → V' c = V c := by
  rcases h with ⟨_, _, e⟩ | ⟨_, _, _, _, e⟩
  · rw [e]; exact ⟨j_psF_rf, fun _ _ => rfl, fun _ _ => rfl⟩
  · rw [e]; exact ⟨j_psF_up (by omega), fun j hj => j_up_off hj, fun c hc => j_up_ne hc⟩
theorem j_mbk_congr {V V' : jH} {a : Int} (h : ∀ c : Int, c ≠ a → c ≠ a + 21 → V' c = V c) (hb : j_mbk V a) : j_mbk V' a := by
  unfold j_mbk
  rw [h (a + 1) (by omega) (by omega), h (a + 8) (by omega) (by omega)]; exact hb
/-- a deal is parsed -/
def j_pd9 (V : jH) (a part : Int) (r : Int) (V' : jH) : Prop := j_psF V V' a ∧ (∀ j : Int, j ≠ 22 → V' a j = V a j) ∧ (∀ i : Int, (i < 256 * part ∨ 256 * part + 256 ≤ i) → V' (a + 21) i = V (a + 21) i) ∧
  ((0 ≤ (j_rdD (V (a + 8)) (V (a + 1) 7) (V a 22) (-1) (V a 10)).2.1 ∧ r = (j_rdD (V (a + 8)) (V (a + 1) 7) (V a 22) (-1) (V a 10)).2.1) ∨ ((j_rdD (V (a + 8)) (V (a + 1) 7) (V a 22) (-1) (V a 10)).2.1 = -1 ∧ r = -1 ∧ V' a 22 = (j_rdD (V (a + 8)) (V (a + 1) 7) (V a 22) (-1) (V a 10)).1 ∧ 0 ≤ V' a 22 ∧ V' a 22 ≤ V (a + 1) 7 ∧ ∀ s : Int, 0 ≤ s → s < 256 → V' (a + 21) (256 * part + s) = (j_rdD (V (a + 8)) (V (a + 1) 7) (V a 22) (-1) (V a 10)).2.2.2.2 (s + 1)))
theorem m13_39 (l : Launch) : M13_39 l 0 0 (fun a part S V => j_L S ∧ 0 ≤ a ∧ 0 ≤ part ∧ part < 4 ∧ j_mbk V a ∧ 0 ≤ V a 22 ∧ V a 22 ≤ V (a + 1) 7 ∧ 256 ≤ V a 10 ∧ V a 10 ≤ 4096 ∧ ∀ s : Int, 0 ≤ s → s < 256 → V (a + 21) (256 * part + s) = 0) (fun a part S V r S' V' => S' = S ∧ j_pd9 V a part r V') := by
  refine e13_39 ?_
  rintro C G h hrm hcs hl hn a part S V ht ⟨L, a0, t0, t1, hbk, p0, p1, M0, M1, hz⟩ R
  obtain ⟨b0, b1, hb⟩ := id hbk
  generalize ef : V (a + 8) = f at *
  generalize el : V (a + 1) 7 = len at *
  generalize eM : V a 10 = M at *
  refine t13_39_0 h hrm ht (m13_36 C.2.1) ⟨L, a0, (by omega), (by omega), hbk, p0, by rw [el]; exact p1⟩ (Nat.zero_le _) (Nat.zero_le _) ?_
  rintro w S1 V1 ⟨e0, hw⟩
  subst e0
  obtain ⟨F1, F1a, F1c⟩ := j_nx9_F hw
  have hR1 : ∀ (r : Int), (j_rd f len (V a 22) (-1) 2 1 256).2.2 = r → 0 ≤ r → 0 ≤ (j_rdD f len (V a 22) (-1) M).2.1 ∧ (j_rdD f len (V a 22) (-1) M).2.1 = r := by
    intro r er r0
    have e : j_rdD f len (V a 22) (-1) M = j_rdL f len (j_rd f len (V a 22) (-1) 2 1 256).1 (j_rd f len (V a 22) (-1) 2 1 256).2.1 (j_rd f len (V a 22) (-1) 2 1 256).2.2 M 0 := by
      have := j_rdL_stay (f := f) (len := len) (w := (j_rd f len (V a 22) (-1) 2 1 256).1) (p := (j_rd f len (V a 22) (-1) 2 1 256).2.1) (wr := (j_rd f len (V a 22) (-1) 2 1 256).2.2) (M := M) (n := 0) (by show 0 ≤ (j_rd f len (V a 22) (-1) 2 1 256).2.2; rw [er]; exact r0) (j_rd f len (V a 22) (-1) 2 1 256).1.toNat
      rw [Nat.zero_add] at this
      exact this
    rw [e]
    show 0 ≤ (j_rd f len (V a 22) (-1) 2 1 256).2.2 ∧ (j_rd f len (V a 22) (-1) 2 1 256).2.2 = r
    rw [er]; exact ⟨r0, rfl⟩
  unfold j_pd9 at R
  rw [ef, el, eM] at R
  refine t13_39_5 h hrm (m13_3 C.2.1) trivial (Nat.zero_le _) (Nat.zero_le _) ?_
  rintro y S2 V2 ⟨e0, e1, hy⟩
  subst e0; subst e1
  have c22 : j_I32 (V2 a 22 - 2) := by
    rcases hw with ⟨_, _, e⟩ | ⟨_, _, _, _, e⟩
    · rw [e]; constructor <;> omega
    · rw [e, j_up_at]; constructor <;> omega
  refine t13_39_15 h (fun q => ?_) (fun q => ?_)
  rotate_left
  · -- how many is wrong
    refine t13_39_18 h hrm ht (m13_37 C.2.1) ⟨L, c22⟩ (Nat.zero_le _) (Nat.zero_le _) ?_
    rintro r S3 V3 ⟨e0, e1, er⟩
    subst e0; subst e1
    have ew : (j_rd f len (V a 22) (-1) 2 1 256).2.2 = r ∧ 0 ≤ r := by
      have nw := hy.n q
      rw [F1c (a + 1) (by omega), el] at er
      rcases hw with ⟨g1, g2, g3⟩ | ⟨g1, g2, g3, g4, g5⟩
      · rw [el] at g1
        rw [j_rd_cut (by decide) g1, er, if_pos (by omega)]; exact ⟨rfl, b0⟩
      · rw [el] at g1
        rw [ef] at g2
        rw [j_rd_bad (by decide) g1 (by rw [← g2]; omega), er, if_neg (by omega), g5, j_up_at]
        exact ⟨by show V a 22 = _; omega, (by omega)⟩
    obtain ⟨z1, z2⟩ := hR1 r ew.1 ew.2
    exact t13_39_24 h R ⟨rfl, F1, F1a, fun i _ => by rw [F1c _ (by omega)], Or.inl ⟨z1, z2.symm⟩⟩ (Nat.le_refl _) (Nat.le_refl _)
  · obtain ⟨w0, w1⟩ := hy.y q
    obtain ⟨g1, g2, g3, g4, g5⟩ : V a 22 + 2 ≤ len ∧ w = j_val f (V a 22) 2 ∧ 0 ≤ w ∧ w < 256 ^ 2 ∧ V2 = j_up V a 22 (V a 22 + 2) := by
      rcases hw with ⟨_, z, _⟩ | ⟨g1, g2, g3, g4, g5⟩
      · omega
      · rw [el] at g1; rw [ef] at g2; exact ⟨g1, g2, g3, g4, g5⟩
    have erd : j_rd f len (V a 22) (-1) 2 1 256 = (w, V a 22 + 2, -1) := by
      rw [j_rd_good (by decide) g1 (by show ¬ (j_val f (V a 22) 2 < 1 ∨ 256 < j_val f (V a 22) 2); rw [← g2]; omega)]
      show (j_val f (V a 22) 2, V a 22 + 2, (-1 : Int)) = _
      rw [← g2]
    have eD : j_rdD f len (V a 22) (-1) M = j_rdL f len w (V a 22 + 2) (-1) M w.toNat := by unfold j_rdD; rw [erd]
    rw [eD] at R
    refine t13_39_25 h ?_
    have loop : ∀ (k : Int) (z : Int × Int × jH), (0 ≤ k ∧ k ≤ w ∧ (∃ pl : Int, j_rdL f len w (V a 22 + 2) (-1) M k.toNat = (pl, -1, M - z.2.1, z.1, (j_rdL f len w (V a 22 + 2) (-1) M k.toNat).2.2.2.2) ∧ z.2.2 a 22 = pl) ∧ 0 ≤ z.2.2 a 22 ∧ z.2.2 a 22 ≤ len ∧ -1 ≤ z.1 ∧ z.1 ≤ 255 ∧ 0 ≤ z.2.1 ∧ z.2.1 ≤ M ∧ (∀ s : Int, 0 ≤ s → s < 256 → z.2.2 (a + 21) (256 * part + s) = (j_rdL f len w (V a 22 + 2) (-1) M k.toNat).2.2.2.2 (s + 1)) ∧ (∀ i : Int, (i < 256 * part ∨ 256 * part + 256 ≤ i) → z.2.2 (a + 21) i = V (a + 21) i) ∧ (∀ j : Int, j ≠ 22 → z.2.2 a j = V a j) ∧ ∀ c : Int, c ≠ a → c ≠ a + 21 → z.2.2 c = V c) →
        j_ok n_KT 8 C G 33 [(0, (2, a)), (1, (0, part)), (2, (0, w)), (3, (0, z.1)), (4, (0, z.2.1)), (5, (0, k))] [] S2 z.2.2 0 0 := by
      refine j_loop (N := w) (fun k z hk hI kk => ?_) (fun k z hk hI => ?_)
      · obtain ⟨last, sum, V3⟩ := z
        obtain ⟨k0, k1, ⟨pl, eL, epl⟩, l0, l1, s0, s1, u0, u1, d1, d2, d3, d4⟩ := hI
        dsimp only at eL epl l0 l1 s0 s1 u0 u1 d1 d2 d3 d4 ⊢
        generalize eg : (j_rdL f len w (V a 22 + 2) (-1) M k.toNat).2.2.2.2 = g at *
        have F3 : j_psF V V3 a := ⟨d4, fun j z0 z1 z2 z3 z4 z5 z6 z7 => d3 j z2⟩
        have v8 : V3 (a + 8) = f := by rw [d4 _ (by omega) (by omega), ef]
        have v7 : V3 (a + 1) 7 = len := by rw [d4 _ (by omega) (by omega), el]
        have v10 : V3 a 10 = M := by rw [d3 10 (by decide), eM]
        have bk3 : j_mbk V3 a := by unfold j_mbk; rw [v8, v7]; exact ⟨b0, b1, fun i i0 i1 => hb i i0 i1⟩
        -- what a wrong place does
        have bad : ∀ r : Int, (j_rdL1 f len w k (pl, -1, M - sum, last, g)).2.1 = r → 0 ≤ r → 0 ≤ (j_rdL f len w (V a 22 + 2) (-1) M w.toNat).2.1 ∧ (j_rdL f len w (V a 22 + 2) (-1) M w.toNat).2.1 = r := by
          intro r er r0
          have e1 : j_rdL f len w (V a 22 + 2) (-1) M (k.toNat + 1) = j_rdL1 f len w k (pl, -1, M - sum, last, g) := by
            show j_rdL1 f len w ((k.toNat : Nat) : Int) (j_rdL f len w (V a 22 + 2) (-1) M k.toNat) = _
            rw [show ((k.toNat : Nat) : Int) = k by omega, eL]
          have st := j_rdL_stay (f := f) (len := len) (w := w) (p := V a 22 + 2) (wr := -1) (M := M) (n := k.toNat + 1) (by rw [e1, er]; exact r0) (w.toNat - (k.toNat + 1))
          rw [show k.toNat + 1 + (w.toNat - (k.toNat + 1)) = w.toNat by omega, e1] at st
          rw [st, er]; exact ⟨r0, rfl⟩
        refine t13_39_33 h (fun z => absurd z (by omega)) (fun _ => ?_)
        refine t13_39_39 h hrm ht (m13_36 C.2.1) ⟨L, a0, (by omega), (by omega), bk3, l0, by rw [v7]; exact l1⟩ (Nat.zero_le _) (Nat.zero_le _) ?_
        rintro s S4 V4 ⟨e0, hs⟩
        subst e0
        obtain ⟨F4, F4a, F4c⟩ := j_nx9_F hs
        have w7 : V4 (a + 1) 7 = len := by rw [F4c _ (by omega), v7]
        refine t13_39_44 h (fun q1 => ?_) (fun q1 => ?_)
        rotate_left
        · -- the sign is wrong
          have c22' : j_I32 (V4 a 22 - 1) := by
            rcases hs with ⟨_, _, e⟩ | ⟨z, _, _, _, e⟩
            · rw [e]; constructor <;> omega
            · rw [e, j_up_at]; rw [v7] at z; constructor <;> omega
          refine t13_39_52 h hrm ht (m13_37 C.2.1) ⟨L, c22'⟩ (Nat.zero_le _) (Nat.zero_le _) ?_
          rintro r S5 V5 ⟨e0, e1, er⟩
          subst e0; subst e1
          rw [w7] at er
          have hr : (j_rd f len pl (-1) 1 (last + 1) 255).2.2 = r ∧ 0 ≤ r := by
            rcases hs with ⟨x1, x2, x3⟩ | ⟨x1, x2, x3, x4, x5⟩
            · rw [v7, epl] at x1
              rw [j_rd_cut (by decide) x1, er, if_pos (by omega)]; exact ⟨rfl, b0⟩
            · rw [v7, epl] at x1
              rw [v8, epl] at x2
              rw [j_rd_bad (by decide) x1 (Or.inl (by show j_val f pl (1 : Int).toNat < last + 1; rw [← x2]; omega)), er, if_neg (by omega), x5, j_up_at, epl]
              exact ⟨by show pl = _; omega, (by omega)⟩
          have h2 := j_rdL1_at (f := f) (len := len) (w := w) (n := k) (p := pl) (wr := -1) (rest := M - sum) (sg := last) (g := g) (s := (j_rd f len pl (-1) 1 (last + 1) 255).1) (p1 := (j_rd f len pl (-1) 1 (last + 1) 255).2.1) (w1 := r) (v := j_lst w k (M - sum) - 1) (p2 := (j_rd f len pl (-1) 1 (last + 1) 255).2.1) (w2 := r) (by decide) (by rw [← hr.1]) (by rw [j_rd_wr hr.2])
          rw [if_pos hr.2] at h2
          obtain ⟨z1, z2⟩ := bad r (by rw [h2]) hr.2
          exact t13_39_59 h R ⟨rfl, F3.tr F4, fun j hj => by rw [F4a j hj]; exact d3 j hj, fun i hi => by rw [F4c _ (by omega)]; exact d2 i hi, Or.inl ⟨z1, z2.symm⟩⟩ (Nat.le_refl _) (Nat.le_refl _)
        · obtain ⟨x1, x2, x3, x4, x5⟩ : pl + 1 ≤ len ∧ s = j_val f pl 1 ∧ 0 ≤ s ∧ s < 256 ^ 1 ∧ V4 = j_up V3 a 22 (pl + 1) := by
            rcases hs with ⟨_, z, _⟩ | ⟨x1, x2, x3, x4, x5⟩
            · omega
            · rw [v7, epl] at x1; rw [v8, epl] at x2; rw [epl] at x5; exact ⟨x1, x2, x3, x4, x5⟩
          have x4 : s < 256 := x4
          have r1 : j_rd f len pl (-1) 1 (last + 1) 255 = (s, pl + 1, -1) := by
            rw [j_rd_good (by decide) x1 (by show ¬ (j_val f pl 1 < last + 1 ∨ 255 < j_val f pl 1); rw [← x2]; omega)]
            show (j_val f pl 1, pl + 1, (-1 : Int)) = _
            rw [← x2]
          have c4 : V4 a 22 = pl + 1 := by rw [x5, j_up_at]
          have w8 : V4 (a + 8) = f := by rw [F4c _ (by omega), v8]
          have bk4 : j_mbk V4 a := by unfold j_mbk; rw [w8, w7]; exact ⟨b0, b1, fun i i0 i1 => hb i i0 i1⟩
          refine t13_39_60 h hrm ht (m13_36 C.2.1) ⟨L, a0, (by omega), (by omega), bk4, by rw [c4]; omega, by rw [c4, w7]; exact x1⟩ (Nat.zero_le _) (Nat.zero_le _) ?_
          rintro v S5 V5 ⟨e0, hv⟩
          subst e0
          obtain ⟨F5, F5a, F5c⟩ := j_nx9_F hv
          have F35 := (F3.tr F4).tr F5
          have n7 : V5 (a + 1) 7 = len := by rw [F5c _ (by omega), w7]
          have out : ∀ i : Int, (i < 256 * part ∨ 256 * part + 256 ≤ i) → V5 (a + 21) i = V (a + 21) i := fun i hi => by rw [F5c _ (by omega), F4c _ (by omega)]; exact d2 i hi
          have fa : ∀ j : Int, j ≠ 22 → V5 a j = V a j := fun j hj => by rw [F5a j hj, F4a j hj]; exact d3 j hj
          refine t13_39_68 h (fun q2 => ?_) (fun q2 => ?_)
          rotate_left
          · -- the shares are cut
            have y1 : len < pl + 1 + 2 := by
              rcases hv with ⟨z, _, _⟩ | ⟨_, _, z, _⟩
              · rw [w7, c4] at z; exact z
              · omega
            have r2 : j_rd f len (pl + 1) (-1) 2 (j_lst w k (M - sum) - 1) (M - sum - 1) = (j_lst w k (M - sum) - 1, pl + 1, len) := j_rd_cut (by decide) y1
            have h2 := j_rdL1_at (f := f) (len := len) (w := w) (n := k) (p := pl) (wr := -1) (rest := M - sum) (sg := last) (g := g) (by decide) r1.symm r2.symm
            rw [if_pos b0] at h2
            obtain ⟨z1, z2⟩ := bad len (by rw [h2]) b0
            exact t13_39_75 h L ht R ⟨rfl, F35, fa, out, Or.inl ⟨z1, by rw [n7]; exact z2.symm⟩⟩ (Nat.le_refl _) (Nat.le_refl _)
          · obtain ⟨y1, y2, y3, y4, y5⟩ : pl + 1 + 2 ≤ len ∧ v = j_val f (pl + 1) 2 ∧ 0 ≤ v ∧ v < 256 ^ 2 ∧ V5 = j_up V4 a 22 (pl + 1 + 2) := by
              rcases hv with ⟨_, z, _⟩ | ⟨y1, y2, y3, y4, y5⟩
              · omega
              · rw [w7, c4] at y1; rw [w8, c4] at y2; rw [c4] at y5; exact ⟨y1, y2, y3, y4, y5⟩
            have y4 : v < 65536 := y4
            have c5 : V5 a 22 = pl + 1 + 2 := by rw [y5, j_up_at]
            have n10 : V5 a 10 = M := by rw [F5a 10 (by decide), F4a 10 (by decide), v10]
            -- the shares are wrong
            have badv : (v < j_lst w k (M - sum) - 1 ∨ M - sum - 1 < v) → j_ok n_KT 8 C G 129 [(0, (2, a))] [] S5 V5 0 0 := by
              intro hbv
              have r2 : j_rd f len (pl + 1) (-1) 2 (j_lst w k (M - sum) - 1) (M - sum - 1) = (j_lst w k (M - sum) - 1, pl + 1, pl + 1) := j_rd_bad (by decide) y1 (by show j_val f (pl + 1) 2 < _ ∨ _ < j_val f (pl + 1) 2; rw [← y2]; exact hbv)
              have h2 := j_rdL1_at (f := f) (len := len) (w := w) (n := k) (p := pl) (wr := -1) (rest := M - sum) (sg := last) (g := g) (by decide) r1.symm r2.symm
              rw [if_pos (by omega)] at h2
              obtain ⟨z1, z2⟩ := bad (pl + 1) (by rw [h2]) (by omega)
              refine t13_39_129 h ht (by rw [c5]; omega) R ⟨rfl, F35, fa, out, Or.inl ⟨z1, ?_⟩⟩ (Nat.le_refl _) (Nat.le_refl _)
              rw [z2, c5]; omega
            have good : ¬ (v < j_lst w k (M - sum) - 1 ∨ M - sum - 1 < v) → j_ok n_KT 8 C G 136 [(0, (2, a)), (1, (0, part)), (2, (0, w)), (3, (0, s)), (4, (0, sum + (v + 1))), (5, (0, k)), (6, (0, s)), (7, (0, v))] [] S5 V5 0 0 := by
              intro hgv
              have r2 : j_rd f len (pl + 1) (-1) 2 (j_lst w k (M - sum) - 1) (M - sum - 1) = (v, pl + 1 + 2, -1) := by
                rw [j_rd_good (by decide) y1 (by show ¬ (j_val f (pl + 1) 2 < _ ∨ _ < j_val f (pl + 1) 2); rw [← y2]; exact hgv)]
                show (j_val f (pl + 1) 2, pl + 1 + 2, (-1 : Int)) = _
                rw [← y2]
              have h2 := j_rdL1_at (f := f) (len := len) (w := w) (n := k) (p := pl) (wr := -1) (rest := M - sum) (sg := last) (g := g) (by decide) r1.symm r2.symm
              rw [if_neg (by decide)] at h2
              have e1 : j_rdL f len w (V a 22 + 2) (-1) M (k + 1).toNat = (pl + 1 + 2, -1, M - sum - (1 + v), s, j_u g (s + 1) (1 + v)) := by
                rw [show (k + 1).toNat = k.toNat + 1 by omega]
                show j_rdL1 f len w ((k.toNat : Nat) : Int) (j_rdL f len w (V a 22 + 2) (-1) M k.toNat) = _
                rw [show ((k.toNat : Nat) : Int) = k by omega, eL, h2]
              refine t13_39_136 h L ht (by omega) (by omega) (by omega) (by omega) (by omega) (by omega) (kk (s, sum + (v + 1), _) ⟨(by omega), (by omega), ⟨pl + 1 + 2, ?_, ?_⟩, ?_, ?_, by show -1 ≤ s; omega, by show s ≤ 255; omega, by show 0 ≤ sum + (v + 1); omega, by show sum + (v + 1) ≤ M; omega, fun x z0 z1 => ?_, fun i hi => ?_, fun j hj => ?_, fun c z0 z1 => ?_⟩)
              · rw [e1]; show _ = (pl + 1 + 2, -1, M - (sum + (v + 1)), s, _); rw [show M - sum - (1 + v) = M - (sum + (v + 1)) by omega]
              · show j_up V5 (a + 21) _ _ a 22 = _; rw [j_up_ne (by omega)]; exact c5
              · show 0 ≤ j_up V5 (a + 21) _ _ a 22; rw [j_up_ne (by omega), c5]; omega
              · show j_up V5 (a + 21) _ _ a 22 ≤ len; rw [j_up_ne (by omega), c5]; exact y1
              · show j_up V5 (a + 21) (256 * part + s) (v + 1) (a + 21) (256 * part + x) = _
                rw [e1]
                show _ = j_u g (s + 1) (1 + v) (x + 1)
                by_cases e : x = s
                · rw [e, j_up_at, j_u_at]; omega
                · rw [j_up_off (by omega), j_u_ne (by omega), F5c _ (by omega), F4c _ (by omega)]; exact d1 x z0 z1
              · show j_up V5 (a + 21) (256 * part + s) (v + 1) (a + 21) i = _
                rw [j_up_off (by omega)]; exact out i hi
              · show j_up V5 (a + 21) (256 * part + s) (v + 1) a j = _
                rw [j_up_ne (by omega)]; exact fa j hj
              · show j_up V5 (a + 21) (256 * part + s) (v + 1) c = _
                rw [j_up_ne z1]; exact F35.1 c z0 z1
            refine t13_39_83 h (by omega) (by omega) ht (fun z => badv (by rw [n10] at z; unfold j_lst; right; omega)) (fun z => ?_)
            refine t13_39_103 h ht (fun z2 => badv (by rw [n10] at z2; right; omega)) (fun z2 => ?_)
            rw [n10] at z2
            refine t13_39_112 h (by omega) (fun z3 => good (by unfold j_lst; rw [if_neg z3]; omega)) (fun z3 => ?_)
            exact t13_39_120 h ht (fun z4 => good (by rw [n10] at z4; unfold j_lst; rw [if_pos z3]; omega)) (fun z4 => badv (by rw [n10] at z4; unfold j_lst; rw [if_pos z3]; left; omega))
      · obtain ⟨last, sum, V3⟩ := z
        obtain ⟨k0, k1, ⟨pl, eL, epl⟩, l0, l1, s0, s1, u0, u1, d1, d2, d3, d4⟩ := hI
        dsimp only at eL epl l0 l1 s0 s1 u0 u1 d1 d2 d3 d4 ⊢
        have ek : k = w := by omega
        rw [ek] at eL d1
        refine t13_39_33 h (fun _ => t13_39_159 h R ⟨rfl, ⟨d4, fun j z0 z1 z2 z3 z4 z5 z6 z7 => d3 j z2⟩, d3, d2, Or.inr ⟨by rw [eL], rfl, by rw [eL]; exact epl, l0, l1, d1⟩⟩ (Nat.le_refl _) (Nat.le_refl _)) (fun z => absurd z (by omega))
    have c2 : V2 a 22 = V a 22 + 2 := by rw [g5, j_up_at]
    refine loop 0 (-1, 0, V2) ⟨(by omega), (by omega), ⟨V a 22 + 2, ?_, c2⟩, by show 0 ≤ V2 a 22; omega, by show V2 a 22 ≤ len; omega, by show (-1 : Int) ≤ -1; omega, by show (-1 : Int) ≤ 255; omega, by show (0 : Int) ≤ 0; omega, by show (0 : Int) ≤ M; omega, fun s s0 s1 => ?_, fun i _ => ?_, fun j hj => F1a j hj, fun c c0 _ => F1c c c0⟩
    · show (V a 22 + 2, (-1 : Int), M, (-1 : Int), fun _ => (0 : Int)) = (V a 22 + 2, -1, M - 0, -1, fun _ => 0)
      rw [show M - 0 = M by omega]
    · show V2 (a + 21) _ = 0; rw [F1c _ (by omega)]; exact hz s s0 s1
    · show V2 (a + 21) i = _; rw [F1c _ (by omega)]
