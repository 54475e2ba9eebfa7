/-! THE REFERENCE: all signs of a block are taken -/
abbrev j_TR (V : jH) (a r : Int) : Nat → Option ((Int → Int) × Int × (Int → Int)) := j_tk (V (a + 8)) (V (a + 1) 7) (V a 26) (j_M r) (V a 23) (V a 9) r (j_rB (V (a + 21))) (fun l => j_val (V (a + 8)) (V a 25 + 3 * l) 3) (V a 27)
abbrev j_DR (V : jH) (a r : Int) (w : Int → Int) : Int → Int → Int := j_D (V a 9) r (j_rB (V (a + 21))) w
/-- i signs are taken, u bytes are left -/
def j_rkJ (V : jH) (a r i u : Int) (V2 : jH) (X w : Int → Int) : Prop := j_TR V a r i.toNat = some (X, u, w) ∧ (∀ y : Int, 0 ≤ y → y < V a 23 → V2 (a + 24) y = X y ∧ j_M r ≤ X y ∧ X y < 256 * j_M r) ∧ (∀ x : Int, 0 ≤ x → x < i → 0 ≤ w x ∧ w x < 256) ∧ (V a 9 = 4 → ∀ j : Int, 0 ≤ j → j ≤ 256 → j_pre (V2 (a + 21)) j = j_G r w i.toNat j) ∧ (V a 9 ≠ 4 → V2 (a + 21) = V (a + 21)) ∧ 0 ≤ u ∧ u ≤ V a 27 ∧
  ∀ x : Int, 0 ≤ x → x < i → V2 (a + 28) x = w x ∧ V2 (a + 22) x = j_sh (j_DR V a r w x) (w x) ∧ V2 (a + 23) x = j_DR V a r w x (w x) ∧ ∃ (X' : Int → Int) (u' : Int) (w' : Int → Int), j_TR V a r (x + 1).toNat = some (X', u', w') ∧ V2 (a + 29) x = X' (x % V a 23) ∧ V2 (a + 30) x = u'
def j_rkI (V : jH) (a r i u : Int) (V2 : jH) : Prop := ∃ X w : Int → Int, j_rkJ V a r i u V2 X w
def j_rkF (V V2 : jH) (a : Int) : Prop := (∀ c : Int, c ≠ a → c ≠ a + 21 → c ≠ a + 22 → c ≠ a + 23 → c ≠ a + 24 → c ≠ a + 28 → c ≠ a + 29 → c ≠ a + 30 → V2 c = V c) ∧ ∀ j : Int, j ≠ 12 → j ≠ 13 → j ≠ 22 → V2 a j = V a j
theorem j_rkF.tr {V V1 V2 : jH} {a : Int} (h : j_rkF V V1 a) (h' : j_rkF V1 V2 a) : j_rkF V V2 a := ⟨fun c z0 z1 z2 z3 z4 z5 z6 z7 => (h'.1 c z0 z1 z2 z3 z4 z5 z6 z7).trans (h.1 c z0 z1 z2 z3 z4 z5 z6 z7), fun j z0 z1 z2 => (h'.2 j z0 z1 z2).trans (h.2 j z0 z1 z2)⟩
theorem j_TR_step {V : jH} {a r i u x u' s : Int} {X w : Int → Int} (i0 : 0 ≤ i) (t1 : j_TR V a r i.toNat = some (X, u, w)) (es : s = j_sg (j_DR V a r w i) (X (i % V a 23) % j_M r)) {o : Option (Int × Int)} (hr : j_refl (V (a + 8)) (V (a + 1) 7) (V a 26) (j_M r) 2 (j_sh (j_DR V a r w i) s * (X (i % V a 23) / j_M r) + X (i % V a 23) % j_M r - j_DR V a r w i s) u = o) : j_TR V a r (i + 1).toNat = o.map (fun z => (j_u X (i % V a 23) z.1, z.2, j_u w i s)) := by
  rw [show (i + 1).toNat = i.toNat + 1 by omega]
  show (j_TR V a r i.toNat).bind _ = _
  rw [t1]
  show j_tk1 _ _ _ _ _ _ _ _ _ (X, u, w) = _
  unfold j_tk1
  dsimp only
  rw [show ((i.toNat : Nat) : Int) = i by omega, ← es, hr]
theorem j_rkJ_step {V V2 V3 : jH} {a r i u x u' s : Int} {X w : Int → Int} (i0 : 0 ≤ i) (l0 : 1 ≤ V a 23) (hI : j_rkJ V a r i u V2 X w) (eT : j_TR V a r (i + 1).toNat = some (j_u X (i % V a 23) x, u', j_u w i s)) (s0 : 0 ≤ s) (s1 : s < 256) (x0 : j_M r ≤ x) (x1 : x < 256 * j_M r) (u0 : 0 ≤ u') (u1 : u' ≤ u)
    (h24 : V3 (a + 24) = j_u (V2 (a + 24)) (i % V a 23) x) (h28 : V3 (a + 28) = j_u (V2 (a + 28)) i s) (h29 : V3 (a + 29) = j_u (V2 (a + 29)) i x) (h30 : V3 (a + 30) = j_u (V2 (a + 30)) i u') (h22 : V3 (a + 22) = j_u (V2 (a + 22)) i (j_sh (j_DR V a r w i) s)) (h23 : V3 (a + 23) = j_u (V2 (a + 23)) i (j_DR V a r w i s))
    (h4 : V a 9 = 4 → ∀ j : Int, 0 ≤ j → j ≤ 256 → j_pre (V3 (a + 21)) j = j_gr (j_pre (V2 (a + 21))) s j) (h5 : V a 9 ≠ 4 → V3 (a + 21) = V2 (a + 21)) : j_rkJ V a r (i + 1) u' V3 (j_u X (i % V a 23) x) (j_u w i s) := by
  obtain ⟨t1, t2, t4, t6, t7, t8, t9, t10⟩ := hI
  have wc : ∀ y : Int, 0 ≤ y → y < i → j_u w i s y = w y := fun y y0 y1 => j_u_ne (by omega)
  refine ⟨eT, fun y y0 y1 => ?_, fun y y0 y1 => ?_, fun hk j j0 j1 => ?_, fun hk => by rw [h5 hk]; exact t7 hk, u0, (by omega), fun y y0 y1 => ?_⟩
  · rw [h24]
    by_cases e : y = i % V a 23
    · rw [e, j_u_at, j_u_at]; exact ⟨rfl, x0, x1⟩
    · rw [j_u_ne e, j_u_ne e]; exact t2 y y0 y1
  · by_cases e : y = i
    · rw [e, j_u_at]; exact ⟨s0, s1⟩
    · rw [j_u_ne e]; exact t4 y y0 (by omega)
  · rw [h4 hk j j0 j1, show (i + 1).toNat = i.toNat + 1 by omega]
    show _ = j_gr (j_G r (j_u w i s) i.toNat) (j_u w i s ((i.toNat : Nat) : Int)) j
    rw [show ((i.toNat : Nat) : Int) = i by omega, j_u_at, j_G_congr (w := w) i.toNat (fun y y0 y1 => wc y y0 (by omega))]
    exact j_gr_congr (t6 hk) j0 j1
  · have eD : j_DR V a r (j_u w i s) y = j_DR V a r w y := j_D_congr y0 (fun z z0 z1 => wc z z0 (by omega))
    rw [eD, h28, h22, h23, h29, h30]
    by_cases e : y = i
    · rw [e, j_u_at, j_u_at, j_u_at, j_u_at, j_u_at, j_u_at]
      exact ⟨rfl, rfl, rfl, _, _, _, eT, by rw [j_u_at], rfl⟩
    · rw [j_u_ne e, j_u_ne e, j_u_ne e, j_u_ne e, j_u_ne e, j_u_ne e]
      exact t10 y y0 (by omega)
/-- the deal for the next sign, as the reference sees it -/
theorem j_DR_at {V V2 : jH} {a r i u p : Int} {X w : Int → Int} (i0 : 0 ≤ i) (hI : j_rkJ V a r i u V2 X w) (ep : p = j_bef w i % 4) : ∀ j : Int, 0 ≤ j → j ≤ 256 → j_pre (j_rs (V2 (a + 21)) (j_do (V a 9) p)) j = j_DR V a r w i j := by
  intro j j0 j1
  obtain ⟨t1, t2, t4, t6, t7, t8, t9, t10⟩ := hI
  unfold j_do
  show _ = j_D (V a 9) r (j_rB (V (a + 21))) w i j
  unfold j_D
  by_cases k4 : V a 9 = 4
  · rw [if_pos k4, if_neg (show ¬ V a 9 = 3 by omega)]
    show j_pre (j_rs (V2 (a + 21)) 0) j = _
    rw [j_rs0]
    exact t6 k4 j j0 j1
  · rw [if_neg k4, t7 k4]
    by_cases k3 : V a 9 = 3
    · rw [if_pos k3, if_pos k3, ep]; rfl
    · rw [if_neg k3, if_neg k3]; rfl
def j_rkP (V : jH) (a r : Int) : Prop := j_mbk V a ∧ (8 ≤ r ∧ r ≤ 12 ∧ V a 10 = j_M r) ∧ (0 ≤ V a 9 ∧ V a 9 ≤ 4) ∧ (1 ≤ V a 23 ∧ V a 23 ≤ 4) ∧ (0 ≤ V a 24 ∧ V a 24 ≤ 400) ∧ (0 ≤ V a 26 ∧ 0 ≤ V a 27 ∧ V a 26 + V a 27 ≤ V (a + 1) 7) ∧ (∀ q : Int, 0 ≤ q → q < j_parts (V a 9) → j_dl (j_rB (V (a + 21)) q) 0 (j_M r)) ∧ (V a 9 = 4 → ∀ j : Int, 0 ≤ j → j ≤ 256 → j_pre (V (a + 21)) j = j_G r (fun _ => 0) 0 j) ∧
  0 ≤ V a 25 ∧ V a 25 + 3 * V a 23 ≤ V (a + 1) 7 ∧ ∀ l : Int, 0 ≤ l → l < V a 23 → j_M r ≤ j_val (V (a + 8)) (V a 25 + 3 * l) 3 ∧ j_val (V (a + 8)) (V a 25 + 3 * l) 3 < 256 * j_M r
/-- the block comes out right -/
def j_rkT (V : jH) (a r : Int) : Prop := ∃ X w : Int → Int, j_TR V a r (V a 24).toNat = some (X, 0, w) ∧ ∀ y : Int, 0 ≤ y → y < V a 23 → X y = j_M r
theorem m13_40 (l : Launch) (r : Int) : M13_40 l 0 0 (fun a S V => j_L S ∧ 0 ≤ a ∧ j_rkP V a r) (fun a S V x S' V' => S' = S ∧ j_rkF V V' a ∧ j_says x (j_rkT V a r) ∧ (x = 1 → j_rkI V a r (V a 24) 0 V')) := by
  refine e13_40 ?_
  rintro C G h hrm hcs hl hn a S V ht ⟨L, a0, hbk, ⟨r0, r1, h10⟩, ⟨k0, k1⟩, ⟨l0, l1⟩, ⟨n0, n1⟩, ⟨st0, u0, u1⟩, hDl, hD4, p0, p1, hX⟩ R
  obtain ⟨b0, b1, hb⟩ := id hbk
  have hm := j_M_bd r0 r1
  generalize en : V a 24 = n at *
  -- the signs, and the end
  have run : ∀ (i : Int) (q : Int × jH), (0 ≤ i ∧ i ≤ n ∧ j_rkI V a r i q.1 q.2 ∧ j_rkF V q.2 a) → j_ok n_KT 8 C G 43 [(0, (2, a)), (1, (0, q.1)), (2, (0, i))] [] S q.2 0 0 := by
    refine j_loop (N := n) (fun i q hi hI kk => ?_) (fun i q hi hI => ?_)
    · obtain ⟨u, V2⟩ := q
      obtain ⟨i0, i1, ⟨X, w, hJ⟩, F2⟩ := hI
      dsimp only at hJ F2 ⊢
      obtain ⟨t1, t2, t4, t6, t7, t8, t9, t10⟩ := id hJ
      have y9 : V2 a 9 = V a 9 := F2.2 9 (by decide) (by decide) (by decide)
      have y10 : V2 a 10 = j_M r := by rw [F2.2 10 (by decide) (by decide) (by decide)]; exact h10
      have y23 : V2 a 23 = V a 23 := F2.2 23 (by decide) (by decide) (by decide)
      have y24 : V2 a 24 = n := by rw [F2.2 24 (by decide) (by decide) (by decide)]; exact en
      have m0 : 0 ≤ i % V a 23 := Int.emod_nonneg _ (by omega)
      have m1 : i % V a 23 < V a 23 := Int.emod_lt_of_pos _ (by omega)
      obtain ⟨x2, x0, x1⟩ := t2 _ m0 m1
      have hD := j_D_dl (B := j_rB (V (a + 21))) (k := V a 9) (w := w) r0 r1 hDl t4 i0 (Int.le_refl i)
      have hD : j_dl (j_DR V a r w i) 0 (j_M r) := hD
      have sl0 : 0 ≤ X (i % V a 23) % j_M r := Int.emod_nonneg _ (by omega)
      have sl1 : X (i % V a 23) % j_M r < j_M r := Int.emod_lt_of_pos _ (by omega)
      have ew : j_w32 (X (i % V a 23) % j_M r) = X (i % V a 23) % j_M r := j_w32_in (by omega) (by omega)
      have q0 : 0 ≤ X (i % V a 23) / j_M r := Int.ediv_nonneg (by omega) (by omega)
      have q1 : X (i % V a 23) / j_M r < 256 := Int.ediv_lt_of_lt_mul (by omega) x1
      have q2 : 1 ≤ X (i % V a 23) / j_M r := Int.le_ediv_of_mul_le (by omega) (by omega)
      refine t13_40_43 h ht (fun z => absurd z (by rw [y24]; omega)) (fun _ => ?_)
      have at91 : ∀ p : Int, p = j_bef w i % 4 → j_ok n_KT 8 C G 91 [(0, (2, a)), (1, (0, u)), (2, (0, i)), (3, (1, X (i % V a 23))), (5, (0, X (i % V a 23) % j_M r))] [(0, p)] S V2 0 0 := by
        intro p ep
        have hE := j_DR_at i0 hJ ep
        have p0 : 0 ≤ p := by rw [ep]; exact Int.emod_nonneg _ (by omega)
        have p1 : p < 4 := by rw [ep]; exact Int.emod_lt_of_pos _ (by omega)
        refine t13_40_91 h hrm ht (m13_24 C.2.1) ⟨L, p0, p1, (by omega), (by omega), fun x z0 z1 => by rw [y9, hE x z0 z1]; have := j_dl_bd hD (Int.le_refl _) x z0 z1; omega⟩ (Nat.zero_le _) (Nat.zero_le _) ?_
        rintro S3 V3 ⟨e0, s1, s2, s3, s4⟩
        subst e0
        rw [y9] at s1 s2
        have e21 : V3 (a + 21) = V2 (a + 21) := s4 _ (by omega)
        have shr : ∀ s : Int, 0 ≤ s → s < 256 → V2 (a + 21) (j_do (V a 9) p + s) = j_DR V a r w i (s + 1) - j_DR V a r w i s := fun s z0 z1 => by
          have := j_sh_pre (j_rs (V2 (a + 21)) (j_do (V a 9) p)) z0
          rw [← hE s z0 (by omega), ← hE (s + 1) (by omega) (by omega)]
          exact this.symm
        generalize eD : j_DR V a r w i = D at *
        -- the sign is sought
        have seek : ∀ (s : Int) (V4 : jH), (0 ≤ s ∧ s ≤ 255 ∧ D s ≤ X (i % V a 23) % j_M r ∧ V4 a 12 = D (s + 1) - D s ∧ V4 a 13 = D s ∧ (∀ j : Int, j ≠ 12 → j ≠ 13 → V4 a j = V2 a j) ∧ ∀ c : Int, c ≠ a → V4 c = V2 c) → j_ok n_KT 8 C G 103 [(0, (2, a)), (1, (0, u)), (2, (0, i)), (3, (1, X (i % V a 23))), (5, (0, X (i % V a 23) % j_M r)), (6, (0, p)), (7, (0, s))] [] S3 V4 0 0 := by
          refine j_loop (N := 256) (fun s V4 hs hI kk2 => ?_) (fun s V4 hs hI => absurd hI.2.1 (by omega))
          obtain ⟨g0, g1, g2, g3, g4, g5, g6⟩ := hI
          have F4 : j_rkF V2 V4 a := ⟨fun c z0 _ _ _ _ _ _ _ => g6 c z0, fun j z0 z1 _ => g5 j z0 z1⟩
          have w10 : V4 a 10 = j_M r := by rw [g5 10 (by decide) (by decide)]; exact y10
          have d0 := j_dl_bd hD (Int.le_refl _) s g0 (by omega)
          have d1 := j_dl_bd hD (Int.le_refl _) (s + 1) (by omega) (by omega)
          have ds : 0 ≤ D (s + 1) - D s := hD.2.2 s g0 (by omega)
          refine t13_40_103 h ht (by rw [g3, g4]; constructor <;> omega) (fun z => ?_) (fun z => ?_)
          · rw [g3, g4] at z
            have es : s = j_sg D (X (i % V a 23) % j_M r) := (j_sgN_eq hD g0 g2 (by omega) 256 (by omega) (by omega)).symm
            have pm := j_mulb ds (show D (s + 1) - D s ≤ 4096 by omega) q0 (show X (i % V a 23) / j_M r ≤ 255 by omega)
            have pl : (D (s + 1) - D s) * 1 ≤ (D (s + 1) - D s) * (X (i % V a 23) / j_M r) := Int.mul_le_mul_of_nonneg_left q2 ds
            have pu : (D (s + 1) - D s) * (X (i % V a 23) / j_M r) ≤ (D (s + 1) - D s) * 255 := Int.mul_le_mul_of_nonneg_left (by omega) ds
            refine t13_40_148 h ht (by omega) (by rw [w10]; omega) (by rw [g3, w10]; constructor <;> omega) (by rw [g3, w10]; constructor <;> omega) (by rw [g3, g4, w10]; constructor <;> omega) ?_
            rw [g3, g4, w10]
            have hyb : 1 ≤ (D (s + 1) - D s) * (X (i % V a 23) / j_M r) + X (i % V a 23) % j_M r - D s ∧ (D (s + 1) - D s) * (X (i % V a 23) / j_M r) + X (i % V a 23) % j_M r - D s < 256 * j_M r := by
              have pn : (D (s + 1) - D s) * (X (i % V a 23) / j_M r) + (X (i % V a 23) % j_M r - D s) < (D (s + 1) - D s) * 255 + (D (s + 1) - D s) := by omega
              constructor <;> omega
            generalize hy : (D (s + 1) - D s) * (X (i % V a 23) / j_M r) + X (i % V a 23) % j_M r - D s = y at *
            have stp : ∀ {o : Option (Int × Int)}, j_refl (V (a + 8)) (V (a + 1) 7) (V a 26) (j_M r) 2 y u = o → j_TR V a r (i + 1).toNat = o.map (fun z => (j_u X (i % V a 23) z.1, z.2, j_u w i s)) := fun {o} hr => j_TR_step (x := 0) (u' := 0) i0 t1 (by rw [eD]; exact es) (by rw [eD]; show j_refl _ _ _ _ 2 ((D (s + 1) - D s) * (X (i % V a 23) / j_M r) + X (i % V a 23) % j_M r - D s) u = o; rw [hy]; exact hr)
            -- bytes are taken
            have fill : ∀ (m : Nat) (x v : Int), m ≤ 2 → 0 ≤ x → x < 256 * j_M r → 0 ≤ v → v ≤ u → (m = 0 → j_M r ≤ x) → (m = 1 → j_M r ≤ 256 * x) → (m = 2 → j_M r ≤ 65536 * x) →
                (∀ x' v' : Int, j_refl (V (a + 8)) (V (a + 1) 7) (V a 26) (j_M r) m x v = some (x', v') → j_ok n_KT 8 C G 216 [(0, (2, a)), (1, (0, v')), (2, (0, i)), (3, (1, x')), (7, (0, s))] [] S3 V4 0 0) →
                (j_refl (V (a + 8)) (V (a + 1) 7) (V a 26) (j_M r) m x v = none → j_ok n_KT 8 C G 186 [] [] S3 V4 0 0) → j_ok n_KT 8 C G 172 [(0, (2, a)), (1, (0, v)), (2, (0, i)), (3, (1, x)), (7, (0, s))] [] S3 V4 0 0 := by
              intro m
              induction m with
              | zero =>
                intro x v _ _ _ _ _ c0 _ _ k1 _
                exact t13_40_172 h ht (fun _ => k1 x v rfl) (fun z => absurd z (by rw [w10]; have := c0 rfl; omega))
              | succ m ih =>
                intro x v hm2 xx0 xx1 v0 v1 c0 c1 c2 k1 k2
                unfold j_refl at k1 k2
                refine t13_40_172 h ht (fun z => ?_) (fun z => ?_)
                · rw [w10] at z
                  rw [if_pos z] at k1
                  exact k1 x v rfl
                · rw [w10] at z
                  rw [if_neg (by omega)] at k1 k2
                  refine t13_40_182 h (fun z2 => ?_) (fun z2 => ?_)
                  · rw [if_neg (by omega)] at k1 k2
                    have w26 : V4 a 26 = V a 26 := by rw [g5 26 (by decide) (by decide)]; exact F2.2 26 (by decide) (by decide) (by decide)
                    have w8 : V4 (a + 8) = V (a + 8) := by rw [g6 _ (by omega)]; exact F2.1 _ (by omega) (by omega) (by omega) (by omega) (by omega) (by omega) (by omega) (by omega)
                    have hby := hb (V a 26 + v - 1) (by omega) (by omega)
                    have eby : V4 (a + 8) (V4 a 26 + (v + -1)) = V (a + 8) (V a 26 + v - 1) := by rw [w8, w26, show V a 26 + (v + -1) = V a 26 + v - 1 by omega]
                    refine t13_40_188 h L (by omega) (by omega) ht (by rw [w26]; constructor <;> omega) (by rw [w26]; omega) (by rw [w26]; omega) (by rw [eby]; constructor <;> omega) ?_
                    rw [eby, show v + -1 = v - 1 by omega]
                    exact ih _ _ (by omega) (by omega) (by omega) (by omega) (by omega) (fun e => by have := c1 (by omega); omega) (fun e => by have := c2 (by omega); omega) (fun e => absurd e (by omega)) k1 k2
                  · rw [if_pos (Or.inl (by omega))] at k2
                    exact k2 rfl
            refine fill 2 y u (by omega) (by omega) hyb.2 t8 (by omega) (fun e => absurd e (by omega)) (fun e => absurd e (by omega)) (fun _ => (by omega)) (fun x' v' hr => ?_) (fun hr => ?_)
            · obtain ⟨rb1, rb2, rb3, rb4⟩ := j_refl_bd st0 hb 2 y u x' v' (by omega) hyb.2 t8 (fun e => absurd e (by omega)) (fun e => absurd e (by omega)) (fun _ => (by omega)) (by omega) hr
              have eT := stp hr
              have w23 : V4 a 23 = V a 23 := by rw [g5 23 (by decide) (by decide)]; exact y23
              have w9 : V4 a 9 = V a 9 := by rw [g5 9 (by decide) (by decide)]; exact y9
              have c21 : V4 (a + 21) = V2 (a + 21) := g6 _ (by omega)
              refine t13_40_216 h L hrm ht i0 (by rw [w23]; omega) (by rw [w23]; omega) (by rw [w23]; omega) (by omega) (m13_25 C.2.1) ⟨L, g0, (by omega), ?_⟩ (Nat.zero_le _) (Nat.zero_le _) ?_
              · rw [j_up_ne (by omega), j_up_ne (by omega), j_up_ne (by omega), j_up_ne (by omega), j_up_ne (by omega), j_up_ne (by omega), w9, j_up_ne (by omega), j_up_ne (by omega), j_up_ne (by omega), j_up_ne (by omega), j_up_ne (by omega), j_up_ne (by omega), c21]
                intro k4 x z0 z1
                have gd := j_G_dl (w := w) r0 r1 i.toNat (fun y y0 y1 => t4 y y0 (by omega))
                have g1' := gd.2.2 x z0 z1
                have e := j_sh_pre (V2 (a + 21)) z0
                have e2 : j_sh (j_pre (V2 (a + 21))) x = j_sh (j_G r w i.toNat) x := by
                  show j_pre (V2 (a + 21)) (x + 1) - j_pre (V2 (a + 21)) x = j_G r w i.toNat (x + 1) - j_G r w i.toNat x
                  rw [t6 k4 _ (by omega) (by omega), t6 k4 _ (by omega) (by omega)]
                have gd0 : j_dl (j_G r w i.toNat) 0 (j_M r) := ⟨gd.1, gd.2.1, fun s z0 z1 => by have := gd.2.2 s z0 z1; omega⟩
                have b1 := j_dl_bd gd0 (Int.le_refl _) x z0 (by omega)
                have b2 := j_dl_bd gd0 (Int.le_refl _) (x + 1) (by omega) (by omega)
                have e3 : j_sh (j_G r w i.toNat) x = j_G r w i.toNat (x + 1) - j_G r w i.toNat x := rfl
                omega
              · rw [w23, g3, g4]
                generalize eW : j_up (j_up (j_up (j_up (j_up (j_up V4 (a + 24) (i % V a 23) x') (a + 28) i s) (a + 29) i x') (a + 30) i v') (a + 22) i (D (s + 1) - D s)) (a + 23) i (D s) = W
                have o24 : W (a + 24) = j_u (V2 (a + 24)) (i % V a 23) x' := by rw [← eW, j_up_ne (by omega), j_up_ne (by omega), j_up_ne (by omega), j_up_ne (by omega), j_up_ne (by omega), j_up_u, g6 _ (by omega)]
                have o28 : W (a + 28) = j_u (V2 (a + 28)) i s := by rw [← eW, j_up_ne (by omega), j_up_ne (by omega), j_up_ne (by omega), j_up_ne (by omega), j_up_u, j_up_ne (by omega), g6 _ (by omega)]
                have o29 : W (a + 29) = j_u (V2 (a + 29)) i x' := by rw [← eW, j_up_ne (by omega), j_up_ne (by omega), j_up_ne (by omega), j_up_u, j_up_ne (by omega), j_up_ne (by omega), g6 _ (by omega)]
                have o30 : W (a + 30) = j_u (V2 (a + 30)) i v' := by rw [← eW, j_up_ne (by omega), j_up_ne (by omega), j_up_u, j_up_ne (by omega), j_up_ne (by omega), j_up_ne (by omega), g6 _ (by omega)]
                have o22 : W (a + 22) = j_u (V2 (a + 22)) i (D (s + 1) - D s) := by rw [← eW, j_up_ne (by omega), j_up_u, j_up_ne (by omega), j_up_ne (by omega), j_up_ne (by omega), j_up_ne (by omega), g6 _ (by omega)]
                have o23 : W (a + 23) = j_u (V2 (a + 23)) i (D s) := by rw [← eW, j_up_u, j_up_ne (by omega), j_up_ne (by omega), j_up_ne (by omega), j_up_ne (by omega), j_up_ne (by omega), g6 _ (by omega)]
                have o21 : W (a + 21) = V2 (a + 21) := by rw [← eW, j_up_ne (by omega), j_up_ne (by omega), j_up_ne (by omega), j_up_ne (by omega), j_up_ne (by omega), j_up_ne (by omega), g6 _ (by omega)]
                have oa : W a = V4 a := by rw [← eW, j_up_ne (by omega), j_up_ne (by omega), j_up_ne (by omega), j_up_ne (by omega), j_up_ne (by omega), j_up_ne (by omega)]
                have FW : j_rkF V2 W a := ⟨fun c z0 z1 z2 z3 z4 z5 z6 z7 => by rw [← eW, j_up_ne z3, j_up_ne z2, j_up_ne z7, j_up_ne z6, j_up_ne z5, j_up_ne z4, g6 c z0], fun j z0 z1 z2 => by rw [oa]; exact g5 j z0 z1⟩
                rintro S5 V5 ⟨e0, hmv⟩
                subst e0
                have f5 : (∀ c : Int, c ≠ a + 21 → V5 c = W c) ∧ (V a 9 = 4 → ∀ j : Int, 0 ≤ j → j ≤ 256 → j_pre (V5 (a + 21)) j = j_gr (j_pre (V2 (a + 21))) s j) ∧ (V a 9 ≠ 4 → V5 (a + 21) = V2 (a + 21)) := by
                  rcases hmv with ⟨z1, z2⟩ | ⟨z1, d, z2, z3, z4⟩
                  · rw [oa, w9] at z1
                    subst z2
                    exact ⟨fun _ _ => rfl, fun z => absurd z z1, fun _ => o21⟩
                  · rw [oa, w9] at z1
                    rw [z2]
                    refine ⟨fun c hc => j_row_ne hc, fun _ j j0 j1 => ?_, fun z => absurd z1 z⟩
                    rw [j_row_at, z4 j j0 j1, o21]
                have F5 : j_rkF W V5 a := ⟨fun c z0 z1 _ _ _ _ _ _ => f5.1 c z1, fun j _ _ _ => by rw [f5.1 a (by omega)]⟩
                refine t13_40_276 h (by omega) (kk (v', V5) ⟨(by omega), (by omega), ⟨j_u X (i % V a 23) x', j_u w i s, ?_⟩, (F2.tr FW).tr F5⟩)
                refine j_rkJ_step i0 l0 hJ eT g0 (by omega) rb1 rb2 rb3 rb4 ?_ ?_ ?_ ?_ ?_ ?_ f5.2.1 f5.2.2
                · exact (f5.1 _ (by omega)).trans o24
                · exact (f5.1 _ (by omega)).trans o28
                · exact (f5.1 _ (by omega)).trans o29
                · exact (f5.1 _ (by omega)).trans o30
                · exact (f5.1 _ (by omega)).trans (by rw [eD]; exact o22)
                · exact (f5.1 _ (by omega)).trans (by rw [eD]; exact o23)
            · have eT := stp hr
              refine t13_40_186 h R ⟨rfl, F2.tr F4, Or.inr ⟨rfl, fun z => ?_⟩, fun z => absurd z (by decide)⟩ (Nat.le_refl _) (Nat.le_refl _)
              obtain ⟨X', w', z1, z2⟩ := z
              have no := j_tk_none (show j_TR V a r (i + 1).toNat = none from eT) (n.toNat - (i + 1).toNat)
              rw [show (i + 1).toNat + (n.toNat - (i + 1).toNat) = n.toNat by omega] at no
              rw [en] at z1
              have z1 : j_tk _ _ _ _ _ _ _ _ _ _ n.toNat = some (X', 0, w') := z1
              rw [no] at z1
              exact absurd z1 (by simp)
          · rw [g3, g4] at z
            have s255 : s ≠ 255 := fun e => by
              have := hD.2.1
              rw [e] at z
              have z : D 255 + (D 256 - D 255) ≤ X (i % V a 23) % j_M r := z
              omega
            refine t13_40_117 h hrm (by omega) ht (by rw [g3, g4]; constructor <;> omega) (m13_23 C.2.1) ⟨L, p0, p1, (by omega), (by omega)⟩ (Nat.zero_le _) (Nat.zero_le _) ?_
            rw [g3, g4, show D s + (D (s + 1) - D s) = D (s + 1) by omega]
            rintro y S5 V5 ⟨e0, e1, er⟩
            subst e0; subst e1
            rw [j_up_ne (show a + 21 ≠ a by omega), j_up_off (by decide), g5 9 (by decide) (by decide), y9, g6 _ (by omega), shr (s + 1) (by omega) (by omega)] at er
            refine t13_40_142 h ht (kk2 _ ⟨(by omega), (by omega), (by omega), by rw [j_up_at]; exact er, by rw [j_up_off (by decide), j_up_at], fun j z0 z1 => by rw [j_up_off z0, j_up_off z1]; exact g5 j z0 z1, fun c hc => by rw [j_up_ne hc, j_up_ne hc]; exact g6 c hc⟩)
        refine seek 0 V3 ⟨(by omega), (by omega), by rw [hD.1]; exact sl0, ?_, ?_, s3, s4⟩
        · rw [s1, shr 0 (by omega) (by omega)]
        · rw [s2, hE 0 (by omega) (by omega)]
      refine t13_40_51 h L ht i0 (by rw [y23]; omega) (by rw [y23]; exact m0) (by rw [y23]; omega) (by rw [y23, x2]; omega) (by rw [y10]; omega) (fun z => ?_) (fun z => ?_)
      · rw [y23, y10, x2, ew]
        refine t13_40_81 h L ht (by omega) (by omega) (by omega) (at91 _ ?_)
        rw [(t10 (i - 1) (by omega) (by omega)).1]
        unfold j_bef
        rw [if_neg z]
      · rw [y23, y10, x2, ew]
        refine t13_40_77 h (at91 0 ?_)
        unfold j_bef
        rw [if_pos z]; rfl
    · obtain ⟨u, V2⟩ := q
      obtain ⟨i0, i1, ⟨X, w, hJ⟩, F2⟩ := hI
      dsimp only at hJ F2 ⊢
      have ei : i = n := by omega
      rw [ei] at hJ
      obtain ⟨t1, t2, t4, t6, t7, t8, t9, t10⟩ := id hJ
      have y10 : V2 a 10 = j_M r := by rw [F2.2 10 (by decide) (by decide) (by decide)]; exact h10
      have y23 : V2 a 23 = V a 23 := F2.2 23 (by decide) (by decide) (by decide)
      have y24 : V2 a 24 = n := by rw [F2.2 24 (by decide) (by decide) (by decide)]; exact en
      have iff : (u = 0 ∧ ∀ y : Int, 0 ≤ y → y < V a 23 → X y = j_M r) ↔ j_rkT V a r := by
        constructor
        · rintro ⟨z1, z2⟩
          rw [z1] at t1
          exact ⟨X, w, by rw [en]; exact t1, z2⟩
        · rintro ⟨X', w', z1, z2⟩
          rw [en] at z1
          have z1 : j_TR V a r n.toNat = some (X', 0, w') := z1
          rw [t1] at z1
          have z := Option.some.inj z1
          have e1 : X = X' := congrArg (fun q => q.1) z
          have e2 : u = 0 := congrArg (fun q => q.2.1) z
          rw [e1]
          exact ⟨e2, z2⟩
      refine t13_40_43 h ht (fun _ => ?_) (fun z => absurd z (by rw [y24]; omega))
      have lanes : ∀ (y : Int) (b : Int), (0 ≤ y ∧ y ≤ V a 23 ∧ j_says b (u = 0 ∧ ∀ z : Int, 0 ≤ z → z < y → X z = j_M r)) → j_ok n_KT 8 C G 294 [(0, (2, a)), (2, (0, b)), (3, (0, y))] [] S V2 0 0 := by
        refine j_loop (N := V a 23) (fun y b hy hI kk => ?_) (fun y b hy hI => ?_)
        · obtain ⟨g0, g1, g2⟩ := hI
          obtain ⟨xx, _, _⟩ := t2 y g0 hy
          have no : ¬ (u = 0 ∧ ∀ z : Int, 0 ≤ z → z < y + 1 → X z = j_M r) → j_ok n_KT 8 C G 325 [(0, (2, a)), (3, (0, y))] [] S V2 0 0 := fun z => t13_40_325 h (t13_40_326 h (by omega) (kk 0 ⟨(by omega), (by omega), Or.inr ⟨rfl, z⟩⟩))
          refine t13_40_294 h ht (fun z => absurd z (by rw [y23]; omega)) (fun _ => t13_40_302 h (fun z => no (fun z2 => g2.n z ⟨z2.1, fun x x0 x1 => z2.2 x x0 (by omega)⟩)) (fun z => ?_))
          have pr := g2.y z
          refine t13_40_306 h L ht g0 (by omega) (fun z2 => no (fun z3 => z2 (by rw [xx, y10]; exact z3.2 y g0 (by omega)))) (fun z2 => ?_)
          rw [xx, y10] at z2
          refine t13_40_321 h (t13_40_326 h (by omega) (kk 1 ⟨(by omega), (by omega), Or.inl ⟨rfl, pr.1, fun x x0 x1 => ?_⟩⟩))
          by_cases e : x = y
          · rw [e]; exact z2
          · exact pr.2 x x0 (by omega)
        · obtain ⟨g0, g1, g2⟩ := hI
          have ey : y = V a 23 := by omega
          rw [ey] at g2
          have g2 := g2.iff iff
          refine t13_40_294 h ht (fun _ => t13_40_333 h R g2.bit ⟨rfl, F2, g2, fun z => ?_⟩ (Nat.le_refl _) (Nat.le_refl _)) (fun z => absurd z (by rw [y23]; omega))
          have := iff.mpr (g2.y (by omega))
          rw [this.1] at hJ
          exact ⟨X, w, hJ⟩
      refine t13_40_282 h (fun z => t13_40_290 h (t13_40_291 h (lanes 0 0 ⟨(by omega), (by omega), Or.inr ⟨rfl, fun z2 => z z2.1⟩⟩))) (fun z => t13_40_286 h (t13_40_291 h (lanes 0 1 ⟨(by omega), (by omega), Or.inl ⟨rfl, z, fun x x0 x1 => absurd x1 (by omega)⟩⟩)))
  refine t13_40_0 h ht ?_
  have W0 : j_rkF V (j_up V a 22 (V a 25)) a := ⟨fun c z0 _ _ _ _ _ _ _ => j_up_ne z0, fun j _ _ z2 => j_up_off z2⟩
  have first : ∀ (i : Int) (V2 : jH), (0 ≤ i ∧ i ≤ V a 23 ∧ (∀ c : Int, c ≠ a → c ≠ a + 24 → V2 c = V c) ∧ (∀ j : Int, j ≠ 22 → V2 a j = V a j) ∧ V2 a 22 = V a 25 + 3 * i ∧ ∀ y : Int, 0 ≤ y → y < i → V2 (a + 24) y = j_val (V (a + 8)) (V a 25 + 3 * y) 3) → j_ok n_KT 8 C G 10 [(0, (2, a)), (1, (0, i))] [] S V2 0 0 := by
    refine j_loop (N := V a 23) (fun i V2 hi hI kk => ?_) (fun i V2 hi hI => ?_)
    · obtain ⟨g0, g1, g2, g3, g4, g5⟩ := hI
      have e8 : V2 (a + 8) = V (a + 8) := g2 _ (by omega) (by omega)
      have e7 : V2 (a + 1) = V (a + 1) := g2 _ (by omega) (by omega)
      refine t13_40_10 h ht (fun z => absurd z (by rw [g3 23 (by decide)]; omega)) (fun _ => ?_)
      refine t13_40_18 h L hrm ht (m13_36 C.2.1) ⟨L, a0, (by omega), (by omega), ?_, by rw [g4]; omega, by rw [g4, e7]; omega⟩ (Nat.zero_le _) (Nat.zero_le _) ?_
      · unfold j_mbk; rw [e8, e7]; exact ⟨b0, b1, hb⟩
      rintro x S3 V3 ⟨e0, hx⟩
      subst e0
      unfold j_nx9 at hx
      rw [e7, e8, g4] at hx
      obtain ⟨x2, x5⟩ : x = j_val (V (a + 8)) (V a 25 + 3 * i) 3 ∧ V3 = j_up V2 a 22 (V a 25 + 3 * i + 3) := by
        rcases hx with ⟨z, _, _⟩ | ⟨_, x2, _, _, x5⟩
        · omega
        · exact ⟨x2, x5⟩
      subst x5
      refine t13_40_28 (n_s2 := 4) h (j_arrL_of (L12_16k L ht) (by decide) rfl) g0 (by omega) (by omega) (kk _ ⟨(by omega), (by omega), fun c z0 z1 => by rw [j_up_ne z1, j_up_ne z0]; exact g2 c z0 z1, fun j hj => by rw [j_up_ne (by omega), j_up_off hj]; exact g3 j hj, by rw [j_up_ne (by omega), j_up_at]; omega, fun y y0 y1 => ?_⟩)
      by_cases e : y = i
      · rw [e, j_up_at]; exact x2
      · rw [j_up_off e, j_up_ne (by omega)]; exact g5 y y0 (by omega)
    · obtain ⟨g0, g1, g2, g3, g4, g5⟩ := hI
      have ei : i = V a 23 := by omega
      rw [ei] at g5
      refine t13_40_10 h ht (fun _ => t13_40_36 h ht ?_) (fun z => absurd z (by rw [g3 23 (by decide)]; omega))
      rw [g3 27 (by decide)]
      refine run 0 (V a 27, V2) ⟨(by omega), n0, ⟨_, _, rfl, fun y y0 y1 => ⟨g5 y y0 y1, hX y y0 y1⟩, fun x x0 x1 => absurd x1 (by omega), fun k4 j j0 j1 => ?_, fun _ => g2 _ (by omega) (by omega), u0, Int.le_refl _, fun x x0 x1 => absurd x1 (by omega)⟩, fun c z0 z1 z2 z3 z4 z5 z6 z7 => g2 c z0 z4, fun j z0 z1 z2 => g3 j z2⟩
      dsimp only
      rw [g2 _ (by omega) (by omega)]
      exact hD4 k4 j j0 j1
  exact first 0 _ ⟨(by omega), (by omega), fun c z0 z1 => j_up_ne z0, fun j hj => j_up_off hj, by rw [j_up_at]; omega, fun y y0 y1 => absurd y1 (by omega)⟩
