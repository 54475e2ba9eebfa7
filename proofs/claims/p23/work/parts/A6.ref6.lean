/-! THE REFERENCE: a row is packed -/
theorem j_with_congr {b b' : Int → Int} (h : ∀ j : Int, 0 ≤ j → j ≤ 256 → b' j = b j) {n : Int} (n1 : n ≤ 256) : j_with b' n = j_with b n := by
  unfold j_with
  refine j_pre_congr (fun k k0 k1 => ?_)
  show (if 0 < b' (k + 1) - b' k then (1 : Int) else 0) = if 0 < b (k + 1) - b k then 1 else 0
  rw [h k k0 (by omega), h (k + 1) (by omega) (by omega)]
theorem j_dT_congr {b b' : Int → Int} (h : ∀ j : Int, 0 ≤ j → j ≤ 256 → b' j = b j) : ∀ n : Nat, n ≤ 256 → j_dT b' n = j_dT b n
  | 0, _ => rfl
  | n + 1, hn => by
    have e : j_sh b' n = j_sh b n := by show b' ((n : Int) + 1) - b' n = b ((n : Int) + 1) - b n; rw [h n (by omega) (by omega), h ((n : Int) + 1) (by omega) (by omega)]
    show j_dT b' n ++ (if 0 < j_sh b' n then j_num n 1 ++ j_num (j_sh b' n - 1) 2 else []) = j_dT b n ++ (if 0 < j_sh b n then j_num n 1 ++ j_num (j_sh b n - 1) 2 else [])
    rw [j_dT_congr h n (by omega), e]
theorem j_dealT_congr {b b' : Int → Int} (h : ∀ j : Int, 0 ≤ j → j ≤ 256 → b' j = b j) : j_dealT b' = j_dealT b := by
  unfold j_dealT
  rw [j_with_congr h (Int.le_refl _), j_dT_congr h 256 (Nat.le_refl _)]
theorem j_dsT_congr {B B' : Int → Int → Int} : ∀ n : Nat, (∀ p j : Int, 0 ≤ p → p < n → 0 ≤ j → j ≤ 256 → B' p j = B p j) → j_dsT B' n = j_dsT B n
  | 0, _ => rfl
  | n + 1, h => by
    show j_dsT B' n ++ j_dealT (B' n) = j_dsT B n ++ j_dealT (B n)
    rw [j_dsT_congr n (fun p j p0 p1 j0 j1 => h p j p0 (by omega) j0 j1), j_dealT_congr (fun j j0 j1 => h n j (by omega) (by omega) j0 j1)]
theorem j_stT_congr {X X' : Int → Int} : ∀ n : Nat, (∀ l : Int, 0 ≤ l → l < n → X' l = X l) → j_stT X' n = j_stT X n
  | 0, _ => rfl
  | n + 1, h => by
    show j_stT X' n ++ j_num (X' n) 3 = j_stT X n ++ j_num (X n) 3
    rw [j_stT_congr n (fun l l0 l1 => h l l0 (by omega)), h n (by omega) (by omega)]
theorem j_byT_congr {X X' : Int → Int} : ∀ n : Nat, (∀ l : Int, 0 ≤ l → l < n → X' l = X l) → j_byT X' n = j_byT X n
  | 0, _ => rfl
  | n + 1, h => by
    show j_byT X' n ++ j_num (X' n) 1 = j_byT X n ++ j_num (X n) 1
    rw [j_byT_congr n (fun l l0 l1 => h l l0 (by omega)), h n (by omega) (by omega)]
theorem j_text_congr {k r la n u : Int} {B B' : Int → Int → Int} {X X' g g' : Int → Int} (hB : ∀ p j : Int, 0 ≤ p → p < j_toldP k → 0 ≤ j → j ≤ 256 → B' p j = B p j) (hX : ∀ l : Int, 0 ≤ l → l < la → X' l = X l) (hg : ∀ i : Int, 0 ≤ i → i < u → g' i = g i) : j_text k r la n B' X' u g' = j_text k r la n B X u g := by
  have tp := j_toldP_bd k
  have e : j_body k r la n B' X' u g' = j_body k r la n B X u g := by
    unfold j_body
    rw [j_dsT_congr _ (fun p j p0 p1 j0 j1 => hB p j p0 (by omega) j0 j1), j_stT_congr la.toNat (fun l l0 l1 => hX l l0 (by omega)), j_byT_congr u.toNat (fun i i0 i1 => hg i i0 (by omega))]
  unfold j_text
  rw [e]
/-- begins of the reference's deals -/
def j_rB (D : Int → Int) (q : Int) : Int → Int := j_pre (j_rs D (256 * q))
def j_rf (k r : Int) (B : Int → Int → Int) (w : Int → Int) (i : Int) : Int := j_sh (j_D k r B w i) (w i)
def j_rb (k r : Int) (B : Int → Int → Int) (w : Int → Int) (i : Int) : Int := j_D k r B w i (w i)
def j_rX (k r la : Int) (B : Int → Int → Int) (w : Int → Int) (n : Int) : (Int → Int) × Int × (Int → Int) := j_pX (j_M r) la n (j_rf k r B w) (j_rb k r B w) n.toNat
def j_rdl (V : jH) (a r : Int) : Prop := (∀ i : Int, 0 ≤ i → i < 256 * j_parts (V a 9) → 0 ≤ V (a + 21) i ∧ V (a + 21) i ≤ 4096) ∧ (∀ q : Int, 0 ≤ q → q < j_parts (V a 9) → j_dl (j_rB (V (a + 21)) q) 0 (j_M r)) ∧ (V a 9 = 4 → ∀ s : Int, 0 ≤ s → s < 256 → V (a + 21) s = j_M r / 256)
def j_rpk (V V' : jH) (a p r la x : Int) : Prop := (∀ c : Int, c ≠ a → (c < a + 21 ∨ a + 27 < c) → V' c = V c) ∧ (∀ j : Int, j ≠ 12 → j ≠ 13 → j ≠ 18 → j ≠ 20 → V' a j = V a j) ∧
  ∃ m : Int, j_miss (j_rf (V a 9) r (j_rB (V (a + 21))) (j_rw V a p)) (V (a + 2) p) m ∧ ((0 ≤ m ∧ x = m) ∨ (m = -1 ∧ x = -1 ∧ 0 ≤ V' a 20 ∧ V' a 20 ≤ 4400 ∧
    j_F V' a = j_text (V a 9) r la (V (a + 2) p) (j_rB (V (a + 21))) (j_rX (V a 9) r la (j_rB (V (a + 21))) (j_rw V a p) (V (a + 2) p)).1 (j_rX (V a 9) r la (j_rB (V (a + 21))) (j_rw V a p) (V (a + 2) p)).2.1 (j_rX (V a 9) r la (j_rB (V (a + 21))) (j_rw V a p) (V (a + 2) p)).2.2))
theorem j_rs0 (D : Int → Int) (x : Int) : j_pre (j_rs D 0) x = j_pre D x := j_pre_congr (fun k _ _ => by show D (0 + k) = D k; rw [show 0 + k = k by omega])
theorem j_flat_pre {D : Int → Int} {e : Int} : ∀ n : Nat, (∀ s : Int, 0 ≤ s → s < n → D s = e) → j_pre D n = n * e
  | 0, _ => by show (0 : Int) = 0 * e; omega
  | n + 1, h => by
    rw [show ((n + 1 : Nat) : Int) = (n : Int) + 1 by omega, j_pre_s _ (by omega), j_flat_pre n (fun s s0 s1 => h s s0 (by omega)), h n (by omega) (by omega), Int.add_mul]
    omega
theorem m13_27 (l : Launch) : M13_27 l 0 0 (fun a p r la S V => j_L S ∧ 0 ≤ a ∧ 0 ≤ p ∧ p < 6 ∧ 8 ≤ r ∧ r ≤ 12 ∧ 1 ≤ la ∧ la ≤ 4 ∧ j_mR V (a + 1) ∧ 0 ≤ V a 9 ∧ V a 9 ≤ 4 ∧ V a 10 = j_M r ∧ j_rdl V a r) (fun a p r la S V x S' V' => S' = S ∧ j_rpk V V' a p r la x) := by
  refine e13_27 ?_
  rintro C G h hrm hcs hl hn a p r la S V ht ⟨L, a0, p0, p1, r0, r1, l0, l1, hR, k0, k1, hal, hD0, hDl, hD4⟩ R
  obtain ⟨n0, n1, hw⟩ := hR p p0 p1
  rw [show a + 1 + 1 = a + 2 by omega, show a + 1 + 2 = a + 3 by omega] at *
  have hm := j_M_bd r0 r1
  have h256 := j_M_256 r0 r1
  have k3 : S.1 (a + 3) = 9 := by have := L11_1k L (L12_0k L ht); rw [show a + 1 + 2 = a + 3 by omega] at this; exact this
  generalize en : V (a + 2) p = n at *
  generalize ek : V a 9 = k at *
  generalize eD : V (a + 21) = D at *
  have hw : ∀ i : Int, 0 ≤ i → i < n → 0 ≤ j_rw V a p i ∧ j_rw V a p i < 256 := hw
  generalize eW : j_rw V a p = w at *
  have eW' : ∀ i : Int, V (a + 3) (400 * p + i) = w i := fun i => by rw [← eW]; rfl
  have pp := j_parts_bd k
  have hDi : ∀ i : Int, 0 ≤ i → i ≤ n → j_dl (j_D k r (j_rB D) w i) 0 (j_M r) := fun i i0 i1 => j_D_dl r0 r1 hDl hw i0 i1
  refine t13_27_0 h L ht p0 p1 ?_
  rw [en]
  -- from the text on
  have text : ∀ V1 : jH, (∀ c : Int, c ≠ a → (c < a + 21 ∨ a + 27 < c) → V1 c = V c) → (∀ j : Int, j ≠ 12 → j ≠ 13 → j ≠ 18 → j ≠ 20 → V1 a j = V a j) → (∀ i : Int, 0 ≤ i → i < 1024 → V1 (a + 27) i = D i) → j_miss (j_rf k r (j_rB D) w) n (-1) →
      V1 a 18 = (j_rX k r la (j_rB D) w n).2.1 → (∀ y : Int, 0 ≤ y → y < 4 → V1 (a + 24) y = (j_rX k r la (j_rB D) w n).1 y) → (∀ j : Int, 0 ≤ j → j < V1 a 18 → V1 (a + 25) j = (j_rX k r la (j_rB D) w n).2.2 j) → j_ok n_KT 9 C G 315 [(0, (2, a)), (2, (0, r)), (3, (0, la)), (4, (0, n))] [] S V1 0 0 := by
    intro V1 f1 f2 f3 hms x1 x2 x3
    have hfb : ∀ i : Int, 0 ≤ i → i < n → 1 ≤ j_rf k r (j_rB D) w i ∧ 0 ≤ j_rb k r (j_rB D) w i ∧ j_rb k r (j_rB D) w i + j_rf k r (j_rB D) w i ≤ j_M r := fun i i0 i1 => by
      have d := hDi i i0 (by omega)
      have s := hw i i0 i1
      have nz : j_rf k r (j_rB D) w i ≠ 0 := by
        rcases hms with ⟨_, z⟩ | ⟨z, _⟩
        · exact z i i0 i1
        · omega
      have s1 := d.2.2 _ s.1 s.2
      have b1 := j_dl_bd d (Int.le_refl _) _ s.1 (show w i ≤ 256 by omega)
      have b2 := j_dl_bd d (Int.le_refl _) (w i + 1) (by omega) (by omega)
      unfold j_rf at nz ⊢
      unfold j_rb
      have e : j_sh (j_D k r (j_rB D) w i) (w i) = j_D k r (j_rB D) w i (w i + 1) - j_D k r (j_rB D) w i (w i) := rfl
      omega
    have bd := j_pX_bd (la := la) hm.1 hm.2 hfb n.toNat (by omega)
    have by0 := j_pX_by (j_M r) la n (j_rf k r (j_rB D) w) (j_rb k r (j_rB D) w) n.toNat
    have bd : (∀ l : Int, j_M r ≤ (j_rX k r la (j_rB D) w n).1 l ∧ (j_rX k r la (j_rB D) w n).1 l < 256 * j_M r) ∧ 0 ≤ (j_rX k r la (j_rB D) w n).2.1 ∧ (j_rX k r la (j_rB D) w n).2.1 ≤ 2 * (n.toNat : Int) := bd
    have by0 : ∀ j : Int, 0 ≤ (j_rX k r la (j_rB D) w n).2.2 j ∧ (j_rX k r la (j_rB D) w n).2.2 j ≤ 255 := by0
    generalize eX : j_rX k r la (j_rB D) w n = XX at *
    obtain ⟨X, u, g⟩ := XX
    dsimp only at x1 x2 x3 bd by0
    have ub : 0 ≤ u ∧ u ≤ 800 := by omega
    have F0 : j_F (j_up V1 a 20 0) a = [] := by unfold j_F j_Bl; rw [j_up_at]; rfl
    have G0 : j_ff V1 (j_up V1 a 20 0) a := ⟨fun b b0 _ => j_up_ne b0, fun j hj => j_up_off hj⟩
    have e9 : ∀ {W : jH}, j_ff V1 W a → W a 9 = k := fun {W} hW => by rw [hW.2 9 (by decide), f2 9 (by decide) (by decide) (by decide) (by decide), ek]
    have e18 : ∀ {W : jH}, j_ff V1 W a → W a 18 = u := fun {W} hW => by rw [hW.2 18 (by decide), x1]
    have e18' : V1 a 18 = u := x1
    have k9 : V1 a 9 = k := by rw [f2 9 (by decide) (by decide) (by decide) (by decide), ek]
    refine t13_27_315 h hrm ht (m13_26 C.2.1) ⟨L, by rw [k9]; exact k0, (by omega), (by omega), by rw [j_up_at]; omega, by rw [j_up_at]; omega⟩ (Nat.zero_le _) (Nat.zero_le _) ?_
    rintro S2 V2 ⟨e0, y1, y2, y3⟩
    subst e0
    rw [F0, k9] at y1
    rw [j_up_at] at y2
    have G2 := G0.tr y3
    refine t13_27_329 h hrm ht (m13_26 C.2.1) ⟨L, (by omega), (by omega), (by omega), (by omega), (by omega)⟩ (Nat.zero_le _) (Nat.zero_le _) ?_
    rintro S3 V3 ⟨e0, z1, z2, z3⟩
    subst e0
    rw [y1] at z1
    have G3 := G2.tr z3
    refine t13_27_335 h hrm ht (m13_26 C.2.1) ⟨L, (by omega), (by omega), (by omega), (by omega), (by omega)⟩ (Nat.zero_le _) (Nat.zero_le _) ?_
    rintro S4 V4 ⟨e0, w1, w2, w3⟩
    subst e0
    rw [z1] at w1
    have G4 := G3.tr w3
    refine t13_27_341 h hrm ht (m13_26 C.2.1) ⟨L, n0, (by omega), (by omega), (by omega), (by omega)⟩ (Nat.zero_le _) (Nat.zero_le _) ?_
    rintro S5 V5 ⟨e0, v1, v2, v3⟩
    subst e0
    rw [w1] at v1
    have G5 := G4.tr v3
    have l5 : V5 a 20 = 5 := by omega
    have v1 : j_F V5 a = ((j_num k 1 ++ j_num r 1) ++ j_num la 1) ++ j_num n 2 := v1
    refine t13_27_348 h ?_
    have tail : ∀ V6 : jH, j_ff V1 V6 a → 0 ≤ V6 a 20 → V6 a 20 ≤ 3085 → j_F V6 a = (((j_num k 1 ++ j_num r 1) ++ j_num la 1) ++ j_num n 2) ++ j_dsT (j_rB D) (j_toldP k).toNat → j_ok n_KT 9 C G 400 [(0, (2, a)), (3, (0, la))] [] S5 V6 0 0 := by
      intro V6 G6 q0 q1 q2
      refine t13_27_400 h ?_
      have bytes : ∀ (i : Int) (V7 : jH), (0 ≤ i ∧ i ≤ u ∧ j_ff V1 V7 a ∧ 0 ≤ V7 a 20 ∧ V7 a 20 ≤ 3099 + i ∧ j_F V7 a = ((((((j_num k 1 ++ j_num r 1) ++ j_num la 1) ++ j_num n 2) ++ j_dsT (j_rB D) (j_toldP k).toNat) ++ j_stT X la.toNat) ++ j_num u 2) ++ j_byT g i.toNat) →
          j_ok n_KT 9 C G 440 [(0, (2, a)), (6, (0, i))] [] S5 V7 0 0 := by
        refine j_loop (N := u) (fun i V7 hi hI kk => ?_) (fun i V7 hi hI => ?_)
        · obtain ⟨g0, g1, G7, g2, g3, g4⟩ := hI
          have c18 := e18 G7
          have c25 : V7 (a + 25) i = g i := by rw [G7.1 _ (by omega) (by omega)]; exact x3 i g0 (by omega)
          have gb := by0 i
          refine t13_27_440 h ht (fun q => absurd q (by rw [c18]; omega)) (fun _ => ?_)
          refine t13_27_449 h L hrm ht g0 (by omega) (m13_26 C.2.1) ⟨L, by rw [c25]; exact gb.1, (by omega), (by omega), g2, (by omega)⟩ (Nat.zero_le _) (Nat.zero_le _) ?_
          rintro S8 V8 ⟨e0, a1, a2, a3⟩
          subst e0
          refine t13_27_461 h (by omega) (kk _ ⟨(by omega), (by omega), G7.tr a3, (by omega), (by omega), ?_⟩)
          rw [a1, g4, c25, show (i + 1).toNat = i.toNat + 1 by omega, j_byT, show ((i.toNat : Nat) : Int) = i by omega]
          simp only [List.append_assoc]
          rfl
        · obtain ⟨g0, g1, G7, g2, g3, g4⟩ := hI
          have ei : i = u := by omega
          rw [ei] at g4
          have c18 := e18 G7
          have g4 : j_F V7 a = j_body k r la n (j_rB D) X u g := g4
          have hb : ∀ i : Int, 0 ≤ i → i < V7 a 20 → 0 ≤ V7 (a + 26) i ∧ V7 (a + 26) i ≤ 255 := fun i i0 i1 => by
            have z := j_byt_body k r la n (j_rB D) X u g
            rw [← g4] at z
            refine z _ ?_
            unfold j_F j_Bl
            refine List.mem_map.mpr ⟨i.toNat, List.mem_range.mpr (by omega), ?_⟩
            rw [show ((i.toNat : Nat) : Int) = i by omega]
          refine t13_27_440 h ht (fun _ => ?_) (fun q => absurd q (by rw [c18]; omega))
          refine t13_27_467 h L hrm ht (m13_29 C.2.1 4500) ⟨j_arr_of (L12_19k L ht) (by decide) rfl, g2, by show V7 a 20 ≤ 4500; omega, (by omega), hb⟩ (Nat.zero_le _) (Nat.zero_le _) ?_
          rintro s S8 V8 ⟨e0, e1, es⟩
          subst e0; subst e1
          have es : s = j_sl (j_body k r la n (j_rB D) X u g) 0 % 65521 := by
            rw [es, ← g4]
            unfold j_SUM j_F j_Bl
            rw [j_sl_pre, show (((V8 a 20).toNat : Nat) : Int) = V8 a 20 by omega]
          refine t13_27_479 h hrm ht (m13_26 C.2.1) ⟨L, by rw [es]; exact Int.emod_nonneg _ (by decide), (by omega), (by omega), g2, (by omega)⟩ (Nat.zero_le _) (Nat.zero_le _) ?_
          rintro S9 V9 ⟨e0, a1, a2, a3⟩
          subst e0
          have G9 := G7.tr a3
          refine t13_27_483 h R ⟨rfl, fun c c0 c1 => by rw [G9.1 c c0 (by omega)]; exact f1 c c0 c1, fun j j0 j1 j2 j3 => by rw [G9.2 j j3]; exact f2 j j0 j1 j2 j3, -1, by rw [ek, eD, eW, en]; exact hms, Or.inr ⟨rfl, rfl, (by omega), (by omega), ?_⟩⟩ (Nat.le_refl _) (Nat.le_refl _)
          rw [ek, eD, eW, en, eX, a1, g4, es]
          rfl
      have states : ∀ (i : Int) (V7 : jH), (0 ≤ i ∧ i ≤ la ∧ j_ff V1 V7 a ∧ 0 ≤ V7 a 20 ∧ V7 a 20 ≤ 3085 + 3 * i ∧ j_F V7 a = ((((j_num k 1 ++ j_num r 1) ++ j_num la 1) ++ j_num n 2) ++ j_dsT (j_rB D) (j_toldP k).toNat) ++ j_stT X i.toNat) →
          j_ok n_KT 9 C G 403 [(0, (2, a)), (3, (0, la)), (6, (0, i))] [] S5 V7 0 0 := by
        refine j_loop (N := la) (fun i V7 hi hI kk => ?_) (fun i V7 hi hI => ?_)
        · obtain ⟨g0, g1, G7, g2, g3, g4⟩ := hI
          have c24 : V7 (a + 24) i = X i := by rw [G7.1 _ (by omega) (by omega)]; exact x2 i g0 (by omega)
          have xb := bd.1 i
          have ew : j_w32 (V7 (a + 24) i) = X i := by rw [c24, j_w32_in (by omega) (by omega)]
          refine t13_27_403 h (fun q => absurd q (by omega)) (fun _ => ?_)
          refine t13_27_409 h L hrm ht g0 (by omega) (m13_26 C.2.1) ⟨L, by rw [ew]; omega, (by omega), (by omega), g2, (by omega)⟩ (Nat.zero_le _) (Nat.zero_le _) ?_
          rintro S8 V8 ⟨e0, a1, a2, a3⟩
          subst e0
          rw [ew] at a1
          refine t13_27_422 h (by omega) (kk _ ⟨(by omega), (by omega), G7.tr a3, (by omega), (by omega), ?_⟩)
          rw [a1, g4, show (i + 1).toNat = i.toNat + 1 by omega, j_stT, show ((i.toNat : Nat) : Int) = i by omega]
          simp only [List.append_assoc]
          rfl
        · obtain ⟨g0, g1, G7, g2, g3, g4⟩ := hI
          have ei : i = la := by omega
          rw [ei] at g4
          have c18 := e18 G7
          refine t13_27_403 h (fun _ => ?_) (fun q => absurd q (by omega))
          refine t13_27_428 h hrm ht (m13_26 C.2.1) ⟨L, by rw [c18]; exact ub.1, (by omega), (by omega), g2, (by omega)⟩ (Nat.zero_le _) (Nat.zero_le _) ?_
          rintro S8 V8 ⟨e0, a1, a2, a3⟩
          subst e0
          rw [c18] at a1
          refine t13_27_437 h (bytes 0 V8 ⟨(by omega), ub.1, G7.tr a3, (by omega), (by omega), ?_⟩)
          rw [a1, g4]
          show _ = _ ++ []
          rw [List.append_nil]
          rfl
      refine states 0 V6 ⟨(by omega), (by omega), G6, q0, (by omega), ?_⟩
      rw [q2]
      show _ = _ ++ []
      rw [List.append_nil]
    have tp := j_toldP_bd k
    have tq : j_toldP k ≤ j_parts k := by unfold j_toldP; split <;> omega
    have parts : ∀ (i : Int) (V6 : jH), (0 ≤ i ∧ i ≤ j_toldP k ∧ j_ff V1 V6 a ∧ 0 ≤ V6 a 20 ∧ V6 a 20 ≤ 5 + 770 * i ∧ j_F V6 a = (((j_num k 1 ++ j_num r 1) ++ j_num la 1) ++ j_num n 2) ++ j_dsT (j_rB D) i.toNat) → j_ok n_KT 9 C G 351 [(0, (2, a)), (3, (0, la)), (6, (0, i))] [] S5 V6 0 0 := by
      refine j_loop (N := j_toldP k) (fun i V6 hi hI kk => ?_) (fun i V6 hi hI => ?_)
      · obtain ⟨g0, g1, G6, g2, g3, g4⟩ := hI
        have c9 := e9 G6
        have body : j_ok n_KT 9 C G 388 [(0, (2, a)), (3, (0, la)), (6, (0, i))] [] S5 V6 0 0 := by
          have c27 : ∀ x : Int, 0 ≤ x → x < 1024 → V6 (a + 27) x = D x := fun x x0 x1 => by rw [G6.1 _ (by omega) (by omega)]; exact f3 x x0 x1
          refine t13_27_388 h hrm ht (m13_28 C.2.1) ⟨L, g0, (by omega), fun s s0 s1 => by rw [c27 _ (by omega) (by omega)]; exact hD0 _ (by omega) (by omega), g2, (by omega)⟩ (Nat.zero_le _) (Nat.zero_le _) ?_
          rintro S7 V7 ⟨e0, a1, a2, a3⟩
          subst e0
          have eb : ∀ j : Int, 0 ≤ j → j ≤ 256 → j_pre (j_rs (V6 (a + 27)) (256 * i)) j = j_rB D i j := fun j j0 j1 => j_pre_congr (fun s s0 s1 => by show V6 (a + 27) (256 * i + s) = D (256 * i + s); exact c27 _ (by omega) (by omega))
          rw [j_dealT_congr eb] at a1
          have bw := j_with_bd (j_pre (j_rs (V6 (a + 27)) (256 * i))) (n := 256) (by omega)
          refine t13_27_394 h (by omega) (kk _ ⟨(by omega), (by omega), G6.tr a3, (by omega), (by omega), ?_⟩)
          rw [a1, g4, show (i + 1).toNat = i.toNat + 1 by omega, j_dsT, show ((i.toNat : Nat) : Int) = i by omega]
          simp only [List.append_assoc]
        unfold j_toldP j_parts at hi
        refine t13_27_351 h ht (fun z => ?_) (fun z => t13_27_361 h (t13_27_385 h (fun y => absurd y (by rw [c9] at z; rw [if_pos (by omega), if_pos z] at hi; omega)) (fun _ => body)))
        rw [c9] at z
        have one : (k = 0 ∨ k = 2) → j_ok n_KT 9 C G 380 [(0, (2, a)), (3, (0, la)), (6, (0, i))] [(0, i)] S5 V6 0 0 := fun y => t13_27_380 h (t13_27_385 h (fun x => absurd x (by rw [if_pos (by omega), if_neg z] at hi; omega)) (fun _ => body))
        exact t13_27_365 h ht (fun y => one (Or.inl (by rw [c9] at y; exact y))) (fun y => t13_27_372 h ht (fun x => t13_27_384 h (t13_27_385 h (fun _ => absurd hi (by rw [c9] at x y; rw [if_neg (by omega)]; omega)) (fun _ => body))) (fun x => one (Or.inr (by rw [c9] at x; exact x))))
      · obtain ⟨g0, g1, G6, g2, g3, g4⟩ := hI
        have c9 := e9 G6
        have ei : i = j_toldP k := by omega
        have fin : j_ok n_KT 9 C G 400 [(0, (2, a)), (3, (0, la))] [] S5 V6 0 0 := tail V6 G6 g2 (by omega) (by rw [g4, ei])
        unfold j_toldP j_parts at ei
        refine t13_27_351 h ht (fun z => ?_) (fun z => t13_27_361 h (t13_27_385 h (fun _ => fin) (fun y => absurd y (by rw [c9] at z; rw [if_pos (by omega), if_pos z] at ei; omega))))
        rw [c9] at z
        have one : (k = 0 ∨ k = 2) → j_ok n_KT 9 C G 380 [(0, (2, a)), (3, (0, la)), (6, (0, i))] [(0, i)] S5 V6 0 0 := fun y => t13_27_380 h (t13_27_385 h (fun _ => fin) (fun x => absurd x (by rw [if_pos (by omega), if_neg z] at ei; omega)))
        exact t13_27_365 h ht (fun y => one (Or.inl (by rw [c9] at y; exact y))) (fun y => t13_27_372 h ht (fun x => t13_27_384 h (t13_27_385 h (fun _ => fin) (fun x2 => absurd x2 (by rw [c9] at x y; rw [if_neg (by omega)] at ei; omega)))) (fun x => one (Or.inr (by rw [c9] at x; exact x))))
    refine parts 0 V5 ⟨(by omega), tp.1, G5, (by omega), (by omega), ?_⟩
    rw [v1]
    show _ = _ ++ []
    rw [List.append_nil]
  -- from the packing on
  have pack : ∀ V1 : jH, (∀ c : Int, c ≠ a → (c < a + 21 ∨ a + 27 < c) → V1 c = V c) → (∀ j : Int, j ≠ 12 → j ≠ 13 → j ≠ 18 → j ≠ 20 → V1 a j = V a j) → (∀ i : Int, 0 ≤ i → i < 1024 → V1 (a + 27) i = D i) → j_miss (j_rf k r (j_rB D) w) n (-1) → (∀ x : Int, 0 ≤ x → x < n → V1 (a + 22) x = j_rf k r (j_rB D) w x ∧ V1 (a + 23) x = j_rb k r (j_rB D) w x) → j_ok n_KT 9 C G 154 [(0, (2, a)), (2, (0, r)), (3, (0, la)), (4, (0, n))] [] S V1 0 0 := by
    intro V1 f1 f2 f3 hms f4
    have hfb : ∀ i : Int, 0 ≤ i → i < n → 1 ≤ j_rf k r (j_rB D) w i ∧ 0 ≤ j_rb k r (j_rB D) w i ∧ j_rb k r (j_rB D) w i + j_rf k r (j_rB D) w i ≤ j_M r := fun i i0 i1 => by
      have d := hDi i i0 (by omega)
      have s := hw i i0 i1
      have nz : j_rf k r (j_rB D) w i ≠ 0 := by
        rcases hms with ⟨_, z⟩ | ⟨z, _⟩
        · exact z i i0 i1
        · omega
      have s1 := d.2.2 _ s.1 s.2
      have b1 := j_dl_bd d (Int.le_refl _) _ s.1 (show w i ≤ 256 by omega)
      have b2 := j_dl_bd d (Int.le_refl _) (w i + 1) (by omega) (by omega)
      unfold j_rf at nz ⊢
      unfold j_rb
      have e : j_sh (j_D k r (j_rB D) w i) (w i) = j_D k r (j_rB D) w i (w i + 1) - j_D k r (j_rB D) w i (w i) := rfl
      omega
    refine t13_27_154 h ?_
    have run : ∀ V2 : jH, (∀ c : Int, c ≠ a + 24 → V2 c = V1 c) → (∀ y : Int, 0 ≤ y → y < 4 → V2 (a + 24) y = j_M r) → j_ok n_KT 9 C G 181 [(0, (2, a)), (2, (0, r)), (3, (0, la)), (4, (0, n))] [] S V2 0 0 := by
      intro V2 g1 g2
      refine t13_27_181 h ht (by omega) ?_
      have lp : ∀ (i : Int) (V3 : jH), (-1 ≤ i ∧ i < n ∧ (∀ c : Int, c ≠ a → c ≠ a + 24 → c ≠ a + 25 → V3 c = V1 c) ∧ (∀ j : Int, j ≠ 18 → V3 a j = V1 a j) ∧ V3 a 18 = (j_pX (j_M r) la n (j_rf k r (j_rB D) w) (j_rb k r (j_rB D) w) (n - 1 - i).toNat).2.1 ∧
          (∀ y : Int, 0 ≤ y → y < 4 → V3 (a + 24) y = (j_pX (j_M r) la n (j_rf k r (j_rB D) w) (j_rb k r (j_rB D) w) (n - 1 - i).toNat).1 y) ∧ ∀ j : Int, 0 ≤ j → j < V3 a 18 → V3 (a + 25) j = (j_pX (j_M r) la n (j_rf k r (j_rB D) w) (j_rb k r (j_rB D) w) (n - 1 - i).toNat).2.2 j) →
          j_ok n_KT 9 C G 192 [(0, (2, a)), (2, (0, r)), (3, (0, la)), (4, (0, n)), (6, (0, i))] [] S V3 0 0 := by
        refine j_loopD (N := 0) (fun i V3 hi hI kk => ?_) (fun i V3 hi hI => ?_)
        · obtain ⟨i0, i1, c1, c2, c3, c4, c5⟩ := hI
          have bd := j_pX_bd (la := la) hm.1 hm.2 hfb (n - 1 - i).toNat (by omega)
          have es : j_pX (j_M r) la n (j_rf k r (j_rB D) w) (j_rb k r (j_rB D) w) ((n - 1 - (i - 1)).toNat) = (j_u (j_pX (j_M r) la n (j_rf k r (j_rB D) w) (j_rb k r (j_rB D) w) (n - 1 - i).toNat).1 (i % la) (j_pk (j_M r) (j_rf k r (j_rB D) w i) (j_rb k r (j_rB D) w i) ((j_pX (j_M r) la n (j_rf k r (j_rB D) w) (j_rb k r (j_rB D) w) (n - 1 - i).toNat).1 (i % la))), (j_pX (j_M r) la n (j_rf k r (j_rB D) w) (j_rb k r (j_rB D) w) (n - 1 - i).toNat).2.1 + j_sc ((j_pX (j_M r) la n (j_rf k r (j_rB D) w) (j_rb k r (j_rB D) w) (n - 1 - i).toNat).1 (i % la)) (j_rf k r (j_rB D) w i), j_pb (j_pX (j_M r) la n (j_rf k r (j_rB D) w) (j_rb k r (j_rB D) w) (n - 1 - i).toNat).2.2 (j_pX (j_M r) la n (j_rf k r (j_rB D) w) (j_rb k r (j_rB D) w) (n - 1 - i).toNat).2.1 ((j_pX (j_M r) la n (j_rf k r (j_rB D) w) (j_rb k r (j_rB D) w) (n - 1 - i).toNat).1 (i % la)) (j_rf k r (j_rB D) w i)) := by
            rw [show (n - 1 - (i - 1)).toNat = (n - 1 - i).toNat + 1 by omega]
            rw [j_pX, show n - 1 - (((n - 1 - i).toNat : Nat) : Int) = i by omega]
          rw [es] at kk
          have hf := hfb i hi i1
          have q22 : V3 (a + 22) i = j_rf k r (j_rB D) w i := by rw [c1 _ (by omega) (by omega) (by omega)]; exact (f4 i hi i1).1
          have q23 : V3 (a + 23) i = j_rb k r (j_rB D) w i := by rw [c1 _ (by omega) (by omega) (by omega)]; exact (f4 i hi i1).2
          have q10 : V3 a 10 = j_M r := by rw [c2 10 (by decide), f2 10 (by decide) (by decide) (by decide) (by decide)]; exact hal
          have m0 : 0 ≤ i % la := Int.emod_nonneg _ (by omega)
          have m1 : i % la < la := Int.emod_lt_of_pos _ (by omega)
          have q24 := c4 (i % la) m0 (by omega)
          have xb := bd.1 (i % la)
          generalize (j_pX (j_M r) la n (j_rf k r (j_rB D) w) (j_rb k r (j_rB D) w) (n - 1 - i).toNat) = Q at *
          obtain ⟨X, u, g⟩ := Q
          dsimp only at c3 c4 c5 q24 xb kk bd
          generalize j_rf k r (j_rB D) w i = f at *
          generalize j_rb k r (j_rB D) w i = b at *
          generalize eMM : j_M r = M at *
          generalize eX : X (i % la) = x at *
          have ub : 0 ≤ u ∧ u ≤ 800 := by omega
          have yb := j_y_bd (x := x) (f := f) (by omega) (by omega) hf.1
          have yq := j_pk_q (x := x) (f := f) (by omega) (by omega) hf.1
          refine t13_27_192 h (fun z => absurd z (by omega)) (fun _ => ?_)
          refine t13_27_197 h L ht hi l0 m0 (by omega) ?_
          rw [q24]
          -- the end of a sign
          have fin : ∀ (V4 : jH) (y : Int), y = j_y x f → V4 a 18 = u + j_sc x f → (∀ j : Int, j ≠ 18 → V4 a j = V3 a j) → V4 (a + 25) = j_pb (V3 (a + 25)) u x f → (∀ c : Int, c ≠ a → c ≠ a + 25 → V4 c = V3 c) → y < 256 * f → j_ok n_KT 9 C G 208 [(0, (2, a)), (2, (0, r)), (3, (0, la)), (4, (0, n)), (6, (0, i)), (7, (1, y))] [] S V4 0 0 := by
            intro V4 y ey d18 da d25 dc hy
            have p22 : V4 (a + 22) i = f := by rw [dc _ (by omega) (by omega)]; exact q22
            have p23 : V4 (a + 23) i = b := by rw [dc _ (by omega) (by omega)]; exact q23
            have p10 : V4 a 10 = M := by rw [da 10 (by decide)]; exact q10
            rw [← ey] at yb yq
            have mq := j_mulb (show 0 ≤ M by omega) hm.2 yq.1 yq.2.1
            refine t13_27_208 h L ht hi (by omega) (by rw [p22]; omega) (fun _ => ?_) (fun z => absurd z (by rw [p22]; omega))
            refine t13_27_262 h L ht hi l0 (by omega) yb.1 (by rw [p22]; exact hf.1) (by rw [p22, p10]; omega) (by rw [p22, p10, p23]; omega) (by rw [p22, p10, p23]; omega) m0 (by omega) (by omega) ?_
            rw [p22, p10, p23, show i + (-1) = i - 1 by omega]
            refine kk _ ⟨(by omega), (by omega), fun c z0 z1 z2 => by rw [j_up_ne z1, dc c z0 z2]; exact c1 c z0 z1 z2, fun j hj => by rw [j_up_ne (by omega), da j hj]; exact c2 j hj, by rw [j_up_ne (by omega)]; exact d18, fun l z0 z1 => ?_, fun j z0 z1 => ?_⟩
            · rw [j_up_u, dc _ (by omega) (by omega)]
              unfold j_u
              by_cases e : l = i % la
              · rw [if_pos e, if_pos e]; unfold j_pk; rw [← ey]
              · rw [if_neg e, if_neg e]; exact c4 l z0 z1
            · rw [j_up_ne (show a ≠ a + 24 by omega), d18] at z1
              rw [j_up_ne (by omega), d25]
              exact j_pb_congr (fun j j0 j1 => c5 j j0 (by omega)) z0 z1
          by_cases b1 : x < 256 * f
          · refine fin V3 x (by unfold j_y; rw [if_pos b1]) (by unfold j_sc; rw [if_pos b1]; omega) (fun _ _ => rfl) (by unfold j_pb; rw [if_pos b1]) (fun _ _ _ => rfl) b1
          · refine t13_27_208 h L ht hi (by omega) (by rw [q22]; omega) (fun z => absurd z (by rw [q22]; exact b1)) (fun _ => ?_)
            refine t13_27_226 h L ht (by omega) (by omega) (by omega) ?_
            rw [show (2 : Int) ^ (8 : Int).toNat = 256 from rfl, j_w32_in (show -2147483648 ≤ x % 256 by omega) (by omega), c3]
            have W18 : j_up (j_up V3 (a + 25) u (x % 256)) a 18 (u + 1) a 18 = u + 1 := j_up_at _ _ _ _
            have Wa : ∀ j : Int, j ≠ 18 → j_up (j_up V3 (a + 25) u (x % 256)) a 18 (u + 1) a j = V3 a j := fun j hj => by rw [j_up_off hj, j_up_ne (by omega)]
            have W25 : j_up (j_up V3 (a + 25) u (x % 256)) a 18 (u + 1) (a + 25) = j_u (V3 (a + 25)) u (x % 256) := by rw [j_up_ne (by omega), j_up_u]
            have Wc : ∀ c : Int, c ≠ a → c ≠ a + 25 → j_up (j_up V3 (a + 25) u (x % 256)) a 18 (u + 1) c = V3 c := fun c z0 z1 => by rw [j_up_ne z0, j_up_ne z1]
            generalize j_up (j_up V3 (a + 25) u (x % 256)) a 18 (u + 1) = V5 at *
            by_cases b2 : x / 256 < 256 * f
            · exact fin V5 (x / 256) (by unfold j_y; rw [if_neg b1, if_pos b2]) (by unfold j_sc; rw [if_neg b1, if_pos b2]; exact W18) Wa (by unfold j_pb; rw [if_neg b1, if_pos b2]; exact W25) Wc b2
            · have p22 : V5 (a + 22) i = f := by rw [Wc _ (by omega) (by omega)]; exact q22
              refine t13_27_208 h L ht hi (by omega) (by rw [p22]; omega) (fun z => absurd z (by rw [p22]; exact b2)) (fun _ => ?_)
              refine t13_27_226 h L ht (by omega) (by omega) (by omega) ?_
              rw [show (2 : Int) ^ (8 : Int).toNat = 256 from rfl, j_w32_in (show -2147483648 ≤ x / 256 % 256 by omega) (by omega), W18]
              refine fin _ (x / 256 / 256) (by unfold j_y; rw [if_neg b1, if_neg b2]) ?_ (fun j hj => ?_) ?_ (fun c z0 z1 => ?_) (by omega)
              · rw [j_up_at]; unfold j_sc; rw [if_neg b1, if_neg b2]; omega
              · rw [j_up_off hj, j_up_ne (by omega)]; exact Wa j hj
              · rw [j_up_ne (by omega), j_up_u, W25]; unfold j_pb; rw [if_neg b1, if_neg b2]
              · rw [j_up_ne z0, j_up_ne z1]; exact Wc c z0 z1
        · obtain ⟨i0, i1, c1, c2, c3, c4, c5⟩ := hI
          have ei : i = -1 := by omega
          subst ei
          have en' : (n - 1 - (-1)).toNat = n.toNat := by omega
          rw [en'] at c3 c4 c5
          refine t13_27_192 h (fun _ => text V3 (fun c z0 z1 => by rw [c1 c z0 (by omega) (by omega)]; exact f1 c z0 z1) (fun j j0 j1 j2 j3 => by rw [c2 j j2]; exact f2 j j0 j1 j2 j3) (fun x x0 x1 => by rw [c1 _ (by omega) (by omega) (by omega)]; exact f3 x x0 x1) hms c3 c4 c5) (fun z => absurd z (by omega))
      refine lp (n - 1) _ ⟨(by omega), (by omega), fun c z0 z1 z2 => by rw [j_up_ne z0]; exact g1 c z1, fun j hj => by rw [j_up_off hj, g1 a (by omega)], ?_, fun y y0 y1 => ?_, fun j j0 j1 => ?_⟩
      · rw [j_up_at, show (n - 1 - (n - 1)).toNat = 0 by omega]; rfl
      · rw [j_up_ne (by omega), g2 y y0 y1, show (n - 1 - (n - 1)).toNat = 0 by omega]; rfl
      · rw [j_up_at] at j1; omega
    have init : ∀ (i : Int) (V2 : jH), (0 ≤ i ∧ i ≤ 4 ∧ (∀ c : Int, c ≠ a + 24 → V2 c = V1 c) ∧ ∀ y : Int, 0 ≤ y → y < i → V2 (a + 24) y = j_M r) → j_ok n_KT 9 C G 157 [(0, (2, a)), (2, (0, r)), (3, (0, la)), (4, (0, n)), (6, (0, i))] [] S V2 0 0 := by
      refine j_loop (N := 4) (fun i V2 hi hI kk => ?_) (fun i V2 hi hI => ?_)
      · obtain ⟨i0, i1, g1, g2⟩ := hI
        have q10 : V2 a 10 = j_M r := by rw [g1 a (by omega), f2 10 (by decide) (by decide) (by decide) (by decide)]; exact hal
        refine t13_27_157 h (fun z => absurd z (by omega)) (fun _ => ?_)
        refine t13_27_163 h L ht i0 hi (by omega) (kk _ ⟨(by omega), (by omega), fun c hc => by rw [j_up_ne hc]; exact g1 c hc, fun y y0 y1 => ?_⟩)
        by_cases e : y = i
        · rw [e, j_up_at]; exact q10
        · rw [j_up_off e]; exact g2 y y0 (by omega)
      · obtain ⟨i0, i1, g1, g2⟩ := hI
        have ei : i = 4 := by omega
        rw [ei] at g2
        exact t13_27_157 h (fun _ => run V2 g1 g2) (fun z => absurd z (by omega))
    exact init 0 V1 ⟨(by omega), (by omega), fun _ _ => rfl, fun y y0 y1 => absurd y1 (by omega)⟩
  -- from the planning on
  have plan : ∀ V1 : jH, (∀ c : Int, c ≠ a + 27 → V1 c = V c) → (∀ i : Int, 0 ≤ i → i < 1024 → V1 (a + 27) i = D i) → j_ok n_KT 9 C G 42 [(0, (2, a)), (1, (0, p)), (2, (0, r)), (3, (0, la)), (4, (0, n))] [] S V1 0 0 := by
    intro V1 f1 f3
    refine t13_27_42 h ?_
    have lp : ∀ (i : Int) (z : Int × jH), (0 ≤ i ∧ i ≤ n ∧ (∀ c : Int, c ≠ a → c ≠ a + 21 → c ≠ a + 22 → c ≠ a + 23 → z.2 c = V1 c) ∧ (∀ j : Int, j ≠ 12 → j ≠ 13 → z.2 a j = V1 a j) ∧ (k ≠ 4 → z.2 (a + 21) = D) ∧ (k = 4 → ∀ x : Int, 0 ≤ x → x ≤ 256 → j_pre (z.2 (a + 21)) x = j_G r w i.toNat x) ∧ (∀ x : Int, 0 ≤ x → x < i → z.2 (a + 22) x = j_rf k r (j_rB D) w x ∧ z.2 (a + 23) x = j_rb k r (j_rB D) w x) ∧ j_miss (j_rf k r (j_rB D) w) i z.1) →
        j_ok n_KT 9 C G 48 [(0, (2, a)), (1, (0, p)), (2, (0, r)), (3, (0, la)), (4, (0, n)), (5, (0, z.1)), (6, (0, i))] [] S z.2 0 0 := by
      refine j_loop (N := n) (fun i z hi hI kk => ?_) (fun i z hi hI => ?_)
      · obtain ⟨m, V2⟩ := z
        obtain ⟨i0, i1, c1, c2, c3, c4, c5, c6⟩ := hI
        dsimp only at c1 c2 c3 c4 c5 c6 ⊢
        have v3 : V2 (a + 3) = V (a + 3) := by rw [c1 _ (by omega) (by omega) (by omega) (by omega), f1 _ (by omega)]
        have v9 : V2 a 9 = k := by rw [c2 9 (by decide) (by decide), f1 a (by omega), ek]
        have hs := hw i i0 hi
        have ws : V2 (a + 3) (400 * p + i) = w i := by rw [v3, eW']
        refine t13_27_48 h (fun y => absurd y (by omega)) (fun _ => ?_)
        refine t13_27_55 h L hrm ht (by omega) (by omega) (by omega) (by omega) (m13_16 C.2.1 2400) ⟨j_arr_of k3 (by decide) rfl, (by omega), (by omega), (by omega), i0, by show 400 * p + i ≤ 2400; omega⟩ (Nat.zero_le _) (Nat.zero_le _) ?_
        rintro pt S3 V3 ⟨e0, e1, ept⟩
        subst e0; subst e1
        rw [v3] at ept
        have ept : pt = j_bef w i % 4 := by
          rw [ept]
          have : (fun k => V (a + 3) (400 * p + k)) = w := by funext x; exact eW' x
          rw [this]
        rw [ws]
        -- the deal that counts
        have hdeal : ∀ x : Int, 0 ≤ x → x ≤ 256 → j_pre (j_rs (V3 (a + 21)) (j_do (V3 a 9) pt)) x = j_D k r (j_rB D) w i x := fun x x0 x1 => by
          rw [v9]
          unfold j_D j_do
          by_cases k4 : k = 4
          · rw [if_pos k4, if_neg (show ¬ k = 3 by omega), show 256 * (0 : Int) = 0 by omega, j_rs0]; exact c4 k4 x x0 x1
          · rw [if_neg k4, c3 k4]
            by_cases k3' : k = 3
            · rw [if_pos k3', if_pos k3', ept]; rfl
            · rw [if_neg k3', if_neg k3']; rfl
        have dl := hDi i i0 (by omega)
        have db := fun x (x0 : 0 ≤ x) (x1 : x ≤ 256) => j_dl_bd dl (Int.le_refl _) x x0 x1
        refine t13_27_91 h hrm ht (m13_24 C.2.1) ⟨L, (by omega), (by omega), hs.1, hs.2, fun x x0 x1 => by rw [hdeal x x0 x1]; have := db x x0 x1; omega⟩ (Nat.zero_le _) (Nat.zero_le _) ?_
        rintro S4 V4 ⟨e0, s1, s2, s3, s4⟩
        subst e0
        rw [hdeal _ hs.1 (by omega)] at s2
        have s1' : V4 a 12 = j_rf k r (j_rB D) w i := by
          rw [s1]
          show V3 (a + 21) (j_do (V3 a 9) pt + w i) = j_D k r (j_rB D) w i (w i + 1) - j_D k r (j_rB D) w i (w i)
          rw [← hdeal _ hs.1 (show w i ≤ 256 by omega), ← hdeal (w i + 1) (by omega) (by omega), j_pre_s _ hs.1]
          show _ = j_pre (j_rs (V3 (a + 21)) (j_do (V3 a 9) pt)) (w i) + V3 (a + 21) (j_do (V3 a 9) pt + w i) - _
          omega
        have s2' : V4 a 13 = j_rb k r (j_rB D) w i := s2
        -- behind what is noted
        have W1 : ∀ c : Int, c ≠ a → c ≠ a + 22 → c ≠ a + 23 → j_up (j_up V4 (a + 22) i (V4 a 12)) (a + 23) i (V4 a 13) c = V3 c := fun c z0 z1 z2 => by rw [j_up_ne z2, j_up_ne z1]; exact s4 c z0
        have Wa : ∀ j : Int, j ≠ 12 → j ≠ 13 → j_up (j_up V4 (a + 22) i (V4 a 12)) (a + 23) i (V4 a 13) a j = V3 a j := fun j j0 j1 => by rw [j_up_ne (by omega), j_up_ne (by omega)]; exact s3 j j0 j1
        have W22 : ∀ x : Int, j_up (j_up V4 (a + 22) i (V4 a 12)) (a + 23) i (V4 a 13) (a + 22) x = if x = i then j_rf k r (j_rB D) w i else V3 (a + 22) x := fun x => by
          rw [j_up_ne (by omega)]
          by_cases e : x = i
          · rw [if_pos e, e, j_up_at, s1']
          · rw [if_neg e, j_up_off e, s4 _ (by omega)]
        have W23 : ∀ x : Int, j_up (j_up V4 (a + 22) i (V4 a 12)) (a + 23) i (V4 a 13) (a + 23) x = if x = i then j_rb k r (j_rB D) w i else V3 (a + 23) x := fun x => by
          by_cases e : x = i
          · rw [if_pos e, e, j_up_at, s2']
          · rw [if_neg e, j_up_off e, j_up_ne (by omega), s4 _ (by omega)]
        have go : ∀ m' : Int, j_miss (j_rf k r (j_rB D) w) (i + 1) m' → j_ok n_KT 9 C G 132 [(0, (2, a)), (1, (0, p)), (2, (0, r)), (3, (0, la)), (4, (0, n)), (6, (0, i)), (7, (0, w i))] [(0, m')] S4 (j_up (j_up V4 (a + 22) i (V4 a 12)) (a + 23) i (V4 a 13)) 0 0 := by
          intro m' hm'
          generalize j_up (j_up V4 (a + 22) i (V4 a 12)) (a + 23) i (V4 a 13) = V5 at *
          have u9 : V5 a 9 = k := by rw [Wa 9 (by decide) (by decide)]; exact v9
          have u21 : V5 (a + 21) = V3 (a + 21) := W1 _ (by omega) (by omega) (by omega)
          refine t13_27_132 h hrm ht (m13_25 C.2.1) ⟨L, hs.1, hs.2, fun k4 x x0 x1 => ?_⟩ (Nat.zero_le _) (Nat.zero_le _) ?_
          · rw [u9] at k4
            rw [u21]
            have g := j_G_dl (w := w) r0 r1 i.toNat (fun y y0 y1 => hw y y0 (by omega))
            have e : V3 (a + 21) x = j_sh (j_G r w i.toNat) x := by
              show _ = j_G r w i.toNat (x + 1) - j_G r w i.toNat x
              rw [← c4 k4 x x0 (by omega), ← c4 k4 (x + 1) (by omega) (by omega), j_pre_s _ x0]; omega
            have e2 : j_sh (j_G r w i.toNat) x = j_G r w i.toNat (x + 1) - j_G r w i.toNat x := rfl
            have b1 := j_dl_bd (j_dl_weak g (show (0 : Int) ≤ 1 by decide)) (Int.le_refl _) x x0 (by omega)
            have b2 := j_dl_bd (j_dl_weak g (show (0 : Int) ≤ 1 by decide)) (Int.le_refl _) (x + 1) (by omega) (by omega)
            rw [e]; exact ⟨g.2.2 x x0 x1, by omega⟩
          · rintro S6 V6 ⟨e0, hmv⟩
            subst e0
            have mv1 : ∀ c : Int, c ≠ a + 21 → V6 c = V5 c := fun c hc => by
              rcases hmv with ⟨_, e⟩ | ⟨_, d, e, _⟩
              · rw [e]
              · rw [e]; exact j_row_ne hc
            refine t13_27_140 h (by omega) (kk (m', V6) ⟨(by omega), (by omega), fun c z0 z1 z2 z3 => ?_, fun j j0 j1 => ?_, fun k4 => ?_, fun k4 x x0 x1 => ?_, fun x x0 x1 => ?_, hm'⟩)
            · dsimp only; rw [mv1 c z1, W1 c z0 z2 z3]; exact c1 c z0 z1 z2 z3
            · dsimp only; rw [mv1 a (by omega), Wa j j0 j1]; exact c2 j j0 j1
            · dsimp only
              rcases hmv with ⟨_, e⟩ | ⟨z, _⟩
              · rw [e, u21]; exact c3 k4
              · rw [u9] at z; exact absurd z k4
            · dsimp only
              rcases hmv with ⟨z, _⟩ | ⟨_, d, e, d1, d2⟩
              · rw [u9] at z; exact absurd k4 z
              · rw [e, j_row_at, d2 x x0 x1, show (i + 1).toNat = i.toNat + 1 by omega]
                show j_gr (j_pre (V5 (a + 21))) (w i) x = j_gr (j_G r w i.toNat) (w ((i.toNat : Nat) : Int)) x
                rw [show ((i.toNat : Nat) : Int) = i by omega, u21]
                exact j_gr_congr (c4 k4) x0 x1
            · dsimp only
              rw [mv1 _ (by omega), mv1 _ (by omega), W22, W23]
              by_cases e : x = i
              · rw [if_pos e, if_pos e, e]; exact ⟨rfl, rfl⟩
              · rw [if_neg e, if_neg e]; exact c5 x x0 (by omega)
        refine t13_27_96 h L ht i0 (by omega) (fun y => t13_27_130 h (go m ?_)) (fun y => t13_27_125 h (go i ?_))
        · rw [s1'] at y
          rcases c6 with ⟨m1, m2⟩ | ⟨m1, m2, m3, m4⟩
          · refine Or.inl ⟨m1, fun x x0 x1 => ?_⟩
            by_cases e : x = i
            · rw [e]; exact y
            · exact m2 x x0 (by omega)
          · refine Or.inr ⟨m1, (by omega), m3, fun x x0 x1 => ?_⟩
            by_cases e : x = i
            · rw [e]; exact y
            · exact m4 x x0 (by omega)
        · rw [s1'] at y
          exact Or.inr ⟨i0, (by omega), y, fun x x0 x1 => absurd x1 (by omega)⟩
      · obtain ⟨m, V2⟩ := z
        obtain ⟨i0, i1, c1, c2, c3, c4, c5, c6⟩ := hI
        dsimp only at c1 c2 c3 c4 c5 c6 ⊢
        have ei : i = n := by omega
        rw [ei] at c5 c6
        have fr : ∀ c : Int, c ≠ a → (c < a + 21 ∨ a + 27 < c) → V2 c = V c := fun c z0 z1 => by rw [c1 c z0 (by omega) (by omega) (by omega), f1 c (by omega)]
        have fa : ∀ j : Int, j ≠ 12 → j ≠ 13 → V2 a j = V a j := fun j j0 j1 => by rw [c2 j j0 j1, f1 a (by omega)]
        refine t13_27_48 h (fun _ => ?_) (fun y => absurd y (by omega))
        refine t13_27_146 h (fun y => ?_) (fun y => ?_)
        · have em : m = -1 := by
            rcases c6 with ⟨z, _⟩ | ⟨z, _⟩
            · exact z
            · omega
          rw [em] at c6
          exact pack V2 fr (fun j j0 j1 _ _ => fa j j0 j1) (fun x x0 x1 => by rw [c1 _ (by omega) (by omega) (by omega) (by omega)]; exact f3 x x0 x1) c6 c5
        · exact t13_27_151 h R ⟨rfl, fr, fun j j0 j1 _ _ => fa j j0 j1, m, by rw [ek, eD, eW, en]; exact c6, Or.inl ⟨y, rfl⟩⟩ (Nat.le_refl _) (Nat.le_refl _)
    have v21 : V1 (a + 21) = D := by rw [f1 _ (by omega), eD]
    refine lp 0 (-1, V1) ⟨(by omega), n0, fun _ _ _ _ _ => rfl, fun _ _ _ => rfl, fun _ => v21, fun k4 x x0 x1 => ?_, fun x x0 x1 => absurd x1 (by omega), Or.inl ⟨rfl, fun x x0 x1 => absurd x1 (by omega)⟩⟩
    show j_pre (V1 (a + 21)) x = x * (j_M r / 256)
    rw [v21]
    have := j_flat_pre (D := D) (e := j_M r / 256) x.toNat (fun s s0 s1 => hD4 k4 s s0 (by omega))
    rw [show ((x.toNat : Nat) : Int) = x by omega] at this
    exact this
  have cp : ∀ (i : Int) (V1 : jH), (0 ≤ i ∧ i ≤ 1024 ∧ (∀ c : Int, c ≠ a + 27 → V1 c = V c) ∧ ∀ x : Int, 0 ≤ x → x < i → V1 (a + 27) x = D x) → j_ok n_KT 9 C G 14 [(0, (2, a)), (1, (0, p)), (2, (0, r)), (3, (0, la)), (4, (0, n)), (5, (0, i))] [] S V1 0 0 := by
    refine j_loop (N := 1024) (fun i V1 hi hI kk => ?_) (fun i V1 hi hI => ?_)
    · obtain ⟨i0, i1, g1, g2⟩ := hI
      refine t13_27_14 h (fun y => absurd y (by omega)) (fun _ => ?_)
      refine t13_27_22 h L ht i0 hi (by omega) (kk _ ⟨(by omega), (by omega), fun c hc => by rw [j_up_ne hc]; exact g1 c hc, fun x x0 x1 => ?_⟩)
      by_cases e : x = i
      · rw [e, j_up_at, g1 _ (by omega), eD]
      · rw [j_up_off e]; exact g2 x x0 (by omega)
    · obtain ⟨i0, i1, g1, g2⟩ := hI
      have ei : i = 1024 := by omega
      rw [ei] at g2
      exact t13_27_14 h (fun _ => plan V1 g1 g2) (fun y => absurd y (by omega))
  exact cp 0 V ⟨(by omega), (by omega), fun _ _ => rfl, fun x x0 x1 => absurd x1 (by omega)⟩
