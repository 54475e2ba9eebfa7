/-! STEPS: what taking a block shows -/
theorem j_refl_f {f g : Int → Int} {len st M : Int} (s0 : 0 ≤ st) (h : ∀ i : Int, 0 ≤ i → i < len → g i = f i) : ∀ (n : Nat) (x u : Int), j_refl g len st M n x u = j_refl f len st M n x u
  | 0, _, _ => rfl
  | n + 1, x, u => by
    unfold j_refl
    by_cases c1 : M ≤ x
    · rw [if_pos c1, if_pos c1]
    · rw [if_neg c1, if_neg c1]
      by_cases c2 : u < 1 ∨ len < st + u
      · rw [if_pos c2, if_pos c2]
      · rw [if_neg c2, if_neg c2, h _ (by omega) (by omega)]
        exact j_refl_f s0 h n _ _
theorem j_tk_f {f g : Int → Int} {len st M la k r : Int} {B : Int → Int → Int} {X : Int → Int} {u : Int} (s0 : 0 ≤ st) (h : ∀ i : Int, 0 ≤ i → i < len → g i = f i) : ∀ n : Nat, j_tk g len st M la k r B X u n = j_tk f len st M la k r B X u n
  | 0 => rfl
  | n + 1 => by
    have e : j_tk1 g len st M la k r B n = j_tk1 f len st M la k r B n := by
      funext q
      unfold j_tk1
      rw [j_refl_f s0 h]
    show (j_tk g len st M la k r B X u n).bind (j_tk1 g len st M la k r B n) = (j_tk f len st M la k r B X u n).bind (j_tk1 f len st M la k r B n)
    rw [j_tk_f s0 h n, e]
theorem j_sgN_p {b : Int → Int} {x : Int} (h0 : b 0 ≤ x) : ∀ n : Nat, b (j_sgN b x n) ≤ x ∧ ∀ m : Int, j_sgN b x n < m → m < n → x < b m
  | 0 => ⟨h0, fun m a1 a2 => by have e : j_sgN b x 0 = 0 := rfl; omega⟩
  | n + 1 => by
    have ih := j_sgN_p h0 n
    by_cases c : b n ≤ x
    · have e : j_sgN b x (n + 1) = n := if_pos c
      rw [e]
      exact ⟨c, fun m a1 a2 => (by omega)⟩
    · have e : j_sgN b x (n + 1) = j_sgN b x n := if_neg c
      rw [e]
      refine ⟨ih.1, fun m a1 a2 => ?_⟩
      by_cases d : m = n
      · rw [d]; omega
      · exact ih.2 m a1 (by omega)
theorem j_sg_p {b : Int → Int} {x M : Int} (h : j_dl b 0 M) (x0 : 0 ≤ x) (x1 : x < M) : b (j_sg b x) ≤ x ∧ x < b (j_sg b x + 1) := by
  have r := j_sg_rng b x
  obtain ⟨N, hN⟩ : ∃ N : Nat, N = 256 := ⟨256, rfl⟩
  have p := j_sgN_p (b := b) (x := x) (by rw [h.1]; exact x0) N
  have e : j_sg b x = j_sgN b x N := by rw [hN]; rfl
  rw [← e] at p
  refine ⟨p.1, ?_⟩
  by_cases c : j_sg b x + 1 = 256
  · rw [c, h.2.1]; exact x1
  · exact p.2 _ (by omega) (by omega)
/-- the states stay within their bounds while signs are taken -/
theorem j_tk_bd {f : Int → Int} {len st la k r : Int} {B : Int → Int → Int} {X : Int → Int} {u : Int} (r0 : 8 ≤ r) (r1 : r ≤ 12) (l0 : 1 ≤ la) (s0 : 0 ≤ st) (hf : ∀ i : Int, 0 ≤ i → i < len → 0 ≤ f i ∧ f i ≤ 255) (hB : ∀ p : Int, 0 ≤ p → p < j_parts k → j_dl (B p) 0 (j_M r)) (hX : ∀ y : Int, 0 ≤ y → y < la → j_M r ≤ X y ∧ X y < 256 * j_M r) (u0 : 0 ≤ u) : ∀ (n : Nat) (Y : Int → Int) (v : Int) (w : Int → Int), j_tk f len st (j_M r) la k r B X u n = some (Y, v, w) → (∀ y : Int, 0 ≤ y → y < la → j_M r ≤ Y y ∧ Y y < 256 * j_M r) ∧ 0 ≤ v ∧ ∀ x : Int, 0 ≤ x → x < n → 0 ≤ w x ∧ w x < 256
  | 0, Y, v, w, h => by
    have h : some (X, u, fun _ => (0 : Int)) = some (Y, v, w) := h
    injection h with h
    injection h with h1 h
    injection h with h2 h3
    rw [← h1, ← h2]
    exact ⟨hX, u0, fun x x0 x1 => (by omega)⟩
  | n + 1, Y, v, w, h => by
    have h : (j_tk f len st (j_M r) la k r B X u n).bind (j_tk1 f len st (j_M r) la k r B n) = some (Y, v, w) := h
    cases e : j_tk f len st (j_M r) la k r B X u n with
    | none => rw [e] at h; exact absurd h (by intro z; cases z)
    | some q =>
      rw [e] at h
      obtain ⟨Y0, v0, w0⟩ := q
      obtain ⟨i1, i2, i3⟩ := j_tk_bd r0 r1 l0 s0 hf hB hX u0 n Y0 v0 w0 e
      have h : j_tk1 f len st (j_M r) la k r B n (Y0, v0, w0) = some (Y, v, w) := h
      unfold j_tk1 at h
      dsimp only at h
      have m0 : 0 ≤ (n : Int) % la := Int.emod_nonneg _ (by omega)
      have m1 : (n : Int) % la < la := Int.emod_lt_of_pos _ (by omega)
      have hm := j_M_bd r0 r1
      have D := j_D_dl (B := B) (k := k) (w := w0) (n := n) r0 r1 hB i3 (show (0 : Int) ≤ n by omega) (Int.le_refl _)
      obtain ⟨y0, y1⟩ := i1 _ m0 m1
      generalize Y0 ((n : Int) % la) = y at *
      have p0 : 0 ≤ y % j_M r := Int.emod_nonneg _ (by omega)
      have p1 : y % j_M r < j_M r := Int.emod_lt_of_pos _ (by omega)
      have dm := Int.mul_ediv_add_emod y (j_M r)
      have q1 : 1 ≤ y / j_M r := by
        have := Int.ediv_le_ediv (show 0 < j_M r by omega) y0
        rw [Int.ediv_self (by omega)] at this
        exact this
      have q2 : y / j_M r < 256 := Int.ediv_lt_of_lt_mul (by omega) y1
      have sg := j_sg_p D p0 p1
      have sb := j_sg_rng (j_D k r B w0 n) (y % j_M r)
      generalize j_sg (j_D k r B w0 n) (y % j_M r) = s at *
      have b1 := j_dl_bd D (Int.le_refl _) s sb.1 (by omega)
      have b2 := j_dl_bd D (Int.le_refl _) (s + 1) (by omega) (by omega)
      have ds := D.2.2 s sb.1 sb.2
      have es : j_sh (j_D k r B w0 n) s = j_D k r B w0 n (s + 1) - j_D k r B w0 n s := rfl
      generalize j_sh (j_D k r B w0 n) s = F at *
      have pl : F * 1 ≤ F * (y / j_M r) := Int.mul_le_mul_of_nonneg_left q1 ds
      have pu : F * (y / j_M r) ≤ F * 255 := Int.mul_le_mul_of_nonneg_left (by omega) ds
      generalize F * (y / j_M r) = P at *
      cases e2 : j_refl f len st (j_M r) 2 (P + y % j_M r - j_D k r B w0 n s) v0 with
      | none => rw [e2] at h; exact absurd h (by intro z; cases z)
      | some z =>
        rw [e2] at h
        obtain ⟨x', u'⟩ := z
        obtain ⟨c1, c2, c3, c4⟩ := j_refl_bd s0 hf 2 _ v0 x' u' (show 0 ≤ P + y % j_M r - j_D k r B w0 n s by omega) (by omega) i2 (fun z => absurd z (by omega)) (fun z => absurd z (by omega)) (fun _ => (by omega)) (by omega) e2
        have h : some (j_u Y0 ((n : Int) % la) x', u', j_u w0 n s) = some (Y, v, w) := h
        injection h with h
        injection h with h1 h
        injection h with h2 h3
        rw [← h1, ← h2, ← h3]
        refine ⟨fun l q0 q1 => ?_, c3, fun x x0 x1 => ?_⟩
        · by_cases el : l = (n : Int) % la
          · rw [el, j_u_at]; exact ⟨c1, c2⟩
          · rw [j_u_ne el]; exact i1 l q0 q1
        · by_cases ex : x = n
          · rw [ex, j_u_at]; exact sb
          · rw [j_u_ne ex]; exact i3 x x0 (by omega)
abbrev j_TS (f : Int → Int) (len : Int) : Nat → Option ((Int → Int) × Int × (Int → Int)) := j_tk f len (j_hS f len).2.1 (j_M (j_h2 f len).1) (j_h3 f len).1 (j_h1 f len).1 (j_h2 f len).1 (j_hP f len).2.2 (j_hX f len).1 (j_hS f len).1
abbrev j_DS (f : Int → Int) (len : Int) (w : Int → Int) : Int → Int → Int := j_D (j_h1 f len).1 (j_h2 f len).1 (j_hP f len).2.2 w
def j_stp (f : Int → Int) (len : Int) (V : jH) (s : Int) : Prop := V s 5 = (j_h4 f len).1 ∧ ∃ (X w : Int → Int), j_TS f len (j_h4 f len).1.toNat = some (X, 0, w) ∧ (∀ y : Int, 0 ≤ y → y < (j_h3 f len).1 → X y = j_M (j_h2 f len).1) ∧
  ∀ x : Int, 0 ≤ x → x < (j_h4 f len).1 → V (s + 1) x = w x ∧ V (s + 4) x = j_sh (j_DS f len w x) (w x) ∧ V (s + 5) x = j_DS f len w x (w x) ∧ ∃ (X' : Int → Int) (u' : Int) (w' : Int → Int), j_TS f len (x + 1).toNat = some (X', u', w') ∧ V (s + 2) x = X' (x % (j_h3 f len).1) ∧ V (s + 3) x = u'
theorem j_stp_c {f g : Int → Int} {len : Int} {V V' : jH} {s s' : Int} (hl : 0 ≤ len) (hf : ∀ i : Int, 0 ≤ i → i < len → 0 ≤ f i ∧ f i ≤ 255) (hr : j_rt f len) (hg : ∀ i : Int, 0 ≤ i → i < len → g i = f i) (e5 : V' s' 5 = V s 5) (e : ∀ q i : Int, 1 ≤ q → q ≤ 5 → 0 ≤ i → i < V s 5 → V' (s' + q) i = V (s + q) i) (h : j_stp f len V s) : j_stp g len V' s' := by
  obtain ⟨c1, c2, c3, c4, c5, c6, c7, c8⟩ := j_h_congr hl hg
  have bd := j_rt_bd hl hf hr
  obtain ⟨h5, X, w, t1, t2, t3⟩ := h
  have tk : ∀ n : Nat, j_TS g len n = j_TS f len n := fun n => by
    show j_tk g len (j_hS g len).2.1 (j_M (j_h2 g len).1) (j_h3 g len).1 (j_h1 g len).1 (j_h2 g len).1 (j_hP g len).2.2 (j_hX g len).1 (j_hS g len).1 n = _
    rw [c1, c2, c3, c5, c6, c7]
    exact j_tk_f bd.2.2.2.2.2.2.1.1 hg n
  unfold j_stp
  rw [c2, c3, c4, tk]
  refine ⟨e5.trans h5, X, w, t1, t2, fun x x0 x1 => ?_⟩
  obtain ⟨a1, a2, a3, X', u', w', a4, a5, a6⟩ := t3 x x0 x1
  rw [e 1 x (by omega) (by omega) x0 (by omega), e 2 x (by omega) (by omega) x0 (by omega), e 3 x (by omega) (by omega) x0 (by omega), e 4 x (by omega) (by omega) x0 (by omega), e 5 x (by omega) (by omega) x0 (by omega), tk]
  refine ⟨a1, ?_, ?_, X', u', w', a4, a5, a6⟩
  · show _ = j_sh (j_D (j_h1 g len).1 (j_h2 g len).1 (j_hP g len).2.2 w x) (w x)
    rw [c1, c2, c5]; exact a2
  · show _ = j_D (j_h1 g len).1 (j_h2 g len).1 (j_hP g len).2.2 w x (w x)
    rw [c1, c2, c5]; exact a3
/-- the reference takes the block again: it finds the steps -/
theorem j_ag_stp {V V' U : jH} {a x s : Int} (hb : j_mbk V a) (hr : j_rt (V (a + 8)) (V (a + 1) 7)) (hs : j_stp (V (a + 8)) (V (a + 1) 7) U s) (h : j_ag V V' a x) : x = 1 ∧ V' a 24 = U s 5 ∧ (0 ≤ U s 5 ∧ U s 5 ≤ 400) ∧ ∀ i : Int, 0 ≤ i → i < U s 5 → V' (a + 28) i = U (s + 1) i ∧ V' (a + 29) i = U (s + 2) i ∧ V' (a + 30) i = U (s + 3) i ∧ V' (a + 22) i = U (s + 4) i ∧ V' (a + 23) i = U (s + 5) i ∧ j_w32 (V' (a + 29) i) = V' (a + 29) i := by
  have agF := j_ag_F h
  obtain ⟨V0, p3, F2, sy, rk⟩ := h
  have bd := j_rt_bd hb.1 hb.2.2 hr
  obtain ⟨F, v9, v10, v23, v24, v25, v26, v27, hD⟩ := p3
  obtain ⟨h5, X, w, t1, t2, t3⟩ := hs
  have e8 : V0 (a + 8) = V (a + 8) := F.1 _ (by omega) (by omega)
  have e1 : V0 (a + 1) = V (a + 1) := F.1 _ (by omega) (by omega)
  have hb2 : ∀ i : Int, 0 ≤ i → i < V (a + 1) 7 → 0 ≤ V (a + 8) i ∧ V (a + 8) i ≤ 255 := hb.2.2
  generalize eF : V (a + 8) = f at *
  generalize eL : V (a + 1) 7 = len at *
  obtain ⟨k0, r01, l01, n01, pb, hX, hS, hdl⟩ := bd
  have hm := j_M_bd r01.1 r01.2
  have TR : ∀ n : Nat, j_TR V0 a (j_h2 f len).1 n = j_tk f len (j_hS f len).2.1 (j_M (j_h2 f len).1) (j_h3 f len).1 (j_h1 f len).1 (j_h2 f len).1 (j_rB (V0 (a + 21))) (fun l => j_val f ((j_hP f len).1 + 3 * l) 3) (j_hS f len).1 n := fun n => by
    unfold j_TR
    rw [e8, e1, eL, v26, v23, v9, v25, v27]
  have cc : ∀ n : Nat, (j_TS f len n = none ∧ j_TR V0 a (j_h2 f len).1 n = none) ∨ ∃ (Y Y' : Int → Int) (v : Int) (w : Int → Int), j_TS f len n = some (Y, v, w) ∧ j_TR V0 a (j_h2 f len).1 n = some (Y', v, w) ∧ ∀ l : Int, 0 ≤ l → l < (j_h3 f len).1 → Y' l = Y l := fun n => by
    rw [TR n]
    exact j_tk_c l01.1 (fun l q0 q1 => ((hX l q0 q1).1).symm) (fun p j p0 p1 j0 j1 => hD p j p0 p1 j0 j1) n
  have hw := (j_tk_bd r01.1 r01.2 l01.1 hS.1 hb2 hdl (fun y y0 y1 => (hX y y0 y1).2) hS.2.1 _ _ _ _ t1).2.2
  have tT : ∃ Y' : Int → Int, j_TR V0 a (j_h2 f len).1 (j_h4 f len).1.toNat = some (Y', 0, w) ∧ ∀ l : Int, 0 ≤ l → l < (j_h3 f len).1 → Y' l = j_M (j_h2 f len).1 := by
    rcases cc (j_h4 f len).1.toNat with ⟨z, _⟩ | ⟨Y, Y', v, w2, z1, z2, z3⟩
    · rw [t1] at z; cases z
    · rw [t1] at z1
      injection z1 with z1
      injection z1 with g1 z1
      injection z1 with g2 g3
      rw [← g2, ← g3] at z2
      exact ⟨Y', z2, fun l q0 q1 => by rw [z3 l q0 q1, ← g1]; exact t2 l q0 q1⟩
  obtain ⟨Y', y1, y2⟩ := tT
  have hT : j_rkT V0 a (j_h2 f len).1 := ⟨Y', w, by rw [v24]; exact y1, fun y q0 q1 => y2 y q0 (by rw [v23] at q1; exact q1)⟩
  have x1 : x = 1 := by
    rcases sy with ⟨z, _⟩ | ⟨_, z⟩
    · exact z
    · exact absurd hT z
  obtain ⟨X1, w1, j1, j2, j3, j4, j5, j6, j7, j8⟩ := rk x1
  rw [v24] at j1 j3 j8
  have ew : w1 = w := by
    rw [y1] at j1
    injection j1 with j1
    injection j1 with g1 j1
    injection j1 with g2 g3
    exact g3.symm
  rw [ew] at j8
  refine ⟨x1, by rw [agF.2.1, h5], by rw [h5]; exact n01, fun i i0 i1 => ?_⟩
  rw [h5] at i1
  obtain ⟨a1, a2, a3, Xi, ui, wi, a4, a5, a6⟩ := t3 i i0 i1
  obtain ⟨b1, b2, b3, Zi, zi, yi, b4, b5, b6⟩ := j8 i i0 i1
  have wr := hw i i0 (by omega)
  have eDR : ∀ j : Int, 0 ≤ j → j ≤ 256 → j_DR V0 a (j_h2 f len).1 w i j = j_DS f len w i j := fun j q0 q1 => by
    show j_D (V0 a 9) _ _ _ _ _ = _
    rw [v9]
    exact j_D_B (fun p j p0 p1 j0 j1 => hD p j p0 p1 j0 j1) q0 q1
  have m0 : 0 ≤ i % (j_h3 f len).1 := Int.emod_nonneg _ (by omega)
  have m1 : i % (j_h3 f len).1 < (j_h3 f len).1 := Int.emod_lt_of_pos _ (by omega)
  have st : Zi (i % (j_h3 f len).1) = Xi (i % (j_h3 f len).1) ∧ zi = ui := by
    rcases cc (i + 1).toNat with ⟨z, _⟩ | ⟨Y, Y2, v, w2, z1, z2, z3⟩
    · rw [a4] at z; cases z
    · rw [a4] at z1
      rw [b4] at z2
      injection z1 with z1
      injection z1 with g1 z1
      injection z1 with g2 g3
      injection z2 with z2
      injection z2 with k1 z2
      injection z2 with k2 k3
      rw [k1, k2, g1, g2]
      exact ⟨z3 _ m0 m1, rfl⟩
  have bnd := (j_tk_bd r01.1 r01.2 l01.1 hS.1 hb2 hdl (fun y y0 y1 => (hX y y0 y1).2) hS.2.1 _ _ _ _ a4).1 _ m0 m1
  rw [v23] at b5
  refine ⟨by rw [b1, a1], by rw [b5, st.1, a5], by rw [b6, st.2, a6], ?_, ?_, ?_⟩
  · rw [b2, a2]
    show j_DR V0 a _ w i (w i + 1) - j_DR V0 a _ w i (w i) = j_DS f len w i (w i + 1) - j_DS f len w i (w i)
    rw [eDR _ (by omega) (by omega), eDR _ wr.1 (by omega)]
  · rw [b3, a3, eDR _ wr.1 (by omega)]
  · rw [b5, st.1]
    exact j_w32_in (by omega) (by omega)
/-- a packed row: its steps are what taking shows -/
theorem j_byT_at {f g : Int → Int} {p : Int} : ∀ n : Nat, j_atT f p (j_byT g n) → (∀ j : Int, 0 ≤ j → j < n → 0 ≤ g j ∧ g j ≤ 255) → ∀ j : Int, 0 ≤ j → j < n → f (p + j) = g j
  | 0, _, _ => fun j j0 j1 => (by omega)
  | n + 1, h, hg => fun j j0 j1 => by
    have h : j_atT f p (j_byT g n ++ j_num (g n) 1) := h
    rw [j_atT_app, j_byT_len] at h
    by_cases e : j = n
    · have v := j_val_1 h.2 (hg n (by omega) (by omega)).1 (by have := (hg n (by omega) (by omega)).2; omega)
      have v : 256 * 0 + f (p + n + ((0 : Nat) : Int)) = g n := v
      rw [show p + (n : Int) + ((0 : Nat) : Int) = p + n by omega] at v
      rw [e]; omega
    · exact j_byT_at n h.1 (fun j j0 j1 => hg j j0 (by omega)) j j0 (by omega)
theorem j_stp_pack {f : Int → Int} {len k r la n : Int} {B : Int → Int → Int} {w : Int → Int} {V : jH} {s : Int} (k0 : 0 ≤ k) (k1 : k ≤ 4) (r0 : 8 ≤ r) (r1 : r ≤ 12) (l0 : 1 ≤ la) (l1 : la ≤ 4) (n0 : 0 ≤ n) (n1 : n ≤ 400) (hB : ∀ p : Int, 0 ≤ p → p < j_parts k → j_dl (B p) 0 (j_M r)) (hF : ¬ j_isTold k → ∀ p j : Int, 0 ≤ p → p < j_parts k → 0 ≤ j → j ≤ 256 → B p j = j_start k r j) (hw : j_sgw w n) (hf : ∀ i : Int, 0 ≤ i → i < n → j_rf k r B w i ≠ 0)
    (hlen : len = ((j_text k r la n B (j_rX k r la B w n).1 (j_rX k r la B w n).2.1 (j_rX k r la B w n).2.2).length : Int)) (hT : j_atT f 0 (j_text k r la n B (j_rX k r la B w n).1 (j_rX k r la B w n).2.1 (j_rX k r la B w n).2.2)) (s5 : V s 5 = n)
    (hs : ∀ x : Int, 0 ≤ x → x < n → V (s + 1) x = w x ∧ V (s + 4) x = j_rf k r B w x ∧ V (s + 5) x = j_rb k r B w x ∧ V (s + 2) x = (j_pX (j_M r) la n (j_rf k r B w) (j_rb k r B w) (n.toNat - (x + 1).toNat)).1 (x % la) ∧ V (s + 3) x = (j_pX (j_M r) la n (j_rf k r B w) (j_rb k r B w) (n.toNat - (x + 1).toNat)).2.1) : j_stp f len V s := by
  have hm := j_M_bd r0 r1
  have hfb : ∀ i : Int, 0 ≤ i → i < n → 1 ≤ j_rf k r B w i ∧ 0 ≤ j_rb k r B w i ∧ j_rb k r B w i + j_rf k r B w i ≤ j_M r := fun i i0 i1 => by
    have d := j_D_dl (B := B) (k := k) (w := w) r0 r1 hB hw i0 (show i ≤ n by omega)
    have s := hw i i0 i1
    have nz := hf i i0 i1
    have s1 := d.2.2 _ s.1 s.2
    have b1 := j_dl_bd d (Int.le_refl _) _ s.1 (show w i ≤ 256 by omega)
    have b2 := j_dl_bd d (Int.le_refl _) (w i + 1) (by omega) (by omega)
    unfold j_rf at nz ⊢
    unfold j_rb
    have e : j_sh (j_D k r B w i) (w i) = j_D k r B w i (w i + 1) - j_D k r B w i (w i) := rfl
    omega
  have bd := j_pX_bd (la := la) hm.1 hm.2 hfb n.toNat (by omega)
  have eX : j_pX (j_M r) la n (j_rf k r B w) (j_rb k r B w) n.toNat = j_rX k r la B w n := rfl
  rw [eX] at bd
  have tp := j_toldP_parts k
  obtain ⟨H1, H2, H3, H4, HP1, HP2, HP3, HX, HS, HC⟩ := j_reads k0 k1 r0 r1 l0 l1 n0 n1 bd.2.1 (by have := bd.2.2; omega) (fun q q0 q1 => hB q q0 (by omega)) (fun y y0 y1 => bd.1 y) hlen hT
  have hby : ∀ j : Int, 0 ≤ j → j < (j_rX k r la B w n).2.1 → f (5 + (j_dsT B (j_toldP k).toNat).length + 3 * la + 2 + j) = (j_rX k r la B w n).2.2 j := by
    unfold j_text j_body at hT
    rw [j_atT_app] at hT
    have hT := hT.1
    rw [j_atT_app] at hT
    have t8 := hT.2
    have sl := j_stT_len (j_rX k r la B w n).1 la.toNat
    simp only [List.length_append, j_num_len] at t8
    intro j j0 j1
    have := j_byT_at _ t8 (fun i i0 i1 => j_pX_by _ _ _ _ _ _ i) j j0 (by omega)
    rw [← this]
    congr 1
    omega
  have hl : 5 + ((j_dsT B (j_toldP k).toNat).length : Int) + 3 * la + 2 + (j_rX k r la B w n).2.1 ≤ len := by
    rw [hlen, j_text_len]
    omega
  have und := j_undo (F := f) (len := len) (st := 5 + ((j_dsT B (j_toldP k).toNat).length : Int) + 3 * la + 2) r0 r1 n0 l0 hB hw hf hby hl
  have hP : ∀ p j : Int, 0 ≤ p → p < j_parts k → 0 ≤ j → j ≤ 256 → (j_hP f len).2.2 p j = B p j := fun p j p0 p1 j0 j1 => by
    by_cases td : j_isTold k
    · have e : j_toldP k = j_parts k := by unfold j_toldP; rw [if_pos td]
      exact HP3 p j p0 (by rw [e]; exact p1) j0 j1
    · rw [hF td p j p0 p1 j0 j1]
      unfold j_hP
      rw [H1, H2]
      dsimp only
      rw [if_neg td]
  have tk : ∀ i : Nat, (i : Int) ≤ n → ∃ Y : Int → Int, j_TS f len i = some (Y, (j_pX (j_M r) la n (j_rf k r B w) (j_rb k r B w) (n.toNat - i)).2.1, j_cut w i) ∧ ∀ l : Int, 0 ≤ l → l < la → Y l = (j_pX (j_M r) la n (j_rf k r B w) (j_rb k r B w) (n.toNat - i)).1 l := fun i hi => by
    have u := und i hi
    have c := j_tk_c (F := f) (len := len) (st := 5 + ((j_dsT B (j_toldP k).toNat).length : Int) + 3 * la + 2) (M := j_M r) (k := k) (r := r) (B := B) (B' := (j_hP f len).2.2) (X := (j_rX k r la B w n).1) (X' := (j_hX f len).1) (u := (j_rX k r la B w n).2.1) l0 HX hP i
    have eT : j_TS f len i = j_tk f len (5 + ((j_dsT B (j_toldP k).toNat).length : Int) + 3 * la + 2) (j_M r) la k r (j_hP f len).2.2 (j_hX f len).1 (j_rX k r la B w n).2.1 i := by
      show j_tk f len (j_hS f len).2.1 (j_M (j_h2 f len).1) (j_h3 f len).1 (j_h1 f len).1 (j_h2 f len).1 (j_hP f len).2.2 (j_hX f len).1 (j_hS f len).1 i = _
      rw [H1, H2, H3, HS]
    rw [← eT, u] at c
    rcases c with ⟨z, _⟩ | ⟨Y, Y', v, w2, z1, z2, z3⟩
    · cases z
    · injection z1 with z1
      injection z1 with g1 z1
      injection z1 with g2 g3
      rw [← g2, ← g3] at z2
      exact ⟨Y', z2, fun l q0 q1 => by rw [z3 l q0 q1, ← g1]⟩
  unfold j_stp
  rw [H4, H3, H2]
  dsimp only
  obtain ⟨Y, t1, t2⟩ := tk n.toNat (by omega)
  rw [show n.toNat - n.toNat = 0 by omega] at t1 t2
  refine ⟨s5, Y, j_cut w n.toNat, t1, fun y y0 y1 => t2 y y0 y1, fun x x0 x1 => ?_⟩
  obtain ⟨a1, a2, a3, a4, a5⟩ := hs x x0 x1
  have ec : j_cut w n.toNat x = w x := by unfold j_cut; rw [if_pos (by omega)]
  have sw := hw x x0 x1
  have eD : ∀ j : Int, 0 ≤ j → j ≤ 256 → j_DS f len (j_cut w n.toNat) x j = j_D k r B w x j := fun j j0 j1 => by
    show j_D (j_h1 f len).1 (j_h2 f len).1 (j_hP f len).2.2 (j_cut w n.toNat) x j = _
    rw [H1, H2]
    show j_D k r (j_hP f len).2.2 (j_cut w n.toNat) x j = _
    rw [j_D_B hP j0 j1, j_D_congr x0 (fun y y0 y1 => by unfold j_cut; rw [if_pos (by omega)])]
  obtain ⟨Y2, b1, b2⟩ := tk (x + 1).toNat (by omega)
  have m0 : 0 ≤ x % la := Int.emod_nonneg _ (by omega)
  have m1 : x % la < la := Int.emod_lt_of_pos _ (by omega)
  refine ⟨by rw [a1, ec], ?_, ?_, Y2, _, _, b1, by rw [a4, b2 _ m0 m1], a5⟩
  · rw [a2, ec]
    show j_D k r B w x (w x + 1) - j_D k r B w x (w x) = j_DS f len (j_cut w n.toNat) x (w x + 1) - j_DS f len (j_cut w n.toNat) x (w x)
    rw [eD _ (by omega) (by omega), eD _ sw.1 (by omega)]
  · rw [a3, ec, eD _ sw.1 (by omega)]
    rfl
