/-! THE CLASS: the dealer, dealing -/
/-- the sum over all signs of what is wanted -/
def j_W (c : Int → Int) (g al : Int) : Int := j_pre (j_wa c g al) 256
theorem j_W_bd {c : Int → Int} {g al : Int} (hal : 1 ≤ al) : 0 ≤ j_W c g al ∧ j_W c g al ≤ 256 * al :=
  j_pre_bd (by omega) (by decide) (fun k _ _ => ⟨(j_wa_bd hal).1, (j_wa_bd hal).2.1⟩)
abbrev j_cnt (c : Int → Int) : Prop := ∀ s : Int, 0 ≤ s → s < 256 → 0 ≤ c s ∧ c s ≤ 400
theorem m5_7 (l : Launch) : M5_7 l 0 0 (fun a g al S V => j_L S ∧ j_cl (V (a + 1)) (V (a + 2)) 256 (V a 2) ∧ j_cnt (V (a + 1)) ∧ 0 ≤ g ∧ g ≤ 1000000000 ∧ 256 ≤ al ∧ al ≤ 4096) (fun a g al S V r S' V' => S' = S ∧ V' = V ∧ r = j_W (V (a + 1)) g al) := by
  refine e5_7 ?_
  rintro C G h hrm hcs hl hn a g al S V ht ⟨L, hcl, hc, h0, h1, h2, h3⟩ R
  refine t5_7_0 h ?_
  have loop : ∀ (i : Int) (z : Int), (0 ≤ i ∧ i ≤ V a 2 ∧ z = j_pre (fun i => j_wa (V (a + 1)) g al (V (a + 2) i)) i) → j_ok n_KT 5 C G 5 [(0, (2, a)), (1, (0, g)), (2, (0, al)), (3, (0, z)), (4, (0, i))] [] S V 0 0 := by
    refine j_loop (N := V a 2) (fun i z hi hI kk => ?_) (fun i z hi hI => ?_)
    · obtain ⟨g0, g1, rfl⟩ := hI
      have hn2 := hcl.2.1
      have hk := hcl.2.2.1 i g0 hi
      refine t5_7_5 h ht (fun q => absurd q (by omega)) (fun q => ?_)
      refine t5_7_14 h L hrm ht g0 (by omega) (m5_8 C.2.1) ⟨L, hk.1, hk.2.1, (hc _ hk.1 hk.2.1).2, h0, h1, h2, h3⟩ (Nat.zero_le _) (Nat.zero_le _) ?_
      rintro r S' V' ⟨rfl, rfl, rfl⟩
      have bw := j_wa_bd (c := V' (a + 1)) (g := g) (al := al) (s := V' (a + 2) i) (by omega)
      have bp := j_pre_bd (f := fun i => j_wa (V' (a + 1)) g al (V' (a + 2) i)) (B := al) (i := i) (by omega) g0 (fun k _ _ => ⟨(j_wa_bd (by omega)).1, (j_wa_bd (by omega)).2.1⟩)
      have bm := j_mulb g0 (show i ≤ 256 by omega) (show 0 ≤ al by omega) h3
      refine t5_7_28 h (by omega) (by omega) (kk _ ⟨by omega, by omega, ?_⟩)
      rw [j_pre_s _ g0]
    · obtain ⟨g0, g1, rfl⟩ := hI
      refine t5_7_5 h ht (fun q => ?_) (fun q => absurd q (by omega))
      have : i = V a 2 := by omega
      subst this
      refine t5_7_36 h R ⟨rfl, rfl, ?_⟩ (Nat.le_refl _) (Nat.le_refl _)
      exact j_cl_sum hcl (f := j_wa (V (a + 1)) g al) (fun s _ _ hs => j_wa_0 hs)
  exact loop 0 0 ⟨by omega, hcl.1, rfl⟩
theorem j_sum_0 {f : Int → Int} {i : Int} (h : ∀ k : Int, 0 ≤ k → k < i → f k = 0) : j_pre f i = 0 := by
  rw [j_pre_congr (g := fun _ => 0) h]
  unfold j_pre
  induction i.toNat with
  | zero => rfl
  | succ n ih => show j_sum _ n + 0 = 0; rw [ih]; rfl
/-- the begins of a deal of shares -/
def j_begins (V : jH) (a : Int) (sh : Int → Int) : jH := j_row V a (fun j => if 0 ≤ j ∧ j ≤ 256 then j_pre sh j else V a j)
theorem j_pre_shift (f : Int → Int) {i : Int} (h : 0 ≤ i) : j_pre (fun j => if j = 0 then 0 else f (j - 1)) (i + 1) = j_pre f i := by
  obtain ⟨n, rfl⟩ : ∃ n : Nat, i = n := ⟨i.toNat, by omega⟩
  induction n with
  | zero => simp [j_pre, j_sum]
  | succ n ih =>
    have e : ((n + 1 : Nat) : Int) = (n : Int) + 1 := by omega
    rw [e, j_pre_s _ (show 0 ≤ (n : Int) + 1 by omega), ih (by omega), j_pre_s _ (show 0 ≤ (n : Int) by omega), if_neg (by omega), show (n : Int) + 1 - 1 = n by omega]
theorem m5_6 (l : Launch) : M5_6 l 0 0 (fun a g left d al S V => j_L S ∧ S.1 d = 23 ∧ (d + 1 < a ∨ a + 2 < d) ∧ j_cl (V (a + 1)) (V (a + 2)) 256 (V a 2) ∧ j_cnt (V (a + 1)) ∧ 0 ≤ g ∧ g ≤ 900000000 ∧ 256 ≤ al ∧ al ≤ 4096 ∧ 0 ≤ left ∧ left ≤ 1048576)
    (fun a g left d al S V S' V' => S' = S ∧ V' = j_begins V (d + 1) (j_dealt (V (a + 1)) g al left)) := by
  refine e5_6 ?_
  rintro C G h hrm hcs hl hn a g left d al S V ht ⟨L, hd, hap, hcl, hc, h0, h1, h2, h3, h4, h5⟩ R
  refine t5_6_0 h hrm hd (m4_7 C.2.1) L (Nat.zero_le _) (Nat.zero_le _) ?_
  rintro S' V0 ⟨rfl, rfl⟩
  refine t5_6_7 h ?_
  have eD : ∀ s : Int, 0 ≤ s → s < 256 → V (a + 1) s ≤ 0 → (fun k => j_wa (V (a + 1)) g al k - j_wa (V (a + 1)) (g + 1) al k) s = 0 := fun s _ _ hs => by
    show j_wa (V (a + 1)) g al s - j_wa (V (a + 1)) (g + 1) al s = 0
    rw [j_wa_0 hs, j_wa_0 hs]; rfl
  have hDn : ∀ s : Int, 0 ≤ j_wa (V (a + 1)) g al s - j_wa (V (a + 1)) (g + 1) al s := fun s => by
    have := j_wa_anti (c := V (a + 1)) (s := s) h0 (show g ≤ g + 1 by omega) (show 1 ≤ al by omega) (by omega)
    omega
  have z0 : ∀ s : Int, 0 ≤ s → s < 256 → V (a + 1) s ≤ 0 → j_dealt (V (a + 1)) g al left s = 0 := fun s s0 s1 hs => by
    have := j_dealt_bd (c := V (a + 1)) (g := g) (al := al) (left := left) (s := s) h0 (by omega) (by omega) s0
    rw [j_wa_0 hs, j_wa_0 hs] at this
    omega
  -- the row of the deal while it is noted: what counted signs below the i-th have
  have loop : ∀ (i : Int) (z : Int × (Int → Int)), (0 ≤ i ∧ i ≤ V a 2 ∧ z.1 = max 0 (left - j_pre (fun i => j_wa (V (a + 1)) g al (V (a + 2) i) - j_wa (V (a + 1)) (g + 1) al (V (a + 2) i)) i) ∧
      (∀ x : Int, 0 ≤ x → x < i → z.2 (V (a + 2) x + 1) = j_dealt (V (a + 1)) g al left (V (a + 2) x)) ∧ (∀ j : Int, 0 ≤ j → j ≤ 256 → (∀ x : Int, 0 ≤ x → x < i → j ≠ V (a + 2) x + 1) → z.2 j = 0) ∧ ∀ j : Int, ¬ (0 ≤ j ∧ j ≤ 256) → z.2 j = V (d + 1) j) →
      j_ok n_KT 10 C G 10 [(0, (2, a)), (1, (0, g)), (3, (2, d)), (4, (0, al)), (5, (0, z.1)), (6, (0, i))] [] S' (j_row V (d + 1) z.2) 0 0 := by
    refine j_loop (N := V a 2) (fun i z hi hI kk => ?_) (fun i z hi hI => ?_)
    · obtain ⟨rest, f⟩ := z
      obtain ⟨g0, g1, g2, g3, g4, g5⟩ := hI
      have g2 : rest = max 0 (left - j_pre (fun i => j_wa (V (a + 1)) g al (V (a + 2) i) - j_wa (V (a + 1)) (g + 1) al (V (a + 2) i)) i) := g2
      have hn2 := hcl.2.1
      have hk := hcl.2.2.1 i g0 hi
      have er : ∀ b : Int, b ≠ d + 1 → j_row V (d + 1) f b = V b := fun b hb => j_row_ne hb
      have ea := er a (by omega)
      have ea1 := er (a + 1) (by omega)
      have ea2 := er (a + 2) (by omega)
      refine t5_6_10 h ht (fun q => absurd q (by rw [ea]; omega)) (fun q => ?_)
      refine t5_6_19 h L hrm ht g0 (by omega) (by omega) (m5_8 C.2.1) ⟨L, by rw [ea2]; exact hk.1, by rw [ea2]; exact hk.2.1, by rw [ea1, ea2]; exact (hc _ hk.1 hk.2.1).2, by omega, by omega, h2, h3⟩ (Nat.zero_le _) (Nat.zero_le _) ?_
      rintro r1 S1 V1 ⟨rfl, rfl, e1⟩
      rw [ea1, ea2] at e1
      rw [ea2]
      refine t5_6_39 h hrm ht (m5_8 C.2.1) ⟨L, hk.1, hk.2.1, by rw [ea1]; exact (hc _ hk.1 hk.2.1).2, h0, by omega, h2, h3⟩ (Nat.zero_le _) (Nat.zero_le _) ?_
      rintro r2 S2 V2 ⟨rfl, rfl, e2⟩
      rw [ea1] at e2
      have b1 := j_wa_bd (c := V (a + 1)) (g := g + 1) (al := al) (s := V (a + 2) i) (by omega)
      have b2 := j_wa_bd (c := V (a + 1)) (g := g) (al := al) (s := V (a + 2) i) (by omega)
      have b3 := hDn (V (a + 2) i)
      have erest : rest = j_rest left (fun k => j_wa (V (a + 1)) g al k - j_wa (V (a + 1)) (g + 1) al k) (V (a + 2) i) := by
        rw [g2]
        unfold j_rest
        rw [j_cl_pre hcl eD g0 hi]
      have b4 : 0 ≤ rest ∧ rest ≤ left := by
        have := j_pre_mono (f := fun k => j_wa (V (a + 1)) g al k - j_wa (V (a + 1)) (g + 1) al k) hDn (i := 0) (j := V (a + 2) i) (by omega) hk.1
        rw [j_pre_0] at this
        rw [erest]
        unfold j_rest
        omega
      have es := j_rest_s (left := left) (D := fun k => j_wa (V (a + 1)) g al k - j_wa (V (a + 1)) (g + 1) al k) hk.1 b3
      have ed : j_dealt (V (a + 1)) g al left (V (a + 2) i) = r1 + min rest (r2 - r1) := by
        unfold j_dealt
        rw [es, ← erest, e1, e2]
      refine t5_6_52 h hrm (by omega) (by omega) (Nat.zero_le _) (Nat.zero_le _) (by omega) (by omega) hd (m4_10 C.2.1) ⟨L, hk.1, hk.2.1⟩ (Nat.zero_le _) (Nat.zero_le _) ?_
      rintro S3 V3 ⟨rfl, rfl⟩
      rw [j_row_up, ← ed]
      refine t5_6_78 h (by omega) (kk (rest - min rest (r2 - r1), j_u f (V (a + 2) i + 1) (j_dealt (V (a + 1)) g al left (V (a + 2) i))) ⟨by omega, by omega, ?_, ?_, ?_, ?_⟩)
      · show rest - min rest (r2 - r1) = _
        rw [j_pre_s _ g0]
        omega
      · intro x x0 x1
        show j_u f (V (a + 2) i + 1) _ (V (a + 2) x + 1) = _
        by_cases e : x = i
        · subst e; exact j_u_at _ _ _
        · have := hcl.2.2.2.1 x i x0 (by omega) hi
          rw [j_u_ne (by omega)]; exact g3 x x0 (by omega)
      · intro j j0 j1 hj
        show j_u f (V (a + 2) i + 1) _ j = 0
        rw [j_u_ne (hj i g0 (by omega))]
        exact g4 j j0 j1 (fun x x0 x1 => hj x x0 (by omega))
      · intro j hj
        show j_u f (V (a + 2) i + 1) _ j = _
        rw [j_u_ne (by omega)]
        exact g5 j hj
    · obtain ⟨rest, f⟩ := z
      obtain ⟨g0, g1, g2, g3, g4, g5⟩ := hI
      have ei : i = V a 2 := by omega
      subst ei
      have ea : j_row V (d + 1) f a = V a := j_row_ne (by omega)
      refine t5_6_10 h ht (fun q => ?_) (fun q => absurd q (by show ¬ V a 2 < j_row V (d + 1) f a 2; rw [ea]; omega))
      -- the noted row, sign by sign
      have ef : ∀ j : Int, 0 ≤ j → j ≤ 256 → f j = if j = 0 then 0 else j_dealt (V (a + 1)) g al left (j - 1) := by
        intro j j0 j1
        by_cases e0 : j = 0
        · subst e0
          rw [if_pos rfl]
          refine g4 0 (by omega) (by omega) (fun x x0 x1 => ?_)
          have := hcl.2.2.1 x x0 x1
          omega
        · rw [if_neg e0]
          by_cases hcj : 0 < V (a + 1) (j - 1)
          · obtain ⟨x, x0, x1, x2⟩ := hcl.2.2.2.2 (j - 1) (by omega) (by omega) hcj
            have := g3 x x0 x1
            rw [x2, show j - 1 + 1 = j by omega] at this
            exact this
          · rw [z0 (j - 1) (by omega) (by omega) (by omega)]
            refine g4 j j0 j1 (fun x x0 x1 e => hcj ?_)
            have := (hcl.2.2.1 x x0 x1).2.2
            rw [show j - 1 = V (a + 2) x by omega]
            exact this
      refine t5_6_84 h hrm hd (m4_11 C.2.1) ⟨L, fun j j0 j1 => ?_⟩ (Nat.zero_le _) (Nat.zero_le _) ?_
      · show 0 ≤ j_row V (d + 1) f (d + 1) j ∧ j_row V (d + 1) f (d + 1) j ≤ 4096
        rw [j_row_at, ef j j0 j1]
        split
        · omega
        · have := j_dealt_bd (c := V (a + 1)) (g := g) (al := al) (left := left) (s := j - 1) h0 (by omega) (by omega) (by omega)
          have := j_wa_bd (c := V (a + 1)) (g := g) (al := al) (s := j - 1) (by omega)
          have := j_wa_bd (c := V (a + 1)) (g := g + 1) (al := al) (s := j - 1) (by omega)
          omega
      · rintro S1 V1 ⟨rfl, rfl⟩
        refine t5_6_88 h R ⟨rfl, ?_⟩ (Nat.le_refl _) (Nat.le_refl _)
        unfold j_sumUp j_begins
        rw [j_row_row, j_row_at]
        congr 1
        funext j
        by_cases hj : 0 ≤ j ∧ j ≤ 256
        · rw [if_pos hj, if_pos hj, ← j_pre_shift _ hj.1]
          exact j_pre_congr (fun k k0 k1 => ef k k0 (by omega))
        · rw [if_neg hj, if_neg hj]
          exact g5 j hj
  have := loop 0 (left, fun j => if 0 ≤ j ∧ j < 257 then 0 else V (d + 1) j) ⟨by omega, hcl.1, by show left = max 0 (left - j_pre _ 0); rw [j_pre_0]; omega, fun x x0 x1 => absurd x1 (by omega), fun j j0 j1 _ => by show (if 0 ≤ j ∧ j < 257 then 0 else V (d + 1) j) = 0; rw [if_pos (by omega)], fun j hj => by show (if 0 ≤ j ∧ j < 257 then 0 else V (d + 1) j) = _; rw [if_neg (by omega)]⟩
  exact this
