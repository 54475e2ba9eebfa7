/-! THE CLASS: the dealer, all of it -/
/-- a deal by counts: none: flat -/
def j_deal (c : Int → Int) (al : Int) (sh : Int → Int) : Prop := (j_opt c al sh ∧ ∃ s : Int, 0 ≤ s ∧ s < 256 ∧ 0 < c s) ∨ ((∀ s : Int, 0 ≤ s → s < 256 → c s ≤ 0) ∧ ∀ s : Int, 0 ≤ s → s < 256 → sh s = al / 256)
theorem j_W_0 {c : Int → Int} {al s : Int} (hal : 1 ≤ al) (hal2 : al ≤ 1000000) (h0 : 0 ≤ s) (h1 : s < 256) (hc : 0 < c s) : al ≤ j_W c 0 al := by
  have e : j_wa c 0 al s = al := by
    rcases Int.lt_or_le (j_wa c 0 al s) al with q | q
    · exfalso
      have b := j_wa_bd (c := c) (g := 0) (al := al) (s := s) hal
      have h2 := b.2.2 hc
      have := (j_wa_iff (c := c) (g := 0) (al := al) (s := s) (k := j_wa c 0 al s) hc (by omega) h2 (by omega) hal2).mpr (by
        unfold j_gn
        exact Int.mul_nonneg (by omega) (Int.ediv_nonneg (by decide) (by omega)))
      omega
    · have b := j_wa_bd (c := c) (g := 0) (al := al) (s := s) hal
      omega
  have m1 := j_pre_mono (f := j_wa c 0 al) (fun k => (j_wa_bd hal).1) (i := s + 1) (j := 256) (by omega) (by omega)
  have m2 := j_pre_s (j_wa c 0 al) h0
  have m3 := j_pre_mono (f := j_wa c 0 al) (fun k => (j_wa_bd hal).1) (i := 0) (j := s) (by omega) h0
  rw [j_pre_0] at m3
  unfold j_W
  omega
theorem j_W_big {c : Int → Int} {al : Int} (hal : 256 ≤ al) (hc : j_cnt c) : j_W c 536870912 al ≤ 256 := by
  have : ∀ s : Int, 0 ≤ s → s < 256 → j_wa c 536870912 al s ≤ 1 := by
    intro s s0 s1
    have b := hc s s0 s1
    unfold j_wa
    split
    · omega
    · have h1 : 1342177 ≤ (536870912 + c s - 1) / c s := Int.le_ediv_of_mul_le (by omega) (by
        have := Int.mul_le_mul_of_nonneg_left (show c s ≤ 400 from b.2) (show (0 : Int) ≤ 1342177 by decide)
        omega)
      have h2 : (1000000 : Int) / max 1 ((536870912 + c s - 1) / c s) = 0 := Int.ediv_eq_zero_of_lt (by decide) (by omega)
      rw [h2]
      omega
  have h := j_pre_le (i := 256) (f := j_wa c 536870912 al) (g := fun _ => 1) (fun k k0 k1 => this k k0 k1)
  have h2 := j_pre_bd (f := fun _ => (1 : Int)) (B := 1) (i := 256) (by decide) (by decide) (fun _ _ _ => ⟨by decide, by decide⟩)
  unfold j_W
  omega
theorem m5_5 (l : Launch) : M5_5 l 0 0 (fun a d al S V => j_L S ∧ S.1 d = 23 ∧ (d + 1 < a ∨ a + 2 < d) ∧ j_cl (V (a + 1)) (V (a + 2)) 256 (V a 2) ∧ j_cnt (V (a + 1)) ∧ 256 ≤ al ∧ al ≤ 4096)
    (fun a d al S V S' V' => S' = S ∧ ∃ sh, j_deal (V (a + 1)) al sh ∧ V' = j_begins V (d + 1) sh) := by
  refine e5_5 ?_
  rintro C G h hrm hcs hl hn a d al S V ht ⟨L, hd, hap, hcl, hc, h2, h3⟩ R
  refine t5_5_0 h ht (fun q => ?_) (fun q => ?_)
  · -- some sign has a count
    have hsome : ∃ s : Int, 0 ≤ s ∧ s < 256 ∧ 0 < V (a + 1) s := by
      have := hcl.2.2.1 0 (by omega) (by have := hcl.1; omega)
      exact ⟨_, this.1, this.2.1, this.2.2⟩
    obtain ⟨s, s0, s1, s2⟩ := hsome
    have w0 := j_W_0 (al := al) (by omega) (by omega) s0 s1 s2
    have wbig := j_W_big (al := al) h2 hc
    refine t5_5_13 h ?_
    have half : ∀ b : Int, b / 2 ^ (1 : Int).toNat = b / 2 := fun b => rfl
    have fin : ∀ g : Int, 0 ≤ g → g < 536870912 → al ≤ j_W (V (a + 1)) g al → j_W (V (a + 1)) (g + 1) al ≤ al → j_ok n_KT 5 C G 19 [(0, (2, a)), (1, (2, d)), (2, (0, al)), (3, (0, g)), (4, (0, 0))] [] S V 0 0 := by
      intro g g0 g1 w1 w2
      have bw := j_W_bd (c := V (a + 1)) (g := g + 1) (al := al) (by omega)
      refine t5_5_19 h (fun _ => ?_) (fun q2 => absurd q2 (by omega))
      refine t5_5_51 h hrm (by omega) ht (m5_7 C.2.1) ⟨L, hcl, hc, by omega, by omega, h2, h3⟩ (Nat.zero_le _) (Nat.zero_le _) ?_
      rintro r S' V' ⟨rfl, rfl, er⟩
      rw [← er] at bw w2
      refine t5_5_62 h hrm (by omega) ht (m5_6 C.2.1) ⟨L, hd, hap, hcl, hc, g0, by omega, h2, h3, by omega, by omega⟩ (Nat.zero_le _) (Nat.zero_le _) ?_
      rintro S' V2 ⟨rfl, rfl⟩
      refine t5_5_68 h R ⟨rfl, _, Or.inl ⟨?_, s, s0, s1, s2⟩, rfl⟩ (Nat.le_refl _) (Nat.le_refl _)
      rw [er] at w2 ⊢
      exact j_dealt_opt g0 (by omega) (by omega) w1 w2
    have step : ∀ b : Int, 1 ≤ b → b ≤ 268435456 → (∀ g : Int, (0 ≤ g ∧ g + b ≤ 536870912 ∧ al ≤ j_W (V (a + 1)) g al ∧ j_W (V (a + 1)) (g + b) al ≤ al) → j_ok n_KT 5 C G 19 [(0, (2, a)), (1, (2, d)), (2, (0, al)), (3, (0, g)), (4, (0, b / 2))] [] S V 0 0) →
        ∀ g : Int, (0 ≤ g ∧ g + 2 * b ≤ 536870912 ∧ al ≤ j_W (V (a + 1)) g al ∧ j_W (V (a + 1)) (g + 2 * b) al ≤ al) → j_ok n_KT 5 C G 19 [(0, (2, a)), (1, (2, d)), (2, (0, al)), (3, (0, g)), (4, (0, b))] [] S V 0 0 := by
      rintro b b1 b2 k g ⟨g0, g1, g2, g3⟩
      refine t5_5_19 h (fun q2 => absurd q2 (by omega)) (fun q2 => ?_)
      refine t5_5_24 h hrm (by omega) ht (m5_7 C.2.1) ⟨L, hcl, hc, by omega, by omega, h2, h3⟩ (Nat.zero_le _) (Nat.zero_le _) ?_
      rintro r S' V' ⟨rfl, rfl, er⟩
      refine t5_5_33 h (fun q3 => ?_) (fun q3 => ?_)
      · refine t5_5_42 h (by omega) ?_
        rw [half]
        exact k g ⟨g0, by omega, g2, by rw [← er]; omega⟩
      · refine t5_5_37 h (by omega) (t5_5_42 h (by omega) ?_)
        rw [half]
        refine k (g + b) ⟨by omega, by omega, by rw [← er]; exact q3, ?_⟩
        rw [show g + b + b = g + 2 * b by omega]
        exact g3
    have s0' : ∀ g : Int, (0 ≤ g ∧ g + 1 ≤ 536870912 ∧ al ≤ j_W (V (a + 1)) g al ∧ j_W (V (a + 1)) (g + 1) al ≤ al) → j_ok n_KT 5 C G 19 [(0, (2, a)), (1, (2, d)), (2, (0, al)), (3, (0, g)), (4, (0, 0))] [] S V 0 0 := fun g ⟨g0, g1, g2, g3⟩ => fin g g0 (by omega) g2 g3
    have all : ∀ n : Nat, n ≤ 28 → ∀ g : Int, (0 ≤ g ∧ g + 2 * ((2 ^ n : Nat) : Int) ≤ 536870912 ∧ al ≤ j_W (V (a + 1)) g al ∧ j_W (V (a + 1)) (g + 2 * ((2 ^ n : Nat) : Int)) al ≤ al) → j_ok n_KT 5 C G 19 [(0, (2, a)), (1, (2, d)), (2, (0, al)), (3, (0, g)), (4, (0, ((2 ^ n : Nat) : Int)))] [] S V 0 0 := by
      intro n
      induction n with
      | zero => intro _ g hg; exact step 1 (by decide) (by decide) s0' g hg
      | succ n ih =>
        intro hn2
        have p0 : 2 ^ (n + 1) = 2 ^ n * 2 := Nat.pow_succ 2 n
        have e1 : ((2 ^ (n + 1) : Nat) : Int) = 2 * ((2 ^ n : Nat) : Int) := by rw [p0]; omega
        have p1 : 0 < 2 ^ n := Nat.two_pow_pos n
        have p2 := q_pow2 (a := n) (b := 27) (by omega)
        have p3 : ((2 ^ 27 : Nat) : Int) = 134217728 := by decide
        rw [e1]
        refine step (2 * ((2 ^ n : Nat) : Int)) (by omega) (by omega) (fun g hg => ?_)
        rw [show 2 * ((2 ^ n : Nat) : Int) / 2 = ((2 ^ n : Nat) : Int) by omega]
        exact ih (by omega) g hg
    have := all 28 (by decide) 0 ⟨by decide, by decide, w0, by show j_W (V (a + 1)) 536870912 al ≤ al; omega⟩
    exact this
  · refine t5_5_7 h hrm hd (m4_8 C.2.1) ⟨L, by omega, h3⟩ (Nat.zero_le _) (Nat.zero_le _) ?_
    rintro S' V2 ⟨rfl, rfl⟩
    refine t5_5_12 h R ⟨rfl, fun _ => al / 256, Or.inr ⟨fun s s0 s1 => ?_, fun s _ _ => rfl⟩, ?_⟩ (Nat.le_refl _) (Nat.le_refl _)
    · rcases Int.lt_or_le 0 (V (a + 1) s) with z | z
      · obtain ⟨i, i0, i1, -⟩ := hcl.2.2.2.2 s s0 s1 z
        omega
      · exact z
    · unfold j_flat j_begins
      congr 1
      funext j
      by_cases hj : 0 ≤ j ∧ j ≤ 256
      · rw [if_pos hj, if_pos hj]
        obtain ⟨n, hn3⟩ : ∃ n : Nat, j = n := ⟨j.toNat, by omega⟩
        rw [hn3]
        have key : ∀ n : Nat, j_sum (fun _ => al / 256) n = (n : Int) * (al / 256) := by
          intro n
          induction n with
          | zero => simp [j_sum]
          | succ n ih =>
            show j_sum _ n + al / 256 = _
            rw [ih, show ((n + 1 : Nat) : Int) = (n : Int) + 1 by omega, Int.add_mul]
            omega
        show _ = j_sum _ ((n : Int).toNat)
        rw [key]
        rfl
      · rw [if_neg hj, if_neg hj]
