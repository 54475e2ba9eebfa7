/-! THE CLASS: a sign is taken -/
theorem j_up_up (V : jH) (a i x y : Int) : j_up (j_up V a i x) a i y = j_up V a i y := by
  funext b j; simp only [j_up]; split <;> simp_all
theorem j_up_self (V : jH) (a i : Int) : j_up V a i (V a i) = V := by
  funext b j; simp only [j_up]; split <;> simp_all
theorem j_up_u (V : jH) (a i x : Int) : j_up V a i x a = j_u (V a) i x := by
  funext j; simp [j_up, j_u]
/-- the sign at a slot -/
def j_sgN (b : Int → Int) (x : Int) : Nat → Int
  | 0 => 0
  | n + 1 => if b n ≤ x then n else j_sgN b x n
def j_sg (b : Int → Int) (x : Int) : Int := j_sgN b x 256
theorem j_sgN_eq {b : Int → Int} {x M r : Int} (h : j_dl b 0 M) (h0 : 0 ≤ r) (h1 : b r ≤ x) (h2 : x < b (r + 1)) : ∀ n : Nat, r < n → n ≤ 256 → j_sgN b x n = r
  | 0, z, _ => absurd z (by omega)
  | n + 1, z, z2 => by
    show (if b n ≤ x then (n : Int) else j_sgN b x n) = r
    by_cases e : (n : Int) = r
    · rw [e, if_pos h1]
    · have := j_dl_le h (show 0 ≤ r + 1 by omega) (show r + 1 ≤ (n : Int) by omega) (by omega)
      rw [if_neg (by omega)]
      exact j_sgN_eq h h0 h1 h2 n (by omega) (by omega)
theorem j_slot_sg {b : Int → Int} {x M r : Int} (h : j_dl b 0 M) (x0 : 0 ≤ x) (x1 : x < M) (hr : j_slot b x r) : j_sg b x = r ∧ b r ≤ x ∧ x < b (r + 1) := by
  obtain ⟨r0, r1, r2, r3⟩ := hr
  have h1 : b r ≤ x := by
    rcases r2 with e | e
    · rw [e, h.1]; exact x0
    · exact e
  have h2 : x < b (r + 1) := by
    rcases r3 with e | e
    · rw [e]
      show x < b 256
      rw [h.2.1]; exact x1
    · exact e
  exact ⟨j_sgN_eq h r0 h1 h2 256 (by omega) (by omega), h1, h2⟩
/-- a state takes bytes from the end until it is high enough -/
def j_refl (f : Int → Int) (len st M : Int) : Nat → Int → Int → Option (Int × Int)
  | 0, x, u => some (x, u)
  | n + 1, x, u => if M ≤ x then some (x, u) else if u < 1 ∨ len < st + u then none else j_refl f len st M n (256 * x + f (st + u - 1)) (u - 1)
theorem j_refl_bd {f : Int → Int} {len st M : Int} (s0 : 0 ≤ st) (hf : ∀ i : Int, 0 ≤ i → i < len → 0 ≤ f i ∧ f i ≤ 255) : ∀ (n : Nat) (x u x' u' : Int), 0 ≤ x → x < 256 * M → 0 ≤ u → (n = 0 → M ≤ x) → (n = 1 → M ≤ 256 * x) → (n = 2 → M ≤ 65536 * x) → n ≤ 2 → j_refl f len st M n x u = some (x', u') → M ≤ x' ∧ x' < 256 * M ∧ 0 ≤ u' ∧ u' ≤ u
  | 0, x, u, x', u', x0, x1, u0, h0, _, _, _, h => by
    have e : (x, u) = (x', u') := Option.some.inj h
    have e1 : x = x' := congrArg Prod.fst e
    have e2 : u = u' := congrArg Prod.snd e
    have := h0 rfl
    omega
  | n + 1, x, u, x', u', x0, x1, u0, h0, h1, h2, hn, h => by
    unfold j_refl at h
    by_cases c1 : M ≤ x
    · rw [if_pos c1] at h
      have e : (x, u) = (x', u') := Option.some.inj h
      have e1 : x = x' := congrArg Prod.fst e
      have e2 : u = u' := congrArg Prod.snd e
      omega
    · rw [if_neg c1] at h
      by_cases c2 : u < 1 ∨ len < st + u
      · rw [if_pos c2] at h
        exact absurd h (by simp)
      · rw [if_neg c2] at h
        have hb := hf (st + u - 1) (by omega) (by omega)
        have := j_refl_bd s0 hf n _ _ x' u' (by omega) (by omega) (by omega) (fun e => by have := h1 (by omega); omega) (fun e => by have := h2 (by omega); omega) (fun e => absurd e (by omega)) (by omega) h
        omega
/-- the deal that counts for the next sign -/
def j_now (V : jH) (a : Int) : Int → Int := V (j_gd V (a + 11) (a + 1) + 1)
def j_nx (V : jH) (a lane : Int) : Int := V (a + 20) lane
def j_ns1 (V : jH) (a lane : Int) : Int := j_sg (j_now V a) (V (a + 20) lane % j_M (V (a + 1) 2))
def j_ny (V : jH) (a lane : Int) : Int := j_sh (j_now V a) (j_ns1 V a lane) * (V (a + 20) lane / j_M (V (a + 1) 2)) + V (a + 20) lane % j_M (V (a + 1) 2) - j_now V a (j_ns1 V a lane)
/-- behind a sign that is taken -/
def j_tkd (V V' : jH) (a i lane x u : Int) : Prop := V' a 5 = u ∧ V' (a + 20) = j_u (V (a + 20)) lane x ∧ V' (a + 15) = j_u (V (a + 15)) i (j_ns1 V a lane) ∧ V' (a + 16) = j_u (V (a + 16)) i x ∧ V' (a + 17) = j_u (V (a + 17)) i u ∧ V' (a + 18) = j_u (V (a + 18)) i (j_sh (j_now V a) (j_ns1 V a lane)) ∧ V' (a + 19) = j_u (V (a + 19)) i (j_now V a (j_ns1 V a lane)) ∧ V' (a + 11) 1 = j_ns1 V a lane ∧ V' (a + 13) = j_g1 (V (a + 1) 1) (j_ns1 V a lane) (V (a + 13))
def j_tkf (V V' : jH) (a : Int) : Prop := (∀ c : Int, c ≠ a → c ≠ a + 11 → c ≠ a + 13 → c ≠ a + 15 → c ≠ a + 16 → c ≠ a + 17 → c ≠ a + 18 → c ≠ a + 19 → c ≠ a + 20 → V' c = V c) ∧ ∀ j : Int, j ≠ 5 → V' a j = V a j
theorem m2_8 (l : Launch) : M2_8 l 0 0 (fun a i lane b st S V => j_L S ∧ S.1 b = 22 ∧ j_blkOK V b ∧ 0 ≤ i ∧ i < 400 ∧ 0 ≤ lane ∧ lane < 4 ∧ 0 ≤ st ∧ st ≤ 4400 ∧ 0 ≤ V a 5 ∧ V a 5 ≤ 65535 ∧ 8 ≤ V (a + 1) 2 ∧ V (a + 1) 2 ≤ 12 ∧ j_M (V (a + 1) 2) ≤ V (a + 20) lane ∧ V (a + 20) lane < 256 * j_M (V (a + 1) 2) ∧ j_dl (j_now V a) 0 (j_M (V (a + 1) 2)))
    (fun a i lane b st S V r S' V' => S' = S ∧ j_tkf V V' a ∧ ((r = 0 ∧ j_refl (V (b + 1)) (V b 1) st (j_M (V (a + 1) 2)) 2 (j_ny V a lane) (V a 5) = none) ∨ (r = 1 ∧ ∃ x u : Int, j_refl (V (b + 1)) (V b 1) st (j_M (V (a + 1) 2)) 2 (j_ny V a lane) (V a 5) = some (x, u) ∧ j_M (V (a + 1) 2) ≤ x ∧ x < 256 * j_M (V (a + 1) 2) ∧ 0 ≤ u ∧ u ≤ V a 5 ∧ 0 ≤ j_ns1 V a lane ∧ j_ns1 V a lane < 256 ∧ j_tkd V V' a i lane x u))) := by
  refine e2_8 ?_
  rintro C G h hrm hcs hl hn a i lane b st S V ha ⟨L, hb, hk, i0, i1, n0, n1, s0, s1, u0, u1, r0, r1, x0, x1, hD⟩ R
  have hM := j_M_bd r0 r1
  have ht : S.1 (a + 1) = 29 := L0_0k L ha
  have kb1 := L1_0k L hb
  have ne : ∀ {c : Int} {k : Nat}, S.1 c = k → k ≠ 22 → k ≠ 6 → b ≠ c ∧ b + 1 ≠ c := fun {c k} hc h1 h2 => ⟨fun z => h1 (by rw [← hc, ← z, hb]), fun z => h2 (by rw [← hc, ← z, kb1])⟩
  have k15 : S.1 (a + 15) = 1 := by have := L7_0k L (L0_2k L ha); rw [show a + 15 = a + 14 + 1 by omega]; exact this
  have k18 : S.1 (a + 18) = 1 := by have := L7_3k L (L0_2k L ha); rw [show a + 18 = a + 14 + 4 by omega]; exact this
  have k19 : S.1 (a + 19) = 1 := by have := L7_4k L (L0_2k L ha); rw [show a + 19 = a + 14 + 5 by omega]; exact this
  have nb := ne ha (by decide) (by decide)
  have nb15 := ne k15 (by decide) (by decide)
  have nb18 := ne k18 (by decide) (by decide)
  have nb19 := ne k19 (by decide) (by decide)
  -- the deal is a deal
  have hgd : S.1 (j_gd V (a + 11) (a + 1)) = 23 := by
    have hd : ∀ p : Int, 0 ≤ p → p < 4 → S.1 (a + 1 + 2 + 2 * p) = 23 := fun p p0 p1 => by
      have := LDealAk L (i := p) (L8_0k L ht) p0 p1
      rw [show a + 1 + 2 + 2 * p = a + 1 + 1 + 1 + 2 * p by omega]
      exact this
    unfold j_gd
    split
    · exact L4_0k L (L0_1k L ha)
    · split
      · exact hd _ (by omega) (by omega)
      · have := hd 0 (by omega) (by omega)
        rw [show a + 1 + 2 + 2 * 0 = a + 1 + 2 by omega] at this
        exact this
  generalize eM : j_M (V (a + 1) 2) = M at *
  refine t2_8_0 h L hrm ha (m10_4 C.2.1) ⟨r0, r1⟩ (Nat.zero_le _) (Nat.zero_le _) ?_
  rintro M' S1 V1 ⟨e0, e1, e2⟩
  subst e0
  subst e1
  rw [eM] at e2
  subst e2
  refine t2_8_7 h L hrm ha n0 n1 (by omega) (by omega) (m6_3 C.2.1) ⟨L, ht⟩ (Nat.zero_le _) (Nat.zero_le _) ?_
  rintro d S2 V2 ⟨e0, e1, e2⟩
  subst e0
  subst e1
  have hd : S2.1 d = 23 := by rw [e2]; exact hgd
  have eN : V2 (d + 1) = j_now V2 a := by rw [e2]; rfl
  refine t2_8_31 h hrm hd (m4_13 C.2.1) L (Nat.zero_le _) (Nat.zero_le _) ?_
  rintro s S3 V3 ⟨e0, e1, hs⟩
  subst e0
  subst e1
  rw [eN] at hs
  have m0 : 0 ≤ V3 (a + 20) lane % M' := Int.emod_nonneg _ (by omega)
  have m1 : V3 (a + 20) lane % M' < M' := Int.emod_lt_of_pos _ (by omega)
  obtain ⟨es, sb0, sb1⟩ := j_slot_sg hD m0 m1 hs
  obtain ⟨ss0, ss1, _, _⟩ := hs
  have es1 : j_ns1 V3 a lane = s := by unfold j_ns1; rw [eM]; exact es
  refine t2_8_40 h hrm ha (m2_3 C.2.1) ⟨L, i0, i1, hd, ss0, ss1, by rw [eN]; exact j_dl_bd hD (by omega)⟩ (Nat.zero_le _) (Nat.zero_le _) ?_
  rintro S4 V4 ⟨e0, e4⟩
  subst e0
  rw [eN] at e4
  have f18 : V4 (a + 18) i = j_sh (j_now V3 a) s := by rw [e4, j_up_ne (by omega), j_up_at]
  have f19 : V4 (a + 19) i = j_now V3 a s := by rw [e4, j_up_at]
  have fo : ∀ c : Int, c ≠ a + 15 → c ≠ a + 18 → c ≠ a + 19 → V4 c = V3 c := fun c c0 c1 c2 => by rw [e4, j_up_ne c2, j_up_ne c1, j_up_ne c0]
  have f20 : V4 (a + 20) = V3 (a + 20) := fo _ (by omega) (by omega) (by omega)
  have fa : V4 a = V3 a := fo _ (by omega) (by omega) (by omega)
  have fb : V4 b = V3 b := fo _ nb15.1 nb18.1 nb19.1
  have fb1 : V4 (b + 1) = V3 (b + 1) := fo _ nb15.2 nb18.2 nb19.2
  have q0 : 0 ≤ V3 (a + 20) lane / M' := Int.ediv_nonneg (by omega) (by omega)
  have q1 : V3 (a + 20) lane / M' < 256 := Int.ediv_lt_of_lt_mul (by omega) x1
  have q2 : 1 ≤ V3 (a + 20) lane / M' := Int.le_ediv_of_mul_le (by omega) (by omega)
  have hsh : j_sh (j_now V3 a) s = j_now V3 a (s + 1) - j_now V3 a s := rfl
  have bd0 := j_dl_bd hD (Int.le_refl _) s ss0 (by omega)
  have bd1 := j_dl_bd hD (Int.le_refl _) (s + 1) (by omega) (by omega)
  have pm := j_mulb (show 0 ≤ j_sh (j_now V3 a) s by omega) (show j_sh (j_now V3 a) s ≤ 4096 by omega) q0 (show V3 (a + 20) lane / M' ≤ 255 by omega)
  have pl : j_sh (j_now V3 a) s * 1 ≤ j_sh (j_now V3 a) s * (V3 (a + 20) lane / M') := Int.mul_le_mul_of_nonneg_left q2 (by omega)
  have pu : j_sh (j_now V3 a) s * (V3 (a + 20) lane / M') ≤ j_sh (j_now V3 a) s * 255 := Int.mul_le_mul_of_nonneg_left (by omega) (by omega)
  have ey : j_ny V3 a lane = j_sh (j_now V3 a) s * (V3 (a + 20) lane / M') + V3 (a + 20) lane % M' - j_now V3 a s := by unfold j_ny; rw [es1, eM]
  refine t2_8_51 h L ha i0 i1 n0 n1 (by rw [f20]; omega) (by omega) (by rw [f18, f20]; omega) (by rw [f18, f20]; omega) (by rw [f18, f19, f20]; omega) ?_
  rw [f18, f19, f20, ← ey]
  generalize j_ny V3 a lane = y at *
  have hy : 1 ≤ y ∧ y < 256 * M' := by omega
  -- bytes are taken
  have fill : ∀ (n : Nat) (x u : Int), n ≤ 2 → 0 ≤ x → x < 256 * M' → 0 ≤ u → u ≤ 65535 →
      (∀ x' u' : Int, j_refl (V3 (b + 1)) (V3 b 1) st M' n x u = some (x', u') → j_ok n_KT 11 C G 162 [(0, (2, a)), (1, (0, i)), (2, (0, lane)), (8, (0, s)), (9, (0, x'))] [] S4 (j_up V4 a 5 u') 0 0) →
      (j_refl (V3 (b + 1)) (V3 b 1) st M' n x u = none → ∀ u' : Int, j_ok n_KT 11 C G 123 [] [] S4 (j_up V4 a 5 u') 0 0) →
      j_ok n_KT 11 C G 88 [(0, (2, a)), (1, (0, i)), (2, (0, lane)), (3, (2, b)), (4, (0, st)), (5, (0, M')), (8, (0, s)), (9, (0, x)), (10, (0, 2 - (n : Int)))] [] S4 (j_up V4 a 5 u) 0 0 := by
    intro n
    induction n with
    | zero =>
      intro x u _ _ _ _ _ k1 _
      exact t2_8_88 h (fun _ => k1 x u rfl) (fun q => absurd q (by omega))
    | succ n ih =>
      intro x u hn2 xx0 xx1 uu0 uu1 k1 k2
      refine t2_8_88 h (fun q => absurd q (by omega)) (fun _ => ?_)
      unfold j_refl at k1 k2
      refine t2_8_94 h (fun q => ?_) (fun q => ?_)
      · rw [if_pos q] at k1
        exact k1 x u rfl
      · rw [if_neg (by omega)] at k1 k2
        have eu : j_up V4 a 5 u a 5 = u := j_up_at _ _ _ _
        have ebb : j_up V4 a 5 u b = V3 b := by rw [j_up_ne nb.1, fb]
        refine t2_8_101 h ha (fun q2 => ?_) (fun q2 => ?_)
        · rw [eu] at q2
          rw [if_pos (Or.inl q2)] at k2
          exact k2 rfl u
        · rw [eu] at q2
          refine t2_8_109 h ha (by rw [eu]; omega) hb (fun q3 => ?_) (fun q3 => ?_)
          · rw [eu, ebb] at q3
            rw [if_neg (by omega)] at k1 k2
            have hk2 := hk.2.1
            have by1 := hk.2.2 (st + u - 1) (by omega) (by omega)
            have eby : j_up (j_up V4 a 5 u) a 5 (u - 1) (b + 1) (st + (u - 1)) = V3 (b + 1) (st + u - 1) := by rw [j_up_ne nb.2, j_up_ne nb.2, fb1, show st + (u - 1) = st + u - 1 by omega]
            refine t2_8_125 h L ha (by rw [eu]; omega) (by omega) hb (by rw [eu]; omega) (by rw [eu]; omega) (by rw [eu]; omega) (by rw [eu, eby]; omega) (by omega) ?_
            rw [eu, eby, j_up_up, show 2 - ((n + 1 : Nat) : Int) + 1 = 2 - (n : Int) by omega]
            exact ih _ _ (by omega) (by omega) (by omega) (by omega) (by omega) k1 k2
          · rw [eu, ebb] at q3
            rw [if_pos (Or.inr q3)] at k2
            exact k2 rfl u
  have e5 : j_up V4 a 5 (V3 a 5) = V4 := by rw [← fa]; exact j_up_self V4 a 5
  have e1 : V4 (a + 1) = V3 (a + 1) := fo _ (by omega) (by omega) (by omega)
  have go := fill 2 y (V3 a 5) (by omega) (by omega) hy.2 u0 u1 (fun x u hxu => ?_) (fun hno u => ?_)
  · rw [e5] at go
    exact go
  · obtain ⟨p1, p2, p3, p4⟩ := j_refl_bd s0 hk.2.2 2 y (V3 a 5) x u (by omega) hy.2 u0 (fun z => absurd z (by omega)) (fun z => absurd z (by omega)) (fun _ => by omega) (by omega) hxu
    have eu : j_up V4 a 5 u a 5 = u := j_up_at _ _ _ _
    have w1 : j_up (j_up (j_up (j_up V4 a 5 u) (a + 20) lane x) (a + 16) i x) (a + 17) i u (a + 1) = V3 (a + 1) := by
      rw [j_up_ne (by omega), j_up_ne (by omega), j_up_ne (by omega), j_up_ne (by omega), e1]
    have w13 : j_up (j_up (j_up (j_up V4 a 5 u) (a + 20) lane x) (a + 16) i x) (a + 17) i u (a + 13) = V3 (a + 13) := by
      rw [j_up_ne (by omega), j_up_ne (by omega), j_up_ne (by omega), j_up_ne (by omega)]
      exact fo _ (by omega) (by omega) (by omega)
    refine t2_8_162 h L hrm ha n0 n1 i0 i1 (m6_4 C.2.1) ⟨L, ht, by omega, ss0, ss1, ?_⟩ (Nat.zero_le _) (Nat.zero_le _) ?_
    · rw [eu, w1, show a + 11 + 2 = a + 13 by omega, w13]
      intro hk4
      have : j_now V3 a = V3 (a + 13) := by
        unfold j_now j_gd
        rw [if_pos hk4, show a + 11 + 1 + 1 = a + 13 by omega]
      rw [← this]
      exact j_dl_bd hD (by omega)
    · rintro S5 V5 ⟨z0, z5⟩
      subst z0
      rw [eu, w1, show a + 11 + 2 = a + 13 by omega, w13] at z5
      refine t2_8_207 h R ⟨rfl, ⟨fun c c0 c1 c2 c3 c4 c5 c6 c7 c8 => ?_, fun j hj => ?_⟩, Or.inr ⟨rfl, x, u, hxu, p1, p2, p3, p4, by rw [es1]; exact ss0, by rw [es1]; exact ss1, ?_⟩⟩ (Nat.le_refl _) (Nat.le_refl _)
      · rw [z5, j_row_ne c2, j_up_ne c1, j_up_ne c5, j_up_ne c4, j_up_ne c8, j_up_ne c0]
        exact fo c c3 c6 c7
      · rw [z5, j_row_ne (by omega), j_up_ne (by omega), j_up_ne (by omega), j_up_ne (by omega), j_up_ne (by omega), j_up_off hj, fa]
      · unfold j_tkd
        rw [es1]
        refine ⟨?_, ?_, ?_, ?_, ?_, ?_, ?_, ?_, ?_⟩
        · rw [z5, j_row_ne (by omega), j_up_ne (by omega), j_up_ne (by omega), j_up_ne (by omega), j_up_ne (by omega), j_up_at]
        · rw [z5, j_row_ne (by omega), j_up_ne (by omega), j_up_ne (by omega), j_up_ne (by omega), j_up_u, j_up_ne (by omega), f20]
        · rw [z5, j_row_ne (by omega), j_up_ne (by omega), j_up_ne (by omega), j_up_ne (by omega), j_up_ne (by omega), j_up_ne (by omega), e4, j_up_ne (by omega), j_up_ne (by omega), j_up_u]
        · rw [z5, j_row_ne (by omega), j_up_ne (by omega), j_up_ne (by omega), j_up_u, j_up_ne (by omega), j_up_ne (by omega), fo _ (by omega) (by omega) (by omega)]
        · rw [z5, j_row_ne (by omega), j_up_ne (by omega), j_up_u, j_up_ne (by omega), j_up_ne (by omega), j_up_ne (by omega), fo _ (by omega) (by omega) (by omega)]
        · rw [z5, j_row_ne (by omega), j_up_ne (by omega), j_up_ne (by omega), j_up_ne (by omega), j_up_ne (by omega), j_up_ne (by omega), e4, j_up_ne (by omega), j_up_u, j_up_ne (by omega)]
        · rw [z5, j_row_ne (by omega), j_up_ne (by omega), j_up_ne (by omega), j_up_ne (by omega), j_up_ne (by omega), j_up_ne (by omega), e4, j_up_u, j_up_ne (by omega), j_up_ne (by omega)]
        · rw [z5, j_row_ne (by omega), j_up_at]
        · rw [z5, j_row_at]
  · refine t2_8_123 h R ⟨rfl, ⟨fun c c0 c1 c2 c3 c4 c5 c6 c7 c8 => ?_, fun j hj => ?_⟩, Or.inl ⟨rfl, hno⟩⟩ (Nat.le_refl _) (Nat.le_refl _)
    · rw [j_up_ne c0]; exact fo c c3 c6 c7
    · rw [j_up_off hj, fa]
