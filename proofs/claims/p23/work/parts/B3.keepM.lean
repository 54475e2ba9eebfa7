/-! THE REFERENCE: what holds ahead of a call holds behind it -/
theorem j_mR_c {V V' : jH} {a : Int} (h1 : V' (a + 2) = V (a + 2)) (h2 : V' (a + 3) = V (a + 3)) (h : j_mR V (a + 1)) : j_mR V' (a + 1) :=
  j_mR_congr (fun p _ _ => by rw [show a + 1 + 1 = a + 2 by omega, h1]) (fun i _ _ => by rw [show a + 1 + 2 = a + 3 by omega, h2]) h
theorem j_mS_c {V V' : jH} {a : Int} (h0 : V' (a + 1) 2 = V (a + 1) 2) (h4 : V' (a + 4) = V (a + 4)) (h5 : V' (a + 5) = V (a + 5)) (h6 : V' (a + 6) = V (a + 6)) (h7 : V' (a + 7) = V (a + 7)) (h : j_mS V (a + 1)) : j_mS V' (a + 1) :=
  j_mS_congr h0 (fun t _ _ => by rw [show a + 1 + 3 = a + 4 by omega, show a + 1 + 4 = a + 5 by omega, show a + 1 + 5 = a + 6 by omega, h4, h5, h6]; exact ⟨rfl, rfl, rfl⟩) (fun i _ _ => by rw [show a + 1 + 6 = a + 7 by omega, h7]) h
theorem j_mB_c {V V' : jH} {a : Int} (h0 : ∀ j : Int, (j = 7 ∨ j = 9 ∨ j = 10 ∨ j = 11) → V' (a + 1) j = V (a + 1) j) (h8 : V' (a + 8) = V (a + 8)) (h : j_mB V (a + 1)) : j_mB V' (a + 1) :=
  j_mB_congr h0 (fun i _ _ => by rw [show a + 1 + 7 = a + 8 by omega, h8]) h
theorem j_mN_b {S : jS} {V V' : jH} {a : Int} (hI : j_mI S V a) (hb : j_BI V' (a + 1)) (ha : ∀ j : Int, (j = 2 ∨ j = 3 ∨ j = 4) → V' a j = V a j) (hV : ∀ c : Int, c ≠ a → (c < a + 1 ∨ a + 8 < c) → (c < a + 18 ∨ a + 30 < c) → V' c = V c) : j_mN S V a V' := by
  obtain ⟨L, ht, a0, -, hk, h2, h4, h3⟩ := id hI
  have e2 := ha 2 (by omega)
  have e3 := ha 3 (by omega)
  have e4 := ha 4 (by omega)
  exact ⟨⟨L, ht, a0, hb, j_BI_congr (fun c c0 c1 => hV c (by omega) (by omega) (by omega)) hk, by rw [e2]; exact h2, by rw [e4]; exact h4, by rw [e3]; omega, by rw [e3]; omega⟩, by rw [e3]; omega, fun c hc => hV c (by omega) (by omega) (by omega)⟩
theorem j_mR_put {V V' : jH} {a p n : Int} (hR : j_mR V (a + 1)) (p0 : 0 ≤ p) (p1 : p < 6) (n0 : 0 ≤ n) (h4 : V (a + 2) p + n ≤ 400) (e1 : V' (a + 2) p = V (a + 2) p + n) (e2 : ∀ q : Int, q ≠ p → V' (a + 2) q = V (a + 2) q) (e3 : ∀ i : Int, (i < 400 * p + V (a + 2) p ∨ 400 * p + V (a + 2) p + n ≤ i) → V' (a + 3) i = V (a + 3) i) (e4 : ∀ i : Int, 0 ≤ i → i < n → 0 ≤ V' (a + 3) (400 * p + V (a + 2) p + i) ∧ V' (a + 3) (400 * p + V (a + 2) p + i) < 256) : j_mR V' (a + 1) := by
  intro q q0 q1
  obtain ⟨m0, m1, hw⟩ := hR q q0 q1
  obtain ⟨l0, l1, -⟩ := hR p p0 p1
  rw [show a + 1 + 1 = a + 2 by omega] at l0 l1 m0 m1 hw ⊢
  rw [show a + 1 + 2 = a + 3 by omega] at hw ⊢
  by_cases e : q = p
  · rw [e] at hw ⊢
    rw [e1]
    refine ⟨(by omega), h4, fun i i0 i1 => ?_⟩
    by_cases c : i < V (a + 2) p
    · rw [e3 _ (by omega)]; exact hw i i0 c
    · have := e4 (i - V (a + 2) p) (by omega) (by omega)
      rw [show 400 * p + V (a + 2) p + (i - V (a + 2) p) = 400 * p + i by omega] at this
      exact this
  · rw [e2 q e]
    refine ⟨m0, m1, fun i i0 i1 => ?_⟩
    rw [e3 _ (by omega)]; exact hw i i0 i1
theorem j_mN_r2 {S : jS} {V V' : jH} {a p w n r : Int} (hI : j_mI S V a) (h7 : V a 3 < 1000000) (h : j_r2 a p w n V r V') : j_mN S V a V' := by
  obtain ⟨-, -, a0, ⟨hR, hS, hB⟩, -, -, -, -⟩ := id hI
  obtain ⟨-, e, -⟩ | ⟨-, -, -, -, -, e, -⟩ | ⟨p0, p1, n0, n1, h4, -, e1, e2, e3, e4, e5⟩ := h
  · rw [e]; exact j_mN_md hI h7
  · rw [e]; exact j_mN_md hI h7
  · refine j_mN_b hI ⟨j_mR_put hR p0 p1 (by omega) h4 e1 e2 e3 (fun i i0 i1 => by rw [e4 i i0 i1]; exact j_rby_bd _ _), j_mS_c (by rw [e5 _ (by omega) (by omega)]) (e5 _ (by omega) (by omega)) (e5 _ (by omega) (by omega)) (e5 _ (by omega) (by omega)) (e5 _ (by omega) (by omega)) hS, j_mB_c (fun j _ => by rw [e5 _ (by omega) (by omega)]) (e5 _ (by omega) (by omega)) hB⟩ (fun j _ => by rw [e5 _ (by omega) (by omega)]) (fun c c0 c1 c2 => e5 c (by omega) (by omega))
theorem j_mN_r3 {S : jS} {V V' : jH} {a p r : Int} (hI : j_mI S V a) (h7 : V a 3 < 1000000) (h : j_r3 a p V r V') : j_mN S V a V' := by
  obtain ⟨-, -, a0, ⟨hR, hS, hB⟩, -, -, -, -⟩ := id hI
  obtain ⟨-, e, -⟩ | ⟨p0, p1, -, e⟩ := h
  · rw [e]; exact j_mN_md hI h7
  · rw [e]
    refine j_mN_b hI ⟨fun q q0 q1 => ?_, j_mS_c (by rw [j_up_ne (by omega)]) (j_up_ne (by omega)) (j_up_ne (by omega)) (j_up_ne (by omega)) (j_up_ne (by omega)) hS, j_mB_c (fun j _ => by rw [j_up_ne (by omega)]) (j_up_ne (by omega)) hB⟩ (fun j _ => by rw [j_up_ne (by omega)]) (fun c c0 c1 c2 => j_up_ne (by omega))
    obtain ⟨m0, m1, hw⟩ := hR q q0 q1
    rw [show a + 1 + 1 = a + 2 by omega] at m0 m1 hw ⊢
    rw [show a + 1 + 2 = a + 3 by omega] at hw ⊢
    by_cases e : q = p
    · rw [e, j_up_at]; exact ⟨(by omega), (by omega), fun i i0 i1 => absurd i1 (by omega)⟩
    · rw [j_up_off e, j_up_ne (by omega)]; exact ⟨m0, m1, hw⟩
theorem j_mN_r4 {S : jS} {V V' : jH} {a p i r : Int} (hI : j_mI S V a) (h7 : V a 3 < 1000000) (h : j_r4 a p i V r V') : j_mN S V a V' := by
  obtain ⟨-, e, -⟩ | ⟨-, -, -, -, e, -⟩ := h
  · rw [e]; exact j_mN_md hI h7
  · rw [e]; exact j_mN_rf hI
theorem j_mN_r5 {S : jS} {V V' : jH} {a p f n q r : Int} (hI : j_mI S V a) (h7 : V a 3 < 1000000) (h : j_r5 a p f n q V r V') : j_mN S V a V' := by
  obtain ⟨-, -, a0, ⟨hR, hS, hB⟩, -, -, -, -⟩ := id hI
  obtain ⟨-, e, -⟩ | ⟨-, -, -, -, -, -, -, -, e, -⟩ | ⟨p0, p1, q0, q1, f0, n0, hf, h4, -, e1, e2, e3, e4, e5⟩ := h
  · rw [e]; exact j_mN_md hI h7
  · rw [e]; exact j_mN_md hI h7
  · obtain ⟨m0, m1, hw⟩ := hR p p0 p1
    rw [show a + 1 + 1 = a + 2 by omega] at hw
    rw [show a + 1 + 2 = a + 3 by omega] at hw
    refine j_mN_b hI ⟨j_mR_put hR q0 q1 n0 h4 e1 e2 e3 (fun i i0 i1 => by rw [e4 i i0 i1, show 400 * p + f + i = 400 * p + (f + i) by omega]; exact hw (f + i) (by omega) (by omega)), j_mS_c (by rw [e5 _ (by omega) (by omega) (by omega)]) (e5 _ (by omega) (by omega) (by omega)) (e5 _ (by omega) (by omega) (by omega)) (e5 _ (by omega) (by omega) (by omega)) (e5 _ (by omega) (by omega) (by omega)) hS, j_mB_c (fun j _ => by rw [e5 _ (by omega) (by omega) (by omega)]) (e5 _ (by omega) (by omega) (by omega)) hB⟩ (fun j _ => by rw [e5 _ (by omega) (by omega) (by omega)]) (fun c c0 c1 c2 => e5 c (by omega) (by omega) (by omega))
theorem j_mN_r6 {S : jS} {V V' : jH} {a k r x : Int} (hI : j_mI S V a) (h7 : V a 3 < 1000000) (h : j_r6 a k r V x V') : j_mN S V a V' := by
  obtain ⟨-, -, a0, ⟨hR, hS, hB⟩, -, -, -, -⟩ := id hI
  obtain ⟨-, e, -⟩ | ⟨-, -, -, -, -, e, -⟩ | ⟨k0, k1, r0, r1, h10, ex, e1, e4, e5, e6, e7, e8, e9⟩ := h
  · rw [e]; exact j_mN_md hI h7
  · rw [e]; exact j_mN_md hI h7
  · have m := j_M_256 r0 r1
    have s0 := hS.1
    have E1 : ∀ j : Int, j ≠ 2 → V' (a + 1) j = V (a + 1) j := fun j hj => by rw [e1, j_u_ne hj]
    refine j_mN_b hI ⟨j_mR_c (e9 _ (by omega) (by omega) (by omega) (by omega) (by omega)) (e9 _ (by omega) (by omega) (by omega) (by omega) (by omega)) hR, ⟨by rw [e1, j_u_at]; omega, by rw [e1, j_u_at]; omega, fun t t0 t1 => ?_, fun t t0 t1 => ?_⟩, j_mB_c (fun j hj => E1 j (by omega)) (e9 _ (by omega) (by omega) (by omega) (by omega) (by omega)) hB⟩ (fun j _ => by rw [e9 _ (by omega) (by omega) (by omega) (by omega) (by omega)]) (fun c c0 c1 c2 => e9 c (by omega) (by omega) (by omega) (by omega) (by omega))
    · have := hS.2.2.1 t t0 t1
      rw [show a + 1 + 5 = a + 6 by omega] at this ⊢
      rw [e6]
      by_cases e : t = x
      · rw [e, j_u_at]; omega
      · rw [j_u_ne e]; exact this
    · rw [e1, j_u_at] at t1
      by_cases e : t = x
      · rw [e]
        unfold j_mT
        rw [show a + 1 + 3 = a + 4 by omega, show a + 1 + 4 = a + 5 by omega, show a + 1 + 5 = a + 6 by omega, show a + 1 + 6 = a + 7 by omega, e4, e5, e6, j_u_at, j_u_at, j_u_at]
        refine ⟨k0, k1, r0, r1, fun i i0 i1 => ?_, fun p p0 p1 => ?_, fun hk i i0 i1 => ?_, fun _ z => absurd rfl z⟩
        · rw [e8 i i0 i1]; split <;> omega
        · have f := j_flat_pre (D := j_rs (V' (a + 7)) (1024 * x + 256 * p)) (e := if k = 1 ∨ k = 4 then j_M r / 256 else 0) 256 (fun s s0 s1 => by show V' (a + 7) (1024 * x + 256 * p + s) = _; rw [show 1024 * x + 256 * p + s = 1024 * x + (256 * p + s) by omega]; exact e8 _ (by omega) (by omega))
          have e256 : ((256 : Nat) : Int) = 256 := rfl
          rw [e256] at f
          rw [f]
          split <;> omega
        · rw [e8 i i0 i1, if_pos hk]
      · have hT := hS.2.2.2 t t0 (by omega)
        refine j_mT_congr (V := V) (b := a + 1) ?_ ?_ ?_ (fun i i0 i1 => ?_) hT
        · rw [show a + 1 + 3 = a + 4 by omega, e4, j_u_ne e]
        · rw [show a + 1 + 4 = a + 5 by omega, e5, j_u_ne e]
        · rw [show a + 1 + 5 = a + 6 by omega, e6, j_u_ne e]
        · rw [show a + 1 + 6 = a + 7 by omega]; exact e7 _ (by omega)
theorem j_mN_r7 {S : jS} {V V' : jH} {a tb s f r : Int} (hI : j_mI S V a) (h7 : V a 3 < 1000000) (h : j_r7 a tb s f V r V') : j_mN S V a V' := by
  obtain ⟨-, -, a0, ⟨hR, hS, hB⟩, -, -, -, -⟩ := id hI
  obtain ⟨-, e, -⟩ | ⟨t0, t1, ⟨-, e, -⟩ | ⟨k0, ⟨-, e, -⟩ | ⟨s0, s1, f0, f1, ⟨-, e, -⟩ | ⟨hs, -, e⟩⟩⟩⟩ := h
  · rw [e]; exact j_mN_md hI h7
  · rw [e]; exact j_mN_md hI h7
  · rw [e]; exact j_mN_md hI h7
  · rw [e]; exact j_mN_md hI h7
  · rw [e]
    have tb10 := hS.2.1
    refine j_mN_b hI ⟨j_mR_c (j_up_ne (by omega)) (j_up_ne (by omega)) hR, ⟨by rw [j_up_ne (by omega)]; exact hS.1, by rw [j_up_ne (by omega)]; exact hS.2.1, fun t t0 t1 => by rw [j_up_ne (by omega)]; exact hS.2.2.1 t t0 t1, fun t z0 z1 => ?_⟩, j_mB_c (fun j hj => by rw [j_up_ne (by omega)]) (j_up_ne (by omega)) hB⟩ (fun j _ => by rw [j_up_ne (by omega)]) (fun c c0 c1 c2 => j_up_ne (by omega))
    rw [j_up_ne (by omega)] at z1
    have hT := hS.2.2.2 t z0 z1
    by_cases et : t = tb
    · obtain ⟨a1, a2, a3, a4, a5, a6, a7, a8⟩ := id hT
      rw [et] at a1 a2 a3 a4 a5 a6 a7 a8 ⊢
      rw [show a + 1 + 3 = a + 4 by omega] at a1 a2 a7 a8
      rw [show a + 1 + 4 = a + 5 by omega] at a3 a4 a6 a7 a8
      rw [show a + 1 + 6 = a + 7 by omega] at a5 a6 a7 a8
      unfold j_mT
      rw [show a + 1 + 3 = a + 4 by omega, show a + 1 + 4 = a + 5 by omega, show a + 1 + 5 = a + 6 by omega, show a + 1 + 6 = a + 7 by omega, j_up_ne (show a + 4 ≠ a + 7 by omega), j_up_ne (show a + 5 ≠ a + 7 by omega), j_up_ne (show a + 6 ≠ a + 7 by omega)]
      refine ⟨a1, a2, a3, a4, fun i i0 i1 => ?_, fun p p0 p1 => ?_, fun hk => absurd hk (by omega), fun hk => absurd hk (by omega)⟩
      · by_cases c : i = s
        · rw [c, j_up_at]; exact f0
        · rw [j_up_off (by omega)]; exact a5 i i0 i1
      · by_cases c : p = 0
        · have ec : j_pre (j_rs (j_up V (a + 7) (1024 * tb + s) f (a + 7)) (1024 * tb + 256 * p)) 256 = j_pre (j_u (j_rs (V (a + 7)) (1024 * tb)) s f) ((256 : Nat) : Int) := j_pre_congr (fun x x0 x1 => by
            show j_up V (a + 7) (1024 * tb + s) f (a + 7) (1024 * tb + 256 * p + x) = j_u (j_rs (V (a + 7)) (1024 * tb)) s f x
            rw [c, show 1024 * tb + 256 * 0 + x = 1024 * tb + x by omega]
            by_cases d : x = s
            · rw [d, j_up_at, j_u_at]
            · rw [j_up_off (by omega), j_u_ne d]; rfl)
          rw [ec, j_pre_u 256 s0, if_pos (by omega)]
          have e256 : ((256 : Nat) : Int) = 256 := rfl
          rw [e256]
          unfold j_rsum at hs
          show j_pre (j_rs (V (a + 7)) (1024 * tb)) 256 + (f - V (a + 7) (1024 * tb + s)) ≤ _
          omega
        · have ec : j_pre (j_rs (j_up V (a + 7) (1024 * tb + s) f (a + 7)) (1024 * tb + 256 * p)) 256 = j_pre (j_rs (V (a + 7)) (1024 * tb + 256 * p)) 256 := j_pre_congr (fun x x0 x1 => by
            show j_up V (a + 7) (1024 * tb + s) f (a + 7) (1024 * tb + 256 * p + x) = V (a + 7) (1024 * tb + 256 * p + x)
            rw [j_up_off (by omega)])
          rw [ec]; exact a6 p p0 p1
    · refine j_mT_congr (V := V) (b := a + 1) (by rw [j_up_ne (by omega)]) (by rw [j_up_ne (by omega)]) (by rw [j_up_ne (by omega)]) (fun i i0 i1 => ?_) hT
      rw [show a + 1 + 6 = a + 7 by omega, j_up_off (by omega)]
theorem j_mN_r8 {S : jS} {V V' : jH} {a tb p r : Int} (hI : j_mI S V a) (h7 : V a 3 < 1000000) (h : j_r8 a tb p V r V') : j_mN S V a V' := by
  obtain ⟨-, -, a0, ⟨hR, hS, hB⟩, -, -, -, -⟩ := id hI
  obtain ⟨-, e, -⟩ | ⟨t0, t1, p0, p1, ⟨-, e, -⟩ | ⟨hk, ⟨-, e, -⟩ | ⟨-, -, V1, ⟨d1, d2, d3⟩, e⟩⟩⟩ := h
  · rw [e]; exact j_mN_md hI h7
  · rw [e]; exact j_mN_md hI h7
  · rw [e]; exact j_mN_md hI h7
  · rw [e]
    have tb10 := hS.2.1
    have E : ∀ c : Int, c ≠ a + 6 → c ≠ a + 7 → c ≠ a + 19 → c ≠ a + 20 → j_up V1 (a + 6) tb 1 c = V c := fun c c0 c1 c2 c3 => by rw [j_up_ne c0]; exact d3 c c2 c3 c1
    have E6 : ∀ t : Int, t ≠ tb → j_up V1 (a + 6) tb 1 (a + 6) t = V (a + 6) t := fun t ht => by rw [j_up_off ht, d3 _ (by omega) (by omega) (by omega)]
    have E7 : j_up V1 (a + 6) tb 1 (a + 7) = V1 (a + 7) := j_up_ne (by omega)
    refine j_mN_b hI ⟨j_mR_c (E _ (by omega) (by omega) (by omega) (by omega)) (E _ (by omega) (by omega) (by omega) (by omega)) hR, ⟨by rw [E _ (by omega) (by omega) (by omega) (by omega)]; exact hS.1, by rw [E _ (by omega) (by omega) (by omega) (by omega)]; exact hS.2.1, fun t z0 z1 => ?_, fun t z0 z1 => ?_⟩, j_mB_c (fun j hj => by rw [E _ (by omega) (by omega) (by omega) (by omega)]) (E _ (by omega) (by omega) (by omega) (by omega)) hB⟩ (fun j _ => by rw [E _ (by omega) (by omega) (by omega) (by omega)]) (fun c c0 c1 c2 => E c (by omega) (by omega) (by omega) (by omega))
    · rw [show a + 1 + 5 = a + 6 by omega]
      by_cases et : t = tb
      · rw [et, j_up_at]; omega
      · rw [E6 t et]
        have := hS.2.2.1 t z0 z1
        rw [show a + 1 + 5 = a + 6 by omega] at this
        exact this
    · rw [E _ (by omega) (by omega) (by omega) (by omega)] at z1
      have hT := hS.2.2.2 t z0 z1
      by_cases et : t = tb
      · obtain ⟨a1, a2, a3, a4, a5, a6, a7, a8⟩ := id hT
        rw [et] at a1 a2 a3 a4 a5 a6 a7 a8 ⊢
        rw [show a + 1 + 3 = a + 4 by omega] at a1 a2 a7 a8
        rw [show a + 1 + 4 = a + 5 by omega] at a3 a4 a6 a7 a8
        rw [show a + 1 + 6 = a + 7 by omega] at a5 a6 a7 a8
        have h256 := j_M_256 a3 a4
        have hm := j_M_bd a3 a4
        have pp := j_parts_bd (V (a + 4) tb)
        have dl : ∀ q : Int, 0 ≤ q → q < j_parts (V (a + 4) tb) → j_dl (j_pre (j_rs (V1 (a + 7)) (1024 * tb + 256 * q))) 0 (j_M (V (a + 5) tb)) := fun q q0 q1 => (j_deal_dl h256.1 (by omega) (d1 q q0 q1)).1
        unfold j_mT
        rw [show a + 1 + 3 = a + 4 by omega, show a + 1 + 4 = a + 5 by omega, show a + 1 + 5 = a + 6 by omega, show a + 1 + 6 = a + 7 by omega, E (a + 4) (by omega) (by omega) (by omega) (by omega), E (a + 5) (by omega) (by omega) (by omega) (by omega), E7]
        refine ⟨a1, a2, a3, a4, fun i i0 i1 => ?_, fun q q0 q1 => ?_, fun z => absurd z (by omega), fun _ _ q q0 q1 => (dl q q0 q1).2.1⟩
        · by_cases c : i < 256 * j_parts (V (a + 4) tb)
          · have := (dl (i / 256) (by omega) (by omega)).2.2 (i % 256) (by omega) (by omega)
            rw [j_sh_pre _ (by omega)] at this
            have this : 0 ≤ V1 (a + 7) (1024 * tb + 256 * (i / 256) + i % 256) := this
            rw [show 1024 * tb + 256 * (i / 256) + i % 256 = 1024 * tb + i by omega] at this
            exact this
          · rw [d2 _ (by omega)]; exact a5 i i0 i1
        · by_cases c : q < j_parts (V (a + 4) tb)
          · rw [(dl q q0 c).2.1]; exact Int.le_refl _
          · rw [j_pre_congr (g := j_rs (V (a + 7)) (1024 * tb + 256 * q)) (fun x x0 x1 => by show V1 (a + 7) (1024 * tb + 256 * q + x) = V (a + 7) (1024 * tb + 256 * q + x); exact d2 _ (by omega))]
            exact a6 q q0 q1
      · have pp := j_parts_bd (V (a + 4) tb)
        refine j_mT_congr (V := V) (b := a + 1) (by rw [E _ (by omega) (by omega) (by omega) (by omega)]) (by rw [E _ (by omega) (by omega) (by omega) (by omega)]) ?_ (fun i i0 i1 => ?_) hT
        · rw [show a + 1 + 5 = a + 6 by omega]; exact E6 t et
        · rw [show a + 1 + 6 = a + 7 by omega, E7]; exact d2 _ (by omega)
theorem j_mN_r9 {S : jS} {V V' : jH} {a tb pt s bg r : Int} (hI : j_mI S V a) (h7 : V a 3 < 1000000) (h : j_r9 a tb pt s bg V r V') : j_mN S V a V' := by
  obtain ⟨-, e, -⟩ | ⟨-, -, -, -, -, ⟨-, e, -⟩ | ⟨-, e, -⟩⟩ := h
  · rw [e]; exact j_mN_md hI h7
  · rw [e]; exact j_mN_md hI h7
  · rw [e]; exact j_mN_rf hI
theorem j_mN_12 {S : jS} {V : jH} {a j x : Int} (hj : j = 12 ∨ j = 13) (hI : j_mI S V a) : j_mN S V a (j_up V (a + 1) j x) := by
  obtain ⟨-, -, a0, ⟨hR, hS, hB⟩, -, -, -, -⟩ := id hI
  exact j_mN_b hI ⟨j_mR_c (j_up_ne (by omega)) (j_up_ne (by omega)) hR, j_mS_c (j_up_off (by omega)) (j_up_ne (by omega)) (j_up_ne (by omega)) (j_up_ne (by omega)) (j_up_ne (by omega)) hS, j_mB_c (fun i hi => j_up_off (by omega)) (j_up_ne (by omega)) hB⟩ (fun j _ => by rw [j_up_ne (by omega)]) (fun c c0 c1 c2 => j_up_ne (by omega))
theorem j_mN_r10 {S : jS} {V V' : jH} {a tb pt p r : Int} (hI : j_mI S V a) (h7 : V a 3 < 1000000) (h : j_r10 a tb pt p V r V') : j_mN S V a V' := by
  obtain ⟨-, e, -⟩ | ⟨-, -, -, -, -, ⟨-, e, -⟩ | ⟨-, ⟨i, -, -, -, -, e, -⟩ | ⟨-, e, -⟩⟩⟩ := h
  · rw [e]; exact j_mN_md hI h7
  · rw [e]; exact j_mN_md hI h7
  · rw [e]
    have e3 : j_up V (a + 1) 12 i a 3 = V a 3 := by rw [j_up_ne (by omega)]
    have n1 := j_mN_12 (x := i) (Or.inl rfl) hI
    exact n1.tr e3 (j_mN_md n1.1 (by rw [e3]; exact h7))
  · rw [e]; exact j_mN_rf hI
theorem j_mN_r11 {S : jS} {V V' : jH} {a tb k r : Int} (hI : j_mI S V a) (h7 : V a 3 < 1000000) (h : j_r11 a tb k V r V') : j_mN S V a V' := by
  obtain ⟨-, e, -⟩ | ⟨-, -, -, -, ⟨-, e, -⟩ | ⟨-, e, -⟩⟩ := h
  · rw [e]; exact j_mN_md hI h7
  · rw [e]; exact j_mN_md hI h7
  · rw [e]; exact j_mN_rf hI
/-- a block that is packed lies as one that is right -/
theorem j_rpk_mB {V1 V2 V' : jH} {a p r la : Int} (p0 : 0 ≤ p) (p1 : p < 6) (r0 : 8 ≤ r) (r1 : r ≤ 12) (l0 : 1 ≤ la) (l1 : la ≤ 4) (k0 : 0 ≤ V1 a 9) (k1 : V1 a 9 ≤ 4) (hR : j_mR V1 (a + 1)) (hD : j_rdl V1 a r) (hP : j_rpk V1 V2 a p r la (-1)) (hM : j_mkb V2 V' a) : j_mB V' (a + 1) := by
  obtain ⟨n0, n1, hw⟩ := hR p p0 p1
  rw [show a + 1 + 1 = a + 2 by omega] at n0 n1 hw
  rw [show a + 1 + 2 = a + 3 by omega] at hw
  have hw : ∀ i : Int, 0 ≤ i → i < V1 (a + 2) p → 0 ≤ j_rw V1 a p i ∧ j_rw V1 a p i < 256 := hw
  have hm := j_M_bd r0 r1
  obtain ⟨-, -, m, hms, ⟨z, zz⟩ | ⟨em, -, u0, u1, eF⟩⟩ := hP
  · omega
  rw [em] at hms
  have hfb : ∀ i : Int, 0 ≤ i → i < V1 (a + 2) p → 1 ≤ j_rf (V1 a 9) r (j_rB (V1 (a + 21))) (j_rw V1 a p) i ∧ 0 ≤ j_rb (V1 a 9) r (j_rB (V1 (a + 21))) (j_rw V1 a p) i ∧ j_rb (V1 a 9) r (j_rB (V1 (a + 21))) (j_rw V1 a p) i + j_rf (V1 a 9) r (j_rB (V1 (a + 21))) (j_rw V1 a p) i ≤ j_M r := fun i i0 i1 => by
    have d := j_D_dl (B := j_rB (V1 (a + 21))) (k := V1 a 9) (w := j_rw V1 a p) r0 r1 hD.2.1 hw i0 (show i ≤ V1 (a + 2) p by omega)
    have s := hw i i0 i1
    have nz : j_rf (V1 a 9) r (j_rB (V1 (a + 21))) (j_rw V1 a p) i ≠ 0 := by
      rcases hms with ⟨_, z⟩ | ⟨z, _⟩
      · exact z i i0 i1
      · omega
    have s1 := d.2.2 _ s.1 s.2
    have b1 := j_dl_bd d (Int.le_refl _) _ s.1 (show j_rw V1 a p i ≤ 256 by omega)
    have b2 := j_dl_bd d (Int.le_refl _) (j_rw V1 a p i + 1) (by omega) (by omega)
    unfold j_rf at nz ⊢
    unfold j_rb
    have e : j_sh (j_D (V1 a 9) r (j_rB (V1 (a + 21))) (j_rw V1 a p) i) (j_rw V1 a p i) = j_D (V1 a 9) r (j_rB (V1 (a + 21))) (j_rw V1 a p) i (j_rw V1 a p i + 1) - j_D (V1 a 9) r (j_rB (V1 (a + 21))) (j_rw V1 a p) i (j_rw V1 a p i) := rfl
    omega
  have bd := j_pX_bd (la := la) hm.1 hm.2 hfb (V1 (a + 2) p).toNat (by omega)
  have bd : (∀ l : Int, j_M r ≤ (j_rX (V1 a 9) r la (j_rB (V1 (a + 21))) (j_rw V1 a p) (V1 (a + 2) p)).1 l ∧ (j_rX (V1 a 9) r la (j_rB (V1 (a + 21))) (j_rw V1 a p) (V1 (a + 2) p)).1 l < 256 * j_M r) ∧ 0 ≤ (j_rX (V1 a 9) r la (j_rB (V1 (a + 21))) (j_rw V1 a p) (V1 (a + 2) p)).2.1 ∧ (j_rX (V1 a 9) r la (j_rB (V1 (a + 21))) (j_rw V1 a p) (V1 (a + 2) p)).2.1 ≤ 2 * ((V1 (a + 2) p).toNat : Int) := bd
  generalize j_rX (V1 a 9) r la (j_rB (V1 (a + 21))) (j_rw V1 a p) (V1 (a + 2) p) = XX at *
  obtain ⟨X, u, g⟩ := XX
  dsimp only at eF bd
  obtain ⟨m1, m2, m3⟩ := hM
  have f7 : V' (a + 1) 7 = V2 a 20 := by rw [m1, j_u_ne (by decide), j_u_ne (by decide), j_u_at]
  have f9 : V' (a + 1) 9 = 1 := by rw [m1, j_u_ne (by decide), j_u_at]
  have f10 : V' (a + 1) 10 = 0 := by rw [m1, j_u_at]
  have eB : j_Bl (V' (a + 8)) (V2 a 20) = j_text (V1 a 9) r la (V1 (a + 2) p) (j_rB (V1 (a + 21))) X u g := by
    rw [j_Bl_congr (f := V2 (a + 26)) m2]; exact eF
  have hT := j_atT_Bl (V' (a + 8)) (V2 a 20)
  have hL := j_Bl_len (V' (a + 8)) (V2 a 20)
  rw [eB] at hT hL
  have tp : j_toldP (V1 a 9) ≤ j_parts (V1 a 9) := by unfold j_toldP; split; exact Int.le_refl _; have := j_parts_bd (V1 a 9); omega
  have rd := j_reads (f := V' (a + 8)) (len := V2 a 20) k0 k1 r0 r1 l0 l1 n0 n1 bd.2.1 (by omega) (fun q q0 q1 => hD.2.1 q q0 (by omega)) (fun y _ _ => bd.1 y) (by omega) hT
  obtain ⟨-, -, -, h4, -, -, -, -, -, hC⟩ := rd
  have byt : j_byt (j_text (V1 a 9) r la (V1 (a + 2) p) (j_rB (V1 (a + 21))) X u g) := j_byt_app (j_byt_body _ _ _ _ _ _ _ _) (j_byt_num _ _)
  unfold j_mB
  rw [f7, f9, f10, show a + 1 + 7 = a + 8 by omega]
  refine ⟨⟨u0, u1, fun i i0 i1 => ?_⟩, (by omega), fun _ => ⟨by rw [h4]; show (-1 : Int) < 0; decide, by rw [hC]; decide⟩, fun z => absurd rfl z⟩
  rw [← eB] at byt
  refine byt _ ?_
  unfold j_Bl
  refine List.mem_map.mpr ⟨i.toNat, List.mem_range.mpr (by omega), ?_⟩
  rw [show ((i.toNat : Nat) : Int) = i by omega]
theorem j_mkb_N {S : jS} {V V' : jH} {a : Int} (hI : j_mI S V a) (hM : j_mkb V V' a) (hB : j_mB V' (a + 1)) : j_mN S V a V' := by
  obtain ⟨-, -, a0, ⟨hR, hS, -⟩, -, -, -, -⟩ := id hI
  obtain ⟨m1, m2, m3⟩ := hM
  exact j_mN_b hI ⟨j_mR_c (m3 _ (by omega) (by omega)) (m3 _ (by omega) (by omega)) hR, j_mS_c (by rw [m1, j_u_ne (by decide), j_u_ne (by decide), j_u_ne (by decide)]) (m3 _ (by omega) (by omega)) (m3 _ (by omega) (by omega)) (m3 _ (by omega) (by omega)) (m3 _ (by omega) (by omega)) hS, hB⟩ (fun j _ => by rw [m3 _ (by omega) (by omega)]) (fun c c0 c1 c2 => m3 c (by omega) (by omega))
/-- what packing makes of the reference -/
theorem j_pby_N {S : jS} {V V' : jH} {a tb p la r : Int} (hI : j_mI S V a) (h : j_pby a tb p la V r V') : (j_mN S V a V' ∧ V' a 3 = V a 3) ∧ ∀ V3 : jH, 0 ≤ r → j_mkb V' V3 a → j_mB V3 (a + 1) := by
  obtain ⟨-, -, a0, ⟨hR, hS, hB⟩, -, -, -, -⟩ := id hI
  obtain ⟨-, e, er⟩ | ⟨t0, t1, p0, p1, l0, l1, ⟨-, e, er⟩ | ⟨-, V1, V2, x, v9, v10, vj, v21, vc, hD, hP, hx⟩⟩ := h
  · rw [e]; exact ⟨⟨j_mN_rf hI, rfl⟩, fun _ z => absurd z (by omega)⟩
  · rw [e]; exact ⟨⟨j_mN_rf hI, rfl⟩, fun _ z => absurd z (by omega)⟩
  · obtain ⟨a1, a2, a3, a4, -⟩ := hS.2.2.2 tb t0 t1
    rw [show a + 1 + 3 = a + 4 by omega] at a1 a2
    rw [show a + 1 + 4 = a + 5 by omega] at a3 a4
    have wk : j_wkF V V2 a := by
      have w2 := j_rpk_wk hP
      exact ⟨fun c c0 c1 => by rw [w2.1 c c0 c1]; exact vc c c0 (by omega), fun j hj => by rw [w2.2 j hj]; exact vj j (by omega) (by omega)⟩
    have n2 := j_mN_wk hI wk.1 wk.2
    have e3 : V2 a 3 = V a 3 := wk.2 3 (by omega)
    rcases hx with ⟨x0, e, er⟩ | ⟨ex, e, er, r0, r1⟩
    · rw [e]
      have n3 := j_mN_12 (x := x) (Or.inl rfl) n2.1
      exact ⟨⟨n2.tr e3 n3, by rw [j_up_ne (by omega)]; exact e3⟩, fun _ z => absurd z (by omega)⟩
    · rw [e]
      rw [ex] at hP
      refine ⟨⟨n2, e3⟩, fun V3 _ hM => j_rpk_mB p0 p1 a3 a4 l0 l1 (by rw [v9]; exact a1) (by rw [v9]; exact a2) (j_mR_c (vc _ (by omega) (by omega)) (vc _ (by omega) (by omega)) hR) hD hP hM⟩
theorem j_mN_r12 {S : jS} {V V' : jH} {a tb p la r : Int} (hI : j_mI S V a) (h7 : V a 3 < 1000000) (h : j_r12 a tb p la V r V') : j_mN S V a V' := by
  obtain ⟨V2, hp, hx⟩ := h
  obtain ⟨⟨n2, e3⟩, hm⟩ := j_pby_N hI hp
  rcases hx with ⟨-, e⟩ | ⟨r0, hk⟩
  · rw [e]; exact n2.tr e3 (j_mN_md n2.1 (by rw [e3]; exact h7))
  · exact n2.tr e3 (j_mkb_N n2.1 hk (hm V' r0 hk))
theorem j_mN_r13 {S : jS} {V V' : jH} {a tb p la r : Int} (hI : j_mI S V a) (h7 : V a 3 < 1000000) (h : j_r13 a tb p la V r V') : j_mN S V a V' := by
  obtain ⟨V2, hp, hx⟩ := h
  obtain ⟨⟨n2, e3⟩, hm⟩ := j_pby_N hI hp
  rcases hx with ⟨-, e⟩ | ⟨r0, e⟩
  · rw [e]; exact n2.tr e3 (j_mN_md n2.1 (by rw [e3]; exact h7))
  · rw [e]; exact n2
theorem j_mN_r18 {S : jS} {V V' : jH} {a p r : Int} (hI : j_mI S V a) (h7 : V a 3 < 1000000) (h : j_r18 a p V r V') : j_mN S V a V' := by
  obtain ⟨-, e, -⟩ | ⟨-, -, -, e, -⟩ | ⟨p0, p1, -, k, rr, la, V1, V2, k0, k1, r0, r1, l0, l1, -, wk, ha, hk⟩ := h
  · rw [e]; exact j_mN_md hI h7
  · rw [e]; exact j_mN_md hI h7
  · have n1 := j_mN_wk hI wk.1 wk.2
    have e1 : V1 a 3 = V a 3 := wk.2 3 (by omega)
    have w2 := j_rpa_wk ha
    have n2 := j_mN_wk n1.1 w2.1 w2.2
    have e2 : V2 a 3 = V1 a 3 := w2.2 3 (by omega)
    obtain ⟨-, -, a0, ⟨hR, -, -⟩, -, -, -, -⟩ := id n1.1
    obtain ⟨V3, ⟨q1, q2, q3, q4, q5, q6⟩, hD, hP, -, -⟩ := ha
    have n12 := n1.tr e1 n2
    refine n12.tr (e2.trans e1) (j_mkb_N n2.1 hk (j_rpk_mB p0 p1 r0 r1 l0 l1 (by rw [q1]; omega) (by rw [q1]; omega) (j_mR_c (q6 _ (by omega) (by omega) (by omega) (by omega)) (q6 _ (by omega) (by omega) (by omega) (by omega)) hR) hD hP hk))
theorem j_mN_ag {S : jS} {V V' : jH} {a x : Int} (hI : j_mI S V a) (h : j_ag V V' a x) : j_mN S V a V' ∧ V' a 3 = V a 3 := by
  obtain ⟨w, -, -, -⟩ := j_ag_F h
  exact ⟨j_mN_wk hI w.1 w.2, w.2 3 (by omega)⟩
theorem j_mN_r14 {S : jS} {V V' : jH} {a p r : Int} (hI : j_mI S V a) (h7 : V a 3 < 1000000) (h : j_r14 a p V r V') : j_mN S V a V' := by
  obtain ⟨-, e, -⟩ | ⟨p0, p1, x, V1, ⟨wk, hx⟩, ⟨-, e, -⟩ | ⟨x0, -, e2, e3, e4, e1, e5⟩⟩ := h
  · rw [e]; exact j_mN_md hI h7
  · rw [e]
    have n1 := j_mN_wk hI wk.1 wk.2
    have e1 : V1 a 3 = V a 3 := wk.2 3 (by omega)
    exact n1.tr e1 (j_mN_md n1.1 (by rw [e1]; exact h7))
  · have n1 := j_mN_wk hI wk.1 wk.2
    have e13 : V1 a 3 = V a 3 := wk.2 3 (by omega)
    obtain ⟨-, -, a0, ⟨hR0, hS0, hB0⟩, -, -, -, -⟩ := id hI
    have hb := j_mB_bk hB0
    have hag : j_ag V V1 a 1 ∧ j_rt (V (a + 8)) (V (a + 1) 7) := by
      rcases hx with ⟨z1, z2⟩ | ⟨_, z1, z2⟩ | ⟨z0, ⟨_, z1⟩ | ⟨z1, _⟩⟩
      · omega
      · omega
      · exact ⟨z1, z0⟩
      · have := (j_hP_al (f := V (a + 8)) hb.1).1; omega
    obtain ⟨-, w24, -, -⟩ := j_ag_F hag.1
    have nb := (j_rt_bd hb.1 hb.2.2 hag.2).2.2.2.1
    rw [← w24] at nb
    obtain ⟨V0, ⟨F, v9, v10, v23, v24, -⟩, F2, -, hk⟩ := hag.1
    obtain ⟨X, w, t1, t2, t4, t6, t7, t8, t9, t10⟩ := hk rfl
    rw [v24, ← w24] at t4 t10
    have c1 : V1 (a + 1) = V (a + 1) := wk.1 _ (by omega) (by omega)
    have c8 : V1 (a + 8) = V (a + 8) := wk.1 _ (by omega) (by omega)
    obtain ⟨-, -, -, ⟨hR, hS, hB⟩, -, -, -, -⟩ := id n1.1
    have E1 : ∀ j : Int, j ≠ 9 → j ≠ 10 → V' (a + 1) j = V1 (a + 1) j := fun j z0 z1 => by rw [e1, j_u_ne z1, j_u_ne z0]
    refine n1.tr e13 (j_mN_b n1.1 ⟨fun q q0 q1 => ?_, j_mS_c (E1 _ (by decide) (by decide)) (e5 _ (by omega) (by omega) (by omega)) (e5 _ (by omega) (by omega) (by omega)) (e5 _ (by omega) (by omega) (by omega)) (e5 _ (by omega) (by omega) (by omega)) hS, ?_⟩ (fun j _ => by rw [e5 _ (by omega) (by omega) (by omega)]) (fun c c0 c1 c2 => e5 c (by omega) (by omega) (by omega)))
    · obtain ⟨m0, m1, hw⟩ := hR q q0 q1
      rw [show a + 1 + 1 = a + 2 by omega] at m0 m1 hw ⊢
      rw [show a + 1 + 2 = a + 3 by omega] at hw ⊢
      rw [e2]
      by_cases e : q = p
      · rw [e, j_u_at]
        refine ⟨nb.1, nb.2, fun i i0 i1 => ?_⟩
        rw [e3 i i0 i1, (t10 i i0 i1).1]
        exact t4 i i0 i1
      · rw [j_u_ne e]
        refine ⟨m0, m1, fun i i0 i1 => ?_⟩
        rw [e4 _ (by omega)]; exact hw i i0 i1
    · have f9 : V' (a + 1) 9 = 1 := by rw [e1, j_u_ne (by decide), j_u_at]
      have f10 : V' (a + 1) 10 = 0 := by rw [e1, j_u_at]
      have f7 : V' (a + 1) 7 = V (a + 1) 7 := by rw [E1 7 (by decide) (by decide), c1]
      have f8 : V' (a + 8) = V (a + 8) := by rw [e5 _ (by omega) (by omega) (by omega), c8]
      unfold j_mB
      rw [f7, f9, f10, show a + 1 + 7 = a + 8 by omega, f8]
      exact ⟨hb, (by omega), fun _ => hag.2, fun z => absurd rfl z⟩
theorem j_mN_r15 {S : jS} {V V' : jH} {a i r : Int} (hI : j_mI S V a) (h7 : V a 3 < 1000000) (h : j_r15 a i V r V') : j_mN S V a V' := by
  obtain ⟨-, e, -⟩ | ⟨-, -, e, -⟩ := h
  · rw [e]; exact j_mN_md hI h7
  · rw [e]; exact j_mN_rf hI
theorem j_mN_r16 {S : jS} {V V' : jH} {a i m r : Int} (hI : j_mI S V a) (h7 : V a 3 < 1000000) (h : j_r16 a i m V r V') : j_mN S V a V' := by
  obtain ⟨-, -, a0, ⟨hR, hS, hB⟩, -, -, -, -⟩ := id hI
  obtain ⟨-, e, -⟩ | ⟨i0, i1, m0, m1, -, e⟩ := h
  · rw [e]; exact j_mN_md hI h7
  · have hb := j_mB_bk hB
    have E : ∀ c : Int, c ≠ a + 1 → c ≠ a + 8 → V' c = V c := fun c c0 c1 => by rw [e, j_up_ne c0, j_up_ne c0, j_up_ne c1]
    have E1 : ∀ j : Int, j ≠ 9 → j ≠ 10 → V' (a + 1) j = V (a + 1) j := fun j z0 z1 => by rw [e, j_up_off z1, j_up_off z0, j_up_ne (by omega)]
    have f9 : V' (a + 1) 9 = 0 := by rw [e, j_up_off (by decide), j_up_at]
    have f10 : V' (a + 1) 10 = 0 := by rw [e, j_up_at]
    have f8 : V' (a + 8) = j_u (V (a + 8)) i (j_xor (V (a + 8) i) m) := by rw [e, j_up_ne (by omega), j_up_ne (by omega), j_up_u]
    refine j_mN_b hI ⟨j_mR_c (E _ (by omega) (by omega)) (E _ (by omega) (by omega)) hR, j_mS_c (E1 _ (by decide) (by decide)) (E _ (by omega) (by omega)) (E _ (by omega) (by omega)) (E _ (by omega) (by omega)) (E _ (by omega) (by omega)) hS, ?_⟩ (fun j _ => by rw [E _ (by omega) (by omega)]) (fun c c0 c1 c2 => E c (by omega) (by omega))
    unfold j_mB
    rw [E1 7 (by decide) (by decide), f9, f10, show a + 1 + 7 = a + 8 by omega, f8]
    refine ⟨⟨hb.1, hb.2.1, fun x x0 x1 => ?_⟩, (by omega), fun z => absurd rfl z, fun z => absurd rfl z⟩
    by_cases c : x = i
    · have bi := hb.2.2 i i0 i1
      rw [c, j_u_at]; exact j_xor_bd bi.1 bi.2 m0 m1
    · rw [j_u_ne c]; exact hb.2.2 x x0 x1
theorem j_mN_r17 {S : jS} {V V' : jH} {a w n r : Int} (hI : j_mI S V a) (h7 : V a 3 < 1000000) (h : j_r17 a w n V r V') : j_mN S V a V' := by
  obtain ⟨-, -, a0, ⟨hR, hS, hB⟩, -, -, -, -⟩ := id hI
  obtain ⟨-, e, -⟩ | ⟨-, -, -, -, -, e, -⟩ | ⟨n0, n1, nz, nl, h4, -, e1, e2, e3, E⟩ := h
  · rw [e]; exact j_mN_md hI h7
  · rw [e]; exact j_mN_md hI h7
  · have hb := j_mB_bk hB
    have E1 : ∀ j : Int, j ≠ 7 → j ≠ 9 → j ≠ 10 → V' (a + 1) j = V (a + 1) j := fun j z z0 z1 => by rw [e1, j_u_ne z1, j_u_ne z0, j_u_ne z]
    have f7 : V' (a + 1) 7 = V (a + 1) 7 + n := by rw [e1, j_u_ne (by decide), j_u_ne (by decide), j_u_at]
    have f9 : V' (a + 1) 9 = 0 := by rw [e1, j_u_ne (by decide), j_u_at]
    have f10 : V' (a + 1) 10 = 0 := by rw [e1, j_u_at]
    refine j_mN_b hI ⟨j_mR_c (E _ (by omega) (by omega)) (E _ (by omega) (by omega)) hR, j_mS_c (E1 _ (by decide) (by decide) (by decide)) (E _ (by omega) (by omega)) (E _ (by omega) (by omega)) (E _ (by omega) (by omega)) (E _ (by omega) (by omega)) hS, ?_⟩ (fun j _ => by rw [E _ (by omega) (by omega)]) (fun c c0 c1 c2 => E c (by omega) (by omega))
    unfold j_mB
    rw [f7, f9, f10, show a + 1 + 7 = a + 8 by omega]
    refine ⟨⟨(by omega), h4, fun x x0 x1 => ?_⟩, (by omega), fun z => absurd rfl z, fun z => absurd rfl z⟩
    by_cases c : x < V (a + 1) 7
    · rw [e2 x (by omega)]; exact hb.2.2 x x0 c
    · have := e3 (x - V (a + 1) 7) (by omega) (by omega)
      rw [show V (a + 1) 7 + (x - V (a + 1) 7) = x by omega] at this
      have rb := j_rby_bd w (n - 1 - (x - V (a + 1) 7))
      rw [this]; omega
theorem j_mN_r19 {S : jS} {V V' : jH} {a i k r : Int} (hI : j_mI S V a) (h7 : V a 3 < 1000000) (h : j_r19 a i k V r V') : j_mN S V a V' := by
  obtain ⟨-, e, -⟩ | ⟨-, x, V1, ag, ⟨-, e, -⟩ | ⟨-, -, -, -, e, -⟩⟩ := h
  · rw [e]; exact j_mN_md hI h7
  · obtain ⟨n1, e1⟩ := j_mN_ag hI ag
    rw [e]; exact n1.tr e1 (j_mN_md n1.1 (by rw [e1]; exact h7))
  · rw [e]; exact (j_mN_ag hI ag).1
theorem j_mN_r20 {S : jS} {V V' : jH} {a g r : Int} (hI : j_mI S V a) (h7 : V a 3 < 1000000) (h : j_r20 a g V r V') : j_mN S V a V' := by
  obtain ⟨-, e, -⟩ | ⟨-, -, e, -⟩ | ⟨m9, g0, g1, x, V1, ag, ⟨-, e, -⟩ | ⟨-, -, e⟩⟩ := h
  · rw [e]; exact j_mN_md hI h7
  · rw [e]; exact j_mN_md hI h7
  · obtain ⟨n1, e1⟩ := j_mN_ag hI ag
    rw [e]; exact n1.tr e1 (j_mN_md n1.1 (by rw [e1]; exact h7))
  · obtain ⟨n1, e1⟩ := j_mN_ag hI ag
    obtain ⟨w, -, -, -⟩ := j_ag_F ag
    obtain ⟨-, -, a0, ⟨hR, hS, hB⟩, -, -, -, -⟩ := id n1.1
    have c1 : V1 (a + 1) = V (a + 1) := w.1 _ (by omega) (by omega)
    have E : ∀ c : Int, c ≠ a + 1 → V' c = V1 c := fun c c0 => by rw [e, j_up_ne c0, j_up_ne c0]
    have E1 : ∀ j : Int, j ≠ 11 → j ≠ 10 → V' (a + 1) j = V1 (a + 1) j := fun j z0 z1 => by rw [e, j_up_off z1, j_up_off z0]
    have f11 : V' (a + 1) 11 = g := by rw [e, j_up_off (by decide), j_up_at]
    refine n1.tr e1 (j_mN_b n1.1 ⟨j_mR_c (E _ (by omega)) (E _ (by omega)) hR, j_mS_c (E1 _ (by decide) (by decide)) (E _ (by omega)) (E _ (by omega)) (E _ (by omega)) (E _ (by omega)) hS, ?_⟩ (fun j _ => by rw [E _ (by omega)]) (fun c c0 c1 c2 => E c (by omega)))
    obtain ⟨b1, b2, b3, b4⟩ := hB
    unfold j_mB
    rw [E1 7 (by decide) (by decide), E1 9 (by decide) (by decide), f11, show a + 1 + 7 = a + 8 by omega, E (a + 8) (by omega)]
    rw [show a + 1 + 7 = a + 8 by omega] at b1 b3
    exact ⟨b1, b2, b3, fun _ => ⟨by rw [c1]; exact m9, g0, g1⟩⟩
theorem j_mN_r21 {S : jS} {V V' : jH} {a i r : Int} (hI : j_mI S V a) (h7 : V a 3 < 1000000) (h : j_r21 a i V r V') : j_mN S V a V' := by
  obtain ⟨-, e, -⟩ | ⟨-, x, V1, ag, ⟨-, e, -⟩ | ⟨-, -, -, e⟩⟩ := h
  · rw [e]; exact j_mN_md hI h7
  · obtain ⟨n1, e1⟩ := j_mN_ag hI ag
    rw [e]; exact n1.tr e1 (j_mN_md n1.1 (by rw [e1]; exact h7))
  · obtain ⟨n1, e1⟩ := j_mN_ag hI ag
    rw [e]; exact n1.tr e1 (j_mN_12 (Or.inr rfl) n1.1)
theorem j_mN_4 {S : jS} {V V' : jH} {a : Int} (hI : j_mI S V a) (h4 : 0 ≤ V' a 4 ∧ V' a 4 ≤ 400) (ha : ∀ j : Int, j ≠ 4 → V' a j = V a j) (hV : ∀ c : Int, c ≠ a → c ≠ a + 17 → V' c = V c) : j_mN S V a V' := by
  obtain ⟨L, ht, a0, hb, hk, h2, -, h3⟩ := id hI
  have e2 := ha 2 (by decide)
  have e3 := ha 3 (by decide)
  exact ⟨⟨L, ht, a0, j_BI_congr (fun c c0 c1 => hV c (by omega) (by omega)) hb, j_BI_congr (fun c c0 c1 => hV c (by omega) (by omega)) hk, by rw [e2]; exact h2, h4, by rw [e3]; omega, by rw [e3]; omega⟩, by rw [e3]; omega, fun c hc => hV c (by omega) (by omega)⟩
theorem j_mN_r22 {S : jS} {V V' : jH} {a v r : Int} (hI : j_mI S V a) (h7 : V a 3 < 1000000) (h : j_r22 a v V r V') : j_mN S V a V' := by
  obtain ⟨-, e, -⟩ | ⟨q, -, e⟩ := h
  · rw [e]; exact j_mN_md hI h7
  · have h4 := hI.2.2.2.2.2.2.1
    rw [e]
    exact j_mN_4 hI (by rw [j_up_at]; omega) (fun j hj => by rw [j_up_off hj, j_up_ne (by omega)]) (fun c c0 c1 => by rw [j_up_ne c0, j_up_ne c1])
theorem j_mN_r23 {S : jS} {V V' : jH} {a r : Int} (hI : j_mI S V a) (h7 : V a 3 < 1000000) (h : j_r23 a V r V') : j_mN S V a V' := by
  have n0 : j_mN S V a (j_up V a 4 0) := j_mN_4 hI (by rw [j_up_at]; omega) (fun j hj => j_up_off hj) (fun c c0 _ => j_up_ne c0)
  have e0 : j_up V a 4 0 a 3 = V a 3 := j_up_off (by decide)
  obtain ⟨-, e, -⟩ | ⟨-, x, ag, -⟩ := h
  · rw [e]; exact n0.tr e0 (j_mN_md n0.1 (by rw [e0]; exact h7))
  · exact n0.tr e0 (j_mN_ag n0.1 ag).1
theorem j_BI_eq {V V' : jH} {b o : Int} (h : j_bookEq V V' b o) (hB : j_BI V o) : j_BI V' b := by
  obtain ⟨h1, h2, h3, h4, h5, h6⟩ := h
  exact ⟨j_mR_congr h2 h3 hB.1, j_mS_congr (h1 2 (by omega)) h4 h5 hB.2.1, j_mB_congr (fun j hj => h1 j (by omega)) (fun i i0 i1 => h6 i i0 (by have := hB.2.2.1.2.1; omega)) hB.2.2⟩
theorem j_mN_keep {S : jS} {V V' : jH} {a : Int} (hI : j_mI S V a) (e2 : V' a 2 = 1) (ea : ∀ j : Int, j ≠ 2 → V' a j = V a j) (hE : j_bookEq V V' (a + 9) (a + 1)) (hV : ∀ c : Int, c ≠ a → (c < a + 9 ∨ a + 16 < c) → V' c = V c) : j_mN S V a V' := by
  obtain ⟨L, ht, a0, hb, hk, h2, h4, h3⟩ := id hI
  have e3 := ea 3 (by decide)
  have e4 := ea 4 (by decide)
  exact ⟨⟨L, ht, a0, j_BI_congr (fun c c0 c1 => hV c (by omega) (by omega)) hb, j_BI_eq hE hb, by rw [e2]; omega, by rw [e4]; exact h4, by rw [e3]; omega, by rw [e3]; omega⟩, by rw [e3]; omega, fun c hc => hV c (by omega) (by omega)⟩
theorem j_mN_back {S : jS} {V V' : jH} {a r : Int} (hI : j_mI S V a) (h7 : V a 3 < 1000000) (h : (V a 2 = 0 ∧ V' = j_md V a ∧ r = -6) ∨ (V a 2 ≠ 0 ∧ r = 1 ∧ j_bookEq V V' (a + 1) (a + 9) ∧ ∀ c : Int, (c < a + 1 ∨ a + 8 < c) → V' c = V c)) : j_mN S V a V' := by
  obtain ⟨-, e, -⟩ | ⟨-, -, hE, hV⟩ := h
  · rw [e]; exact j_mN_md hI h7
  · exact j_mN_b hI (j_BI_eq hE hI.2.2.2.2.1) (fun j _ => by rw [hV a (by omega)]) (fun c c0 c1 c2 => hV c c1)
