/-! THE BLOCK -/
theorem j_Qk {V : jH} (Q : j_Q V) : V 16 1 = V 1001 7 ∧ (∀ i : Int, 0 ≤ i → i < V 1001 7 → V 17 i = V 1008 i) ∧ V 16 2 = V 1001 9 ∧ (V 1001 9 ≠ 0 → j_stp (V 1008) (V 1001 7) V 18) := Q.2.1.2.2
theorem j_Q_block {S S1 : jS} {V V1 V2 : jH} {i r r2 : Int} (Q : j_Q V) (n1 : j_cN S V 0 S1 V1) (q : j_q15 0 i V r V1) (m : j_r15 1000 i V1 r2 V2) : r = r2 := by
  have e1 : ∀ c : Int, 500 < c → V1 c = V c := fun c hc => (n1.2.2 c (by omega)).2.2
  obtain ⟨k1, k2, -, -⟩ := j_Qk Q
  unfold j_q15 at q
  unfold j_r15 at m
  simp only [Int.zero_add, Int.reduceAdd] at q m
  rw [e1 1001 (by omega), e1 1008 (by omega)] at m
  rw [k1] at q
  rcases q with ⟨q1, _, q3⟩ | ⟨q0, q1, _, q3⟩
  · rcases m with ⟨_, _, m3⟩ | ⟨z0, z1, _⟩
    · rw [q3, m3]
    · exact absurd ⟨z0, z1⟩ q1
  · rcases m with ⟨m1, _⟩ | ⟨_, _, _, m3⟩
    · exact absurd ⟨q0, q1⟩ m1
    · rw [q3, m3]
      by_cases c : i = -1
      · rw [if_pos c, if_pos c]
      · rw [if_neg c, if_neg c]; exact k2 i (by omega) q1
theorem j_Q_alter {S S1 : jS} {V V1 V2 : jH} {i mk r r2 : Int} (hm : j_mI S V 1000) (Q : j_Q V) (n1 : j_cN S V 0 S1 V1) (q : j_q16 0 i mk V r V1) (n2 : j_mN S1 V1 1000 V2) (m : j_r16 1000 i mk V1 r2 V2) : r = r2 ∧ j_Q V2 := by
  have e1 : ∀ c : Int, 500 < c → V1 c = V c := fun c hc => (n1.2.2 c (by omega)).2.2
  have f2 : ∀ c : Int, c < 1000 → V2 c = V1 c := fun c hc => n2.2.2 c (by omega)
  obtain ⟨k1, k2, -, -⟩ := j_Qk Q
  have st := j_Q_blk hm Q n1 (j_cw_q16 q) (Or.inl (by omega)) n2 (j_mw_r16 m)
  unfold j_q16 at q
  unfold j_r16 at m
  simp only [Int.zero_add, Int.reduceAdd] at q m
  rw [e1 1001 (by omega), e1 1008 (by omega)] at m
  rw [k1] at q
  rcases q with ⟨q1, q2, q3⟩ | ⟨a0, a1, a2, a3, q3, q2⟩
  · rcases m with ⟨_, m2, m3⟩ | ⟨z0, z1, z2, z3, _⟩
    · exact ⟨by rw [q3, m3], j_Q_fd hm Q n1 q2 n2 m2⟩
    · exact absurd ⟨z0, z1, z2, z3⟩ q1
  · rcases m with ⟨m1, _⟩ | ⟨_, _, _, _, m3, m2⟩
    · exact absurd ⟨a0, a1, a2, a3⟩ m1
    · have ki := k2 i a0 a1
      refine ⟨by rw [q3, m3, ki], st ?_⟩
      have g1 : V2 16 1 = V 16 1 := by rw [f2 16 (by omega), q2, j_up_off (by decide), j_up_off (by decide), j_up_ne (by omega)]
      have g2 : V2 16 2 = 0 := by rw [f2 16 (by omega), q2, j_up_off (by decide), j_up_at]
      have g7 : V2 1001 7 = V 1001 7 := by rw [m2, j_up_off (by decide), j_up_off (by decide), j_up_ne (by omega), e1 1001 (by omega)]
      have g9 : V2 1001 9 = 0 := by rw [m2, j_up_off (by decide), j_up_at]
      have g17 : V2 17 = j_u (V 17) i (j_xor (V 17 i) mk) := by rw [f2 17 (by omega), q2, j_up_ne (by omega), j_up_ne (by omega), j_up_u]
      have g18 : V2 1008 = j_u (V 1008) i (j_xor (V 1008 i) mk) := by rw [m2, j_up_ne (by omega), j_up_ne (by omega), j_up_u, e1 1008 (by omega)]
      refine ⟨by show V2 16 1 = V2 1001 7; rw [g1, g7, k1], ?_, by show V2 16 2 = V2 1001 9; rw [g2, g9], fun z => absurd g9 z⟩
      show ∀ x : Int, 0 ≤ x → x < V2 1001 7 → V2 17 x = V2 1008 x
      intro x x0 x1
      rw [g7] at x1
      rw [g17, g18]
      by_cases e : x = i
      · rw [e, j_u_at, j_u_at, ki]
      · rw [j_u_ne e, j_u_ne e]; exact k2 x x0 x1
theorem j_Q_more {S S1 : jS} {V V1 V2 : jH} {w n r r2 : Int} (hm : j_mI S V 1000) (Q : j_Q V) (n1 : j_cN S V 0 S1 V1) (q : j_q17 0 w n V r V1) (n2 : j_mN S1 V1 1000 V2) (m : j_r17 1000 w n V1 r2 V2) : r = r2 ∧ j_Q V2 := by
  have e1 : ∀ c : Int, 500 < c → V1 c = V c := fun c hc => (n1.2.2 c (by omega)).2.2
  have f2 : ∀ c : Int, c < 1000 → V2 c = V1 c := fun c hc => n2.2.2 c (by omega)
  obtain ⟨k1, k2, -, -⟩ := j_Qk Q
  have st := j_Q_blk hm Q n1 (j_cw_q17 q) (Or.inl (by omega)) n2 (j_mw_r17 m)
  unfold j_q17 at q
  unfold j_r17 at m
  simp only [Int.zero_add, Int.reduceAdd] at q m
  rw [e1 1001 (by omega), e1 1008 (by omega)] at m
  rw [k1] at q
  rcases q with ⟨q1, q2, q3⟩ | ⟨a0, a1, a2, a3, q1, q2, q3⟩ | ⟨a0, a1, a2, a3, q1, q3, v1, v2, v4, v5, v6, v7⟩
  · rcases m with ⟨_, m2, m3⟩ | ⟨z0, z1, z2, z3, _⟩ | ⟨z0, z1, z2, z3, _⟩
    · exact ⟨by rw [q3, m3], j_Q_fd hm Q n1 q2 n2 m2⟩
    · exact absurd ⟨z0, z1, z2, z3⟩ q1
    · exact absurd ⟨z0, z1, z2, z3⟩ q1
  · rcases m with ⟨z, _⟩ | ⟨_, _, _, _, _, m2, m3⟩ | ⟨_, _, _, _, z, _⟩
    · exact absurd ⟨a0, a1, a2, a3⟩ z
    · exact ⟨by rw [q3, m3], j_Q_fd hm Q n1 q2 n2 m2⟩
    · omega
  · rcases m with ⟨z, _⟩ | ⟨_, _, _, _, z, _⟩ | ⟨_, _, _, _, m1, m3, u1, u5, u6, u7⟩
    · exact absurd ⟨a0, a1, a2, a3⟩ z
    · omega
    · refine ⟨by rw [q3, m3], st ?_⟩
      have g7 : V2 1001 7 = V 1001 7 + n := by rw [u1, j_u_ne (by decide), j_u_ne (by decide), j_u_at]
      have g9 : V2 1001 9 = 0 := by rw [u1, j_u_ne (by decide), j_u_at]
      refine ⟨by show V2 16 1 = V2 1001 7; rw [f2 16 (by omega), v1, g7], ?_, by show V2 16 2 = V2 1001 9; rw [f2 16 (by omega), v2, g9], fun z => absurd g9 z⟩
      show ∀ x : Int, 0 ≤ x → x < V2 1001 7 → V2 17 x = V2 1008 x
      intro x x0 x1
      rw [g7] at x1
      rw [f2 17 (by omega)]
      by_cases c : x < V 1001 7
      · rw [v5 x x0 c x1, u5 x (Or.inl c)]
        exact k2 x x0 c
      · have b1 := v6 (x - V 1001 7) (by omega) (by omega)
        have b2 := u6 (x - V 1001 7) (by omega) (by omega)
        rw [show V 1001 7 + (x - V 1001 7) = x by omega] at b1 b2
        rw [b1, b2]
        exact j_by8 w (by omega) (by omega)
/-! STEPS AND MARKS -/
theorem j_rt_h1 {f : Int → Int} {len : Int} (hl : 0 ≤ len) (h : j_rt f len) : (j_h1 f len).1 = f 0 ∧ 0 < len := by
  obtain ⟨q4, -⟩ := h
  have a1 := j_rd_al (f := f) (len := len) (p := 0) (wr := -1) (size := 1) (least := 0) (most := 4) (by omega) (by omega) hl
  have a1 : 0 ≤ (j_h1 f len).2.1 ∧ (j_h1 f len).2.1 ≤ len := a1
  have a2 := j_rd_al (f := f) (len := len) (wr := (j_h1 f len).2.2) (size := 1) (least := 8) (most := 12) (by omega) a1.1 a1.2
  have a2 : 0 ≤ (j_h2 f len).2.1 ∧ (j_h2 f len).2.1 ≤ len := a2
  have a3 := j_rd_al (f := f) (len := len) (wr := (j_h2 f len).2.2) (size := 1) (least := 1) (most := 4) (by omega) a2.1 a2.2
  have a3 : 0 ≤ (j_h3 f len).2.1 ∧ (j_h3 f len).2.1 ≤ len := a3
  have o4 := j_rd_ok (f := f) (len := len) (p := (j_h3 f len).2.1) (wr := (j_h3 f len).2.2) (size := 2) (least := 0) (most := 400) hl (fun _ => a3) q4
  have o3 := j_rd_ok (f := f) (len := len) (p := (j_h2 f len).2.1) (wr := (j_h2 f len).2.2) (size := 1) (least := 1) (most := 4) hl (fun _ => a2) o4.1
  have o2 := j_rd_ok (f := f) (len := len) (p := (j_h1 f len).2.1) (wr := (j_h1 f len).2.2) (size := 1) (least := 8) (most := 12) hl (fun _ => a1) o3.1
  have o1 := j_rd_ok (f := f) (len := len) (p := 0) (wr := -1) (size := 1) (least := 0) (most := 4) hl (fun _ => ⟨by omega, hl⟩) o2.1
  show (j_rd f len 0 (-1) 1 0 4).1 = f 0 ∧ 0 < len
  rw [o1.2.2.1]
  refine ⟨?_, by have := o1.2.1; omega⟩
  show 256 * 0 + f (0 + ((0 : Nat) : Int)) = f 0
  rw [show (0 : Int) + ((0 : Nat) : Int) = 0 from rfl]
  omega
theorem j_Q_ag {S : jS} {V W V' : jH} {x : Int} (hm : j_mI S V 1000) (Q : j_Q V) (w1 : W 1001 = V 1001) (w8 : W 1008 = V 1008) (made : V 1001 9 ≠ 0) (ag : j_ag W V' 1000 x) : V' 1000 24 = V 18 5 ∧ (0 ≤ V 18 5 ∧ V 18 5 ≤ 400) ∧ V' 1000 9 = V 17 0 ∧ ∀ i : Int, 0 ≤ i → i < V 18 5 → V' 1028 i = V 19 i ∧ V' 1029 i = V 20 i ∧ V' 1030 i = V 21 i ∧ V' 1022 i = V 22 i ∧ V' 1023 i = V 23 i ∧ j_w32 (V' 1029 i) = V' 1029 i := by
  obtain ⟨k1, k2, k3, k4⟩ := j_Qk Q
  have mB : j_mB V 1001 := hm.2.2.2.1.2.2
  have mbk : j_mbk V 1000 := j_mB_bk mB
  have rt : j_rt (V 1008) (V 1001 7) := mB.2.2.1 made
  have w1' : W (1000 + 1) = V (1000 + 1) := w1
  have w8' : W (1000 + 8) = V (1000 + 8) := w8
  have mbkW : j_mbk W 1000 := by unfold j_mbk; rw [w1', w8']; exact mbk
  have F := (j_ag_F ag).2.2.1
  rw [w1', w8'] at F
  have h1 := j_rt_h1 mB.1.1 rt
  obtain ⟨-, b, c, d⟩ := j_ag_stp mbkW (by rw [w1', w8']; exact rt) (by rw [w1', w8']; exact k4 made) ag
  refine ⟨b, c, ?_, d⟩
  have F : V' 1000 9 = (j_h1 (V 1008) (V 1001 7)).1 := F
  rw [F, h1.1, k2 0 (by omega) h1.2]
theorem j_Q_step {S S1 : jS} {V V1 V2 : jH} {i k r r2 : Int} (hm : j_mI S V 1000) (Q : j_Q V) (n1 : j_cN S V 0 S1 V1) (q : j_q19 0 i k V r V1) (m : j_r19 1000 i k V1 r2 V2) : r = r2 := by
  have e1 : ∀ c : Int, 500 < c → V1 c = V c := fun c hc => (n1.2.2 c (by omega)).2.2
  obtain ⟨k1, k2, k3, k4⟩ := j_Qk Q
  unfold j_q19 at q
  unfold j_r19 at m
  simp only [Int.zero_add, Int.reduceAdd] at q m
  rw [e1 1001 (by omega)] at m
  rw [k3] at q
  by_cases made : V 1001 9 = 0
  · rcases q with ⟨_, _, q3⟩ | ⟨z, _⟩ | ⟨z, _⟩
    · rcases m with ⟨_, _, m3⟩ | ⟨z, _⟩
      · rw [q3, m3]
      · exact absurd made z
    · exact absurd made z
    · exact absurd made z
  · rcases m with ⟨z, _⟩ | ⟨_, x, V3, ag, m⟩
    · exact absurd z made
    · obtain ⟨a1, a2, a3, a4⟩ := j_Q_ag hm Q (e1 1001 (by omega)) (e1 1008 (by omega)) made ag
      rw [a1] at m
      rcases q with ⟨z, _⟩ | ⟨_, q1, _, q3⟩ | ⟨_, i0, i1, k0, k1', _, q3⟩
      · exact absurd z made
      · rcases m with ⟨_, _, m3⟩ | ⟨i0, i1, k0, k1', _⟩
        · rw [q3, m3]
        · exact absurd ⟨i0, i1, k0, k1'⟩ q1
      · rcases m with ⟨z, _⟩ | ⟨_, _, _, _, _, m3⟩
        · exact absurd ⟨⟨i0, i1⟩, k0, k1'⟩ z
        · obtain ⟨b1, b2, b3, b4, b5, b6⟩ := a4 i i0 i1
          rw [q3, m3, b1, b6, b2, b3, b4, b5]
          have : k = 0 ∨ k = 1 ∨ k = 2 ∨ k = 3 ∨ k = 4 := by omega
          rcases this with e | e | e | e | e <;> subst e
          · rfl
          · rfl
          · rfl
          · rfl
          · rfl
theorem j_Q_mark {S S1 : jS} {V V1 V2 : jH} {k r r2 : Int} (hm : j_mI S V 1000) (Q : j_Q V) (n1 : j_cN S V 0 S1 V1) (q : j_q20 0 k V r V1) (n2 : j_mN S1 V1 1000 V2) (m : j_r20 1000 k V1 r2 V2) : r = r2 ∧ j_Q V2 := by
  have e1 : ∀ c : Int, 500 < c → V1 c = V c := fun c hc => (n1.2.2 c (by omega)).2.2
  obtain ⟨k1, k2, k3, k4⟩ := j_Qk Q
  obtain ⟨cw, h16⟩ := j_cw_q20b q
  have st := j_Q_same hm Q n1 cw (fun c hc => (by omega)) h16 n2 (j_mw_r20 (lo := 0) (hi := 0) m) (fun c hc => (by omega)) (j_79_r20 m)
  refine ⟨?_, st⟩
  unfold j_q20 at q
  unfold j_r20 at m
  simp only [Int.zero_add, Int.reduceAdd] at q m
  rw [e1 1001 (by omega)] at m
  rw [k3] at q
  by_cases made : V 1001 9 = 0
  · rcases q with ⟨_, _, q3⟩ | ⟨z, _⟩ | ⟨z, _⟩ | ⟨z, _⟩
    · rcases m with ⟨_, _, m3⟩ | ⟨z, _⟩ | ⟨z, _⟩
      · rw [q3, m3]
      · exact absurd made z
      · exact absurd made z
    · exact absurd made z
    · exact absurd made z
    · exact absurd made z
  · rcases q with ⟨z, _⟩ | ⟨_, q1, _, q3⟩ | ⟨_, g0, g1, q1, _, q3⟩ | ⟨_, g0, g1, q1, _, q3⟩
    · exact absurd z made
    · rcases m with ⟨z, _⟩ | ⟨_, _, _, m3⟩ | ⟨_, g0, g1, _⟩
      · exact absurd z made
      · rw [q3, m3]
      · exact absurd ⟨g0, g1⟩ q1
    · rcases m with ⟨z, _⟩ | ⟨_, z, _⟩ | ⟨_, _, _, x, V3, ag, m⟩
      · exact absurd z made
      · exact absurd ⟨g0, g1⟩ z
      · obtain ⟨a1, a2, a3, a4⟩ := j_Q_ag hm Q (e1 1001 (by omega)) (e1 1008 (by omega)) made ag
        rw [a1, a3] at m
        rcases m with ⟨_, _, m3⟩ | ⟨z, _⟩
        · rw [q3, m3]
        · exact absurd q1 z
    · rcases m with ⟨z, _⟩ | ⟨_, z, _⟩ | ⟨_, _, _, x, V3, ag, m⟩
      · exact absurd z made
      · exact absurd ⟨g0, g1⟩ z
      · obtain ⟨a1, a2, a3, a4⟩ := j_Q_ag hm Q (e1 1001 (by omega)) (e1 1008 (by omega)) made ag
        rw [a1, a3] at m
        rcases m with ⟨z, _⟩ | ⟨_, m3, _⟩
        · exact absurd z q1
        · rw [q3, m3]
theorem j_ckd_one {t s : Int → Int} {m n r r' : Int} (h : j_ckd t s m n r) (h' : j_ckd t s m n r') : r = r' := by
  rcases h with ⟨i, i0, i1, i2, i3, i4⟩ | ⟨h1, h2⟩
  · rcases h' with ⟨k, k0, k1, k2, k3, k4⟩ | ⟨g1, g2⟩
    · have a : ¬ i < k := fun z => i3 (k2 i i0 z)
      have b : ¬ k < i := fun z => k3 (i2 k k0 z)
      omega
    · exact absurd (g1 i i0 i1) i3
  · rcases h' with ⟨k, k0, k1, k2, k3, k4⟩ | ⟨g1, g2⟩
    · exact absurd (h1 k k0 k1) k3
    · omega
theorem j_Q_check {S : jS} {V V1 V2 : jH} {r r2 : Int} (hm : j_mI S V 1000) (R : j_R S V) (Q : j_Q V) (n1 : j_cN S V 0 S V1) (q : j_q23 0 V r V1) (n2 : j_mN S V1 1000 V2) (m : j_r23 1000 V1 r2 V2) : r = r2 ∧ j_Q V2 := by
  have e1 : ∀ c : Int, c ≠ 0 → V1 c = V c := fun c c0 => by
    rcases q with ⟨_, e, _⟩ | ⟨_, e, _⟩
    · rw [e]; unfold j_fd; rw [j_up_ne c0, j_up_ne c0]
    · rw [e, j_up_ne c0]
  have e06 : V1 0 6 = 0 := by
    rcases q with ⟨_, e, _⟩ | ⟨_, e, _⟩
    · rw [e]; unfold j_fd; rw [j_up_off (by decide), j_up_at]
    · rw [e, j_up_at]
  have e2 : (∀ c : Int, c ≠ 1000 → c < 1018 → V2 c = V1 c) ∧ V2 1000 2 = V1 1000 2 := by
    rcases m with ⟨_, e, _⟩ | ⟨_, x, ag, _⟩
    · rw [e]; unfold j_md; exact ⟨fun c c0 _ => by rw [j_up_ne c0, j_up_ne c0], by rw [j_up_off (by decide), j_up_off (by decide)]⟩
    · have w := (j_ag_F ag).1
      exact ⟨fun c c0 c1 => by rw [w.1 c c0 (by omega), j_up_ne c0], by rw [w.2 2 (by omega), j_up_off (by decide)]⟩
  obtain ⟨k1, k2, k3, k4⟩ := j_Qk Q
  have st : j_Q V2 := j_Q_now Q hm n1 n2 (fun c c0 c1 => e1 c (by omega)) (fun c c0 c1 => e2.1 c (by omega) (by omega)) e2.2 (by
    intro i i0 i1
    rw [n2.2.2 0 (by omega), e06] at i1
    omega) (j_QR_s Q n1 n2 (fun c c0 c1 => e1 c (by omega)) (e2.1 _ (by omega) (by omega)) (e2.1 _ (by omega) (by omega))) (j_QD_s Q hm n1 n2 (fun c c0 c1 => e1 c (by omega)) (by rw [e2.1 1001 (by omega) (by omega)]) (fun c c0 c1 => e2.1 c (by omega) (by omega))) (j_QK_s Q n1 n2 (by rw [e1 16 (by omega)]; exact ⟨rfl, rfl⟩) (fun c c0 c1 => e1 c (by omega)) (by rw [e2.1 1001 (by omega) (by omega)]; exact ⟨rfl, rfl⟩) (e2.1 _ (by omega) (by omega)))
  refine ⟨?_, st⟩
  have R2 : V 0 6 = V 1000 4 := R.1.2
  unfold j_q23 at q
  unfold j_r23 at m
  simp only [Int.zero_add, Int.reduceAdd] at q m
  rw [e1 1001 (by omega), e1 1000 (by omega)] at m
  rw [k3] at q
  rcases q with ⟨q1, _, q3⟩ | ⟨q1, _, q3⟩
  · rcases m with ⟨_, _, m3⟩ | ⟨z, _⟩
    · rw [q3, m3]
    · exact absurd q1 z
  · rcases m with ⟨z, _⟩ | ⟨_, x, ag, m3⟩
    · exact absurd z q1
    · obtain ⟨a1, a2, a3, a4⟩ := j_Q_ag hm Q (by rw [j_up_ne (by omega), e1 1001 (by omega)]) (by rw [j_up_ne (by omega), e1 1008 (by omega)]) q1 ag
      rw [a1, e2.1 1017 (by omega) (by omega), e1 1017 (by omega), ← R2] at m3
      refine j_ckd_one (t := V 1017) (s := V2 1029) (m := V 0 6) (n := V 18 5) ?_ m3
      have eq : ∀ x : Int, 0 ≤ x → x < V 18 5 → ((x < V 0 6 ∧ V 241 x = V 20 x) ↔ (x < V 0 6 ∧ V 1017 x = V2 1029 x)) := fun x x0 x1 => by
        rw [(a4 x x0 x1).2.1]
        constructor
        · rintro ⟨z1, z2⟩
          exact ⟨z1, by rw [← Q.1 x x0 z1]; exact z2⟩
        · rintro ⟨z1, z2⟩
          exact ⟨z1, by rw [Q.1 x x0 z1]; exact z2⟩
      rcases q3 with ⟨k, k0, k1, h1, h2, h3⟩ | ⟨h1, h2⟩
      · refine Or.inl ⟨k, k0, k1, fun y y0 y1 => (eq y y0 (by omega)).mp (h1 y y0 y1), fun z => ?_, h3⟩
        have := (eq k k0 k1).mpr z
        rcases h2 with h2 | h2
        · omega
        · exact h2 this.2
      · refine Or.inr ⟨fun y y0 y1 => (eq y y0 y1).mp (h1 y y0 y1), ?_⟩
        by_cases c : V 18 5 < V 0 6
        · rw [if_pos c] at h2; exact Or.inl ⟨c, h2⟩
        · rw [if_neg c] at h2; exact Or.inr ⟨(by omega), h2⟩
theorem j_Q_tell {S : jS} {V V1 V2 : jH} {v r r2 : Int} (hm : j_mI S V 1000) (R : j_R S V) (Q : j_Q V) (n1 : j_cN S V 0 S V1) (q : j_q22 0 v V r V1) (n2 : j_mN S V1 1000 V2) (m : j_r22 1000 v V1 r2 V2) : j_Q V2 := by
  have R2 : V 0 6 = V 1000 4 := R.1.2
  have e10 : V1 1000 = V 1000 := (n1.2.2 1000 (by omega)).2.2
  have e17 : V1 1017 = V 1017 := (n1.2.2 1017 (by omega)).2.2
  unfold j_q22 at q
  unfold j_r22 at m
  simp only [Int.zero_add, Int.reduceAdd] at q m
  rw [e10] at m
  have e1 : ∀ c : Int, c ≠ 0 → c ≠ 241 → V1 c = V c := fun c c0 c1 => by
    rcases q with ⟨_, e, _⟩ | ⟨_, _, e⟩
    · rw [e]; exact j_up_ne c0
    · rw [e, j_up_ne c0, j_up_ne c1]
  have e2 : (∀ c : Int, c ≠ 1000 → c ≠ 1017 → V2 c = V1 c) ∧ V2 1000 2 = V1 1000 2 := by
    rcases m with ⟨_, e, _⟩ | ⟨_, _, e⟩
    · rw [e]; unfold j_md; exact ⟨fun c c0 _ => j_up_ne c0, j_up_off (by decide)⟩
    · rw [e]; exact ⟨fun c c0 c1 => by rw [j_up_ne c0, j_up_ne c1], by rw [j_up_off (by decide), j_up_ne (by omega)]⟩
  refine j_Q_now Q hm n1 n2 (fun c c0 c1 => e1 c (by omega) (by omega)) (fun c c0 c1 => e2.1 c (by omega) (by omega)) e2.2 ?_ (j_QR_s Q n1 n2 (fun c c0 c1 => e1 c (by omega) (by omega)) (e2.1 _ (by omega) (by omega)) (e2.1 _ (by omega) (by omega))) (j_QD_s Q hm n1 n2 (fun c c0 c1 => e1 c (by omega) (by omega)) (by rw [e2.1 1001 (by omega) (by omega)]) (fun c c0 c1 => e2.1 c (by omega) (by omega))) (j_QK_s Q n1 n2 (by rw [e1 16 (by omega) (by omega)]; exact ⟨rfl, rfl⟩) (fun c c0 c1 => e1 c (by omega) (by omega)) (by rw [e2.1 1001 (by omega) (by omega)]; exact ⟨rfl, rfl⟩) (e2.1 _ (by omega) (by omega)))
  intro i i0 i1
  rw [n2.2.2 0 (by omega)] at i1
  rw [n2.2.2 241 (by omega)]
  rcases q with ⟨q1, e, _⟩ | ⟨q1, _, e⟩
  · rcases m with ⟨_, e', _⟩ | ⟨m1, _⟩
    · rw [e', e]
      unfold j_md
      rw [j_up_ne (by omega)]
      unfold j_fd
      rw [j_up_ne (by omega), j_up_ne (by omega)]
      rw [e] at i1
      unfold j_fd at i1
      rw [j_up_off (by decide)] at i1
      exact Q.1 i i0 i1
    · omega
  · rcases m with ⟨m1, _⟩ | ⟨_, _, e'⟩
    · omega
    · rw [e, j_up_at] at i1
      rw [e', j_up_ne (by omega), j_up_u, e17, ← R2, e, j_up_ne (by omega), j_up_u]
      by_cases c : i = V 0 6
      · rw [c, j_u_at, j_u_at]
      · rw [j_u_ne c, j_u_ne c]; exact Q.1 i i0 (by omega)
/-! THE WHOLE -/
theorem j_QW_c {V V' U U' : jH} {w b : Int} (n : U b 2 ≤ 10) (hv : ∀ c : Int, w ≤ c → c ≤ w + 129 → V' c = V c) (hu : ∀ c : Int, b ≤ c → c ≤ b + 7 → U' c = U c) (h : j_QW V U w b) : j_QW V' U' w b :=
  ⟨j_QR_c (fun c c0 c1 => hv c (by omega) (by omega)) (hu _ (by omega) (by omega)) (hu _ (by omega) (by omega)) h.1, j_QD_c n (fun c c0 c1 => hv c (by omega) (by omega)) (by rw [hu b (by omega) (by omega)]) (hu _ (by omega) (by omega)) (hu _ (by omega) (by omega)) (hu _ (by omega) (by omega)) h.2.1, j_QK_c (by rw [hv _ (by omega) (by omega)]) (by rw [hv _ (by omega) (by omega)]) (fun c c0 c1 => hv c (by omega) (by omega)) (by rw [hu b (by omega) (by omega)]) (by rw [hu b (by omega) (by omega)]) (hu _ (by omega) (by omega)) h.2.2⟩
theorem j_QW_copy {S S' : jS} {V U V' U' : jH} {w b w' b' : Int} (n : U b 2 ≤ 10) (hV : V w 2 = U b 2) (hR : j_mR U b) (mB : j_mB U b) (hk : ∀ t : Int, 0 ≤ t → t < U b 2 → U (b + 3) t ≤ 4) (h : j_QW V U w b) (hw : j_wBe S V w' w S' V') (hB : j_bookEq U U' b' b) : j_QW V' U' w' b' := by
  obtain ⟨c1, c2, ct, c4, -⟩ := hw
  obtain ⟨b1, b2, b3, b4, b5, b6⟩ := hB
  obtain ⟨x1, x2, x3⟩ := h
  refine ⟨fun p p0 p1 => ?_, fun t t0 t1 => ?_, ?_⟩
  · obtain ⟨r1, r2⟩ := c1 p p0 p1
    obtain ⟨y1, y2⟩ := x1 p p0 p1
    have rp := hR p p0 p1
    refine ⟨by rw [r1, y1, b2 p p0 p1], fun i i0 i1 => ?_⟩
    rw [b2 p p0 p1] at i1
    have r := r2 i i0 (by rw [y1]; exact i1)
    rw [show w' + 2 + 2 * p + 1 = w' + 3 + 2 * p by omega, show w + 2 + 2 * p + 1 = w + 3 + 2 * p by omega] at r
    rw [r, y2 i i0 i1, b3 _ (by omega) (by omega)]
  · rw [b1 2 (by omega)] at t1
    obtain ⟨g3, g4, g5⟩ := b4 t t0 (by omega)
    rw [g3, g5]
    intro hk2
    obtain ⟨y1, y2⟩ := x2 t t0 t1 hk2
    obtain ⟨-, -, z3⟩ := ct t t0 (by rw [hV]; exact t1)
    have pp := j_parts_bd (U (b + 3) t)
    refine ⟨fun p j p0 p1 j0 j1 => ?_, fun z => ?_⟩
    · rw [z3 p j p0 (by omega) j0 j1, y1 p j p0 p1 j0 j1]
      exact j_pre_congr (fun k k0 k1 => by show U (b + 6) (1024 * t + 256 * p + k) = U' (b' + 6) (1024 * t + 256 * p + k); exact (b5 _ (by omega) (by omega)).symm)
    · have z0 := z3 0 256 (by omega) (by omega) (by omega) (by omega)
      rw [show j_slotT w' t + 3 + 2 * 0 = j_slotT w' t + 3 by omega, show j_slotT w t + 3 + 2 * 0 = j_slotT w t + 3 by omega] at z0
      rw [z0]; exact y2 z
  · obtain ⟨d1, d2, -, d3, d4, d5⟩ := c4
    obtain ⟨y1, y2, y3, y4⟩ := x3
    have e7 := b1 7 (by omega)
    have e9 := b1 9 (by omega)
    unfold j_QK
    rw [e7, e9]
    refine ⟨by rw [d1, y1], fun i i0 i1 => ?_, by rw [d2, y3], fun z => ?_⟩
    · have d := d3 i i0 (by rw [y1]; exact i1)
      rw [show w' + 15 + 1 = w' + 16 by omega, show w + 15 + 1 = w + 16 by omega] at d
      have len := mB.1.2.1
      rw [d, y2 i i0 i1, b6 i i0 (by omega)]
    · have len := mB.1.2.1
      rw [show w' + 15 + 2 = w' + 17 by omega, show w + 15 + 2 = w + 17 by omega] at d4 d5
      exact j_stp_c mB.1.1 mB.1.2.2 (mB.2.2.1 z) (fun i i0 i1 => b6 i i0 (by omega)) d4 d5 (y4 z)
theorem j_Q_keep {S S1 S3 : jS} {V V1 V2 V3 : jH} (hm : j_mI S V 1000) (R : j_R S V) (Q : j_Q V) (n1 : j_cN S V 0 S1 V1) (hm1 : j_mI S1 V1 1000) (h6 : V1 0 6 = V 0 6) (w1 : j_wBe S3 V3 300 1 S1 V1) (w6 : ∀ c : Int, (c < 300 ∨ 429 < c) → V3 c = V c) (n2 : j_mN S1 V1 1000 V2) (m4 : j_bookEq V1 V2 (1000 + 9) (1000 + 1)) (m5 : ∀ c : Int, c ≠ 1000 → (c < 1000 + 9 ∨ 1000 + 16 < c) → V2 c = V1 c) : j_Q V2 := by
  have n := j_mI_n hm
  have nn := j_mI_n hm1
  have fr := w1.2.2.2.2.2.2.2.2.2.2
  have f1 : ∀ c : Int, (c < 300 ∨ 429 < c) → V1 c = V c := fun c hc => by rw [(fr c (by omega)).2.2, w6 c hc]
  have f2 : ∀ c : Int, c < 1000 → V2 c = V1 c := fun c hc => n2.2.2 c (by omega)
  have hV : j_QW V3 V1 1 1001 := j_QW_c n.1 (fun c c0 c1 => w6 c (by omega)) (fun c c0 c1 => f1 c (by omega)) Q.2.1
  have b1 : j_BI V1 1001 := hm1.2.2.2.1
  have cp : j_QW V1 V2 300 1009 := j_QW_copy nn.1 (by rw [w6 1 (by omega), f1 1001 (by omega)]; exact R.2.1.1) b1.1 b1.2.2 (fun t t0 t1 => (b1.2.1.2.2.2 t t0 t1).2.1) hV w1 m4
  refine ⟨j_QN_s Q n1 n2 h6 (f1 241 (by omega)) (m5 1017 (by omega) (by omega)), j_QW_c n.1 (fun c c0 c1 => by rw [f2 c (by omega), f1 c (by omega)]) (fun c c0 c1 => by rw [m5 c (by omega) (by omega), f1 c (by omega)]) Q.2.1, fun _ => ?_⟩
  exact j_QW_c (j_mI_n n2.1).2.1 (fun c c0 c1 => f2 c (by omega)) (fun c c0 c1 => rfl) cp
theorem j_Q_back {S S1 : jS} {V V1 V2 : jH} {r r2 : Int} (hm : j_mI S V 1000) (R : j_R S V) (Q : j_Q V) (n1 : j_cN S V 0 S1 V1) (hm1 : j_mI S1 V1 1000) (h6 : V1 0 6 = V 0 6) (q : (S.2 0 1 = -1 ∧ V1 = j_fd V 0 ∧ r = -6) ∨ (S.2 0 1 ≠ -1 ∧ r = 1 ∧ j_wBe S V 1 300 S1 V1)) (n2 : j_mN S1 V1 1000 V2) (m : (V1 1000 2 = 0 ∧ V2 = j_md V1 1000 ∧ r2 = -6) ∨ (V1 1000 2 ≠ 0 ∧ r2 = 1 ∧ j_bookEq V1 V2 (1000 + 1) (1000 + 9) ∧ ∀ c : Int, (c < 1000 + 1 ∨ 1000 + 8 < c) → V2 c = V1 c)) : j_Q V2 := by
  have n := j_mI_n hm
  have nn := j_mI_n hm1
  have e1 : ∀ c : Int, 500 < c → V1 c = V c := fun c hc => (n1.2.2 c (by omega)).2.2
  have f2 : ∀ c : Int, c < 1000 → V2 c = V1 c := fun c hc => n2.2.2 c (by omega)
  have e10 := e1 1000 (by omega)
  rcases q with ⟨q1, q2, q3⟩ | ⟨q1, q2, q3⟩
  · have z : V 1000 2 = 0 := R.1.1.mp q1
    rcases m with ⟨m1, m2, m3⟩ | ⟨m1, _⟩
    · exact j_Q_fd hm Q n1 q2 n2 m2
    · rw [e10] at m1; exact absurd z m1
  · have z : V 1000 2 ≠ 0 := fun z => q1 (R.1.1.mpr z)
    rcases m with ⟨m1, _⟩ | ⟨m1, m2, m3, m4⟩
    · rw [e10] at m1; exact absurd m1 z
    · have fr := q3.2.2.2.2.2.2.2.2.2.2
      have g1 : ∀ c : Int, (c < 1 ∨ 130 < c) → V1 c = V c := fun c hc => (fr c (by omega)).2.2
      have kp : j_QW V V1 300 1009 := j_QW_c n.2.1 (fun _ _ _ => rfl) (fun c c0 c1 => e1 c (by omega)) (Q.2.2 z)
      have b1 : j_BI V1 1009 := hm1.2.2.2.2.1
      have cp : j_QW V1 V2 1 1001 := j_QW_copy nn.2.1 (by rw [e1 1009 (by omega)]; exact (R.2.2 z).1) b1.1 b1.2.2 (fun t t0 t1 => (b1.2.1.2.2.2 t t0 t1).2.1) kp q3 m3
      refine ⟨j_QN_s Q n1 n2 h6 (g1 241 (by omega)) (m4 1017 (by omega)), j_QW_c (j_mI_n n2.1).1 (fun c c0 c1 => f2 c (by omega)) (fun _ _ _ => rfl) cp, fun _ => ?_⟩
      exact j_QW_c nn.2.1 (fun c c0 c1 => by rw [f2 c (by omega), g1 c (by omega)]) (fun c c0 c1 => m4 c (by omega)) kp
