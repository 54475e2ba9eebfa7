/-! CLASS AND REFERENCE SIDE BY SIDE: table, share, learn -/
theorem j_RT_fd {S S1 : jS} {V V2 : jH} (hm : j_mI S V 1000) (R : j_R S V) (R0 : j_R0 S1 V2) (e : V2 = j_md (j_fd V 0) 1000) : j_R S1 V2 := by
  have g : ∀ c : Int, c ≠ 0 → c ≠ 1000 → V2 c = V c := fun c c0 c1 => by rw [e]; unfold j_md j_fd; rw [j_up_ne c1, j_up_ne c0]
  refine j_R_raw hm R R0 (by rw [g 1 (by omega) (by omega)]) (fun c hc => g c (by omega) (by omega)) (by rw [g 1001 (by omega) (by omega)]) (fun c hc => g c (by omega) (by omega)) ?_
  rw [e]; unfold j_md j_fd; rw [j_up_off (by decide), j_up_ne (by omega)]
theorem j_R_table {S S1 : jS} {V V1 V2 : jH} {k r x x2 : Int} (hc : j_cI S V 0) (hm : j_mI S V 1000) (R : j_R S V) (n1 : j_cN S V 0 S1 V1) (q : j_q6 0 k r S V x S1 V1) (n2 : j_mN S1 V1 1000 V2) (m : j_r6 1000 k r V1 x2 V2) : x = x2 ∧ j_R S1 V2 := by
  have n := j_mI_n hm
  have r0 := j_R0_step R.1 n1 (j_k1_q6 hc q) (j_h6_q6 hc q) n2 (j_m24_r6 m)
  have e1 : ∀ c : Int, 500 < c → V1 c = V c := fun c hc => (n1.2.2 c (by omega)).2.2
  have f2 : ∀ c : Int, c < 1000 → V2 c = V1 c := fun c hc => n2.2.2 c (by omega)
  have ec : V1 1001 2 = V 1 2 := by rw [e1 1001 (by omega)]; exact R.2.1.1.symm
  have ec' : V1 (1000 + 1) 2 = V 1 2 := ec
  rcases q with ⟨q1, _, q2, q3⟩ | ⟨q0, q1, q2, q3, q4, _, q5, q6⟩ | ⟨k0, k1, r0', r1, c10, ex, -, v1, v2, v3, v4, v5, v6⟩
  · rcases m with ⟨m1, m2, m3⟩ | ⟨m0, m1, m2, m3, _⟩ | ⟨m0, m1, m2, m3, _⟩
    · exact ⟨by rw [q3, m3], j_RT_fd hm R r0 (by rw [m2, q2])⟩
    · exact absurd ⟨m0, m1, m2, m3⟩ q1
    · exact absurd ⟨m0, m1, m2, m3⟩ q1
  · have q4 : V 1 2 = 10 := q4
    rcases m with ⟨m1, m2, m3⟩ | ⟨m0, m1, m2, m3, m4, m5, m6⟩ | ⟨m0, m1, m2, m3, m4, _⟩
    · exact absurd ⟨q0, q1, q2, q3⟩ m1
    · exact ⟨by rw [q6, m6], j_RT_fd hm R r0 (by rw [m5, q5])⟩
    · rw [ec'] at m4; omega
  · have c10 : V 1 2 < 10 := c10
    have ex : x = V 1 2 := ex
    rcases m with ⟨m1, m2, m3⟩ | ⟨m0, m1, m2, m3, m4, _⟩ | ⟨m0, m1, m2, m3, m4, ex2, u1, u4, u5, u6, u7, u8, u9⟩
    · exact absurd ⟨k0, k1, r0', r1⟩ m1
    · rw [ec'] at m4; omega
    · rw [ec'] at ex2
      have xx : x = x2 := by rw [ex, ex2]
      refine ⟨xx, r0, ?_, ?_⟩
      · have v1 : V1 1 2 = x + 1 := v1
        have v3 : V1 (j_slotT 1 x) 1 = k := v3
        have v4 : V1 (j_slotT 1 x) 2 = r := v4
        have v5 : ∀ p j : Int, 0 ≤ p → p < 4 → 0 ≤ j → j ≤ 256 → V1 (j_slotT 1 x + 3 + 2 * p) j = j_start k r j := v5
        have v6 : ∀ c : Int, c ≠ 1 → (c < j_slotT 1 x ∨ j_slotT 1 x + 9 < c) → V1 c = V c := v6
        have u1 : V2 1001 = j_u (V1 1001) 2 (x2 + 1) := u1
        have u4 : V2 1004 = j_u (V1 1004) x2 k := u4
        have u5 : V2 1005 = j_u (V1 1005) x2 r := u5
        have u7 : ∀ i : Int, (i < 1024 * x2 ∨ 1024 * x2 + 1024 ≤ i) → V2 1007 i = V1 1007 i := u7
        have u8 : ∀ i : Int, 0 ≤ i → i < 1024 → V2 1007 (1024 * x2 + i) = if k = 1 ∨ k = 4 then j_M r / 256 else 0 := u8
        have x0 : 0 ≤ x := by rw [ex, R.2.1.1]; exact n.2.2.1
        have sx : 31 ≤ j_slotT 1 x ∧ j_slotT 1 x + 9 ≤ 130 := by unfold j_slotT; omega
        refine ⟨by rw [f2 1 (by omega), v1, u1, j_u_at, xx], fun t t0 t1 => ?_⟩
        rw [u1, j_u_at, ← xx] at t1
        have st : 31 ≤ j_slotT 1 t ∧ j_slotT 1 t + 9 ≤ 130 := by unfold j_slotT; omega
        show V2 (j_slotT 1 t) 1 = V2 1004 t ∧ V2 (j_slotT 1 t) 2 = V2 1005 t ∧ (V2 1004 t = 0 → ∀ j : Int, 0 ≤ j → j ≤ 256 → V2 (j_slotT 1 t + 3) j = j_pre (j_rs (V2 1007) (1024 * t)) j)
        rw [f2 _ (by omega), f2 (j_slotT 1 t + 3) (by omega), u4, u5, ← xx]
        by_cases e : t = x
        · rw [e, j_u_at, j_u_at]
          refine ⟨v3, v4, fun z j j0 j1 => ?_⟩
          have := v5 0 j (by omega) (by omega) j0 j1
          rw [show j_slotT 1 x + 3 + 2 * 0 = j_slotT 1 x + 3 by omega] at this
          rw [this, j_sum_0 (fun i i0 i1 => by
            show V2 1007 (1024 * x + i) = 0
            rw [xx, u8 i i0 (by omega), if_neg (by omega)])]
          unfold j_start
          rw [if_neg (by omega)]
        · have sep : j_slotT 1 t + 9 < j_slotT 1 x ∨ j_slotT 1 x + 9 < j_slotT 1 t := by unfold j_slotT; omega
          rw [j_u_ne e, j_u_ne e, v6 _ (by omega) (by omega), v6 (j_slotT 1 t + 3) (by omega) (by omega), e1 1004 (by omega), e1 1005 (by omega)]
          obtain ⟨y1, y2, y3⟩ := R.2.1.2 t t0 (by rw [← R.2.1.1]; omega)
          refine ⟨y1, y2, fun z j j0 j1 => ?_⟩
          rw [y3 z j j0 j1]
          exact j_pre_congr (fun i i0 i1 => by show V 1007 (1024 * t + i) = V2 1007 (1024 * t + i); rw [u7 _ (by omega), e1 1007 (by omega)])
      · intro z
        have z2 := (j_m24_r6 (Or.inr (Or.inr ⟨m0, m1, m2, m3, m4, by rw [ec']; exact ex2, u1, u4, u5, u6, u7, u8, u9⟩) : j_r6 1000 k r V1 x2 V2)).1
        rw [z2, e1 1000 (by omega)] at z
        have x0 : 0 ≤ x := by rw [ex, R.2.1.1]; exact n.2.2.1
        have sx : j_slotT 1 x + 9 ≤ 130 := by unfold j_slotT; omega
        have v6 : ∀ c : Int, c ≠ 1 → (c < j_slotT 1 x ∨ j_slotT 1 x + 9 < c) → V1 c = V c := v6
        have w : ∀ c : Int, 300 ≤ c → c ≤ 429 → V2 c = V c := fun c c0 c1 => by rw [f2 c (by omega), v6 c (by omega) (by omega)]
        have u : ∀ c : Int, 1009 ≤ c → c ≤ 1016 → V2 c = V c := fun c c0 c1 => by rw [u9 c (by omega) (by omega) (by omega) (by omega) (by omega), e1 c (by omega)]
        exact j_RT_c n.2.1 (by rw [w 300 (by omega) (by omega)]) (fun c c0 c1 => w c (by omega) (by omega)) (by rw [u 1009 (by omega) (by omega)]) (u _ (by omega) (by omega)) (u _ (by omega) (by omega)) (u _ (by omega) (by omega)) (R.2.2 z)
theorem j_R_share {S S1 : jS} {V V1 V2 : jH} {tb s f r r2 : Int} (hc : j_cI S V 0) (hm : j_mI S V 1000) (R : j_R S V) (n1 : j_cN S V 0 S1 V1) (k1 : S1.2 0 1 = S.2 0 1) (q : j_q7 0 tb s f V r V1) (n2 : j_mN S1 V1 1000 V2) (m : j_r7 1000 tb s f V1 r2 V2) : r = r2 ∧ j_R S1 V2 := by
  have n := j_mI_n hm
  have r0 := j_R0_step R.1 n1 k1 (j_R0_cw (j_cw_q7 hc q)) n2 (j_mw_r7 m).1
  have e1 : ∀ c : Int, 500 < c → V1 c = V c := fun c hc => (n1.2.2 c (by omega)).2.2
  have f2 : ∀ c : Int, c < 1000 → V2 c = V1 c := fun c hc => n2.2.2 c (by omega)
  have ec : V 1001 2 = V 1 2 := R.2.1.1.symm
  have m : (¬ (0 ≤ tb ∧ tb < V1 1001 2) ∧ V2 = j_md V1 1000 ∧ r2 = -1) ∨
    (0 ≤ tb ∧ tb < V1 1001 2 ∧ ((V1 1004 tb ≠ 0 ∧ V2 = j_md V1 1000 ∧ r2 = -3) ∨ (V1 1004 tb = 0 ∧ (
      (¬ (0 ≤ s ∧ s < 256 ∧ 0 ≤ f ∧ f ≤ j_M (V1 1005 tb)) ∧ V2 = j_md V1 1000 ∧ r2 = -1) ∨
      (0 ≤ s ∧ s < 256 ∧ 0 ≤ f ∧ f ≤ j_M (V1 1005 tb) ∧ (
        (j_M (V1 1005 tb) < j_pre (j_rs (V1 1007) (1024 * tb)) 256 - V1 1007 (1024 * tb + s) + f ∧ V2 = j_md V1 1000 ∧ r2 = -2) ∨
        (j_pre (j_rs (V1 1007) (1024 * tb)) 256 - V1 1007 (1024 * tb + s) + f ≤ j_M (V1 1005 tb) ∧ r2 = j_pre (j_rs (V1 1007) (1024 * tb)) 256 - V1 1007 (1024 * tb + s) + f ∧ V2 = j_up V1 1007 (1024 * tb + s) f))))))) := m
  rw [e1 1001 (by omega), e1 1004 (by omega), e1 1005 (by omega), e1 1007 (by omega), ec] at m
  have q : (¬ (0 ≤ tb ∧ tb < V 1 2) ∧ V1 = j_fd V 0 ∧ r = -1) ∨
    (0 ≤ tb ∧ tb < V 1 2 ∧ ((V (j_slotT 1 tb) 1 ≠ 0 ∧ V1 = j_fd V 0 ∧ r = -3) ∨ (V (j_slotT 1 tb) 1 = 0 ∧ (
      (¬ (0 ≤ s ∧ s < 256 ∧ 0 ≤ f ∧ f ≤ j_M (V (j_slotT 1 tb) 2)) ∧ V1 = j_fd V 0 ∧ r = -1) ∨
      (0 ≤ s ∧ s < 256 ∧ 0 ≤ f ∧ f ≤ j_M (V (j_slotT 1 tb) 2) ∧ (
        (j_M (V (j_slotT 1 tb) 2) < V (j_slotT 1 tb + 3) 256 - j_sh (V (j_slotT 1 tb + 3)) s + f ∧ V1 = j_fd V 0 ∧ r = -2) ∨
        (V (j_slotT 1 tb + 3) 256 - j_sh (V (j_slotT 1 tb + 3)) s + f ≤ j_M (V (j_slotT 1 tb) 2) ∧ r = V (j_slotT 1 tb + 3) 256 - j_sh (V (j_slotT 1 tb + 3)) s + f ∧ V1 = j_raise V (j_slotT 1 tb + 3) s 256 (f - j_sh (V (j_slotT 1 tb + 3)) s)))))))) := q
  have bad : ∀ {y : Int}, V1 = j_fd V 0 → V2 = j_md V1 1000 → r = y → r2 = y → r = r2 ∧ j_R S1 V2 := fun z1 z2 z3 z4 => ⟨by rw [z3, z4], j_RT_fd hm R r0 (by rw [z2, z1])⟩
  by_cases ht : 0 ≤ tb ∧ tb < V 1 2
  · obtain ⟨y1, y2, y3⟩ := R.2.1.2 tb ht.1 (by rw [← R.2.1.1]; exact ht.2)
    have y1 : V (j_slotT 1 tb) 1 = V 1004 tb := y1
    have y2 : V (j_slotT 1 tb) 2 = V 1005 tb := y2
    have y3 : V 1004 tb = 0 → ∀ j : Int, 0 ≤ j → j ≤ 256 → V (j_slotT 1 tb + 3) j = j_pre (j_rs (V 1007) (1024 * tb)) j := y3
    rcases q with ⟨q1, _⟩ | ⟨_, _, q⟩
    · exact absurd ht q1
    rcases m with ⟨m1, _⟩ | ⟨_, _, m⟩
    · exact absurd ht m1
    rw [y1, y2] at q
    by_cases k0 : V 1004 tb = 0
    · rcases q with ⟨q1, _⟩ | ⟨_, q⟩
      · exact absurd k0 q1
      rcases m with ⟨m1, _⟩ | ⟨_, m⟩
      · exact absurd k0 m1
      have y3 := y3 k0
      by_cases ok : 0 ≤ s ∧ s < 256 ∧ 0 ≤ f ∧ f ≤ j_M (V 1005 tb)
      · obtain ⟨s0, s1, f0, f1⟩ := ok
        have esh : j_sh (V (j_slotT 1 tb + 3)) s = V 1007 (1024 * tb + s) := by
          show V (j_slotT 1 tb + 3) (s + 1) - V (j_slotT 1 tb + 3) s = _
          rw [y3 _ (by omega) (by omega), y3 _ (by omega) (by omega)]
          exact j_sh_pre (j_rs (V 1007) (1024 * tb)) s0
        rw [esh, y3 256 (by omega) (by omega)] at q
        rcases q with ⟨q1, _⟩ | ⟨_, _, _, _, q⟩
        · exact absurd ⟨s0, s1, f0, f1⟩ q1
        rcases m with ⟨m1, _⟩ | ⟨_, _, _, _, m⟩
        · exact absurd ⟨s0, s1, f0, f1⟩ m1
        rcases q with ⟨q1, q2, q3⟩ | ⟨q1, q2, q3⟩
        · rcases m with ⟨m1, m2, m3⟩ | ⟨m1, _⟩
          · exact bad q2 m2 q3 m3
          · omega
        · rcases m with ⟨m1, _⟩ | ⟨m1, m2, m3⟩
          · omega
          · refine ⟨by rw [q2, m2], r0, ?_, ?_⟩
            · have g1 : ∀ c : Int, c ≠ j_slotT 1 tb + 3 → V1 c = V c := fun c hc => by rw [q3]; exact j_row_ne hc
              have g2 : ∀ c : Int, c ≠ 1007 → V2 c = V1 c := fun c hc => by rw [m3]; exact j_up_ne hc
              have sx : 31 ≤ j_slotT 1 tb ∧ j_slotT 1 tb + 9 ≤ 130 := by unfold j_slotT; omega
              refine ⟨by rw [g2 1 (by omega), g1 1 (by omega), g2 1001 (by omega), e1 1001 (by omega)]; exact R.2.1.1, fun t t0 t1 => ?_⟩
              rw [g2 1001 (by omega), e1 1001 (by omega)] at t1
              have st : 31 ≤ j_slotT 1 t ∧ j_slotT 1 t + 9 ≤ 130 := by unfold j_slotT; omega
              obtain ⟨w1, w2, w3⟩ := R.2.1.2 t t0 t1
              have ne3 : j_slotT 1 t ≠ j_slotT 1 tb + 3 := by unfold j_slotT; omega
              show V2 (j_slotT 1 t) 1 = V2 1004 t ∧ V2 (j_slotT 1 t) 2 = V2 1005 t ∧ (V2 1004 t = 0 → ∀ j : Int, 0 ≤ j → j ≤ 256 → V2 (j_slotT 1 t + 3) j = j_pre (j_rs (V2 1007) (1024 * t)) j)
              rw [g2 (j_slotT 1 t) (by omega), g2 (j_slotT 1 t + 3) (by omega), g2 1004 (by omega), g2 1005 (by omega), g1 (j_slotT 1 t) ne3, e1 1004 (by omega), e1 1005 (by omega)]
              refine ⟨w1, w2, fun z j j0 j1 => ?_⟩
              by_cases e : t = tb
              · have ej : j_pre (j_rs (V2 1007) (1024 * tb)) j = j_pre (j_u (j_rs (V 1007) (1024 * tb)) s f) ((j.toNat : Nat) : Int) := by
                  rw [show ((j.toNat : Nat) : Int) = j by omega]
                  exact j_pre_congr (fun i i0 i1 => by
                    show V2 1007 (1024 * tb + i) = j_u (j_rs (V 1007) (1024 * tb)) s f i
                    rw [m3]
                    by_cases d : i = s
                    · rw [d, j_up_at, j_u_at]
                    · rw [j_up_off (by omega), j_u_ne d, e1 1007 (by omega)]; rfl)
                rw [e, ej, j_pre_u _ s0, show ((j.toNat : Nat) : Int) = j by omega, q3]
                show j_row V (j_slotT 1 tb + 3) _ (j_slotT 1 tb + 3) j = _
                rw [j_row_at]
                show (if s < j ∧ j ≤ 256 then V (j_slotT 1 tb + 3) j + (f - V 1007 (1024 * tb + s)) else V (j_slotT 1 tb + 3) j) = j_pre (j_rs (V 1007) (1024 * tb)) j + (if s < j then f - V 1007 (1024 * tb + s) else 0)
                rw [y3 j j0 j1]
                by_cases d : s < j
                · rw [if_pos ⟨d, j1⟩, if_pos d]
                · rw [if_neg (fun z => d z.1), if_neg d]; omega
              · have ne4 : j_slotT 1 t + 3 ≠ j_slotT 1 tb + 3 := by unfold j_slotT; omega
                rw [g1 _ ne4]
                have w3' : V 1004 t = 0 → ∀ j : Int, 0 ≤ j → j ≤ 256 → V (j_slotT 1 t + 3) j = j_pre (j_rs (V 1007) (1024 * t)) j := w3
                rw [w3' z j j0 j1]
                exact j_pre_congr (fun i i0 i1 => by show V 1007 (1024 * t + i) = V2 1007 (1024 * t + i); rw [m3, j_up_off (by omega), e1 1007 (by omega)])
            · intro z
              have sx : j_slotT 1 tb + 9 ≤ 130 := by unfold j_slotT; omega
              have g1 : ∀ c : Int, c ≠ j_slotT 1 tb + 3 → V1 c = V c := fun c hc => by rw [q3]; exact j_row_ne hc
              have g2 : ∀ c : Int, c ≠ 1007 → V2 c = V1 c := fun c hc => by rw [m3]; exact j_up_ne hc
              rw [g2 1000 (by omega), e1 1000 (by omega)] at z
              exact j_RT_c n.2.1 (by rw [g2 300 (by omega), g1 300 (by omega)]) (fun c c0 c1 => by rw [g2 c (by omega), g1 c (by omega)]) (by rw [g2 1009 (by omega), e1 1009 (by omega)]) (by rw [g2 _ (by omega), e1 _ (by omega)]) (by rw [g2 _ (by omega), e1 _ (by omega)]) (by rw [g2 _ (by omega), e1 _ (by omega)]) (R.2.2 z)
      · rcases q with ⟨_, q2, q3⟩ | ⟨z0, z1, z2, z3, _⟩
        · rcases m with ⟨_, m2, m3⟩ | ⟨z0, z1, z2, z3, _⟩
          · exact bad q2 m2 q3 m3
          · exact absurd ⟨z0, z1, z2, z3⟩ ok
        · exact absurd ⟨z0, z1, z2, z3⟩ ok
    · rcases q with ⟨_, q2, q3⟩ | ⟨q1, _⟩
      · rcases m with ⟨_, m2, m3⟩ | ⟨m1, _⟩
        · exact bad q2 m2 q3 m3
        · exact absurd m1 k0
      · exact absurd q1 k0
  · rcases q with ⟨_, q2, q3⟩ | ⟨z0, z1, _⟩
    · rcases m with ⟨_, m2, m3⟩ | ⟨z0, z1, _⟩
      · exact bad q2 m2 q3 m3
      · exact absurd ⟨z0, z1⟩ ht
    · exact absurd ⟨z0, z1⟩ ht
theorem j_R_learn {S S1 : jS} {V V1 V2 : jH} {tb p r r2 : Int} (hc : j_cI S V 0) (hm : j_mI S V 1000) (R : j_R S V) (n1 : j_cN S V 0 S1 V1) (k1 : S1.2 0 1 = S.2 0 1) (q : j_q8 0 tb p V r V1) (n2 : j_mN S1 V1 1000 V2) (m : j_r8 1000 tb p V1 r2 V2) : j_R S1 V2 := by
  have n := j_mI_n hm
  have cw := j_cw_q8 hc q
  have mw := j_mw_r8 m
  have r0 := j_R0_step R.1 n1 k1 (j_R0_cw cw) n2 mw.1
  have e1 : ∀ c : Int, 500 < c → V1 c = V c := fun c hc => (n1.2.2 c (by omega)).2.2
  have f2 : ∀ c : Int, c < 1000 → V2 c = V1 c := fun c hc => n2.2.2 c (by omega)
  have cc : V1 1 2 = V 1 2 := cw.1
  have mc : V2 1001 2 = V1 1001 2 := mw.2.1
  have u : ∀ c : Int, (1004 ≤ c ∧ c ≤ 1005 ∨ 1009 ≤ c ∧ c ≤ 1016) → V2 c = V c := fun c hc => by rw [mw.2.2 c (by omega) (by omega) (by omega) (by omega), e1 c (by omega)]
  have w : ∀ c : Int, 300 ≤ c → c ≤ 429 → V2 c = V c := fun c c0 c1 => by rw [f2 c (by omega)]; exact cw.2.1 c (by omega) (by omega) (by omega) (by omega)
  -- a table of kind 0 stays as it is
  have kc : ∀ t : Int, 0 ≤ t → t < 10 → V1 (j_slotT 1 t) = V (j_slotT 1 t) ∧ (V (j_slotT 1 t) 1 = 0 → V1 (j_slotT 1 t + 3) = V (j_slotT 1 t + 3)) := fun t t0 t1 => by
    have st : 31 ≤ j_slotT 1 t ∧ j_slotT 1 t + 9 ≤ 130 := by unfold j_slotT; omega
    have bad : V1 = j_fd V 0 → V1 (j_slotT 1 t) = V (j_slotT 1 t) ∧ (V (j_slotT 1 t) 1 = 0 → V1 (j_slotT 1 t + 3) = V (j_slotT 1 t + 3)) := fun e => by rw [e]; exact ⟨j_up_ne (by omega), fun _ => j_up_ne (by omega)⟩
    rcases q with ⟨_, e, _⟩ | ⟨tb0, tb1, _, _, ⟨_, e, _⟩ | ⟨hk, ⟨_, e, _⟩ | ⟨_, _, _, f, _⟩⟩⟩
    · exact bad e
    · exact bad e
    · exact bad e
    · have hk : V (j_slotT 1 tb) 1 = 2 ∨ V (j_slotT 1 tb) 1 = 3 := hk
      have pp := j_parts_bd (V (j_slotT 1 tb) 1)
      have f : ∀ b : Int, b ≠ 230 → b ≠ 230 + 1 → b ≠ 230 + 2 → (∀ p : Int, 0 ≤ p → p < j_parts (V (j_slotT 1 tb) 1) → b ≠ j_slotT 1 tb + 3 + 2 * p) → V1 b = V b := f
      refine ⟨f _ (by omega) (by omega) (by omega) (fun p p0 p1 => by unfold j_slotT; omega), fun z => ?_⟩
      have ne : t ≠ tb := fun e => by rw [e] at z; omega
      exact f _ (by omega) (by omega) (by omega) (fun p p0 p1 => by unfold j_slotT; omega)
  have km : ∀ t : Int, 0 ≤ t → t < 10 → V 1004 t = 0 → ∀ i : Int, 0 ≤ i → i < 1024 → V2 1007 (1024 * t + i) = V 1007 (1024 * t + i) := fun t t0 t1 z i i0 i1 => by
    rcases m with ⟨_, e, _⟩ | ⟨tb0, tb1, _, _, ⟨_, e, _⟩ | ⟨hk, ⟨_, e, _⟩ | ⟨_, _, V3, ⟨_, d2, _⟩, e⟩⟩⟩
    · rw [e]; unfold j_md; rw [j_up_ne (by omega), e1 1007 (by omega)]
    · rw [e]; unfold j_md; rw [j_up_ne (by omega), e1 1007 (by omega)]
    · rw [e]; unfold j_md; rw [j_up_ne (by omega), e1 1007 (by omega)]
    · have hk : V1 1004 tb = 2 ∨ V1 1004 tb = 3 := hk
      rw [e1 1004 (by omega)] at hk
      have ne : t ≠ tb := fun e => by rw [e] at z; omega
      have d2 : ∀ i : Int, (i < 1024 * tb ∨ 1024 * tb + 256 * j_parts (V1 (1000 + 4) tb) ≤ i) → V3 1007 i = V1 1007 i := d2
      have pp := j_parts_bd (V1 (1000 + 4) tb)
      rw [e, j_up_ne (by omega), d2 _ (by omega), e1 1007 (by omega)]
  refine ⟨r0, ⟨by rw [f2 1 (by omega), cc, mc, e1 1001 (by omega)]; exact R.2.1.1, fun t t0 t1 => ?_⟩, fun z => ?_⟩
  · rw [mc, e1 1001 (by omega)] at t1
    have t10 : t < 10 := by have := n.1; omega
    obtain ⟨w1, w2, w3⟩ := R.2.1.2 t t0 t1
    have st : 31 ≤ j_slotT 1 t ∧ j_slotT 1 t + 9 ≤ 130 := by unfold j_slotT; omega
    obtain ⟨c1, c2⟩ := kc t t0 t10
    have w1 : V (j_slotT 1 t) 1 = V 1004 t := w1
    have w3 : V 1004 t = 0 → ∀ j : Int, 0 ≤ j → j ≤ 256 → V (j_slotT 1 t + 3) j = j_pre (j_rs (V 1007) (1024 * t)) j := w3
    show V2 (j_slotT 1 t) 1 = V2 1004 t ∧ V2 (j_slotT 1 t) 2 = V2 1005 t ∧ (V2 1004 t = 0 → ∀ j : Int, 0 ≤ j → j ≤ 256 → V2 (j_slotT 1 t + 3) j = j_pre (j_rs (V2 1007) (1024 * t)) j)
    rw [f2 (j_slotT 1 t) (by omega), f2 (j_slotT 1 t + 3) (by omega), c1, u 1004 (by omega), u 1005 (by omega)]
    refine ⟨w1, w2, fun z j j0 j1 => ?_⟩
    rw [c2 (by rw [w1]; exact z), w3 z j j0 j1]
    exact j_pre_congr (fun i i0 i1 => by show V 1007 (1024 * t + i) = V2 1007 (1024 * t + i); exact (km t t0 t10 z i i0 (by omega)).symm)
  · rw [mw.1.1, e1 1000 (by omega)] at z
    exact j_RT_c n.2.1 (by rw [w 300 (by omega) (by omega)]) (fun c c0 c1 => w c (by omega) (by omega)) (by rw [u 1009 (by omega)]) (u _ (by omega)) (u _ (by omega)) (u _ (by omega)) (R.2.2 z)
