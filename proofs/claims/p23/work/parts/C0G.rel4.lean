/-! TABLES -/
theorem j_Q_table {S S1 : jS} {V V1 V2 : jH} {k r x x2 : Int} (hc : j_cI S V 0) (hm : j_mI S V 1000) (R : j_R S V) (Q : j_Q V) (n1 : j_cN S V 0 S1 V1) (q : j_q6 0 k r S V x S1 V1) (n2 : j_mN S1 V1 1000 V2) (m : j_r6 1000 k r V1 x2 V2) (ex : x = x2) : j_Q V2 := by
  have n := j_mI_n hm
  have e1 : ∀ c : Int, 500 < c → V1 c = V c := fun c hc => (n1.2.2 c (by omega)).2.2
  have f2 : ∀ c : Int, c < 1000 → V2 c = V1 c := fun c hc => n2.2.2 c (by omega)
  have h79 := j_79_r6 m
  have h6 := j_h6_q6 hc q
  have m24 := j_m24_r6 m
  have ec : V 1001 2 = V 1 2 := R.2.1.1.symm
  unfold j_q6 at q
  unfold j_r6 at m
  simp only [Int.zero_add, Int.reduceAdd] at q m
  rw [e1 1001 (by omega), ec] at m
  rcases q with ⟨q1, _, q2, q3⟩ | ⟨k0, k1, r0, r1, q1, _, q2, q3⟩ | ⟨k0, k1, r0, r1, q1, q2, q3, v1, v2, v3, v4, v5, v6⟩
  · rcases m with ⟨_, m2, m3⟩ | ⟨z0, z1, z2, z3, _⟩ | ⟨z0, z1, z2, z3, _⟩
    · exact j_Q_fd hm Q n1 q2 n2 m2
    · exact absurd ⟨z0, z1, z2, z3⟩ q1
    · exact absurd ⟨z0, z1, z2, z3⟩ q1
  · rcases m with ⟨z, _⟩ | ⟨_, _, _, _, _, m2, m3⟩ | ⟨_, _, _, _, z, _⟩
    · exact absurd ⟨k0, k1, r0, r1⟩ z
    · exact j_Q_fd hm Q n1 q2 n2 m2
    · omega
  · rcases m with ⟨z, _⟩ | ⟨_, _, _, _, z, _⟩ | ⟨_, _, _, _, m1, m2, u1, u4, u5, u6, u7, u8, u9⟩
    · exact absurd ⟨k0, k1, r0, r1⟩ z
    · omega
    · have x0 : 0 ≤ x := by rw [q2, ← ec]; exact n.2.2.1
      rw [← ex] at u1 u4 u5 u6 u7 u8
      have sx : 31 ≤ j_slotT 1 x ∧ j_slotT 1 x + 9 ≤ 130 := by unfold j_slotT; omega
      refine j_Q_tabs hm Q n1 (fun c hc => v6 c (by omega) (by omega)) h6 n2 (fun c hc => u9 c (by omega) (by omega) (by omega) (by omega) (by omega)) m24.1 h79 (fun t t0 t1 => ?_)
      rw [u1, j_u_at] at t1
      have st : 31 ≤ j_slotT 1 t ∧ j_slotT 1 t + 9 ≤ 130 := by unfold j_slotT; omega
      show (V2 1004 t = 2 ∨ V2 1004 t = 3) → (∀ p j : Int, 0 ≤ p → p < j_parts (V2 1004 t) → 0 ≤ j → j ≤ 256 → V2 (j_slotT 1 t + 3 + 2 * p) j = j_pre (j_rs (V2 1007) (1024 * t + 256 * p)) j) ∧ (V2 1006 t = 0 → V2 (j_slotT 1 t + 3) 256 = 0)
      rw [u4, u6, f2 (j_slotT 1 t + 3) (by omega)]
      by_cases e : t = x
      · rw [e, j_u_at, j_u_at]
        intro hk
        have pp := j_parts_bd k
        refine ⟨fun p j p0 p1 j0 j1 => ?_, fun _ => ?_⟩
        · rw [f2 _ (by omega), v5 p j p0 (by omega) j0 j1, j_sum_0 (fun i i0 i1 => by
            show V2 1007 (1024 * x + 256 * p + i) = 0
            rw [show 1024 * x + 256 * p + i = 1024 * x + (256 * p + i) by omega, u8 _ (by omega) (by omega), if_neg (by omega)])]
          unfold j_start
          rw [if_neg (by omega)]
        · have z := v5 0 256 (by omega) (by omega) (by omega) (by omega)
          rw [show j_slotT 1 x + 3 + 2 * 0 = j_slotT 1 x + 3 by omega] at z
          rw [z]
          unfold j_start
          rw [if_neg (by omega)]
      · have sep : j_slotT 1 t + 9 < j_slotT 1 x ∨ j_slotT 1 x + 9 < j_slotT 1 t := by unfold j_slotT; omega
        rw [j_u_ne e, j_u_ne e, e1 1004 (by omega), e1 1006 (by omega), v6 _ (by omega) (by omega)]
        intro hk
        have pp := j_parts_bd (V 1004 t)
        obtain ⟨y1, y2⟩ := Q.2.1.2.1 t t0 (by rw [ec]; omega) hk
        refine ⟨fun p j p0 p1 j0 j1 => ?_, y2⟩
        rw [f2 _ (by omega), v6 _ (by omega) (by omega)]
        have y := y1 p j p0 p1 j0 j1
        rw [y]
        exact j_pre_congr (fun i i0 i1 => by show V 1007 (1024 * t + 256 * p + i) = V2 1007 (1024 * t + 256 * p + i); rw [u7 _ (by omega), e1 1007 (by omega)])
theorem j_Q_share {S S1 : jS} {V V1 V2 : jH} {tb s f r r2 : Int} (hc : j_cI S V 0) (hm : j_mI S V 1000) (R : j_R S V) (Q : j_Q V) (n1 : j_cN S V 0 S1 V1) (q : j_q7 0 tb s f V r V1) (n2 : j_mN S1 V1 1000 V2) (m : j_r7 1000 tb s f V1 r2 V2) : j_Q V2 := by
  have n := j_mI_n hm
  have e1 : ∀ c : Int, 500 < c → V1 c = V c := fun c hc => (n1.2.2 c (by omega)).2.2
  have f2 : ∀ c : Int, c < 1000 → V2 c = V1 c := fun c hc => n2.2.2 c (by omega)
  have cw := j_cw_q7 hc q
  have mw := j_mw_r7 m
  have kc : ∀ c : Int, c ≠ 0 → (0 ≤ tb ∧ tb < V 1 2 → V (j_slotT 1 tb) 1 = 0 → c ≠ j_slotT 1 tb + 3) → V1 c = V c := fun c c0 hh => by
    rcases q with ⟨_, e, _⟩ | ⟨t0, t1, ⟨_, e, _⟩ | ⟨k0, ⟨_, e, _⟩ | ⟨_, _, _, _, ⟨_, e, _⟩ | ⟨_, _, e⟩⟩⟩⟩
    · rw [e]; exact j_up_ne c0
    · rw [e]; exact j_up_ne c0
    · rw [e]; exact j_up_ne c0
    · rw [e]; exact j_up_ne c0
    · rw [e]; exact j_row_ne (hh ⟨t0, t1⟩ k0)
  have km : ∀ i : Int, (0 ≤ tb ∧ tb < V 1001 2 → V 1004 tb = 0 → i < 1024 * tb ∨ 1024 * tb + 256 ≤ i) → V2 1007 i = V 1007 i := fun i hh => by
    rcases m with ⟨_, e, _⟩ | ⟨t0, t1, ⟨_, e, _⟩ | ⟨k0, ⟨_, e, _⟩ | ⟨s0, s1, _, _, ⟨_, e, _⟩ | ⟨_, _, e⟩⟩⟩⟩
    · rw [e]; unfold j_md; rw [j_up_ne (by omega), e1 1007 (by omega)]
    · rw [e]; unfold j_md; rw [j_up_ne (by omega), e1 1007 (by omega)]
    · rw [e]; unfold j_md; rw [j_up_ne (by omega), e1 1007 (by omega)]
    · rw [e]; unfold j_md; rw [j_up_ne (by omega), e1 1007 (by omega)]
    · have t1 : tb < V1 1001 2 := t1
      have k0 : V1 1004 tb = 0 := k0
      rw [e1 1001 (by omega)] at t1
      rw [e1 1004 (by omega)] at k0
      have := hh ⟨t0, t1⟩ k0
      have e : V2 = j_up V1 1007 (1024 * tb + s) f := e
      rw [e, j_up_off (by omega), e1 1007 (by omega)]
  have c2 : V2 1001 2 = V 1001 2 := by have := mw.2.1; rw [show (1000 : Int) + 1 = 1001 from rfl] at this; rw [this, e1 1001 (by omega)]
  have u : ∀ c : Int, (1002 ≤ c ∧ c ≤ 1006 ∨ 1008 ≤ c ∧ c ≤ 1017) → V2 c = V1 c := fun c hc => mw.2.2 c (by omega) (by omega) (by omega) (by omega)
  refine j_Q_tabs hm Q n1 (fun c hc => cw.2.1 c (by omega) (by omega) (by omega) (by omega)) (j_R0_cw cw) n2 (fun c hc => u c (by omega)) mw.1.1 (j_79_r7 m) (fun t t0 t1 => ?_)
  rw [c2] at t1
  show (V2 1004 t = 2 ∨ V2 1004 t = 3) → (∀ p j : Int, 0 ≤ p → p < j_parts (V2 1004 t) → 0 ≤ j → j ≤ 256 → V2 (j_slotT 1 t + 3 + 2 * p) j = j_pre (j_rs (V2 1007) (1024 * t + 256 * p)) j) ∧ (V2 1006 t = 0 → V2 (j_slotT 1 t + 3) 256 = 0)
  rw [u 1004 (by omega), u 1006 (by omega), e1 1004 (by omega), e1 1006 (by omega)]
  intro hk
  obtain ⟨y1, y2⟩ := Q.2.1.2.1 t t0 t1 hk
  obtain ⟨w1, -, -⟩ := R.2.1.2 t t0 t1
  have w1 : V (j_slotT 1 t) 1 = V 1004 t := w1
  have pp := j_parts_bd (V 1004 t)
  have st : 31 ≤ j_slotT 1 t ∧ j_slotT 1 t + 9 ≤ 130 := by have := n.1; unfold j_slotT; omega
  have sep : ∀ p : Int, 0 ≤ p → p < 4 → V1 (j_slotT 1 t + 3 + 2 * p) = V (j_slotT 1 t + 3 + 2 * p) := fun p p0 p1 => kc _ (by omega) (fun _ k0 e => by
    have : t = tb := by unfold j_slotT at e; omega
    rw [this] at w1 hk; omega)
  refine ⟨fun p j p0 p1 j0 j1 => ?_, fun z => ?_⟩
  · rw [f2 _ (by omega), sep p p0 (by omega)]
    have y := y1 p j p0 p1 j0 j1
    rw [y]
    exact j_pre_congr (fun i i0 i1 => by
      show V 1007 (1024 * t + 256 * p + i) = V2 1007 (1024 * t + 256 * p + i)
      exact (km _ (fun _ k0 => by
        by_cases e : t = tb
        · rw [e] at hk; omega
        · omega)).symm)
  · have s0 := sep 0 (by omega) (by omega)
    rw [show j_slotT 1 t + 3 + 2 * 0 = j_slotT 1 t + 3 by omega] at s0
    rw [f2 _ (by omega), s0]
    exact y2 z
/-- a table on both sides -/
theorem j_tabR {S : jS} {V : jH} (hc : j_cI S V 0) (hm : j_mI S V 1000) (R : j_R S V) (Q : j_Q V) {t : Int} (t0 : 0 ≤ t) (t1 : t < V 1 2) : V (j_slotT 1 t) 1 = V 1004 t ∧ V (j_slotT 1 t) 2 = V 1005 t ∧ (∀ p j : Int, 0 ≤ p → p < j_parts (V 1004 t) → 0 ≤ j → j ≤ 256 → V (j_slotT 1 t + 3 + 2 * p) j = j_pre (j_rs (V 1007) (1024 * t + 256 * p)) j) ∧ (V (j_slotT 1 t + 3) 256 = j_M (V 1005 t) ↔ ¬ j_ropen V 1000 t) ∧ j_tI V (j_slotT 1 t) := by
  have n := j_mI_n hm
  have ec : V 1 2 = V 1001 2 := R.2.1.1
  obtain ⟨w1, w2, w3⟩ := R.2.1.2 t t0 (by rw [← ec]; exact t1)
  have w1 : V (j_slotT 1 t) 1 = V 1004 t := w1
  have w2 : V (j_slotT 1 t) 2 = V 1005 t := w2
  have w3 : V 1004 t = 0 → ∀ j : Int, 0 ≤ j → j ≤ 256 → V (j_slotT 1 t + 3) j = j_pre (j_rs (V 1007) (1024 * t)) j := w3
  have tI : j_tI V (j_slotT 1 t) := by
    have sI := hc.2.2.2.1.2.2.1
    rcases sI.2.2 t t0 (by have : V (0 + 1) 2 ≤ 10 := sI.2.1; have t1 : t < V (0 + 1) 2 := t1; omega) with ⟨_, _, z⟩ | ⟨_, z, _⟩
    · exact z t1
    · have z : V 1 2 ≤ t := z
      omega
  have mT : j_mT V 1001 t := hm.2.2.2.1.2.1.2.2.2 t t0 (by show t < V 1001 2; rw [← ec]; exact t1)
  obtain ⟨a1, a2, a3, a4, a5, a6, a7⟩ := id tI
  obtain ⟨b1, b2, b3, b4, b5, b6, b7, b8⟩ := mT
  simp only [Int.reduceAdd] at b1 b2 b3 b4 b5 b6 b7 b8
  have hM := j_M_bd b3 b4
  have h256 := j_M_256 b3 b4
  have full : ∀ p j : Int, 0 ≤ p → p < j_parts (V 1004 t) → 0 ≤ j → j ≤ 256 → V (j_slotT 1 t + 3 + 2 * p) j = j_pre (j_rs (V 1007) (1024 * t + 256 * p)) j := by
    intro p j p0 p1 j0 j1
    have pp := j_parts_bd (V 1004 t)
    by_cases c0 : V 1004 t = 0
    · have e1 : j_parts (V 1004 t) = 1 := by unfold j_parts; rw [if_neg (by omega)]
      have p00 : p = 0 := by omega
      rw [p00, show j_slotT 1 t + 3 + 2 * 0 = j_slotT 1 t + 3 by omega, show 1024 * t + 256 * 0 = 1024 * t by omega]
      exact w3 c0 j j0 j1
    · by_cases c : V 1004 t = 2 ∨ V 1004 t = 3
      · exact (Q.2.1.2.1 t t0 (by rw [← ec]; exact t1) c).1 p j p0 p1 j0 j1
      · have c' : V 1004 t = 1 ∨ V 1004 t = 4 := by omega
        rw [a7 (by rw [w1]; exact c') p j p0 (by omega) j0 j1, w2]
        have g : ∀ m : Nat, m ≤ 256 → j_pre (j_rs (V 1007) (1024 * t + 256 * p)) m = m * (j_M (V 1005 t) / 256) := by
          intro m
          induction m with
          | zero => intro _; show (0 : Int) = 0 * _; omega
          | succ m ih =>
            intro y
            rw [show ((m + 1 : Nat) : Int) = (m : Int) + 1 by omega, j_pre_s _ (by omega), ih (by omega), Int.add_mul]
            have e : j_rs (V 1007) (1024 * t + 256 * p) m = j_M (V 1005 t) / 256 := by
              have := b7 c' (256 * p + m) (by omega) (by omega)
              show V 1007 (1024 * t + 256 * p + m) = _
              rw [show 1024 * t + 256 * p + (m : Int) = 1024 * t + (256 * p + m) by omega]
              exact this
            omega
        have := g j.toNat (by omega)
        rw [show ((j.toNat : Nat) : Int) = j by omega] at this
        exact this.symm
  refine ⟨w1, w2, full, ?_, tI⟩
  have f0 := full 0 256 (by omega) (by have := j_parts_bd (V 1004 t); omega) (by omega) (by omega)
  rw [show j_slotT 1 t + 3 + 2 * 0 = j_slotT 1 t + 3 by omega, show 1024 * t + 256 * 0 = 1024 * t by omega] at f0
  have er : j_rsum V 1000 t = j_pre (j_rs (V 1007) (1024 * t)) 256 := rfl
  have eo : j_ropen V 1000 t = ((V 1004 t = 0 ∧ j_rsum V 1000 t ≠ j_M (V 1005 t)) ∨ ((V 1004 t = 2 ∨ V 1004 t = 3) ∧ V 1006 t = 0)) := rfl
  rw [eo, er, ← f0]
  by_cases c0 : V 1004 t = 0
  · constructor
    · intro z y
      rcases y with ⟨_, y⟩ | ⟨y, _⟩
      · exact y z
      · omega
    · intro z
      by_cases y : V (j_slotT 1 t + 3) 256 = j_M (V 1005 t)
      · exact y
      · exact absurd (Or.inl ⟨c0, y⟩) z
  · by_cases c : V 1004 t = 2 ∨ V 1004 t = 3
    · constructor
      · intro z y
        rcases y with ⟨y, _⟩ | ⟨_, y⟩
        · exact c0 y
        · have := (Q.2.1.2.1 t t0 (by rw [← ec]; exact t1) c).2 y
          omega
      · intro z
        have y : V 1006 t ≠ 0 := fun y => z (Or.inr ⟨c, y⟩)
        have := b8 c y 0 (by omega) (by have := j_parts_bd (V 1004 t); omega)
        rw [show 1024 * t + 256 * 0 = 1024 * t by omega] at this
        rw [f0]; exact this
    · have c' : V 1004 t = 1 ∨ V 1004 t = 4 := by omega
      constructor
      · intro z y
        rcases y with ⟨y, _⟩ | ⟨y, _⟩
        · exact c0 y
        · exact c y
      · intro _
        have := a7 (by rw [w1]; exact c') 0 256 (by omega) (by omega) (by omega) (by omega)
        rw [show j_slotT 1 t + 3 + 2 * 0 = j_slotT 1 t + 3 by omega, w2] at this
        rw [this]; exact h256.1
theorem j_Q_learn {S S1 : jS} {V V1 V2 : jH} {tb p r r2 : Int} (hc : j_cI S V 0) (hm : j_mI S V 1000) (R : j_R S V) (Q : j_Q V) (n1 : j_cN S V 0 S1 V1) (q : j_q8 0 tb p V r V1) (n2 : j_mN S1 V1 1000 V2) (m : j_r8 1000 tb p V1 r2 V2) : r = r2 ∧ j_Q V2 := by
  have n := j_mI_n hm
  have e1 : ∀ c : Int, 500 < c → V1 c = V c := fun c hc => (n1.2.2 c (by omega)).2.2
  have f2 : ∀ c : Int, c < 1000 → V2 c = V1 c := fun c hc => n2.2.2 c (by omega)
  have cw := j_cw_q8 hc q
  have mw := j_mw_r8 m
  have h79 := j_79_r8 m
  have ec : V 1001 2 = V 1 2 := R.2.1.1.symm
  unfold j_q8 at q
  unfold j_r8 at m
  simp only [Int.zero_add, Int.reduceAdd] at q m cw mw
  rw [e1 1001 (by omega), e1 1002 (by omega), e1 1004 (by omega), e1 1005 (by omega), ec] at m
  by_cases ok : 0 ≤ tb ∧ tb < V 1 2 ∧ 0 ≤ p ∧ p < 6
  · obtain ⟨t0, t1, p0, p1⟩ := ok
    obtain ⟨w1, w2, -, -, -⟩ := j_tabR hc hm R Q t0 t1
    obtain ⟨k1, k2⟩ := j_Qr Q p0 p1
    rw [w1, k1] at q
    rcases q with ⟨z, _⟩ | ⟨_, _, _, _, q⟩
    · exact absurd ⟨t0, t1, p0, p1⟩ z
    rcases m with ⟨z, _⟩ | ⟨_, _, _, _, m⟩
    · exact absurd ⟨t0, t1, p0, p1⟩ z
    rcases q with ⟨q1, q2, q3⟩ | ⟨q1, q⟩
    · rcases m with ⟨m1, m2, m3⟩ | ⟨m1, _⟩
      · exact ⟨by rw [q3, m3], j_Q_fd hm Q n1 q2 n2 m2⟩
      · exact absurd m1 q1
    · rcases m with ⟨m1, _⟩ | ⟨m1, m⟩
      · exact absurd q1 m1
      rcases q with ⟨q2, q3, q4⟩ | ⟨q2, q3, d1, d2, d3⟩
      · rcases m with ⟨m2, m3, m4⟩ | ⟨m2, _⟩
        · exact ⟨by rw [q4, m4], j_Q_fd hm Q n1 q3 n2 m3⟩
        · exact absurd q2 m2
      · rcases m with ⟨m2, _⟩ | ⟨m2, m3, V3, ⟨l1, l2, l3⟩, l4⟩
        · exact absurd m2 q2
        · have rw_eq : j_rw V1 1000 p = fun i => V 1003 (400 * p + i) := by funext i; show V1 1003 _ = _; rw [e1 1003 (by omega)]
          have rc : V1 (1000 + 2) p = V 1002 p := by show V1 1002 p = _; rw [e1 1002 (by omega)]
          rw [rw_eq, rc] at l1
          rw [w1, w2] at d1
          rw [w1] at d2
          rw [show (3 : Int) + 2 * p + 1 = 4 + 2 * p by omega, k1] at d1
          have st0 : 31 ≤ j_slotT 1 tb ∧ j_slotT 1 tb + 9 ≤ 130 := by unfold j_slotT; omega
          have pp := j_parts_bd (V 1004 tb)
          have c2 : V2 1001 2 = V 1001 2 := by have z : V2 1001 2 = V1 1001 2 := mw.2.1; rw [z, e1 1001 (by omega)]
          have u : ∀ c : Int, (1002 ≤ c ∧ c ≤ 1005 ∨ 1008 ≤ c ∧ c ≤ 1017) → V2 c = V1 c := fun c hc => mw.2.2 c (by omega) (by omega) (by omega) (by omega)
          refine ⟨by rw [q3, m3], j_Q_tabs hm Q n1 (fun c hc => cw.2.1 c (by omega) (by omega) (by omega) (by omega)) (j_R0_cw cw) n2 (fun c hc => u c (by omega)) mw.1.1 h79 (fun t y0 y1 => ?_)⟩
          rw [c2, ec] at y1
          have st : 31 ≤ j_slotT 1 t ∧ j_slotT 1 t + 9 ≤ 130 := by unfold j_slotT; omega
          show (V2 1004 t = 2 ∨ V2 1004 t = 3) → (∀ p j : Int, 0 ≤ p → p < j_parts (V2 1004 t) → 0 ≤ j → j ≤ 256 → V2 (j_slotT 1 t + 3 + 2 * p) j = j_pre (j_rs (V2 1007) (1024 * t + 256 * p)) j) ∧ (V2 1006 t = 0 → V2 (j_slotT 1 t + 3) 256 = 0)
          rw [u 1004 (by omega), e1 1004 (by omega)]
          intro hk
          by_cases e : t = tb
          · rw [e]
            refine ⟨fun x j x0 x1 j0 j1 => ?_, fun z => ?_⟩
            · obtain ⟨sh, g1, g2⟩ := d1 x x0 x1
              rw [f2 _ (by omega), g2 j j0 j1]
              have g3 := l1 x x0 x1
              have g1' := j_deal_congr (c' := j_count (fun i => V 1003 (400 * p + i)) (j_ofPart (V 1004 tb) x) (V 1002 p)) (fun s s0 s1 => j_count_w (fun i i0 i1 => (k2 i i0 i1).symm)) g1
              refine j_pre_congr (fun s s0 s1 => ?_)
              have := j_deal_one g1' g3 s0 (show s < 256 by omega)
              show sh s = V2 1007 (1024 * tb + 256 * x + s)
              rw [l4, j_up_ne (by omega)]
              exact this
            · rw [l4, j_up_at] at z
              omega
          · obtain ⟨y3, y4⟩ := Q.2.1.2.1 t y0 (by rw [ec]; exact y1) hk
            have pq := j_parts_bd (V 1004 t)
            have sep : ∀ x : Int, 0 ≤ x → x < 4 → V1 (j_slotT 1 t + 3 + 2 * x) = V (j_slotT 1 t + 3 + 2 * x) := fun x x0 x1 => d2 _ (by omega) (by omega) (by omega) (fun p p0 p1 => by unfold j_slotT; omega)
            refine ⟨fun x j x0 x1 j0 j1 => ?_, fun z => ?_⟩
            · rw [f2 _ (by omega), sep x x0 (by omega)]
              have y := y3 x j x0 x1 j0 j1
              rw [y]
              exact j_pre_congr (fun i i0 i1 => by
                show V 1007 (1024 * t + 256 * x + i) = V2 1007 (1024 * t + 256 * x + i)
                rw [l4, j_up_ne (by omega), l2 _ (by omega), e1 1007 (by omega)])
            · have s0 := sep 0 (by omega) (by omega)
              rw [show j_slotT 1 t + 3 + 2 * 0 = j_slotT 1 t + 3 by omega] at s0
              rw [f2 _ (by omega), s0]
              rw [l4, j_up_off e, l3 1006 (by omega) (by omega) (by omega), e1 1006 (by omega)] at z
              exact y4 z
  · rcases q with ⟨_, q2, q3⟩ | ⟨z0, z1, z2, z3, _⟩
    · rcases m with ⟨_, m2, m3⟩ | ⟨z0, z1, z2, z3, _⟩
      · exact ⟨by rw [q3, m3], j_Q_fd hm Q n1 q2 n2 m2⟩
      · exact absurd ⟨z0, z1, z2, z3⟩ ok
    · exact absurd ⟨z0, z1, z2, z3⟩ ok
theorem j_ropen_c {V U : jH} {t : Int} (h4 : U 1004 = V 1004) (h5 : U 1005 = V 1005) (h6 : U 1006 = V 1006) (h7 : U 1007 = V 1007) : j_ropen U 1000 t = j_ropen V 1000 t := by
  show ((U 1004 t = 0 ∧ j_pre (j_rs (U 1007) (1024 * t)) 256 ≠ j_M (U 1005 t)) ∨ ((U 1004 t = 2 ∨ U 1004 t = 3) ∧ U 1006 t = 0)) = ((V 1004 t = 0 ∧ j_pre (j_rs (V 1007) (1024 * t)) 256 ≠ j_M (V 1005 t)) ∨ ((V 1004 t = 2 ∨ V 1004 t = 3) ∧ V 1006 t = 0))
  rw [h4, h5, h6, h7]
theorem j_Q_shares {S S1 : jS} {V V1 V2 : jH} {tb pt s bg r r2 : Int} (hc : j_cI S V 0) (hm : j_mI S V 1000) (R : j_R S V) (Q : j_Q V) (n1 : j_cN S V 0 S1 V1) (q : j_q9 0 tb pt s bg V r V1) (m : j_r9 1000 tb pt s bg V1 r2 V2) : r = r2 := by
  have e1 : ∀ c : Int, 500 < c → V1 c = V c := fun c hc => (n1.2.2 c (by omega)).2.2
  have ec : V 1001 2 = V 1 2 := R.2.1.1.symm
  unfold j_q9 at q
  unfold j_r9 at m
  simp only [Int.zero_add, Int.reduceAdd] at q m
  rw [e1 1001 (by omega), e1 1004 (by omega), e1 1007 (by omega), ec, j_ropen_c (e1 1004 (by omega)) (e1 1005 (by omega)) (e1 1006 (by omega)) (e1 1007 (by omega))] at m
  by_cases ok : 0 ≤ tb ∧ tb < V 1 2
  · obtain ⟨t0, t1⟩ := ok
    obtain ⟨w1, w2, w3, w4, -⟩ := j_tabR hc hm R Q t0 t1
    rw [w1, w2] at q
    rcases q with ⟨q1, q2, q3⟩ | ⟨_, _, g1, g2, g3, q⟩
    · rcases m with ⟨_, m2, m3⟩ | ⟨_, _, g1, g2, g3, _⟩
      · rw [q3, m3]
      · exact absurd ⟨t0, t1, g1, g2, g3⟩ q1
    · rcases m with ⟨z, _⟩ | ⟨_, _, _, _, _, m⟩
      · exact absurd ⟨t0, t1, g1, g2, g3⟩ z
      · rcases q with ⟨q1, q2, q3⟩ | ⟨q1, q2, q3⟩
        · rcases m with ⟨m1, m2, m3⟩ | ⟨m1, _⟩
          · rw [q3, m3]
          · exact absurd (w4.mpr m1) q1
        · rcases m with ⟨m1, _⟩ | ⟨m1, m2, m3⟩
          · exact absurd m1 (w4.mp q1)
          · rw [q3, m3]
            by_cases b : bg = 0
            · rw [if_pos b, if_pos b]
              show V (j_slotT 1 tb + 3 + 2 * pt) (s + 1) - V (j_slotT 1 tb + 3 + 2 * pt) s = _
              rw [w3 pt _ g1.1 g1.2 (by omega) (by omega), w3 pt _ g1.1 g1.2 g2 (by omega)]
              exact j_sh_pre (j_rs (V 1007) (1024 * tb + 256 * pt)) g2
            · rw [if_neg b, if_neg b]
              exact w3 pt s g1.1 g1.2 g2 (by omega)
  · rcases q with ⟨_, q2, q3⟩ | ⟨z0, z1, _⟩
    · rcases m with ⟨_, m2, m3⟩ | ⟨z0, z1, _⟩
      · rw [q3, m3]
      · exact absurd ⟨z0, z1⟩ ok
    · exact absurd ⟨z0, z1⟩ ok
theorem j_Q_cost {S S1 : jS} {V V1 V2 : jH} {tb pt p r r2 : Int} (hc : j_cI S V 0) (hm : j_mI S V 1000) (R : j_R S V) (Q : j_Q V) (n1 : j_cN S V 0 S1 V1) (q : j_q10 0 tb pt p S V r S1 V1) (m : j_r10 1000 tb pt p V1 r2 V2) : r = r2 := by
  have e1 : ∀ c : Int, 500 < c → V1 c = V c := fun c hc => (n1.2.2 c (by omega)).2.2
  have ec : V 1001 2 = V 1 2 := R.2.1.1.symm
  unfold j_q10 at q
  unfold j_r10 at m
  simp only [Int.zero_add, Int.reduceAdd] at q m
  rw [e1 1001 (by omega), e1 1002 (by omega), e1 1003 (by omega), e1 1004 (by omega), e1 1005 (by omega), e1 1007 (by omega), ec, j_ropen_c (e1 1004 (by omega)) (e1 1005 (by omega)) (e1 1006 (by omega)) (e1 1007 (by omega))] at m
  by_cases ok : 0 ≤ tb ∧ tb < V 1 2 ∧ 0 ≤ p ∧ p < 6
  · obtain ⟨t0, t1, p0, p1⟩ := ok
    obtain ⟨w1, w2, w3, w4, -⟩ := j_tabR hc hm R Q t0 t1
    obtain ⟨k1, k2⟩ := j_Qr Q p0 p1
    have rx := j_mr hm p0 p1
    rw [w1, w2, k1] at q
    rcases q with ⟨q1, q2, q2', q3⟩ | ⟨_, _, g1, _, _, q⟩
    · rcases m with ⟨_, m2, m3⟩ | ⟨_, _, g1, _, _, _⟩
      · rw [q3, m3]
      · exact absurd ⟨t0, t1, g1, p0, p1⟩ q1
    · rcases m with ⟨z, _⟩ | ⟨_, _, _, _, _, m⟩
      · exact absurd ⟨t0, t1, g1, p0, p1⟩ z
      · have sh : ∀ i : Int, 0 ≤ i → i < V 1002 p → j_sh (V (j_slotT 1 tb + 3 + 2 * pt)) (V (4 + 2 * p) i) = V 1007 (1024 * tb + 256 * pt + V 1003 (400 * p + i)) := fun i i0 i1 => by
          rw [k2 i i0 i1]
          have b := rx.2.2 i i0 i1
          show V (j_slotT 1 tb + 3 + 2 * pt) (V 1003 (400 * p + i) + 1) - V (j_slotT 1 tb + 3 + 2 * pt) (V 1003 (400 * p + i)) = _
          rw [w3 pt _ g1.1 g1.2 (by omega) (by omega), w3 pt _ g1.1 g1.2 b.1 (by omega)]
          exact j_sh_pre (j_rs (V 1007) (1024 * tb + 256 * pt)) b.1
        rcases q with ⟨q1, q2, q2', q3⟩ | ⟨q1, q⟩
        · rcases m with ⟨m1, m2, m3⟩ | ⟨m1, _⟩
          · rw [q3, m3]
          · exact absurd (w4.mpr m1) q1
        · rcases m with ⟨m1, _⟩ | ⟨m1, m⟩
          · exact absurd m1 (w4.mp q1)
          · rcases q with ⟨i, i0, i1, iz, _, _, _, q3⟩ | ⟨q2, q3, _⟩
            · rcases m with ⟨i', _, _, _, _, _, m3⟩ | ⟨m2, _⟩
              · rw [q3, m3]
              · rw [sh i i0 i1] at iz
                exact absurd iz (m2 i i0 i1)
            · rcases m with ⟨i, i0, i1, iz, _⟩ | ⟨m2, _, m3⟩
              · rw [← sh i i0 i1] at iz
                exact absurd iz (q2 i i0 i1)
              · rw [q3, m3]
                unfold j_cost
                refine j_pre_congr (fun i i0 i1 => ?_)
                show j_csum _ - j_csum (j_sh (V (j_slotT 1 tb + 3 + 2 * pt)) (V (4 + 2 * p) i)) = j_csum _ - j_csum _
                rw [sh i i0 i1]
  · rcases q with ⟨_, _, q2, q3⟩ | ⟨z0, z1, _, z2, z3, _⟩
    · rcases m with ⟨_, m2, m3⟩ | ⟨z0, z1, _, z2, z3, _⟩
      · rw [q3, m3]
      · exact absurd ⟨z0, z1, z2, z3⟩ ok
    · exact absurd ⟨z0, z1, z2, z3⟩ ok
