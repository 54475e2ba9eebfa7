/-! CLASS AND REFERENCE SIDE BY SIDE: tables -/
def j_RT (V U : jH) (w b : Int) : Prop := V w 2 = U b 2 ∧ ∀ t : Int, 0 ≤ t → t < U b 2 → V (j_slotT w t) 1 = U (b + 3) t ∧ V (j_slotT w t) 2 = U (b + 4) t ∧ (U (b + 3) t = 0 → ∀ j : Int, 0 ≤ j → j ≤ 256 → V (j_slotT w t + 3) j = j_pre (j_rs (U (b + 6)) (1024 * t)) j)
theorem j_RT_c {V V' U U' : jH} {w b : Int} (n : U b 2 ≤ 10) (hc : V' w 2 = V w 2) (hw : ∀ c : Int, w + 30 ≤ c → c ≤ w + 129 → V' c = V c) (hb : U' b 2 = U b 2) (h3 : U' (b + 3) = U (b + 3)) (h4 : U' (b + 4) = U (b + 4)) (h6 : U' (b + 6) = U (b + 6)) (h : j_RT V U w b) : j_RT V' U' w b := by
  refine ⟨by rw [hc, hb]; exact h.1, fun t t0 t1 => ?_⟩
  rw [hb] at t1
  obtain ⟨q1, q2, q3⟩ := h.2 t t0 t1
  have s1 : w + 30 ≤ j_slotT w t ∧ j_slotT w t + 9 ≤ w + 129 := by unfold j_slotT; omega
  rw [hw _ (by omega) (by omega), hw (j_slotT w t + 3) (by omega) (by omega), h3, h4, h6]
  exact ⟨q1, q2, q3⟩
def j_R (S : jS) (V : jH) : Prop := j_R0 S V ∧ j_RT V V 1 1001 ∧ (V 1000 2 ≠ 0 → j_RT V V 300 1009)
theorem j_mI_n {S : jS} {V : jH} (hm : j_mI S V 1000) : V 1001 2 ≤ 10 ∧ V 1009 2 ≤ 10 ∧ 0 ≤ V 1001 2 ∧ 0 ≤ V 1009 2 := ⟨hm.2.2.2.1.2.1.2.1, hm.2.2.2.2.1.2.1.2.1, hm.2.2.2.1.2.1.1, hm.2.2.2.2.1.2.1.1⟩
theorem j_R_raw {S S1 : jS} {V V2 : jH} (hm : j_mI S V 1000) (R : j_R S V) (R0 : j_R0 S1 V2) (hc : V2 1 2 = V 1 2) (hw : ∀ c : Int, (31 ≤ c ∧ c ≤ 130 ∨ 300 ≤ c ∧ c ≤ 429) → V2 c = V c) (hb : V2 1001 2 = V 1001 2) (hr : ∀ c : Int, (1004 ≤ c ∧ c ≤ 1007 ∨ 1009 ≤ c ∧ c ≤ 1016) → V2 c = V c) (h2 : V2 1000 2 = V 1000 2) : j_R S1 V2 := by
  have n := j_mI_n hm
  refine ⟨R0, j_RT_c n.1 hc (fun c c0 c1 => hw c (by omega)) hb (hr _ (by omega)) (hr _ (by omega)) (hr _ (by omega)) R.2.1, fun z => ?_⟩
  rw [h2] at z
  exact j_RT_c n.2.1 (by rw [hw 300 (by omega)]) (fun c c0 c1 => hw c (by omega)) (by rw [hr 1009 (by omega)]) (hr _ (by omega)) (hr _ (by omega)) (hr _ (by omega)) (R.2.2 z)
theorem j_R_step {S S1 : jS} {V V1 V2 : jH} {l1 h1 l2 h2 lo hi : Int} (hm : j_mI S V 1000) (R : j_R S V) (n1 : j_cN S V 0 S1 V1) (k1 : S1.2 0 1 = S.2 0 1) (cw : j_cw V V1 0 l1 h1 l2 h2) (hw : ∀ c : Int, (31 ≤ c ∧ c ≤ 130 ∨ 300 ≤ c ∧ c ≤ 429) → (c < l1 ∨ h1 < c) ∧ (c < l2 ∨ h2 < c)) (n2 : j_mN S1 V1 1000 V2) (mw : j_mw V1 V2 1000 lo hi) (hq : ∀ c : Int, (1004 ≤ c ∧ c ≤ 1007 ∨ 1009 ≤ c ∧ c ≤ 1016) → c < lo ∨ hi < c) : j_R S1 V2 := by
  have r0 := j_R0_step R.1 n1 k1 (j_R0_cw cw) n2 mw.1
  refine j_R_raw hm R r0 ?_ (fun c hc => ?_) ?_ (fun c hc => ?_) ?_
  · have e : V1 1 2 = V 1 2 := cw.1
    rw [n2.2.2 1 (by omega)]; exact e
  · rw [n2.2.2 c (by omega)]; exact cw.2.1 c (by omega) (by omega) (hw c hc).1 (hw c hc).2
  · have e : V2 1001 2 = V1 1001 2 := mw.2.1
    rw [e, (n1.2.2 1001 (by omega)).2.2]
  · rw [mw.2.2 c (by omega) (by omega) (hq c hc) (by omega)]; exact (n1.2.2 c (by omega)).2.2
  · rw [mw.1.1, (n1.2.2 1000 (by omega)).2.2]
theorem j_R_tell {S : jS} {V V1 V2 : jH} {v r r2 : Int} (hm : j_mI S V 1000) (R : j_R S V) (q : j_q22 0 v V r V1) (m : j_r22 1000 v V1 r2 V2) : r = r2 ∧ j_R S V2 := by
  obtain ⟨req, r0⟩ := j_R0_tell R.1 q m
  have e1 : ∀ c : Int, c ≠ 0 → c ≠ 241 → V1 c = V c := fun c c0 c1 => by
    rcases q with ⟨_, e, _⟩ | ⟨_, _, e⟩
    · rw [e]; exact j_up_ne c0
    · rw [e, j_up_ne c0, j_up_ne (by omega)]
  have e2 : ∀ c : Int, c ≠ 1000 → c ≠ 1017 → V2 c = V1 c := fun c c0 c1 => by
    rcases m with ⟨_, e, _⟩ | ⟨_, _, e⟩
    · rw [e]; exact j_up_ne c0
    · rw [e, j_up_ne c0, j_up_ne (by omega)]
  have e3 : V2 1000 2 = V 1000 2 := by
    rcases m with ⟨_, e, _⟩ | ⟨_, _, e⟩
    · rw [e]; unfold j_md; rw [j_up_off (by decide), e1 1000 (by omega) (by omega)]
    · rw [e, j_up_off (by decide), j_up_ne (by omega), e1 1000 (by omega) (by omega)]
  exact ⟨req, j_R_raw hm R r0 (by rw [e2 1 (by omega) (by omega), e1 1 (by omega) (by omega)]) (fun c hc => by rw [e2 c (by omega) (by omega), e1 c (by omega) (by omega)]) (by rw [e2 1001 (by omega) (by omega), e1 1001 (by omega) (by omega)]) (fun c hc => by rw [e2 c (by omega) (by omega), e1 c (by omega) (by omega)]) e3⟩
theorem j_R_check {S : jS} {V V1 V2 : jH} {r r2 : Int} (hm : j_mI S V 1000) (R : j_R S V) (q : j_q23 0 V r V1) (n2 : j_mN S V1 1000 V2) (m : j_r23 1000 V1 r2 V2) : j_R S V2 := by
  have r0 := j_R0_check R.1 q n2 m
  have e1 : ∀ c : Int, c ≠ 0 → V1 c = V c := fun c c0 => by
    rcases q with ⟨_, e, _⟩ | ⟨_, e, _⟩
    · rw [e]; unfold j_fd; rw [j_up_ne c0, j_up_ne c0]
    · rw [e, j_up_ne c0]
  have e2 : (∀ c : Int, c ≠ 1000 → c < 1018 → V2 c = V1 c) ∧ V2 1000 2 = V1 1000 2 := by
    rcases m with ⟨_, e, _⟩ | ⟨_, x, ag, _⟩
    · rw [e]; unfold j_md; exact ⟨fun c c0 _ => by rw [j_up_ne c0, j_up_ne c0], by rw [j_up_off (by decide), j_up_off (by decide)]⟩
    · have w := (j_ag_F ag).1
      exact ⟨fun c c0 c1 => by rw [w.1 c c0 (by omega), j_up_ne c0], by rw [w.2 2 (by omega), j_up_off (by decide)]⟩
  exact j_R_raw hm R r0 (by rw [e2.1 1 (by omega) (by omega), e1 1 (by omega)]) (fun c hc => by rw [e2.1 c (by omega) (by omega), e1 c (by omega)]) (by rw [e2.1 1001 (by omega) (by omega), e1 1001 (by omega)]) (fun c hc => by rw [e2.1 c (by omega) (by omega), e1 c (by omega)]) (by rw [e2.2, e1 1000 (by omega)])
/-- a kept thing goes over, or comes back -/
theorem j_RT_copy {V U V' U' : jH} {w b w' b' : Int} (n : U b 2 ≤ 10) (h : j_RT V U w b) (hc : V' w' 2 = V w 2) (ht : ∀ t : Int, 0 ≤ t → t < V w 2 → j_tabEq V V' (j_slotT w' t) (j_slotT w t)) (hB : j_bookEq U U' b' b) : j_RT V' U' w' b' := by
  obtain ⟨b1, -, -, b4, b5, -⟩ := hB
  have e2 := b1 2 (by omega)
  refine ⟨by rw [hc, e2]; exact h.1, fun t t0 t1 => ?_⟩
  rw [e2] at t1
  obtain ⟨q1, q2, q3⟩ := h.2 t t0 t1
  obtain ⟨x1, x2, x3⟩ := ht t t0 (by rw [h.1]; exact t1)
  obtain ⟨y3, y4, -⟩ := b4 t t0 (by omega)
  rw [x1, x2, y3, y4]
  refine ⟨q1, q2, fun z j j0 j1 => ?_⟩
  have x := x3 0 j (by omega) (by omega) j0 j1
  rw [show j_slotT w' t + 3 + 2 * 0 = j_slotT w' t + 3 by omega, show j_slotT w t + 3 + 2 * 0 = j_slotT w t + 3 by omega] at x
  rw [x, q3 z j j0 j1]
  exact j_pre_congr (fun k k0 k1 => by show U (b + 6) (1024 * t + k) = U' (b' + 6) (1024 * t + k); exact (b5 _ (by omega) (by omega)).symm)
theorem j_R_keep {S S1 S3 : jS} {V V1 V2 V3 : jH} (hm : j_mI S V 1000) (R : j_R S V) (n1 : j_cN S V 0 S1 V1) (h6 : V1 0 6 = V 0 6) (k1 : S1.2 0 1 ≠ -1) (w1 : j_wBe S3 V3 300 1 S1 V1) (w6 : ∀ c : Int, (c < 300 ∨ 429 < c) → V3 c = V c) (n2 : j_mN S1 V1 1000 V2) (m2 : V2 1000 2 = 1) (m3 : ∀ j : Int, j ≠ 2 → V2 1000 j = V1 1000 j) (m4 : j_bookEq V1 V2 (1000 + 9) (1000 + 1)) (m5 : ∀ c : Int, c ≠ 1000 → (c < 1000 + 9 ∨ 1000 + 16 < c) → V2 c = V1 c) : j_R S1 V2 := by
  have n := j_mI_n hm
  have r0 := j_R0_keep R.1 n1 h6 k1 n2 m2 (m3 4 (by decide))
  obtain ⟨-, c2, ct, -, -, -, -, -, -, -, fr⟩ := w1
  have f1 : ∀ c : Int, (c < 300 ∨ 429 < c) → V1 c = V c := fun c hc => by rw [(fr c (by omega)).2.2, w6 c hc]
  have f2 : ∀ c : Int, c < 1000 → V2 c = V1 c := fun c hc => n2.2.2 c (by omega)
  refine ⟨r0, j_RT_c n.1 (by rw [f2 1 (by omega), f1 1 (by omega)]) (fun c c0 c1 => by rw [f2 c (by omega), f1 c (by omega)]) (by rw [m5 1001 (by omega) (by omega), f1 1001 (by omega)]) (by rw [m5 _ (by omega) (by omega), f1 _ (by omega)]) (by rw [m5 _ (by omega) (by omega), f1 _ (by omega)]) (by rw [m5 _ (by omega) (by omega), f1 _ (by omega)]) R.2.1, fun _ => ?_⟩
  have e31 : V3 1 = V 1 := w6 1 (by omega)
  have hV1 : j_RT V3 V1 1 1001 := j_RT_c n.1 (by rw [e31]) (fun c c0 c1 => w6 c (by omega)) (by rw [f1 1001 (by omega)]) (f1 _ (by omega)) (f1 _ (by omega)) (f1 _ (by omega)) R.2.1
  have hV2 := j_RT_copy (V := V3) (U := V1) (V' := V1) (U' := V2) (w := 1) (b := 1001) (w' := 300) (b' := 1009) (by rw [f1 1001 (by omega)]; exact n.1) hV1 c2 ct m4
  have n9 : V2 1009 2 ≤ 10 := (j_mI_n n2.1).2.1
  exact j_RT_c n9 (by rw [f2 300 (by omega)]) (fun c c0 c1 => f2 c (by omega)) rfl rfl rfl rfl hV2
theorem j_R_back {S S1 : jS} {V V1 V2 : jH} {r r2 : Int} (hm : j_mI S V 1000) (R : j_R S V) (n1 : j_cN S V 0 S1 V1) (k1 : S1.2 0 1 = S.2 0 1) (h6 : V1 0 6 = V 0 6) (q : (S.2 0 1 = -1 ∧ V1 = j_fd V 0 ∧ r = -6) ∨ (S.2 0 1 ≠ -1 ∧ r = 1 ∧ j_wBe S V 1 300 S1 V1)) (n2 : j_mN S1 V1 1000 V2) (m : (V1 1000 2 = 0 ∧ V2 = j_md V1 1000 ∧ r2 = -6) ∨ (V1 1000 2 ≠ 0 ∧ r2 = 1 ∧ j_bookEq V1 V2 (1000 + 1) (1000 + 9) ∧ ∀ c : Int, (c < 1000 + 1 ∨ 1000 + 8 < c) → V2 c = V1 c)) : r = r2 ∧ j_R S1 V2 := by
  have n := j_mI_n hm
  have e1 : ∀ c : Int, 500 < c → V1 c = V c := fun c hc => (n1.2.2 c (by omega)).2.2
  have f2 : ∀ c : Int, c < 1000 → V2 c = V1 c := fun c hc => n2.2.2 c (by omega)
  obtain ⟨req, r0⟩ := j_R0_back R.1 n1 k1 h6 (by rcases q with ⟨z1, _, z3⟩ | ⟨z1, z2, _⟩; exact Or.inl ⟨z1, z3⟩; exact Or.inr ⟨z1, z2⟩) n2 m
  refine ⟨req, ?_⟩
  have e10 := e1 1000 (by omega)
  rcases q with ⟨q1, q2, q3⟩ | ⟨q1, q2, q3⟩
  · have z : V 1000 2 = 0 := R.1.1.mp q1
    rcases m with ⟨m1, m2, m3⟩ | ⟨m1, _⟩
    · have g1 : ∀ c : Int, c ≠ 0 → V1 c = V c := fun c hc => by rw [q2]; exact j_up_ne hc
      have g2 : ∀ c : Int, c ≠ 1000 → V2 c = V1 c := fun c hc => by rw [m2]; exact j_up_ne hc
      exact j_R_raw hm R r0 (by rw [g2 1 (by omega), g1 1 (by omega)]) (fun c hc => by rw [g2 c (by omega), g1 c (by omega)]) (by rw [g2 1001 (by omega), g1 1001 (by omega)]) (fun c hc => by rw [g2 c (by omega), g1 c (by omega)]) (by rw [m2]; unfold j_md; rw [j_up_off (by decide), e10])
    · rw [e10] at m1; exact absurd z m1
  · have z : V 1000 2 ≠ 0 := fun z => q1 (R.1.1.mpr z)
    rcases m with ⟨m1, _⟩ | ⟨m1, m2, m3, m4⟩
    · rw [e10] at m1; exact absurd m1 z
    · obtain ⟨-, c2, ct, -, -, -, -, -, -, -, fr⟩ := q3
      have kp := R.2.2 z
      have g1 : ∀ c : Int, (c < 1 ∨ 130 < c) → V1 c = V c := fun c hc => (fr c (by omega)).2.2
      have kp1 : j_RT V V1 300 1009 := j_RT_c n.2.1 rfl (fun _ _ _ => rfl) (by rw [e1 1009 (by omega)]) (e1 _ (by omega)) (e1 _ (by omega)) (e1 _ (by omega)) kp
      have cp := j_RT_copy (V := V) (U := V1) (V' := V1) (U' := V2) (w := 300) (b := 1009) (w' := 1) (b' := 1001) (by rw [e1 1009 (by omega)]; exact n.2.1) kp1 c2 ct m3
      have n3 := j_mI_n n2.1
      refine ⟨r0, j_RT_c n3.1 (by rw [f2 1 (by omega)]) (fun c c0 c1 => f2 c (by omega)) rfl rfl rfl rfl cp, fun _ => ?_⟩
      exact j_RT_c n.2.1 (by rw [f2 300 (by omega), g1 300 (by omega)]) (fun c c0 c1 => by rw [f2 c (by omega), g1 c (by omega)]) (by rw [m4 1009 (by omega), e1 1009 (by omega)]) (by rw [m4 _ (by omega), e1 _ (by omega)]) (by rw [m4 _ (by omega), e1 _ (by omega)]) (by rw [m4 _ (by omega), e1 _ (by omega)]) kp
theorem j_R_as {S S1 : jS} {V V1 V2 : jH} {tb k r r2 : Int} (R : j_R S V) (n1 : j_cN S V 0 S1 V1) (q : j_q11 0 tb k V r V1) (m : j_r11 1000 tb k V1 r2 V2) : r = r2 := by
  have e1 : ∀ c : Int, 500 < c → V1 c = V c := fun c hc => (n1.2.2 c (by omega)).2.2
  have ec : V1 1001 2 = V 1 2 := by rw [e1 1001 (by omega)]; exact R.2.1.1.symm
  have q : (¬ (0 ≤ tb ∧ tb < V 1 2 ∧ 0 ≤ k ∧ k ≤ 4) ∧ V1 = j_fd V 0 ∧ r = -1) ∨ (0 ≤ tb ∧ tb < V 1 2 ∧ 0 ≤ k ∧ k ≤ 4 ∧ ((¬ j_isOne (V (j_slotT 1 tb) 1) k ∧ V1 = j_fd V 0 ∧ r = -3) ∨ (j_isOne (V (j_slotT 1 tb) 1) k ∧ V1 = V ∧ r = tb))) := q
  have m : (¬ (0 ≤ tb ∧ tb < V1 1001 2 ∧ 0 ≤ k ∧ k ≤ 4) ∧ V2 = j_md V1 1000 ∧ r2 = -1) ∨ (0 ≤ tb ∧ tb < V1 1001 2 ∧ 0 ≤ k ∧ k ≤ 4 ∧ ((¬ j_isOne (V1 1004 tb) k ∧ V2 = j_md V1 1000 ∧ r2 = -3) ∨ (j_isOne (V1 1004 tb) k ∧ V2 = V1 ∧ r2 = tb))) := m
  rw [ec, e1 1004 (by omega)] at m
  rcases q with ⟨q1, _, q3⟩ | ⟨t0, t1, k0, k1, q⟩
  · rcases m with ⟨_, _, m3⟩ | ⟨t0, t1, k0, k1, _⟩
    · rw [q3, m3]
    · exact absurd ⟨t0, t1, k0, k1⟩ q1
  · have kd : V (j_slotT 1 tb) 1 = V 1004 tb := (R.2.1.2 tb t0 (by rw [← R.2.1.1]; exact t1)).1
    rw [kd] at q
    rcases m with ⟨m1, _⟩ | ⟨_, _, _, _, m⟩
    · exact absurd ⟨t0, t1, k0, k1⟩ m1
    · rcases q with ⟨q1, _, q3⟩ | ⟨q1, _, q3⟩
      · rcases m with ⟨_, _, m3⟩ | ⟨m1, _⟩
        · rw [q3, m3]
        · exact absurd m1 q1
      · rcases m with ⟨m1, _⟩ | ⟨_, _, m3⟩
        · exact absurd q1 m1
        · rw [q3, m3]
