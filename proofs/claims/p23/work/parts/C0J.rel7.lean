/-! PACK, AHEAD, SEARCH, TAKE -/
theorem j_Q_ahead {S S1 : jS} {V V1 V2 : jH} {tb p la r r2 : Int} (hc : j_cI S V 0) (hm : j_mI S V 1000) (R : j_R S V) (Q : j_Q V) (n1 : j_cN S V 0 S1 V1) (q : j_try 0 (j_tabN V 0 tb) (j_rowN 0 p) la V r V1) (m : j_r13 1000 tb p la V1 r2 V2) : r = r2 := by
  have e1 : ∀ c : Int, 500 < c → V1 c = V c := fun c hc => (n1.2.2 c (by omega)).2.2
  obtain ⟨U2, hp, -⟩ := m
  exact (j_try_pby hc hm R Q e1 q hp).1
theorem j_Q_pack {S S1 : jS} {V V1 V2 : jH} {tb p la r r2 : Int} (hc : j_cI S V 0) (hm : j_mI S V 1000) (R : j_R S V) (Q : j_Q V) (n1 : j_cN S V 0 S1 V1) (q : j_q12 0 tb p la V r V1) (n2 : j_mN S1 V1 1000 V2) (m : j_r12 1000 tb p la V1 r2 V2) : r = r2 ∧ j_Q V2 := by
  have e1 : ∀ c : Int, 500 < c → V1 c = V c := fun c hc => (n1.2.2 c (by omega)).2.2
  have f2 : ∀ c : Int, c < 1000 → V2 c = V1 c := fun c hc => n2.2.2 c (by omega)
  have cw := j_cw_q12 q
  have mw := j_mw_r12 m
  obtain ⟨W, ht, q⟩ := q
  obtain ⟨U2, hp, m⟩ := m
  obtain ⟨er, tx⟩ := j_try_pby hc hm R Q e1 ht hp
  refine ⟨er, ?_⟩
  rcases q with ⟨r0, e⟩ | ⟨r0, hf⟩
  · rcases m with ⟨_, e'⟩ | ⟨z, _⟩
    · have cw : j_cw V V1 0 200 232 200 232 := by rw [e]; exact j_cw_try (l1 := 200) (h1 := 232) ht
      have mw : j_mw V1 V2 1000 0 0 := by rw [e']; exact (j_mw_pby hp).tr j_mw_md
      exact j_Q_same hm Q n1 cw (fun c hc => (by omega)) (j_h16_cw cw (by omega)) n2 mw (fun c hc => (by omega)) (by rw [e']; exact (j_79_pby hp).tr j_79_md)
    · omega
  · rcases m with ⟨z, _⟩ | ⟨_, hk⟩
    · omega
    · obtain ⟨k, rr, n, B, w, pk, bn, bt, hF, u0⟩ := tx r0
      exact j_Q_blk hm Q n1 cw (Or.inr (by omega)) n2 mw (j_QK_made pk bn bt hf hF u0 hk f2)
theorem j_Q_search {S S1 : jS} {V V1 V2 : jH} {p r r2 : Int} (hc : j_cI S V 0) (hm : j_mI S V 1000) (Q : j_Q V) (n1 : j_cN S V 0 S1 V1) (q : j_q18 0 p V r V1) (qb : 0 ≤ r → j_bst (V (0 + 3 + 2 * p + 1)) (V (0 + 3 + 2 * p) 1) r) (n2 : j_mN S1 V1 1000 V2) (m : j_r18 1000 p V1 r2 V2) (mb : 0 ≤ r2 → j_bst (j_rw V1 1000 p) (V1 (1000 + 2) p) r2) : r = r2 ∧ j_Q V2 := by
  have e1 : ∀ c : Int, 500 < c → V1 c = V c := fun c hc => (n1.2.2 c (by omega)).2.2
  have f2 : ∀ c : Int, c < 1000 → V2 c = V1 c := fun c hc => n2.2.2 c (by omega)
  have cw := j_cw_q18 q
  have mw := j_mw_r18 m
  unfold j_q18 at q
  unfold j_r18 at m
  simp only [Int.zero_add, Int.reduceAdd] at q m qb mb
  rw [e1 1002 (by omega)] at m mb
  by_cases pp : 0 ≤ p ∧ p < 6
  · obtain ⟨p0, p1⟩ := pp
    obtain ⟨k1, k2⟩ := j_Qr Q p0 p1
    have rx := j_mr hm p0 p1
    rw [k1] at q qb
    rcases q with ⟨z, _⟩ | ⟨_, _, q1, q2, q3⟩ | ⟨_, _, q1, k, rr, la, W1, W2, W3, W4, g0, g1, g2, g3, g4, g5, er, fW, hT, hP, hK, hf⟩
    · exact absurd ⟨p0, p1⟩ z
    · rcases m with ⟨z, _⟩ | ⟨_, _, _, m2, m3⟩ | ⟨_, _, z, _⟩
      · exact absurd ⟨p0, p1⟩ z
      · exact ⟨by rw [q3, m3], j_Q_fd hm Q n1 q2 n2 m2⟩
      · exact absurd q1 z
    · rcases m with ⟨z, _⟩ | ⟨_, _, z, _⟩ | ⟨_, _, _, k', rr', la', U1, U2, d0, d1, d2, d3, d4, d5, er', wk, ha, hk⟩
      · exact absurd ⟨p0, p1⟩ z
      · exact absurd z q1
      · have e34 : (3 : Int) + 2 * p + 1 = 4 + 2 * p := by omega
        rw [e34] at qb
        have ewc : ∀ i : Int, 0 ≤ i → i < V 1002 p → j_rw V1 1000 p i = V (4 + 2 * p) i := fun i i0 i1 => by
          show V1 1003 (400 * p + i) = _
          rw [e1 1003 (by omega), k2 i i0 i1]
        have ee : r = r2 := j_best_one rx.1 ewc (qb (by omega)) (mb (by omega))
        refine ⟨ee, ?_⟩
        have ek : k' = k := by omega
        have err : rr' = rr := by omega
        have el : la' = la := by omega
        rw [ek, err, el] at ha
        have hrg : j_sgw (V (4 + 2 * p)) (V 1002 p) := fun i i0 i1 => by rw [k2 i i0 i1]; exact rx.2.2 i i0 i1
        -- the class: the trial table and its bench
        have fT := hT.2.2.2.2.2
        simp only [Int.zero_add] at fT fW
        have w2 : W2 (3 + 2 * p) = V (3 + 2 * p) := by rw [fT _ (by omega), fW _ (by omega)]
        have w2' : W2 (4 + 2 * p) = V (4 + 2 * p) := by rw [fT _ (by omega), fW _ (by omega)]
        have w1 : W1 (3 + 2 * p) = V (3 + 2 * p) := fW _ (by omega)
        have w1' : W1 (4 + 2 * p) = V (4 + 2 * p) := fW _ (by omega)
        have t1 : W2 201 1 = k := hT.1
        have t2 : W2 201 2 = rr := hT.2.1
        have rok : j_rowOK W1 (3 + 2 * p) := ⟨by rw [w1, k1]; exact rx.1, by rw [w1, k1]; exact rx.2.1, by rw [e34, w1, w1', k1]; exact hrg⟩
        have hT0 : j_trial W1 W2 0 k rr (3 + 2 * p) := hT
        obtain ⟨o1, o2, o3⟩ := j_trial_ok g0 g1 g2 g3 rok (by omega) hT0
        simp only [Int.zero_add] at o1 o3
        have hP0 : j_plI W2 200 201 (3 + 2 * p) (W2 (3 + 2 * p) 1) W3 := hP
        have hK0 : j_pkI W3 200 (j_M (W2 201 2)) la (-1) W4 := by rw [t2]; exact hK
        have n0 : 0 ≤ W2 (3 + 2 * p) 1 := by rw [w2, k1]; exact rx.1
        obtain ⟨b1, b2, b3⟩ := j_bnc_of (by omega) g5 hP0 n0 hK0 (fun c c0 c1 => (hK0.1 c (by omega) (by omega) (by omega) (by omega) (by omega)).trans (hP0.1 c (by omega) (by omega) (by omega) (by omega) (by omega) (by omega)))
        rw [t1, t2, e34, w2, w2', k1] at b1 b2
        simp only [Int.reduceAdd] at b1 b2
        have ppk := j_parts_bd k
        have hwB : j_wB (V (4 + 2 * p)) (V 1002 p) k rr (fun y => W2 (204 + 2 * y)) := by
          refine ⟨fun c y j y0 y1 j0 j1 => ?_, fun c y y0 y1 => ?_⟩
          · have z := hT0.2.2.1 c y j y0 (by omega) j0 j1
            simp only [Int.zero_add] at z
            exact z
          · obtain ⟨sh, z1, z2⟩ := hT0.2.2.2.1 c y y0 y1
            rw [e34, w1, w1', k1] at z1
            refine ⟨sh, z1, fun j j0 j1 => ?_⟩
            have z := z2 j j0 j1
            simp only [Int.zero_add] at z
            exact z
        -- the reference
        obtain ⟨W, hp, hd, hk2, u0, u1⟩ := ha
        obtain ⟨h1, h2, h3, h4, h5, h6⟩ := hp
        have wk2 : ∀ c : Int, c < 1018 → c ≠ 1000 → U1 c = V1 c := fun c c0 c1 => wk.1 c c1 (by omega)
        have ew3 : j_rw W 1000 p = j_rw V1 1000 p := by unfold j_rw; rw [h6 (1000 + 3) (by omega) (by omega) (by omega) (by omega), wk2 _ (by omega) (by omega)]
        have ew4 : j_rw U1 1000 p = j_rw V1 1000 p := by unfold j_rw; rw [wk2 _ (by omega) (by omega)]
        have ec2 : W (1000 + 2) p = V 1002 p := by
          rw [h6 (1000 + 2) (by omega) (by omega) (by omega) (by omega), wk2 _ (by omega) (by omega)]
          show V1 1002 p = _
          rw [e1 1002 (by omega)]
        have ec4 : U1 (1000 + 2) p = V 1002 p := by
          rw [wk2 _ (by omega) (by omega)]
          show V1 1002 p = _
          rw [e1 1002 (by omega)]
        have hwB2 : j_wB (V (4 + 2 * p)) (V 1002 p) k rr (j_rB (W 1021)) := by
          refine ⟨fun c y j y0 y1 j0 j1 => ?_, fun c y y0 y1 => ?_⟩
          · unfold j_start j_rB
            rw [if_pos (by omega)]
            have g : ∀ m : Nat, m ≤ 256 → j_pre (j_rs (W 1021) (256 * y)) m = m * (j_M rr / 256) := by
              intro m
              induction m with
              | zero => intro _; show (0 : Int) = 0 * _; omega
              | succ m ih =>
                intro x
                rw [show ((m + 1 : Nat) : Int) = (m : Int) + 1 by omega, j_pre_s _ (by omega), ih (by omega), Int.add_mul]
                have e : j_rs (W 1021) (256 * y) m = j_M rr / 256 := h5 c _ (by omega) (by omega)
                omega
            have := g j.toNat (by omega)
            rw [show ((j.toNat : Nat) : Int) = j by omega] at this
            exact this
          · have z := h4 c y y0 y1
            rw [ew4, ec4] at z
            exact ⟨_, j_deal_congr (fun s _ _ => j_count_w (fun i i0 i1 => (ewc i i0 i1).symm)) z, fun j j0 j1 => rfl⟩
        have hB := j_wB_one hwB hwB2
        obtain ⟨-, -, mm, hmm, hx⟩ := hk2
        rw [h1, ec2, ew3] at hx
        have hF : j_F U2 1000 = j_TX k rr la (V 1002 p) (fun y => W2 (204 + 2 * y)) (V (4 + 2 * p)) := by
          rw [← j_TX_c rx.1 hrg hB ewc]
          rcases hx with ⟨z1, z2⟩ | ⟨_, _, _, _, z⟩
          · omega
          · exact z
        have pk : j_pkt k rr la (V 1002 p) (fun y => W2 (204 + 2 * y)) (V (4 + 2 * p)) := by
          refine ⟨⟨(by omega), g1⟩, ⟨g2, g3⟩, ⟨g4, g5⟩, ⟨rx.1, rx.2.1⟩, fun y y0 y1 => ?_, fun td y j y0 y1 j0 j1 => hwB.1 (fun z => td (by rcases z with z | z; exact Or.inr (Or.inl z); exact Or.inr (Or.inr z))) y j y0 y1 j0 j1, hrg, fun i i0 i1 => ?_⟩
          · have z := o1.2.2 y y0 (by rw [t1]; exact y1)
            rw [t2] at z
            simp only [Int.reduceAdd] at z
            exact z
          · have z := o3 i i0 (by rw [w2, k1]; exact i1)
            unfold j_Dt at z
            rw [t1, t2, e34, w2'] at z
            simp only [Int.reduceAdd] at z
            exact z
        exact j_Q_blk hm Q n1 cw (Or.inr (by omega)) n2 mw (j_QK_made (t := 201) pk b1 b2 hf hF u0 hk f2)
  · rcases q with ⟨_, q2, q3⟩ | ⟨z0, z1, _⟩ | ⟨z0, z1, _⟩
    · rcases m with ⟨_, m2, m3⟩ | ⟨z0, z1, _⟩ | ⟨z0, z1, _⟩
      · exact ⟨by rw [q3, m3], j_Q_fd hm Q n1 q2 n2 m2⟩
      · exact absurd ⟨z0, z1⟩ pp
      · exact absurd ⟨z0, z1⟩ pp
    · exact absurd ⟨z0, z1⟩ pp
    · exact absurd ⟨z0, z1⟩ pp
/-- whether a block that reads well can be taken -/
def j_tkn (f : Int → Int) (len : Int) : Prop := ∃ (X w : Int → Int), j_TS f len (j_h4 f len).1.toNat = some (X, 0, w) ∧ ∀ y : Int, 0 ≤ y → y < (j_h3 f len).1 → X y = j_M (j_h2 f len).1
theorem j_tkn_ag {V V' : jH} {a x : Int} (hb : j_mbk V a) (hr : j_rt (V (a + 8)) (V (a + 1) 7)) (h : j_ag V V' a x) : j_says x (j_tkn (V (a + 8)) (V (a + 1) 7)) := by
  obtain ⟨V0, p3, F2, sy, rk⟩ := h
  have bd := j_rt_bd hb.1 hb.2.2 hr
  obtain ⟨F, v9, v10, v23, v24, v25, v26, v27, hD⟩ := p3
  have e8 : V0 (a + 8) = V (a + 8) := F.1 _ (by omega) (by omega)
  have e1 : V0 (a + 1) = V (a + 1) := F.1 _ (by omega) (by omega)
  generalize eF : V (a + 8) = f at *
  generalize eL : V (a + 1) 7 = len at *
  obtain ⟨k0, r01, l01, n01, pb, hX, hS, hdl⟩ := bd
  have TR : ∀ n : Nat, j_TR V0 a (j_h2 f len).1 n = j_tk f len (j_hS f len).2.1 (j_M (j_h2 f len).1) (j_h3 f len).1 (j_h1 f len).1 (j_h2 f len).1 (j_rB (V0 (a + 21))) (fun l => j_val f ((j_hP f len).1 + 3 * l) 3) (j_hS f len).1 n := fun n => by
    unfold j_TR
    rw [e8, e1, eL, v26, v23, v9, v25, v27]
  have cc : ∀ n : Nat, (j_TS f len n = none ∧ j_TR V0 a (j_h2 f len).1 n = none) ∨ ∃ (Y Y' : Int → Int) (v : Int) (w : Int → Int), j_TS f len n = some (Y, v, w) ∧ j_TR V0 a (j_h2 f len).1 n = some (Y', v, w) ∧ ∀ l : Int, 0 ≤ l → l < (j_h3 f len).1 → Y' l = Y l := fun n => by
    rw [TR n]
    exact j_tk_c l01.1 (fun l q0 q1 => ((hX l q0 q1).1).symm) (fun p j p0 p1 j0 j1 => hD p j p0 p1 j0 j1) n
  refine sy.iff ⟨?_, ?_⟩
  · rintro ⟨X, w, t1, t2⟩
    rw [v24] at t1
    rw [v23] at t2
    rcases cc (j_h4 f len).1.toNat with ⟨_, z⟩ | ⟨Y, Y', v, w2, z1, z2, z3⟩
    · rw [t1] at z; cases z
    · rw [t1] at z2
      injection z2 with z2
      injection z2 with g1 z2
      injection z2 with g2 g3
      rw [← g2, ← g3] at z1
      exact ⟨Y, w, z1, fun y y0 y1 => by rw [← z3 y y0 y1, ← g1]; exact t2 y y0 y1⟩
  · rintro ⟨X, w, t1, t2⟩
    unfold j_rkT
    rw [v24, v23]
    rcases cc (j_h4 f len).1.toNat with ⟨z, _⟩ | ⟨Y, Y', v, w2, z1, z2, z3⟩
    · rw [t1] at z; cases z
    · rw [t1] at z1
      injection z1 with z1
      injection z1 with g1 z1
      injection z1 with g2 g3
      rw [← g2, ← g3] at z2
      exact ⟨Y', w, z2, fun y y0 y1 => by rw [z3 y y0 y1, ← g1]; exact t2 y y0 y1⟩
/-- the class takes a block that reads well -/
theorem j_takes_c {V W : jH} {b e : Int} (hl : 0 ≤ V b 1) (hf : ∀ i : Int, 0 ≤ i → i < V b 1 → 0 ≤ V (b + 1) i ∧ V (b + 1) i ≤ 255) (hr : j_rt (V (b + 1)) (V b 1)) (hB : j_before V W b e) : ∀ n : Nat, (j_TS (V (b + 1)) (V b 1) n = none ∧ j_TK W e b (j_h3 (V (b + 1)) (V b 1)).1 (j_hS (V (b + 1)) (V b 1)).2.1 (j_hS (V (b + 1)) (V b 1)).1 n = none) ∨ ∃ (Y Y' : Int → Int) (v : Int) (w : Int → Int), j_TS (V (b + 1)) (V b 1) n = some (Y, v, w) ∧ j_TK W e b (j_h3 (V (b + 1)) (V b 1)).1 (j_hS (V (b + 1)) (V b 1)).2.1 (j_hS (V (b + 1)) (V b 1)).1 n = some (Y', v, w) ∧ ∀ l : Int, 0 ≤ l → l < (j_h3 (V (b + 1)) (V b 1)).1 → Y' l = Y l := by
  intro n
  obtain ⟨c1, c2, c3, c4, c5, c6⟩ := hB
  obtain ⟨k0, r01, l01, n01, pb, hX, hS, hdl⟩ := j_rt_bd hl hf hr
  have pp := j_parts_bd (j_h1 (V (b + 1)) (V b 1)).1
  have eT : j_TK W e b (j_h3 (V (b + 1)) (V b 1)).1 (j_hS (V (b + 1)) (V b 1)).2.1 (j_hS (V (b + 1)) (V b 1)).1 n = j_tk (V (b + 1)) (V b 1) (j_hS (V (b + 1)) (V b 1)).2.1 (j_M (j_h2 (V (b + 1)) (V b 1)).1) (j_h3 (V (b + 1)) (V b 1)).1 (j_h1 (V (b + 1)) (V b 1)).1 (j_h2 (V (b + 1)) (V b 1)).1 (fun p => W (e + 1 + 3 + 2 * p)) (W (e + 20)) (j_hS (V (b + 1)) (V b 1)).1 n := by
    unfold j_TK
    rw [c1, c2, c5, c6]
  rw [eT]
  exact j_tk_c l01.1 (fun l q0 q1 => c4 l q0 q1) (fun p j p0 p1 j0 j1 => c3 p j p0 (by omega) j0 j1) n
theorem j_tkn_takes {V W : jH} {b e : Int} (hl : 0 ≤ V b 1) (hf : ∀ i : Int, 0 ≤ i → i < V b 1 → 0 ≤ V (b + 1) i ∧ V (b + 1) i ≤ 255) (hr : j_rt (V (b + 1)) (V b 1)) (hB : j_before V W b e) : j_takes W e b (j_h3 (V (b + 1)) (V b 1)).1 (j_hS (V (b + 1)) (V b 1)).2.1 (j_hS (V (b + 1)) (V b 1)).1 (j_h4 (V (b + 1)) (V b 1)).1 ↔ j_tkn (V (b + 1)) (V b 1) := by
  have cc := j_takes_c hl hf hr hB (j_h4 (V (b + 1)) (V b 1)).1.toNat
  have c2 := hB.2.1
  constructor
  · rintro ⟨X, w, t1, t2⟩
    rw [c2] at t2
    rcases cc with ⟨_, z⟩ | ⟨Y, Y', v, w2, z1, z2, z3⟩
    · rw [t1] at z; cases z
    · rw [t1] at z2
      injection z2 with z2
      injection z2 with g1 z2
      injection z2 with g2 g3
      rw [← g2, ← g3] at z1
      exact ⟨Y, w, z1, fun y y0 y1 => by rw [← z3 y y0 y1, ← g1]; exact t2 y y0 y1⟩
  · rintro ⟨X, w, t1, t2⟩
    rcases cc with ⟨z, _⟩ | ⟨Y, Y', v, w2, z1, z2, z3⟩
    · rw [t1] at z; cases z
    · rw [t1] at z1
      injection z1 with z1
      injection z1 with g1 z1
      injection z1 with g2 g3
      rw [← g2, ← g3] at z2
      exact ⟨Y', w, z2, fun y y0 y1 => by rw [c2, z3 y y0 y1, ← g1]; exact t2 y y0 y1⟩
theorem j_tkI_stp {V W V' : jH} {b e : Int} (hl : 0 ≤ V b 1) (hf : ∀ i : Int, 0 ≤ i → i < V b 1 → 0 ≤ V (b + 1) i ∧ V (b + 1) i ≤ 255) (hr : j_rt (V (b + 1)) (V b 1)) (hB : j_before V W b e) (hT : j_takes W e b (j_h3 (V (b + 1)) (V b 1)).1 (j_hS (V (b + 1)) (V b 1)).2.1 (j_hS (V (b + 1)) (V b 1)).1 (j_h4 (V (b + 1)) (V b 1)).1) (hI : j_tkI W e b (j_h3 (V (b + 1)) (V b 1)).1 (j_hS (V (b + 1)) (V b 1)).2.1 (j_hS (V (b + 1)) (V b 1)).1 (j_h4 (V (b + 1)) (V b 1)).1 V') (h5 : V' (e + 14) 5 = (j_h4 (V (b + 1)) (V b 1)).1) : j_stp (V (b + 1)) (V b 1) V' (e + 14) := by
  have cc := j_takes_c hl hf hr hB
  obtain ⟨k0, r01, l01, n01, pb, hX, hS, hdl⟩ := j_rt_bd hl hf hr
  obtain ⟨X, w, t1, t2⟩ := (j_tkn_takes hl hf hr hB).mp hT
  obtain ⟨X1, u1, w1, i1, i2, i3, i4, i5, i6, i7, i8, i9, i10⟩ := hI
  obtain ⟨c1, c2, c3, c4, c5, c6⟩ := hB
  have ew : w1 = w := by
    rcases cc (j_h4 (V (b + 1)) (V b 1)).1.toNat with ⟨z, _⟩ | ⟨Y, Y', v, w2, z1, z2, z3⟩
    · rw [t1] at z; cases z
    · rw [t1] at z1
      rw [i1] at z2
      injection z1 with z1
      injection z1 with g1 z1
      injection z1 with g2 g3
      injection z2 with z2
      injection z2 with q1 z2
      injection z2 with q2 q3
      rw [g3, q3]
  rw [ew] at i10 i4
  refine ⟨h5, X, w, t1, t2, fun x x0 x1 => ?_⟩
  obtain ⟨a1, a2, a3, X', u', w', a4, a5, a6⟩ := i10 x x0 x1
  have wr := i4 x x0 x1
  have pp := j_parts_bd (j_h1 (V (b + 1)) (V b 1)).1
  have eD : ∀ j : Int, 0 ≤ j → j ≤ 256 → j_DK W e w x j = j_DS (V (b + 1)) (V b 1) w x j := fun j j0 j1 => by
    show j_D (W (e + 1) 1) (W (e + 1) 2) _ _ _ _ = _
    rw [c1, c2]
    exact j_D_B (fun p j p0 p1 j0 j1 => c3 p j p0 (by omega) j0 j1) j0 j1
  have m0 : 0 ≤ x % (j_h3 (V (b + 1)) (V b 1)).1 := Int.emod_nonneg _ (by omega)
  have m1 : x % (j_h3 (V (b + 1)) (V b 1)).1 < (j_h3 (V (b + 1)) (V b 1)).1 := Int.emod_lt_of_pos _ (by omega)
  have st : ∃ Y : Int → Int, j_TS (V (b + 1)) (V b 1) (x + 1).toNat = some (Y, u', w') ∧ X' (x % (j_h3 (V (b + 1)) (V b 1)).1) = Y (x % (j_h3 (V (b + 1)) (V b 1)).1) := by
    rcases cc (x + 1).toNat with ⟨_, z⟩ | ⟨Y, Y', v, w2, z1, z2, z3⟩
    · rw [a4] at z; cases z
    · rw [a4] at z2
      injection z2 with z2
      injection z2 with q1 z2
      injection z2 with q2 q3
      rw [← q2, ← q3] at z1
      exact ⟨Y, z1, by rw [q1]; exact z3 _ m0 m1⟩
  obtain ⟨Y, y1, y2⟩ := st
  rw [show e + 14 + 1 = e + 15 by omega, show e + 14 + 2 = e + 16 by omega, show e + 14 + 3 = e + 17 by omega, show e + 14 + 4 = e + 18 by omega, show e + 14 + 5 = e + 19 by omega]
  refine ⟨a1, ?_, by rw [a3, eD _ wr.1 (by omega)], Y, u', w', y1, by rw [a5, y2], a6⟩
  rw [a2]
  show j_DK W e w x (w x + 1) - j_DK W e w x (w x) = j_DS (V (b + 1)) (V b 1) w x (w x + 1) - j_DS (V (b + 1)) (V b 1) w x (w x)
  rw [eD _ (by omega) (by omega), eD _ wr.1 (by omega)]
theorem j_Q_take {S S1 : jS} {V V1 V2 : jH} {p r r2 : Int} (hm : j_mI S V 1000) (Q : j_Q V) (n1 : j_cN S V 0 S1 V1) (hm1 : j_mI S1 V1 1000) (q : j_q14 0 p V r V1) (n2 : j_mN S1 V1 1000 V2) (m : j_r14 1000 p V1 r2 V2) : r = r2 ∧ j_Q V2 := by
  have e1 : ∀ c : Int, 500 < c → V1 c = V c := fun c hc => (n1.2.2 c (by omega)).2.2
  have f2 : ∀ c : Int, c < 1000 → V2 c = V1 c := fun c hc => n2.2.2 c (by omega)
  obtain ⟨k1, k2, k3, k4⟩ := j_Qk Q
  have mB : j_mB V 1001 := hm.2.2.2.1.2.2
  have mbk : j_mbk V 1000 := j_mB_bk mB
  have mbk1 : j_mbk V1 1000 := j_mB_bk hm1.2.2.2.1.2.2
  have l0 : 0 ≤ V 1001 7 := mB.1.1
  have by8 : ∀ i : Int, 0 ≤ i → i < V 1001 7 → 0 ≤ V 1008 i ∧ V 1008 i ≤ 255 := mB.1.2.2
  have cw := j_cw_q14 q
  have mw := j_mw_r14 m
  unfold j_q14 at q
  unfold j_r14 at m
  simp only [Int.zero_add, Int.reduceAdd] at q m cw mw
  by_cases pp : 0 ≤ p ∧ p < 6
  · obtain ⟨p0, p1⟩ := pp
    rcases q with ⟨z, _⟩ | ⟨_, _, x, Vx, hF, q⟩
    · exact absurd ⟨p0, p1⟩ z
    rcases m with ⟨z, _⟩ | ⟨_, _, y, Ux, hT, m⟩
    · exact absurd ⟨p0, p1⟩ z
    -- both read the same bytes
    obtain ⟨fF, hF⟩ := hF
    obtain ⟨wk, hT⟩ := hT
    simp only [Int.reduceAdd] at hF hT fF
    rw [k1] at hF
    rw [e1 1008 (by omega), e1 1001 (by omega)] at hT
    obtain ⟨c1, c2, c3, c4, c5, c6, c7, c8⟩ := j_h_congr (f := V 1008) (g := V 17) l0 k2
    rw [c4, c8] at hF
    have failed : ∀ z : Int, 0 ≤ z → x = z → y = z → r = r2 ∧ j_Q V2 := by
      intro z z0 zx zy
      rcases q with ⟨_, q2, q3⟩ | ⟨q1, _⟩
      · rcases m with ⟨_, m2, m3⟩ | ⟨m1, _⟩
        · refine ⟨by rw [q3, m3, zx, zy], ?_⟩
          have cw' : j_cw V V1 0 200 240 200 240 := by
            have n1' : j_cw V Vx 0 200 240 200 240 := j_cw_fr (by omega) (by omega) (fun c _ hc => fF c (by omega) (by omega))
            rw [q2]; exact n1'.tr j_cw_fd
          have mw' : j_mw V1 V2 1000 0 0 := by rw [m2]; exact (j_mw_wk wk).tr j_mw_md
          exact j_Q_same hm Q n1 cw' (fun c hc => (by omega)) (j_h16_cw cw' (by omega)) n2 mw' (fun c hc => (by omega)) (by rw [m2]; exact (j_79_wk wk).tr j_79_md)
        · omega
      · omega
    rcases hF with ⟨a1, a2⟩ | ⟨a1, a2, a3⟩ | ⟨a1, a2, W, hB, hF⟩
    · rcases hT with ⟨_, b2⟩ | ⟨b1, _⟩ | ⟨b1, _⟩
      · exact failed _ a1 a2 b2
      · omega
      · exact absurd b1.1 (by omega)
    · rcases hT with ⟨b1, _⟩ | ⟨_, _, b3⟩ | ⟨b1, _⟩
      · omega
      · exact failed _ a2 a3 b3
      · exact absurd b1.2 (by omega)
    · rcases hT with ⟨b1, _⟩ | ⟨_, b1, _⟩ | ⟨rt, hT⟩
      · omega
      · omega
      · have rt17 : j_rt (V 17) (V 1001 7) := ⟨by rw [c4]; exact a1, by rw [c8]; exact a2⟩
        have l16 : 0 ≤ V 16 1 := by rw [k1]; exact l0
        have by17 : ∀ i : Int, 0 ≤ i → i < V 16 1 → 0 ≤ V (16 + 1) i ∧ V (16 + 1) i ≤ 255 := fun i i0 i1 => by
          rw [k1] at i1
          show 0 ≤ V 17 i ∧ V 17 i ≤ 255
          rw [k2 i i0 i1]; exact by8 i i0 i1
        have rt16 : j_rt (V (16 + 1)) (V 16 1) := by rw [k1]; exact rt17
        have rtU : j_rt (V1 (1000 + 8)) (V1 (1000 + 1) 7) := by
          show j_rt (V1 1008) (V1 1001 7)
          rw [e1 1008 (by omega), e1 1001 (by omega)]; exact rt
        have tk := j_tkn_takes l16 by17 rt16 hB
        have tk : j_takes W 200 16 (j_h3 (V 17) (V 16 1)).1 (j_hS (V 17) (V 16 1)).2.1 (j_hS (V 17) (V 16 1)).1 (j_h4 (V 17) (V 16 1)).1 ↔ j_tkn (V 17) (V 16 1) := tk
        rw [k1, c4] at tk
        have tE : j_tkn (V 17) (V 1001 7) ↔ j_tkn (V 1008) (V 1001 7) := by
          unfold j_tkn
          have bd := j_rt_bd l0 by8 rt
          have eT : ∀ n : Nat, j_TS (V 17) (V 1001 7) n = j_TS (V 1008) (V 1001 7) n := fun n => by
            show j_tk (V 17) (V 1001 7) (j_hS (V 17) (V 1001 7)).2.1 (j_M (j_h2 (V 17) (V 1001 7)).1) (j_h3 (V 17) (V 1001 7)).1 (j_h1 (V 17) (V 1001 7)).1 (j_h2 (V 17) (V 1001 7)).1 (j_hP (V 17) (V 1001 7)).2.2 (j_hX (V 17) (V 1001 7)).1 (j_hS (V 17) (V 1001 7)).1 n = _
            rw [c1, c2, c3, c5, c6, c7]
            exact j_tk_f bd.2.2.2.2.2.2.1.1 k2 n
          rw [eT, c2, c3, c4]
        have agU : ∀ {z : Int}, j_ag V1 Ux 1000 z → j_says z (j_tkn (V 1008) (V 1001 7)) := fun {z} ag => by
          have s := j_tkn_ag mbk1 rtU ag
          have s : j_says z (j_tkn (V1 1008) (V1 1001 7)) := s
          rw [e1 1008 (by omega), e1 1001 (by omega)] at s
          exact s
        rcases hF with ⟨x0, tk1, tkI, n5, _⟩ | ⟨tk1, ex⟩
        · have good := tE.mp (tk.mp tk1)
          have ag : y = -1 ∧ j_ag V1 Ux 1000 1 := by
            rcases hT with z | ⟨_, z⟩
            · exact z
            · exact absurd good ((agU z).n rfl)
          have stpX : j_stp (V 17) (V 1001 7) Vx 214 := by
            have z := j_tkI_stp l16 by17 rt16 hB (by show j_takes W 200 16 (j_h3 (V 17) (V 16 1)).1 (j_hS (V 17) (V 16 1)).2.1 (j_hS (V 17) (V 16 1)).1 (j_h4 (V 17) (V 16 1)).1; rw [k1, c4]; exact tk1) (by show j_tkI W 200 16 (j_h3 (V 17) (V 16 1)).1 (j_hS (V 17) (V 16 1)).2.1 (j_hS (V 17) (V 16 1)).1 (j_h4 (V 17) (V 16 1)).1 Vx; rw [k1, c4]; exact tkI) (by show Vx 214 5 = (j_h4 (V 17) (V 16 1)).1; rw [k1, c4]; exact n5)
            have z : j_stp (V 17) (V 16 1) Vx 214 := z
            rw [k1] at z
            exact z
          have stp8 : j_stp (V 1008) (V 1001 7) Vx 214 := j_stp_c l0 (fun i i0 i1 => by rw [k2 i i0 i1]; exact by8 i i0 i1) rt17 (fun i i0 i1 => (k2 i i0 i1).symm) rfl (fun _ _ _ _ _ _ => rfl) stpX
          obtain ⟨-, d1, d2, d3⟩ := j_ag_stp (s := 214) (U := Vx) mbk1 rtU (by show j_stp (V1 1008) (V1 1001 7) Vx 214; rw [e1 1008 (by omega), e1 1001 (by omega)]; exact stp8) ag.2
          rcases q with ⟨z, _⟩ | ⟨_, q3, v1, v2, v3, v4, v5, v6⟩
          · omega
          rcases m with ⟨z, _⟩ | ⟨_, m3, u2, u3, u4, u1, u6⟩
          · omega
          have wk2 : ∀ c : Int, c < 1018 → c ≠ 1000 → Ux c = V1 c := fun c c0 c1 => wk.1 c c1 (by omega)
          have fx : ∀ c : Int, (c < 200 ∨ 240 < c) → Vx c = V c := fun c hc => fF c (by omega) (by omega)
          refine ⟨by rw [q3, m3, d1], ?_⟩
          have f1 : ∀ c : Int, (31 ≤ c ∧ c ≤ 130 ∨ c = 241 ∨ 300 ≤ c ∧ c ≤ 429) → V1 c = V c := fun c hc => by rw [v6 c (by omega) (by omega) (by omega) (by omega), fx c (by omega)]
          have g2 : ∀ c : Int, (1004 ≤ c ∧ c ≤ 1017) → V2 c = V1 c := fun c hc => by rw [u6 c (by omega) (by omega) (by omega), wk2 c (by omega) (by omega)]
          refine j_Q_now Q hm n1 n2 (fun c c0 c1 => f1 c (by omega)) (fun c c0 c1 => g2 c (by omega)) mw.1.1 (j_QN_s Q n1 n2 (j_R0_cw cw) (f1 241 (by omega)) (g2 1017 (by omega))) (fun t t0 t1 => ?_) (j_QD_s Q hm n1 n2 (fun c c0 c1 => f1 c (by omega)) mw.2.1 (fun c c0 c1 => g2 c (by omega))) ?_
          · show V2 (3 + 2 * t) 1 = V2 1002 t ∧ ∀ i : Int, 0 ≤ i → i < V2 1002 t → V2 (4 + 2 * t) i = V2 1003 (400 * t + i)
            rw [f2 (3 + 2 * t) (by omega), f2 (4 + 2 * t) (by omega)]
            have rx := j_mr hm t0 t1
            by_cases e : t = p
            · rw [e, v1, u2, j_u_at]
              refine ⟨d1.symm, fun i i0 i1 => ?_⟩
              rw [d1] at i1
              have z := (d3 i i0 i1).1
              rw [v2 i i0 i1, u3 i i0 (by rw [d1]; exact i1)]
              exact z.symm
            · obtain ⟨y1, y2⟩ := j_Qr Q t0 t1
              rw [v6 (3 + 2 * t) (by omega) (by omega) (by omega) (by omega), v6 (4 + 2 * t) (by omega) (by omega) (by omega) (by omega), fx (3 + 2 * t) (by omega), fx (4 + 2 * t) (by omega), u2, j_u_ne e, wk2 1002 (by omega) (by omega), e1 1002 (by omega)]
              refine ⟨y1, fun i i0 i1 => ?_⟩
              rw [y2 i i0 i1, u4 _ (by have z := d2.2; rw [← d1] at z; have z : Ux 1000 24 ≤ 400 := z; omega), wk2 1003 (by omega) (by omega), e1 1003 (by omega)]
          · have h161 : V1 16 1 = V 16 1 := by rw [v4 1 (by omega), fx 16 (by omega)]
            have g7 : V2 1001 7 = V 1001 7 := by rw [u1, j_u_ne (by decide), j_u_ne (by decide), wk2 1001 (by omega) (by omega), e1 1001 (by omega)]
            have g9 : V2 1001 9 = 1 := by rw [u1, j_u_ne (by decide), j_u_at]
            have g8 : V2 1008 = V 1008 := by rw [g2 1008 (by omega), e1 1008 (by omega)]
            have v17 : V1 17 = V 17 := by rw [v6 17 (by omega) (by omega) (by omega) (by omega), fx 17 (by omega)]
            refine ⟨by show V2 16 1 = V2 1001 7; rw [f2 16 (by omega), h161, k1, g7], ?_, by show V2 16 2 = V2 1001 9; rw [f2 16 (by omega), v3, g9], fun _ => ?_⟩
            · show ∀ i : Int, 0 ≤ i → i < V2 1001 7 → V2 17 i = V2 1008 i
              rw [g7, f2 17 (by omega), g8, v17]
              exact k2
            · show j_stp (V2 1008) (V2 1001 7) V2 18
              rw [g8, g7]
              refine j_stp_c l0 by8 rt (fun _ _ _ => rfl) ?_ ?_ stp8
              · rw [f2 18 (by omega)]; exact v5.1
              · intro z i z0 z1 i0 i1
                rw [f2 _ (by omega)]
                exact v5.2 z i z0 z1 i0 i1
        · have bad : ¬ j_tkn (V 1008) (V 1001 7) := fun z => tk1 (tk.mpr (tE.mpr z))
          have ey : y = (j_hP (V 1008) (V 1001 7)).1 := by
            rcases hT with ⟨_, z⟩ | ⟨z, _⟩
            · exact absurd ((agU z).y (by decide)) bad
            · exact z
          have bd := j_rt_bd l0 by8 rt
          rw [c5] at ex
          exact failed _ bd.2.2.2.2.1.1 ex ey
  · rcases q with ⟨_, q2, q3⟩ | ⟨z0, z1, _⟩
    · rcases m with ⟨_, m2, m3⟩ | ⟨z0, z1, _⟩
      · exact ⟨by rw [q3, m3], j_Q_fd hm Q n1 q2 n2 m2⟩
      · exact absurd ⟨z0, z1⟩ pp
    · exact absurd ⟨z0, z1⟩ pp
