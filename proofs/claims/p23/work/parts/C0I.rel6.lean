/-! PACKING -/
def j_pkt (k r la n : Int) (B : Int → Int → Int) (w : Int → Int) : Prop := (0 ≤ k ∧ k ≤ 4) ∧ (8 ≤ r ∧ r ≤ 12) ∧ (1 ≤ la ∧ la ≤ 4) ∧ (0 ≤ n ∧ n ≤ 400) ∧ (∀ p : Int, 0 ≤ p → p < j_parts k → j_dl (B p) 0 (j_M r)) ∧ (¬ j_isTold k → ∀ p j : Int, 0 ≤ p → p < j_parts k → 0 ≤ j → j ≤ 256 → B p j = j_start k r j) ∧ j_sgw w n ∧ ∀ i : Int, 0 ≤ i → i < n → j_rf k r B w i ≠ 0
def j_TX (k r la n : Int) (B : Int → Int → Int) (w : Int → Int) : List Int := j_text k r la n B (j_rX k r la B w n).1 (j_rX k r la B w n).2.1 (j_rX k r la B w n).2.2
theorem j_TX_c {k r la n : Int} {B B' : Int → Int → Int} {w w' : Int → Int} (n0 : 0 ≤ n) (hw : j_sgw w n) (hB : ∀ p j : Int, 0 ≤ p → p < j_parts k → 0 ≤ j → j ≤ 256 → B' p j = B p j) (he : ∀ i : Int, 0 ≤ i → i < n → w' i = w i) : j_TX k r la n B' w' = j_TX k r la n B w := by
  have e : j_rX k r la B' w' n = j_rX k r la B w n := by rw [j_rX_w n0 he, j_rX_B hw n0 hB]
  have tp := j_toldP_parts k
  unfold j_TX
  rw [e]
  exact j_text_congr (fun p j p0 p1 j0 j1 => hB p j p0 (by omega) j0 j1) (fun _ _ _ => rfl) (fun _ _ _ => rfl)
/-- the steps on a bench -/
def j_bnc (V : jH) (k r la n : Int) (B : Int → Int → Int) (w : Int → Int) : Prop := V 214 5 = n ∧ ∀ x : Int, 0 ≤ x → x < n → V 215 x = w x ∧ V 218 x = j_rf k r B w x ∧ V 219 x = j_rb k r B w x ∧ V 216 x = (j_pX (j_M r) la n (j_rf k r B w) (j_rb k r B w) (n.toNat - (x + 1).toNat)).1 (x % la) ∧ V 217 x = (j_pX (j_M r) la n (j_rf k r B w) (j_rb k r B w) (n.toNat - (x + 1).toNat)).2.1
theorem j_bnc_of {V V1 V2 : jH} {t w la : Int} (l0 : 0 ≤ la) (l1 : la ≤ 4) (hP : j_plI V 200 t w (V w 1) V1) (n0 : 0 ≤ V w 1) (hK : j_pkI V1 200 (j_M (V t 2)) la (-1) V2) (ht : ∀ c : Int, t ≤ c → c ≤ t + 9 → V2 c = V c) : j_bnc V2 (V t 1) (V t 2) la (V w 1) (fun p => V (t + 3 + 2 * p)) (V (w + 1)) ∧ j_benchT V2 t 200 la = j_TX (V t 1) (V t 2) la (V w 1) (fun p => V (t + 3 + 2 * p)) (V (w + 1)) ∧ V2 200 5 = (j_rX (V t 1) (V t 2) la (fun p => V (t + 3 + 2 * p)) (V (w + 1)) (V w 1)).2.1 := by
  obtain ⟨b1, b2, b3, b4⟩ := j_bench_X hP n0 rfl rfl rfl hK
  obtain ⟨-, -, f3, -, -, f6⟩ := hP
  obtain ⟨k1, -⟩ := hK
  simp only [Int.reduceAdd] at b1 b2 b3 b4 f3 f6 k1
  have c14 : V2 214 = V1 214 := k1 _ (by omega) (by omega) (by omega) (by omega) (by omega)
  have c15 : V2 215 = V1 215 := k1 _ (by omega) (by omega) (by omega) (by omega) (by omega)
  have c18 : V2 218 = V1 218 := k1 _ (by omega) (by omega) (by omega) (by omega) (by omega)
  have c19 : V2 219 = V1 219 := k1 _ (by omega) (by omega) (by omega) (by omega) (by omega)
  refine ⟨⟨by rw [c14, f3], fun x x0 x1 => ?_⟩, ?_, b1⟩
  · obtain ⟨a1, a2, a3⟩ := f6 x x0 x1
    obtain ⟨a4, a5⟩ := b4 x x0 x1
    exact ⟨by rw [c15, a1], by rw [c18, a2]; rfl, by rw [c19, a3]; rfl, a4, a5⟩
  · unfold j_benchT j_TX
    simp only [Int.reduceAdd]
    rw [ht t (by omega) (by omega), c14, f3, b1]
    have tp := j_toldP_bd (V t 1)
    refine j_text_congr (fun p j p0 p1 j0 j1 => ?_) (fun l q0 q1 => b2 l q0 (by omega)) (fun i i0 i1 => b3 i i0 (by rw [b1]; exact i1))
    show V2 (t + 3 + 2 * p) j = V (t + 3 + 2 * p) j
    rw [ht _ (by omega) (by omega)]
theorem j_B_Bl (V : jH) (a : Int) : j_B V a = j_Bl (V (a + 1)) (V a 1) := rfl
/-- a packed row becomes THE BLOCK on both sides -/
theorem j_QK_made {Vc V1 U2 V2 : jH} {k r la n t : Int} {B : Int → Int → Int} {w : Int → Int} (pk : j_pkt k r la n B w) (bn : j_bnc Vc k r la n B w) (bt : j_benchT Vc t 200 la = j_TX k r la n B w) (hf : j_filled 0 t la Vc V1) (hF : j_F U2 1000 = j_TX k r la n B w) (u0 : 0 ≤ U2 1000 20) (hk : j_mkb U2 V2 1000) (f2 : ∀ c : Int, c < 1000 → V2 c = V1 c) : j_QK V2 V2 1 1001 := by
  obtain ⟨-, W, x1, x2, x3, x4⟩ := hf
  simp only [Int.zero_add] at x1 x2 x3 x4
  rw [bt, j_B_Bl] at x1
  obtain ⟨s1, s2, s3⟩ := j_stepsBe_at (V := j_up (j_up W 16 4 0) 16 2 1) (a := 18) (o := 214) (by omega)
  rw [← x4] at s1 s2 s3
  obtain ⟨m1, m2, m3⟩ := hk
  simp only [Int.reduceAdd] at m1 m2 m3 x1
  have hF : j_Bl (U2 1026) (U2 1000 20) = j_TX k r la n B w := hF
  have len1 := congrArg List.length x1
  have len2 := congrArg List.length hF
  rw [j_Bl_len] at len1 len2
  have lenE : W 16 1 = U2 1000 20 := by omega
  have v16 : V1 16 = j_up (j_up W 16 4 0) 16 2 1 16 := s2 16 (by omega)
  have v161 : V1 16 1 = W 16 1 := by rw [v16, j_up_off (by decide), j_up_off (by decide)]
  have v162 : V1 16 2 = 1 := by rw [v16, j_up_at]
  have v17 : V1 17 = W 17 := by rw [s2 17 (by omega), j_up_ne (by omega), j_up_ne (by omega)]
  have g7 : V2 1001 7 = U2 1000 20 := by rw [m1, j_u_ne (by decide), j_u_ne (by decide), j_u_at]
  have g9 : V2 1001 9 = 1 := by rw [m1, j_u_ne (by decide), j_u_at]
  have hb : ∀ i : Int, 0 ≤ i → i < U2 1000 20 → W 17 i = V2 1008 i := fun i i0 i1 => by
    rw [m2 i i0 i1]
    have a1 := j_Bl_at (f := W 17) (n := W 16 1) i0 (by rw [lenE]; exact i1)
    have a2 := j_Bl_at (f := U2 1026) (n := U2 1000 20) i0 i1
    rw [x1] at a1
    rw [hF, a1] at a2
    injection a2
  refine ⟨by show V2 16 1 = V2 1001 7; rw [f2 16 (by omega), v161, g7, lenE], ?_, by show V2 16 2 = V2 1001 9; rw [f2 16 (by omega), v162, g9], fun _ => ?_⟩
  · show ∀ i : Int, 0 ≤ i → i < V2 1001 7 → V2 17 i = V2 1008 i
    intro i i0 i1
    rw [g7] at i1
    rw [f2 17 (by omega), v17]
    exact hb i i0 i1
  · show j_stp (V2 1008) (V2 1001 7) V2 18
    obtain ⟨p1, p2, p3, p4, p5, p6, p7, p8⟩ := pk
    obtain ⟨e1, e2⟩ := bn
    have hT : j_Bl (V2 1008) (V2 1001 7) = j_TX k r la n B w := by
      rw [g7, ← hF]
      exact j_Bl_congr (fun i i0 i1 => m2 i i0 i1)
    have c5 : V2 18 5 = n := by
      rw [f2 18 (by omega), s1.1, j_up_ne (by omega), j_up_ne (by omega), x3.1 214 (by omega) (by omega)]; exact e1
    have cq : ∀ q x : Int, 1 ≤ q → q ≤ 5 → 0 ≤ x → x < n → V2 (18 + q) x = Vc (214 + q) x := fun q x q0 q1 x0 x1' => by
      rw [f2 _ (by omega)]
      have z := s1.2 q x q0 q1 x0 (by rw [j_up_ne (by omega), j_up_ne (by omega), x3.1 214 (by omega) (by omega), e1]; exact x1')
      rw [z, j_up_ne (by omega), j_up_ne (by omega), x3.1 _ (by omega) (by omega)]
    refine j_stp_pack p1.1 p1.2 p2.1 p2.2 p3.1 p3.2 p4.1 p4.2 p5 p6 p7 p8 ?_ ?_ c5 (fun x x0 x1' => ?_)
    · have z := congrArg List.length hT
      rw [j_Bl_len] at z
      have z : (V2 1001 7).toNat = (j_text k r la n B (j_rX k r la B w n).1 (j_rX k r la B w n).2.1 (j_rX k r la B w n).2.2).length := z
      omega
    · have z := j_atT_Bl (V2 1008) (V2 1001 7)
      rw [hT] at z
      exact z
    · obtain ⟨a1, a2, a3, a4, a5⟩ := e2 x x0 x1'
      have z1 := cq 1 x (by omega) (by omega) x0 x1'
      have z2 := cq 2 x (by omega) (by omega) x0 x1'
      have z3 := cq 3 x (by omega) (by omega) x0 x1'
      have z4 := cq 4 x (by omega) (by omega) x0 x1'
      have z5 := cq 5 x (by omega) (by omega) x0 x1'
      simp only [Int.reduceAdd] at z1 z2 z3 z4 z5 ⊢
      exact ⟨by rw [z1, a1], by rw [z4, a2], by rw [z5, a3], by rw [z2, a4], by rw [z3, a5]⟩
/-- both try to pack: the same answer; where it goes, the same text -/
theorem j_try_pby {S : jS} {V V1 U U2 : jH} {tb p la r r2 : Int} (hc : j_cI S V 0) (hm : j_mI S V 1000) (R : j_R S V) (Q : j_Q V) (eU : ∀ c : Int, 500 < c → U c = V c) (q : j_try 0 (j_tabN V 0 tb) (j_rowN 0 p) la V r V1) (m : j_pby 1000 tb p la U r2 U2) : r = r2 ∧ (0 ≤ r → ∃ (k rr n : Int) (B : Int → Int → Int) (w : Int → Int), j_pkt k rr la n B w ∧ j_bnc V1 k rr la n B w ∧ j_benchT V1 (j_tabN V 0 tb) 200 la = j_TX k rr la n B w ∧ j_F U2 1000 = j_TX k rr la n B w ∧ 0 ≤ U2 1000 20) := by
  have ec : V 1001 2 = V 1 2 := R.2.1.1.symm
  unfold j_try at q
  unfold j_pby at m
  simp only [Int.zero_add, Int.reduceAdd] at q m
  rw [eU 1001 (by omega), eU 1004 (by omega), eU 1005 (by omega), eU 1007 (by omega), ec, j_ropen_c (eU 1004 (by omega)) (eU 1005 (by omega)) (eU 1006 (by omega)) (eU 1007 (by omega))] at m
  have er : ∀ {y : Int}, r = y → r2 = y → y < 0 → r = r2 ∧ (0 ≤ r → ∃ (k rr n : Int) (B : Int → Int → Int) (w : Int → Int), j_pkt k rr la n B w ∧ j_bnc V1 k rr la n B w ∧ j_benchT V1 (j_tabN V 0 tb) 200 la = j_TX k rr la n B w ∧ j_F U2 1000 = j_TX k rr la n B w ∧ 0 ≤ U2 1000 20) := fun a b c => ⟨by rw [a, b], fun z => absurd z (by omega)⟩
  by_cases ok : 0 ≤ tb ∧ tb < V 1 2 ∧ 0 ≤ p ∧ p < 6 ∧ 1 ≤ la ∧ la ≤ 4
  · obtain ⟨t0, t1, p0, p1, l0, l1⟩ := ok
    obtain ⟨w1, w2, w3, w4, tI⟩ := j_tabR hc hm R Q t0 t1
    obtain ⟨k1, k2⟩ := j_Qr Q p0 p1
    have rx := j_mr hm p0 p1
    have eT : j_tabN V 0 tb = j_slotT 1 tb := by unfold j_tabN; exact if_pos ⟨t0, t1⟩
    have eR : j_rowN 0 p = 3 + 2 * p := by unfold j_rowN; rw [if_pos ⟨p0, p1⟩]; omega
    have t10 : V 1 2 ≤ 10 := by rw [← ec]; exact (j_mI_n hm).1
    have st : 31 ≤ j_slotT 1 tb ∧ j_slotT 1 tb + 9 ≤ 130 := by unfold j_slotT; omega
    rw [eT, eR] at q
    rw [eT]
    rcases q with ⟨z, _⟩ | ⟨_, _, _, _, q⟩
    · exact absurd ⟨(by omega), (by omega), l0, l1⟩ z
    rcases m with ⟨z, _⟩ | ⟨_, _, _, _, _, _, m⟩
    · exact absurd ⟨t0, t1, p0, p1, l0, l1⟩ z
    rcases q with ⟨q1, _, q3⟩ | ⟨q1, W1, mm, hP, hM, q⟩
    · rcases m with ⟨_, _, m3⟩ | ⟨m1, _⟩
      · rw [eT] at er; exact er q3 m3 (by decide)
      · rw [w2] at q1; exact absurd (w4.mpr m1) q1
    · rcases m with ⟨m1, _⟩ | ⟨m1, W2, W3, x, v9, v10, vj, v21, vc, hD, hK2, m⟩
      · rw [w2] at q1; exact absurd m1 (w4.mp q1)
      · -- the same row and the same deals
        have n0 : 0 ≤ V (3 + 2 * p) 1 := by rw [k1]; exact rx.1
        have hrg : j_sgw (V (4 + 2 * p)) (V (3 + 2 * p) 1) := fun i i0 i1 => by
          rw [k1] at i1
          rw [k2 i i0 i1]; exact rx.2.2 i i0 i1
        have e34 : (3 : Int) + 2 * p + 1 = 4 + 2 * p := by omega
        have hB : ∀ y j : Int, 0 ≤ y → y < j_parts (V (j_slotT 1 tb) 1) → 0 ≤ j → j ≤ 256 → j_rB (W2 1021) y j = V (j_slotT 1 tb + 3 + 2 * y) j := fun y j y0 y1 j0 j1 => by
          rw [w1] at y1
          have pp := j_parts_bd (V 1004 tb)
          rw [w3 y j y0 y1 j0 j1]
          unfold j_rB
          refine j_pre_congr (fun i i0 i1 => ?_)
          show W2 1021 (256 * y + i) = V 1007 (1024 * tb + 256 * y + i)
          rw [v21 _ (by omega) (by omega), show 1024 * tb + 256 * y + i = 1024 * tb + (256 * y + i) by omega]
        have hw : ∀ i : Int, 0 ≤ i → i < V (3 + 2 * p) 1 → j_rw W2 1000 p i = V (4 + 2 * p) i := fun i i0 i1 => by
          rw [k1] at i1
          show W2 1003 (400 * p + i) = _
          rw [vc 1003 (by omega) (by omega), eU 1003 (by omega), k2 i i0 i1]
        have cn : W2 (1000 + 2) p = V (3 + 2 * p) 1 := by
          show W2 1002 p = _
          rw [vc 1002 (by omega) (by omega), eU 1002 (by omega), k1]
        have rfE : ∀ i : Int, 0 ≤ i → i < V (3 + 2 * p) 1 → j_rf (V (j_slotT 1 tb) 1) (V (j_slotT 1 tb) 2) (j_rB (W2 1021)) (j_rw W2 1000 p) i = j_rf (V (j_slotT 1 tb) 1) (V (j_slotT 1 tb) 2) (fun y => V (j_slotT 1 tb + 3 + 2 * y)) (V (4 + 2 * p)) i := fun i i0 i1 => by
          rw [(j_rf_w hw i0 i1).1]
          exact (j_rf_B hrg hB i0 i1).1
        have dtE : ∀ i : Int, j_sh (j_Dt V (j_slotT 1 tb) (3 + 2 * p) i) (V (3 + 2 * p + 1) i) = j_rf (V (j_slotT 1 tb) 1) (V (j_slotT 1 tb) 2) (fun y => V (j_slotT 1 tb + 3 + 2 * y)) (V (4 + 2 * p)) i := fun i => by
          unfold j_Dt j_rf
          rw [e34]
        obtain ⟨-, -, m2, hM2, hx⟩ := hK2
        rw [v9, ← w1, ← w2, cn, show (1000 : Int) + 21 = 1021 from rfl] at hM2
        rw [v9, ← w1, ← w2, cn, show (1000 : Int) + 21 = 1021 from rfl] at hx
        have me : mm = m2 := by
          rcases hM with ⟨a1, a2⟩ | ⟨a0, a1, a2, a3⟩
          · rcases hM2 with ⟨b1, b2⟩ | ⟨b0, b1, b2, b3⟩
            · rw [a1, b1]
            · rw [rfE _ b0 b1, ← dtE] at b2
              exact absurd b2 (a2 _ b0 b1)
          · rcases hM2 with ⟨b1, b2⟩ | ⟨b0, b1, b2, b3⟩
            · have := b2 _ a0 a1
              rw [rfE _ a0 a1, ← dtE] at this
              exact absurd a2 this
            · by_cases c1 : mm < m2
              · have := a3 m2 c1 b1
                rw [rfE _ b0 b1, ← dtE] at b2
                exact absurd b2 this
              · by_cases c2 : m2 < mm
                · have := b3 mm c2 a1
                  rw [rfE _ a0 a1, ← dtE] at this
                  exact absurd a2 this
                · omega
        rcases q with ⟨g0, _, q3⟩ | ⟨g0, hK, q3⟩
        · rcases m with ⟨_, _, m3⟩ | ⟨z, _⟩
          · rw [eT] at er; exact er q3 m3 (by decide)
          · rcases hx with ⟨_, z2⟩ | ⟨z2, _⟩
            · omega
            · omega
        · rcases m with ⟨z, _⟩ | ⟨_, e2, m4, _, _⟩
          · rcases hx with ⟨z2, _⟩ | ⟨_, z2, _⟩
            · omega
            · omega
          · rcases hx with ⟨z2, _⟩ | ⟨_, _, u0, u1, hF⟩
            · omega
            · have ht : ∀ c : Int, j_slotT 1 tb ≤ c → c ≤ j_slotT 1 tb + 9 → V1 c = V c := fun c c0 c1 => (hK.1 c (by omega) (by omega) (by omega) (by omega) (by omega)).trans (hP.1 c (by omega) (by omega) (by omega) (by omega) (by omega) (by omega))
              obtain ⟨b1, b2, b3⟩ := j_bnc_of (by omega) l1 hP n0 hK ht
              rw [e34] at b1 b2 b3
              have tx : j_F W3 1000 = j_TX (V (j_slotT 1 tb) 1) (V (j_slotT 1 tb) 2) la (V (3 + 2 * p) 1) (fun y => V (j_slotT 1 tb + 3 + 2 * y)) (V (4 + 2 * p)) := by
                rw [← j_TX_c n0 hrg hB hw]
                exact hF
              rw [e2]
              have len := congrArg List.length tx
              unfold j_TX at len
              rw [j_Bl_len, j_text_len] at len
              have dl : ∀ y : Int, 0 ≤ y → y < j_parts (V (j_slotT 1 tb) 1) → j_dl (V (j_slotT 1 tb + 3 + 2 * y)) 0 (j_M (V (j_slotT 1 tb) 2)) := fun y y0 y1 => by
                have pp := j_parts_bd (V (j_slotT 1 tb) 1)
                have d := tI.2.2.2.2.1 y y0 (by omega)
                exact ⟨d.1, tI.2.2.2.2.2.1 q1 y y0 y1, d.2.2⟩
              have nz : ∀ i : Int, 0 ≤ i → i < V (3 + 2 * p) 1 → j_rf (V (j_slotT 1 tb) 1) (V (j_slotT 1 tb) 2) (fun y => V (j_slotT 1 tb + 3 + 2 * y)) (V (4 + 2 * p)) i ≠ 0 := fun i i0 i1 => by
                rw [← dtE]
                rcases hM with ⟨_, a2⟩ | ⟨a0, _⟩
                · exact a2 i i0 i1
                · omega
              have pk : j_pkt (V (j_slotT 1 tb) 1) (V (j_slotT 1 tb) 2) la (V (3 + 2 * p) 1) (fun y => V (j_slotT 1 tb + 3 + 2 * y)) (V (4 + 2 * p)) := ⟨⟨tI.1, tI.2.1⟩, ⟨tI.2.2.1, tI.2.2.2.1⟩, ⟨l0, l1⟩, ⟨n0, by rw [k1]; exact rx.2.1⟩, dl, fun td y j y0 y1 j0 j1 => by
                have pp := j_parts_bd (V (j_slotT 1 tb) 1)
                have kk : V (j_slotT 1 tb) 1 = 1 ∨ V (j_slotT 1 tb) 1 = 4 := by
                  have a := tI.1
                  have b := tI.2.1
                  have c : ¬ (V (j_slotT 1 tb) 1 = 0 ∨ V (j_slotT 1 tb) 1 = 2 ∨ V (j_slotT 1 tb) 1 = 3) := td
                  omega
                show V (j_slotT 1 tb + 3 + 2 * y) j = _
                rw [tI.2.2.2.2.2.2 kk y j y0 (by omega) j0 j1]
                unfold j_start
                rw [if_pos kk], hrg, nz⟩
              have u5 : 0 ≤ V1 200 5 := by
                have hm2 := j_M_bd pk.2.1.1 pk.2.1.2
                have po := j_plan_ok ⟨tI.2.2.1, tI.2.2.2.1, dl⟩ ⟨n0, by rw [k1]; exact rx.2.1, by rw [e34]; exact hrg⟩ hP (fun x x0 x1 => by rw [dtE]; exact nz x x0 x1)
                exact (j_packed hm2.1 hm2.2 l0 (by rw [po.1]; exact n0) (by rw [po.1, k1]; exact rx.2.1) po.2 hK).2.2.1
              have et := j_told_T V (j_slotT 1 tb)
              rw [b3] at q3 u5
              refine ⟨?_, fun _ => ⟨_, _, _, _, _, pk, b1, b2, tx, u0⟩⟩
              rw [q3, m4, et]
              omega
  · rcases q with ⟨_, _, q3⟩ | ⟨z0, z1, z2, z3, _⟩
    · rcases m with ⟨_, _, m3⟩ | ⟨y0, y1, y2, y3, y4, y5, _⟩
      · exact er q3 m3 (by decide)
      · exact absurd ⟨y0, y1, y2, y3, y4, y5⟩ ok
    · exfalso
      apply ok
      unfold j_tabN at z0
      unfold j_rowN at z1
      by_cases a : 0 ≤ tb ∧ tb < V (0 + 1) 2
      · by_cases b : 0 ≤ p ∧ p < 6
        · exact ⟨a.1, a.2, b.1, b.2, z2, z3⟩
        · rw [if_neg b] at z1; exact absurd rfl z1
      · rw [if_neg a] at z0; exact absurd rfl z0
