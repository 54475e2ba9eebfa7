/-! CLASS AND REFERENCE SIDE BY SIDE: rows, deals, THE BLOCK, numbers that wait -/
def j_QR (V U : jH) (w b : Int) : Prop := ∀ p : Int, 0 ≤ p → p < 6 → V (w + 2 + 2 * p) 1 = U (b + 1) p ∧ ∀ i : Int, 0 ≤ i → i < U (b + 1) p → V (w + 3 + 2 * p) i = U (b + 2) (400 * p + i)
def j_QD (V U : jH) (w b : Int) : Prop := ∀ t : Int, 0 ≤ t → t < U b 2 → (U (b + 3) t = 2 ∨ U (b + 3) t = 3) → (∀ p j : Int, 0 ≤ p → p < j_parts (U (b + 3) t) → 0 ≤ j → j ≤ 256 → V (j_slotT w t + 3 + 2 * p) j = j_pre (j_rs (U (b + 6)) (1024 * t + 256 * p)) j) ∧ (U (b + 5) t = 0 → V (j_slotT w t + 3) 256 = 0)
def j_QK (V U : jH) (w b : Int) : Prop := V (w + 15) 1 = U b 7 ∧ (∀ i : Int, 0 ≤ i → i < U b 7 → V (w + 16) i = U (b + 7) i) ∧ V (w + 15) 2 = U b 9 ∧ (U b 9 ≠ 0 → j_stp (U (b + 7)) (U b 7) V (w + 17))
def j_QW (V U : jH) (w b : Int) : Prop := j_QR V U w b ∧ j_QD V U w b ∧ j_QK V U w b
def j_QN (V : jH) : Prop := ∀ i : Int, 0 ≤ i → i < V 0 6 → V 241 i = V 1017 i
def j_Q (V : jH) : Prop := j_QN V ∧ j_QW V V 1 1001 ∧ (V 1000 2 ≠ 0 → j_QW V V 300 1009)
theorem j_QR_c {V V' U U' : jH} {w b : Int} (hv : ∀ c : Int, w + 2 ≤ c → c ≤ w + 13 → V' c = V c) (h1 : U' (b + 1) = U (b + 1)) (h2 : U' (b + 2) = U (b + 2)) (h : j_QR V U w b) : j_QR V' U' w b := fun p p0 p1 => by
  rw [hv (w + 2 + 2 * p) (by omega) (by omega), hv (w + 3 + 2 * p) (by omega) (by omega), h1, h2]; exact h p p0 p1
theorem j_QD_c {V V' U U' : jH} {w b : Int} (n : U b 2 ≤ 10) (hv : ∀ c : Int, w + 30 ≤ c → c ≤ w + 129 → V' c = V c) (hb : U' b 2 = U b 2) (h3 : U' (b + 3) = U (b + 3)) (h5 : U' (b + 5) = U (b + 5)) (h6 : U' (b + 6) = U (b + 6)) (h : j_QD V U w b) : j_QD V' U' w b := fun t t0 t1 => by
  rw [hb] at t1
  rw [h3, h5, h6]
  intro hk
  obtain ⟨a1, a2⟩ := h t t0 t1 hk
  have pp := j_parts_bd (U (b + 3) t)
  have s1 : w + 30 ≤ j_slotT w t ∧ j_slotT w t + 9 ≤ w + 129 := by unfold j_slotT; omega
  exact ⟨fun p j p0 p1 j0 j1 => by rw [hv (j_slotT w t + 3 + 2 * p) (by omega) (by omega)]; exact a1 p j p0 p1 j0 j1, fun z => by rw [hv (j_slotT w t + 3) (by omega) (by omega)]; exact a2 z⟩
theorem j_stp_V {f : Int → Int} {len : Int} {V V' : jH} {s : Int} (e5 : V' s 5 = V s 5) (e : ∀ c : Int, s + 1 ≤ c → c ≤ s + 5 → V' c = V c) (h : j_stp f len V s) : j_stp f len V' s := by
  unfold j_stp at h ⊢
  rw [e5, e (s + 1) (by omega) (by omega), e (s + 2) (by omega) (by omega), e (s + 3) (by omega) (by omega), e (s + 4) (by omega) (by omega), e (s + 5) (by omega) (by omega)]
  exact h
theorem j_QK_c {V V' U U' : jH} {w b : Int} (h1 : V' (w + 15) 1 = V (w + 15) 1) (h2 : V' (w + 15) 2 = V (w + 15) 2) (hv : ∀ c : Int, w + 16 ≤ c → c ≤ w + 22 → V' c = V c) (u7 : U' b 7 = U b 7) (u9 : U' b 9 = U b 9) (ub : U' (b + 7) = U (b + 7)) (h : j_QK V U w b) : j_QK V' U' w b := by
  unfold j_QK
  rw [h1, h2, u7, u9, ub, hv (w + 16) (by omega) (by omega)]
  refine ⟨h.1, h.2.1, h.2.2.1, fun z => ?_⟩
  exact j_stp_V (by rw [hv (w + 17) (by omega) (by omega)]) (fun c c0 c1 => hv c (by omega) (by omega)) (h.2.2.2 z)
theorem j_Q_now {S S1 : jS} {V V1 V2 : jH} (Q : j_Q V) (hm : j_mI S V 1000) (n1 : j_cN S V 0 S1 V1) (n2 : j_mN S1 V1 1000 V2) (hk : ∀ c : Int, 300 ≤ c → c ≤ 429 → V1 c = V c) (hk2 : ∀ c : Int, 1009 ≤ c → c ≤ 1016 → V2 c = V1 c) (h2 : V2 1000 2 = V1 1000 2) (hn : j_QN V2) (rr : j_QR V2 V2 1 1001) (rd : j_QD V2 V2 1 1001) (rk : j_QK V2 V2 1 1001) : j_Q V2 := by
  have n := j_mI_n hm
  refine ⟨hn, ⟨rr, rd, rk⟩, fun z => ?_⟩
  rw [h2, (n1.2.2 1000 (by omega)).2.2] at z
  obtain ⟨k1, k2, k3⟩ := Q.2.2 z
  have w : ∀ c : Int, 300 ≤ c → c ≤ 429 → V2 c = V c := fun c c0 c1 => by rw [n2.2.2 c (by omega), hk c c0 c1]
  have u : ∀ c : Int, 1009 ≤ c → c ≤ 1016 → V2 c = V c := fun c c0 c1 => by rw [hk2 c c0 c1, (n1.2.2 c (by omega)).2.2]
  exact ⟨j_QR_c (fun c c0 c1 => w c (by omega) (by omega)) (u _ (by omega) (by omega)) (u _ (by omega) (by omega)) k1, j_QD_c n.2.1 (fun c c0 c1 => w c (by omega) (by omega)) (by rw [u 1009 (by omega) (by omega)]) (u _ (by omega) (by omega)) (u _ (by omega) (by omega)) (u _ (by omega) (by omega)) k2, j_QK_c (by rw [w _ (by omega) (by omega)]) (by rw [w _ (by omega) (by omega)]) (fun c c0 c1 => w c (by omega) (by omega)) (by rw [u 1009 (by omega) (by omega)]) (by rw [u 1009 (by omega) (by omega)]) (u _ (by omega) (by omega)) k3⟩
theorem j_QN_s {S S1 : jS} {V V1 V2 : jH} (Q : j_Q V) (n1 : j_cN S V 0 S1 V1) (n2 : j_mN S1 V1 1000 V2) (h6 : V1 0 6 = V 0 6) (h241 : V1 241 = V 241) (h17 : V2 1017 = V1 1017) : j_QN V2 := by
  intro i i0 i1
  rw [n2.2.2 0 (by omega), h6] at i1
  rw [n2.2.2 241 (by omega), h241, h17, (n1.2.2 1017 (by omega)).2.2]
  exact Q.1 i i0 i1
theorem j_QR_s {S S1 : jS} {V V1 V2 : jH} (Q : j_Q V) (n1 : j_cN S V 0 S1 V1) (n2 : j_mN S1 V1 1000 V2) (hc : ∀ c : Int, 3 ≤ c → c ≤ 14 → V1 c = V c) (h1 : V2 1002 = V1 1002) (h2 : V2 1003 = V1 1003) : j_QR V2 V2 1 1001 :=
  j_QR_c (V := V) (U := V) (fun c c0 c1 => by rw [n2.2.2 c (by omega), hc c (by omega) (by omega)]) (by show V2 1002 = V 1002; rw [h1, (n1.2.2 1002 (by omega)).2.2]) (by show V2 1003 = V 1003; rw [h2, (n1.2.2 1003 (by omega)).2.2]) Q.2.1.1
theorem j_QD_s {S S1 : jS} {V V1 V2 : jH} (Q : j_Q V) (hm : j_mI S V 1000) (n1 : j_cN S V 0 S1 V1) (n2 : j_mN S1 V1 1000 V2) (hc : ∀ c : Int, 31 ≤ c → c ≤ 130 → V1 c = V c) (h2 : V2 1001 2 = V1 1001 2) (h3 : ∀ c : Int, 1004 ≤ c → c ≤ 1007 → V2 c = V1 c) : j_QD V2 V2 1 1001 :=
  j_QD_c (V := V) (U := V) (j_mI_n hm).1 (fun c c0 c1 => by rw [n2.2.2 c (by omega), hc c (by omega) (by omega)]) (by rw [h2, (n1.2.2 1001 (by omega)).2.2]) (by rw [h3 _ (by omega) (by omega), (n1.2.2 _ (by omega)).2.2]) (by rw [h3 _ (by omega) (by omega), (n1.2.2 _ (by omega)).2.2]) (by rw [h3 _ (by omega) (by omega), (n1.2.2 _ (by omega)).2.2]) Q.2.1.2.1
theorem j_QK_s {S S1 : jS} {V V1 V2 : jH} (Q : j_Q V) (n1 : j_cN S V 0 S1 V1) (n2 : j_mN S1 V1 1000 V2) (h1 : V1 16 1 = V 16 1 ∧ V1 16 2 = V 16 2) (hc : ∀ c : Int, 17 ≤ c → c ≤ 23 → V1 c = V c) (h79 : V2 1001 7 = V1 1001 7 ∧ V2 1001 9 = V1 1001 9) (h8 : V2 1008 = V1 1008) : j_QK V2 V2 1 1001 := by
  have e : V1 1001 = V 1001 := (n1.2.2 1001 (by omega)).2.2
  exact j_QK_c (V := V) (U := V) (by show V2 16 1 = V 16 1; rw [n2.2.2 16 (by omega), h1.1]) (by show V2 16 2 = V 16 2; rw [n2.2.2 16 (by omega), h1.2]) (fun c c0 c1 => by rw [n2.2.2 c (by omega), hc c (by omega) (by omega)]) (by rw [h79.1, e]) (by rw [h79.2, e]) (by show V2 1008 = V 1008; rw [h8, (n1.2.2 1008 (by omega)).2.2]) Q.2.1.2.2
/-! the block's length and whether it is made, on the reference's side -/
def j_h79 (V V' : jH) (a : Int) : Prop := V' (a + 1) 7 = V (a + 1) 7 ∧ V' (a + 1) 9 = V (a + 1) 9
theorem j_79_eq {V V' : jH} {a : Int} (h : V' (a + 1) = V (a + 1)) : j_h79 V V' a := by unfold j_h79; rw [h]; exact ⟨rfl, rfl⟩
theorem j_79_rf {V : jH} {a : Int} : j_h79 V V a := ⟨rfl, rfl⟩
theorem j_79_md {V : jH} {a : Int} : j_h79 V (j_md V a) a := j_79_eq (j_up_ne (by omega))
theorem j_h79.tr {V V1 V2 : jH} {a : Int} (h : j_h79 V V1 a) (h' : j_h79 V1 V2 a) : j_h79 V V2 a := ⟨h'.1.trans h.1, h'.2.trans h.2⟩
theorem j_79_up {V : jH} {a j x : Int} (h7 : j ≠ 7) (h9 : j ≠ 9) : j_h79 V (j_up V (a + 1) j x) a := ⟨j_up_off (fun e => h7 e.symm), j_up_off (fun e => h9 e.symm)⟩
theorem j_79_wk {V V' : jH} {a : Int} (h : j_wkF V V' a) : j_h79 V V' a := j_79_eq (h.1 _ (by omega) (by omega))
theorem j_79_ag {V V' : jH} {a x : Int} (h : j_ag V V' a x) : j_h79 V V' a := j_79_wk (j_ag_F h).1
theorem j_79_r2 {V V' : jH} {a p w n r : Int} (h : j_r2 a p w n V r V') : j_h79 V V' a := by
  obtain ⟨-, e, -⟩ | ⟨-, -, -, -, -, e, -⟩ | ⟨-, -, -, -, -, -, -, -, -, -, f⟩ := h
  · rw [e]; exact j_79_md
  · rw [e]; exact j_79_md
  · exact j_79_eq (f _ (by omega) (by omega))
theorem j_79_r3 {V V' : jH} {a p r : Int} (h : j_r3 a p V r V') : j_h79 V V' a := by
  obtain ⟨-, e, -⟩ | ⟨-, -, -, e⟩ := h
  · rw [e]; exact j_79_md
  · rw [e]; exact j_79_eq (j_up_ne (by omega))
theorem j_79_r4 {V V' : jH} {a p i r : Int} (h : j_r4 a p i V r V') : j_h79 V V' a := by
  obtain ⟨-, e, -⟩ | ⟨-, -, -, -, e, -⟩ := h
  · rw [e]; exact j_79_md
  · rw [e]; exact j_79_rf
theorem j_79_r5 {V V' : jH} {a p f n q r : Int} (h : j_r5 a p f n q V r V') : j_h79 V V' a := by
  obtain ⟨-, e, -⟩ | ⟨-, -, -, -, -, -, -, -, e, -⟩ | ⟨-, -, -, -, -, -, -, -, -, -, -, -, -, f⟩ := h
  · rw [e]; exact j_79_md
  · rw [e]; exact j_79_md
  · exact j_79_eq (f _ (by omega) (by omega) (by omega))
theorem j_79_r6 {V V' : jH} {a k r x : Int} (h : j_r6 a k r V x V') : j_h79 V V' a := by
  obtain ⟨-, e, -⟩ | ⟨-, -, -, -, -, e, -⟩ | ⟨-, -, -, -, -, -, e1, -, -, -, -, -, -⟩ := h
  · rw [e]; exact j_79_md
  · rw [e]; exact j_79_md
  · unfold j_h79; rw [e1]; exact ⟨j_u_ne (by decide), j_u_ne (by decide)⟩
theorem j_79_r7 {V V' : jH} {a tb s f r : Int} (h : j_r7 a tb s f V r V') : j_h79 V V' a := by
  rcases h with ⟨-, e, -⟩ | ⟨-, -, ⟨-, e, -⟩ | ⟨-, ⟨-, e, -⟩ | ⟨-, -, -, -, ⟨-, e, -⟩ | ⟨-, -, e⟩⟩⟩⟩
  · rw [e]; exact j_79_md
  · rw [e]; exact j_79_md
  · rw [e]; exact j_79_md
  · rw [e]; exact j_79_md
  · rw [e]; exact j_79_eq (j_up_ne (by omega))
theorem j_79_r8 {V V' : jH} {a tb p r : Int} (h : j_r8 a tb p V r V') : j_h79 V V' a := by
  rcases h with ⟨-, e, -⟩ | ⟨-, -, -, -, ⟨-, e, -⟩ | ⟨-, ⟨-, e, -⟩ | ⟨-, -, V1, ⟨-, -, f⟩, e⟩⟩⟩
  · rw [e]; exact j_79_md
  · rw [e]; exact j_79_md
  · rw [e]; exact j_79_md
  · rw [e]; exact j_79_eq (by rw [j_up_ne (by omega), f _ (by omega) (by omega) (by omega)])
theorem j_79_r9 {V V' : jH} {a tb pt s bg r : Int} (h : j_r9 a tb pt s bg V r V') : j_h79 V V' a := by
  rcases h with ⟨-, e, -⟩ | ⟨-, -, -, -, -, ⟨-, e, -⟩ | ⟨-, e, -⟩⟩
  · rw [e]; exact j_79_md
  · rw [e]; exact j_79_md
  · rw [e]; exact j_79_rf
theorem j_79_r10 {V V' : jH} {a tb pt p r : Int} (h : j_r10 a tb pt p V r V') : j_h79 V V' a := by
  rcases h with ⟨-, e, -⟩ | ⟨-, -, -, -, -, ⟨-, e, -⟩ | ⟨-, ⟨i, -, -, -, -, e, -⟩ | ⟨-, e, -⟩⟩⟩
  · rw [e]; exact j_79_md
  · rw [e]; exact j_79_md
  · rw [e]; exact (j_79_up (by decide) (by decide)).tr j_79_md
  · rw [e]; exact j_79_rf
theorem j_79_r11 {V V' : jH} {a tb k r : Int} (h : j_r11 a tb k V r V') : j_h79 V V' a := by
  rcases h with ⟨-, e, -⟩ | ⟨-, -, -, -, ⟨-, e, -⟩ | ⟨-, e, -⟩⟩
  · rw [e]; exact j_79_md
  · rw [e]; exact j_79_md
  · rw [e]; exact j_79_rf
theorem j_79_pby {V V' : jH} {a tb p la r : Int} (h : j_pby a tb p la V r V') : j_h79 V V' a := by
  obtain ⟨-, e, er⟩ | ⟨t0, t1, p0, p1, l0, l1, ⟨-, e, er⟩ | ⟨-, V1, V2, x, v9, v10, vj, v21, vc, hD, hP, hx⟩⟩ := h
  · rw [e]; exact j_79_rf
  · rw [e]; exact j_79_rf
  · have w2 := j_rpk_wk hP
    have n2 : j_h79 V V2 a := j_79_eq (by rw [w2.1 _ (by omega) (by omega)]; exact vc _ (by omega) (by omega))
    rcases hx with ⟨x0, e, er⟩ | ⟨ex, e, er, r0, r1⟩
    · rw [e]; exact n2.tr (j_79_up (by decide) (by decide))
    · rw [e]; exact n2
theorem j_79_r13 {V V' : jH} {a tb p la r : Int} (h : j_r13 a tb p la V r V') : j_h79 V V' a := by
  obtain ⟨V2, hp, ⟨-, e⟩ | ⟨-, e⟩⟩ := h
  · rw [e]; exact (j_79_pby hp).tr j_79_md
  · rw [e]; exact j_79_pby hp
theorem j_79_r15 {V V' : jH} {a i r : Int} (h : j_r15 a i V r V') : j_h79 V V' a := by
  obtain ⟨-, e, -⟩ | ⟨-, -, e, -⟩ := h
  · rw [e]; exact j_79_md
  · rw [e]; exact j_79_rf
theorem j_79_r19 {V V' : jH} {a i k r : Int} (h : j_r19 a i k V r V') : j_h79 V V' a := by
  obtain ⟨-, e, -⟩ | ⟨-, x, V1, ag, ⟨-, e, -⟩ | ⟨-, -, -, -, e, -⟩⟩ := h
  · rw [e]; exact j_79_md
  · rw [e]; exact (j_79_ag ag).tr j_79_md
  · rw [e]; exact j_79_ag ag
theorem j_79_r20 {V V' : jH} {a g r : Int} (h : j_r20 a g V r V') : j_h79 V V' a := by
  obtain ⟨-, e, -⟩ | ⟨-, -, e, -⟩ | ⟨m9, g0, g1, x, V1, ag, ⟨-, e, -⟩ | ⟨-, -, e⟩⟩ := h
  · rw [e]; exact j_79_md
  · rw [e]; exact j_79_md
  · rw [e]; exact (j_79_ag ag).tr j_79_md
  · rw [e]; exact ((j_79_ag ag).tr (j_79_up (by decide) (by decide))).tr (j_79_up (by decide) (by decide))
theorem j_79_r21 {V V' : jH} {a i r : Int} (h : j_r21 a i V r V') : j_h79 V V' a := by
  obtain ⟨-, e, -⟩ | ⟨-, x, V1, ag, ⟨-, e, -⟩ | ⟨-, -, -, e⟩⟩ := h
  · rw [e]; exact j_79_md
  · rw [e]; exact (j_79_ag ag).tr j_79_md
  · rw [e]; exact (j_79_ag ag).tr (j_79_up (by decide) (by decide))
theorem j_79_54 {V V' : jH} {a : Int} (h : V' = V ∨ V' = j_md V a) : j_h79 V V' a := by
  rcases h with e | e
  · rw [e]; exact j_79_rf
  · rw [e]; exact j_79_md
/-! calls that leave rows, deals, THE BLOCK and what waits alone -/
theorem j_Q_same {S S1 : jS} {V V1 V2 : jH} {l1 h1 l2 h2 lo hi : Int} (hm : j_mI S V 1000) (Q : j_Q V) (n1 : j_cN S V 0 S1 V1) (cw : j_cw V V1 0 l1 h1 l2 h2) (hw : ∀ c : Int, (3 ≤ c ∧ c ≤ 14 ∨ 17 ≤ c ∧ c ≤ 23 ∨ 31 ≤ c ∧ c ≤ 130 ∨ c = 241 ∨ 300 ≤ c ∧ c ≤ 429) → (c < l1 ∨ h1 < c) ∧ (c < l2 ∨ h2 < c)) (h16 : V1 16 1 = V 16 1 ∧ V1 16 2 = V 16 2) (n2 : j_mN S1 V1 1000 V2) (mw : j_mw V1 V2 1000 lo hi) (hq : ∀ c : Int, (1002 ≤ c ∧ c ≤ 1017) → c < lo ∨ hi < c) (h79 : j_h79 V1 V2 1000) : j_Q V2 := by
  have f1 : ∀ c : Int, (3 ≤ c ∧ c ≤ 14 ∨ 17 ≤ c ∧ c ≤ 23 ∨ 31 ≤ c ∧ c ≤ 130 ∨ c = 241 ∨ 300 ≤ c ∧ c ≤ 429) → V1 c = V c := fun c hc => cw.2.1 c (by omega) (by omega) (hw c hc).1 (hw c hc).2
  have f2 : ∀ c : Int, (1002 ≤ c ∧ c ≤ 1017) → V2 c = V1 c := fun c hc => mw.2.2 c (by omega) (by omega) (hq c hc) (by omega)
  exact j_Q_now Q hm n1 n2 (fun c c0 c1 => f1 c (by omega)) (fun c c0 c1 => f2 c (by omega)) mw.1.1 (j_QN_s Q n1 n2 (j_R0_cw cw) (f1 241 (by omega)) (f2 1017 (by omega))) (j_QR_s Q n1 n2 (fun c c0 c1 => f1 c (by omega)) (f2 _ (by omega)) (f2 _ (by omega))) (j_QD_s Q hm n1 n2 (fun c c0 c1 => f1 c (by omega)) mw.2.1 (fun c c0 c1 => f2 c (by omega))) (j_QK_s Q n1 n2 h16 (fun c c0 c1 => f1 c (by omega)) h79 (f2 _ (by omega)))
theorem j_h16_cw {V V1 : jH} {l1 h1 l2 h2 : Int} (cw : j_cw V V1 0 l1 h1 l2 h2) (hw : (16 < l1 ∨ h1 < 16) ∧ (16 < l2 ∨ h2 < 16)) : V1 16 1 = V 16 1 ∧ V1 16 2 = V 16 2 := by
  rw [cw.2.1 16 (by omega) (by omega) hw.1 hw.2]; exact ⟨rfl, rfl⟩
theorem j_cw_q20b {V V' : jH} {a k r : Int} (h : j_q20 a k V r V') : j_cw V V' a (a + 16) (a + 16) (a + 16) (a + 16) ∧ V' (a + 16) 1 = V (a + 16) 1 ∧ V' (a + 16) 2 = V (a + 16) 2 := by
  have fd : j_fd V a (a + 16) = V (a + 16) := j_up_ne (by omega)
  rcases h with ⟨-, e, -⟩ | ⟨-, -, e, -⟩ | ⟨-, -, -, -, e, -⟩ | ⟨-, -, -, -, e, -⟩
  · rw [e]; exact ⟨j_cw_fd, by rw [fd], by rw [fd]⟩
  · rw [e]; exact ⟨j_cw_fd, by rw [fd], by rw [fd]⟩
  · rw [e]; exact ⟨j_cw_fd, by rw [fd], by rw [fd]⟩
  · rw [e]; exact ⟨j_cw_fr (by omega) (by omega) (fun c hc _ => j_up_ne (by omega)), j_up_off (by decide), j_up_off (by decide)⟩
/-! calls that change one thing -/
theorem j_Q_rows {S S1 : jS} {V V1 V2 : jH} (hm : j_mI S V 1000) (Q : j_Q V) (n1 : j_cN S V 0 S1 V1) (cw : j_cw V V1 0 (0 + 3) (0 + 14) (0 + 3) (0 + 14)) (n2 : j_mN S1 V1 1000 V2) (mw : j_mw V1 V2 1000 (1000 + 2) (1000 + 3)) (h79 : j_h79 V1 V2 1000) (rr : j_QR V2 V2 1 1001) : j_Q V2 := by
  have f1 : ∀ c : Int, 14 < c → V1 c = V c := fun c hc => cw.2.1 c (by omega) (by omega) (by omega) (by omega)
  have f2 : ∀ c : Int, (1004 ≤ c ∧ c ≤ 1017) → V2 c = V1 c := fun c hc => mw.2.2 c (by omega) (by omega) (by omega) (by omega)
  exact j_Q_now Q hm n1 n2 (fun c c0 c1 => f1 c (by omega)) (fun c c0 c1 => f2 c (by omega)) mw.1.1 (j_QN_s Q n1 n2 (j_R0_cw cw) (f1 241 (by omega)) (f2 1017 (by omega))) rr (j_QD_s Q hm n1 n2 (fun c c0 c1 => f1 c (by omega)) mw.2.1 (fun c c0 c1 => f2 c (by omega))) (j_QK_s Q n1 n2 (j_h16_cw cw (by omega)) (fun c c0 c1 => f1 c (by omega)) h79 (f2 _ (by omega)))
theorem j_Q_tabs {S S1 : jS} {V V1 V2 : jH} (hm : j_mI S V 1000) (Q : j_Q V) (n1 : j_cN S V 0 S1 V1) (f1 : ∀ c : Int, (3 ≤ c ∧ c ≤ 23 ∨ c = 241 ∨ 300 ≤ c ∧ c ≤ 429) → V1 c = V c) (h6 : V1 0 6 = V 0 6) (n2 : j_mN S1 V1 1000 V2) (f2 : ∀ c : Int, (1002 ≤ c ∧ c ≤ 1003 ∨ 1008 ≤ c ∧ c ≤ 1017) → V2 c = V1 c) (m2 : V2 1000 2 = V1 1000 2) (h79 : j_h79 V1 V2 1000) (rd : j_QD V2 V2 1 1001) : j_Q V2 :=
  j_Q_now Q hm n1 n2 (fun c c0 c1 => f1 c (by omega)) (fun c c0 c1 => f2 c (by omega)) m2 (j_QN_s Q n1 n2 h6 (f1 241 (by omega)) (f2 1017 (by omega))) (j_QR_s Q n1 n2 (fun c c0 c1 => f1 c (by omega)) (f2 _ (by omega)) (f2 _ (by omega))) rd (j_QK_s Q n1 n2 (by rw [f1 16 (by omega)]; exact ⟨rfl, rfl⟩) (fun c c0 c1 => f1 c (by omega)) h79 (f2 _ (by omega)))
theorem j_Q_blk {S S1 : jS} {V V1 V2 : jH} {l2 h2 : Int} (hm : j_mI S V 1000) (Q : j_Q V) (n1 : j_cN S V 0 S1 V1) (cw : j_cw V V1 0 (0 + 16) (0 + 23) l2 h2) (hw : (16 ≤ l2 ∧ h2 ≤ 23) ∨ (200 ≤ l2 ∧ h2 ≤ 240)) (n2 : j_mN S1 V1 1000 V2) (mw : j_mw V1 V2 1000 (1000 + 8) (1000 + 8)) (rk : j_QK V2 V2 1 1001) : j_Q V2 := by
  have f1 : ∀ c : Int, (3 ≤ c ∧ c ≤ 15 ∨ 31 ≤ c ∧ c ≤ 130 ∨ c = 241 ∨ 300 ≤ c ∧ c ≤ 429) → V1 c = V c := fun c hc => cw.2.1 c (by omega) (by omega) (by omega) (by omega)
  have f2 : ∀ c : Int, (1002 ≤ c ∧ c ≤ 1007 ∨ 1009 ≤ c ∧ c ≤ 1017) → V2 c = V1 c := fun c hc => mw.2.2 c (by omega) (by omega) (by omega) (by omega)
  exact j_Q_now Q hm n1 n2 (fun c c0 c1 => f1 c (by omega)) (fun c c0 c1 => f2 c (by omega)) mw.1.1 (j_QN_s Q n1 n2 (j_R0_cw cw) (f1 241 (by omega)) (f2 1017 (by omega))) (j_QR_s Q n1 n2 (fun c c0 c1 => f1 c (by omega)) (f2 _ (by omega)) (f2 _ (by omega))) (j_QD_s Q hm n1 n2 (fun c c0 c1 => f1 c (by omega)) mw.2.1 (fun c c0 c1 => f2 c (by omega))) rk
/-! both changed nothing but their findings -/
theorem j_Q_fd {S S1 : jS} {V V1 V2 : jH} (hm : j_mI S V 1000) (Q : j_Q V) (n1 : j_cN S V 0 S1 V1) (e1 : V1 = j_fd V 0) (n2 : j_mN S1 V1 1000 V2) (e2 : V2 = j_md V1 1000) : j_Q V2 := by
  have cw : j_cw V V1 0 0 0 0 0 := by rw [e1]; exact j_cw_fd
  have mw : j_mw V1 V2 1000 0 0 := by rw [e2]; exact j_mw_md
  exact j_Q_same hm Q n1 cw (fun c hc => (by omega)) (j_h16_cw cw (by omega)) n2 mw (fun c hc => (by omega)) (by rw [e2]; exact j_79_md)
/-! ROWS -/
theorem j_by8 (w : Int) {i : Int} (i0 : 0 ≤ i) (i1 : i < 8) : j_byte w i = j_rby w i := by
  have : i = 0 ∨ i = 1 ∨ i = 2 ∨ i = 3 ∨ i = 4 ∨ i = 5 ∨ i = 6 ∨ i = 7 := by omega
  rcases this with e | e | e | e | e | e | e | e <;> subst e
  · show j_w32 w % 256 = j_w32 (w / 1 % 256)
    unfold j_w32; omega
  · show j_w32 (w % 18446744073709551616 / 256) % 256 = j_w32 (w / 256 % 256)
    unfold j_w32; omega
  · show j_w32 (w % 18446744073709551616 / 65536) % 256 = j_w32 (w / 65536 % 256)
    unfold j_w32; omega
  · show j_w32 (w % 18446744073709551616 / 16777216) % 256 = j_w32 (w / 16777216 % 256)
    unfold j_w32; omega
  · show j_w32 (w % 18446744073709551616 / 4294967296) % 256 = j_w32 (w / 4294967296 % 256)
    unfold j_w32; omega
  · show j_w32 (w % 18446744073709551616 / 1099511627776) % 256 = j_w32 (w / 1099511627776 % 256)
    unfold j_w32; omega
  · show j_w32 (w % 18446744073709551616 / 281474976710656) % 256 = j_w32 (w / 281474976710656 % 256)
    unfold j_w32; omega
  · show j_w32 (w % 18446744073709551616 / 72057594037927936) % 256 = j_w32 (w / 72057594037927936 % 256)
    unfold j_w32; omega
theorem j_Qr {V : jH} (Q : j_Q V) {p : Int} (p0 : 0 ≤ p) (p1 : p < 6) : V (3 + 2 * p) 1 = V 1002 p ∧ ∀ i : Int, 0 ≤ i → i < V 1002 p → V (4 + 2 * p) i = V 1003 (400 * p + i) := Q.2.1.1 p p0 p1
theorem j_mr {S : jS} {V : jH} (hm : j_mI S V 1000) {p : Int} (p0 : 0 ≤ p) (p1 : p < 6) : 0 ≤ V 1002 p ∧ V 1002 p ≤ 400 ∧ ∀ i : Int, 0 ≤ i → i < V 1002 p → 0 ≤ V 1003 (400 * p + i) ∧ V 1003 (400 * p + i) < 256 := hm.2.2.2.1.1 p p0 p1
theorem j_Q_put {S S1 : jS} {V V1 V2 : jH} {p w n r r2 : Int} (hm : j_mI S V 1000) (Q : j_Q V) (n1 : j_cN S V 0 S1 V1) (q : j_q2 0 p w n V r V1) (n2 : j_mN S1 V1 1000 V2) (m : j_r2 1000 p w n V1 r2 V2) : r = r2 ∧ j_Q V2 := by
  have e1 : ∀ c : Int, 500 < c → V1 c = V c := fun c hc => (n1.2.2 c (by omega)).2.2
  have f2 : ∀ c : Int, c < 1000 → V2 c = V1 c := fun c hc => n2.2.2 c (by omega)
  have st := j_Q_rows hm Q n1 (j_cw_q2 q) n2 (j_mw_r2 m) (j_79_r2 m)
  unfold j_q2 at q
  unfold j_r2 at m
  simp only [Int.zero_add, Int.reduceAdd] at q m
  rw [e1 1002 (by omega), e1 1003 (by omega)] at m
  by_cases ok : 0 ≤ p ∧ p < 6 ∧ 1 ≤ n ∧ n ≤ 8
  · obtain ⟨p0, p1, g0, g1⟩ := ok
    obtain ⟨k1, k2⟩ := j_Qr Q p0 p1
    rcases q with ⟨q1, _⟩ | ⟨_, _, _, _, q1, q2, q3⟩ | ⟨_, _, _, _, q1, q2, q3, q4, q5, q6⟩
    · exact absurd ⟨p0, p1, g0, g1⟩ q1
    · rcases m with ⟨m1, _⟩ | ⟨_, _, _, _, m1, m2, m3⟩ | ⟨_, _, _, _, m1, _⟩
      · exact absurd ⟨p0, p1, g0, g1⟩ m1
      · exact ⟨by rw [q3, m3], j_Q_fd hm Q n1 q2 n2 m2⟩
      · omega
    · rcases m with ⟨m1, _⟩ | ⟨_, _, _, _, m1, _⟩ | ⟨_, _, _, _, m1, m2, m3, m4, m5, m6, m7⟩
      · exact absurd ⟨p0, p1, g0, g1⟩ m1
      · omega
      · refine ⟨by rw [q2, m2, k1], st (fun x x0 x1 => ?_)⟩
        show V2 (3 + 2 * x) 1 = V2 1002 x ∧ ∀ i : Int, 0 ≤ i → i < V2 1002 x → V2 (4 + 2 * x) i = V2 1003 (400 * x + i)
        have rx := j_mr hm x0 x1
        have rp := (j_mr hm p0 p1).1
        rw [f2 (3 + 2 * x) (by omega), f2 (4 + 2 * x) (by omega)]
        by_cases e : x = p
        · rw [e, q3, m3, k1]
          refine ⟨rfl, fun i i0 i1 => ?_⟩
          by_cases c : i < V 1002 p
          · rw [q4 i (by rw [k1]; exact c), m5 _ (by omega)]
            exact k2 i i0 c
          · have a1 := q5 (i - V 1002 p) (by omega) (by omega)
            have a2 := m6 (i - V 1002 p) (by omega) (by omega)
            rw [k1, show V 1002 p + (i - V 1002 p) = i by omega] at a1
            rw [show 400 * p + V 1002 p + (i - V 1002 p) = 400 * p + i by omega] at a2
            rw [a1, a2]
            exact j_by8 w (by omega) (by omega)
        · rw [q6 _ (by omega) (by omega), q6 _ (by omega) (by omega), m4 x e]
          obtain ⟨z1, z2⟩ := j_Qr Q x0 x1
          refine ⟨z1, fun i i0 i1 => ?_⟩
          rw [m5 _ (by omega)]
          exact z2 i i0 i1
  · rcases q with ⟨_, q2, q3⟩ | ⟨z0, z1, z2, z3, _⟩ | ⟨z0, z1, z2, z3, _⟩
    · rcases m with ⟨_, m2, m3⟩ | ⟨z0, z1, z2, z3, _⟩ | ⟨z0, z1, z2, z3, _⟩
      · exact ⟨by rw [q3, m3], j_Q_fd hm Q n1 q2 n2 m2⟩
      · exact absurd ⟨z0, z1, z2, z3⟩ ok
      · exact absurd ⟨z0, z1, z2, z3⟩ ok
    · exact absurd ⟨z0, z1, z2, z3⟩ ok
    · exact absurd ⟨z0, z1, z2, z3⟩ ok
theorem j_Q_clear {S S1 : jS} {V V1 V2 : jH} {p r r2 : Int} (hm : j_mI S V 1000) (Q : j_Q V) (n1 : j_cN S V 0 S1 V1) (q : j_q3 0 p V r V1) (n2 : j_mN S1 V1 1000 V2) (m : j_r3 1000 p V1 r2 V2) : r = r2 ∧ j_Q V2 := by
  have e1 : ∀ c : Int, 500 < c → V1 c = V c := fun c hc => (n1.2.2 c (by omega)).2.2
  have f2 : ∀ c : Int, c < 1000 → V2 c = V1 c := fun c hc => n2.2.2 c (by omega)
  have st := j_Q_rows hm Q n1 (j_cw_q3 q) n2 (j_mw_r3 m) (j_79_r3 m)
  unfold j_q3 at q
  unfold j_r3 at m
  simp only [Int.zero_add, Int.reduceAdd] at q m
  rw [e1 1002 (by omega)] at m
  rcases q with ⟨q1, q2, q3⟩ | ⟨p0, p1, q2, q3⟩
  · rcases m with ⟨_, m2, m3⟩ | ⟨z0, z1, _⟩
    · exact ⟨by rw [q3, m3], j_Q_fd hm Q n1 q2 n2 m2⟩
    · exact absurd ⟨z0, z1⟩ q1
  · rcases m with ⟨m1, _⟩ | ⟨_, _, m2, m3⟩
    · exact absurd ⟨p0, p1⟩ m1
    · obtain ⟨k1, k2⟩ := j_Qr Q p0 p1
      refine ⟨by rw [q2, m2, k1], st (fun x x0 x1 => ?_)⟩
      show V2 (3 + 2 * x) 1 = V2 1002 x ∧ ∀ i : Int, 0 ≤ i → i < V2 1002 x → V2 (4 + 2 * x) i = V2 1003 (400 * x + i)
      rw [f2 (3 + 2 * x) (by omega), f2 (4 + 2 * x) (by omega)]
      by_cases e : x = p
      · rw [e, q3, j_up_at, m3, j_up_at]
        exact ⟨rfl, fun i i0 i1 => (by omega)⟩
      · obtain ⟨z1, z2⟩ := j_Qr Q x0 x1
        rw [q3, j_up_ne (by omega), j_up_ne (by omega), m3, j_up_off e, j_up_ne (by omega), e1 1002 (by omega), e1 1003 (by omega)]
        exact ⟨z1, z2⟩
theorem j_Q_at {S S1 : jS} {V V1 V2 : jH} {p i r r2 : Int} (Q : j_Q V) (n1 : j_cN S V 0 S1 V1) (q : j_q4 0 p i V r V1) (m : j_r4 1000 p i V1 r2 V2) : r = r2 := by
  have e1 : ∀ c : Int, 500 < c → V1 c = V c := fun c hc => (n1.2.2 c (by omega)).2.2
  unfold j_q4 at q
  unfold j_r4 at m
  simp only [Int.zero_add, Int.reduceAdd] at q m
  rw [e1 1002 (by omega), e1 1003 (by omega)] at m
  by_cases pp : 0 ≤ p ∧ p < 6
  · obtain ⟨k1, k2⟩ := j_Qr Q pp.1 pp.2
    rw [k1] at q
    rcases q with ⟨q1, q2, q3⟩ | ⟨z0, z1, z2, z3, q2, q3⟩
    · rcases m with ⟨_, m2, m3⟩ | ⟨z0, z1, z2, z3, _⟩
      · rw [q3, m3]
      · exact absurd ⟨z0, z1, z2, z3⟩ q1
    · rcases m with ⟨m1, _⟩ | ⟨_, _, _, _, m2, m3⟩
      · exact absurd ⟨z0, z1, z2, z3⟩ m1
      · rw [q3, m3]
        by_cases c : i = -1
        · rw [if_pos c, if_pos c]
        · rw [if_neg c, if_neg c]; exact k2 i (by omega) z3
  · rcases q with ⟨q1, q2, q3⟩ | ⟨z0, z1, _⟩
    · rcases m with ⟨_, m2, m3⟩ | ⟨z0, z1, _⟩
      · rw [q3, m3]
      · exact absurd ⟨z0, z1⟩ pp
    · exact absurd ⟨z0, z1⟩ pp
theorem j_Q_copy {S S1 : jS} {V V1 V2 : jH} {p f n x r r2 : Int} (hm : j_mI S V 1000) (Q : j_Q V) (n1 : j_cN S V 0 S1 V1) (q : j_q5 0 p f n x V r V1) (n2 : j_mN S1 V1 1000 V2) (m : j_r5 1000 p f n x V1 r2 V2) : r = r2 ∧ j_Q V2 := by
  have e1 : ∀ c : Int, 500 < c → V1 c = V c := fun c hc => (n1.2.2 c (by omega)).2.2
  have f2 : ∀ c : Int, c < 1000 → V2 c = V1 c := fun c hc => n2.2.2 c (by omega)
  have st := j_Q_rows hm Q n1 (j_cw_q5 q) n2 (j_mw_r5 m) (j_79_r5 m)
  unfold j_q5 at q
  unfold j_r5 at m
  simp only [Int.zero_add, Int.reduceAdd] at q m
  rw [e1 1002 (by omega), e1 1003 (by omega)] at m
  by_cases pq : 0 ≤ p ∧ p < 6 ∧ 0 ≤ x ∧ x < 6
  · obtain ⟨p0, p1, x0, x1⟩ := pq
    obtain ⟨k1, k2⟩ := j_Qr Q p0 p1
    obtain ⟨h1, h2⟩ := j_Qr Q x0 x1
    rw [k1, h1] at q
    rcases q with ⟨q1, q2, q3⟩ | ⟨_, _, _, _, g0, g1, g2, q1, q2, q3⟩ | ⟨_, _, _, _, g0, g1, g2, q1, q2, q3, q4, q5, q6⟩
    · rcases m with ⟨_, m2, m3⟩ | ⟨_, _, _, _, g0, g1, g2, _⟩ | ⟨_, _, _, _, g0, g1, g2, _⟩
      · exact ⟨by rw [q3, m3], j_Q_fd hm Q n1 q2 n2 m2⟩
      · exact absurd ⟨p0, p1, x0, x1, g0, g1, g2⟩ q1
      · exact absurd ⟨p0, p1, x0, x1, g0, g1, g2⟩ q1
    · rcases m with ⟨m1, _⟩ | ⟨_, _, _, _, _, _, _, m1, m2, m3⟩ | ⟨_, _, _, _, _, _, _, m1, _⟩
      · exact absurd ⟨p0, p1, x0, x1, g0, g1, g2⟩ m1
      · exact ⟨by rw [q3, m3], j_Q_fd hm Q n1 q2 n2 m2⟩
      · omega
    · rcases m with ⟨m1, _⟩ | ⟨_, _, _, _, _, _, _, m1, _⟩ | ⟨_, _, _, _, _, _, _, m1, m2, m3, m4, m5, m6, m7⟩
      · exact absurd ⟨p0, p1, x0, x1, g0, g1, g2⟩ m1
      · omega
      · refine ⟨by rw [q2, m2], st (fun y y0 y1 => ?_)⟩
        show V2 (3 + 2 * y) 1 = V2 1002 y ∧ ∀ i : Int, 0 ≤ i → i < V2 1002 y → V2 (4 + 2 * y) i = V2 1003 (400 * y + i)
        have rx := j_mr hm y0 y1
        have rp := (j_mr hm x0 x1).1
        rw [f2 (3 + 2 * y) (by omega), f2 (4 + 2 * y) (by omega)]
        by_cases e : y = x
        · rw [e, q3, m3]
          refine ⟨rfl, fun i i0 i1 => ?_⟩
          by_cases c : i < V 1002 x
          · rw [q4 i c, m5 _ (by omega)]
            exact h2 i i0 c
          · have a1 := q5 (i - V 1002 x) (by omega) (by omega)
            have a2 := m6 (i - V 1002 x) (by omega) (by omega)
            rw [show V 1002 x + (i - V 1002 x) = i by omega] at a1
            rw [show 400 * x + V 1002 x + (i - V 1002 x) = 400 * x + i by omega, show 400 * p + f + (i - V 1002 x) = 400 * p + (f + (i - V 1002 x)) by omega] at a2
            rw [a1, a2]
            exact k2 _ (by omega) (by omega)
        · rw [q6 _ (by omega) (by omega), q6 _ (by omega) (by omega), m4 y e]
          obtain ⟨z1, z2⟩ := j_Qr Q y0 y1
          refine ⟨z1, fun i i0 i1 => ?_⟩
          rw [m5 _ (by omega)]
          exact z2 i i0 i1
  · rcases q with ⟨_, q2, q3⟩ | ⟨z0, z1, z2, z3, _⟩ | ⟨z0, z1, z2, z3, _⟩
    · rcases m with ⟨_, m2, m3⟩ | ⟨z0, z1, z2, z3, _⟩ | ⟨z0, z1, z2, z3, _⟩
      · exact ⟨by rw [q3, m3], j_Q_fd hm Q n1 q2 n2 m2⟩
      · exact absurd ⟨z0, z1, z2, z3⟩ pq
      · exact absurd ⟨z0, z1, z2, z3⟩ pq
    · exact absurd ⟨z0, z1, z2, z3⟩ pq
    · exact absurd ⟨z0, z1, z2, z3⟩ pq
