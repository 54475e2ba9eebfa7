/-! WHAT A CALL LEAVES ALONE: the class -/
def j_cw (V V' : jH) (a l1 h1 l2 h2 : Int) : Prop := V' (a + 1) 2 = V (a + 1) 2 ∧ (∀ c : Int, c ≠ a → c ≠ a + 1 → (c < l1 ∨ h1 < c) → (c < l2 ∨ h2 < c) → V' c = V c) ∧ ∀ j : Int, j ≠ 7 → V' a j = V a j
theorem j_cw_fd {V : jH} {a l1 h1 l2 h2 : Int} : j_cw V (j_fd V a) a l1 h1 l2 h2 := ⟨by unfold j_fd; rw [j_up_ne (by omega)], fun c c0 _ _ _ => j_up_ne c0, fun j hj => j_up_off hj⟩
theorem j_cw_rf {V : jH} {a l1 h1 l2 h2 : Int} : j_cw V V a l1 h1 l2 h2 := ⟨rfl, fun _ _ _ _ _ => rfl, fun _ _ => rfl⟩
theorem j_cw.tr {V V1 V2 : jH} {a l1 h1 l2 h2 : Int} (h : j_cw V V1 a l1 h1 l2 h2) (h' : j_cw V1 V2 a l1 h1 l2 h2) : j_cw V V2 a l1 h1 l2 h2 := ⟨h'.1.trans h.1, fun c c0 c1 c2 c3 => (h'.2.1 c c0 c1 c2 c3).trans (h.2.1 c c0 c1 c2 c3), fun j hj => (h'.2.2 j hj).trans (h.2.2 j hj)⟩
theorem j_cw.wk {V V' : jH} {a l1 h1 l2 h2 m1 n1 m2 n2 : Int} (h : j_cw V V' a l1 h1 l2 h2) (e : ∀ c : Int, (c < m1 ∨ n1 < c) → (c < m2 ∨ n2 < c) → (c < l1 ∨ h1 < c) ∧ (c < l2 ∨ h2 < c)) : j_cw V V' a m1 n1 m2 n2 := ⟨h.1, fun c c0 c1 c2 c3 => h.2.1 c c0 c1 (e c c2 c3).1 (e c c2 c3).2, h.2.2⟩
theorem j_cw_fr {V V' : jH} {a l1 h1 l2 h2 : Int} (ha : (a < l1 ∨ h1 < a) ∧ (a < l2 ∨ h2 < a)) (hb : (a + 1 < l1 ∨ h1 < a + 1) ∧ (a + 1 < l2 ∨ h2 < a + 1)) (h : ∀ c : Int, (c < l1 ∨ h1 < c) → (c < l2 ∨ h2 < c) → V' c = V c) : j_cw V V' a l1 h1 l2 h2 := ⟨by rw [h _ hb.1 hb.2], fun c _ _ c2 c3 => h c c2 c3, fun j _ => by rw [h a ha.1 ha.2]⟩
theorem j_cw_q2 {V V' : jH} {a p w n r : Int} (h : j_q2 a p w n V r V') : j_cw V V' a (a + 3) (a + 14) (a + 3) (a + 14) := by
  rcases h with ⟨-, e, -⟩ | ⟨-, -, -, -, -, e, -⟩ | ⟨p0, p1, -, -, -, -, -, -, -, f⟩
  · rw [e]; exact j_cw_fd
  · rw [e]; exact j_cw_fd
  · exact j_cw_fr (by omega) (by omega) (fun c c0 c1 => f c (by omega) (by omega))
theorem j_cw_q3 {V V' : jH} {a p r : Int} (h : j_q3 a p V r V') : j_cw V V' a (a + 3) (a + 14) (a + 3) (a + 14) := by
  rcases h with ⟨-, e, -⟩ | ⟨p0, p1, -, e⟩
  · rw [e]; exact j_cw_fd
  · rw [e]; exact j_cw_fr (by omega) (by omega) (fun c c0 c1 => j_up_ne (by omega))
theorem j_cw_q4 {V V' : jH} {a p i r l1 h1 l2 h2 : Int} (h : j_q4 a p i V r V') : j_cw V V' a l1 h1 l2 h2 := by
  rcases h with ⟨-, e, -⟩ | ⟨-, -, -, -, e, -⟩
  · rw [e]; exact j_cw_fd
  · rw [e]; exact j_cw_rf
theorem j_cw_q5 {V V' : jH} {a p f n q r : Int} (h : j_q5 a p f n q V r V') : j_cw V V' a (a + 3) (a + 14) (a + 3) (a + 14) := by
  rcases h with ⟨-, e, -⟩ | ⟨-, -, -, -, -, -, -, -, e, -⟩ | ⟨-, -, q0, q1, -, -, -, -, -, -, -, -, f⟩
  · rw [e]; exact j_cw_fd
  · rw [e]; exact j_cw_fd
  · exact j_cw_fr (by omega) (by omega) (fun c c0 c1 => f c (by omega) (by omega))
theorem j_slotT_bd {S : jS} {V : jH} {a t : Int} (hI : j_cI S V a) (t0 : 0 ≤ t) (t1 : t < V (a + 1) 2) : a + 31 ≤ j_slotT (a + 1) t ∧ j_slotT (a + 1) t + 9 ≤ a + 130 := by
  have s1 := hI.2.2.2.1.2.2.1.2.1
  unfold j_slotT; omega
theorem j_cw_q7 {S : jS} {V V' : jH} {a tb s f r : Int} (hI : j_cI S V a) (h : j_q7 a tb s f V r V') : j_cw V V' a (a + 31) (a + 130) (a + 31) (a + 130) := by
  rcases h with ⟨-, e, -⟩ | ⟨t0, t1, ⟨-, e, -⟩ | ⟨-, ⟨-, e, -⟩ | ⟨-, -, -, -, ⟨-, e, -⟩ | ⟨-, -, e⟩⟩⟩⟩
  · rw [e]; exact j_cw_fd
  · rw [e]; exact j_cw_fd
  · rw [e]; exact j_cw_fd
  · rw [e]; exact j_cw_fd
  · have sb := j_slotT_bd hI t0 t1
    rw [e]
    exact j_cw_fr (by omega) (by omega) (fun c c0 c1 => j_row_ne (by omega))
theorem j_cw_q8 {S : jS} {V V' : jH} {a tb p r : Int} (hI : j_cI S V a) (h : j_q8 a tb p V r V') : j_cw V V' a (a + 31) (a + 130) (a + 230) (a + 232) := by
  rcases h with ⟨-, e, -⟩ | ⟨t0, t1, -, -, ⟨-, e, -⟩ | ⟨-, ⟨-, e, -⟩ | ⟨-, -, -, f, -⟩⟩⟩
  · rw [e]; exact j_cw_fd
  · rw [e]; exact j_cw_fd
  · rw [e]; exact j_cw_fd
  · have sb := j_slotT_bd hI t0 t1
    have pp := j_parts_bd (V (j_slotT (a + 1) tb) 1)
    exact j_cw_fr (by omega) (by omega) (fun c c0 c1 => f c (by omega) (by omega) (by omega) (fun p p0 p1 => (by omega)))
theorem j_cw_q9 {V V' : jH} {a tb pt s bg r l1 h1 l2 h2 : Int} (h : j_q9 a tb pt s bg V r V') : j_cw V V' a l1 h1 l2 h2 := by
  rcases h with ⟨-, e, -⟩ | ⟨-, -, -, -, -, ⟨-, e, -⟩ | ⟨-, e, -⟩⟩
  · rw [e]; exact j_cw_fd
  · rw [e]; exact j_cw_fd
  · rw [e]; exact j_cw_rf
theorem j_cw_ms {V : jH} {a i l1 h1 l2 h2 : Int} : j_cw V (j_fd (j_up V (a + 1) 4 i) a) a l1 h1 l2 h2 :=
  j_cw.tr (V1 := j_up V (a + 1) 4 i) ⟨j_up_off (by decide), fun c _ c1 _ _ => j_up_ne c1, fun j _ => by rw [j_up_ne (by omega)]⟩ j_cw_fd
theorem j_cw_q10 {S S' : jS} {V V' : jH} {a tb pt p r : Int} (h : j_q10 a tb pt p S V r S' V') : j_cw V V' a (a + 233) (a + 233) (a + 233) (a + 233) := by
  rcases h with ⟨_, e0, e, _⟩ | ⟨_, _, _, _, _, ⟨_, e0, e, _⟩ | ⟨_, ⟨i, _, _, _, _, e0, e, _⟩ | ⟨_, _, ⟨e0, e⟩ | ⟨d1, d2, e1, L1, ok, fr⟩⟩⟩⟩
  · rw [e]; exact j_cw_fd
  · rw [e]; exact j_cw_fd
  · rw [e]; exact j_cw_ms
  · rw [e]; exact j_cw_rf
  · exact j_cw_fr (by omega) (by omega) (fun c c0 c1 => fr c (by omega))
theorem j_cw_q11 {V V' : jH} {a tb k r l1 h1 l2 h2 : Int} (h : j_q11 a tb k V r V') : j_cw V V' a l1 h1 l2 h2 := by
  rcases h with ⟨-, e, -⟩ | ⟨-, -, -, -, ⟨-, e, -⟩ | ⟨-, e, -⟩⟩
  · rw [e]; exact j_cw_fd
  · rw [e]; exact j_cw_fd
  · rw [e]; exact j_cw_rf
theorem j_cw_try {V V' : jH} {a t w la r l1 h1 : Int} (h : j_try a t w la V r V') : j_cw V V' a l1 h1 (a + 200) (a + 232) := by
  rcases h with ⟨_, e, er⟩ | ⟨_, _, _, _, ⟨_, e, er⟩ | ⟨_, V1, m, hP, _, ⟨_, e, er⟩ | ⟨_, hK, _⟩⟩⟩
  · rw [e]; exact j_cw_fd
  · rw [e]; exact j_cw_fd
  · have n1 : j_cw V V1 a l1 h1 (a + 200) (a + 232) := ⟨by rw [hP.1 _ (by omega) (by omega) (by omega) (by omega) (by omega) (by omega)], fun c _ _ _ hc => hP.1 c (by omega) (by omega) (by omega) (by omega) (by omega) (by omega), fun j _ => by rw [hP.1 _ (by omega) (by omega) (by omega) (by omega) (by omega) (by omega)]⟩
    rw [e]
    exact n1.tr j_cw_ms
  · have f : ∀ c : Int, (c < a + 200 ∨ a + 232 < c) → V' c = V c := fun c hc => (hK.1 c (by omega) (by omega) (by omega) (by omega) (by omega)).trans (hP.1 c (by omega) (by omega) (by omega) (by omega) (by omega) (by omega))
    exact ⟨by rw [f _ (by omega)], fun c _ _ _ hc => f c hc, fun j _ => by rw [f _ (by omega)]⟩
theorem j_cw_fill {V V' : jH} {a t la l2 h2 : Int} (h : j_filled a t la V V') : j_cw V V' a (a + 16) (a + 23) l2 h2 := by
  obtain ⟨-, V1, x1, x2, x3, x4⟩ := h
  obtain ⟨-, s3, s4⟩ := j_stepsBe_at (V := j_up (j_up V1 (a + 16) 4 0) (a + 16) 2 1) (a := a + 18) (o := a + 214) (by omega)
  rw [← x4] at s3 s4
  have ne : ∀ c : Int, (c < a + 16 ∨ a + 23 < c) → V' c = V c := fun c hc => by
    rw [s3 c (by omega), j_up_ne (by omega), j_up_ne (by omega)]; exact x3.1 c (by omega) (by omega)
  exact ⟨by rw [ne _ (by omega)], fun c _ _ hc _ => ne c hc, fun j _ => by rw [ne _ (by omega)]⟩
theorem j_cw_q12 {V V' : jH} {a tb p la r : Int} (h : j_q12 a tb p la V r V') : j_cw V V' a (a + 16) (a + 23) (a + 200) (a + 232) := by
  obtain ⟨V2, h1, ⟨_, e⟩ | ⟨r0, hf⟩⟩ := h
  · rw [e]; exact j_cw_try h1
  · exact (j_cw_try h1).tr (j_cw_fill hf)
theorem j_cw_q14 {V V' : jH} {a p r : Int} (h : j_q14 a p V r V') : j_cw V V' a (a + 3) (a + 23) (a + 200) (a + 240) := by
  rcases h with ⟨_, e, _⟩ | ⟨p0, p1, x, V1, hF, h⟩
  · rw [e]; exact j_cw_fd
  · have n1 : j_cw V V1 a (a + 3) (a + 23) (a + 200) (a + 240) := j_cw_fr (by omega) (by omega) (fun c _ hc => hF.1 c (by omega) (by omega))
    rcases h with ⟨_, e, _⟩ | ⟨x0, _, v1, v2, v3, v4, _, v7⟩
    · rw [e]; exact n1.tr j_cw_fd
    · exact n1.tr (j_cw_fr (by omega) (by omega) (fun c hc _ => v7 c (by omega) (by omega) (by omega) (by omega)))
theorem j_cw_q15 {V V' : jH} {a i r l1 h1 l2 h2 : Int} (h : j_q15 a i V r V') : j_cw V V' a l1 h1 l2 h2 := by
  rcases h with ⟨-, e, -⟩ | ⟨-, -, e, -⟩
  · rw [e]; exact j_cw_fd
  · rw [e]; exact j_cw_rf
theorem j_cw_q16 {V V' : jH} {a i m r : Int} (h : j_q16 a i m V r V') : j_cw V V' a (a + 16) (a + 23) (a + 16) (a + 23) := by
  rcases h with ⟨-, e, -⟩ | ⟨-, -, -, -, -, e⟩
  · rw [e]; exact j_cw_fd
  · rw [e]; exact j_cw_fr (by omega) (by omega) (fun c hc _ => by rw [j_up_ne (by omega), j_up_ne (by omega), j_up_ne (by omega)])
theorem j_cw_q17 {V V' : jH} {a w n r : Int} (h : j_q17 a w n V r V') : j_cw V V' a (a + 16) (a + 23) (a + 16) (a + 23) := by
  rcases h with ⟨-, e, -⟩ | ⟨-, -, -, -, -, e, -⟩ | ⟨-, -, -, -, -, -, -, -, -, -, -, f⟩
  · rw [e]; exact j_cw_fd
  · rw [e]; exact j_cw_fd
  · exact j_cw_fr (by omega) (by omega) (fun c hc _ => f c (by omega) (by omega))
theorem j_cw_q18 {V V' : jH} {a p r : Int} (h : j_q18 a p V r V') : j_cw V V' a (a + 16) (a + 23) (a + 200) (a + 232) := by
  rcases h with ⟨_, e, _⟩ | ⟨_, _, _, e, _⟩ | ⟨_, _, _, k, rr, la, V1, V2, V3, V4, _, _, _, _, _, _, _, f1, hT, hP, hK, hf⟩
  · rw [e]; exact j_cw_fd
  · rw [e]; exact j_cw_fd
  · have n1 : j_cw V V4 a (a + 16) (a + 23) (a + 200) (a + 232) := j_cw_fr (by omega) (by omega) (fun c _ hc => ((hK.1 c (by omega) (by omega) (by omega) (by omega) (by omega)).trans (hP.1 c (by omega) (by omega) (by omega) (by omega) (by omega) (by omega))).trans ((hT.2.2.2.2.2 c hc).trans (f1 c hc)))
    exact n1.tr (j_cw_fill hf)
theorem j_cw_q19 {V V' : jH} {a i k r l1 h1 l2 h2 : Int} (h : j_q19 a i k V r V') : j_cw V V' a l1 h1 l2 h2 := by
  rcases h with ⟨-, e, -⟩ | ⟨-, -, e, -⟩ | ⟨-, -, -, -, -, e, -⟩
  · rw [e]; exact j_cw_fd
  · rw [e]; exact j_cw_fd
  · rw [e]; exact j_cw_rf
theorem j_cw_q20 {V V' : jH} {a k r : Int} (h : j_q20 a k V r V') : j_cw V V' a (a + 16) (a + 23) (a + 16) (a + 23) := by
  rcases h with ⟨-, e, -⟩ | ⟨-, -, e, -⟩ | ⟨-, -, -, -, e, -⟩ | ⟨-, -, -, -, e, -⟩
  · rw [e]; exact j_cw_fd
  · rw [e]; exact j_cw_fd
  · rw [e]; exact j_cw_fd
  · rw [e]; exact j_cw_fr (by omega) (by omega) (fun c hc _ => j_up_ne (by omega))
theorem j_cw_q21 {V V' : jH} {a i r l1 h1 l2 h2 : Int} (h : j_q21 a i V r V') : j_cw V V' a l1 h1 l2 h2 := by
  rcases h with ⟨e, -⟩ | ⟨-, -, x, e⟩
  · rw [e]; exact j_cw_fd
  · rw [e]; exact ⟨j_up_off (by decide), fun c _ c1 _ _ => j_up_ne c1, fun j _ => by rw [j_up_ne (by omega)]⟩
theorem j_cw_q26 {V V' : jH} {a l1 h1 l2 h2 : Int} (h : V' = V ∨ V' = j_fd V a) : j_cw V V' a l1 h1 l2 h2 := by
  rcases h with e | e
  · rw [e]; exact j_cw_rf
  · rw [e]; exact j_cw_fd
/-! WHAT A CALL LEAVES ALONE: the reference -/
def j_mw (V V' : jH) (a lo hi : Int) : Prop := (V' a 2 = V a 2 ∧ V' a 4 = V a 4) ∧ V' (a + 1) 2 = V (a + 1) 2 ∧ ∀ c : Int, c ≠ a → c ≠ a + 1 → (c < lo ∨ hi < c) → c < a + 18 → V' c = V c
theorem j_mw_rf {V : jH} {a lo hi : Int} : j_mw V V a lo hi := ⟨⟨rfl, rfl⟩, rfl, fun _ _ _ _ _ => rfl⟩
theorem j_mw_md {V : jH} {a lo hi : Int} : j_mw V (j_md V a) a lo hi := ⟨⟨j_up_off (by decide), j_up_off (by decide)⟩, by unfold j_md; rw [j_up_ne (by omega)], fun c c0 _ _ _ => j_up_ne c0⟩
theorem j_mw.tr {V V1 V2 : jH} {a lo hi : Int} (h : j_mw V V1 a lo hi) (h' : j_mw V1 V2 a lo hi) : j_mw V V2 a lo hi := ⟨⟨h'.1.1.trans h.1.1, h'.1.2.trans h.1.2⟩, h'.2.1.trans h.2.1, fun c c0 c1 c2 c3 => (h'.2.2 c c0 c1 c2 c3).trans (h.2.2 c c0 c1 c2 c3)⟩
theorem j_mw_fr {V V' : jH} {a lo hi : Int} (ha : a < lo ∨ hi < a) (hb : a + 1 < lo ∨ hi < a + 1) (h : ∀ c : Int, (c < lo ∨ hi < c) → c < a + 18 → V' c = V c) : j_mw V V' a lo hi := ⟨⟨by rw [h a ha (by omega)], by rw [h a ha (by omega)]⟩, by rw [h _ hb (by omega)], fun c _ _ c2 c3 => h c c2 c3⟩
theorem j_mw_wk {V V' : jH} {a lo hi : Int} (h : j_wkF V V' a) : j_mw V V' a lo hi := ⟨⟨h.2 2 (by omega), h.2 4 (by omega)⟩, by rw [h.1 _ (by omega) (by omega)], fun c c0 _ _ c3 => h.1 c c0 (by omega)⟩
theorem j_mw_12 {V : jH} {a j x lo hi : Int} (hj : j ≠ 2) : j_mw V (j_up V (a + 1) j x) a lo hi := ⟨⟨by rw [j_up_ne (by omega)], by rw [j_up_ne (by omega)]⟩, j_up_off (fun e => hj e.symm), fun c _ c1 _ _ => j_up_ne c1⟩
theorem j_mw_r2 {V V' : jH} {a p w n r : Int} (h : j_r2 a p w n V r V') : j_mw V V' a (a + 2) (a + 3) := by
  obtain ⟨-, e, -⟩ | ⟨-, -, -, -, -, e, -⟩ | ⟨-, -, -, -, -, -, -, -, -, -, f⟩ := h
  · rw [e]; exact j_mw_md
  · rw [e]; exact j_mw_md
  · exact j_mw_fr (by omega) (by omega) (fun c c2 c3 => f c (by omega) (by omega))
theorem j_mw_r3 {V V' : jH} {a p r : Int} (h : j_r3 a p V r V') : j_mw V V' a (a + 2) (a + 3) := by
  obtain ⟨-, e, -⟩ | ⟨-, -, -, e⟩ := h
  · rw [e]; exact j_mw_md
  · rw [e]; exact j_mw_fr (by omega) (by omega) (fun c c2 c3 => j_up_ne (by omega))
theorem j_mw_r4 {V V' : jH} {a p i r lo hi : Int} (h : j_r4 a p i V r V') : j_mw V V' a lo hi := by
  obtain ⟨-, e, -⟩ | ⟨-, -, -, -, e, -⟩ := h
  · rw [e]; exact j_mw_md
  · rw [e]; exact j_mw_rf
theorem j_mw_r5 {V V' : jH} {a p f n q r : Int} (h : j_r5 a p f n q V r V') : j_mw V V' a (a + 2) (a + 3) := by
  obtain ⟨-, e, -⟩ | ⟨-, -, -, -, -, -, -, -, e, -⟩ | ⟨-, -, -, -, -, -, -, -, -, -, -, -, -, f⟩ := h
  · rw [e]; exact j_mw_md
  · rw [e]; exact j_mw_md
  · exact j_mw_fr (by omega) (by omega) (fun c c2 c3 => f c (by omega) (by omega) (by omega))
theorem j_mw_r7 {V V' : jH} {a tb s f r : Int} (h : j_r7 a tb s f V r V') : j_mw V V' a (a + 7) (a + 7) := by
  obtain ⟨-, e, -⟩ | ⟨t0, t1, ⟨-, e, -⟩ | ⟨k0, ⟨-, e, -⟩ | ⟨s0, s1, f0, f1, ⟨-, e, -⟩ | ⟨hs, -, e⟩⟩⟩⟩ := h
  · rw [e]; exact j_mw_md
  · rw [e]; exact j_mw_md
  · rw [e]; exact j_mw_md
  · rw [e]; exact j_mw_md
  · rw [e]; exact j_mw_fr (by omega) (by omega) (fun c c2 c3 => j_up_ne (by omega))
theorem j_mw_r8 {V V' : jH} {a tb p r : Int} (h : j_r8 a tb p V r V') : j_mw V V' a (a + 6) (a + 7) := by
  obtain ⟨-, e, -⟩ | ⟨t0, t1, p0, p1, ⟨-, e, -⟩ | ⟨hk, ⟨-, e, -⟩ | ⟨-, -, V1, ⟨d1, d2, d3⟩, e⟩⟩⟩ := h
  · rw [e]; exact j_mw_md
  · rw [e]; exact j_mw_md
  · rw [e]; exact j_mw_md
  · rw [e]; exact j_mw_fr (by omega) (by omega) (fun c c2 c3 => by rw [j_up_ne (by omega)]; exact d3 c (by omega) (by omega) (by omega))
theorem j_mw_r9 {V V' : jH} {a tb pt s bg r lo hi : Int} (h : j_r9 a tb pt s bg V r V') : j_mw V V' a lo hi := by
  obtain ⟨-, e, -⟩ | ⟨-, -, -, -, -, ⟨-, e, -⟩ | ⟨-, e, -⟩⟩ := h
  · rw [e]; exact j_mw_md
  · rw [e]; exact j_mw_md
  · rw [e]; exact j_mw_rf
theorem j_mw_r10 {V V' : jH} {a tb pt p r lo hi : Int} (h : j_r10 a tb pt p V r V') : j_mw V V' a lo hi := by
  obtain ⟨-, e, -⟩ | ⟨-, -, -, -, -, ⟨-, e, -⟩ | ⟨-, ⟨i, -, -, -, -, e, -⟩ | ⟨-, e, -⟩⟩⟩ := h
  · rw [e]; exact j_mw_md
  · rw [e]; exact j_mw_md
  · rw [e]; exact (j_mw_12 (by decide)).tr j_mw_md
  · rw [e]; exact j_mw_rf
theorem j_mw_r11 {V V' : jH} {a tb k r lo hi : Int} (h : j_r11 a tb k V r V') : j_mw V V' a lo hi := by
  obtain ⟨-, e, -⟩ | ⟨-, -, -, -, ⟨-, e, -⟩ | ⟨-, e, -⟩⟩ := h
  · rw [e]; exact j_mw_md
  · rw [e]; exact j_mw_md
  · rw [e]; exact j_mw_rf
theorem j_mw_pby {V V' : jH} {a tb p la r lo hi : Int} (h : j_pby a tb p la V r V') : j_mw V V' a lo hi := by
  obtain ⟨-, e, er⟩ | ⟨t0, t1, p0, p1, l0, l1, ⟨-, e, er⟩ | ⟨-, V1, V2, x, v9, v10, vj, v21, vc, hD, hP, hx⟩⟩ := h
  · rw [e]; exact j_mw_rf
  · rw [e]; exact j_mw_rf
  · have w2 := j_rpk_wk hP
    have n2 : j_mw V V2 a lo hi := j_mw_wk ⟨fun c c0 c1 => by rw [w2.1 c c0 c1]; exact vc c c0 (by omega), fun j hj => by rw [w2.2 j hj]; exact vj j (by omega) (by omega)⟩
    rcases hx with ⟨x0, e, er⟩ | ⟨ex, e, er, r0, r1⟩
    · rw [e]; exact n2.tr (j_mw_12 (by decide))
    · rw [e]; exact n2
theorem j_mw_mkb {V V' : jH} {a : Int} (h : j_mkb V V' a) : j_mw V V' a (a + 8) (a + 8) := by
  obtain ⟨m1, m2, m3⟩ := h
  exact ⟨⟨by rw [m3 _ (by omega) (by omega)], by rw [m3 _ (by omega) (by omega)]⟩, by rw [m1, j_u_ne (by decide), j_u_ne (by decide), j_u_ne (by decide)], fun c _ c1 c2 _ => m3 c c1 (by omega)⟩
theorem j_mw_r12 {V V' : jH} {a tb p la r : Int} (h : j_r12 a tb p la V r V') : j_mw V V' a (a + 8) (a + 8) := by
  obtain ⟨V2, hp, ⟨-, e⟩ | ⟨-, hk⟩⟩ := h
  · rw [e]; exact (j_mw_pby hp).tr j_mw_md
  · exact (j_mw_pby hp).tr (j_mw_mkb hk)
theorem j_mw_r13 {V V' : jH} {a tb p la r lo hi : Int} (h : j_r13 a tb p la V r V') : j_mw V V' a lo hi := by
  obtain ⟨V2, hp, ⟨-, e⟩ | ⟨-, e⟩⟩ := h
  · rw [e]; exact (j_mw_pby hp).tr j_mw_md
  · rw [e]; exact j_mw_pby hp
theorem j_mw_ag {V V' : jH} {a x lo hi : Int} (h : j_ag V V' a x) : j_mw V V' a lo hi := j_mw_wk (j_ag_F h).1
theorem j_mw_r14 {V V' : jH} {a p r : Int} (h : j_r14 a p V r V') : j_mw V V' a (a + 2) (a + 3) := by
  obtain ⟨-, e, -⟩ | ⟨p0, p1, x, V1, ⟨wk, hx⟩, ⟨-, e, -⟩ | ⟨x0, -, e2, e3, e4, e1, e5⟩⟩ := h
  · rw [e]; exact j_mw_md
  · rw [e]; exact (j_mw_wk wk).tr j_mw_md
  · exact (j_mw_wk wk).tr ⟨⟨by rw [e5 _ (by omega) (by omega) (by omega)], by rw [e5 _ (by omega) (by omega) (by omega)]⟩, by rw [e1, j_u_ne (by decide), j_u_ne (by decide)], fun c _ c1 c2 _ => e5 c c1 (by omega) (by omega)⟩
theorem j_mw_r15 {V V' : jH} {a i r lo hi : Int} (h : j_r15 a i V r V') : j_mw V V' a lo hi := by
  obtain ⟨-, e, -⟩ | ⟨-, -, e, -⟩ := h
  · rw [e]; exact j_mw_md
  · rw [e]; exact j_mw_rf
theorem j_mw_r16 {V V' : jH} {a i m r : Int} (h : j_r16 a i m V r V') : j_mw V V' a (a + 8) (a + 8) := by
  obtain ⟨-, e, -⟩ | ⟨-, -, -, -, -, e⟩ := h
  · rw [e]; exact j_mw_md
  · rw [e]
    exact ⟨⟨by rw [j_up_ne (by omega), j_up_ne (by omega), j_up_ne (by omega)], by rw [j_up_ne (by omega), j_up_ne (by omega), j_up_ne (by omega)]⟩, by rw [j_up_off (by decide), j_up_off (by decide), j_up_ne (by omega)], fun c _ c1 c2 _ => by rw [j_up_ne c1, j_up_ne c1, j_up_ne (by omega)]⟩
theorem j_mw_r17 {V V' : jH} {a w n r : Int} (h : j_r17 a w n V r V') : j_mw V V' a (a + 8) (a + 8) := by
  obtain ⟨-, e, -⟩ | ⟨-, -, -, -, -, e, -⟩ | ⟨-, -, -, -, -, -, e1, -, -, f⟩ := h
  · rw [e]; exact j_mw_md
  · rw [e]; exact j_mw_md
  · exact ⟨⟨by rw [f _ (by omega) (by omega)], by rw [f _ (by omega) (by omega)]⟩, by rw [e1, j_u_ne (by decide), j_u_ne (by decide), j_u_ne (by decide)], fun c _ c1 c2 _ => f c c1 (by omega)⟩
theorem j_mw_r18 {V V' : jH} {a p r : Int} (h : j_r18 a p V r V') : j_mw V V' a (a + 8) (a + 8) := by
  obtain ⟨-, e, -⟩ | ⟨-, -, -, e, -⟩ | ⟨p0, p1, -, k, rr, la, V1, V2, k0, k1, r0, r1, l0, l1, -, wk, ha, hk⟩ := h
  · rw [e]; exact j_mw_md
  · rw [e]; exact j_mw_md
  · exact ((j_mw_wk wk).tr (j_mw_wk (j_rpa_wk ha))).tr (j_mw_mkb hk)
theorem j_mw_r19 {V V' : jH} {a i k r lo hi : Int} (h : j_r19 a i k V r V') : j_mw V V' a lo hi := by
  obtain ⟨-, e, -⟩ | ⟨-, x, V1, ag, ⟨-, e, -⟩ | ⟨-, -, -, -, e, -⟩⟩ := h
  · rw [e]; exact j_mw_md
  · rw [e]; exact (j_mw_ag ag).tr j_mw_md
  · rw [e]; exact j_mw_ag ag
theorem j_mw_r20 {V V' : jH} {a g r lo hi : Int} (h : j_r20 a g V r V') : j_mw V V' a lo hi := by
  obtain ⟨-, e, -⟩ | ⟨-, -, e, -⟩ | ⟨m9, g0, g1, x, V1, ag, ⟨-, e, -⟩ | ⟨-, -, e⟩⟩ := h
  · rw [e]; exact j_mw_md
  · rw [e]; exact j_mw_md
  · rw [e]; exact (j_mw_ag ag).tr j_mw_md
  · rw [e]; exact ((j_mw_ag ag).tr (j_mw_12 (by decide))).tr (j_mw_12 (by decide))
theorem j_mw_r21 {V V' : jH} {a i r lo hi : Int} (h : j_r21 a i V r V') : j_mw V V' a lo hi := by
  obtain ⟨-, e, -⟩ | ⟨-, x, V1, ag, ⟨-, e, -⟩ | ⟨-, -, -, e⟩⟩ := h
  · rw [e]; exact j_mw_md
  · rw [e]; exact (j_mw_ag ag).tr j_mw_md
  · rw [e]; exact (j_mw_ag ag).tr (j_mw_12 (by decide))
theorem j_mw_54 {V V' : jH} {a lo hi : Int} (h : V' = V ∨ V' = j_md V a) : j_mw V V' a lo hi := by
  rcases h with e | e
  · rw [e]; exact j_mw_rf
  · rw [e]; exact j_mw_md
