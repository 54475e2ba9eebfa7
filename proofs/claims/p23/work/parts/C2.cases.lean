/-! THE LAW: its cases -/
theorem lw_c0 {C : qCx} {G : jG} {b L : Nat} {xs : Nat → Int32} {S : jS} {V : jH} {nc ns : Nat} {i : Int} (h : xL C G) (hX : j_X C G b L xs) (hrm : C.2.2.2.1.frames = 10 ∧ C.2.2.2.1.locals = 396) (hcs : C.2.2.2.1.cells = 600000 ∧ C.2.2.2.1.slots = 7302250) (hI : j_lwI S V i nc ns) (i1 : i ≤ (L : Int) - 5) (kk : ∀ (S : jS) (V : jH) (nc ns : Nat), j_lwI S V (i + 5) nc ns → j_ok n_KT 4 C G 18 [(0, (9, (b : Int))), (1, (2, 0)), (2, (2, 1000)), (3, (0, i + 5))] [] S V nc ns) : j_ok n_KT 4 C G 148 [(0, (9, (b : Int))), (1, (2, 0)), (2, (2, 1000)), (3, (0, i))] [] S V nc ns := by
  have hL := hX.2.2.2
  obtain ⟨hc0, hm0, f7, f3, i0, nb1, nb2, nb3, hR, hQ⟩ := id hI
  have kx : S.1 0 = 31 := hc0.2.1
  have F7 : V 0 7 < 1000000 := by omega
  refine tL_148 h hX hrm (by omega) (by omega) (by omega) (by omega) (by omega) (by omega) (j_scr_bd xs _).1 (j_scr_bd xs _).2 (by omega) (by omega) (by omega) (by omega) (by omega) (by omega) (by omega) (by omega) (by omega) kx (m1_2 C.2.1) hc0 (by rw [hcs.1]; omega) (by rw [hcs.2]; omega) ?_
  rintro r S1 V1 ⟨e0, hq⟩
  subst e0
  have n1 := j_cN_q2 hc0 F7 hq
  obtain ⟨hm1, em⟩ := j_mid hm0 n1
  have F3 : V1 1000 3 < 1000000 := by rw [em]; omega
  have km : S1.1 1000 = 33 := hm1.2.1
  refine tL_182 h hX hrm (by omega) (by omega) (by omega) (by omega) (by omega) (by omega) (j_scr_bd xs _).1 (j_scr_bd xs _).2 (by omega) (by omega) (by omega) (by omega) (by omega) (by omega) (by omega) (by omega) (by omega) km (m13_6 C.2.1) hm1 (by rw [hcs.1]; omega) (by rw [hcs.2]; omega) ?_
  rintro r2 S2 V2 ⟨e0, hq2⟩
  subst e0
  have n2 := j_mN_r2 hm1 F3 hq2
  obtain ⟨req, hQ2⟩ := j_Q_put hm0 hQ n1 hq n2 hq2
  exact tL_217 h hX (tL_999 h hX (by omega) (kk _ _ _ _ (j_lw_step (mc := 0) (ms := 0) hI n1 n2 (Or.inl ⟨by omega, by omega, fun z => z⟩) (by omega) (by omega) ⟨(j_R_step hm0 hR n1 rfl (j_cw_q2 hq) (fun c hc => by omega) n2 (j_mw_r2 hq2) (fun c hc => by omega)), hQ2⟩)))
theorem lw_c1 {C : qCx} {G : jG} {b L : Nat} {xs : Nat → Int32} {S : jS} {V : jH} {nc ns : Nat} {i : Int} (h : xL C G) (hX : j_X C G b L xs) (hrm : C.2.2.2.1.frames = 10 ∧ C.2.2.2.1.locals = 396) (hcs : C.2.2.2.1.cells = 600000 ∧ C.2.2.2.1.slots = 7302250) (hI : j_lwI S V i nc ns) (i1 : i ≤ (L : Int) - 5) (kk : ∀ (S : jS) (V : jH) (nc ns : Nat), j_lwI S V (i + 5) nc ns → j_ok n_KT 4 C G 18 [(0, (9, (b : Int))), (1, (2, 0)), (2, (2, 1000)), (3, (0, i + 5))] [] S V nc ns) : j_ok n_KT 4 C G 221 [(0, (9, (b : Int))), (1, (2, 0)), (2, (2, 1000)), (3, (0, i))] [] S V nc ns := by
  have hL := hX.2.2.2
  obtain ⟨hc0, hm0, f7, f3, i0, nb1, nb2, nb3, hR, hQ⟩ := id hI
  have kx : S.1 0 = 31 := hc0.2.1
  have F7 : V 0 7 < 1000000 := by omega
  refine tL_221 h hX hrm (by omega) (by omega) (by omega) kx (m1_3 C.2.1) hc0 (by rw [hcs.1]; omega) (by rw [hcs.2]; omega) ?_
  rintro r S1 V1 ⟨e0, hq⟩
  subst e0
  have n1 := j_cN_q3 hc0 F7 hq
  obtain ⟨hm1, em⟩ := j_mid hm0 n1
  have F3 : V1 1000 3 < 1000000 := by rw [em]; omega
  have km : S1.1 1000 = 33 := hm1.2.1
  refine tL_230 h hX hrm (by omega) (by omega) (by omega) km (m13_7 C.2.1) hm1 (by rw [hcs.1]; omega) (by rw [hcs.2]; omega) ?_
  rintro r2 S2 V2 ⟨e0, hq2⟩
  subst e0
  have n2 := j_mN_r3 hm1 F3 hq2
  obtain ⟨req, hQ2⟩ := j_Q_clear hm0 hQ n1 hq n2 hq2
  exact tL_240 h hX (tL_999 h hX (by omega) (kk _ _ _ _ (j_lw_step (mc := 0) (ms := 0) hI n1 n2 (Or.inl ⟨by omega, by omega, fun z => z⟩) (by omega) (by omega) ⟨(j_R_step hm0 hR n1 rfl (j_cw_q3 hq) (fun c hc => by omega) n2 (j_mw_r3 hq2) (fun c hc => by omega)), hQ2⟩)))
theorem lw_c2 {C : qCx} {G : jG} {b L : Nat} {xs : Nat → Int32} {S : jS} {V : jH} {nc ns : Nat} {i : Int} (h : xL C G) (hX : j_X C G b L xs) (hrm : C.2.2.2.1.frames = 10 ∧ C.2.2.2.1.locals = 396) (hcs : C.2.2.2.1.cells = 600000 ∧ C.2.2.2.1.slots = 7302250) (hI : j_lwI S V i nc ns) (i1 : i ≤ (L : Int) - 5) (kk : ∀ (S : jS) (V : jH) (nc ns : Nat), j_lwI S V (i + 5) nc ns → j_ok n_KT 4 C G 18 [(0, (9, (b : Int))), (1, (2, 0)), (2, (2, 1000)), (3, (0, i + 5))] [] S V nc ns) : j_ok n_KT 4 C G 244 [(0, (9, (b : Int))), (1, (2, 0)), (2, (2, 1000)), (3, (0, i))] [] S V nc ns := by
  have hL := hX.2.2.2
  obtain ⟨hc0, hm0, f7, f3, i0, nb1, nb2, nb3, hR, hQ⟩ := id hI
  have kx : S.1 0 = 31 := hc0.2.1
  have F7 : V 0 7 < 1000000 := by omega
  refine tL_244 h hX hrm (by omega) (by omega) (by omega) (by omega) (by omega) (by omega) kx (m1_4 C.2.1) hc0 (by rw [hcs.1]; omega) (by rw [hcs.2]; omega) ?_
  rintro r S1 V1 ⟨e0, hq⟩
  subst e0
  have n1 := j_cN_q4 hc0 F7 hq
  obtain ⟨hm1, em⟩ := j_mid hm0 n1
  have F3 : V1 1000 3 < 1000000 := by rw [em]; omega
  have km : S1.1 1000 = 33 := hm1.2.1
  refine tL_258 h hX hrm (by omega) (by omega) (by omega) (by omega) (by omega) (by omega) km (m13_8 C.2.1) hm1 (by rw [hcs.1]; omega) (by rw [hcs.2]; omega) ?_
  rintro r2 S2 V2 ⟨e0, hq2⟩
  subst e0
  have n2 := j_mN_r4 hm1 F3 hq2
  have req := j_Q_at hQ n1 hq hq2
  exact tL_273 h hX (tL_999 h hX (by omega) (kk _ _ _ _ (j_lw_step (mc := 0) (ms := 0) hI n1 n2 (Or.inl ⟨by omega, by omega, fun z => z⟩) (by omega) (by omega) ⟨(j_R_step hm0 hR n1 rfl (j_cw_q4 (l1 := 0) (h1 := 0) (l2 := 0) (h2 := 0) hq) (fun c hc => by omega) n2 (j_mw_r4 (lo := 0) (hi := 0) hq2) (fun c hc => by omega)), (j_Q_same hm0 hQ n1 (j_cw_q4 (l1 := 0) (h1 := 0) (l2 := 0) (h2 := 0) hq) (fun c hc => by omega) (j_h16_cw (j_cw_q4 (l1 := 0) (h1 := 0) (l2 := 0) (h2 := 0) hq) (by omega)) n2 (j_mw_r4 (lo := 0) (hi := 0) hq2) (fun c hc => by omega) (j_79_r4 hq2))⟩)))
theorem lw_c3 {C : qCx} {G : jG} {b L : Nat} {xs : Nat → Int32} {S : jS} {V : jH} {nc ns : Nat} {i : Int} (h : xL C G) (hX : j_X C G b L xs) (hrm : C.2.2.2.1.frames = 10 ∧ C.2.2.2.1.locals = 396) (hcs : C.2.2.2.1.cells = 600000 ∧ C.2.2.2.1.slots = 7302250) (hI : j_lwI S V i nc ns) (i1 : i ≤ (L : Int) - 5) (kk : ∀ (S : jS) (V : jH) (nc ns : Nat), j_lwI S V (i + 5) nc ns → j_ok n_KT 4 C G 18 [(0, (9, (b : Int))), (1, (2, 0)), (2, (2, 1000)), (3, (0, i + 5))] [] S V nc ns) : j_ok n_KT 4 C G 277 [(0, (9, (b : Int))), (1, (2, 0)), (2, (2, 1000)), (3, (0, i))] [] S V nc ns := by
  have hL := hX.2.2.2
  obtain ⟨hc0, hm0, f7, f3, i0, nb1, nb2, nb3, hR, hQ⟩ := id hI
  have kx : S.1 0 = 31 := hc0.2.1
  have F7 : V 0 7 < 1000000 := by omega
  refine tL_277 h hX hrm (by omega) (by omega) (by omega) (by omega) (by omega) (by omega) (by omega) (by omega) (by omega) (by omega) (by omega) (by omega) kx (m1_5 C.2.1) hc0 (by rw [hcs.1]; omega) (by rw [hcs.2]; omega) ?_
  rintro r S1 V1 ⟨e0, hq⟩
  subst e0
  have n1 := j_cN_q5 hc0 F7 hq
  obtain ⟨hm1, em⟩ := j_mid hm0 n1
  have F3 : V1 1000 3 < 1000000 := by rw [em]; omega
  have km : S1.1 1000 = 33 := hm1.2.1
  refine tL_301 h hX hrm (by omega) (by omega) (by omega) (by omega) (by omega) (by omega) (by omega) (by omega) (by omega) (by omega) (by omega) (by omega) km (m13_9 C.2.1) ⟨hm1, j_scr_bd xs _, j_scr_bd xs _⟩ (by rw [hcs.1]; omega) (by rw [hcs.2]; omega) ?_
  rintro r2 S2 V2 ⟨e0, hq2⟩
  subst e0
  have n2 := j_mN_r5 hm1 F3 hq2
  obtain ⟨req, hQ2⟩ := j_Q_copy hm0 hQ n1 hq n2 hq2
  exact tL_326 h hX (tL_999 h hX (by omega) (kk _ _ _ _ (j_lw_step (mc := 0) (ms := 0) hI n1 n2 (Or.inl ⟨by omega, by omega, fun z => z⟩) (by omega) (by omega) ⟨(j_R_step hm0 hR n1 rfl (j_cw_q5 hq) (fun c hc => by omega) n2 (j_mw_r5 hq2) (fun c hc => by omega)), hQ2⟩)))
theorem lw_c4 {C : qCx} {G : jG} {b L : Nat} {xs : Nat → Int32} {S : jS} {V : jH} {nc ns : Nat} {i : Int} (h : xL C G) (hX : j_X C G b L xs) (hrm : C.2.2.2.1.frames = 10 ∧ C.2.2.2.1.locals = 396) (hcs : C.2.2.2.1.cells = 600000 ∧ C.2.2.2.1.slots = 7302250) (hI : j_lwI S V i nc ns) (i1 : i ≤ (L : Int) - 5) (kk : ∀ (S : jS) (V : jH) (nc ns : Nat), j_lwI S V (i + 5) nc ns → j_ok n_KT 4 C G 18 [(0, (9, (b : Int))), (1, (2, 0)), (2, (2, 1000)), (3, (0, i + 5))] [] S V nc ns) : j_ok n_KT 4 C G 330 [(0, (9, (b : Int))), (1, (2, 0)), (2, (2, 1000)), (3, (0, i))] [] S V nc ns := by
  have hL := hX.2.2.2
  obtain ⟨hc0, hm0, f7, f3, i0, nb1, nb2, nb3, hR, hQ⟩ := id hI
  have kx : S.1 0 = 31 := hc0.2.1
  have F7 : V 0 7 < 1000000 := by omega
  refine tL_330 h hX hrm (by omega) (by omega) (by omega) (by omega) (by omega) (by omega) kx (m1_6 C.2.1) hc0 (by rw [hcs.1]; omega) (by rw [hcs.2]; omega) ?_
  rintro r S1 V1 hq
  have n1 := j_cN_q6 hc0 F7 hq
  have hk1 := j_k1_q6 hc0 hq
  obtain ⟨hm1, em⟩ := j_mid hm0 n1
  have F3 : V1 1000 3 < 1000000 := by rw [em]; omega
  have km : S1.1 1000 = 33 := hm1.2.1
  refine tL_344 h hX hrm (by omega) (by omega) (by omega) (by omega) (by omega) (by omega) km (m13_10 C.2.1) hm1 (by rw [hcs.1]; omega) (by rw [hcs.2]; omega) ?_
  rintro r2 S2 V2 ⟨e0, hq2⟩
  subst e0
  have n2 := j_mN_r6 hm1 F3 hq2
  obtain ⟨req, hR2⟩ := j_R_table hc0 hm0 hR n1 hq n2 hq2
  exact tL_359 h hX (tL_999 h hX (by omega) (kk _ _ _ _ (j_lw_step (mc := 10) (ms := 1039) hI n1 n2 (Or.inl ⟨by omega, by omega, fun z => by rw [← hk1]; exact z⟩) (by omega) (by omega) ⟨hR2, j_Q_table hc0 hm0 hR hQ n1 hq n2 hq2 req⟩)))
theorem lw_c5 {C : qCx} {G : jG} {b L : Nat} {xs : Nat → Int32} {S : jS} {V : jH} {nc ns : Nat} {i : Int} (h : xL C G) (hX : j_X C G b L xs) (hrm : C.2.2.2.1.frames = 10 ∧ C.2.2.2.1.locals = 396) (hcs : C.2.2.2.1.cells = 600000 ∧ C.2.2.2.1.slots = 7302250) (hI : j_lwI S V i nc ns) (i1 : i ≤ (L : Int) - 5) (kk : ∀ (S : jS) (V : jH) (nc ns : Nat), j_lwI S V (i + 5) nc ns → j_ok n_KT 4 C G 18 [(0, (9, (b : Int))), (1, (2, 0)), (2, (2, 1000)), (3, (0, i + 5))] [] S V nc ns) : j_ok n_KT 4 C G 363 [(0, (9, (b : Int))), (1, (2, 0)), (2, (2, 1000)), (3, (0, i))] [] S V nc ns := by
  have hL := hX.2.2.2
  obtain ⟨hc0, hm0, f7, f3, i0, nb1, nb2, nb3, hR, hQ⟩ := id hI
  have kx : S.1 0 = 31 := hc0.2.1
  have F7 : V 0 7 < 1000000 := by omega
  refine tL_363 h hX hrm (by omega) (by omega) (by omega) (by omega) (by omega) (by omega) (by omega) (by omega) (by omega) kx (m1_7 C.2.1) hc0 (by rw [hcs.1]; omega) (by rw [hcs.2]; omega) ?_
  rintro r S1 V1 ⟨e0, hq⟩
  subst e0
  have n1 := j_cN_q7 hc0 F7 hq
  obtain ⟨hm1, em⟩ := j_mid hm0 n1
  have F3 : V1 1000 3 < 1000000 := by rw [em]; omega
  have km : S1.1 1000 = 33 := hm1.2.1
  refine tL_382 h hX hrm (by omega) (by omega) (by omega) (by omega) (by omega) (by omega) (by omega) (by omega) (by omega) km (m13_13 C.2.1) hm1 (by rw [hcs.1]; omega) (by rw [hcs.2]; omega) ?_
  rintro r2 S2 V2 ⟨e0, hq2⟩
  subst e0
  have n2 := j_mN_r7 hm1 F3 hq2
  obtain ⟨req, hR2⟩ := j_R_share hc0 hm0 hR n1 rfl hq n2 hq2
  exact tL_402 h hX (tL_999 h hX (by omega) (kk _ _ _ _ (j_lw_step (mc := 0) (ms := 0) hI n1 n2 (Or.inl ⟨by omega, by omega, fun z => z⟩) (by omega) (by omega) ⟨hR2, j_Q_share hc0 hm0 hR hQ n1 hq n2 hq2⟩)))
theorem lw_c6 {C : qCx} {G : jG} {b L : Nat} {xs : Nat → Int32} {S : jS} {V : jH} {nc ns : Nat} {i : Int} (h : xL C G) (hX : j_X C G b L xs) (hrm : C.2.2.2.1.frames = 10 ∧ C.2.2.2.1.locals = 396) (hcs : C.2.2.2.1.cells = 600000 ∧ C.2.2.2.1.slots = 7302250) (hI : j_lwI S V i nc ns) (i1 : i ≤ (L : Int) - 5) (kk : ∀ (S : jS) (V : jH) (nc ns : Nat), j_lwI S V (i + 5) nc ns → j_ok n_KT 4 C G 18 [(0, (9, (b : Int))), (1, (2, 0)), (2, (2, 1000)), (3, (0, i + 5))] [] S V nc ns) : j_ok n_KT 4 C G 406 [(0, (9, (b : Int))), (1, (2, 0)), (2, (2, 1000)), (3, (0, i))] [] S V nc ns := by
  have hL := hX.2.2.2
  obtain ⟨hc0, hm0, f7, f3, i0, nb1, nb2, nb3, hR, hQ⟩ := id hI
  have kx : S.1 0 = 31 := hc0.2.1
  have F7 : V 0 7 < 1000000 := by omega
  refine tL_406 h hX hrm (by omega) (by omega) (by omega) (by omega) (by omega) (by omega) kx (m1_8 C.2.1) hc0 (by rw [hcs.1]; omega) (by rw [hcs.2]; omega) ?_
  rintro r S1 V1 ⟨e0, hq⟩
  subst e0
  have n1 := j_cN_q8 hc0 F7 hq
  obtain ⟨hm1, em⟩ := j_mid hm0 n1
  have F3 : V1 1000 3 < 1000000 := by rw [em]; omega
  have km : S1.1 1000 = 33 := hm1.2.1
  refine tL_420 h hX hrm (by omega) (by omega) (by omega) (by omega) (by omega) (by omega) km (m13_18 C.2.1) hm1 (by rw [hcs.1]; omega) (by rw [hcs.2]; omega) ?_
  rintro r2 S2 V2 ⟨e0, hq2⟩
  subst e0
  have n2 := j_mN_r8 hm1 F3 hq2
  obtain ⟨req, hQ2⟩ := j_Q_learn hc0 hm0 hR hQ n1 hq n2 hq2
  exact tL_435 h hX (tL_999 h hX (by omega) (kk _ _ _ _ (j_lw_step (mc := 0) (ms := 0) hI n1 n2 (Or.inl ⟨by omega, by omega, fun z => z⟩) (by omega) (by omega) ⟨j_R_learn hc0 hm0 hR n1 rfl hq n2 hq2, hQ2⟩)))
theorem lw_c7 {C : qCx} {G : jG} {b L : Nat} {xs : Nat → Int32} {S : jS} {V : jH} {nc ns : Nat} {i : Int} (h : xL C G) (hX : j_X C G b L xs) (hrm : C.2.2.2.1.frames = 10 ∧ C.2.2.2.1.locals = 396) (hcs : C.2.2.2.1.cells = 600000 ∧ C.2.2.2.1.slots = 7302250) (hI : j_lwI S V i nc ns) (i1 : i ≤ (L : Int) - 5) (kk : ∀ (S : jS) (V : jH) (nc ns : Nat), j_lwI S V (i + 5) nc ns → j_ok n_KT 4 C G 18 [(0, (9, (b : Int))), (1, (2, 0)), (2, (2, 1000)), (3, (0, i + 5))] [] S V nc ns) : j_ok n_KT 4 C G 439 [(0, (9, (b : Int))), (1, (2, 0)), (2, (2, 1000)), (3, (0, i))] [] S V nc ns := by
  have hL := hX.2.2.2
  obtain ⟨hc0, hm0, f7, f3, i0, nb1, nb2, nb3, hR, hQ⟩ := id hI
  have kx : S.1 0 = 31 := hc0.2.1
  have F7 : V 0 7 < 1000000 := by omega
  have one : ∀ bg : Int, ((j_scr xs (i + 4) = 0 → bg = 0) ∧ (¬ j_scr xs (i + 4) = 0 → bg = 1)) → j_ok n_KT 4 C G 468 [(0, (9, (b : Int))), (1, (2, 0)), (2, (2, 1000)), (3, (0, i))] [(0, bg), (0, j_scr xs (i + 3)), (0, j_scr xs (i + 2)), (0, j_scr xs (i + 1)), (2, 0)] S V nc ns := by
    intro bg hb
    refine tL_468 h hX hrm kx (m1_9 C.2.1) hc0 (by rw [hcs.1]; omega) (by rw [hcs.2]; omega) ?_
    rintro r S1 V1 ⟨e0, hq⟩
    subst e0
    have n1 := j_cN_q9 hc0 F7 hq
    obtain ⟨hm1, em⟩ := j_mid hm0 n1
    have F3 : V1 1000 3 < 1000000 := by rw [em]; omega
    have km : S1.1 1000 = 33 := hm1.2.1
    have two : ∀ b2 : Int, b2 = bg → j_ok n_KT 4 C G 501 [(0, (9, (b : Int))), (1, (2, 0)), (2, (2, 1000)), (3, (0, i))] [(0, b2), (0, j_scr xs (i + 3)), (0, j_scr xs (i + 2)), (0, j_scr xs (i + 1)), (2, 1000)] S1 V1 (nc + 0) (ns + 0) := by
      intro b2 eb
      subst eb
      refine tL_501 h hX hrm km (m13_20 C.2.1) hm1 (by rw [hcs.1]; omega) (by rw [hcs.2]; omega) ?_
      rintro r2 S2 V2 ⟨e0, hq2⟩
      subst e0
      have n2 := j_mN_r9 hm1 F3 hq2
      have req := j_Q_shares hc0 hm0 hR hQ n1 hq hq2
      exact tL_504 h hX (tL_999 h hX (by omega) (kk _ _ _ _ (j_lw_step (mc := 0) (ms := 0) hI n1 n2 (Or.inl ⟨by omega, by omega, fun z => z⟩) (by omega) (by omega) ⟨(j_R_step hm0 hR n1 rfl (j_cw_q9 (l1 := 0) (h1 := 0) (l2 := 0) (h2 := 0) hq) (fun c hc => by omega) n2 (j_mw_r9 (lo := 0) (hi := 0) hq2) (fun c hc => by omega)), (j_Q_same hm0 hQ n1 (j_cw_q9 (l1 := 0) (h1 := 0) (l2 := 0) (h2 := 0) hq) (fun c hc => by omega) (j_h16_cw (j_cw_q9 (l1 := 0) (h1 := 0) (l2 := 0) (h2 := 0) hq) (by omega)) n2 (j_mw_r9 (lo := 0) (hi := 0) hq2) (fun c hc => by omega) (j_79_r9 hq2))⟩)))
    exact tL_471 h hX (by omega) (by omega) (by omega) (by omega) (by omega) (by omega) (by omega) (by omega) (by omega) (by omega) (by omega) (by omega) (fun z => tL_500 h hX (two 0 (hb.1 z).symm)) (fun z => tL_496 h hX (two 1 (hb.2 z).symm))
  exact tL_439 h hX (by omega) (by omega) (by omega) (by omega) (by omega) (by omega) (by omega) (by omega) (by omega) (by omega) (by omega) (by omega) (fun z => tL_467 h hX (one 0 ⟨fun _ => rfl, fun y => absurd z y⟩)) (fun z => tL_463 h hX (one 1 ⟨fun y => absurd y z, fun _ => rfl⟩))
theorem lw_c8 {C : qCx} {G : jG} {b L : Nat} {xs : Nat → Int32} {S : jS} {V : jH} {nc ns : Nat} {i : Int} (h : xL C G) (hX : j_X C G b L xs) (hrm : C.2.2.2.1.frames = 10 ∧ C.2.2.2.1.locals = 396) (hcs : C.2.2.2.1.cells = 600000 ∧ C.2.2.2.1.slots = 7302250) (hI : j_lwI S V i nc ns) (i1 : i ≤ (L : Int) - 5) (kk : ∀ (S : jS) (V : jH) (nc ns : Nat), j_lwI S V (i + 5) nc ns → j_ok n_KT 4 C G 18 [(0, (9, (b : Int))), (1, (2, 0)), (2, (2, 1000)), (3, (0, i + 5))] [] S V nc ns) : j_ok n_KT 4 C G 508 [(0, (9, (b : Int))), (1, (2, 0)), (2, (2, 1000)), (3, (0, i))] [] S V nc ns := by
  have hL := hX.2.2.2
  obtain ⟨hc0, hm0, f7, f3, i0, nb1, nb2, nb3, hR, hQ⟩ := id hI
  have kx : S.1 0 = 31 := hc0.2.1
  have F7 : V 0 7 < 1000000 := by omega
  refine tL_508 h hX hrm (by omega) (by omega) (by omega) (by omega) (by omega) (by omega) (by omega) (by omega) (by omega) kx (m1_10 C.2.1) hc0 (by rw [hcs.1]; omega) (by rw [hcs.2]; omega) ?_
  rintro r S1 V1 hq
  have n1 := j_cN_q10 hc0 F7 hq
  have hk1 := j_k1_q10 hq
  obtain ⟨hm1, em⟩ := j_mid hm0 n1
  have F3 : V1 1000 3 < 1000000 := by rw [em]; omega
  have km : S1.1 1000 = 33 := hm1.2.1
  refine tL_527 h hX hrm (by omega) (by omega) (by omega) (by omega) (by omega) (by omega) (by omega) (by omega) (by omega) km (m13_21 C.2.1) hm1 (by rw [hcs.1]; omega) (by rw [hcs.2]; omega) ?_
  rintro r2 S2 V2 ⟨e0, hq2⟩
  subst e0
  have n2 := j_mN_r10 hm1 F3 hq2
  have req := j_Q_cost hc0 hm0 hR hQ n1 hq hq2
  exact tL_547 h hX (tL_999 h hX (by omega) (kk _ _ _ _ (j_lw_step (mc := 1) (ms := 4097) hI n1 n2 (Or.inl ⟨by omega, by omega, fun z => by rw [← hk1]; exact z⟩) (by omega) (by omega) ⟨(j_R_step hm0 hR n1 hk1 (j_cw_q10 hq) (fun c hc => by omega) n2 (j_mw_r10 (lo := 0) (hi := 0) hq2) (fun c hc => by omega)), (j_Q_same hm0 hQ n1 (j_cw_q10 hq) (fun c hc => by omega) (j_h16_cw (j_cw_q10 hq) (by omega)) n2 (j_mw_r10 (lo := 0) (hi := 0) hq2) (fun c hc => by omega) (j_79_r10 hq2))⟩)))
theorem lw_c9 {C : qCx} {G : jG} {b L : Nat} {xs : Nat → Int32} {S : jS} {V : jH} {nc ns : Nat} {i : Int} (h : xL C G) (hX : j_X C G b L xs) (hrm : C.2.2.2.1.frames = 10 ∧ C.2.2.2.1.locals = 396) (hcs : C.2.2.2.1.cells = 600000 ∧ C.2.2.2.1.slots = 7302250) (hI : j_lwI S V i nc ns) (i1 : i ≤ (L : Int) - 5) (kk : ∀ (S : jS) (V : jH) (nc ns : Nat), j_lwI S V (i + 5) nc ns → j_ok n_KT 4 C G 18 [(0, (9, (b : Int))), (1, (2, 0)), (2, (2, 1000)), (3, (0, i + 5))] [] S V nc ns) : j_ok n_KT 4 C G 551 [(0, (9, (b : Int))), (1, (2, 0)), (2, (2, 1000)), (3, (0, i))] [] S V nc ns := by
  have hL := hX.2.2.2
  obtain ⟨hc0, hm0, f7, f3, i0, nb1, nb2, nb3, hR, hQ⟩ := id hI
  have kx : S.1 0 = 31 := hc0.2.1
  have F7 : V 0 7 < 1000000 := by omega
  refine tL_551 h hX hrm (by omega) (by omega) (by omega) (by omega) (by omega) (by omega) kx (m1_11 C.2.1) hc0 (by rw [hcs.1]; omega) (by rw [hcs.2]; omega) ?_
  rintro r S1 V1 ⟨e0, hq⟩
  subst e0
  have n1 := j_cN_q11 hc0 F7 hq
  obtain ⟨hm1, em⟩ := j_mid hm0 n1
  have F3 : V1 1000 3 < 1000000 := by rw [em]; omega
  have km : S1.1 1000 = 33 := hm1.2.1
  refine tL_565 h hX hrm (by omega) (by omega) (by omega) (by omega) (by omega) (by omega) km (m13_22 C.2.1) hm1 (by rw [hcs.1]; omega) (by rw [hcs.2]; omega) ?_
  rintro r2 S2 V2 ⟨e0, hq2⟩
  subst e0
  have n2 := j_mN_r11 hm1 F3 hq2
  have req := j_R_as hR n1 hq hq2
  exact tL_580 h hX (tL_999 h hX (by omega) (kk _ _ _ _ (j_lw_step (mc := 0) (ms := 0) hI n1 n2 (Or.inl ⟨by omega, by omega, fun z => z⟩) (by omega) (by omega) ⟨(j_R_step hm0 hR n1 rfl (j_cw_q11 (l1 := 0) (h1 := 0) (l2 := 0) (h2 := 0) hq) (fun c hc => by omega) n2 (j_mw_r11 (lo := 0) (hi := 0) hq2) (fun c hc => by omega)), (j_Q_same hm0 hQ n1 (j_cw_q11 (l1 := 0) (h1 := 0) (l2 := 0) (h2 := 0) hq) (fun c hc => by omega) (j_h16_cw (j_cw_q11 (l1 := 0) (h1 := 0) (l2 := 0) (h2 := 0) hq) (by omega)) n2 (j_mw_r11 (lo := 0) (hi := 0) hq2) (fun c hc => by omega) (j_79_r11 hq2))⟩)))
theorem lw_c10 {C : qCx} {G : jG} {b L : Nat} {xs : Nat → Int32} {S : jS} {V : jH} {nc ns : Nat} {i : Int} (h : xL C G) (hX : j_X C G b L xs) (hrm : C.2.2.2.1.frames = 10 ∧ C.2.2.2.1.locals = 396) (hcs : C.2.2.2.1.cells = 600000 ∧ C.2.2.2.1.slots = 7302250) (hI : j_lwI S V i nc ns) (i1 : i ≤ (L : Int) - 5) (kk : ∀ (S : jS) (V : jH) (nc ns : Nat), j_lwI S V (i + 5) nc ns → j_ok n_KT 4 C G 18 [(0, (9, (b : Int))), (1, (2, 0)), (2, (2, 1000)), (3, (0, i + 5))] [] S V nc ns) : j_ok n_KT 4 C G 584 [(0, (9, (b : Int))), (1, (2, 0)), (2, (2, 1000)), (3, (0, i))] [] S V nc ns := by
  have hL := hX.2.2.2
  obtain ⟨hc0, hm0, f7, f3, i0, nb1, nb2, nb3, hR, hQ⟩ := id hI
  have kx : S.1 0 = 31 := hc0.2.1
  have F7 : V 0 7 < 1000000 := by omega
  refine tL_584 h hX hrm (by omega) (by omega) (by omega) (by omega) (by omega) (by omega) (by omega) (by omega) (by omega) kx (m1_12 C.2.1) hc0 (by rw [hcs.1]; omega) (by rw [hcs.2]; omega) ?_
  rintro r S1 V1 ⟨e0, hq⟩
  subst e0
  have n1 := j_cN_q12 hc0 F7 hq
  obtain ⟨hm1, em⟩ := j_mid hm0 n1
  have F3 : V1 1000 3 < 1000000 := by rw [em]; omega
  have km : S1.1 1000 = 33 := hm1.2.1
  refine tL_603 h hX hrm (by omega) (by omega) (by omega) (by omega) (by omega) (by omega) (by omega) (by omega) (by omega) km (m13_32 C.2.1) hm1 (by rw [hcs.1]; omega) (by rw [hcs.2]; omega) ?_
  rintro r2 S2 V2 ⟨e0, hq2⟩
  subst e0
  have n2 := j_mN_r12 hm1 F3 hq2
  obtain ⟨req, hQ2⟩ := j_Q_pack hc0 hm0 hR hQ n1 hq n2 hq2
  exact tL_623 h hX (tL_999 h hX (by omega) (kk _ _ _ _ (j_lw_step (mc := 0) (ms := 0) hI n1 n2 (Or.inl ⟨by omega, by omega, fun z => z⟩) (by omega) (by omega) ⟨(j_R_step hm0 hR n1 rfl (j_cw_q12 hq) (fun c hc => by omega) n2 (j_mw_r12 hq2) (fun c hc => by omega)), hQ2⟩)))
theorem lw_c11 {C : qCx} {G : jG} {b L : Nat} {xs : Nat → Int32} {S : jS} {V : jH} {nc ns : Nat} {i : Int} (h : xL C G) (hX : j_X C G b L xs) (hrm : C.2.2.2.1.frames = 10 ∧ C.2.2.2.1.locals = 396) (hcs : C.2.2.2.1.cells = 600000 ∧ C.2.2.2.1.slots = 7302250) (hI : j_lwI S V i nc ns) (i1 : i ≤ (L : Int) - 5) (kk : ∀ (S : jS) (V : jH) (nc ns : Nat), j_lwI S V (i + 5) nc ns → j_ok n_KT 4 C G 18 [(0, (9, (b : Int))), (1, (2, 0)), (2, (2, 1000)), (3, (0, i + 5))] [] S V nc ns) : j_ok n_KT 4 C G 627 [(0, (9, (b : Int))), (1, (2, 0)), (2, (2, 1000)), (3, (0, i))] [] S V nc ns := by
  have hL := hX.2.2.2
  obtain ⟨hc0, hm0, f7, f3, i0, nb1, nb2, nb3, hR, hQ⟩ := id hI
  have kx : S.1 0 = 31 := hc0.2.1
  have F7 : V 0 7 < 1000000 := by omega
  refine tL_627 h hX hrm (by omega) (by omega) (by omega) (by omega) (by omega) (by omega) (by omega) (by omega) (by omega) kx (m1_13 C.2.1) hc0 (by rw [hcs.1]; omega) (by rw [hcs.2]; omega) ?_
  rintro r S1 V1 ⟨e0, hq⟩
  subst e0
  have n1 := (j_cN_try hc0 F7 hq).1
  obtain ⟨hm1, em⟩ := j_mid hm0 n1
  have F3 : V1 1000 3 < 1000000 := by rw [em]; omega
  have km : S1.1 1000 = 33 := hm1.2.1
  refine tL_646 h hX hrm (by omega) (by omega) (by omega) (by omega) (by omega) (by omega) (by omega) (by omega) (by omega) km (m13_33 C.2.1) hm1 (by rw [hcs.1]; omega) (by rw [hcs.2]; omega) ?_
  rintro r2 S2 V2 ⟨e0, hq2⟩
  subst e0
  have n2 := j_mN_r13 hm1 F3 hq2
  have req := j_Q_ahead hc0 hm0 hR hQ n1 hq hq2
  exact tL_666 h hX (tL_999 h hX (by omega) (kk _ _ _ _ (j_lw_step (mc := 0) (ms := 0) hI n1 n2 (Or.inl ⟨by omega, by omega, fun z => z⟩) (by omega) (by omega) ⟨(j_R_step hm0 hR n1 rfl (j_cw_try (l1 := 0) (h1 := 0) hq) (fun c hc => by omega) n2 (j_mw_r13 (lo := 0) (hi := 0) hq2) (fun c hc => by omega)), (j_Q_same hm0 hQ n1 (j_cw_try (l1 := 0) (h1 := 0) hq) (fun c hc => by omega) (j_h16_cw (j_cw_try (l1 := 0) (h1 := 0) hq) (by omega)) n2 (j_mw_r13 (lo := 0) (hi := 0) hq2) (fun c hc => by omega) (j_79_r13 hq2))⟩)))
theorem lw_c12 {C : qCx} {G : jG} {b L : Nat} {xs : Nat → Int32} {S : jS} {V : jH} {nc ns : Nat} {i : Int} (h : xL C G) (hX : j_X C G b L xs) (hrm : C.2.2.2.1.frames = 10 ∧ C.2.2.2.1.locals = 396) (hcs : C.2.2.2.1.cells = 600000 ∧ C.2.2.2.1.slots = 7302250) (hI : j_lwI S V i nc ns) (i1 : i ≤ (L : Int) - 5) (kk : ∀ (S : jS) (V : jH) (nc ns : Nat), j_lwI S V (i + 5) nc ns → j_ok n_KT 4 C G 18 [(0, (9, (b : Int))), (1, (2, 0)), (2, (2, 1000)), (3, (0, i + 5))] [] S V nc ns) : j_ok n_KT 4 C G 670 [(0, (9, (b : Int))), (1, (2, 0)), (2, (2, 1000)), (3, (0, i))] [] S V nc ns := by
  have hL := hX.2.2.2
  obtain ⟨hc0, hm0, f7, f3, i0, nb1, nb2, nb3, hR, hQ⟩ := id hI
  have kx : S.1 0 = 31 := hc0.2.1
  have F7 : V 0 7 < 1000000 := by omega
  refine tL_670 h hX hrm (by omega) (by omega) (by omega) kx (m1_14 C.2.1) hc0 (by rw [hcs.1]; omega) (by rw [hcs.2]; omega) ?_
  rintro r S1 V1 ⟨e0, hq⟩
  subst e0
  have n1 := j_cN_q14 hc0 F7 hq
  obtain ⟨hm1, em⟩ := j_mid hm0 n1
  have F3 : V1 1000 3 < 1000000 := by rw [em]; omega
  have km : S1.1 1000 = 33 := hm1.2.1
  refine tL_679 h hX hrm (by omega) (by omega) (by omega) km (m13_41 C.2.1) hm1 (by rw [hcs.1]; omega) (by rw [hcs.2]; omega) ?_
  rintro r2 S2 V2 ⟨e0, hq2⟩
  subst e0
  have n2 := j_mN_r14 hm1 F3 hq2
  obtain ⟨req, hQ2⟩ := j_Q_take hm0 hQ n1 hm1 hq n2 hq2
  exact tL_689 h hX (tL_999 h hX (by omega) (kk _ _ _ _ (j_lw_step (mc := 0) (ms := 0) hI n1 n2 (Or.inl ⟨by omega, by omega, fun z => z⟩) (by omega) (by omega) ⟨(j_R_step hm0 hR n1 rfl (j_cw_q14 hq) (fun c hc => by omega) n2 (j_mw_r14 hq2) (fun c hc => by omega)), hQ2⟩)))
theorem lw_c13 {C : qCx} {G : jG} {b L : Nat} {xs : Nat → Int32} {S : jS} {V : jH} {nc ns : Nat} {i : Int} (h : xL C G) (hX : j_X C G b L xs) (hrm : C.2.2.2.1.frames = 10 ∧ C.2.2.2.1.locals = 396) (hcs : C.2.2.2.1.cells = 600000 ∧ C.2.2.2.1.slots = 7302250) (hI : j_lwI S V i nc ns) (i1 : i ≤ (L : Int) - 5) (kk : ∀ (S : jS) (V : jH) (nc ns : Nat), j_lwI S V (i + 5) nc ns → j_ok n_KT 4 C G 18 [(0, (9, (b : Int))), (1, (2, 0)), (2, (2, 1000)), (3, (0, i + 5))] [] S V nc ns) : j_ok n_KT 4 C G 693 [(0, (9, (b : Int))), (1, (2, 0)), (2, (2, 1000)), (3, (0, i))] [] S V nc ns := by
  have hL := hX.2.2.2
  obtain ⟨hc0, hm0, f7, f3, i0, nb1, nb2, nb3, hR, hQ⟩ := id hI
  have kx : S.1 0 = 31 := hc0.2.1
  have F7 : V 0 7 < 1000000 := by omega
  refine tL_693 h hX hrm (by omega) (by omega) (by omega) kx (m1_15 C.2.1) hc0 (by rw [hcs.1]; omega) (by rw [hcs.2]; omega) ?_
  rintro r S1 V1 ⟨e0, hq⟩
  subst e0
  have n1 := j_cN_q15 hc0 F7 hq
  obtain ⟨hm1, em⟩ := j_mid hm0 n1
  have F3 : V1 1000 3 < 1000000 := by rw [em]; omega
  have km : S1.1 1000 = 33 := hm1.2.1
  refine tL_702 h hX hrm (by omega) (by omega) (by omega) km (m13_42 C.2.1) hm1 (by rw [hcs.1]; omega) (by rw [hcs.2]; omega) ?_
  rintro r2 S2 V2 ⟨e0, hq2⟩
  subst e0
  have n2 := j_mN_r15 hm1 F3 hq2
  have req := j_Q_block hQ n1 hq hq2
  exact tL_712 h hX (tL_999 h hX (by omega) (kk _ _ _ _ (j_lw_step (mc := 0) (ms := 0) hI n1 n2 (Or.inl ⟨by omega, by omega, fun z => z⟩) (by omega) (by omega) ⟨(j_R_step hm0 hR n1 rfl (j_cw_q15 (l1 := 0) (h1 := 0) (l2 := 0) (h2 := 0) hq) (fun c hc => by omega) n2 (j_mw_r15 (lo := 0) (hi := 0) hq2) (fun c hc => by omega)), (j_Q_same hm0 hQ n1 (j_cw_q15 (l1 := 0) (h1 := 0) (l2 := 0) (h2 := 0) hq) (fun c hc => by omega) (j_h16_cw (j_cw_q15 (l1 := 0) (h1 := 0) (l2 := 0) (h2 := 0) hq) (by omega)) n2 (j_mw_r15 (lo := 0) (hi := 0) hq2) (fun c hc => by omega) (j_79_r15 hq2))⟩)))
theorem lw_c14 {C : qCx} {G : jG} {b L : Nat} {xs : Nat → Int32} {S : jS} {V : jH} {nc ns : Nat} {i : Int} (h : xL C G) (hX : j_X C G b L xs) (hrm : C.2.2.2.1.frames = 10 ∧ C.2.2.2.1.locals = 396) (hcs : C.2.2.2.1.cells = 600000 ∧ C.2.2.2.1.slots = 7302250) (hI : j_lwI S V i nc ns) (i1 : i ≤ (L : Int) - 5) (kk : ∀ (S : jS) (V : jH) (nc ns : Nat), j_lwI S V (i + 5) nc ns → j_ok n_KT 4 C G 18 [(0, (9, (b : Int))), (1, (2, 0)), (2, (2, 1000)), (3, (0, i + 5))] [] S V nc ns) : j_ok n_KT 4 C G 716 [(0, (9, (b : Int))), (1, (2, 0)), (2, (2, 1000)), (3, (0, i))] [] S V nc ns := by
  have hL := hX.2.2.2
  obtain ⟨hc0, hm0, f7, f3, i0, nb1, nb2, nb3, hR, hQ⟩ := id hI
  have kx : S.1 0 = 31 := hc0.2.1
  have F7 : V 0 7 < 1000000 := by omega
  refine tL_716 h hX hrm (by omega) (by omega) (by omega) (by omega) (by omega) (by omega) kx (m1_16 C.2.1) hc0 (by rw [hcs.1]; omega) (by rw [hcs.2]; omega) ?_
  rintro r S1 V1 ⟨e0, hq⟩
  subst e0
  have n1 := j_cN_q16 hc0 F7 hq
  obtain ⟨hm1, em⟩ := j_mid hm0 n1
  have F3 : V1 1000 3 < 1000000 := by rw [em]; omega
  have km : S1.1 1000 = 33 := hm1.2.1
  refine tL_730 h hX hrm (by omega) (by omega) (by omega) (by omega) (by omega) (by omega) km (m13_44 C.2.1) hm1 (by rw [hcs.1]; omega) (by rw [hcs.2]; omega) ?_
  rintro r2 S2 V2 ⟨e0, hq2⟩
  subst e0
  have n2 := j_mN_r16 hm1 F3 hq2
  obtain ⟨req, hQ2⟩ := j_Q_alter hm0 hQ n1 hq n2 hq2
  exact tL_745 h hX (tL_999 h hX (by omega) (kk _ _ _ _ (j_lw_step (mc := 0) (ms := 0) hI n1 n2 (Or.inl ⟨by omega, by omega, fun z => z⟩) (by omega) (by omega) ⟨(j_R_step hm0 hR n1 rfl (j_cw_q16 hq) (fun c hc => by omega) n2 (j_mw_r16 hq2) (fun c hc => by omega)), hQ2⟩)))
theorem lw_c15 {C : qCx} {G : jG} {b L : Nat} {xs : Nat → Int32} {S : jS} {V : jH} {nc ns : Nat} {i : Int} (h : xL C G) (hX : j_X C G b L xs) (hrm : C.2.2.2.1.frames = 10 ∧ C.2.2.2.1.locals = 396) (hcs : C.2.2.2.1.cells = 600000 ∧ C.2.2.2.1.slots = 7302250) (hI : j_lwI S V i nc ns) (i1 : i ≤ (L : Int) - 5) (kk : ∀ (S : jS) (V : jH) (nc ns : Nat), j_lwI S V (i + 5) nc ns → j_ok n_KT 4 C G 18 [(0, (9, (b : Int))), (1, (2, 0)), (2, (2, 1000)), (3, (0, i + 5))] [] S V nc ns) : j_ok n_KT 4 C G 749 [(0, (9, (b : Int))), (1, (2, 0)), (2, (2, 1000)), (3, (0, i))] [] S V nc ns := by
  have hL := hX.2.2.2
  obtain ⟨hc0, hm0, f7, f3, i0, nb1, nb2, nb3, hR, hQ⟩ := id hI
  have kx : S.1 0 = 31 := hc0.2.1
  have F7 : V 0 7 < 1000000 := by omega
  refine tL_749 h hX hrm (by omega) (by omega) (by omega) (j_scr_bd xs _).1 (j_scr_bd xs _).2 (by omega) (by omega) (by omega) (by omega) (by omega) (by omega) (by omega) (by omega) (by omega) kx (m1_17 C.2.1) hc0 (by rw [hcs.1]; omega) (by rw [hcs.2]; omega) ?_
  rintro r S1 V1 ⟨e0, hq⟩
  subst e0
  have n1 := j_cN_q17 hc0 F7 hq
  obtain ⟨hm1, em⟩ := j_mid hm0 n1
  have F3 : V1 1000 3 < 1000000 := by rw [em]; omega
  have km : S1.1 1000 = 33 := hm1.2.1
  refine tL_778 h hX hrm (by omega) (by omega) (by omega) (j_scr_bd xs _).1 (j_scr_bd xs _).2 (by omega) (by omega) (by omega) (by omega) (by omega) (by omega) (by omega) (by omega) (by omega) km (m13_45 C.2.1) hm1 (by rw [hcs.1]; omega) (by rw [hcs.2]; omega) ?_
  rintro r2 S2 V2 ⟨e0, hq2⟩
  subst e0
  have n2 := j_mN_r17 hm1 F3 hq2
  obtain ⟨req, hQ2⟩ := j_Q_more hm0 hQ n1 hq n2 hq2
  exact tL_808 h hX (tL_999 h hX (by omega) (kk _ _ _ _ (j_lw_step (mc := 0) (ms := 0) hI n1 n2 (Or.inl ⟨by omega, by omega, fun z => z⟩) (by omega) (by omega) ⟨(j_R_step hm0 hR n1 rfl (j_cw_q17 hq) (fun c hc => by omega) n2 (j_mw_r17 hq2) (fun c hc => by omega)), hQ2⟩)))
theorem lw_c16 {C : qCx} {G : jG} {b L : Nat} {xs : Nat → Int32} {S : jS} {V : jH} {nc ns : Nat} {i : Int} (h : xL C G) (hX : j_X C G b L xs) (hrm : C.2.2.2.1.frames = 10 ∧ C.2.2.2.1.locals = 396) (hcs : C.2.2.2.1.cells = 600000 ∧ C.2.2.2.1.slots = 7302250) (hI : j_lwI S V i nc ns) (i1 : i ≤ (L : Int) - 5) (kk : ∀ (S : jS) (V : jH) (nc ns : Nat), j_lwI S V (i + 5) nc ns → j_ok n_KT 4 C G 18 [(0, (9, (b : Int))), (1, (2, 0)), (2, (2, 1000)), (3, (0, i + 5))] [] S V nc ns) : j_ok n_KT 4 C G 812 [(0, (9, (b : Int))), (1, (2, 0)), (2, (2, 1000)), (3, (0, i))] [] S V nc ns := by
  have hL := hX.2.2.2
  obtain ⟨hc0, hm0, f7, f3, i0, nb1, nb2, nb3, hR, hQ⟩ := id hI
  have kx : S.1 0 = 31 := hc0.2.1
  have F7 : V 0 7 < 1000000 := by omega
  refine tL_812 h hX hrm (by omega) (by omega) (by omega) kx (m1_18b C.2.1) hc0 (by rw [hcs.1]; omega) (by rw [hcs.2]; omega) ?_
  rintro r S1 V1 ⟨e0, hq, hqb⟩
  subst e0
  have n1 := j_cN_q18 hc0 F7 hq
  obtain ⟨hm1, em⟩ := j_mid hm0 n1
  have F3 : V1 1000 3 < 1000000 := by rw [em]; omega
  have km : S1.1 1000 = 33 := hm1.2.1
  refine tL_821 h hX hrm (by omega) (by omega) (by omega) km (m13_34b C.2.1) hm1 (by rw [hcs.1]; omega) (by rw [hcs.2]; omega) ?_
  rintro r2 S2 V2 ⟨e0, hq2, hq2b⟩
  subst e0
  have n2 := j_mN_r18 hm1 F3 hq2
  obtain ⟨req, hQ2⟩ := j_Q_search hc0 hm0 hQ n1 hq hqb n2 hq2 hq2b
  exact tL_831 h hX (tL_999 h hX (by omega) (kk _ _ _ _ (j_lw_step (mc := 0) (ms := 0) hI n1 n2 (Or.inl ⟨by omega, by omega, fun z => z⟩) (by omega) (by omega) ⟨(j_R_step hm0 hR n1 rfl (j_cw_q18 hq) (fun c hc => by omega) n2 (j_mw_r18 hq2) (fun c hc => by omega)), hQ2⟩)))
theorem lw_c17 {C : qCx} {G : jG} {b L : Nat} {xs : Nat → Int32} {S : jS} {V : jH} {nc ns : Nat} {i : Int} (h : xL C G) (hX : j_X C G b L xs) (hrm : C.2.2.2.1.frames = 10 ∧ C.2.2.2.1.locals = 396) (hcs : C.2.2.2.1.cells = 600000 ∧ C.2.2.2.1.slots = 7302250) (hI : j_lwI S V i nc ns) (i1 : i ≤ (L : Int) - 5) (kk : ∀ (S : jS) (V : jH) (nc ns : Nat), j_lwI S V (i + 5) nc ns → j_ok n_KT 4 C G 18 [(0, (9, (b : Int))), (1, (2, 0)), (2, (2, 1000)), (3, (0, i + 5))] [] S V nc ns) : j_ok n_KT 4 C G 835 [(0, (9, (b : Int))), (1, (2, 0)), (2, (2, 1000)), (3, (0, i))] [] S V nc ns := by
  have hL := hX.2.2.2
  obtain ⟨hc0, hm0, f7, f3, i0, nb1, nb2, nb3, hR, hQ⟩ := id hI
  have kx : S.1 0 = 31 := hc0.2.1
  have F7 : V 0 7 < 1000000 := by omega
  refine tL_835 h hX hrm (by omega) (by omega) (by omega) (by omega) (by omega) (by omega) kx (m1_19 C.2.1) hc0 (by rw [hcs.1]; omega) (by rw [hcs.2]; omega) ?_
  rintro r S1 V1 ⟨e0, hq⟩
  subst e0
  have n1 := j_cN_q19 hc0 F7 hq
  obtain ⟨hm1, em⟩ := j_mid hm0 n1
  have F3 : V1 1000 3 < 1000000 := by rw [em]; omega
  have km : S1.1 1000 = 33 := hm1.2.1
  refine tL_849 h hX hrm (by omega) (by omega) (by omega) (by omega) (by omega) (by omega) km (m13_47 C.2.1) hm1 (by rw [hcs.1]; omega) (by rw [hcs.2]; omega) ?_
  rintro r2 S2 V2 ⟨e0, hq2⟩
  subst e0
  have n2 := j_mN_r19 hm1 F3 hq2
  have req := j_Q_step hm0 hQ n1 hq hq2
  exact tL_864 h hX (tL_999 h hX (by omega) (kk _ _ _ _ (j_lw_step (mc := 0) (ms := 0) hI n1 n2 (Or.inl ⟨by omega, by omega, fun z => z⟩) (by omega) (by omega) ⟨(j_R_step hm0 hR n1 rfl (j_cw_q19 (l1 := 0) (h1 := 0) (l2 := 0) (h2 := 0) hq) (fun c hc => by omega) n2 (j_mw_r19 (lo := 0) (hi := 0) hq2) (fun c hc => by omega)), (j_Q_same hm0 hQ n1 (j_cw_q19 (l1 := 0) (h1 := 0) (l2 := 0) (h2 := 0) hq) (fun c hc => by omega) (j_h16_cw (j_cw_q19 (l1 := 0) (h1 := 0) (l2 := 0) (h2 := 0) hq) (by omega)) n2 (j_mw_r19 (lo := 0) (hi := 0) hq2) (fun c hc => by omega) (j_79_r19 hq2))⟩)))
theorem lw_c18 {C : qCx} {G : jG} {b L : Nat} {xs : Nat → Int32} {S : jS} {V : jH} {nc ns : Nat} {i : Int} (h : xL C G) (hX : j_X C G b L xs) (hrm : C.2.2.2.1.frames = 10 ∧ C.2.2.2.1.locals = 396) (hcs : C.2.2.2.1.cells = 600000 ∧ C.2.2.2.1.slots = 7302250) (hI : j_lwI S V i nc ns) (i1 : i ≤ (L : Int) - 5) (kk : ∀ (S : jS) (V : jH) (nc ns : Nat), j_lwI S V (i + 5) nc ns → j_ok n_KT 4 C G 18 [(0, (9, (b : Int))), (1, (2, 0)), (2, (2, 1000)), (3, (0, i + 5))] [] S V nc ns) : j_ok n_KT 4 C G 868 [(0, (9, (b : Int))), (1, (2, 0)), (2, (2, 1000)), (3, (0, i))] [] S V nc ns := by
  have hL := hX.2.2.2
  obtain ⟨hc0, hm0, f7, f3, i0, nb1, nb2, nb3, hR, hQ⟩ := id hI
  have kx : S.1 0 = 31 := hc0.2.1
  have F7 : V 0 7 < 1000000 := by omega
  refine tL_868 h hX hrm (by omega) (by omega) (by omega) kx (m1_20 C.2.1) hc0 (by rw [hcs.1]; omega) (by rw [hcs.2]; omega) ?_
  rintro r S1 V1 ⟨e0, hq⟩
  subst e0
  have n1 := j_cN_q20 hc0 F7 hq
  obtain ⟨hm1, em⟩ := j_mid hm0 n1
  have F3 : V1 1000 3 < 1000000 := by rw [em]; omega
  have km : S1.1 1000 = 33 := hm1.2.1
  refine tL_877 h hX hrm (by omega) (by omega) (by omega) km (m13_48 C.2.1) hm1 (by rw [hcs.1]; omega) (by rw [hcs.2]; omega) ?_
  rintro r2 S2 V2 ⟨e0, hq2⟩
  subst e0
  have n2 := j_mN_r20 hm1 F3 hq2
  obtain ⟨req, hQ2⟩ := j_Q_mark hm0 hQ n1 hq n2 hq2
  exact tL_887 h hX (tL_999 h hX (by omega) (kk _ _ _ _ (j_lw_step (mc := 0) (ms := 0) hI n1 n2 (Or.inl ⟨by omega, by omega, fun z => z⟩) (by omega) (by omega) ⟨(j_R_step hm0 hR n1 rfl (j_cw_q20 hq) (fun c hc => by omega) n2 (j_mw_r20 (lo := 0) (hi := 0) hq2) (fun c hc => by omega)), hQ2⟩)))
theorem lw_c19 {C : qCx} {G : jG} {b L : Nat} {xs : Nat → Int32} {S : jS} {V : jH} {nc ns : Nat} {i : Int} (h : xL C G) (hX : j_X C G b L xs) (hrm : C.2.2.2.1.frames = 10 ∧ C.2.2.2.1.locals = 396) (hcs : C.2.2.2.1.cells = 600000 ∧ C.2.2.2.1.slots = 7302250) (hI : j_lwI S V i nc ns) (i1 : i ≤ (L : Int) - 5) (kk : ∀ (S : jS) (V : jH) (nc ns : Nat), j_lwI S V (i + 5) nc ns → j_ok n_KT 4 C G 18 [(0, (9, (b : Int))), (1, (2, 0)), (2, (2, 1000)), (3, (0, i + 5))] [] S V nc ns) : j_ok n_KT 4 C G 891 [(0, (9, (b : Int))), (1, (2, 0)), (2, (2, 1000)), (3, (0, i))] [] S V nc ns := by
  have hL := hX.2.2.2
  obtain ⟨hc0, hm0, f7, f3, i0, nb1, nb2, nb3, hR, hQ⟩ := id hI
  have kx : S.1 0 = 31 := hc0.2.1
  have F7 : V 0 7 < 1000000 := by omega
  refine tL_891 h hX hrm (by omega) (by omega) (by omega) kx (m1_21 C.2.1) hc0 (by rw [hcs.1]; omega) (by rw [hcs.2]; omega) ?_
  rintro r S1 V1 ⟨e0, hq⟩
  subst e0
  have n1 := j_cN_q21 hc0 F7 hq
  obtain ⟨hm1, em⟩ := j_mid hm0 n1
  have F3 : V1 1000 3 < 1000000 := by rw [em]; omega
  have km : S1.1 1000 = 33 := hm1.2.1
  refine tL_900 h hX hrm (by omega) (by omega) (by omega) km (m13_49 C.2.1) hm1 (by rw [hcs.1]; omega) (by rw [hcs.2]; omega) ?_
  rintro r2 S2 V2 ⟨e0, hq2⟩
  subst e0
  have n2 := j_mN_r21 hm1 F3 hq2
  exact tL_910 h hX (tL_999 h hX (by omega) (kk _ _ _ _ (j_lw_step (mc := 0) (ms := 0) hI n1 n2 (Or.inl ⟨by omega, by omega, fun z => z⟩) (by omega) (by omega) ⟨(j_R_step hm0 hR n1 rfl (j_cw_q21 (l1 := 0) (h1 := 0) (l2 := 0) (h2 := 0) hq) (fun c hc => by omega) n2 (j_mw_r21 (lo := 0) (hi := 0) hq2) (fun c hc => by omega)), (j_Q_same hm0 hQ n1 (j_cw_q21 (l1 := 0) (h1 := 0) (l2 := 0) (h2 := 0) hq) (fun c hc => by omega) (j_h16_cw (j_cw_q21 (l1 := 0) (h1 := 0) (l2 := 0) (h2 := 0) hq) (by omega)) n2 (j_mw_r21 (lo := 0) (hi := 0) hq2) (fun c hc => by omega) (j_79_r21 hq2))⟩)))
theorem lw_c20 {C : qCx} {G : jG} {b L : Nat} {xs : Nat → Int32} {S : jS} {V : jH} {nc ns : Nat} {i : Int} (h : xL C G) (hX : j_X C G b L xs) (hrm : C.2.2.2.1.frames = 10 ∧ C.2.2.2.1.locals = 396) (hcs : C.2.2.2.1.cells = 600000 ∧ C.2.2.2.1.slots = 7302250) (hI : j_lwI S V i nc ns) (i1 : i ≤ (L : Int) - 5) (kk : ∀ (S : jS) (V : jH) (nc ns : Nat), j_lwI S V (i + 5) nc ns → j_ok n_KT 4 C G 18 [(0, (9, (b : Int))), (1, (2, 0)), (2, (2, 1000)), (3, (0, i + 5))] [] S V nc ns) : j_ok n_KT 4 C G 914 [(0, (9, (b : Int))), (1, (2, 0)), (2, (2, 1000)), (3, (0, i))] [] S V nc ns := by
  have hL := hX.2.2.2
  obtain ⟨hc0, hm0, f7, f3, i0, nb1, nb2, nb3, hR, hQ⟩ := id hI
  have kx : S.1 0 = 31 := hc0.2.1
  have F7 : V 0 7 < 1000000 := by omega
  refine tL_914 h hX hrm (by omega) (by omega) (by omega) kx (m1_22 C.2.1) hc0 (by rw [hcs.1]; omega) (by rw [hcs.2]; omega) ?_
  rintro r S1 V1 ⟨e0, hq⟩
  subst e0
  have n1 := j_cN_q22 hc0 F7 hq
  obtain ⟨hm1, em⟩ := j_mid hm0 n1
  have F3 : V1 1000 3 < 1000000 := by rw [em]; omega
  have km : S1.1 1000 = 33 := hm1.2.1
  refine tL_923 h hX hrm (by omega) (by omega) (by omega) km (m13_50 C.2.1) hm1 (by rw [hcs.1]; omega) (by rw [hcs.2]; omega) ?_
  rintro r2 S2 V2 ⟨e0, hq2⟩
  subst e0
  have n2 := j_mN_r22 hm1 F3 hq2
  obtain ⟨req, hR2⟩ := j_R_tell hm0 hR hq hq2
  exact tL_933 h hX (tL_999 h hX (by omega) (kk _ _ _ _ (j_lw_step (mc := 0) (ms := 0) hI n1 n2 (Or.inl ⟨by omega, by omega, fun z => z⟩) (by omega) (by omega) ⟨hR2, j_Q_tell hm0 hR hQ n1 hq n2 hq2⟩)))
theorem lw_c21 {C : qCx} {G : jG} {b L : Nat} {xs : Nat → Int32} {S : jS} {V : jH} {nc ns : Nat} {i : Int} (h : xL C G) (hX : j_X C G b L xs) (hrm : C.2.2.2.1.frames = 10 ∧ C.2.2.2.1.locals = 396) (hcs : C.2.2.2.1.cells = 600000 ∧ C.2.2.2.1.slots = 7302250) (hI : j_lwI S V i nc ns) (i1 : i ≤ (L : Int) - 5) (kk : ∀ (S : jS) (V : jH) (nc ns : Nat), j_lwI S V (i + 5) nc ns → j_ok n_KT 4 C G 18 [(0, (9, (b : Int))), (1, (2, 0)), (2, (2, 1000)), (3, (0, i + 5))] [] S V nc ns) : j_ok n_KT 4 C G 937 [(0, (9, (b : Int))), (1, (2, 0)), (2, (2, 1000)), (3, (0, i))] [] S V nc ns := by
  have hL := hX.2.2.2
  obtain ⟨hc0, hm0, f7, f3, i0, nb1, nb2, nb3, hR, hQ⟩ := id hI
  have kx : S.1 0 = 31 := hc0.2.1
  have F7 : V 0 7 < 1000000 := by omega
  refine tL_937 h hX hrm kx (m1_23 C.2.1) hc0 (by rw [hcs.1]; omega) (by rw [hcs.2]; omega) ?_
  rintro r S1 V1 ⟨e0, hq⟩
  subst e0
  have n1 := j_cN_q23 hc0 F7 hq
  obtain ⟨hm1, em⟩ := j_mid hm0 n1
  have F3 : V1 1000 3 < 1000000 := by rw [em]; omega
  have km : S1.1 1000 = 33 := hm1.2.1
  refine tL_941 h hX hrm km (m13_51 C.2.1) hm1 (by rw [hcs.1]; omega) (by rw [hcs.2]; omega) ?_
  rintro r2 S2 V2 ⟨e0, hq2⟩
  subst e0
  have n2 := j_mN_r23 hm1 F3 hq2
  obtain ⟨req, hQ2⟩ := j_Q_check hm0 hR hQ n1 hq n2 hq2
  exact tL_945 h hX (fun _ => tL_999 h hX (by omega) (kk _ _ _ _ (j_lw_step (mc := 0) (ms := 0) hI n1 n2 (Or.inl ⟨by omega, by omega, fun z => z⟩) (by omega) (by omega) ⟨j_R_check hm0 hR hq n2 hq2, hQ2⟩))) (fun z => absurd req z)
theorem lw_c23 {C : qCx} {G : jG} {b L : Nat} {xs : Nat → Int32} {S : jS} {V : jH} {nc ns : Nat} {i : Int} (h : xL C G) (hX : j_X C G b L xs) (hrm : C.2.2.2.1.frames = 10 ∧ C.2.2.2.1.locals = 396) (hcs : C.2.2.2.1.cells = 600000 ∧ C.2.2.2.1.slots = 7302250) (hI : j_lwI S V i nc ns) (i1 : i ≤ (L : Int) - 5) (kk : ∀ (S : jS) (V : jH) (nc ns : Nat), j_lwI S V (i + 5) nc ns → j_ok n_KT 4 C G 18 [(0, (9, (b : Int))), (1, (2, 0)), (2, (2, 1000)), (3, (0, i + 5))] [] S V nc ns) : j_ok n_KT 4 C G 963 [(0, (9, (b : Int))), (1, (2, 0)), (2, (2, 1000)), (3, (0, i))] [] S V nc ns := by
  have hL := hX.2.2.2
  obtain ⟨hc0, hm0, f7, f3, i0, nb1, nb2, nb3, hR, hQ⟩ := id hI
  have kx : S.1 0 = 31 := hc0.2.1
  have F7 : V 0 7 < 1000000 := by omega
  refine tL_963 h hX hrm kx (m1_25 C.2.1) hc0 (by rw [hcs.1]; omega) (by rw [hcs.2]; omega) ?_
  rintro r S1 V1 hq
  have n1 : j_cN S V 0 S1 V1 ∧ S1.2 0 1 = S.2 0 1 ∧ V1 0 6 = V 0 6 ∧ ((S.2 0 1 = -1 ∧ V1 = j_fd V 0 ∧ r = -6) ∨ (S.2 0 1 ≠ -1 ∧ r = 1 ∧ j_wBe S V 1 300 S1 V1)) := by
    rcases hq with ⟨z1, z2, z3, z4⟩ | ⟨z1, z4, z2⟩
    · rw [z2, z3]; exact ⟨j_cN_fd hc0 F7, rfl, j_up_off (by decide), Or.inl ⟨z1, rfl, z4⟩⟩
    · refine ⟨j_cN_back hc0 z1 z2, ?_, ?_, Or.inr ⟨by rw [z1]; decide, z4, z2⟩⟩
      · obtain ⟨-, -, -, -, -, -, -, -, -, -, fr⟩ := z2
        rw [(fr 0 (by omega)).2.1]
      · obtain ⟨-, -, -, -, -, -, -, -, -, -, fr⟩ := z2
        rw [(fr 0 (by omega)).2.2]
  obtain ⟨n1, hk2, h6, hr⟩ := n1
  obtain ⟨hm1, em⟩ := j_mid hm0 n1
  have F3 : V1 1000 3 < 1000000 := by rw [em]; omega
  have km : S1.1 1000 = 33 := hm1.2.1
  refine tL_967 h hX hrm km (m13_53 C.2.1) hm1 (by rw [hcs.1]; omega) (by rw [hcs.2]; omega) ?_
  rintro r2 S2 V2 ⟨e0, hq2⟩
  subst e0
  have n2 := j_mN_back hm1 F3 hq2
  obtain ⟨req, hR2⟩ := j_R_back hm0 hR n1 hk2 h6 hr n2 hq2
  exact tL_972 h hX (tL_999 h hX (by omega) (kk _ _ _ _ (j_lw_step (mc := 100) (ms := 10390) hI n1 n2 (Or.inl ⟨by omega, by omega, fun z => by rw [← hk2]; exact z⟩) (by omega) (by omega) ⟨hR2, j_Q_back hm0 hR hQ n1 hm1 h6 hr n2 hq2⟩)))
theorem lw_c24 {C : qCx} {G : jG} {b L : Nat} {xs : Nat → Int32} {S : jS} {V : jH} {nc ns : Nat} {i : Int} (h : xL C G) (hX : j_X C G b L xs) (hrm : C.2.2.2.1.frames = 10 ∧ C.2.2.2.1.locals = 396) (hcs : C.2.2.2.1.cells = 600000 ∧ C.2.2.2.1.slots = 7302250) (hI : j_lwI S V i nc ns) (i1 : i ≤ (L : Int) - 5) (kk : ∀ (S : jS) (V : jH) (nc ns : Nat), j_lwI S V (i + 5) nc ns → j_ok n_KT 4 C G 18 [(0, (9, (b : Int))), (1, (2, 0)), (2, (2, 1000)), (3, (0, i + 5))] [] S V nc ns) : j_ok n_KT 4 C G 976 [(0, (9, (b : Int))), (1, (2, 0)), (2, (2, 1000)), (3, (0, i))] [] S V nc ns := by
  have hL := hX.2.2.2
  obtain ⟨hc0, hm0, f7, f3, i0, nb1, nb2, nb3, hR, hQ⟩ := id hI
  have kx : S.1 0 = 31 := hc0.2.1
  have F7 : V 0 7 < 1000000 := by omega
  refine tL_976 h hX hrm (by omega) (by omega) (by omega) kx (m1_26 C.2.1) hc0 (by rw [hcs.1]; omega) (by rw [hcs.2]; omega) ?_
  rintro r S1 V1 ⟨e0, hq⟩
  subst e0
  have n1 := j_cN_q26 hc0 F7 hq
  obtain ⟨hm1, em⟩ := j_mid hm0 n1
  have F3 : V1 1000 3 < 1000000 := by rw [em]; omega
  have km : S1.1 1000 = 33 := hm1.2.1
  refine tL_985 h hX hrm (by omega) (by omega) (by omega) km (m13_54 C.2.1) hm1 (by rw [hcs.1]; omega) (by rw [hcs.2]; omega) ?_
  rintro r2 S2 V2 ⟨e0, hq2⟩
  subst e0
  have n2 := j_mN_54 hm1 F3 hq2
  exact tL_995 h hX (tL_999 h hX (by omega) (kk _ _ _ _ (j_lw_step (mc := 0) (ms := 0) hI n1 n2 (Or.inl ⟨by omega, by omega, fun z => z⟩) (by omega) (by omega) ⟨(j_R_step hm0 hR n1 rfl (j_cw_q26 (l1 := 0) (h1 := 0) (l2 := 0) (h2 := 0) hq) (fun c hc => by omega) n2 (j_mw_54 (lo := 0) (hi := 0) hq2) (fun c hc => by omega)), (j_Q_same hm0 hQ n1 (j_cw_q26 (l1 := 0) (h1 := 0) (l2 := 0) (h2 := 0) hq) (fun c hc => by omega) (j_h16_cw (j_cw_q26 (l1 := 0) (h1 := 0) (l2 := 0) (h2 := 0) hq) (by omega)) n2 (j_mw_54 (lo := 0) (hi := 0) hq2) (fun c hc => by omega) (j_79_54 hq2))⟩)))
theorem lw_c22 {C : qCx} {G : jG} {b L : Nat} {xs : Nat → Int32} {S : jS} {V : jH} {nc ns : Nat} {i : Int} (h : xL C G) (hX : j_X C G b L xs) (hrm : C.2.2.2.1.frames = 10 ∧ C.2.2.2.1.locals = 396) (hcs : C.2.2.2.1.cells = 600000 ∧ C.2.2.2.1.slots = 7302250) (hI : j_lwI S V i nc ns) (i1 : i ≤ (L : Int) - 5) (kk : ∀ (S : jS) (V : jH) (nc ns : Nat), j_lwI S V (i + 5) nc ns → j_ok n_KT 4 C G 18 [(0, (9, (b : Int))), (1, (2, 0)), (2, (2, 1000)), (3, (0, i + 5))] [] S V nc ns) : j_ok n_KT 4 C G 950 [(0, (9, (b : Int))), (1, (2, 0)), (2, (2, 1000)), (3, (0, i))] [] S V nc ns := by
  have hL := hX.2.2.2
  obtain ⟨hc0, hm0, f7, f3, i0, nb1, nb2, nb3, hR, hQ⟩ := id hI
  have kx : S.1 0 = 31 := hc0.2.1
  have F7 : V 0 7 < 1000000 := by omega
  have rest : ∀ (S1 : jS) (V1 : jH) (mc ms : Nat), nc + mc ≤ 600000 → ns + ms ≤ 7302250 → j_cN S V 0 S1 V1 → V1 0 6 = V 0 6 → S1.2 0 1 ≠ -1 → (∃ (S3 : jS) (V3 : jH), j_wBe S3 V3 300 1 S1 V1 ∧ ∀ c : Int, (c < 300 ∨ 429 < c) → V3 c = V c) → ((mc ≤ 100 ∧ ms ≤ 10390 ∧ (S1.2 0 1 = -1 → S.2 0 1 = -1)) ∨ (mc ≤ 123 ∧ ms ≤ 19235 ∧ S.2 0 1 = -1 ∧ S1.2 0 1 ≠ -1)) → j_ok n_KT 4 C G 954 [(0, (9, (b : Int))), (1, (2, 0)), (2, (2, 1000)), (3, (0, i))] [(0, 1)] S1 V1 (nc + mc) (ns + ms) := by
    intro S1 V1 mc ms rc rs n1 h6 k1 hw hb
    obtain ⟨S3, V3, w1, w6⟩ := hw
    obtain ⟨hm1, em⟩ := j_mid hm0 n1
    have F3 : V1 1000 3 < 1000000 := by rw [em]; omega
    have km : S1.1 1000 = 33 := hm1.2.1
    refine tL_954 h hX hrm km (m13_52 C.2.1) hm1 (by rw [hcs.1]; omega) (by rw [hcs.2]; omega) ?_
    rintro r2 S2 V2 ⟨e0, e1, hq2, hq3, hq4, hq5⟩
    subst e0; subst e1
    have n2 := j_mN_keep hm1 hq2 hq3 hq4 hq5
    have st := j_lw_step hI n1 n2 hb (nc' := nc + mc + 0) (ns' := ns + ms + 0) (by omega) (by omega) ⟨j_R_keep hm0 hR n1 h6 k1 w1 w6 n2 hq2 hq3 hq4 hq5, j_Q_keep hm0 hR hQ n1 hm1 h6 w1 w6 n2 hq4 hq5⟩
    exact tL_959 h hX (tL_999 h hX (by omega) (kk _ _ _ _ st))
  rcases hc0.2.2.2.2.1 with ⟨g1, -⟩ | ⟨g1, -⟩
  · have nb := nb3 g1
    refine tL_950 h hX hrm kx (m1_24n C.2.1) ⟨hc0, g1⟩ (by rw [hcs.1]; omega) (by rw [hcs.2]; omega) ?_
    rintro r S1 V1 ⟨e1, S3, V3, w1, w2, w3, -, w5, w6⟩
    subst e1
    obtain ⟨n1, hk1⟩ := j_cN_keepn hc0 w1 w2 w3 w5 w6
    obtain ⟨-, -, -, -, -, -, -, -, -, -, fr⟩ := id w1
    exact rest S1 V1 123 19235 (by omega) (by omega) n1 (by rw [(fr 0 (by omega)).2.2, (w6 0 (by omega)).2]) (by rw [hk1]; decide) ⟨S3, V3, w1, fun c hc => (w6 c (by omega)).2⟩ (Or.inr ⟨by omega, by omega, g1, by rw [hk1]; decide⟩)
  · refine tL_950 h hX hrm kx (m1_24 C.2.1) ⟨hc0, g1⟩ (by rw [hcs.1]; omega) (by rw [hcs.2]; omega) ?_
    rintro r S1 V1 ⟨e1, w1⟩
    subst e1
    obtain ⟨n1, hk1⟩ := j_cN_keep hc0 g1 w1
    obtain ⟨-, -, -, -, -, -, -, -, -, -, fr⟩ := id w1
    exact rest S1 V1 100 10390 (by omega) (by omega) n1 (by rw [(fr 0 (by omega)).2.2]) (by rw [hk1]; decide) ⟨S, V, w1, fun _ _ => rfl⟩ (Or.inl ⟨by omega, by omega, fun z => by rw [hk1] at z; exact absurd z (by decide)⟩)
theorem lw_loop {C : qCx} {G : jG} {b L : Nat} {xs : Nat → Int32} (h : xL C G) (hX : j_X C G b L xs) (hrm : C.2.2.2.1.frames = 10 ∧ C.2.2.2.1.locals = 396) (hcs : C.2.2.2.1.cells = 600000 ∧ C.2.2.2.1.slots = 7302250) (R : j_Rz n_KT 4 C G b_L 600000 7302250 (fun r _ _ => r = 1)) : ∀ (m : Nat) (i : Int) (S : jS) (V : jH) (nc ns : Nat), (L : Int) - i ≤ m → i ≤ 2565 → j_lwI S V i nc ns → j_ok n_KT 4 C G 18 [(0, (9, (b : Int))), (1, (2, 0)), (2, (2, 1000)), (3, (0, i))] [] S V nc ns := by
  have hL := hX.2.2.2
  intro m
  induction m with
  | zero =>
    intro i S V nc ns hm i2 hI
    obtain ⟨-, -, -, -, i0, nb1, nb2, -, -⟩ := id hI
    exact tL_18 h hX (by omega) (fun _ => tL_1005 h hX R rfl (by omega) (by omega)) (fun z => absurd z (by omega))
  | succ m ih =>
    intro i S V nc ns hm i2 hI
    obtain ⟨-, -, -, -, i0, nb1, nb2, -, -⟩ := id hI
    refine tL_18 h hX (by omega) (fun _ => tL_1005 h hX R rfl (by omega) (by omega)) (fun z => ?_)
    have kk : ∀ (S : jS) (V : jH) (nc ns : Nat), j_lwI S V (i + 5) nc ns → j_ok n_KT 4 C G 18 [(0, (9, (b : Int))), (1, (2, 0)), (2, (2, 1000)), (3, (0, i + 5))] [] S V nc ns := fun S V nc ns hq => ih (i + 5) S V nc ns (by omega) (by omega) hq
    refine tL_26 h hX i0 (by omega) (fun _ => tL_999 h hX (by omega) (kk _ _ _ _ ?_)) (fun _ => lw_c0 h hX hrm hcs hI z kk) (fun _ => lw_c1 h hX hrm hcs hI z kk) (fun _ => lw_c2 h hX hrm hcs hI z kk) (fun _ => lw_c3 h hX hrm hcs hI z kk) (fun _ => lw_c4 h hX hrm hcs hI z kk) (fun _ => lw_c5 h hX hrm hcs hI z kk) (fun _ => lw_c6 h hX hrm hcs hI z kk) (fun _ => lw_c7 h hX hrm hcs hI z kk) (fun _ => lw_c8 h hX hrm hcs hI z kk) (fun _ => lw_c9 h hX hrm hcs hI z kk) (fun _ => lw_c10 h hX hrm hcs hI z kk) (fun _ => lw_c11 h hX hrm hcs hI z kk) (fun _ => lw_c12 h hX hrm hcs hI z kk) (fun _ => lw_c13 h hX hrm hcs hI z kk) (fun _ => lw_c14 h hX hrm hcs hI z kk) (fun _ => lw_c15 h hX hrm hcs hI z kk) (fun _ => lw_c16 h hX hrm hcs hI z kk) (fun _ => lw_c17 h hX hrm hcs hI z kk) (fun _ => lw_c18 h hX hrm hcs hI z kk) (fun _ => lw_c19 h hX hrm hcs hI z kk) (fun _ => lw_c20 h hX hrm hcs hI z kk) (fun _ => lw_c21 h hX hrm hcs hI z kk) (fun _ => lw_c22 h hX hrm hcs hI z kk) (fun _ => lw_c23 h hX hrm hcs hI z kk) (fun _ => lw_c24 h hX hrm hcs hI z kk)
    obtain ⟨q1, q2, q3, q4, q5, q6, q7, q8, q9⟩ := hI
    exact ⟨q1, q2, by omega, by omega, by omega, by omega, by omega, fun y => by have := q8 y; constructor <;> omega, q9⟩
