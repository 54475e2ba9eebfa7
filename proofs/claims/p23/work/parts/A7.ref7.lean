/-! THE REFERENCE: packing by a table, searching -/
def j_pby (a tb p la : Int) (V : jH) (r : Int) (V' : jH) : Prop :=
  (¬ (0 ≤ tb ∧ tb < V (a + 1) 2 ∧ 0 ≤ p ∧ p < 6 ∧ 1 ≤ la ∧ la ≤ 4) ∧ V' = V ∧ r = -1) ∨
  (0 ≤ tb ∧ tb < V (a + 1) 2 ∧ 0 ≤ p ∧ p < 6 ∧ 1 ≤ la ∧ la ≤ 4 ∧ ((j_ropen V a tb ∧ V' = V ∧ r = -4) ∨ (¬ j_ropen V a tb ∧
    ∃ (V1 V2 : jH) (x : Int), V1 a 9 = V (a + 4) tb ∧ V1 a 10 = j_M (V (a + 5) tb) ∧ (∀ j : Int, j ≠ 9 → j ≠ 10 → V1 a j = V a j) ∧ (∀ i : Int, 0 ≤ i → i < 1024 → V1 (a + 21) i = V (a + 7) (1024 * tb + i)) ∧ (∀ c : Int, c ≠ a → c ≠ a + 21 → V1 c = V c) ∧ j_rdl V1 a (V (a + 5) tb) ∧ j_rpk V1 V2 a p (V (a + 5) tb) la x ∧
      ((0 ≤ x ∧ V' = j_up V2 (a + 1) 12 x ∧ r = -5) ∨ (x = -1 ∧ V' = V2 ∧ r = V2 a 20 ∧ 0 ≤ r ∧ r ≤ 4400)))))
theorem m13_30 (l : Launch) : M13_30 l 0 0 (fun a tb p la S V => j_mI S V a) (fun a tb p la S V r S' V' => S' = S ∧ j_pby a tb p la V r V') := by
  refine e13_30 ?_
  rintro C G h hrm hcs hl hn a tb p la S V ht hI R
  obtain ⟨L, -, a0, ⟨hR, hS, hB⟩, hk, h2, h4, h3⟩ := id hI
  have k7 := j_mk7 L ht
  have k21 : S.1 (a + 21) = 12 := L12_11k L ht
  have no : ¬ (0 ≤ tb ∧ tb < V (a + 1) 2 ∧ 0 ≤ p ∧ p < 6 ∧ 1 ≤ la ∧ la ≤ 4) → j_ok n_KT 5 C G 27 [] [] S V 0 0 := fun z => t13_30_27 h R ⟨rfl, Or.inl ⟨z, rfl, rfl⟩⟩ (Nat.le_refl _) (Nat.le_refl _)
  refine t13_30_0 h hrm ht (m13_5 C.2.1) ⟨L, hS.1, hS.2.1⟩ (Nat.zero_le _) (Nat.zero_le _) ?_
  rintro y S1 V1 ⟨e0, e1, hy⟩
  subst e0; subst e1
  refine t13_30_5 h (fun q => no (fun z => hy.n q ⟨z.1, z.2.1⟩)) (fun q => ?_)
  obtain ⟨t0, t1⟩ := hy.y q
  obtain ⟨t2, hT⟩ := j_mI_T hI t0 t1
  refine t13_30_8 h hrm (m13_4 C.2.1) trivial (Nat.zero_le _) (Nat.zero_le _) ?_
  rintro y2 S2 V2 ⟨e0, e1, hy2⟩
  subst e0; subst e1
  refine t13_30_12 h (fun q => no (fun z => hy2.n q ⟨z.2.2.1, z.2.2.2.1⟩)) (fun q => ?_)
  obtain ⟨p0, p1⟩ := hy2.y q
  refine t13_30_15 h hrm (m13_3 C.2.1) trivial (Nat.zero_le _) (Nat.zero_le _) ?_
  rintro y3 S3 V3 ⟨e0, e1, hy3⟩
  subst e0; subst e1
  refine t13_30_24 h (fun q => ?_) (fun q => no (fun z => hy3.n q z.2.2.2.2))
  obtain ⟨l0, l1⟩ := hy3.y q
  refine t13_30_29 h hrm ht (m13_14 C.2.1) ⟨hI, t0, t1⟩ (Nat.zero_le _) (Nat.zero_le _) ?_
  rintro y4 S4 V4 ⟨e0, e1, hy4⟩
  subst e0; subst e1
  refine t13_30_34 h (fun q => ?_) (fun q => t13_30_37 h R ⟨rfl, Or.inr ⟨t0, t1, p0, p1, l0, l1, Or.inl ⟨hy4.y q, rfl, rfl⟩⟩⟩ (Nat.le_refl _) (Nat.le_refl _))
  have hop := hy4.n q
  obtain ⟨q1, q2, q3, q4, q5, q6, q7, q8⟩ := id hT
  rw [show a + 1 + 3 = a + 4 by omega] at q1 q2 q7 q8
  rw [show a + 1 + 4 = a + 5 by omega] at q3 q4 q6 q7 q8
  rw [show a + 1 + 6 = a + 7 by omega] at q5 q6 q7 q8
  have hm := j_M_bd q3 q4
  have eM : (2 : Int) ^ (V4 (a + 5) tb).toNat = j_M (V4 (a + 5) tb) := rfl
  refine t13_30_40 h L ht t0 t2 (by omega) (by omega) ?_
  rw [eM]
  have loop : ∀ (i : Int) (V5 : jH), (0 ≤ i ∧ i ≤ 1024 ∧ (∀ x : Int, 0 ≤ x → x < i → V5 (a + 21) x = V4 (a + 7) (1024 * tb + x)) ∧ ∀ c : Int, c ≠ a + 21 → V5 c = j_up (j_up V4 a 9 (V4 (a + 4) tb)) a 10 (j_M (V4 (a + 5) tb)) c) → j_ok n_KT 5 C G 71 [(0, (2, a)), (1, (0, tb)), (2, (0, p)), (3, (0, la)), (4, (0, i))] [] S4 V5 0 0 := by
    refine j_loop (N := 1024) (fun i V5 hi hI2 kk => ?_) (fun i V5 hi hI2 => ?_)
    · obtain ⟨i0, i1, g1, g2⟩ := hI2
      refine t13_30_71 h (fun z => absurd z (by omega)) (fun _ => ?_)
      refine t13_30_79 h L hrm ht (m13_11 C.2.1) ⟨t0, t2, (by omega), (by omega), (by omega), (by omega)⟩ (Nat.zero_le _) (Nat.zero_le _) ?_
      rintro y5 S5 V6 ⟨e0, e1, er⟩
      subst e0; subst e1
      rw [er, show 1024 * tb + 256 * 0 + 0 = 1024 * tb by omega]
      refine t13_30_99 (n_s1 := 10240) (n_s3 := 1024) h (by omega) (j_arr_of k7 (by decide) rfl) (by omega) (by omega) (j_arr_of k21 (by decide) rfl) i0 hi (by omega) (kk _ ⟨(by omega), (by omega), fun x x0 x1 => ?_, fun c hc => by rw [j_up_ne hc]; exact g2 c hc⟩)
      by_cases e : x = i
      · rw [e, j_up_at, g2 _ (by omega), j_up_ne (by omega), j_up_ne (by omega)]
      · rw [j_up_off e]; exact g1 x x0 (by omega)
    · obtain ⟨i0, i1, g1, g2⟩ := hI2
      have ei : i = 1024 := by omega
      rw [ei] at g1
      have ne : ∀ c : Int, c ≠ a → c ≠ a + 21 → V5 c = V4 c := fun c c0 c1 => by rw [g2 c c1, j_up_ne c0, j_up_ne c0]
      have v9 : V5 a 9 = V4 (a + 4) tb := by rw [g2 a (by omega), j_up_off (by decide), j_up_at]
      have v10 : V5 a 10 = j_M (V4 (a + 5) tb) := by rw [g2 a (by omega), j_up_at]
      have va : ∀ j : Int, j ≠ 9 → j ≠ 10 → V5 a j = V4 a j := fun j j0 j1 => by rw [g2 a (by omega), j_up_off j1, j_up_off j0]
      have v5 : V5 (a + 5) = V4 (a + 5) := ne _ (by omega) (by omega)
      have pp := j_parts_bd (V4 (a + 4) tb)
      have eB : ∀ q x : Int, 0 ≤ q → q < 4 → 0 ≤ x → x ≤ 256 → j_rB (V5 (a + 21)) q x = j_pre (j_rs (V4 (a + 7)) (1024 * tb + 256 * q)) x := fun q x z0 z1 x0 x1 => j_pre_congr (fun s s0 s1 => by
        show V5 (a + 21) (256 * q + s) = V4 (a + 7) (1024 * tb + 256 * q + s)
        rw [g1 _ (by omega) (by omega), show 1024 * tb + (256 * q + s) = 1024 * tb + 256 * q + s by omega])
      have rdl : j_rdl V5 a (V4 (a + 5) tb) := by
        unfold j_rdl
        rw [v9]
        refine ⟨fun i z0 z1 => ?_, fun q z0 z1 => ?_, fun k4 s z0 z1 => ?_⟩
        · rw [g1 i z0 (by omega)]
          have s1 := j_mT_sh hT (p := i / 256) (by omega) (by omega) (s := i % 256 + 1) (by omega) (by omega)
          have s0 := j_mT_sh hT (p := i / 256) (by omega) (by omega) (s := i % 256) (by omega) (by omega)
          rw [show a + 1 + 6 = a + 7 by omega, show a + 1 + 4 = a + 5 by omega] at s0 s1
          rw [j_pre_s _ (by omega)] at s1
          have ev : j_rs (V4 (a + 7)) (1024 * tb + 256 * (i / 256)) (i % 256) = V4 (a + 7) (1024 * tb + i) := by
            show V4 (a + 7) (1024 * tb + 256 * (i / 256) + i % 256) = _
            rw [show 1024 * tb + 256 * (i / 256) + i % 256 = 1024 * tb + i by omega]
          rw [ev] at s1
          have := q5 i z0 (by omega)
          omega
        · refine j_dl_congr (b := j_pre (j_rs (V4 (a + 7)) (1024 * tb + 256 * q))) (fun x x0 x1 => eB q x z0 (by omega) x0 x1) ⟨rfl, j_ropen_n hT hop z0 z1, fun s s0 s1 => ?_⟩
          rw [j_sh_pre _ s0]
          show 0 ≤ V4 (a + 7) (1024 * tb + 256 * q + s)
          rw [show 1024 * tb + 256 * q + s = 1024 * tb + (256 * q + s) by omega]; exact q5 _ (by omega) (by omega)
        · rw [g1 s z0 (by omega)]; exact q7 (Or.inr k4) s z0 (by omega)
      refine t13_30_71 h (fun _ => ?_) (fun z => absurd z (by omega))
      refine t13_30_110 h L hrm ht t0 t2 (m13_27 C.2.1) ⟨L, a0, p0, p1, by rw [v5]; exact q3, by rw [v5]; exact q4, l0, l1, j_mR_congr (fun p _ _ => by rw [ne _ (by omega) (by omega)]) (fun i _ _ => by rw [ne _ (by omega) (by omega)]) hR, by rw [v9]; exact q1, by rw [v9]; exact q2, by rw [v10, v5], by rw [v5]; exact rdl⟩ (Nat.zero_le _) (Nat.zero_le _) ?_
      rintro x S6 V6 ⟨e0, hP⟩
      subst e0
      rw [v5] at hP
      refine t13_30_125 h (fun z => ?_) (fun z => ?_)
      · exact t13_30_137 h L ht R ⟨rfl, Or.inr ⟨t0, t1, p0, p1, l0, l1, Or.inr ⟨hop, V5, V6, x, v9, v10, va, g1, ne, rdl, hP, Or.inl ⟨z, rfl, rfl⟩⟩⟩⟩ (Nat.le_refl _) (Nat.le_refl _)
      · have hP' := hP
        obtain ⟨-, -, m, -, ⟨m0, em⟩ | ⟨_, em, b0, b1, _⟩⟩ := hP'
        · omega
        · exact t13_30_132 h ht R ⟨rfl, Or.inr ⟨t0, t1, p0, p1, l0, l1, Or.inr ⟨hop, V5, V6, x, v9, v10, va, g1, ne, rdl, hP, Or.inr ⟨em, rfl, rfl, b0, b1⟩⟩⟩⟩ (Nat.le_refl _) (Nat.le_refl _)
  exact loop 0 _ ⟨(by omega), (by omega), fun x x0 x1 => absurd x1 (by omega), fun _ _ => rfl⟩
/-- THE BLOCK is what was printed -/
def j_mkb (V V' : jH) (a : Int) : Prop := V' (a + 1) = j_u (j_u (j_u (V (a + 1)) 7 (V a 20)) 9 1) 10 0 ∧ (∀ i : Int, 0 ≤ i → i < V a 20 → V' (a + 8) i = V (a + 26) i) ∧ ∀ c : Int, c ≠ a + 1 → c ≠ a + 8 → V' c = V c
theorem m13_31 (l : Launch) : M13_31 l 0 0 (fun a S V => j_L S ∧ 0 ≤ a ∧ 0 ≤ V a 20 ∧ V a 20 ≤ 4400) (fun a S V r S' V' => S' = S ∧ r = V a 20 ∧ j_mkb V V' a) := by
  refine e13_31 ?_
  rintro C G h hrm hcs hl hn a S V ht ⟨L, a0, n0, n1⟩ R
  refine t13_31_0 h L ht ?_
  have loop : ∀ (i : Int) (V1 : jH), (0 ≤ i ∧ i ≤ V a 20 ∧ (∀ x : Int, 0 ≤ x → x < i → V1 (a + 8) x = V (a + 26) x) ∧ ∀ c : Int, c ≠ a + 8 → V1 c = j_up V (a + 1) 7 (V a 20) c) → j_ok n_KT 2 C G 13 [(0, (2, a)), (1, (0, i))] [] S V1 0 0 := by
    refine j_loop (N := V a 20) (fun i V1 hi hI kk => ?_) (fun i V1 hi hI => ?_)
    · obtain ⟨i0, i1, g1, g2⟩ := hI
      have v20 : V1 a 20 = V a 20 := by rw [g2 a (by omega), j_up_ne (by omega)]
      have v26 : V1 (a + 26) = V (a + 26) := by rw [g2 _ (by omega), j_up_ne (by omega)]
      refine t13_31_13 h ht (fun z => absurd z (by rw [v20]; omega)) (fun _ => ?_)
      refine t13_31_21 h L ht i0 (by omega) (by omega) (by omega) (kk _ ⟨(by omega), (by omega), fun x x0 x1 => ?_, fun c hc => by rw [j_up_ne hc]; exact g2 c hc⟩)
      by_cases e : x = i
      · rw [e, j_up_at, v26]
      · rw [j_up_off e]; exact g1 x x0 (by omega)
    · obtain ⟨i0, i1, g1, g2⟩ := hI
      have ei : i = V a 20 := by omega
      rw [ei] at g1
      have v20 : V1 a 20 = V a 20 := by rw [g2 a (by omega), j_up_ne (by omega)]
      refine t13_31_13 h ht (fun _ => ?_) (fun z => absurd z (by rw [v20]; omega))
      refine t13_31_42 h L ht R ⟨rfl, v20, ?_, fun x x0 x1 => by rw [j_up_ne (by omega), j_up_ne (by omega)]; exact g1 x x0 x1, fun c c0 c1 => by rw [j_up_ne c0, j_up_ne c0, g2 c c1, j_up_ne c0]⟩ (Nat.le_refl _) (Nat.le_refl _)
      rw [j_up_u, j_up_u, g2 _ (by omega), j_up_u]
  exact loop 0 _ ⟨(by omega), n0, fun x x0 x1 => absurd x1 (by omega), fun _ _ => rfl⟩
def j_r12 (a tb p la : Int) (V : jH) (r : Int) (V' : jH) : Prop := ∃ V2 : jH, j_pby a tb p la V r V2 ∧ ((r < 0 ∧ V' = j_md V2 a) ∨ (0 ≤ r ∧ j_mkb V2 V' a))
theorem j_pby_F {S : jS} {V V' : jH} {a tb p la r : Int} (hI : j_mI S V a) (h : j_pby a tb p la V r V') : V' a 3 = V a 3 ∧ (0 ≤ r → 0 ≤ V' a 20 ∧ V' a 20 ≤ 4400 ∧ r = V' a 20) := by
  rcases h with ⟨_, e, er⟩ | ⟨_, _, _, _, _, _, ⟨_, e, er⟩ | ⟨_, V1, V2, x, _, _, va, _, _, _, hP, ⟨_, e, er⟩ | ⟨_, e, er, b0, b1⟩⟩⟩
  · exact ⟨by rw [e], fun z => absurd z (by omega)⟩
  · exact ⟨by rw [e], fun z => absurd z (by omega)⟩
  · refine ⟨?_, fun z => absurd z (by omega)⟩
    have := hI.2.2.1
    rw [e, j_up_ne (by omega), hP.2.1 3 (by decide) (by decide) (by decide) (by decide), va 3 (by decide) (by decide)]
  · exact ⟨by rw [e, hP.2.1 3 (by decide) (by decide) (by decide) (by decide), va 3 (by decide) (by decide)], fun _ => ⟨by rw [e, ← er]; exact b0, by rw [e, ← er]; exact b1, by rw [e]; exact er⟩⟩
theorem m13_32 (l : Launch) : M13_32 l 0 0 (fun a tb p la S V => j_mI S V a) (fun a tb p la S V r S' V' => S' = S ∧ j_r12 a tb p la V r V') := by
  refine e13_32 ?_
  rintro C G h hrm hcs hl hn a tb p la S V ht hI R
  obtain ⟨L, -, a0, -⟩ := id hI
  refine t13_32_0 h hrm ht (m13_30 C.2.1) hI (Nat.zero_le _) (Nat.zero_le _) ?_
  rintro y S1 V1 ⟨e0, hy⟩
  subst e0
  obtain ⟨f3, f20⟩ := j_pby_F hI hy
  refine t13_32_7 h (fun z => ?_) (fun z => ?_)
  · have b := f20 z
    refine t13_32_23 h hrm ht (m13_31 C.2.1) ⟨L, a0, b.1, b.2.1⟩ (Nat.zero_le _) (Nat.zero_le _) ?_
    rintro y2 S2 V2 ⟨e0, er, hm⟩
    subst e0
    rw [← b.2.2] at er
    subst er
    exact t13_32_27 h R ⟨rfl, V1, hy, Or.inr ⟨z, hm⟩⟩ (Nat.le_refl _) (Nat.le_refl _)
  · refine t13_32_14 h hrm ht (m13_2 C.2.1) ⟨z, by rw [f3]; exact j_mI_F hI⟩ (Nat.zero_le _) (Nat.zero_le _) ?_
    rintro y2 S2 V2 ⟨e0, e2, er⟩
    subst e0; subst er
    exact t13_32_20 h (t13_32_27 h R ⟨rfl, V1, hy, Or.inl ⟨z, e2⟩⟩ (Nat.le_refl _) (Nat.le_refl _))
def j_r13 (a tb p la : Int) (V : jH) (r : Int) (V' : jH) : Prop := ∃ V2 : jH, j_pby a tb p la V r V2 ∧ ((r < 0 ∧ V' = j_md V2 a) ∨ (0 ≤ r ∧ V' = V2))
theorem m13_33 (l : Launch) : M13_33 l 0 0 (fun a tb p la S V => j_mI S V a) (fun a tb p la S V r S' V' => S' = S ∧ j_r13 a tb p la V r V') := by
  refine e13_33 ?_
  rintro C G h hrm hcs hl hn a tb p la S V ht hI R
  refine t13_33_0 h hrm ht (m13_30 C.2.1) hI (Nat.zero_le _) (Nat.zero_le _) ?_
  rintro y S1 V1 ⟨e0, hy⟩
  subst e0
  obtain ⟨f3, f20⟩ := j_pby_F hI hy
  by_cases z : 0 ≤ y
  · refine t13_33_8 h hrm ht (m13_2p C.2.1) z (Nat.zero_le _) (Nat.zero_le _) ?_
    rintro y2 S2 V2 ⟨e0, e2, er⟩
    subst e0; subst er
    exact t13_33_11 h R ⟨rfl, V1, hy, Or.inr ⟨z, e2⟩⟩ (Nat.le_refl _) (Nat.le_refl _)
  · refine t13_33_8 h hrm ht (m13_2 C.2.1) ⟨(by omega), by rw [f3]; exact j_mI_F hI⟩ (Nat.zero_le _) (Nat.zero_le _) ?_
    rintro y2 S2 V2 ⟨e0, e2, er⟩
    subst e0; subst er
    exact t13_33_11 h R ⟨rfl, V1, hy, Or.inl ⟨(by omega), e2⟩⟩ (Nat.le_refl _) (Nat.le_refl _)
/-- a trial of the reference -/
def j_prep (V V1 : jH) (a k r p : Int) : Prop := V1 a 9 = k ∧ V1 a 10 = j_M r ∧ (∀ j : Int, j ≠ 9 → j ≠ 10 → V1 a j = V a j) ∧ ((k = 2 ∨ k = 3) → ∀ q : Int, 0 ≤ q → q < j_parts k → j_deal (j_count (j_rw V a p) (j_ofPart k q) (V (a + 2) p)) (j_M r) (j_rs (V1 (a + 21)) (256 * q))) ∧ (¬ (k = 2 ∨ k = 3) → ∀ i : Int, 0 ≤ i → i < 1024 → V1 (a + 21) i = j_M r / 256) ∧ ∀ c : Int, c ≠ a → c ≠ a + 19 → c ≠ a + 20 → c ≠ a + 21 → V1 c = V c
theorem j_prep_ok {V V1 : jH} {a k r p : Int} (k0 : 1 ≤ k) (k1 : k ≤ 4) (r0 : 8 ≤ r) (r1 : r ≤ 12) (p0 : 0 ≤ p) (p1 : p < 6) (hR : j_mR V (a + 1)) (h : j_prep V V1 a k r p) : j_rdl V1 a r ∧ ∀ x : Int, 0 ≤ x → x < V (a + 2) p → j_rf k r (j_rB (V1 (a + 21))) (j_rw V a p) x ≠ 0 := by
  obtain ⟨h1, h2, h3, h4, h5, h6⟩ := h
  have hm := j_M_bd r0 r1
  have h256 := j_M_256 r0 r1
  have pp := j_parts_bd k
  obtain ⟨n0, n1, hw⟩ := hR p p0 p1
  rw [show a + 1 + 1 = a + 2 by omega, show a + 1 + 2 = a + 3 by omega] at *
  have hw : ∀ i : Int, 0 ≤ i → i < V (a + 2) p → 0 ≤ j_rw V a p i ∧ j_rw V a p i < 256 := hw
  have dl : ∀ q : Int, 0 ≤ q → q < j_parts k → j_dl (j_rB (V1 (a + 21)) q) 0 (j_M r) ∧ (¬ (k = 2 ∨ k = 3) → ∀ s : Int, 0 ≤ s → s < 256 → 1 ≤ j_sh (j_rB (V1 (a + 21)) q) s) := fun q q0 q1 => by
    by_cases c : k = 2 ∨ k = 3
    · exact ⟨(j_deal_dl h256.1 (by omega) (h4 c q q0 q1)).1, fun z => absurd c z⟩
    · have e : ∀ s : Int, 0 ≤ s → s < 256 → j_rs (V1 (a + 21)) (256 * q) s = j_M r / 256 := fun s s0 s1 => h5 c _ (by omega) (by omega)
      have sh : ∀ s : Int, 0 ≤ s → s < 256 → j_sh (j_rB (V1 (a + 21)) q) s = j_M r / 256 := fun s s0 s1 => by unfold j_rB; rw [j_sh_pre _ s0]; exact e s s0 s1
      refine ⟨⟨rfl, ?_, fun s s0 s1 => by rw [sh s s0 s1]; omega⟩, fun _ s s0 s1 => by rw [sh s s0 s1]; omega⟩
      have := j_flat_pre (D := j_rs (V1 (a + 21)) (256 * q)) (e := j_M r / 256) 256 (fun s s0 s1 => e s s0 s1)
      rw [show (((256 : Nat) : Nat) : Int) = 256 from rfl] at this
      unfold j_rB
      rw [this]; exact h256.1
  refine ⟨⟨fun i i0 i1 => ?_, fun q q0 q1 => ?_, fun k4 s s0 s1 => ?_⟩, fun x x0 x1 => ?_⟩
  · rw [h1] at i1
    have d := (dl (i / 256) (by omega) (by omega)).1
    have s0 := d.2.2 (i % 256) (by omega) (by omega)
    have b1 := j_dl_bd d (Int.le_refl _) (i % 256 + 1) (by omega) (by omega)
    have b0 := j_dl_bd d (Int.le_refl _) (i % 256) (by omega) (by omega)
    have e : j_sh (j_rB (V1 (a + 21)) (i / 256)) (i % 256) = V1 (a + 21) i := by
      unfold j_rB
      rw [j_sh_pre _ (by omega)]
      show V1 (a + 21) (256 * (i / 256) + i % 256) = _
      rw [show 256 * (i / 256) + i % 256 = i by omega]
    have e2 : j_sh (j_rB (V1 (a + 21)) (i / 256)) (i % 256) = j_rB (V1 (a + 21)) (i / 256) (i % 256 + 1) - j_rB (V1 (a + 21)) (i / 256) (i % 256) := rfl
    omega
  · rw [h1] at q1; exact (dl q q0 q1).1
  · rw [h1] at k4; exact h5 (by omega) s s0 (by omega)
  · have hs := hw x x0 x1
    unfold j_rf j_D
    by_cases c4 : k = 4
    · rw [if_pos c4]
      have := (j_G_dl (w := j_rw V a p) r0 r1 x.toNat (fun i i0 i1 => hw i i0 (by omega))).2.2 _ hs.1 hs.2
      omega
    · rw [if_neg c4]
      by_cases c3 : k = 3
      · rw [if_pos c3]
        have pe : j_parts k = 4 := by unfold j_parts; rw [if_pos c3]
        have d3 := (j_deal_dl h256.1 (by omega) (h4 (Or.inr c3) (j_bef (j_rw V a p) x % 4) (by omega) (by omega))).2 _ hs.1 hs.2 (by
          have := j_count_pos (w := j_rw V a p) (part := j_ofPart k (j_bef (j_rw V a p) x % 4)) x0 x1 (by unfold j_ofPart; rw [if_pos c3]; exact Or.inr rfl)
          omega)
        have d3 : 1 ≤ j_sh (j_rB (V1 (a + 21)) (j_bef (j_rw V a p) x % 4)) (j_rw V a p x) := d3
        omega
      · rw [if_neg c3]
        by_cases c2 : k = 2
        · have d3 := (j_deal_dl h256.1 (by omega) (h4 (Or.inl c2) 0 (by omega) (by omega))).2 _ hs.1 hs.2 (by
            have := j_count_pos (w := j_rw V a p) (part := j_ofPart k 0) x0 x1 (by unfold j_ofPart; rw [if_neg c3]; exact Or.inl rfl)
            omega)
          have d3 : 1 ≤ j_sh (j_rB (V1 (a + 21)) 0) (j_rw V a p x) := d3
          omega
        · have := (dl 0 (by omega) (by omega)).2 (by omega) _ hs.1 hs.2
          omega
def j_rpa (V V' : jH) (a k r p la : Int) : Prop := ∃ V1 : jH, j_prep V V1 a k r p ∧ j_rdl V1 a r ∧ j_rpk V1 V' a p r la (-1) ∧ 0 ≤ V' a 20 ∧ V' a 20 ≤ 4400
theorem m13_35 (l : Launch) : M13_35 l 0 0 (fun a k r p la S V => j_L S ∧ 0 ≤ a ∧ 1 ≤ k ∧ k ≤ 4 ∧ 8 ≤ r ∧ r ≤ 12 ∧ 0 ≤ p ∧ p < 6 ∧ 1 ≤ la ∧ la ≤ 4 ∧ j_mR V (a + 1)) (fun a k r p la S V x S' V' => S' = S ∧ x = V' a 20 ∧ j_rpa V V' a k r p la) := by
  refine e13_35 ?_
  rintro C G h hrm hcs hl hn a k r p la S V ht ⟨L, a0, k0, k1, r0, r1, p0, p1, l0, l1, hR⟩ R
  have hm := j_M_bd r0 r1
  have eM : (2 : Int) ^ r.toNat = j_M r := rfl
  have fin : ∀ V1 : jH, j_prep V V1 a k r p → j_ok n_KT 6 C G 69 [(0, (2, a)), (2, (0, r)), (3, (0, p)), (4, (0, la))] [] S V1 0 0 := by
    intro V1 hp
    obtain ⟨rdl, nz⟩ := j_prep_ok k0 k1 r0 r1 p0 p1 hR hp
    have fr := hp.2.2.2.2.2
    have hR1 : j_mR V1 (a + 1) := j_mR_congr (fun p _ _ => by rw [fr _ (by omega) (by omega) (by omega) (by omega)]) (fun i _ _ => by rw [fr _ (by omega) (by omega) (by omega) (by omega)]) hR
    refine t13_35_69 h hrm ht (m13_27 C.2.1) ⟨L, a0, p0, p1, r0, r1, l0, l1, hR1, by rw [hp.1]; omega, by rw [hp.1]; exact k1, hp.2.1, rdl⟩ (Nat.zero_le _) (Nat.zero_le _) ?_
    rintro x S2 V2 ⟨e0, hP⟩
    subst e0
    have ew : j_rw V1 a p = j_rw V a p := by funext i; show V1 (a + 3) _ = V (a + 3) _; rw [fr _ (by omega) (by omega) (by omega) (by omega)]
    have en : V1 (a + 2) p = V (a + 2) p := by rw [fr _ (by omega) (by omega) (by omega) (by omega)]
    have hP' := hP
    obtain ⟨-, -, m, hms, hc⟩ := hP'
    rw [hp.1, ew, en] at hms
    rcases hms with ⟨em, _⟩ | ⟨m0, m1, m2, _⟩
    · rcases hc with ⟨z, _⟩ | ⟨_, ex, b0, b1, _⟩
      · omega
      · subst ex
        exact t13_35_77 h ht R ⟨rfl, rfl, V1, hp, rdl, hP, b0, b1⟩ (Nat.le_refl _) (Nat.le_refl _)
    · exact absurd m2 (nz m m0 m1)
  have va : ∀ j : Int, j ≠ 9 → j ≠ 10 → j_up (j_up V a 9 k) a 10 (j_M r) a j = V a j := fun j j0 j1 => by rw [j_up_off j1, j_up_off j0]
  have vc : ∀ c : Int, c ≠ a → j_up (j_up V a 9 k) a 10 (j_M r) c = V c := fun c hc => by rw [j_up_ne hc, j_up_ne hc]
  have v9 : j_up (j_up V a 9 k) a 10 (j_M r) a 9 = k := by rw [j_up_off (by decide), j_up_at]
  have v10 : j_up (j_up V a 9 k) a 10 (j_M r) a 10 = j_M r := j_up_at _ _ _ _
  rw [← eM] at va vc v9 v10
  have lrn : (k = 2 ∨ k = 3) → j_ok n_KT 6 C G 22 [(0, (2, a)), (1, (0, k)), (2, (0, r)), (3, (0, p)), (4, (0, la))] [] S (j_up (j_up V a 9 k) a 10 (2 ^ r.toNat)) 0 0 := by
    intro kk
    generalize j_up (j_up V a 9 k) a 10 (2 ^ r.toNat) = V1 at *
    refine t13_35_22 h L hrm ht (m13_17 C.2.1) ⟨L, a0, p0, p1, r0, r1, j_mR_congr (fun p _ _ => by rw [vc _ (by omega)]) (fun i _ _ => by rw [vc _ (by omega)]) hR, Or.inr ⟨rfl, rfl⟩⟩ (Nat.zero_le _) (Nat.zero_le _) ?_
    rintro S2 V2 ⟨e0, d1, d2, d3⟩
    subst e0
    refine t13_35_34 h (fin V2 ⟨by rw [d3 a (by omega) (by omega) (by omega)]; exact v9, by rw [d3 a (by omega) (by omega) (by omega)]; exact v10, fun j j0 j1 => by rw [d3 a (by omega) (by omega) (by omega)]; exact va j j0 j1, fun _ q q0 q1 => ?_, fun z => absurd kk z, fun c c0 c1 c2 c3 => by rw [d3 c c1 c2 c3]; exact vc c c0⟩)
    have d := d1 q q0 q1
    have ew : j_rw V1 a p = j_rw V a p := by funext i; show V1 (a + 3) _ = V (a + 3) _; rw [vc _ (by omega)]
    rw [ew, vc (a + 2) (by omega)] at d
    exact j_deal_shc (fun s _ _ => by show V2 (a + 21) (256 * q + s) = V2 (a + 21) (0 + 256 * q + s); rw [show 0 + 256 * q + s = 256 * q + s by omega]) d
  refine t13_35_0 h ht (by omega) (by omega) (fun z => lrn (Or.inl z)) (fun z => t13_35_17 h (fun z2 => ?_) (fun z2 => lrn (Or.inr z2)))
  generalize j_up (j_up V a 9 k) a 10 (2 ^ r.toNat) = V1 at *
  refine t13_35_37 h ?_
  have loop : ∀ (i : Int) (V2 : jH), (0 ≤ i ∧ i ≤ 1024 ∧ (∀ x : Int, 0 ≤ x → x < i → V2 (a + 21) x = j_M r / 256) ∧ ∀ c : Int, c ≠ a + 21 → V2 c = V1 c) → j_ok n_KT 6 C G 40 [(0, (2, a)), (2, (0, r)), (3, (0, p)), (4, (0, la)), (5, (0, i))] [] S V2 0 0 := by
    refine j_loop (N := 1024) (fun i V2 hi hI kk => ?_) (fun i V2 hi hI => ?_)
    · obtain ⟨i0, i1, g1, g2⟩ := hI
      have w10 : V2 a 10 = j_M r := by rw [g2 a (by omega)]; exact v10
      refine t13_35_40 h (fun y => absurd y (by omega)) (fun _ => ?_)
      refine t13_35_48 h L ht (by rw [w10]; omega) i0 hi (by omega) (kk _ ⟨(by omega), (by omega), fun x x0 x1 => ?_, fun c hc => by rw [j_up_ne hc]; exact g2 c hc⟩)
      by_cases e : x = i
      · rw [e, j_up_at, w10]
      · rw [j_up_off e]; exact g1 x x0 (by omega)
    · obtain ⟨i0, i1, g1, g2⟩ := hI
      have ei : i = 1024 := by omega
      rw [ei] at g1
      exact t13_35_40 h (fun _ => fin V2 ⟨by rw [g2 a (by omega)]; exact v9, by rw [g2 a (by omega)]; exact v10, fun j j0 j1 => by rw [g2 a (by omega)]; exact va j j0 j1, fun w => absurd w (by omega), fun _ => g1, fun c c0 c1 c2 c3 => by rw [g2 c c3]; exact vc c c0⟩) (fun y => absurd y (by omega))
  exact loop 0 V1 ⟨(by omega), (by omega), fun x x0 x1 => absurd x1 (by omega), fun _ _ => rfl⟩
/-- only the rows for work changed -/
def j_wkF (V V' : jH) (a : Int) : Prop := (∀ c : Int, c ≠ a → (c < a + 18 ∨ a + 30 < c) → V' c = V c) ∧ ∀ j : Int, (j = 2 ∨ j = 3 ∨ j = 4) → V' a j = V a j
theorem j_wkF.tr {V V1 V2 : jH} {a : Int} (h : j_wkF V V1 a) (h' : j_wkF V1 V2 a) : j_wkF V V2 a := ⟨fun c c0 c1 => (h'.1 c c0 c1).trans (h.1 c c0 c1), fun j hj => (h'.2 j hj).trans (h.2 j hj)⟩
theorem j_rpk_wk {V V' : jH} {a p r la x : Int} (h : j_rpk V V' a p r la x) : j_wkF V V' a := ⟨fun c c0 c1 => h.1 c c0 (by omega), fun j hj => h.2.1 j (by omega) (by omega) (by omega) (by omega)⟩
theorem j_rpa_wk {V V' : jH} {a k r p la : Int} (h : j_rpa V V' a k r p la) : j_wkF V V' a := by
  obtain ⟨V1, hp, -, hk, -⟩ := h
  have h1 : j_wkF V V1 a := ⟨fun c c0 c1 => hp.2.2.2.2.2 c c0 (by omega) (by omega) (by omega), fun j hj => hp.2.2.1 j (by omega) (by omega)⟩
  exact h1.tr (j_rpk_wk hk)
def j_r18 (a p : Int) (V : jH) (r : Int) (V' : jH) : Prop := (¬ (0 ≤ p ∧ p < 6) ∧ V' = j_md V a ∧ r = -1) ∨ (0 ≤ p ∧ p < 6 ∧ V (a + 2) p = 0 ∧ V' = j_md V a ∧ r = -7) ∨
  (0 ≤ p ∧ p < 6 ∧ V (a + 2) p ≠ 0 ∧ ∃ (k rr la : Int) (V1 V2 : jH), 1 ≤ k ∧ k ≤ 4 ∧ 8 ≤ rr ∧ rr ≤ 12 ∧ 1 ≤ la ∧ la ≤ 4 ∧ r = 1000 * k + 10 * rr + la ∧ j_wkF V V1 a ∧ j_rpa V1 V2 a k rr p la ∧ j_mkb V2 V' a)
theorem m13_34 (l : Launch) : M13_34 l 0 0 (fun a p S V => j_mI S V a) (fun a p S V r S' V' => S' = S ∧ j_r18 a p V r V') := by
  refine e13_34 ?_
  rintro C G h hrm hcs hl hn a p S V ht hI R
  obtain ⟨L, -, a0, ⟨hR, hS, hB⟩, hk, h2, h4, h3⟩ := id hI
  have F7 : ∀ {f : Int}, f < 0 → f < 0 ∧ -2147483648 ≤ V a 3 ∧ V a 3 < 2147483647 := fun hf => ⟨hf, j_mI_F hI⟩
  refine t13_34_0 h hrm (m13_4 C.2.1) trivial (Nat.zero_le _) (Nat.zero_le _) ?_
  rintro y S1 V1 ⟨e0, e1, hy⟩
  subst e0; subst e1
  refine t13_34_4 h (fun q => ?_) (fun q => (t13_34_7 h hrm ht (m13_2 C.2.1) (F7 (by decide)) (Nat.zero_le _) (Nat.zero_le _) (by rintro r9 S9 V9 ⟨e0, e9, er⟩; subst e0; subst e9; subst er; exact t13_34_12 h R (⟨rfl, Or.inl ⟨hy.n q, rfl, rfl⟩⟩) (Nat.zero_le _) (Nat.zero_le _))))
  obtain ⟨p0, p1⟩ := hy.y q
  refine t13_34_13 h L ht p0 p1 (fun z => ?_) (fun z => (t13_34_25 h hrm ht (m13_2 C.2.1) (F7 (by decide)) (Nat.zero_le _) (Nat.zero_le _) (by rintro r9 S9 V9 ⟨e0, e9, er⟩; subst e0; subst e9; subst er; exact t13_34_31 h R (⟨rfl, Or.inr (Or.inl ⟨p0, p1, z, rfl, rfl⟩)⟩) (Nat.zero_le _) (Nat.zero_le _))))
  have rows : ∀ {W : jH}, j_wkF V1 W a → j_mR W (a + 1) := fun {W} hW => j_mR_congr (fun p _ _ => by rw [hW.1 _ (by omega) (by omega)]) (fun i _ _ => by rw [hW.1 _ (by omega) (by omega)]) hR
  refine t13_34_32 h ?_
  have hKs : ∀ (k : Int) (z : Int × Int × jH), (1 ≤ k ∧ k ≤ 5 ∧ ((k = 1 ∧ z.2.1 = 4401) ∨ (j_way z.1 ∧ z.2.1 ≤ 4400)) ∧ j_wkF V1 z.2.2 a) → j_ok n_KT 8 C G 41 [(0, (2, a)), (1, (0, p)), (2, (0, z.1)), (3, (0, z.2.1)), (4, (0, k))] [] S1 z.2.2 0 0 := by
    refine j_loop (N := 5) (fun k z hk hI kk => ?_) (fun k z hk hI => ?_)
    · obtain ⟨x, f, V2⟩ := z
      obtain ⟨k0, k1, hx, hV⟩ := hI
      dsimp only at hx hV ⊢
      refine t13_34_41 h (fun q => absurd q (by omega)) (fun _ => t13_34_47 h ?_)
      have hRs : ∀ (r : Int) (z : Int × Int × jH), (8 ≤ r ∧ r ≤ 13 ∧ ((k = 1 ∧ r = 8 ∧ z.2.1 = 4401) ∨ (j_way z.1 ∧ z.2.1 ≤ 4400)) ∧ j_wkF V1 z.2.2 a) → j_ok n_KT 8 C G 51 [(0, (2, a)), (1, (0, p)), (2, (0, z.1)), (3, (0, z.2.1)), (4, (0, k)), (5, (0, r))] [] S1 z.2.2 0 0 := by
        refine j_loop (N := 13) (fun r z hr9 hI ll => ?_) (fun r z hr9 hI => ?_)
        · obtain ⟨x, f, V3⟩ := z
          obtain ⟨r0, r1, hx, hV⟩ := hI
          dsimp only at hx hV ⊢
          refine t13_34_51 h (fun q => absurd q (by omega)) (fun _ => t13_34_58 h ?_)
          have hLs : ∀ (la : Int) (z : Int × Int × jH), (1 ≤ la ∧ la ≤ 5 ∧ ((k = 1 ∧ r = 8 ∧ la = 1 ∧ z.2.1 = 4401) ∨ (j_way z.1 ∧ z.2.1 ≤ 4400)) ∧ j_wkF V1 z.2.2 a) → j_ok n_KT 8 C G 61 [(0, (2, a)), (1, (0, p)), (2, (0, z.1)), (3, (0, z.2.1)), (4, (0, k)), (5, (0, r)), (6, (0, la))] [] S1 z.2.2 0 0 := by
            refine j_loop (N := 5) (fun la z hl9 hI mm => ?_) (fun la z hl9 hI => ?_)
            · obtain ⟨x, f, V4⟩ := z
              obtain ⟨l0, l1, hx, hV⟩ := hI
              dsimp only at hx hV ⊢
              refine t13_34_61 h (fun q => absurd q (by omega)) (fun _ => ?_)
              refine t13_34_67 h hrm ht (m13_35 C.2.1) ⟨L, a0, k0, (by omega), r0, (by omega), p0, p1, l0, (by omega), rows hV⟩ (Nat.zero_le _) (Nat.zero_le _) ?_
              rintro sz S5 V5 ⟨e0, esz, hp⟩
              subst e0
              have hV5 := hV.tr (j_rpa_wk hp)
              obtain ⟨W, -, -, -, b0, b1⟩ := hp
              refine t13_34_78 h (fun q => ?_) (fun q => ?_)
              · exact t13_34_89 h (by omega) (by omega) (by omega) (by omega) (t13_34_108 h (by omega) (mm (1000 * k + 10 * r + la, sz, V5) ⟨(by omega), (by omega), Or.inr ⟨⟨k, r, la, k0, (by omega), r0, (by omega), l0, (by omega), rfl⟩, by show sz ≤ 4400; omega⟩, hV5⟩))
              · refine t13_34_86 h (t13_34_108 h (by omega) (mm (x, f, V5) ⟨(by omega), (by omega), ?_, hV5⟩))
                rcases hx with ⟨_, _, _, z⟩ | z
                · omega
                · exact Or.inr z
            · obtain ⟨x, f, V4⟩ := z
              obtain ⟨l0, l1, hx, hV⟩ := hI
              dsimp only at hx hV ⊢
              refine t13_34_61 h (fun _ => t13_34_114 h (by omega) (ll (x, f, V4) ⟨(by omega), (by omega), ?_, hV⟩)) (fun q => absurd q (by omega))
              rcases hx with ⟨_, _, z, _⟩ | z
              · omega
              · exact Or.inr z
          refine hLs 1 (x, f, V3) ⟨(by omega), (by omega), ?_, hV⟩
          rcases hx with ⟨z1, z2, z3⟩ | z
          · exact Or.inl ⟨z1, z2, rfl, z3⟩
          · exact Or.inr z
        · obtain ⟨x, f, V3⟩ := z
          obtain ⟨r0, r1, hx, hV⟩ := hI
          dsimp only at hx hV ⊢
          refine t13_34_51 h (fun _ => t13_34_120 h (by omega) (kk (x, f, V3) ⟨(by omega), (by omega), ?_, hV⟩)) (fun q => absurd q (by omega))
          rcases hx with ⟨_, z, _⟩ | z
          · omega
          · exact Or.inr z
      refine hRs 8 (x, f, V2) ⟨(by omega), (by omega), ?_, hV⟩
      rcases hx with ⟨z1, z2⟩ | z
      · exact Or.inl ⟨z1, rfl, z2⟩
      · exact Or.inr z
    · obtain ⟨x, f, V2⟩ := z
      obtain ⟨k0, k1, hx, hV⟩ := hI
      dsimp only at hx hV ⊢
      obtain ⟨kk, rr, la, q1, q2, q3, q4, q5, q6, ex⟩ : j_way x := by
        rcases hx with ⟨z, _⟩ | z
        · omega
        · exact z.1
      have x1 : x / 1000 = kk := by omega
      have x2 : x / 10 % 100 = rr := by omega
      have x3 : x % 10 = la := by omega
      refine t13_34_41 h (fun _ => ?_) (fun q => absurd q (by omega))
      refine t13_34_126 h hrm (by omega) (by omega) ht (m13_35 C.2.1) ⟨L, a0, by rw [x1]; exact q1, by rw [x1]; exact q2, by rw [x2]; exact q3, by rw [x2]; exact q4, p0, p1, by rw [x3]; exact q5, by rw [x3]; exact q6, rows hV⟩ (Nat.zero_le _) (Nat.zero_le _) ?_
      rw [x1, x2, x3]
      rintro sz S5 V5 ⟨e0, esz, hp⟩
      subst e0
      have b : 0 ≤ V5 a 20 ∧ V5 a 20 ≤ 4400 := by
        obtain ⟨W, -, -, -, b0, b1⟩ := hp
        exact ⟨b0, b1⟩
      refine t13_34_147 h hrm ht (m13_31 C.2.1) ⟨L, a0, b.1, b.2⟩ (Nat.zero_le _) (Nat.zero_le _) ?_
      rintro y6 S6 V6 ⟨e0, er, hm⟩
      subst e0
      exact t13_34_152 h R ⟨rfl, Or.inr (Or.inr ⟨p0, p1, z, kk, rr, la, V2, V5, q1, q2, q3, q4, q5, q6, ex, hV, hp, hm⟩)⟩ (Nat.le_refl _) (Nat.le_refl _)
  exact hKs 1 (0, 4401, V1) ⟨(by omega), (by omega), Or.inl ⟨rfl, rfl⟩, ⟨fun _ _ _ => rfl, fun _ _ => rfl⟩⟩
