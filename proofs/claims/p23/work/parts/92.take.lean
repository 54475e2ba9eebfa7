/-! THE CLASS: taking the block -/
theorem j_rd_wb {f : Int → Int} {len p wr size least most : Int} (h1 : p ≤ len) (hw : wr ≤ len) : (j_rd f len p wr size least most).2.2 ≤ len := by
  unfold j_rd
  split
  · exact hw
  · split
    · exact Int.le_refl _
    · split
      · exact h1
      · exact hw
theorem j_rdL_wb {f : Int → Int} {len w p wr M : Int} (h0 : 0 ≤ p) (h1 : p ≤ len) (hw : wr ≤ len) : ∀ n : Nat, (j_rdL f len w p wr M n).2.1 ≤ len
  | 0 => hw
  | n + 1 => by
    have ih := j_rdL_wb (f := f) (w := w) (M := M) h0 h1 hw n
    have al := j_rdL_al (f := f) (w := w) (wr := wr) (M := M) h0 h1 n
    have a := j_rd_al (f := f) (wr := (j_rdL f len w p wr M n).2.1) (size := 1) (least := (j_rdL f len w p wr M n).2.2.2.1 + 1) (most := 255) (by omega) al.1 al.2
    have b := j_rd_wb (f := f) (size := 1) (least := (j_rdL f len w p wr M n).2.2.2.1 + 1) (most := 255) al.2 ih
    rw [j_rdL]
    unfold j_rdL1
    split
    · exact ih
    · split
      · exact j_rd_wb a.2 b
      · exact j_rd_wb a.2 b
theorem j_rdD_wb {f : Int → Int} {len p wr M : Int} (h0 : 0 ≤ p) (h1 : p ≤ len) (hw : wr ≤ len) : (j_rdD f len p wr M).2.1 ≤ len := by
  have a := j_rd_al (f := f) (wr := wr) (size := 2) (least := 1) (most := 256) (by omega) h0 h1
  exact j_rdL_wb a.1 a.2 (j_rd_wb h1 hw) _
theorem j_rdP_wb {f : Int → Int} {len p wr M : Int} (h0 : 0 ≤ p) (h1 : p ≤ len) (hw : wr ≤ len) : ∀ n : Nat, (j_rdP f len p wr M n).2.1 ≤ len
  | 0 => hw
  | n + 1 => by
    have ih := j_rdP_wb (f := f) (M := M) h0 h1 hw n
    have al := j_rdP_al (f := f) (wr := wr) (M := M) h0 h1 n
    rw [j_rdP]
    split
    · exact ih
    · exact j_rdD_wb al.1 al.2 ih
theorem j_rdX_wb {f : Int → Int} {len M p wr : Int} (h0 : 0 ≤ p) (h1 : p ≤ len) (hw : wr ≤ len) : ∀ n : Nat, (j_rdX f len M p wr n).2.2 ≤ len
  | 0 => hw
  | n + 1 => j_rd_wb (j_rdX_al h0 h1 n).2 (j_rdX_wb h0 h1 hw n)
theorem j_h4_al {f : Int → Int} {len : Int} (hl : 0 ≤ len) : 0 ≤ (j_h4 f len).2.1 ∧ (j_h4 f len).2.1 ≤ len ∧ (j_h4 f len).2.2 ≤ len := by
  have a1 := j_rd_al (f := f) (len := len) (p := 0) (wr := -1) (size := 1) (least := 0) (most := 4) (by omega) (by omega) hl
  have b1 := j_rd_wb (f := f) (len := len) (p := 0) (wr := -1) (size := 1) (least := 0) (most := 4) hl (by omega)
  have a2 := j_rd_al (f := f) (len := len) (wr := (j_h1 f len).2.2) (size := 1) (least := 8) (most := 12) (by omega) a1.1 a1.2
  have b2 := j_rd_wb (f := f) (len := len) (size := 1) (least := 8) (most := 12) a1.2 b1
  have a3 := j_rd_al (f := f) (len := len) (wr := (j_h2 f len).2.2) (size := 1) (least := 1) (most := 4) (by omega) a2.1 a2.2
  have b3 := j_rd_wb (f := f) (len := len) (size := 1) (least := 1) (most := 4) a2.2 b2
  have a4 := j_rd_al (f := f) (len := len) (wr := (j_h3 f len).2.2) (size := 2) (least := 0) (most := 400) (by omega) a3.1 a3.2
  have b4 := j_rd_wb (f := f) (len := len) (size := 2) (least := 0) (most := 400) a3.2 b3
  exact ⟨a4.1, a4.2, b4⟩
theorem j_hP_al {f : Int → Int} {len : Int} (hl : 0 ≤ len) : 0 ≤ (j_hP f len).1 ∧ (j_hP f len).1 ≤ len ∧ (j_hP f len).2.1 ≤ len := by
  obtain ⟨a1, a2, a3⟩ := j_h4_al (f := f) hl
  unfold j_hP
  split
  · exact ⟨(j_rdP_al a1 a2 _).1, (j_rdP_al a1 a2 _).2, j_rdP_wb a1 a2 a3 _⟩
  · exact ⟨a1, a2, a3⟩
theorem j_hC_wb {f : Int → Int} {len : Int} (hl : 0 ≤ len) : (j_hC f len).2 ≤ len := by
  obtain ⟨a1, a2, a3⟩ := j_hP_al (f := f) hl
  have x1 := j_rdX_al (f := f) (M := j_M (j_h2 f len).1) (wr := (j_hP f len).2.1) a1 a2 (j_h3 f len).1.toNat
  have x2 := j_rdX_wb (f := f) (M := j_M (j_h2 f len).1) (wr := (j_hP f len).2.1) a1 a2 a3 (j_h3 f len).1.toNat
  have x1 : 0 ≤ (j_hX f len).2.1 ∧ (j_hX f len).2.1 ≤ len := x1
  have x2 : (j_hX f len).2.2 ≤ len := x2
  have s1 := j_rdS_al (f := f) (wr := (j_hX f len).2.2) hl x1.1 x1.2
  have s2 : (j_hS f len).2.2 ≤ len := by
    unfold j_hS j_rdS
    split
    · exact x1.2
    · exact j_rd_wb x1.2 x2
  have s1 : 0 ≤ (j_hS f len).2.1 ∧ (j_hS f len).2.1 ≤ len ∧ 0 ≤ (j_hS f len).1 ∧ (j_hS f len).1 ≤ 65535 ∧ ((j_hS f len).2.2 < 0 → (j_hX f len).2.2 < 0 ∧ (j_hS f len).2.1 + (j_hS f len).1 + 2 = len) := s1
  unfold j_hC j_rdC
  split
  · exact s2
  · have := s1.2.2.2.2 (by omega)
    exact j_rd_wb (by omega) s2
/-- the first wrong place of a block is sought -/
def j_fw (a b e : Int) (V : jH) (r : Int) (V' : jH) : Prop := (∀ c : Int, c ≠ a → (c < e ∨ e + 21 < c) → V' c = V c) ∧
  ((0 ≤ (j_h4 (V (b + 1)) (V b 1)).2.2 ∧ r = (j_h4 (V (b + 1)) (V b 1)).2.2) ∨ ((j_h4 (V (b + 1)) (V b 1)).2.2 < 0 ∧ 0 ≤ (j_hC (V (b + 1)) (V b 1)).2 ∧ r = (j_hC (V (b + 1)) (V b 1)).2) ∨
  ((j_h4 (V (b + 1)) (V b 1)).2.2 < 0 ∧ (j_hC (V (b + 1)) (V b 1)).2 < 0 ∧ ∃ V1 : jH, j_before V V1 b e ∧
    ((r < 0 ∧ j_takes V1 e b (j_h3 (V (b + 1)) (V b 1)).1 (j_hS (V (b + 1)) (V b 1)).2.1 (j_hS (V (b + 1)) (V b 1)).1 (j_h4 (V (b + 1)) (V b 1)).1 ∧ j_tkI V1 e b (j_h3 (V (b + 1)) (V b 1)).1 (j_hS (V (b + 1)) (V b 1)).2.1 (j_hS (V (b + 1)) (V b 1)).1 (j_h4 (V (b + 1)) (V b 1)).1 V' ∧ V' (e + 14) 5 = (j_h4 (V (b + 1)) (V b 1)).1 ∧ V' (e + 1) = V1 (e + 1)) ∨
     (¬ j_takes V1 e b (j_h3 (V (b + 1)) (V b 1)).1 (j_hS (V (b + 1)) (V b 1)).2.1 (j_hS (V (b + 1)) (V b 1)).1 (j_h4 (V (b + 1)) (V b 1)).1 ∧ r = (j_hP (V (b + 1)) (V b 1)).1))))
theorem j_fw_le {a b e : Int} {V V' : jH} {r : Int} (hl : 0 ≤ V b 1) (h : j_fw a b e V r V') : r ≤ V b 1 := by
  obtain ⟨-, ⟨q1, q2⟩ | ⟨q1, q2, q3⟩ | ⟨q1, q2, V1, q3, ⟨q4, -⟩ | ⟨-, q4⟩⟩⟩ := h
  · rw [q2]; exact (j_h4_al hl).2.2
  · rw [q3]; exact j_hC_wb hl
  · omega
  · rw [q4]; exact (j_hP_al hl).2.1
theorem j_fw_rt {a b e : Int} {V V' : jH} {r : Int} (hb : j_blkOK V b) (hr : r < 0) (h : j_fw a b e V r V') : 0 ≤ V' (e + 14) 5 ∧ V' (e + 14) 5 ≤ 400 ∧ ∀ i : Int, 0 ≤ i → i < V' (e + 14) 5 → 0 ≤ V' (e + 15) i ∧ V' (e + 15) i < 256 := by
  obtain ⟨-, ⟨q1, q2⟩ | ⟨q1, q2, q3⟩ | ⟨q1, q2, V1, q3, ⟨q4, q5, q6, q7, q8⟩ | ⟨-, q4⟩⟩⟩ := h
  · omega
  · omega
  · have a1 := j_rd_al (f := V (b + 1)) (len := V b 1) (p := 0) (wr := -1) (size := 1) (least := 0) (most := 4) (by omega) (by omega) hb.1
    have a2 := j_rd_al (f := V (b + 1)) (len := V b 1) (wr := (j_h1 (V (b + 1)) (V b 1)).2.2) (size := 1) (least := 8) (most := 12) (by omega) a1.1 a1.2
    have a3 := j_rd_al (f := V (b + 1)) (len := V b 1) (wr := (j_h2 (V (b + 1)) (V b 1)).2.2) (size := 1) (least := 1) (most := 4) (by omega) a2.1 a2.2
    have ok := j_rd_ok (f := V (b + 1)) (len := V b 1) (p := (j_h3 (V (b + 1)) (V b 1)).2.1) (wr := (j_h3 (V (b + 1)) (V b 1)).2.2) (size := 2) (least := 0) (most := 400) hb.1 (fun _ => a3) q1
    have en : (j_h4 (V (b + 1)) (V b 1)).1 = j_val (V (b + 1)) (j_h3 (V (b + 1)) (V b 1)).2.1 (2 : Int).toNat := congrArg Prod.fst ok.2.2.1
    obtain ⟨X, u, w, t1, t2, t3, t4, t5, t6, t7, t8, t9, t10⟩ := q6
    rw [q7]
    refine ⟨by rw [en]; exact ok.2.2.2.1, by rw [en]; exact ok.2.2.2.2, fun i i0 i1 => ?_⟩
    rw [(t10 i i0 i1).1]
    exact t4 i i0 i1
  · have := (j_hP_al (f := V (b + 1)) hb.1).1
    omega
def j_q14 (a p : Int) (V : jH) (r : Int) (V' : jH) : Prop := (¬ (0 ≤ p ∧ p < 6) ∧ V' = j_fd V a ∧ r = -1) ∨ (0 ≤ p ∧ p < 6 ∧ ∃ (x : Int) (V1 : jH), j_fw (a + 240) (a + 16) (a + 200) V x V1 ∧ ((0 ≤ x ∧ V' = j_fd V1 a ∧ r = -100 - x) ∨
  (x < 0 ∧ r = V1 (a + 214) 5 ∧ V' (a + 3 + 2 * p) 1 = V1 (a + 214) 5 ∧ (∀ i : Int, 0 ≤ i → i < V1 (a + 214) 5 → V' (a + 4 + 2 * p) i = V1 (a + 215) i) ∧ V' (a + 16) 2 = 1 ∧ (∀ j : Int, j ≠ 2 → V' (a + 16) j = V1 (a + 16) j) ∧ j_stepsEq V1 V' (a + 18) (a + 214) ∧ ∀ c : Int, c ≠ a + 3 + 2 * p → c ≠ a + 4 + 2 * p → c ≠ a + 16 → (c < a + 18 ∨ a + 23 < c) → V' c = V1 c)))
theorem m1_14 (l : Launch) : M1_14 l 0 0 (fun a p S V => j_cI S V a) (fun a p S V r S' V' => S' = S ∧ j_q14 a p V r V') := by
  refine e1_14 ?_
  rintro C G h hrm hcs hl hn a p S V ht hI R
  obtain ⟨L, -, a0, hw, hk, hd, h6, h7⟩ := id hI
  have F7 := j_cI_F7 hI
  have hb := j_bI_a hw.2.2.2
  have kb := j_bk L ht
  refine t1_14_0 h hrm ht (m1_29 C.2.1) L (Nat.zero_le _) (Nat.zero_le _) ?_
  rintro b S1 V1 ⟨e0, e1, er⟩
  subst e0; subst e1; subst er
  refine t1_14_5 h (fun q _ => ?_) (fun q => (t1_14_10 h hrm ht (m1_27 C.2.1) F7 (Nat.zero_le _) (Nat.zero_le _) (by rintro r9 S9 V9 ⟨e0, e9, er⟩; subst e0; subst e9; subst er; exact t1_14_15 h R (⟨rfl, Or.inl ⟨j_rowN_n a0 q, rfl, rfl⟩⟩) (Nat.zero_le _) (Nat.zero_le _))))
  obtain ⟨p0, p1, ep, kr⟩ := j_rowN_k L ht q
  rw [ep]
  have ke : S1.1 (a + 200) = 21 := L10_2k L ht
  have k14 : S1.1 (a + 214) = 28 := by have := L0_2k L ke; rw [show a + 200 + 14 = a + 214 by omega] at this; exact this
  refine t1_14_16 h L hrm ht (m7_2 C.2.1) ⟨L, kb.1, ke, hb.1⟩ (Nat.zero_le _) (Nat.zero_le _) ?_
  rintro x S2 V2 ⟨e0, hF⟩
  subst e0
  have hF : j_fw (a + 240) (a + 16) (a + 200) V1 x V2 := hF
  have xl := j_fw_le hb.1.1 hF
  have hl1 := hb.1.2.1
  refine t1_14_34 h (fun z => ?_) (fun z => ?_)
  · obtain ⟨n0, n1, hs⟩ := j_fw_rt hb.1 z hF
    rw [show a + 200 + 14 = a + 214 by omega] at n0 n1 hs
    refine t1_14_48 h L hrm ht (m3_5 C.2.1) ⟨L, k14, n0, n1⟩ (Nat.zero_le _) (Nat.zero_le _) ?_
    rintro S3 V3 ⟨e0, e3⟩
    subst e0
    rw [show a + 16 + 2 = a + 18 by omega] at e3
    obtain ⟨s1, s3, s4⟩ := j_stepsBe_at (V := j_up V2 (a + 16) 2 1) (a := a + 18) (o := a + 214) (by omega)
    rw [← e3] at s1 s3 s4
    have c14 : V3 (a + 214) = V2 (a + 214) := (s3 _ (by omega)).trans (j_up_ne (by omega))
    have c15 : V3 (a + 215) = V2 (a + 215) := (s3 _ (by omega)).trans (j_up_ne (by omega))
    refine t1_14_65 h L hrm ht kr (m8_4 C.2.1) ⟨L, k14, by rw [c14]; exact n0, by rw [c14]; exact n1⟩ (Nat.zero_le _) (Nat.zero_le _) ?_
    rintro S4 V4 ⟨e0, e4⟩
    subst e0
    rw [show a + 214 + 1 = a + 215 by omega, show a + 3 + 2 * p + 1 = a + 4 + 2 * p by omega, c14, j_cpy_ne (show a + 214 ≠ a + 4 + 2 * p by omega), c14] at e4
    have f4 : ∀ c : Int, c ≠ a + 3 + 2 * p → c ≠ a + 4 + 2 * p → V4 c = V3 c := fun c c0 c1 => by rw [e4, j_up_ne c0, j_cpy_ne c1]
    have r4 : V4 (a + 3 + 2 * p) 1 = V2 (a + 214) 5 := by rw [e4, j_up_at]
    have s1' : j_stepsEq V2 V3 (a + 18) (a + 214) := by
      unfold j_stepsEq at s1 ⊢
      rw [j_up_ne (show a + 214 ≠ a + 16 by omega)] at s1
      exact ⟨s1.1, fun q i q0 q1 i0 i1 => by rw [s1.2 q i q0 q1 i0 i1, j_up_ne (by omega)]⟩
    refine t1_14_76 h kr R ⟨rfl, Or.inr ⟨p0, p1, x, V2, hF, Or.inr ⟨z, r4, r4, fun i i0 i1 => ?_, ?_, fun j hj => ?_, ?_, fun c c0 c1 c2 c3 => ?_⟩⟩⟩ (Nat.le_refl _) (Nat.le_refl _)
    · rw [e4, j_up_ne (by omega), j_cpy_in i0 i1, c15]
    · rw [f4 _ (by omega) (by omega), s3 _ (by omega), j_up_at]
    · rw [f4 _ (by omega) (by omega), s3 _ (by omega), j_up_off hj]
    · exact ⟨by rw [f4 _ (by omega) (by omega)]; exact s1'.1, fun q i q0 q1 i0 i1 => by rw [f4 _ (by omega) (by omega)]; exact s1'.2 q i q0 q1 i0 i1⟩
    · rw [f4 c c0 c1, s3 c (by omega), j_up_ne c2]
  · have ea : V2 a = V1 a := hF.1 a (by omega) (by omega)
    have F8 : -2147483648 ≤ V2 a 7 ∧ V2 a 7 < 2147483647 := by rw [ea]; exact F7
    refine t1_14_39 h hrm (by omega) ht (m1_27 C.2.1) F8 (Nat.zero_le _) (Nat.zero_le _) ?_
    rintro y S9 V9 ⟨e0, e9, er⟩
    subst e0
    exact t1_14_47 h R ⟨rfl, Or.inr ⟨p0, p1, x, V2, hF, Or.inl ⟨z, e9, er⟩⟩⟩ (Nat.zero_le _) (Nat.zero_le _)
