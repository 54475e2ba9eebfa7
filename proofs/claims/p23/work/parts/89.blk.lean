/-! THE CLASS: the block from outside; steps, marks, numbers that wait -/
theorem j_bk {S : jS} (L : j_L S) {a : Int} (ht : S.1 a = 31) : S.1 (a + 16) = 22 ∧ S.1 (a + 18) = 28 := by
  have h1 := L9_3k L (L10_0k L ht)
  rw [show a + 1 + 15 = a + 16 by omega] at h1
  have h2 := L1_3k L h1
  rw [show a + 16 + 2 = a + 18 by omega] at h2
  exact ⟨h1, h2⟩
theorem j_bI_a {V : jH} {a : Int} (h : j_bI V (a + 1)) : j_blkOK V (a + 16) ∧ 0 ≤ V (a + 16) 2 ∧ V (a + 16) 2 ≤ 1 ∧ 0 ≤ V (a + 18) 5 ∧ V (a + 18) 5 ≤ 400 ∧ 0 ≤ V (a + 16) 4 ∧ V (a + 16) 4 ≤ 400 := by
  unfold j_bI at h
  rw [show a + 1 + 15 = a + 16 by omega, show a + 1 + 17 = a + 18 by omega] at h
  exact h
def j_q15 (a i : Int) (V : jH) (r : Int) (V' : jH) : Prop := (¬ (-1 ≤ i ∧ i < V (a + 16) 1) ∧ V' = j_fd V a ∧ r = -1) ∨ (-1 ≤ i ∧ i < V (a + 16) 1 ∧ V' = V ∧ r = if i = -1 then V (a + 16) 1 else V (a + 17) i)
theorem m1_15 (l : Launch) : M1_15 l 0 0 (fun a i S V => j_cI S V a) (fun a i S V r S' V' => S' = S ∧ j_q15 a i V r V') := by
  refine e1_15 ?_
  rintro C G h hrm hcs hl hn a i S V ht hI R
  obtain ⟨L, -, a0, hw, hk, hd, h6, h7⟩ := id hI
  have F7 := j_cI_F7 hI
  have hb := j_bI_a hw.2.2.2
  have kb := j_bk L ht
  have hb1 := hb.1.2.1
  have no : ¬ (-1 ≤ i ∧ i < V (a + 16) 1) → j_ok n_KT 3 C G 21 [(0, (2, a))] [] S V 0 0 := fun q => (t1_15_21 h hrm ht (m1_27 C.2.1) F7 (Nat.zero_le _) (Nat.zero_le _) (by rintro r9 S9 V9 ⟨e0, e9, er⟩; subst e0; subst e9; subst er; exact t1_15_26 h R (⟨rfl, Or.inl ⟨q, rfl, rfl⟩⟩) (Nat.zero_le _) (Nat.zero_le _)))
  refine t1_15_0 h L ht (fun q => no (by omega)) (fun i0 => t1_15_13 h kb.1 (fun i1 => ?_) (fun q => no (by omega)))
  refine t1_15_27 h (fun q => ?_) (fun q => ?_)
  · exact t1_15_39 h L kb.1 (by omega) (by omega) (t1_15_45 h R ⟨rfl, Or.inr ⟨i0, i1, rfl, by rw [if_neg q, show a + 16 + 1 = a + 17 by omega]⟩⟩ (Nat.le_refl _) (Nat.le_refl _))
  · exact t1_15_32 h kb.1 (t1_15_45 h R ⟨rfl, Or.inr ⟨i0, i1, rfl, by rw [if_pos q]⟩⟩ (Nat.le_refl _) (Nat.le_refl _))
def j_q16 (a i m : Int) (V : jH) (r : Int) (V' : jH) : Prop := (¬ (0 ≤ i ∧ i < V (a + 16) 1 ∧ 0 ≤ m ∧ m ≤ 255) ∧ V' = j_fd V a ∧ r = -1) ∨ (0 ≤ i ∧ i < V (a + 16) 1 ∧ 0 ≤ m ∧ m ≤ 255 ∧ r = j_xor (V (a + 17) i) m ∧ V' = j_up (j_up (j_up V (a + 17) i (j_xor (V (a + 17) i) m)) (a + 16) 2 0) (a + 16) 4 0)
theorem m1_16 (l : Launch) : M1_16 l 0 0 (fun a i m S V => j_cI S V a) (fun a i m S V r S' V' => S' = S ∧ j_q16 a i m V r V') := by
  refine e1_16 ?_
  rintro C G h hrm hcs hl hn a i m S V ht hI R
  obtain ⟨L, -, a0, hw, hk, hd, h6, h7⟩ := id hI
  have F7 := j_cI_F7 hI
  have hb := j_bI_a hw.2.2.2
  have kb := j_bk L ht
  have hb1 := hb.1.2.1
  have e17 : a + 16 + 1 = a + 17 := by omega
  have no : ¬ (0 ≤ i ∧ i < V (a + 16) 1 ∧ 0 ≤ m ∧ m ≤ 255) → j_ok n_KT 4 C G 31 [(0, (2, a))] [] S V 0 0 := fun q => (t1_16_31 h hrm ht (m1_27 C.2.1) F7 (Nat.zero_le _) (Nat.zero_le _) (by rintro r9 S9 V9 ⟨e0, e9, er⟩; subst e0; subst e9; subst er; exact t1_16_36 h R (⟨rfl, Or.inl ⟨q, rfl, rfl⟩⟩) (Nat.zero_le _) (Nat.zero_le _)))
  refine t1_16_0 h L ht (fun q => no (by omega)) (fun i0 => t1_16_12 h kb.1 (fun q => no (by omega)) (fun i1 => t1_16_20 h (fun q => no (by omega)) (fun m0 => t1_16_24 h (fun m1 => ?_) (fun q => no (by omega)))))
  have hy := hb.1.2.2 i i0 i1
  refine t1_16_37 h L hrm kb.1 i0 (by omega) hy.1 m0 (m3_4 C.2.1) trivial (Nat.zero_le _) (Nat.zero_le _) ?_
  rintro S1 V1 ⟨e0, e1⟩
  subst e0
  rw [e17] at e1
  refine t1_16_51 h L kb.1 i0 (by omega) R ⟨rfl, Or.inr ⟨i0, i1, m0, m1, ?_, e1⟩⟩ (Nat.le_refl _) (Nat.le_refl _)
  rw [e17, e1, j_up_ne (by omega), j_up_ne (by omega), j_up_at]
def j_q17 (a w n : Int) (V : jH) (r : Int) (V' : jH) : Prop := (¬ (-400 ≤ n ∧ n ≤ 8 ∧ n ≠ 0 ∧ -(V (a + 16) 1) ≤ n) ∧ V' = j_fd V a ∧ r = -1) ∨ (-400 ≤ n ∧ n ≤ 8 ∧ n ≠ 0 ∧ -(V (a + 16) 1) ≤ n ∧ 4400 < V (a + 16) 1 + n ∧ V' = j_fd V a ∧ r = -2) ∨
  (-400 ≤ n ∧ n ≤ 8 ∧ n ≠ 0 ∧ -(V (a + 16) 1) ≤ n ∧ V (a + 16) 1 + n ≤ 4400 ∧ r = V (a + 16) 1 + n ∧ V' (a + 16) 1 = V (a + 16) 1 + n ∧ V' (a + 16) 2 = 0 ∧ V' (a + 16) 4 = 0 ∧ (∀ i : Int, 0 ≤ i → i < V (a + 16) 1 → i < V (a + 16) 1 + n → V' (a + 17) i = V (a + 17) i) ∧ (∀ i : Int, 0 ≤ i → i < n → V' (a + 17) (V (a + 16) 1 + i) = j_byte w (n - 1 - i)) ∧ ∀ c : Int, c ≠ a + 16 → c ≠ a + 17 → V' c = V c)
theorem j_B_at {V : jH} {a i : Int} (i0 : 0 ≤ i) (i1 : i < V a 1) : (j_B V a)[i.toNat]? = some (V (a + 1) i) := by
  unfold j_B
  rw [List.getElem?_map, List.getElem?_range (by omega)]
  show some (V (a + 1) ((i.toNat : Nat) : Int)) = _
  rw [show ((i.toNat : Nat) : Int) = i by omega]
theorem m1_17 (l : Launch) : M1_17 l 0 0 (fun a w n S V => j_cI S V a) (fun a w n S V r S' V' => S' = S ∧ j_q17 a w n V r V') := by
  refine e1_17 ?_
  rintro C G h hrm hcs hl hn a w n S V ht hI R
  obtain ⟨L, -, a0, hw, hk, hd, h6, h7⟩ := id hI
  have F7 := j_cI_F7 hI
  have hb := j_bI_a hw.2.2.2
  have kb := j_bk L ht
  have hb0 := hb.1.1
  have hb1 := hb.1.2.1
  have e17 : a + 16 + 1 = a + 17 := by omega
  have no : ¬ (-400 ≤ n ∧ n ≤ 8 ∧ n ≠ 0 ∧ -(V (a + 16) 1) ≤ n) → j_ok n_KT 6 C G 36 [(0, (2, a))] [] S V 0 0 := fun q => (t1_17_36 h hrm ht (m1_27 C.2.1) F7 (Nat.zero_le _) (Nat.zero_le _) (by rintro r9 S9 V9 ⟨e0, e9, er⟩; subst e0; subst e9; subst er; exact t1_17_41 h R (⟨rfl, Or.inl ⟨q, rfl, rfl⟩⟩) (Nat.zero_le _) (Nat.zero_le _)))
  refine t1_17_0 h L ht (fun q => no (by omega)) (fun n0 => t1_17_16 h (fun q => no (by omega)) (fun n1 => t1_17_20 h (fun q => no (by omega)) (fun n2 => t1_17_26 h kb.1 (by omega) (fun n3 => ?_) (fun q => no (by omega)))))
  refine t1_17_42 h kb.1 (by omega) (fun n4 => ?_) (fun q => (t1_17_55 h hrm ht (m1_27 C.2.1) F7 (Nat.zero_le _) (Nat.zero_le _) (by rintro r9 S9 V9 ⟨e0, e9, er⟩; subst e0; subst e9; subst er; exact t1_17_61 h R (⟨rfl, Or.inr (Or.inl ⟨n0, n2, n1, n3, by omega, rfl, rfl⟩)⟩) (Nat.zero_le _) (Nat.zero_le _))))
  have fin : ∀ V2 : jH, V2 (a + 16) 1 = V (a + 16) 1 + n → (∀ i : Int, 0 ≤ i → i < V (a + 16) 1 → i < V (a + 16) 1 + n → V2 (a + 17) i = V (a + 17) i) → (∀ i : Int, 0 ≤ i → i < n → V2 (a + 17) (V (a + 16) 1 + i) = j_byte w (n - 1 - i)) → (∀ c : Int, c ≠ a + 16 → c ≠ a + 17 → V2 c = V c) → j_ok n_KT 6 C G 105 [(4, (2, a + 16))] [] S V2 0 0 := by
    intro V2 g1 g2 g3 g4
    refine t1_17_105 h hrm kb.1 (m3_4 C.2.1) trivial (Nat.zero_le _) (Nat.zero_le _) ?_
    rintro S3 V3 ⟨e0, e3⟩
    subst e0
    have e1 : V3 (a + 16) 1 = V (a + 16) 1 + n := by rw [e3, j_up_off (by decide), j_up_off (by decide)]; exact g1
    refine t1_17_110 h kb.1 R ⟨rfl, Or.inr (Or.inr ⟨n0, n2, n1, n3, (by omega), e1, e1, ?_, ?_, fun i i0 i1 i2 => ?_, fun i i0 i1 => ?_, fun c c0 c1 => ?_⟩)⟩ (Nat.le_refl _) (Nat.le_refl _)
    · rw [e3, j_up_off (by decide), j_up_at]
    · rw [e3, j_up_at]
    · rw [e3, j_up_ne (by omega), j_up_ne (by omega)]; exact g2 i i0 i1 i2
    · rw [e3, j_up_ne (by omega), j_up_ne (by omega)]; exact g3 i i0 i1
    · rw [e3, j_up_ne c0, j_up_ne c0]; exact g4 c c0 c1
  refine t1_17_62 h (fun n5 => ?_) (fun n5 => ?_)
  · refine t1_17_77 h (by omega) ?_
    have loop : ∀ (i : Int) (V2 : jH), (-1 ≤ i ∧ i < n ∧ V2 (a + 16) 1 = V (a + 16) 1 + n - 1 - i ∧ (∀ k : Int, 0 ≤ k → k < V (a + 16) 1 → V2 (a + 17) k = V (a + 17) k) ∧ (∀ k : Int, 0 ≤ k → k < n - 1 - i → V2 (a + 17) (V (a + 16) 1 + k) = j_byte w (n - 1 - k)) ∧ ∀ c : Int, c ≠ a + 16 → c ≠ a + 17 → V2 c = V c) → j_ok n_KT 6 C G 82 [(1, (1, w)), (4, (2, a + 16)), (5, (0, i))] [] S V2 0 0 := by
      refine j_loopD (N := 0) (fun i V2 hi hI kk => ?_) (fun i V2 hi hI => ?_)
      · obtain ⟨g0, g1, g2, g3, g4, g5⟩ := hI
        refine t1_17_82 h (fun q => absurd q (by omega)) (fun _ => ?_)
        refine t1_17_87 h hrm (m1_33 C.2.1) ⟨hi, (by omega)⟩ (Nat.zero_le _) (Nat.zero_le _) ?_
        rintro y S2 V3 ⟨e0, e1, er⟩
        subst e0; subst e1
        have by0 := j_byte_bd w i
        refine t1_17_95 h hrm kb.1 (m3_6 C.2.1) ⟨L, (by omega), (by omega), (by omega), (by omega), (by omega)⟩ (Nat.zero_le _) (Nat.zero_le _) ?_
        rintro S3 V4 ⟨e0, x1, x2, x3, x4⟩
        subst e0
        have en : j_num y 1 = [y] := by
          show [y / 2 ^ (8 * 0) % 256] = [y]
          rw [show (2 : Int) ^ (8 * 0) = 1 from rfl, Int.ediv_one, Int.emod_eq_of_lt (by omega) (by omega)]
        rw [show (1 : Int).toNat = 1 from rfl, en] at x1
        have old : ∀ k : Int, 0 ≤ k → k < V3 (a + 16) 1 → V4 (a + 17) k = V3 (a + 17) k := fun k k0 k1 => by
          have p1 := j_B_at (V := V4) (a := a + 16) (i := k) k0 (by omega)
          have p2 := j_B_at (V := V3) (a := a + 16) (i := k) k0 k1
          rw [x1, List.getElem?_append_left (by rw [j_B_len]; omega), p2, e17] at p1
          exact (Option.some.inj p1).symm
        have new : V4 (a + 17) (V3 (a + 16) 1) = y := by
          have p1 := j_B_at (V := V4) (a := a + 16) (i := V3 (a + 16) 1) (by omega) (by omega)
          rw [x1, List.getElem?_append_right (by rw [j_B_len]; omega), j_B_len, Nat.sub_self, e17] at p1
          exact (Option.some.inj p1).symm
        refine t1_17_99 h (by omega) ?_
        rw [show i + (-1) = i - 1 by omega]
        refine kk _ ⟨(by omega), (by omega), (by omega), fun k k0 k1 => ?_, fun k k0 k1 => ?_, fun c c0 c1 => ?_⟩
        · rw [old k k0 (by omega)]; exact g3 k k0 k1
        · by_cases ek : k = n - 1 - i
          · rw [show V (a + 16) 1 + k = V3 (a + 16) 1 by omega, new, er, ek, show n - 1 - (n - 1 - i) = i by omega]
          · rw [old _ (by omega) (by omega)]; exact g4 k k0 (by omega)
        · rw [x3 c c0 (by rw [e17]; exact c1)]; exact g5 c c0 c1
      · obtain ⟨g0, g1, g2, g3, g4, g5⟩ := hI
        have ei : i = -1 := by omega
        subst ei
        exact t1_17_82 h (fun _ => fin V2 (by omega) (fun k k0 k1 _ => g3 k k0 k1) (fun k k0 k1 => g4 k k0 (by omega)) g5) (fun q => absurd q (by omega))
    exact loop (n - 1) V ⟨(by omega), (by omega), (by omega), fun _ _ _ => rfl, fun k k0 k1 => absurd k1 (by omega), fun _ _ _ => rfl⟩
  · refine t1_17_66 h kb.1 (by omega) (t1_17_77 h (by omega) (t1_17_82 h (fun _ => fin _ (j_up_at _ _ _ _) (fun i _ _ _ => by rw [j_up_ne (by omega)]) (fun i i0 i1 => absurd i1 (by omega)) (fun c c0 c1 => j_up_ne c0)) (fun q => absurd q (by omega))))
def j_q19 (a i k : Int) (V : jH) (r : Int) (V' : jH) : Prop := (V (a + 16) 2 = 0 ∧ V' = j_fd V a ∧ r = -6) ∨ (V (a + 16) 2 ≠ 0 ∧ ¬ (0 ≤ i ∧ i < V (a + 18) 5 ∧ 0 ≤ k ∧ k ≤ 4) ∧ V' = j_fd V a ∧ r = -1) ∨ (V (a + 16) 2 ≠ 0 ∧ 0 ≤ i ∧ i < V (a + 18) 5 ∧ 0 ≤ k ∧ k ≤ 4 ∧ V' = V ∧ r = V (a + 19 + k) i)
theorem m1_19 (l : Launch) : M1_19 l 0 0 (fun a i k S V => j_cI S V a) (fun a i k S V r S' V' => S' = S ∧ j_q19 a i k V r V') := by
  refine e1_19 ?_
  rintro C G h hrm hcs hl hn a i k S V ht hI R
  obtain ⟨L, -, a0, hw, hk, hd, h6, h7⟩ := id hI
  have F7 := j_cI_F7 hI
  have hb := j_bI_a hw.2.2.2
  have kb := j_bk L ht
  have e18 : a + 16 + 2 = a + 18 := by omega
  refine t1_19_0 h L ht (fun m => ?_) (fun m => (t1_19_15 h hrm ht (m1_27 C.2.1) F7 (Nat.zero_le _) (Nat.zero_le _) (by rintro r9 S9 V9 ⟨e0, e9, er⟩; subst e0; subst e9; subst er; exact t1_19_21 h R (⟨rfl, Or.inl ⟨m, rfl, rfl⟩⟩) (Nat.zero_le _) (Nat.zero_le _))))
  have no : ¬ (0 ≤ i ∧ i < V (a + 18) 5 ∧ 0 ≤ k ∧ k ≤ 4) → j_ok n_KT 5 C G 41 [(0, (2, a))] [] S V 0 0 := fun q => (t1_19_41 h hrm ht (m1_27 C.2.1) F7 (Nat.zero_le _) (Nat.zero_le _) (by rintro r9 S9 V9 ⟨e0, e9, er⟩; subst e0; subst e9; subst er; exact t1_19_46 h R (⟨rfl, Or.inr (Or.inl ⟨m, q, rfl, rfl⟩)⟩) (Nat.zero_le _) (Nat.zero_le _)))
  refine t1_19_22 h L kb.1 (fun q => no (by omega)) (fun i0 => ?_)
  rw [e18]
  refine t1_19_32 h kb.2 (fun i1 => ?_) (fun q => no (by omega))
  have fin : ∀ {x : Int}, 0 ≤ k → k ≤ 4 → x = a + 19 + k → S = S ∧ j_q19 a i k V (V x i) V := fun {x} k0 k1 e => ⟨rfl, Or.inr (Or.inr ⟨m, i0, i1, k0, k1, rfl, by rw [e]⟩)⟩
  refine t1_19_47 h (fun q => (t1_19_124 h hrm ht (m1_27 C.2.1) F7 (Nat.zero_le _) (Nat.zero_le _) (by rintro r9 S9 V9 ⟨e0, e9, er⟩; subst e0; subst e9; subst er; exact t1_19_129 h R (⟨rfl, Or.inr (Or.inl ⟨m, by omega, rfl, rfl⟩)⟩) (Nat.zero_le _) (Nat.zero_le _)))) (fun q => ?_) (fun q => ?_) (fun q => ?_) (fun q => ?_) (fun q => ?_)
  · exact t1_19_84 h L kb.2 i0 (by omega) R (fin (by omega) (by omega) (by omega)) (Nat.le_refl _) (Nat.le_refl _)
  · exact t1_19_92 h L kb.2 i0 (by omega) R (fin (by omega) (by omega) (by omega)) (Nat.le_refl _) (Nat.le_refl _)
  · exact t1_19_100 h L kb.2 i0 (by omega) R (fin (by omega) (by omega) (by omega)) (Nat.le_refl _) (Nat.le_refl _)
  · exact t1_19_108 h L kb.2 i0 (by omega) R (fin (by omega) (by omega) (by omega)) (Nat.le_refl _) (Nat.le_refl _)
  · exact t1_19_116 h L kb.2 i0 (by omega) R (fin (by omega) (by omega) (by omega)) (Nat.le_refl _) (Nat.le_refl _)
def j_q20 (a k : Int) (V : jH) (r : Int) (V' : jH) : Prop := (V (a + 16) 2 = 0 ∧ V' = j_fd V a ∧ r = -6) ∨ (V (a + 16) 2 ≠ 0 ∧ ¬ (1 ≤ k ∧ k ≤ 400) ∧ V' = j_fd V a ∧ r = -1) ∨ (V (a + 16) 2 ≠ 0 ∧ 1 ≤ k ∧ k ≤ 400 ∧ V (a + 17) 0 = 4 ∧ V' = j_fd V a ∧ r = -3) ∨ (V (a + 16) 2 ≠ 0 ∧ 1 ≤ k ∧ k ≤ 400 ∧ V (a + 17) 0 ≠ 4 ∧ V' = j_up V (a + 16) 4 k ∧ r = (V (a + 18) 5 + k - 1) / k)
theorem m1_20 (l : Launch) : M1_20 l 0 0 (fun a k S V => j_cI S V a) (fun a k S V r S' V' => S' = S ∧ j_q20 a k V r V') := by
  refine e1_20 ?_
  rintro C G h hrm hcs hl hn a k S V ht hI R
  obtain ⟨L, -, a0, hw, hk, hd, h6, h7⟩ := id hI
  have F7 := j_cI_F7 hI
  have hb := j_bI_a hw.2.2.2
  have kb := j_bk L ht
  have e18 : a + 16 + 2 = a + 18 := by omega
  have e17 : a + 16 + 1 = a + 17 := by omega
  refine t1_20_0 h L ht (fun m => ?_) (fun m => (t1_20_15 h hrm ht (m1_27 C.2.1) F7 (Nat.zero_le _) (Nat.zero_le _) (by rintro r9 S9 V9 ⟨e0, e9, er⟩; subst e0; subst e9; subst er; exact t1_20_21 h R (⟨rfl, Or.inl ⟨m, rfl, rfl⟩⟩) (Nat.zero_le _) (Nat.zero_le _))))
  have no : ¬ (1 ≤ k ∧ k ≤ 400) → j_ok n_KT 3 C G 34 [(0, (2, a))] [] S V 0 0 := fun q => (t1_20_34 h hrm ht (m1_27 C.2.1) F7 (Nat.zero_le _) (Nat.zero_le _) (by rintro r9 S9 V9 ⟨e0, e9, er⟩; subst e0; subst e9; subst er; exact t1_20_39 h R (⟨rfl, Or.inr (Or.inl ⟨m, q, rfl, rfl⟩)⟩) (Nat.zero_le _) (Nat.zero_le _)))
  refine t1_20_22 h (fun q => no (by omega)) (fun k0 => t1_20_27 h (fun k1 => ?_) (fun q => no (by omega)))
  refine t1_20_40 h L kb.1 (fun q => ?_) (fun q => (t1_20_50 h hrm ht (m1_27 C.2.1) F7 (Nat.zero_le _) (Nat.zero_le _) (by rintro r9 S9 V9 ⟨e0, e9, er⟩; subst e0; subst e9; subst er; exact t1_20_56 h R (⟨rfl, Or.inr (Or.inr (Or.inl ⟨m, k0, k1, by rw [e17] at q; exact q, rfl, rfl⟩))⟩) (Nat.zero_le _) (Nat.zero_le _))))
  rw [e17] at q
  have e5 : j_up V (a + 16) 4 k (a + 18) = V (a + 18) := j_up_ne (by omega)
  refine t1_20_57 h hrm kb.1 (m3_3 C.2.1) ⟨L, by rw [e18, e5]; exact hb.2.2.2.1, by rw [e18, e5]; exact hb.2.2.2.2.1, by rw [j_up_at]; exact k1⟩ (Nat.zero_le _) (Nat.zero_le _) ?_
  rintro r S1 V1 ⟨e0, e1, er⟩
  subst e0
  refine t1_20_66 h R ⟨rfl, Or.inr (Or.inr (Or.inr ⟨m, k0, k1, q, e1, ?_⟩))⟩ (Nat.le_refl _) (Nat.le_refl _)
  rw [er, e18, e5, j_up_at]
  unfold j_marks
  rw [if_neg (by omega)]
def j_q21 (a i : Int) (V : jH) (r : Int) (V' : jH) : Prop := (V' = j_fd V a ∧ (r = -6 ∨ r = -1)) ∨ (0 ≤ i ∧ i < V (a + 18) 5 ∧ ∃ x : Int, V' = j_up V (a + 1) 5 x)
theorem m1_21 (l : Launch) : M1_21 l 0 0 (fun a i S V => j_cI S V a) (fun a i S V r S' V' => S' = S ∧ j_q21 a i V r V') := by
  refine e1_21 ?_
  rintro C G h hrm hcs hl hn a i S V ht hI R
  obtain ⟨L, -, a0, hw, hk, hd, h6, h7⟩ := id hI
  have F7 := j_cI_F7 hI
  have hb := j_bI_a hw.2.2.2
  have kb := j_bk L ht
  have e18 : a + 16 + 2 = a + 18 := by omega
  have no : j_ok n_KT 4 C G 25 [(0, (2, a))] [] S V 0 0 := (t1_21_25 h hrm ht (m1_27 C.2.1) F7 (Nat.zero_le _) (Nat.zero_le _) (by rintro r9 S9 V9 ⟨e0, e9, er⟩; subst e0; subst e9; subst er; exact t1_21_31 h R (⟨rfl, Or.inl ⟨rfl, Or.inl rfl⟩⟩) (Nat.zero_le _) (Nat.zero_le _)))
  refine t1_21_0 h L ht (fun q => no) (fun q => ?_)
  refine t1_21_18 h hrm kb.1 (m3_3 C.2.1) ⟨L, by rw [e18]; exact hb.2.2.2.1, by rw [e18]; exact hb.2.2.2.2.1, hb.2.2.2.2.2.2⟩ (Nat.zero_le _) (Nat.zero_le _) ?_
  rintro y S1 V1 ⟨e0, e1, er⟩
  subst e0; subst e1
  have no2 : j_ok n_KT 4 C G 47 [(0, (2, a))] [] S1 V1 0 0 := (t1_21_47 h hrm ht (m1_27 C.2.1) F7 (Nat.zero_le _) (Nat.zero_le _) (by rintro r9 S9 V9 ⟨e0, e9, er⟩; subst e0; subst e9; subst er; exact t1_21_52 h R (⟨rfl, Or.inl ⟨rfl, Or.inr rfl⟩⟩) (Nat.zero_le _) (Nat.zero_le _)))
  refine t1_21_22 h (fun z => ?_) (fun z => no)
  refine t1_21_32 h (fun z => no2) (fun i0 => t1_21_36 h L kb.1 (fun i1 => ?_) (fun z => no2))
  rw [e18] at i1
  have m1 : 0 ≤ i % V1 (a + 16) 4 := Int.emod_nonneg _ (by omega)
  have m2 : i % V1 (a + 16) 4 < V1 (a + 16) 4 := Int.emod_lt_of_pos _ (by omega)
  exact t1_21_53 h L ht i0 q (by omega) kb.1 (by omega) R ⟨rfl, Or.inr ⟨i0, i1, _, rfl⟩⟩ (Nat.le_refl _) (Nat.le_refl _)
def j_q22 (a v : Int) (V : jH) (r : Int) (V' : jH) : Prop := (V a 6 = 400 ∧ V' = j_fd V a ∧ r = -2) ∨ (V a 6 < 400 ∧ r = V a 6 + 1 ∧ V' = j_up (j_up V (a + 241) (V a 6) v) a 6 (V a 6 + 1))
theorem m1_22 (l : Launch) : M1_22 l 0 0 (fun a v S V => j_cI S V a) (fun a v S V r S' V' => S' = S ∧ j_q22 a v V r V') := by
  refine e1_22 ?_
  rintro C G h hrm hcs hl hn a v S V ht hI R
  obtain ⟨L, -, a0, hw, hk, hd, h6, h7⟩ := id hI
  have F7 := j_cI_F7 hI
  exact t1_22_0 h ht (fun q => t1_22_17 h L ht h6.1 q (by omega) R ⟨rfl, Or.inr ⟨q, rfl, rfl⟩⟩ (Nat.le_refl _) (Nat.le_refl _)) (fun q => (t1_22_10 h hrm ht (m1_27 C.2.1) F7 (Nat.zero_le _) (Nat.zero_le _) (by rintro r9 S9 V9 ⟨e0, e9, er⟩; subst e0; subst e9; subst er; exact t1_22_16 h R (⟨rfl, Or.inl ⟨by omega, rfl, rfl⟩⟩) (Nat.zero_le _) (Nat.zero_le _))))
def j_q23 (a : Int) (V : jH) (r : Int) (V' : jH) : Prop := (V (a + 16) 2 = 0 ∧ V' = j_fd (j_up V a 6 0) a ∧ r = -6) ∨ (V (a + 16) 2 ≠ 0 ∧ V' = j_up V a 6 0 ∧ ((∃ k : Int, 0 ≤ k ∧ k < V (a + 18) 5 ∧ (∀ x : Int, 0 ≤ x → x < k → x < V a 6 ∧ V (a + 241) x = V (a + 20) x) ∧ (V a 6 ≤ k ∨ V (a + 241) k ≠ V (a + 20) k) ∧ r = k + 1) ∨ ((∀ x : Int, 0 ≤ x → x < V (a + 18) 5 → x < V a 6 ∧ V (a + 241) x = V (a + 20) x) ∧ r = if V (a + 18) 5 < V a 6 then V (a + 18) 5 + 1 else 0)))
theorem m1_23 (l : Launch) : M1_23 l 0 0 (fun a S V => j_cI S V a) (fun a S V r S' V' => S' = S ∧ j_q23 a V r V') := by
  refine e1_23 ?_
  rintro C G h hrm hcs hl hn a S V ht hI R
  obtain ⟨L, -, a0, hw, hk, hd, h6, h7⟩ := id hI
  have F7 : -2147483648 ≤ j_up V a 6 0 a 7 ∧ j_up V a 6 0 a 7 < 2147483647 := by rw [j_up_off (by decide)]; exact j_cI_F7 hI
  have hb := j_bI_a hw.2.2.2
  have kb := j_bk L ht
  have e18 : a + 16 + 2 = a + 18 := by omega
  refine t1_23_0 h L ht (fun m => ?_) (fun m => (t1_23_25 h hrm ht (m1_27 C.2.1) F7 (Nat.zero_le _) (Nat.zero_le _) (by rintro r9 S9 V9 ⟨e0, e9, er⟩; subst e0; subst e9; subst er; exact t1_23_31 h R (⟨rfl, Or.inl ⟨m, rfl, rfl⟩⟩) (Nat.zero_le _) (Nat.zero_le _))))
  refine t1_23_32 h L kb.1 ?_
  rw [e18]
  have c5 : j_up V a 6 0 (a + 18) = V (a + 18) := j_up_ne (by omega)
  have c20 : j_up V a 6 0 (a + 20) = V (a + 20) := j_up_ne (by omega)
  have c241 : j_up V a 6 0 (a + 241) = V (a + 241) := j_up_ne (by omega)
  have e20 : a + 18 + 2 = a + 20 := by omega
  have loop : ∀ (i : Int) (_ : Unit), (0 ≤ i ∧ i ≤ V (a + 18) 5 ∧ ∀ x : Int, 0 ≤ x → x < i → x < V a 6 ∧ V (a + 241) x = V (a + 20) x) → j_ok n_KT 5 C G 40 [(0, (2, a)), (1, (0, V a 6)), (3, (2, a + 18)), (4, (0, i))] [] S (j_up V a 6 0) 0 0 := by
    refine j_loop (N := V (a + 18) 5) (fun i u hi hI kk => ?_) (fun i u hi hI => ?_)
    · obtain ⟨g0, g1, g2⟩ := hI
      refine t1_23_40 h kb.2 (fun q => absurd q (by rw [c5]; omega)) (fun _ => ?_)
      have bad : (V a 6 ≤ i ∨ V (a + 241) i ≠ V (a + 20) i) → j_ok n_KT 5 C G 72 [(4, (0, i))] [] S (j_up V a 6 0) 0 0 := fun z => t1_23_72 h (by omega) R ⟨rfl, Or.inr ⟨m, rfl, Or.inl ⟨i, g0, hi, g2, z, rfl⟩⟩⟩ (Nat.le_refl _) (Nat.le_refl _)
      refine t1_23_49 h (fun q => bad (Or.inl q)) (fun q => ?_)
      refine t1_23_55 h L ht g0 (by omega) kb.2 (fun q2 => ?_) (fun q2 => ?_)
      · rw [e20, c20, c241] at q2
        refine t1_23_77 h (by omega) (kk () ⟨(by omega), (by omega), fun x x0 x1 => ?_⟩)
        by_cases e : x = i
        · rw [e]; exact ⟨q, q2⟩
        · exact g2 x x0 (by omega)
      · rw [e20, c20, c241] at q2
        exact bad (Or.inr q2)
    · obtain ⟨g0, g1, g2⟩ := hI
      have ei : i = V (a + 18) 5 := by omega
      subst ei
      refine t1_23_40 h kb.2 (fun _ => ?_) (fun q => absurd q (by rw [c5]; omega))
      refine t1_23_83 h kb.2 (fun q => ?_) (fun q => ?_)
      · rw [c5] at q
        exact t1_23_100 h (t1_23_101 h R ⟨rfl, Or.inr ⟨m, rfl, Or.inr ⟨g2, by rw [if_neg (by omega)]⟩⟩⟩ (Nat.le_refl _) (Nat.le_refl _))
      · rw [c5] at q
        refine t1_23_91 h kb.2 (by rw [c5]; omega) (t1_23_101 h R ⟨rfl, Or.inr ⟨m, rfl, Or.inr ⟨g2, by rw [if_pos q, c5]⟩⟩⟩ (Nat.le_refl _) (Nat.le_refl _))
  exact loop 0 () ⟨(by omega), hb.2.2.2.1, fun x x0 x1 => absurd x1 (by omega)⟩
theorem m1_26 (l : Launch) : M1_26 l 0 0 (fun a k S V => j_cI S V a) (fun a k S V r S' V' => S' = S ∧ (V' = V ∨ V' = j_fd V a)) := by
  refine e1_26 ?_
  rintro C G h hrm hcs hl hn a k S V ht hI R
  obtain ⟨L, -, a0, hw, hk, hd, h6, h7⟩ := id hI
  have F7 := j_cI_F7 hI
  have hb := j_bI_a hw.2.2.2
  have kb := j_bk L ht
  have e18 : a + 16 + 2 = a + 18 := by omega
  refine t1_26_0 h (fun q => (t1_26_108 h hrm ht (m1_27 C.2.1) F7 (Nat.zero_le _) (Nat.zero_le _) (by rintro r9 S9 V9 ⟨e0, e9, er⟩; subst e0; subst e9; subst er; exact t1_26_113 h R (⟨rfl, Or.inr rfl⟩) (Nat.zero_le _) (Nat.zero_le _)))) (fun q => ?_) (fun q => ?_) (fun q => ?_) (fun q => ?_) (fun q => ?_) (fun q => ?_) (fun q => ?_)
  · exact t1_26_44 h L ht R ⟨rfl, Or.inl rfl⟩ (Nat.le_refl _) (Nat.le_refl _)
  · exact t1_26_52 h L ht R ⟨rfl, Or.inl rfl⟩ (Nat.le_refl _) (Nat.le_refl _)
  · exact t1_26_60 h L ht R ⟨rfl, Or.inl rfl⟩ (Nat.le_refl _) (Nat.le_refl _)
  · exact t1_26_68 h L ht (fun z => t1_26_85 h (t1_26_86 h R ⟨rfl, Or.inl rfl⟩ (Nat.le_refl _) (Nat.le_refl _))) (fun z => t1_26_81 h (t1_26_86 h R ⟨rfl, Or.inl rfl⟩ (Nat.le_refl _) (Nat.le_refl _)))
  · refine t1_26_87 h L hrm ht (m3_3 C.2.1) ⟨L, by rw [e18]; exact hb.2.2.2.1, by rw [e18]; exact hb.2.2.2.2.1, hb.2.2.2.2.2.2⟩ (Nat.zero_le _) (Nat.zero_le _) ?_
    rintro y S1 V1 ⟨e0, e1, er⟩
    subst e0; subst e1
    exact t1_26_97 h R ⟨rfl, Or.inl rfl⟩ (Nat.le_refl _) (Nat.le_refl _)
  · exact t1_26_98 h ht R ⟨rfl, Or.inl rfl⟩ (Nat.le_refl _) (Nat.le_refl _)
  · exact t1_26_103 h ht R ⟨rfl, Or.inl rfl⟩ (Nat.le_refl _) (Nat.le_refl _)
