/-! THE CLASS: rows -/
theorem m1_27 (l : Launch) : M1_27 l 0 0 (fun a f S V => -2147483648 ≤ V a 7 ∧ V a 7 < 2147483647) (fun a f S V r S' V' => S' = S ∧ V' = j_fd V a ∧ r = f) := by
  refine e1_27 ?_
  rintro C G h hrm hcs hl hn a f S V ht ⟨h0, h1⟩ R
  exact t1_27_0 h ht (by omega) R ⟨rfl, rfl, rfl⟩ (Nat.le_refl _) (Nat.le_refl _)
theorem m1_28 (l : Launch) : M1_28 l 0 0 (fun a p S V => j_L S ∧ 0 ≤ a ∧ -2147483648 ≤ V a 7 ∧ V a 7 < 2147483647) (fun a p S V r S' V' => S' = S ∧ V' = j_fd (j_up V (a + 1) 4 p) a ∧ r = -5) := by
  refine e1_28 ?_
  rintro C G h hrm hcs hl hn a p S V ht ⟨L, a0, h0, h1⟩ R
  have e : j_up V (a + 1) 4 p a = V a := j_up_ne (by omega)
  refine t1_28_0 h L hrm ht (m1_27 C.2.1) ⟨by rw [e]; exact h0, by rw [e]; exact h1⟩ (Nat.zero_le _) (Nat.zero_le _) ?_
  rintro r S1 V1 ⟨e0, e1, er⟩
  subst e0
  exact t1_28_14 h R ⟨rfl, e1, er⟩ (Nat.le_refl _) (Nat.le_refl _)
def j_rowN (a p : Int) : Int := if 0 ≤ p ∧ p < 6 then a + 3 + 2 * p else -1
theorem m1_29 (l : Launch) : M1_29 l 0 0 (fun a p S V => j_L S) (fun a p S V r S' V' => S' = S ∧ V' = V ∧ r = j_rowN a p) := by
  refine e1_29 ?_
  rintro C G h hrm hcs hl hn a p S V ht L R
  refine t1_29_0 h (fun q => t1_29_10 h (t1_29_23 h R ⟨rfl, rfl, ?_⟩ (Nat.le_refl _) (Nat.le_refl _))) (fun q => t1_29_4 h (fun q2 => t1_29_14 h L ht q q2 (t1_29_23 h R ⟨rfl, rfl, ?_⟩ (Nat.le_refl _) (Nat.le_refl _))) (fun q2 => t1_29_10 h (t1_29_23 h R ⟨rfl, rfl, ?_⟩ (Nat.le_refl _) (Nat.le_refl _))))
  · unfold j_rowN; rw [if_neg (by omega)]
  · unfold j_rowN; rw [if_pos ⟨q, q2⟩]
  · unfold j_rowN; rw [if_neg (by omega)]
theorem j_rowN_k {S : jS} {a p : Int} (L : j_L S) (ht : S.1 a = 31) (h : 0 ≤ j_rowN a p) : 0 ≤ p ∧ p < 6 ∧ j_rowN a p = a + 3 + 2 * p ∧ S.1 (a + 3 + 2 * p) = 27 := by
  by_cases c : 0 ≤ p ∧ p < 6
  · refine ⟨c.1, c.2, if_pos c, ?_⟩
    have := LRowAk L (i := p) (L9_0k L (L10_0k L ht)) c.1 c.2
    rw [show a + 1 + 1 + 1 + 2 * p = a + 3 + 2 * p by omega] at this
    exact this
  · exact absurd h (by unfold j_rowN; rw [if_neg c]; omega)
theorem j_rowN_n {a p : Int} (a0 : 0 ≤ a) (h : j_rowN a p = -1) : ¬ (0 ≤ p ∧ p < 6) := fun c => by
  unfold j_rowN at h; rw [if_pos c] at h; omega
def j_tabN (V : jH) (a t : Int) : Int := if 0 ≤ t ∧ t < V (a + 1) 2 then j_slotT (a + 1) t else -1
theorem m1_30 (l : Launch) : M1_30 l 0 0 (fun a t S V => j_L S ∧ j_sI S V (a + 1)) (fun a t S V r S' V' => S' = S ∧ V' = V ∧ r = j_tabN V a t) := by
  refine e1_30 ?_
  rintro C G h hrm hcs hl hn a t S V ht ⟨L, hs⟩ R
  refine t1_30_0 h (fun q => t1_30_15 h (t1_30_28 h R ⟨rfl, rfl, ?_⟩ (Nat.le_refl _) (Nat.le_refl _))) (fun q => t1_30_4 h L ht (fun q2 => t1_30_19 h L ht q (by have := hs.2.1; omega) (t1_30_28 h R ⟨rfl, rfl, ?_⟩ (Nat.le_refl _) (Nat.le_refl _))) (fun q2 => t1_30_15 h (t1_30_28 h R ⟨rfl, rfl, ?_⟩ (Nat.le_refl _) (Nat.le_refl _))))
  · unfold j_tabN; rw [if_neg (by omega)]
  · unfold j_tabN; rw [if_pos ⟨q, q2⟩]
    have := (j_sI_at hs q q2).1
    rw [show a + 1 + 14 = a + 15 by omega] at this
    exact this
  · unfold j_tabN; rw [if_neg (by omega)]
theorem j_tabN_k {S : jS} {V : jH} {a t : Int} (hs : j_sI S V (a + 1)) (h : 0 ≤ j_tabN V a t) : 0 ≤ t ∧ t < V (a + 1) 2 ∧ j_tabN V a t = j_slotT (a + 1) t ∧ S.1 (j_slotT (a + 1) t) = 29 ∧ j_tI V (j_slotT (a + 1) t) := by
  by_cases c : 0 ≤ t ∧ t < V (a + 1) 2
  · have := j_sI_at hs c.1 c.2
    exact ⟨c.1, c.2, if_pos c, this.2.1, this.2.2⟩
  · exact absurd h (by unfold j_tabN; rw [if_neg c]; omega)
theorem j_tabN_n {V : jH} {a t : Int} (a0 : 0 ≤ a) (h : j_tabN V a t = -1) : ¬ (0 ≤ t ∧ t < V (a + 1) 2) := fun c => by
  unfold j_tabN j_slotT at h; rw [if_pos c] at h; omega
theorem m1_31 (l : Launch) : M1_31 l 0 0 (fun k S V => True) (fun k S V r S' V' => S' = S ∧ V' = V ∧ j_says r (0 ≤ k ∧ k ≤ 4)) := by
  refine e1_31 ?_
  rintro C G h hrm hcs hl hn k S V - R
  have hno : ¬ (0 ≤ k ∧ k ≤ 4) → j_ok n_KT 1 C G 13 [] [] S V 0 0 := fun q => t1_31_13 h (t1_31_14 h R (by decide) ⟨rfl, rfl, Or.inr ⟨rfl, q⟩⟩ (Nat.le_refl _) (Nat.le_refl _))
  exact t1_31_0 h (fun q => hno (by omega)) (fun q => t1_31_4 h (fun q2 => hno (by omega)) (fun q2 => t1_31_9 h (t1_31_14 h R (by decide) ⟨rfl, rfl, Or.inl ⟨rfl, q, q2⟩⟩ (Nat.le_refl _) (Nat.le_refl _))))
theorem m1_32 (l : Launch) : M1_32 l 0 0 (fun k S V => True) (fun k S V r S' V' => S' = S ∧ V' = V ∧ j_says r (0 ≤ k ∧ k < 256)) := by
  refine e1_32 ?_
  rintro C G h hrm hcs hl hn k S V - R
  have hno : ¬ (0 ≤ k ∧ k < 256) → j_ok n_KT 1 C G 15 [] [] S V 0 0 := fun q => t1_32_15 h (t1_32_16 h R (by decide) ⟨rfl, rfl, Or.inr ⟨rfl, q⟩⟩ (Nat.le_refl _) (Nat.le_refl _))
  exact t1_32_0 h (fun q => hno (by omega)) (fun q => t1_32_4 h (fun q2 => hno (by omega)) (fun q2 => t1_32_11 h (t1_32_16 h R (by decide) ⟨rfl, rfl, Or.inl ⟨rfl, q, q2⟩⟩ (Nat.le_refl _) (Nat.le_refl _))))
def j_byte (w i : Int) : Int := j_w32 (j_us w (8 * i).toNat) % 256
theorem j_byte_bd (w i : Int) : 0 ≤ j_byte w i ∧ j_byte w i < 256 := by unfold j_byte; omega
theorem m1_33 (l : Launch) : M1_33 l 0 0 (fun w i S V => 0 ≤ i ∧ i < 8) (fun w i S V r S' V' => S' = S ∧ V' = V ∧ r = j_byte w i) := by
  refine e1_33 ?_
  rintro C G h hrm hcs hl hn w i S V ⟨i0, i1⟩ R
  exact t1_33_0 h (by omega) (by omega) (by omega) R ⟨rfl, rfl, rfl⟩ (Nat.le_refl _) (Nat.le_refl _)
/-- bytes come behind a row -/
def j_q2 (a p w n : Int) (V : jH) (r : Int) (V' : jH) : Prop := (¬ (0 ≤ p ∧ p < 6 ∧ 1 ≤ n ∧ n ≤ 8) ∧ V' = j_fd V a ∧ r = -1) ∨ (0 ≤ p ∧ p < 6 ∧ 1 ≤ n ∧ n ≤ 8 ∧ 400 < V (a + 3 + 2 * p) 1 + n ∧ V' = j_fd V a ∧ r = -2) ∨
  (0 ≤ p ∧ p < 6 ∧ 1 ≤ n ∧ n ≤ 8 ∧ V (a + 3 + 2 * p) 1 + n ≤ 400 ∧ r = V (a + 3 + 2 * p) 1 + n ∧ V' (a + 3 + 2 * p) 1 = V (a + 3 + 2 * p) 1 + n ∧ (∀ i : Int, i < V (a + 3 + 2 * p) 1 → V' (a + 4 + 2 * p) i = V (a + 4 + 2 * p) i) ∧ (∀ i : Int, 0 ≤ i → i < n → V' (a + 4 + 2 * p) (V (a + 3 + 2 * p) 1 + i) = j_byte w (n - 1 - i)) ∧ ∀ c : Int, c ≠ a + 3 + 2 * p → c ≠ a + 4 + 2 * p → V' c = V c)
theorem m1_2 (l : Launch) : M1_2 l 0 0 (fun a p w n S V => j_cI S V a) (fun a p w n S V r S' V' => S' = S ∧ j_q2 a p w n V r V') := by
  refine e1_2 ?_
  rintro C G h hrm hcs hl hn a p w n S V ht hI R
  obtain ⟨L, -, a0, hw, hk, hd, h6, h7⟩ := id hI
  have F7 := j_cI_F7 hI
  refine t1_2_0 h hrm ht (m1_29 C.2.1) L (Nat.zero_le _) (Nat.zero_le _) ?_
  rintro b S1 V1 ⟨e0, e1, er⟩
  subst e0; subst e1; subst er
  have no : ¬ (0 ≤ p ∧ p < 6 ∧ 1 ≤ n ∧ n ≤ 8) → j_ok n_KT 7 C G 25 [(0, (2, a))] [] S1 V1 0 0 := fun q => (t1_2_25 h hrm ht (m1_27 C.2.1) F7 (Nat.zero_le _) (Nat.zero_le _) (by rintro r9 S9 V9 ⟨e0, e9, er⟩; subst e0; subst e9; subst er; exact t1_2_30 h R (⟨rfl, Or.inl ⟨q, rfl, rfl⟩⟩) (Nat.zero_le _) (Nat.zero_le _)))
  refine t1_2_5 h (fun q => no (fun z => j_rowN_n a0 q ⟨z.1, z.2.1⟩)) (fun q _ => ?_)
  obtain ⟨p0, p1, ep, kr⟩ := j_rowN_k L ht q
  rw [ep]
  have hr := hw.2.1 p p0 p1
  rw [show a + 1 + 2 + 2 * p = a + 3 + 2 * p by omega] at hr
  refine t1_2_12 h (fun q => no (by omega)) (fun n0 => t1_2_18 h (fun n1 => ?_) (fun q => no (by omega)))
  refine t1_2_31 h kr (by have := hr.1; have := hr.2.1; omega) (fun q => ?_) (fun q => (t1_2_45 h hrm ht (m1_27 C.2.1) F7 (Nat.zero_le _) (Nat.zero_le _) (by rintro r9 S9 V9 ⟨e0, e9, er⟩; subst e0; subst e9; subst er; exact t1_2_51 h R (⟨rfl, Or.inr (Or.inl ⟨p0, p1, n0, n1, by omega, rfl, rfl⟩)⟩) (Nat.zero_le _) (Nat.zero_le _))))
  refine t1_2_52 h (by omega) ?_
  have loop : ∀ (i : Int) (V2 : jH), (-1 ≤ i ∧ i < n ∧ V2 (a + 3 + 2 * p) 1 = V1 (a + 3 + 2 * p) 1 + n - 1 - i ∧ (∀ k : Int, k < V1 (a + 3 + 2 * p) 1 → V2 (a + 4 + 2 * p) k = V1 (a + 4 + 2 * p) k) ∧ (∀ k : Int, 0 ≤ k → k < n - 1 - i → V2 (a + 4 + 2 * p) (V1 (a + 3 + 2 * p) 1 + k) = j_byte w (n - 1 - k)) ∧ ∀ c : Int, c ≠ a + 3 + 2 * p → c ≠ a + 4 + 2 * p → V2 c = V1 c) → j_ok n_KT 7 C G 58 [(2, (1, w)), (5, (2, a + 3 + 2 * p)), (6, (0, i))] [] S1 V2 0 0 := by
    refine j_loopD (N := 0) (fun i V2 hi hI kk => ?_) (fun i V2 hi hI => ?_)
    · obtain ⟨g0, g1, g2, g3, g4, g5⟩ := hI
      have hr0 := hr.1
      refine t1_2_58 h (fun q => absurd q (by omega)) (fun _ => ?_)
      refine t1_2_63 h hrm (m1_33 C.2.1) ⟨hi, (by omega)⟩ (Nat.zero_le _) (Nat.zero_le _) ?_
      rintro y S2 V3 ⟨e0, e1, er⟩
      subst e0; subst e1
      refine t1_2_71 h hrm kr (m8_2 C.2.1) ⟨L, (by omega), (by omega)⟩ (Nat.zero_le _) (Nat.zero_le _) ?_
      rintro S3 V4 ⟨e0, e4⟩
      subst e0
      rw [show a + 3 + 2 * p + 1 = a + 4 + 2 * p by omega] at e4
      refine t1_2_74 h (by omega) ?_
      rw [show i + (-1) = i - 1 by omega]
      refine kk _ ⟨(by omega), (by omega), ?_, fun k k0 => ?_, fun k k0 k1 => ?_, fun c c0 c1 => ?_⟩
      · rw [e4, j_up_at]; omega
      · rw [e4, j_up_ne (by omega), j_up_off (by omega)]; exact g3 k k0
      · rw [e4, j_up_ne (by omega)]
        by_cases ek : k = n - 1 - i
        · rw [show V1 (a + 3 + 2 * p) 1 + k = V3 (a + 3 + 2 * p) 1 by omega, j_up_at, er, ek, show n - 1 - (n - 1 - i) = i by omega]
        · rw [j_up_off (by omega)]; exact g4 k k0 (by omega)
      · rw [e4, j_up_ne c0, j_up_ne c1]; exact g5 c c0 c1
    · obtain ⟨g0, g1, g2, g3, g4, g5⟩ := hI
      have ei : i = -1 := by omega
      subst ei
      refine t1_2_58 h (fun _ => t1_2_80 h kr R ⟨rfl, Or.inr (Or.inr ⟨p0, p1, n0, n1, (by omega), (by omega), (by omega), g3, fun k k0 k1 => g4 k k0 (by omega), g5⟩)⟩ (Nat.le_refl _) (Nat.le_refl _)) (fun q => absurd q (by omega))
  exact loop (n - 1) V1 ⟨(by omega), (by omega), (by omega), fun _ _ => rfl, fun k k0 k1 => absurd k1 (by omega), fun _ _ _ => rfl⟩
def j_q3 (a p : Int) (V : jH) (r : Int) (V' : jH) : Prop := (¬ (0 ≤ p ∧ p < 6) ∧ V' = j_fd V a ∧ r = -1) ∨ (0 ≤ p ∧ p < 6 ∧ r = V (a + 3 + 2 * p) 1 ∧ V' = j_up V (a + 3 + 2 * p) 1 0)
theorem m1_3 (l : Launch) : M1_3 l 0 0 (fun a p S V => j_cI S V a) (fun a p S V r S' V' => S' = S ∧ j_q3 a p V r V') := by
  refine e1_3 ?_
  rintro C G h hrm hcs hl hn a p S V ht hI R
  obtain ⟨L, -, a0, hw, hk, hd, h6, h7⟩ := id hI
  have F7 := j_cI_F7 hI
  refine t1_3_0 h hrm ht (m1_29 C.2.1) L (Nat.zero_le _) (Nat.zero_le _) ?_
  rintro b S1 V1 ⟨e0, e1, er⟩
  subst e0; subst e1; subst er
  refine t1_3_5 h (fun q _ => ?_) (fun q => (t1_3_10 h hrm ht (m1_27 C.2.1) F7 (Nat.zero_le _) (Nat.zero_le _) (by rintro r9 S9 V9 ⟨e0, e9, er⟩; subst e0; subst e9; subst er; exact t1_3_15 h R (⟨rfl, Or.inl ⟨j_rowN_n a0 q, rfl, rfl⟩⟩) (Nat.zero_le _) (Nat.zero_le _))))
  obtain ⟨p0, p1, ep, kr⟩ := j_rowN_k L ht q
  rw [ep]
  exact t1_3_16 h kr R ⟨rfl, Or.inr ⟨p0, p1, rfl, rfl⟩⟩ (Nat.le_refl _) (Nat.le_refl _)
def j_q4 (a p i : Int) (V : jH) (r : Int) (V' : jH) : Prop := (¬ (0 ≤ p ∧ p < 6 ∧ -1 ≤ i ∧ i < V (a + 3 + 2 * p) 1) ∧ V' = j_fd V a ∧ r = -1) ∨ (0 ≤ p ∧ p < 6 ∧ -1 ≤ i ∧ i < V (a + 3 + 2 * p) 1 ∧ V' = V ∧ r = if i = -1 then V (a + 3 + 2 * p) 1 else V (a + 4 + 2 * p) i)
theorem m1_4 (l : Launch) : M1_4 l 0 0 (fun a p i S V => j_cI S V a) (fun a p i S V r S' V' => S' = S ∧ j_q4 a p i V r V') := by
  refine e1_4 ?_
  rintro C G h hrm hcs hl hn a p i S V ht hI R
  obtain ⟨L, -, a0, hw, hk, hd, h6, h7⟩ := id hI
  have F7 := j_cI_F7 hI
  refine t1_4_0 h hrm ht (m1_29 C.2.1) L (Nat.zero_le _) (Nat.zero_le _) ?_
  rintro b S1 V1 ⟨e0, e1, er⟩
  subst e0; subst e1; subst er
  have no : ¬ (0 ≤ p ∧ p < 6 ∧ -1 ≤ i ∧ i < V1 (a + 3 + 2 * p) 1) → j_ok n_KT 4 C G 23 [(0, (2, a))] [] S1 V1 0 0 := fun q => (t1_4_23 h hrm ht (m1_27 C.2.1) F7 (Nat.zero_le _) (Nat.zero_le _) (by rintro r9 S9 V9 ⟨e0, e9, er⟩; subst e0; subst e9; subst er; exact t1_4_28 h R (⟨rfl, Or.inl ⟨q, rfl, rfl⟩⟩) (Nat.zero_le _) (Nat.zero_le _)))
  refine t1_4_5 h (fun q => no (fun z => j_rowN_n a0 q ⟨z.1, z.2.1⟩)) (fun q _ => ?_)
  obtain ⟨p0, p1, ep, kr⟩ := j_rowN_k L ht q
  rw [ep]
  have hr := hw.2.1 p p0 p1
  rw [show a + 1 + 2 + 2 * p = a + 3 + 2 * p by omega] at hr
  have hr1 := hr.2.1
  refine t1_4_10 h (fun q => no (by omega)) (fun i0 => t1_4_15 h kr (fun i1 => ?_) (fun q => no (by omega)))
  refine t1_4_29 h (fun q => ?_) (fun q => ?_)
  · refine t1_4_41 h L kr (by omega) (by omega) (t1_4_47 h R ⟨rfl, Or.inr ⟨p0, p1, i0, i1, rfl, ?_⟩⟩ (Nat.le_refl _) (Nat.le_refl _))
    rw [if_neg q, show a + 3 + 2 * p + 1 = a + 4 + 2 * p by omega]
  · refine t1_4_34 h kr (t1_4_47 h R ⟨rfl, Or.inr ⟨p0, p1, i0, i1, rfl, ?_⟩⟩ (Nat.le_refl _) (Nat.le_refl _))
    rw [if_pos q]
def j_q5 (a p f n q : Int) (V : jH) (r : Int) (V' : jH) : Prop := (¬ (0 ≤ p ∧ p < 6 ∧ 0 ≤ q ∧ q < 6 ∧ 0 ≤ f ∧ 0 ≤ n ∧ f + n ≤ V (a + 3 + 2 * p) 1) ∧ V' = j_fd V a ∧ r = -1) ∨
  (0 ≤ p ∧ p < 6 ∧ 0 ≤ q ∧ q < 6 ∧ 0 ≤ f ∧ 0 ≤ n ∧ f + n ≤ V (a + 3 + 2 * p) 1 ∧ 400 < V (a + 3 + 2 * q) 1 + n ∧ V' = j_fd V a ∧ r = -2) ∨
  (0 ≤ p ∧ p < 6 ∧ 0 ≤ q ∧ q < 6 ∧ 0 ≤ f ∧ 0 ≤ n ∧ f + n ≤ V (a + 3 + 2 * p) 1 ∧ V (a + 3 + 2 * q) 1 + n ≤ 400 ∧ r = V (a + 3 + 2 * q) 1 + n ∧ V' (a + 3 + 2 * q) 1 = V (a + 3 + 2 * q) 1 + n ∧ (∀ i : Int, i < V (a + 3 + 2 * q) 1 → V' (a + 4 + 2 * q) i = V (a + 4 + 2 * q) i) ∧ (∀ i : Int, 0 ≤ i → i < n → V' (a + 4 + 2 * q) (V (a + 3 + 2 * q) 1 + i) = V (a + 4 + 2 * p) (f + i)) ∧ ∀ c : Int, c ≠ a + 3 + 2 * q → c ≠ a + 4 + 2 * q → V' c = V c)
theorem m1_5 (l : Launch) : M1_5 l 0 0 (fun a p f n q S V => j_cI S V a) (fun a p f n q S V r S' V' => S' = S ∧ j_q5 a p f n q V r V') := by
  refine e1_5 ?_
  rintro C G h hrm hcs hl hn a p f n q S V ht hI R
  obtain ⟨L, -, a0, hw, hk, hd, h6, h7⟩ := id hI
  have F7 := j_cI_F7 hI
  refine t1_5_0 h hrm ht (m1_29 C.2.1) L (Nat.zero_le _) (Nat.zero_le _) ?_
  rintro b S1 V1 ⟨e0, e1, er⟩
  subst e0; subst e1; subst er
  refine t1_5_5 h hrm ht (m1_29 C.2.1) L (Nat.zero_le _) (Nat.zero_le _) ?_
  rintro b S2 V2 ⟨e0, e1, er⟩
  subst e0; subst e1; subst er
  have no : ¬ (0 ≤ p ∧ p < 6 ∧ 0 ≤ q ∧ q < 6 ∧ 0 ≤ f ∧ 0 ≤ n ∧ f + n ≤ V2 (a + 3 + 2 * p) 1) → j_ok n_KT 8 C G 53 [(0, (2, a))] [] S2 V2 0 0 := fun q => (t1_5_53 h hrm ht (m1_27 C.2.1) F7 (Nat.zero_le _) (Nat.zero_le _) (by rintro r9 S9 V9 ⟨e0, e9, er⟩; subst e0; subst e9; subst er; exact t1_5_58 h R (⟨rfl, Or.inl ⟨q, rfl, rfl⟩⟩) (Nat.zero_le _) (Nat.zero_le _)))
  refine t1_5_13 h (fun z => no (fun y => j_rowN_n a0 z ⟨y.1, y.2.1⟩)) (fun z _ => ?_)
  obtain ⟨p0, p1, ep, kp⟩ := j_rowN_k L ht z
  rw [ep]
  refine t1_5_20 h (fun z => no (fun y => j_rowN_n a0 z ⟨y.2.2.1, y.2.2.2.1⟩)) (fun z _ => ?_)
  obtain ⟨q0, q1, eq, kq⟩ := j_rowN_k L ht z
  rw [eq]
  have hp := hw.2.1 p p0 p1
  rw [show a + 1 + 2 + 2 * p = a + 3 + 2 * p by omega] at hp
  have hq := hw.2.1 q q0 q1
  rw [show a + 1 + 2 + 2 * q = a + 3 + 2 * q by omega] at hq
  have hp1 := hp.2.1
  have hq0 := hq.1
  have hq1 := hq.2.1
  refine t1_5_25 h (fun z => no (by omega)) (fun f0 => t1_5_29 h (fun z => no (by omega)) (fun n0 => t1_5_33 h kp (fun z => no (by omega)) (fun n1 => t1_5_42 h kp (by omega) (fun f1 => ?_) (fun z => no (by omega)))))
  refine t1_5_59 h kq (by omega) (fun n2 => ?_) (fun z => (t1_5_72 h hrm ht (m1_27 C.2.1) F7 (Nat.zero_le _) (Nat.zero_le _) (by rintro r9 S9 V9 ⟨e0, e9, er⟩; subst e0; subst e9; subst er; exact t1_5_78 h R (⟨rfl, Or.inr (Or.inl ⟨p0, p1, q0, q1, f0, n0, by omega, by omega, rfl, rfl⟩)⟩) (Nat.zero_le _) (Nat.zero_le _))))
  refine t1_5_79 h ?_
  have loop : ∀ (i : Int) (V3 : jH), (0 ≤ i ∧ i ≤ n ∧ V3 (a + 3 + 2 * q) 1 = V2 (a + 3 + 2 * q) 1 + i ∧ (∀ k : Int, k < V2 (a + 3 + 2 * q) 1 → V3 (a + 4 + 2 * q) k = V2 (a + 4 + 2 * q) k) ∧ (∀ k : Int, 0 ≤ k → k < i → V3 (a + 4 + 2 * q) (V2 (a + 3 + 2 * q) 1 + k) = V2 (a + 4 + 2 * p) (f + k)) ∧ ∀ c : Int, c ≠ a + 3 + 2 * q → c ≠ a + 4 + 2 * q → V3 c = V2 c) → j_ok n_KT 8 C G 82 [(2, (0, f)), (3, (0, n)), (5, (2, a + 3 + 2 * p)), (6, (2, a + 3 + 2 * q)), (7, (0, i))] [] S2 V3 0 0 := by
    refine j_loop (N := n) (fun i V3 hi hI kk => ?_) (fun i V3 hi hI => ?_)
    · obtain ⟨g0, g1, g2, g3, g4, g5⟩ := hI
      have es : V3 (a + 4 + 2 * p) (f + i) = V2 (a + 4 + 2 * p) (f + i) := by
        by_cases e : p = q
        · rw [e] at f1 n1 ⊢; exact g3 _ (by omega)
        · rw [g5 _ (by omega) (by omega)]
      refine t1_5_82 h (fun z => absurd z (by omega)) (fun _ => ?_)
      refine t1_5_88 h L hrm kp (by omega) (by omega) (by omega) kq (m8_2 C.2.1) ⟨L, (by omega), (by omega)⟩ (Nat.zero_le _) (Nat.zero_le _) ?_
      rintro S3 V4 ⟨e0, e4⟩
      subst e0
      rw [show a + 3 + 2 * q + 1 = a + 4 + 2 * q by omega, show a + 3 + 2 * p + 1 = a + 4 + 2 * p by omega, es] at e4
      refine t1_5_103 h (by omega) (kk _ ⟨(by omega), (by omega), ?_, fun k k0 => ?_, fun k k0 k1 => ?_, fun c c0 c1 => ?_⟩)
      · rw [e4, j_up_at]; omega
      · rw [e4, j_up_ne (by omega), j_up_off (by omega)]; exact g3 k k0
      · rw [e4, j_up_ne (by omega)]
        by_cases ek : k = i
        · rw [ek, show V2 (a + 3 + 2 * q) 1 + i = V3 (a + 3 + 2 * q) 1 by omega, j_up_at]
        · rw [j_up_off (by omega)]; exact g4 k k0 (by omega)
      · rw [e4, j_up_ne c0, j_up_ne c1]; exact g5 c c0 c1
    · obtain ⟨g0, g1, g2, g3, g4, g5⟩ := hI
      have ei : i = n := by omega
      subst ei
      exact t1_5_82 h (fun _ => t1_5_109 h kq R ⟨rfl, Or.inr (Or.inr ⟨p0, p1, q0, q1, f0, n0, (by omega), (by omega), g2, g2, g3, g4, g5⟩)⟩ (Nat.le_refl _) (Nat.le_refl _)) (fun z => absurd z (by omega))
  exact loop 0 V2 ⟨(by omega), n0, (by omega), fun _ _ => rfl, fun k k0 k1 => absurd k1 (by omega), fun _ _ _ => rfl⟩
