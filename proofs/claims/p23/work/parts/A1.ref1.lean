/-! THE REFERENCE: small calls -/
theorem m13_2 (l : Launch) : M13_2 l 0 0 (fun a f S V => f < 0 ∧ -2147483648 ≤ V a 3 ∧ V a 3 < 2147483647) (fun a f S V r S' V' => S' = S ∧ V' = j_md V a ∧ r = f) := by
  refine e13_2 ?_
  rintro C G h hrm hcs hl hn a f S V ht ⟨hf, h0, h1⟩ R
  exact t13_2_0 h (fun q => absurd q (by omega)) (fun _ => t13_2_4 h ht (by omega) (t13_2_14 h R ⟨rfl, rfl, rfl⟩ (Nat.le_refl _) (Nat.le_refl _)))
theorem m13_2p (l : Launch) : M13_2 l 0 0 (fun a f S V => 0 ≤ f) (fun a f S V r S' V' => S' = S ∧ V' = V ∧ r = f) := by
  refine e13_2 ?_
  rintro C G h hrm hcs hl hn a f S V ht hf R
  exact t13_2_0 h (fun _ => t13_2_14 h R ⟨rfl, rfl, rfl⟩ (Nat.le_refl _) (Nat.le_refl _)) (fun q => absurd q (by omega))
theorem m13_3 (l : Launch) : M13_3 l 0 0 (fun v lo hi S V => True) (fun v lo hi S V r S' V' => S' = S ∧ V' = V ∧ j_says r (lo ≤ v ∧ v ≤ hi)) := by
  refine e13_3 ?_
  rintro C G h hrm hcs hl hn v lo hi S V - R
  have hno : ¬ (lo ≤ v ∧ v ≤ hi) → j_ok n_KT 6 C G 17 [] [] S V 0 0 := fun q => t13_3_17 h (t13_3_18 h R (by decide) ⟨rfl, rfl, Or.inr ⟨rfl, q⟩⟩ (Nat.le_refl _) (Nat.le_refl _))
  exact t13_3_0 h (fun q => hno (by omega)) (fun q => t13_3_6 h (fun q2 => hno (by omega)) (fun q2 => t13_3_13 h (t13_3_18 h R (by decide) ⟨rfl, rfl, Or.inl ⟨rfl, q, q2⟩⟩ (Nat.le_refl _) (Nat.le_refl _))))
theorem m13_4 (l : Launch) : M13_4 l 0 0 (fun p S V => True) (fun p S V r S' V' => S' = S ∧ V' = V ∧ j_says r (0 ≤ p ∧ p < 6)) := by
  refine e13_4 ?_
  rintro C G h hrm hcs hl hn p S V - R
  refine t13_4_0 h hrm (m13_3 C.2.1) trivial (Nat.zero_le _) (Nat.zero_le _) ?_
  rintro r S1 V1 ⟨e0, e1, hr⟩
  subst e0; subst e1
  exact t13_4_9 h R hr.bit ⟨rfl, rfl, hr.iff (by omega)⟩ (Nat.le_refl _) (Nat.le_refl _)
theorem m13_5 (l : Launch) : M13_5 l 0 0 (fun a t S V => j_L S ∧ 0 ≤ V (a + 1) 2 ∧ V (a + 1) 2 ≤ 10) (fun a t S V r S' V' => S' = S ∧ V' = V ∧ j_says r (0 ≤ t ∧ t < V (a + 1) 2)) := by
  refine e13_5 ?_
  rintro C G h hrm hcs hl hn a t S V ht ⟨L, h0, h1⟩ R
  refine t13_5_0 h L hrm ht (by omega) (m13_3 C.2.1) trivial (Nat.zero_le _) (Nat.zero_le _) ?_
  rintro r S1 V1 ⟨e0, e1, hr⟩
  subst e0; subst e1
  exact t13_5_16 h R hr.bit ⟨rfl, rfl, hr.iff (by omega)⟩ (Nat.le_refl _) (Nat.le_refl _)
def j_rby (w i : Int) : Int := j_w32 (w / 2 ^ (8 * i).toNat % 256)
theorem j_rby_bd (w i : Int) : 0 ≤ j_rby w i ∧ j_rby w i < 256 := by
  unfold j_rby
  rw [j_w32_in (by omega) (by omega)]; omega
def j_r2 (a p w n : Int) (V : jH) (r : Int) (V' : jH) : Prop := (¬ (0 ≤ p ∧ p < 6 ∧ 1 ≤ n ∧ n ≤ 8) ∧ V' = j_md V a ∧ r = -1) ∨ (0 ≤ p ∧ p < 6 ∧ 1 ≤ n ∧ n ≤ 8 ∧ 400 < V (a + 2) p + n ∧ V' = j_md V a ∧ r = -2) ∨
  (0 ≤ p ∧ p < 6 ∧ 1 ≤ n ∧ n ≤ 8 ∧ V (a + 2) p + n ≤ 400 ∧ r = V (a + 2) p + n ∧ V' (a + 2) p = V (a + 2) p + n ∧ (∀ q : Int, q ≠ p → V' (a + 2) q = V (a + 2) q) ∧ (∀ i : Int, (i < 400 * p + V (a + 2) p ∨ 400 * p + V (a + 2) p + n ≤ i) → V' (a + 3) i = V (a + 3) i) ∧ (∀ i : Int, 0 ≤ i → i < n → V' (a + 3) (400 * p + V (a + 2) p + i) = j_rby w (n - 1 - i)) ∧ ∀ c : Int, c ≠ a + 2 → c ≠ a + 3 → V' c = V c)
theorem m13_6 (l : Launch) : M13_6 l 0 0 (fun a p w n S V => j_mI S V a) (fun a p w n S V r S' V' => S' = S ∧ j_r2 a p w n V r V') := by
  refine e13_6 ?_
  rintro C G h hrm hcs hl hn a p w n S V ht hI R
  obtain ⟨L, -, a0, ⟨hR, hS, hB⟩, hk, h2, h4, h3⟩ := id hI
  have F7 : ∀ {f : Int}, f < 0 → f < 0 ∧ -2147483648 ≤ V a 3 ∧ V a 3 < 2147483647 := fun hf => ⟨hf, j_mI_F hI⟩
  have no : ¬ (0 ≤ p ∧ p < 6 ∧ 1 ≤ n ∧ n ≤ 8) → j_ok n_KT 6 C G 20 [(0, (2, a))] [] S V 0 0 := fun q => (t13_6_20 h hrm ht (m13_2 C.2.1) (F7 (by decide)) (Nat.zero_le _) (Nat.zero_le _) (by rintro r9 S9 V9 ⟨e0, e9, er⟩; subst e0; subst e9; subst er; exact t13_6_25 h R (⟨rfl, Or.inl ⟨q, rfl, rfl⟩⟩) (Nat.zero_le _) (Nat.zero_le _)))
  refine t13_6_0 h hrm (m13_4 C.2.1) trivial (Nat.zero_le _) (Nat.zero_le _) ?_
  rintro y S1 V1 ⟨e0, e1, hy⟩
  subst e0; subst e1
  refine t13_6_4 h (fun q => no (fun z => hy.n q ⟨z.1, z.2.1⟩)) (fun q => ?_)
  obtain ⟨p0, p1⟩ := hy.y q
  refine t13_6_7 h hrm (m13_3 C.2.1) trivial (Nat.zero_le _) (Nat.zero_le _) ?_
  rintro y2 S2 V2 ⟨e0, e1, hy2⟩
  subst e0; subst e1
  refine t13_6_17 h (fun q => ?_) (fun q => no (fun z => hy2.n q z.2.2))
  obtain ⟨n0, n1⟩ := hy2.y q
  obtain ⟨s0, s1, s2⟩ := hR p p0 p1
  rw [show a + 1 + 1 = a + 2 by omega] at s0 s1 s2
  refine t13_6_26 h L ht p0 p1 (by omega) (fun q => ?_) (fun q => (t13_6_44 h hrm ht (m13_2 C.2.1) (F7 (by decide)) (Nat.zero_le _) (Nat.zero_le _) (by rintro r9 S9 V9 ⟨e0, e9, er⟩; subst e0; subst e9; subst er; exact t13_6_50 h R (⟨rfl, Or.inr (Or.inl ⟨p0, p1, n0, n1, q, rfl, rfl⟩)⟩) (Nat.zero_le _) (Nat.zero_le _))))
  refine t13_6_51 h (by omega) ?_
  have loop : ∀ (i : Int) (V3 : jH), (-1 ≤ i ∧ i < n ∧ V3 (a + 2) p = V2 (a + 2) p + n - 1 - i ∧ (∀ q : Int, q ≠ p → V3 (a + 2) q = V2 (a + 2) q) ∧ (∀ k : Int, (k < 400 * p + V2 (a + 2) p ∨ 400 * p + V2 (a + 2) p + n - 1 - i ≤ k) → V3 (a + 3) k = V2 (a + 3) k) ∧ (∀ k : Int, 0 ≤ k → k < n - 1 - i → V3 (a + 3) (400 * p + V2 (a + 2) p + k) = j_rby w (n - 1 - k)) ∧ ∀ c : Int, c ≠ a + 2 → c ≠ a + 3 → V3 c = V2 c) → j_ok n_KT 6 C G 57 [(0, (2, a)), (1, (0, p)), (2, (1, w)), (5, (0, i))] [] S2 V3 0 0 := by
    refine j_loopD (N := 0) (fun i V3 hi hI kk => ?_) (fun i V3 hi hI => ?_)
    · obtain ⟨g0, g1, g2, g3, g4, g5, g6⟩ := hI
      refine t13_6_57 h (fun q => absurd q (by omega)) (fun _ => ?_)
      refine t13_6_62 h L ht (by omega) p0 p1 (by omega) (by omega) (by omega) (by omega) (by omega) (by omega) (by omega) (by omega) ?_
      rw [show i + (-1) = i - 1 by omega]
      refine kk _ ⟨(by omega), (by omega), ?_, fun q hq => ?_, fun k hk => ?_, fun k k0 k1 => ?_, fun c c0 c1 => ?_⟩
      · rw [j_up_at]; omega
      · rw [j_up_off hq, j_up_ne (by omega)]; exact g3 q hq
      · rw [j_up_ne (by omega), j_up_off (by omega)]; exact g4 k (by omega)
      · rw [j_up_ne (by omega)]
        by_cases ek : k = n - 1 - i
        · rw [show 400 * p + V2 (a + 2) p + k = 400 * p + V3 (a + 2) p by omega, j_up_at, ek, show n - 1 - (n - 1 - i) = i by omega]
          rfl
        · rw [j_up_off (by omega)]; exact g5 k k0 (by omega)
      · rw [j_up_ne c0, j_up_ne c1]; exact g6 c c0 c1
    · obtain ⟨g0, g1, g2, g3, g4, g5, g6⟩ := hI
      have ei : i = -1 := by omega
      subst ei
      refine t13_6_57 h (fun _ => t13_6_116 h L ht p0 p1 R ⟨rfl, Or.inr (Or.inr ⟨p0, p1, n0, n1, q, (by omega), (by omega), g3, fun k hk => g4 k (by omega), fun k k0 k1 => g5 k k0 (by omega), g6⟩)⟩ (Nat.le_refl _) (Nat.le_refl _)) (fun q => absurd q (by omega))
  exact loop (n - 1) V2 ⟨(by omega), (by omega), (by omega), fun _ _ => rfl, fun _ _ => rfl, fun k k0 k1 => absurd k1 (by omega), fun _ _ _ => rfl⟩
def j_r3 (a p : Int) (V : jH) (r : Int) (V' : jH) : Prop := (¬ (0 ≤ p ∧ p < 6) ∧ V' = j_md V a ∧ r = -1) ∨ (0 ≤ p ∧ p < 6 ∧ r = V (a + 2) p ∧ V' = j_up V (a + 2) p 0)
theorem m13_7 (l : Launch) : M13_7 l 0 0 (fun a p S V => j_mI S V a) (fun a p S V r S' V' => S' = S ∧ j_r3 a p V r V') := by
  refine e13_7 ?_
  rintro C G h hrm hcs hl hn a p S V ht hI R
  obtain ⟨L, -, a0, ⟨hR, hS, hB⟩, hk, h2, h4, h3⟩ := id hI
  have F7 : ∀ {f : Int}, f < 0 → f < 0 ∧ -2147483648 ≤ V a 3 ∧ V a 3 < 2147483647 := fun hf => ⟨hf, j_mI_F hI⟩
  refine t13_7_0 h hrm (m13_4 C.2.1) trivial (Nat.zero_le _) (Nat.zero_le _) ?_
  rintro y S1 V1 ⟨e0, e1, hy⟩
  subst e0; subst e1
  refine t13_7_4 h (fun q => ?_) (fun q => (t13_7_7 h hrm ht (m13_2 C.2.1) (F7 (by decide)) (Nat.zero_le _) (Nat.zero_le _) (by rintro r9 S9 V9 ⟨e0, e9, er⟩; subst e0; subst e9; subst er; exact t13_7_12 h R (⟨rfl, Or.inl ⟨hy.n q, rfl, rfl⟩⟩) (Nat.zero_le _) (Nat.zero_le _))))
  obtain ⟨p0, p1⟩ := hy.y q
  exact t13_7_13 h L ht p0 p1 R ⟨rfl, Or.inr ⟨p0, p1, rfl, rfl⟩⟩ (Nat.le_refl _) (Nat.le_refl _)
def j_r4 (a p i : Int) (V : jH) (r : Int) (V' : jH) : Prop := (¬ (0 ≤ p ∧ p < 6 ∧ -1 ≤ i ∧ i < V (a + 2) p) ∧ V' = j_md V a ∧ r = -1) ∨ (0 ≤ p ∧ p < 6 ∧ -1 ≤ i ∧ i < V (a + 2) p ∧ V' = V ∧ r = if i = -1 then V (a + 2) p else V (a + 3) (400 * p + i))
theorem m13_8 (l : Launch) : M13_8 l 0 0 (fun a p i S V => j_mI S V a) (fun a p i S V r S' V' => S' = S ∧ j_r4 a p i V r V') := by
  refine e13_8 ?_
  rintro C G h hrm hcs hl hn a p i S V ht hI R
  obtain ⟨L, -, a0, ⟨hR, hS, hB⟩, hk, h2, h4, h3⟩ := id hI
  have F7 : ∀ {f : Int}, f < 0 → f < 0 ∧ -2147483648 ≤ V a 3 ∧ V a 3 < 2147483647 := fun hf => ⟨hf, j_mI_F hI⟩
  have no : ¬ (0 ≤ p ∧ p < 6 ∧ -1 ≤ i ∧ i < V (a + 2) p) → j_ok n_KT 3 C G 30 [(0, (2, a))] [] S V 0 0 := fun q => (t13_8_30 h hrm ht (m13_2 C.2.1) (F7 (by decide)) (Nat.zero_le _) (Nat.zero_le _) (by rintro r9 S9 V9 ⟨e0, e9, er⟩; subst e0; subst e9; subst er; exact t13_8_35 h R (⟨rfl, Or.inl ⟨q, rfl, rfl⟩⟩) (Nat.zero_le _) (Nat.zero_le _)))
  refine t13_8_0 h hrm (m13_4 C.2.1) trivial (Nat.zero_le _) (Nat.zero_le _) ?_
  rintro y S1 V1 ⟨e0, e1, hy⟩
  subst e0; subst e1
  refine t13_8_4 h (fun q => no (fun z => hy.n q ⟨z.1, z.2.1⟩)) (fun q => ?_)
  obtain ⟨p0, p1⟩ := hy.y q
  obtain ⟨s0, s1, s2⟩ := hR p p0 p1
  rw [show a + 1 + 1 = a + 2 by omega] at s0 s1 s2
  refine t13_8_7 h L hrm ht p0 p1 (by omega) (m13_3 C.2.1) trivial (Nat.zero_le _) (Nat.zero_le _) ?_
  rintro y2 S2 V2 ⟨e0, e1, hy2⟩
  subst e0; subst e1
  refine t13_8_27 h (fun q => ?_) (fun q => no (fun z => hy2.n q (by omega)))
  obtain ⟨i0, i1⟩ := hy2.y q
  refine t13_8_36 h (fun q => ?_) (fun q => ?_)
  · exact t13_8_52 h L ht (by omega) (by omega) (by omega) (by omega) (t13_8_67 h R ⟨rfl, Or.inr ⟨p0, p1, i0, (by omega), rfl, by rw [if_neg (by omega)]⟩⟩ (Nat.le_refl _) (Nat.le_refl _))
  · exact t13_8_40 h L ht p0 p1 (t13_8_67 h R ⟨rfl, Or.inr ⟨p0, p1, i0, (by omega), rfl, by rw [if_pos (by omega)]⟩⟩ (Nat.le_refl _) (Nat.le_refl _))
def j_r5 (a p f n q : Int) (V : jH) (r : Int) (V' : jH) : Prop := (¬ (0 ≤ p ∧ p < 6 ∧ 0 ≤ q ∧ q < 6 ∧ 0 ≤ f ∧ 0 ≤ n ∧ f + n ≤ V (a + 2) p) ∧ V' = j_md V a ∧ r = -1) ∨
  (0 ≤ p ∧ p < 6 ∧ 0 ≤ q ∧ q < 6 ∧ 0 ≤ f ∧ 0 ≤ n ∧ f + n ≤ V (a + 2) p ∧ 400 < V (a + 2) q + n ∧ V' = j_md V a ∧ r = -2) ∨
  (0 ≤ p ∧ p < 6 ∧ 0 ≤ q ∧ q < 6 ∧ 0 ≤ f ∧ 0 ≤ n ∧ f + n ≤ V (a + 2) p ∧ V (a + 2) q + n ≤ 400 ∧ r = V (a + 2) q + n ∧ V' (a + 2) q = V (a + 2) q + n ∧ (∀ x : Int, x ≠ q → V' (a + 2) x = V (a + 2) x) ∧ (∀ i : Int, (i < 400 * q + V (a + 2) q ∨ 400 * q + V (a + 2) q + n ≤ i) → V' (a + 3) i = V (a + 3) i) ∧ (∀ i : Int, 0 ≤ i → i < n → V' (a + 3) (400 * q + V (a + 2) q + i) = V (a + 3) (400 * p + f + i)) ∧ ∀ c : Int, c ≠ a + 2 → c ≠ a + 3 → c ≠ a + 18 → V' c = V c)
theorem m13_9 (l : Launch) : M13_9 l 0 0 (fun a p f n q S V => j_mI S V a ∧ j_I32 f ∧ j_I32 n) (fun a p f n q S V r S' V' => S' = S ∧ j_r5 a p f n q V r V') := by
  refine e13_9 ?_
  rintro C G h hrm hcs hl hn a p f n q S V ht ⟨hI, hf, hn9⟩ R
  obtain ⟨L, -, a0, ⟨hR, hS, hB⟩, hk, h2, h4, h3⟩ := id hI
  have F7 : ∀ {f : Int}, f < 0 → f < 0 ∧ -2147483648 ≤ V a 3 ∧ V a 3 < 2147483647 := fun hf => ⟨hf, j_mI_F hI⟩
  have no : ¬ (0 ≤ p ∧ p < 6 ∧ 0 ≤ q ∧ q < 6 ∧ 0 ≤ f ∧ 0 ≤ n ∧ f + n ≤ V (a + 2) p) → j_ok n_KT 6 C G 42 [(0, (2, a))] [] S V 0 0 := fun q => (t13_9_42 h hrm ht (m13_2 C.2.1) (F7 (by decide)) (Nat.zero_le _) (Nat.zero_le _) (by rintro r9 S9 V9 ⟨e0, e9, er⟩; subst e0; subst e9; subst er; exact t13_9_47 h R (⟨rfl, Or.inl ⟨q, rfl, rfl⟩⟩) (Nat.zero_le _) (Nat.zero_le _)))
  refine t13_9_0 h hrm (m13_4 C.2.1) trivial (Nat.zero_le _) (Nat.zero_le _) ?_
  rintro y S1 V1 ⟨e0, e1, hy⟩
  subst e0; subst e1
  refine t13_9_4 h (fun z => no (fun x => hy.n z ⟨x.1, x.2.1⟩)) (fun z => ?_)
  obtain ⟨p0, p1⟩ := hy.y z
  refine t13_9_7 h hrm (m13_4 C.2.1) trivial (Nat.zero_le _) (Nat.zero_le _) ?_
  rintro y2 S2 V2 ⟨e0, e1, hy2⟩
  subst e0; subst e1
  refine t13_9_12 h (fun z => no (fun x => hy2.n z ⟨x.2.2.1, x.2.2.2.1⟩)) (fun z => ?_)
  obtain ⟨q0, q1⟩ := hy2.y z
  obtain ⟨s0, s1, s2⟩ := hR p p0 p1
  obtain ⟨u0, u1, u2⟩ := hR q q0 q1
  rw [show a + 1 + 1 = a + 2 by omega] at s0 s1 s2 u0 u1 u2
  refine t13_9_15 h (fun z => no (by omega)) (fun f0 => t13_9_19 h (fun z => no (by omega)) (fun n0 => t13_9_23 h L (by omega) ht p0 p1 (fun n1 => ?_) (fun z => no (by omega))))
  refine t13_9_48 h L ht q0 q1 (by omega) (fun n2 => ?_) (fun z => (t13_9_66 h hrm ht (m13_2 C.2.1) (F7 (by decide)) (Nat.zero_le _) (Nat.zero_le _) (by rintro r9 S9 V9 ⟨e0, e9, er⟩; subst e0; subst e9; subst er; exact t13_9_72 h R (⟨rfl, Or.inr (Or.inl ⟨p0, p1, q0, q1, f0, n0, n1, z, rfl, rfl⟩)⟩) (Nat.zero_le _) (Nat.zero_le _))))
  refine t13_9_73 h ?_
  have second : ∀ V3 : jH, (∀ k : Int, 0 ≤ k → k < n → V3 (a + 18) k = V2 (a + 3) (400 * p + f + k)) → (∀ c : Int, c ≠ a + 18 → V3 c = V2 c) → j_ok n_KT 6 C G 113 [(0, (2, a)), (3, (0, n)), (4, (0, q))] [] S2 V3 0 0 := by
    intro V3 g1 g2
    have v2 : V3 (a + 2) = V2 (a + 2) := g2 _ (by omega)
    have v3 : V3 (a + 3) = V2 (a + 3) := g2 _ (by omega)
    refine t13_9_113 h ?_
    have loop : ∀ (i : Int) (V4 : jH), (0 ≤ i ∧ i ≤ n ∧ (∀ k : Int, (k < 400 * q + V2 (a + 2) q ∨ 400 * q + V2 (a + 2) q + i ≤ k) → V4 (a + 3) k = V2 (a + 3) k) ∧ (∀ k : Int, 0 ≤ k → k < i → V4 (a + 3) (400 * q + V2 (a + 2) q + k) = V2 (a + 3) (400 * p + f + k)) ∧ ∀ c : Int, c ≠ a + 3 → V4 c = V3 c) → j_ok n_KT 6 C G 116 [(0, (2, a)), (3, (0, n)), (4, (0, q)), (5, (0, i))] [] S2 V4 0 0 := by
      refine j_loop (N := n) (fun i V4 hi hI kk => ?_) (fun i V4 hi hI => ?_)
      · obtain ⟨x0, x1, x2, x3, x4⟩ := hI
        have w2 : V4 (a + 2) q = V2 (a + 2) q := by rw [x4 _ (by omega), v2]
        have w18 : V4 (a + 18) i = V2 (a + 3) (400 * p + f + i) := by rw [x4 _ (by omega)]; exact g1 i x0 hi
        refine t13_9_116 h (fun z => absurd z (by omega)) (fun _ => ?_)
        refine t13_9_122 h L ht (by omega) q0 q1 (by omega) (by omega) x0 (by omega) (by omega) (by omega) (by omega) (kk _ ⟨(by omega), (by omega), fun k hk => ?_, fun k k0 k1 => ?_, fun c hc => ?_⟩)
        · rw [w2, j_up_off (by omega)]; exact x2 k (by omega)
        · rw [w2, w18]
          by_cases e : k = i
          · rw [e, j_up_at]
          · rw [j_up_off (by omega)]; exact x3 k k0 (by omega)
        · rw [j_up_ne hc]; exact x4 c hc
      · obtain ⟨x0, x1, x2, x3, x4⟩ := hI
        have ei : i = n := by omega
        subst ei
        have w2 : V4 (a + 2) = V2 (a + 2) := by rw [x4 _ (by omega), v2]
        refine t13_9_116 h (fun _ => t13_9_163 h L ht q0 q1 (by rw [w2]; omega) R ⟨rfl, Or.inr (Or.inr ⟨p0, p1, q0, q1, f0, n0, n1, n2, by rw [w2], by rw [j_up_at, w2], fun x hx => by rw [j_up_off hx, w2], fun k hk => by rw [j_up_ne (by omega)]; exact x2 k hk, fun k k0 k1 => by rw [j_up_ne (by omega)]; exact x3 k k0 k1, fun c c0 c1 c2 => by rw [j_up_ne c0, x4 c c1]; exact g2 c c2⟩)⟩ (Nat.le_refl _) (Nat.le_refl _)) (fun z => absurd z (by omega))
    exact loop 0 V3 ⟨(by omega), n0, fun k _ => by rw [v3], fun k k0 k1 => absurd k1 (by omega), fun _ _ => rfl⟩
  have loop : ∀ (i : Int) (V3 : jH), (0 ≤ i ∧ i ≤ n ∧ (∀ k : Int, 0 ≤ k → k < i → V3 (a + 18) k = V2 (a + 3) (400 * p + f + k)) ∧ ∀ c : Int, c ≠ a + 18 → V3 c = V2 c) → j_ok n_KT 6 C G 76 [(0, (2, a)), (1, (0, p)), (2, (0, f)), (3, (0, n)), (4, (0, q)), (5, (0, i))] [] S2 V3 0 0 := by
    refine j_loop (N := n) (fun i V3 hi hI kk => ?_) (fun i V3 hi hI => ?_)
    · obtain ⟨x0, x1, x2, x3⟩ := hI
      refine t13_9_76 h (fun z => absurd z (by omega)) (fun _ => ?_)
      refine t13_9_82 h L ht (by omega) (by omega) (by omega) (by omega) (by omega) x0 (by omega) (by omega) (kk _ ⟨(by omega), (by omega), fun k k0 k1 => ?_, fun c hc => ?_⟩)
      · by_cases e : k = i
        · rw [e, j_up_at, x3 _ (by omega)]
        · rw [j_up_off e]; exact x2 k k0 (by omega)
      · rw [j_up_ne hc]; exact x3 c hc
    · obtain ⟨x0, x1, x2, x3⟩ := hI
      have ei : i = n := by omega
      subst ei
      exact t13_9_76 h (fun _ => second V3 x2 x3) (fun z => absurd z (by omega))
  exact loop 0 V2 ⟨(by omega), n0, fun k k0 k1 => absurd k1 (by omega), fun _ _ => rfl⟩
theorem m13_11 (l : Launch) : M13_11 l 0 0 (fun a t p s S V => 0 ≤ t ∧ t < 10 ∧ 0 ≤ p ∧ p < 4 ∧ 0 ≤ s ∧ s < 256) (fun a t p s S V r S' V' => S' = S ∧ V' = V ∧ r = 1024 * t + 256 * p + s) := by
  refine e13_11 ?_
  rintro C G h hrm hcs hl hn a t p s S V ht ⟨t0, t1, p0, p1, s0, s1⟩ R
  exact t13_11_0 h (by omega) (by omega) (by omega) (by omega) R ⟨rfl, rfl, rfl⟩ (Nat.le_refl _) (Nat.le_refl _)
theorem j_mT_sh {V : jH} {b t p s : Int} (h : j_mT V b t) (p0 : 0 ≤ p) (p1 : p < 4) (s0 : 0 ≤ s) (s1 : s ≤ 256) : 0 ≤ j_pre (j_rs (V (b + 6)) (1024 * t + 256 * p)) s ∧ j_pre (j_rs (V (b + 6)) (1024 * t + 256 * p)) s ≤ j_M (V (b + 4) t) := by
  obtain ⟨q1, q2, q3, q4, q5, q6, q7, q8⟩ := h
  have nn : ∀ k : Int, 0 ≤ k → k < 256 → 0 ≤ j_rs (V (b + 6)) (1024 * t + 256 * p) k := fun k k0 k1 => by
    show 0 ≤ V (b + 6) (1024 * t + 256 * p + k)
    rw [show 1024 * t + 256 * p + k = 1024 * t + (256 * p + k) by omega]; exact q5 _ (by omega) (by omega)
  have mono : ∀ n : Nat, n ≤ 256 → 0 ≤ j_pre (j_rs (V (b + 6)) (1024 * t + 256 * p)) n ∧ ∀ m : Nat, n ≤ m → m ≤ 256 → j_pre (j_rs (V (b + 6)) (1024 * t + 256 * p)) n ≤ j_pre (j_rs (V (b + 6)) (1024 * t + 256 * p)) m := by
    intro n hn
    constructor
    · induction n with
      | zero => exact Int.le_refl _
      | succ n ih =>
        rw [show ((n + 1 : Nat) : Int) = (n : Int) + 1 by omega, j_pre_s _ (by omega)]
        have := ih (by omega)
        have := nn n (by omega) (by omega)
        omega
    · intro m
      induction m with
      | zero => intro h1 h2; have : n = 0 := by omega
                rw [this]; exact Int.le_refl _
      | succ m ih =>
        intro h1 h2
        by_cases e : n = m + 1
        · rw [e]; exact Int.le_refl _
        · rw [show ((m + 1 : Nat) : Int) = (m : Int) + 1 by omega, j_pre_s _ (by omega)]
          have := ih (by omega) (by omega)
          have := nn m (by omega) (by omega)
          omega
  have m1 := mono s.toNat (by omega)
  have m2 := m1.2 256 (by omega) (by omega)
  rw [show ((s.toNat : Nat) : Int) = s by omega] at m1 m2
  have := q6 p p0 p1
  have e : (((256 : Nat) : Nat) : Int) = 256 := rfl
  rw [e] at m2
  exact ⟨m1.1, (by omega)⟩
theorem m13_12 (l : Launch) : M13_12 l 0 0 (fun a t p S V => j_L S ∧ 0 ≤ t ∧ t < 10 ∧ 0 ≤ p ∧ p < 4 ∧ j_mT V (a + 1) t) (fun a t p S V r S' V' => S' = S ∧ V' = V ∧ r = j_pre (j_rs (V (a + 7)) (1024 * t + 256 * p)) 256) := by
  refine e13_12 ?_
  rintro C G h hrm hcs hl hn a t p S V ht ⟨L, t0, t1, p0, p1, hT⟩ R
  have k7 : S.1 (a + 7) = 11 := by have := L11_6k L (L12_0k L ht); rw [show a + 1 + 6 = a + 7 by omega] at this; exact this
  refine t13_12_0 h ?_
  have hm := j_M_bd hT.2.2.1 hT.2.2.2.1
  have loop : ∀ (i : Int) (z : Int), (0 ≤ i ∧ i ≤ 256 ∧ z = j_pre (j_rs (V (a + 7)) (1024 * t + 256 * p)) i) → j_ok n_KT 5 C G 5 [(0, (2, a)), (1, (0, t)), (2, (0, p)), (3, (0, z)), (4, (0, i))] [] S V 0 0 := by
    refine j_loop (N := 256) (fun i z hi hI kk => ?_) (fun i z hi hI => ?_)
    · obtain ⟨g0, g1, e⟩ := hI
      have b1 := j_mT_sh hT p0 p1 (s := i + 1) (by omega) (by omega)
      have b0 := j_mT_sh hT p0 p1 (s := i) (by omega) (by omega)
      rw [show a + 1 + 6 = a + 7 by omega] at b0 b1
      rw [j_pre_s _ g0] at b1
      have ev : j_rs (V (a + 7)) (1024 * t + 256 * p) i = V (a + 7) (1024 * t + 256 * p + i) := rfl
      refine t13_12_5 h (fun q => absurd q (by omega)) (fun _ => ?_)
      refine t13_12_13 h L hrm ht (m13_11 C.2.1) ⟨t0, t1, p0, p1, g0, hi⟩ (Nat.zero_le _) (Nat.zero_le _) ?_
      rintro y S1 V1 ⟨e0, e1, er⟩
      subst e0; subst e1
      rw [er]
      refine t13_12_29 (n_s1 := 10240) h (j_arr_of k7 (by decide) rfl) (by omega) (by omega) (by omega) (by omega) (kk _ ⟨(by omega), (by omega), ?_⟩)
      rw [j_pre_s _ g0, e, ev]
    · obtain ⟨g0, g1, e⟩ := hI
      have ei : i = 256 := by omega
      rw [ei] at e
      exact t13_12_5 h (fun _ => t13_12_38 h R ⟨rfl, rfl, e⟩ (Nat.le_refl _) (Nat.le_refl _)) (fun q => absurd q (by omega))
  exact loop 0 0 ⟨(by omega), (by omega), rfl⟩
