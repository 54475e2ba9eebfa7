/-! THE REFERENCE: tables -/
theorem j_mk7 {S : jS} (L : j_L S) {a : Int} (ht : S.1 a = 33) : S.1 (a + 7) = 11 := by have := L11_6k L (L12_0k L ht); rw [show a + 1 + 6 = a + 7 by omega] at this; exact this
def j_r6 (a k r : Int) (V : jH) (x : Int) (V' : jH) : Prop :=
  (¬ (0 ≤ k ∧ k ≤ 4 ∧ 8 ≤ r ∧ r ≤ 12) ∧ V' = j_md V a ∧ x = -1) ∨ (0 ≤ k ∧ k ≤ 4 ∧ 8 ≤ r ∧ r ≤ 12 ∧ V (a + 1) 2 = 10 ∧ V' = j_md V a ∧ x = -2) ∨
  (0 ≤ k ∧ k ≤ 4 ∧ 8 ≤ r ∧ r ≤ 12 ∧ V (a + 1) 2 < 10 ∧ x = V (a + 1) 2 ∧ V' (a + 1) = j_u (V (a + 1)) 2 (x + 1) ∧ V' (a + 4) = j_u (V (a + 4)) x k ∧ V' (a + 5) = j_u (V (a + 5)) x r ∧ V' (a + 6) = j_u (V (a + 6)) x 0 ∧ (∀ i : Int, (i < 1024 * x ∨ 1024 * x + 1024 ≤ i) → V' (a + 7) i = V (a + 7) i) ∧ (∀ i : Int, 0 ≤ i → i < 1024 → V' (a + 7) (1024 * x + i) = if k = 1 ∨ k = 4 then j_M r / 256 else 0) ∧ ∀ c : Int, c ≠ a + 1 → c ≠ a + 4 → c ≠ a + 5 → c ≠ a + 6 → c ≠ a + 7 → V' c = V c)
theorem j_M_sh {r : Int} (r0 : 8 ≤ r) (r1 : r ≤ 12) : (2 : Int) ^ (r - 8).toNat = j_M r / 256 := by
  have : r = 8 ∨ r = 9 ∨ r = 10 ∨ r = 11 ∨ r = 12 := by omega
  rcases this with e | e | e | e | e <;> subst e <;> decide
theorem m13_10 (l : Launch) : M13_10 l 0 0 (fun a k r S V => j_mI S V a) (fun a k r S V x S' V' => S' = S ∧ j_r6 a k r V x V') := by
  refine e13_10 ?_
  rintro C G h hrm hcs hl hn a k r S V ht hI R
  obtain ⟨L, -, a0, ⟨hR, hS, hB⟩, hk, h2, h4, h3⟩ := id hI
  have F7 : ∀ {f : Int}, f < 0 → f < 0 ∧ -2147483648 ≤ V a 3 ∧ V a 3 < 2147483647 := fun hf => ⟨hf, j_mI_F hI⟩
  have k7 := j_mk7 L ht
  have no : ¬ (0 ≤ k ∧ k ≤ 4 ∧ 8 ≤ r ∧ r ≤ 12) → j_ok n_KT 5 C G 26 [(0, (2, a))] [] S V 0 0 := fun q => (t13_10_26 h hrm ht (m13_2 C.2.1) (F7 (by decide)) (Nat.zero_le _) (Nat.zero_le _) (by rintro r9 S9 V9 ⟨e0, e9, er⟩; subst e0; subst e9; subst er; exact t13_10_31 h R (⟨rfl, Or.inl ⟨q, rfl, rfl⟩⟩) (Nat.zero_le _) (Nat.zero_le _)))
  refine t13_10_0 h hrm (m13_3 C.2.1) trivial (Nat.zero_le _) (Nat.zero_le _) ?_
  rintro y S1 V1 ⟨e0, e1, hy⟩
  subst e0; subst e1
  refine t13_10_9 h (fun q => no (fun z => hy.n q ⟨z.1, z.2.1⟩)) (fun q => ?_)
  obtain ⟨k0, k1⟩ := hy.y q
  refine t13_10_12 h hrm (m13_3 C.2.1) trivial (Nat.zero_le _) (Nat.zero_le _) ?_
  rintro y2 S2 V2 ⟨e0, e1, hy2⟩
  subst e0; subst e1
  refine t13_10_23 h (fun q => ?_) (fun q => no (fun z => hy2.n q z.2.2))
  obtain ⟨r0, r1⟩ := hy2.y q
  have n0 := hS.1
  have n1 := hS.2.1
  refine t13_10_32 h L ht (fun q => ?_) (fun q => (t13_10_44 h hrm ht (m13_2 C.2.1) (F7 (by decide)) (Nat.zero_le _) (Nat.zero_le _) (by rintro r9 S9 V9 ⟨e0, e9, er⟩; subst e0; subst e9; subst er; exact t13_10_50 h R (⟨rfl, Or.inr (Or.inl ⟨k0, k1, r0, r1, q, rfl, rfl⟩)⟩) (Nat.zero_le _) (Nat.zero_le _))))
  refine t13_10_51 h L ht n0 (by omega) ?_
  generalize ex : V2 (a + 1) 2 = x at *
  have loop : ∀ (i : Int) (V3 : jH), (0 ≤ i ∧ i ≤ 1024 ∧ (∀ j : Int, (j < 1024 * x ∨ 1024 * x + i ≤ j) → V3 (a + 7) j = V2 (a + 7) j) ∧ (∀ j : Int, 0 ≤ j → j < i → V3 (a + 7) (1024 * x + j) = if k = 1 ∨ k = 4 then j_M r / 256 else 0) ∧ ∀ c : Int, c ≠ a + 7 → V3 c = j_up (j_up (j_up V2 (a + 4) x k) (a + 5) x r) (a + 6) x 0 c) → j_ok n_KT 5 C G 92 [(0, (2, a)), (1, (0, k)), (2, (0, r)), (3, (0, x)), (4, (0, i))] [] S2 V3 0 0 := by
    refine j_loop (N := 1024) (fun i V3 hi hI kk => ?_) (fun i V3 hi hI => ?_)
    · obtain ⟨g0, g1, g2, g3, g4⟩ := hI
      refine t13_10_92 h (fun z => absurd z (by omega)) (fun _ => ?_)
      have st : ∀ y : Int, (y = if k = 1 ∨ k = 4 then j_M r / 256 else 0) → j_ok n_KT 5 C G 135 [(0, (2, a)), (1, (0, k)), (2, (0, r)), (3, (0, x)), (4, (0, i))] [(0, y), (0, 1024 * x + i), (2, a + 7)] S2 V3 0 0 := fun y ey => by
        refine t13_10_135 (n_s2 := 10240) h (j_arr_of k7 (by decide) rfl) (by omega) (by omega) (by omega) (kk _ ⟨(by omega), (by omega), fun j hj => ?_, fun j j0 j1 => ?_, fun c hc => ?_⟩)
        · rw [j_up_off (by omega)]; exact g2 j (by omega)
        · by_cases e : j = i
          · rw [e, j_up_at]; exact ey
          · rw [j_up_off (by omega)]; exact g3 j j0 (by omega)
        · rw [j_up_ne hc]; exact g4 c hc
      have flat : (k = 1 ∨ k = 4) → j_ok n_KT 5 C G 125 [(0, (2, a)), (1, (0, k)), (2, (0, r)), (3, (0, x)), (4, (0, i))] [(0, 1024 * x + i), (2, a + 7)] S2 V3 0 0 := fun z => t13_10_125 h (by omega) (by omega) (by omega) (st _ (by rw [if_pos z]; exact j_M_sh r0 r1))
      exact t13_10_100 h L ht (by omega) (by omega) (fun z => flat (Or.inl z)) (fun z => t13_10_120 h (fun z2 => t13_10_134 h (st 0 (by rw [if_neg (by omega)]))) (fun z2 => flat (Or.inr z2)))
    · obtain ⟨g0, g1, g2, g3, g4⟩ := hI
      have ei : i = 1024 := by omega
      subst ei
      have v1 : V3 (a + 1) = V2 (a + 1) := by rw [g4 _ (by omega), j_up_ne (by omega), j_up_ne (by omega), j_up_ne (by omega)]
      refine t13_10_92 h (fun _ => t13_10_142 h L ht (by rw [v1, ex]; omega) R ⟨rfl, Or.inr (Or.inr ⟨k0, k1, r0, r1, (by omega), by rw [ex], ?_, ?_, ?_, ?_, fun j hj => by rw [j_up_ne (by omega)]; exact g2 j (by omega), fun j j0 j1 => by rw [j_up_ne (by omega)]; exact g3 j j0 j1, fun c c0 c1 c2 c3 c4 => ?_⟩)⟩ (Nat.le_refl _) (Nat.le_refl _)) (fun z => absurd z (by omega))
      · rw [j_up_u, v1, ex]
      · rw [j_up_ne (by omega), g4 _ (by omega), j_up_ne (by omega), j_up_ne (by omega), j_up_u]
      · rw [j_up_ne (by omega), g4 _ (by omega), j_up_ne (by omega), j_up_u, j_up_ne (by omega)]
      · rw [j_up_ne (by omega), g4 _ (by omega), j_up_u, j_up_ne (by omega), j_up_ne (by omega)]
      · rw [j_up_ne c0, g4 c c4, j_up_ne c3, j_up_ne c2, j_up_ne c1]
  exact loop 0 _ ⟨(by omega), (by omega), fun j _ => by rw [j_up_ne (by omega), j_up_ne (by omega), j_up_ne (by omega)], fun j j0 j1 => absurd j1 (by omega), fun _ _ => rfl⟩
theorem j_mI_T {S : jS} {V : jH} {a t : Int} (h : j_mI S V a) (t0 : 0 ≤ t) (t1 : t < V (a + 1) 2) : t < 10 ∧ j_mT V (a + 1) t := ⟨by have := h.2.2.2.1.2.1.2.1; omega, h.2.2.2.1.2.1.2.2.2 t t0 t1⟩
/-- shares that all have -/
def j_rsum (V : jH) (a t : Int) : Int := j_pre (j_rs (V (a + 7)) (1024 * t)) 256
def j_r7 (a tb s f : Int) (V : jH) (r : Int) (V' : jH) : Prop :=
  (¬ (0 ≤ tb ∧ tb < V (a + 1) 2) ∧ V' = j_md V a ∧ r = -1) ∨
  (0 ≤ tb ∧ tb < V (a + 1) 2 ∧ ((V (a + 4) tb ≠ 0 ∧ V' = j_md V a ∧ r = -3) ∨ (V (a + 4) tb = 0 ∧ (
    (¬ (0 ≤ s ∧ s < 256 ∧ 0 ≤ f ∧ f ≤ j_M (V (a + 5) tb)) ∧ V' = j_md V a ∧ r = -1) ∨
    (0 ≤ s ∧ s < 256 ∧ 0 ≤ f ∧ f ≤ j_M (V (a + 5) tb) ∧ (
      (j_M (V (a + 5) tb) < j_rsum V a tb - V (a + 7) (1024 * tb + s) + f ∧ V' = j_md V a ∧ r = -2) ∨
      (j_rsum V a tb - V (a + 7) (1024 * tb + s) + f ≤ j_M (V (a + 5) tb) ∧ r = j_rsum V a tb - V (a + 7) (1024 * tb + s) + f ∧ V' = j_up V (a + 7) (1024 * tb + s) f)))))))
theorem m13_13 (l : Launch) : M13_13 l 0 0 (fun a tb s f S V => j_mI S V a) (fun a tb s f S V r S' V' => S' = S ∧ j_r7 a tb s f V r V') := by
  refine e13_13 ?_
  rintro C G h hrm hcs hl hn a tb s f S V ht hI R
  obtain ⟨L, -, a0, ⟨hR, hS, hB⟩, hk, h2, h4, h3⟩ := id hI
  have F7 : ∀ {f : Int}, f < 0 → f < 0 ∧ -2147483648 ≤ V a 3 ∧ V a 3 < 2147483647 := fun hf => ⟨hf, j_mI_F hI⟩
  have k7 := j_mk7 L ht
  refine t13_13_0 h hrm ht (m13_5 C.2.1) ⟨L, hS.1, hS.2.1⟩ (Nat.zero_le _) (Nat.zero_le _) ?_
  rintro y S1 V1 ⟨e0, e1, hy⟩
  subst e0; subst e1
  refine t13_13_5 h (fun q => ?_) (fun q => (t13_13_8 h hrm ht (m13_2 C.2.1) (F7 (by decide)) (Nat.zero_le _) (Nat.zero_le _) (by rintro r9 S9 V9 ⟨e0, e9, er⟩; subst e0; subst e9; subst er; exact t13_13_13 h R (⟨rfl, Or.inl ⟨hy.n q, rfl, rfl⟩⟩) (Nat.zero_le _) (Nat.zero_le _))))
  obtain ⟨t0, t1⟩ := hy.y q
  obtain ⟨t2, hT⟩ := j_mI_T hI t0 t1
  obtain ⟨q1, q2, q3, q4, q5, q6, q7, q8⟩ := id hT
  rw [show a + 1 + 3 = a + 4 by omega] at q1 q2 q7 q8
  rw [show a + 1 + 4 = a + 5 by omega] at q3 q4 q6
  rw [show a + 1 + 6 = a + 7 by omega] at q5 q6
  have hm := j_M_bd q3 q4
  have eM : (2 : Int) ^ (V1 (a + 5) tb).toNat = j_M (V1 (a + 5) tb) := rfl
  refine t13_13_14 h L ht t0 t2 (fun q => ?_) (fun q => (t13_13_26 h hrm ht (m13_2 C.2.1) (F7 (by decide)) (Nat.zero_le _) (Nat.zero_le _) (by rintro r9 S9 V9 ⟨e0, e9, er⟩; subst e0; subst e9; subst er; exact t13_13_32 h R (⟨rfl, Or.inr ⟨t0, t1, Or.inl ⟨q, rfl, rfl⟩⟩⟩) (Nat.zero_le _) (Nat.zero_le _))))
  have no : ¬ (0 ≤ s ∧ s < 256 ∧ 0 ≤ f ∧ f ≤ j_M (V1 (a + 5) tb)) → j_ok n_KT 6 C G 70 [(0, (2, a))] [] S1 V1 0 0 := fun z => (t13_13_70 h hrm ht (m13_2 C.2.1) (F7 (by decide)) (Nat.zero_le _) (Nat.zero_le _) (by rintro r9 S9 V9 ⟨e0, e9, er⟩; subst e0; subst e9; subst er; exact t13_13_75 h R (⟨rfl, Or.inr ⟨t0, t1, Or.inr ⟨q, Or.inl ⟨z, rfl, rfl⟩⟩⟩⟩) (Nat.zero_le _) (Nat.zero_le _)))
  refine t13_13_33 h L hrm ht t0 t2 (by omega) (by omega) (m13_3 C.2.1) trivial (Nat.zero_le _) (Nat.zero_le _) ?_
  rintro y2 S2 V2 ⟨e0, e1, hy2⟩
  subst e0; subst e1
  rw [eM]
  refine t13_13_55 h (fun z => no (fun x => hy2.n z ⟨x.1, by omega⟩)) (fun z => ?_)
  obtain ⟨s0, s1⟩ := hy2.y z
  refine t13_13_58 h hrm (m13_3 C.2.1) trivial (Nat.zero_le _) (Nat.zero_le _) ?_
  rintro y3 S3 V3 ⟨e0, e1, hy3⟩
  subst e0; subst e1
  refine t13_13_67 h (fun z => ?_) (fun z => no (fun x => hy3.n z x.2.2))
  obtain ⟨f0, f1⟩ := hy3.y z
  refine t13_13_76 h hrm ht (m13_12 C.2.1) ⟨L, t0, t2, (by omega), (by omega), hT⟩ (Nat.zero_le _) (Nat.zero_le _) ?_
  rintro y4 S4 V4 ⟨e0, e1, er⟩
  subst e0; subst e1
  have er' : y4 = j_rsum V4 a tb := by rw [er]; unfold j_rsum; rw [show 1024 * tb + 256 * 0 = 1024 * tb by omega]
  have bs := j_mT_sh hT (p := 0) (by omega) (by omega) (s := 256) (by omega) (by omega)
  rw [show a + 1 + 6 = a + 7 by omega, ← er, show a + 1 + 4 = a + 5 by omega] at bs
  have b1 := j_mT_sh hT (p := 0) (by omega) (by omega) (s := s + 1) (by omega) (by omega)
  have b0 := j_mT_sh hT (p := 0) (by omega) (by omega) (s := s) (by omega) (by omega)
  rw [j_pre_s _ s0] at b1
  have ev : j_rs (V4 (a + 1 + 6)) (1024 * tb + 256 * 0) s = V4 (a + 7) (1024 * tb + s) := by
    show V4 (a + 1 + 6) (1024 * tb + 256 * 0 + s) = _
    rw [show a + 1 + 6 = a + 7 by omega, show 1024 * tb + 256 * 0 + s = 1024 * tb + s by omega]
  rw [ev, show a + 1 + 4 = a + 5 by omega] at b1
  refine t13_13_82 h L hrm ht (m13_11 C.2.1) ⟨t0, t2, (by omega), (by omega), s0, (by omega)⟩ (Nat.zero_le _) (Nat.zero_le _) ?_
  rintro y5 S5 V5 ⟨e0, e1, er5⟩
  subst e0; subst e1
  rw [er5, show 1024 * tb + 256 * 0 + s = 1024 * tb + s by omega]
  have v0 := q5 s s0 (by omega)
  refine t13_13_96 (n_s1 := 10240) h (j_arr_of k7 (by decide) rfl) (by omega) (by omega) (by omega) (by omega) (fun z => ?_) (fun z => (t13_13_109 h hrm ht (m13_2 C.2.1) (F7 (by decide)) (Nat.zero_le _) (Nat.zero_le _) (by rintro r9 S9 V9 ⟨e0, e9, er⟩; subst e0; subst e9; subst er; exact t13_13_115 h R (⟨rfl, Or.inr ⟨t0, t1, Or.inr ⟨q, Or.inr ⟨s0, by omega, f0, f1, Or.inl ⟨by rw [← er']; exact z, rfl, rfl⟩⟩⟩⟩⟩) (Nat.zero_le _) (Nat.zero_le _))))
  refine t13_13_116 h L hrm ht (m13_11 C.2.1) ⟨t0, t2, (by omega), (by omega), s0, (by omega)⟩ (Nat.zero_le _) (Nat.zero_le _) ?_
  rintro y6 S6 V6 ⟨e0, e1, er6⟩
  subst e0; subst e1
  rw [er6, show 1024 * tb + 256 * 0 + s = 1024 * tb + s by omega]
  exact t13_13_130 (n_s1 := 10240) h (j_arr_of k7 (by decide) rfl) (by omega) (by omega) (by omega) R ⟨rfl, Or.inr ⟨t0, t1, Or.inr ⟨q, Or.inr ⟨s0, (by omega), f0, f1, Or.inr ⟨by rw [← er']; exact z, by rw [← er'], rfl⟩⟩⟩⟩⟩ (Nat.le_refl _) (Nat.le_refl _)
theorem m13_19 (l : Launch) : M13_19 l 0 0 (fun a t p S V => j_L S ∧ 0 ≤ t ∧ t < 10) (fun a t p S V r S' V' => S' = S ∧ V' = V ∧ j_says r (0 ≤ p ∧ p < j_parts (V (a + 4) t))) := by
  refine e13_19 ?_
  rintro C G h hrm hcs hl hn a t p S V ht ⟨L, t0, t1⟩ R
  have fin : ∀ hi : Int, hi + 1 = j_parts (V (a + 4) t) → j_ok n_KT 3 C G 23 [] [(1, hi), (1, 0), (1, p)] S V 0 0 := fun hi e => by
    refine t13_19_23 h hrm (m13_3 C.2.1) trivial (Nat.zero_le _) (Nat.zero_le _) ?_
    rintro y S1 V1 ⟨e0, e1, hy⟩
    subst e0; subst e1
    exact t13_19_26 h R hy.bit ⟨rfl, rfl, hy.iff (by omega)⟩ (Nat.le_refl _) (Nat.le_refl _)
  exact t13_19_0 h L ht t0 t1 (fun q => t13_19_22 h (fin 0 (by unfold j_parts; rw [if_neg q]; rfl))) (fun q => t13_19_16 h (fin 3 (by unfold j_parts; rw [if_pos q]; rfl)))
/-- an open table of the reference -/
def j_ropen (V : jH) (a t : Int) : Prop := (V (a + 4) t = 0 ∧ j_rsum V a t ≠ j_M (V (a + 5) t)) ∨ ((V (a + 4) t = 2 ∨ V (a + 4) t = 3) ∧ V (a + 6) t = 0)
theorem m13_14 (l : Launch) : M13_14 l 0 0 (fun a t S V => j_mI S V a ∧ 0 ≤ t ∧ t < V (a + 1) 2) (fun a t S V r S' V' => S' = S ∧ V' = V ∧ j_says r (j_ropen V a t)) := by
  refine e13_14 ?_
  rintro C G h hrm hcs hl hn a t S V ht ⟨hI, t0, t1⟩ R
  obtain ⟨L, -⟩ := id hI
  obtain ⟨t2, hT⟩ := j_mI_T hI t0 t1
  obtain ⟨q1, q2, q3, q4, q5, q6, q7, q8⟩ := id hT
  rw [show a + 1 + 4 = a + 5 by omega] at q3 q4
  have hy : j_ropen V a t → ∀ (pc : Nat), j_ok n_KT 2 C G 83 [] [(0, 1)] S V 0 0 := fun q _ => t13_14_83 h R (by decide) ⟨rfl, rfl, Or.inl ⟨rfl, q⟩⟩ (Nat.le_refl _) (Nat.le_refl _)
  have hno : ¬ j_ropen V a t → j_ok n_KT 2 C G 83 [] [(0, 0)] S V 0 0 := fun q => t13_14_83 h R (by decide) ⟨rfl, rfl, Or.inr ⟨rfl, q⟩⟩ (Nat.le_refl _) (Nat.le_refl _)
  refine t13_14_0 h L ht t0 t2 (fun q => ?_) (fun q => ?_)
  · have n82 : ¬ j_ropen V a t → j_ok n_KT 2 C G 82 [] [] S V 0 0 := fun z => t13_14_82 h (hno z)
    have n66 : (V (a + 4) t = 2 ∨ V (a + 4) t = 3) → j_ok n_KT 2 C G 66 [(0, (2, a)), (1, (0, t))] [] S V 0 0 := fun z => by
      refine t13_14_66 h L ht t0 t2 (fun z2 => n82 ?_) (fun z2 => t13_14_78 h (hy (Or.inr ⟨z, z2⟩) 0))
      rintro (x | x)
      · exact q x.1
      · exact z2 x.2
    refine t13_14_40 h L ht t0 t2 (fun z => n66 (Or.inl z)) (fun z => t13_14_53 h L ht t0 t2 (fun z2 => n82 ?_) (fun z2 => n66 (Or.inr z2)))
    rintro (x | x)
    · exact q x.1
    · rcases x.1 with y | y
      · exact z y
      · exact z2 y
  · refine t13_14_12 h hrm ht (m13_12 C.2.1) ⟨L, t0, t2, (by omega), (by omega), hT⟩ (Nat.zero_le _) (Nat.zero_le _) ?_
    rintro y S1 V1 ⟨e0, e1, er⟩
    subst e0; subst e1
    have er' : y = j_rsum V1 a t := by rw [er]; unfold j_rsum; rw [show 1024 * t + 256 * 0 = 1024 * t by omega]
    have eM : (2 : Int) ^ (V1 (a + 5) t).toNat = j_M (V1 (a + 5) t) := rfl
    refine t13_14_18 h L ht t0 t2 (by omega) (by omega) (fun z => t13_14_36 h (hno ?_)) (fun z => t13_14_32 h (hy (Or.inl ⟨q, ?_⟩) 0))
    · rw [eM, er'] at z
      rintro (x | x)
      · exact x.2 z
      · omega
    · rw [eM, er'] at z; exact z
/-- the deals of a table that is not open are whole -/
theorem j_ropen_n {V : jH} {a t p : Int} (hT : j_mT V (a + 1) t) (h : ¬ j_ropen V a t) (p0 : 0 ≤ p) (p1 : p < j_parts (V (a + 4) t)) : j_pre (j_rs (V (a + 7)) (1024 * t + 256 * p)) 256 = j_M (V (a + 5) t) := by
  obtain ⟨q1, q2, q3, q4, q5, q6, q7, q8⟩ := hT
  rw [show a + 1 + 3 = a + 4 by omega] at q1 q2 q7 q8
  rw [show a + 1 + 4 = a + 5 by omega] at q3 q4 q6 q7 q8
  rw [show a + 1 + 6 = a + 7 by omega] at q5 q6 q7 q8
  rw [show a + 1 + 5 = a + 6 by omega] at q8
  have pp := (j_parts_bd (V (a + 4) t)).2
  have : V (a + 4) t = 0 ∨ (V (a + 4) t = 1 ∨ V (a + 4) t = 4) ∨ (V (a + 4) t = 2 ∨ V (a + 4) t = 3) := by omega
  rcases this with k | k | k
  · have : p = 0 := by unfold j_parts at p1; rw [if_neg (by omega)] at p1; omega
    rw [this, show 1024 * t + 256 * 0 = 1024 * t by omega]
    exact Decidable.of_not_not (fun z => h (Or.inl ⟨k, z⟩))
  · have e : ∀ s : Int, 0 ≤ s → s < 256 → j_rs (V (a + 7)) (1024 * t + 256 * p) s = j_M (V (a + 5) t) / 256 := fun s s0 s1 => by
      show V (a + 7) (1024 * t + 256 * p + s) = _
      rw [show 1024 * t + 256 * p + s = 1024 * t + (256 * p + s) by omega]; exact q7 k _ (by omega) (by omega)
    have g : ∀ m : Nat, m ≤ 256 → j_pre (j_rs (V (a + 7)) (1024 * t + 256 * p)) m = m * (j_M (V (a + 5) t) / 256) := by
      intro m
      induction m with
      | zero => intro _; show (0 : Int) = 0 * _; omega
      | succ m ih =>
        intro z
        rw [show ((m + 1 : Nat) : Int) = (m : Int) + 1 by omega, j_pre_s _ (by omega), ih (by omega), e m (by omega) (by omega), Int.add_mul]
        omega
    have := g 256 (by omega)
    rw [show (((256 : Nat) : Nat) : Int) = 256 from rfl] at this
    rw [this]; exact (j_M_256 q3 q4).1
  · exact q8 k (fun z => h (Or.inr ⟨k, z⟩)) p p0 p1
def j_r9 (a tb pt s bg : Int) (V : jH) (r : Int) (V' : jH) : Prop :=
  (¬ (0 ≤ tb ∧ tb < V (a + 1) 2 ∧ (0 ≤ pt ∧ pt < j_parts (V (a + 4) tb)) ∧ 0 ≤ s ∧ s < 256) ∧ V' = j_md V a ∧ r = -1) ∨
  (0 ≤ tb ∧ tb < V (a + 1) 2 ∧ (0 ≤ pt ∧ pt < j_parts (V (a + 4) tb)) ∧ 0 ≤ s ∧ s < 256 ∧ ((j_ropen V a tb ∧ V' = j_md V a ∧ r = -4) ∨
    (¬ j_ropen V a tb ∧ V' = V ∧ r = if bg = 0 then V (a + 7) (1024 * tb + 256 * pt + s) else j_pre (j_rs (V (a + 7)) (1024 * tb + 256 * pt)) s)))
theorem m13_20 (l : Launch) : M13_20 l 0 0 (fun a tb pt s bg S V => j_mI S V a) (fun a tb pt s bg S V r S' V' => S' = S ∧ j_r9 a tb pt s bg V r V') := by
  refine e13_20 ?_
  rintro C G h hrm hcs hl hn a tb pt s bg S V ht hI R
  obtain ⟨L, -, a0, ⟨hR, hS, hB⟩, hk, h2, h4, h3⟩ := id hI
  have F7 : ∀ {f : Int}, f < 0 → f < 0 ∧ -2147483648 ≤ V a 3 ∧ V a 3 < 2147483647 := fun hf => ⟨hf, j_mI_F hI⟩
  have k7 := j_mk7 L ht
  have no : ¬ (0 ≤ tb ∧ tb < V (a + 1) 2 ∧ (0 ≤ pt ∧ pt < j_parts (V (a + 4) tb)) ∧ 0 ≤ s ∧ s < 256) → j_ok n_KT 7 C G 29 [(0, (2, a))] [] S V 0 0 := fun z => (t13_20_29 h hrm ht (m13_2 C.2.1) (F7 (by decide)) (Nat.zero_le _) (Nat.zero_le _) (by rintro r9 S9 V9 ⟨e0, e9, er⟩; subst e0; subst e9; subst er; exact t13_20_34 h R (⟨rfl, Or.inl ⟨z, rfl, rfl⟩⟩) (Nat.zero_le _) (Nat.zero_le _)))
  refine t13_20_0 h hrm ht (m13_5 C.2.1) ⟨L, hS.1, hS.2.1⟩ (Nat.zero_le _) (Nat.zero_le _) ?_
  rintro y S1 V1 ⟨e0, e1, hy⟩
  subst e0; subst e1
  refine t13_20_5 h (fun q => no (fun z => hy.n q ⟨z.1, z.2.1⟩)) (fun q => ?_)
  obtain ⟨t0, t1⟩ := hy.y q
  obtain ⟨t2, hT⟩ := j_mI_T hI t0 t1
  refine t13_20_8 h hrm ht (m13_19 C.2.1) ⟨L, t0, t2⟩ (Nat.zero_le _) (Nat.zero_le _) ?_
  rintro y2 S2 V2 ⟨e0, e1, hy2⟩
  subst e0; subst e1
  refine t13_20_14 h (fun q => no (fun z => hy2.n q z.2.2.1)) (fun q => ?_)
  have hpt := hy2.y q
  have pp := (j_parts_bd (V2 (a + 4) tb)).2
  refine t13_20_17 h hrm (m13_3 C.2.1) trivial (Nat.zero_le _) (Nat.zero_le _) ?_
  rintro y3 S3 V3 ⟨e0, e1, hy3⟩
  subst e0; subst e1
  refine t13_20_26 h (fun q => ?_) (fun q => no (fun z => hy3.n q ⟨z.2.2.2.1, by omega⟩))
  obtain ⟨s0, s1⟩ := hy3.y q
  refine t13_20_35 h hrm ht (m13_14 C.2.1) ⟨hI, t0, t1⟩ (Nat.zero_le _) (Nat.zero_le _) ?_
  rintro y4 S4 V4 ⟨e0, e1, hy4⟩
  subst e0; subst e1
  refine t13_20_40 h (fun q => ?_) (fun q => (t13_20_43 h hrm ht (m13_2 C.2.1) (F7 (by decide)) (Nat.zero_le _) (Nat.zero_le _) (by rintro r9 S9 V9 ⟨e0, e9, er⟩; subst e0; subst e9; subst er; exact t13_20_49 h R (⟨rfl, Or.inr ⟨t0, t1, hpt, s0, by omega, Or.inl ⟨hy4.y q, rfl, rfl⟩⟩⟩) (Nat.zero_le _) (Nat.zero_le _))))
  have hop := hy4.n q
  refine t13_20_50 h (fun q => ?_) (fun q => ?_)
  · refine t13_20_71 h ?_
    have loop : ∀ (i : Int) (z : Int), (0 ≤ i ∧ i ≤ s ∧ z = j_pre (j_rs (V4 (a + 7)) (1024 * tb + 256 * pt)) i) → j_ok n_KT 7 C G 77 [(0, (2, a)), (1, (0, tb)), (2, (0, pt)), (3, (0, s)), (5, (0, z)), (6, (0, i))] [] S4 V4 0 0 := by
      refine j_loop (N := s) (fun i z hi hI2 kk => ?_) (fun i z hi hI2 => ?_)
      · obtain ⟨g0, g1, e⟩ := hI2
        have hm := j_M_bd hT.2.2.1 hT.2.2.2.1
        have b1 := j_mT_sh hT hpt.1 (show pt < 4 by omega) (s := i + 1) (by omega) (by omega)
        have b0 := j_mT_sh hT hpt.1 (show pt < 4 by omega) (s := i) (by omega) (by omega)
        rw [show a + 1 + 6 = a + 7 by omega] at b0 b1
        rw [j_pre_s _ g0] at b1
        have ev : j_rs (V4 (a + 7)) (1024 * tb + 256 * pt) i = V4 (a + 7) (1024 * tb + 256 * pt + i) := rfl
        refine t13_20_77 h (fun z => absurd z (by omega)) (fun _ => ?_)
        refine t13_20_83 h L hrm ht (m13_11 C.2.1) ⟨t0, t2, hpt.1, (by omega), g0, (by omega)⟩ (Nat.zero_le _) (Nat.zero_le _) ?_
        rintro y5 S5 V5 ⟨e0, e1, er⟩
        subst e0; subst e1
        rw [er]
        refine t13_20_100 (n_s1 := 10240) h (j_arr_of k7 (by decide) rfl) (by omega) (by omega) (by omega) (by omega) (kk _ ⟨(by omega), (by omega), ?_⟩)
        rw [j_pre_s _ g0, e, ev]
      · obtain ⟨g0, g1, e⟩ := hI2
        have ei : i = s := by omega
        rw [ei] at e
        exact t13_20_77 h (fun _ => t13_20_110 h R ⟨rfl, Or.inr ⟨t0, t1, hpt, s0, (by omega), Or.inr ⟨hop, rfl, by rw [if_neg q]; exact e⟩⟩⟩ (Nat.le_refl _) (Nat.le_refl _)) (fun z => absurd z (by omega))
    exact loop 0 0 ⟨(by omega), s0, rfl⟩
  · refine t13_20_55 h L hrm ht (m13_11 C.2.1) ⟨t0, t2, hpt.1, (by omega), s0, (by omega)⟩ (Nat.zero_le _) (Nat.zero_le _) ?_
    rintro y5 S5 V5 ⟨e0, e1, er⟩
    subst e0; subst e1
    rw [er]
    exact t13_20_69 (n_s1 := 10240) h (j_arr_of k7 (by decide) rfl) (by omega) (by omega) R ⟨rfl, Or.inr ⟨t0, t1, hpt, s0, (by omega), Or.inr ⟨hop, rfl, by rw [if_pos q]⟩⟩⟩ (Nat.le_refl _) (Nat.le_refl _)
def j_r11 (a tb k : Int) (V : jH) (r : Int) (V' : jH) : Prop :=
  (¬ (0 ≤ tb ∧ tb < V (a + 1) 2 ∧ 0 ≤ k ∧ k ≤ 4) ∧ V' = j_md V a ∧ r = -1) ∨
  (0 ≤ tb ∧ tb < V (a + 1) 2 ∧ 0 ≤ k ∧ k ≤ 4 ∧ ((¬ j_isOne (V (a + 4) tb) k ∧ V' = j_md V a ∧ r = -3) ∨ (j_isOne (V (a + 4) tb) k ∧ V' = V ∧ r = tb)))
theorem m13_22 (l : Launch) : M13_22 l 0 0 (fun a tb k S V => j_mI S V a) (fun a tb k S V r S' V' => S' = S ∧ j_r11 a tb k V r V') := by
  refine e13_22 ?_
  rintro C G h hrm hcs hl hn a tb k S V ht hI R
  obtain ⟨L, -, a0, ⟨hR, hS, hB⟩, hk, h2, h4, h3⟩ := id hI
  have F7 : ∀ {f : Int}, f < 0 → f < 0 ∧ -2147483648 ≤ V a 3 ∧ V a 3 < 2147483647 := fun hf => ⟨hf, j_mI_F hI⟩
  have no : ¬ (0 ≤ tb ∧ tb < V (a + 1) 2 ∧ 0 ≤ k ∧ k ≤ 4) → j_ok n_KT 5 C G 20 [(0, (2, a))] [] S V 0 0 := fun z => (t13_22_20 h hrm ht (m13_2 C.2.1) (F7 (by decide)) (Nat.zero_le _) (Nat.zero_le _) (by rintro r9 S9 V9 ⟨e0, e9, er⟩; subst e0; subst e9; subst er; exact t13_22_25 h R (⟨rfl, Or.inl ⟨z, rfl, rfl⟩⟩) (Nat.zero_le _) (Nat.zero_le _)))
  refine t13_22_0 h hrm ht (m13_5 C.2.1) ⟨L, hS.1, hS.2.1⟩ (Nat.zero_le _) (Nat.zero_le _) ?_
  rintro y S1 V1 ⟨e0, e1, hy⟩
  subst e0; subst e1
  refine t13_22_5 h (fun q => no (fun z => hy.n q ⟨z.1, z.2.1⟩)) (fun q => ?_)
  obtain ⟨t0, t1⟩ := hy.y q
  obtain ⟨t2, hT⟩ := j_mI_T hI t0 t1
  refine t13_22_8 h hrm (m13_3 C.2.1) trivial (Nat.zero_le _) (Nat.zero_le _) ?_
  rintro y2 S2 V2 ⟨e0, e1, hy2⟩
  subst e0; subst e1
  refine t13_22_17 h (fun q => ?_) (fun q => no (fun z => hy2.n q z.2.2))
  obtain ⟨k0, k1⟩ := hy2.y q
  have yes : j_isOne (V2 (a + 4) tb) k → j_ok n_KT 5 C G 65 [(0, (2, a)), (1, (0, tb))] [] S2 V2 0 0 := fun z => t13_22_65 h (t13_22_70 h (fun x => absurd x (by decide)) (fun _ => t13_22_77 h (t13_22_87 h R ⟨rfl, Or.inr ⟨t0, t1, k0, k1, Or.inr ⟨z, rfl, rfl⟩⟩⟩ (Nat.le_refl _) (Nat.le_refl _))))
  have nay : ¬ j_isOne (V2 (a + 4) tb) k → j_ok n_KT 5 C G 69 [(0, (2, a)), (1, (0, tb))] [] S2 V2 0 0 := fun z => t13_22_69 h (t13_22_70 h (fun _ => (t13_22_81 h hrm ht (m13_2 C.2.1) (F7 (by decide)) (Nat.zero_le _) (Nat.zero_le _) (by rintro r9 S9 V9 ⟨e0, e9, er⟩; subst e0; subst e9; subst er; exact t13_22_87 h R (⟨rfl, Or.inr ⟨t0, t1, k0, k1, Or.inl ⟨z, rfl, rfl⟩⟩⟩) (Nat.zero_le _) (Nat.zero_le _)))) (fun x => absurd rfl x))
  unfold j_isOne at yes nay
  refine t13_22_26 h L ht t0 t2 (fun z => yes (Or.inl z.symm)) (fun z => ?_)
  have n51 : ¬ (k = 2 ∧ V2 (a + 4) tb = 3) → j_ok n_KT 5 C G 51 [(0, (2, a)), (1, (0, tb)), (2, (0, k)), (3, (0, V2 (a + 4) tb))] [] S2 V2 0 0 := fun z2 => by
    refine t13_22_51 h (fun z3 => nay (by omega)) (fun z3 => t13_22_55 h (fun z4 => yes (by omega)) (fun z4 => t13_22_60 h (fun z5 => nay (by omega)) (fun z5 => yes (by omega))))
  exact t13_22_41 h (fun z2 => n51 (by omega)) (fun z2 => t13_22_46 h (fun z3 => yes (by omega)) (fun z3 => n51 (by omega)))
