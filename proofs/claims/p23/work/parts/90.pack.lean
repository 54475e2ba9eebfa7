/-! THE CLASS: packing by a table -/
/-- all shares of a planned row are there -/
theorem j_plan_ok {V V1 : jH} {e t w : Int} (hT : j_tabOK V t) (hr : j_rowOK V w) (hP : j_plI V e t w (V w 1) V1) (hno : ∀ x : Int, 0 ≤ x → x < V w 1 → j_sh (j_Dt V t w x) (V (w + 1) x) ≠ 0) : V1 (e + 14) 5 = V w 1 ∧ ∀ i : Int, 0 ≤ i → i < V1 (e + 14) 5 → 1 ≤ V1 (e + 18) i ∧ 0 ≤ V1 (e + 19) i ∧ V1 (e + 19) i + V1 (e + 18) i ≤ j_M (V t 2) := by
  obtain ⟨f1, f2, f3, f4, f5, f6⟩ := hP
  refine ⟨f3, fun i i0 i1 => ?_⟩
  rw [f3] at i1
  obtain ⟨g1, g2, g3⟩ := f6 i i0 i1
  have hs := hr.2.2 i i0 i1
  have hD : j_dl (j_Dt V t w i) 0 (j_M (V t 2)) := j_D_dl (k := V t 1) (r := V t 2) (B := fun p => V (t + 3 + 2 * p)) (w := V (w + 1)) (n := V w 1) (i := i) hT.1 hT.2.1 hT.2.2 hr.2.2 i0 (by omega)
  have h1 := hD.2.2 _ hs.1 hs.2
  have h2 := hno i i0 i1
  have h3 := j_dl_bd hD (Int.le_refl _) _ hs.1 (show V (w + 1) i ≤ 256 by omega)
  have h4 := j_dl_bd hD (Int.le_refl _) (V (w + 1) i + 1) (by omega) (by omega)
  have e : j_sh (j_Dt V t w i) (V (w + 1) i) = j_Dt V t w i (V (w + 1) i + 1) - j_Dt V t w i (V (w + 1) i) := rfl
  rw [g2, g3]
  omega
theorem j_pX_by (M la n : Int) (f b : Int → Int) : ∀ (k : Nat) (j : Int), 0 ≤ (j_pX M la n f b k).2.2 j ∧ (j_pX M la n f b k).2.2 j ≤ 255
  | 0, _ => ⟨Int.le_refl 0, by show (0 : Int) ≤ 255; omega⟩
  | k + 1, j => by
    have ih := j_pX_by M la n f b k
    show 0 ≤ j_pb (j_pX M la n f b k).2.2 (j_pX M la n f b k).2.1 ((j_pX M la n f b k).1 ((n - 1 - k) % la)) (f (n - 1 - k)) j ∧ j_pb (j_pX M la n f b k).2.2 (j_pX M la n f b k).2.1 ((j_pX M la n f b k).1 ((n - 1 - k) % la)) (f (n - 1 - k)) j ≤ 255
    generalize (j_pX M la n f b k).1 ((n - 1 - k) % la) = x
    generalize (j_pX M la n f b k).2.1 = u
    unfold j_pb
    split
    · exact ih j
    · split
      · unfold j_u
        split
        · omega
        · exact ih j
      · unfold j_u
        split
        · omega
        · split
          · omega
          · exact ih j
/-- what is packed lies within its bounds -/
theorem j_packed {V1 V2 : jH} {e M la : Int} (M0 : 256 ≤ M) (M1 : M ≤ 4096) (l0 : 1 ≤ la) (n0 : 0 ≤ V1 (e + 14) 5) (n1 : V1 (e + 14) 5 ≤ 400) (hfb : ∀ i : Int, 0 ≤ i → i < V1 (e + 14) 5 → 1 ≤ V1 (e + 18) i ∧ 0 ≤ V1 (e + 19) i ∧ V1 (e + 19) i + V1 (e + 18) i ≤ M) (hK : j_pkI V1 e M la (-1) V2) :
    V2 (e + 14) = V1 (e + 14) ∧ (∀ x : Int, 0 ≤ x → x < 4 → M ≤ V2 (e + 20) x ∧ V2 (e + 20) x < 256 * M) ∧ 0 ≤ V2 e 5 ∧ V2 e 5 ≤ 800 ∧ ∀ i : Int, 0 ≤ i → i < V2 e 5 → 0 ≤ V2 (e + 21) i ∧ V2 (e + 21) i ≤ 255 := by
  obtain ⟨k1, k2, k3, k4, k5, k6⟩ := hK
  have bd := j_pX_bd (la := la) M0 M1 hfb (V1 (e + 14) 5 - 1 - (-1)).toNat (by omega)
  refine ⟨k1 _ (by omega) (by omega) (by omega) (by omega) (by omega), fun x x0 x1 => ?_, ?_, ?_, fun i i0 i1 => ?_⟩
  · rw [k4 x x0 x1]; exact bd.1 x
  · rw [k3]; exact bd.2.1
  · rw [k3]
    have := bd.2.2
    unfold j_PX
    omega
  · rw [k5 i i0 i1]; exact j_pX_by _ _ _ _ _ _ i
def j_try (a t w la : Int) (V : jH) (r : Int) (V' : jH) : Prop :=
  (¬ (t ≠ -1 ∧ w ≠ -1 ∧ 1 ≤ la ∧ la ≤ 4) ∧ V' = j_fd V a ∧ r = -1) ∨
  (t ≠ -1 ∧ w ≠ -1 ∧ 1 ≤ la ∧ la ≤ 4 ∧ ((V (t + 3) 256 ≠ j_M (V t 2) ∧ V' = j_fd V a ∧ r = -4) ∨ (V (t + 3) 256 = j_M (V t 2) ∧
    ∃ (V1 : jH) (m : Int), j_plI V (a + 200) t w (V w 1) V1 ∧ j_miss (fun x => j_sh (j_Dt V t w x) (V (w + 1) x)) (V w 1) m ∧
      ((0 ≤ m ∧ V' = j_fd (j_up V1 (a + 1) 4 m) a ∧ r = -5) ∨ (m = -1 ∧ j_pkI V1 (a + 200) (j_M (V t 2)) la (-1) V' ∧ r = 5 + j_told V t + 3 * la + 2 + V' (a + 200) 5 + 2)))))
def j_isTab (V : jH) (a t : Int) : Prop := t = -1 ∨ ∃ n : Int, 0 ≤ n ∧ n < V (a + 1) 2 ∧ t = j_slotT (a + 1) n
def j_isRow (a w : Int) : Prop := w = -1 ∨ ∃ p : Int, 0 ≤ p ∧ p < 6 ∧ w = a + 3 + 2 * p
theorem j_isTab_N (V : jH) (a n : Int) : j_isTab V a (j_tabN V a n) := by
  unfold j_tabN
  by_cases c : 0 ≤ n ∧ n < V (a + 1) 2
  · rw [if_pos c]; exact Or.inr ⟨n, c.1, c.2, rfl⟩
  · rw [if_neg c]; exact Or.inl rfl
theorem j_isRow_N (a p : Int) : j_isRow a (j_rowN a p) := by
  unfold j_rowN
  by_cases c : 0 ≤ p ∧ p < 6
  · rw [if_pos c]; exact Or.inr ⟨p, c.1, c.2, rfl⟩
  · rw [if_neg c]; exact Or.inl rfl
theorem j_told_congr {V V' : jH} {t : Int} (h : ∀ c : Int, t ≤ c → c ≤ t + 9 → V' c = V c) : j_told V' t = j_told V t := by
  have e : ∀ p : Int, 0 ≤ p → p < 4 → j_toldAt V' t p = j_toldAt V t p := fun p p0 p1 => by unfold j_toldAt; rw [h _ (by omega) (by omega)]
  unfold j_told
  rw [h t (by omega) (by omega), e 0 (by omega) (by omega), e 1 (by omega) (by omega), e 2 (by omega) (by omega), e 3 (by omega) (by omega)]
theorem m1_35 (l : Launch) : M1_35 l 0 0 (fun a t w la S V => j_cI S V a ∧ j_isTab V a t ∧ j_isRow a w) (fun a t w la S V r S' V' => S' = S ∧ j_try a t w la V r V') := by
  refine e1_35 ?_
  rintro C G h hrm hcs hl hn a t w la S V ht ⟨hI, hTn, hWn⟩ R
  obtain ⟨L, -, a0, hw, hk, hd, h6, h7⟩ := id hI
  have F7 := j_cI_F7 hI
  have no : ¬ (t ≠ -1 ∧ w ≠ -1 ∧ 1 ≤ la ∧ la ≤ 4) → j_ok n_KT 5 C G 18 [(0, (2, a))] [] S V 0 0 := fun z => (t1_35_18 h hrm ht (m1_27 C.2.1) F7 (Nat.zero_le _) (Nat.zero_le _) (by rintro r9 S9 V9 ⟨e0, e9, er⟩; subst e0; subst e9; subst er; exact t1_35_23 h R (⟨rfl, Or.inl ⟨z, rfl, rfl⟩⟩) (Nat.zero_le _) (Nat.zero_le _)))
  refine t1_35_0 h (fun z => no (fun y => y.1 z)) (fun tt _ => ?_)
  refine t1_35_4 h (fun z => no (fun y => y.2.1 z)) (fun ww _ => ?_)
  refine t1_35_8 h (fun z => no (by omega)) (fun l0 => t1_35_13 h (fun l1 => ?_) (fun z => no (by omega)))
  obtain ⟨n, n0, n1, et⟩ : ∃ n : Int, 0 ≤ n ∧ n < V (a + 1) 2 ∧ t = j_slotT (a + 1) n := by
    rcases hTn with z | z
    · omega
    · exact z
  obtain ⟨p, p0, p1, ew⟩ : ∃ p : Int, 0 ≤ p ∧ p < 6 ∧ w = a + 3 + 2 * p := by
    rcases hWn with z | z
    · omega
    · exact z
  obtain ⟨-, kt, hT⟩ := j_sI_at hw.2.2.1 n0 n1
  rw [← et] at kt hT
  have st : a + 31 ≤ t ∧ t + 9 ≤ a + 130 := by have := hw.2.2.1.2.1; rw [et]; unfold j_slotT; omega
  have kr : S.1 w = 27 := by
    have := (j_rowN_k (p := p) L ht (by unfold j_rowN; rw [if_pos ⟨p0, p1⟩]; omega)).2.2.2
    rw [ew]; exact this
  have hr : j_rowOK V w := by
    have := hw.2.1 p p0 p1
    rw [show a + 1 + 2 + 2 * p = a + 3 + 2 * p by omega, ← ew] at this
    exact this
  have tn : t ≠ -1 := by omega
  have wn : w ≠ -1 := by omega
  refine t1_35_24 h hrm kt (m10_7 C.2.1) ⟨L, hT.2.2.1, hT.2.2.2.1⟩ (Nat.zero_le _) (Nat.zero_le _) ?_
  rintro y S1 V1 ⟨e0, e1, hy⟩
  subst e0; subst e1
  refine t1_35_28 h (fun z => ?_) (fun z => (t1_35_31 h hrm ht (m1_27 C.2.1) F7 (Nat.zero_le _) (Nat.zero_le _) (by rintro r9 S9 V9 ⟨e0, e9, er⟩; subst e0; subst e9; subst er; exact t1_35_37 h R (⟨rfl, Or.inr ⟨tn, wn, l0, l1, Or.inl ⟨hy.y z, rfl, rfl⟩⟩⟩) (Nat.zero_le _) (Nat.zero_le _))))
  have hop : V1 (t + 3) 256 = j_M (V1 t 2) := Decidable.of_not_not (hy.n z)
  have hOK := j_tI_tab hT hop
  have hm := j_M_bd hT.2.2.1 hT.2.2.2.1
  have ke : S1.1 (a + 200) = 21 := L10_2k L ht
  refine t1_35_38 h L hrm ht (m2_2 C.2.1) ⟨L, kt, kr, (by omega), (by omega), hr, hOK⟩ (Nat.zero_le _) (Nat.zero_le _) ?_
  rintro m S2 V2 ⟨e0, hP, hMs⟩
  subst e0
  have fr2 : ∀ c : Int, (c < a + 200 ∨ a + 221 < c) → V2 c = V1 c := fun c hc => hP.1 c (by omega) (by omega) (by omega) (by omega) (by omega) (by omega)
  refine t1_35_47 h (fun z => ?_) (fun z => ?_)
  · have em : m = -1 := by
      rcases hMs with ⟨q, _⟩ | ⟨q, _⟩
      · exact q
      · omega
    have hno : ∀ x : Int, 0 ≤ x → x < V1 w 1 → j_sh (j_Dt V1 t w x) (V1 (w + 1) x) ≠ 0 := by
      rcases hMs with ⟨_, q⟩ | ⟨q, _⟩
      · exact q
      · omega
    obtain ⟨en, hfb⟩ := j_plan_ok hOK hr hP hno
    have et2 : V2 t = V1 t := fr2 t (by omega)
    refine t1_35_61 h L hrm ht kt (m10_4 C.2.1) ⟨by rw [et2]; exact hT.2.2.1, by rw [et2]; exact hT.2.2.2.1⟩ (Nat.zero_le _) (Nat.zero_le _) ?_
    rintro y2 S3 V3 ⟨e0, e1, er⟩
    subst e0; subst e1
    rw [et2] at er
    refine t1_35_69 h hrm ke (m2_4 C.2.1) ⟨L, l0, l1, (by omega), (by omega), by rw [en]; exact hr.1, by rw [en]; exact hr.2.1, by rw [er]; exact hfb⟩ (Nat.zero_le _) (Nat.zero_le _) ?_
    rintro S4 V4 ⟨e0, hK⟩
    subst e0
    rw [er] at hK
    have pk := j_packed hm.1 hm.2 l0 (by rw [en]; exact hr.1) (by rw [en]; exact hr.2.1) hfb hK
    have fr4 : ∀ c : Int, (c < a + 200 ∨ a + 221 < c) → V4 c = V1 c := fun c hc => (hK.1 c (by omega) (by omega) (by omega) (by omega) (by omega)).trans (fr2 c hc)
    have etl : j_told V4 t = j_told V1 t := j_told_congr (fun c c0 c1 => fr4 c (by omega))
    refine t1_35_73 h L hrm ht kt (m10_11 C.2.1) ⟨L, fun p p0 p1 => by rw [fr4 _ (by omega)]; exact j_bd_up (j_tI_bd hT p0 p1) (by omega)⟩ (Nat.zero_le _) (Nat.zero_le _) ?_
    rintro y3 S5 V5 ⟨e0, e1, er3⟩
    subst e0; subst e1
    rw [etl] at er3
    have tb := j_told_bd V1 t
    refine t1_35_81 h hrm ke (m2_6 C.2.1) ⟨(by omega), (by omega), (by omega), (by omega), pk.2.2.1, pk.2.2.2.1⟩ (Nat.zero_le _) (Nat.zero_le _) ?_
    rintro y4 S6 V6 ⟨e0, e1, er4⟩
    subst e0; subst e1
    rw [er3] at er4
    exact t1_35_85 h R ⟨rfl, Or.inr ⟨tn, wn, l0, l1, Or.inr ⟨hop, V3, m, hP, hMs, Or.inr ⟨em, hK, er4⟩⟩⟩⟩ (Nat.le_refl _) (Nat.le_refl _)
  · have ea : V2 a = V1 a := fr2 a (by omega)
    refine t1_35_54 h hrm ht (m1_28 C.2.1) ⟨L, a0, by rw [ea]; exact F7⟩ (Nat.zero_le _) (Nat.zero_le _) ?_
    rintro y4 S7 V7 ⟨e0, e1, er⟩
    subst e0
    exact t1_35_60 h R ⟨rfl, Or.inr ⟨tn, wn, l0, l1, Or.inr ⟨hop, V2, m, hP, hMs, Or.inl ⟨z, e1, er⟩⟩⟩⟩ (Nat.le_refl _) (Nat.le_refl _)
theorem m1_13 (l : Launch) : M1_13 l 0 0 (fun a tb p la S V => j_cI S V a) (fun a tb p la S V r S' V' => S' = S ∧ j_try a (j_tabN V a tb) (j_rowN a p) la V r V') := by
  refine e1_13 ?_
  rintro C G h hrm hcs hl hn a tb p la S V ht hI R
  obtain ⟨L, -, a0, hw, hk, hd, h6, h7⟩ := id hI
  refine t1_13_0 h hrm ht (m1_30 C.2.1) ⟨L, hw.2.2.1⟩ (Nat.zero_le _) (Nat.zero_le _) ?_
  rintro b S1 V1 ⟨e0, e1, er⟩
  subst e0; subst e1; subst er
  refine t1_13_6 h hrm ht (m1_29 C.2.1) L (Nat.zero_le _) (Nat.zero_le _) ?_
  rintro b S2 V2 ⟨e0, e1, er⟩
  subst e0; subst e1; subst er
  refine t1_13_11 h hrm ht (m1_35 C.2.1) ⟨hI, j_isTab_N _ _ _, j_isRow_N _ _⟩ (Nat.zero_le _) (Nat.zero_le _) ?_
  rintro y S3 V3 ⟨e0, hy⟩
  subst e0
  exact t1_13_15 h R ⟨rfl, hy⟩ (Nat.le_refl _) (Nat.le_refl _)
/-- THE BLOCK is what was packed on the bench -/
def j_filled (a t la : Int) (V V' : jH) : Prop := (0 ≤ la ∧ la ≤ 4 ∧ 0 ≤ V (a + 200) 5 ∧ V (a + 200) 5 ≤ 800 ∧ 0 ≤ V (a + 214) 5 ∧ V (a + 214) 5 ≤ 400) ∧ ∃ V1 : jH, j_B V1 (a + 16) = j_benchT V t (a + 200) la ∧ 0 ≤ V1 (a + 16) 1 ∧ j_fb V V1 (a + 16) ∧ V' = j_stepsBe (j_up (j_up V1 (a + 16) 4 0) (a + 16) 2 1) (a + 18) (a + 214)
def j_q12 (a tb p la : Int) (V : jH) (r : Int) (V' : jH) : Prop := ∃ V2 : jH, j_try a (j_tabN V a tb) (j_rowN a p) la V r V2 ∧ ((r < 0 ∧ V' = V2) ∨ (0 ≤ r ∧ j_filled a (j_tabN V a tb) la V2 V'))
theorem m1_12 (l : Launch) : M1_12 l 0 0 (fun a tb p la S V => j_cI S V a) (fun a tb p la S V r S' V' => S' = S ∧ j_q12 a tb p la V r V') := by
  refine e1_12 ?_
  rintro C G h hrm hcs hl hn a tb p la S V ht hI R
  obtain ⟨L, -, a0, hw, hk, hd, h6, h7⟩ := id hI
  refine t1_12_0 h hrm ht (m1_30 C.2.1) ⟨L, hw.2.2.1⟩ (Nat.zero_le _) (Nat.zero_le _) ?_
  rintro b S1 V1 ⟨e0, e1, er⟩
  subst e0; subst e1; subst er
  refine t1_12_5 h hrm ht (m1_29 C.2.1) L (Nat.zero_le _) (Nat.zero_le _) ?_
  rintro b S2 V2 ⟨e0, e1, er⟩
  subst e0; subst e1; subst er
  refine t1_12_15 h hrm ht (m1_35 C.2.1) ⟨hI, j_isTab_N _ _ _, j_isRow_N _ _⟩ (Nat.zero_le _) (Nat.zero_le _) ?_
  rintro y S3 V3 ⟨e0, hy⟩
  subst e0
  refine t1_12_19 h (fun z => t1_12_48 h R ⟨rfl, V3, hy, Or.inl ⟨z, rfl⟩⟩ (Nat.le_refl _) (Nat.le_refl _)) (fun z => ?_)
  have hy0 := hy
  rcases hy with ⟨_, _, q⟩ | ⟨tn, wn, l0, l1, ⟨_, _, q⟩ | ⟨hop, V1, m, hP, hMs, ⟨_, _, q⟩ | ⟨em, hK, er⟩⟩⟩
  · omega
  · omega
  · omega
  refine t1_12_26 h (fun q => absurd q tn) (fun q _ => ?_)
  obtain ⟨t0, t1, et, kt, hT⟩ := j_tabN_k hw.2.2.1 q
  have st : a + 31 ≤ j_tabN V2 a tb ∧ j_tabN V2 a tb + 9 ≤ a + 130 := by have := hw.2.2.1.2.1; rw [et]; unfold j_slotT; omega
  rw [← et] at kt hT
  have hr : j_rowOK V2 (j_rowN a p) := by
    rcases j_isRow_N a p with z | ⟨p', p0, p1, z⟩
    · exact absurd z wn
    · have := hw.2.1 p' p0 p1
      rw [show a + 1 + 2 + 2 * p' = a + 3 + 2 * p' by omega, ← z] at this
      exact this
  unfold j_q12 at R
  generalize j_tabN V2 a tb = t at *
  have hOK := j_tI_tab hT hop
  have hm := j_M_bd hT.2.2.1 hT.2.2.2.1
  have hno : ∀ x : Int, 0 ≤ x → x < V2 (j_rowN a p) 1 → j_sh (j_Dt V2 t (j_rowN a p) x) (V2 (j_rowN a p + 1) x) ≠ 0 := by
    rcases hMs with ⟨_, q⟩ | ⟨q, _⟩
    · exact q
    · omega
  obtain ⟨en, hfb⟩ := j_plan_ok hOK hr hP hno
  have pk := j_packed hm.1 hm.2 l0 (by rw [en]; exact hr.1) (by rw [en]; exact hr.2.1) hfb hK
  have fr : ∀ c : Int, (c < a + 200 ∨ a + 221 < c) → V3 c = V2 c := fun c hc => (hK.1 c (by omega) (by omega) (by omega) (by omega) (by omega)).trans (hP.1 c (by omega) (by omega) (by omega) (by omega) (by omega) (by omega))
  have e14 : V3 (a + 200 + 14) 5 = V2 (j_rowN a p) 1 := by rw [pk.1]; exact en
  refine t1_12_31 h L hrm ht (m3_7 C.2.1) ⟨L, kt, L10_2k L ht, by rw [fr t (by omega)]; exact hT.1, by rw [fr t (by omega)]; have := hT.2.2.1; omega, (by omega), l1, by rw [e14]; exact hr.1, by rw [e14]; exact hr.2.1, fun p p0 p1 => by rw [fr _ (by omega)]; exact j_bd_up (j_tI_bd hT p0 p1) (by omega), fun x x0 x1 => by have := (pk.2.1 x x0 x1).1; omega, pk.2.2.1, pk.2.2.2.1, fun i i0 i1 => (pk.2.2.2.2 i i0 i1).1⟩ (Nat.zero_le _) (Nat.zero_le _) ?_
  rintro S4 V4 ⟨e0, V5, x1, x2, x3, x4⟩
  subst e0
  rw [show a + 16 + 2 = a + 18 by omega, show a + 200 + 14 = a + 214 by omega] at x4
  rw [show a + 200 + 14 = a + 214 by omega] at e14
  exact t1_12_48 h R ⟨rfl, V3, hy0, Or.inr ⟨z, ⟨(by omega), l1, pk.2.2.1, pk.2.2.2.1, by rw [e14]; exact hr.1, by rw [e14]; exact hr.2.1⟩, V5, x1, x2, x3, x4⟩⟩ (Nat.le_refl _) (Nat.le_refl _)
