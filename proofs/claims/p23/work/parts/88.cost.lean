/-! THE CLASS: the cost of a row by a table -/
/-- the sums are there, or made -/
def j_q10 (a tb pt p : Int) (S : jS) (V : jH) (r : Int) (S' : jS) (V' : jH) : Prop :=
  (¬ (0 ≤ tb ∧ tb < V (a + 1) 2 ∧ (0 ≤ pt ∧ pt < j_parts (V (j_slotT (a + 1) tb) 1)) ∧ 0 ≤ p ∧ p < 6) ∧ S' = S ∧ V' = j_fd V a ∧ r = -1) ∨
  (0 ≤ tb ∧ tb < V (a + 1) 2 ∧ (0 ≤ pt ∧ pt < j_parts (V (j_slotT (a + 1) tb) 1)) ∧ 0 ≤ p ∧ p < 6 ∧ ((V (j_slotT (a + 1) tb + 3) 256 ≠ j_M (V (j_slotT (a + 1) tb) 2) ∧ S' = S ∧ V' = j_fd V a ∧ r = -4) ∨
    (V (j_slotT (a + 1) tb + 3) 256 = j_M (V (j_slotT (a + 1) tb) 2) ∧ (
      (∃ i : Int, 0 ≤ i ∧ i < V (a + 3 + 2 * p) 1 ∧ j_sh (V (j_slotT (a + 1) tb + 3 + 2 * pt)) (V (a + 4 + 2 * p) i) = 0 ∧ (∀ x : Int, 0 ≤ x → x < i → j_sh (V (j_slotT (a + 1) tb + 3 + 2 * pt)) (V (a + 4 + 2 * p) x) ≠ 0) ∧ S' = S ∧ V' = j_fd (j_up V (a + 1) 4 i) a ∧ r = -5) ∨
      ((∀ x : Int, 0 ≤ x → x < V (a + 3 + 2 * p) 1 → j_sh (V (j_slotT (a + 1) tb + 3 + 2 * pt)) (V (a + 4 + 2 * p) x) ≠ 0) ∧ r = j_cost (V (j_slotT (a + 1) tb + 3 + 2 * pt)) (j_M (V (j_slotT (a + 1) tb) 2)) (V (a + 4 + 2 * p)) (V (a + 3 + 2 * p) 1) ∧
        ((S' = S ∧ V' = V) ∨ (S.2 (a + 230) 3 = -1 ∧ S.1 (a + 233) = 0 ∧ S' = j_sp (j_ns S (a + 233) 7) (a + 230) 3 (a + 233) ∧ j_L S' ∧ j_sumsOK S' V' (a + 230) ∧ ∀ c : Int, c ≠ a + 233 → V' c = V c)))))))
theorem m1_10 (l : Launch) : M1_10 l 1 4097 (fun a tb pt p S V => j_cI S V a) (fun a tb pt p S V r S' V' => j_q10 a tb pt p S V r S' V') := by
  refine e1_10 ?_
  rintro C G h hrm hcs hl hn a tb pt p S V ht hI R
  obtain ⟨L, -, a0, hw, hk, hd, h6, h7⟩ := id hI
  have F7 := j_cI_F7 hI
  refine t1_10_0 h hrm ht (m1_30 C.2.1) ⟨L, hw.2.2.1⟩ (Nat.zero_le _) (Nat.zero_le _) ?_
  rintro b S1 V1 ⟨e0, e1, er⟩
  subst e0; subst e1; subst er
  refine t1_10_5 h hrm ht (m1_29 C.2.1) L (Nat.zero_le _) (Nat.zero_le _) ?_
  rintro b S2 V2 ⟨e0, e1, er⟩
  subst e0; subst e1; subst er
  have no : ¬ (0 ≤ tb ∧ tb < V2 (a + 1) 2 ∧ (0 ≤ pt ∧ pt < j_parts (V2 (j_slotT (a + 1) tb) 1)) ∧ 0 ≤ p ∧ p < 6) → j_ok n_KT 8 C G 33 [(0, (2, a))] [] S2 V2 0 0 := fun z => (t1_10_33 h hrm ht (m1_27 C.2.1) F7 (Nat.zero_le _) (Nat.zero_le _) (by rintro r9 S9 V9 ⟨e0, e9, er⟩; subst e0; subst e9; subst er; exact t1_10_38 h R (Or.inl ⟨z, rfl, rfl, rfl⟩) (Nat.zero_le _) (Nat.zero_le _)))
  refine t1_10_12 h (fun q => no (fun z => j_tabN_n a0 q ⟨z.1, z.2.1⟩)) (fun q _ => ?_)
  obtain ⟨t0, t1, et, kt, hT⟩ := j_tabN_k hw.2.2.1 q
  rw [et]
  have st1 : a + 31 ≤ j_slotT (a + 1) tb ∧ j_slotT (a + 1) tb + 9 ≤ a + 130 := by have := hw.2.2.1.2.1; unfold j_slotT; omega
  unfold j_q10 at R
  generalize j_slotT (a + 1) tb = t at *
  refine t1_10_19 h hrm kt (m10_6 C.2.1) trivial (Nat.zero_le _) (Nat.zero_le _) ?_
  rintro y S3 V3 ⟨e0, e1, hy⟩
  subst e0; subst e1
  refine t1_10_25 h (fun z => no (fun x => hy.n z x.2.2.1)) (fun z => ?_)
  have hpt := hy.y z
  have pp := j_parts_bd (V3 t 1)
  refine t1_10_28 h (fun q _ => ?_) (fun q => no (fun z => j_rowN_n a0 q z.2.2.2))
  obtain ⟨p0, p1, ep, kr⟩ := j_rowN_k L ht q
  rw [ep]
  have hr := hw.2.1 p p0 p1
  rw [show a + 1 + 2 + 2 * p = a + 3 + 2 * p by omega] at hr
  refine t1_10_40 h hrm kt (m10_7 C.2.1) ⟨L, hT.2.2.1, hT.2.2.2.1⟩ (Nat.zero_le _) (Nat.zero_le _) ?_
  rintro y3 S5 V5 ⟨e0, e1, hy3⟩
  subst e0; subst e1
  refine t1_10_45 h (fun z => ?_) (fun z => (t1_10_48 h hrm ht (m1_27 C.2.1) F7 (Nat.zero_le _) (Nat.zero_le _) (by rintro r9 S9 V9 ⟨e0, e9, er⟩; subst e0; subst e9; subst er; exact t1_10_54 h R (Or.inr ⟨t0, t1, hpt, p0, p1, Or.inl ⟨hy3.y z, rfl, rfl, rfl⟩⟩) (Nat.zero_le _) (Nat.zero_le _))))
  have hop : V5 (t + 3) 256 = j_M (V5 t 2) := Decidable.of_not_not (hy3.n z)
  have hOK := j_tI_tab hT hop
  have hm := j_M_bd hT.2.2.1 hT.2.2.2.1
  have kd := j_dk L kt hpt.1 (show pt < 4 by omega)
  have hbd := j_tI_bd hT hpt.1 (show pt < 4 by omega)
  have e3 : t + 2 + 2 * pt + 1 = t + 3 + 2 * pt := by omega
  have e4 : a + 3 + 2 * p + 1 = a + 4 + 2 * p := by omega
  have hrr := hr
  unfold j_rowOK at hr
  rw [e4] at hr
  refine t1_10_56 h L hrm kt hpt.1 (by omega) (m4_5 C.2.1) ⟨L, kr, by rw [e3]; exact j_bd_up hbd (by omega), hr.1, hr.2.1, by rw [e4]; exact hr.2.2⟩ (Nat.zero_le _) (Nat.zero_le _) ?_
  rintro i S6 V6 ⟨e0, e1, hi⟩
  subst e0; subst e1
  rw [e3, e4] at hi
  refine t1_10_72 h (fun z => ?_) (fun z => ?_)
  · have hall : ∀ x : Int, 0 ≤ x → x < V6 (a + 3 + 2 * p) 1 → j_sh (V6 (t + 3 + 2 * pt)) (V6 (a + 4 + 2 * p) x) ≠ 0 := by
      rcases hi with ⟨_, hi⟩ | ⟨hi, _⟩
      · exact hi
      · omega
    refine t1_10_87 h L hrm ht kt (m10_4 C.2.1) ⟨hT.2.2.1, hT.2.2.2.1⟩ (Nat.zero_le _) (Nat.zero_le _) ?_
    rintro y4 S7 V7 ⟨e0, e1, er⟩
    subst e0; subst e1
    have hD : j_dl (V7 (t + 2 + 2 * pt + 1)) 0 y4 := by rw [e3, er]; exact hOK.2.2 pt hpt.1 hpt.2
    rcases hd with ⟨d1, d2⟩ | hd
    · refine t1_10_98 h hrm (L10_3k L ht) (m5_9n C.2.1) ⟨L, (by omega), d1, by rw [show a + 230 + 3 = a + 233 by omega]; exact d2, kd, kr, (by omega), (by omega), hD, hrr⟩ (by rw [hcs.1]; omega) (by rw [hcs.2]; omega) ?_
      rintro c S8 V8 ⟨f1, f2, f3, f4, f5⟩
      rw [e3, e4, er] at f5
      rw [show a + 230 + 3 = a + 233 by omega] at f1 f4
      exact t1_10_103 h R (Or.inr ⟨t0, t1, hpt, p0, p1, Or.inr ⟨hop, Or.inr ⟨hall, f5, Or.inr ⟨d1, d2, f1, f2, f3, f4⟩⟩⟩⟩) (by decide) (by decide)
    · refine t1_10_98 h hrm (L10_3k L ht) (m5_9 C.2.1) ⟨L, (by omega), hd, kd, kr, (by omega), (by omega), hD, hrr⟩ (Nat.zero_le _) (Nat.zero_le _) ?_
      rintro c S8 V8 ⟨f1, f2, f5⟩
      rw [e3, e4, er] at f5
      exact t1_10_103 h R (Or.inr ⟨t0, t1, hpt, p0, p1, Or.inr ⟨hop, Or.inr ⟨hall, f5, Or.inl ⟨f1, f2⟩⟩⟩⟩) (Nat.zero_le _) (Nat.zero_le _)
  · refine t1_10_79 h hrm ht (m1_28 C.2.1) ⟨L, a0, F7⟩ (Nat.zero_le _) (Nat.zero_le _) ?_
    rintro y4 S7 V7 ⟨e0, e1, er⟩
    subst e0
    refine t1_10_85 h R (Or.inr ⟨t0, t1, hpt, p0, p1, Or.inr ⟨hop, Or.inl ?_⟩⟩) (Nat.zero_le _) (Nat.zero_le _)
    rcases hi with ⟨hi, _⟩ | ⟨i0, i1, i2, i3⟩
    · omega
    · exact ⟨i, i0, i1, i2, i3, rfl, e1, er⟩
