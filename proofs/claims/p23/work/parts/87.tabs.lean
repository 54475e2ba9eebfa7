/-! THE CLASS: tables -/
/-- a slot has its table -/
def j_slM (S S' : jS) (w n : Int) : Prop := j_L S' ∧ S'.2 (w + 14) n = j_slotT w n ∧ S'.1 (j_slotT w n) = 29 ∧ (∀ i : Int, i ≠ n → S'.2 (w + 14) i = S.2 (w + 14) i) ∧ ∀ c : Int, (c < j_slotT w n ∨ j_slotT w n + 9 < c) → S'.1 c = S.1 c ∧ (c ≠ w + 14 → S'.2 c = S.2 c)
def j_slF (S : jS) (w n : Int) : Prop := (S.2 (w + 14) n = j_slotT w n ∧ S.1 (j_slotT w n) = 29) ∨ (S.2 (w + 14) n = -1 ∧ ∀ c : Int, j_slotT w n ≤ c → c ≤ j_slotT w n + 9 → S.1 c = 0)
theorem m11_2u (l : Launch) : M11_2 l 10 1039 (fun w n S V => j_L S ∧ 0 ≤ n ∧ n < 10 ∧ 0 ≤ w ∧ j_slF S w n)
    (fun w n S V r S' V' => r = j_slotT w n ∧ j_slM S S' w n ∧ ((S' = S ∧ V' = V) ∨ (S.2 (w + 14) n = -1 ∧ ∀ c : Int, (c < j_slotT w n ∨ j_slotT w n + 9 < c) → V' c = V c))) := by
  refine e11_2 ?_
  rintro C G h hrm hcs hl hn w n S V hw ⟨L, n0, n1, w0, hsl⟩ R
  rcases hsl with ⟨hs, h29⟩ | ⟨hs, hz⟩
  · exact t11_2_0 h L hw n0 n1 (fun _ _ => t11_2_22 h L hw n0 n1 R ⟨hs, ⟨L, hs, h29, fun _ _ => rfl, fun _ _ => ⟨rfl, fun _ => rfl⟩⟩, Or.inl ⟨rfl, rfl⟩⟩ (Nat.zero_le _) (Nat.zero_le _)) (fun q => absurd q (by rw [hs]; unfold j_slotT; omega))
  have ht0 : 0 ≤ j_slotT w n := by unfold j_slotT; omega
  have ht1 : w + 14 < j_slotT w n := by unfold j_slotT; omega
  have k14 : S.1 (w + 14) = 20 := L9_1k L hw
  unfold j_slM at R
  generalize j_slotT w n = t at *
  refine t11_2_0 h L hw n0 n1 (fun q _ => absurd q (by omega)) (fun _ => ?_)
  refine t11_2_9 (a1 := t) h L hrm hw ht0 (hz t (by omega) (by omega)) (by rw [hcs.1]; omega) (by rw [hcs.2]; omega) (m10_1 C.2.1) ⟨ht0, fun c c0 c1 => by rw [j_ns1e _ _ _ (by omega)]; exact hz c (by omega) c1⟩ (by rw [hcs.1]; omega) (by rw [hcs.2]; omega) ?_
  intro S3 V3 hN
  have L3 : j_L S3 := j_L_newT L hz (fun c hc => ⟨j_ns1e _ _ _ hc, j_ns2e _ _ _ hc⟩) hN
  have out : ∀ c : Int, (c < t ∨ t + 9 < c) → S3.1 c = S.1 c ∧ S3.2 c = S.2 c ∧ V3 c = V c := fun c hc => by
    obtain ⟨q1, q2, q3⟩ := hN.2.2.2.2.2.1 c hc
    exact ⟨q1.trans (j_ns1e _ _ _ (by omega)), q2.trans (j_ns2e _ _ _ (by omega)), q3.trans (j_nve _ _ (by omega))⟩
  have m14 : S3.1 (w + 14) = 20 := by rw [(out _ (by omega)).1]; exact k14
  have mw : S3.1 w = 30 := by rw [(out _ (by omega)).1]; exact hw
  have L4 : j_L (j_sp S3 (w + 14) n t) := j_L_mono L3 (fun _ _ => rfl) (fun _ _ => rfl) (fun c i _ h20 _ _ => by
    show j_up S3.2 (w + 14) n t c i = S3.2 c i
    rw [j_up_ne (fun z => h20 (by rw [z]; exact m14))])
  have e14 : (j_sp S3 (w + 14) n t).2 (w + 14) n = t := j_up_at _ _ _ _
  refine t11_2_21 h m14 hN.2.1 n0 n1 (t11_2_22 h L4 mw n0 n1 R ⟨e14, ⟨L4, e14, hN.2.1, fun i hi => ?_, fun c hc => ⟨(out c hc).1, fun c14 => ?_⟩⟩, Or.inr ⟨hs, fun c hc => (out c hc).2.2⟩⟩ (by decide) (by decide))
  · show j_up S3.2 (w + 14) n t (w + 14) i = _
    rw [j_up_off hi, (out (w + 14) (by omega)).2.1]
  · show j_up S3.2 (w + 14) n t c = S.2 c
    rw [j_up_ne c14]; exact (out c hc).2.1
theorem j_sI_F {S : jS} {V : jH} {w t : Int} (h : j_sI S V w) (t0 : 0 ≤ t) (t1 : t < 10) : j_slF S w t := by
  rcases h.2.2 t t0 t1 with ⟨c1, c2, c3⟩ | ⟨c1, c2, c3⟩
  · exact Or.inl ⟨c1, c2⟩
  · exact Or.inr ⟨c1, c3⟩
/-- a new table -/
def j_q6 (a k r : Int) (S : jS) (V : jH) (x : Int) (S' : jS) (V' : jH) : Prop :=
  (¬ (0 ≤ k ∧ k ≤ 4 ∧ 8 ≤ r ∧ r ≤ 12) ∧ S' = S ∧ V' = j_fd V a ∧ x = -1) ∨ (0 ≤ k ∧ k ≤ 4 ∧ 8 ≤ r ∧ r ≤ 12 ∧ V (a + 1) 2 = 10 ∧ S' = S ∧ V' = j_fd V a ∧ x = -2) ∨
  (0 ≤ k ∧ k ≤ 4 ∧ 8 ≤ r ∧ r ≤ 12 ∧ V (a + 1) 2 < 10 ∧ x = V (a + 1) 2 ∧ j_slM S S' (a + 1) x ∧ V' (a + 1) 2 = x + 1 ∧ (∀ j : Int, j ≠ 2 → V' (a + 1) j = V (a + 1) j) ∧ V' (j_slotT (a + 1) x) 1 = k ∧ V' (j_slotT (a + 1) x) 2 = r ∧
    (∀ p j : Int, 0 ≤ p → p < 4 → 0 ≤ j → j ≤ 256 → V' (j_slotT (a + 1) x + 3 + 2 * p) j = j_start k r j) ∧ ∀ c : Int, c ≠ a + 1 → (c < j_slotT (a + 1) x ∨ j_slotT (a + 1) x + 9 < c) → V' c = V c)
theorem m1_6 (l : Launch) : M1_6 l 10 1039 (fun a k r S V => j_cI S V a) (fun a k r S V x S' V' => j_q6 a k r S V x S' V') := by
  refine e1_6 ?_
  rintro C G h hrm hcs hl hn a k r S V ht hI R
  obtain ⟨L, -, a0, hw, hk, hd, h6, h7⟩ := id hI
  have F7 := j_cI_F7 hI
  have hs := hw.2.2.1
  have no : ¬ (0 ≤ k ∧ k ≤ 4 ∧ 8 ≤ r ∧ r ≤ 12) → j_ok n_KT 4 C G 19 [(0, (2, a))] [] S V 0 0 := fun q => (t1_6_19 h hrm ht (m1_27 C.2.1) F7 (Nat.zero_le _) (Nat.zero_le _) (by rintro r9 S9 V9 ⟨e0, e9, er⟩; subst e0; subst e9; subst er; exact t1_6_24 h R (Or.inl ⟨q, rfl, rfl, rfl⟩) (Nat.zero_le _) (Nat.zero_le _)))
  refine t1_6_0 h hrm (m1_31 C.2.1) trivial (Nat.zero_le _) (Nat.zero_le _) ?_
  rintro y S1 V1 ⟨e0, e1, hy⟩
  subst e0; subst e1
  refine t1_6_4 h (fun q => no (fun z => hy.n q ⟨z.1, z.2.1⟩)) (fun q => ?_)
  obtain ⟨k0, k1⟩ := hy.y q
  refine t1_6_7 h (fun q => no (by omega)) (fun r0 => t1_6_13 h (fun r1 => ?_) (fun q => no (by omega)))
  have n0 := hs.1
  have n1 := hs.2.1
  refine t1_6_25 h L ht (fun q => ?_) (fun q => (t1_6_37 h hrm ht (m1_27 C.2.1) F7 (Nat.zero_le _) (Nat.zero_le _) (by rintro r9 S9 V9 ⟨e0, e9, er⟩; subst e0; subst e9; subst er; exact t1_6_43 h R (Or.inr (Or.inl ⟨k0, k1, r0, r1, by omega, rfl, rfl, rfl⟩)) (Nat.zero_le _) (Nat.zero_le _))))
  refine t1_6_44 h L hrm ht (m11_2u C.2.1) ⟨L, n0, q, (by omega), j_sI_F hs n0 q⟩ (by rw [hcs.1]; omega) (by rw [hcs.2]; omega) ?_
  rintro t S2 V2 ⟨et, hM, hV⟩
  have st1 : a + 1 + 14 < j_slotT (a + 1) (V1 (a + 1) 2) := by unfold j_slotT; omega
  have k31 : S2.1 a = 31 := by rw [(hM.2.2.2.2 a (by omega)).1]; exact ht
  have fV : ∀ c : Int, (c < j_slotT (a + 1) (V1 (a + 1) 2) ∨ j_slotT (a + 1) (V1 (a + 1) 2) + 9 < c) → V2 c = V1 c := fun c hc => by
    rcases hV with ⟨_, e⟩ | ⟨_, e⟩
    · rw [e]
    · exact e c hc
  rw [et]
  refine t1_6_60 h hrm hM.2.2.1 (m10_2 C.2.1) ⟨hM.1, r0, r1⟩ (by rw [hcs.1]; omega) (by rw [hcs.2]; omega) ?_
  rintro S3 V3 ⟨e0, b1, b2, b3, b4⟩
  subst e0
  have fV3 : ∀ c : Int, (c < j_slotT (a + 1) (V1 (a + 1) 2) ∨ j_slotT (a + 1) (V1 (a + 1) 2) + 9 < c) → V3 c = V1 c := fun c hc => (b4 c (by omega) (fun p p0 p1 => by omega)).trans (fV c hc)
  refine t1_6_65 h hM.1 k31 (by omega) R (Or.inr (Or.inr ⟨k0, k1, r0, r1, q, rfl, hM, j_up_at _ _ _ _, fun j hj => ?_, ?_, ?_, fun p j p0 p1 j0 j1 => ?_, fun c c0 hc => ?_⟩)) (by decide) (by decide)
  · rw [j_up_off hj, fV3 _ (by omega)]
  · rw [j_up_ne (by omega)]; exact b1
  · rw [j_up_ne (by omega)]; exact b2
  · rw [j_up_ne (by omega)]; exact b3 p j p0 p1 j0 j1
  · rw [j_up_ne c0]; exact fV3 c hc
theorem j_dk {S : jS} (L : j_L S) {t p : Int} (ht : S.1 t = 29) (p0 : 0 ≤ p) (p1 : p < 4) : S.1 (t + 2 + 2 * p) = 23 := by
  have := LDealAk L (i := p) (L8_0k L ht) p0 p1
  rw [show t + 2 + 2 * p = t + 1 + 1 + 2 * p by omega]
  exact this
theorem j_dk0 {S : jS} (L : j_L S) {t : Int} (ht : S.1 t = 29) : S.1 (t + 2) = 23 := by
  have := j_dk L ht (p := 0) (by omega) (by omega)
  rw [show t + 2 + 2 * 0 = t + 2 by omega] at this
  exact this
/-- shares of a sign -/
def j_q7 (a tb s f : Int) (V : jH) (r : Int) (V' : jH) : Prop :=
  (¬ (0 ≤ tb ∧ tb < V (a + 1) 2) ∧ V' = j_fd V a ∧ r = -1) ∨
  (0 ≤ tb ∧ tb < V (a + 1) 2 ∧ ((V (j_slotT (a + 1) tb) 1 ≠ 0 ∧ V' = j_fd V a ∧ r = -3) ∨ (V (j_slotT (a + 1) tb) 1 = 0 ∧ (
    (¬ (0 ≤ s ∧ s < 256 ∧ 0 ≤ f ∧ f ≤ j_M (V (j_slotT (a + 1) tb) 2)) ∧ V' = j_fd V a ∧ r = -1) ∨
    (0 ≤ s ∧ s < 256 ∧ 0 ≤ f ∧ f ≤ j_M (V (j_slotT (a + 1) tb) 2) ∧ (
      (j_M (V (j_slotT (a + 1) tb) 2) < V (j_slotT (a + 1) tb + 3) 256 - j_sh (V (j_slotT (a + 1) tb + 3)) s + f ∧ V' = j_fd V a ∧ r = -2) ∨
      (V (j_slotT (a + 1) tb + 3) 256 - j_sh (V (j_slotT (a + 1) tb + 3)) s + f ≤ j_M (V (j_slotT (a + 1) tb) 2) ∧ r = V (j_slotT (a + 1) tb + 3) 256 - j_sh (V (j_slotT (a + 1) tb + 3)) s + f ∧ V' = j_raise V (j_slotT (a + 1) tb + 3) s 256 (f - j_sh (V (j_slotT (a + 1) tb + 3)) s))))))))
theorem m1_7 (l : Launch) : M1_7 l 0 0 (fun a tb s f S V => j_cI S V a) (fun a tb s f S V r S' V' => S' = S ∧ j_q7 a tb s f V r V') := by
  refine e1_7 ?_
  rintro C G h hrm hcs hl hn a tb s f S V ht hI R
  obtain ⟨L, -, a0, hw, hk, hd, h6, h7⟩ := id hI
  have F7 := j_cI_F7 hI
  refine t1_7_0 h hrm ht (m1_30 C.2.1) ⟨L, hw.2.2.1⟩ (Nat.zero_le _) (Nat.zero_le _) ?_
  rintro b S1 V1 ⟨e0, e1, er⟩
  subst e0; subst e1; subst er
  refine t1_7_5 h (fun q _ => ?_) (fun q => (t1_7_12 h hrm ht (m1_27 C.2.1) F7 (Nat.zero_le _) (Nat.zero_le _) (by rintro r9 S9 V9 ⟨e0, e9, er⟩; subst e0; subst e9; subst er; exact t1_7_17 h R (⟨rfl, Or.inl ⟨j_tabN_n a0 q, rfl, rfl⟩⟩) (Nat.zero_le _) (Nat.zero_le _))))
  obtain ⟨t0, t1, et, kt, hT⟩ := j_tabN_k hw.2.2.1 q
  rw [et]
  unfold j_q7 at R
  generalize j_slotT (a + 1) tb = t at *
  have hm := j_M_bd hT.2.2.1 hT.2.2.2.1
  have hdl := hT.2.2.2.2.1 0 (by omega) (by omega)
  rw [show t + 3 + 2 * 0 = t + 3 by omega] at hdl
  have hbd := j_dlu_bd hdl hm.2
  refine t1_7_18 h kt (fun q => ?_) (fun q => (t1_7_26 h hrm ht (m1_27 C.2.1) F7 (Nat.zero_le _) (Nat.zero_le _) (by rintro r9 S9 V9 ⟨e0, e9, er⟩; subst e0; subst e9; subst er; exact t1_7_32 h R (⟨rfl, Or.inr ⟨t0, t1, Or.inl ⟨q, rfl, rfl⟩⟩⟩) (Nat.zero_le _) (Nat.zero_le _))))
  have no : ¬ (0 ≤ s ∧ s < 256 ∧ 0 ≤ f ∧ f ≤ j_M (V1 t 2)) → j_ok n_KT 6 C G 53 [(0, (2, a))] [] S1 V1 0 0 := fun z => (t1_7_53 h hrm ht (m1_27 C.2.1) F7 (Nat.zero_le _) (Nat.zero_le _) (by rintro r9 S9 V9 ⟨e0, e9, er⟩; subst e0; subst e9; subst er; exact t1_7_58 h R (⟨rfl, Or.inr ⟨t0, t1, Or.inr ⟨q, Or.inl ⟨z, rfl, rfl⟩⟩⟩⟩) (Nat.zero_le _) (Nat.zero_le _)))
  refine t1_7_33 h hrm (m1_32 C.2.1) trivial (Nat.zero_le _) (Nat.zero_le _) ?_
  rintro y S2 V2 ⟨e0, e1, hy⟩
  subst e0; subst e1
  refine t1_7_37 h (fun z => no (fun x => hy.n z ⟨x.1, x.2.1⟩)) (fun z => ?_)
  obtain ⟨s0, s1⟩ := hy.y z
  refine t1_7_40 h (fun z => no (by omega)) (fun f0 => ?_)
  refine t1_7_44 h hrm kt (m10_4 C.2.1) ⟨hT.2.2.1, hT.2.2.2.1⟩ (Nat.zero_le _) (Nat.zero_le _) ?_
  rintro y S3 V3 ⟨e0, e1, er⟩
  subst e0; subst e1; subst er
  refine t1_7_50 h (fun f1 => ?_) (fun z => no (by omega))
  refine t1_7_59 h L hrm kt (m4_3 C.2.1) L (Nat.zero_le _) (Nat.zero_le _) ?_
  rintro y S4 V4 ⟨e0, e1, er⟩
  subst e0; subst e1
  rw [show t + 2 + 1 = t + 3 by omega] at er
  have kd := j_dk0 L kt
  have b1 := hbd s s0 (by omega)
  have b2 := hbd (s + 1) (by omega) (by omega)
  have b3 := hbd 256 (by omega) (by omega)
  refine t1_7_73 h hrm kd (m4_2 C.2.1) ⟨L, s0, s1, by rw [show t + 2 + 1 = t + 3 by omega]; constructor <;> omega⟩ (Nat.zero_le _) (Nat.zero_le _) ?_
  rintro y2 S5 V5 ⟨e0, e1, er2⟩
  subst e0; subst e1
  rw [show t + 2 + 1 = t + 3 by omega] at er2
  refine t1_7_79 h hrm (by omega) (by omega) kt (m10_4 C.2.1) ⟨hT.2.2.1, hT.2.2.2.1⟩ (Nat.zero_le _) (Nat.zero_le _) ?_
  rintro y3 S6 V6 ⟨e0, e1, er3⟩
  subst e0; subst e1
  have esh : j_sh (V6 (t + 3)) s = y2 := er2.symm
  refine t1_7_87 h (fun z => ?_) (fun z => (t1_7_90 h hrm ht (m1_27 C.2.1) F7 (Nat.zero_le _) (Nat.zero_le _) (by rintro r9 S9 V9 ⟨e0, e9, er⟩; subst e0; subst e9; subst er; exact t1_7_96 h R (⟨rfl, Or.inr ⟨t0, t1, Or.inr ⟨q, Or.inr ⟨s0, s1, f0, f1, Or.inl ⟨by rw [esh]; omega, rfl, rfl⟩⟩⟩⟩⟩) (Nat.zero_le _) (Nat.zero_le _))))
  refine t1_7_97 h hrm kd (m4_9 C.2.1) ⟨L, s0, s1, f0, (by omega), by rw [show t + 2 + 1 = t + 3 by omega]; exact j_bd_up hbd (by omega)⟩ (Nat.zero_le _) (Nat.zero_le _) ?_
  rintro S7 V7 ⟨e0, e7⟩
  subst e0
  rw [show t + 2 + 1 = t + 3 by omega] at e7
  refine t1_7_104 h hrm kd (m4_3 C.2.1) L (Nat.zero_le _) (Nat.zero_le _) ?_
  rintro y4 S8 V8 ⟨e0, e1, er4⟩
  subst e0; subst e1
  rw [show t + 2 + 1 = t + 3 by omega] at er4
  refine t1_7_109 h R ⟨rfl, Or.inr ⟨t0, t1, Or.inr ⟨q, Or.inr ⟨s0, s1, f0, f1, Or.inr ⟨by rw [esh]; omega, ?_, ?_⟩⟩⟩⟩⟩ (Nat.le_refl _) (Nat.le_refl _)
  · rw [er4, e7]
    unfold j_raise
    rw [j_row_at, if_pos (by omega), ← er2, esh]
    omega
  · rw [e7]
def j_q8 (a tb p : Int) (V : jH) (r : Int) (V' : jH) : Prop :=
  (¬ (0 ≤ tb ∧ tb < V (a + 1) 2 ∧ 0 ≤ p ∧ p < 6) ∧ V' = j_fd V a ∧ r = -1) ∨
  (0 ≤ tb ∧ tb < V (a + 1) 2 ∧ 0 ≤ p ∧ p < 6 ∧ ((¬ (V (j_slotT (a + 1) tb) 1 = 2 ∨ V (j_slotT (a + 1) tb) 1 = 3) ∧ V' = j_fd V a ∧ r = -3) ∨ ((V (j_slotT (a + 1) tb) 1 = 2 ∨ V (j_slotT (a + 1) tb) 1 = 3) ∧ (
    (V (a + 3 + 2 * p) 1 = 0 ∧ V' = j_fd V a ∧ r = -7) ∨ (V (a + 3 + 2 * p) 1 ≠ 0 ∧ r = 0 ∧ j_taught V V' (a + 230) (j_slotT (a + 1) tb) (a + 3 + 2 * p))))))
theorem m1_8 (l : Launch) : M1_8 l 0 0 (fun a tb p S V => j_cI S V a) (fun a tb p S V r S' V' => S' = S ∧ j_q8 a tb p V r V') := by
  refine e1_8 ?_
  rintro C G h hrm hcs hl hn a tb p S V ht hI R
  obtain ⟨L, -, a0, hw, hk, hd, h6, h7⟩ := id hI
  have F7 := j_cI_F7 hI
  refine t1_8_0 h hrm ht (m1_30 C.2.1) ⟨L, hw.2.2.1⟩ (Nat.zero_le _) (Nat.zero_le _) ?_
  rintro b S1 V1 ⟨e0, e1, er⟩
  subst e0; subst e1; subst er
  refine t1_8_5 h hrm ht (m1_29 C.2.1) L (Nat.zero_le _) (Nat.zero_le _) ?_
  rintro b S2 V2 ⟨e0, e1, er⟩
  subst e0; subst e1; subst er
  have no : ¬ (0 ≤ tb ∧ tb < V2 (a + 1) 2 ∧ 0 ≤ p ∧ p < 6) → j_ok n_KT 5 C G 22 [(0, (2, a))] [] S2 V2 0 0 := fun z => (t1_8_22 h hrm ht (m1_27 C.2.1) F7 (Nat.zero_le _) (Nat.zero_le _) (by rintro r9 S9 V9 ⟨e0, e9, er⟩; subst e0; subst e9; subst er; exact t1_8_27 h R (⟨rfl, Or.inl ⟨z, rfl, rfl⟩⟩) (Nat.zero_le _) (Nat.zero_le _)))
  refine t1_8_11 h (fun q => no (fun z => j_tabN_n a0 q ⟨z.1, z.2.1⟩)) (fun q _ => ?_)
  obtain ⟨t0, t1, et, kt, hT⟩ := j_tabN_k hw.2.2.1 q
  rw [et]
  refine t1_8_17 h (fun q _ => ?_) (fun q => no (fun z => j_rowN_n a0 q z.2.2))
  obtain ⟨p0, p1, ep, kr⟩ := j_rowN_k L ht q
  rw [ep]
  have hr := hw.2.1 p p0 p1
  rw [show a + 1 + 2 + 2 * p = a + 3 + 2 * p by omega] at hr
  have st1 : a + 31 ≤ j_slotT (a + 1) tb ∧ j_slotT (a + 1) tb + 9 ≤ a + 130 := by have := hw.2.2.1.2.1; unfold j_slotT; omega
  unfold j_q8 at R
  generalize j_slotT (a + 1) tb = t at *
  refine t1_8_28 h hrm kt (m10_8 C.2.1) trivial (Nat.zero_le _) (Nat.zero_le _) ?_
  rintro y S3 V3 ⟨e0, e1, hy⟩
  subst e0; subst e1
  refine t1_8_32 h (fun z => ?_) (fun z => (t1_8_35 h hrm ht (m1_27 C.2.1) F7 (Nat.zero_le _) (Nat.zero_le _) (by rintro r9 S9 V9 ⟨e0, e9, er⟩; subst e0; subst e9; subst er; exact t1_8_41 h R (⟨rfl, Or.inr ⟨t0, t1, p0, p1, Or.inl ⟨hy.n z, rfl, rfl⟩⟩⟩) (Nat.zero_le _) (Nat.zero_le _))))
  refine t1_8_42 h kr (fun z2 => ?_) (fun z2 => (t1_8_50 h hrm ht (m1_27 C.2.1) F7 (Nat.zero_le _) (Nat.zero_le _) (by rintro r9 S9 V9 ⟨e0, e9, er⟩; subst e0; subst e9; subst er; exact t1_8_56 h R (⟨rfl, Or.inr ⟨t0, t1, p0, p1, Or.inr ⟨hy.y z, Or.inl ⟨z2, rfl, rfl⟩⟩⟩⟩) (Nat.zero_le _) (Nat.zero_le _))))
  refine t1_8_57 h L hrm ht (m5_2 C.2.1) ⟨L, kt, kr, (by omega), (by omega), (by omega), hr, hT.2.2.1, hT.2.2.2.1⟩ (Nat.zero_le _) (Nat.zero_le _) ?_
  rintro S4 V4 ⟨e0, e4⟩
  subst e0
  exact t1_8_67 h R ⟨rfl, Or.inr ⟨t0, t1, p0, p1, Or.inr ⟨hy.y z, Or.inr ⟨z2, rfl, e4⟩⟩⟩⟩ (Nat.le_refl _) (Nat.le_refl _)
def j_q9 (a tb pt s bg : Int) (V : jH) (r : Int) (V' : jH) : Prop :=
  (¬ (0 ≤ tb ∧ tb < V (a + 1) 2 ∧ (0 ≤ pt ∧ pt < j_parts (V (j_slotT (a + 1) tb) 1)) ∧ 0 ≤ s ∧ s < 256) ∧ V' = j_fd V a ∧ r = -1) ∨
  (0 ≤ tb ∧ tb < V (a + 1) 2 ∧ (0 ≤ pt ∧ pt < j_parts (V (j_slotT (a + 1) tb) 1)) ∧ 0 ≤ s ∧ s < 256 ∧ ((V (j_slotT (a + 1) tb + 3) 256 ≠ j_M (V (j_slotT (a + 1) tb) 2) ∧ V' = j_fd V a ∧ r = -4) ∨
    (V (j_slotT (a + 1) tb + 3) 256 = j_M (V (j_slotT (a + 1) tb) 2) ∧ V' = V ∧ r = if bg = 0 then j_sh (V (j_slotT (a + 1) tb + 3 + 2 * pt)) s else V (j_slotT (a + 1) tb + 3 + 2 * pt) s)))
theorem m1_9 (l : Launch) : M1_9 l 0 0 (fun a tb pt s bg S V => j_cI S V a) (fun a tb pt s bg S V r S' V' => S' = S ∧ j_q9 a tb pt s bg V r V') := by
  refine e1_9 ?_
  rintro C G h hrm hcs hl hn a tb pt s bg S V ht hI R
  obtain ⟨L, -, a0, hw, hk, hd, h6, h7⟩ := id hI
  have F7 := j_cI_F7 hI
  refine t1_9_0 h hrm ht (m1_30 C.2.1) ⟨L, hw.2.2.1⟩ (Nat.zero_le _) (Nat.zero_le _) ?_
  rintro b S1 V1 ⟨e0, e1, er⟩
  subst e0; subst e1; subst er
  have no : ¬ (0 ≤ tb ∧ tb < V1 (a + 1) 2 ∧ (0 ≤ pt ∧ pt < j_parts (V1 (j_slotT (a + 1) tb) 1)) ∧ 0 ≤ s ∧ s < 256) → j_ok n_KT 7 C G 28 [(0, (2, a))] [] S1 V1 0 0 := fun z => (t1_9_28 h hrm ht (m1_27 C.2.1) F7 (Nat.zero_le _) (Nat.zero_le _) (by rintro r9 S9 V9 ⟨e0, e9, er⟩; subst e0; subst e9; subst er; exact t1_9_33 h R (⟨rfl, Or.inl ⟨z, rfl, rfl⟩⟩) (Nat.zero_le _) (Nat.zero_le _)))
  refine t1_9_5 h (fun q => no (fun z => j_tabN_n a0 q ⟨z.1, z.2.1⟩)) (fun q _ => ?_)
  obtain ⟨t0, t1, et, kt, hT⟩ := j_tabN_k hw.2.2.1 q
  rw [et]
  unfold j_q9 at R
  generalize j_slotT (a + 1) tb = t at *
  refine t1_9_12 h hrm kt (m10_6 C.2.1) trivial (Nat.zero_le _) (Nat.zero_le _) ?_
  rintro y S3 V3 ⟨e0, e1, hy⟩
  subst e0; subst e1
  refine t1_9_18 h (fun z => no (fun x => hy.n z x.2.2.1)) (fun z => ?_)
  have hpt := hy.y z
  have pp := j_parts_bd (V3 t 1)
  refine t1_9_21 h hrm (m1_32 C.2.1) trivial (Nat.zero_le _) (Nat.zero_le _) ?_
  rintro y2 S4 V4 ⟨e0, e1, hy2⟩
  subst e0; subst e1
  refine t1_9_25 h (fun z => ?_) (fun z => no (fun x => hy2.n z x.2.2.2))
  obtain ⟨s0, s1⟩ := hy2.y z
  refine t1_9_34 h hrm kt (m10_7 C.2.1) ⟨L, hT.2.2.1, hT.2.2.2.1⟩ (Nat.zero_le _) (Nat.zero_le _) ?_
  rintro y3 S5 V5 ⟨e0, e1, hy3⟩
  subst e0; subst e1
  refine t1_9_39 h (fun z => ?_) (fun z => (t1_9_42 h hrm ht (m1_27 C.2.1) F7 (Nat.zero_le _) (Nat.zero_le _) (by rintro r9 S9 V9 ⟨e0, e9, er⟩; subst e0; subst e9; subst er; exact t1_9_48 h R (⟨rfl, Or.inr ⟨t0, t1, hpt, s0, s1, Or.inl ⟨hy3.y z, rfl, rfl⟩⟩⟩) (Nat.zero_le _) (Nat.zero_le _))))
  have hop : V5 (t + 3) 256 = j_M (V5 t 2) := by
    have := hy3.n z
    exact Decidable.of_not_not this
  have kd := j_dk L kt hpt.1 (show pt < 4 by omega)
  have hbd := j_tI_bd hT hpt.1 (show pt < 4 by omega)
  have e3 : t + 2 + 2 * pt + 1 = t + 3 + 2 * pt := by omega
  refine t1_9_49 h L kt hpt.1 (by omega) (fun z2 => ?_) (fun z2 => ?_)
  · have b1 := hbd s s0 (by omega)
    have b2 := hbd (s + 1) (by omega) (by omega)
    refine t1_9_73 h hrm kd (m4_2 C.2.1) ⟨L, s0, s1, by rw [e3]; constructor <;> omega⟩ (Nat.zero_le _) (Nat.zero_le _) ?_
    rintro y4 S6 V6 ⟨e0, e1, er⟩
    subst e0; subst e1
    rw [e3] at er
    exact t1_9_79 h R ⟨rfl, Or.inr ⟨t0, t1, hpt, s0, s1, Or.inr ⟨hop, rfl, by rw [if_pos z2]; exact er⟩⟩⟩ (Nat.le_refl _) (Nat.le_refl _)
  · exact t1_9_63 h L kd s0 (by omega) (t1_9_79 h R ⟨rfl, Or.inr ⟨t0, t1, hpt, s0, s1, Or.inr ⟨hop, rfl, by rw [if_neg z2, e3]⟩⟩⟩ (Nat.le_refl _) (Nat.le_refl _))
def j_q11 (a tb k : Int) (V : jH) (r : Int) (V' : jH) : Prop :=
  (¬ (0 ≤ tb ∧ tb < V (a + 1) 2 ∧ 0 ≤ k ∧ k ≤ 4) ∧ V' = j_fd V a ∧ r = -1) ∨
  (0 ≤ tb ∧ tb < V (a + 1) 2 ∧ 0 ≤ k ∧ k ≤ 4 ∧ ((¬ j_isOne (V (j_slotT (a + 1) tb) 1) k ∧ V' = j_fd V a ∧ r = -3) ∨ (j_isOne (V (j_slotT (a + 1) tb) 1) k ∧ V' = V ∧ r = tb)))
theorem m1_11 (l : Launch) : M1_11 l 0 0 (fun a tb k S V => j_cI S V a) (fun a tb k S V r S' V' => S' = S ∧ j_q11 a tb k V r V') := by
  refine e1_11 ?_
  rintro C G h hrm hcs hl hn a tb k S V ht hI R
  obtain ⟨L, -, a0, hw, hk, hd, h6, h7⟩ := id hI
  have F7 := j_cI_F7 hI
  refine t1_11_0 h hrm ht (m1_30 C.2.1) ⟨L, hw.2.2.1⟩ (Nat.zero_le _) (Nat.zero_le _) ?_
  rintro b S1 V1 ⟨e0, e1, er⟩
  subst e0; subst e1; subst er
  have no : ¬ (0 ≤ tb ∧ tb < V1 (a + 1) 2 ∧ 0 ≤ k ∧ k ≤ 4) → j_ok n_KT 4 C G 17 [(0, (2, a))] [] S1 V1 0 0 := fun z => (t1_11_17 h hrm ht (m1_27 C.2.1) F7 (Nat.zero_le _) (Nat.zero_le _) (by rintro r9 S9 V9 ⟨e0, e9, er⟩; subst e0; subst e9; subst er; exact t1_11_22 h R (⟨rfl, Or.inl ⟨z, rfl, rfl⟩⟩) (Nat.zero_le _) (Nat.zero_le _)))
  refine t1_11_5 h (fun q => no (fun z => j_tabN_n a0 q ⟨z.1, z.2.1⟩)) (fun q _ => ?_)
  obtain ⟨t0, t1, et, kt, hT⟩ := j_tabN_k hw.2.2.1 q
  rw [et]
  refine t1_11_10 h hrm (m1_31 C.2.1) trivial (Nat.zero_le _) (Nat.zero_le _) ?_
  rintro y S3 V3 ⟨e0, e1, hy⟩
  subst e0; subst e1
  refine t1_11_14 h (fun z => ?_) (fun z => no (fun x => hy.n z x.2.2))
  obtain ⟨k0, k1⟩ := hy.y z
  refine t1_11_23 h hrm kt (m10_9 C.2.1) trivial (Nat.zero_le _) (Nat.zero_le _) ?_
  rintro y2 S4 V4 ⟨e0, e1, hy2⟩
  subst e0; subst e1
  exact t1_11_28 h (fun z => (t1_11_35 h hrm ht (m1_27 C.2.1) F7 (Nat.zero_le _) (Nat.zero_le _) (by rintro r9 S9 V9 ⟨e0, e9, er⟩; subst e0; subst e9; subst er; exact t1_11_41 h R (⟨rfl, Or.inr ⟨t0, t1, k0, k1, Or.inl ⟨hy2.n z, rfl, rfl⟩⟩⟩) (Nat.zero_le _) (Nat.zero_le _)))) (fun z => t1_11_31 h (t1_11_41 h R ⟨rfl, Or.inr ⟨t0, t1, k0, k1, Or.inr ⟨hy2.y z, rfl, rfl⟩⟩⟩ (Nat.le_refl _) (Nat.le_refl _)))
