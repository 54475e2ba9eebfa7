/-! THE CLASS: planning on the bench -/
theorem m2_3 (l : Launch) : M2_3 l 0 0 (fun a i s d S V => j_L S ∧ 0 ≤ i ∧ i < 400 ∧ S.1 d = 23 ∧ 0 ≤ s ∧ s < 256 ∧ j_bd (V (d + 1)) 1048576) (fun a i s d S V S' V' => S' = S ∧ V' = j_up (j_up (j_up V (a + 15) i s) (a + 18) i (j_sh (V (d + 1)) s)) (a + 19) i (V (d + 1) s)) := by
  refine e2_3 ?_
  rintro C G h hrm hcs hl hn a i s d S V ha ⟨L, i0, i1, hd, s0, s1, hb⟩ R
  have kd : S.1 (d + 1) = 2 := L2_0k L hd
  have k15 : S.1 (a + 15) = 1 := by have := L7_0k L (L0_2k L ha); rw [show a + 15 = a + 14 + 1 by omega]; exact this
  have k18 : S.1 (a + 18) = 1 := by have := L7_3k L (L0_2k L ha); rw [show a + 18 = a + 14 + 4 by omega]; exact this
  have n15 : d + 1 ≠ a + 15 := fun e => by rw [e, k15] at kd; exact absurd kd (by decide)
  have n18 : d + 1 ≠ a + 18 := fun e => by rw [e, k18] at kd; exact absurd kd (by decide)
  have e1 : j_up V (a + 15) i s (d + 1) = V (d + 1) := j_up_ne n15
  refine t2_3_0 h L hrm ha i0 i1 hd (m4_2 C.2.1) ⟨L, s0, s1, ?_⟩ (Nat.zero_le _) (Nat.zero_le _) ?_
  · rw [e1]
    have := hb s s0 (by omega)
    have := hb (s + 1) (by omega) (by omega)
    constructor <;> omega
  · rintro r S1 V1 ⟨e0, rfl, rfl⟩
    subst e0
    refine t2_3_23 h L (show j_arr _ (a + 18) 400 from j_arr_of k18 (by decide) rfl) i0 (by omega) ha hd s0 (by omega) i0 i1 R ⟨rfl, ?_⟩ (Nat.le_refl _) (Nat.le_refl _)
    rw [j_up_ne n18, e1]
/-- the deals that count along a row, by a table -/
def j_Dt (V : jH) (t w : Int) : Int → Int → Int := j_D (V t 1) (V t 2) (fun p => V (t + 3 + 2 * p)) (V (w + 1))
/-- a table whose deals are whole -/
def j_tabOK (V : jH) (t : Int) : Prop := 8 ≤ V t 2 ∧ V t 2 ≤ 12 ∧ ∀ p : Int, 0 ≤ p → p < j_parts (V t 1) → j_dl (V (t + 3 + 2 * p)) 0 (j_M (V t 2))
/-- a row is planned up to a place -/
def j_plI (V : jH) (a t w i : Int) (V1 : jH) : Prop :=
  (∀ b : Int, b ≠ a + 11 → b ≠ a + 13 → b ≠ a + 14 → b ≠ a + 15 → b ≠ a + 18 → b ≠ a + 19 → V1 b = V b) ∧ (∀ j : Int, j ≠ 5 → V1 (a + 14) j = V (a + 14) j) ∧ V1 (a + 14) 5 = V w 1 ∧ V1 (a + 11) 1 = j_bef (V (w + 1)) i ∧ (V t 1 = 4 → ∀ j : Int, 0 ≤ j → j ≤ 256 → V1 (a + 13) j = j_G (V t 2) (V (w + 1)) i.toNat j) ∧
  ∀ x : Int, 0 ≤ x → x < i → V1 (a + 15) x = V (w + 1) x ∧ V1 (a + 18) x = j_sh (j_Dt V t w x) (V (w + 1) x) ∧ V1 (a + 19) x = j_Dt V t w x (V (w + 1) x)
/-- the last place without shares -/
def j_miss (f : Int → Int) (n m : Int) : Prop := (m = -1 ∧ ∀ x : Int, 0 ≤ x → x < n → f x ≠ 0) ∨ (0 ≤ m ∧ m < n ∧ f m = 0 ∧ ∀ x : Int, m < x → x < n → f x ≠ 0)
theorem m2_2 (l : Launch) : M2_2 l 0 0 (fun a t w S V => j_L S ∧ S.1 t = 29 ∧ S.1 w = 27 ∧ (w + 1 < a ∨ a + 21 < w) ∧ (t + 9 < a ∨ a + 21 < t ∨ t = a + 1) ∧ j_rowOK V w ∧ j_tabOK V t)
    (fun a t w S V m S' V' => S' = S ∧ j_plI V a t w (V w 1) V' ∧ j_miss (fun x => j_sh (j_Dt V t w x) (V (w + 1) x)) (V w 1) m) := by
  refine e2_2 ?_
  rintro C G h hrm hcs hl hn a t w S V ha ⟨L, ht, hw, apw, apt, ⟨n0, n1, hws⟩, r0, r1, hB⟩ R
  have hM := j_M_bd r0 r1
  have kg : S.1 (a + 11) = 25 := L0_1k L ha
  have hd : ∀ p : Int, 0 ≤ p → p < 4 → S.1 (t + 2 + 2 * p) = 23 := fun p p0 p1 => by
    have := LDealAk L (i := p) (L8_0k L ht) p0 p1
    rw [show t + 2 + 2 * p = t + 1 + 1 + 2 * p by omega]
    exact this
  refine t2_2_0 h L hrm ha (m6_2 C.2.1) ⟨L, ht, by omega, by omega, r0, r1⟩ (Nat.zero_le _) (Nat.zero_le _) ?_
  rintro S1 V1 ⟨e0, e1⟩
  subst e0
  rw [show a + 11 + 2 = a + 13 by omega] at e1
  have ew1 : V1 w = V w := by rw [e1, j_row_ne (by omega), j_up_ne (by omega)]
  refine t2_2_10 h L ha hw ?_
  rw [ew1]
  have loop : ∀ (i : Int) (z : Int × jH), (0 ≤ i ∧ i ≤ V w 1 ∧ j_plI V a t w i z.2 ∧ j_miss (fun x => j_sh (j_Dt V t w x) (V (w + 1) x)) i z.1) →
      j_ok n_KT 6 C G 24 [(0, (2, a)), (1, (2, t)), (2, (2, w)), (3, (0, z.1)), (4, (0, i))] [] S1 z.2 0 0 := by
    refine j_loop (N := V w 1) (fun i z hi hI kk => ?_) (fun i z hi hI => ?_)
    · obtain ⟨m, V2⟩ := z
      obtain ⟨g0, g1, ⟨f1, f2, f3, f4, f5, f6⟩, hm⟩ := hI
      dsimp only at f1 f2 f3 f4 f5 f6 hm ⊢
      have et : V2 t = V t := f1 t (by omega) (by omega) (by omega) (by omega) (by omega) (by omega)
      have ew : V2 w = V w := f1 w (by omega) (by omega) (by omega) (by omega) (by omega) (by omega)
      have eww : V2 (w + 1) = V (w + 1) := f1 (w + 1) (by omega) (by omega) (by omega) (by omega) (by omega) (by omega)
      have hs := hws i g0 hi
      have hD := j_D_dl (k := V t 1) (r := V t 2) (B := fun p => V (t + 3 + 2 * p)) (w := V (w + 1)) (n := V w 1) (i := i) r0 r1 hB hws g0 g1
      have hG : V t 1 = 4 → j_bd (V2 (a + 13)) 1048576 := fun hk j j0 j1 => by
        rw [f5 hk j j0 j1]
        exact j_dl_bd (j_dl_weak (j_G_dl r0 r1 i.toNat (fun x x0 x1 => hws x x0 (by omega))) (by decide)) (by omega) j j0 j1
      -- the deal that the guide tells
      have hr : S1.1 (j_gd V2 (a + 11) t) = 23 ∧ ∀ j : Int, 0 ≤ j → j ≤ 256 → V2 (j_gd V2 (a + 11) t + 1) j = j_Dt V t w i j := by
        unfold j_gd j_Dt j_D
        rw [et]
        by_cases k4 : V t 1 = 4
        · rw [if_pos k4, if_pos k4]
          refine ⟨by have := L4_0k L kg; exact this, fun j j0 j1 => ?_⟩
          rw [show a + 11 + 1 + 1 = a + 13 by omega]
          exact f5 k4 j j0 j1
        · rw [if_neg k4, if_neg k4]
          by_cases k3 : V t 1 = 3
          · rw [if_pos k3, if_pos k3, f4]
            refine ⟨hd _ (by omega) (by omega), fun j j0 j1 => ?_⟩
            have := f1 (t + 3 + 2 * (j_bef (V (w + 1)) i % 4)) (by omega) (by omega) (by omega) (by omega) (by omega) (by omega)
            rw [show t + 2 + 2 * (j_bef (V (w + 1)) i % 4) + 1 = t + 3 + 2 * (j_bef (V (w + 1)) i % 4) by omega, this]
          · rw [if_neg k3, if_neg k3]
            refine ⟨by have := hd 0 (by omega) (by omega); rw [show t + 2 + 2 * 0 = t + 2 by omega] at this; exact this, fun j j0 j1 => ?_⟩
            have := f1 (t + 3) (by omega) (by omega) (by omega) (by omega) (by omega) (by omega)
            rw [show t + 2 + 1 = t + 3 by omega, this]
            show V (t + 3) j = V (t + 3 + 2 * 0) j
            rw [show t + 3 + 2 * 0 = t + 3 by omega]
      have hDt : j_dl (j_Dt V t w i) 0 (j_M (V t 2)) := hD
      refine t2_2_24 h hw (fun q => absurd q (by show ¬ V2 w 1 ≤ i; rw [ew]; omega)) (fun q => ?_)
      refine t2_2_33 h L hrm hw g0 (by omega) ha (m6_3 C.2.1) ⟨L, ht⟩ (Nat.zero_le _) (Nat.zero_le _) ?_
      rintro d S2 V3 ⟨e0, e1, e2⟩
      subst e0
      subst e1
      rw [eww]
      rw [← e2] at hr
      have hbd : j_bd (V3 (d + 1)) 1048576 := fun j j0 j1 => by rw [hr.2 j j0 j1]; exact j_dl_bd hDt (by omega) j j0 j1
      refine t2_2_55 h hrm ha (m2_3 C.2.1) ⟨L, g0, by omega, hr.1, hs.1, hs.2, hbd⟩ (Nat.zero_le _) (Nat.zero_le _) ?_
      rintro S3 V4 ⟨e0, e4⟩
      subst e0
      have esh : j_sh (V3 (d + 1)) (V (w + 1) i) = j_sh (j_Dt V t w i) (V (w + 1) i) := by
        show V3 (d + 1) (V (w + 1) i + 1) - V3 (d + 1) (V (w + 1) i) = j_Dt V t w i (V (w + 1) i + 1) - j_Dt V t w i (V (w + 1) i)
        rw [hr.2 _ hs.1 (by omega), hr.2 _ (by omega) (by omega)]
      rw [esh, hr.2 _ hs.1 (by omega)] at e4
      have x13 : V4 (a + 13) = V3 (a + 13) := by rw [e4, j_up_ne (by omega), j_up_ne (by omega), j_up_ne (by omega)]
      have xt : V4 t = V t := by rw [e4, j_up_ne (by omega), j_up_ne (by omega), j_up_ne (by omega)]; exact et
      refine t2_2_58 h L hrm ha (m6_4 C.2.1) ⟨L, ht, by omega, hs.1, hs.2, fun hk => ?_⟩ (Nat.zero_le _) (Nat.zero_le _) ?_
      · rw [xt] at hk
        rw [show a + 11 + 2 = a + 13 by omega, x13]
        exact hG hk
      · rintro S4 V5 ⟨e0, e5⟩
        subst e0
        rw [show a + 11 + 2 = a + 13 by omega, xt, x13] at e5
        have y13 : V5 (a + 13) = j_g1 (V t 1) (V (w + 1) i) (V3 (a + 13)) := by rw [e5, j_row_at]
        have y11 : V5 (a + 11) 1 = V (w + 1) i := by rw [e5, j_row_ne (by omega), j_up_at]
        have yo : ∀ b : Int, b ≠ a + 11 → b ≠ a + 13 → V5 b = V4 b := fun b b0 b1 => by rw [e5, j_row_ne b1, j_up_ne b0]
        have z15 : ∀ x : Int, V5 (a + 15) x = if x = i then V (w + 1) i else V3 (a + 15) x := fun x => by
          rw [yo _ (by omega) (by omega), e4, j_up_ne (by omega), j_up_ne (by omega)]
          simp [j_up]
        have z18 : ∀ x : Int, V5 (a + 18) x = if x = i then j_sh (j_Dt V t w i) (V (w + 1) i) else V3 (a + 18) x := fun x => by
          rw [yo _ (by omega) (by omega), e4, j_up_ne (by omega)]
          by_cases e : x = i
          · rw [if_pos e, e, j_up_at]
          · rw [if_neg e, j_up_off e, j_up_ne (by omega)]
        have z19 : ∀ x : Int, V5 (a + 19) x = if x = i then j_Dt V t w i (V (w + 1) i) else V3 (a + 19) x := fun x => by
          rw [yo _ (by omega) (by omega), e4]
          by_cases e : x = i
          · rw [if_pos e, e, j_up_at]
          · rw [if_neg e, j_up_off e, j_up_ne (by omega), j_up_ne (by omega)]
        have zo : ∀ b : Int, b ≠ a + 11 → b ≠ a + 13 → b ≠ a + 15 → b ≠ a + 18 → b ≠ a + 19 → V5 b = V3 b := fun b b0 b1 b2 b3 b4 => by
          rw [yo b b0 b1, e4, j_up_ne b4, j_up_ne b3, j_up_ne b2]
        have inv : j_plI V a t w (i + 1) V5 := by
          refine ⟨fun b b0 b1 b2 b3 b4 b5 => ?_, fun j hj => ?_, ?_, ?_, fun hk j j0 j1 => ?_, fun x x0 x1 => ?_⟩
          · rw [zo b b0 b1 b3 b4 b5]; exact f1 b b0 b1 b2 b3 b4 b5
          · rw [zo (a + 14) (by omega) (by omega) (by omega) (by omega) (by omega)]; exact f2 j hj
          · rw [zo (a + 14) (by omega) (by omega) (by omega) (by omega) (by omega)]; exact f3
          · rw [y11]; unfold j_bef; rw [if_neg (by omega), show i + 1 - 1 = i by omega]
          · rw [y13]
            unfold j_g1
            rw [if_pos hk, show (i + 1).toNat = i.toNat + 1 by omega]
            show _ = j_gr (j_G (V t 2) (V (w + 1)) i.toNat) (V (w + 1) ((i.toNat : Nat) : Int)) j
            rw [show ((i.toNat : Nat) : Int) = i by omega]
            exact j_gr_congr (f5 hk) j0 j1
          · rw [z15, z18, z19]
            by_cases e : x = i
            · rw [if_pos e, if_pos e, if_pos e, e]; exact ⟨rfl, rfl, rfl⟩
            · rw [if_neg e, if_neg e, if_neg e]; exact f6 x x0 (by omega)
        refine t2_2_68 h L ha g0 (by omega) (fun q2 => ?_) (fun q2 => ?_)
        · rw [z18, if_pos rfl] at q2
          refine t2_2_84 h (by omega) (kk (m, V5) ⟨by omega, by omega, inv, ?_⟩)
          rcases hm with ⟨m1, m2⟩ | ⟨m1, m2, m3, m4⟩
          · refine Or.inl ⟨m1, fun x x0 x1 => ?_⟩
            by_cases e : x = i
            · rw [e]; exact q2
            · exact m2 x x0 (by omega)
          · refine Or.inr ⟨m1, by omega, m3, fun x x0 x1 => ?_⟩
            by_cases e : x = i
            · rw [e]; exact q2
            · exact m4 x x0 (by omega)
        · rw [z18, if_pos rfl] at q2
          exact t2_2_81 h (t2_2_84 h (by omega) (kk (i, V5) ⟨by omega, by omega, inv, Or.inr ⟨g0, by omega, q2, fun x x0 x1 => absurd x1 (by omega)⟩⟩))
    · obtain ⟨m, V2⟩ := z
      obtain ⟨g0, g1, gp, hm⟩ := hI
      have ew : V2 w = V w := gp.1 w (by omega) (by omega) (by omega) (by omega) (by omega) (by omega)
      have ei : i = V w 1 := by omega
      refine t2_2_24 h hw (fun q => ?_) (fun q => absurd q (by show ¬ i < V2 w 1; rw [ew]; omega))
      rw [ei] at gp hm
      exact t2_2_90 h R ⟨rfl, gp, hm⟩ (Nat.le_refl _) (Nat.le_refl _)
  refine loop 0 (-1, j_up V1 (a + 14) 5 (V w 1)) ⟨by omega, n0, ⟨fun b b0 b1 b2 b3 b4 b5 => ?_, fun j hj => ?_, ?_, ?_, fun hk j j0 j1 => ?_, fun x x0 x1 => absurd x1 (by omega)⟩, Or.inl ⟨rfl, fun x x0 x1 => absurd x1 (by omega)⟩⟩
  · show j_up V1 (a + 14) 5 (V w 1) b = V b
    rw [j_up_ne b2, e1, j_row_ne b1, j_up_ne b0]
  · show j_up V1 (a + 14) 5 (V w 1) (a + 14) j = V (a + 14) j
    rw [j_up_off hj, e1, j_row_ne (by omega), j_up_ne (by omega)]
  · show j_up V1 (a + 14) 5 (V w 1) (a + 14) 5 = V w 1
    rw [j_up_at]
  · show j_up V1 (a + 14) 5 (V w 1) (a + 11) 1 = 0
    rw [j_up_ne (by omega), e1, j_row_ne (by omega), j_up_at]
  · show j_up V1 (a + 14) 5 (V w 1) (a + 13) j = j * (j_M (V t 2) / 256)
    rw [j_up_ne (by omega), e1, j_row_at]
    unfold j_g0
    rw [if_pos hk, if_pos ⟨j0, j1⟩]
