/-! THE CLASS: packing a row on the bench -/
def j_PX (V : jH) (a M la : Int) : Nat → (Int → Int) × Int × (Int → Int) := j_pX M la (V (a + 14) 5) (V (a + 18)) (V (a + 19))
/-- the signs from behind place i are packed -/
def j_pkI (V : jH) (a M la i : Int) (V1 : jH) : Prop :=
  (∀ b : Int, b ≠ a → b ≠ a + 16 → b ≠ a + 17 → b ≠ a + 20 → b ≠ a + 21 → V1 b = V b) ∧ (∀ j : Int, j ≠ 5 → V1 a j = V a j) ∧ V1 a 5 = (j_PX V a M la (V (a + 14) 5 - 1 - i).toNat).2.1 ∧
  (∀ l : Int, 0 ≤ l → l < 4 → V1 (a + 20) l = (j_PX V a M la (V (a + 14) 5 - 1 - i).toNat).1 l) ∧ (∀ j : Int, 0 ≤ j → j < V1 a 5 → V1 (a + 21) j = (j_PX V a M la (V (a + 14) 5 - 1 - i).toNat).2.2 j) ∧
  ∀ x : Int, i < x → x < V (a + 14) 5 → V1 (a + 16) x = (j_PX V a M la (V (a + 14) 5 - 1 - x).toNat).1 (x % la) ∧ V1 (a + 17) x = (j_PX V a M la (V (a + 14) 5 - 1 - x).toNat).2.1
theorem m2_4 (l : Launch) : M2_4 l 0 0 (fun a M la S V => j_L S ∧ 1 ≤ la ∧ la ≤ 4 ∧ 256 ≤ M ∧ M ≤ 4096 ∧ 0 ≤ V (a + 14) 5 ∧ V (a + 14) 5 ≤ 400 ∧ ∀ i : Int, 0 ≤ i → i < V (a + 14) 5 → 1 ≤ V (a + 18) i ∧ 0 ≤ V (a + 19) i ∧ V (a + 19) i + V (a + 18) i ≤ M)
    (fun a M la S V S' V' => S' = S ∧ j_pkI V a M la (-1) V') := by
  refine e2_4 ?_
  rintro C G h hrm hcs hl hn a M la S V ha ⟨L, l0, l1, M0, M1, n0, n1, hfb⟩ R
  have k20 : S.1 (a + 20) = 4 := L0_3k L ha
  refine t2_4_0 h L hrm ha (m17_103 C.2.1 4) ⟨j_arr_of k20 (by decide) rfl, by decide⟩ (Nat.zero_le _) (Nat.zero_le _) ?_
  rintro S1 V1 ⟨e0, e1⟩
  subst e0
  refine t2_4_8 h ha (fun q => absurd q (by omega)) (fun q => ?_)
  refine t2_4_18 h (fun _ => ?_) (fun q => absurd q (by omega))
  have en : j_up V1 a 5 0 (a + 14) 5 = V (a + 14) 5 := by
    rw [j_up_ne (by omega), e1]; unfold j_fill; rw [j_row_ne (by omega)]
  refine t2_4_24 h L ha (by rw [en]; omega) ?_
  rw [en]
  have loop : ∀ (i : Int) (V2 : jH), (-1 ≤ i ∧ i < V (a + 14) 5 ∧ j_pkI V a M la i V2) →
      j_ok n_KT 5 C G 34 [(0, (2, a)), (1, (0, M)), (2, (0, la)), (3, (0, i))] [] S1 V2 0 0 := by
    refine j_loopD (N := 0) (fun i V2 hi hI kk => ?_) (fun i V2 hi hI => ?_)
    · obtain ⟨g0, g1, f1, f2, f3, f4, f5, f6⟩ := hI
      obtain ⟨x1, x2, x3⟩ := j_pX_bd (la := la) M0 M1 hfb (V (a + 14) 5 - 1 - i).toNat (by omega)
      change ∀ l : Int, M ≤ (j_PX V a M la (V (a + 14) 5 - 1 - i).toNat).1 l ∧ (j_PX V a M la (V (a + 14) 5 - 1 - i).toNat).1 l < 256 * M at x1
      change 0 ≤ (j_PX V a M la (V (a + 14) 5 - 1 - i).toNat).2.1 at x2
      change (j_PX V a M la (V (a + 14) 5 - 1 - i).toNat).2.1 ≤ 2 * ((V (a + 14) 5 - 1 - i).toNat : Int) at x3
      have m0 : 0 ≤ i % la := Int.emod_nonneg _ (by omega)
      have m1 : i % la < la := Int.emod_lt_of_pos _ (by omega)
      have hx : V2 (a + 20) (i % la) = (j_PX V a M la (V (a + 14) 5 - 1 - i).toNat).1 (i % la) := f4 _ m0 (by omega)
      have e18 : V2 (a + 18) = V (a + 18) := f1 _ (by omega) (by omega) (by omega) (by omega) (by omega)
      have e19 : V2 (a + 19) = V (a + 19) := f1 _ (by omega) (by omega) (by omega) (by omega) (by omega)
      obtain ⟨q1, q2, q3⟩ := hfb i hi g1
      refine t2_4_34 h (fun q => absurd q (by omega)) (fun _ => ?_)
      have z18 : j_up (j_up V2 (a + 16) i (V2 (a + 20) (i % la))) (a + 17) i (V2 a 5) (a + 18) = V (a + 18) := by rw [j_up_ne (by omega), j_up_ne (by omega), e18]
      have z19 : j_up (j_up V2 (a + 16) i (V2 (a + 20) (i % la))) (a + 17) i (V2 a 5) (a + 19) = V (a + 19) := by rw [j_up_ne (by omega), j_up_ne (by omega), e19]
      have za : j_up (j_up V2 (a + 16) i (V2 (a + 20) (i % la))) (a + 17) i (V2 a 5) a = V2 a := by rw [j_up_ne (by omega), j_up_ne (by omega)]
      have z21 : j_up (j_up V2 (a + 16) i (V2 (a + 20) (i % la))) (a + 17) i (V2 a 5) (a + 21) = V2 (a + 21) := by rw [j_up_ne (by omega), j_up_ne (by omega)]
      have hx1 := x1 (i % la)
      refine t2_4_38 h L hrm hi l0 ha m0 (by omega) (by omega) (m2_5 C.2.1) ⟨L, hi, by omega, by rw [z18]; omega, by rw [z18]; omega, by rw [z19]; omega, by rw [z19]; omega, by rw [hx]; omega, by rw [hx]; omega, M0, M1, by rw [za, f3]; omega, by rw [za, f3]; omega⟩ (Nat.zero_le _) (Nat.zero_le _) ?_
      rintro r S2 V3 ⟨e0, er, e3⟩
      subst e0
      rw [z18, z19] at er
      rw [z18, za, z21] at e3
      refine t2_4_91 h (show j_arr _ (a + 20) 4 from j_arr_of k20 (by decide) rfl) m0 (by omega) (by omega) ?_
      rw [show i + (-1) = i - 1 by omega]
      refine kk _ ⟨by omega, by omega, ?_⟩
      have ek : (V (a + 14) 5 - 1 - (i - 1)).toNat = (V (a + 14) 5 - 1 - i).toNat + 1 := by omega
      have ei : V (a + 14) 5 - 1 - ((V (a + 14) 5 - 1 - i).toNat : Int) = i := by omega
      have eX : j_PX V a M la ((V (a + 14) 5 - 1 - i).toNat + 1) = (j_u (j_PX V a M la (V (a + 14) 5 - 1 - i).toNat).1 (i % la) r, (j_PX V a M la (V (a + 14) 5 - 1 - i).toNat).2.1 + j_sc (V2 (a + 20) (i % la)) (V (a + 18) i), j_pb (j_PX V a M la (V (a + 14) 5 - 1 - i).toNat).2.2 (j_PX V a M la (V (a + 14) 5 - 1 - i).toNat).2.1 (V2 (a + 20) (i % la)) (V (a + 18) i)) := by
        rw [er, hx]
        unfold j_PX
        rw [j_pX, ei]
      have w5 : j_up V3 (a + 20) (i % la) r a 5 = V2 a 5 + j_sc (V2 (a + 20) (i % la)) (V (a + 18) i) := by
        rw [j_up_ne (by omega), e3, j_row_ne (by omega), j_up_at]
      refine ⟨fun b b0 b1 b2 b3 b4 => ?_, fun j hj => ?_, ?_, fun y y0 y1 => ?_, fun j j0 j1 => ?_, fun x x0 xn => ?_⟩
      · rw [j_up_ne b3, e3, j_row_ne b4, j_up_ne b0, j_up_ne b2, j_up_ne b1]; exact f1 b b0 b1 b2 b3 b4
      · rw [j_up_ne (by omega), e3, j_row_ne (by omega), j_up_off hj, j_up_ne (by omega), j_up_ne (by omega)]; exact f2 j hj
      · rw [ek, eX, w5, f3]
      · rw [ek, eX]
        show j_up V3 (a + 20) (i % la) r (a + 20) y = j_u (j_PX V a M la (V (a + 14) 5 - 1 - i).toNat).1 (i % la) r y
        by_cases e : y = i % la
        · rw [e, j_up_at, j_u_at]
        · rw [j_up_off e, j_u_ne e, e3, j_row_ne (by omega), j_up_ne (by omega), j_up_ne (by omega), j_up_ne (by omega)]
          exact f4 y y0 y1
      · rw [w5] at j1
        rw [ek, eX]
        show j_up V3 (a + 20) (i % la) r (a + 21) j = j_pb (j_PX V a M la (V (a + 14) 5 - 1 - i).toNat).2.2 (j_PX V a M la (V (a + 14) 5 - 1 - i).toNat).2.1 (V2 (a + 20) (i % la)) (V (a + 18) i) j
        rw [j_up_ne (by omega), e3, j_row_at, ← f3]
        exact j_pb_congr f5 j0 j1
      · have eV : j_up V3 (a + 20) (i % la) r (a + 16) x = j_up V2 (a + 16) i (V2 (a + 20) (i % la)) (a + 16) x := by rw [j_up_ne (by omega), e3, j_row_ne (by omega), j_up_ne (by omega), j_up_ne (by omega)]
        have eW : j_up V3 (a + 20) (i % la) r (a + 17) x = j_up (j_up V2 (a + 16) i (V2 (a + 20) (i % la))) (a + 17) i (V2 a 5) (a + 17) x := by rw [j_up_ne (by omega), e3, j_row_ne (by omega), j_up_ne (by omega)]
        rw [eV, eW]
        by_cases e : x = i
        · rw [e, j_up_at, j_up_at]
          exact ⟨hx, f3⟩
        · rw [j_up_off e, j_up_off e, j_up_ne (by omega)]
          exact f6 x (by omega) xn
    · obtain ⟨g0, g1, gp⟩ := hI
      have ei : i = -1 := by omega
      subst ei
      exact t2_4_34 h (fun _ => t2_4_98 h R ⟨rfl, gp⟩ (Nat.le_refl _) (Nat.le_refl _)) (fun q => absurd q (by omega))
  refine loop (V (a + 14) 5 - 1) _ ⟨by omega, by omega, fun b b0 b1 b2 b3 b4 => ?_, fun j hj => ?_, ?_, fun y y0 y1 => ?_, fun j j0 j1 => ?_, fun x x0 xn => absurd xn (by omega)⟩
  · rw [j_up_ne b0, e1]; unfold j_fill; rw [j_row_ne b3]
  · rw [j_up_off hj, e1]; unfold j_fill; rw [j_row_ne (by omega)]
  · rw [j_up_at, show V (a + 14) 5 - 1 - (V (a + 14) 5 - 1) = 0 by omega]; rfl
  · rw [j_up_ne (by omega), e1, show V (a + 14) 5 - 1 - (V (a + 14) 5 - 1) = 0 by omega]
    unfold j_fill
    rw [j_row_at]
    show (if 0 ≤ y ∧ y < ((4 : Nat) : Int) then M else V (a + 20) y) = M
    rw [if_pos ⟨y0, by omega⟩]
  · rw [j_up_at] at j1
    omega
theorem m2_6 (l : Launch) : M2_6 l 0 0 (fun a z la S V => 0 ≤ z ∧ z ≤ 10000 ∧ 0 ≤ la ∧ la ≤ 4 ∧ 0 ≤ V a 5 ∧ V a 5 ≤ 800) (fun a z la S V r S' V' => S' = S ∧ V' = V ∧ r = 5 + z + 3 * la + 2 + V a 5 + 2) := by
  refine e2_6 ?_
  rintro C G h hrm hcs hl hn a z la S V ha ⟨z0, z1, l0, l1, u0, u1⟩ R
  exact t2_6_0 h (by omega) (by omega) (by omega) (by omega) ha (by omega) (by omega) R ⟨rfl, rfl, rfl⟩ (Nat.le_refl _) (Nat.le_refl _)
theorem m2_9 (l : Launch) : M2_9 l 0 0 (fun a la S V => j_L S ∧ 0 ≤ la ∧ la ≤ 4 ∧ 8 ≤ V (a + 1) 2 ∧ V (a + 1) 2 ≤ 12) (fun a la S V r S' V' => S' = S ∧ V' = V ∧ j_says r (∀ x : Int, 0 ≤ x → x < la → V (a + 20) x = j_M (V (a + 1) 2))) := by
  refine e2_9 ?_
  rintro C G h hrm hcs hl hn a la S V ha ⟨L, l0, l1, r0, r1⟩ R
  refine t2_9_0 h ?_
  have loop : ∀ (i : Int) (_ : Unit), (0 ≤ i ∧ i ≤ la ∧ ∀ x : Int, 0 ≤ x → x < i → V (a + 20) x = j_M (V (a + 1) 2)) → j_ok n_KT 3 C G 2 [(0, (2, a)), (1, (0, la)), (2, (0, i))] [] S V 0 0 := by
    refine j_loop (N := la) (fun i _ hi hI kk => ?_) (fun i _ hi hI => ?_)
    · obtain ⟨g0, g1, g2⟩ := hI
      refine t2_9_2 h (fun q => absurd q (by omega)) (fun _ => ?_)
      refine t2_9_7 h L hrm ha g0 (by omega) (m10_4 C.2.1) ⟨r0, r1⟩ (Nat.zero_le _) (Nat.zero_le _) ?_
      rintro r S1 V1 ⟨rfl, rfl, rfl⟩
      refine t2_9_20 h (fun q => ?_) (fun q => ?_)
      · refine t2_9_25 h (by omega) (kk () ⟨by omega, by omega, fun x x0 x1 => ?_⟩)
        by_cases e : x = i
        · rw [e]; exact q
        · exact g2 x x0 (by omega)
      · exact t2_9_23 h R ⟨rfl, rfl, Or.inr ⟨rfl, fun hh => q (hh i g0 hi)⟩⟩ (Nat.le_refl _) (Nat.le_refl _)
    · obtain ⟨g0, g1, g2⟩ := hI
      have ei : i = la := by omega
      subst ei
      exact t2_9_2 h (fun _ => t2_9_31 h R ⟨rfl, rfl, Or.inl ⟨rfl, g2⟩⟩ (Nat.le_refl _) (Nat.le_refl _)) (fun q => absurd q (by omega))
  exact loop 0 () ⟨by omega, l0, fun x x0 x1 => absurd x1 (by omega)⟩
