/-! THE CLASS: blocks -/
/-- the bytes of a block -/
def j_B (V : jH) (a : Int) : List Int := (List.range (V a 1).toNat).map (fun i : Nat => V (a + 1) (i : Int))
theorem j_B_len (V : jH) (a : Int) : (j_B V a).length = (V a 1).toNat := by unfold j_B; rw [List.length_map, List.length_range]
theorem j_B_congr {V V' : jH} {a : Int} (h0 : V' a 1 = V a 1) (h1 : ∀ i : Int, 0 ≤ i → i < V a 1 → V' (a + 1) i = V (a + 1) i) : j_B V' a = j_B V a := by
  unfold j_B
  rw [h0]
  refine List.map_congr_left (fun i hi => ?_)
  have := List.mem_range.mp hi
  exact h1 _ (by omega) (by omega)
theorem j_B_push {V : jH} {a y : Int} (h : 0 ≤ V a 1) : j_B (j_up (j_up V (a + 1) (V a 1) y) a 1 (V a 1 + 1)) a = j_B V a ++ [y] := by
  unfold j_B
  rw [j_up_at, show (V a 1 + 1).toNat = (V a 1).toNat + 1 by omega, List.range_succ, List.map_append, j_up_ne (show a + 1 ≠ a by omega)]
  congr 1
  · refine List.map_congr_left (fun i hi => ?_)
    have := List.mem_range.mp hi
    rw [j_up_off (by omega)]
  · show [j_up V (a + 1) (V a 1) y (a + 1) (((V a 1).toNat : Nat) : Int)] = [y]
    rw [show (((V a 1).toNat : Nat) : Int) = V a 1 by omega, j_up_at]
/-- a number in so many bytes, its high byte first -/
def j_num (x : Int) : Nat → List Int
  | 0 => []
  | n + 1 => (x / 2 ^ (8 * n) % 256) :: j_num x n
theorem j_num_len (x : Int) : ∀ n : Nat, (j_num x n).length = n
  | 0 => rfl
  | n + 1 => by show (j_num x n).length + 1 = n + 1; rw [j_num_len x n]
theorem m3_6 (l : Launch) : M3_6 l 0 0 (fun a x n S V => j_L S ∧ 0 ≤ x ∧ 0 ≤ n ∧ n ≤ 4 ∧ 0 ≤ V a 1 ∧ V a 1 + n ≤ 4400) (fun a x n S V S' V' => S' = S ∧ j_B V' a = j_B V a ++ j_num x n.toNat ∧ V' a 1 = V a 1 + n ∧ (∀ b : Int, b ≠ a → b ≠ a + 1 → V' b = V b) ∧ ∀ j : Int, j ≠ 1 → V' a j = V a j) := by
  refine e3_6 ?_
  rintro C G h hrm hcs hl hn a x n S V ha ⟨L, x0, n0, n1, u0, u1⟩ R
  refine t3_6_0 h (by omega) ?_
  have loop : ∀ (i : Int) (V1 : jH), (-1 ≤ i ∧ i ≤ 3 ∧ 0 ≤ V1 a 1 ∧ V1 a 1 + i + 1 = V a 1 + n ∧ j_B V1 a ++ j_num x (i + 1).toNat = j_B V a ++ j_num x n.toNat ∧ (∀ b : Int, b ≠ a → b ≠ a + 1 → V1 b = V b) ∧ ∀ j : Int, j ≠ 1 → V1 a j = V a j) → j_ok n_KT 4 C G 4 [(0, (2, a)), (1, (0, x)), (3, (0, i))] [] S V1 0 0 := by
    refine j_loopD (N := 0) (fun i V1 hi hI kk => ?_) (fun i V1 hi hI => ?_)
    · obtain ⟨g0, g1, g2, g3, g4, g5, g6⟩ := hI
      refine t3_6_4 h (fun q => absurd q (by omega)) (fun _ => ?_)
      refine t3_6_8 h ha (fun q => absurd q (by omega)) (fun _ => ?_)
      refine t3_6_18 h L ha (by omega) (by omega) (by omega) x0 g2 (by omega) (by omega) (by omega) ?_
      rw [show i + (-1) = i - 1 by omega]
      refine kk _ ⟨by omega, by omega, by rw [j_up_at]; omega, by rw [j_up_at]; omega, ?_, fun b b0 b1 => by rw [j_up_ne b0, j_up_ne b1]; exact g5 b b0 b1, fun j hj => by rw [j_up_off hj, j_up_ne (by omega)]; exact g6 j hj⟩
      rw [j_B_push g2, ← g4, show (i - 1 + 1).toNat = i.toNat by omega, show (i + 1).toNat = i.toNat + 1 by omega, show (8 * i).toNat = 8 * i.toNat by omega, List.append_assoc]
      rfl
    · obtain ⟨g0, g1, g2, g3, g4, g5, g6⟩ := hI
      have ei : i = -1 := by omega
      subst ei
      refine t3_6_4 h (fun _ => t3_6_53 h R ⟨rfl, ?_, by omega, g5, g6⟩ (Nat.le_refl _) (Nat.le_refl _)) (fun q => absurd q (by omega))
      rw [← g4]
      show _ = j_B V1 a ++ []
      rw [List.append_nil]
  exact loop (n - 1) V ⟨by omega, by omega, u0, by omega, by rw [show n - 1 + 1 = n by omega], fun b _ _ => rfl, fun j _ => rfl⟩
/-- the shares of a deal, sign by sign -/
def j_dT (b : Int → Int) : Nat → List Int
  | 0 => []
  | n + 1 => j_dT b n ++ (if 0 < j_sh b n then j_num n 1 ++ j_num (j_sh b n - 1) 2 else [])
def j_dealT (b : Int → Int) : List Int := j_num (j_with b 256) 2 ++ j_dT b 256
theorem j_dT_len (b : Int → Int) : ∀ n : Nat, ((j_dT b n).length : Int) = 3 * j_with b n
  | 0 => rfl
  | n + 1 => by
    have ih := j_dT_len b n
    have en : ((n + 1 : Nat) : Int) = (n : Int) + 1 := by omega
    have ew : j_with b ((n : Int) + 1) = j_with b n + (if 0 < j_sh b n then 1 else 0) := by unfold j_with; rw [j_pre_s _ (by omega)]
    rw [en, ew]
    show (((j_dT b n ++ (if 0 < j_sh b n then j_num n 1 ++ j_num (j_sh b n - 1) 2 else [])).length : Nat) : Int) = _
    rw [List.length_append]
    by_cases c : 0 < j_sh b n
    · rw [if_pos c, if_pos c, List.length_append, j_num_len, j_num_len]; omega
    · rw [if_neg c, if_neg c]
      show (((j_dT b n).length + 0 : Nat) : Int) = _
      omega
theorem m3_8 (l : Launch) : M3_8 l 0 0 (fun a d S V => j_L S ∧ S.1 d = 23 ∧ j_bd (V (d + 1)) 1048576 ∧ 0 ≤ V a 1 ∧ V a 1 ≤ 3600) (fun a d S V S' V' => S' = S ∧ j_B V' a = j_B V a ++ j_dealT (V (d + 1)) ∧ V' a 1 = V a 1 + (2 + 3 * j_with (V (d + 1)) 256) ∧ (∀ b : Int, b ≠ a → b ≠ a + 1 → V' b = V b) ∧ ∀ j : Int, j ≠ 1 → V' a j = V a j) := by
  refine e3_8 ?_
  rintro C G h hrm hcs hl hn a d S V ha ⟨L, hd, hb, u0, u1⟩ R
  have kd : S.1 (d + 1) = 2 := L2_0k L hd
  have k1 : S.1 (a + 1) = 6 := L1_0k L ha
  have n0 : d + 1 ≠ a := fun e => by rw [e, ha] at kd; exact absurd kd (by decide)
  have n1 : d + 1 ≠ a + 1 := fun e => by rw [e, k1] at kd; exact absurd kd (by decide)
  refine t3_8_0 h hrm hd (m4_4 C.2.1) ⟨L, hb⟩ (Nat.zero_le _) (Nat.zero_le _) ?_
  rintro r S1 V1 ⟨rfl, rfl, er⟩
  rw [er]
  have bw := j_with_bd (V1 (d + 1)) (n := 256) (by omega)
  refine t3_8_5 h hrm ha (m3_6 C.2.1) ⟨L, bw.1, by omega, by omega, u0, by omega⟩ (Nat.zero_le _) (Nat.zero_le _) ?_
  rintro S2 V2 ⟨rfl, p1, p2, p3, p4⟩
  refine t3_8_9 h ?_
  have loop : ∀ (i : Int) (V3 : jH), (0 ≤ i ∧ i ≤ 256 ∧ j_B V3 a = j_B V1 a ++ (j_num (j_with (V1 (d + 1)) 256) 2 ++ j_dT (V1 (d + 1)) i.toNat) ∧ V3 a 1 = V1 a 1 + (2 + 3 * j_with (V1 (d + 1)) i) ∧ (∀ b : Int, b ≠ a → b ≠ a + 1 → V3 b = V1 b) ∧ ∀ j : Int, j ≠ 1 → V3 a j = V1 a j) → j_ok n_KT 4 C G 11 [(0, (2, a)), (1, (2, d)), (2, (0, i))] [] S2 V3 0 0 := by
    refine j_loop (N := 256) (fun i V3 hi hI kk => ?_) (fun i V3 hi hI => ?_)
    · obtain ⟨g0, g1, g2, g3, g4, g5⟩ := hI
      have ed : V3 (d + 1) = V1 (d + 1) := g4 _ n0 n1
      have bi := j_with_bd (V1 (d + 1)) g0
      have b1 := hb i g0 (by omega)
      have b2 := hb (i + 1) (by omega) (by omega)
      have ei : ((i.toNat : Nat) : Int) = i := by omega
      have ew : j_with (V1 (d + 1)) (i + 1) = j_with (V1 (d + 1)) i + (if 0 < j_sh (V1 (d + 1)) i then 1 else 0) := by unfold j_with; rw [j_pre_s _ g0]
      have eT : j_dT (V1 (d + 1)) (i + 1).toNat = j_dT (V1 (d + 1)) i.toNat ++ (if 0 < j_sh (V1 (d + 1)) i then j_num i 1 ++ j_num (j_sh (V1 (d + 1)) i - 1) 2 else []) := by
        rw [show (i + 1).toNat = i.toNat + 1 by omega, j_dT, ei]
      refine t3_8_11 h (fun q => absurd q (by omega)) (fun _ => ?_)
      refine t3_8_18 h hrm hd (m4_2 C.2.1) ⟨L, g0, hi, by rw [ed]; constructor <;> omega⟩ (Nat.zero_le _) (Nat.zero_le _) ?_
      rintro r S3 V4 ⟨rfl, rfl, er⟩
      rw [ed] at er
      have er2 : r = V1 (d + 1) (i + 1) - V1 (d + 1) i := er
      change r = j_sh (V1 (d + 1)) i at er
      refine t3_8_23 h (fun q => ?_) (fun q => ?_)
      · refine t3_8_42 h (by omega) (kk _ ⟨by omega, by omega, ?_, ?_, g4, g5⟩)
        · rw [eT, if_neg (by omega), List.append_nil]; exact g2
        · rw [ew, if_neg (by omega), g3]; omega
      · have q' : 0 < j_sh (V1 (d + 1)) i := by omega
        refine t3_8_28 h hrm ha (m3_6 C.2.1) ⟨L, g0, by omega, by omega, by omega, by omega⟩ (Nat.zero_le _) (Nat.zero_le _) ?_
        rintro S4 V5 ⟨rfl, x1, x2, x3, x4⟩
        refine t3_8_34 h hrm (by omega) ha (m3_6 C.2.1) ⟨L, by omega, by omega, by omega, by omega, by omega⟩ (Nat.zero_le _) (Nat.zero_le _) ?_
        rintro S5 V6 ⟨rfl, y1, y2, y3, y4⟩
        refine t3_8_42 h (by omega) (kk _ ⟨by omega, by omega, ?_, ?_, fun b b0 b1 => ?_, fun j hj => ?_⟩)
        · rw [eT, if_pos q', y1, x1, g2, er]
          simp only [List.append_assoc]
          rfl
        · rw [ew, if_pos q', y2, x2, g3]; omega
        · rw [y3 b b0 b1, x3 b b0 b1]; exact g4 b b0 b1
        · rw [y4 j hj, x4 j hj]; exact g5 j hj
    · obtain ⟨g0, g1, g2, g3, g4, g5⟩ := hI
      have ei : i = 256 := by omega
      rw [ei] at g2 g3
      exact t3_8_11 h (fun _ => t3_8_48 h R ⟨rfl, g2, g3, g4, g5⟩ (Nat.le_refl _) (Nat.le_refl _)) (fun q => absurd q (by omega))
  refine loop 0 V2 ⟨by omega, by omega, ?_, ?_, p3, p4⟩
  · rw [p1]
    show _ = _ ++ (_ ++ [])
    rw [List.append_nil]
    rfl
  · rw [p2]
    show V1 a 1 + 2 = V1 a 1 + (2 + 3 * 0)
    omega
/-- the SUM over bytes ahead of a place -/
def j_SUM (f : Int → Int) (n : Int) : Int := j_pre (fun i => (i + 1) * f i) n % 65521
theorem m3_9 (l : Launch) : M3_9 l 0 0 (fun a p S V => j_L S ∧ 0 ≤ p ∧ p ≤ 4400 ∧ ∀ i : Int, 0 ≤ i → i < p → 0 ≤ V (a + 1) i ∧ V (a + 1) i ≤ 255) (fun a p S V r S' V' => S' = S ∧ V' = V ∧ r = j_SUM (V (a + 1)) p) := by
  refine e3_9 ?_
  rintro C G h hrm hcs hl hn a p S V ha ⟨L, p0, p1, hb⟩ R
  refine t3_9_0 h ?_
  have loop : ∀ (i : Int) (z : Int), (0 ≤ i ∧ i ≤ p ∧ z = j_pre (fun i => (i + 1) * V (a + 1) i) i) → j_ok n_KT 5 C G 5 [(0, (2, a)), (1, (0, p)), (2, (1, z)), (4, (0, i))] [] S V 0 0 := by
    refine j_loop (N := p) (fun i z hi hI kk => ?_) (fun i z hi hI => ?_)
    · obtain ⟨g0, g1, e⟩ := hI
      have b1 := hb i g0 hi
      have bz := j_pre_bd (f := fun i => (i + 1) * V (a + 1) i) (B := 1122000) (i := i) (by decide) g0 (fun k k0 k1 => by
        have := hb k k0 (by omega)
        exact j_mulb (show 0 ≤ k + 1 by omega) (show k + 1 ≤ 4400 by omega) this.1 this.2)
      have bm := j_mulb (show 0 ≤ i + 1 by omega) (show i + 1 ≤ 4400 by omega) b1.1 b1.2
      have bi := j_mulb g0 (show i ≤ 4400 by omega) (show (0 : Int) ≤ 1122000 by omega) (Int.le_refl _)
      refine t3_9_5 h (fun q => absurd q (by omega)) (fun _ => ?_)
      refine t3_9_11 h L (by omega) ha g0 (by omega) (by omega) (by omega) (kk _ ⟨by omega, by omega, ?_⟩)
      rw [j_pre_s _ g0, e]
    · obtain ⟨g0, g1, e⟩ := hI
      have ei : i = p := by omega
      have bz := j_pre_bd (f := fun i => (i + 1) * V (a + 1) i) (B := 1122000) (i := i) (by decide) g0 (fun k k0 k1 => by
        have := hb k k0 (by omega)
        exact j_mulb (show 0 ≤ k + 1 by omega) (show k + 1 ≤ 4400 by omega) this.1 this.2)
      refine t3_9_5 h (fun _ => t3_9_33 h (by omega) R ⟨rfl, rfl, ?_⟩ (Nat.le_refl _) (Nat.le_refl _)) (fun q => absurd q (by omega))
      rw [j_w32_in (by omega) (by omega), e, ei]
      rfl
  exact loop 0 0 ⟨by omega, p0, rfl⟩
theorem m3_5 (l : Launch) : M3_5 l 0 0 (fun a o S V => j_L S ∧ S.1 o = 28 ∧ 0 ≤ V o 5 ∧ V o 5 ≤ 400) (fun a o S V S' V' => S' = S ∧ V' = j_stepsBe (j_up V a 2 1) (a + 2) o) := by
  refine e3_5 ?_
  rintro C G h hrm hcs hl hn a o S V ha ⟨L, ho, c0, c1⟩ R
  have n1 : o ≠ a := fun e => by rw [e, ha] at ho; exact absurd ho (by decide)
  refine t3_5_0 h L hrm ha (m9_2 C.2.1) ⟨L, ho, by rw [j_up_ne n1]; exact c0, by rw [j_up_ne n1]; exact c1⟩ (Nat.zero_le _) (Nat.zero_le _) ?_
  rintro S1 V1 ⟨rfl, rfl⟩
  exact t3_5_13 h R ⟨rfl, rfl⟩ (Nat.le_refl _) (Nat.le_refl _)
theorem m3_4 (l : Launch) : M3_4 l 0 0 (fun a S V => True) (fun a S V S' V' => S' = S ∧ V' = j_up (j_up V a 2 0) a 4 0) := by
  refine e3_4 ?_
  rintro C G h hrm hcs hl hn a S V ha - R
  exact t3_4_0 h ha R ⟨rfl, rfl⟩ (Nat.le_refl _) (Nat.le_refl _)
def j_marks (every count : Int) : Int := if every < 1 then 0 else (count + every - 1) / every
theorem m3_3 (l : Launch) : M3_3 l 0 0 (fun a S V => j_L S ∧ 0 ≤ V (a + 2) 5 ∧ V (a + 2) 5 ≤ 400 ∧ V a 4 ≤ 400) (fun a S V r S' V' => S' = S ∧ V' = V ∧ r = j_marks (V a 4) (V (a + 2) 5)) := by
  refine e3_3 ?_
  rintro C G h hrm hcs hl hn a S V ha ⟨L, c0, c1, e1⟩ R
  refine t3_3_0 h ha (fun q => ?_) (fun q => ?_)
  · refine t3_3_12 h L ha (by omega) (by omega) (by omega) q (t3_3_31 h R ⟨rfl, rfl, ?_⟩ (Nat.le_refl _) (Nat.le_refl _))
    unfold j_marks; rw [if_neg (by omega)]
  · refine t3_3_8 h (t3_3_31 h R ⟨rfl, rfl, ?_⟩ (Nat.le_refl _) (Nat.le_refl _))
    unfold j_marks; rw [if_pos q]
