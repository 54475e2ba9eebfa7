/-! THE CLASS: a block is filled -/
def j_fb (V V1 : jH) (a : Int) : Prop := (∀ b : Int, b ≠ a → b ≠ a + 1 → V1 b = V b) ∧ ∀ j : Int, j ≠ 1 → V1 a j = V a j
theorem j_fb.tr {V V1 V2 : jH} {a : Int} (h : j_fb V V1 a) (h' : (∀ b : Int, b ≠ a → b ≠ a + 1 → V2 b = V1 b) ∧ ∀ j : Int, j ≠ 1 → V2 a j = V1 a j) : j_fb V V2 a :=
  ⟨fun b b0 b1 => (h'.1 b b0 b1).trans (h.1 b b0 b1), fun j hj => (h'.2 j hj).trans (h.2 j hj)⟩
def j_byt (l : List Int) : Prop := ∀ y ∈ l, 0 ≤ y ∧ y ≤ 255
theorem j_byt_app {l l' : List Int} (h : j_byt l) (h' : j_byt l') : j_byt (l ++ l') := fun y hy => by
  rcases List.mem_append.mp hy with z | z
  · exact h y z
  · exact h' y z
theorem j_byt_nil : j_byt [] := fun y hy => absurd hy (by simp)
theorem j_byt_num (x : Int) : ∀ n : Nat, j_byt (j_num x n)
  | 0 => j_byt_nil
  | n + 1 => fun y hy => by
    rcases List.mem_cons.mp hy with z | z
    · rw [z]; omega
    · exact j_byt_num x n y z
theorem j_byt_dT (b : Int → Int) : ∀ n : Nat, j_byt (j_dT b n)
  | 0 => j_byt_nil
  | n + 1 => by
    refine j_byt_app (j_byt_dT b n) ?_
    split
    · exact j_byt_app (j_byt_num _ _) (j_byt_num _ _)
    · exact j_byt_nil
theorem j_byt_deal (b : Int → Int) : j_byt (j_dealT b) := j_byt_app (j_byt_num _ _) (j_byt_dT b 256)
theorem j_byt_B {V : jH} {a : Int} (h : j_byt (j_B V a)) {i : Int} (i0 : 0 ≤ i) (i1 : i < V a 1) : 0 ≤ V (a + 1) i ∧ V (a + 1) i ≤ 255 := by
  refine h _ ?_
  unfold j_B
  refine List.mem_map.mpr ⟨i.toNat, List.mem_range.mpr (by omega), ?_⟩
  rw [show ((i.toNat : Nat) : Int) = i by omega]
/-- the SUM of a text -/
def j_sl : List Int → Int → Int
  | [], _ => 0
  | y :: l, i => (i + 1) * y + j_sl l (i + 1)
theorem j_sl_app : ∀ (l : List Int) (y i : Int), j_sl (l ++ [y]) i = j_sl l i + (i + l.length + 1) * y
  | [], y, i => by show (i + 1) * y + 0 = 0 + (i + ((0 : Nat) : Int) + 1) * y; rw [show i + ((0 : Nat) : Int) + 1 = i + 1 by omega]; omega
  | x :: l, y, i => by
    show (i + 1) * x + j_sl (l ++ [y]) (i + 1) = (i + 1) * x + j_sl l (i + 1) + (i + ((l.length + 1 : Nat) : Int) + 1) * y
    rw [j_sl_app l y (i + 1), show i + 1 + (l.length : Int) + 1 = i + ((l.length + 1 : Nat) : Int) + 1 by omega]
    omega
theorem j_sl_pre (f : Int → Int) : ∀ n : Nat, j_sl ((List.range n).map (fun i : Nat => f (i : Int))) 0 = j_pre (fun i => (i + 1) * f i) n
  | 0 => rfl
  | n + 1 => by
    rw [List.range_succ, List.map_append]
    show j_sl (_ ++ [f (n : Int)]) 0 = _
    rw [j_sl_app, j_sl_pre f n, List.length_map, List.length_range, show ((n + 1 : Nat) : Int) = (n : Int) + 1 by omega, j_pre_s _ (by omega), show (0 : Int) + (n : Int) + 1 = (n : Int) + 1 by omega]
theorem j_SUM_B {V : jH} {a : Int} (h : 0 ≤ V a 1) : j_SUM (V (a + 1)) (V a 1) = j_sl (j_B V a) 0 % 65521 := by
  unfold j_SUM j_B
  rw [j_sl_pre, show (((V a 1).toNat : Nat) : Int) = V a 1 by omega]
/-- what a block says -/
def j_dsT (B : Int → Int → Int) : Nat → List Int
  | 0 => []
  | n + 1 => j_dsT B n ++ j_dealT (B n)
def j_stT (X : Int → Int) : Nat → List Int
  | 0 => []
  | n + 1 => j_stT X n ++ j_num (X n) 3
def j_byT (g : Int → Int) : Nat → List Int
  | 0 => []
  | n + 1 => j_byT g n ++ j_num (g n) 1
abbrev j_isTold (k : Int) : Prop := k = 0 ∨ k = 2 ∨ k = 3
def j_toldP (k : Int) : Int := if j_isTold k then j_parts k else 0
def j_body (k r la n : Int) (B : Int → Int → Int) (X : Int → Int) (u : Int) (g : Int → Int) : List Int :=
  (((((((j_num k 1 ++ j_num r 1) ++ j_num la 1) ++ j_num n 2) ++ j_dsT B (j_toldP k).toNat) ++ j_stT X la.toNat) ++ j_num u 2) ++ j_byT g u.toNat)
def j_text (k r la n : Int) (B : Int → Int → Int) (X : Int → Int) (u : Int) (g : Int → Int) : List Int := j_body k r la n B X u g ++ j_num (j_sl (j_body k r la n B X u g) 0 % 65521) 2
theorem j_byt_ds (B : Int → Int → Int) : ∀ n : Nat, j_byt (j_dsT B n)
  | 0 => j_byt_nil
  | n + 1 => j_byt_app (j_byt_ds B n) (j_byt_deal _)
theorem j_byt_st (X : Int → Int) : ∀ n : Nat, j_byt (j_stT X n)
  | 0 => j_byt_nil
  | n + 1 => j_byt_app (j_byt_st X n) (j_byt_num _ _)
theorem j_byt_by (X : Int → Int) : ∀ n : Nat, j_byt (j_byT X n)
  | 0 => j_byt_nil
  | n + 1 => j_byt_app (j_byt_by X n) (j_byt_num _ _)
theorem j_byt_body (k r la n : Int) (B : Int → Int → Int) (X : Int → Int) (u : Int) (g : Int → Int) : j_byt (j_body k r la n B X u g) :=
  j_byt_app (j_byt_app (j_byt_app (j_byt_app (j_byt_app (j_byt_app (j_byt_app (j_byt_num _ _) (j_byt_num _ _)) (j_byt_num _ _)) (j_byt_num _ _)) (j_byt_ds _ _)) (j_byt_st _ _)) (j_byt_num _ _)) (j_byt_by _ _)
/-- what is packed on a bench, as a text -/
def j_benchT (V : jH) (t e la : Int) : List Int := j_text (V t 1) (V t 2) la (V (e + 14) 5) (fun p => V (t + 3 + 2 * p)) (V (e + 20)) (V e 5) (V (e + 21))
theorem m3_7 (l : Launch) : M3_7 l 0 0 (fun a t e la S V => j_L S ∧ S.1 t = 29 ∧ S.1 e = 21 ∧ 0 ≤ V t 1 ∧ 0 ≤ V t 2 ∧ 0 ≤ la ∧ la ≤ 4 ∧ 0 ≤ V (e + 14) 5 ∧ V (e + 14) 5 ≤ 400 ∧ (∀ p : Int, 0 ≤ p → p < 4 → j_bd (V (t + 3 + 2 * p)) 1048576) ∧ (∀ x : Int, 0 ≤ x → x < 4 → 0 ≤ V (e + 20) x) ∧ 0 ≤ V e 5 ∧ V e 5 ≤ 800 ∧ ∀ i : Int, 0 ≤ i → i < V e 5 → 0 ≤ V (e + 21) i)
    (fun a t e la S V S' V' => S' = S ∧ ∃ V1 : jH, j_B V1 a = j_benchT V t e la ∧ 0 ≤ V1 a 1 ∧ j_fb V V1 a ∧ V' = j_stepsBe (j_up (j_up V1 a 4 0) a 2 1) (a + 2) (e + 14)) := by
  refine e3_7 ?_
  rintro C G h hrm hcs hl hn a t e la S V ha ⟨L, ht, he, t1, t2, l0, l1, n0, n1, hB, hX, u0, u1, hg⟩ R
  have k1 : S.1 (a + 1) = 6 := L1_0k L ha
  -- what lies elsewhere stays
  have ne : ∀ {b : Int} {k : Nat}, S.1 b = k → k ≠ 22 → k ≠ 6 → b ≠ a ∧ b ≠ a + 1 := fun {b k} hk h1 h2 => ⟨fun z => h1 (by rw [← hk, z, ha]), fun z => h2 (by rw [← hk, z, k1])⟩
  have nt := ne ht (by decide) (by decide)
  have ne0 := ne he (by decide) (by decide)
  have n14 := ne (L0_2k L he) (by decide) (by decide)
  have n20 := ne (L0_3k L he) (by decide) (by decide)
  have n21 := ne (L0_4k L he) (by decide) (by decide)
  have hd : ∀ p : Int, 0 ≤ p → p < 4 → S.1 (t + 2 + 2 * p) = 23 := fun p p0 p1 => by
    have := LDealAk L (i := p) (L8_0k L ht) p0 p1
    rw [show t + 2 + 2 * p = t + 1 + 1 + 2 * p by omega]
    exact this
  have nd : ∀ p : Int, 0 ≤ p → p < 4 → t + 3 + 2 * p ≠ a ∧ t + 3 + 2 * p ≠ a + 1 := fun p p0 p1 => by
    have := L2_0k L (hd p p0 p1)
    rw [show t + 2 + 2 * p + 1 = t + 3 + 2 * p by omega] at this
    exact ne this (by decide) (by decide)
  have B0 : j_B (j_up V a 1 0) a = [] := by unfold j_B; rw [j_up_at]; rfl
  have F0 : j_fb V (j_up V a 1 0) a := ⟨fun b b0 b1 => j_up_ne b0, fun j hj => j_up_off hj⟩
  refine t3_7_0 h hrm ha ht (m3_6 C.2.1) ⟨L, by rw [j_up_ne nt.1]; exact t1, by omega, by omega, by rw [j_up_at]; omega, by rw [j_up_at]; omega⟩ (Nat.zero_le _) (Nat.zero_le _) ?_
  rintro S1 V1 ⟨rfl, x1, x2, x3⟩
  rw [j_up_at] at x2
  rw [B0, j_up_ne nt.1] at x1
  have F1 := F0.tr x3
  have et1 := F1.1 t nt.1 nt.2
  refine t3_7_14 h hrm ht ha (m3_6 C.2.1) ⟨L, by rw [et1]; exact t2, by omega, by omega, by omega, by omega⟩ (Nat.zero_le _) (Nat.zero_le _) ?_
  rintro S2 V2 ⟨rfl, y1, y2, y3⟩
  rw [x1, et1] at y1
  have F2 := F1.tr y3
  refine t3_7_23 h hrm ha (m3_6 C.2.1) ⟨L, l0, by omega, by omega, by omega, by omega⟩ (Nat.zero_le _) (Nat.zero_le _) ?_
  rintro S3 V3 ⟨rfl, z1, z2, z3⟩
  rw [y1] at z1
  have F3 := F2.tr z3
  have e14 := F3.1 (e + 14) n14.1 n14.2
  refine t3_7_29 h L hrm he ha (m3_6 C.2.1) ⟨L, by rw [e14]; exact n0, by omega, by omega, by omega, by omega⟩ (Nat.zero_le _) (Nat.zero_le _) ?_
  rintro S4 V4 ⟨rfl, w1, w2, w3⟩
  rw [z1, e14] at w1
  have F4 := F3.tr w3
  have l4 : V4 a 1 = 5 := by omega
  have w1 : j_B V4 a = ((j_num (V t 1) 1 ++ j_num (V t 2) 1) ++ j_num la 1) ++ j_num (V (e + 14) 5) 2 := w1
  have et4 := F4.1 t nt.1 nt.2
  -- from the states on
  have tail : ∀ V5 : jH, j_fb V V5 a → 0 ≤ V5 a 1 → V5 a 1 ≤ 3085 → j_B V5 a = (((j_num (V t 1) 1 ++ j_num (V t 2) 1) ++ j_num la 1) ++ j_num (V (e + 14) 5) 2) ++ j_dsT (fun p => V (t + 3 + 2 * p)) (j_toldP (V t 1)).toNat → j_ok n_KT 5 C G 77 [(0, (2, a)), (2, (2, e)), (3, (0, la))] [] S4 V5 0 0 := by
    intro V5 F5 q0 q1 q2
    refine t3_7_77 h ?_
    have bytes : ∀ (i : Int) (V6 : jH), (0 ≤ i ∧ i ≤ V e 5 ∧ j_fb V V6 a ∧ 0 ≤ V6 a 1 ∧ V6 a 1 ≤ 3099 + i ∧ j_B V6 a = ((((((j_num (V t 1) 1 ++ j_num (V t 2) 1) ++ j_num la 1) ++ j_num (V (e + 14) 5) 2) ++ j_dsT (fun p => V (t + 3 + 2 * p)) (j_toldP (V t 1)).toNat) ++ j_stT (V (e + 20)) la.toNat) ++ j_num (V e 5) 2) ++ j_byT (V (e + 21)) i.toNat) →
        j_ok n_KT 5 C G 116 [(0, (2, a)), (2, (2, e)), (4, (0, i))] [] S4 V6 0 0 := by
      refine j_loop (N := V e 5) (fun i V6 hi hI kk => ?_) (fun i V6 hi hI => ?_)
      · obtain ⟨g0, g1, G1, g2, g3, g4⟩ := hI
        have ee := G1.1 e ne0.1 ne0.2
        have e21 := G1.1 (e + 21) n21.1 n21.2
        refine t3_7_116 h he (fun q => absurd q (by rw [ee]; omega)) (fun _ => ?_)
        refine t3_7_125 h L hrm he g0 (by omega) ha (m3_6 C.2.1) ⟨L, by rw [e21]; exact hg i g0 hi, by omega, by omega, g2, by omega⟩ (Nat.zero_le _) (Nat.zero_le _) ?_
        rintro S5 V7 ⟨rfl, v1, v2, v3⟩
        refine t3_7_137 h (by omega) (kk _ ⟨by omega, by omega, G1.tr v3, by omega, by omega, ?_⟩)
        rw [v1, g4, e21, show (i + 1).toNat = i.toNat + 1 by omega, j_byT, show ((i.toNat : Nat) : Int) = i by omega]
        simp only [List.append_assoc]
        rfl
      · obtain ⟨g0, g1, G1, g2, g3, g4⟩ := hI
        have ei : i = V e 5 := by omega
        rw [ei] at g4
        have ee := G1.1 e ne0.1 ne0.2
        have g4 : j_B V6 a = j_body (V t 1) (V t 2) la (V (e + 14) 5) (fun p => V (t + 3 + 2 * p)) (V (e + 20)) (V e 5) (V (e + 21)) := g4
        have hb : j_byt (j_B V6 a) := by rw [g4]; exact j_byt_body _ _ _ _ _ _ _ _
        refine t3_7_116 h he (fun _ => ?_) (fun q => absurd q (by rw [ee]; omega))
        refine t3_7_143 h hrm ha (m3_9 C.2.1) ⟨L, g2, by omega, fun i i0 i1 => j_byt_B hb i0 i1⟩ (Nat.zero_le _) (Nat.zero_le _) ?_
        rintro r S5 V7 ⟨rfl, rfl, er⟩
        rw [j_SUM_B g2, g4] at er
        refine t3_7_152 h hrm ha (m3_6 C.2.1) ⟨L, by rw [er]; exact Int.emod_nonneg _ (by decide), by omega, by omega, g2, by omega⟩ (Nat.zero_le _) (Nat.zero_le _) ?_
        rintro S6 V8 ⟨rfl, v1, v2, v3⟩
        have G2 := G1.tr v3
        have e14 := G2.1 (e + 14) n14.1 n14.2
        refine t3_7_156 h L hrm ha he (m3_5 C.2.1) ⟨L, L0_2k L he, by rw [j_up_ne n14.1, e14]; exact n0, by rw [j_up_ne n14.1, e14]; exact n1⟩ (Nat.zero_le _) (Nat.zero_le _) ?_
        rintro S7 V9 ⟨rfl, e9⟩
        refine t3_7_169 h R ⟨rfl, V8, ?_, by omega, G2, e9⟩ (Nat.le_refl _) (Nat.le_refl _)
        rw [v1, g4, er]
        rfl
    have states : ∀ (i : Int) (V6 : jH), (0 ≤ i ∧ i ≤ la ∧ j_fb V V6 a ∧ 0 ≤ V6 a 1 ∧ V6 a 1 ≤ 3085 + 3 * i ∧ j_B V6 a = ((((j_num (V t 1) 1 ++ j_num (V t 2) 1) ++ j_num la 1) ++ j_num (V (e + 14) 5) 2) ++ j_dsT (fun p => V (t + 3 + 2 * p)) (j_toldP (V t 1)).toNat) ++ j_stT (V (e + 20)) i.toNat) →
        j_ok n_KT 5 C G 80 [(0, (2, a)), (2, (2, e)), (3, (0, la)), (4, (0, i))] [] S4 V6 0 0 := by
      refine j_loop (N := la) (fun i V6 hi hI kk => ?_) (fun i V6 hi hI => ?_)
      · obtain ⟨g0, g1, G1, g2, g3, g4⟩ := hI
        have e20 := G1.1 (e + 20) n20.1 n20.2
        refine t3_7_80 h (fun q => absurd q (by omega)) (fun _ => ?_)
        refine t3_7_86 h L hrm he g0 (by omega) ha (m3_6 C.2.1) ⟨L, by rw [e20]; exact hX i g0 (by omega), by omega, by omega, g2, by omega⟩ (Nat.zero_le _) (Nat.zero_le _) ?_
        rintro S5 V7 ⟨rfl, v1, v2, v3⟩
        refine t3_7_98 h (by omega) (kk _ ⟨by omega, by omega, G1.tr v3, by omega, by omega, ?_⟩)
        rw [v1, g4, e20, show (i + 1).toNat = i.toNat + 1 by omega, j_stT, show ((i.toNat : Nat) : Int) = i by omega]
        simp only [List.append_assoc]
        rfl
      · obtain ⟨g0, g1, G1, g2, g3, g4⟩ := hI
        have ei : i = la := by omega
        rw [ei] at g4
        have ee := G1.1 e ne0.1 ne0.2
        refine t3_7_80 h (fun _ => ?_) (fun q => absurd q (by omega))
        refine t3_7_104 h hrm he ha (m3_6 C.2.1) ⟨L, by rw [ee]; exact u0, by omega, by omega, g2, by omega⟩ (Nat.zero_le _) (Nat.zero_le _) ?_
        rintro S5 V7 ⟨rfl, v1, v2, v3⟩
        refine t3_7_113 h (bytes 0 V7 ⟨by omega, u0, G1.tr v3, by omega, by omega, ?_⟩)
        rw [v1, g4, ee]
        show _ = _ ++ []
        rw [List.append_nil]
        rfl
    refine states 0 V5 ⟨by omega, l0, F5, q0, by omega, ?_⟩
    rw [q2]
    show _ = _ ++ []
    rw [List.append_nil]
  refine t3_7_41 h hrm ht (m10_10 C.2.1) trivial (Nat.zero_le _) (Nat.zero_le _) ?_
  rintro r S5 V5 ⟨rfl, rfl, hr⟩
  rw [et4] at hr
  refine t3_7_45 h (fun q => ?_) (fun q => ?_)
  · have no : ¬ j_isTold (V t 1) := by
      rcases hr with ⟨r1, _⟩ | ⟨_, r2⟩
      · omega
      · exact r2
    refine tail V5 F4 (by omega) (by omega) ?_
    have : j_toldP (V t 1) = 0 := by unfold j_toldP; rw [if_neg no]
    rw [w1, this]
    show _ = _ ++ []
    rw [List.append_nil]
  · have yes : j_isTold (V t 1) := by
      rcases hr with ⟨_, r2⟩ | ⟨r1, _⟩
      · exact r2
      · exact absurd r1 q
    have eP : j_toldP (V t 1) = j_parts (V t 1) := by unfold j_toldP; rw [if_pos yes]
    have hpp : 1 ≤ j_parts (V t 1) ∧ j_parts (V t 1) ≤ 4 := by unfold j_parts; split <;> omega
    refine t3_7_48 h ?_
    have parts : ∀ (i : Int) (V6 : jH), (0 ≤ i ∧ i ≤ j_parts (V t 1) ∧ j_fb V V6 a ∧ 0 ≤ V6 a 1 ∧ V6 a 1 ≤ 5 + 770 * i ∧ j_B V6 a = (((j_num (V t 1) 1 ++ j_num (V t 2) 1) ++ j_num la 1) ++ j_num (V (e + 14) 5) 2) ++ j_dsT (fun p => V (t + 3 + 2 * p)) i.toNat) →
        j_ok n_KT 5 C G 51 [(0, (2, a)), (1, (2, t)), (2, (2, e)), (3, (0, la)), (4, (0, i))] [] S5 V6 0 0 := by
      refine j_loop (N := j_parts (V t 1)) (fun i V6 hi hI kk => ?_) (fun i V6 hi hI => ?_)
      · obtain ⟨g0, g1, G1, g2, g3, g4⟩ := hI
        have et := G1.1 t nt.1 nt.2
        have ed := G1.1 (t + 3 + 2 * i) (nd i g0 (by omega)).1 (nd i g0 (by omega)).2
        have ed2 : V6 (t + 2 + 2 * i + 1) = V (t + 3 + 2 * i) := by rw [show t + 2 + 2 * i + 1 = t + 3 + 2 * i by omega]; exact ed
        have bw := j_with_bd (V (t + 3 + 2 * i)) (n := 256) (by omega)
        refine t3_7_51 h hrm ht (m10_5 C.2.1) trivial (Nat.zero_le _) (Nat.zero_le _) ?_
        rintro r S6 V7 ⟨rfl, rfl, er⟩
        rw [et] at er
        refine t3_7_57 h (fun q => absurd q (by omega)) (fun _ => ?_)
        refine t3_7_60 h L hrm ht g0 (by omega) ha (m3_8 C.2.1) ⟨L, hd i g0 (by omega), by rw [ed2]; exact hB i g0 (by omega), g2, by omega⟩ (Nat.zero_le _) (Nat.zero_le _) ?_
        rintro S7 V8 ⟨rfl, v1, v2, v3⟩
        rw [ed2] at v1 v2
        refine t3_7_71 h (by omega) (kk _ ⟨by omega, by omega, G1.tr v3, by omega, by omega, ?_⟩)
        rw [v1, g4, show (i + 1).toNat = i.toNat + 1 by omega, j_dsT, show ((i.toNat : Nat) : Int) = i by omega]
        simp only [List.append_assoc]
      · obtain ⟨g0, g1, G1, g2, g3, g4⟩ := hI
        have ei : i = j_parts (V t 1) := by omega
        have et := G1.1 t nt.1 nt.2
        refine t3_7_51 h hrm ht (m10_5 C.2.1) trivial (Nat.zero_le _) (Nat.zero_le _) ?_
        rintro r S6 V7 ⟨rfl, rfl, er⟩
        rw [et] at er
        refine t3_7_57 h (fun _ => tail _ G1 g2 (by omega) ?_) (fun q => absurd q (by omega))
        rw [g4, eP, ei]
    refine parts 0 V5 ⟨by omega, by omega, F4, by omega, by omega, ?_⟩
    rw [w1]
    show _ = _ ++ []
    rw [List.append_nil]
