/-! THE REFERENCE: deals that count, what is printed -/
def j_do (k p : Int) : Int := 256 * (if k = 3 then p else 0)
theorem j_do_bd {k p : Int} (p0 : 0 ≤ p) (p1 : p < 4) : 0 ≤ j_do k p ∧ j_do k p ≤ 768 := by unfold j_do; split <;> omega
theorem m13_23 (l : Launch) : M13_23 l 0 0 (fun a p s S V => j_L S ∧ 0 ≤ p ∧ p < 4 ∧ 0 ≤ s ∧ s < 256) (fun a p s S V r S' V' => S' = S ∧ V' = V ∧ r = V (a + 21) (j_do (V a 9) p + s)) := by
  refine e13_23 ?_
  rintro C G h hrm hcs hl hn a p s S V ht ⟨L, p0, p1, s0, s1⟩ R
  have k21 : S.1 (a + 21) = 12 := L12_11k L ht
  have fin : ∀ y : Int, 256 * y = j_do (V a 9) p → j_ok n_KT 3 C G 20 [(2, (0, s))] [(0, y), (0, 256), (2, a + 21)] S V 0 0 := fun y e => by
    have b := j_do_bd (k := V a 9) p0 p1
    exact t13_23_20 (n_s2 := 1024) h (by omega) (by omega) (j_arr_of k21 (by decide) rfl) (by omega) (by show 256 * y + s < 1024; omega) R ⟨rfl, rfl, by rw [e]⟩ (Nat.le_refl _) (Nat.le_refl _)
  exact t13_23_0 h L ht (fun q => t13_23_19 h (fin 0 (by unfold j_do; rw [if_neg q]))) (fun q => t13_23_15 h (fin p (by unfold j_do; rw [if_pos q])))
def j_saw (V V' : jH) (a p s : Int) : Prop := V' a 12 = V (a + 21) (j_do (V a 9) p + s) ∧ V' a 13 = j_pre (j_rs (V (a + 21)) (j_do (V a 9) p)) s ∧ (∀ j : Int, j ≠ 12 → j ≠ 13 → V' a j = V a j) ∧ ∀ c : Int, c ≠ a → V' c = V c
theorem m13_24 (l : Launch) : M13_24 l 0 0 (fun a p s S V => j_L S ∧ 0 ≤ p ∧ p < 4 ∧ 0 ≤ s ∧ s < 256 ∧ ∀ x : Int, 0 ≤ x → x ≤ 256 → 0 ≤ j_pre (j_rs (V (a + 21)) (j_do (V a 9) p)) x ∧ j_pre (j_rs (V (a + 21)) (j_do (V a 9) p)) x ≤ 1048576) (fun a p s S V S' V' => S' = S ∧ j_saw V V' a p s) := by
  refine e13_24 ?_
  rintro C G h hrm hcs hl hn a p s S V ht ⟨L, p0, p1, s0, s1, hb⟩ R
  refine t13_24_0 h hrm ht (m13_23 C.2.1) ⟨L, p0, p1, s0, s1⟩ (Nat.zero_le _) (Nat.zero_le _) ?_
  rintro y S1 V1 ⟨e0, e1, er⟩
  subst e0; subst e1
  refine t13_24_7 h ht ht ?_
  have loop : ∀ (i : Int) (V2 : jH), (0 ≤ i ∧ i ≤ s ∧ V2 a 12 = V1 (a + 21) (j_do (V1 a 9) p + s) ∧ V2 a 13 = j_pre (j_rs (V1 (a + 21)) (j_do (V1 a 9) p)) i ∧ (∀ j : Int, j ≠ 12 → j ≠ 13 → V2 a j = V1 a j) ∧ ∀ c : Int, c ≠ a → V2 c = V1 c) → j_ok n_KT 4 C G 17 [(0, (2, a)), (1, (0, p)), (2, (0, s)), (3, (0, i))] [] S1 V2 0 0 := by
    refine j_loop (N := s) (fun i V2 hi hI kk => ?_) (fun i V2 hi hI => ?_)
    · obtain ⟨g0, g1, g2, g3, g4, g5⟩ := hI
      refine t13_24_17 h (fun q => absurd q (by omega)) (fun _ => ?_)
      refine t13_24_22 h hrm ht (m13_23 C.2.1) ⟨L, p0, p1, g0, (by omega)⟩ (Nat.zero_le _) (Nat.zero_le _) ?_
      rintro y2 S2 V3 ⟨e0, e1, er2⟩
      subst e0; subst e1
      rw [g5 _ (by omega), g4 9 (by decide) (by decide)] at er2
      have b1 := hb (i + 1) (by omega) (by omega)
      rw [j_pre_s _ g0] at b1
      have ev : j_rs (V1 (a + 21)) (j_do (V1 a 9) p) i = V1 (a + 21) (j_do (V1 a 9) p + i) := rfl
      refine t13_24_33 h (by omega) ht (by omega) (kk _ ⟨(by omega), (by omega), by rw [j_up_off (by decide)]; exact g2, ?_, fun j j0 j1 => by rw [j_up_off j1]; exact g4 j j0 j1, fun c hc => by rw [j_up_ne hc]; exact g5 c hc⟩)
      rw [j_up_at, j_pre_s _ g0, g3, er2, ev]
    · obtain ⟨g0, g1, g2, g3, g4, g5⟩ := hI
      have ei : i = s := by omega
      rw [ei] at g3
      exact t13_24_17 h (fun _ => t13_24_43 h R ⟨rfl, g2, g3, g4, g5⟩ (Nat.le_refl _) (Nat.le_refl _)) (fun q => absurd q (by omega))
  refine loop 0 _ ⟨(by omega), s0, ?_, j_up_at _ _ _ _, fun j j0 j1 => by rw [j_up_off j1, j_up_off j0], fun c hc => by rw [j_up_ne hc, j_up_ne hc]⟩
  rw [j_up_off (by decide), j_up_at, er]
/-- behind a sign of a growing deal -/
def j_moved (V V' : jH) (a s : Int) : Prop := (V a 9 ≠ 4 ∧ V' = V) ∨ (V a 9 = 4 ∧ ∃ d : Int → Int, V' = j_row V (a + 21) d ∧ (∀ j : Int, (j < 0 ∨ 256 ≤ j) → d j = V (a + 21) j) ∧ ∀ x : Int, 0 ≤ x → x ≤ 256 → j_pre d x = j_gr (j_pre (V (a + 21))) s x)
theorem m13_25 (l : Launch) : M13_25 l 0 0 (fun a s S V => j_L S ∧ 0 ≤ s ∧ s < 256 ∧ (V a 9 = 4 → ∀ x : Int, 0 ≤ x → x < 256 → 1 ≤ V (a + 21) x ∧ V (a + 21) x ≤ 1048576)) (fun a s S V S' V' => S' = S ∧ j_moved V V' a s) := by
  refine e13_25 ?_
  rintro C G h hrm hcs hl hn a s S V ht ⟨L, s0, s1, hd⟩ R
  refine t13_25_0 h ht (fun q => ?_) (fun q => t13_25_8 h R ⟨rfl, Or.inl ⟨q, rfl⟩⟩ (Nat.le_refl _) (Nat.le_refl _))
  have hd := hd q
  generalize eD : V (a + 21) = D at *
  have es : ∀ o : Int, 0 ≤ o → j_sh (j_pre D) o = D o := fun o o0 => by show j_pre D (o + 1) - j_pre D o = D o; rw [j_pre_s _ o0]; omega
  refine t13_25_9 h ?_
  have loop : ∀ (i : Int) (m : Int), (0 ≤ i ∧ i ≤ 256 ∧ ((m = -1 ∧ ∀ o : Int, 0 ≤ o → o < i → o = s) ∨ (0 ≤ m ∧ m < i ∧ m ≠ s ∧ ∀ o : Int, 0 ≤ o → o < i → o ≠ s → D o ≤ D m ∧ (o < m → D o < D m)))) → j_ok n_KT 4 C G 13 [(0, (2, a)), (1, (0, s)), (2, (0, m)), (3, (0, i))] [] S V 0 0 := by
    refine j_loop (N := 256) (fun i m hi hI kk => ?_) (fun i m hi hI => ?_)
    · obtain ⟨g0, g1, g2⟩ := hI
      refine t13_25_13 h (fun z => absurd z (by omega)) (fun _ => ?_)
      have same : (i = s ∨ (0 ≤ m ∧ D i ≤ D m)) → j_ok n_KT 4 C G 46 [(0, (2, a)), (1, (0, s)), (2, (0, m)), (3, (0, i))] [] S V 0 0 := fun z => by
        refine t13_25_46 h (by omega) (kk m ⟨(by omega), (by omega), ?_⟩)
        rcases g2 with ⟨e, g2⟩ | ⟨m0, m1, m2, g2⟩
        · refine Or.inl ⟨e, fun o o0 o1 => ?_⟩
          by_cases x : o = i
          · rcases z with z | z
            · omega
            · omega
          · exact g2 o o0 (by omega)
        · refine Or.inr ⟨m0, (by omega), m2, fun o o0 o1 o2 => ?_⟩
          by_cases x : o = i
          · rcases z with z | z
            · omega
            · rw [x]; exact ⟨z.2, fun y => absurd y (by omega)⟩
          · exact g2 o o0 (by omega) o2
      have take : i ≠ s → (m < 0 ∨ D m < D i) → j_ok n_KT 4 C G 44 [(0, (2, a)), (1, (0, s)), (3, (0, i))] [] S V 0 0 := fun ne z => by
        refine t13_25_44 h (t13_25_46 h (by omega) (kk i ⟨(by omega), (by omega), Or.inr ⟨g0, (by omega), ne, fun o o0 o1 o2 => ?_⟩⟩))
        by_cases x : o = i
        · rw [x]; exact ⟨Int.le_refl _, fun y => absurd y (by omega)⟩
        · rcases g2 with ⟨e, g2⟩ | ⟨m0, m1, m2, g2⟩
          · exact absurd (g2 o o0 (by omega)) o2
          · have := (g2 o o0 (by omega) o2).1
            rcases z with z | z
            · omega
            · exact ⟨by omega, fun _ => by omega⟩
      refine t13_25_20 h (fun z => same (Or.inl z)) (fun z => t13_25_25 h (fun z2 => take z (Or.inl z2)) (fun z2 => ?_))
      have mb : m < 256 := by
        rcases g2 with ⟨e, _⟩ | ⟨_, m1, _⟩ <;> omega
      exact t13_25_29 h L ht g0 (by omega) z2 (by omega) (fun z3 => same (Or.inr ⟨z2, by rw [eD] at z3; exact z3⟩)) (fun z3 => take z (Or.inr (by rw [eD] at z3; exact z3)))
    · obtain ⟨g0, g1, g2⟩ := hI
      have ei : i = 256 := by omega
      rw [ei] at g2
      obtain ⟨m0, m1, m2, g2⟩ : 0 ≤ m ∧ m < 256 ∧ m ≠ s ∧ ∀ o : Int, 0 ≤ o → o < 256 → o ≠ s → D o ≤ D m ∧ (o < m → D o < D m) := by
        rcases g2 with ⟨e, g2⟩ | g2
        · have x0 := g2 0 (by omega) (by omega)
          have x1 := g2 1 (by omega) (by omega)
          omega
        · exact g2
      have dm := hd m m0 m1
      have ds := hd s s0 s1
      refine t13_25_13 h (fun _ => ?_) (fun z => absurd z (by omega))
      refine t13_25_52 h L ht m0 (by omega) (fun z => ?_) (fun z => ?_)
      · rw [eD] at z
        have rich : j_rich (j_pre D) s 256 m (D m) := Or.inr ⟨m0, m1, m2, (es m m0).symm, (by omega), fun o o0 o1 o2 => by rw [es o o0]; exact g2 o o0 o1 o2⟩
        have eg := j_gv_of rich
        have e1 : j_up V (a + 21) m (V (a + 21) m - 1) (a + 21) s = D s := by rw [j_up_off (fun y => m2 y.symm), eD]
        refine t13_25_63 h L ht m0 (by omega) (by rw [eD]; omega) s0 (by omega) (by rw [e1]; omega) R ⟨rfl, Or.inr ⟨q, j_u (j_u D m (D m - 1)) s (D s + 1), ?_, fun j hj => ?_, fun x x0 x1 => ?_⟩⟩ (Nat.le_refl _) (Nat.le_refl _)
        · rw [e1, eD, j_up_row, j_up_row, j_row_row, j_row_at, eD]
        · rw [j_u_ne (by omega), j_u_ne (by omega), eD]
        · have p1 := j_pre_u (f := j_u D m (D m - 1)) (i := s) (x := D s + 1) x.toNat s0
          have p2 := j_pre_u (f := D) (i := m) (x := D m - 1) x.toNat m0
          rw [show ((x.toNat : Nat) : Int) = x by omega] at p1 p2
          rw [p1, p2, j_u_ne (fun y => m2 y.symm)]
          unfold j_gr
          rw [eD, ← eg, if_neg (show ¬ m < 0 by omega)]
          by_cases c : m < s
          · rw [if_pos c]
            by_cases c1 : m < x ∧ x ≤ s
            · rw [if_pos c1, if_pos c1.1, if_neg (by omega)]; omega
            · rw [if_neg c1]
              by_cases c2 : m < x
              · rw [if_pos c2, if_pos (by omega)]; omega
              · rw [if_neg c2, if_neg (by omega)]; omega
          · rw [if_neg c]
            by_cases c1 : s < x ∧ x ≤ m
            · rw [if_pos c1, if_neg (by omega), if_pos c1.1]; omega
            · rw [if_neg c1]
              by_cases c2 : s < x
              · rw [if_pos (by omega), if_pos c2]; omega
              · rw [if_neg (by omega), if_neg c2]; omega
      · rw [eD] at z
        have rich : j_rich (j_pre D) s 256 (-1) 1 := Or.inl ⟨rfl, rfl, fun o o0 o1 o2 => by rw [es o o0]; have := (g2 o o0 o1 o2).1; omega⟩
        have eg := j_gv_of rich
        refine t13_25_62 h R ⟨rfl, Or.inr ⟨q, D, by rw [← eD, j_row_self], fun j _ => by rw [eD], fun x x0 x1 => ?_⟩⟩ (Nat.le_refl _) (Nat.le_refl _)
        unfold j_gr
        rw [eD, ← eg, if_pos (by decide)]
  exact loop 0 (-1) ⟨(by omega), (by omega), Or.inl ⟨rfl, fun o o0 o1 => absurd o1 (by omega)⟩⟩
/-- a row of bytes -/
def j_Bl (f : Int → Int) (n : Int) : List Int := (List.range n.toNat).map (fun i : Nat => f (i : Int))
theorem j_Bl_len (f : Int → Int) (n : Int) : (j_Bl f n).length = n.toNat := by unfold j_Bl; rw [List.length_map, List.length_range]
theorem j_Bl_at {f : Int → Int} {n i : Int} (i0 : 0 ≤ i) (i1 : i < n) : (j_Bl f n)[i.toNat]? = some (f i) := by
  unfold j_Bl
  rw [List.getElem?_map, List.getElem?_range (by omega)]
  show some (f ((i.toNat : Nat) : Int)) = _
  rw [show ((i.toNat : Nat) : Int) = i by omega]
theorem j_Bl_congr {f g : Int → Int} {n : Int} (h : ∀ i : Int, 0 ≤ i → i < n → g i = f i) : j_Bl g n = j_Bl f n := by
  unfold j_Bl
  refine List.map_congr_left (fun i hi => ?_)
  have := List.mem_range.mp hi
  exact h _ (by omega) (by omega)
theorem j_Bl_push {f : Int → Int} {n y : Int} (h : 0 ≤ n) : j_Bl (j_u f n y) (n + 1) = j_Bl f n ++ [y] := by
  unfold j_Bl
  rw [show (n + 1).toNat = n.toNat + 1 by omega, List.range_succ, List.map_append]
  congr 1
  · refine List.map_congr_left (fun i hi => ?_)
    have := List.mem_range.mp hi
    rw [j_u_ne (by omega)]
  · show [j_u f n y ((n.toNat : Nat) : Int)] = [y]
    rw [show ((n.toNat : Nat) : Int) = n by omega, j_u_at]
def j_ff (V V' : jH) (a : Int) : Prop := (∀ b : Int, b ≠ a → b ≠ a + 26 → V' b = V b) ∧ ∀ j : Int, j ≠ 20 → V' a j = V a j
theorem j_ff.tr {V V1 V2 : jH} {a : Int} (h : j_ff V V1 a) (h' : j_ff V1 V2 a) : j_ff V V2 a :=
  ⟨fun b b0 b1 => (h'.1 b b0 b1).trans (h.1 b b0 b1), fun j hj => (h'.2 j hj).trans (h.2 j hj)⟩
abbrev j_F (V : jH) (a : Int) : List Int := j_Bl (V (a + 26)) (V a 20)
theorem m13_26 (l : Launch) : M13_26 l 0 0 (fun a x n S V => j_L S ∧ 0 ≤ x ∧ 0 ≤ n ∧ n ≤ 4 ∧ 0 ≤ V a 20 ∧ V a 20 + n ≤ 4500) (fun a x n S V S' V' => S' = S ∧ j_F V' a = j_F V a ++ j_num x n.toNat ∧ V' a 20 = V a 20 + n ∧ j_ff V V' a) := by
  refine e13_26 ?_
  rintro C G h hrm hcs hl hn a x n S V ha ⟨L, x0, n0, n1, u0, u1⟩ R
  refine t13_26_0 h (by omega) ?_
  have loop : ∀ (i : Int) (V1 : jH), (-1 ≤ i ∧ i ≤ 3 ∧ 0 ≤ V1 a 20 ∧ V1 a 20 + i + 1 = V a 20 + n ∧ j_F V1 a ++ j_num x (i + 1).toNat = j_F V a ++ j_num x n.toNat ∧ j_ff V V1 a) → j_ok n_KT 4 C G 4 [(0, (2, a)), (1, (0, x)), (3, (0, i))] [] S V1 0 0 := by
    refine j_loopD (N := 0) (fun i V1 hi hI kk => ?_) (fun i V1 hi hI => ?_)
    · obtain ⟨g0, g1, g2, g3, g4, g5⟩ := hI
      refine t13_26_4 h (fun q => absurd q (by omega)) (fun _ => ?_)
      refine t13_26_8 h L ha (by omega) (by omega) (by omega) x0 g2 (by omega) (by omega) (by omega) ?_
      rw [show i + (-1) = i - 1 by omega]
      refine kk _ ⟨(by omega), (by omega), by rw [j_up_at]; omega, by rw [j_up_at]; omega, ?_, g5.tr ⟨fun b b0 b1 => by rw [j_up_ne b0, j_up_ne b1], fun j hj => by rw [j_up_off hj, j_up_ne (by omega)]⟩⟩
      unfold j_F
      rw [j_up_at, j_up_ne (show a + 26 ≠ a by omega), j_up_u, j_Bl_push g2, ← g4, show (i - 1 + 1).toNat = i.toNat by omega, show (i + 1).toNat = i.toNat + 1 by omega, show (8 * i).toNat = 8 * i.toNat by omega, List.append_assoc]
      rfl
    · obtain ⟨g0, g1, g2, g3, g4, g5⟩ := hI
      have ei : i = -1 := by omega
      subst ei
      refine t13_26_4 h (fun _ => t13_26_43 h R ⟨rfl, ?_, (by omega), g5⟩ (Nat.le_refl _) (Nat.le_refl _)) (fun q => absurd q (by omega))
      rw [← g4]
      show _ = j_F V1 a ++ []
      rw [List.append_nil]
  exact loop (n - 1) V ⟨(by omega), (by omega), u0, (by omega), by rw [show n - 1 + 1 = n by omega], ⟨fun _ _ _ => rfl, fun _ _ => rfl⟩⟩
theorem j_sh_pre (f : Int → Int) {s : Int} (s0 : 0 ≤ s) : j_sh (j_pre f) s = f s := by show j_pre f (s + 1) - j_pre f s = f s; rw [j_pre_s _ s0]; omega
theorem m13_28 (l : Launch) : M13_28 l 0 0 (fun a p S V => j_L S ∧ 0 ≤ p ∧ p < 4 ∧ (∀ s : Int, 0 ≤ s → s < 256 → 0 ≤ V (a + 27) (256 * p + s) ∧ V (a + 27) (256 * p + s) ≤ 4096) ∧ 0 ≤ V a 20 ∧ V a 20 ≤ 3600)
    (fun a p S V S' V' => S' = S ∧ j_F V' a = j_F V a ++ j_dealT (j_pre (j_rs (V (a + 27)) (256 * p))) ∧ V' a 20 = V a 20 + (2 + 3 * j_with (j_pre (j_rs (V (a + 27)) (256 * p))) 256) ∧ j_ff V V' a) := by
  refine e13_28 ?_
  rintro C G h hrm hcs hl hn a p S V ha ⟨L, p0, p1, hb, u0, u1⟩ R
  generalize eB : j_pre (j_rs (V (a + 27)) (256 * p)) = B at *
  have eF : ∀ s : Int, 0 ≤ s → j_sh B s = V (a + 27) (256 * p + s) := fun s s0 => by rw [← eB, j_sh_pre _ s0]; rfl
  refine t13_28_0 h ?_
  have cnt : ∀ (i : Int) (z : Int), (0 ≤ i ∧ i ≤ 256 ∧ z = j_with B i) → j_ok n_KT 4 C G 4 [(0, (2, a)), (1, (0, p)), (2, (0, z)), (3, (0, i))] [] S V 0 0 := by
    refine j_loop (N := 256) (fun i z hi hI kk => ?_) (fun i z hi hI => ?_)
    · obtain ⟨g0, g1, e⟩ := hI
      have bw := j_with_bd B g0
      have ew : j_with B (i + 1) = j_with B i + (if 0 < j_sh B i then 1 else 0) := by unfold j_with; rw [j_pre_s _ g0]
      refine t13_28_4 h (fun q => absurd q (by omega)) (fun _ => ?_)
      refine t13_28_11 h L ha (by omega) (by omega) (by omega) (by omega) (fun q => ?_) (fun q => ?_)
      · exact t13_28_31 h (t13_28_32 h (by omega) (by omega) (kk _ ⟨(by omega), (by omega), by rw [ew, eF i g0, if_neg (by omega), e]⟩))
      · exact t13_28_27 h (t13_28_32 h (by omega) (by omega) (kk _ ⟨(by omega), (by omega), by rw [ew, eF i g0, if_pos q, e]⟩))
    · obtain ⟨g0, g1, e⟩ := hI
      have ei : i = 256 := by omega
      rw [ei] at e
      have bw := j_with_bd B (n := 256) (by omega)
      refine t13_28_4 h (fun _ => ?_) (fun q => absurd q (by omega))
      refine t13_28_40 h hrm ha (m13_26 C.2.1) ⟨L, (by omega), (by omega), (by omega), u0, (by omega)⟩ (Nat.zero_le _) (Nat.zero_le _) ?_
      rintro S1 V1 ⟨e0, x1, x2, x3⟩
      subst e0
      refine t13_28_46 h ?_
      have loop : ∀ (i : Int) (V3 : jH), (0 ≤ i ∧ i ≤ 256 ∧ j_F V3 a = j_F V a ++ (j_num (j_with B 256) 2 ++ j_dT B i.toNat) ∧ V3 a 20 = V a 20 + (2 + 3 * j_with B i) ∧ j_ff V V3 a) → j_ok n_KT 4 C G 48 [(0, (2, a)), (1, (0, p)), (3, (0, i))] [] S1 V3 0 0 := by
        refine j_loop (N := 256) (fun i V3 hi hI kk => ?_) (fun i V3 hi hI => ?_)
        · obtain ⟨g0, g1, g2, g3, g4⟩ := hI
          have e27 : V3 (a + 27) = V (a + 27) := g4.1 _ (by omega) (by omega)
          have bi := j_with_bd B g0
          have ei : ((i.toNat : Nat) : Int) = i := by omega
          have hF := hb i g0 hi
          have ew : j_with B (i + 1) = j_with B i + (if 0 < j_sh B i then 1 else 0) := by unfold j_with; rw [j_pre_s _ g0]
          have eT : j_dT B (i + 1).toNat = j_dT B i.toNat ++ (if 0 < j_sh B i then j_num i 1 ++ j_num (j_sh B i - 1) 2 else []) := by
            rw [show (i + 1).toNat = i.toNat + 1 by omega, j_dT, ei]
          refine t13_28_48 h (fun q => absurd q (by omega)) (fun _ => ?_)
          refine t13_28_55 h L ha (by omega) (by omega) (by omega) (by omega) (fun q => ?_) (fun q => ?_)
          · rw [e27] at q
            have q' : 0 < j_sh B i := by rw [eF i g0]; omega
            refine t13_28_73 h hrm ha (m13_26 C.2.1) ⟨L, g0, (by omega), (by omega), (by omega), (by omega)⟩ (Nat.zero_le _) (Nat.zero_le _) ?_
            rintro S4 V5 ⟨e0, y1, y2, y3⟩
            subst e0
            have e27' : V5 (a + 27) = V (a + 27) := (y3.1 _ (by omega) (by omega)).trans e27
            refine t13_28_79 h L hrm ha (by omega) (by omega) (by omega) (by omega) (by rw [e27']; omega) (m13_26 C.2.1) ⟨L, by rw [e27']; omega, (by omega), (by omega), (by omega), (by omega)⟩ (Nat.zero_le _) (Nat.zero_le _) ?_
            rintro S5 V6 ⟨e0, z1, z2, z3⟩
            subst e0
            rw [e27'] at z1
            refine t13_28_98 h (by omega) (kk _ ⟨(by omega), (by omega), ?_, ?_, (g4.tr y3).tr z3⟩)
            · rw [eT, if_pos q', z1, y1, g2, eF i g0]
              simp only [List.append_assoc]
              rfl
            · rw [ew, if_pos q', z2, y2, g3]; omega
          · rw [e27] at q
            refine t13_28_70 h (t13_28_98 h (by omega) (kk _ ⟨(by omega), (by omega), ?_, ?_, g4⟩))
            · rw [eT, if_neg (by rw [eF i g0]; omega), List.append_nil]; exact g2
            · rw [ew, if_neg (by rw [eF i g0]; omega), g3]; omega
        · obtain ⟨g0, g1, g2, g3, g4⟩ := hI
          have ei : i = 256 := by omega
          rw [ei] at g2 g3
          exact t13_28_48 h (fun _ => t13_28_104 h R ⟨rfl, g2, g3, g4⟩ (Nat.le_refl _) (Nat.le_refl _)) (fun q => absurd q (by omega))
      refine loop 0 V1 ⟨(by omega), (by omega), ?_, ?_, x3⟩
      · rw [x1, e]
        show _ = _ ++ (_ ++ [])
        rw [List.append_nil]
        rfl
      · rw [x2]
        show V a 20 + 2 = V a 20 + (2 + 3 * 0)
        omega
  exact cnt 0 0 ⟨(by omega), (by omega), rfl⟩
theorem m13_29 (l : Launch) (N : Nat) : M13_29 l 0 0 (fun x p S V => j_arr S x N ∧ 0 ≤ p ∧ p ≤ N ∧ N ≤ 4500 ∧ ∀ i : Int, 0 ≤ i → i < p → 0 ≤ V x i ∧ V x i ≤ 255) (fun x p S V r S' V' => S' = S ∧ V' = V ∧ r = j_SUM (V x) p) := by
  refine e13_29 ?_
  rintro C G h hrm hcs hl hn x p S V ⟨hx, p0, p1, hN, hb⟩ R
  refine t13_29_0 h ?_
  have loop : ∀ (i : Int) (z : Int), (0 ≤ i ∧ i ≤ p ∧ z = j_pre (fun i => (i + 1) * V x i) i) → j_ok n_KT 5 C G 5 [(0, (2, x)), (1, (0, p)), (2, (1, z)), (4, (0, i))] [] S V 0 0 := by
    refine j_loop (N := p) (fun i z hi hI kk => ?_) (fun i z hi hI => ?_)
    · obtain ⟨g0, g1, e⟩ := hI
      have b1 := hb i g0 hi
      have bz := j_pre_bd (f := fun i => (i + 1) * V x i) (B := 1147500) (i := i) (by decide) g0 (fun k k0 k1 => by
        have := hb k k0 (by omega)
        exact j_mulb (show 0 ≤ k + 1 by omega) (show k + 1 ≤ 4500 by omega) this.1 this.2)
      have bm := j_mulb (show 0 ≤ i + 1 by omega) (show i + 1 ≤ 4500 by omega) b1.1 b1.2
      have bi := j_mulb g0 (show i ≤ 4500 by omega) (show (0 : Int) ≤ 1147500 by omega) (Int.le_refl _)
      refine t13_29_5 h (fun q => absurd q (by omega)) (fun _ => ?_)
      refine t13_29_11 h (by omega) hx g0 (by omega) (by omega) (by omega) (by omega) (kk _ ⟨(by omega), (by omega), ?_⟩)
      rw [j_pre_s _ g0, e]
    · obtain ⟨g0, g1, e⟩ := hI
      have ei : i = p := by omega
      have bz := j_pre_bd (f := fun i => (i + 1) * V x i) (B := 1147500) (i := i) (by decide) g0 (fun k k0 k1 => by
        have := hb k k0 (by omega)
        exact j_mulb (show 0 ≤ k + 1 by omega) (show k + 1 ≤ 4500 by omega) this.1 this.2)
      refine t13_29_5 h (fun _ => t13_29_31 h (by omega) R ⟨rfl, rfl, ?_⟩ (Nat.le_refl _) (Nat.le_refl _)) (fun q => absurd q (by omega))
      rw [j_w32_in (by omega) (by omega), e, ei]
      rfl
  exact loop 0 0 ⟨(by omega), p0, rfl⟩
