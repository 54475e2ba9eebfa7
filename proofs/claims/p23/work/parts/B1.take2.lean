/-! THE REFERENCE: take, step, mark, skip, check -/
theorem j_rdX_v {f : Int → Int} {len M p wr : Int} (hl : 0 ≤ len) (h0 : 0 ≤ p) (h1 : p ≤ len) : ∀ n : Nat, (j_rdX f len M p wr n).2.2 < 0 → (j_rdX f len M p wr n).2.1 = p + 3 * n ∧ ∀ y : Int, 0 ≤ y → y < n → (j_rdX f len M p wr n).1 y = j_val f (p + 3 * y) 3
  | 0 => fun _ => ⟨by show p = _; omega, fun y y0 y1 => absurd y1 (by omega)⟩
  | n + 1 => by
    have ih := j_rdX_v (f := f) (M := M) (wr := wr) hl h0 h1 n
    have al := j_rdX_al (f := f) (M := M) (wr := wr) h0 h1 n
    intro hw
    obtain ⟨q1, q2, q3, q4, q5⟩ := j_rd_ok (f := f) (len := len) (p := (j_rdX f len M p wr n).2.1) (wr := (j_rdX f len M p wr n).2.2) (size := 3) (least := M) (most := 256 * M - 1) hl (fun _ => al) hw
    have ih := ih q1
    have e2 : (j_rdX f len M p wr (n + 1)).2.1 = (j_rdX f len M p wr n).2.1 + 3 := congrArg (fun z => z.2.1) q3
    refine ⟨by rw [e2, ih.1]; omega, fun y y0 y1 => ?_⟩
    show j_u (j_rdX f len M p wr n).1 n (j_rd f len (j_rdX f len M p wr n).2.1 (j_rdX f len M p wr n).2.2 3 M (256 * M - 1)).1 y = _
    by_cases e : y = n
    · rw [e, j_u_at, q3, ih.1]; rfl
    · rw [j_u_ne e]
      exact ih.2 y y0 (by omega)
theorem j_rt_bd {f : Int → Int} {len : Int} (hl : 0 ≤ len) (hf : ∀ i : Int, 0 ≤ i → i < len → 0 ≤ f i ∧ f i ≤ 255) (h : j_rt f len) : (0 ≤ (j_h1 f len).1 ∧ (j_h1 f len).1 ≤ 4) ∧ (8 ≤ (j_h2 f len).1 ∧ (j_h2 f len).1 ≤ 12) ∧ (1 ≤ (j_h3 f len).1 ∧ (j_h3 f len).1 ≤ 4) ∧ (0 ≤ (j_h4 f len).1 ∧ (j_h4 f len).1 ≤ 400) ∧ (0 ≤ (j_hP f len).1 ∧ (j_hP f len).1 + 3 * (j_h3 f len).1 ≤ len) ∧
    (∀ y : Int, 0 ≤ y → y < (j_h3 f len).1 → (j_hX f len).1 y = j_val f ((j_hP f len).1 + 3 * y) 3 ∧ j_M (j_h2 f len).1 ≤ (j_hX f len).1 y ∧ (j_hX f len).1 y < 256 * j_M (j_h2 f len).1) ∧ (0 ≤ (j_hS f len).2.1 ∧ 0 ≤ (j_hS f len).1 ∧ (j_hS f len).2.1 + (j_hS f len).1 + 2 = len) ∧ ∀ q : Int, 0 ≤ q → q < j_parts (j_h1 f len).1 → j_dl ((j_hP f len).2.2 q) 0 (j_M (j_h2 f len).1) := by
  obtain ⟨q4, qC⟩ := h
  have a1 := j_rd_al (f := f) (len := len) (p := 0) (wr := -1) (size := 1) (least := 0) (most := 4) (by omega) (by omega) hl
  have a1 : 0 ≤ (j_h1 f len).2.1 ∧ (j_h1 f len).2.1 ≤ len := a1
  have a2 := j_rd_al (f := f) (len := len) (wr := (j_h1 f len).2.2) (size := 1) (least := 8) (most := 12) (by omega) a1.1 a1.2
  have a2 : 0 ≤ (j_h2 f len).2.1 ∧ (j_h2 f len).2.1 ≤ len := a2
  have a3 := j_rd_al (f := f) (len := len) (wr := (j_h2 f len).2.2) (size := 1) (least := 1) (most := 4) (by omega) a2.1 a2.2
  have a3 : 0 ≤ (j_h3 f len).2.1 ∧ (j_h3 f len).2.1 ≤ len := a3
  have a4 := j_rd_al (f := f) (len := len) (wr := (j_h3 f len).2.2) (size := 2) (least := 0) (most := 400) (by omega) a3.1 a3.2
  have a4 : 0 ≤ (j_h4 f len).2.1 ∧ (j_h4 f len).2.1 ≤ len := a4
  have o4 := j_rd_ok (f := f) (len := len) (p := (j_h3 f len).2.1) (wr := (j_h3 f len).2.2) (size := 2) (least := 0) (most := 400) hl (fun _ => a3) q4
  have o3 := j_rd_ok (f := f) (len := len) (p := (j_h2 f len).2.1) (wr := (j_h2 f len).2.2) (size := 1) (least := 1) (most := 4) hl (fun _ => a2) o4.1
  have o2 := j_rd_ok (f := f) (len := len) (p := (j_h1 f len).2.1) (wr := (j_h1 f len).2.2) (size := 1) (least := 8) (most := 12) hl (fun _ => a1) o3.1
  have o1 := j_rd_ok (f := f) (len := len) (p := 0) (wr := -1) (size := 1) (least := 0) (most := 4) hl (fun _ => ⟨by omega, hl⟩) o2.1
  have e1 : (j_h1 f len).1 = j_val f 0 (1 : Int).toNat := congrArg Prod.fst o1.2.2.1
  have e2 : (j_h2 f len).1 = j_val f (j_h1 f len).2.1 (1 : Int).toNat := congrArg Prod.fst o2.2.2.1
  have e3 : (j_h3 f len).1 = j_val f (j_h2 f len).2.1 (1 : Int).toNat := congrArg Prod.fst o3.2.2.1
  have e4 : (j_h4 f len).1 = j_val f (j_h3 f len).2.1 (2 : Int).toNat := congrArg Prod.fst o4.2.2.1
  have k1 : 0 ≤ (j_h1 f len).1 ∧ (j_h1 f len).1 ≤ 4 := by rw [e1]; exact o1.2.2.2
  have k2 : 8 ≤ (j_h2 f len).1 ∧ (j_h2 f len).1 ≤ 12 := by rw [e2]; exact o2.2.2.2
  have k3 : 1 ≤ (j_h3 f len).1 ∧ (j_h3 f len).1 ≤ 4 := by rw [e3]; exact o3.2.2.2
  have k4 : 0 ≤ (j_h4 f len).1 ∧ (j_h4 f len).1 ≤ 400 := by rw [e4]; exact o4.2.2.2
  have hm := j_M_bd k2.1 k2.2
  obtain ⟨p0, p1, -⟩ := j_hP_al (f := f) hl
  have x0 := j_rdX_al (f := f) (M := j_M (j_h2 f len).1) (wr := (j_hP f len).2.1) p0 p1 (j_h3 f len).1.toNat
  have x0 : 0 ≤ (j_hX f len).2.1 ∧ (j_hX f len).2.1 ≤ len := x0
  have s1 := j_rdS_al (f := f) (wr := (j_hX f len).2.2) hl x0.1 x0.2
  have s1 : 0 ≤ (j_hS f len).2.1 ∧ (j_hS f len).2.1 ≤ len ∧ 0 ≤ (j_hS f len).1 ∧ (j_hS f len).1 ≤ 65535 ∧ ((j_hS f len).2.2 < 0 → (j_hX f len).2.2 < 0 ∧ (j_hS f len).2.1 + (j_hS f len).1 + 2 = len) := s1
  have wS : (j_hS f len).2.2 < 0 := by
    unfold j_hC j_rdC at qC
    by_cases c : 0 ≤ (j_hS f len).2.2
    · rw [if_pos c] at qC; exact qC
    · omega
  have s2 := s1.2.2.2.2 wS
  have xo := j_rdX_ok (f := f) (len := len) (M := j_M (j_h2 f len).1) (p := (j_hP f len).1) (wr := (j_hP f len).2.1) hl p0 p1 (j_h3 f len).1.toNat s2.1
  have xv := j_rdX_v (f := f) (len := len) (M := j_M (j_h2 f len).1) (p := (j_hP f len).1) (wr := (j_hP f len).2.1) hl p0 p1 (j_h3 f len).1.toNat s2.1
  have xv1 : (j_hX f len).2.1 = (j_hP f len).1 + 3 * ((j_h3 f len).1.toNat : Int) := xv.1
  refine ⟨k1, k2, k3, k4, ⟨p0, (by omega)⟩, fun y y0 y1 => ⟨xv.2 y y0 (by omega), xo.2 y y0 (by omega)⟩, ⟨s1.1, s1.2.2.1, s2.2⟩, fun q q0 q1 => ?_⟩
  have wP := xo.1
  unfold j_hP at wP ⊢
  by_cases td : j_isTold (j_h1 f len).1
  · rw [if_pos td] at wP ⊢
    exact (j_rdP_dl hl hf a4.1 a4.2 (by omega) (by omega) _ wP).2 q q0 (by omega)
  · rw [if_neg td]
    refine j_start_dl k2.1 k2.2 ?_
    change ¬ ((j_h1 f len).1 = 0 ∨ (j_h1 f len).1 = 2 ∨ (j_h1 f len).1 = 3) at td
    omega
/-- a right block lies parsed -/
def j_ps3 (V V' : jH) (a : Int) : Prop := j_psF V V' a ∧ V' a 9 = (j_h1 (V (a + 8)) (V (a + 1) 7)).1 ∧ V' a 10 = j_M (j_h2 (V (a + 8)) (V (a + 1) 7)).1 ∧ V' a 23 = (j_h3 (V (a + 8)) (V (a + 1) 7)).1 ∧ V' a 24 = (j_h4 (V (a + 8)) (V (a + 1) 7)).1 ∧ V' a 25 = (j_hP (V (a + 8)) (V (a + 1) 7)).1 ∧ V' a 26 = (j_hS (V (a + 8)) (V (a + 1) 7)).2.1 ∧ V' a 27 = (j_hS (V (a + 8)) (V (a + 1) 7)).1 ∧
    ∀ q x : Int, 0 ≤ q → q < j_parts (j_h1 (V (a + 8)) (V (a + 1) 7)).1 → 0 ≤ x → x ≤ 256 → j_rB (V' (a + 21)) q x = (j_hP (V (a + 8)) (V (a + 1) 7)).2.2 q x
theorem j_ps3_P {V V1 : jH} {a : Int} (hb : j_mbk V a) (hr : j_rt (V (a + 8)) (V (a + 1) 7)) (h : j_ps3 V V1 a) : j_rkP V1 a (j_h2 (V (a + 8)) (V (a + 1) 7)).1 := by
  obtain ⟨F, v9, v10, v23, v24, v25, v26, v27, hD⟩ := h
  obtain ⟨z1, z2, z3, z4, z5, z6, z7, z8⟩ := j_rt_bd hb.1 hb.2.2 hr
  have e8 : V1 (a + 8) = V (a + 8) := F.1 _ (by omega) (by omega)
  have e1 : V1 (a + 1) = V (a + 1) := F.1 _ (by omega) (by omega)
  unfold j_rkP j_mbk
  rw [e8, e1, v9, v10, v23, v24, v25, v26, v27]
  refine ⟨hb, ⟨z2.1, z2.2, rfl⟩, z1, z3, z4, ⟨z7.1, z7.2.1, (by omega)⟩, fun q q0 q1 => ?_, fun k4 j j0 j1 => ?_, z5.1, z5.2, fun l l0 l1 => ?_⟩
  · exact j_dl_congr (fun j j0 j1 => hD q j q0 q1 j0 j1) (z8 q q0 q1)
  · have := hD 0 j (by omega) (by unfold j_parts; rw [k4]; decide) j0 j1
    unfold j_rB at this
    rw [show (256 : Int) * 0 = 0 by omega, j_rs0] at this
    rw [this]
    unfold j_hP
    rw [if_neg (by change ¬ ((j_h1 (V (a + 8)) (V (a + 1) 7)).1 = 0 ∨ (j_h1 (V (a + 8)) (V (a + 1) 7)).1 = 2 ∨ (j_h1 (V (a + 8)) (V (a + 1) 7)).1 = 3); omega)]
    show j_start (j_h1 (V (a + 8)) (V (a + 1) 7)).1 (j_h2 (V (a + 8)) (V (a + 1) 7)).1 j = j * (j_M (j_h2 (V (a + 8)) (V (a + 1) 7)).1 / 256)
    unfold j_start
    rw [if_pos (by omega)]
  · obtain ⟨y1, y2, y3⟩ := z6 l l0 l1
    rw [← y1]; exact ⟨y2, y3⟩
/-- a right block lies taken again -/
def j_ag (V V' : jH) (a x : Int) : Prop := ∃ V0 : jH, j_ps3 V V0 a ∧ j_rkF V0 V' a ∧ j_says x (j_rkT V0 a (j_h2 (V (a + 8)) (V (a + 1) 7)).1) ∧ (x = 1 → j_rkI V0 a (j_h2 (V (a + 8)) (V (a + 1) 7)).1 (V0 a 24) 0 V')
theorem j_ps9_rt {V V' : jH} {a r : Int} (hr : j_rt (V (a + 8)) (V (a + 1) 7)) (h : j_ps9 V a r V') : r = -1 ∧ j_ps3 V V' a := by
  obtain ⟨F, ⟨q1, _⟩ | ⟨_, q1, _⟩ | ⟨_, q1, q2⟩⟩ := h
  · have := hr.1; omega
  · have := hr.2; omega
  · exact ⟨q1, F, q2⟩
theorem j_ag_F {V V' : jH} {a x : Int} (h : j_ag V V' a x) : j_wkF V V' a ∧ V' a 24 = (j_h4 (V (a + 8)) (V (a + 1) 7)).1 ∧ V' a 9 = (j_h1 (V (a + 8)) (V (a + 1) 7)).1 ∧ V' a 25 = (j_hP (V (a + 8)) (V (a + 1) 7)).1 := by
  obtain ⟨V0, ⟨F, v9, v10, v23, v24, v25, v26, v27, hD⟩, F2, -, -⟩ := h
  refine ⟨⟨fun c c0 c1 => by rw [F2.1 c c0 (by omega) (by omega) (by omega) (by omega) (by omega) (by omega) (by omega)]; exact F.1 c c0 (by omega), fun j hj => by rw [F2.2 j (by omega) (by omega) (by omega)]; exact F.2 j (by omega) (by omega) (by omega) (by omega) (by omega) (by omega) (by omega) (by omega)⟩, ?_, ?_, ?_⟩
  · rw [F2.2 24 (by decide) (by decide) (by decide)]; exact v24
  · rw [F2.2 9 (by decide) (by decide) (by decide)]; exact v9
  · rw [F2.2 25 (by decide) (by decide) (by decide)]; exact v25
theorem m13_46 (l : Launch) : M13_46 l 0 0 (fun a S V => j_L S ∧ 0 ≤ a ∧ j_mbk V a ∧ j_rt (V (a + 8)) (V (a + 1) 7)) (fun a S V S' V' => S' = S ∧ ∃ x : Int, j_ag V V' a x) := by
  refine e13_46 ?_
  rintro C G h hrm hcs hl hn a S V ht ⟨L, a0, hb, hr⟩ R
  refine t13_46_0 h hrm ht (m13_38 C.2.1) ⟨L, a0, hb⟩ (Nat.zero_le _) (Nat.zero_le _) ?_
  rintro y S1 V1 ⟨e0, hp⟩
  subst e0
  obtain ⟨ey, p3⟩ := j_ps9_rt hr hp
  refine t13_46_4 h hrm ht (m13_40 C.2.1 (j_h2 (V (a + 8)) (V (a + 1) 7)).1) ⟨L, a0, j_ps3_P hb hr p3⟩ (Nat.zero_le _) (Nat.zero_le _) ?_
  rintro x S2 V2 ⟨e0, g1, g2, g3⟩
  subst e0
  exact t13_46_9 h R ⟨rfl, x, V1, p3, g1, g2, g3⟩ (Nat.le_refl _) (Nat.le_refl _)
theorem j_mB_bk {V : jH} {a : Int} (h : j_mB V (a + 1)) : j_mbk V a := by
  have := h.1
  rw [show a + 1 + 7 = a + 8 by omega] at this
  exact this
theorem j_mB_rt {V : jH} {a : Int} (h : j_mB V (a + 1)) (q : ¬ V (a + 1) 9 = 0) : j_rt (V (a + 8)) (V (a + 1) 7) := by
  have := h.2.2.1 q
  rw [show a + 1 + 7 = a + 8 by omega] at this
  exact this
/-- the first wrong place of the block that lies -/
def j_tl (V V1 : jH) (a x : Int) : Prop := j_wkF V V1 a ∧ ((0 ≤ (j_h4 (V (a + 8)) (V (a + 1) 7)).2.2 ∧ x = (j_h4 (V (a + 8)) (V (a + 1) 7)).2.2) ∨ ((j_h4 (V (a + 8)) (V (a + 1) 7)).2.2 < 0 ∧ 0 ≤ (j_hC (V (a + 8)) (V (a + 1) 7)).2 ∧ x = (j_hC (V (a + 8)) (V (a + 1) 7)).2) ∨ (j_rt (V (a + 8)) (V (a + 1) 7) ∧ ((x = -1 ∧ j_ag V V1 a 1) ∨ (x = (j_hP (V (a + 8)) (V (a + 1) 7)).1 ∧ j_ag V V1 a 0))))
def j_r14 (a p : Int) (V : jH) (r : Int) (V' : jH) : Prop := (¬ (0 ≤ p ∧ p < 6) ∧ V' = j_md V a ∧ r = -1) ∨ (0 ≤ p ∧ p < 6 ∧ ∃ (x : Int) (V1 : jH), j_tl V V1 a x ∧ ((0 ≤ x ∧ V' = j_md V1 a ∧ r = -100 - x) ∨
  (x < 0 ∧ r = V1 a 24 ∧ V' (a + 2) = j_u (V1 (a + 2)) p (V1 a 24) ∧ (∀ i : Int, 0 ≤ i → i < V1 a 24 → V' (a + 3) (400 * p + i) = V1 (a + 28) i) ∧ (∀ i : Int, (i < 400 * p ∨ 400 * p + V1 a 24 ≤ i) → V' (a + 3) i = V1 (a + 3) i) ∧ V' (a + 1) = j_u (j_u (V1 (a + 1)) 9 1) 10 0 ∧ ∀ c : Int, c ≠ a + 1 → c ≠ a + 2 → c ≠ a + 3 → V' c = V1 c)))
theorem m13_41 (l : Launch) : M13_41 l 0 0 (fun a p S V => j_mI S V a) (fun a p S V r S' V' => S' = S ∧ j_r14 a p V r V') := by
  refine e13_41 ?_
  rintro C G h hrm hcs hl hn a p S V ht hI R
  obtain ⟨L, -, a0, ⟨hR, hS, hB⟩, hk, h2, h4, h3⟩ := id hI
  have F7 : ∀ {f : Int}, f < 0 → f < 0 ∧ -2147483648 ≤ V a 3 ∧ V a 3 < 2147483647 := fun hf => ⟨hf, j_mI_F hI⟩
  have F8 := j_mI_F hI
  have hb := j_mB_bk hB
  refine t13_41_0 h hrm (m13_4 C.2.1) trivial (Nat.zero_le _) (Nat.zero_le _) ?_
  rintro y S1 V1 ⟨e0, e1, hy⟩
  subst e0; subst e1
  refine t13_41_4 h (fun q => ?_) (fun q => (t13_41_7 h hrm ht (m13_2 C.2.1) (F7 (by decide)) (Nat.zero_le _) (Nat.zero_le _) (by rintro r9 S9 V9 ⟨e0, e9, er⟩; subst e0; subst e9; subst er; exact t13_41_12 h R (⟨rfl, Or.inl ⟨hy.n q, rfl, rfl⟩⟩) (Nat.zero_le _) (Nat.zero_le _))))
  obtain ⟨p0, p1⟩ := hy.y q
  -- behind the taking
  have fin : ∀ (x : Int) (W : jH), j_tl V1 W a x → j_ok n_KT 4 C G 34 [(0, (2, a)), (1, (0, p)), (2, (0, x))] [] S1 W 0 0 := by
    intro x W hW
    have ea : W a 3 = V1 a 3 := hW.1.2 3 (by decide)
    have xb : x ≤ V1 (a + 1) 7 := by
      rcases hW.2 with ⟨_, z⟩ | ⟨_, _, z⟩ | ⟨_, ⟨z, _⟩ | ⟨z, _⟩⟩
      · rw [z]; exact (j_h4_al hb.1).2.2
      · rw [z]; exact j_hC_wb hb.1
      · have := hb.1; omega
      · rw [z]; exact (j_hP_al hb.1).2.1
    have lb := hb.2.1
    refine t13_41_34 h (fun z => ?_) (fun z => ?_)
    · have hag : j_ag V1 W a 1 ∧ j_rt (V1 (a + 8)) (V1 (a + 1) 7) := by
        rcases hW.2 with ⟨z1, z2⟩ | ⟨_, z1, z2⟩ | ⟨z0, ⟨_, z1⟩ | ⟨z1, _⟩⟩
        · omega
        · omega
        · exact ⟨z1, z0⟩
        · have := (j_hP_al (f := V1 (a + 8)) hb.1).1; omega
      obtain ⟨-, w24, -, -⟩ := j_ag_F hag.1
      have nb := (j_rt_bd hb.1 hb.2.2 hag.2).2.2.2.1
      rw [← w24] at nb
      refine t13_41_47 h L ht p0 p1 ?_
      have loop : ∀ (i : Int) (V2 : jH), (0 ≤ i ∧ i ≤ W a 24 ∧ (∀ k : Int, 0 ≤ k → k < i → V2 (a + 3) (400 * p + k) = W (a + 28) k) ∧ (∀ k : Int, (k < 400 * p ∨ 400 * p + i ≤ k) → V2 (a + 3) k = W (a + 3) k) ∧ V2 (a + 2) = j_u (W (a + 2)) p (W a 24) ∧ ∀ c : Int, c ≠ a + 2 → c ≠ a + 3 → V2 c = W c) → j_ok n_KT 4 C G 62 [(0, (2, a)), (1, (0, p)), (3, (0, i))] [] S1 V2 0 0 := by
        refine j_loop (N := W a 24) (fun i V2 hi hI kk => ?_) (fun i V2 hi hI => ?_)
        · obtain ⟨g0, g1, g2, g3, g4, g5⟩ := hI
          refine t13_41_62 h ht (fun y => absurd y (by rw [g5 a (by omega) (by omega)]; omega)) (fun _ => ?_)
          refine t13_41_70 h L ht (by omega) (by omega) g0 (by omega) (by omega) (by omega) (by omega) (kk _ ⟨(by omega), (by omega), fun k k0 k1 => ?_, fun k k0 => ?_, by rw [j_up_ne (by omega)]; exact g4, fun c c0 c1 => by rw [j_up_ne c1]; exact g5 c c0 c1⟩)
          · by_cases e : k = i
            · rw [e, j_up_at, g5 _ (by omega) (by omega)]
            · rw [j_up_off (by omega)]; exact g2 k k0 (by omega)
          · rw [j_up_off (by omega)]; exact g3 k (by omega)
        · obtain ⟨g0, g1, g2, g3, g4, g5⟩ := hI
          have ei : i = W a 24 := by omega
          rw [ei] at g2 g3
          have ea24 : V2 a 24 = W a 24 := by rw [g5 a (by omega) (by omega)]
          refine t13_41_62 h ht (fun _ => t13_41_97 h L ht R ⟨rfl, Or.inr ⟨p0, p1, x, W, hW, Or.inr ⟨z, ea24, ?_, fun k k0 k1 => ?_, fun k k0 => ?_, ?_, fun c c0 c1 c2 => ?_⟩⟩⟩ (Nat.le_refl _) (Nat.le_refl _)) (fun y => absurd y (by rw [ea24]; omega))
          · rw [j_up_ne (by omega), j_up_ne (by omega)]; exact g4
          · rw [j_up_ne (by omega), j_up_ne (by omega)]; exact g2 k k0 k1
          · rw [j_up_ne (by omega), j_up_ne (by omega)]; exact g3 k k0
          · rw [j_up_u, j_up_u, g5 _ (by omega) (by omega)]
          · rw [j_up_ne c0, j_up_ne c0]; exact g5 c c1 c2
      exact loop 0 _ ⟨(by omega), nb.1, fun k k0 k1 => absurd k1 (by omega), fun k _ => by rw [j_up_ne (by omega)], by rw [j_up_u], fun c c0 c1 => j_up_ne c0⟩
    · refine t13_41_38 h hrm (by omega) ht (m13_2 C.2.1) ⟨(by omega), by rw [ea]; exact F8⟩ (Nat.zero_le _) (Nat.zero_le _) ?_
      rintro f S9 V9 ⟨e0, e1, er⟩
      subst e0
      exact t13_41_46 h R ⟨rfl, Or.inr ⟨p0, p1, x, W, hW, Or.inl ⟨z, e1, er⟩⟩⟩ (Nat.le_refl _) (Nat.le_refl _)
  refine t13_41_13 h hrm ht (m13_38 C.2.1) ⟨L, a0, hb⟩ (Nat.zero_le _) (Nat.zero_le _) ?_
  rintro x S2 V2 ⟨e0, hp⟩
  subst e0
  have wk : j_wkF V1 V2 a := ⟨fun c c0 c1 => hp.1.1 c c0 (by omega), fun j hj => hp.1.2 j (by omega) (by omega) (by omega) (by omega) (by omega) (by omega) (by omega) (by omega)⟩
  refine t13_41_17 h (fun q => fin x V2 ⟨wk, ?_⟩) (fun q => ?_)
  · obtain ⟨-, z | z | ⟨_, z, _⟩⟩ := hp
    · exact Or.inl z
    · exact Or.inr (Or.inl z)
    · omega
  · have hr : j_rt (V1 (a + 8)) (V1 (a + 1) 7) := by
      obtain ⟨-, ⟨z1, z2⟩ | ⟨_, z1, z2⟩ | ⟨z, _, _⟩⟩ := hp
      · omega
      · omega
      · exact z
    obtain ⟨ex, p3⟩ := j_ps9_rt hr hp
    refine t13_41_22 h hrm ht (m13_40 C.2.1 (j_h2 (V1 (a + 8)) (V1 (a + 1) 7)).1) ⟨L, a0, j_ps3_P hb hr p3⟩ (Nat.zero_le _) (Nat.zero_le _) ?_
    rintro b S3 V3 ⟨e0, g1, g2, g3⟩
    subst e0
    have ag : j_ag V1 V3 a b := ⟨V2, p3, g1, g2, g3⟩
    obtain ⟨w1, w24, w9, w25⟩ := j_ag_F ag
    refine t13_41_26 h (fun z => fin x V3 ⟨w1, Or.inr (Or.inr ⟨hr, Or.inl ⟨ex, ?_⟩⟩)⟩) (fun z => t13_41_29 h ht ?_)
    · have : b = 1 := by have := g2.bit; omega
      rw [this] at ag; exact ag
    · rw [z] at ag
      exact fin _ V3 ⟨w1, Or.inr (Or.inr ⟨hr, Or.inr ⟨w25, ag⟩⟩)⟩
def j_r19 (a i k : Int) (V : jH) (r : Int) (V' : jH) : Prop := (V (a + 1) 9 = 0 ∧ V' = j_md V a ∧ r = -6) ∨ (V (a + 1) 9 ≠ 0 ∧ ∃ (x : Int) (V1 : jH), j_ag V V1 a x ∧ ((¬ ((0 ≤ i ∧ i < V1 a 24) ∧ 0 ≤ k ∧ k ≤ 4) ∧ V' = j_md V1 a ∧ r = -1) ∨ (0 ≤ i ∧ i < V1 a 24 ∧ 0 ≤ k ∧ k ≤ 4 ∧ V' = V1 ∧ r = if k = 0 then V1 (a + 28) i else if k = 1 then j_w32 (V1 (a + 29) i) else if k = 2 then V1 (a + 30) i else if k = 3 then V1 (a + 22) i else V1 (a + 23) i)))
theorem m13_47 (l : Launch) : M13_47 l 0 0 (fun a i k S V => j_mI S V a) (fun a i k S V r S' V' => S' = S ∧ j_r19 a i k V r V') := by
  refine e13_47 ?_
  rintro C G h hrm hcs hl hn a i k S V ht hI R
  obtain ⟨L, -, a0, ⟨hR, hS, hB⟩, hk, h2, h4, h3⟩ := id hI
  have F7 : ∀ {f : Int}, f < 0 → f < 0 ∧ -2147483648 ≤ V a 3 ∧ V a 3 < 2147483647 := fun hf => ⟨hf, j_mI_F hI⟩
  have F8 := j_mI_F hI
  have hb := j_mB_bk hB
  refine t13_47_0 h L ht (fun q => ?_) (fun q => (t13_47_10 h hrm ht (m13_2 C.2.1) (F7 (by decide)) (Nat.zero_le _) (Nat.zero_le _) (by rintro r9 S9 V9 ⟨e0, e9, er⟩; subst e0; subst e9; subst er; exact t13_47_16 h R (⟨rfl, Or.inl ⟨q, rfl, rfl⟩⟩) (Nat.zero_le _) (Nat.zero_le _))))
  have hr := j_mB_rt hB q
  refine t13_47_17 h hrm ht (m13_46 C.2.1) ⟨L, a0, hb, hr⟩ (Nat.zero_le _) (Nat.zero_le _) ?_
  rintro S1 V1 ⟨e0, x, hag⟩
  subst e0
  obtain ⟨w1, w24, w9, -⟩ := j_ag_F hag
  have nb := (j_rt_bd hb.1 hb.2.2 hr).2.2.2.1
  rw [← w24] at nb
  have F9 : -2147483648 ≤ V1 a 3 ∧ V1 a 3 < 2147483647 := by rw [w1.2 3 (by decide)]; exact F8
  have no : ¬ ((0 ≤ i ∧ i < V1 a 24) ∧ 0 ≤ k ∧ k ≤ 4) → j_ok n_KT 3 C G 49 [(0, (2, a))] [] S1 V1 0 0 := fun z => by
    refine t13_47_49 h hrm ht (m13_2 C.2.1) ⟨by decide, F9⟩ (Nat.zero_le _) (Nat.zero_le _) ?_
    rintro f S9 V9 ⟨e0, e1, er⟩
    subst e0
    exact t13_47_54 h R ⟨rfl, Or.inr ⟨q, x, V1, hag, Or.inl ⟨z, e1, er⟩⟩⟩ (Nat.le_refl _) (Nat.le_refl _)
  refine t13_47_21 h hrm ht (by omega) (m13_3 C.2.1) trivial (Nat.zero_le _) (Nat.zero_le _) ?_
  rintro y S2 V2 ⟨e0, e1, hy⟩
  subst e0; subst e1
  refine t13_47_34 h (fun z => no (fun z2 => hy.n z ⟨z2.1.1, (by omega)⟩)) (fun z => ?_)
  obtain ⟨i0, i1⟩ := hy.y z
  refine t13_47_37 h hrm (m13_3 C.2.1) trivial (Nat.zero_le _) (Nat.zero_le _) ?_
  rintro y2 S3 V3 ⟨e0, e1, hy2⟩
  subst e0; subst e1
  refine t13_47_46 h (fun z2 => ?_) (fun z2 => no (fun z3 => hy2.n z2 z3.2))
  obtain ⟨k0, k1⟩ := hy2.y z2
  have fin : ∀ r : Int, (r = if k = 0 then V3 (a + 28) i else if k = 1 then j_w32 (V3 (a + 29) i) else if k = 2 then V3 (a + 30) i else if k = 3 then V3 (a + 22) i else V3 (a + 23) i) → j_ok n_KT 3 C G 117 [] [(0, r)] S3 V3 0 0 := fun r er => t13_47_117 h R ⟨rfl, Or.inr ⟨q, x, V3, hag, Or.inr ⟨i0, (by omega), k0, k1, rfl, er⟩⟩⟩ (Nat.le_refl _) (Nat.le_refl _)
  refine t13_47_55 h (fun z3 => t13_47_68 h (fun z4 => t13_47_83 h (fun z5 => t13_47_97 h (fun z6 => t13_47_111 h L ht i0 (by omega) (fin _ ?_)) (fun z6 => t13_47_102 h L ht i0 (by omega) (fin _ ?_))) (fun z5 => t13_47_88 h L ht i0 (by omega) (fin _ ?_))) (fun z4 => t13_47_73 h L ht i0 (by omega) (fin _ ?_))) (fun z3 => t13_47_59 h L ht i0 (by omega) (fin _ ?_))
  · rw [if_neg z3, if_neg z4, if_neg z5, if_neg z6]
  · rw [if_neg z3, if_neg z4, if_neg z5, if_pos z6]
  · rw [if_neg z3, if_neg z4, if_pos z5]
  · rw [if_neg z3, if_pos z4]
  · rw [if_pos z3]
def j_r20 (a g : Int) (V : jH) (r : Int) (V' : jH) : Prop := (V (a + 1) 9 = 0 ∧ V' = j_md V a ∧ r = -6) ∨ (V (a + 1) 9 ≠ 0 ∧ ¬ (1 ≤ g ∧ g ≤ 400) ∧ V' = j_md V a ∧ r = -1) ∨ (V (a + 1) 9 ≠ 0 ∧ 1 ≤ g ∧ g ≤ 400 ∧ ∃ (x : Int) (V1 : jH), j_ag V V1 a x ∧ ((V1 a 9 = 4 ∧ V' = j_md V1 a ∧ r = -3) ∨ (V1 a 9 ≠ 4 ∧ r = (V1 a 24 + g - 1) / g ∧ V' = j_up (j_up V1 (a + 1) 11 g) (a + 1) 10 ((V1 a 24 + g - 1) / g))))
theorem m13_48 (l : Launch) : M13_48 l 0 0 (fun a g S V => j_mI S V a) (fun a g S V r S' V' => S' = S ∧ j_r20 a g V r V') := by
  refine e13_48 ?_
  rintro C G h hrm hcs hl hn a g S V ht hI R
  obtain ⟨L, -, a0, ⟨hR, hS, hB⟩, hk, h2, h4, h3⟩ := id hI
  have F7 : ∀ {f : Int}, f < 0 → f < 0 ∧ -2147483648 ≤ V a 3 ∧ V a 3 < 2147483647 := fun hf => ⟨hf, j_mI_F hI⟩
  have F8 := j_mI_F hI
  have hb := j_mB_bk hB
  refine t13_48_0 h L ht (fun q => ?_) (fun q => (t13_48_10 h hrm ht (m13_2 C.2.1) (F7 (by decide)) (Nat.zero_le _) (Nat.zero_le _) (by rintro r9 S9 V9 ⟨e0, e9, er⟩; subst e0; subst e9; subst er; exact t13_48_16 h R (⟨rfl, Or.inl ⟨q, rfl, rfl⟩⟩) (Nat.zero_le _) (Nat.zero_le _))))
  have hr := j_mB_rt hB q
  refine t13_48_17 h hrm (m13_3 C.2.1) trivial (Nat.zero_le _) (Nat.zero_le _) ?_
  rintro y S2 V2 ⟨e0, e1, hy⟩
  subst e0; subst e1
  refine t13_48_26 h (fun z => ?_) (fun z => (t13_48_29 h hrm ht (m13_2 C.2.1) (F7 (by decide)) (Nat.zero_le _) (Nat.zero_le _) (by rintro r9 S9 V9 ⟨e0, e9, er⟩; subst e0; subst e9; subst er; exact t13_48_34 h R (⟨rfl, Or.inr (Or.inl ⟨q, hy.n z, rfl, rfl⟩)⟩) (Nat.zero_le _) (Nat.zero_le _))))
  obtain ⟨g0, g1⟩ := hy.y z
  refine t13_48_35 h hrm ht (m13_46 C.2.1) ⟨L, a0, hb, hr⟩ (Nat.zero_le _) (Nat.zero_le _) ?_
  rintro S1 V1 ⟨e0, x, hag⟩
  subst e0
  obtain ⟨w1, w24, w9, -⟩ := j_ag_F hag
  have nb := (j_rt_bd hb.1 hb.2.2 hr).2.2.2.1
  rw [← w24] at nb
  have F9 : -2147483648 ≤ V1 a 3 ∧ V1 a 3 < 2147483647 := by rw [w1.2 3 (by decide)]; exact F8
  refine t13_48_39 h ht (fun z2 => ?_) (fun z2 => ?_)
  · exact t13_48_54 h L ht (by omega) (by omega) (by omega) (by omega) R ⟨rfl, Or.inr (Or.inr ⟨q, g0, g1, x, V1, hag, Or.inr ⟨z2, rfl, rfl⟩⟩)⟩ (Nat.le_refl _) (Nat.le_refl _)
  · refine t13_48_47 h hrm ht (m13_2 C.2.1) ⟨by decide, F9⟩ (Nat.zero_le _) (Nat.zero_le _) ?_
    rintro f S9 V9 ⟨e0, e1, er⟩
    subst e0
    exact t13_48_53 h R ⟨rfl, Or.inr (Or.inr ⟨q, g0, g1, x, V1, hag, Or.inl ⟨z2, e1, er⟩⟩)⟩ (Nat.le_refl _) (Nat.le_refl _)
def j_r21 (a i : Int) (V : jH) (r : Int) (V' : jH) : Prop := (V (a + 1) 10 = 0 ∧ V' = j_md V a ∧ r = -6) ∨ (V (a + 1) 10 ≠ 0 ∧ ∃ (x : Int) (V1 : jH), j_ag V V1 a x ∧ ((¬ (0 ≤ i ∧ i < V1 a 24) ∧ V' = j_md V1 a ∧ r = -1) ∨ (0 ≤ i ∧ i < V1 a 24 ∧ r = V1 (a + 28) i ∧ V' = j_up V1 (a + 1) 13 (i % V1 (a + 1) 11 + 1))))
theorem m13_49 (l : Launch) : M13_49 l 0 0 (fun a i S V => j_mI S V a) (fun a i S V r S' V' => S' = S ∧ j_r21 a i V r V') := by
  refine e13_49 ?_
  rintro C G h hrm hcs hl hn a i S V ht hI R
  obtain ⟨L, -, a0, ⟨hR, hS, hB⟩, hk, h2, h4, h3⟩ := id hI
  have F7 : ∀ {f : Int}, f < 0 → f < 0 ∧ -2147483648 ≤ V a 3 ∧ V a 3 < 2147483647 := fun hf => ⟨hf, j_mI_F hI⟩
  have F8 := j_mI_F hI
  have hb := j_mB_bk hB
  refine t13_49_0 h L ht (fun q => ?_) (fun q => (t13_49_10 h hrm ht (m13_2 C.2.1) (F7 (by decide)) (Nat.zero_le _) (Nat.zero_le _) (by rintro r9 S9 V9 ⟨e0, e9, er⟩; subst e0; subst e9; subst er; exact t13_49_16 h R (⟨rfl, Or.inl ⟨q, rfl, rfl⟩⟩) (Nat.zero_le _) (Nat.zero_le _))))
  obtain ⟨m9, m0, m1⟩ := hB.2.2.2 q
  have hr := j_mB_rt hB m9
  refine t13_49_17 h hrm ht (m13_46 C.2.1) ⟨L, a0, hb, hr⟩ (Nat.zero_le _) (Nat.zero_le _) ?_
  rintro S1 V1 ⟨e0, x, hag⟩
  subst e0
  obtain ⟨w1, w24, w9, -⟩ := j_ag_F hag
  have nb := (j_rt_bd hb.1 hb.2.2 hr).2.2.2.1
  rw [← w24] at nb
  have F9 : -2147483648 ≤ V1 a 3 ∧ V1 a 3 < 2147483647 := by rw [w1.2 3 (by decide)]; exact F8
  have e1' : V1 (a + 1) = V (a + 1) := w1.1 _ (by omega) (by omega)
  refine t13_49_21 h hrm ht (by omega) (m13_3 C.2.1) trivial (Nat.zero_le _) (Nat.zero_le _) ?_
  rintro y S2 V2 ⟨e0, e1, hy⟩
  subst e0; subst e1
  refine t13_49_34 h (fun z => ?_) (fun z => ?_)
  · obtain ⟨i0, i1⟩ := hy.y z
    have md0 : 0 ≤ i % V2 (a + 1) 11 := Int.emod_nonneg _ (by rw [e1']; omega)
    have md1 : i % V2 (a + 1) 11 < V2 (a + 1) 11 := Int.emod_lt_of_pos _ (by rw [e1']; omega)
    have mb : V2 (a + 1) 11 ≤ 400 := by rw [e1']; exact m1
    exact t13_49_43 h L ht i0 (by rw [e1']; exact m0) (by omega) (by omega) R ⟨rfl, Or.inr ⟨q, x, V2, hag, Or.inr ⟨i0, (by omega), rfl, rfl⟩⟩⟩ (Nat.le_refl _) (Nat.le_refl _)
  · refine t13_49_37 h hrm ht (m13_2 C.2.1) ⟨by decide, F9⟩ (Nat.zero_le _) (Nat.zero_le _) ?_
    rintro f S9 V9 ⟨e0, e1, er⟩
    subst e0
    exact t13_49_42 h R ⟨rfl, Or.inr ⟨q, x, V2, hag, Or.inl ⟨fun z2 => hy.n z ⟨z2.1, (by omega)⟩, e1, er⟩⟩⟩ (Nat.le_refl _) (Nat.le_refl _)
/-- how the told states are looked at -/
def j_ckd (t s : Int → Int) (m n : Int) (r : Int) : Prop := (∃ i : Int, 0 ≤ i ∧ i < n ∧ (∀ k : Int, 0 ≤ k → k < i → k < m ∧ t k = s k) ∧ ¬ (i < m ∧ t i = s i) ∧ r = i + 1) ∨ ((∀ k : Int, 0 ≤ k → k < n → k < m ∧ t k = s k) ∧ ((n < m ∧ r = n + 1) ∨ (m ≤ n ∧ r = 0)))
def j_r23 (a : Int) (V : jH) (r : Int) (V' : jH) : Prop := (V (a + 1) 9 = 0 ∧ V' = j_md (j_up V a 4 0) a ∧ r = -6) ∨ (V (a + 1) 9 ≠ 0 ∧ ∃ x : Int, j_ag (j_up V a 4 0) V' a x ∧ j_ckd (V' (a + 17)) (V' (a + 29)) (V a 4) (V' a 24) r)
theorem m13_51 (l : Launch) : M13_51 l 0 0 (fun a S V => j_mI S V a) (fun a S V r S' V' => S' = S ∧ j_r23 a V r V') := by
  refine e13_51 ?_
  rintro C G h hrm hcs hl hn a S V ht hI R
  obtain ⟨L, -, a0, ⟨hR, hS, hB⟩, hk, h2, h4, h3⟩ := id hI
  have F8 := j_mI_F hI
  have hb := j_mB_bk hB
  refine t13_51_0 h L ht (fun q => ?_) (fun q => ?_)
  rotate_left
  · refine t13_51_20 h hrm ht (m13_2 C.2.1) ⟨by decide, by rw [j_up_off (by decide)]; exact F8⟩ (Nat.zero_le _) (Nat.zero_le _) ?_
    rintro f S9 V9 ⟨e0, e1, er⟩
    subst e0
    exact t13_51_26 h R ⟨rfl, Or.inl ⟨q, e1, er⟩⟩ (Nat.le_refl _) (Nat.le_refl _)
  have hr := j_mB_rt hB q
  have w8 : j_up V a 4 0 (a + 8) = V (a + 8) := j_up_ne (by omega)
  have w1 : j_up V a 4 0 (a + 1) = V (a + 1) := j_up_ne (by omega)
  refine t13_51_27 h hrm ht (m13_46 C.2.1) ⟨L, a0, by unfold j_mbk; rw [w8, w1]; exact hb, by rw [w8, w1]; exact hr⟩ (Nat.zero_le _) (Nat.zero_le _) ?_
  rintro S1 V1 ⟨e0, x, hag⟩
  subst e0
  obtain ⟨-, w24, -, -⟩ := j_ag_F hag
  rw [w8, w1] at w24
  have nb := (j_rt_bd hb.1 hb.2.2 hr).2.2.2.1
  rw [← w24] at nb
  refine t13_51_31 h ?_
  have loop : ∀ (i : Int) (u : Unit), (0 ≤ i ∧ i ≤ V1 a 24 ∧ ∀ k : Int, 0 ≤ k → k < i → k < V a 4 ∧ V1 (a + 17) k = V1 (a + 29) k) → j_ok n_KT 3 C G 33 [(0, (2, a)), (1, (0, V a 4)), (2, (0, i))] [] S1 V1 0 0 := by
    refine j_loop (N := V1 a 24) (fun i u hi hI kk => ?_) (fun i u hi hI => ?_)
    · obtain ⟨g0, g1, g2⟩ := hI
      have no : ¬ (i < V a 4 ∧ V1 (a + 17) i = V1 (a + 29) i) → j_ok n_KT 3 C G 63 [(2, (0, i))] [] S1 V1 0 0 := fun z => t13_51_63 h (by omega) R ⟨rfl, Or.inr ⟨q, x, hag, Or.inl ⟨i, g0, hi, g2, z, rfl⟩⟩⟩ (Nat.le_refl _) (Nat.le_refl _)
      refine t13_51_33 h ht (fun z => absurd z (by omega)) (fun _ => t13_51_41 h (fun z => no (by omega)) (fun z => t13_51_46 h L ht g0 (by omega) (fun z2 => t13_51_67 h (by omega) (kk u ⟨(by omega), (by omega), fun k k0 k1 => ?_⟩)) (fun z2 => no (fun z3 => z2 z3.2))))
      by_cases e : k = i
      · rw [e]; exact ⟨z, z2⟩
      · exact g2 k k0 (by omega)
    · obtain ⟨g0, g1, g2⟩ := hI
      have ei : i = V1 a 24 := by omega
      rw [ei] at g2
      refine t13_51_33 h ht (fun _ => t13_51_73 h ht (fun z => t13_51_90 h (t13_51_91 h R ⟨rfl, Or.inr ⟨q, x, hag, Or.inr ⟨g2, Or.inr ⟨z, rfl⟩⟩⟩⟩ (Nat.le_refl _) (Nat.le_refl _))) (fun z => t13_51_81 h ht (by omega) (t13_51_91 h R ⟨rfl, Or.inr ⟨q, x, hag, Or.inr ⟨g2, Or.inl ⟨z, rfl⟩⟩⟩⟩ (Nat.le_refl _) (Nat.le_refl _)))) (fun z => absurd z (by omega))
  exact loop 0 () ⟨(by omega), nb.1, fun k k0 k1 => absurd k1 (by omega)⟩
