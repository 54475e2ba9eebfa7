/-! THE CLASS: the reader, what stands behind the deals -/
theorem j_rd_ok {f : Int → Int} {len p wr size least most : Int} (hl : 0 ≤ len) (hp : wr < 0 → 0 ≤ p ∧ p ≤ len) (hw : (j_rd f len p wr size least most).2.2 < 0) :
    wr < 0 ∧ p + size ≤ len ∧ j_rd f len p wr size least most = (j_val f p size.toNat, p + size, wr) ∧ least ≤ j_val f p size.toNat ∧ j_val f p size.toNat ≤ most := by
  unfold j_rd at hw ⊢
  by_cases c1 : 0 ≤ wr
  · rw [if_pos c1] at hw
    change wr < 0 at hw
    omega
  · rw [if_neg c1] at hw ⊢
    have hp := hp (by omega)
    by_cases c2 : len - p < size
    · rw [if_pos c2] at hw
      change len < 0 at hw
      omega
    · rw [if_neg c2] at hw ⊢
      by_cases c3 : j_val f p size.toNat < least ∨ most < j_val f p size.toNat
      · rw [if_pos c3] at hw
        change p < 0 at hw
        omega
      · rw [if_neg c3]
        exact ⟨by omega, by omega, rfl, by omega, by omega⟩
/-- where a reader may be behind a number -/
theorem j_rd_pl {f : Int → Int} {len p wr size least most : Int} (hs : 0 ≤ size) (hl : 0 ≤ len) (hp : wr < 0 → 0 ≤ p ∧ p ≤ len) : (j_rd f len p wr size least most).2.2 < 0 → 0 ≤ (j_rd f len p wr size least most).2.1 ∧ (j_rd f len p wr size least most).2.1 ≤ len := by
  intro hw
  obtain ⟨q1, q2, q3, q4, q5⟩ := j_rd_ok hl hp hw
  have := hp q1
  rw [q3]
  show 0 ≤ p + size ∧ p + size ≤ len
  omega
def j_rdS (f : Int → Int) (len p wr : Int) : Int × Int × Int :=
  if (j_rd f len p wr 2 0 65535).2.2 < 0 ∧ len - (j_rd f len p wr 2 0 65535).2.1 ≠ (j_rd f len p wr 2 0 65535).1 + 2 then ((j_rd f len p wr 2 0 65535).1, (j_rd f len p wr 2 0 65535).2.1, p) else j_rd f len p wr 2 0 65535
theorem m7_7 (l : Launch) : M7_7 l 0 0 (fun a b S V => j_L S ∧ S.1 b = 22 ∧ j_blkOK V b ∧ (V a 1 < 0 → 0 ≤ V a 0 ∧ V a 0 ≤ V b 1))
    (fun a b S V r S' V' => S' = S ∧ (r, V' a 0, V' a 1) = j_rdS (V (b + 1)) (V b 1) (V a 0) (V a 1) ∧ ∀ c : Int, c ≠ a → V' c = V c) := by
  refine e7_7 ?_
  rintro C G h hrm hcs hl hn a b S V ha ⟨L, hb, hk, hp⟩ R
  have nb : b ≠ a := fun z => by rw [z, ha] at hb; exact absurd hb (by decide)
  refine t7_7_0 h hrm ha (m7_3 C.2.1) ⟨L, hb, hk, by omega, by omega, hp⟩ (Nat.zero_le _) (Nat.zero_le _) ?_
  rintro r S1 V1 ⟨e0, x1, x2⟩
  subst e0
  have y1 : (j_rd (V (b + 1)) (V b 1) (V a 0) (V a 1) 2 0 65535).1 = r := by rw [← x1]
  have y2 : (j_rd (V (b + 1)) (V b 1) (V a 0) (V a 1) 2 0 65535).2.1 = V1 a 0 := by rw [← x1]
  have y3 : (j_rd (V (b + 1)) (V b 1) (V a 0) (V a 1) 2 0 65535).2.2 = V1 a 1 := by rw [← x1]
  have eb : V1 b = V b := x2 b nb
  refine t7_7_14 h ha (fun q => ?_) (fun q => ?_)
  · refine t7_7_42 h R ⟨rfl, ?_, x2⟩ (Nat.le_refl _) (Nat.le_refl _)
    unfold j_rdS
    rw [if_neg (by rw [y3]; omega)]
    exact x1
  · have ok := j_rd_ok hk.1 hp (by rw [y3]; exact q)
    obtain ⟨k1, k2, k3, k4, k5⟩ := ok
    rw [k3] at y1 y2
    change j_val (V (b + 1)) (V a 0) (2 : Int).toNat = r at y1
    change V a 0 + 2 = V1 a 0 at y2
    have hp2 := hp k1
    have hk2 := hk.2.1
    refine t7_7_22 h hb ha (by rw [eb]; omega) (by omega) (fun q2 => ?_) (fun q2 => ?_)
    · refine t7_7_42 h R ⟨rfl, ?_, x2⟩ (Nat.le_refl _) (Nat.le_refl _)
      unfold j_rdS
      rw [← x1]
      rw [if_neg (fun z => z.2 (by rw [← eb]; exact q2))]
    · refine t7_7_37 h ha (t7_7_42 h R ⟨rfl, ?_, fun c hc => (j_up_ne hc).trans (x2 c hc)⟩ (Nat.le_refl _) (Nat.le_refl _))
      unfold j_rdS
      rw [← x1]
      rw [if_pos ⟨q, by rw [← eb]; exact q2⟩, j_up_at, j_up_off (by decide)]
def j_rdC (f : Int → Int) (len p wr sp : Int) : Int × Int := if 0 ≤ wr then (p, wr) else (j_rd f len sp wr 2 (j_SUM f sp) (j_SUM f sp)).2
theorem m7_8 (l : Launch) : M7_8 l 0 0 (fun a b sp S V => j_L S ∧ S.1 b = 22 ∧ j_blkOK V b ∧ (V a 1 < 0 → 0 ≤ sp ∧ sp ≤ V b 1))
    (fun a b sp S V S' V' => S' = S ∧ (V' a 0, V' a 1) = j_rdC (V (b + 1)) (V b 1) (V a 0) (V a 1) sp ∧ ∀ c : Int, c ≠ a → V' c = V c) := by
  refine e7_8 ?_
  rintro C G h hrm hcs hl hn a b sp S V ha ⟨L, hb, hk, hp⟩ R
  have nb : b ≠ a := fun z => by rw [z, ha] at hb; exact absurd hb (by decide)
  have nb1 : b + 1 ≠ a := fun z => by have := L1_0k L hb; rw [z, ha] at this; exact absurd this (by decide)
  refine t7_8_0 h ha (fun q => ?_) (fun q => ?_)
  · refine t7_8_27 h R ⟨rfl, ?_, fun c _ => rfl⟩ (Nat.le_refl _) (Nat.le_refl _)
    unfold j_rdC
    rw [if_pos q]
  · have hp := hp q
    have hk2 := hk.2.1
    refine t7_8_7 h hrm ha hb (m3_9 C.2.1) ⟨L, hp.1, by omega, fun i i0 i1 => by rw [j_up_ne nb1]; exact hk.2.2 i i0 (by omega)⟩ (Nat.zero_le _) (Nat.zero_le _) ?_
    rintro r S1 V1 ⟨e0, e1, er⟩
    subst e0
    rw [j_up_ne nb1] at er
    have eb : V1 b = V b := by rw [e1, j_up_ne nb]
    have eb1 : V1 (b + 1) = V (b + 1) := by rw [e1, j_up_ne nb1]
    have ea0 : V1 a 0 = sp := by rw [e1, j_up_at]
    have ea1 : V1 a 1 = V a 1 := by rw [e1, j_up_off (by decide)]
    refine t7_8_17 h hrm ha (m7_3 C.2.1) ⟨L, hb, ⟨by rw [eb]; exact hk.1, by rw [eb]; exact hk2, by rw [eb, eb1]; exact hk.2.2⟩, by omega, by omega, fun _ => by rw [ea0, eb]; exact hp⟩ (Nat.zero_le _) (Nat.zero_le _) ?_
    rintro r2 S2 V2 ⟨e0, x1, x2⟩
    subst e0
    rw [eb, eb1, ea0, ea1, er] at x1
    refine t7_8_26 h (t7_8_27 h R ⟨rfl, ?_, fun c hc => ?_⟩ (Nat.le_refl _) (Nat.le_refl _))
    · unfold j_rdC
      rw [if_neg (by omega), ← x1]
    · rw [x2 c hc, e1, j_up_ne hc]
/-- the states of so many lanes are read -/
def j_rdX (f : Int → Int) (len M p wr : Int) : Nat → (Int → Int) × Int × Int
  | 0 => (fun _ => 0, p, wr)
  | n + 1 => (j_u (j_rdX f len M p wr n).1 n (j_rd f len (j_rdX f len M p wr n).2.1 (j_rdX f len M p wr n).2.2 3 M (256 * M - 1)).1, (j_rd f len (j_rdX f len M p wr n).2.1 (j_rdX f len M p wr n).2.2 3 M (256 * M - 1)).2)
theorem m7_6 (l : Launch) : M7_6 l 0 0 (fun a b e la S V => j_L S ∧ S.1 b = 22 ∧ S.1 e = 21 ∧ j_blkOK V b ∧ 0 ≤ la ∧ la ≤ 4 ∧ 8 ≤ V (e + 1) 2 ∧ V (e + 1) 2 ≤ 12 ∧ (V a 1 < 0 → 0 ≤ V a 0 ∧ V a 0 ≤ V b 1))
    (fun a b e la S V S' V' => S' = S ∧ (V' a 0, V' a 1) = (j_rdX (V (b + 1)) (V b 1) (j_M (V (e + 1) 2)) (V a 0) (V a 1) la.toNat).2 ∧ (∀ x : Int, 0 ≤ x → x < la → V' (e + 20) x = (j_rdX (V (b + 1)) (V b 1) (j_M (V (e + 1) 2)) (V a 0) (V a 1) la.toNat).1 x) ∧ ∀ c : Int, c ≠ a → c ≠ e + 20 → V' c = V c) := by
  refine e7_6 ?_
  rintro C G h hrm hcs hl hn a b e la S V ha ⟨L, hb, he, hk, l0, l1, r0, r1, hp⟩ R
  have hM := j_M_bd r0 r1
  have k20 : S.1 (e + 20) = 4 := L0_3k L he
  have nb : b ≠ a ∧ b ≠ e + 20 := ⟨fun z => by rw [z, ha] at hb; exact absurd hb (by decide), fun z => by rw [z, k20] at hb; exact absurd hb (by decide)⟩
  have nb1 : b + 1 ≠ a ∧ b + 1 ≠ e + 20 := ⟨fun z => by have := L1_0k L hb; rw [z, ha] at this; exact absurd this (by decide), fun z => by have := L1_0k L hb; rw [z, k20] at this; exact absurd this (by decide)⟩
  have na : a ≠ e + 20 := fun z => by rw [← z, ha] at k20; exact absurd k20 (by decide)
  refine t7_6_0 h L hrm he (m10_4 C.2.1) ⟨r0, r1⟩ (Nat.zero_le _) (Nat.zero_le _) ?_
  rintro r S1 V1 ⟨rfl, rfl, er⟩
  rw [er]
  generalize j_M (V1 (e + 1) 2) = M at *
  refine t7_6_7 h ?_
  have loop : ∀ (i : Int) (V2 : jH), (0 ≤ i ∧ i ≤ la ∧ (V2 a 0, V2 a 1) = (j_rdX (V1 (b + 1)) (V1 b 1) M (V1 a 0) (V1 a 1) i.toNat).2 ∧ (V2 a 1 < 0 → 0 ≤ V2 a 0 ∧ V2 a 0 ≤ V1 b 1) ∧ (∀ x : Int, 0 ≤ x → x < i → V2 (e + 20) x = (j_rdX (V1 (b + 1)) (V1 b 1) M (V1 a 0) (V1 a 1) i.toNat).1 x) ∧ ∀ c : Int, c ≠ a → c ≠ e + 20 → V2 c = V1 c) →
      j_ok n_KT 6 C G 12 [(0, (2, a)), (1, (2, b)), (2, (2, e)), (3, (0, la)), (4, (0, M)), (5, (0, i))] [] S1 V2 0 0 := by
    refine j_loop (N := la) (fun i V2 hi hI kk => ?_) (fun i V2 hi hI => ?_)
    · obtain ⟨g0, g1, g2, g3, g4, g5⟩ := hI
      have eb : V2 b = V1 b := g5 b nb.1 nb.2
      have eb1 : V2 (b + 1) = V1 (b + 1) := g5 _ nb1.1 nb1.2
      refine t7_6_12 h (fun q => absurd q (by omega)) (fun _ => ?_)
      refine t7_6_18 h L hrm he (by omega) (by omega) ha (m7_3 C.2.1) ⟨L, hb, ⟨by rw [eb]; exact hk.1, by rw [eb]; exact hk.2.1, by rw [eb, eb1]; exact hk.2.2⟩, by omega, by omega, fun q => by rw [eb]; exact g3 q⟩ (Nat.zero_le _) (Nat.zero_le _) ?_
      rintro r2 S2 V3 ⟨e0, x1, x2⟩
      subst e0
      rw [eb, eb1] at x1
      have pl := j_rd_pl (f := V1 (b + 1)) (len := V1 b 1) (p := V2 a 0) (wr := V2 a 1) (size := 3) (least := M) (most := 256 * M - 1) (by omega) hk.1 g3
      rw [← x1] at pl
      have eX : j_rdX (V1 (b + 1)) (V1 b 1) M (V1 a 0) (V1 a 1) (i + 1).toNat = (j_u (j_rdX (V1 (b + 1)) (V1 b 1) M (V1 a 0) (V1 a 1) i.toNat).1 i r2, V3 a 0, V3 a 1) := by
        rw [show (i + 1).toNat = i.toNat + 1 by omega, j_rdX, ← g2]
        show (j_u _ ((i.toNat : Nat) : Int) (j_rd (V1 (b + 1)) (V1 b 1) (V2 a 0) (V2 a 1) 3 M (256 * M - 1)).1, (j_rd (V1 (b + 1)) (V1 b 1) (V2 a 0) (V2 a 1) 3 M (256 * M - 1)).2) = _
        rw [← x1, show ((i.toNat : Nat) : Int) = i by omega]
      refine t7_6_40 h (show j_arr _ (e + 20) 4 from j_arr_of k20 (by decide) rfl) g0 (by omega) (by omega) (kk _ ⟨by omega, by omega, ?_, ?_, fun x x0 xx => ?_, fun c c0 c1 => ?_⟩)
      · rw [eX, j_up_ne na]
      · rw [j_up_ne na]; exact pl
      · rw [eX]
        show j_up V3 (e + 20) i r2 (e + 20) x = j_u (j_rdX (V1 (b + 1)) (V1 b 1) M (V1 a 0) (V1 a 1) i.toNat).1 i r2 x
        by_cases w : x = i
        · rw [w, j_up_at, j_u_at]
        · rw [j_up_off w, j_u_ne w, x2 _ (fun z => na z.symm)]
          exact g4 x x0 (by omega)
      · rw [j_up_ne c1, x2 c c0]; exact g5 c c0 c1
    · obtain ⟨g0, g1, g2, g3, g4, g5⟩ := hI
      have ei : i = la := by omega
      subst ei
      exact t7_6_12 h (fun _ => t7_6_47 h R ⟨rfl, g2, g4, g5⟩ (Nat.le_refl _) (Nat.le_refl _)) (fun q => absurd q (by omega))
  exact loop 0 V1 ⟨by omega, l0, rfl, hp, fun x x0 x1 => absurd x1 (by omega), fun c _ _ => rfl⟩
