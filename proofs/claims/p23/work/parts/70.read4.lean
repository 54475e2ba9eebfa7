/-! THE CLASS: the reader, all deals of a table -/
theorem j_rdD_pl {f : Int → Int} {len p wr M : Int} (hl : 0 ≤ len) (hf : ∀ i : Int, 0 ≤ i → i < len → 0 ≤ f i ∧ f i ≤ 255) (hp : wr < 0 → 0 ≤ p ∧ p ≤ len) (hM0 : 0 ≤ M) (hM : M ≤ 4096) : (j_rdD f len p wr M).2.1 < 0 → 0 ≤ (j_rdD f len p wr M).1 ∧ (j_rdD f len p wr M).1 ≤ len := by
  intro hw
  have pl := j_rd_pl (f := f) (len := len) (p := p) (wr := wr) (size := 2) (least := 1) (most := 256) (by omega) hl hp
  have := (j_rdL_inv (f := f) (len := len) (w := (j_rd f len p wr 2 1 256).1) (p := (j_rd f len p wr 2 1 256).2.1) (wr := (j_rd f len p wr 2 1 256).2.2) (M := M) hl hf pl hM0 hM (j_rd f len p wr 2 1 256).1.toNat).1 hw
  exact ⟨this.1, this.2.1⟩
/-- the deals of so many parts are read: place, wrong, begins -/
def j_rdP (f : Int → Int) (len p wr M : Int) : Nat → Int × Int × (Int → Int → Int)
  | 0 => (p, wr, fun _ _ => 0)
  | n + 1 => if 0 ≤ (j_rdP f len p wr M n).2.1 then j_rdP f len p wr M n else
    ((j_rdD f len (j_rdP f len p wr M n).1 (j_rdP f len p wr M n).2.1 M).1, (j_rdD f len (j_rdP f len p wr M n).1 (j_rdP f len p wr M n).2.1 M).2.1, fun k => if k = n then fun j => j_pre (j_rdD f len (j_rdP f len p wr M n).1 (j_rdP f len p wr M n).2.1 M).2.2.2.2 (j + 1) else (j_rdP f len p wr M n).2.2 k)
theorem j_rdP_stay {f : Int → Int} {len p wr M : Int} {n : Nat} (h : 0 ≤ (j_rdP f len p wr M n).2.1) : ∀ k : Nat, j_rdP f len p wr M (n + k) = j_rdP f len p wr M n
  | 0 => rfl
  | k + 1 => by
    have ih := j_rdP_stay h k
    show j_rdP f len p wr M ((n + k) + 1) = _
    rw [j_rdP, ih, if_pos h]
theorem j_rdP_zero {f : Int → Int} {len p wr M : Int} : ∀ (n : Nat) (k : Int), (n : Int) ≤ k → (j_rdP f len p wr M n).2.2 k = fun _ => 0
  | 0, _, _ => rfl
  | n + 1, k, hk => by
    have ih := j_rdP_zero (f := f) (len := len) (p := p) (wr := wr) (M := M) n k (by omega)
    rw [j_rdP]
    split
    · exact ih
    · show (if k = n then _ else (j_rdP f len p wr M n).2.2 k) = _
      rw [if_neg (by omega)]
      exact ih
theorem m7_4 (l : Launch) : M7_4 l 0 0 (fun a b t S V => j_L S ∧ S.1 b = 22 ∧ S.1 t = 29 ∧ j_blkOK V b ∧ 8 ≤ V t 2 ∧ V t 2 ≤ 12 ∧ (V a 1 < 0 → 0 ≤ V a 0 ∧ V a 0 ≤ V b 1) ∧ ∀ p j : Int, 0 ≤ p → p < 4 → 0 ≤ j → j ≤ 256 → V (t + 3 + 2 * p) j = 0)
    (fun a b t S V S' V' => S' = S ∧ V' a 0 = (j_rdP (V (b + 1)) (V b 1) (V a 0) (V a 1) (j_M (V t 2)) (j_parts (V t 1)).toNat).1 ∧ V' a 1 = (j_rdP (V (b + 1)) (V b 1) (V a 0) (V a 1) (j_M (V t 2)) (j_parts (V t 1)).toNat).2.1 ∧ (∀ p j : Int, 0 ≤ p → p < 4 → 0 ≤ j → j ≤ 256 → V' (t + 3 + 2 * p) j = (j_rdP (V (b + 1)) (V b 1) (V a 0) (V a 1) (j_M (V t 2)) (j_parts (V t 1)).toNat).2.2 p j) ∧ ∀ c : Int, c ≠ a → (∀ p : Int, 0 ≤ p → p < 4 → c ≠ t + 3 + 2 * p) → V' c = V c) := by
  refine e7_4 ?_
  rintro C G h hrm hcs hl hn a b t S V ha ⟨L, hb, ht, hk, r0, r1, hp, hz⟩ R
  have hM := j_M_bd r0 r1
  have hpp : 1 ≤ j_parts (V t 1) ∧ j_parts (V t 1) ≤ 4 := by unfold j_parts; split <;> omega
  have hd : ∀ p : Int, 0 ≤ p → p < 4 → S.1 (t + 2 + 2 * p) = 23 := fun p p0 p1 => by
    have := LDealAk L (i := p) (L8_0k L ht) p0 p1
    rw [show t + 2 + 2 * p = t + 1 + 1 + 2 * p by omega]
    exact this
  have kd : ∀ p : Int, 0 ≤ p → p < 4 → S.1 (t + 3 + 2 * p) = 2 := fun p p0 p1 => by
    have := L2_0k L (hd p p0 p1)
    rw [show t + 2 + 2 * p + 1 = t + 3 + 2 * p by omega] at this
    exact this
  have nk : ∀ {c : Int} {k : Nat}, S.1 c = k → k ≠ 2 → ∀ p : Int, 0 ≤ p → p < 4 → c ≠ t + 3 + 2 * p := fun {c k} hc h2 p p0 p1 z => h2 (by rw [← hc, z, kd p p0 p1])
  have nb : b ≠ a := fun z => by rw [z, ha] at hb; exact absurd hb (by decide)
  have nb1 : b + 1 ≠ a := fun z => by have := L1_0k L hb; rw [z, ha] at this; exact absurd this (by decide)
  have nt : t ≠ a := fun z => by rw [z, ha] at ht; exact absurd ht (by decide)
  generalize eM : j_M (V t 2) = M at *
  refine t7_4_0 h ?_
  have loop : ∀ (i : Int) (V2 : jH), (0 ≤ i ∧ i ≤ j_parts (V t 1) ∧ V2 a 0 = (j_rdP (V (b + 1)) (V b 1) (V a 0) (V a 1) M i.toNat).1 ∧ V2 a 1 = (j_rdP (V (b + 1)) (V b 1) (V a 0) (V a 1) M i.toNat).2.1 ∧ (V2 a 1 < 0 → 0 ≤ V2 a 0 ∧ V2 a 0 ≤ V b 1) ∧ (∀ p j : Int, 0 ≤ p → p < 4 → 0 ≤ j → j ≤ 256 → V2 (t + 3 + 2 * p) j = (j_rdP (V (b + 1)) (V b 1) (V a 0) (V a 1) M i.toNat).2.2 p j) ∧ ∀ c : Int, c ≠ a → (∀ p : Int, 0 ≤ p → p < 4 → c ≠ t + 3 + 2 * p) → V2 c = V c) →
      j_ok n_KT 4 C G 2 [(0, (2, a)), (1, (2, b)), (2, (2, t)), (3, (0, i))] [] S V2 0 0 := by
    refine j_loop (N := j_parts (V t 1)) (fun i V2 hi hI kk => ?_) (fun i V2 hi hI => ?_)
    · obtain ⟨g0, g1, g2, g3, g4, g5, g6⟩ := hI
      have et : V2 t = V t := g6 t nt (nk ht (by decide))
      have eb : V2 b = V b := g6 b nb (nk hb (by decide))
      have eb1 : V2 (b + 1) = V (b + 1) := g6 _ nb1 (nk (L1_0k L hb) (by decide))
      refine t7_4_2 h hrm ht (m10_5 C.2.1) trivial (Nat.zero_le _) (Nat.zero_le _) ?_
      rintro r S2 V3 ⟨e0, e1, er⟩
      subst e0
      subst e1
      rw [et] at er
      refine t7_4_7 h (fun q => absurd q (by omega)) (fun _ => ?_)
      refine t7_4_10 h ha (fun q => ?_) (fun q => ?_)
      · have st : j_rdP (V (b + 1)) (V b 1) (V a 0) (V a 1) M (j_parts (V t 1)).toNat = j_rdP (V (b + 1)) (V b 1) (V a 0) (V a 1) M i.toNat := by
          rw [show (j_parts (V t 1)).toNat = i.toNat + ((j_parts (V t 1)).toNat - i.toNat) by omega]
          exact j_rdP_stay (by rw [← g3]; exact q) _
        rw [st] at R
        exact t7_4_38 h R ⟨rfl, g2, g3, g5, g6⟩ (Nat.le_refl _) (Nat.le_refl _)
      · refine t7_4_17 h L hrm ht g0 (by omega) (m10_4 C.2.1) ⟨by rw [et]; exact r0, by rw [et]; exact r1⟩ (Nat.zero_le _) (Nat.zero_le _) ?_
        rintro r2 S3 V4 ⟨e0, e1, er2⟩
        subst e0
        subst e1
        rw [et, eM] at er2
        subst er2
        have zz : ∀ j : Int, 0 ≤ j → j ≤ 256 → V4 (t + 2 + 2 * i + 1) j = 0 := fun j j0 j1 => by
          rw [show t + 2 + 2 * i + 1 = t + 3 + 2 * i by omega, g5 i j g0 (by omega) j0 j1, j_rdP_zero i.toNat i (by omega)]
        refine t7_4_29 h hrm ha (m7_5 C.2.1) ⟨L, hb, hd i g0 (by omega), ⟨by rw [eb]; exact hk.1, by rw [eb]; exact hk.2.1, by rw [eb, eb1]; exact hk.2.2⟩, by omega, by omega, fun q => by rw [eb]; exact g4 q, zz⟩ (Nat.zero_le _) (Nat.zero_le _) ?_
        rintro S4 V5 ⟨e0, x0, x1, x2, x3⟩
        subst e0
        rw [show t + 2 + 2 * i + 1 = t + 3 + 2 * i by omega] at x2 x3
        rw [eb, eb1] at x0 x1 x2
        have pl := j_rdD_pl (f := V (b + 1)) (len := V b 1) (p := V4 a 0) (wr := V4 a 1) (M := r2) hk.1 hk.2.2 g4 (by omega) (by omega)
        rw [← x0, ← x1] at pl
        have eP : j_rdP (V (b + 1)) (V b 1) (V a 0) (V a 1) r2 (i + 1).toNat = (V5 a 0, V5 a 1, fun k => if k = i then fun j => j_pre (j_rdD (V (b + 1)) (V b 1) (V4 a 0) (V4 a 1) r2).2.2.2.2 (j + 1) else (j_rdP (V (b + 1)) (V b 1) (V a 0) (V a 1) r2 i.toNat).2.2 k) := by
          rw [show (i + 1).toNat = i.toNat + 1 by omega, j_rdP, ← g2, ← g3, if_neg (by omega), ← x0, ← x1, show ((i.toNat : Nat) : Int) = i by omega]
        refine t7_4_32 h (by omega) (kk _ ⟨by omega, by omega, by rw [eP], by rw [eP], pl, fun p j p0 p1 j0 j1 => ?_, fun c c0 c1 => ?_⟩)
        · rw [eP]
          show V5 (t + 3 + 2 * p) j = (if p = i then fun j => j_pre (j_rdD (V (b + 1)) (V b 1) (V4 a 0) (V4 a 1) r2).2.2.2.2 (j + 1) else (j_rdP (V (b + 1)) (V b 1) (V a 0) (V a 1) r2 i.toNat).2.2 p) j
          by_cases w : p = i
          · rw [if_pos w, w]; exact x2 j j0 j1
          · rw [if_neg w, x3 _ (fun z => by have := kd p p0 p1; rw [z, ha] at this; exact absurd this (by decide)) (by omega)]
            exact g5 p j p0 p1 j0 j1
        · rw [x3 c c0 (c1 i g0 (by omega))]; exact g6 c c0 c1
    · obtain ⟨g0, g1, g2, g3, g4, g5, g6⟩ := hI
      have et : V2 t = V t := g6 t nt (nk ht (by decide))
      refine t7_4_2 h hrm ht (m10_5 C.2.1) trivial (Nat.zero_le _) (Nat.zero_le _) ?_
      rintro r S2 V3 ⟨e0, e1, er⟩
      subst e0
      subst e1
      rw [et] at er
      have ei : i = j_parts (V t 1) := by omega
      rw [ei] at g2 g3 g5
      exact t7_4_7 h (fun _ => t7_4_38 h R ⟨rfl, g2, g3, g5, g6⟩ (Nat.le_refl _) (Nat.le_refl _)) (fun q => absurd q (by omega))
  exact loop 0 V ⟨by omega, by omega, rfl, rfl, hp, hz, fun c _ _ => rfl⟩
