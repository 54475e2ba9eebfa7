/-! THE CLASS: the reader -/
def j_val (f : Int → Int) (p : Int) : Nat → Int
  | 0 => 0
  | n + 1 => 256 * j_val f p n + f (p + n)
theorem j_val_bd {f : Int → Int} {p : Int} : ∀ n : Nat, (∀ i : Int, p ≤ i → i < p + n → 0 ≤ f i ∧ f i ≤ 255) → 0 ≤ j_val f p n ∧ j_val f p n < 256 ^ n
  | 0, _ => ⟨Int.le_refl 0, by show (0 : Int) < 256 ^ 0; decide⟩
  | n + 1, h => by
    obtain ⟨a, b⟩ := j_val_bd n (fun i i0 i1 => h i i0 (by omega))
    have c := h (p + n) (by omega) (by omega)
    have e : (256 : Int) ^ (n + 1) = 256 ^ n * 256 := Int.pow_succ 256 n
    rw [e]
    show 0 ≤ 256 * j_val f p n + f (p + n) ∧ 256 * j_val f p n + f (p + n) < _
    generalize (256 : Int) ^ n = z at *
    omega
/-- one number is read: it, and the place and the wrong place behind it -/
def j_rd (f : Int → Int) (len p wr size least most : Int) : Int × Int × Int :=
  if 0 ≤ wr then (least, p, wr) else if len - p < size then (least, p, len) else
  if j_val f p size.toNat < least ∨ most < j_val f p size.toNat then (least, p, p) else (j_val f p size.toNat, p + size, wr)
/-- bytes of a block -/
def j_blkOK (V : jH) (b : Int) : Prop := 0 ≤ V b 1 ∧ V b 1 ≤ 4400 ∧ ∀ i : Int, 0 ≤ i → i < V b 1 → 0 ≤ V (b + 1) i ∧ V (b + 1) i ≤ 255
theorem m7_3 (l : Launch) : M7_3 l 0 0 (fun a b size least most S V => j_L S ∧ S.1 b = 22 ∧ j_blkOK V b ∧ 1 ≤ size ∧ size ≤ 3 ∧ (V a 1 < 0 → 0 ≤ V a 0 ∧ V a 0 ≤ V b 1))
    (fun a b size least most S V r S' V' => S' = S ∧ (r, V' a 0, V' a 1) = j_rd (V (b + 1)) (V b 1) (V a 0) (V a 1) size least most ∧ ∀ c : Int, c ≠ a → V' c = V c) := by
  refine e7_3 ?_
  rintro C G h hrm hcs hl hn a b size least most S V ha ⟨L, hb, ⟨b0, b1, b2⟩, s0, s1, hp⟩ R
  refine t7_3_0 h ha (fun q => ?_) (fun q => ?_)
  · have hp := hp q
    have e1 : j_rd (V (b + 1)) (V b 1) (V a 0) (V a 1) size least most = if V b 1 - V a 0 < size then (least, V a 0, V b 1) else if j_val (V (b + 1)) (V a 0) size.toNat < least ∨ most < j_val (V (b + 1)) (V a 0) size.toNat then (least, V a 0, V a 0) else (j_val (V (b + 1)) (V a 0) size.toNat, V a 0 + size, V a 1) := by
      unfold j_rd; rw [if_neg (by omega)]
    rw [e1] at R
    refine t7_3_9 h hb ha (by omega) (fun q2 => ?_) (fun q2 => ?_)
    · rw [if_neg (by omega)] at R
      have bd : ∀ n : Nat, (n : Int) ≤ size → 0 ≤ j_val (V (b + 1)) (V a 0) n ∧ j_val (V (b + 1)) (V a 0) n < 256 ^ n := fun n hn => j_val_bd n (fun i i0 i1 => b2 i (by omega) (by omega))
      refine t7_3_32 h ?_
      have loop : ∀ (i : Int) (z : Int), (0 ≤ i ∧ i ≤ size ∧ z = j_val (V (b + 1)) (V a 0) i.toNat) → j_ok n_KT 7 C G 38 [(0, (2, a)), (1, (2, b)), (2, (0, size)), (3, (0, least)), (4, (0, most)), (5, (0, z)), (6, (0, i))] [] S V 0 0 := by
        refine j_loop (N := size) (fun i z hi hI kk => ?_) (fun i z hi hI => ?_)
        · obtain ⟨g0, g1, e⟩ := hI
          have bz := bd i.toNat (by omega)
          have bz2 : z < 65536 := by
            have : i.toNat = 0 ∨ i.toNat = 1 ∨ i.toNat = 2 := by omega
            rcases this with w | w | w <;> rw [w] at bz <;> rw [e, w] <;> (have := bz.2; omega)
          have bb := b2 (V a 0 + i) (by omega) (by omega)
          refine t7_3_38 h (fun q => absurd q (by omega)) (fun _ => ?_)
          refine t7_3_44 h L (by omega) (by omega) hb ha (by omega) (by omega) (by omega) (by omega) (by omega) bb.1 (by omega) (by omega) (by omega) (kk _ ⟨by omega, by omega, ?_⟩)
          rw [show (i + 1).toNat = i.toNat + 1 by omega, j_val, show ((i.toNat : Nat) : Int) = i by omega, e]
        · obtain ⟨g0, g1, e⟩ := hI
          have ei : i = size := by omega
          rw [ei] at e
          refine t7_3_38 h (fun _ => ?_) (fun q => absurd q (by omega))
          refine t7_3_70 h (fun q3 => ?_) (fun q3 => ?_)
          · rw [if_pos (Or.inl (by omega))] at R
            refine t7_3_83 h ha R ⟨rfl, ?_, fun c hc => j_up_ne hc⟩ (Nat.le_refl _) (Nat.le_refl _)
            rw [j_up_at, j_up_off (by decide)]
          · refine t7_3_76 h (fun q4 => ?_) (fun q4 => ?_)
            · rw [if_neg (by rintro (z | z) <;> omega)] at R
              refine t7_3_93 h ha (by omega) R ⟨rfl, ?_, fun c hc => j_up_ne hc⟩ (Nat.le_refl _) (Nat.le_refl _)
              rw [j_up_at, j_up_off (by decide), e]
            · rw [if_pos (Or.inr (by omega))] at R
              refine t7_3_83 h ha R ⟨rfl, ?_, fun c hc => j_up_ne hc⟩ (Nat.le_refl _) (Nat.le_refl _)
              rw [j_up_at, j_up_off (by decide)]
      exact loop 0 0 ⟨by omega, by omega, rfl⟩
    · rw [if_pos q2] at R
      refine t7_3_22 h hb ha R ⟨rfl, ?_, fun c hc => j_up_ne hc⟩ (Nat.le_refl _) (Nat.le_refl _)
      rw [j_up_at, j_up_off (by decide)]
  · have e1 : j_rd (V (b + 1)) (V b 1) (V a 0) (V a 1) size least most = (least, V a 0, V a 1) := by unfold j_rd; rw [if_pos q]
    rw [e1] at R
    exact t7_3_7 h R ⟨rfl, rfl, fun c _ => rfl⟩ (Nat.le_refl _) (Nat.le_refl _)
