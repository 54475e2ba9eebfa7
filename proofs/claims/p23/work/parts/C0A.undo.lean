/-! TAKING UNDOES PACKING -/
theorem j_pb_old {g : Int → Int} {u x f j : Int} (h : j < u) : j_pb g u x f j = g j := by
  unfold j_pb
  split
  · rfl
  · split
    · rw [j_u_ne (by omega)]
    · rw [j_u_ne (by omega), j_u_ne (by omega)]
theorem j_pX_old {M la n : Int} {f b : Int → Int} {k : Nat} : ∀ (d : Nat) (j : Int), j < (j_pX M la n f b k).2.1 → (j_pX M la n f b (k + d)).2.2 j = (j_pX M la n f b k).2.2 j ∧ (j_pX M la n f b k).2.1 ≤ (j_pX M la n f b (k + d)).2.1
  | 0, j, _ => ⟨rfl, Int.le_refl _⟩
  | d + 1, j, hj => by
    have ih := j_pX_old (M := M) (la := la) (n := n) (f := f) (b := b) (k := k) d j hj
    have sc := j_sc_bd ((j_pX M la n f b (k + d)).1 ((n - 1 - (k + d : Nat)) % la)) (f (n - 1 - (k + d : Nat)))
    rw [← Nat.add_assoc, j_pX]
    refine ⟨?_, by show _ ≤ (j_pX M la n f b (k + d)).2.1 + _; omega⟩
    show j_pb _ _ _ _ j = _
    rw [j_pb_old (by omega)]
    exact ih.1
theorem j_u_self (X : Int → Int) (l : Int) : j_u X l (X l) = X := by
  funext j
  by_cases e : j = l
  · rw [e, j_u_at]
  · rw [j_u_ne e]
theorem j_u_u (X : Int → Int) (l x y : Int) : j_u (j_u X l x) l y = j_u X l y := by
  funext j
  by_cases e : j = l
  · rw [e, j_u_at, j_u_at]
  · rw [j_u_ne e, j_u_ne e, j_u_ne e]
/-- one state back, and its bytes -/
theorem j_refl_back {F g : Int → Int} {len st M f x u : Int} (hM : 256 ≤ M) (h0 : M ≤ x) (h1 : x < 256 * M) (u0 : 0 ≤ u) (hl : st + (u + j_sc x f) ≤ len) (hF : ∀ j : Int, 0 ≤ j → j < u + j_sc x f → F (st + j) = j_pb g u x f j) : j_refl F len st M 2 (j_y x f) (u + j_sc x f) = some (x, u) := by
  unfold j_y
  unfold j_sc at hl hF ⊢
  unfold j_pb at hF
  by_cases c1 : x < 256 * f
  · rw [if_pos c1, if_pos c1]
    unfold j_refl
    rw [if_pos h0, show u + 0 = u by omega]
  · rw [if_neg c1] at hl hF ⊢
    rw [if_neg c1]
    by_cases c2 : x / 256 < 256 * f
    · rw [if_pos c2] at hl hF ⊢
      rw [if_pos c2]
      have b := hF u u0 (by omega)
      rw [if_neg c1, if_pos c2, j_u_at] at b
      unfold j_refl
      rw [if_neg (by omega), if_neg (by omega), show st + (u + 1) - 1 = st + u by omega, b, show 256 * (x / 256) + x % 256 = x by omega, show u + 1 - 1 = u by omega]
      unfold j_refl
      rw [if_pos h0]
    · rw [if_neg c2] at hl hF ⊢
      rw [if_neg c2]
      have b1 := hF (u + 1) (by omega) (by omega)
      rw [if_neg c1, if_neg c2, j_u_at] at b1
      have b0 := hF u u0 (by omega)
      rw [if_neg c1, if_neg c2, j_u_ne (by omega), j_u_at] at b0
      unfold j_refl
      rw [if_neg (by omega), if_neg (by omega), show st + (u + 2) - 1 = st + (u + 1) by omega, b1, show 256 * (x / 256 / 256) + x / 256 % 256 = x / 256 by omega, show u + 2 - 1 = u + 1 by omega]
      unfold j_refl
      rw [if_neg (by omega), if_neg (by omega), show st + (u + 1) - 1 = st + u by omega, b0, show 256 * (x / 256) + x % 256 = x by omega, show u + 1 - 1 = u by omega]
      rfl
/-- the first i signs of a row, nothing behind them -/
def j_cut (w : Int → Int) (i : Int) : Int → Int := fun j => if 0 ≤ j ∧ j < i then w j else 0
theorem j_cut_s (w : Int → Int) {i : Int} (i0 : 0 ≤ i) : j_u (j_cut w i) i (w i) = j_cut w (i + 1) := by
  funext j
  by_cases e : j = i
  · rw [e, j_u_at]; unfold j_cut; rw [if_pos (by omega)]
  · rw [j_u_ne e]; unfold j_cut
    by_cases c : 0 ≤ j ∧ j < i
    · rw [if_pos c, if_pos (by omega)]
    · rw [if_neg c, if_neg (by omega)]
theorem j_undo {F : Int → Int} {len st k r la n : Int} {B : Int → Int → Int} {w : Int → Int} (r0 : 8 ≤ r) (r1 : r ≤ 12) (n0 : 0 ≤ n) (l0 : 1 ≤ la) (hB : ∀ p : Int, 0 ≤ p → p < j_parts k → j_dl (B p) 0 (j_M r)) (hw : ∀ i : Int, 0 ≤ i → i < n → 0 ≤ w i ∧ w i < 256) (hf : ∀ i : Int, 0 ≤ i → i < n → j_rf k r B w i ≠ 0)
    (hF : ∀ j : Int, 0 ≤ j → j < (j_rX k r la B w n).2.1 → F (st + j) = (j_rX k r la B w n).2.2 j) (hl : st + (j_rX k r la B w n).2.1 ≤ len) : ∀ i : Nat, i ≤ n → j_tk F len st (j_M r) la k r B (j_rX k r la B w n).1 (j_rX k r la B w n).2.1 i = some ((j_pX (j_M r) la n (j_rf k r B w) (j_rb k r B w) (n.toNat - i)).1, (j_pX (j_M r) la n (j_rf k r B w) (j_rb k r B w) (n.toNat - i)).2.1, j_cut w i)
  | 0, _ => by
    show some (_, _, fun _ => (0 : Int)) = _
    have : (fun _ => (0 : Int)) = j_cut w ((0 : Nat) : Int) := by
      funext j; unfold j_cut; rw [if_neg (by omega)]
    rw [this]
    rfl
  | i + 1, hi => by
    have hm := j_M_bd r0 r1
    have ih := j_undo (F := F) (len := len) (st := st) r0 r1 n0 l0 hB hw hf hF hl i (by omega)
    show (j_tk _ _ _ _ _ _ _ _ _ _ i).bind _ = _
    rw [ih]
    show j_tk1 _ _ _ _ _ _ _ _ _ _ = _
    have hfb : ∀ i : Int, 0 ≤ i → i < n → 1 ≤ j_rf k r B w i ∧ 0 ≤ j_rb k r B w i ∧ j_rb k r B w i + j_rf k r B w i ≤ j_M r := fun i i0 i1 => by
      have d := j_D_dl (B := B) (k := k) (w := w) r0 r1 hB hw i0 (show i ≤ n by omega)
      have s := hw i i0 i1
      have nz := hf i i0 i1
      have s1 := d.2.2 _ s.1 s.2
      have b1 := j_dl_bd d (Int.le_refl _) _ s.1 (show w i ≤ 256 by omega)
      have b2 := j_dl_bd d (Int.le_refl _) (w i + 1) (by omega) (by omega)
      unfold j_rf at nz ⊢
      unfold j_rb
      have e : j_sh (j_D k r B w i) (w i) = j_D k r B w i (w i + 1) - j_D k r B w i (w i) := rfl
      omega
    have en : n.toNat - i = (n.toNat - (i + 1)) + 1 := by omega
    have ei : n - 1 - ((n.toNat - (i + 1) : Nat) : Int) = i := by omega
    -- the state that this sign left
    have bd := j_pX_bd (la := la) hm.1 hm.2 hfb (n.toNat - (i + 1)) (by omega)
    have old := j_pX_old (M := j_M r) (la := la) (n := n) (f := j_rf k r B w) (b := j_rb k r B w) (k := n.toNat - i) i
    rw [show n.toNat - i + i = n.toNat by omega] at old
    rw [en] at old ⊢
    rw [j_pX] at old ⊢
    rw [ei] at old ⊢
    generalize eQ : j_pX (j_M r) la n (j_rf k r B w) (j_rb k r B w) (n.toNat - (i + 1)) = Q at *
    obtain ⟨X, u, g⟩ := Q
    dsimp only at bd old ⊢
    have i0 : (0 : Int) ≤ i := (by omega)
    have i1 : (i : Int) < n := by omega
    obtain ⟨f1, b0, bf⟩ := hfb i i0 i1
    obtain ⟨x0, x1⟩ := bd.1 ((i : Int) % la)
    have sc := j_sc_bd (X ((i : Int) % la)) (j_rf k r B w i)
    have eD : j_D k r B (j_cut w i) i = j_D k r B w i := j_D_congr i0 (fun y y0 y1 => by unfold j_cut; rw [if_pos ⟨y0, y1⟩])
    unfold j_tk1
    dsimp only
    rw [eD, j_u_at]
    have yb := j_y_bd (x := X ((i : Int) % la)) (f := j_rf k r B w i) (by omega) (by omega) f1
    have m0 : 0 ≤ j_y (X ((i : Int) % la)) (j_rf k r B w i) % j_rf k r B w i := Int.emod_nonneg _ (by omega)
    have m1 : j_y (X ((i : Int) % la)) (j_rf k r B w i) % j_rf k r B w i < j_rf k r B w i := Int.emod_lt_of_pos _ (by omega)
    have dm := Int.mul_ediv_add_emod (j_y (X ((i : Int) % la)) (j_rf k r B w i)) (j_rf k r B w i)
    have e1 : j_pk (j_M r) (j_rf k r B w i) (j_rb k r B w i) (X ((i : Int) % la)) % j_M r = j_rb k r B w i + j_y (X ((i : Int) % la)) (j_rf k r B w i) % j_rf k r B w i := by
      unfold j_pk
      rw [Int.add_assoc, Int.mul_add_emod_self_left, Int.emod_eq_of_lt (by omega) (by omega)]
    have e2 : j_pk (j_M r) (j_rf k r B w i) (j_rb k r B w i) (X ((i : Int) % la)) / j_M r = j_y (X ((i : Int) % la)) (j_rf k r B w i) / j_rf k r B w i := by
      unfold j_pk
      rw [Int.add_assoc, Int.add_comm, Int.add_mul_ediv_left _ _ (by omega), Int.ediv_eq_zero_of_lt (by omega) (by omega)]
      omega
    have d := j_D_dl (B := B) (k := k) (w := w) r0 r1 hB hw i0 (show (i : Int) ≤ n by omega)
    have sw := hw i i0 i1
    have esg : j_sg (j_D k r B w i) (j_rb k r B w i + j_y (X ((i : Int) % la)) (j_rf k r B w i) % j_rf k r B w i) = w i := by
      refine j_sgN_eq d sw.1 ?_ ?_ 256 (by omega) (by omega)
      · unfold j_rb; omega
      · have ef : j_rf k r B w i = j_D k r B w i (w i + 1) - j_D k r B w i (w i) := rfl
        have eb : j_rb k r B w i = j_D k r B w i (w i) := rfl
        omega
    rw [e1, esg, e2]
    have ef : j_sh (j_D k r B w i) (w i) = j_rf k r B w i := rfl
    have eb : j_D k r B w i (w i) = j_rb k r B w i := rfl
    rw [ef, eb, show j_rf k r B w i * (j_y (X ((i : Int) % la)) (j_rf k r B w i) / j_rf k r B w i) + (j_rb k r B w i + j_y (X ((i : Int) % la)) (j_rf k r B w i) % j_rf k r B w i) - j_rb k r B w i = j_y (X ((i : Int) % la)) (j_rf k r B w i) by omega]
    have up : u + j_sc (X ((i : Int) % la)) (j_rf k r B w i) ≤ (j_rX k r la B w n).2.1 := by
      by_cases z : 0 < u + j_sc (X ((i : Int) % la)) (j_rf k r B w i)
      · exact (old 0 z).2
      · have bb := (j_pX_bd (la := la) hm.1 hm.2 hfb n.toNat (by omega)).2.1
        have bb : 0 ≤ (j_rX k r la B w n).2.1 := bb
        omega
    rw [j_refl_back (g := g) hm.1 x0 x1 bd.2.1 (by omega) (fun j j0 j1 => by
      rw [hF j j0 (by omega)]
      exact (old j j1).1)]
    show some (j_u (j_u X ((i : Int) % la) _) ((i : Int) % la) (X ((i : Int) % la)), u, j_u (j_cut w i) i (w i)) = _
    rw [j_u_u, j_u_self, j_cut_s w i0, show ((i + 1 : Nat) : Int) = (i : Int) + 1 by omega]
