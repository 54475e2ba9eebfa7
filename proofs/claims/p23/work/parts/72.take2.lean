/-! THE CLASS: all signs are taken -/
theorem j_G_congr {r : Int} {w w' : Int → Int} : ∀ n : Nat, (∀ y : Int, 0 ≤ y → y < n → w' y = w y) → j_G r w' n = j_G r w n
  | 0, _ => rfl
  | n + 1, h => by
    show j_gr (j_G r w' n) (w' n) = j_gr (j_G r w n) (w n)
    rw [j_G_congr n (fun y y0 y1 => h y y0 (by omega)), h n (by omega) (by omega)]
theorem j_bef_congr {w w' : Int → Int} {i : Int} (i0 : 0 ≤ i) (h : ∀ y : Int, 0 ≤ y → y < i → w' y = w y) : j_bef w' i = j_bef w i := by
  unfold j_bef
  split
  · rfl
  · exact h _ (by omega) (by omega)
theorem j_D_congr {k r : Int} {B : Int → Int → Int} {w w' : Int → Int} {i : Int} (i0 : 0 ≤ i) (h : ∀ y : Int, 0 ≤ y → y < i → w' y = w y) : j_D k r B w' i = j_D k r B w i := by
  unfold j_D
  rw [j_G_congr i.toNat (fun y y0 y1 => h y y0 (by omega)), j_bef_congr i0 h]
theorem j_sgN_congr {b b' : Int → Int} {x : Int} : ∀ n : Nat, (∀ j : Int, 0 ≤ j → j < n → b' j = b j) → j_sgN b' x n = j_sgN b x n
  | 0, _ => rfl
  | n + 1, h => by
    show (if b' n ≤ x then (n : Int) else j_sgN b' x n) = if b n ≤ x then (n : Int) else j_sgN b x n
    rw [j_sgN_congr n (fun j j0 j1 => h j j0 (by omega)), h n (by omega) (by omega)]
/-- one sign more -/
def j_tk1 (f : Int → Int) (len st M la k r : Int) (B : Int → Int → Int) (n : Int) (q : (Int → Int) × Int × (Int → Int)) : Option ((Int → Int) × Int × (Int → Int)) :=
  (j_refl f len st M 2 (j_sh (j_D k r B q.2.2 n) (j_sg (j_D k r B q.2.2 n) (q.1 (n % la) % M)) * (q.1 (n % la) / M) + q.1 (n % la) % M - j_D k r B q.2.2 n (j_sg (j_D k r B q.2.2 n) (q.1 (n % la) % M))) q.2.1).map
    (fun z => (j_u q.1 (n % la) z.1, z.2, j_u q.2.2 n (j_sg (j_D k r B q.2.2 n) (q.1 (n % la) % M))))
def j_tk (f : Int → Int) (len st M la k r : Int) (B : Int → Int → Int) (X : Int → Int) (u : Int) : Nat → Option ((Int → Int) × Int × (Int → Int))
  | 0 => some (X, u, fun _ => 0)
  | n + 1 => (j_tk f len st M la k r B X u n).bind (j_tk1 f len st M la k r B n)
theorem j_tk_none {f : Int → Int} {len st M la k r : Int} {B : Int → Int → Int} {X : Int → Int} {u : Int} {n : Nat} (h : j_tk f len st M la k r B X u n = none) : ∀ m : Nat, j_tk f len st M la k r B X u (n + m) = none
  | 0 => h
  | m + 1 => by
    show (j_tk f len st M la k r B X u (n + m)).bind _ = none
    rw [j_tk_none h m]
    rfl
abbrev j_TK (V : jH) (a b la st many : Int) : Nat → Option ((Int → Int) × Int × (Int → Int)) := j_tk (V (b + 1)) (V b 1) st (j_M (V (a + 1) 2)) la (V (a + 1) 1) (V (a + 1) 2) (fun p => V (a + 1 + 3 + 2 * p)) (V (a + 20)) many
abbrev j_DK (V : jH) (a : Int) (w : Int → Int) : Int → Int → Int := j_D (V (a + 1) 1) (V (a + 1) 2) (fun p => V (a + 1 + 3 + 2 * p)) w
/-- i signs are taken -/
def j_tkI (V : jH) (a b la st many i : Int) (V2 : jH) : Prop := ∃ (X : Int → Int) (u : Int) (w : Int → Int), j_TK V a b la st many i.toNat = some (X, u, w) ∧ V2 (a + 20) = X ∧ V2 a 5 = u ∧ (∀ x : Int, 0 ≤ x → x < i → 0 ≤ w x ∧ w x < 256) ∧ V2 (a + 11) 1 = j_bef w i ∧
  (V (a + 1) 1 = 4 → ∀ j : Int, 0 ≤ j → j ≤ 256 → V2 (a + 13) j = j_G (V (a + 1) 2) w i.toNat j) ∧ (∀ y : Int, 0 ≤ y → y < la → j_M (V (a + 1) 2) ≤ X y ∧ X y < 256 * j_M (V (a + 1) 2)) ∧ 0 ≤ u ∧ u ≤ many ∧
  ∀ x : Int, 0 ≤ x → x < i → V2 (a + 15) x = w x ∧ V2 (a + 18) x = j_sh (j_DK V a w x) (w x) ∧ V2 (a + 19) x = j_DK V a w x (w x) ∧ ∃ (X' : Int → Int) (u' : Int) (w' : Int → Int), j_TK V a b la st many (x + 1).toNat = some (X', u', w') ∧ V2 (a + 16) x = X' (x % la) ∧ V2 (a + 17) x = u'
def j_tkF (V V' : jH) (a : Int) : Prop := ∀ c : Int, c ≠ a → c ≠ a + 11 → c ≠ a + 13 → c ≠ a + 14 → c ≠ a + 15 → c ≠ a + 16 → c ≠ a + 17 → c ≠ a + 18 → c ≠ a + 19 → c ≠ a + 20 → V' c = V c
/-- a sign that is taken, on the bench and in the text -/
theorem j_tkI_step {V V2 V3 : jH} {a b la st many i x u : Int} (i0 : 0 ≤ i) (l0 : 1 ≤ la) (hF : j_tkf V2 V3 a) (hI : j_tkI V a b la st many i V2) (eb : V2 b = V b) (eb1 : V2 (b + 1) = V (b + 1)) (et : V2 (a + 1) = V (a + 1)) (hN : ∀ X u w, j_TK V a b la st many i.toNat = some (X, u, w) → ∀ j : Int, 0 ≤ j → j ≤ 256 → j_now V2 a j = j_DK V a w i j)
    (hr : j_refl (V2 (b + 1)) (V2 b 1) st (j_M (V2 (a + 1) 2)) 2 (j_ny V2 a (i % la)) (V2 a 5) = some (x, u)) (x0 : j_M (V2 (a + 1) 2) ≤ x) (x1 : x < 256 * j_M (V2 (a + 1) 2)) (u0 : 0 ≤ u) (u1 : u ≤ V2 a 5) (s0 : 0 ≤ j_ns1 V2 a (i % la)) (s1 : j_ns1 V2 a (i % la) < 256) (hd : j_tkd V2 V3 a i (i % la) x u) : j_tkI V a b la st many (i + 1) V3 := by
  obtain ⟨X, u', w, t1, t2, t3, t4, t5, t6, t7, t8, t9, t10⟩ := hI
  have hN := hN X u' w t1
  obtain ⟨d1, d2, d3, d4, d5, d6, d7, d8, d9⟩ := hd
  have m0 : 0 ≤ i % la := Int.emod_nonneg _ (by omega)
  have es : j_ns1 V2 a (i % la) = j_sg (j_DK V a w i) (X (i % la) % j_M (V (a + 1) 2)) := by
    unfold j_ns1 j_sg
    rw [et, t2]
    exact j_sgN_congr 256 (fun j j0 j1 => hN j j0 (by omega))
  have esh : j_sh (j_now V2 a) (j_ns1 V2 a (i % la)) = j_sh (j_DK V a w i) (j_ns1 V2 a (i % la)) := by
    show j_now V2 a _ - j_now V2 a _ = j_DK V a w i _ - j_DK V a w i _
    rw [hN _ s0 (by omega), hN _ (by omega) (by omega)]
  have eN := hN _ s0 (by omega)
  have ey : j_ny V2 a (i % la) = j_sh (j_DK V a w i) (j_sg (j_DK V a w i) (X (i % la) % j_M (V (a + 1) 2))) * (X (i % la) / j_M (V (a + 1) 2)) + X (i % la) % j_M (V (a + 1) 2) - j_DK V a w i (j_sg (j_DK V a w i) (X (i % la) % j_M (V (a + 1) 2))) := by
    unfold j_ny
    rw [esh, eN, es, et, t2]
  have eT : j_TK V a b la st many (i + 1).toNat = some (j_u X (i % la) x, u, j_u w i (j_ns1 V2 a (i % la))) := by
    rw [show (i + 1).toNat = i.toNat + 1 by omega]
    show (j_TK V a b la st many i.toNat).bind _ = _
    rw [t1]
    show j_tk1 _ _ _ _ _ _ _ _ _ (X, u', w) = _
    unfold j_tk1
    dsimp only
    rw [show ((i.toNat : Nat) : Int) = i by omega, ← ey, ← es, ← t3]
    rw [eb, eb1, et] at hr
    rw [hr]
    rfl
  have wc : ∀ y : Int, 0 ≤ y → y < i → j_u w i (j_ns1 V2 a (i % la)) y = w y := fun y y0 y1 => j_u_ne (by omega)
  refine ⟨_, _, _, eT, by rw [d2, t2], d1, fun y y0 y1 => ?_, ?_, fun hk j j0 j1 => ?_, fun y y0 y1 => ?_, u0, by omega, fun y y0 y1 => ?_⟩
  · by_cases e : y = i
    · rw [e, j_u_at]; exact ⟨s0, s1⟩
    · rw [j_u_ne e]; exact t4 y y0 (by omega)
  · rw [d8]; unfold j_bef; rw [if_neg (by omega), show i + 1 - 1 = i by omega, j_u_at]
  · rw [d9, et]
    unfold j_g1
    rw [if_pos hk, show (i + 1).toNat = i.toNat + 1 by omega]
    show _ = j_gr (j_G (V (a + 1) 2) (j_u w i (j_ns1 V2 a (i % la))) i.toNat) (j_u w i (j_ns1 V2 a (i % la)) ((i.toNat : Nat) : Int)) j
    rw [show ((i.toNat : Nat) : Int) = i by omega, j_u_at, j_G_congr (w := w) i.toNat (fun y y0 y1 => wc y y0 (by omega))]
    exact j_gr_congr (t6 hk) j0 j1
  · by_cases e : y = i % la
    · rw [e, j_u_at, ← et]; exact ⟨x0, x1⟩
    · rw [j_u_ne e]; exact t7 y y0 y1
  · have eD : j_DK V a (j_u w i (j_ns1 V2 a (i % la))) y = j_DK V a w y := j_D_congr y0 (fun z z0 z1 => wc z z0 (by omega))
    rw [eD, d3, d4, d5, d6, d7]
    by_cases e : y = i
    · rw [e, j_u_at, j_u_at, j_u_at, j_u_at, j_u_at, j_u_at]
      exact ⟨rfl, esh, eN, _, _, _, eT, by rw [j_u_at], rfl⟩
    · rw [j_u_ne e, j_u_ne e, j_u_ne e, j_u_ne e, j_u_ne e, j_u_ne e]
      exact t10 y y0 (by omega)
