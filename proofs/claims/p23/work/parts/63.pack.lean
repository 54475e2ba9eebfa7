/-! THE CLASS: packing signs -/
/-- how many bytes leave a state ahead of a sign, and what it is then -/
def j_sc (x f : Int) : Int := if x < 256 * f then 0 else if x / 256 < 256 * f then 1 else 2
def j_y (x f : Int) : Int := if x < 256 * f then x else if x / 256 < 256 * f then x / 256 else x / 256 / 256
def j_pk (M f b x : Int) : Int := M * (j_y x f / f) + b + j_y x f % f
def j_pb (g : Int → Int) (u x f : Int) : Int → Int := if x < 256 * f then g else if x / 256 < 256 * f then j_u g u (x % 256) else j_u (j_u g u (x % 256)) (u + 1) (x / 256 % 256)
theorem j_sc_bd (x f : Int) : 0 ≤ j_sc x f ∧ j_sc x f ≤ 2 := by unfold j_sc; split <;> (try split) <;> omega
theorem j_pb_congr {g g' : Int → Int} {u x f : Int} (h : ∀ j : Int, 0 ≤ j → j < u → g j = g' j) {j : Int} (j0 : 0 ≤ j) (j1 : j < u + j_sc x f) : j_pb g u x f j = j_pb g' u x f j := by
  unfold j_pb j_sc at *
  by_cases c1 : x < 256 * f
  · rw [if_pos c1] at j1 ⊢
    rw [if_pos c1]
    exact h j j0 (by omega)
  · rw [if_neg c1] at j1 ⊢
    rw [if_neg c1]
    by_cases c2 : x / 256 < 256 * f
    · rw [if_pos c2] at j1 ⊢
      rw [if_pos c2]
      by_cases e : j = u
      · rw [e, j_u_at, j_u_at]
      · rw [j_u_ne e, j_u_ne e]; exact h j j0 (by omega)
    · rw [if_neg c2] at j1 ⊢
      rw [if_neg c2]
      by_cases e : j = u + 1
      · rw [e, j_u_at, j_u_at]
      · rw [j_u_ne e, j_u_ne e]
        by_cases e2 : j = u
        · rw [e2, j_u_at, j_u_at]
        · rw [j_u_ne e2, j_u_ne e2]; exact h j j0 (by omega)
theorem j_y_bd {x f : Int} (h0 : 0 ≤ x) (h1 : x < 1048576) (hf : 1 ≤ f) : 0 ≤ j_y x f ∧ j_y x f < 256 * f ∧ (f ≤ x → f ≤ j_y x f) := by
  unfold j_y
  split
  · omega
  · split <;> omega
theorem j_pk_q {x f : Int} (h0 : 0 ≤ x) (h1 : x < 1048576) (hf : 1 ≤ f) : 0 ≤ j_y x f / f ∧ j_y x f / f ≤ 255 ∧ 0 ≤ j_y x f % f ∧ j_y x f % f < f ∧ (f ≤ x → 1 ≤ j_y x f / f) := by
  obtain ⟨a1, a2, a3⟩ := j_y_bd h0 h1 hf
  have p1 : j_y x f / f < 256 := Int.ediv_lt_of_lt_mul (by omega) a2
  have p2 : 0 ≤ j_y x f / f := Int.ediv_nonneg a1 (by omega)
  refine ⟨p2, by omega, Int.emod_nonneg _ (by omega), Int.emod_lt_of_pos _ (by omega), fun hx => ?_⟩
  exact Int.le_ediv_of_mul_le (by omega) (by have := a3 hx; omega)
theorem j_pk_bd {M f b x : Int} (hM0 : 256 ≤ M) (hM1 : M ≤ 4096) (hf : 1 ≤ f) (hb : 0 ≤ b) (hfb : b + f ≤ M) (h0 : M ≤ x) (h1 : x < 256 * M) : M ≤ j_pk M f b x ∧ j_pk M f b x < 256 * M := by
  obtain ⟨p1, p2, p3, p4, p5⟩ := j_pk_q (x := x) (f := f) (by omega) (by omega) hf
  have p6 := p5 (by omega)
  unfold j_pk
  generalize j_y x f / f = q at *
  generalize j_y x f % f = e at *
  have q1 : M * 1 ≤ M * q := Int.mul_le_mul_of_nonneg_left p6 (by omega)
  have q2 : M * q ≤ M * 255 := Int.mul_le_mul_of_nonneg_left p2 (by omega)
  omega
theorem m2_5 (l : Launch) : M2_5 l 0 0 (fun a i x M S V => j_L S ∧ 0 ≤ i ∧ i < 400 ∧ 1 ≤ V (a + 18) i ∧ V (a + 18) i ≤ 4096 ∧ 0 ≤ V (a + 19) i ∧ V (a + 19) i ≤ 4096 ∧ 0 ≤ x ∧ x < 1048576 ∧ 256 ≤ M ∧ M ≤ 4096 ∧ 0 ≤ V a 5 ∧ V a 5 ≤ 798)
    (fun a i x M S V r S' V' => S' = S ∧ r = j_pk M (V (a + 18) i) (V (a + 19) i) x ∧ V' = j_row (j_up V a 5 (V a 5 + j_sc x (V (a + 18) i))) (a + 21) (j_pb (V (a + 21)) (V a 5) x (V (a + 18) i))) := by
  refine e2_5 ?_
  rintro C G h hrm hcs hl hn a i x M S V ha ⟨L, i0, i1, f0, f1, b0, b1, x0, x1, M0, M1, u0, u1⟩ R
  obtain ⟨p1, p2, p3, p4, p5⟩ := j_pk_q (x := x) (f := V (a + 18) i) x0 x1 f0
  have pm := j_mulb (show 0 ≤ M by omega) M1 p1 p2
  have py := j_y_bd (x := x) (f := V (a + 18) i) x0 x1 f0
  -- the end, from what is shifted
  have fin : ∀ (y : Int) (V1 : jH), y = j_y x (V (a + 18) i) → V1 = j_row (j_up V a 5 (V a 5 + j_sc x (V (a + 18) i))) (a + 21) (j_pb (V (a + 21)) (V a 5) x (V (a + 18) i)) →
      j_ok n_KT 7 C G 93 [(0, (2, a)), (1, (0, i)), (3, (0, M)), (4, (0, V (a + 18) i)), (5, (0, y))] [] S V1 0 0 := by
    intro y V1 ey eV
    have e19 : V1 (a + 19) = V (a + 19) := by rw [eV, j_row_ne (by omega), j_up_ne (by omega)]
    subst ey
    refine t2_5_93 h L py.1 f0 (by omega) ha i0 i1 (by rw [e19]; omega) (by rw [e19]; omega) R ⟨rfl, ?_, eV⟩ (Nat.le_refl _) (Nat.le_refl _)
    rw [e19]
    rfl
  refine t2_5_0 h L ha i0 i1 (fun q => ?_) (fun q => absurd q (by omega))
  refine t2_5_19 h (t2_5_25 h (fun q => absurd q (by omega)) (fun _ => ?_))
  refine t2_5_31 h (by omega) (fun q => ?_) (fun q => ?_)
  · refine fin x V ?_ ?_
    · unfold j_y; rw [if_pos q]
    · unfold j_sc j_pb
      rw [if_pos q, if_pos q, show V a 5 + 0 = V a 5 by omega]
      rw [j_up_row]
      have : j_u (V a) 5 (V a 5) = V a := by funext j; unfold j_u; split <;> simp_all
      rw [this, j_row_self, j_row_self]
  · refine t2_5_42 h L ha (fun q2 => absurd q2 (by omega)) (fun q2 => ?_)
    refine t2_5_54 h L ha u0 (by omega) (by omega) x0 (by omega) ?_
    refine t2_5_25 h (fun q => absurd q (by omega)) (fun _ => ?_)
    refine t2_5_31 h (by omega) (fun q3 => ?_) (fun q3 => ?_)
    · refine fin (x / 256) _ ?_ ?_
      · unfold j_y; rw [if_neg (by omega), if_pos q3]
      · unfold j_sc j_pb
        rw [if_neg (show ¬ x < 256 * V (a + 18) i by omega), if_neg (show ¬ x < 256 * V (a + 18) i by omega), if_pos q3, if_pos q3]
        funext c j
        by_cases hc : c = a + 21
        · subst hc
          rw [j_row_at, j_up_ne (show a + 21 ≠ a by omega)]
          by_cases e2 : j = V a 5
          · rw [e2, j_up_at, j_u_at]
          · rw [j_up_off e2, j_u_ne e2]
        · rw [j_row_ne hc]
          by_cases ha2 : c = a
          · subst ha2
            by_cases e : j = 5
            · rw [e, j_up_at, j_up_at]
            · rw [j_up_off e, j_up_off e, j_up_ne hc]
          · rw [j_up_ne ha2, j_up_ne hc, j_up_ne ha2]
    · have eu : (j_up (j_up V (a + 21) (V a 5) (x % 256)) a 5 (V a 5 + 1)) a 5 = V a 5 + 1 := by rw [j_up_at]
      refine t2_5_42 h L ha (fun q4 => absurd q4 (by rw [eu]; omega)) (fun q4 => ?_)
      refine t2_5_54 h L ha (by rw [eu]; omega) (by rw [eu]; omega) (by rw [eu]; omega) (by omega) (by omega) ?_
      rw [eu]
      refine t2_5_25 h (fun _ => ?_) (fun q => absurd q (by omega))
      refine fin (x / 256 / 256) _ ?_ ?_
      · unfold j_y; rw [if_neg (by omega), if_neg (by omega)]
      · unfold j_sc j_pb
        rw [if_neg (show ¬ x < 256 * V (a + 18) i by omega), if_neg (show ¬ x < 256 * V (a + 18) i by omega), if_neg (show ¬ x / 256 < 256 * V (a + 18) i by omega), if_neg (show ¬ x / 256 < 256 * V (a + 18) i by omega)]
        funext c j
        by_cases hc : c = a + 21
        · subst hc
          rw [j_row_at, j_up_ne (show a + 21 ≠ a by omega)]
          by_cases e : j = V a 5 + 1
          · rw [e, j_up_at, j_u_at]
          · rw [j_up_off e, j_u_ne e, j_up_ne (show a + 21 ≠ a by omega)]
            by_cases e2 : j = V a 5
            · rw [e2, j_up_at, j_u_at]
            · rw [j_up_off e2, j_u_ne e2]
        · rw [j_row_ne hc]
          by_cases ha2 : c = a
          · subst ha2
            by_cases e : j = 5
            · rw [e, j_up_at, j_up_at]; omega
            · rw [j_up_off e, j_up_off e, j_up_ne hc, j_up_off e, j_up_ne hc]
          · rw [j_up_ne ha2, j_up_ne hc, j_up_ne ha2, j_up_ne hc, j_up_ne ha2]
/-- packing the signs of a row, from the last one on: the states, how many bytes there are, and the bytes -/
def j_pX (M la n : Int) (f b : Int → Int) : Nat → (Int → Int) × Int × (Int → Int)
  | 0 => (fun _ => M, 0, fun _ => 0)
  | k + 1 => (j_u (j_pX M la n f b k).1 ((n - 1 - k) % la) (j_pk M (f (n - 1 - k)) (b (n - 1 - k)) ((j_pX M la n f b k).1 ((n - 1 - k) % la))), (j_pX M la n f b k).2.1 + j_sc ((j_pX M la n f b k).1 ((n - 1 - k) % la)) (f (n - 1 - k)), j_pb (j_pX M la n f b k).2.2 (j_pX M la n f b k).2.1 ((j_pX M la n f b k).1 ((n - 1 - k) % la)) (f (n - 1 - k)))
theorem j_pX_congr {M la n : Int} {f b f' b' : Int → Int} (hf : ∀ i : Int, 0 ≤ i → i < n → f' i = f i) (hb : ∀ i : Int, 0 ≤ i → i < n → b' i = b i) : ∀ k : Nat, k ≤ n → j_pX M la n f' b' k = j_pX M la n f b k
  | 0, _ => rfl
  | k + 1, hk => by
    have ih := j_pX_congr (M := M) (la := la) hf hb k (by omega)
    unfold j_pX
    rw [ih, hf (n - 1 - k) (by omega) (by omega), hb (n - 1 - k) (by omega) (by omega)]
theorem j_pX_bd {M la n : Int} {f b : Int → Int} (hM0 : 256 ≤ M) (hM1 : M ≤ 4096) (h : ∀ i : Int, 0 ≤ i → i < n → 1 ≤ f i ∧ 0 ≤ b i ∧ b i + f i ≤ M) : ∀ k : Nat, k ≤ n → (∀ l : Int, M ≤ (j_pX M la n f b k).1 l ∧ (j_pX M la n f b k).1 l < 256 * M) ∧ 0 ≤ (j_pX M la n f b k).2.1 ∧ (j_pX M la n f b k).2.1 ≤ 2 * k
  | 0, _ => ⟨fun l => ⟨Int.le_refl _, by show M < 256 * M; omega⟩, by show (0 : Int) ≤ 0; omega, by show (0 : Int) ≤ 2 * ((0 : Nat) : Int); omega⟩
  | k + 1, hk => by
    obtain ⟨i1, i2, i3⟩ := j_pX_bd (la := la) hM0 hM1 h k (by omega)
    obtain ⟨g1, g2, g3⟩ := h (n - 1 - k) (by omega) (by omega)
    have c := j_sc_bd ((j_pX M la n f b k).1 ((n - 1 - k) % la)) (f (n - 1 - k))
    refine ⟨fun l => ?_, ?_, ?_⟩
    · show M ≤ j_u (j_pX M la n f b k).1 ((n - 1 - k) % la) _ l ∧ j_u (j_pX M la n f b k).1 ((n - 1 - k) % la) _ l < 256 * M
      by_cases e : l = (n - 1 - k) % la
      · rw [e, j_u_at]
        exact j_pk_bd hM0 hM1 g1 g2 g3 (i1 _).1 (i1 _).2
      · rw [j_u_ne e]; exact i1 l
    · show 0 ≤ (j_pX M la n f b k).2.1 + j_sc ((j_pX M la n f b k).1 ((n - 1 - k) % la)) (f (n - 1 - k))
      omega
    · show (j_pX M la n f b k).2.1 + j_sc ((j_pX M la n f b k).1 ((n - 1 - k) % la)) (f (n - 1 - k)) ≤ 2 * ((k + 1 : Nat) : Int)
      omega
