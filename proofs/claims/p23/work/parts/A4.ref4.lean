/-! THE REFERENCE: dealing and learning -/
theorem j_pre_one {f : Int → Int} : ∀ (n : Nat) (s : Int), (∀ k : Int, 0 ≤ k → k < n → 0 ≤ f k) → 0 ≤ s → s < n → f s ≤ j_pre f n
  | 0, s, _, h0, h1 => by omega
  | n + 1, s, hf, h0, h1 => by
    rw [show ((n + 1 : Nat) : Int) = (n : Int) + 1 by omega, j_pre_s _ (by omega)]
    have nn : 0 ≤ j_pre f n := by
      have : ∀ m : Nat, m ≤ n → 0 ≤ j_pre f m := by
        intro m
        induction m with
        | zero => intro _; exact Int.le_refl _
        | succ m ih =>
          intro hm
          rw [show ((m + 1 : Nat) : Int) = (m : Int) + 1 by omega, j_pre_s _ (by omega)]
          have := ih (by omega)
          have := hf m (by omega) (by omega)
          omega
      exact this n (Nat.le_refl _)
    have fn := hf n (by omega) (by omega)
    by_cases e : s = n
    · rw [e]; omega
    · have := j_pre_one n s (fun k k0 k1 => hf k k0 (by omega)) h0 (by omega)
      omega
/-- a greedy deal on the way -/
def j_gree (c : Int → Int) (al left : Int) (sh : Int → Int) : Prop := (∀ s : Int, 0 ≤ s → s < 256 → c s ≤ 0 → sh s = 0) ∧ (∀ s : Int, 0 ≤ s → s < 256 → 0 < c s → 1 ≤ sh s) ∧ j_pre sh 256 = al - left ∧
  ∀ s t : Int, 0 ≤ s → s < 256 → 0 ≤ t → t < 256 → s ≠ t → 0 < c s → 0 < c t → 2 ≤ sh t → j_gn c s (sh s) < j_gn c t (sh t - 1) ∨ (j_gn c s (sh s) = j_gn c t (sh t - 1) ∧ t < s)
theorem j_gree_nn {c : Int → Int} {al left : Int} {sh : Int → Int} (h : j_gree c al left sh) {s : Int} (s0 : 0 ≤ s) (s1 : s < 256) : 0 ≤ sh s ∧ sh s ≤ al - left := by
  have nn : ∀ k : Int, 0 ≤ k → k < ((256 : Nat) : Int) → 0 ≤ sh k := fun k k0 k1 => by
    have k1 : k < 256 := k1
    by_cases e : c k ≤ 0
    · rw [h.1 k k0 k1 e]; omega
    · have := h.2.1 k k0 k1 (by omega); omega
  have := j_pre_one 256 s nn s0 s1
  rw [show (((256 : Nat) : Nat) : Int) = 256 from rfl, h.2.2.1] at this
  exact ⟨nn s s0 s1, this⟩
/-- the lowest of the signs that gain most -/
def j_best (c sh : Int → Int) (n b m : Int) : Prop := (b = -1 ∧ m = -1 ∧ ∀ s : Int, 0 ≤ s → s < n → c s ≤ 0) ∨ (0 ≤ b ∧ b < n ∧ 0 < c b ∧ m = j_gn c b (sh b) ∧ ∀ s : Int, 0 ≤ s → s < n → 0 < c s → j_gn c s (sh s) ≤ m ∧ (s < b → j_gn c s (sh s) < m))
theorem j_gree_step {c : Int → Int} {al left : Int} {sh : Int → Int} {b m : Int} (hc : ∀ s : Int, 0 ≤ s → s < 256 → 0 ≤ c s) (h : j_gree c al left sh) (hb : j_best c sh 256 b m) (b0 : 0 ≤ b) : j_gree c al (left - 1) (j_u sh b (sh b + 1)) := by
  rcases hb with ⟨e, _⟩ | ⟨_, b1, cb, em, hm⟩
  · omega
  obtain ⟨h1, h2, h3, h4⟩ := h
  refine ⟨fun s s0 s1 cs => ?_, fun s s0 s1 cs => ?_, ?_, fun s t s0 s1 t0 t1 ne cs ct ht => ?_⟩
  · rw [j_u_ne (show s ≠ b from fun z => by rw [z] at cs; omega)]; exact h1 s s0 s1 cs
  · by_cases e : s = b
    · rw [e, j_u_at]; have := h2 b b0 b1 cb; omega
    · rw [j_u_ne e]; exact h2 s s0 s1 cs
  · have := j_pre_u (f := sh) (i := b) (x := sh b + 1) 256 b0
    rw [show (((256 : Nat) : Nat) : Int) = 256 from rfl, if_pos b1] at this
    rw [this, h3]; omega
  · by_cases et : t = b
    · have es : s ≠ b := fun z => ne (by rw [z, et])
      rw [et, j_u_at, j_u_ne es, show sh b + 1 - 1 = sh b by omega]
      have := hm s s0 s1 cs
      rw [← em]
      rcases Int.lt_or_le s b with z | z
      · exact Or.inl (this.2 z)
      · rcases Int.lt_or_le (j_gn c s (sh s)) m with y | y
        · exact Or.inl y
        · exact Or.inr ⟨by omega, by omega⟩
    · rw [j_u_ne et] at ht ⊢
      by_cases es : s = b
      · rw [es, j_u_at]
        have an := j_gn_anti (c := c) (s := b) (k := sh b) (k' := sh b + 1) (hc b b0 b1) (h2 b b0 b1 cb) (by omega)
        rcases h4 b t b0 b1 t0 t1 (fun z => et z.symm) cb ct ht with y | ⟨y1, y2⟩
        · exact Or.inl (by omega)
        · rcases Int.lt_or_le (j_gn c b (sh b + 1)) (j_gn c t (sh t - 1)) with x | x
          · exact Or.inl x
          · exact Or.inr ⟨by omega, by omega⟩
      · rw [j_u_ne es]; exact h4 s t s0 s1 t0 t1 ne cs ct ht
theorem j_gree_congr {c sh sh' : Int → Int} {al left : Int} (e : ∀ s : Int, 0 ≤ s → s < 256 → sh' s = sh s) (h : j_gree c al left sh) : j_gree c al left sh' := by
  obtain ⟨h1, h2, h3, h4⟩ := h
  refine ⟨fun s s0 s1 z => by rw [e s s0 s1]; exact h1 s s0 s1 z, fun s s0 s1 z => by rw [e s s0 s1]; exact h2 s s0 s1 z, by rw [j_pre_congr (fun k k0 k1 => e k k0 k1)]; exact h3, fun s t s0 s1 t0 t1 => by rw [e s s0 s1, e t t0 t1]; exact h4 s t s0 s1 t0 t1⟩
theorem j_deal_shc {c sh sh' : Int → Int} {al : Int} (e : ∀ s : Int, 0 ≤ s → s < 256 → sh' s = sh s) (h : j_deal c al sh) : j_deal c al sh' := by
  rcases h with ⟨⟨h1, h2, h3, h4⟩, h5⟩ | ⟨h1, h2⟩
  · have g := j_gree_congr (al := al) (left := 0) e ⟨h1, h2, by rw [h3]; omega, h4⟩
    exact Or.inl ⟨⟨g.1, g.2.1, by rw [g.2.2.1]; omega, g.2.2.2⟩, h5⟩
  · exact Or.inr ⟨h1, fun s s0 s1 => by rw [e s s0 s1]; exact h2 s s0 s1⟩
theorem m13_15 (l : Launch) : M13_15 l 0 0 (fun a al S V => j_L S ∧ 0 ≤ a ∧ 256 ≤ al ∧ al ≤ 4096 ∧ j_cnt (V (a + 19))) (fun a al S V S' V' => S' = S ∧ j_deal (V (a + 19)) al (V' (a + 20)) ∧ ∀ c : Int, c ≠ a + 20 → V' c = V c) := by
  refine e13_15 ?_
  rintro C G h hrm hcs hl hn a al S V ht ⟨L, a0, al0, al1, hc⟩ R
  have k20 : S.1 (a + 20) = 3 := L12_8k L ht
  generalize ec : V (a + 19) = c at *
  have hc0 : ∀ s : Int, 0 ≤ s → s < 256 → 0 ≤ c s := fun s s0 s1 => (hc s s0 s1).1
  refine t13_15_0 h ?_
  have one : ∀ (i : Int) (z : Int × jH), (0 ≤ i ∧ i ≤ 256 ∧ z.1 = al - j_pre (fun s => if 0 < c s then 1 else 0) i ∧ (∀ s : Int, 0 ≤ s → s < i → z.2 (a + 20) s = if 0 < c s then 1 else 0) ∧ ∀ x : Int, x ≠ a + 20 → z.2 x = V x) → j_ok n_KT 9 C G 4 [(0, (2, a)), (1, (0, al)), (2, (0, z.1)), (3, (0, i))] [] S z.2 0 0 := by
    refine j_loop (N := 256) (fun i z hi hI kk => ?_) (fun i z hi hI => ?_)
    · obtain ⟨left, V1⟩ := z
      obtain ⟨g0, g1, g2, g3, g4⟩ := hI
      dsimp only at g2 g3 g4 ⊢
      have bw := j_pre_bd (f := fun s => if 0 < c s then (1 : Int) else 0) (B := 1) (i := i) (by decide) g0 (fun k _ _ => by split <;> omega)
      have v19 : V1 (a + 19) i = c i := by rw [g4 _ (by omega), ec]
      refine t13_15_4 h (fun q => absurd q (by omega)) (fun _ => ?_)
      have st : ∀ y : Int, (y = if 0 < c i then 1 else 0) → j_ok n_KT 9 C G 30 [(0, (2, a)), (1, (0, al)), (2, (0, left)), (3, (0, i))] [(0, y), (0, i), (2, a + 20)] S V1 0 0 := fun y ey => by
        have yb : 0 ≤ y ∧ y ≤ 1 := by rw [ey]; split <;> omega
        refine t13_15_30 (n_s2 := 256) h L (j_arr_of k20 (by decide) rfl) g0 hi ht g0 hi (by rw [j_up_at]; omega) (by omega) ?_
        rw [j_up_at]
        refine kk (left - y, j_up V1 (a + 20) i y) ⟨(by omega), (by omega), ?_, fun s s0 s1 => ?_, fun x hx => ?_⟩
        · show left - y = _; rw [j_pre_s _ g0, g2, ey]; omega
        · show j_up V1 (a + 20) i y (a + 20) s = _
          by_cases e : s = i
          · rw [e, j_up_at]; exact ey
          · rw [j_up_off e]; exact g3 s s0 (by omega)
        · show j_up V1 (a + 20) i y x = V x; rw [j_up_ne hx]; exact g4 x hx
      refine t13_15_11 h L ht g0 hi (fun q => t13_15_29 h (st 0 (by rw [v19] at q; rw [if_neg (by omega)]))) (fun q => t13_15_25 h (st 1 (by rw [v19] at q; rw [if_pos q])))
    · obtain ⟨left, V1⟩ := z
      obtain ⟨g0, g1, g2, g3, g4⟩ := hI
      dsimp only at g2 g3 g4 ⊢
      have ei : i = 256 := by omega
      rw [ei] at g2 g3
      have nn : ∀ k : Int, 0 ≤ k → k < ((256 : Nat) : Int) → (0 : Int) ≤ (fun s => if 0 < c s then (1 : Int) else 0) k := fun k _ _ => by show (0 : Int) ≤ if 0 < c k then (1 : Int) else 0; split <;> omega
      have bw := j_pre_bd (f := fun s => if 0 < c s then (1 : Int) else 0) (B := 1) (i := 256) (by decide) (by omega) (fun k _ _ => by split <;> omega)
      refine t13_15_4 h (fun _ => ?_) (fun q => absurd q (by omega))
      refine t13_15_46 h (fun q => ?_) (fun q => ?_)
      · -- some sign has a count
        have some : ∃ s : Int, 0 ≤ s ∧ s < 256 ∧ 0 < c s := by
          by_cases e : ∃ s : Int, 0 ≤ s ∧ s < 256 ∧ 0 < c s
          · exact e
          · have : j_pre (fun s => if 0 < c s then (1 : Int) else 0) 256 = 0 := j_sum_0 (fun k k0 k1 => by rw [if_neg (fun z => e ⟨k, k0, k1, z⟩)])
            omega
        have start : j_gree c al left (V1 (a + 20)) := by
          refine ⟨fun s s0 s1 z => by rw [g3 s s0 s1, if_neg (by omega)], fun s s0 s1 z => by rw [g3 s s0 s1, if_pos z]; omega, ?_, fun s t s0 s1 t0 t1 _ _ ct z => ?_⟩
          · rw [j_pre_congr (g := fun s => if 0 < c s then 1 else 0) (fun k k0 k1 => g3 k k0 k1)]; omega
          · rw [g3 t t0 t1, if_pos ct] at z; omega
        have main : ∀ (n : Nat) (left : Int) (V2 : jH), left ≤ n → 0 ≤ left → j_gree c al left (V2 (a + 20)) → (∀ x : Int, x ≠ a + 20 → V2 x = V x) → j_ok n_KT 9 C G 78 [(0, (2, a)), (2, (0, left))] [] S V2 0 0 := by
          intro n
          induction n with
          | zero =>
            intro left V2 h0 h1 hg fr
            have e0 : left = 0 := by omega
            subst e0
            exact t13_15_78 h (fun _ => t13_15_175 h R ⟨rfl, Or.inl ⟨⟨hg.1, hg.2.1, by rw [hg.2.2.1]; omega, hg.2.2.2⟩, some⟩, fr⟩ (Nat.le_refl _) (Nat.le_refl _)) (fun q => absurd q (by omega))
          | succ n ih =>
            intro left V2 h0 h1 hg fr
            refine t13_15_78 h (fun q => ?_) (fun q => ?_)
            · have e0 : left = 0 := by omega
              subst e0
              exact t13_15_175 h R ⟨rfl, Or.inl ⟨⟨hg.1, hg.2.1, by rw [hg.2.2.1]; omega, hg.2.2.2⟩, some⟩, fr⟩ (Nat.le_refl _) (Nat.le_refl _)
            · refine t13_15_82 h ?_
              have v19 : V2 (a + 19) = c := by rw [fr _ (by omega), ec]
              have find : ∀ (i : Int) (z : Int × Int), (0 ≤ i ∧ i ≤ 256 ∧ j_best c (V2 (a + 20)) i z.1 z.2) → j_ok n_KT 9 C G 92 [(0, (2, a)), (2, (0, left)), (3, (0, z.1)), (4, (1, z.2)), (6, (0, i))] [] S V2 0 0 := by
                refine j_loop (N := 256) (fun i z hi hI kk => ?_) (fun i z hi hI => ?_)
                · obtain ⟨b, m⟩ := z
                  obtain ⟨x0, x1, hb⟩ := hI
                  dsimp only at hb ⊢
                  have ci := hc i x0 hi
                  have si := j_gree_nn hg x0 hi
                  refine t13_15_92 h (fun z => absurd z (by omega)) (fun _ => ?_)
                  refine t13_15_100 h L ht x0 hi (fun z => ?_) (fun z => ?_)
                  · rw [v19] at z
                    have s1 := hg.2.1 i x0 hi (by omega)
                    have d0 : 0 ≤ 1000000 / V2 (a + 20) i := Int.ediv_nonneg (by omega) (by omega)
                    have d1 := j_div_anti (a := 1) (b := V2 (a + 20) i) (by omega) s1
                    have gm := j_mulb ci.1 ci.2 d0 (show 1000000 / V2 (a + 20) i ≤ 1000000 by omega)
                    refine t13_15_113 h L ht x0 hi s1 (by rw [v19]; omega) (fun y => ?_) (fun y => ?_)
                    · refine t13_15_146 h (t13_15_153 h (by omega) (kk (i, _) ⟨(by omega), (by omega), Or.inr ⟨x0, by show i < i + 1; omega, by show 0 < c i; omega, ?_, fun s s0 s1 cs => ?_⟩⟩))
                      · show V2 (a + 19) i * (1000000 / V2 (a + 20) i) = _; rw [v19]; rfl
                      · show j_gn c s (V2 (a + 20) s) ≤ V2 (a + 19) i * (1000000 / V2 (a + 20) i) ∧ (s < i → j_gn c s (V2 (a + 20) s) < V2 (a + 19) i * (1000000 / V2 (a + 20) i))
                        rw [v19] at y ⊢
                        by_cases e : s = i
                        · rw [e]; exact ⟨Int.le_refl _, fun z => absurd z (by omega)⟩
                        · rcases hb with ⟨_, _, hb⟩ | ⟨_, _, _, _, hb⟩
                          · have := hb s s0 (by omega); omega
                          · have := (hb s s0 (by omega) cs).1
                            exact ⟨by omega, fun _ => by omega⟩
                    · refine t13_15_143 h (t13_15_153 h (by omega) (kk (b, m) ⟨(by omega), (by omega), ?_⟩))
                      rw [v19] at y
                      have y : j_gn c i (V2 (a + 20) i) ≤ m := y
                      rcases hb with ⟨_, e2, _⟩ | ⟨b0, b1, b2, b3, hb⟩
                      · have : 0 ≤ j_gn c i (V2 (a + 20) i) := gm.1
                        omega
                      · refine Or.inr ⟨b0, by show b < i + 1; omega, b2, b3, fun s s0 s1 cs => ?_⟩
                        by_cases e : s = i
                        · rw [e]; exact ⟨y, fun z => absurd z (by show ¬ i < b; omega)⟩
                        · exact hb s s0 (by omega) cs
                  · rw [v19] at z
                    refine t13_15_110 h (t13_15_153 h (by omega) (kk (b, m) ⟨(by omega), (by omega), ?_⟩))
                    rcases hb with ⟨e1, e2, hb⟩ | ⟨b0, b1, b2, b3, hb⟩
                    · refine Or.inl ⟨e1, e2, fun s s0 s1 => ?_⟩
                      by_cases e : s = i
                      · rw [e]; omega
                      · exact hb s s0 (by omega)
                    · refine Or.inr ⟨b0, by show b < i + 1; omega, b2, b3, fun s s0 s1 cs => ?_⟩
                      by_cases e : s = i
                      · rw [e] at cs; omega
                      · exact hb s s0 (by omega) cs
                · obtain ⟨b, m⟩ := z
                  obtain ⟨x0, x1, hb⟩ := hI
                  dsimp only at hb ⊢
                  have ei : i = 256 := by omega
                  rw [ei] at hb
                  have b0 : 0 ≤ b ∧ b < 256 := by
                    rcases hb with ⟨_, _, hb⟩ | ⟨b0, b1, _⟩
                    · obtain ⟨s, s0, s1, s2⟩ := some
                      have := hb s s0 s1; omega
                    · exact ⟨b0, b1⟩
                  have sb := j_gree_nn hg b0.1 b0.2
                  refine t13_15_92 h (fun _ => ?_) (fun z => absurd z (by omega))
                  refine t13_15_159 h L ht b0.1 b0.2 (by omega) (by omega) ?_
                  rw [show left + (-1) = left - 1 by omega]
                  refine ih (left - 1) _ (by omega) (by omega) ?_ (fun x hx => by rw [j_up_ne hx]; exact fr x hx)
                  rw [j_up_u]
                  exact j_gree_step hc0 hg hb b0.1
              exact find 0 (-1, -1) ⟨(by omega), (by omega), Or.inl ⟨rfl, rfl, fun s s0 s1 => absurd s1 (by omega)⟩⟩
        exact main left.toNat left V1 (by omega) (by omega) start g4
      · have none : ∀ s : Int, 0 ≤ s → s < 256 → c s ≤ 0 := fun s s0 s1 => by
          have := j_pre_one 256 s nn s0 s1
          rw [show (((256 : Nat) : Nat) : Int) = 256 from rfl] at this
          by_cases e : 0 < c s
          · rw [if_pos e] at this; omega
          · omega
        refine t13_15_51 h ?_
        have flat : ∀ (i : Int) (V2 : jH), (0 ≤ i ∧ i ≤ 256 ∧ (∀ s : Int, 0 ≤ s → s < i → V2 (a + 20) s = al / 256) ∧ ∀ x : Int, x ≠ a + 20 → V2 x = V x) → j_ok n_KT 9 C G 53 [(0, (2, a)), (1, (0, al)), (3, (0, i))] [] S V2 0 0 := by
          refine j_loop (N := 256) (fun i V2 hi hI kk => ?_) (fun i V2 hi hI => ?_)
          · obtain ⟨x0, x1, x2, x3⟩ := hI
            refine t13_15_53 h (fun z => absurd z (by omega)) (fun _ => ?_)
            refine t13_15_60 h L ht (by omega) x0 hi (by omega) (kk _ ⟨(by omega), (by omega), fun s s0 s1 => ?_, fun x hx => by rw [j_up_ne hx]; exact x3 x hx⟩)
            by_cases e : s = i
            · rw [e, j_up_at]
            · rw [j_up_off e]; exact x2 s s0 (by omega)
          · obtain ⟨x0, x1, x2, x3⟩ := hI
            have ei : i = 256 := by omega
            rw [ei] at x2
            exact t13_15_53 h (fun _ => t13_15_77 h R ⟨rfl, Or.inr ⟨none, x2⟩, x3⟩ (Nat.le_refl _) (Nat.le_refl _)) (fun z => absurd z (by omega))
        exact flat 0 V1 ⟨(by omega), (by omega), fun s s0 s1 => absurd s1 (by omega), g4⟩
  exact one 0 (al, V) ⟨(by omega), (by omega), by show al = al - 0; omega, fun s s0 s1 => absurd s1 (by omega), fun _ _ => rfl⟩
theorem m13_16 (l : Launch) (n : Nat) : M13_16 l 0 0 (fun x f i S V => j_arr S x n ∧ n ≤ 100000 ∧ 0 ≤ f ∧ f ≤ 100000 ∧ 0 ≤ i ∧ f + i ≤ n) (fun x f i S V r S' V' => S' = S ∧ V' = V ∧ r = j_bef (fun k => V x (f + k)) i % 4) := by
  refine e13_16 ?_
  rintro C G h hrm hcs hl hn x f i S V ⟨hx, hn9, f0, f1, i0, i1⟩ R
  refine t13_16_0 h (fun q => ?_) (fun q => ?_)
  · refine t13_16_8 h (by omega) (by omega) hx (by omega) (by omega) (t13_16_17 h R ⟨rfl, rfl, ?_⟩ (Nat.le_refl _) (Nat.le_refl _))
    unfold j_bef
    rw [if_neg q, show f + i - 1 = f + (i - 1) by omega]
  · refine t13_16_4 h (t13_16_17 h R ⟨rfl, rfl, ?_⟩ (Nat.le_refl _) (Nat.le_refl _))
    unfold j_bef
    rw [if_pos q]; rfl
/-- a row of the reference -/
def j_rw (V : jH) (a p : Int) : Int → Int := fun i => V (a + 3) (400 * p + i)
def j_rl (V V' : jH) (a k r p to at_ : Int) : Prop := (∀ q : Int, 0 ≤ q → q < j_parts k → j_deal (j_count (j_rw V a p) (j_ofPart k q) (V (a + 2) p)) (j_M r) (fun s => V' to (at_ + 256 * q + s))) ∧ (∀ i : Int, (i < at_ ∨ at_ + 256 * j_parts k ≤ i) → V' to i = V to i) ∧ ∀ c : Int, c ≠ a + 19 → c ≠ a + 20 → c ≠ to → V' c = V c
theorem m13_17 (l : Launch) : M13_17 l 0 0 (fun a k r p to at_ S V => j_L S ∧ 0 ≤ a ∧ 0 ≤ p ∧ p < 6 ∧ 8 ≤ r ∧ r ≤ 12 ∧ j_mR V (a + 1) ∧ ((to = a + 7 ∧ ∃ t : Int, 0 ≤ t ∧ t < 10 ∧ at_ = 1024 * t) ∨ (to = a + 21 ∧ at_ = 0))) (fun a k r p to at_ S V S' V' => S' = S ∧ j_rl V V' a k r p to at_) := by
  refine e13_17 ?_
  rintro C G h hrm hcs hl hn a k r p to at_ S V ht ⟨L, a0, p0, p1, r0, r1, hR, hto⟩ R
  obtain ⟨s0, s1, s2⟩ := hR p p0 p1
  rw [show a + 1 + 1 = a + 2 by omega, show a + 1 + 2 = a + 3 by omega] at *
  have hm := j_M_bd r0 r1
  have eM : (2 : Int) ^ r.toNat = j_M r := rfl
  have k3 : S.1 (a + 3) = 9 := by have := L11_1k L (L12_0k L ht); rw [show a + 1 + 2 = a + 3 by omega] at this; exact this
  obtain ⟨N, hN, hn0, hn1⟩ : ∃ N : Nat, j_arr S to N ∧ 0 ≤ at_ ∧ at_ + 1024 ≤ (N : Int) ∧ N ≤ 10240 := by
    rcases hto with ⟨e, t, t0, t1, e2⟩ | ⟨e, e2⟩
    · exact ⟨10240, by rw [e]; exact j_arr_of (j_mk7 L ht) (by decide) rfl, (by omega), by show at_ + 1024 ≤ 10240; omega, by omega⟩
    · exact ⟨1024, by rw [e]; exact j_arr_of (L12_11k L ht) (by decide) rfl, (by omega), by show at_ + 1024 ≤ 1024; omega, by omega⟩
  have ne : to ≠ a + 19 ∧ to ≠ a + 20 ∧ to ≠ a + 3 ∧ to ≠ a + 2 := by
    rcases hto with ⟨e, _⟩ | ⟨e, _⟩ <;> omega
  have pp := j_parts_bd k
  refine t13_17_0 h ?_
  have parts : ∀ (q : Int) (V1 : jH), (0 ≤ q ∧ q ≤ j_parts k ∧ (∀ x : Int, 0 ≤ x → x < q → j_deal (j_count (j_rw V a p) (j_ofPart k x) (V (a + 2) p)) (j_M r) (fun s => V1 to (at_ + 256 * x + s))) ∧ (∀ i : Int, (i < at_ ∨ at_ + 256 * q ≤ i) → V1 to i = V to i) ∧ ∀ c : Int, c ≠ a + 19 → c ≠ a + 20 → c ≠ to → V1 c = V c) → j_ok n_KT 8 C G 3 [(0, (2, a)), (1, (0, k)), (2, (0, r)), (3, (0, p)), (4, (2, to)), (5, (0, at_)), (6, (0, q))] [] S V1 0 0 := by
    refine j_loop (N := j_parts k) (fun q V1 hq hI kk => ?_) (fun q V1 hq hI => ?_)
    · obtain ⟨g0, g1, g2, g3, g4⟩ := hI
      have v2 : V1 (a + 2) = V (a + 2) := g4 _ (by omega) (by omega) (fun z => ne.2.2.2 z.symm)
      have v3 : V1 (a + 3) = V (a + 3) := g4 _ (by omega) (by omega) (fun z => ne.2.2.1 z.symm)
      have body : j_ok n_KT 8 C G 18 [(0, (2, a)), (1, (0, k)), (2, (0, r)), (3, (0, p)), (4, (2, to)), (5, (0, at_)), (6, (0, q))] [] S V1 0 0 := by
        refine t13_17_18 h ?_
        -- from the dealing on
        have deal : ∀ V2 : jH, (∀ s : Int, 0 ≤ s → s < 256 → V2 (a + 19) s = j_count (j_rw V a p) (j_ofPart k q) (V (a + 2) p) s) → (∀ c : Int, c ≠ a + 19 → V2 c = V1 c) → j_ok n_KT 8 C G 118 [(0, (2, a)), (1, (0, k)), (2, (0, r)), (3, (0, p)), (4, (2, to)), (5, (0, at_)), (6, (0, q))] [] S V2 0 0 := by
          intro V2 d1 d2
          refine t13_17_118 h hrm (by omega) (by omega) ht (m13_15 C.2.1) ⟨L, a0, by rw [eM]; exact hm.1, by rw [eM]; exact hm.2, fun s s0' s1' => ?_⟩ (Nat.zero_le _) (Nat.zero_le _) ?_
          · rw [d1 s s0' s1']
            have := j_count_bd (j_rw V a p) (j_ofPart k q) (n := V (a + 2) p) s s0
            omega
          · rintro S3 V3 ⟨e0, x1, x2⟩
            subst e0
            rw [eM] at x1
            have x1 : j_deal (j_count (j_rw V a p) (j_ofPart k q) (V (a + 2) p)) (j_M r) (V3 (a + 20)) := j_deal_congr (fun s s0' s1' => (d1 s s0' s1').symm) x1
            refine t13_17_125 h ?_
            have cp : ∀ (i : Int) (V4 : jH), (0 ≤ i ∧ i ≤ 256 ∧ (∀ s : Int, 0 ≤ s → s < i → V4 to (at_ + 256 * q + s) = V3 (a + 20) s) ∧ (∀ j : Int, (j < at_ + 256 * q ∨ at_ + 256 * q + i ≤ j) → V4 to j = V3 to j) ∧ ∀ c : Int, c ≠ to → V4 c = V3 c) → j_ok n_KT 8 C G 128 [(0, (2, a)), (1, (0, k)), (2, (0, r)), (3, (0, p)), (4, (2, to)), (5, (0, at_)), (6, (0, q)), (7, (0, i))] [] S3 V4 0 0 := by
              refine j_loop (N := 256) (fun i V4 hi hI ll => ?_) (fun i V4 hi hI => ?_)
              · obtain ⟨y0, y1, y2, y3, y4⟩ := hI
                have v20 : V4 (a + 20) i = V3 (a + 20) i := by rw [y4 _ (fun z => ne.2.1 z.symm)]
                refine t13_17_128 h (fun z => absurd z (by omega)) (fun _ => ?_)
                refine t13_17_136 h L (by omega) (by omega) (by omega) ht y0 hi hN (by omega) (by omega) (by omega) (ll _ ⟨(by omega), (by omega), fun s s0' s1' => ?_, fun j hj => ?_, fun c hc => by rw [j_up_ne hc]; exact y4 c hc⟩)
                · by_cases e : s = i
                  · rw [e, j_up_at]; exact v20
                  · rw [j_up_off (by omega)]; exact y2 s s0' (by omega)
                · rw [j_up_off (by omega)]; exact y3 j (by omega)
              · obtain ⟨y0, y1, y2, y3, y4⟩ := hI
                have ei : i = 256 := by omega
                rw [ei] at y2 y3
                have vto : ∀ j : Int, V3 to j = V1 to j := fun j => by rw [x2 _ ne.2.1, d2 _ ne.1]
                refine t13_17_128 h (fun _ => ?_) (fun z => absurd z (by omega))
                refine t13_17_164 h (by omega) (kk _ ⟨(by omega), (by omega), fun x z0 z1 => ?_, fun j hj => ?_, fun c c0 c1 c2 => ?_⟩)
                · by_cases e : x = q
                  · rw [e]; exact j_deal_shc (fun s s0' s1' => y2 s s0' s1') x1
                  · refine j_deal_shc (fun s s0' s1' => ?_) (g2 x z0 (by omega))
                    rw [y3 _ (by omega), vto]
                · rw [y3 j (by omega), vto]; exact g3 j (by omega)
                · rw [y4 c c2, x2 c c1, d2 c c0]; exact g4 c c0 c1 c2
            exact cp 0 V3 ⟨(by omega), (by omega), fun s z0 z1 => absurd z1 (by omega), fun j _ => rfl, fun _ _ => rfl⟩
        have count : ∀ V2 : jH, (∀ s : Int, 0 ≤ s → s < 256 → V2 (a + 19) s = 0) → (∀ c : Int, c ≠ a + 19 → V2 c = V1 c) → j_ok n_KT 8 C G 43 [(0, (2, a)), (1, (0, k)), (2, (0, r)), (3, (0, p)), (4, (2, to)), (5, (0, at_)), (6, (0, q))] [] S V2 0 0 := by
          intro V2 d1 d2
          refine t13_17_43 h ?_
          have lp : ∀ (i : Int) (V3 : jH), (0 ≤ i ∧ i ≤ V (a + 2) p ∧ (∀ s : Int, 0 ≤ s → s < 256 → V3 (a + 19) s = j_count (j_rw V a p) (j_ofPart k q) i s) ∧ ∀ c : Int, c ≠ a + 19 → V3 c = V1 c) → j_ok n_KT 8 C G 46 [(0, (2, a)), (1, (0, k)), (2, (0, r)), (3, (0, p)), (4, (2, to)), (5, (0, at_)), (6, (0, q)), (7, (0, i))] [] S V3 0 0 := by
            refine j_loop (N := V (a + 2) p) (fun i V3 hi hI ll => ?_) (fun i V3 hi hI => ?_)
            · obtain ⟨y0, y1, y2, y3⟩ := hI
              have w2 : V3 (a + 2) p = V (a + 2) p := by rw [y3 _ (by omega), v2]
              have w3 : V3 (a + 3) = V (a + 3) := by rw [y3 _ (by omega), v3]
              have hs := s2 i y0 hi
              have es : ∀ s : Int, j_count (j_rw V a p) (j_ofPart k q) (i + 1) s = j_count (j_rw V a p) (j_ofPart k q) i s + if j_rw V a p i = s ∧ (j_ofPart k q = -1 ∨ j_ofPart k q = j_bef (j_rw V a p) i % 4) then 1 else 0 := fun s => by unfold j_count; rw [j_pre_s _ y0]
              have skip : ¬ (j_ofPart k q = -1 ∨ j_ofPart k q = j_bef (j_rw V a p) i % 4) → j_ok n_KT 8 C G 112 [(0, (2, a)), (1, (0, k)), (2, (0, r)), (3, (0, p)), (4, (2, to)), (5, (0, at_)), (6, (0, q)), (7, (0, i))] [] S V3 0 0 := fun z => t13_17_112 h (by omega) (ll _ ⟨(by omega), (by omega), fun s s0' s1' => by rw [es, if_neg (fun w => z w.2), y2 s s0' s1']; omega, y3⟩)
              have add : (j_ofPart k q = -1 ∨ j_ofPart k q = j_bef (j_rw V a p) i % 4) → j_ok n_KT 8 C G 87 [(0, (2, a)), (1, (0, k)), (2, (0, r)), (3, (0, p)), (4, (2, to)), (5, (0, at_)), (6, (0, q)), (7, (0, i))] [] S V3 0 0 := fun z => by
                have cb := j_count_bd (j_rw V a p) (j_ofPart k q) (n := i) (V (a + 3) (400 * p + i)) y0
                refine t13_17_87 h L ht (by omega) (by omega) (by omega) (by omega) (by rw [w3]; exact hs.1) (by rw [w3]; exact hs.2) (by rw [w3, y2 _ hs.1 hs.2]; omega) (t13_17_112 h (by omega) (ll _ ⟨(by omega), (by omega), fun s s0' s1' => ?_, fun c hc => by rw [j_up_ne hc]; exact y3 c hc⟩))
                rw [w3]
                by_cases e : s = V (a + 3) (400 * p + i)
                · rw [e, j_up_at, es, if_pos ⟨rfl, z⟩, y2 _ hs.1 hs.2]
                · rw [j_up_off e, es, if_neg (fun w => e w.1.symm), y2 s s0' s1']; omega
              refine t13_17_46 h L ht p0 p1 (fun z => absurd z (by rw [w2]; omega)) (fun _ => ?_)
              refine t13_17_60 h (fun z => add (Or.inl (by unfold j_ofPart; rw [if_neg z]))) (fun z => ?_)
              refine t13_17_65 h L hrm ht (by omega) (m13_16 C.2.1 2400) ⟨j_arr_of k3 (by decide) rfl, (by omega), (by omega), (by omega), y0, by show 400 * p + i ≤ 2400; omega⟩ (Nat.zero_le _) (Nat.zero_le _) ?_
              rintro y5 S5 V5 ⟨e0, e1, er⟩
              subst e0; subst e1
              rw [w3] at er
              have er : y5 = j_bef (j_rw V a p) i % 4 := er
              have eo : j_ofPart k q = q := by unfold j_ofPart; rw [if_pos z]
              exact t13_17_82 h (fun w => skip (by rw [eo]; omega)) (fun w => add (Or.inr (by rw [eo]; omega)))
            · obtain ⟨y0, y1, y2, y3⟩ := hI
              have w2 : V3 (a + 2) p = V (a + 2) p := by rw [y3 _ (by omega), v2]
              have ei : i = V (a + 2) p := by omega
              rw [ei] at y2
              exact t13_17_46 h L ht p0 p1 (fun _ => deal V3 y2 y3) (fun z => absurd z (by rw [w2]; omega))
          exact lp 0 V2 ⟨(by omega), s0, fun s s0' s1' => by rw [d1 s s0' s1']; rfl, d2⟩
        have zero : ∀ (i : Int) (V2 : jH), (0 ≤ i ∧ i ≤ 256 ∧ (∀ s : Int, 0 ≤ s → s < i → V2 (a + 19) s = 0) ∧ ∀ c : Int, c ≠ a + 19 → V2 c = V1 c) → j_ok n_KT 8 C G 21 [(0, (2, a)), (1, (0, k)), (2, (0, r)), (3, (0, p)), (4, (2, to)), (5, (0, at_)), (6, (0, q)), (7, (0, i))] [] S V2 0 0 := by
          refine j_loop (N := 256) (fun i V2 hi hI ll => ?_) (fun i V2 hi hI => ?_)
          · obtain ⟨y0, y1, y2, y3⟩ := hI
            refine t13_17_21 h (fun z => absurd z (by omega)) (fun _ => ?_)
            refine t13_17_29 h L ht y0 hi (by omega) (ll _ ⟨(by omega), (by omega), fun s s0' s1' => ?_, fun c hc => by rw [j_up_ne hc]; exact y3 c hc⟩)
            by_cases e : s = i
            · rw [e, j_up_at]
            · rw [j_up_off e]; exact y2 s s0' (by omega)
          · obtain ⟨y0, y1, y2, y3⟩ := hI
            have ei : i = 256 := by omega
            rw [ei] at y2
            exact t13_17_21 h (fun _ => count V2 y2 y3) (fun z => absurd z (by omega))
        exact zero 0 V1 ⟨(by omega), (by omega), fun s z0 z1 => absurd z1 (by omega), fun _ _ => rfl⟩
      unfold j_parts at hq
      refine t13_17_3 h (fun z => t13_17_14 h (t13_17_15 h (fun w => absurd w (by rw [if_neg z] at hq; omega)) (fun _ => body))) (fun z => t13_17_10 h (t13_17_15 h (fun w => absurd w (by rw [if_pos z] at hq; omega)) (fun _ => body)))
    · obtain ⟨g0, g1, g2, g3, g4⟩ := hI
      have eq : q = j_parts k := by omega
      rw [eq] at g2 g3
      have fin : j_ok n_KT 8 C G 170 [] [] S V1 0 0 := t13_17_170 h R ⟨rfl, g2, g3, g4⟩ (Nat.le_refl _) (Nat.le_refl _)
      unfold j_parts at eq
      exact t13_17_3 h (fun z => t13_17_14 h (t13_17_15 h (fun _ => fin) (fun w => absurd w (by rw [if_neg z] at eq; omega)))) (fun z => t13_17_10 h (t13_17_15 h (fun _ => fin) (fun w => absurd w (by rw [if_pos z] at eq; omega))))
  exact parts 0 V ⟨(by omega), (by omega), fun x z0 z1 => absurd z1 (by omega), fun _ _ => rfl, fun _ _ _ _ => rfl⟩
def j_r8 (a tb p : Int) (V : jH) (r : Int) (V' : jH) : Prop :=
  (¬ (0 ≤ tb ∧ tb < V (a + 1) 2 ∧ 0 ≤ p ∧ p < 6) ∧ V' = j_md V a ∧ r = -1) ∨
  (0 ≤ tb ∧ tb < V (a + 1) 2 ∧ 0 ≤ p ∧ p < 6 ∧ ((¬ (V (a + 4) tb = 2 ∨ V (a + 4) tb = 3) ∧ V' = j_md V a ∧ r = -3) ∨ ((V (a + 4) tb = 2 ∨ V (a + 4) tb = 3) ∧ (
    (V (a + 2) p = 0 ∧ V' = j_md V a ∧ r = -7) ∨ (V (a + 2) p ≠ 0 ∧ r = 0 ∧ ∃ V1 : jH, j_rl V V1 a (V (a + 4) tb) (V (a + 5) tb) p (a + 7) (1024 * tb) ∧ V' = j_up V1 (a + 6) tb 1)))))
theorem m13_18 (l : Launch) : M13_18 l 0 0 (fun a tb p S V => j_mI S V a) (fun a tb p S V r S' V' => S' = S ∧ j_r8 a tb p V r V') := by
  refine e13_18 ?_
  rintro C G h hrm hcs hl hn a tb p S V ht hI R
  obtain ⟨L, -, a0, ⟨hR, hS, hB⟩, hk, h2, h4, h3⟩ := id hI
  have F7 : ∀ {f : Int}, f < 0 → f < 0 ∧ -2147483648 ≤ V a 3 ∧ V a 3 < 2147483647 := fun hf => ⟨hf, j_mI_F hI⟩
  have no : ¬ (0 ≤ tb ∧ tb < V (a + 1) 2 ∧ 0 ≤ p ∧ p < 6) → j_ok n_KT 3 C G 15 [(0, (2, a))] [] S V 0 0 := fun z => (t13_18_15 h hrm ht (m13_2 C.2.1) (F7 (by decide)) (Nat.zero_le _) (Nat.zero_le _) (by rintro r9 S9 V9 ⟨e0, e9, er⟩; subst e0; subst e9; subst er; exact t13_18_20 h R (⟨rfl, Or.inl ⟨z, rfl, rfl⟩⟩) (Nat.zero_le _) (Nat.zero_le _)))
  refine t13_18_0 h hrm ht (m13_5 C.2.1) ⟨L, hS.1, hS.2.1⟩ (Nat.zero_le _) (Nat.zero_le _) ?_
  rintro y S1 V1 ⟨e0, e1, hy⟩
  subst e0; subst e1
  refine t13_18_5 h (fun q => no (fun z => hy.n q ⟨z.1, z.2.1⟩)) (fun q => ?_)
  obtain ⟨t0, t1⟩ := hy.y q
  obtain ⟨t2, hT⟩ := j_mI_T hI t0 t1
  refine t13_18_8 h hrm (m13_4 C.2.1) trivial (Nat.zero_le _) (Nat.zero_le _) ?_
  rintro y2 S2 V2 ⟨e0, e1, hy2⟩
  subst e0; subst e1
  refine t13_18_12 h (fun q => ?_) (fun q => no (fun z => hy2.n q z.2.2))
  obtain ⟨p0, p1⟩ := hy2.y q
  have r8 := hT.2.2.1
  have r12 := hT.2.2.2.1
  rw [show a + 1 + 4 = a + 5 by omega] at r8 r12
  have go : (V2 (a + 4) tb = 2 ∨ V2 (a + 4) tb = 3) → j_ok n_KT 3 C G 54 [(0, (2, a)), (1, (0, tb)), (2, (0, p))] [] S2 V2 0 0 := by
    intro kk
    refine t13_18_54 h L ht p0 p1 (fun z => ?_) (fun z => (t13_18_66 h hrm ht (m13_2 C.2.1) (F7 (by decide)) (Nat.zero_le _) (Nat.zero_le _) (by rintro r9 S9 V9 ⟨e0, e9, er⟩; subst e0; subst e9; subst er; exact t13_18_72 h R (⟨rfl, Or.inr ⟨t0, t1, p0, p1, Or.inr ⟨kk, Or.inl ⟨z, rfl, rfl⟩⟩⟩⟩) (Nat.zero_le _) (Nat.zero_le _))))
    refine t13_18_73 h L hrm ht t0 t2 (m13_11 C.2.1) ⟨t0, t2, (by omega), (by omega), (by omega), (by omega)⟩ (Nat.zero_le _) (Nat.zero_le _) ?_
    rintro y3 S3 V3 ⟨e0, e1, er⟩
    subst e0; subst e1
    rw [er, show 1024 * tb + 256 * 0 + 0 = 1024 * tb by omega]
    refine t13_18_107 h hrm ht (m13_17 C.2.1) ⟨L, a0, p0, p1, r8, r12, hR, Or.inl ⟨rfl, tb, t0, t2, rfl⟩⟩ (Nat.zero_le _) (Nat.zero_le _) ?_
    rintro S4 V4 ⟨e0, hl⟩
    subst e0
    exact t13_18_110 h L ht t0 t2 R ⟨rfl, Or.inr ⟨t0, t1, p0, p1, Or.inr ⟨kk, Or.inr ⟨z, rfl, V4, hl, rfl⟩⟩⟩⟩ (Nat.le_refl _) (Nat.le_refl _)
  refine t13_18_21 h L ht t0 t2 (fun z => go (Or.inl z)) (fun z => t13_18_34 h L ht t0 t2 (fun z2 => go (Or.inr z2)) (fun z2 => (t13_18_47 h hrm ht (m13_2 C.2.1) (F7 (by decide)) (Nat.zero_le _) (Nat.zero_le _) (by rintro r9 S9 V9 ⟨e0, e9, er⟩; subst e0; subst e9; subst er; exact t13_18_53 h R (⟨rfl, Or.inr ⟨t0, t1, p0, p1, Or.inl ⟨by omega, rfl, rfl⟩⟩⟩) (Nat.zero_le _) (Nat.zero_le _)))))
