/-! THE CLASS: the guide -/
theorem j_rich_un {b : Int → Int} {s g m g' m' : Int} (h : j_rich b s 256 g m) (h' : j_rich b s 256 g' m') : g = g' := by
  rcases h with ⟨e1, e2, h1⟩ | ⟨h1, h2, h3, e2, h5, h6⟩ <;> rcases h' with ⟨f1, f2, k1⟩ | ⟨k1, k2, k3, f2, k5, k6⟩
  · omega
  · have := h1 g' k1 k2 k3; omega
  · have := k1 g h1 h2 h3; omega
  · have p := h6 g' k1 k2 k3
    have q := k6 g h1 h2 h3
    rcases Int.lt_or_le g g' with z | z
    · have := q.2 z; omega
    · rcases Int.lt_or_le g' g with z2 | z2
      · have := p.2 z2; omega
      · omega
/-- the lowest of the richest signs but one, and what it has -/
def j_gvN (b : Int → Int) (s : Int) : Nat → Int × Int
  | 0 => (-1, 1)
  | n + 1 => if (j_gvN b s n).2 < j_sh b n ∧ (n : Int) ≠ s then ((n : Int), j_sh b n) else j_gvN b s n
theorem j_gvN_rich (b : Int → Int) (s : Int) : ∀ n : Nat, j_rich b s n (j_gvN b s n).1 (j_gvN b s n).2
  | 0 => Or.inl ⟨rfl, rfl, fun o o0 o1 => absurd o1 (by omega)⟩
  | n + 1 => by
    have ih := j_gvN_rich b s n
    have en : ((n + 1 : Nat) : Int) = (n : Int) + 1 := by omega
    rw [en]
    have es : j_gvN b s (n + 1) = if (j_gvN b s n).2 < j_sh b n ∧ (n : Int) ≠ s then ((n : Int), j_sh b n) else j_gvN b s n := rfl
    by_cases hc : (j_gvN b s n).2 < j_sh b n ∧ (n : Int) ≠ s
    · rw [es, if_pos hc]
      show j_rich b s ((n : Int) + 1) (n : Int) (j_sh b n)
      rcases ih with ⟨g1, g2, g3⟩ | ⟨g1, g2, g3, g4, g5, g6⟩
      · refine Or.inr ⟨by omega, by omega, hc.2, rfl, by omega, fun o o0 o1 o2 => ?_⟩
        by_cases e : o = n
        · rw [e]; exact ⟨Int.le_refl _, fun z => absurd z (by omega)⟩
        · have := g3 o o0 (by omega) o2
          exact ⟨by omega, fun _ => by omega⟩
      · refine Or.inr ⟨by omega, by omega, hc.2, rfl, by omega, fun o o0 o1 o2 => ?_⟩
        by_cases e : o = n
        · rw [e]; exact ⟨Int.le_refl _, fun z => absurd z (by omega)⟩
        · have := (g6 o o0 (by omega) o2).1
          exact ⟨by omega, fun _ => by omega⟩
    · rw [es, if_neg hc]
      rcases ih with ⟨g1, g2, g3⟩ | ⟨g1, g2, g3, g4, g5, g6⟩
      · refine Or.inl ⟨g1, g2, fun o o0 o1 o2 => ?_⟩
        by_cases e : o = n
        · rw [e] at o2 ⊢; omega
        · exact g3 o o0 (by omega) o2
      · refine Or.inr ⟨g1, by omega, g3, g4, g5, fun o o0 o1 o2 => ?_⟩
        by_cases e : o = n
        · rw [e] at o2 ⊢; exact ⟨by omega, fun z => absurd z (by omega)⟩
        · exact g6 o o0 (by omega) o2
def j_gv (b : Int → Int) (s : Int) : Int := (j_gvN b s 256).1
theorem j_gv_rich (b : Int → Int) (s : Int) : j_rich b s 256 (j_gv b s) (j_gvN b s 256).2 := j_gvN_rich b s 256
theorem j_gv_of {b : Int → Int} {s g m : Int} (h : j_rich b s 256 g m) : g = j_gv b s := j_rich_un h (j_gv_rich b s)
theorem j_gv_bd (b : Int → Int) (s : Int) : -1 ≤ j_gv b s ∧ j_gv b s < 256 := by
  rcases j_gv_rich b s with ⟨g1, g2, g3⟩ | ⟨g1, g2, g3, g4, g5, g6⟩ <;> omega
theorem j_rich_congr {b b' : Int → Int} {s g m : Int} (hb : ∀ j : Int, 0 ≤ j → j ≤ 256 → b' j = b j) (h : j_rich b s 256 g m) : j_rich b' s 256 g m := by
  have e : ∀ o : Int, 0 ≤ o → o < 256 → j_sh b' o = j_sh b o := fun o o0 o1 => by
    show b' (o + 1) - b' o = b (o + 1) - b o
    rw [hb o o0 (by omega), hb (o + 1) (by omega) (by omega)]
  rcases h with ⟨g1, g2, g3⟩ | ⟨g1, g2, g3, g4, g5, g6⟩
  · exact Or.inl ⟨g1, g2, fun o o0 o1 o2 => by rw [e o o0 o1]; exact g3 o o0 o1 o2⟩
  · exact Or.inr ⟨g1, g2, g3, by rw [e g g1 g2]; exact g4, g5, fun o o0 o1 o2 => by rw [e o o0 o1]; exact g6 o o0 o1 o2⟩
theorem j_gv_congr {b b' : Int → Int} {s : Int} (hb : ∀ j : Int, 0 ≤ j → j ≤ 256 → b' j = b j) : j_gv b' s = j_gv b s :=
  (j_gv_of (j_rich_congr hb (j_gv_rich b s))).symm
/-- a deal grown behind a sign -/
def j_gr (b : Int → Int) (s : Int) : Int → Int := fun j => if j_gv b s < 0 then b j else if j_gv b s < s then (if j_gv b s < j ∧ j ≤ s then b j + (-1) else b j) else if s < j ∧ j ≤ j_gv b s then b j + 1 else b j
theorem j_give_gr (V : jH) (a s : Int) : j_give V a s (j_gv (V a) s) = j_row V a (j_gr (V a) s) := by
  unfold j_give
  by_cases h1 : j_gv (V a) s < 0
  · have : j_gr (V a) s = V a := by funext j; unfold j_gr; rw [if_pos h1]
    rw [if_pos h1, this, j_row_self]
  · rw [if_neg h1]
    by_cases h2 : j_gv (V a) s < s
    · rw [if_pos h2]
      unfold j_raise
      congr 1
      funext j; unfold j_gr; rw [if_neg h1, if_pos h2]
    · rw [if_neg h2]
      unfold j_raise
      congr 1
      funext j; unfold j_gr; rw [if_neg h1, if_neg h2]
theorem j_gr_congr {b b' : Int → Int} {s : Int} (hb : ∀ j : Int, 0 ≤ j → j ≤ 256 → b' j = b j) {j : Int} (j0 : 0 ≤ j) (j1 : j ≤ 256) : j_gr b' s j = j_gr b s j := by
  unfold j_gr
  rw [j_gv_congr hb, hb j j0 j1]
/-- begins that tell a whole deal -/
def j_dl (b : Int → Int) (m M : Int) : Prop := b 0 = 0 ∧ b 256 = M ∧ ∀ s : Int, 0 ≤ s → s < 256 → m ≤ j_sh b s
theorem j_dl_mono {b : Int → Int} {M : Int} (h : j_dl b 0 M) : ∀ (n : Nat) (i : Int), 0 ≤ i → i + n ≤ 256 → b i ≤ b (i + n)
  | 0, i, _, _ => by simp
  | n + 1, i, h0, h1 => by
    have := j_dl_mono h n i h0 (by omega)
    have h2 : 0 ≤ b (i + n + 1) - b (i + n) := h.2.2 (i + n) (by omega) (by omega)
    rw [show i + ((n + 1 : Nat) : Int) = i + n + 1 by omega]
    omega
theorem j_dl_le {b : Int → Int} {M i j : Int} (h : j_dl b 0 M) (h0 : 0 ≤ i) (h1 : i ≤ j) (h2 : j ≤ 256) : b i ≤ b j := by
  have := j_dl_mono h (j - i).toNat i h0 (by omega)
  rw [show i + ((j - i).toNat : Int) = j by omega] at this
  exact this
theorem j_dl_bd {b : Int → Int} {M B : Int} (h : j_dl b 0 M) (hB : M ≤ B) : j_bd b B := fun j j0 j1 => by
  have p := j_dl_le h (by omega) j0 j1
  have q := j_dl_le h j0 j1 (by omega)
  rw [h.1] at p
  rw [h.2.1] at q
  omega
theorem j_dl_weak {b : Int → Int} {m m' M : Int} (h : j_dl b m M) (hm : m' ≤ m) : j_dl b m' M := ⟨h.1, h.2.1, fun s s0 s1 => by have := h.2.2 s s0 s1; omega⟩
theorem j_dl_congr {b b' : Int → Int} {m M : Int} (hb : ∀ j : Int, 0 ≤ j → j ≤ 256 → b' j = b j) (h : j_dl b m M) : j_dl b' m M := by
  refine ⟨by rw [hb 0 (by omega) (by omega)]; exact h.1, by rw [hb 256 (by omega) (by omega)]; exact h.2.1, fun s s0 s1 => ?_⟩
  have := h.2.2 s s0 s1
  show m ≤ b' (s + 1) - b' s
  rw [hb s s0 (by omega), hb (s + 1) (by omega) (by omega)]
  exact this
theorem j_gr_dl {b : Int → Int} {s M : Int} (s0 : 0 ≤ s) (s1 : s < 256) (h : j_dl b 1 M) : j_dl (j_gr b s) 1 M := by
  obtain ⟨h1, h2, h3⟩ := h
  have hg := j_gv_rich b s
  generalize eg : j_gv b s = g at hg
  have e : ∀ j : Int, j_gr b s j = if g < 0 then b j else if g < s then (if g < j ∧ j ≤ s then b j + (-1) else b j) else if s < j ∧ j ≤ g then b j + 1 else b j := fun j => by unfold j_gr; rw [eg]
  rcases hg with ⟨g1, g2, g3⟩ | ⟨g1, g2, g3, g4, g5, g6⟩
  · have e2 : ∀ j : Int, j_gr b s j = b j := fun j => by rw [e, if_pos (by omega)]
    refine ⟨by rw [e2]; exact h1, by rw [e2]; exact h2, fun t t0 t1 => ?_⟩
    have := h3 t t0 t1
    show 1 ≤ j_gr b s (t + 1) - j_gr b s t
    rw [e2, e2]; exact this
  · have hgs : 2 ≤ b (g + 1) - b g := by have : (j_gvN b s 256).2 = b (g + 1) - b g := g4; omega
    by_cases hs : g < s
    · have e2 : ∀ j : Int, j_gr b s j = if g < j ∧ j ≤ s then b j + (-1) else b j := fun j => by rw [e, if_neg (by omega), if_pos hs]
      refine ⟨by rw [e2, if_neg (by omega)]; exact h1, by rw [e2, if_neg (by omega)]; exact h2, fun t t0 t1 => ?_⟩
      have h4 : 1 ≤ b (t + 1) - b t := h3 t t0 t1
      show 1 ≤ j_gr b s (t + 1) - j_gr b s t
      rw [e2, e2]
      by_cases et : t = g
      · subst et
        rw [if_pos (by omega), if_neg (by omega)]; omega
      · by_cases c1 : g < t ∧ t ≤ s
        · rw [if_pos c1]
          split <;> omega
        · rw [if_neg c1, if_neg (by omega)]; exact h4
    · have e2 : ∀ j : Int, j_gr b s j = if s < j ∧ j ≤ g then b j + 1 else b j := fun j => by rw [e, if_neg (by omega), if_neg hs]
      refine ⟨by rw [e2, if_neg (by omega)]; exact h1, by rw [e2, if_neg (by omega)]; exact h2, fun t t0 t1 => ?_⟩
      have h4 : 1 ≤ b (t + 1) - b t := h3 t t0 t1
      show 1 ≤ j_gr b s (t + 1) - j_gr b s t
      rw [e2, e2]
      by_cases et : t = g
      · subst et
        rw [if_neg (by omega), if_pos (by omega)]; omega
      · by_cases c1 : s < t ∧ t ≤ g
        · rw [if_pos c1, if_pos (by omega)]; omega
        · rw [if_neg c1]
          split <;> omega
/-- the growing deal behind the first n signs of a row -/
def j_G (r : Int) (w : Int → Int) : Nat → Int → Int
  | 0 => fun j => j * (j_M r / 256)
  | n + 1 => j_gr (j_G r w n) (w n)
theorem j_M_256 {r : Int} (h0 : 8 ≤ r) (h1 : r ≤ 12) : 256 * (j_M r / 256) = j_M r ∧ 1 ≤ j_M r / 256 ∧ j_M r / 256 ≤ 16 := by
  have : r = 8 ∨ r = 9 ∨ r = 10 ∨ r = 11 ∨ r = 12 := by omega
  rcases this with e | e | e | e | e <;> subst e <;> decide
theorem j_G_dl {r : Int} {w : Int → Int} (h0 : 8 ≤ r) (h1 : r ≤ 12) : ∀ n : Nat, (∀ i : Int, 0 ≤ i → i < n → 0 ≤ w i ∧ w i < 256) → j_dl (j_G r w n) 1 (j_M r)
  | 0, _ => by
    have := j_M_256 h0 h1
    refine ⟨by show 0 * (j_M r / 256) = 0; omega, by show 256 * (j_M r / 256) = j_M r; exact this.1, fun s s0 s1 => ?_⟩
    show 1 ≤ (s + 1) * (j_M r / 256) - s * (j_M r / 256)
    rw [Int.add_mul]
    omega
  | n + 1, hw => j_gr_dl (hw n (by omega) (by omega)).1 (hw n (by omega) (by omega)).2 (j_G_dl h0 h1 n (fun i i0 i1 => hw i i0 (by omega)))
/-- the deal that counts at place i of a row -/
def j_D (k r : Int) (B : Int → Int → Int) (w : Int → Int) (i : Int) : Int → Int := if k = 4 then j_G r w i.toNat else if k = 3 then B (j_bef w i % 4) else B 0
theorem j_D_dl {k r : Int} {B : Int → Int → Int} {w : Int → Int} {n i : Int} (h0 : 8 ≤ r) (h1 : r ≤ 12) (hB : ∀ p : Int, 0 ≤ p → p < j_parts k → j_dl (B p) 0 (j_M r)) (hw : ∀ i : Int, 0 ≤ i → i < n → 0 ≤ w i ∧ w i < 256) (i0 : 0 ≤ i) (i1 : i ≤ n) : j_dl (j_D k r B w i) 0 (j_M r) := by
  unfold j_D
  split
  · exact j_dl_weak (j_G_dl h0 h1 i.toNat (fun x x0 x1 => hw x x0 (by omega))) (by decide)
  · split
    · rename_i hk
      exact hB _ (by omega) (by unfold j_parts; rw [if_pos hk]; omega)
    · exact hB 0 (by omega) (by unfold j_parts; split <;> omega)
def j_g0 (k r : Int) (g : Int → Int) : Int → Int := if k = 4 then (fun j => if 0 ≤ j ∧ j ≤ 256 then j * (j_M r / 256) else g j) else g
theorem m6_2 (l : Launch) : M6_2 l 0 0 (fun a t S V => j_L S ∧ S.1 t = 29 ∧ t ≠ a ∧ t ≠ a + 2 ∧ 8 ≤ V t 2 ∧ V t 2 ≤ 12) (fun a t S V S' V' => S' = S ∧ V' = j_row (j_up V a 1 0) (a + 2) (j_g0 (V t 1) (V t 2) (V (a + 2)))) := by
  refine e6_2 ?_
  rintro C G h hrm hcs hl hn a t S V ha ⟨L, ht, n1, n2, r0, r1⟩ R
  have et : j_up V a 1 0 t = V t := j_up_ne n1
  have ea : j_up V a 1 0 (a + 2) = V (a + 2) := j_up_ne (by omega)
  have hM := j_M_bd r0 r1
  refine t6_2_0 h ha ht (fun q => ?_) (fun q => ?_)
  · rw [et] at q
    refine t6_2_24 h R ⟨rfl, ?_⟩ (Nat.le_refl _) (Nat.le_refl _)
    unfold j_g0
    rw [if_neg q, ← ea, j_row_self]
  · rw [et] at q
    refine t6_2_13 h L hrm ha ht (m10_4 C.2.1) ⟨by rw [et]; exact r0, by rw [et]; exact r1⟩ (Nat.zero_le _) (Nat.zero_le _) ?_
    rintro r S1 V1 ⟨rfl, rfl, er⟩
    rw [et] at er
    refine t6_2_21 h hrm (L4_0k L ha) (m4_8 C.2.1) ⟨L, by rw [er]; omega, by rw [er]; omega⟩ (Nat.zero_le _) (Nat.zero_le _) ?_
    rintro S2 V2 ⟨rfl, rfl⟩
    refine t6_2_24 h R ⟨rfl, ?_⟩ (Nat.le_refl _) (Nat.le_refl _)
    unfold j_g0 j_flat
    rw [if_pos q, er, show a + 1 + 1 = a + 2 by omega, ea]
/-- which deal the guide tells -/
def j_gd (V : jH) (a t : Int) : Int := if V t 1 = 4 then a + 1 else if V t 1 = 3 then t + 2 + 2 * (V a 1 % 4) else t + 2
theorem m6_3 (l : Launch) : M6_3 l 0 0 (fun a t S V => j_L S ∧ S.1 t = 29) (fun a t S V r S' V' => S' = S ∧ V' = V ∧ r = j_gd V a t) := by
  refine e6_3 ?_
  rintro C G h hrm hcs hl hn a t S V ha ⟨L, ht⟩ R
  refine t6_3_0 h ht (fun q => ?_) (fun q => ?_)
  · refine t6_3_13 h L ht (fun q2 => ?_) (fun q2 => ?_)
    · refine t6_3_35 h (t6_3_36 h L (L8_0k L ht) (by omega) (by omega) R ⟨rfl, rfl, ?_⟩ (Nat.le_refl _) (Nat.le_refl _))
      unfold j_gd
      rw [if_neg q, if_neg q2]
      omega
    · refine t6_3_25 h hrm ha (m1_34 C.2.1) trivial (Nat.zero_le _) (Nat.zero_le _) ?_
      rintro r S1 V1 ⟨rfl, rfl, rfl⟩
      refine t6_3_32 h (t6_3_36 h L (L8_0k L ht) (by omega) (by omega) R ⟨rfl, rfl, ?_⟩ (Nat.le_refl _) (Nat.le_refl _))
      unfold j_gd
      rw [if_neg q, if_pos q2]
      omega
  · refine t6_3_8 h L ha R ⟨rfl, rfl, ?_⟩ (Nat.le_refl _) (Nat.le_refl _)
    unfold j_gd
    rw [if_pos q]
def j_g1 (k s : Int) (g : Int → Int) : Int → Int := if k = 4 then j_gr g s else g
theorem m6_4 (l : Launch) : M6_4 l 0 0 (fun a t s S V => j_L S ∧ S.1 t = 29 ∧ t ≠ a ∧ 0 ≤ s ∧ s < 256 ∧ (V t 1 = 4 → j_bd (V (a + 2)) 1048576)) (fun a t s S V S' V' => S' = S ∧ V' = j_row (j_up V a 1 s) (a + 2) (j_g1 (V t 1) s (V (a + 2)))) := by
  refine e6_4 ?_
  rintro C G h hrm hcs hl hn a t s S V ha ⟨L, ht, n1, s0, s1, hb⟩ R
  have et : j_up V a 1 s t = V t := j_up_ne n1
  have ea : j_up V a 1 s (a + 2) = V (a + 2) := j_up_ne (by omega)
  refine t6_4_0 h ha ht (fun q => ?_) (fun q => ?_)
  · rw [et] at q
    refine t6_4_21 h R ⟨rfl, ?_⟩ (Nat.le_refl _) (Nat.le_refl _)
    unfold j_g1
    rw [if_neg q, ← ea, j_row_self]
  · rw [et] at q
    refine t6_4_13 h L hrm ha (m4_14 C.2.1) ⟨L, ?_, s0, s1⟩ (Nat.zero_le _) (Nat.zero_le _) ?_
    · rw [show a + 1 + 1 = a + 2 by omega, ea]; exact hb q
    · rintro S1 V1 ⟨rfl, g, m, hg, rfl⟩
      refine t6_4_21 h R ⟨rfl, ?_⟩ (Nat.le_refl _) (Nat.le_refl _)
      rw [show a + 1 + 1 = a + 2 by omega] at hg ⊢
      rw [j_gv_of hg, j_give_gr, ea]
      unfold j_g1
      rw [if_pos q]
