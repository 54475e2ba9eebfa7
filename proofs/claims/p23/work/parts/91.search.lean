/-! THE CLASS: searching the shortest way -/
theorem j_count_pos {w : Int → Int} {part n i : Int} (i0 : 0 ≤ i) (i1 : i < n) (h : part = -1 ∨ part = j_bef w i % 4) : 1 ≤ j_count w part n (w i) := by
  have g : ∀ m : Nat, i < m → 1 ≤ j_count w part m (w i) := by
    intro m
    induction m with
    | zero => intro q; omega
    | succ m ih =>
      intro q
      unfold j_count at ih ⊢
      rw [show ((m + 1 : Nat) : Int) = (m : Int) + 1 by omega, j_pre_s _ (by omega)]
      have b := j_count_bd w part (n := (m : Int)) (w i) (by omega)
      unfold j_count at b
      by_cases e : i = m
      · rw [← e]
        rw [← e] at b
        have : (if w i = w i ∧ (part = -1 ∨ part = j_bef w i % 4) then (1 : Int) else 0) = 1 := if_pos ⟨rfl, h⟩
        rw [this]; omega
      · have := ih (by omega)
        split <;> omega
  have := g n.toNat (by omega)
  rw [show ((n.toNat : Nat) : Int) = n by omega] at this
  exact this
theorem j_deal_dl {c : Int → Int} {al : Int} {sh : Int → Int} (hal : 256 * (al / 256) = al) (hp : 0 ≤ al) (h : j_deal c al sh) : j_dl (j_pre sh) 0 al ∧ ∀ s : Int, 0 ≤ s → s < 256 → 0 < c s → 1 ≤ j_sh (j_pre sh) s := by
  have es : ∀ s : Int, 0 ≤ s → j_sh (j_pre sh) s = sh s := fun s s0 => by show j_pre sh (s + 1) - j_pre sh s = sh s; rw [j_pre_s _ s0]; omega
  rcases h with ⟨⟨h1, h2, h3, h4⟩, -⟩ | ⟨h1, h2⟩
  · refine ⟨⟨rfl, h3, fun s s0 s1 => ?_⟩, fun s s0 s1 hc => ?_⟩
    · rw [es s s0]
      by_cases c0 : c s ≤ 0
      · rw [h1 s s0 s1 c0]; omega
      · have := h2 s s0 s1 (by omega); omega
    · rw [es s s0]; exact h2 s s0 s1 hc
  · have hq : 0 ≤ al / 256 := Int.ediv_nonneg hp (by decide)
    refine ⟨⟨rfl, ?_, fun s s0 s1 => by rw [es s s0, h2 s s0 s1]; exact hq⟩, fun s s0 s1 hc => absurd (h1 s s0 s1) (by omega)⟩
    have g : ∀ m : Nat, m ≤ 256 → j_pre sh m = m * (al / 256) := by
      intro m
      induction m with
      | zero => intro _; show (0 : Int) = 0 * _; omega
      | succ m ih =>
        intro q
        rw [show ((m + 1 : Nat) : Int) = (m : Int) + 1 by omega, j_pre_s _ (by omega), ih (by omega), h2 m (by omega) (by omega), Int.add_mul]
        omega
    have := g 256 (by omega)
    rw [show (((256 : Nat) : Nat) : Int) = 256 from rfl] at this
    rw [this]; exact hal
/-- the trial table, begun and taught -/
def j_trial (V V1 : jH) (a k r w : Int) : Prop := V1 (a + 201) 1 = k ∧ V1 (a + 201) 2 = r ∧ (¬ (k = 2 ∨ k = 3) → ∀ p j : Int, 0 ≤ p → p < 4 → 0 ≤ j → j ≤ 256 → V1 (a + 204 + 2 * p) j = j_start k r j) ∧
  ((k = 2 ∨ k = 3) → ∀ p : Int, 0 ≤ p → p < j_parts k → ∃ sh, j_deal (j_count (V (w + 1)) (j_ofPart k p) (V w 1)) (j_M r) sh ∧ ∀ j : Int, 0 ≤ j → j ≤ 256 → V1 (a + 204 + 2 * p) j = j_pre sh j) ∧
  ((k = 2 ∨ k = 3) → ∀ p j : Int, j_parts k ≤ p → p < 4 → 0 ≤ j → j ≤ 256 → V1 (a + 204 + 2 * p) j = 0) ∧
  ∀ c : Int, (c < a + 200 ∨ a + 232 < c) → V1 c = V c
theorem j_trial_ok {V V1 : jH} {a k r w : Int} (k0 : 1 ≤ k) (k1 : k ≤ 4) (r0 : 8 ≤ r) (r1 : r ≤ 12) (hr : j_rowOK V w) (hw : w + 1 < a + 200 ∨ a + 232 < w) (h : j_trial V V1 a k r w) : j_tabOK V1 (a + 201) ∧ (∀ p : Int, 0 ≤ p → p < 4 → j_bd (V1 (a + 204 + 2 * p)) 4096) ∧ ∀ x : Int, 0 ≤ x → x < V1 w 1 → j_sh (j_Dt V1 (a + 201) w x) (V1 (w + 1) x) ≠ 0 := by
  obtain ⟨h1, h2, h3, h4, h6, h5⟩ := h
  have hm := j_M_bd r0 r1
  have h256 := j_M_256 r0 r1
  have ew : V1 w = V w := h5 w (by omega)
  have ew1 : V1 (w + 1) = V (w + 1) := h5 (w + 1) (by omega)
  have pp := j_parts_bd k
  have dl : ∀ p : Int, 0 ≤ p → p < j_parts k → j_dl (V1 (a + 204 + 2 * p)) 0 (j_M r) := fun p p0 p1 => by
    by_cases c : k = 2 ∨ k = 3
    · obtain ⟨sh, d1, d2⟩ := h4 c p p0 p1
      exact j_dl_congr d2 (j_deal_dl h256.1 (by omega) d1).1
    · exact j_dl_congr (fun j j0 j1 => h3 c p j p0 (by omega) j0 j1) (j_start_dl r0 r1 (by omega))
  have e204 : ∀ p : Int, a + 201 + 3 + 2 * p = a + 204 + 2 * p := fun p => by omega
  refine ⟨⟨by rw [h2]; exact r0, by rw [h2]; exact r1, fun p p0 p1 => ?_⟩, fun p p0 p1 => ?_, fun x x0 x1 => ?_⟩
  · rw [h2, e204]; rw [h1] at p1; exact dl p p0 p1
  · by_cases c : p < j_parts k
    · exact j_bd_up (j_dl_bd (dl p p0 c) (Int.le_refl _)) hm.2
    · by_cases c2 : k = 2 ∨ k = 3
      · exact fun j j0 j1 => by rw [h6 c2 p j (by omega) p1 j0 j1]; omega
      · exact j_bd_up (j_dl_bd (j_dl_congr (fun j j0 j1 => h3 c2 p j p0 p1 j0 j1) (j_start_dl r0 r1 (by omega))) (Int.le_refl _)) hm.2
  · rw [ew] at x1
    have hs := hr.2.2 x x0 x1
    unfold j_Dt j_D
    rw [h1, h2, ew1]
    by_cases c4 : k = 4
    · rw [if_pos c4]
      have := (j_G_dl (w := V (w + 1)) r0 r1 x.toNat (fun i i0 i1 => hr.2.2 i i0 (by omega))).2.2 _ hs.1 hs.2
      omega
    · rw [if_neg c4]
      by_cases c3 : k = 3
      · rw [if_pos c3]
        have pe : j_parts k = 4 := by unfold j_parts; rw [if_pos c3]
        obtain ⟨sh, d1, d2⟩ := h4 (Or.inr c3) (j_bef (V (w + 1)) x % 4) (by omega) (by omega)
        have d3 := (j_deal_dl h256.1 (by omega) d1).2 _ hs.1 hs.2 (by
          have := j_count_pos (w := V (w + 1)) (part := j_ofPart k (j_bef (V (w + 1)) x % 4)) x0 x1 (by unfold j_ofPart; rw [if_pos c3]; exact Or.inr rfl)
          omega)
        show V1 (a + 201 + 3 + 2 * (j_bef (V (w + 1)) x % 4)) (V (w + 1) x + 1) - V1 (a + 201 + 3 + 2 * (j_bef (V (w + 1)) x % 4)) (V (w + 1) x) ≠ 0
        rw [e204, d2 _ (by omega) (by omega), d2 _ hs.1 (by omega)]
        have d4 : j_sh (j_pre sh) (V (w + 1) x) = j_pre sh (V (w + 1) x + 1) - j_pre sh (V (w + 1) x) := rfl
        omega
      · rw [if_neg c3]
        have e0 : a + 201 + 3 + 2 * 0 = a + 204 + 2 * 0 := by omega
        show V1 (a + 201 + 3 + 2 * 0) (V (w + 1) x + 1) - V1 (a + 201 + 3 + 2 * 0) (V (w + 1) x) ≠ 0
        rw [e0]
        by_cases c2 : k = 2
        · obtain ⟨sh, d1, d2⟩ := h4 (Or.inl c2) 0 (by omega) (by omega)
          have d3 := (j_deal_dl h256.1 (by omega) d1).2 _ hs.1 hs.2 (by
            have := j_count_pos (w := V (w + 1)) (part := j_ofPart k 0) x0 x1 (by unfold j_ofPart; rw [if_neg c3]; exact Or.inl rfl)
            omega)
          rw [d2 _ (by omega) (by omega), d2 _ hs.1 (by omega)]
          have d4 : j_sh (j_pre sh) (V (w + 1) x) = j_pre sh (V (w + 1) x + 1) - j_pre sh (V (w + 1) x) := rfl
          omega
        · have ns : ¬ (k = 2 ∨ k = 3) := by omega
          rw [h3 ns 0 _ (by omega) (by omega) (by omega) (by omega), h3 ns 0 _ (by omega) (by omega) hs.1 (by omega)]
          unfold j_start
          rw [if_pos (by omega), if_pos (by omega), Int.add_mul]
          omega
theorem m1_37 (l : Launch) : M1_37 l 0 0 (fun a k r w S V => j_L S ∧ 0 ≤ a ∧ 1 ≤ k ∧ k ≤ 4 ∧ 8 ≤ r ∧ r ≤ 12 ∧ S.1 w = 27 ∧ (w + 1 < a + 200 ∨ a + 232 < w) ∧ j_rowOK V w) (fun a k r w S V S' V' => S' = S ∧ ∃ V1 : jH, j_trial V V1 a k r w ∧ j_plI V1 (a + 200) (a + 201) w (V1 w 1) V') := by
  refine e1_37 ?_
  rintro C G h hrm hcs hl hn a k r w S V ht ⟨L, a0, k0, k1, r0, r1, kw, apw, hr⟩ R
  have ke : S.1 (a + 200) = 21 := L10_2k L ht
  have kt : S.1 (a + 201) = 29 := by have := L0_0k L ke; rw [show a + 200 + 1 = a + 201 by omega] at this; exact this
  have hm := j_M_bd r0 r1
  refine t1_37_0 h L hrm ht (m10_2 C.2.1) ⟨L, r0, r1⟩ (Nat.zero_le _) (Nat.zero_le _) ?_
  rintro S1 V1 ⟨e0, b1, b2, b3, b4⟩
  subst e0
  have e204 : ∀ p : Int, a + 201 + 3 + 2 * p = a + 204 + 2 * p := fun p => by omega
  have ew : V1 w = V w := b4 w (by omega) (fun p p0 p1 => by omega)
  have ew1 : V1 (w + 1) = V (w + 1) := b4 (w + 1) (by omega) (fun p p0 p1 => by omega)
  have fin : ∀ V2 : jH, j_trial V V2 a k r w → j_ok n_KT 4 C G 40 [(0, (2, a)), (3, (2, w))] [] S1 V2 0 0 := by
    intro V2 hT
    obtain ⟨o1, o2, o3⟩ := j_trial_ok k0 k1 r0 r1 hr apw hT
    have fw := hT.2.2.2.2.2 w (by omega)
    have fw1 := hT.2.2.2.2.2 (w + 1) (by omega)
    refine t1_37_40 h L hrm ht (m2_2 C.2.1) ⟨L, kt, kw, (by omega), (by omega), by rw [j_rowOK, fw, fw1]; exact hr, o1⟩ (Nat.zero_le _) (Nat.zero_le _) ?_
    rintro m S2 V3 ⟨e0, hP, hM⟩
    subst e0
    exact t1_37_55 h R ⟨rfl, V2, hT, hP⟩ (Nat.le_refl _) (Nat.le_refl _)
  refine t1_37_12 h L hrm ht (m10_8 C.2.1) trivial (Nat.zero_le _) (Nat.zero_le _) ?_
  rintro y S2 V2 ⟨e0, e1, hy⟩
  subst e0; subst e1
  rw [b1] at hy
  refine t1_37_22 h (fun z => fin V2 ⟨b1, b2, fun _ p j p0 p1 j0 j1 => by rw [← e204]; exact b3 p j p0 p1 j0 j1, fun c => absurd c (hy.n z), fun c => absurd c (hy.n z), fun c hc => b4 c (by omega) (fun p p0 p1 => by omega)⟩) (fun z => ?_)
  have hk := hy.y z
  refine t1_37_25 h L hrm ht (m5_2 C.2.1) ⟨L, kt, kw, (by omega), (by omega), (by omega), by rw [j_rowOK, ew, ew1]; exact hr, by rw [b2]; exact r0, by rw [b2]; exact r1⟩ (Nat.zero_le _) (Nat.zero_le _) ?_
  rintro S3 V3 ⟨e0, d1, d2, d3⟩
  subst e0
  rw [b1, b2, ew, ew1] at d1
  rw [b1] at d2
  have pp := j_parts_bd k
  refine fin V3 ⟨?_, ?_, fun c => absurd hk c, fun _ p p0 p1 => ?_, fun _ p j p0 p1 j0 j1 => ?_, fun c hc => ?_⟩
  · rw [d2 _ (by omega) (by omega) (by omega) (fun p p0 p1 => by omega)]; exact b1
  · rw [d2 _ (by omega) (by omega) (by omega) (fun p p0 p1 => by omega)]; exact b2
  · obtain ⟨sh, q1, q2⟩ := d1 p p0 p1
    exact ⟨sh, q1, fun j j0 j1 => by rw [← e204]; exact q2 j j0 j1⟩
  · rw [d2 _ (by omega) (by omega) (by omega) (fun q q0 q1 => by omega), ← e204, b3 p j (by omega) p1 j0 j1]
    unfold j_start
    rw [if_neg (by omega)]
  · rw [d2 _ (by omega) (by omega) (by omega) (fun p p0 p1 => by omega)]; exact b4 c (by omega) (fun p p0 p1 => by omega)
def j_way (x : Int) : Prop := ∃ k r la : Int, 1 ≤ k ∧ k ≤ 4 ∧ 8 ≤ r ∧ r ≤ 12 ∧ 1 ≤ la ∧ la ≤ 4 ∧ x = 1000 * k + 10 * r + la
theorem m1_36 (l : Launch) : M1_36 l 0 0 (fun a w S V => j_L S ∧ 0 ≤ a ∧ S.1 w = 27 ∧ (w + 1 < a + 200 ∨ a + 232 < w) ∧ j_rowOK V w) (fun a w S V x S' V' => S' = S ∧ j_way x ∧ ∀ c : Int, (c < a + 200 ∨ a + 232 < c) → V' c = V c) := by
  refine e1_36 ?_
  rintro C G h hrm hcs hl hn a w S V ht ⟨L, a0, kw, apw, hr⟩ R
  have ke : S.1 (a + 200) = 21 := L10_2k L ht
  refine t1_36_0 h ?_
  -- what stands so far
  have hKs : ∀ (k : Int) (z : Int × Int × jH), (1 ≤ k ∧ k ≤ 5 ∧ ((k = 1 ∧ z.2.1 = 4401) ∨ (j_way z.1 ∧ z.2.1 ≤ 4400)) ∧ ∀ c : Int, (c < a + 200 ∨ a + 232 < c) → z.2.2 c = V c) → j_ok n_KT 9 C G 9 [(0, (2, a)), (1, (2, w)), (2, (0, z.1)), (3, (0, z.2.1)), (4, (0, k))] [] S z.2.2 0 0 := by
    refine j_loop (N := 5) (fun k z hk hI kk => ?_) (fun k z hk hI => ?_)
    · obtain ⟨x, f, V1⟩ := z
      obtain ⟨k0, k1, hx, hV⟩ := hI
      dsimp only at hx hV ⊢
      refine t1_36_9 h (fun q => absurd q (by omega)) (fun _ => t1_36_15 h ?_)
      have hRs : ∀ (r : Int) (z : Int × Int × jH), (8 ≤ r ∧ r ≤ 13 ∧ ((k = 1 ∧ r = 8 ∧ z.2.1 = 4401) ∨ (j_way z.1 ∧ z.2.1 ≤ 4400)) ∧ ∀ c : Int, (c < a + 200 ∨ a + 232 < c) → z.2.2 c = V c) → j_ok n_KT 9 C G 19 [(0, (2, a)), (1, (2, w)), (2, (0, z.1)), (3, (0, z.2.1)), (4, (0, k)), (5, (0, r))] [] S z.2.2 0 0 := by
        refine j_loop (N := 13) (fun r z hr9 hI ll => ?_) (fun r z hr9 hI => ?_)
        · obtain ⟨x, f, V2⟩ := z
          obtain ⟨r0, r1, hx, hV⟩ := hI
          dsimp only at hx hV ⊢
          have ew : V2 w = V w := hV w (by omega)
          have ew1 : V2 (w + 1) = V (w + 1) := hV (w + 1) (by omega)
          have hr2 : j_rowOK V2 w := by rw [j_rowOK, ew, ew1]; exact hr
          have hm := j_M_bd r0 (show r ≤ 12 by omega)
          refine t1_36_19 h (fun q => absurd q (by omega)) (fun _ => ?_)
          refine t1_36_26 h hrm ht (m1_37 C.2.1) ⟨L, a0, k0, (by omega), r0, (by omega), kw, apw, hr2⟩ (Nat.zero_le _) (Nat.zero_le _) ?_
          rintro S3 V3 ⟨e0, V4, hT, hP⟩
          subst e0
          obtain ⟨o1, o2, o3⟩ := j_trial_ok k0 (show k ≤ 4 by omega) r0 (show r ≤ 12 by omega) hr2 apw hT
          have fw := hT.2.2.2.2.2 w (by omega)
          have fw1 := hT.2.2.2.2.2 (w + 1) (by omega)
          have hr4 : j_rowOK V4 w := by rw [j_rowOK, fw, fw1]; exact hr2
          obtain ⟨en, hfb⟩ := j_plan_ok o1 hr4 hP o3
          rw [hT.2.1] at hfb
          have fr3 : ∀ c : Int, (c < a + 200 ∨ a + 232 < c) → V3 c = V c := fun c hc => ((hP.1 c (by omega) (by omega) (by omega) (by omega) (by omega) (by omega)).trans (hT.2.2.2.2.2 c hc)).trans (hV c hc)
          have bd3 : ∀ p : Int, 0 ≤ p → p < 4 → j_bd (V3 (a + 201 + 3 + 2 * p)) 1048576 := fun p p0 p1 => by
            rw [hP.1 _ (by omega) (by omega) (by omega) (by omega) (by omega) (by omega), show a + 201 + 3 + 2 * p = a + 204 + 2 * p by omega]
            exact j_bd_up (o2 p p0 p1) (by omega)
          refine t1_36_35 h L hrm ht (m10_11 C.2.1) ⟨L, bd3⟩ (Nat.zero_le _) (Nat.zero_le _) ?_
          rintro td S4 V5 ⟨e0, e1, etd⟩
          subst e0; subst e1
          have tb := j_told_bd V5 (a + 201)
          refine t1_36_45 h ?_
          have hLs : ∀ (la : Int) (z : Int × Int × jH), (1 ≤ la ∧ la ≤ 5 ∧ ((k = 1 ∧ r = 8 ∧ la = 1 ∧ z.2.1 = 4401) ∨ (j_way z.1 ∧ z.2.1 ≤ 4400)) ∧ (∀ c : Int, (c < a + 200 ∨ a + 232 < c) → z.2.2 c = V c) ∧ z.2.2 (a + 214) = V5 (a + 214) ∧ z.2.2 (a + 218) = V5 (a + 218) ∧ z.2.2 (a + 219) = V5 (a + 219)) → j_ok n_KT 9 C G 50 [(0, (2, a)), (1, (2, w)), (2, (0, z.1)), (3, (0, z.2.1)), (4, (0, k)), (5, (0, r)), (6, (0, td)), (7, (0, la))] [] S4 z.2.2 0 0 := by
            refine j_loop (N := 5) (fun la z hl9 hI mm => ?_) (fun la z hl9 hI => ?_)
            · obtain ⟨x, f, V6⟩ := z
              obtain ⟨l0, l1, hx, hV6, q14, q18, q19⟩ := hI
              dsimp only at hx hV6 q14 q18 q19 ⊢
              have c14 : V6 (a + 200 + 14) = V5 (a + 200 + 14) := by rw [show a + 200 + 14 = a + 214 by omega]; exact q14
              have c18 : V6 (a + 200 + 18) = V5 (a + 200 + 18) := by rw [show a + 200 + 18 = a + 218 by omega]; exact q18
              have c19 : V6 (a + 200 + 19) = V5 (a + 200 + 19) := by rw [show a + 200 + 19 = a + 219 by omega]; exact q19
              have eM : (2 : Int) ^ r.toNat = j_M r := rfl
              have hfb6 : ∀ i : Int, 0 ≤ i → i < V6 (a + 200 + 14) 5 → 1 ≤ V6 (a + 200 + 18) i ∧ 0 ≤ V6 (a + 200 + 19) i ∧ V6 (a + 200 + 19) i + V6 (a + 200 + 18) i ≤ j_M r := by rw [c14, c18, c19]; exact hfb
              have n60 : 0 ≤ V6 (a + 200 + 14) 5 := by rw [c14, en]; exact hr4.1
              have n61 : V6 (a + 200 + 14) 5 ≤ 400 := by rw [c14, en]; exact hr4.2.1
              refine t1_36_50 h (fun q => absurd q (by omega)) (fun _ => ?_)
              refine t1_36_56 h L hrm ht (by omega) (by omega) (m2_4 C.2.1) ⟨L, l0, (by omega), by rw [eM]; exact hm.1, by rw [eM]; exact hm.2, n60, n61, by rw [eM]; exact hfb6⟩ (Nat.zero_le _) (Nat.zero_le _) ?_
              rintro S5 V7 ⟨e0, hK⟩
              subst e0
              rw [eM] at hK
              have pk := j_packed hm.1 hm.2 l0 n60 n61 hfb6 hK
              refine t1_36_69 h L hrm ht (m2_6 C.2.1) ⟨(by omega), (by omega), (by omega), (by omega), pk.2.2.1, pk.2.2.2.1⟩ (Nat.zero_le _) (Nat.zero_le _) ?_
              rintro sz S6 V8 ⟨e0, e1, esz⟩
              subst e0; subst e1
              have fr : ∀ c : Int, (c < a + 200 ∨ a + 232 < c) → V8 c = V c := fun c hc => (hK.1 c (by omega) (by omega) (by omega) (by omega) (by omega)).trans (hV6 c hc)
              have f14 : V8 (a + 214) = V5 (a + 214) := (hK.1 _ (by omega) (by omega) (by omega) (by omega) (by omega)).trans q14
              have f18 : V8 (a + 218) = V5 (a + 218) := (hK.1 _ (by omega) (by omega) (by omega) (by omega) (by omega)).trans q18
              have f19 : V8 (a + 219) = V5 (a + 219) := (hK.1 _ (by omega) (by omega) (by omega) (by omega) (by omega)).trans q19
              have pk3 := pk.2.2.1
              have pk4 := pk.2.2.2.1
              refine t1_36_80 h (fun q => ?_) (fun q => ?_)
              · refine t1_36_107 h (by omega) (mm (x, f, V8) ⟨(by omega), (by omega), ?_, fr, f14, f18, f19⟩)
                rcases hx with ⟨_, _, _, z⟩ | z
                · omega
                · exact Or.inr z
              · exact t1_36_88 h (by omega) (by omega) (by omega) (by omega) (t1_36_107 h (by omega) (mm (1000 * k + 10 * r + la, sz, V8) ⟨(by omega), (by omega), Or.inr ⟨⟨k, r, la, k0, (by omega), r0, (by omega), l0, (by omega), rfl⟩, by show sz ≤ 4400; omega⟩, fr, f14, f18, f19⟩))
            · obtain ⟨x, f, V6⟩ := z
              obtain ⟨l0, l1, hx, hV6, q14, q18, q19⟩ := hI
              dsimp only at hx hV6 q14 q18 q19 ⊢
              refine t1_36_50 h (fun _ => t1_36_113 h (by omega) (ll (x, f, V6) ⟨(by omega), (by omega), ?_, hV6⟩)) (fun q => absurd q (by omega))
              rcases hx with ⟨_, _, z, _⟩ | z
              · omega
              · exact Or.inr z
          refine hLs 1 (x, f, V5) ⟨(by omega), (by omega), ?_, fr3, rfl, rfl, rfl⟩
          rcases hx with ⟨z1, z2, z3⟩ | z
          · exact Or.inl ⟨z1, z2, rfl, z3⟩
          · exact Or.inr z
        · obtain ⟨x, f, V2⟩ := z
          obtain ⟨r0, r1, hx, hV⟩ := hI
          dsimp only at hx hV ⊢
          refine t1_36_19 h (fun _ => t1_36_119 h (by omega) (kk (x, f, V2) ⟨(by omega), (by omega), ?_, hV⟩)) (fun q => absurd q (by omega))
          rcases hx with ⟨_, z, _⟩ | z
          · omega
          · exact Or.inr z
      refine hRs 8 (x, f, V1) ⟨(by omega), (by omega), ?_, hV⟩
      rcases hx with ⟨z1, z2⟩ | z
      · exact Or.inl ⟨z1, rfl, z2⟩
      · exact Or.inr z
    · obtain ⟨x, f, V1⟩ := z
      obtain ⟨k0, k1, hx, hV⟩ := hI
      dsimp only at hx hV ⊢
      refine t1_36_9 h (fun _ => t1_36_125 h R ⟨rfl, ?_, hV⟩ (Nat.le_refl _) (Nat.le_refl _)) (fun q => absurd q (by omega))
      rcases hx with ⟨z, _⟩ | z
      · omega
      · exact z.1
  exact hKs 1 (0, 4401, V) ⟨(by omega), (by omega), Or.inl ⟨rfl, rfl⟩, fun _ _ => rfl⟩
/-- THE BLOCK is the one of a way -/
def j_q18 (a p : Int) (V : jH) (r : Int) (V' : jH) : Prop := (¬ (0 ≤ p ∧ p < 6) ∧ V' = j_fd V a ∧ r = -1) ∨ (0 ≤ p ∧ p < 6 ∧ V (a + 3 + 2 * p) 1 = 0 ∧ V' = j_fd V a ∧ r = -7) ∨
  (0 ≤ p ∧ p < 6 ∧ V (a + 3 + 2 * p) 1 ≠ 0 ∧ ∃ (k rr la : Int) (V1 V2 V3 V4 : jH), 1 ≤ k ∧ k ≤ 4 ∧ 8 ≤ rr ∧ rr ≤ 12 ∧ 1 ≤ la ∧ la ≤ 4 ∧ r = 1000 * k + 10 * rr + la ∧ (∀ c : Int, (c < a + 200 ∨ a + 232 < c) → V1 c = V c) ∧ j_trial V1 V2 a k rr (a + 3 + 2 * p) ∧ j_plI V2 (a + 200) (a + 201) (a + 3 + 2 * p) (V2 (a + 3 + 2 * p) 1) V3 ∧ j_pkI V3 (a + 200) (j_M rr) la (-1) V4 ∧ j_filled a (a + 201) la V4 V')
theorem m1_18 (l : Launch) : M1_18 l 0 0 (fun a p S V => j_cI S V a) (fun a p S V r S' V' => S' = S ∧ j_q18 a p V r V') := by
  refine e1_18 ?_
  rintro C G h hrm hcs hl hn a p S V ht hI R
  obtain ⟨L, -, a0, hw, hk, hd, h6, h7⟩ := id hI
  have F7 := j_cI_F7 hI
  refine t1_18_0 h hrm ht (m1_29 C.2.1) L (Nat.zero_le _) (Nat.zero_le _) ?_
  rintro b S1 V1 ⟨e0, e1, er⟩
  subst e0; subst e1; subst er
  refine t1_18_5 h (fun q _ => ?_) (fun q => (t1_18_10 h hrm ht (m1_27 C.2.1) F7 (Nat.zero_le _) (Nat.zero_le _) (by rintro r9 S9 V9 ⟨e0, e9, er⟩; subst e0; subst e9; subst er; exact t1_18_15 h R (⟨rfl, Or.inl ⟨j_rowN_n a0 q, rfl, rfl⟩⟩) (Nat.zero_le _) (Nat.zero_le _))))
  obtain ⟨p0, p1, ep, kr⟩ := j_rowN_k L ht q
  rw [ep]
  have hr := hw.2.1 p p0 p1
  rw [show a + 1 + 2 + 2 * p = a + 3 + 2 * p by omega] at hr
  have ke : S1.1 (a + 200) = 21 := L10_2k L ht
  have kt : S1.1 (a + 201) = 29 := by have := L0_0k L ke; rw [show a + 200 + 1 = a + 201 by omega] at this; exact this
  refine t1_18_16 h kr (fun z => ?_) (fun z => (t1_18_23 h hrm ht (m1_27 C.2.1) F7 (Nat.zero_le _) (Nat.zero_le _) (by rintro r9 S9 V9 ⟨e0, e9, er⟩; subst e0; subst e9; subst er; exact t1_18_29 h R (⟨rfl, Or.inr (Or.inl ⟨p0, p1, z, rfl, rfl⟩)⟩) (Nat.zero_le _) (Nat.zero_le _))))
  refine t1_18_30 h hrm ht (m1_36 C.2.1) ⟨L, a0, kr, (by omega), hr⟩ (Nat.zero_le _) (Nat.zero_le _) ?_
  rintro x S2 V2 ⟨e0, ⟨k, r, la, k0, k1, r0, r1, l0, l1, ex⟩, hV⟩
  subst e0
  have x1 : x / 1000 = k := by omega
  have x2 : x % 1000 / 10 = r := by omega
  have x3 : x % 10 = la := by omega
  have ew : V2 (a + 3 + 2 * p) = V1 (a + 3 + 2 * p) := hV _ (by omega)
  have ew1 : V2 (a + 3 + 2 * p + 1) = V1 (a + 3 + 2 * p + 1) := hV _ (by omega)
  have hr2 : j_rowOK V2 (a + 3 + 2 * p) := by rw [j_rowOK, ew, ew1]; exact hr
  have hm := j_M_bd r0 r1
  refine t1_18_35 h hrm (by omega) (by omega) ht (m1_37 C.2.1) ⟨L, a0, by rw [x1]; exact k0, by rw [x1]; exact k1, by rw [x2]; exact r0, by rw [x2]; exact r1, kr, (by omega), hr2⟩ (Nat.zero_le _) (Nat.zero_le _) ?_
  rw [x1, x2, x3]
  rintro S3 V3 ⟨e0, V4, hT, hP⟩
  subst e0
  obtain ⟨o1, o2, o3⟩ := j_trial_ok k0 k1 r0 r1 hr2 (by omega) hT
  have fw := hT.2.2.2.2.2 (a + 3 + 2 * p) (by omega)
  have fw1 := hT.2.2.2.2.2 (a + 3 + 2 * p + 1) (by omega)
  have hr4 : j_rowOK V4 (a + 3 + 2 * p) := by rw [j_rowOK, fw, fw1]; exact hr2
  obtain ⟨en, hfb⟩ := j_plan_ok o1 hr4 hP o3
  rw [hT.2.1] at hfb
  have eM : (2 : Int) ^ r.toNat = j_M r := rfl
  have n60 : 0 ≤ V3 (a + 200 + 14) 5 := by rw [en]; exact hr4.1
  have n61 : V3 (a + 200 + 14) 5 ≤ 400 := by rw [en]; exact hr4.2.1
  refine t1_18_64 h L hrm ht (by omega) (by omega) (m2_4 C.2.1) ⟨L, l0, l1, by rw [eM]; exact hm.1, by rw [eM]; exact hm.2, n60, n61, by rw [eM]; exact hfb⟩ (Nat.zero_le _) (Nat.zero_le _) ?_
  rintro S5 V5 ⟨e0, hK⟩
  subst e0
  rw [eM] at hK
  have pk := j_packed hm.1 hm.2 l0 n60 n61 hfb hK
  have e201 : V5 (a + 201) = V4 (a + 201) := (hK.1 _ (by omega) (by omega) (by omega) (by omega) (by omega)).trans (hP.1 _ (by omega) (by omega) (by omega) (by omega) (by omega) (by omega))
  refine t1_18_77 h L hrm ht (m3_7 C.2.1) ⟨L, kt, ke, by rw [e201, hT.1]; omega, by rw [e201, hT.2.1]; omega, (by omega), l1, by rw [pk.1]; exact n60, by rw [pk.1]; exact n61, fun p p0 p1 => ?_, fun x x0 x1 => by have := (pk.2.1 x x0 x1).1; omega, pk.2.2.1, pk.2.2.2.1, fun i i0 i1 => (pk.2.2.2.2 i i0 i1).1⟩ (Nat.zero_le _) (Nat.zero_le _) ?_
  · rw [hK.1 _ (by omega) (by omega) (by omega) (by omega) (by omega), hP.1 _ (by omega) (by omega) (by omega) (by omega) (by omega) (by omega), show a + 201 + 3 + 2 * p = a + 204 + 2 * p by omega]
    exact j_bd_up (o2 p p0 p1) (by omega)
  · rintro S6 V6 ⟨e0, V7, y1, y2, y3, y4⟩
    subst e0
    rw [show a + 16 + 2 = a + 18 by omega, show a + 200 + 14 = a + 214 by omega] at y4
    have c14 := pk.1
    rw [show a + 200 + 14 = a + 214 by omega] at c14 n60 n61
    exact t1_18_100 h R ⟨rfl, Or.inr (Or.inr ⟨p0, p1, z, k, r, la, V2, V4, V3, V5, k0, k1, r0, r1, l0, l1, ex, hV, hT, hP, hK, ⟨(by omega), l1, pk.2.2.1, pk.2.2.2.1, by rw [c14]; exact n60, by rw [c14]; exact n61⟩, V7, y1, y2, y3, y4⟩)⟩ (Nat.le_refl _) (Nat.le_refl _)
