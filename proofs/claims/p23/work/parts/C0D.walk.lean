/-! THE BEST WAY: both walks -/
theorem m1_36b (l : Launch) : M1_36 l 0 0 (fun a w S V => j_L S ∧ 0 ≤ a ∧ S.1 w = 27 ∧ (w + 1 < a + 200 ∨ a + 232 < w) ∧ j_rowOK V w) (fun a w S V x S' V' => S' = S ∧ (j_way x ∧ j_bst (V (w + 1)) (V w 1) x) ∧ ∀ c : Int, (c < a + 200 ∨ a + 232 < c) → V' c = V c) := by
  refine e1_36 ?_
  rintro C G h hrm hcs hl hn a w S V ht ⟨L, a0, kw, apw, hr⟩ R
  have ke : S.1 (a + 200) = 21 := L10_2k L ht
  refine t1_36_0 h ?_
  -- what stands so far
  have hKs : ∀ (k : Int) (z : Int × Int × jH), (1 ≤ k ∧ k ≤ 5 ∧ j_bw (V (w + 1)) (V w 1) (1000 * k + 81) z.1 z.2.1 ∧ ∀ c : Int, (c < a + 200 ∨ a + 232 < c) → z.2.2 c = V c) → j_ok n_KT 9 C G 9 [(0, (2, a)), (1, (2, w)), (2, (0, z.1)), (3, (0, z.2.1)), (4, (0, k))] [] S z.2.2 0 0 := by
    refine j_loop (N := 5) (fun k z hk hI kk => ?_) (fun k z hk hI => ?_)
    · obtain ⟨x, f, V1⟩ := z
      obtain ⟨k0, k1, hx, hV⟩ := hI
      dsimp only at hx hV ⊢
      refine t1_36_9 h (fun q => absurd q (by omega)) (fun _ => t1_36_15 h ?_)
      have hRs : ∀ (r : Int) (z : Int × Int × jH), (8 ≤ r ∧ r ≤ 13 ∧ j_bw (V (w + 1)) (V w 1) (1000 * k + 10 * r + 1) z.1 z.2.1 ∧ ∀ c : Int, (c < a + 200 ∨ a + 232 < c) → z.2.2 c = V c) → j_ok n_KT 9 C G 19 [(0, (2, a)), (1, (2, w)), (2, (0, z.1)), (3, (0, z.2.1)), (4, (0, k)), (5, (0, r))] [] S z.2.2 0 0 := by
        refine j_loop (N := 13) (fun r z hr9 hI ll => ?_) (fun r z hr9 hI => ?_)
        · obtain ⟨x, f, V2⟩ := z
          obtain ⟨r0, r1, hx, hV⟩ := hI
          dsimp only at hx hV ⊢
          have ew : V2 w = V w := hV w (by omega)
          have ew1 : V2 (w + 1) = V (w + 1) := hV (w + 1) (by omega)
          have hr2 : j_rowOK V2 w := by rw [j_rowOK, ew, ew1]; exact hr
          have hm := j_M_bd r0 (show r ≤ 12 by omega)
          refine t1_36_19 h (fun q => absurd q (by omega)) (fun _ => ?_)
          refine t1_36_26 h hrm ht (m1_37 C.2.1) ⟨L, a0, k0, (by omega), r0, (by omega), kw, apw, hr2⟩ (Nat.zero_le _) (Nat.zero_le _) ?_
          rintro S3 V3 ⟨e0, V4, hT, hP⟩
          subst e0
          obtain ⟨o1, o2, o3⟩ := j_trial_ok k0 (show k ≤ 4 by omega) r0 (show r ≤ 12 by omega) hr2 apw hT
          have fw := hT.2.2.2.2.2 w (by omega)
          have fw1 := hT.2.2.2.2.2 (w + 1) (by omega)
          have hr4 : j_rowOK V4 w := by rw [j_rowOK, fw, fw1]; exact hr2
          obtain ⟨en, hfb⟩ := j_plan_ok o1 hr4 hP o3
          rw [hT.2.1] at hfb
          have fr3 : ∀ c : Int, (c < a + 200 ∨ a + 232 < c) → V3 c = V c := fun c hc => ((hP.1 c (by omega) (by omega) (by omega) (by omega) (by omega) (by omega)).trans (hT.2.2.2.2.2 c hc)).trans (hV c hc)
          have bd3 : ∀ p : Int, 0 ≤ p → p < 4 → j_bd (V3 (a + 201 + 3 + 2 * p)) 1048576 := fun p p0 p1 => by
            rw [hP.1 _ (by omega) (by omega) (by omega) (by omega) (by omega) (by omega), show a + 201 + 3 + 2 * p = a + 204 + 2 * p by omega]
            exact j_bd_up (o2 p p0 p1) (by omega)
          refine t1_36_35 h L hrm ht (m10_11 C.2.1) ⟨L, bd3⟩ (Nat.zero_le _) (Nat.zero_le _) ?_
          rintro td S4 V5 ⟨e0, e1, etd⟩
          subst e0; subst e1
          have tb := j_told_bd V5 (a + 201)
          have etl : td = ((j_dsT (fun p => V4 (a + 201 + 3 + 2 * p)) (j_toldP k).toNat).length : Int) := by
            have e1 : j_told V5 (a + 201) = j_told V4 (a + 201) := j_told_congr (fun c c0 c1 => hP.1 c (by omega) (by omega) (by omega) (by omega) (by omega) (by omega))
            rw [etd, e1, j_told_T, hT.1]
          have pp := j_parts_bd k
          have hwB : j_wB (V (w + 1)) (V w 1) k r (fun p => V4 (a + 201 + 3 + 2 * p)) := by
            refine ⟨fun c p j p0 p1 j0 j1 => ?_, fun c p p0 p1 => ?_⟩
            · show V4 (a + 201 + 3 + 2 * p) j = _
              rw [show a + 201 + 3 + 2 * p = a + 204 + 2 * p by omega]
              exact hT.2.2.1 c p j p0 (by omega) j0 j1
            · obtain ⟨sh, d1, d2⟩ := hT.2.2.2.1 c p p0 p1
              rw [ew, ew1] at d1
              refine ⟨sh, d1, fun j j0 j1 => ?_⟩
              show V4 (a + 201 + 3 + 2 * p) j = _
              rw [show a + 201 + 3 + 2 * p = a + 204 + 2 * p by omega]
              exact d2 j j0 j1
          refine t1_36_45 h ?_
          have hLs : ∀ (la : Int) (z : Int × Int × jH), (1 ≤ la ∧ la ≤ 5 ∧ j_bw (V (w + 1)) (V w 1) (1000 * k + 10 * r + la) z.1 z.2.1 ∧ (∀ c : Int, (c < a + 200 ∨ a + 232 < c) → z.2.2 c = V c) ∧ z.2.2 (a + 214) = V5 (a + 214) ∧ z.2.2 (a + 218) = V5 (a + 218) ∧ z.2.2 (a + 219) = V5 (a + 219)) → j_ok n_KT 9 C G 50 [(0, (2, a)), (1, (2, w)), (2, (0, z.1)), (3, (0, z.2.1)), (4, (0, k)), (5, (0, r)), (6, (0, td)), (7, (0, la))] [] S4 z.2.2 0 0 := by
            refine j_loop (N := 5) (fun la z hl9 hI mm => ?_) (fun la z hl9 hI => ?_)
            · obtain ⟨x, f, V6⟩ := z
              obtain ⟨l0, l1, hx, hV6, q14, q18, q19⟩ := hI
              dsimp only at hx hV6 q14 q18 q19 ⊢
              have c14 : V6 (a + 200 + 14) = V5 (a + 200 + 14) := by rw [show a + 200 + 14 = a + 214 by omega]; exact q14
              have c18 : V6 (a + 200 + 18) = V5 (a + 200 + 18) := by rw [show a + 200 + 18 = a + 218 by omega]; exact q18
              have c19 : V6 (a + 200 + 19) = V5 (a + 200 + 19) := by rw [show a + 200 + 19 = a + 219 by omega]; exact q19
              have eM : (2 : Int) ^ r.toNat = j_M r := rfl
              have hfb6 : ∀ i : Int, 0 ≤ i → i < V6 (a + 200 + 14) 5 → 1 ≤ V6 (a + 200 + 18) i ∧ 0 ≤ V6 (a + 200 + 19) i ∧ V6 (a + 200 + 19) i + V6 (a + 200 + 18) i ≤ j_M r := by rw [c14, c18, c19]; exact hfb
              have n60 : 0 ≤ V6 (a + 200 + 14) 5 := by rw [c14, en]; exact hr4.1
              have n61 : V6 (a + 200 + 14) 5 ≤ 400 := by rw [c14, en]; exact hr4.2.1
              refine t1_36_50 h (fun q => absurd q (by omega)) (fun _ => ?_)
              refine t1_36_56 h L hrm ht (by omega) (by omega) (m2_4 C.2.1) ⟨L, l0, (by omega), by rw [eM]; exact hm.1, by rw [eM]; exact hm.2, n60, n61, by rw [eM]; exact hfb6⟩ (Nat.zero_le _) (Nat.zero_le _) ?_
              rintro S5 V7 ⟨e0, hK⟩
              subst e0
              rw [eM] at hK
              have pk := j_packed hm.1 hm.2 l0 n60 n61 hfb6 hK
              refine t1_36_69 h L hrm ht (m2_6 C.2.1) ⟨(by omega), (by omega), (by omega), (by omega), pk.2.2.1, pk.2.2.2.1⟩ (Nat.zero_le _) (Nat.zero_le _) ?_
              rintro sz S6 V8 ⟨e0, e1, esz⟩
              subst e0; subst e1
              have fr : ∀ c : Int, (c < a + 200 ∨ a + 232 < c) → V8 c = V c := fun c hc => (hK.1 c (by omega) (by omega) (by omega) (by omega) (by omega)).trans (hV6 c hc)
              have f14 : V8 (a + 214) = V5 (a + 214) := (hK.1 _ (by omega) (by omega) (by omega) (by omega) (by omega)).trans q14
              have f18 : V8 (a + 218) = V5 (a + 218) := (hK.1 _ (by omega) (by omega) (by omega) (by omega) (by omega)).trans q18
              have f19 : V8 (a + 219) = V5 (a + 219) := (hK.1 _ (by omega) (by omega) (by omega) (by omega) (by omega)).trans q19
              have pk3 := pk.2.2.1
              have pk4 := pk.2.2.2.1
              have hK' : j_pkI V6 (a + 200) (j_M (V4 (a + 201) 2)) la (-1) V8 := by rw [hT.2.1]; exact hK
              have bx := (j_bench_X hP hr4.1 (by rw [c14]) c18 c19 hK').1
              rw [hT.1, hT.2.1, fw, fw1, ew, ew1] at bx
              have hsz : j_Sz (V (w + 1)) (V w 1) (1000 * k + 10 * r + la) sz := by
                refine ⟨k, r, la, fun p => V4 (a + 201 + 3 + 2 * p), ⟨k0, (by omega), r0, (by omega), l0, (by omega)⟩, rfl, hwB, ?_⟩
                unfold j_wS
                rw [esz, etl, bx]
              obtain ⟨nw1, nw2⟩ := j_bw_new hr.1 hr.2.2 hsz (by omega) hx
              have ec : 1000 * k + 10 * r + (la + 1) = 1000 * k + 10 * r + la + 1 := by omega
              refine t1_36_80 h (fun q => ?_) (fun q => ?_)
              · exact t1_36_107 h (by omega) (mm (x, f, V8) ⟨(by omega), (by omega), by rw [ec]; exact nw2 (by omega), fr, f14, f18, f19⟩)
              · exact t1_36_88 h (by omega) (by omega) (by omega) (by omega) (t1_36_107 h (by omega) (mm (1000 * k + 10 * r + la, sz, V8) ⟨(by omega), (by omega), by rw [ec]; exact nw1 (by omega), fr, f14, f18, f19⟩))
            · obtain ⟨x, f, V6⟩ := z
              obtain ⟨l0, l1, hx, hV6, q14, q18, q19⟩ := hI
              dsimp only at hx hV6 q14 q18 q19 ⊢
              refine t1_36_50 h (fun _ => t1_36_113 h (by omega) (ll (x, f, V6) ⟨(by omega), (by omega), ?_, hV6⟩)) (fun q => absurd q (by omega))
              refine j_bw_skip hx (by omega) (by omega) (fun y hy y1 => ?_)
              obtain ⟨k9, r9, la9, b9⟩ := hy
              show y < _
              omega
          exact hLs 1 (x, f, V5) ⟨(by omega), (by omega), hx, fr3, rfl, rfl, rfl⟩
        · obtain ⟨x, f, V2⟩ := z
          obtain ⟨r0, r1, hx, hV⟩ := hI
          dsimp only at hx hV ⊢
          refine t1_36_19 h (fun _ => t1_36_119 h (by omega) (kk (x, f, V2) ⟨(by omega), (by omega), ?_, hV⟩)) (fun q => absurd q (by omega))
          refine j_bw_skip hx (by omega) (by omega) (fun y hy y1 => ?_)
          obtain ⟨k9, r9, la9, b9⟩ := hy
          show y < _
          omega
      exact hRs 8 (x, f, V1) ⟨(by omega), (by omega), by rw [show 1000 * k + 10 * 8 + 1 = 1000 * k + 81 by omega]; exact hx, hV⟩
    · obtain ⟨x, f, V1⟩ := z
      obtain ⟨k0, k1, hx, hV⟩ := hI
      dsimp only at hx hV ⊢
      refine t1_36_9 h (fun _ => t1_36_125 h R ⟨rfl, j_bw_end hx (by omega), hV⟩ (Nat.le_refl _) (Nat.le_refl _)) (fun q => absurd q (by omega))
  exact hKs 1 (0, 4401, V) ⟨(by omega), (by omega), Or.inl ⟨rfl, (by omega)⟩, fun _ _ => rfl⟩
theorem m1_18b (l : Launch) : M1_18 l 0 0 (fun a p S V => j_cI S V a) (fun a p S V r S' V' => S' = S ∧ j_q18 a p V r V' ∧ (0 ≤ r → j_bst (V (a + 3 + 2 * p + 1)) (V (a + 3 + 2 * p) 1) r)) := by
  refine e1_18 ?_
  rintro C G h hrm hcs hl hn a p S V ht hI R
  obtain ⟨L, -, a0, hw, hk, hd, h6, h7⟩ := id hI
  have F7 := j_cI_F7 hI
  refine t1_18_0 h hrm ht (m1_29 C.2.1) L (Nat.zero_le _) (Nat.zero_le _) ?_
  rintro b S1 V1 ⟨e0, e1, er⟩
  subst e0; subst e1; subst er
  refine t1_18_5 h (fun q _ => ?_) (fun q => (t1_18_10 h hrm ht (m1_27 C.2.1) F7 (Nat.zero_le _) (Nat.zero_le _) (by rintro r9 S9 V9 ⟨e0, e9, er⟩; subst e0; subst e9; subst er; exact t1_18_15 h R (⟨rfl, Or.inl ⟨j_rowN_n a0 q, rfl, rfl⟩, fun z => absurd z (by decide)⟩) (Nat.zero_le _) (Nat.zero_le _))))
  obtain ⟨p0, p1, ep, kr⟩ := j_rowN_k L ht q
  rw [ep]
  have hr := hw.2.1 p p0 p1
  rw [show a + 1 + 2 + 2 * p = a + 3 + 2 * p by omega] at hr
  have ke : S1.1 (a + 200) = 21 := L10_2k L ht
  have kt : S1.1 (a + 201) = 29 := by have := L0_0k L ke; rw [show a + 200 + 1 = a + 201 by omega] at this; exact this
  refine t1_18_16 h kr (fun z => ?_) (fun z => (t1_18_23 h hrm ht (m1_27 C.2.1) F7 (Nat.zero_le _) (Nat.zero_le _) (by rintro r9 S9 V9 ⟨e0, e9, er⟩; subst e0; subst e9; subst er; exact t1_18_29 h R (⟨rfl, Or.inr (Or.inl ⟨p0, p1, z, rfl, rfl⟩), fun z => absurd z (by decide)⟩) (Nat.zero_le _) (Nat.zero_le _))))
  refine t1_18_30 h hrm ht (m1_36b C.2.1) ⟨L, a0, kr, (by omega), hr⟩ (Nat.zero_le _) (Nat.zero_le _) ?_
  rintro x S2 V2 ⟨e0, ⟨⟨k, r, la, k0, k1, r0, r1, l0, l1, ex⟩, hbest⟩, hV⟩
  subst e0
  have x1 : x / 1000 = k := by omega
  have x2 : x % 1000 / 10 = r := by omega
  have x3 : x % 10 = la := by omega
  have ew : V2 (a + 3 + 2 * p) = V1 (a + 3 + 2 * p) := hV _ (by omega)
  have ew1 : V2 (a + 3 + 2 * p + 1) = V1 (a + 3 + 2 * p + 1) := hV _ (by omega)
  have hr2 : j_rowOK V2 (a + 3 + 2 * p) := by rw [j_rowOK, ew, ew1]; exact hr
  have hm := j_M_bd r0 r1
  refine t1_18_35 h hrm (by omega) (by omega) ht (m1_37 C.2.1) ⟨L, a0, by rw [x1]; exact k0, by rw [x1]; exact k1, by rw [x2]; exact r0, by rw [x2]; exact r1, kr, (by omega), hr2⟩ (Nat.zero_le _) (Nat.zero_le _) ?_
  rw [x1, x2, x3]
  rintro S3 V3 ⟨e0, V4, hT, hP⟩
  subst e0
  obtain ⟨o1, o2, o3⟩ := j_trial_ok k0 k1 r0 r1 hr2 (by omega) hT
  have fw := hT.2.2.2.2.2 (a + 3 + 2 * p) (by omega)
  have fw1 := hT.2.2.2.2.2 (a + 3 + 2 * p + 1) (by omega)
  have hr4 : j_rowOK V4 (a + 3 + 2 * p) := by rw [j_rowOK, fw, fw1]; exact hr2
  obtain ⟨en, hfb⟩ := j_plan_ok o1 hr4 hP o3
  rw [hT.2.1] at hfb
  have eM : (2 : Int) ^ r.toNat = j_M r := rfl
  have n60 : 0 ≤ V3 (a + 200 + 14) 5 := by rw [en]; exact hr4.1
  have n61 : V3 (a + 200 + 14) 5 ≤ 400 := by rw [en]; exact hr4.2.1
  refine t1_18_64 h L hrm ht (by omega) (by omega) (m2_4 C.2.1) ⟨L, l0, l1, by rw [eM]; exact hm.1, by rw [eM]; exact hm.2, n60, n61, by rw [eM]; exact hfb⟩ (Nat.zero_le _) (Nat.zero_le _) ?_
  rintro S5 V5 ⟨e0, hK⟩
  subst e0
  rw [eM] at hK
  have pk := j_packed hm.1 hm.2 l0 n60 n61 hfb hK
  have e201 : V5 (a + 201) = V4 (a + 201) := (hK.1 _ (by omega) (by omega) (by omega) (by omega) (by omega)).trans (hP.1 _ (by omega) (by omega) (by omega) (by omega) (by omega) (by omega))
  refine t1_18_77 h L hrm ht (m3_7 C.2.1) ⟨L, kt, ke, by rw [e201, hT.1]; omega, by rw [e201, hT.2.1]; omega, (by omega), l1, by rw [pk.1]; exact n60, by rw [pk.1]; exact n61, fun p p0 p1 => ?_, fun x x0 x1 => by have := (pk.2.1 x x0 x1).1; omega, pk.2.2.1, pk.2.2.2.1, fun i i0 i1 => (pk.2.2.2.2 i i0 i1).1⟩ (Nat.zero_le _) (Nat.zero_le _) ?_
  · rw [hK.1 _ (by omega) (by omega) (by omega) (by omega) (by omega), hP.1 _ (by omega) (by omega) (by omega) (by omega) (by omega) (by omega), show a + 201 + 3 + 2 * p = a + 204 + 2 * p by omega]
    exact j_bd_up (o2 p p0 p1) (by omega)
  · rintro S6 V6 ⟨e0, V7, y1, y2, y3, y4⟩
    subst e0
    rw [show a + 16 + 2 = a + 18 by omega, show a + 200 + 14 = a + 214 by omega] at y4
    have c14 := pk.1
    rw [show a + 200 + 14 = a + 214 by omega] at c14 n60 n61
    exact t1_18_100 h R ⟨rfl, Or.inr (Or.inr ⟨p0, p1, z, k, r, la, V2, V4, V3, V5, k0, k1, r0, r1, l0, l1, ex, hV, hT, hP, hK, ⟨(by omega), l1, pk.2.2.1, pk.2.2.2.1, by rw [c14]; exact n60, by rw [c14]; exact n61⟩, V7, y1, y2, y3, y4⟩), fun _ => hbest⟩ (Nat.le_refl _) (Nat.le_refl _)

/-- what the reference packs in a way is as long as the way's size -/
theorem j_rpa_Sz {V V' : jH} {a k r p la : Int} (k0 : 1 ≤ k) (k1 : k ≤ 4) (r0 : 8 ≤ r) (r1 : r ≤ 12) (l0 : 1 ≤ la) (l1 : la ≤ 4) (p0 : 0 ≤ p) (p1 : p < 6) (hR : j_mR V (a + 1)) (h : j_rpa V V' a k r p la) : j_Sz (j_rw V a p) (V (a + 2) p) (1000 * k + 10 * r + la) (V' a 20) := by
  obtain ⟨W, hp, hd, hk, b0, b1⟩ := h
  have rp := hR p p0 p1
  rw [show a + 1 + 1 = a + 2 by omega, show a + 1 + 2 = a + 3 by omega] at rp
  have hrg : j_sgw (j_rw V a p) (V (a + 2) p) := rp.2.2
  have ok := j_prep_ok k0 k1 r0 r1 p0 p1 hR hp
  obtain ⟨h1, h2, h3, h4, h5, h6⟩ := hp
  have e2 : W (a + 2) = V (a + 2) := h6 _ (by omega) (by omega) (by omega) (by omega)
  have e3 : j_rw W a p = j_rw V a p := by unfold j_rw; rw [h6 (a + 3) (by omega) (by omega) (by omega) (by omega)]
  obtain ⟨-, -, m, hm, hc⟩ := hk
  rw [h1, e2, e3] at hc
  have hT : j_F V' a = j_text k r la (V (a + 2) p) (j_rB (W (a + 21))) (j_rX k r la (j_rB (W (a + 21))) (j_rw V a p) (V (a + 2) p)).1 (j_rX k r la (j_rB (W (a + 21))) (j_rw V a p) (V (a + 2) p)).2.1 (j_rX k r la (j_rB (W (a + 21))) (j_rw V a p) (V (a + 2) p)).2.2 := by
    rcases hc with ⟨z1, z2⟩ | ⟨-, -, -, -, z⟩
    · omega
    · exact z
  have len := congrArg List.length hT
  rw [j_Bl_len, j_text_len] at len
  have u0 : 0 ≤ (j_rX k r la (j_rB (W (a + 21))) (j_rw V a p) (V (a + 2) p)).2.1 := by
    have hm2 := j_M_bd r0 r1
    have dl := ok.1.2.1
    rw [h1] at dl
    refine (j_pX_bd (la := la) hm2.1 hm2.2 (fun i i0 i1 => ?_) (V (a + 2) p).toNat (by omega)).2.1
    have d := j_D_dl (B := j_rB (W (a + 21))) (k := k) (w := j_rw V a p) r0 r1 dl hrg i0 (show i ≤ V (a + 2) p by omega)
    have s := hrg i i0 i1
    have nz := ok.2 i i0 i1
    have s1 := d.2.2 _ s.1 s.2
    have b1 := j_dl_bd d (Int.le_refl _) _ s.1 (show j_rw V a p i ≤ 256 by omega)
    have b2 := j_dl_bd d (Int.le_refl _) (j_rw V a p i + 1) (by omega) (by omega)
    unfold j_rf at nz ⊢
    unfold j_rb
    have e : j_sh (j_D k r (j_rB (W (a + 21))) (j_rw V a p) i) (j_rw V a p i) = j_D k r (j_rB (W (a + 21))) (j_rw V a p) i (j_rw V a p i + 1) - j_D k r (j_rB (W (a + 21))) (j_rw V a p) i (j_rw V a p i) := rfl
    omega
  have pp := j_parts_bd k
  refine ⟨k, r, la, j_rB (W (a + 21)), ⟨k0, k1, r0, r1, l0, l1⟩, rfl, ⟨fun c q j q0 q1 j0 j1 => ?_, fun c q q0 q1 => ?_⟩, ?_⟩
  · unfold j_start j_rB
    rw [if_pos (by omega)]
    have g : ∀ m : Nat, m ≤ 256 → j_pre (j_rs (W (a + 21)) (256 * q)) m = m * (j_M r / 256) := by
      intro m
      induction m with
      | zero => intro _; show (0 : Int) = 0 * _; omega
      | succ m ih =>
        intro y
        rw [show ((m + 1 : Nat) : Int) = (m : Int) + 1 by omega, j_pre_s _ (by omega), ih (by omega), Int.add_mul]
        have e : j_rs (W (a + 21)) (256 * q) m = j_M r / 256 := h5 c _ (by omega) (by omega)
        omega
    have := g j.toNat (by omega)
    rw [show ((j.toNat : Nat) : Int) = j by omega] at this
    exact this
  · exact ⟨_, h4 c q q0 q1, fun j j0 j1 => rfl⟩
  · unfold j_wS
    omega
theorem m13_34b (l : Launch) : M13_34 l 0 0 (fun a p S V => j_mI S V a) (fun a p S V r S' V' => S' = S ∧ j_r18 a p V r V' ∧ (0 ≤ r → j_bst (j_rw V a p) (V (a + 2) p) r)) := by
  refine e13_34 ?_
  rintro C G h hrm hcs hl hn a p S V ht hI R
  obtain ⟨L, -, a0, ⟨hR, hS, hB⟩, hk, h2, h4, h3⟩ := id hI
  have F7 : ∀ {f : Int}, f < 0 → f < 0 ∧ -2147483648 ≤ V a 3 ∧ V a 3 < 2147483647 := fun hf => ⟨hf, j_mI_F hI⟩
  refine t13_34_0 h hrm (m13_4 C.2.1) trivial (Nat.zero_le _) (Nat.zero_le _) ?_
  rintro y S1 V1 ⟨e0, e1, hy⟩
  subst e0; subst e1
  refine t13_34_4 h (fun q => ?_) (fun q => (t13_34_7 h hrm ht (m13_2 C.2.1) (F7 (by decide)) (Nat.zero_le _) (Nat.zero_le _) (by rintro r9 S9 V9 ⟨e0, e9, er⟩; subst e0; subst e9; subst er; exact t13_34_12 h R (⟨rfl, Or.inl ⟨hy.n q, rfl, rfl⟩, fun z => absurd z (by decide)⟩) (Nat.zero_le _) (Nat.zero_le _))))
  obtain ⟨p0, p1⟩ := hy.y q
  refine t13_34_13 h L ht p0 p1 (fun z => ?_) (fun z => (t13_34_25 h hrm ht (m13_2 C.2.1) (F7 (by decide)) (Nat.zero_le _) (Nat.zero_le _) (by rintro r9 S9 V9 ⟨e0, e9, er⟩; subst e0; subst e9; subst er; exact t13_34_31 h R (⟨rfl, Or.inr (Or.inl ⟨p0, p1, z, rfl, rfl⟩), fun z => absurd z (by decide)⟩) (Nat.zero_le _) (Nat.zero_le _))))
  have rows : ∀ {W : jH}, j_wkF V1 W a → j_mR W (a + 1) := fun {W} hW => j_mR_congr (fun p _ _ => by rw [hW.1 _ (by omega) (by omega)]) (fun i _ _ => by rw [hW.1 _ (by omega) (by omega)]) hR
  have rp := hR p p0 p1
  rw [show a + 1 + 1 = a + 2 by omega, show a + 1 + 2 = a + 3 by omega] at rp
  refine t13_34_32 h ?_
  have hKs : ∀ (k : Int) (z : Int × Int × jH), (1 ≤ k ∧ k ≤ 5 ∧ j_bw (j_rw V1 a p) (V1 (a + 2) p) (1000 * k + 81) z.1 z.2.1 ∧ j_wkF V1 z.2.2 a) → j_ok n_KT 8 C G 41 [(0, (2, a)), (1, (0, p)), (2, (0, z.1)), (3, (0, z.2.1)), (4, (0, k))] [] S1 z.2.2 0 0 := by
    refine j_loop (N := 5) (fun k z hk hI kk => ?_) (fun k z hk hI => ?_)
    · obtain ⟨x, f, V2⟩ := z
      obtain ⟨k0, k1, hx, hV⟩ := hI
      dsimp only at hx hV ⊢
      refine t13_34_41 h (fun q => absurd q (by omega)) (fun _ => t13_34_47 h ?_)
      have hRs : ∀ (r : Int) (z : Int × Int × jH), (8 ≤ r ∧ r ≤ 13 ∧ j_bw (j_rw V1 a p) (V1 (a + 2) p) (1000 * k + 10 * r + 1) z.1 z.2.1 ∧ j_wkF V1 z.2.2 a) → j_ok n_KT 8 C G 51 [(0, (2, a)), (1, (0, p)), (2, (0, z.1)), (3, (0, z.2.1)), (4, (0, k)), (5, (0, r))] [] S1 z.2.2 0 0 := by
        refine j_loop (N := 13) (fun r z hr9 hI ll => ?_) (fun r z hr9 hI => ?_)
        · obtain ⟨x, f, V3⟩ := z
          obtain ⟨r0, r1, hx, hV⟩ := hI
          dsimp only at hx hV ⊢
          refine t13_34_51 h (fun q => absurd q (by omega)) (fun _ => t13_34_58 h ?_)
          have hLs : ∀ (la : Int) (z : Int × Int × jH), (1 ≤ la ∧ la ≤ 5 ∧ j_bw (j_rw V1 a p) (V1 (a + 2) p) (1000 * k + 10 * r + la) z.1 z.2.1 ∧ j_wkF V1 z.2.2 a) → j_ok n_KT 8 C G 61 [(0, (2, a)), (1, (0, p)), (2, (0, z.1)), (3, (0, z.2.1)), (4, (0, k)), (5, (0, r)), (6, (0, la))] [] S1 z.2.2 0 0 := by
            refine j_loop (N := 5) (fun la z hl9 hI mm => ?_) (fun la z hl9 hI => ?_)
            · obtain ⟨x, f, V4⟩ := z
              obtain ⟨l0, l1, hx, hV⟩ := hI
              dsimp only at hx hV ⊢
              refine t13_34_61 h (fun q => absurd q (by omega)) (fun _ => ?_)
              refine t13_34_67 h hrm ht (m13_35 C.2.1) ⟨L, a0, k0, (by omega), r0, (by omega), p0, p1, l0, (by omega), rows hV⟩ (Nat.zero_le _) (Nat.zero_le _) ?_
              rintro sz S5 V5 ⟨e0, esz, hp⟩
              subst e0
              have hV5 := hV.tr (j_rpa_wk hp)
              have hsz := j_rpa_Sz k0 (show k ≤ 4 by omega) r0 (show r ≤ 12 by omega) l0 (show la ≤ 4 by omega) p0 p1 (rows hV) hp
              have ew : j_rw V4 a p = j_rw V1 a p := by unfold j_rw; rw [hV.1 _ (by omega) (by omega)]
              rw [ew, hV.1 (a + 2) (by omega) (by omega), ← esz] at hsz
              obtain ⟨W, -, -, -, b0, b1⟩ := hp
              obtain ⟨nw1, nw2⟩ := j_bw_new rp.1 rp.2.2 hsz (by omega) hx
              have ec : 1000 * k + 10 * r + (la + 1) = 1000 * k + 10 * r + la + 1 := by omega
              refine t13_34_78 h (fun q => ?_) (fun q => ?_)
              · exact t13_34_89 h (by omega) (by omega) (by omega) (by omega) (t13_34_108 h (by omega) (mm (1000 * k + 10 * r + la, sz, V5) ⟨(by omega), (by omega), by rw [ec]; exact nw1 (by omega), hV5⟩))
              · exact t13_34_86 h (t13_34_108 h (by omega) (mm (x, f, V5) ⟨(by omega), (by omega), by rw [ec]; exact nw2 (by omega), hV5⟩))
            · obtain ⟨x, f, V4⟩ := z
              obtain ⟨l0, l1, hx, hV⟩ := hI
              dsimp only at hx hV ⊢
              refine t13_34_61 h (fun _ => t13_34_114 h (by omega) (ll (x, f, V4) ⟨(by omega), (by omega), ?_, hV⟩)) (fun q => absurd q (by omega))
              refine j_bw_skip hx (by omega) (by omega) (fun y hy y1 => ?_)
              obtain ⟨k9, r9, la9, b9⟩ := hy
              show y < _
              omega
          exact hLs 1 (x, f, V3) ⟨(by omega), (by omega), hx, hV⟩
        · obtain ⟨x, f, V3⟩ := z
          obtain ⟨r0, r1, hx, hV⟩ := hI
          dsimp only at hx hV ⊢
          refine t13_34_51 h (fun _ => t13_34_120 h (by omega) (kk (x, f, V3) ⟨(by omega), (by omega), ?_, hV⟩)) (fun q => absurd q (by omega))
          refine j_bw_skip hx (by omega) (by omega) (fun y hy y1 => ?_)
          obtain ⟨k9, r9, la9, b9⟩ := hy
          show y < _
          omega
      exact hRs 8 (x, f, V2) ⟨(by omega), (by omega), by rw [show 1000 * k + 10 * 8 + 1 = 1000 * k + 81 by omega]; exact hx, hV⟩
    · obtain ⟨x, f, V2⟩ := z
      obtain ⟨k0, k1, hx, hV⟩ := hI
      dsimp only at hx hV ⊢
      obtain ⟨⟨kk, rr, la, q1, q2, q3, q4, q5, q6, ex⟩, hbest⟩ := j_bw_end hx (by omega)
      have x1 : x / 1000 = kk := by omega
      have x2 : x / 10 % 100 = rr := by omega
      have x3 : x % 10 = la := by omega
      refine t13_34_41 h (fun _ => ?_) (fun q => absurd q (by omega))
      refine t13_34_126 h hrm (by omega) (by omega) ht (m13_35 C.2.1) ⟨L, a0, by rw [x1]; exact q1, by rw [x1]; exact q2, by rw [x2]; exact q3, by rw [x2]; exact q4, p0, p1, by rw [x3]; exact q5, by rw [x3]; exact q6, rows hV⟩ (Nat.zero_le _) (Nat.zero_le _) ?_
      rw [x1, x2, x3]
      rintro sz S5 V5 ⟨e0, esz, hp⟩
      subst e0
      have b : 0 ≤ V5 a 20 ∧ V5 a 20 ≤ 4400 := by
        obtain ⟨W, -, -, -, b0, b1⟩ := hp
        exact ⟨b0, b1⟩
      refine t13_34_147 h hrm ht (m13_31 C.2.1) ⟨L, a0, b.1, b.2⟩ (Nat.zero_le _) (Nat.zero_le _) ?_
      rintro y6 S6 V6 ⟨e0, er, hm⟩
      subst e0
      exact t13_34_152 h R ⟨rfl, Or.inr (Or.inr ⟨p0, p1, z, kk, rr, la, V2, V5, q1, q2, q3, q4, q5, q6, ex, hV, hp, hm⟩), fun _ => hbest⟩ (Nat.le_refl _) (Nat.le_refl _)
  exact hKs 1 (0, 4401, V1) ⟨(by omega), (by omega), Or.inl ⟨rfl, (by omega)⟩, ⟨fun _ _ _ => rfl, fun _ _ => rfl⟩⟩
