/-! THE CLASS: a Whole is made -/
def j_newW (S : jS) (V : jH) (w i : Int) (S2 : jS) (V2 : jH) : Prop := (∀ c : Int, (c < w ∨ w + 22 < c) → S2.1 c = S.1 c ∧ S2.2 c = S.2 c ∧ V2 c = V c) ∧ (S2.1 w = 30 ∧ S2.1 (w + 1) = 18 ∧ S2.1 (w + 14) = 20 ∧ S2.1 (w + 15) = 22) ∧ (S2.2 w 0 = w + 1 ∧ S2.2 w 1 = w + 14 ∧ S2.2 w 3 = w + 15) ∧ (∀ x : Int, w + 15 ≤ x → x ≤ w + 22 → j_Lat S2 x) ∧ (∀ t : Int, S2.2 (w + 14) t = -1) ∧
  (V2 w 2 = 0 ∧ V2 (w + 15) 1 = 0 ∧ V2 (w + 15) 2 = 0 ∧ V2 (w + 15) 4 = 0 ∧ V2 (w + 17) 5 = 0) ∧
  (∀ p : Int, 0 ≤ p → p < i → S2.2 (w + 1) p = w + 2 + 2 * p ∧ S2.1 (w + 2 + 2 * p) = 27 ∧ S2.2 (w + 2 + 2 * p) 0 = w + 3 + 2 * p ∧ S2.1 (w + 3 + 2 * p) = 1 ∧ V2 (w + 2 + 2 * p) 1 = 0) ∧ ∀ c : Int, w + 2 + 2 * i ≤ c → c ≤ w + 13 → S2.1 c = 0
theorem m11_1 (l : Launch) : M11_1 l 22 8839 (fun w S V => 0 ≤ w ∧ ∀ c : Int, w < c → c ≤ w + 22 → S.1 c = 0) (fun w S V S' V' => j_newW S V w 6 S' V') := by
  refine e11_1 ?_
  rintro C G h hrm hcs hl hn w S V hw ⟨w0, hz⟩ R
  have e : ∀ i : Int, w = w + i ↔ i = 0 := fun i => by omega
  have z14 := hz (w + 14) (by omega) (by omega)
  have z15 := hz (w + 15) (by omega) (by omega)
  refine t11_1_0 (a1 := w + 1) (a2 := w + 14) (a3 := w + 15) h hrm (by omega) hn hw (by omega) (hz _ (by omega) (by omega)) (by rw [hcs.1]; omega) (by rw [hcs.2]; omega) (by omega) (by simp [j_sp, j_ns, z14]) (by rw [hcs.1]; omega) (by rw [hcs.2]; omega) (by omega) (by simp [j_sp, j_ns, z15]) (by rw [hcs.1]; omega) (by rw [hcs.2]; omega) (m3_1 C.2.1) ⟨(by omega), fun c c0 c1 => ?_⟩ (by rw [hcs.1]; omega) (by rw [hcs.2]; omega) ?_
  · have q1 : c ≠ w + 1 := by omega
    have q2 : c ≠ w + 14 := by omega
    have q3 : c ≠ w + 15 := by omega
    simp [j_sp, j_ns, q1, q2, q3, hz c (by omega) (by omega)]
  rintro S1 V1 ⟨k15, hm, v1, v2, v4, v5⟩
  have f0 := hm.1 w (by omega)
  have f1 := hm.1 (w + 1) (by omega)
  have f14 := hm.1 (w + 14) (by omega)
  have g0 : S1.1 w = 30 := by rw [f0.1]; simp [j_sp, j_ns, hw, e]
  have g1 : S1.1 (w + 1) = 18 := by rw [f1.1]; simp [j_sp, j_ns]
  have g14 : S1.1 (w + 14) = 20 := by rw [f14.1]; simp [j_sp, j_ns]
  refine t11_1_35 h hn g0 k15 g0 ?_
  have loop : ∀ (i : Int) (z : jS × jH), (0 ≤ i ∧ i ≤ 6 ∧ j_newW S V w i z.1 z.2) → j_ok n_KT 2 C G 50 [(0, (2, w)), (1, (0, i))] [] z.1 z.2 (10 + 2 * i.toNat) (6427 + 402 * i.toNat) := by
    refine j_loop (N := 6) (fun i z hi hI kk => ?_) (fun i z hi hI => ?_)
    · obtain ⟨S2, V2⟩ := z
      obtain ⟨g0, g1, a1, ⟨b1, b2, b3, b4⟩, ⟨r1, r2, r3⟩, a4, a5, a6, a7, a8⟩ := hI
      dsimp only at a1 b1 b2 b3 b4 r1 r2 r3 a4 a5 a6 a7 a8 ⊢
      refine t11_1_50 h (fun q => absurd q (by omega)) (fun _ => ?_)
      refine t11_1_56 (a1 := w + 2 + 2 * i) h hrm b1 (by omega) (a8 _ (by omega) (by omega)) (by rw [hcs.1]; omega) (by rw [hcs.2]; omega) (m8_1 C.2.1) ⟨(by omega), by rw [j_ns1e _ _ _ (by omega)]; exact a8 _ (by omega) (by omega)⟩ (by rw [hcs.1]; omega) (by rw [hcs.2]; omega) ?_
      rintro S3 V3 ⟨e3, v3⟩
      rw [show w + 2 + 2 * i + 1 = w + 3 + 2 * i by omega] at e3 v3
      rw [r1]
      have k1 : ∀ c : Int, c ≠ w + 2 + 2 * i → c ≠ w + 3 + 2 * i → S3.1 c = S2.1 c := fun c c0 c1 => by
        rw [e3]; show (j_ns (j_ns S2 (w + 2 + 2 * i) 27) (w + 3 + 2 * i) 1).1 c = _; rw [j_ns1e _ _ _ c1, j_ns1e _ _ _ c0]
      have k2 : ∀ c : Int, c ≠ w + 2 + 2 * i → c ≠ w + 3 + 2 * i → S3.2 c = S2.2 c := fun c c0 c1 => by
        rw [e3]; show j_up (j_ns (j_ns S2 (w + 2 + 2 * i) 27) (w + 3 + 2 * i) 1).2 _ _ _ c = _; rw [j_up_ne c0, j_ns2e _ _ _ c1, j_ns2e _ _ _ c0]
      have k3 : S3.1 (w + 2 + 2 * i) = 27 := by
        rw [e3]; show (j_ns (j_ns S2 (w + 2 + 2 * i) 27) (w + 3 + 2 * i) 1).1 (w + 2 + 2 * i) = 27; rw [j_ns1e _ _ _ (by omega)]; exact j_nsa _ _ _
      have k4 : S3.1 (w + 3 + 2 * i) = 1 := by rw [e3]; exact j_nsa _ _ _
      have k5 : S3.2 (w + 2 + 2 * i) 0 = w + 3 + 2 * i := by rw [e3]; exact j_up_at _ _ _ _
      have k6 : ∀ c : Int, c ≠ w + 2 + 2 * i → c ≠ w + 3 + 2 * i → V3 c = V2 c := fun c c0 c1 => by rw [v3, j_up_ne c0, j_nve _ _ c1, j_nve _ _ c0]
      have k7 : V3 (w + 2 + 2 * i) 1 = 0 := by rw [v3, j_up_at]
      refine t11_1_68 h (by rw [k1 _ (by omega) (by omega)]; exact b2) k3 g0 hi (by omega) ?_
      have nx := kk (j_sp S3 (w + 1) i (w + 2 + 2 * i), V3) ⟨(by omega), (by omega), ?_⟩
      · dsimp only at nx
        rw [show (i + 1).toNat = i.toNat + 1 by omega] at nx
        rw [show 10 + 2 * i.toNat + 1 + 1 = 10 + 2 * (i.toNat + 1) by omega, show 6427 + 402 * i.toNat + 2 + 400 = 6427 + 402 * (i.toNat + 1) by omega]
        exact nx
      · have s2 : ∀ c : Int, c ≠ w + 1 → (j_sp S3 (w + 1) i (w + 2 + 2 * i)).2 c = S3.2 c := fun c hc => j_up_ne hc
        refine ⟨fun c hc => ?_, ⟨?_, ?_, ?_, ?_⟩, ⟨?_, ?_, ?_⟩, fun x x0 x1 => ?_, fun t => ?_, ?_, fun p p0 p1 => ?_, fun c c0 c1 => ?_⟩
        · obtain ⟨q1, q2, q3⟩ := a1 c hc
          refine ⟨?_, ?_, ?_⟩
          · show S3.1 c = S.1 c; rw [k1 _ (by omega) (by omega)]; exact q1
          · rw [s2 _ (by omega), k2 _ (by omega) (by omega)]; exact q2
          · show V3 c = V c; rw [k6 _ (by omega) (by omega)]; exact q3
        · show S3.1 w = 30; rw [k1 _ (by omega) (by omega)]; exact b1
        · show S3.1 (w + 1) = 18; rw [k1 _ (by omega) (by omega)]; exact b2
        · show S3.1 (w + 14) = 20; rw [k1 _ (by omega) (by omega)]; exact b3
        · show S3.1 (w + 15) = 22; rw [k1 _ (by omega) (by omega)]; exact b4
        · rw [s2 _ (by omega), k2 _ (by omega) (by omega)]; exact r1
        · rw [s2 _ (by omega), k2 _ (by omega) (by omega)]; exact r2
        · rw [s2 _ (by omega), k2 _ (by omega) (by omega)]; exact r3
        · refine j_Lat_mono (S := S2) (fun y hy => ?_) ?_ ?_ (a4 x x0 x1)
          · show S3.1 y = S2.1 y
            by_cases c : y = w + 2 + 2 * i ∨ y = w + 3 + 2 * i
            · exact absurd (a8 y (by omega) (by omega)) hy
            · exact k1 y (by omega) (by omega)
          · show S3.1 x = S2.1 x; exact k1 x (by omega) (by omega)
          · rw [s2 _ (by omega)]; exact k2 x (by omega) (by omega)
        · rw [s2 _ (by omega), k2 _ (by omega) (by omega)]; exact a5 t
        · show V3 w 2 = 0 ∧ V3 (w + 15) 1 = 0 ∧ V3 (w + 15) 2 = 0 ∧ V3 (w + 15) 4 = 0 ∧ V3 (w + 17) 5 = 0
          rw [k6 w (by omega) (by omega), k6 (w + 15) (by omega) (by omega), k6 (w + 17) (by omega) (by omega)]; exact a6
        · by_cases e : p = i
          · rw [e]
            refine ⟨j_up_at _ _ _ _, k3, ?_, k4, k7⟩
            rw [s2 _ (by omega)]; exact k5
          · obtain ⟨q1, q2, q3, q4, q5⟩ := a7 p p0 (by omega)
            refine ⟨?_, ?_, ?_, ?_, ?_⟩
            · show j_up S3.2 (w + 1) i (w + 2 + 2 * i) (w + 1) p = _
              rw [j_up_off e, k2 _ (by omega) (by omega)]; exact q1
            · show S3.1 _ = 27; rw [k1 _ (by omega) (by omega)]; exact q2
            · rw [s2 _ (by omega), k2 _ (by omega) (by omega)]; exact q3
            · show S3.1 _ = 1; rw [k1 _ (by omega) (by omega)]; exact q4
            · show V3 _ 1 = 0; rw [k6 _ (by omega) (by omega)]; exact q5
        · show S3.1 c = 0; rw [k1 _ (by omega) (by omega)]; exact a8 c (by omega) c1
    · obtain ⟨S2, V2⟩ := z
      obtain ⟨g0, g1, gp⟩ := hI
      have ei : i = 6 := by omega
      rw [ei] at gp ⊢
      exact t11_1_50 h (fun _ => t11_1_75 h R gp (by decide) (by decide)) (fun q => absurd q (by omega))
  have := loop 0 (j_sp S1 w 3 (w + 15), j_up (j_up V1 w 4 0) w 5 0) ⟨(by omega), (by omega), fun c hc => ?_, ⟨g0, g1, g14, k15⟩, ⟨?_, ?_, j_up_at _ _ _ _⟩, fun x x0 x1 => ?_, fun t => ?_, ⟨?_, ?_, ?_, ?_, ?_⟩, fun p p0 p1 => absurd p1 (by omega), fun c c0 c1 => ?_⟩
  · exact this
  · have c0 : c ≠ w := by omega
    have c1 : c ≠ w + 1 := by omega
    have c2 : c ≠ w + 14 := by omega
    have c3 : c ≠ w + 15 := by omega
    have f := hm.1 c (by omega)
    refine ⟨?_, ?_, ?_⟩
    · show S1.1 c = _; rw [f.1]; simp [j_sp, j_ns, c0, c1, c2, c3]
    · show j_up S1.2 w 3 (w + 15) c = _; rw [j_up_ne c0, f.2.1]; funext i; simp [j_sp, j_ns, j_up, c0, c1, c2, c3]
    · show j_up (j_up V1 w 4 0) w 5 0 c = _; rw [j_up_ne c0, j_up_ne c0, f.2.2]; funext i; simp [j_up, j_nv, c0, c1, c2, c3]
  · show j_up S1.2 w 3 (w + 15) w 0 = w + 1; rw [j_up_off (by decide), f0.2.1]; simp [j_sp, j_ns, j_up, e]
  · show j_up S1.2 w 3 (w + 15) w 1 = w + 14; rw [j_up_off (by decide), f0.2.1]; simp [j_sp, j_ns, j_up, e]
  · exact j_Lat_mono (S := S1) (fun _ _ => rfl) rfl (j_up_ne (by omega)) (hm.2 x (by omega) (by omega))
  · show j_up S1.2 w 3 (w + 15) (w + 14) t = -1; rw [j_up_ne (by omega), f14.2.1]; simp [j_sp, j_ns, j_up]; omega
  · show j_up (j_up V1 w 4 0) w 5 0 w 2 = 0; rw [j_up_off (by decide), j_up_off (by decide), f0.2.2]; simp [j_up, j_nv, e]
  · show j_up (j_up V1 w 4 0) w 5 0 (w + 15) 1 = 0; rw [j_up_ne (by omega), j_up_ne (by omega)]; exact v1
  · show j_up (j_up V1 w 4 0) w 5 0 (w + 15) 2 = 0; rw [j_up_ne (by omega), j_up_ne (by omega)]; exact v2
  · show j_up (j_up V1 w 4 0) w 5 0 (w + 15) 4 = 0; rw [j_up_ne (by omega), j_up_ne (by omega)]; exact v4
  · show j_up (j_up V1 w 4 0) w 5 0 (w + 17) 5 = 0; rw [j_up_ne (by omega), j_up_ne (by omega), show w + 17 = w + 15 + 2 by omega]; exact v5
  · show S1.1 c = 0
    have c0' : c ≠ w + 1 := by omega
    have c2 : c ≠ w + 14 := by omega
    have c3 : c ≠ w + 15 := by omega
    rw [(hm.1 c (by omega)).1]; simp [j_sp, j_ns, c0', c2, c3, hz c (by omega) (by omega)]
theorem j_newW_lat {S S2 : jS} {V V2 : jH} {w : Int} (h : j_newW S V w 6 S2 V2) : ∀ x : Int, w ≤ x → x ≤ w + 22 → j_Lat S2 x := by
  obtain ⟨a1, ⟨b1, b2, b3, b4⟩, ⟨r1, r2, r3⟩, a4, a5, a6, a7, a8⟩ := h
  intro x x0 x1
  by_cases c : w + 15 ≤ x
  · exact a4 x c x1
  · by_cases c1 : x = w
    · rw [c1]; exact j_Lat_30 b1 ⟨r1, b2, r2, b3, r3, b4⟩
    · by_cases c2 : x = w + 1
      · rw [c2]
        refine j_Lat_18 b2 (fun i i0 i1 => ?_)
        obtain ⟨q1, q2, -⟩ := a7 i i0 i1
        rw [show w + 1 + 1 + 2 * i = w + 2 + 2 * i by omega]
        exact ⟨q1, q2⟩
      · by_cases c3 : x = w + 14
        · rw [c3]; exact j_Lat_tr (Or.inr (Or.inl b3))
        · by_cases c4 : (x - w) % 2 = 0
          · obtain ⟨q1, q2, q3, q4, -⟩ := a7 ((x - w - 2) / 2) (by omega) (by omega)
            rw [show w + 2 + 2 * ((x - w - 2) / 2) = x by omega, show w + 3 + 2 * ((x - w - 2) / 2) = x + 1 by omega] at *
            exact j_Lat_27 q2 ⟨q3, q4⟩
          · obtain ⟨q1, q2, q3, q4, -⟩ := a7 ((x - w - 3) / 2) (by omega) (by omega)
            rw [show w + 3 + 2 * ((x - w - 3) / 2) = x by omega] at q4
            exact j_Lat_tr (Or.inl (by rw [q4]; decide))
theorem j_newW_wI {S S2 : jS} {V V2 : jH} {w : Int} (h : j_newW S V w 6 S2 V2) (hz : ∀ c : Int, w + 30 ≤ c → c ≤ w + 129 → S.1 c = 0) : j_wI S2 V2 w := by
  obtain ⟨a1, ⟨b1, b2, b3, b4⟩, ⟨r1, r2, r3⟩, a4, a5, ⟨v1, v2, v3, v4, v5⟩, a7, a8⟩ := h
  refine ⟨b1, fun p p0 p1 => ?_, ⟨by rw [v1]; omega, by rw [v1]; omega, fun t t0 t1 => Or.inr ⟨a5 t, by rw [v1]; exact t0, fun c c0 c1 => ?_⟩⟩, ⟨⟨by rw [v2]; omega, by rw [v2]; omega, fun i i0 i1 => by rw [v2] at i1; omega⟩, by rw [v3]; omega, by rw [v3]; omega, by rw [v5]; omega, by rw [v5]; omega, by rw [v4]; omega, by rw [v4]; omega⟩⟩
  · have q := (a7 p p0 p1).2.2.2.2
    exact ⟨by rw [q]; omega, by rw [q]; omega, fun i i0 i1 => by rw [q] at i1; omega⟩
  · unfold j_slotT at c0 c1
    rw [(a1 c (by omega)).1]; exact hz c (by omega) (by omega)
theorem m6_1 (l : Launch) : M6_1 l 2 258 (fun d S V => 0 ≤ d ∧ S.1 (d + 1) = 0 ∧ S.1 (d + 2) = 0) (fun d S V S' V' => S'.1 d = 25 ∧ j_made S S' V V' d (d + 2)) := by
  refine e6_1 ?_
  rintro C G h hrm hcs hl hn d S V hd ⟨d0, z1, z2⟩ R
  have e : ∀ i : Int, d = d + i ↔ i = 0 := fun i => by omega
  refine t6_1_0 (a1 := d + 1) h hrm (by omega) hd (by omega) z1 (by rw [hcs.1]; omega) (by rw [hcs.2]; omega) (m4_1 C.2.1) ⟨(by omega), by rw [j_ns1e _ _ _ (by omega), show d + 1 + 1 = d + 2 by omega]; exact z2⟩ (by rw [hcs.1]; omega) (by rw [hcs.2]; omega) ?_
  rintro S1 V1 ⟨e1, e2⟩
  rw [show d + 1 + 1 = d + 2 by omega] at e1 e2
  have k0 : S1.1 d = 25 := by rw [e1]; simp [j_sp, j_ns, hd, e]
  have k1 : S1.1 (d + 1) = 23 := by rw [e1]; simp [j_sp, j_ns]
  have k2 : S1.1 (d + 2) = 2 := by rw [e1]; simp [j_sp, j_ns]
  refine t6_1_12 h hn k0 k1 k0 R ⟨k0, fun c hc => ?_, fun x x0 x1 => ?_⟩ (by decide) (by decide)
  · have c0 : c ≠ d := by omega
    have c1 : c ≠ d + 1 := by omega
    have c2 : c ≠ d + 2 := by omega
    refine ⟨?_, ?_, ?_⟩
    · show S1.1 c = _; rw [e1]; simp [j_sp, j_ns, c1, c2]
    · show j_up S1.2 d 0 (d + 1) c = _; rw [j_up_ne c0, e1]; funext i; simp [j_sp, j_ns, j_up, c1, c2]
    · rw [j_up_ne c0, e2]; funext i; simp [j_nv, c1, c2]
  · have : x = d ∨ x = d + 1 ∨ x = d + 2 := by omega
    rcases this with q | q | q
    · rw [q]; exact j_Lat_25 k0 ⟨j_up_at _ _ _ _, k1⟩
    · rw [q]
      refine j_Lat_23 k1 ⟨?_, by rw [show d + 1 + 1 = d + 2 by omega]; exact k2⟩
      show j_up S1.2 d 0 (d + 1) (d + 1) 0 = d + 1 + 1
      rw [j_up_ne (by omega), e1]; simp [j_sp, j_ns, j_up]; omega
    · rw [q]; exact j_Lat_tr (Or.inl (by show S1.1 (d + 2) < 18; rw [k2]; decide))
theorem j_newT_lat {S S2 : jS} {V V2 : jH} {t : Int} (h : j_newT S V t 4 S2 V2) : ∀ x : Int, t ≤ x → x ≤ t + 9 → j_Lat S2 x := by
  obtain ⟨n1, n2, n3, n4, n5, n6, n7, n8⟩ := h
  intro x x0 x1
  by_cases c1 : x = t
  · rw [c1]; exact j_Lat_29 n2 ⟨n1, n3⟩
  · by_cases c2 : x = t + 1
    · rw [c2]
      refine j_Lat_19 n3 (fun i i0 i1 => ?_)
      obtain ⟨q1, q2, -⟩ := n4 i i0 i1
      rw [show t + 1 + 1 + 2 * i = t + 2 + 2 * i by omega]
      exact ⟨q1, q2⟩
    · by_cases c4 : (x - t) % 2 = 0
      · obtain ⟨q1, q2, q3, q4⟩ := n4 ((x - t - 2) / 2) (by omega) (by omega)
        rw [show t + 2 + 2 * ((x - t - 2) / 2) = x by omega, show t + 3 + 2 * ((x - t - 2) / 2) = x + 1 by omega] at *
        exact j_Lat_23 q2 ⟨q3, q4⟩
      · obtain ⟨q1, q2, q3, q4⟩ := n4 ((x - t - 3) / 2) (by omega) (by omega)
        rw [show t + 3 + 2 * ((x - t - 3) / 2) = x by omega] at q4
        exact j_Lat_tr (Or.inl (by rw [q4]; decide))
theorem m2_1 (l : Launch) : M2_1 l 21 4109 (fun d S V => 0 ≤ d ∧ ∀ c : Int, d < c → c ≤ d + 21 → S.1 c = 0) (fun d S V S' V' => S'.1 d = 21 ∧ j_made S S' V V' d (d + 21)) := by
  refine e2_1 ?_
  rintro C G h hrm hcs hl hn d S V hd ⟨d0, hz⟩ R
  refine t2_1_0 (a1 := d + 1) h hrm (by omega) hd (by omega) (hz _ (by omega) (by omega)) (by rw [hcs.1]; omega) (by rw [hcs.2]; omega) (m10_1 C.2.1) ⟨(by omega), fun c c0 c1 => by rw [j_ns1e _ _ _ (by omega)]; exact hz c (by omega) (by omega)⟩ (by rw [hcs.1]; omega) (by rw [hcs.2]; omega) ?_
  intro S1 V1 hT
  have tl := j_newT_lat hT
  obtain ⟨n1, n2, n3, n4, n5, n6, n7, n8⟩ := hT
  have o1 : ∀ c : Int, (c < d + 1 ∨ d + 10 < c) → S1.1 c = S.1 c ∧ S1.2 c = S.2 c ∧ V1 c = V c := fun c hc => by
    obtain ⟨q1, q2, q3⟩ := n6 c (by omega)
    exact ⟨q1.trans (j_ns1e _ _ _ (by omega)), q2.trans (j_ns2e _ _ _ (by omega)), q3.trans (j_nve _ _ (by omega))⟩
  have k0 : S1.1 d = 21 := by rw [(o1 d (by omega)).1]; exact hd
  refine t2_1_12 (a1 := d + 11) h hrm hn k0 n2 (by omega) (by show S1.1 (d + 11) = 0; rw [(o1 _ (by omega)).1]; exact hz _ (by omega) (by omega)) (by rw [hcs.1]; omega) (by rw [hcs.2]; omega) (m6_1 C.2.1) ⟨(by omega), ?_, ?_⟩ (by rw [hcs.1]; omega) (by rw [hcs.2]; omega) ?_
  · rw [j_ns1e _ _ _ (by omega)]; show S1.1 _ = 0; rw [(o1 _ (by omega)).1]; exact hz _ (by omega) (by omega)
  · rw [j_ns1e _ _ _ (by omega)]; show S1.1 _ = 0; rw [(o1 _ (by omega)).1]; exact hz _ (by omega) (by omega)
  rintro S2 V2 ⟨k11, p1, p2⟩
  have o2 : ∀ c : Int, (c < d + 11 ∨ d + 13 < c) → S2.1 c = S1.1 c ∧ S2.2 c = j_up S1.2 d 0 (d + 1) c ∧ V2 c = V1 c := fun c hc => by
    obtain ⟨q1, q2, q3⟩ := p1 c (by omega)
    exact ⟨q1.trans (j_ns1e _ _ _ (by omega)), q2.trans (j_ns2e _ _ _ (by omega)), q3.trans (j_nve _ _ (by omega))⟩
  have k0 : S2.1 d = 21 := by rw [(o2 d (by omega)).1]; exact k0
  have s2z : ∀ c : Int, d + 14 ≤ c → c ≤ d + 21 → S2.1 c = 0 := fun c c0 c1 => by rw [(o2 c (by omega)).1, (o1 c (by omega)).1]; exact hz c (by omega) (by omega)
  refine t2_1_23 (a1 := d + 14) h hrm hn k0 k11 (by omega) (s2z _ (by omega) (by omega)) (by rw [hcs.1]; omega) (by rw [hcs.2]; omega) (m9_1 C.2.1) ⟨(by omega), fun c c0 c1 => by rw [j_ns1e _ _ _ (by omega)]; exact s2z c (by omega) (by omega)⟩ (by rw [hcs.1]; omega) (by rw [hcs.2]; omega) ?_
  rintro S3 V3 ⟨k14, ⟨p3, p4⟩, -⟩
  have o3 : ∀ c : Int, (c < d + 14 ∨ d + 19 < c) → S3.1 c = S2.1 c ∧ S3.2 c = j_up S2.2 d 1 (d + 11) c ∧ V3 c = V2 c := fun c hc => by
    obtain ⟨q1, q2, q3⟩ := p3 c (by omega)
    exact ⟨q1.trans (j_ns1e _ _ _ (by omega)), q2.trans (j_ns2e _ _ _ (by omega)), q3.trans (j_nve _ _ (by omega))⟩
  have k0 : S3.1 d = 21 := by rw [(o3 d (by omega)).1]; exact k0
  have s3z : ∀ c : Int, d + 20 ≤ c → c ≤ d + 21 → S3.1 c = 0 := fun c c0 c1 => by rw [(o3 c (by omega)).1]; exact s2z c (by omega) (by omega)
  have k1 : S3.1 (d + 1) = 29 := by rw [(o3 _ (by omega)).1, (o2 _ (by omega)).1]; exact n2
  have k11' : S3.1 (d + 11) = 25 := by rw [(o3 _ (by omega)).1]; exact k11
  refine t2_1_34 (a1 := d + 20) (a2 := d + 21) h hn k0 k14 (by omega) (s3z _ (by omega) (by omega)) (by rw [hcs.1]; omega) (by rw [hcs.2]; omega) (by rw [j_ns1e _ _ _ (by omega)]; exact k0) (by omega) (by show (j_ns (j_sp S3 d 2 (d + 14)) (d + 20) 4).1 (d + 21) = 0; rw [j_ns1e _ _ _ (by omega)]; exact s3z _ (by omega) (by omega)) (by rw [hcs.1]; omega) (by rw [hcs.2]; omega) R ?_ (by decide) (by decide)
  -- what S is now
  have E1 : ∀ c : Int, c ≠ d + 20 → c ≠ d + 21 → (j_sp (j_ns (j_sp (j_ns (j_sp S3 d 2 (d + 14)) (d + 20) 4) d 3 (d + 20)) (d + 21) 5) d 4 (d + 21)).1 c = S3.1 c := fun c c0 c1 => by simp [j_sp, j_ns, c0, c1]
  have E2 : ∀ c : Int, c ≠ d → c ≠ d + 20 → c ≠ d + 21 → (j_sp (j_ns (j_sp (j_ns (j_sp S3 d 2 (d + 14)) (d + 20) 4) d 3 (d + 20)) (d + 21) 5) d 4 (d + 21)).2 c = S3.2 c := fun c c2 c0 c1 => by funext i; simp [j_sp, j_ns, j_up, c0, c1, c2]
  have e : ∀ i : Int, d = d + i ↔ i = 0 := fun i => by omega
  have R0 : (j_sp (j_ns (j_sp (j_ns (j_sp S3 d 2 (d + 14)) (d + 20) 4) d 3 (d + 20)) (d + 21) 5) d 4 (d + 21)).2 d 0 = d + 1 := by
    simp [j_sp, j_ns, j_up, e]; rw [(o3 d (by omega)).2.1, j_up_off (by decide), (o2 d (by omega)).2.1, j_up_at]
  have R1 : (j_sp (j_ns (j_sp (j_ns (j_sp S3 d 2 (d + 14)) (d + 20) 4) d 3 (d + 20)) (d + 21) 5) d 4 (d + 21)).2 d 1 = d + 11 := by
    simp [j_sp, j_ns, j_up, e]; rw [(o3 d (by omega)).2.1, j_up_at]
  have R2 : (j_sp (j_ns (j_sp (j_ns (j_sp S3 d 2 (d + 14)) (d + 20) 4) d 3 (d + 20)) (d + 21) 5) d 4 (d + 21)).2 d 2 = d + 14 := by simp [j_sp, j_ns, j_up, e]
  have R3 : (j_sp (j_ns (j_sp (j_ns (j_sp S3 d 2 (d + 14)) (d + 20) 4) d 3 (d + 20)) (d + 21) 5) d 4 (d + 21)).2 d 3 = d + 20 := by simp [j_sp, j_ns, j_up, e]
  have R4 : (j_sp (j_ns (j_sp (j_ns (j_sp S3 d 2 (d + 14)) (d + 20) 4) d 3 (d + 20)) (d + 21) 5) d 4 (d + 21)).2 d 4 = d + 21 := by simp [j_sp, j_ns, j_up, e]
  have K20 : (j_sp (j_ns (j_sp (j_ns (j_sp S3 d 2 (d + 14)) (d + 20) 4) d 3 (d + 20)) (d + 21) 5) d 4 (d + 21)).1 (d + 20) = 4 := by simp [j_sp, j_ns]
  have K21 : (j_sp (j_ns (j_sp (j_ns (j_sp S3 d 2 (d + 14)) (d + 20) 4) d 3 (d + 20)) (d + 21) 5) d 4 (d + 21)).1 (d + 21) = 5 := by simp [j_sp, j_ns]
  generalize j_sp (j_ns (j_sp (j_ns (j_sp S3 d 2 (d + 14)) (d + 20) 4) d 3 (d + 20)) (d + 21) 5) d 4 (d + 21) = S4 at *
  have up3 : ∀ x : Int, S3.1 x ≠ 0 → S4.1 x = S3.1 x := fun x hx => by
    by_cases c : x = d + 20 ∨ x = d + 21
    · exact absurd (s3z x (by omega) (by omega)) hx
    · exact E1 x (by omega) (by omega)
  have up2 : ∀ x : Int, S2.1 x ≠ 0 → S4.1 x = S2.1 x := fun x hx => by
    by_cases c : d + 14 ≤ x ∧ x ≤ d + 21
    · exact absurd (s2z x c.1 c.2) hx
    · rw [E1 x (by omega) (by omega)]; exact (o3 x (by omega)).1
  have up1 : ∀ x : Int, S1.1 x ≠ 0 → S4.1 x = S1.1 x := fun x hx => by
    by_cases c : d + 11 ≤ x ∧ x ≤ d + 21
    · exact absurd (by rw [(o1 x (by omega)).1]; exact hz x (by omega) (by omega)) hx
    · rw [E1 x (by omega) (by omega), (o3 x (by omega)).1]; exact (o2 x (by omega)).1
  refine ⟨by rw [E1 d (by omega) (by omega)]; exact k0, fun c hc => ⟨?_, ?_, ?_⟩, fun x x0 x1 => ?_⟩
  · rw [E1 c (by omega) (by omega), (o3 c (by omega)).1, (o2 c (by omega)).1, (o1 c (by omega)).1]
  · rw [E2 c (by omega) (by omega) (by omega), (o3 c (by omega)).2.1, j_up_ne (by omega), (o2 c (by omega)).2.1, j_up_ne (by omega), (o1 c (by omega)).2.1]
  · have c0 : c ≠ d := by omega
    have c1 : c ≠ d + 20 := by omega
    have c2 : c ≠ d + 21 := by omega
    rw [j_up_ne c0, j_nve _ _ c2, j_nve _ _ c1, (o3 c (by omega)).2.2, (o2 c (by omega)).2.2, (o1 c (by omega)).2.2]
  · by_cases c0 : x = d
    · rw [c0]
      exact j_Lat_21 (by rw [E1 d (by omega) (by omega)]; exact k0) ⟨R0, by rw [E1 _ (by omega) (by omega)]; exact k1, R1, by rw [E1 _ (by omega) (by omega)]; exact k11', R2, by rw [E1 _ (by omega) (by omega)]; exact k14, R3, K20, R4, K21⟩
    · by_cases c1 : x ≤ d + 10
      · exact j_Lat_mono up1 (by rw [E1 x (by omega) (by omega), (o3 x (by omega)).1, (o2 x (by omega)).1]) (by rw [E2 x (by omega) (by omega) (by omega), (o3 x (by omega)).2.1, j_up_ne (by omega), (o2 x (by omega)).2.1, j_up_ne (by omega)]) (tl x (by omega) (by omega))
      · by_cases c2 : x ≤ d + 13
        · exact j_Lat_mono up2 (by rw [E1 x (by omega) (by omega), (o3 x (by omega)).1]) (by rw [E2 x (by omega) (by omega) (by omega), (o3 x (by omega)).2.1, j_up_ne (by omega)]) (p2 x (by omega) (by omega))
        · by_cases c3 : x ≤ d + 19
          · exact j_Lat_mono up3 (E1 x (by omega) (by omega)) (E2 x (by omega) (by omega) (by omega)) (p4 x (by omega) (by omega))
          · have : x = d + 20 ∨ x = d + 21 := by omega
            rcases this with q | q <;> rw [q]
            · exact j_Lat_tr (Or.inl (by rw [K20]; decide))
            · exact j_Lat_tr (Or.inl (by rw [K21]; decide))
theorem m5_1 (l : Launch) : M5_1 l 2 512 (fun d S V => 0 ≤ d ∧ S.1 (d + 1) = 0 ∧ S.1 (d + 2) = 0) (fun d S V S' V' => S'.1 d = 24 ∧ j_made S S' V V' d (d + 2) ∧ S'.2 d 3 = -1) := by
  refine e5_1 ?_
  rintro C G h hrm hcs hl hn d S V hd ⟨d0, z1, z2⟩ R
  have e : ∀ i : Int, d = d + i ↔ i = 0 := fun i => by omega
  refine t5_1_0 (a1 := d + 1) (a2 := d + 2) h (by omega) hn hd (by omega) z1 (by rw [hcs.1]; omega) (by rw [hcs.2]; omega) (by omega) (by simp [j_sp, j_ns, z2]) (by rw [hcs.1]; omega) (by rw [hcs.2]; omega) R ⟨by simp [j_sp, j_ns, hd, e], ⟨fun c hc => ?_, fun x x0 x1 => ?_⟩, by simp [j_sp, j_ns, j_up, e]⟩ (by decide) (by decide)
  · have c0 : c ≠ d := by omega
    have c1 : c ≠ d + 1 := by omega
    have c2 : c ≠ d + 2 := by omega
    refine ⟨by simp [j_sp, j_ns, c1, c2], ?_, ?_⟩
    · funext i; simp [j_sp, j_ns, j_up, c0, c1, c2]
    · funext i; simp [j_up, j_nv, c0, c1, c2]
  · have : x = d ∨ x = d + 1 ∨ x = d + 2 := by omega
    rcases this with q | q | q <;> subst q
    · exact j_Lat_24 (by simp [j_sp, j_ns, hd, e]) (by simp [j_sp, j_ns, j_up, e])
    all_goals exact j_Lat_tr (by simp [j_sp, j_ns, e])
theorem m7_1 (l : Launch) : M7_1 l 0 0 (fun d S V => True) (fun d S V S' V' => S' = S ∧ ∀ c : Int, c ≠ d → V' c = V c) := by
  refine e7_1 ?_
  rintro C G h hrm hcs hl hn d S V hd - R
  exact t7_1_0 h (by omega) hd R ⟨rfl, fun c hc => by rw [j_up_ne hc, j_up_ne hc]⟩ (Nat.le_refl _) (Nat.le_refl _)
theorem m1_1 (l : Launch) : M1_1 l 50 13878 (fun a S V => 0 ≤ a ∧ (∀ x : Int, x ≠ a → j_Lat S x) ∧ ∀ c : Int, a < c → c ≤ a + 500 → S.1 c = 0) (fun a S V S' V' => j_cI S' V' a ∧ S'.2 a 1 = -1 ∧ V' a 6 = 0 ∧ V' a 7 = 0 ∧ V' (a + 1) 2 = 0 ∧ (∀ p : Int, 0 ≤ p → p < 6 → V' (a + 3 + 2 * p) 1 = 0) ∧ V' (a + 16) 1 = 0 ∧ V' (a + 16) 2 = 0 ∧ ∀ c : Int, (c < a ∨ a + 500 < c) → S'.1 c = S.1 c ∧ S'.2 c = S.2 c ∧ V' c = V c) := by
  refine e1_1 ?_
  rintro C G h hrm hcs hl hn a S V ha ⟨a0, hL, hz⟩ R
  have e : ∀ i : Int, a = a + i ↔ i = 0 := fun i => by omega
  refine t1_1_0 (a1 := a + 1) h hrm (by omega) ha (by omega) (hz _ (by omega) (by omega)) (by rw [hcs.1]; omega) (by rw [hcs.2]; omega) (m11_1 C.2.1) ⟨(by omega), fun c c0 c1 => by rw [j_ns1e _ _ _ (by omega)]; exact hz c (by omega) (by omega)⟩ (by rw [hcs.1]; omega) (by rw [hcs.2]; omega) ?_
  intro S1 V1 hW
  have wl := j_newW_lat hW
  have wI := j_newW_wI hW (fun c c0 c1 => by rw [j_ns1e _ _ _ (by omega)]; exact hz c (by omega) (by omega))
  obtain ⟨n1, ⟨w0, -, -, -⟩, -, -, -, ⟨v1, v2, v3, v4, v5⟩, n7, -⟩ := hW
  have o1 : ∀ c : Int, (c < a + 1 ∨ a + 23 < c) → S1.1 c = S.1 c ∧ S1.2 c = S.2 c ∧ V1 c = V c := fun c hc => by
    obtain ⟨q1, q2, q3⟩ := n1 c (by omega)
    exact ⟨q1.trans (j_ns1e _ _ _ (by omega)), q2.trans (j_ns2e _ _ _ (by omega)), q3.trans (j_nve _ _ (by omega))⟩
  have z1 : ∀ c : Int, a + 24 ≤ c → c ≤ a + 500 → S1.1 c = 0 := fun c c0 c1 => by rw [(o1 c (by omega)).1]; exact hz c (by omega) (by omega)
  have k1 : S1.1 a = 31 := by rw [(o1 a (by omega)).1]; exact ha
  refine t1_1_12 (a1 := a + 200) h hrm hn k1 w0 k1 (by omega) (z1 _ (by omega) (by omega)) (by rw [hcs.1]; omega) (by rw [hcs.2]; omega) (m2_1 C.2.1) ⟨(by omega), fun c c0 c1 => by rw [j_ns1e _ _ _ (by omega)]; exact z1 c (by omega) (by omega)⟩ (by rw [hcs.1]; omega) (by rw [hcs.2]; omega) ?_
  rintro S2 V2 ⟨k200, p1, p2⟩
  have o2 : ∀ c : Int, (c < a + 200 ∨ a + 221 < c) → S2.1 c = S1.1 c ∧ S2.2 c = j_up (j_up S1.2 a 0 (a + 1)) a 1 (-1) c ∧ V2 c = V1 c := fun c hc => by
    obtain ⟨q1, q2, q3⟩ := p1 c (by omega)
    exact ⟨q1.trans (j_ns1e _ _ _ (by omega)), q2.trans (j_ns2e _ _ _ (by omega)), q3.trans (j_nve _ _ (by omega))⟩
  have z2 : ∀ c : Int, (a + 24 ≤ c ∧ c < a + 200 ∨ a + 221 < c) → c ≤ a + 500 → S2.1 c = 0 := fun c c0 c1 => by rw [(o2 c (by omega)).1]; exact z1 c (by omega) (by omega)
  have k2 : S2.1 a = 31 := by rw [(o2 a (by omega)).1]; exact k1
  refine t1_1_28 (a1 := a + 230) h hrm hn k2 k200 (by omega) (z2 _ (by omega) (by omega)) (by rw [hcs.1]; omega) (by rw [hcs.2]; omega) (m5_1 C.2.1) ⟨(by omega), by rw [j_ns1e _ _ _ (by omega)]; exact z2 _ (by omega) (by omega), by rw [j_ns1e _ _ _ (by omega)]; exact z2 _ (by omega) (by omega)⟩ (by rw [hcs.1]; omega) (by rw [hcs.2]; omega) ?_
  rintro S3 V3 ⟨k230, ⟨p3, p4⟩, d3⟩
  have o3 : ∀ c : Int, (c < a + 230 ∨ a + 232 < c) → S3.1 c = S2.1 c ∧ S3.2 c = j_up S2.2 a 2 (a + 200) c ∧ V3 c = V2 c := fun c hc => by
    obtain ⟨q1, q2, q3⟩ := p3 c (by omega)
    exact ⟨q1.trans (j_ns1e _ _ _ (by omega)), q2.trans (j_ns2e _ _ _ (by omega)), q3.trans (j_nve _ _ (by omega))⟩
  have z3 : ∀ c : Int, (a + 24 ≤ c ∧ c < a + 200 ∨ a + 232 < c) → c ≤ a + 500 → S3.1 c = 0 := fun c c0 c1 => by rw [(o3 c (by omega)).1]; exact z2 c (by omega) (by omega)
  have k3 : S3.1 a = 31 := by rw [(o3 a (by omega)).1]; exact k2
  refine t1_1_39 (a1 := a + 240) h hrm hn k3 k230 (by omega) (z3 _ (by omega) (by omega)) (by rw [hcs.1]; omega) (by rw [hcs.2]; omega) (m7_1 C.2.1) trivial (by rw [hcs.1]; omega) (by rw [hcs.2]; omega) ?_
  rintro S4 V4 ⟨e4, p5⟩
  have o4 : ∀ c : Int, c ≠ a + 240 → S4.1 c = S3.1 c ∧ S4.2 c = j_up S3.2 a 3 (a + 230) c ∧ V4 c = V3 c := fun c hc => by
    rw [e4]
    exact ⟨j_ns1e _ _ _ hc, j_ns2e _ _ _ hc, (p5 c hc).trans (j_nve _ _ hc)⟩
  have k240 : S4.1 (a + 240) = 26 := by rw [e4]; exact j_nsa _ _ _
  have z4 : ∀ c : Int, (a + 24 ≤ c ∧ c < a + 200 ∨ a + 232 < c ∧ c < a + 240 ∨ a + 240 < c) → c ≤ a + 500 → S4.1 c = 0 := fun c c0 c1 => by rw [(o4 c (by omega)).1]; exact z3 c (by omega) (by omega)
  have k4 : S4.1 a = 31 := by rw [(o4 a (by omega)).1]; exact k3
  refine t1_1_50 (a1 := a + 241) h hn k4 k240 (by omega) (z4 _ (by omega) (by omega)) (by rw [hcs.1]; omega) (by rw [hcs.2]; omega) (by rw [j_ns1e _ _ _ (by omega)]; exact k4) R ?_ (by decide) (by decide)
  have E1 : ∀ c : Int, c ≠ a + 241 → (j_sp (j_ns (j_sp S4 a 4 (a + 240)) (a + 241) 1) a 5 (a + 241)).1 c = S4.1 c := fun c c0 => by simp [j_sp, j_ns, c0]
  have E2 : ∀ c : Int, c ≠ a → c ≠ a + 241 → (j_sp (j_ns (j_sp S4 a 4 (a + 240)) (a + 241) 1) a 5 (a + 241)).2 c = S4.2 c := fun c c1 c0 => by funext i; simp [j_sp, j_ns, j_up, c0, c1]
  have K241 : (j_sp (j_ns (j_sp S4 a 4 (a + 240)) (a + 241) 1) a 5 (a + 241)).1 (a + 241) = 1 := by simp [j_sp, j_ns]
  have R0 : (j_sp (j_ns (j_sp S4 a 4 (a + 240)) (a + 241) 1) a 5 (a + 241)).2 a 0 = a + 1 := by
    simp [j_sp, j_ns, j_up, e]; rw [(o4 a (by omega)).2.1, j_up_off (by decide), (o3 a (by omega)).2.1, j_up_off (by decide), (o2 a (by omega)).2.1, j_up_off (by decide), j_up_at]
  have R1 : (j_sp (j_ns (j_sp S4 a 4 (a + 240)) (a + 241) 1) a 5 (a + 241)).2 a 1 = -1 := by
    simp [j_sp, j_ns, j_up, e]; rw [(o4 a (by omega)).2.1, j_up_off (by decide), (o3 a (by omega)).2.1, j_up_off (by decide), (o2 a (by omega)).2.1, j_up_at]
  have R2 : (j_sp (j_ns (j_sp S4 a 4 (a + 240)) (a + 241) 1) a 5 (a + 241)).2 a 2 = a + 200 := by
    simp [j_sp, j_ns, j_up, e]; rw [(o4 a (by omega)).2.1, j_up_off (by decide), (o3 a (by omega)).2.1, j_up_at]
  have R3 : (j_sp (j_ns (j_sp S4 a 4 (a + 240)) (a + 241) 1) a 5 (a + 241)).2 a 3 = a + 230 := by
    simp [j_sp, j_ns, j_up, e]; rw [(o4 a (by omega)).2.1, j_up_at]
  have R4 : (j_sp (j_ns (j_sp S4 a 4 (a + 240)) (a + 241) 1) a 5 (a + 241)).2 a 4 = a + 240 := by simp [j_sp, j_ns, j_up, e]
  have R5 : (j_sp (j_ns (j_sp S4 a 4 (a + 240)) (a + 241) 1) a 5 (a + 241)).2 a 5 = a + 241 := by simp [j_sp, j_ns, j_up, e]
  have E3 : ∀ c : Int, c ≠ a → c ≠ a + 241 → j_up (j_up (j_nv V4 (a + 241)) a 6 0) a 7 0 c = V4 c := fun c c0 c1 => by rw [j_up_ne c0, j_up_ne c0, j_nve _ _ c1]
  have V6 : j_up (j_up (j_nv V4 (a + 241)) a 6 0) a 7 0 a 6 = 0 := by rw [j_up_off (by decide), j_up_at]
  have V7 : j_up (j_up (j_nv V4 (a + 241)) a 6 0) a 7 0 a 7 = 0 := j_up_at _ _ _ _
  generalize j_sp (j_ns (j_sp S4 a 4 (a + 240)) (a + 241) 1) a 5 (a + 241) = S5 at *
  generalize j_up (j_up (j_nv V4 (a + 241)) a 6 0) a 7 0 = V5 at *
  have z5 : ∀ c : Int, (a + 24 ≤ c ∧ c < a + 200 ∨ a + 232 < c ∧ c < a + 240 ∨ a + 241 < c) → c ≤ a + 500 → S5.1 c = 0 := fun c c0 c1 => by rw [E1 c (by omega)]; exact z4 c (by omega) (by omega)
  have k5 : S5.1 a = 31 := by rw [E1 a (by omega)]; exact k4
  have up3 : ∀ x : Int, S3.1 x ≠ 0 → S5.1 x = S3.1 x := fun x hx => by
    by_cases c : x = a + 240 ∨ x = a + 241
    · exact absurd (z3 x (by omega) (by omega)) hx
    · rw [E1 x (by omega)]; exact (o4 x (by omega)).1
  have up2 : ∀ x : Int, S2.1 x ≠ 0 → S5.1 x = S2.1 x := fun x hx => by
    by_cases c : a + 221 < x ∧ x ≤ a + 500
    · exact absurd (z2 x (by omega) (by omega)) hx
    · rw [E1 x (by omega), (o4 x (by omega)).1]; exact (o3 x (by omega)).1
  have up1 : ∀ x : Int, S1.1 x ≠ 0 → S5.1 x = S1.1 x := fun x hx => by
    by_cases c : a + 24 ≤ x ∧ x ≤ a + 500
    · exact absurd (z1 x (by omega) (by omega)) hx
    · rw [E1 x (by omega), (o4 x (by omega)).1, (o3 x (by omega)).1]; exact (o2 x (by omega)).1
  have up0 : ∀ x : Int, S.1 x ≠ 0 → S5.1 x = S.1 x := fun x hx => by
    by_cases c : a < x ∧ x ≤ a + 500
    · exact absurd (hz x (by omega) (by omega)) hx
    · rw [E1 x (by omega), (o4 x (by omega)).1, (o3 x (by omega)).1, (o2 x (by omega)).1]; exact (o1 x (by omega)).1
  have L : j_L S5 := j_L_of (fun x => by
    by_cases c0 : x = a
    · rw [c0]
      exact j_Lat_31 k5 ⟨R0, by rw [E1 _ (by omega), (o4 _ (by omega)).1, (o3 _ (by omega)).1, (o2 _ (by omega)).1]; exact w0, R2, by rw [E1 _ (by omega), (o4 _ (by omega)).1, (o3 _ (by omega)).1]; exact k200, R3, by rw [E1 _ (by omega), (o4 _ (by omega)).1]; exact k230, R4, by rw [E1 _ (by omega)]; exact k240, R5, K241⟩
    · by_cases c1 : x < a ∨ a + 500 < x
      · exact j_Lat_mono up0 (by rw [E1 x (by omega), (o4 x (by omega)).1, (o3 x (by omega)).1, (o2 x (by omega)).1, (o1 x (by omega)).1]) (by rw [E2 x (by omega) (by omega), (o4 x (by omega)).2.1, j_up_ne (by omega), (o3 x (by omega)).2.1, j_up_ne (by omega), (o2 x (by omega)).2.1, j_up_ne (by omega), j_up_ne (by omega), (o1 x (by omega)).2.1]) (hL x c0)
      · by_cases c2 : x ≤ a + 23
        · exact j_Lat_mono up1 (by rw [E1 x (by omega), (o4 x (by omega)).1, (o3 x (by omega)).1, (o2 x (by omega)).1]) (by rw [E2 x (by omega) (by omega), (o4 x (by omega)).2.1, j_up_ne (by omega), (o3 x (by omega)).2.1, j_up_ne (by omega), (o2 x (by omega)).2.1, j_up_ne (by omega), j_up_ne (by omega)]) (wl x (by omega) (by omega))
        · by_cases c3 : a + 200 ≤ x ∧ x ≤ a + 221
          · exact j_Lat_mono up2 (by rw [E1 x (by omega), (o4 x (by omega)).1, (o3 x (by omega)).1]) (by rw [E2 x (by omega) (by omega), (o4 x (by omega)).2.1, j_up_ne (by omega), (o3 x (by omega)).2.1, j_up_ne (by omega)]) (p2 x (by omega) (by omega))
          · by_cases c4 : a + 230 ≤ x ∧ x ≤ a + 232
            · exact j_Lat_mono up3 (by rw [E1 x (by omega), (o4 x (by omega)).1]) (by rw [E2 x (by omega) (by omega), (o4 x (by omega)).2.1, j_up_ne (by omega)]) (p4 x (by omega) (by omega))
            · by_cases c5 : x = a + 240
              · rw [c5]; exact j_Lat_tr (Or.inr (Or.inr (by rw [E1 _ (by omega)]; exact k240)))
              · by_cases c6 : x = a + 241
                · rw [c6]; exact j_Lat_tr (Or.inl (by rw [K241]; decide))
                · by_cases c7 : a + 222 ≤ x ∧ x ≤ a + 229
                  · exact j_Lat_tr (Or.inl (by rw [E1 x (by omega), (o4 x (by omega)).1, (o3 x (by omega)).1, z2 x (by omega) (by omega)]; decide))
                  · exact j_Lat_tr (Or.inl (by rw [z5 x (by omega) (by omega)]; decide)))
  have fS : ∀ c : Int, a + 1 ≤ c → c ≤ a + 130 → S5.1 c = S1.1 c ∧ S5.2 c = S1.2 c ∧ V5 c = V1 c := fun c c0 c1 => ⟨by rw [E1 c (by omega), (o4 c (by omega)).1, (o3 c (by omega)).1, (o2 c (by omega)).1], by rw [E2 c (by omega) (by omega), (o4 c (by omega)).2.1, j_up_ne (by omega), (o3 c (by omega)).2.1, j_up_ne (by omega), (o2 c (by omega)).2.1, j_up_ne (by omega), j_up_ne (by omega)], by rw [E3 c (by omega) (by omega), (o4 c (by omega)).2.2, (o3 c (by omega)).2.2, (o2 c (by omega)).2.2]⟩
  have wI5 : j_wI S5 V5 (a + 1) := by
    obtain ⟨q1, q2, ⟨q3, q4, q5⟩, q6⟩ := wI
    refine ⟨by rw [(fS _ (by omega) (by omega)).1]; exact q1, j_rI_congr (fun c c0 c1 => (fS c (by omega) (by omega)).2.2) q2, ⟨by rw [(fS _ (by omega) (by omega)).2.2]; exact q3, by rw [(fS _ (by omega) (by omega)).2.2]; exact q4, fun t t0 t1 => ?_⟩, j_bI_congr (fun c c0 c1 => (fS c (by omega) (by omega)).2.2) q6⟩
    rcases q5 t t0 t1 with ⟨y1, y2, y3⟩ | ⟨y1, y2, y3⟩
    · rw [v1] at y3
      have hz' := z1 (j_slotT (a + 1) t) (by unfold j_slotT; omega) (by unfold j_slotT; omega)
      rw [y2] at hz'; exact absurd hz' (by decide)
    · refine Or.inr ⟨by rw [(fS _ (by omega) (by omega)).2.1]; exact y1, by rw [(fS _ (by omega) (by omega)).2.2]; exact y2, fun c c0 c1 => ?_⟩
      have y := y3 c c0 c1
      unfold j_slotT at c0 c1
      rw [(fS c (by omega) (by omega)).1]; exact y
  have e3 : a + 1 + 15 = a + 16 := by omega
  refine ⟨⟨L, k5, a0, wI5, Or.inl ⟨R1, fun c c0 c1 => z5 c (by omega) (by omega)⟩, Or.inl ⟨?_, z5 _ (by omega) (by omega)⟩, ⟨by rw [V6]; omega, by rw [V6]; omega⟩, by rw [V7]; omega, by rw [V7]; omega⟩, R1, V6, V7, by rw [(fS _ (by omega) (by omega)).2.2]; exact v1, fun p p0 p1 => ?_, by rw [(fS _ (by omega) (by omega)).2.2, ← e3]; exact v2, by rw [(fS _ (by omega) (by omega)).2.2, ← e3]; exact v3, fun c hc => ⟨?_, ?_, ?_⟩⟩
  · rw [E2 _ (by omega) (by omega), (o4 _ (by omega)).2.1, j_up_ne (by omega)]; exact d3
  · rw [(fS _ (by omega) (by omega)).2.2]
    have := (n7 p p0 p1).2.2.2.2
    rw [show a + 1 + 2 + 2 * p = a + 3 + 2 * p by omega] at this
    exact this
  · rw [E1 c (by omega), (o4 c (by omega)).1, (o3 c (by omega)).1, (o2 c (by omega)).1, (o1 c (by omega)).1]
  · rw [E2 c (by omega) (by omega), (o4 c (by omega)).2.1, j_up_ne (by omega), (o3 c (by omega)).2.1, j_up_ne (by omega), (o2 c (by omega)).2.1, j_up_ne (by omega), j_up_ne (by omega), (o1 c (by omega)).2.1]
  · rw [E3 c (by omega) (by omega), (o4 c (by omega)).2.2, (o3 c (by omega)).2.2, (o2 c (by omega)).2.2, (o1 c (by omega)).2.2]
