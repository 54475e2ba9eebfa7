/-! THE CLASS: a table is made -/
theorem j_ns1e (S : jS) (a : Int) (k : Nat) {c : Int} (h : c ≠ a) : (j_ns S a k).1 c = S.1 c := if_neg h
theorem j_ns2e (S : jS) (a : Int) (k : Nat) {c : Int} (h : c ≠ a) : (j_ns S a k).2 c = S.2 c := if_neg h
theorem j_nve (V : jH) (a : Int) {c : Int} (h : c ≠ a) : j_nv V a c = V c := if_neg h
/-- so many deals of a table are made -/
def j_newT (S : jS) (V : jH) (t i : Int) (S2 : jS) (V2 : jH) : Prop := S2.2 t 0 = t + 1 ∧ S2.1 t = 29 ∧ S2.1 (t + 1) = 19 ∧ (∀ p : Int, 0 ≤ p → p < i → S2.2 (t + 1) p = t + 2 + 2 * p ∧ S2.1 (t + 2 + 2 * p) = 23 ∧ S2.2 (t + 2 + 2 * p) 0 = t + 3 + 2 * p ∧ S2.1 (t + 3 + 2 * p) = 2) ∧ (∀ c : Int, t + 2 + 2 * i ≤ c → c ≤ t + 9 → S2.1 c = 0) ∧
  (∀ c : Int, (c < t ∨ t + 9 < c) → S2.1 c = S.1 c ∧ S2.2 c = S.2 c ∧ V2 c = V c) ∧ V2 t 1 = 1 ∧ V2 t 2 = 8
theorem m10_1 (l : Launch) : M10_1 l 9 1036 (fun t S V => 0 ≤ t ∧ ∀ c : Int, t < c → c ≤ t + 9 → S.1 c = 0) (fun t S V S' V' => j_newT S V t 4 S' V') := by
  refine e10_1 ?_
  rintro C G h hrm hcs hl hn t S V ht ⟨t0, hz⟩ R
  refine t10_1_0 (a1 := t + 1) h (by omega) hn ht (by omega) (hz _ (by omega) (by omega)) (by rw [hcs.1]; omega) (by rw [hcs.2]; omega) ?_
  have loop : ∀ (i : Int) (z : jS × jH), (0 ≤ i ∧ i ≤ 4 ∧ j_newT S V t i z.1 z.2) → j_ok n_KT 2 C G 25 [(0, (2, t)), (1, (0, i))] [] z.1 z.2 (0 + 1 + 2 * i.toNat) (0 + 4 + 258 * i.toNat) := by
    refine j_loop (N := 4) (fun i z hi hI kk => ?_) (fun i z hi hI => ?_)
    · obtain ⟨S2, V2⟩ := z
      obtain ⟨g0, g1, a1, a2, a3, a4, a5, a6, a7, a8⟩ := hI
      dsimp only at a1 a2 a3 a4 a5 a6 a7 a8 ⊢
      refine t10_1_25 h (fun q => absurd q (by omega)) (fun _ => ?_)
      refine t10_1_30 (a1 := t + 2 + 2 * i) h hrm a2 (by omega) (a5 _ (by omega) (by omega)) (by rw [hcs.1]; omega) (by rw [hcs.2]; omega) (m4_1 C.2.1) ⟨by omega, by rw [j_ns1e _ _ _ (by omega)]; exact a5 _ (by omega) (by omega)⟩ (by rw [hcs.1]; omega) (by rw [hcs.2]; omega) ?_
      rintro S3 V3 ⟨e3, v3⟩
      rw [show t + 2 + 2 * i + 1 = t + 3 + 2 * i by omega] at e3 v3
      rw [a1]
      have k1 : ∀ c : Int, c ≠ t + 2 + 2 * i → c ≠ t + 3 + 2 * i → S3.1 c = S2.1 c := fun c c0 c1 => by
        rw [e3]; show (j_ns (j_ns S2 (t + 2 + 2 * i) 23) (t + 3 + 2 * i) 2).1 c = _; rw [j_ns1e _ _ _ c1, j_ns1e _ _ _ c0]
      have k2 : ∀ c : Int, c ≠ t + 2 + 2 * i → c ≠ t + 3 + 2 * i → S3.2 c = S2.2 c := fun c c0 c1 => by
        rw [e3]; show j_up (j_ns (j_ns S2 (t + 2 + 2 * i) 23) (t + 3 + 2 * i) 2).2 _ _ _ c = _; rw [j_up_ne c0, j_ns2e _ _ _ c1, j_ns2e _ _ _ c0]
      have k3 : S3.1 (t + 2 + 2 * i) = 23 := by
        rw [e3]; show (j_ns (j_ns S2 (t + 2 + 2 * i) 23) (t + 3 + 2 * i) 2).1 (t + 2 + 2 * i) = 23; rw [j_ns1e _ _ _ (by omega)]; exact j_nsa _ _ _
      have k4 : S3.1 (t + 3 + 2 * i) = 2 := by rw [e3]; exact j_nsa _ _ _
      have k5 : S3.2 (t + 2 + 2 * i) 0 = t + 3 + 2 * i := by rw [e3]; exact j_up_at _ _ _ _
      have k6 : ∀ c : Int, c ≠ t + 2 + 2 * i → c ≠ t + 3 + 2 * i → V3 c = V2 c := fun c c0 c1 => by rw [v3, j_nve _ _ c1, j_nve _ _ c0]
      refine t10_1_42 h (by rw [k1 _ (by omega) (by omega)]; exact a3) k3 g0 hi (by omega) ?_
      have nx := kk (j_sp S3 (t + 1) i (t + 2 + 2 * i), V3) ⟨by omega, by omega, ?_⟩
      · dsimp only at nx
        rw [show (i + 1).toNat = i.toNat + 1 by omega] at nx
        rw [show 0 + 1 + 2 * i.toNat + 1 + 1 = 0 + 1 + 2 * (i.toNat + 1) by omega, show 0 + 4 + 258 * i.toNat + 1 + 257 = 0 + 4 + 258 * (i.toNat + 1) by omega]
        exact nx
      · have s2 : ∀ c : Int, c ≠ t + 1 → (j_sp S3 (t + 1) i (t + 2 + 2 * i)).2 c = S3.2 c := fun c hc => j_up_ne hc
        refine ⟨?_, ?_, ?_, fun p p0 p1 => ?_, fun c c0 c1 => ?_, fun c hc => ?_, ?_, ?_⟩
        · rw [s2 _ (by omega), k2 _ (by omega) (by omega)]; exact a1
        · show S3.1 t = 29; rw [k1 _ (by omega) (by omega)]; exact a2
        · show S3.1 (t + 1) = 19; rw [k1 _ (by omega) (by omega)]; exact a3
        · by_cases e : p = i
          · rw [e]
            refine ⟨j_up_at _ _ _ _, k3, ?_, k4⟩
            rw [s2 _ (by omega)]; exact k5
          · obtain ⟨b1, b2, b3, b4⟩ := a4 p p0 (by omega)
            refine ⟨?_, ?_, ?_, ?_⟩
            · show j_up S3.2 (t + 1) i (t + 2 + 2 * i) (t + 1) p = _
              rw [j_up_off e, k2 _ (by omega) (by omega)]; exact b1
            · show S3.1 _ = 23; rw [k1 _ (by omega) (by omega)]; exact b2
            · rw [s2 _ (by omega), k2 _ (by omega) (by omega)]; exact b3
            · show S3.1 _ = 2; rw [k1 _ (by omega) (by omega)]; exact b4
        · show S3.1 c = 0; rw [k1 _ (by omega) (by omega)]; exact a5 c (by omega) c1
        · obtain ⟨b1, b2, b3⟩ := a6 c hc
          refine ⟨?_, ?_, ?_⟩
          · show S3.1 c = S.1 c; rw [k1 _ (by omega) (by omega)]; exact b1
          · rw [s2 _ (by omega), k2 _ (by omega) (by omega)]; exact b2
          · show V3 c = V c; rw [k6 _ (by omega) (by omega)]; exact b3
        · show V3 t 1 = 1; rw [k6 _ (by omega) (by omega)]; exact a7
        · show V3 t 2 = 8; rw [k6 _ (by omega) (by omega)]; exact a8
    · obtain ⟨S2, V2⟩ := z
      obtain ⟨g0, g1, gp⟩ := hI
      have ei : i = 4 := by omega
      rw [ei] at gp ⊢
      exact t10_1_25 h (fun _ => t10_1_49 h R gp (by decide) (by decide)) (fun q => absurd q (by omega))
  have := loop 0 (j_sp (j_ns S (t + 1) 19) t 0 (t + 1), j_up (j_up (j_nv V (t + 1)) t 1 1) t 2 8) ⟨by omega, by omega, ?_⟩
  · exact this
  · refine ⟨j_up_at _ _ _ _, ?_, j_nsa _ _ _, fun p p0 p1 => absurd p1 (by omega), fun c c0 c1 => ?_, fun c hc => ⟨?_, ?_, ?_⟩, ?_, ?_⟩
    · show (j_ns S (t + 1) 19).1 t = 29; rw [j_ns1e _ _ _ (by omega)]; exact ht
    · show (j_ns S (t + 1) 19).1 c = 0; rw [j_ns1e _ _ _ (by omega)]; exact hz c (by omega) c1
    · show (j_ns S (t + 1) 19).1 c = S.1 c; rw [j_ns1e _ _ _ (by omega)]
    · show j_up (j_ns S (t + 1) 19).2 t 0 (t + 1) c = S.2 c; rw [j_up_ne (by omega), j_ns2e _ _ _ (by omega)]
    · show j_up (j_up (j_nv V (t + 1)) t 1 1) t 2 8 c = V c; rw [j_up_ne (by omega), j_up_ne (by omega), j_nve _ _ (by omega)]
    · show j_up (j_up (j_nv V (t + 1)) t 1 1) t 2 8 t 1 = 1; rw [j_up_off (by decide), j_up_at]
    · exact j_up_at _ _ _ _
