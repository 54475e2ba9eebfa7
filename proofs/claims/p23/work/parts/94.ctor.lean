/-! THE CLASS: things are made -/
/-- what lies from lo to hi is made -/
def j_made (S S' : jS) (V V' : jH) (lo hi : Int) : Prop := (∀ c : Int, (c < lo ∨ hi < c) → S'.1 c = S.1 c ∧ S'.2 c = S.2 c ∧ V' c = V c) ∧ ∀ x : Int, lo ≤ x → x ≤ hi → j_Lat S' x
theorem m9_1 (l : Launch) : M9_1 l 5 2000 (fun d S V => 0 ≤ d ∧ ∀ c : Int, d < c → c ≤ d + 5 → S.1 c = 0) (fun d S V S' V' => S'.1 d = 28 ∧ j_made S S' V V' d (d + 5) ∧ V' d 5 = 0) := by
  refine e9_1 ?_
  rintro C G h hrm hcs hl hn d S V hd ⟨d0, hz⟩ R
  have z1 := hz (d + 1) (by omega) (by omega)
  have z2 := hz (d + 2) (by omega) (by omega)
  have z3 := hz (d + 3) (by omega) (by omega)
  have z4 := hz (d + 4) (by omega) (by omega)
  have z5 := hz (d + 5) (by omega) (by omega)
  refine t9_1_0 (a1 := d + 1) (a2 := d + 2) (a3 := d + 3) (a4 := d + 4) (a5 := d + 5) h (by omega) hn hd (by omega) z1 (by rw [hcs.1]; omega) (by rw [hcs.2]; omega) (by omega) (by simp [j_sp, j_ns, z2]) (by rw [hcs.1]; omega) (by rw [hcs.2]; omega) (by omega) (by simp [j_sp, j_ns, z3]) (by rw [hcs.1]; omega) (by rw [hcs.2]; omega) (by omega) (by simp [j_sp, j_ns, z4]) (by rw [hcs.1]; omega) (by rw [hcs.2]; omega) (by omega) (by simp [j_sp, j_ns, z5]) (by rw [hcs.1]; omega) (by rw [hcs.2]; omega) R ?_ (Nat.le_refl _) (Nat.le_refl _)
  have e : ∀ i : Int, d = d + i ↔ i = 0 := fun i => by omega
  refine ⟨by simp [j_sp, j_ns, hd, e], ⟨fun c hc => ?_, fun x x0 x1 => ?_⟩, by simp [j_up]⟩
  · have c0 : c ≠ d := by omega
    have c1 : c ≠ d + 1 := by omega
    have c2 : c ≠ d + 2 := by omega
    have c3 : c ≠ d + 3 := by omega
    have c4 : c ≠ d + 4 := by omega
    have c5 : c ≠ d + 5 := by omega
    refine ⟨by simp [j_sp, j_ns, c0, c1, c2, c3, c4, c5], ?_, ?_⟩
    · funext i; simp [j_sp, j_ns, j_up, c0, c1, c2, c3, c4, c5]
    · funext i; simp [j_up, j_nv, c0, c1, c2, c3, c4, c5]
  · have : x = d ∨ x = d + 1 ∨ x = d + 2 ∨ x = d + 3 ∨ x = d + 4 ∨ x = d + 5 := by omega
    rcases this with q | q | q | q | q | q <;> subst q
    · exact j_Lat_28 (by simp [j_sp, j_ns, hd, e]) (by simp [j_sp, j_ns, j_up, e])
    all_goals exact j_Lat_tr (by simp [j_sp, j_ns, e])
theorem j_made_up {S S' : jS} {V V' : jH} {lo hi : Int} (h : j_made S S' V V' lo hi) (hz : ∀ c : Int, lo < c → c ≤ hi → S.1 c = 0) (h0 : S'.1 lo = S.1 lo) : ∀ x : Int, S.1 x ≠ 0 → S'.1 x = S.1 x := fun x hx => by
  by_cases c : x < lo ∨ hi < x
  · exact (h.1 x c).1
  · by_cases c2 : x = lo
    · rw [c2]; exact h0
    · exact absurd (hz x (by omega) (by omega)) hx
theorem m3_1 (l : Launch) : M3_1 l 7 6406 (fun d S V => 0 ≤ d ∧ ∀ c : Int, d < c → c ≤ d + 7 → S.1 c = 0) (fun d S V S' V' => S'.1 d = 22 ∧ j_made S S' V V' d (d + 7) ∧ V' d 1 = 0 ∧ V' d 2 = 0 ∧ V' d 4 = 0 ∧ V' (d + 2) 5 = 0) := by
  refine e3_1 ?_
  rintro C G h hrm hcs hl hn d S V hd ⟨d0, hz⟩ R
  have z1 := hz (d + 1) (by omega) (by omega)
  have z2 := hz (d + 2) (by omega) (by omega)
  have e : ∀ i : Int, d = d + i ↔ i = 0 := fun i => by omega
  refine t3_1_0 (a1 := d + 1) (a2 := d + 2) h hrm (by omega) hn hd (by omega) z1 (by rw [hcs.1]; omega) (by rw [hcs.2]; omega) (by omega) (by simp [j_sp, j_ns, z2]) (by rw [hcs.1]; omega) (by rw [hcs.2]; omega) (m9_1 C.2.1) ⟨(by omega), fun c c0 c1 => ?_⟩ (by rw [hcs.1]; omega) (by rw [hcs.2]; omega) ?_
  · have q1 : c ≠ d + 1 := by omega
    have q2 : c ≠ d + 2 := by omega
    simp [j_sp, j_ns, q1, q2, hz c (by omega) (by omega)]
  · rintro S1 V1 ⟨k2, hm, v5⟩
    have f0 := hm.1 d (by omega)
    have f1 := hm.1 (d + 1) (by omega)
    have g0 : S1.1 d = 22 := by rw [f0.1]; simp [j_sp, j_ns, hd, e]
    have g1 : S1.1 (d + 1) = 6 := by rw [f1.1]; simp [j_sp, j_ns]
    refine t3_1_31 h hn g0 k2 g0 R ⟨g0, ⟨fun c hc => ?_, fun x x0 x1 => ?_⟩, ?_, ?_, j_up_at _ _ _ _, ?_⟩ (by decide) (by decide)
    · have c0 : c ≠ d := by omega
      have c1 : c ≠ d + 1 := by omega
      have c2 : c ≠ d + 2 := by omega
      have f := hm.1 c (by omega)
      refine ⟨?_, ?_, ?_⟩
      · show S1.1 c = _; rw [f.1]; simp [j_sp, j_ns, c0, c1, c2]
      · show j_up S1.2 d 3 (d + 2) c = _; rw [j_up_ne c0, f.2.1]; funext i; simp [j_sp, j_ns, j_up, c0, c1, c2]
      · rw [j_up_ne c0, f.2.2]; funext i; simp [j_up, j_nv, c0, c1, c2]
    · by_cases c : d + 2 ≤ x
      · exact j_Lat_mono (S := S1) (fun _ _ => rfl) rfl (j_up_ne (by omega)) (hm.2 x (by omega) (by omega))
      · have : x = d ∨ x = d + 1 := by omega
        rcases this with q | q <;> subst q
        · refine j_Lat_22 g0 ⟨?_, g1, j_up_at _ _ _ _, k2⟩
          show j_up S1.2 x 3 (x + 2) x 0 = x + 1
          rw [j_up_off (by decide), f0.2.1]; simp [j_sp, j_ns, j_up, e]
        · exact j_Lat_tr (Or.inl (by show S1.1 (d + 1) < 18; rw [g1]; decide))
    · rw [j_up_off (by decide), f0.2.2]; simp [j_up, j_nv, e]
    · rw [j_up_off (by decide), f0.2.2]; simp [j_up, j_nv, e]
    · rw [j_up_ne (by omega)]; exact v5
