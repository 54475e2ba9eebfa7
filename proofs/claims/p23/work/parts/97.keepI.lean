/-! THE CLASS: what always holds, holds behind each call -/
def j_cN (S : jS) (V : jH) (a : Int) (S' : jS) (V' : jH) : Prop := j_cI S' V' a ∧ V' a 7 ≤ V a 7 + 1 ∧ ∀ c : Int, (c < a ∨ a + 500 < c) → S'.1 c = S.1 c ∧ S'.2 c = S.2 c ∧ V' c = V c
theorem j_wI_congr' {S : jS} {V V' : jH} {w : Int} (h0 : V' w 2 = V w 2) (hV : ∀ c : Int, w + 1 ≤ c → c ≤ w + 129 → V' c = V c) (h : j_wI S V w) : j_wI S V' w :=
  ⟨h.1, j_rI_congr (fun c c0 c1 => hV c (by omega) (by omega)) h.2.1, j_sI_congr h0 (fun c c0 c1 => hV c (by omega) (by omega)) h.2.2.1, j_bI_congr (fun c c0 c1 => hV c (by omega) (by omega)) h.2.2.2⟩
theorem j_cN_of {S : jS} {V V' : jH} {a : Int} (hI : j_cI S V a) (h7b : V a 7 < 1000000) (h6 : 0 ≤ V' a 6 ∧ V' a 6 ≤ 400) (h7 : V a 7 ≤ V' a 7 ∧ V' a 7 ≤ V a 7 + 1) (hw : j_wI S V' (a + 1)) (hk : ∀ c : Int, a + 300 ≤ c → c ≤ a + 429 → V' c = V c) (hd : V' (a + 233) = V (a + 233)) (hf : ∀ c : Int, (c < a ∨ a + 500 < c) → V' c = V c) : j_cN S V a S V' := by
  obtain ⟨L, ht, a0, -, k, d, -, q7⟩ := hI
  exact ⟨⟨L, ht, a0, hw, j_kI_congr hk k, j_dI_congr hd d, h6, (by omega), (by omega)⟩, h7.2, fun c hc => ⟨rfl, rfl, hf c hc⟩⟩
theorem j_cN_fd {S : jS} {V : jH} {a : Int} (hI : j_cI S V a) (h7 : V a 7 < 1000000) : j_cN S V a S (j_fd V a) :=
  ⟨j_cI_fd hI h7, by unfold j_fd; rw [j_up_at]; omega, fun c hc => ⟨rfl, rfl, by unfold j_fd; rw [j_up_ne (by omega)]⟩⟩
theorem j_cN_rf {S : jS} {V : jH} {a : Int} (hI : j_cI S V a) : j_cN S V a S V := ⟨hI, (by omega), fun c hc => ⟨rfl, rfl, rfl⟩⟩
/-- one row changes -/
theorem j_rI_row {V V' : jH} {w p : Int} (hV : ∀ c : Int, w + 2 ≤ c → c ≤ w + 13 → c ≠ w + 2 + 2 * p → c ≠ w + 3 + 2 * p → V' c = V c) (hp : j_rowOK V' (w + 2 + 2 * p)) (h : j_rI V w) : j_rI V' w := fun q q0 q1 => by
  by_cases e : q = p
  · rw [e]; exact hp
  · exact j_rowOK_congr (by rw [hV _ (by omega) (by omega) (by omega) (by omega)]) (fun i _ _ => by rw [hV _ (by omega) (by omega) (by omega) (by omega)]) (h q q0 q1)
theorem j_cN_row {S : jS} {V V' : jH} {a p : Int} (hI : j_cI S V a) (h7 : V a 7 < 1000000) (p0 : 0 ≤ p) (p1 : p < 6) (hV : ∀ c : Int, c ≠ a + 3 + 2 * p → c ≠ a + 4 + 2 * p → V' c = V c) (hp : j_rowOK V' (a + 3 + 2 * p)) : j_cN S V a S V' := by
  obtain ⟨L, ht, a0, hw, hk, hd, h6, q7⟩ := id hI
  refine j_cN_of hI h7 (by rw [hV a (by omega) (by omega)]; exact h6) (by rw [hV a (by omega) (by omega)]; omega) ⟨hw.1, ?_, j_sI_congr (by rw [hV _ (by omega) (by omega)]) (fun c c0 c1 => hV c (by omega) (by omega)) hw.2.2.1, j_bI_congr (fun c c0 c1 => hV c (by omega) (by omega)) hw.2.2.2⟩ (fun c c0 c1 => hV c (by omega) (by omega)) (hV _ (by omega) (by omega)) (fun c hc => hV c (by omega) (by omega))
  exact j_rI_row (p := p) (fun c c0 c1 c2 c3 => hV c (by omega) (by omega)) (by rw [show a + 1 + 2 + 2 * p = a + 3 + 2 * p by omega]; exact hp) hw.2.1
theorem j_cI_row {S : jS} {V : jH} {a p : Int} (hI : j_cI S V a) (p0 : 0 ≤ p) (p1 : p < 6) : j_rowOK V (a + 3 + 2 * p) := by
  have := hI.2.2.2.1.2.1 p p0 p1
  rw [show a + 1 + 2 + 2 * p = a + 3 + 2 * p by omega] at this
  exact this
theorem j_cN_q2 {S : jS} {V V' : jH} {a p w n r : Int} (hI : j_cI S V a) (h7 : V a 7 < 1000000) (h : j_q2 a p w n V r V') : j_cN S V a S V' := by
  rcases h with ⟨_, e, _⟩ | ⟨_, _, _, _, _, e, _⟩ | ⟨p0, p1, n0, n1, n2, _, v1, v2, v3, v4⟩
  · rw [e]; exact j_cN_fd hI h7
  · rw [e]; exact j_cN_fd hI h7
  · obtain ⟨r0, r1, r2⟩ := j_cI_row hI p0 p1
    refine j_cN_row hI h7 p0 p1 v4 ⟨by rw [v1]; omega, by rw [v1]; omega, fun i i0 i1 => ?_⟩
    rw [v1] at i1
    rw [show a + 3 + 2 * p + 1 = a + 4 + 2 * p by omega] at r2 ⊢
    by_cases c : i < V (a + 3 + 2 * p) 1
    · rw [v2 i c]; exact r2 i i0 c
    · have := v3 (i - V (a + 3 + 2 * p) 1) (by omega) (by omega)
      rw [show V (a + 3 + 2 * p) 1 + (i - V (a + 3 + 2 * p) 1) = i by omega] at this
      rw [this]; exact j_byte_bd _ _
theorem j_cN_q3 {S : jS} {V V' : jH} {a p r : Int} (hI : j_cI S V a) (h7 : V a 7 < 1000000) (h : j_q3 a p V r V') : j_cN S V a S V' := by
  rcases h with ⟨_, e, _⟩ | ⟨p0, p1, _, e⟩
  · rw [e]; exact j_cN_fd hI h7
  · have v1 : V' (a + 3 + 2 * p) 1 = 0 := by rw [e, j_up_at]
    exact j_cN_row hI h7 p0 p1 (fun c c0 c1 => by rw [e, j_up_ne c0]) ⟨by rw [v1]; omega, by rw [v1]; omega, fun i i0 i1 => by rw [v1] at i1; omega⟩
theorem j_cN_q4 {S : jS} {V V' : jH} {a p i r : Int} (hI : j_cI S V a) (h7 : V a 7 < 1000000) (h : j_q4 a p i V r V') : j_cN S V a S V' := by
  rcases h with ⟨_, e, _⟩ | ⟨_, _, _, _, e, _⟩
  · rw [e]; exact j_cN_fd hI h7
  · rw [e]; exact j_cN_rf hI
theorem j_cN_q5 {S : jS} {V V' : jH} {a p f n q r : Int} (hI : j_cI S V a) (h7 : V a 7 < 1000000) (h : j_q5 a p f n q V r V') : j_cN S V a S V' := by
  rcases h with ⟨_, e, _⟩ | ⟨_, _, _, _, _, _, _, _, e, _⟩ | ⟨p0, p1, q0, q1, f0, n0, n1, n2, _, v1, v2, v3, v4⟩
  · rw [e]; exact j_cN_fd hI h7
  · rw [e]; exact j_cN_fd hI h7
  · obtain ⟨r0, r1, r2⟩ := j_cI_row hI q0 q1
    obtain ⟨s0, s1, s2⟩ := j_cI_row hI p0 p1
    refine j_cN_row hI h7 q0 q1 v4 ⟨by rw [v1]; omega, by rw [v1]; omega, fun i i0 i1 => ?_⟩
    rw [v1] at i1
    rw [show a + 3 + 2 * q + 1 = a + 4 + 2 * q by omega] at r2 ⊢
    rw [show a + 3 + 2 * p + 1 = a + 4 + 2 * p by omega] at s2
    by_cases c : i < V (a + 3 + 2 * q) 1
    · rw [v2 i c]; exact r2 i i0 c
    · have := v3 (i - V (a + 3 + 2 * q) 1) (by omega) (by omega)
      rw [show V (a + 3 + 2 * q) 1 + (i - V (a + 3 + 2 * q) 1) = i by omega] at this
      rw [this]; exact s2 _ (by omega) (by omega)
/-- tables change -/
theorem j_start_tI {V : jH} {t k r : Int} (k0 : 0 ≤ k) (k1 : k ≤ 4) (r0 : 8 ≤ r) (r1 : r ≤ 12) (h1 : V t 1 = k) (h2 : V t 2 = r) (h3 : ∀ p j : Int, 0 ≤ p → p < 4 → 0 ≤ j → j ≤ 256 → V (t + 3 + 2 * p) j = j_start k r j) : j_tI V t := by
  have hm := j_M_bd r0 r1
  have h256 := j_M_256 r0 r1
  have e3 : V (t + 3) 256 = j_start k r 256 := by
    have := h3 0 256 (by omega) (by omega) (by omega) (by omega)
    rw [show t + 3 + 2 * 0 = t + 3 by omega] at this
    exact this
  refine ⟨by rw [h1]; exact k0, by rw [h1]; exact k1, by rw [h2]; exact r0, by rw [h2]; exact r1, fun p p0 p1 => ?_, fun e p p0 p1 => ?_, fun kk p j p0 p1 j0 j1 => ?_⟩
  · rw [h2]
    refine j_dlu_congr (b := j_start k r) (fun j j0 j1 => h3 p j p0 p1 j0 j1) ?_
    by_cases c : k = 1 ∨ k = 4
    · exact j_dl_dlu (j_start_dl r0 r1 c)
    · have z : ∀ j : Int, j_start k r j = 0 := fun j => by unfold j_start; rw [if_neg c]
      exact ⟨z 0, by rw [z]; omega, fun s _ _ => by show 0 ≤ j_start k r (s + 1) - j_start k r s; rw [z, z]; omega⟩
  · have pp := (j_parts_bd (V t 1)).2
    rw [h3 p 256 p0 (by omega) (by omega) (by omega), ← e3]; exact e
  · rw [h3 p j p0 p1 j0 j1, h2]
    unfold j_start
    rw [if_pos (by rw [h1] at kk; exact kk)]
theorem j_cN_q6 {S S' : jS} {V V' : jH} {a k r x : Int} (hI : j_cI S V a) (h7 : V a 7 < 1000000) (h : j_q6 a k r S V x S' V') : j_cN S V a S' V' := by
  rcases h with ⟨_, e0, e, _⟩ | ⟨_, _, _, _, _, e0, e, _⟩ | ⟨k0, k1, r0, r1, n1, ex, hM, v1, v2, v3, v4, v5, v6⟩
  · rw [e0, e]; exact j_cN_fd hI h7
  · rw [e0, e]; exact j_cN_fd hI h7
  · obtain ⟨L, ht, a0, hw, hk, hd, h6, q7⟩ := id hI
    obtain ⟨w1, w2, ⟨w3, w4, w5⟩, w6⟩ := hw
    obtain ⟨m1, m2, m3, m4, m5⟩ := hM
    have sx : a + 31 ≤ j_slotT (a + 1) x ∧ j_slotT (a + 1) x + 9 ≤ a + 130 := by unfold j_slotT; omega
    have e15 : a + 1 + 14 = a + 15 := by omega
    rw [e15] at m2 m4 m5
    have va : V' a = V a := v6 a (by omega) (by omega)
    refine ⟨⟨m1, by rw [(m5 a (by omega)).1]; exact ht, a0, ⟨by rw [(m5 _ (by omega)).1]; exact w1, j_rI_congr (fun c c0 c1 => v6 c (by omega) (by omega)) w2, ⟨by rw [v1]; omega, by rw [v1]; omega, fun t t0 t1 => ?_⟩, j_bI_congr (fun c c0 c1 => v6 c (by omega) (by omega)) w6⟩, ?_, ?_, by rw [va]; exact h6, by rw [va]; omega, by rw [va]; omega⟩, by rw [va]; omega, fun c hc => ⟨(m5 c (by omega)).1, (m5 c (by omega)).2 (by omega), v6 c (by omega) (by omega)⟩⟩
    · rw [e15]
      by_cases e : t = x
      · rw [e]; exact Or.inl ⟨m2, m3, fun _ => j_start_tI k0 k1 r0 r1 v3 v4 v5⟩
      · have sep : j_slotT (a + 1) t + 9 < j_slotT (a + 1) x ∨ j_slotT (a + 1) x + 9 < j_slotT (a + 1) t := by unfold j_slotT; omega
        have st : a + 31 ≤ j_slotT (a + 1) t := by unfold j_slotT; omega
        have w := w5 t t0 t1
        rw [e15] at w
        rcases w with ⟨q1, q2, q3⟩ | ⟨q1, q2, q3⟩
        · refine Or.inl ⟨by rw [m4 t e]; exact q1, by rw [(m5 _ (by omega)).1]; exact q2, fun q => ?_⟩
          rw [v1] at q
          exact j_tI_congr (by rw [v6 _ (by omega) (by omega)]) (by rw [v6 _ (by omega) (by omega)]) (fun p j p0 p1 _ _ => by rw [v6 _ (by omega) (by omega)]) (q3 (by omega))
        · exact Or.inr ⟨by rw [m4 t e]; exact q1, by rw [v1]; omega, fun c c0 c1 => by rw [(m5 c (by omega)).1]; exact q3 c c0 c1⟩
    · rcases hk with ⟨g1, g2⟩ | ⟨g1, g2⟩
      · exact Or.inl ⟨by rw [(m5 a (by omega)).2 (by omega)]; exact g1, fun c c0 c1 => by rw [(m5 c (by omega)).1]; exact g2 c c0 c1⟩
      · exact Or.inr ⟨by rw [(m5 a (by omega)).2 (by omega)]; exact g1, j_wI_congr2 (fun c c0 c1 => ⟨(m5 c (by omega)).1, (m5 c (by omega)).2 (by omega), v6 c (by omega) (by omega)⟩) g2⟩
    · rcases hd with ⟨g1, g2⟩ | ⟨g1, g2, g3⟩
      · exact Or.inl ⟨by rw [(m5 _ (by omega)).2 (by omega)]; exact g1, by rw [(m5 _ (by omega)).1]; exact g2⟩
      · exact Or.inr ⟨by rw [(m5 _ (by omega)).2 (by omega)]; exact g1, by rw [(m5 _ (by omega)).1]; exact g2, fun k k0 k1 => by rw [v6 _ (by omega) (by omega)]; exact g3 k k0 k1⟩
/-- one table changes -/
theorem j_cN_tab {S : jS} {V V' : jH} {a n : Int} (hI : j_cI S V a) (h7 : V a 7 < 1000000) (n0 : 0 ≤ n) (n1 : n < V (a + 1) 2) (hV : ∀ c : Int, (c < j_slotT (a + 1) n ∨ j_slotT (a + 1) n + 9 < c) → (c < a + 230 ∨ a + 232 < c) → V' c = V c) (hT : j_tI V' (j_slotT (a + 1) n)) : j_cN S V a S V' := by
  obtain ⟨L, ht, a0, hw, hk, hd, h6, q7⟩ := id hI
  have h10 := hw.2.2.1.2.1
  have sx : a + 31 ≤ j_slotT (a + 1) n ∧ j_slotT (a + 1) n + 9 ≤ a + 130 := by unfold j_slotT; omega
  have va : V' a = V a := hV a (by omega) (by omega)
  have v1 : V' (a + 1) = V (a + 1) := hV _ (by omega) (by omega)
  refine j_cN_of hI h7 (by rw [va]; exact h6) (by rw [va]; omega) ⟨hw.1, j_rI_congr (fun c c0 c1 => hV c (by omega) (by omega)) hw.2.1, ⟨by rw [v1]; exact hw.2.2.1.1, by rw [v1]; exact h10, fun t t0 t1 => ?_⟩, j_bI_congr (fun c c0 c1 => hV c (by omega) (by omega)) hw.2.2.2⟩ (fun c c0 c1 => hV c (by omega) (by omega)) (hV _ (by omega) (by omega)) (fun c hc => hV c (by omega) (by omega))
  have w := hw.2.2.1.2.2 t t0 t1
  rw [v1]
  rcases w with ⟨q1, q2, q3⟩ | q
  · refine Or.inl ⟨q1, q2, fun q => ?_⟩
    by_cases e : t = n
    · rw [e]; exact hT
    · have sep : j_slotT (a + 1) t + 9 < j_slotT (a + 1) n ∨ j_slotT (a + 1) n + 9 < j_slotT (a + 1) t := by unfold j_slotT; omega
      have st : a + 31 ≤ j_slotT (a + 1) t ∧ j_slotT (a + 1) t + 9 ≤ a + 130 := by unfold j_slotT; omega
      exact j_tI_congr (by rw [hV _ (by omega) (by omega)]) (by rw [hV _ (by omega) (by omega)]) (fun p j p0 p1 _ _ => by rw [hV _ (by omega) (by omega)]) (q3 q)
  · exact Or.inr q
theorem j_cN_q7 {S : jS} {V V' : jH} {a tb s f r : Int} (hI : j_cI S V a) (h7 : V a 7 < 1000000) (h : j_q7 a tb s f V r V') : j_cN S V a S V' := by
  rcases h with ⟨_, e, _⟩ | ⟨t0, t1, ⟨_, e, _⟩ | ⟨k0, ⟨_, e, _⟩ | ⟨s0, s1, f0, f1, ⟨_, e, _⟩ | ⟨le, _, e⟩⟩⟩⟩
  · rw [e]; exact j_cN_fd hI h7
  · rw [e]; exact j_cN_fd hI h7
  · rw [e]; exact j_cN_fd hI h7
  · rw [e]; exact j_cN_fd hI h7
  · have hT := (j_sI_at hI.2.2.2.1.2.2.1 t0 t1).2.2
    have ne : ∀ c : Int, c ≠ j_slotT (a + 1) tb + 3 → V' c = V c := fun c hc => by rw [e]; exact j_row_ne hc
    refine j_cN_tab hI h7 t0 t1 (fun c hc _ => ne c (by omega)) ?_
    generalize j_slotT (a + 1) tb = t at *
    obtain ⟨q1, q2, q3, q4, q5, q6, q7⟩ := hT
    have b := q5 0 (by omega) (by omega)
    rw [show t + 3 + 2 * 0 = t + 3 by omega] at b
    have ev : ∀ j : Int, V' (t + 3) j = if s < j ∧ j ≤ 256 then V (t + 3) j + (f - j_sh (V (t + 3)) s) else V (t + 3) j := fun j => by rw [e]; unfold j_raise; rw [j_row_at]
    have et : V' t = V t := ne t (by omega)
    refine ⟨by rw [et]; exact q1, by rw [et]; exact q2, by rw [et]; exact q3, by rw [et]; exact q4, fun p p0 p1 => ?_, fun ee p p0 p1 => ?_, fun kk => absurd kk (by rw [et]; omega)⟩
    · rw [et]
      by_cases c : p = 0
      · rw [c, show t + 3 + 2 * 0 = t + 3 by omega]
        refine ⟨by rw [ev, if_neg (by omega)]; exact b.1, by rw [ev, if_pos (by omega)]; omega, fun x x0 x1 => ?_⟩
        have bx : 0 ≤ V (t + 3) (x + 1) - V (t + 3) x := b.2.2 x x0 x1
        show 0 ≤ V' (t + 3) (x + 1) - V' (t + 3) x
        rw [ev, ev]
        by_cases c1 : x = s
        · rw [c1, if_pos (by omega), if_neg (by omega)]
          have : j_sh (V (t + 3)) s = V (t + 3) (s + 1) - V (t + 3) s := rfl
          omega
        · by_cases c2 : s < x
          · rw [if_pos (by omega), if_pos (by omega)]; omega
          · rw [if_neg (by omega), if_neg (by omega)]; omega
      · rw [ne _ (by omega)]; exact q5 p p0 p1
    · rw [et] at p1 ee ⊢
      have : p = 0 := by unfold j_parts at p1; rw [if_neg (by omega)] at p1; omega
      rw [this, show t + 3 + 2 * 0 = t + 3 by omega]; exact ee
theorem j_cN_q8 {S : jS} {V V' : jH} {a tb p r : Int} (hI : j_cI S V a) (h7 : V a 7 < 1000000) (h : j_q8 a tb p V r V') : j_cN S V a S V' := by
  rcases h with ⟨_, e, _⟩ | ⟨t0, t1, p0, p1, ⟨_, e, _⟩ | ⟨kk, ⟨_, e, _⟩ | ⟨_, _, d1, d2, d3⟩⟩⟩
  · rw [e]; exact j_cN_fd hI h7
  · rw [e]; exact j_cN_fd hI h7
  · rw [e]; exact j_cN_fd hI h7
  · have hT := (j_sI_at hI.2.2.2.1.2.2.1 t0 t1).2.2
    have h10 := hI.2.2.2.1.2.2.1.2.1
    have sx : a + 31 ≤ j_slotT (a + 1) tb ∧ j_slotT (a + 1) tb + 9 ≤ a + 130 := by unfold j_slotT; omega
    have pp := j_parts_bd (V (j_slotT (a + 1) tb) 1)
    refine j_cN_tab hI h7 t0 t1 (fun c hc hd => d2 c (by omega) (by omega) (by omega) (fun q q0 q1 => by omega)) ?_
    generalize j_slotT (a + 1) tb = t at *
    obtain ⟨q1, q2, q3, q4, q5, q6, q7⟩ := hT
    have et : V' t = V t := d2 t (by omega) (by omega) (by omega) (fun q q0 q1 => by omega)
    have hm := j_M_bd q3 q4
    have h256 := j_M_256 q3 q4
    have dl : ∀ q : Int, 0 ≤ q → q < j_parts (V t 1) → j_dl (V' (t + 3 + 2 * q)) 0 (j_M (V t 2)) := fun q q0 q1 => by
      obtain ⟨sh, x1, x2⟩ := d1 q q0 q1
      exact j_dl_congr x2 (j_deal_dl h256.1 (by omega) x1).1
    refine ⟨by rw [et]; exact q1, by rw [et]; exact q2, by rw [et]; exact q3, by rw [et]; exact q4, fun q q0 q1 => ?_, fun _ q q0 q1 => ?_, fun z => absurd z (by rw [et]; omega)⟩
    · rw [et]
      by_cases c : q < j_parts (V t 1)
      · exact j_dl_dlu (dl q q0 c)
      · rw [d2 _ (by omega) (by omega) (by omega) (fun y y0 y1 => by omega)]; exact q5 q q0 q1
    · rw [et] at q1 ⊢; exact (dl q q0 q1).2.1
theorem j_cN_q9 {S : jS} {V V' : jH} {a tb pt s bg r : Int} (hI : j_cI S V a) (h7 : V a 7 < 1000000) (h : j_q9 a tb pt s bg V r V') : j_cN S V a S V' := by
  rcases h with ⟨_, e, _⟩ | ⟨_, _, _, _, _, ⟨_, e, _⟩ | ⟨_, e, _⟩⟩
  · rw [e]; exact j_cN_fd hI h7
  · rw [e]; exact j_cN_fd hI h7
  · rw [e]; exact j_cN_rf hI
/-- a place that is missing -/
theorem j_cN_ms {S : jS} {V : jH} {a i : Int} (hI : j_cI S V a) (h7 : V a 7 < 1000000) : j_cN S V a S (j_fd (j_up V (a + 1) 4 i) a) := by
  obtain ⟨L, ht, a0, hw, hk, hd, h6, q7⟩ := id hI
  have ne : ∀ c : Int, c ≠ a → c ≠ a + 1 → j_fd (j_up V (a + 1) 4 i) a c = V c := fun c c0 c1 => by unfold j_fd; rw [j_up_ne c0, j_up_ne c1]
  have e6 : j_fd (j_up V (a + 1) 4 i) a a 6 = V a 6 := by unfold j_fd; rw [j_up_off (by decide), j_up_ne (by omega)]
  have e7 : j_fd (j_up V (a + 1) 4 i) a a 7 = V a 7 + 1 := by unfold j_fd; rw [j_up_at, j_up_ne (by omega)]
  have e2 : j_fd (j_up V (a + 1) 4 i) a (a + 1) 2 = V (a + 1) 2 := by unfold j_fd; rw [j_up_ne (by omega), j_up_off (by decide)]
  exact j_cN_of hI h7 (by rw [e6]; exact h6) (by rw [e7]; omega) (j_wI_congr' e2 (fun c c0 c1 => ne c (by omega) (by omega)) hw) (fun c c0 c1 => ne c (by omega) (by omega)) (ne _ (by omega) (by omega)) (fun c hc => ne c (by omega) (by omega))
theorem j_cN_q10 {S S' : jS} {V V' : jH} {a tb pt p r : Int} (hI : j_cI S V a) (h7 : V a 7 < 1000000) (h : j_q10 a tb pt p S V r S' V') : j_cN S V a S' V' := by
  rcases h with ⟨_, e0, e, _⟩ | ⟨_, _, _, _, _, ⟨_, e0, e, _⟩ | ⟨_, ⟨i, _, _, _, _, e0, e, _⟩ | ⟨_, _, ⟨e0, e⟩ | ⟨d1, d2, e1, L1, ok, fr⟩⟩⟩⟩
  · rw [e0, e]; exact j_cN_fd hI h7
  · rw [e0, e]; exact j_cN_fd hI h7
  · rw [e0, e]; exact j_cN_ms hI h7
  · rw [e0, e]; exact j_cN_rf hI
  · obtain ⟨L, ht, a0, hw, hk, hd, h6, q7⟩ := id hI
    have s1 : ∀ c : Int, c ≠ a + 233 → S'.1 c = S.1 c := fun c hc => by rw [e1]; exact j_ns1e _ _ _ hc
    have s2 : ∀ c : Int, c ≠ a + 233 → c ≠ a + 230 → S'.2 c = S.2 c := fun c c0 c1 => by rw [e1]; show j_up _ _ _ _ c = _; rw [j_up_ne c1]; exact j_ns2e _ _ _ c0
    have va : V' a = V a := fr a (by omega)
    refine ⟨⟨L1, by rw [s1 a (by omega)]; exact ht, a0, j_wI_congr2 (fun c c0 c1 => ⟨s1 c (by omega), s2 c (by omega) (by omega), fr c (by omega)⟩) hw, ?_, Or.inr ok, by rw [va]; exact h6, by rw [va]; omega, by rw [va]; omega⟩, by rw [va]; omega, fun c hc => ⟨s1 c (by omega), s2 c (by omega) (by omega), fr c (by omega)⟩⟩
    rcases hk with ⟨g1, g2⟩ | ⟨g1, g2⟩
    · exact Or.inl ⟨by rw [s2 a (by omega) (by omega)]; exact g1, fun c c0 c1 => by rw [s1 c (by omega)]; exact g2 c c0 c1⟩
    · exact Or.inr ⟨by rw [s2 a (by omega) (by omega)]; exact g1, j_wI_congr2 (fun c c0 c1 => ⟨s1 c (by omega), s2 c (by omega) (by omega), fr c (by omega)⟩) g2⟩
theorem j_cN_q11 {S : jS} {V V' : jH} {a tb k r : Int} (hI : j_cI S V a) (h7 : V a 7 < 1000000) (h : j_q11 a tb k V r V') : j_cN S V a S V' := by
  rcases h with ⟨_, e, _⟩ | ⟨_, _, _, _, ⟨_, e, _⟩ | ⟨_, e, _⟩⟩
  · rw [e]; exact j_cN_fd hI h7
  · rw [e]; exact j_cN_fd hI h7
  · rw [e]; exact j_cN_rf hI
/-- the bench, the dealer and the reader are nobody's business -/
theorem j_cN_bench {S : jS} {V V' : jH} {a : Int} (hI : j_cI S V a) (hV : ∀ c : Int, (c < a + 200 ∨ a + 232 < c) → c ≠ a + 240 → V' c = V c) : j_cN S V a S V' := by
  obtain ⟨L, ht, a0, hw, hk, hd, h6, q7⟩ := id hI
  have va : V' a = V a := hV a (by omega) (by omega)
  exact ⟨⟨L, ht, a0, j_wI_congr (fun c c0 c1 => hV c (by omega) (by omega)) hw, j_kI_congr (fun c c0 c1 => hV c (by omega) (by omega)) hk, j_dI_congr (hV _ (by omega) (by omega)) hd, by rw [va]; exact h6, by rw [va]; omega, by rw [va]; omega⟩, by rw [va]; omega, fun c hc => ⟨rfl, rfl, hV c (by omega) (by omega)⟩⟩
theorem j_cN.tr {S S1 S2 : jS} {V V1 V2 : jH} {a : Int} (h : j_cN S V a S1 V1) (e : V1 a 7 = V a 7) (h' : j_cN S1 V1 a S2 V2) : j_cN S V a S2 V2 :=
  ⟨h'.1, by have := h'.2.1; omega, fun c hc => ⟨((h'.2.2 c hc).1).trans (h.2.2 c hc).1, ((h'.2.2 c hc).2.1).trans (h.2.2 c hc).2.1, ((h'.2.2 c hc).2.2).trans (h.2.2 c hc).2.2⟩⟩
theorem j_cN_try {S : jS} {V V' : jH} {a t w la r : Int} (hI : j_cI S V a) (h7 : V a 7 < 1000000) (h : j_try a t w la V r V') : j_cN S V a S V' ∧ (0 ≤ r → V' a 7 = V a 7) := by
  rcases h with ⟨_, e, er⟩ | ⟨_, _, _, _, ⟨_, e, er⟩ | ⟨_, V1, m, hP, _, ⟨_, e, er⟩ | ⟨_, hK, _⟩⟩⟩
  · exact ⟨by rw [e]; exact j_cN_fd hI h7, fun q => absurd q (by omega)⟩
  · exact ⟨by rw [e]; exact j_cN_fd hI h7, fun q => absurd q (by omega)⟩
  · have f : ∀ c : Int, (c < a + 200 ∨ a + 232 < c) → c ≠ a + 240 → V1 c = V c := fun c hc _ => hP.1 c (by omega) (by omega) (by omega) (by omega) (by omega) (by omega)
    have n1 : j_cN S V a S V1 := j_cN_bench hI f
    have e7 : V1 a 7 = V a 7 := by rw [f a (by omega) (by omega)]
    refine ⟨n1.tr e7 ?_, fun q => absurd q (by omega)⟩
    rw [e]; exact j_cN_ms n1.1 (by omega)
  · have f : ∀ c : Int, (c < a + 200 ∨ a + 232 < c) → c ≠ a + 240 → V' c = V c := fun c hc _ => (hK.1 c (by omega) (by omega) (by omega) (by omega) (by omega)).trans (hP.1 c (by omega) (by omega) (by omega) (by omega) (by omega) (by omega))
    exact ⟨j_cN_bench hI f, fun _ => by rw [f a (by omega) (by omega)]⟩
theorem j_dsT_len (B : Int → Int → Int) : ∀ n : Nat, (j_dsT B n).length ≤ 770 * n
  | 0 => Nat.le_refl _
  | n + 1 => by
    have ih := j_dsT_len B n
    show (j_dsT B n ++ j_dealT (B n)).length ≤ 770 * (n + 1)
    rw [List.length_append]
    have hd : (j_dealT (B n)).length ≤ 770 := by
      unfold j_dealT
      rw [List.length_append, j_num_len]
      have := j_dT_len (B n) 256
      have b := j_with_bd (B n) (n := 256) (by omega)
      have e : (((256 : Nat) : Nat) : Int) = 256 := rfl
      rw [e] at this
      omega
    omega
theorem j_stT_len (X : Int → Int) : ∀ n : Nat, (j_stT X n).length = 3 * n
  | 0 => rfl
  | n + 1 => by
    show (j_stT X n ++ j_num (X n) 3).length = 3 * (n + 1)
    rw [List.length_append, j_stT_len X n, j_num_len]; omega
theorem j_byT_len (X : Int → Int) : ∀ n : Nat, (j_byT X n).length = n
  | 0 => rfl
  | n + 1 => by
    show (j_byT X n ++ j_num (X n) 1).length = n + 1
    rw [List.length_append, j_byT_len X n, j_num_len]
theorem j_text_len (k r la n : Int) (B : Int → Int → Int) (X : Int → Int) (u : Int) (g : Int → Int) : (j_text k r la n B X u g).length = 5 + (j_dsT B (j_toldP k).toNat).length + 3 * la.toNat + 2 + u.toNat + 2 := by
  unfold j_text j_body
  simp only [List.length_append, j_num_len, j_stT_len, j_byT_len]
theorem j_text_byt (k r la n : Int) (B : Int → Int → Int) (X : Int → Int) (u : Int) (g : Int → Int) : j_byt (j_text k r la n B X u g) := j_byt_app (j_byt_body _ _ _ _ _ _ _ _) (j_byt_num _ _)
theorem j_toldP_bd (k : Int) : 0 ≤ j_toldP k ∧ j_toldP k ≤ 4 := by
  have := j_parts_bd k
  unfold j_toldP
  split <;> omega
theorem j_cN_fill {S : jS} {V V' : jH} {a t la : Int} (hI : j_cI S V a) (h7 : V a 7 < 1000000) (h : j_filled a t la V V') : j_cN S V a S V' := by
  obtain ⟨⟨l0, l1, u0, u1, n0, n1⟩, V1, x1, x2, x3, x4⟩ := h
  obtain ⟨L, ht, a0, hw, hk, hd, h6, q7⟩ := id hI
  obtain ⟨⟨s1, s2⟩, s3, s4⟩ := j_stepsBe_at (V := j_up (j_up V1 (a + 16) 4 0) (a + 16) 2 1) (a := a + 18) (o := a + 214) (by omega)
  rw [← x4] at s1 s2 s3 s4
  have ne : ∀ c : Int, c ≠ a + 16 → c ≠ a + 17 → (c < a + 18 ∨ a + 23 < c) → V' c = V c := fun c c0 c1 c2 => by
    rw [s3 c (by omega), j_up_ne c0, j_up_ne c0]; exact x3.1 c c0 (by omega)
  have e16 : ∀ j : Int, V' (a + 16) j = j_up (j_up V1 (a + 16) 4 0) (a + 16) 2 1 (a + 16) j := fun j => by rw [s3 _ (by omega)]
  have e17 : V' (a + 17) = V1 (a + 17) := by rw [s3 _ (by omega), j_up_ne (by omega), j_up_ne (by omega)]
  have el : V' (a + 16) 1 = V1 (a + 16) 1 := by rw [e16, j_up_off (by decide), j_up_off (by decide)]
  have hlen := j_B_len V1 (a + 16)
  rw [x1, j_benchT, j_text_len] at hlen
  have d1 := j_dsT_len (fun p => V (t + 3 + 2 * p)) (j_toldP (V t 1)).toNat
  have d2 := j_toldP_bd (V t 1)
  have hby : j_byt (j_B V1 (a + 16)) := by rw [x1]; exact j_text_byt _ _ _ _ _ _ _ _
  have v5 : V' (a + 18) 5 = V (a + 214) 5 := by
    rw [s1, j_up_ne (by omega), j_up_ne (by omega), x3.1 _ (by omega) (by omega)]
  refine j_cN_of hI h7 (by rw [ne a (by omega) (by omega) (by omega)]; exact h6) (by rw [ne a (by omega) (by omega) (by omega)]; omega) ⟨hw.1, j_rI_congr (fun c c0 c1 => ne c (by omega) (by omega) (by omega)) hw.2.1, j_sI_congr (by rw [ne _ (by omega) (by omega) (by omega)]) (fun c c0 c1 => ne c (by omega) (by omega) (by omega)) hw.2.2.1, ?_⟩ (fun c c0 c1 => ne c (by omega) (by omega) (by omega)) (ne _ (by omega) (by omega) (by omega)) (fun c hc => ne c (by omega) (by omega) (by omega))
  unfold j_bI
  rw [show a + 1 + 15 = a + 16 by omega, show a + 1 + 17 = a + 18 by omega]
  refine ⟨⟨by rw [el]; exact x2, by rw [el]; omega, fun i i0 i1 => ?_⟩, ?_, ?_, by rw [v5]; exact n0, by rw [v5]; exact n1, ?_, ?_⟩
  · rw [el] at i1
    rw [show a + 16 + 1 = a + 17 by omega, e17]
    have := j_byt_B hby i0 i1
    rw [show a + 16 + 1 = a + 17 by omega] at this
    exact this
  · rw [e16, j_up_at]; omega
  · rw [e16, j_up_at]; omega
  · rw [e16, j_up_off (by decide), j_up_at]; omega
  · rw [e16, j_up_off (by decide), j_up_at]; omega
theorem j_cN_q12 {S : jS} {V V' : jH} {a tb p la r : Int} (hI : j_cI S V a) (h7 : V a 7 < 1000000) (h : j_q12 a tb p la V r V') : j_cN S V a S V' := by
  obtain ⟨V2, h1, ⟨_, e⟩ | ⟨r0, hf⟩⟩ := h
  · rw [e]; exact (j_cN_try hI h7 h1).1
  · obtain ⟨n1, n2⟩ := j_cN_try hI h7 h1
    have e7 := n2 r0
    exact n1.tr e7 (j_cN_fill n1.1 (by omega) hf)
theorem j_cN_q14 {S : jS} {V V' : jH} {a p r : Int} (hI : j_cI S V a) (h7 : V a 7 < 1000000) (h : j_q14 a p V r V') : j_cN S V a S V' := by
  rcases h with ⟨_, e, _⟩ | ⟨p0, p1, x, V1, hF, h⟩
  · rw [e]; exact j_cN_fd hI h7
  · have hb := j_bI_a hI.2.2.2.1.2.2.2
    have f : ∀ c : Int, (c < a + 200 ∨ a + 232 < c) → c ≠ a + 240 → V1 c = V c := fun c hc h240 => hF.1 c h240 (by omega)
    have n1 : j_cN S V a S V1 := j_cN_bench hI f
    have e7 : V1 a 7 = V a 7 := by rw [f a (by omega) (by omega)]
    rcases h with ⟨_, e, _⟩ | ⟨x0, _, v1, v2, v3, v4, ⟨v5, v6⟩, v7⟩
    · rw [e]; exact n1.tr e7 (j_cN_fd n1.1 (by omega))
    · obtain ⟨m0, m1, m2⟩ := j_fw_rt hb.1 x0 hF
      rw [show a + 200 + 14 = a + 214 by omega] at m0 m1 m2
      rw [show a + 200 + 15 = a + 215 by omega] at m2
      obtain ⟨L, ht, a0, hw, hk, hd, h6, q7⟩ := id n1.1
      refine n1.tr e7 (j_cN_of n1.1 (by omega) (by rw [v7 a (by omega) (by omega) (by omega) (by omega)]; exact h6) (by rw [v7 a (by omega) (by omega) (by omega) (by omega)]; omega) ⟨hw.1, ?_, j_sI_congr (by rw [v7 _ (by omega) (by omega) (by omega) (by omega)]) (fun c c0 c1 => v7 c (by omega) (by omega) (by omega) (by omega)) hw.2.2.1, ?_⟩ (fun c c0 c1 => v7 c (by omega) (by omega) (by omega) (by omega)) (v7 _ (by omega) (by omega) (by omega) (by omega)) (fun c hc => v7 c (by omega) (by omega) (by omega) (by omega)))
      · refine j_rI_row (p := p) (fun c c0 c1 c2 c3 => v7 c (by omega) (by omega) (by omega) (by omega)) ?_ hw.2.1
        rw [show a + 1 + 2 + 2 * p = a + 3 + 2 * p by omega]
        refine ⟨by rw [v1]; exact m0, by rw [v1]; exact m1, fun i i0 i1 => ?_⟩
        rw [v1] at i1
        rw [show a + 3 + 2 * p + 1 = a + 4 + 2 * p by omega, v2 i i0 i1]; exact m2 i i0 i1
      · have hb1 := j_bI_a hw.2.2.2
        unfold j_bI
        rw [show a + 1 + 15 = a + 16 by omega, show a + 1 + 17 = a + 18 by omega, v3, v5, v4 4 (by decide)]
        exact ⟨j_blkOK_congr (v4 1 (by decide)) (fun i _ _ => by rw [v7 _ (by omega) (by omega) (by omega) (by omega)]) hb1.1, (by omega), (by omega), m0, m1, hb1.2.2.2.2.2.1, hb1.2.2.2.2.2.2⟩
theorem j_cN_q15 {S : jS} {V V' : jH} {a i r : Int} (hI : j_cI S V a) (h7 : V a 7 < 1000000) (h : j_q15 a i V r V') : j_cN S V a S V' := by
  rcases h with ⟨_, e, _⟩ | ⟨_, _, e, _⟩
  · rw [e]; exact j_cN_fd hI h7
  · rw [e]; exact j_cN_rf hI
/-- the block changes -/
theorem j_cN_blk {S : jS} {V V' : jH} {a : Int} (hI : j_cI S V a) (h7 : V a 7 < 1000000) (hV : ∀ c : Int, c ≠ a + 16 → c ≠ a + 17 → V' c = V c) (h1 : j_blkOK V' (a + 16)) (h2 : 0 ≤ V' (a + 16) 2 ∧ V' (a + 16) 2 ≤ 1) (h4 : 0 ≤ V' (a + 16) 4 ∧ V' (a + 16) 4 ≤ 400) : j_cN S V a S V' := by
  obtain ⟨L, ht, a0, hw, hk, hd, h6, q7⟩ := id hI
  have hb := j_bI_a hw.2.2.2
  refine j_cN_of hI h7 (by rw [hV a (by omega) (by omega)]; exact h6) (by rw [hV a (by omega) (by omega)]; omega) ⟨hw.1, j_rI_congr (fun c c0 c1 => hV c (by omega) (by omega)) hw.2.1, j_sI_congr (by rw [hV _ (by omega) (by omega)]) (fun c c0 c1 => hV c (by omega) (by omega)) hw.2.2.1, ?_⟩ (fun c c0 c1 => hV c (by omega) (by omega)) (hV _ (by omega) (by omega)) (fun c hc => hV c (by omega) (by omega))
  unfold j_bI
  rw [show a + 1 + 15 = a + 16 by omega, show a + 1 + 17 = a + 18 by omega, hV (a + 18) (by omega) (by omega)]
  exact ⟨h1, h2.1, h2.2, hb.2.2.2.1, hb.2.2.2.2.1, h4.1, h4.2⟩
theorem j_xor_bd {x y : Int} (h0 : 0 ≤ x) (h1 : x ≤ 255) (g0 : 0 ≤ y) (g1 : y ≤ 255) : 0 ≤ j_xor x y ∧ j_xor x y ≤ 255 := by
  unfold j_xor
  have : x.toNat ^^^ y.toNat < 2 ^ 8 := Nat.xor_lt_two_pow (by omega) (by omega)
  omega
theorem j_cN_q16 {S : jS} {V V' : jH} {a i m r : Int} (hI : j_cI S V a) (h7 : V a 7 < 1000000) (h : j_q16 a i m V r V') : j_cN S V a S V' := by
  rcases h with ⟨_, e, _⟩ | ⟨i0, i1, m0, m1, _, e⟩
  · rw [e]; exact j_cN_fd hI h7
  · have hb := j_bI_a hI.2.2.2.1.2.2.2
    have e1 : V' (a + 16) 1 = V (a + 16) 1 := by rw [e, j_up_off (by decide), j_up_off (by decide), j_up_ne (by omega)]
    have e17 : V' (a + 17) = j_up V (a + 17) i (j_xor (V (a + 17) i) m) (a + 17) := by rw [e, j_up_ne (by omega), j_up_ne (by omega)]
    have e2 : V' (a + 16) 2 = 0 := by rw [e, j_up_off (by decide), j_up_at]
    have e4 : V' (a + 16) 4 = 0 := by rw [e, j_up_at]
    refine j_cN_blk hI h7 (fun c c0 c1 => by rw [e, j_up_ne c0, j_up_ne c0, j_up_ne c1]) ⟨by rw [e1]; exact hb.1.1, by rw [e1]; exact hb.1.2.1, fun x x0 x1 => ?_⟩ (by rw [e2]; omega) (by rw [e4]; omega)
    rw [e1] at x1
    have bx := hb.1.2.2 x x0 x1
    rw [show a + 16 + 1 = a + 17 by omega] at bx ⊢
    rw [e17]
    by_cases c : x = i
    · rw [c, j_up_at]
      rw [c] at bx
      exact j_xor_bd bx.1 bx.2 m0 m1
    · rw [j_up_off c]; exact bx
theorem j_cN_q17 {S : jS} {V V' : jH} {a w n r : Int} (hI : j_cI S V a) (h7 : V a 7 < 1000000) (h : j_q17 a w n V r V') : j_cN S V a S V' := by
  rcases h with ⟨_, e, _⟩ | ⟨_, _, _, _, _, e, _⟩ | ⟨n0, n1, n2, n3, n4, _, v1, v2, v3, v4, v5, v6⟩
  · rw [e]; exact j_cN_fd hI h7
  · rw [e]; exact j_cN_fd hI h7
  · have hb := j_bI_a hI.2.2.2.1.2.2.2
    refine j_cN_blk hI h7 v6 ⟨by rw [v1]; omega, by rw [v1]; omega, fun x x0 x1 => ?_⟩ (by rw [v2]; omega) (by rw [v3]; omega)
    rw [v1] at x1
    rw [show a + 16 + 1 = a + 17 by omega]
    by_cases c : x < V (a + 16) 1
    · rw [v4 x x0 c x1]
      have := hb.1.2.2 x x0 c
      rw [show a + 16 + 1 = a + 17 by omega] at this
      exact this
    · have := v5 (x - V (a + 16) 1) (by omega) (by omega)
      rw [show V (a + 16) 1 + (x - V (a + 16) 1) = x by omega] at this
      rw [this]
      have := j_byte_bd w (n - 1 - (x - V (a + 16) 1))
      omega
theorem j_cN_q18 {S : jS} {V V' : jH} {a p r : Int} (hI : j_cI S V a) (h7 : V a 7 < 1000000) (h : j_q18 a p V r V') : j_cN S V a S V' := by
  rcases h with ⟨_, e, _⟩ | ⟨_, _, _, e, _⟩ | ⟨_, _, _, k, rr, la, V1, V2, V3, V4, _, _, _, _, _, _, _, f1, hT, hP, hK, hf⟩
  · rw [e]; exact j_cN_fd hI h7
  · rw [e]; exact j_cN_fd hI h7
  · have f : ∀ c : Int, (c < a + 200 ∨ a + 232 < c) → c ≠ a + 240 → V4 c = V c := fun c hc _ => ((hK.1 c (by omega) (by omega) (by omega) (by omega) (by omega)).trans (hP.1 c (by omega) (by omega) (by omega) (by omega) (by omega) (by omega))).trans ((hT.2.2.2.2.2 c hc).trans (f1 c hc))
    have n1 : j_cN S V a S V4 := j_cN_bench hI f
    have e7 : V4 a 7 = V a 7 := by rw [f a (by omega) (by omega)]
    exact n1.tr e7 (j_cN_fill n1.1 (by omega) hf)
theorem j_cN_q19 {S : jS} {V V' : jH} {a i k r : Int} (hI : j_cI S V a) (h7 : V a 7 < 1000000) (h : j_q19 a i k V r V') : j_cN S V a S V' := by
  rcases h with ⟨_, e, _⟩ | ⟨_, _, e, _⟩ | ⟨_, _, _, _, _, e, _⟩
  · rw [e]; exact j_cN_fd hI h7
  · rw [e]; exact j_cN_fd hI h7
  · rw [e]; exact j_cN_rf hI
theorem j_cN_q20 {S : jS} {V V' : jH} {a k r : Int} (hI : j_cI S V a) (h7 : V a 7 < 1000000) (h : j_q20 a k V r V') : j_cN S V a S V' := by
  rcases h with ⟨_, e, _⟩ | ⟨_, _, e, _⟩ | ⟨_, _, _, _, e, _⟩ | ⟨_, k0, k1, _, e, _⟩
  · rw [e]; exact j_cN_fd hI h7
  · rw [e]; exact j_cN_fd hI h7
  · rw [e]; exact j_cN_fd hI h7
  · have hb := j_bI_a hI.2.2.2.1.2.2.2
    have e1 : ∀ j : Int, j ≠ 4 → V' (a + 16) j = V (a + 16) j := fun j hj => by rw [e, j_up_off hj]
    have e4 : V' (a + 16) 4 = k := by rw [e, j_up_at]
    exact j_cN_blk hI h7 (fun c c0 _ => by rw [e, j_up_ne c0]) (j_blkOK_congr (e1 1 (by decide)) (fun i _ _ => by rw [e, j_up_ne (by omega)]) hb.1) (by rw [e1 2 (by decide)]; exact ⟨hb.2.1, hb.2.2.1⟩) (by rw [e4]; omega)
theorem j_cN_q21 {S : jS} {V V' : jH} {a i r : Int} (hI : j_cI S V a) (h7 : V a 7 < 1000000) (h : j_q21 a i V r V') : j_cN S V a S V' := by
  rcases h with ⟨e, _⟩ | ⟨_, _, x, e⟩
  · rw [e]; exact j_cN_fd hI h7
  · obtain ⟨L, ht, a0, hw, hk, hd, h6, q7⟩ := id hI
    have ne : ∀ c : Int, c ≠ a + 1 → V' c = V c := fun c hc => by rw [e, j_up_ne hc]
    exact j_cN_of hI h7 (by rw [ne a (by omega)]; exact h6) (by rw [ne a (by omega)]; omega) (j_wI_congr' (by rw [e, j_up_off (by decide)]) (fun c c0 c1 => ne c (by omega)) hw) (fun c c0 c1 => ne c (by omega)) (ne _ (by omega)) (fun c hc => ne c (by omega))
theorem j_cN_q22 {S : jS} {V V' : jH} {a v r : Int} (hI : j_cI S V a) (h7 : V a 7 < 1000000) (h : j_q22 a v V r V') : j_cN S V a S V' := by
  rcases h with ⟨_, e, _⟩ | ⟨lt, _, e⟩
  · rw [e]; exact j_cN_fd hI h7
  · obtain ⟨L, ht, a0, hw, hk, hd, h6, q7⟩ := id hI
    have ne : ∀ c : Int, c ≠ a → c ≠ a + 241 → V' c = V c := fun c c0 c1 => by rw [e, j_up_ne c0, j_up_ne c1]
    have e6 : V' a 6 = V a 6 + 1 := by rw [e, j_up_at]
    have e7 : V' a 7 = V a 7 := by rw [e, j_up_off (by decide), j_up_ne (by omega)]
    exact j_cN_of hI h7 (by rw [e6]; omega) (by rw [e7]; omega) (j_wI_congr (fun c c0 c1 => ne c (by omega) (by omega)) hw) (fun c c0 c1 => ne c (by omega) (by omega)) (ne _ (by omega) (by omega)) (fun c hc => ne c (by omega) (by omega))
theorem j_cN_w0 {S : jS} {V : jH} {a : Int} (hI : j_cI S V a) (h7 : V a 7 < 1000000) : j_cN S V a S (j_up V a 6 0) := by
  obtain ⟨L, ht, a0, hw, hk, hd, h6, q7⟩ := id hI
  have e7 : j_up V a 6 0 a 7 = V a 7 := j_up_off (by decide)
  exact j_cN_of hI h7 (by rw [j_up_at]; omega) (by rw [e7]; omega) (j_wI_congr (fun c c0 c1 => j_up_ne (by omega)) hw) (fun c c0 c1 => j_up_ne (by omega)) (j_up_ne (by omega)) (fun c hc => j_up_ne (by omega))
theorem j_cN_q23 {S : jS} {V V' : jH} {a r : Int} (hI : j_cI S V a) (h7 : V a 7 < 1000000) (h : j_q23 a V r V') : j_cN S V a S V' := by
  rcases h with ⟨_, e, _⟩ | ⟨_, e, _⟩
  · have n1 := j_cN_w0 hI h7
    have e7 : j_up V a 6 0 a 7 = V a 7 := j_up_off (by decide)
    rw [e]; exact n1.tr e7 (j_cN_fd n1.1 (by omega))
  · rw [e]; exact j_cN_w0 hI h7
theorem j_cN_q26 {S : jS} {V V' : jH} {a : Int} (hI : j_cI S V a) (h7 : V a 7 < 1000000) (h : V' = V ∨ V' = j_fd V a) : j_cN S V a S V' := by
  rcases h with e | e
  · rw [e]; exact j_cN_rf hI
  · rw [e]; exact j_cN_fd hI h7
theorem j_dI_congr2 {S S' : jS} {V V' : jH} {a : Int} (h : ∀ c : Int, a + 230 ≤ c → c ≤ a + 233 → S'.1 c = S.1 c ∧ S'.2 c = S.2 c ∧ V' c = V c) (hd : j_dI S V a) : j_dI S' V' a := by
  rcases hd with ⟨g1, g2⟩ | ⟨g1, g2, g3⟩
  · exact Or.inl ⟨by rw [(h _ (by omega) (by omega)).2.1]; exact g1, by rw [(h _ (by omega) (by omega)).1]; exact g2⟩
  · exact Or.inr ⟨by rw [(h _ (by omega) (by omega)).2.1]; exact g1, by rw [(h _ (by omega) (by omega)).1]; exact g2, fun k k0 k1 => by rw [(h _ (by omega) (by omega)).2.2]; exact g3 k k0 k1⟩
theorem j_cN_back {S S' : jS} {V V' : jH} {a : Int} (hI : j_cI S V a) (k1 : S.2 a 1 = a + 300) (hB : j_wBe S V (a + 1) (a + 300) S' V') : j_cN S V a S' V' := by
  obtain ⟨L, ht, a0, hw, hk, hd, h6, q7⟩ := id hI
  have hk2 : j_wI S V (a + 300) := by
    rcases hk with ⟨g1, _⟩ | ⟨_, g2⟩
    · omega
    · exact g2
  have nw := j_wBe_wI hk2 hB
  obtain ⟨-, -, -, -, -, -, L', -, -, -, fr⟩ := hB
  have fa := fr a (by omega)
  refine ⟨⟨L', by rw [fa.1]; exact ht, a0, nw, Or.inr ⟨by rw [fa.2.1]; exact k1, j_wI_congr2 (fun c c0 c1 => fr c (by omega)) hk2⟩, j_dI_congr2 (fun c c0 c1 => fr c (by omega)) hd, by rw [fa.2.2]; exact h6, by rw [fa.2.2]; omega, by rw [fa.2.2]; omega⟩, by rw [fa.2.2]; omega, fun c hc => fr c (by omega)⟩
theorem j_cN_keep {S S' : jS} {V V' : jH} {a : Int} (hI : j_cI S V a) (k1 : S.2 a 1 = a + 300) (hB : j_wBe S V (a + 300) (a + 1) S' V') : j_cN S V a S' V' ∧ S'.2 a 1 = a + 300 := by
  obtain ⟨L, ht, a0, hw, hk, hd, h6, q7⟩ := id hI
  have nw := j_wBe_wI hw hB
  obtain ⟨-, -, -, -, -, -, L', -, -, -, fr⟩ := hB
  have fa := fr a (by omega)
  have e1 : S'.2 a 1 = a + 300 := by rw [fa.2.1]; exact k1
  exact ⟨⟨⟨L', by rw [fa.1]; exact ht, a0, j_wI_congr2 (fun c c0 c1 => fr c (by omega)) hw, Or.inr ⟨e1, nw⟩, j_dI_congr2 (fun c c0 c1 => fr c (by omega)) hd, by rw [fa.2.2]; exact h6, by rw [fa.2.2]; omega, by rw [fa.2.2]; omega⟩, by rw [fa.2.2]; omega, fun c hc => fr c (by omega)⟩, e1⟩
theorem j_cN_keepn {S S' S1 : jS} {V V' V1 : jH} {a : Int} (hI : j_cI S V a) (hB : j_wBe S1 V1 (a + 300) (a + 1) S' V') (hw1 : j_wI S1 V1 (a + 1)) (k1 : S1.2 a 1 = a + 300) (f0 : ∀ c : Int, c ≠ a → (c < a + 300 ∨ a + 322 < c) → S1.2 c = S.2 c) (f1 : ∀ c : Int, (c < a + 300 ∨ a + 322 < c) → S1.1 c = S.1 c ∧ V1 c = V c) : j_cN S V a S' V' ∧ S'.2 a 1 = a + 300 := by
  obtain ⟨L, ht, a0, hw, hk, hd, h6, q7⟩ := id hI
  have nw := j_wBe_wI hw1 hB
  obtain ⟨-, -, -, -, -, -, L', -, -, -, fr⟩ := hB
  have fa := fr a (by omega)
  have va : V' a = V a := fa.2.2.trans (f1 a (by omega)).2
  have e1 : S'.2 a 1 = a + 300 := by rw [fa.2.1]; exact k1
  refine ⟨⟨⟨L', by rw [fa.1, (f1 a (by omega)).1]; exact ht, a0, j_wI_congr2 (fun c c0 c1 => fr c (by omega)) hw1, Or.inr ⟨e1, nw⟩, j_dI_congr2 (fun c c0 c1 => ⟨(fr c (by omega)).1.trans (f1 c (by omega)).1, (fr c (by omega)).2.1.trans (f0 c (by omega) (by omega)), (fr c (by omega)).2.2.trans (f1 c (by omega)).2⟩) hd, by rw [va]; exact h6, by rw [va]; omega, by rw [va]; omega⟩, by rw [va]; omega, fun c hc => ⟨(fr c (by omega)).1.trans (f1 c (by omega)).1, (fr c (by omega)).2.1.trans (f0 c (by omega) (by omega)), (fr c (by omega)).2.2.trans (f1 c (by omega)).2⟩⟩, e1⟩
