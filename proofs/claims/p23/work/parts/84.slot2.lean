/-! THE CLASS: a slot gets its table -/
theorem m11_2n (l : Launch) : M11_2 l 10 1039 (fun w n S V => j_L S ∧ 0 ≤ n ∧ n < 10 ∧ 0 ≤ w ∧ S.2 (w + 14) n = -1 ∧ ∀ c : Int, j_slotT w n ≤ c → c ≤ j_slotT w n + 9 → S.1 c = 0)
    (fun w n S V r S' V' => r = j_slotT w n ∧ j_L S' ∧ S'.1 (j_slotT w n) = 29 ∧ S'.2 (w + 14) = j_u (S.2 (w + 14)) n (j_slotT w n) ∧ (∀ c : Int, (c < j_slotT w n ∨ j_slotT w n + 9 < c) → S'.1 c = S.1 c ∧ (c ≠ w + 14 → S'.2 c = S.2 c) ∧ V' c = V c)) := by
  refine e11_2 ?_
  rintro C G h hrm hcs hl hn w n S V hw ⟨L, n0, n1, w0, hs, hz⟩ R
  have ht0 : 0 ≤ j_slotT w n := by unfold j_slotT; omega
  have ht1 : w + 14 < j_slotT w n := by unfold j_slotT; omega
  have k14 : S.1 (w + 14) = 20 := L9_1k L hw
  generalize j_slotT w n = t at *
  refine t11_2_0 h L hw n0 n1 (fun q _ => absurd q (by omega)) (fun _ => ?_)
  refine t11_2_9 (a1 := t) h L hrm hw ht0 (hz t (by omega) (by omega)) (by rw [hcs.1]; omega) (by rw [hcs.2]; omega) (m10_1 C.2.1) ⟨ht0, fun c c0 c1 => by rw [j_ns1e _ _ _ (by omega)]; exact hz c (by omega) c1⟩ (by rw [hcs.1]; omega) (by rw [hcs.2]; omega) ?_
  intro S3 V3 hN
  have L3 : j_L S3 := j_L_newT L hz (fun c hc => ⟨j_ns1e _ _ _ hc, j_ns2e _ _ _ hc⟩) hN
  have out : ∀ c : Int, (c < t ∨ t + 9 < c) → S3.1 c = S.1 c ∧ S3.2 c = S.2 c ∧ V3 c = V c := fun c hc => by
    obtain ⟨q1, q2, q3⟩ := hN.2.2.2.2.2.1 c hc
    exact ⟨q1.trans (j_ns1e _ _ _ (by omega)), q2.trans (j_ns2e _ _ _ (by omega)), q3.trans (j_nve _ _ (by omega))⟩
  have m14 : S3.1 (w + 14) = 20 := by rw [(out _ (by omega)).1]; exact k14
  have mw : S3.1 w = 30 := by rw [(out _ (by omega)).1]; exact hw
  have L4 : j_L (j_sp S3 (w + 14) n t) := j_L_mono L3 (fun _ _ => rfl) (fun _ _ => rfl) (fun c i _ h20 _ _ => by
    show j_up S3.2 (w + 14) n t c i = S3.2 c i
    rw [j_up_ne (fun z => h20 (by rw [z]; exact m14))])
  have e14 : (j_sp S3 (w + 14) n t).2 (w + 14) n = t := j_up_at _ _ _ _
  refine t11_2_21 h m14 hN.2.1 n0 n1 (t11_2_22 h L4 mw n0 n1 R ⟨e14, L4, hN.2.1, ?_, fun c hc => ⟨(out c hc).1, fun c14 => ?_, (out c hc).2.2⟩⟩ (by decide) (by decide))
  · show j_up S3.2 (w + 14) n t (w + 14) = _
    rw [j_up_u, (out (w + 14) (by omega)).2.1]
  · show j_up S3.2 (w + 14) n t c = S.2 c
    rw [j_up_ne c14]; exact (out c hc).2.1
