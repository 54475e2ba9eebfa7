/-! THE LAW: what holds at the head of its loop -/
def j_lwI (S : jS) (V : jH) (i : Int) (nc ns : Nat) : Prop := j_cI S V 0 ∧ j_mI S V 1000 ∧ V 0 7 ≤ i ∧ V 1000 3 ≤ i ∧ 0 ≤ i ∧ (nc : Int) ≤ 200 + 20 * i ∧ (ns : Int) ≤ 100000 + 2078 * i ∧ (S.2 0 1 = -1 → (nc : Int) ≤ 100 + 20 * i ∧ (ns : Int) ≤ 80000 + 2078 * i) ∧ j_R S V ∧ j_Q V
theorem j_mid {S S1 : jS} {V V1 : jH} (hm : j_mI S V 1000) (n1 : j_cN S V 0 S1 V1) : j_mI S1 V1 1000 ∧ V1 1000 = V 1000 := by
  obtain ⟨L, ht, a0, hb, hk, h2, h4, h3⟩ := hm
  obtain ⟨hc, -, fr⟩ := n1
  have f0 := fr 1000 (by omega)
  refine ⟨⟨hc.1, by rw [f0.1]; exact ht, a0, j_BI_congr (fun c c0 c1 => (fr c (by omega)).2.2) hb, j_BI_congr (fun c c0 c1 => (fr c (by omega)).2.2) hk, ?_, ?_, ?_⟩, f0.2.2⟩
  · rw [f0.2.2]; exact h2
  · rw [f0.2.2]; exact h4
  · rw [f0.2.2]; exact h3
theorem j_aft {S : jS} {V V' : jH} (hc : j_cI S V 0) (hf : ∀ c : Int, c < 1000 → V' c = V c) : j_cI S V' 0 := by
  obtain ⟨L, ht, a0, hw, hk, hd, h6, h7⟩ := hc
  have e : V' 0 = V 0 := hf 0 (by omega)
  exact ⟨L, ht, a0, j_wI_congr (fun c c0 c1 => hf c (by omega)) hw, j_kI_congr (fun c c0 c1 => hf c (by omega)) hk, j_dI_congr (hf _ (by omega)) hd, by rw [e]; exact h6, by rw [e]; exact h7⟩
theorem j_lw_step {S S1 : jS} {V V1 V2 : jH} {i : Int} {nc ns mc ms nc' ns' : Nat} (hI : j_lwI S V i nc ns) (n1 : j_cN S V 0 S1 V1) (n2 : j_mN S1 V1 1000 V2) (hb : (mc ≤ 100 ∧ ms ≤ 10390 ∧ (S1.2 0 1 = -1 → S.2 0 1 = -1)) ∨ (mc ≤ 123 ∧ ms ≤ 19235 ∧ S.2 0 1 = -1 ∧ S1.2 0 1 ≠ -1)) (e1 : nc' = nc + mc) (e2 : ns' = ns + ms) (hR : j_R S1 V2 ∧ j_Q V2) : j_lwI S1 V2 (i + 5) nc' ns' := by
  obtain ⟨hc0, hm0, f7, f3, i0, nb1, nb2, nb3, -⟩ := hI
  obtain ⟨hm1, em⟩ := j_mid hm0 n1
  have e0 : V2 0 = V1 0 := n2.2.2 0 (by omega)
  have q7 := n1.2.1
  have q3 := n2.2.1
  rw [em] at q3
  refine ⟨j_aft n1.1 (fun c hc => n2.2.2 c (by omega)), n2.1, by rw [e0]; omega, (by omega), (by omega), ?_, ?_, fun z => ?_, hR⟩
  · rcases hb with ⟨h1, h2, _⟩ | ⟨h1, h2, h3, _⟩
    · omega
    · have := nb3 h3; omega
  · rcases hb with ⟨h1, h2, _⟩ | ⟨h1, h2, h3, _⟩
    · omega
    · have := nb3 h3; omega
  · rcases hb with ⟨h1, h2, h3⟩ | ⟨_, _, _, h3⟩
    · have := nb3 (h3 z); constructor <;> omega
    · exact absurd z h3
theorem j_mN_54 {S : jS} {V V' : jH} {a : Int} (hI : j_mI S V a) (h7 : V a 3 < 1000000) (h : V' = V ∨ V' = j_md V a) : j_mN S V a V' := by
  rcases h with e | e
  · rw [e]; exact j_mN_rf hI
  · rw [e]; exact j_mN_md hI h7
theorem j_Q_0 {V : jH} (h6 : V 0 6 = 0) (hr : ∀ p : Int, 0 ≤ p → p < 6 → V (3 + 2 * p) 1 = 0) (hb : V 16 1 = 0 ∧ V 16 2 = 0) (hz : ∀ c j : Int, 1000 ≤ c → c ≤ 1030 → V c j = 0) : j_Q V := by
  refine ⟨fun i i0 i1 => (by omega), ⟨fun p p0 p1 => ?_, fun t t0 t1 => ?_, ?_⟩, fun z => absurd (hz 1000 2 (by omega) (by omega)) z⟩
  · refine ⟨?_, fun i i0 i1 => ?_⟩
    · rw [hz (1001 + 1) p (by omega) (by omega)]; exact hr p p0 p1
    · rw [hz (1001 + 1) p (by omega) (by omega)] at i1; omega
  · rw [hz 1001 2 (by omega) (by omega)] at t1; omega
  · refine ⟨?_, fun i i0 i1 => ?_, ?_, fun z => absurd (hz 1001 9 (by omega) (by omega)) z⟩
    · rw [hz 1001 7 (by omega) (by omega)]; exact hb.1
    · rw [hz 1001 7 (by omega) (by omega)] at i1; omega
    · rw [hz 1001 9 (by omega) (by omega)]; exact hb.2
