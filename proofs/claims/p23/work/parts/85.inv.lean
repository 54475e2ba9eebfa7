/-! THE CLASS: what always holds of it -/
def j_fd (V : jH) (a : Int) : jH := j_up V a 7 (V a 7 + 1)
def j_dlu (b : Int → Int) (M : Int) : Prop := b 0 = 0 ∧ b 256 ≤ M ∧ ∀ s : Int, 0 ≤ s → s < 256 → 0 ≤ j_sh b s
theorem j_dlu_dl {b : Int → Int} {M : Int} (h : j_dlu b M) : j_dl b 0 (b 256) := ⟨h.1, rfl, h.2.2⟩
theorem j_dlu_bd {b : Int → Int} {M B : Int} (h : j_dlu b M) (hB : M ≤ B) : j_bd b B := j_dl_bd (j_dlu_dl h) (Int.le_trans h.2.1 hB)
theorem j_dlu_congr {b b' : Int → Int} {M : Int} (hb : ∀ j : Int, 0 ≤ j → j ≤ 256 → b' j = b j) (h : j_dlu b M) : j_dlu b' M := by
  obtain ⟨h1, h2, h3⟩ := h
  refine ⟨by rw [hb 0 (by omega) (by omega)]; exact h1, by rw [hb 256 (by omega) (by omega)]; exact h2, fun s s0 s1 => ?_⟩
  have := h3 s s0 s1
  show 0 ≤ b' (s + 1) - b' s
  rw [hb s s0 (by omega), hb (s + 1) (by omega) (by omega)]
  exact this
theorem j_dl_dlu {b : Int → Int} {M : Int} (h : j_dl b 0 M) : j_dlu b M := ⟨h.1, by rw [h.2.1]; exact Int.le_refl _, h.2.2⟩
/-- a table -/
def j_tI (V : jH) (t : Int) : Prop := 0 ≤ V t 1 ∧ V t 1 ≤ 4 ∧ 8 ≤ V t 2 ∧ V t 2 ≤ 12 ∧ (∀ p : Int, 0 ≤ p → p < 4 → j_dlu (V (t + 3 + 2 * p)) (j_M (V t 2))) ∧ (V (t + 3) 256 = j_M (V t 2) → ∀ p : Int, 0 ≤ p → p < j_parts (V t 1) → V (t + 3 + 2 * p) 256 = j_M (V t 2)) ∧ ((V t 1 = 1 ∨ V t 1 = 4) → ∀ p j : Int, 0 ≤ p → p < 4 → 0 ≤ j → j ≤ 256 → V (t + 3 + 2 * p) j = j * (j_M (V t 2) / 256))
theorem j_parts_bd (k : Int) : 1 ≤ j_parts k ∧ j_parts k ≤ 4 := by unfold j_parts; split <;> omega
theorem j_tI_congr {V V' : jH} {t t' : Int} (h1 : V' t' 1 = V t 1) (h2 : V' t' 2 = V t 2) (h3 : ∀ p j : Int, 0 ≤ p → p < 4 → 0 ≤ j → j ≤ 256 → V' (t' + 3 + 2 * p) j = V (t + 3 + 2 * p) j) (h : j_tI V t) : j_tI V' t' := by
  obtain ⟨q1, q2, q3, q4, q5, q6, q7⟩ := h
  have e3 : V' (t' + 3) 256 = V (t + 3) 256 := by
    have := h3 0 256 (by omega) (by omega) (by omega) (by omega)
    rw [show t' + 3 + 2 * 0 = t' + 3 by omega, show t + 3 + 2 * 0 = t + 3 by omega] at this
    exact this
  refine ⟨by rw [h1]; exact q1, by rw [h1]; exact q2, by rw [h2]; exact q3, by rw [h2]; exact q4, fun p p0 p1 => ?_, fun e p p0 p1 => ?_, fun k p j p0 p1 j0 j1 => ?_⟩
  · rw [h2]; exact j_dlu_congr (fun j j0 j1 => h3 p j p0 p1 j0 j1) (q5 p p0 p1)
  · have pp := (j_parts_bd (V' t' 1)).2
    rw [h2, h3 p 256 p0 (by omega) (by omega) (by omega)]
    rw [h1] at p1
    exact q6 (by rw [← h2, ← e3]; exact e) p p0 p1
  · rw [h2, h3 p j p0 p1 j0 j1]
    exact q7 (by rw [← h1]; exact k) p j p0 p1 j0 j1
theorem j_tI_tab {V : jH} {t : Int} (h : j_tI V t) (e : V (t + 3) 256 = j_M (V t 2)) : j_tabOK V t := by
  obtain ⟨q1, q2, q3, q4, q5, q6, q7⟩ := h
  refine ⟨q3, q4, fun p p0 p1 => ?_⟩
  have pp := (j_parts_bd (V t 1)).2
  have := q5 p p0 (by omega)
  exact ⟨this.1, q6 e p p0 p1, this.2.2⟩
theorem j_tI_bd {V : jH} {t : Int} (h : j_tI V t) {p : Int} (p0 : 0 ≤ p) (p1 : p < 4) : j_bd (V (t + 3 + 2 * p)) 4096 := by
  have m := j_M_bd h.2.2.1 h.2.2.2.1
  exact j_dlu_bd (h.2.2.2.2.1 p p0 p1) m.2
theorem j_bd_up {b : Int → Int} {B B' : Int} (h : j_bd b B) (hB : B ≤ B') : j_bd b B' := fun j j0 j1 => ⟨(h j j0 j1).1, Int.le_trans (h j j0 j1).2 hB⟩
/-- rows, slots of tables, the block of a Whole -/
def j_rI (V : jH) (w : Int) : Prop := ∀ p : Int, 0 ≤ p → p < 6 → j_rowOK V (w + 2 + 2 * p)
def j_sI (S : jS) (V : jH) (w : Int) : Prop := 0 ≤ V w 2 ∧ V w 2 ≤ 10 ∧ ∀ t : Int, 0 ≤ t → t < 10 → (S.2 (w + 14) t = j_slotT w t ∧ S.1 (j_slotT w t) = 29 ∧ (t < V w 2 → j_tI V (j_slotT w t))) ∨ (S.2 (w + 14) t = -1 ∧ V w 2 ≤ t ∧ ∀ c : Int, j_slotT w t ≤ c → c ≤ j_slotT w t + 9 → S.1 c = 0)
def j_bI (V : jH) (w : Int) : Prop := j_blkOK V (w + 15) ∧ 0 ≤ V (w + 15) 2 ∧ V (w + 15) 2 ≤ 1 ∧ 0 ≤ V (w + 17) 5 ∧ V (w + 17) 5 ≤ 400 ∧ 0 ≤ V (w + 15) 4 ∧ V (w + 15) 4 ≤ 400
def j_wI (S : jS) (V : jH) (w : Int) : Prop := S.1 w = 30 ∧ j_rI V w ∧ j_sI S V w ∧ j_bI V w
def j_kI (S : jS) (V : jH) (a : Int) : Prop := (S.2 a 1 = -1 ∧ ∀ c : Int, a + 300 ≤ c → c ≤ a + 429 → S.1 c = 0) ∨ (S.2 a 1 = a + 300 ∧ j_wI S V (a + 300))
def j_dI (S : jS) (V : jH) (a : Int) : Prop := (S.2 (a + 230) 3 = -1 ∧ S.1 (a + 233) = 0) ∨ j_sumsOK S V (a + 230)
def j_cI (S : jS) (V : jH) (a : Int) : Prop := j_L S ∧ S.1 a = 31 ∧ 0 ≤ a ∧ j_wI S V (a + 1) ∧ j_kI S V a ∧ j_dI S V a ∧ (0 ≤ V a 6 ∧ V a 6 ≤ 400) ∧ 0 ≤ V a 7 ∧ V a 7 ≤ 1000000
theorem j_rowOK_congr {V V' : jH} {w w' : Int} (h1 : V' w' 1 = V w 1) (h2 : ∀ i : Int, 0 ≤ i → i < V w 1 → V' (w' + 1) i = V (w + 1) i) (h : j_rowOK V w) : j_rowOK V' w' := by
  obtain ⟨a, b, c⟩ := h
  exact ⟨by rw [h1]; exact a, by rw [h1]; exact b, fun i i0 i1 => by rw [h1] at i1; rw [h2 i i0 i1]; exact c i i0 i1⟩
theorem j_blkOK_congr {V V' : jH} {w w' : Int} (h1 : V' w' 1 = V w 1) (h2 : ∀ i : Int, 0 ≤ i → i < V w 1 → V' (w' + 1) i = V (w + 1) i) (h : j_blkOK V w) : j_blkOK V' w' := by
  obtain ⟨a, b, c⟩ := h
  exact ⟨by rw [h1]; exact a, by rw [h1]; exact b, fun i i0 i1 => by rw [h1] at i1; rw [h2 i i0 i1]; exact c i i0 i1⟩
theorem j_rI_congr {V V' : jH} {w : Int} (hV : ∀ c : Int, w + 2 ≤ c → c ≤ w + 13 → V' c = V c) (h : j_rI V w) : j_rI V' w := fun p p0 p1 =>
  j_rowOK_congr (by rw [hV _ (by omega) (by omega)]) (fun i _ _ => by rw [hV _ (by omega) (by omega)]) (h p p0 p1)
theorem j_sI_congr {S : jS} {V V' : jH} {w : Int} (h0 : V' w 2 = V w 2) (hV : ∀ c : Int, w + 30 ≤ c → c ≤ w + 129 → V' c = V c) (h : j_sI S V w) : j_sI S V' w := by
  obtain ⟨a, b, c⟩ := h
  refine ⟨by rw [h0]; exact a, by rw [h0]; exact b, fun t t0 t1 => ?_⟩
  rcases c t t0 t1 with ⟨c1, c2, c3⟩ | ⟨c1, c2, c3⟩
  · refine Or.inl ⟨c1, c2, fun q => ?_⟩
    rw [h0] at q
    have := c3 q
    unfold j_slotT at this ⊢
    exact j_tI_congr (by rw [hV _ (by omega) (by omega)]) (by rw [hV _ (by omega) (by omega)]) (fun p j p0 p1 _ _ => by rw [hV _ (by omega) (by omega)]) this
  · exact Or.inr ⟨c1, by rw [h0]; exact c2, c3⟩
theorem j_bI_congr {V V' : jH} {w : Int} (hV : ∀ c : Int, w + 15 ≤ c → c ≤ w + 17 → V' c = V c) (h : j_bI V w) : j_bI V' w := by
  obtain ⟨a, b⟩ := h
  refine ⟨j_blkOK_congr (by rw [hV _ (by omega) (by omega)]) (fun i _ _ => by rw [hV _ (by omega) (by omega)]) a, ?_⟩
  rw [hV (w + 15) (by omega) (by omega), hV (w + 17) (by omega) (by omega)]
  exact b
theorem j_wI_congr {S : jS} {V V' : jH} {w : Int} (hV : ∀ c : Int, w ≤ c → c ≤ w + 129 → V' c = V c) (h : j_wI S V w) : j_wI S V' w :=
  ⟨h.1, j_rI_congr (fun c c0 c1 => hV c (by omega) (by omega)) h.2.1, j_sI_congr (by rw [hV _ (by omega) (by omega)]) (fun c c0 c1 => hV c (by omega) (by omega)) h.2.2.1, j_bI_congr (fun c c0 c1 => hV c (by omega) (by omega)) h.2.2.2⟩
theorem j_kI_congr {S : jS} {V V' : jH} {a : Int} (hV : ∀ c : Int, a + 300 ≤ c → c ≤ a + 429 → V' c = V c) (h : j_kI S V a) : j_kI S V' a := by
  rcases h with h | ⟨h1, h2⟩
  · exact Or.inl h
  · exact Or.inr ⟨h1, j_wI_congr (fun c c0 c1 => hV c (by omega) (by omega)) h2⟩
theorem j_dI_congr {S : jS} {V V' : jH} {a : Int} (hV : V' (a + 233) = V (a + 233)) (h : j_dI S V a) : j_dI S V' a := by
  rcases h with h | ⟨h1, h2, h3⟩
  · exact Or.inl h
  · refine Or.inr ⟨h1, h2, fun k k0 k1 => ?_⟩
    have := h3 k k0 k1
    rw [show a + 230 + 3 = a + 233 by omega] at this ⊢
    rw [hV]; exact this
/-- the tables that there are -/
theorem j_sI_at {S : jS} {V : jH} {w t : Int} (h : j_sI S V w) (t0 : 0 ≤ t) (t1 : t < V w 2) : S.2 (w + 14) t = j_slotT w t ∧ S.1 (j_slotT w t) = 29 ∧ j_tI V (j_slotT w t) := by
  rcases h.2.2 t t0 (by have := h.2.1; omega) with ⟨c1, c2, c3⟩ | ⟨c1, c2, c3⟩
  · exact ⟨c1, c2, c3 t1⟩
  · omega
theorem j_cI_F7 {S : jS} {V : jH} {a : Int} (h : j_cI S V a) : -2147483648 ≤ V a 7 ∧ V a 7 < 2147483647 := by have := h.2.2.2.2.2.2.2; omega
/-- a finding -/
theorem j_cI_fd {S : jS} {V : jH} {a : Int} (h : j_cI S V a) (h7 : V a 7 < 1000000) : j_cI S (j_fd V a) a := by
  obtain ⟨L, ht, a0, hw, hk, hd, h6, h8⟩ := h
  unfold j_fd
  refine ⟨L, ht, a0, j_wI_congr (fun c c0 c1 => j_up_ne (by omega)) hw, j_kI_congr (fun c c0 c1 => j_up_ne (by omega)) hk, j_dI_congr (j_up_ne (by omega)) hd, by rw [j_up_off (by decide)]; exact h6, by rw [j_up_at]; omega, by rw [j_up_at]; omega⟩
