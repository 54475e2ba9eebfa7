/-! THE BEST WAY: how many bytes a way takes, and which is the first with the fewest -/
def j_wB (w : Int → Int) (n k r : Int) (B : Int → Int → Int) : Prop := (¬ (k = 2 ∨ k = 3) → ∀ p j : Int, 0 ≤ p → p < j_parts k → 0 ≤ j → j ≤ 256 → B p j = j_start k r j) ∧ ((k = 2 ∨ k = 3) → ∀ p : Int, 0 ≤ p → p < j_parts k → ∃ sh, j_deal (j_count w (j_ofPart k p) n) (j_M r) sh ∧ ∀ j : Int, 0 ≤ j → j ≤ 256 → B p j = j_pre sh j)
def j_wS (w : Int → Int) (n k r la : Int) (B : Int → Int → Int) : Int := 5 + ((j_dsT B (j_toldP k).toNat).length : Int) + 3 * la + 2 + (j_rX k r la B w n).2.1 + 2
def j_Sz (w : Int → Int) (n x s : Int) : Prop := ∃ (k r la : Int) (B : Int → Int → Int), (1 ≤ k ∧ k ≤ 4 ∧ 8 ≤ r ∧ r ≤ 12 ∧ 1 ≤ la ∧ la ≤ 4) ∧ x = 1000 * k + 10 * r + la ∧ j_wB w n k r B ∧ s = j_wS w n k r la B
def j_sgw (w : Int → Int) (n : Int) : Prop := ∀ i : Int, 0 ≤ i → i < n → 0 ≤ w i ∧ w i < 256
theorem j_rf_B {k r : Int} {B B' : Int → Int → Int} {w : Int → Int} {n i : Int} (hw : j_sgw w n) (hB : ∀ p j : Int, 0 ≤ p → p < j_parts k → 0 ≤ j → j ≤ 256 → B' p j = B p j) (i0 : 0 ≤ i) (i1 : i < n) : j_rf k r B' w i = j_rf k r B w i ∧ j_rb k r B' w i = j_rb k r B w i := by
  have s := hw i i0 i1
  refine ⟨?_, j_D_B hB s.1 (by omega)⟩
  show j_D k r B' w i (w i + 1) - j_D k r B' w i (w i) = j_D k r B w i (w i + 1) - j_D k r B w i (w i)
  rw [j_D_B hB (by omega) (by omega), j_D_B hB s.1 (by omega)]
theorem j_rX_B {k r la : Int} {B B' : Int → Int → Int} {w : Int → Int} {n : Int} (hw : j_sgw w n) (n0 : 0 ≤ n) (hB : ∀ p j : Int, 0 ≤ p → p < j_parts k → 0 ≤ j → j ≤ 256 → B' p j = B p j) : j_rX k r la B' w n = j_rX k r la B w n :=
  j_pX_congr (fun i i0 i1 => (j_rf_B hw hB i0 i1).1) (fun i i0 i1 => (j_rf_B hw hB i0 i1).2) n.toNat (by omega)
theorem j_rf_w {k r : Int} {B : Int → Int → Int} {w w' : Int → Int} {n i : Int} (hw : ∀ i : Int, 0 ≤ i → i < n → w' i = w i) (i0 : 0 ≤ i) (i1 : i < n) : j_rf k r B w' i = j_rf k r B w i ∧ j_rb k r B w' i = j_rb k r B w i := by
  have e : j_D k r B w' i = j_D k r B w i := j_D_congr i0 (fun y y0 y1 => hw y y0 (by omega))
  unfold j_rf j_rb
  rw [e, hw i i0 i1]
  exact ⟨rfl, rfl⟩
theorem j_rX_w {k r la : Int} {B : Int → Int → Int} {w w' : Int → Int} {n : Int} (n0 : 0 ≤ n) (hw : ∀ i : Int, 0 ≤ i → i < n → w' i = w i) : j_rX k r la B w' n = j_rX k r la B w n :=
  j_pX_congr (fun i i0 i1 => (j_rf_w hw i0 i1).1) (fun i i0 i1 => (j_rf_w hw i0 i1).2) n.toNat (by omega)
theorem j_toldP_parts (k : Int) : j_toldP k ≤ j_parts k ∧ 0 ≤ j_toldP k := by
  have := j_parts_bd k
  unfold j_toldP
  split <;> omega
theorem j_wS_B {w : Int → Int} {n k r la : Int} {B B' : Int → Int → Int} (hw : j_sgw w n) (n0 : 0 ≤ n) (hB : ∀ p j : Int, 0 ≤ p → p < j_parts k → 0 ≤ j → j ≤ 256 → B' p j = B p j) : j_wS w n k r la B' = j_wS w n k r la B := by
  have t := j_toldP_parts k
  unfold j_wS
  rw [j_rX_B hw n0 hB, j_dsT_congr (j_toldP k).toNat (fun p j p0 p1 j0 j1 => hB p j p0 (by omega) j0 j1)]
theorem j_wB_one {w : Int → Int} {n k r : Int} {B B' : Int → Int → Int} (h : j_wB w n k r B) (h' : j_wB w n k r B') : ∀ p j : Int, 0 ≤ p → p < j_parts k → 0 ≤ j → j ≤ 256 → B' p j = B p j := by
  intro p j p0 p1 j0 j1
  by_cases c : k = 2 ∨ k = 3
  · obtain ⟨sh, d1, d2⟩ := h.2 c p p0 p1
    obtain ⟨sh', d1', d2'⟩ := h'.2 c p p0 p1
    rw [d2 j j0 j1, d2' j j0 j1]
    exact j_pre_congr (fun s s0 s1 => j_deal_one d1' d1 s0 (by omega))
  · rw [h.1 c p j p0 p1 j0 j1, h'.1 c p j p0 p1 j0 j1]
theorem j_count_w {w w' : Int → Int} {n part s : Int} (hw : ∀ i : Int, 0 ≤ i → i < n → w' i = w i) : j_count w' part n s = j_count w part n s := by
  unfold j_count
  refine j_pre_congr (fun i i0 i1 => ?_)
  show (if w' i = s ∧ (part = -1 ∨ part = j_bef w' i % 4) then (1 : Int) else 0) = (if w i = s ∧ (part = -1 ∨ part = j_bef w i % 4) then (1 : Int) else 0)
  rw [hw i i0 i1, j_bef_congr i0 (fun y y0 y1 => hw y y0 (by omega))]
theorem j_wB_w {w w' : Int → Int} {n k r : Int} {B : Int → Int → Int} (hw : ∀ i : Int, 0 ≤ i → i < n → w' i = w i) (h : j_wB w n k r B) : j_wB w' n k r B := by
  refine ⟨h.1, fun c p p0 p1 => ?_⟩
  obtain ⟨sh, d1, d2⟩ := h.2 c p p0 p1
  exact ⟨sh, j_deal_congr (fun s _ _ => j_count_w hw) d1, d2⟩
theorem j_Sz_w {w w' : Int → Int} {n x s : Int} (n0 : 0 ≤ n) (hw : ∀ i : Int, 0 ≤ i → i < n → w' i = w i) (h : j_Sz w n x s) : j_Sz w' n x s := by
  obtain ⟨k, r, la, B, b, ex, hB, es⟩ := h
  refine ⟨k, r, la, B, b, ex, j_wB_w hw hB, ?_⟩
  rw [es]; unfold j_wS; rw [j_rX_w n0 hw]
theorem j_Sz_one {w : Int → Int} {n x s s' : Int} (n0 : 0 ≤ n) (hw : j_sgw w n) (h : j_Sz w n x s) (h' : j_Sz w n x s') : s = s' := by
  obtain ⟨k, r, la, B, b, ex, hB, es⟩ := h
  obtain ⟨k', r', la', B', b', ex', hB', es'⟩ := h'
  have ek : k' = k := by omega
  have er : r' = r := by omega
  have el : la' = la := by omega
  subst ek; subst er; subst el
  rw [es, es']
  exact j_wS_B hw n0 (j_wB_one hB' hB)
theorem j_Sz_way {w : Int → Int} {n x s : Int} (h : j_Sz w n x s) : j_way x := by
  obtain ⟨k, r, la, B, b, ex, -⟩ := h
  exact ⟨k, r, la, b.1, b.2.1, b.2.2.1, b.2.2.2.1, b.2.2.2.2.1, b.2.2.2.2.2, ex⟩
/-- the best of the ways ahead of one -/
def j_bw (w : Int → Int) (n cur x f : Int) : Prop := (f = 4401 ∧ cur ≤ 1081) ∨ (j_way x ∧ x < cur ∧ f ≤ 4400 ∧ j_Sz w n x f ∧ ∀ y s : Int, y < cur → j_Sz w n y s → f < s ∨ (f = s ∧ x ≤ y))
def j_bst (w : Int → Int) (n x : Int) : Prop := ∃ f : Int, j_Sz w n x f ∧ ∀ y s : Int, j_Sz w n y s → f < s ∨ (f = s ∧ x ≤ y)
theorem j_bw_skip {w : Int → Int} {n cur nx x f : Int} (h : j_bw w n cur x f) (c0 : 1081 < cur) (c1 : cur ≤ nx) (hs : ∀ y : Int, j_way y → y < nx → y < cur) : j_bw w n nx x f := by
  rcases h with ⟨_, z⟩ | ⟨h1, h2, h3, h4, h5⟩
  · omega
  · exact Or.inr ⟨h1, (by omega), h3, h4, fun y s hy hz => h5 y s (hs y (j_Sz_way hz) hy) hz⟩
theorem j_bw_new {w : Int → Int} {n cur x f s : Int} (n0 : 0 ≤ n) (hw : j_sgw w n) (hs : j_Sz w n cur s) (s1 : s ≤ 4400) (h : j_bw w n cur x f) : (s < f → j_bw w n (cur + 1) cur s) ∧ (f ≤ s → j_bw w n (cur + 1) x f) := by
  have hway := j_Sz_way hs
  refine ⟨fun lt => Or.inr ⟨hway, (by omega), s1, hs, fun y t hy hz => ?_⟩, fun le => ?_⟩
  · by_cases e : y = cur
    · rw [e] at hz
      exact Or.inr ⟨j_Sz_one n0 hw hs hz, (by omega)⟩
    · rcases h with ⟨_, z⟩ | ⟨_, _, _, _, h5⟩
      · obtain ⟨k, r, la, b⟩ := j_Sz_way hz
        omega
      · have := h5 y t (by omega) hz; omega
  · rcases h with ⟨z, _⟩ | ⟨h1, h2, h3, h4, h5⟩
    · omega
    · refine Or.inr ⟨h1, (by omega), h3, h4, fun y t hy hz => ?_⟩
      by_cases e : y = cur
      · rw [e] at hz
        have := j_Sz_one n0 hw hs hz
        omega
      · exact h5 y t (by omega) hz
theorem j_bw_end {w : Int → Int} {n cur x f : Int} (h : j_bw w n cur x f) (c : 4124 < cur) : j_way x ∧ j_bst w n x := by
  rcases h with ⟨_, z⟩ | ⟨h1, h2, h3, h4, h5⟩
  · omega
  · refine ⟨h1, f, h4, fun y s hz => h5 y s ?_ hz⟩
    obtain ⟨k, r, la, b⟩ := j_Sz_way hz
    omega
theorem j_best_one {w w' : Int → Int} {n x y : Int} (n0 : 0 ≤ n) (hw : ∀ i : Int, 0 ≤ i → i < n → w' i = w i) (h : j_bst w n x) (h' : j_bst w' n y) : x = y := by
  obtain ⟨f, a1, a2⟩ := h
  obtain ⟨g, b1, b2⟩ := h'
  have p := a2 y g (j_Sz_w n0 (fun i i0 i1 => (hw i i0 i1).symm) b1)
  have q := b2 x f (j_Sz_w n0 hw a1)
  omega
/-! what a bench has when a row is planned and packed -/
theorem j_told_T (V : jH) (t : Int) : j_told V t = ((j_dsT (fun p => V (t + 3 + 2 * p)) (j_toldP (V t 1)).toNat).length : Int) := by
  have d : ∀ p : Nat, (((j_dealT (V (t + 3 + 2 * (p : Int)))).length : Nat) : Int) = j_toldAt V t p := fun p => j_dealT_len _
  have d0 := d 0
  have d1 := d 1
  have d2 := d 2
  have d3 := d 3
  unfold j_told j_toldP
  by_cases c3 : V t 1 = 3
  · rw [if_pos c3, if_pos (Or.inr (Or.inr c3))]
    have e4 : (j_parts (V t 1)).toNat = 4 := by unfold j_parts; rw [if_pos c3]; rfl
    rw [e4]
    show _ = ((((([] ++ j_dealT (V (t + 3 + 2 * ((0 : Nat) : Int)))) ++ j_dealT (V (t + 3 + 2 * ((1 : Nat) : Int)))) ++ j_dealT (V (t + 3 + 2 * ((2 : Nat) : Int)))) ++ j_dealT (V (t + 3 + 2 * ((3 : Nat) : Int)))).length : Int)
    rw [List.length_append, List.length_append, List.length_append, List.length_append]
    have e0 : ([] : List Int).length = 0 := rfl
    have g0 : j_toldAt V t ((0 : Nat) : Int) = j_toldAt V t 0 := rfl
    have g1 : j_toldAt V t ((1 : Nat) : Int) = j_toldAt V t 1 := rfl
    have g2 : j_toldAt V t ((2 : Nat) : Int) = j_toldAt V t 2 := rfl
    have g3 : j_toldAt V t ((3 : Nat) : Int) = j_toldAt V t 3 := rfl
    omega
  · rw [if_neg c3]
    by_cases c : V t 1 = 0 ∨ V t 1 = 2
    · rw [if_pos c, if_pos (by rcases c with c | c; exact Or.inl c; exact Or.inr (Or.inl c))]
      have e1 : (j_parts (V t 1)).toNat = 1 := by unfold j_parts; rw [if_neg c3]; rfl
      rw [e1]
      show _ = (([] ++ j_dealT (V (t + 3 + 2 * ((0 : Nat) : Int)))).length : Int)
      rw [List.nil_append, d0]
      rfl
    · rw [if_neg c, if_neg (fun z => by rcases z with z | z | z; exact c (Or.inl z); exact c (Or.inr z); exact c3 z)]
      rfl
/-- a row planned by a table and packed: all is as the text has it -/
theorem j_bench_X {V V1 V1' V2 : jH} {e t w la : Int} (hP : j_plI V e t w (V w 1) V1) (n0 : 0 ≤ V w 1) (c14 : V1' (e + 14) 5 = V1 (e + 14) 5) (c18 : V1' (e + 18) = V1 (e + 18)) (c19 : V1' (e + 19) = V1 (e + 19)) (hK : j_pkI V1' e (j_M (V t 2)) la (-1) V2) :
    V2 e 5 = (j_rX (V t 1) (V t 2) la (fun p => V (t + 3 + 2 * p)) (V (w + 1)) (V w 1)).2.1 ∧ (∀ l : Int, 0 ≤ l → l < 4 → V2 (e + 20) l = (j_rX (V t 1) (V t 2) la (fun p => V (t + 3 + 2 * p)) (V (w + 1)) (V w 1)).1 l) ∧ (∀ j : Int, 0 ≤ j → j < V2 e 5 → V2 (e + 21) j = (j_rX (V t 1) (V t 2) la (fun p => V (t + 3 + 2 * p)) (V (w + 1)) (V w 1)).2.2 j) ∧
    ∀ x : Int, 0 ≤ x → x < V w 1 → V2 (e + 16) x = (j_pX (j_M (V t 2)) la (V w 1) (j_rf (V t 1) (V t 2) (fun p => V (t + 3 + 2 * p)) (V (w + 1))) (j_rb (V t 1) (V t 2) (fun p => V (t + 3 + 2 * p)) (V (w + 1))) ((V w 1).toNat - (x + 1).toNat)).1 (x % la) ∧ V2 (e + 17) x = (j_pX (j_M (V t 2)) la (V w 1) (j_rf (V t 1) (V t 2) (fun p => V (t + 3 + 2 * p)) (V (w + 1))) (j_rb (V t 1) (V t 2) (fun p => V (t + 3 + 2 * p)) (V (w + 1))) ((V w 1).toNat - (x + 1).toNat)).2.1 := by
  obtain ⟨-, -, f3, -, -, f6⟩ := hP
  obtain ⟨-, -, k3, k4, k5, k6⟩ := hK
  have en : V1' (e + 14) 5 = V w 1 := c14.trans f3
  have px : ∀ k : Nat, k ≤ V w 1 → j_PX V1' e (j_M (V t 2)) la k = j_pX (j_M (V t 2)) la (V w 1) (j_rf (V t 1) (V t 2) (fun p => V (t + 3 + 2 * p)) (V (w + 1))) (j_rb (V t 1) (V t 2) (fun p => V (t + 3 + 2 * p)) (V (w + 1))) k := by
    intro k hk
    unfold j_PX
    rw [en, c18, c19]
    exact j_pX_congr (fun i i0 i1 => (f6 i i0 i1).2.1) (fun i i0 i1 => (f6 i i0 i1).2.2) k hk
  rw [en, show V w 1 - 1 - -1 = V w 1 by omega] at k3 k4 k5
  rw [px _ (by omega)] at k3 k4 k5
  refine ⟨k3, k4, k5, fun x x0 x1 => ?_⟩
  obtain ⟨y1, y2⟩ := k6 x (by omega) (by rw [en]; exact x1)
  rw [en, px _ (by omega), show (V w 1 - 1 - x).toNat = (V w 1).toNat - (x + 1).toNat by omega] at y1 y2
  exact ⟨y1, y2⟩
