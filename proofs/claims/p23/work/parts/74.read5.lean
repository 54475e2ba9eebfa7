/-! THE CLASS: what is read right is a deal -/
theorem j_pre_u {f : Int → Int} {i x : Int} : ∀ n : Nat, 0 ≤ i → j_pre (j_u f i x) n = j_pre f n + if i < n then x - f i else 0
  | 0, h => by rw [if_neg (by omega)]; rfl
  | n + 1, h => by
    have ih := j_pre_u (f := f) (i := i) (x := x) n h
    rw [show ((n + 1 : Nat) : Int) = (n : Int) + 1 by omega, j_pre_s _ (by omega), j_pre_s _ (by omega), ih]
    by_cases e : i = n
    · rw [e, j_u_at, if_neg (by omega), if_pos (by omega)]; omega
    · rw [j_u_ne (fun z => e z.symm)]
      by_cases c : i < n
      · rw [if_pos c, if_pos (by omega)]; omega
      · rw [if_neg c, if_neg (by omega)]; omega
/-- while a deal is read right -/
def j_rdG (w M n : Int) (q : Int × Int × Int × Int × (Int → Int)) : Prop := q.2.1 < 0 → j_pre q.2.2.2.2 257 = M - q.2.2.1 ∧ q.2.2.2.2 0 = 0 ∧ -1 ≤ q.2.2.2.1 ∧ (∀ j : Int, q.2.2.2.1 + 1 < j → q.2.2.2.2 j = 0) ∧ (∀ j : Int, 0 ≤ q.2.2.2.2 j) ∧ (1 ≤ n → n = w → q.2.2.1 = 0)
theorem j_rdL_G {f : Int → Int} {len w p wr M : Int} (hl : 0 ≤ len) (hf : ∀ i : Int, 0 ≤ i → i < len → 0 ≤ f i ∧ f i ≤ 255) (hp : wr < 0 → 0 ≤ p ∧ p ≤ len) (hM0 : 0 ≤ M) (hM : M ≤ 4096) : ∀ n : Nat, j_rdG w M n (j_rdL f len w p wr M n)
  | 0 => fun _ => ⟨by show j_pre (fun _ => 0) 257 = M - M; rw [j_sum_0 (fun _ _ _ => rfl)]; omega, rfl, by show (-1 : Int) ≤ -1; omega, fun _ _ => rfl, fun _ => Int.le_refl _, fun z => absurd z (by omega)⟩
  | n + 1 => by
    have ih := j_rdL_G (w := w) hl hf hp hM0 hM n
    have inv := j_rdL_inv (w := w) hl hf hp hM0 hM n
    rw [show ((n + 1 : Nat) : Int) = (n : Int) + 1 by omega]
    intro hw
    rw [j_rdL] at hw ⊢
    generalize j_rdL f len w p wr M n = q at *
    obtain ⟨p0, wr0, rest, sg, g⟩ := q
    by_cases c : 0 ≤ wr0
    · unfold j_rdL1 at hw
      rw [if_pos c] at hw
      exact absurd hw (by show ¬ wr0 < 0; omega)
    · obtain ⟨h1, h2, h3, h4, h5, h6⟩ := inv
      dsimp only at h1 h2 h3 h4 h5 h6
      have h1 := h1 (by omega)
      have hp0 : wr0 < 0 → 0 ≤ p0 ∧ p0 ≤ len := fun _ => ⟨h1.1, h1.2.1⟩
      obtain ⟨i1, i2, i3, i4, i5, i6⟩ := ih (show wr0 < 0 by omega)
      dsimp only at i1 i2 i3 i4 i5 i6
      obtain ⟨s, p1, w1, e1⟩ : ∃ s p1 w1, (s, p1, w1) = j_rd f len p0 wr0 1 (sg + 1) 255 := ⟨_, _, _, rfl⟩
      obtain ⟨v, p2, w2, e2⟩ : ∃ v p2 w2, (v, p2, w2) = j_rd f len p1 w1 2 (j_lst w n rest - 1) (rest - 1) := ⟨_, _, _, rfl⟩
      have pl1 := j_rd_pl (f := f) (len := len) (p := p0) (wr := wr0) (size := 1) (least := sg + 1) (most := 255) (by omega) hl hp0
      rw [← e1] at pl1
      dsimp only at pl1
      rw [j_rdL1_at (by omega) e1 e2] at hw ⊢
      by_cases cw : 0 ≤ w2
      · rw [if_pos cw] at hw
        exact absurd hw (by show ¬ w2 < 0; omega)
      · rw [if_neg cw]
        have sh := j_rd_sh (w := w) (n := n) (rest := rest) hl hf pl1 (by rw [← e2]; show w2 < 0; omega)
        obtain ⟨y1, y2, y3, y4, y5⟩ := j_rd_ok (f := f) (len := len) (p := p1) (wr := w1) (size := 2) (least := j_lst w n rest - 1) (most := rest - 1) hl pl1 (by rw [← e2]; show w2 < 0; omega)
        rw [y3] at e2
        have ev : v = j_val f p1 (2 : Int).toNat := congrArg Prod.fst e2
        have sh1 : 0 ≤ v ∧ v ≤ rest - 1 := by
          rw [y3] at sh
          rw [ev]
          exact ⟨sh.1, sh.2.1⟩
        obtain ⟨q1, q2, q3, q4, q5⟩ := j_rd_ok (f := f) (len := len) (p := p0) (wr := wr0) (size := 1) (least := sg + 1) (most := 255) hl hp0 (by rw [← e1]; show w1 < 0; omega)
        rw [q3] at e1
        have es : s = j_val f p0 (1 : Int).toNat := congrArg Prod.fst e1
        have g0 : g (s + 1) = 0 := i4 (s + 1) (by omega)
        refine ⟨?_, ?_, by show -1 ≤ s; omega, fun j hj => ?_, fun j => ?_, fun _ hw2 => ?_⟩
        · show j_pre (j_u g (s + 1) (1 + v)) ((257 : Nat) : Int) = M - (rest - (1 + v))
          rw [j_pre_u 257 (by omega), if_pos (by omega), g0]
          show j_pre g 257 + _ = _
          omega
        · show j_u g (s + 1) (1 + v) 0 = 0
          rw [j_u_ne (by omega)]; exact i2
        · show j_u g (s + 1) (1 + v) j = 0
          change s + 1 < j at hj
          rw [j_u_ne (by omega)]; exact i4 j (by omega)
        · show 0 ≤ j_u g (s + 1) (1 + v) j
          unfold j_u
          split
          · omega
          · exact i5 j
        · show rest - (1 + v) = 0
          have : j_lst w n rest = rest := by unfold j_lst; rw [if_pos (by omega)]
          rw [this] at y4
          omega
theorem j_rdD_dl {f : Int → Int} {len p wr M : Int} (hl : 0 ≤ len) (hf : ∀ i : Int, 0 ≤ i → i < len → 0 ≤ f i ∧ f i ≤ 255) (hp : wr < 0 → 0 ≤ p ∧ p ≤ len) (hM0 : 0 ≤ M) (hM : M ≤ 4096) (hw : (j_rdD f len p wr M).2.1 < 0) : j_dl (fun j => j_pre (j_rdD f len p wr M).2.2.2.2 (j + 1)) 0 M := by
  have pl := j_rd_pl (f := f) (len := len) (p := p) (wr := wr) (size := 2) (least := 1) (most := 256) (by omega) hl hp
  have hw1 : 1 ≤ (j_rd f len p wr 2 1 256).1 := by
    by_cases c : (j_rd f len p wr 2 1 256).2.2 < 0
    · obtain ⟨q1, q2, q3, q4, q5⟩ := j_rd_ok (f := f) (len := len) (p := p) (wr := wr) (size := 2) (least := 1) (most := 256) hl hp c
      rw [q3]; exact q4
    · rw [j_rd_w (by omega)]; omega
  obtain ⟨g1, g2, g3, g4, g5, g6⟩ := j_rdL_G (f := f) (len := len) (w := (j_rd f len p wr 2 1 256).1) (p := (j_rd f len p wr 2 1 256).2.1) (wr := (j_rd f len p wr 2 1 256).2.2) (M := M) hl hf pl hM0 hM (j_rd f len p wr 2 1 256).1.toNat hw
  change j_pre (j_rdD f len p wr M).2.2.2.2 257 = M - (j_rdD f len p wr M).2.2.1 at g1
  change (j_rdD f len p wr M).2.2.2.2 0 = 0 at g2
  change ∀ j : Int, 0 ≤ (j_rdD f len p wr M).2.2.2.2 j at g5
  have g6 : (j_rdD f len p wr M).2.2.1 = 0 := g6 (by omega) (by omega)
  refine ⟨?_, ?_, fun s s0 s1 => ?_⟩
  · show j_pre (j_rdD f len p wr M).2.2.2.2 (0 + 1) = 0
    rw [j_pre_s _ (by omega), j_pre_0, g2]; rfl
  · show j_pre (j_rdD f len p wr M).2.2.2.2 257 = M
    omega
  · show 0 ≤ j_pre (j_rdD f len p wr M).2.2.2.2 (s + 1 + 1) - j_pre (j_rdD f len p wr M).2.2.2.2 (s + 1)
    rw [j_pre_s _ (show 0 ≤ s + 1 by omega)]
    have := g5 (s + 1)
    omega
