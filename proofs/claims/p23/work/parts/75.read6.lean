/-! THE CLASS: where a reader is, whatever it reads -/
theorem j_rd_al {f : Int → Int} {len p wr size least most : Int} (hs : 0 ≤ size) (h0 : 0 ≤ p) (h1 : p ≤ len) : 0 ≤ (j_rd f len p wr size least most).2.1 ∧ (j_rd f len p wr size least most).2.1 ≤ len := by
  unfold j_rd
  split
  · exact ⟨h0, h1⟩
  · split
    · exact ⟨h0, h1⟩
    · split
      · exact ⟨h0, h1⟩
      · show 0 ≤ p + size ∧ p + size ≤ len
        omega
theorem j_rdL_al {f : Int → Int} {len w p wr M : Int} (h0 : 0 ≤ p) (h1 : p ≤ len) : ∀ n : Nat, 0 ≤ (j_rdL f len w p wr M n).1 ∧ (j_rdL f len w p wr M n).1 ≤ len
  | 0 => ⟨h0, h1⟩
  | n + 1 => by
    have ih := j_rdL_al (f := f) (w := w) (wr := wr) (M := M) h0 h1 n
    rw [j_rdL]
    unfold j_rdL1
    split
    · exact ih
    · split
      · have a := j_rd_al (f := f) (wr := (j_rdL f len w p wr M n).2.1) (size := 1) (least := (j_rdL f len w p wr M n).2.2.2.1 + 1) (most := 255) (by omega) ih.1 ih.2
        exact j_rd_al (by omega) a.1 a.2
      · have a := j_rd_al (f := f) (wr := (j_rdL f len w p wr M n).2.1) (size := 1) (least := (j_rdL f len w p wr M n).2.2.2.1 + 1) (most := 255) (by omega) ih.1 ih.2
        exact j_rd_al (by omega) a.1 a.2
theorem j_rdD_al {f : Int → Int} {len p wr M : Int} (h0 : 0 ≤ p) (h1 : p ≤ len) : 0 ≤ (j_rdD f len p wr M).1 ∧ (j_rdD f len p wr M).1 ≤ len := by
  have a := j_rd_al (f := f) (wr := wr) (size := 2) (least := 1) (most := 256) (by omega) h0 h1
  exact j_rdL_al a.1 a.2 _
theorem j_rdP_al {f : Int → Int} {len p wr M : Int} (h0 : 0 ≤ p) (h1 : p ≤ len) : ∀ n : Nat, 0 ≤ (j_rdP f len p wr M n).1 ∧ (j_rdP f len p wr M n).1 ≤ len
  | 0 => ⟨h0, h1⟩
  | n + 1 => by
    have ih := j_rdP_al (f := f) (wr := wr) (M := M) h0 h1 n
    rw [j_rdP]
    split
    · exact ih
    · exact j_rdD_al ih.1 ih.2
theorem j_rdP_dl {f : Int → Int} {len p wr M : Int} (hl : 0 ≤ len) (hf : ∀ i : Int, 0 ≤ i → i < len → 0 ≤ f i ∧ f i ≤ 255) (h0 : 0 ≤ p) (h1 : p ≤ len) (hM0 : 0 ≤ M) (hM : M ≤ 4096) : ∀ n : Nat, (j_rdP f len p wr M n).2.1 < 0 → wr < 0 ∧ ∀ k : Int, 0 ≤ k → k < n → j_dl ((j_rdP f len p wr M n).2.2 k) 0 M
  | 0 => fun hw => ⟨hw, fun k k0 k1 => absurd k1 (by omega)⟩
  | n + 1 => by
    have ih := j_rdP_dl (wr := wr) hl hf h0 h1 hM0 hM n
    have al := j_rdP_al (f := f) (wr := wr) (M := M) h0 h1 n
    rw [j_rdP]
    by_cases c : 0 ≤ (j_rdP f len p wr M n).2.1
    · rw [if_pos c]
      intro hw
      omega
    · rw [if_neg c]
      intro hw
      have ih := ih (by omega)
      refine ⟨ih.1, fun k k0 k1 => ?_⟩
      show j_dl (if k = n then _ else (j_rdP f len p wr M n).2.2 k) 0 M
      by_cases e : k = n
      · rw [if_pos e]
        exact j_rdD_dl hl hf (fun _ => al) hM0 hM hw
      · rw [if_neg e]
        exact ih.2 k k0 (by omega)
theorem j_rdX_al {f : Int → Int} {len M p wr : Int} (h0 : 0 ≤ p) (h1 : p ≤ len) : ∀ n : Nat, 0 ≤ (j_rdX f len M p wr n).2.1 ∧ (j_rdX f len M p wr n).2.1 ≤ len
  | 0 => ⟨h0, h1⟩
  | n + 1 => by
    have ih := j_rdX_al (f := f) (M := M) (wr := wr) h0 h1 n
    exact j_rd_al (by omega) ih.1 ih.2
theorem j_rdX_ok {f : Int → Int} {len M p wr : Int} (hl : 0 ≤ len) (h0 : 0 ≤ p) (h1 : p ≤ len) : ∀ n : Nat, (j_rdX f len M p wr n).2.2 < 0 → wr < 0 ∧ ∀ y : Int, 0 ≤ y → y < n → M ≤ (j_rdX f len M p wr n).1 y ∧ (j_rdX f len M p wr n).1 y < 256 * M
  | 0 => fun hw => ⟨hw, fun y y0 y1 => absurd y1 (by omega)⟩
  | n + 1 => by
    have ih := j_rdX_ok (f := f) (M := M) (wr := wr) hl h0 h1 n
    have al := j_rdX_al (f := f) (M := M) (wr := wr) h0 h1 n
    intro hw
    obtain ⟨q1, q2, q3, q4, q5⟩ := j_rd_ok (f := f) (len := len) (p := (j_rdX f len M p wr n).2.1) (wr := (j_rdX f len M p wr n).2.2) (size := 3) (least := M) (most := 256 * M - 1) hl (fun _ => al) hw
    have ih := ih q1
    refine ⟨ih.1, fun y y0 y1 => ?_⟩
    show M ≤ j_u (j_rdX f len M p wr n).1 n (j_rd f len (j_rdX f len M p wr n).2.1 (j_rdX f len M p wr n).2.2 3 M (256 * M - 1)).1 y ∧ j_u (j_rdX f len M p wr n).1 n (j_rd f len (j_rdX f len M p wr n).2.1 (j_rdX f len M p wr n).2.2 3 M (256 * M - 1)).1 y < 256 * M
    by_cases e : y = n
    · rw [e, j_u_at, q3]
      show M ≤ j_val f (j_rdX f len M p wr n).2.1 (3 : Int).toNat ∧ j_val f (j_rdX f len M p wr n).2.1 (3 : Int).toNat < 256 * M
      omega
    · rw [j_u_ne e]
      exact ih.2 y y0 (by omega)
theorem j_rdS_al {f : Int → Int} {len p wr : Int} (hl : 0 ≤ len) (h0 : 0 ≤ p) (h1 : p ≤ len) : 0 ≤ (j_rdS f len p wr).2.1 ∧ (j_rdS f len p wr).2.1 ≤ len ∧ 0 ≤ (j_rdS f len p wr).1 ∧ (j_rdS f len p wr).1 ≤ 65535 ∧ ((j_rdS f len p wr).2.2 < 0 → wr < 0 ∧ (j_rdS f len p wr).2.1 + (j_rdS f len p wr).1 + 2 = len) := by
  have a := j_rd_al (f := f) (wr := wr) (size := 2) (least := 0) (most := 65535) (by omega) h0 h1
  have v : 0 ≤ (j_rd f len p wr 2 0 65535).1 ∧ (j_rd f len p wr 2 0 65535).1 ≤ 65535 ∧ ((j_rd f len p wr 2 0 65535).2.2 < 0 → wr < 0) := by
    by_cases c : (j_rd f len p wr 2 0 65535).2.2 < 0
    · obtain ⟨q1, q2, q3, q4, q5⟩ := j_rd_ok (f := f) (len := len) (p := p) (wr := wr) (size := 2) (least := 0) (most := 65535) hl (fun _ => ⟨h0, h1⟩) c
      rw [q3]
      exact ⟨q4, q5, fun _ => q1⟩
    · rw [j_rd_w (by omega)]
      exact ⟨by omega, by omega, fun z => absurd z c⟩
  unfold j_rdS
  by_cases c : (j_rd f len p wr 2 0 65535).2.2 < 0 ∧ len - (j_rd f len p wr 2 0 65535).2.1 ≠ (j_rd f len p wr 2 0 65535).1 + 2
  · rw [if_pos c]
    exact ⟨a.1, a.2, v.1, v.2.1, fun z => absurd z (by show ¬ p < 0; omega)⟩
  · rw [if_neg c]
    exact ⟨a.1, a.2, v.1, v.2.1, fun z => ⟨v.2.2 z, by omega⟩⟩
/-- a block is read, piece by piece -/
def j_h1 (f : Int → Int) (len : Int) : Int × Int × Int := j_rd f len 0 (-1) 1 0 4
def j_h2 (f : Int → Int) (len : Int) : Int × Int × Int := j_rd f len (j_h1 f len).2.1 (j_h1 f len).2.2 1 8 12
def j_h3 (f : Int → Int) (len : Int) : Int × Int × Int := j_rd f len (j_h2 f len).2.1 (j_h2 f len).2.2 1 1 4
def j_h4 (f : Int → Int) (len : Int) : Int × Int × Int := j_rd f len (j_h3 f len).2.1 (j_h3 f len).2.2 2 0 400
def j_hP (f : Int → Int) (len : Int) : Int × Int × (Int → Int → Int) := if j_isTold (j_h1 f len).1 then j_rdP f len (j_h4 f len).2.1 (j_h4 f len).2.2 (j_M (j_h2 f len).1) (j_parts (j_h1 f len).1).toNat else ((j_h4 f len).2.1, (j_h4 f len).2.2, fun _ => j_start (j_h1 f len).1 (j_h2 f len).1)
def j_hX (f : Int → Int) (len : Int) : (Int → Int) × Int × Int := j_rdX f len (j_M (j_h2 f len).1) (j_hP f len).1 (j_hP f len).2.1 (j_h3 f len).1.toNat
def j_hS (f : Int → Int) (len : Int) : Int × Int × Int := j_rdS f len (j_hX f len).2.1 (j_hX f len).2.2
def j_hC (f : Int → Int) (len : Int) : Int × Int := j_rdC f len (j_hS f len).2.1 (j_hS f len).2.2 ((j_hS f len).2.1 + (j_hS f len).1)
