/-! THE REFERENCE: what always holds of it -/
def j_md (V : jH) (a : Int) : jH := j_up V a 3 (V a 3 + 1)
/-- a block that reads right -/
def j_rt (f : Int → Int) (len : Int) : Prop := (j_h4 f len).2.2 < 0 ∧ (j_hC f len).2 < 0
/-- the shares of a deal of the reference -/
def j_rs (f : Int → Int) (o : Int) : Int → Int := fun s => f (o + s)
def j_mT (V : jH) (b t : Int) : Prop := 0 ≤ V (b + 3) t ∧ V (b + 3) t ≤ 4 ∧ 8 ≤ V (b + 4) t ∧ V (b + 4) t ≤ 12 ∧ (∀ i : Int, 0 ≤ i → i < 1024 → 0 ≤ V (b + 6) (1024 * t + i)) ∧ (∀ p : Int, 0 ≤ p → p < 4 → j_pre (j_rs (V (b + 6)) (1024 * t + 256 * p)) 256 ≤ j_M (V (b + 4) t)) ∧ ((V (b + 3) t = 1 ∨ V (b + 3) t = 4) → ∀ i : Int, 0 ≤ i → i < 1024 → V (b + 6) (1024 * t + i) = j_M (V (b + 4) t) / 256) ∧ ((V (b + 3) t = 2 ∨ V (b + 3) t = 3) → V (b + 5) t ≠ 0 → ∀ p : Int, 0 ≤ p → p < j_parts (V (b + 3) t) → j_pre (j_rs (V (b + 6)) (1024 * t + 256 * p)) 256 = j_M (V (b + 4) t))
def j_mR (V : jH) (b : Int) : Prop := ∀ p : Int, 0 ≤ p → p < 6 → 0 ≤ V (b + 1) p ∧ V (b + 1) p ≤ 400 ∧ ∀ i : Int, 0 ≤ i → i < V (b + 1) p → 0 ≤ V (b + 2) (400 * p + i) ∧ V (b + 2) (400 * p + i) < 256
def j_mS (V : jH) (b : Int) : Prop := 0 ≤ V b 2 ∧ V b 2 ≤ 10 ∧ (∀ t : Int, 0 ≤ t → t < 10 → 0 ≤ V (b + 5) t ∧ V (b + 5) t ≤ 1) ∧ ∀ t : Int, 0 ≤ t → t < V b 2 → j_mT V b t
def j_mB (V : jH) (b : Int) : Prop := (0 ≤ V b 7 ∧ V b 7 ≤ 4400 ∧ ∀ i : Int, 0 ≤ i → i < V b 7 → 0 ≤ V (b + 7) i ∧ V (b + 7) i ≤ 255) ∧ (0 ≤ V b 9 ∧ V b 9 ≤ 1) ∧ (V b 9 ≠ 0 → j_rt (V (b + 7)) (V b 7)) ∧ (V b 10 ≠ 0 → V b 9 ≠ 0 ∧ 1 ≤ V b 11 ∧ V b 11 ≤ 400)
def j_BI (V : jH) (b : Int) : Prop := j_mR V b ∧ j_mS V b ∧ j_mB V b
def j_mI (S : jS) (V : jH) (a : Int) : Prop := j_L S ∧ S.1 a = 33 ∧ 0 ≤ a ∧ j_BI V (a + 1) ∧ j_BI V (a + 9) ∧ (0 ≤ V a 2 ∧ V a 2 ≤ 1) ∧ (0 ≤ V a 4 ∧ V a 4 ≤ 400) ∧ 0 ≤ V a 3 ∧ V a 3 ≤ 1000000
theorem j_mI_F {S : jS} {V : jH} {a : Int} (h : j_mI S V a) : -2147483648 ≤ V a 3 ∧ V a 3 < 2147483647 := by have := h.2.2.2.2.2.2.2; omega
theorem j_mT_congr {V V' : jH} {b b' t : Int} (h3 : V' (b' + 3) t = V (b + 3) t) (h4 : V' (b' + 4) t = V (b + 4) t) (h5 : V' (b' + 5) t = V (b + 5) t) (h6 : ∀ i : Int, 0 ≤ i → i < 1024 → V' (b' + 6) (1024 * t + i) = V (b + 6) (1024 * t + i)) (h : j_mT V b t) : j_mT V' b' t := by
  obtain ⟨q1, q2, q3, q4, q5, q6, q7, q8⟩ := h
  have e : ∀ p : Int, 0 ≤ p → p < 4 → j_pre (j_rs (V' (b' + 6)) (1024 * t + 256 * p)) 256 = j_pre (j_rs (V (b + 6)) (1024 * t + 256 * p)) 256 := fun p p0 p1 => j_pre_congr (fun k k0 k1 => by
    show V' (b' + 6) (1024 * t + 256 * p + k) = V (b + 6) (1024 * t + 256 * p + k)
    rw [show 1024 * t + 256 * p + k = 1024 * t + (256 * p + k) by omega]; exact h6 _ (by omega) (by omega))
  refine ⟨by rw [h3]; exact q1, by rw [h3]; exact q2, by rw [h4]; exact q3, by rw [h4]; exact q4, fun i i0 i1 => by rw [h6 i i0 i1]; exact q5 i i0 i1, fun p p0 p1 => by rw [e p p0 p1, h4]; exact q6 p p0 p1, fun k i i0 i1 => by rw [h6 i i0 i1, h4]; rw [h3] at k; exact q7 k i i0 i1, fun k l p p0 p1 => ?_⟩
  rw [h3] at k p1
  rw [h5] at l
  have pp := (j_parts_bd (V (b + 3) t)).2
  rw [e p p0 (by omega), h4]; exact q8 k l p p0 p1
theorem j_mR_congr {V V' : jH} {b b' : Int} (h1 : ∀ p : Int, 0 ≤ p → p < 6 → V' (b' + 1) p = V (b + 1) p) (h2 : ∀ i : Int, 0 ≤ i → i < 2400 → V' (b' + 2) i = V (b + 2) i) (h : j_mR V b) : j_mR V' b' := fun p p0 p1 => by
  obtain ⟨q1, q2, q3⟩ := h p p0 p1
  refine ⟨by rw [h1 p p0 p1]; exact q1, by rw [h1 p p0 p1]; exact q2, fun i i0 i1 => ?_⟩
  rw [h1 p p0 p1] at i1
  rw [h2 _ (by omega) (by omega)]; exact q3 i i0 i1
theorem j_mS_congr {V V' : jH} {b b' : Int} (h0 : V' b' 2 = V b 2) (h3 : ∀ t : Int, 0 ≤ t → t < 10 → V' (b' + 3) t = V (b + 3) t ∧ V' (b' + 4) t = V (b + 4) t ∧ V' (b' + 5) t = V (b + 5) t) (h6 : ∀ i : Int, 0 ≤ i → i < 10240 → V' (b' + 6) i = V (b + 6) i) (h : j_mS V b) : j_mS V' b' := by
  obtain ⟨q1, q2, q3, q4⟩ := h
  refine ⟨by rw [h0]; exact q1, by rw [h0]; exact q2, fun t t0 t1 => by rw [(h3 t t0 t1).2.2]; exact q3 t t0 t1, fun t t0 t1 => ?_⟩
  rw [h0] at t1
  have := h3 t t0 (by omega)
  exact j_mT_congr this.1 this.2.1 this.2.2 (fun i i0 i1 => h6 _ (by omega) (by omega)) (q4 t t0 t1)
/-- what is read of a block hangs on its bytes alone -/
theorem j_val_congr {f g : Int → Int} {p : Int} : ∀ n : Nat, (∀ i : Int, p ≤ i → i < p + n → g i = f i) → j_val g p n = j_val f p n
  | 0, _ => rfl
  | n + 1, h => by
    show 256 * j_val g p n + g (p + n) = 256 * j_val f p n + f (p + n)
    rw [j_val_congr n (fun i i0 i1 => h i i0 (by omega)), h (p + n) (by omega) (by omega)]
theorem j_rd_congr {f g : Int → Int} {len : Int} (h : ∀ i : Int, 0 ≤ i → i < len → g i = f i) {p wr size least most : Int} (p0 : 0 ≤ p) (s0 : 0 ≤ size) : j_rd g len p wr size least most = j_rd f len p wr size least most := by
  unfold j_rd
  split
  · rfl
  · split
    · rfl
    · rw [j_val_congr size.toNat (fun i i0 i1 => h i (by omega) (by omega))]
theorem j_rdL_congr {f g : Int → Int} {len : Int} (h : ∀ i : Int, 0 ≤ i → i < len → g i = f i) {w p wr M : Int} (h0 : 0 ≤ p) (h1 : p ≤ len) : ∀ n : Nat, j_rdL g len w p wr M n = j_rdL f len w p wr M n
  | 0 => rfl
  | n + 1 => by
    have ih := j_rdL_congr h (w := w) (wr := wr) (M := M) h0 h1 n
    have al := j_rdL_al (f := f) (w := w) (wr := wr) (M := M) h0 h1 n
    show j_rdL1 g len w n (j_rdL g len w p wr M n) = j_rdL1 f len w n (j_rdL f len w p wr M n)
    rw [ih]
    have a := j_rd_al (f := f) (wr := (j_rdL f len w p wr M n).2.1) (size := 1) (least := (j_rdL f len w p wr M n).2.2.2.1 + 1) (most := 255) (by omega) al.1 al.2
    unfold j_rdL1
    rw [j_rd_congr h (p := (j_rdL f len w p wr M n).1) al.1 (by omega), j_rd_congr h a.1 (by omega)]
theorem j_rdD_congr {f g : Int → Int} {len : Int} (h : ∀ i : Int, 0 ≤ i → i < len → g i = f i) {p wr M : Int} (h0 : 0 ≤ p) (h1 : p ≤ len) : j_rdD g len p wr M = j_rdD f len p wr M := by
  unfold j_rdD
  rw [j_rd_congr h h0 (by omega)]
  have a := j_rd_al (f := f) (wr := wr) (size := 2) (least := 1) (most := 256) (by omega) h0 h1
  exact j_rdL_congr h a.1 a.2 _
theorem j_rdP_congr {f g : Int → Int} {len : Int} (h : ∀ i : Int, 0 ≤ i → i < len → g i = f i) {p wr M : Int} (h0 : 0 ≤ p) (h1 : p ≤ len) : ∀ n : Nat, j_rdP g len p wr M n = j_rdP f len p wr M n
  | 0 => rfl
  | n + 1 => by
    have ih := j_rdP_congr h (wr := wr) (M := M) h0 h1 n
    have al := j_rdP_al (f := f) (wr := wr) (M := M) h0 h1 n
    rw [j_rdP, j_rdP, ih, j_rdD_congr h al.1 al.2]
theorem j_rdX_congr {f g : Int → Int} {len : Int} (h : ∀ i : Int, 0 ≤ i → i < len → g i = f i) {M p wr : Int} (h0 : 0 ≤ p) (h1 : p ≤ len) : ∀ n : Nat, j_rdX g len M p wr n = j_rdX f len M p wr n
  | 0 => rfl
  | n + 1 => by
    have ih := j_rdX_congr h (M := M) (wr := wr) h0 h1 n
    have al := j_rdX_al (f := f) (M := M) (wr := wr) h0 h1 n
    rw [j_rdX, j_rdX, ih, j_rd_congr h al.1 (by omega)]
theorem j_h_congr {f g : Int → Int} {len : Int} (hl : 0 ≤ len) (h : ∀ i : Int, 0 ≤ i → i < len → g i = f i) : j_h1 g len = j_h1 f len ∧ j_h2 g len = j_h2 f len ∧ j_h3 g len = j_h3 f len ∧ j_h4 g len = j_h4 f len ∧ j_hP g len = j_hP f len ∧ j_hX g len = j_hX f len ∧ j_hS g len = j_hS f len ∧ j_hC g len = j_hC f len := by
  have a1 := j_rd_al (f := f) (len := len) (p := 0) (wr := -1) (size := 1) (least := 0) (most := 4) (by omega) (by omega) hl
  have a2 := j_rd_al (f := f) (len := len) (wr := (j_h1 f len).2.2) (size := 1) (least := 8) (most := 12) (by omega) a1.1 a1.2
  have a3 := j_rd_al (f := f) (len := len) (wr := (j_h2 f len).2.2) (size := 1) (least := 1) (most := 4) (by omega) a2.1 a2.2
  have e1 : j_h1 g len = j_h1 f len := j_rd_congr h (by omega) (by omega)
  have e2 : j_h2 g len = j_h2 f len := by unfold j_h2; rw [e1]; exact j_rd_congr h a1.1 (by omega)
  have e3 : j_h3 g len = j_h3 f len := by unfold j_h3; rw [e2]; exact j_rd_congr h a2.1 (by omega)
  have e4 : j_h4 g len = j_h4 f len := by unfold j_h4; rw [e3]; exact j_rd_congr h a3.1 (by omega)
  have a4 := j_h4_al (f := f) hl
  have eP : j_hP g len = j_hP f len := by unfold j_hP; rw [e1, e2, e4, j_rdP_congr h a4.1 a4.2.1]
  have aP := j_hP_al (f := f) hl
  have eX : j_hX g len = j_hX f len := by unfold j_hX; rw [e2, e3, eP, j_rdX_congr h aP.1 aP.2.1]
  have aX := j_rdX_al (f := f) (M := j_M (j_h2 f len).1) (wr := (j_hP f len).2.1) aP.1 aP.2.1 (j_h3 f len).1.toNat
  have aX : 0 ≤ (j_hX f len).2.1 ∧ (j_hX f len).2.1 ≤ len := aX
  have eS : j_hS g len = j_hS f len := by unfold j_hS j_rdS; rw [eX, j_rd_congr h aX.1 (by omega)]
  have aS := j_rdS_al (f := f) (wr := (j_hX f len).2.2) hl aX.1 aX.2
  have aS : 0 ≤ (j_hS f len).2.1 ∧ (j_hS f len).2.1 ≤ len ∧ 0 ≤ (j_hS f len).1 ∧ (j_hS f len).1 ≤ 65535 ∧ ((j_hS f len).2.2 < 0 → (j_hX f len).2.2 < 0 ∧ (j_hS f len).2.1 + (j_hS f len).1 + 2 = len) := aS
  refine ⟨e1, e2, e3, e4, eP, eX, eS, ?_⟩
  unfold j_hC j_rdC
  rw [eS]
  split
  · rfl
  · have q := aS.2.2.2.2 (by omega)
    have es : j_SUM g ((j_hS f len).2.1 + (j_hS f len).1) = j_SUM f ((j_hS f len).2.1 + (j_hS f len).1) := by
      unfold j_SUM
      rw [j_pre_congr (fun k k0 k1 => by rw [h k k0 (by omega)])]
    rw [es, j_rd_congr h (by omega) (by omega)]
theorem j_rt_congr {f g : Int → Int} {len : Int} (hl : 0 ≤ len) (h : ∀ i : Int, 0 ≤ i → i < len → g i = f i) (hr : j_rt f len) : j_rt g len := by
  obtain ⟨-, -, -, e4, -, -, -, eC⟩ := j_h_congr hl h
  unfold j_rt
  rw [e4, eC]; exact hr
theorem j_mB_congr {V V' : jH} {b b' : Int} (h : ∀ j : Int, (j = 7 ∨ j = 9 ∨ j = 10 ∨ j = 11) → V' b' j = V b j) (h7 : ∀ i : Int, 0 ≤ i → i < V b 7 → V' (b' + 7) i = V (b + 7) i) (hB : j_mB V b) : j_mB V' b' := by
  obtain ⟨⟨q1, q2, q3⟩, q4, q5, q6⟩ := hB
  have e7 := h 7 (by omega)
  have e9 := h 9 (by omega)
  have e10 := h 10 (by omega)
  have e11 := h 11 (by omega)
  refine ⟨⟨by rw [e7]; exact q1, by rw [e7]; exact q2, fun i i0 i1 => ?_⟩, by rw [e9]; exact q4, fun z => ?_, fun z => ?_⟩
  · rw [e7] at i1; rw [h7 i i0 i1]; exact q3 i i0 i1
  · rw [e9] at z; rw [e7]; exact j_rt_congr q1 h7 (q5 z)
  · rw [e10] at z; rw [e9, e11]; exact q6 z
theorem j_BI_congr {V V' : jH} {b : Int} (h : ∀ c : Int, b ≤ c → c ≤ b + 7 → V' c = V c) (hB : j_BI V b) : j_BI V' b :=
  ⟨j_mR_congr (fun p _ _ => by rw [h _ (by omega) (by omega)]) (fun i _ _ => by rw [h _ (by omega) (by omega)]) hB.1, j_mS_congr (by rw [h _ (by omega) (by omega)]) (fun t _ _ => by rw [h (b + 3) (by omega) (by omega), h (b + 4) (by omega) (by omega), h (b + 5) (by omega) (by omega)]; exact ⟨rfl, rfl, rfl⟩) (fun i _ _ => by rw [h _ (by omega) (by omega)]) hB.2.1, j_mB_congr (fun j _ => by rw [h _ (by omega) (by omega)]) (fun i _ _ => by rw [h _ (by omega) (by omega)]) hB.2.2⟩
/-- behind a call -/
def j_mN (S : jS) (V : jH) (a : Int) (V' : jH) : Prop := j_mI S V' a ∧ V' a 3 ≤ V a 3 + 1 ∧ ∀ c : Int, (c < a ∨ a + 30 < c) → V' c = V c
theorem j_mN_of {S : jS} {V V' : jH} {a : Int} (hI : j_mI S V a) (h7b : V a 3 < 1000000) (h2 : 0 ≤ V' a 2 ∧ V' a 2 ≤ 1) (h4 : 0 ≤ V' a 4 ∧ V' a 4 ≤ 400) (h3 : V a 3 ≤ V' a 3 ∧ V' a 3 ≤ V a 3 + 1) (hb : j_BI V' (a + 1)) (hk : j_BI V' (a + 9)) (hf : ∀ c : Int, (c < a ∨ a + 30 < c) → V' c = V c) : j_mN S V a V' := by
  obtain ⟨L, ht, a0, -, -, -, -, q7⟩ := hI
  exact ⟨⟨L, ht, a0, hb, hk, h2, h4, (by omega), (by omega)⟩, h3.2, hf⟩
theorem j_mN_md {S : jS} {V : jH} {a : Int} (hI : j_mI S V a) (h7 : V a 3 < 1000000) : j_mN S V a (j_md V a) := by
  obtain ⟨L, ht, a0, hb, hk, h2, h4, h3⟩ := id hI
  unfold j_md
  exact j_mN_of hI h7 (by rw [j_up_off (by decide)]; exact h2) (by rw [j_up_off (by decide)]; exact h4) (by rw [j_up_at]; omega) (j_BI_congr (fun c c0 c1 => j_up_ne (by omega)) hb) (j_BI_congr (fun c c0 c1 => j_up_ne (by omega)) hk) (fun c hc => j_up_ne (by omega))
theorem j_mN_rf {S : jS} {V : jH} {a : Int} (hI : j_mI S V a) : j_mN S V a V := ⟨hI, (by omega), fun _ _ => rfl⟩
/-- what is nobody's business: the reference's own rows for work -/
theorem j_mN_wk {S : jS} {V V' : jH} {a : Int} (hI : j_mI S V a) (hV : ∀ c : Int, c ≠ a → (c < a + 18 ∨ a + 30 < c) → V' c = V c) (ha : ∀ j : Int, (j = 2 ∨ j = 3 ∨ j = 4) → V' a j = V a j) : j_mN S V a V' := by
  obtain ⟨L, ht, a0, hb, hk, h2, h4, h3⟩ := id hI
  have e2 := ha 2 (by omega)
  have e3 := ha 3 (by omega)
  have e4 := ha 4 (by omega)
  exact ⟨⟨L, ht, a0, j_BI_congr (fun c c0 c1 => hV c (by omega) (by omega)) hb, j_BI_congr (fun c c0 c1 => hV c (by omega) (by omega)) hk, by rw [e2]; exact h2, by rw [e4]; exact h4, by rw [e3]; omega, by rw [e3]; omega⟩, by rw [e3]; omega, fun c hc => hV c (by omega) (by omega)⟩
theorem j_mN.tr {S : jS} {V V1 V2 : jH} {a : Int} (h : j_mN S V a V1) (e : V1 a 3 = V a 3) (h' : j_mN S V1 a V2) : j_mN S V a V2 :=
  ⟨h'.1, by have := h'.2.1; omega, fun c hc => (h'.2.2 c hc).trans (h.2.2 c hc)⟩
