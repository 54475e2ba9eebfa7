/-! WHAT IS PRINTED IS READ -/
def j_atT (f : Int → Int) : Int → List Int → Prop
  | _, [] => True
  | p, y :: l => f p = y ∧ j_atT f (p + 1) l
theorem j_atT_app {f : Int → Int} : ∀ (l m : List Int) (p : Int), j_atT f p (l ++ m) ↔ (j_atT f p l ∧ j_atT f (p + l.length) m)
  | [], m, p => by
    show j_atT f p m ↔ (True ∧ j_atT f (p + ((0 : Nat) : Int)) m)
    rw [show p + ((0 : Nat) : Int) = p by omega]
    exact ⟨fun h => ⟨trivial, h⟩, fun h => h.2⟩
  | y :: l, m, p => by
    have ih := j_atT_app (f := f) l m (p + 1)
    show (f p = y ∧ j_atT f (p + 1) (l ++ m)) ↔ ((f p = y ∧ j_atT f (p + 1) l) ∧ j_atT f (p + ((l.length + 1 : Nat) : Int)) m)
    rw [ih, show p + ((l.length + 1 : Nat) : Int) = p + 1 + (l.length : Int) by omega]
    exact ⟨fun h => ⟨⟨h.1, h.2.1⟩, h.2.2⟩, fun h => ⟨h.1.1, h.1.2, h.2⟩⟩
theorem j_atT_Bl (f : Int → Int) (n : Int) : j_atT f 0 (j_Bl f n) := by
  unfold j_Bl
  generalize n.toNat = m
  induction m with
  | zero => exact trivial
  | succ m ih =>
    rw [List.range_succ, List.map_append, j_atT_app]
    refine ⟨ih, ?_⟩
    rw [List.length_map, List.length_range, show (0 : Int) + (m : Int) = m by omega]
    exact ⟨rfl, trivial⟩
theorem j_atT_sl {f : Int → Int} : ∀ (l : List Int) (p : Int), 0 ≤ p → j_atT f p l → j_sl l p + j_pre (fun i => (i + 1) * f i) p = j_pre (fun i => (i + 1) * f i) (p + l.length)
  | [], p, p0, _ => by show 0 + _ = j_pre _ (p + ((0 : Nat) : Int)); rw [show p + ((0 : Nat) : Int) = p by omega]; omega
  | y :: l, p, p0, h => by
    have ih := j_atT_sl (f := f) l (p + 1) (by omega) h.2
    rw [j_pre_s _ p0, h.1] at ih
    show (p + 1) * y + j_sl l (p + 1) + _ = j_pre _ (p + ((l.length + 1 : Nat) : Int))
    rw [show p + ((l.length + 1 : Nat) : Int) = p + 1 + (l.length : Int) by omega, ← ih]
    omega
theorem j_val_1 {f : Int → Int} {p x : Int} (h : j_atT f p (j_num x 1)) (x0 : 0 ≤ x) (x1 : x < 256) : j_val f p 1 = x := by
  have e0 : f p = x / 2 ^ (8 * 0) % 256 := h.1
  rw [show (2 : Int) ^ (8 * 0) = 1 from rfl] at e0
  show 256 * 0 + f (p + ((0 : Nat) : Int)) = x
  rw [show p + ((0 : Nat) : Int) = p by omega]
  omega
theorem j_val_2 {f : Int → Int} {p x : Int} (h : j_atT f p (j_num x 2)) (x0 : 0 ≤ x) (x1 : x < 65536) : j_val f p 2 = x := by
  have e0 : f p = x / 2 ^ (8 * 1) % 256 := h.1
  have e1 : f (p + 1) = x / 2 ^ (8 * 0) % 256 := h.2.1
  rw [show (2 : Int) ^ (8 * 0) = 1 from rfl] at e1
  rw [show (2 : Int) ^ (8 * 1) = 256 from rfl] at e0
  show 256 * (256 * 0 + f (p + ((0 : Nat) : Int))) + f (p + ((1 : Nat) : Int)) = x
  rw [show p + ((0 : Nat) : Int) = p by omega, show p + ((1 : Nat) : Int) = p + 1 by omega]
  omega
theorem j_val_3 {f : Int → Int} {p x : Int} (h : j_atT f p (j_num x 3)) (x0 : 0 ≤ x) (x1 : x < 16777216) : j_val f p 3 = x := by
  have e0 : f p = x / 2 ^ (8 * 2) % 256 := h.1
  have e1 : f (p + 1) = x / 2 ^ (8 * 1) % 256 := h.2.1
  have e2 : f (p + 1 + 1) = x / 2 ^ (8 * 0) % 256 := h.2.2.1
  rw [show (2 : Int) ^ (8 * 0) = 1 from rfl] at e2
  rw [show (2 : Int) ^ (8 * 1) = 256 from rfl] at e1
  rw [show (2 : Int) ^ (8 * 2) = 65536 from rfl] at e0
  show 256 * (256 * (256 * 0 + f (p + ((0 : Nat) : Int))) + f (p + ((1 : Nat) : Int))) + f (p + ((2 : Nat) : Int)) = x
  rw [show p + ((0 : Nat) : Int) = p by omega, show p + ((1 : Nat) : Int) = p + 1 by omega, show p + ((2 : Nat) : Int) = p + 1 + 1 by omega]
  omega
theorem j_rd_1 {f : Int → Int} {len p wr x least most : Int} (hw : wr < 0) (hl : p + 1 ≤ len) (h : j_atT f p (j_num x 1)) (x0 : 0 ≤ x) (x1 : x < 256) (b0 : least ≤ x) (b1 : x ≤ most) : j_rd f len p wr 1 least most = (x, p + 1, wr) := by
  have e : j_val f p (1 : Int).toNat = x := j_val_1 h x0 x1
  rw [j_rd_good hw hl (by rw [e]; omega), e]
theorem j_rd_2 {f : Int → Int} {len p wr x least most : Int} (hw : wr < 0) (hl : p + 2 ≤ len) (h : j_atT f p (j_num x 2)) (x0 : 0 ≤ x) (x1 : x < 65536) (b0 : least ≤ x) (b1 : x ≤ most) : j_rd f len p wr 2 least most = (x, p + 2, wr) := by
  have e : j_val f p (2 : Int).toNat = x := j_val_2 h x0 x1
  rw [j_rd_good hw hl (by rw [e]; omega), e]
theorem j_rd_3 {f : Int → Int} {len p wr x least most : Int} (hw : wr < 0) (hl : p + 3 ≤ len) (h : j_atT f p (j_num x 3)) (x0 : 0 ≤ x) (x1 : x < 16777216) (b0 : least ≤ x) (b1 : x ≤ most) : j_rd f len p wr 3 least most = (x, p + 3, wr) := by
  have e : j_val f p (3 : Int).toNat = x := j_val_3 h x0 x1
  rw [j_rd_good hw hl (by rw [e]; omega), e]
theorem j_with_s (b : Int → Int) {n : Int} (n0 : 0 ≤ n) : j_with b (n + 1) = j_with b n + if 0 < j_sh b n then 1 else 0 := by unfold j_with; rw [j_pre_s _ n0]
theorem j_with_up {b : Int → Int} {M m : Int} (h : j_dl b 0 M) (m0 : 0 ≤ m) : ∀ d : Nat, m + d ≤ 256 → j_with b m ≤ j_with b (m + d) ∧ (j_with b (m + d) = j_with b m → b (m + d) = b m)
  | 0, _ => by rw [show m + ((0 : Nat) : Int) = m by omega]; exact ⟨Int.le_refl _, fun _ => rfl⟩
  | d + 1, hd => by
    have ih := j_with_up h m0 d (by omega)
    rw [show m + ((d + 1 : Nat) : Int) = m + d + 1 by omega, j_with_s b (by omega)]
    have s := h.2.2 (m + d) (by omega) (by omega)
    have e : j_sh b (m + d) = b (m + d + 1) - b (m + d) := rfl
    by_cases c : 0 < j_sh b (m + d)
    · rw [if_pos c]; exact ⟨(by omega), fun z => absurd z (by omega)⟩
    · rw [if_neg c]; exact ⟨(by omega), fun z => by have := ih.2 (by omega); omega⟩
/-- so many signs of a deal are read -/
theorem j_rdL_T {f b : Int → Int} {len p wr M : Int} (hw : wr < 0) (hd : j_dl b 0 M) (hM : M ≤ 4096) (hl : p + 3 * j_with b 256 ≤ len) : ∀ n : Nat, n ≤ 256 → j_atT f p (j_dT b n) → ∃ (sg : Int) (g : Int → Int), -1 ≤ sg ∧ sg < n ∧ g 0 = 0 ∧ (∀ s : Int, 0 ≤ s → s < n → g (s + 1) = j_sh b s) ∧ (∀ j : Int, n < j → g j = 0) ∧ j_rdL f len (j_with b 256) p wr M (j_with b n).toNat = (p + 3 * j_with b n, wr, M - b n, sg, g)
  | 0, _, _ => ⟨-1, fun _ => 0, (by omega), (by omega), rfl, fun s s0 s1 => absurd s1 (by omega), fun _ _ => rfl, by
    show (p, wr, M, (-1 : Int), fun _ => (0 : Int)) = (p + 3 * 0, wr, M - b 0, -1, fun _ => 0)
    rw [hd.1, show p + 3 * 0 = p by omega, show M - 0 = M by omega]⟩
  | n + 1, hn, hT => by
    have hT : j_atT f p (j_dT b n ++ (if 0 < j_sh b n then j_num n 1 ++ j_num (j_sh b n - 1) 2 else [])) := hT
    rw [j_atT_app] at hT
    obtain ⟨sg, g, g1, g2, g3, g4, g5, g6⟩ := j_rdL_T hw hd hM hl n (by omega) hT.1
    have wb := j_with_bd b (show (0 : Int) ≤ n by omega)
    have up := (j_with_up hd (show (0 : Int) ≤ (n : Int) + 1 by omega) (256 - (n + 1)) (by omega))
    rw [show (n : Int) + 1 + ((256 - (n + 1) : Nat) : Int) = 256 by omega] at up
    have s := hd.2.2 n (by omega) (by omega)
    have es : j_sh b n = b ((n : Int) + 1) - b n := rfl
    have b1 := j_dl_bd hd (Int.le_refl _) n (by omega) (by omega)
    have b2 := j_dl_bd hd (Int.le_refl _) ((n : Int) + 1) (by omega) (by omega)
    rw [show ((n + 1 : Nat) : Int) = (n : Int) + 1 by omega]
    have ws := j_with_s b (show (0 : Int) ≤ n by omega)
    have T2 := hT.2
    rw [j_dT_len b n] at T2
    by_cases c : 0 < j_sh b n
    · rw [if_pos c] at ws T2
      rw [j_atT_app, j_num_len] at T2
      have r1 : (((n : Int), p + 3 * j_with b n + 1, wr) : Int × Int × Int) = j_rd f len (p + 3 * j_with b n) wr 1 (sg + 1) 255 := (j_rd_1 hw (by omega) T2.1 (by omega) (by omega) (by omega) (by omega)).symm
      have lst : j_lst (j_with b 256) (j_with b n).toNat (M - b n) - 1 ≤ j_sh b n - 1 := by
        unfold j_lst
        by_cases e : ((j_with b n).toNat : Int) = j_with b 256 - 1
        · rw [if_pos e]
          have := up.2 (by omega)
          have := hd.2.1
          omega
        · rw [if_neg e]; omega
      have r2 : ((j_sh b n - 1, p + 3 * j_with b n + 1 + 2, wr) : Int × Int × Int) = j_rd f len (p + 3 * j_with b n + 1) wr 2 (j_lst (j_with b 256) (j_with b n).toNat (M - b n) - 1) (M - b n - 1) := (j_rd_2 hw (by omega) T2.2 (by omega) (by omega) lst (by omega)).symm
      refine ⟨n, j_u g ((n : Int) + 1) (1 + (j_sh b n - 1)), (by omega), (by omega), ?_, fun x x0 x1 => ?_, fun j hj => ?_, ?_⟩
      · rw [j_u_ne (by omega)]; exact g3
      · by_cases e : x = n
        · rw [e, j_u_at]; omega
        · rw [j_u_ne (by omega)]; exact g4 x x0 (by omega)
      · rw [j_u_ne (by omega)]; exact g5 j (by omega)
      · rw [ws, show (j_with b n + 1).toNat = (j_with b n).toNat + 1 by omega, j_rdL, g6, j_rdL1_at hw r1 r2, if_neg (by omega), show p + 3 * j_with b n + 1 + 2 = p + 3 * (j_with b n + 1) by omega, show M - b n - (1 + (j_sh b n - 1)) = M - b ((n : Int) + 1) by omega]
    · rw [if_neg c] at ws
      refine ⟨sg, g, g1, (by omega), g3, fun x x0 x1 => ?_, fun j hj => g5 j (by omega), ?_⟩
      · by_cases e : x = n
        · rw [e, g5 _ (by omega)]; omega
        · exact g4 x x0 (by omega)
      · rw [ws, show j_with b n + 0 = j_with b n by omega, g6, show b ((n : Int) + 1) = b n by omega]
theorem j_dealT_len (b : Int → Int) : ((j_dealT b).length : Int) = 2 + 3 * j_with b 256 := by
  unfold j_dealT
  rw [List.length_append, j_num_len]
  have := j_dT_len b 256
  have e : ((256 : Nat) : Int) = 256 := rfl
  rw [e] at this
  omega
theorem j_pre_sh {b g : Int → Int} (h0 : b 0 = 0) (g0 : g 0 = 0) : ∀ n : Nat, (∀ s : Int, 0 ≤ s → s < n → g (s + 1) = j_sh b s) → j_pre g ((n : Int) + 1) = b n
  | 0, _ => by rw [j_pre_s _ (by omega)]; show 0 + g 0 = b 0; rw [g0, h0]; rfl
  | n + 1, h => by
    rw [show ((n + 1 : Nat) : Int) = (n : Int) + 1 by omega, j_pre_s _ (by omega), j_pre_sh h0 g0 n (fun s s0 s1 => h s s0 (by omega)), h n (by omega) (by omega)]
    show b n + (b ((n : Int) + 1) - b n) = _
    omega
theorem j_rdD_T {f b : Int → Int} {len p wr M : Int} (hw : wr < 0) (hd : j_dl b 0 M) (hM0 : 1 ≤ M) (hM : M ≤ 4096) (hl : p + (j_dealT b).length ≤ len) (hT : j_atT f p (j_dealT b)) : (j_rdD f len p wr M).1 = p + (j_dealT b).length ∧ (j_rdD f len p wr M).2.1 = wr ∧ ∀ x : Int, 0 ≤ x → x ≤ 256 → j_pre (j_rdD f len p wr M).2.2.2.2 (x + 1) = b x := by
  have el := j_dealT_len b
  have wb := j_with_bd b (show (0 : Int) ≤ 256 by omega)
  have w1 : 1 ≤ j_with b 256 := by
    have up := (j_with_up hd (Int.le_refl 0) 256 (by decide)).2
    have e : (0 : Int) + ((256 : Nat) : Int) = 256 := rfl
    rw [e] at up
    have e0 : j_with b 0 = 0 := rfl
    by_cases c : 1 ≤ j_with b 256
    · exact c
    · have := up (by omega)
      have h1 := hd.1
      have h2 := hd.2.1
      omega
  unfold j_dealT at hT
  obtain ⟨N, hN⟩ : ∃ N : Nat, N = 256 := ⟨256, rfl⟩
  rw [← hN, j_atT_app, j_num_len] at hT
  have r := j_rd_2 (f := f) (len := len) (p := p) (wr := wr) (x := j_with b 256) (least := 1) (most := 256) hw (by omega) hT.1 (by omega) (by omega) (by omega) (by omega)
  have T2 : j_atT f (p + 2) (j_dT b N) := by
    have := hT.2
    rw [show p + ((2 : Nat) : Int) = p + 2 by omega] at this
    exact this
  obtain ⟨sg, g, g1, g2, g3, g4, g5, g6⟩ := j_rdL_T (f := f) (b := b) (len := len) (p := p + 2) (wr := wr) hw hd hM (by omega) N (by omega) T2
  have e256 : (N : Int) = 256 := by omega
  rw [e256] at g6 g2 g4
  have eD : j_rdD f len p wr M = (p + 2 + 3 * j_with b 256, wr, M - b 256, sg, g) := by
    unfold j_rdD
    rw [r]
    exact g6
  rw [eD]
  refine ⟨by show p + 2 + 3 * j_with b 256 = _; omega, rfl, fun x x0 x1 => ?_⟩
  have := j_pre_sh (b := b) (g := g) hd.1 g3 x.toNat (fun s s0 s1 => g4 s s0 (by omega))
  rw [show ((x.toNat : Nat) : Int) = x by omega] at this
  exact this
theorem j_rdP_T {f : Int → Int} {B : Int → Int → Int} {len p wr M : Int} (hw : wr < 0) (hM0 : 1 ≤ M) (hM : M ≤ 4096) : ∀ n : Nat, (∀ q : Int, 0 ≤ q → q < n → j_dl (B q) 0 M) → p + (j_dsT B n).length ≤ len → j_atT f p (j_dsT B n) → (j_rdP f len p wr M n).1 = p + (j_dsT B n).length ∧ (j_rdP f len p wr M n).2.1 = wr ∧ ∀ q x : Int, 0 ≤ q → q < n → 0 ≤ x → x ≤ 256 → (j_rdP f len p wr M n).2.2 q x = B q x
  | 0, _, _, _ => ⟨by show p = p + ((0 : Nat) : Int); omega, rfl, fun q x q0 q1 => absurd q1 (by omega)⟩
  | n + 1, hB, hl, hT => by
    have hT : j_atT f p (j_dsT B n ++ j_dealT (B n)) := hT
    have hl : p + (j_dsT B n ++ j_dealT (B n)).length ≤ len := hl
    rw [j_atT_app] at hT
    rw [List.length_append] at hl
    obtain ⟨i1, i2, i3⟩ := j_rdP_T (f := f) (B := B) (len := len) (p := p) (wr := wr) (M := M) hw hM0 hM n (fun q q0 q1 => hB q q0 (by omega)) (by omega) hT.1
    obtain ⟨d1, d2, d3⟩ := j_rdD_T (f := f) (b := B n) (len := len) (p := p + (j_dsT B n).length) (wr := wr) hw (hB n (by omega) (by omega)) hM0 hM (by omega) hT.2
    have eL : ((j_dsT B (n + 1)).length : Int) = (j_dsT B n).length + (j_dealT (B n)).length := by
      show (((j_dsT B n ++ j_dealT (B n)).length : Nat) : Int) = _
      rw [List.length_append]; omega
    rw [j_rdP, if_neg (by rw [i2]; omega), i1, i2, eL]
    refine ⟨by rw [d1]; omega, d2, fun q x q0 q1 x0 x1 => ?_⟩
    show (if q = n then fun j => j_pre (j_rdD f len (p + (j_dsT B n).length) wr M).2.2.2.2 (j + 1) else (j_rdP f len p wr M n).2.2 q) x = _
    by_cases e : q = n
    · rw [if_pos e, e]; exact d3 x x0 x1
    · rw [if_neg e]; exact i3 q x q0 (by omega) x0 x1
theorem j_rdX_T {f X : Int → Int} {len p wr M : Int} (hw : wr < 0) (hM0 : 0 ≤ M) (hM : M ≤ 4096) : ∀ n : Nat, (∀ y : Int, 0 ≤ y → y < n → M ≤ X y ∧ X y < 256 * M) → p + 3 * n ≤ len → j_atT f p (j_stT X n) → (j_rdX f len M p wr n).2.1 = p + 3 * n ∧ (j_rdX f len M p wr n).2.2 = wr ∧ ∀ y : Int, 0 ≤ y → y < n → (j_rdX f len M p wr n).1 y = X y
  | 0, _, _, _ => ⟨by show p = p + 3 * ((0 : Nat) : Int); omega, rfl, fun y y0 y1 => absurd y1 (by omega)⟩
  | n + 1, hX, hl, hT => by
    have hT : j_atT f p (j_stT X n ++ j_num (X n) 3) := hT
    rw [j_atT_app, j_stT_len] at hT
    obtain ⟨i1, i2, i3⟩ := j_rdX_T (f := f) (X := X) (len := len) (p := p) (wr := wr) (M := M) hw hM0 hM n (fun y y0 y1 => hX y y0 (by omega)) (by omega) hT.1
    have xb := hX n (by omega) (by omega)
    have r := j_rd_3 (f := f) (len := len) (p := p + 3 * n) (wr := wr) (x := X n) (least := M) (most := 256 * M - 1) hw (by omega) hT.2 (by omega) (by omega) (by omega) (by omega)
    rw [j_rdX, i1, i2, r]
    refine ⟨by show p + 3 * n + 3 = _; omega, rfl, fun y y0 y1 => ?_⟩
    show j_u (j_rdX f len M p wr n).1 n (X n) y = _
    by_cases e : y = n
    · rw [e, j_u_at]
    · rw [j_u_ne e]; exact i3 y y0 (by omega)
/-- a whole block is read as it was printed -/
theorem j_reads {f : Int → Int} {len k r la n u : Int} {B : Int → Int → Int} {X g : Int → Int} (k0 : 0 ≤ k) (k1 : k ≤ 4) (r0 : 8 ≤ r) (r1 : r ≤ 12) (l0 : 1 ≤ la) (l1 : la ≤ 4) (n0 : 0 ≤ n) (n1 : n ≤ 400) (u0 : 0 ≤ u) (u1 : u ≤ 800) (hB : ∀ q : Int, 0 ≤ q → q < j_toldP k → j_dl (B q) 0 (j_M r)) (hX : ∀ y : Int, 0 ≤ y → y < la → j_M r ≤ X y ∧ X y < 256 * j_M r)
    (hlen : len = ((j_text k r la n B X u g).length : Int)) (hT : j_atT f 0 (j_text k r la n B X u g)) : j_h1 f len = (k, 1, -1) ∧ j_h2 f len = (r, 2, -1) ∧ j_h3 f len = (la, 3, -1) ∧ j_h4 f len = (n, 5, -1) ∧ (j_hP f len).1 = 5 + (j_dsT B (j_toldP k).toNat).length ∧ (j_hP f len).2.1 = -1 ∧ (∀ q x : Int, 0 ≤ q → q < j_toldP k → 0 ≤ x → x ≤ 256 → (j_hP f len).2.2 q x = B q x) ∧
      (∀ y : Int, 0 ≤ y → y < la → (j_hX f len).1 y = X y) ∧ j_hS f len = (u, 5 + (j_dsT B (j_toldP k).toNat).length + 3 * la + 2, -1) ∧ (j_hC f len).2 = -1 := by
  have hm := j_M_bd r0 r1
  have tb := j_toldP_bd k
  have hbody : ((j_body k r la n B X u g).length : Int) = 5 + (j_dsT B (j_toldP k).toNat).length + 3 * la + 2 + u := by
    unfold j_body
    have a := j_stT_len X la.toNat
    have b := j_byT_len g u.toNat
    simp only [List.length_append, j_num_len]
    omega
  have htext : len = 5 + (j_dsT B (j_toldP k).toNat).length + 3 * la + 2 + u + 2 := by
    rw [hlen]
    unfold j_text
    rw [List.length_append, j_num_len]
    omega
  unfold j_text at hT
  rw [j_atT_app, show (0 : Int) + ((j_body k r la n B X u g).length : Int) = 5 + (j_dsT B (j_toldP k).toNat).length + 3 * la + 2 + u by omega] at hT
  obtain ⟨hT, hC⟩ := hT
  have hsum := j_atT_sl _ _ (Int.le_refl 0) hT
  rw [show (0 : Int) + ((j_body k r la n B X u g).length : Int) = 5 + (j_dsT B (j_toldP k).toNat).length + 3 * la + 2 + u by omega] at hsum
  have hsum : j_sl (j_body k r la n B X u g) 0 + 0 = j_pre (fun i => (i + 1) * f i) (5 + (j_dsT B (j_toldP k).toNat).length + 3 * la + 2 + u) := hsum
  have eS : j_sl (j_body k r la n B X u g) 0 % 65521 = j_SUM f (5 + (j_dsT B (j_toldP k).toNat).length + 3 * la + 2 + u) := by
    unfold j_SUM
    rw [← hsum, show j_sl (j_body k r la n B X u g) 0 + 0 = j_sl (j_body k r la n B X u g) 0 by omega]
  rw [eS] at hC
  unfold j_body at hT
  simp only [j_atT_app, List.length_append, j_num_len] at hT
  obtain ⟨⟨⟨⟨⟨⟨⟨t1, t2⟩, t3⟩, t4⟩, t5⟩, t6⟩, t7⟩, t8⟩ := hT
  have sl := j_stT_len X la.toNat
  have hP0 : 0 ≤ ((j_dsT B (j_toldP k).toNat).length : Int) := (by omega)
  have lanat : ((la.toNat : Nat) : Int) = la := by omega
  have H1 : j_h1 f len = (k, 1, -1) := by unfold j_h1; exact j_rd_1 (by omega) (by omega) t1 (by omega) (by omega) (by omega) (by omega)
  have H2 : j_h2 f len = (r, 2, -1) := by
    unfold j_h2; rw [H1]
    exact j_rd_1 (by show (-1 : Int) < 0; decide) (by show (1 : Int) + 1 ≤ len; omega) t2 (by omega) (by omega) (by omega) (by omega)
  have H3 : j_h3 f len = (la, 3, -1) := by
    unfold j_h3; rw [H2]
    exact j_rd_1 (by show (-1 : Int) < 0; decide) (by show (2 : Int) + 1 ≤ len; omega) t3 (by omega) (by omega) (by omega) (by omega)
  have H4 : j_h4 f len = (n, 5, -1) := by
    unfold j_h4; rw [H3]
    exact j_rd_2 (by show (-1 : Int) < 0; decide) (by show (3 : Int) + 2 ≤ len; omega) t4 (by omega) (by omega) (by omega) (by omega)
  have HP : (j_hP f len).1 = 5 + (j_dsT B (j_toldP k).toNat).length ∧ (j_hP f len).2.1 = -1 ∧ ∀ q x : Int, 0 ≤ q → q < j_toldP k → 0 ≤ x → x ≤ 256 → (j_hP f len).2.2 q x = B q x := by
    unfold j_hP
    rw [H1, H2, H4]
    dsimp only
    by_cases td : j_isTold k
    · have tp : j_toldP k = j_parts k := by unfold j_toldP; rw [if_pos td]
      rw [if_pos td, ← tp]
      obtain ⟨a1, a2, a3⟩ := j_rdP_T (f := f) (B := B) (len := len) (p := 5) (wr := -1) (M := j_M r) (by omega) (by omega) (by omega) (j_toldP k).toNat (fun q q0 q1 => hB q q0 (by omega)) (by omega) t5
      exact ⟨a1, a2, fun q x q0 q1 x0 x1 => a3 q x q0 (by omega) x0 x1⟩
    · have tp : j_toldP k = 0 := by unfold j_toldP; rw [if_neg td]
      rw [if_neg td, tp]
      exact ⟨rfl, rfl, fun q x q0 q1 => absurd q1 (by omega)⟩
  obtain ⟨hp1, hp2, hp3⟩ := HP
  have HX := j_rdX_T (f := f) (X := X) (len := len) (p := 5 + (j_dsT B (j_toldP k).toNat).length) (wr := -1) (M := j_M r) (by omega) (by omega) (by omega) la.toNat (fun y y0 y1 => hX y y0 (by omega)) (by omega) (by
    have := t6
    rw [show (0 : Int) + (((1 + 1 + 1 + 2 + (j_dsT B (j_toldP k).toNat).length : Nat)) : Int) = 5 + (j_dsT B (j_toldP k).toNat).length by omega] at this
    exact this)
  have eX : j_hX f len = j_rdX f len (j_M r) (5 + (j_dsT B (j_toldP k).toNat).length) (-1) la.toNat := by unfold j_hX; rw [H2, H3, hp1, hp2]
  rw [← eX, lanat] at HX
  obtain ⟨hx1, hx2, hx3⟩ := HX
  have T7 : j_atT f (5 + (j_dsT B (j_toldP k).toNat).length + 3 * la) (j_num u 2) := by
    have := t7
    rw [show (0 : Int) + (((1 + 1 + 1 + 2 + (j_dsT B (j_toldP k).toNat).length + (j_stT X la.toNat).length : Nat)) : Int) = 5 + (j_dsT B (j_toldP k).toNat).length + 3 * la by omega] at this
    exact this
  have rS := j_rd_2 (f := f) (len := len) (p := 5 + (j_dsT B (j_toldP k).toNat).length + 3 * la) (wr := -1) (x := u) (least := 0) (most := 65535) (by omega) (by omega) T7 (by omega) (by omega) (by omega) (by omega)
  have HS : j_hS f len = (u, 5 + (j_dsT B (j_toldP k).toNat).length + 3 * la + 2, -1) := by
    unfold j_hS j_rdS
    rw [hx1, hx2, rS, if_neg (by intro z; exact z.2 (by show len - (5 + ((j_dsT B (j_toldP k).toNat).length : Int) + 3 * la + 2) = u + 2; omega))]
  refine ⟨H1, H2, H3, H4, hp1, hp2, hp3, hx3, HS, ?_⟩
  have sb : 0 ≤ j_SUM f (5 + (j_dsT B (j_toldP k).toNat).length + 3 * la + 2 + u) ∧ j_SUM f (5 + (j_dsT B (j_toldP k).toNat).length + 3 * la + 2 + u) < 65521 := by
    unfold j_SUM
    exact ⟨Int.emod_nonneg _ (by decide), Int.emod_lt_of_pos _ (by decide)⟩
  unfold j_hC j_rdC
  rw [HS, if_neg (by show ¬ (0 : Int) ≤ -1; decide)]
  have := j_rd_2 (f := f) (len := len) (p := 5 + (j_dsT B (j_toldP k).toNat).length + 3 * la + 2 + u) (wr := -1) (x := j_SUM f (5 + (j_dsT B (j_toldP k).toNat).length + 3 * la + 2 + u)) (least := j_SUM f (5 + (j_dsT B (j_toldP k).toNat).length + 3 * la + 2 + u)) (most := j_SUM f (5 + (j_dsT B (j_toldP k).toNat).length + 3 * la + 2 + u)) (by omega) (by omega) hC (by omega) (by omega) (by omega) (by omega)
  show (j_rd f len (5 + ((j_dsT B (j_toldP k).toNat).length : Int) + 3 * la + 2 + u) (-1) 2 _ _).2.2 = -1
  rw [this]
