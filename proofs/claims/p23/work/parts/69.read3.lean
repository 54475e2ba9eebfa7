/-! THE CLASS: the reader, deals -/
theorem j_rd_w {f : Int → Int} {len p wr size least most : Int} (hw : 0 ≤ (j_rd f len p wr size least most).2.2) : (j_rd f len p wr size least most).1 = least := by
  unfold j_rd at hw ⊢
  by_cases c1 : 0 ≤ wr
  · rw [if_pos c1]
  · rw [if_neg c1] at hw ⊢
    by_cases c2 : len - p < size
    · rw [if_pos c2]
    · rw [if_neg c2] at hw ⊢
      by_cases c3 : j_val f p size.toNat < least ∨ most < j_val f p size.toNat
      · rw [if_pos c3]
      · rw [if_neg c3] at hw
        change 0 ≤ wr at hw
        omega
def j_lst (w n rest : Int) : Int := if n = w - 1 then rest else 1
/-- one sign of a deal and its shares are read: place, wrong, rest, sign, what is noted -/
def j_rdL1 (f : Int → Int) (len w n : Int) (q : Int × Int × Int × Int × (Int → Int)) : Int × Int × Int × Int × (Int → Int) :=
  if 0 ≤ q.2.1 then q else
  if 0 ≤ (j_rd f len (j_rd f len q.1 q.2.1 1 (q.2.2.2.1 + 1) 255).2.1 (j_rd f len q.1 q.2.1 1 (q.2.2.2.1 + 1) 255).2.2 2 (j_lst w n q.2.2.1 - 1) (q.2.2.1 - 1)).2.2 then
    ((j_rd f len (j_rd f len q.1 q.2.1 1 (q.2.2.2.1 + 1) 255).2.1 (j_rd f len q.1 q.2.1 1 (q.2.2.2.1 + 1) 255).2.2 2 (j_lst w n q.2.2.1 - 1) (q.2.2.1 - 1)).2.1, (j_rd f len (j_rd f len q.1 q.2.1 1 (q.2.2.2.1 + 1) 255).2.1 (j_rd f len q.1 q.2.1 1 (q.2.2.2.1 + 1) 255).2.2 2 (j_lst w n q.2.2.1 - 1) (q.2.2.1 - 1)).2.2, q.2.2.1, (j_rd f len q.1 q.2.1 1 (q.2.2.2.1 + 1) 255).1, q.2.2.2.2)
  else ((j_rd f len (j_rd f len q.1 q.2.1 1 (q.2.2.2.1 + 1) 255).2.1 (j_rd f len q.1 q.2.1 1 (q.2.2.2.1 + 1) 255).2.2 2 (j_lst w n q.2.2.1 - 1) (q.2.2.1 - 1)).2.1, (j_rd f len (j_rd f len q.1 q.2.1 1 (q.2.2.2.1 + 1) 255).2.1 (j_rd f len q.1 q.2.1 1 (q.2.2.2.1 + 1) 255).2.2 2 (j_lst w n q.2.2.1 - 1) (q.2.2.1 - 1)).2.2, q.2.2.1 - (1 + (j_rd f len (j_rd f len q.1 q.2.1 1 (q.2.2.2.1 + 1) 255).2.1 (j_rd f len q.1 q.2.1 1 (q.2.2.2.1 + 1) 255).2.2 2 (j_lst w n q.2.2.1 - 1) (q.2.2.1 - 1)).1), (j_rd f len q.1 q.2.1 1 (q.2.2.2.1 + 1) 255).1, j_u q.2.2.2.2 ((j_rd f len q.1 q.2.1 1 (q.2.2.2.1 + 1) 255).1 + 1) (1 + (j_rd f len (j_rd f len q.1 q.2.1 1 (q.2.2.2.1 + 1) 255).2.1 (j_rd f len q.1 q.2.1 1 (q.2.2.2.1 + 1) 255).2.2 2 (j_lst w n q.2.2.1 - 1) (q.2.2.1 - 1)).1))
theorem j_rdL1_at {f : Int → Int} {len w n p wr rest sg s p1 w1 v p2 w2 : Int} {g : Int → Int} (hw : wr < 0) (h1 : (s, p1, w1) = j_rd f len p wr 1 (sg + 1) 255) (h2 : (v, p2, w2) = j_rd f len p1 w1 2 (j_lst w n rest - 1) (rest - 1)) :
    j_rdL1 f len w n (p, wr, rest, sg, g) = if 0 ≤ w2 then (p2, w2, rest, s, g) else (p2, w2, rest - (1 + v), s, j_u g (s + 1) (1 + v)) := by
  unfold j_rdL1
  dsimp only
  rw [if_neg (show ¬ 0 ≤ wr by omega), ← h1]
  dsimp only
  rw [← h2]
def j_rdL (f : Int → Int) (len w p wr M : Int) : Nat → Int × Int × Int × Int × (Int → Int)
  | 0 => (p, wr, M, -1, fun _ => 0)
  | n + 1 => j_rdL1 f len w n (j_rdL f len w p wr M n)
theorem j_rdL_stay {f : Int → Int} {len w p wr M : Int} {n : Nat} (h : 0 ≤ (j_rdL f len w p wr M n).2.1) : ∀ k : Nat, j_rdL f len w p wr M (n + k) = j_rdL f len w p wr M n
  | 0 => rfl
  | k + 1 => by
    have ih := j_rdL_stay h k
    show j_rdL1 f len w ((n + k : Nat) : Int) (j_rdL f len w p wr M (n + k)) = _
    rw [ih]
    unfold j_rdL1
    rw [if_pos h]
/-- how a reader stands while it reads a deal -/
def j_rdI (len : Int) (q : Int × Int × Int × Int × (Int → Int)) : Prop := (q.2.1 < 0 → 0 ≤ q.1 ∧ q.1 ≤ len ∧ q.2.2.2.1 ≤ 255) ∧ 0 ≤ q.2.2.1 ∧ q.2.2.1 ≤ 4096 ∧ -1 ≤ q.2.2.2.1 ∧ q.2.2.2.1 ≤ 256 ∧ ∀ j : Int, 0 ≤ q.2.2.2.2 j ∧ q.2.2.2.2 j ≤ 4096
/-- a sign's shares that are read right -/
theorem j_rd_sh {f : Int → Int} {len w n p1 w1 rest : Int} (hl : 0 ≤ len) (hf : ∀ i : Int, 0 ≤ i → i < len → 0 ≤ f i ∧ f i ≤ 255) (hp : w1 < 0 → 0 ≤ p1 ∧ p1 ≤ len) (hw : (j_rd f len p1 w1 2 (j_lst w n rest - 1) (rest - 1)).2.2 < 0) :
    0 ≤ (j_rd f len p1 w1 2 (j_lst w n rest - 1) (rest - 1)).1 ∧ (j_rd f len p1 w1 2 (j_lst w n rest - 1) (rest - 1)).1 ≤ rest - 1 ∧ w1 < 0 := by
  obtain ⟨q1, q2, q3, q4, q5⟩ := j_rd_ok hl hp hw
  have hp := hp q1
  have := (j_val_bd (f := f) (p := p1) (2 : Int).toNat (fun i i0 i1 => hf i (by omega) (by have : ((2 : Int).toNat : Int) = 2 := rfl; omega))).1
  rw [q3]
  exact ⟨this, q5, q1⟩
theorem j_rdL1_inv {f : Int → Int} {len w n : Int} {q : Int × Int × Int × Int × (Int → Int)} (hl : 0 ≤ len) (hf : ∀ i : Int, 0 ≤ i → i < len → 0 ≤ f i ∧ f i ≤ 255) (h : j_rdI len q) : j_rdI len (j_rdL1 f len w n q) := by
  obtain ⟨p, wr, rest, sg, g⟩ := q
  obtain ⟨h1, h2, h3, h4, h5, h6⟩ := h
  dsimp only at h1 h2 h3 h4 h5 h6
  by_cases c : 0 ≤ wr
  · unfold j_rdL1
    rw [if_pos c]
    exact ⟨h1, h2, h3, h4, h5, h6⟩
  · have h1 := h1 (by omega)
    have hp : wr < 0 → 0 ≤ p ∧ p ≤ len := fun _ => ⟨h1.1, h1.2.1⟩
    obtain ⟨s, p1, w1, e1⟩ : ∃ s p1 w1, (s, p1, w1) = j_rd f len p wr 1 (sg + 1) 255 := ⟨_, _, _, rfl⟩
    have pl1 := j_rd_pl (f := f) (len := len) (p := p) (wr := wr) (size := 1) (least := sg + 1) (most := 255) (by omega) hl hp
    have bs : -1 ≤ s ∧ s ≤ 256 ∧ (w1 < 0 → s ≤ 255) := by
      by_cases cw : w1 < 0
      · obtain ⟨q1, q2, q3, q4, q5⟩ := j_rd_ok (f := f) (len := len) (p := p) (wr := wr) (size := 1) (least := sg + 1) (most := 255) hl hp (by rw [← e1]; exact cw)
        rw [q3] at e1
        have : s = j_val f p (1 : Int).toNat := congrArg Prod.fst e1
        omega
      · have : (j_rd f len p wr 1 (sg + 1) 255).1 = sg + 1 := j_rd_w (by rw [← e1]; show 0 ≤ w1; omega)
        rw [← e1] at this
        change s = sg + 1 at this
        omega
    rw [← e1] at pl1
    dsimp only at pl1
    obtain ⟨v, p2, w2, e2⟩ : ∃ v p2 w2, (v, p2, w2) = j_rd f len p1 w1 2 (j_lst w n rest - 1) (rest - 1) := ⟨_, _, _, rfl⟩
    rw [j_rdL1_at (by omega) e1 e2]
    have pl2 := j_rd_pl (f := f) (len := len) (p := p1) (wr := w1) (size := 2) (least := j_lst w n rest - 1) (most := rest - 1) (by omega) hl pl1
    rw [← e2] at pl2
    dsimp only at pl2
    by_cases cw : 0 ≤ w2
    · rw [if_pos cw]
      exact ⟨fun z => absurd z (by show ¬ w2 < 0; omega), h2, h3, bs.1, bs.2.1, h6⟩
    · rw [if_neg cw]
      have sh := j_rd_sh (w := w) (n := n) (rest := rest) hl hf pl1 (by rw [← e2]; show w2 < 0; omega)
      rw [← e2] at sh
      dsimp only at sh
      have pl2 := pl2 (by omega)
      refine ⟨fun _ => ⟨pl2.1, pl2.2, bs.2.2 sh.2.2⟩, by show 0 ≤ rest - (1 + v); omega, by show rest - (1 + v) ≤ 4096; omega, bs.1, bs.2.1, fun j => ?_⟩
      show 0 ≤ j_u g (s + 1) (1 + v) j ∧ j_u g (s + 1) (1 + v) j ≤ 4096
      unfold j_u
      split
      · omega
      · exact h6 j
theorem j_rdL_inv {f : Int → Int} {len w p wr M : Int} (hl : 0 ≤ len) (hf : ∀ i : Int, 0 ≤ i → i < len → 0 ≤ f i ∧ f i ≤ 255) (hp : wr < 0 → 0 ≤ p ∧ p ≤ len) (hM0 : 0 ≤ M) (hM : M ≤ 4096) : ∀ n : Nat, j_rdI len (j_rdL f len w p wr M n)
  | 0 => ⟨fun z => ⟨(hp z).1, (hp z).2, by show (-1 : Int) ≤ 255; omega⟩, hM0, hM, by show (-1 : Int) ≤ -1; omega, by show (-1 : Int) ≤ 256; omega, fun j => by show (0 : Int) ≤ 0 ∧ (0 : Int) ≤ 4096; omega⟩
  | n + 1 => j_rdL1_inv hl hf (j_rdL_inv hl hf hp hM0 hM n)
/-- a deal is read -/
def j_rdD (f : Int → Int) (len p wr M : Int) : Int × Int × Int × Int × (Int → Int) :=
  j_rdL f len (j_rd f len p wr 2 1 256).1 (j_rd f len p wr 2 1 256).2.1 (j_rd f len p wr 2 1 256).2.2 M (j_rd f len p wr 2 1 256).1.toNat
theorem m7_5 (l : Launch) : M7_5 l 0 0 (fun a b d M S V => j_L S ∧ S.1 b = 22 ∧ S.1 d = 23 ∧ j_blkOK V b ∧ 256 ≤ M ∧ M ≤ 4096 ∧ (V a 1 < 0 → 0 ≤ V a 0 ∧ V a 0 ≤ V b 1) ∧ ∀ j : Int, 0 ≤ j → j ≤ 256 → V (d + 1) j = 0)
    (fun a b d M S V S' V' => S' = S ∧ V' a 0 = (j_rdD (V (b + 1)) (V b 1) (V a 0) (V a 1) M).1 ∧ V' a 1 = (j_rdD (V (b + 1)) (V b 1) (V a 0) (V a 1) M).2.1 ∧ (∀ j : Int, 0 ≤ j → j ≤ 256 → V' (d + 1) j = j_pre (j_rdD (V (b + 1)) (V b 1) (V a 0) (V a 1) M).2.2.2.2 (j + 1)) ∧ ∀ c : Int, c ≠ a → c ≠ d + 1 → V' c = V c) := by
  refine e7_5 ?_
  rintro C G h hrm hcs hl hn a b d M S V ha ⟨L, hb, hd, hk, M0, M1, hp, hz⟩ R
  have kd : S.1 (d + 1) = 2 := L2_0k L hd
  have nb : b ≠ a ∧ b ≠ d + 1 := ⟨fun z => by rw [z, ha] at hb; exact absurd hb (by decide), fun z => by rw [z, kd] at hb; exact absurd hb (by decide)⟩
  have nb1 : b + 1 ≠ a ∧ b + 1 ≠ d + 1 := ⟨fun z => by have := L1_0k L hb; rw [z, ha] at this; exact absurd this (by decide), fun z => by have := L1_0k L hb; rw [z, kd] at this; exact absurd this (by decide)⟩
  have na : a ≠ d + 1 := fun z => by rw [← z, ha] at kd; exact absurd kd (by decide)
  refine t7_5_0 h hrm ha (m7_3 C.2.1) ⟨L, hb, hk, by omega, by omega, hp⟩ (Nat.zero_le _) (Nat.zero_le _) ?_
  rintro w S1 V1 ⟨e0, x1, x2⟩
  subst e0
  have pl := j_rd_pl (f := V (b + 1)) (len := V b 1) (p := V a 0) (wr := V a 1) (size := 2) (least := 1) (most := 256) (by omega) hk.1 hp
  have hw : 1 ≤ w ∧ w ≤ 256 := by
    by_cases c : V1 a 1 < 0
    · obtain ⟨q1, q2, q3, q4, q5⟩ := j_rd_ok (f := V (b + 1)) (len := V b 1) (p := V a 0) (wr := V a 1) (size := 2) (least := 1) (most := 256) hk.1 hp (by rw [← x1]; exact c)
      rw [q3] at x1
      have : w = j_val (V (b + 1)) (V a 0) (2 : Int).toNat := congrArg Prod.fst x1
      omega
    · have : (j_rd (V (b + 1)) (V b 1) (V a 0) (V a 1) 2 1 256).1 = 1 := j_rd_w (by rw [← x1]; show 0 ≤ V1 a 1; omega)
      rw [← x1] at this
      change w = 1 at this
      omega
  have eD : j_rdD (V (b + 1)) (V b 1) (V a 0) (V a 1) M = j_rdL (V (b + 1)) (V b 1) w (V1 a 0) (V1 a 1) M w.toNat := by
    unfold j_rdD; rw [← x1]
  rw [eD] at R
  rw [← x1] at pl
  dsimp only at pl
  have inv := j_rdL_inv (f := V (b + 1)) (len := V b 1) (w := w) (p := V1 a 0) (wr := V1 a 1) (M := M) hk.1 hk.2.2 pl (by omega) M1
  -- the end: what is noted is summed up
  have fin : ∀ (q : Int × Int × Int × Int × (Int → Int)) (V2 : jH), q = j_rdL (V (b + 1)) (V b 1) w (V1 a 0) (V1 a 1) M w.toNat → V2 a 0 = q.1 → V2 a 1 = q.2.1 → (∀ j : Int, 0 ≤ j → j ≤ 256 → V2 (d + 1) j = q.2.2.2.2 j) → (∀ c : Int, c ≠ a → c ≠ d + 1 → V2 c = V c) → j_ok n_KT 10 C G 113 [(2, (2, d))] [] S1 V2 0 0 := by
    intro q V2 eq g1 g2 g3 g4
    have iq : j_rdI (V b 1) q := by rw [eq]; exact inv _
    rw [← eq] at R
    refine t7_5_113 h hrm hd (m4_11 C.2.1) ⟨L, fun j j0 j1 => by rw [g3 j j0 j1]; exact iq.2.2.2.2.2 j⟩ (Nat.zero_le _) (Nat.zero_le _) ?_
    rintro S2 V3 ⟨e0, e3⟩
    subst e0
    refine t7_5_117 h R ⟨rfl, ?_, ?_, fun j j0 j1 => ?_, fun c c0 c1 => ?_⟩ (Nat.le_refl _) (Nat.le_refl _)
    · rw [e3]; unfold j_sumUp; rw [j_row_ne na]; exact g1
    · rw [e3]; unfold j_sumUp; rw [j_row_ne na]; exact g2
    · rw [e3]; unfold j_sumUp; rw [j_row_at, if_pos ⟨j0, j1⟩]
      exact j_pre_congr (fun k k0 k1 => g3 k k0 (by omega))
    · rw [e3]; unfold j_sumUp; rw [j_row_ne c1]; exact g4 c c0 c1
  refine t7_5_10 h ?_
  have loop : ∀ (i : Int) (z : (Int × Int × Int × Int × (Int → Int)) × jH), (0 ≤ i ∧ i ≤ w ∧ z.1 = j_rdL (V (b + 1)) (V b 1) w (V1 a 0) (V1 a 1) M i.toNat ∧ z.2 a 0 = z.1.1 ∧ z.2 a 1 = z.1.2.1 ∧ (∀ j : Int, 0 ≤ j → j ≤ 256 → z.2 (d + 1) j = z.1.2.2.2.2 j) ∧ ∀ c : Int, c ≠ a → c ≠ d + 1 → z.2 c = V c) →
      j_ok n_KT 10 C G 21 [(0, (2, a)), (1, (2, b)), (2, (2, d)), (4, (0, w)), (5, (0, z.1.2.2.1)), (6, (0, z.1.2.2.2.1)), (7, (0, i))] [] S1 z.2 0 0 := by
    refine j_loop (N := w) (fun i z hi hI kk => ?_) (fun i z hi hI => ?_)
    · obtain ⟨q, V2⟩ := z
      obtain ⟨g0, g1, g2, g3, g4, g5, g6⟩ := hI
      dsimp only at g2 g3 g4 g5 g6 ⊢
      have iq : j_rdI (V b 1) q := by rw [g2]; exact inv _
      obtain ⟨p, wr, rest, sg, g⟩ := q
      obtain ⟨i1, i2, i3, i4, i5, i6⟩ := iq
      dsimp only at g3 g4 g5 i1 i2 i3 i4 i5 i6 ⊢
      have eb : V2 b = V b := g6 b nb.1 nb.2
      have eb1 : V2 (b + 1) = V (b + 1) := g6 _ nb1.1 nb1.2
      refine t7_5_21 h (fun q => absurd q (by omega)) (fun _ => ?_)
      refine t7_5_28 h ha (fun q => ?_) (fun q => ?_)
      · refine fin (p, wr, rest, sg, g) V2 ?_ g3 g4 g5 g6
        rw [g2, show w.toNat = i.toNat + (w.toNat - i.toNat) by omega]
        refine (j_rdL_stay ?_ _).symm
        rw [← g2]
        show 0 ≤ wr
        omega
      · have i1 := i1 (by omega)
        refine t7_5_35 h hrm (by omega) ha (m7_3 C.2.1) ⟨L, hb, ⟨by rw [eb]; exact hk.1, by rw [eb]; exact hk.2.1, by rw [eb, eb1]; exact hk.2.2⟩, by omega, by omega, fun _ => by rw [eb, g3]; exact ⟨i1.1, i1.2.1⟩⟩ (Nat.zero_le _) (Nat.zero_le _) ?_
        rintro s S2 V3 ⟨e0, y1, y2⟩
        subst e0
        rw [eb, eb1, g3, g4] at y1
        have pl1 := j_rd_pl (f := V (b + 1)) (len := V b 1) (p := p) (wr := wr) (size := 1) (least := sg + 1) (most := 255) (by omega) hk.1 (fun _ => ⟨i1.1, i1.2.1⟩)
        rw [← y1] at pl1
        dsimp only at pl1
        have eb' : V3 b = V b := (y2 b nb.1).trans eb
        have eb1' : V3 (b + 1) = V (b + 1) := (y2 _ nb1.1).trans eb1
        have go : j_ok n_KT 10 C G 65 [(0, (2, a)), (1, (2, b)), (2, (2, d)), (4, (0, w)), (5, (0, rest)), (6, (0, s)), (7, (0, i))] [(0, j_lst w i rest)] S2 V3 0 0 := by
          have bl : 0 ≤ j_lst w i rest ∧ j_lst w i rest ≤ 4096 := by unfold j_lst; split <;> omega
          refine t7_5_65 h hrm (by omega) (by omega) ha (m7_3 C.2.1) ⟨L, hb, ⟨by rw [eb']; exact hk.1, by rw [eb']; exact hk.2.1, by rw [eb', eb1']; exact hk.2.2⟩, by omega, by omega, fun q => by rw [eb']; exact pl1 q⟩ (Nat.zero_le _) (Nat.zero_le _) ?_
          rintro v S3 V4 ⟨e0, z1, z2⟩
          subst e0
          rw [eb', eb1'] at z1
          have eL : j_rdL (V (b + 1)) (V b 1) w (V1 a 0) (V1 a 1) M (i + 1).toNat = if 0 ≤ V4 a 1 then (V4 a 0, V4 a 1, rest, s, g) else (V4 a 0, V4 a 1, rest - (1 + v), s, j_u g (s + 1) (1 + v)) := by
            rw [show (i + 1).toNat = i.toNat + 1 by omega, j_rdL, ← g2, show ((i.toNat : Nat) : Int) = i by omega]
            exact j_rdL1_at (by omega) y1 z1
          have fr : ∀ c : Int, c ≠ a → V4 c = V2 c := fun c c0 => (z2 c c0).trans (y2 c c0)
          have bv : -1 ≤ v ∧ v ≤ 65535 := by
            by_cases c : V4 a 1 < 0
            · have sh := j_rd_sh (w := w) (n := i) (rest := rest) hk.1 hk.2.2 pl1 (by rw [← z1]; exact c)
              rw [← z1] at sh
              dsimp only at sh
              omega
            · have : (j_rd (V (b + 1)) (V b 1) (V3 a 0) (V3 a 1) 2 (j_lst w i rest - 1) (rest - 1)).1 = j_lst w i rest - 1 := j_rd_w (by rw [← z1]; show 0 ≤ V4 a 1; omega)
              rw [← z1] at this
              change v = j_lst w i rest - 1 at this
              omega
          refine t7_5_82 h (by omega) ha (fun q2 => ?_) (fun q2 => ?_)
          · rw [if_pos q2] at eL
            exact t7_5_107 h (by omega) (kk ((V4 a 0, V4 a 1, rest, s, g), V4) ⟨by omega, by omega, eL.symm, rfl, rfl, fun j j0 j1 => by show V4 (d + 1) j = g j; rw [fr _ (fun z => na z.symm)]; exact g5 j j0 j1, fun c c0 c1 => by show V4 c = V c; rw [fr c c0]; exact g6 c c0 c1⟩)
          · rw [if_neg (by omega)] at eL
            have sh := j_rd_sh (w := w) (n := i) (rest := rest) hk.1 hk.2.2 pl1 (by rw [← z1]; exact q2)
            rw [← z1] at sh
            dsimp only at sh
            obtain ⟨q1, q2', q3, q4, q5⟩ := j_rd_ok (f := V (b + 1)) (len := V b 1) (p := p) (wr := wr) (size := 1) (least := sg + 1) (most := 255) hk.1 (fun _ => ⟨i1.1, i1.2.1⟩) (by rw [← y1]; exact sh.2.2)
            rw [q3] at y1
            have es : s = j_val (V (b + 1)) p (1 : Int).toNat := congrArg Prod.fst y1
            refine t7_5_92 h hrm hd (m4_10 C.2.1) ⟨L, by omega, by omega⟩ (Nat.zero_le _) (Nat.zero_le _) ?_
            rintro S4 V5 ⟨e0, e5⟩
            subst e0
            refine t7_5_100 h (by omega) (t7_5_107 h (by omega) (kk ((V4 a 0, V4 a 1, rest - (1 + v), s, j_u g (s + 1) (1 + v)), V5) ⟨by omega, by omega, eL.symm, ?_, ?_, fun j j0 j1 => ?_, fun c c0 c1 => ?_⟩))
            · show V5 a 0 = V4 a 0
              rw [e5, j_up_ne na]
            · show V5 a 1 = V4 a 1
              rw [e5, j_up_ne na]
            · show V5 (d + 1) j = j_u g (s + 1) (1 + v) j
              rw [e5]
              by_cases w : j = s + 1
              · rw [w, j_up_at, j_u_at]
              · rw [j_up_off w, j_u_ne w, fr _ (fun z => na z.symm)]
                exact g5 j j0 j1
            · show V5 c = V c
              rw [e5, j_up_ne c1, fr c c0]
              exact g6 c c0 c1
        refine t7_5_48 h (by omega) (fun q2 => ?_) (fun q2 => ?_)
        · refine t7_5_64 h ?_
          have : j_lst w i rest = 1 := by unfold j_lst; rw [if_neg q2]
          rw [this] at go
          exact go
        · refine t7_5_59 h ?_
          have : j_lst w i rest = rest := by unfold j_lst; rw [if_pos q2]
          rw [this] at go
          exact go
    · obtain ⟨q, V2⟩ := z
      obtain ⟨g0, g1, g2, g3, g4, g5, g6⟩ := hI
      have ei : i = w := by omega
      rw [ei] at g2
      exact t7_5_21 h (fun _ => fin q V2 g2 g3 g4 g5 g6) (fun q => absurd q (by omega))
  exact loop 0 ((V1 a 0, V1 a 1, M, -1, fun _ => 0), V1) ⟨by omega, by omega, rfl, rfl, rfl, fun j j0 j1 => by show V1 (d + 1) j = 0; rw [x2 _ (fun z => na z.symm)]; exact hz j j0 j1, fun c c0 c1 => x2 c c0⟩
