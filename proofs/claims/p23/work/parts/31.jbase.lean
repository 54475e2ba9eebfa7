/-! THE PLAIN MACHINE. Cells have names (numbers from 0 on); a value is (tag, number): 0 an int, 1 a long, 2 a reference: a name, or -1 (null), above 2 the address of a cell that has no name. S: the kind of each name (0: there is none), and what the references of each cell are; V: the numbers of each cell -/
abbrev jV : Type := Nat × Int
abbrev jS : Type := (Int → Nat) × (Int → Int → Int)
abbrev jH : Type := Int → Int → Int
/-- classes and slots, array types; the heap at the start, where the names were then, their kinds -/
abbrev jG : Type := va_G × List (ClassId × FieldType) × Heap × (Int → Nat) × jS
/-- which addresses may be written -/
def j_A (G : jG) (q : Nat) : Prop := (∃ b : Int, G.2.2.2.2.1 b ≠ 0 ∧ G.2.2.2.1 b = q) ∨ G.2.2.1.size ≤ q
def j_v (ad : Int → Nat) (S : jS) (x : jV) (v : Value) : Prop := match x.1 with
  | 0 => ∃ y : Int32, v = .int y ∧ y.toInt = x.2
  | 1 => ∃ y : Int64, v = .long y ∧ y.toInt = x.2
  | 2 => (v = .null ∧ x.2 = -1) ∨ (v = .ref (ad x.2) ∧ 0 ≤ x.2 ∧ S.1 x.2 ≠ 0)
  | _ => v = .ref x.2.toNat
def j_ft (ad : Int → Nat) (S : jS) (t : qFT) (x : Int) (v : Value) : Prop := match t.1 with
  | 0 => ∃ y : Int32, v = .int y ∧ y.toInt = x ∧ t.2.2.1 ≤ x ∧ x ≤ t.2.2.2
  | 1 => ∃ y : Int64, v = .long y ∧ y.toInt = x
  | _ => (v = .null ∧ x = -1) ∨ (v = .ref (ad x) ∧ 0 ≤ x ∧ S.1 x = t.2.1 ∧ t.2.1 ≠ 0)
def j_sel (S : jS) (V : jH) (t : qFT) (a j : Int) : Int := match t.1 with
  | 0 => V a j
  | 1 => V a j
  | _ => S.2 a j
def j_cell (D : va_G) (tys : List (ClassId × FieldType)) (ad : Int → Nat) (S : jS) (V : jH) (a : Int) (d : qKD) (cell : Cell) : Prop := match d.1 with
  | 0 => cell.vm = .none ∧ cell.cls = D.1 d.2.1 ∧ ∀ (j : Nat) (ft : qFT), d.2.2.2[j]? = some ft → ∃ v : Value, cell.slots[D.2 d.2.1 j]? = some v ∧ j_ft ad S ft (j_sel S V ft a (j : Int)) v
  | g + 1 => ∃ (cA : ClassId) (ty : FieldType) (z : Nat → Value), tys[d.2.1]? = some (cA, ty) ∧ q_aty (g + 1) ty ∧ cell = arrV cA d.2.2.1 z ∧ ∀ j : Nat, j < d.2.2.1 → ∀ ft ∈ d.2.2.2, j_ft ad S ft (j_sel S V ft a (j : Int)) (z j)
def j_hp (KT : List qKD) (D : va_G) (tys : List (ClassId × FieldType)) (ad : Int → Nat) (S : jS) (V : jH) (H : Heap) : Prop :=
  (∀ a : Int, S.1 a ≠ 0 → 0 ≤ a ∧ ∃ (d : qKD) (cell : Cell), KT[S.1 a]? = some d ∧ H[ad a]? = some cell ∧ j_cell D tys ad S V a d cell) ∧ ∀ a b : Int, S.1 a ≠ 0 → S.1 b ≠ 0 → ad a = ad b → a = b
def j_stk (ad : Int → Nat) (S : jS) : List jV → List Value → Prop
  | [], [] => True
  | x :: xs, v :: vs => j_v ad S x v ∧ j_stk ad S xs vs
  | _, _ => False
def j_lvs (ad : Int → Nat) (S : jS) : List (Nat × jV) → List (Nat × Value) → Prop
  | [], [] => True
  | x :: xs, v :: vs => (x.1 = v.1 ∧ j_v ad S x.2 v.2) ∧ j_lvs ad S xs vs
  | _, _ => False
/-- names that were there are there still, at the same places -/
def j_le (ad ad' : Int → Nat) (S S' : jS) : Prop := ∀ a : Int, S.1 a ≠ 0 → ad' a = ad a ∧ S'.1 a = S.1 a
def j_fr (G : jG) (ad : Int → Nat) (S : jS) (H : Heap) (locs : List Loc) : Prop := va_S (j_A G) G.2.2.1 H locs ∧ j_le G.2.2.2.1 ad G.2.2.2.2 S ∧ ∀ b : Int, S.1 b ≠ 0 → G.2.2.2.2.1 b ≠ 0 ∨ G.2.2.1.size ≤ ad b
theorem j_fr.A {G : jG} {ad : Int → Nat} {S : jS} {H : Heap} {locs : List Loc} (h : j_fr G ad S H locs) {a : Int} (ha : S.1 a ≠ 0) : j_A G (ad a) := by
  rcases h.2.2 a ha with q | q
  · exact Or.inl ⟨a, q, ((h.2.1 a q).1).symm⟩
  · exact Or.inr q
def j_lo (nL : Nat) (ad : Int → Nat) (S : jS) (lo : List (Nat × jV)) (ls : Array Slot) : Prop := ∃ lv : List (Nat × Value), lv_has ls nL lv ∧ j_lvs ad S lo lv
/-- from every state that is as told, the machine comes to its end -/
def j_ok (KT : List qKD) (nL : Nat) (C : qCx) (G : jG) (pc : Nat) (lo : List (Nat × jV)) (sk : List jV) (S : jS) (V : jH) (nc ns : Nat) : Prop :=
  ∀ (ad : Int → Nat) (ls : Array Slot) (vs : List Value) (H : Heap) (locs : List Loc), j_hp KT G.1 G.2.1 ad S V H → j_lo nL ad S lo ls → j_stk ad S sk vs → j_fr G ad S H locs → q_W C H locs nc ns pc ls vs
abbrev j_E (C : qCx) (cc : ByteArray) (G : jG) : Prop := q_mc C cc ∧ q_AT (q_s C) G.2.1
def j_cat (x : jV) : Nat := match x.1 with
  | 1 => 2
  | _ => 1
theorem j_v.cat {ad : Int → Nat} {S : jS} {x : jV} {v : Value} (h : j_v ad S x v) : v.category = j_cat x := by
  obtain ⟨g, n⟩ := x
  match g, h with
  | 0, h => obtain ⟨y, rfl, -⟩ := h; rfl
  | 1, h => obtain ⟨y, rfl, -⟩ := h; rfl
  | 2, h =>
    rcases h with ⟨rfl, -⟩ | ⟨rfl, -⟩
    · rfl
    · rfl
  | g + 3, h =>
    have h : v = .ref n.toNat := h
    subst h
    rfl
theorem j_stk.cons {ad : Int → Nat} {S : jS} {x : jV} {xs : List jV} {vs : List Value} (h : j_stk ad S (x :: xs) vs) : ∃ (v : Value) (ws : List Value), vs = v :: ws ∧ j_v ad S x v ∧ j_stk ad S xs ws := by
  cases vs with
  | nil => cases h
  | cons v ws => exact ⟨v, ws, rfl, h.1, h.2⟩
theorem j_stk.nil {ad : Int → Nat} {S : jS} {vs : List Value} (h : j_stk ad S [] vs) : vs = [] := by
  cases vs with
  | nil => rfl
  | cons v ws => cases h
theorem j_stk.imp {ad ad' : Int → Nat} {S S' : jS} : ∀ {xs : List jV} {vs : List Value}, (∀ x v, j_v ad S x v → j_v ad' S' x v) → j_stk ad S xs vs → j_stk ad' S' xs vs
  | [], [], _, _ => trivial
  | x :: xs, v :: vs, hi, h => ⟨hi x v h.1, j_stk.imp hi h.2⟩
theorem j_lvs.imp {ad ad' : Int → Nat} {S S' : jS} : ∀ {xs : List (Nat × jV)} {vs : List (Nat × Value)}, (∀ x v, j_v ad S x v → j_v ad' S' x v) → j_lvs ad S xs vs → j_lvs ad' S' xs vs
  | [], [], _, _ => trivial
  | x :: xs, v :: vs, hi, h => ⟨⟨h.1.1, hi x.2 v.2 h.1.2⟩, j_lvs.imp hi h.2⟩
theorem j_lvs.mem {ad : Int → Nat} {S : jS} : ∀ {xs : List (Nat × jV)} {vs : List (Nat × Value)}, j_lvs ad S xs vs → ∀ {i : Nat} {x : jV}, (i, x) ∈ xs → ∃ v, (i, v) ∈ vs ∧ j_v ad S x v
  | [], [], _, i, x, hm => by cases hm
  | y :: ys, w :: ws, h, i, x, hm => by
    rcases List.mem_cons.mp hm with rfl | hm
    · obtain ⟨⟨h1, h2⟩, -⟩ := h
      refine ⟨w.2, ?_, h2⟩
      rw [show i = w.1 from h1]
      exact List.mem_cons_self
    · obtain ⟨v, h1, h2⟩ := j_lvs.mem h.2 hm
      exact ⟨v, List.mem_cons_of_mem _ h1, h2⟩
theorem j_lvs.of {ad : Int → Nat} {S : jS} {vs : List (Nat × Value)} : ∀ {xs : List (Nat × jV)}, (∀ i x, (i, x) ∈ xs → ∃ v, (i, v) ∈ vs ∧ j_v ad S x v) → ∃ ws, (∀ q ∈ ws, q ∈ vs) ∧ j_lvs ad S xs ws
  | [], _ => ⟨[], (fun q hq => by cases hq), trivial⟩
  | (i, x) :: xs, h => by
    obtain ⟨v, h1, h2⟩ := h i x List.mem_cons_self
    obtain ⟨ws, h3, h4⟩ := j_lvs.of (xs := xs) (fun j y hy => h j y (List.mem_cons_of_mem _ hy))
    exact ⟨(i, v) :: ws, (fun q hq => by
      rcases List.mem_cons.mp hq with rfl | hq
      · exact h1
      · exact h3 q hq), ⟨rfl, h2⟩, h4⟩
theorem j_lo.imp {nL : Nat} {ad ad' : Int → Nat} {S S' : jS} {lo : List (Nat × jV)} {ls : Array Slot} (hi : ∀ x v, j_v ad S x v → j_v ad' S' x v) (h : j_lo nL ad S lo ls) : j_lo nL ad' S' lo ls := by
  obtain ⟨lv, h1, h2⟩ := h
  exact ⟨lv, h1, h2.imp hi⟩
theorem j_lo.get {nL : Nat} {ad : Int → Nat} {S : jS} {lo : List (Nat × jV)} {ls : Array Slot} (h : j_lo nL ad S lo ls) {i : Nat} {x : jV} (hm : (i, x) ∈ lo) : ∃ v, ls[i]? = some (.val v) ∧ j_v ad S x v := by
  obtain ⟨lv, h1, h2⟩ := h
  obtain ⟨v, h3, h4⟩ := h2.mem hm
  exact ⟨v, h1.2.2 _ h3, h4⟩
theorem j_lo.sub {nL : Nat} {ad : Int → Nat} {S : jS} {lo lo' : List (Nat × jV)} {ls : Array Slot} (h : j_lo nL ad S lo ls) (hs : ∀ q ∈ lo', q ∈ lo) : j_lo nL ad S lo' ls := by
  obtain ⟨lv, h1, h2⟩ := h
  obtain ⟨ws, h3, h4⟩ := j_lvs.of (xs := lo') (fun i x hx => h2.mem (hs _ hx))
  exact ⟨ws, ⟨h1.1, h1.2.1, fun q hq => h1.2.2 q (h3 q hq)⟩, h4⟩
/-- what a store leaves of the locals -/
def j_lof1 (i : Nat) (q : Nat × jV) : Bool := !(q.1 == i) && !(q.1 + 1 == i && j_cat q.2 == 2)
def j_lof2 (i : Nat) (q : Nat × jV) : Bool := !(q.1 == i) && (!(q.1 == i + 1) && !(q.1 + 1 == i && j_cat q.2 == 2))
theorem j_lvs.filter {ad : Int → Nat} {S : jS} {f : Nat × jV → Bool} {g : Nat × Value → Bool} (hfg : ∀ x v, x.1 = v.1 → j_v ad S x.2 v.2 → f x = g v) : ∀ {xs : List (Nat × jV)} {vs : List (Nat × Value)}, j_lvs ad S xs vs → j_lvs ad S (xs.filter f) (vs.filter g)
  | [], [], _ => trivial
  | x :: xs, v :: vs, h => by
    obtain ⟨⟨h1, h2⟩, h3⟩ := h
    have hh := hfg x v h1 h2
    have ih := j_lvs.filter hfg h3
    cases hb : f x with
    | true => rw [List.filter_cons_of_pos (by rw [hb]), List.filter_cons_of_pos (by rw [← hh, hb])]; exact ⟨⟨h1, h2⟩, ih⟩
    | false => rw [List.filter_cons_of_neg (by rw [hb]; decide), List.filter_cons_of_neg (by rw [← hh, hb]; decide)]; exact ih
theorem j_lvs.f1 {ad : Int → Nat} {S : jS} {xs : List (Nat × jV)} {vs : List (Nat × Value)} (i : Nat) (h : j_lvs ad S xs vs) : j_lvs ad S (xs.filter (j_lof1 i)) (vs.filter (fun q => !(q.1 == i) && !(q.1 + 1 == i && q.2.category == 2))) :=
  h.filter (fun x v h1 h2 => by unfold j_lof1; rw [h1, h2.cat])
theorem j_lvs.f2 {ad : Int → Nat} {S : jS} {xs : List (Nat × jV)} {vs : List (Nat × Value)} (i : Nat) (h : j_lvs ad S xs vs) : j_lvs ad S (xs.filter (j_lof2 i)) (vs.filter (fun q => !(q.1 == i) && (!(q.1 == i + 1) && !(q.1 + 1 == i && q.2.category == 2)))) :=
  h.filter (fun x v h1 h2 => by unfold j_lof2; rw [h1, h2.cat])
def j_up (V : jH) (a i x : Int) : jH := fun b j => if b = a ∧ j = i then x else V b j
theorem j_up_ne {V : jH} {a i x b : Int} (h : b ≠ a) : j_up V a i x b = V b := by
  funext j
  simp [j_up, h]
theorem j_up_at (V : jH) (a i x : Int) : j_up V a i x a i = x := by simp [j_up]
theorem j_up_off {V : jH} {a i x j : Int} (h : j ≠ i) : j_up V a i x a j = V a j := by simp [j_up, h]
theorem j_le.rf {ad : Int → Nat} {S : jS} : j_le ad ad S S := fun _ _ => ⟨rfl, rfl⟩
theorem j_le.tr {ad ad' ad'' : Int → Nat} {S S' S'' : jS} (h : j_le ad ad' S S') (h' : j_le ad' ad'' S' S'') : j_le ad ad'' S S'' := fun a ha => by
  obtain ⟨e1, e2⟩ := h a ha
  obtain ⟨e3, e4⟩ := h' a (by rw [e2]; exact ha)
  exact ⟨e3.trans e1, e4.trans e2⟩
theorem j_v.mono {ad ad' : Int → Nat} {S S' : jS} (hl : j_le ad ad' S S') {x : jV} {v : Value} (h : j_v ad S x v) : j_v ad' S' x v := by
  obtain ⟨g, n⟩ := x
  match g, h with
  | 0, h => exact h
  | 1, h => exact h
  | 2, h =>
    rcases h with h | ⟨h1, h2, h3⟩
    · exact Or.inl h
    · obtain ⟨e1, e2⟩ := hl n h3
      exact Or.inr ⟨by rw [h1]; show Value.ref (ad n) = Value.ref (ad' n); rw [e1], h2, by show S'.1 n ≠ 0; rw [e2]; exact h3⟩
  | g + 3, h => exact h
theorem j_ft.mono {ad ad' : Int → Nat} {S S' : jS} (hl : j_le ad ad' S S') {t : qFT} {x : Int} {v : Value} (h : j_ft ad S t x v) : j_ft ad' S' t x v := by
  obtain ⟨g, k, lo, hi⟩ := t
  match g, h with
  | 0, h => exact h
  | 1, h => exact h
  | g + 2, h =>
    rcases h with h | ⟨h1, h2, h3, h4⟩
    · exact Or.inl h
    · have h4' : k ≠ 0 := h4
      have h3' : S.1 x = k := h3
      obtain ⟨e1, e2⟩ := hl x (by rw [h3']; exact h4')
      exact Or.inr ⟨by rw [h1, e1], h2, by rw [e2]; exact h3, h4⟩
/-- a value that is read of a cell -/
theorem j_ft.v {ad : Int → Nat} {S : jS} {t : qFT} {x : Int} {v : Value} (h : j_ft ad S t x v) : j_v ad S (min t.1 2, x) v := by
  obtain ⟨g, k, lo, hi⟩ := t
  match g, h with
  | 0, h => obtain ⟨y, h1, h2, -⟩ := h; exact ⟨y, h1, h2⟩
  | 1, h => exact h
  | g + 2, h =>
    have e : min (g + 2) 2 = 2 := by omega
    show j_v ad S (min (g + 2) 2, x) v
    rw [e]
    rcases h with h | ⟨h1, h2, h3, h4⟩
    · exact Or.inl h
    · exact Or.inr ⟨h1, h2, by show S.1 x ≠ 0; rw [show S.1 x = k from h3]; exact h4⟩
section JP
variable {KT : List qKD} {nL : Nat} {C : qCx} {G : jG} {cc : ByteArray} {pc : Nat} {lo : List (Nat × jV)} {sk : List jV} {S : jS} {V : jH} {nc ns : Nat}
/-- a step that leaves the heap -/
theorem j_pure {pc' : Nat} {lo' : List (Nat × jV)} {sk' : List jV} (h : j_ok KT nL C G pc' lo' sk' S V nc ns)
    (step : ∀ (ad : Int → Nat) (ls : Array Slot) (vs : List Value) (H : Heap) (locs : List Loc), j_lo nL ad S lo ls → j_stk ad S sk vs → (∀ (ls' : Array Slot) (vs' : List Value), j_lo nL ad S lo' ls' → j_stk ad S sk' vs' → q_W C H locs nc ns pc' ls' vs') → q_W C H locs nc ns pc ls vs) : j_ok KT nL C G pc lo sk S V nc ns :=
  fun ad ls vs H locs h1 h2 h3 h4 => step ad ls vs H locs h2 h3 (fun ls' vs' g2 g3 => h ad ls' vs' H locs h1 g2 g3 h4)
theorem j_sub {lo' : List (Nat × jV)} (hs : ∀ q ∈ lo', q ∈ lo) (h : j_ok KT nL C G pc lo' sk S V nc ns) : j_ok KT nL C G pc lo sk S V nc ns :=
  fun ad ls vs H locs h1 h2 h3 h4 => h ad ls vs H locs h1 (h2.sub hs) h3 h4
theorem j_widen {nc' ns' : Nat} (h1 : nc ≤ nc') (h2 : ns ≤ ns') (h : j_ok KT nL C G pc lo sk S V nc' ns') : j_ok KT nL C G pc lo sk S V nc ns :=
  fun ad ls vs H locs g1 g2 g3 g4 => W.widen h1 h2 (h ad ls vs H locs g1 g2 g3 g4)
/-- the numbers in an array or field are ints -/
theorem j_rng {a : Int} {k g t n : Nat} {ft : qFT} {i : Int} (hk : S.1 a = k) (hk0 : k ≠ 0) (hKT : KT[k]? = some (g + 1, t, n, [ft])) (hft : ft.1 = 0) (h0 : 0 ≤ i) (h1 : i < (n : Int)) (h : ft.2.2.1 ≤ V a i → V a i ≤ ft.2.2.2 → j_ok KT nL C G pc lo sk S V nc ns) : j_ok KT nL C G pc lo sk S V nc ns := by
  intro ad ls vs H locs g1 g2 g3 g4
  obtain ⟨-, d, cell, d1, d2, d3⟩ := g1.1 a (by rw [hk]; exact hk0)
  rw [hk] at d1
  cases hKT.symm.trans d1
  obtain ⟨cA, ty, z, e1, e2, e3, e4⟩ := d3
  have e5 := e4 i.toNat (by show i.toNat < n; omega) ft (List.mem_singleton.mpr rfl)
  have e6 : ((i.toNat : Nat) : Int) = i := by omega
  rw [e6] at e5
  obtain ⟨g', k', l', h'⟩ := ft
  cases hft
  obtain ⟨y, -, e7, e8, e9⟩ := e5
  exact h e8 e9 ad ls vs H locs g1 g2 g3 g4
theorem j_rngF {a : Int} {k ci n f : Nat} {fts : List qFT} {ft : qFT} (hk : S.1 a = k) (hk0 : k ≠ 0) (hKT : KT[k]? = some (0, ci, n, fts)) (hf : fts[f]? = some ft) (hft : ft.1 = 0) (h : ft.2.2.1 ≤ V a f → V a f ≤ ft.2.2.2 → j_ok KT nL C G pc lo sk S V nc ns) : j_ok KT nL C G pc lo sk S V nc ns := by
  intro ad ls vs H locs g1 g2 g3 g4
  obtain ⟨-, d, cell, d1, d2, d3⟩ := g1.1 a (by rw [hk]; exact hk0)
  rw [hk] at d1
  cases hKT.symm.trans d1
  obtain ⟨-, -, e3⟩ := d3
  obtain ⟨v, -, e5⟩ := e3 f ft hf
  obtain ⟨g', k', l', h'⟩ := ft
  cases hft
  obtain ⟨y, -, e7, e8, e9⟩ := e5
  exact h e8 e9 ad ls vs H locs g1 g2 g3 g4
end JP
