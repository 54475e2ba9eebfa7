/-! ROWS that read and write the heap -/
theorem j_cell.congr {D : va_G} {tys : List (ClassId × FieldType)} {ad : Int → Nat} {S S' : jS} {V V' : jH} {b : Int} {d : qKD} {cell : Cell} (h1 : S'.1 = S.1) (h2 : S'.2 b = S.2 b) (h3 : V' b = V b) (h : j_cell D tys ad S V b d cell) : j_cell D tys ad S' V' b d cell := by
  have hs : ∀ (t : qFT) (j : Int), j_sel S' V' t b j = j_sel S V t b j := by
    intro t j
    unfold j_sel
    rw [h2, h3]
  have hf : ∀ (t : qFT) (x : Int) (v : Value), j_ft ad S t x v → j_ft ad S' t x v := fun t x v => j_ft.mono (fun a _ => ⟨rfl, by rw [h1]⟩)
  obtain ⟨g, ci, n, fts⟩ := d
  match g, h with
  | 0, h =>
    obtain ⟨e1, e2, e3⟩ := h
    refine ⟨e1, e2, fun j ft hj => ?_⟩
    obtain ⟨v, e4, e5⟩ := e3 j ft hj
    exact ⟨v, e4, by rw [hs]; exact hf _ _ _ e5⟩
  | g + 1, h =>
    obtain ⟨cA, ty, z, e1, e2, e3, e4⟩ := h
    exact ⟨cA, ty, z, e1, e2, e3, fun j hj ft hft => by rw [hs]; exact hf _ _ _ (e4 j hj ft hft)⟩
theorem j_hp.set {KT : List qKD} {D : va_G} {tys : List (ClassId × FieldType)} {ad : Int → Nat} {S S' : jS} {V V' : jH} {H H' : Heap} (h : j_hp KT D tys ad S V H) {a : Int} (ha : S.1 a ≠ 0) {d : qKD} (hd : KT[S.1 a]? = some d) (hV : ∀ b : Int, b ≠ a → V' b = V b) (h1 : S'.1 = S.1) (h2 : ∀ b : Int, b ≠ a → S'.2 b = S.2 b) {cell : Cell} (hc : H'[ad a]? = some cell) (hcell : j_cell D tys ad S' V' a d cell) (oq : ∀ q : Nat, q ≠ ad a → H'[q]? = H[q]?) : j_hp KT D tys ad S' V' H' := by
  refine ⟨fun b hb => ?_, fun b c hb hc' e => ?_⟩
  · rw [h1] at hb ⊢
    obtain ⟨g0, d', cell', g1, g2, g3⟩ := h.1 b hb
    refine ⟨g0, ?_⟩
    by_cases hba : b = a
    · subst hba
      exact ⟨d, cell, hd, hc, hcell⟩
    · exact ⟨d', cell', g1, (oq _ (fun e => hba (h.2 b a hb ha e))).trans g2, g3.congr h1 (h2 b hba) (hV b hba)⟩
  · rw [h1] at hb hc'
    exact h.2 b c hb hc' e
theorem j_fr.set {G : jG} {ad : Int → Nat} {S S' : jS} {H H' : Heap} {locs : List Loc} (h : j_fr G ad S H locs) {a : Int} (ha : S.1 a ≠ 0) (h1 : S'.1 = S.1) (hsz : H'.size = H.size) (oq : ∀ q : Nat, q ≠ ad a → H'[q]? = H[q]?) (i : Nat) : j_fr G ad S' H' (locs ++ [⟨ad a, i⟩]) := by
  have hA := h.A ha
  obtain ⟨⟨s1, s2, s3⟩, h4, h5⟩ := h
  refine ⟨⟨by rw [hsz]; exact s1, fun q g1 g2 => ?_, fun l hl => ?_⟩, fun b hb => ⟨(h4 b hb).1, by rw [h1]; exact (h4 b hb).2⟩, fun b hb => by rw [h1] at hb; exact h5 b hb⟩
  · exact (oq q (fun e => g2 (by rw [e]; exact hA))).trans (s2 q g1 g2)
  · rcases List.mem_append.mp hl with hl | hl
    · exact s3 l hl
    · rw [List.mem_singleton.mp hl]
      exact hA
theorem j_ref {KT : List qKD} {D : va_G} {tys : List (ClassId × FieldType)} {ad : Int → Nat} {S : jS} {V : jH} {H : Heap} (h : j_hp KT D tys ad S V H) {a : Int} (ha : S.1 a ≠ 0) {v : Value} (hv : j_v ad S (2, a) v) : v = .ref (ad a) := by
  rcases hv with ⟨-, e⟩ | ⟨e, -⟩
  · have := (h.1 a ha).1
    have e : a = -1 := e
    omega
  · exact e
section JQ
variable {KT : List qKD} {nL : Nat} {C : qCx} {G : jG} {cc : ByteArray} {pc : Nat} {lo : List (Nat × jV)} {sk : List jV} {S : jS} {V : jH} {nc ns : Nat}
theorem j_getf {idx ci f n k : Nat} {fts : List qFT} {ft : qFT} {a : Int} (hF : q_Fget C cc G.1 idx ci f) (hd : decode cc pc = .ok (.getfield idx, 3)) (hk : S.1 a = k) (hk0 : k ≠ 0) (hKT : KT[k]? = some (0, ci, n, fts)) (hf : fts[f]? = some ft) (h : j_ok KT nL C G (pc + 3) lo ((min ft.1 2, j_sel S V ft a (f : Int)) :: sk) S V nc ns) : j_ok KT nL C G pc lo ((2, a) :: sk) S V nc ns := by
  intro ad ls vs H locs h1 h2 h3 h4
  obtain ⟨v, ws, rfl, e2, h3_1⟩ := h3.cons
  have ha : S.1 a ≠ 0 := by rw [hk]; exact hk0
  have hv := j_ref h1 ha e2
  subst hv
  obtain ⟨-, d, cell, d1, d2, d3⟩ := h1.1 a ha
  rw [hk] at d1
  cases hKT.symm.trans d1
  obtain ⟨c1, c2, c3⟩ := d3
  obtain ⟨v, c4, c5⟩ := c3 f ft hf
  exact hF pc H locs nc ns ls ws (ad a) cell v hd d2 c1 c2 c4 (h ad ls (v :: ws) H locs h1 h2 ⟨c5.v, h3_1⟩ h4)
theorem j_getI {idx ci f n k z : Nat} {fts : List qFT} {l u a : Int} (hF : q_Fget C cc G.1 idx ci f) (hd : decode cc pc = .ok (.getfield idx, 3)) (hk : S.1 a = k) (hk0 : k ≠ 0) (hKT : KT[k]? = some (0, ci, n, fts)) (hf : fts[f]? = some (0, z, l, u)) (h : j_ok KT nL C G (pc + 3) lo ((0, V a (f : Int)) :: sk) S V nc ns) : j_ok KT nL C G pc lo ((2, a) :: sk) S V nc ns := j_getf hF hd hk hk0 hKT hf h
theorem j_getR {idx ci f n k z : Nat} {fts : List qFT} {l u a : Int} (hF : q_Fget C cc G.1 idx ci f) (hd : decode cc pc = .ok (.getfield idx, 3)) (hk : S.1 a = k) (hk0 : k ≠ 0) (hKT : KT[k]? = some (0, ci, n, fts)) (hf : fts[f]? = some (4, z, l, u)) (h : j_ok KT nL C G (pc + 3) lo ((2, S.2 a (f : Int)) :: sk) S V nc ns) : j_ok KT nL C G pc lo ((2, a) :: sk) S V nc ns := j_getf hF hd hk hk0 hKT hf h
theorem j_sel_up {S : jS} {V : jH} {a : Int} {f j : Nat} {x : Int} (ft : qFT) (h : j ≠ f) : j_sel S (j_up V a (f : Int) x) ft a (j : Int) = j_sel S V ft a (j : Int) := by
  unfold j_sel
  rw [j_up_off (by omega)]
theorem j_sel_upS {S : jS} {V : jH} {a : Int} {f j : Nat} {x : Int} (ft : qFT) (h : j ≠ f) : j_sel (S.1, j_up S.2 a (f : Int) x) V ft a (j : Int) = j_sel S V ft a (j : Int) := by
  unfold j_sel
  split
  · rfl
  · rfl
  · exact j_up_off (V := S.2) (by omega)
/-- an int goes into a field -/
theorem j_putZ {idx ci f n k z : Nat} {fts : List qFT} {l u a x : Int} {ty : FieldType} (hF : q_Fput C cc G.1 idx ci f ty) (hap : ∀ x y, x < fts.length → y < fts.length → x ≠ y → G.1.2 ci x ≠ G.1.2 ci y) (hd : decode cc pc = .ok (.putfield idx, 3)) (hk : S.1 a = k) (hk0 : k ≠ 0) (hKT : KT[k]? = some (0, ci, n, fts)) (hf : fts[f]? = some (0, z, l, u)) (hfo : q_fok (0, z, l, u) ty = true) (hx : l ≤ x ∧ x ≤ u) (h : j_ok KT nL C G (pc + 3) lo sk S (j_up V a (f : Int) x) nc ns) : j_ok KT nL C G pc lo ((0, x) :: (2, a) :: sk) S V nc ns := by
  intro ad ls vs H locs h1 h2 h3 h4
  obtain ⟨v, ws, rfl, ⟨y, rfl, ey⟩, h3_1⟩ := h3.cons
  obtain ⟨w, us, rfl, e2, h3_2⟩ := h3_1.cons
  have ey : y.toInt = x := ey
  have ha : S.1 a ≠ 0 := by rw [hk]; exact hk0
  have hv := j_ref h1 ha e2
  subst hv
  obtain ⟨-, d, cell, d1, d2, d3⟩ := h1.1 a ha
  have d1' := d1
  rw [hk] at d1
  cases hKT.symm.trans d1
  obtain ⟨c1, c2, c3⟩ := d3
  obtain ⟨v0, c4, c5⟩ := c3 f _ hf
  obtain ⟨nr, fi⟩ := q_fok_ok (T := fun _ => none) hfo (show q_ft (fun _ => none) (0, z, l, u) (.int y) from ⟨y, rfl, by show l ≤ y.toInt; omega, by show y.toInt ≤ u; omega⟩)
  refine hF pc H locs nc ns ls us (ad a) cell (.int y) v0 hd d2 c1 c2 c4 nr fi (fun H' q1 q2 q3 => ?_)
  refine h ad ls us H' _ (h1.set ha d1' (fun b hb => j_up_ne hb) rfl (fun _ _ => rfl) q1 ?_ q3) h2 h3_2 (h4.set ha rfl q2 q3 _)
  refine ⟨c1, c2, fun j ft hj => ?_⟩
  obtain ⟨v', g4, g5⟩ := c3 j ft hj
  by_cases hjf : j = f
  · subst hjf
    cases hf.symm.trans hj
    refine ⟨.int y, Cell.slots_setSlot_self _ (k2_hasslot g4), y, rfl, ?_, ?_, ?_⟩
    · show y.toInt = j_up V a (j : Int) x a (j : Int); rw [j_up_at]; exact ey
    · show l ≤ j_up V a (j : Int) x a (j : Int); rw [j_up_at]; exact hx.1
    · show j_up V a (j : Int) x a (j : Int) ≤ u; rw [j_up_at]; exact hx.2
  · refine ⟨v', ?_, by rw [j_sel_up ft hjf]; exact g5⟩
    rw [slot_ne _ _ (hap f j (List.getElem?_eq_some_iff.mp hf).1 (List.getElem?_eq_some_iff.mp hj).1 (Ne.symm hjf))]
    exact g4
theorem j_vI {ad : Int → Nat} {S : jS} {x : Int} {v : Value} (h : j_v ad S (0, x) v) : -2147483648 ≤ x ∧ x ≤ 2147483647 := by
  obtain ⟨y, -, e⟩ := h
  have e : y.toInt = x := e
  have := q_min y
  have := q_max y
  omega
theorem j_topI {x : Int} (h : (-2147483648 ≤ x ∧ x ≤ 2147483647) → j_ok KT nL C G pc lo ((0, x) :: sk) S V nc ns) : j_ok KT nL C G pc lo ((0, x) :: sk) S V nc ns := by
  intro ad ls vs H locs h1 h2 h3 h4
  obtain ⟨v, ws, e, e2, h3'⟩ := h3.cons
  exact h (j_vI e2) ad ls vs H locs h1 h2 h3 h4
theorem j_locI {x : Int} {i : Nat} (p : Nat) (hp : lo[p]? = some (i, (0, x))) (h : (-2147483648 ≤ x ∧ x ≤ 2147483647) → j_ok KT nL C G pc lo sk S V nc ns) : j_ok KT nL C G pc lo sk S V nc ns := by
  intro ad ls vs H locs h1 h2 h3 h4
  obtain ⟨v, -, e2⟩ := h2.get (List.mem_of_getElem? hp)
  exact h (j_vI e2) ad ls vs H locs h1 h2 h3 h4
theorem j_putI {idx ci f n k z : Nat} {fts : List qFT} {a x : Int} {ty : FieldType} (hF : q_Fput C cc G.1 idx ci f ty) (hap : ∀ x y, x < fts.length → y < fts.length → x ≠ y → G.1.2 ci x ≠ G.1.2 ci y) (hd : decode cc pc = .ok (.putfield idx, 3)) (hk : S.1 a = k) (hk0 : k ≠ 0) (hKT : KT[k]? = some (0, ci, n, fts)) (hf : fts[f]? = some (0, z, -2147483648, 2147483647)) (hfo : q_fok (0, z, -2147483648, 2147483647) ty = true) (h : j_ok KT nL C G (pc + 3) lo sk S (j_up V a (f : Int) x) nc ns) : j_ok KT nL C G pc lo ((0, x) :: (2, a) :: sk) S V nc ns :=
  j_topI (fun hx => j_putZ hF hap hd hk hk0 hKT hf hfo hx h)
/-- a reference goes into a field -/
theorem j_putR {idx ci f n k z : Nat} {fts : List qFT} {l u a x : Int} {ty : FieldType} (hF : q_Fput C cc G.1 idx ci f ty) (hap : ∀ x y, x < fts.length → y < fts.length → x ≠ y → G.1.2 ci x ≠ G.1.2 ci y) (hd : decode cc pc = .ok (.putfield idx, 3)) (hk : S.1 a = k) (hk0 : k ≠ 0) (hKT : KT[k]? = some (0, ci, n, fts)) (hf : fts[f]? = some (4, z, l, u)) (hfo : q_fok (4, z, l, u) ty = true) (hz : z ≠ 0) (hx : x = -1 ∨ S.1 x = z) (h : j_ok KT nL C G (pc + 3) lo sk (S.1, j_up S.2 a (f : Int) x) V nc ns) : j_ok KT nL C G pc lo ((2, x) :: (2, a) :: sk) S V nc ns := by
  intro ad ls vs H locs h1 h2 h3 h4
  obtain ⟨v, ws, rfl, ev, h3_1⟩ := h3.cons
  obtain ⟨w, us, rfl, e2, h3_2⟩ := h3_1.cons
  have ha : S.1 a ≠ 0 := by rw [hk]; exact hk0
  have hv := j_ref h1 ha e2
  subst hv
  obtain ⟨-, d, cell, d1, d2, d3⟩ := h1.1 a ha
  have d1' := d1
  rw [hk] at d1
  cases hKT.symm.trans d1
  obtain ⟨c1, c2, c3⟩ := d3
  obtain ⟨v0, c4, c5⟩ := c3 f _ hf
  have hft : j_ft ad (S.1, j_up S.2 a (f : Int) x) (4, z, l, u) x v := by
    rcases ev with ⟨q1, q2⟩ | ⟨q1, q2, q3⟩
    · exact Or.inl ⟨q1, q2⟩
    · have q2 : 0 ≤ x := q2
      have hxz : S.1 x = z := by
        rcases hx with hx | hx
        · omega
        · exact hx
      exact Or.inr ⟨q1, q2, hxz, hz⟩
  have hqf : q_ft (fun _ => some z) (4, z, l, u) v := by
    rcases hft with ⟨q1, q2⟩ | ⟨q1, -⟩
    · exact Or.inl q1
    · exact Or.inr ⟨_, q1, rfl⟩
  obtain ⟨nr, fi⟩ := q_fok_ok hfo hqf
  refine hF pc H locs nc ns ls us (ad a) cell v v0 hd d2 c1 c2 c4 nr fi (fun H' q1 q2 q3 => ?_)
  have hl : j_le ad ad S (S.1, j_up S.2 a (f : Int) x) := fun b _ => ⟨rfl, rfl⟩
  refine h ad ls us H' _ (h1.set (S' := (S.1, j_up S.2 a (f : Int) x)) ha d1' (fun _ _ => rfl) rfl (fun b hb => j_up_ne (V := S.2) hb) q1 ?_ q3) (h2.imp (fun _ _ => j_v.mono hl)) (h3_2.imp (fun _ _ => j_v.mono hl)) (h4.set ha rfl q2 q3 _)
  refine ⟨c1, c2, fun j ft hj => ?_⟩
  obtain ⟨v', g4, g5⟩ := c3 j ft hj
  by_cases hjf : j = f
  · subst hjf
    cases hf.symm.trans hj
    refine ⟨v, Cell.slots_setSlot_self _ (k2_hasslot g4), ?_⟩
    show j_ft ad _ (4, z, l, u) (j_up S.2 a (j : Int) x a (j : Int)) v
    rw [j_up_at]
    exact hft
  · refine ⟨v', ?_, by rw [j_sel_upS ft hjf]; exact g5.mono hl⟩
    rw [slot_ne _ _ (hap f j (List.getElem?_eq_some_iff.mp hf).1 (List.getElem?_eq_some_iff.mp hj).1 (Ne.symm hjf))]
    exact g4
/-- an element is read -/
theorem j_ald {ins : Instr} {g t n k : Nat} {ft : qFT} {a i : Int} (E : j_E C cc G) (hi : q_alg ins = some (g + 1)) (hd : decode cc pc = .ok (ins, q_len ins)) (hk : S.1 a = k) (hk0 : k ≠ 0) (hKT : KT[k]? = some (g + 1, t, n, [ft])) (h0 : 0 ≤ i) (hn : i < (n : Int)) (h : j_ok KT nL C G (pc + 1) lo ((min ft.1 2, j_sel S V ft a i) :: sk) S V nc ns) : j_ok KT nL C G pc lo ((0, i) :: (2, a) :: sk) S V nc ns := by
  intro ad ls vs H locs h1 h2 h3 h4
  obtain ⟨v, ws, rfl, ⟨y, rfl, ey⟩, h3_1⟩ := h3.cons
  obtain ⟨w, us, rfl, e2, h3_2⟩ := h3_1.cons
  have ey : y.toInt = i := ey
  have ha : S.1 a ≠ 0 := by rw [hk]; exact hk0
  have hv := j_ref h1 ha e2
  subst hv
  obtain ⟨-, d, cell, d1, d2, d3⟩ := h1.1 a ha
  rw [hk] at d1
  cases hKT.symm.trans d1
  obtain ⟨cA, ty, z, c1, c2, rfl, c4⟩ := d3
  obtain ⟨i1, i2, i3⟩ := q_idx (y := y) (n := n) (by omega) (by omega)
  refine q_rowL E.1 E.2 hi hd c1 c2 d2 i1 ?_
  have c5 := c4 _ i2 ft (List.mem_singleton.mpr rfl)
  rw [i3, ey] at c5
  exact h ad ls _ H locs h1 h2 ⟨c5.v, h3_2⟩ h4
theorem j_iaload {t n k z : Nat} {l u a i : Int} (E : j_E C cc G) (hd : decode cc pc = .ok (.iaload, 1)) (hk : S.1 a = k) (hk0 : k ≠ 0) (hKT : KT[k]? = some (1, t, n, [(0, z, l, u)])) (h0 : 0 ≤ i) (hn : i < (n : Int)) (h : j_ok KT nL C G (pc + 1) lo ((0, V a i) :: sk) S V nc ns) : j_ok KT nL C G pc lo ((0, i) :: (2, a) :: sk) S V nc ns := j_ald E (g := 0) rfl hd hk hk0 hKT h0 hn h
theorem j_laload {t n k z : Nat} {l u a i : Int} (E : j_E C cc G) (hd : decode cc pc = .ok (.laload, 1)) (hk : S.1 a = k) (hk0 : k ≠ 0) (hKT : KT[k]? = some (3, t, n, [(1, z, l, u)])) (h0 : 0 ≤ i) (hn : i < (n : Int)) (h : j_ok KT nL C G (pc + 1) lo ((1, V a i) :: sk) S V nc ns) : j_ok KT nL C G pc lo ((0, i) :: (2, a) :: sk) S V nc ns := j_ald E (g := 2) rfl hd hk hk0 hKT h0 hn h
theorem j_baload {t n k z : Nat} {l u a i : Int} (E : j_E C cc G) (hd : decode cc pc = .ok (.baload, 1)) (hk : S.1 a = k) (hk0 : k ≠ 0) (hKT : KT[k]? = some (4, t, n, [(0, z, l, u)])) (h0 : 0 ≤ i) (hn : i < (n : Int)) (h : j_ok KT nL C G (pc + 1) lo ((0, V a i) :: sk) S V nc ns) : j_ok KT nL C G pc lo ((0, i) :: (2, a) :: sk) S V nc ns := j_ald E (g := 3) rfl hd hk hk0 hKT h0 hn h
theorem j_aaload {t n k z : Nat} {l u a i : Int} (E : j_E C cc G) (hd : decode cc pc = .ok (.aaload, 1)) (hk : S.1 a = k) (hk0 : k ≠ 0) (hKT : KT[k]? = some (2, t, n, [(4, z, l, u)])) (h0 : 0 ≤ i) (hn : i < (n : Int)) (h : j_ok KT nL C G (pc + 1) lo ((2, S.2 a i) :: sk) S V nc ns) : j_ok KT nL C G pc lo ((0, i) :: (2, a) :: sk) S V nc ns := j_ald E (g := 1) rfl hd hk hk0 hKT h0 hn h
/-- a number goes into an array -/
theorem j_ast {ins : Instr} {g t n k : Nat} {ft : qFT} {a i x : Int} (E : j_E C cc G) (hg : g ≠ 1) (hi : q_asg ins = some (g + 1)) (hd : decode cc pc = .ok (ins, q_len ins)) (hk : S.1 a = k) (hk0 : k ≠ 0) (hKT : KT[k]? = some (g + 1, t, n, [ft])) (hft : ft.1 = if g = 2 then 1 else 0) (hft2 : g = 3 → ft.2.2.1 = 0 ∧ ft.2.2.2 = 1) (h0 : 0 ≤ i) (hn : i < (n : Int)) (hx : ft.1 = 0 → ft.2.2.1 ≤ x ∧ x ≤ ft.2.2.2) (h : j_ok KT nL C G (pc + 1) lo sk S (j_up V a i x) nc ns) : j_ok KT nL C G pc lo ((ft.1, x) :: (0, i) :: (2, a) :: sk) S V nc ns := by
  intro ad ls vs H locs h1 h2 h3 h4
  obtain ⟨v, ws, rfl, ev, h3_1⟩ := h3.cons
  obtain ⟨v2, ws2, rfl, ⟨y, rfl, ey⟩, h3_2⟩ := h3_1.cons
  obtain ⟨w, us, rfl, e2, h3_3⟩ := h3_2.cons
  have ey : y.toInt = i := ey
  have ha : S.1 a ≠ 0 := by rw [hk]; exact hk0
  have hv := j_ref h1 ha e2
  subst hv
  obtain ⟨-, d, cell, d1, d2, d3⟩ := h1.1 a ha
  have d1' := d1
  rw [hk] at d1
  cases hKT.symm.trans d1
  obtain ⟨cA, ty, z, c1, c2, rfl, c4⟩ := d3
  obtain ⟨i1, i2, i3⟩ := q_idx (y := y) (n := n) (by omega) (by omega)
  obtain ⟨g', k', l', u'⟩ := ft
  have hft : g' = if g = 2 then 1 else 0 := hft
  refine q_rowS (D := G.1) E.1 E.2 hi hd c1 c2 d2 i1 ⟨fun hg1 => ?_, fun hg1 => ?_, fun hg1 => ?_, fun hg1 => absurd (show g = 1 by omega) hg⟩ (fun H' q1 q2 q3 => ?_)
  · have : g' = 0 := by rw [hft, if_neg (by omega)]
    subst this
    obtain ⟨q, e, -⟩ := ev
    exact ⟨q, e⟩
  · have : g' = 1 := by rw [hft, if_pos (by omega)]
    subst this
    obtain ⟨q, e, -⟩ := ev
    exact ⟨q, e⟩
  · have : g' = 0 := by rw [hft, if_neg (by omega)]
    subst this
    obtain ⟨q, e, e5⟩ := ev
    have hx := hx rfl
    obtain ⟨z1, z2⟩ := hft2 (by omega)
    have e5 : q.toInt = x := e5
    have hx1 : l' ≤ x := hx.1
    have hx2 : x ≤ u' := hx.2
    have z1 : l' = 0 := z1
    have z2 : u' = 1 := z2
    refine ⟨q, e, ?_⟩
    rw [e]
    rcases q_bit (x := q) (by omega) (by omega) with rfl | rfl
    · decide
    · decide
  · refine h ad ls us H' _ (h1.set ha d1' (fun b hb => j_up_ne hb) rfl (fun _ _ => rfl) q1 ?_ q3) h2 h3_3 (h4.set ha rfl q2 q3 _)
    refine ⟨cA, ty, updV z y.toNatClampNeg v, c1, c2, arrV_store _ _ _ _ _, fun j hj ft' hft' => ?_⟩
    rw [List.mem_singleton.mp hft']
    by_cases hji : j = y.toNatClampNeg
    · subst hji
      simp only [updV, if_true]
      rw [i3, ey]
      by_cases hg2 : g = 2
      · rw [if_pos hg2] at hft
        subst hft
        show j_ft ad S (1, k', l', u') (j_up V a i x a i) v
        rw [j_up_at]
        exact ev
      · rw [if_neg hg2] at hft
        subst hft
        obtain ⟨q, e, e5⟩ := ev
        have hx := hx rfl
        show j_ft ad S (0, k', l', u') (j_up V a i x a i) v
        rw [j_up_at]
        exact ⟨q, e, e5, hx.1, hx.2⟩
    · simp only [updV, if_neg hji]
      have e6 : j_sel S (j_up V a i x) (g', k', l', u') a (j : Int) = j_sel S V (g', k', l', u') a (j : Int) := by
        unfold j_sel
        rw [j_up_off (by omega)]
      rw [e6]
      exact c4 j hj _ (List.mem_singleton.mpr rfl)
theorem j_top2 {x : Int} {y z : jV} (h : (-2147483648 ≤ x ∧ x ≤ 2147483647) → j_ok KT nL C G pc lo ((0, x) :: y :: z :: sk) S V nc ns) : j_ok KT nL C G pc lo ((0, x) :: y :: z :: sk) S V nc ns := j_topI h
theorem j_iastore {t n k z : Nat} {a i x : Int} (E : j_E C cc G) (hd : decode cc pc = .ok (.iastore, 1)) (hk : S.1 a = k) (hk0 : k ≠ 0) (hKT : KT[k]? = some (1, t, n, [(0, z, -2147483648, 2147483647)])) (h0 : 0 ≤ i) (hn : i < (n : Int)) (h : j_ok KT nL C G (pc + 1) lo sk S (j_up V a i x) nc ns) : j_ok KT nL C G pc lo ((0, x) :: (0, i) :: (2, a) :: sk) S V nc ns :=
  j_topI (fun hx => j_ast (ft := (0, z, -2147483648, 2147483647)) E (g := 0) (by decide) rfl hd hk hk0 hKT rfl (fun q => absurd q (by decide)) h0 hn (fun _ => hx) h)
theorem j_lastore {t n k z : Nat} {l u a i x : Int} (E : j_E C cc G) (hd : decode cc pc = .ok (.lastore, 1)) (hk : S.1 a = k) (hk0 : k ≠ 0) (hKT : KT[k]? = some (3, t, n, [(1, z, l, u)])) (h0 : 0 ≤ i) (hn : i < (n : Int)) (h : j_ok KT nL C G (pc + 1) lo sk S (j_up V a i x) nc ns) : j_ok KT nL C G pc lo ((1, x) :: (0, i) :: (2, a) :: sk) S V nc ns :=
  j_ast (ft := (1, z, l, u)) E (g := 2) (by decide) rfl hd hk hk0 hKT rfl (fun q => absurd q (by decide)) h0 hn (fun q => by cases q) h
theorem j_bastore {t n k z : Nat} {a i x : Int} (E : j_E C cc G) (hd : decode cc pc = .ok (.bastore, 1)) (hk : S.1 a = k) (hk0 : k ≠ 0) (hKT : KT[k]? = some (4, t, n, [(0, z, 0, 1)])) (h0 : 0 ≤ i) (hn : i < (n : Int)) (hx : 0 ≤ x ∧ x ≤ 1) (h : j_ok KT nL C G (pc + 1) lo sk S (j_up V a i x) nc ns) : j_ok KT nL C G pc lo ((0, x) :: (0, i) :: (2, a) :: sk) S V nc ns :=
  j_ast (ft := (0, z, 0, 1)) E (g := 3) (by decide) rfl hd hk hk0 hKT rfl (fun _ => ⟨rfl, rfl⟩) h0 hn (fun _ => hx) h
/-- a reference goes into an array -/
theorem j_aastore {t n k z ci n2 : Nat} {fts : List qFT} {l u a i x : Int} (E : j_E C cc G) (hat : q_AR (q_s C) G.1 G.2.1 t ci) (hd : decode cc pc = .ok (.aastore, 1)) (hk : S.1 a = k) (hk0 : k ≠ 0) (hKT : KT[k]? = some (2, t, n, [(4, z, l, u)])) (hx : S.1 x = z) (hz : z ≠ 0) (hKz : KT[z]? = some (0, ci, n2, fts)) (h0 : 0 ≤ i) (hn : i < (n : Int)) (h : j_ok KT nL C G (pc + 1) lo sk (S.1, j_up S.2 a i x) V nc ns) : j_ok KT nL C G pc lo ((2, x) :: (0, i) :: (2, a) :: sk) S V nc ns := by
  intro ad ls vs H locs h1 h2 h3 h4
  obtain ⟨v, ws, rfl, ev, h3_1⟩ := h3.cons
  obtain ⟨v2, ws2, rfl, ⟨y, rfl, ey⟩, h3_2⟩ := h3_1.cons
  obtain ⟨w, us, rfl, e2, h3_3⟩ := h3_2.cons
  have ey : y.toInt = i := ey
  have ha : S.1 a ≠ 0 := by rw [hk]; exact hk0
  have hxx : S.1 x ≠ 0 := by rw [hx]; exact hz
  have hv := j_ref h1 ha e2
  subst hv
  have hv := j_ref h1 hxx ev
  subst hv
  obtain ⟨-, d, cell, d1, d2, d3⟩ := h1.1 a ha
  have d1' := d1
  rw [hk] at d1
  cases hKT.symm.trans d1
  obtain ⟨cA, ty, zz, c1, c2, rfl, c4⟩ := d3
  obtain ⟨x0, dx, cellx, x1, x2, x3⟩ := h1.1 x hxx
  rw [hx] at x1
  cases hKz.symm.trans x1
  obtain ⟨i1, i2, i3⟩ := q_idx (y := y) (n := n) (by omega) (by omega)
  refine q_rowS (D := G.1) E.1 E.2 (ins := .aastore) (g := 2) rfl hd c1 c2 d2 i1 ⟨fun hg1 => absurd hg1 (by decide), fun hg1 => absurd hg1 (by decide), fun hg1 => absurd hg1 (by decide), fun _ => ⟨ad x, ci, cellx, rfl, x2, x3.1, x3.2.1, hat⟩⟩ (fun H' q1 q2 q3 => ?_)
  have hl : j_le ad ad S (S.1, j_up S.2 a i x) := fun b _ => ⟨rfl, rfl⟩
  refine h ad ls us H' _ (h1.set (S' := (S.1, j_up S.2 a i x)) ha d1' (fun _ _ => rfl) rfl (fun b hb => j_up_ne (V := S.2) hb) q1 ?_ q3) (h2.imp (fun _ _ => j_v.mono hl)) (h3_3.imp (fun _ _ => j_v.mono hl)) (h4.set ha rfl q2 q3 _)
  refine ⟨cA, ty, updV zz y.toNatClampNeg (.ref (ad x)), c1, c2, arrV_store _ _ _ _ _, fun j hj ft' hft' => ?_⟩
  rw [List.mem_singleton.mp hft']
  by_cases hji : j = y.toNatClampNeg
  · subst hji
    simp only [updV, if_true]
    rw [i3, ey]
    show j_ft ad _ (4, z, l, u) (j_up S.2 a i x a i) _
    rw [j_up_at]
    exact Or.inr ⟨rfl, x0, hx, hz⟩
  · simp only [updV, if_neg hji]
    show j_ft ad _ (4, z, l, u) (j_up S.2 a i x a (j : Int)) _
    rw [j_up_off (by omega)]
    exact (c4 j hj _ (List.mem_singleton.mpr rfl)).mono hl
theorem j_alen {g t n k : Nat} {fts : List qFT} {a : Int} (E : j_E C cc G) (hd : decode cc pc = .ok (.arraylength, 1)) (hk : S.1 a = k) (hk0 : k ≠ 0) (hKT : KT[k]? = some (g + 1, t, n, fts)) (hn : n < 2 ^ 31) (h : j_ok KT nL C G (pc + 1) lo ((0, (n : Int)) :: sk) S V nc ns) : j_ok KT nL C G pc lo ((2, a) :: sk) S V nc ns := by
  intro ad ls vs H locs h1 h2 h3 h4
  obtain ⟨w, us, rfl, e2, h3_1⟩ := h3.cons
  have ha : S.1 a ≠ 0 := by rw [hk]; exact hk0
  have hv := j_ref h1 ha e2
  subst hv
  obtain ⟨-, d, cell, d1, d2, d3⟩ := h1.1 a ha
  rw [hk] at d1
  cases hKT.symm.trans d1
  obtain ⟨cA, ty, z, c1, c2, rfl, c4⟩ := d3
  refine W.alen (n := Int32.ofNat n) E.1.1 E.1.2 d2 (E.2 t _ c1 n z) (by rw [arrV_size]) rfl rfl hd ?_
  exact h ad ls _ H locs h1 h2 ⟨⟨_, rfl, Int32.toInt_ofNat_of_lt hn⟩, h3_1⟩ h4
end JQ
/-! NEW CELLS -/
def j_ns (S : jS) (a : Int) (k : Nat) : jS := (fun b => if b = a then k else S.1 b, fun b => if b = a then fun _ => -1 else S.2 b)
def j_nv (V : jH) (a : Int) : jH := fun b => if b = a then fun _ => 0 else V b
theorem j_dfo_ok {ad : Int → Nat} {S : jS} {t : qFT} {ty : FieldType} {x y : Int} (h : q_fok t ty = true) (hd : q_dfo t = true) (hx : x = 0) (hy : y = -1) : j_ft ad S t (match t.1 with | 0 => x | 1 => x | _ => y) (defaultValue ty) := by
  subst hx
  subst hy
  obtain ⟨g, k, lo, hi⟩ := t
  match g, h, hd with
  | 0, h, hd =>
    simp only [q_dfo, Bool.and_eq_true, decide_eq_true_eq] at hd
    cases ty <;> simp only [q_fok, Bool.false_eq_true] at h
    · exact ⟨0, rfl, rfl, hd.1, hd.2⟩
    · exact ⟨0, rfl, rfl, hd.1, hd.2⟩
  | 1, h, _ =>
    cases ty <;> simp only [q_fok, Bool.false_eq_true] at h
    exact ⟨0, rfl, rfl⟩
  | 2, _, hd => cases hd
  | n + 3, h, _ =>
    cases ty <;> simp only [q_fok, Bool.false_eq_true] at h
    · exact Or.inl ⟨rfl, rfl⟩
    · exact Or.inl ⟨rfl, rfl⟩
theorem j_sel_new (S : jS) (V : jH) (a : Int) (k : Nat) (ft : qFT) (j : Int) : j_sel (j_ns S a k) (j_nv V a) ft a j = (match ft.1 with | 0 => (0 : Int) | 1 => 0 | _ => -1) := by
  obtain ⟨g, k', l', u'⟩ := ft
  match g with
  | 0 => simp [j_sel, j_nv]
  | 1 => simp [j_sel, j_nv]
  | g + 2 => simp [j_sel, j_ns]
theorem j_new_le {ad : Int → Nat} {S : jS} {a : Int} {k z : Nat} (hfr : S.1 a = 0) : j_le ad (fun b => if b = a then z else ad b) S (j_ns S a k) := by
  intro b hb
  have hne : b ≠ a := fun e => hb (by rw [e]; exact hfr)
  exact ⟨if_neg hne, if_neg hne⟩
theorem j_cell.new {D : va_G} {tys : List (ClassId × FieldType)} {ad : Int → Nat} {S : jS} {V : jH} {a b : Int} {k z : Nat} {d : qKD} {cell : Cell} (hfr : S.1 a = 0) (hb : b ≠ a) (h : j_cell D tys ad S V b d cell) : j_cell D tys (fun b => if b = a then z else ad b) (j_ns S a k) (j_nv V a) b d cell := by
  have hl := j_new_le (ad := ad) (k := k) (z := z) hfr
  have hs : ∀ (t : qFT) (j : Int), j_sel (j_ns S a k) (j_nv V a) t b j = j_sel S V t b j := by
    intro t j
    unfold j_sel j_ns j_nv
    simp only [if_neg hb]
  obtain ⟨g, ci, n, fts⟩ := d
  match g, h with
  | 0, h =>
    obtain ⟨e1, e2, e3⟩ := h
    refine ⟨e1, e2, fun j ft hj => ?_⟩
    obtain ⟨v, e4, e5⟩ := e3 j ft hj
    exact ⟨v, e4, by rw [hs]; exact e5.mono hl⟩
  | g + 1, h =>
    obtain ⟨cA, ty, z, e1, e2, e3, e4⟩ := h
    exact ⟨cA, ty, z, e1, e2, e3, fun j hj ft hft => by rw [hs]; exact (e4 j hj ft hft).mono hl⟩
theorem j_hp.new {KT : List qKD} {D : va_G} {tys : List (ClassId × FieldType)} {ad : Int → Nat} {S : jS} {V : jH} {H H' : Heap} (h : j_hp KT D tys ad S V H) {a : Int} {k : Nat} (ha : 0 ≤ a) (hfr : S.1 a = 0) {d : qKD} (hd : KT[k]? = some d) {cell : Cell} (hc : H'[H.size]? = some cell) (hcell : j_cell D tys (fun b => if b = a then H.size else ad b) (j_ns S a k) (j_nv V a) a d cell) (oq : ∀ q : Nat, q < H.size → H'[q]? = H[q]?) : j_hp KT D tys (fun b => if b = a then H.size else ad b) (j_ns S a k) (j_nv V a) H' := by
  have hlt : ∀ b : Int, S.1 b ≠ 0 → ad b < H.size := fun b hb => by
    obtain ⟨-, d', cell', -, g2, -⟩ := h.1 b hb
    exact (Array.getElem?_eq_some_iff.mp g2).1
  refine ⟨fun b hb => ?_, fun b c hb hc' e => ?_⟩
  · by_cases hba : b = a
    · subst hba
      refine ⟨ha, d, cell, ?_, ?_, hcell⟩
      · show KT[if b = b then k else S.1 b]? = some d
        rw [if_pos rfl]; exact hd
      · show H'[if b = b then H.size else ad b]? = some cell
        rw [if_pos rfl]; exact hc
    · have hb' : S.1 b ≠ 0 := by
        have : (j_ns S a k).1 b = S.1 b := if_neg hba
        rw [this] at hb; exact hb
      obtain ⟨g0, d', cell', g1, g2, g3⟩ := h.1 b hb'
      refine ⟨g0, d', cell', ?_, ?_, g3.new hfr hba⟩
      · show KT[if b = a then k else S.1 b]? = some d'
        rw [if_neg hba]; exact g1
      · show H'[if b = a then H.size else ad b]? = some cell'
        rw [if_neg hba]; exact (oq _ (hlt b hb')).trans g2
  · have hS : ∀ b : Int, b ≠ a → (j_ns S a k).1 b = S.1 b := fun b hb => if_neg hb
    by_cases hba : b = a
    · by_cases hca : c = a
      · rw [hba, hca]
      · rw [hS c hca] at hc'
        have e : (if b = a then H.size else ad b) = (if c = a then H.size else ad c) := e
        rw [if_pos hba, if_neg hca] at e
        have := hlt c hc'
        omega
    · rw [hS b hba] at hb
      by_cases hca : c = a
      · have e : (if b = a then H.size else ad b) = (if c = a then H.size else ad c) := e
        rw [if_neg hba, if_pos hca] at e
        have := hlt b hb
        omega
      · rw [hS c hca] at hc'
        have e : (if b = a then H.size else ad b) = (if c = a then H.size else ad c) := e
        rw [if_neg hba, if_neg hca] at e
        exact h.2 b c hb hc' e
theorem j_fr.new {G : jG} {ad : Int → Nat} {S : jS} {H H' : Heap} {locs : List Loc} (h : j_fr G ad S H locs) {a : Int} {k : Nat} (hfr : S.1 a = 0) (hsz : H'.size = H.size + 1) (oq : ∀ q : Nat, q < H.size → H'[q]? = H[q]?) : j_fr G (fun b => if b = a then H.size else ad b) (j_ns S a k) H' locs := by
  obtain ⟨⟨s1, s2, s3⟩, h4, h5⟩ := h
  refine ⟨⟨by omega, fun q g1 g2 => (oq q (by omega)).trans (s2 q g1 g2), s3⟩, h4.tr (j_new_le hfr), fun b hb => ?_⟩
  by_cases hba : b = a
  · refine Or.inr ?_
    show G.2.2.1.size ≤ (if b = a then H.size else ad b)
    rw [if_pos hba]
    exact s1
  · have hS : (j_ns S a k).1 b = S.1 b := if_neg hba
    rw [hS] at hb
    rcases h5 b hb with q | q
    · exact Or.inl q
    · refine Or.inr ?_
      show G.2.2.1.size ≤ (if b = a then H.size else ad b)
      rw [if_neg hba]
      exact q
section JN
variable {KT : List qKD} {nL : Nat} {C : qCx} {G : jG} {cc : ByteArray} {pc : Nat} {lo : List (Nat × jV)} {sk : List jV} {S : jS} {V : jH} {nc ns : Nat}
theorem j_new {idx ci n n2 k : Nat} {fts : List qFT} {tyf : Nat → FieldType} (E : j_E C cc G) (hF : q_Fnew C cc G.1 idx ci n tyf) (hd : decode cc pc = .ok (.new idx, 3)) (a : Int) (ha : 0 ≤ a) (hfr : S.1 a = 0) (hk0 : k ≠ 0) (hKT : KT[k]? = some (0, ci, n2, fts)) (hl : fts.length ≤ n) (hty : ∀ f : Nat, f < n → q_ktf KT ci f (tyf f) = true) (hdf : fts.all q_dfo = true) (hc : nc + 1 ≤ C.2.2.2.1.cells) (hs : ns + n ≤ C.2.2.2.1.slots) (h : j_ok KT nL C G (pc + 3) lo ((2, a) :: sk) (j_ns S a k) (j_nv V a) (nc + 1) (ns + n)) : j_ok KT nL C G pc lo sk S V nc ns := by
  intro ad ls vs H locs h1 h2 h3 h4
  refine hF pc H locs nc ns ls vs hd hc hs (fun H' cell e1 e2 e3 e4 e5 e6 => ?_)
  have hle := j_new_le (ad := ad) (k := k) (z := H.size) hfr
  have hcell : j_cell G.1 G.2.1 (fun b => if b = a then H.size else ad b) (j_ns S a k) (j_nv V a) a (0, ci, n2, fts) cell := by
    refine ⟨e4, e5, fun j ft hj => ?_⟩
    have hj' : j < n := Nat.lt_of_lt_of_le (List.getElem?_eq_some_iff.mp hj).1 hl
    refine ⟨_, e6 j hj', ?_⟩
    have hfo := q_ktf_ok (hty j hj') hKT hj
    have := j_dfo_ok (ad := fun b => if b = a then H.size else ad b) (S := j_ns S a k) (x := 0) (y := -1) hfo (List.all_eq_true.mp hdf ft (List.mem_of_getElem? hj)) rfl rfl
    rw [j_sel_new]
    exact this
  refine h _ ls _ H' locs (h1.new ha hfr hKT e1 hcell e3) (h2.imp (fun _ _ => j_v.mono hle)) ⟨Or.inr ⟨?_, ha, ?_⟩, h3.imp (fun _ _ => j_v.mono hle)⟩ (h4.new hfr e2 e3)
  · show Value.ref H.size = Value.ref (if a = a then H.size else ad a)
    rw [if_pos rfl]
  · show (if a = a then k else S.1 a) ≠ 0
    rw [if_pos rfl]; exact hk0
theorem j_newarray {ins : Instr} {g t n k : Nat} {ft : qFT} {cA : ClassId} {ty : FieldType} (E : j_E C cc G) (ht : G.2.1[t]? = some (cA, ty)) (hF : q_Fna C cc ins cA ty) (hd : decode cc pc = .ok (ins, q_len ins)) (a : Int) (ha : 0 ≤ a) (hfr : S.1 a = 0) (hk0 : k ≠ 0) (hKT : KT[k]? = some (g + 1, t, n, [ft])) (hag : q_aty (g + 1) ty) (hfo : q_fok ft ty = true) (hdf : q_dfo ft = true) (hn : n ≤ 100000) (hc : nc + 1 ≤ C.2.2.2.1.cells) (hs : ns + n ≤ C.2.2.2.1.slots) (h : j_ok KT nL C G (pc + q_len ins) lo ((2, a) :: sk) (j_ns S a k) (j_nv V a) (nc + 1) (ns + n)) : j_ok KT nL C G pc lo ((0, (n : Int)) :: sk) S V nc ns := by
  intro ad ls vs H locs h1 h2 h3 h4
  obtain ⟨v, ws, rfl, ⟨y, rfl, ey⟩, h3_1⟩ := h3.cons
  refine hF pc H locs nc ns ls ws y n hd ey hn hc hs (fun H' e1 e2 e3 => ?_)
  have hle := j_new_le (ad := ad) (k := k) (z := H.size) hfr
  have hcell : j_cell G.1 G.2.1 (fun b => if b = a then H.size else ad b) (j_ns S a k) (j_nv V a) a (g + 1, t, n, [ft]) (arrV cA n (fun _ => defaultValue ty)) := by
    refine ⟨cA, ty, _, ht, hag, rfl, fun j hj ft' hft' => ?_⟩
    rw [List.mem_singleton.mp hft']
    have := j_dfo_ok (ad := fun b => if b = a then H.size else ad b) (S := j_ns S a k) (x := 0) (y := -1) hfo hdf rfl rfl
    rw [j_sel_new]
    exact this
  refine h _ ls _ H' locs (h1.new ha hfr hKT e1 hcell e3) (h2.imp (fun _ _ => j_v.mono hle)) ⟨Or.inr ⟨?_, ha, ?_⟩, h3_1.imp (fun _ _ => j_v.mono hle)⟩ (h4.new hfr e2 e3)
  · show Value.ref H.size = Value.ref (if a = a then H.size else ad a)
    rw [if_pos rfl]
  · show (if a = a then k else S.1 a) ≠ 0
    rw [if_pos rfl]; exact hk0
end JN
