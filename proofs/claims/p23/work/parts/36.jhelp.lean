/-! SHORTER ROWS, as the printed ones use them -/
theorem j_cmp_ge {a b : Int} : 0 ≤ j_cmp a b ↔ b ≤ a := by unfold j_cmp; split <;> (try split) <;> omega
theorem j_cmp_gt {a b : Int} : 0 < j_cmp a b ↔ b < a := by unfold j_cmp; split <;> (try split) <;> omega
/-- a reference is put -/
abbrev j_sp (S : jS) (a i x : Int) : jS := (S.1, j_up S.2 a i x)
/-- an array of n ints (longs) -/
def j_arrK (KT : List qKD) (S : jS) (a : Int) (n : Nat) : Prop := S.1 a ≠ 0 ∧ ∃ t z : Nat, KT[S.1 a]? = some (1, t, n, [(0, z, -2147483648, 2147483647)])
def j_arrLK (KT : List qKD) (S : jS) (a : Int) (n : Nat) : Prop := S.1 a ≠ 0 ∧ ∃ (t z : Nat) (l u : Int), KT[S.1 a]? = some (3, t, n, [(1, z, l, u)])
section JX
variable {KT : List qKD} {nL : Nat} {C : qCx} {G : jG} {cc : ByteArray} {pc : Nat} {lo : List (Nat × jV)} {sk : List jV} {S : jS} {V : jH} {nc ns : Nat}
theorem j_iald {n : Nat} {a i : Int} (E : j_E C cc G) (hd : decode cc pc = .ok (.iaload, 1)) (hA : j_arrK KT S a n) (h0 : 0 ≤ i) (hn : i < (n : Int)) (h : j_ok KT nL C G (pc + 1) lo ((0, V a i) :: sk) S V nc ns) : j_ok KT nL C G pc lo ((0, i) :: (2, a) :: sk) S V nc ns := by
  obtain ⟨h1, t, z, h2⟩ := hA
  exact j_iaload E hd rfl h1 h2 h0 hn h
theorem j_iast {n : Nat} {a i x : Int} (E : j_E C cc G) (hd : decode cc pc = .ok (.iastore, 1)) (hA : j_arrK KT S a n) (h0 : 0 ≤ i) (hn : i < (n : Int)) (h : j_ok KT nL C G (pc + 1) lo sk S (j_up V a i x) nc ns) : j_ok KT nL C G pc lo ((0, x) :: (0, i) :: (2, a) :: sk) S V nc ns := by
  obtain ⟨h1, t, z, h2⟩ := hA
  exact j_iastore E hd rfl h1 h2 h0 hn h
theorem j_lald {n : Nat} {a i : Int} (E : j_E C cc G) (hd : decode cc pc = .ok (.laload, 1)) (hA : j_arrLK KT S a n) (h0 : 0 ≤ i) (hn : i < (n : Int)) (h : j_ok KT nL C G (pc + 1) lo ((1, V a i) :: sk) S V nc ns) : j_ok KT nL C G pc lo ((0, i) :: (2, a) :: sk) S V nc ns := by
  obtain ⟨h1, t, z, l, u, h2⟩ := hA
  exact j_laload E hd rfl h1 h2 h0 hn h
theorem j_last {n : Nat} {a i x : Int} (E : j_E C cc G) (hd : decode cc pc = .ok (.lastore, 1)) (hA : j_arrLK KT S a n) (h0 : 0 ≤ i) (hn : i < (n : Int)) (h : j_ok KT nL C G (pc + 1) lo sk S (j_up V a i x) nc ns) : j_ok KT nL C G pc lo ((1, x) :: (0, i) :: (2, a) :: sk) S V nc ns := by
  obtain ⟨h1, t, z, l, u, h2⟩ := hA
  exact j_lastore E hd rfl h1 h2 h0 hn h
theorem j_alenA {n : Nat} {a : Int} (E : j_E C cc G) (hd : decode cc pc = .ok (.arraylength, 1)) (hA : j_arrK KT S a n) (hn : n < 2 ^ 31) (h : j_ok KT nL C G (pc + 1) lo ((0, (n : Int)) :: sk) S V nc ns) : j_ok KT nL C G pc lo ((2, a) :: sk) S V nc ns := by
  obtain ⟨h1, t, z, h2⟩ := hA
  exact j_alen (g := 0) E hd rfl h1 h2 hn h
theorem j_cpA {idx n0 n1 : Nat} {src sp dst dp n : Int} (E : j_E C cc G) (hF : j_Kcp C cc nL idx) (hd : decode cc pc = .ok (.invokestatic idx, 3)) (h0 : j_arrK KT S src n0) (h1 : j_arrK KT S dst n1) (hn : 0 ≤ n) (hsp : 0 ≤ sp) (hdp : 0 ≤ dp) (hs : sp + n ≤ (n0 : Int)) (hdd : dp + n ≤ (n1 : Int)) (hcat : (sk.map j_cat).sum ≤ 8)
    (h : j_ok KT nL C G (pc + 3) lo sk S (j_cpy V src sp dst dp n) nc ns) : j_ok KT nL C G pc lo ((0, n) :: (0, dp) :: (2, dst) :: (0, sp) :: (2, src) :: sk) S V nc ns := by
  obtain ⟨g1, t, z, g2⟩ := h0
  obtain ⟨e1, t', z', e2⟩ := h1
  exact j_copy E hF hd rfl g1 g2 rfl e1 e2 hn hsp hdp hs hdd hcat h
theorem j_getS {idx ci f n k z : Nat} {fts : List qFT} {l u a x : Int} (hF : q_Fget C cc G.1 idx ci f) (hd : decode cc pc = .ok (.getfield idx, 3)) (hk : S.1 a = k) (hk0 : k ≠ 0) (hKT : KT[k]? = some (0, ci, n, fts)) (hf : fts[f]? = some (4, z, l, u)) (hx : S.2 a (f : Int) = x) (h : j_ok KT nL C G (pc + 3) lo ((2, x) :: sk) S V nc ns) : j_ok KT nL C G pc lo ((2, a) :: sk) S V nc ns := by
  subst hx
  exact j_getR hF hd hk hk0 hKT hf h
theorem j_aaldS {t n k z : Nat} {l u a i x : Int} (E : j_E C cc G) (hd : decode cc pc = .ok (.aaload, 1)) (hk : S.1 a = k) (hk0 : k ≠ 0) (hKT : KT[k]? = some (2, t, n, [(4, z, l, u)])) (h0 : 0 ≤ i) (hn : i < (n : Int)) (hx : S.2 a i = x) (h : j_ok KT nL C G (pc + 1) lo ((2, x) :: sk) S V nc ns) : j_ok KT nL C G pc lo ((0, i) :: (2, a) :: sk) S V nc ns := by
  subst hx
  exact j_aaload E hd hk hk0 hKT h0 hn h
theorem j_eqT {t : Nat} {a b : Int} (e : a = b) (h : j_ok KT nL C G pc lo ((t, b) :: sk) S V nc ns) : j_ok KT nL C G pc lo ((t, a) :: sk) S V nc ns := by
  subst e
  exact h
theorem j_pick (ps : List Nat) {lo' : List (Nat × jV)} (hl : ps.filterMap (fun i => lo[i]?) = lo') (h : j_ok KT nL C G pc lo' sk S V nc ns) : j_ok KT nL C G pc lo sk S V nc ns := by
  refine j_sub (fun q hq => ?_) h
  rw [← hl] at hq
  obtain ⟨i, -, hi⟩ := List.mem_filterMap.mp hq
  exact List.mem_of_getElem? hi
end JX
theorem j_cpy_ne {V : jH} {src sp dst dp n b : Int} (h : b ≠ dst) : j_cpy V src sp dst dp n b = V b := by
  funext j
  simp [j_cpy, h]
theorem j_nsk {S : jS} {a b : Int} {k k' : Nat} (hfr : S.1 a = 0) (h : S.1 b = k) (hk : k ≠ 0) : (j_ns S a k').1 b = k := by
  have hne : b ≠ a := fun e => hk (by rw [← h, e]; exact hfr)
  show (if b = a then k' else S.1 b) = k
  rw [if_neg hne]; exact h
theorem j_nsa (S : jS) (a : Int) (k : Nat) : (j_ns S a k).1 a = k := if_pos rfl
/-- the ends, by what comes back -/
abbrev j_Rv (KT : List qKD) (nL : Nat) (C : qCx) (G : jG) (cc : ByteArray) (mc ms : Nat) (qf : jS → jH → Prop) : Prop := ∀ (pc : Nat) (lo : List (Nat × jV)) (S : jS) (V : jH) (nc ns : Nat), decode cc pc = .ok (.return_, 1) → qf S V → nc ≤ mc → ns ≤ ms → j_ok KT nL C G pc lo [] S V nc ns
abbrev j_Ri (KT : List qKD) (nL : Nat) (C : qCx) (G : jG) (cc : ByteArray) (mc ms : Nat) (qf : Int → jS → jH → Prop) : Prop := ∀ (pc : Nat) (lo : List (Nat × jV)) (r : Int) (S : jS) (V : jH) (nc ns : Nat), decode cc pc = .ok (.ireturn, 1) → qf r S V → nc ≤ mc → ns ≤ ms → j_ok KT nL C G pc lo [(0, r)] S V nc ns
abbrev j_Rz (KT : List qKD) (nL : Nat) (C : qCx) (G : jG) (cc : ByteArray) (mc ms : Nat) (qf : Int → jS → jH → Prop) : Prop := ∀ (pc : Nat) (lo : List (Nat × jV)) (r : Int) (S : jS) (V : jH) (nc ns : Nat), decode cc pc = .ok (.ireturn, 1) → 0 ≤ r ∧ r ≤ 1 → qf r S V → nc ≤ mc → ns ≤ ms → j_ok KT nL C G pc lo [(0, r)] S V nc ns
abbrev j_Rl (KT : List qKD) (nL : Nat) (C : qCx) (G : jG) (cc : ByteArray) (mc ms : Nat) (qf : Int → jS → jH → Prop) : Prop := ∀ (pc : Nat) (lo : List (Nat × jV)) (r : Int) (S : jS) (V : jH) (nc ns : Nat), decode cc pc = .ok (.lreturn, 1) → qf r S V → nc ≤ mc → ns ≤ ms → j_ok KT nL C G pc lo [(1, r)] S V nc ns
abbrev j_Rr (KT : List qKD) (nL : Nat) (C : qCx) (G : jG) (cc : ByteArray) (mc ms : Nat) (qf : Int → jS → jH → Prop) : Prop := ∀ (pc : Nat) (lo : List (Nat × jV)) (r : Int) (S : jS) (V : jH) (nc ns : Nat), decode cc pc = .ok (.areturn, 1) → qf r S V → nc ≤ mc → ns ≤ ms → j_ok KT nL C G pc lo [(2, r)] S V nc ns
/-! Math.max, Math.min -/
def j_Kmx (f : Int32 → Int32 → Int32) (C : qCx) (cc : ByteArray) (nL idx : Nat) : Prop := ∀ (pc : Nat) (H : Heap) (locs : List Loc) (cells slots : Nat) (ls : Array Slot) (sk : List Value) (x y : Int32), decode cc pc = .ok (.invokestatic idx, 3) → ls.size = nL → (sk.map fun v => v.category).sum ≤ 8 → cells ≤ C.2.2.2.1.cells → slots ≤ C.2.2.2.1.slots → q_W C H locs cells slots (pc + 3) ls (.int (f x y) :: sk) → q_W C H locs cells slots pc ls (.int y :: .int x :: sk)
theorem j_Kmax_of {C : qCx} {cc : ByteArray} {nL idx : Nat} {own : String} (hm : q_mc C cc) (hml : C.2.2.2.2.2.2.2.2.2.1.maxLocals = nL) (ho : q_ow C own) (hlink : (Cond.methodLink own idx Lib.Math.max.name).before (q_ar_ C) (q_s C) = true) (hstat : (Cond.static Lib.Math.max.name).before (q_ar_ C) (q_s C) = true) (hini : (Cond.initialized "java/lang/Math").before (q_ar_ C) (q_s C) = true) (hcode : (Cond.code Lib.Math.max.name Lib.Math.max.code 2 (some .int)).before (q_ar_ C) (q_s C) = true) (hR : 1 ≤ C.2.2.2.1.frames ∧ 21 ≤ C.2.2.2.1.locals) : j_Kmx (fun x y => if x < y then y else x) C cc nL idx :=
  fun pc H locs cells slots ls sk x y hd hls hcat hc hs k => va_mmax hm.1 hm.2 (by rw [hls, hml]) ho hlink hstat hini hcode hR.1 (by omega) hc hs hd k
theorem j_Kmin_of {C : qCx} {cc : ByteArray} {nL idx : Nat} {own : String} (hm : q_mc C cc) (hml : C.2.2.2.2.2.2.2.2.2.1.maxLocals = nL) (ho : q_ow C own) (hlink : (Cond.methodLink own idx Lib.Math.min.name).before (q_ar_ C) (q_s C) = true) (hstat : (Cond.static Lib.Math.min.name).before (q_ar_ C) (q_s C) = true) (hini : (Cond.initialized "java/lang/Math").before (q_ar_ C) (q_s C) = true) (hcode : (Cond.code Lib.Math.min.name Lib.Math.min.code 2 (some .int)).before (q_ar_ C) (q_s C) = true) (hR : 1 ≤ C.2.2.2.1.frames ∧ 21 ≤ C.2.2.2.1.locals) : j_Kmx (fun x y => if y < x then y else x) C cc nL idx :=
  fun pc H locs cells slots ls sk x y hd hls hcat hc hs k => va_mmin hm.1 hm.2 (by rw [hls, hml]) ho hlink hstat hini hcode hR.1 (by omega) hc hs hd k
section JM
variable {KT : List qKD} {nL : Nat} {C : qCx} {G : jG} {cc : ByteArray} {pc : Nat} {lo : List (Nat × jV)} {sk : List jV} {S : jS} {V : jH} {nc ns : Nat}
theorem j_max {idx : Nat} {a b : Int} (hF : j_Kmx (fun x y => if x < y then y else x) C cc nL idx) (hd : decode cc pc = .ok (.invokestatic idx, 3)) (hcat : (sk.map j_cat).sum ≤ 8) (hc : nc ≤ C.2.2.2.1.cells) (hs : ns ≤ C.2.2.2.1.slots) (h : j_ok KT nL C G (pc + 3) lo ((0, max a b) :: sk) S V nc ns) : j_ok KT nL C G pc lo ((0, b) :: (0, a) :: sk) S V nc ns := by
  refine j_pure h (fun ad ls vs H locs h2 h3 kk => ?_)
  obtain ⟨v, ws, rfl, ⟨y, rfl, e2⟩, h4⟩ := h3.cons
  obtain ⟨w, us, rfl, ⟨x, rfl, e3⟩, h5⟩ := h4.cons
  have e2 : y.toInt = b := e2
  have e3 : x.toInt = a := e3
  have hls : ls.size = nL := by obtain ⟨lv, l1, -⟩ := h2; exact l1.1
  refine hF pc H locs nc ns ls us x y hd hls (by rw [h5.cats]; exact hcat) hc hs (kk ls _ h2 ⟨⟨_, rfl, ?_⟩, h5⟩)
  show (if x < y then y else x).toInt = max a b
  rw [Int.max_def]
  split
  · rename_i q; rw [Int32.lt_iff_toInt_lt] at q; rw [if_pos (by omega)]; exact e2
  · rename_i q; rw [Int32.lt_iff_toInt_lt] at q; split <;> omega
theorem j_min {idx : Nat} {a b : Int} (hF : j_Kmx (fun x y => if y < x then y else x) C cc nL idx) (hd : decode cc pc = .ok (.invokestatic idx, 3)) (hcat : (sk.map j_cat).sum ≤ 8) (hc : nc ≤ C.2.2.2.1.cells) (hs : ns ≤ C.2.2.2.1.slots) (h : j_ok KT nL C G (pc + 3) lo ((0, min a b) :: sk) S V nc ns) : j_ok KT nL C G pc lo ((0, b) :: (0, a) :: sk) S V nc ns := by
  refine j_pure h (fun ad ls vs H locs h2 h3 kk => ?_)
  obtain ⟨v, ws, rfl, ⟨y, rfl, e2⟩, h4⟩ := h3.cons
  obtain ⟨w, us, rfl, ⟨x, rfl, e3⟩, h5⟩ := h4.cons
  have e2 : y.toInt = b := e2
  have e3 : x.toInt = a := e3
  have hls : ls.size = nL := by obtain ⟨lv, l1, -⟩ := h2; exact l1.1
  refine hF pc H locs nc ns ls us x y hd hls (by rw [h5.cats]; exact hcat) hc hs (kk ls _ h2 ⟨⟨_, rfl, ?_⟩, h5⟩)
  show (if y < x then y else x).toInt = min a b
  rw [Int.min_def]
  split
  · rename_i q; rw [Int32.lt_iff_toInt_lt] at q; split <;> omega
  · rename_i q; rw [Int32.lt_iff_toInt_lt] at q; rw [if_pos (by omega)]; exact e3
end JM
