/-! STEPS 5: arrays -/
def q_alg (ins : Instr) : Option Nat := match ins with
  | .iaload => some 1
  | .aaload => some 2
  | .laload => some 3
  | .baload => some 4
  | _ => none
def q_asg (ins : Instr) : Option Nat := match ins with
  | .iastore => some 1
  | .aastore => some 2
  | .lastore => some 3
  | .bastore => some 4
  | _ => none
/-- an array of references to objects of a class, by the tables -/
def q_AR (s : State) (D : va_G) (tys : List (ClassId × FieldType)) (t ci : Nat) : Prop := ∃ (cA : ClassId) (N : String) (kA : Class) (comp : ClassId) (kc kv : Class), tys[t]? = some (cA, .object N) ∧ s.vm.classes[cA]? = some kA ∧ kA.kind = .array comp (.object N) ∧ s.vm.classes[comp]? = some kc ∧ s.vm.classes[D.1 ci]? = some kv ∧ s.vm.assignable (D.1 ci) comp = true
abbrev q_AT (s : State) (tys : List (ClassId × FieldType)) : Prop := ∀ (k : Nat) (q : ClassId × FieldType), tys[k]? = some q → ArrOfT s q.1 q.2
theorem q_idx {y : Int32} {n : Nat} (h1 : 0 ≤ y.toInt) (h2 : y.toInt < (n : Int)) : ¬ (y < 0 ∨ n ≤ y.toNatClampNeg) ∧ y.toNatClampNeg < n ∧ (y.toNatClampNeg : Int) = y.toInt := by
  have h3 : (y.toNatClampNeg : Int) = y.toInt := by
    show ((y.toInt.toNat : Nat) : Int) = y.toInt
    omega
  refine ⟨fun h => ?_, by omega, h3⟩
  rcases h with h | h
  · rw [Int32.lt_iff_toInt_lt] at h
    have : ¬ y.toInt < (0 : Int32).toInt := by show ¬ y.toInt < 0; omega
    exact this h
  · omega
section QP7
variable {C : qCx} {G : qGx} {cc : ByteArray} {pc : Nat} {st : qSt}
theorem q_rowL {ins : Instr} {g : Nat} {tys : List (ClassId × FieldType)} (hm : q_mc C cc) (hA : q_AT C.2.2.2.2.1 tys) (hi : q_alg ins = some g) (hd : decode cc pc = .ok (ins, q_len ins)) {H : Heap} {locs : List Loc} {cells slots : Nat} {ls : Array Slot} {sk : List Value} {a t n : Nat} {cA : ClassId} {ty : FieldType} {z : Nat → Value} {y : Int32}
    (ht : tys[t]? = some (cA, ty)) (hty : q_aty g ty) (hc : H[a]? = some (arrV cA n z)) (h1 : ¬ (y < 0 ∨ n ≤ y.toNatClampNeg)) (k : q_W C H locs cells slots (pc + 1) ls (z y.toNatClampNeg :: sk)) : q_W C H locs cells slots pc ls (.int y :: .ref a :: sk) := by
  obtain ⟨hx, hb⟩ := hm
  have hlt : y.toNatClampNeg < n := Nat.not_le.mp fun q => h1 (Or.inr q)
  have hin : ¬ (y < 0 ∨ (arrV cA n z).slots.size ≤ y.toNatClampNeg) := by rw [arrV_size]; exact h1
  have hv : (arrV cA n z).slots[y.toNatClampNeg]? = some (z y.toNatClampNeg) := arrV_read _ _ hlt
  have har := hA t _ ht n z
  have hkn : (arrV cA n z).vm ≠ .unknown := fun q => by cases q
  unfold q_alg at hi
  split at hi <;> cases hi
  · cases (show ty = .int from hty); exact W.iald hx hb hc har hkn hin hv rfl rfl hd k
  · obtain ⟨N, hN⟩ := hty; subst hN; exact W.aald hx hb hc har rfl hkn hin hv rfl rfl hd k
  · cases (show ty = .long from hty); exact W.lald hx hb hc har hkn hin hv rfl rfl hd k
  · cases (show ty = .boolean from hty); exact W.zald hx hb hc har hkn hin hv rfl rfl hd k
def q_stL (KT : List qKD) (ins : Instr) (pc : Nat) (st : qSt) (ht : qHint) : qSuc := match q_alg ins, q_sk st with
  | some g, (0, _, ei) :: (2, k, _) :: xs => (match KT[k]? with
    | some (g', _, n, [t]) => if g' = g ∧ q_vc st.2.1 ei ht.2.1 0 = true ∧ q_vc st.2.1 (q_sub (q_k ((n : Int) - 1)) ei) ht.2.1 1 = true then q_one (pc + 1) (q_pushF st xs t []) else none
    | _ => none)
  | _, _ => none
theorem q_alg_pos {ins : Instr} {g : Nat} (h : q_alg ins = some g) : ∃ g', g = g' + 1 := by
  unfold q_alg at h
  split at h <;> cases h
  · exact ⟨0, rfl⟩
  · exact ⟨1, rfl⟩
  · exact ⟨2, rfl⟩
  · exact ⟨3, rfl⟩
theorem q_stL_ok {ins : Instr} {ht : qHint} {ss : List (Nat × qSt)} (hm : q_mc C cc) (hA : q_AT C.2.2.2.2.1 (q_tys G)) (hd : decode cc pc = .ok (ins, q_len ins)) (h : q_stL (q_KT G) ins pc st ht = some ss) (hk : ∀ x ∈ ss, q_ok C G x.1 x.2) : q_ok C G pc st := by
  unfold q_stL at h
  split at h
  · rename_i g k1 ei k ea xs hi hsk
    split at h
    · rename_i g' t n ft hKT
      split at h
      · rename_i hc
        obtain ⟨rfl, c1, c2⟩ := hc
        unfold q_one at h
        split at h
        · rename_i st' hp
          cases h
          obtain ⟨g0, rfl⟩ := q_alg_pos hi
          refine q_ok.pure (q_h1 hk) (q_pushF_k hp) (fun r T ls sk H locs cells slots ha hf kk => ?_)
          have h4 : q_stk r T (q_sk st) sk := ha.2.2.2.1
          rw [hsk] at h4
          obtain ⟨v, vs, rfl, ⟨y, rfl, hy⟩, hvs⟩ := h4.cons
          obtain ⟨w, ws, rfl, ⟨b, rfl, hb, hbe⟩, hws⟩ := hvs.cons
          have g1 := q_vc_ok ha.1 ha.2.1 c1
          have g2 := q_vc_ok ha.1 ha.2.1 c2
          rw [q_ev_sub, q_ev_k ha.1] at g2
          have hy : y.toInt = q_ev r ei := hy
          obtain ⟨i1, i2, -⟩ := q_idx (y := y) (n := n) (by omega) (by omega)
          obtain ⟨d, cell, d1, d2, d3⟩ := ha.2.2.2.2.1 b k hb
          cases hKT.symm.trans d1
          obtain ⟨cA, ty, z, e1, e2, rfl, e4⟩ := d3
          refine q_rowL hm hA hi hd e1 e2 d2 i1 ?_
          obtain ⟨r', p1, p2⟩ := q_pushF_ok hp ha hws hf (e4 _ i2 ft (List.mem_singleton.mpr rfl)) (fun _ _ _ c hc => by cases hc)
          exact kk r' ls _ p1 p2
        · cases h
      · cases h
    · cases h
  · cases h
/-- an element that is known: of a known place -/
def q_stLc (KT : List qKD) (ins : Instr) (pc : Nat) (st : qSt) (ht : qHint) : qSuc := match q_alg ins, q_sk st with
  | some g, (0, _, ei) :: (2, k, e) :: xs => (match KT[k]?, q_kv ei, st.2.2.2.2.1[(ht.2.2.2.getD 0 0).toNat]? with
    | some (g', _, n, [_]), some i, some (e', k', j, x) => if ht.1 = 1 ∧ g' = g ∧ 0 ≤ i ∧ i.toNat < n ∧ e' = e ∧ k' = k ∧ j = i.toNat then some [(pc + 1, q_setk st (x :: xs))] else none
    | _, _, _ => none)
  | _, _ => none
theorem q_slotA {D : va_G} {KT : List qKD} {k g t n j : Nat} {fts : List qFT} (h : KT[k]? = some (g + 1, t, n, fts)) : q_slot D KT k j = j := by
  unfold q_slot
  rw [h]
  rfl
theorem q_stLc_ok {ins : Instr} {ht : qHint} {ss : List (Nat × qSt)} (hm : q_mc C cc) (hA : q_AT C.2.2.2.2.1 (q_tys G)) (hd : decode cc pc = .ok (ins, q_len ins)) (h : q_stLc (q_KT G) ins pc st ht = some ss) (hk : ∀ x ∈ ss, q_ok C G x.1 x.2) : q_ok C G pc st := by
  unfold q_stLc at h
  split at h
  · rename_i g k1 ei k e xs hi hsk
    split at h
    · rename_i g' t n ft i e' k' j x hKT hei hca
      split at h
      · rename_i hc
        obtain ⟨-, rfl, c2, c3, rfl, rfl, rfl⟩ := hc
        cases h
        obtain ⟨g0, rfl⟩ := q_alg_pos hi
        refine q_ok.pure (q_h1 hk) rfl (fun r T ls sk H locs cells slots ha hf kk => ?_)
        have h4 : q_stk r T (q_sk st) sk := ha.2.2.2.1
        rw [hsk] at h4
        obtain ⟨v0, vs0, rfl, ⟨y, rfl, hy⟩, hv0⟩ := h4.cons
        obtain ⟨v1, vs, rfl, ⟨b, rfl, hb, hbe⟩, hvs⟩ := hv0.cons
        have hy : y.toInt = q_ev r ei := hy
        rw [q_kv_ok ha.1 hei] at hy
        obtain ⟨i1, i2, i3⟩ := q_idx (y := y) (n := n) (by omega) (by omega)
        obtain ⟨d, cell, d1, d2, d3⟩ := ha.2.2.2.2.1 b k' hb
        cases hKT.symm.trans d1
        obtain ⟨cA, ty, z, e1, e2, rfl, e4⟩ := d3
        obtain ⟨a, cell', w, g1, g2, g3, g4, g5⟩ := ha.2.2.2.2.2 _ (List.mem_of_getElem? hca)
        have hba : a = b := by
          have g1 : (a : Int) = q_ev r e' := g1
          have hbe : (b : Int) = q_ev r e' := hbe
          omega
        subst hba
        cases d2.symm.trans g3
        have g4 : (arrV cA n z).slots[q_slot (q_D G) (q_KT G) k' i.toNat]? = some w := g4
        rw [q_slotA hKT, show i.toNat = y.toNatClampNeg by omega, arrV_read _ _ i2] at g4
        cases g4
        exact q_rowL hm hA hi hd e1 e2 d2 i1 (kk r ls _ (ha.setk ⟨g5, hvs⟩) hf)
      · cases h
    · cases h
  · cases h
/-- the length -/
def q_stN (KT : List qKD) (pc : Nat) (st : qSt) : qSuc := match q_sk st with
  | (2, k, _) :: xs => (match KT[k]? with
    | some (g + 1, _, n, _) => if n ≤ 2147483647 then some [(pc + 1, q_setk st ((0, 0, q_k (n : Int)) :: xs))] else none
    | _ => none)
  | _ => none
theorem q_stN_ok {ss : List (Nat × qSt)} (hm : q_mc C cc) (hA : q_AT C.2.2.2.2.1 (q_tys G)) (hd : decode cc pc = .ok (.arraylength, 1)) (h : q_stN (q_KT G) pc st = some ss) (hk : ∀ x ∈ ss, q_ok C G x.1 x.2) : q_ok C G pc st := by
  obtain ⟨hx, hb⟩ := hm
  unfold q_stN at h
  split at h
  · rename_i k ea xs hsk
    split at h
    · rename_i g t n fts hKT
      split at h
      · rename_i hn
        cases h
        refine q_ok.pure (q_h1 hk) rfl (fun r T ls sk H locs cells slots ha hf kk => ?_)
        have h4 : q_stk r T (q_sk st) sk := ha.2.2.2.1
        rw [hsk] at h4
        obtain ⟨w, ws, rfl, ⟨b, rfl, hbb, hbe⟩, hws⟩ := h4.cons
        obtain ⟨d, cell, d1, d2, d3⟩ := ha.2.2.2.2.1 b k hbb
        cases hKT.symm.trans d1
        obtain ⟨cA, ty, z, e1, e2, rfl, e4⟩ := d3
        refine W.alen (n := Int32.ofNat n) hx hb d2 (hA t _ e1 n z) (by rw [arrV_size] <;> rfl) rfl rfl hd (kk r ls _ (ha.setk ⟨⟨_, rfl, ?_⟩, hws⟩) hf)
        rw [Int32.toInt_ofNat_of_lt (by omega)]
        exact (q_ev_k ha.1 _).symm
      · cases h
    · cases h
  · cases h
theorem q_rowS {ins : Instr} {g : Nat} {tys : List (ClassId × FieldType)} {D : va_G} (hm : q_mc C cc) (hA : q_AT C.2.2.2.2.1 tys) (hi : q_asg ins = some g) (hd : decode cc pc = .ok (ins, q_len ins)) {H : Heap} {locs : List Loc} {cells slots : Nat} {ls : Array Slot} {sk : List Value} {a t n : Nat} {cA : ClassId} {ty : FieldType} {z : Nat → Value} {y : Int32} {v : Value}
    (ht : tys[t]? = some (cA, ty)) (hty : q_aty g ty) (hc : H[a]? = some (arrV cA n z)) (h1 : ¬ (y < 0 ∨ n ≤ y.toNatClampNeg))
    (hv : (g = 1 → ∃ x : Int32, v = .int x) ∧ (g = 3 → ∃ x : Int64, v = .long x) ∧ (g = 4 → ∃ x : Int32, v = .int x ∧ narrow .boolean v = v) ∧ (g = 2 → ∃ (b ci : Nat) (cv : Cell), v = .ref b ∧ H[b]? = some cv ∧ cv.vm = .none ∧ cv.cls = D.1 ci ∧ q_AR C.2.2.2.2.1 D tys t ci))
    (k : ∀ H' : Heap, H'[a]? = some ((arrV cA n z).setSlot y.toNatClampNeg v) → H'.size = H.size → (∀ q, q ≠ a → H'[q]? = H[q]?) → q_W C H' (locs ++ [⟨a, y.toNatClampNeg⟩]) cells slots (pc + 1) ls sk) : q_W C H locs cells slots pc ls (v :: .int y :: .ref a :: sk) := by
  obtain ⟨hx, hb⟩ := hm
  have hlt : y.toNatClampNeg < n := Nat.not_le.mp fun q => h1 (Or.inr q)
  have hin : ¬ (y < 0 ∨ (arrV cA n z).slots.size ≤ y.toNatClampNeg) := by rw [arrV_size]; exact h1
  have har := hA t _ ht n z
  have hkn : (arrV cA n z).vm ≠ .unknown := fun q => by cases q
  obtain ⟨v1, v3, v4, v2⟩ := hv
  unfold q_asg at hi
  split at hi <;> cases hi
  · cases (show ty = .int from hty); obtain ⟨x, rfl⟩ := v1 rfl; exact W.iast hx hb hc har hkn hin rfl rfl hd k
  · obtain ⟨b, ci, cv, rfl, b1, b2, b3, cA', N, kA, comp, kc, kv, b4, b5, b6, b7, b8, b9⟩ := v2 rfl
    cases ht.symm.trans b4
    exact W.aast hx hb hc (fun q h => by cases h) hkn b5 b6 rfl b7 ⟨fun q => h1 (Or.inl q), by rw [arrV_size]; exact hlt⟩ b1 (fun q h => by rw [b2] at h; cases h) (by rw [b3]; exact b8) (by rw [b3]; exact b9) rfl rfl hd k
  · cases (show ty = .long from hty); obtain ⟨x, rfl⟩ := v3 rfl; exact W.last hx hb hc har hkn hin rfl rfl hd k
  · cases (show ty = .boolean from hty); obtain ⟨x, rfl, hn⟩ := v4 rfl; exact W.zast hx hb hc har hkn hin rfl rfl hd (fun H' e1 e2 e3 => k H' (by rw [e1, hn]) e2 e3)
/-- which known places a write to an array leaves: of a known place those of others, else none of its kind -/
def q_cka (k : Nat) (ei : qLin) (c : qCa) : Bool := match q_kv ei with
  | some i => !(decide (c.2.1 = k) && decide ((c.2.2.1 : Int) = i))
  | none => !(decide (c.2.1 = k))
def q_c1 (ei : qLin) : Bool := match q_kv ei with
  | some i => decide (0 ≤ i)
  | none => false
def q_c2 (g : Nat) (t : qFT) (x : qAV) : Bool := match g with
  | 1 => t.1 == 0
  | 2 => t.1 == 2 || (t.1 == 4 && x.1 == 2)
  | 3 => t.1 == 1
  | _ => t.1 == 0 && q_fok t .boolean
def q_c3 (KT : List qKD) (at_ : List (Nat × Nat)) (ta : Nat) (x : qAV) : Bool := match KT[x.2.1]? with
  | some (0, ci, _, _) => decide ((ta, ci) ∈ at_)
  | _ => false
def q_stS (KT : List qKD) (M : List (Nat × Nat)) (at_ : List (Nat × Nat)) (ins : Instr) (pc : Nat) (st : qSt) (ht : qHint) : qSuc := match q_asg ins, q_sk st with
  | some g, x :: (0, _, ei) :: (2, k, ea) :: xs => (match KT[k]? with
    | some (g', ta, n, [t]) => if g' = g ∧ q_vc st.2.1 ei ht.2.1 2 = true ∧ q_vc st.2.1 (q_sub (q_k ((n : Int) - 1)) ei) ht.2.1 3 = true ∧ q_conf st.2.1 x t ht.2.1 = true ∧ (k, 0) ∈ M ∧ (ht.1 = 2 → q_c1 ei = true) ∧ q_c2 g t x = true ∧ (g = 2 → q_c3 KT at_ ta x = true) then
        some [(pc + 1, (st.1, st.2.1, st.2.2.1, xs, (if ht.1 = 2 then [(ea, k, ((q_kv ei).getD 0).toNat, x)] else []) ++ st.2.2.2.2.1.filter (q_cka k ei), st.2.2.2.2.2))] else none
    | _ => none)
  | _, _ => none
theorem q_asg_pos {ins : Instr} {g : Nat} (h : q_asg ins = some g) : ∃ g', g = g' + 1 := by
  unfold q_asg at h
  split at h <;> cases h
  · exact ⟨0, rfl⟩
  · exact ⟨1, rfl⟩
  · exact ⟨2, rfl⟩
  · exact ⟨3, rfl⟩
theorem q_stS_ok {at_ : List (Nat × Nat)} {ins : Instr} {ht : qHint} {ss : List (Nat × qSt)} (hm : q_mc C cc) (hA : q_AT C.2.2.2.2.1 (q_tys G)) (hat : ∀ t ci, (t, ci) ∈ at_ → q_AR C.2.2.2.2.1 (q_D G) (q_tys G) t ci) (hd : decode cc pc = .ok (ins, q_len ins)) (h : q_stS (q_KT G) (q_M G) at_ ins pc st ht = some ss) (hk : ∀ x ∈ ss, q_ok C G x.1 x.2) : q_ok C G pc st := by
  unfold q_stS at h
  split at h
  · rename_i g x k1 ei k ea xs hi hsk
    split at h
    · rename_i g' ta n t hKT
      split at h
      · rename_i hc
        obtain ⟨rfl, c1, c2, c3, c4, c5, c6, c7⟩ := hc
        cases h
        have hk := q_h1 hk
        obtain ⟨g0, rfl⟩ := q_asg_pos hi
        intro r T ls sk H locs ha hf
        have h4 : q_stk r T (q_sk st) sk := ha.2.2.2.1
        rw [hsk] at h4
        obtain ⟨v, vs, rfl, hv, hvs⟩ := h4.cons
        obtain ⟨v2, vs2, rfl, ⟨y, rfl, hy⟩, hvs2⟩ := hvs.cons
        obtain ⟨w, ws, rfl, ⟨b, rfl, hb, hbe⟩, hws⟩ := hvs2.cons
        have g1 := q_vc_ok ha.1 ha.2.1 c1
        have g2 := q_vc_ok ha.1 ha.2.1 c2
        rw [q_ev_sub, q_ev_k ha.1] at g2
        have hy : y.toInt = q_ev r ei := hy
        obtain ⟨i1, i2, i3⟩ := q_idx (y := y) (n := n) (by omega) (by omega)
        have hvt := q_conf_ok c3 ha.1 ha.2.1 hv
        obtain ⟨d, cell, d1, d2, d3⟩ := ha.2.2.2.2.1 b k hb
        cases hKT.symm.trans d1
        obtain ⟨cA, ty, z, e1, e2, e3, e4⟩ := id d3
        have hcl : H[b]? = some (arrV cA n z) := by rw [d2, e3]
        refine q_rowS (D := q_D G) hm hA hi hd e1 e2 hcl i1 ⟨fun hg => ?_, fun hg => ?_, fun hg => ?_, fun hg => ?_⟩ (fun H' e5 e6 e7 => ?_)
        · cases hg
          obtain ⟨g', k', lo, hi'⟩ := t
          have : g' = 0 := by simpa [q_c2] using c6
          subst this
          obtain ⟨q, hq, -⟩ := hvt
          exact ⟨q, hq⟩
        · cases hg
          obtain ⟨g', k', lo, hi'⟩ := t
          have : g' = 1 := by simpa [q_c2] using c6
          subst this
          exact hvt
        · cases hg
          obtain ⟨g', k', lo, hi'⟩ := t
          simp only [q_c2, Bool.and_eq_true, beq_iff_eq] at c6
          obtain ⟨rfl, c6⟩ := c6
          have hn := (q_fok_ok c6 hvt).1
          obtain ⟨q, hq, -⟩ := hvt
          exact ⟨q, hq, hn⟩
        · cases hg
          have c8 := c7 rfl
          unfold q_c3 at c8
          split at c8
          · rename_i ci n2 fts2 hKx
            have hx2 : x.1 = 2 := by
              obtain ⟨g', k', lo, hi'⟩ := t
              simp only [q_c2, Bool.or_eq_true, Bool.and_eq_true, beq_iff_eq] at c6
              rcases c6 with c6 | c6
              · have c6 : g' = 2 := c6
                subst c6
                simp only [q_conf, Bool.and_eq_true, decide_eq_true_eq] at c3
                exact c3.1
              · exact c6.2
            obtain ⟨gx, kx, ex⟩ := x
            cases hx2
            obtain ⟨bx, rfl, hbx, -⟩ := hv
            obtain ⟨d', cell', f1, f2, f3⟩ := ha.2.2.2.2.1 bx kx hbx
            cases hKx.symm.trans f1
            exact ⟨bx, ci, cell', rfl, f2, f3.1, f3.2.1, hat _ _ (by simpa using c8)⟩
          · cases c8
        · have d3' : q_cell (q_D G) (q_tys G) T (g0 + 1, ta, n, [t]) ((arrV cA n z).setSlot y.toNatClampNeg v) := by
            rw [← e3]
            exact q_cell.ast d3 (fun ft hft => by rw [List.mem_singleton.mp hft]; exact hvt)
          have hinv := ha.2.2.2.2.1.set hb hKT e5 d3' e7
          refine hk r T ls ws H' _ ⟨ha.1, ha.2.1, ha.2.2.1, hws, hinv, fun c hc => ?_⟩ (hf.putA hb hKT c4 e6 e7 _)
          rcases List.mem_append.mp hc with hc | hc
          · split at hc
            · rename_i hm2
              rw [List.mem_singleton.mp hc]
              have c5 := c5 hm2
              unfold q_c1 at c5
              split at c5
              · rename_i i hkv
                have hi0 : 0 ≤ i := by simpa using c5
                have hei := q_kv_ok ha.1 hkv
                refine ⟨b, _, v, hbe, hb, e5, ?_, hv⟩
                rw [q_slotA hKT]
                show ((arrV cA n z).setSlot y.toNatClampNeg v).slots[((q_kv ei).getD 0).toNat]? = some v
                rw [hkv]
                have : (Option.getD (some i) 0).toNat = y.toNatClampNeg := by show i.toNat = _; omega
                rw [this]
                exact Cell.slots_setSlot_self _ (by rw [arrV_size]; exact i2)
              · cases c5
            · cases hc
          · obtain ⟨hc1, hc2⟩ := List.mem_filter.mp hc
            obtain ⟨b', cb, w', p1, p2, p3, p4, p5⟩ := ha.2.2.2.2.2 c hc1
            by_cases hbb : b' = b
            · subst hbb
              have hck : c.2.1 = k := Option.some.inj (p2.symm.trans hb)
              unfold q_cka at hc2
              split at hc2
              · rename_i i hkv
                have hei := q_kv_ok ha.1 hkv
                have hne : ¬ (c.2.2.1 : Int) = i := by simpa [hck] using hc2
                refine ⟨b', _, w', p1, p2, e5, ?_, p5⟩
                rw [hck, q_slotA hKT] at p4 ⊢
                cases hcl.symm.trans p3
                rw [Cell.slots_setSlot_ne _ (by omega)]
                exact p4
              · simp [hck] at hc2
            · exact ⟨b', cb, w', p1, p2, (e7 b' hbb).trans p3, p4, p5⟩
      · cases h
    · cases h
  · cases h
end QP7
