/-! STEPS 1: constants, locals, stack, longs -/
def q_find (i : Nat) : List (Nat × qAV) → Option qAV
  | [] => none
  | q :: t => if q.1 = i then some q.2 else q_find i t
theorem q_find_ok {r : Nat → Int} {T : qTy} {i : Nat} {x : qAV} : ∀ {xs : List (Nat × qAV)} {vs : List (Nat × Value)}, q_lvs r T xs vs → q_find i xs = some x → ∃ v, (i, v) ∈ vs ∧ q_av r T x v
  | [], [], _, h => by cases h
  | y :: ys, w :: ws, h, hf => by
    unfold q_find at hf
    split at hf
    · rename_i hi
      cases hf
      refine ⟨w.2, ?_, h.1.2⟩
      rw [← hi, h.1.1]
      exact List.mem_cons_self
    · obtain ⟨v, h1, h2⟩ := q_find_ok h.2 hf
      exact ⟨v, List.mem_cons_of_mem _ h1, h2⟩
theorem q_get {G : qGx} {r : Nat → Int} {T : qTy} {st : qSt} {ls : Array Slot} {sk : List Value} {H : Heap} (h : q_ab G r T st ls sk H) {i : Nat} {x : qAV} (hf : q_find i st.2.2.1 = some x) : ∃ v, ls[i]? = some (.val v) ∧ q_av r T x v := by
  obtain ⟨-, -, ⟨lv, h1, h2⟩, -⟩ := h
  obtain ⟨v, h3, h4⟩ := q_find_ok h2 hf
  exact ⟨v, h1.2.2 _ h3, h4⟩
section QP
variable {C : qCx} {G : qGx} {cc : ByteArray} {pc : Nat} {st : qSt}
abbrev q_sk (st : qSt) : List qAV := st.2.2.2.1
/-- a value is pushed -/
theorem q_s_push {pc' : Nat} {x : qAV} (h : q_ok C G pc' (q_setk st (x :: q_sk st)))
    (row : ∀ (r : Nat → Int) (T : qTy) (ls : Array Slot) (sk : List Value) (H : Heap) (locs : List Loc) (cells slots : Nat), q_ab G r T st ls sk H → (∀ v : Value, q_av r T x v → q_W C H locs cells slots pc' ls (v :: sk)) → q_W C H locs cells slots pc ls sk) : q_ok C G pc st := by
  refine q_ok.pure h rfl (fun r T ls sk H locs cells slots ha hf k => ?_)
  refine row r T ls sk H locs cells slots ha (fun v hv => ?_)
  exact k r ls (v :: sk) (ha.setk ⟨hv, ha.2.2.2.1⟩) hf
theorem q_s_int {pc' : Nat} {n : Int} (h : q_ok C G pc' (q_setk st ((0, 0, q_k n) :: q_sk st))) {y : Int32} (hy : y.toInt = n)
    (row : ∀ {H : Heap} {locs : List Loc} {cells slots : Nat} {ls : Array Slot} {sk : List Value}, q_W C H locs cells slots pc' ls (.int y :: sk) → q_W C H locs cells slots pc ls sk) : q_ok C G pc st :=
  q_s_push h (fun r T ls sk H locs cells slots ha k => row (k (.int y) ⟨y, rfl, by rw [hy]; exact (q_ev_k ha.1 n).symm⟩))
theorem q_s_long {pc' : Nat} {n : Int} (h : q_ok C G pc' (q_setk st ((5, 0, q_k n) :: q_sk st))) {y : Int64} (hy : y.toInt = n)
    (row : ∀ {H : Heap} {locs : List Loc} {cells slots : Nat} {ls : Array Slot} {sk : List Value}, q_W C H locs cells slots pc' ls (.long y :: sk) → q_W C H locs cells slots pc ls sk) : q_ok C G pc st :=
  q_s_push h (fun r T ls sk H locs cells slots ha k => row (k (.long y) ⟨y, rfl, by rw [hy]; exact (q_ev_k ha.1 n).symm⟩))
theorem q_s_load {pc' i : Nat} {x : qAV} (hf : q_find i st.2.2.1 = some x) (h : q_ok C G pc' (q_setk st (x :: q_sk st)))
    (row : ∀ {r : Nat → Int} {T : qTy} {H : Heap} {locs : List Loc} {cells slots : Nat} {ls : Array Slot} {sk : List Value} {v : Value}, q_av r T x v → ls[i]? = some (.val v) → q_W C H locs cells slots pc' ls (v :: sk) → q_W C H locs cells slots pc ls sk) : q_ok C G pc st :=
  q_s_push h (fun r T ls sk H locs cells slots ha k => by
    obtain ⟨v, h1, h2⟩ := q_get ha hf
    exact row h2 h1 (k v h2))
/-- the top goes into a local of one slot -/
theorem q_s_store1 {pc' i : Nat} {x : qAV} {xs : List qAV} (hsk : q_sk st = x :: xs) (h : q_ok C G pc' (q_setl (q_setk st xs) ((i, x) :: st.2.2.1.filter (q_lof1 i))))
    (row : ∀ {r : Nat → Int} {T : qTy} {H : Heap} {locs : List Loc} {cells slots : Nat} {ls : Array Slot} {sk : List Value} {v : Value} {lv : List (Nat × Value)}, q_av r T x v → lv_has ls (q_nL G) lv → (∀ ls' : Array Slot, lv_has ls' (q_nL G) ((i, v) :: lv.filter (fun q => !(q.1 == i) && !(q.1 + 1 == i && q.2.category == 2))) → q_W C H locs cells slots pc' ls' sk) → q_W C H locs cells slots pc ls (v :: sk)) : q_ok C G pc st := by
  refine q_ok.pure h rfl (fun r T ls sk H locs cells slots ha hf k => ?_)
  obtain ⟨h0, h1, ⟨lv, h2, h3⟩, h4, h5⟩ := ha
  have h4' : q_stk r T (q_sk st) sk := h4
  rw [hsk] at h4'
  obtain ⟨v, vs, rfl, hv, hvs⟩ := h4'.cons
  exact row hv h2 (fun ls' hl' => k r ls' vs ⟨h0, h1, ⟨_, hl', ⟨rfl, hv⟩, h3.f1 i⟩, hvs, h5⟩ hf)
theorem q_s_store2 {pc' i : Nat} {x : qAV} {xs : List qAV} (hsk : q_sk st = x :: xs) (h : q_ok C G pc' (q_setl (q_setk st xs) ((i, x) :: st.2.2.1.filter (q_lof2 i))))
    (row : ∀ {r : Nat → Int} {T : qTy} {H : Heap} {locs : List Loc} {cells slots : Nat} {ls : Array Slot} {sk : List Value} {v : Value} {lv : List (Nat × Value)}, q_av r T x v → lv_has ls (q_nL G) lv → (∀ ls' : Array Slot, lv_has ls' (q_nL G) ((i, v) :: lv.filter (fun q => !(q.1 == i) && (!(q.1 == i + 1) && !(q.1 + 1 == i && q.2.category == 2)))) → q_W C H locs cells slots pc' ls' sk) → q_W C H locs cells slots pc ls (v :: sk)) : q_ok C G pc st := by
  refine q_ok.pure h rfl (fun r T ls sk H locs cells slots ha hf k => ?_)
  obtain ⟨h0, h1, ⟨lv, h2, h3⟩, h4, h5⟩ := ha
  have h4' : q_stk r T (q_sk st) sk := h4
  rw [hsk] at h4'
  obtain ⟨v, vs, rfl, hv, hvs⟩ := h4'.cons
  exact row hv h2 (fun ls' hl' => k r ls' vs ⟨h0, h1, ⟨_, hl', ⟨rfl, hv⟩, h3.f2 i⟩, hvs, h5⟩ hf)
/-- two values of the stack's top make another one -/
theorem q_s_two {pc' : Nat} {x y z : qAV} {xs : List qAV} (hsk : q_sk st = x :: y :: xs) (h : q_ok C G pc' (q_setk st (z :: xs)))
    (row : ∀ {r : Nat → Int} {T : qTy} {H : Heap} {locs : List Loc} {cells slots : Nat} {ls : Array Slot} {sk : List Value} {v w : Value}, q_av r T x v → q_av r T y w → (∀ u : Value, q_av r T z u → q_W C H locs cells slots pc' ls (u :: sk)) → q_W C H locs cells slots pc ls (v :: w :: sk)) : q_ok C G pc st := by
  refine q_ok.pure h rfl (fun r T ls sk H locs cells slots ha hf k => ?_)
  have h4 : q_stk r T (q_sk st) sk := ha.2.2.2.1
  rw [hsk] at h4
  obtain ⟨v, vs, rfl, hv, hvs⟩ := h4.cons
  obtain ⟨w, ws, rfl, hw, hws⟩ := hvs.cons
  exact row hv hw (fun u hu => k r ls (u :: ws) (ha.setk ⟨hu, hws⟩) hf)
theorem q_s_one {pc' : Nat} {x z : qAV} {xs : List qAV} (hsk : q_sk st = x :: xs) (h : q_ok C G pc' (q_setk st (z :: xs)))
    (row : ∀ {r : Nat → Int} {T : qTy} {H : Heap} {locs : List Loc} {cells slots : Nat} {ls : Array Slot} {sk : List Value} {v : Value}, q_av r T x v → (∀ u : Value, q_av r T z u → q_W C H locs cells slots pc' ls (u :: sk)) → q_W C H locs cells slots pc ls (v :: sk)) : q_ok C G pc st := by
  refine q_ok.pure h rfl (fun r T ls sk H locs cells slots ha hf k => ?_)
  have h4 : q_stk r T (q_sk st) sk := ha.2.2.2.1
  rw [hsk] at h4
  obtain ⟨v, vs, rfl, hv, hvs⟩ := h4.cons
  exact row hv (fun u hu => k r ls (u :: vs) (ha.setk ⟨hu, hvs⟩) hf)
/-- one value of the stack's top makes any int -/
theorem q_s_any1 {pc' : Nat} {x : qAV} {xs : List qAV} {st' : qSt} (hsk : q_sk st = x :: xs) (hp : q_pushA st xs = some st') (h : q_ok C G pc' st')
    (row : ∀ {r : Nat → Int} {T : qTy} {H : Heap} {locs : List Loc} {cells slots : Nat} {ls : Array Slot} {sk : List Value} {v : Value}, q_av r T x v → (∀ u : Int32, q_W C H locs cells slots pc' ls (.int u :: sk)) → q_W C H locs cells slots pc ls (v :: sk)) : q_ok C G pc st := by
  have hk : st'.2.2.2.2.2 = st.2.2.2.2.2 := by
    unfold q_pushA at hp
    split at hp
    · unfold q_pushI at hp
      split at hp
      · rename_i st1 h1
        cases hp
        unfold q_fresh at h1
        split at h1
        · cases h1; rfl
        · cases h1
      · cases hp
    · cases hp
  refine q_ok.pure h hk (fun r T ls sk H locs cells slots ha hf k => ?_)
  have h4 : q_stk r T (q_sk st) sk := ha.2.2.2.1
  rw [hsk] at h4
  obtain ⟨v, vs, rfl, hv, hvs⟩ := h4.cons
  refine row hv (fun u => ?_)
  obtain ⟨g1, g2, -⟩ := q_pushA_ok hp ha hvs hf u
  exact k _ ls _ g1 g2
end QP
theorem q_k32 {n : Int} (h : -2147483648 ≤ n ∧ n ≤ 2147483647) : (Int32.ofInt n).toInt = n := Int32.toInt_ofInt_of_le (by omega) (by omega)
theorem q_k8 {n : Int} (h : -128 ≤ n ∧ n ≤ 127) : (Int8.ofInt n).toInt32.toInt = n := by rw [Int8.toInt_toInt32]; exact Int8.toInt_ofInt_of_le (by omega) (by omega)
theorem q_k16 {n : Int} (h : -32768 ≤ n ∧ n ≤ 32767) : (Int16.ofInt n).toInt32.toInt = n := by rw [Int16.toInt_toInt32]; exact Int16.toInt_ofInt_of_le (by omega) (by omega)
def q_isL (x : qAV) : Bool := x.1 == 1 || x.1 == 5
def q_isA (x : qAV) : Bool := x.1 == 2 || x.1 == 3 || x.1 == 4 || x.1 == 6
theorem q_av.L {r : Nat → Int} {T : qTy} {x : qAV} {v : Value} (hx : q_isL x = true) (h : q_av r T x v) : ∃ y : Int64, v = .long y := by
  obtain ⟨g, k, e⟩ := x
  simp only [q_isL, Bool.or_eq_true, beq_iff_eq] at hx
  rcases hx with hx | hx
  · subst hx; exact h
  · subst hx; obtain ⟨y, h1, -⟩ := h; exact ⟨y, h1⟩
theorem q_av.A {r : Nat → Int} {T : qTy} {x : qAV} {v : Value} (hx : q_isA x = true) (h : q_av r T x v) : v = .null ∨ ∃ b : Nat, v = .ref b := by
  obtain ⟨g, k, e⟩ := x
  simp only [q_isA, Bool.or_eq_true, beq_iff_eq] at hx
  rcases hx with ((hx | hx) | hx) | hx
  · subst hx; obtain ⟨b, h1, -⟩ := h; exact Or.inr ⟨b, h1⟩
  · subst hx; exact Or.inl h
  · subst hx
    rcases h with ⟨h1, -⟩ | ⟨b, h1, -⟩
    · exact Or.inl h1
    · exact Or.inr ⟨b, h1⟩
  · subst hx; obtain ⟨b, h1, -⟩ := h; exact Or.inr ⟨b, h1⟩
theorem q_av.I {r : Nat → Int} {T : qTy} {x : qAV} {v : Value} (hx : x.1 = 0) (h : q_av r T x v) : ∃ y : Int32, v = .int y ∧ y.toInt = q_ev r x.2.2 := by
  obtain ⟨g, k, e⟩ := x
  cases hx
  exact h
abbrev qSuc : Type := Option (List (Nat × qSt))
def q_one (pc : Nat) (o : Option qSt) : qSuc := match o with
  | some st => some [(pc, st)]
  | none => none
/-- a load of a local, of a sort -/
def q_ld (pc i : Nat) (srt : qAV → Bool) (st : qSt) : qSuc := match q_find i st.2.2.1 with
  | some x => if srt x = true then some [(pc, q_setk st (x :: q_sk st))] else none
  | none => none
def q_sto (pc i nL : Nat) (srt : qAV → Bool) (st : qSt) : qSuc := match q_sk st with
  | x :: xs => if srt x = true ∧ i < nL then some [(pc, q_setl (q_setk st xs) ((i, x) :: st.2.2.1.filter (q_lof1 i)))] else none
  | _ => none
def q_stoL (pc i nL : Nat) (st : qSt) : qSuc := match q_sk st with
  | x :: xs => if q_isL x = true ∧ i + 1 < nL then some [(pc, q_setl (q_setk st xs) ((i, x) :: st.2.2.1.filter (q_lof2 i)))] else none
  | _ => none
/-- two longs (or a long and an int above it) make a long -/
def q_ll (pc : Nat) (s1 : qAV → Bool) (st : qSt) : qSuc := match q_sk st with
  | x :: y :: xs => if s1 x = true ∧ q_isL y = true then some [(pc, q_setk st ((1, 0, []) :: xs))] else none
  | _ => none
def q_isI (x : qAV) : Bool := x.1 == 0
def q_st1 (nL : Nat) (kI kL : List (Nat × Int)) (ins : Instr) (pc : Nat) (st : qSt) : qSuc := match ins with
  | .iconst n => if -2147483648 ≤ n ∧ n ≤ 2147483647 then some [(pc + 1, q_setk st ((0, 0, q_k n) :: q_sk st))] else none
  | .bipush n => if -128 ≤ n ∧ n ≤ 127 then some [(pc + 2, q_setk st ((0, 0, q_k n) :: q_sk st))] else none
  | .sipush n => if -32768 ≤ n ∧ n ≤ 32767 then some [(pc + 3, q_setk st ((0, 0, q_k n) :: q_sk st))] else none
  | .iload_n k => q_ld (pc + 1) k q_isI st
  | .iload k => q_ld (pc + 2) k q_isI st
  | .lload_n k => q_ld (pc + 1) k q_isL st
  | .lload k => q_ld (pc + 2) k q_isL st
  | .aload_n k => q_ld (pc + 1) k q_isA st
  | .aload k => q_ld (pc + 2) k q_isA st
  | .istore_n k => q_sto (pc + 1) k nL q_isI st
  | .istore k => q_sto (pc + 2) k nL q_isI st
  | .astore_n k => q_sto (pc + 1) k nL q_isA st
  | .astore k => q_sto (pc + 2) k nL q_isA st
  | .lstore_n k => q_stoL (pc + 1) k nL st
  | .lstore k => q_stoL (pc + 2) k nL st
  | .aconst_null => some [(pc + 1, q_setk st ((3, 0, []) :: q_sk st))]
  | .lconst n => some [(pc + 1, q_setk st ((5, 0, q_k ((n : Nat) : Int)) :: q_sk st))]
  | .ladd => q_ll (pc + 1) q_isL st
  | .lsub => q_ll (pc + 1) q_isL st
  | .lmul => q_ll (pc + 1) q_isL st
  | .land => q_ll (pc + 1) q_isL st
  | .lor => q_ll (pc + 1) q_isL st
  | .lxor => q_ll (pc + 1) q_isL st
  | .lushr => q_ll (pc + 1) q_isI st
  | .lshl => q_ll (pc + 1) q_isI st
  | .lshr => q_ll (pc + 1) q_isI st
  | .i2l => (match q_sk st with
    | x :: xs => if q_isI x = true then some [(pc + 1, q_setk st ((1, 0, []) :: xs))] else none
    | _ => none)
  | .l2i => (match q_sk st with
    | x :: xs => if q_isL x = true then q_one (pc + 1) (q_pushA st xs) else none
    | _ => none)
  | .dup => (match q_sk st with
    | x :: xs => if q_cat x = 1 then some [(pc + 1, q_setk st (x :: x :: xs))] else none
    | _ => none)
  | .pop => (match q_sk st with
    | x :: xs => if q_cat x = 1 then some [(pc + 1, q_setk st xs)] else none
    | _ => none)
  | .dup2 => (match q_sk st with
    | x :: y :: xs => if q_cat x = 1 ∧ q_cat y = 1 then some [(pc + 1, q_setk st (x :: y :: x :: y :: xs))] else none
    | _ => none)
  | .goto off => if (pc : Int) + off = (((pc : Int) + off).toNat : Int) then some [(((pc : Int) + off).toNat, st)] else none
  | _ => none
