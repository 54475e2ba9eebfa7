/-! STEPS. A context: what W is said of; a world: kinds, what may be written, what was there at the start -/
abbrev qCx := Program × Launch × Env × Room × State × MethodId × Array Value × List Frame × Method × Code × (State → Prop)
/-- D, array types, kinds, number of locals; which addresses may be written, the heap and the kinds at the start, kinds that may be raised, fields that may be written; how many unknowns stand from the start, and what they are; cells and slots made ahead -/
abbrev qGx := (va_G × List (ClassId × FieldType) × List qKD × Nat) × ((Nat → Prop) × Heap × qTy × List Nat × List (Nat × Nat)) × Nat × (Nat → Int) × Nat × Nat
abbrev q_W (C : qCx) (H : Heap) (locs : List Loc) (cells slots pc : Nat) (ls : Array Slot) (sk : List Value) : Prop :=
  W C.1 C.2.1 C.2.2.1 C.2.2.2.1 C.2.2.2.2.1 C.2.2.2.2.2.1 C.2.2.2.2.2.2.1 C.2.2.2.2.2.2.2.1 C.2.2.2.2.2.2.2.2.1 C.2.2.2.2.2.2.2.2.2.1 H locs cells slots C.2.2.2.2.2.2.2.2.2.2 (F0 C.2.2.2.2.2.1 pc ls sk)
abbrev q_D (G : qGx) : va_G := G.1.1
abbrev q_tys (G : qGx) : List (ClassId × FieldType) := G.1.2.1
abbrev q_KT (G : qGx) : List qKD := G.1.2.2.1
abbrev q_nL (G : qGx) : Nat := G.1.2.2.2
abbrev q_A (G : qGx) : Nat → Prop := G.2.1.1
abbrev q_H0 (G : qGx) : Heap := G.2.1.2.1
abbrev q_T0 (G : qGx) : qTy := G.2.1.2.2.1
abbrev q_U (G : qGx) : List Nat := G.2.1.2.2.2.1
abbrev q_M (G : qGx) : List (Nat × Nat) := G.2.1.2.2.2.2
abbrev q_n0 (G : qGx) : Nat := G.2.2.1
abbrev q_r0 (G : qGx) : Nat → Int := G.2.2.2.1
abbrev q_c0 (G : qGx) : Nat := G.2.2.2.2.1
abbrev q_s0 (G : qGx) : Nat := G.2.2.2.2.2
def q_rd (H : Heap) (a i : Nat) : Option Value := (H[a]?).bind (fun c => c.slots[i]?)
/-- a field (the elements) of a kind that is not written -/
def q_fp (KT : List qKD) (M : List (Nat × Nat)) (k j : Nat) : Prop := match KT[k]? with
  | some (0, _, _, fts) => j < fts.length ∧ (k, j) ∉ M
  | _ => (k, 0) ∉ M
def q_fr (G : qGx) (n : Nat) (r : Nat → Int) (T : qTy) (H : Heap) (locs : List Loc) : Prop :=
  q_n0 G ≤ n ∧ (∀ i, i < q_n0 G → r i = q_r0 G i) ∧ va_S (q_A G) (q_H0 G) H locs ∧ (∀ a k, T a = some k → q_A G a) ∧ q_leU (q_U G) (q_T0 G) T ∧
    ∀ a k, q_T0 G a = some k → k ∉ q_U G → ∀ j, q_fp (q_KT G) (q_M G) k j → q_rd H a (q_slot (q_D G) (q_KT G) k j) = q_rd (q_H0 G) a (q_slot (q_D G) (q_KT G) k j)
abbrev q_ab (G : qGx) (r : Nat → Int) (T : qTy) (st : qSt) (ls : Array Slot) (sk : List Value) (H : Heap) : Prop := q_abs (q_D G) (q_tys G) (q_KT G) (q_nL G) r T st ls sk H
def q_ok (C : qCx) (G : qGx) (pc : Nat) (st : qSt) : Prop := ∀ (r : Nat → Int) (T : qTy) (ls : Array Slot) (sk : List Value) (H : Heap) (locs : List Loc),
  q_ab G r T st ls sk H → q_fr G st.1 r T H locs → q_W C H locs (q_c0 G + st.2.2.2.2.2.1) (q_s0 G + st.2.2.2.2.2.2) pc ls sk
/-- what all rows need: the machine, the code -/
abbrev q_mc (C : qCx) (cc : ByteArray) : Prop := C.1.tables.exec = Jvm.exec ∧ C.2.2.2.2.2.2.2.2.2.1.code = cc
theorem q_fr.step {G : qGx} {n : Nat} {r : Nat → Int} {T : qTy} {H : Heap} {locs : List Loc} (h : q_fr G n r T H locs) (v : Int) : q_fr G (n + 1) (q_upr r n v) T H locs :=
  ⟨Nat.le_succ_of_le h.1, fun i hi => (q_upr_lt r n v i (Nat.lt_of_lt_of_le hi h.1)).trans (h.2.1 i hi), h.2.2⟩
/-- a step that makes no cell and writes none -/
theorem q_ok.pure {C : qCx} {G : qGx} {pc pc' : Nat} {st st' : qSt} (h : q_ok C G pc' st') (hk : st'.2.2.2.2.2 = st.2.2.2.2.2)
    (step : ∀ (r : Nat → Int) (T : qTy) (ls : Array Slot) (sk : List Value) (H : Heap) (locs : List Loc) (cells slots : Nat), q_ab G r T st ls sk H → q_fr G st.1 r T H locs →
      (∀ (r' : Nat → Int) (ls' : Array Slot) (sk' : List Value), q_ab G r' T st' ls' sk' H → q_fr G st'.1 r' T H locs → q_W C H locs cells slots pc' ls' sk') → q_W C H locs cells slots pc ls sk) : q_ok C G pc st := by
  intro r T ls sk H locs ha hf
  refine step r T ls sk H locs _ _ ha hf (fun r' ls' sk' ha' hf' => ?_)
  have := h r' T ls' sk' H locs ha' hf'
  rw [hk] at this
  exact this
def q_setk (st : qSt) (sk : List qAV) : qSt := (st.1, st.2.1, st.2.2.1, sk, st.2.2.2.2)
def q_setl (st : qSt) (lo : List (Nat × qAV)) : qSt := (st.1, st.2.1, lo, st.2.2.2)
def q_addh (st : qSt) (hs : List qLin) : qSt := (st.1, st.2.1 ++ hs, st.2.2)
theorem q_abs.setk {D : va_G} {tys : List (ClassId × FieldType)} {KT : List qKD} {nL : Nat} {r : Nat → Int} {T : qTy} {st : qSt} {ls : Array Slot} {sk sk' : List Value} {xs : List qAV} {H : Heap} (h : q_abs D tys KT nL r T st ls sk H) (hs : q_stk r T xs sk') : q_abs D tys KT nL r T (q_setk st xs) ls sk' H :=
  ⟨h.1, h.2.1, h.2.2.1, hs, h.2.2.2.2⟩
theorem q_abs.addh {D : va_G} {tys : List (ClassId × FieldType)} {KT : List qKD} {nL : Nat} {r : Nat → Int} {T : qTy} {st : qSt} {ls : Array Slot} {sk : List Value} {hs : List qLin} {H : Heap} (h : q_abs D tys KT nL r T st ls sk H) (hh : ∀ e ∈ hs, 0 ≤ q_ev r e) : q_abs D tys KT nL r T (q_addh st hs) ls sk H :=
  ⟨h.1, fun e he => by
    rcases List.mem_append.mp he with q | q
    · exact h.2.1 e q
    · exact hh e q, h.2.2⟩
/-- an unknown more, with what is known of it -/
def q_fresh (st : qSt) (hs : List qLin) : Option qSt := if q_wfs st.1 st = true then some (st.1 + 1, st.2.1 ++ hs, st.2.2) else none
theorem q_fresh_ok {G : qGx} {st st' : qSt} {hs : List qLin} (hf : q_fresh st hs = some st') {r : Nat → Int} {T : qTy} {ls : Array Slot} {sk : List Value} {H : Heap} {locs : List Loc} (h : q_ab G r T st ls sk H) (hr : q_fr G st.1 r T H locs) (v : Int) (hh : ∀ e ∈ hs, 0 ≤ q_ev (q_upr r st.1 v) e) :
    q_ab G (q_upr r st.1 v) T st' ls sk H ∧ q_fr G st'.1 (q_upr r st.1 v) T H locs ∧ st' = (st.1 + 1, st.2.1 ++ hs, st.2.2) := by
  unfold q_fresh at hf
  split at hf
  · rename_i hw
    cases hf
    have h2 := q_abs.wf (q_upr_lt r st.1 v) hw h
    exact ⟨(q_abs.addh h2 hh), hr.step v, rfl⟩
  · cases hf
/-- push a new int of a range -/
def q_pushI (st : qSt) (xs : List qAV) (hs : List qLin) : Option qSt := match q_fresh (q_setk st xs) hs with
  | some st' => some (q_setk st' ((0, 0, q_x st.1) :: xs))
  | none => none
theorem q_pushI_ok {G : qGx} {st st' : qSt} {xs : List qAV} {hs : List qLin} (hf : q_pushI st xs hs = some st') {r : Nat → Int} {T : qTy} {ls : Array Slot} {sk sk0 : List Value} {H : Heap} {locs : List Loc} (h : q_ab G r T st ls sk0 H) (hx : q_stk r T xs sk) (hr : q_fr G st.1 r T H locs) (y : Int32) (hh : ∀ e ∈ hs, 0 ≤ q_ev (q_upr r st.1 y.toInt) e) :
    q_ab G (q_upr r st.1 y.toInt) T st' ls (.int y :: sk) H ∧ q_fr G st'.1 (q_upr r st.1 y.toInt) T H locs ∧ st'.2.2.2.2.2 = st.2.2.2.2.2 := by
  unfold q_pushI at hf
  split at hf
  · rename_i st1 h1
    cases hf
    obtain ⟨g1, g2, g3⟩ := q_fresh_ok h1 (r := r) (h.setk hx) hr y.toInt hh
    subst g3
    refine ⟨g1.setk ⟨⟨y, rfl, ?_⟩, g1.2.2.2.1⟩, g2, rfl⟩
    show y.toInt = q_ev _ (q_x st.1)
    rw [q_ev_x]
    exact (q_upr_self r st.1 _).symm
  · cases hf
theorem q_upr0 {r : Nat → Int} (h0 : r 0 = 1) {n : Nat} (hn : 0 < n) (v : Int) : q_upr r n v 0 = 1 := by rw [q_upr_lt r n v 0 hn]; exact h0
/-- push any int -/
def q_pushA (st : qSt) (xs : List qAV) : Option qSt := if 0 < st.1 then q_pushI st xs (q_rng st.1 (-2147483648) 2147483647) else none
theorem q_pushA_ok {G : qGx} {st st' : qSt} {xs : List qAV} (hf : q_pushA st xs = some st') {r : Nat → Int} {T : qTy} {ls : Array Slot} {sk sk0 : List Value} {H : Heap} {locs : List Loc} (h : q_ab G r T st ls sk0 H) (hx : q_stk r T xs sk) (hr : q_fr G st.1 r T H locs) (y : Int32) :
    q_ab G (q_upr r st.1 y.toInt) T st' ls (.int y :: sk) H ∧ q_fr G st'.1 (q_upr r st.1 y.toInt) T H locs ∧ st'.2.2.2.2.2 = st.2.2.2.2.2 := by
  unfold q_pushA at hf
  split at hf
  · rename_i hn
    exact q_pushI_ok hf h hx hr y (q_rng_ok (q_upr0 h.1 hn _) (by rw [q_upr_self]; exact q_min y) (by rw [q_upr_self]; exact q_max y))
  · cases hf
/-- the stack's top -/
theorem q_stk.cons {r : Nat → Int} {T : qTy} {x : qAV} {xs : List qAV} {sk : List Value} (h : q_stk r T (x :: xs) sk) : ∃ (v : Value) (vs : List Value), sk = v :: vs ∧ q_av r T x v ∧ q_stk r T xs vs := by
  cases sk with
  | nil => cases h
  | cons v vs => exact ⟨v, vs, rfl, h.1, h.2⟩
