/-! STEPS 3: null and not, iinc, switches, constants of the pool, compares of longs -/
/-- in a whole state a value that is null or not becomes another -/
def q_rp (x y z : qAV) : qAV := if z = x then y else z
def q_rps (x y : qAV) (st : qSt) : qSt := (st.1, st.2.1, st.2.2.1.map (fun q => (q.1, q_rp x y q.2)), st.2.2.2.1.map (q_rp x y), st.2.2.2.2.1.map (fun c => (c.1, c.2.1, c.2.2.1, q_rp x y c.2.2.2)), st.2.2.2.2.2)
theorem q_rp_ok {r : Nat → Int} {T : qTy} {x y z : qAV} {v : Value} (h : ∀ w, q_av r T x w → q_av r T y w) (hz : q_av r T z v) : q_av r T (q_rp x y z) v := by
  unfold q_rp
  split
  · rename_i e; subst e; exact h v hz
  · exact hz
theorem q_stk.rp {r : Nat → Int} {T : qTy} {x y : qAV} (h : ∀ w, q_av r T x w → q_av r T y w) : ∀ {xs : List qAV} {vs : List Value}, q_stk r T xs vs → q_stk r T (xs.map (q_rp x y)) vs
  | [], [], _ => trivial
  | a :: xs, v :: vs, k => ⟨q_rp_ok h k.1, q_stk.rp h k.2⟩
theorem q_lvs.rp {r : Nat → Int} {T : qTy} {x y : qAV} (h : ∀ w, q_av r T x w → q_av r T y w) : ∀ {xs : List (Nat × qAV)} {vs : List (Nat × Value)}, q_lvs r T xs vs → q_lvs r T (xs.map (fun q => (q.1, q_rp x y q.2))) vs
  | [], [], _ => trivial
  | a :: xs, v :: vs, k => ⟨⟨k.1.1, q_rp_ok h k.1.2⟩, q_lvs.rp h k.2⟩
theorem q_rps_ok {G : qGx} {r : Nat → Int} {T : qTy} {st : qSt} {ls : Array Slot} {sk : List Value} {H : Heap} {x y : qAV} (h : ∀ w, q_av r T x w → q_av r T y w) (ha : q_ab G r T st ls sk H) : q_ab G r T (q_rps x y st) ls sk H := by
  obtain ⟨h0, h1, ⟨lv, h2, h3⟩, h4, h5, h6⟩ := ha
  refine ⟨h0, h1, ⟨lv, h2, h3.rp h⟩, h4.rp h, h5, fun c hc => ?_⟩
  obtain ⟨c', hc', rfl⟩ := List.mem_map.mp hc
  obtain ⟨a, cell, v, g1, g2, g3, g4, g5⟩ := h6 c' hc'
  exact ⟨a, cell, v, g1, g2, g3, g4, q_rp_ok h g5⟩
/-- known to be null, known not to be -/
theorem q_nul {r : Nat → Int} {T : qTy} {k : Nat} {e : qLin} (he : q_ev r e = -1) : ∀ w, q_av r T (4, k, e) w → q_av r T (3, 0, []) w := by
  intro w hw
  rcases hw with ⟨h1, -⟩ | ⟨b, -, -, h3⟩
  · exact h1
  · exfalso
    have h3 : (b : Int) = q_ev r e := h3
    omega
theorem q_nnl {r : Nat → Int} {T : qTy} {k b : Nat} {e : qLin} (he : (b : Int) = q_ev r e) : ∀ w, q_av r T (4, k, e) w → q_av r T (2, k, e) w := by
  intro w hw
  rcases hw with ⟨-, h2⟩ | hw
  · exfalso
    have h2 : q_ev r e = -1 := h2
    omega
  · exact hw
def q_nli (ins : Instr) : Option (Bool × Int) := match ins with
  | .ifnull off => some (true, off)
  | .ifnonnull off => some (false, off)
  | _ => none
def q_st4 (ins : Instr) (pc : Nat) (st : qSt) : qSuc := match q_nli ins with
  | some (z, off) => (match q_tgt pc off with
    | some t => (match q_sk st with
      | (2, _, _) :: xs => some [(if z = true then pc + 3 else t, q_setk st xs)]
      | (3, _, _) :: xs => some [(if z = true then t else pc + 3, q_setk st xs)]
      | (4, k, e) :: xs => some [(if z = true then t else pc + 3, q_rps (4, k, e) (3, 0, []) (q_setk st xs)), (if z = true then pc + 3 else t, q_rps (4, k, e) (2, k, e) (q_setk st xs))]
      | _ => none)
    | none => none)
  | none => none
section QP4
variable {C : qCx} {G : qGx} {cc : ByteArray} {pc : Nat} {st : qSt}
theorem q_row4N {ins : Instr} {z : Bool} {t : Nat} {off : Int} (hm : q_mc C cc) (hd : decode cc pc = .ok (ins, q_len ins)) (hi : q_nli ins = some (z, off)) (ht : (pc : Int) + off = (t : Int)) {H : Heap} {locs : List Loc} {cells slots : Nat} {ls : Array Slot} {sk : List Value}
    (k : q_W C H locs cells slots (if z = true then t else pc + 3) ls sk) : q_W C H locs cells slots pc ls (.null :: sk) := by
  obtain ⟨hx, hb⟩ := hm
  unfold q_nli at hi
  split at hi <;> cases hi
  · exact lv_ifnullN hx hb hd ht k
  · exact lv_ifnonnullN hx hb hd k
theorem q_row4R {ins : Instr} {z : Bool} {t b : Nat} {off : Int} (hm : q_mc C cc) (hd : decode cc pc = .ok (ins, q_len ins)) (hi : q_nli ins = some (z, off)) (ht : (pc : Int) + off = (t : Int)) {H : Heap} {locs : List Loc} {cells slots : Nat} {ls : Array Slot} {sk : List Value}
    (k : q_W C H locs cells slots (if z = true then pc + 3 else t) ls sk) : q_W C H locs cells slots pc ls (.ref b :: sk) := by
  obtain ⟨hx, hb⟩ := hm
  unfold q_nli at hi
  split at hi <;> cases hi
  · exact lv_ifnull hx hb hd k
  · exact lv_ifnonnull hx hb hd ht k
theorem q_st4_ok {ins : Instr} {ss : List (Nat × qSt)} (hm : q_mc C cc) (hd : decode cc pc = .ok (ins, q_len ins)) (h : q_st4 ins pc st = some ss) (hk : ∀ x ∈ ss, q_ok C G x.1 x.2) : q_ok C G pc st := by
  unfold q_st4 at h
  split at h
  · rename_i z off hi
    split at h
    · rename_i t htg
      have htg := q_tgt_ok htg
      split at h
      · rename_i k e xs hsk
        cases h
        refine q_ok.pure (q_h1 hk) rfl (fun r T ls sk H locs cells slots ha hf kk => ?_)
        have h4 : q_stk r T (q_sk st) sk := ha.2.2.2.1
        rw [hsk] at h4
        obtain ⟨v, vs, rfl, ⟨b, rfl, -⟩, hvs⟩ := h4.cons
        exact q_row4R hm hd hi htg (kk r ls vs (ha.setk hvs) hf)
      · rename_i k e xs hsk
        cases h
        refine q_ok.pure (q_h1 hk) rfl (fun r T ls sk H locs cells slots ha hf kk => ?_)
        have h4 : q_stk r T (q_sk st) sk := ha.2.2.2.1
        rw [hsk] at h4
        obtain ⟨v, vs, rfl, hv, hvs⟩ := h4.cons
        cases (show v = .null from hv)
        exact q_row4N hm hd hi htg (kk r ls vs (ha.setk hvs) hf)
      · rename_i k e xs hsk
        cases h
        have kn := hk _ List.mem_cons_self
        have kr := hk _ (List.mem_cons_of_mem _ List.mem_cons_self)
        intro r T ls sk H locs ha hf
        have h4 : q_stk r T (q_sk st) sk := ha.2.2.2.1
        rw [hsk] at h4
        obtain ⟨v, vs, rfl, hv, hvs⟩ := h4.cons
        rcases hv with ⟨rfl, he⟩ | ⟨b, rfl, hb, he⟩
        · exact q_row4N hm hd hi htg (kn r T ls vs H locs (q_rps_ok (q_nul he) (ha.setk hvs)) hf)
        · exact q_row4R hm hd hi htg (kr r T ls vs H locs (q_rps_ok (q_nnl he) (ha.setk hvs)) hf)
      · cases h
    · cases h
  · cases h
/-- iinc: the local's new form, or any int -/
def q_st5 (nL : Nat) (ins : Instr) (pc : Nat) (st : qSt) (ht : qHint) : qSuc := match ins with
  | .iinc i n => (match q_find i st.2.2.1 with
    | some (0, _, e) => if i < nL ∧ -2147483648 ≤ n ∧ n ≤ 2147483647 then (if ht.1 = 1 then (if q_in st.2.1 (q_add e (q_k n)) ht.2.1 = true then some [(pc + 3, q_setl st ((i, (0, 0, q_add e (q_k n))) :: st.2.2.1.filter (q_lof1 i)))] else none)
        else (match q_fresh st (q_rng st.1 (-2147483648) 2147483647) with
          | some st' => if 0 < st.1 then some [(pc + 3, q_setl st' ((i, (0, 0, q_x st.1)) :: st.2.2.1.filter (q_lof1 i)))] else none
          | none => none)) else none
    | _ => none)
  | _ => none
theorem q_st5_ok {ins : Instr} {ht : qHint} {ss : List (Nat × qSt)} (hm : q_mc C cc) (hd : decode cc pc = .ok (ins, q_len ins)) (h : q_st5 (q_nL G) ins pc st ht = some ss) (hk : ∀ x ∈ ss, q_ok C G x.1 x.2) : q_ok C G pc st := by
  obtain ⟨hx, hb⟩ := hm
  unfold q_st5 at h
  split at h
  · rename_i i n
    split at h
    · rename_i k0 e hfi
      split at h
      · rename_i hc
        obtain ⟨hi, hn⟩ := hc
        split at h
        · split at h
          · rename_i hin
            cases h
            refine q_ok.pure (q_h1 hk) rfl (fun r T ls sk H locs cells slots ha hf kk => ?_)
            obtain ⟨h0, h1, ⟨lv, h2, h3⟩, h5⟩ := ha
            obtain ⟨v, h6, y, rfl, hy⟩ := q_find_ok h3 hfi
            obtain ⟨j, hj⟩ := List.getElem?_of_mem h6
            obtain ⟨g1, g2⟩ := q_in_ok h0 h1 hin
            have hn2 := q_k32 hn
            have hy : y.toInt = q_ev r e := hy
            have hz : (y + Int32.ofInt n).toInt = q_ev r (q_add e (q_k n)) := by
              rw [q_ev_add, q_ev_k h0] at *
              rw [q_iadd, hn2, hy]
              · rw [hn2, hy]; exact g1
              · rw [hn2, hy]; exact g2
            exact lv_iinc hx hb hd h2 hj rfl hi rfl (fun ls' hl' => kk r ls' sk ⟨h0, h1, ⟨_, hl', ⟨rfl, _, rfl, hz⟩, h3.f1 i⟩, h5⟩ hf)
          · cases h
        · split at h
          · rename_i st' hfr
            split at h
            · rename_i hn0
              cases h
              refine q_ok.pure (q_h1 hk) ?_ (fun r T ls sk H locs cells slots ha hf kk => ?_)
              · unfold q_fresh at hfr
                split at hfr
                · cases hfr; rfl
                · cases hfr
              · obtain ⟨v, h6, -⟩ := q_find_ok ha.2.2.1.choose_spec.2 hfi
                obtain ⟨h0, h1, ⟨lv, h2, h3⟩, h5⟩ := id ha
                obtain ⟨v, h6, y, rfl, -⟩ := q_find_ok h3 hfi
                obtain ⟨j, hj⟩ := List.getElem?_of_mem h6
                refine lv_iinc hx hb hd h2 hj rfl hi rfl (fun ls' hl' => ?_)
                have ha2 := q_abs.wf (q_upr_lt r st.1 (y + Int32.ofInt n).toInt) (by
                  unfold q_fresh at hfr
                  split at hfr
                  · rename_i hw; exact hw
                  · cases hfr) ha
                have hst : st' = (st.1 + 1, st.2.1 ++ q_rng st.1 (-2147483648) 2147483647, st.2.2) := by
                  unfold q_fresh at hfr
                  split at hfr
                  · cases hfr; rfl
                  · cases hfr
                subst hst
                have h3' := (q_lvs.imp (xs := st.2.2.1) (vs := lv) (r := r) (r' := q_upr r st.1 (y + Int32.ofInt n).toInt) (T := T) (T' := T) (fun x hx v hv => hv.wf (q_upr_lt r st.1 _) (by
                  unfold q_fresh at hfr
                  split at hfr
                  · rename_i hw
                    simp only [q_wfs, Bool.and_eq_true, decide_eq_true_eq, List.all_eq_true] at hw
                    exact hw.1.1.2 x hx
                  · cases hfr)) h3)
                refine kk (q_upr r st.1 (y + Int32.ofInt n).toInt) ls' sk ⟨ha2.1, fun f hf2 => ?_, ⟨_, hl', ⟨rfl, _, rfl, ?_⟩, h3'.f1 i⟩, ha2.2.2.2⟩ (hf.step _)
                · rcases List.mem_append.mp hf2 with q | q
                  · exact ha2.2.1 f q
                  · exact q_rng_ok (q_upr0 h0 hn0 _) (by rw [q_upr_self]; exact q_min _) (by rw [q_upr_self]; exact q_max _) f q
                · show _ = q_ev _ (q_x st.1)
                  rw [q_ev_x, q_upr_self]
            · cases h
          · cases h
      · cases h
    · cases h
  · cases h
end QP4
