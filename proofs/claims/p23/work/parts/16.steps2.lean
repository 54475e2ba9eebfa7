/-! STEPS 2: operations on ints, branches -/
def q_opc (ins : Instr) : Option Nat := match ins with
  | .iadd => some 0
  | .isub => some 1
  | .imul => some 2
  | .iand => some 3
  | .ior => some 4
  | .ixor => some 5
  | .ishl => some 6
  | .ishr => some 7
  | .iushr => some 8
  | .idiv => some 9
  | .irem => some 10
  | _ => none
def q_push2 (st : qSt) (xs : List qAV) (res : qRes) : Option qSt := if res.1 = true then some (q_setk st ((0, 0, res.2.1) :: xs)) else if 0 < st.1 then q_pushI st xs res.2.2 else none
theorem q_pushI_k {st st' : qSt} {xs : List qAV} {hs : List qLin} (hp : q_pushI st xs hs = some st') : st'.2.2.2.2.2 = st.2.2.2.2.2 := by
  unfold q_pushI at hp
  split at hp
  · rename_i st1 h1
    cases hp
    unfold q_fresh at h1
    split at h1
    · cases h1; rfl
    · cases h1
  · cases hp
theorem q_push2_k {st st' : qSt} {xs : List qAV} {res : qRes} (hp : q_push2 st xs res = some st') : st'.2.2.2.2.2 = st.2.2.2.2.2 := by
  unfold q_push2 at hp
  split at hp
  · cases hp; rfl
  · split at hp
    · exact q_pushI_k hp
    · cases hp
/-- a result is pushed -/
theorem q_push2_ok {G : qGx} {st st' : qSt} {xs : List qAV} {res : qRes} (hp : q_push2 st xs res = some st') {r : Nat → Int} {T : qTy} {ls : Array Slot} {sk sk0 : List Value} {H : Heap} {locs : List Loc} (h : q_ab G r T st ls sk0 H) (hx : q_stk r T xs sk) (hr : q_fr G st.1 r T H locs) {z : Int32} (hz : q_RS st.1 r z res) :
    ∃ r', q_ab G r' T st' ls (.int z :: sk) H ∧ q_fr G st'.1 r' T H locs := by
  unfold q_push2 at hp
  split at hp
  · rename_i hb
    cases hp
    exact ⟨r, h.setk ⟨⟨z, rfl, hz.1 hb⟩, hx⟩, hr⟩
  · rename_i hb
    split at hp
    · rename_i hn
      obtain ⟨g1, g2, -⟩ := q_pushI_ok hp h hx hr z (hz.2 (by simpa using hb) _ (q_upr_lt _ _ _) (q_upr0 h.1 hn _) (q_upr_self _ _ _))
      exact ⟨_, g1, g2⟩
    · cases hp
def q_st2 (ins : Instr) (pc : Nat) (st : qSt) (ht : qHint) : qSuc := match q_opc ins, q_sk st with
  | some op, (0, _, e2) :: (0, _, e1) :: xs => (match q_ar op ht.1 st.1 st.2.1 e1 e2 ht.2.1 ht.2.2.2 with
    | some res => q_one (pc + 1) (q_push2 st xs res)
    | none => none)
  | _, _ => none
section QP2
variable {C : qCx} {G : qGx} {cc : ByteArray} {pc : Nat} {st : qSt}
theorem q_row2 {ins : Instr} {op : Nat} (hm : q_mc C cc) (hd : decode cc pc = .ok (ins, q_len ins)) (ho : q_opc ins = some op) {H : Heap} {locs : List Loc} {cells slots : Nat} {ls : Array Slot} {sk : List Value} {x y : Int32} (h0 : 9 ≤ op → ¬ y = 0) (k : q_W C H locs cells slots (pc + 1) ls (.int (q_fn op x y) :: sk)) : q_W C H locs cells slots pc ls (.int y :: .int x :: sk) := by
  obtain ⟨hx, hb⟩ := hm
  unfold q_opc at ho
  split at ho
  · cases ho; exact lv_iadd hx hb hd k
  · cases ho; exact lv_isub hx hb hd k
  · cases ho; exact lv_imul hx hb hd k
  · cases ho; exact lv_iand hx hb hd k
  · cases ho; exact lv_ior hx hb hd k
  · cases ho; exact lv_ixor hx hb hd k
  · cases ho; exact lv_ishl hx hb hd k
  · cases ho; exact lv_ishr hx hb hd k
  · cases ho; exact lv_iushr hx hb hd rfl k
  · cases ho; exact lv_idiv hx hb hd (h0 (by decide)) k
  · cases ho; exact lv_irem hx hb hd (h0 (by decide)) k
  · cases ho
theorem q_st2_ok {ins : Instr} {ht : qHint} {ss : List (Nat × qSt)} (hm : q_mc C cc) (hd : decode cc pc = .ok (ins, q_len ins)) (h : q_st2 ins pc st ht = some ss) (hk : ∀ x ∈ ss, q_ok C G x.1 x.2) : q_ok C G pc st := by
  unfold q_st2 at h
  split at h
  · rename_i op k2 e2 k1 e1 xs ho hsk
    split at h
    · rename_i res hr
      unfold q_one at h
      split at h
      · rename_i st' hp
        cases h
        refine q_ok.pure (q_h1 hk) (q_push2_k hp) (fun r T ls sk H locs cells slots ha hf k => ?_)
        have h4 : q_stk r T (q_sk st) sk := ha.2.2.2.1
        rw [hsk] at h4
        obtain ⟨v, vs, rfl, ⟨y, rfl, hy⟩, hvs⟩ := h4.cons
        obtain ⟨w, ws, rfl, ⟨x, rfl, hx⟩, hws⟩ := hvs.cons
        obtain ⟨n0, hz⟩ := q_ar_ok hr ha.1 ha.2.1 hx hy
        refine q_row2 hm hd ho n0 ?_
        obtain ⟨r', g1, g2⟩ := q_push2_ok hp ha hws hf hz
        exact k r' ls _ g1 g2
      · cases h
    · cases h
  · cases h
end QP2
/-- branches: what is known when the branch is taken, and when not; 0 eq, 1 ne, 2 lt, 3 ge, 4 gt, 5 le -/
def q_cnd (cd : Nat) (x y : Int32) : Prop := match cd with
  | 0 => x = y
  | 1 => ¬ x = y
  | 2 => x < y
  | 3 => y ≤ x
  | 4 => y < x
  | _ => x ≤ y
def q_gt (a b : qLin) : qLin := q_sub (q_sub a b) (q_k 1)
def q_nef (mode : Nat) (hy : List qLin) (e1 e2 : qLin) (cs : List qCert) : List qLin :=
  if mode = 1 then (if q_vc hy (q_sub e1 e2) cs 0 = true then [q_gt e1 e2] else []) else if mode = 2 then (if q_vc hy (q_sub e2 e1) cs 0 = true then [q_gt e2 e1] else []) else []
def q_brf (cd mode : Nat) (hy : List qLin) (e1 e2 : qLin) (cs : List qCert) : List qLin × List qLin := match cd with
  | 0 => ([q_sub e1 e2, q_sub e2 e1], q_nef mode hy e1 e2 cs)
  | 1 => (q_nef mode hy e1 e2 cs, [q_sub e1 e2, q_sub e2 e1])
  | 2 => ([q_gt e2 e1], [q_sub e1 e2])
  | 3 => ([q_sub e1 e2], [q_gt e2 e1])
  | 4 => ([q_gt e1 e2], [q_sub e2 e1])
  | _ => ([q_sub e2 e1], [q_gt e1 e2])
theorem q_ge_ok {r : Nat → Int} {a b : qLin} (h : q_ev r b ≤ q_ev r a) : 0 ≤ q_ev r (q_sub a b) := by rw [q_ev_sub]; omega
theorem q_gt_ok {r : Nat → Int} (h0 : r 0 = 1) {a b : qLin} (h : q_ev r b < q_ev r a) : 0 ≤ q_ev r (q_gt a b) := by unfold q_gt; rw [q_ev_sub, q_ev_sub, q_ev_k h0]; omega
theorem q_l1 {P : qLin → Prop} {a : qLin} (h : P a) : ∀ e ∈ [a], P e := fun e he => by rw [List.mem_singleton.mp he]; exact h
theorem q_l2 {P : qLin → Prop} {a b : qLin} (h : P a) (h2 : P b) : ∀ e ∈ [a, b], P e := fun e he => by
  rcases List.mem_cons.mp he with rfl | he
  · exact h
  · rw [List.mem_singleton.mp he]; exact h2
theorem q_nef_ok {r : Nat → Int} (h0 : r 0 = 1) {hy : List qLin} (hh : ∀ e ∈ hy, 0 ≤ q_ev r e) {mode : Nat} {e1 e2 : qLin} {cs : List qCert} (hne : ¬ q_ev r e1 = q_ev r e2) : ∀ e ∈ q_nef mode hy e1 e2 cs, 0 ≤ q_ev r e := by
  unfold q_nef
  split
  · split
    · rename_i hc
      have := q_vc_ok h0 hh hc
      rw [q_ev_sub] at this
      exact q_l1 (q_gt_ok h0 (by omega))
    · intro e he; cases he
  · split
    · split
      · rename_i hc
        have := q_vc_ok h0 hh hc
        rw [q_ev_sub] at this
        exact q_l1 (q_gt_ok h0 (by omega))
      · intro e he; cases he
    · intro e he; cases he
theorem q_brf_ok {r : Nat → Int} (h0 : r 0 = 1) {hy : List qLin} (hh : ∀ e ∈ hy, 0 ≤ q_ev r e) {cd mode : Nat} {e1 e2 : qLin} {cs : List qCert} {x y : Int32} (hx : x.toInt = q_ev r e1) (hy2 : y.toInt = q_ev r e2) :
    (q_cnd cd x y → ∀ e ∈ (q_brf cd mode hy e1 e2 cs).1, 0 ≤ q_ev r e) ∧ (¬ q_cnd cd x y → ∀ e ∈ (q_brf cd mode hy e1 e2 cs).2, 0 ≤ q_ev r e) := by
  have ne : ¬ x = y → ¬ q_ev r e1 = q_ev r e2 := fun h q => h (Int32.toInt_inj.mp (by rw [hx, hy2]; exact q))
  unfold q_brf
  split
  · refine ⟨fun h => ?_, fun h => q_nef_ok h0 hh (ne h)⟩
    have h : x = y := h
    subst h
    exact q_l2 (q_ge_ok (by omega)) (q_ge_ok (by omega))
  · refine ⟨fun h => q_nef_ok h0 hh (ne h), fun h => ?_⟩
    have h : x = y := Classical.not_not.mp h
    subst h
    exact q_l2 (q_ge_ok (by omega)) (q_ge_ok (by omega))
  · refine ⟨fun h => q_l1 (q_gt_ok h0 ?_), fun h => q_l1 (q_ge_ok ?_)⟩
    · have h : x < y := h; rw [Int32.lt_iff_toInt_lt] at h; omega
    · have h : ¬ x < y := h; rw [Int32.lt_iff_toInt_lt] at h; omega
  · refine ⟨fun h => q_l1 (q_ge_ok ?_), fun h => q_l1 (q_gt_ok h0 ?_)⟩
    · have h : y ≤ x := h; rw [Int32.le_iff_toInt_le] at h; omega
    · have h : ¬ y ≤ x := h; rw [Int32.le_iff_toInt_le] at h; omega
  · refine ⟨fun h => q_l1 (q_gt_ok h0 ?_), fun h => q_l1 (q_ge_ok ?_)⟩
    · have h : y < x := h; rw [Int32.lt_iff_toInt_lt] at h; omega
    · have h : ¬ y < x := h; rw [Int32.lt_iff_toInt_lt] at h; omega
  · rename_i g0 g1 g2 g3 g4
    have hcd : q_cnd cd x y = (x ≤ y) := by
      unfold q_cnd
      split <;> first | rfl | contradiction
    rw [hcd]
    refine ⟨fun h => q_l1 (q_ge_ok ?_), fun h => q_l1 (q_gt_ok h0 ?_)⟩
    · rw [Int32.le_iff_toInt_le] at h; omega
    · rw [Int32.le_iff_toInt_le] at h; omega
def q_tgt (pc : Nat) (off : Int) : Option Nat := if (pc : Int) + off = (((pc : Int) + off).toNat : Int) then some ((pc : Int) + off).toNat else none
theorem q_tgt_ok {pc t : Nat} {off : Int} (h : q_tgt pc off = some t) : (pc : Int) + off = (t : Int) := by
  unfold q_tgt at h
  split at h
  · rename_i hc; cases h; exact hc
  · cases h
/-- a branch: which compare, off which target; true: with 0 -/
def q_bri (ins : Instr) : Option (Bool × Nat × Int) := match ins with
  | .ifCond .eq off => some (true, 0, off)
  | .ifCond .ne off => some (true, 1, off)
  | .ifCond .lt off => some (true, 2, off)
  | .ifCond .ge off => some (true, 3, off)
  | .ifCond .gt off => some (true, 4, off)
  | .ifCond .le off => some (true, 5, off)
  | .if_icmp .eq off => some (false, 0, off)
  | .if_icmp .ne off => some (false, 1, off)
  | .if_icmp .lt off => some (false, 2, off)
  | .if_icmp .ge off => some (false, 3, off)
  | .if_icmp .gt off => some (false, 4, off)
  | .if_icmp .le off => some (false, 5, off)
  | _ => none
def q_br2 (cd t pc : Nat) (st : qSt) (xs : List qAV) (e1 e2 : qLin) (ht : qHint) : qSuc :=
  some [(t, q_addh (q_setk st xs) (q_brf cd ht.1 st.2.1 e1 e2 ht.2.1).1), (pc + 3, q_addh (q_setk st xs) (q_brf cd ht.1 st.2.1 e1 e2 ht.2.1).2)]
def q_st3 (ins : Instr) (pc : Nat) (st : qSt) (ht : qHint) : qSuc := match q_bri ins with
  | some (z, cd, off) => (match q_tgt pc off with
    | some t => (if z = true then (match q_sk st with
        | (0, _, e1) :: xs => q_br2 cd t pc st xs e1 [] ht
        | _ => none)
      else (match q_sk st with
        | (0, _, e2) :: (0, _, e1) :: xs => q_br2 cd t pc st xs e1 e2 ht
        | _ => none))
    | none => none)
  | none => none
section QP3
variable {C : qCx} {G : qGx} {cc : ByteArray} {pc : Nat} {st : qSt}
theorem q_row3z {ins : Instr} {cd t : Nat} {off : Int} (hm : q_mc C cc) (hd : decode cc pc = .ok (ins, q_len ins)) (hi : q_bri ins = some (true, cd, off)) (ht : (pc : Int) + off = (t : Int)) {H : Heap} {locs : List Loc} {cells slots : Nat} {ls : Array Slot} {sk : List Value} {x : Int32}
    (kt : q_cnd cd x 0 → q_W C H locs cells slots t ls sk) (kf : ¬ q_cnd cd x 0 → q_W C H locs cells slots (pc + 3) ls sk) : q_W C H locs cells slots pc ls (.int x :: sk) := by
  obtain ⟨hx, hb⟩ := hm
  unfold q_bri at hi
  split at hi <;> cases hi
  · exact lv_if_eq hx hb hd ht kt kf
  · exact lv_if_ne hx hb hd ht kt (fun h => kf (fun q => q h))
  · exact lv_if_lt hx hb hd ht kt kf
  · exact lv_if_ge hx hb hd ht kt kf
  · exact lv_if_gt hx hb hd ht kt kf
  · exact lv_if_le hx hb hd ht kt kf
theorem q_row3 {ins : Instr} {cd t : Nat} {off : Int} (hm : q_mc C cc) (hd : decode cc pc = .ok (ins, q_len ins)) (hi : q_bri ins = some (false, cd, off)) (ht : (pc : Int) + off = (t : Int)) {H : Heap} {locs : List Loc} {cells slots : Nat} {ls : Array Slot} {sk : List Value} {x y : Int32}
    (kt : q_cnd cd x y → q_W C H locs cells slots t ls sk) (kf : ¬ q_cnd cd x y → q_W C H locs cells slots (pc + 3) ls sk) : q_W C H locs cells slots pc ls (.int y :: .int x :: sk) := by
  obtain ⟨hx, hb⟩ := hm
  unfold q_bri at hi
  split at hi <;> cases hi
  · exact lv_icmp_eq hx hb hd ht kt kf
  · exact lv_icmp_ne hx hb hd ht kt (fun h => kf (fun q => q h))
  · exact lv_icmp_lt hx hb hd ht kt kf
  · exact lv_icmp_ge hx hb hd ht kt kf
  · exact lv_icmp_gt hx hb hd ht kt kf
  · exact lv_icmp_le hx hb hd ht kt kf
theorem q_st3_ok {ins : Instr} {ht : qHint} {ss : List (Nat × qSt)} (hm : q_mc C cc) (hd : decode cc pc = .ok (ins, q_len ins)) (h : q_st3 ins pc st ht = some ss) (hk : ∀ x ∈ ss, q_ok C G x.1 x.2) : q_ok C G pc st := by
  unfold q_st3 at h
  split at h
  · rename_i z cd off hi
    split at h
    · rename_i t htg
      have htg := q_tgt_ok htg
      split at h
      · rename_i hz
        subst hz
        split at h
        · rename_i k1 e1 xs hsk
          unfold q_br2 at h
          cases h
          have kt := hk _ List.mem_cons_self
          have kf := hk _ (List.mem_cons_of_mem _ List.mem_cons_self)
          intro r T ls sk H locs ha hf
          have h4 : q_stk r T (q_sk st) sk := ha.2.2.2.1
          rw [hsk] at h4
          obtain ⟨w, ws, rfl, ⟨x, rfl, hx⟩, hws⟩ := h4.cons
          obtain ⟨b1, b2⟩ := q_brf_ok (cd := cd) (mode := ht.1) (cs := ht.2.1) ha.1 ha.2.1 hx (y := 0) (e2 := []) rfl
          exact q_row3z hm hd hi htg (fun c1 => kt r T ls ws H locs ((ha.setk hws).addh (b1 c1)) hf) (fun c1 => kf r T ls ws H locs ((ha.setk hws).addh (b2 c1)) hf)
        · cases h
      · rename_i hz
        have hz : z = false := by simpa using hz
        subst hz
        split at h
        · rename_i k2 e2 k1 e1 xs hsk
          unfold q_br2 at h
          cases h
          have kt := hk _ List.mem_cons_self
          have kf := hk _ (List.mem_cons_of_mem _ List.mem_cons_self)
          intro r T ls sk H locs ha hf
          have h4 : q_stk r T (q_sk st) sk := ha.2.2.2.1
          rw [hsk] at h4
          obtain ⟨v, vs, rfl, ⟨y, rfl, hy⟩, hvs⟩ := h4.cons
          obtain ⟨w, ws, rfl, ⟨x, rfl, hx⟩, hws⟩ := hvs.cons
          obtain ⟨b1, b2⟩ := q_brf_ok (cd := cd) (mode := ht.1) (cs := ht.2.1) ha.1 ha.2.1 hx hy
          exact q_row3 hm hd hi htg (fun c1 => kt r T ls ws H locs ((ha.setk hws).addh (b1 c1)) hf) (fun c1 => kf r T ls ws H locs ((ha.setk hws).addh (b2 c1)) hf)
        · cases h
    · cases h
  · cases h
end QP3
