/-! STEPS 7: longs by their forms, switches, constants of the pool, negation -/
theorem q_bm64 {n : Int} (h1 : -9223372036854775808 ≤ n) (h2 : n ≤ 9223372036854775807) : n.bmod (2 ^ 64) = n := Int.bmod_eq_of_le (by simp; omega) (by simp; omega)
theorem q_ladd64 {x y : Int64} (h1 : -9223372036854775808 ≤ x.toInt + y.toInt) (h2 : x.toInt + y.toInt ≤ 9223372036854775807) : (x + y).toInt = x.toInt + y.toInt := by rw [Int64.toInt_add, q_bm64 h1 h2]
theorem q_cmpG {x y : Int64} (h : y.toInt < x.toInt) : (lg_cmp x y).toInt = 1 := by
  unfold lg_cmp
  rw [if_pos (by show y < x; rw [Int64.lt_iff_toInt_lt]; exact h)]
  rfl
theorem q_cmpE {x y : Int64} (h : y.toInt = x.toInt) : (lg_cmp x y).toInt = 0 := by
  unfold lg_cmp
  rw [if_neg (by show ¬ y < x; rw [Int64.lt_iff_toInt_lt]; omega), if_pos (Int64.toInt_inj.mp h.symm)]
  rfl
theorem q_cmpL {x y : Int64} (h : x.toInt < y.toInt) : (lg_cmp x y).toInt = -1 := by
  unfold lg_cmp
  rw [if_neg (by show ¬ y < x; rw [Int64.lt_iff_toInt_lt]; omega), if_neg (fun e => by rw [e] at h; omega)]
  rfl
theorem q_cmpA (x y : Int64) : -1 ≤ (lg_cmp x y).toInt ∧ (lg_cmp x y).toInt ≤ 1 := by
  unfold lg_cmp
  split
  · exact ⟨by decide, by decide⟩
  · split
    · exact ⟨by decide, by decide⟩
    · exact ⟨by decide, by decide⟩
/-- what a compare of two longs is: modes 1 above, 2 alike, 3 below -/
def q_lcp (mode n : Nat) (hy : List qLin) (e1 e2 : qLin) (cs : List qCert) : Option qRes :=
  if mode = 1 then (if q_vc hy (q_gt e1 e2) cs 0 = true then some (true, q_k 1, []) else none)
  else if mode = 2 then (if q_vc hy (q_sub e1 e2) cs 0 = true ∧ q_vc hy (q_sub e2 e1) cs 1 = true then some (true, q_k 0, []) else none)
  else if mode = 3 then (if q_vc hy (q_gt e2 e1) cs 0 = true then some (true, q_k (-1), []) else none)
  else some (false, [], q_rng n (-1) 1)
theorem q_gt_ev {r : Nat → Int} (h0 : r 0 = 1) {a b : qLin} (h : 0 ≤ q_ev r (q_gt a b)) : q_ev r b < q_ev r a := by
  unfold q_gt at h
  rw [q_ev_sub, q_ev_sub, q_ev_k h0] at h
  omega
theorem q_lcp_ok {mode n : Nat} {hy : List qLin} {e1 e2 : qLin} {cs : List qCert} {res : qRes} (h : q_lcp mode n hy e1 e2 cs = some res) {r : Nat → Int} (h0 : r 0 = 1) (hh : ∀ e ∈ hy, 0 ≤ q_ev r e) {x y : Int64} (hx : x.toInt = q_ev r e1) (hy2 : y.toInt = q_ev r e2) : q_RS n r (lg_cmp x y) res := by
  unfold q_lcp at h
  split at h
  · split at h
    · rename_i hc
      cases h
      have := q_gt_ev h0 (q_vc_ok h0 hh hc)
      exact q_RS.ex (by rw [q_cmpG (by omega), q_ev_k h0])
    · cases h
  · split at h
    · split at h
      · rename_i hc
        cases h
        have g1 := q_vc_ok h0 hh hc.1
        have g2 := q_vc_ok h0 hh hc.2
        rw [q_ev_sub] at g1 g2
        exact q_RS.ex (by rw [q_cmpE (by omega), q_ev_k h0])
      · cases h
    · split at h
      · split at h
        · rename_i hc
          cases h
          have := q_gt_ev h0 (q_vc_ok h0 hh hc)
          exact q_RS.ex (by rw [q_cmpL (by omega), q_ev_k h0])
        · cases h
      · cases h
        exact q_RS.rng (q_cmpA x y).1 (q_cmpA x y).2
def q_stX (ins : Instr) (pc : Nat) (st : qSt) (ht : qHint) : qSuc := match ins with
  | .i2l => (match q_sk st with
    | (0, _, e) :: xs => some [(pc + 1, q_setk st ((5, 0, e) :: xs))]
    | _ => none)
  | .ladd => (match q_sk st with
    | (5, _, e2) :: (5, _, e1) :: xs => if q_vc st.2.1 (q_sub (q_add e1 e2) (q_k (-9223372036854775808))) ht.2.1 0 = true ∧ q_vc st.2.1 (q_sub (q_k 9223372036854775807) (q_add e1 e2)) ht.2.1 1 = true then some [(pc + 1, q_setk st ((5, 0, q_add e1 e2) :: xs))] else none
    | _ => none)
  | .lcmp => (match q_sk st with
    | (5, _, e2) :: (5, _, e1) :: xs => (match q_lcp ht.1 st.1 st.2.1 e1 e2 ht.2.1 with
      | some res => q_one (pc + 1) (q_push2 st xs res)
      | none => none)
    | x :: y :: xs => if q_isL x = true ∧ q_isL y = true then q_one (pc + 1) (q_push2 st xs (false, [], q_rng st.1 (-1) 1)) else none
    | _ => none)
  | .ineg => (match q_sk st with
    | (0, _, e) :: xs => if ht.1 = 1 then (if q_vc st.2.1 (q_add e (q_k 2147483647)) ht.2.1 0 = true then some [(pc + 1, q_setk st ((0, 0, q_sc (-1) e) :: xs))] else none) else q_one (pc + 1) (q_pushA st xs)
    | _ => none)
  | _ => none
section QP10
variable {C : qCx} {G : qGx} {cc : ByteArray} {pc : Nat} {st : qSt}
theorem q_stX_ok {ins : Instr} {ht : qHint} {ss : List (Nat × qSt)} (hm : q_mc C cc) (hd : decode cc pc = .ok (ins, q_len ins)) (h : q_stX ins pc st ht = some ss) (hk : ∀ x ∈ ss, q_ok C G x.1 x.2) : q_ok C G pc st := by
  obtain ⟨hx, hb⟩ := hm
  unfold q_stX at h
  split at h
  · split at h
    · rename_i k0 e xs hsk
      cases h
      refine q_s_one hsk (q_h1 hk) (fun hv k => ?_)
      obtain ⟨y, rfl, hy⟩ := hv
      exact lv_i2l hx hb hd rfl (k _ ⟨_, rfl, (Int32.toInt_toInt64 y).trans hy⟩)
    · cases h
  · split at h
    · rename_i k2 e2 k1 e1 xs hsk
      split at h
      · rename_i hc
        cases h
        refine q_ok.pure (q_h1 hk) rfl (fun r T ls sk H locs cells slots ha hf kk => ?_)
        have h4 : q_stk r T (q_sk st) sk := ha.2.2.2.1
        rw [hsk] at h4
        obtain ⟨v, vs, rfl, ⟨y, rfl, hy⟩, hvs⟩ := h4.cons
        obtain ⟨w, ws, rfl, ⟨x, rfl, hxx⟩, hws⟩ := hvs.cons
        have g1 := q_vc_ok ha.1 ha.2.1 hc.1
        have g2 := q_vc_ok ha.1 ha.2.1 hc.2
        rw [q_ev_sub, q_ev_add, q_ev_k ha.1] at g1 g2
        have hy : y.toInt = q_ev r e2 := hy
        have hxx : x.toInt = q_ev r e1 := hxx
        refine lv_ladd hx hb hd (kk r ls _ (ha.setk ⟨⟨_, rfl, ?_⟩, hws⟩) hf)
        show (x + y).toInt = q_ev r (q_add e1 e2)
        rw [q_ladd64 (by omega) (by omega), q_ev_add]
        omega
      · cases h
    · cases h
  · split at h
    · rename_i k2 e2 k1 e1 xs hsk
      split at h
      · rename_i res hres
        unfold q_one at h
        split at h
        · rename_i st' hp
          cases h
          refine q_ok.pure (q_h1 hk) (q_push2_k hp) (fun r T ls sk H locs cells slots ha hf kk => ?_)
          have h4 : q_stk r T (q_sk st) sk := ha.2.2.2.1
          rw [hsk] at h4
          obtain ⟨v, vs, rfl, ⟨y, rfl, hy⟩, hvs⟩ := h4.cons
          obtain ⟨w, ws, rfl, ⟨x, rfl, hxx⟩, hws⟩ := hvs.cons
          obtain ⟨r', g1, g2⟩ := q_push2_ok hp ha hws hf (q_lcp_ok hres ha.1 ha.2.1 hxx hy)
          exact W.lcmp hx hb hd (kk r' ls _ g1 g2)
        · cases h
      · cases h
    · rename_i x y xs _ hsk
      split at h
      · rename_i hc
        unfold q_one at h
        split at h
        · rename_i st' hp
          cases h
          refine q_ok.pure (q_h1 hk) (q_push2_k hp) (fun r T ls sk H locs cells slots ha hf kk => ?_)
          have h4 : q_stk r T (q_sk st) sk := ha.2.2.2.1
          rw [hsk] at h4
          obtain ⟨v, vs, rfl, hv, hvs⟩ := h4.cons
          obtain ⟨w, ws, rfl, hw, hws⟩ := hvs.cons
          obtain ⟨a, rfl⟩ := hv.L hc.1
          obtain ⟨b, rfl⟩ := hw.L hc.2
          obtain ⟨r', g1, g2⟩ := q_push2_ok hp ha hws hf (q_RS.rng (q_cmpA b a).1 (q_cmpA b a).2)
          exact W.lcmp hx hb hd (kk r' ls _ g1 g2)
        · cases h
      · cases h
    · cases h
  · split at h
    · rename_i k0 e xs hsk
      split at h
      · split at h
        · rename_i hc
          cases h
          refine q_ok.pure (q_h1 hk) rfl (fun r T ls sk H locs cells slots ha hf kk => ?_)
          have h4 : q_stk r T (q_sk st) sk := ha.2.2.2.1
          rw [hsk] at h4
          obtain ⟨v, vs, rfl, ⟨y, rfl, hy⟩, hvs⟩ := h4.cons
          have g1 := q_vc_ok ha.1 ha.2.1 hc
          rw [q_ev_add, q_ev_k ha.1] at g1
          have hy : y.toInt = q_ev r e := hy
          refine lv_ineg hx hb hd (kk r ls _ (ha.setk ⟨⟨_, rfl, ?_⟩, hvs⟩) hf)
          show (-y).toInt = q_ev r (q_sc (-1) e)
          rw [q_ineg (by omega), q_ev_sc]
          omega
        · cases h
      · unfold q_one at h
        split at h
        · rename_i st' hp
          cases h
          refine q_s_any1 hsk hp (q_h1 hk) (fun hv k => ?_)
          obtain ⟨y, rfl, -⟩ := hv
          exact lv_ineg hx hb hd (k _)
        · cases h
    · cases h
  · cases h
/-- switches: each case's number, then below and above -/
def q_swc (pc : Nat) (st : qSt) (xs : List qAV) (e : qLin) : Int → List Int → Option (List (Nat × qSt))
  | _, [] => some []
  | i, off :: t => (match q_tgt pc off, q_swc pc st xs e (i + 1) t with
    | some tg, some l => some ((tg, q_addh (q_setk st xs) [q_sub e (q_k i), q_sub (q_k i) e]) :: l)
    | _, _ => none)
def q_stT (ins : Instr) (pc : Nat) (st : qSt) : qSuc := match ins with
  | .tableswitch dflt lo hi offs => (match q_sk st with
    | (0, _, e) :: xs => (match q_tgt pc dflt, q_swc pc st xs e lo offs.toList with
      | some tg, some l => if lo + (offs.size : Int) = hi + 1 then some ((tg, q_addh (q_setk st xs) [q_gt (q_k lo) e]) :: (tg, q_addh (q_setk st xs) [q_gt e (q_k hi)]) :: l) else none
      | _, _ => none)
    | _ => none)
  | _ => none
theorem q_swc_ok {xs : List qAV} {e : qLin} : ∀ {i : Int} {offs : List Int} {l : List (Nat × qSt)}, q_swc pc st xs e i offs = some l → ∀ {k : Nat} {off : Int}, offs[k]? = some off → ∃ tg : Nat, (pc : Int) + off = (tg : Int) ∧ (tg, q_addh (q_setk st xs) [q_sub e (q_k (i + (k : Int))), q_sub (q_k (i + (k : Int))) e]) ∈ l
  | i, [], l, h, k, off, hk => by simp at hk
  | i, o :: t, l, h, k, off, hk => by
    unfold q_swc at h
    split at h
    · rename_i tg l' h1 h2
      cases h
      cases k with
      | zero =>
        simp only [List.getElem?_cons_zero, Option.some.injEq] at hk
        subst hk
        refine ⟨tg, q_tgt_ok h1, ?_⟩
        have : i + ((0 : Nat) : Int) = i := by omega
        rw [this]
        exact List.mem_cons_self
      | succ k =>
        rw [List.getElem?_cons_succ] at hk
        obtain ⟨tg', g1, g2⟩ := q_swc_ok h2 hk
        refine ⟨tg', g1, List.mem_cons_of_mem _ ?_⟩
        have : i + 1 + (k : Int) = i + ((k + 1 : Nat) : Int) := by omega
        rw [← this]
        exact g2
    · cases h
theorem q_stT_ok {ins : Instr} {len : Nat} {ss : List (Nat × qSt)} (hm : q_mc C cc) (hd : decode cc pc = .ok (ins, len)) (h : q_stT ins pc st = some ss) (hk : ∀ x ∈ ss, q_ok C G x.1 x.2) : q_ok C G pc st := by
  obtain ⟨hx, hb⟩ := hm
  unfold q_stT at h
  split at h
  · rename_i dflt lo hi offs
    split at h
    · rename_i k0 e xs hsk
      split at h
      · rename_i tg l h1 h2
        split at h
        · rename_i hc
          cases h
          have h1 := q_tgt_ok h1
          intro r T ls sk H locs ha hf
          have h4 : q_stk r T (q_sk st) sk := ha.2.2.2.1
          rw [hsk] at h4
          obtain ⟨v, vs, rfl, ⟨y, rfl, hy⟩, hvs⟩ := h4.cons
          have hy : y.toInt = q_ev r e := hy
          by_cases hlo : y.toInt < lo
          · refine lv_tableOut hx hb hd (Or.inl hlo) h1 ?_
            exact hk _ List.mem_cons_self r T ls vs H locs ((ha.setk hvs).addh (q_l1 (q_gt_ok ha.1 (by rw [q_ev_k ha.1]; omega)))) hf
          · by_cases hhi : hi < y.toInt
            · refine lv_tableOut hx hb hd (Or.inr hhi) h1 ?_
              exact hk _ (List.mem_cons_of_mem _ List.mem_cons_self) r T ls vs H locs ((ha.setk hvs).addh (q_l1 (q_gt_ok ha.1 (by rw [q_ev_k ha.1]; omega)))) hf
            · have hlt : (y.toInt - lo).toNat < offs.toList.length := by rw [Array.length_toList]; omega
              obtain ⟨off, hoff⟩ : ∃ off, offs.toList[(y.toInt - lo).toNat]? = some off := ⟨_, List.getElem?_eq_getElem hlt⟩
              obtain ⟨tg', g1, g2⟩ := q_swc_ok h2 hoff
              refine lv_tableIn hx hb hd hlo hhi (by rw [← Array.getElem?_toList]; exact hoff) g1 ?_
              have he : lo + (((y.toInt - lo).toNat : Nat) : Int) = q_ev r e := by omega
              exact hk _ (List.mem_cons_of_mem _ (List.mem_cons_of_mem _ g2)) r T ls vs H locs ((ha.setk hvs).addh (q_l2 (q_ge_ok (by rw [q_ev_k ha.1]; omega)) (q_ge_ok (by rw [q_ev_k ha.1]; omega)))) hf
        · cases h
      · cases h
    · cases h
  · cases h
end QP10
