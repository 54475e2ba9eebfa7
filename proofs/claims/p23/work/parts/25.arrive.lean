/-! ARRIVALS at known states (place, state, measure), and the end of a method -/
abbrev qTm : Type := Nat × qSt × qLin
abbrev q_re (G : qGx) (n0 : Nat) (r0 : Nat → Int) : qGx := (G.1, G.2.1, n0, r0, G.2.2.2.2)
/-- the frame but for the unknowns -/
def q_fc (G : qGx) (T : qTy) (H : Heap) (locs : List Loc) : Prop := va_S (q_A G) (q_H0 G) H locs ∧ (∀ a k, T a = some k → q_A G a) ∧ q_leU (q_U G) (q_T0 G) T ∧
    ∀ a k, q_T0 G a = some k → k ∉ q_U G → ∀ j, q_fp (q_KT G) (q_M G) k j → q_rd H a (q_slot (q_D G) (q_KT G) k j) = q_rd (q_H0 G) a (q_slot (q_D G) (q_KT G) k j)
def q_okB (C : qCx) (G : qGx) (tm : qTm) (r0 : Nat → Int) : Prop := ∀ (T : qTy) (ls : Array Slot) (sk : List Value) (H : Heap) (locs : List Loc), q_ab G r0 T tm.2.1 ls sk H → q_fc G T H locs → q_W C H locs (q_c0 G + tm.2.1.2.2.2.2.2.1) (q_s0 G + tm.2.1.2.2.2.2.2.2) tm.1 ls sk
def q_lom (st : qSt) (g : List qLin) (q : Nat × qAV) : Bool := match q_find q.1 st.2.2.1 with
  | some x => q_sbm x (q_suA g q.2)
  | none => false
def q_arr (npre : Nat) (mu0 : qLin) (tm : qTm) (pc : Nat) (st : qSt) (ht : qHint) : Bool :=
  let g := q_k 1 :: ht.2.2.1
  decide (tm.1 = pc) && decide (g.length = tm.2.1.1) && decide (npre ≤ g.length) && (List.range npre).all (fun i => decide (i = 0) || decide (g.getD i [] = q_x i)) && q_vc st.2.1 (q_sub (q_sub mu0 (q_k 1)) (q_su g tm.2.2)) ht.2.1 0 && q_vcs st.2.1 ht.2.1 1 (tm.2.1.2.1.map (q_su g)) && tm.2.1.2.2.1.all (q_lom st g) && q_sbl (q_sk st) (tm.2.1.2.2.2.1.map (q_suA g)) && q_cas (tm.2.1.2.2.2.2.1.map (q_suC g)) st.2.2.2.2.1 && decide (st.2.2.2.2.2.1 ≤ tm.2.1.2.2.2.2.2.1) && decide (st.2.2.2.2.2.2 ≤ tm.2.1.2.2.2.2.2.2)
theorem q_lvs_mk {r : Nat → Int} {T : qTy} {ls : Array Slot} : ∀ {lo : List (Nat × qAV)}, (∀ q ∈ lo, ∃ v, ls[q.1]? = some (.val v) ∧ q_av r T q.2 v) → ∃ lv, (∀ p ∈ lv, ls[p.1]? = some (.val p.2)) ∧ q_lvs r T lo lv
  | [], _ => ⟨[], fun p hp => (by cases hp), trivial⟩
  | q :: lo, h => by
    obtain ⟨lv, h1, h2⟩ := q_lvs_mk (lo := lo) (fun x hx => h x (List.mem_cons_of_mem _ hx))
    obtain ⟨v, h3, h4⟩ := h q List.mem_cons_self
    refine ⟨(q.1, v) :: lv, fun p hp => ?_, ⟨rfl, h4⟩, h2⟩
    rcases List.mem_cons.mp hp with rfl | hp
    · exact h3
    · exact h1 p hp
section QP13
variable {C : qCx} {G : qGx} {cc : ByteArray} {pc : Nat} {st : qSt}
theorem q_arr_ok {npre n0 : Nat} {rp r0 : Nat → Int} {mu0 : qLin} {tm : qTm} {ht : qHint} (IH : ∀ r1 : Nat → Int, (∀ i, i < npre → r1 i = rp i) → q_ev r1 tm.2.2 < q_ev r0 mu0 → q_okB C G tm r1) (hag : ∀ i, i < npre → r0 i = rp i) (hnp : npre ≤ n0) (h00 : 0 < npre) (hw : q_wf n0 mu0 = true) (h : q_arr npre mu0 tm pc st ht = true) : q_ok C (q_re G n0 r0) pc st := by
  unfold q_arr at h
  dsimp only at h
  simp only [Bool.and_eq_true, decide_eq_true_eq] at h
  obtain ⟨⟨⟨⟨⟨⟨⟨⟨⟨⟨c1, c2⟩, c3⟩, c4⟩, c5⟩, c6⟩, c7⟩, c8⟩, c9⟩, c10⟩, c11⟩ := h
  generalize hg : (q_k 1 :: ht.2.2.1) = g at *
  intro r T ls sk H locs ha hf
  obtain ⟨f1, f2, f3⟩ := hf
  have f2 : ∀ i, i < n0 → r i = r0 i := f2
  have h0 : q_rs r g 0 = 1 := by rw [← hg]; exact q_ev_k ha.1 1
  have hpre : ∀ i, i < npre → q_rs r g i = rp i := by
    intro i hi
    have h4 := List.all_eq_true.mp c4 i (List.mem_range.mpr hi)
    rw [Bool.or_eq_true, decide_eq_true_eq, decide_eq_true_eq] at h4
    rw [← hag i hi, ← f2 i (Nat.lt_of_lt_of_le hi hnp)]
    rcases h4 with rfl | h4
    · rw [h0]; exact ha.1.symm
    · unfold q_rs; rw [h4, q_ev_x]
  have hmu := q_vc_ok ha.1 ha.2.1 c5
  rw [q_ev_sub, q_ev_sub, q_ev_k ha.1, q_ev_su, q_ev_wf f2 mu0 hw] at hmu
  have hB := IH (q_rs r g) hpre (by omega)
  obtain ⟨lv, l1, l2⟩ := q_lvs_mk (r := q_rs r g) (T := T) (ls := ls) (lo := tm.2.1.2.2.1) (fun q hq => by
    have h7 := List.all_eq_true.mp c7 q hq
    unfold q_lom at h7
    split at h7
    · rename_i x hx
      obtain ⟨v, g1, g2⟩ := q_get ha hx
      exact ⟨v, g1, q_suA_ok.mp (q_sbm_ok ha.1 h7 g2)⟩
    · cases h7)
  obtain ⟨lv0, k1, -⟩ := ha.2.2.1
  have hW := hB T ls sk H locs ⟨h0, fun e he => by rw [← q_ev_su]; exact q_vcs_ok ha.1 ha.2.1 c6 _ (List.mem_map.mpr ⟨e, he, rfl⟩), ⟨lv, ⟨k1.1, k1.2.1, l1⟩, l2⟩, q_stk.su.mp (q_sbl_ok ha.1 c8 ha.2.2.2.1), ha.2.2.2.2.1, fun c hc => q_suC_ok.mp (q_cas_ok ha.1 c9 ha.2.2.2.2.2 _ (List.mem_map.mpr ⟨c, hc, rfl⟩))⟩ f3
  rw [c1] at hW
  exact W.widen (Nat.add_le_add_left c10 _) (Nat.add_le_add_left c11 _) hW
end QP13
/-- the end of a method: what its contract says is so -/
def q_rgs (ct : qCt) (ht : qHint) : List qLin := q_k 1 :: ((List.range (ct.1.1 - 1)).map (fun i => q_x (i + 1)) ++ ht.2.2.1)
def q_rtc (ct : qCt) (st : qSt) (ht : qHint) : Bool :=
  decide (0 < ct.1.1) && decide (st.2.2.2.2.2.1 ≤ ct.2.2.2.2.1) && decide (st.2.2.2.2.2.2 ≤ ct.2.2.2.2.2) && q_vcs st.2.1 ht.2.1 0 (ct.2.1.2.1.map (q_su (q_rgs ct ht))) && q_sbl (q_sk st) (ct.2.1.2.2.1.map (q_suA (q_rgs ct ht))) && q_cas (ct.2.1.2.2.2.1.map (q_suC (q_rgs ct ht))) st.2.2.2.2.1 && ct.2.1.2.2.2.2.all (fun q => st.2.2.1.any (fun l => decide (l.2 = (2, q.2, q_su (q_rgs ct ht) q.1))))
theorem q_rgs_id {ct : qCt} {ht : qHint} {r : Nat → Int} (h0 : r 0 = 1) {i : Nat} (hi : i < ct.1.1) : q_rs r (q_rgs ct ht) i = r i := by
  unfold q_rs q_rgs
  cases i with
  | zero => rw [h0]; exact q_ev_k h0 1
  | succ i =>
    rw [List.getD_cons_succ, List.getD_eq_getElem?_getD, List.getElem?_append_left (by simp; omega), List.getElem?_map, List.getElem?_range (by omega)]
    exact q_ev_x r (i + 1)
theorem q_rtc_ok {G : qGx} {ct : qCt} {st : qSt} {ht : qHint} (h : q_rtc ct st ht = true) (hU : q_U G = ct.2.2.1) (hM : q_M G = ct.2.2.2.1) (hA : q_A G = fun q => q_T0 G q ≠ none ∨ (q_H0 G).size ≤ q) {rp : Nat → Int} (hn0 : ct.1.1 ≤ q_n0 G) (hag : ∀ i, i < ct.1.1 → q_r0 G i = rp i) {r : Nat → Int} {T : qTy} {ls : Array Slot} {sk : List Value} {H : Heap} {locs : List Loc} (ha : q_ab G r T st ls sk H) (hf : q_fr G st.1 r T H locs) :
    q_postOk (q_D G) (q_tys G) (q_KT G) ct rp (q_T0 G) (q_H0 G) (q_rs r (q_rgs ct ht)) T H sk := by
  simp only [q_rtc, Bool.and_eq_true, decide_eq_true_eq] at h
  obtain ⟨⟨⟨⟨⟨⟨c0, c1⟩, c2⟩, c3⟩, c4⟩, c5⟩, c6⟩ := h
  obtain ⟨f1, f2, f3, f4, f5, f6⟩ := hf
  refine ⟨⟨fun i hi => ?_, fun e he => ?_, by rw [← hU]; exact f5, fun q hq => ?_, ha.2.2.2.2.1⟩, ⟨fun c hc => q_suC_ok.mp (q_cas_ok ha.1 c5 ha.2.2.2.2.2 _ (List.mem_map.mpr ⟨c, hc, rfl⟩)), q_stk.su.mp (q_sbl_ok ha.1 c4 ha.2.2.2.1)⟩, f3.1, fun q h1 h2 => f3.2.1 q h1 ?_, fun a k hk => ?_, fun a k h1 h2 j h3 => f6 a k h1 (by rw [hU]; exact h2) j (by rw [hM]; exact h3)⟩
  · rw [q_rgs_id ha.1 hi, f2 i (Nat.lt_of_lt_of_le hi hn0)]
    exact hag i hi
  · rw [← q_ev_su]
    exact q_vcs_ok ha.1 ha.2.1 c3 _ (List.mem_map.mpr ⟨e, he, rfl⟩)
  · obtain ⟨l, hl, hle⟩ := List.any_eq_true.mp (List.all_eq_true.mp c6 q hq)
    have hle : l.2 = (2, q.2, q_su (q_rgs ct ht) q.1) := by simpa using hle
    obtain ⟨lv, l1, l2⟩ := ha.2.2.1
    obtain ⟨i, hi⟩ := List.getElem?_of_mem hl
    obtain ⟨v, -, hv⟩ := q_lvs.get l2 (k := i) (i := l.1) (x := l.2) hi
    rw [hle] at hv
    obtain ⟨b, -, g2, g3⟩ := hv
    exact ⟨b, g3.trans (q_ev_su r _ q.1), g2⟩
  · rw [hA]
    rintro (h3 | h3)
    · exact h3 h2
    · omega
  · have := f4 a k hk
    rw [hA] at this
    exact this
