/-! A KIND IS RAISED: right -/
section QP12
variable {C : qCx} {G : qGx} {cc : ByteArray} {pc : Nat} {st : qSt}
theorem q_upf_ok {D : va_G} {KT : List qKD} {r : Nat → Int} (h0 : r 0 = 1) (hh : ∀ e ∈ st.2.1, 0 ≤ q_ev r e) {T : qTy} {H : Heap} {a k j : Nat} {e : qLin} (he : (a : Int) = q_ev r e) {cell : Cell} (hc : H[a]? = some cell) (hca : ∀ c ∈ st.2.2.2.2.1, q_cok D KT r T H c) {t t' : qFT} (h : q_upf st e k t t' j = true) {v : Value} (hv : cell.slots[q_slot D KT k j]? = some v) (hvt : q_ft T t v) : q_ft T t' v := by
  simp only [q_upf, Bool.or_eq_true, decide_eq_true_eq, List.any_eq_true, Bool.and_eq_true] at h
  rcases h with h | ⟨c, hm, ⟨⟨h1, h2⟩, h3⟩, h4⟩
  · rw [← h]; exact hvt
  · obtain ⟨a', cell', v', g1, g2, g3, g4, g5⟩ := hca c hm
    rw [h1] at g1
    have : a' = a := by omega
    subst this
    cases hc.symm.trans g3
    rw [h2, h3, hv] at g4
    cases g4
    exact q_conf_ok h4 h0 hh g5
theorem q_upk_slot {D : va_G} {KT : List qKD} {e : qLin} {k k' : Nat} {d d' : qKD} (hd : KT[k]? = some d) (hd' : KT[k']? = some d') (h : q_upk st e k k' d d' = true) (j : Nat) : q_slot D KT k j = q_slot D KT k' j := by
  unfold q_upk at h
  split at h
  · simp only [Bool.and_eq_true, decide_eq_true_eq] at h
    obtain ⟨⟨rfl, -⟩, -⟩ := h
    rw [q_slot0' hd, q_slot0' hd']
  · rw [q_slotA hd, q_slotA hd']
  · cases h
theorem q_upk_ok {D : va_G} {tys : List (ClassId × FieldType)} {KT : List qKD} {r : Nat → Int} (h0 : r 0 = 1) (hh : ∀ e ∈ st.2.1, 0 ≤ q_ev r e) {T : qTy} {H : Heap} {a k k' : Nat} {e : qLin} (he : (a : Int) = q_ev r e) {cell : Cell} (hc : H[a]? = some cell) (hca : ∀ c ∈ st.2.2.2.2.1, q_cok D KT r T H c) {d d' : qKD} (hd : KT[k]? = some d) (h : q_upk st e k k' d d' = true) (hcell : q_cell D tys T d cell) : q_cell D tys T d' cell := by
  unfold q_upk at h
  split at h
  · rename_i ci n fts ci' n' fts'
    simp only [Bool.and_eq_true, decide_eq_true_eq, List.all_eq_true] at h
    obtain ⟨⟨rfl, hl⟩, hj⟩ := h
    obtain ⟨h1, h2, h3⟩ := hcell
    refine ⟨h1, h2, fun j ft' hft' => ?_⟩
    have hlt : j < fts'.length := (List.getElem?_eq_some_iff.mp hft').1
    have hlt2 : j < fts.length := by omega
    obtain ⟨v, g1, g2⟩ := h3 j fts[j] (List.getElem?_eq_getElem hlt2)
    have hjj := hj j (List.mem_range.mpr hlt2)
    rw [List.getElem?_eq_getElem hlt2, show fts'[j]? = some ft' from hft'] at hjj
    exact ⟨v, g1, q_upf_ok h0 hh he hc hca hjj (by rw [q_slot0' hd]; exact g1) g2⟩
  · rename_i g t n ft g' t' n' ft'
    simp only [Bool.and_eq_true, decide_eq_true_eq, List.all_eq_true] at h
    obtain ⟨⟨⟨rfl, rfl⟩, rfl⟩, hj⟩ := h
    obtain ⟨cA, ty, z, h1, h2, h3, h4⟩ := hcell
    refine ⟨cA, ty, z, h1, h2, h3, fun j hjn f hf => ?_⟩
    rw [List.mem_singleton.mp hf]
    have hjn : j < n := hjn
    exact q_upf_ok h0 hh he hc hca (hj j (List.mem_range.mpr hjn)) (by rw [q_slotA hd, h3]; exact arrV_read _ _ hjn) (h4 j hjn ft (List.mem_singleton.mpr rfl))
  · cases h
theorem q_upg_ok {ht : qHint} {ss : List (Nat × qSt)} (h : q_upg (q_KT G) (q_U G) pc st ht = some ss) (hk : ∀ x ∈ ss, q_ok C G x.1 x.2) : q_ok C G pc st := by
  unfold q_upg at h
  split at h
  · rename_i e k0 k0' _ _
    generalize k0.toNat = k at h
    generalize k0'.toNat = k' at h
    split at h
    · rename_i d d' hd hd'
      split at h
      · rename_i hc
        obtain ⟨c1, c2, c3, c4, c5⟩ := hc
        split at h
        · rename_i lo sk' ca h1 h2 h3
          cases h
          have hk := q_h1 hk
          intro r T ls sk H locs ha hf
          obtain ⟨a, hTa, hae⟩ : ∃ a : Nat, T a = some k ∧ (a : Int) = q_ev r e := by
            rw [Bool.or_eq_true] at c5
            rcases c5 with c5 | c5
            · obtain ⟨q, hq, hqe⟩ := List.any_eq_true.mp c5
              have hqe : q.2 = (2, k, e) := by simpa using hqe
              obtain ⟨lv, l1, l2⟩ := ha.2.2.1
              obtain ⟨i, hi⟩ := List.getElem?_of_mem hq
              obtain ⟨v, -, hv⟩ := q_lvs.get l2 (k := i) (i := q.1) (x := q.2) hi
              rw [hqe] at hv
              obtain ⟨b, -, g2, g3⟩ := hv
              exact ⟨b, g2, g3⟩
            · obtain ⟨q, hq, hqe⟩ := List.any_eq_true.mp c5
              have hqe : q = (2, k, e) := by simpa using hqe
              have mem : ∀ {xs : List qAV} {vs : List Value}, q_stk r T xs vs → q ∈ xs → ∃ v, q_av r T q v := by
                intro xs
                induction xs with
                | nil => intro vs _ hm; cases hm
                | cons x xs ih =>
                  intro vs hs hm
                  obtain ⟨v, vs', rfl, g1, g2⟩ := hs.cons
                  rcases List.mem_cons.mp hm with rfl | hm
                  · exact ⟨v, g1⟩
                  · exact ih g2 hm
              obtain ⟨v, hv⟩ := mem ha.2.2.2.1 hq
              rw [hqe] at hv
              obtain ⟨b, -, g2, g3⟩ := hv
              exact ⟨b, g2, g3⟩
          have hinv := ha.2.2.2.2.1
          obtain ⟨d0, cell, d1, d2, d3⟩ := hinv a k hTa
          cases hd.symm.trans d1
          have hcell' := q_upk_ok ha.1 ha.2.1 hae d2 ha.2.2.2.2.2 hd c4 d3
          obtain ⟨lv, l1, l2⟩ := ha.2.2.1
          refine hk r (q_up T a k') ls sk H locs ⟨ha.1, ha.2.1, ⟨lv, l1, q_uplo_ok hTa hae h1 l2⟩, q_upsk_ok hTa hae h2 ha.2.2.2.1, fun b kb hb => ?_, fun c hc => ?_⟩ ?_
          · by_cases hba : b = a
            · subst hba
              rw [q_up_self] at hb
              cases hb
              exact ⟨d', cell, hd', d2, hcell'.up hTa (fun ft hft => q_noK_all c3 hd' hft)⟩
            · rw [q_up_ne T hba] at hb
              obtain ⟨db, cb, g1, g2, g3⟩ := hinv b kb hb
              exact ⟨db, cb, g1, g2, g3.up hTa (fun ft hft => q_noK_all c3 g1 hft)⟩
          · obtain ⟨c', hc', hce⟩ := q_mpo_mem h3 c hc
            obtain ⟨a', cell', v, g1, g2, g3, g4, g5⟩ := ha.2.2.2.2.2 c' hc'
            unfold q_upc at hce
            split at hce
            · rename_i y hy
              split at hce
              · rename_i hck
                split at hce
                · rename_i hce1
                  cases hce
                  rw [hck] at g2 g4
                  rw [hce1] at g1
                  have : a' = a := by omega
                  subst this
                  exact ⟨a', cell', v, by rw [hce1]; exact g1, q_up_self _ _ _, g3, by rw [q_upk_slot hd hd' c4] at g4; exact g4, q_upv_ok hTa hae hy g5⟩
                · cases hce
              · rename_i hck
                cases hce
                refine ⟨a', cell', v, g1, ?_, g3, g4, q_upv_ok hTa hae hy g5⟩
                show q_up T a k' a' = some c'.2.1
                rw [q_up_ne T (fun q => hck (by rw [q, hTa] at g2; exact (Option.some.inj g2).symm))]
                exact g2
            · cases hce
          · obtain ⟨f1, f2, f3, f4, f5, f6⟩ := hf
            refine ⟨f1, f2, f3, fun b kb hb => ?_, fun b kb hb hu => ?_, f6⟩
            · by_cases hba : b = a
              · subst hba; exact f4 b k hTa
              · rw [q_up_ne T hba] at hb; exact f4 b kb hb
            · have h7 := f5 b kb hb hu
              rw [q_up_ne T (fun q => hu (by rw [q, hTa] at h7; rw [← Option.some.inj h7]; exact c1))]
              exact h7
        · cases h
      · cases h
    · cases h
  · cases h
end QP12
