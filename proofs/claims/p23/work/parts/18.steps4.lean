/-! STEPS 4: fields and arrays -/
def q_num (v : Value) : Int := match v with
  | .int y => y.toInt
  | .ref b => (b : Int)
  | _ => -1
/-- what is read of a field (an element) of a type: a value over the unknown n, and what is known of it -/
def q_oft (n : Nat) (t : qFT) : qAV × List qLin := match t.1 with
  | 0 => ((0, 0, q_x n), q_rng n t.2.2.1 t.2.2.2)
  | 1 => ((1, 0, []), [])
  | 2 => ((2, t.2.1, q_x n), [])
  | _ => ((4, t.2.1, q_x n), [])
theorem q_oft_ok {T : qTy} {t : qFT} {v : Value} (h : q_ft T t v) {r : Nat → Int} {n : Nat} (h0 : r 0 = 1) (hn : r n = q_num v) : q_av r T (q_oft n t).1 v ∧ ∀ e ∈ (q_oft n t).2, 0 ≤ q_ev r e := by
  obtain ⟨g, k, lo, hi⟩ := t
  match g, h with
  | 0, h =>
    obtain ⟨x, rfl, h1, h2⟩ := h
    refine ⟨⟨x, rfl, ?_⟩, q_rng_ok h0 (by rw [hn]; exact h1) (by rw [hn]; exact h2)⟩
    show _ = q_ev r (q_x n)
    rw [q_ev_x, hn]
    rfl
  | 1, h =>
    obtain ⟨x, rfl⟩ := h
    exact ⟨⟨x, rfl⟩, fun e he => by cases he⟩
  | 2, h =>
    obtain ⟨b, rfl, hb⟩ := h
    refine ⟨⟨b, rfl, hb, ?_⟩, fun e he => by cases he⟩
    show _ = q_ev r (q_x n)
    rw [q_ev_x, hn]
    rfl
  | m + 3, h =>
    rcases h with rfl | ⟨b, rfl, hb⟩
    · refine ⟨Or.inl ⟨rfl, ?_⟩, fun e he => by cases he⟩
      show q_ev r (q_x n) = _
      rw [q_ev_x, hn]
      rfl
    · refine ⟨Or.inr ⟨b, rfl, hb, ?_⟩, fun e he => by cases he⟩
      show _ = q_ev r (q_x n)
      rw [q_ev_x, hn]
      rfl
/-- is a value of a field's type? -/
def q_conf (hy : List qLin) (x : qAV) (t : qFT) (cs : List qCert) : Bool := match t.1 with
  | 0 => decide (x.1 = 0) && q_vc hy (q_sub x.2.2 (q_k t.2.2.1)) cs 0 && q_vc hy (q_sub (q_k t.2.2.2) x.2.2) cs 1
  | 1 => q_isL x
  | 2 => decide (x.1 = 2) && decide (x.2.1 = t.2.1)
  | _ => decide (x.1 = 3) || (decide (x.1 = 2) && decide (x.2.1 = t.2.1)) || (decide (x.1 = 4) && decide (x.2.1 = t.2.1))
theorem q_conf_ok {hy : List qLin} {x : qAV} {t : qFT} {cs : List qCert} (h : q_conf hy x t cs = true) {r : Nat → Int} (h0 : r 0 = 1) (hh : ∀ e ∈ hy, 0 ≤ q_ev r e) {T : qTy} {v : Value} (hv : q_av r T x v) : q_ft T t v := by
  obtain ⟨g, k, lo, hi⟩ := t
  match g, h with
  | 0, h =>
    simp only [q_conf, Bool.and_eq_true, decide_eq_true_eq] at h
    obtain ⟨⟨h1, h2⟩, h3⟩ := h
    obtain ⟨y, rfl, hy⟩ := hv.I h1
    have g1 := q_vc_ok h0 hh h2
    have g2 := q_vc_ok h0 hh h3
    rw [q_ev_sub, q_ev_k h0] at g1 g2
    exact ⟨y, rfl, by show lo ≤ _; omega, by show _ ≤ hi; omega⟩
  | 1, h => exact hv.L h
  | 2, h =>
    simp only [q_conf, Bool.and_eq_true, decide_eq_true_eq] at h
    obtain ⟨g', k', e'⟩ := x
    obtain ⟨h1, h2⟩ := h
    cases h1; cases h2
    obtain ⟨b, h3, h4, -⟩ := hv
    exact ⟨b, h3, h4⟩
  | m + 3, h =>
    simp only [q_conf, Bool.or_eq_true, Bool.and_eq_true, decide_eq_true_eq] at h
    obtain ⟨g', k', e'⟩ := x
    rcases h with (h1 | ⟨h1, h2⟩) | ⟨h1, h2⟩
    · cases h1; exact Or.inl hv
    · cases h1; cases h2
      obtain ⟨b, h3, h4, -⟩ := hv
      exact Or.inr ⟨b, h3, h4⟩
    · cases h1; cases h2
      rcases hv with ⟨h3, -⟩ | ⟨b, h3, h4, -⟩
      · exact Or.inl h3
      · exact Or.inr ⟨b, h3, h4⟩
/-- rows of the machine for a field of the pool: read and write -/
def q_Fget (C : qCx) (cc : ByteArray) (D : va_G) (idx ci f : Nat) : Prop := ∀ (pc : Nat) (H : Heap) (locs : List Loc) (cells slots : Nat) (ls : Array Slot) (sk : List Value) (a : Nat) (cell : Cell) (v : Value), decode cc pc = .ok (.getfield idx, 3) → H[a]? = some cell → cell.vm = .none → cell.cls = D.1 ci → cell.slots[D.2 ci f]? = some v → q_W C H locs cells slots (pc + 3) ls (v :: sk) → q_W C H locs cells slots pc ls (.ref a :: sk)
def q_Fput (C : qCx) (cc : ByteArray) (D : va_G) (idx ci f : Nat) (ty : FieldType) : Prop := ∀ (pc : Nat) (H : Heap) (locs : List Loc) (cells slots : Nat) (ls : Array Slot) (sk : List Value) (a : Nat) (cell : Cell) (v v0 : Value), decode cc pc = .ok (.putfield idx, 3) → H[a]? = some cell → cell.vm = .none → cell.cls = D.1 ci → cell.slots[D.2 ci f]? = some v0 → narrow ty v = v → fits ty v = true →
  (∀ H' : Heap, H'[a]? = some (cell.setSlot (D.2 ci f) v) → H'.size = H.size → (∀ q, q ≠ a → H'[q]? = H[q]?) → q_W C H' (locs ++ [⟨a, D.2 ci f⟩]) cells slots (pc + 3) ls sk) → q_W C H locs cells slots pc ls (v :: .ref a :: sk)
def q_lk (t : List (Nat × Nat × Nat)) (i : Nat) : Option (Nat × Nat) := match t with
  | [] => none
  | q :: t => if q.1 = i then some q.2 else q_lk t i
theorem q_lk_ok {i ci f : Nat} : ∀ {t : List (Nat × Nat × Nat)}, q_lk t i = some (ci, f) → (i, ci, f) ∈ t
  | [], h => by cases h
  | q :: t, h => by
    unfold q_lk at h
    split at h
    · rename_i hi
      obtain ⟨q1, q2⟩ := q
      cases hi
      cases Option.some.inj h
      exact List.mem_cons_self
    · exact List.mem_cons_of_mem _ (q_lk_ok h)
/-- pushes what a field of a type holds -/
def q_pushF (st : qSt) (xs : List qAV) (t : qFT) (ca : List qCa) : Option qSt := match q_fresh (q_setk st xs) (q_oft st.1 t).2 with
  | some st' => if 0 < st.1 then some (st'.1, st'.2.1, st'.2.2.1, (q_oft st.1 t).1 :: xs, ca ++ st'.2.2.2.2.1, st'.2.2.2.2.2) else none
  | none => none
theorem q_pushF_k {st st' : qSt} {xs : List qAV} {t : qFT} {ca : List qCa} (hp : q_pushF st xs t ca = some st') : st'.2.2.2.2.2 = st.2.2.2.2.2 := by
  unfold q_pushF at hp
  split at hp
  · rename_i st1 h1
    split at hp
    · cases hp
      unfold q_fresh at h1
      split at h1
      · cases h1; rfl
      · cases h1
    · cases hp
  · cases hp
theorem q_pushF_ok {G : qGx} {st st' : qSt} {xs : List qAV} {t : qFT} {ca : List qCa} (hp : q_pushF st xs t ca = some st') {r : Nat → Int} {T : qTy} {ls : Array Slot} {sk sk0 : List Value} {H : Heap} {locs : List Loc} (h : q_ab G r T st ls sk0 H) (hx : q_stk r T xs sk) (hr : q_fr G st.1 r T H locs) {v : Value} (hv : q_ft T t v)
    (hca : ∀ r' : Nat → Int, (∀ i, i < st.1 → r' i = r i) → q_av r' T (q_oft st.1 t).1 v → ∀ c ∈ ca, q_cok (q_D G) (q_KT G) r' T H c) :
    ∃ r', q_ab G r' T st' ls (v :: sk) H ∧ q_fr G st'.1 r' T H locs := by
  unfold q_pushF at hp
  split at hp
  · rename_i st1 h1
    split at hp
    · rename_i hn
      cases hp
      obtain ⟨k1, k2⟩ := q_oft_ok hv (r := q_upr r st.1 (q_num v)) (q_upr0 h.1 hn _) (q_upr_self _ _ _)
      obtain ⟨g1, g2, g3⟩ := q_fresh_ok h1 (r := r) (h.setk hx) hr (q_num v) k2
      subst g3
      refine ⟨q_upr r st.1 (q_num v), ⟨g1.1, g1.2.1, g1.2.2.1, ⟨k1, g1.2.2.2.1⟩, g1.2.2.2.2.1, fun c hc => ?_⟩, g2⟩
      rcases List.mem_append.mp hc with q | q
      · exact hca _ (q_upr_lt _ _ _) k1 c q
      · exact g1.2.2.2.2.2 c q
    · cases hp
  · cases hp
/-- getfield: mode 1, a known one; 0, a new one; 2, a new one that is noted -/
def q_stG (KT : List qKD) (fl : List (Nat × Nat × Nat)) (idx pc : Nat) (st : qSt) (ht : qHint) : qSuc := match q_lk fl idx, q_sk st with
  | some (ci, f), (2, k, e) :: xs => (match KT[k]? with
    | some (0, ci', _, fts) => if ci' = ci then (if ht.1 = 1 then (match st.2.2.2.2.1[(ht.2.2.2.getD 0 0).toNat]? with
          | some (e', k', f', x) => if e' = e ∧ k' = k ∧ f' = f then some [(pc + 3, q_setk st (x :: xs))] else none
          | none => none)
        else (match fts[f]? with
          | some t => if ht.1 = 2 then (if q_wf st.1 e = true then q_one (pc + 3) (q_pushF st xs t [(e, k, f, (q_oft st.1 t).1)]) else none) else q_one (pc + 3) (q_pushF st xs t [])
          | none => none)) else none
    | _ => none)
  | _, _ => none
section QP5
variable {C : qCx} {G : qGx} {cc : ByteArray} {pc : Nat} {st : qSt}
theorem q_slot0' {D : va_G} {KT : List qKD} {k ci n f : Nat} {fts : List qFT} (h : KT[k]? = some (0, ci, n, fts)) : q_slot D KT k f = D.2 ci f := by
  unfold q_slot
  rw [h]
  rfl
theorem q_stG_ok {fl : List (Nat × Nat × Nat)} {idx : Nat} {ht : qHint} {ss : List (Nat × qSt)} (hfl : ∀ i ci f, (i, ci, f) ∈ fl → q_Fget C cc (q_D G) i ci f) (hd : decode cc pc = .ok (.getfield idx, 3)) (h : q_stG (q_KT G) fl idx pc st ht = some ss) (hk : ∀ x ∈ ss, q_ok C G x.1 x.2) : q_ok C G pc st := by
  unfold q_stG at h
  split at h
  · rename_i ci f k e xs hl hsk
    have hrow := hfl _ _ _ (q_lk_ok hl)
    split at h
    · rename_i ci' nn fts hKT
      split at h
      · rename_i hci
        subst hci
        split at h
        · split at h
          · rename_i e' k' f' x hca
            split at h
            · rename_i hc
              obtain ⟨rfl, rfl, rfl⟩ := hc
              cases h
              refine q_ok.pure (q_h1 hk) rfl (fun r T ls sk H locs cells slots ha hf kk => ?_)
              have h4 : q_stk r T (q_sk st) sk := ha.2.2.2.1
              rw [hsk] at h4
              obtain ⟨v, vs, rfl, ⟨b, rfl, hb, hbe⟩, hvs⟩ := h4.cons
              obtain ⟨a, cell, w, g1, g2, g3, g4, g5⟩ := ha.2.2.2.2.2 _ (List.mem_of_getElem? hca)
              have hba : b = a := by
                have g1 : (a : Int) = q_ev r e' := g1
                have hbe : (b : Int) = q_ev r e' := hbe
                omega
              subst hba
              obtain ⟨d, cell', c1, c2, c3⟩ := ha.2.2.2.2.1 b k' hb
              cases hKT.symm.trans c1
              cases g3.symm.trans c2
              have g4 : cell.slots[q_slot (q_D G) (q_KT G) k' f']? = some w := g4
              rw [q_slot0' hKT] at g4
              exact hrow pc H locs cells slots ls vs b cell w hd c2 c3.1 c3.2.1 g4 (kk r ls _ (ha.setk ⟨g5, hvs⟩) hf)
            · cases h
          · cases h
        · split at h
          · rename_i t hft
            have main : ∀ (ca : List qCa) (st' : qSt), q_pushF st xs t ca = some st' → (∀ c ∈ ca, c = (e, k, f, (q_oft st.1 t).1) ∧ q_wf st.1 e = true) → q_ok C G (pc + 3) st' → q_ok C G pc st := by
              intro ca st' hp hca hk
              refine q_ok.pure hk (q_pushF_k hp) (fun r T ls sk H locs cells slots ha hf kk => ?_)
              have h4 : q_stk r T (q_sk st) sk := ha.2.2.2.1
              rw [hsk] at h4
              obtain ⟨v, vs, rfl, ⟨b, rfl, hb, hbe⟩, hvs⟩ := h4.cons
              obtain ⟨d, cell, c1, c2, c3⟩ := ha.2.2.2.2.1 b k hb
              cases hKT.symm.trans c1
              obtain ⟨c3, c4, c5⟩ := c3
              obtain ⟨w, c6, c7⟩ := c5 f t hft
              refine hrow pc H locs cells slots ls vs b cell w hd c2 c3 c4 c6 ?_
              obtain ⟨r', p1, p2⟩ := q_pushF_ok hp ha hvs hf c7 (fun r' hr' hav c hc => by
                obtain ⟨rfl, hw⟩ := hca c hc
                exact ⟨b, cell, w, by show (b : Int) = q_ev r' e; rw [q_ev_wf hr' e hw]; exact hbe, hb, c2, by rw [q_slot0' hKT]; exact c6, hav⟩)
              exact kk r' ls _ p1 p2
            split at h
            · split at h
              · rename_i hw
                unfold q_one at h
                split at h
                · rename_i st' hp
                  cases h
                  exact main _ st' hp (fun c hc => ⟨List.mem_singleton.mp hc, hw⟩) (q_h1 hk)
                · cases h
              · cases h
            · unfold q_one at h
              split at h
              · rename_i st' hp
                cases h
                exact main _ st' hp (fun c hc => by cases hc) (q_h1 hk)
              · cases h
          · cases h
      · cases h
    · cases h
  · cases h
end QP5
/-- an object's field is written: the frame -/
theorem q_fr.putO {G : qGx} {n : Nat} {r : Nat → Int} {T : qTy} {H H' : Heap} {locs : List Loc} (h : q_fr G n r T H locs) {a k f ci nn : Nat} {fts : List qFT} {cell : Cell} {v : Value} (ha : T a = some k) (hKT : (q_KT G)[k]? = some (0, ci, nn, fts)) (hf : f < fts.length) (hM : (k, f) ∈ q_M G) (hap : ∀ x y, x < fts.length → y < fts.length → x ≠ y → (q_D G).2 ci x ≠ (q_D G).2 ci y)
    (hc : H[a]? = some cell) (e1 : H'[a]? = some (cell.setSlot ((q_D G).2 ci f) v)) (hsz : H'.size = H.size) (oq : ∀ q, q ≠ a → H'[q]? = H[q]?) (i0 : Nat) : q_fr G n r T H' (locs ++ [⟨a, i0⟩]) := by
  obtain ⟨h1, h2, h3, h4, h5, h6⟩ := h
  refine ⟨h1, h2, h3.put hsz oq (h4 a k ha), h4, h5, fun b kb hb hkU j hj => ?_⟩
  rw [← h6 b kb hb hkU j hj]
  by_cases hab : b = a
  · subst hab
    have hkk : kb = k := Option.some.inj ((h5 b kb hb hkU).symm.trans ha)
    subst hkk
    unfold q_fp at hj
    rw [hKT] at hj
    obtain ⟨j1, j2⟩ := hj
    unfold q_rd
    rw [e1, hc, q_slot0' hKT]
    show (cell.setSlot _ v).slots[_]? = cell.slots[_]?
    exact slot_ne _ _ (hap f j hf j1 (fun q => j2 (by rw [← q]; exact hM)))
  · unfold q_rd
    rw [oq b hab]
/-- an array's element is written: the frame -/
theorem q_fr.putA {G : qGx} {n : Nat} {r : Nat → Int} {T : qTy} {H H' : Heap} {locs : List Loc} (h : q_fr G n r T H locs) {a k g t nn : Nat} {fts : List qFT} (ha : T a = some k) (hKT : (q_KT G)[k]? = some (g + 1, t, nn, fts)) (hM : (k, 0) ∈ q_M G)
    (hsz : H'.size = H.size) (oq : ∀ q, q ≠ a → H'[q]? = H[q]?) (i0 : Nat) : q_fr G n r T H' (locs ++ [⟨a, i0⟩]) := by
  obtain ⟨h1, h2, h3, h4, h5, h6⟩ := h
  refine ⟨h1, h2, h3.put hsz oq (h4 a k ha), h4, h5, fun b kb hb hkU j hj => ?_⟩
  rw [← h6 b kb hb hkU j hj]
  by_cases hab : b = a
  · subst hab
    have hkk : kb = k := Option.some.inj ((h5 b kb hb hkU).symm.trans ha)
    subst hkk
    unfold q_fp at hj
    rw [hKT] at hj
    exact absurd hM hj
  · unfold q_rd
    rw [oq b hab]
/-- what is known of cells stays, where no such field is written -/
theorem q_cok.putO {D : va_G} {KT : List qKD} {r : Nat → Int} {T : qTy} {H H' : Heap} {a k f ci nn : Nat} {fts : List qFT} {cell : Cell} {v : Value} (ha : T a = some k) (hKT : KT[k]? = some (0, ci, nn, fts)) (hf : f < fts.length) (hap : ∀ x y, x < fts.length → y < fts.length → x ≠ y → D.2 ci x ≠ D.2 ci y) (hc : H[a]? = some cell) (e1 : H'[a]? = some (cell.setSlot (D.2 ci f) v)) (oq : ∀ q, q ≠ a → H'[q]? = H[q]?)
    {c : qCa} (h : q_cok D KT r T H c) (hj : c.2.1 = k → c.2.2.1 < fts.length ∧ ¬ c.2.2.1 = f) : q_cok D KT r T H' c := by
  obtain ⟨b, cb, w, g1, g2, g3, g4, g5⟩ := h
  by_cases hab : b = a
  · subst hab
    have hkk : c.2.1 = k := Option.some.inj (g2.symm.trans ha)
    obtain ⟨j1, j2⟩ := hj hkk
    cases hc.symm.trans g3
    refine ⟨b, _, w, g1, g2, e1, ?_, g5⟩
    rw [hkk, q_slot0' hKT] at g4 ⊢
    rw [slot_ne _ _ (hap f _ hf j1 (fun q => j2 q.symm))]
    exact g4
  · exact ⟨b, cb, w, g1, g2, (oq b hab).trans g3, g4, g5⟩
def q_ktf (KT : List qKD) (ci f : Nat) (ty : FieldType) : Bool := KT.all (fun d => if d.1 = 0 ∧ d.2.1 = ci then (match d.2.2.2[f]? with
  | some t => q_fok t ty
  | none => true) else true)
theorem q_ktf_ok {KT : List qKD} {ci f : Nat} {ty : FieldType} (h : q_ktf KT ci f ty = true) {k n : Nat} {fts : List qFT} {t : qFT} (hk : KT[k]? = some (0, ci, n, fts)) (ht : fts[f]? = some t) : q_fok t ty = true := by
  unfold q_ktf at h
  have h1 := List.all_eq_true.mp h _ (List.mem_of_getElem? hk)
  simp only [and_self, if_true, ht] at h1
  exact h1
/-- putfield; mode 2: it is noted -/
def q_stP (KT : List qKD) (M : List (Nat × Nat)) (fl : List (Nat × Nat × Nat)) (idx pc : Nat) (st : qSt) (ht : qHint) : qSuc := match q_lk fl idx, q_sk st with
  | some (ci, f), x :: (2, k, e) :: xs => (match KT[k]? with
    | some (0, ci', _, fts) => (match fts[f]? with
      | some t => if ci' = ci ∧ q_conf st.2.1 x t ht.2.1 = true ∧ (k, f) ∈ M ∧ st.2.2.2.2.1.all (fun c => if c.2.1 = k then decide (c.2.2.1 < fts.length) else true) = true then
          some [(pc + 3, (st.1, st.2.1, st.2.2.1, xs, (if ht.1 = 2 then [(e, k, f, x)] else []) ++ st.2.2.2.2.1.filter (fun c => !(decide (c.2.1 = k) && decide (c.2.2.1 = f))), st.2.2.2.2.2))] else none
      | none => none)
    | _ => none)
  | _, _ => none
section QP6
variable {C : qCx} {G : qGx} {cc : ByteArray} {pc : Nat} {st : qSt}
theorem q_stP_ok {fl : List (Nat × Nat × Nat)} {idx : Nat} {ht : qHint} {ss : List (Nat × qSt)} (hfl : ∀ i ci f, (i, ci, f) ∈ fl → ∃ ty, q_Fput C cc (q_D G) i ci f ty ∧ q_ktf (q_KT G) ci f ty = true) (hap : ∀ (k ci n : Nat) (fts : List qFT), (q_KT G)[k]? = some (0, ci, n, fts) → ∀ x y, x < fts.length → y < fts.length → x ≠ y → (q_D G).2 ci x ≠ (q_D G).2 ci y)
    (hd : decode cc pc = .ok (.putfield idx, 3)) (h : q_stP (q_KT G) (q_M G) fl idx pc st ht = some ss) (hk : ∀ x ∈ ss, q_ok C G x.1 x.2) : q_ok C G pc st := by
  unfold q_stP at h
  split at h
  · rename_i ci f x k e xs hl hsk
    obtain ⟨ty, hrow, hty⟩ := hfl _ _ _ (q_lk_ok hl)
    split at h
    · rename_i ci' nn fts hKT
      split at h
      · rename_i t hft
        split at h
        · rename_i hc
          obtain ⟨rfl, c1, c2, c3⟩ := hc
          cases h
          have hk := q_h1 hk
          intro r T ls sk H locs ha hf
          have h4 : q_stk r T (q_sk st) sk := ha.2.2.2.1
          rw [hsk] at h4
          obtain ⟨v, vs, rfl, hv, hvs⟩ := h4.cons
          obtain ⟨w, ws, rfl, ⟨b, rfl, hb, hbe⟩, hws⟩ := hvs.cons
          have hvt := q_conf_ok c1 ha.1 ha.2.1 hv
          obtain ⟨n1, n2⟩ := q_fok_ok (q_ktf_ok hty hKT hft) hvt
          obtain ⟨d, cell, d1, d2, d3⟩ := ha.2.2.2.2.1 b k hb
          cases hKT.symm.trans d1
          obtain ⟨v0, d4, -⟩ := d3.2.2 f t hft
          have hfl := (List.getElem?_eq_some_iff.mp hft).1
          have hap := hap k _ _ _ hKT
          refine hrow pc H locs _ _ ls ws b cell v v0 hd d2 d3.1 d3.2.1 d4 n1 n2 (fun H' e1 hsz oq => ?_)
          have hinv := ha.2.2.2.2.1.set hb hKT e1 (d3.put hft hvt hap) oq
          refine hk r T ls ws H' _ ⟨ha.1, ha.2.1, ha.2.2.1, hws, hinv, fun c hc => ?_⟩ (hf.putO hb hKT hfl c2 hap d2 e1 hsz oq _)
          rcases List.mem_append.mp hc with hc | hc
          · split at hc
            · rw [List.mem_singleton.mp hc]
              exact ⟨b, _, v, hbe, hb, e1, by rw [q_slot0' hKT]; exact Cell.slots_setSlot_self _ (k2_hasslot d4), hv⟩
            · cases hc
          · obtain ⟨hc1, hc2⟩ := List.mem_filter.mp hc
            refine (ha.2.2.2.2.2 c hc1).putO hb hKT hfl hap d2 e1 oq (fun hck => ?_)
            have c3 := List.all_eq_true.mp c3 c hc1
            rw [if_pos hck] at c3
            refine ⟨by simpa using c3, fun q => ?_⟩
            simp [hck, q] at hc2
        · cases h
      · cases h
    · cases h
  · cases h
end QP6
