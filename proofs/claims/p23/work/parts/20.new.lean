/-! STEPS 6: new cells -/
def q_dfo (t : qFT) : Bool := match t.1 with
  | 0 => decide (t.2.2.1 ≤ 0) && decide (0 ≤ t.2.2.2)
  | 1 => true
  | 2 => false
  | _ => true
theorem q_dfo_ok {T : qTy} {t : qFT} {ty : FieldType} (h : q_fok t ty = true) (hd : q_dfo t = true) : q_ft T t (defaultValue ty) := by
  obtain ⟨g, k, lo, hi⟩ := t
  match g, h, hd with
  | 0, h, hd =>
    simp only [q_dfo, Bool.and_eq_true, decide_eq_true_eq] at hd
    cases ty <;> simp only [q_fok, Bool.false_eq_true] at h
    · exact ⟨0, rfl, hd.1, hd.2⟩
    · exact ⟨0, rfl, hd.1, hd.2⟩
  | 1, h, _ =>
    cases ty <;> simp only [q_fok, Bool.false_eq_true] at h
    exact ⟨0, rfl⟩
  | 2, _, hd => cases hd
  | n + 3, h, _ =>
    cases ty <;> simp only [q_fok, Bool.false_eq_true] at h
    · exact Or.inl rfl
    · exact Or.inl rfl
/-- the frame, behind a new cell -/
theorem q_fr.new {G : qGx} (hA2 : ∀ q, (q_H0 G).size ≤ q → q_A G q) {n : Nat} {r : Nat → Int} {T : qTy} {H H' : Heap} {locs : List Loc} (h : q_fr G n r T H locs) (hinv : q_inv (q_D G) (q_tys G) (q_KT G) T H) {k : Nat} (hsz : H'.size = H.size + 1) (oq : ∀ q, q < H.size → H'[q]? = H[q]?) (v : Int) :
    q_fr G (n + 1) (q_upr r n v) (q_up T H.size k) H' locs := by
  obtain ⟨h1, h2, h3, h4, h5, h6⟩ := h.step v
  refine ⟨h1, h2, ⟨Nat.le_trans h3.1 (by omega), fun q g1 g2 => (oq q (Nat.lt_of_lt_of_le g1 h3.1)).trans (h3.2.1 q g1 g2), h3.2.2⟩, fun a ka ha => ?_, fun a ka ha hu => ?_, fun a ka ha hu j hj => ?_⟩
  · by_cases hq : a = H.size
    · subst hq; exact hA2 _ h3.1
    · rw [q_up_ne T hq] at ha; exact h4 a ka ha
  · have h7 := h5 a ka ha hu
    have h8 := hinv.lt h7
    rw [q_up_ne T (by omega)]
    exact h7
  · rw [← h6 a ka ha hu j hj]
    have h8 := hinv.lt (h5 a ka ha hu)
    unfold q_rd
    rw [oq a h8]
theorem q_cok.le {D : va_G} {KT : List qKD} {r : Nat → Int} {T T' : qTy} {H H' : Heap} {c : qCa} (h : q_cok D KT r T H c) (hT : q_le T T') (oq : ∀ a k, T a = some k → H'[a]? = H[a]?) : q_cok D KT r T' H' c := by
  obtain ⟨a, cell, v, g1, g2, g3, g4, g5⟩ := h
  exact ⟨a, cell, v, g1, hT a _ g2, (oq a _ g2).trans g3, g4, g5.mv (U := []) (q_leU.of hT) (by
    unfold q_avU
    split <;> first | rfl | simp)⟩
theorem q_avU0 (x : qAV) : q_avU [] x = true := by
  unfold q_avU
  split <;> first | rfl | simp
/-- a new cell of a kind is on top -/
def q_pushN (st : qSt) (xs : List qAV) (k n : Nat) : Option qSt := match q_fresh (q_setk st xs) [] with
  | some st' => if 0 < st.1 then some (st'.1, st'.2.1, st'.2.2.1, (2, k, q_x st.1) :: xs, st'.2.2.2.2.1, st.2.2.2.2.2.1 + 1, st.2.2.2.2.2.2 + n) else none
  | none => none
theorem q_pushN_ok {G : qGx} (hA2 : ∀ q, (q_H0 G).size ≤ q → q_A G q) {st st' : qSt} {xs : List qAV} {k n : Nat} (hp : q_pushN st xs k n = some st') {r : Nat → Int} {T : qTy} {ls : Array Slot} {sk sk0 : List Value} {H H' : Heap} {locs : List Loc} (h : q_ab G r T st ls sk0 H) (hx : q_stk r T xs sk) (hr : q_fr G st.1 r T H locs)
    {d : qKD} (hd : (q_KT G)[k]? = some d) {cell : Cell} (hc : H'[H.size]? = some cell) (hok : q_cell (q_D G) (q_tys G) T d cell) (hsz : H'.size = H.size + 1) (oq : ∀ q, q < H.size → H'[q]? = H[q]?) :
    ∃ r' T', q_ab G r' T' st' ls (.ref H.size :: sk) H' ∧ q_fr G st'.1 r' T' H' locs ∧ st'.2.2.2.2.2.1 = st.2.2.2.2.2.1 + 1 ∧ st'.2.2.2.2.2.2 = st.2.2.2.2.2.2 + n := by
  unfold q_pushN at hp
  split at hp
  · rename_i st1 h1
    split at hp
    · rename_i hn
      cases hp
      obtain ⟨g1, g2, g3⟩ := q_fresh_ok h1 (r := r) (h.setk hx) hr (H.size : Int) (fun e he => by cases he)
      subst g3
      have hinv := h.2.2.2.2.1
      have hle : q_le T (q_up T H.size k) := q_le_up (hinv.none (Nat.le_refl _))
      refine ⟨q_upr r st.1 (H.size : Int), q_up T H.size k, ⟨g1.1, g1.2.1, ?_, ⟨⟨H.size, rfl, q_up_self _ _ _, ?_⟩, ?_⟩, hinv.new hd hc hok oq, fun c hc2 => ?_⟩, hr.new hA2 hinv hsz oq _, rfl, rfl⟩
      · obtain ⟨lv, l1, l2⟩ := g1.2.2.1
        exact ⟨lv, l1, l2.imp (fun x _ v hv => hv.mv (U := []) (q_leU.of hle) (q_avU0 _))⟩
      · show _ = q_ev _ (q_x st.1)
        rw [q_ev_x, q_upr_self]
      · exact q_stk.imp (fun x _ v hv => hv.mv (U := []) (q_leU.of hle) (q_avU0 _)) g1.2.2.2.1
      · exact (g1.2.2.2.2.2 c hc2).le hle (fun a ka ha => oq a (hinv.lt ha))
    · cases hp
  · cases hp
/-- the value that a field of a type has at first -/
def q_dav (t : qFT) : qAV := match t.1 with
  | 0 => (0, 0, [])
  | 1 => (5, 0, [])
  | _ => (3, 0, [])
theorem q_dav_ok {r : Nat → Int} {T : qTy} {t : qFT} {ty : FieldType} (h : q_fok t ty = true) : q_av r T (q_dav t) (defaultValue ty) := by
  obtain ⟨g, k, lo, hi⟩ := t
  match g, h with
  | 0, h =>
    cases ty with
    | boolean => exact ⟨0, rfl, rfl⟩
    | int => exact ⟨0, rfl, rfl⟩
    | _ => simp [q_fok] at h
  | 1, h =>
    cases ty with
    | long => exact ⟨0, rfl, rfl⟩
    | _ => simp [q_fok] at h
  | n + 2, h =>
    cases ty with
    | object _ => exact rfl
    | array _ => exact rfl
    | _ => simp [q_fok] at h
def q_addc (st : qSt) (cs : List qCa) : qSt := (st.1, st.2.1, st.2.2.1, st.2.2.2.1, cs ++ st.2.2.2.2.1, st.2.2.2.2.2)
theorem q_abs.addc {D : va_G} {tys : List (ClassId × FieldType)} {KT : List qKD} {nL : Nat} {r : Nat → Int} {T : qTy} {st : qSt} {ls : Array Slot} {sk : List Value} {cs : List qCa} {H : Heap} (h : q_abs D tys KT nL r T st ls sk H) (hc : ∀ c ∈ cs, q_cok D KT r T H c) : q_abs D tys KT nL r T (q_addc st cs) ls sk H :=
  ⟨h.1, h.2.1, h.2.2.1, h.2.2.2.1, h.2.2.2.2.1, fun c hm => by
    rcases List.mem_append.mp hm with q | q
    · exact hc c q
    · exact h.2.2.2.2.2 c q⟩
theorem q_pushN_sk {st st' : qSt} {xs : List qAV} {k n : Nat} (hp : q_pushN st xs k n = some st') : st'.2.2.2.1 = (2, k, q_x st.1) :: xs := by
  unfold q_pushN at hp
  split at hp
  · split at hp
    · cases hp; rfl
    · cases hp
  · cases hp
/-- with what its fields (its elements) are at first -/
def q_pushM (st : qSt) (xs : List qAV) (k n : Nat) (fts : List qFT) : Option qSt := match q_pushN st xs k n with
  | some st' => some (q_addc st' ((List.range fts.length).map (fun j => (q_x st.1, k, j, q_dav (fts.getD j (0, 0, 0, 0))))))
  | none => none
theorem q_pushM_ok {G : qGx} (hA2 : ∀ q, (q_H0 G).size ≤ q → q_A G q) {st st' : qSt} {xs : List qAV} {k n : Nat} {fts : List qFT} (hp : q_pushM st xs k n fts = some st') {r : Nat → Int} {T : qTy} {ls : Array Slot} {sk sk0 : List Value} {H H' : Heap} {locs : List Loc} (h : q_ab G r T st ls sk0 H) (hx : q_stk r T xs sk) (hr : q_fr G st.1 r T H locs)
    {d : qKD} (hd : (q_KT G)[k]? = some d) {cell : Cell} (hc : H'[H.size]? = some cell) (hok : q_cell (q_D G) (q_tys G) T d cell) (hsz : H'.size = H.size + 1) (oq : ∀ q, q < H.size → H'[q]? = H[q]?)
    (hdef : ∀ j t, fts[j]? = some t → ∃ ty, q_fok t ty = true ∧ cell.slots[q_slot (q_D G) (q_KT G) k j]? = some (defaultValue ty)) :
    ∃ r' T', q_ab G r' T' st' ls (.ref H.size :: sk) H' ∧ q_fr G st'.1 r' T' H' locs ∧ st'.2.2.2.2.2.1 = st.2.2.2.2.2.1 + 1 ∧ st'.2.2.2.2.2.2 = st.2.2.2.2.2.2 + n := by
  unfold q_pushM at hp
  split at hp
  · rename_i st1 h1
    cases hp
    obtain ⟨r', T', p1, p2, p3, p4⟩ := q_pushN_ok hA2 h1 h hx hr hd hc hok hsz oq
    refine ⟨r', T', p1.addc (fun c hm => ?_), p2, p3, p4⟩
    obtain ⟨j, hj, rfl⟩ := List.mem_map.mp hm
    have hj := List.mem_range.mp hj
    have hs := p1.2.2.2.1
    rw [q_pushN_sk h1] at hs
    obtain ⟨b, hb1, hb2, hb3⟩ := hs.1
    cases hb1
    obtain ⟨ty, t1, t2⟩ := hdef j fts[j] (List.getElem?_eq_getElem hj)
    refine ⟨H.size, cell, _, hb3, hb2, hc, t2, ?_⟩
    show q_av r' T' (q_dav (fts.getD j (0, 0, 0, 0))) _
    rw [List.getD_eq_getElem?_getD, List.getElem?_eq_getElem hj]
    exact q_dav_ok t1
  · cases hp
/-- rows of the machine for new cells -/
def q_Fnew (C : qCx) (cc : ByteArray) (D : va_G) (idx ci n : Nat) (tyf : Nat → FieldType) : Prop := ∀ (pc : Nat) (H : Heap) (locs : List Loc) (cells slots : Nat) (ls : Array Slot) (sk : List Value), decode cc pc = .ok (.new idx, 3) → cells + 1 ≤ C.2.2.2.1.cells → slots + n ≤ C.2.2.2.1.slots →
  (∀ (H' : Heap) (cell : Cell), H'[H.size]? = some cell → H'.size = H.size + 1 → (∀ q, q < H.size → H'[q]? = H[q]?) → cell.vm = .none → cell.cls = D.1 ci → (∀ j, j < n → cell.slots[D.2 ci j]? = some (defaultValue (tyf j))) → q_W C H' locs (cells + 1) (slots + n) (pc + 3) ls (.ref H.size :: sk)) → q_W C H locs cells slots pc ls sk
def q_Fna (C : qCx) (cc : ByteArray) (ins : Instr) (cA : ClassId) (ty : FieldType) : Prop := ∀ (pc : Nat) (H : Heap) (locs : List Loc) (cells slots : Nat) (ls : Array Slot) (sk : List Value) (y : Int32) (n : Nat), decode cc pc = .ok (ins, q_len ins) → y.toInt = (n : Int) → n ≤ 100000 → cells + 1 ≤ C.2.2.2.1.cells → slots + n ≤ C.2.2.2.1.slots →
  (∀ H' : Heap, H'[H.size]? = some (arrV cA n (fun _ => defaultValue ty)) → H'.size = H.size + 1 → (∀ q, q < H.size → H'[q]? = H[q]?) → q_W C H' locs (cells + 1) (slots + n) (pc + q_len ins) ls (.ref H.size :: sk)) → q_W C H locs cells slots pc ls (.int y :: sk)
/-- new: the pool's entry says class, slots and the raw kind -/
def q_stW (KT : List qKD) (kx sx : Nat) (cn : List (Nat × Nat × Nat)) (idx pc : Nat) (st : qSt) (ht : qHint) : qSuc := match q_lk cn idx with
  | some (ci, n) => (match KT[(ht.2.2.2.getD 0 0).toNat]? with
    | some (0, ci', _, fts) => if ci' = ci ∧ fts.length ≤ n ∧ fts.all q_dfo = true ∧ st.2.2.2.2.2.1 + 1 ≤ kx ∧ st.2.2.2.2.2.2 + n ≤ sx then q_one (pc + 3) (q_pushM st (q_sk st) (ht.2.2.2.getD 0 0).toNat n fts) else none
    | _ => none)
  | none => none
def q_c5 (g : Nat) (ft : qFT) : Bool := match g with
  | 0 => q_fok ft .int
  | 1 => ft.1 == 4
  | 2 => q_fok ft .long
  | _ => q_fok ft .boolean
def q_stV (KT : List qKD) (kx sx : Nat) (na : List (Nat × Nat)) (key : Nat) (len pc : Nat) (st : qSt) (ht : qHint) : qSuc := match q_sk st with
  | (0, _, e) :: xs => (match KT[(ht.2.2.2.getD 0 0).toNat]? with
    | some (g + 1, t, n, [ft]) => if q_kv e = some (n : Int) ∧ n ≤ 100000 ∧ (key, t) ∈ na ∧ q_dfo ft = true ∧ q_c5 g ft = true ∧ st.2.2.2.2.2.1 + 1 ≤ kx ∧ st.2.2.2.2.2.2 + n ≤ sx then q_one (pc + len) (q_pushM st xs (ht.2.2.2.getD 0 0).toNat n (if ht.1 = 2 then List.replicate n ft else [])) else none
    | _ => none)
  | _ => none
section QP8
variable {C : qCx} {G : qGx} {cc : ByteArray} {pc : Nat} {st : qSt} {kx sx : Nat}
theorem q_stW_ok {cn : List (Nat × Nat × Nat)} {idx : Nat} {ht : qHint} {ss : List (Nat × qSt)} (hA2 : ∀ q, (q_H0 G).size ≤ q → q_A G q) (hR : q_c0 G + kx ≤ C.2.2.2.1.cells ∧ q_s0 G + sx ≤ C.2.2.2.1.slots)
    (hcn : ∀ i ci n, (i, ci, n) ∈ cn → ∃ tyf : Nat → FieldType, q_Fnew C cc (q_D G) i ci n tyf ∧ ∀ f, f < n → q_ktf (q_KT G) ci f (tyf f) = true) (hd : decode cc pc = .ok (.new idx, 3)) (h : q_stW (q_KT G) kx sx cn idx pc st ht = some ss) (hk : ∀ x ∈ ss, q_ok C G x.1 x.2) : q_ok C G pc st := by
  unfold q_stW at h
  split at h
  · rename_i ci n hl
    obtain ⟨tyf, hrow, hty⟩ := hcn _ _ _ (q_lk_ok hl)
    split at h
    · rename_i ci' nn fts hKT
      split at h
      · rename_i hc
        obtain ⟨rfl, c1, c2, c3, c4⟩ := hc
        unfold q_one at h
        split at h
        · rename_i st' hp
          cases h
          have hk := q_h1 hk
          intro r T ls sk H locs ha hf
          refine hrow pc H locs _ _ ls sk hd (by omega) (by omega) (fun H' cell e1 e2 e3 e4 e5 e6 => ?_)
          have hdf : ∀ j t, fts[j]? = some t → ∃ ty, q_fok t ty = true ∧ cell.slots[q_slot (q_D G) (q_KT G) (ht.2.2.2.getD 0 0).toNat j]? = some (defaultValue ty) := fun j t hj => ⟨tyf j, q_ktf_ok (hty j (Nat.lt_of_lt_of_le (List.getElem?_eq_some_iff.mp hj).1 c1)) hKT hj, by rw [q_slot0' hKT]; exact e6 j (Nat.lt_of_lt_of_le (List.getElem?_eq_some_iff.mp hj).1 c1)⟩
          obtain ⟨r', T', p1, p2, p3, p4⟩ := q_pushM_ok hA2 hp ha ha.2.2.2.1 hf hKT e1 ⟨e4, e5, fun j ft hj => ⟨_, e6 j (Nat.lt_of_lt_of_le (List.getElem?_eq_some_iff.mp hj).1 c1), q_dfo_ok (q_ktf_ok (hty j (Nat.lt_of_lt_of_le (List.getElem?_eq_some_iff.mp hj).1 c1)) hKT hj) (List.all_eq_true.mp c2 ft (List.mem_of_getElem? hj))⟩⟩ e2 e3 hdf
          have := hk r' T' ls _ H' locs p1 p2
          rw [p3, p4, ← Nat.add_assoc, ← Nat.add_assoc] at this
          exact this
        · cases h
      · cases h
    · cases h
  · cases h
theorem q_stV_ok {na : List (Nat × Nat)} {key : Nat} {ins : Instr} {ht : qHint} {ss : List (Nat × qSt)} (hA2 : ∀ q, (q_H0 G).size ≤ q → q_A G q) (hR : q_c0 G + kx ≤ C.2.2.2.1.cells ∧ q_s0 G + sx ≤ C.2.2.2.1.slots)
    (hna : ∀ t, (key, t) ∈ na → ∃ cA ty, (q_tys G)[t]? = some (cA, ty) ∧ q_Fna C cc ins cA ty) (hd : decode cc pc = .ok (ins, q_len ins)) (h : q_stV (q_KT G) kx sx na key (q_len ins) pc st ht = some ss) (hag : ∀ (g t n : Nat) (fts : List qFT) (k : Nat), (q_KT G)[k]? = some (g + 1, t, n, fts) → ∀ cA ty, (q_tys G)[t]? = some (cA, ty) → q_aty (g + 1) ty) (hk : ∀ x ∈ ss, q_ok C G x.1 x.2) : q_ok C G pc st := by
  unfold q_stV at h
  split at h
  · rename_i k0 e xs hsk
    split at h
    · rename_i g t n ft hKT
      split at h
      · rename_i hc
        obtain ⟨c1, c2, c3, c4, c5, c6, c7⟩ := hc
        obtain ⟨cA, ty, ht1, hrow⟩ := hna _ c3
        have hagt := hag _ _ _ _ _ hKT _ _ ht1
        have hfo : q_fok ft ty = true := by
          match g, c5, hagt with
          | 0, c5, hagt => cases (show ty = .int from hagt); exact c5
          | 1, c5, hagt =>
            obtain ⟨N, rfl⟩ := hagt
            obtain ⟨g', k', lo, hi⟩ := ft
            have : g' = 4 := by simpa [q_c5] using c5
            subst this
            rfl
          | 2, c5, hagt => cases (show ty = .long from hagt); exact c5
          | m + 3, c5, hagt => cases (show ty = .boolean from hagt); exact c5
        unfold q_one at h
        split at h
        · rename_i st' hp
          cases h
          have hk := q_h1 hk
          intro r T ls sk H locs ha hf
          have h4 : q_stk r T (q_sk st) sk := ha.2.2.2.1
          rw [hsk] at h4
          obtain ⟨v, vs, rfl, ⟨y, rfl, hy⟩, hvs⟩ := h4.cons
          have hy : y.toInt = q_ev r e := hy
          rw [q_kv_ok ha.1 c1] at hy
          refine hrow pc H locs _ _ ls vs y n hd hy c2 (by omega) (by omega) (fun H' e1 e2 e3 => ?_)
          have hdf : ∀ j t', (if ht.1 = 2 then List.replicate n ft else [])[j]? = some t' → ∃ ty', q_fok t' ty' = true ∧ (arrV cA n (fun _ => defaultValue ty)).slots[q_slot (q_D G) (q_KT G) (ht.2.2.2.getD 0 0).toNat j]? = some (defaultValue ty') := by
            intro j t' hj
            have hjn : j < n ∧ t' = ft := by
              split at hj
              · rw [List.getElem?_replicate] at hj
                split at hj
                · rename_i hjn; cases hj; exact ⟨hjn, rfl⟩
                · cases hj
              · simp at hj
            obtain ⟨hjn, rfl⟩ := hjn
            exact ⟨ty, hfo, by rw [q_slotA hKT]; exact arrV_read _ _ hjn⟩
          obtain ⟨r', T', p1, p2, p3, p4⟩ := q_pushM_ok hA2 hp ha hvs hf hKT e1 ⟨cA, ty, _, ht1, hagt, rfl, fun j hj f hf2 => by rw [List.mem_singleton.mp hf2]; exact q_dfo_ok hfo c4⟩ e2 e3 hdf
          have := hk r' T' ls _ H' locs p1 p2
          rw [p3, p4, ← Nat.add_assoc, ← Nat.add_assoc] at this
          exact this
        · cases h
      · cases h
    · cases h
  · cases h
end QP8
