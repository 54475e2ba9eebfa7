/-! ITEMS THAT ARE NO INSTRUCTIONS: a state that can't be, a case split, a kind that is raised, an arrival at a known state -/
def q_dead (st : qSt) (ht : qHint) : Bool := q_vc st.2.1 (q_k (-1)) ht.2.1 0
def q_spl (pc : Nat) (st : qSt) (ht : qHint) : qSuc := match ht.2.2.1 with
  | [e] => some [(pc, q_addh st [e]), (pc, q_addh st [q_sub (q_k (-1)) e])]
  | _ => none
/-- a number's form becomes another that is known to be the same -/
def q_rpe (pc : Nat) (st : qSt) (ht : qHint) : qSuc := match ht.2.2.1 with
  | [e, e'] => if q_vc st.2.1 (q_sub e e') ht.2.1 0 = true ∧ q_vc st.2.1 (q_sub e' e) ht.2.1 1 = true then some [(pc, q_rps (0, 0, e) (0, 0, e') (q_rps (5, 0, e) (5, 0, e') st))] else none
  | _ => none
/-- is the value of a field known to be of the new kind's type? -/
def q_upf (st : qSt) (e : qLin) (k : Nat) (t t' : qFT) (j : Nat) : Bool := decide (t = t') || st.2.2.2.2.1.any (fun c => decide (c.1 = e) && decide (c.2.1 = k) && decide (c.2.2.1 = j) && q_conf st.2.1 c.2.2.2 t' [])
def q_noK (k : Nat) (t : qFT) : Bool := !((t.1 == 2 || decide (3 ≤ t.1)) && t.2.1 == k)
/-- a value whose kind is raised; others of the old kind there may not be -/
def q_upv (e : qLin) (k k' : Nat) (x : qAV) : Option qAV := match x.1 with
  | 2 => if x.2.1 = k then (if x.2.2 = e then some (2, k', e) else none) else some x
  | 4 => if x.2.1 = k then none else some x
  | _ => some x
def q_upl (e : qLin) (k k' : Nat) (q : Nat × qAV) : Option (Nat × qAV) := match q_upv e k k' q.2 with
  | some y => some (q.1, y)
  | none => none
def q_upc (e : qLin) (k k' : Nat) (c : qCa) : Option qCa := match q_upv e k k' c.2.2.2 with
  | some y => if c.2.1 = k then (if c.1 = e then some (c.1, k', c.2.2.1, y) else none) else some (c.1, c.2.1, c.2.2.1, y)
  | none => none
/-- the two kinds have the same cells, and what differs is known -/
def q_upk (st : qSt) (e : qLin) (k k' : Nat) (d d' : qKD) : Bool := match d, d' with
  | (0, ci, _, fts), (0, ci', _, fts') => decide (ci = ci') && decide (fts.length = fts'.length) && (List.range fts.length).all (fun j => match fts[j]?, fts'[j]? with
      | some t, some t' => q_upf st e k t t' j
      | _, _ => false)
  | (g + 1, t, n, [ft]), (g' + 1, t', n', [ft']) => decide (g = g') && decide (t = t') && decide (n = n') && (List.range n).all (fun j => q_upf st e k ft ft' j)
  | _, _ => false
def q_upg (KT : List qKD) (U : List Nat) (pc : Nat) (st : qSt) (ht : qHint) : qSuc := match ht.2.2.1, ht.2.2.2 with
  | [e], [k0, k0'] => (match KT[k0.toNat]?, KT[k0'.toNat]? with
    | some d, some d' => if k0.toNat ∈ U ∧ ¬ k0.toNat = k0'.toNat ∧ KT.all (fun d => d.2.2.2.all (q_noK k0.toNat)) = true ∧ q_upk st e k0.toNat k0'.toNat d d' = true ∧ ((st.2.2.1.any (fun q => decide (q.2 = (2, k0.toNat, e)))) || ((q_sk st).any (fun q => decide (q = (2, k0.toNat, e))))) = true then
        (match q_mpo (q_upl e k0.toNat k0'.toNat) st.2.2.1, q_mpo (q_upv e k0.toNat k0'.toNat) (q_sk st), q_mpo (q_upc e k0.toNat k0'.toNat) st.2.2.2.2.1 with
          | some lo, some sk, some ca => some [(pc, (st.1, st.2.1, lo, sk, ca, st.2.2.2.2.2))]
          | _, _, _ => none) else none
    | _, _ => none)
  | _, _ => none
section QP11
variable {C : qCx} {G : qGx} {cc : ByteArray} {pc : Nat} {st : qSt}
theorem q_dead_ok {ht : qHint} (h : q_dead st ht = true) : q_ok C G pc st := by
  intro r T ls sk H locs ha hf
  have := q_vc_ok ha.1 ha.2.1 h
  rw [q_ev_k ha.1] at this
  exact absurd this (by decide)
theorem q_spl_ok {ht : qHint} {ss : List (Nat × qSt)} (h : q_spl pc st ht = some ss) (hk : ∀ x ∈ ss, q_ok C G x.1 x.2) : q_ok C G pc st := by
  unfold q_spl at h
  split at h
  · rename_i e he
    cases h
    intro r T ls sk H locs ha hf
    rcases Int.lt_or_le (q_ev r e) 0 with hn | hn
    · exact hk _ (List.mem_cons_of_mem _ List.mem_cons_self) r T ls sk H locs (ha.addh (q_l1 (by rw [q_ev_sub, q_ev_k ha.1]; omega))) hf
    · exact hk _ List.mem_cons_self r T ls sk H locs (ha.addh (q_l1 hn)) hf
  · cases h
theorem q_rpe_ok {ht : qHint} {ss : List (Nat × qSt)} (h : q_rpe pc st ht = some ss) (hk : ∀ x ∈ ss, q_ok C G x.1 x.2) : q_ok C G pc st := by
  unfold q_rpe at h
  split at h
  · rename_i e e' he
    split at h
    · rename_i hc
      cases h
      have hk := q_h1 hk
      intro r T ls sk H locs ha hf
      have g1 := q_vc_ok ha.1 ha.2.1 hc.1
      have g2 := q_vc_ok ha.1 ha.2.1 hc.2
      rw [q_ev_sub] at g1 g2
      have hee : q_ev r e = q_ev r e' := by omega
      exact hk r T ls sk H locs (q_rps_ok (fun w hw => by obtain ⟨y, h1, h2⟩ := hw; exact ⟨y, h1, h2.trans hee⟩) (q_rps_ok (fun w hw => by obtain ⟨y, h1, h2⟩ := hw; exact ⟨y, h1, h2.trans hee⟩) ha)) hf
    · cases h
  · cases h
theorem q_ft.up {T : qTy} {a k k' : Nat} (ha : T a = some k) {t : qFT} (hn : q_noK k t = true) {v : Value} (h : q_ft T t v) : q_ft (q_up T a k') t v := by
  have key : ∀ b kk, T b = some kk → ¬ kk = k → q_up T a k' b = some kk := by
    intro b kk hb hne
    rw [q_up_ne T (fun e => hne (by rw [e] at hb; exact Option.some.inj (hb.symm.trans ha)))]
    exact hb
  obtain ⟨g, kk, lo, hi⟩ := t
  match g, hn, h with
  | 0, _, h => exact h
  | 1, _, h => exact h
  | 2, hn, h =>
    obtain ⟨b, h1, h2⟩ := h
    exact ⟨b, h1, key b _ h2 (by simpa [q_noK] using hn)⟩
  | m + 3, hn, h =>
    rcases h with h | ⟨b, h1, h2⟩
    · exact Or.inl h
    · exact Or.inr ⟨b, h1, key b _ h2 (by simpa [q_noK] using hn)⟩
theorem q_upv_ok {r : Nat → Int} {T : qTy} {a k k' : Nat} (ha : T a = some k) {e : qLin} (he : (a : Int) = q_ev r e) {x y : qAV} (h : q_upv e k k' x = some y) {v : Value} (hv : q_av r T x v) : q_av r (q_up T a k') y v := by
  have key : ∀ b kk, T b = some kk → ¬ kk = k → q_up T a k' b = some kk := by
    intro b kk hb hne
    rw [q_up_ne T (fun e => hne (by rw [e] at hb; exact Option.some.inj (hb.symm.trans ha)))]
    exact hb
  obtain ⟨g, kk, ex⟩ := x
  match g, h, hv with
  | 0, h, hv => cases h; exact hv
  | 1, h, hv => cases h; exact hv
  | 2, h, hv =>
    simp only [q_upv] at h
    obtain ⟨b, h1, h2, h3⟩ := hv
    split at h
    · split at h
      · rename_i h4 h5
        cases h
        have h3 : (b : Int) = q_ev r ex := h3
        rw [h5] at h3
        have : b = a := by omega
        subst this
        exact ⟨b, h1, q_up_self _ _ _, h3⟩
      · cases h
    · rename_i h4
      cases h
      exact ⟨b, h1, key b _ h2 h4, h3⟩
  | 3, h, hv => cases h; exact hv
  | 4, h, hv =>
    simp only [q_upv] at h
    split at h
    · cases h
    · rename_i h4
      cases h
      rcases hv with hv | ⟨b, h1, h2, h3⟩
      · exact Or.inl hv
      · exact Or.inr ⟨b, h1, key b _ h2 h4, h3⟩
  | 5, h, hv => cases h; exact hv
  | m + 6, h, hv => cases h; exact hv
theorem q_upsk_ok {r : Nat → Int} {T : qTy} {a k k' : Nat} (ha : T a = some k) {e : qLin} (he : (a : Int) = q_ev r e) : ∀ {xs ys : List qAV} {vs : List Value}, q_mpo (q_upv e k k') xs = some ys → q_stk r T xs vs → q_stk r (q_up T a k') ys vs
  | [], ys, [], h, _ => by cases h; trivial
  | x :: xs, ys, v :: vs, h, hv => by
    unfold q_mpo at h
    split at h
    · rename_i y ys' h1 h2
      cases h
      exact ⟨q_upv_ok ha he h1 hv.1, q_upsk_ok ha he h2 hv.2⟩
    · cases h
theorem q_uplo_ok {r : Nat → Int} {T : qTy} {a k k' : Nat} (ha : T a = some k) {e : qLin} (he : (a : Int) = q_ev r e) : ∀ {xs ys : List (Nat × qAV)} {vs : List (Nat × Value)}, q_mpo (q_upl e k k') xs = some ys → q_lvs r T xs vs → q_lvs r (q_up T a k') ys vs
  | [], ys, [], h, _ => by cases h; trivial
  | x :: xs, ys, v :: vs, h, hv => by
    unfold q_mpo at h
    split at h
    · rename_i y ys' h1 h2
      cases h
      unfold q_upl at h1
      split at h1
      · rename_i y' h3
        cases h1
        exact ⟨⟨hv.1.1, q_upv_ok ha he h3 hv.1.2⟩, q_uplo_ok ha he h2 hv.2⟩
      · cases h1
    · cases h
theorem q_mpo_mem {α β : Type} {f : α → Option β} : ∀ {xs : List α} {ys : List β}, q_mpo f xs = some ys → ∀ y ∈ ys, ∃ x ∈ xs, f x = some y
  | [], ys, h, y, hy => by cases h; cases hy
  | x :: xs, ys, h, y, hy => by
    unfold q_mpo at h
    split at h
    · rename_i y' ys' h1 h2
      cases h
      rcases List.mem_cons.mp hy with rfl | hy
      · exact ⟨x, List.mem_cons_self, h1⟩
      · obtain ⟨x', hx', h3⟩ := q_mpo_mem h2 y hy
        exact ⟨x', List.mem_cons_of_mem _ hx', h3⟩
    · cases h
theorem q_noK_all {KT : List qKD} {k : Nat} (h : KT.all (fun d => d.2.2.2.all (q_noK k)) = true) {i : Nat} {d : qKD} (hd : KT[i]? = some d) {ft : qFT} (hf : ft ∈ d.2.2.2) : q_noK k ft = true :=
  List.all_eq_true.mp (List.all_eq_true.mp h d (List.mem_of_getElem? hd)) ft hf
theorem q_cell.up {D : va_G} {tys : List (ClassId × FieldType)} {T : qTy} {a k k' : Nat} (ha : T a = some k) {d : qKD} (hn : ∀ ft ∈ d.2.2.2, q_noK k ft = true) {cell : Cell} (h : q_cell D tys T d cell) : q_cell D tys (q_up T a k') d cell := by
  obtain ⟨g, x, n, fts⟩ := d
  match g, h with
  | 0, h =>
    obtain ⟨h1, h2, h3⟩ := h
    refine ⟨h1, h2, fun j ft hj => ?_⟩
    obtain ⟨v, h4, h5⟩ := h3 j ft hj
    exact ⟨v, h4, h5.up ha (hn ft (List.mem_of_getElem? hj))⟩
  | g + 1, h =>
    obtain ⟨cA, ty, z, h1, h2, h3, h4⟩ := h
    exact ⟨cA, ty, z, h1, h2, h3, fun j hj ft hf => (h4 j hj ft hf).up ha (hn ft hf)⟩
end QP11
