/-! CONTRACTS AND CALLS. A contract: what must be known ahead (unknowns, forms, arguments, cells), what is known behind (unknowns, forms, the answer, cells, raised addresses), kinds that it may raise, fields that it may write, cells and slots that it makes -/
abbrev qCt : Type := (Nat × List qLin × List qAV × List qCa) × (Nat × List qLin × List qAV × List qCa × List (qLin × Nat)) × List Nat × List (Nat × Nat) × Nat × Nat
def q_suA (g : List qLin) (x : qAV) : qAV := (x.1, x.2.1, q_su g x.2.2)
def q_suC (g : List qLin) (c : qCa) : qCa := (q_su g c.1, c.2.1, c.2.2.1, q_suA g c.2.2.2)
theorem q_suA_ok {r : Nat → Int} {g : List qLin} {T : qTy} {x : qAV} {v : Value} : q_av r T (q_suA g x) v ↔ q_av (q_rs r g) T x v := by
  obtain ⟨t, k, e⟩ := x
  match t with
  | 0 => exact ⟨fun ⟨y, h1, h2⟩ => ⟨y, h1, h2.trans (q_ev_su r g e)⟩, fun ⟨y, h1, h2⟩ => ⟨y, h1, h2.trans (q_ev_su r g e).symm⟩⟩
  | 1 => exact Iff.rfl
  | 2 => exact ⟨fun ⟨y, h1, h2, h3⟩ => ⟨y, h1, h2, h3.trans (q_ev_su r g e)⟩, fun ⟨y, h1, h2, h3⟩ => ⟨y, h1, h2, h3.trans (q_ev_su r g e).symm⟩⟩
  | 3 => exact Iff.rfl
  | 4 =>
    constructor
    · rintro (⟨h1, h2⟩ | ⟨y, h1, h2, h3⟩)
      · exact Or.inl ⟨h1, (q_ev_su r g e).symm.trans h2⟩
      · exact Or.inr ⟨y, h1, h2, h3.trans (q_ev_su r g e)⟩
    · rintro (⟨h1, h2⟩ | ⟨y, h1, h2, h3⟩)
      · exact Or.inl ⟨h1, (q_ev_su r g e).trans h2⟩
      · exact Or.inr ⟨y, h1, h2, h3.trans (q_ev_su r g e).symm⟩
  | 5 => exact ⟨fun ⟨y, h1, h2⟩ => ⟨y, h1, h2.trans (q_ev_su r g e)⟩, fun ⟨y, h1, h2⟩ => ⟨y, h1, h2.trans (q_ev_su r g e).symm⟩⟩
  | m + 6 => exact ⟨fun ⟨y, h1, h2⟩ => ⟨y, h1, h2.trans (q_ev_su r g e)⟩, fun ⟨y, h1, h2⟩ => ⟨y, h1, h2.trans (q_ev_su r g e).symm⟩⟩
/-- a value is one of those that another stands for -/
def q_sbm (x t : qAV) : Bool := decide (x = t) || (decide (t.1 = 1) && q_isL x) || (decide (t.1 = 4) && decide (x.1 = 2) && decide (x.2 = t.2)) || (decide (t.1 = 4) && decide (x.1 = 3) && decide (t.2.2 = q_k (-1)))
theorem q_sbm_ok {r : Nat → Int} (h0 : r 0 = 1) {T : qTy} {x t : qAV} (h : q_sbm x t = true) {v : Value} (hv : q_av r T x v) : q_av r T t v := by
  simp only [q_sbm, Bool.or_eq_true, Bool.and_eq_true, decide_eq_true_eq] at h
  obtain ⟨g, k, e⟩ := t
  obtain ⟨g', k', e'⟩ := x
  rcases h with ((h | ⟨h1, h2⟩) | ⟨⟨h1, h2⟩, h3⟩) | ⟨⟨h1, h2⟩, h3⟩
  · cases h; exact hv
  · cases (show g = 1 from h1); exact hv.L h2
  · cases (show g = 4 from h1); cases (show g' = 2 from h2); cases h3; exact Or.inr hv
  · cases (show g = 4 from h1); cases (show g' = 3 from h2)
    refine Or.inl ⟨hv, ?_⟩
    rw [show ((4, k, e) : qAV).2.2 = q_k (-1) from h3]
    exact q_ev_k h0 _
def q_sbl : List qAV → List qAV → Bool
  | [], [] => true
  | x :: xs, t :: ts => q_sbm x t && q_sbl xs ts
  | _, _ => false
theorem q_sbl_ok {r : Nat → Int} (h0 : r 0 = 1) {T : qTy} : ∀ {xs ts : List qAV} {vs : List Value}, q_sbl xs ts = true → q_stk r T xs vs → q_stk r T ts vs
  | [], [], [], _, _ => trivial
  | x :: xs, t :: ts, v :: vs, h, hv => by
    simp only [q_sbl, Bool.and_eq_true] at h
    exact ⟨q_sbm_ok h0 h.1 hv.1, q_sbl_ok h0 h.2 hv.2⟩
/-- all of some forms are not below 0 -/
def q_vcs (hy : List qLin) (cs : List qCert) : Nat → List qLin → Bool
  | _, [] => true
  | i, e :: t => q_vc hy e cs i && q_vcs hy cs (i + 1) t
theorem q_vcs_ok {r : Nat → Int} (h0 : r 0 = 1) {hy : List qLin} (hh : ∀ e ∈ hy, 0 ≤ q_ev r e) {cs : List qCert} : ∀ {i : Nat} {l : List qLin}, q_vcs hy cs i l = true → ∀ e ∈ l, 0 ≤ q_ev r e
  | _, [], _, e, he => by cases he
  | i, a :: t, h, e, he => by
    simp only [q_vcs, Bool.and_eq_true] at h
    rcases List.mem_cons.mp he with rfl | he
    · exact q_vc_ok h0 hh h.1
    · exact q_vcs_ok h0 hh h.2 e he
/-- a wanted cell is among the known ones -/
def q_cam (c c' : qCa) : Bool := decide (c'.1 = c.1) && decide (c'.2.1 = c.2.1) && decide (c'.2.2.1 = c.2.2.1) && q_sbm c'.2.2.2 c.2.2.2
theorem q_cam_ok {D : va_G} {KT : List qKD} {r : Nat → Int} (h0 : r 0 = 1) {T : qTy} {H : Heap} {c c' : qCa} (h : q_cam c c' = true) (hc : q_cok D KT r T H c') : q_cok D KT r T H c := by
  simp only [q_cam, Bool.and_eq_true, decide_eq_true_eq] at h
  obtain ⟨⟨⟨h1, h2⟩, h3⟩, h4⟩ := h
  obtain ⟨a, cell, v, g1, g2, g3, g4, g5⟩ := hc
  exact ⟨a, cell, v, by rw [← h1]; exact g1, by rw [← h2]; exact g2, g3, by rw [← h2, ← h3]; exact g4, q_sbm_ok h0 h4 g5⟩
def q_cas (want have_ : List qCa) : Bool := want.all (fun c => have_.any (q_cam c))
theorem q_cas_ok {D : va_G} {KT : List qKD} {r : Nat → Int} (h0 : r 0 = 1) {T : qTy} {H : Heap} {w h : List qCa} (hm : q_cas w h = true) (hh : ∀ c ∈ h, q_cok D KT r T H c) : ∀ c ∈ w, q_cok D KT r T H c := by
  intro c hc
  obtain ⟨c', h1, h2⟩ := List.any_eq_true.mp (List.all_eq_true.mp hm c hc)
  exact q_cam_ok h0 h2 (hh c' h1)
theorem q_suC_ok {D : va_G} {KT : List qKD} {r : Nat → Int} {g : List qLin} {T : qTy} {H : Heap} {c : qCa} : q_cok D KT r T H (q_suC g c) ↔ q_cok D KT (q_rs r g) T H c := by
  constructor
  · rintro ⟨a, cell, v, g1, g2, g3, g4, g5⟩
    exact ⟨a, cell, v, g1.trans (q_ev_su r g c.1), g2, g3, g4, q_suA_ok.mp g5⟩
  · rintro ⟨a, cell, v, g1, g2, g3, g4, g5⟩
    exact ⟨a, cell, v, g1.trans (q_ev_su r g c.1).symm, g2, g3, g4, q_suA_ok.mpr g5⟩
theorem q_stk.su {r : Nat → Int} {g : List qLin} {T : qTy} : ∀ {xs : List qAV} {vs : List Value}, q_stk r T (xs.map (q_suA g)) vs ↔ q_stk (q_rs r g) T xs vs
  | [], [] => Iff.rfl
  | [], _ :: _ => Iff.rfl
  | _ :: _, [] => Iff.rfl
  | x :: xs, v :: vs => by
    show q_av r T (q_suA g x) v ∧ q_stk r T (xs.map (q_suA g)) vs ↔ q_av (q_rs r g) T x v ∧ q_stk (q_rs r g) T xs vs
    rw [q_suA_ok, q_stk.su]
theorem q_stk.rev {r : Nat → Int} {T : qTy} {xs : List qAV} {vs : List Value} (h : q_stk r T xs vs) : q_stk r T xs.reverse vs.reverse := by
  have app : ∀ {a b : List qAV} {c d : List Value}, q_stk r T a c → q_stk r T b d → q_stk r T (a ++ b) (c ++ d) := by
    intro a
    induction a with
    | nil => intro b c d h1 h2; cases c with
      | nil => exact h2
      | cons _ _ => cases h1
    | cons x a ih => intro b c d h1 h2; cases c with
      | nil => cases h1
      | cons v c => exact ⟨h1.1, ih h1.2 h2⟩
  induction xs generalizing vs with
  | nil => cases vs with
    | nil => exact trivial
    | cons _ _ => cases h
  | cons x xs ih => cases vs with
    | nil => cases h
    | cons v vs =>
      rw [List.reverse_cons, List.reverse_cons]
      exact app (ih h.2) ⟨h.1, trivial⟩
theorem q_stk.split {r : Nat → Int} {T : qTy} : ∀ {n : Nat} {xs : List qAV} {vs : List Value}, q_stk r T xs vs → n ≤ xs.length → ∃ a b, vs = a ++ b ∧ q_stk r T (xs.take n) a ∧ q_stk r T (xs.drop n) b
  | 0, xs, vs, h, _ => ⟨[], vs, rfl, by simp [q_stk], h⟩
  | n + 1, [], _, _, hn => by simp at hn
  | n + 1, x :: xs, [], h, _ => by cases h
  | n + 1, x :: xs, v :: vs, h, hn => by
    obtain ⟨a, b, h1, h2, h3⟩ := q_stk.split (n := n) h.2 (by simpa using hn)
    exact ⟨v :: a, b, by rw [h1]; rfl, ⟨h.1, h2⟩, h3⟩
theorem q_stk.app {r : Nat → Int} {T : qTy} : ∀ {a b : List qAV} {c d : List Value}, q_stk r T a c → q_stk r T b d → q_stk r T (a ++ b) (c ++ d)
  | [], b, [], d, _, h2 => h2
  | x :: a, b, v :: c, d, h1, h2 => ⟨h1.1, q_stk.app h1.2 h2⟩
theorem q_stk.len {r : Nat → Int} {T : qTy} : ∀ {a : List qAV} {c : List Value}, q_stk r T a c → a.length = c.length
  | [], [], _ => rfl
  | x :: a, v :: c, h => by rw [List.length_cons, List.length_cons, q_stk.len h.2]
theorem q_stk.cats {r : Nat → Int} {T : qTy} : ∀ {a : List qAV} {c : List Value}, q_stk r T a c → (c.map fun v => v.category).sum = (a.map q_cat).sum
  | [], [], _ => rfl
  | x :: a, v :: c, h => by
    simp only [List.map_cons, List.sum_cons]
    rw [h.1.cat, q_stk.cats h.2]
/-- a contract's start and end -/
def q_preOk (D : va_G) (tys : List (ClassId × FieldType)) (KT : List qKD) (ct : qCt) (r : Nat → Int) (T : qTy) (H : Heap) (vs : List Value) : Prop :=
  r 0 = 1 ∧ (∀ e ∈ ct.1.2.1, 0 ≤ q_ev r e) ∧ q_stk r T ct.1.2.2.1 vs ∧ q_inv D tys KT T H ∧ ∀ c ∈ ct.1.2.2.2, q_cok D KT r T H c
def q_postOk (D : va_G) (tys : List (ClassId × FieldType)) (KT : List qKD) (ct : qCt) (r : Nat → Int) (T : qTy) (H : Heap) (r' : Nat → Int) (T' : qTy) (H' : Heap) (rv : List Value) : Prop :=
  ((∀ i, i < ct.1.1 → r' i = r i) ∧ (∀ e ∈ ct.2.1.2.1, 0 ≤ q_ev r' e) ∧ q_leU ct.2.2.1 T T' ∧ (∀ q ∈ ct.2.1.2.2.2.2, ∃ a : Nat, (a : Int) = q_ev r' q.1 ∧ T' a = some q.2) ∧ q_inv D tys KT T' H') ∧ ((∀ c ∈ ct.2.1.2.2.2.1, q_cok D KT r' T' H' c) ∧ q_stk r' T' ct.2.1.2.2.1 rv) ∧
  H.size ≤ H'.size ∧ (∀ q : Nat, q < H.size → T q = none → H'[q]? = H[q]?) ∧ (∀ a k, T' a = some k → T a ≠ none ∨ H.size ≤ a) ∧
  ∀ a k, T a = some k → k ∉ ct.2.2.1 → ∀ j, q_fp KT ct.2.2.2.1 k j → q_rd H' a (q_slot D KT k j) = q_rd H a (q_slot D KT k j)
/-- a call, as the caller sees it -/
def q_Call (C : qCx) (cc : ByteArray) (D : va_G) (tys : List (ClassId × FieldType)) (KT : List qKD) (nL : Nat) (ins : Instr) (ct : qCt) : Prop := ∀ (pc : Nat) (H : Heap) (locs : List Loc) (cells slots : Nat) (ls : Array Slot) (sk : List Value) (r : Nat → Int) (T : qTy) (vs : List Value), decode cc pc = .ok (ins, 3) → q_preOk D tys KT ct r T H vs → cells + ct.2.2.2.2.1 ≤ C.2.2.2.1.cells → slots + ct.2.2.2.2.2 ≤ C.2.2.2.1.slots → (sk.map fun v => v.category).sum ≤ 8 → ls.size = nL →
  (∀ (r' : Nat → Int) (T' : qTy) (H' : Heap) (L : List Loc) (rv : List Value), q_postOk D tys KT ct r T H r' T' H' rv → (∀ q ∈ L, T q.base ≠ none ∨ H.size ≤ q.base) → q_W C H' (locs ++ L) (cells + ct.2.2.2.2.1) (slots + ct.2.2.2.2.2) (pc + 3) ls (rv ++ sk)) → q_W C H locs cells slots pc ls (vs.reverse ++ sk)
def q_fpb (KT : List qKD) (M : List (Nat × Nat)) (k j : Nat) : Bool := match KT[k]? with
  | some (0, _, _, fts) => decide (j < fts.length) && !(decide ((k, j) ∈ M))
  | _ => !(decide ((k, 0) ∈ M))
theorem q_fpb_ok {KT : List qKD} {M : List (Nat × Nat)} {k j : Nat} (h : q_fpb KT M k j = true) : q_fp KT M k j := by
  unfold q_fpb at h
  unfold q_fp
  split at h
  · rename_i heq
    rw [heq]
    simpa using h
  · rename_i hne
    split
    · rename_i heq; exact absurd heq (by rename_i a b c; exact fun _ => hne a b c heq)
    · simpa using h
/-- a value behind a call: of a kind that stays, or raised -/
def q_rsd (U : List Nat) (ups : List (qLin × Nat)) (x : qAV) : Option qAV := if q_avU U x = true then some x else if x.1 = 2 then (match ups.find? (fun q => decide (q.1 = x.2.2)) with
    | some q => some (2, q.2, x.2.2)
    | none => none) else none
def q_mpo {α β : Type} (f : α → Option β) : List α → Option (List β)
  | [] => some []
  | x :: xs => (match f x, q_mpo f xs with
    | some y, some ys => some (y :: ys)
    | _, _ => none)
def q_rsl (U : List Nat) (ups : List (qLin × Nat)) (lo : List (Nat × qAV)) : List (Nat × qAV) := lo.filterMap (fun q => (q_rsd U ups q.2).map (fun y => (q.1, y)))
def q_rsc (KT : List qKD) (U : List Nat) (M : List (Nat × Nat)) (ups : List (qLin × Nat)) (ca : List qCa) : List qCa := ca.filterMap (fun c => if c.2.1 ∉ U ∧ q_fpb KT M c.2.1 c.2.2.1 = true then (q_rsd U ups c.2.2.2).map (fun y => (c.1, c.2.1, c.2.2.1, y)) else none)
def q_stC (KT : List qKD) (U : List Nat) (M : List (Nat × Nat)) (kx sx : Nat) (ct : qCt) (pc : Nat) (st : qSt) (ht : qHint) : qSuc :=
  let g := q_k 1 :: ht.2.2.1
  let na := ct.1.2.2.1.length
  let g2 := g ++ (List.range (ct.2.1.1 - ct.1.1)).map (fun i => q_x (st.1 + i))
  let ups := ct.2.1.2.2.2.2.map (fun q => (q_su g2 q.1, q.2))
  if (g.length = ct.1.1 ∧ ct.1.1 ≤ ct.2.1.1 ∧ g.all (q_wf st.1) = true ∧ q_wfs st.1 st = true ∧ na ≤ (q_sk st).length) ∧ (q_sbl ((q_sk st).take na) ((ct.1.2.2.1.map (q_suA g)).reverse) = true ∧ q_vcs st.2.1 ht.2.1 0 (ct.1.2.1.map (q_su g)) = true ∧ q_cas (ct.1.2.2.2.map (q_suC g)) st.2.2.2.2.1 = true) ∧
      (ct.2.2.1.all (fun k => decide (k ∈ U)) = true ∧ ct.2.2.2.1.all (fun k => decide (k ∈ M)) = true ∧ st.2.2.2.2.2.1 + ct.2.2.2.2.1 ≤ kx ∧ st.2.2.2.2.2.2 + ct.2.2.2.2.2 ≤ sx ∧ (((q_sk st).drop na).map q_cat).sum ≤ 8) ∧
      (ct.2.1.2.1.all (q_wf ct.2.1.1) = true ∧ ct.2.1.2.2.1.all (fun x => q_wf ct.2.1.1 x.2.2) = true ∧ ct.2.1.2.2.2.1.all (fun c => q_wf ct.2.1.1 c.1 && q_wf ct.2.1.1 c.2.2.2.2.2) = true ∧ ct.2.1.2.2.2.2.all (fun q => q_wf ct.2.1.1 q.1) = true) then
    (match q_mpo (q_rsd ct.2.2.1 ups) ((q_sk st).drop na) with
      | some xs => some [(pc + 3, (st.1 + (ct.2.1.1 - ct.1.1), st.2.1 ++ ct.2.1.2.1.map (q_su g2), q_rsl ct.2.2.1 ups st.2.2.1, ct.2.1.2.2.1.map (q_suA g2) ++ xs, ct.2.1.2.2.2.1.map (q_suC g2) ++ q_rsc KT ct.2.2.1 ct.2.2.2.1 ups st.2.2.2.2.1, st.2.2.2.2.2.1 + ct.2.2.2.2.1, st.2.2.2.2.2.2 + ct.2.2.2.2.2))]
      | none => none)
  else none
theorem q_rsd_ok {U : List Nat} {ups : List (qLin × Nat)} {x y : qAV} (h : q_rsd U ups x = some y) {r : Nat → Int} {T T' : qTy} (hT : q_leU U T T') (hu : ∀ q ∈ ups, ∃ a : Nat, (a : Int) = q_ev r q.1 ∧ T' a = some q.2) {v : Value} (hv : q_av r T x v) : q_av r T' y v := by
  unfold q_rsd at h
  split at h
  · rename_i hx
    cases h
    exact hv.mv hT hx
  · split at h
    · rename_i h2
      split at h
      · rename_i q hq
        cases h
        have hm := List.mem_of_find?_eq_some hq
        have he : q.1 = x.2.2 := by simpa using List.find?_some hq
        obtain ⟨a, h3, h4⟩ := hu q hm
        obtain ⟨g, k, e⟩ := x
        cases (show g = 2 from h2)
        obtain ⟨b, h5, -, h6⟩ := hv
        refine ⟨b, h5, ?_, h6⟩
        have h6 : (b : Int) = q_ev r e := h6
        rw [he] at h3
        have h3 : (a : Int) = q_ev r e := h3
        have : a = b := by omega
        subst this
        exact h4
      · cases h
    · cases h
theorem q_mpo_ok {U : List Nat} {ups : List (qLin × Nat)} {r : Nat → Int} {T T' : qTy} (hT : q_leU U T T') (hu : ∀ q ∈ ups, ∃ a : Nat, (a : Int) = q_ev r q.1 ∧ T' a = some q.2) : ∀ {xs ys : List qAV} {vs : List Value}, q_mpo (q_rsd U ups) xs = some ys → q_stk r T xs vs → q_stk r T' ys vs
  | [], ys, [], h, _ => by cases h; trivial
  | x :: xs, ys, v :: vs, h, hv => by
    unfold q_mpo at h
    split at h
    · rename_i y ys' h1 h2
      cases h
      exact ⟨q_rsd_ok h1 hT hu hv.1, q_mpo_ok hT hu h2 hv.2⟩
    · cases h
theorem q_rsl_ok {U : List Nat} {ups : List (qLin × Nat)} {r : Nat → Int} {T T' : qTy} (hT : q_leU U T T') (hu : ∀ q ∈ ups, ∃ a : Nat, (a : Int) = q_ev r q.1 ∧ T' a = some q.2) : ∀ {lo : List (Nat × qAV)} {lv : List (Nat × Value)}, q_lvs r T lo lv → ∃ lv', (∀ p ∈ lv', p ∈ lv) ∧ q_lvs r T' (q_rsl U ups lo) lv'
  | [], [], _ => ⟨[], fun p hp => hp, trivial⟩
  | x :: xs, v :: vs, h => by
    obtain ⟨lv', h1, h2⟩ := q_rsl_ok hT hu h.2
    cases hx : q_rsd U ups x.2 with
    | none =>
      refine ⟨lv', fun p hp => List.mem_cons_of_mem _ (h1 p hp), ?_⟩
      unfold q_rsl
      rw [List.filterMap_cons_none (by rw [hx]; rfl)]
      exact h2
    | some y =>
      refine ⟨v :: lv', fun p hp => ?_, ?_⟩
      · rcases List.mem_cons.mp hp with rfl | hp
        · exact List.mem_cons_self
        · exact List.mem_cons_of_mem _ (h1 p hp)
      · unfold q_rsl
        rw [List.filterMap_cons_some (b := (x.1, y)) (by rw [hx]; rfl)]
        exact ⟨⟨h.1.1, q_rsd_ok hx hT hu h.1.2⟩, h2⟩
theorem q_rd_some {H : Heap} {a i : Nat} {v : Value} : q_rd H a i = some v ↔ ∃ cell, H[a]? = some cell ∧ cell.slots[i]? = some v := by
  unfold q_rd
  cases H[a]? with
  | none => simp
  | some c => simp
section QP9
variable {C : qCx} {G : qGx} {cc : ByteArray} {pc : Nat} {st : qSt} {kx sx : Nat}
set_option maxHeartbeats 4000000 in
theorem q_stC_ok {ct : qCt} {ins : Instr} {ht : qHint} {ss : List (Nat × qSt)} (hA2 : ∀ q, (q_H0 G).size ≤ q → q_A G q) (hR : q_c0 G + kx ≤ C.2.2.2.1.cells ∧ q_s0 G + sx ≤ C.2.2.2.1.slots) (hcall : q_Call C cc (q_D G) (q_tys G) (q_KT G) (q_nL G) ins ct) (hd : decode cc pc = .ok (ins, 3)) (h : q_stC (q_KT G) (q_U G) (q_M G) kx sx ct pc st ht = some ss) (hk : ∀ x ∈ ss, q_ok C G x.1 x.2) : q_ok C G pc st := by
  unfold q_stC at h
  dsimp only at h
  split at h
  · rename_i hc
    obtain ⟨⟨c1, c2, c3, c4, c5⟩, ⟨c6, c7, c8⟩, ⟨c9, c10, c11, c12, c13⟩, c14, c15, c16, c17⟩ := hc
    split at h
    · rename_i xs hxs
      cases h
      have hk := q_h1 hk
      intro r T ls sk H locs ha hf
      have hw0 : 0 < st.1 := by
        simp only [q_wfs, Bool.and_eq_true, decide_eq_true_eq] at c4
        exact c4.1.1.1.1
      generalize hg : (q_k 1 :: ht.2.2.1) = g at *
      generalize hg2 : g ++ (List.range (ct.2.1.1 - ct.1.1)).map (fun i => q_x (st.1 + i)) = g2 at *
      obtain ⟨a, b, rfl, h1, h2⟩ := q_stk.split ha.2.2.2.1 c5
      have hargs := q_stk.rev (q_sbl_ok ha.1 c6 h1)
      rw [List.reverse_reverse] at hargs
      have hargs := q_stk.su.mp hargs
      have h0 : q_rs r g 0 = 1 := by rw [← hg]; exact q_ev_k ha.1 1
      have hpre : q_preOk (q_D G) (q_tys G) (q_KT G) ct (q_rs r g) T H a.reverse :=
        ⟨h0, fun e he => by rw [← q_ev_su]; exact q_vcs_ok ha.1 ha.2.1 c7 _ (List.mem_map.mpr ⟨e, he, rfl⟩), hargs, ha.2.2.2.2.1, fun c hc => q_suC_ok.mp (q_cas_ok ha.1 c8 ha.2.2.2.2.2 _ (List.mem_map.mpr ⟨c, hc, rfl⟩))⟩
      obtain ⟨lv, l1, l2⟩ := ha.2.2.1
      have key := hcall pc H locs (q_c0 G + st.2.2.2.2.2.1) (q_s0 G + st.2.2.2.2.2.2) ls b (q_rs r g) T a.reverse hd hpre (by omega) (by omega) (by rw [h2.cats]; exact c13) l1.1
      rw [List.reverse_reverse] at key
      refine key ?_
      intro r' T' H' L rv hpost hL
      obtain ⟨⟨p1, p2, p3, p4, p5⟩, ⟨p6, p7⟩, p8, p9, p10, p11⟩ := hpost
      have hr2 : ∀ i, i < st.1 → (fun i => if i < st.1 then r i else r' (ct.1.1 + (i - st.1)) : Nat → Int) i = r i := fun i hi => if_pos hi
      generalize hr2e : (fun i => if i < st.1 then r i else r' (ct.1.1 + (i - st.1)) : Nat → Int) = r2 at hr2
      have hrs : ∀ i, i < ct.2.1.1 → q_rs r2 g2 i = r' i := by
        intro i hi
        unfold q_rs
        by_cases hip : i < ct.1.1
        · have e1 : g2.getD i [] = g.getD i [] := by
            rw [← hg2]
            simp only [List.getD_eq_getElem?_getD]
            rw [List.getElem?_append_left (by omega)]
          rw [e1, p1 i hip]
          have hgi : q_wf st.1 (g.getD i []) = true := by
            rw [List.getD_eq_getElem?_getD, List.getElem?_eq_getElem (by omega)]
            exact List.all_eq_true.mp c3 _ (List.getElem_mem (by omega))
          exact q_ev_wf hr2 _ hgi
        · have e1 : g2.getD i [] = q_x (st.1 + (i - ct.1.1)) := by
            rw [← hg2]
            simp only [List.getD_eq_getElem?_getD]
            rw [List.getElem?_append_right (by omega), List.getElem?_map, List.getElem?_range (by omega), c1]
            rfl
          rw [e1, q_ev_x, ← hr2e]
          show (if st.1 + (i - ct.1.1) < st.1 then _ else _) = _
          rw [if_neg (by omega)]
          congr 1
          omega
      have hab := q_abs.wf hr2 c4 ha
      have hups : ∀ q ∈ ct.2.1.2.2.2.2.map (fun q => (q_su g2 q.1, q.2)), ∃ a : Nat, (a : Int) = q_ev r2 q.1 ∧ T' a = some q.2 := by
        intro q hq
        obtain ⟨q', hq', rfl⟩ := List.mem_map.mp hq
        obtain ⟨a', k1, k2⟩ := p4 q' hq'
        refine ⟨a', ?_, k2⟩
        show (a' : Int) = q_ev r2 (q_su g2 q'.1)
        rw [q_ev_su, q_ev_wf hrs _ (List.all_eq_true.mp c17 q' hq')]
        exact k1
      have hxs2 := q_mpo_ok (r := r2) p3 hups hxs (q_stk.imp (fun x hx v hv => hv.wf hr2 (by
        simp only [q_wfs, Bool.and_eq_true, List.all_eq_true] at c4
        exact c4.1.2 x (List.mem_of_mem_drop hx))) h2)
      obtain ⟨lvb, lb1, lb2⟩ := hab.2.2.1
      obtain ⟨lv', m1, m2⟩ := q_rsl_ok p3 hups lb2
      have hret : q_stk r2 T' (ct.2.1.2.2.1.map (q_suA g2)) rv := q_stk.su.mpr (q_stk.imp (fun x hx v hv => hv.wf hrs (List.all_eq_true.mp c15 x hx)) p7)
      have hfin := hk r2 T' ls (rv ++ b) H' (locs ++ L) ⟨hab.1, fun e he => ?_, ⟨lv', ⟨lb1.1, lb1.2.1, fun q hq => lb1.2.2 q (m1 q hq)⟩, m2⟩, q_stk.app hret hxs2, p5, fun c hc => ?_⟩ ?_
      · have e1 : q_c0 G + (st.2.2.2.2.2.1 + ct.2.2.2.2.1) = q_c0 G + st.2.2.2.2.2.1 + ct.2.2.2.2.1 := by omega
        have e2 : q_s0 G + (st.2.2.2.2.2.2 + ct.2.2.2.2.2) = q_s0 G + st.2.2.2.2.2.2 + ct.2.2.2.2.2 := by omega
        dsimp only at hfin
        rw [e1, e2] at hfin
        exact hfin
      · rcases List.mem_append.mp he with he | he
        · exact hab.2.1 e he
        · obtain ⟨e', he', rfl⟩ := List.mem_map.mp he
          rw [q_ev_su, q_ev_wf hrs _ (List.all_eq_true.mp c14 e' he')]
          exact p2 e' he'
      · rcases List.mem_append.mp hc with hc | hc
        · obtain ⟨c', hc', rfl⟩ := List.mem_map.mp hc
          refine q_suC_ok.mpr ?_
          obtain ⟨a', cell, v, k1, k2, k3, k4, k5⟩ := p6 c' hc'
          have hw := List.all_eq_true.mp c16 c' hc'
          rw [Bool.and_eq_true] at hw
          exact ⟨a', cell, v, by rw [q_ev_wf hrs _ hw.1]; exact k1, k2, k3, k4, k5.wf hrs hw.2⟩
        · obtain ⟨c', hc', hce⟩ := List.mem_filterMap.mp hc
          split at hce
          · rename_i hcc
            cases hy : q_rsd ct.2.2.1 (ct.2.1.2.2.2.2.map (fun q => (q_su g2 q.1, q.2))) c'.2.2.2 with
            | none => rw [hy] at hce; cases hce
            | some y =>
              rw [hy] at hce
              cases hce
              obtain ⟨a', cell, v, k1, k2, k3, k4, k5⟩ := hab.2.2.2.2.2 c' hc'
              have hrd := p11 a' _ k2 hcc.1 _ (q_fpb_ok hcc.2)
              rw [q_rd_some.mpr ⟨cell, k3, k4⟩] at hrd
              obtain ⟨cell', k6, k7⟩ := q_rd_some.mp hrd
              exact ⟨a', cell', v, k1, p3 a' _ k2 hcc.1, k6, k7, q_rsd_ok hy p3 hups k5⟩
          · cases hce
      · obtain ⟨f1, f2, f3, f4, f5, f6⟩ := hf
        refine ⟨Nat.le_trans f1 (Nat.le_add_right _ _), fun i hi => (hr2 i (Nat.lt_of_lt_of_le hi f1)).trans (f2 i hi), ⟨Nat.le_trans f3.1 p8, fun q g1 g2' => ?_, fun q hq => ?_⟩, fun a' k' ha' => ?_, fun a' k' ha' hu => ?_, fun a' k' ha' hu j hj => ?_⟩
        · have hTq : T q = none := by
            cases hq : T q with
            | none => rfl
            | some k => exact absurd (f4 q k hq) g2'
          rw [p9 q (Nat.lt_of_lt_of_le g1 f3.1) hTq]
          exact f3.2.1 q g1 g2'
        · rcases List.mem_append.mp hq with hq | hq
          · exact f3.2.2 q hq
          · rcases hL q hq with hq | hq
            · cases hTq : T q.base with
              | none => exact absurd hTq hq
              | some k => exact f4 _ k hTq
            · exact hA2 _ (Nat.le_trans f3.1 hq)
        · rcases p10 a' k' ha' with hq | hq
          · cases hTq : T a' with
            | none => exact absurd hTq hq
            | some k => exact f4 _ k hTq
          · exact hA2 _ (Nat.le_trans f3.1 hq)
        · have hu' : k' ∉ ct.2.2.1 := fun q => hu (by simpa using List.all_eq_true.mp c9 k' q)
          exact p3 a' k' (f5 a' k' ha' hu) hu'
        · have hu' : k' ∉ ct.2.2.1 := fun q => hu (by simpa using List.all_eq_true.mp c9 k' q)
          rw [p11 a' k' (f5 a' k' ha' hu) hu' j ?_]
          · exact f6 a' k' ha' hu j hj
          · unfold q_fp at hj ⊢
            split at hj
            · exact ⟨hj.1, fun q => hj.2 (by simpa using List.all_eq_true.mp c10 _ q)⟩
            · exact fun q => hj (by simpa using List.all_eq_true.mp c10 _ q)
    · cases h
  · cases h
end QP9
