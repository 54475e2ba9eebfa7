/-! ABSTRACT VALUES AND STATES. A value: (tag, kind, form): 0 an int whose number is the form; 1 a long; 2 a reference of a kind, its address the form; 3 null; 4 null (the form is -1) or as 2; 5 a long whose number is the form; 6 a reference to a cell outside -/
abbrev qAV : Type := Nat × Nat × qLin
abbrev qCa : Type := qLin × Nat × Nat × qAV
/-- next unknown, what is known (each form is not below 0), locals, stack, known cells (address, kind, field or place, value), cells and slots made -/
abbrev qSt : Type := Nat × List qLin × List (Nat × qAV) × List qAV × List qCa × Nat × Nat
def q_av (r : Nat → Int) (T : qTy) (x : qAV) (v : Value) : Prop := match x.1 with
  | 0 => ∃ y : Int32, v = .int y ∧ y.toInt = q_ev r x.2.2
  | 1 => ∃ y : Int64, v = .long y
  | 2 => ∃ b : Nat, v = .ref b ∧ T b = some x.2.1 ∧ (b : Int) = q_ev r x.2.2
  | 3 => v = .null
  | 4 => (v = .null ∧ q_ev r x.2.2 = -1) ∨ ∃ b : Nat, v = .ref b ∧ T b = some x.2.1 ∧ (b : Int) = q_ev r x.2.2
  | 5 => ∃ y : Int64, v = .long y ∧ y.toInt = q_ev r x.2.2
  | _ => ∃ b : Nat, v = .ref b ∧ (b : Int) = q_ev r x.2.2
def q_leU (U : List Nat) (T T' : qTy) : Prop := ∀ (a k : Nat), T a = some k → k ∉ U → T' a = some k
theorem q_leU.rf {U : List Nat} {T : qTy} : q_leU U T T := fun _ _ h _ => h
theorem q_leU.tr {U : List Nat} {T T' T'' : qTy} (h : q_leU U T T') (h' : q_leU U T' T'') : q_leU U T T'' := fun a k z u => h' a k (h a k z u) u
theorem q_leU.of {U : List Nat} {T T' : qTy} (h : q_le T T') : q_leU U T T' := fun a k z _ => h a k z
theorem q_leU.more {U V : List Nat} {T T' : qTy} (h : q_leU U T T') (hs : ∀ k ∈ U, k ∈ V) : q_leU V T T' := fun a k z u => h a k z (fun q => u (hs k q))
def q_avU (U : List Nat) (x : qAV) : Bool := match x.1 with
  | 2 => !(U.contains x.2.1)
  | 4 => !(U.contains x.2.1)
  | _ => true
theorem q_av.mv {U : List Nat} {r : Nat → Int} {T T' : qTy} (hT : q_leU U T T') {x : qAV} (hx : q_avU U x = true) {v : Value} (h : q_av r T x v) : q_av r T' x v := by
  obtain ⟨g, k, e⟩ := x
  match g, hx, h with
  | 0, _, h => exact h
  | 1, _, h => exact h
  | 2, hx, h =>
    obtain ⟨b, h1, h2, h3⟩ := h
    exact ⟨b, h1, hT b _ h2 (by simpa [q_avU] using hx), h3⟩
  | 3, _, h => exact h
  | 4, hx, h =>
    rcases h with h | ⟨b, h1, h2, h3⟩
    · exact Or.inl h
    · exact Or.inr ⟨b, h1, hT b _ h2 (by simpa [q_avU] using hx), h3⟩
  | 5, _, h => exact h
  | n + 6, _, h => exact h
theorem q_av.wf {n : Nat} {r r' : Nat → Int} (hr : ∀ i, i < n → r' i = r i) {T : qTy} {x : qAV} (hx : q_wf n x.2.2 = true) {v : Value} (h : q_av r T x v) : q_av r' T x v := by
  obtain ⟨g, k, e⟩ := x
  have he : q_ev r' e = q_ev r e := q_ev_wf hr e hx
  match g, h with
  | 0, h => obtain ⟨y, h1, h2⟩ := h; exact ⟨y, h1, by rw [h2]; exact he.symm⟩
  | 1, h => exact h
  | 2, h => obtain ⟨b, h1, h2, h3⟩ := h; exact ⟨b, h1, h2, by rw [h3]; exact he.symm⟩
  | 3, h => exact h
  | 4, h =>
    rcases h with ⟨h1, h2⟩ | ⟨b, h1, h2, h3⟩
    · exact Or.inl ⟨h1, by show q_ev r' e = -1; rw [he]; exact h2⟩
    · exact Or.inr ⟨b, h1, h2, by rw [h3]; exact he.symm⟩
  | 5, h => obtain ⟨y, h1, h2⟩ := h; exact ⟨y, h1, by rw [h2]; exact he.symm⟩
  | m + 6, h => obtain ⟨b, h1, h2⟩ := h; exact ⟨b, h1, by rw [h2]; exact he.symm⟩
def q_cat (x : qAV) : Nat := match x.1 with
  | 1 => 2
  | 5 => 2
  | _ => 1
theorem q_av.cat {r : Nat → Int} {T : qTy} {x : qAV} {v : Value} (h : q_av r T x v) : v.category = q_cat x := by
  obtain ⟨g, k, e⟩ := x
  match g, h with
  | 0, h => obtain ⟨y, rfl, -⟩ := h; rfl
  | 1, h => obtain ⟨y, rfl⟩ := h; rfl
  | 2, h => obtain ⟨b, rfl, -⟩ := h; rfl
  | 3, h => cases h; rfl
  | 4, h =>
    rcases h with ⟨rfl, -⟩ | ⟨b, rfl, -⟩
    · rfl
    · rfl
  | 5, h => obtain ⟨y, rfl, -⟩ := h; rfl
  | m + 6, h => obtain ⟨b, rfl, -⟩ := h; rfl
def q_stk (r : Nat → Int) (T : qTy) : List qAV → List Value → Prop
  | [], [] => True
  | x :: xs, v :: vs => q_av r T x v ∧ q_stk r T xs vs
  | _, _ => False
def q_lvs (r : Nat → Int) (T : qTy) : List (Nat × qAV) → List (Nat × Value) → Prop
  | [], [] => True
  | x :: xs, v :: vs => (x.1 = v.1 ∧ q_av r T x.2 v.2) ∧ q_lvs r T xs vs
  | _, _ => False
theorem q_stk.imp {r r' : Nat → Int} {T T' : qTy} : ∀ {xs : List qAV} {vs : List Value}, (∀ x ∈ xs, ∀ v, q_av r T x v → q_av r' T' x v) → q_stk r T xs vs → q_stk r' T' xs vs
  | [], [], _, _ => trivial
  | x :: xs, v :: vs, hi, h => ⟨hi x List.mem_cons_self v h.1, q_stk.imp (fun y hy => hi y (List.mem_cons_of_mem _ hy)) h.2⟩
theorem q_lvs.imp {r r' : Nat → Int} {T T' : qTy} : ∀ {xs : List (Nat × qAV)} {vs : List (Nat × Value)}, (∀ x ∈ xs, ∀ v, q_av r T x.2 v → q_av r' T' x.2 v) → q_lvs r T xs vs → q_lvs r' T' xs vs
  | [], [], _, _ => trivial
  | x :: xs, v :: vs, hi, h => ⟨⟨h.1.1, hi x List.mem_cons_self v.2 h.1.2⟩, q_lvs.imp (fun y hy => hi y (List.mem_cons_of_mem _ hy)) h.2⟩
theorem q_lvs.get {r : Nat → Int} {T : qTy} : ∀ {xs : List (Nat × qAV)} {vs : List (Nat × Value)}, q_lvs r T xs vs → ∀ {k : Nat} {i : Nat} {x : qAV}, xs[k]? = some (i, x) → ∃ v, vs[k]? = some (i, v) ∧ q_av r T x v
  | [], [], _, k, i, x, hk => by simp at hk
  | y :: ys, w :: ws, h, 0, i, x, hk => by
    simp only [List.getElem?_cons_zero, Option.some.injEq] at hk
    subst hk
    obtain ⟨⟨h1, h2⟩, -⟩ := h
    refine ⟨w.2, ?_, h2⟩
    simp only [List.getElem?_cons_zero]
    rw [show i = w.1 from h1]
  | y :: ys, w :: ws, h, k + 1, i, x, hk => by
    rw [List.getElem?_cons_succ] at hk
    obtain ⟨v, h1, h2⟩ := q_lvs.get h.2 hk
    exact ⟨v, by rw [List.getElem?_cons_succ]; exact h1, h2⟩
/-- what a store leaves of the locals -/
def q_lof1 (i : Nat) (q : Nat × qAV) : Bool := !(q.1 == i) && !(q.1 + 1 == i && q_cat q.2 == 2)
def q_lof2 (i : Nat) (q : Nat × qAV) : Bool := !(q.1 == i) && (!(q.1 == i + 1) && !(q.1 + 1 == i && q_cat q.2 == 2))
theorem q_lvs.filter {r : Nat → Int} {T : qTy} {f : Nat × qAV → Bool} {g : Nat × Value → Bool} (hfg : ∀ x v, x.1 = v.1 → q_av r T x.2 v.2 → f x = g v) : ∀ {xs : List (Nat × qAV)} {vs : List (Nat × Value)}, q_lvs r T xs vs → q_lvs r T (xs.filter f) (vs.filter g)
  | [], [], _ => trivial
  | x :: xs, v :: vs, h => by
    obtain ⟨⟨h1, h2⟩, h3⟩ := h
    have hh := hfg x v h1 h2
    have ih := q_lvs.filter hfg h3
    cases hb : f x with
    | true => rw [List.filter_cons_of_pos (by rw [hb]), List.filter_cons_of_pos (by rw [← hh, hb])]; exact ⟨⟨h1, h2⟩, ih⟩
    | false => rw [List.filter_cons_of_neg (by rw [hb]; decide), List.filter_cons_of_neg (by rw [← hh, hb]; decide)]; exact ih
theorem q_lvs.f1 {r : Nat → Int} {T : qTy} {xs : List (Nat × qAV)} {vs : List (Nat × Value)} (i : Nat) (h : q_lvs r T xs vs) : q_lvs r T (xs.filter (q_lof1 i)) (vs.filter (fun q => !(q.1 == i) && !(q.1 + 1 == i && q.2.category == 2))) :=
  h.filter (fun x v h1 h2 => by unfold q_lof1; rw [h1, h2.cat])
theorem q_lvs.f2 {r : Nat → Int} {T : qTy} {xs : List (Nat × qAV)} {vs : List (Nat × Value)} (i : Nat) (h : q_lvs r T xs vs) : q_lvs r T (xs.filter (q_lof2 i)) (vs.filter (fun q => !(q.1 == i) && (!(q.1 == i + 1) && !(q.1 + 1 == i && q.2.category == 2)))) :=
  h.filter (fun x v h1 h2 => by unfold q_lof2; rw [h1, h2.cat])
def q_slot (D : va_G) (KT : List qKD) (k j : Nat) : Nat := match KT[k]? with
  | some (0, ci, _, _) => D.2 ci j
  | _ => j
def q_cok (D : va_G) (KT : List qKD) (r : Nat → Int) (T : qTy) (H : Heap) (c : qCa) : Prop := ∃ (a : Nat) (cell : Cell) (v : Value), (a : Int) = q_ev r c.1 ∧ T a = some c.2.1 ∧ H[a]? = some cell ∧ cell.slots[q_slot D KT c.2.1 c.2.2.1]? = some v ∧ q_av r T c.2.2.2 v
def q_abs (D : va_G) (tys : List (ClassId × FieldType)) (KT : List qKD) (nL : Nat) (r : Nat → Int) (T : qTy) (st : qSt) (ls : Array Slot) (sk : List Value) (H : Heap) : Prop :=
  r 0 = 1 ∧ (∀ e ∈ st.2.1, 0 ≤ q_ev r e) ∧ (∃ lv : List (Nat × Value), lv_has ls nL lv ∧ q_lvs r T st.2.2.1 lv) ∧ q_stk r T st.2.2.2.1 sk ∧ q_inv D tys KT T H ∧ ∀ c ∈ st.2.2.2.2.1, q_cok D KT r T H c
/-- all forms of a state speak of unknowns below n -/
def q_wfs (n : Nat) (st : qSt) : Bool := decide (0 < n) && st.2.1.all (q_wf n) && st.2.2.1.all (fun q => q_wf n q.2.2.2) && st.2.2.2.1.all (fun q => q_wf n q.2.2) && st.2.2.2.2.1.all (fun c => q_wf n c.1 && q_wf n c.2.2.2.2.2)
theorem q_abs.wf {D : va_G} {tys : List (ClassId × FieldType)} {KT : List qKD} {nL n : Nat} {r r' : Nat → Int} {T : qTy} {st : qSt} {ls : Array Slot} {sk : List Value} {H : Heap} (hr : ∀ i, i < n → r' i = r i) (hw : q_wfs n st = true) (h : q_abs D tys KT nL r T st ls sk H) : q_abs D tys KT nL r' T st ls sk H := by
  obtain ⟨h0, h1, ⟨lv, h2, h3⟩, h4, h5, h6⟩ := h
  simp only [q_wfs, Bool.and_eq_true, decide_eq_true_eq, List.all_eq_true] at hw
  obtain ⟨⟨⟨⟨w0, w1⟩, w2⟩, w3⟩, w4⟩ := hw
  refine ⟨by rw [hr 0 w0]; exact h0, fun e he => by rw [q_ev_wf hr e (w1 e he)]; exact h1 e he, ⟨lv, h2, h3.imp (fun x hx v hv => hv.wf hr (w2 x hx))⟩, h4.imp (fun x hx v hv => hv.wf hr (w3 x hx)), h5, fun c hc => ?_⟩
  obtain ⟨a, cell, v, g1, g2, g3, g4, g5⟩ := h6 c hc
  obtain ⟨k1, k2⟩ := w4 c hc
  exact ⟨a, cell, v, by rw [q_ev_wf hr c.1 k1]; exact g1, g2, g3, g4, g5.wf hr k2⟩
def q_upr (r : Nat → Int) (n : Nat) (v : Int) : Nat → Int := fun i => if i = n then v else r i
theorem q_upr_lt (r : Nat → Int) (n : Nat) (v : Int) : ∀ i, i < n → q_upr r n v i = r i := fun i hi => by simp [q_upr, Nat.ne_of_lt hi]
theorem q_upr_self (r : Nat → Int) (n : Nat) (v : Int) : q_upr r n v n = v := by simp [q_upr]
