/-! THE TYPED HEAP: each known address has a kind; a kind says the class and the fields' ranges and kinds (or an array's length and its elements') -/
abbrev qFT : Type := Nat × Nat × Int × Int
abbrev qKD : Type := Nat × Nat × Nat × List qFT
abbrev qTy : Type := Nat → Option Nat
def q_ft (T : qTy) (t : qFT) (v : Value) : Prop := match t.1 with
  | 0 => ∃ x : Int32, v = .int x ∧ t.2.2.1 ≤ x.toInt ∧ x.toInt ≤ t.2.2.2
  | 1 => ∃ x : Int64, v = .long x
  | 2 => ∃ b : Nat, v = .ref b ∧ T b = some t.2.1
  | _ => v = .null ∨ ∃ b : Nat, v = .ref b ∧ T b = some t.2.1
def q_fok (t : qFT) (ty : FieldType) : Bool := match t.1 with
  | 0 => (match ty with
    | .int => true
    | .boolean => decide (0 ≤ t.2.2.1) && decide (t.2.2.2 ≤ 1)
    | _ => false)
  | 1 => (match ty with
    | .long => true
    | _ => false)
  | _ => (match ty with
    | .object _ => true
    | .array _ => true
    | _ => false)
theorem q_bit {x : Int32} (h0 : 0 ≤ x.toInt) (h1 : x.toInt ≤ 1) : x = 0 ∨ x = 1 := by
  rcases (show x.toInt = 0 ∨ x.toInt = 1 by omega) with h | h
  · exact Or.inl (Int32.toInt_inj.mp (by rw [h]; rfl))
  · exact Or.inr (Int32.toInt_inj.mp (by rw [h]; rfl))
theorem q_fok_ok {T : qTy} {t : qFT} {ty : FieldType} {v : Value} (h : q_fok t ty = true) (hv : q_ft T t v) : narrow ty v = v ∧ fits ty v = true := by
  obtain ⟨g, k, lo, hi⟩ := t
  match g, h, hv with
  | 0, h, hv =>
    obtain ⟨x, rfl, h1, h2⟩ := hv
    cases ty with
    | boolean =>
      simp only [q_fok, Bool.and_eq_true, decide_eq_true_eq] at h
      have h1 : lo ≤ x.toInt := h1
      have h2 : x.toInt ≤ hi := h2
      rcases q_bit (x := x) (by omega) (by omega) with rfl | rfl
      · exact ⟨by decide, by decide⟩
      · exact ⟨by decide, by decide⟩
    | int => exact ⟨rfl, rfl⟩
    | _ => simp [q_fok] at h
  | 1, h, hv =>
    obtain ⟨x, rfl⟩ := hv
    cases ty <;> simp only [q_fok, Bool.false_eq_true] at h
    exact ⟨rfl, rfl⟩
  | 2, h, hv =>
    obtain ⟨b, rfl, -⟩ := hv
    cases ty <;> simp only [q_fok, Bool.false_eq_true] at h
    · exact ⟨rfl, rfl⟩
    · exact ⟨rfl, rfl⟩
  | n + 3, h, hv =>
    rcases hv with rfl | ⟨b, rfl, -⟩
    · cases ty <;> simp only [q_fok, Bool.false_eq_true] at h
      · exact ⟨rfl, rfl⟩
      · exact ⟨rfl, rfl⟩
    · cases ty <;> simp only [q_fok, Bool.false_eq_true] at h
      · exact ⟨rfl, rfl⟩
      · exact ⟨rfl, rfl⟩
def q_le (T T' : qTy) : Prop := ∀ (a k : Nat), T a = some k → T' a = some k
theorem q_le.rf {T : qTy} : q_le T T := fun _ _ h => h
theorem q_le.tr {T T' T'' : qTy} (h : q_le T T') (h' : q_le T' T'') : q_le T T'' := fun a k z => h' a k (h a k z)
theorem q_ft.mono {T T' : qTy} (hT : q_le T T') {t : qFT} {v : Value} (h : q_ft T t v) : q_ft T' t v := by
  obtain ⟨g, k, lo, hi⟩ := t
  match g, h with
  | 0, h => exact h
  | 1, h => exact h
  | 2, h => obtain ⟨b, h1, h2⟩ := h; exact ⟨b, h1, hT b _ h2⟩
  | n + 3, h =>
    rcases h with h | ⟨b, h1, h2⟩
    · exact Or.inl h
    · exact Or.inr ⟨b, h1, hT b _ h2⟩
def q_aty (g : Nat) (ty : FieldType) : Prop := match g with
  | 1 => ty = .int
  | 2 => ∃ C : String, ty = .object C
  | 3 => ty = .long
  | _ => ty = .boolean
def q_cell (D : va_G) (tys : List (ClassId × FieldType)) (T : qTy) (d : qKD) (cell : Cell) : Prop := match d.1 with
  | 0 => cell.vm = .none ∧ cell.cls = D.1 d.2.1 ∧ ∀ (j : Nat) (ft : qFT), d.2.2.2[j]? = some ft → ∃ v : Value, cell.slots[D.2 d.2.1 j]? = some v ∧ q_ft T ft v
  | g + 1 => ∃ (cA : ClassId) (ty : FieldType) (z : Nat → Value), tys[d.2.1]? = some (cA, ty) ∧ q_aty (g + 1) ty ∧ cell = arrV cA d.2.2.1 z ∧ ∀ j : Nat, j < d.2.2.1 → ∀ ft ∈ d.2.2.2, q_ft T ft (z j)
def q_inv (D : va_G) (tys : List (ClassId × FieldType)) (KT : List qKD) (T : qTy) (H : Heap) : Prop := ∀ (a k : Nat), T a = some k → ∃ (d : qKD) (cell : Cell), KT[k]? = some d ∧ H[a]? = some cell ∧ q_cell D tys T d cell
theorem q_cell.mono {D : va_G} {tys : List (ClassId × FieldType)} {T T' : qTy} (hT : q_le T T') {d : qKD} {cell : Cell} (h : q_cell D tys T d cell) : q_cell D tys T' d cell := by
  obtain ⟨g, x, n, fts⟩ := d
  match g, h with
  | 0, h =>
    obtain ⟨h1, h2, h3⟩ := h
    refine ⟨h1, h2, fun j ft hj => ?_⟩
    obtain ⟨v, h4, h5⟩ := h3 j ft hj
    exact ⟨v, h4, h5.mono hT⟩
  | g + 1, h =>
    obtain ⟨cA, ty, z, h1, h2, h3, h4⟩ := h
    exact ⟨cA, ty, z, h1, h2, h3, fun j hj ft hf => (h4 j hj ft hf).mono hT⟩
theorem q_inv.lt {D : va_G} {tys : List (ClassId × FieldType)} {KT : List qKD} {T : qTy} {H : Heap} (h : q_inv D tys KT T H) {a k : Nat} (ha : T a = some k) : a < H.size := by
  obtain ⟨d, cell, -, hc, -⟩ := h a k ha
  exact (Array.getElem?_eq_some_iff.mp hc).1
/-- a cell is written: its new contents are of its kind -/
theorem q_inv.set {D : va_G} {tys : List (ClassId × FieldType)} {KT : List qKD} {T : qTy} {H H' : Heap} (h : q_inv D tys KT T H) {a k : Nat} (ha : T a = some k) {d : qKD} (hd : KT[k]? = some d) {cell : Cell} (hc : H'[a]? = some cell) (hok : q_cell D tys T d cell) (oq : ∀ q : Nat, q ≠ a → H'[q]? = H[q]?) : q_inv D tys KT T H' := by
  intro b j hb
  by_cases hab : b = a
  · subst hab
    cases ha.symm.trans hb
    exact ⟨d, cell, hd, hc, hok⟩
  · obtain ⟨d', c', h1, h2, h3⟩ := h b j hb
    exact ⟨d', c', h1, (oq b hab).trans h2, h3⟩
def q_up (T : qTy) (a k : Nat) : qTy := fun q => if q = a then some k else T q
theorem q_up_self (T : qTy) (a k : Nat) : q_up T a k a = some k := by simp [q_up]
theorem q_up_ne (T : qTy) {a k q : Nat} (h : q ≠ a) : q_up T a k q = T q := by simp [q_up, h]
theorem q_le_up {T : qTy} {a k : Nat} (h : T a = none) : q_le T (q_up T a k) := by
  intro b j hb
  by_cases hab : b = a
  · subst hab; rw [h] at hb; cases hb
  · rw [q_up_ne T hab]; exact hb
theorem q_inv.none {D : va_G} {tys : List (ClassId × FieldType)} {KT : List qKD} {T : qTy} {H : Heap} (h : q_inv D tys KT T H) {a : Nat} (ha : H.size ≤ a) : T a = none := by
  cases hT : T a with
  | none => rfl
  | some k => exact absurd (h.lt hT) (by omega)
/-- a cell is made -/
theorem q_inv.new {D : va_G} {tys : List (ClassId × FieldType)} {KT : List qKD} {T : qTy} {H H' : Heap} (h : q_inv D tys KT T H) {k : Nat} {d : qKD} (hd : KT[k]? = some d) {cell : Cell} (hc : H'[H.size]? = some cell) (hok : q_cell D tys T d cell) (oq : ∀ q : Nat, q < H.size → H'[q]? = H[q]?) : q_inv D tys KT (q_up T H.size k) H' := by
  have hle := q_le_up (k := k) (h.none (Nat.le_refl H.size))
  intro b j hb
  by_cases hab : b = H.size
  · subst hab
    rw [q_up_self] at hb
    cases hb
    exact ⟨d, cell, hd, hc, hok.mono hle⟩
  · rw [q_up_ne T hab] at hb
    obtain ⟨d', c', h1, h2, h3⟩ := h b j hb
    exact ⟨d', c', h1, (oq b (h.lt hb)).trans h2, h3.mono hle⟩
/-- an object's field is written -/
theorem q_cell.put {D : va_G} {tys : List (ClassId × FieldType)} {T : qTy} {ci n f : Nat} {fts : List qFT} {ft : qFT} {cell : Cell} {v : Value} (h : q_cell D tys T (0, ci, n, fts) cell) (hf : fts[f]? = some ft) (hv : q_ft T ft v) (hap : ∀ x y, x < fts.length → y < fts.length → x ≠ y → D.2 ci x ≠ D.2 ci y) : q_cell D tys T (0, ci, n, fts) (cell.setSlot (D.2 ci f) v) := by
  obtain ⟨h1, h2, h3⟩ := h
  refine ⟨h1, h2, fun j ft' hj => ?_⟩
  obtain ⟨v', h4, h5⟩ := h3 j ft' hj
  by_cases hjf : j = f
  · subst hjf
    cases hf.symm.trans hj
    exact ⟨v, Cell.slots_setSlot_self _ (k2_hasslot h4), hv⟩
  · refine ⟨v', ?_, h5⟩
    rw [slot_ne _ _ (hap f j (List.getElem?_eq_some_iff.mp hf).1 (List.getElem?_eq_some_iff.mp hj).1 (Ne.symm hjf))]
    exact h4
/-- an array's element is written -/
theorem q_cell.ast {D : va_G} {tys : List (ClassId × FieldType)} {T : qTy} {g t n i : Nat} {fts : List qFT} {cell : Cell} {v : Value} (h : q_cell D tys T (g + 1, t, n, fts) cell) (hv : ∀ ft ∈ fts, q_ft T ft v) : q_cell D tys T (g + 1, t, n, fts) (cell.setSlot i v) := by
  obtain ⟨cA, ty, z, h1, h2, rfl, h4⟩ := h
  refine ⟨cA, ty, updV z i v, h1, h2, arrV_store _ _ _ _ _, fun j hj ft hf => ?_⟩
  by_cases hji : j = i
  · subst hji; simp only [updV, if_true]; exact hv ft hf
  · simp only [updV, if_neg hji]; exact h4 j hj ft hf
