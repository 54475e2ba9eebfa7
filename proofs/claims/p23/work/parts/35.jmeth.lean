/-! A METHOD of the plain machine -/
/-- the ends of a method -/
def j_Ret (KT : List qKD) (nL : Nat) (C : qCx) (G : jG) (cc : ByteArray) (ret : Option FieldType) (mc ms : Nat) (Qf : List jV → jS → jH → Prop) : Prop :=
  (ret = none → ∀ (pc : Nat) (lo : List (Nat × jV)) (S : jS) (V : jH) (nc ns : Nat), decode cc pc = .ok (.return_, 1) → Qf [] S V → nc ≤ mc → ns ≤ ms → j_ok KT nL C G pc lo [] S V nc ns) ∧
  (ret = some .int → ∀ (pc : Nat) (lo : List (Nat × jV)) (r : Int) (S : jS) (V : jH) (nc ns : Nat), decode cc pc = .ok (.ireturn, 1) → Qf [(0, r)] S V → nc ≤ mc → ns ≤ ms → j_ok KT nL C G pc lo [(0, r)] S V nc ns) ∧
  (ret = some .boolean → ∀ (pc : Nat) (lo : List (Nat × jV)) (r : Int) (S : jS) (V : jH) (nc ns : Nat), decode cc pc = .ok (.ireturn, 1) → 0 ≤ r ∧ r ≤ 1 → Qf [(0, r)] S V → nc ≤ mc → ns ≤ ms → j_ok KT nL C G pc lo [(0, r)] S V nc ns) ∧
  (ret = some .long → ∀ (pc : Nat) (lo : List (Nat × jV)) (r : Int) (S : jS) (V : jH) (nc ns : Nat), decode cc pc = .ok (.lreturn, 1) → Qf [(1, r)] S V → nc ≤ mc → ns ≤ ms → j_ok KT nL C G pc lo [(1, r)] S V nc ns) ∧
  ((∃ N, ret = some (.object N)) ∨ (∃ N, ret = some (.array N)) → ∀ (pc : Nat) (lo : List (Nat × jV)) (r : Int) (S : jS) (V : jH) (nc ns : Nat), decode cc pc = .ok (.areturn, 1) → Qf [(2, r)] S V → nc ≤ mc → ns ≤ ms → j_ok KT nL C G pc lo [(2, r)] S V nc ns)
theorem j_Ret_of {KT : List qKD} {nL : Nat} {p : Program} {l : Launch} {e : Env} {R : Room} {s : State} {m : MethodId} {args : Array Value} {below : List Frame} {meth : Method} {c : Code} {cc : ByteArray} {D : va_G} {tys : List (ClassId × FieldType)} {ret : Option FieldType} {mc ms : Nat} {Qf : List jV → jS → jH → Prop} {ad0 : Int → Nat} {S0 : jS} (hx : p.tables.exec = Jvm.exec) (hb : c.code = cc) (hr : meth.sig.returnType = ret) (hlocks : meth.locks = false) :
    j_Ret KT nL (p, l, e, R, s, m, args, below, meth, c, MQ below (j_Qc KT D tys S0 Qf ad0) args s mc ms (fun q => (∃ b : Int, S0.1 b ≠ 0 ∧ ad0 b = q) ∨ s.heap.size ≤ q)) (D, tys, s.heap, ad0, S0) cc ret mc ms Qf := by
  have key : ∀ (rs : List jV) (S : jS) (V : jH) (ad : Int → Nat) (vs : List Value) (H : Heap) (locs : List Loc), Qf rs S V → j_hp KT D tys ad S V H → j_stk ad S rs vs → j_fr (D, tys, s.heap, ad0, S0) ad S H locs → vs.length ≤ 1 → ∀ t : State, t.heap = H → s.WarmedH t.vm → j_Qc KT D tys S0 Qf ad0 args s (.returned vs.head?) t := by
    intro rs S V ad vs H locs hQ h1 h3 h4 hlen t ht _
    obtain ⟨⟨s1, s2, s3⟩, s4, s5⟩ := h4
    refine ⟨vs, rfl, hlen, rs, S, V, ad, hQ, by rw [ht]; exact h1, h3, s4, by rw [ht]; exact s1, fun q q1 q2 => ?_, s5⟩
    rw [ht]
    exact s2 q q1 (fun hq => by
      rcases hq with ⟨b, hb, e⟩ | hq
      · exact q2 b hb e
      · have q1 : q < s.heap.size := q1
        have hq : s.heap.size ≤ q := hq
        omega)
  refine ⟨fun hret pc lo S V nc ns hd hQ hc hs => ?_, fun hret pc lo r S V nc ns hd hQ hc hs => ?_, fun hret pc lo r S V nc ns hd hz hQ hc hs => ?_, fun hret pc lo r S V nc ns hd hQ hc hs => ?_, fun hret pc lo r S V nc ns hd hQ hc hs => ?_⟩
  · intro ad ls vs H locs h1 h2 h3 h4
    refine W.widen (k := mc) (n := ms) hc hs ?_
    have e := h3.nil
    subst e
    exact W.vret (free := fun q => (∃ b : Int, S0.1 b ≠ 0 ∧ ad0 b = q) ∨ s.heap.size ≤ q) hx hb (hr.trans hret) (key [] S V ad [] H locs hQ h1 h3 h4 (by simp)) h4.1.2.2 hd hlocks
  · intro ad ls vs H locs h1 h2 h3 h4
    refine W.widen (k := mc) (n := ms) hc hs ?_
    obtain ⟨v, ws, rfl, e2, h3'⟩ := h3.cons
    have e := h3'.nil
    subst e
    obtain ⟨y, rfl, -⟩ := id e2
    exact W.iret (free := fun q => (∃ b : Int, S0.1 b ≠ 0 ∧ ad0 b = q) ∨ s.heap.size ≤ q) hx hb (hr.trans hret) (key [(0, r)] S V ad [.int y] H locs hQ h1 h3 h4 (by simp)) h4.1.2.2 hd hlocks
  · intro ad ls vs H locs h1 h2 h3 h4
    refine W.widen (k := mc) (n := ms) hc hs ?_
    obtain ⟨v, ws, rfl, e2, h3'⟩ := h3.cons
    have e := h3'.nil
    subst e
    obtain ⟨y, rfl, ey⟩ := id e2
    have ey : y.toInt = r := ey
    obtain ⟨hnar, -⟩ := q_fok_ok (T := fun _ => none) (t := (0, 0, 0, 1)) (ty := .boolean) (v := .int y) (by decide) ⟨y, rfl, by show 0 ≤ y.toInt; omega, by show y.toInt ≤ 1; omega⟩
    exact W.zret (free := fun q => (∃ b : Int, S0.1 b ≠ 0 ∧ ad0 b = q) ∨ s.heap.size ≤ q) hx hb (hr.trans hret) hnar (key [(0, r)] S V ad [.int y] H locs hQ h1 h3 h4 (by simp)) h4.1.2.2 hd hlocks
  · intro ad ls vs H locs h1 h2 h3 h4
    refine W.widen (k := mc) (n := ms) hc hs ?_
    obtain ⟨v, ws, rfl, e2, h3'⟩ := h3.cons
    have e := h3'.nil
    subst e
    obtain ⟨y, rfl, -⟩ := id e2
    exact W.lret (free := fun q => (∃ b : Int, S0.1 b ≠ 0 ∧ ad0 b = q) ∨ s.heap.size ≤ q) hx hb (hr.trans hret) (key [(1, r)] S V ad [.long y] H locs hQ h1 h3 h4 (by simp)) h4.1.2.2 hd hlocks
  · intro ad ls vs H locs h1 h2 h3 h4
    refine W.widen (k := mc) (n := ms) hc hs ?_
    obtain ⟨v, ws, rfl, e2, h3'⟩ := h3.cons
    have e := h3'.nil
    subst e
    have hv : v = .null ∨ ∃ b : Nat, v = .ref b := by
      rcases id e2 with ⟨q, -⟩ | ⟨q, -⟩
      · exact Or.inl q
      · exact Or.inr ⟨_, q⟩
    rcases hret with ⟨N, hret⟩ | ⟨N, hret⟩
    · exact W.aret (free := fun q => (∃ b : Int, S0.1 b ≠ 0 ∧ ad0 b = q) ∨ s.heap.size ≤ q) hx hb (hr.trans hret) (Or.inl ⟨_, rfl⟩) hv (key [(2, r)] S V ad [v] H locs hQ h1 h3 h4 (by simp)) h4.1.2.2 hd hlocks
    · exact W.aret (free := fun q => (∃ b : Int, S0.1 b ≠ 0 ∧ ad0 b = q) ∨ s.heap.size ≤ q) hx hb (hr.trans hret) (Or.inr ⟨_, rfl⟩) hv (key [(2, r)] S V ad [v] H locs hQ h1 h3 h4 (by simp)) h4.1.2.2 hd hlocks
def j_al : Nat → List jV → List (Nat × jV)
  | _, [] => []
  | i, x :: xs => (i, x) :: j_al (if j_cat x = 2 then i + 2 else i + 1) xs
theorem j_al_ok {ad : Int → Nat} {S : jS} : ∀ {xs : List jV} {vs : List Value} {i : Nat}, j_stk ad S xs vs → j_lvs ad S (j_al i xs) (lv_args i vs)
  | [], [], _, _ => trivial
  | x :: xs, v :: vs, i, h => by
    refine ⟨⟨rfl, h.1⟩, ?_⟩
    show j_lvs ad S (j_al (if j_cat x = 2 then i + 2 else i + 1) xs) (lv_args (if v.category = 2 then i + 2 else i + 1) vs)
    rw [h.1.cat]
    exact j_al_ok h.2
theorem j_sl_len {ad : Int → Nat} {S : jS} : ∀ {xs : List jV} {vs : List Value}, j_stk ad S xs vs → (lg_sl vs).length = (xs.map j_cat).sum
  | [], [], _ => rfl
  | x :: xs, v :: vs, h => by
    have ih := j_sl_len h.2
    have hc := h.1.cat
    unfold lg_sl at ih ⊢
    rw [List.flatMap_cons, List.length_append, ih, List.map_cons, List.sum_cons, ← hc]
    rcases lv_cat v with h1 | h1
    · rw [if_neg (by omega), h1]; rfl
    · rw [if_pos h1, h1]; rfl
theorem j_method {l : Launch} {y : MethodName} {cc : ByteArray} {nL : Nat} {ret : Option FieldType} {ws ws' : List Cond} {rm : Room} {cl : List vw_C} {TL : List FieldType} {NW : List Cond} {KT : List qKD} {mc ms : Nat} {P : List jV → jS → jH → Prop} {Q : List jV → jS → jH → List jV → jS → jH → Prop} (hy : plainName y.cls = true) (hw : ws = Cond.code y cc nL ret :: ws') (hlen : ∀ a S V, P a S V → (a.map j_cat).sum ≤ nL)
    (body : ∀ (C : qCx) (G : jG), G.2.1.map Prod.snd = TL → C.2.1 = l → C.2.2.2.1 = rm → q_mc C cc → C.2.2.2.2.2.2.2.2.2.1.maxLocals = nL → q_ow C y.cls → q_ht C ws → C.2.2.2.2.2.2.2.2.1.name = y.name → q_env G.1 cl G.2.1 NW (q_s C) → ∀ (a : List jV) (S : jS) (V : jH), P a S V → j_Ret KT nL C G cc ret mc ms (Q a S V) → j_ok KT nL C G 0 (j_al 0 a) [] S V 0 0) : j_Met l cl TL NW KT y ws rm mc ms P Q := by
  intro D tys htl a S V ad sz vs hP
  refine Met.ofW (cc := cc) (maxL := nL) (ret := ret) hy hw ?_
  intro p e s m args below meth c s₁ B hml hv
  obtain ⟨rfl, hsz, henv, hhp, hstk⟩ := hv
  subst hsz
  have hR := j_Ret_of (KT := KT) (nL := nL) (p := p) (l := l) (e := e) (R := (headSpec ws rm).room) (s := s) (m := m) (args := vs.toArray) (below := below) (meth := meth) (c := c) (cc := cc) (D := D) (tys := tys) (ret := ret) (mc := mc) (ms := ms) (Qf := Q a S V) (ad0 := ad) (S0 := S) B.exec B.bytes B.returns B.notSynchronized
  have hok := body (p, l, e, (headSpec ws rm).room, s, m, vs.toArray, below, meth, c, MQ below (j_Qc KT D tys S (Q a S V) ad) vs.toArray s mc ms (fun q => (∃ b : Int, S.1 b ≠ 0 ∧ ad b = q) ∨ s.heap.size ≤ q)) (D, tys, s.heap, ad, S) htl rfl rfl ⟨B.exec, B.bytes⟩ hml (findClass_of_methodNamed B.named) (atoms_spec (ws := ws) B.pre) (name_of_methodNamed B.named B.method).1 henv a S V hP hR
  have hl := lv_entry vs (n := nL) (by rw [j_sl_len hstk]; exact hlen a S V hP)
  rw [lg_entry_eq]
  generalize (lg_sl vs ++ List.replicate (nL - (lg_sl vs).length) Slot.unset).toArray = ls at hl ⊢
  exact hok ad ls [] s.heap [] hhp ⟨_, hl, j_al_ok hstk⟩ trivial ⟨va_S.rf, j_le.rf, fun b hb => Or.inl hb⟩
