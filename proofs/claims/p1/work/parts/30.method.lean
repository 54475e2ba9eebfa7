/-! A METHOD keeps its contract when the run of its code says so -/
/-- what the tables must say, but for the frame -/
def q_SemE (C : qCx) (D : va_G) (tys : List (ClassId × FieldType)) (KT : List qKD) (nL : Nat) (cc : ByteArray) (E : qEn) : Prop :=
  ((∀ i ins len, (i, ins, len) ∈ e_code E → decode cc i = .ok (ins, len)) ∧ q_AT C.2.2.2.2.1 tys) ∧
  ((∀ i ci f, (i, ci, f) ∈ e_fg E → q_Fget C cc D i ci f) ∧ (∀ i ci f, (i, ci, f) ∈ e_fp E → ∃ ty, q_Fput C cc D i ci f ty ∧ q_ktf KT ci f ty = true) ∧
    (∀ (k ci n : Nat) (fts : List qFT), KT[k]? = some (0, ci, n, fts) → ∀ x y, x < fts.length → y < fts.length → x ≠ y → D.2 ci x ≠ D.2 ci y) ∧
    (∀ i ci n, (i, ci, n) ∈ e_cn E → ∃ tyf : Nat → FieldType, q_Fnew C cc D i ci n tyf ∧ ∀ f, f < n → q_ktf KT ci f (tyf f) = true) ∧
    (∀ (g t n : Nat) (fts : List qFT) (k : Nat), KT[k]? = some (g + 1, t, n, fts) → ∀ cA ty, tys[t]? = some (cA, ty) → q_aty (g + 1) ty)) ∧
  ((∀ a t, (q_aky a, t) ∈ e_na E → ∃ cA ty, tys[t]? = some (cA, ty) ∧ q_Fna C cc (.newarray a) cA ty) ∧ (∀ i t, (100 + i, t) ∈ e_na E → ∃ cA ty, tys[t]? = some (cA, ty) ∧ q_Fna C cc (.anewarray i) cA ty) ∧ (∀ t ci, (t, ci) ∈ e_at E → q_AR C.2.2.2.2.1 D tys t ci)) ∧
  ((∀ i n, (i, n) ∈ e_kI E → ∃ v : Int32, v.toInt = n ∧ q_Kld C cc (.ldc i) (.int v)) ∧ (∀ i n, (i, n) ∈ e_kL E → ∃ v : Int64, v.toInt = n ∧ q_Kld C cc (.ldc2_w i) (.long v)) ∧ (∀ i ∈ e_ob E, q_Kob C cc nL i) ∧ (∀ i ∈ e_cp E, q_Kcp C cc nL i)) ∧
  (∀ ins ct, (ins, ct) ∈ e_ca E → q_Call C cc D tys KT nL ins ct)
def q_al : Nat → List qAV → List (Nat × qAV)
  | _, [] => []
  | i, x :: xs => (i, x) :: q_al (if q_cat x = 2 then i + 2 else i + 1) xs
theorem q_al_ok {r : Nat → Int} {T : qTy} : ∀ {xs : List qAV} {vs : List Value} {i : Nat}, q_stk r T xs vs → q_lvs r T (q_al i xs) (lv_args i vs)
  | [], [], _, _ => trivial
  | x :: xs, v :: vs, i, h => by
    refine ⟨⟨rfl, h.1⟩, ?_⟩
    show q_lvs r T (q_al (if q_cat x = 2 then i + 2 else i + 1) xs) (lv_args (if v.category = 2 then i + 2 else i + 1) vs)
    rw [h.1.cat]
    exact q_al_ok h.2
theorem q_sl_len {r : Nat → Int} {T : qTy} : ∀ {xs : List qAV} {vs : List Value}, q_stk r T xs vs → (lg_sl vs).length = (xs.map q_cat).sum
  | [], [], _ => rfl
  | x :: xs, v :: vs, h => by
    have ih := q_sl_len h.2
    have hc := h.1.cat
    unfold lg_sl at ih ⊢
    rw [List.flatMap_cons, List.length_append, ih, List.map_cons, List.sum_cons, ← hc]
    rcases lv_cat v with h1 | h1
    · rw [if_neg (by omega), h1]; rfl
    · rw [if_pos h1, h1]; rfl
/-- the end: which return, of which type -/
def q_rtk (ins : Instr) (ret : Option FieldType) (st : qSt) (cs : List qCert) : Bool := match ins, ret, q_sk st with
  | .return_, none, [] => true
  | .ireturn, some .int, [x] => q_isI x
  | .ireturn, some .boolean, [x] => q_conf st.2.1 x (0, 0, 0, 1) cs
  | .lreturn, some .long, [x] => q_isL x
  | .areturn, some (.object _), [x] => q_isA x
  | .areturn, some (.array _), [x] => q_isA x
  | _, _, _ => false
def q_rt (ct : qCt) (ret : Option FieldType) (E : qEn) (pc : Nat) (st : qSt) (ht : qHint) : Bool := match q_lkc (e_code E) pc with
  | some (ins, len) => decide (len = 1) && q_rtk ins ret st (ht.2.1.drop ct.2.1.2.1.length) && q_rtc ct st ht
  | none => false
def q_en0 (ct : qCt) : qSt := (ct.1.1, ct.1.2.1, q_al 0 ct.1.2.2.1, [], ct.1.2.2.2, 0, 0)
def q_ceq : List qCa → List qCa → Bool
  | [], [] => true
  | c :: t, c' :: t' => decide (c.1 = c'.1) && decide (c.2.1 = c'.2.1) && decide (c.2.2.1 = c'.2.2.1) && decide (c.2.2.2 = c'.2.2.2) && q_ceq t t'
  | _, _ => false
theorem q_ceq_ok : ∀ {a b : List qCa}, q_ceq a b = true → a = b
  | [], [], _ => rfl
  | c :: t, c' :: t', h => by
    simp only [q_ceq, Bool.and_eq_true, decide_eq_true_eq] at h
    obtain ⟨⟨⟨⟨h1, h2⟩, h3⟩, h4⟩, h5⟩ := h
    rw [q_ceq_ok h5, show c = c' from Prod.ext h1 (Prod.ext h2 (Prod.ext h3 h4))]
def q_seq (a b : qSt) : Bool := decide (a.1 = b.1) && decide (a.2.1 = b.2.1) && decide (a.2.2.1 = b.2.2.1) && decide (a.2.2.2.1 = b.2.2.2.1) && q_ceq a.2.2.2.2.1 b.2.2.2.2.1 && decide (a.2.2.2.2.2 = b.2.2.2.2.2)
theorem q_seq_ok {a b : qSt} (h : q_seq a b = true) : a = b := by
  simp only [q_seq, Bool.and_eq_true, decide_eq_true_eq] at h
  obtain ⟨⟨⟨⟨⟨h1, h2⟩, h3⟩, h4⟩, h5⟩, h6⟩ := h
  exact Prod.ext h1 (Prod.ext h2 (Prod.ext h3 (Prod.ext h4 (Prod.ext (q_ceq_ok h5) h6))))
def q_tmk (KT : List qKD) (ct : qCt) (nL : Nat) (ret : Option FieldType) (E : qEn) (tms : List qTm) (x : qTm × qCert × List qHx) : Bool :=
  decide (ct.1.1 ≤ x.1.2.1.1) && q_wf x.1.2.1.1 x.1.2.2 && q_fk x.1.2.1.2.1 x.1.2.2 x.2.1 && q_run (q_do KT ct.2.2.1 ct.2.2.2.1 nL ct.2.2.2.2.1 ct.2.2.2.2.2 E ct.1.1 x.1.2.2 tms (q_rt ct ret E)) x.2.2 [(x.1.1, x.1.2.1)]
def q_mck (KT : List qKD) (ct : qCt) (nL : Nat) (ret : Option FieldType) (E : qEn) (ts : List (qTm × qCert × List qHx)) : Bool :=
  decide (0 < ct.1.1) && decide ((ct.1.2.2.1.map q_cat).sum ≤ nL) && decide (e_sb E = q_k (-1)) && (match ts with
    | x :: _ => decide (x.1.1 = 0) && q_seq x.1.2.1 (q_en0 ct)
    | [] => false) && ts.all (q_tmk KT ct nL ret E (ts.map Prod.fst))
theorem q_rt_ok {p : Program} {l : Launch} {e : Env} {R : Room} {s : State} {m : MethodId} {args : Array Value} {below : List Frame} {meth : Method} {c : Code} {cc : ByteArray} {D : va_G} {tys : List (ClassId × FieldType)} {KT : List qKD} {nL n0 : Nat} {r0 rp : Nat → Int} {ct : qCt} {ret : Option FieldType} {E : qEn} {T0 : qTy} (hx : p.tables.exec = Jvm.exec) (hb : c.code = cc) (hr : meth.sig.returnType = ret) (hlocks : meth.locks = false) (hcode : ∀ i ins len, (i, ins, len) ∈ e_code E → decode cc i = .ok (ins, len)) (hn0 : ct.1.1 ≤ n0) (hag : ∀ i, i < ct.1.1 → r0 i = rp i) :
    q_do_ok_rt (p, l, e, R, s, m, args, below, meth, c, MQ below (q_Qc D tys KT ct rp T0) args s ct.2.2.2.2.1 ct.2.2.2.2.2 (fun q => T0 q ≠ none ∨ s.heap.size ≤ q)) ((D, tys, KT, nL), ((fun q => T0 q ≠ none ∨ s.heap.size ≤ q), s.heap, T0, ct.2.2.1, ct.2.2.2.1), n0, r0, 0, 0) (q_rt ct ret E) := by
  intro pc st ht h r T ls sk H locs ha hf
  unfold q_rt at h
  split at h
  · rename_i ins len hl
    simp only [Bool.and_eq_true, decide_eq_true_eq] at h
    obtain ⟨⟨rfl, hk⟩, hrt⟩ := h
    have hd := hcode _ _ _ (q_lkc_ok hl)
    have hpost := q_rtc_ok hrt rfl rfl rfl hn0 hag ha hf
    have hloc : ∀ q ∈ locs, (fun q => T0 q ≠ none ∨ s.heap.size ≤ q) q.base := hf.2.2.1.2.2
    simp only [q_rtc, Bool.and_eq_true, decide_eq_true_eq] at hrt
    obtain ⟨⟨⟨⟨⟨⟨-, hkc⟩, hks⟩, -⟩, -⟩, -⟩, -⟩ := hrt
    refine W.widen (k := ct.2.2.2.2.1) (n := ct.2.2.2.2.2) (by show 0 + _ ≤ _; omega) (by show 0 + _ ≤ _; omega) ?_
    have h4 : q_stk r T (q_sk st) sk := ha.2.2.2.1
    have hQ : ∀ (rv : List Value) (hrv : sk = rv) (hlen : rv.length ≤ 1) (t : State), t.heap = H → s.WarmedH t.vm → q_Qc D tys KT ct rp T0 args s (.returned rv.head?) t := by
      intro rv hrv hlen t ht _
      subst hrv
      exact ⟨_, T, sk, rfl, hlen, by rw [ht]; exact hpost⟩
    unfold q_rtk at hk
    split at hk
    · rename_i hsk
      rw [hsk] at h4
      cases sk with
      | cons _ _ => cases h4
      | nil => exact W.vret (free := fun q => T0 q ≠ none ∨ s.heap.size ≤ q) hx hb hr (hQ [] rfl (by simp)) hloc hd hlocks
    · rename_i x hsk
      rw [hsk] at h4
      obtain ⟨v, vs, rfl, hv, hvs⟩ := h4.cons
      cases vs with
      | cons _ _ => cases hvs
      | nil =>
        obtain ⟨y, rfl, -⟩ := hv.I (q_isI0 hk)
        exact W.iret (free := fun q => T0 q ≠ none ∨ s.heap.size ≤ q) hx hb hr (hQ [.int y] rfl (by simp)) hloc hd hlocks
    · rename_i x hsk
      rw [hsk] at h4
      obtain ⟨v, vs, rfl, hv, hvs⟩ := h4.cons
      cases vs with
      | cons _ _ => cases hvs
      | nil =>
        have hft := q_conf_ok hk ha.1 ha.2.1 hv
        obtain ⟨hnar, -⟩ := q_fok_ok (T := T) (t := (0, 0, 0, 1)) (ty := .boolean) (by decide) hft
        obtain ⟨y, rfl, -⟩ := hft
        exact W.zret (free := fun q => T0 q ≠ none ∨ s.heap.size ≤ q) hx hb hr hnar (hQ [.int y] rfl (by simp)) hloc hd hlocks
    · rename_i x hsk
      rw [hsk] at h4
      obtain ⟨v, vs, rfl, hv, hvs⟩ := h4.cons
      cases vs with
      | cons _ _ => cases hvs
      | nil =>
        obtain ⟨y, rfl⟩ := hv.L hk
        exact W.lret (free := fun q => T0 q ≠ none ∨ s.heap.size ≤ q) hx hb hr (hQ [.long y] rfl (by simp)) hloc hd hlocks
    · rename_i x hsk
      rw [hsk] at h4
      obtain ⟨v, vs, rfl, hv, hvs⟩ := h4.cons
      cases vs with
      | cons _ _ => cases hvs
      | nil => exact W.aret (free := fun q => T0 q ≠ none ∨ s.heap.size ≤ q) hx hb hr (Or.inl ⟨_, rfl⟩) (hv.A hk) (hQ [v] rfl (by simp)) hloc hd hlocks
    · rename_i x hsk
      rw [hsk] at h4
      obtain ⟨v, vs, rfl, hv, hvs⟩ := h4.cons
      cases vs with
      | cons _ _ => cases hvs
      | nil => exact W.aret (free := fun q => T0 q ≠ none ∨ s.heap.size ≤ q) hx hb hr (Or.inr ⟨_, rfl⟩) (hv.A hk) (hQ [v] rfl (by simp)) hloc hd hlocks
    · cases hk
  · cases h
theorem q_method {l : Launch} {y : MethodName} {cc : ByteArray} {nL : Nat} {ret : Option FieldType} {ws ws' : List Cond} {rm : Room} {ct : qCt} {cl : List vw_C} {TL : List FieldType} {NW : List Cond} {KT : List qKD} {E : qEn} (ts : List (qTm × qCert × List qHx)) (hy : plainName y.cls = true) (hw : ws = Cond.code y cc nL ret :: ws') (hrc : rm.cells = ct.2.2.2.2.1) (hrs : rm.slots = ct.2.2.2.2.2)
    (hE : ∀ (C : qCx) (D : va_G) (tys : List (ClassId × FieldType)), tys.map Prod.snd = TL → C.2.1 = l → C.2.2.2.1 = rm → q_mc C cc → C.2.2.2.2.2.2.2.2.2.1.maxLocals = nL → q_ow C y.cls → q_ht C ws → C.2.2.2.2.2.2.2.2.1.name = y.name → q_env D cl tys NW (q_s C) → q_SemE C D tys KT nL cc E)
    (hchk : q_mck KT ct nL ret E ts = true) : q_Met l cl TL NW KT y ws rm ct := by
  intro D tys htl rp T0 sz vs
  refine Met.ofW (cc := cc) (maxL := nL) (ret := ret) hy hw ?_
  intro p e s m args below meth c s₁ B hml hv
  obtain ⟨rfl, hsz, henv, hpre⟩ := hv
  subst hsz
  simp only [q_mck, Bool.and_eq_true, decide_eq_true_eq] at hchk
  obtain ⟨⟨⟨⟨c0, c1⟩, c2⟩, c3⟩, c4⟩ := hchk
  obtain ⟨C, hC⟩ : ∃ C : qCx, C = (p, l, e, (headSpec ws rm).room, s, m, vs.toArray, below, meth, c, MQ below (q_Qc D tys KT ct rp T0) vs.toArray s ct.2.2.2.2.1 ct.2.2.2.2.2 (fun q => T0 q ≠ none ∨ s.heap.size ≤ q)) := ⟨_, rfl⟩
  have hsem := hE C D tys htl (by rw [hC]) (by rw [hC]; rfl) (by rw [hC]; exact ⟨B.exec, B.bytes⟩) (by rw [hC]; exact hml) (by rw [hC]; exact findClass_of_methodNamed B.named) (by rw [hC]; exact atoms_spec (ws := ws) B.pre) (by rw [hC]; exact (name_of_methodNamed B.named B.method).1) (by rw [hC]; exact henv)
  obtain ⟨G, hG⟩ : ∃ G : qGx, G = ((D, tys, KT, nL), ((fun q => T0 q ≠ none ∨ s.heap.size ≤ q), s.heap, T0, ct.2.2.1, ct.2.2.2.1), 0, rp, 0, 0) := ⟨_, rfl⟩
  have main : ∀ n : Nat, ∀ x ∈ ts, ∀ r1 : Nat → Int, (∀ i, i < ct.1.1 → r1 i = rp i) → q_ev r1 x.1.2.2 < (n : Int) → q_okB C G x.1 r1 := by
    intro n
    induction n with
    | zero =>
      intro x hx r1 _ hlt T ls sk H locs ha _
      have hx4 := List.all_eq_true.mp c4 x hx
      simp only [q_tmk, Bool.and_eq_true] at hx4
      have := q_fk_ok ha.1 ha.2.1 hx4.1.2
      omega
    | succ n ih =>
      intro x hx r1 hag hlt
      have hx4 := List.all_eq_true.mp c4 x hx
      simp only [q_tmk, Bool.and_eq_true, decide_eq_true_eq] at hx4
      obtain ⟨⟨⟨k1, k2⟩, k3⟩, k4⟩ := hx4
      have hsem2 : q_Sem C (q_re G x.1.2.1.1 r1) cc ct.2.2.2.2.1 ct.2.2.2.2.2 E := by
        obtain ⟨⟨s1, s2⟩, s3, s4, s5, s6⟩ := hsem
        rw [hG]
        refine ⟨⟨?_, s1, fun q hq => Or.inr hq, ?_, s2⟩, s3, s4, s5, s6, Or.inl c2⟩
        · rw [hC]; exact ⟨B.exec, B.bytes⟩
        · rw [hC]
          exact ⟨by show 0 + _ ≤ rm.cells; rw [hrc]; omega, by show 0 + _ ≤ rm.slots; rw [hrs]; omega⟩
      have hrt : q_do_ok_rt C (q_re G x.1.2.1.1 r1) (q_rt ct ret E) := by
        rw [hC, hG]
        exact q_rt_ok B.exec B.bytes B.returns B.notSynchronized hsem.1.1 k1 hag
      have hdo := q_do_ok (tms := ts.map Prod.fst) (mu0 := x.1.2.2) (rp := rp) hsem2 hrt (fun tm htm r2 hag2 hlt2 => by
        obtain ⟨x', hx', rfl⟩ := List.mem_map.mp htm
        exact ih x' hx' r2 hag2 (by omega)) hag k1 c0 k2
      have hok := q_run_ok (C := C) (G := q_re G x.1.2.1.1 r1) (f := q_do KT ct.2.2.1 ct.2.2.2.1 nL ct.2.2.2.2.1 ct.2.2.2.2.2 E ct.1.1 x.1.2.2 (ts.map Prod.fst) (q_rt ct ret E)) (by rw [hG] at hdo ⊢; exact hdo) k4 (x.1.1, x.1.2.1) List.mem_cons_self
      intro T ls sk H locs ha hfc
      exact hok r1 T ls sk H locs ha ⟨Nat.le_refl _, fun _ _ => rfl, hfc⟩
  match ts, c3, main with
  | x :: ts', c3, main =>
    rw [Bool.and_eq_true, decide_eq_true_eq] at c3
    obtain ⟨e1, e2⟩ := c3
    have e2 := q_seq_ok e2
    have hB := main ((q_ev rp x.1.2.2).toNat + 1) x List.mem_cons_self rp (fun _ _ => rfl) (by omega)
    have hlen := q_sl_len hpre.2.2.1
    have hl := lv_entry vs (n := nL) (by omega)
    rw [lg_entry_eq]
    generalize (lg_sl vs ++ List.replicate (nL - (lg_sl vs).length) Slot.unset).toArray = ls at hl ⊢
    have hab : q_ab G rp T0 x.1.2.1 ls [] s.heap := by
      rw [e2, hG]
      exact ⟨hpre.1, hpre.2.1, ⟨_, hl, q_al_ok hpre.2.2.1⟩, trivial, hpre.2.2.2.1, hpre.2.2.2.2⟩
    have hfc : q_fc G T0 s.heap [] := by
      rw [hG]
      refine ⟨va_S.rf, fun a k hk => Or.inl (by rw [hk]; exact fun h => by cases h), q_leU.rf, fun _ _ _ _ _ _ => rfl⟩
    have hW := hB T0 ls [] s.heap [] hab hfc
    rw [e1] at hW
    have e3 : x.1.2.1.2.2.2.2.2 = (0, 0) := by rw [e2]; rfl
    rw [show x.1.2.1.2.2.2.2.2.1 = 0 by rw [e3], show x.1.2.1.2.2.2.2.2.2 = 0 by rw [e3]] at hW
    rw [hC, hG] at hW
    exact hW
