/-! THE RUN. What a method's tables are: code; getfield, putfield, new (pool, class, field / slots); new arrays; stores of objects; constants; Object's constructor; arraycopy; calls; the script (its address, its elements, its length) -/
abbrev qEn : Type := List (Nat × Instr × Nat) × (List (Nat × Nat × Nat) × List (Nat × Nat × Nat) × List (Nat × Nat × Nat)) × (List (Nat × Nat) × List (Nat × Nat)) × (List (Nat × Int) × List (Nat × Int) × List Nat × List Nat) × List (Instr × qCt) × (qLin × List qLin × qLin)
abbrev e_code (E : qEn) := E.1
abbrev e_fg (E : qEn) := E.2.1.1
abbrev e_fp (E : qEn) := E.2.1.2.1
abbrev e_cn (E : qEn) := E.2.1.2.2
abbrev e_na (E : qEn) := E.2.2.1.1
abbrev e_at (E : qEn) := E.2.2.1.2
abbrev e_kI (E : qEn) := E.2.2.2.1.1
abbrev e_kL (E : qEn) := E.2.2.2.1.2.1
abbrev e_ob (E : qEn) := E.2.2.2.1.2.2.1
abbrev e_cp (E : qEn) := E.2.2.2.1.2.2.2
abbrev e_ca (E : qEn) := E.2.2.2.2.1
abbrev e_sb (E : qEn) := E.2.2.2.2.2.1
abbrev e_sc (E : qEn) := E.2.2.2.2.2.2.1
abbrev e_sl (E : qEn) := E.2.2.2.2.2.2.2
def q_or (a b : qSuc) : qSuc := match a with
  | some x => some x
  | none => b
def q_aky (a : ArrayType) : Nat := match a with
  | .int => 10
  | .boolean => 4
  | .long => 11
  | _ => 0
def q_lk1 (t : List (Nat × Int)) (i : Nat) : Option Int := match t with
  | [] => none
  | q :: t => if q.1 = i then some q.2 else q_lk1 t i
def q_lkc (t : List (Nat × Instr × Nat)) (i : Nat) : Option (Instr × Nat) := match t with
  | [] => none
  | q :: t => if q.1 = i then some q.2 else q_lkc t i
theorem q_lk1_ok {i : Nat} {n : Int} : ∀ {t : List (Nat × Int)}, q_lk1 t i = some n → (i, n) ∈ t
  | [], h => by cases h
  | q :: t, h => by
    unfold q_lk1 at h
    split at h
    · rename_i hi
      obtain ⟨q1, q2⟩ := q
      cases hi
      cases Option.some.inj h
      exact List.mem_cons_self
    · exact List.mem_cons_of_mem _ (q_lk1_ok h)
theorem q_lkc_ok {i : Nat} {x : Instr × Nat} : ∀ {t : List (Nat × Instr × Nat)}, q_lkc t i = some x → (i, x) ∈ t
  | [], h => by cases h
  | q :: t, h => by
    unfold q_lkc at h
    split at h
    · rename_i hi
      obtain ⟨q1, q2⟩ := q
      cases hi
      cases Option.some.inj h
      exact List.mem_cons_self
    · exact List.mem_cons_of_mem _ (q_lkc_ok h)
def q_Kld (C : qCx) (cc : ByteArray) (ins : Instr) (v : Value) : Prop := ∀ (pc : Nat) (H : Heap) (locs : List Loc) (cells slots : Nat) (ls : Array Slot) (sk : List Value), decode cc pc = .ok (ins, q_len ins) → q_W C H locs cells slots (pc + q_len ins) ls (v :: sk) → q_W C H locs cells slots pc ls sk
def q_Kob (C : qCx) (cc : ByteArray) (nL idx : Nat) : Prop := ∀ (pc : Nat) (H : Heap) (locs : List Loc) (cells slots : Nat) (ls : Array Slot) (sk : List Value) (a : Nat), decode cc pc = .ok (.invokespecial idx, 3) → ls.size = nL → (sk.map fun v => v.category).sum ≤ 8 → q_W C H locs cells slots (pc + 3) ls sk → q_W C H locs cells slots pc ls (.ref a :: sk)
def q_Kcp (C : qCx) (cc : ByteArray) (nL idx : Nat) : Prop := ∀ (pc : Nat) (H : Heap) (locs : List Loc) (cells slots : Nat) (ls : Array Slot) (sk : List Value) (a a0 : Nat) (c0 c1 : ClassId) (n0 n1 : Nat) (z0 z1 : Nat → Value) (x0 x1 x2 : Int32), decode cc pc = .ok (.invokestatic idx, 3) → ls.size = nL → (sk.map fun v => v.category).sum ≤ 8 → ArrOfT C.2.2.2.2.1 c0 .int → ArrOfT C.2.2.2.2.1 c1 .int → H[a0]? = some (arrV c0 n0 z0) → H[a]? = some (arrV c1 n1 z1) → x0.toInt = 0 → x1.toInt = 0 → x2.toInt = 0 →
  (∀ L : List Loc, (∀ q ∈ L, q.base = a) → q_W C H (locs ++ L) cells slots (pc + 3) ls sk) → q_W C H locs cells slots pc ls (.int x0 :: .int x1 :: .ref a :: .int x2 :: .ref a0 :: sk)
def q_Ksc (C : qCx) (cc : ByteArray) (G : qGx) (sb : qLin) (sc : List qLin) (sl : qLin) : Prop := ∀ (pc n : Nat) (H : Heap) (locs : List Loc) (cells slots : Nat) (ls : Array Slot) (sk : List Value) (r : Nat → Int) (T : qTy) (b : Nat), q_fr G n r T H locs → (b : Int) = q_ev r sb →
  (∀ (j : Nat) (e : qLin) (y : Int32), sc[j]? = some e → y.toInt = (j : Int) → (j : Int) < q_ev r sl → decode cc pc = .ok (.iaload, 1) → (∀ v : Int32, v.toInt = q_ev r e → q_W C H locs cells slots (pc + 1) ls (.int v :: sk)) → q_W C H locs cells slots pc ls (.int y :: .ref b :: sk)) ∧
  (decode cc pc = .ok (.arraylength, 1) → (∀ v : Int32, v.toInt = q_ev r sl → q_W C H locs cells slots (pc + 1) ls (.int v :: sk)) → q_W C H locs cells slots pc ls (.ref b :: sk))
def q_stK (E : qEn) (ins : Instr) (pc : Nat) (st : qSt) : qSuc := match ins with
  | .ldc i => (match q_lk1 (e_kI E) i with
    | some n => some [(pc + 2, q_setk st ((0, 0, q_k n) :: q_sk st))]
    | none => none)
  | .ldc2_w i => (match q_lk1 (e_kL E) i with
    | some n => some [(pc + 3, q_setk st ((5, 0, q_k n) :: q_sk st))]
    | none => none)
  | _ => none
def q_stO (E : qEn) (idx pc : Nat) (st : qSt) : qSuc := match q_sk st with
  | (2, _, _) :: xs => if idx ∈ e_ob E ∧ (xs.map q_cat).sum ≤ 8 then some [(pc + 3, q_setk st xs)] else none
  | _ => none
def q_stY (KT : List qKD) (E : qEn) (idx pc : Nat) (st : qSt) : qSuc := match q_sk st with
  | (0, _, []) :: (0, _, []) :: (2, k1, _) :: (0, _, []) :: (2, k0, _) :: xs => (match KT[k0]?, KT[k1]? with
    | some (1, _, _, _), some (1, _, _, _) => if idx ∈ e_cp E ∧ (xs.map q_cat).sum ≤ 8 then some [(pc + 3, q_setk st xs)] else none
    | _, _ => none)
  | _ => none
def q_stR (E : qEn) (ins : Instr) (pc : Nat) (st : qSt) (ht : qHint) : qSuc := match ins with
  | .iaload => (match q_sk st with
    | (0, _, ei) :: (6, _, eb) :: xs => (match q_kv ei with
      | some j => (match (e_sc E)[j.toNat]? with
        | some e => if 0 ≤ j ∧ eb = e_sb E ∧ q_vc st.2.1 (q_sub (q_sub (e_sl E) (q_k 1)) (q_k j)) ht.2.1 0 = true then some [(pc + 1, q_setk st ((0, 0, e) :: xs))] else none
        | none => none)
      | none => none)
    | _ => none)
  | .arraylength => (match q_sk st with
    | (6, _, eb) :: xs => if eb = e_sb E then some [(pc + 1, q_setk st ((0, 0, e_sl E) :: xs))] else none
    | _ => none)
  | _ => none
def q_inv_ (KT : List qKD) (U : List Nat) (M : List (Nat × Nat)) (kx sx : Nat) (E : qEn) (ins : Instr) (pc : Nat) (st : qSt) (ht : qHint) : qSuc := match (e_ca E)[(ht.2.2.2.getD 0 0).toNat]? with
  | some (ins', ct) => if ins' = ins then q_stC KT U M kx sx ct pc st ht else none
  | none => none
/-- an instruction -/
def q_step (KT : List qKD) (U : List Nat) (M : List (Nat × Nat)) (nL kx sx : Nat) (E : qEn) (ins : Instr) (pc : Nat) (st : qSt) (ht : qHint) : qSuc := match ins with
  | .getfield i => q_stG KT (e_fg E) i pc st ht
  | .putfield i => q_stP KT M (e_fp E) i pc st ht
  | .arraylength => q_or (q_stN KT pc st) (q_stR E .arraylength pc st ht)
  | .iaload => q_or (q_stLc KT .iaload pc st ht) (q_or (q_stL KT .iaload pc st ht) (q_stR E .iaload pc st ht))
  | .new i => q_stW KT kx sx (e_cn E) i pc st ht
  | .newarray a => q_stV KT kx sx (e_na E) (q_aky a) 2 pc st ht
  | .anewarray i => q_stV KT kx sx (e_na E) (100 + i) 3 pc st ht
  | .invokevirtual i => q_inv_ KT U M kx sx E (.invokevirtual i) pc st ht
  | .invokespecial i => if ht.1 = 7 then q_stO E i pc st else q_inv_ KT U M kx sx E (.invokespecial i) pc st ht
  | .invokestatic i => if ht.1 = 8 then q_stY KT E i pc st else q_inv_ KT U M kx sx E (.invokestatic i) pc st ht
  | ins => q_or (q_stX ins pc st ht) (q_or (q_st1 nL [] [] ins pc st) (q_or (q_st2 ins pc st ht) (q_or (q_st3 ins pc st ht) (q_or (q_st4 ins pc st) (q_or (q_st5 nL ins pc st ht) (q_or (q_stLc KT ins pc st ht) (q_or (q_stL KT ins pc st ht) (q_or (q_stS KT M (e_at E) ins pc st ht) (q_stK E ins pc st)))))))))
abbrev qHx : Type := Nat × qHint
/-- one item: 0 an instruction, 1 an arrival, 2 can't be, 3 a kind is raised, 4 a split, 5 the end -/
def q_do (KT : List qKD) (U : List Nat) (M : List (Nat × Nat)) (nL kx sx : Nat) (E : qEn) (npre : Nat) (mu0 : qLin) (tms : List qTm) (rt : Nat → qSt → qHint → Bool) (h : qHx) (pc : Nat) (st : qSt) : qSuc := match h.1 with
  | 0 => (match q_lkc (e_code E) pc with
    | some (ins, len) => if len = q_len ins then q_step KT U M nL kx sx E ins pc st h.2 else q_stT ins pc st
    | none => none)
  | 1 => (match tms[(h.2.2.2.2.getD 0 0).toNat]? with
    | some tm => if q_arr npre mu0 tm pc st h.2 = true then some [] else none
    | none => none)
  | 2 => if q_dead st h.2 = true then some [] else none
  | 3 => q_upg KT U pc st h.2
  | 4 => q_spl pc st h.2
  | 6 => q_rpe pc st h.2
  | _ => if rt pc st h.2 = true then some [] else none
def q_run (f : qHx → Nat → qSt → qSuc) : List qHx → List (Nat × qSt) → Bool
  | _, [] => true
  | [], _ :: _ => false
  | h :: hs, x :: rest => (match f h x.1 x.2 with
    | some ss => q_run f hs (ss ++ rest)
    | none => false)
theorem q_run_ok {C : qCx} {G : qGx} {f : qHx → Nat → qSt → qSuc} (hf : ∀ h pc st ss, f h pc st = some ss → (∀ x ∈ ss, q_ok C G x.1 x.2) → q_ok C G pc st) : ∀ {hs : List qHx} {xs : List (Nat × qSt)}, q_run f hs xs = true → ∀ x ∈ xs, q_ok C G x.1 x.2
  | _, [], _, x, hx => by cases hx
  | [], _ :: _, h, _, _ => by cases h
  | h :: hs, y :: rest, hr, x, hx => by
    unfold q_run at hr
    split at hr
    · rename_i ss hss
      have ih := q_run_ok hf hr
      rcases List.mem_cons.mp hx with rfl | hx
      · exact hf h _ _ ss hss (fun z hz => ih z (List.mem_append_left _ hz))
      · exact ih x (List.mem_append_right _ hx)
    · cases hr
