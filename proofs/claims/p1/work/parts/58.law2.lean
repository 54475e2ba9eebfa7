def R_law : String := "BalanceCoderLaw"
def lw_P (b : Addr) (xs : List Int32) (args : Array Value) (s : State) : Prop := args = #[.ref b] ∧ s.IntsAt b xs ∧ xs.length ≤ 5 ∧ (Jvm.Cond.and given_1 narrow_1).before args s = true
def lw_Q (_ : Array Value) (s : State) (o : Outcome) (t : State) : Prop := o = .returned (some (.int 1)) ∧ Framed s o t [] 600000 7302250
def lw_Z (below : List Frame) (a : Array Value) (s : State) : State → Prop := fun t => ∃ o, t.status = .running ∧ Ended t below o ∧ lw_Q a s o t
/-- the law's own end, with 1 on the stack, nothing written that was there before, its room as the claim has it -/
theorem lw_ret {p : Program} {l : Launch} {e : Env} {s : State} {m : MethodId} {below : List Frame} {meth : Method} {c : Code} {b : Nat} (hx : p.tables.exec = Jvm.exec) (hb : c.code = code) (hr : meth.sig.returnType = ret) (hlocks : meth.locks = false) {pc : Nat} {H : Heap} {ls : Array Slot} (hdg : decode code pc = .ok (.ireturn, 1)) : W p l e room_1 s m #[Value.ref b] below meth c H [] 600000 7302250 (lw_Z below #[Value.ref b] s) (F0 m pc ls [.int 1]) := by
  intro T hT X
  obtain ⟨fs, hret, hrun, hended, hW, hframe⟩ := X.leave (v := some (.int 1)) (hlocks := hlocks) (fun h => by rw [hr] at h; cases h)
  have hmeth' : T.vm.method? m = some meth := X.method'
  refine ⟨T.setFrames fs, ?_, .returned (some (.int 1)), hrun, hended, rfl, ⟨_, rfl⟩, hW, hframe⟩
  jvm_step X.here [X.here.top, hx, hb, hdg, hmeth', hr, ret, narrow_b1]
  (try refine ⟨rfl, ?_⟩); (try refine ⟨rfl, ?_⟩)
  first | (intro acts; rw [hret _ acts rfl rfl rfl]) | rw [hret _ _ rfl rfl rfl]
  exact Steps.refl _
/-- what holds at the law's entry: the machine, the code, the tables' words (any of lw_tbl by 'hts w (by decide +kernel)'), the script of L ints xs at the cell b, what the Statement gives of the start (any of its parts by flat_of_before) -/
def lw_At (p : Program) (s : State) (m : MethodId) (meth : Method) (c : Code) (b L : Nat) (xs : Nat → Int32) : Prop :=
  p.tables.exec = Jvm.exec ∧ c.code = code ∧ meth.sig.returnType = ret ∧ c.maxLocals = 4 ∧ s.vm.findClass R_law = some m.cls ∧ (∀ w ∈ lw_tbl, w.before #[Value.ref b] s = true) ∧ va_X b L xs s s.heap ∧ b < s.heap.size ∧ meth.locks = false ∧ (Jvm.Cond.and given_1 narrow_1).before #[Value.ref b] s = true
theorem n_prim {s : State} {args : Array Value} {ty : FieldType} (h : (Cond.arrayClass ty).before args s = true) (hra : ∀ cA, s.vm.findClass ("[" ++ ty.toString) = some cA → va_RA s cA ty) : ∃ cA, ArrOfT s cA ty ∧ va_RA s cA ty := by
  obtain ⟨cA, kA, comp, h1, h2, h3⟩ := Cond.arrayClass_spec h
  exact ⟨cA, fun N z => ⟨(fun k h => by cases h), kA, h2, comp, h3⟩, hra cA h1⟩
theorem n_refa {s : State} {args : Array Value} {Cn : String} (h : (Cond.arrayOver (.object Cn)).before args s = true) : ∃ cA, ArrOfT s cA (.object Cn) ∧ va_RA s cA (.object Cn) := by
  obtain ⟨comp, cA, kA, h1, -, h2, h3, h4⟩ := Cond.arrayOver_spec h
  exact ⟨cA, fun N z => ⟨(fun k h => by cases h), kA, h2, comp, h3⟩, kA, comp, h2, h3, h1, h4⟩
theorem n_nwof {w : Cond} (hw : q_nwk w = true) {A : Array Value} {s : State} (h : w.before A s = true) : va_Nw w s := by
  unfold q_nwk at hw
  split at hw
  · exact va_Nw.of rfl h
  · exact va_Nw.of rfl h
  · exact va_AO.of h
  · cases hw
theorem n_NWin : ∀ w ∈ n_NW, w ∈ lw_tbl := by decide +kernel
def l_rp (b L : Nat) (xs : Nat → Int32) : Nat → Int := fun i => match i with
  | 0 => 1
  | 1 => (b : Int)
  | 2 => (L : Int)
  | i + 3 => (xs i).toInt
theorem l_hy0 {b L : Nat} {xs : Nat → Int32} (hL : L ≤ 5) : ∀ e ∈ l_s0.2.1, 0 ≤ q_ev (l_rp b L xs) e := by
  have m0 := q_min (xs 0); have m1 := q_min (xs 1); have m2 := q_min (xs 2); have m3 := q_min (xs 3); have m4 := q_min (xs 4)
  have M0 := q_max (xs 0); have M1 := q_max (xs 1); have M2 := q_max (xs 2); have M3 := q_max (xs 3); have M4 := q_max (xs 4)
  intro e he
  simp only [l_s0, List.mem_cons, List.not_mem_nil, or_false] at he
  rcases he with rfl | rfl | rfl | rfl | rfl | rfl | rfl | rfl | rfl | rfl | rfl | rfl <;> (simp only [q_ev, l_rp]; omega)
set_option maxHeartbeats 4000000 in
theorem l_ksc {p : Program} {l : Launch} {e : Env} {s : State} {m : MethodId} {below : List Frame} {meth : Method} {c : Code} {Q : State → Prop} {b L : Nat} {xs : Nat → Int32} {D : va_G} {tys : List (ClassId × FieldType)} (hL : L ≤ 5) (hx : p.tables.exec = Jvm.exec) (hb : c.code = code) (hX : va_X b L xs s s.heap) (hbl : b < s.heap.size) :
    q_Ksc (p, l, e, room_1, s, m, #[Value.ref b], below, meth, c, Q) code ((D, tys, n_KT, 4), ((fun q => s.heap.size ≤ q), s.heap, (fun _ => none), l_U, l_M), 8, l_rp b L xs, 0, 0) (q_x 1) [q_x 3, q_x 4, q_x 5, q_x 6, q_x 7] (q_x 2) := by
  intro pc n H locs cells slots ls sk r T b' hf hb'
  obtain ⟨-, f2, f3, -⟩ := hf
  have f2 : ∀ i, i < 8 → r i = l_rp b L xs i := f2
  have hbb : b' = b := by
    rw [q_ev_x, f2 1 (by omega)] at hb'
    have hb' : (b' : Int) = (b : Int) := hb'
    omega
  subst hbb
  have hbA : ¬ (fun q : Nat => s.heap.size ≤ q) b' := Nat.not_le.mpr hbl
  have hsl : q_ev r (q_x 2) = (L : Int) := by rw [q_ev_x, f2 2 (by omega)]; rfl
  refine ⟨fun j ee y hj hy hlt hd k => ?_, fun hd k => ?_⟩
  · rw [hsl] at hlt
    have hyj : y.toNatClampNeg = j := by show y.toInt.toNat = j; omega
    refine va_sld (A := fun q : Nat => s.heap.size ≤ q) hx hb hX hbl hbA f3 (vp_in_iff.mpr ⟨by omega, by omega⟩) hd ?_
    rw [hyj]
    refine k (xs j) ?_
    match j, hj with
    | 0, hj => cases hj; rw [q_ev_x, f2 3 (by omega)]; rfl
    | 1, hj => cases hj; rw [q_ev_x, f2 4 (by omega)]; rfl
    | 2, hj => cases hj; rw [q_ev_x, f2 5 (by omega)]; rfl
    | 3, hj => cases hj; rw [q_ev_x, f2 6 (by omega)]; rfl
    | 4, hj => cases hj; rw [q_ev_x, f2 7 (by omega)]; rfl
    | j + 5, hj => simp at hj
  · refine va_slen (A := fun q : Nat => s.heap.size ≤ q) hx hb hX hbl hbA f3 hd (k (Int32.ofNat L) ?_)
    rw [hsl, Int32.toInt_ofNat_of_lt (by omega)]
set_option maxHeartbeats 4000000 in
theorem l_rtk {p : Program} {l : Launch} {e : Env} {s : State} {m : MethodId} {below : List Frame} {meth : Method} {c : Code} {b : Nat} {D : va_G} {tys : List (ClassId × FieldType)} {rp : Nat → Int} (hx : p.tables.exec = Jvm.exec) (hb : c.code = code) (hr : meth.sig.returnType = ret) (hlocks : meth.locks = false) :
    q_do_ok_rt (p, l, e, room_1, s, m, #[Value.ref b], below, meth, c, lw_Z below #[Value.ref b] s) ((D, tys, n_KT, 4), ((fun q => s.heap.size ≤ q), s.heap, (fun _ => none), l_U, l_M), 8, rp, 0, 0) l_rt := by
  intro pc st ht h r T ls sk H locs ha hf
  unfold l_rt at h
  split at h
  · rename_i hl
    have hm0 : (pc, (Instr.ireturn, 1)) ∈ k_law := q_lkc_ok hl
    have hd : decode code pc = .ok (.ireturn, 1) := kd_law (pc, (Instr.ireturn, 1)) hm0
    simp only [Bool.and_eq_true, decide_eq_true_eq] at h
    obtain ⟨⟨h1, h2⟩, h3⟩ := h
    have h4 : q_stk r T (q_sk st) sk := ha.2.2.2.1
    rw [h1] at h4
    obtain ⟨v, vs, rfl, ⟨y, rfl, hy⟩, hvs⟩ := h4.cons
    cases vs with
    | cons _ _ => cases hvs
    | nil =>
      have hy1 : y = 1 := Int32.toInt_inj.mp (by rw [hy]; exact q_ev_k ha.1 1)
      subst hy1
      refine W.widen (k := 600000) (n := 7302250) (by show 0 + _ ≤ _; omega) (by show 0 + _ ≤ _; omega) ?_
      refine va_forget (fun q hq => hf.2.2.1.2.2 q hq) ?_
      exact lw_ret hx hb hr hlocks hd
  · cases h
set_option maxHeartbeats 8000000 in
set_option maxRecDepth 100000 in
/-- THE LAW, from its entry -/
theorem whole_start {p : Program} {e : Env} {s : State} {m : MethodId} {below : List Frame} {meth : Method} {c : Code} (l : Launch) {b L : Nat} {xs : Nat → Int32} (hL : L ≤ 5) (C0 : lw_At p s m meth c b L xs) : W p l e room_1 s m #[Value.ref b] below meth c s.heap [] 0 0 (lw_Z below #[Value.ref b] s) (entryFrame m ([Value.ref b] : List Value).toArray 4) := by
  obtain ⟨hx, hb, hr, hml, hown, hts, hX, hbl, hlocks, hgv⟩ := id C0
  have hg : ∀ w ∈ n_GW, w.before #[Value.ref b] s = true := fun w hw => hts w (List.mem_filter.mp hw).1
  obtain ⟨c0, iS0, hKn0⟩ := u_known (C := RX0) (T := TX0) (N := 6) (n := 6) hg n_u0 (hts _ (List.mem_of_getElem? (i := 204) (by decide +kernel)))
  obtain ⟨c1, iS1, hKn1⟩ := u_known (C := RX1) (T := TX1) (N := 5) (n := 5) hg n_u1 (hts _ (List.mem_of_getElem? (i := 87) (by decide +kernel)))
  obtain ⟨c2, iS2, hKn2⟩ := u_known (C := RX2) (T := TX2) (N := 1) (n := 1) hg n_u2 (hts _ (List.mem_of_getElem? (i := 217) (by decide +kernel)))
  obtain ⟨c3, iS3, hKn3⟩ := u_known (C := RX3) (T := TX3) (N := 4) (n := 4) hg n_u3 (hts _ (List.mem_of_getElem? (i := 293) (by decide +kernel)))
  obtain ⟨c4, iS4, hKn4⟩ := u_known (C := RX4) (T := TX4) (N := 2) (n := 2) hg n_u4 (hts _ (List.mem_of_getElem? (i := 249) (by decide +kernel)))
  obtain ⟨c5, iS5, hKn5⟩ := u_known (C := RX5) (T := TX5) (N := 2) (n := 2) hg n_u5 (hts _ (List.mem_of_getElem? (i := 312) (by decide +kernel)))
  obtain ⟨c6, iS6, hKn6⟩ := u_known (C := RX6) (T := TX6) (N := 2) (n := 2) hg n_u6 (hts _ (List.mem_of_getElem? (i := 158) (by decide +kernel)))
  obtain ⟨c7, iS7, hKn7⟩ := u_known (C := RX7) (T := TX7) (N := 6) (n := 6) hg n_u7 (hts _ (List.mem_of_getElem? (i := 93) (by decide +kernel)))
  obtain ⟨c8, iS8, hKn8⟩ := u_known (C := RX8) (T := TX8) (N := 3) (n := 3) hg n_u8 (hts _ (List.mem_of_getElem? (i := 210) (by decide +kernel)))
  obtain ⟨c9, iS9, hKn9⟩ := u_known (C := RX9) (T := TX9) (N := 6) (n := 6) hg n_u9 (hts _ (List.mem_of_getElem? (i := 77) (by decide +kernel)))
  obtain ⟨c10, iS10, hKn10⟩ := u_known (C := RX10) (T := TX10) (N := 8) (n := 8) hg n_u10 (hts _ (List.mem_of_getElem? (i := 69) (by decide +kernel)))
  obtain ⟨c11, iS11, hKn11⟩ := u_known (C := RX11) (T := TX11) (N := 14) (n := 14) hg n_u11 (hts _ (List.mem_of_getElem? (i := 806) (by decide +kernel)))
  obtain ⟨c12, iS12, hKn12⟩ := u_known (C := RX12) (T := TX12) (N := 31) (n := 31) hg n_u12 (hts _ (List.mem_of_getElem? (i := 800) (by decide +kernel)))
  obtain ⟨dC, dI, hKc⟩ : ∃ (dC : Nat → ClassId) (dI : Nat → Nat → Nat), ∀ (k : Nat) (q : vw_C), vwCl[k]? = some q → u_Kn s q.1 q.2.1 q.2.2 (dC k) (dI k) := by
    refine ⟨fun k => [c0, c1, c2, c3, c4, c5, c6, c7, c8, c9, c10, c11, c12].getD k 0, fun k => ([iS0, iS1, iS2, iS3, iS4, iS5, iS6, iS7, iS8, iS9, iS10, iS11, iS12] : List (Nat → Nat)).getD k (fun _ => 0), ?_⟩
    intro k q hq
    match k, hq with
    | 0, hq => cases hq; exact hKn0
    | 1, hq => cases hq; exact hKn1
    | 2, hq => cases hq; exact hKn2
    | 3, hq => cases hq; exact hKn3
    | 4, hq => cases hq; exact hKn4
    | 5, hq => cases hq; exact hKn5
    | 6, hq => cases hq; exact hKn6
    | 7, hq => cases hq; exact hKn7
    | 8, hq => cases hq; exact hKn8
    | 9, hq => cases hq; exact hKn9
    | 10, hq => cases hq; exact hKn10
    | 11, hq => cases hq; exact hKn11
    | 12, hq => cases hq; exact hKn12
    | k + 13, hq => simp [vwCl] at hq
  obtain ⟨a0, hA0, hR0⟩ := n_prim (ty := .int) (hg _ n_w81) (fun _ h => h)
  obtain ⟨a1, hA1, hR1⟩ := n_prim (ty := .long) (hg _ n_w912) (fun _ h => h)
  obtain ⟨a2, hA2, hR2⟩ := n_prim (ty := .boolean) (hg _ n_w817) (fun _ h => h)
  obtain ⟨a3, hA3, hR3⟩ := n_refa (Cn := "BalanceCoder$Row") (hts _ (List.mem_of_getElem? (i := 83) (by decide +kernel)))
  obtain ⟨a4, hA4, hR4⟩ := n_refa (Cn := "BalanceCoder$Deal") (hts _ (List.mem_of_getElem? (i := 216) (by decide +kernel)))
  obtain ⟨a5, hA5, hR5⟩ := n_refa (Cn := "BalanceCoder$Table") (hts _ (List.mem_of_getElem? (i := 85) (by decide +kernel)))
  obtain ⟨tys, htys⟩ : ∃ tys : List (ClassId × FieldType), tys = [(a0, .int), (a1, .long), (a2, .boolean), (a3, .object "BalanceCoder$Row"), (a4, .object "BalanceCoder$Deal"), (a5, .object "BalanceCoder$Table")] := ⟨_, rfl⟩
  have hK : va_K (dC, dI) vwCl tys s := by
    refine ⟨hKc, fun k q hq => ?_⟩
    rw [htys] at hq
    match k, hq with
    | 0, hq => cases hq; exact ⟨hA0, hR0⟩
    | 1, hq => cases hq; exact ⟨hA1, hR1⟩
    | 2, hq => cases hq; exact ⟨hA2, hR2⟩
    | 3, hq => cases hq; exact ⟨hA3, hR3⟩
    | 4, hq => cases hq; exact ⟨hA4, hR4⟩
    | 5, hq => cases hq; exact ⟨hA5, hR5⟩
    | k + 6, hq => simp at hq
  have htl : tys.map Prod.snd = n_TL := by rw [htys]; rfl
  have hE : q_env (dC, dI) vwCl tys n_NW s := ⟨hK, fun w hw => n_nwof (List.all_eq_true.mp n_NWk w hw) (hts w (n_NWin w hw))⟩
  obtain ⟨C, hC⟩ : ∃ C : qCx, C = (p, l, e, room_1, s, m, #[Value.ref b], below, meth, c, lw_Z below #[Value.ref b] s) := ⟨_, rfl⟩
  obtain ⟨G, hG⟩ : ∃ G : qGx, G = (((dC, dI), tys, n_KT, 4), ((fun q => s.heap.size ≤ q), s.heap, (fun _ => none), l_U, l_M), 8, l_rp b L xs, 0, 0) := ⟨_, rfl⟩
  have h : n_ctx C code 4 "BalanceCoderLaw" (dC, dI) tys := by rw [hC]; exact ⟨htl, ⟨hx, hb⟩, hml, hown, hg, hE⟩
  have hrm : C.2.2.2.1 = room_1 := by rw [hC]
  have hsem : q_Sem C G code 600000 7302250 e_law := by
    have hf1 : ∀ i ci f, (i, ci, f) ∈ e_fg e_law → q_Fget C code (dC, dI) i ci f := fun i ci f hm => c_fgL h (i, ci, f) hm
    have hf2 : ∀ i ci f, (i, ci, f) ∈ e_fp e_law → ∃ ty, q_Fput C code (dC, dI) i ci f ty ∧ q_ktf n_KT ci f ty = true := fun i ci f hm => c_fpL h (i, ci, f) hm
    have hf3 : ∀ i ci n, (i, ci, n) ∈ e_cn e_law → ∃ tyf : Nat → FieldType, q_Fnew C code (dC, dI) i ci n tyf ∧ ∀ f, f < n → q_ktf n_KT ci f (tyf f) = true := fun i ci n hm => c_cnL h (i, ci, n) hm
    have hf4 : ∀ t ci, (t, ci) ∈ e_at e_law → q_AR C.2.2.2.2.1 (dC, dI) tys t ci := fun t ci hm => c_atL h (t, ci) hm
    have hf5 : ∀ i n, (i, n) ∈ e_kI e_law → ∃ v : Int32, v.toInt = n ∧ q_Kld C code (.ldc i) (.int v) := fun i n hm => c_kIL h (i, n) hm
    have hf6 : ∀ i n, (i, n) ∈ e_kL e_law → ∃ v : Int64, v.toInt = n ∧ q_Kld C code (.ldc2_w i) (.long v) := fun i n hm => c_kLL h (i, n) hm
    have hf7 : ∀ i ∈ e_ob e_law, q_Kob C code 4 i := c_obL h ⟨by rw [hrm]; decide, by rw [hrm]; decide⟩
    have hf8 : ∀ i ∈ e_cp e_law, q_Kcp C code 4 i := c_cpL h
    have hf9 : ∀ ins ct, (ins, ct) ∈ e_ca e_law → q_Call C code (dC, dI) tys n_KT 4 ins ct := fun ins ct hm => l_cap h hrm (ins, ct) hm
    have hks : q_Ksc C code G (q_x 1) [q_x 3, q_x 4, q_x 5, q_x 6, q_x 7] (q_x 2) := by rw [hC, hG]; exact l_ksc hL hx hb hX hbl
    have hap := n_hap h
    have hn1 := c_n1L h
    have hn2 := c_n2L h
    have hat := n_at (s := C.2.2.2.2.1) (D := (dC, dI)) (tys := tys) (by rw [hC]; exact hK)
    have hmc : q_mc C code := h.2.1
    have hroom : (0 : Nat) + 600000 ≤ C.2.2.2.1.cells ∧ 0 + 7302250 ≤ C.2.2.2.1.slots := by rw [hrm]; decide
    rw [hG] at hks ⊢
    exact ⟨⟨hmc, fun i ins len hm => kd_law (i, ins, len) hm, fun q hq => hq, hroom, hat⟩, ⟨hf1, hf2, hap, hf3, n_hag htl⟩, ⟨hn1, hn2, hf4⟩, ⟨hf5, hf6, hf7, hf8⟩, hf9, Or.inr hks⟩
  have hrt : q_do_ok_rt C G l_rt := by rw [hC, hG]; exact l_rtk hx hb hr hlocks
  have hLC : l_LC C G := by
    rw [hG] at hsem hrt ⊢
    exact q_do_ok (G := (((dC, dI), tys, n_KT, 4), ((fun q => s.heap.size ≤ q), s.heap, (fun _ => none), l_U, l_M), 8, l_rp b L xs, 0, 0)) (n0 := 8) (r0 := l_rp b L xs) (rp := l_rp b L xs) (npre := 8) (mu0 := []) (tms := []) hsem hrt (fun tm htm => by cases htm) (fun _ _ => rfl) (Nat.le_refl _) (by decide) rfl
  have hok := q_runC_ok hLC l_pre (n_mem2 (l_k0 hLC) (n_mem2 (l_k1 hLC) (n_mem2 (l_k2 hLC) (n_mem2 (l_k3 hLC) (n_mem2 (l_k4 hLC) (n_mem2 (l_k5 hLC) (n_mem2 (l_k6 hLC) (n_mem2 (l_k7 hLC) (n_mem2 (l_k8 hLC) (n_mem2 (l_k9 hLC) (n_mem2 (l_k10 hLC) (n_mem2 (l_k11 hLC) (n_mem2 (l_k12 hLC) (n_mem2 (l_k13 hLC) (n_mem2 (l_k14 hLC) (n_mem2 (l_k15 hLC) (n_mem2 (l_k16 hLC) (n_mem2 (l_k17 hLC) (n_mem2 (l_k18 hLC) (n_mem2 (l_k19 hLC) (n_mem2 (l_k20 hLC) (n_mem2 (l_k21 hLC) (n_mem2 (l_k22 hLC) (n_mem2 (l_k23 hLC) (n_mem2 (l_k24 hLC) (n_mem2 (l_k25 hLC) (n_mem2 (l_k26 hLC) n_mem0))))))))))))))))))))))))))) (0, l_s0) List.mem_cons_self
  have hl := lv_entry ([.ref b]) (n := 4) (Nat.le_of_ble_eq_true rfl)
  rw [lg_entry_eq]
  generalize (lg_sl ([.ref b]) ++ List.replicate (4 - (lg_sl ([.ref b])).length) Slot.unset).toArray = ls at hl ⊢
  have hab : q_ab G (l_rp b L xs) (fun _ => none) l_s0 ls [] s.heap := by
    rw [hG]
    refine ⟨rfl, l_hy0 hL, ⟨_, hl, ⟨rfl, b, rfl, ?_⟩, trivial⟩, trivial, fun a k hk => (by cases hk), fun c hc => (by cases hc)⟩
    show (b : Int) = q_ev (l_rp b L xs) [(1, 1)]
    simp [q_ev, l_rp]
  have hfr : q_fr G l_s0.1 (l_rp b L xs) (fun _ => none) s.heap [] := by
    rw [hG]
    exact ⟨Nat.le_refl _, fun _ _ => rfl, va_S.rf, fun a k hk => (by cases hk), fun a k hk => (by cases hk), fun a k hk => (by cases hk)⟩
  have hW := hok (l_rp b L xs) (fun _ => none) ls [] s.heap [] hab hfr
  rw [hC, hG] at hW
  exact hW
