/-! CONTRACTS over the machine, and the calls that they allow -/
def q_Qc (D : va_G) (tys : List (ClassId × FieldType)) (KT : List qKD) (ct : qCt) (r : Nat → Int) (T : qTy) : Array Value → State → Outcome → State → Prop := fun _ st o t => ∃ (r' : Nat → Int) (T' : qTy) (rv : List Value), o = .returned rv.head? ∧ rv.length ≤ 1 ∧ q_postOk D tys KT ct r T st.heap r' T' t.heap rv
def q_env (D : va_G) (cl : List vw_C) (tys : List (ClassId × FieldType)) (NW : List Cond) (U : State) : Prop := va_K D cl tys U ∧ ∀ w ∈ NW, va_Nw w U
def q_Pc (D : va_G) (cl : List vw_C) (tys : List (ClassId × FieldType)) (NW : List Cond) (KT : List qKD) (ct : qCt) (r : Nat → Int) (T : qTy) (sz : Nat) (vs : List Value) : Array Value → State → Prop := va_Pc vs (fun U => U.heap.size = sz ∧ q_env D cl tys NW U ∧ q_preOk D tys KT ct r T U.heap vs)
/-- method y keeps contract ct -/
def q_Met (l : Launch) (cl : List vw_C) (TL : List FieldType) (NW : List Cond) (KT : List qKD) (y : MethodName) (ws : List Cond) (rm : Room) (ct : qCt) : Prop := ∀ (D : va_G) (tys : List (ClassId × FieldType)), tys.map Prod.snd = TL → ∀ (r : Nat → Int) (T : qTy) (sz : Nat) (vs : List Value),
  Met l y ws rm (q_Pc D cl tys NW KT ct r T sz vs) (q_Qc D tys KT ct r T) ct.2.2.2.2.1 ct.2.2.2.2.2 (fun q => T q ≠ none ∨ sz ≤ q)
def q_nwk (w : Cond) : Bool := match w with
  | .fieldLinkNest _ _ _ _ _ _ => true
  | .methodLinkNest _ _ _ _ => true
  | .arrayOver (.object _) => true
  | _ => false
theorem q_nw_warm {w : Cond} (hw : q_nwk w = true) {s U : State} (hW : s.WarmedH U.vm) (h : va_Nw w s) : va_Nw w U := by
  unfold q_nwk at hw
  split at hw
  · exact va_Nw.warmF hW h
  · exact va_Nw.warmM hW h
  · exact va_AO.moved hW.alike h
  · cases hw
theorem q_nw_same {w : Cond} (hw : q_nwk w = true) {u U : State} (h : u.vm = U.vm) (hz : va_Nw w u) : va_Nw w U := by
  unfold q_nwk at hw
  split at hw
  · exact va_Nw.same rfl h hz
  · exact va_Nw.same rfl h hz
  · exact va_AO.moved (u := u) (U := U) (by rw [h]; exact Vm.Alike.refl _) hz
  · cases hw
theorem q_env.warm {D : va_G} {cl : List vw_C} {tys : List (ClassId × FieldType)} {NW : List Cond} (hN : NW.all q_nwk = true) {s U : State} (hW : s.WarmedH U.vm) (h : q_env D cl tys NW s) : q_env D cl tys NW U :=
  ⟨va_K.moved hW.alike h.1, fun w hw => q_nw_warm (List.all_eq_true.mp hN w hw) hW (h.2 w hw)⟩
theorem q_Pc_blind {D : va_G} {cl : List vw_C} {tys : List (ClassId × FieldType)} {NW : List Cond} (hN : NW.all q_nwk = true) {KT : List qKD} {ct : qCt} {r : Nat → Int} {T : qTy} {sz : Nat} {vs : List Value} : FrameBlind (q_Pc D cl tys NW KT ct r T sz vs) := by
  intro a U g mk h
  obtain ⟨h1, h2, h3, h4⟩ := h
  exact ⟨h1, h2, ⟨va_K.moved (u := U) (U := U.calling g mk a) (Vm.Alike.refl U.vm) h3.1, fun w hw => q_nw_same (u := U) (U := U.calling g mk a) (List.all_eq_true.mp hN w hw) rfl (h3.2 w hw)⟩, h4⟩
section QP16
variable {C : qCx} {cc : ByteArray} {D : va_G} {cl : List vw_C} {tys : List (ClassId × FieldType)} {KT : List qKD} {NW : List Cond} {nL : Nat} {ins : Instr} {ct : qCt}
theorem q_Call_run (hr : ∀ (pc : Nat) (H : Heap) (locs : List Loc) (cells slots : Nat) (ls : Array Slot) (sk : List Value) (r : Nat → Int) (T : qTy) (vs : List Value), decode cc pc = .ok (ins, 3) → q_preOk D tys KT ct r T H vs → cells + ct.2.2.2.2.1 ≤ C.2.2.2.1.cells → slots + ct.2.2.2.2.2 ≤ C.2.2.2.1.slots → (sk.map fun v => v.category).sum ≤ 8 → ls.size = nL →
    va_Run C.1 C.2.1 C.2.2.1 C.2.2.2.1 C.2.2.2.2.1 C.2.2.2.2.2.1 C.2.2.2.2.2.2.1 C.2.2.2.2.2.2.2.1 C.2.2.2.2.2.2.2.2.1 C.2.2.2.2.2.2.2.2.2.1 H locs cells slots ct.2.2.2.2.1 ct.2.2.2.2.2 (F0 C.2.2.2.2.2.1 pc ls (vs.reverse ++ sk)) sk (q_Qc D tys KT ct r T vs.toArray) (fun q => T q ≠ none ∨ H.size ≤ q)) : q_Call C cc D tys KT nL ins ct := by
  intro pc H locs cells slots ls sk r T vs hd hpre hc hs hcat hls k
  intro T_ hT X
  obtain ⟨v, st₀, t, T', L, h0, X', hL, e1, e2, ⟨r', T'', rv, hv, hlen, hpost⟩, st⟩ := hr pc H locs cells slots ls sk r T vs hd hpre hc hs hcat hls T_ hT X
  rw [h0] at hpost
  have hrv : v.toList = rv := by
    have hv : v = rv.head? := by injection hv
    rw [hv]
    match rv, hlen with
    | [], _ => rfl
    | [x], _ => rfl
    | x :: y :: z, hlen => simp at hlen
  obtain ⟨t2, a1, b1⟩ := k r' T'' t.heap L rv hpost hL T' e1 X'
  rw [← hrv] at a1
  exact ⟨t2, st t2 a1, b1⟩
theorem q_pre_hd {r : Nat → Int} {T : qTy} {H : Heap} {vs : List Value} (h : q_preOk D tys KT ct r T H vs) : ct.1.2.2.1.length = vs.length := h.2.2.1.len
variable {y : MethodName} {ws ws' Ts : List Cond} {rm : Room} {own host Cn : String} {idx n maxL : Nat} {bytes : ByteArray} {ret : Option FieldType} {TL : List FieldType}
abbrev q_Fx (C : qCx) (cc : ByteArray) (nL : Nat) (Ts : List Cond) (own : String) : Prop := CallFix C.1 C.2.2.2.2.2.1 C.2.2.2.2.2.2.2.2.2.1 cc nL (q_s C) (q_ar_ C) Ts own
/-- who is called: the first argument is of a kind of the class -/
abbrev q_Rc (KT : List qKD) (cl : List vw_C) (ct : qCt) (Cn : String) : Prop := ∃ (k ci nn : Nat) (e : qLin) (as : List qAV) (fts : List qFT) (Tt : u_T) (N : Nat), ct.1.2.2.1 = (2, k, e) :: as ∧ KT[k]? = some (0, ci, nn, fts) ∧ cl[ci]? = some (Cn, Tt, N)
theorem q_rc_of (hK : va_K D cl tys (q_s C)) (hrc : q_Rc KT cl ct Cn) {r : Nat → Int} {T : qTy} {H : Heap} {vs : List Value} (h : q_preOk D tys KT ct r T H vs) : ∃ (b : Nat) (As : List Value) (cell : Cell), vs = .ref b :: As ∧ H[b]? = some cell ∧ cell.vm.isStatics = false ∧ (q_s C).vm.findClass Cn = some cell.cls := by
  obtain ⟨k, ci, nn, e, as, fts, Tt, N, h1, h2, h3⟩ := hrc
  obtain ⟨-, -, h4, h5, -⟩ := h
  rw [h1] at h4
  obtain ⟨v, As, rfl, ⟨b, rfl, hb, -⟩, -⟩ := h4.cons
  obtain ⟨d, cell, d1, d2, d3⟩ := h5 b k hb
  cases h2.symm.trans d1
  exact ⟨b, As, cell, rfl, d2, by rw [d3.1]; rfl, by rw [d3.2.1]; exact (hK.1 ci _ h3).2.1⟩
theorem q_callV (hN : NW.all q_nwk = true) (hE : q_env D cl tys NW (q_s C)) (htl : tys.map Prod.snd = TL) (hM : q_Met C.2.1 cl TL NW KT y ws rm ct) (hfx : q_Fx C cc nL Ts own) (cw : CallW C.2.2.2.1 (q_s C) (q_ar_ C) own Cn idx y bytes maxL ret ws rm ct.2.2.2.2.1 ct.2.2.2.2.2 n) (hrc : q_Rc KT cl ct Cn) (hn : ct.1.2.2.1.length = n + 1) : q_Call C cc D tys KT nL (.invokevirtual idx) ct := by
  refine q_Call_run (fun pc H locs cells slots ls sk r T vs hd hpre hc hs hcat hls => ?_)
  obtain ⟨b, As, cell, rfl, g1, g2, g3⟩ := q_rc_of hE.1 hrc hpre
  have hl := q_pre_hd hpre
  exact va_runV hfx (hM D tys htl r T H.size (.ref b :: As)) cw ⟨q_Pc_blind hN, ⟨cell, g1, g2, g3⟩, fun U hU hW => ⟨rfl, by rw [hU], hE.warm hN hW, by rw [hU]; exact hpre⟩⟩ rfl (by rw [hn, List.length_cons] at hl; omega) hls (by simp) (lv_room hcat) hd ⟨hc, hs⟩
theorem q_callVN (hN : NW.all q_nwk = true) (hE : q_env D cl tys NW (q_s C)) (htl : tys.map Prod.snd = TL) (hM : q_Met C.2.1 cl TL NW KT y ws rm ct) (hfx : q_Fx C cc nL Ts own) (cw : va_CN C.2.2.2.1 (q_s C) (q_ar_ C) own idx y host bytes maxL ret ws rm ct.2.2.2.2.1 ct.2.2.2.2.2 n ∧ (Cond.instanceMethod y).before (q_ar_ C) (q_s C) = true ∧ (Cond.selects Cn y y).before (q_ar_ C) (q_s C) = true) (hrc : q_Rc KT cl ct Cn) (hn : ct.1.2.2.1.length = n + 1) : q_Call C cc D tys KT nL (.invokevirtual idx) ct := by
  refine q_Call_run (fun pc H locs cells slots ls sk r T vs hd hpre hc hs hcat hls => ?_)
  obtain ⟨b, As, cell, rfl, g1, g2, g3⟩ := q_rc_of hE.1 hrc hpre
  have hl := q_pre_hd hpre
  exact va_runVN hfx (hM D tys htl r T H.size (.ref b :: As)) cw ⟨q_Pc_blind hN, ⟨cell, g1, g2, g3⟩, fun U hU hW => ⟨rfl, by rw [hU], hE.warm hN hW, by rw [hU]; exact hpre⟩⟩ rfl (by rw [hn, List.length_cons] at hl; omega) hls (by simp) (lv_room hcat) hd ⟨hc, hs⟩
theorem q_callI (hN : NW.all q_nwk = true) (hE : q_env D cl tys NW (q_s C)) (htl : tys.map Prod.snd = TL) (hM : q_Met C.2.1 cl TL NW KT y ws rm ct) (hfx : q_Fx C cc nL Ts own) (cw : CallB C.2.2.2.1 (q_s C) (q_ar_ C) own idx y bytes maxL none ws rm ct.2.2.2.2.1 ct.2.2.2.2.2 n ∧ y.name = "<init>" ∧ (Cond.instanceMethod y).before (q_ar_ C) (q_s C) = true) (hrc : q_Rc KT cl ct Cn) (hn : ct.1.2.2.1.length = n + 1) : q_Call C cc D tys KT nL (.invokespecial idx) ct := by
  refine q_Call_run (fun pc H locs cells slots ls sk r T vs hd hpre hc hs hcat hls => ?_)
  obtain ⟨b, As, cell, rfl, g1, g2, g3⟩ := q_rc_of hE.1 hrc hpre
  have hl := q_pre_hd hpre
  exact va_runI hfx (hM D tys htl r T H.size (.ref b :: As)) cw ⟨q_Pc_blind hN, fun U hU hW => ⟨rfl, by rw [hU], hE.warm hN hW, by rw [hU]; exact hpre⟩⟩ rfl (by rw [hn, List.length_cons] at hl; omega) hls (by simp) (lv_room hcat) hd ⟨hc, hs⟩
theorem q_callIN (hN : NW.all q_nwk = true) (hE : q_env D cl tys NW (q_s C)) (htl : tys.map Prod.snd = TL) (hM : q_Met C.2.1 cl TL NW KT y ws rm ct) (hfx : q_Fx C cc nL Ts own) (cw : va_CN C.2.2.2.1 (q_s C) (q_ar_ C) own idx y host bytes maxL none ws rm ct.2.2.2.2.1 ct.2.2.2.2.2 n ∧ y.name = "<init>" ∧ (Cond.instanceMethod y).before (q_ar_ C) (q_s C) = true) (hrc : q_Rc KT cl ct Cn) (hn : ct.1.2.2.1.length = n + 1) : q_Call C cc D tys KT nL (.invokespecial idx) ct := by
  refine q_Call_run (fun pc H locs cells slots ls sk r T vs hd hpre hc hs hcat hls => ?_)
  obtain ⟨b, As, cell, rfl, g1, g2, g3⟩ := q_rc_of hE.1 hrc hpre
  have hl := q_pre_hd hpre
  exact va_runIN hfx (hM D tys htl r T H.size (.ref b :: As)) cw ⟨q_Pc_blind hN, fun U hU hW => ⟨rfl, by rw [hU], hE.warm hN hW, by rw [hU]; exact hpre⟩⟩ rfl (by rw [hn, List.length_cons] at hl; omega) hls (by simp) (lv_room hcat) hd ⟨hc, hs⟩
theorem q_callS (hN : NW.all q_nwk = true) (hE : q_env D cl tys NW (q_s C)) (htl : tys.map Prod.snd = TL) (hM : q_Met C.2.1 cl TL NW KT y ws rm ct) (hfx : q_Fx C cc nL Ts own) (cw : CallB C.2.2.2.1 (q_s C) (q_ar_ C) own idx y bytes maxL ret ws rm ct.2.2.2.2.1 ct.2.2.2.2.2 n ∧ (Cond.static y).before (q_ar_ C) (q_s C) = true) (hn : ct.1.2.2.1.length = n) : q_Call C cc D tys KT nL (.invokestatic idx) ct := by
  refine q_Call_run (fun pc H locs cells slots ls sk r T vs hd hpre hc hs hcat hls => ?_)
  have hl := q_pre_hd hpre
  exact va_runS hfx (hM D tys htl r T H.size vs) cw ⟨q_Pc_blind hN, fun U hU hW => ⟨rfl, by rw [hU], hE.warm hN hW, by rw [hU]; exact hpre⟩⟩ rfl (by omega) hls rfl (lv_room hcat) hd ⟨hc, hs⟩
theorem q_callSN (hN : NW.all q_nwk = true) (hE : q_env D cl tys NW (q_s C)) (htl : tys.map Prod.snd = TL) (hM : q_Met C.2.1 cl TL NW KT y ws rm ct) (hfx : q_Fx C cc nL Ts own) (cw : va_CN C.2.2.2.1 (q_s C) (q_ar_ C) own idx y host bytes maxL ret ws rm ct.2.2.2.2.1 ct.2.2.2.2.2 n ∧ (Cond.static y).before (q_ar_ C) (q_s C) = true ∧ True) (hn : ct.1.2.2.1.length = n) : q_Call C cc D tys KT nL (.invokestatic idx) ct := by
  refine q_Call_run (fun pc H locs cells slots ls sk r T vs hd hpre hc hs hcat hls => ?_)
  have hl := q_pre_hd hpre
  exact va_runSN hfx (hM D tys htl r T H.size vs) cw ⟨q_Pc_blind hN, fun U hU hW => ⟨rfl, by rw [hU], hE.warm hN hW, by rw [hU]; exact hpre⟩⟩ rfl (by omega) hls rfl (lv_room hcat) hd ⟨hc, hs⟩
/-- arraycopy of nothing -/
theorem q_Kcp_of (hm : q_mc C cc) (hml : C.2.2.2.2.2.2.2.2.2.1.maxLocals = nL) (ho : q_ow C own) (hlink : (Cond.methodLink own idx arraycopyName).before (q_ar_ C) (q_s C) = true) (hnat : (Cond.native arraycopyName).before (q_ar_ C) (q_s C) = true) (hstat : (Cond.static arraycopyName).before (q_ar_ C) (q_s C) = true) (hini : (Cond.initialized "java/lang/System").before (q_ar_ C) (q_s C) = true) (hR : 1 ≤ C.2.2.2.1.frames ∧ 8 + (nativeFrameWords "java/lang/System" "arraycopy" 5 + 11) ≤ C.2.2.2.1.locals) : q_Kcp C cc nL idx := by
  intro pc H locs cells slots ls sk a a0 c0 c1 n0 n1 z0 z1 x0 x1 x2 hd hls hcat hA0 hA1 hc0 hc1 h0 h1 h2 k
  have hx0 : x0 = 0 := Int32.toInt_inj.mp (by rw [h0]; rfl)
  have hx1 : x1 = 0 := Int32.toInt_inj.mp (by rw [h1]; rfl)
  have hx2 : x2 = 0 := Int32.toInt_inj.mp (by rw [h2]; rfl)
  subst hx0; subst hx1; subst hx2
  intro T hT X
  obtain ⟨-, k0, hk0, cm0, hkk0⟩ := hA0 n0 z0
  obtain ⟨-, k1, hk1, cm1, hkk1⟩ := hA1 n1 z1
  obtain ⟨vm', X', step⟩ := X.arraycopy hm.1 ho hlink hnat hstat hini (src := a0) (dst := a) (cs := arrV c0 n0 z0) (cd := arrV c1 n1 z1) (srcPos := 0) (destPos := 0) (n := 0) (by rw [hT]; exact hc0) (by rw [hT]; exact hc1)
    (fun _ h => by cases h) (fun _ h => by cases h) (fun h => by cases h) (fun h => by cases h) hk0 hk1 hkk0 hkk1 (by decide) (by decide) (by decide) (by decide)
    (by rw [arrV_size]; show ¬ (0 : Int) + 0 > (n0 : Int); omega) (by rw [arrV_size]; show ¬ (0 : Int) + 0 > (n1 : Int); omega)
    (fun vm₁ _ i hi => absurd hi (by show ¬ i < 0; omega))
    (g := F0 C.2.2.2.2.2.1 pc ls (.int 0 :: .int 0 :: .ref a :: .int 0 :: .ref a0 :: sk)) rfl (by show ls.size = _; rw [hls, hml]) (rest := sk) rfl (by rw [hm.2]; exact hd) hR.1 (by show 2 * 0 + _ + _ ≤ _; omega)
  have e1 : copied (arrV c0 n0 z0) (arrV c1 n1 z1) 0 0 0 = arrV c1 n1 z1 := rfl
  rw [e1] at X' step
  have hl : a < H.size := (Array.getElem?_eq_some_iff.mp hc1).1
  have hheap : ((T.setVm vm').setCell a (arrV c1 n1 z1)).heap = H := by
    show T.heap.setIfInBounds a (arrV c1 n1 z1) = H
    rw [hT]
    apply Array.ext_getElem?
    intro i
    by_cases hi : i = a
    · subst hi
      rw [hc1]
      simp [hl]
    · simp [Array.getElem?_setIfInBounds, Ne.symm hi]
  obtain ⟨t, a1, b1⟩ := k _ (fun q hq => by obtain ⟨z, -, hz⟩ := List.mem_map.mp hq; rw [← hz]) ((T.setVm vm').setCell a (arrV c1 n1 z1)) hheap X'
  exact ⟨t, step t a1, b1⟩
end QP16
