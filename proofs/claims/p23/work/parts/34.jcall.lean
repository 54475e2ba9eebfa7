/-! CONTRACTS of the plain machine, and calls -/
def j_post (KT : List qKD) (D : va_G) (tys : List (ClassId × FieldType)) (S : jS) (Qf : List jV → jS → jH → Prop) (ad : Int → Nat) (H : Heap) (rv : List Value) (H' : Heap) : Prop :=
  ∃ (rs : List jV) (S' : jS) (V' : jH) (ad' : Int → Nat), Qf rs S' V' ∧ j_hp KT D tys ad' S' V' H' ∧ j_stk ad' S' rs rv ∧ j_le ad ad' S S' ∧ H.size ≤ H'.size ∧ (∀ q : Nat, q < H.size → (∀ b : Int, S.1 b ≠ 0 → ad b ≠ q) → H'[q]? = H[q]?) ∧ ∀ b : Int, S'.1 b ≠ 0 → S.1 b ≠ 0 ∨ H.size ≤ ad' b
def j_Pc (cl : List vw_C) (NW : List Cond) (KT : List qKD) (D : va_G) (tys : List (ClassId × FieldType)) (ad : Int → Nat) (a : List jV) (S : jS) (V : jH) (sz : Nat) (vs : List Value) : Array Value → State → Prop := va_Pc vs (fun U => U.heap.size = sz ∧ q_env D cl tys NW U ∧ j_hp KT D tys ad S V U.heap ∧ j_stk ad S a vs)
def j_Qc (KT : List qKD) (D : va_G) (tys : List (ClassId × FieldType)) (S : jS) (Qf : List jV → jS → jH → Prop) (ad : Int → Nat) : Array Value → State → Outcome → State → Prop := fun _ st o t => ∃ rv : List Value, o = .returned rv.head? ∧ rv.length ≤ 1 ∧ j_post KT D tys S Qf ad st.heap rv t.heap
/-- method y, wherever P holds, comes back with Q, and makes at most mc cells of ms slots -/
def j_Met (l : Launch) (cl : List vw_C) (TL : List FieldType) (NW : List Cond) (KT : List qKD) (y : MethodName) (ws : List Cond) (rm : Room) (mc ms : Nat) (P : List jV → jS → jH → Prop) (Q : List jV → jS → jH → List jV → jS → jH → Prop) : Prop :=
  ∀ (D : va_G) (tys : List (ClassId × FieldType)), tys.map Prod.snd = TL → ∀ (a : List jV) (S : jS) (V : jH) (ad : Int → Nat) (sz : Nat) (vs : List Value), P a S V →
    Met l y ws rm (j_Pc cl NW KT D tys ad a S V sz vs) (j_Qc KT D tys S (Q a S V) ad) mc ms (fun q => (∃ b : Int, S.1 b ≠ 0 ∧ ad b = q) ∨ sz ≤ q)
/-- a call, as the caller sees it -/
def j_Call (C : qCx) (cc : ByteArray) (KT : List qKD) (D : va_G) (tys : List (ClassId × FieldType)) (nL : Nat) (ins : Instr) (mc ms : Nat) (P : List jV → jS → jH → Prop) (Q : List jV → jS → jH → List jV → jS → jH → Prop) : Prop :=
  ∀ (pc : Nat) (H : Heap) (locs : List Loc) (cells slots : Nat) (ls : Array Slot) (sk : List Value) (a : List jV) (S : jS) (V : jH) (ad : Int → Nat) (vs : List Value), decode cc pc = .ok (ins, 3) → P a S V → j_hp KT D tys ad S V H → j_stk ad S a vs → cells + mc ≤ C.2.2.2.1.cells → slots + ms ≤ C.2.2.2.1.slots → (sk.map fun v => v.category).sum ≤ 8 → ls.size = nL →
  (∀ (H' : Heap) (L : List Loc) (rv : List Value), j_post KT D tys S (Q a S V) ad H rv H' → (∀ q ∈ L, (∃ b : Int, S.1 b ≠ 0 ∧ ad b = q.base) ∨ H.size ≤ q.base) → q_W C H' (locs ++ L) (cells + mc) (slots + ms) (pc + 3) ls (rv ++ sk)) → q_W C H locs cells slots pc ls (vs.reverse ++ sk)
theorem j_Pc_blind {cl : List vw_C} {NW : List Cond} (hN : NW.all q_nwk = true) {KT : List qKD} {D : va_G} {tys : List (ClassId × FieldType)} {ad : Int → Nat} {a : List jV} {S : jS} {V : jH} {sz : Nat} {vs : List Value} : FrameBlind (j_Pc cl NW KT D tys ad a S V sz vs) := by
  intro aa U g mk h
  obtain ⟨h1, h2, h3, h4⟩ := h
  exact ⟨h1, h2, ⟨va_K.moved (u := U) (U := U.calling g mk aa) (Vm.Alike.refl U.vm) h3.1, fun w hw => q_nw_same (u := U) (U := U.calling g mk aa) (List.all_eq_true.mp hN w hw) rfl (h3.2 w hw)⟩, h4⟩
theorem j_stk.len {ad : Int → Nat} {S : jS} : ∀ {a : List jV} {c : List Value}, j_stk ad S a c → a.length = c.length
  | [], [], _ => rfl
  | x :: a, v :: c, h => by rw [List.length_cons, List.length_cons, j_stk.len h.2]
theorem j_stk.cats {ad : Int → Nat} {S : jS} : ∀ {a : List jV} {c : List Value}, j_stk ad S a c → (c.map fun v => v.category).sum = (a.map j_cat).sum
  | [], [], _ => rfl
  | x :: a, v :: c, h => by
    simp only [List.map_cons, List.sum_cons]
    rw [h.1.cat, j_stk.cats h.2]
theorem j_stk.app {ad : Int → Nat} {S : jS} : ∀ {a b : List jV} {c d : List Value}, j_stk ad S a c → j_stk ad S b d → j_stk ad S (a ++ b) (c ++ d)
  | [], b, [], d, _, h2 => h2
  | x :: a, b, v :: c, d, h1, h2 => ⟨h1.1, j_stk.app h1.2 h2⟩
theorem j_stk.split {ad : Int → Nat} {S : jS} : ∀ {a b : List jV} {vs : List Value}, j_stk ad S (a ++ b) vs → ∃ c d, vs = c ++ d ∧ j_stk ad S a c ∧ j_stk ad S b d
  | [], b, vs, h => ⟨[], vs, rfl, trivial, h⟩
  | x :: a, b, [], h => by cases h
  | x :: a, b, v :: vs, h => by
    obtain ⟨c, d, h1, h2, h3⟩ := j_stk.split (a := a) (b := b) h.2
    exact ⟨v :: c, d, by rw [h1]; rfl, ⟨h.1, h2⟩, h3⟩
theorem j_stk.rev {ad : Int → Nat} {S : jS} : ∀ {a : List jV} {c : List Value}, j_stk ad S a c → j_stk ad S a.reverse c.reverse
  | [], [], _ => trivial
  | x :: a, v :: c, h => by
    rw [List.reverse_cons, List.reverse_cons]
    exact (j_stk.rev h.2).app ⟨h.1, trivial⟩
section JC
variable {C : qCx} {cc : ByteArray} {D : va_G} {cl : List vw_C} {tys : List (ClassId × FieldType)} {KT : List qKD} {NW : List Cond} {nL : Nat} {ins : Instr} {mc ms : Nat} {P : List jV → jS → jH → Prop} {Q : List jV → jS → jH → List jV → jS → jH → Prop}
theorem j_Call_run (hr : ∀ (pc : Nat) (H : Heap) (locs : List Loc) (cells slots : Nat) (ls : Array Slot) (sk : List Value) (a : List jV) (S : jS) (V : jH) (ad : Int → Nat) (vs : List Value), decode cc pc = .ok (ins, 3) → P a S V → j_hp KT D tys ad S V H → j_stk ad S a vs → cells + mc ≤ C.2.2.2.1.cells → slots + ms ≤ C.2.2.2.1.slots → (sk.map fun v => v.category).sum ≤ 8 → ls.size = nL →
    va_Run C.1 C.2.1 C.2.2.1 C.2.2.2.1 C.2.2.2.2.1 C.2.2.2.2.2.1 C.2.2.2.2.2.2.1 C.2.2.2.2.2.2.2.1 C.2.2.2.2.2.2.2.2.1 C.2.2.2.2.2.2.2.2.2.1 H locs cells slots mc ms (F0 C.2.2.2.2.2.1 pc ls (vs.reverse ++ sk)) sk (j_Qc KT D tys S (Q a S V) ad vs.toArray) (fun q => (∃ b : Int, S.1 b ≠ 0 ∧ ad b = q) ∨ H.size ≤ q)) : j_Call C cc KT D tys nL ins mc ms P Q := by
  intro pc H locs cells slots ls sk a S V ad vs hd hP h1 h2 hc hs hcat hls k
  intro T_ hT X
  obtain ⟨v, st₀, t, T', L, h0, X', hL, e1, e2, ⟨rv, hv, hlen, hpost⟩, st⟩ := hr pc H locs cells slots ls sk a S V ad vs hd hP h1 h2 hc hs hcat hls T_ hT X
  rw [h0] at hpost
  have hrv : v.toList = rv := by
    have hv : v = rv.head? := by injection hv
    rw [hv]
    match rv, hlen with
    | [], _ => rfl
    | [x], _ => rfl
    | x :: y :: z, hlen => simp at hlen
  obtain ⟨t2, a1, b1⟩ := k t.heap L rv hpost hL T' e1 X'
  rw [← hrv] at a1
  exact ⟨t2, st t2 a1, b1⟩
variable {y : MethodName} {ws Ts : List Cond} {rm : Room} {own host Cn : String} {idx n maxL : Nat} {bytes : ByteArray} {ret : Option FieldType} {TL : List FieldType}
/-- who is called: the first argument is of a kind of the class -/
def j_Rc (KT : List qKD) (cl : List vw_C) (Cn : String) (n : Nat) (P : List jV → jS → jH → Prop) : Prop := ∀ a S V, P a S V → ∃ (b : Int) (as : List jV) (ci nn : Nat) (fts : List qFT) (Tt : u_T) (N : Nat), a = (2, b) :: as ∧ as.length = n ∧ S.1 b ≠ 0 ∧ KT[S.1 b]? = some (0, ci, nn, fts) ∧ cl[ci]? = some (Cn, Tt, N)
theorem j_rc_of (hK : va_K D cl tys (q_s C)) (hrc : j_Rc KT cl Cn n P) {a : List jV} {S : jS} {V : jH} {ad : Int → Nat} {H : Heap} {vs : List Value} (hP : P a S V) (h1 : j_hp KT D tys ad S V H) (h2 : j_stk ad S a vs) : ∃ (b : Nat) (As : List Value) (cell : Cell), vs = .ref b :: As ∧ As.length = n ∧ H[b]? = some cell ∧ cell.vm.isStatics = false ∧ (q_s C).vm.findClass Cn = some cell.cls := by
  obtain ⟨b, as, ci, nn, fts, Tt, N, rfl, e2, e3, e4, e5⟩ := hrc a S V hP
  obtain ⟨v, As, rfl, g1, g2⟩ := h2.cons
  have g3 := j_ref h1 e3 g1
  subst g3
  obtain ⟨-, d, cell, d1, d2, d3⟩ := h1.1 b e3
  cases e4.symm.trans d1
  exact ⟨ad b, As, cell, rfl, by rw [← g2.len]; exact e2, d2, by rw [d3.1]; rfl, by rw [d3.2.1]; exact (hK.1 ci _ e5).2.1⟩
theorem j_callV (hN : NW.all q_nwk = true) (hE : q_env D cl tys NW (q_s C)) (htl : tys.map Prod.snd = TL) (hM : j_Met C.2.1 cl TL NW KT y ws rm mc ms P Q) (hfx : q_Fx C cc nL Ts own) (cw : CallW C.2.2.2.1 (q_s C) (q_ar_ C) own Cn idx y bytes maxL ret ws rm mc ms n) (hrc : j_Rc KT cl Cn n P) : j_Call C cc KT D tys nL (.invokevirtual idx) mc ms P Q := by
  refine j_Call_run (fun pc H locs cells slots ls sk a S V ad vs hd hP h1 h2 hc hs hcat hls => ?_)
  obtain ⟨b, As, cell, rfl, g0, g1, g2, g3⟩ := j_rc_of hE.1 hrc hP h1 h2
  exact va_runV hfx (hM D tys htl a S V ad H.size (.ref b :: As) hP) cw ⟨j_Pc_blind hN, ⟨cell, g1, g2, g3⟩, fun U hU hW => ⟨rfl, by rw [hU], hE.warm hN hW, by rw [hU]; exact h1, h2⟩⟩ rfl g0 hls (by simp) (lv_room hcat) hd ⟨hc, hs⟩
theorem j_callVN (hN : NW.all q_nwk = true) (hE : q_env D cl tys NW (q_s C)) (htl : tys.map Prod.snd = TL) (hM : j_Met C.2.1 cl TL NW KT y ws rm mc ms P Q) (hfx : q_Fx C cc nL Ts own) (cw : va_CN C.2.2.2.1 (q_s C) (q_ar_ C) own idx y host bytes maxL ret ws rm mc ms n ∧ (Cond.instanceMethod y).before (q_ar_ C) (q_s C) = true ∧ (Cond.selects Cn y y).before (q_ar_ C) (q_s C) = true) (hrc : j_Rc KT cl Cn n P) : j_Call C cc KT D tys nL (.invokevirtual idx) mc ms P Q := by
  refine j_Call_run (fun pc H locs cells slots ls sk a S V ad vs hd hP h1 h2 hc hs hcat hls => ?_)
  obtain ⟨b, As, cell, rfl, g0, g1, g2, g3⟩ := j_rc_of hE.1 hrc hP h1 h2
  exact va_runVN hfx (hM D tys htl a S V ad H.size (.ref b :: As) hP) cw ⟨j_Pc_blind hN, ⟨cell, g1, g2, g3⟩, fun U hU hW => ⟨rfl, by rw [hU], hE.warm hN hW, by rw [hU]; exact h1, h2⟩⟩ rfl g0 hls (by simp) (lv_room hcat) hd ⟨hc, hs⟩
theorem j_callI (hN : NW.all q_nwk = true) (hE : q_env D cl tys NW (q_s C)) (htl : tys.map Prod.snd = TL) (hM : j_Met C.2.1 cl TL NW KT y ws rm mc ms P Q) (hfx : q_Fx C cc nL Ts own) (cw : CallB C.2.2.2.1 (q_s C) (q_ar_ C) own idx y bytes maxL none ws rm mc ms n ∧ y.name = "<init>" ∧ (Cond.instanceMethod y).before (q_ar_ C) (q_s C) = true) (hrc : j_Rc KT cl Cn n P) : j_Call C cc KT D tys nL (.invokespecial idx) mc ms P Q := by
  refine j_Call_run (fun pc H locs cells slots ls sk a S V ad vs hd hP h1 h2 hc hs hcat hls => ?_)
  obtain ⟨b, As, cell, rfl, g0, g1, g2, g3⟩ := j_rc_of hE.1 hrc hP h1 h2
  exact va_runI hfx (hM D tys htl a S V ad H.size (.ref b :: As) hP) cw ⟨j_Pc_blind hN, fun U hU hW => ⟨rfl, by rw [hU], hE.warm hN hW, by rw [hU]; exact h1, h2⟩⟩ rfl g0 hls (by simp) (lv_room hcat) hd ⟨hc, hs⟩
theorem j_callIN (hN : NW.all q_nwk = true) (hE : q_env D cl tys NW (q_s C)) (htl : tys.map Prod.snd = TL) (hM : j_Met C.2.1 cl TL NW KT y ws rm mc ms P Q) (hfx : q_Fx C cc nL Ts own) (cw : va_CN C.2.2.2.1 (q_s C) (q_ar_ C) own idx y host bytes maxL none ws rm mc ms n ∧ y.name = "<init>" ∧ (Cond.instanceMethod y).before (q_ar_ C) (q_s C) = true) (hrc : j_Rc KT cl Cn n P) : j_Call C cc KT D tys nL (.invokespecial idx) mc ms P Q := by
  refine j_Call_run (fun pc H locs cells slots ls sk a S V ad vs hd hP h1 h2 hc hs hcat hls => ?_)
  obtain ⟨b, As, cell, rfl, g0, g1, g2, g3⟩ := j_rc_of hE.1 hrc hP h1 h2
  exact va_runIN hfx (hM D tys htl a S V ad H.size (.ref b :: As) hP) cw ⟨j_Pc_blind hN, fun U hU hW => ⟨rfl, by rw [hU], hE.warm hN hW, by rw [hU]; exact h1, h2⟩⟩ rfl g0 hls (by simp) (lv_room hcat) hd ⟨hc, hs⟩
/-- a static one: so many arguments -/
def j_Ra (n : Nat) (P : List jV → jS → jH → Prop) : Prop := ∀ a S V, P a S V → a.length = n
theorem j_callS (hN : NW.all q_nwk = true) (hE : q_env D cl tys NW (q_s C)) (htl : tys.map Prod.snd = TL) (hM : j_Met C.2.1 cl TL NW KT y ws rm mc ms P Q) (hfx : q_Fx C cc nL Ts own) (cw : CallB C.2.2.2.1 (q_s C) (q_ar_ C) own idx y bytes maxL ret ws rm mc ms n ∧ (Cond.static y).before (q_ar_ C) (q_s C) = true) (hn : j_Ra n P) : j_Call C cc KT D tys nL (.invokestatic idx) mc ms P Q := by
  refine j_Call_run (fun pc H locs cells slots ls sk a S V ad vs hd hP h1 h2 hc hs hcat hls => ?_)
  exact va_runS hfx (hM D tys htl a S V ad H.size vs hP) cw ⟨j_Pc_blind hN, fun U hU hW => ⟨rfl, by rw [hU], hE.warm hN hW, by rw [hU]; exact h1, h2⟩⟩ rfl (by rw [← h2.len]; exact hn a S V hP) hls rfl (lv_room hcat) hd ⟨hc, hs⟩
theorem j_callSN (hN : NW.all q_nwk = true) (hE : q_env D cl tys NW (q_s C)) (htl : tys.map Prod.snd = TL) (hM : j_Met C.2.1 cl TL NW KT y ws rm mc ms P Q) (hfx : q_Fx C cc nL Ts own) (cw : va_CN C.2.2.2.1 (q_s C) (q_ar_ C) own idx y host bytes maxL ret ws rm mc ms n ∧ (Cond.static y).before (q_ar_ C) (q_s C) = true ∧ True) (hn : j_Ra n P) : j_Call C cc KT D tys nL (.invokestatic idx) mc ms P Q := by
  refine j_Call_run (fun pc H locs cells slots ls sk a S V ad vs hd hP h1 h2 hc hs hcat hls => ?_)
  exact va_runSN hfx (hM D tys htl a S V ad H.size vs hP) cw ⟨j_Pc_blind hN, fun U hU hW => ⟨rfl, by rw [hU], hE.warm hN hW, by rw [hU]; exact h1, h2⟩⟩ rfl (by rw [← h2.len]; exact hn a S V hP) hls rfl (lv_room hcat) hd ⟨hc, hs⟩
end JC
section JD
variable {KT : List qKD} {nL : Nat} {C : qCx} {G : jG} {cc : ByteArray} {pc : Nat} {lo : List (Nat × jV)} {sk : List jV} {S : jS} {V : jH} {nc ns : Nat}
theorem j_call {ins : Instr} {mc ms : Nat} {P : List jV → jS → jH → Prop} {Q : List jV → jS → jH → List jV → jS → jH → Prop} (E : j_E C cc G) (hC : j_Call C cc KT G.1 G.2.1 nL ins mc ms P Q) (hd : decode cc pc = .ok (ins, 3)) {a st : List jV} (hst : a.reverse ++ sk = st) (hP : P a S V) (hcat : (sk.map j_cat).sum ≤ 8) (hc : nc + mc ≤ C.2.2.2.1.cells) (hs : ns + ms ≤ C.2.2.2.1.slots)
    (h : ∀ (rs : List jV) (S' : jS) (V' : jH), Q a S V rs S' V' → j_ok KT nL C G (pc + 3) lo (rs ++ sk) S' V' (nc + mc) (ns + ms)) : j_ok KT nL C G pc lo st S V nc ns := by
  subst hst
  intro ad ls vs H locs h1 h2 h3 h4
  obtain ⟨c, d, rfl, g1, g2⟩ := h3.split
  have g1' := g1.rev
  rw [List.reverse_reverse] at g1'
  have hls : ls.size = nL := by obtain ⟨lv, l1, -⟩ := h2; exact l1.1
  have := hC pc H locs nc ns ls d a S V ad c.reverse hd hP h1 g1' hc hs (by rw [g2.cats]; exact hcat) hls (fun H' L rv hpost hL => ?_)
  · rw [List.reverse_reverse] at this
    exact this
  · obtain ⟨rs, S', V', ad', p1, p2, p3, p4, p5, p6, p7⟩ := hpost
    refine h rs S' V' p1 ad' ls (rv ++ d) H' (locs ++ L) p2 (h2.imp (fun _ _ => j_v.mono p4)) (p3.app (g2.imp (fun _ _ => j_v.mono p4))) ?_
    have hA : ∀ b : Int, S.1 b ≠ 0 → j_A G (ad b) := fun b hb => h4.A hb
    obtain ⟨⟨s1, s2, s3⟩, s4, s5⟩ := h4
    refine ⟨⟨Nat.le_trans s1 p5, fun q q1 q2 => ?_, fun q hq => ?_⟩, s4.tr p4, fun b hb => ?_⟩
    · rw [p6 q (Nat.lt_of_lt_of_le q1 s1) (fun b hb e => q2 (by rw [← e]; exact hA b hb))]
      exact s2 q q1 q2
    · rcases List.mem_append.mp hq with hq | hq
      · exact s3 q hq
      · rcases hL q hq with ⟨b, hb, e⟩ | hL
        · rw [← e]; exact hA b hb
        · exact Or.inr (Nat.le_trans s1 hL)
    · rcases p7 b hb with q | q
      · rcases s5 b q with z | z
        · exact Or.inl z
        · exact Or.inr (by rw [(p4 b q).1]; exact z)
      · exact Or.inr (Nat.le_trans s1 q)
theorem j_objInit {idx : Nat} (hF : q_Kob C cc nL idx) (hd : decode cc pc = .ok (.invokespecial idx, 3)) {a : Int} (ha : S.1 a ≠ 0) (hcat : (sk.map j_cat).sum ≤ 8) (h : j_ok KT nL C G (pc + 3) lo sk S V nc ns) : j_ok KT nL C G pc lo ((2, a) :: sk) S V nc ns := by
  intro ad ls vs H locs h1 h2 h3 h4
  obtain ⟨v, ws, rfl, e2, h3_1⟩ := h3.cons
  have hv := j_ref h1 ha e2
  subst hv
  have hls : ls.size = nL := by obtain ⟨lv, l1, -⟩ := h2; exact l1.1
  exact hF pc H locs nc ns ls ws (ad a) hd hls (by rw [h3_1.cats]; exact hcat) (h ad ls ws H locs h1 h2 h3_1 h4)
end JD
/-- a stretch of an array is laid into another -/
def j_cpy (V : jH) (src sp dst dp n : Int) : jH := fun b j => if b = dst ∧ dp ≤ j ∧ j < dp + n then V src (sp + (j - dp)) else V b j
def j_Kcp (C : qCx) (cc : ByteArray) (nL idx : Nat) : Prop := ∀ (pc : Nat) (H : Heap) (locs : List Loc) (cells slots : Nat) (ls : Array Slot) (sk : List Value) (a a0 : Nat) (c0 c1 : ClassId) (n0 n1 : Nat) (z0 z1 : Nat → Value) (n dp sp : Int32), decode cc pc = .ok (.invokestatic idx, 3) → ls.size = nL → (sk.map fun v => v.category).sum ≤ 8 → ArrOfT C.2.2.2.2.1 c0 .int → ArrOfT C.2.2.2.2.1 c1 .int → H[a0]? = some (arrV c0 n0 z0) → H[a]? = some (arrV c1 n1 z1) → 0 ≤ n.toInt → 0 ≤ dp.toInt → 0 ≤ sp.toInt → sp.toInt + n.toInt ≤ (n0 : Int) → dp.toInt + n.toInt ≤ (n1 : Int) → (∀ i : Nat, i < n0 → ∃ x : Int32, z0 i = .int x) →
  (∀ (H' : Heap) (L : List Loc), (∀ q ∈ L, q.base = a) → H'[a]? = some (arrV c1 n1 (va_cpy z0 z1 sp.toNatClampNeg dp.toNatClampNeg n.toNatClampNeg)) → H'.size = H.size → (∀ q, q ≠ a → H'[q]? = H[q]?) → q_W C H' (locs ++ L) cells slots (pc + 3) ls sk) → q_W C H locs cells slots pc ls (.int n :: .int dp :: .ref a :: .int sp :: .ref a0 :: sk)
section JE
variable {C : qCx} {cc : ByteArray} {nL idx : Nat} {own : String}
theorem j_Kcp_of (hm : q_mc C cc) (hml : C.2.2.2.2.2.2.2.2.2.1.maxLocals = nL) (ho : q_ow C own) (hlink : (Cond.methodLink own idx arraycopyName).before (q_ar_ C) (q_s C) = true) (hnat : (Cond.native arraycopyName).before (q_ar_ C) (q_s C) = true) (hstat : (Cond.static arraycopyName).before (q_ar_ C) (q_s C) = true) (hini : (Cond.initialized "java/lang/System").before (q_ar_ C) (q_s C) = true) (hR : 1 ≤ C.2.2.2.1.frames ∧ 8 + (nativeFrameWords "java/lang/System" "arraycopy" 5 + 11) ≤ C.2.2.2.1.locals) : j_Kcp C cc nL idx := by
  intro pc H locs cells slots ls sk a a0 c0 c1 n0 n1 z0 z1 n dp sp hd hls hcat hA0 hA1 hc0 hc1 hn hdp hsp h4 h5 hz k
  have neg : ∀ z : Int32, 0 ≤ z.toInt → ¬ z < 0 := fun z hz q => by
    rw [Int32.lt_iff_toInt_lt] at q
    have : ¬ z.toInt < (0 : Int32).toInt := by show ¬ z.toInt < 0; omega
    exact this q
  have nn : ∀ z : Int32, 0 ≤ z.toInt → z.toInt = (z.toNatClampNeg : Int) := fun z hz => by
    show z.toInt = ((z.toInt.toNat : Nat) : Int)
    omega
  have en := nn n hn
  have edp := nn dp hdp
  have esp := nn sp hsp
  intro T hT X
  obtain ⟨-, k0, hk0, cm0, hkk0⟩ := hA0 n0 z0
  obtain ⟨-, k1, hk1, cm1, hkk1⟩ := hA1 n1 z1
  obtain ⟨vm', X', step⟩ := X.arraycopy hm.1 ho hlink hnat hstat hini (src := a0) (dst := a) (cs := arrV c0 n0 z0) (cd := arrV c1 n1 z1) (srcPos := sp) (destPos := dp) (n := n) (by rw [hT]; exact hc0) (by rw [hT]; exact hc1)
    (fun _ h => by cases h) (fun _ h => by cases h) (fun h => by cases h) (fun h => by cases h) hk0 hk1 hkk0 hkk1 (by decide) (neg sp hsp) (neg dp hdp) (neg n hn)
    (by rw [arrV_size]; omega) (by rw [arrV_size]; omega)
    (fun vm₁ _ i hi => by
      have e : (arrV c0 n0 z0).slots.getD (sp.toNatClampNeg + i) .null = z0 (sp.toNatClampNeg + i) := by
        rw [Array.getD_eq_getD_getElem?, arrV_read _ _ (by omega)]
        rfl
      obtain ⟨x, hx⟩ := hz (sp.toNatClampNeg + i) (by omega)
      rw [e, hx]
      exact ⟨rfl, trivial⟩)
    (g := F0 C.2.2.2.2.2.1 pc ls (.int n :: .int dp :: .ref a :: .int sp :: .ref a0 :: sk)) rfl (by show ls.size = _; rw [hls, hml]) (rest := sk) rfl (by rw [hm.2]; exact hd) hR.1 (by show 2 * 0 + _ + _ ≤ _; omega)
  have e1 : copied (arrV c0 n0 z0) (arrV c1 n1 z1) sp dp n = arrV c1 n1 (va_cpy z0 z1 sp.toNatClampNeg dp.toNatClampNeg n.toNatClampNeg) := va_copied (fun z => z) c0 c1 z0 z1 (by omega)
  rw [e1] at X' step
  have hl : a < H.size := (Array.getElem?_eq_some_iff.mp hc1).1
  have hheap : ((T.setVm vm').setCell a (arrV c1 n1 (va_cpy z0 z1 sp.toNatClampNeg dp.toNatClampNeg n.toNatClampNeg))).heap = H.setIfInBounds a (arrV c1 n1 (va_cpy z0 z1 sp.toNatClampNeg dp.toNatClampNeg n.toNatClampNeg)) := by rw [← hT]; rfl
  obtain ⟨t, a1, b1⟩ := k _ _ (fun q hq => by obtain ⟨z, -, hz⟩ := List.mem_map.mp hq; rw [← hz]) (show (H.setIfInBounds a _)[a]? = some _ by simp [Array.getElem?_setIfInBounds, hl]) (by simp) (fun q hq => by simp [Array.getElem?_setIfInBounds, Ne.symm hq]) _ hheap X'
  exact ⟨t, step t a1, b1⟩
variable {KT : List qKD} {G : jG} {pc : Nat} {lo : List (Nat × jV)} {sk : List jV} {S : jS} {V : jH} {nc ns : Nat}
theorem j_copy {k0 k1 t0 t1 n0 n1 z0 z1 : Nat} {l0 u0 src sp dst dp n : Int} (E : j_E C cc G) (hF : j_Kcp C cc nL idx) (hd : decode cc pc = .ok (.invokestatic idx, 3)) (h0 : S.1 src = k0) (h00 : k0 ≠ 0) (hK0 : KT[k0]? = some (1, t0, n0, [(0, z0, l0, u0)])) (h1 : S.1 dst = k1) (h10 : k1 ≠ 0) (hK1 : KT[k1]? = some (1, t1, n1, [(0, z1, -2147483648, 2147483647)])) (hn : 0 ≤ n) (hsp : 0 ≤ sp) (hdp : 0 ≤ dp) (hs : sp + n ≤ (n0 : Int)) (hdd : dp + n ≤ (n1 : Int)) (hcat : (sk.map j_cat).sum ≤ 8)
    (h : j_ok KT nL C G (pc + 3) lo sk S (j_cpy V src sp dst dp n) nc ns) : j_ok KT nL C G pc lo ((0, n) :: (0, dp) :: (2, dst) :: (0, sp) :: (2, src) :: sk) S V nc ns := by
  intro ad ls vs H locs g1 g2 g3 g4
  obtain ⟨v0, vs0, rfl, ⟨xn, rfl, en⟩, g3_1⟩ := g3.cons
  obtain ⟨v1, vs1, rfl, ⟨xd, rfl, ed⟩, g3_2⟩ := g3_1.cons
  obtain ⟨v2, vs2, rfl, ea, g3_3⟩ := g3_2.cons
  obtain ⟨v3, vs3, rfl, ⟨xs, rfl, es⟩, g3_4⟩ := g3_3.cons
  obtain ⟨v4, vs, rfl, ea0, g3_5⟩ := g3_4.cons
  have en : xn.toInt = n := en
  have ed : xd.toInt = dp := ed
  have es : xs.toInt = sp := es
  have hsrc : S.1 src ≠ 0 := by rw [h0]; exact h00
  have hdst : S.1 dst ≠ 0 := by rw [h1]; exact h10
  have q := j_ref g1 hdst ea
  subst q
  have q := j_ref g1 hsrc ea0
  subst q
  obtain ⟨-, d, cell, d1, d2, d3⟩ := g1.1 dst hdst
  have d1' := d1
  rw [h1] at d1
  cases hK1.symm.trans d1
  obtain ⟨cA, ty, z, p1, p2, rfl, p4⟩ := d3
  obtain ⟨-, d', cell', d1'', d2', d3'⟩ := g1.1 src hsrc
  rw [h0] at d1''
  cases hK0.symm.trans d1''
  obtain ⟨cA', ty', z', p1', p2', rfl, p4'⟩ := d3'
  cases (show ty = .int from p2)
  cases (show ty' = .int from p2')
  have hls : ls.size = nL := by obtain ⟨lv, l1, -⟩ := g2; exact l1.1
  refine hF pc H locs nc ns ls vs (ad dst) (ad src) cA' cA n0 n1 z' z xn xd xs hd hls (by rw [g3_5.cats]; exact hcat) (E.2 _ _ p1') (E.2 _ _ p1) d2' d2 (by omega) (by omega) (by omega) (by omega) (by omega) (fun i hi => by
    obtain ⟨y, hy, -⟩ := p4' i hi _ (List.mem_singleton.mpr rfl)
    exact ⟨y, hy⟩) (fun H' L hL e1 e2 e3 => ?_)
  have nn : ∀ z : Int32, 0 ≤ z.toInt → z.toInt = (z.toNatClampNeg : Int) := fun z hz => by
    show z.toInt = ((z.toInt.toNat : Nat) : Int)
    omega
  have fn := nn xn (by omega)
  have fd := nn xd (by omega)
  have fs := nn xs (by omega)
  refine h ad ls vs H' _ (g1.set hdst d1' (fun b hb => by funext j; simp [j_cpy, hb]) rfl (fun _ _ => rfl) e1 ?_ e3) g2 g3_5 ?_
  · refine ⟨cA, .int, _, p1, rfl, rfl, fun j hj ft hft => ?_⟩
    rw [List.mem_singleton.mp hft]
    show j_ft ad S (0, z1, -2147483648, 2147483647) (j_cpy V src sp dst dp n dst (j : Int)) (va_cpy z' z xs.toNatClampNeg xd.toNatClampNeg xn.toNatClampNeg j)
    unfold va_cpy j_cpy
    by_cases hjj : xd.toNatClampNeg ≤ j ∧ j < xd.toNatClampNeg + xn.toNatClampNeg
    · rw [if_pos hjj, if_pos ⟨rfl, by omega, by omega⟩]
      obtain ⟨y, y1, y2, -⟩ := p4' (xs.toNatClampNeg + (j - xd.toNatClampNeg)) (by show _ < n0; omega) _ (List.mem_singleton.mpr rfl)
      have y2 : y.toInt = V src ((xs.toNatClampNeg + (j - xd.toNatClampNeg) : Nat) : Int) := y2
      have e4 : ((xs.toNatClampNeg + (j - xd.toNatClampNeg) : Nat) : Int) = sp + ((j : Int) - dp) := by omega
      rw [e4] at y2
      have := q_min y
      have := q_max y
      exact ⟨y, y1, y2, by show -2147483648 ≤ _; omega, by show _ ≤ 2147483647; omega⟩
    · rw [if_neg hjj, if_neg (fun q => hjj (by omega))]
      exact p4 j hj _ (List.mem_singleton.mpr rfl)
  · have hA := g4.A hdst
    obtain ⟨⟨s1, s2, s3⟩, s4⟩ := g4
    refine ⟨⟨by rw [e2]; exact s1, fun q q1 q2 => (e3 q (fun e => q2 (by rw [e]; exact hA))).trans (s2 q q1 q2), fun q hq => ?_⟩, s4⟩
    rcases List.mem_append.mp hq with hq | hq
    · exact s3 q hq
    · rw [hL q hq]; exact hA
end JE
