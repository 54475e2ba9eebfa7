/- BalanceCoder$Steps.<init>()V -/
abbrev b_9_1 : ByteArray := prog_9_method_1_code
def y_9_1 : MethodName := ⟨"BalanceCoder$Steps", "<init>", "()V"⟩
abbrev x9_1 (C : qCx) (G : jG) : Prop := n_ctx C b_9_1 1 "BalanceCoder$Steps" G.1 G.2.1
def M9_1 (l : Launch) (mc ms : Nat) (p : Int → jS → jH → Prop) (q : Int → jS → jH → jS → jH → Prop) : Prop := j_Met l vwCl n_TL n_NW n_KT y_9_1 (Cond.code y_9_1 b_9_1 1 none :: n_GW) { frames := 1, cells := mc, slots := ms, locals := 26 } mc ms (fun a S V => ∃ u0 : Int, a = [(2, u0)] ∧ S.1 u0 = 28 ∧ p u0 S V) (fun a S V rs S' V' => ∃ u0 : Int, a = [(2, u0)] ∧ rs = [] ∧ q u0 S V S' V')
theorem e9_1 {l : Launch} {mc ms : Nat} {p : Int → jS → jH → Prop} {q : Int → jS → jH → jS → jH → Prop} (body : ∀ (C : qCx) (G : jG), x9_1 C G → C.2.2.2.1.frames = 1 ∧ C.2.2.2.1.locals = 26 → C.2.2.2.1.cells = mc ∧ C.2.2.2.1.slots = ms → C.2.1 = l → C.2.2.2.2.2.2.2.2.1.name = "<init>" → ∀ (u0 : Int) (S : jS) (V : jH), S.1 u0 = 28 → p u0 S V → j_Rv n_KT 1 C G b_9_1 mc ms (q u0 S V) → j_ok n_KT 1 C G 0 [(0, (2, u0))] [] S V 0 0) : M9_1 l mc ms p q := by
  refine j_method (ws' := n_GW) (by decide) rfl ?_ ?_
  · rintro a S V ⟨u0, rfl, -⟩
    exact Nat.le_of_ble_eq_true rfl
  · rintro C G htl hl hrm hm hml ho hts hnm hE a S V ⟨u0, rfl, ht, hp⟩ R
    exact body C G ⟨htl, hm, hml, ho, fun w hw => hts w (List.mem_cons_of_mem _ hw), hE⟩ (by rw [hrm]; exact ⟨rfl, rfl⟩) (by rw [hrm]; exact ⟨rfl, rfl⟩) hl hnm u0 S V ht hp (fun pc lo S' V' nc ns d q hc hs => R.1 rfl pc lo S' V' nc ns d ⟨u0, rfl, rfl, q⟩ hc hs)
theorem d9_1_0 : decode b_9_1 0 = .ok (.aload_n 0, 1) := by decide +kernel
theorem d9_1_1 : decode b_9_1 1 = .ok (.invokespecial 3, 3) := by decide +kernel
theorem d9_1_4 : decode b_9_1 4 = .ok (.aload_n 0, 1) := by decide +kernel
theorem d9_1_5 : decode b_9_1 5 = .ok (.sipush 400, 3) := by decide +kernel
theorem d9_1_8 : decode b_9_1 8 = .ok (.newarray .int, 2) := by decide +kernel
theorem d9_1_10 : decode b_9_1 10 = .ok (.putfield 9, 3) := by decide +kernel
theorem d9_1_13 : decode b_9_1 13 = .ok (.aload_n 0, 1) := by decide +kernel
theorem d9_1_14 : decode b_9_1 14 = .ok (.sipush 400, 3) := by decide +kernel
theorem d9_1_17 : decode b_9_1 17 = .ok (.newarray .int, 2) := by decide +kernel
theorem d9_1_19 : decode b_9_1 19 = .ok (.putfield 15, 3) := by decide +kernel
theorem d9_1_22 : decode b_9_1 22 = .ok (.aload_n 0, 1) := by decide +kernel
theorem d9_1_23 : decode b_9_1 23 = .ok (.sipush 400, 3) := by decide +kernel
theorem d9_1_26 : decode b_9_1 26 = .ok (.newarray .int, 2) := by decide +kernel
theorem d9_1_28 : decode b_9_1 28 = .ok (.putfield 18, 3) := by decide +kernel
theorem d9_1_31 : decode b_9_1 31 = .ok (.aload_n 0, 1) := by decide +kernel
theorem d9_1_32 : decode b_9_1 32 = .ok (.sipush 400, 3) := by decide +kernel
theorem d9_1_35 : decode b_9_1 35 = .ok (.newarray .int, 2) := by decide +kernel
theorem d9_1_37 : decode b_9_1 37 = .ok (.putfield 21, 3) := by decide +kernel
theorem d9_1_40 : decode b_9_1 40 = .ok (.aload_n 0, 1) := by decide +kernel
theorem d9_1_41 : decode b_9_1 41 = .ok (.sipush 400, 3) := by decide +kernel
theorem d9_1_44 : decode b_9_1 44 = .ok (.newarray .int, 2) := by decide +kernel
theorem d9_1_46 : decode b_9_1 46 = .ok (.putfield 24, 3) := by decide +kernel
theorem d9_1_49 : decode b_9_1 49 = .ok (.aload_n 0, 1) := by decide +kernel
theorem d9_1_50 : decode b_9_1 50 = .ok (.iconst 0, 1) := by decide +kernel
theorem d9_1_51 : decode b_9_1 51 = .ok (.putfield 27, 3) := by decide +kernel
theorem d9_1_54 : decode b_9_1 54 = .ok (.return_, 1) := by decide +kernel
theorem t9_1_0 {C : qCx} {G : jG} {S : jS} {V : jH} {nc ns : Nat} {l0 a1 a2 a3 a4 a5 : Int} {mc ms : Nat} {qf : jS → jH → Prop} (h : x9_1 C G) (hR : 1 ≤ C.2.2.2.1.frames ∧ 26 ≤ C.2.2.2.1.locals) (hin : C.2.2.2.2.2.2.2.2.1.name = "<init>") (c1 : S.1 l0 = 28) (c2 : 0 ≤ a1) (c3 : S.1 a1 = 0) (c4 : nc + 1 ≤ C.2.2.2.1.cells) (c5 : ns + 400 ≤ C.2.2.2.1.slots) (c6 : 0 ≤ a2) (c7 : (j_sp (j_ns S a1 1) l0 0 a1).1 a2 = 0) (c8 : nc + 1 + 1 ≤ C.2.2.2.1.cells) (c9 : ns + 400 + 400 ≤ C.2.2.2.1.slots) (c10 : 0 ≤ a3) (c11 : (j_sp (j_ns (j_sp (j_ns S a1 1) l0 0 a1) a2 1) l0 1 a2).1 a3 = 0) (c12 : nc + 1 + 1 + 1 ≤ C.2.2.2.1.cells) (c13 : ns + 400 + 400 + 400 ≤ C.2.2.2.1.slots) (c14 : 0 ≤ a4) (c15 : (j_sp (j_ns (j_sp (j_ns (j_sp (j_ns S a1 1) l0 0 a1) a2 1) l0 1 a2) a3 1) l0 2 a3).1 a4 = 0) (c16 : nc + 1 + 1 + 1 + 1 ≤ C.2.2.2.1.cells) (c17 : ns + 400 + 400 + 400 + 400 ≤ C.2.2.2.1.slots) (c18 : 0 ≤ a5) (c19 : (j_sp (j_ns (j_sp (j_ns (j_sp (j_ns (j_sp (j_ns S a1 1) l0 0 a1) a2 1) l0 1 a2) a3 1) l0 2 a3) a4 1) l0 3 a4).1 a5 = 0) (c20 : nc + 1 + 1 + 1 + 1 + 1 ≤ C.2.2.2.1.cells) (c21 : ns + 400 + 400 + 400 + 400 + 400 ≤ C.2.2.2.1.slots) (R : j_Rv n_KT 1 C G b_9_1 mc ms qf) (q : qf (j_sp (j_ns (j_sp (j_ns (j_sp (j_ns (j_sp (j_ns (j_sp (j_ns S a1 1) l0 0 a1) a2 1) l0 1 a2) a3 1) l0 2 a3) a4 1) l0 3 a4) a5 1) l0 4 a5) (j_up (j_nv (j_nv (j_nv (j_nv (j_nv V a1) a2) a3) a4) a5) l0 5 0)) (hc : nc + 1 + 1 + 1 + 1 + 1 ≤ mc) (hs : ns + 400 + 400 + 400 + 400 + 400 ≤ ms) : j_ok n_KT 1 C G 0 [(0, (2, l0))] [] S V nc ns := by
  have E := n_E h
  refine j_aload_n E d9_1_0 rfl 0 rfl ?_
  refine j_objInit (fo7_3 h ⟨hR.1, by omega⟩) d9_1_1 (by rw [c1]; decide) (Nat.le_of_ble_eq_true rfl) ?_
  refine j_aload_n E d9_1_4 rfl 0 rfl ?_
  refine j_sipush E d9_1_5 (by decide) ?_
  obtain ⟨cA1, hA1, hB1⟩ := fa_int h
  refine j_newarray (n := 400) (k := 1) E hA1 hB1 d9_1_8 a1 c2 c3 (by decide) rfl rfl rfl rfl (by decide) c4 c5 ?_
  refine j_putR (f := 0) (fp7_9 h hin) (n_hap h 28 7 0 _ rfl) d9_1_10 (j_nsk c3 c1 (by decide)) (by decide) rfl rfl rfl (by decide) (Or.inr (j_nsa _ _ _)) ?_
  refine j_aload_n E d9_1_13 rfl 0 rfl ?_
  refine j_sipush E d9_1_14 (by decide) ?_
  obtain ⟨cA2, hA2, hB2⟩ := fa_int h
  refine j_newarray (n := 400) (k := 1) E hA2 hB2 d9_1_17 a2 c6 c7 (by decide) rfl rfl rfl rfl (by decide) c8 c9 ?_
  refine j_putR (f := 1) (fp7_15 h hin) (n_hap h 28 7 0 _ rfl) d9_1_19 (j_nsk c7 (j_nsk c3 c1 (by decide)) (by decide)) (by decide) rfl rfl rfl (by decide) (Or.inr (j_nsa _ _ _)) ?_
  refine j_aload_n E d9_1_22 rfl 0 rfl ?_
  refine j_sipush E d9_1_23 (by decide) ?_
  obtain ⟨cA3, hA3, hB3⟩ := fa_int h
  refine j_newarray (n := 400) (k := 1) E hA3 hB3 d9_1_26 a3 c10 c11 (by decide) rfl rfl rfl rfl (by decide) c12 c13 ?_
  refine j_putR (f := 2) (fp7_18 h hin) (n_hap h 28 7 0 _ rfl) d9_1_28 (j_nsk c11 (j_nsk c7 (j_nsk c3 c1 (by decide)) (by decide)) (by decide)) (by decide) rfl rfl rfl (by decide) (Or.inr (j_nsa _ _ _)) ?_
  refine j_aload_n E d9_1_31 rfl 0 rfl ?_
  refine j_sipush E d9_1_32 (by decide) ?_
  obtain ⟨cA4, hA4, hB4⟩ := fa_int h
  refine j_newarray (n := 400) (k := 1) E hA4 hB4 d9_1_35 a4 c14 c15 (by decide) rfl rfl rfl rfl (by decide) c16 c17 ?_
  refine j_putR (f := 3) (fp7_21 h hin) (n_hap h 28 7 0 _ rfl) d9_1_37 (j_nsk c15 (j_nsk c11 (j_nsk c7 (j_nsk c3 c1 (by decide)) (by decide)) (by decide)) (by decide)) (by decide) rfl rfl rfl (by decide) (Or.inr (j_nsa _ _ _)) ?_
  refine j_aload_n E d9_1_40 rfl 0 rfl ?_
  refine j_sipush E d9_1_41 (by decide) ?_
  obtain ⟨cA5, hA5, hB5⟩ := fa_int h
  refine j_newarray (n := 400) (k := 1) E hA5 hB5 d9_1_44 a5 c18 c19 (by decide) rfl rfl rfl rfl (by decide) c20 c21 ?_
  refine j_putR (f := 4) (fp7_24 h hin) (n_hap h 28 7 0 _ rfl) d9_1_46 (j_nsk c19 (j_nsk c15 (j_nsk c11 (j_nsk c7 (j_nsk c3 c1 (by decide)) (by decide)) (by decide)) (by decide)) (by decide)) (by decide) rfl rfl rfl (by decide) (Or.inr (j_nsa _ _ _)) ?_
  refine j_aload_n E d9_1_49 rfl 0 rfl ?_
  refine j_iconst E d9_1_50 (by decide) ?_
  refine j_putI (f := 5) (fp7_27 h) (n_hap h 28 7 0 _ rfl) d9_1_51 (j_nsk c19 (j_nsk c15 (j_nsk c11 (j_nsk c7 (j_nsk c3 c1 (by decide)) (by decide)) (by decide)) (by decide)) (by decide)) (by decide) rfl rfl rfl ?_
  exact R _ _ _ _ _ _ d9_1_54 q hc hs
/- BalanceCoder$Block.<init>()V -/
abbrev b_3_1 : ByteArray := prog_3_method_1_code
def y_3_1 : MethodName := ⟨"BalanceCoder$Block", "<init>", "()V"⟩
abbrev x3_1 (C : qCx) (G : jG) : Prop := n_ctx C b_3_1 1 "BalanceCoder$Block" G.1 G.2.1
def M3_1 (l : Launch) (mc ms : Nat) (p : Int → jS → jH → Prop) (q : Int → jS → jH → jS → jH → Prop) : Prop := j_Met l vwCl n_TL n_NW n_KT y_3_1 (Cond.code y_3_1 b_3_1 1 none :: n_GW) { frames := 2, cells := mc, slots := ms, locals := 46 } mc ms (fun a S V => ∃ u0 : Int, a = [(2, u0)] ∧ S.1 u0 = 22 ∧ p u0 S V) (fun a S V rs S' V' => ∃ u0 : Int, a = [(2, u0)] ∧ rs = [] ∧ q u0 S V S' V')
theorem e3_1 {l : Launch} {mc ms : Nat} {p : Int → jS → jH → Prop} {q : Int → jS → jH → jS → jH → Prop} (body : ∀ (C : qCx) (G : jG), x3_1 C G → C.2.2.2.1.frames = 2 ∧ C.2.2.2.1.locals = 46 → C.2.2.2.1.cells = mc ∧ C.2.2.2.1.slots = ms → C.2.1 = l → C.2.2.2.2.2.2.2.2.1.name = "<init>" → ∀ (u0 : Int) (S : jS) (V : jH), S.1 u0 = 22 → p u0 S V → j_Rv n_KT 1 C G b_3_1 mc ms (q u0 S V) → j_ok n_KT 1 C G 0 [(0, (2, u0))] [] S V 0 0) : M3_1 l mc ms p q := by
  refine j_method (ws' := n_GW) (by decide) rfl ?_ ?_
  · rintro a S V ⟨u0, rfl, -⟩
    exact Nat.le_of_ble_eq_true rfl
  · rintro C G htl hl hrm hm hml ho hts hnm hE a S V ⟨u0, rfl, ht, hp⟩ R
    exact body C G ⟨htl, hm, hml, ho, fun w hw => hts w (List.mem_cons_of_mem _ hw), hE⟩ (by rw [hrm]; exact ⟨rfl, rfl⟩) (by rw [hrm]; exact ⟨rfl, rfl⟩) hl hnm u0 S V ht hp (fun pc lo S' V' nc ns d q hc hs => R.1 rfl pc lo S' V' nc ns d ⟨u0, rfl, rfl, q⟩ hc hs)
theorem d3_1_0 : decode b_3_1 0 = .ok (.aload_n 0, 1) := by decide +kernel
theorem d3_1_1 : decode b_3_1 1 = .ok (.invokespecial 3, 3) := by decide +kernel
theorem d3_1_4 : decode b_3_1 4 = .ok (.aload_n 0, 1) := by decide +kernel
theorem d3_1_5 : decode b_3_1 5 = .ok (.sipush 4400, 3) := by decide +kernel
theorem d3_1_8 : decode b_3_1 8 = .ok (.newarray .int, 2) := by decide +kernel
theorem d3_1_10 : decode b_3_1 10 = .ok (.putfield 9, 3) := by decide +kernel
theorem d3_1_13 : decode b_3_1 13 = .ok (.aload_n 0, 1) := by decide +kernel
theorem d3_1_14 : decode b_3_1 14 = .ok (.iconst 0, 1) := by decide +kernel
theorem d3_1_15 : decode b_3_1 15 = .ok (.putfield 15, 3) := by decide +kernel
theorem d3_1_18 : decode b_3_1 18 = .ok (.aload_n 0, 1) := by decide +kernel
theorem d3_1_19 : decode b_3_1 19 = .ok (.iconst 0, 1) := by decide +kernel
theorem d3_1_20 : decode b_3_1 20 = .ok (.putfield 19, 3) := by decide +kernel
theorem d3_1_23 : decode b_3_1 23 = .ok (.aload_n 0, 1) := by decide +kernel
theorem d3_1_24 : decode b_3_1 24 = .ok (.new 23, 3) := by decide +kernel
theorem d3_1_27 : decode b_3_1 27 = .ok (.dup, 1) := by decide +kernel
theorem d3_1_28 : decode b_3_1 28 = .ok (.invokespecial 25, 3) := by decide +kernel
theorem d3_1_31 : decode b_3_1 31 = .ok (.putfield 26, 3) := by decide +kernel
theorem d3_1_34 : decode b_3_1 34 = .ok (.aload_n 0, 1) := by decide +kernel
theorem d3_1_35 : decode b_3_1 35 = .ok (.iconst 0, 1) := by decide +kernel
theorem d3_1_36 : decode b_3_1 36 = .ok (.putfield 30, 3) := by decide +kernel
theorem d3_1_39 : decode b_3_1 39 = .ok (.return_, 1) := by decide +kernel
theorem K3_1_28 {C : qCx} {G : jG} {mc ms : Nat} {p : Int → jS → jH → Prop} {q : Int → jS → jH → jS → jH → Prop} (h : x3_1 C G) (hrm : C.2.2.2.1.frames = 2 ∧ C.2.2.2.1.locals = 46) (hM : M9_1 C.2.1 mc ms p q) : j_Call C b_3_1 n_KT G.1 G.2.1 1 (.invokespecial 25) mc ms (fun a S V => ∃ u0 : Int, a = [(2, u0)] ∧ S.1 u0 = 28 ∧ p u0 S V) (fun a S V rs S' V' => ∃ u0 : Int, a = [(2, u0)] ∧ rs = [] ∧ q u0 S V S' V') := j_callIN n_NWk h.2.2.2.2.2 h.1 hM ⟨h.2.1.1, h.2.1.2, h.2.2.1, h.2.2.2.1, h.2.2.2.2.1⟩ ⟨n_CN (y := y_9_1) (bytes := b_9_1) 0 h.2.2.2.2.1 n_w45 (h.2.2.2.2.2.2 _ (List.mem_of_getElem? (i := 0) rfl)) n_w4 ⟨by decide, by decide, by decide +kernel⟩ rfl rfl ⟨by rw [hrm.1]; exact Nat.le_of_ble_eq_true rfl, by rw [hrm.2]; exact Nat.le_of_ble_eq_true rfl⟩, rfl, h.2.2.2.2.1 _ n_w44⟩ (Cn := RX7) (fun a S V hP => by obtain ⟨u0, rfl, e, -⟩ := hP; exact ⟨u0, _, 7, _, _, TX7, 6, rfl, rfl, by rw [e]; decide, by rw [e]; rfl, rfl⟩)
theorem t3_1_0 {C : qCx} {G : jG} {S : jS} {V : jH} {nc ns : Nat} {l0 a1 a2 : Int} {mc ms : Nat} {pp : Int → jS → jH → Prop} {qq : Int → jS → jH → jS → jH → Prop} (h : x3_1 C G) (hrm : C.2.2.2.1.frames = 2 ∧ C.2.2.2.1.locals = 46) (hR : 1 ≤ C.2.2.2.1.frames ∧ 26 ≤ C.2.2.2.1.locals) (hin : C.2.2.2.2.2.2.2.2.1.name = "<init>") (c1 : S.1 l0 = 22) (c2 : 0 ≤ a1) (c3 : S.1 a1 = 0) (c4 : nc + 1 ≤ C.2.2.2.1.cells) (c5 : ns + 4400 ≤ C.2.2.2.1.slots) (c6 : 0 ≤ a2) (c7 : (j_sp (j_ns S a1 6) l0 0 a1).1 a2 = 0) (c8 : nc + 1 + 1 ≤ C.2.2.2.1.cells) (c9 : ns + 4400 + 6 ≤ C.2.2.2.1.slots) (hM : M9_1 C.2.1 mc ms pp qq) (hp : pp a2 (j_ns (j_sp (j_ns S a1 6) l0 0 a1) a2 28) (j_nv (j_up (j_up (j_nv V a1) l0 1 0) l0 2 0) a2)) (hc : (nc + 1 + 1) + mc ≤ C.2.2.2.1.cells) (hs : (ns + 4400 + 6) + ms ≤ C.2.2.2.1.slots) (k : ∀ (S' : jS) (V' : jH), qq a2 (j_ns (j_sp (j_ns S a1 6) l0 0 a1) a2 28) (j_nv (j_up (j_up (j_nv V a1) l0 1 0) l0 2 0) a2) S' V' → j_ok n_KT 1 C G 31 [(0, (2, l0))] [(2, a2), (2, l0)] S' V' ((nc + 1 + 1) + mc) ((ns + 4400 + 6) + ms)) : j_ok n_KT 1 C G 0 [(0, (2, l0))] [] S V nc ns := by
  have E := n_E h
  refine j_aload_n E d3_1_0 rfl 0 rfl ?_
  refine j_objInit (fo1_3 h ⟨hR.1, by omega⟩) d3_1_1 (by rw [c1]; decide) (Nat.le_of_ble_eq_true rfl) ?_
  refine j_aload_n E d3_1_4 rfl 0 rfl ?_
  refine j_sipush E d3_1_5 (by decide) ?_
  obtain ⟨cA1, hA1, hB1⟩ := fa_int h
  refine j_newarray (n := 4400) (k := 6) E hA1 hB1 d3_1_8 a1 c2 c3 (by decide) rfl rfl rfl rfl (by decide) c4 c5 ?_
  refine j_putR (f := 0) (fp1_9 h hin) (n_hap h 22 1 0 _ rfl) d3_1_10 (j_nsk c3 c1 (by decide)) (by decide) rfl rfl rfl (by decide) (Or.inr (j_nsa _ _ _)) ?_
  refine j_aload_n E d3_1_13 rfl 0 rfl ?_
  refine j_iconst E d3_1_14 (by decide) ?_
  refine j_putI (f := 1) (fp1_15 h) (n_hap h 22 1 0 _ rfl) d3_1_15 (j_nsk c3 c1 (by decide)) (by decide) rfl rfl rfl ?_
  refine j_aload_n E d3_1_18 rfl 0 rfl ?_
  refine j_iconst E d3_1_19 (by decide) ?_
  refine j_putZ (f := 2) (fp1_19 h) (n_hap h 22 1 0 _ rfl) d3_1_20 (j_nsk c3 c1 (by decide)) (by decide) rfl rfl rfl (by decide) ?_
  refine j_aload_n E d3_1_23 rfl 0 rfl ?_
  refine j_new (k := 28) E (fn1_23 h) d3_1_24 a2 c6 c7 (by decide) rfl (by decide) (by decide) (by decide) c8 c9 ?_
  refine j_dup E d3_1_27 rfl ?_
  refine j_call E (K3_1_28 h hrm hM) d3_1_28 (a := [(2, a2)]) (sk := [(2, a2), (2, l0)]) rfl ⟨a2, rfl, (j_nsa _ _ _), hp⟩ (Nat.le_of_ble_eq_true rfl) hc hs ?_
  rintro rs S' V' ⟨z0, e1, rfl, q⟩
  simp only [List.cons.injEq, Prod.mk.injEq, and_true, true_and] at e1
  obtain ⟨rfl⟩ := e1
  exact j_pick [0] rfl (k S' V' q)
theorem t3_1_31 {C : qCx} {G : jG} {S : jS} {V : jH} {nc ns : Nat} {l0 s0 s1 : Int} {mc ms : Nat} {qf : jS → jH → Prop} (h : x3_1 C G) (hin : C.2.2.2.2.2.2.2.2.1.name = "<init>") (c1 : S.1 s1 = 22) (c2 : S.1 s0 = 28) (c3 : (j_sp S s1 3 s0).1 l0 = 22) (R : j_Rv n_KT 1 C G b_3_1 mc ms qf) (q : qf (j_sp S s1 3 s0) (j_up V l0 4 0)) (hc : nc ≤ mc) (hs : ns ≤ ms) : j_ok n_KT 1 C G 31 [(0, (2, l0))] [(2, s0), (2, s1)] S V nc ns := by
  have E := n_E h
  refine j_putR (f := 3) (fp1_26 h hin) (n_hap h 22 1 0 _ rfl) d3_1_31 c1 (by decide) rfl rfl rfl (by decide) (Or.inr c2) ?_
  refine j_aload_n E d3_1_34 rfl 0 rfl ?_
  refine j_iconst E d3_1_35 (by decide) ?_
  refine j_putI (f := 4) (fp1_30 h) (n_hap h 22 1 0 _ rfl) d3_1_36 c3 (by decide) rfl rfl rfl ?_
  exact R _ _ _ _ _ _ d3_1_39 q hc hs
/- BalanceCoder$Row.<init>()V -/
abbrev b_8_1 : ByteArray := prog_8_method_1_code
def y_8_1 : MethodName := ⟨"BalanceCoder$Row", "<init>", "()V"⟩
abbrev x8_1 (C : qCx) (G : jG) : Prop := n_ctx C b_8_1 1 "BalanceCoder$Row" G.1 G.2.1
def M8_1 (l : Launch) (mc ms : Nat) (p : Int → jS → jH → Prop) (q : Int → jS → jH → jS → jH → Prop) : Prop := j_Met l vwCl n_TL n_NW n_KT y_8_1 (Cond.code y_8_1 b_8_1 1 none :: n_GW) { frames := 1, cells := mc, slots := ms, locals := 26 } mc ms (fun a S V => ∃ u0 : Int, a = [(2, u0)] ∧ S.1 u0 = 27 ∧ p u0 S V) (fun a S V rs S' V' => ∃ u0 : Int, a = [(2, u0)] ∧ rs = [] ∧ q u0 S V S' V')
theorem e8_1 {l : Launch} {mc ms : Nat} {p : Int → jS → jH → Prop} {q : Int → jS → jH → jS → jH → Prop} (body : ∀ (C : qCx) (G : jG), x8_1 C G → C.2.2.2.1.frames = 1 ∧ C.2.2.2.1.locals = 26 → C.2.2.2.1.cells = mc ∧ C.2.2.2.1.slots = ms → C.2.1 = l → C.2.2.2.2.2.2.2.2.1.name = "<init>" → ∀ (u0 : Int) (S : jS) (V : jH), S.1 u0 = 27 → p u0 S V → j_Rv n_KT 1 C G b_8_1 mc ms (q u0 S V) → j_ok n_KT 1 C G 0 [(0, (2, u0))] [] S V 0 0) : M8_1 l mc ms p q := by
  refine j_method (ws' := n_GW) (by decide) rfl ?_ ?_
  · rintro a S V ⟨u0, rfl, -⟩
    exact Nat.le_of_ble_eq_true rfl
  · rintro C G htl hl hrm hm hml ho hts hnm hE a S V ⟨u0, rfl, ht, hp⟩ R
    exact body C G ⟨htl, hm, hml, ho, fun w hw => hts w (List.mem_cons_of_mem _ hw), hE⟩ (by rw [hrm]; exact ⟨rfl, rfl⟩) (by rw [hrm]; exact ⟨rfl, rfl⟩) hl hnm u0 S V ht hp (fun pc lo S' V' nc ns d q hc hs => R.1 rfl pc lo S' V' nc ns d ⟨u0, rfl, rfl, q⟩ hc hs)
theorem d8_1_0 : decode b_8_1 0 = .ok (.aload_n 0, 1) := by decide +kernel
theorem d8_1_1 : decode b_8_1 1 = .ok (.invokespecial 3, 3) := by decide +kernel
theorem d8_1_4 : decode b_8_1 4 = .ok (.aload_n 0, 1) := by decide +kernel
theorem d8_1_5 : decode b_8_1 5 = .ok (.sipush 400, 3) := by decide +kernel
theorem d8_1_8 : decode b_8_1 8 = .ok (.newarray .int, 2) := by decide +kernel
theorem d8_1_10 : decode b_8_1 10 = .ok (.putfield 9, 3) := by decide +kernel
theorem d8_1_13 : decode b_8_1 13 = .ok (.aload_n 0, 1) := by decide +kernel
theorem d8_1_14 : decode b_8_1 14 = .ok (.iconst 0, 1) := by decide +kernel
theorem d8_1_15 : decode b_8_1 15 = .ok (.putfield 15, 3) := by decide +kernel
theorem d8_1_18 : decode b_8_1 18 = .ok (.return_, 1) := by decide +kernel
theorem t8_1_0 {C : qCx} {G : jG} {S : jS} {V : jH} {nc ns : Nat} {l0 a1 : Int} {mc ms : Nat} {qf : jS → jH → Prop} (h : x8_1 C G) (hR : 1 ≤ C.2.2.2.1.frames ∧ 26 ≤ C.2.2.2.1.locals) (hin : C.2.2.2.2.2.2.2.2.1.name = "<init>") (c1 : S.1 l0 = 27) (c2 : 0 ≤ a1) (c3 : S.1 a1 = 0) (c4 : nc + 1 ≤ C.2.2.2.1.cells) (c5 : ns + 400 ≤ C.2.2.2.1.slots) (R : j_Rv n_KT 1 C G b_8_1 mc ms qf) (q : qf (j_sp (j_ns S a1 1) l0 0 a1) (j_up (j_nv V a1) l0 1 0)) (hc : nc + 1 ≤ mc) (hs : ns + 400 ≤ ms) : j_ok n_KT 1 C G 0 [(0, (2, l0))] [] S V nc ns := by
  have E := n_E h
  refine j_aload_n E d8_1_0 rfl 0 rfl ?_
  refine j_objInit (fo6_3 h ⟨hR.1, by omega⟩) d8_1_1 (by rw [c1]; decide) (Nat.le_of_ble_eq_true rfl) ?_
  refine j_aload_n E d8_1_4 rfl 0 rfl ?_
  refine j_sipush E d8_1_5 (by decide) ?_
  obtain ⟨cA1, hA1, hB1⟩ := fa_int h
  refine j_newarray (n := 400) (k := 1) E hA1 hB1 d8_1_8 a1 c2 c3 (by decide) rfl rfl rfl rfl (by decide) c4 c5 ?_
  refine j_putR (f := 0) (fp6_9 h hin) (n_hap h 27 6 0 _ rfl) d8_1_10 (j_nsk c3 c1 (by decide)) (by decide) rfl rfl rfl (by decide) (Or.inr (j_nsa _ _ _)) ?_
  refine j_aload_n E d8_1_13 rfl 0 rfl ?_
  refine j_iconst E d8_1_14 (by decide) ?_
  refine j_putI (f := 1) (fp6_15 h) (n_hap h 27 6 0 _ rfl) d8_1_15 (j_nsk c3 c1 (by decide)) (by decide) rfl rfl rfl ?_
  exact R _ _ _ _ _ _ d8_1_18 q hc hs
/- BalanceCoder$Whole.<init>()V -/
abbrev b_11_1 : ByteArray := prog_11_method_1_code
def y_11_1 : MethodName := ⟨"BalanceCoder$Whole", "<init>", "()V"⟩
abbrev x11_1 (C : qCx) (G : jG) : Prop := n_ctx C b_11_1 2 "BalanceCoder$Whole" G.1 G.2.1
def M11_1 (l : Launch) (mc ms : Nat) (p : Int → jS → jH → Prop) (q : Int → jS → jH → jS → jH → Prop) : Prop := j_Met l vwCl n_TL n_NW n_KT y_11_1 (Cond.code y_11_1 b_11_1 2 none :: n_GW) { frames := 3, cells := mc, slots := ms, locals := 66 } mc ms (fun a S V => ∃ u0 : Int, a = [(2, u0)] ∧ S.1 u0 = 30 ∧ p u0 S V) (fun a S V rs S' V' => ∃ u0 : Int, a = [(2, u0)] ∧ rs = [] ∧ q u0 S V S' V')
theorem e11_1 {l : Launch} {mc ms : Nat} {p : Int → jS → jH → Prop} {q : Int → jS → jH → jS → jH → Prop} (body : ∀ (C : qCx) (G : jG), x11_1 C G → C.2.2.2.1.frames = 3 ∧ C.2.2.2.1.locals = 66 → C.2.2.2.1.cells = mc ∧ C.2.2.2.1.slots = ms → C.2.1 = l → C.2.2.2.2.2.2.2.2.1.name = "<init>" → ∀ (u0 : Int) (S : jS) (V : jH), S.1 u0 = 30 → p u0 S V → j_Rv n_KT 2 C G b_11_1 mc ms (q u0 S V) → j_ok n_KT 2 C G 0 [(0, (2, u0))] [] S V 0 0) : M11_1 l mc ms p q := by
  refine j_method (ws' := n_GW) (by decide) rfl ?_ ?_
  · rintro a S V ⟨u0, rfl, -⟩
    exact Nat.le_of_ble_eq_true rfl
  · rintro C G htl hl hrm hm hml ho hts hnm hE a S V ⟨u0, rfl, ht, hp⟩ R
    exact body C G ⟨htl, hm, hml, ho, fun w hw => hts w (List.mem_cons_of_mem _ hw), hE⟩ (by rw [hrm]; exact ⟨rfl, rfl⟩) (by rw [hrm]; exact ⟨rfl, rfl⟩) hl hnm u0 S V ht hp (fun pc lo S' V' nc ns d q hc hs => R.1 rfl pc lo S' V' nc ns d ⟨u0, rfl, rfl, q⟩ hc hs)
theorem d11_1_0 : decode b_11_1 0 = .ok (.aload_n 0, 1) := by decide +kernel
theorem d11_1_1 : decode b_11_1 1 = .ok (.invokespecial 3, 3) := by decide +kernel
theorem d11_1_4 : decode b_11_1 4 = .ok (.aload_n 0, 1) := by decide +kernel
theorem d11_1_5 : decode b_11_1 5 = .ok (.bipush 6, 2) := by decide +kernel
theorem d11_1_7 : decode b_11_1 7 = .ok (.anewarray 9, 3) := by decide +kernel
theorem d11_1_10 : decode b_11_1 10 = .ok (.putfield 11, 3) := by decide +kernel
theorem d11_1_13 : decode b_11_1 13 = .ok (.aload_n 0, 1) := by decide +kernel
theorem d11_1_14 : decode b_11_1 14 = .ok (.bipush 10, 2) := by decide +kernel
theorem d11_1_16 : decode b_11_1 16 = .ok (.anewarray 17, 3) := by decide +kernel
theorem d11_1_19 : decode b_11_1 19 = .ok (.putfield 19, 3) := by decide +kernel
theorem d11_1_22 : decode b_11_1 22 = .ok (.aload_n 0, 1) := by decide +kernel
theorem d11_1_23 : decode b_11_1 23 = .ok (.iconst 0, 1) := by decide +kernel
theorem d11_1_24 : decode b_11_1 24 = .ok (.putfield 23, 3) := by decide +kernel
theorem d11_1_27 : decode b_11_1 27 = .ok (.aload_n 0, 1) := by decide +kernel
theorem d11_1_28 : decode b_11_1 28 = .ok (.new 27, 3) := by decide +kernel
theorem d11_1_31 : decode b_11_1 31 = .ok (.dup, 1) := by decide +kernel
theorem d11_1_32 : decode b_11_1 32 = .ok (.invokespecial 29, 3) := by decide +kernel
theorem d11_1_35 : decode b_11_1 35 = .ok (.putfield 30, 3) := by decide +kernel
theorem d11_1_38 : decode b_11_1 38 = .ok (.aload_n 0, 1) := by decide +kernel
theorem d11_1_39 : decode b_11_1 39 = .ok (.iconst 0, 1) := by decide +kernel
theorem d11_1_40 : decode b_11_1 40 = .ok (.putfield 34, 3) := by decide +kernel
theorem d11_1_43 : decode b_11_1 43 = .ok (.aload_n 0, 1) := by decide +kernel
theorem d11_1_44 : decode b_11_1 44 = .ok (.iconst 0, 1) := by decide +kernel
theorem d11_1_45 : decode b_11_1 45 = .ok (.putfield 37, 3) := by decide +kernel
theorem d11_1_48 : decode b_11_1 48 = .ok (.iconst 0, 1) := by decide +kernel
theorem d11_1_49 : decode b_11_1 49 = .ok (.istore_n 1, 1) := by decide +kernel
theorem d11_1_50 : decode b_11_1 50 = .ok (.iload_n 1, 1) := by decide +kernel
theorem d11_1_51 : decode b_11_1 51 = .ok (.bipush 6, 2) := by decide +kernel
theorem d11_1_53 : decode b_11_1 53 = .ok (.if_icmp .ge 22, 3) := by decide +kernel
theorem d11_1_56 : decode b_11_1 56 = .ok (.aload_n 0, 1) := by decide +kernel
theorem d11_1_57 : decode b_11_1 57 = .ok (.getfield 11, 3) := by decide +kernel
theorem d11_1_60 : decode b_11_1 60 = .ok (.iload_n 1, 1) := by decide +kernel
theorem d11_1_61 : decode b_11_1 61 = .ok (.new 9, 3) := by decide +kernel
theorem d11_1_64 : decode b_11_1 64 = .ok (.dup, 1) := by decide +kernel
theorem d11_1_65 : decode b_11_1 65 = .ok (.invokespecial 40, 3) := by decide +kernel
theorem d11_1_68 : decode b_11_1 68 = .ok (.aastore, 1) := by decide +kernel
theorem d11_1_69 : decode b_11_1 69 = .ok (.iinc 1 1, 3) := by decide +kernel
theorem d11_1_72 : decode b_11_1 72 = .ok (.goto (-22), 3) := by decide +kernel
theorem d11_1_75 : decode b_11_1 75 = .ok (.return_, 1) := by decide +kernel
theorem K11_1_32 {C : qCx} {G : jG} {mc ms : Nat} {p : Int → jS → jH → Prop} {q : Int → jS → jH → jS → jH → Prop} (h : x11_1 C G) (hrm : C.2.2.2.1.frames = 3 ∧ C.2.2.2.1.locals = 66) (hM : M3_1 C.2.1 mc ms p q) : j_Call C b_11_1 n_KT G.1 G.2.1 2 (.invokespecial 29) mc ms (fun a S V => ∃ u0 : Int, a = [(2, u0)] ∧ S.1 u0 = 22 ∧ p u0 S V) (fun a S V rs S' V' => ∃ u0 : Int, a = [(2, u0)] ∧ rs = [] ∧ q u0 S V S' V') := j_callIN n_NWk h.2.2.2.2.2 h.1 hM ⟨h.2.1.1, h.2.1.2, h.2.2.1, h.2.2.2.1, h.2.2.2.2.1⟩ ⟨n_CN (y := y_3_1) (bytes := b_3_1) 0 h.2.2.2.2.1 n_w39 (h.2.2.2.2.2.2 _ (List.mem_of_getElem? (i := 3) rfl)) n_w3 ⟨by decide, by decide, by decide +kernel⟩ rfl rfl ⟨by rw [hrm.1]; exact Nat.le_of_ble_eq_true rfl, by rw [hrm.2]; exact Nat.le_of_ble_eq_true rfl⟩, rfl, h.2.2.2.2.1 _ n_w38⟩ (Cn := RX1) (fun a S V hP => by obtain ⟨u0, rfl, e, -⟩ := hP; exact ⟨u0, _, 1, _, _, TX1, 5, rfl, rfl, by rw [e]; decide, by rw [e]; rfl, rfl⟩)
theorem K11_1_65 {C : qCx} {G : jG} {mc ms : Nat} {p : Int → jS → jH → Prop} {q : Int → jS → jH → jS → jH → Prop} (h : x11_1 C G) (hrm : C.2.2.2.1.frames = 3 ∧ C.2.2.2.1.locals = 66) (hM : M8_1 C.2.1 mc ms p q) : j_Call C b_11_1 n_KT G.1 G.2.1 2 (.invokespecial 40) mc ms (fun a S V => ∃ u0 : Int, a = [(2, u0)] ∧ S.1 u0 = 27 ∧ p u0 S V) (fun a S V rs S' V' => ∃ u0 : Int, a = [(2, u0)] ∧ rs = [] ∧ q u0 S V S' V') := j_callIN n_NWk h.2.2.2.2.2 h.1 hM ⟨h.2.1.1, h.2.1.2, h.2.2.1, h.2.2.2.1, h.2.2.2.2.1⟩ ⟨n_CN (y := y_8_1) (bytes := b_8_1) 0 h.2.2.2.2.1 n_w110 (h.2.2.2.2.2.2 _ (List.mem_of_getElem? (i := 4) rfl)) n_w5 ⟨by decide, by decide, by decide +kernel⟩ rfl rfl ⟨by rw [hrm.1]; exact Nat.le_of_ble_eq_true rfl, by rw [hrm.2]; exact Nat.le_of_ble_eq_true rfl⟩, rfl, h.2.2.2.2.1 _ n_w109⟩ (Cn := RX6) (fun a S V hP => by obtain ⟨u0, rfl, e, -⟩ := hP; exact ⟨u0, _, 6, _, _, TX6, 2, rfl, rfl, by rw [e]; decide, by rw [e]; rfl, rfl⟩)
theorem t11_1_0 {C : qCx} {G : jG} {S : jS} {V : jH} {nc ns : Nat} {l0 a1 a2 a3 : Int} {mc ms : Nat} {pp : Int → jS → jH → Prop} {qq : Int → jS → jH → jS → jH → Prop} (h : x11_1 C G) (hrm : C.2.2.2.1.frames = 3 ∧ C.2.2.2.1.locals = 66) (hR : 1 ≤ C.2.2.2.1.frames ∧ 26 ≤ C.2.2.2.1.locals) (hin : C.2.2.2.2.2.2.2.2.1.name = "<init>") (c1 : S.1 l0 = 30) (c2 : 0 ≤ a1) (c3 : S.1 a1 = 0) (c4 : nc + 1 ≤ C.2.2.2.1.cells) (c5 : ns + 6 ≤ C.2.2.2.1.slots) (c6 : 0 ≤ a2) (c7 : (j_sp (j_ns S a1 18) l0 0 a1).1 a2 = 0) (c8 : nc + 1 + 1 ≤ C.2.2.2.1.cells) (c9 : ns + 6 + 10 ≤ C.2.2.2.1.slots) (c10 : 0 ≤ a3) (c11 : (j_sp (j_ns (j_sp (j_ns S a1 18) l0 0 a1) a2 20) l0 1 a2).1 a3 = 0) (c12 : nc + 1 + 1 + 1 ≤ C.2.2.2.1.cells) (c13 : ns + 6 + 10 + 5 ≤ C.2.2.2.1.slots) (hM : M3_1 C.2.1 mc ms pp qq) (hp : pp a3 (j_ns (j_sp (j_ns (j_sp (j_ns S a1 18) l0 0 a1) a2 20) l0 1 a2) a3 22) (j_nv (j_up (j_nv (j_nv V a1) a2) l0 2 0) a3)) (hc : (nc + 1 + 1 + 1) + mc ≤ C.2.2.2.1.cells) (hs : (ns + 6 + 10 + 5) + ms ≤ C.2.2.2.1.slots) (k : ∀ (S' : jS) (V' : jH), qq a3 (j_ns (j_sp (j_ns (j_sp (j_ns S a1 18) l0 0 a1) a2 20) l0 1 a2) a3 22) (j_nv (j_up (j_nv (j_nv V a1) a2) l0 2 0) a3) S' V' → j_ok n_KT 2 C G 35 [(0, (2, l0))] [(2, a3), (2, l0)] S' V' ((nc + 1 + 1 + 1) + mc) ((ns + 6 + 10 + 5) + ms)) : j_ok n_KT 2 C G 0 [(0, (2, l0))] [] S V nc ns := by
  have E := n_E h
  refine j_aload_n E d11_1_0 rfl 0 rfl ?_
  refine j_objInit (fo9_3 h ⟨hR.1, by omega⟩) d11_1_1 (by rw [c1]; decide) (Nat.le_of_ble_eq_true rfl) ?_
  refine j_aload_n E d11_1_4 rfl 0 rfl ?_
  refine j_bipush E d11_1_5 (by decide) ?_
  obtain ⟨cA1, hA1, hB1⟩ := fq9_9 h
  refine j_newarray (n := 6) (k := 18) E hA1 hB1 d11_1_7 a1 c2 c3 (by decide) rfl ⟨_, rfl⟩ rfl rfl (by decide) c4 c5 ?_
  refine j_putR (f := 0) (fp9_11 h hin) (n_hap h 30 9 0 _ rfl) d11_1_10 (j_nsk c3 c1 (by decide)) (by decide) rfl rfl rfl (by decide) (Or.inr (j_nsa _ _ _)) ?_
  refine j_aload_n E d11_1_13 rfl 0 rfl ?_
  refine j_bipush E d11_1_14 (by decide) ?_
  obtain ⟨cA2, hA2, hB2⟩ := fq9_17 h
  refine j_newarray (n := 10) (k := 20) E hA2 hB2 d11_1_16 a2 c6 c7 (by decide) rfl ⟨_, rfl⟩ rfl rfl (by decide) c8 c9 ?_
  refine j_putR (f := 1) (fp9_19 h hin) (n_hap h 30 9 0 _ rfl) d11_1_19 (j_nsk c7 (j_nsk c3 c1 (by decide)) (by decide)) (by decide) rfl rfl rfl (by decide) (Or.inr (j_nsa _ _ _)) ?_
  refine j_aload_n E d11_1_22 rfl 0 rfl ?_
  refine j_iconst E d11_1_23 (by decide) ?_
  refine j_putI (f := 2) (fp9_23 h) (n_hap h 30 9 0 _ rfl) d11_1_24 (j_nsk c7 (j_nsk c3 c1 (by decide)) (by decide)) (by decide) rfl rfl rfl ?_
  refine j_aload_n E d11_1_27 rfl 0 rfl ?_
  refine j_new (k := 22) E (fn9_27 h) d11_1_28 a3 c10 c11 (by decide) rfl (by decide) (by decide) (by decide) c12 c13 ?_
  refine j_dup E d11_1_31 rfl ?_
  refine j_call E (K11_1_32 h hrm hM) d11_1_32 (a := [(2, a3)]) (sk := [(2, a3), (2, l0)]) rfl ⟨a3, rfl, (j_nsa _ _ _), hp⟩ (Nat.le_of_ble_eq_true rfl) hc hs ?_
  rintro rs S' V' ⟨z0, e1, rfl, q⟩
  simp only [List.cons.injEq, Prod.mk.injEq, and_true, true_and] at e1
  obtain ⟨rfl⟩ := e1
  exact j_pick [0] rfl (k S' V' q)
theorem t11_1_35 {C : qCx} {G : jG} {S : jS} {V : jH} {nc ns : Nat} {l0 s0 s1 : Int} (h : x11_1 C G) (hin : C.2.2.2.2.2.2.2.2.1.name = "<init>") (c1 : S.1 s1 = 30) (c2 : S.1 s0 = 22) (c3 : (j_sp S s1 3 s0).1 l0 = 30) (k : j_ok n_KT 2 C G 50 [(0, (2, l0)), (1, (0, 0))] [] (j_sp S s1 3 s0) (j_up (j_up V l0 4 0) l0 5 0) nc ns) : j_ok n_KT 2 C G 35 [(0, (2, l0))] [(2, s0), (2, s1)] S V nc ns := by
  have E := n_E h
  refine j_putR (f := 3) (fp9_30 h hin) (n_hap h 30 9 0 _ rfl) d11_1_35 c1 (by decide) rfl rfl rfl (by decide) (Or.inr c2) ?_
  refine j_aload_n E d11_1_38 rfl 0 rfl ?_
  refine j_iconst E d11_1_39 (by decide) ?_
  refine j_putI (f := 4) (fp9_34 h) (n_hap h 30 9 0 _ rfl) d11_1_40 c3 (by decide) rfl rfl rfl ?_
  refine j_aload_n E d11_1_43 rfl 0 rfl ?_
  refine j_iconst E d11_1_44 (by decide) ?_
  refine j_putI (f := 5) (fp9_37 h) (n_hap h 30 9 0 _ rfl) d11_1_45 c3 (by decide) rfl rfl rfl ?_
  refine j_iconst E d11_1_48 (by decide) ?_
  refine j_istore_n E d11_1_49 rfl (by decide) (lo1 := [(0, (2, l0))]) rfl ?_
  exact j_pick [1, 0] rfl k
theorem t11_1_50 {C : qCx} {G : jG} {S : jS} {V : jH} {nc ns : Nat} {l0 l1 : Int} (h : x11_1 C G)  (k : 6 ≤ l1 → j_ok n_KT 2 C G 75 [] [] S V nc ns) (k' : l1 < 6 → j_ok n_KT 2 C G 56 [(0, (2, l0)), (1, (0, l1))] [] S V nc ns) : j_ok n_KT 2 C G 50 [(0, (2, l0)), (1, (0, l1))] [] S V nc ns := by
  have E := n_E h
  refine j_iload_n E d11_1_50 rfl 1 rfl ?_
  refine j_bipush E d11_1_51 (by decide) ?_
  exact j_icmp_ge E d11_1_53 (t := 75) rfl (fun q => j_pick [] rfl (k q)) (fun q => j_pick [0, 1] rfl (k' q))
theorem t11_1_56 {C : qCx} {G : jG} {S : jS} {V : jH} {nc ns : Nat} {l0 l1 a1 : Int} {mc ms : Nat} {pp : Int → jS → jH → Prop} {qq : Int → jS → jH → jS → jH → Prop} (h : x11_1 C G) (hrm : C.2.2.2.1.frames = 3 ∧ C.2.2.2.1.locals = 66) (c1 : S.1 l0 = 30) (c2 : 0 ≤ a1) (c3 : S.1 a1 = 0) (c4 : nc + 1 ≤ C.2.2.2.1.cells) (c5 : ns + 2 ≤ C.2.2.2.1.slots) (hM : M8_1 C.2.1 mc ms pp qq) (hp : pp a1 (j_ns S a1 27) (j_nv V a1)) (hc : (nc + 1) + mc ≤ C.2.2.2.1.cells) (hs : (ns + 2) + ms ≤ C.2.2.2.1.slots) (k : ∀ (S' : jS) (V' : jH), qq a1 (j_ns S a1 27) (j_nv V a1) S' V' → j_ok n_KT 2 C G 68 [(0, (2, l0)), (1, (0, l1))] [(2, a1), (0, l1), (2, S.2 l0 0)] S' V' ((nc + 1) + mc) ((ns + 2) + ms)) : j_ok n_KT 2 C G 56 [(0, (2, l0)), (1, (0, l1))] [] S V nc ns := by
  have E := n_E h
  refine j_aload_n E d11_1_56 rfl 0 rfl ?_
  refine j_getR (f := 0) (fg9_11 h) d11_1_57 c1 (by decide) rfl rfl ?_
  refine j_iload_n E d11_1_60 rfl 1 rfl ?_
  refine j_new (k := 27) E (fn9_9 h) d11_1_61 a1 c2 c3 (by decide) rfl (by decide) (by decide) (by decide) c4 c5 ?_
  refine j_dup E d11_1_64 rfl ?_
  refine j_call E (K11_1_65 h hrm hM) d11_1_65 (a := [(2, a1)]) (sk := [(2, a1), (0, l1), (2, S.2 l0 0)]) rfl ⟨a1, rfl, (j_nsa _ _ _), hp⟩ (Nat.le_of_ble_eq_true rfl) hc hs ?_
  rintro rs S' V' ⟨z0, e1, rfl, q⟩
  simp only [List.cons.injEq, Prod.mk.injEq, and_true, true_and] at e1
  obtain ⟨rfl⟩ := e1
  exact j_pick [0, 1] rfl (k S' V' q)
theorem t11_1_68 {C : qCx} {G : jG} {S : jS} {V : jH} {nc ns : Nat} {l0 l1 s0 s1 s2 : Int} (h : x11_1 C G) (c1 : S.1 s2 = 18) (c2 : S.1 s0 = 27) (c3 : 0 ≤ s1) (c4 : s1 < 6) (c5 : -2147483648 ≤ l1 + 1 ∧ l1 + 1 ≤ 2147483647) (k : j_ok n_KT 2 C G 50 [(0, (2, l0)), (1, (0, l1 + 1))] [] (j_sp S s2 s1 s0) V nc ns) : j_ok n_KT 2 C G 68 [(0, (2, l0)), (1, (0, l1))] [(2, s0), (0, s1), (2, s2)] S V nc ns := by
  have E := n_E h
  refine j_aastore E (fr_3_6 h) d11_1_68 c1 (by decide) rfl c2 (by decide) rfl c3 c4 ?_
  refine j_iinc E d11_1_69 (by decide) (by decide) 1 rfl (lo1 := [(0, (2, l0))]) rfl c5 ?_
  refine j_goto E d11_1_72 (t := 50) rfl ?_
  exact j_pick [1, 0] rfl k
theorem t11_1_75 {C : qCx} {G : jG} {S : jS} {V : jH} {nc ns : Nat} {mc ms : Nat} {qf : jS → jH → Prop} (h : x11_1 C G)  (R : j_Rv n_KT 2 C G b_11_1 mc ms qf) (q : qf S V) (hc : nc ≤ mc) (hs : ns ≤ ms) : j_ok n_KT 2 C G 75 [] [] S V nc ns := by
  have E := n_E h
  exact R _ _ _ _ _ _ d11_1_75 q hc hs
/- BalanceCoder$Deal.<init>()V -/
abbrev b_4_1 : ByteArray := prog_4_method_1_code
def y_4_1 : MethodName := ⟨"BalanceCoder$Deal", "<init>", "()V"⟩
abbrev x4_1 (C : qCx) (G : jG) : Prop := n_ctx C b_4_1 1 "BalanceCoder$Deal" G.1 G.2.1
def M4_1 (l : Launch) (mc ms : Nat) (p : Int → jS → jH → Prop) (q : Int → jS → jH → jS → jH → Prop) : Prop := j_Met l vwCl n_TL n_NW n_KT y_4_1 (Cond.code y_4_1 b_4_1 1 none :: n_GW) { frames := 1, cells := mc, slots := ms, locals := 26 } mc ms (fun a S V => ∃ u0 : Int, a = [(2, u0)] ∧ S.1 u0 = 23 ∧ p u0 S V) (fun a S V rs S' V' => ∃ u0 : Int, a = [(2, u0)] ∧ rs = [] ∧ q u0 S V S' V')
theorem e4_1 {l : Launch} {mc ms : Nat} {p : Int → jS → jH → Prop} {q : Int → jS → jH → jS → jH → Prop} (body : ∀ (C : qCx) (G : jG), x4_1 C G → C.2.2.2.1.frames = 1 ∧ C.2.2.2.1.locals = 26 → C.2.2.2.1.cells = mc ∧ C.2.2.2.1.slots = ms → C.2.1 = l → C.2.2.2.2.2.2.2.2.1.name = "<init>" → ∀ (u0 : Int) (S : jS) (V : jH), S.1 u0 = 23 → p u0 S V → j_Rv n_KT 1 C G b_4_1 mc ms (q u0 S V) → j_ok n_KT 1 C G 0 [(0, (2, u0))] [] S V 0 0) : M4_1 l mc ms p q := by
  refine j_method (ws' := n_GW) (by decide) rfl ?_ ?_
  · rintro a S V ⟨u0, rfl, -⟩
    exact Nat.le_of_ble_eq_true rfl
  · rintro C G htl hl hrm hm hml ho hts hnm hE a S V ⟨u0, rfl, ht, hp⟩ R
    exact body C G ⟨htl, hm, hml, ho, fun w hw => hts w (List.mem_cons_of_mem _ hw), hE⟩ (by rw [hrm]; exact ⟨rfl, rfl⟩) (by rw [hrm]; exact ⟨rfl, rfl⟩) hl hnm u0 S V ht hp (fun pc lo S' V' nc ns d q hc hs => R.1 rfl pc lo S' V' nc ns d ⟨u0, rfl, rfl, q⟩ hc hs)
theorem d4_1_0 : decode b_4_1 0 = .ok (.aload_n 0, 1) := by decide +kernel
theorem d4_1_1 : decode b_4_1 1 = .ok (.invokespecial 3, 3) := by decide +kernel
theorem d4_1_4 : decode b_4_1 4 = .ok (.aload_n 0, 1) := by decide +kernel
theorem d4_1_5 : decode b_4_1 5 = .ok (.sipush 257, 3) := by decide +kernel
theorem d4_1_8 : decode b_4_1 8 = .ok (.newarray .int, 2) := by decide +kernel
theorem d4_1_10 : decode b_4_1 10 = .ok (.putfield 9, 3) := by decide +kernel
theorem d4_1_13 : decode b_4_1 13 = .ok (.return_, 1) := by decide +kernel
theorem t4_1_0 {C : qCx} {G : jG} {S : jS} {V : jH} {nc ns : Nat} {l0 a1 : Int} {mc ms : Nat} {qf : jS → jH → Prop} (h : x4_1 C G) (hR : 1 ≤ C.2.2.2.1.frames ∧ 26 ≤ C.2.2.2.1.locals) (hin : C.2.2.2.2.2.2.2.2.1.name = "<init>") (c1 : S.1 l0 = 23) (c2 : 0 ≤ a1) (c3 : S.1 a1 = 0) (c4 : nc + 1 ≤ C.2.2.2.1.cells) (c5 : ns + 257 ≤ C.2.2.2.1.slots) (R : j_Rv n_KT 1 C G b_4_1 mc ms qf) (q : qf (j_sp (j_ns S a1 2) l0 0 a1) (j_nv V a1)) (hc : nc + 1 ≤ mc) (hs : ns + 257 ≤ ms) : j_ok n_KT 1 C G 0 [(0, (2, l0))] [] S V nc ns := by
  have E := n_E h
  refine j_aload_n E d4_1_0 rfl 0 rfl ?_
  refine j_objInit (fo2_3 h ⟨hR.1, by omega⟩) d4_1_1 (by rw [c1]; decide) (Nat.le_of_ble_eq_true rfl) ?_
  refine j_aload_n E d4_1_4 rfl 0 rfl ?_
  refine j_sipush E d4_1_5 (by decide) ?_
  obtain ⟨cA1, hA1, hB1⟩ := fa_int h
  refine j_newarray (n := 257) (k := 2) E hA1 hB1 d4_1_8 a1 c2 c3 (by decide) rfl rfl rfl rfl (by decide) c4 c5 ?_
  refine j_putR (f := 0) (fp2_9 h hin) (n_hap h 23 2 0 _ rfl) d4_1_10 (j_nsk c3 c1 (by decide)) (by decide) rfl rfl rfl (by decide) (Or.inr (j_nsa _ _ _)) ?_
  exact R _ _ _ _ _ _ d4_1_13 q hc hs
/- BalanceCoder$Table.<init>()V -/
abbrev b_10_1 : ByteArray := prog_10_method_1_code
def y_10_1 : MethodName := ⟨"BalanceCoder$Table", "<init>", "()V"⟩
abbrev x10_1 (C : qCx) (G : jG) : Prop := n_ctx C b_10_1 2 "BalanceCoder$Table" G.1 G.2.1
def M10_1 (l : Launch) (mc ms : Nat) (p : Int → jS → jH → Prop) (q : Int → jS → jH → jS → jH → Prop) : Prop := j_Met l vwCl n_TL n_NW n_KT y_10_1 (Cond.code y_10_1 b_10_1 2 none :: n_GW) { frames := 2, cells := mc, slots := ms, locals := 46 } mc ms (fun a S V => ∃ u0 : Int, a = [(2, u0)] ∧ S.1 u0 = 29 ∧ p u0 S V) (fun a S V rs S' V' => ∃ u0 : Int, a = [(2, u0)] ∧ rs = [] ∧ q u0 S V S' V')
theorem e10_1 {l : Launch} {mc ms : Nat} {p : Int → jS → jH → Prop} {q : Int → jS → jH → jS → jH → Prop} (body : ∀ (C : qCx) (G : jG), x10_1 C G → C.2.2.2.1.frames = 2 ∧ C.2.2.2.1.locals = 46 → C.2.2.2.1.cells = mc ∧ C.2.2.2.1.slots = ms → C.2.1 = l → C.2.2.2.2.2.2.2.2.1.name = "<init>" → ∀ (u0 : Int) (S : jS) (V : jH), S.1 u0 = 29 → p u0 S V → j_Rv n_KT 2 C G b_10_1 mc ms (q u0 S V) → j_ok n_KT 2 C G 0 [(0, (2, u0))] [] S V 0 0) : M10_1 l mc ms p q := by
  refine j_method (ws' := n_GW) (by decide) rfl ?_ ?_
  · rintro a S V ⟨u0, rfl, -⟩
    exact Nat.le_of_ble_eq_true rfl
  · rintro C G htl hl hrm hm hml ho hts hnm hE a S V ⟨u0, rfl, ht, hp⟩ R
    exact body C G ⟨htl, hm, hml, ho, fun w hw => hts w (List.mem_cons_of_mem _ hw), hE⟩ (by rw [hrm]; exact ⟨rfl, rfl⟩) (by rw [hrm]; exact ⟨rfl, rfl⟩) hl hnm u0 S V ht hp (fun pc lo S' V' nc ns d q hc hs => R.1 rfl pc lo S' V' nc ns d ⟨u0, rfl, rfl, q⟩ hc hs)
theorem d10_1_0 : decode b_10_1 0 = .ok (.aload_n 0, 1) := by decide +kernel
theorem d10_1_1 : decode b_10_1 1 = .ok (.invokespecial 3, 3) := by decide +kernel
theorem d10_1_4 : decode b_10_1 4 = .ok (.aload_n 0, 1) := by decide +kernel
theorem d10_1_5 : decode b_10_1 5 = .ok (.iconst 4, 1) := by decide +kernel
theorem d10_1_6 : decode b_10_1 6 = .ok (.anewarray 9, 3) := by decide +kernel
theorem d10_1_9 : decode b_10_1 9 = .ok (.putfield 11, 3) := by decide +kernel
theorem d10_1_12 : decode b_10_1 12 = .ok (.aload_n 0, 1) := by decide +kernel
theorem d10_1_13 : decode b_10_1 13 = .ok (.iconst 1, 1) := by decide +kernel
theorem d10_1_14 : decode b_10_1 14 = .ok (.putfield 17, 3) := by decide +kernel
theorem d10_1_17 : decode b_10_1 17 = .ok (.aload_n 0, 1) := by decide +kernel
theorem d10_1_18 : decode b_10_1 18 = .ok (.bipush 8, 2) := by decide +kernel
theorem d10_1_20 : decode b_10_1 20 = .ok (.putfield 21, 3) := by decide +kernel
theorem d10_1_23 : decode b_10_1 23 = .ok (.iconst 0, 1) := by decide +kernel
theorem d10_1_24 : decode b_10_1 24 = .ok (.istore_n 1, 1) := by decide +kernel
theorem d10_1_25 : decode b_10_1 25 = .ok (.iload_n 1, 1) := by decide +kernel
theorem d10_1_26 : decode b_10_1 26 = .ok (.iconst 4, 1) := by decide +kernel
theorem d10_1_27 : decode b_10_1 27 = .ok (.if_icmp .ge 22, 3) := by decide +kernel
theorem d10_1_30 : decode b_10_1 30 = .ok (.aload_n 0, 1) := by decide +kernel
theorem d10_1_31 : decode b_10_1 31 = .ok (.getfield 11, 3) := by decide +kernel
theorem d10_1_34 : decode b_10_1 34 = .ok (.iload_n 1, 1) := by decide +kernel
theorem d10_1_35 : decode b_10_1 35 = .ok (.new 9, 3) := by decide +kernel
theorem d10_1_38 : decode b_10_1 38 = .ok (.dup, 1) := by decide +kernel
theorem d10_1_39 : decode b_10_1 39 = .ok (.invokespecial 24, 3) := by decide +kernel
theorem d10_1_42 : decode b_10_1 42 = .ok (.aastore, 1) := by decide +kernel
theorem d10_1_43 : decode b_10_1 43 = .ok (.iinc 1 1, 3) := by decide +kernel
theorem d10_1_46 : decode b_10_1 46 = .ok (.goto (-21), 3) := by decide +kernel
theorem d10_1_49 : decode b_10_1 49 = .ok (.return_, 1) := by decide +kernel
theorem K10_1_39 {C : qCx} {G : jG} {mc ms : Nat} {p : Int → jS → jH → Prop} {q : Int → jS → jH → jS → jH → Prop} (h : x10_1 C G) (hrm : C.2.2.2.1.frames = 2 ∧ C.2.2.2.1.locals = 46) (hM : M4_1 C.2.1 mc ms p q) : j_Call C b_10_1 n_KT G.1 G.2.1 2 (.invokespecial 24) mc ms (fun a S V => ∃ u0 : Int, a = [(2, u0)] ∧ S.1 u0 = 23 ∧ p u0 S V) (fun a S V rs S' V' => ∃ u0 : Int, a = [(2, u0)] ∧ rs = [] ∧ q u0 S V S' V') := j_callIN n_NWk h.2.2.2.2.2 h.1 hM ⟨h.2.1.1, h.2.1.2, h.2.2.1, h.2.2.2.1, h.2.2.2.2.1⟩ ⟨n_CN (y := y_4_1) (bytes := b_4_1) 0 h.2.2.2.2.1 n_w169 (h.2.2.2.2.2.2 _ (List.mem_of_getElem? (i := 6) rfl)) n_w8 ⟨by decide, by decide, by decide +kernel⟩ rfl rfl ⟨by rw [hrm.1]; exact Nat.le_of_ble_eq_true rfl, by rw [hrm.2]; exact Nat.le_of_ble_eq_true rfl⟩, rfl, h.2.2.2.2.1 _ n_w168⟩ (Cn := RX2) (fun a S V hP => by obtain ⟨u0, rfl, e, -⟩ := hP; exact ⟨u0, _, 2, _, _, TX2, 1, rfl, rfl, by rw [e]; decide, by rw [e]; rfl, rfl⟩)
theorem t10_1_0 {C : qCx} {G : jG} {S : jS} {V : jH} {nc ns : Nat} {l0 a1 : Int} (h : x10_1 C G) (hR : 1 ≤ C.2.2.2.1.frames ∧ 26 ≤ C.2.2.2.1.locals) (hin : C.2.2.2.2.2.2.2.2.1.name = "<init>") (c1 : S.1 l0 = 29) (c2 : 0 ≤ a1) (c3 : S.1 a1 = 0) (c4 : nc + 1 ≤ C.2.2.2.1.cells) (c5 : ns + 4 ≤ C.2.2.2.1.slots) (k : j_ok n_KT 2 C G 25 [(0, (2, l0)), (1, (0, 0))] [] (j_sp (j_ns S a1 19) l0 0 a1) (j_up (j_up (j_nv V a1) l0 1 1) l0 2 8) (nc + 1) (ns + 4)) : j_ok n_KT 2 C G 0 [(0, (2, l0))] [] S V nc ns := by
  have E := n_E h
  refine j_aload_n E d10_1_0 rfl 0 rfl ?_
  refine j_objInit (fo8_3 h ⟨hR.1, by omega⟩) d10_1_1 (by rw [c1]; decide) (Nat.le_of_ble_eq_true rfl) ?_
  refine j_aload_n E d10_1_4 rfl 0 rfl ?_
  refine j_iconst E d10_1_5 (by decide) ?_
  obtain ⟨cA1, hA1, hB1⟩ := fq8_9 h
  refine j_newarray (n := 4) (k := 19) E hA1 hB1 d10_1_6 a1 c2 c3 (by decide) rfl ⟨_, rfl⟩ rfl rfl (by decide) c4 c5 ?_
  refine j_putR (f := 0) (fp8_11 h hin) (n_hap h 29 8 0 _ rfl) d10_1_9 (j_nsk c3 c1 (by decide)) (by decide) rfl rfl rfl (by decide) (Or.inr (j_nsa _ _ _)) ?_
  refine j_aload_n E d10_1_12 rfl 0 rfl ?_
  refine j_iconst E d10_1_13 (by decide) ?_
  refine j_putI (f := 1) (fp8_17 h) (n_hap h 29 8 0 _ rfl) d10_1_14 (j_nsk c3 c1 (by decide)) (by decide) rfl rfl rfl ?_
  refine j_aload_n E d10_1_17 rfl 0 rfl ?_
  refine j_bipush E d10_1_18 (by decide) ?_
  refine j_putI (f := 2) (fp8_21 h) (n_hap h 29 8 0 _ rfl) d10_1_20 (j_nsk c3 c1 (by decide)) (by decide) rfl rfl rfl ?_
  refine j_iconst E d10_1_23 (by decide) ?_
  refine j_istore_n E d10_1_24 rfl (by decide) (lo1 := [(0, (2, l0))]) rfl ?_
  exact j_pick [1, 0] rfl k
theorem t10_1_25 {C : qCx} {G : jG} {S : jS} {V : jH} {nc ns : Nat} {l0 l1 : Int} (h : x10_1 C G)  (k : 4 ≤ l1 → j_ok n_KT 2 C G 49 [] [] S V nc ns) (k' : l1 < 4 → j_ok n_KT 2 C G 30 [(0, (2, l0)), (1, (0, l1))] [] S V nc ns) : j_ok n_KT 2 C G 25 [(0, (2, l0)), (1, (0, l1))] [] S V nc ns := by
  have E := n_E h
  refine j_iload_n E d10_1_25 rfl 1 rfl ?_
  refine j_iconst E d10_1_26 (by decide) ?_
  exact j_icmp_ge E d10_1_27 (t := 49) rfl (fun q => j_pick [] rfl (k q)) (fun q => j_pick [0, 1] rfl (k' q))
theorem t10_1_30 {C : qCx} {G : jG} {S : jS} {V : jH} {nc ns : Nat} {l0 l1 a1 : Int} {mc ms : Nat} {pp : Int → jS → jH → Prop} {qq : Int → jS → jH → jS → jH → Prop} (h : x10_1 C G) (hrm : C.2.2.2.1.frames = 2 ∧ C.2.2.2.1.locals = 46) (c1 : S.1 l0 = 29) (c2 : 0 ≤ a1) (c3 : S.1 a1 = 0) (c4 : nc + 1 ≤ C.2.2.2.1.cells) (c5 : ns + 1 ≤ C.2.2.2.1.slots) (hM : M4_1 C.2.1 mc ms pp qq) (hp : pp a1 (j_ns S a1 23) (j_nv V a1)) (hc : (nc + 1) + mc ≤ C.2.2.2.1.cells) (hs : (ns + 1) + ms ≤ C.2.2.2.1.slots) (k : ∀ (S' : jS) (V' : jH), qq a1 (j_ns S a1 23) (j_nv V a1) S' V' → j_ok n_KT 2 C G 42 [(0, (2, l0)), (1, (0, l1))] [(2, a1), (0, l1), (2, S.2 l0 0)] S' V' ((nc + 1) + mc) ((ns + 1) + ms)) : j_ok n_KT 2 C G 30 [(0, (2, l0)), (1, (0, l1))] [] S V nc ns := by
  have E := n_E h
  refine j_aload_n E d10_1_30 rfl 0 rfl ?_
  refine j_getR (f := 0) (fg8_11 h) d10_1_31 c1 (by decide) rfl rfl ?_
  refine j_iload_n E d10_1_34 rfl 1 rfl ?_
  refine j_new (k := 23) E (fn8_9 h) d10_1_35 a1 c2 c3 (by decide) rfl (by decide) (by decide) (by decide) c4 c5 ?_
  refine j_dup E d10_1_38 rfl ?_
  refine j_call E (K10_1_39 h hrm hM) d10_1_39 (a := [(2, a1)]) (sk := [(2, a1), (0, l1), (2, S.2 l0 0)]) rfl ⟨a1, rfl, (j_nsa _ _ _), hp⟩ (Nat.le_of_ble_eq_true rfl) hc hs ?_
  rintro rs S' V' ⟨z0, e1, rfl, q⟩
  simp only [List.cons.injEq, Prod.mk.injEq, and_true, true_and] at e1
  obtain ⟨rfl⟩ := e1
  exact j_pick [0, 1] rfl (k S' V' q)
theorem t10_1_42 {C : qCx} {G : jG} {S : jS} {V : jH} {nc ns : Nat} {l0 l1 s0 s1 s2 : Int} (h : x10_1 C G) (c1 : S.1 s2 = 19) (c2 : S.1 s0 = 23) (c3 : 0 ≤ s1) (c4 : s1 < 4) (c5 : -2147483648 ≤ l1 + 1 ∧ l1 + 1 ≤ 2147483647) (k : j_ok n_KT 2 C G 25 [(0, (2, l0)), (1, (0, l1 + 1))] [] (j_sp S s2 s1 s0) V nc ns) : j_ok n_KT 2 C G 42 [(0, (2, l0)), (1, (0, l1))] [(2, s0), (0, s1), (2, s2)] S V nc ns := by
  have E := n_E h
  refine j_aastore E (fr_4_2 h) d10_1_42 c1 (by decide) rfl c2 (by decide) rfl c3 c4 ?_
  refine j_iinc E d10_1_43 (by decide) (by decide) 1 rfl (lo1 := [(0, (2, l0))]) rfl c5 ?_
  refine j_goto E d10_1_46 (t := 25) rfl ?_
  exact j_pick [1, 0] rfl k
theorem t10_1_49 {C : qCx} {G : jG} {S : jS} {V : jH} {nc ns : Nat} {mc ms : Nat} {qf : jS → jH → Prop} (h : x10_1 C G)  (R : j_Rv n_KT 2 C G b_10_1 mc ms qf) (q : qf S V) (hc : nc ≤ mc) (hs : ns ≤ ms) : j_ok n_KT 2 C G 49 [] [] S V nc ns := by
  have E := n_E h
  exact R _ _ _ _ _ _ d10_1_49 q hc hs
/- BalanceCoder$Guide.<init>()V -/
abbrev b_6_1 : ByteArray := prog_6_method_1_code
def y_6_1 : MethodName := ⟨"BalanceCoder$Guide", "<init>", "()V"⟩
abbrev x6_1 (C : qCx) (G : jG) : Prop := n_ctx C b_6_1 1 "BalanceCoder$Guide" G.1 G.2.1
def M6_1 (l : Launch) (mc ms : Nat) (p : Int → jS → jH → Prop) (q : Int → jS → jH → jS → jH → Prop) : Prop := j_Met l vwCl n_TL n_NW n_KT y_6_1 (Cond.code y_6_1 b_6_1 1 none :: n_GW) { frames := 2, cells := mc, slots := ms, locals := 46 } mc ms (fun a S V => ∃ u0 : Int, a = [(2, u0)] ∧ S.1 u0 = 25 ∧ p u0 S V) (fun a S V rs S' V' => ∃ u0 : Int, a = [(2, u0)] ∧ rs = [] ∧ q u0 S V S' V')
theorem e6_1 {l : Launch} {mc ms : Nat} {p : Int → jS → jH → Prop} {q : Int → jS → jH → jS → jH → Prop} (body : ∀ (C : qCx) (G : jG), x6_1 C G → C.2.2.2.1.frames = 2 ∧ C.2.2.2.1.locals = 46 → C.2.2.2.1.cells = mc ∧ C.2.2.2.1.slots = ms → C.2.1 = l → C.2.2.2.2.2.2.2.2.1.name = "<init>" → ∀ (u0 : Int) (S : jS) (V : jH), S.1 u0 = 25 → p u0 S V → j_Rv n_KT 1 C G b_6_1 mc ms (q u0 S V) → j_ok n_KT 1 C G 0 [(0, (2, u0))] [] S V 0 0) : M6_1 l mc ms p q := by
  refine j_method (ws' := n_GW) (by decide) rfl ?_ ?_
  · rintro a S V ⟨u0, rfl, -⟩
    exact Nat.le_of_ble_eq_true rfl
  · rintro C G htl hl hrm hm hml ho hts hnm hE a S V ⟨u0, rfl, ht, hp⟩ R
    exact body C G ⟨htl, hm, hml, ho, fun w hw => hts w (List.mem_cons_of_mem _ hw), hE⟩ (by rw [hrm]; exact ⟨rfl, rfl⟩) (by rw [hrm]; exact ⟨rfl, rfl⟩) hl hnm u0 S V ht hp (fun pc lo S' V' nc ns d q hc hs => R.1 rfl pc lo S' V' nc ns d ⟨u0, rfl, rfl, q⟩ hc hs)
theorem d6_1_0 : decode b_6_1 0 = .ok (.aload_n 0, 1) := by decide +kernel
theorem d6_1_1 : decode b_6_1 1 = .ok (.invokespecial 3, 3) := by decide +kernel
theorem d6_1_4 : decode b_6_1 4 = .ok (.aload_n 0, 1) := by decide +kernel
theorem d6_1_5 : decode b_6_1 5 = .ok (.new 9, 3) := by decide +kernel
theorem d6_1_8 : decode b_6_1 8 = .ok (.dup, 1) := by decide +kernel
theorem d6_1_9 : decode b_6_1 9 = .ok (.invokespecial 11, 3) := by decide +kernel
theorem d6_1_12 : decode b_6_1 12 = .ok (.putfield 12, 3) := by decide +kernel
theorem d6_1_15 : decode b_6_1 15 = .ok (.aload_n 0, 1) := by decide +kernel
theorem d6_1_16 : decode b_6_1 16 = .ok (.iconst 0, 1) := by decide +kernel
theorem d6_1_17 : decode b_6_1 17 = .ok (.putfield 18, 3) := by decide +kernel
theorem d6_1_20 : decode b_6_1 20 = .ok (.return_, 1) := by decide +kernel
theorem K6_1_9 {C : qCx} {G : jG} {mc ms : Nat} {p : Int → jS → jH → Prop} {q : Int → jS → jH → jS → jH → Prop} (h : x6_1 C G) (hrm : C.2.2.2.1.frames = 2 ∧ C.2.2.2.1.locals = 46) (hM : M4_1 C.2.1 mc ms p q) : j_Call C b_6_1 n_KT G.1 G.2.1 1 (.invokespecial 11) mc ms (fun a S V => ∃ u0 : Int, a = [(2, u0)] ∧ S.1 u0 = 23 ∧ p u0 S V) (fun a S V rs S' V' => ∃ u0 : Int, a = [(2, u0)] ∧ rs = [] ∧ q u0 S V S' V') := j_callIN n_NWk h.2.2.2.2.2 h.1 hM ⟨h.2.1.1, h.2.1.2, h.2.2.1, h.2.2.2.1, h.2.2.2.2.1⟩ ⟨n_CN (y := y_4_1) (bytes := b_4_1) 0 h.2.2.2.2.1 n_w169 (h.2.2.2.2.2.2 _ (List.mem_of_getElem? (i := 7) rfl)) n_w8 ⟨by decide, by decide, by decide +kernel⟩ rfl rfl ⟨by rw [hrm.1]; exact Nat.le_of_ble_eq_true rfl, by rw [hrm.2]; exact Nat.le_of_ble_eq_true rfl⟩, rfl, h.2.2.2.2.1 _ n_w168⟩ (Cn := RX2) (fun a S V hP => by obtain ⟨u0, rfl, e, -⟩ := hP; exact ⟨u0, _, 2, _, _, TX2, 1, rfl, rfl, by rw [e]; decide, by rw [e]; rfl, rfl⟩)
theorem t6_1_0 {C : qCx} {G : jG} {S : jS} {V : jH} {nc ns : Nat} {l0 a1 : Int} {mc ms : Nat} {pp : Int → jS → jH → Prop} {qq : Int → jS → jH → jS → jH → Prop} (h : x6_1 C G) (hrm : C.2.2.2.1.frames = 2 ∧ C.2.2.2.1.locals = 46) (hR : 1 ≤ C.2.2.2.1.frames ∧ 26 ≤ C.2.2.2.1.locals) (c1 : S.1 l0 = 25) (c2 : 0 ≤ a1) (c3 : S.1 a1 = 0) (c4 : nc + 1 ≤ C.2.2.2.1.cells) (c5 : ns + 1 ≤ C.2.2.2.1.slots) (hM : M4_1 C.2.1 mc ms pp qq) (hp : pp a1 (j_ns S a1 23) (j_nv V a1)) (hc : (nc + 1) + mc ≤ C.2.2.2.1.cells) (hs : (ns + 1) + ms ≤ C.2.2.2.1.slots) (k : ∀ (S' : jS) (V' : jH), qq a1 (j_ns S a1 23) (j_nv V a1) S' V' → j_ok n_KT 1 C G 12 [(0, (2, l0))] [(2, a1), (2, l0)] S' V' ((nc + 1) + mc) ((ns + 1) + ms)) : j_ok n_KT 1 C G 0 [(0, (2, l0))] [] S V nc ns := by
  have E := n_E h
  refine j_aload_n E d6_1_0 rfl 0 rfl ?_
  refine j_objInit (fo4_3 h ⟨hR.1, by omega⟩) d6_1_1 (by rw [c1]; decide) (Nat.le_of_ble_eq_true rfl) ?_
  refine j_aload_n E d6_1_4 rfl 0 rfl ?_
  refine j_new (k := 23) E (fn4_9 h) d6_1_5 a1 c2 c3 (by decide) rfl (by decide) (by decide) (by decide) c4 c5 ?_
  refine j_dup E d6_1_8 rfl ?_
  refine j_call E (K6_1_9 h hrm hM) d6_1_9 (a := [(2, a1)]) (sk := [(2, a1), (2, l0)]) rfl ⟨a1, rfl, (j_nsa _ _ _), hp⟩ (Nat.le_of_ble_eq_true rfl) hc hs ?_
  rintro rs S' V' ⟨z0, e1, rfl, q⟩
  simp only [List.cons.injEq, Prod.mk.injEq, and_true, true_and] at e1
  obtain ⟨rfl⟩ := e1
  exact j_pick [0] rfl (k S' V' q)
theorem t6_1_12 {C : qCx} {G : jG} {S : jS} {V : jH} {nc ns : Nat} {l0 s0 s1 : Int} {mc ms : Nat} {qf : jS → jH → Prop} (h : x6_1 C G) (hin : C.2.2.2.2.2.2.2.2.1.name = "<init>") (c1 : S.1 s1 = 25) (c2 : S.1 s0 = 23) (c3 : (j_sp S s1 0 s0).1 l0 = 25) (R : j_Rv n_KT 1 C G b_6_1 mc ms qf) (q : qf (j_sp S s1 0 s0) (j_up V l0 1 0)) (hc : nc ≤ mc) (hs : ns ≤ ms) : j_ok n_KT 1 C G 12 [(0, (2, l0))] [(2, s0), (2, s1)] S V nc ns := by
  have E := n_E h
  refine j_putR (f := 0) (fp4_12 h hin) (n_hap h 25 4 0 _ rfl) d6_1_12 c1 (by decide) rfl rfl rfl (by decide) (Or.inr c2) ?_
  refine j_aload_n E d6_1_15 rfl 0 rfl ?_
  refine j_iconst E d6_1_16 (by decide) ?_
  refine j_putI (f := 1) (fp4_18 h) (n_hap h 25 4 0 _ rfl) d6_1_17 c3 (by decide) rfl rfl rfl ?_
  exact R _ _ _ _ _ _ d6_1_20 q hc hs
/- BalanceCoder$Bench.<init>()V -/
abbrev b_2_1 : ByteArray := prog_2_method_1_code
def y_2_1 : MethodName := ⟨"BalanceCoder$Bench", "<init>", "()V"⟩
abbrev x2_1 (C : qCx) (G : jG) : Prop := n_ctx C b_2_1 1 "BalanceCoder$Bench" G.1 G.2.1
def M2_1 (l : Launch) (mc ms : Nat) (p : Int → jS → jH → Prop) (q : Int → jS → jH → jS → jH → Prop) : Prop := j_Met l vwCl n_TL n_NW n_KT y_2_1 (Cond.code y_2_1 b_2_1 1 none :: n_GW) { frames := 3, cells := mc, slots := ms, locals := 67 } mc ms (fun a S V => ∃ u0 : Int, a = [(2, u0)] ∧ S.1 u0 = 21 ∧ p u0 S V) (fun a S V rs S' V' => ∃ u0 : Int, a = [(2, u0)] ∧ rs = [] ∧ q u0 S V S' V')
theorem e2_1 {l : Launch} {mc ms : Nat} {p : Int → jS → jH → Prop} {q : Int → jS → jH → jS → jH → Prop} (body : ∀ (C : qCx) (G : jG), x2_1 C G → C.2.2.2.1.frames = 3 ∧ C.2.2.2.1.locals = 67 → C.2.2.2.1.cells = mc ∧ C.2.2.2.1.slots = ms → C.2.1 = l → C.2.2.2.2.2.2.2.2.1.name = "<init>" → ∀ (u0 : Int) (S : jS) (V : jH), S.1 u0 = 21 → p u0 S V → j_Rv n_KT 1 C G b_2_1 mc ms (q u0 S V) → j_ok n_KT 1 C G 0 [(0, (2, u0))] [] S V 0 0) : M2_1 l mc ms p q := by
  refine j_method (ws' := n_GW) (by decide) rfl ?_ ?_
  · rintro a S V ⟨u0, rfl, -⟩
    exact Nat.le_of_ble_eq_true rfl
  · rintro C G htl hl hrm hm hml ho hts hnm hE a S V ⟨u0, rfl, ht, hp⟩ R
    exact body C G ⟨htl, hm, hml, ho, fun w hw => hts w (List.mem_cons_of_mem _ hw), hE⟩ (by rw [hrm]; exact ⟨rfl, rfl⟩) (by rw [hrm]; exact ⟨rfl, rfl⟩) hl hnm u0 S V ht hp (fun pc lo S' V' nc ns d q hc hs => R.1 rfl pc lo S' V' nc ns d ⟨u0, rfl, rfl, q⟩ hc hs)
theorem d2_1_0 : decode b_2_1 0 = .ok (.aload_n 0, 1) := by decide +kernel
theorem d2_1_1 : decode b_2_1 1 = .ok (.invokespecial 3, 3) := by decide +kernel
theorem d2_1_4 : decode b_2_1 4 = .ok (.aload_n 0, 1) := by decide +kernel
theorem d2_1_5 : decode b_2_1 5 = .ok (.new 9, 3) := by decide +kernel
theorem d2_1_8 : decode b_2_1 8 = .ok (.dup, 1) := by decide +kernel
theorem d2_1_9 : decode b_2_1 9 = .ok (.invokespecial 11, 3) := by decide +kernel
theorem d2_1_12 : decode b_2_1 12 = .ok (.putfield 12, 3) := by decide +kernel
theorem d2_1_15 : decode b_2_1 15 = .ok (.aload_n 0, 1) := by decide +kernel
theorem d2_1_16 : decode b_2_1 16 = .ok (.new 18, 3) := by decide +kernel
theorem d2_1_19 : decode b_2_1 19 = .ok (.dup, 1) := by decide +kernel
theorem d2_1_20 : decode b_2_1 20 = .ok (.invokespecial 20, 3) := by decide +kernel
theorem d2_1_23 : decode b_2_1 23 = .ok (.putfield 21, 3) := by decide +kernel
theorem d2_1_26 : decode b_2_1 26 = .ok (.aload_n 0, 1) := by decide +kernel
theorem d2_1_27 : decode b_2_1 27 = .ok (.new 25, 3) := by decide +kernel
theorem d2_1_30 : decode b_2_1 30 = .ok (.dup, 1) := by decide +kernel
theorem d2_1_31 : decode b_2_1 31 = .ok (.invokespecial 27, 3) := by decide +kernel
theorem d2_1_34 : decode b_2_1 34 = .ok (.putfield 28, 3) := by decide +kernel
theorem d2_1_37 : decode b_2_1 37 = .ok (.aload_n 0, 1) := by decide +kernel
theorem d2_1_38 : decode b_2_1 38 = .ok (.iconst 4, 1) := by decide +kernel
theorem d2_1_39 : decode b_2_1 39 = .ok (.newarray .int, 2) := by decide +kernel
theorem d2_1_41 : decode b_2_1 41 = .ok (.putfield 32, 3) := by decide +kernel
theorem d2_1_44 : decode b_2_1 44 = .ok (.aload_n 0, 1) := by decide +kernel
theorem d2_1_45 : decode b_2_1 45 = .ok (.sipush 800, 3) := by decide +kernel
theorem d2_1_48 : decode b_2_1 48 = .ok (.newarray .int, 2) := by decide +kernel
theorem d2_1_50 : decode b_2_1 50 = .ok (.putfield 36, 3) := by decide +kernel
theorem d2_1_53 : decode b_2_1 53 = .ok (.aload_n 0, 1) := by decide +kernel
theorem d2_1_54 : decode b_2_1 54 = .ok (.iconst 0, 1) := by decide +kernel
theorem d2_1_55 : decode b_2_1 55 = .ok (.putfield 39, 3) := by decide +kernel
theorem d2_1_58 : decode b_2_1 58 = .ok (.return_, 1) := by decide +kernel
theorem K2_1_9 {C : qCx} {G : jG} {mc ms : Nat} {p : Int → jS → jH → Prop} {q : Int → jS → jH → jS → jH → Prop} (h : x2_1 C G) (hrm : C.2.2.2.1.frames = 3 ∧ C.2.2.2.1.locals = 67) (hM : M10_1 C.2.1 mc ms p q) : j_Call C b_2_1 n_KT G.1 G.2.1 1 (.invokespecial 11) mc ms (fun a S V => ∃ u0 : Int, a = [(2, u0)] ∧ S.1 u0 = 29 ∧ p u0 S V) (fun a S V rs S' V' => ∃ u0 : Int, a = [(2, u0)] ∧ rs = [] ∧ q u0 S V S' V') := j_callI n_NWk h.2.2.2.2.2 h.1 hM ⟨h.2.1.1, h.2.1.2, h.2.2.1, h.2.2.2.1, h.2.2.2.2.1⟩ ⟨n_CB (y := y_10_1) (bytes := b_10_1) 0 h.2.2.2.2.1 n_w162 n_w160 n_w7 ⟨by decide, by decide, by decide +kernel⟩ rfl rfl ⟨by rw [hrm.1]; exact Nat.le_of_ble_eq_true rfl, by rw [hrm.2]; exact Nat.le_of_ble_eq_true rfl⟩, rfl, h.2.2.2.2.1 _ n_w161⟩ (Cn := RX8) (fun a S V hP => by obtain ⟨u0, rfl, e, -⟩ := hP; exact ⟨u0, _, 8, _, _, TX8, 3, rfl, rfl, by rw [e]; decide, by rw [e]; rfl, rfl⟩)
theorem K2_1_20 {C : qCx} {G : jG} {mc ms : Nat} {p : Int → jS → jH → Prop} {q : Int → jS → jH → jS → jH → Prop} (h : x2_1 C G) (hrm : C.2.2.2.1.frames = 3 ∧ C.2.2.2.1.locals = 67) (hM : M6_1 C.2.1 mc ms p q) : j_Call C b_2_1 n_KT G.1 G.2.1 1 (.invokespecial 20) mc ms (fun a S V => ∃ u0 : Int, a = [(2, u0)] ∧ S.1 u0 = 25 ∧ p u0 S V) (fun a S V rs S' V' => ∃ u0 : Int, a = [(2, u0)] ∧ rs = [] ∧ q u0 S V S' V') := j_callIN n_NWk h.2.2.2.2.2 h.1 hM ⟨h.2.1.1, h.2.1.2, h.2.2.1, h.2.2.2.1, h.2.2.2.2.1⟩ ⟨n_CN (y := y_6_1) (bytes := b_6_1) 0 h.2.2.2.2.1 n_w201 (h.2.2.2.2.2.2 _ (List.mem_of_getElem? (i := 8) rfl)) n_w9 ⟨by decide, by decide, by decide +kernel⟩ rfl rfl ⟨by rw [hrm.1]; exact Nat.le_of_ble_eq_true rfl, by rw [hrm.2]; exact Nat.le_of_ble_eq_true rfl⟩, rfl, h.2.2.2.2.1 _ n_w200⟩ (Cn := RX4) (fun a S V hP => by obtain ⟨u0, rfl, e, -⟩ := hP; exact ⟨u0, _, 4, _, _, TX4, 2, rfl, rfl, by rw [e]; decide, by rw [e]; rfl, rfl⟩)
theorem K2_1_31 {C : qCx} {G : jG} {mc ms : Nat} {p : Int → jS → jH → Prop} {q : Int → jS → jH → jS → jH → Prop} (h : x2_1 C G) (hrm : C.2.2.2.1.frames = 3 ∧ C.2.2.2.1.locals = 67) (hM : M9_1 C.2.1 mc ms p q) : j_Call C b_2_1 n_KT G.1 G.2.1 1 (.invokespecial 27) mc ms (fun a S V => ∃ u0 : Int, a = [(2, u0)] ∧ S.1 u0 = 28 ∧ p u0 S V) (fun a S V rs S' V' => ∃ u0 : Int, a = [(2, u0)] ∧ rs = [] ∧ q u0 S V S' V') := j_callIN n_NWk h.2.2.2.2.2 h.1 hM ⟨h.2.1.1, h.2.1.2, h.2.2.1, h.2.2.2.1, h.2.2.2.2.1⟩ ⟨n_CN (y := y_9_1) (bytes := b_9_1) 0 h.2.2.2.2.1 n_w45 (h.2.2.2.2.2.2 _ (List.mem_of_getElem? (i := 9) rfl)) n_w4 ⟨by decide, by decide, by decide +kernel⟩ rfl rfl ⟨by rw [hrm.1]; exact Nat.le_of_ble_eq_true rfl, by rw [hrm.2]; exact Nat.le_of_ble_eq_true rfl⟩, rfl, h.2.2.2.2.1 _ n_w44⟩ (Cn := RX7) (fun a S V hP => by obtain ⟨u0, rfl, e, -⟩ := hP; exact ⟨u0, _, 7, _, _, TX7, 6, rfl, rfl, by rw [e]; decide, by rw [e]; rfl, rfl⟩)
theorem t2_1_0 {C : qCx} {G : jG} {S : jS} {V : jH} {nc ns : Nat} {l0 a1 : Int} {mc ms : Nat} {pp : Int → jS → jH → Prop} {qq : Int → jS → jH → jS → jH → Prop} (h : x2_1 C G) (hrm : C.2.2.2.1.frames = 3 ∧ C.2.2.2.1.locals = 67) (hR : 1 ≤ C.2.2.2.1.frames ∧ 26 ≤ C.2.2.2.1.locals) (c1 : S.1 l0 = 21) (c2 : 0 ≤ a1) (c3 : S.1 a1 = 0) (c4 : nc + 1 ≤ C.2.2.2.1.cells) (c5 : ns + 3 ≤ C.2.2.2.1.slots) (hM : M10_1 C.2.1 mc ms pp qq) (hp : pp a1 (j_ns S a1 29) (j_nv V a1)) (hc : (nc + 1) + mc ≤ C.2.2.2.1.cells) (hs : (ns + 3) + ms ≤ C.2.2.2.1.slots) (k : ∀ (S' : jS) (V' : jH), qq a1 (j_ns S a1 29) (j_nv V a1) S' V' → j_ok n_KT 1 C G 12 [(0, (2, l0))] [(2, a1), (2, l0)] S' V' ((nc + 1) + mc) ((ns + 3) + ms)) : j_ok n_KT 1 C G 0 [(0, (2, l0))] [] S V nc ns := by
  have E := n_E h
  refine j_aload_n E d2_1_0 rfl 0 rfl ?_
  refine j_objInit (fo0_3 h ⟨hR.1, by omega⟩) d2_1_1 (by rw [c1]; decide) (Nat.le_of_ble_eq_true rfl) ?_
  refine j_aload_n E d2_1_4 rfl 0 rfl ?_
  refine j_new (k := 29) E (fn0_9 h) d2_1_5 a1 c2 c3 (by decide) rfl (by decide) (by decide) (by decide) c4 c5 ?_
  refine j_dup E d2_1_8 rfl ?_
  refine j_call E (K2_1_9 h hrm hM) d2_1_9 (a := [(2, a1)]) (sk := [(2, a1), (2, l0)]) rfl ⟨a1, rfl, (j_nsa _ _ _), hp⟩ (Nat.le_of_ble_eq_true rfl) hc hs ?_
  rintro rs S' V' ⟨z0, e1, rfl, q⟩
  simp only [List.cons.injEq, Prod.mk.injEq, and_true, true_and] at e1
  obtain ⟨rfl⟩ := e1
  exact j_pick [0] rfl (k S' V' q)
theorem t2_1_12 {C : qCx} {G : jG} {S : jS} {V : jH} {nc ns : Nat} {l0 s0 s1 a1 : Int} {mc ms : Nat} {pp : Int → jS → jH → Prop} {qq : Int → jS → jH → jS → jH → Prop} (h : x2_1 C G) (hrm : C.2.2.2.1.frames = 3 ∧ C.2.2.2.1.locals = 67) (hin : C.2.2.2.2.2.2.2.2.1.name = "<init>") (c1 : S.1 s1 = 21) (c2 : S.1 s0 = 29) (c3 : 0 ≤ a1) (c4 : (j_sp S s1 0 s0).1 a1 = 0) (c5 : nc + 1 ≤ C.2.2.2.1.cells) (c6 : ns + 2 ≤ C.2.2.2.1.slots) (hM : M6_1 C.2.1 mc ms pp qq) (hp : pp a1 (j_ns (j_sp S s1 0 s0) a1 25) (j_nv V a1)) (hc : (nc + 1) + mc ≤ C.2.2.2.1.cells) (hs : (ns + 2) + ms ≤ C.2.2.2.1.slots) (k : ∀ (S' : jS) (V' : jH), qq a1 (j_ns (j_sp S s1 0 s0) a1 25) (j_nv V a1) S' V' → j_ok n_KT 1 C G 23 [(0, (2, l0))] [(2, a1), (2, l0)] S' V' ((nc + 1) + mc) ((ns + 2) + ms)) : j_ok n_KT 1 C G 12 [(0, (2, l0))] [(2, s0), (2, s1)] S V nc ns := by
  have E := n_E h
  refine j_putR (f := 0) (fp0_12 h hin) (n_hap h 21 0 0 _ rfl) d2_1_12 c1 (by decide) rfl rfl rfl (by decide) (Or.inr c2) ?_
  refine j_aload_n E d2_1_15 rfl 0 rfl ?_
  refine j_new (k := 25) E (fn0_18 h) d2_1_16 a1 c3 c4 (by decide) rfl (by decide) (by decide) (by decide) c5 c6 ?_
  refine j_dup E d2_1_19 rfl ?_
  refine j_call E (K2_1_20 h hrm hM) d2_1_20 (a := [(2, a1)]) (sk := [(2, a1), (2, l0)]) rfl ⟨a1, rfl, (j_nsa _ _ _), hp⟩ (Nat.le_of_ble_eq_true rfl) hc hs ?_
  rintro rs S' V' ⟨z0, e1, rfl, q⟩
  simp only [List.cons.injEq, Prod.mk.injEq, and_true, true_and] at e1
  obtain ⟨rfl⟩ := e1
  exact j_pick [0] rfl (k S' V' q)
theorem t2_1_23 {C : qCx} {G : jG} {S : jS} {V : jH} {nc ns : Nat} {l0 s0 s1 a1 : Int} {mc ms : Nat} {pp : Int → jS → jH → Prop} {qq : Int → jS → jH → jS → jH → Prop} (h : x2_1 C G) (hrm : C.2.2.2.1.frames = 3 ∧ C.2.2.2.1.locals = 67) (hin : C.2.2.2.2.2.2.2.2.1.name = "<init>") (c1 : S.1 s1 = 21) (c2 : S.1 s0 = 25) (c3 : 0 ≤ a1) (c4 : (j_sp S s1 1 s0).1 a1 = 0) (c5 : nc + 1 ≤ C.2.2.2.1.cells) (c6 : ns + 6 ≤ C.2.2.2.1.slots) (hM : M9_1 C.2.1 mc ms pp qq) (hp : pp a1 (j_ns (j_sp S s1 1 s0) a1 28) (j_nv V a1)) (hc : (nc + 1) + mc ≤ C.2.2.2.1.cells) (hs : (ns + 6) + ms ≤ C.2.2.2.1.slots) (k : ∀ (S' : jS) (V' : jH), qq a1 (j_ns (j_sp S s1 1 s0) a1 28) (j_nv V a1) S' V' → j_ok n_KT 1 C G 34 [(0, (2, l0))] [(2, a1), (2, l0)] S' V' ((nc + 1) + mc) ((ns + 6) + ms)) : j_ok n_KT 1 C G 23 [(0, (2, l0))] [(2, s0), (2, s1)] S V nc ns := by
  have E := n_E h
  refine j_putR (f := 1) (fp0_21 h hin) (n_hap h 21 0 0 _ rfl) d2_1_23 c1 (by decide) rfl rfl rfl (by decide) (Or.inr c2) ?_
  refine j_aload_n E d2_1_26 rfl 0 rfl ?_
  refine j_new (k := 28) E (fn0_25 h) d2_1_27 a1 c3 c4 (by decide) rfl (by decide) (by decide) (by decide) c5 c6 ?_
  refine j_dup E d2_1_30 rfl ?_
  refine j_call E (K2_1_31 h hrm hM) d2_1_31 (a := [(2, a1)]) (sk := [(2, a1), (2, l0)]) rfl ⟨a1, rfl, (j_nsa _ _ _), hp⟩ (Nat.le_of_ble_eq_true rfl) hc hs ?_
  rintro rs S' V' ⟨z0, e1, rfl, q⟩
  simp only [List.cons.injEq, Prod.mk.injEq, and_true, true_and] at e1
  obtain ⟨rfl⟩ := e1
  exact j_pick [0] rfl (k S' V' q)
theorem t2_1_34 {C : qCx} {G : jG} {S : jS} {V : jH} {nc ns : Nat} {l0 s0 s1 a1 a2 : Int} {mc ms : Nat} {qf : jS → jH → Prop} (h : x2_1 C G) (hin : C.2.2.2.2.2.2.2.2.1.name = "<init>") (c1 : S.1 s1 = 21) (c2 : S.1 s0 = 28) (c3 : 0 ≤ a1) (c4 : (j_sp S s1 2 s0).1 a1 = 0) (c5 : nc + 1 ≤ C.2.2.2.1.cells) (c6 : ns + 4 ≤ C.2.2.2.1.slots) (c7 : (j_ns (j_sp S s1 2 s0) a1 4).1 l0 = 21) (c8 : 0 ≤ a2) (c9 : (j_sp (j_ns (j_sp S s1 2 s0) a1 4) l0 3 a1).1 a2 = 0) (c10 : nc + 1 + 1 ≤ C.2.2.2.1.cells) (c11 : ns + 4 + 800 ≤ C.2.2.2.1.slots) (R : j_Rv n_KT 1 C G b_2_1 mc ms qf) (q : qf (j_sp (j_ns (j_sp (j_ns (j_sp S s1 2 s0) a1 4) l0 3 a1) a2 5) l0 4 a2) (j_up (j_nv (j_nv V a1) a2) l0 5 0)) (hc : nc + 1 + 1 ≤ mc) (hs : ns + 4 + 800 ≤ ms) : j_ok n_KT 1 C G 34 [(0, (2, l0))] [(2, s0), (2, s1)] S V nc ns := by
  have E := n_E h
  refine j_putR (f := 2) (fp0_28 h hin) (n_hap h 21 0 0 _ rfl) d2_1_34 c1 (by decide) rfl rfl rfl (by decide) (Or.inr c2) ?_
  refine j_aload_n E d2_1_37 rfl 0 rfl ?_
  refine j_iconst E d2_1_38 (by decide) ?_
  obtain ⟨cA1, hA1, hB1⟩ := fa_int h
  refine j_newarray (n := 4) (k := 4) E hA1 hB1 d2_1_39 a1 c3 c4 (by decide) rfl rfl rfl rfl (by decide) c5 c6 ?_
  refine j_putR (f := 3) (fp0_32 h hin) (n_hap h 21 0 0 _ rfl) d2_1_41 c7 (by decide) rfl rfl rfl (by decide) (Or.inr (j_nsa _ _ _)) ?_
  refine j_aload_n E d2_1_44 rfl 0 rfl ?_
  refine j_sipush E d2_1_45 (by decide) ?_
  obtain ⟨cA2, hA2, hB2⟩ := fa_int h
  refine j_newarray (n := 800) (k := 5) E hA2 hB2 d2_1_48 a2 c8 c9 (by decide) rfl rfl rfl rfl (by decide) c10 c11 ?_
  refine j_putR (f := 4) (fp0_36 h hin) (n_hap h 21 0 0 _ rfl) d2_1_50 (j_nsk c9 c7 (by decide)) (by decide) rfl rfl rfl (by decide) (Or.inr (j_nsa _ _ _)) ?_
  refine j_aload_n E d2_1_53 rfl 0 rfl ?_
  refine j_iconst E d2_1_54 (by decide) ?_
  refine j_putI (f := 5) (fp0_39 h) (n_hap h 21 0 0 _ rfl) d2_1_55 (j_nsk c9 c7 (by decide)) (by decide) rfl rfl rfl ?_
  exact R _ _ _ _ _ _ d2_1_58 q hc hs
/- BalanceCoder$Dealer.<init>()V -/
abbrev b_5_1 : ByteArray := prog_5_method_1_code
def y_5_1 : MethodName := ⟨"BalanceCoder$Dealer", "<init>", "()V"⟩
abbrev x5_1 (C : qCx) (G : jG) : Prop := n_ctx C b_5_1 1 "BalanceCoder$Dealer" G.1 G.2.1
def M5_1 (l : Launch) (mc ms : Nat) (p : Int → jS → jH → Prop) (q : Int → jS → jH → jS → jH → Prop) : Prop := j_Met l vwCl n_TL n_NW n_KT y_5_1 (Cond.code y_5_1 b_5_1 1 none :: n_GW) { frames := 1, cells := mc, slots := ms, locals := 26 } mc ms (fun a S V => ∃ u0 : Int, a = [(2, u0)] ∧ S.1 u0 = 24 ∧ p u0 S V) (fun a S V rs S' V' => ∃ u0 : Int, a = [(2, u0)] ∧ rs = [] ∧ q u0 S V S' V')
theorem e5_1 {l : Launch} {mc ms : Nat} {p : Int → jS → jH → Prop} {q : Int → jS → jH → jS → jH → Prop} (body : ∀ (C : qCx) (G : jG), x5_1 C G → C.2.2.2.1.frames = 1 ∧ C.2.2.2.1.locals = 26 → C.2.2.2.1.cells = mc ∧ C.2.2.2.1.slots = ms → C.2.1 = l → C.2.2.2.2.2.2.2.2.1.name = "<init>" → ∀ (u0 : Int) (S : jS) (V : jH), S.1 u0 = 24 → p u0 S V → j_Rv n_KT 1 C G b_5_1 mc ms (q u0 S V) → j_ok n_KT 1 C G 0 [(0, (2, u0))] [] S V 0 0) : M5_1 l mc ms p q := by
  refine j_method (ws' := n_GW) (by decide) rfl ?_ ?_
  · rintro a S V ⟨u0, rfl, -⟩
    exact Nat.le_of_ble_eq_true rfl
  · rintro C G htl hl hrm hm hml ho hts hnm hE a S V ⟨u0, rfl, ht, hp⟩ R
    exact body C G ⟨htl, hm, hml, ho, fun w hw => hts w (List.mem_cons_of_mem _ hw), hE⟩ (by rw [hrm]; exact ⟨rfl, rfl⟩) (by rw [hrm]; exact ⟨rfl, rfl⟩) hl hnm u0 S V ht hp (fun pc lo S' V' nc ns d q hc hs => R.1 rfl pc lo S' V' nc ns d ⟨u0, rfl, rfl, q⟩ hc hs)
theorem d5_1_0 : decode b_5_1 0 = .ok (.aload_n 0, 1) := by decide +kernel
theorem d5_1_1 : decode b_5_1 1 = .ok (.invokespecial 3, 3) := by decide +kernel
theorem d5_1_4 : decode b_5_1 4 = .ok (.aload_n 0, 1) := by decide +kernel
theorem d5_1_5 : decode b_5_1 5 = .ok (.sipush 256, 3) := by decide +kernel
theorem d5_1_8 : decode b_5_1 8 = .ok (.newarray .int, 2) := by decide +kernel
theorem d5_1_10 : decode b_5_1 10 = .ok (.putfield 9, 3) := by decide +kernel
theorem d5_1_13 : decode b_5_1 13 = .ok (.aload_n 0, 1) := by decide +kernel
theorem d5_1_14 : decode b_5_1 14 = .ok (.sipush 256, 3) := by decide +kernel
theorem d5_1_17 : decode b_5_1 17 = .ok (.newarray .int, 2) := by decide +kernel
theorem d5_1_19 : decode b_5_1 19 = .ok (.putfield 15, 3) := by decide +kernel
theorem d5_1_22 : decode b_5_1 22 = .ok (.aload_n 0, 1) := by decide +kernel
theorem d5_1_23 : decode b_5_1 23 = .ok (.iconst 0, 1) := by decide +kernel
theorem d5_1_24 : decode b_5_1 24 = .ok (.putfield 18, 3) := by decide +kernel
theorem d5_1_27 : decode b_5_1 27 = .ok (.aload_n 0, 1) := by decide +kernel
theorem d5_1_28 : decode b_5_1 28 = .ok (.aconst_null, 1) := by decide +kernel
theorem d5_1_29 : decode b_5_1 29 = .ok (.putfield 22, 3) := by decide +kernel
theorem d5_1_32 : decode b_5_1 32 = .ok (.return_, 1) := by decide +kernel
theorem t5_1_0 {C : qCx} {G : jG} {S : jS} {V : jH} {nc ns : Nat} {l0 a1 a2 : Int} {mc ms : Nat} {qf : jS → jH → Prop} (h : x5_1 C G) (hR : 1 ≤ C.2.2.2.1.frames ∧ 26 ≤ C.2.2.2.1.locals) (hin : C.2.2.2.2.2.2.2.2.1.name = "<init>") (c1 : S.1 l0 = 24) (c2 : 0 ≤ a1) (c3 : S.1 a1 = 0) (c4 : nc + 1 ≤ C.2.2.2.1.cells) (c5 : ns + 256 ≤ C.2.2.2.1.slots) (c6 : 0 ≤ a2) (c7 : (j_sp (j_ns S a1 3) l0 0 a1).1 a2 = 0) (c8 : nc + 1 + 1 ≤ C.2.2.2.1.cells) (c9 : ns + 256 + 256 ≤ C.2.2.2.1.slots) (R : j_Rv n_KT 1 C G b_5_1 mc ms qf) (q : qf (j_sp (j_sp (j_ns (j_sp (j_ns S a1 3) l0 0 a1) a2 3) l0 1 a2) l0 3 (-1)) (j_up (j_nv (j_nv V a1) a2) l0 2 0)) (hc : nc + 1 + 1 ≤ mc) (hs : ns + 256 + 256 ≤ ms) : j_ok n_KT 1 C G 0 [(0, (2, l0))] [] S V nc ns := by
  have E := n_E h
  refine j_aload_n E d5_1_0 rfl 0 rfl ?_
  refine j_objInit (fo3_3 h ⟨hR.1, by omega⟩) d5_1_1 (by rw [c1]; decide) (Nat.le_of_ble_eq_true rfl) ?_
  refine j_aload_n E d5_1_4 rfl 0 rfl ?_
  refine j_sipush E d5_1_5 (by decide) ?_
  obtain ⟨cA1, hA1, hB1⟩ := fa_int h
  refine j_newarray (n := 256) (k := 3) E hA1 hB1 d5_1_8 a1 c2 c3 (by decide) rfl rfl rfl rfl (by decide) c4 c5 ?_
  refine j_putR (f := 0) (fp3_9 h hin) (n_hap h 24 3 0 _ rfl) d5_1_10 (j_nsk c3 c1 (by decide)) (by decide) rfl rfl rfl (by decide) (Or.inr (j_nsa _ _ _)) ?_
  refine j_aload_n E d5_1_13 rfl 0 rfl ?_
  refine j_sipush E d5_1_14 (by decide) ?_
  obtain ⟨cA2, hA2, hB2⟩ := fa_int h
  refine j_newarray (n := 256) (k := 3) E hA2 hB2 d5_1_17 a2 c6 c7 (by decide) rfl rfl rfl rfl (by decide) c8 c9 ?_
  refine j_putR (f := 1) (fp3_15 h hin) (n_hap h 24 3 0 _ rfl) d5_1_19 (j_nsk c7 (j_nsk c3 c1 (by decide)) (by decide)) (by decide) rfl rfl rfl (by decide) (Or.inr (j_nsa _ _ _)) ?_
  refine j_aload_n E d5_1_22 rfl 0 rfl ?_
  refine j_iconst E d5_1_23 (by decide) ?_
  refine j_putI (f := 2) (fp3_18 h) (n_hap h 24 3 0 _ rfl) d5_1_24 (j_nsk c7 (j_nsk c3 c1 (by decide)) (by decide)) (by decide) rfl rfl rfl ?_
  refine j_aload_n E d5_1_27 rfl 0 rfl ?_
  refine j_null E d5_1_28 ?_
  refine j_putR (f := 3) (fp3_22 h) (n_hap h 24 3 0 _ rfl) d5_1_29 (j_nsk c7 (j_nsk c3 c1 (by decide)) (by decide)) (by decide) rfl rfl rfl (by decide) (Or.inl rfl) ?_
  exact R _ _ _ _ _ _ d5_1_32 q hc hs
/- BalanceCoder$Reader.<init>()V -/
abbrev b_7_1 : ByteArray := prog_7_method_1_code
def y_7_1 : MethodName := ⟨"BalanceCoder$Reader", "<init>", "()V"⟩
abbrev x7_1 (C : qCx) (G : jG) : Prop := n_ctx C b_7_1 1 "BalanceCoder$Reader" G.1 G.2.1
def M7_1 (l : Launch) (mc ms : Nat) (p : Int → jS → jH → Prop) (q : Int → jS → jH → jS → jH → Prop) : Prop := j_Met l vwCl n_TL n_NW n_KT y_7_1 (Cond.code y_7_1 b_7_1 1 none :: n_GW) { frames := 1, cells := mc, slots := ms, locals := 26 } mc ms (fun a S V => ∃ u0 : Int, a = [(2, u0)] ∧ S.1 u0 = 26 ∧ p u0 S V) (fun a S V rs S' V' => ∃ u0 : Int, a = [(2, u0)] ∧ rs = [] ∧ q u0 S V S' V')
theorem e7_1 {l : Launch} {mc ms : Nat} {p : Int → jS → jH → Prop} {q : Int → jS → jH → jS → jH → Prop} (body : ∀ (C : qCx) (G : jG), x7_1 C G → C.2.2.2.1.frames = 1 ∧ C.2.2.2.1.locals = 26 → C.2.2.2.1.cells = mc ∧ C.2.2.2.1.slots = ms → C.2.1 = l → C.2.2.2.2.2.2.2.2.1.name = "<init>" → ∀ (u0 : Int) (S : jS) (V : jH), S.1 u0 = 26 → p u0 S V → j_Rv n_KT 1 C G b_7_1 mc ms (q u0 S V) → j_ok n_KT 1 C G 0 [(0, (2, u0))] [] S V 0 0) : M7_1 l mc ms p q := by
  refine j_method (ws' := n_GW) (by decide) rfl ?_ ?_
  · rintro a S V ⟨u0, rfl, -⟩
    exact Nat.le_of_ble_eq_true rfl
  · rintro C G htl hl hrm hm hml ho hts hnm hE a S V ⟨u0, rfl, ht, hp⟩ R
    exact body C G ⟨htl, hm, hml, ho, fun w hw => hts w (List.mem_cons_of_mem _ hw), hE⟩ (by rw [hrm]; exact ⟨rfl, rfl⟩) (by rw [hrm]; exact ⟨rfl, rfl⟩) hl hnm u0 S V ht hp (fun pc lo S' V' nc ns d q hc hs => R.1 rfl pc lo S' V' nc ns d ⟨u0, rfl, rfl, q⟩ hc hs)
theorem d7_1_0 : decode b_7_1 0 = .ok (.aload_n 0, 1) := by decide +kernel
theorem d7_1_1 : decode b_7_1 1 = .ok (.invokespecial 3, 3) := by decide +kernel
theorem d7_1_4 : decode b_7_1 4 = .ok (.aload_n 0, 1) := by decide +kernel
theorem d7_1_5 : decode b_7_1 5 = .ok (.iconst 0, 1) := by decide +kernel
theorem d7_1_6 : decode b_7_1 6 = .ok (.putfield 9, 3) := by decide +kernel
theorem d7_1_9 : decode b_7_1 9 = .ok (.aload_n 0, 1) := by decide +kernel
theorem d7_1_10 : decode b_7_1 10 = .ok (.iconst (-1), 1) := by decide +kernel
theorem d7_1_11 : decode b_7_1 11 = .ok (.putfield 15, 3) := by decide +kernel
theorem d7_1_14 : decode b_7_1 14 = .ok (.return_, 1) := by decide +kernel
theorem t7_1_0 {C : qCx} {G : jG} {S : jS} {V : jH} {nc ns : Nat} {l0 : Int} {mc ms : Nat} {qf : jS → jH → Prop} (h : x7_1 C G) (hR : 1 ≤ C.2.2.2.1.frames ∧ 26 ≤ C.2.2.2.1.locals) (c1 : S.1 l0 = 26) (R : j_Rv n_KT 1 C G b_7_1 mc ms qf) (q : qf S (j_up (j_up V l0 0 0) l0 1 ((-1)))) (hc : nc ≤ mc) (hs : ns ≤ ms) : j_ok n_KT 1 C G 0 [(0, (2, l0))] [] S V nc ns := by
  have E := n_E h
  refine j_aload_n E d7_1_0 rfl 0 rfl ?_
  refine j_objInit (fo5_3 h ⟨hR.1, by omega⟩) d7_1_1 (by rw [c1]; decide) (Nat.le_of_ble_eq_true rfl) ?_
  refine j_aload_n E d7_1_4 rfl 0 rfl ?_
  refine j_iconst E d7_1_5 (by decide) ?_
  refine j_putI (f := 0) (fp5_9 h) (n_hap h 26 5 0 _ rfl) d7_1_6 c1 (by decide) rfl rfl rfl ?_
  refine j_aload_n E d7_1_9 rfl 0 rfl ?_
  refine j_iconst E d7_1_10 (by decide) ?_
  refine j_putI (f := 1) (fp5_15 h) (n_hap h 26 5 0 _ rfl) d7_1_11 c1 (by decide) rfl rfl rfl ?_
  exact R _ _ _ _ _ _ d7_1_14 q hc hs
/- BalanceCoder.<init>()V -/
abbrev b_1_1 : ByteArray := prog_1_method_1_code
def y_1_1 : MethodName := ⟨"BalanceCoder", "<init>", "()V"⟩
abbrev x1_1 (C : qCx) (G : jG) : Prop := n_ctx C b_1_1 1 "BalanceCoder" G.1 G.2.1
def M1_1 (l : Launch) (mc ms : Nat) (p : Int → jS → jH → Prop) (q : Int → jS → jH → jS → jH → Prop) : Prop := j_Met l vwCl n_TL n_NW n_KT y_1_1 (Cond.code y_1_1 b_1_1 1 none :: n_GW) { frames := 4, cells := mc, slots := ms, locals := 87 } mc ms (fun a S V => ∃ u0 : Int, a = [(2, u0)] ∧ S.1 u0 = 31 ∧ p u0 S V) (fun a S V rs S' V' => ∃ u0 : Int, a = [(2, u0)] ∧ rs = [] ∧ q u0 S V S' V')
theorem e1_1 {l : Launch} {mc ms : Nat} {p : Int → jS → jH → Prop} {q : Int → jS → jH → jS → jH → Prop} (body : ∀ (C : qCx) (G : jG), x1_1 C G → C.2.2.2.1.frames = 4 ∧ C.2.2.2.1.locals = 87 → C.2.2.2.1.cells = mc ∧ C.2.2.2.1.slots = ms → C.2.1 = l → C.2.2.2.2.2.2.2.2.1.name = "<init>" → ∀ (u0 : Int) (S : jS) (V : jH), S.1 u0 = 31 → p u0 S V → j_Rv n_KT 1 C G b_1_1 mc ms (q u0 S V) → j_ok n_KT 1 C G 0 [(0, (2, u0))] [] S V 0 0) : M1_1 l mc ms p q := by
  refine j_method (ws' := n_GW) (by decide) rfl ?_ ?_
  · rintro a S V ⟨u0, rfl, -⟩
    exact Nat.le_of_ble_eq_true rfl
  · rintro C G htl hl hrm hm hml ho hts hnm hE a S V ⟨u0, rfl, ht, hp⟩ R
    exact body C G ⟨htl, hm, hml, ho, fun w hw => hts w (List.mem_cons_of_mem _ hw), hE⟩ (by rw [hrm]; exact ⟨rfl, rfl⟩) (by rw [hrm]; exact ⟨rfl, rfl⟩) hl hnm u0 S V ht hp (fun pc lo S' V' nc ns d q hc hs => R.1 rfl pc lo S' V' nc ns d ⟨u0, rfl, rfl, q⟩ hc hs)
theorem d1_1_0 : decode b_1_1 0 = .ok (.aload_n 0, 1) := by decide +kernel
theorem d1_1_1 : decode b_1_1 1 = .ok (.invokespecial 1, 3) := by decide +kernel
theorem d1_1_4 : decode b_1_1 4 = .ok (.aload_n 0, 1) := by decide +kernel
theorem d1_1_5 : decode b_1_1 5 = .ok (.new 7, 3) := by decide +kernel
theorem d1_1_8 : decode b_1_1 8 = .ok (.dup, 1) := by decide +kernel
theorem d1_1_9 : decode b_1_1 9 = .ok (.invokespecial 9, 3) := by decide +kernel
theorem d1_1_12 : decode b_1_1 12 = .ok (.putfield 10, 3) := by decide +kernel
theorem d1_1_15 : decode b_1_1 15 = .ok (.aload_n 0, 1) := by decide +kernel
theorem d1_1_16 : decode b_1_1 16 = .ok (.aconst_null, 1) := by decide +kernel
theorem d1_1_17 : decode b_1_1 17 = .ok (.putfield 16, 3) := by decide +kernel
theorem d1_1_20 : decode b_1_1 20 = .ok (.aload_n 0, 1) := by decide +kernel
theorem d1_1_21 : decode b_1_1 21 = .ok (.new 19, 3) := by decide +kernel
theorem d1_1_24 : decode b_1_1 24 = .ok (.dup, 1) := by decide +kernel
theorem d1_1_25 : decode b_1_1 25 = .ok (.invokespecial 21, 3) := by decide +kernel
theorem d1_1_28 : decode b_1_1 28 = .ok (.putfield 22, 3) := by decide +kernel
theorem d1_1_31 : decode b_1_1 31 = .ok (.aload_n 0, 1) := by decide +kernel
theorem d1_1_32 : decode b_1_1 32 = .ok (.new 26, 3) := by decide +kernel
theorem d1_1_35 : decode b_1_1 35 = .ok (.dup, 1) := by decide +kernel
theorem d1_1_36 : decode b_1_1 36 = .ok (.invokespecial 28, 3) := by decide +kernel
theorem d1_1_39 : decode b_1_1 39 = .ok (.putfield 29, 3) := by decide +kernel
theorem d1_1_42 : decode b_1_1 42 = .ok (.aload_n 0, 1) := by decide +kernel
theorem d1_1_43 : decode b_1_1 43 = .ok (.new 33, 3) := by decide +kernel
theorem d1_1_46 : decode b_1_1 46 = .ok (.dup, 1) := by decide +kernel
theorem d1_1_47 : decode b_1_1 47 = .ok (.invokespecial 35, 3) := by decide +kernel
theorem d1_1_50 : decode b_1_1 50 = .ok (.putfield 36, 3) := by decide +kernel
theorem d1_1_53 : decode b_1_1 53 = .ok (.aload_n 0, 1) := by decide +kernel
theorem d1_1_54 : decode b_1_1 54 = .ok (.sipush 400, 3) := by decide +kernel
theorem d1_1_57 : decode b_1_1 57 = .ok (.newarray .int, 2) := by decide +kernel
theorem d1_1_59 : decode b_1_1 59 = .ok (.putfield 40, 3) := by decide +kernel
theorem d1_1_62 : decode b_1_1 62 = .ok (.aload_n 0, 1) := by decide +kernel
theorem d1_1_63 : decode b_1_1 63 = .ok (.iconst 0, 1) := by decide +kernel
theorem d1_1_64 : decode b_1_1 64 = .ok (.putfield 44, 3) := by decide +kernel
theorem d1_1_67 : decode b_1_1 67 = .ok (.aload_n 0, 1) := by decide +kernel
theorem d1_1_68 : decode b_1_1 68 = .ok (.iconst 0, 1) := by decide +kernel
theorem d1_1_69 : decode b_1_1 69 = .ok (.putfield 48, 3) := by decide +kernel
theorem d1_1_72 : decode b_1_1 72 = .ok (.return_, 1) := by decide +kernel
theorem K1_1_9 {C : qCx} {G : jG} {mc ms : Nat} {p : Int → jS → jH → Prop} {q : Int → jS → jH → jS → jH → Prop} (h : x1_1 C G) (hrm : C.2.2.2.1.frames = 4 ∧ C.2.2.2.1.locals = 87) (hM : M11_1 C.2.1 mc ms p q) : j_Call C b_1_1 n_KT G.1 G.2.1 1 (.invokespecial 9) mc ms (fun a S V => ∃ u0 : Int, a = [(2, u0)] ∧ S.1 u0 = 30 ∧ p u0 S V) (fun a S V rs S' V' => ∃ u0 : Int, a = [(2, u0)] ∧ rs = [] ∧ q u0 S V S' V') := j_callI n_NWk h.2.2.2.2.2 h.1 hM ⟨h.2.1.1, h.2.1.2, h.2.2.1, h.2.2.2.1, h.2.2.2.2.1⟩ ⟨n_CB (y := y_11_1) (bytes := b_11_1) 0 h.2.2.2.2.1 n_w29 n_w27 n_w2 ⟨by decide, by decide, by decide +kernel⟩ rfl rfl ⟨by rw [hrm.1]; exact Nat.le_of_ble_eq_true rfl, by rw [hrm.2]; exact Nat.le_of_ble_eq_true rfl⟩, rfl, h.2.2.2.2.1 _ n_w28⟩ (Cn := RX9) (fun a S V hP => by obtain ⟨u0, rfl, e, -⟩ := hP; exact ⟨u0, _, 9, _, _, TX9, 6, rfl, rfl, by rw [e]; decide, by rw [e]; rfl, rfl⟩)
theorem K1_1_25 {C : qCx} {G : jG} {mc ms : Nat} {p : Int → jS → jH → Prop} {q : Int → jS → jH → jS → jH → Prop} (h : x1_1 C G) (hrm : C.2.2.2.1.frames = 4 ∧ C.2.2.2.1.locals = 87) (hM : M2_1 C.2.1 mc ms p q) : j_Call C b_1_1 n_KT G.1 G.2.1 1 (.invokespecial 21) mc ms (fun a S V => ∃ u0 : Int, a = [(2, u0)] ∧ S.1 u0 = 21 ∧ p u0 S V) (fun a S V rs S' V' => ∃ u0 : Int, a = [(2, u0)] ∧ rs = [] ∧ q u0 S V S' V') := j_callIN n_NWk h.2.2.2.2.2 h.1 hM ⟨h.2.1.1, h.2.1.2, h.2.2.1, h.2.2.2.1, h.2.2.2.2.1⟩ ⟨n_CN (y := y_2_1) (bytes := b_2_1) 0 h.2.2.2.2.1 n_w156 (h.2.2.2.2.2.2 _ (List.mem_of_getElem? (i := 10) rfl)) n_w6 ⟨by decide, by decide, by decide +kernel⟩ rfl rfl ⟨by rw [hrm.1]; exact Nat.le_of_ble_eq_true rfl, by rw [hrm.2]; exact Nat.le_of_ble_eq_true rfl⟩, rfl, h.2.2.2.2.1 _ n_w155⟩ (Cn := RX0) (fun a S V hP => by obtain ⟨u0, rfl, e, -⟩ := hP; exact ⟨u0, _, 0, _, _, TX0, 6, rfl, rfl, by rw [e]; decide, by rw [e]; rfl, rfl⟩)
theorem K1_1_36 {C : qCx} {G : jG} {mc ms : Nat} {p : Int → jS → jH → Prop} {q : Int → jS → jH → jS → jH → Prop} (h : x1_1 C G) (hrm : C.2.2.2.1.frames = 4 ∧ C.2.2.2.1.locals = 87) (hM : M5_1 C.2.1 mc ms p q) : j_Call C b_1_1 n_KT G.1 G.2.1 1 (.invokespecial 28) mc ms (fun a S V => ∃ u0 : Int, a = [(2, u0)] ∧ S.1 u0 = 24 ∧ p u0 S V) (fun a S V rs S' V' => ∃ u0 : Int, a = [(2, u0)] ∧ rs = [] ∧ q u0 S V S' V') := j_callIN n_NWk h.2.2.2.2.2 h.1 hM ⟨h.2.1.1, h.2.1.2, h.2.2.1, h.2.2.2.1, h.2.2.2.2.1⟩ ⟨n_CN (y := y_5_1) (bytes := b_5_1) 0 h.2.2.2.2.1 n_w245 (h.2.2.2.2.2.2 _ (List.mem_of_getElem? (i := 11) rfl)) n_w10 ⟨by decide, by decide, by decide +kernel⟩ rfl rfl ⟨by rw [hrm.1]; exact Nat.le_of_ble_eq_true rfl, by rw [hrm.2]; exact Nat.le_of_ble_eq_true rfl⟩, rfl, h.2.2.2.2.1 _ n_w244⟩ (Cn := RX3) (fun a S V hP => by obtain ⟨u0, rfl, e, -⟩ := hP; exact ⟨u0, _, 3, _, _, TX3, 4, rfl, rfl, by rw [e]; decide, by rw [e]; rfl, rfl⟩)
theorem K1_1_47 {C : qCx} {G : jG} {mc ms : Nat} {p : Int → jS → jH → Prop} {q : Int → jS → jH → jS → jH → Prop} (h : x1_1 C G) (hrm : C.2.2.2.1.frames = 4 ∧ C.2.2.2.1.locals = 87) (hM : M7_1 C.2.1 mc ms p q) : j_Call C b_1_1 n_KT G.1 G.2.1 1 (.invokespecial 35) mc ms (fun a S V => ∃ u0 : Int, a = [(2, u0)] ∧ S.1 u0 = 26 ∧ p u0 S V) (fun a S V rs S' V' => ∃ u0 : Int, a = [(2, u0)] ∧ rs = [] ∧ q u0 S V S' V') := j_callIN n_NWk h.2.2.2.2.2 h.1 hM ⟨h.2.1.1, h.2.1.2, h.2.2.1, h.2.2.2.1, h.2.2.2.2.1⟩ ⟨n_CN (y := y_7_1) (bytes := b_7_1) 0 h.2.2.2.2.1 n_w264 (h.2.2.2.2.2.2 _ (List.mem_of_getElem? (i := 12) rfl)) n_w11 ⟨by decide, by decide, by decide +kernel⟩ rfl rfl ⟨by rw [hrm.1]; exact Nat.le_of_ble_eq_true rfl, by rw [hrm.2]; exact Nat.le_of_ble_eq_true rfl⟩, rfl, h.2.2.2.2.1 _ n_w263⟩ (Cn := RX5) (fun a S V hP => by obtain ⟨u0, rfl, e, -⟩ := hP; exact ⟨u0, _, 5, _, _, TX5, 2, rfl, rfl, by rw [e]; decide, by rw [e]; rfl, rfl⟩)
theorem t1_1_0 {C : qCx} {G : jG} {S : jS} {V : jH} {nc ns : Nat} {l0 a1 : Int} {mc ms : Nat} {pp : Int → jS → jH → Prop} {qq : Int → jS → jH → jS → jH → Prop} (h : x1_1 C G) (hrm : C.2.2.2.1.frames = 4 ∧ C.2.2.2.1.locals = 87) (hR : 1 ≤ C.2.2.2.1.frames ∧ 26 ≤ C.2.2.2.1.locals) (c1 : S.1 l0 = 31) (c2 : 0 ≤ a1) (c3 : S.1 a1 = 0) (c4 : nc + 1 ≤ C.2.2.2.1.cells) (c5 : ns + 6 ≤ C.2.2.2.1.slots) (hM : M11_1 C.2.1 mc ms pp qq) (hp : pp a1 (j_ns S a1 30) (j_nv V a1)) (hc : (nc + 1) + mc ≤ C.2.2.2.1.cells) (hs : (ns + 6) + ms ≤ C.2.2.2.1.slots) (k : ∀ (S' : jS) (V' : jH), qq a1 (j_ns S a1 30) (j_nv V a1) S' V' → j_ok n_KT 1 C G 12 [(0, (2, l0))] [(2, a1), (2, l0)] S' V' ((nc + 1) + mc) ((ns + 6) + ms)) : j_ok n_KT 1 C G 0 [(0, (2, l0))] [] S V nc ns := by
  have E := n_E h
  refine j_aload_n E d1_1_0 rfl 0 rfl ?_
  refine j_objInit (fo10_1 h ⟨hR.1, by omega⟩) d1_1_1 (by rw [c1]; decide) (Nat.le_of_ble_eq_true rfl) ?_
  refine j_aload_n E d1_1_4 rfl 0 rfl ?_
  refine j_new (k := 30) E (fn10_7 h) d1_1_5 a1 c2 c3 (by decide) rfl (by decide) (by decide) (by decide) c4 c5 ?_
  refine j_dup E d1_1_8 rfl ?_
  refine j_call E (K1_1_9 h hrm hM) d1_1_9 (a := [(2, a1)]) (sk := [(2, a1), (2, l0)]) rfl ⟨a1, rfl, (j_nsa _ _ _), hp⟩ (Nat.le_of_ble_eq_true rfl) hc hs ?_
  rintro rs S' V' ⟨z0, e1, rfl, q⟩
  simp only [List.cons.injEq, Prod.mk.injEq, and_true, true_and] at e1
  obtain ⟨rfl⟩ := e1
  exact j_pick [0] rfl (k S' V' q)
theorem t1_1_12 {C : qCx} {G : jG} {S : jS} {V : jH} {nc ns : Nat} {l0 s0 s1 a1 : Int} {mc ms : Nat} {pp : Int → jS → jH → Prop} {qq : Int → jS → jH → jS → jH → Prop} (h : x1_1 C G) (hrm : C.2.2.2.1.frames = 4 ∧ C.2.2.2.1.locals = 87) (hin : C.2.2.2.2.2.2.2.2.1.name = "<init>") (c1 : S.1 s1 = 31) (c2 : S.1 s0 = 30) (c3 : (j_sp S s1 0 s0).1 l0 = 31) (c4 : 0 ≤ a1) (c5 : (j_sp (j_sp S s1 0 s0) l0 1 (-1)).1 a1 = 0) (c6 : nc + 1 ≤ C.2.2.2.1.cells) (c7 : ns + 6 ≤ C.2.2.2.1.slots) (hM : M2_1 C.2.1 mc ms pp qq) (hp : pp a1 (j_ns (j_sp (j_sp S s1 0 s0) l0 1 (-1)) a1 21) (j_nv V a1)) (hc : (nc + 1) + mc ≤ C.2.2.2.1.cells) (hs : (ns + 6) + ms ≤ C.2.2.2.1.slots) (k : ∀ (S' : jS) (V' : jH), qq a1 (j_ns (j_sp (j_sp S s1 0 s0) l0 1 (-1)) a1 21) (j_nv V a1) S' V' → j_ok n_KT 1 C G 28 [(0, (2, l0))] [(2, a1), (2, l0)] S' V' ((nc + 1) + mc) ((ns + 6) + ms)) : j_ok n_KT 1 C G 12 [(0, (2, l0))] [(2, s0), (2, s1)] S V nc ns := by
  have E := n_E h
  refine j_putR (f := 0) (fp10_10 h hin) (n_hap h 31 10 0 _ rfl) d1_1_12 c1 (by decide) rfl rfl rfl (by decide) (Or.inr c2) ?_
  refine j_aload_n E d1_1_15 rfl 0 rfl ?_
  refine j_null E d1_1_16 ?_
  refine j_putR (f := 1) (fp10_16 h) (n_hap h 31 10 0 _ rfl) d1_1_17 c3 (by decide) rfl rfl rfl (by decide) (Or.inl rfl) ?_
  refine j_aload_n E d1_1_20 rfl 0 rfl ?_
  refine j_new (k := 21) E (fn10_19 h) d1_1_21 a1 c4 c5 (by decide) rfl (by decide) (by decide) (by decide) c6 c7 ?_
  refine j_dup E d1_1_24 rfl ?_
  refine j_call E (K1_1_25 h hrm hM) d1_1_25 (a := [(2, a1)]) (sk := [(2, a1), (2, l0)]) rfl ⟨a1, rfl, (j_nsa _ _ _), hp⟩ (Nat.le_of_ble_eq_true rfl) hc hs ?_
  rintro rs S' V' ⟨z0, e1, rfl, q⟩
  simp only [List.cons.injEq, Prod.mk.injEq, and_true, true_and] at e1
  obtain ⟨rfl⟩ := e1
  exact j_pick [0] rfl (k S' V' q)
theorem t1_1_28 {C : qCx} {G : jG} {S : jS} {V : jH} {nc ns : Nat} {l0 s0 s1 a1 : Int} {mc ms : Nat} {pp : Int → jS → jH → Prop} {qq : Int → jS → jH → jS → jH → Prop} (h : x1_1 C G) (hrm : C.2.2.2.1.frames = 4 ∧ C.2.2.2.1.locals = 87) (hin : C.2.2.2.2.2.2.2.2.1.name = "<init>") (c1 : S.1 s1 = 31) (c2 : S.1 s0 = 21) (c3 : 0 ≤ a1) (c4 : (j_sp S s1 2 s0).1 a1 = 0) (c5 : nc + 1 ≤ C.2.2.2.1.cells) (c6 : ns + 4 ≤ C.2.2.2.1.slots) (hM : M5_1 C.2.1 mc ms pp qq) (hp : pp a1 (j_ns (j_sp S s1 2 s0) a1 24) (j_nv V a1)) (hc : (nc + 1) + mc ≤ C.2.2.2.1.cells) (hs : (ns + 4) + ms ≤ C.2.2.2.1.slots) (k : ∀ (S' : jS) (V' : jH), qq a1 (j_ns (j_sp S s1 2 s0) a1 24) (j_nv V a1) S' V' → j_ok n_KT 1 C G 39 [(0, (2, l0))] [(2, a1), (2, l0)] S' V' ((nc + 1) + mc) ((ns + 4) + ms)) : j_ok n_KT 1 C G 28 [(0, (2, l0))] [(2, s0), (2, s1)] S V nc ns := by
  have E := n_E h
  refine j_putR (f := 2) (fp10_22 h hin) (n_hap h 31 10 0 _ rfl) d1_1_28 c1 (by decide) rfl rfl rfl (by decide) (Or.inr c2) ?_
  refine j_aload_n E d1_1_31 rfl 0 rfl ?_
  refine j_new (k := 24) E (fn10_26 h) d1_1_32 a1 c3 c4 (by decide) rfl (by decide) (by decide) (by decide) c5 c6 ?_
  refine j_dup E d1_1_35 rfl ?_
  refine j_call E (K1_1_36 h hrm hM) d1_1_36 (a := [(2, a1)]) (sk := [(2, a1), (2, l0)]) rfl ⟨a1, rfl, (j_nsa _ _ _), hp⟩ (Nat.le_of_ble_eq_true rfl) hc hs ?_
  rintro rs S' V' ⟨z0, e1, rfl, q⟩
  simp only [List.cons.injEq, Prod.mk.injEq, and_true, true_and] at e1
  obtain ⟨rfl⟩ := e1
  exact j_pick [0] rfl (k S' V' q)
theorem t1_1_39 {C : qCx} {G : jG} {S : jS} {V : jH} {nc ns : Nat} {l0 s0 s1 a1 : Int} {mc ms : Nat} {pp : Int → jS → jH → Prop} {qq : Int → jS → jH → jS → jH → Prop} (h : x1_1 C G) (hrm : C.2.2.2.1.frames = 4 ∧ C.2.2.2.1.locals = 87) (hin : C.2.2.2.2.2.2.2.2.1.name = "<init>") (c1 : S.1 s1 = 31) (c2 : S.1 s0 = 24) (c3 : 0 ≤ a1) (c4 : (j_sp S s1 3 s0).1 a1 = 0) (c5 : nc + 1 ≤ C.2.2.2.1.cells) (c6 : ns + 2 ≤ C.2.2.2.1.slots) (hM : M7_1 C.2.1 mc ms pp qq) (hp : pp a1 (j_ns (j_sp S s1 3 s0) a1 26) (j_nv V a1)) (hc : (nc + 1) + mc ≤ C.2.2.2.1.cells) (hs : (ns + 2) + ms ≤ C.2.2.2.1.slots) (k : ∀ (S' : jS) (V' : jH), qq a1 (j_ns (j_sp S s1 3 s0) a1 26) (j_nv V a1) S' V' → j_ok n_KT 1 C G 50 [(0, (2, l0))] [(2, a1), (2, l0)] S' V' ((nc + 1) + mc) ((ns + 2) + ms)) : j_ok n_KT 1 C G 39 [(0, (2, l0))] [(2, s0), (2, s1)] S V nc ns := by
  have E := n_E h
  refine j_putR (f := 3) (fp10_29 h hin) (n_hap h 31 10 0 _ rfl) d1_1_39 c1 (by decide) rfl rfl rfl (by decide) (Or.inr c2) ?_
  refine j_aload_n E d1_1_42 rfl 0 rfl ?_
  refine j_new (k := 26) E (fn10_33 h) d1_1_43 a1 c3 c4 (by decide) rfl (by decide) (by decide) (by decide) c5 c6 ?_
  refine j_dup E d1_1_46 rfl ?_
  refine j_call E (K1_1_47 h hrm hM) d1_1_47 (a := [(2, a1)]) (sk := [(2, a1), (2, l0)]) rfl ⟨a1, rfl, (j_nsa _ _ _), hp⟩ (Nat.le_of_ble_eq_true rfl) hc hs ?_
  rintro rs S' V' ⟨z0, e1, rfl, q⟩
  simp only [List.cons.injEq, Prod.mk.injEq, and_true, true_and] at e1
  obtain ⟨rfl⟩ := e1
  exact j_pick [0] rfl (k S' V' q)
theorem t1_1_50 {C : qCx} {G : jG} {S : jS} {V : jH} {nc ns : Nat} {l0 s0 s1 a1 : Int} {mc ms : Nat} {qf : jS → jH → Prop} (h : x1_1 C G) (hin : C.2.2.2.2.2.2.2.2.1.name = "<init>") (c1 : S.1 s1 = 31) (c2 : S.1 s0 = 26) (c3 : 0 ≤ a1) (c4 : (j_sp S s1 4 s0).1 a1 = 0) (c5 : nc + 1 ≤ C.2.2.2.1.cells) (c6 : ns + 400 ≤ C.2.2.2.1.slots) (c7 : (j_ns (j_sp S s1 4 s0) a1 1).1 l0 = 31) (R : j_Rv n_KT 1 C G b_1_1 mc ms qf) (q : qf (j_sp (j_ns (j_sp S s1 4 s0) a1 1) l0 5 a1) (j_up (j_up (j_nv V a1) l0 6 0) l0 7 0)) (hc : nc + 1 ≤ mc) (hs : ns + 400 ≤ ms) : j_ok n_KT 1 C G 50 [(0, (2, l0))] [(2, s0), (2, s1)] S V nc ns := by
  have E := n_E h
  refine j_putR (f := 4) (fp10_36 h hin) (n_hap h 31 10 0 _ rfl) d1_1_50 c1 (by decide) rfl rfl rfl (by decide) (Or.inr c2) ?_
  refine j_aload_n E d1_1_53 rfl 0 rfl ?_
  refine j_sipush E d1_1_54 (by decide) ?_
  obtain ⟨cA1, hA1, hB1⟩ := fa_int h
  refine j_newarray (n := 400) (k := 1) E hA1 hB1 d1_1_57 a1 c3 c4 (by decide) rfl rfl rfl rfl (by decide) c5 c6 ?_
  refine j_putR (f := 5) (fp10_40 h hin) (n_hap h 31 10 0 _ rfl) d1_1_59 c7 (by decide) rfl rfl rfl (by decide) (Or.inr (j_nsa _ _ _)) ?_
  refine j_aload_n E d1_1_62 rfl 0 rfl ?_
  refine j_iconst E d1_1_63 (by decide) ?_
  refine j_putI (f := 6) (fp10_44 h) (n_hap h 31 10 0 _ rfl) d1_1_64 c7 (by decide) rfl rfl rfl ?_
  refine j_aload_n E d1_1_67 rfl 0 rfl ?_
  refine j_iconst E d1_1_68 (by decide) ?_
  refine j_putI (f := 7) (fp10_48 h) (n_hap h 31 10 0 _ rfl) d1_1_69 c7 (by decide) rfl rfl rfl ?_
  exact R _ _ _ _ _ _ d1_1_72 q hc hs
/- BalanceCoder.rowOf(I)LBalanceCoder$Row; -/
abbrev b_1_29 : ByteArray := prog_1_method_29_code
def y_1_29 : MethodName := ⟨"BalanceCoder", "rowOf", "(I)LBalanceCoder$Row;"⟩
abbrev x1_29 (C : qCx) (G : jG) : Prop := n_ctx C b_1_29 2 "BalanceCoder" G.1 G.2.1
def M1_29 (l : Launch) (mc ms : Nat) (p : Int → Int → jS → jH → Prop) (q : Int → Int → jS → jH → Int → jS → jH → Prop) : Prop := j_Met l vwCl n_TL n_NW n_KT y_1_29 (Cond.code y_1_29 b_1_29 2 (some (.object "BalanceCoder$Row")) :: n_GW) { frames := 1, cells := mc, slots := ms, locals := 26 } mc ms (fun a S V => ∃ u0 u1 : Int, a = [(2, u0), (0, u1)] ∧ S.1 u0 = 31 ∧ p u0 u1 S V) (fun a S V rs S' V' => ∃ u0 u1 r : Int, a = [(2, u0), (0, u1)] ∧ rs = [(2, r)] ∧ q u0 u1 S V r S' V')
theorem e1_29 {l : Launch} {mc ms : Nat} {p : Int → Int → jS → jH → Prop} {q : Int → Int → jS → jH → Int → jS → jH → Prop} (body : ∀ (C : qCx) (G : jG), x1_29 C G → C.2.2.2.1.frames = 1 ∧ C.2.2.2.1.locals = 26 → C.2.2.2.1.cells = mc ∧ C.2.2.2.1.slots = ms → C.2.1 = l → C.2.2.2.2.2.2.2.2.1.name = "rowOf" → ∀ (u0 u1 : Int) (S : jS) (V : jH), S.1 u0 = 31 → p u0 u1 S V → j_Rr n_KT 2 C G b_1_29 mc ms (q u0 u1 S V) → j_ok n_KT 2 C G 0 [(0, (2, u0)), (1, (0, u1))] [] S V 0 0) : M1_29 l mc ms p q := by
  refine j_method (ws' := n_GW) (by decide) rfl ?_ ?_
  · rintro a S V ⟨u0, u1, rfl, -⟩
    exact Nat.le_of_ble_eq_true rfl
  · rintro C G htl hl hrm hm hml ho hts hnm hE a S V ⟨u0, u1, rfl, ht, hp⟩ R
    exact body C G ⟨htl, hm, hml, ho, fun w hw => hts w (List.mem_cons_of_mem _ hw), hE⟩ (by rw [hrm]; exact ⟨rfl, rfl⟩) (by rw [hrm]; exact ⟨rfl, rfl⟩) hl hnm u0 u1 S V ht hp (fun pc lo r S' V' nc ns d q hc hs => R.2.2.2.2 (Or.inl ⟨_, rfl⟩) pc lo r S' V' nc ns d ⟨u0, u1, r, rfl, rfl, q⟩ hc hs)
theorem d1_29_0 : decode b_1_29 0 = .ok (.iload_n 1, 1) := by decide +kernel
theorem d1_29_1 : decode b_1_29 1 = .ok (.ifCond .lt 9, 3) := by decide +kernel
theorem d1_29_4 : decode b_1_29 4 = .ok (.iload_n 1, 1) := by decide +kernel
theorem d1_29_5 : decode b_1_29 5 = .ok (.bipush 6, 2) := by decide +kernel
theorem d1_29_7 : decode b_1_29 7 = .ok (.if_icmp .lt 7, 3) := by decide +kernel
theorem d1_29_10 : decode b_1_29 10 = .ok (.aconst_null, 1) := by decide +kernel
theorem d1_29_11 : decode b_1_29 11 = .ok (.goto 12, 3) := by decide +kernel
theorem d1_29_14 : decode b_1_29 14 = .ok (.aload_n 0, 1) := by decide +kernel
theorem d1_29_15 : decode b_1_29 15 = .ok (.getfield 10, 3) := by decide +kernel
theorem d1_29_18 : decode b_1_29 18 = .ok (.getfield 239, 3) := by decide +kernel
theorem d1_29_21 : decode b_1_29 21 = .ok (.iload_n 1, 1) := by decide +kernel
theorem d1_29_22 : decode b_1_29 22 = .ok (.aaload, 1) := by decide +kernel
theorem d1_29_23 : decode b_1_29 23 = .ok (.areturn, 1) := by decide +kernel
theorem t1_29_0 {C : qCx} {G : jG} {S : jS} {V : jH} {nc ns : Nat} {l0 l1 : Int} (h : x1_29 C G)  (k : l1 < 0 → j_ok n_KT 2 C G 10 [] [] S V nc ns) (k' : 0 ≤ l1 → j_ok n_KT 2 C G 4 [(0, (2, l0)), (1, (0, l1))] [] S V nc ns) : j_ok n_KT 2 C G 0 [(0, (2, l0)), (1, (0, l1))] [] S V nc ns := by
  have E := n_E h
  refine j_iload_n E d1_29_0 rfl 1 rfl ?_
  exact j_if_lt E d1_29_1 (t := 10) rfl (fun q => j_pick [] rfl (k q)) (fun q => j_pick [0, 1] rfl (k' q))
theorem t1_29_4 {C : qCx} {G : jG} {S : jS} {V : jH} {nc ns : Nat} {l0 l1 : Int} (h : x1_29 C G)  (k : l1 < 6 → j_ok n_KT 2 C G 14 [(0, (2, l0)), (1, (0, l1))] [] S V nc ns) (k' : 6 ≤ l1 → j_ok n_KT 2 C G 10 [] [] S V nc ns) : j_ok n_KT 2 C G 4 [(0, (2, l0)), (1, (0, l1))] [] S V nc ns := by
  have E := n_E h
  refine j_iload_n E d1_29_4 rfl 1 rfl ?_
  refine j_bipush E d1_29_5 (by decide) ?_
  exact j_icmp_lt E d1_29_7 (t := 14) rfl (fun q => j_pick [0, 1] rfl (k q)) (fun q => j_pick [] rfl (k' q))
theorem t1_29_10 {C : qCx} {G : jG} {S : jS} {V : jH} {nc ns : Nat} (h : x1_29 C G)  (k : j_ok n_KT 2 C G 23 [] [(2, -1)] S V nc ns) : j_ok n_KT 2 C G 10 [] [] S V nc ns := by
  have E := n_E h
  refine j_null E d1_29_10 ?_
  refine j_goto E d1_29_11 (t := 23) rfl ?_
  exact j_pick [] rfl k
theorem t1_29_14 {C : qCx} {G : jG} {S : jS} {V : jH} {nc ns : Nat} {l0 l1 : Int} (h : x1_29 C G) (L : j_L S) (c1 : S.1 l0 = 31) (c2 : 0 ≤ l1) (c3 : l1 < 6) (k : j_ok n_KT 2 C G 23 [] [(2, l0 + 3 + 2 * l1)] S V nc ns) : j_ok n_KT 2 C G 14 [(0, (2, l0)), (1, (0, l1))] [] S V nc ns := by
  have E := n_E h
  refine j_aload_n E d1_29_14 rfl 0 rfl ?_
  refine j_getS (f := 0) (x := l0 + 1) (fg10_10 h) d1_29_15 c1 (by decide) rfl rfl ((L10_0 L c1).trans (by omega)) ?_
  refine j_getS (f := 0) (x := l0 + 2) (fg10_239 h) d1_29_18 (show S.1 (l0 + 1) = 30 from (by have q := L10_0k L c1; rw [show l0 + 1 = l0 + 1 by omega]; exact q)) (by decide) rfl rfl ((L9_0 L (show S.1 (l0 + 1) = 30 from (by have q := L10_0k L c1; rw [show l0 + 1 = l0 + 1 by omega]; exact q))).trans (by omega)) ?_
  refine j_iload_n E d1_29_21 rfl 1 rfl ?_
  refine j_aaldS (x := l0 + 3 + 2 * l1) E d1_29_22 (show S.1 (l0 + 2) = 18 from (by have q := L9_0k L (show S.1 (l0 + 1) = 30 from (by have q := L10_0k L c1; rw [show l0 + 1 = l0 + 1 by omega]; exact q)); rw [show l0 + 2 = (l0 + 1) + 1 by omega]; exact q)) (by decide) rfl c2 c3 ((LRowA L (i := l1) (show S.1 (l0 + 2) = 18 from (by have q := L9_0k L (show S.1 (l0 + 1) = 30 from (by have q := L10_0k L c1; rw [show l0 + 1 = l0 + 1 by omega]; exact q)); rw [show l0 + 2 = (l0 + 1) + 1 by omega]; exact q)) c2 c3).trans (by omega)) ?_
  exact j_pick [] rfl k
theorem t1_29_23 {C : qCx} {G : jG} {S : jS} {V : jH} {nc ns : Nat} {s0 : Int} {mc ms : Nat} {qf : Int → jS → jH → Prop} (h : x1_29 C G)  (R : j_Rr n_KT 2 C G b_1_29 mc ms qf) (q : qf s0 S V) (hc : nc ≤ mc) (hs : ns ≤ ms) : j_ok n_KT 2 C G 23 [] [(2, s0)] S V nc ns := by
  have E := n_E h
  exact R _ _ _ _ _ _ _ d1_29_23 q hc hs
/- BalanceCoder.found(I)I -/
abbrev b_1_27 : ByteArray := prog_1_method_27_code
def y_1_27 : MethodName := ⟨"BalanceCoder", "found", "(I)I"⟩
abbrev x1_27 (C : qCx) (G : jG) : Prop := n_ctx C b_1_27 2 "BalanceCoder" G.1 G.2.1
def M1_27 (l : Launch) (mc ms : Nat) (p : Int → Int → jS → jH → Prop) (q : Int → Int → jS → jH → Int → jS → jH → Prop) : Prop := j_Met l vwCl n_TL n_NW n_KT y_1_27 (Cond.code y_1_27 b_1_27 2 (some .int) :: n_GW) { frames := 1, cells := mc, slots := ms, locals := 26 } mc ms (fun a S V => ∃ u0 u1 : Int, a = [(2, u0), (0, u1)] ∧ S.1 u0 = 31 ∧ p u0 u1 S V) (fun a S V rs S' V' => ∃ u0 u1 r : Int, a = [(2, u0), (0, u1)] ∧ rs = [(0, r)] ∧ q u0 u1 S V r S' V')
theorem e1_27 {l : Launch} {mc ms : Nat} {p : Int → Int → jS → jH → Prop} {q : Int → Int → jS → jH → Int → jS → jH → Prop} (body : ∀ (C : qCx) (G : jG), x1_27 C G → C.2.2.2.1.frames = 1 ∧ C.2.2.2.1.locals = 26 → C.2.2.2.1.cells = mc ∧ C.2.2.2.1.slots = ms → C.2.1 = l → C.2.2.2.2.2.2.2.2.1.name = "found" → ∀ (u0 u1 : Int) (S : jS) (V : jH), S.1 u0 = 31 → p u0 u1 S V → j_Ri n_KT 2 C G b_1_27 mc ms (q u0 u1 S V) → j_ok n_KT 2 C G 0 [(0, (2, u0)), (1, (0, u1))] [] S V 0 0) : M1_27 l mc ms p q := by
  refine j_method (ws' := n_GW) (by decide) rfl ?_ ?_
  · rintro a S V ⟨u0, u1, rfl, -⟩
    exact Nat.le_of_ble_eq_true rfl
  · rintro C G htl hl hrm hm hml ho hts hnm hE a S V ⟨u0, u1, rfl, ht, hp⟩ R
    exact body C G ⟨htl, hm, hml, ho, fun w hw => hts w (List.mem_cons_of_mem _ hw), hE⟩ (by rw [hrm]; exact ⟨rfl, rfl⟩) (by rw [hrm]; exact ⟨rfl, rfl⟩) hl hnm u0 u1 S V ht hp (fun pc lo r S' V' nc ns d q hc hs => R.2.1 rfl pc lo r S' V' nc ns d ⟨u0, u1, r, rfl, rfl, q⟩ hc hs)
theorem d1_27_0 : decode b_1_27 0 = .ok (.aload_n 0, 1) := by decide +kernel
theorem d1_27_1 : decode b_1_27 1 = .ok (.dup, 1) := by decide +kernel
theorem d1_27_2 : decode b_1_27 2 = .ok (.getfield 48, 3) := by decide +kernel
theorem d1_27_5 : decode b_1_27 5 = .ok (.iconst 1, 1) := by decide +kernel
theorem d1_27_6 : decode b_1_27 6 = .ok (.iadd, 1) := by decide +kernel
theorem d1_27_7 : decode b_1_27 7 = .ok (.putfield 48, 3) := by decide +kernel
theorem d1_27_10 : decode b_1_27 10 = .ok (.iload_n 1, 1) := by decide +kernel
theorem d1_27_11 : decode b_1_27 11 = .ok (.ireturn, 1) := by decide +kernel
theorem t1_27_0 {C : qCx} {G : jG} {S : jS} {V : jH} {nc ns : Nat} {l0 l1 : Int} {mc ms : Nat} {qf : Int → jS → jH → Prop} (h : x1_27 C G) (c1 : S.1 l0 = 31) (c2 : -2147483648 ≤ (V l0 7) + 1 ∧ (V l0 7) + 1 ≤ 2147483647) (R : j_Ri n_KT 2 C G b_1_27 mc ms qf) (q : qf l1 S (j_up V l0 7 ((V l0 7) + 1))) (hc : nc ≤ mc) (hs : ns ≤ ms) : j_ok n_KT 2 C G 0 [(0, (2, l0)), (1, (0, l1))] [] S V nc ns := by
  have E := n_E h
  refine j_aload_n E d1_27_0 rfl 0 rfl ?_
  refine j_dup E d1_27_1 rfl ?_
  refine j_getI (f := 7) (fg10_48 h) d1_27_2 c1 (by decide) rfl rfl ?_
  refine j_iconst E d1_27_5 (by decide) ?_
  refine j_iadd E d1_27_6 c2 ?_
  refine j_putI (f := 7) (fp10_48 h) (n_hap h 31 10 0 _ rfl) d1_27_7 c1 (by decide) rfl rfl rfl ?_
  refine j_iload_n E d1_27_10 rfl 1 rfl ?_
  exact R _ _ _ _ _ _ _ d1_27_11 q hc hs
/- BalanceCoder.byteOf(JI)I -/
abbrev b_1_33 : ByteArray := prog_1_method_33_code
def y_1_33 : MethodName := ⟨"BalanceCoder", "byteOf", "(JI)I"⟩
abbrev x1_33 (C : qCx) (G : jG) : Prop := n_ctx C b_1_33 3 "BalanceCoder" G.1 G.2.1
def M1_33 (l : Launch) (mc ms : Nat) (p : Int → Int → jS → jH → Prop) (q : Int → Int → jS → jH → Int → jS → jH → Prop) : Prop := j_Met l vwCl n_TL n_NW n_KT y_1_33 (Cond.code y_1_33 b_1_33 3 (some .int) :: n_GW) { frames := 1, cells := mc, slots := ms, locals := 26 } mc ms (fun a S V => ∃ u0 u1 : Int, a = [(1, u0), (0, u1)] ∧ p u0 u1 S V) (fun a S V rs S' V' => ∃ u0 u1 r : Int, a = [(1, u0), (0, u1)] ∧ rs = [(0, r)] ∧ q u0 u1 S V r S' V')
theorem e1_33 {l : Launch} {mc ms : Nat} {p : Int → Int → jS → jH → Prop} {q : Int → Int → jS → jH → Int → jS → jH → Prop} (body : ∀ (C : qCx) (G : jG), x1_33 C G → C.2.2.2.1.frames = 1 ∧ C.2.2.2.1.locals = 26 → C.2.2.2.1.cells = mc ∧ C.2.2.2.1.slots = ms → C.2.1 = l → C.2.2.2.2.2.2.2.2.1.name = "byteOf" → ∀ (u0 u1 : Int) (S : jS) (V : jH), p u0 u1 S V → j_Ri n_KT 3 C G b_1_33 mc ms (q u0 u1 S V) → j_ok n_KT 3 C G 0 [(0, (1, u0)), (2, (0, u1))] [] S V 0 0) : M1_33 l mc ms p q := by
  refine j_method (ws' := n_GW) (by decide) rfl ?_ ?_
  · rintro a S V ⟨u0, u1, rfl, -⟩
    exact Nat.le_of_ble_eq_true rfl
  · rintro C G htl hl hrm hm hml ho hts hnm hE a S V ⟨u0, u1, rfl, hp⟩ R
    exact body C G ⟨htl, hm, hml, ho, fun w hw => hts w (List.mem_cons_of_mem _ hw), hE⟩ (by rw [hrm]; exact ⟨rfl, rfl⟩) (by rw [hrm]; exact ⟨rfl, rfl⟩) hl hnm u0 u1 S V hp (fun pc lo r S' V' nc ns d q hc hs => R.2.1 rfl pc lo r S' V' nc ns d ⟨u0, u1, r, rfl, rfl, q⟩ hc hs)
theorem d1_33_0 : decode b_1_33 0 = .ok (.lload_n 0, 1) := by decide +kernel
theorem d1_33_1 : decode b_1_33 1 = .ok (.bipush 8, 2) := by decide +kernel
theorem d1_33_3 : decode b_1_33 3 = .ok (.iload_n 2, 1) := by decide +kernel
theorem d1_33_4 : decode b_1_33 4 = .ok (.imul, 1) := by decide +kernel
theorem d1_33_5 : decode b_1_33 5 = .ok (.lushr, 1) := by decide +kernel
theorem d1_33_6 : decode b_1_33 6 = .ok (.l2i, 1) := by decide +kernel
theorem d1_33_7 : decode b_1_33 7 = .ok (.sipush 255, 3) := by decide +kernel
theorem d1_33_10 : decode b_1_33 10 = .ok (.iand, 1) := by decide +kernel
theorem d1_33_11 : decode b_1_33 11 = .ok (.ireturn, 1) := by decide +kernel
theorem t1_33_0 {C : qCx} {G : jG} {S : jS} {V : jH} {nc ns : Nat} {l0 l2 : Int} {mc ms : Nat} {qf : Int → jS → jH → Prop} (h : x1_33 C G) (c1 : -2147483648 ≤ 8 * l2 ∧ 8 * l2 ≤ 2147483647) (c2 : 0 ≤ 8 * l2) (c3 : 8 * l2 ≤ 63) (R : j_Ri n_KT 3 C G b_1_33 mc ms qf) (q : qf ((j_w32 (j_us l0 (8 * l2).toNat)) % 256) S V) (hc : nc ≤ mc) (hs : ns ≤ ms) : j_ok n_KT 3 C G 0 [(0, (1, l0)), (2, (0, l2))] [] S V nc ns := by
  have E := n_E h
  refine j_lload_n E d1_33_0 rfl 0 rfl ?_
  refine j_bipush E d1_33_1 (by decide) ?_
  refine j_iload_n E d1_33_3 rfl 1 rfl ?_
  refine j_imul E d1_33_4 c1 ?_
  refine j_lushr E d1_33_5 c2 c3 ?_
  refine j_l2i E d1_33_6 ?_
  refine j_sipush E d1_33_7 (by decide) ?_
  refine j_iand255 E d1_33_10 rfl ?_
  exact R _ _ _ _ _ _ _ d1_33_11 q hc hs
/- BalanceCoder$Row.append(I)V -/
abbrev b_8_2 : ByteArray := prog_8_method_2_code
def y_8_2 : MethodName := ⟨"BalanceCoder$Row", "append", "(I)V"⟩
abbrev x8_2 (C : qCx) (G : jG) : Prop := n_ctx C b_8_2 2 "BalanceCoder$Row" G.1 G.2.1
def M8_2 (l : Launch) (mc ms : Nat) (p : Int → Int → jS → jH → Prop) (q : Int → Int → jS → jH → jS → jH → Prop) : Prop := j_Met l vwCl n_TL n_NW n_KT y_8_2 (Cond.code y_8_2 b_8_2 2 none :: n_GW) { frames := 1, cells := mc, slots := ms, locals := 26 } mc ms (fun a S V => ∃ u0 u1 : Int, a = [(2, u0), (0, u1)] ∧ S.1 u0 = 27 ∧ p u0 u1 S V) (fun a S V rs S' V' => ∃ u0 u1 : Int, a = [(2, u0), (0, u1)] ∧ rs = [] ∧ q u0 u1 S V S' V')
theorem e8_2 {l : Launch} {mc ms : Nat} {p : Int → Int → jS → jH → Prop} {q : Int → Int → jS → jH → jS → jH → Prop} (body : ∀ (C : qCx) (G : jG), x8_2 C G → C.2.2.2.1.frames = 1 ∧ C.2.2.2.1.locals = 26 → C.2.2.2.1.cells = mc ∧ C.2.2.2.1.slots = ms → C.2.1 = l → C.2.2.2.2.2.2.2.2.1.name = "append" → ∀ (u0 u1 : Int) (S : jS) (V : jH), S.1 u0 = 27 → p u0 u1 S V → j_Rv n_KT 2 C G b_8_2 mc ms (q u0 u1 S V) → j_ok n_KT 2 C G 0 [(0, (2, u0)), (1, (0, u1))] [] S V 0 0) : M8_2 l mc ms p q := by
  refine j_method (ws' := n_GW) (by decide) rfl ?_ ?_
  · rintro a S V ⟨u0, u1, rfl, -⟩
    exact Nat.le_of_ble_eq_true rfl
  · rintro C G htl hl hrm hm hml ho hts hnm hE a S V ⟨u0, u1, rfl, ht, hp⟩ R
    exact body C G ⟨htl, hm, hml, ho, fun w hw => hts w (List.mem_cons_of_mem _ hw), hE⟩ (by rw [hrm]; exact ⟨rfl, rfl⟩) (by rw [hrm]; exact ⟨rfl, rfl⟩) hl hnm u0 u1 S V ht hp (fun pc lo S' V' nc ns d q hc hs => R.1 rfl pc lo S' V' nc ns d ⟨u0, u1, rfl, rfl, q⟩ hc hs)
theorem d8_2_0 : decode b_8_2 0 = .ok (.aload_n 0, 1) := by decide +kernel
theorem d8_2_1 : decode b_8_2 1 = .ok (.getfield 15, 3) := by decide +kernel
theorem d8_2_4 : decode b_8_2 4 = .ok (.sipush 400, 3) := by decide +kernel
theorem d8_2_7 : decode b_8_2 7 = .ok (.if_icmp .ge 23, 3) := by decide +kernel
theorem d8_2_10 : decode b_8_2 10 = .ok (.aload_n 0, 1) := by decide +kernel
theorem d8_2_11 : decode b_8_2 11 = .ok (.getfield 9, 3) := by decide +kernel
theorem d8_2_14 : decode b_8_2 14 = .ok (.aload_n 0, 1) := by decide +kernel
theorem d8_2_15 : decode b_8_2 15 = .ok (.getfield 15, 3) := by decide +kernel
theorem d8_2_18 : decode b_8_2 18 = .ok (.iload_n 1, 1) := by decide +kernel
theorem d8_2_19 : decode b_8_2 19 = .ok (.iastore, 1) := by decide +kernel
theorem d8_2_20 : decode b_8_2 20 = .ok (.aload_n 0, 1) := by decide +kernel
theorem d8_2_21 : decode b_8_2 21 = .ok (.dup, 1) := by decide +kernel
theorem d8_2_22 : decode b_8_2 22 = .ok (.getfield 15, 3) := by decide +kernel
theorem d8_2_25 : decode b_8_2 25 = .ok (.iconst 1, 1) := by decide +kernel
theorem d8_2_26 : decode b_8_2 26 = .ok (.iadd, 1) := by decide +kernel
theorem d8_2_27 : decode b_8_2 27 = .ok (.putfield 15, 3) := by decide +kernel
theorem d8_2_30 : decode b_8_2 30 = .ok (.return_, 1) := by decide +kernel
theorem t8_2_0 {C : qCx} {G : jG} {S : jS} {V : jH} {nc ns : Nat} {l0 l1 : Int} (h : x8_2 C G) (c1 : S.1 l0 = 27) (k : 400 ≤ V l0 1 → j_ok n_KT 2 C G 30 [] [] S V nc ns) (k' : V l0 1 < 400 → j_ok n_KT 2 C G 10 [(0, (2, l0)), (1, (0, l1))] [] S V nc ns) : j_ok n_KT 2 C G 0 [(0, (2, l0)), (1, (0, l1))] [] S V nc ns := by
  have E := n_E h
  refine j_aload_n E d8_2_0 rfl 0 rfl ?_
  refine j_getI (f := 1) (fg6_15 h) d8_2_1 c1 (by decide) rfl rfl ?_
  refine j_sipush E d8_2_4 (by decide) ?_
  exact j_icmp_ge E d8_2_7 (t := 30) rfl (fun q => j_pick [] rfl (k q)) (fun q => j_pick [0, 1] rfl (k' q))
theorem t8_2_10 {C : qCx} {G : jG} {S : jS} {V : jH} {nc ns : Nat} {l0 l1 : Int} (h : x8_2 C G) (L : j_L S) (c1 : S.1 l0 = 27) (c2 : 0 ≤ V l0 1) (c3 : V l0 1 < 400) (c4 : -2147483648 ≤ (V l0 1) + 1 ∧ (V l0 1) + 1 ≤ 2147483647) (k : j_ok n_KT 2 C G 30 [] [] S (j_up (j_up V (l0 + 1) (V l0 1) l1) l0 1 ((V l0 1) + 1)) nc ns) : j_ok n_KT 2 C G 10 [(0, (2, l0)), (1, (0, l1))] [] S V nc ns := by
  have E := n_E h
  refine j_aload_n E d8_2_10 rfl 0 rfl ?_
  refine j_getS (f := 0) (x := l0 + 1) (fg6_9 h) d8_2_11 c1 (by decide) rfl rfl ((L6_0 L c1).trans (by omega)) ?_
  refine j_aload_n E d8_2_14 rfl 0 rfl ?_
  refine j_getI (f := 1) (fg6_15 h) d8_2_15 c1 (by decide) rfl rfl ?_
  refine j_iload_n E d8_2_18 rfl 1 rfl ?_
  refine j_iast E d8_2_19 (j_arr_of (show S.1 (l0 + 1) = 1 from (by have q := L6_0k L c1; rw [show l0 + 1 = l0 + 1 by omega]; exact q)) (by decide) rfl) c2 c3 ?_
  refine j_aload_n E d8_2_20 rfl 0 rfl ?_
  refine j_dup E d8_2_21 rfl ?_
  refine j_getI (f := 1) (fg6_15 h) d8_2_22 c1 (by decide) rfl rfl ?_
  refine j_eqT (show (j_up V (l0 + 1) (V l0 1) l1) l0 1 = V l0 1 from (congrFun (j_up_ne (by omega)) _)) ?_
  refine j_iconst E d8_2_25 (by decide) ?_
  refine j_iadd E d8_2_26 c4 ?_
  refine j_putI (f := 1) (fp6_15 h) (n_hap h 27 6 0 _ rfl) d8_2_27 c1 (by decide) rfl rfl rfl ?_
  exact j_pick [] rfl k
theorem t8_2_30 {C : qCx} {G : jG} {S : jS} {V : jH} {nc ns : Nat} {mc ms : Nat} {qf : jS → jH → Prop} (h : x8_2 C G)  (R : j_Rv n_KT 2 C G b_8_2 mc ms qf) (q : qf S V) (hc : nc ≤ mc) (hs : ns ≤ ms) : j_ok n_KT 2 C G 30 [] [] S V nc ns := by
  have E := n_E h
  exact R _ _ _ _ _ _ d8_2_30 q hc hs
/- BalanceCoder.put(IJI)I -/
abbrev b_1_2 : ByteArray := prog_1_method_2_code
def y_1_2 : MethodName := ⟨"BalanceCoder", "put", "(IJI)I"⟩
abbrev x1_2 (C : qCx) (G : jG) : Prop := n_ctx C b_1_2 7 "BalanceCoder" G.1 G.2.1
def M1_2 (l : Launch) (mc ms : Nat) (p : Int → Int → Int → Int → jS → jH → Prop) (q : Int → Int → Int → Int → jS → jH → Int → jS → jH → Prop) : Prop := j_Met l vwCl n_TL n_NW n_KT y_1_2 (Cond.code y_1_2 b_1_2 7 (some .int) :: n_GW) { frames := 2, cells := mc, slots := ms, locals := 48 } mc ms (fun a S V => ∃ u0 u1 u2 u3 : Int, a = [(2, u0), (0, u1), (1, u2), (0, u3)] ∧ S.1 u0 = 31 ∧ p u0 u1 u2 u3 S V) (fun a S V rs S' V' => ∃ u0 u1 u2 u3 r : Int, a = [(2, u0), (0, u1), (1, u2), (0, u3)] ∧ rs = [(0, r)] ∧ q u0 u1 u2 u3 S V r S' V')
theorem e1_2 {l : Launch} {mc ms : Nat} {p : Int → Int → Int → Int → jS → jH → Prop} {q : Int → Int → Int → Int → jS → jH → Int → jS → jH → Prop} (body : ∀ (C : qCx) (G : jG), x1_2 C G → C.2.2.2.1.frames = 2 ∧ C.2.2.2.1.locals = 48 → C.2.2.2.1.cells = mc ∧ C.2.2.2.1.slots = ms → C.2.1 = l → C.2.2.2.2.2.2.2.2.1.name = "put" → ∀ (u0 u1 u2 u3 : Int) (S : jS) (V : jH), S.1 u0 = 31 → p u0 u1 u2 u3 S V → j_Ri n_KT 7 C G b_1_2 mc ms (q u0 u1 u2 u3 S V) → j_ok n_KT 7 C G 0 [(0, (2, u0)), (1, (0, u1)), (2, (1, u2)), (4, (0, u3))] [] S V 0 0) : M1_2 l mc ms p q := by
  refine j_method (ws' := n_GW) (by decide) rfl ?_ ?_
  · rintro a S V ⟨u0, u1, u2, u3, rfl, -⟩
    exact Nat.le_of_ble_eq_true rfl
  · rintro C G htl hl hrm hm hml ho hts hnm hE a S V ⟨u0, u1, u2, u3, rfl, ht, hp⟩ R
    exact body C G ⟨htl, hm, hml, ho, fun w hw => hts w (List.mem_cons_of_mem _ hw), hE⟩ (by rw [hrm]; exact ⟨rfl, rfl⟩) (by rw [hrm]; exact ⟨rfl, rfl⟩) hl hnm u0 u1 u2 u3 S V ht hp (fun pc lo r S' V' nc ns d q hc hs => R.2.1 rfl pc lo r S' V' nc ns d ⟨u0, u1, u2, u3, r, rfl, rfl, q⟩ hc hs)
theorem d1_2_0 : decode b_1_2 0 = .ok (.aload_n 0, 1) := by decide +kernel
theorem d1_2_1 : decode b_1_2 1 = .ok (.iload_n 1, 1) := by decide +kernel
theorem d1_2_2 : decode b_1_2 2 = .ok (.invokevirtual 51, 3) := by decide +kernel
theorem d1_2_5 : decode b_1_2 5 = .ok (.astore 5, 2) := by decide +kernel
theorem d1_2_7 : decode b_1_2 7 = .ok (.aload 5, 2) := by decide +kernel
theorem d1_2_9 : decode b_1_2 9 = .ok (.ifnull 16, 3) := by decide +kernel
theorem d1_2_12 : decode b_1_2 12 = .ok (.iload 4, 2) := by decide +kernel
theorem d1_2_14 : decode b_1_2 14 = .ok (.iconst 1, 1) := by decide +kernel
theorem d1_2_15 : decode b_1_2 15 = .ok (.if_icmp .lt 10, 3) := by decide +kernel
theorem d1_2_18 : decode b_1_2 18 = .ok (.iload 4, 2) := by decide +kernel
theorem d1_2_20 : decode b_1_2 20 = .ok (.bipush 8, 2) := by decide +kernel
theorem d1_2_22 : decode b_1_2 22 = .ok (.if_icmp .le 9, 3) := by decide +kernel
theorem d1_2_25 : decode b_1_2 25 = .ok (.aload_n 0, 1) := by decide +kernel
theorem d1_2_26 : decode b_1_2 26 = .ok (.iconst (-1), 1) := by decide +kernel
theorem d1_2_27 : decode b_1_2 27 = .ok (.invokevirtual 55, 3) := by decide +kernel
theorem d1_2_30 : decode b_1_2 30 = .ok (.ireturn, 1) := by decide +kernel
theorem d1_2_31 : decode b_1_2 31 = .ok (.iload 4, 2) := by decide +kernel
theorem d1_2_33 : decode b_1_2 33 = .ok (.sipush 400, 3) := by decide +kernel
theorem d1_2_36 : decode b_1_2 36 = .ok (.aload 5, 2) := by decide +kernel
theorem d1_2_38 : decode b_1_2 38 = .ok (.getfield 59, 3) := by decide +kernel
theorem d1_2_41 : decode b_1_2 41 = .ok (.isub, 1) := by decide +kernel
theorem d1_2_42 : decode b_1_2 42 = .ok (.if_icmp .le 10, 3) := by decide +kernel
theorem d1_2_45 : decode b_1_2 45 = .ok (.aload_n 0, 1) := by decide +kernel
theorem d1_2_46 : decode b_1_2 46 = .ok (.bipush (-2), 2) := by decide +kernel
theorem d1_2_48 : decode b_1_2 48 = .ok (.invokevirtual 55, 3) := by decide +kernel
theorem d1_2_51 : decode b_1_2 51 = .ok (.ireturn, 1) := by decide +kernel
theorem d1_2_52 : decode b_1_2 52 = .ok (.iload 4, 2) := by decide +kernel
theorem d1_2_54 : decode b_1_2 54 = .ok (.iconst 1, 1) := by decide +kernel
theorem d1_2_55 : decode b_1_2 55 = .ok (.isub, 1) := by decide +kernel
theorem d1_2_56 : decode b_1_2 56 = .ok (.istore 6, 2) := by decide +kernel
theorem d1_2_58 : decode b_1_2 58 = .ok (.iload 6, 2) := by decide +kernel
theorem d1_2_60 : decode b_1_2 60 = .ok (.ifCond .lt 20, 3) := by decide +kernel
theorem d1_2_63 : decode b_1_2 63 = .ok (.aload 5, 2) := by decide +kernel
theorem d1_2_65 : decode b_1_2 65 = .ok (.lload_n 2, 1) := by decide +kernel
theorem d1_2_66 : decode b_1_2 66 = .ok (.iload 6, 2) := by decide +kernel
theorem d1_2_68 : decode b_1_2 68 = .ok (.invokestatic 64, 3) := by decide +kernel
theorem d1_2_71 : decode b_1_2 71 = .ok (.invokevirtual 68, 3) := by decide +kernel
theorem d1_2_74 : decode b_1_2 74 = .ok (.iinc 6 (-1), 3) := by decide +kernel
theorem d1_2_77 : decode b_1_2 77 = .ok (.goto (-19), 3) := by decide +kernel
theorem d1_2_80 : decode b_1_2 80 = .ok (.aload 5, 2) := by decide +kernel
theorem d1_2_82 : decode b_1_2 82 = .ok (.getfield 59, 3) := by decide +kernel
theorem d1_2_85 : decode b_1_2 85 = .ok (.ireturn, 1) := by decide +kernel
theorem K1_2_2 {C : qCx} {G : jG} {mc ms : Nat} {p : Int → Int → jS → jH → Prop} {q : Int → Int → jS → jH → Int → jS → jH → Prop} (h : x1_2 C G) (hrm : C.2.2.2.1.frames = 2 ∧ C.2.2.2.1.locals = 48) (hM : M1_29 C.2.1 mc ms p q) : j_Call C b_1_2 n_KT G.1 G.2.1 7 (.invokevirtual 51) mc ms (fun a S V => ∃ u0 u1 : Int, a = [(2, u0), (0, u1)] ∧ S.1 u0 = 31 ∧ p u0 u1 S V) (fun a S V rs S' V' => ∃ u0 u1 r : Int, a = [(2, u0), (0, u1)] ∧ rs = [(2, r)] ∧ q u0 u1 S V r S' V') := j_callV n_NWk h.2.2.2.2.2 h.1 hM ⟨h.2.1.1, h.2.1.2, h.2.2.1, h.2.2.2.1, h.2.2.2.2.1⟩ ⟨n_CB (y := y_1_29) (bytes := b_1_29) 1 h.2.2.2.2.1 n_w305 n_w302 n_w1 ⟨by decide, by decide, by decide +kernel⟩ rfl rfl ⟨by rw [hrm.1]; exact Nat.le_of_ble_eq_true rfl, by rw [hrm.2]; exact Nat.le_of_ble_eq_true rfl⟩, h.2.2.2.2.1 _ n_w304, h.2.2.2.2.1 _ n_s0⟩ (Cn := RX10) (fun a S V hP => by obtain ⟨u0, u1, rfl, e, -⟩ := hP; exact ⟨u0, _, 10, _, _, TX10, 8, rfl, rfl, by rw [e]; decide, by rw [e]; rfl, rfl⟩)
theorem K1_2_27 {C : qCx} {G : jG} {mc ms : Nat} {p : Int → Int → jS → jH → Prop} {q : Int → Int → jS → jH → Int → jS → jH → Prop} (h : x1_2 C G) (hrm : C.2.2.2.1.frames = 2 ∧ C.2.2.2.1.locals = 48) (hM : M1_27 C.2.1 mc ms p q) : j_Call C b_1_2 n_KT G.1 G.2.1 7 (.invokevirtual 55) mc ms (fun a S V => ∃ u0 u1 : Int, a = [(2, u0), (0, u1)] ∧ S.1 u0 = 31 ∧ p u0 u1 S V) (fun a S V rs S' V' => ∃ u0 u1 r : Int, a = [(2, u0), (0, u1)] ∧ rs = [(0, r)] ∧ q u0 u1 S V r S' V') := j_callV n_NWk h.2.2.2.2.2 h.1 hM ⟨h.2.1.1, h.2.1.2, h.2.2.1, h.2.2.2.1, h.2.2.2.2.1⟩ ⟨n_CB (y := y_1_27) (bytes := b_1_27) 1 h.2.2.2.2.1 n_w309 n_w306 n_w1 ⟨by decide, by decide, by decide +kernel⟩ rfl rfl ⟨by rw [hrm.1]; exact Nat.le_of_ble_eq_true rfl, by rw [hrm.2]; exact Nat.le_of_ble_eq_true rfl⟩, h.2.2.2.2.1 _ n_w308, h.2.2.2.2.1 _ n_s1⟩ (Cn := RX10) (fun a S V hP => by obtain ⟨u0, u1, rfl, e, -⟩ := hP; exact ⟨u0, _, 10, _, _, TX10, 8, rfl, rfl, by rw [e]; decide, by rw [e]; rfl, rfl⟩)
theorem K1_2_48 {C : qCx} {G : jG} {mc ms : Nat} {p : Int → Int → jS → jH → Prop} {q : Int → Int → jS → jH → Int → jS → jH → Prop} (h : x1_2 C G) (hrm : C.2.2.2.1.frames = 2 ∧ C.2.2.2.1.locals = 48) (hM : M1_27 C.2.1 mc ms p q) : j_Call C b_1_2 n_KT G.1 G.2.1 7 (.invokevirtual 55) mc ms (fun a S V => ∃ u0 u1 : Int, a = [(2, u0), (0, u1)] ∧ S.1 u0 = 31 ∧ p u0 u1 S V) (fun a S V rs S' V' => ∃ u0 u1 r : Int, a = [(2, u0), (0, u1)] ∧ rs = [(0, r)] ∧ q u0 u1 S V r S' V') := j_callV n_NWk h.2.2.2.2.2 h.1 hM ⟨h.2.1.1, h.2.1.2, h.2.2.1, h.2.2.2.1, h.2.2.2.2.1⟩ ⟨n_CB (y := y_1_27) (bytes := b_1_27) 1 h.2.2.2.2.1 n_w309 n_w306 n_w1 ⟨by decide, by decide, by decide +kernel⟩ rfl rfl ⟨by rw [hrm.1]; exact Nat.le_of_ble_eq_true rfl, by rw [hrm.2]; exact Nat.le_of_ble_eq_true rfl⟩, h.2.2.2.2.1 _ n_w308, h.2.2.2.2.1 _ n_s1⟩ (Cn := RX10) (fun a S V hP => by obtain ⟨u0, u1, rfl, e, -⟩ := hP; exact ⟨u0, _, 10, _, _, TX10, 8, rfl, rfl, by rw [e]; decide, by rw [e]; rfl, rfl⟩)
theorem K1_2_68 {C : qCx} {G : jG} {mc ms : Nat} {p : Int → Int → jS → jH → Prop} {q : Int → Int → jS → jH → Int → jS → jH → Prop} (h : x1_2 C G) (hrm : C.2.2.2.1.frames = 2 ∧ C.2.2.2.1.locals = 48) (hM : M1_33 C.2.1 mc ms p q) : j_Call C b_1_2 n_KT G.1 G.2.1 7 (.invokestatic 64) mc ms (fun a S V => ∃ u0 u1 : Int, a = [(1, u0), (0, u1)] ∧ p u0 u1 S V) (fun a S V rs S' V' => ∃ u0 u1 r : Int, a = [(1, u0), (0, u1)] ∧ rs = [(0, r)] ∧ q u0 u1 S V r S' V') := j_callS n_NWk h.2.2.2.2.2 h.1 hM ⟨h.2.1.1, h.2.1.2, h.2.2.1, h.2.2.2.1, h.2.2.2.2.1⟩ ⟨n_CB (y := y_1_33) (bytes := b_1_33) 2 h.2.2.2.2.1 n_w312 n_w310 n_w1 ⟨by decide, by decide, by decide +kernel⟩ rfl rfl ⟨by rw [hrm.1]; exact Nat.le_of_ble_eq_true rfl, by rw [hrm.2]; exact Nat.le_of_ble_eq_true rfl⟩, h.2.2.2.2.1 _ n_w311⟩ (fun a S V hP => by obtain ⟨u0, u1, rfl, -⟩ := hP; rfl)
theorem K1_2_71 {C : qCx} {G : jG} {mc ms : Nat} {p : Int → Int → jS → jH → Prop} {q : Int → Int → jS → jH → jS → jH → Prop} (h : x1_2 C G) (hrm : C.2.2.2.1.frames = 2 ∧ C.2.2.2.1.locals = 48) (hM : M8_2 C.2.1 mc ms p q) : j_Call C b_1_2 n_KT G.1 G.2.1 7 (.invokevirtual 68) mc ms (fun a S V => ∃ u0 u1 : Int, a = [(2, u0), (0, u1)] ∧ S.1 u0 = 27 ∧ p u0 u1 S V) (fun a S V rs S' V' => ∃ u0 u1 : Int, a = [(2, u0), (0, u1)] ∧ rs = [] ∧ q u0 u1 S V S' V') := j_callV n_NWk h.2.2.2.2.2 h.1 hM ⟨h.2.1.1, h.2.1.2, h.2.2.1, h.2.2.2.1, h.2.2.2.2.1⟩ ⟨n_CB (y := y_8_2) (bytes := b_8_2) 1 h.2.2.2.2.1 n_w316 n_w313 n_w5 ⟨by decide, by decide, by decide +kernel⟩ rfl rfl ⟨by rw [hrm.1]; exact Nat.le_of_ble_eq_true rfl, by rw [hrm.2]; exact Nat.le_of_ble_eq_true rfl⟩, h.2.2.2.2.1 _ n_w314, h.2.2.2.2.1 _ n_w315⟩ (Cn := RX6) (fun a S V hP => by obtain ⟨u0, u1, rfl, e, -⟩ := hP; exact ⟨u0, _, 6, _, _, TX6, 2, rfl, rfl, by rw [e]; decide, by rw [e]; rfl, rfl⟩)
theorem t1_2_0 {C : qCx} {G : jG} {S : jS} {V : jH} {nc ns : Nat} {l0 l1 l2 l4 : Int} {mc ms : Nat} {pp : Int → Int → jS → jH → Prop} {qq : Int → Int → jS → jH → Int → jS → jH → Prop} (h : x1_2 C G) (hrm : C.2.2.2.1.frames = 2 ∧ C.2.2.2.1.locals = 48) (c1 : S.1 l0 = 31) (hM : M1_29 C.2.1 mc ms pp qq) (hp : pp l0 l1 S V) (hc : nc + mc ≤ C.2.2.2.1.cells) (hs : ns + ms ≤ C.2.2.2.1.slots) (k : ∀ (r : Int) (S' : jS) (V' : jH), qq l0 l1 S V r S' V' → j_ok n_KT 7 C G 5 [(0, (2, l0)), (2, (1, l2)), (4, (0, l4))] [(2, r)] S' V' (nc + mc) (ns + ms)) : j_ok n_KT 7 C G 0 [(0, (2, l0)), (1, (0, l1)), (2, (1, l2)), (4, (0, l4))] [] S V nc ns := by
  have E := n_E h
  refine j_aload_n E d1_2_0 rfl 0 rfl ?_
  refine j_iload_n E d1_2_1 rfl 1 rfl ?_
  refine j_call E (K1_2_2 h hrm hM) d1_2_2 (a := [(2, l0), (0, l1)]) (sk := []) rfl ⟨l0, l1, rfl, c1, hp⟩ (Nat.le_of_ble_eq_true rfl) hc hs ?_
  rintro rs S' V' ⟨z0, z1, r, e1, rfl, q⟩
  simp only [List.cons.injEq, Prod.mk.injEq, and_true, true_and] at e1
  obtain ⟨rfl, rfl⟩ := e1
  exact j_pick [0, 2, 3] rfl (k r S' V' q)
theorem t1_2_5 {C : qCx} {G : jG} {S : jS} {V : jH} {nc ns : Nat} {l0 l2 l4 s0 : Int} (h : x1_2 C G)  (k : s0 = -1 → j_ok n_KT 7 C G 25 [(0, (2, l0))] [] S V nc ns) (k' : 0 ≤ s0 → S.1 s0 ≠ 0 → j_ok n_KT 7 C G 12 [(0, (2, l0)), (2, (1, l2)), (4, (0, l4)), (5, (2, s0))] [] S V nc ns) : j_ok n_KT 7 C G 5 [(0, (2, l0)), (2, (1, l2)), (4, (0, l4))] [(2, s0)] S V nc ns := by
  have E := n_E h
  refine j_astore E d1_2_5 (by decide) (lo1 := [(0, (2, l0)), (2, (1, l2)), (4, (0, l4))]) rfl ?_
  refine j_aload E d1_2_7 0 rfl ?_
  exact j_ifnull E d1_2_9 (t := 25) rfl (fun q => j_pick [1] rfl (k q)) (fun q q2 => j_pick [1, 2, 3, 0] rfl (k' q q2))
theorem t1_2_12 {C : qCx} {G : jG} {S : jS} {V : jH} {nc ns : Nat} {l0 l2 l4 l5 : Int} (h : x1_2 C G)  (k : l4 < 1 → j_ok n_KT 7 C G 25 [(0, (2, l0))] [] S V nc ns) (k' : 1 ≤ l4 → j_ok n_KT 7 C G 18 [(0, (2, l0)), (2, (1, l2)), (4, (0, l4)), (5, (2, l5))] [] S V nc ns) : j_ok n_KT 7 C G 12 [(0, (2, l0)), (2, (1, l2)), (4, (0, l4)), (5, (2, l5))] [] S V nc ns := by
  have E := n_E h
  refine j_iload E d1_2_12 2 rfl ?_
  refine j_iconst E d1_2_14 (by decide) ?_
  exact j_icmp_lt E d1_2_15 (t := 25) rfl (fun q => j_pick [0] rfl (k q)) (fun q => j_pick [0, 1, 2, 3] rfl (k' q))
theorem t1_2_18 {C : qCx} {G : jG} {S : jS} {V : jH} {nc ns : Nat} {l0 l2 l4 l5 : Int} (h : x1_2 C G)  (k : l4 ≤ 8 → j_ok n_KT 7 C G 31 [(0, (2, l0)), (2, (1, l2)), (4, (0, l4)), (5, (2, l5))] [] S V nc ns) (k' : 8 < l4 → j_ok n_KT 7 C G 25 [(0, (2, l0))] [] S V nc ns) : j_ok n_KT 7 C G 18 [(0, (2, l0)), (2, (1, l2)), (4, (0, l4)), (5, (2, l5))] [] S V nc ns := by
  have E := n_E h
  refine j_iload E d1_2_18 2 rfl ?_
  refine j_bipush E d1_2_20 (by decide) ?_
  exact j_icmp_le E d1_2_22 (t := 31) rfl (fun q => j_pick [0, 1, 2, 3] rfl (k q)) (fun q => j_pick [0] rfl (k' q))
theorem t1_2_25 {C : qCx} {G : jG} {S : jS} {V : jH} {nc ns : Nat} {l0 : Int} {mc ms : Nat} {pp : Int → Int → jS → jH → Prop} {qq : Int → Int → jS → jH → Int → jS → jH → Prop} (h : x1_2 C G) (hrm : C.2.2.2.1.frames = 2 ∧ C.2.2.2.1.locals = 48) (c1 : S.1 l0 = 31) (hM : M1_27 C.2.1 mc ms pp qq) (hp : pp l0 ((-1)) S V) (hc : nc + mc ≤ C.2.2.2.1.cells) (hs : ns + ms ≤ C.2.2.2.1.slots) (k : ∀ (r : Int) (S' : jS) (V' : jH), qq l0 ((-1)) S V r S' V' → j_ok n_KT 7 C G 30 [] [(0, r)] S' V' (nc + mc) (ns + ms)) : j_ok n_KT 7 C G 25 [(0, (2, l0))] [] S V nc ns := by
  have E := n_E h
  refine j_aload_n E d1_2_25 rfl 0 rfl ?_
  refine j_iconst E d1_2_26 (by decide) ?_
  refine j_call E (K1_2_27 h hrm hM) d1_2_27 (a := [(2, l0), (0, (-1))]) (sk := []) rfl ⟨l0, (-1), rfl, c1, hp⟩ (Nat.le_of_ble_eq_true rfl) hc hs ?_
  rintro rs S' V' ⟨z0, z1, r, e1, rfl, q⟩
  simp only [List.cons.injEq, Prod.mk.injEq, and_true, true_and] at e1
  obtain ⟨rfl, rfl⟩ := e1
  exact j_pick [] rfl (k r S' V' q)
theorem t1_2_30 {C : qCx} {G : jG} {S : jS} {V : jH} {nc ns : Nat} {s0 : Int} {mc ms : Nat} {qf : Int → jS → jH → Prop} (h : x1_2 C G)  (R : j_Ri n_KT 7 C G b_1_2 mc ms qf) (q : qf s0 S V) (hc : nc ≤ mc) (hs : ns ≤ ms) : j_ok n_KT 7 C G 30 [] [(0, s0)] S V nc ns := by
  have E := n_E h
  exact R _ _ _ _ _ _ _ d1_2_30 q hc hs
theorem t1_2_31 {C : qCx} {G : jG} {S : jS} {V : jH} {nc ns : Nat} {l0 l2 l4 l5 : Int} (h : x1_2 C G) (c1 : S.1 l5 = 27) (c2 : -2147483648 ≤ 400 - (V l5 1) ∧ 400 - (V l5 1) ≤ 2147483647) (k : l4 ≤ 400 - (V l5 1) → j_ok n_KT 7 C G 52 [(2, (1, l2)), (4, (0, l4)), (5, (2, l5))] [] S V nc ns) (k' : 400 - (V l5 1) < l4 → j_ok n_KT 7 C G 45 [(0, (2, l0))] [] S V nc ns) : j_ok n_KT 7 C G 31 [(0, (2, l0)), (2, (1, l2)), (4, (0, l4)), (5, (2, l5))] [] S V nc ns := by
  have E := n_E h
  refine j_iload E d1_2_31 2 rfl ?_
  refine j_sipush E d1_2_33 (by decide) ?_
  refine j_aload E d1_2_36 3 rfl ?_
  refine j_getI (f := 1) (fg10_59 h) d1_2_38 c1 (by decide) rfl rfl ?_
  refine j_isub E d1_2_41 c2 ?_
  exact j_icmp_le E d1_2_42 (t := 52) rfl (fun q => j_pick [1, 2, 3] rfl (k q)) (fun q => j_pick [0] rfl (k' q))
theorem t1_2_45 {C : qCx} {G : jG} {S : jS} {V : jH} {nc ns : Nat} {l0 : Int} {mc ms : Nat} {pp : Int → Int → jS → jH → Prop} {qq : Int → Int → jS → jH → Int → jS → jH → Prop} (h : x1_2 C G) (hrm : C.2.2.2.1.frames = 2 ∧ C.2.2.2.1.locals = 48) (c1 : S.1 l0 = 31) (hM : M1_27 C.2.1 mc ms pp qq) (hp : pp l0 ((-2)) S V) (hc : nc + mc ≤ C.2.2.2.1.cells) (hs : ns + ms ≤ C.2.2.2.1.slots) (k : ∀ (r : Int) (S' : jS) (V' : jH), qq l0 ((-2)) S V r S' V' → j_ok n_KT 7 C G 51 [] [(0, r)] S' V' (nc + mc) (ns + ms)) : j_ok n_KT 7 C G 45 [(0, (2, l0))] [] S V nc ns := by
  have E := n_E h
  refine j_aload_n E d1_2_45 rfl 0 rfl ?_
  refine j_bipush E d1_2_46 (by decide) ?_
  refine j_call E (K1_2_48 h hrm hM) d1_2_48 (a := [(2, l0), (0, (-2))]) (sk := []) rfl ⟨l0, (-2), rfl, c1, hp⟩ (Nat.le_of_ble_eq_true rfl) hc hs ?_
  rintro rs S' V' ⟨z0, z1, r, e1, rfl, q⟩
  simp only [List.cons.injEq, Prod.mk.injEq, and_true, true_and] at e1
  obtain ⟨rfl, rfl⟩ := e1
  exact j_pick [] rfl (k r S' V' q)
theorem t1_2_51 {C : qCx} {G : jG} {S : jS} {V : jH} {nc ns : Nat} {s0 : Int} {mc ms : Nat} {qf : Int → jS → jH → Prop} (h : x1_2 C G)  (R : j_Ri n_KT 7 C G b_1_2 mc ms qf) (q : qf s0 S V) (hc : nc ≤ mc) (hs : ns ≤ ms) : j_ok n_KT 7 C G 51 [] [(0, s0)] S V nc ns := by
  have E := n_E h
  exact R _ _ _ _ _ _ _ d1_2_51 q hc hs
theorem t1_2_52 {C : qCx} {G : jG} {S : jS} {V : jH} {nc ns : Nat} {l2 l4 l5 : Int} (h : x1_2 C G) (c1 : -2147483648 ≤ l4 - 1 ∧ l4 - 1 ≤ 2147483647) (k : j_ok n_KT 7 C G 58 [(2, (1, l2)), (5, (2, l5)), (6, (0, l4 - 1))] [] S V nc ns) : j_ok n_KT 7 C G 52 [(2, (1, l2)), (4, (0, l4)), (5, (2, l5))] [] S V nc ns := by
  have E := n_E h
  refine j_iload E d1_2_52 1 rfl ?_
  refine j_iconst E d1_2_54 (by decide) ?_
  refine j_isub E d1_2_55 c1 ?_
  refine j_istore E d1_2_56 (by decide) (lo1 := [(2, (1, l2)), (4, (0, l4)), (5, (2, l5))]) rfl ?_
  exact j_pick [1, 3, 0] rfl k
theorem t1_2_58 {C : qCx} {G : jG} {S : jS} {V : jH} {nc ns : Nat} {l2 l5 l6 : Int} (h : x1_2 C G)  (k : l6 < 0 → j_ok n_KT 7 C G 80 [(5, (2, l5))] [] S V nc ns) (k' : 0 ≤ l6 → j_ok n_KT 7 C G 63 [(2, (1, l2)), (5, (2, l5)), (6, (0, l6))] [] S V nc ns) : j_ok n_KT 7 C G 58 [(2, (1, l2)), (5, (2, l5)), (6, (0, l6))] [] S V nc ns := by
  have E := n_E h
  refine j_iload E d1_2_58 2 rfl ?_
  exact j_if_lt E d1_2_60 (t := 80) rfl (fun q => j_pick [1] rfl (k q)) (fun q => j_pick [0, 1, 2] rfl (k' q))
theorem t1_2_63 {C : qCx} {G : jG} {S : jS} {V : jH} {nc ns : Nat} {l2 l5 l6 : Int} {mc ms : Nat} {pp : Int → Int → jS → jH → Prop} {qq : Int → Int → jS → jH → Int → jS → jH → Prop} (h : x1_2 C G) (hrm : C.2.2.2.1.frames = 2 ∧ C.2.2.2.1.locals = 48)  (hM : M1_33 C.2.1 mc ms pp qq) (hp : pp l2 l6 S V) (hc : nc + mc ≤ C.2.2.2.1.cells) (hs : ns + ms ≤ C.2.2.2.1.slots) (k : ∀ (r : Int) (S' : jS) (V' : jH), qq l2 l6 S V r S' V' → j_ok n_KT 7 C G 71 [(2, (1, l2)), (5, (2, l5)), (6, (0, l6))] [(0, r), (2, l5)] S' V' (nc + mc) (ns + ms)) : j_ok n_KT 7 C G 63 [(2, (1, l2)), (5, (2, l5)), (6, (0, l6))] [] S V nc ns := by
  have E := n_E h
  refine j_aload E d1_2_63 1 rfl ?_
  refine j_lload_n E d1_2_65 rfl 0 rfl ?_
  refine j_iload E d1_2_66 2 rfl ?_
  refine j_call E (K1_2_68 h hrm hM) d1_2_68 (a := [(1, l2), (0, l6)]) (sk := [(2, l5)]) rfl ⟨l2, l6, rfl, hp⟩ (Nat.le_of_ble_eq_true rfl) hc hs ?_
  rintro rs S' V' ⟨z0, z1, r, e1, rfl, q⟩
  simp only [List.cons.injEq, Prod.mk.injEq, and_true, true_and] at e1
  obtain ⟨rfl, rfl⟩ := e1
  exact j_pick [0, 1, 2] rfl (k r S' V' q)
theorem t1_2_71 {C : qCx} {G : jG} {S : jS} {V : jH} {nc ns : Nat} {l2 l5 l6 s0 s1 : Int} {mc ms : Nat} {pp : Int → Int → jS → jH → Prop} {qq : Int → Int → jS → jH → jS → jH → Prop} (h : x1_2 C G) (hrm : C.2.2.2.1.frames = 2 ∧ C.2.2.2.1.locals = 48) (c1 : S.1 s1 = 27) (hM : M8_2 C.2.1 mc ms pp qq) (hp : pp s1 s0 S V) (hc : nc + mc ≤ C.2.2.2.1.cells) (hs : ns + ms ≤ C.2.2.2.1.slots) (k : ∀ (S' : jS) (V' : jH), qq s1 s0 S V S' V' → j_ok n_KT 7 C G 74 [(2, (1, l2)), (5, (2, l5)), (6, (0, l6))] [] S' V' (nc + mc) (ns + ms)) : j_ok n_KT 7 C G 71 [(2, (1, l2)), (5, (2, l5)), (6, (0, l6))] [(0, s0), (2, s1)] S V nc ns := by
  have E := n_E h
  refine j_call E (K1_2_71 h hrm hM) d1_2_71 (a := [(2, s1), (0, s0)]) (sk := []) rfl ⟨s1, s0, rfl, c1, hp⟩ (Nat.le_of_ble_eq_true rfl) hc hs ?_
  rintro rs S' V' ⟨z0, z1, e1, rfl, q⟩
  simp only [List.cons.injEq, Prod.mk.injEq, and_true, true_and] at e1
  obtain ⟨rfl, rfl⟩ := e1
  exact j_pick [0, 1, 2] rfl (k S' V' q)
theorem t1_2_74 {C : qCx} {G : jG} {S : jS} {V : jH} {nc ns : Nat} {l2 l5 l6 : Int} (h : x1_2 C G) (c1 : -2147483648 ≤ l6 + (-1) ∧ l6 + (-1) ≤ 2147483647) (k : j_ok n_KT 7 C G 58 [(2, (1, l2)), (5, (2, l5)), (6, (0, l6 + (-1)))] [] S V nc ns) : j_ok n_KT 7 C G 74 [(2, (1, l2)), (5, (2, l5)), (6, (0, l6))] [] S V nc ns := by
  have E := n_E h
  refine j_iinc E d1_2_74 (by decide) (by decide) 2 rfl (lo1 := [(2, (1, l2)), (5, (2, l5))]) rfl c1 ?_
  refine j_goto E d1_2_77 (t := 58) rfl ?_
  exact j_pick [1, 2, 0] rfl k
theorem t1_2_80 {C : qCx} {G : jG} {S : jS} {V : jH} {nc ns : Nat} {l5 : Int} {mc ms : Nat} {qf : Int → jS → jH → Prop} (h : x1_2 C G) (c1 : S.1 l5 = 27) (R : j_Ri n_KT 7 C G b_1_2 mc ms qf) (q : qf (V l5 1) S V) (hc : nc ≤ mc) (hs : ns ≤ ms) : j_ok n_KT 7 C G 80 [(5, (2, l5))] [] S V nc ns := by
  have E := n_E h
  refine j_aload E d1_2_80 0 rfl ?_
  refine j_getI (f := 1) (fg10_59 h) d1_2_82 c1 (by decide) rfl rfl ?_
  exact R _ _ _ _ _ _ _ d1_2_85 q hc hs
/- BalanceCoder.clear(I)I -/
abbrev b_1_3 : ByteArray := prog_1_method_3_code
def y_1_3 : MethodName := ⟨"BalanceCoder", "clear", "(I)I"⟩
abbrev x1_3 (C : qCx) (G : jG) : Prop := n_ctx C b_1_3 4 "BalanceCoder" G.1 G.2.1
def M1_3 (l : Launch) (mc ms : Nat) (p : Int → Int → jS → jH → Prop) (q : Int → Int → jS → jH → Int → jS → jH → Prop) : Prop := j_Met l vwCl n_TL n_NW n_KT y_1_3 (Cond.code y_1_3 b_1_3 4 (some .int) :: n_GW) { frames := 2, cells := mc, slots := ms, locals := 47 } mc ms (fun a S V => ∃ u0 u1 : Int, a = [(2, u0), (0, u1)] ∧ S.1 u0 = 31 ∧ p u0 u1 S V) (fun a S V rs S' V' => ∃ u0 u1 r : Int, a = [(2, u0), (0, u1)] ∧ rs = [(0, r)] ∧ q u0 u1 S V r S' V')
theorem e1_3 {l : Launch} {mc ms : Nat} {p : Int → Int → jS → jH → Prop} {q : Int → Int → jS → jH → Int → jS → jH → Prop} (body : ∀ (C : qCx) (G : jG), x1_3 C G → C.2.2.2.1.frames = 2 ∧ C.2.2.2.1.locals = 47 → C.2.2.2.1.cells = mc ∧ C.2.2.2.1.slots = ms → C.2.1 = l → C.2.2.2.2.2.2.2.2.1.name = "clear" → ∀ (u0 u1 : Int) (S : jS) (V : jH), S.1 u0 = 31 → p u0 u1 S V → j_Ri n_KT 4 C G b_1_3 mc ms (q u0 u1 S V) → j_ok n_KT 4 C G 0 [(0, (2, u0)), (1, (0, u1))] [] S V 0 0) : M1_3 l mc ms p q := by
  refine j_method (ws' := n_GW) (by decide) rfl ?_ ?_
  · rintro a S V ⟨u0, u1, rfl, -⟩
    exact Nat.le_of_ble_eq_true rfl
  · rintro C G htl hl hrm hm hml ho hts hnm hE a S V ⟨u0, u1, rfl, ht, hp⟩ R
    exact body C G ⟨htl, hm, hml, ho, fun w hw => hts w (List.mem_cons_of_mem _ hw), hE⟩ (by rw [hrm]; exact ⟨rfl, rfl⟩) (by rw [hrm]; exact ⟨rfl, rfl⟩) hl hnm u0 u1 S V ht hp (fun pc lo r S' V' nc ns d q hc hs => R.2.1 rfl pc lo r S' V' nc ns d ⟨u0, u1, r, rfl, rfl, q⟩ hc hs)
theorem d1_3_0 : decode b_1_3 0 = .ok (.aload_n 0, 1) := by decide +kernel
theorem d1_3_1 : decode b_1_3 1 = .ok (.iload_n 1, 1) := by decide +kernel
theorem d1_3_2 : decode b_1_3 2 = .ok (.invokevirtual 51, 3) := by decide +kernel
theorem d1_3_5 : decode b_1_3 5 = .ok (.astore_n 2, 1) := by decide +kernel
theorem d1_3_6 : decode b_1_3 6 = .ok (.aload_n 2, 1) := by decide +kernel
theorem d1_3_7 : decode b_1_3 7 = .ok (.ifnonnull 9, 3) := by decide +kernel
theorem d1_3_10 : decode b_1_3 10 = .ok (.aload_n 0, 1) := by decide +kernel
theorem d1_3_11 : decode b_1_3 11 = .ok (.iconst (-1), 1) := by decide +kernel
theorem d1_3_12 : decode b_1_3 12 = .ok (.invokevirtual 55, 3) := by decide +kernel
theorem d1_3_15 : decode b_1_3 15 = .ok (.ireturn, 1) := by decide +kernel
theorem d1_3_16 : decode b_1_3 16 = .ok (.aload_n 2, 1) := by decide +kernel
theorem d1_3_17 : decode b_1_3 17 = .ok (.getfield 59, 3) := by decide +kernel
theorem d1_3_20 : decode b_1_3 20 = .ok (.istore_n 3, 1) := by decide +kernel
theorem d1_3_21 : decode b_1_3 21 = .ok (.aload_n 2, 1) := by decide +kernel
theorem d1_3_22 : decode b_1_3 22 = .ok (.iconst 0, 1) := by decide +kernel
theorem d1_3_23 : decode b_1_3 23 = .ok (.putfield 59, 3) := by decide +kernel
theorem d1_3_26 : decode b_1_3 26 = .ok (.iload_n 3, 1) := by decide +kernel
theorem d1_3_27 : decode b_1_3 27 = .ok (.ireturn, 1) := by decide +kernel
theorem K1_3_2 {C : qCx} {G : jG} {mc ms : Nat} {p : Int → Int → jS → jH → Prop} {q : Int → Int → jS → jH → Int → jS → jH → Prop} (h : x1_3 C G) (hrm : C.2.2.2.1.frames = 2 ∧ C.2.2.2.1.locals = 47) (hM : M1_29 C.2.1 mc ms p q) : j_Call C b_1_3 n_KT G.1 G.2.1 4 (.invokevirtual 51) mc ms (fun a S V => ∃ u0 u1 : Int, a = [(2, u0), (0, u1)] ∧ S.1 u0 = 31 ∧ p u0 u1 S V) (fun a S V rs S' V' => ∃ u0 u1 r : Int, a = [(2, u0), (0, u1)] ∧ rs = [(2, r)] ∧ q u0 u1 S V r S' V') := j_callV n_NWk h.2.2.2.2.2 h.1 hM ⟨h.2.1.1, h.2.1.2, h.2.2.1, h.2.2.2.1, h.2.2.2.2.1⟩ ⟨n_CB (y := y_1_29) (bytes := b_1_29) 1 h.2.2.2.2.1 n_w305 n_w302 n_w1 ⟨by decide, by decide, by decide +kernel⟩ rfl rfl ⟨by rw [hrm.1]; exact Nat.le_of_ble_eq_true rfl, by rw [hrm.2]; exact Nat.le_of_ble_eq_true rfl⟩, h.2.2.2.2.1 _ n_w304, h.2.2.2.2.1 _ n_s0⟩ (Cn := RX10) (fun a S V hP => by obtain ⟨u0, u1, rfl, e, -⟩ := hP; exact ⟨u0, _, 10, _, _, TX10, 8, rfl, rfl, by rw [e]; decide, by rw [e]; rfl, rfl⟩)
theorem K1_3_12 {C : qCx} {G : jG} {mc ms : Nat} {p : Int → Int → jS → jH → Prop} {q : Int → Int → jS → jH → Int → jS → jH → Prop} (h : x1_3 C G) (hrm : C.2.2.2.1.frames = 2 ∧ C.2.2.2.1.locals = 47) (hM : M1_27 C.2.1 mc ms p q) : j_Call C b_1_3 n_KT G.1 G.2.1 4 (.invokevirtual 55) mc ms (fun a S V => ∃ u0 u1 : Int, a = [(2, u0), (0, u1)] ∧ S.1 u0 = 31 ∧ p u0 u1 S V) (fun a S V rs S' V' => ∃ u0 u1 r : Int, a = [(2, u0), (0, u1)] ∧ rs = [(0, r)] ∧ q u0 u1 S V r S' V') := j_callV n_NWk h.2.2.2.2.2 h.1 hM ⟨h.2.1.1, h.2.1.2, h.2.2.1, h.2.2.2.1, h.2.2.2.2.1⟩ ⟨n_CB (y := y_1_27) (bytes := b_1_27) 1 h.2.2.2.2.1 n_w309 n_w306 n_w1 ⟨by decide, by decide, by decide +kernel⟩ rfl rfl ⟨by rw [hrm.1]; exact Nat.le_of_ble_eq_true rfl, by rw [hrm.2]; exact Nat.le_of_ble_eq_true rfl⟩, h.2.2.2.2.1 _ n_w308, h.2.2.2.2.1 _ n_s1⟩ (Cn := RX10) (fun a S V hP => by obtain ⟨u0, u1, rfl, e, -⟩ := hP; exact ⟨u0, _, 10, _, _, TX10, 8, rfl, rfl, by rw [e]; decide, by rw [e]; rfl, rfl⟩)
theorem t1_3_0 {C : qCx} {G : jG} {S : jS} {V : jH} {nc ns : Nat} {l0 l1 : Int} {mc ms : Nat} {pp : Int → Int → jS → jH → Prop} {qq : Int → Int → jS → jH → Int → jS → jH → Prop} (h : x1_3 C G) (hrm : C.2.2.2.1.frames = 2 ∧ C.2.2.2.1.locals = 47) (c1 : S.1 l0 = 31) (hM : M1_29 C.2.1 mc ms pp qq) (hp : pp l0 l1 S V) (hc : nc + mc ≤ C.2.2.2.1.cells) (hs : ns + ms ≤ C.2.2.2.1.slots) (k : ∀ (r : Int) (S' : jS) (V' : jH), qq l0 l1 S V r S' V' → j_ok n_KT 4 C G 5 [(0, (2, l0))] [(2, r)] S' V' (nc + mc) (ns + ms)) : j_ok n_KT 4 C G 0 [(0, (2, l0)), (1, (0, l1))] [] S V nc ns := by
  have E := n_E h
  refine j_aload_n E d1_3_0 rfl 0 rfl ?_
  refine j_iload_n E d1_3_1 rfl 1 rfl ?_
  refine j_call E (K1_3_2 h hrm hM) d1_3_2 (a := [(2, l0), (0, l1)]) (sk := []) rfl ⟨l0, l1, rfl, c1, hp⟩ (Nat.le_of_ble_eq_true rfl) hc hs ?_
  rintro rs S' V' ⟨z0, z1, r, e1, rfl, q⟩
  simp only [List.cons.injEq, Prod.mk.injEq, and_true, true_and] at e1
  obtain ⟨rfl, rfl⟩ := e1
  exact j_pick [0] rfl (k r S' V' q)
theorem t1_3_5 {C : qCx} {G : jG} {S : jS} {V : jH} {nc ns : Nat} {l0 s0 : Int} (h : x1_3 C G)  (k : 0 ≤ s0 → S.1 s0 ≠ 0 → j_ok n_KT 4 C G 16 [(2, (2, s0))] [] S V nc ns) (k' : s0 = -1 → j_ok n_KT 4 C G 10 [(0, (2, l0))] [] S V nc ns) : j_ok n_KT 4 C G 5 [(0, (2, l0))] [(2, s0)] S V nc ns := by
  have E := n_E h
  refine j_astore_n E d1_3_5 rfl (by decide) (lo1 := [(0, (2, l0))]) rfl ?_
  refine j_aload_n E d1_3_6 rfl 0 rfl ?_
  exact j_ifnonnull E d1_3_7 (t := 16) rfl (fun q q2 => j_pick [0] rfl (k q q2)) (fun q => j_pick [1] rfl (k' q))
theorem t1_3_10 {C : qCx} {G : jG} {S : jS} {V : jH} {nc ns : Nat} {l0 : Int} {mc ms : Nat} {pp : Int → Int → jS → jH → Prop} {qq : Int → Int → jS → jH → Int → jS → jH → Prop} (h : x1_3 C G) (hrm : C.2.2.2.1.frames = 2 ∧ C.2.2.2.1.locals = 47) (c1 : S.1 l0 = 31) (hM : M1_27 C.2.1 mc ms pp qq) (hp : pp l0 ((-1)) S V) (hc : nc + mc ≤ C.2.2.2.1.cells) (hs : ns + ms ≤ C.2.2.2.1.slots) (k : ∀ (r : Int) (S' : jS) (V' : jH), qq l0 ((-1)) S V r S' V' → j_ok n_KT 4 C G 15 [] [(0, r)] S' V' (nc + mc) (ns + ms)) : j_ok n_KT 4 C G 10 [(0, (2, l0))] [] S V nc ns := by
  have E := n_E h
  refine j_aload_n E d1_3_10 rfl 0 rfl ?_
  refine j_iconst E d1_3_11 (by decide) ?_
  refine j_call E (K1_3_12 h hrm hM) d1_3_12 (a := [(2, l0), (0, (-1))]) (sk := []) rfl ⟨l0, (-1), rfl, c1, hp⟩ (Nat.le_of_ble_eq_true rfl) hc hs ?_
  rintro rs S' V' ⟨z0, z1, r, e1, rfl, q⟩
  simp only [List.cons.injEq, Prod.mk.injEq, and_true, true_and] at e1
  obtain ⟨rfl, rfl⟩ := e1
  exact j_pick [] rfl (k r S' V' q)
theorem t1_3_15 {C : qCx} {G : jG} {S : jS} {V : jH} {nc ns : Nat} {s0 : Int} {mc ms : Nat} {qf : Int → jS → jH → Prop} (h : x1_3 C G)  (R : j_Ri n_KT 4 C G b_1_3 mc ms qf) (q : qf s0 S V) (hc : nc ≤ mc) (hs : ns ≤ ms) : j_ok n_KT 4 C G 15 [] [(0, s0)] S V nc ns := by
  have E := n_E h
  exact R _ _ _ _ _ _ _ d1_3_15 q hc hs
theorem t1_3_16 {C : qCx} {G : jG} {S : jS} {V : jH} {nc ns : Nat} {l2 : Int} {mc ms : Nat} {qf : Int → jS → jH → Prop} (h : x1_3 C G) (c1 : S.1 l2 = 27) (R : j_Ri n_KT 4 C G b_1_3 mc ms qf) (q : qf (V l2 1) S (j_up V l2 1 0)) (hc : nc ≤ mc) (hs : ns ≤ ms) : j_ok n_KT 4 C G 16 [(2, (2, l2))] [] S V nc ns := by
  have E := n_E h
  refine j_aload_n E d1_3_16 rfl 0 rfl ?_
  refine j_getI (f := 1) (fg10_59 h) d1_3_17 c1 (by decide) rfl rfl ?_
  refine j_istore_n E d1_3_20 rfl (by decide) (lo1 := [(2, (2, l2))]) rfl ?_
  refine j_aload_n E d1_3_21 rfl 1 rfl ?_
  refine j_iconst E d1_3_22 (by decide) ?_
  refine j_putI (f := 1) (fp10_59 h) (n_hap h 27 6 0 _ rfl) d1_3_23 c1 (by decide) rfl rfl rfl ?_
  refine j_iload_n E d1_3_26 rfl 0 rfl ?_
  exact R _ _ _ _ _ _ _ d1_3_27 q hc hs
/- BalanceCoder.at(II)I -/
abbrev b_1_4 : ByteArray := prog_1_method_4_code
def y_1_4 : MethodName := ⟨"BalanceCoder", "at", "(II)I"⟩
abbrev x1_4 (C : qCx) (G : jG) : Prop := n_ctx C b_1_4 4 "BalanceCoder" G.1 G.2.1
def M1_4 (l : Launch) (mc ms : Nat) (p : Int → Int → Int → jS → jH → Prop) (q : Int → Int → Int → jS → jH → Int → jS → jH → Prop) : Prop := j_Met l vwCl n_TL n_NW n_KT y_1_4 (Cond.code y_1_4 b_1_4 4 (some .int) :: n_GW) { frames := 2, cells := mc, slots := ms, locals := 47 } mc ms (fun a S V => ∃ u0 u1 u2 : Int, a = [(2, u0), (0, u1), (0, u2)] ∧ S.1 u0 = 31 ∧ p u0 u1 u2 S V) (fun a S V rs S' V' => ∃ u0 u1 u2 r : Int, a = [(2, u0), (0, u1), (0, u2)] ∧ rs = [(0, r)] ∧ q u0 u1 u2 S V r S' V')
theorem e1_4 {l : Launch} {mc ms : Nat} {p : Int → Int → Int → jS → jH → Prop} {q : Int → Int → Int → jS → jH → Int → jS → jH → Prop} (body : ∀ (C : qCx) (G : jG), x1_4 C G → C.2.2.2.1.frames = 2 ∧ C.2.2.2.1.locals = 47 → C.2.2.2.1.cells = mc ∧ C.2.2.2.1.slots = ms → C.2.1 = l → C.2.2.2.2.2.2.2.2.1.name = "at" → ∀ (u0 u1 u2 : Int) (S : jS) (V : jH), S.1 u0 = 31 → p u0 u1 u2 S V → j_Ri n_KT 4 C G b_1_4 mc ms (q u0 u1 u2 S V) → j_ok n_KT 4 C G 0 [(0, (2, u0)), (1, (0, u1)), (2, (0, u2))] [] S V 0 0) : M1_4 l mc ms p q := by
  refine j_method (ws' := n_GW) (by decide) rfl ?_ ?_
  · rintro a S V ⟨u0, u1, u2, rfl, -⟩
    exact Nat.le_of_ble_eq_true rfl
  · rintro C G htl hl hrm hm hml ho hts hnm hE a S V ⟨u0, u1, u2, rfl, ht, hp⟩ R
    exact body C G ⟨htl, hm, hml, ho, fun w hw => hts w (List.mem_cons_of_mem _ hw), hE⟩ (by rw [hrm]; exact ⟨rfl, rfl⟩) (by rw [hrm]; exact ⟨rfl, rfl⟩) hl hnm u0 u1 u2 S V ht hp (fun pc lo r S' V' nc ns d q hc hs => R.2.1 rfl pc lo r S' V' nc ns d ⟨u0, u1, u2, r, rfl, rfl, q⟩ hc hs)
theorem d1_4_0 : decode b_1_4 0 = .ok (.aload_n 0, 1) := by decide +kernel
theorem d1_4_1 : decode b_1_4 1 = .ok (.iload_n 1, 1) := by decide +kernel
theorem d1_4_2 : decode b_1_4 2 = .ok (.invokevirtual 51, 3) := by decide +kernel
theorem d1_4_5 : decode b_1_4 5 = .ok (.astore_n 3, 1) := by decide +kernel
theorem d1_4_6 : decode b_1_4 6 = .ok (.aload_n 3, 1) := by decide +kernel
theorem d1_4_7 : decode b_1_4 7 = .ok (.ifnull 16, 3) := by decide +kernel
theorem d1_4_10 : decode b_1_4 10 = .ok (.iload_n 2, 1) := by decide +kernel
theorem d1_4_11 : decode b_1_4 11 = .ok (.iconst (-1), 1) := by decide +kernel
theorem d1_4_12 : decode b_1_4 12 = .ok (.if_icmp .lt 11, 3) := by decide +kernel
theorem d1_4_15 : decode b_1_4 15 = .ok (.iload_n 2, 1) := by decide +kernel
theorem d1_4_16 : decode b_1_4 16 = .ok (.aload_n 3, 1) := by decide +kernel
theorem d1_4_17 : decode b_1_4 17 = .ok (.getfield 59, 3) := by decide +kernel
theorem d1_4_20 : decode b_1_4 20 = .ok (.if_icmp .lt 9, 3) := by decide +kernel
theorem d1_4_23 : decode b_1_4 23 = .ok (.aload_n 0, 1) := by decide +kernel
theorem d1_4_24 : decode b_1_4 24 = .ok (.iconst (-1), 1) := by decide +kernel
theorem d1_4_25 : decode b_1_4 25 = .ok (.invokevirtual 55, 3) := by decide +kernel
theorem d1_4_28 : decode b_1_4 28 = .ok (.ireturn, 1) := by decide +kernel
theorem d1_4_29 : decode b_1_4 29 = .ok (.iload_n 2, 1) := by decide +kernel
theorem d1_4_30 : decode b_1_4 30 = .ok (.iconst (-1), 1) := by decide +kernel
theorem d1_4_31 : decode b_1_4 31 = .ok (.if_icmp .ne 10, 3) := by decide +kernel
theorem d1_4_34 : decode b_1_4 34 = .ok (.aload_n 3, 1) := by decide +kernel
theorem d1_4_35 : decode b_1_4 35 = .ok (.getfield 59, 3) := by decide +kernel
theorem d1_4_38 : decode b_1_4 38 = .ok (.goto 9, 3) := by decide +kernel
theorem d1_4_41 : decode b_1_4 41 = .ok (.aload_n 3, 1) := by decide +kernel
theorem d1_4_42 : decode b_1_4 42 = .ok (.getfield 72, 3) := by decide +kernel
theorem d1_4_45 : decode b_1_4 45 = .ok (.iload_n 2, 1) := by decide +kernel
theorem d1_4_46 : decode b_1_4 46 = .ok (.iaload, 1) := by decide +kernel
theorem d1_4_47 : decode b_1_4 47 = .ok (.ireturn, 1) := by decide +kernel
theorem K1_4_2 {C : qCx} {G : jG} {mc ms : Nat} {p : Int → Int → jS → jH → Prop} {q : Int → Int → jS → jH → Int → jS → jH → Prop} (h : x1_4 C G) (hrm : C.2.2.2.1.frames = 2 ∧ C.2.2.2.1.locals = 47) (hM : M1_29 C.2.1 mc ms p q) : j_Call C b_1_4 n_KT G.1 G.2.1 4 (.invokevirtual 51) mc ms (fun a S V => ∃ u0 u1 : Int, a = [(2, u0), (0, u1)] ∧ S.1 u0 = 31 ∧ p u0 u1 S V) (fun a S V rs S' V' => ∃ u0 u1 r : Int, a = [(2, u0), (0, u1)] ∧ rs = [(2, r)] ∧ q u0 u1 S V r S' V') := j_callV n_NWk h.2.2.2.2.2 h.1 hM ⟨h.2.1.1, h.2.1.2, h.2.2.1, h.2.2.2.1, h.2.2.2.2.1⟩ ⟨n_CB (y := y_1_29) (bytes := b_1_29) 1 h.2.2.2.2.1 n_w305 n_w302 n_w1 ⟨by decide, by decide, by decide +kernel⟩ rfl rfl ⟨by rw [hrm.1]; exact Nat.le_of_ble_eq_true rfl, by rw [hrm.2]; exact Nat.le_of_ble_eq_true rfl⟩, h.2.2.2.2.1 _ n_w304, h.2.2.2.2.1 _ n_s0⟩ (Cn := RX10) (fun a S V hP => by obtain ⟨u0, u1, rfl, e, -⟩ := hP; exact ⟨u0, _, 10, _, _, TX10, 8, rfl, rfl, by rw [e]; decide, by rw [e]; rfl, rfl⟩)
theorem K1_4_25 {C : qCx} {G : jG} {mc ms : Nat} {p : Int → Int → jS → jH → Prop} {q : Int → Int → jS → jH → Int → jS → jH → Prop} (h : x1_4 C G) (hrm : C.2.2.2.1.frames = 2 ∧ C.2.2.2.1.locals = 47) (hM : M1_27 C.2.1 mc ms p q) : j_Call C b_1_4 n_KT G.1 G.2.1 4 (.invokevirtual 55) mc ms (fun a S V => ∃ u0 u1 : Int, a = [(2, u0), (0, u1)] ∧ S.1 u0 = 31 ∧ p u0 u1 S V) (fun a S V rs S' V' => ∃ u0 u1 r : Int, a = [(2, u0), (0, u1)] ∧ rs = [(0, r)] ∧ q u0 u1 S V r S' V') := j_callV n_NWk h.2.2.2.2.2 h.1 hM ⟨h.2.1.1, h.2.1.2, h.2.2.1, h.2.2.2.1, h.2.2.2.2.1⟩ ⟨n_CB (y := y_1_27) (bytes := b_1_27) 1 h.2.2.2.2.1 n_w309 n_w306 n_w1 ⟨by decide, by decide, by decide +kernel⟩ rfl rfl ⟨by rw [hrm.1]; exact Nat.le_of_ble_eq_true rfl, by rw [hrm.2]; exact Nat.le_of_ble_eq_true rfl⟩, h.2.2.2.2.1 _ n_w308, h.2.2.2.2.1 _ n_s1⟩ (Cn := RX10) (fun a S V hP => by obtain ⟨u0, u1, rfl, e, -⟩ := hP; exact ⟨u0, _, 10, _, _, TX10, 8, rfl, rfl, by rw [e]; decide, by rw [e]; rfl, rfl⟩)
theorem t1_4_0 {C : qCx} {G : jG} {S : jS} {V : jH} {nc ns : Nat} {l0 l1 l2 : Int} {mc ms : Nat} {pp : Int → Int → jS → jH → Prop} {qq : Int → Int → jS → jH → Int → jS → jH → Prop} (h : x1_4 C G) (hrm : C.2.2.2.1.frames = 2 ∧ C.2.2.2.1.locals = 47) (c1 : S.1 l0 = 31) (hM : M1_29 C.2.1 mc ms pp qq) (hp : pp l0 l1 S V) (hc : nc + mc ≤ C.2.2.2.1.cells) (hs : ns + ms ≤ C.2.2.2.1.slots) (k : ∀ (r : Int) (S' : jS) (V' : jH), qq l0 l1 S V r S' V' → j_ok n_KT 4 C G 5 [(0, (2, l0)), (2, (0, l2))] [(2, r)] S' V' (nc + mc) (ns + ms)) : j_ok n_KT 4 C G 0 [(0, (2, l0)), (1, (0, l1)), (2, (0, l2))] [] S V nc ns := by
  have E := n_E h
  refine j_aload_n E d1_4_0 rfl 0 rfl ?_
  refine j_iload_n E d1_4_1 rfl 1 rfl ?_
  refine j_call E (K1_4_2 h hrm hM) d1_4_2 (a := [(2, l0), (0, l1)]) (sk := []) rfl ⟨l0, l1, rfl, c1, hp⟩ (Nat.le_of_ble_eq_true rfl) hc hs ?_
  rintro rs S' V' ⟨z0, z1, r, e1, rfl, q⟩
  simp only [List.cons.injEq, Prod.mk.injEq, and_true, true_and] at e1
  obtain ⟨rfl, rfl⟩ := e1
  exact j_pick [0, 2] rfl (k r S' V' q)
theorem t1_4_5 {C : qCx} {G : jG} {S : jS} {V : jH} {nc ns : Nat} {l0 l2 s0 : Int} (h : x1_4 C G)  (k : s0 = -1 → j_ok n_KT 4 C G 23 [(0, (2, l0))] [] S V nc ns) (k' : 0 ≤ s0 → S.1 s0 ≠ 0 → j_ok n_KT 4 C G 10 [(0, (2, l0)), (2, (0, l2)), (3, (2, s0))] [] S V nc ns) : j_ok n_KT 4 C G 5 [(0, (2, l0)), (2, (0, l2))] [(2, s0)] S V nc ns := by
  have E := n_E h
  refine j_astore_n E d1_4_5 rfl (by decide) (lo1 := [(0, (2, l0)), (2, (0, l2))]) rfl ?_
  refine j_aload_n E d1_4_6 rfl 0 rfl ?_
  exact j_ifnull E d1_4_7 (t := 23) rfl (fun q => j_pick [1] rfl (k q)) (fun q q2 => j_pick [1, 2, 0] rfl (k' q q2))
theorem t1_4_10 {C : qCx} {G : jG} {S : jS} {V : jH} {nc ns : Nat} {l0 l2 l3 : Int} (h : x1_4 C G)  (k : l2 < (-1) → j_ok n_KT 4 C G 23 [(0, (2, l0))] [] S V nc ns) (k' : (-1) ≤ l2 → j_ok n_KT 4 C G 15 [(0, (2, l0)), (2, (0, l2)), (3, (2, l3))] [] S V nc ns) : j_ok n_KT 4 C G 10 [(0, (2, l0)), (2, (0, l2)), (3, (2, l3))] [] S V nc ns := by
  have E := n_E h
  refine j_iload_n E d1_4_10 rfl 1 rfl ?_
  refine j_iconst E d1_4_11 (by decide) ?_
  exact j_icmp_lt E d1_4_12 (t := 23) rfl (fun q => j_pick [0] rfl (k q)) (fun q => j_pick [0, 1, 2] rfl (k' q))
theorem t1_4_15 {C : qCx} {G : jG} {S : jS} {V : jH} {nc ns : Nat} {l0 l2 l3 : Int} (h : x1_4 C G) (c1 : S.1 l3 = 27) (k : l2 < V l3 1 → j_ok n_KT 4 C G 29 [(2, (0, l2)), (3, (2, l3))] [] S V nc ns) (k' : V l3 1 ≤ l2 → j_ok n_KT 4 C G 23 [(0, (2, l0))] [] S V nc ns) : j_ok n_KT 4 C G 15 [(0, (2, l0)), (2, (0, l2)), (3, (2, l3))] [] S V nc ns := by
  have E := n_E h
  refine j_iload_n E d1_4_15 rfl 1 rfl ?_
  refine j_aload_n E d1_4_16 rfl 2 rfl ?_
  refine j_getI (f := 1) (fg10_59 h) d1_4_17 c1 (by decide) rfl rfl ?_
  exact j_icmp_lt E d1_4_20 (t := 29) rfl (fun q => j_pick [1, 2] rfl (k q)) (fun q => j_pick [0] rfl (k' q))
theorem t1_4_23 {C : qCx} {G : jG} {S : jS} {V : jH} {nc ns : Nat} {l0 : Int} {mc ms : Nat} {pp : Int → Int → jS → jH → Prop} {qq : Int → Int → jS → jH → Int → jS → jH → Prop} (h : x1_4 C G) (hrm : C.2.2.2.1.frames = 2 ∧ C.2.2.2.1.locals = 47) (c1 : S.1 l0 = 31) (hM : M1_27 C.2.1 mc ms pp qq) (hp : pp l0 ((-1)) S V) (hc : nc + mc ≤ C.2.2.2.1.cells) (hs : ns + ms ≤ C.2.2.2.1.slots) (k : ∀ (r : Int) (S' : jS) (V' : jH), qq l0 ((-1)) S V r S' V' → j_ok n_KT 4 C G 28 [] [(0, r)] S' V' (nc + mc) (ns + ms)) : j_ok n_KT 4 C G 23 [(0, (2, l0))] [] S V nc ns := by
  have E := n_E h
  refine j_aload_n E d1_4_23 rfl 0 rfl ?_
  refine j_iconst E d1_4_24 (by decide) ?_
  refine j_call E (K1_4_25 h hrm hM) d1_4_25 (a := [(2, l0), (0, (-1))]) (sk := []) rfl ⟨l0, (-1), rfl, c1, hp⟩ (Nat.le_of_ble_eq_true rfl) hc hs ?_
  rintro rs S' V' ⟨z0, z1, r, e1, rfl, q⟩
  simp only [List.cons.injEq, Prod.mk.injEq, and_true, true_and] at e1
  obtain ⟨rfl, rfl⟩ := e1
  exact j_pick [] rfl (k r S' V' q)
theorem t1_4_28 {C : qCx} {G : jG} {S : jS} {V : jH} {nc ns : Nat} {s0 : Int} {mc ms : Nat} {qf : Int → jS → jH → Prop} (h : x1_4 C G)  (R : j_Ri n_KT 4 C G b_1_4 mc ms qf) (q : qf s0 S V) (hc : nc ≤ mc) (hs : ns ≤ ms) : j_ok n_KT 4 C G 28 [] [(0, s0)] S V nc ns := by
  have E := n_E h
  exact R _ _ _ _ _ _ _ d1_4_28 q hc hs
theorem t1_4_29 {C : qCx} {G : jG} {S : jS} {V : jH} {nc ns : Nat} {l2 l3 : Int} (h : x1_4 C G)  (k : ¬ l2 = (-1) → j_ok n_KT 4 C G 41 [(2, (0, l2)), (3, (2, l3))] [] S V nc ns) (k' : l2 = (-1) → j_ok n_KT 4 C G 34 [(3, (2, l3))] [] S V nc ns) : j_ok n_KT 4 C G 29 [(2, (0, l2)), (3, (2, l3))] [] S V nc ns := by
  have E := n_E h
  refine j_iload_n E d1_4_29 rfl 0 rfl ?_
  refine j_iconst E d1_4_30 (by decide) ?_
  exact j_icmp_ne E d1_4_31 (t := 41) rfl (fun q => j_pick [0, 1] rfl (k q)) (fun q => j_pick [1] rfl (k' q))
theorem t1_4_34 {C : qCx} {G : jG} {S : jS} {V : jH} {nc ns : Nat} {l3 : Int} (h : x1_4 C G) (c1 : S.1 l3 = 27) (k : j_ok n_KT 4 C G 47 [] [(0, V l3 1)] S V nc ns) : j_ok n_KT 4 C G 34 [(3, (2, l3))] [] S V nc ns := by
  have E := n_E h
  refine j_aload_n E d1_4_34 rfl 0 rfl ?_
  refine j_getI (f := 1) (fg10_59 h) d1_4_35 c1 (by decide) rfl rfl ?_
  refine j_goto E d1_4_38 (t := 47) rfl ?_
  exact j_pick [] rfl k
theorem t1_4_41 {C : qCx} {G : jG} {S : jS} {V : jH} {nc ns : Nat} {l2 l3 : Int} (h : x1_4 C G) (L : j_L S) (c1 : S.1 l3 = 27) (c2 : 0 ≤ l2) (c3 : l2 < 400) (k : j_ok n_KT 4 C G 47 [] [(0, V (l3 + 1) l2)] S V nc ns) : j_ok n_KT 4 C G 41 [(2, (0, l2)), (3, (2, l3))] [] S V nc ns := by
  have E := n_E h
  refine j_aload_n E d1_4_41 rfl 1 rfl ?_
  refine j_getS (f := 0) (x := l3 + 1) (fg10_72 h) d1_4_42 c1 (by decide) rfl rfl ((L6_0 L c1).trans (by omega)) ?_
  refine j_iload_n E d1_4_45 rfl 0 rfl ?_
  refine j_iald E d1_4_46 (j_arr_of (show S.1 (l3 + 1) = 1 from (by have q := L6_0k L c1; rw [show l3 + 1 = l3 + 1 by omega]; exact q)) (by decide) rfl) c2 c3 ?_
  exact j_pick [] rfl k
theorem t1_4_47 {C : qCx} {G : jG} {S : jS} {V : jH} {nc ns : Nat} {s0 : Int} {mc ms : Nat} {qf : Int → jS → jH → Prop} (h : x1_4 C G)  (R : j_Ri n_KT 4 C G b_1_4 mc ms qf) (q : qf s0 S V) (hc : nc ≤ mc) (hs : ns ≤ ms) : j_ok n_KT 4 C G 47 [] [(0, s0)] S V nc ns := by
  have E := n_E h
  exact R _ _ _ _ _ _ _ d1_4_47 q hc hs
/- BalanceCoder.copy(IIII)I -/
abbrev b_1_5 : ByteArray := prog_1_method_5_code
def y_1_5 : MethodName := ⟨"BalanceCoder", "copy", "(IIII)I"⟩
abbrev x1_5 (C : qCx) (G : jG) : Prop := n_ctx C b_1_5 8 "BalanceCoder" G.1 G.2.1
def M1_5 (l : Launch) (mc ms : Nat) (p : Int → Int → Int → Int → Int → jS → jH → Prop) (q : Int → Int → Int → Int → Int → jS → jH → Int → jS → jH → Prop) : Prop := j_Met l vwCl n_TL n_NW n_KT y_1_5 (Cond.code y_1_5 b_1_5 8 (some .int) :: n_GW) { frames := 2, cells := mc, slots := ms, locals := 47 } mc ms (fun a S V => ∃ u0 u1 u2 u3 u4 : Int, a = [(2, u0), (0, u1), (0, u2), (0, u3), (0, u4)] ∧ S.1 u0 = 31 ∧ p u0 u1 u2 u3 u4 S V) (fun a S V rs S' V' => ∃ u0 u1 u2 u3 u4 r : Int, a = [(2, u0), (0, u1), (0, u2), (0, u3), (0, u4)] ∧ rs = [(0, r)] ∧ q u0 u1 u2 u3 u4 S V r S' V')
theorem e1_5 {l : Launch} {mc ms : Nat} {p : Int → Int → Int → Int → Int → jS → jH → Prop} {q : Int → Int → Int → Int → Int → jS → jH → Int → jS → jH → Prop} (body : ∀ (C : qCx) (G : jG), x1_5 C G → C.2.2.2.1.frames = 2 ∧ C.2.2.2.1.locals = 47 → C.2.2.2.1.cells = mc ∧ C.2.2.2.1.slots = ms → C.2.1 = l → C.2.2.2.2.2.2.2.2.1.name = "copy" → ∀ (u0 u1 u2 u3 u4 : Int) (S : jS) (V : jH), S.1 u0 = 31 → p u0 u1 u2 u3 u4 S V → j_Ri n_KT 8 C G b_1_5 mc ms (q u0 u1 u2 u3 u4 S V) → j_ok n_KT 8 C G 0 [(0, (2, u0)), (1, (0, u1)), (2, (0, u2)), (3, (0, u3)), (4, (0, u4))] [] S V 0 0) : M1_5 l mc ms p q := by
  refine j_method (ws' := n_GW) (by decide) rfl ?_ ?_
  · rintro a S V ⟨u0, u1, u2, u3, u4, rfl, -⟩
    exact Nat.le_of_ble_eq_true rfl
  · rintro C G htl hl hrm hm hml ho hts hnm hE a S V ⟨u0, u1, u2, u3, u4, rfl, ht, hp⟩ R
    exact body C G ⟨htl, hm, hml, ho, fun w hw => hts w (List.mem_cons_of_mem _ hw), hE⟩ (by rw [hrm]; exact ⟨rfl, rfl⟩) (by rw [hrm]; exact ⟨rfl, rfl⟩) hl hnm u0 u1 u2 u3 u4 S V ht hp (fun pc lo r S' V' nc ns d q hc hs => R.2.1 rfl pc lo r S' V' nc ns d ⟨u0, u1, u2, u3, u4, r, rfl, rfl, q⟩ hc hs)
theorem d1_5_0 : decode b_1_5 0 = .ok (.aload_n 0, 1) := by decide +kernel
theorem d1_5_1 : decode b_1_5 1 = .ok (.iload_n 1, 1) := by decide +kernel
theorem d1_5_2 : decode b_1_5 2 = .ok (.invokevirtual 51, 3) := by decide +kernel
theorem d1_5_5 : decode b_1_5 5 = .ok (.astore 5, 2) := by decide +kernel
theorem d1_5_7 : decode b_1_5 7 = .ok (.aload_n 0, 1) := by decide +kernel
theorem d1_5_8 : decode b_1_5 8 = .ok (.iload 4, 2) := by decide +kernel
theorem d1_5_10 : decode b_1_5 10 = .ok (.invokevirtual 51, 3) := by decide +kernel
theorem d1_5_13 : decode b_1_5 13 = .ok (.astore 6, 2) := by decide +kernel
theorem d1_5_15 : decode b_1_5 15 = .ok (.aload 5, 2) := by decide +kernel
theorem d1_5_17 : decode b_1_5 17 = .ok (.ifnull 36, 3) := by decide +kernel
theorem d1_5_20 : decode b_1_5 20 = .ok (.aload 6, 2) := by decide +kernel
theorem d1_5_22 : decode b_1_5 22 = .ok (.ifnull 31, 3) := by decide +kernel
theorem d1_5_25 : decode b_1_5 25 = .ok (.iload_n 2, 1) := by decide +kernel
theorem d1_5_26 : decode b_1_5 26 = .ok (.ifCond .lt 27, 3) := by decide +kernel
theorem d1_5_29 : decode b_1_5 29 = .ok (.iload_n 3, 1) := by decide +kernel
theorem d1_5_30 : decode b_1_5 30 = .ok (.ifCond .lt 23, 3) := by decide +kernel
theorem d1_5_33 : decode b_1_5 33 = .ok (.iload_n 3, 1) := by decide +kernel
theorem d1_5_34 : decode b_1_5 34 = .ok (.aload 5, 2) := by decide +kernel
theorem d1_5_36 : decode b_1_5 36 = .ok (.getfield 59, 3) := by decide +kernel
theorem d1_5_39 : decode b_1_5 39 = .ok (.if_icmp .gt 14, 3) := by decide +kernel
theorem d1_5_42 : decode b_1_5 42 = .ok (.iload_n 2, 1) := by decide +kernel
theorem d1_5_43 : decode b_1_5 43 = .ok (.aload 5, 2) := by decide +kernel
theorem d1_5_45 : decode b_1_5 45 = .ok (.getfield 59, 3) := by decide +kernel
theorem d1_5_48 : decode b_1_5 48 = .ok (.iload_n 3, 1) := by decide +kernel
theorem d1_5_49 : decode b_1_5 49 = .ok (.isub, 1) := by decide +kernel
theorem d1_5_50 : decode b_1_5 50 = .ok (.if_icmp .le 9, 3) := by decide +kernel
theorem d1_5_53 : decode b_1_5 53 = .ok (.aload_n 0, 1) := by decide +kernel
theorem d1_5_54 : decode b_1_5 54 = .ok (.iconst (-1), 1) := by decide +kernel
theorem d1_5_55 : decode b_1_5 55 = .ok (.invokevirtual 55, 3) := by decide +kernel
theorem d1_5_58 : decode b_1_5 58 = .ok (.ireturn, 1) := by decide +kernel
theorem d1_5_59 : decode b_1_5 59 = .ok (.iload_n 3, 1) := by decide +kernel
theorem d1_5_60 : decode b_1_5 60 = .ok (.sipush 400, 3) := by decide +kernel
theorem d1_5_63 : decode b_1_5 63 = .ok (.aload 6, 2) := by decide +kernel
theorem d1_5_65 : decode b_1_5 65 = .ok (.getfield 59, 3) := by decide +kernel
theorem d1_5_68 : decode b_1_5 68 = .ok (.isub, 1) := by decide +kernel
theorem d1_5_69 : decode b_1_5 69 = .ok (.if_icmp .le 10, 3) := by decide +kernel
theorem d1_5_72 : decode b_1_5 72 = .ok (.aload_n 0, 1) := by decide +kernel
theorem d1_5_73 : decode b_1_5 73 = .ok (.bipush (-2), 2) := by decide +kernel
theorem d1_5_75 : decode b_1_5 75 = .ok (.invokevirtual 55, 3) := by decide +kernel
theorem d1_5_78 : decode b_1_5 78 = .ok (.ireturn, 1) := by decide +kernel
theorem d1_5_79 : decode b_1_5 79 = .ok (.iconst 0, 1) := by decide +kernel
theorem d1_5_80 : decode b_1_5 80 = .ok (.istore 7, 2) := by decide +kernel
theorem d1_5_82 : decode b_1_5 82 = .ok (.iload 7, 2) := by decide +kernel
theorem d1_5_84 : decode b_1_5 84 = .ok (.iload_n 3, 1) := by decide +kernel
theorem d1_5_85 : decode b_1_5 85 = .ok (.if_icmp .ge 24, 3) := by decide +kernel
theorem d1_5_88 : decode b_1_5 88 = .ok (.aload 6, 2) := by decide +kernel
theorem d1_5_90 : decode b_1_5 90 = .ok (.aload 5, 2) := by decide +kernel
theorem d1_5_92 : decode b_1_5 92 = .ok (.getfield 72, 3) := by decide +kernel
theorem d1_5_95 : decode b_1_5 95 = .ok (.iload_n 2, 1) := by decide +kernel
theorem d1_5_96 : decode b_1_5 96 = .ok (.iload 7, 2) := by decide +kernel
theorem d1_5_98 : decode b_1_5 98 = .ok (.iadd, 1) := by decide +kernel
theorem d1_5_99 : decode b_1_5 99 = .ok (.iaload, 1) := by decide +kernel
theorem d1_5_100 : decode b_1_5 100 = .ok (.invokevirtual 68, 3) := by decide +kernel
theorem d1_5_103 : decode b_1_5 103 = .ok (.iinc 7 1, 3) := by decide +kernel
theorem d1_5_106 : decode b_1_5 106 = .ok (.goto (-24), 3) := by decide +kernel
theorem d1_5_109 : decode b_1_5 109 = .ok (.aload 6, 2) := by decide +kernel
theorem d1_5_111 : decode b_1_5 111 = .ok (.getfield 59, 3) := by decide +kernel
theorem d1_5_114 : decode b_1_5 114 = .ok (.ireturn, 1) := by decide +kernel
theorem K1_5_2 {C : qCx} {G : jG} {mc ms : Nat} {p : Int → Int → jS → jH → Prop} {q : Int → Int → jS → jH → Int → jS → jH → Prop} (h : x1_5 C G) (hrm : C.2.2.2.1.frames = 2 ∧ C.2.2.2.1.locals = 47) (hM : M1_29 C.2.1 mc ms p q) : j_Call C b_1_5 n_KT G.1 G.2.1 8 (.invokevirtual 51) mc ms (fun a S V => ∃ u0 u1 : Int, a = [(2, u0), (0, u1)] ∧ S.1 u0 = 31 ∧ p u0 u1 S V) (fun a S V rs S' V' => ∃ u0 u1 r : Int, a = [(2, u0), (0, u1)] ∧ rs = [(2, r)] ∧ q u0 u1 S V r S' V') := j_callV n_NWk h.2.2.2.2.2 h.1 hM ⟨h.2.1.1, h.2.1.2, h.2.2.1, h.2.2.2.1, h.2.2.2.2.1⟩ ⟨n_CB (y := y_1_29) (bytes := b_1_29) 1 h.2.2.2.2.1 n_w305 n_w302 n_w1 ⟨by decide, by decide, by decide +kernel⟩ rfl rfl ⟨by rw [hrm.1]; exact Nat.le_of_ble_eq_true rfl, by rw [hrm.2]; exact Nat.le_of_ble_eq_true rfl⟩, h.2.2.2.2.1 _ n_w304, h.2.2.2.2.1 _ n_s0⟩ (Cn := RX10) (fun a S V hP => by obtain ⟨u0, u1, rfl, e, -⟩ := hP; exact ⟨u0, _, 10, _, _, TX10, 8, rfl, rfl, by rw [e]; decide, by rw [e]; rfl, rfl⟩)
theorem K1_5_10 {C : qCx} {G : jG} {mc ms : Nat} {p : Int → Int → jS → jH → Prop} {q : Int → Int → jS → jH → Int → jS → jH → Prop} (h : x1_5 C G) (hrm : C.2.2.2.1.frames = 2 ∧ C.2.2.2.1.locals = 47) (hM : M1_29 C.2.1 mc ms p q) : j_Call C b_1_5 n_KT G.1 G.2.1 8 (.invokevirtual 51) mc ms (fun a S V => ∃ u0 u1 : Int, a = [(2, u0), (0, u1)] ∧ S.1 u0 = 31 ∧ p u0 u1 S V) (fun a S V rs S' V' => ∃ u0 u1 r : Int, a = [(2, u0), (0, u1)] ∧ rs = [(2, r)] ∧ q u0 u1 S V r S' V') := j_callV n_NWk h.2.2.2.2.2 h.1 hM ⟨h.2.1.1, h.2.1.2, h.2.2.1, h.2.2.2.1, h.2.2.2.2.1⟩ ⟨n_CB (y := y_1_29) (bytes := b_1_29) 1 h.2.2.2.2.1 n_w305 n_w302 n_w1 ⟨by decide, by decide, by decide +kernel⟩ rfl rfl ⟨by rw [hrm.1]; exact Nat.le_of_ble_eq_true rfl, by rw [hrm.2]; exact Nat.le_of_ble_eq_true rfl⟩, h.2.2.2.2.1 _ n_w304, h.2.2.2.2.1 _ n_s0⟩ (Cn := RX10) (fun a S V hP => by obtain ⟨u0, u1, rfl, e, -⟩ := hP; exact ⟨u0, _, 10, _, _, TX10, 8, rfl, rfl, by rw [e]; decide, by rw [e]; rfl, rfl⟩)
theorem K1_5_55 {C : qCx} {G : jG} {mc ms : Nat} {p : Int → Int → jS → jH → Prop} {q : Int → Int → jS → jH → Int → jS → jH → Prop} (h : x1_5 C G) (hrm : C.2.2.2.1.frames = 2 ∧ C.2.2.2.1.locals = 47) (hM : M1_27 C.2.1 mc ms p q) : j_Call C b_1_5 n_KT G.1 G.2.1 8 (.invokevirtual 55) mc ms (fun a S V => ∃ u0 u1 : Int, a = [(2, u0), (0, u1)] ∧ S.1 u0 = 31 ∧ p u0 u1 S V) (fun a S V rs S' V' => ∃ u0 u1 r : Int, a = [(2, u0), (0, u1)] ∧ rs = [(0, r)] ∧ q u0 u1 S V r S' V') := j_callV n_NWk h.2.2.2.2.2 h.1 hM ⟨h.2.1.1, h.2.1.2, h.2.2.1, h.2.2.2.1, h.2.2.2.2.1⟩ ⟨n_CB (y := y_1_27) (bytes := b_1_27) 1 h.2.2.2.2.1 n_w309 n_w306 n_w1 ⟨by decide, by decide, by decide +kernel⟩ rfl rfl ⟨by rw [hrm.1]; exact Nat.le_of_ble_eq_true rfl, by rw [hrm.2]; exact Nat.le_of_ble_eq_true rfl⟩, h.2.2.2.2.1 _ n_w308, h.2.2.2.2.1 _ n_s1⟩ (Cn := RX10) (fun a S V hP => by obtain ⟨u0, u1, rfl, e, -⟩ := hP; exact ⟨u0, _, 10, _, _, TX10, 8, rfl, rfl, by rw [e]; decide, by rw [e]; rfl, rfl⟩)
theorem K1_5_75 {C : qCx} {G : jG} {mc ms : Nat} {p : Int → Int → jS → jH → Prop} {q : Int → Int → jS → jH → Int → jS → jH → Prop} (h : x1_5 C G) (hrm : C.2.2.2.1.frames = 2 ∧ C.2.2.2.1.locals = 47) (hM : M1_27 C.2.1 mc ms p q) : j_Call C b_1_5 n_KT G.1 G.2.1 8 (.invokevirtual 55) mc ms (fun a S V => ∃ u0 u1 : Int, a = [(2, u0), (0, u1)] ∧ S.1 u0 = 31 ∧ p u0 u1 S V) (fun a S V rs S' V' => ∃ u0 u1 r : Int, a = [(2, u0), (0, u1)] ∧ rs = [(0, r)] ∧ q u0 u1 S V r S' V') := j_callV n_NWk h.2.2.2.2.2 h.1 hM ⟨h.2.1.1, h.2.1.2, h.2.2.1, h.2.2.2.1, h.2.2.2.2.1⟩ ⟨n_CB (y := y_1_27) (bytes := b_1_27) 1 h.2.2.2.2.1 n_w309 n_w306 n_w1 ⟨by decide, by decide, by decide +kernel⟩ rfl rfl ⟨by rw [hrm.1]; exact Nat.le_of_ble_eq_true rfl, by rw [hrm.2]; exact Nat.le_of_ble_eq_true rfl⟩, h.2.2.2.2.1 _ n_w308, h.2.2.2.2.1 _ n_s1⟩ (Cn := RX10) (fun a S V hP => by obtain ⟨u0, u1, rfl, e, -⟩ := hP; exact ⟨u0, _, 10, _, _, TX10, 8, rfl, rfl, by rw [e]; decide, by rw [e]; rfl, rfl⟩)
theorem K1_5_100 {C : qCx} {G : jG} {mc ms : Nat} {p : Int → Int → jS → jH → Prop} {q : Int → Int → jS → jH → jS → jH → Prop} (h : x1_5 C G) (hrm : C.2.2.2.1.frames = 2 ∧ C.2.2.2.1.locals = 47) (hM : M8_2 C.2.1 mc ms p q) : j_Call C b_1_5 n_KT G.1 G.2.1 8 (.invokevirtual 68) mc ms (fun a S V => ∃ u0 u1 : Int, a = [(2, u0), (0, u1)] ∧ S.1 u0 = 27 ∧ p u0 u1 S V) (fun a S V rs S' V' => ∃ u0 u1 : Int, a = [(2, u0), (0, u1)] ∧ rs = [] ∧ q u0 u1 S V S' V') := j_callV n_NWk h.2.2.2.2.2 h.1 hM ⟨h.2.1.1, h.2.1.2, h.2.2.1, h.2.2.2.1, h.2.2.2.2.1⟩ ⟨n_CB (y := y_8_2) (bytes := b_8_2) 1 h.2.2.2.2.1 n_w316 n_w313 n_w5 ⟨by decide, by decide, by decide +kernel⟩ rfl rfl ⟨by rw [hrm.1]; exact Nat.le_of_ble_eq_true rfl, by rw [hrm.2]; exact Nat.le_of_ble_eq_true rfl⟩, h.2.2.2.2.1 _ n_w314, h.2.2.2.2.1 _ n_w315⟩ (Cn := RX6) (fun a S V hP => by obtain ⟨u0, u1, rfl, e, -⟩ := hP; exact ⟨u0, _, 6, _, _, TX6, 2, rfl, rfl, by rw [e]; decide, by rw [e]; rfl, rfl⟩)
theorem t1_5_0 {C : qCx} {G : jG} {S : jS} {V : jH} {nc ns : Nat} {l0 l1 l2 l3 l4 : Int} {mc ms : Nat} {pp : Int → Int → jS → jH → Prop} {qq : Int → Int → jS → jH → Int → jS → jH → Prop} (h : x1_5 C G) (hrm : C.2.2.2.1.frames = 2 ∧ C.2.2.2.1.locals = 47) (c1 : S.1 l0 = 31) (hM : M1_29 C.2.1 mc ms pp qq) (hp : pp l0 l1 S V) (hc : nc + mc ≤ C.2.2.2.1.cells) (hs : ns + ms ≤ C.2.2.2.1.slots) (k : ∀ (r : Int) (S' : jS) (V' : jH), qq l0 l1 S V r S' V' → j_ok n_KT 8 C G 5 [(0, (2, l0)), (2, (0, l2)), (3, (0, l3)), (4, (0, l4))] [(2, r)] S' V' (nc + mc) (ns + ms)) : j_ok n_KT 8 C G 0 [(0, (2, l0)), (1, (0, l1)), (2, (0, l2)), (3, (0, l3)), (4, (0, l4))] [] S V nc ns := by
  have E := n_E h
  refine j_aload_n E d1_5_0 rfl 0 rfl ?_
  refine j_iload_n E d1_5_1 rfl 1 rfl ?_
  refine j_call E (K1_5_2 h hrm hM) d1_5_2 (a := [(2, l0), (0, l1)]) (sk := []) rfl ⟨l0, l1, rfl, c1, hp⟩ (Nat.le_of_ble_eq_true rfl) hc hs ?_
  rintro rs S' V' ⟨z0, z1, r, e1, rfl, q⟩
  simp only [List.cons.injEq, Prod.mk.injEq, and_true, true_and] at e1
  obtain ⟨rfl, rfl⟩ := e1
  exact j_pick [0, 2, 3, 4] rfl (k r S' V' q)
theorem t1_5_5 {C : qCx} {G : jG} {S : jS} {V : jH} {nc ns : Nat} {l0 l2 l3 l4 s0 : Int} {mc ms : Nat} {pp : Int → Int → jS → jH → Prop} {qq : Int → Int → jS → jH → Int → jS → jH → Prop} (h : x1_5 C G) (hrm : C.2.2.2.1.frames = 2 ∧ C.2.2.2.1.locals = 47) (c1 : S.1 l0 = 31) (hM : M1_29 C.2.1 mc ms pp qq) (hp : pp l0 l4 S V) (hc : nc + mc ≤ C.2.2.2.1.cells) (hs : ns + ms ≤ C.2.2.2.1.slots) (k : ∀ (r : Int) (S' : jS) (V' : jH), qq l0 l4 S V r S' V' → j_ok n_KT 8 C G 13 [(0, (2, l0)), (2, (0, l2)), (3, (0, l3)), (5, (2, s0))] [(2, r)] S' V' (nc + mc) (ns + ms)) : j_ok n_KT 8 C G 5 [(0, (2, l0)), (2, (0, l2)), (3, (0, l3)), (4, (0, l4))] [(2, s0)] S V nc ns := by
  have E := n_E h
  refine j_astore E d1_5_5 (by decide) (lo1 := [(0, (2, l0)), (2, (0, l2)), (3, (0, l3)), (4, (0, l4))]) rfl ?_
  refine j_aload_n E d1_5_7 rfl 1 rfl ?_
  refine j_iload E d1_5_8 4 rfl ?_
  refine j_call E (K1_5_10 h hrm hM) d1_5_10 (a := [(2, l0), (0, l4)]) (sk := []) rfl ⟨l0, l4, rfl, c1, hp⟩ (Nat.le_of_ble_eq_true rfl) hc hs ?_
  rintro rs S' V' ⟨z0, z1, r, e1, rfl, q⟩
  simp only [List.cons.injEq, Prod.mk.injEq, and_true, true_and] at e1
  obtain ⟨rfl, rfl⟩ := e1
  exact j_pick [1, 2, 3, 0] rfl (k r S' V' q)
theorem t1_5_13 {C : qCx} {G : jG} {S : jS} {V : jH} {nc ns : Nat} {l0 l2 l3 l5 s0 : Int} (h : x1_5 C G)  (k : l5 = -1 → j_ok n_KT 8 C G 53 [(0, (2, l0))] [] S V nc ns) (k' : 0 ≤ l5 → S.1 l5 ≠ 0 → j_ok n_KT 8 C G 20 [(0, (2, l0)), (2, (0, l2)), (3, (0, l3)), (5, (2, l5)), (6, (2, s0))] [] S V nc ns) : j_ok n_KT 8 C G 13 [(0, (2, l0)), (2, (0, l2)), (3, (0, l3)), (5, (2, l5))] [(2, s0)] S V nc ns := by
  have E := n_E h
  refine j_astore E d1_5_13 (by decide) (lo1 := [(0, (2, l0)), (2, (0, l2)), (3, (0, l3)), (5, (2, l5))]) rfl ?_
  refine j_aload E d1_5_15 4 rfl ?_
  exact j_ifnull E d1_5_17 (t := 53) rfl (fun q => j_pick [1] rfl (k q)) (fun q q2 => j_pick [1, 2, 3, 4, 0] rfl (k' q q2))
theorem t1_5_20 {C : qCx} {G : jG} {S : jS} {V : jH} {nc ns : Nat} {l0 l2 l3 l5 l6 : Int} (h : x1_5 C G)  (k : l6 = -1 → j_ok n_KT 8 C G 53 [(0, (2, l0))] [] S V nc ns) (k' : 0 ≤ l6 → S.1 l6 ≠ 0 → j_ok n_KT 8 C G 25 [(0, (2, l0)), (2, (0, l2)), (3, (0, l3)), (5, (2, l5)), (6, (2, l6))] [] S V nc ns) : j_ok n_KT 8 C G 20 [(0, (2, l0)), (2, (0, l2)), (3, (0, l3)), (5, (2, l5)), (6, (2, l6))] [] S V nc ns := by
  have E := n_E h
  refine j_aload E d1_5_20 4 rfl ?_
  exact j_ifnull E d1_5_22 (t := 53) rfl (fun q => j_pick [0] rfl (k q)) (fun q q2 => j_pick [0, 1, 2, 3, 4] rfl (k' q q2))
theorem t1_5_25 {C : qCx} {G : jG} {S : jS} {V : jH} {nc ns : Nat} {l0 l2 l3 l5 l6 : Int} (h : x1_5 C G)  (k : l2 < 0 → j_ok n_KT 8 C G 53 [(0, (2, l0))] [] S V nc ns) (k' : 0 ≤ l2 → j_ok n_KT 8 C G 29 [(0, (2, l0)), (2, (0, l2)), (3, (0, l3)), (5, (2, l5)), (6, (2, l6))] [] S V nc ns) : j_ok n_KT 8 C G 25 [(0, (2, l0)), (2, (0, l2)), (3, (0, l3)), (5, (2, l5)), (6, (2, l6))] [] S V nc ns := by
  have E := n_E h
  refine j_iload_n E d1_5_25 rfl 1 rfl ?_
  exact j_if_lt E d1_5_26 (t := 53) rfl (fun q => j_pick [0] rfl (k q)) (fun q => j_pick [0, 1, 2, 3, 4] rfl (k' q))
theorem t1_5_29 {C : qCx} {G : jG} {S : jS} {V : jH} {nc ns : Nat} {l0 l2 l3 l5 l6 : Int} (h : x1_5 C G)  (k : l3 < 0 → j_ok n_KT 8 C G 53 [(0, (2, l0))] [] S V nc ns) (k' : 0 ≤ l3 → j_ok n_KT 8 C G 33 [(0, (2, l0)), (2, (0, l2)), (3, (0, l3)), (5, (2, l5)), (6, (2, l6))] [] S V nc ns) : j_ok n_KT 8 C G 29 [(0, (2, l0)), (2, (0, l2)), (3, (0, l3)), (5, (2, l5)), (6, (2, l6))] [] S V nc ns := by
  have E := n_E h
  refine j_iload_n E d1_5_29 rfl 2 rfl ?_
  exact j_if_lt E d1_5_30 (t := 53) rfl (fun q => j_pick [0] rfl (k q)) (fun q => j_pick [0, 1, 2, 3, 4] rfl (k' q))
theorem t1_5_33 {C : qCx} {G : jG} {S : jS} {V : jH} {nc ns : Nat} {l0 l2 l3 l5 l6 : Int} (h : x1_5 C G) (c1 : S.1 l5 = 27) (k : V l5 1 < l3 → j_ok n_KT 8 C G 53 [(0, (2, l0))] [] S V nc ns) (k' : l3 ≤ V l5 1 → j_ok n_KT 8 C G 42 [(0, (2, l0)), (2, (0, l2)), (3, (0, l3)), (5, (2, l5)), (6, (2, l6))] [] S V nc ns) : j_ok n_KT 8 C G 33 [(0, (2, l0)), (2, (0, l2)), (3, (0, l3)), (5, (2, l5)), (6, (2, l6))] [] S V nc ns := by
  have E := n_E h
  refine j_iload_n E d1_5_33 rfl 2 rfl ?_
  refine j_aload E d1_5_34 3 rfl ?_
  refine j_getI (f := 1) (fg10_59 h) d1_5_36 c1 (by decide) rfl rfl ?_
  exact j_icmp_gt E d1_5_39 (t := 53) rfl (fun q => j_pick [0] rfl (k q)) (fun q => j_pick [0, 1, 2, 3, 4] rfl (k' q))
theorem t1_5_42 {C : qCx} {G : jG} {S : jS} {V : jH} {nc ns : Nat} {l0 l2 l3 l5 l6 : Int} (h : x1_5 C G) (c1 : S.1 l5 = 27) (c2 : -2147483648 ≤ (V l5 1) - l3 ∧ (V l5 1) - l3 ≤ 2147483647) (k : l2 ≤ (V l5 1) - l3 → j_ok n_KT 8 C G 59 [(0, (2, l0)), (2, (0, l2)), (3, (0, l3)), (5, (2, l5)), (6, (2, l6))] [] S V nc ns) (k' : (V l5 1) - l3 < l2 → j_ok n_KT 8 C G 53 [(0, (2, l0))] [] S V nc ns) : j_ok n_KT 8 C G 42 [(0, (2, l0)), (2, (0, l2)), (3, (0, l3)), (5, (2, l5)), (6, (2, l6))] [] S V nc ns := by
  have E := n_E h
  refine j_iload_n E d1_5_42 rfl 1 rfl ?_
  refine j_aload E d1_5_43 3 rfl ?_
  refine j_getI (f := 1) (fg10_59 h) d1_5_45 c1 (by decide) rfl rfl ?_
  refine j_iload_n E d1_5_48 rfl 2 rfl ?_
  refine j_isub E d1_5_49 c2 ?_
  exact j_icmp_le E d1_5_50 (t := 59) rfl (fun q => j_pick [0, 1, 2, 3, 4] rfl (k q)) (fun q => j_pick [0] rfl (k' q))
theorem t1_5_53 {C : qCx} {G : jG} {S : jS} {V : jH} {nc ns : Nat} {l0 : Int} {mc ms : Nat} {pp : Int → Int → jS → jH → Prop} {qq : Int → Int → jS → jH → Int → jS → jH → Prop} (h : x1_5 C G) (hrm : C.2.2.2.1.frames = 2 ∧ C.2.2.2.1.locals = 47) (c1 : S.1 l0 = 31) (hM : M1_27 C.2.1 mc ms pp qq) (hp : pp l0 ((-1)) S V) (hc : nc + mc ≤ C.2.2.2.1.cells) (hs : ns + ms ≤ C.2.2.2.1.slots) (k : ∀ (r : Int) (S' : jS) (V' : jH), qq l0 ((-1)) S V r S' V' → j_ok n_KT 8 C G 58 [] [(0, r)] S' V' (nc + mc) (ns + ms)) : j_ok n_KT 8 C G 53 [(0, (2, l0))] [] S V nc ns := by
  have E := n_E h
  refine j_aload_n E d1_5_53 rfl 0 rfl ?_
  refine j_iconst E d1_5_54 (by decide) ?_
  refine j_call E (K1_5_55 h hrm hM) d1_5_55 (a := [(2, l0), (0, (-1))]) (sk := []) rfl ⟨l0, (-1), rfl, c1, hp⟩ (Nat.le_of_ble_eq_true rfl) hc hs ?_
  rintro rs S' V' ⟨z0, z1, r, e1, rfl, q⟩
  simp only [List.cons.injEq, Prod.mk.injEq, and_true, true_and] at e1
  obtain ⟨rfl, rfl⟩ := e1
  exact j_pick [] rfl (k r S' V' q)
theorem t1_5_58 {C : qCx} {G : jG} {S : jS} {V : jH} {nc ns : Nat} {s0 : Int} {mc ms : Nat} {qf : Int → jS → jH → Prop} (h : x1_5 C G)  (R : j_Ri n_KT 8 C G b_1_5 mc ms qf) (q : qf s0 S V) (hc : nc ≤ mc) (hs : ns ≤ ms) : j_ok n_KT 8 C G 58 [] [(0, s0)] S V nc ns := by
  have E := n_E h
  exact R _ _ _ _ _ _ _ d1_5_58 q hc hs
theorem t1_5_59 {C : qCx} {G : jG} {S : jS} {V : jH} {nc ns : Nat} {l0 l2 l3 l5 l6 : Int} (h : x1_5 C G) (c1 : S.1 l6 = 27) (c2 : -2147483648 ≤ 400 - (V l6 1) ∧ 400 - (V l6 1) ≤ 2147483647) (k : l3 ≤ 400 - (V l6 1) → j_ok n_KT 8 C G 79 [(2, (0, l2)), (3, (0, l3)), (5, (2, l5)), (6, (2, l6))] [] S V nc ns) (k' : 400 - (V l6 1) < l3 → j_ok n_KT 8 C G 72 [(0, (2, l0))] [] S V nc ns) : j_ok n_KT 8 C G 59 [(0, (2, l0)), (2, (0, l2)), (3, (0, l3)), (5, (2, l5)), (6, (2, l6))] [] S V nc ns := by
  have E := n_E h
  refine j_iload_n E d1_5_59 rfl 2 rfl ?_
  refine j_sipush E d1_5_60 (by decide) ?_
  refine j_aload E d1_5_63 4 rfl ?_
  refine j_getI (f := 1) (fg10_59 h) d1_5_65 c1 (by decide) rfl rfl ?_
  refine j_isub E d1_5_68 c2 ?_
  exact j_icmp_le E d1_5_69 (t := 79) rfl (fun q => j_pick [1, 2, 3, 4] rfl (k q)) (fun q => j_pick [0] rfl (k' q))
theorem t1_5_72 {C : qCx} {G : jG} {S : jS} {V : jH} {nc ns : Nat} {l0 : Int} {mc ms : Nat} {pp : Int → Int → jS → jH → Prop} {qq : Int → Int → jS → jH → Int → jS → jH → Prop} (h : x1_5 C G) (hrm : C.2.2.2.1.frames = 2 ∧ C.2.2.2.1.locals = 47) (c1 : S.1 l0 = 31) (hM : M1_27 C.2.1 mc ms pp qq) (hp : pp l0 ((-2)) S V) (hc : nc + mc ≤ C.2.2.2.1.cells) (hs : ns + ms ≤ C.2.2.2.1.slots) (k : ∀ (r : Int) (S' : jS) (V' : jH), qq l0 ((-2)) S V r S' V' → j_ok n_KT 8 C G 78 [] [(0, r)] S' V' (nc + mc) (ns + ms)) : j_ok n_KT 8 C G 72 [(0, (2, l0))] [] S V nc ns := by
  have E := n_E h
  refine j_aload_n E d1_5_72 rfl 0 rfl ?_
  refine j_bipush E d1_5_73 (by decide) ?_
  refine j_call E (K1_5_75 h hrm hM) d1_5_75 (a := [(2, l0), (0, (-2))]) (sk := []) rfl ⟨l0, (-2), rfl, c1, hp⟩ (Nat.le_of_ble_eq_true rfl) hc hs ?_
  rintro rs S' V' ⟨z0, z1, r, e1, rfl, q⟩
  simp only [List.cons.injEq, Prod.mk.injEq, and_true, true_and] at e1
  obtain ⟨rfl, rfl⟩ := e1
  exact j_pick [] rfl (k r S' V' q)
theorem t1_5_78 {C : qCx} {G : jG} {S : jS} {V : jH} {nc ns : Nat} {s0 : Int} {mc ms : Nat} {qf : Int → jS → jH → Prop} (h : x1_5 C G)  (R : j_Ri n_KT 8 C G b_1_5 mc ms qf) (q : qf s0 S V) (hc : nc ≤ mc) (hs : ns ≤ ms) : j_ok n_KT 8 C G 78 [] [(0, s0)] S V nc ns := by
  have E := n_E h
  exact R _ _ _ _ _ _ _ d1_5_78 q hc hs
theorem t1_5_79 {C : qCx} {G : jG} {S : jS} {V : jH} {nc ns : Nat} {l2 l3 l5 l6 : Int} (h : x1_5 C G)  (k : j_ok n_KT 8 C G 82 [(2, (0, l2)), (3, (0, l3)), (5, (2, l5)), (6, (2, l6)), (7, (0, 0))] [] S V nc ns) : j_ok n_KT 8 C G 79 [(2, (0, l2)), (3, (0, l3)), (5, (2, l5)), (6, (2, l6))] [] S V nc ns := by
  have E := n_E h
  refine j_iconst E d1_5_79 (by decide) ?_
  refine j_istore E d1_5_80 (by decide) (lo1 := [(2, (0, l2)), (3, (0, l3)), (5, (2, l5)), (6, (2, l6))]) rfl ?_
  exact j_pick [1, 2, 3, 4, 0] rfl k
theorem t1_5_82 {C : qCx} {G : jG} {S : jS} {V : jH} {nc ns : Nat} {l2 l3 l5 l6 l7 : Int} (h : x1_5 C G)  (k : l3 ≤ l7 → j_ok n_KT 8 C G 109 [(6, (2, l6))] [] S V nc ns) (k' : l7 < l3 → j_ok n_KT 8 C G 88 [(2, (0, l2)), (3, (0, l3)), (5, (2, l5)), (6, (2, l6)), (7, (0, l7))] [] S V nc ns) : j_ok n_KT 8 C G 82 [(2, (0, l2)), (3, (0, l3)), (5, (2, l5)), (6, (2, l6)), (7, (0, l7))] [] S V nc ns := by
  have E := n_E h
  refine j_iload E d1_5_82 4 rfl ?_
  refine j_iload_n E d1_5_84 rfl 1 rfl ?_
  exact j_icmp_ge E d1_5_85 (t := 109) rfl (fun q => j_pick [3] rfl (k q)) (fun q => j_pick [0, 1, 2, 3, 4] rfl (k' q))
theorem t1_5_88 {C : qCx} {G : jG} {S : jS} {V : jH} {nc ns : Nat} {l2 l3 l5 l6 l7 : Int} {mc ms : Nat} {pp : Int → Int → jS → jH → Prop} {qq : Int → Int → jS → jH → jS → jH → Prop} (h : x1_5 C G) (L : j_L S) (hrm : C.2.2.2.1.frames = 2 ∧ C.2.2.2.1.locals = 47) (c1 : S.1 l5 = 27) (c2 : -2147483648 ≤ l2 + l7 ∧ l2 + l7 ≤ 2147483647) (c3 : 0 ≤ l2 + l7) (c4 : l2 + l7 < 400) (c5 : S.1 l6 = 27) (hM : M8_2 C.2.1 mc ms pp qq) (hp : pp l6 (V (l5 + 1) (l2 + l7)) S V) (hc : nc + mc ≤ C.2.2.2.1.cells) (hs : ns + ms ≤ C.2.2.2.1.slots) (k : ∀ (S' : jS) (V' : jH), qq l6 (V (l5 + 1) (l2 + l7)) S V S' V' → j_ok n_KT 8 C G 103 [(2, (0, l2)), (3, (0, l3)), (5, (2, l5)), (6, (2, l6)), (7, (0, l7))] [] S' V' (nc + mc) (ns + ms)) : j_ok n_KT 8 C G 88 [(2, (0, l2)), (3, (0, l3)), (5, (2, l5)), (6, (2, l6)), (7, (0, l7))] [] S V nc ns := by
  have E := n_E h
  refine j_aload E d1_5_88 3 rfl ?_
  refine j_aload E d1_5_90 2 rfl ?_
  refine j_getS (f := 0) (x := l5 + 1) (fg10_72 h) d1_5_92 c1 (by decide) rfl rfl ((L6_0 L c1).trans (by omega)) ?_
  refine j_iload_n E d1_5_95 rfl 0 rfl ?_
  refine j_iload E d1_5_96 4 rfl ?_
  refine j_iadd E d1_5_98 c2 ?_
  refine j_iald E d1_5_99 (j_arr_of (show S.1 (l5 + 1) = 1 from (by have q := L6_0k L c1; rw [show l5 + 1 = l5 + 1 by omega]; exact q)) (by decide) rfl) c3 c4 ?_
  refine j_call E (K1_5_100 h hrm hM) d1_5_100 (a := [(2, l6), (0, V (l5 + 1) (l2 + l7))]) (sk := []) rfl ⟨l6, V (l5 + 1) (l2 + l7), rfl, c5, hp⟩ (Nat.le_of_ble_eq_true rfl) hc hs ?_
  rintro rs S' V' ⟨z0, z1, e1, rfl, q⟩
  simp only [List.cons.injEq, Prod.mk.injEq, and_true, true_and] at e1
  obtain ⟨rfl, rfl⟩ := e1
  exact j_pick [0, 1, 2, 3, 4] rfl (k S' V' q)
theorem t1_5_103 {C : qCx} {G : jG} {S : jS} {V : jH} {nc ns : Nat} {l2 l3 l5 l6 l7 : Int} (h : x1_5 C G) (c1 : -2147483648 ≤ l7 + 1 ∧ l7 + 1 ≤ 2147483647) (k : j_ok n_KT 8 C G 82 [(2, (0, l2)), (3, (0, l3)), (5, (2, l5)), (6, (2, l6)), (7, (0, l7 + 1))] [] S V nc ns) : j_ok n_KT 8 C G 103 [(2, (0, l2)), (3, (0, l3)), (5, (2, l5)), (6, (2, l6)), (7, (0, l7))] [] S V nc ns := by
  have E := n_E h
  refine j_iinc E d1_5_103 (by decide) (by decide) 4 rfl (lo1 := [(2, (0, l2)), (3, (0, l3)), (5, (2, l5)), (6, (2, l6))]) rfl c1 ?_
  refine j_goto E d1_5_106 (t := 82) rfl ?_
  exact j_pick [1, 2, 3, 4, 0] rfl k
theorem t1_5_109 {C : qCx} {G : jG} {S : jS} {V : jH} {nc ns : Nat} {l6 : Int} {mc ms : Nat} {qf : Int → jS → jH → Prop} (h : x1_5 C G) (c1 : S.1 l6 = 27) (R : j_Ri n_KT 8 C G b_1_5 mc ms qf) (q : qf (V l6 1) S V) (hc : nc ≤ mc) (hs : ns ≤ ms) : j_ok n_KT 8 C G 109 [(6, (2, l6))] [] S V nc ns := by
  have E := n_E h
  refine j_aload E d1_5_109 0 rfl ?_
  refine j_getI (f := 1) (fg10_59 h) d1_5_111 c1 (by decide) rfl rfl ?_
  exact R _ _ _ _ _ _ _ d1_5_114 q hc hs
/- BalanceCoder.isKind(I)Z -/
abbrev b_1_31 : ByteArray := prog_1_method_31_code
def y_1_31 : MethodName := ⟨"BalanceCoder", "isKind", "(I)Z"⟩
abbrev x1_31 (C : qCx) (G : jG) : Prop := n_ctx C b_1_31 1 "BalanceCoder" G.1 G.2.1
def M1_31 (l : Launch) (mc ms : Nat) (p : Int → jS → jH → Prop) (q : Int → jS → jH → Int → jS → jH → Prop) : Prop := j_Met l vwCl n_TL n_NW n_KT y_1_31 (Cond.code y_1_31 b_1_31 1 (some .boolean) :: n_GW) { frames := 1, cells := mc, slots := ms, locals := 26 } mc ms (fun a S V => ∃ u0 : Int, a = [(0, u0)] ∧ p u0 S V) (fun a S V rs S' V' => ∃ u0 r : Int, a = [(0, u0)] ∧ rs = [(0, r)] ∧ q u0 S V r S' V')
theorem e1_31 {l : Launch} {mc ms : Nat} {p : Int → jS → jH → Prop} {q : Int → jS → jH → Int → jS → jH → Prop} (body : ∀ (C : qCx) (G : jG), x1_31 C G → C.2.2.2.1.frames = 1 ∧ C.2.2.2.1.locals = 26 → C.2.2.2.1.cells = mc ∧ C.2.2.2.1.slots = ms → C.2.1 = l → C.2.2.2.2.2.2.2.2.1.name = "isKind" → ∀ (u0 : Int) (S : jS) (V : jH), p u0 S V → j_Rz n_KT 1 C G b_1_31 mc ms (q u0 S V) → j_ok n_KT 1 C G 0 [(0, (0, u0))] [] S V 0 0) : M1_31 l mc ms p q := by
  refine j_method (ws' := n_GW) (by decide) rfl ?_ ?_
  · rintro a S V ⟨u0, rfl, -⟩
    exact Nat.le_of_ble_eq_true rfl
  · rintro C G htl hl hrm hm hml ho hts hnm hE a S V ⟨u0, rfl, hp⟩ R
    exact body C G ⟨htl, hm, hml, ho, fun w hw => hts w (List.mem_cons_of_mem _ hw), hE⟩ (by rw [hrm]; exact ⟨rfl, rfl⟩) (by rw [hrm]; exact ⟨rfl, rfl⟩) hl hnm u0 S V hp (fun pc lo r S' V' nc ns d z q hc hs => R.2.2.1 rfl pc lo r S' V' nc ns d z ⟨u0, r, rfl, rfl, q⟩ hc hs)
theorem d1_31_0 : decode b_1_31 0 = .ok (.iload_n 0, 1) := by decide +kernel
theorem d1_31_1 : decode b_1_31 1 = .ok (.ifCond .lt 12, 3) := by decide +kernel
theorem d1_31_4 : decode b_1_31 4 = .ok (.iload_n 0, 1) := by decide +kernel
theorem d1_31_5 : decode b_1_31 5 = .ok (.iconst 4, 1) := by decide +kernel
theorem d1_31_6 : decode b_1_31 6 = .ok (.if_icmp .gt 7, 3) := by decide +kernel
theorem d1_31_9 : decode b_1_31 9 = .ok (.iconst 1, 1) := by decide +kernel
theorem d1_31_10 : decode b_1_31 10 = .ok (.goto 4, 3) := by decide +kernel
theorem d1_31_13 : decode b_1_31 13 = .ok (.iconst 0, 1) := by decide +kernel
theorem d1_31_14 : decode b_1_31 14 = .ok (.ireturn, 1) := by decide +kernel
theorem t1_31_0 {C : qCx} {G : jG} {S : jS} {V : jH} {nc ns : Nat} {l0 : Int} (h : x1_31 C G)  (k : l0 < 0 → j_ok n_KT 1 C G 13 [] [] S V nc ns) (k' : 0 ≤ l0 → j_ok n_KT 1 C G 4 [(0, (0, l0))] [] S V nc ns) : j_ok n_KT 1 C G 0 [(0, (0, l0))] [] S V nc ns := by
  have E := n_E h
  refine j_iload_n E d1_31_0 rfl 0 rfl ?_
  exact j_if_lt E d1_31_1 (t := 13) rfl (fun q => j_pick [] rfl (k q)) (fun q => j_pick [0] rfl (k' q))
theorem t1_31_4 {C : qCx} {G : jG} {S : jS} {V : jH} {nc ns : Nat} {l0 : Int} (h : x1_31 C G)  (k : 4 < l0 → j_ok n_KT 1 C G 13 [] [] S V nc ns) (k' : l0 ≤ 4 → j_ok n_KT 1 C G 9 [] [] S V nc ns) : j_ok n_KT 1 C G 4 [(0, (0, l0))] [] S V nc ns := by
  have E := n_E h
  refine j_iload_n E d1_31_4 rfl 0 rfl ?_
  refine j_iconst E d1_31_5 (by decide) ?_
  exact j_icmp_gt E d1_31_6 (t := 13) rfl (fun q => j_pick [] rfl (k q)) (fun q => j_pick [] rfl (k' q))
theorem t1_31_9 {C : qCx} {G : jG} {S : jS} {V : jH} {nc ns : Nat} (h : x1_31 C G)  (k : j_ok n_KT 1 C G 14 [] [(0, 1)] S V nc ns) : j_ok n_KT 1 C G 9 [] [] S V nc ns := by
  have E := n_E h
  refine j_iconst E d1_31_9 (by decide) ?_
  refine j_goto E d1_31_10 (t := 14) rfl ?_
  exact j_pick [] rfl k
theorem t1_31_13 {C : qCx} {G : jG} {S : jS} {V : jH} {nc ns : Nat} (h : x1_31 C G)  (k : j_ok n_KT 1 C G 14 [] [(0, 0)] S V nc ns) : j_ok n_KT 1 C G 13 [] [] S V nc ns := by
  have E := n_E h
  refine j_iconst E d1_31_13 (by decide) ?_
  exact j_pick [] rfl k
theorem t1_31_14 {C : qCx} {G : jG} {S : jS} {V : jH} {nc ns : Nat} {s0 : Int} {mc ms : Nat} {qf : Int → jS → jH → Prop} (h : x1_31 C G)  (R : j_Rz n_KT 1 C G b_1_31 mc ms qf) (hz : 0 ≤ s0 ∧ s0 ≤ 1) (q : qf s0 S V) (hc : nc ≤ mc) (hs : ns ≤ ms) : j_ok n_KT 1 C G 14 [] [(0, s0)] S V nc ns := by
  have E := n_E h
  exact R _ _ _ _ _ _ _ d1_31_14 hz q hc hs
/- BalanceCoder$Whole.tableSlot(I)LBalanceCoder$Table; -/
abbrev b_11_2 : ByteArray := prog_11_method_2_code
def y_11_2 : MethodName := ⟨"BalanceCoder$Whole", "tableSlot", "(I)LBalanceCoder$Table;"⟩
abbrev x11_2 (C : qCx) (G : jG) : Prop := n_ctx C b_11_2 2 "BalanceCoder$Whole" G.1 G.2.1
def M11_2 (l : Launch) (mc ms : Nat) (p : Int → Int → jS → jH → Prop) (q : Int → Int → jS → jH → Int → jS → jH → Prop) : Prop := j_Met l vwCl n_TL n_NW n_KT y_11_2 (Cond.code y_11_2 b_11_2 2 (some (.object "BalanceCoder$Table")) :: n_GW) { frames := 3, cells := mc, slots := ms, locals := 67 } mc ms (fun a S V => ∃ u0 u1 : Int, a = [(2, u0), (0, u1)] ∧ S.1 u0 = 30 ∧ p u0 u1 S V) (fun a S V rs S' V' => ∃ u0 u1 r : Int, a = [(2, u0), (0, u1)] ∧ rs = [(2, r)] ∧ q u0 u1 S V r S' V')
theorem e11_2 {l : Launch} {mc ms : Nat} {p : Int → Int → jS → jH → Prop} {q : Int → Int → jS → jH → Int → jS → jH → Prop} (body : ∀ (C : qCx) (G : jG), x11_2 C G → C.2.2.2.1.frames = 3 ∧ C.2.2.2.1.locals = 67 → C.2.2.2.1.cells = mc ∧ C.2.2.2.1.slots = ms → C.2.1 = l → C.2.2.2.2.2.2.2.2.1.name = "tableSlot" → ∀ (u0 u1 : Int) (S : jS) (V : jH), S.1 u0 = 30 → p u0 u1 S V → j_Rr n_KT 2 C G b_11_2 mc ms (q u0 u1 S V) → j_ok n_KT 2 C G 0 [(0, (2, u0)), (1, (0, u1))] [] S V 0 0) : M11_2 l mc ms p q := by
  refine j_method (ws' := n_GW) (by decide) rfl ?_ ?_
  · rintro a S V ⟨u0, u1, rfl, -⟩
    exact Nat.le_of_ble_eq_true rfl
  · rintro C G htl hl hrm hm hml ho hts hnm hE a S V ⟨u0, u1, rfl, ht, hp⟩ R
    exact body C G ⟨htl, hm, hml, ho, fun w hw => hts w (List.mem_cons_of_mem _ hw), hE⟩ (by rw [hrm]; exact ⟨rfl, rfl⟩) (by rw [hrm]; exact ⟨rfl, rfl⟩) hl hnm u0 u1 S V ht hp (fun pc lo r S' V' nc ns d q hc hs => R.2.2.2.2 (Or.inl ⟨_, rfl⟩) pc lo r S' V' nc ns d ⟨u0, u1, r, rfl, rfl, q⟩ hc hs)
theorem d11_2_0 : decode b_11_2 0 = .ok (.aload_n 0, 1) := by decide +kernel
theorem d11_2_1 : decode b_11_2 1 = .ok (.getfield 19, 3) := by decide +kernel
theorem d11_2_4 : decode b_11_2 4 = .ok (.iload_n 1, 1) := by decide +kernel
theorem d11_2_5 : decode b_11_2 5 = .ok (.aaload, 1) := by decide +kernel
theorem d11_2_6 : decode b_11_2 6 = .ok (.ifnonnull 16, 3) := by decide +kernel
theorem d11_2_9 : decode b_11_2 9 = .ok (.aload_n 0, 1) := by decide +kernel
theorem d11_2_10 : decode b_11_2 10 = .ok (.getfield 19, 3) := by decide +kernel
theorem d11_2_13 : decode b_11_2 13 = .ok (.iload_n 1, 1) := by decide +kernel
theorem d11_2_14 : decode b_11_2 14 = .ok (.new 17, 3) := by decide +kernel
theorem d11_2_17 : decode b_11_2 17 = .ok (.dup, 1) := by decide +kernel
theorem d11_2_18 : decode b_11_2 18 = .ok (.invokespecial 41, 3) := by decide +kernel
theorem d11_2_21 : decode b_11_2 21 = .ok (.aastore, 1) := by decide +kernel
theorem d11_2_22 : decode b_11_2 22 = .ok (.aload_n 0, 1) := by decide +kernel
theorem d11_2_23 : decode b_11_2 23 = .ok (.getfield 19, 3) := by decide +kernel
theorem d11_2_26 : decode b_11_2 26 = .ok (.iload_n 1, 1) := by decide +kernel
theorem d11_2_27 : decode b_11_2 27 = .ok (.aaload, 1) := by decide +kernel
theorem d11_2_28 : decode b_11_2 28 = .ok (.areturn, 1) := by decide +kernel
theorem K11_2_18 {C : qCx} {G : jG} {mc ms : Nat} {p : Int → jS → jH → Prop} {q : Int → jS → jH → jS → jH → Prop} (h : x11_2 C G) (hrm : C.2.2.2.1.frames = 3 ∧ C.2.2.2.1.locals = 67) (hM : M10_1 C.2.1 mc ms p q) : j_Call C b_11_2 n_KT G.1 G.2.1 2 (.invokespecial 41) mc ms (fun a S V => ∃ u0 : Int, a = [(2, u0)] ∧ S.1 u0 = 29 ∧ p u0 S V) (fun a S V rs S' V' => ∃ u0 : Int, a = [(2, u0)] ∧ rs = [] ∧ q u0 S V S' V') := j_callI n_NWk h.2.2.2.2.2 h.1 hM ⟨h.2.1.1, h.2.1.2, h.2.2.1, h.2.2.2.1, h.2.2.2.2.1⟩ ⟨n_CB (y := y_10_1) (bytes := b_10_1) 0 h.2.2.2.2.1 n_w162 n_w340 n_w7 ⟨by decide, by decide, by decide +kernel⟩ rfl rfl ⟨by rw [hrm.1]; exact Nat.le_of_ble_eq_true rfl, by rw [hrm.2]; exact Nat.le_of_ble_eq_true rfl⟩, rfl, h.2.2.2.2.1 _ n_w161⟩ (Cn := RX8) (fun a S V hP => by obtain ⟨u0, rfl, e, -⟩ := hP; exact ⟨u0, _, 8, _, _, TX8, 3, rfl, rfl, by rw [e]; decide, by rw [e]; rfl, rfl⟩)
theorem t11_2_0 {C : qCx} {G : jG} {S : jS} {V : jH} {nc ns : Nat} {l0 l1 : Int} (h : x11_2 C G) (L : j_L S) (c1 : S.1 l0 = 30) (c2 : 0 ≤ l1) (c3 : l1 < 10) (k : 0 ≤ S.2 (l0 + 14) l1 → S.1 (S.2 (l0 + 14) l1) ≠ 0 → j_ok n_KT 2 C G 22 [(0, (2, l0)), (1, (0, l1))] [] S V nc ns) (k' : S.2 (l0 + 14) l1 = -1 → j_ok n_KT 2 C G 9 [(0, (2, l0)), (1, (0, l1))] [] S V nc ns) : j_ok n_KT 2 C G 0 [(0, (2, l0)), (1, (0, l1))] [] S V nc ns := by
  have E := n_E h
  refine j_aload_n E d11_2_0 rfl 0 rfl ?_
  refine j_getS (f := 1) (x := l0 + 14) (fg9_19 h) d11_2_1 c1 (by decide) rfl rfl ((L9_1 L c1).trans (by omega)) ?_
  refine j_iload_n E d11_2_4 rfl 1 rfl ?_
  refine j_aaload E d11_2_5 (show S.1 (l0 + 14) = 20 from (by have q := L9_1k L c1; rw [show l0 + 14 = l0 + 14 by omega]; exact q)) (by decide) rfl c2 c3 ?_
  exact j_ifnonnull E d11_2_6 (t := 22) rfl (fun q q2 => j_pick [0, 1] rfl (k q q2)) (fun q => j_pick [0, 1] rfl (k' q))
theorem t11_2_9 {C : qCx} {G : jG} {S : jS} {V : jH} {nc ns : Nat} {l0 l1 a1 : Int} {mc ms : Nat} {pp : Int → jS → jH → Prop} {qq : Int → jS → jH → jS → jH → Prop} (h : x11_2 C G) (L : j_L S) (hrm : C.2.2.2.1.frames = 3 ∧ C.2.2.2.1.locals = 67) (c1 : S.1 l0 = 30) (c2 : 0 ≤ a1) (c3 : S.1 a1 = 0) (c4 : nc + 1 ≤ C.2.2.2.1.cells) (c5 : ns + 3 ≤ C.2.2.2.1.slots) (hM : M10_1 C.2.1 mc ms pp qq) (hp : pp a1 (j_ns S a1 29) (j_nv V a1)) (hc : (nc + 1) + mc ≤ C.2.2.2.1.cells) (hs : (ns + 3) + ms ≤ C.2.2.2.1.slots) (k : ∀ (S' : jS) (V' : jH), qq a1 (j_ns S a1 29) (j_nv V a1) S' V' → j_ok n_KT 2 C G 21 [(0, (2, l0)), (1, (0, l1))] [(2, a1), (0, l1), (2, l0 + 14)] S' V' ((nc + 1) + mc) ((ns + 3) + ms)) : j_ok n_KT 2 C G 9 [(0, (2, l0)), (1, (0, l1))] [] S V nc ns := by
  have E := n_E h
  refine j_aload_n E d11_2_9 rfl 0 rfl ?_
  refine j_getS (f := 1) (x := l0 + 14) (fg9_19 h) d11_2_10 c1 (by decide) rfl rfl ((L9_1 L c1).trans (by omega)) ?_
  refine j_iload_n E d11_2_13 rfl 1 rfl ?_
  refine j_new (k := 29) E (fn9_17 h) d11_2_14 a1 c2 c3 (by decide) rfl (by decide) (by decide) (by decide) c4 c5 ?_
  refine j_dup E d11_2_17 rfl ?_
  refine j_call E (K11_2_18 h hrm hM) d11_2_18 (a := [(2, a1)]) (sk := [(2, a1), (0, l1), (2, l0 + 14)]) rfl ⟨a1, rfl, (j_nsa _ _ _), hp⟩ (Nat.le_of_ble_eq_true rfl) hc hs ?_
  rintro rs S' V' ⟨z0, e1, rfl, q⟩
  simp only [List.cons.injEq, Prod.mk.injEq, and_true, true_and] at e1
  obtain ⟨rfl⟩ := e1
  exact j_pick [0, 1] rfl (k S' V' q)
theorem t11_2_21 {C : qCx} {G : jG} {S : jS} {V : jH} {nc ns : Nat} {l0 l1 s0 s1 s2 : Int} (h : x11_2 C G) (c1 : S.1 s2 = 20) (c2 : S.1 s0 = 29) (c3 : 0 ≤ s1) (c4 : s1 < 10) (k : j_ok n_KT 2 C G 22 [(0, (2, l0)), (1, (0, l1))] [] (j_sp S s2 s1 s0) V nc ns) : j_ok n_KT 2 C G 21 [(0, (2, l0)), (1, (0, l1))] [(2, s0), (0, s1), (2, s2)] S V nc ns := by
  have E := n_E h
  refine j_aastore E (fr_5_8 h) d11_2_21 c1 (by decide) rfl c2 (by decide) rfl c3 c4 ?_
  exact j_pick [0, 1] rfl k
theorem t11_2_22 {C : qCx} {G : jG} {S : jS} {V : jH} {nc ns : Nat} {l0 l1 : Int} {mc ms : Nat} {qf : Int → jS → jH → Prop} (h : x11_2 C G) (L : j_L S) (c1 : S.1 l0 = 30) (c2 : 0 ≤ l1) (c3 : l1 < 10) (R : j_Rr n_KT 2 C G b_11_2 mc ms qf) (q : qf (S.2 (l0 + 14) l1) S V) (hc : nc ≤ mc) (hs : ns ≤ ms) : j_ok n_KT 2 C G 22 [(0, (2, l0)), (1, (0, l1))] [] S V nc ns := by
  have E := n_E h
  refine j_aload_n E d11_2_22 rfl 0 rfl ?_
  refine j_getS (f := 1) (x := l0 + 14) (fg9_19 h) d11_2_23 c1 (by decide) rfl rfl ((L9_1 L c1).trans (by omega)) ?_
  refine j_iload_n E d11_2_26 rfl 1 rfl ?_
  refine j_aaload E d11_2_27 (show S.1 (l0 + 14) = 20 from (by have q := L9_1k L c1; rw [show l0 + 14 = l0 + 14 by omega]; exact q)) (by decide) rfl c2 c3 ?_
  exact R _ _ _ _ _ _ _ d11_2_28 q hc hs
/- BalanceCoder$Table.all()I -/
abbrev b_10_4 : ByteArray := prog_10_method_4_code
def y_10_4 : MethodName := ⟨"BalanceCoder$Table", "all", "()I"⟩
abbrev x10_4 (C : qCx) (G : jG) : Prop := n_ctx C b_10_4 1 "BalanceCoder$Table" G.1 G.2.1
def M10_4 (l : Launch) (mc ms : Nat) (p : Int → jS → jH → Prop) (q : Int → jS → jH → Int → jS → jH → Prop) : Prop := j_Met l vwCl n_TL n_NW n_KT y_10_4 (Cond.code y_10_4 b_10_4 1 (some .int) :: n_GW) { frames := 1, cells := mc, slots := ms, locals := 26 } mc ms (fun a S V => ∃ u0 : Int, a = [(2, u0)] ∧ S.1 u0 = 29 ∧ p u0 S V) (fun a S V rs S' V' => ∃ u0 r : Int, a = [(2, u0)] ∧ rs = [(0, r)] ∧ q u0 S V r S' V')
theorem e10_4 {l : Launch} {mc ms : Nat} {p : Int → jS → jH → Prop} {q : Int → jS → jH → Int → jS → jH → Prop} (body : ∀ (C : qCx) (G : jG), x10_4 C G → C.2.2.2.1.frames = 1 ∧ C.2.2.2.1.locals = 26 → C.2.2.2.1.cells = mc ∧ C.2.2.2.1.slots = ms → C.2.1 = l → C.2.2.2.2.2.2.2.2.1.name = "all" → ∀ (u0 : Int) (S : jS) (V : jH), S.1 u0 = 29 → p u0 S V → j_Ri n_KT 1 C G b_10_4 mc ms (q u0 S V) → j_ok n_KT 1 C G 0 [(0, (2, u0))] [] S V 0 0) : M10_4 l mc ms p q := by
  refine j_method (ws' := n_GW) (by decide) rfl ?_ ?_
  · rintro a S V ⟨u0, rfl, -⟩
    exact Nat.le_of_ble_eq_true rfl
  · rintro C G htl hl hrm hm hml ho hts hnm hE a S V ⟨u0, rfl, ht, hp⟩ R
    exact body C G ⟨htl, hm, hml, ho, fun w hw => hts w (List.mem_cons_of_mem _ hw), hE⟩ (by rw [hrm]; exact ⟨rfl, rfl⟩) (by rw [hrm]; exact ⟨rfl, rfl⟩) hl hnm u0 S V ht hp (fun pc lo r S' V' nc ns d q hc hs => R.2.1 rfl pc lo r S' V' nc ns d ⟨u0, r, rfl, rfl, q⟩ hc hs)
theorem d10_4_0 : decode b_10_4 0 = .ok (.iconst 1, 1) := by decide +kernel
theorem d10_4_1 : decode b_10_4 1 = .ok (.aload_n 0, 1) := by decide +kernel
theorem d10_4_2 : decode b_10_4 2 = .ok (.getfield 21, 3) := by decide +kernel
theorem d10_4_5 : decode b_10_4 5 = .ok (.ishl, 1) := by decide +kernel
theorem d10_4_6 : decode b_10_4 6 = .ok (.ireturn, 1) := by decide +kernel
theorem t10_4_0 {C : qCx} {G : jG} {S : jS} {V : jH} {nc ns : Nat} {l0 : Int} {mc ms : Nat} {qf : Int → jS → jH → Prop} (h : x10_4 C G) (c1 : S.1 l0 = 29) (c2 : 0 ≤ V l0 2) (c3 : V l0 2 ≤ 30) (R : j_Ri n_KT 1 C G b_10_4 mc ms qf) (q : qf (2 ^ (V l0 2).toNat) S V) (hc : nc ≤ mc) (hs : ns ≤ ms) : j_ok n_KT 1 C G 0 [(0, (2, l0))] [] S V nc ns := by
  have E := n_E h
  refine j_iconst E d10_4_0 (by decide) ?_
  refine j_aload_n E d10_4_1 rfl 0 rfl ?_
  refine j_getI (f := 2) (fg8_21 h) d10_4_2 c1 (by decide) rfl rfl ?_
  refine j_ishl1 E d10_4_5 rfl c2 c3 ?_
  exact R _ _ _ _ _ _ _ d10_4_6 q hc hs
/- BalanceCoder$Deal.makeFlat(I)V -/
abbrev b_4_8 : ByteArray := prog_4_method_8_code
def y_4_8 : MethodName := ⟨"BalanceCoder$Deal", "makeFlat", "(I)V"⟩
abbrev x4_8 (C : qCx) (G : jG) : Prop := n_ctx C b_4_8 4 "BalanceCoder$Deal" G.1 G.2.1
def M4_8 (l : Launch) (mc ms : Nat) (p : Int → Int → jS → jH → Prop) (q : Int → Int → jS → jH → jS → jH → Prop) : Prop := j_Met l vwCl n_TL n_NW n_KT y_4_8 (Cond.code y_4_8 b_4_8 4 none :: n_GW) { frames := 1, cells := mc, slots := ms, locals := 26 } mc ms (fun a S V => ∃ u0 u1 : Int, a = [(2, u0), (0, u1)] ∧ S.1 u0 = 23 ∧ p u0 u1 S V) (fun a S V rs S' V' => ∃ u0 u1 : Int, a = [(2, u0), (0, u1)] ∧ rs = [] ∧ q u0 u1 S V S' V')
theorem e4_8 {l : Launch} {mc ms : Nat} {p : Int → Int → jS → jH → Prop} {q : Int → Int → jS → jH → jS → jH → Prop} (body : ∀ (C : qCx) (G : jG), x4_8 C G → C.2.2.2.1.frames = 1 ∧ C.2.2.2.1.locals = 26 → C.2.2.2.1.cells = mc ∧ C.2.2.2.1.slots = ms → C.2.1 = l → C.2.2.2.2.2.2.2.2.1.name = "makeFlat" → ∀ (u0 u1 : Int) (S : jS) (V : jH), S.1 u0 = 23 → p u0 u1 S V → j_Rv n_KT 4 C G b_4_8 mc ms (q u0 u1 S V) → j_ok n_KT 4 C G 0 [(0, (2, u0)), (1, (0, u1))] [] S V 0 0) : M4_8 l mc ms p q := by
  refine j_method (ws' := n_GW) (by decide) rfl ?_ ?_
  · rintro a S V ⟨u0, u1, rfl, -⟩
    exact Nat.le_of_ble_eq_true rfl
  · rintro C G htl hl hrm hm hml ho hts hnm hE a S V ⟨u0, u1, rfl, ht, hp⟩ R
    exact body C G ⟨htl, hm, hml, ho, fun w hw => hts w (List.mem_cons_of_mem _ hw), hE⟩ (by rw [hrm]; exact ⟨rfl, rfl⟩) (by rw [hrm]; exact ⟨rfl, rfl⟩) hl hnm u0 u1 S V ht hp (fun pc lo S' V' nc ns d q hc hs => R.1 rfl pc lo S' V' nc ns d ⟨u0, u1, rfl, rfl, q⟩ hc hs)
theorem d4_8_0 : decode b_4_8 0 = .ok (.iload_n 1, 1) := by decide +kernel
theorem d4_8_1 : decode b_4_8 1 = .ok (.sipush 256, 3) := by decide +kernel
theorem d4_8_4 : decode b_4_8 4 = .ok (.idiv, 1) := by decide +kernel
theorem d4_8_5 : decode b_4_8 5 = .ok (.istore_n 2, 1) := by decide +kernel
theorem d4_8_6 : decode b_4_8 6 = .ok (.iconst 0, 1) := by decide +kernel
theorem d4_8_7 : decode b_4_8 7 = .ok (.istore_n 3, 1) := by decide +kernel
theorem d4_8_8 : decode b_4_8 8 = .ok (.iload_n 3, 1) := by decide +kernel
theorem d4_8_9 : decode b_4_8 9 = .ok (.sipush 256, 3) := by decide +kernel
theorem d4_8_12 : decode b_4_8 12 = .ok (.if_icmp .gt 18, 3) := by decide +kernel
theorem d4_8_15 : decode b_4_8 15 = .ok (.aload_n 0, 1) := by decide +kernel
theorem d4_8_16 : decode b_4_8 16 = .ok (.getfield 9, 3) := by decide +kernel
theorem d4_8_19 : decode b_4_8 19 = .ok (.iload_n 3, 1) := by decide +kernel
theorem d4_8_20 : decode b_4_8 20 = .ok (.iload_n 3, 1) := by decide +kernel
theorem d4_8_21 : decode b_4_8 21 = .ok (.iload_n 2, 1) := by decide +kernel
theorem d4_8_22 : decode b_4_8 22 = .ok (.imul, 1) := by decide +kernel
theorem d4_8_23 : decode b_4_8 23 = .ok (.iastore, 1) := by decide +kernel
theorem d4_8_24 : decode b_4_8 24 = .ok (.iinc 3 1, 3) := by decide +kernel
theorem d4_8_27 : decode b_4_8 27 = .ok (.goto (-19), 3) := by decide +kernel
theorem d4_8_30 : decode b_4_8 30 = .ok (.return_, 1) := by decide +kernel
theorem t4_8_0 {C : qCx} {G : jG} {S : jS} {V : jH} {nc ns : Nat} {l0 l1 : Int} (h : x4_8 C G) (c1 : 0 ≤ l1) (k : j_ok n_KT 4 C G 8 [(0, (2, l0)), (2, (0, l1 / 256)), (3, (0, 0))] [] S V nc ns) : j_ok n_KT 4 C G 0 [(0, (2, l0)), (1, (0, l1))] [] S V nc ns := by
  have E := n_E h
  refine j_iload_n E d4_8_0 rfl 1 rfl ?_
  refine j_sipush E d4_8_1 (by decide) ?_
  refine j_idiv E d4_8_4 c1 (by decide) ?_
  refine j_istore_n E d4_8_5 rfl (by decide) (lo1 := [(0, (2, l0)), (1, (0, l1))]) rfl ?_
  refine j_iconst E d4_8_6 (by decide) ?_
  refine j_istore_n E d4_8_7 rfl (by decide) (lo1 := [(2, (0, l1 / 256)), (0, (2, l0)), (1, (0, l1))]) rfl ?_
  exact j_pick [2, 1, 0] rfl k
theorem t4_8_8 {C : qCx} {G : jG} {S : jS} {V : jH} {nc ns : Nat} {l0 l2 l3 : Int} (h : x4_8 C G)  (k : 256 < l3 → j_ok n_KT 4 C G 30 [] [] S V nc ns) (k' : l3 ≤ 256 → j_ok n_KT 4 C G 15 [(0, (2, l0)), (2, (0, l2)), (3, (0, l3))] [] S V nc ns) : j_ok n_KT 4 C G 8 [(0, (2, l0)), (2, (0, l2)), (3, (0, l3))] [] S V nc ns := by
  have E := n_E h
  refine j_iload_n E d4_8_8 rfl 2 rfl ?_
  refine j_sipush E d4_8_9 (by decide) ?_
  exact j_icmp_gt E d4_8_12 (t := 30) rfl (fun q => j_pick [] rfl (k q)) (fun q => j_pick [0, 1, 2] rfl (k' q))
theorem t4_8_15 {C : qCx} {G : jG} {S : jS} {V : jH} {nc ns : Nat} {l0 l2 l3 : Int} (h : x4_8 C G) (L : j_L S) (c1 : S.1 l0 = 23) (c2 : -2147483648 ≤ l3 * l2 ∧ l3 * l2 ≤ 2147483647) (c3 : 0 ≤ l3) (c4 : l3 < 257) (c5 : -2147483648 ≤ l3 + 1 ∧ l3 + 1 ≤ 2147483647) (k : j_ok n_KT 4 C G 8 [(0, (2, l0)), (2, (0, l2)), (3, (0, l3 + 1))] [] S (j_up V (l0 + 1) l3 (l3 * l2)) nc ns) : j_ok n_KT 4 C G 15 [(0, (2, l0)), (2, (0, l2)), (3, (0, l3))] [] S V nc ns := by
  have E := n_E h
  refine j_aload_n E d4_8_15 rfl 0 rfl ?_
  refine j_getS (f := 0) (x := l0 + 1) (fg2_9 h) d4_8_16 c1 (by decide) rfl rfl ((L2_0 L c1).trans (by omega)) ?_
  refine j_iload_n E d4_8_19 rfl 2 rfl ?_
  refine j_iload_n E d4_8_20 rfl 2 rfl ?_
  refine j_iload_n E d4_8_21 rfl 1 rfl ?_
  refine j_imul E d4_8_22 c2 ?_
  refine j_iast E d4_8_23 (j_arr_of (show S.1 (l0 + 1) = 2 from (by have q := L2_0k L c1; rw [show l0 + 1 = l0 + 1 by omega]; exact q)) (by decide) rfl) c3 c4 ?_
  refine j_iinc E d4_8_24 (by decide) (by decide) 2 rfl (lo1 := [(0, (2, l0)), (2, (0, l2))]) rfl c5 ?_
  refine j_goto E d4_8_27 (t := 8) rfl ?_
  exact j_pick [1, 2, 0] rfl k
theorem t4_8_30 {C : qCx} {G : jG} {S : jS} {V : jH} {nc ns : Nat} {mc ms : Nat} {qf : jS → jH → Prop} (h : x4_8 C G)  (R : j_Rv n_KT 4 C G b_4_8 mc ms qf) (q : qf S V) (hc : nc ≤ mc) (hs : ns ≤ ms) : j_ok n_KT 4 C G 30 [] [] S V nc ns := by
  have E := n_E h
  exact R _ _ _ _ _ _ d4_8_30 q hc hs
/- java/util/Arrays.fill([II)V -/
abbrev b_17_103 : ByteArray := prog_17_method_103_code
def y_17_103 : MethodName := ⟨"java/util/Arrays", "fill", "([II)V"⟩
abbrev x17_103 (C : qCx) (G : jG) : Prop := n_ctx C b_17_103 4 "java/util/Arrays" G.1 G.2.1
def M17_103 (l : Launch) (mc ms : Nat) (p : Int → Int → jS → jH → Prop) (q : Int → Int → jS → jH → jS → jH → Prop) : Prop := j_Met l vwCl n_TL n_NW n_KT y_17_103 (Cond.code y_17_103 b_17_103 4 none :: n_GW) { frames := 1, cells := mc, slots := ms, locals := 26 } mc ms (fun a S V => ∃ u0 u1 : Int, a = [(2, u0), (0, u1)] ∧ p u0 u1 S V) (fun a S V rs S' V' => ∃ u0 u1 : Int, a = [(2, u0), (0, u1)] ∧ rs = [] ∧ q u0 u1 S V S' V')
theorem e17_103 {l : Launch} {mc ms : Nat} {p : Int → Int → jS → jH → Prop} {q : Int → Int → jS → jH → jS → jH → Prop} (body : ∀ (C : qCx) (G : jG), x17_103 C G → C.2.2.2.1.frames = 1 ∧ C.2.2.2.1.locals = 26 → C.2.2.2.1.cells = mc ∧ C.2.2.2.1.slots = ms → C.2.1 = l → C.2.2.2.2.2.2.2.2.1.name = "fill" → ∀ (u0 u1 : Int) (S : jS) (V : jH), p u0 u1 S V → j_Rv n_KT 4 C G b_17_103 mc ms (q u0 u1 S V) → j_ok n_KT 4 C G 0 [(0, (2, u0)), (1, (0, u1))] [] S V 0 0) : M17_103 l mc ms p q := by
  refine j_method (ws' := n_GW) (by decide) rfl ?_ ?_
  · rintro a S V ⟨u0, u1, rfl, -⟩
    exact Nat.le_of_ble_eq_true rfl
  · rintro C G htl hl hrm hm hml ho hts hnm hE a S V ⟨u0, u1, rfl, hp⟩ R
    exact body C G ⟨htl, hm, hml, ho, fun w hw => hts w (List.mem_cons_of_mem _ hw), hE⟩ (by rw [hrm]; exact ⟨rfl, rfl⟩) (by rw [hrm]; exact ⟨rfl, rfl⟩) hl hnm u0 u1 S V hp (fun pc lo S' V' nc ns d q hc hs => R.1 rfl pc lo S' V' nc ns d ⟨u0, u1, rfl, rfl, q⟩ hc hs)
theorem d17_103_0 : decode b_17_103 0 = .ok (.iconst 0, 1) := by decide +kernel
theorem d17_103_1 : decode b_17_103 1 = .ok (.istore_n 2, 1) := by decide +kernel
theorem d17_103_2 : decode b_17_103 2 = .ok (.aload_n 0, 1) := by decide +kernel
theorem d17_103_3 : decode b_17_103 3 = .ok (.arraylength, 1) := by decide +kernel
theorem d17_103_4 : decode b_17_103 4 = .ok (.istore_n 3, 1) := by decide +kernel
theorem d17_103_5 : decode b_17_103 5 = .ok (.iload_n 2, 1) := by decide +kernel
theorem d17_103_6 : decode b_17_103 6 = .ok (.iload_n 3, 1) := by decide +kernel
theorem d17_103_7 : decode b_17_103 7 = .ok (.if_icmp .ge 13, 3) := by decide +kernel
theorem d17_103_10 : decode b_17_103 10 = .ok (.aload_n 0, 1) := by decide +kernel
theorem d17_103_11 : decode b_17_103 11 = .ok (.iload_n 2, 1) := by decide +kernel
theorem d17_103_12 : decode b_17_103 12 = .ok (.iload_n 1, 1) := by decide +kernel
theorem d17_103_13 : decode b_17_103 13 = .ok (.iastore, 1) := by decide +kernel
theorem d17_103_14 : decode b_17_103 14 = .ok (.iinc 2 1, 3) := by decide +kernel
theorem d17_103_17 : decode b_17_103 17 = .ok (.goto (-12), 3) := by decide +kernel
theorem d17_103_20 : decode b_17_103 20 = .ok (.return_, 1) := by decide +kernel
theorem t17_103_0 {C : qCx} {G : jG} {S : jS} {V : jH} {nc ns : Nat} {l0 l1 : Int} {n_l0 : Nat} (h : x17_103 C G) (c1 : j_arr S l0 n_l0) (c2 : n_l0 < 2 ^ 31) (k : j_ok n_KT 4 C G 5 [(0, (2, l0)), (1, (0, l1)), (2, (0, 0)), (3, (0, (n_l0 : Int)))] [] S V nc ns) : j_ok n_KT 4 C G 0 [(0, (2, l0)), (1, (0, l1))] [] S V nc ns := by
  have E := n_E h
  refine j_iconst E d17_103_0 (by decide) ?_
  refine j_istore_n E d17_103_1 rfl (by decide) (lo1 := [(0, (2, l0)), (1, (0, l1))]) rfl ?_
  refine j_aload_n E d17_103_2 rfl 1 rfl ?_
  refine j_alenA E d17_103_3 c1 c2 ?_
  refine j_istore_n E d17_103_4 rfl (by decide) (lo1 := [(2, (0, 0)), (0, (2, l0)), (1, (0, l1))]) rfl ?_
  exact j_pick [2, 3, 1, 0] rfl k
theorem t17_103_5 {C : qCx} {G : jG} {S : jS} {V : jH} {nc ns : Nat} {l0 l1 l2 l3 : Int} (h : x17_103 C G)  (k : l3 ≤ l2 → j_ok n_KT 4 C G 20 [] [] S V nc ns) (k' : l2 < l3 → j_ok n_KT 4 C G 10 [(0, (2, l0)), (1, (0, l1)), (2, (0, l2)), (3, (0, l3))] [] S V nc ns) : j_ok n_KT 4 C G 5 [(0, (2, l0)), (1, (0, l1)), (2, (0, l2)), (3, (0, l3))] [] S V nc ns := by
  have E := n_E h
  refine j_iload_n E d17_103_5 rfl 2 rfl ?_
  refine j_iload_n E d17_103_6 rfl 3 rfl ?_
  exact j_icmp_ge E d17_103_7 (t := 20) rfl (fun q => j_pick [] rfl (k q)) (fun q => j_pick [0, 1, 2, 3] rfl (k' q))
theorem t17_103_10 {C : qCx} {G : jG} {S : jS} {V : jH} {nc ns : Nat} {l0 l1 l2 l3 : Int} {n_l0 : Nat} (h : x17_103 C G) (c1 : j_arr S l0 n_l0) (c2 : 0 ≤ l2) (c3 : l2 < (n_l0 : Int)) (c4 : -2147483648 ≤ l2 + 1 ∧ l2 + 1 ≤ 2147483647) (k : j_ok n_KT 4 C G 5 [(0, (2, l0)), (1, (0, l1)), (2, (0, l2 + 1)), (3, (0, l3))] [] S (j_up V l0 l2 l1) nc ns) : j_ok n_KT 4 C G 10 [(0, (2, l0)), (1, (0, l1)), (2, (0, l2)), (3, (0, l3))] [] S V nc ns := by
  have E := n_E h
  refine j_aload_n E d17_103_10 rfl 0 rfl ?_
  refine j_iload_n E d17_103_11 rfl 2 rfl ?_
  refine j_iload_n E d17_103_12 rfl 1 rfl ?_
  refine j_iast E d17_103_13 c1 c2 c3 ?_
  refine j_iinc E d17_103_14 (by decide) (by decide) 2 rfl (lo1 := [(0, (2, l0)), (1, (0, l1)), (3, (0, l3))]) rfl c4 ?_
  refine j_goto E d17_103_17 (t := 5) rfl ?_
  exact j_pick [1, 2, 0, 3] rfl k
theorem t17_103_20 {C : qCx} {G : jG} {S : jS} {V : jH} {nc ns : Nat} {mc ms : Nat} {qf : jS → jH → Prop} (h : x17_103 C G)  (R : j_Rv n_KT 4 C G b_17_103 mc ms qf) (q : qf S V) (hc : nc ≤ mc) (hs : ns ≤ ms) : j_ok n_KT 4 C G 20 [] [] S V nc ns := by
  have E := n_E h
  exact R _ _ _ _ _ _ d17_103_20 q hc hs
/- BalanceCoder$Deal.makeEmpty()V -/
abbrev b_4_7 : ByteArray := prog_4_method_7_code
def y_4_7 : MethodName := ⟨"BalanceCoder$Deal", "makeEmpty", "()V"⟩
abbrev x4_7 (C : qCx) (G : jG) : Prop := n_ctx C b_4_7 1 "BalanceCoder$Deal" G.1 G.2.1
def M4_7 (l : Launch) (mc ms : Nat) (p : Int → jS → jH → Prop) (q : Int → jS → jH → jS → jH → Prop) : Prop := j_Met l vwCl n_TL n_NW n_KT y_4_7 (Cond.code y_4_7 b_4_7 1 none :: n_GW) { frames := 2, cells := mc, slots := ms, locals := 49 } mc ms (fun a S V => ∃ u0 : Int, a = [(2, u0)] ∧ S.1 u0 = 23 ∧ p u0 S V) (fun a S V rs S' V' => ∃ u0 : Int, a = [(2, u0)] ∧ rs = [] ∧ q u0 S V S' V')
theorem e4_7 {l : Launch} {mc ms : Nat} {p : Int → jS → jH → Prop} {q : Int → jS → jH → jS → jH → Prop} (body : ∀ (C : qCx) (G : jG), x4_7 C G → C.2.2.2.1.frames = 2 ∧ C.2.2.2.1.locals = 49 → C.2.2.2.1.cells = mc ∧ C.2.2.2.1.slots = ms → C.2.1 = l → C.2.2.2.2.2.2.2.2.1.name = "makeEmpty" → ∀ (u0 : Int) (S : jS) (V : jH), S.1 u0 = 23 → p u0 S V → j_Rv n_KT 1 C G b_4_7 mc ms (q u0 S V) → j_ok n_KT 1 C G 0 [(0, (2, u0))] [] S V 0 0) : M4_7 l mc ms p q := by
  refine j_method (ws' := n_GW) (by decide) rfl ?_ ?_
  · rintro a S V ⟨u0, rfl, -⟩
    exact Nat.le_of_ble_eq_true rfl
  · rintro C G htl hl hrm hm hml ho hts hnm hE a S V ⟨u0, rfl, ht, hp⟩ R
    exact body C G ⟨htl, hm, hml, ho, fun w hw => hts w (List.mem_cons_of_mem _ hw), hE⟩ (by rw [hrm]; exact ⟨rfl, rfl⟩) (by rw [hrm]; exact ⟨rfl, rfl⟩) hl hnm u0 S V ht hp (fun pc lo S' V' nc ns d q hc hs => R.1 rfl pc lo S' V' nc ns d ⟨u0, rfl, rfl, q⟩ hc hs)
theorem d4_7_0 : decode b_4_7 0 = .ok (.aload_n 0, 1) := by decide +kernel
theorem d4_7_1 : decode b_4_7 1 = .ok (.getfield 9, 3) := by decide +kernel
theorem d4_7_4 : decode b_4_7 4 = .ok (.iconst 0, 1) := by decide +kernel
theorem d4_7_5 : decode b_4_7 5 = .ok (.invokestatic 34, 3) := by decide +kernel
theorem d4_7_8 : decode b_4_7 8 = .ok (.return_, 1) := by decide +kernel
theorem K4_7_5 {C : qCx} {G : jG} {mc ms : Nat} {p : Int → Int → jS → jH → Prop} {q : Int → Int → jS → jH → jS → jH → Prop} (h : x4_7 C G) (hrm : C.2.2.2.1.frames = 2 ∧ C.2.2.2.1.locals = 49) (hM : M17_103 C.2.1 mc ms p q) : j_Call C b_4_7 n_KT G.1 G.2.1 1 (.invokestatic 34) mc ms (fun a S V => ∃ u0 u1 : Int, a = [(2, u0), (0, u1)] ∧ p u0 u1 S V) (fun a S V rs S' V' => ∃ u0 u1 : Int, a = [(2, u0), (0, u1)] ∧ rs = [] ∧ q u0 u1 S V S' V') := j_callS n_NWk h.2.2.2.2.2 h.1 hM ⟨h.2.1.1, h.2.1.2, h.2.2.1, h.2.2.2.1, h.2.2.2.2.1⟩ ⟨n_CB (y := y_17_103) (bytes := b_17_103) 2 h.2.2.2.2.1 n_w359 n_w357 n_w14 ⟨by decide, by decide, by decide +kernel⟩ rfl rfl ⟨by rw [hrm.1]; exact Nat.le_of_ble_eq_true rfl, by rw [hrm.2]; exact Nat.le_of_ble_eq_true rfl⟩, h.2.2.2.2.1 _ n_w358⟩ (fun a S V hP => by obtain ⟨u0, u1, rfl, -⟩ := hP; rfl)
theorem t4_7_0 {C : qCx} {G : jG} {S : jS} {V : jH} {nc ns : Nat} {l0 : Int} {mc ms : Nat} {pp : Int → Int → jS → jH → Prop} {qq : Int → Int → jS → jH → jS → jH → Prop} (h : x4_7 C G) (L : j_L S) (hrm : C.2.2.2.1.frames = 2 ∧ C.2.2.2.1.locals = 49) (c1 : S.1 l0 = 23) (hM : M17_103 C.2.1 mc ms pp qq) (hp : pp (l0 + 1) 0 S V) (hc : nc + mc ≤ C.2.2.2.1.cells) (hs : ns + ms ≤ C.2.2.2.1.slots) (k : ∀ (S' : jS) (V' : jH), qq (l0 + 1) 0 S V S' V' → j_ok n_KT 1 C G 8 [] [] S' V' (nc + mc) (ns + ms)) : j_ok n_KT 1 C G 0 [(0, (2, l0))] [] S V nc ns := by
  have E := n_E h
  refine j_aload_n E d4_7_0 rfl 0 rfl ?_
  refine j_getS (f := 0) (x := l0 + 1) (fg2_9 h) d4_7_1 c1 (by decide) rfl rfl ((L2_0 L c1).trans (by omega)) ?_
  refine j_iconst E d4_7_4 (by decide) ?_
  refine j_call E (K4_7_5 h hrm hM) d4_7_5 (a := [(2, l0 + 1), (0, 0)]) (sk := []) rfl ⟨l0 + 1, 0, rfl, hp⟩ (Nat.le_of_ble_eq_true rfl) hc hs ?_
  rintro rs S' V' ⟨z0, z1, e1, rfl, q⟩
  simp only [List.cons.injEq, Prod.mk.injEq, and_true, true_and] at e1
  obtain ⟨rfl, rfl⟩ := e1
  exact j_pick [] rfl (k S' V' q)
theorem t4_7_8 {C : qCx} {G : jG} {S : jS} {V : jH} {nc ns : Nat} {mc ms : Nat} {qf : jS → jH → Prop} (h : x4_7 C G)  (R : j_Rv n_KT 1 C G b_4_7 mc ms qf) (q : qf S V) (hc : nc ≤ mc) (hs : ns ≤ ms) : j_ok n_KT 1 C G 8 [] [] S V nc ns := by
  have E := n_E h
  exact R _ _ _ _ _ _ d4_7_8 q hc hs
/- BalanceCoder$Table.begin(II)V -/
abbrev b_10_2 : ByteArray := prog_10_method_2_code
def y_10_2 : MethodName := ⟨"BalanceCoder$Table", "begin", "(II)V"⟩
abbrev x10_2 (C : qCx) (G : jG) : Prop := n_ctx C b_10_2 4 "BalanceCoder$Table" G.1 G.2.1
def M10_2 (l : Launch) (mc ms : Nat) (p : Int → Int → Int → jS → jH → Prop) (q : Int → Int → Int → jS → jH → jS → jH → Prop) : Prop := j_Met l vwCl n_TL n_NW n_KT y_10_2 (Cond.code y_10_2 b_10_2 4 none :: n_GW) { frames := 3, cells := mc, slots := ms, locals := 69 } mc ms (fun a S V => ∃ u0 u1 u2 : Int, a = [(2, u0), (0, u1), (0, u2)] ∧ S.1 u0 = 29 ∧ p u0 u1 u2 S V) (fun a S V rs S' V' => ∃ u0 u1 u2 : Int, a = [(2, u0), (0, u1), (0, u2)] ∧ rs = [] ∧ q u0 u1 u2 S V S' V')
theorem e10_2 {l : Launch} {mc ms : Nat} {p : Int → Int → Int → jS → jH → Prop} {q : Int → Int → Int → jS → jH → jS → jH → Prop} (body : ∀ (C : qCx) (G : jG), x10_2 C G → C.2.2.2.1.frames = 3 ∧ C.2.2.2.1.locals = 69 → C.2.2.2.1.cells = mc ∧ C.2.2.2.1.slots = ms → C.2.1 = l → C.2.2.2.2.2.2.2.2.1.name = "begin" → ∀ (u0 u1 u2 : Int) (S : jS) (V : jH), S.1 u0 = 29 → p u0 u1 u2 S V → j_Rv n_KT 4 C G b_10_2 mc ms (q u0 u1 u2 S V) → j_ok n_KT 4 C G 0 [(0, (2, u0)), (1, (0, u1)), (2, (0, u2))] [] S V 0 0) : M10_2 l mc ms p q := by
  refine j_method (ws' := n_GW) (by decide) rfl ?_ ?_
  · rintro a S V ⟨u0, u1, u2, rfl, -⟩
    exact Nat.le_of_ble_eq_true rfl
  · rintro C G htl hl hrm hm hml ho hts hnm hE a S V ⟨u0, u1, u2, rfl, ht, hp⟩ R
    exact body C G ⟨htl, hm, hml, ho, fun w hw => hts w (List.mem_cons_of_mem _ hw), hE⟩ (by rw [hrm]; exact ⟨rfl, rfl⟩) (by rw [hrm]; exact ⟨rfl, rfl⟩) hl hnm u0 u1 u2 S V ht hp (fun pc lo S' V' nc ns d q hc hs => R.1 rfl pc lo S' V' nc ns d ⟨u0, u1, u2, rfl, rfl, q⟩ hc hs)
theorem d10_2_0 : decode b_10_2 0 = .ok (.aload_n 0, 1) := by decide +kernel
theorem d10_2_1 : decode b_10_2 1 = .ok (.iload_n 1, 1) := by decide +kernel
theorem d10_2_2 : decode b_10_2 2 = .ok (.putfield 17, 3) := by decide +kernel
theorem d10_2_5 : decode b_10_2 5 = .ok (.aload_n 0, 1) := by decide +kernel
theorem d10_2_6 : decode b_10_2 6 = .ok (.iload_n 2, 1) := by decide +kernel
theorem d10_2_7 : decode b_10_2 7 = .ok (.putfield 21, 3) := by decide +kernel
theorem d10_2_10 : decode b_10_2 10 = .ok (.iconst 0, 1) := by decide +kernel
theorem d10_2_11 : decode b_10_2 11 = .ok (.istore_n 3, 1) := by decide +kernel
theorem d10_2_12 : decode b_10_2 12 = .ok (.iload_n 3, 1) := by decide +kernel
theorem d10_2_13 : decode b_10_2 13 = .ok (.iconst 4, 1) := by decide +kernel
theorem d10_2_14 : decode b_10_2 14 = .ok (.if_icmp .ge 50, 3) := by decide +kernel
theorem d10_2_17 : decode b_10_2 17 = .ok (.aload_n 0, 1) := by decide +kernel
theorem d10_2_18 : decode b_10_2 18 = .ok (.getfield 17, 3) := by decide +kernel
theorem d10_2_21 : decode b_10_2 21 = .ok (.iconst 1, 1) := by decide +kernel
theorem d10_2_22 : decode b_10_2 22 = .ok (.if_icmp .eq 11, 3) := by decide +kernel
theorem d10_2_25 : decode b_10_2 25 = .ok (.aload_n 0, 1) := by decide +kernel
theorem d10_2_26 : decode b_10_2 26 = .ok (.getfield 17, 3) := by decide +kernel
theorem d10_2_29 : decode b_10_2 29 = .ok (.iconst 4, 1) := by decide +kernel
theorem d10_2_30 : decode b_10_2 30 = .ok (.if_icmp .ne 19, 3) := by decide +kernel
theorem d10_2_33 : decode b_10_2 33 = .ok (.aload_n 0, 1) := by decide +kernel
theorem d10_2_34 : decode b_10_2 34 = .ok (.getfield 11, 3) := by decide +kernel
theorem d10_2_37 : decode b_10_2 37 = .ok (.iload_n 3, 1) := by decide +kernel
theorem d10_2_38 : decode b_10_2 38 = .ok (.aaload, 1) := by decide +kernel
theorem d10_2_39 : decode b_10_2 39 = .ok (.aload_n 0, 1) := by decide +kernel
theorem d10_2_40 : decode b_10_2 40 = .ok (.invokevirtual 25, 3) := by decide +kernel
theorem d10_2_43 : decode b_10_2 43 = .ok (.invokevirtual 29, 3) := by decide +kernel
theorem d10_2_46 : decode b_10_2 46 = .ok (.goto 12, 3) := by decide +kernel
theorem d10_2_49 : decode b_10_2 49 = .ok (.aload_n 0, 1) := by decide +kernel
theorem d10_2_50 : decode b_10_2 50 = .ok (.getfield 11, 3) := by decide +kernel
theorem d10_2_53 : decode b_10_2 53 = .ok (.iload_n 3, 1) := by decide +kernel
theorem d10_2_54 : decode b_10_2 54 = .ok (.aaload, 1) := by decide +kernel
theorem d10_2_55 : decode b_10_2 55 = .ok (.invokevirtual 33, 3) := by decide +kernel
theorem d10_2_58 : decode b_10_2 58 = .ok (.iinc 3 1, 3) := by decide +kernel
theorem d10_2_61 : decode b_10_2 61 = .ok (.goto (-49), 3) := by decide +kernel
theorem d10_2_64 : decode b_10_2 64 = .ok (.return_, 1) := by decide +kernel
theorem K10_2_40 {C : qCx} {G : jG} {mc ms : Nat} {p : Int → jS → jH → Prop} {q : Int → jS → jH → Int → jS → jH → Prop} (h : x10_2 C G) (hrm : C.2.2.2.1.frames = 3 ∧ C.2.2.2.1.locals = 69) (hM : M10_4 C.2.1 mc ms p q) : j_Call C b_10_2 n_KT G.1 G.2.1 4 (.invokevirtual 25) mc ms (fun a S V => ∃ u0 : Int, a = [(2, u0)] ∧ S.1 u0 = 29 ∧ p u0 S V) (fun a S V rs S' V' => ∃ u0 r : Int, a = [(2, u0)] ∧ rs = [(0, r)] ∧ q u0 S V r S' V') := j_callV n_NWk h.2.2.2.2.2 h.1 hM ⟨h.2.1.1, h.2.1.2, h.2.2.1, h.2.2.2.1, h.2.2.2.2.1⟩ ⟨n_CB (y := y_10_4) (bytes := b_10_4) 0 h.2.2.2.2.1 n_w348 n_w345 n_w7 ⟨by decide, by decide, by decide +kernel⟩ rfl rfl ⟨by rw [hrm.1]; exact Nat.le_of_ble_eq_true rfl, by rw [hrm.2]; exact Nat.le_of_ble_eq_true rfl⟩, h.2.2.2.2.1 _ n_w346, h.2.2.2.2.1 _ n_w347⟩ (Cn := RX8) (fun a S V hP => by obtain ⟨u0, rfl, e, -⟩ := hP; exact ⟨u0, _, 8, _, _, TX8, 3, rfl, rfl, by rw [e]; decide, by rw [e]; rfl, rfl⟩)
theorem K10_2_43 {C : qCx} {G : jG} {mc ms : Nat} {p : Int → Int → jS → jH → Prop} {q : Int → Int → jS → jH → jS → jH → Prop} (h : x10_2 C G) (hrm : C.2.2.2.1.frames = 3 ∧ C.2.2.2.1.locals = 69) (hM : M4_8 C.2.1 mc ms p q) : j_Call C b_10_2 n_KT G.1 G.2.1 4 (.invokevirtual 29) mc ms (fun a S V => ∃ u0 u1 : Int, a = [(2, u0), (0, u1)] ∧ S.1 u0 = 23 ∧ p u0 u1 S V) (fun a S V rs S' V' => ∃ u0 u1 : Int, a = [(2, u0), (0, u1)] ∧ rs = [] ∧ q u0 u1 S V S' V') := j_callV n_NWk h.2.2.2.2.2 h.1 hM ⟨h.2.1.1, h.2.1.2, h.2.2.1, h.2.2.2.1, h.2.2.2.2.1⟩ ⟨n_CB (y := y_4_8) (bytes := b_4_8) 1 h.2.2.2.2.1 n_w352 n_w349 n_w8 ⟨by decide, by decide, by decide +kernel⟩ rfl rfl ⟨by rw [hrm.1]; exact Nat.le_of_ble_eq_true rfl, by rw [hrm.2]; exact Nat.le_of_ble_eq_true rfl⟩, h.2.2.2.2.1 _ n_w350, h.2.2.2.2.1 _ n_w351⟩ (Cn := RX2) (fun a S V hP => by obtain ⟨u0, u1, rfl, e, -⟩ := hP; exact ⟨u0, _, 2, _, _, TX2, 1, rfl, rfl, by rw [e]; decide, by rw [e]; rfl, rfl⟩)
theorem K10_2_55 {C : qCx} {G : jG} {mc ms : Nat} {p : Int → jS → jH → Prop} {q : Int → jS → jH → jS → jH → Prop} (h : x10_2 C G) (hrm : C.2.2.2.1.frames = 3 ∧ C.2.2.2.1.locals = 69) (hM : M4_7 C.2.1 mc ms p q) : j_Call C b_10_2 n_KT G.1 G.2.1 4 (.invokevirtual 33) mc ms (fun a S V => ∃ u0 : Int, a = [(2, u0)] ∧ S.1 u0 = 23 ∧ p u0 S V) (fun a S V rs S' V' => ∃ u0 : Int, a = [(2, u0)] ∧ rs = [] ∧ q u0 S V S' V') := j_callV n_NWk h.2.2.2.2.2 h.1 hM ⟨h.2.1.1, h.2.1.2, h.2.2.1, h.2.2.2.1, h.2.2.2.2.1⟩ ⟨n_CB (y := y_4_7) (bytes := b_4_7) 0 h.2.2.2.2.1 n_w356 n_w353 n_w8 ⟨by decide, by decide, by decide +kernel⟩ rfl rfl ⟨by rw [hrm.1]; exact Nat.le_of_ble_eq_true rfl, by rw [hrm.2]; exact Nat.le_of_ble_eq_true rfl⟩, h.2.2.2.2.1 _ n_w354, h.2.2.2.2.1 _ n_w355⟩ (Cn := RX2) (fun a S V hP => by obtain ⟨u0, rfl, e, -⟩ := hP; exact ⟨u0, _, 2, _, _, TX2, 1, rfl, rfl, by rw [e]; decide, by rw [e]; rfl, rfl⟩)
theorem t10_2_0 {C : qCx} {G : jG} {S : jS} {V : jH} {nc ns : Nat} {l0 l1 l2 : Int} (h : x10_2 C G) (c1 : S.1 l0 = 29) (k : j_ok n_KT 4 C G 12 [(0, (2, l0)), (3, (0, 0))] [] S (j_up (j_up V l0 1 l1) l0 2 l2) nc ns) : j_ok n_KT 4 C G 0 [(0, (2, l0)), (1, (0, l1)), (2, (0, l2))] [] S V nc ns := by
  have E := n_E h
  refine j_aload_n E d10_2_0 rfl 0 rfl ?_
  refine j_iload_n E d10_2_1 rfl 1 rfl ?_
  refine j_putI (f := 1) (fp8_17 h) (n_hap h 29 8 0 _ rfl) d10_2_2 c1 (by decide) rfl rfl rfl ?_
  refine j_aload_n E d10_2_5 rfl 0 rfl ?_
  refine j_iload_n E d10_2_6 rfl 2 rfl ?_
  refine j_putI (f := 2) (fp8_21 h) (n_hap h 29 8 0 _ rfl) d10_2_7 c1 (by decide) rfl rfl rfl ?_
  refine j_iconst E d10_2_10 (by decide) ?_
  refine j_istore_n E d10_2_11 rfl (by decide) (lo1 := [(0, (2, l0)), (1, (0, l1)), (2, (0, l2))]) rfl ?_
  exact j_pick [1, 0] rfl k
theorem t10_2_12 {C : qCx} {G : jG} {S : jS} {V : jH} {nc ns : Nat} {l0 l3 : Int} (h : x10_2 C G)  (k : 4 ≤ l3 → j_ok n_KT 4 C G 64 [] [] S V nc ns) (k' : l3 < 4 → j_ok n_KT 4 C G 17 [(0, (2, l0)), (3, (0, l3))] [] S V nc ns) : j_ok n_KT 4 C G 12 [(0, (2, l0)), (3, (0, l3))] [] S V nc ns := by
  have E := n_E h
  refine j_iload_n E d10_2_12 rfl 1 rfl ?_
  refine j_iconst E d10_2_13 (by decide) ?_
  exact j_icmp_ge E d10_2_14 (t := 64) rfl (fun q => j_pick [] rfl (k q)) (fun q => j_pick [0, 1] rfl (k' q))
theorem t10_2_17 {C : qCx} {G : jG} {S : jS} {V : jH} {nc ns : Nat} {l0 l3 : Int} (h : x10_2 C G) (c1 : S.1 l0 = 29) (k : V l0 1 = 1 → j_ok n_KT 4 C G 33 [(0, (2, l0)), (3, (0, l3))] [] S V nc ns) (k' : ¬ V l0 1 = 1 → j_ok n_KT 4 C G 25 [(0, (2, l0)), (3, (0, l3))] [] S V nc ns) : j_ok n_KT 4 C G 17 [(0, (2, l0)), (3, (0, l3))] [] S V nc ns := by
  have E := n_E h
  refine j_aload_n E d10_2_17 rfl 0 rfl ?_
  refine j_getI (f := 1) (fg8_17 h) d10_2_18 c1 (by decide) rfl rfl ?_
  refine j_iconst E d10_2_21 (by decide) ?_
  exact j_icmp_eq E d10_2_22 (t := 33) rfl (fun q => j_pick [0, 1] rfl (k q)) (fun q => j_pick [0, 1] rfl (k' q))
theorem t10_2_25 {C : qCx} {G : jG} {S : jS} {V : jH} {nc ns : Nat} {l0 l3 : Int} (h : x10_2 C G) (c1 : S.1 l0 = 29) (k : ¬ V l0 1 = 4 → j_ok n_KT 4 C G 49 [(0, (2, l0)), (3, (0, l3))] [] S V nc ns) (k' : V l0 1 = 4 → j_ok n_KT 4 C G 33 [(0, (2, l0)), (3, (0, l3))] [] S V nc ns) : j_ok n_KT 4 C G 25 [(0, (2, l0)), (3, (0, l3))] [] S V nc ns := by
  have E := n_E h
  refine j_aload_n E d10_2_25 rfl 0 rfl ?_
  refine j_getI (f := 1) (fg8_17 h) d10_2_26 c1 (by decide) rfl rfl ?_
  refine j_iconst E d10_2_29 (by decide) ?_
  exact j_icmp_ne E d10_2_30 (t := 49) rfl (fun q => j_pick [0, 1] rfl (k q)) (fun q => j_pick [0, 1] rfl (k' q))
theorem t10_2_33 {C : qCx} {G : jG} {S : jS} {V : jH} {nc ns : Nat} {l0 l3 : Int} {mc ms : Nat} {pp : Int → jS → jH → Prop} {qq : Int → jS → jH → Int → jS → jH → Prop} (h : x10_2 C G) (L : j_L S) (hrm : C.2.2.2.1.frames = 3 ∧ C.2.2.2.1.locals = 69) (c1 : S.1 l0 = 29) (c2 : 0 ≤ l3) (c3 : l3 < 4) (hM : M10_4 C.2.1 mc ms pp qq) (hp : pp l0 S V) (hc : nc + mc ≤ C.2.2.2.1.cells) (hs : ns + ms ≤ C.2.2.2.1.slots) (k : ∀ (r : Int) (S' : jS) (V' : jH), qq l0 S V r S' V' → j_ok n_KT 4 C G 43 [(0, (2, l0)), (3, (0, l3))] [(0, r), (2, l0 + 2 + 2 * l3)] S' V' (nc + mc) (ns + ms)) : j_ok n_KT 4 C G 33 [(0, (2, l0)), (3, (0, l3))] [] S V nc ns := by
  have E := n_E h
  refine j_aload_n E d10_2_33 rfl 0 rfl ?_
  refine j_getS (f := 0) (x := l0 + 1) (fg8_11 h) d10_2_34 c1 (by decide) rfl rfl ((L8_0 L c1).trans (by omega)) ?_
  refine j_iload_n E d10_2_37 rfl 1 rfl ?_
  refine j_aaldS (x := l0 + 2 + 2 * l3) E d10_2_38 (show S.1 (l0 + 1) = 19 from (by have q := L8_0k L c1; rw [show l0 + 1 = l0 + 1 by omega]; exact q)) (by decide) rfl c2 c3 ((LDealA L (i := l3) (show S.1 (l0 + 1) = 19 from (by have q := L8_0k L c1; rw [show l0 + 1 = l0 + 1 by omega]; exact q)) c2 c3).trans (by omega)) ?_
  refine j_aload_n E d10_2_39 rfl 0 rfl ?_
  refine j_call E (K10_2_40 h hrm hM) d10_2_40 (a := [(2, l0)]) (sk := [(2, l0 + 2 + 2 * l3)]) rfl ⟨l0, rfl, c1, hp⟩ (Nat.le_of_ble_eq_true rfl) hc hs ?_
  rintro rs S' V' ⟨z0, r, e1, rfl, q⟩
  simp only [List.cons.injEq, Prod.mk.injEq, and_true, true_and] at e1
  obtain ⟨rfl⟩ := e1
  exact j_pick [0, 1] rfl (k r S' V' q)
theorem t10_2_43 {C : qCx} {G : jG} {S : jS} {V : jH} {nc ns : Nat} {l0 l3 s0 s1 : Int} {mc ms : Nat} {pp : Int → Int → jS → jH → Prop} {qq : Int → Int → jS → jH → jS → jH → Prop} (h : x10_2 C G) (hrm : C.2.2.2.1.frames = 3 ∧ C.2.2.2.1.locals = 69) (c1 : S.1 s1 = 23) (hM : M4_8 C.2.1 mc ms pp qq) (hp : pp s1 s0 S V) (hc : nc + mc ≤ C.2.2.2.1.cells) (hs : ns + ms ≤ C.2.2.2.1.slots) (k : ∀ (S' : jS) (V' : jH), qq s1 s0 S V S' V' → j_ok n_KT 4 C G 46 [(0, (2, l0)), (3, (0, l3))] [] S' V' (nc + mc) (ns + ms)) : j_ok n_KT 4 C G 43 [(0, (2, l0)), (3, (0, l3))] [(0, s0), (2, s1)] S V nc ns := by
  have E := n_E h
  refine j_call E (K10_2_43 h hrm hM) d10_2_43 (a := [(2, s1), (0, s0)]) (sk := []) rfl ⟨s1, s0, rfl, c1, hp⟩ (Nat.le_of_ble_eq_true rfl) hc hs ?_
  rintro rs S' V' ⟨z0, z1, e1, rfl, q⟩
  simp only [List.cons.injEq, Prod.mk.injEq, and_true, true_and] at e1
  obtain ⟨rfl, rfl⟩ := e1
  exact j_pick [0, 1] rfl (k S' V' q)
theorem t10_2_46 {C : qCx} {G : jG} {S : jS} {V : jH} {nc ns : Nat} {l0 l3 : Int} (h : x10_2 C G)  (k : j_ok n_KT 4 C G 58 [(0, (2, l0)), (3, (0, l3))] [] S V nc ns) : j_ok n_KT 4 C G 46 [(0, (2, l0)), (3, (0, l3))] [] S V nc ns := by
  have E := n_E h
  refine j_goto E d10_2_46 (t := 58) rfl ?_
  exact j_pick [0, 1] rfl k
theorem t10_2_49 {C : qCx} {G : jG} {S : jS} {V : jH} {nc ns : Nat} {l0 l3 : Int} {mc ms : Nat} {pp : Int → jS → jH → Prop} {qq : Int → jS → jH → jS → jH → Prop} (h : x10_2 C G) (L : j_L S) (hrm : C.2.2.2.1.frames = 3 ∧ C.2.2.2.1.locals = 69) (c1 : S.1 l0 = 29) (c2 : 0 ≤ l3) (c3 : l3 < 4) (hM : M4_7 C.2.1 mc ms pp qq) (hp : pp (l0 + 2 + 2 * l3) S V) (hc : nc + mc ≤ C.2.2.2.1.cells) (hs : ns + ms ≤ C.2.2.2.1.slots) (k : ∀ (S' : jS) (V' : jH), qq (l0 + 2 + 2 * l3) S V S' V' → j_ok n_KT 4 C G 58 [(0, (2, l0)), (3, (0, l3))] [] S' V' (nc + mc) (ns + ms)) : j_ok n_KT 4 C G 49 [(0, (2, l0)), (3, (0, l3))] [] S V nc ns := by
  have E := n_E h
  refine j_aload_n E d10_2_49 rfl 0 rfl ?_
  refine j_getS (f := 0) (x := l0 + 1) (fg8_11 h) d10_2_50 c1 (by decide) rfl rfl ((L8_0 L c1).trans (by omega)) ?_
  refine j_iload_n E d10_2_53 rfl 1 rfl ?_
  refine j_aaldS (x := l0 + 2 + 2 * l3) E d10_2_54 (show S.1 (l0 + 1) = 19 from (by have q := L8_0k L c1; rw [show l0 + 1 = l0 + 1 by omega]; exact q)) (by decide) rfl c2 c3 ((LDealA L (i := l3) (show S.1 (l0 + 1) = 19 from (by have q := L8_0k L c1; rw [show l0 + 1 = l0 + 1 by omega]; exact q)) c2 c3).trans (by omega)) ?_
  refine j_call E (K10_2_55 h hrm hM) d10_2_55 (a := [(2, l0 + 2 + 2 * l3)]) (sk := []) rfl ⟨l0 + 2 + 2 * l3, rfl, (show S.1 (l0 + 2 + 2 * l3) = 23 from (by have q := LDealAk L (i := l3) (show S.1 (l0 + 1) = 19 from (by have q := L8_0k L c1; rw [show l0 + 1 = l0 + 1 by omega]; exact q)) c2 c3; rw [show l0 + 2 + 2 * l3 = (l0 + 1) + 1 + 2 * l3 by omega]; exact q)), hp⟩ (Nat.le_of_ble_eq_true rfl) hc hs ?_
  rintro rs S' V' ⟨z0, e1, rfl, q⟩
  simp only [List.cons.injEq, Prod.mk.injEq, and_true, true_and] at e1
  obtain ⟨rfl⟩ := e1
  exact j_pick [0, 1] rfl (k S' V' q)
theorem t10_2_58 {C : qCx} {G : jG} {S : jS} {V : jH} {nc ns : Nat} {l0 l3 : Int} (h : x10_2 C G) (c1 : -2147483648 ≤ l3 + 1 ∧ l3 + 1 ≤ 2147483647) (k : j_ok n_KT 4 C G 12 [(0, (2, l0)), (3, (0, l3 + 1))] [] S V nc ns) : j_ok n_KT 4 C G 58 [(0, (2, l0)), (3, (0, l3))] [] S V nc ns := by
  have E := n_E h
  refine j_iinc E d10_2_58 (by decide) (by decide) 1 rfl (lo1 := [(0, (2, l0))]) rfl c1 ?_
  refine j_goto E d10_2_61 (t := 12) rfl ?_
  exact j_pick [1, 0] rfl k
theorem t10_2_64 {C : qCx} {G : jG} {S : jS} {V : jH} {nc ns : Nat} {mc ms : Nat} {qf : jS → jH → Prop} (h : x10_2 C G)  (R : j_Rv n_KT 4 C G b_10_2 mc ms qf) (q : qf S V) (hc : nc ≤ mc) (hs : ns ≤ ms) : j_ok n_KT 4 C G 64 [] [] S V nc ns := by
  have E := n_E h
  exact R _ _ _ _ _ _ d10_2_64 q hc hs
