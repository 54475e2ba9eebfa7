/- BalanceCoder.alter(II)I -/
abbrev b_1_16 : ByteArray := prog_1_method_16_code
def y_1_16 : MethodName := ⟨"BalanceCoder", "alter", "(II)I"⟩
abbrev x1_16 (C : qCx) (G : jG) : Prop := n_ctx C b_1_16 4 "BalanceCoder" G.1 G.2.1
def M1_16 (l : Launch) (mc ms : Nat) (p : Int → Int → Int → jS → jH → Prop) (q : Int → Int → Int → jS → jH → Int → jS → jH → Prop) : Prop := j_Met l vwCl n_TL n_NW n_KT y_1_16 (Cond.code y_1_16 b_1_16 4 (some .int) :: n_GW) { frames := 2, cells := mc, slots := ms, locals := 47 } mc ms (fun a S V => ∃ u0 u1 u2 : Int, a = [(2, u0), (0, u1), (0, u2)] ∧ S.1 u0 = 31 ∧ p u0 u1 u2 S V) (fun a S V rs S' V' => ∃ u0 u1 u2 r : Int, a = [(2, u0), (0, u1), (0, u2)] ∧ rs = [(0, r)] ∧ q u0 u1 u2 S V r S' V')
theorem e1_16 {l : Launch} {mc ms : Nat} {p : Int → Int → Int → jS → jH → Prop} {q : Int → Int → Int → jS → jH → Int → jS → jH → Prop} (body : ∀ (C : qCx) (G : jG), x1_16 C G → C.2.2.2.1.frames = 2 ∧ C.2.2.2.1.locals = 47 → C.2.2.2.1.cells = mc ∧ C.2.2.2.1.slots = ms → C.2.1 = l → C.2.2.2.2.2.2.2.2.1.name = "alter" → ∀ (u0 u1 u2 : Int) (S : jS) (V : jH), S.1 u0 = 31 → p u0 u1 u2 S V → j_Ri n_KT 4 C G b_1_16 mc ms (q u0 u1 u2 S V) → j_ok n_KT 4 C G 0 [(0, (2, u0)), (1, (0, u1)), (2, (0, u2))] [] S V 0 0) : M1_16 l mc ms p q := by
  refine j_method (ws' := n_GW) (by decide) rfl ?_ ?_
  · rintro a S V ⟨u0, u1, u2, rfl, -⟩
    exact Nat.le_of_ble_eq_true rfl
  · rintro C G htl hl hrm hm hml ho hts hnm hE a S V ⟨u0, u1, u2, rfl, ht, hp⟩ R
    exact body C G ⟨htl, hm, hml, ho, fun w hw => hts w (List.mem_cons_of_mem _ hw), hE⟩ (by rw [hrm]; exact ⟨rfl, rfl⟩) (by rw [hrm]; exact ⟨rfl, rfl⟩) hl hnm u0 u1 u2 S V ht hp (fun pc lo r S' V' nc ns d q hc hs => R.2.1 rfl pc lo r S' V' nc ns d ⟨u0, u1, u2, r, rfl, rfl, q⟩ hc hs)
theorem d1_16_0 : decode b_1_16 0 = .ok (.aload_n 0, 1) := by decide +kernel
theorem d1_16_1 : decode b_1_16 1 = .ok (.getfield 10, 3) := by decide +kernel
theorem d1_16_4 : decode b_1_16 4 = .ok (.getfield 155, 3) := by decide +kernel
theorem d1_16_7 : decode b_1_16 7 = .ok (.astore_n 3, 1) := by decide +kernel
theorem d1_16_8 : decode b_1_16 8 = .ok (.iload_n 1, 1) := by decide +kernel
theorem d1_16_9 : decode b_1_16 9 = .ok (.ifCond .lt 22, 3) := by decide +kernel
theorem d1_16_12 : decode b_1_16 12 = .ok (.iload_n 1, 1) := by decide +kernel
theorem d1_16_13 : decode b_1_16 13 = .ok (.aload_n 3, 1) := by decide +kernel
theorem d1_16_14 : decode b_1_16 14 = .ok (.getfield 180, 3) := by decide +kernel
theorem d1_16_17 : decode b_1_16 17 = .ok (.if_icmp .ge 14, 3) := by decide +kernel
theorem d1_16_20 : decode b_1_16 20 = .ok (.iload_n 2, 1) := by decide +kernel
theorem d1_16_21 : decode b_1_16 21 = .ok (.ifCond .lt 10, 3) := by decide +kernel
theorem d1_16_24 : decode b_1_16 24 = .ok (.iload_n 2, 1) := by decide +kernel
theorem d1_16_25 : decode b_1_16 25 = .ok (.sipush 255, 3) := by decide +kernel
theorem d1_16_28 : decode b_1_16 28 = .ok (.if_icmp .le 9, 3) := by decide +kernel
theorem d1_16_31 : decode b_1_16 31 = .ok (.aload_n 0, 1) := by decide +kernel
theorem d1_16_32 : decode b_1_16 32 = .ok (.iconst (-1), 1) := by decide +kernel
theorem d1_16_33 : decode b_1_16 33 = .ok (.invokevirtual 55, 3) := by decide +kernel
theorem d1_16_36 : decode b_1_16 36 = .ok (.ireturn, 1) := by decide +kernel
theorem d1_16_37 : decode b_1_16 37 = .ok (.aload_n 3, 1) := by decide +kernel
theorem d1_16_38 : decode b_1_16 38 = .ok (.getfield 183, 3) := by decide +kernel
theorem d1_16_41 : decode b_1_16 41 = .ok (.iload_n 1, 1) := by decide +kernel
theorem d1_16_42 : decode b_1_16 42 = .ok (.dup2, 1) := by decide +kernel
theorem d1_16_43 : decode b_1_16 43 = .ok (.iaload, 1) := by decide +kernel
theorem d1_16_44 : decode b_1_16 44 = .ok (.iload_n 2, 1) := by decide +kernel
theorem d1_16_45 : decode b_1_16 45 = .ok (.ixor, 1) := by decide +kernel
theorem d1_16_46 : decode b_1_16 46 = .ok (.iastore, 1) := by decide +kernel
theorem d1_16_47 : decode b_1_16 47 = .ok (.aload_n 3, 1) := by decide +kernel
theorem d1_16_48 : decode b_1_16 48 = .ok (.invokevirtual 186, 3) := by decide +kernel
theorem d1_16_51 : decode b_1_16 51 = .ok (.aload_n 3, 1) := by decide +kernel
theorem d1_16_52 : decode b_1_16 52 = .ok (.getfield 183, 3) := by decide +kernel
theorem d1_16_55 : decode b_1_16 55 = .ok (.iload_n 1, 1) := by decide +kernel
theorem d1_16_56 : decode b_1_16 56 = .ok (.iaload, 1) := by decide +kernel
theorem d1_16_57 : decode b_1_16 57 = .ok (.ireturn, 1) := by decide +kernel
theorem K1_16_33 {C : qCx} {G : jG} {mc ms : Nat} {p : Int → Int → jS → jH → Prop} {q : Int → Int → jS → jH → Int → jS → jH → Prop} (h : x1_16 C G) (hrm : C.2.2.2.1.frames = 2 ∧ C.2.2.2.1.locals = 47) (hM : M1_27 C.2.1 mc ms p q) : j_Call C b_1_16 n_KT G.1 G.2.1 4 (.invokevirtual 55) mc ms (fun a S V => ∃ u0 u1 : Int, a = [(2, u0), (0, u1)] ∧ S.1 u0 = 31 ∧ p u0 u1 S V) (fun a S V rs S' V' => ∃ u0 u1 r : Int, a = [(2, u0), (0, u1)] ∧ rs = [(0, r)] ∧ q u0 u1 S V r S' V') := j_callV n_NWk h.2.2.2.2.2 h.1 hM ⟨h.2.1.1, h.2.1.2, h.2.2.1, h.2.2.2.1, h.2.2.2.2.1⟩ ⟨n_CB (y := y_1_27) (bytes := b_1_27) 1 h.2.2.2.2.1 n_w309 n_w306 n_w1 ⟨by decide, by decide, by decide +kernel⟩ rfl rfl ⟨by rw [hrm.1]; exact Nat.le_of_ble_eq_true rfl, by rw [hrm.2]; exact Nat.le_of_ble_eq_true rfl⟩, h.2.2.2.2.1 _ n_w308, h.2.2.2.2.1 _ n_s1⟩ (Cn := RX10) (fun a S V hP => by obtain ⟨u0, u1, rfl, e, -⟩ := hP; exact ⟨u0, _, 10, _, _, TX10, 8, rfl, rfl, by rw [e]; decide, by rw [e]; rfl, rfl⟩)
theorem K1_16_48 {C : qCx} {G : jG} {mc ms : Nat} {p : Int → jS → jH → Prop} {q : Int → jS → jH → jS → jH → Prop} (h : x1_16 C G) (hrm : C.2.2.2.1.frames = 2 ∧ C.2.2.2.1.locals = 47) (hM : M3_4 C.2.1 mc ms p q) : j_Call C b_1_16 n_KT G.1 G.2.1 4 (.invokevirtual 186) mc ms (fun a S V => ∃ u0 : Int, a = [(2, u0)] ∧ S.1 u0 = 22 ∧ p u0 S V) (fun a S V rs S' V' => ∃ u0 : Int, a = [(2, u0)] ∧ rs = [] ∧ q u0 S V S' V') := j_callV n_NWk h.2.2.2.2.2 h.1 hM ⟨h.2.1.1, h.2.1.2, h.2.2.1, h.2.2.2.1, h.2.2.2.2.1⟩ ⟨n_CB (y := y_3_4) (bytes := b_3_4) 0 h.2.2.2.2.1 n_w671 n_w668 n_w3 ⟨by decide, by decide, by decide +kernel⟩ rfl rfl ⟨by rw [hrm.1]; exact Nat.le_of_ble_eq_true rfl, by rw [hrm.2]; exact Nat.le_of_ble_eq_true rfl⟩, h.2.2.2.2.1 _ n_w669, h.2.2.2.2.1 _ n_w670⟩ (Cn := RX1) (fun a S V hP => by obtain ⟨u0, rfl, e, -⟩ := hP; exact ⟨u0, _, 1, _, _, TX1, 5, rfl, rfl, by rw [e]; decide, by rw [e]; rfl, rfl⟩)
theorem t1_16_0 {C : qCx} {G : jG} {S : jS} {V : jH} {nc ns : Nat} {l0 l1 l2 : Int} (h : x1_16 C G) (L : j_L S) (c1 : S.1 l0 = 31) (k : l1 < 0 → j_ok n_KT 4 C G 31 [(0, (2, l0))] [] S V nc ns) (k' : 0 ≤ l1 → j_ok n_KT 4 C G 12 [(0, (2, l0)), (1, (0, l1)), (2, (0, l2)), (3, (2, l0 + 16))] [] S V nc ns) : j_ok n_KT 4 C G 0 [(0, (2, l0)), (1, (0, l1)), (2, (0, l2))] [] S V nc ns := by
  have E := n_E h
  refine j_aload_n E d1_16_0 rfl 0 rfl ?_
  refine j_getS (f := 0) (x := l0 + 1) (fg10_10 h) d1_16_1 c1 (by decide) rfl rfl ((L10_0 L c1).trans (by omega)) ?_
  refine j_getS (f := 3) (x := l0 + 16) (fg10_155 h) d1_16_4 (show S.1 (l0 + 1) = 30 from (by have q := L10_0k L c1; rw [show l0 + 1 = l0 + 1 by omega]; exact q)) (by decide) rfl rfl ((L9_3 L (show S.1 (l0 + 1) = 30 from (by have q := L10_0k L c1; rw [show l0 + 1 = l0 + 1 by omega]; exact q))).trans (by omega)) ?_
  refine j_astore_n E d1_16_7 rfl (by decide) (lo1 := [(0, (2, l0)), (1, (0, l1)), (2, (0, l2))]) rfl ?_
  refine j_iload_n E d1_16_8 rfl 2 rfl ?_
  exact j_if_lt E d1_16_9 (t := 31) rfl (fun q => j_pick [1] rfl (k q)) (fun q => j_pick [1, 2, 3, 0] rfl (k' q))
theorem t1_16_12 {C : qCx} {G : jG} {S : jS} {V : jH} {nc ns : Nat} {l0 l1 l2 l3 : Int} (h : x1_16 C G) (c1 : S.1 l3 = 22) (k : V l3 1 ≤ l1 → j_ok n_KT 4 C G 31 [(0, (2, l0))] [] S V nc ns) (k' : l1 < V l3 1 → j_ok n_KT 4 C G 20 [(0, (2, l0)), (1, (0, l1)), (2, (0, l2)), (3, (2, l3))] [] S V nc ns) : j_ok n_KT 4 C G 12 [(0, (2, l0)), (1, (0, l1)), (2, (0, l2)), (3, (2, l3))] [] S V nc ns := by
  have E := n_E h
  refine j_iload_n E d1_16_12 rfl 1 rfl ?_
  refine j_aload_n E d1_16_13 rfl 3 rfl ?_
  refine j_getI (f := 1) (fg10_180 h) d1_16_14 c1 (by decide) rfl rfl ?_
  exact j_icmp_ge E d1_16_17 (t := 31) rfl (fun q => j_pick [0] rfl (k q)) (fun q => j_pick [0, 1, 2, 3] rfl (k' q))
theorem t1_16_20 {C : qCx} {G : jG} {S : jS} {V : jH} {nc ns : Nat} {l0 l1 l2 l3 : Int} (h : x1_16 C G)  (k : l2 < 0 → j_ok n_KT 4 C G 31 [(0, (2, l0))] [] S V nc ns) (k' : 0 ≤ l2 → j_ok n_KT 4 C G 24 [(0, (2, l0)), (1, (0, l1)), (2, (0, l2)), (3, (2, l3))] [] S V nc ns) : j_ok n_KT 4 C G 20 [(0, (2, l0)), (1, (0, l1)), (2, (0, l2)), (3, (2, l3))] [] S V nc ns := by
  have E := n_E h
  refine j_iload_n E d1_16_20 rfl 2 rfl ?_
  exact j_if_lt E d1_16_21 (t := 31) rfl (fun q => j_pick [0] rfl (k q)) (fun q => j_pick [0, 1, 2, 3] rfl (k' q))
theorem t1_16_24 {C : qCx} {G : jG} {S : jS} {V : jH} {nc ns : Nat} {l0 l1 l2 l3 : Int} (h : x1_16 C G)  (k : l2 ≤ 255 → j_ok n_KT 4 C G 37 [(1, (0, l1)), (2, (0, l2)), (3, (2, l3))] [] S V nc ns) (k' : 255 < l2 → j_ok n_KT 4 C G 31 [(0, (2, l0))] [] S V nc ns) : j_ok n_KT 4 C G 24 [(0, (2, l0)), (1, (0, l1)), (2, (0, l2)), (3, (2, l3))] [] S V nc ns := by
  have E := n_E h
  refine j_iload_n E d1_16_24 rfl 2 rfl ?_
  refine j_sipush E d1_16_25 (by decide) ?_
  exact j_icmp_le E d1_16_28 (t := 37) rfl (fun q => j_pick [1, 2, 3] rfl (k q)) (fun q => j_pick [0] rfl (k' q))
theorem t1_16_31 {C : qCx} {G : jG} {S : jS} {V : jH} {nc ns : Nat} {l0 : Int} {mc ms : Nat} {pp : Int → Int → jS → jH → Prop} {qq : Int → Int → jS → jH → Int → jS → jH → Prop} (h : x1_16 C G) (hrm : C.2.2.2.1.frames = 2 ∧ C.2.2.2.1.locals = 47) (c1 : S.1 l0 = 31) (hM : M1_27 C.2.1 mc ms pp qq) (hp : pp l0 ((-1)) S V) (hc : nc + mc ≤ C.2.2.2.1.cells) (hs : ns + ms ≤ C.2.2.2.1.slots) (k : ∀ (r : Int) (S' : jS) (V' : jH), qq l0 ((-1)) S V r S' V' → j_ok n_KT 4 C G 36 [] [(0, r)] S' V' (nc + mc) (ns + ms)) : j_ok n_KT 4 C G 31 [(0, (2, l0))] [] S V nc ns := by
  have E := n_E h
  refine j_aload_n E d1_16_31 rfl 0 rfl ?_
  refine j_iconst E d1_16_32 (by decide) ?_
  refine j_call E (K1_16_33 h hrm hM) d1_16_33 (a := [(2, l0), (0, (-1))]) (sk := []) rfl ⟨l0, (-1), rfl, c1, hp⟩ (Nat.le_of_ble_eq_true rfl) hc hs ?_
  rintro rs S' V' ⟨z0, z1, r, e1, rfl, q⟩
  simp only [List.cons.injEq, Prod.mk.injEq, and_true, true_and] at e1
  obtain ⟨rfl, rfl⟩ := e1
  exact j_pick [] rfl (k r S' V' q)
theorem t1_16_36 {C : qCx} {G : jG} {S : jS} {V : jH} {nc ns : Nat} {s0 : Int} {mc ms : Nat} {qf : Int → jS → jH → Prop} (h : x1_16 C G)  (R : j_Ri n_KT 4 C G b_1_16 mc ms qf) (q : qf s0 S V) (hc : nc ≤ mc) (hs : ns ≤ ms) : j_ok n_KT 4 C G 36 [] [(0, s0)] S V nc ns := by
  have E := n_E h
  exact R _ _ _ _ _ _ _ d1_16_36 q hc hs
theorem t1_16_37 {C : qCx} {G : jG} {S : jS} {V : jH} {nc ns : Nat} {l1 l2 l3 : Int} {mc ms : Nat} {pp : Int → jS → jH → Prop} {qq : Int → jS → jH → jS → jH → Prop} (h : x1_16 C G) (L : j_L S) (hrm : C.2.2.2.1.frames = 2 ∧ C.2.2.2.1.locals = 47) (c1 : S.1 l3 = 22) (c2 : 0 ≤ l1) (c3 : l1 < 4400) (c4 : 0 ≤ V (l3 + 1) l1) (c5 : 0 ≤ l2) (hM : M3_4 C.2.1 mc ms pp qq) (hp : pp l3 S (j_up V (l3 + 1) l1 (j_xor (V (l3 + 1) l1) l2))) (hc : nc + mc ≤ C.2.2.2.1.cells) (hs : ns + ms ≤ C.2.2.2.1.slots) (k : ∀ (S' : jS) (V' : jH), qq l3 S (j_up V (l3 + 1) l1 (j_xor (V (l3 + 1) l1) l2)) S' V' → j_ok n_KT 4 C G 51 [(1, (0, l1)), (3, (2, l3))] [] S' V' (nc + mc) (ns + ms)) : j_ok n_KT 4 C G 37 [(1, (0, l1)), (2, (0, l2)), (3, (2, l3))] [] S V nc ns := by
  have E := n_E h
  refine j_aload_n E d1_16_37 rfl 2 rfl ?_
  refine j_getS (f := 0) (x := l3 + 1) (fg10_183 h) d1_16_38 c1 (by decide) rfl rfl ((L1_0 L c1).trans (by omega)) ?_
  refine j_iload_n E d1_16_41 rfl 0 rfl ?_
  refine j_dup2 E d1_16_42 rfl rfl ?_
  refine j_iald E d1_16_43 (j_arr_of (show S.1 (l3 + 1) = 6 from (by have q := L1_0k L c1; rw [show l3 + 1 = l3 + 1 by omega]; exact q)) (by decide) rfl) c2 c3 ?_
  refine j_iload_n E d1_16_44 rfl 1 rfl ?_
  refine j_ixor E d1_16_45 c4 c5 ?_
  refine j_iast E d1_16_46 (j_arr_of (show S.1 (l3 + 1) = 6 from (by have q := L1_0k L c1; rw [show l3 + 1 = l3 + 1 by omega]; exact q)) (by decide) rfl) c2 c3 ?_
  refine j_aload_n E d1_16_47 rfl 2 rfl ?_
  refine j_call E (K1_16_48 h hrm hM) d1_16_48 (a := [(2, l3)]) (sk := []) rfl ⟨l3, rfl, c1, hp⟩ (Nat.le_of_ble_eq_true rfl) hc hs ?_
  rintro rs S' V' ⟨z0, e1, rfl, q⟩
  simp only [List.cons.injEq, Prod.mk.injEq, and_true, true_and] at e1
  obtain ⟨rfl⟩ := e1
  exact j_pick [0, 2] rfl (k S' V' q)
theorem t1_16_51 {C : qCx} {G : jG} {S : jS} {V : jH} {nc ns : Nat} {l1 l3 : Int} {mc ms : Nat} {qf : Int → jS → jH → Prop} (h : x1_16 C G) (L : j_L S) (c1 : S.1 l3 = 22) (c2 : 0 ≤ l1) (c3 : l1 < 4400) (R : j_Ri n_KT 4 C G b_1_16 mc ms qf) (q : qf (V (l3 + 1) l1) S V) (hc : nc ≤ mc) (hs : ns ≤ ms) : j_ok n_KT 4 C G 51 [(1, (0, l1)), (3, (2, l3))] [] S V nc ns := by
  have E := n_E h
  refine j_aload_n E d1_16_51 rfl 1 rfl ?_
  refine j_getS (f := 0) (x := l3 + 1) (fg10_183 h) d1_16_52 c1 (by decide) rfl rfl ((L1_0 L c1).trans (by omega)) ?_
  refine j_iload_n E d1_16_55 rfl 0 rfl ?_
  refine j_iald E d1_16_56 (j_arr_of (show S.1 (l3 + 1) = 6 from (by have q := L1_0k L c1; rw [show l3 + 1 = l3 + 1 by omega]; exact q)) (by decide) rfl) c2 c3 ?_
  exact R _ _ _ _ _ _ _ d1_16_57 q hc hs
/- BalanceCoder.more(JI)I -/
abbrev b_1_17 : ByteArray := prog_1_method_17_code
def y_1_17 : MethodName := ⟨"BalanceCoder", "more", "(JI)I"⟩
abbrev x1_17 (C : qCx) (G : jG) : Prop := n_ctx C b_1_17 6 "BalanceCoder" G.1 G.2.1
def M1_17 (l : Launch) (mc ms : Nat) (p : Int → Int → Int → jS → jH → Prop) (q : Int → Int → Int → jS → jH → Int → jS → jH → Prop) : Prop := j_Met l vwCl n_TL n_NW n_KT y_1_17 (Cond.code y_1_17 b_1_17 6 (some .int) :: n_GW) { frames := 2, cells := mc, slots := ms, locals := 49 } mc ms (fun a S V => ∃ u0 u1 u2 : Int, a = [(2, u0), (1, u1), (0, u2)] ∧ S.1 u0 = 31 ∧ p u0 u1 u2 S V) (fun a S V rs S' V' => ∃ u0 u1 u2 r : Int, a = [(2, u0), (1, u1), (0, u2)] ∧ rs = [(0, r)] ∧ q u0 u1 u2 S V r S' V')
theorem e1_17 {l : Launch} {mc ms : Nat} {p : Int → Int → Int → jS → jH → Prop} {q : Int → Int → Int → jS → jH → Int → jS → jH → Prop} (body : ∀ (C : qCx) (G : jG), x1_17 C G → C.2.2.2.1.frames = 2 ∧ C.2.2.2.1.locals = 49 → C.2.2.2.1.cells = mc ∧ C.2.2.2.1.slots = ms → C.2.1 = l → C.2.2.2.2.2.2.2.2.1.name = "more" → ∀ (u0 u1 u2 : Int) (S : jS) (V : jH), S.1 u0 = 31 → p u0 u1 u2 S V → j_Ri n_KT 6 C G b_1_17 mc ms (q u0 u1 u2 S V) → j_ok n_KT 6 C G 0 [(0, (2, u0)), (1, (1, u1)), (3, (0, u2))] [] S V 0 0) : M1_17 l mc ms p q := by
  refine j_method (ws' := n_GW) (by decide) rfl ?_ ?_
  · rintro a S V ⟨u0, u1, u2, rfl, -⟩
    exact Nat.le_of_ble_eq_true rfl
  · rintro C G htl hl hrm hm hml ho hts hnm hE a S V ⟨u0, u1, u2, rfl, ht, hp⟩ R
    exact body C G ⟨htl, hm, hml, ho, fun w hw => hts w (List.mem_cons_of_mem _ hw), hE⟩ (by rw [hrm]; exact ⟨rfl, rfl⟩) (by rw [hrm]; exact ⟨rfl, rfl⟩) hl hnm u0 u1 u2 S V ht hp (fun pc lo r S' V' nc ns d q hc hs => R.2.1 rfl pc lo r S' V' nc ns d ⟨u0, u1, u2, r, rfl, rfl, q⟩ hc hs)
theorem d1_17_0 : decode b_1_17 0 = .ok (.aload_n 0, 1) := by decide +kernel
theorem d1_17_1 : decode b_1_17 1 = .ok (.getfield 10, 3) := by decide +kernel
theorem d1_17_4 : decode b_1_17 4 = .ok (.getfield 155, 3) := by decide +kernel
theorem d1_17_7 : decode b_1_17 7 = .ok (.astore 4, 2) := by decide +kernel
theorem d1_17_9 : decode b_1_17 9 = .ok (.iload_n 3, 1) := by decide +kernel
theorem d1_17_10 : decode b_1_17 10 = .ok (.sipush (-400), 3) := by decide +kernel
theorem d1_17_13 : decode b_1_17 13 = .ok (.if_icmp .lt 23, 3) := by decide +kernel
theorem d1_17_16 : decode b_1_17 16 = .ok (.iload_n 3, 1) := by decide +kernel
theorem d1_17_17 : decode b_1_17 17 = .ok (.ifCond .eq 19, 3) := by decide +kernel
theorem d1_17_20 : decode b_1_17 20 = .ok (.iload_n 3, 1) := by decide +kernel
theorem d1_17_21 : decode b_1_17 21 = .ok (.bipush 8, 2) := by decide +kernel
theorem d1_17_23 : decode b_1_17 23 = .ok (.if_icmp .gt 13, 3) := by decide +kernel
theorem d1_17_26 : decode b_1_17 26 = .ok (.iload_n 3, 1) := by decide +kernel
theorem d1_17_27 : decode b_1_17 27 = .ok (.aload 4, 2) := by decide +kernel
theorem d1_17_29 : decode b_1_17 29 = .ok (.getfield 180, 3) := by decide +kernel
theorem d1_17_32 : decode b_1_17 32 = .ok (.ineg, 1) := by decide +kernel
theorem d1_17_33 : decode b_1_17 33 = .ok (.if_icmp .ge 9, 3) := by decide +kernel
theorem d1_17_36 : decode b_1_17 36 = .ok (.aload_n 0, 1) := by decide +kernel
theorem d1_17_37 : decode b_1_17 37 = .ok (.iconst (-1), 1) := by decide +kernel
theorem d1_17_38 : decode b_1_17 38 = .ok (.invokevirtual 55, 3) := by decide +kernel
theorem d1_17_41 : decode b_1_17 41 = .ok (.ireturn, 1) := by decide +kernel
theorem d1_17_42 : decode b_1_17 42 = .ok (.iload_n 3, 1) := by decide +kernel
theorem d1_17_43 : decode b_1_17 43 = .ok (.sipush 4400, 3) := by decide +kernel
theorem d1_17_46 : decode b_1_17 46 = .ok (.aload 4, 2) := by decide +kernel
theorem d1_17_48 : decode b_1_17 48 = .ok (.getfield 180, 3) := by decide +kernel
theorem d1_17_51 : decode b_1_17 51 = .ok (.isub, 1) := by decide +kernel
theorem d1_17_52 : decode b_1_17 52 = .ok (.if_icmp .le 10, 3) := by decide +kernel
theorem d1_17_55 : decode b_1_17 55 = .ok (.aload_n 0, 1) := by decide +kernel
theorem d1_17_56 : decode b_1_17 56 = .ok (.bipush (-2), 2) := by decide +kernel
theorem d1_17_58 : decode b_1_17 58 = .ok (.invokevirtual 55, 3) := by decide +kernel
theorem d1_17_61 : decode b_1_17 61 = .ok (.ireturn, 1) := by decide +kernel
theorem d1_17_62 : decode b_1_17 62 = .ok (.iload_n 3, 1) := by decide +kernel
theorem d1_17_63 : decode b_1_17 63 = .ok (.ifCond .ge 14, 3) := by decide +kernel
theorem d1_17_66 : decode b_1_17 66 = .ok (.aload 4, 2) := by decide +kernel
theorem d1_17_68 : decode b_1_17 68 = .ok (.dup, 1) := by decide +kernel
theorem d1_17_69 : decode b_1_17 69 = .ok (.getfield 180, 3) := by decide +kernel
theorem d1_17_72 : decode b_1_17 72 = .ok (.iload_n 3, 1) := by decide +kernel
theorem d1_17_73 : decode b_1_17 73 = .ok (.iadd, 1) := by decide +kernel
theorem d1_17_74 : decode b_1_17 74 = .ok (.putfield 180, 3) := by decide +kernel
theorem d1_17_77 : decode b_1_17 77 = .ok (.iload_n 3, 1) := by decide +kernel
theorem d1_17_78 : decode b_1_17 78 = .ok (.iconst 1, 1) := by decide +kernel
theorem d1_17_79 : decode b_1_17 79 = .ok (.isub, 1) := by decide +kernel
theorem d1_17_80 : decode b_1_17 80 = .ok (.istore 5, 2) := by decide +kernel
theorem d1_17_82 : decode b_1_17 82 = .ok (.iload 5, 2) := by decide +kernel
theorem d1_17_84 : decode b_1_17 84 = .ok (.ifCond .lt 21, 3) := by decide +kernel
theorem d1_17_87 : decode b_1_17 87 = .ok (.aload 4, 2) := by decide +kernel
theorem d1_17_89 : decode b_1_17 89 = .ok (.lload_n 1, 1) := by decide +kernel
theorem d1_17_90 : decode b_1_17 90 = .ok (.iload 5, 2) := by decide +kernel
theorem d1_17_92 : decode b_1_17 92 = .ok (.invokestatic 64, 3) := by decide +kernel
theorem d1_17_95 : decode b_1_17 95 = .ok (.iconst 1, 1) := by decide +kernel
theorem d1_17_96 : decode b_1_17 96 = .ok (.invokevirtual 189, 3) := by decide +kernel
theorem d1_17_99 : decode b_1_17 99 = .ok (.iinc 5 (-1), 3) := by decide +kernel
theorem d1_17_102 : decode b_1_17 102 = .ok (.goto (-20), 3) := by decide +kernel
theorem d1_17_105 : decode b_1_17 105 = .ok (.aload 4, 2) := by decide +kernel
theorem d1_17_107 : decode b_1_17 107 = .ok (.invokevirtual 186, 3) := by decide +kernel
theorem d1_17_110 : decode b_1_17 110 = .ok (.aload 4, 2) := by decide +kernel
theorem d1_17_112 : decode b_1_17 112 = .ok (.getfield 180, 3) := by decide +kernel
theorem d1_17_115 : decode b_1_17 115 = .ok (.ireturn, 1) := by decide +kernel
theorem K1_17_38 {C : qCx} {G : jG} {mc ms : Nat} {p : Int → Int → jS → jH → Prop} {q : Int → Int → jS → jH → Int → jS → jH → Prop} (h : x1_17 C G) (hrm : C.2.2.2.1.frames = 2 ∧ C.2.2.2.1.locals = 49) (hM : M1_27 C.2.1 mc ms p q) : j_Call C b_1_17 n_KT G.1 G.2.1 6 (.invokevirtual 55) mc ms (fun a S V => ∃ u0 u1 : Int, a = [(2, u0), (0, u1)] ∧ S.1 u0 = 31 ∧ p u0 u1 S V) (fun a S V rs S' V' => ∃ u0 u1 r : Int, a = [(2, u0), (0, u1)] ∧ rs = [(0, r)] ∧ q u0 u1 S V r S' V') := j_callV n_NWk h.2.2.2.2.2 h.1 hM ⟨h.2.1.1, h.2.1.2, h.2.2.1, h.2.2.2.1, h.2.2.2.2.1⟩ ⟨n_CB (y := y_1_27) (bytes := b_1_27) 1 h.2.2.2.2.1 n_w309 n_w306 n_w1 ⟨by decide, by decide, by decide +kernel⟩ rfl rfl ⟨by rw [hrm.1]; exact Nat.le_of_ble_eq_true rfl, by rw [hrm.2]; exact Nat.le_of_ble_eq_true rfl⟩, h.2.2.2.2.1 _ n_w308, h.2.2.2.2.1 _ n_s1⟩ (Cn := RX10) (fun a S V hP => by obtain ⟨u0, u1, rfl, e, -⟩ := hP; exact ⟨u0, _, 10, _, _, TX10, 8, rfl, rfl, by rw [e]; decide, by rw [e]; rfl, rfl⟩)
theorem K1_17_58 {C : qCx} {G : jG} {mc ms : Nat} {p : Int → Int → jS → jH → Prop} {q : Int → Int → jS → jH → Int → jS → jH → Prop} (h : x1_17 C G) (hrm : C.2.2.2.1.frames = 2 ∧ C.2.2.2.1.locals = 49) (hM : M1_27 C.2.1 mc ms p q) : j_Call C b_1_17 n_KT G.1 G.2.1 6 (.invokevirtual 55) mc ms (fun a S V => ∃ u0 u1 : Int, a = [(2, u0), (0, u1)] ∧ S.1 u0 = 31 ∧ p u0 u1 S V) (fun a S V rs S' V' => ∃ u0 u1 r : Int, a = [(2, u0), (0, u1)] ∧ rs = [(0, r)] ∧ q u0 u1 S V r S' V') := j_callV n_NWk h.2.2.2.2.2 h.1 hM ⟨h.2.1.1, h.2.1.2, h.2.2.1, h.2.2.2.1, h.2.2.2.2.1⟩ ⟨n_CB (y := y_1_27) (bytes := b_1_27) 1 h.2.2.2.2.1 n_w309 n_w306 n_w1 ⟨by decide, by decide, by decide +kernel⟩ rfl rfl ⟨by rw [hrm.1]; exact Nat.le_of_ble_eq_true rfl, by rw [hrm.2]; exact Nat.le_of_ble_eq_true rfl⟩, h.2.2.2.2.1 _ n_w308, h.2.2.2.2.1 _ n_s1⟩ (Cn := RX10) (fun a S V hP => by obtain ⟨u0, u1, rfl, e, -⟩ := hP; exact ⟨u0, _, 10, _, _, TX10, 8, rfl, rfl, by rw [e]; decide, by rw [e]; rfl, rfl⟩)
theorem K1_17_92 {C : qCx} {G : jG} {mc ms : Nat} {p : Int → Int → jS → jH → Prop} {q : Int → Int → jS → jH → Int → jS → jH → Prop} (h : x1_17 C G) (hrm : C.2.2.2.1.frames = 2 ∧ C.2.2.2.1.locals = 49) (hM : M1_33 C.2.1 mc ms p q) : j_Call C b_1_17 n_KT G.1 G.2.1 6 (.invokestatic 64) mc ms (fun a S V => ∃ u0 u1 : Int, a = [(1, u0), (0, u1)] ∧ p u0 u1 S V) (fun a S V rs S' V' => ∃ u0 u1 r : Int, a = [(1, u0), (0, u1)] ∧ rs = [(0, r)] ∧ q u0 u1 S V r S' V') := j_callS n_NWk h.2.2.2.2.2 h.1 hM ⟨h.2.1.1, h.2.1.2, h.2.2.1, h.2.2.2.1, h.2.2.2.2.1⟩ ⟨n_CB (y := y_1_33) (bytes := b_1_33) 2 h.2.2.2.2.1 n_w312 n_w310 n_w1 ⟨by decide, by decide, by decide +kernel⟩ rfl rfl ⟨by rw [hrm.1]; exact Nat.le_of_ble_eq_true rfl, by rw [hrm.2]; exact Nat.le_of_ble_eq_true rfl⟩, h.2.2.2.2.1 _ n_w311⟩ (fun a S V hP => by obtain ⟨u0, u1, rfl, -⟩ := hP; rfl)
theorem K1_17_96 {C : qCx} {G : jG} {mc ms : Nat} {p : Int → Int → Int → jS → jH → Prop} {q : Int → Int → Int → jS → jH → jS → jH → Prop} (h : x1_17 C G) (hrm : C.2.2.2.1.frames = 2 ∧ C.2.2.2.1.locals = 49) (hM : M3_6 C.2.1 mc ms p q) : j_Call C b_1_17 n_KT G.1 G.2.1 6 (.invokevirtual 189) mc ms (fun a S V => ∃ u0 u1 u2 : Int, a = [(2, u0), (0, u1), (0, u2)] ∧ S.1 u0 = 22 ∧ p u0 u1 u2 S V) (fun a S V rs S' V' => ∃ u0 u1 u2 : Int, a = [(2, u0), (0, u1), (0, u2)] ∧ rs = [] ∧ q u0 u1 u2 S V S' V') := j_callV n_NWk h.2.2.2.2.2 h.1 hM ⟨h.2.1.1, h.2.1.2, h.2.2.1, h.2.2.2.1, h.2.2.2.2.1⟩ ⟨n_CB (y := y_3_6) (bytes := b_3_6) 2 h.2.2.2.2.1 n_w568 n_w676 n_w3 ⟨by decide, by decide, by decide +kernel⟩ rfl rfl ⟨by rw [hrm.1]; exact Nat.le_of_ble_eq_true rfl, by rw [hrm.2]; exact Nat.le_of_ble_eq_true rfl⟩, h.2.2.2.2.1 _ n_w566, h.2.2.2.2.1 _ n_w567⟩ (Cn := RX1) (fun a S V hP => by obtain ⟨u0, u1, u2, rfl, e, -⟩ := hP; exact ⟨u0, _, 1, _, _, TX1, 5, rfl, rfl, by rw [e]; decide, by rw [e]; rfl, rfl⟩)
theorem K1_17_107 {C : qCx} {G : jG} {mc ms : Nat} {p : Int → jS → jH → Prop} {q : Int → jS → jH → jS → jH → Prop} (h : x1_17 C G) (hrm : C.2.2.2.1.frames = 2 ∧ C.2.2.2.1.locals = 49) (hM : M3_4 C.2.1 mc ms p q) : j_Call C b_1_17 n_KT G.1 G.2.1 6 (.invokevirtual 186) mc ms (fun a S V => ∃ u0 : Int, a = [(2, u0)] ∧ S.1 u0 = 22 ∧ p u0 S V) (fun a S V rs S' V' => ∃ u0 : Int, a = [(2, u0)] ∧ rs = [] ∧ q u0 S V S' V') := j_callV n_NWk h.2.2.2.2.2 h.1 hM ⟨h.2.1.1, h.2.1.2, h.2.2.1, h.2.2.2.1, h.2.2.2.2.1⟩ ⟨n_CB (y := y_3_4) (bytes := b_3_4) 0 h.2.2.2.2.1 n_w671 n_w668 n_w3 ⟨by decide, by decide, by decide +kernel⟩ rfl rfl ⟨by rw [hrm.1]; exact Nat.le_of_ble_eq_true rfl, by rw [hrm.2]; exact Nat.le_of_ble_eq_true rfl⟩, h.2.2.2.2.1 _ n_w669, h.2.2.2.2.1 _ n_w670⟩ (Cn := RX1) (fun a S V hP => by obtain ⟨u0, rfl, e, -⟩ := hP; exact ⟨u0, _, 1, _, _, TX1, 5, rfl, rfl, by rw [e]; decide, by rw [e]; rfl, rfl⟩)
theorem t1_17_0 {C : qCx} {G : jG} {S : jS} {V : jH} {nc ns : Nat} {l0 l1 l3 : Int} (h : x1_17 C G) (L : j_L S) (c1 : S.1 l0 = 31) (k : l3 < (-400) → j_ok n_KT 6 C G 36 [(0, (2, l0))] [] S V nc ns) (k' : (-400) ≤ l3 → j_ok n_KT 6 C G 16 [(0, (2, l0)), (1, (1, l1)), (3, (0, l3)), (4, (2, l0 + 16))] [] S V nc ns) : j_ok n_KT 6 C G 0 [(0, (2, l0)), (1, (1, l1)), (3, (0, l3))] [] S V nc ns := by
  have E := n_E h
  refine j_aload_n E d1_17_0 rfl 0 rfl ?_
  refine j_getS (f := 0) (x := l0 + 1) (fg10_10 h) d1_17_1 c1 (by decide) rfl rfl ((L10_0 L c1).trans (by omega)) ?_
  refine j_getS (f := 3) (x := l0 + 16) (fg10_155 h) d1_17_4 (show S.1 (l0 + 1) = 30 from (by have q := L10_0k L c1; rw [show l0 + 1 = l0 + 1 by omega]; exact q)) (by decide) rfl rfl ((L9_3 L (show S.1 (l0 + 1) = 30 from (by have q := L10_0k L c1; rw [show l0 + 1 = l0 + 1 by omega]; exact q))).trans (by omega)) ?_
  refine j_astore E d1_17_7 (by decide) (lo1 := [(0, (2, l0)), (1, (1, l1)), (3, (0, l3))]) rfl ?_
  refine j_iload_n E d1_17_9 rfl 3 rfl ?_
  refine j_sipush E d1_17_10 (by decide) ?_
  exact j_icmp_lt E d1_17_13 (t := 36) rfl (fun q => j_pick [1] rfl (k q)) (fun q => j_pick [1, 2, 3, 0] rfl (k' q))
theorem t1_17_16 {C : qCx} {G : jG} {S : jS} {V : jH} {nc ns : Nat} {l0 l1 l3 l4 : Int} (h : x1_17 C G)  (k : l3 = 0 → j_ok n_KT 6 C G 36 [(0, (2, l0))] [] S V nc ns) (k' : ¬ l3 = 0 → j_ok n_KT 6 C G 20 [(0, (2, l0)), (1, (1, l1)), (3, (0, l3)), (4, (2, l4))] [] S V nc ns) : j_ok n_KT 6 C G 16 [(0, (2, l0)), (1, (1, l1)), (3, (0, l3)), (4, (2, l4))] [] S V nc ns := by
  have E := n_E h
  refine j_iload_n E d1_17_16 rfl 2 rfl ?_
  exact j_if_eq E d1_17_17 (t := 36) rfl (fun q => j_pick [0] rfl (k q)) (fun q => j_pick [0, 1, 2, 3] rfl (k' q))
theorem t1_17_20 {C : qCx} {G : jG} {S : jS} {V : jH} {nc ns : Nat} {l0 l1 l3 l4 : Int} (h : x1_17 C G)  (k : 8 < l3 → j_ok n_KT 6 C G 36 [(0, (2, l0))] [] S V nc ns) (k' : l3 ≤ 8 → j_ok n_KT 6 C G 26 [(0, (2, l0)), (1, (1, l1)), (3, (0, l3)), (4, (2, l4))] [] S V nc ns) : j_ok n_KT 6 C G 20 [(0, (2, l0)), (1, (1, l1)), (3, (0, l3)), (4, (2, l4))] [] S V nc ns := by
  have E := n_E h
  refine j_iload_n E d1_17_20 rfl 2 rfl ?_
  refine j_bipush E d1_17_21 (by decide) ?_
  exact j_icmp_gt E d1_17_23 (t := 36) rfl (fun q => j_pick [0] rfl (k q)) (fun q => j_pick [0, 1, 2, 3] rfl (k' q))
theorem t1_17_26 {C : qCx} {G : jG} {S : jS} {V : jH} {nc ns : Nat} {l0 l1 l3 l4 : Int} (h : x1_17 C G) (c1 : S.1 l4 = 22) (c2 : -2147483647 ≤ V l4 1) (k : -(V l4 1) ≤ l3 → j_ok n_KT 6 C G 42 [(0, (2, l0)), (1, (1, l1)), (3, (0, l3)), (4, (2, l4))] [] S V nc ns) (k' : l3 < -(V l4 1) → j_ok n_KT 6 C G 36 [(0, (2, l0))] [] S V nc ns) : j_ok n_KT 6 C G 26 [(0, (2, l0)), (1, (1, l1)), (3, (0, l3)), (4, (2, l4))] [] S V nc ns := by
  have E := n_E h
  refine j_iload_n E d1_17_26 rfl 2 rfl ?_
  refine j_aload E d1_17_27 3 rfl ?_
  refine j_getI (f := 1) (fg10_180 h) d1_17_29 c1 (by decide) rfl rfl ?_
  refine j_ineg E d1_17_32 c2 ?_
  exact j_icmp_ge E d1_17_33 (t := 42) rfl (fun q => j_pick [0, 1, 2, 3] rfl (k q)) (fun q => j_pick [0] rfl (k' q))
theorem t1_17_36 {C : qCx} {G : jG} {S : jS} {V : jH} {nc ns : Nat} {l0 : Int} {mc ms : Nat} {pp : Int → Int → jS → jH → Prop} {qq : Int → Int → jS → jH → Int → jS → jH → Prop} (h : x1_17 C G) (hrm : C.2.2.2.1.frames = 2 ∧ C.2.2.2.1.locals = 49) (c1 : S.1 l0 = 31) (hM : M1_27 C.2.1 mc ms pp qq) (hp : pp l0 ((-1)) S V) (hc : nc + mc ≤ C.2.2.2.1.cells) (hs : ns + ms ≤ C.2.2.2.1.slots) (k : ∀ (r : Int) (S' : jS) (V' : jH), qq l0 ((-1)) S V r S' V' → j_ok n_KT 6 C G 41 [] [(0, r)] S' V' (nc + mc) (ns + ms)) : j_ok n_KT 6 C G 36 [(0, (2, l0))] [] S V nc ns := by
  have E := n_E h
  refine j_aload_n E d1_17_36 rfl 0 rfl ?_
  refine j_iconst E d1_17_37 (by decide) ?_
  refine j_call E (K1_17_38 h hrm hM) d1_17_38 (a := [(2, l0), (0, (-1))]) (sk := []) rfl ⟨l0, (-1), rfl, c1, hp⟩ (Nat.le_of_ble_eq_true rfl) hc hs ?_
  rintro rs S' V' ⟨z0, z1, r, e1, rfl, q⟩
  simp only [List.cons.injEq, Prod.mk.injEq, and_true, true_and] at e1
  obtain ⟨rfl, rfl⟩ := e1
  exact j_pick [] rfl (k r S' V' q)
theorem t1_17_41 {C : qCx} {G : jG} {S : jS} {V : jH} {nc ns : Nat} {s0 : Int} {mc ms : Nat} {qf : Int → jS → jH → Prop} (h : x1_17 C G)  (R : j_Ri n_KT 6 C G b_1_17 mc ms qf) (q : qf s0 S V) (hc : nc ≤ mc) (hs : ns ≤ ms) : j_ok n_KT 6 C G 41 [] [(0, s0)] S V nc ns := by
  have E := n_E h
  exact R _ _ _ _ _ _ _ d1_17_41 q hc hs
theorem t1_17_42 {C : qCx} {G : jG} {S : jS} {V : jH} {nc ns : Nat} {l0 l1 l3 l4 : Int} (h : x1_17 C G) (c1 : S.1 l4 = 22) (c2 : -2147483648 ≤ 4400 - (V l4 1) ∧ 4400 - (V l4 1) ≤ 2147483647) (k : l3 ≤ 4400 - (V l4 1) → j_ok n_KT 6 C G 62 [(1, (1, l1)), (3, (0, l3)), (4, (2, l4))] [] S V nc ns) (k' : 4400 - (V l4 1) < l3 → j_ok n_KT 6 C G 55 [(0, (2, l0))] [] S V nc ns) : j_ok n_KT 6 C G 42 [(0, (2, l0)), (1, (1, l1)), (3, (0, l3)), (4, (2, l4))] [] S V nc ns := by
  have E := n_E h
  refine j_iload_n E d1_17_42 rfl 2 rfl ?_
  refine j_sipush E d1_17_43 (by decide) ?_
  refine j_aload E d1_17_46 3 rfl ?_
  refine j_getI (f := 1) (fg10_180 h) d1_17_48 c1 (by decide) rfl rfl ?_
  refine j_isub E d1_17_51 c2 ?_
  exact j_icmp_le E d1_17_52 (t := 62) rfl (fun q => j_pick [1, 2, 3] rfl (k q)) (fun q => j_pick [0] rfl (k' q))
theorem t1_17_55 {C : qCx} {G : jG} {S : jS} {V : jH} {nc ns : Nat} {l0 : Int} {mc ms : Nat} {pp : Int → Int → jS → jH → Prop} {qq : Int → Int → jS → jH → Int → jS → jH → Prop} (h : x1_17 C G) (hrm : C.2.2.2.1.frames = 2 ∧ C.2.2.2.1.locals = 49) (c1 : S.1 l0 = 31) (hM : M1_27 C.2.1 mc ms pp qq) (hp : pp l0 ((-2)) S V) (hc : nc + mc ≤ C.2.2.2.1.cells) (hs : ns + ms ≤ C.2.2.2.1.slots) (k : ∀ (r : Int) (S' : jS) (V' : jH), qq l0 ((-2)) S V r S' V' → j_ok n_KT 6 C G 61 [] [(0, r)] S' V' (nc + mc) (ns + ms)) : j_ok n_KT 6 C G 55 [(0, (2, l0))] [] S V nc ns := by
  have E := n_E h
  refine j_aload_n E d1_17_55 rfl 0 rfl ?_
  refine j_bipush E d1_17_56 (by decide) ?_
  refine j_call E (K1_17_58 h hrm hM) d1_17_58 (a := [(2, l0), (0, (-2))]) (sk := []) rfl ⟨l0, (-2), rfl, c1, hp⟩ (Nat.le_of_ble_eq_true rfl) hc hs ?_
  rintro rs S' V' ⟨z0, z1, r, e1, rfl, q⟩
  simp only [List.cons.injEq, Prod.mk.injEq, and_true, true_and] at e1
  obtain ⟨rfl, rfl⟩ := e1
  exact j_pick [] rfl (k r S' V' q)
theorem t1_17_61 {C : qCx} {G : jG} {S : jS} {V : jH} {nc ns : Nat} {s0 : Int} {mc ms : Nat} {qf : Int → jS → jH → Prop} (h : x1_17 C G)  (R : j_Ri n_KT 6 C G b_1_17 mc ms qf) (q : qf s0 S V) (hc : nc ≤ mc) (hs : ns ≤ ms) : j_ok n_KT 6 C G 61 [] [(0, s0)] S V nc ns := by
  have E := n_E h
  exact R _ _ _ _ _ _ _ d1_17_61 q hc hs
theorem t1_17_62 {C : qCx} {G : jG} {S : jS} {V : jH} {nc ns : Nat} {l1 l3 l4 : Int} (h : x1_17 C G)  (k : 0 ≤ l3 → j_ok n_KT 6 C G 77 [(1, (1, l1)), (3, (0, l3)), (4, (2, l4))] [] S V nc ns) (k' : l3 < 0 → j_ok n_KT 6 C G 66 [(1, (1, l1)), (3, (0, l3)), (4, (2, l4))] [] S V nc ns) : j_ok n_KT 6 C G 62 [(1, (1, l1)), (3, (0, l3)), (4, (2, l4))] [] S V nc ns := by
  have E := n_E h
  refine j_iload_n E d1_17_62 rfl 1 rfl ?_
  exact j_if_ge E d1_17_63 (t := 77) rfl (fun q => j_pick [0, 1, 2] rfl (k q)) (fun q => j_pick [0, 1, 2] rfl (k' q))
theorem t1_17_66 {C : qCx} {G : jG} {S : jS} {V : jH} {nc ns : Nat} {l1 l3 l4 : Int} (h : x1_17 C G) (c1 : S.1 l4 = 22) (c2 : -2147483648 ≤ (V l4 1) + l3 ∧ (V l4 1) + l3 ≤ 2147483647) (k : j_ok n_KT 6 C G 77 [(1, (1, l1)), (3, (0, l3)), (4, (2, l4))] [] S (j_up V l4 1 ((V l4 1) + l3)) nc ns) : j_ok n_KT 6 C G 66 [(1, (1, l1)), (3, (0, l3)), (4, (2, l4))] [] S V nc ns := by
  have E := n_E h
  refine j_aload E d1_17_66 2 rfl ?_
  refine j_dup E d1_17_68 rfl ?_
  refine j_getI (f := 1) (fg10_180 h) d1_17_69 c1 (by decide) rfl rfl ?_
  refine j_iload_n E d1_17_72 rfl 1 rfl ?_
  refine j_iadd E d1_17_73 c2 ?_
  refine j_putI (f := 1) (fp10_180 h) (n_hap h 22 1 0 _ rfl) d1_17_74 c1 (by decide) rfl rfl rfl ?_
  exact j_pick [0, 1, 2] rfl k
theorem t1_17_77 {C : qCx} {G : jG} {S : jS} {V : jH} {nc ns : Nat} {l1 l3 l4 : Int} (h : x1_17 C G) (c1 : -2147483648 ≤ l3 - 1 ∧ l3 - 1 ≤ 2147483647) (k : j_ok n_KT 6 C G 82 [(1, (1, l1)), (4, (2, l4)), (5, (0, l3 - 1))] [] S V nc ns) : j_ok n_KT 6 C G 77 [(1, (1, l1)), (3, (0, l3)), (4, (2, l4))] [] S V nc ns := by
  have E := n_E h
  refine j_iload_n E d1_17_77 rfl 1 rfl ?_
  refine j_iconst E d1_17_78 (by decide) ?_
  refine j_isub E d1_17_79 c1 ?_
  refine j_istore E d1_17_80 (by decide) (lo1 := [(1, (1, l1)), (3, (0, l3)), (4, (2, l4))]) rfl ?_
  exact j_pick [1, 3, 0] rfl k
theorem t1_17_82 {C : qCx} {G : jG} {S : jS} {V : jH} {nc ns : Nat} {l1 l4 l5 : Int} (h : x1_17 C G)  (k : l5 < 0 → j_ok n_KT 6 C G 105 [(4, (2, l4))] [] S V nc ns) (k' : 0 ≤ l5 → j_ok n_KT 6 C G 87 [(1, (1, l1)), (4, (2, l4)), (5, (0, l5))] [] S V nc ns) : j_ok n_KT 6 C G 82 [(1, (1, l1)), (4, (2, l4)), (5, (0, l5))] [] S V nc ns := by
  have E := n_E h
  refine j_iload E d1_17_82 2 rfl ?_
  exact j_if_lt E d1_17_84 (t := 105) rfl (fun q => j_pick [1] rfl (k q)) (fun q => j_pick [0, 1, 2] rfl (k' q))
theorem t1_17_87 {C : qCx} {G : jG} {S : jS} {V : jH} {nc ns : Nat} {l1 l4 l5 : Int} {mc ms : Nat} {pp : Int → Int → jS → jH → Prop} {qq : Int → Int → jS → jH → Int → jS → jH → Prop} (h : x1_17 C G) (hrm : C.2.2.2.1.frames = 2 ∧ C.2.2.2.1.locals = 49)  (hM : M1_33 C.2.1 mc ms pp qq) (hp : pp l1 l5 S V) (hc : nc + mc ≤ C.2.2.2.1.cells) (hs : ns + ms ≤ C.2.2.2.1.slots) (k : ∀ (r : Int) (S' : jS) (V' : jH), qq l1 l5 S V r S' V' → j_ok n_KT 6 C G 95 [(1, (1, l1)), (4, (2, l4)), (5, (0, l5))] [(0, r), (2, l4)] S' V' (nc + mc) (ns + ms)) : j_ok n_KT 6 C G 87 [(1, (1, l1)), (4, (2, l4)), (5, (0, l5))] [] S V nc ns := by
  have E := n_E h
  refine j_aload E d1_17_87 1 rfl ?_
  refine j_lload_n E d1_17_89 rfl 0 rfl ?_
  refine j_iload E d1_17_90 2 rfl ?_
  refine j_call E (K1_17_92 h hrm hM) d1_17_92 (a := [(1, l1), (0, l5)]) (sk := [(2, l4)]) rfl ⟨l1, l5, rfl, hp⟩ (Nat.le_of_ble_eq_true rfl) hc hs ?_
  rintro rs S' V' ⟨z0, z1, r, e1, rfl, q⟩
  simp only [List.cons.injEq, Prod.mk.injEq, and_true, true_and] at e1
  obtain ⟨rfl, rfl⟩ := e1
  exact j_pick [0, 1, 2] rfl (k r S' V' q)
theorem t1_17_95 {C : qCx} {G : jG} {S : jS} {V : jH} {nc ns : Nat} {l1 l4 l5 s0 s1 : Int} {mc ms : Nat} {pp : Int → Int → Int → jS → jH → Prop} {qq : Int → Int → Int → jS → jH → jS → jH → Prop} (h : x1_17 C G) (hrm : C.2.2.2.1.frames = 2 ∧ C.2.2.2.1.locals = 49) (c1 : S.1 s1 = 22) (hM : M3_6 C.2.1 mc ms pp qq) (hp : pp s1 s0 1 S V) (hc : nc + mc ≤ C.2.2.2.1.cells) (hs : ns + ms ≤ C.2.2.2.1.slots) (k : ∀ (S' : jS) (V' : jH), qq s1 s0 1 S V S' V' → j_ok n_KT 6 C G 99 [(1, (1, l1)), (4, (2, l4)), (5, (0, l5))] [] S' V' (nc + mc) (ns + ms)) : j_ok n_KT 6 C G 95 [(1, (1, l1)), (4, (2, l4)), (5, (0, l5))] [(0, s0), (2, s1)] S V nc ns := by
  have E := n_E h
  refine j_iconst E d1_17_95 (by decide) ?_
  refine j_call E (K1_17_96 h hrm hM) d1_17_96 (a := [(2, s1), (0, s0), (0, 1)]) (sk := []) rfl ⟨s1, s0, 1, rfl, c1, hp⟩ (Nat.le_of_ble_eq_true rfl) hc hs ?_
  rintro rs S' V' ⟨z0, z1, z2, e1, rfl, q⟩
  simp only [List.cons.injEq, Prod.mk.injEq, and_true, true_and] at e1
  obtain ⟨rfl, rfl, rfl⟩ := e1
  exact j_pick [0, 1, 2] rfl (k S' V' q)
theorem t1_17_99 {C : qCx} {G : jG} {S : jS} {V : jH} {nc ns : Nat} {l1 l4 l5 : Int} (h : x1_17 C G) (c1 : -2147483648 ≤ l5 + (-1) ∧ l5 + (-1) ≤ 2147483647) (k : j_ok n_KT 6 C G 82 [(1, (1, l1)), (4, (2, l4)), (5, (0, l5 + (-1)))] [] S V nc ns) : j_ok n_KT 6 C G 99 [(1, (1, l1)), (4, (2, l4)), (5, (0, l5))] [] S V nc ns := by
  have E := n_E h
  refine j_iinc E d1_17_99 (by decide) (by decide) 2 rfl (lo1 := [(1, (1, l1)), (4, (2, l4))]) rfl c1 ?_
  refine j_goto E d1_17_102 (t := 82) rfl ?_
  exact j_pick [1, 2, 0] rfl k
theorem t1_17_105 {C : qCx} {G : jG} {S : jS} {V : jH} {nc ns : Nat} {l4 : Int} {mc ms : Nat} {pp : Int → jS → jH → Prop} {qq : Int → jS → jH → jS → jH → Prop} (h : x1_17 C G) (hrm : C.2.2.2.1.frames = 2 ∧ C.2.2.2.1.locals = 49) (c1 : S.1 l4 = 22) (hM : M3_4 C.2.1 mc ms pp qq) (hp : pp l4 S V) (hc : nc + mc ≤ C.2.2.2.1.cells) (hs : ns + ms ≤ C.2.2.2.1.slots) (k : ∀ (S' : jS) (V' : jH), qq l4 S V S' V' → j_ok n_KT 6 C G 110 [(4, (2, l4))] [] S' V' (nc + mc) (ns + ms)) : j_ok n_KT 6 C G 105 [(4, (2, l4))] [] S V nc ns := by
  have E := n_E h
  refine j_aload E d1_17_105 0 rfl ?_
  refine j_call E (K1_17_107 h hrm hM) d1_17_107 (a := [(2, l4)]) (sk := []) rfl ⟨l4, rfl, c1, hp⟩ (Nat.le_of_ble_eq_true rfl) hc hs ?_
  rintro rs S' V' ⟨z0, e1, rfl, q⟩
  simp only [List.cons.injEq, Prod.mk.injEq, and_true, true_and] at e1
  obtain ⟨rfl⟩ := e1
  exact j_pick [0] rfl (k S' V' q)
theorem t1_17_110 {C : qCx} {G : jG} {S : jS} {V : jH} {nc ns : Nat} {l4 : Int} {mc ms : Nat} {qf : Int → jS → jH → Prop} (h : x1_17 C G) (c1 : S.1 l4 = 22) (R : j_Ri n_KT 6 C G b_1_17 mc ms qf) (q : qf (V l4 1) S V) (hc : nc ≤ mc) (hs : ns ≤ ms) : j_ok n_KT 6 C G 110 [(4, (2, l4))] [] S V nc ns := by
  have E := n_E h
  refine j_aload E d1_17_110 0 rfl ?_
  refine j_getI (f := 1) (fg10_180 h) d1_17_112 c1 (by decide) rfl rfl ?_
  exact R _ _ _ _ _ _ _ d1_17_115 q hc hs
/- BalanceCoder.planTrial(IILBalanceCoder$Row;)V -/
abbrev b_1_37 : ByteArray := prog_1_method_37_code
def y_1_37 : MethodName := ⟨"BalanceCoder", "planTrial", "(IILBalanceCoder$Row;)V"⟩
abbrev x1_37 (C : qCx) (G : jG) : Prop := n_ctx C b_1_37 4 "BalanceCoder" G.1 G.2.1
def M1_37 (l : Launch) (mc ms : Nat) (p : Int → Int → Int → Int → jS → jH → Prop) (q : Int → Int → Int → Int → jS → jH → jS → jH → Prop) : Prop := j_Met l vwCl n_TL n_NW n_KT y_1_37 (Cond.code y_1_37 b_1_37 4 none :: n_GW) { frames := 6, cells := mc, slots := ms, locals := 145 } mc ms (fun a S V => ∃ u0 u1 u2 u3 : Int, a = [(2, u0), (0, u1), (0, u2), (2, u3)] ∧ S.1 u0 = 31 ∧ p u0 u1 u2 u3 S V) (fun a S V rs S' V' => ∃ u0 u1 u2 u3 : Int, a = [(2, u0), (0, u1), (0, u2), (2, u3)] ∧ rs = [] ∧ q u0 u1 u2 u3 S V S' V')
theorem e1_37 {l : Launch} {mc ms : Nat} {p : Int → Int → Int → Int → jS → jH → Prop} {q : Int → Int → Int → Int → jS → jH → jS → jH → Prop} (body : ∀ (C : qCx) (G : jG), x1_37 C G → C.2.2.2.1.frames = 6 ∧ C.2.2.2.1.locals = 145 → C.2.2.2.1.cells = mc ∧ C.2.2.2.1.slots = ms → C.2.1 = l → C.2.2.2.2.2.2.2.2.1.name = "planTrial" → ∀ (u0 u1 u2 u3 : Int) (S : jS) (V : jH), S.1 u0 = 31 → p u0 u1 u2 u3 S V → j_Rv n_KT 4 C G b_1_37 mc ms (q u0 u1 u2 u3 S V) → j_ok n_KT 4 C G 0 [(0, (2, u0)), (1, (0, u1)), (2, (0, u2)), (3, (2, u3))] [] S V 0 0) : M1_37 l mc ms p q := by
  refine j_method (ws' := n_GW) (by decide) rfl ?_ ?_
  · rintro a S V ⟨u0, u1, u2, u3, rfl, -⟩
    exact Nat.le_of_ble_eq_true rfl
  · rintro C G htl hl hrm hm hml ho hts hnm hE a S V ⟨u0, u1, u2, u3, rfl, ht, hp⟩ R
    exact body C G ⟨htl, hm, hml, ho, fun w hw => hts w (List.mem_cons_of_mem _ hw), hE⟩ (by rw [hrm]; exact ⟨rfl, rfl⟩) (by rw [hrm]; exact ⟨rfl, rfl⟩) hl hnm u0 u1 u2 u3 S V ht hp (fun pc lo S' V' nc ns d q hc hs => R.1 rfl pc lo S' V' nc ns d ⟨u0, u1, u2, u3, rfl, rfl, q⟩ hc hs)
theorem d1_37_0 : decode b_1_37 0 = .ok (.aload_n 0, 1) := by decide +kernel
theorem d1_37_1 : decode b_1_37 1 = .ok (.getfield 22, 3) := by decide +kernel
theorem d1_37_4 : decode b_1_37 4 = .ok (.getfield 201, 3) := by decide +kernel
theorem d1_37_7 : decode b_1_37 7 = .ok (.iload_n 1, 1) := by decide +kernel
theorem d1_37_8 : decode b_1_37 8 = .ok (.iload_n 2, 1) := by decide +kernel
theorem d1_37_9 : decode b_1_37 9 = .ok (.invokevirtual 86, 3) := by decide +kernel
theorem d1_37_12 : decode b_1_37 12 = .ok (.aload_n 0, 1) := by decide +kernel
theorem d1_37_13 : decode b_1_37 13 = .ok (.getfield 22, 3) := by decide +kernel
theorem d1_37_16 : decode b_1_37 16 = .ok (.getfield 201, 3) := by decide +kernel
theorem d1_37_19 : decode b_1_37 19 = .ok (.invokevirtual 120, 3) := by decide +kernel
theorem d1_37_22 : decode b_1_37 22 = .ok (.ifCond .eq 18, 3) := by decide +kernel
theorem d1_37_25 : decode b_1_37 25 = .ok (.aload_n 0, 1) := by decide +kernel
theorem d1_37_26 : decode b_1_37 26 = .ok (.getfield 29, 3) := by decide +kernel
theorem d1_37_29 : decode b_1_37 29 = .ok (.aload_n 0, 1) := by decide +kernel
theorem d1_37_30 : decode b_1_37 30 = .ok (.getfield 22, 3) := by decide +kernel
theorem d1_37_33 : decode b_1_37 33 = .ok (.getfield 201, 3) := by decide +kernel
theorem d1_37_36 : decode b_1_37 36 = .ok (.aload_n 3, 1) := by decide +kernel
theorem d1_37_37 : decode b_1_37 37 = .ok (.invokevirtual 124, 3) := by decide +kernel
theorem d1_37_40 : decode b_1_37 40 = .ok (.aload_n 0, 1) := by decide +kernel
theorem d1_37_41 : decode b_1_37 41 = .ok (.getfield 22, 3) := by decide +kernel
theorem d1_37_44 : decode b_1_37 44 = .ok (.aload_n 0, 1) := by decide +kernel
theorem d1_37_45 : decode b_1_37 45 = .ok (.getfield 22, 3) := by decide +kernel
theorem d1_37_48 : decode b_1_37 48 = .ok (.getfield 201, 3) := by decide +kernel
theorem d1_37_51 : decode b_1_37 51 = .ok (.aload_n 3, 1) := by decide +kernel
theorem d1_37_52 : decode b_1_37 52 = .ok (.invokevirtual 247, 3) := by decide +kernel
theorem d1_37_55 : decode b_1_37 55 = .ok (.pop, 1) := by decide +kernel
theorem d1_37_56 : decode b_1_37 56 = .ok (.return_, 1) := by decide +kernel
theorem K1_37_9 {C : qCx} {G : jG} {mc ms : Nat} {p : Int → Int → Int → jS → jH → Prop} {q : Int → Int → Int → jS → jH → jS → jH → Prop} (h : x1_37 C G) (hrm : C.2.2.2.1.frames = 6 ∧ C.2.2.2.1.locals = 145) (hM : M10_2 C.2.1 mc ms p q) : j_Call C b_1_37 n_KT G.1 G.2.1 4 (.invokevirtual 86) mc ms (fun a S V => ∃ u0 u1 u2 : Int, a = [(2, u0), (0, u1), (0, u2)] ∧ S.1 u0 = 29 ∧ p u0 u1 u2 S V) (fun a S V rs S' V' => ∃ u0 u1 u2 : Int, a = [(2, u0), (0, u1), (0, u2)] ∧ rs = [] ∧ q u0 u1 u2 S V S' V') := j_callV n_NWk h.2.2.2.2.2 h.1 hM ⟨h.2.1.1, h.2.1.2, h.2.2.1, h.2.2.2.1, h.2.2.2.2.1⟩ ⟨n_CB (y := y_10_2) (bytes := b_10_2) 2 h.2.2.2.2.1 n_w344 n_w341 n_w7 ⟨by decide, by decide, by decide +kernel⟩ rfl rfl ⟨by rw [hrm.1]; exact Nat.le_of_ble_eq_true rfl, by rw [hrm.2]; exact Nat.le_of_ble_eq_true rfl⟩, h.2.2.2.2.1 _ n_w342, h.2.2.2.2.1 _ n_w343⟩ (Cn := RX8) (fun a S V hP => by obtain ⟨u0, u1, u2, rfl, e, -⟩ := hP; exact ⟨u0, _, 8, _, _, TX8, 3, rfl, rfl, by rw [e]; decide, by rw [e]; rfl, rfl⟩)
theorem K1_37_19 {C : qCx} {G : jG} {mc ms : Nat} {p : Int → jS → jH → Prop} {q : Int → jS → jH → Int → jS → jH → Prop} (h : x1_37 C G) (hrm : C.2.2.2.1.frames = 6 ∧ C.2.2.2.1.locals = 145) (hM : M10_8 C.2.1 mc ms p q) : j_Call C b_1_37 n_KT G.1 G.2.1 4 (.invokevirtual 120) mc ms (fun a S V => ∃ u0 : Int, a = [(2, u0)] ∧ S.1 u0 = 29 ∧ p u0 S V) (fun a S V rs S' V' => ∃ u0 r : Int, a = [(2, u0)] ∧ rs = [(0, r)] ∧ q u0 S V r S' V') := j_callV n_NWk h.2.2.2.2.2 h.1 hM ⟨h.2.1.1, h.2.1.2, h.2.2.1, h.2.2.2.1, h.2.2.2.2.1⟩ ⟨n_CB (y := y_10_8) (bytes := b_10_8) 0 h.2.2.2.2.1 n_w396 n_w393 n_w7 ⟨by decide, by decide, by decide +kernel⟩ rfl rfl ⟨by rw [hrm.1]; exact Nat.le_of_ble_eq_true rfl, by rw [hrm.2]; exact Nat.le_of_ble_eq_true rfl⟩, h.2.2.2.2.1 _ n_w394, h.2.2.2.2.1 _ n_w395⟩ (Cn := RX8) (fun a S V hP => by obtain ⟨u0, rfl, e, -⟩ := hP; exact ⟨u0, _, 8, _, _, TX8, 3, rfl, rfl, by rw [e]; decide, by rw [e]; rfl, rfl⟩)
theorem K1_37_37 {C : qCx} {G : jG} {mc ms : Nat} {p : Int → Int → Int → jS → jH → Prop} {q : Int → Int → Int → jS → jH → jS → jH → Prop} (h : x1_37 C G) (hrm : C.2.2.2.1.frames = 6 ∧ C.2.2.2.1.locals = 145) (hM : M5_2 C.2.1 mc ms p q) : j_Call C b_1_37 n_KT G.1 G.2.1 4 (.invokevirtual 124) mc ms (fun a S V => ∃ u0 u1 u2 : Int, a = [(2, u0), (2, u1), (2, u2)] ∧ S.1 u0 = 24 ∧ p u0 u1 u2 S V) (fun a S V rs S' V' => ∃ u0 u1 u2 : Int, a = [(2, u0), (2, u1), (2, u2)] ∧ rs = [] ∧ q u0 u1 u2 S V S' V') := j_callV n_NWk h.2.2.2.2.2 h.1 hM ⟨h.2.1.1, h.2.1.2, h.2.2.1, h.2.2.2.1, h.2.2.2.2.1⟩ ⟨n_CB (y := y_5_2) (bytes := b_5_2) 2 h.2.2.2.2.1 n_w400 n_w397 n_w10 ⟨by decide, by decide, by decide +kernel⟩ rfl rfl ⟨by rw [hrm.1]; exact Nat.le_of_ble_eq_true rfl, by rw [hrm.2]; exact Nat.le_of_ble_eq_true rfl⟩, h.2.2.2.2.1 _ n_w398, h.2.2.2.2.1 _ n_w399⟩ (Cn := RX3) (fun a S V hP => by obtain ⟨u0, u1, u2, rfl, e, -⟩ := hP; exact ⟨u0, _, 3, _, _, TX3, 4, rfl, rfl, by rw [e]; decide, by rw [e]; rfl, rfl⟩)
theorem K1_37_52 {C : qCx} {G : jG} {mc ms : Nat} {p : Int → Int → Int → jS → jH → Prop} {q : Int → Int → Int → jS → jH → Int → jS → jH → Prop} (h : x1_37 C G) (hrm : C.2.2.2.1.frames = 6 ∧ C.2.2.2.1.locals = 145) (hM : M2_2 C.2.1 mc ms p q) : j_Call C b_1_37 n_KT G.1 G.2.1 4 (.invokevirtual 247) mc ms (fun a S V => ∃ u0 u1 u2 : Int, a = [(2, u0), (2, u1), (2, u2)] ∧ S.1 u0 = 21 ∧ p u0 u1 u2 S V) (fun a S V rs S' V' => ∃ u0 u1 u2 r : Int, a = [(2, u0), (2, u1), (2, u2)] ∧ rs = [(0, r)] ∧ q u0 u1 u2 S V r S' V') := j_callV n_NWk h.2.2.2.2.2 h.1 hM ⟨h.2.1.1, h.2.1.2, h.2.2.1, h.2.2.2.1, h.2.2.2.2.1⟩ ⟨n_CB (y := y_2_2) (bytes := b_2_2) 2 h.2.2.2.2.1 n_w507 n_w504 n_w6 ⟨by decide, by decide, by decide +kernel⟩ rfl rfl ⟨by rw [hrm.1]; exact Nat.le_of_ble_eq_true rfl, by rw [hrm.2]; exact Nat.le_of_ble_eq_true rfl⟩, h.2.2.2.2.1 _ n_w505, h.2.2.2.2.1 _ n_w506⟩ (Cn := RX0) (fun a S V hP => by obtain ⟨u0, u1, u2, rfl, e, -⟩ := hP; exact ⟨u0, _, 0, _, _, TX0, 6, rfl, rfl, by rw [e]; decide, by rw [e]; rfl, rfl⟩)
theorem t1_37_0 {C : qCx} {G : jG} {S : jS} {V : jH} {nc ns : Nat} {l0 l1 l2 l3 : Int} {mc ms : Nat} {pp : Int → Int → Int → jS → jH → Prop} {qq : Int → Int → Int → jS → jH → jS → jH → Prop} (h : x1_37 C G) (L : j_L S) (hrm : C.2.2.2.1.frames = 6 ∧ C.2.2.2.1.locals = 145) (c1 : S.1 l0 = 31) (hM : M10_2 C.2.1 mc ms pp qq) (hp : pp (l0 + 201) l1 l2 S V) (hc : nc + mc ≤ C.2.2.2.1.cells) (hs : ns + ms ≤ C.2.2.2.1.slots) (k : ∀ (S' : jS) (V' : jH), qq (l0 + 201) l1 l2 S V S' V' → j_ok n_KT 4 C G 12 [(0, (2, l0)), (3, (2, l3))] [] S' V' (nc + mc) (ns + ms)) : j_ok n_KT 4 C G 0 [(0, (2, l0)), (1, (0, l1)), (2, (0, l2)), (3, (2, l3))] [] S V nc ns := by
  have E := n_E h
  refine j_aload_n E d1_37_0 rfl 0 rfl ?_
  refine j_getS (f := 2) (x := l0 + 200) (fg10_22 h) d1_37_1 c1 (by decide) rfl rfl ((L10_2 L c1).trans (by omega)) ?_
  refine j_getS (f := 0) (x := l0 + 201) (fg10_201 h) d1_37_4 (show S.1 (l0 + 200) = 21 from (by have q := L10_2k L c1; rw [show l0 + 200 = l0 + 200 by omega]; exact q)) (by decide) rfl rfl ((L0_0 L (show S.1 (l0 + 200) = 21 from (by have q := L10_2k L c1; rw [show l0 + 200 = l0 + 200 by omega]; exact q))).trans (by omega)) ?_
  refine j_iload_n E d1_37_7 rfl 1 rfl ?_
  refine j_iload_n E d1_37_8 rfl 2 rfl ?_
  refine j_call E (K1_37_9 h hrm hM) d1_37_9 (a := [(2, l0 + 201), (0, l1), (0, l2)]) (sk := []) rfl ⟨l0 + 201, l1, l2, rfl, (show S.1 (l0 + 201) = 29 from (by have q := L0_0k L (show S.1 (l0 + 200) = 21 from (by have q := L10_2k L c1; rw [show l0 + 200 = l0 + 200 by omega]; exact q)); rw [show l0 + 201 = (l0 + 200) + 1 by omega]; exact q)), hp⟩ (Nat.le_of_ble_eq_true rfl) hc hs ?_
  rintro rs S' V' ⟨z0, z1, z2, e1, rfl, q⟩
  simp only [List.cons.injEq, Prod.mk.injEq, and_true, true_and] at e1
  obtain ⟨rfl, rfl, rfl⟩ := e1
  exact j_pick [0, 3] rfl (k S' V' q)
theorem t1_37_12 {C : qCx} {G : jG} {S : jS} {V : jH} {nc ns : Nat} {l0 l3 : Int} {mc ms : Nat} {pp : Int → jS → jH → Prop} {qq : Int → jS → jH → Int → jS → jH → Prop} (h : x1_37 C G) (L : j_L S) (hrm : C.2.2.2.1.frames = 6 ∧ C.2.2.2.1.locals = 145) (c1 : S.1 l0 = 31) (hM : M10_8 C.2.1 mc ms pp qq) (hp : pp (l0 + 201) S V) (hc : nc + mc ≤ C.2.2.2.1.cells) (hs : ns + ms ≤ C.2.2.2.1.slots) (k : ∀ (r : Int) (S' : jS) (V' : jH), qq (l0 + 201) S V r S' V' → j_ok n_KT 4 C G 22 [(0, (2, l0)), (3, (2, l3))] [(0, r)] S' V' (nc + mc) (ns + ms)) : j_ok n_KT 4 C G 12 [(0, (2, l0)), (3, (2, l3))] [] S V nc ns := by
  have E := n_E h
  refine j_aload_n E d1_37_12 rfl 0 rfl ?_
  refine j_getS (f := 2) (x := l0 + 200) (fg10_22 h) d1_37_13 c1 (by decide) rfl rfl ((L10_2 L c1).trans (by omega)) ?_
  refine j_getS (f := 0) (x := l0 + 201) (fg10_201 h) d1_37_16 (show S.1 (l0 + 200) = 21 from (by have q := L10_2k L c1; rw [show l0 + 200 = l0 + 200 by omega]; exact q)) (by decide) rfl rfl ((L0_0 L (show S.1 (l0 + 200) = 21 from (by have q := L10_2k L c1; rw [show l0 + 200 = l0 + 200 by omega]; exact q))).trans (by omega)) ?_
  refine j_call E (K1_37_19 h hrm hM) d1_37_19 (a := [(2, l0 + 201)]) (sk := []) rfl ⟨l0 + 201, rfl, (show S.1 (l0 + 201) = 29 from (by have q := L0_0k L (show S.1 (l0 + 200) = 21 from (by have q := L10_2k L c1; rw [show l0 + 200 = l0 + 200 by omega]; exact q)); rw [show l0 + 201 = (l0 + 200) + 1 by omega]; exact q)), hp⟩ (Nat.le_of_ble_eq_true rfl) hc hs ?_
  rintro rs S' V' ⟨z0, r, e1, rfl, q⟩
  simp only [List.cons.injEq, Prod.mk.injEq, and_true, true_and] at e1
  obtain ⟨rfl⟩ := e1
  exact j_pick [0, 1] rfl (k r S' V' q)
theorem t1_37_22 {C : qCx} {G : jG} {S : jS} {V : jH} {nc ns : Nat} {l0 l3 s0 : Int} (h : x1_37 C G)  (k : s0 = 0 → j_ok n_KT 4 C G 40 [(0, (2, l0)), (3, (2, l3))] [] S V nc ns) (k' : ¬ s0 = 0 → j_ok n_KT 4 C G 25 [(0, (2, l0)), (3, (2, l3))] [] S V nc ns) : j_ok n_KT 4 C G 22 [(0, (2, l0)), (3, (2, l3))] [(0, s0)] S V nc ns := by
  have E := n_E h
  exact j_if_eq E d1_37_22 (t := 40) rfl (fun q => j_pick [0, 1] rfl (k q)) (fun q => j_pick [0, 1] rfl (k' q))
theorem t1_37_25 {C : qCx} {G : jG} {S : jS} {V : jH} {nc ns : Nat} {l0 l3 : Int} {mc ms : Nat} {pp : Int → Int → Int → jS → jH → Prop} {qq : Int → Int → Int → jS → jH → jS → jH → Prop} (h : x1_37 C G) (L : j_L S) (hrm : C.2.2.2.1.frames = 6 ∧ C.2.2.2.1.locals = 145) (c1 : S.1 l0 = 31) (hM : M5_2 C.2.1 mc ms pp qq) (hp : pp (l0 + 230) (l0 + 201) l3 S V) (hc : nc + mc ≤ C.2.2.2.1.cells) (hs : ns + ms ≤ C.2.2.2.1.slots) (k : ∀ (S' : jS) (V' : jH), qq (l0 + 230) (l0 + 201) l3 S V S' V' → j_ok n_KT 4 C G 40 [(0, (2, l0)), (3, (2, l3))] [] S' V' (nc + mc) (ns + ms)) : j_ok n_KT 4 C G 25 [(0, (2, l0)), (3, (2, l3))] [] S V nc ns := by
  have E := n_E h
  refine j_aload_n E d1_37_25 rfl 0 rfl ?_
  refine j_getS (f := 3) (x := l0 + 230) (fg10_29 h) d1_37_26 c1 (by decide) rfl rfl ((L10_3 L c1).trans (by omega)) ?_
  refine j_aload_n E d1_37_29 rfl 0 rfl ?_
  refine j_getS (f := 2) (x := l0 + 200) (fg10_22 h) d1_37_30 c1 (by decide) rfl rfl ((L10_2 L c1).trans (by omega)) ?_
  refine j_getS (f := 0) (x := l0 + 201) (fg10_201 h) d1_37_33 (show S.1 (l0 + 200) = 21 from (by have q := L10_2k L c1; rw [show l0 + 200 = l0 + 200 by omega]; exact q)) (by decide) rfl rfl ((L0_0 L (show S.1 (l0 + 200) = 21 from (by have q := L10_2k L c1; rw [show l0 + 200 = l0 + 200 by omega]; exact q))).trans (by omega)) ?_
  refine j_aload_n E d1_37_36 rfl 1 rfl ?_
  refine j_call E (K1_37_37 h hrm hM) d1_37_37 (a := [(2, l0 + 230), (2, l0 + 201), (2, l3)]) (sk := []) rfl ⟨l0 + 230, l0 + 201, l3, rfl, (show S.1 (l0 + 230) = 24 from (by have q := L10_3k L c1; rw [show l0 + 230 = l0 + 230 by omega]; exact q)), hp⟩ (Nat.le_of_ble_eq_true rfl) hc hs ?_
  rintro rs S' V' ⟨z0, z1, z2, e1, rfl, q⟩
  simp only [List.cons.injEq, Prod.mk.injEq, and_true, true_and] at e1
  obtain ⟨rfl, rfl, rfl⟩ := e1
  exact j_pick [0, 1] rfl (k S' V' q)
theorem t1_37_40 {C : qCx} {G : jG} {S : jS} {V : jH} {nc ns : Nat} {l0 l3 : Int} {mc ms : Nat} {pp : Int → Int → Int → jS → jH → Prop} {qq : Int → Int → Int → jS → jH → Int → jS → jH → Prop} (h : x1_37 C G) (L : j_L S) (hrm : C.2.2.2.1.frames = 6 ∧ C.2.2.2.1.locals = 145) (c1 : S.1 l0 = 31) (hM : M2_2 C.2.1 mc ms pp qq) (hp : pp (l0 + 200) (l0 + 201) l3 S V) (hc : nc + mc ≤ C.2.2.2.1.cells) (hs : ns + ms ≤ C.2.2.2.1.slots) (k : ∀ (r : Int) (S' : jS) (V' : jH), qq (l0 + 200) (l0 + 201) l3 S V r S' V' → j_ok n_KT 4 C G 55 [] [(0, r)] S' V' (nc + mc) (ns + ms)) : j_ok n_KT 4 C G 40 [(0, (2, l0)), (3, (2, l3))] [] S V nc ns := by
  have E := n_E h
  refine j_aload_n E d1_37_40 rfl 0 rfl ?_
  refine j_getS (f := 2) (x := l0 + 200) (fg10_22 h) d1_37_41 c1 (by decide) rfl rfl ((L10_2 L c1).trans (by omega)) ?_
  refine j_aload_n E d1_37_44 rfl 0 rfl ?_
  refine j_getS (f := 2) (x := l0 + 200) (fg10_22 h) d1_37_45 c1 (by decide) rfl rfl ((L10_2 L c1).trans (by omega)) ?_
  refine j_getS (f := 0) (x := l0 + 201) (fg10_201 h) d1_37_48 (show S.1 (l0 + 200) = 21 from (by have q := L10_2k L c1; rw [show l0 + 200 = l0 + 200 by omega]; exact q)) (by decide) rfl rfl ((L0_0 L (show S.1 (l0 + 200) = 21 from (by have q := L10_2k L c1; rw [show l0 + 200 = l0 + 200 by omega]; exact q))).trans (by omega)) ?_
  refine j_aload_n E d1_37_51 rfl 1 rfl ?_
  refine j_call E (K1_37_52 h hrm hM) d1_37_52 (a := [(2, l0 + 200), (2, l0 + 201), (2, l3)]) (sk := []) rfl ⟨l0 + 200, l0 + 201, l3, rfl, (show S.1 (l0 + 200) = 21 from (by have q := L10_2k L c1; rw [show l0 + 200 = l0 + 200 by omega]; exact q)), hp⟩ (Nat.le_of_ble_eq_true rfl) hc hs ?_
  rintro rs S' V' ⟨z0, z1, z2, r, e1, rfl, q⟩
  simp only [List.cons.injEq, Prod.mk.injEq, and_true, true_and] at e1
  obtain ⟨rfl, rfl, rfl⟩ := e1
  exact j_pick [] rfl (k r S' V' q)
theorem t1_37_55 {C : qCx} {G : jG} {S : jS} {V : jH} {nc ns : Nat} {s0 : Int} {mc ms : Nat} {qf : jS → jH → Prop} (h : x1_37 C G)  (R : j_Rv n_KT 4 C G b_1_37 mc ms qf) (q : qf S V) (hc : nc ≤ mc) (hs : ns ≤ ms) : j_ok n_KT 4 C G 55 [] [(0, s0)] S V nc ns := by
  have E := n_E h
  refine j_pop E d1_37_55 rfl ?_
  exact R _ _ _ _ _ _ d1_37_56 q hc hs
/- BalanceCoder.shortestWay(LBalanceCoder$Row;)I -/
abbrev b_1_36 : ByteArray := prog_1_method_36_code
def y_1_36 : MethodName := ⟨"BalanceCoder", "shortestWay", "(LBalanceCoder$Row;)I"⟩
abbrev x1_36 (C : qCx) (G : jG) : Prop := n_ctx C b_1_36 9 "BalanceCoder" G.1 G.2.1
def M1_36 (l : Launch) (mc ms : Nat) (p : Int → Int → jS → jH → Prop) (q : Int → Int → jS → jH → Int → jS → jH → Prop) : Prop := j_Met l vwCl n_TL n_NW n_KT y_1_36 (Cond.code y_1_36 b_1_36 9 (some .int) :: n_GW) { frames := 7, cells := mc, slots := ms, locals := 168 } mc ms (fun a S V => ∃ u0 u1 : Int, a = [(2, u0), (2, u1)] ∧ S.1 u0 = 31 ∧ p u0 u1 S V) (fun a S V rs S' V' => ∃ u0 u1 r : Int, a = [(2, u0), (2, u1)] ∧ rs = [(0, r)] ∧ q u0 u1 S V r S' V')
theorem e1_36 {l : Launch} {mc ms : Nat} {p : Int → Int → jS → jH → Prop} {q : Int → Int → jS → jH → Int → jS → jH → Prop} (body : ∀ (C : qCx) (G : jG), x1_36 C G → C.2.2.2.1.frames = 7 ∧ C.2.2.2.1.locals = 168 → C.2.2.2.1.cells = mc ∧ C.2.2.2.1.slots = ms → C.2.1 = l → C.2.2.2.2.2.2.2.2.1.name = "shortestWay" → ∀ (u0 u1 : Int) (S : jS) (V : jH), S.1 u0 = 31 → p u0 u1 S V → j_Ri n_KT 9 C G b_1_36 mc ms (q u0 u1 S V) → j_ok n_KT 9 C G 0 [(0, (2, u0)), (1, (2, u1))] [] S V 0 0) : M1_36 l mc ms p q := by
  refine j_method (ws' := n_GW) (by decide) rfl ?_ ?_
  · rintro a S V ⟨u0, u1, rfl, -⟩
    exact Nat.le_of_ble_eq_true rfl
  · rintro C G htl hl hrm hm hml ho hts hnm hE a S V ⟨u0, u1, rfl, ht, hp⟩ R
    exact body C G ⟨htl, hm, hml, ho, fun w hw => hts w (List.mem_cons_of_mem _ hw), hE⟩ (by rw [hrm]; exact ⟨rfl, rfl⟩) (by rw [hrm]; exact ⟨rfl, rfl⟩) hl hnm u0 u1 S V ht hp (fun pc lo r S' V' nc ns d q hc hs => R.2.1 rfl pc lo r S' V' nc ns d ⟨u0, u1, r, rfl, rfl, q⟩ hc hs)
theorem d1_36_0 : decode b_1_36 0 = .ok (.iconst 0, 1) := by decide +kernel
theorem d1_36_1 : decode b_1_36 1 = .ok (.istore_n 2, 1) := by decide +kernel
theorem d1_36_2 : decode b_1_36 2 = .ok (.sipush 4401, 3) := by decide +kernel
theorem d1_36_5 : decode b_1_36 5 = .ok (.istore_n 3, 1) := by decide +kernel
theorem d1_36_6 : decode b_1_36 6 = .ok (.iconst 1, 1) := by decide +kernel
theorem d1_36_7 : decode b_1_36 7 = .ok (.istore 4, 2) := by decide +kernel
theorem d1_36_9 : decode b_1_36 9 = .ok (.iload 4, 2) := by decide +kernel
theorem d1_36_11 : decode b_1_36 11 = .ok (.iconst 4, 1) := by decide +kernel
theorem d1_36_12 : decode b_1_36 12 = .ok (.if_icmp .gt 113, 3) := by decide +kernel
theorem d1_36_15 : decode b_1_36 15 = .ok (.bipush 8, 2) := by decide +kernel
theorem d1_36_17 : decode b_1_36 17 = .ok (.istore 5, 2) := by decide +kernel
theorem d1_36_19 : decode b_1_36 19 = .ok (.iload 5, 2) := by decide +kernel
theorem d1_36_21 : decode b_1_36 21 = .ok (.bipush 12, 2) := by decide +kernel
theorem d1_36_23 : decode b_1_36 23 = .ok (.if_icmp .gt 96, 3) := by decide +kernel
theorem d1_36_26 : decode b_1_36 26 = .ok (.aload_n 0, 1) := by decide +kernel
theorem d1_36_27 : decode b_1_36 27 = .ok (.iload 4, 2) := by decide +kernel
theorem d1_36_29 : decode b_1_36 29 = .ok (.iload 5, 2) := by decide +kernel
theorem d1_36_31 : decode b_1_36 31 = .ok (.aload_n 1, 1) := by decide +kernel
theorem d1_36_32 : decode b_1_36 32 = .ok (.invokevirtual 194, 3) := by decide +kernel
theorem d1_36_35 : decode b_1_36 35 = .ok (.aload_n 0, 1) := by decide +kernel
theorem d1_36_36 : decode b_1_36 36 = .ok (.getfield 22, 3) := by decide +kernel
theorem d1_36_39 : decode b_1_36 39 = .ok (.getfield 201, 3) := by decide +kernel
theorem d1_36_42 : decode b_1_36 42 = .ok (.invokevirtual 251, 3) := by decide +kernel
theorem d1_36_45 : decode b_1_36 45 = .ok (.istore 6, 2) := by decide +kernel
theorem d1_36_47 : decode b_1_36 47 = .ok (.iconst 1, 1) := by decide +kernel
theorem d1_36_48 : decode b_1_36 48 = .ok (.istore 7, 2) := by decide +kernel
theorem d1_36_50 : decode b_1_36 50 = .ok (.iload 7, 2) := by decide +kernel
theorem d1_36_52 : decode b_1_36 52 = .ok (.iconst 4, 1) := by decide +kernel
theorem d1_36_53 : decode b_1_36 53 = .ok (.if_icmp .gt 60, 3) := by decide +kernel
theorem d1_36_56 : decode b_1_36 56 = .ok (.aload_n 0, 1) := by decide +kernel
theorem d1_36_57 : decode b_1_36 57 = .ok (.getfield 22, 3) := by decide +kernel
theorem d1_36_60 : decode b_1_36 60 = .ok (.iconst 1, 1) := by decide +kernel
theorem d1_36_61 : decode b_1_36 61 = .ok (.iload 5, 2) := by decide +kernel
theorem d1_36_63 : decode b_1_36 63 = .ok (.ishl, 1) := by decide +kernel
theorem d1_36_64 : decode b_1_36 64 = .ok (.iload 7, 2) := by decide +kernel
theorem d1_36_66 : decode b_1_36 66 = .ok (.invokevirtual 198, 3) := by decide +kernel
theorem d1_36_69 : decode b_1_36 69 = .ok (.aload_n 0, 1) := by decide +kernel
theorem d1_36_70 : decode b_1_36 70 = .ok (.getfield 22, 3) := by decide +kernel
theorem d1_36_73 : decode b_1_36 73 = .ok (.iload 6, 2) := by decide +kernel
theorem d1_36_75 : decode b_1_36 75 = .ok (.iload 7, 2) := by decide +kernel
theorem d1_36_77 : decode b_1_36 77 = .ok (.invokevirtual 254, 3) := by decide +kernel
theorem d1_36_80 : decode b_1_36 80 = .ok (.istore 8, 2) := by decide +kernel
theorem d1_36_82 : decode b_1_36 82 = .ok (.iload 8, 2) := by decide +kernel
theorem d1_36_84 : decode b_1_36 84 = .ok (.iload_n 3, 1) := by decide +kernel
theorem d1_36_85 : decode b_1_36 85 = .ok (.if_icmp .ge 22, 3) := by decide +kernel
theorem d1_36_88 : decode b_1_36 88 = .ok (.iload 8, 2) := by decide +kernel
theorem d1_36_90 : decode b_1_36 90 = .ok (.istore_n 3, 1) := by decide +kernel
theorem d1_36_91 : decode b_1_36 91 = .ok (.sipush 1000, 3) := by decide +kernel
theorem d1_36_94 : decode b_1_36 94 = .ok (.iload 4, 2) := by decide +kernel
theorem d1_36_96 : decode b_1_36 96 = .ok (.imul, 1) := by decide +kernel
theorem d1_36_97 : decode b_1_36 97 = .ok (.bipush 10, 2) := by decide +kernel
theorem d1_36_99 : decode b_1_36 99 = .ok (.iload 5, 2) := by decide +kernel
theorem d1_36_101 : decode b_1_36 101 = .ok (.imul, 1) := by decide +kernel
theorem d1_36_102 : decode b_1_36 102 = .ok (.iadd, 1) := by decide +kernel
theorem d1_36_103 : decode b_1_36 103 = .ok (.iload 7, 2) := by decide +kernel
theorem d1_36_105 : decode b_1_36 105 = .ok (.iadd, 1) := by decide +kernel
theorem d1_36_106 : decode b_1_36 106 = .ok (.istore_n 2, 1) := by decide +kernel
theorem d1_36_107 : decode b_1_36 107 = .ok (.iinc 7 1, 3) := by decide +kernel
theorem d1_36_110 : decode b_1_36 110 = .ok (.goto (-60), 3) := by decide +kernel
theorem d1_36_113 : decode b_1_36 113 = .ok (.iinc 5 1, 3) := by decide +kernel
theorem d1_36_116 : decode b_1_36 116 = .ok (.goto (-97), 3) := by decide +kernel
theorem d1_36_119 : decode b_1_36 119 = .ok (.iinc 4 1, 3) := by decide +kernel
theorem d1_36_122 : decode b_1_36 122 = .ok (.goto (-113), 3) := by decide +kernel
theorem d1_36_125 : decode b_1_36 125 = .ok (.iload_n 2, 1) := by decide +kernel
theorem d1_36_126 : decode b_1_36 126 = .ok (.ireturn, 1) := by decide +kernel
theorem K1_36_32 {C : qCx} {G : jG} {mc ms : Nat} {p : Int → Int → Int → Int → jS → jH → Prop} {q : Int → Int → Int → Int → jS → jH → jS → jH → Prop} (h : x1_36 C G) (hrm : C.2.2.2.1.frames = 7 ∧ C.2.2.2.1.locals = 168) (hM : M1_37 C.2.1 mc ms p q) : j_Call C b_1_36 n_KT G.1 G.2.1 9 (.invokevirtual 194) mc ms (fun a S V => ∃ u0 u1 u2 u3 : Int, a = [(2, u0), (0, u1), (0, u2), (2, u3)] ∧ S.1 u0 = 31 ∧ p u0 u1 u2 u3 S V) (fun a S V rs S' V' => ∃ u0 u1 u2 u3 : Int, a = [(2, u0), (0, u1), (0, u2), (2, u3)] ∧ rs = [] ∧ q u0 u1 u2 u3 S V S' V') := j_callV n_NWk h.2.2.2.2.2 h.1 hM ⟨h.2.1.1, h.2.1.2, h.2.2.1, h.2.2.2.1, h.2.2.2.2.1⟩ ⟨n_CB (y := y_1_37) (bytes := b_1_37) 3 h.2.2.2.2.1 n_w688 n_w685 n_w1 ⟨by decide, by decide, by decide +kernel⟩ rfl rfl ⟨by rw [hrm.1]; exact Nat.le_of_ble_eq_true rfl, by rw [hrm.2]; exact Nat.le_of_ble_eq_true rfl⟩, h.2.2.2.2.1 _ n_w687, h.2.2.2.2.1 _ n_s26⟩ (Cn := RX10) (fun a S V hP => by obtain ⟨u0, u1, u2, u3, rfl, e, -⟩ := hP; exact ⟨u0, _, 10, _, _, TX10, 8, rfl, rfl, by rw [e]; decide, by rw [e]; rfl, rfl⟩)
theorem K1_36_42 {C : qCx} {G : jG} {mc ms : Nat} {p : Int → jS → jH → Prop} {q : Int → jS → jH → Int → jS → jH → Prop} (h : x1_36 C G) (hrm : C.2.2.2.1.frames = 7 ∧ C.2.2.2.1.locals = 168) (hM : M10_11 C.2.1 mc ms p q) : j_Call C b_1_36 n_KT G.1 G.2.1 9 (.invokevirtual 251) mc ms (fun a S V => ∃ u0 : Int, a = [(2, u0)] ∧ S.1 u0 = 29 ∧ p u0 S V) (fun a S V rs S' V' => ∃ u0 r : Int, a = [(2, u0)] ∧ rs = [(0, r)] ∧ q u0 S V r S' V') := j_callV n_NWk h.2.2.2.2.2 h.1 hM ⟨h.2.1.1, h.2.1.2, h.2.2.1, h.2.2.2.1, h.2.2.2.2.1⟩ ⟨n_CB (y := y_10_11) (bytes := b_10_11) 0 h.2.2.2.2.1 n_w548 n_w545 n_w7 ⟨by decide, by decide, by decide +kernel⟩ rfl rfl ⟨by rw [hrm.1]; exact Nat.le_of_ble_eq_true rfl, by rw [hrm.2]; exact Nat.le_of_ble_eq_true rfl⟩, h.2.2.2.2.1 _ n_w546, h.2.2.2.2.1 _ n_w547⟩ (Cn := RX8) (fun a S V hP => by obtain ⟨u0, rfl, e, -⟩ := hP; exact ⟨u0, _, 8, _, _, TX8, 3, rfl, rfl, by rw [e]; decide, by rw [e]; rfl, rfl⟩)
theorem K1_36_66 {C : qCx} {G : jG} {mc ms : Nat} {p : Int → Int → Int → jS → jH → Prop} {q : Int → Int → Int → jS → jH → jS → jH → Prop} (h : x1_36 C G) (hrm : C.2.2.2.1.frames = 7 ∧ C.2.2.2.1.locals = 168) (hM : M2_4 C.2.1 mc ms p q) : j_Call C b_1_36 n_KT G.1 G.2.1 9 (.invokevirtual 198) mc ms (fun a S V => ∃ u0 u1 u2 : Int, a = [(2, u0), (0, u1), (0, u2)] ∧ S.1 u0 = 21 ∧ p u0 u1 u2 S V) (fun a S V rs S' V' => ∃ u0 u1 u2 : Int, a = [(2, u0), (0, u1), (0, u2)] ∧ rs = [] ∧ q u0 u1 u2 S V S' V') := j_callV n_NWk h.2.2.2.2.2 h.1 hM ⟨h.2.1.1, h.2.1.2, h.2.2.1, h.2.2.2.1, h.2.2.2.2.1⟩ ⟨n_CB (y := y_2_4) (bytes := b_2_4) 2 h.2.2.2.2.1 n_w539 n_w536 n_w6 ⟨by decide, by decide, by decide +kernel⟩ rfl rfl ⟨by rw [hrm.1]; exact Nat.le_of_ble_eq_true rfl, by rw [hrm.2]; exact Nat.le_of_ble_eq_true rfl⟩, h.2.2.2.2.1 _ n_w537, h.2.2.2.2.1 _ n_w538⟩ (Cn := RX0) (fun a S V hP => by obtain ⟨u0, u1, u2, rfl, e, -⟩ := hP; exact ⟨u0, _, 0, _, _, TX0, 6, rfl, rfl, by rw [e]; decide, by rw [e]; rfl, rfl⟩)
theorem K1_36_77 {C : qCx} {G : jG} {mc ms : Nat} {p : Int → Int → Int → jS → jH → Prop} {q : Int → Int → Int → jS → jH → Int → jS → jH → Prop} (h : x1_36 C G) (hrm : C.2.2.2.1.frames = 7 ∧ C.2.2.2.1.locals = 168) (hM : M2_6 C.2.1 mc ms p q) : j_Call C b_1_36 n_KT G.1 G.2.1 9 (.invokevirtual 254) mc ms (fun a S V => ∃ u0 u1 u2 : Int, a = [(2, u0), (0, u1), (0, u2)] ∧ S.1 u0 = 21 ∧ p u0 u1 u2 S V) (fun a S V rs S' V' => ∃ u0 u1 u2 r : Int, a = [(2, u0), (0, u1), (0, u2)] ∧ rs = [(0, r)] ∧ q u0 u1 u2 S V r S' V') := j_callV n_NWk h.2.2.2.2.2 h.1 hM ⟨h.2.1.1, h.2.1.2, h.2.2.1, h.2.2.2.1, h.2.2.2.2.1⟩ ⟨n_CB (y := y_2_6) (bytes := b_2_6) 2 h.2.2.2.2.1 n_w560 n_w557 n_w6 ⟨by decide, by decide, by decide +kernel⟩ rfl rfl ⟨by rw [hrm.1]; exact Nat.le_of_ble_eq_true rfl, by rw [hrm.2]; exact Nat.le_of_ble_eq_true rfl⟩, h.2.2.2.2.1 _ n_w558, h.2.2.2.2.1 _ n_w559⟩ (Cn := RX0) (fun a S V hP => by obtain ⟨u0, u1, u2, rfl, e, -⟩ := hP; exact ⟨u0, _, 0, _, _, TX0, 6, rfl, rfl, by rw [e]; decide, by rw [e]; rfl, rfl⟩)
theorem t1_36_0 {C : qCx} {G : jG} {S : jS} {V : jH} {nc ns : Nat} {l0 l1 : Int} (h : x1_36 C G)  (k : j_ok n_KT 9 C G 9 [(0, (2, l0)), (1, (2, l1)), (2, (0, 0)), (3, (0, 4401)), (4, (0, 1))] [] S V nc ns) : j_ok n_KT 9 C G 0 [(0, (2, l0)), (1, (2, l1))] [] S V nc ns := by
  have E := n_E h
  refine j_iconst E d1_36_0 (by decide) ?_
  refine j_istore_n E d1_36_1 rfl (by decide) (lo1 := [(0, (2, l0)), (1, (2, l1))]) rfl ?_
  refine j_sipush E d1_36_2 (by decide) ?_
  refine j_istore_n E d1_36_5 rfl (by decide) (lo1 := [(2, (0, 0)), (0, (2, l0)), (1, (2, l1))]) rfl ?_
  refine j_iconst E d1_36_6 (by decide) ?_
  refine j_istore E d1_36_7 (by decide) (lo1 := [(3, (0, 4401)), (2, (0, 0)), (0, (2, l0)), (1, (2, l1))]) rfl ?_
  exact j_pick [3, 4, 2, 1, 0] rfl k
theorem t1_36_9 {C : qCx} {G : jG} {S : jS} {V : jH} {nc ns : Nat} {l0 l1 l2 l3 l4 : Int} (h : x1_36 C G)  (k : 4 < l4 → j_ok n_KT 9 C G 125 [(2, (0, l2))] [] S V nc ns) (k' : l4 ≤ 4 → j_ok n_KT 9 C G 15 [(0, (2, l0)), (1, (2, l1)), (2, (0, l2)), (3, (0, l3)), (4, (0, l4))] [] S V nc ns) : j_ok n_KT 9 C G 9 [(0, (2, l0)), (1, (2, l1)), (2, (0, l2)), (3, (0, l3)), (4, (0, l4))] [] S V nc ns := by
  have E := n_E h
  refine j_iload E d1_36_9 4 rfl ?_
  refine j_iconst E d1_36_11 (by decide) ?_
  exact j_icmp_gt E d1_36_12 (t := 125) rfl (fun q => j_pick [2] rfl (k q)) (fun q => j_pick [0, 1, 2, 3, 4] rfl (k' q))
theorem t1_36_15 {C : qCx} {G : jG} {S : jS} {V : jH} {nc ns : Nat} {l0 l1 l2 l3 l4 : Int} (h : x1_36 C G)  (k : j_ok n_KT 9 C G 19 [(0, (2, l0)), (1, (2, l1)), (2, (0, l2)), (3, (0, l3)), (4, (0, l4)), (5, (0, 8))] [] S V nc ns) : j_ok n_KT 9 C G 15 [(0, (2, l0)), (1, (2, l1)), (2, (0, l2)), (3, (0, l3)), (4, (0, l4))] [] S V nc ns := by
  have E := n_E h
  refine j_bipush E d1_36_15 (by decide) ?_
  refine j_istore E d1_36_17 (by decide) (lo1 := [(0, (2, l0)), (1, (2, l1)), (2, (0, l2)), (3, (0, l3)), (4, (0, l4))]) rfl ?_
  exact j_pick [1, 2, 3, 4, 5, 0] rfl k
theorem t1_36_19 {C : qCx} {G : jG} {S : jS} {V : jH} {nc ns : Nat} {l0 l1 l2 l3 l4 l5 : Int} (h : x1_36 C G)  (k : 12 < l5 → j_ok n_KT 9 C G 119 [(0, (2, l0)), (1, (2, l1)), (2, (0, l2)), (3, (0, l3)), (4, (0, l4))] [] S V nc ns) (k' : l5 ≤ 12 → j_ok n_KT 9 C G 26 [(0, (2, l0)), (1, (2, l1)), (2, (0, l2)), (3, (0, l3)), (4, (0, l4)), (5, (0, l5))] [] S V nc ns) : j_ok n_KT 9 C G 19 [(0, (2, l0)), (1, (2, l1)), (2, (0, l2)), (3, (0, l3)), (4, (0, l4)), (5, (0, l5))] [] S V nc ns := by
  have E := n_E h
  refine j_iload E d1_36_19 5 rfl ?_
  refine j_bipush E d1_36_21 (by decide) ?_
  exact j_icmp_gt E d1_36_23 (t := 119) rfl (fun q => j_pick [0, 1, 2, 3, 4] rfl (k q)) (fun q => j_pick [0, 1, 2, 3, 4, 5] rfl (k' q))
theorem t1_36_26 {C : qCx} {G : jG} {S : jS} {V : jH} {nc ns : Nat} {l0 l1 l2 l3 l4 l5 : Int} {mc ms : Nat} {pp : Int → Int → Int → Int → jS → jH → Prop} {qq : Int → Int → Int → Int → jS → jH → jS → jH → Prop} (h : x1_36 C G) (hrm : C.2.2.2.1.frames = 7 ∧ C.2.2.2.1.locals = 168) (c1 : S.1 l0 = 31) (hM : M1_37 C.2.1 mc ms pp qq) (hp : pp l0 l4 l5 l1 S V) (hc : nc + mc ≤ C.2.2.2.1.cells) (hs : ns + ms ≤ C.2.2.2.1.slots) (k : ∀ (S' : jS) (V' : jH), qq l0 l4 l5 l1 S V S' V' → j_ok n_KT 9 C G 35 [(0, (2, l0)), (1, (2, l1)), (2, (0, l2)), (3, (0, l3)), (4, (0, l4)), (5, (0, l5))] [] S' V' (nc + mc) (ns + ms)) : j_ok n_KT 9 C G 26 [(0, (2, l0)), (1, (2, l1)), (2, (0, l2)), (3, (0, l3)), (4, (0, l4)), (5, (0, l5))] [] S V nc ns := by
  have E := n_E h
  refine j_aload_n E d1_36_26 rfl 0 rfl ?_
  refine j_iload E d1_36_27 4 rfl ?_
  refine j_iload E d1_36_29 5 rfl ?_
  refine j_aload_n E d1_36_31 rfl 1 rfl ?_
  refine j_call E (K1_36_32 h hrm hM) d1_36_32 (a := [(2, l0), (0, l4), (0, l5), (2, l1)]) (sk := []) rfl ⟨l0, l4, l5, l1, rfl, c1, hp⟩ (Nat.le_of_ble_eq_true rfl) hc hs ?_
  rintro rs S' V' ⟨z0, z1, z2, z3, e1, rfl, q⟩
  simp only [List.cons.injEq, Prod.mk.injEq, and_true, true_and] at e1
  obtain ⟨rfl, rfl, rfl, rfl⟩ := e1
  exact j_pick [0, 1, 2, 3, 4, 5] rfl (k S' V' q)
theorem t1_36_35 {C : qCx} {G : jG} {S : jS} {V : jH} {nc ns : Nat} {l0 l1 l2 l3 l4 l5 : Int} {mc ms : Nat} {pp : Int → jS → jH → Prop} {qq : Int → jS → jH → Int → jS → jH → Prop} (h : x1_36 C G) (L : j_L S) (hrm : C.2.2.2.1.frames = 7 ∧ C.2.2.2.1.locals = 168) (c1 : S.1 l0 = 31) (hM : M10_11 C.2.1 mc ms pp qq) (hp : pp (l0 + 201) S V) (hc : nc + mc ≤ C.2.2.2.1.cells) (hs : ns + ms ≤ C.2.2.2.1.slots) (k : ∀ (r : Int) (S' : jS) (V' : jH), qq (l0 + 201) S V r S' V' → j_ok n_KT 9 C G 45 [(0, (2, l0)), (1, (2, l1)), (2, (0, l2)), (3, (0, l3)), (4, (0, l4)), (5, (0, l5))] [(0, r)] S' V' (nc + mc) (ns + ms)) : j_ok n_KT 9 C G 35 [(0, (2, l0)), (1, (2, l1)), (2, (0, l2)), (3, (0, l3)), (4, (0, l4)), (5, (0, l5))] [] S V nc ns := by
  have E := n_E h
  refine j_aload_n E d1_36_35 rfl 0 rfl ?_
  refine j_getS (f := 2) (x := l0 + 200) (fg10_22 h) d1_36_36 c1 (by decide) rfl rfl ((L10_2 L c1).trans (by omega)) ?_
  refine j_getS (f := 0) (x := l0 + 201) (fg10_201 h) d1_36_39 (show S.1 (l0 + 200) = 21 from (by have q := L10_2k L c1; rw [show l0 + 200 = l0 + 200 by omega]; exact q)) (by decide) rfl rfl ((L0_0 L (show S.1 (l0 + 200) = 21 from (by have q := L10_2k L c1; rw [show l0 + 200 = l0 + 200 by omega]; exact q))).trans (by omega)) ?_
  refine j_call E (K1_36_42 h hrm hM) d1_36_42 (a := [(2, l0 + 201)]) (sk := []) rfl ⟨l0 + 201, rfl, (show S.1 (l0 + 201) = 29 from (by have q := L0_0k L (show S.1 (l0 + 200) = 21 from (by have q := L10_2k L c1; rw [show l0 + 200 = l0 + 200 by omega]; exact q)); rw [show l0 + 201 = (l0 + 200) + 1 by omega]; exact q)), hp⟩ (Nat.le_of_ble_eq_true rfl) hc hs ?_
  rintro rs S' V' ⟨z0, r, e1, rfl, q⟩
  simp only [List.cons.injEq, Prod.mk.injEq, and_true, true_and] at e1
  obtain ⟨rfl⟩ := e1
  exact j_pick [0, 1, 2, 3, 4, 5] rfl (k r S' V' q)
theorem t1_36_45 {C : qCx} {G : jG} {S : jS} {V : jH} {nc ns : Nat} {l0 l1 l2 l3 l4 l5 s0 : Int} (h : x1_36 C G)  (k : j_ok n_KT 9 C G 50 [(0, (2, l0)), (1, (2, l1)), (2, (0, l2)), (3, (0, l3)), (4, (0, l4)), (5, (0, l5)), (6, (0, s0)), (7, (0, 1))] [] S V nc ns) : j_ok n_KT 9 C G 45 [(0, (2, l0)), (1, (2, l1)), (2, (0, l2)), (3, (0, l3)), (4, (0, l4)), (5, (0, l5))] [(0, s0)] S V nc ns := by
  have E := n_E h
  refine j_istore E d1_36_45 (by decide) (lo1 := [(0, (2, l0)), (1, (2, l1)), (2, (0, l2)), (3, (0, l3)), (4, (0, l4)), (5, (0, l5))]) rfl ?_
  refine j_iconst E d1_36_47 (by decide) ?_
  refine j_istore E d1_36_48 (by decide) (lo1 := [(6, (0, s0)), (0, (2, l0)), (1, (2, l1)), (2, (0, l2)), (3, (0, l3)), (4, (0, l4)), (5, (0, l5))]) rfl ?_
  exact j_pick [2, 3, 4, 5, 6, 7, 1, 0] rfl k
theorem t1_36_50 {C : qCx} {G : jG} {S : jS} {V : jH} {nc ns : Nat} {l0 l1 l2 l3 l4 l5 l6 l7 : Int} (h : x1_36 C G)  (k : 4 < l7 → j_ok n_KT 9 C G 113 [(0, (2, l0)), (1, (2, l1)), (2, (0, l2)), (3, (0, l3)), (4, (0, l4)), (5, (0, l5))] [] S V nc ns) (k' : l7 ≤ 4 → j_ok n_KT 9 C G 56 [(0, (2, l0)), (1, (2, l1)), (2, (0, l2)), (3, (0, l3)), (4, (0, l4)), (5, (0, l5)), (6, (0, l6)), (7, (0, l7))] [] S V nc ns) : j_ok n_KT 9 C G 50 [(0, (2, l0)), (1, (2, l1)), (2, (0, l2)), (3, (0, l3)), (4, (0, l4)), (5, (0, l5)), (6, (0, l6)), (7, (0, l7))] [] S V nc ns := by
  have E := n_E h
  refine j_iload E d1_36_50 7 rfl ?_
  refine j_iconst E d1_36_52 (by decide) ?_
  exact j_icmp_gt E d1_36_53 (t := 113) rfl (fun q => j_pick [0, 1, 2, 3, 4, 5] rfl (k q)) (fun q => j_pick [0, 1, 2, 3, 4, 5, 6, 7] rfl (k' q))
theorem t1_36_56 {C : qCx} {G : jG} {S : jS} {V : jH} {nc ns : Nat} {l0 l1 l2 l3 l4 l5 l6 l7 : Int} {mc ms : Nat} {pp : Int → Int → Int → jS → jH → Prop} {qq : Int → Int → Int → jS → jH → jS → jH → Prop} (h : x1_36 C G) (L : j_L S) (hrm : C.2.2.2.1.frames = 7 ∧ C.2.2.2.1.locals = 168) (c1 : S.1 l0 = 31) (c2 : 0 ≤ l5) (c3 : l5 ≤ 30) (hM : M2_4 C.2.1 mc ms pp qq) (hp : pp (l0 + 200) (2 ^ (l5).toNat) l7 S V) (hc : nc + mc ≤ C.2.2.2.1.cells) (hs : ns + ms ≤ C.2.2.2.1.slots) (k : ∀ (S' : jS) (V' : jH), qq (l0 + 200) (2 ^ (l5).toNat) l7 S V S' V' → j_ok n_KT 9 C G 69 [(0, (2, l0)), (1, (2, l1)), (2, (0, l2)), (3, (0, l3)), (4, (0, l4)), (5, (0, l5)), (6, (0, l6)), (7, (0, l7))] [] S' V' (nc + mc) (ns + ms)) : j_ok n_KT 9 C G 56 [(0, (2, l0)), (1, (2, l1)), (2, (0, l2)), (3, (0, l3)), (4, (0, l4)), (5, (0, l5)), (6, (0, l6)), (7, (0, l7))] [] S V nc ns := by
  have E := n_E h
  refine j_aload_n E d1_36_56 rfl 0 rfl ?_
  refine j_getS (f := 2) (x := l0 + 200) (fg10_22 h) d1_36_57 c1 (by decide) rfl rfl ((L10_2 L c1).trans (by omega)) ?_
  refine j_iconst E d1_36_60 (by decide) ?_
  refine j_iload E d1_36_61 5 rfl ?_
  refine j_ishl1 E d1_36_63 rfl c2 c3 ?_
  refine j_iload E d1_36_64 7 rfl ?_
  refine j_call E (K1_36_66 h hrm hM) d1_36_66 (a := [(2, l0 + 200), (0, 2 ^ (l5).toNat), (0, l7)]) (sk := []) rfl ⟨l0 + 200, 2 ^ (l5).toNat, l7, rfl, (show S.1 (l0 + 200) = 21 from (by have q := L10_2k L c1; rw [show l0 + 200 = l0 + 200 by omega]; exact q)), hp⟩ (Nat.le_of_ble_eq_true rfl) hc hs ?_
  rintro rs S' V' ⟨z0, z1, z2, e1, rfl, q⟩
  simp only [List.cons.injEq, Prod.mk.injEq, and_true, true_and] at e1
  obtain ⟨rfl, rfl, rfl⟩ := e1
  exact j_pick [0, 1, 2, 3, 4, 5, 6, 7] rfl (k S' V' q)
theorem t1_36_69 {C : qCx} {G : jG} {S : jS} {V : jH} {nc ns : Nat} {l0 l1 l2 l3 l4 l5 l6 l7 : Int} {mc ms : Nat} {pp : Int → Int → Int → jS → jH → Prop} {qq : Int → Int → Int → jS → jH → Int → jS → jH → Prop} (h : x1_36 C G) (L : j_L S) (hrm : C.2.2.2.1.frames = 7 ∧ C.2.2.2.1.locals = 168) (c1 : S.1 l0 = 31) (hM : M2_6 C.2.1 mc ms pp qq) (hp : pp (l0 + 200) l6 l7 S V) (hc : nc + mc ≤ C.2.2.2.1.cells) (hs : ns + ms ≤ C.2.2.2.1.slots) (k : ∀ (r : Int) (S' : jS) (V' : jH), qq (l0 + 200) l6 l7 S V r S' V' → j_ok n_KT 9 C G 80 [(0, (2, l0)), (1, (2, l1)), (2, (0, l2)), (3, (0, l3)), (4, (0, l4)), (5, (0, l5)), (6, (0, l6)), (7, (0, l7))] [(0, r)] S' V' (nc + mc) (ns + ms)) : j_ok n_KT 9 C G 69 [(0, (2, l0)), (1, (2, l1)), (2, (0, l2)), (3, (0, l3)), (4, (0, l4)), (5, (0, l5)), (6, (0, l6)), (7, (0, l7))] [] S V nc ns := by
  have E := n_E h
  refine j_aload_n E d1_36_69 rfl 0 rfl ?_
  refine j_getS (f := 2) (x := l0 + 200) (fg10_22 h) d1_36_70 c1 (by decide) rfl rfl ((L10_2 L c1).trans (by omega)) ?_
  refine j_iload E d1_36_73 6 rfl ?_
  refine j_iload E d1_36_75 7 rfl ?_
  refine j_call E (K1_36_77 h hrm hM) d1_36_77 (a := [(2, l0 + 200), (0, l6), (0, l7)]) (sk := []) rfl ⟨l0 + 200, l6, l7, rfl, (show S.1 (l0 + 200) = 21 from (by have q := L10_2k L c1; rw [show l0 + 200 = l0 + 200 by omega]; exact q)), hp⟩ (Nat.le_of_ble_eq_true rfl) hc hs ?_
  rintro rs S' V' ⟨z0, z1, z2, r, e1, rfl, q⟩
  simp only [List.cons.injEq, Prod.mk.injEq, and_true, true_and] at e1
  obtain ⟨rfl, rfl, rfl⟩ := e1
  exact j_pick [0, 1, 2, 3, 4, 5, 6, 7] rfl (k r S' V' q)
theorem t1_36_80 {C : qCx} {G : jG} {S : jS} {V : jH} {nc ns : Nat} {l0 l1 l2 l3 l4 l5 l6 l7 s0 : Int} (h : x1_36 C G)  (k : l3 ≤ s0 → j_ok n_KT 9 C G 107 [(0, (2, l0)), (1, (2, l1)), (2, (0, l2)), (3, (0, l3)), (4, (0, l4)), (5, (0, l5)), (6, (0, l6)), (7, (0, l7))] [] S V nc ns) (k' : s0 < l3 → j_ok n_KT 9 C G 88 [(0, (2, l0)), (1, (2, l1)), (4, (0, l4)), (5, (0, l5)), (6, (0, l6)), (7, (0, l7)), (8, (0, s0))] [] S V nc ns) : j_ok n_KT 9 C G 80 [(0, (2, l0)), (1, (2, l1)), (2, (0, l2)), (3, (0, l3)), (4, (0, l4)), (5, (0, l5)), (6, (0, l6)), (7, (0, l7))] [(0, s0)] S V nc ns := by
  have E := n_E h
  refine j_istore E d1_36_80 (by decide) (lo1 := [(0, (2, l0)), (1, (2, l1)), (2, (0, l2)), (3, (0, l3)), (4, (0, l4)), (5, (0, l5)), (6, (0, l6)), (7, (0, l7))]) rfl ?_
  refine j_iload E d1_36_82 0 rfl ?_
  refine j_iload_n E d1_36_84 rfl 4 rfl ?_
  exact j_icmp_ge E d1_36_85 (t := 107) rfl (fun q => j_pick [1, 2, 3, 4, 5, 6, 7, 8] rfl (k q)) (fun q => j_pick [1, 2, 5, 6, 7, 8, 0] rfl (k' q))
theorem t1_36_88 {C : qCx} {G : jG} {S : jS} {V : jH} {nc ns : Nat} {l0 l1 l4 l5 l6 l7 l8 : Int} (h : x1_36 C G) (c1 : -2147483648 ≤ 1000 * l4 ∧ 1000 * l4 ≤ 2147483647) (c2 : -2147483648 ≤ 10 * l5 ∧ 10 * l5 ≤ 2147483647) (c3 : -2147483648 ≤ (1000 * l4) + (10 * l5) ∧ (1000 * l4) + (10 * l5) ≤ 2147483647) (c4 : -2147483648 ≤ ((1000 * l4) + (10 * l5)) + l7 ∧ ((1000 * l4) + (10 * l5)) + l7 ≤ 2147483647) (k : j_ok n_KT 9 C G 107 [(0, (2, l0)), (1, (2, l1)), (2, (0, ((1000 * l4) + (10 * l5)) + l7)), (3, (0, l8)), (4, (0, l4)), (5, (0, l5)), (6, (0, l6)), (7, (0, l7))] [] S V nc ns) : j_ok n_KT 9 C G 88 [(0, (2, l0)), (1, (2, l1)), (4, (0, l4)), (5, (0, l5)), (6, (0, l6)), (7, (0, l7)), (8, (0, l8))] [] S V nc ns := by
  have E := n_E h
  refine j_iload E d1_36_88 6 rfl ?_
  refine j_istore_n E d1_36_90 rfl (by decide) (lo1 := [(0, (2, l0)), (1, (2, l1)), (4, (0, l4)), (5, (0, l5)), (6, (0, l6)), (7, (0, l7)), (8, (0, l8))]) rfl ?_
  refine j_sipush E d1_36_91 (by decide) ?_
  refine j_iload E d1_36_94 3 rfl ?_
  refine j_imul E d1_36_96 c1 ?_
  refine j_bipush E d1_36_97 (by decide) ?_
  refine j_iload E d1_36_99 4 rfl ?_
  refine j_imul E d1_36_101 c2 ?_
  refine j_iadd E d1_36_102 c3 ?_
  refine j_iload E d1_36_103 6 rfl ?_
  refine j_iadd E d1_36_105 c4 ?_
  refine j_istore_n E d1_36_106 rfl (by decide) (lo1 := [(3, (0, l8)), (0, (2, l0)), (1, (2, l1)), (4, (0, l4)), (5, (0, l5)), (6, (0, l6)), (7, (0, l7)), (8, (0, l8))]) rfl ?_
  exact j_pick [2, 3, 0, 1, 4, 5, 6, 7] rfl k
theorem t1_36_107 {C : qCx} {G : jG} {S : jS} {V : jH} {nc ns : Nat} {l0 l1 l2 l3 l4 l5 l6 l7 : Int} (h : x1_36 C G) (c1 : -2147483648 ≤ l7 + 1 ∧ l7 + 1 ≤ 2147483647) (k : j_ok n_KT 9 C G 50 [(0, (2, l0)), (1, (2, l1)), (2, (0, l2)), (3, (0, l3)), (4, (0, l4)), (5, (0, l5)), (6, (0, l6)), (7, (0, l7 + 1))] [] S V nc ns) : j_ok n_KT 9 C G 107 [(0, (2, l0)), (1, (2, l1)), (2, (0, l2)), (3, (0, l3)), (4, (0, l4)), (5, (0, l5)), (6, (0, l6)), (7, (0, l7))] [] S V nc ns := by
  have E := n_E h
  refine j_iinc E d1_36_107 (by decide) (by decide) 7 rfl (lo1 := [(0, (2, l0)), (1, (2, l1)), (2, (0, l2)), (3, (0, l3)), (4, (0, l4)), (5, (0, l5)), (6, (0, l6))]) rfl c1 ?_
  refine j_goto E d1_36_110 (t := 50) rfl ?_
  exact j_pick [1, 2, 3, 4, 5, 6, 7, 0] rfl k
theorem t1_36_113 {C : qCx} {G : jG} {S : jS} {V : jH} {nc ns : Nat} {l0 l1 l2 l3 l4 l5 : Int} (h : x1_36 C G) (c1 : -2147483648 ≤ l5 + 1 ∧ l5 + 1 ≤ 2147483647) (k : j_ok n_KT 9 C G 19 [(0, (2, l0)), (1, (2, l1)), (2, (0, l2)), (3, (0, l3)), (4, (0, l4)), (5, (0, l5 + 1))] [] S V nc ns) : j_ok n_KT 9 C G 113 [(0, (2, l0)), (1, (2, l1)), (2, (0, l2)), (3, (0, l3)), (4, (0, l4)), (5, (0, l5))] [] S V nc ns := by
  have E := n_E h
  refine j_iinc E d1_36_113 (by decide) (by decide) 5 rfl (lo1 := [(0, (2, l0)), (1, (2, l1)), (2, (0, l2)), (3, (0, l3)), (4, (0, l4))]) rfl c1 ?_
  refine j_goto E d1_36_116 (t := 19) rfl ?_
  exact j_pick [1, 2, 3, 4, 5, 0] rfl k
theorem t1_36_119 {C : qCx} {G : jG} {S : jS} {V : jH} {nc ns : Nat} {l0 l1 l2 l3 l4 : Int} (h : x1_36 C G) (c1 : -2147483648 ≤ l4 + 1 ∧ l4 + 1 ≤ 2147483647) (k : j_ok n_KT 9 C G 9 [(0, (2, l0)), (1, (2, l1)), (2, (0, l2)), (3, (0, l3)), (4, (0, l4 + 1))] [] S V nc ns) : j_ok n_KT 9 C G 119 [(0, (2, l0)), (1, (2, l1)), (2, (0, l2)), (3, (0, l3)), (4, (0, l4))] [] S V nc ns := by
  have E := n_E h
  refine j_iinc E d1_36_119 (by decide) (by decide) 4 rfl (lo1 := [(0, (2, l0)), (1, (2, l1)), (2, (0, l2)), (3, (0, l3))]) rfl c1 ?_
  refine j_goto E d1_36_122 (t := 9) rfl ?_
  exact j_pick [1, 2, 3, 4, 0] rfl k
theorem t1_36_125 {C : qCx} {G : jG} {S : jS} {V : jH} {nc ns : Nat} {l2 : Int} {mc ms : Nat} {qf : Int → jS → jH → Prop} (h : x1_36 C G)  (R : j_Ri n_KT 9 C G b_1_36 mc ms qf) (q : qf l2 S V) (hc : nc ≤ mc) (hs : ns ≤ ms) : j_ok n_KT 9 C G 125 [(2, (0, l2))] [] S V nc ns := by
  have E := n_E h
  refine j_iload_n E d1_36_125 rfl 0 rfl ?_
  exact R _ _ _ _ _ _ _ d1_36_126 q hc hs
/- BalanceCoder.search(I)I -/
abbrev b_1_18 : ByteArray := prog_1_method_18_code
def y_1_18 : MethodName := ⟨"BalanceCoder", "search", "(I)I"⟩
abbrev x1_18 (C : qCx) (G : jG) : Prop := n_ctx C b_1_18 6 "BalanceCoder" G.1 G.2.1
def M1_18 (l : Launch) (mc ms : Nat) (p : Int → Int → jS → jH → Prop) (q : Int → Int → jS → jH → Int → jS → jH → Prop) : Prop := j_Met l vwCl n_TL n_NW n_KT y_1_18 (Cond.code y_1_18 b_1_18 6 (some .int) :: n_GW) { frames := 8, cells := mc, slots := ms, locals := 196 } mc ms (fun a S V => ∃ u0 u1 : Int, a = [(2, u0), (0, u1)] ∧ S.1 u0 = 31 ∧ p u0 u1 S V) (fun a S V rs S' V' => ∃ u0 u1 r : Int, a = [(2, u0), (0, u1)] ∧ rs = [(0, r)] ∧ q u0 u1 S V r S' V')
theorem e1_18 {l : Launch} {mc ms : Nat} {p : Int → Int → jS → jH → Prop} {q : Int → Int → jS → jH → Int → jS → jH → Prop} (body : ∀ (C : qCx) (G : jG), x1_18 C G → C.2.2.2.1.frames = 8 ∧ C.2.2.2.1.locals = 196 → C.2.2.2.1.cells = mc ∧ C.2.2.2.1.slots = ms → C.2.1 = l → C.2.2.2.2.2.2.2.2.1.name = "search" → ∀ (u0 u1 : Int) (S : jS) (V : jH), S.1 u0 = 31 → p u0 u1 S V → j_Ri n_KT 6 C G b_1_18 mc ms (q u0 u1 S V) → j_ok n_KT 6 C G 0 [(0, (2, u0)), (1, (0, u1))] [] S V 0 0) : M1_18 l mc ms p q := by
  refine j_method (ws' := n_GW) (by decide) rfl ?_ ?_
  · rintro a S V ⟨u0, u1, rfl, -⟩
    exact Nat.le_of_ble_eq_true rfl
  · rintro C G htl hl hrm hm hml ho hts hnm hE a S V ⟨u0, u1, rfl, ht, hp⟩ R
    exact body C G ⟨htl, hm, hml, ho, fun w hw => hts w (List.mem_cons_of_mem _ hw), hE⟩ (by rw [hrm]; exact ⟨rfl, rfl⟩) (by rw [hrm]; exact ⟨rfl, rfl⟩) hl hnm u0 u1 S V ht hp (fun pc lo r S' V' nc ns d q hc hs => R.2.1 rfl pc lo r S' V' nc ns d ⟨u0, u1, r, rfl, rfl, q⟩ hc hs)
theorem d1_18_0 : decode b_1_18 0 = .ok (.aload_n 0, 1) := by decide +kernel
theorem d1_18_1 : decode b_1_18 1 = .ok (.iload_n 1, 1) := by decide +kernel
theorem d1_18_2 : decode b_1_18 2 = .ok (.invokevirtual 51, 3) := by decide +kernel
theorem d1_18_5 : decode b_1_18 5 = .ok (.astore_n 2, 1) := by decide +kernel
theorem d1_18_6 : decode b_1_18 6 = .ok (.aload_n 2, 1) := by decide +kernel
theorem d1_18_7 : decode b_1_18 7 = .ok (.ifnonnull 9, 3) := by decide +kernel
theorem d1_18_10 : decode b_1_18 10 = .ok (.aload_n 0, 1) := by decide +kernel
theorem d1_18_11 : decode b_1_18 11 = .ok (.iconst (-1), 1) := by decide +kernel
theorem d1_18_12 : decode b_1_18 12 = .ok (.invokevirtual 55, 3) := by decide +kernel
theorem d1_18_15 : decode b_1_18 15 = .ok (.ireturn, 1) := by decide +kernel
theorem d1_18_16 : decode b_1_18 16 = .ok (.aload_n 2, 1) := by decide +kernel
theorem d1_18_17 : decode b_1_18 17 = .ok (.getfield 59, 3) := by decide +kernel
theorem d1_18_20 : decode b_1_18 20 = .ok (.ifCond .ne 10, 3) := by decide +kernel
theorem d1_18_23 : decode b_1_18 23 = .ok (.aload_n 0, 1) := by decide +kernel
theorem d1_18_24 : decode b_1_18 24 = .ok (.bipush (-7), 2) := by decide +kernel
theorem d1_18_26 : decode b_1_18 26 = .ok (.invokevirtual 55, 3) := by decide +kernel
theorem d1_18_29 : decode b_1_18 29 = .ok (.ireturn, 1) := by decide +kernel
theorem d1_18_30 : decode b_1_18 30 = .ok (.aload_n 0, 1) := by decide +kernel
theorem d1_18_31 : decode b_1_18 31 = .ok (.aload_n 2, 1) := by decide +kernel
theorem d1_18_32 : decode b_1_18 32 = .ok (.invokevirtual 191, 3) := by decide +kernel
theorem d1_18_35 : decode b_1_18 35 = .ok (.istore_n 3, 1) := by decide +kernel
theorem d1_18_36 : decode b_1_18 36 = .ok (.iload_n 3, 1) := by decide +kernel
theorem d1_18_37 : decode b_1_18 37 = .ok (.sipush 1000, 3) := by decide +kernel
theorem d1_18_40 : decode b_1_18 40 = .ok (.irem, 1) := by decide +kernel
theorem d1_18_41 : decode b_1_18 41 = .ok (.bipush 10, 2) := by decide +kernel
theorem d1_18_43 : decode b_1_18 43 = .ok (.idiv, 1) := by decide +kernel
theorem d1_18_44 : decode b_1_18 44 = .ok (.istore 4, 2) := by decide +kernel
theorem d1_18_46 : decode b_1_18 46 = .ok (.iload_n 3, 1) := by decide +kernel
theorem d1_18_47 : decode b_1_18 47 = .ok (.bipush 10, 2) := by decide +kernel
theorem d1_18_49 : decode b_1_18 49 = .ok (.irem, 1) := by decide +kernel
theorem d1_18_50 : decode b_1_18 50 = .ok (.istore 5, 2) := by decide +kernel
theorem d1_18_52 : decode b_1_18 52 = .ok (.aload_n 0, 1) := by decide +kernel
theorem d1_18_53 : decode b_1_18 53 = .ok (.iload_n 3, 1) := by decide +kernel
theorem d1_18_54 : decode b_1_18 54 = .ok (.sipush 1000, 3) := by decide +kernel
theorem d1_18_57 : decode b_1_18 57 = .ok (.idiv, 1) := by decide +kernel
theorem d1_18_58 : decode b_1_18 58 = .ok (.iload 4, 2) := by decide +kernel
theorem d1_18_60 : decode b_1_18 60 = .ok (.aload_n 2, 1) := by decide +kernel
theorem d1_18_61 : decode b_1_18 61 = .ok (.invokevirtual 194, 3) := by decide +kernel
theorem d1_18_64 : decode b_1_18 64 = .ok (.aload_n 0, 1) := by decide +kernel
theorem d1_18_65 : decode b_1_18 65 = .ok (.getfield 22, 3) := by decide +kernel
theorem d1_18_68 : decode b_1_18 68 = .ok (.iconst 1, 1) := by decide +kernel
theorem d1_18_69 : decode b_1_18 69 = .ok (.iload 4, 2) := by decide +kernel
theorem d1_18_71 : decode b_1_18 71 = .ok (.ishl, 1) := by decide +kernel
theorem d1_18_72 : decode b_1_18 72 = .ok (.iload 5, 2) := by decide +kernel
theorem d1_18_74 : decode b_1_18 74 = .ok (.invokevirtual 198, 3) := by decide +kernel
theorem d1_18_77 : decode b_1_18 77 = .ok (.aload_n 0, 1) := by decide +kernel
theorem d1_18_78 : decode b_1_18 78 = .ok (.getfield 10, 3) := by decide +kernel
theorem d1_18_81 : decode b_1_18 81 = .ok (.getfield 155, 3) := by decide +kernel
theorem d1_18_84 : decode b_1_18 84 = .ok (.aload_n 0, 1) := by decide +kernel
theorem d1_18_85 : decode b_1_18 85 = .ok (.getfield 22, 3) := by decide +kernel
theorem d1_18_88 : decode b_1_18 88 = .ok (.getfield 201, 3) := by decide +kernel
theorem d1_18_91 : decode b_1_18 91 = .ok (.aload_n 0, 1) := by decide +kernel
theorem d1_18_92 : decode b_1_18 92 = .ok (.getfield 22, 3) := by decide +kernel
theorem d1_18_95 : decode b_1_18 95 = .ok (.iload 5, 2) := by decide +kernel
theorem d1_18_97 : decode b_1_18 97 = .ok (.invokevirtual 159, 3) := by decide +kernel
theorem d1_18_100 : decode b_1_18 100 = .ok (.iload_n 3, 1) := by decide +kernel
theorem d1_18_101 : decode b_1_18 101 = .ok (.ireturn, 1) := by decide +kernel
theorem K1_18_2 {C : qCx} {G : jG} {mc ms : Nat} {p : Int → Int → jS → jH → Prop} {q : Int → Int → jS → jH → Int → jS → jH → Prop} (h : x1_18 C G) (hrm : C.2.2.2.1.frames = 8 ∧ C.2.2.2.1.locals = 196) (hM : M1_29 C.2.1 mc ms p q) : j_Call C b_1_18 n_KT G.1 G.2.1 6 (.invokevirtual 51) mc ms (fun a S V => ∃ u0 u1 : Int, a = [(2, u0), (0, u1)] ∧ S.1 u0 = 31 ∧ p u0 u1 S V) (fun a S V rs S' V' => ∃ u0 u1 r : Int, a = [(2, u0), (0, u1)] ∧ rs = [(2, r)] ∧ q u0 u1 S V r S' V') := j_callV n_NWk h.2.2.2.2.2 h.1 hM ⟨h.2.1.1, h.2.1.2, h.2.2.1, h.2.2.2.1, h.2.2.2.2.1⟩ ⟨n_CB (y := y_1_29) (bytes := b_1_29) 1 h.2.2.2.2.1 n_w305 n_w302 n_w1 ⟨by decide, by decide, by decide +kernel⟩ rfl rfl ⟨by rw [hrm.1]; exact Nat.le_of_ble_eq_true rfl, by rw [hrm.2]; exact Nat.le_of_ble_eq_true rfl⟩, h.2.2.2.2.1 _ n_w304, h.2.2.2.2.1 _ n_s0⟩ (Cn := RX10) (fun a S V hP => by obtain ⟨u0, u1, rfl, e, -⟩ := hP; exact ⟨u0, _, 10, _, _, TX10, 8, rfl, rfl, by rw [e]; decide, by rw [e]; rfl, rfl⟩)
theorem K1_18_12 {C : qCx} {G : jG} {mc ms : Nat} {p : Int → Int → jS → jH → Prop} {q : Int → Int → jS → jH → Int → jS → jH → Prop} (h : x1_18 C G) (hrm : C.2.2.2.1.frames = 8 ∧ C.2.2.2.1.locals = 196) (hM : M1_27 C.2.1 mc ms p q) : j_Call C b_1_18 n_KT G.1 G.2.1 6 (.invokevirtual 55) mc ms (fun a S V => ∃ u0 u1 : Int, a = [(2, u0), (0, u1)] ∧ S.1 u0 = 31 ∧ p u0 u1 S V) (fun a S V rs S' V' => ∃ u0 u1 r : Int, a = [(2, u0), (0, u1)] ∧ rs = [(0, r)] ∧ q u0 u1 S V r S' V') := j_callV n_NWk h.2.2.2.2.2 h.1 hM ⟨h.2.1.1, h.2.1.2, h.2.2.1, h.2.2.2.1, h.2.2.2.2.1⟩ ⟨n_CB (y := y_1_27) (bytes := b_1_27) 1 h.2.2.2.2.1 n_w309 n_w306 n_w1 ⟨by decide, by decide, by decide +kernel⟩ rfl rfl ⟨by rw [hrm.1]; exact Nat.le_of_ble_eq_true rfl, by rw [hrm.2]; exact Nat.le_of_ble_eq_true rfl⟩, h.2.2.2.2.1 _ n_w308, h.2.2.2.2.1 _ n_s1⟩ (Cn := RX10) (fun a S V hP => by obtain ⟨u0, u1, rfl, e, -⟩ := hP; exact ⟨u0, _, 10, _, _, TX10, 8, rfl, rfl, by rw [e]; decide, by rw [e]; rfl, rfl⟩)
theorem K1_18_26 {C : qCx} {G : jG} {mc ms : Nat} {p : Int → Int → jS → jH → Prop} {q : Int → Int → jS → jH → Int → jS → jH → Prop} (h : x1_18 C G) (hrm : C.2.2.2.1.frames = 8 ∧ C.2.2.2.1.locals = 196) (hM : M1_27 C.2.1 mc ms p q) : j_Call C b_1_18 n_KT G.1 G.2.1 6 (.invokevirtual 55) mc ms (fun a S V => ∃ u0 u1 : Int, a = [(2, u0), (0, u1)] ∧ S.1 u0 = 31 ∧ p u0 u1 S V) (fun a S V rs S' V' => ∃ u0 u1 r : Int, a = [(2, u0), (0, u1)] ∧ rs = [(0, r)] ∧ q u0 u1 S V r S' V') := j_callV n_NWk h.2.2.2.2.2 h.1 hM ⟨h.2.1.1, h.2.1.2, h.2.2.1, h.2.2.2.1, h.2.2.2.2.1⟩ ⟨n_CB (y := y_1_27) (bytes := b_1_27) 1 h.2.2.2.2.1 n_w309 n_w306 n_w1 ⟨by decide, by decide, by decide +kernel⟩ rfl rfl ⟨by rw [hrm.1]; exact Nat.le_of_ble_eq_true rfl, by rw [hrm.2]; exact Nat.le_of_ble_eq_true rfl⟩, h.2.2.2.2.1 _ n_w308, h.2.2.2.2.1 _ n_s1⟩ (Cn := RX10) (fun a S V hP => by obtain ⟨u0, u1, rfl, e, -⟩ := hP; exact ⟨u0, _, 10, _, _, TX10, 8, rfl, rfl, by rw [e]; decide, by rw [e]; rfl, rfl⟩)
theorem K1_18_32 {C : qCx} {G : jG} {mc ms : Nat} {p : Int → Int → jS → jH → Prop} {q : Int → Int → jS → jH → Int → jS → jH → Prop} (h : x1_18 C G) (hrm : C.2.2.2.1.frames = 8 ∧ C.2.2.2.1.locals = 196) (hM : M1_36 C.2.1 mc ms p q) : j_Call C b_1_18 n_KT G.1 G.2.1 6 (.invokevirtual 191) mc ms (fun a S V => ∃ u0 u1 : Int, a = [(2, u0), (2, u1)] ∧ S.1 u0 = 31 ∧ p u0 u1 S V) (fun a S V rs S' V' => ∃ u0 u1 r : Int, a = [(2, u0), (2, u1)] ∧ rs = [(0, r)] ∧ q u0 u1 S V r S' V') := j_callV n_NWk h.2.2.2.2.2 h.1 hM ⟨h.2.1.1, h.2.1.2, h.2.2.1, h.2.2.2.1, h.2.2.2.2.1⟩ ⟨n_CB (y := y_1_36) (bytes := b_1_36) 1 h.2.2.2.2.1 n_w684 n_w681 n_w1 ⟨by decide, by decide, by decide +kernel⟩ rfl rfl ⟨by rw [hrm.1]; exact Nat.le_of_ble_eq_true rfl, by rw [hrm.2]; exact Nat.le_of_ble_eq_true rfl⟩, h.2.2.2.2.1 _ n_w683, h.2.2.2.2.1 _ n_s25⟩ (Cn := RX10) (fun a S V hP => by obtain ⟨u0, u1, rfl, e, -⟩ := hP; exact ⟨u0, _, 10, _, _, TX10, 8, rfl, rfl, by rw [e]; decide, by rw [e]; rfl, rfl⟩)
theorem K1_18_61 {C : qCx} {G : jG} {mc ms : Nat} {p : Int → Int → Int → Int → jS → jH → Prop} {q : Int → Int → Int → Int → jS → jH → jS → jH → Prop} (h : x1_18 C G) (hrm : C.2.2.2.1.frames = 8 ∧ C.2.2.2.1.locals = 196) (hM : M1_37 C.2.1 mc ms p q) : j_Call C b_1_18 n_KT G.1 G.2.1 6 (.invokevirtual 194) mc ms (fun a S V => ∃ u0 u1 u2 u3 : Int, a = [(2, u0), (0, u1), (0, u2), (2, u3)] ∧ S.1 u0 = 31 ∧ p u0 u1 u2 u3 S V) (fun a S V rs S' V' => ∃ u0 u1 u2 u3 : Int, a = [(2, u0), (0, u1), (0, u2), (2, u3)] ∧ rs = [] ∧ q u0 u1 u2 u3 S V S' V') := j_callV n_NWk h.2.2.2.2.2 h.1 hM ⟨h.2.1.1, h.2.1.2, h.2.2.1, h.2.2.2.1, h.2.2.2.2.1⟩ ⟨n_CB (y := y_1_37) (bytes := b_1_37) 3 h.2.2.2.2.1 n_w688 n_w685 n_w1 ⟨by decide, by decide, by decide +kernel⟩ rfl rfl ⟨by rw [hrm.1]; exact Nat.le_of_ble_eq_true rfl, by rw [hrm.2]; exact Nat.le_of_ble_eq_true rfl⟩, h.2.2.2.2.1 _ n_w687, h.2.2.2.2.1 _ n_s26⟩ (Cn := RX10) (fun a S V hP => by obtain ⟨u0, u1, u2, u3, rfl, e, -⟩ := hP; exact ⟨u0, _, 10, _, _, TX10, 8, rfl, rfl, by rw [e]; decide, by rw [e]; rfl, rfl⟩)
theorem K1_18_74 {C : qCx} {G : jG} {mc ms : Nat} {p : Int → Int → Int → jS → jH → Prop} {q : Int → Int → Int → jS → jH → jS → jH → Prop} (h : x1_18 C G) (hrm : C.2.2.2.1.frames = 8 ∧ C.2.2.2.1.locals = 196) (hM : M2_4 C.2.1 mc ms p q) : j_Call C b_1_18 n_KT G.1 G.2.1 6 (.invokevirtual 198) mc ms (fun a S V => ∃ u0 u1 u2 : Int, a = [(2, u0), (0, u1), (0, u2)] ∧ S.1 u0 = 21 ∧ p u0 u1 u2 S V) (fun a S V rs S' V' => ∃ u0 u1 u2 : Int, a = [(2, u0), (0, u1), (0, u2)] ∧ rs = [] ∧ q u0 u1 u2 S V S' V') := j_callV n_NWk h.2.2.2.2.2 h.1 hM ⟨h.2.1.1, h.2.1.2, h.2.2.1, h.2.2.2.1, h.2.2.2.2.1⟩ ⟨n_CB (y := y_2_4) (bytes := b_2_4) 2 h.2.2.2.2.1 n_w539 n_w536 n_w6 ⟨by decide, by decide, by decide +kernel⟩ rfl rfl ⟨by rw [hrm.1]; exact Nat.le_of_ble_eq_true rfl, by rw [hrm.2]; exact Nat.le_of_ble_eq_true rfl⟩, h.2.2.2.2.1 _ n_w537, h.2.2.2.2.1 _ n_w538⟩ (Cn := RX0) (fun a S V hP => by obtain ⟨u0, u1, u2, rfl, e, -⟩ := hP; exact ⟨u0, _, 0, _, _, TX0, 6, rfl, rfl, by rw [e]; decide, by rw [e]; rfl, rfl⟩)
theorem K1_18_97 {C : qCx} {G : jG} {mc ms : Nat} {p : Int → Int → Int → Int → jS → jH → Prop} {q : Int → Int → Int → Int → jS → jH → jS → jH → Prop} (h : x1_18 C G) (hrm : C.2.2.2.1.frames = 8 ∧ C.2.2.2.1.locals = 196) (hM : M3_7 C.2.1 mc ms p q) : j_Call C b_1_18 n_KT G.1 G.2.1 6 (.invokevirtual 159) mc ms (fun a S V => ∃ u0 u1 u2 u3 : Int, a = [(2, u0), (2, u1), (2, u2), (0, u3)] ∧ S.1 u0 = 22 ∧ p u0 u1 u2 u3 S V) (fun a S V rs S' V' => ∃ u0 u1 u2 u3 : Int, a = [(2, u0), (2, u1), (2, u2), (0, u3)] ∧ rs = [] ∧ q u0 u1 u2 u3 S V S' V') := j_callV n_NWk h.2.2.2.2.2 h.1 hM ⟨h.2.1.1, h.2.1.2, h.2.2.1, h.2.2.2.1, h.2.2.2.2.1⟩ ⟨n_CB (y := y_3_7) (bytes := b_3_7) 3 h.2.2.2.2.1 n_w564 n_w561 n_w3 ⟨by decide, by decide, by decide +kernel⟩ rfl rfl ⟨by rw [hrm.1]; exact Nat.le_of_ble_eq_true rfl, by rw [hrm.2]; exact Nat.le_of_ble_eq_true rfl⟩, h.2.2.2.2.1 _ n_w562, h.2.2.2.2.1 _ n_w563⟩ (Cn := RX1) (fun a S V hP => by obtain ⟨u0, u1, u2, u3, rfl, e, -⟩ := hP; exact ⟨u0, _, 1, _, _, TX1, 5, rfl, rfl, by rw [e]; decide, by rw [e]; rfl, rfl⟩)
theorem t1_18_0 {C : qCx} {G : jG} {S : jS} {V : jH} {nc ns : Nat} {l0 l1 : Int} {mc ms : Nat} {pp : Int → Int → jS → jH → Prop} {qq : Int → Int → jS → jH → Int → jS → jH → Prop} (h : x1_18 C G) (hrm : C.2.2.2.1.frames = 8 ∧ C.2.2.2.1.locals = 196) (c1 : S.1 l0 = 31) (hM : M1_29 C.2.1 mc ms pp qq) (hp : pp l0 l1 S V) (hc : nc + mc ≤ C.2.2.2.1.cells) (hs : ns + ms ≤ C.2.2.2.1.slots) (k : ∀ (r : Int) (S' : jS) (V' : jH), qq l0 l1 S V r S' V' → j_ok n_KT 6 C G 5 [(0, (2, l0))] [(2, r)] S' V' (nc + mc) (ns + ms)) : j_ok n_KT 6 C G 0 [(0, (2, l0)), (1, (0, l1))] [] S V nc ns := by
  have E := n_E h
  refine j_aload_n E d1_18_0 rfl 0 rfl ?_
  refine j_iload_n E d1_18_1 rfl 1 rfl ?_
  refine j_call E (K1_18_2 h hrm hM) d1_18_2 (a := [(2, l0), (0, l1)]) (sk := []) rfl ⟨l0, l1, rfl, c1, hp⟩ (Nat.le_of_ble_eq_true rfl) hc hs ?_
  rintro rs S' V' ⟨z0, z1, r, e1, rfl, q⟩
  simp only [List.cons.injEq, Prod.mk.injEq, and_true, true_and] at e1
  obtain ⟨rfl, rfl⟩ := e1
  exact j_pick [0] rfl (k r S' V' q)
theorem t1_18_5 {C : qCx} {G : jG} {S : jS} {V : jH} {nc ns : Nat} {l0 s0 : Int} (h : x1_18 C G)  (k : 0 ≤ s0 → S.1 s0 ≠ 0 → j_ok n_KT 6 C G 16 [(0, (2, l0)), (2, (2, s0))] [] S V nc ns) (k' : s0 = -1 → j_ok n_KT 6 C G 10 [(0, (2, l0))] [] S V nc ns) : j_ok n_KT 6 C G 5 [(0, (2, l0))] [(2, s0)] S V nc ns := by
  have E := n_E h
  refine j_astore_n E d1_18_5 rfl (by decide) (lo1 := [(0, (2, l0))]) rfl ?_
  refine j_aload_n E d1_18_6 rfl 0 rfl ?_
  exact j_ifnonnull E d1_18_7 (t := 16) rfl (fun q q2 => j_pick [1, 0] rfl (k q q2)) (fun q => j_pick [1] rfl (k' q))
theorem t1_18_10 {C : qCx} {G : jG} {S : jS} {V : jH} {nc ns : Nat} {l0 : Int} {mc ms : Nat} {pp : Int → Int → jS → jH → Prop} {qq : Int → Int → jS → jH → Int → jS → jH → Prop} (h : x1_18 C G) (hrm : C.2.2.2.1.frames = 8 ∧ C.2.2.2.1.locals = 196) (c1 : S.1 l0 = 31) (hM : M1_27 C.2.1 mc ms pp qq) (hp : pp l0 ((-1)) S V) (hc : nc + mc ≤ C.2.2.2.1.cells) (hs : ns + ms ≤ C.2.2.2.1.slots) (k : ∀ (r : Int) (S' : jS) (V' : jH), qq l0 ((-1)) S V r S' V' → j_ok n_KT 6 C G 15 [] [(0, r)] S' V' (nc + mc) (ns + ms)) : j_ok n_KT 6 C G 10 [(0, (2, l0))] [] S V nc ns := by
  have E := n_E h
  refine j_aload_n E d1_18_10 rfl 0 rfl ?_
  refine j_iconst E d1_18_11 (by decide) ?_
  refine j_call E (K1_18_12 h hrm hM) d1_18_12 (a := [(2, l0), (0, (-1))]) (sk := []) rfl ⟨l0, (-1), rfl, c1, hp⟩ (Nat.le_of_ble_eq_true rfl) hc hs ?_
  rintro rs S' V' ⟨z0, z1, r, e1, rfl, q⟩
  simp only [List.cons.injEq, Prod.mk.injEq, and_true, true_and] at e1
  obtain ⟨rfl, rfl⟩ := e1
  exact j_pick [] rfl (k r S' V' q)
theorem t1_18_15 {C : qCx} {G : jG} {S : jS} {V : jH} {nc ns : Nat} {s0 : Int} {mc ms : Nat} {qf : Int → jS → jH → Prop} (h : x1_18 C G)  (R : j_Ri n_KT 6 C G b_1_18 mc ms qf) (q : qf s0 S V) (hc : nc ≤ mc) (hs : ns ≤ ms) : j_ok n_KT 6 C G 15 [] [(0, s0)] S V nc ns := by
  have E := n_E h
  exact R _ _ _ _ _ _ _ d1_18_15 q hc hs
theorem t1_18_16 {C : qCx} {G : jG} {S : jS} {V : jH} {nc ns : Nat} {l0 l2 : Int} (h : x1_18 C G) (c1 : S.1 l2 = 27) (k : ¬ V l2 1 = 0 → j_ok n_KT 6 C G 30 [(0, (2, l0)), (2, (2, l2))] [] S V nc ns) (k' : V l2 1 = 0 → j_ok n_KT 6 C G 23 [(0, (2, l0))] [] S V nc ns) : j_ok n_KT 6 C G 16 [(0, (2, l0)), (2, (2, l2))] [] S V nc ns := by
  have E := n_E h
  refine j_aload_n E d1_18_16 rfl 1 rfl ?_
  refine j_getI (f := 1) (fg10_59 h) d1_18_17 c1 (by decide) rfl rfl ?_
  exact j_if_ne E d1_18_20 (t := 30) rfl (fun q => j_pick [0, 1] rfl (k q)) (fun q => j_pick [0] rfl (k' q))
theorem t1_18_23 {C : qCx} {G : jG} {S : jS} {V : jH} {nc ns : Nat} {l0 : Int} {mc ms : Nat} {pp : Int → Int → jS → jH → Prop} {qq : Int → Int → jS → jH → Int → jS → jH → Prop} (h : x1_18 C G) (hrm : C.2.2.2.1.frames = 8 ∧ C.2.2.2.1.locals = 196) (c1 : S.1 l0 = 31) (hM : M1_27 C.2.1 mc ms pp qq) (hp : pp l0 ((-7)) S V) (hc : nc + mc ≤ C.2.2.2.1.cells) (hs : ns + ms ≤ C.2.2.2.1.slots) (k : ∀ (r : Int) (S' : jS) (V' : jH), qq l0 ((-7)) S V r S' V' → j_ok n_KT 6 C G 29 [] [(0, r)] S' V' (nc + mc) (ns + ms)) : j_ok n_KT 6 C G 23 [(0, (2, l0))] [] S V nc ns := by
  have E := n_E h
  refine j_aload_n E d1_18_23 rfl 0 rfl ?_
  refine j_bipush E d1_18_24 (by decide) ?_
  refine j_call E (K1_18_26 h hrm hM) d1_18_26 (a := [(2, l0), (0, (-7))]) (sk := []) rfl ⟨l0, (-7), rfl, c1, hp⟩ (Nat.le_of_ble_eq_true rfl) hc hs ?_
  rintro rs S' V' ⟨z0, z1, r, e1, rfl, q⟩
  simp only [List.cons.injEq, Prod.mk.injEq, and_true, true_and] at e1
  obtain ⟨rfl, rfl⟩ := e1
  exact j_pick [] rfl (k r S' V' q)
theorem t1_18_29 {C : qCx} {G : jG} {S : jS} {V : jH} {nc ns : Nat} {s0 : Int} {mc ms : Nat} {qf : Int → jS → jH → Prop} (h : x1_18 C G)  (R : j_Ri n_KT 6 C G b_1_18 mc ms qf) (q : qf s0 S V) (hc : nc ≤ mc) (hs : ns ≤ ms) : j_ok n_KT 6 C G 29 [] [(0, s0)] S V nc ns := by
  have E := n_E h
  exact R _ _ _ _ _ _ _ d1_18_29 q hc hs
theorem t1_18_30 {C : qCx} {G : jG} {S : jS} {V : jH} {nc ns : Nat} {l0 l2 : Int} {mc ms : Nat} {pp : Int → Int → jS → jH → Prop} {qq : Int → Int → jS → jH → Int → jS → jH → Prop} (h : x1_18 C G) (hrm : C.2.2.2.1.frames = 8 ∧ C.2.2.2.1.locals = 196) (c1 : S.1 l0 = 31) (hM : M1_36 C.2.1 mc ms pp qq) (hp : pp l0 l2 S V) (hc : nc + mc ≤ C.2.2.2.1.cells) (hs : ns + ms ≤ C.2.2.2.1.slots) (k : ∀ (r : Int) (S' : jS) (V' : jH), qq l0 l2 S V r S' V' → j_ok n_KT 6 C G 35 [(0, (2, l0)), (2, (2, l2))] [(0, r)] S' V' (nc + mc) (ns + ms)) : j_ok n_KT 6 C G 30 [(0, (2, l0)), (2, (2, l2))] [] S V nc ns := by
  have E := n_E h
  refine j_aload_n E d1_18_30 rfl 0 rfl ?_
  refine j_aload_n E d1_18_31 rfl 1 rfl ?_
  refine j_call E (K1_18_32 h hrm hM) d1_18_32 (a := [(2, l0), (2, l2)]) (sk := []) rfl ⟨l0, l2, rfl, c1, hp⟩ (Nat.le_of_ble_eq_true rfl) hc hs ?_
  rintro rs S' V' ⟨z0, z1, r, e1, rfl, q⟩
  simp only [List.cons.injEq, Prod.mk.injEq, and_true, true_and] at e1
  obtain ⟨rfl, rfl⟩ := e1
  exact j_pick [0, 1] rfl (k r S' V' q)
theorem t1_18_35 {C : qCx} {G : jG} {S : jS} {V : jH} {nc ns : Nat} {l0 l2 s0 : Int} {mc ms : Nat} {pp : Int → Int → Int → Int → jS → jH → Prop} {qq : Int → Int → Int → Int → jS → jH → jS → jH → Prop} (h : x1_18 C G) (hrm : C.2.2.2.1.frames = 8 ∧ C.2.2.2.1.locals = 196) (c1 : 0 ≤ s0) (c2 : 0 ≤ s0 % 1000) (c3 : S.1 l0 = 31) (hM : M1_37 C.2.1 mc ms pp qq) (hp : pp l0 (s0 / 1000) ((s0 % 1000) / 10) l2 S V) (hc : nc + mc ≤ C.2.2.2.1.cells) (hs : ns + ms ≤ C.2.2.2.1.slots) (k : ∀ (S' : jS) (V' : jH), qq l0 (s0 / 1000) ((s0 % 1000) / 10) l2 S V S' V' → j_ok n_KT 6 C G 64 [(0, (2, l0)), (3, (0, s0)), (4, (0, (s0 % 1000) / 10)), (5, (0, s0 % 10))] [] S' V' (nc + mc) (ns + ms)) : j_ok n_KT 6 C G 35 [(0, (2, l0)), (2, (2, l2))] [(0, s0)] S V nc ns := by
  have E := n_E h
  refine j_istore_n E d1_18_35 rfl (by decide) (lo1 := [(0, (2, l0)), (2, (2, l2))]) rfl ?_
  refine j_iload_n E d1_18_36 rfl 0 rfl ?_
  refine j_sipush E d1_18_37 (by decide) ?_
  refine j_irem E d1_18_40 c1 (by decide) ?_
  refine j_bipush E d1_18_41 (by decide) ?_
  refine j_idiv E d1_18_43 c2 (by decide) ?_
  refine j_istore E d1_18_44 (by decide) (lo1 := [(3, (0, s0)), (0, (2, l0)), (2, (2, l2))]) rfl ?_
  refine j_iload_n E d1_18_46 rfl 1 rfl ?_
  refine j_bipush E d1_18_47 (by decide) ?_
  refine j_irem E d1_18_49 c1 (by decide) ?_
  refine j_istore E d1_18_50 (by decide) (lo1 := [(4, (0, (s0 % 1000) / 10)), (3, (0, s0)), (0, (2, l0)), (2, (2, l2))]) rfl ?_
  refine j_aload_n E d1_18_52 rfl 3 rfl ?_
  refine j_iload_n E d1_18_53 rfl 2 rfl ?_
  refine j_sipush E d1_18_54 (by decide) ?_
  refine j_idiv E d1_18_57 c1 (by decide) ?_
  refine j_iload E d1_18_58 1 rfl ?_
  refine j_aload_n E d1_18_60 rfl 4 rfl ?_
  refine j_call E (K1_18_61 h hrm hM) d1_18_61 (a := [(2, l0), (0, s0 / 1000), (0, (s0 % 1000) / 10), (2, l2)]) (sk := []) rfl ⟨l0, s0 / 1000, (s0 % 1000) / 10, l2, rfl, c3, hp⟩ (Nat.le_of_ble_eq_true rfl) hc hs ?_
  rintro rs S' V' ⟨z0, z1, z2, z3, e1, rfl, q⟩
  simp only [List.cons.injEq, Prod.mk.injEq, and_true, true_and] at e1
  obtain ⟨rfl, rfl, rfl, rfl⟩ := e1
  exact j_pick [3, 2, 1, 0] rfl (k S' V' q)
theorem t1_18_64 {C : qCx} {G : jG} {S : jS} {V : jH} {nc ns : Nat} {l0 l3 l4 l5 : Int} {mc ms : Nat} {pp : Int → Int → Int → jS → jH → Prop} {qq : Int → Int → Int → jS → jH → jS → jH → Prop} (h : x1_18 C G) (L : j_L S) (hrm : C.2.2.2.1.frames = 8 ∧ C.2.2.2.1.locals = 196) (c1 : S.1 l0 = 31) (c2 : 0 ≤ l4) (c3 : l4 ≤ 30) (hM : M2_4 C.2.1 mc ms pp qq) (hp : pp (l0 + 200) (2 ^ (l4).toNat) l5 S V) (hc : nc + mc ≤ C.2.2.2.1.cells) (hs : ns + ms ≤ C.2.2.2.1.slots) (k : ∀ (S' : jS) (V' : jH), qq (l0 + 200) (2 ^ (l4).toNat) l5 S V S' V' → j_ok n_KT 6 C G 77 [(0, (2, l0)), (3, (0, l3)), (5, (0, l5))] [] S' V' (nc + mc) (ns + ms)) : j_ok n_KT 6 C G 64 [(0, (2, l0)), (3, (0, l3)), (4, (0, l4)), (5, (0, l5))] [] S V nc ns := by
  have E := n_E h
  refine j_aload_n E d1_18_64 rfl 0 rfl ?_
  refine j_getS (f := 2) (x := l0 + 200) (fg10_22 h) d1_18_65 c1 (by decide) rfl rfl ((L10_2 L c1).trans (by omega)) ?_
  refine j_iconst E d1_18_68 (by decide) ?_
  refine j_iload E d1_18_69 2 rfl ?_
  refine j_ishl1 E d1_18_71 rfl c2 c3 ?_
  refine j_iload E d1_18_72 3 rfl ?_
  refine j_call E (K1_18_74 h hrm hM) d1_18_74 (a := [(2, l0 + 200), (0, 2 ^ (l4).toNat), (0, l5)]) (sk := []) rfl ⟨l0 + 200, 2 ^ (l4).toNat, l5, rfl, (show S.1 (l0 + 200) = 21 from (by have q := L10_2k L c1; rw [show l0 + 200 = l0 + 200 by omega]; exact q)), hp⟩ (Nat.le_of_ble_eq_true rfl) hc hs ?_
  rintro rs S' V' ⟨z0, z1, z2, e1, rfl, q⟩
  simp only [List.cons.injEq, Prod.mk.injEq, and_true, true_and] at e1
  obtain ⟨rfl, rfl, rfl⟩ := e1
  exact j_pick [0, 1, 3] rfl (k S' V' q)
theorem t1_18_77 {C : qCx} {G : jG} {S : jS} {V : jH} {nc ns : Nat} {l0 l3 l5 : Int} {mc ms : Nat} {pp : Int → Int → Int → Int → jS → jH → Prop} {qq : Int → Int → Int → Int → jS → jH → jS → jH → Prop} (h : x1_18 C G) (L : j_L S) (hrm : C.2.2.2.1.frames = 8 ∧ C.2.2.2.1.locals = 196) (c1 : S.1 l0 = 31) (hM : M3_7 C.2.1 mc ms pp qq) (hp : pp (l0 + 16) (l0 + 201) (l0 + 200) l5 S V) (hc : nc + mc ≤ C.2.2.2.1.cells) (hs : ns + ms ≤ C.2.2.2.1.slots) (k : ∀ (S' : jS) (V' : jH), qq (l0 + 16) (l0 + 201) (l0 + 200) l5 S V S' V' → j_ok n_KT 6 C G 100 [(3, (0, l3))] [] S' V' (nc + mc) (ns + ms)) : j_ok n_KT 6 C G 77 [(0, (2, l0)), (3, (0, l3)), (5, (0, l5))] [] S V nc ns := by
  have E := n_E h
  refine j_aload_n E d1_18_77 rfl 0 rfl ?_
  refine j_getS (f := 0) (x := l0 + 1) (fg10_10 h) d1_18_78 c1 (by decide) rfl rfl ((L10_0 L c1).trans (by omega)) ?_
  refine j_getS (f := 3) (x := l0 + 16) (fg10_155 h) d1_18_81 (show S.1 (l0 + 1) = 30 from (by have q := L10_0k L c1; rw [show l0 + 1 = l0 + 1 by omega]; exact q)) (by decide) rfl rfl ((L9_3 L (show S.1 (l0 + 1) = 30 from (by have q := L10_0k L c1; rw [show l0 + 1 = l0 + 1 by omega]; exact q))).trans (by omega)) ?_
  refine j_aload_n E d1_18_84 rfl 0 rfl ?_
  refine j_getS (f := 2) (x := l0 + 200) (fg10_22 h) d1_18_85 c1 (by decide) rfl rfl ((L10_2 L c1).trans (by omega)) ?_
  refine j_getS (f := 0) (x := l0 + 201) (fg10_201 h) d1_18_88 (show S.1 (l0 + 200) = 21 from (by have q := L10_2k L c1; rw [show l0 + 200 = l0 + 200 by omega]; exact q)) (by decide) rfl rfl ((L0_0 L (show S.1 (l0 + 200) = 21 from (by have q := L10_2k L c1; rw [show l0 + 200 = l0 + 200 by omega]; exact q))).trans (by omega)) ?_
  refine j_aload_n E d1_18_91 rfl 0 rfl ?_
  refine j_getS (f := 2) (x := l0 + 200) (fg10_22 h) d1_18_92 c1 (by decide) rfl rfl ((L10_2 L c1).trans (by omega)) ?_
  refine j_iload E d1_18_95 2 rfl ?_
  refine j_call E (K1_18_97 h hrm hM) d1_18_97 (a := [(2, l0 + 16), (2, l0 + 201), (2, l0 + 200), (0, l5)]) (sk := []) rfl ⟨l0 + 16, l0 + 201, l0 + 200, l5, rfl, (show S.1 (l0 + 16) = 22 from (by have q := L9_3k L (show S.1 (l0 + 1) = 30 from (by have q := L10_0k L c1; rw [show l0 + 1 = l0 + 1 by omega]; exact q)); rw [show l0 + 16 = (l0 + 1) + 15 by omega]; exact q)), hp⟩ (Nat.le_of_ble_eq_true rfl) hc hs ?_
  rintro rs S' V' ⟨z0, z1, z2, z3, e1, rfl, q⟩
  simp only [List.cons.injEq, Prod.mk.injEq, and_true, true_and] at e1
  obtain ⟨rfl, rfl, rfl, rfl⟩ := e1
  exact j_pick [1] rfl (k S' V' q)
theorem t1_18_100 {C : qCx} {G : jG} {S : jS} {V : jH} {nc ns : Nat} {l3 : Int} {mc ms : Nat} {qf : Int → jS → jH → Prop} (h : x1_18 C G)  (R : j_Ri n_KT 6 C G b_1_18 mc ms qf) (q : qf l3 S V) (hc : nc ≤ mc) (hs : ns ≤ ms) : j_ok n_KT 6 C G 100 [(3, (0, l3))] [] S V nc ns := by
  have E := n_E h
  refine j_iload_n E d1_18_100 rfl 0 rfl ?_
  exact R _ _ _ _ _ _ _ d1_18_101 q hc hs
/- BalanceCoder.step(II)I -/
abbrev b_1_19 : ByteArray := prog_1_method_19_code
def y_1_19 : MethodName := ⟨"BalanceCoder", "step", "(II)I"⟩
abbrev x1_19 (C : qCx) (G : jG) : Prop := n_ctx C b_1_19 5 "BalanceCoder" G.1 G.2.1
def M1_19 (l : Launch) (mc ms : Nat) (p : Int → Int → Int → jS → jH → Prop) (q : Int → Int → Int → jS → jH → Int → jS → jH → Prop) : Prop := j_Met l vwCl n_TL n_NW n_KT y_1_19 (Cond.code y_1_19 b_1_19 5 (some .int) :: n_GW) { frames := 2, cells := mc, slots := ms, locals := 47 } mc ms (fun a S V => ∃ u0 u1 u2 : Int, a = [(2, u0), (0, u1), (0, u2)] ∧ S.1 u0 = 31 ∧ p u0 u1 u2 S V) (fun a S V rs S' V' => ∃ u0 u1 u2 r : Int, a = [(2, u0), (0, u1), (0, u2)] ∧ rs = [(0, r)] ∧ q u0 u1 u2 S V r S' V')
theorem e1_19 {l : Launch} {mc ms : Nat} {p : Int → Int → Int → jS → jH → Prop} {q : Int → Int → Int → jS → jH → Int → jS → jH → Prop} (body : ∀ (C : qCx) (G : jG), x1_19 C G → C.2.2.2.1.frames = 2 ∧ C.2.2.2.1.locals = 47 → C.2.2.2.1.cells = mc ∧ C.2.2.2.1.slots = ms → C.2.1 = l → C.2.2.2.2.2.2.2.2.1.name = "step" → ∀ (u0 u1 u2 : Int) (S : jS) (V : jH), S.1 u0 = 31 → p u0 u1 u2 S V → j_Ri n_KT 5 C G b_1_19 mc ms (q u0 u1 u2 S V) → j_ok n_KT 5 C G 0 [(0, (2, u0)), (1, (0, u1)), (2, (0, u2))] [] S V 0 0) : M1_19 l mc ms p q := by
  refine j_method (ws' := n_GW) (by decide) rfl ?_ ?_
  · rintro a S V ⟨u0, u1, u2, rfl, -⟩
    exact Nat.le_of_ble_eq_true rfl
  · rintro C G htl hl hrm hm hml ho hts hnm hE a S V ⟨u0, u1, u2, rfl, ht, hp⟩ R
    exact body C G ⟨htl, hm, hml, ho, fun w hw => hts w (List.mem_cons_of_mem _ hw), hE⟩ (by rw [hrm]; exact ⟨rfl, rfl⟩) (by rw [hrm]; exact ⟨rfl, rfl⟩) hl hnm u0 u1 u2 S V ht hp (fun pc lo r S' V' nc ns d q hc hs => R.2.1 rfl pc lo r S' V' nc ns d ⟨u0, u1, u2, r, rfl, rfl, q⟩ hc hs)
theorem d1_19_0 : decode b_1_19 0 = .ok (.aload_n 0, 1) := by decide +kernel
theorem d1_19_1 : decode b_1_19 1 = .ok (.getfield 10, 3) := by decide +kernel
theorem d1_19_4 : decode b_1_19 4 = .ok (.getfield 155, 3) := by decide +kernel
theorem d1_19_7 : decode b_1_19 7 = .ok (.astore_n 3, 1) := by decide +kernel
theorem d1_19_8 : decode b_1_19 8 = .ok (.aload_n 3, 1) := by decide +kernel
theorem d1_19_9 : decode b_1_19 9 = .ok (.getfield 205, 3) := by decide +kernel
theorem d1_19_12 : decode b_1_19 12 = .ok (.ifCond .ne 10, 3) := by decide +kernel
theorem d1_19_15 : decode b_1_19 15 = .ok (.aload_n 0, 1) := by decide +kernel
theorem d1_19_16 : decode b_1_19 16 = .ok (.bipush (-6), 2) := by decide +kernel
theorem d1_19_18 : decode b_1_19 18 = .ok (.invokevirtual 55, 3) := by decide +kernel
theorem d1_19_21 : decode b_1_19 21 = .ok (.ireturn, 1) := by decide +kernel
theorem d1_19_22 : decode b_1_19 22 = .ok (.aload_n 3, 1) := by decide +kernel
theorem d1_19_23 : decode b_1_19 23 = .ok (.getfield 209, 3) := by decide +kernel
theorem d1_19_26 : decode b_1_19 26 = .ok (.astore 4, 2) := by decide +kernel
theorem d1_19_28 : decode b_1_19 28 = .ok (.iload_n 1, 1) := by decide +kernel
theorem d1_19_29 : decode b_1_19 29 = .ok (.ifCond .lt 12, 3) := by decide +kernel
theorem d1_19_32 : decode b_1_19 32 = .ok (.iload_n 1, 1) := by decide +kernel
theorem d1_19_33 : decode b_1_19 33 = .ok (.aload 4, 2) := by decide +kernel
theorem d1_19_35 : decode b_1_19 35 = .ok (.getfield 210, 3) := by decide +kernel
theorem d1_19_38 : decode b_1_19 38 = .ok (.if_icmp .lt 9, 3) := by decide +kernel
theorem d1_19_41 : decode b_1_19 41 = .ok (.aload_n 0, 1) := by decide +kernel
theorem d1_19_42 : decode b_1_19 42 = .ok (.iconst (-1), 1) := by decide +kernel
theorem d1_19_43 : decode b_1_19 43 = .ok (.invokevirtual 55, 3) := by decide +kernel
theorem d1_19_46 : decode b_1_19 46 = .ok (.ireturn, 1) := by decide +kernel
theorem d1_19_47 : decode b_1_19 47 = .ok (.iload_n 2, 1) := by decide +kernel
theorem d1_19_48 : decode b_1_19 48 = .ok (.tableswitch 76 0 4 #[36, 44, 52, 60, 68], 36) := by decide +kernel
theorem d1_19_84 : decode b_1_19 84 = .ok (.aload 4, 2) := by decide +kernel
theorem d1_19_86 : decode b_1_19 86 = .ok (.getfield 213, 3) := by decide +kernel
theorem d1_19_89 : decode b_1_19 89 = .ok (.iload_n 1, 1) := by decide +kernel
theorem d1_19_90 : decode b_1_19 90 = .ok (.iaload, 1) := by decide +kernel
theorem d1_19_91 : decode b_1_19 91 = .ok (.ireturn, 1) := by decide +kernel
theorem d1_19_92 : decode b_1_19 92 = .ok (.aload 4, 2) := by decide +kernel
theorem d1_19_94 : decode b_1_19 94 = .ok (.getfield 214, 3) := by decide +kernel
theorem d1_19_97 : decode b_1_19 97 = .ok (.iload_n 1, 1) := by decide +kernel
theorem d1_19_98 : decode b_1_19 98 = .ok (.iaload, 1) := by decide +kernel
theorem d1_19_99 : decode b_1_19 99 = .ok (.ireturn, 1) := by decide +kernel
theorem d1_19_100 : decode b_1_19 100 = .ok (.aload 4, 2) := by decide +kernel
theorem d1_19_102 : decode b_1_19 102 = .ok (.getfield 217, 3) := by decide +kernel
theorem d1_19_105 : decode b_1_19 105 = .ok (.iload_n 1, 1) := by decide +kernel
theorem d1_19_106 : decode b_1_19 106 = .ok (.iaload, 1) := by decide +kernel
theorem d1_19_107 : decode b_1_19 107 = .ok (.ireturn, 1) := by decide +kernel
theorem d1_19_108 : decode b_1_19 108 = .ok (.aload 4, 2) := by decide +kernel
theorem d1_19_110 : decode b_1_19 110 = .ok (.getfield 220, 3) := by decide +kernel
theorem d1_19_113 : decode b_1_19 113 = .ok (.iload_n 1, 1) := by decide +kernel
theorem d1_19_114 : decode b_1_19 114 = .ok (.iaload, 1) := by decide +kernel
theorem d1_19_115 : decode b_1_19 115 = .ok (.ireturn, 1) := by decide +kernel
theorem d1_19_116 : decode b_1_19 116 = .ok (.aload 4, 2) := by decide +kernel
theorem d1_19_118 : decode b_1_19 118 = .ok (.getfield 223, 3) := by decide +kernel
theorem d1_19_121 : decode b_1_19 121 = .ok (.iload_n 1, 1) := by decide +kernel
theorem d1_19_122 : decode b_1_19 122 = .ok (.iaload, 1) := by decide +kernel
theorem d1_19_123 : decode b_1_19 123 = .ok (.ireturn, 1) := by decide +kernel
theorem d1_19_124 : decode b_1_19 124 = .ok (.aload_n 0, 1) := by decide +kernel
theorem d1_19_125 : decode b_1_19 125 = .ok (.iconst (-1), 1) := by decide +kernel
theorem d1_19_126 : decode b_1_19 126 = .ok (.invokevirtual 55, 3) := by decide +kernel
theorem d1_19_129 : decode b_1_19 129 = .ok (.ireturn, 1) := by decide +kernel
theorem K1_19_18 {C : qCx} {G : jG} {mc ms : Nat} {p : Int → Int → jS → jH → Prop} {q : Int → Int → jS → jH → Int → jS → jH → Prop} (h : x1_19 C G) (hrm : C.2.2.2.1.frames = 2 ∧ C.2.2.2.1.locals = 47) (hM : M1_27 C.2.1 mc ms p q) : j_Call C b_1_19 n_KT G.1 G.2.1 5 (.invokevirtual 55) mc ms (fun a S V => ∃ u0 u1 : Int, a = [(2, u0), (0, u1)] ∧ S.1 u0 = 31 ∧ p u0 u1 S V) (fun a S V rs S' V' => ∃ u0 u1 r : Int, a = [(2, u0), (0, u1)] ∧ rs = [(0, r)] ∧ q u0 u1 S V r S' V') := j_callV n_NWk h.2.2.2.2.2 h.1 hM ⟨h.2.1.1, h.2.1.2, h.2.2.1, h.2.2.2.1, h.2.2.2.2.1⟩ ⟨n_CB (y := y_1_27) (bytes := b_1_27) 1 h.2.2.2.2.1 n_w309 n_w306 n_w1 ⟨by decide, by decide, by decide +kernel⟩ rfl rfl ⟨by rw [hrm.1]; exact Nat.le_of_ble_eq_true rfl, by rw [hrm.2]; exact Nat.le_of_ble_eq_true rfl⟩, h.2.2.2.2.1 _ n_w308, h.2.2.2.2.1 _ n_s1⟩ (Cn := RX10) (fun a S V hP => by obtain ⟨u0, u1, rfl, e, -⟩ := hP; exact ⟨u0, _, 10, _, _, TX10, 8, rfl, rfl, by rw [e]; decide, by rw [e]; rfl, rfl⟩)
theorem K1_19_43 {C : qCx} {G : jG} {mc ms : Nat} {p : Int → Int → jS → jH → Prop} {q : Int → Int → jS → jH → Int → jS → jH → Prop} (h : x1_19 C G) (hrm : C.2.2.2.1.frames = 2 ∧ C.2.2.2.1.locals = 47) (hM : M1_27 C.2.1 mc ms p q) : j_Call C b_1_19 n_KT G.1 G.2.1 5 (.invokevirtual 55) mc ms (fun a S V => ∃ u0 u1 : Int, a = [(2, u0), (0, u1)] ∧ S.1 u0 = 31 ∧ p u0 u1 S V) (fun a S V rs S' V' => ∃ u0 u1 r : Int, a = [(2, u0), (0, u1)] ∧ rs = [(0, r)] ∧ q u0 u1 S V r S' V') := j_callV n_NWk h.2.2.2.2.2 h.1 hM ⟨h.2.1.1, h.2.1.2, h.2.2.1, h.2.2.2.1, h.2.2.2.2.1⟩ ⟨n_CB (y := y_1_27) (bytes := b_1_27) 1 h.2.2.2.2.1 n_w309 n_w306 n_w1 ⟨by decide, by decide, by decide +kernel⟩ rfl rfl ⟨by rw [hrm.1]; exact Nat.le_of_ble_eq_true rfl, by rw [hrm.2]; exact Nat.le_of_ble_eq_true rfl⟩, h.2.2.2.2.1 _ n_w308, h.2.2.2.2.1 _ n_s1⟩ (Cn := RX10) (fun a S V hP => by obtain ⟨u0, u1, rfl, e, -⟩ := hP; exact ⟨u0, _, 10, _, _, TX10, 8, rfl, rfl, by rw [e]; decide, by rw [e]; rfl, rfl⟩)
theorem K1_19_126 {C : qCx} {G : jG} {mc ms : Nat} {p : Int → Int → jS → jH → Prop} {q : Int → Int → jS → jH → Int → jS → jH → Prop} (h : x1_19 C G) (hrm : C.2.2.2.1.frames = 2 ∧ C.2.2.2.1.locals = 47) (hM : M1_27 C.2.1 mc ms p q) : j_Call C b_1_19 n_KT G.1 G.2.1 5 (.invokevirtual 55) mc ms (fun a S V => ∃ u0 u1 : Int, a = [(2, u0), (0, u1)] ∧ S.1 u0 = 31 ∧ p u0 u1 S V) (fun a S V rs S' V' => ∃ u0 u1 r : Int, a = [(2, u0), (0, u1)] ∧ rs = [(0, r)] ∧ q u0 u1 S V r S' V') := j_callV n_NWk h.2.2.2.2.2 h.1 hM ⟨h.2.1.1, h.2.1.2, h.2.2.1, h.2.2.2.1, h.2.2.2.2.1⟩ ⟨n_CB (y := y_1_27) (bytes := b_1_27) 1 h.2.2.2.2.1 n_w309 n_w306 n_w1 ⟨by decide, by decide, by decide +kernel⟩ rfl rfl ⟨by rw [hrm.1]; exact Nat.le_of_ble_eq_true rfl, by rw [hrm.2]; exact Nat.le_of_ble_eq_true rfl⟩, h.2.2.2.2.1 _ n_w308, h.2.2.2.2.1 _ n_s1⟩ (Cn := RX10) (fun a S V hP => by obtain ⟨u0, u1, rfl, e, -⟩ := hP; exact ⟨u0, _, 10, _, _, TX10, 8, rfl, rfl, by rw [e]; decide, by rw [e]; rfl, rfl⟩)
theorem t1_19_0 {C : qCx} {G : jG} {S : jS} {V : jH} {nc ns : Nat} {l0 l1 l2 : Int} (h : x1_19 C G) (L : j_L S) (c1 : S.1 l0 = 31) (k : ¬ V (l0 + 16) 2 = 0 → j_ok n_KT 5 C G 22 [(0, (2, l0)), (1, (0, l1)), (2, (0, l2)), (3, (2, l0 + 16))] [] S V nc ns) (k' : V (l0 + 16) 2 = 0 → j_ok n_KT 5 C G 15 [(0, (2, l0))] [] S V nc ns) : j_ok n_KT 5 C G 0 [(0, (2, l0)), (1, (0, l1)), (2, (0, l2))] [] S V nc ns := by
  have E := n_E h
  refine j_aload_n E d1_19_0 rfl 0 rfl ?_
  refine j_getS (f := 0) (x := l0 + 1) (fg10_10 h) d1_19_1 c1 (by decide) rfl rfl ((L10_0 L c1).trans (by omega)) ?_
  refine j_getS (f := 3) (x := l0 + 16) (fg10_155 h) d1_19_4 (show S.1 (l0 + 1) = 30 from (by have q := L10_0k L c1; rw [show l0 + 1 = l0 + 1 by omega]; exact q)) (by decide) rfl rfl ((L9_3 L (show S.1 (l0 + 1) = 30 from (by have q := L10_0k L c1; rw [show l0 + 1 = l0 + 1 by omega]; exact q))).trans (by omega)) ?_
  refine j_astore_n E d1_19_7 rfl (by decide) (lo1 := [(0, (2, l0)), (1, (0, l1)), (2, (0, l2))]) rfl ?_
  refine j_aload_n E d1_19_8 rfl 0 rfl ?_
  refine j_getI (f := 2) (fg10_205 h) d1_19_9 (show S.1 (l0 + 16) = 22 from (by have q := L9_3k L (show S.1 (l0 + 1) = 30 from (by have q := L10_0k L c1; rw [show l0 + 1 = l0 + 1 by omega]; exact q)); rw [show l0 + 16 = (l0 + 1) + 15 by omega]; exact q)) (by decide) rfl rfl ?_
  exact j_if_ne E d1_19_12 (t := 22) rfl (fun q => j_pick [1, 2, 3, 0] rfl (k q)) (fun q => j_pick [1] rfl (k' q))
theorem t1_19_15 {C : qCx} {G : jG} {S : jS} {V : jH} {nc ns : Nat} {l0 : Int} {mc ms : Nat} {pp : Int → Int → jS → jH → Prop} {qq : Int → Int → jS → jH → Int → jS → jH → Prop} (h : x1_19 C G) (hrm : C.2.2.2.1.frames = 2 ∧ C.2.2.2.1.locals = 47) (c1 : S.1 l0 = 31) (hM : M1_27 C.2.1 mc ms pp qq) (hp : pp l0 ((-6)) S V) (hc : nc + mc ≤ C.2.2.2.1.cells) (hs : ns + ms ≤ C.2.2.2.1.slots) (k : ∀ (r : Int) (S' : jS) (V' : jH), qq l0 ((-6)) S V r S' V' → j_ok n_KT 5 C G 21 [] [(0, r)] S' V' (nc + mc) (ns + ms)) : j_ok n_KT 5 C G 15 [(0, (2, l0))] [] S V nc ns := by
  have E := n_E h
  refine j_aload_n E d1_19_15 rfl 0 rfl ?_
  refine j_bipush E d1_19_16 (by decide) ?_
  refine j_call E (K1_19_18 h hrm hM) d1_19_18 (a := [(2, l0), (0, (-6))]) (sk := []) rfl ⟨l0, (-6), rfl, c1, hp⟩ (Nat.le_of_ble_eq_true rfl) hc hs ?_
  rintro rs S' V' ⟨z0, z1, r, e1, rfl, q⟩
  simp only [List.cons.injEq, Prod.mk.injEq, and_true, true_and] at e1
  obtain ⟨rfl, rfl⟩ := e1
  exact j_pick [] rfl (k r S' V' q)
theorem t1_19_21 {C : qCx} {G : jG} {S : jS} {V : jH} {nc ns : Nat} {s0 : Int} {mc ms : Nat} {qf : Int → jS → jH → Prop} (h : x1_19 C G)  (R : j_Ri n_KT 5 C G b_1_19 mc ms qf) (q : qf s0 S V) (hc : nc ≤ mc) (hs : ns ≤ ms) : j_ok n_KT 5 C G 21 [] [(0, s0)] S V nc ns := by
  have E := n_E h
  exact R _ _ _ _ _ _ _ d1_19_21 q hc hs
theorem t1_19_22 {C : qCx} {G : jG} {S : jS} {V : jH} {nc ns : Nat} {l0 l1 l2 l3 : Int} (h : x1_19 C G) (L : j_L S) (c1 : S.1 l3 = 22) (k : l1 < 0 → j_ok n_KT 5 C G 41 [(0, (2, l0))] [] S V nc ns) (k' : 0 ≤ l1 → j_ok n_KT 5 C G 32 [(0, (2, l0)), (1, (0, l1)), (2, (0, l2)), (4, (2, l3 + 2))] [] S V nc ns) : j_ok n_KT 5 C G 22 [(0, (2, l0)), (1, (0, l1)), (2, (0, l2)), (3, (2, l3))] [] S V nc ns := by
  have E := n_E h
  refine j_aload_n E d1_19_22 rfl 3 rfl ?_
  refine j_getS (f := 3) (x := l3 + 2) (fg10_209 h) d1_19_23 c1 (by decide) rfl rfl ((L1_3 L c1).trans (by omega)) ?_
  refine j_astore E d1_19_26 (by decide) (lo1 := [(0, (2, l0)), (1, (0, l1)), (2, (0, l2)), (3, (2, l3))]) rfl ?_
  refine j_iload_n E d1_19_28 rfl 2 rfl ?_
  exact j_if_lt E d1_19_29 (t := 41) rfl (fun q => j_pick [1] rfl (k q)) (fun q => j_pick [1, 2, 3, 0] rfl (k' q))
theorem t1_19_32 {C : qCx} {G : jG} {S : jS} {V : jH} {nc ns : Nat} {l0 l1 l2 l4 : Int} (h : x1_19 C G) (c1 : S.1 l4 = 28) (k : l1 < V l4 5 → j_ok n_KT 5 C G 47 [(0, (2, l0)), (1, (0, l1)), (2, (0, l2)), (4, (2, l4))] [] S V nc ns) (k' : V l4 5 ≤ l1 → j_ok n_KT 5 C G 41 [(0, (2, l0))] [] S V nc ns) : j_ok n_KT 5 C G 32 [(0, (2, l0)), (1, (0, l1)), (2, (0, l2)), (4, (2, l4))] [] S V nc ns := by
  have E := n_E h
  refine j_iload_n E d1_19_32 rfl 1 rfl ?_
  refine j_aload E d1_19_33 3 rfl ?_
  refine j_getI (f := 5) (fg10_210 h) d1_19_35 c1 (by decide) rfl rfl ?_
  exact j_icmp_lt E d1_19_38 (t := 47) rfl (fun q => j_pick [0, 1, 2, 3] rfl (k q)) (fun q => j_pick [0] rfl (k' q))
theorem t1_19_41 {C : qCx} {G : jG} {S : jS} {V : jH} {nc ns : Nat} {l0 : Int} {mc ms : Nat} {pp : Int → Int → jS → jH → Prop} {qq : Int → Int → jS → jH → Int → jS → jH → Prop} (h : x1_19 C G) (hrm : C.2.2.2.1.frames = 2 ∧ C.2.2.2.1.locals = 47) (c1 : S.1 l0 = 31) (hM : M1_27 C.2.1 mc ms pp qq) (hp : pp l0 ((-1)) S V) (hc : nc + mc ≤ C.2.2.2.1.cells) (hs : ns + ms ≤ C.2.2.2.1.slots) (k : ∀ (r : Int) (S' : jS) (V' : jH), qq l0 ((-1)) S V r S' V' → j_ok n_KT 5 C G 46 [] [(0, r)] S' V' (nc + mc) (ns + ms)) : j_ok n_KT 5 C G 41 [(0, (2, l0))] [] S V nc ns := by
  have E := n_E h
  refine j_aload_n E d1_19_41 rfl 0 rfl ?_
  refine j_iconst E d1_19_42 (by decide) ?_
  refine j_call E (K1_19_43 h hrm hM) d1_19_43 (a := [(2, l0), (0, (-1))]) (sk := []) rfl ⟨l0, (-1), rfl, c1, hp⟩ (Nat.le_of_ble_eq_true rfl) hc hs ?_
  rintro rs S' V' ⟨z0, z1, r, e1, rfl, q⟩
  simp only [List.cons.injEq, Prod.mk.injEq, and_true, true_and] at e1
  obtain ⟨rfl, rfl⟩ := e1
  exact j_pick [] rfl (k r S' V' q)
theorem t1_19_46 {C : qCx} {G : jG} {S : jS} {V : jH} {nc ns : Nat} {s0 : Int} {mc ms : Nat} {qf : Int → jS → jH → Prop} (h : x1_19 C G)  (R : j_Ri n_KT 5 C G b_1_19 mc ms qf) (q : qf s0 S V) (hc : nc ≤ mc) (hs : ns ≤ ms) : j_ok n_KT 5 C G 46 [] [(0, s0)] S V nc ns := by
  have E := n_E h
  exact R _ _ _ _ _ _ _ d1_19_46 q hc hs
theorem t1_19_47 {C : qCx} {G : jG} {S : jS} {V : jH} {nc ns : Nat} {l0 l1 l2 l4 : Int} (h : x1_19 C G)  (k : l2 < 0 ∨ 4 < l2 → j_ok n_KT 5 C G 124 [(0, (2, l0))] [] S V nc ns) (k0 : l2 = 0 → j_ok n_KT 5 C G 84 [(1, (0, l1)), (4, (2, l4))] [] S V nc ns) (k1 : l2 = 1 → j_ok n_KT 5 C G 92 [(1, (0, l1)), (4, (2, l4))] [] S V nc ns) (k2 : l2 = 2 → j_ok n_KT 5 C G 100 [(1, (0, l1)), (4, (2, l4))] [] S V nc ns) (k3 : l2 = 3 → j_ok n_KT 5 C G 108 [(1, (0, l1)), (4, (2, l4))] [] S V nc ns) (k4 : l2 = 4 → j_ok n_KT 5 C G 116 [(1, (0, l1)), (4, (2, l4))] [] S V nc ns) : j_ok n_KT 5 C G 47 [(0, (2, l0)), (1, (0, l1)), (2, (0, l2)), (4, (2, l4))] [] S V nc ns := by
  have E := n_E h
  refine j_iload_n E d1_19_47 rfl 2 rfl ?_
  by_cases q : l2 < 0 ∨ 4 < l2
  · exact j_tableOut E d1_19_48 q (t := 124) rfl (j_pick [0] rfl (k q))
  by_cases q0 : l2 = 0
  · exact j_tableIn E d1_19_48 (off := 36) (by omega) (by omega) (by rw [q0]; rfl) (t := 84) rfl (j_pick [1, 3] rfl (k0 q0))
  by_cases q1 : l2 = 1
  · exact j_tableIn E d1_19_48 (off := 44) (by omega) (by omega) (by rw [q1]; rfl) (t := 92) rfl (j_pick [1, 3] rfl (k1 q1))
  by_cases q2 : l2 = 2
  · exact j_tableIn E d1_19_48 (off := 52) (by omega) (by omega) (by rw [q2]; rfl) (t := 100) rfl (j_pick [1, 3] rfl (k2 q2))
  by_cases q3 : l2 = 3
  · exact j_tableIn E d1_19_48 (off := 60) (by omega) (by omega) (by rw [q3]; rfl) (t := 108) rfl (j_pick [1, 3] rfl (k3 q3))
  have q4 : l2 = 4 := by omega
  exact j_tableIn E d1_19_48 (off := 68) (by omega) (by omega) (by rw [q4]; rfl) (t := 116) rfl (j_pick [1, 3] rfl (k4 q4))
theorem t1_19_84 {C : qCx} {G : jG} {S : jS} {V : jH} {nc ns : Nat} {l1 l4 : Int} {mc ms : Nat} {qf : Int → jS → jH → Prop} (h : x1_19 C G) (L : j_L S) (c1 : S.1 l4 = 28) (c2 : 0 ≤ l1) (c3 : l1 < 400) (R : j_Ri n_KT 5 C G b_1_19 mc ms qf) (q : qf (V (l4 + 1) l1) S V) (hc : nc ≤ mc) (hs : ns ≤ ms) : j_ok n_KT 5 C G 84 [(1, (0, l1)), (4, (2, l4))] [] S V nc ns := by
  have E := n_E h
  refine j_aload E d1_19_84 1 rfl ?_
  refine j_getS (f := 0) (x := l4 + 1) (fg10_213 h) d1_19_86 c1 (by decide) rfl rfl ((L7_0 L c1).trans (by omega)) ?_
  refine j_iload_n E d1_19_89 rfl 0 rfl ?_
  refine j_iald E d1_19_90 (j_arr_of (show S.1 (l4 + 1) = 1 from (by have q := L7_0k L c1; rw [show l4 + 1 = l4 + 1 by omega]; exact q)) (by decide) rfl) c2 c3 ?_
  exact R _ _ _ _ _ _ _ d1_19_91 q hc hs
theorem t1_19_92 {C : qCx} {G : jG} {S : jS} {V : jH} {nc ns : Nat} {l1 l4 : Int} {mc ms : Nat} {qf : Int → jS → jH → Prop} (h : x1_19 C G) (L : j_L S) (c1 : S.1 l4 = 28) (c2 : 0 ≤ l1) (c3 : l1 < 400) (R : j_Ri n_KT 5 C G b_1_19 mc ms qf) (q : qf (V (l4 + 2) l1) S V) (hc : nc ≤ mc) (hs : ns ≤ ms) : j_ok n_KT 5 C G 92 [(1, (0, l1)), (4, (2, l4))] [] S V nc ns := by
  have E := n_E h
  refine j_aload E d1_19_92 1 rfl ?_
  refine j_getS (f := 1) (x := l4 + 2) (fg10_214 h) d1_19_94 c1 (by decide) rfl rfl ((L7_1 L c1).trans (by omega)) ?_
  refine j_iload_n E d1_19_97 rfl 0 rfl ?_
  refine j_iald E d1_19_98 (j_arr_of (show S.1 (l4 + 2) = 1 from (by have q := L7_1k L c1; rw [show l4 + 2 = l4 + 2 by omega]; exact q)) (by decide) rfl) c2 c3 ?_
  exact R _ _ _ _ _ _ _ d1_19_99 q hc hs
theorem t1_19_100 {C : qCx} {G : jG} {S : jS} {V : jH} {nc ns : Nat} {l1 l4 : Int} {mc ms : Nat} {qf : Int → jS → jH → Prop} (h : x1_19 C G) (L : j_L S) (c1 : S.1 l4 = 28) (c2 : 0 ≤ l1) (c3 : l1 < 400) (R : j_Ri n_KT 5 C G b_1_19 mc ms qf) (q : qf (V (l4 + 3) l1) S V) (hc : nc ≤ mc) (hs : ns ≤ ms) : j_ok n_KT 5 C G 100 [(1, (0, l1)), (4, (2, l4))] [] S V nc ns := by
  have E := n_E h
  refine j_aload E d1_19_100 1 rfl ?_
  refine j_getS (f := 2) (x := l4 + 3) (fg10_217 h) d1_19_102 c1 (by decide) rfl rfl ((L7_2 L c1).trans (by omega)) ?_
  refine j_iload_n E d1_19_105 rfl 0 rfl ?_
  refine j_iald E d1_19_106 (j_arr_of (show S.1 (l4 + 3) = 1 from (by have q := L7_2k L c1; rw [show l4 + 3 = l4 + 3 by omega]; exact q)) (by decide) rfl) c2 c3 ?_
  exact R _ _ _ _ _ _ _ d1_19_107 q hc hs
theorem t1_19_108 {C : qCx} {G : jG} {S : jS} {V : jH} {nc ns : Nat} {l1 l4 : Int} {mc ms : Nat} {qf : Int → jS → jH → Prop} (h : x1_19 C G) (L : j_L S) (c1 : S.1 l4 = 28) (c2 : 0 ≤ l1) (c3 : l1 < 400) (R : j_Ri n_KT 5 C G b_1_19 mc ms qf) (q : qf (V (l4 + 4) l1) S V) (hc : nc ≤ mc) (hs : ns ≤ ms) : j_ok n_KT 5 C G 108 [(1, (0, l1)), (4, (2, l4))] [] S V nc ns := by
  have E := n_E h
  refine j_aload E d1_19_108 1 rfl ?_
  refine j_getS (f := 3) (x := l4 + 4) (fg10_220 h) d1_19_110 c1 (by decide) rfl rfl ((L7_3 L c1).trans (by omega)) ?_
  refine j_iload_n E d1_19_113 rfl 0 rfl ?_
  refine j_iald E d1_19_114 (j_arr_of (show S.1 (l4 + 4) = 1 from (by have q := L7_3k L c1; rw [show l4 + 4 = l4 + 4 by omega]; exact q)) (by decide) rfl) c2 c3 ?_
  exact R _ _ _ _ _ _ _ d1_19_115 q hc hs
theorem t1_19_116 {C : qCx} {G : jG} {S : jS} {V : jH} {nc ns : Nat} {l1 l4 : Int} {mc ms : Nat} {qf : Int → jS → jH → Prop} (h : x1_19 C G) (L : j_L S) (c1 : S.1 l4 = 28) (c2 : 0 ≤ l1) (c3 : l1 < 400) (R : j_Ri n_KT 5 C G b_1_19 mc ms qf) (q : qf (V (l4 + 5) l1) S V) (hc : nc ≤ mc) (hs : ns ≤ ms) : j_ok n_KT 5 C G 116 [(1, (0, l1)), (4, (2, l4))] [] S V nc ns := by
  have E := n_E h
  refine j_aload E d1_19_116 1 rfl ?_
  refine j_getS (f := 4) (x := l4 + 5) (fg10_223 h) d1_19_118 c1 (by decide) rfl rfl ((L7_4 L c1).trans (by omega)) ?_
  refine j_iload_n E d1_19_121 rfl 0 rfl ?_
  refine j_iald E d1_19_122 (j_arr_of (show S.1 (l4 + 5) = 1 from (by have q := L7_4k L c1; rw [show l4 + 5 = l4 + 5 by omega]; exact q)) (by decide) rfl) c2 c3 ?_
  exact R _ _ _ _ _ _ _ d1_19_123 q hc hs
theorem t1_19_124 {C : qCx} {G : jG} {S : jS} {V : jH} {nc ns : Nat} {l0 : Int} {mc ms : Nat} {pp : Int → Int → jS → jH → Prop} {qq : Int → Int → jS → jH → Int → jS → jH → Prop} (h : x1_19 C G) (hrm : C.2.2.2.1.frames = 2 ∧ C.2.2.2.1.locals = 47) (c1 : S.1 l0 = 31) (hM : M1_27 C.2.1 mc ms pp qq) (hp : pp l0 ((-1)) S V) (hc : nc + mc ≤ C.2.2.2.1.cells) (hs : ns + ms ≤ C.2.2.2.1.slots) (k : ∀ (r : Int) (S' : jS) (V' : jH), qq l0 ((-1)) S V r S' V' → j_ok n_KT 5 C G 129 [] [(0, r)] S' V' (nc + mc) (ns + ms)) : j_ok n_KT 5 C G 124 [(0, (2, l0))] [] S V nc ns := by
  have E := n_E h
  refine j_aload_n E d1_19_124 rfl 0 rfl ?_
  refine j_iconst E d1_19_125 (by decide) ?_
  refine j_call E (K1_19_126 h hrm hM) d1_19_126 (a := [(2, l0), (0, (-1))]) (sk := []) rfl ⟨l0, (-1), rfl, c1, hp⟩ (Nat.le_of_ble_eq_true rfl) hc hs ?_
  rintro rs S' V' ⟨z0, z1, r, e1, rfl, q⟩
  simp only [List.cons.injEq, Prod.mk.injEq, and_true, true_and] at e1
  obtain ⟨rfl, rfl⟩ := e1
  exact j_pick [] rfl (k r S' V' q)
theorem t1_19_129 {C : qCx} {G : jG} {S : jS} {V : jH} {nc ns : Nat} {s0 : Int} {mc ms : Nat} {qf : Int → jS → jH → Prop} (h : x1_19 C G)  (R : j_Ri n_KT 5 C G b_1_19 mc ms qf) (q : qf s0 S V) (hc : nc ≤ mc) (hs : ns ≤ ms) : j_ok n_KT 5 C G 129 [] [(0, s0)] S V nc ns := by
  have E := n_E h
  exact R _ _ _ _ _ _ _ d1_19_129 q hc hs
/- BalanceCoder$Block.markCount()I -/
abbrev b_3_3 : ByteArray := prog_3_method_3_code
def y_3_3 : MethodName := ⟨"BalanceCoder$Block", "markCount", "()I"⟩
abbrev x3_3 (C : qCx) (G : jG) : Prop := n_ctx C b_3_3 1 "BalanceCoder$Block" G.1 G.2.1
def M3_3 (l : Launch) (mc ms : Nat) (p : Int → jS → jH → Prop) (q : Int → jS → jH → Int → jS → jH → Prop) : Prop := j_Met l vwCl n_TL n_NW n_KT y_3_3 (Cond.code y_3_3 b_3_3 1 (some .int) :: n_GW) { frames := 1, cells := mc, slots := ms, locals := 26 } mc ms (fun a S V => ∃ u0 : Int, a = [(2, u0)] ∧ S.1 u0 = 22 ∧ p u0 S V) (fun a S V rs S' V' => ∃ u0 r : Int, a = [(2, u0)] ∧ rs = [(0, r)] ∧ q u0 S V r S' V')
theorem e3_3 {l : Launch} {mc ms : Nat} {p : Int → jS → jH → Prop} {q : Int → jS → jH → Int → jS → jH → Prop} (body : ∀ (C : qCx) (G : jG), x3_3 C G → C.2.2.2.1.frames = 1 ∧ C.2.2.2.1.locals = 26 → C.2.2.2.1.cells = mc ∧ C.2.2.2.1.slots = ms → C.2.1 = l → C.2.2.2.2.2.2.2.2.1.name = "markCount" → ∀ (u0 : Int) (S : jS) (V : jH), S.1 u0 = 22 → p u0 S V → j_Ri n_KT 1 C G b_3_3 mc ms (q u0 S V) → j_ok n_KT 1 C G 0 [(0, (2, u0))] [] S V 0 0) : M3_3 l mc ms p q := by
  refine j_method (ws' := n_GW) (by decide) rfl ?_ ?_
  · rintro a S V ⟨u0, rfl, -⟩
    exact Nat.le_of_ble_eq_true rfl
  · rintro C G htl hl hrm hm hml ho hts hnm hE a S V ⟨u0, rfl, ht, hp⟩ R
    exact body C G ⟨htl, hm, hml, ho, fun w hw => hts w (List.mem_cons_of_mem _ hw), hE⟩ (by rw [hrm]; exact ⟨rfl, rfl⟩) (by rw [hrm]; exact ⟨rfl, rfl⟩) hl hnm u0 S V ht hp (fun pc lo r S' V' nc ns d q hc hs => R.2.1 rfl pc lo r S' V' nc ns d ⟨u0, r, rfl, rfl, q⟩ hc hs)
theorem d3_3_0 : decode b_3_3 0 = .ok (.aload_n 0, 1) := by decide +kernel
theorem d3_3_1 : decode b_3_3 1 = .ok (.getfield 30, 3) := by decide +kernel
theorem d3_3_4 : decode b_3_3 4 = .ok (.iconst 1, 1) := by decide +kernel
theorem d3_3_5 : decode b_3_3 5 = .ok (.if_icmp .ge 7, 3) := by decide +kernel
theorem d3_3_8 : decode b_3_3 8 = .ok (.iconst 0, 1) := by decide +kernel
theorem d3_3_9 : decode b_3_3 9 = .ok (.goto 22, 3) := by decide +kernel
theorem d3_3_12 : decode b_3_3 12 = .ok (.aload_n 0, 1) := by decide +kernel
theorem d3_3_13 : decode b_3_3 13 = .ok (.getfield 26, 3) := by decide +kernel
theorem d3_3_16 : decode b_3_3 16 = .ok (.getfield 43, 3) := by decide +kernel
theorem d3_3_19 : decode b_3_3 19 = .ok (.aload_n 0, 1) := by decide +kernel
theorem d3_3_20 : decode b_3_3 20 = .ok (.getfield 30, 3) := by decide +kernel
theorem d3_3_23 : decode b_3_3 23 = .ok (.iadd, 1) := by decide +kernel
theorem d3_3_24 : decode b_3_3 24 = .ok (.iconst 1, 1) := by decide +kernel
theorem d3_3_25 : decode b_3_3 25 = .ok (.isub, 1) := by decide +kernel
theorem d3_3_26 : decode b_3_3 26 = .ok (.aload_n 0, 1) := by decide +kernel
theorem d3_3_27 : decode b_3_3 27 = .ok (.getfield 30, 3) := by decide +kernel
theorem d3_3_30 : decode b_3_3 30 = .ok (.idiv, 1) := by decide +kernel
theorem d3_3_31 : decode b_3_3 31 = .ok (.ireturn, 1) := by decide +kernel
theorem t3_3_0 {C : qCx} {G : jG} {S : jS} {V : jH} {nc ns : Nat} {l0 : Int} (h : x3_3 C G) (c1 : S.1 l0 = 22) (k : 1 ≤ V l0 4 → j_ok n_KT 1 C G 12 [(0, (2, l0))] [] S V nc ns) (k' : V l0 4 < 1 → j_ok n_KT 1 C G 8 [] [] S V nc ns) : j_ok n_KT 1 C G 0 [(0, (2, l0))] [] S V nc ns := by
  have E := n_E h
  refine j_aload_n E d3_3_0 rfl 0 rfl ?_
  refine j_getI (f := 4) (fg1_30 h) d3_3_1 c1 (by decide) rfl rfl ?_
  refine j_iconst E d3_3_4 (by decide) ?_
  exact j_icmp_ge E d3_3_5 (t := 12) rfl (fun q => j_pick [0] rfl (k q)) (fun q => j_pick [] rfl (k' q))
theorem t3_3_8 {C : qCx} {G : jG} {S : jS} {V : jH} {nc ns : Nat} (h : x3_3 C G)  (k : j_ok n_KT 1 C G 31 [] [(0, 0)] S V nc ns) : j_ok n_KT 1 C G 8 [] [] S V nc ns := by
  have E := n_E h
  refine j_iconst E d3_3_8 (by decide) ?_
  refine j_goto E d3_3_9 (t := 31) rfl ?_
  exact j_pick [] rfl k
theorem t3_3_12 {C : qCx} {G : jG} {S : jS} {V : jH} {nc ns : Nat} {l0 : Int} (h : x3_3 C G) (L : j_L S) (c1 : S.1 l0 = 22) (c2 : -2147483648 ≤ (V (l0 + 2) 5) + (V l0 4) ∧ (V (l0 + 2) 5) + (V l0 4) ≤ 2147483647) (c3 : -2147483648 ≤ ((V (l0 + 2) 5) + (V l0 4)) - 1 ∧ ((V (l0 + 2) 5) + (V l0 4)) - 1 ≤ 2147483647) (c4 : 0 ≤ ((V (l0 + 2) 5) + (V l0 4)) - 1) (c5 : 1 ≤ V l0 4) (k : j_ok n_KT 1 C G 31 [] [(0, (((V (l0 + 2) 5) + (V l0 4)) - 1) / (V l0 4))] S V nc ns) : j_ok n_KT 1 C G 12 [(0, (2, l0))] [] S V nc ns := by
  have E := n_E h
  refine j_aload_n E d3_3_12 rfl 0 rfl ?_
  refine j_getS (f := 3) (x := l0 + 2) (fg1_26 h) d3_3_13 c1 (by decide) rfl rfl ((L1_3 L c1).trans (by omega)) ?_
  refine j_getI (f := 5) (fg1_43 h) d3_3_16 (show S.1 (l0 + 2) = 28 from (by have q := L1_3k L c1; rw [show l0 + 2 = l0 + 2 by omega]; exact q)) (by decide) rfl rfl ?_
  refine j_aload_n E d3_3_19 rfl 0 rfl ?_
  refine j_getI (f := 4) (fg1_30 h) d3_3_20 c1 (by decide) rfl rfl ?_
  refine j_iadd E d3_3_23 c2 ?_
  refine j_iconst E d3_3_24 (by decide) ?_
  refine j_isub E d3_3_25 c3 ?_
  refine j_aload_n E d3_3_26 rfl 0 rfl ?_
  refine j_getI (f := 4) (fg1_30 h) d3_3_27 c1 (by decide) rfl rfl ?_
  refine j_idiv E d3_3_30 c4 c5 ?_
  exact j_pick [] rfl k
theorem t3_3_31 {C : qCx} {G : jG} {S : jS} {V : jH} {nc ns : Nat} {s0 : Int} {mc ms : Nat} {qf : Int → jS → jH → Prop} (h : x3_3 C G)  (R : j_Ri n_KT 1 C G b_3_3 mc ms qf) (q : qf s0 S V) (hc : nc ≤ mc) (hs : ns ≤ ms) : j_ok n_KT 1 C G 31 [] [(0, s0)] S V nc ns := by
  have E := n_E h
  exact R _ _ _ _ _ _ _ d3_3_31 q hc hs
/- BalanceCoder.mark(I)I -/
abbrev b_1_20 : ByteArray := prog_1_method_20_code
def y_1_20 : MethodName := ⟨"BalanceCoder", "mark", "(I)I"⟩
abbrev x1_20 (C : qCx) (G : jG) : Prop := n_ctx C b_1_20 3 "BalanceCoder" G.1 G.2.1
def M1_20 (l : Launch) (mc ms : Nat) (p : Int → Int → jS → jH → Prop) (q : Int → Int → jS → jH → Int → jS → jH → Prop) : Prop := j_Met l vwCl n_TL n_NW n_KT y_1_20 (Cond.code y_1_20 b_1_20 3 (some .int) :: n_GW) { frames := 2, cells := mc, slots := ms, locals := 47 } mc ms (fun a S V => ∃ u0 u1 : Int, a = [(2, u0), (0, u1)] ∧ S.1 u0 = 31 ∧ p u0 u1 S V) (fun a S V rs S' V' => ∃ u0 u1 r : Int, a = [(2, u0), (0, u1)] ∧ rs = [(0, r)] ∧ q u0 u1 S V r S' V')
theorem e1_20 {l : Launch} {mc ms : Nat} {p : Int → Int → jS → jH → Prop} {q : Int → Int → jS → jH → Int → jS → jH → Prop} (body : ∀ (C : qCx) (G : jG), x1_20 C G → C.2.2.2.1.frames = 2 ∧ C.2.2.2.1.locals = 47 → C.2.2.2.1.cells = mc ∧ C.2.2.2.1.slots = ms → C.2.1 = l → C.2.2.2.2.2.2.2.2.1.name = "mark" → ∀ (u0 u1 : Int) (S : jS) (V : jH), S.1 u0 = 31 → p u0 u1 S V → j_Ri n_KT 3 C G b_1_20 mc ms (q u0 u1 S V) → j_ok n_KT 3 C G 0 [(0, (2, u0)), (1, (0, u1))] [] S V 0 0) : M1_20 l mc ms p q := by
  refine j_method (ws' := n_GW) (by decide) rfl ?_ ?_
  · rintro a S V ⟨u0, u1, rfl, -⟩
    exact Nat.le_of_ble_eq_true rfl
  · rintro C G htl hl hrm hm hml ho hts hnm hE a S V ⟨u0, u1, rfl, ht, hp⟩ R
    exact body C G ⟨htl, hm, hml, ho, fun w hw => hts w (List.mem_cons_of_mem _ hw), hE⟩ (by rw [hrm]; exact ⟨rfl, rfl⟩) (by rw [hrm]; exact ⟨rfl, rfl⟩) hl hnm u0 u1 S V ht hp (fun pc lo r S' V' nc ns d q hc hs => R.2.1 rfl pc lo r S' V' nc ns d ⟨u0, u1, r, rfl, rfl, q⟩ hc hs)
theorem d1_20_0 : decode b_1_20 0 = .ok (.aload_n 0, 1) := by decide +kernel
theorem d1_20_1 : decode b_1_20 1 = .ok (.getfield 10, 3) := by decide +kernel
theorem d1_20_4 : decode b_1_20 4 = .ok (.getfield 155, 3) := by decide +kernel
theorem d1_20_7 : decode b_1_20 7 = .ok (.astore_n 2, 1) := by decide +kernel
theorem d1_20_8 : decode b_1_20 8 = .ok (.aload_n 2, 1) := by decide +kernel
theorem d1_20_9 : decode b_1_20 9 = .ok (.getfield 205, 3) := by decide +kernel
theorem d1_20_12 : decode b_1_20 12 = .ok (.ifCond .ne 10, 3) := by decide +kernel
theorem d1_20_15 : decode b_1_20 15 = .ok (.aload_n 0, 1) := by decide +kernel
theorem d1_20_16 : decode b_1_20 16 = .ok (.bipush (-6), 2) := by decide +kernel
theorem d1_20_18 : decode b_1_20 18 = .ok (.invokevirtual 55, 3) := by decide +kernel
theorem d1_20_21 : decode b_1_20 21 = .ok (.ireturn, 1) := by decide +kernel
theorem d1_20_22 : decode b_1_20 22 = .ok (.iload_n 1, 1) := by decide +kernel
theorem d1_20_23 : decode b_1_20 23 = .ok (.iconst 1, 1) := by decide +kernel
theorem d1_20_24 : decode b_1_20 24 = .ok (.if_icmp .lt 10, 3) := by decide +kernel
theorem d1_20_27 : decode b_1_20 27 = .ok (.iload_n 1, 1) := by decide +kernel
theorem d1_20_28 : decode b_1_20 28 = .ok (.sipush 400, 3) := by decide +kernel
theorem d1_20_31 : decode b_1_20 31 = .ok (.if_icmp .le 9, 3) := by decide +kernel
theorem d1_20_34 : decode b_1_20 34 = .ok (.aload_n 0, 1) := by decide +kernel
theorem d1_20_35 : decode b_1_20 35 = .ok (.iconst (-1), 1) := by decide +kernel
theorem d1_20_36 : decode b_1_20 36 = .ok (.invokevirtual 55, 3) := by decide +kernel
theorem d1_20_39 : decode b_1_20 39 = .ok (.ireturn, 1) := by decide +kernel
theorem d1_20_40 : decode b_1_20 40 = .ok (.aload_n 2, 1) := by decide +kernel
theorem d1_20_41 : decode b_1_20 41 = .ok (.getfield 183, 3) := by decide +kernel
theorem d1_20_44 : decode b_1_20 44 = .ok (.iconst 0, 1) := by decide +kernel
theorem d1_20_45 : decode b_1_20 45 = .ok (.iaload, 1) := by decide +kernel
theorem d1_20_46 : decode b_1_20 46 = .ok (.iconst 4, 1) := by decide +kernel
theorem d1_20_47 : decode b_1_20 47 = .ok (.if_icmp .ne 10, 3) := by decide +kernel
theorem d1_20_50 : decode b_1_20 50 = .ok (.aload_n 0, 1) := by decide +kernel
theorem d1_20_51 : decode b_1_20 51 = .ok (.bipush (-3), 2) := by decide +kernel
theorem d1_20_53 : decode b_1_20 53 = .ok (.invokevirtual 55, 3) := by decide +kernel
theorem d1_20_56 : decode b_1_20 56 = .ok (.ireturn, 1) := by decide +kernel
theorem d1_20_57 : decode b_1_20 57 = .ok (.aload_n 2, 1) := by decide +kernel
theorem d1_20_58 : decode b_1_20 58 = .ok (.iload_n 1, 1) := by decide +kernel
theorem d1_20_59 : decode b_1_20 59 = .ok (.putfield 224, 3) := by decide +kernel
theorem d1_20_62 : decode b_1_20 62 = .ok (.aload_n 2, 1) := by decide +kernel
theorem d1_20_63 : decode b_1_20 63 = .ok (.invokevirtual 227, 3) := by decide +kernel
theorem d1_20_66 : decode b_1_20 66 = .ok (.ireturn, 1) := by decide +kernel
theorem K1_20_18 {C : qCx} {G : jG} {mc ms : Nat} {p : Int → Int → jS → jH → Prop} {q : Int → Int → jS → jH → Int → jS → jH → Prop} (h : x1_20 C G) (hrm : C.2.2.2.1.frames = 2 ∧ C.2.2.2.1.locals = 47) (hM : M1_27 C.2.1 mc ms p q) : j_Call C b_1_20 n_KT G.1 G.2.1 3 (.invokevirtual 55) mc ms (fun a S V => ∃ u0 u1 : Int, a = [(2, u0), (0, u1)] ∧ S.1 u0 = 31 ∧ p u0 u1 S V) (fun a S V rs S' V' => ∃ u0 u1 r : Int, a = [(2, u0), (0, u1)] ∧ rs = [(0, r)] ∧ q u0 u1 S V r S' V') := j_callV n_NWk h.2.2.2.2.2 h.1 hM ⟨h.2.1.1, h.2.1.2, h.2.2.1, h.2.2.2.1, h.2.2.2.2.1⟩ ⟨n_CB (y := y_1_27) (bytes := b_1_27) 1 h.2.2.2.2.1 n_w309 n_w306 n_w1 ⟨by decide, by decide, by decide +kernel⟩ rfl rfl ⟨by rw [hrm.1]; exact Nat.le_of_ble_eq_true rfl, by rw [hrm.2]; exact Nat.le_of_ble_eq_true rfl⟩, h.2.2.2.2.1 _ n_w308, h.2.2.2.2.1 _ n_s1⟩ (Cn := RX10) (fun a S V hP => by obtain ⟨u0, u1, rfl, e, -⟩ := hP; exact ⟨u0, _, 10, _, _, TX10, 8, rfl, rfl, by rw [e]; decide, by rw [e]; rfl, rfl⟩)
theorem K1_20_36 {C : qCx} {G : jG} {mc ms : Nat} {p : Int → Int → jS → jH → Prop} {q : Int → Int → jS → jH → Int → jS → jH → Prop} (h : x1_20 C G) (hrm : C.2.2.2.1.frames = 2 ∧ C.2.2.2.1.locals = 47) (hM : M1_27 C.2.1 mc ms p q) : j_Call C b_1_20 n_KT G.1 G.2.1 3 (.invokevirtual 55) mc ms (fun a S V => ∃ u0 u1 : Int, a = [(2, u0), (0, u1)] ∧ S.1 u0 = 31 ∧ p u0 u1 S V) (fun a S V rs S' V' => ∃ u0 u1 r : Int, a = [(2, u0), (0, u1)] ∧ rs = [(0, r)] ∧ q u0 u1 S V r S' V') := j_callV n_NWk h.2.2.2.2.2 h.1 hM ⟨h.2.1.1, h.2.1.2, h.2.2.1, h.2.2.2.1, h.2.2.2.2.1⟩ ⟨n_CB (y := y_1_27) (bytes := b_1_27) 1 h.2.2.2.2.1 n_w309 n_w306 n_w1 ⟨by decide, by decide, by decide +kernel⟩ rfl rfl ⟨by rw [hrm.1]; exact Nat.le_of_ble_eq_true rfl, by rw [hrm.2]; exact Nat.le_of_ble_eq_true rfl⟩, h.2.2.2.2.1 _ n_w308, h.2.2.2.2.1 _ n_s1⟩ (Cn := RX10) (fun a S V hP => by obtain ⟨u0, u1, rfl, e, -⟩ := hP; exact ⟨u0, _, 10, _, _, TX10, 8, rfl, rfl, by rw [e]; decide, by rw [e]; rfl, rfl⟩)
theorem K1_20_53 {C : qCx} {G : jG} {mc ms : Nat} {p : Int → Int → jS → jH → Prop} {q : Int → Int → jS → jH → Int → jS → jH → Prop} (h : x1_20 C G) (hrm : C.2.2.2.1.frames = 2 ∧ C.2.2.2.1.locals = 47) (hM : M1_27 C.2.1 mc ms p q) : j_Call C b_1_20 n_KT G.1 G.2.1 3 (.invokevirtual 55) mc ms (fun a S V => ∃ u0 u1 : Int, a = [(2, u0), (0, u1)] ∧ S.1 u0 = 31 ∧ p u0 u1 S V) (fun a S V rs S' V' => ∃ u0 u1 r : Int, a = [(2, u0), (0, u1)] ∧ rs = [(0, r)] ∧ q u0 u1 S V r S' V') := j_callV n_NWk h.2.2.2.2.2 h.1 hM ⟨h.2.1.1, h.2.1.2, h.2.2.1, h.2.2.2.1, h.2.2.2.2.1⟩ ⟨n_CB (y := y_1_27) (bytes := b_1_27) 1 h.2.2.2.2.1 n_w309 n_w306 n_w1 ⟨by decide, by decide, by decide +kernel⟩ rfl rfl ⟨by rw [hrm.1]; exact Nat.le_of_ble_eq_true rfl, by rw [hrm.2]; exact Nat.le_of_ble_eq_true rfl⟩, h.2.2.2.2.1 _ n_w308, h.2.2.2.2.1 _ n_s1⟩ (Cn := RX10) (fun a S V hP => by obtain ⟨u0, u1, rfl, e, -⟩ := hP; exact ⟨u0, _, 10, _, _, TX10, 8, rfl, rfl, by rw [e]; decide, by rw [e]; rfl, rfl⟩)
theorem K1_20_63 {C : qCx} {G : jG} {mc ms : Nat} {p : Int → jS → jH → Prop} {q : Int → jS → jH → Int → jS → jH → Prop} (h : x1_20 C G) (hrm : C.2.2.2.1.frames = 2 ∧ C.2.2.2.1.locals = 47) (hM : M3_3 C.2.1 mc ms p q) : j_Call C b_1_20 n_KT G.1 G.2.1 3 (.invokevirtual 227) mc ms (fun a S V => ∃ u0 : Int, a = [(2, u0)] ∧ S.1 u0 = 22 ∧ p u0 S V) (fun a S V rs S' V' => ∃ u0 r : Int, a = [(2, u0)] ∧ rs = [(0, r)] ∧ q u0 S V r S' V') := j_callV n_NWk h.2.2.2.2.2 h.1 hM ⟨h.2.1.1, h.2.1.2, h.2.2.1, h.2.2.2.1, h.2.2.2.2.1⟩ ⟨n_CB (y := y_3_3) (bytes := b_3_3) 0 h.2.2.2.2.1 n_w700 n_w697 n_w3 ⟨by decide, by decide, by decide +kernel⟩ rfl rfl ⟨by rw [hrm.1]; exact Nat.le_of_ble_eq_true rfl, by rw [hrm.2]; exact Nat.le_of_ble_eq_true rfl⟩, h.2.2.2.2.1 _ n_w698, h.2.2.2.2.1 _ n_w699⟩ (Cn := RX1) (fun a S V hP => by obtain ⟨u0, rfl, e, -⟩ := hP; exact ⟨u0, _, 1, _, _, TX1, 5, rfl, rfl, by rw [e]; decide, by rw [e]; rfl, rfl⟩)
theorem t1_20_0 {C : qCx} {G : jG} {S : jS} {V : jH} {nc ns : Nat} {l0 l1 : Int} (h : x1_20 C G) (L : j_L S) (c1 : S.1 l0 = 31) (k : ¬ V (l0 + 16) 2 = 0 → j_ok n_KT 3 C G 22 [(0, (2, l0)), (1, (0, l1)), (2, (2, l0 + 16))] [] S V nc ns) (k' : V (l0 + 16) 2 = 0 → j_ok n_KT 3 C G 15 [(0, (2, l0))] [] S V nc ns) : j_ok n_KT 3 C G 0 [(0, (2, l0)), (1, (0, l1))] [] S V nc ns := by
  have E := n_E h
  refine j_aload_n E d1_20_0 rfl 0 rfl ?_
  refine j_getS (f := 0) (x := l0 + 1) (fg10_10 h) d1_20_1 c1 (by decide) rfl rfl ((L10_0 L c1).trans (by omega)) ?_
  refine j_getS (f := 3) (x := l0 + 16) (fg10_155 h) d1_20_4 (show S.1 (l0 + 1) = 30 from (by have q := L10_0k L c1; rw [show l0 + 1 = l0 + 1 by omega]; exact q)) (by decide) rfl rfl ((L9_3 L (show S.1 (l0 + 1) = 30 from (by have q := L10_0k L c1; rw [show l0 + 1 = l0 + 1 by omega]; exact q))).trans (by omega)) ?_
  refine j_astore_n E d1_20_7 rfl (by decide) (lo1 := [(0, (2, l0)), (1, (0, l1))]) rfl ?_
  refine j_aload_n E d1_20_8 rfl 0 rfl ?_
  refine j_getI (f := 2) (fg10_205 h) d1_20_9 (show S.1 (l0 + 16) = 22 from (by have q := L9_3k L (show S.1 (l0 + 1) = 30 from (by have q := L10_0k L c1; rw [show l0 + 1 = l0 + 1 by omega]; exact q)); rw [show l0 + 16 = (l0 + 1) + 15 by omega]; exact q)) (by decide) rfl rfl ?_
  exact j_if_ne E d1_20_12 (t := 22) rfl (fun q => j_pick [1, 2, 0] rfl (k q)) (fun q => j_pick [1] rfl (k' q))
theorem t1_20_15 {C : qCx} {G : jG} {S : jS} {V : jH} {nc ns : Nat} {l0 : Int} {mc ms : Nat} {pp : Int → Int → jS → jH → Prop} {qq : Int → Int → jS → jH → Int → jS → jH → Prop} (h : x1_20 C G) (hrm : C.2.2.2.1.frames = 2 ∧ C.2.2.2.1.locals = 47) (c1 : S.1 l0 = 31) (hM : M1_27 C.2.1 mc ms pp qq) (hp : pp l0 ((-6)) S V) (hc : nc + mc ≤ C.2.2.2.1.cells) (hs : ns + ms ≤ C.2.2.2.1.slots) (k : ∀ (r : Int) (S' : jS) (V' : jH), qq l0 ((-6)) S V r S' V' → j_ok n_KT 3 C G 21 [] [(0, r)] S' V' (nc + mc) (ns + ms)) : j_ok n_KT 3 C G 15 [(0, (2, l0))] [] S V nc ns := by
  have E := n_E h
  refine j_aload_n E d1_20_15 rfl 0 rfl ?_
  refine j_bipush E d1_20_16 (by decide) ?_
  refine j_call E (K1_20_18 h hrm hM) d1_20_18 (a := [(2, l0), (0, (-6))]) (sk := []) rfl ⟨l0, (-6), rfl, c1, hp⟩ (Nat.le_of_ble_eq_true rfl) hc hs ?_
  rintro rs S' V' ⟨z0, z1, r, e1, rfl, q⟩
  simp only [List.cons.injEq, Prod.mk.injEq, and_true, true_and] at e1
  obtain ⟨rfl, rfl⟩ := e1
  exact j_pick [] rfl (k r S' V' q)
theorem t1_20_21 {C : qCx} {G : jG} {S : jS} {V : jH} {nc ns : Nat} {s0 : Int} {mc ms : Nat} {qf : Int → jS → jH → Prop} (h : x1_20 C G)  (R : j_Ri n_KT 3 C G b_1_20 mc ms qf) (q : qf s0 S V) (hc : nc ≤ mc) (hs : ns ≤ ms) : j_ok n_KT 3 C G 21 [] [(0, s0)] S V nc ns := by
  have E := n_E h
  exact R _ _ _ _ _ _ _ d1_20_21 q hc hs
theorem t1_20_22 {C : qCx} {G : jG} {S : jS} {V : jH} {nc ns : Nat} {l0 l1 l2 : Int} (h : x1_20 C G)  (k : l1 < 1 → j_ok n_KT 3 C G 34 [(0, (2, l0))] [] S V nc ns) (k' : 1 ≤ l1 → j_ok n_KT 3 C G 27 [(0, (2, l0)), (1, (0, l1)), (2, (2, l2))] [] S V nc ns) : j_ok n_KT 3 C G 22 [(0, (2, l0)), (1, (0, l1)), (2, (2, l2))] [] S V nc ns := by
  have E := n_E h
  refine j_iload_n E d1_20_22 rfl 1 rfl ?_
  refine j_iconst E d1_20_23 (by decide) ?_
  exact j_icmp_lt E d1_20_24 (t := 34) rfl (fun q => j_pick [0] rfl (k q)) (fun q => j_pick [0, 1, 2] rfl (k' q))
theorem t1_20_27 {C : qCx} {G : jG} {S : jS} {V : jH} {nc ns : Nat} {l0 l1 l2 : Int} (h : x1_20 C G)  (k : l1 ≤ 400 → j_ok n_KT 3 C G 40 [(0, (2, l0)), (1, (0, l1)), (2, (2, l2))] [] S V nc ns) (k' : 400 < l1 → j_ok n_KT 3 C G 34 [(0, (2, l0))] [] S V nc ns) : j_ok n_KT 3 C G 27 [(0, (2, l0)), (1, (0, l1)), (2, (2, l2))] [] S V nc ns := by
  have E := n_E h
  refine j_iload_n E d1_20_27 rfl 1 rfl ?_
  refine j_sipush E d1_20_28 (by decide) ?_
  exact j_icmp_le E d1_20_31 (t := 40) rfl (fun q => j_pick [0, 1, 2] rfl (k q)) (fun q => j_pick [0] rfl (k' q))
theorem t1_20_34 {C : qCx} {G : jG} {S : jS} {V : jH} {nc ns : Nat} {l0 : Int} {mc ms : Nat} {pp : Int → Int → jS → jH → Prop} {qq : Int → Int → jS → jH → Int → jS → jH → Prop} (h : x1_20 C G) (hrm : C.2.2.2.1.frames = 2 ∧ C.2.2.2.1.locals = 47) (c1 : S.1 l0 = 31) (hM : M1_27 C.2.1 mc ms pp qq) (hp : pp l0 ((-1)) S V) (hc : nc + mc ≤ C.2.2.2.1.cells) (hs : ns + ms ≤ C.2.2.2.1.slots) (k : ∀ (r : Int) (S' : jS) (V' : jH), qq l0 ((-1)) S V r S' V' → j_ok n_KT 3 C G 39 [] [(0, r)] S' V' (nc + mc) (ns + ms)) : j_ok n_KT 3 C G 34 [(0, (2, l0))] [] S V nc ns := by
  have E := n_E h
  refine j_aload_n E d1_20_34 rfl 0 rfl ?_
  refine j_iconst E d1_20_35 (by decide) ?_
  refine j_call E (K1_20_36 h hrm hM) d1_20_36 (a := [(2, l0), (0, (-1))]) (sk := []) rfl ⟨l0, (-1), rfl, c1, hp⟩ (Nat.le_of_ble_eq_true rfl) hc hs ?_
  rintro rs S' V' ⟨z0, z1, r, e1, rfl, q⟩
  simp only [List.cons.injEq, Prod.mk.injEq, and_true, true_and] at e1
  obtain ⟨rfl, rfl⟩ := e1
  exact j_pick [] rfl (k r S' V' q)
theorem t1_20_39 {C : qCx} {G : jG} {S : jS} {V : jH} {nc ns : Nat} {s0 : Int} {mc ms : Nat} {qf : Int → jS → jH → Prop} (h : x1_20 C G)  (R : j_Ri n_KT 3 C G b_1_20 mc ms qf) (q : qf s0 S V) (hc : nc ≤ mc) (hs : ns ≤ ms) : j_ok n_KT 3 C G 39 [] [(0, s0)] S V nc ns := by
  have E := n_E h
  exact R _ _ _ _ _ _ _ d1_20_39 q hc hs
theorem t1_20_40 {C : qCx} {G : jG} {S : jS} {V : jH} {nc ns : Nat} {l0 l1 l2 : Int} (h : x1_20 C G) (L : j_L S) (c1 : S.1 l2 = 22) (k : ¬ V (l2 + 1) 0 = 4 → j_ok n_KT 3 C G 57 [(1, (0, l1)), (2, (2, l2))] [] S V nc ns) (k' : V (l2 + 1) 0 = 4 → j_ok n_KT 3 C G 50 [(0, (2, l0))] [] S V nc ns) : j_ok n_KT 3 C G 40 [(0, (2, l0)), (1, (0, l1)), (2, (2, l2))] [] S V nc ns := by
  have E := n_E h
  refine j_aload_n E d1_20_40 rfl 2 rfl ?_
  refine j_getS (f := 0) (x := l2 + 1) (fg10_183 h) d1_20_41 c1 (by decide) rfl rfl ((L1_0 L c1).trans (by omega)) ?_
  refine j_iconst E d1_20_44 (by decide) ?_
  refine j_iald E d1_20_45 (j_arr_of (show S.1 (l2 + 1) = 6 from (by have q := L1_0k L c1; rw [show l2 + 1 = l2 + 1 by omega]; exact q)) (by decide) rfl) (by decide) (by decide) ?_
  refine j_iconst E d1_20_46 (by decide) ?_
  exact j_icmp_ne E d1_20_47 (t := 57) rfl (fun q => j_pick [1, 2] rfl (k q)) (fun q => j_pick [0] rfl (k' q))
theorem t1_20_50 {C : qCx} {G : jG} {S : jS} {V : jH} {nc ns : Nat} {l0 : Int} {mc ms : Nat} {pp : Int → Int → jS → jH → Prop} {qq : Int → Int → jS → jH → Int → jS → jH → Prop} (h : x1_20 C G) (hrm : C.2.2.2.1.frames = 2 ∧ C.2.2.2.1.locals = 47) (c1 : S.1 l0 = 31) (hM : M1_27 C.2.1 mc ms pp qq) (hp : pp l0 ((-3)) S V) (hc : nc + mc ≤ C.2.2.2.1.cells) (hs : ns + ms ≤ C.2.2.2.1.slots) (k : ∀ (r : Int) (S' : jS) (V' : jH), qq l0 ((-3)) S V r S' V' → j_ok n_KT 3 C G 56 [] [(0, r)] S' V' (nc + mc) (ns + ms)) : j_ok n_KT 3 C G 50 [(0, (2, l0))] [] S V nc ns := by
  have E := n_E h
  refine j_aload_n E d1_20_50 rfl 0 rfl ?_
  refine j_bipush E d1_20_51 (by decide) ?_
  refine j_call E (K1_20_53 h hrm hM) d1_20_53 (a := [(2, l0), (0, (-3))]) (sk := []) rfl ⟨l0, (-3), rfl, c1, hp⟩ (Nat.le_of_ble_eq_true rfl) hc hs ?_
  rintro rs S' V' ⟨z0, z1, r, e1, rfl, q⟩
  simp only [List.cons.injEq, Prod.mk.injEq, and_true, true_and] at e1
  obtain ⟨rfl, rfl⟩ := e1
  exact j_pick [] rfl (k r S' V' q)
theorem t1_20_56 {C : qCx} {G : jG} {S : jS} {V : jH} {nc ns : Nat} {s0 : Int} {mc ms : Nat} {qf : Int → jS → jH → Prop} (h : x1_20 C G)  (R : j_Ri n_KT 3 C G b_1_20 mc ms qf) (q : qf s0 S V) (hc : nc ≤ mc) (hs : ns ≤ ms) : j_ok n_KT 3 C G 56 [] [(0, s0)] S V nc ns := by
  have E := n_E h
  exact R _ _ _ _ _ _ _ d1_20_56 q hc hs
theorem t1_20_57 {C : qCx} {G : jG} {S : jS} {V : jH} {nc ns : Nat} {l1 l2 : Int} {mc ms : Nat} {pp : Int → jS → jH → Prop} {qq : Int → jS → jH → Int → jS → jH → Prop} (h : x1_20 C G) (hrm : C.2.2.2.1.frames = 2 ∧ C.2.2.2.1.locals = 47) (c1 : S.1 l2 = 22) (hM : M3_3 C.2.1 mc ms pp qq) (hp : pp l2 S (j_up V l2 4 l1)) (hc : nc + mc ≤ C.2.2.2.1.cells) (hs : ns + ms ≤ C.2.2.2.1.slots) (k : ∀ (r : Int) (S' : jS) (V' : jH), qq l2 S (j_up V l2 4 l1) r S' V' → j_ok n_KT 3 C G 66 [] [(0, r)] S' V' (nc + mc) (ns + ms)) : j_ok n_KT 3 C G 57 [(1, (0, l1)), (2, (2, l2))] [] S V nc ns := by
  have E := n_E h
  refine j_aload_n E d1_20_57 rfl 1 rfl ?_
  refine j_iload_n E d1_20_58 rfl 0 rfl ?_
  refine j_putI (f := 4) (fp10_224 h) (n_hap h 22 1 0 _ rfl) d1_20_59 c1 (by decide) rfl rfl rfl ?_
  refine j_aload_n E d1_20_62 rfl 1 rfl ?_
  refine j_call E (K1_20_63 h hrm hM) d1_20_63 (a := [(2, l2)]) (sk := []) rfl ⟨l2, rfl, c1, hp⟩ (Nat.le_of_ble_eq_true rfl) hc hs ?_
  rintro rs S' V' ⟨z0, r, e1, rfl, q⟩
  simp only [List.cons.injEq, Prod.mk.injEq, and_true, true_and] at e1
  obtain ⟨rfl⟩ := e1
  exact j_pick [] rfl (k r S' V' q)
theorem t1_20_66 {C : qCx} {G : jG} {S : jS} {V : jH} {nc ns : Nat} {s0 : Int} {mc ms : Nat} {qf : Int → jS → jH → Prop} (h : x1_20 C G)  (R : j_Ri n_KT 3 C G b_1_20 mc ms qf) (q : qf s0 S V) (hc : nc ≤ mc) (hs : ns ≤ ms) : j_ok n_KT 3 C G 66 [] [(0, s0)] S V nc ns := by
  have E := n_E h
  exact R _ _ _ _ _ _ _ d1_20_66 q hc hs
/- BalanceCoder.skip(I)I -/
abbrev b_1_21 : ByteArray := prog_1_method_21_code
def y_1_21 : MethodName := ⟨"BalanceCoder", "skip", "(I)I"⟩
abbrev x1_21 (C : qCx) (G : jG) : Prop := n_ctx C b_1_21 4 "BalanceCoder" G.1 G.2.1
def M1_21 (l : Launch) (mc ms : Nat) (p : Int → Int → jS → jH → Prop) (q : Int → Int → jS → jH → Int → jS → jH → Prop) : Prop := j_Met l vwCl n_TL n_NW n_KT y_1_21 (Cond.code y_1_21 b_1_21 4 (some .int) :: n_GW) { frames := 2, cells := mc, slots := ms, locals := 47 } mc ms (fun a S V => ∃ u0 u1 : Int, a = [(2, u0), (0, u1)] ∧ S.1 u0 = 31 ∧ p u0 u1 S V) (fun a S V rs S' V' => ∃ u0 u1 r : Int, a = [(2, u0), (0, u1)] ∧ rs = [(0, r)] ∧ q u0 u1 S V r S' V')
theorem e1_21 {l : Launch} {mc ms : Nat} {p : Int → Int → jS → jH → Prop} {q : Int → Int → jS → jH → Int → jS → jH → Prop} (body : ∀ (C : qCx) (G : jG), x1_21 C G → C.2.2.2.1.frames = 2 ∧ C.2.2.2.1.locals = 47 → C.2.2.2.1.cells = mc ∧ C.2.2.2.1.slots = ms → C.2.1 = l → C.2.2.2.2.2.2.2.2.1.name = "skip" → ∀ (u0 u1 : Int) (S : jS) (V : jH), S.1 u0 = 31 → p u0 u1 S V → j_Ri n_KT 4 C G b_1_21 mc ms (q u0 u1 S V) → j_ok n_KT 4 C G 0 [(0, (2, u0)), (1, (0, u1))] [] S V 0 0) : M1_21 l mc ms p q := by
  refine j_method (ws' := n_GW) (by decide) rfl ?_ ?_
  · rintro a S V ⟨u0, u1, rfl, -⟩
    exact Nat.le_of_ble_eq_true rfl
  · rintro C G htl hl hrm hm hml ho hts hnm hE a S V ⟨u0, u1, rfl, ht, hp⟩ R
    exact body C G ⟨htl, hm, hml, ho, fun w hw => hts w (List.mem_cons_of_mem _ hw), hE⟩ (by rw [hrm]; exact ⟨rfl, rfl⟩) (by rw [hrm]; exact ⟨rfl, rfl⟩) hl hnm u0 u1 S V ht hp (fun pc lo r S' V' nc ns d q hc hs => R.2.1 rfl pc lo r S' V' nc ns d ⟨u0, u1, r, rfl, rfl, q⟩ hc hs)
theorem d1_21_0 : decode b_1_21 0 = .ok (.aload_n 0, 1) := by decide +kernel
theorem d1_21_1 : decode b_1_21 1 = .ok (.getfield 10, 3) := by decide +kernel
theorem d1_21_4 : decode b_1_21 4 = .ok (.getfield 155, 3) := by decide +kernel
theorem d1_21_7 : decode b_1_21 7 = .ok (.astore_n 2, 1) := by decide +kernel
theorem d1_21_8 : decode b_1_21 8 = .ok (.aload_n 2, 1) := by decide +kernel
theorem d1_21_9 : decode b_1_21 9 = .ok (.getfield 224, 3) := by decide +kernel
theorem d1_21_12 : decode b_1_21 12 = .ok (.istore_n 3, 1) := by decide +kernel
theorem d1_21_13 : decode b_1_21 13 = .ok (.iload_n 3, 1) := by decide +kernel
theorem d1_21_14 : decode b_1_21 14 = .ok (.iconst 1, 1) := by decide +kernel
theorem d1_21_15 : decode b_1_21 15 = .ok (.if_icmp .lt 10, 3) := by decide +kernel
theorem d1_21_18 : decode b_1_21 18 = .ok (.aload_n 2, 1) := by decide +kernel
theorem d1_21_19 : decode b_1_21 19 = .ok (.invokevirtual 227, 3) := by decide +kernel
theorem d1_21_22 : decode b_1_21 22 = .ok (.ifCond .ne 10, 3) := by decide +kernel
theorem d1_21_25 : decode b_1_21 25 = .ok (.aload_n 0, 1) := by decide +kernel
theorem d1_21_26 : decode b_1_21 26 = .ok (.bipush (-6), 2) := by decide +kernel
theorem d1_21_28 : decode b_1_21 28 = .ok (.invokevirtual 55, 3) := by decide +kernel
theorem d1_21_31 : decode b_1_21 31 = .ok (.ireturn, 1) := by decide +kernel
theorem d1_21_32 : decode b_1_21 32 = .ok (.iload_n 1, 1) := by decide +kernel
theorem d1_21_33 : decode b_1_21 33 = .ok (.ifCond .lt 14, 3) := by decide +kernel
theorem d1_21_36 : decode b_1_21 36 = .ok (.iload_n 1, 1) := by decide +kernel
theorem d1_21_37 : decode b_1_21 37 = .ok (.aload_n 2, 1) := by decide +kernel
theorem d1_21_38 : decode b_1_21 38 = .ok (.getfield 209, 3) := by decide +kernel
theorem d1_21_41 : decode b_1_21 41 = .ok (.getfield 210, 3) := by decide +kernel
theorem d1_21_44 : decode b_1_21 44 = .ok (.if_icmp .lt 9, 3) := by decide +kernel
theorem d1_21_47 : decode b_1_21 47 = .ok (.aload_n 0, 1) := by decide +kernel
theorem d1_21_48 : decode b_1_21 48 = .ok (.iconst (-1), 1) := by decide +kernel
theorem d1_21_49 : decode b_1_21 49 = .ok (.invokevirtual 55, 3) := by decide +kernel
theorem d1_21_52 : decode b_1_21 52 = .ok (.ireturn, 1) := by decide +kernel
theorem d1_21_53 : decode b_1_21 53 = .ok (.aload_n 0, 1) := by decide +kernel
theorem d1_21_54 : decode b_1_21 54 = .ok (.getfield 10, 3) := by decide +kernel
theorem d1_21_57 : decode b_1_21 57 = .ok (.iload_n 1, 1) := by decide +kernel
theorem d1_21_58 : decode b_1_21 58 = .ok (.iload_n 3, 1) := by decide +kernel
theorem d1_21_59 : decode b_1_21 59 = .ok (.irem, 1) := by decide +kernel
theorem d1_21_60 : decode b_1_21 60 = .ok (.iconst 1, 1) := by decide +kernel
theorem d1_21_61 : decode b_1_21 61 = .ok (.iadd, 1) := by decide +kernel
theorem d1_21_62 : decode b_1_21 62 = .ok (.putfield 230, 3) := by decide +kernel
theorem d1_21_65 : decode b_1_21 65 = .ok (.aload_n 2, 1) := by decide +kernel
theorem d1_21_66 : decode b_1_21 66 = .ok (.getfield 209, 3) := by decide +kernel
theorem d1_21_69 : decode b_1_21 69 = .ok (.getfield 213, 3) := by decide +kernel
theorem d1_21_72 : decode b_1_21 72 = .ok (.iload_n 1, 1) := by decide +kernel
theorem d1_21_73 : decode b_1_21 73 = .ok (.iaload, 1) := by decide +kernel
theorem d1_21_74 : decode b_1_21 74 = .ok (.ireturn, 1) := by decide +kernel
theorem K1_21_19 {C : qCx} {G : jG} {mc ms : Nat} {p : Int → jS → jH → Prop} {q : Int → jS → jH → Int → jS → jH → Prop} (h : x1_21 C G) (hrm : C.2.2.2.1.frames = 2 ∧ C.2.2.2.1.locals = 47) (hM : M3_3 C.2.1 mc ms p q) : j_Call C b_1_21 n_KT G.1 G.2.1 4 (.invokevirtual 227) mc ms (fun a S V => ∃ u0 : Int, a = [(2, u0)] ∧ S.1 u0 = 22 ∧ p u0 S V) (fun a S V rs S' V' => ∃ u0 r : Int, a = [(2, u0)] ∧ rs = [(0, r)] ∧ q u0 S V r S' V') := j_callV n_NWk h.2.2.2.2.2 h.1 hM ⟨h.2.1.1, h.2.1.2, h.2.2.1, h.2.2.2.1, h.2.2.2.2.1⟩ ⟨n_CB (y := y_3_3) (bytes := b_3_3) 0 h.2.2.2.2.1 n_w700 n_w697 n_w3 ⟨by decide, by decide, by decide +kernel⟩ rfl rfl ⟨by rw [hrm.1]; exact Nat.le_of_ble_eq_true rfl, by rw [hrm.2]; exact Nat.le_of_ble_eq_true rfl⟩, h.2.2.2.2.1 _ n_w698, h.2.2.2.2.1 _ n_w699⟩ (Cn := RX1) (fun a S V hP => by obtain ⟨u0, rfl, e, -⟩ := hP; exact ⟨u0, _, 1, _, _, TX1, 5, rfl, rfl, by rw [e]; decide, by rw [e]; rfl, rfl⟩)
theorem K1_21_28 {C : qCx} {G : jG} {mc ms : Nat} {p : Int → Int → jS → jH → Prop} {q : Int → Int → jS → jH → Int → jS → jH → Prop} (h : x1_21 C G) (hrm : C.2.2.2.1.frames = 2 ∧ C.2.2.2.1.locals = 47) (hM : M1_27 C.2.1 mc ms p q) : j_Call C b_1_21 n_KT G.1 G.2.1 4 (.invokevirtual 55) mc ms (fun a S V => ∃ u0 u1 : Int, a = [(2, u0), (0, u1)] ∧ S.1 u0 = 31 ∧ p u0 u1 S V) (fun a S V rs S' V' => ∃ u0 u1 r : Int, a = [(2, u0), (0, u1)] ∧ rs = [(0, r)] ∧ q u0 u1 S V r S' V') := j_callV n_NWk h.2.2.2.2.2 h.1 hM ⟨h.2.1.1, h.2.1.2, h.2.2.1, h.2.2.2.1, h.2.2.2.2.1⟩ ⟨n_CB (y := y_1_27) (bytes := b_1_27) 1 h.2.2.2.2.1 n_w309 n_w306 n_w1 ⟨by decide, by decide, by decide +kernel⟩ rfl rfl ⟨by rw [hrm.1]; exact Nat.le_of_ble_eq_true rfl, by rw [hrm.2]; exact Nat.le_of_ble_eq_true rfl⟩, h.2.2.2.2.1 _ n_w308, h.2.2.2.2.1 _ n_s1⟩ (Cn := RX10) (fun a S V hP => by obtain ⟨u0, u1, rfl, e, -⟩ := hP; exact ⟨u0, _, 10, _, _, TX10, 8, rfl, rfl, by rw [e]; decide, by rw [e]; rfl, rfl⟩)
theorem K1_21_49 {C : qCx} {G : jG} {mc ms : Nat} {p : Int → Int → jS → jH → Prop} {q : Int → Int → jS → jH → Int → jS → jH → Prop} (h : x1_21 C G) (hrm : C.2.2.2.1.frames = 2 ∧ C.2.2.2.1.locals = 47) (hM : M1_27 C.2.1 mc ms p q) : j_Call C b_1_21 n_KT G.1 G.2.1 4 (.invokevirtual 55) mc ms (fun a S V => ∃ u0 u1 : Int, a = [(2, u0), (0, u1)] ∧ S.1 u0 = 31 ∧ p u0 u1 S V) (fun a S V rs S' V' => ∃ u0 u1 r : Int, a = [(2, u0), (0, u1)] ∧ rs = [(0, r)] ∧ q u0 u1 S V r S' V') := j_callV n_NWk h.2.2.2.2.2 h.1 hM ⟨h.2.1.1, h.2.1.2, h.2.2.1, h.2.2.2.1, h.2.2.2.2.1⟩ ⟨n_CB (y := y_1_27) (bytes := b_1_27) 1 h.2.2.2.2.1 n_w309 n_w306 n_w1 ⟨by decide, by decide, by decide +kernel⟩ rfl rfl ⟨by rw [hrm.1]; exact Nat.le_of_ble_eq_true rfl, by rw [hrm.2]; exact Nat.le_of_ble_eq_true rfl⟩, h.2.2.2.2.1 _ n_w308, h.2.2.2.2.1 _ n_s1⟩ (Cn := RX10) (fun a S V hP => by obtain ⟨u0, u1, rfl, e, -⟩ := hP; exact ⟨u0, _, 10, _, _, TX10, 8, rfl, rfl, by rw [e]; decide, by rw [e]; rfl, rfl⟩)
theorem t1_21_0 {C : qCx} {G : jG} {S : jS} {V : jH} {nc ns : Nat} {l0 l1 : Int} (h : x1_21 C G) (L : j_L S) (c1 : S.1 l0 = 31) (k : V (l0 + 16) 4 < 1 → j_ok n_KT 4 C G 25 [(0, (2, l0))] [] S V nc ns) (k' : 1 ≤ V (l0 + 16) 4 → j_ok n_KT 4 C G 18 [(0, (2, l0)), (1, (0, l1)), (2, (2, l0 + 16)), (3, (0, V (l0 + 16) 4))] [] S V nc ns) : j_ok n_KT 4 C G 0 [(0, (2, l0)), (1, (0, l1))] [] S V nc ns := by
  have E := n_E h
  refine j_aload_n E d1_21_0 rfl 0 rfl ?_
  refine j_getS (f := 0) (x := l0 + 1) (fg10_10 h) d1_21_1 c1 (by decide) rfl rfl ((L10_0 L c1).trans (by omega)) ?_
  refine j_getS (f := 3) (x := l0 + 16) (fg10_155 h) d1_21_4 (show S.1 (l0 + 1) = 30 from (by have q := L10_0k L c1; rw [show l0 + 1 = l0 + 1 by omega]; exact q)) (by decide) rfl rfl ((L9_3 L (show S.1 (l0 + 1) = 30 from (by have q := L10_0k L c1; rw [show l0 + 1 = l0 + 1 by omega]; exact q))).trans (by omega)) ?_
  refine j_astore_n E d1_21_7 rfl (by decide) (lo1 := [(0, (2, l0)), (1, (0, l1))]) rfl ?_
  refine j_aload_n E d1_21_8 rfl 0 rfl ?_
  refine j_getI (f := 4) (fg10_224 h) d1_21_9 (show S.1 (l0 + 16) = 22 from (by have q := L9_3k L (show S.1 (l0 + 1) = 30 from (by have q := L10_0k L c1; rw [show l0 + 1 = l0 + 1 by omega]; exact q)); rw [show l0 + 16 = (l0 + 1) + 15 by omega]; exact q)) (by decide) rfl rfl ?_
  refine j_istore_n E d1_21_12 rfl (by decide) (lo1 := [(2, (2, l0 + 16)), (0, (2, l0)), (1, (0, l1))]) rfl ?_
  refine j_iload_n E d1_21_13 rfl 0 rfl ?_
  refine j_iconst E d1_21_14 (by decide) ?_
  exact j_icmp_lt E d1_21_15 (t := 25) rfl (fun q => j_pick [2] rfl (k q)) (fun q => j_pick [2, 3, 1, 0] rfl (k' q))
theorem t1_21_18 {C : qCx} {G : jG} {S : jS} {V : jH} {nc ns : Nat} {l0 l1 l2 l3 : Int} {mc ms : Nat} {pp : Int → jS → jH → Prop} {qq : Int → jS → jH → Int → jS → jH → Prop} (h : x1_21 C G) (hrm : C.2.2.2.1.frames = 2 ∧ C.2.2.2.1.locals = 47) (c1 : S.1 l2 = 22) (hM : M3_3 C.2.1 mc ms pp qq) (hp : pp l2 S V) (hc : nc + mc ≤ C.2.2.2.1.cells) (hs : ns + ms ≤ C.2.2.2.1.slots) (k : ∀ (r : Int) (S' : jS) (V' : jH), qq l2 S V r S' V' → j_ok n_KT 4 C G 22 [(0, (2, l0)), (1, (0, l1)), (2, (2, l2)), (3, (0, l3))] [(0, r)] S' V' (nc + mc) (ns + ms)) : j_ok n_KT 4 C G 18 [(0, (2, l0)), (1, (0, l1)), (2, (2, l2)), (3, (0, l3))] [] S V nc ns := by
  have E := n_E h
  refine j_aload_n E d1_21_18 rfl 2 rfl ?_
  refine j_call E (K1_21_19 h hrm hM) d1_21_19 (a := [(2, l2)]) (sk := []) rfl ⟨l2, rfl, c1, hp⟩ (Nat.le_of_ble_eq_true rfl) hc hs ?_
  rintro rs S' V' ⟨z0, r, e1, rfl, q⟩
  simp only [List.cons.injEq, Prod.mk.injEq, and_true, true_and] at e1
  obtain ⟨rfl⟩ := e1
  exact j_pick [0, 1, 2, 3] rfl (k r S' V' q)
theorem t1_21_22 {C : qCx} {G : jG} {S : jS} {V : jH} {nc ns : Nat} {l0 l1 l2 l3 s0 : Int} (h : x1_21 C G)  (k : ¬ s0 = 0 → j_ok n_KT 4 C G 32 [(0, (2, l0)), (1, (0, l1)), (2, (2, l2)), (3, (0, l3))] [] S V nc ns) (k' : s0 = 0 → j_ok n_KT 4 C G 25 [(0, (2, l0))] [] S V nc ns) : j_ok n_KT 4 C G 22 [(0, (2, l0)), (1, (0, l1)), (2, (2, l2)), (3, (0, l3))] [(0, s0)] S V nc ns := by
  have E := n_E h
  exact j_if_ne E d1_21_22 (t := 32) rfl (fun q => j_pick [0, 1, 2, 3] rfl (k q)) (fun q => j_pick [0] rfl (k' q))
theorem t1_21_25 {C : qCx} {G : jG} {S : jS} {V : jH} {nc ns : Nat} {l0 : Int} {mc ms : Nat} {pp : Int → Int → jS → jH → Prop} {qq : Int → Int → jS → jH → Int → jS → jH → Prop} (h : x1_21 C G) (hrm : C.2.2.2.1.frames = 2 ∧ C.2.2.2.1.locals = 47) (c1 : S.1 l0 = 31) (hM : M1_27 C.2.1 mc ms pp qq) (hp : pp l0 ((-6)) S V) (hc : nc + mc ≤ C.2.2.2.1.cells) (hs : ns + ms ≤ C.2.2.2.1.slots) (k : ∀ (r : Int) (S' : jS) (V' : jH), qq l0 ((-6)) S V r S' V' → j_ok n_KT 4 C G 31 [] [(0, r)] S' V' (nc + mc) (ns + ms)) : j_ok n_KT 4 C G 25 [(0, (2, l0))] [] S V nc ns := by
  have E := n_E h
  refine j_aload_n E d1_21_25 rfl 0 rfl ?_
  refine j_bipush E d1_21_26 (by decide) ?_
  refine j_call E (K1_21_28 h hrm hM) d1_21_28 (a := [(2, l0), (0, (-6))]) (sk := []) rfl ⟨l0, (-6), rfl, c1, hp⟩ (Nat.le_of_ble_eq_true rfl) hc hs ?_
  rintro rs S' V' ⟨z0, z1, r, e1, rfl, q⟩
  simp only [List.cons.injEq, Prod.mk.injEq, and_true, true_and] at e1
  obtain ⟨rfl, rfl⟩ := e1
  exact j_pick [] rfl (k r S' V' q)
theorem t1_21_31 {C : qCx} {G : jG} {S : jS} {V : jH} {nc ns : Nat} {s0 : Int} {mc ms : Nat} {qf : Int → jS → jH → Prop} (h : x1_21 C G)  (R : j_Ri n_KT 4 C G b_1_21 mc ms qf) (q : qf s0 S V) (hc : nc ≤ mc) (hs : ns ≤ ms) : j_ok n_KT 4 C G 31 [] [(0, s0)] S V nc ns := by
  have E := n_E h
  exact R _ _ _ _ _ _ _ d1_21_31 q hc hs
theorem t1_21_32 {C : qCx} {G : jG} {S : jS} {V : jH} {nc ns : Nat} {l0 l1 l2 l3 : Int} (h : x1_21 C G)  (k : l1 < 0 → j_ok n_KT 4 C G 47 [(0, (2, l0))] [] S V nc ns) (k' : 0 ≤ l1 → j_ok n_KT 4 C G 36 [(0, (2, l0)), (1, (0, l1)), (2, (2, l2)), (3, (0, l3))] [] S V nc ns) : j_ok n_KT 4 C G 32 [(0, (2, l0)), (1, (0, l1)), (2, (2, l2)), (3, (0, l3))] [] S V nc ns := by
  have E := n_E h
  refine j_iload_n E d1_21_32 rfl 1 rfl ?_
  exact j_if_lt E d1_21_33 (t := 47) rfl (fun q => j_pick [0] rfl (k q)) (fun q => j_pick [0, 1, 2, 3] rfl (k' q))
theorem t1_21_36 {C : qCx} {G : jG} {S : jS} {V : jH} {nc ns : Nat} {l0 l1 l2 l3 : Int} (h : x1_21 C G) (L : j_L S) (c1 : S.1 l2 = 22) (k : l1 < V (l2 + 2) 5 → j_ok n_KT 4 C G 53 [(0, (2, l0)), (1, (0, l1)), (2, (2, l2)), (3, (0, l3))] [] S V nc ns) (k' : V (l2 + 2) 5 ≤ l1 → j_ok n_KT 4 C G 47 [(0, (2, l0))] [] S V nc ns) : j_ok n_KT 4 C G 36 [(0, (2, l0)), (1, (0, l1)), (2, (2, l2)), (3, (0, l3))] [] S V nc ns := by
  have E := n_E h
  refine j_iload_n E d1_21_36 rfl 1 rfl ?_
  refine j_aload_n E d1_21_37 rfl 2 rfl ?_
  refine j_getS (f := 3) (x := l2 + 2) (fg10_209 h) d1_21_38 c1 (by decide) rfl rfl ((L1_3 L c1).trans (by omega)) ?_
  refine j_getI (f := 5) (fg10_210 h) d1_21_41 (show S.1 (l2 + 2) = 28 from (by have q := L1_3k L c1; rw [show l2 + 2 = l2 + 2 by omega]; exact q)) (by decide) rfl rfl ?_
  exact j_icmp_lt E d1_21_44 (t := 53) rfl (fun q => j_pick [0, 1, 2, 3] rfl (k q)) (fun q => j_pick [0] rfl (k' q))
theorem t1_21_47 {C : qCx} {G : jG} {S : jS} {V : jH} {nc ns : Nat} {l0 : Int} {mc ms : Nat} {pp : Int → Int → jS → jH → Prop} {qq : Int → Int → jS → jH → Int → jS → jH → Prop} (h : x1_21 C G) (hrm : C.2.2.2.1.frames = 2 ∧ C.2.2.2.1.locals = 47) (c1 : S.1 l0 = 31) (hM : M1_27 C.2.1 mc ms pp qq) (hp : pp l0 ((-1)) S V) (hc : nc + mc ≤ C.2.2.2.1.cells) (hs : ns + ms ≤ C.2.2.2.1.slots) (k : ∀ (r : Int) (S' : jS) (V' : jH), qq l0 ((-1)) S V r S' V' → j_ok n_KT 4 C G 52 [] [(0, r)] S' V' (nc + mc) (ns + ms)) : j_ok n_KT 4 C G 47 [(0, (2, l0))] [] S V nc ns := by
  have E := n_E h
  refine j_aload_n E d1_21_47 rfl 0 rfl ?_
  refine j_iconst E d1_21_48 (by decide) ?_
  refine j_call E (K1_21_49 h hrm hM) d1_21_49 (a := [(2, l0), (0, (-1))]) (sk := []) rfl ⟨l0, (-1), rfl, c1, hp⟩ (Nat.le_of_ble_eq_true rfl) hc hs ?_
  rintro rs S' V' ⟨z0, z1, r, e1, rfl, q⟩
  simp only [List.cons.injEq, Prod.mk.injEq, and_true, true_and] at e1
  obtain ⟨rfl, rfl⟩ := e1
  exact j_pick [] rfl (k r S' V' q)
theorem t1_21_52 {C : qCx} {G : jG} {S : jS} {V : jH} {nc ns : Nat} {s0 : Int} {mc ms : Nat} {qf : Int → jS → jH → Prop} (h : x1_21 C G)  (R : j_Ri n_KT 4 C G b_1_21 mc ms qf) (q : qf s0 S V) (hc : nc ≤ mc) (hs : ns ≤ ms) : j_ok n_KT 4 C G 52 [] [(0, s0)] S V nc ns := by
  have E := n_E h
  exact R _ _ _ _ _ _ _ d1_21_52 q hc hs
theorem t1_21_53 {C : qCx} {G : jG} {S : jS} {V : jH} {nc ns : Nat} {l0 l1 l2 l3 : Int} {mc ms : Nat} {qf : Int → jS → jH → Prop} (h : x1_21 C G) (L : j_L S) (c1 : S.1 l0 = 31) (c2 : 0 ≤ l1) (c3 : 1 ≤ l3) (c4 : -2147483648 ≤ (l1 % l3) + 1 ∧ (l1 % l3) + 1 ≤ 2147483647) (c5 : S.1 l2 = 22) (c6 : l1 < 400) (R : j_Ri n_KT 4 C G b_1_21 mc ms qf) (q : qf ((j_up V (l0 + 1) 5 ((l1 % l3) + 1)) (l2 + 3) l1) S (j_up V (l0 + 1) 5 ((l1 % l3) + 1))) (hc : nc ≤ mc) (hs : ns ≤ ms) : j_ok n_KT 4 C G 53 [(0, (2, l0)), (1, (0, l1)), (2, (2, l2)), (3, (0, l3))] [] S V nc ns := by
  have E := n_E h
  refine j_aload_n E d1_21_53 rfl 0 rfl ?_
  refine j_getS (f := 0) (x := l0 + 1) (fg10_10 h) d1_21_54 c1 (by decide) rfl rfl ((L10_0 L c1).trans (by omega)) ?_
  refine j_iload_n E d1_21_57 rfl 1 rfl ?_
  refine j_iload_n E d1_21_58 rfl 3 rfl ?_
  refine j_irem E d1_21_59 c2 c3 ?_
  refine j_iconst E d1_21_60 (by decide) ?_
  refine j_iadd E d1_21_61 c4 ?_
  refine j_putI (f := 5) (fp10_230 h) (n_hap h 30 9 0 _ rfl) d1_21_62 (show S.1 (l0 + 1) = 30 from (by have q := L10_0k L c1; rw [show l0 + 1 = l0 + 1 by omega]; exact q)) (by decide) rfl rfl rfl ?_
  refine j_aload_n E d1_21_65 rfl 2 rfl ?_
  refine j_getS (f := 3) (x := l2 + 2) (fg10_209 h) d1_21_66 c5 (by decide) rfl rfl ((L1_3 L c5).trans (by omega)) ?_
  refine j_getS (f := 0) (x := l2 + 3) (fg10_213 h) d1_21_69 (show S.1 (l2 + 2) = 28 from (by have q := L1_3k L c5; rw [show l2 + 2 = l2 + 2 by omega]; exact q)) (by decide) rfl rfl ((L7_0 L (show S.1 (l2 + 2) = 28 from (by have q := L1_3k L c5; rw [show l2 + 2 = l2 + 2 by omega]; exact q))).trans (by omega)) ?_
  refine j_iload_n E d1_21_72 rfl 1 rfl ?_
  refine j_iald E d1_21_73 (j_arr_of (show S.1 (l2 + 3) = 1 from (by have q := L7_0k L (show S.1 (l2 + 2) = 28 from (by have q := L1_3k L c5; rw [show l2 + 2 = l2 + 2 by omega]; exact q)); rw [show l2 + 3 = (l2 + 2) + 1 by omega]; exact q)) (by decide) rfl) c2 c6 ?_
  exact R _ _ _ _ _ _ _ d1_21_74 q hc hs
/- BalanceCoder.tell(I)I -/
abbrev b_1_22 : ByteArray := prog_1_method_22_code
def y_1_22 : MethodName := ⟨"BalanceCoder", "tell", "(I)I"⟩
abbrev x1_22 (C : qCx) (G : jG) : Prop := n_ctx C b_1_22 2 "BalanceCoder" G.1 G.2.1
def M1_22 (l : Launch) (mc ms : Nat) (p : Int → Int → jS → jH → Prop) (q : Int → Int → jS → jH → Int → jS → jH → Prop) : Prop := j_Met l vwCl n_TL n_NW n_KT y_1_22 (Cond.code y_1_22 b_1_22 2 (some .int) :: n_GW) { frames := 2, cells := mc, slots := ms, locals := 47 } mc ms (fun a S V => ∃ u0 u1 : Int, a = [(2, u0), (0, u1)] ∧ S.1 u0 = 31 ∧ p u0 u1 S V) (fun a S V rs S' V' => ∃ u0 u1 r : Int, a = [(2, u0), (0, u1)] ∧ rs = [(0, r)] ∧ q u0 u1 S V r S' V')
theorem e1_22 {l : Launch} {mc ms : Nat} {p : Int → Int → jS → jH → Prop} {q : Int → Int → jS → jH → Int → jS → jH → Prop} (body : ∀ (C : qCx) (G : jG), x1_22 C G → C.2.2.2.1.frames = 2 ∧ C.2.2.2.1.locals = 47 → C.2.2.2.1.cells = mc ∧ C.2.2.2.1.slots = ms → C.2.1 = l → C.2.2.2.2.2.2.2.2.1.name = "tell" → ∀ (u0 u1 : Int) (S : jS) (V : jH), S.1 u0 = 31 → p u0 u1 S V → j_Ri n_KT 2 C G b_1_22 mc ms (q u0 u1 S V) → j_ok n_KT 2 C G 0 [(0, (2, u0)), (1, (0, u1))] [] S V 0 0) : M1_22 l mc ms p q := by
  refine j_method (ws' := n_GW) (by decide) rfl ?_ ?_
  · rintro a S V ⟨u0, u1, rfl, -⟩
    exact Nat.le_of_ble_eq_true rfl
  · rintro C G htl hl hrm hm hml ho hts hnm hE a S V ⟨u0, u1, rfl, ht, hp⟩ R
    exact body C G ⟨htl, hm, hml, ho, fun w hw => hts w (List.mem_cons_of_mem _ hw), hE⟩ (by rw [hrm]; exact ⟨rfl, rfl⟩) (by rw [hrm]; exact ⟨rfl, rfl⟩) hl hnm u0 u1 S V ht hp (fun pc lo r S' V' nc ns d q hc hs => R.2.1 rfl pc lo r S' V' nc ns d ⟨u0, u1, r, rfl, rfl, q⟩ hc hs)
theorem d1_22_0 : decode b_1_22 0 = .ok (.aload_n 0, 1) := by decide +kernel
theorem d1_22_1 : decode b_1_22 1 = .ok (.getfield 44, 3) := by decide +kernel
theorem d1_22_4 : decode b_1_22 4 = .ok (.sipush 400, 3) := by decide +kernel
theorem d1_22_7 : decode b_1_22 7 = .ok (.if_icmp .lt 10, 3) := by decide +kernel
theorem d1_22_10 : decode b_1_22 10 = .ok (.aload_n 0, 1) := by decide +kernel
theorem d1_22_11 : decode b_1_22 11 = .ok (.bipush (-2), 2) := by decide +kernel
theorem d1_22_13 : decode b_1_22 13 = .ok (.invokevirtual 55, 3) := by decide +kernel
theorem d1_22_16 : decode b_1_22 16 = .ok (.ireturn, 1) := by decide +kernel
theorem d1_22_17 : decode b_1_22 17 = .ok (.aload_n 0, 1) := by decide +kernel
theorem d1_22_18 : decode b_1_22 18 = .ok (.getfield 40, 3) := by decide +kernel
theorem d1_22_21 : decode b_1_22 21 = .ok (.aload_n 0, 1) := by decide +kernel
theorem d1_22_22 : decode b_1_22 22 = .ok (.getfield 44, 3) := by decide +kernel
theorem d1_22_25 : decode b_1_22 25 = .ok (.iload_n 1, 1) := by decide +kernel
theorem d1_22_26 : decode b_1_22 26 = .ok (.iastore, 1) := by decide +kernel
theorem d1_22_27 : decode b_1_22 27 = .ok (.aload_n 0, 1) := by decide +kernel
theorem d1_22_28 : decode b_1_22 28 = .ok (.dup, 1) := by decide +kernel
theorem d1_22_29 : decode b_1_22 29 = .ok (.getfield 44, 3) := by decide +kernel
theorem d1_22_32 : decode b_1_22 32 = .ok (.iconst 1, 1) := by decide +kernel
theorem d1_22_33 : decode b_1_22 33 = .ok (.iadd, 1) := by decide +kernel
theorem d1_22_34 : decode b_1_22 34 = .ok (.putfield 44, 3) := by decide +kernel
theorem d1_22_37 : decode b_1_22 37 = .ok (.aload_n 0, 1) := by decide +kernel
theorem d1_22_38 : decode b_1_22 38 = .ok (.getfield 44, 3) := by decide +kernel
theorem d1_22_41 : decode b_1_22 41 = .ok (.ireturn, 1) := by decide +kernel
theorem K1_22_13 {C : qCx} {G : jG} {mc ms : Nat} {p : Int → Int → jS → jH → Prop} {q : Int → Int → jS → jH → Int → jS → jH → Prop} (h : x1_22 C G) (hrm : C.2.2.2.1.frames = 2 ∧ C.2.2.2.1.locals = 47) (hM : M1_27 C.2.1 mc ms p q) : j_Call C b_1_22 n_KT G.1 G.2.1 2 (.invokevirtual 55) mc ms (fun a S V => ∃ u0 u1 : Int, a = [(2, u0), (0, u1)] ∧ S.1 u0 = 31 ∧ p u0 u1 S V) (fun a S V rs S' V' => ∃ u0 u1 r : Int, a = [(2, u0), (0, u1)] ∧ rs = [(0, r)] ∧ q u0 u1 S V r S' V') := j_callV n_NWk h.2.2.2.2.2 h.1 hM ⟨h.2.1.1, h.2.1.2, h.2.2.1, h.2.2.2.1, h.2.2.2.2.1⟩ ⟨n_CB (y := y_1_27) (bytes := b_1_27) 1 h.2.2.2.2.1 n_w309 n_w306 n_w1 ⟨by decide, by decide, by decide +kernel⟩ rfl rfl ⟨by rw [hrm.1]; exact Nat.le_of_ble_eq_true rfl, by rw [hrm.2]; exact Nat.le_of_ble_eq_true rfl⟩, h.2.2.2.2.1 _ n_w308, h.2.2.2.2.1 _ n_s1⟩ (Cn := RX10) (fun a S V hP => by obtain ⟨u0, u1, rfl, e, -⟩ := hP; exact ⟨u0, _, 10, _, _, TX10, 8, rfl, rfl, by rw [e]; decide, by rw [e]; rfl, rfl⟩)
theorem t1_22_0 {C : qCx} {G : jG} {S : jS} {V : jH} {nc ns : Nat} {l0 l1 : Int} (h : x1_22 C G) (c1 : S.1 l0 = 31) (k : V l0 6 < 400 → j_ok n_KT 2 C G 17 [(0, (2, l0)), (1, (0, l1))] [] S V nc ns) (k' : 400 ≤ V l0 6 → j_ok n_KT 2 C G 10 [(0, (2, l0))] [] S V nc ns) : j_ok n_KT 2 C G 0 [(0, (2, l0)), (1, (0, l1))] [] S V nc ns := by
  have E := n_E h
  refine j_aload_n E d1_22_0 rfl 0 rfl ?_
  refine j_getI (f := 6) (fg10_44 h) d1_22_1 c1 (by decide) rfl rfl ?_
  refine j_sipush E d1_22_4 (by decide) ?_
  exact j_icmp_lt E d1_22_7 (t := 17) rfl (fun q => j_pick [0, 1] rfl (k q)) (fun q => j_pick [0] rfl (k' q))
theorem t1_22_10 {C : qCx} {G : jG} {S : jS} {V : jH} {nc ns : Nat} {l0 : Int} {mc ms : Nat} {pp : Int → Int → jS → jH → Prop} {qq : Int → Int → jS → jH → Int → jS → jH → Prop} (h : x1_22 C G) (hrm : C.2.2.2.1.frames = 2 ∧ C.2.2.2.1.locals = 47) (c1 : S.1 l0 = 31) (hM : M1_27 C.2.1 mc ms pp qq) (hp : pp l0 ((-2)) S V) (hc : nc + mc ≤ C.2.2.2.1.cells) (hs : ns + ms ≤ C.2.2.2.1.slots) (k : ∀ (r : Int) (S' : jS) (V' : jH), qq l0 ((-2)) S V r S' V' → j_ok n_KT 2 C G 16 [] [(0, r)] S' V' (nc + mc) (ns + ms)) : j_ok n_KT 2 C G 10 [(0, (2, l0))] [] S V nc ns := by
  have E := n_E h
  refine j_aload_n E d1_22_10 rfl 0 rfl ?_
  refine j_bipush E d1_22_11 (by decide) ?_
  refine j_call E (K1_22_13 h hrm hM) d1_22_13 (a := [(2, l0), (0, (-2))]) (sk := []) rfl ⟨l0, (-2), rfl, c1, hp⟩ (Nat.le_of_ble_eq_true rfl) hc hs ?_
  rintro rs S' V' ⟨z0, z1, r, e1, rfl, q⟩
  simp only [List.cons.injEq, Prod.mk.injEq, and_true, true_and] at e1
  obtain ⟨rfl, rfl⟩ := e1
  exact j_pick [] rfl (k r S' V' q)
theorem t1_22_16 {C : qCx} {G : jG} {S : jS} {V : jH} {nc ns : Nat} {s0 : Int} {mc ms : Nat} {qf : Int → jS → jH → Prop} (h : x1_22 C G)  (R : j_Ri n_KT 2 C G b_1_22 mc ms qf) (q : qf s0 S V) (hc : nc ≤ mc) (hs : ns ≤ ms) : j_ok n_KT 2 C G 16 [] [(0, s0)] S V nc ns := by
  have E := n_E h
  exact R _ _ _ _ _ _ _ d1_22_16 q hc hs
theorem t1_22_17 {C : qCx} {G : jG} {S : jS} {V : jH} {nc ns : Nat} {l0 l1 : Int} {mc ms : Nat} {qf : Int → jS → jH → Prop} (h : x1_22 C G) (L : j_L S) (c1 : S.1 l0 = 31) (c2 : 0 ≤ V l0 6) (c3 : V l0 6 < 400) (c4 : -2147483648 ≤ (V l0 6) + 1 ∧ (V l0 6) + 1 ≤ 2147483647) (R : j_Ri n_KT 2 C G b_1_22 mc ms qf) (q : qf ((V l0 6) + 1) S (j_up (j_up V (l0 + 241) (V l0 6) l1) l0 6 ((V l0 6) + 1))) (hc : nc ≤ mc) (hs : ns ≤ ms) : j_ok n_KT 2 C G 17 [(0, (2, l0)), (1, (0, l1))] [] S V nc ns := by
  have E := n_E h
  refine j_aload_n E d1_22_17 rfl 0 rfl ?_
  refine j_getS (f := 5) (x := l0 + 241) (fg10_40 h) d1_22_18 c1 (by decide) rfl rfl ((L10_5 L c1).trans (by omega)) ?_
  refine j_aload_n E d1_22_21 rfl 0 rfl ?_
  refine j_getI (f := 6) (fg10_44 h) d1_22_22 c1 (by decide) rfl rfl ?_
  refine j_iload_n E d1_22_25 rfl 1 rfl ?_
  refine j_iast E d1_22_26 (j_arr_of (show S.1 (l0 + 241) = 1 from (by have q := L10_5k L c1; rw [show l0 + 241 = l0 + 241 by omega]; exact q)) (by decide) rfl) c2 c3 ?_
  refine j_aload_n E d1_22_27 rfl 0 rfl ?_
  refine j_dup E d1_22_28 rfl ?_
  refine j_getI (f := 6) (fg10_44 h) d1_22_29 c1 (by decide) rfl rfl ?_
  refine j_eqT (show (j_up V (l0 + 241) (V l0 6) l1) l0 6 = V l0 6 from (congrFun (j_up_ne (by omega)) _)) ?_
  refine j_iconst E d1_22_32 (by decide) ?_
  refine j_iadd E d1_22_33 c4 ?_
  refine j_putI (f := 6) (fp10_44 h) (n_hap h 31 10 0 _ rfl) d1_22_34 c1 (by decide) rfl rfl rfl ?_
  refine j_aload_n E d1_22_37 rfl 0 rfl ?_
  refine j_getI (f := 6) (fg10_44 h) d1_22_38 c1 (by decide) rfl rfl ?_
  refine j_eqT (show (j_up (j_up V (l0 + 241) (V l0 6) l1) l0 6 ((V l0 6) + 1)) l0 6 = (V l0 6) + 1 from (j_up_at _ _ _ _)) ?_
  exact R _ _ _ _ _ _ _ d1_22_41 q hc hs
/- BalanceCoder.check()I -/
abbrev b_1_23 : ByteArray := prog_1_method_23_code
def y_1_23 : MethodName := ⟨"BalanceCoder", "check", "()I"⟩
abbrev x1_23 (C : qCx) (G : jG) : Prop := n_ctx C b_1_23 5 "BalanceCoder" G.1 G.2.1
def M1_23 (l : Launch) (mc ms : Nat) (p : Int → jS → jH → Prop) (q : Int → jS → jH → Int → jS → jH → Prop) : Prop := j_Met l vwCl n_TL n_NW n_KT y_1_23 (Cond.code y_1_23 b_1_23 5 (some .int) :: n_GW) { frames := 2, cells := mc, slots := ms, locals := 47 } mc ms (fun a S V => ∃ u0 : Int, a = [(2, u0)] ∧ S.1 u0 = 31 ∧ p u0 S V) (fun a S V rs S' V' => ∃ u0 r : Int, a = [(2, u0)] ∧ rs = [(0, r)] ∧ q u0 S V r S' V')
theorem e1_23 {l : Launch} {mc ms : Nat} {p : Int → jS → jH → Prop} {q : Int → jS → jH → Int → jS → jH → Prop} (body : ∀ (C : qCx) (G : jG), x1_23 C G → C.2.2.2.1.frames = 2 ∧ C.2.2.2.1.locals = 47 → C.2.2.2.1.cells = mc ∧ C.2.2.2.1.slots = ms → C.2.1 = l → C.2.2.2.2.2.2.2.2.1.name = "check" → ∀ (u0 : Int) (S : jS) (V : jH), S.1 u0 = 31 → p u0 S V → j_Ri n_KT 5 C G b_1_23 mc ms (q u0 S V) → j_ok n_KT 5 C G 0 [(0, (2, u0))] [] S V 0 0) : M1_23 l mc ms p q := by
  refine j_method (ws' := n_GW) (by decide) rfl ?_ ?_
  · rintro a S V ⟨u0, rfl, -⟩
    exact Nat.le_of_ble_eq_true rfl
  · rintro C G htl hl hrm hm hml ho hts hnm hE a S V ⟨u0, rfl, ht, hp⟩ R
    exact body C G ⟨htl, hm, hml, ho, fun w hw => hts w (List.mem_cons_of_mem _ hw), hE⟩ (by rw [hrm]; exact ⟨rfl, rfl⟩) (by rw [hrm]; exact ⟨rfl, rfl⟩) hl hnm u0 S V ht hp (fun pc lo r S' V' nc ns d q hc hs => R.2.1 rfl pc lo r S' V' nc ns d ⟨u0, r, rfl, rfl, q⟩ hc hs)
theorem d1_23_0 : decode b_1_23 0 = .ok (.aload_n 0, 1) := by decide +kernel
theorem d1_23_1 : decode b_1_23 1 = .ok (.getfield 44, 3) := by decide +kernel
theorem d1_23_4 : decode b_1_23 4 = .ok (.istore_n 1, 1) := by decide +kernel
theorem d1_23_5 : decode b_1_23 5 = .ok (.aload_n 0, 1) := by decide +kernel
theorem d1_23_6 : decode b_1_23 6 = .ok (.iconst 0, 1) := by decide +kernel
theorem d1_23_7 : decode b_1_23 7 = .ok (.putfield 44, 3) := by decide +kernel
theorem d1_23_10 : decode b_1_23 10 = .ok (.aload_n 0, 1) := by decide +kernel
theorem d1_23_11 : decode b_1_23 11 = .ok (.getfield 10, 3) := by decide +kernel
theorem d1_23_14 : decode b_1_23 14 = .ok (.getfield 155, 3) := by decide +kernel
theorem d1_23_17 : decode b_1_23 17 = .ok (.astore_n 2, 1) := by decide +kernel
theorem d1_23_18 : decode b_1_23 18 = .ok (.aload_n 2, 1) := by decide +kernel
theorem d1_23_19 : decode b_1_23 19 = .ok (.getfield 205, 3) := by decide +kernel
theorem d1_23_22 : decode b_1_23 22 = .ok (.ifCond .ne 10, 3) := by decide +kernel
theorem d1_23_25 : decode b_1_23 25 = .ok (.aload_n 0, 1) := by decide +kernel
theorem d1_23_26 : decode b_1_23 26 = .ok (.bipush (-6), 2) := by decide +kernel
theorem d1_23_28 : decode b_1_23 28 = .ok (.invokevirtual 55, 3) := by decide +kernel
theorem d1_23_31 : decode b_1_23 31 = .ok (.ireturn, 1) := by decide +kernel
theorem d1_23_32 : decode b_1_23 32 = .ok (.aload_n 2, 1) := by decide +kernel
theorem d1_23_33 : decode b_1_23 33 = .ok (.getfield 209, 3) := by decide +kernel
theorem d1_23_36 : decode b_1_23 36 = .ok (.astore_n 3, 1) := by decide +kernel
theorem d1_23_37 : decode b_1_23 37 = .ok (.iconst 0, 1) := by decide +kernel
theorem d1_23_38 : decode b_1_23 38 = .ok (.istore 4, 2) := by decide +kernel
theorem d1_23_40 : decode b_1_23 40 = .ok (.iload 4, 2) := by decide +kernel
theorem d1_23_42 : decode b_1_23 42 = .ok (.aload_n 3, 1) := by decide +kernel
theorem d1_23_43 : decode b_1_23 43 = .ok (.getfield 210, 3) := by decide +kernel
theorem d1_23_46 : decode b_1_23 46 = .ok (.if_icmp .ge 37, 3) := by decide +kernel
theorem d1_23_49 : decode b_1_23 49 = .ok (.iload 4, 2) := by decide +kernel
theorem d1_23_51 : decode b_1_23 51 = .ok (.iload_n 1, 1) := by decide +kernel
theorem d1_23_52 : decode b_1_23 52 = .ok (.if_icmp .ge 20, 3) := by decide +kernel
theorem d1_23_55 : decode b_1_23 55 = .ok (.aload_n 0, 1) := by decide +kernel
theorem d1_23_56 : decode b_1_23 56 = .ok (.getfield 40, 3) := by decide +kernel
theorem d1_23_59 : decode b_1_23 59 = .ok (.iload 4, 2) := by decide +kernel
theorem d1_23_61 : decode b_1_23 61 = .ok (.iaload, 1) := by decide +kernel
theorem d1_23_62 : decode b_1_23 62 = .ok (.aload_n 3, 1) := by decide +kernel
theorem d1_23_63 : decode b_1_23 63 = .ok (.getfield 214, 3) := by decide +kernel
theorem d1_23_66 : decode b_1_23 66 = .ok (.iload 4, 2) := by decide +kernel
theorem d1_23_68 : decode b_1_23 68 = .ok (.iaload, 1) := by decide +kernel
theorem d1_23_69 : decode b_1_23 69 = .ok (.if_icmp .eq 8, 3) := by decide +kernel
theorem d1_23_72 : decode b_1_23 72 = .ok (.iload 4, 2) := by decide +kernel
theorem d1_23_74 : decode b_1_23 74 = .ok (.iconst 1, 1) := by decide +kernel
theorem d1_23_75 : decode b_1_23 75 = .ok (.iadd, 1) := by decide +kernel
theorem d1_23_76 : decode b_1_23 76 = .ok (.ireturn, 1) := by decide +kernel
theorem d1_23_77 : decode b_1_23 77 = .ok (.iinc 4 1, 3) := by decide +kernel
theorem d1_23_80 : decode b_1_23 80 = .ok (.goto (-40), 3) := by decide +kernel
theorem d1_23_83 : decode b_1_23 83 = .ok (.iload_n 1, 1) := by decide +kernel
theorem d1_23_84 : decode b_1_23 84 = .ok (.aload_n 3, 1) := by decide +kernel
theorem d1_23_85 : decode b_1_23 85 = .ok (.getfield 210, 3) := by decide +kernel
theorem d1_23_88 : decode b_1_23 88 = .ok (.if_icmp .le 12, 3) := by decide +kernel
theorem d1_23_91 : decode b_1_23 91 = .ok (.aload_n 3, 1) := by decide +kernel
theorem d1_23_92 : decode b_1_23 92 = .ok (.getfield 210, 3) := by decide +kernel
theorem d1_23_95 : decode b_1_23 95 = .ok (.iconst 1, 1) := by decide +kernel
theorem d1_23_96 : decode b_1_23 96 = .ok (.iadd, 1) := by decide +kernel
theorem d1_23_97 : decode b_1_23 97 = .ok (.goto 4, 3) := by decide +kernel
theorem d1_23_100 : decode b_1_23 100 = .ok (.iconst 0, 1) := by decide +kernel
theorem d1_23_101 : decode b_1_23 101 = .ok (.ireturn, 1) := by decide +kernel
theorem K1_23_28 {C : qCx} {G : jG} {mc ms : Nat} {p : Int → Int → jS → jH → Prop} {q : Int → Int → jS → jH → Int → jS → jH → Prop} (h : x1_23 C G) (hrm : C.2.2.2.1.frames = 2 ∧ C.2.2.2.1.locals = 47) (hM : M1_27 C.2.1 mc ms p q) : j_Call C b_1_23 n_KT G.1 G.2.1 5 (.invokevirtual 55) mc ms (fun a S V => ∃ u0 u1 : Int, a = [(2, u0), (0, u1)] ∧ S.1 u0 = 31 ∧ p u0 u1 S V) (fun a S V rs S' V' => ∃ u0 u1 r : Int, a = [(2, u0), (0, u1)] ∧ rs = [(0, r)] ∧ q u0 u1 S V r S' V') := j_callV n_NWk h.2.2.2.2.2 h.1 hM ⟨h.2.1.1, h.2.1.2, h.2.2.1, h.2.2.2.1, h.2.2.2.2.1⟩ ⟨n_CB (y := y_1_27) (bytes := b_1_27) 1 h.2.2.2.2.1 n_w309 n_w306 n_w1 ⟨by decide, by decide, by decide +kernel⟩ rfl rfl ⟨by rw [hrm.1]; exact Nat.le_of_ble_eq_true rfl, by rw [hrm.2]; exact Nat.le_of_ble_eq_true rfl⟩, h.2.2.2.2.1 _ n_w308, h.2.2.2.2.1 _ n_s1⟩ (Cn := RX10) (fun a S V hP => by obtain ⟨u0, u1, rfl, e, -⟩ := hP; exact ⟨u0, _, 10, _, _, TX10, 8, rfl, rfl, by rw [e]; decide, by rw [e]; rfl, rfl⟩)
theorem t1_23_0 {C : qCx} {G : jG} {S : jS} {V : jH} {nc ns : Nat} {l0 : Int} (h : x1_23 C G) (L : j_L S) (c1 : S.1 l0 = 31) (k : ¬ V (l0 + 16) 2 = 0 → j_ok n_KT 5 C G 32 [(0, (2, l0)), (1, (0, V l0 6)), (2, (2, l0 + 16))] [] S (j_up V l0 6 0) nc ns) (k' : V (l0 + 16) 2 = 0 → j_ok n_KT 5 C G 25 [(0, (2, l0))] [] S (j_up V l0 6 0) nc ns) : j_ok n_KT 5 C G 0 [(0, (2, l0))] [] S V nc ns := by
  have E := n_E h
  refine j_aload_n E d1_23_0 rfl 0 rfl ?_
  refine j_getI (f := 6) (fg10_44 h) d1_23_1 c1 (by decide) rfl rfl ?_
  refine j_istore_n E d1_23_4 rfl (by decide) (lo1 := [(0, (2, l0))]) rfl ?_
  refine j_aload_n E d1_23_5 rfl 1 rfl ?_
  refine j_iconst E d1_23_6 (by decide) ?_
  refine j_putI (f := 6) (fp10_44 h) (n_hap h 31 10 0 _ rfl) d1_23_7 c1 (by decide) rfl rfl rfl ?_
  refine j_aload_n E d1_23_10 rfl 1 rfl ?_
  refine j_getS (f := 0) (x := l0 + 1) (fg10_10 h) d1_23_11 c1 (by decide) rfl rfl ((L10_0 L c1).trans (by omega)) ?_
  refine j_getS (f := 3) (x := l0 + 16) (fg10_155 h) d1_23_14 (show S.1 (l0 + 1) = 30 from (by have q := L10_0k L c1; rw [show l0 + 1 = l0 + 1 by omega]; exact q)) (by decide) rfl rfl ((L9_3 L (show S.1 (l0 + 1) = 30 from (by have q := L10_0k L c1; rw [show l0 + 1 = l0 + 1 by omega]; exact q))).trans (by omega)) ?_
  refine j_astore_n E d1_23_17 rfl (by decide) (lo1 := [(1, (0, V l0 6)), (0, (2, l0))]) rfl ?_
  refine j_aload_n E d1_23_18 rfl 0 rfl ?_
  refine j_getI (f := 2) (fg10_205 h) d1_23_19 (show S.1 (l0 + 16) = 22 from (by have q := L9_3k L (show S.1 (l0 + 1) = 30 from (by have q := L10_0k L c1; rw [show l0 + 1 = l0 + 1 by omega]; exact q)); rw [show l0 + 16 = (l0 + 1) + 15 by omega]; exact q)) (by decide) rfl rfl ?_
  refine j_eqT (show (j_up V l0 6 0) (l0 + 16) 2 = V (l0 + 16) 2 from (congrFun (j_up_ne (by omega)) _)) ?_
  exact j_if_ne E d1_23_22 (t := 32) rfl (fun q => j_pick [2, 1, 0] rfl (k q)) (fun q => j_pick [2] rfl (k' q))
theorem t1_23_25 {C : qCx} {G : jG} {S : jS} {V : jH} {nc ns : Nat} {l0 : Int} {mc ms : Nat} {pp : Int → Int → jS → jH → Prop} {qq : Int → Int → jS → jH → Int → jS → jH → Prop} (h : x1_23 C G) (hrm : C.2.2.2.1.frames = 2 ∧ C.2.2.2.1.locals = 47) (c1 : S.1 l0 = 31) (hM : M1_27 C.2.1 mc ms pp qq) (hp : pp l0 ((-6)) S V) (hc : nc + mc ≤ C.2.2.2.1.cells) (hs : ns + ms ≤ C.2.2.2.1.slots) (k : ∀ (r : Int) (S' : jS) (V' : jH), qq l0 ((-6)) S V r S' V' → j_ok n_KT 5 C G 31 [] [(0, r)] S' V' (nc + mc) (ns + ms)) : j_ok n_KT 5 C G 25 [(0, (2, l0))] [] S V nc ns := by
  have E := n_E h
  refine j_aload_n E d1_23_25 rfl 0 rfl ?_
  refine j_bipush E d1_23_26 (by decide) ?_
  refine j_call E (K1_23_28 h hrm hM) d1_23_28 (a := [(2, l0), (0, (-6))]) (sk := []) rfl ⟨l0, (-6), rfl, c1, hp⟩ (Nat.le_of_ble_eq_true rfl) hc hs ?_
  rintro rs S' V' ⟨z0, z1, r, e1, rfl, q⟩
  simp only [List.cons.injEq, Prod.mk.injEq, and_true, true_and] at e1
  obtain ⟨rfl, rfl⟩ := e1
  exact j_pick [] rfl (k r S' V' q)
theorem t1_23_31 {C : qCx} {G : jG} {S : jS} {V : jH} {nc ns : Nat} {s0 : Int} {mc ms : Nat} {qf : Int → jS → jH → Prop} (h : x1_23 C G)  (R : j_Ri n_KT 5 C G b_1_23 mc ms qf) (q : qf s0 S V) (hc : nc ≤ mc) (hs : ns ≤ ms) : j_ok n_KT 5 C G 31 [] [(0, s0)] S V nc ns := by
  have E := n_E h
  exact R _ _ _ _ _ _ _ d1_23_31 q hc hs
theorem t1_23_32 {C : qCx} {G : jG} {S : jS} {V : jH} {nc ns : Nat} {l0 l1 l2 : Int} (h : x1_23 C G) (L : j_L S) (c1 : S.1 l2 = 22) (k : j_ok n_KT 5 C G 40 [(0, (2, l0)), (1, (0, l1)), (3, (2, l2 + 2)), (4, (0, 0))] [] S V nc ns) : j_ok n_KT 5 C G 32 [(0, (2, l0)), (1, (0, l1)), (2, (2, l2))] [] S V nc ns := by
  have E := n_E h
  refine j_aload_n E d1_23_32 rfl 2 rfl ?_
  refine j_getS (f := 3) (x := l2 + 2) (fg10_209 h) d1_23_33 c1 (by decide) rfl rfl ((L1_3 L c1).trans (by omega)) ?_
  refine j_astore_n E d1_23_36 rfl (by decide) (lo1 := [(0, (2, l0)), (1, (0, l1)), (2, (2, l2))]) rfl ?_
  refine j_iconst E d1_23_37 (by decide) ?_
  refine j_istore E d1_23_38 (by decide) (lo1 := [(3, (2, l2 + 2)), (0, (2, l0)), (1, (0, l1)), (2, (2, l2))]) rfl ?_
  exact j_pick [2, 3, 1, 0] rfl k
theorem t1_23_40 {C : qCx} {G : jG} {S : jS} {V : jH} {nc ns : Nat} {l0 l1 l3 l4 : Int} (h : x1_23 C G) (c1 : S.1 l3 = 28) (k : V l3 5 ≤ l4 → j_ok n_KT 5 C G 83 [(1, (0, l1)), (3, (2, l3))] [] S V nc ns) (k' : l4 < V l3 5 → j_ok n_KT 5 C G 49 [(0, (2, l0)), (1, (0, l1)), (3, (2, l3)), (4, (0, l4))] [] S V nc ns) : j_ok n_KT 5 C G 40 [(0, (2, l0)), (1, (0, l1)), (3, (2, l3)), (4, (0, l4))] [] S V nc ns := by
  have E := n_E h
  refine j_iload E d1_23_40 3 rfl ?_
  refine j_aload_n E d1_23_42 rfl 2 rfl ?_
  refine j_getI (f := 5) (fg10_210 h) d1_23_43 c1 (by decide) rfl rfl ?_
  exact j_icmp_ge E d1_23_46 (t := 83) rfl (fun q => j_pick [1, 2] rfl (k q)) (fun q => j_pick [0, 1, 2, 3] rfl (k' q))
theorem t1_23_49 {C : qCx} {G : jG} {S : jS} {V : jH} {nc ns : Nat} {l0 l1 l3 l4 : Int} (h : x1_23 C G)  (k : l1 ≤ l4 → j_ok n_KT 5 C G 72 [(4, (0, l4))] [] S V nc ns) (k' : l4 < l1 → j_ok n_KT 5 C G 55 [(0, (2, l0)), (1, (0, l1)), (3, (2, l3)), (4, (0, l4))] [] S V nc ns) : j_ok n_KT 5 C G 49 [(0, (2, l0)), (1, (0, l1)), (3, (2, l3)), (4, (0, l4))] [] S V nc ns := by
  have E := n_E h
  refine j_iload E d1_23_49 3 rfl ?_
  refine j_iload_n E d1_23_51 rfl 1 rfl ?_
  exact j_icmp_ge E d1_23_52 (t := 72) rfl (fun q => j_pick [3] rfl (k q)) (fun q => j_pick [0, 1, 2, 3] rfl (k' q))
theorem t1_23_55 {C : qCx} {G : jG} {S : jS} {V : jH} {nc ns : Nat} {l0 l1 l3 l4 : Int} (h : x1_23 C G) (L : j_L S) (c1 : S.1 l0 = 31) (c2 : 0 ≤ l4) (c3 : l4 < 400) (c4 : S.1 l3 = 28) (k : V (l0 + 241) l4 = V (l3 + 2) l4 → j_ok n_KT 5 C G 77 [(0, (2, l0)), (1, (0, l1)), (3, (2, l3)), (4, (0, l4))] [] S V nc ns) (k' : ¬ V (l0 + 241) l4 = V (l3 + 2) l4 → j_ok n_KT 5 C G 72 [(4, (0, l4))] [] S V nc ns) : j_ok n_KT 5 C G 55 [(0, (2, l0)), (1, (0, l1)), (3, (2, l3)), (4, (0, l4))] [] S V nc ns := by
  have E := n_E h
  refine j_aload_n E d1_23_55 rfl 0 rfl ?_
  refine j_getS (f := 5) (x := l0 + 241) (fg10_40 h) d1_23_56 c1 (by decide) rfl rfl ((L10_5 L c1).trans (by omega)) ?_
  refine j_iload E d1_23_59 3 rfl ?_
  refine j_iald E d1_23_61 (j_arr_of (show S.1 (l0 + 241) = 1 from (by have q := L10_5k L c1; rw [show l0 + 241 = l0 + 241 by omega]; exact q)) (by decide) rfl) c2 c3 ?_
  refine j_aload_n E d1_23_62 rfl 2 rfl ?_
  refine j_getS (f := 1) (x := l3 + 2) (fg10_214 h) d1_23_63 c4 (by decide) rfl rfl ((L7_1 L c4).trans (by omega)) ?_
  refine j_iload E d1_23_66 3 rfl ?_
  refine j_iald E d1_23_68 (j_arr_of (show S.1 (l3 + 2) = 1 from (by have q := L7_1k L c4; rw [show l3 + 2 = l3 + 2 by omega]; exact q)) (by decide) rfl) c2 c3 ?_
  exact j_icmp_eq E d1_23_69 (t := 77) rfl (fun q => j_pick [0, 1, 2, 3] rfl (k q)) (fun q => j_pick [3] rfl (k' q))
theorem t1_23_72 {C : qCx} {G : jG} {S : jS} {V : jH} {nc ns : Nat} {l4 : Int} {mc ms : Nat} {qf : Int → jS → jH → Prop} (h : x1_23 C G) (c1 : -2147483648 ≤ l4 + 1 ∧ l4 + 1 ≤ 2147483647) (R : j_Ri n_KT 5 C G b_1_23 mc ms qf) (q : qf (l4 + 1) S V) (hc : nc ≤ mc) (hs : ns ≤ ms) : j_ok n_KT 5 C G 72 [(4, (0, l4))] [] S V nc ns := by
  have E := n_E h
  refine j_iload E d1_23_72 0 rfl ?_
  refine j_iconst E d1_23_74 (by decide) ?_
  refine j_iadd E d1_23_75 c1 ?_
  exact R _ _ _ _ _ _ _ d1_23_76 q hc hs
theorem t1_23_77 {C : qCx} {G : jG} {S : jS} {V : jH} {nc ns : Nat} {l0 l1 l3 l4 : Int} (h : x1_23 C G) (c1 : -2147483648 ≤ l4 + 1 ∧ l4 + 1 ≤ 2147483647) (k : j_ok n_KT 5 C G 40 [(0, (2, l0)), (1, (0, l1)), (3, (2, l3)), (4, (0, l4 + 1))] [] S V nc ns) : j_ok n_KT 5 C G 77 [(0, (2, l0)), (1, (0, l1)), (3, (2, l3)), (4, (0, l4))] [] S V nc ns := by
  have E := n_E h
  refine j_iinc E d1_23_77 (by decide) (by decide) 3 rfl (lo1 := [(0, (2, l0)), (1, (0, l1)), (3, (2, l3))]) rfl c1 ?_
  refine j_goto E d1_23_80 (t := 40) rfl ?_
  exact j_pick [1, 2, 3, 0] rfl k
theorem t1_23_83 {C : qCx} {G : jG} {S : jS} {V : jH} {nc ns : Nat} {l1 l3 : Int} (h : x1_23 C G) (c1 : S.1 l3 = 28) (k : l1 ≤ V l3 5 → j_ok n_KT 5 C G 100 [] [] S V nc ns) (k' : V l3 5 < l1 → j_ok n_KT 5 C G 91 [(3, (2, l3))] [] S V nc ns) : j_ok n_KT 5 C G 83 [(1, (0, l1)), (3, (2, l3))] [] S V nc ns := by
  have E := n_E h
  refine j_iload_n E d1_23_83 rfl 0 rfl ?_
  refine j_aload_n E d1_23_84 rfl 1 rfl ?_
  refine j_getI (f := 5) (fg10_210 h) d1_23_85 c1 (by decide) rfl rfl ?_
  exact j_icmp_le E d1_23_88 (t := 100) rfl (fun q => j_pick [] rfl (k q)) (fun q => j_pick [1] rfl (k' q))
theorem t1_23_91 {C : qCx} {G : jG} {S : jS} {V : jH} {nc ns : Nat} {l3 : Int} (h : x1_23 C G) (c1 : S.1 l3 = 28) (c2 : -2147483648 ≤ (V l3 5) + 1 ∧ (V l3 5) + 1 ≤ 2147483647) (k : j_ok n_KT 5 C G 101 [] [(0, (V l3 5) + 1)] S V nc ns) : j_ok n_KT 5 C G 91 [(3, (2, l3))] [] S V nc ns := by
  have E := n_E h
  refine j_aload_n E d1_23_91 rfl 0 rfl ?_
  refine j_getI (f := 5) (fg10_210 h) d1_23_92 c1 (by decide) rfl rfl ?_
  refine j_iconst E d1_23_95 (by decide) ?_
  refine j_iadd E d1_23_96 c2 ?_
  refine j_goto E d1_23_97 (t := 101) rfl ?_
  exact j_pick [] rfl k
theorem t1_23_100 {C : qCx} {G : jG} {S : jS} {V : jH} {nc ns : Nat} (h : x1_23 C G)  (k : j_ok n_KT 5 C G 101 [] [(0, 0)] S V nc ns) : j_ok n_KT 5 C G 100 [] [] S V nc ns := by
  have E := n_E h
  refine j_iconst E d1_23_100 (by decide) ?_
  exact j_pick [] rfl k
theorem t1_23_101 {C : qCx} {G : jG} {S : jS} {V : jH} {nc ns : Nat} {s0 : Int} {mc ms : Nat} {qf : Int → jS → jH → Prop} (h : x1_23 C G)  (R : j_Ri n_KT 5 C G b_1_23 mc ms qf) (q : qf s0 S V) (hc : nc ≤ mc) (hs : ns ≤ ms) : j_ok n_KT 5 C G 101 [] [(0, s0)] S V nc ns := by
  have E := n_E h
  exact R _ _ _ _ _ _ _ d1_23_101 q hc hs
/- BalanceCoder$Row.become(LBalanceCoder$Row;)V -/
abbrev b_8_3 : ByteArray := prog_8_method_3_code
def y_8_3 : MethodName := ⟨"BalanceCoder$Row", "become", "(LBalanceCoder$Row;)V"⟩
abbrev x8_3 (C : qCx) (G : jG) : Prop := n_ctx C b_8_3 2 "BalanceCoder$Row" G.1 G.2.1
def M8_3 (l : Launch) (mc ms : Nat) (p : Int → Int → jS → jH → Prop) (q : Int → Int → jS → jH → jS → jH → Prop) : Prop := j_Met l vwCl n_TL n_NW n_KT y_8_3 (Cond.code y_8_3 b_8_3 2 none :: n_GW) { frames := 1, cells := mc, slots := ms, locals := 26 } mc ms (fun a S V => ∃ u0 u1 : Int, a = [(2, u0), (2, u1)] ∧ S.1 u0 = 27 ∧ p u0 u1 S V) (fun a S V rs S' V' => ∃ u0 u1 : Int, a = [(2, u0), (2, u1)] ∧ rs = [] ∧ q u0 u1 S V S' V')
theorem e8_3 {l : Launch} {mc ms : Nat} {p : Int → Int → jS → jH → Prop} {q : Int → Int → jS → jH → jS → jH → Prop} (body : ∀ (C : qCx) (G : jG), x8_3 C G → C.2.2.2.1.frames = 1 ∧ C.2.2.2.1.locals = 26 → C.2.2.2.1.cells = mc ∧ C.2.2.2.1.slots = ms → C.2.1 = l → C.2.2.2.2.2.2.2.2.1.name = "become" → ∀ (u0 u1 : Int) (S : jS) (V : jH), S.1 u0 = 27 → p u0 u1 S V → j_Rv n_KT 2 C G b_8_3 mc ms (q u0 u1 S V) → j_ok n_KT 2 C G 0 [(0, (2, u0)), (1, (2, u1))] [] S V 0 0) : M8_3 l mc ms p q := by
  refine j_method (ws' := n_GW) (by decide) rfl ?_ ?_
  · rintro a S V ⟨u0, u1, rfl, -⟩
    exact Nat.le_of_ble_eq_true rfl
  · rintro C G htl hl hrm hm hml ho hts hnm hE a S V ⟨u0, u1, rfl, ht, hp⟩ R
    exact body C G ⟨htl, hm, hml, ho, fun w hw => hts w (List.mem_cons_of_mem _ hw), hE⟩ (by rw [hrm]; exact ⟨rfl, rfl⟩) (by rw [hrm]; exact ⟨rfl, rfl⟩) hl hnm u0 u1 S V ht hp (fun pc lo S' V' nc ns d q hc hs => R.1 rfl pc lo S' V' nc ns d ⟨u0, u1, rfl, rfl, q⟩ hc hs)
theorem d8_3_0 : decode b_8_3 0 = .ok (.aload_n 1, 1) := by decide +kernel
theorem d8_3_1 : decode b_8_3 1 = .ok (.getfield 9, 3) := by decide +kernel
theorem d8_3_4 : decode b_8_3 4 = .ok (.iconst 0, 1) := by decide +kernel
theorem d8_3_5 : decode b_8_3 5 = .ok (.aload_n 0, 1) := by decide +kernel
theorem d8_3_6 : decode b_8_3 6 = .ok (.getfield 9, 3) := by decide +kernel
theorem d8_3_9 : decode b_8_3 9 = .ok (.iconst 0, 1) := by decide +kernel
theorem d8_3_10 : decode b_8_3 10 = .ok (.aload_n 1, 1) := by decide +kernel
theorem d8_3_11 : decode b_8_3 11 = .ok (.getfield 15, 3) := by decide +kernel
theorem d8_3_14 : decode b_8_3 14 = .ok (.invokestatic 19, 3) := by decide +kernel
theorem d8_3_17 : decode b_8_3 17 = .ok (.aload_n 0, 1) := by decide +kernel
theorem d8_3_18 : decode b_8_3 18 = .ok (.aload_n 1, 1) := by decide +kernel
theorem d8_3_19 : decode b_8_3 19 = .ok (.getfield 15, 3) := by decide +kernel
theorem d8_3_22 : decode b_8_3 22 = .ok (.putfield 15, 3) := by decide +kernel
theorem d8_3_25 : decode b_8_3 25 = .ok (.return_, 1) := by decide +kernel
theorem t8_3_0 {C : qCx} {G : jG} {S : jS} {V : jH} {nc ns : Nat} {l0 l1 : Int} {mc ms : Nat} {qf : jS → jH → Prop} (h : x8_3 C G) (L : j_L S) (hR : 1 ≤ C.2.2.2.1.frames ∧ 26 ≤ C.2.2.2.1.locals) (c1 : S.1 l1 = 27) (c2 : S.1 l0 = 27) (c3 : 0 ≤ V l1 1) (c4 : 0 + (V l1 1) ≤ 400) (R : j_Rv n_KT 2 C G b_8_3 mc ms qf) (q : qf S (j_up (j_cpy V (l1 + 1) 0 (l0 + 1) 0 (V l1 1)) l0 1 ((j_cpy V (l1 + 1) 0 (l0 + 1) 0 (V l1 1)) l1 1))) (hc : nc ≤ mc) (hs : ns ≤ ms) : j_ok n_KT 2 C G 0 [(0, (2, l0)), (1, (2, l1))] [] S V nc ns := by
  have E := n_E h
  refine j_aload_n E d8_3_0 rfl 1 rfl ?_
  refine j_getS (f := 0) (x := l1 + 1) (fg6_9 h) d8_3_1 c1 (by decide) rfl rfl ((L6_0 L c1).trans (by omega)) ?_
  refine j_iconst E d8_3_4 (by decide) ?_
  refine j_aload_n E d8_3_5 rfl 0 rfl ?_
  refine j_getS (f := 0) (x := l0 + 1) (fg6_9 h) d8_3_6 c2 (by decide) rfl rfl ((L6_0 L c2).trans (by omega)) ?_
  refine j_iconst E d8_3_9 (by decide) ?_
  refine j_aload_n E d8_3_10 rfl 1 rfl ?_
  refine j_getI (f := 1) (fg6_15 h) d8_3_11 c1 (by decide) rfl rfl ?_
  refine j_cpA E (fc6_19 h ⟨hR.1, by have := hR.2; simp only [nativeFrameWords] at *; first | omega | (simp; omega)⟩) d8_3_14 (j_arr_of (show S.1 (l1 + 1) = 1 from (by have q := L6_0k L c1; rw [show l1 + 1 = l1 + 1 by omega]; exact q)) (by decide) rfl) (j_arr_of (show S.1 (l0 + 1) = 1 from (by have q := L6_0k L c2; rw [show l0 + 1 = l0 + 1 by omega]; exact q)) (by decide) rfl) c3 (by decide) (by decide) c4 c4 (Nat.le_of_ble_eq_true rfl) ?_
  refine j_aload_n E d8_3_17 rfl 0 rfl ?_
  refine j_aload_n E d8_3_18 rfl 1 rfl ?_
  refine j_getI (f := 1) (fg6_15 h) d8_3_19 c1 (by decide) rfl rfl ?_
  refine j_putI (f := 1) (fp6_15 h) (n_hap h 27 6 0 _ rfl) d8_3_22 c2 (by decide) rfl rfl rfl ?_
  exact R _ _ _ _ _ _ d8_3_25 q hc hs
/- BalanceCoder$Deal.become(LBalanceCoder$Deal;)V -/
abbrev b_4_6 : ByteArray := prog_4_method_6_code
def y_4_6 : MethodName := ⟨"BalanceCoder$Deal", "become", "(LBalanceCoder$Deal;)V"⟩
abbrev x4_6 (C : qCx) (G : jG) : Prop := n_ctx C b_4_6 2 "BalanceCoder$Deal" G.1 G.2.1
def M4_6 (l : Launch) (mc ms : Nat) (p : Int → Int → jS → jH → Prop) (q : Int → Int → jS → jH → jS → jH → Prop) : Prop := j_Met l vwCl n_TL n_NW n_KT y_4_6 (Cond.code y_4_6 b_4_6 2 none :: n_GW) { frames := 1, cells := mc, slots := ms, locals := 26 } mc ms (fun a S V => ∃ u0 u1 : Int, a = [(2, u0), (2, u1)] ∧ S.1 u0 = 23 ∧ p u0 u1 S V) (fun a S V rs S' V' => ∃ u0 u1 : Int, a = [(2, u0), (2, u1)] ∧ rs = [] ∧ q u0 u1 S V S' V')
theorem e4_6 {l : Launch} {mc ms : Nat} {p : Int → Int → jS → jH → Prop} {q : Int → Int → jS → jH → jS → jH → Prop} (body : ∀ (C : qCx) (G : jG), x4_6 C G → C.2.2.2.1.frames = 1 ∧ C.2.2.2.1.locals = 26 → C.2.2.2.1.cells = mc ∧ C.2.2.2.1.slots = ms → C.2.1 = l → C.2.2.2.2.2.2.2.2.1.name = "become" → ∀ (u0 u1 : Int) (S : jS) (V : jH), S.1 u0 = 23 → p u0 u1 S V → j_Rv n_KT 2 C G b_4_6 mc ms (q u0 u1 S V) → j_ok n_KT 2 C G 0 [(0, (2, u0)), (1, (2, u1))] [] S V 0 0) : M4_6 l mc ms p q := by
  refine j_method (ws' := n_GW) (by decide) rfl ?_ ?_
  · rintro a S V ⟨u0, u1, rfl, -⟩
    exact Nat.le_of_ble_eq_true rfl
  · rintro C G htl hl hrm hm hml ho hts hnm hE a S V ⟨u0, u1, rfl, ht, hp⟩ R
    exact body C G ⟨htl, hm, hml, ho, fun w hw => hts w (List.mem_cons_of_mem _ hw), hE⟩ (by rw [hrm]; exact ⟨rfl, rfl⟩) (by rw [hrm]; exact ⟨rfl, rfl⟩) hl hnm u0 u1 S V ht hp (fun pc lo S' V' nc ns d q hc hs => R.1 rfl pc lo S' V' nc ns d ⟨u0, u1, rfl, rfl, q⟩ hc hs)
theorem d4_6_0 : decode b_4_6 0 = .ok (.aload_n 1, 1) := by decide +kernel
theorem d4_6_1 : decode b_4_6 1 = .ok (.getfield 9, 3) := by decide +kernel
theorem d4_6_4 : decode b_4_6 4 = .ok (.iconst 0, 1) := by decide +kernel
theorem d4_6_5 : decode b_4_6 5 = .ok (.aload_n 0, 1) := by decide +kernel
theorem d4_6_6 : decode b_4_6 6 = .ok (.getfield 9, 3) := by decide +kernel
theorem d4_6_9 : decode b_4_6 9 = .ok (.iconst 0, 1) := by decide +kernel
theorem d4_6_10 : decode b_4_6 10 = .ok (.sipush 257, 3) := by decide +kernel
theorem d4_6_13 : decode b_4_6 13 = .ok (.invokestatic 28, 3) := by decide +kernel
theorem d4_6_16 : decode b_4_6 16 = .ok (.return_, 1) := by decide +kernel
theorem t4_6_0 {C : qCx} {G : jG} {S : jS} {V : jH} {nc ns : Nat} {l0 l1 : Int} {mc ms : Nat} {qf : jS → jH → Prop} (h : x4_6 C G) (L : j_L S) (hR : 1 ≤ C.2.2.2.1.frames ∧ 26 ≤ C.2.2.2.1.locals) (c1 : S.1 l1 = 23) (c2 : S.1 l0 = 23) (R : j_Rv n_KT 2 C G b_4_6 mc ms qf) (q : qf S (j_cpy V (l1 + 1) 0 (l0 + 1) 0 257)) (hc : nc ≤ mc) (hs : ns ≤ ms) : j_ok n_KT 2 C G 0 [(0, (2, l0)), (1, (2, l1))] [] S V nc ns := by
  have E := n_E h
  refine j_aload_n E d4_6_0 rfl 1 rfl ?_
  refine j_getS (f := 0) (x := l1 + 1) (fg2_9 h) d4_6_1 c1 (by decide) rfl rfl ((L2_0 L c1).trans (by omega)) ?_
  refine j_iconst E d4_6_4 (by decide) ?_
  refine j_aload_n E d4_6_5 rfl 0 rfl ?_
  refine j_getS (f := 0) (x := l0 + 1) (fg2_9 h) d4_6_6 c2 (by decide) rfl rfl ((L2_0 L c2).trans (by omega)) ?_
  refine j_iconst E d4_6_9 (by decide) ?_
  refine j_sipush E d4_6_10 (by decide) ?_
  refine j_cpA E (fc2_28 h ⟨hR.1, by have := hR.2; simp only [nativeFrameWords] at *; first | omega | (simp; omega)⟩) d4_6_13 (j_arr_of (show S.1 (l1 + 1) = 2 from (by have q := L2_0k L c1; rw [show l1 + 1 = l1 + 1 by omega]; exact q)) (by decide) rfl) (j_arr_of (show S.1 (l0 + 1) = 2 from (by have q := L2_0k L c2; rw [show l0 + 1 = l0 + 1 by omega]; exact q)) (by decide) rfl) (by decide) (by decide) (by decide) (by decide) (by decide) (Nat.le_of_ble_eq_true rfl) ?_
  exact R _ _ _ _ _ _ d4_6_16 q hc hs
/- BalanceCoder$Table.become(LBalanceCoder$Table;)V -/
abbrev b_10_3 : ByteArray := prog_10_method_3_code
def y_10_3 : MethodName := ⟨"BalanceCoder$Table", "become", "(LBalanceCoder$Table;)V"⟩
abbrev x10_3 (C : qCx) (G : jG) : Prop := n_ctx C b_10_3 3 "BalanceCoder$Table" G.1 G.2.1
def M10_3 (l : Launch) (mc ms : Nat) (p : Int → Int → jS → jH → Prop) (q : Int → Int → jS → jH → jS → jH → Prop) : Prop := j_Met l vwCl n_TL n_NW n_KT y_10_3 (Cond.code y_10_3 b_10_3 3 none :: n_GW) { frames := 2, cells := mc, slots := ms, locals := 47 } mc ms (fun a S V => ∃ u0 u1 : Int, a = [(2, u0), (2, u1)] ∧ S.1 u0 = 29 ∧ p u0 u1 S V) (fun a S V rs S' V' => ∃ u0 u1 : Int, a = [(2, u0), (2, u1)] ∧ rs = [] ∧ q u0 u1 S V S' V')
theorem e10_3 {l : Launch} {mc ms : Nat} {p : Int → Int → jS → jH → Prop} {q : Int → Int → jS → jH → jS → jH → Prop} (body : ∀ (C : qCx) (G : jG), x10_3 C G → C.2.2.2.1.frames = 2 ∧ C.2.2.2.1.locals = 47 → C.2.2.2.1.cells = mc ∧ C.2.2.2.1.slots = ms → C.2.1 = l → C.2.2.2.2.2.2.2.2.1.name = "become" → ∀ (u0 u1 : Int) (S : jS) (V : jH), S.1 u0 = 29 → p u0 u1 S V → j_Rv n_KT 3 C G b_10_3 mc ms (q u0 u1 S V) → j_ok n_KT 3 C G 0 [(0, (2, u0)), (1, (2, u1))] [] S V 0 0) : M10_3 l mc ms p q := by
  refine j_method (ws' := n_GW) (by decide) rfl ?_ ?_
  · rintro a S V ⟨u0, u1, rfl, -⟩
    exact Nat.le_of_ble_eq_true rfl
  · rintro C G htl hl hrm hm hml ho hts hnm hE a S V ⟨u0, u1, rfl, ht, hp⟩ R
    exact body C G ⟨htl, hm, hml, ho, fun w hw => hts w (List.mem_cons_of_mem _ hw), hE⟩ (by rw [hrm]; exact ⟨rfl, rfl⟩) (by rw [hrm]; exact ⟨rfl, rfl⟩) hl hnm u0 u1 S V ht hp (fun pc lo S' V' nc ns d q hc hs => R.1 rfl pc lo S' V' nc ns d ⟨u0, u1, rfl, rfl, q⟩ hc hs)
theorem d10_3_0 : decode b_10_3 0 = .ok (.aload_n 0, 1) := by decide +kernel
theorem d10_3_1 : decode b_10_3 1 = .ok (.aload_n 1, 1) := by decide +kernel
theorem d10_3_2 : decode b_10_3 2 = .ok (.getfield 17, 3) := by decide +kernel
theorem d10_3_5 : decode b_10_3 5 = .ok (.putfield 17, 3) := by decide +kernel
theorem d10_3_8 : decode b_10_3 8 = .ok (.aload_n 0, 1) := by decide +kernel
theorem d10_3_9 : decode b_10_3 9 = .ok (.aload_n 1, 1) := by decide +kernel
theorem d10_3_10 : decode b_10_3 10 = .ok (.getfield 21, 3) := by decide +kernel
theorem d10_3_13 : decode b_10_3 13 = .ok (.putfield 21, 3) := by decide +kernel
theorem d10_3_16 : decode b_10_3 16 = .ok (.iconst 0, 1) := by decide +kernel
theorem d10_3_17 : decode b_10_3 17 = .ok (.istore_n 2, 1) := by decide +kernel
theorem d10_3_18 : decode b_10_3 18 = .ok (.iload_n 2, 1) := by decide +kernel
theorem d10_3_19 : decode b_10_3 19 = .ok (.iconst 4, 1) := by decide +kernel
theorem d10_3_20 : decode b_10_3 20 = .ok (.if_icmp .ge 24, 3) := by decide +kernel
theorem d10_3_23 : decode b_10_3 23 = .ok (.aload_n 0, 1) := by decide +kernel
theorem d10_3_24 : decode b_10_3 24 = .ok (.getfield 11, 3) := by decide +kernel
theorem d10_3_27 : decode b_10_3 27 = .ok (.iload_n 2, 1) := by decide +kernel
theorem d10_3_28 : decode b_10_3 28 = .ok (.aaload, 1) := by decide +kernel
theorem d10_3_29 : decode b_10_3 29 = .ok (.aload_n 1, 1) := by decide +kernel
theorem d10_3_30 : decode b_10_3 30 = .ok (.getfield 11, 3) := by decide +kernel
theorem d10_3_33 : decode b_10_3 33 = .ok (.iload_n 2, 1) := by decide +kernel
theorem d10_3_34 : decode b_10_3 34 = .ok (.aaload, 1) := by decide +kernel
theorem d10_3_35 : decode b_10_3 35 = .ok (.invokevirtual 36, 3) := by decide +kernel
theorem d10_3_38 : decode b_10_3 38 = .ok (.iinc 2 1, 3) := by decide +kernel
theorem d10_3_41 : decode b_10_3 41 = .ok (.goto (-23), 3) := by decide +kernel
theorem d10_3_44 : decode b_10_3 44 = .ok (.return_, 1) := by decide +kernel
theorem K10_3_35 {C : qCx} {G : jG} {mc ms : Nat} {p : Int → Int → jS → jH → Prop} {q : Int → Int → jS → jH → jS → jH → Prop} (h : x10_3 C G) (hrm : C.2.2.2.1.frames = 2 ∧ C.2.2.2.1.locals = 47) (hM : M4_6 C.2.1 mc ms p q) : j_Call C b_10_3 n_KT G.1 G.2.1 3 (.invokevirtual 36) mc ms (fun a S V => ∃ u0 u1 : Int, a = [(2, u0), (2, u1)] ∧ S.1 u0 = 23 ∧ p u0 u1 S V) (fun a S V rs S' V' => ∃ u0 u1 : Int, a = [(2, u0), (2, u1)] ∧ rs = [] ∧ q u0 u1 S V S' V') := j_callV n_NWk h.2.2.2.2.2 h.1 hM ⟨h.2.1.1, h.2.1.2, h.2.2.1, h.2.2.2.1, h.2.2.2.2.1⟩ ⟨n_CB (y := y_4_6) (bytes := b_4_6) 1 h.2.2.2.2.1 n_w733 n_w730 n_w8 ⟨by decide, by decide, by decide +kernel⟩ rfl rfl ⟨by rw [hrm.1]; exact Nat.le_of_ble_eq_true rfl, by rw [hrm.2]; exact Nat.le_of_ble_eq_true rfl⟩, h.2.2.2.2.1 _ n_w731, h.2.2.2.2.1 _ n_w732⟩ (Cn := RX2) (fun a S V hP => by obtain ⟨u0, u1, rfl, e, -⟩ := hP; exact ⟨u0, _, 2, _, _, TX2, 1, rfl, rfl, by rw [e]; decide, by rw [e]; rfl, rfl⟩)
theorem t10_3_0 {C : qCx} {G : jG} {S : jS} {V : jH} {nc ns : Nat} {l0 l1 : Int} (h : x10_3 C G) (c1 : S.1 l1 = 29) (c2 : S.1 l0 = 29) (k : j_ok n_KT 3 C G 18 [(0, (2, l0)), (1, (2, l1)), (2, (0, 0))] [] S (j_up (j_up V l0 1 (V l1 1)) l0 2 ((j_up V l0 1 (V l1 1)) l1 2)) nc ns) : j_ok n_KT 3 C G 0 [(0, (2, l0)), (1, (2, l1))] [] S V nc ns := by
  have E := n_E h
  refine j_aload_n E d10_3_0 rfl 0 rfl ?_
  refine j_aload_n E d10_3_1 rfl 1 rfl ?_
  refine j_getI (f := 1) (fg8_17 h) d10_3_2 c1 (by decide) rfl rfl ?_
  refine j_putI (f := 1) (fp8_17 h) (n_hap h 29 8 0 _ rfl) d10_3_5 c2 (by decide) rfl rfl rfl ?_
  refine j_aload_n E d10_3_8 rfl 0 rfl ?_
  refine j_aload_n E d10_3_9 rfl 1 rfl ?_
  refine j_getI (f := 2) (fg8_21 h) d10_3_10 c1 (by decide) rfl rfl ?_
  refine j_putI (f := 2) (fp8_21 h) (n_hap h 29 8 0 _ rfl) d10_3_13 c2 (by decide) rfl rfl rfl ?_
  refine j_iconst E d10_3_16 (by decide) ?_
  refine j_istore_n E d10_3_17 rfl (by decide) (lo1 := [(0, (2, l0)), (1, (2, l1))]) rfl ?_
  exact j_pick [1, 2, 0] rfl k
theorem t10_3_18 {C : qCx} {G : jG} {S : jS} {V : jH} {nc ns : Nat} {l0 l1 l2 : Int} (h : x10_3 C G)  (k : 4 ≤ l2 → j_ok n_KT 3 C G 44 [] [] S V nc ns) (k' : l2 < 4 → j_ok n_KT 3 C G 23 [(0, (2, l0)), (1, (2, l1)), (2, (0, l2))] [] S V nc ns) : j_ok n_KT 3 C G 18 [(0, (2, l0)), (1, (2, l1)), (2, (0, l2))] [] S V nc ns := by
  have E := n_E h
  refine j_iload_n E d10_3_18 rfl 2 rfl ?_
  refine j_iconst E d10_3_19 (by decide) ?_
  exact j_icmp_ge E d10_3_20 (t := 44) rfl (fun q => j_pick [] rfl (k q)) (fun q => j_pick [0, 1, 2] rfl (k' q))
theorem t10_3_23 {C : qCx} {G : jG} {S : jS} {V : jH} {nc ns : Nat} {l0 l1 l2 : Int} {mc ms : Nat} {pp : Int → Int → jS → jH → Prop} {qq : Int → Int → jS → jH → jS → jH → Prop} (h : x10_3 C G) (L : j_L S) (hrm : C.2.2.2.1.frames = 2 ∧ C.2.2.2.1.locals = 47) (c1 : S.1 l0 = 29) (c2 : 0 ≤ l2) (c3 : l2 < 4) (c4 : S.1 l1 = 29) (hM : M4_6 C.2.1 mc ms pp qq) (hp : pp (l0 + 2 + 2 * l2) (l1 + 2 + 2 * l2) S V) (hc : nc + mc ≤ C.2.2.2.1.cells) (hs : ns + ms ≤ C.2.2.2.1.slots) (k : ∀ (S' : jS) (V' : jH), qq (l0 + 2 + 2 * l2) (l1 + 2 + 2 * l2) S V S' V' → j_ok n_KT 3 C G 38 [(0, (2, l0)), (1, (2, l1)), (2, (0, l2))] [] S' V' (nc + mc) (ns + ms)) : j_ok n_KT 3 C G 23 [(0, (2, l0)), (1, (2, l1)), (2, (0, l2))] [] S V nc ns := by
  have E := n_E h
  refine j_aload_n E d10_3_23 rfl 0 rfl ?_
  refine j_getS (f := 0) (x := l0 + 1) (fg8_11 h) d10_3_24 c1 (by decide) rfl rfl ((L8_0 L c1).trans (by omega)) ?_
  refine j_iload_n E d10_3_27 rfl 2 rfl ?_
  refine j_aaldS (x := l0 + 2 + 2 * l2) E d10_3_28 (show S.1 (l0 + 1) = 19 from (by have q := L8_0k L c1; rw [show l0 + 1 = l0 + 1 by omega]; exact q)) (by decide) rfl c2 c3 ((LDealA L (i := l2) (show S.1 (l0 + 1) = 19 from (by have q := L8_0k L c1; rw [show l0 + 1 = l0 + 1 by omega]; exact q)) c2 c3).trans (by omega)) ?_
  refine j_aload_n E d10_3_29 rfl 1 rfl ?_
  refine j_getS (f := 0) (x := l1 + 1) (fg8_11 h) d10_3_30 c4 (by decide) rfl rfl ((L8_0 L c4).trans (by omega)) ?_
  refine j_iload_n E d10_3_33 rfl 2 rfl ?_
  refine j_aaldS (x := l1 + 2 + 2 * l2) E d10_3_34 (show S.1 (l1 + 1) = 19 from (by have q := L8_0k L c4; rw [show l1 + 1 = l1 + 1 by omega]; exact q)) (by decide) rfl c2 c3 ((LDealA L (i := l2) (show S.1 (l1 + 1) = 19 from (by have q := L8_0k L c4; rw [show l1 + 1 = l1 + 1 by omega]; exact q)) c2 c3).trans (by omega)) ?_
  refine j_call E (K10_3_35 h hrm hM) d10_3_35 (a := [(2, l0 + 2 + 2 * l2), (2, l1 + 2 + 2 * l2)]) (sk := []) rfl ⟨l0 + 2 + 2 * l2, l1 + 2 + 2 * l2, rfl, (show S.1 (l0 + 2 + 2 * l2) = 23 from (by have q := LDealAk L (i := l2) (show S.1 (l0 + 1) = 19 from (by have q := L8_0k L c1; rw [show l0 + 1 = l0 + 1 by omega]; exact q)) c2 c3; rw [show l0 + 2 + 2 * l2 = (l0 + 1) + 1 + 2 * l2 by omega]; exact q)), hp⟩ (Nat.le_of_ble_eq_true rfl) hc hs ?_
  rintro rs S' V' ⟨z0, z1, e1, rfl, q⟩
  simp only [List.cons.injEq, Prod.mk.injEq, and_true, true_and] at e1
  obtain ⟨rfl, rfl⟩ := e1
  exact j_pick [0, 1, 2] rfl (k S' V' q)
theorem t10_3_38 {C : qCx} {G : jG} {S : jS} {V : jH} {nc ns : Nat} {l0 l1 l2 : Int} (h : x10_3 C G) (c1 : -2147483648 ≤ l2 + 1 ∧ l2 + 1 ≤ 2147483647) (k : j_ok n_KT 3 C G 18 [(0, (2, l0)), (1, (2, l1)), (2, (0, l2 + 1))] [] S V nc ns) : j_ok n_KT 3 C G 38 [(0, (2, l0)), (1, (2, l1)), (2, (0, l2))] [] S V nc ns := by
  have E := n_E h
  refine j_iinc E d10_3_38 (by decide) (by decide) 2 rfl (lo1 := [(0, (2, l0)), (1, (2, l1))]) rfl c1 ?_
  refine j_goto E d10_3_41 (t := 18) rfl ?_
  exact j_pick [1, 2, 0] rfl k
theorem t10_3_44 {C : qCx} {G : jG} {S : jS} {V : jH} {nc ns : Nat} {mc ms : Nat} {qf : jS → jH → Prop} (h : x10_3 C G)  (R : j_Rv n_KT 3 C G b_10_3 mc ms qf) (q : qf S V) (hc : nc ≤ mc) (hs : ns ≤ ms) : j_ok n_KT 3 C G 44 [] [] S V nc ns := by
  have E := n_E h
  exact R _ _ _ _ _ _ d10_3_44 q hc hs
/- BalanceCoder$Block.become(LBalanceCoder$Block;)V -/
abbrev b_3_2 : ByteArray := prog_3_method_2_code
def y_3_2 : MethodName := ⟨"BalanceCoder$Block", "become", "(LBalanceCoder$Block;)V"⟩
abbrev x3_2 (C : qCx) (G : jG) : Prop := n_ctx C b_3_2 2 "BalanceCoder$Block" G.1 G.2.1
def M3_2 (l : Launch) (mc ms : Nat) (p : Int → Int → jS → jH → Prop) (q : Int → Int → jS → jH → jS → jH → Prop) : Prop := j_Met l vwCl n_TL n_NW n_KT y_3_2 (Cond.code y_3_2 b_3_2 2 none :: n_GW) { frames := 2, cells := mc, slots := ms, locals := 47 } mc ms (fun a S V => ∃ u0 u1 : Int, a = [(2, u0), (2, u1)] ∧ S.1 u0 = 22 ∧ p u0 u1 S V) (fun a S V rs S' V' => ∃ u0 u1 : Int, a = [(2, u0), (2, u1)] ∧ rs = [] ∧ q u0 u1 S V S' V')
theorem e3_2 {l : Launch} {mc ms : Nat} {p : Int → Int → jS → jH → Prop} {q : Int → Int → jS → jH → jS → jH → Prop} (body : ∀ (C : qCx) (G : jG), x3_2 C G → C.2.2.2.1.frames = 2 ∧ C.2.2.2.1.locals = 47 → C.2.2.2.1.cells = mc ∧ C.2.2.2.1.slots = ms → C.2.1 = l → C.2.2.2.2.2.2.2.2.1.name = "become" → ∀ (u0 u1 : Int) (S : jS) (V : jH), S.1 u0 = 22 → p u0 u1 S V → j_Rv n_KT 2 C G b_3_2 mc ms (q u0 u1 S V) → j_ok n_KT 2 C G 0 [(0, (2, u0)), (1, (2, u1))] [] S V 0 0) : M3_2 l mc ms p q := by
  refine j_method (ws' := n_GW) (by decide) rfl ?_ ?_
  · rintro a S V ⟨u0, u1, rfl, -⟩
    exact Nat.le_of_ble_eq_true rfl
  · rintro C G htl hl hrm hm hml ho hts hnm hE a S V ⟨u0, u1, rfl, ht, hp⟩ R
    exact body C G ⟨htl, hm, hml, ho, fun w hw => hts w (List.mem_cons_of_mem _ hw), hE⟩ (by rw [hrm]; exact ⟨rfl, rfl⟩) (by rw [hrm]; exact ⟨rfl, rfl⟩) hl hnm u0 u1 S V ht hp (fun pc lo S' V' nc ns d q hc hs => R.1 rfl pc lo S' V' nc ns d ⟨u0, u1, rfl, rfl, q⟩ hc hs)
theorem d3_2_0 : decode b_3_2 0 = .ok (.aload_n 0, 1) := by decide +kernel
theorem d3_2_1 : decode b_3_2 1 = .ok (.aload_n 1, 1) := by decide +kernel
theorem d3_2_2 : decode b_3_2 2 = .ok (.getfield 15, 3) := by decide +kernel
theorem d3_2_5 : decode b_3_2 5 = .ok (.putfield 15, 3) := by decide +kernel
theorem d3_2_8 : decode b_3_2 8 = .ok (.aload_n 1, 1) := by decide +kernel
theorem d3_2_9 : decode b_3_2 9 = .ok (.getfield 9, 3) := by decide +kernel
theorem d3_2_12 : decode b_3_2 12 = .ok (.iconst 0, 1) := by decide +kernel
theorem d3_2_13 : decode b_3_2 13 = .ok (.aload_n 0, 1) := by decide +kernel
theorem d3_2_14 : decode b_3_2 14 = .ok (.getfield 9, 3) := by decide +kernel
theorem d3_2_17 : decode b_3_2 17 = .ok (.iconst 0, 1) := by decide +kernel
theorem d3_2_18 : decode b_3_2 18 = .ok (.aload_n 0, 1) := by decide +kernel
theorem d3_2_19 : decode b_3_2 19 = .ok (.getfield 15, 3) := by decide +kernel
theorem d3_2_22 : decode b_3_2 22 = .ok (.invokestatic 33, 3) := by decide +kernel
theorem d3_2_25 : decode b_3_2 25 = .ok (.aload_n 0, 1) := by decide +kernel
theorem d3_2_26 : decode b_3_2 26 = .ok (.aload_n 1, 1) := by decide +kernel
theorem d3_2_27 : decode b_3_2 27 = .ok (.getfield 19, 3) := by decide +kernel
theorem d3_2_30 : decode b_3_2 30 = .ok (.putfield 19, 3) := by decide +kernel
theorem d3_2_33 : decode b_3_2 33 = .ok (.aload_n 0, 1) := by decide +kernel
theorem d3_2_34 : decode b_3_2 34 = .ok (.getfield 26, 3) := by decide +kernel
theorem d3_2_37 : decode b_3_2 37 = .ok (.aload_n 1, 1) := by decide +kernel
theorem d3_2_38 : decode b_3_2 38 = .ok (.getfield 26, 3) := by decide +kernel
theorem d3_2_41 : decode b_3_2 41 = .ok (.invokevirtual 39, 3) := by decide +kernel
theorem d3_2_44 : decode b_3_2 44 = .ok (.aload_n 0, 1) := by decide +kernel
theorem d3_2_45 : decode b_3_2 45 = .ok (.aload_n 1, 1) := by decide +kernel
theorem d3_2_46 : decode b_3_2 46 = .ok (.getfield 30, 3) := by decide +kernel
theorem d3_2_49 : decode b_3_2 49 = .ok (.putfield 30, 3) := by decide +kernel
theorem d3_2_52 : decode b_3_2 52 = .ok (.return_, 1) := by decide +kernel
theorem K3_2_41 {C : qCx} {G : jG} {mc ms : Nat} {p : Int → Int → jS → jH → Prop} {q : Int → Int → jS → jH → jS → jH → Prop} (h : x3_2 C G) (hrm : C.2.2.2.1.frames = 2 ∧ C.2.2.2.1.locals = 47) (hM : M9_2 C.2.1 mc ms p q) : j_Call C b_3_2 n_KT G.1 G.2.1 2 (.invokevirtual 39) mc ms (fun a S V => ∃ u0 u1 : Int, a = [(2, u0), (2, u1)] ∧ S.1 u0 = 28 ∧ p u0 u1 S V) (fun a S V rs S' V' => ∃ u0 u1 : Int, a = [(2, u0), (2, u1)] ∧ rs = [] ∧ q u0 u1 S V S' V') := j_callV n_NWk h.2.2.2.2.2 h.1 hM ⟨h.2.1.1, h.2.1.2, h.2.2.1, h.2.2.2.1, h.2.2.2.2.1⟩ ⟨n_CB (y := y_9_2) (bytes := b_9_2) 1 h.2.2.2.2.1 n_w589 n_w586 n_w4 ⟨by decide, by decide, by decide +kernel⟩ rfl rfl ⟨by rw [hrm.1]; exact Nat.le_of_ble_eq_true rfl, by rw [hrm.2]; exact Nat.le_of_ble_eq_true rfl⟩, h.2.2.2.2.1 _ n_w587, h.2.2.2.2.1 _ n_w588⟩ (Cn := RX7) (fun a S V hP => by obtain ⟨u0, u1, rfl, e, -⟩ := hP; exact ⟨u0, _, 7, _, _, TX7, 6, rfl, rfl, by rw [e]; decide, by rw [e]; rfl, rfl⟩)
theorem t3_2_0 {C : qCx} {G : jG} {S : jS} {V : jH} {nc ns : Nat} {l0 l1 : Int} {mc ms : Nat} {pp : Int → Int → jS → jH → Prop} {qq : Int → Int → jS → jH → jS → jH → Prop} (h : x3_2 C G) (L : j_L S) (hrm : C.2.2.2.1.frames = 2 ∧ C.2.2.2.1.locals = 47) (hR : 1 ≤ C.2.2.2.1.frames ∧ 26 ≤ C.2.2.2.1.locals) (c1 : S.1 l1 = 22) (c2 : S.1 l0 = 22) (c3 : 0 ≤ V l1 1) (c4 : 0 + (V l1 1) ≤ 4400) (c5 : 0 ≤ (j_cpy (j_up V l0 1 (V l1 1)) (l1 + 1) 0 (l0 + 1) 0 (V l1 1)) l1 2 ∧ (j_cpy (j_up V l0 1 (V l1 1)) (l1 + 1) 0 (l0 + 1) 0 (V l1 1)) l1 2 ≤ 1) (hM : M9_2 C.2.1 mc ms pp qq) (hp : pp (l0 + 2) (l1 + 2) S (j_up (j_cpy (j_up V l0 1 (V l1 1)) (l1 + 1) 0 (l0 + 1) 0 (V l1 1)) l0 2 ((j_cpy (j_up V l0 1 (V l1 1)) (l1 + 1) 0 (l0 + 1) 0 (V l1 1)) l1 2))) (hc : nc + mc ≤ C.2.2.2.1.cells) (hs : ns + ms ≤ C.2.2.2.1.slots) (k : ∀ (S' : jS) (V' : jH), qq (l0 + 2) (l1 + 2) S (j_up (j_cpy (j_up V l0 1 (V l1 1)) (l1 + 1) 0 (l0 + 1) 0 (V l1 1)) l0 2 ((j_cpy (j_up V l0 1 (V l1 1)) (l1 + 1) 0 (l0 + 1) 0 (V l1 1)) l1 2)) S' V' → j_ok n_KT 2 C G 44 [(0, (2, l0)), (1, (2, l1))] [] S' V' (nc + mc) (ns + ms)) : j_ok n_KT 2 C G 0 [(0, (2, l0)), (1, (2, l1))] [] S V nc ns := by
  have E := n_E h
  refine j_aload_n E d3_2_0 rfl 0 rfl ?_
  refine j_aload_n E d3_2_1 rfl 1 rfl ?_
  refine j_getI (f := 1) (fg1_15 h) d3_2_2 c1 (by decide) rfl rfl ?_
  refine j_putI (f := 1) (fp1_15 h) (n_hap h 22 1 0 _ rfl) d3_2_5 c2 (by decide) rfl rfl rfl ?_
  refine j_aload_n E d3_2_8 rfl 1 rfl ?_
  refine j_getS (f := 0) (x := l1 + 1) (fg1_9 h) d3_2_9 c1 (by decide) rfl rfl ((L1_0 L c1).trans (by omega)) ?_
  refine j_iconst E d3_2_12 (by decide) ?_
  refine j_aload_n E d3_2_13 rfl 0 rfl ?_
  refine j_getS (f := 0) (x := l0 + 1) (fg1_9 h) d3_2_14 c2 (by decide) rfl rfl ((L1_0 L c2).trans (by omega)) ?_
  refine j_iconst E d3_2_17 (by decide) ?_
  refine j_aload_n E d3_2_18 rfl 0 rfl ?_
  refine j_getI (f := 1) (fg1_15 h) d3_2_19 c2 (by decide) rfl rfl ?_
  refine j_eqT (show (j_up V l0 1 (V l1 1)) l0 1 = V l1 1 from (j_up_at _ _ _ _)) ?_
  refine j_cpA E (fc1_33 h ⟨hR.1, by have := hR.2; simp only [nativeFrameWords] at *; first | omega | (simp; omega)⟩) d3_2_22 (j_arr_of (show S.1 (l1 + 1) = 6 from (by have q := L1_0k L c1; rw [show l1 + 1 = l1 + 1 by omega]; exact q)) (by decide) rfl) (j_arr_of (show S.1 (l0 + 1) = 6 from (by have q := L1_0k L c2; rw [show l0 + 1 = l0 + 1 by omega]; exact q)) (by decide) rfl) c3 (by decide) (by decide) c4 c4 (Nat.le_of_ble_eq_true rfl) ?_
  refine j_aload_n E d3_2_25 rfl 0 rfl ?_
  refine j_aload_n E d3_2_26 rfl 1 rfl ?_
  refine j_getI (f := 2) (fg1_19 h) d3_2_27 c1 (by decide) rfl rfl ?_
  refine j_putZ (f := 2) (fp1_19 h) (n_hap h 22 1 0 _ rfl) d3_2_30 c2 (by decide) rfl rfl rfl c5 ?_
  refine j_aload_n E d3_2_33 rfl 0 rfl ?_
  refine j_getS (f := 3) (x := l0 + 2) (fg1_26 h) d3_2_34 c2 (by decide) rfl rfl ((L1_3 L c2).trans (by omega)) ?_
  refine j_aload_n E d3_2_37 rfl 1 rfl ?_
  refine j_getS (f := 3) (x := l1 + 2) (fg1_26 h) d3_2_38 c1 (by decide) rfl rfl ((L1_3 L c1).trans (by omega)) ?_
  refine j_call E (K3_2_41 h hrm hM) d3_2_41 (a := [(2, l0 + 2), (2, l1 + 2)]) (sk := []) rfl ⟨l0 + 2, l1 + 2, rfl, (show S.1 (l0 + 2) = 28 from (by have q := L1_3k L c2; rw [show l0 + 2 = l0 + 2 by omega]; exact q)), hp⟩ (Nat.le_of_ble_eq_true rfl) hc hs ?_
  rintro rs S' V' ⟨z0, z1, e1, rfl, q⟩
  simp only [List.cons.injEq, Prod.mk.injEq, and_true, true_and] at e1
  obtain ⟨rfl, rfl⟩ := e1
  exact j_pick [0, 1] rfl (k S' V' q)
theorem t3_2_44 {C : qCx} {G : jG} {S : jS} {V : jH} {nc ns : Nat} {l0 l1 : Int} {mc ms : Nat} {qf : jS → jH → Prop} (h : x3_2 C G) (c1 : S.1 l1 = 22) (c2 : S.1 l0 = 22) (R : j_Rv n_KT 2 C G b_3_2 mc ms qf) (q : qf S (j_up V l0 4 (V l1 4))) (hc : nc ≤ mc) (hs : ns ≤ ms) : j_ok n_KT 2 C G 44 [(0, (2, l0)), (1, (2, l1))] [] S V nc ns := by
  have E := n_E h
  refine j_aload_n E d3_2_44 rfl 0 rfl ?_
  refine j_aload_n E d3_2_45 rfl 1 rfl ?_
  refine j_getI (f := 4) (fg1_30 h) d3_2_46 c1 (by decide) rfl rfl ?_
  refine j_putI (f := 4) (fp1_30 h) (n_hap h 22 1 0 _ rfl) d3_2_49 c2 (by decide) rfl rfl rfl ?_
  exact R _ _ _ _ _ _ d3_2_52 q hc hs
