/- BalanceCoder$Bench.packSigns(II)V -/
abbrev b_2_4 : ByteArray := prog_2_method_4_code
def y_2_4 : MethodName := ⟨"BalanceCoder$Bench", "packSigns", "(II)V"⟩
abbrev x2_4 (C : qCx) (G : jG) : Prop := n_ctx C b_2_4 5 "BalanceCoder$Bench" G.1 G.2.1
def M2_4 (l : Launch) (mc ms : Nat) (p : Int → Int → Int → jS → jH → Prop) (q : Int → Int → Int → jS → jH → jS → jH → Prop) : Prop := j_Met l vwCl n_TL n_NW n_KT y_2_4 (Cond.code y_2_4 b_2_4 5 none :: n_GW) { frames := 2, cells := mc, slots := ms, locals := 52 } mc ms (fun a S V => ∃ u0 u1 u2 : Int, a = [(2, u0), (0, u1), (0, u2)] ∧ S.1 u0 = 21 ∧ p u0 u1 u2 S V) (fun a S V rs S' V' => ∃ u0 u1 u2 : Int, a = [(2, u0), (0, u1), (0, u2)] ∧ rs = [] ∧ q u0 u1 u2 S V S' V')
theorem e2_4 {l : Launch} {mc ms : Nat} {p : Int → Int → Int → jS → jH → Prop} {q : Int → Int → Int → jS → jH → jS → jH → Prop} (body : ∀ (C : qCx) (G : jG), x2_4 C G → C.2.2.2.1.frames = 2 ∧ C.2.2.2.1.locals = 52 → C.2.2.2.1.cells = mc ∧ C.2.2.2.1.slots = ms → C.2.1 = l → C.2.2.2.2.2.2.2.2.1.name = "packSigns" → ∀ (u0 u1 u2 : Int) (S : jS) (V : jH), S.1 u0 = 21 → p u0 u1 u2 S V → j_Rv n_KT 5 C G b_2_4 mc ms (q u0 u1 u2 S V) → j_ok n_KT 5 C G 0 [(0, (2, u0)), (1, (0, u1)), (2, (0, u2))] [] S V 0 0) : M2_4 l mc ms p q := by
  refine j_method (ws' := n_GW) (by decide) rfl ?_ ?_
  · rintro a S V ⟨u0, u1, u2, rfl, -⟩
    exact Nat.le_of_ble_eq_true rfl
  · rintro C G htl hl hrm hm hml ho hts hnm hE a S V ⟨u0, u1, u2, rfl, ht, hp⟩ R
    exact body C G ⟨htl, hm, hml, ho, fun w hw => hts w (List.mem_cons_of_mem _ hw), hE⟩ (by rw [hrm]; exact ⟨rfl, rfl⟩) (by rw [hrm]; exact ⟨rfl, rfl⟩) hl hnm u0 u1 u2 S V ht hp (fun pc lo S' V' nc ns d q hc hs => R.1 rfl pc lo S' V' nc ns d ⟨u0, u1, u2, rfl, rfl, q⟩ hc hs)
theorem d2_4_0 : decode b_2_4 0 = .ok (.aload_n 0, 1) := by decide +kernel
theorem d2_4_1 : decode b_2_4 1 = .ok (.getfield 32, 3) := by decide +kernel
theorem d2_4_4 : decode b_2_4 4 = .ok (.iload_n 1, 1) := by decide +kernel
theorem d2_4_5 : decode b_2_4 5 = .ok (.invokestatic 82, 3) := by decide +kernel
theorem d2_4_8 : decode b_2_4 8 = .ok (.aload_n 0, 1) := by decide +kernel
theorem d2_4_9 : decode b_2_4 9 = .ok (.iconst 0, 1) := by decide +kernel
theorem d2_4_10 : decode b_2_4 10 = .ok (.putfield 39, 3) := by decide +kernel
theorem d2_4_13 : decode b_2_4 13 = .ok (.iload_n 2, 1) := by decide +kernel
theorem d2_4_14 : decode b_2_4 14 = .ok (.iconst 1, 1) := by decide +kernel
theorem d2_4_15 : decode b_2_4 15 = .ok (.if_icmp .lt 8, 3) := by decide +kernel
theorem d2_4_18 : decode b_2_4 18 = .ok (.iload_n 2, 1) := by decide +kernel
theorem d2_4_19 : decode b_2_4 19 = .ok (.iconst 4, 1) := by decide +kernel
theorem d2_4_20 : decode b_2_4 20 = .ok (.if_icmp .le 4, 3) := by decide +kernel
theorem d2_4_23 : decode b_2_4 23 = .ok (.return_, 1) := by decide +kernel
theorem d2_4_24 : decode b_2_4 24 = .ok (.aload_n 0, 1) := by decide +kernel
theorem d2_4_25 : decode b_2_4 25 = .ok (.getfield 28, 3) := by decide +kernel
theorem d2_4_28 : decode b_2_4 28 = .ok (.getfield 52, 3) := by decide +kernel
theorem d2_4_31 : decode b_2_4 31 = .ok (.iconst 1, 1) := by decide +kernel
theorem d2_4_32 : decode b_2_4 32 = .ok (.isub, 1) := by decide +kernel
theorem d2_4_33 : decode b_2_4 33 = .ok (.istore_n 3, 1) := by decide +kernel
theorem d2_4_34 : decode b_2_4 34 = .ok (.iload_n 3, 1) := by decide +kernel
theorem d2_4_35 : decode b_2_4 35 = .ok (.ifCond .lt 63, 3) := by decide +kernel
theorem d2_4_38 : decode b_2_4 38 = .ok (.iload_n 3, 1) := by decide +kernel
theorem d2_4_39 : decode b_2_4 39 = .ok (.iload_n 2, 1) := by decide +kernel
theorem d2_4_40 : decode b_2_4 40 = .ok (.irem, 1) := by decide +kernel
theorem d2_4_41 : decode b_2_4 41 = .ok (.istore 4, 2) := by decide +kernel
theorem d2_4_43 : decode b_2_4 43 = .ok (.aload_n 0, 1) := by decide +kernel
theorem d2_4_44 : decode b_2_4 44 = .ok (.getfield 28, 3) := by decide +kernel
theorem d2_4_47 : decode b_2_4 47 = .ok (.getfield 88, 3) := by decide +kernel
theorem d2_4_50 : decode b_2_4 50 = .ok (.iload_n 3, 1) := by decide +kernel
theorem d2_4_51 : decode b_2_4 51 = .ok (.aload_n 0, 1) := by decide +kernel
theorem d2_4_52 : decode b_2_4 52 = .ok (.getfield 32, 3) := by decide +kernel
theorem d2_4_55 : decode b_2_4 55 = .ok (.iload 4, 2) := by decide +kernel
theorem d2_4_57 : decode b_2_4 57 = .ok (.iaload, 1) := by decide +kernel
theorem d2_4_58 : decode b_2_4 58 = .ok (.iastore, 1) := by decide +kernel
theorem d2_4_59 : decode b_2_4 59 = .ok (.aload_n 0, 1) := by decide +kernel
theorem d2_4_60 : decode b_2_4 60 = .ok (.getfield 28, 3) := by decide +kernel
theorem d2_4_63 : decode b_2_4 63 = .ok (.getfield 89, 3) := by decide +kernel
theorem d2_4_66 : decode b_2_4 66 = .ok (.iload_n 3, 1) := by decide +kernel
theorem d2_4_67 : decode b_2_4 67 = .ok (.aload_n 0, 1) := by decide +kernel
theorem d2_4_68 : decode b_2_4 68 = .ok (.getfield 39, 3) := by decide +kernel
theorem d2_4_71 : decode b_2_4 71 = .ok (.iastore, 1) := by decide +kernel
theorem d2_4_72 : decode b_2_4 72 = .ok (.aload_n 0, 1) := by decide +kernel
theorem d2_4_73 : decode b_2_4 73 = .ok (.getfield 32, 3) := by decide +kernel
theorem d2_4_76 : decode b_2_4 76 = .ok (.iload 4, 2) := by decide +kernel
theorem d2_4_78 : decode b_2_4 78 = .ok (.aload_n 0, 1) := by decide +kernel
theorem d2_4_79 : decode b_2_4 79 = .ok (.iload_n 3, 1) := by decide +kernel
theorem d2_4_80 : decode b_2_4 80 = .ok (.aload_n 0, 1) := by decide +kernel
theorem d2_4_81 : decode b_2_4 81 = .ok (.getfield 32, 3) := by decide +kernel
theorem d2_4_84 : decode b_2_4 84 = .ok (.iload 4, 2) := by decide +kernel
theorem d2_4_86 : decode b_2_4 86 = .ok (.iaload, 1) := by decide +kernel
theorem d2_4_87 : decode b_2_4 87 = .ok (.iload_n 1, 1) := by decide +kernel
theorem d2_4_88 : decode b_2_4 88 = .ok (.invokevirtual 92, 3) := by decide +kernel
theorem d2_4_91 : decode b_2_4 91 = .ok (.iastore, 1) := by decide +kernel
theorem d2_4_92 : decode b_2_4 92 = .ok (.iinc 3 (-1), 3) := by decide +kernel
theorem d2_4_95 : decode b_2_4 95 = .ok (.goto (-61), 3) := by decide +kernel
theorem d2_4_98 : decode b_2_4 98 = .ok (.return_, 1) := by decide +kernel
theorem K2_4_5 {C : qCx} {G : jG} {mc ms : Nat} {p : Int → Int → jS → jH → Prop} {q : Int → Int → jS → jH → jS → jH → Prop} (h : x2_4 C G) (hrm : C.2.2.2.1.frames = 2 ∧ C.2.2.2.1.locals = 52) (hM : M17_103 C.2.1 mc ms p q) : j_Call C b_2_4 n_KT G.1 G.2.1 5 (.invokestatic 82) mc ms (fun a S V => ∃ u0 u1 : Int, a = [(2, u0), (0, u1)] ∧ p u0 u1 S V) (fun a S V rs S' V' => ∃ u0 u1 : Int, a = [(2, u0), (0, u1)] ∧ rs = [] ∧ q u0 u1 S V S' V') := j_callS n_NWk h.2.2.2.2.2 h.1 hM ⟨h.2.1.1, h.2.1.2, h.2.2.1, h.2.2.2.1, h.2.2.2.2.1⟩ ⟨n_CB (y := y_17_103) (bytes := b_17_103) 2 h.2.2.2.2.1 n_w359 n_w540 n_w14 ⟨by decide, by decide, by decide +kernel⟩ rfl rfl ⟨by rw [hrm.1]; exact Nat.le_of_ble_eq_true rfl, by rw [hrm.2]; exact Nat.le_of_ble_eq_true rfl⟩, h.2.2.2.2.1 _ n_w358⟩ (fun a S V hP => by obtain ⟨u0, u1, rfl, -⟩ := hP; rfl)
theorem K2_4_88 {C : qCx} {G : jG} {mc ms : Nat} {p : Int → Int → Int → Int → jS → jH → Prop} {q : Int → Int → Int → Int → jS → jH → Int → jS → jH → Prop} (h : x2_4 C G) (hrm : C.2.2.2.1.frames = 2 ∧ C.2.2.2.1.locals = 52) (hM : M2_5 C.2.1 mc ms p q) : j_Call C b_2_4 n_KT G.1 G.2.1 5 (.invokevirtual 92) mc ms (fun a S V => ∃ u0 u1 u2 u3 : Int, a = [(2, u0), (0, u1), (0, u2), (0, u3)] ∧ S.1 u0 = 21 ∧ p u0 u1 u2 u3 S V) (fun a S V rs S' V' => ∃ u0 u1 u2 u3 r : Int, a = [(2, u0), (0, u1), (0, u2), (0, u3)] ∧ rs = [(0, r)] ∧ q u0 u1 u2 u3 S V r S' V') := j_callV n_NWk h.2.2.2.2.2 h.1 hM ⟨h.2.1.1, h.2.1.2, h.2.2.1, h.2.2.2.1, h.2.2.2.2.1⟩ ⟨n_CB (y := y_2_5) (bytes := b_2_5) 3 h.2.2.2.2.1 n_w544 n_w541 n_w6 ⟨by decide, by decide, by decide +kernel⟩ rfl rfl ⟨by rw [hrm.1]; exact Nat.le_of_ble_eq_true rfl, by rw [hrm.2]; exact Nat.le_of_ble_eq_true rfl⟩, h.2.2.2.2.1 _ n_w543, h.2.2.2.2.1 _ n_s15⟩ (Cn := RX0) (fun a S V hP => by obtain ⟨u0, u1, u2, u3, rfl, e, -⟩ := hP; exact ⟨u0, _, 0, _, _, TX0, 6, rfl, rfl, by rw [e]; decide, by rw [e]; rfl, rfl⟩)
theorem t2_4_0 {C : qCx} {G : jG} {S : jS} {V : jH} {nc ns : Nat} {l0 l1 l2 : Int} {mc ms : Nat} {pp : Int → Int → jS → jH → Prop} {qq : Int → Int → jS → jH → jS → jH → Prop} (h : x2_4 C G) (L : j_L S) (hrm : C.2.2.2.1.frames = 2 ∧ C.2.2.2.1.locals = 52) (c1 : S.1 l0 = 21) (hM : M17_103 C.2.1 mc ms pp qq) (hp : pp (l0 + 20) l1 S V) (hc : nc + mc ≤ C.2.2.2.1.cells) (hs : ns + ms ≤ C.2.2.2.1.slots) (k : ∀ (S' : jS) (V' : jH), qq (l0 + 20) l1 S V S' V' → j_ok n_KT 5 C G 8 [(0, (2, l0)), (1, (0, l1)), (2, (0, l2))] [] S' V' (nc + mc) (ns + ms)) : j_ok n_KT 5 C G 0 [(0, (2, l0)), (1, (0, l1)), (2, (0, l2))] [] S V nc ns := by
  have E := n_E h
  refine j_aload_n E d2_4_0 rfl 0 rfl ?_
  refine j_getS (f := 3) (x := l0 + 20) (fg0_32 h) d2_4_1 c1 (by decide) rfl rfl ((L0_3 L c1).trans (by omega)) ?_
  refine j_iload_n E d2_4_4 rfl 1 rfl ?_
  refine j_call E (K2_4_5 h hrm hM) d2_4_5 (a := [(2, l0 + 20), (0, l1)]) (sk := []) rfl ⟨l0 + 20, l1, rfl, hp⟩ (Nat.le_of_ble_eq_true rfl) hc hs ?_
  rintro rs S' V' ⟨z0, z1, e1, rfl, q⟩
  simp only [List.cons.injEq, Prod.mk.injEq, and_true, true_and] at e1
  obtain ⟨rfl, rfl⟩ := e1
  exact j_pick [0, 1, 2] rfl (k S' V' q)
theorem t2_4_8 {C : qCx} {G : jG} {S : jS} {V : jH} {nc ns : Nat} {l0 l1 l2 : Int} (h : x2_4 C G) (c1 : S.1 l0 = 21) (k : l2 < 1 → j_ok n_KT 5 C G 23 [] [] S (j_up V l0 5 0) nc ns) (k' : 1 ≤ l2 → j_ok n_KT 5 C G 18 [(0, (2, l0)), (1, (0, l1)), (2, (0, l2))] [] S (j_up V l0 5 0) nc ns) : j_ok n_KT 5 C G 8 [(0, (2, l0)), (1, (0, l1)), (2, (0, l2))] [] S V nc ns := by
  have E := n_E h
  refine j_aload_n E d2_4_8 rfl 0 rfl ?_
  refine j_iconst E d2_4_9 (by decide) ?_
  refine j_putI (f := 5) (fp0_39 h) (n_hap h 21 0 0 _ rfl) d2_4_10 c1 (by decide) rfl rfl rfl ?_
  refine j_iload_n E d2_4_13 rfl 2 rfl ?_
  refine j_iconst E d2_4_14 (by decide) ?_
  exact j_icmp_lt E d2_4_15 (t := 23) rfl (fun q => j_pick [] rfl (k q)) (fun q => j_pick [0, 1, 2] rfl (k' q))
theorem t2_4_18 {C : qCx} {G : jG} {S : jS} {V : jH} {nc ns : Nat} {l0 l1 l2 : Int} (h : x2_4 C G)  (k : l2 ≤ 4 → j_ok n_KT 5 C G 24 [(0, (2, l0)), (1, (0, l1)), (2, (0, l2))] [] S V nc ns) (k' : 4 < l2 → j_ok n_KT 5 C G 23 [] [] S V nc ns) : j_ok n_KT 5 C G 18 [(0, (2, l0)), (1, (0, l1)), (2, (0, l2))] [] S V nc ns := by
  have E := n_E h
  refine j_iload_n E d2_4_18 rfl 2 rfl ?_
  refine j_iconst E d2_4_19 (by decide) ?_
  exact j_icmp_le E d2_4_20 (t := 24) rfl (fun q => j_pick [0, 1, 2] rfl (k q)) (fun q => j_pick [] rfl (k' q))
theorem t2_4_23 {C : qCx} {G : jG} {S : jS} {V : jH} {nc ns : Nat} {mc ms : Nat} {qf : jS → jH → Prop} (h : x2_4 C G)  (R : j_Rv n_KT 5 C G b_2_4 mc ms qf) (q : qf S V) (hc : nc ≤ mc) (hs : ns ≤ ms) : j_ok n_KT 5 C G 23 [] [] S V nc ns := by
  have E := n_E h
  exact R _ _ _ _ _ _ d2_4_23 q hc hs
theorem t2_4_24 {C : qCx} {G : jG} {S : jS} {V : jH} {nc ns : Nat} {l0 l1 l2 : Int} (h : x2_4 C G) (L : j_L S) (c1 : S.1 l0 = 21) (c2 : -2147483648 ≤ (V (l0 + 14) 5) - 1 ∧ (V (l0 + 14) 5) - 1 ≤ 2147483647) (k : j_ok n_KT 5 C G 34 [(0, (2, l0)), (1, (0, l1)), (2, (0, l2)), (3, (0, (V (l0 + 14) 5) - 1))] [] S V nc ns) : j_ok n_KT 5 C G 24 [(0, (2, l0)), (1, (0, l1)), (2, (0, l2))] [] S V nc ns := by
  have E := n_E h
  refine j_aload_n E d2_4_24 rfl 0 rfl ?_
  refine j_getS (f := 2) (x := l0 + 14) (fg0_28 h) d2_4_25 c1 (by decide) rfl rfl ((L0_2 L c1).trans (by omega)) ?_
  refine j_getI (f := 5) (fg0_52 h) d2_4_28 (show S.1 (l0 + 14) = 28 from (by have q := L0_2k L c1; rw [show l0 + 14 = l0 + 14 by omega]; exact q)) (by decide) rfl rfl ?_
  refine j_iconst E d2_4_31 (by decide) ?_
  refine j_isub E d2_4_32 c2 ?_
  refine j_istore_n E d2_4_33 rfl (by decide) (lo1 := [(0, (2, l0)), (1, (0, l1)), (2, (0, l2))]) rfl ?_
  exact j_pick [1, 2, 3, 0] rfl k
theorem t2_4_34 {C : qCx} {G : jG} {S : jS} {V : jH} {nc ns : Nat} {l0 l1 l2 l3 : Int} (h : x2_4 C G)  (k : l3 < 0 → j_ok n_KT 5 C G 98 [] [] S V nc ns) (k' : 0 ≤ l3 → j_ok n_KT 5 C G 38 [(0, (2, l0)), (1, (0, l1)), (2, (0, l2)), (3, (0, l3))] [] S V nc ns) : j_ok n_KT 5 C G 34 [(0, (2, l0)), (1, (0, l1)), (2, (0, l2)), (3, (0, l3))] [] S V nc ns := by
  have E := n_E h
  refine j_iload_n E d2_4_34 rfl 3 rfl ?_
  exact j_if_lt E d2_4_35 (t := 98) rfl (fun q => j_pick [] rfl (k q)) (fun q => j_pick [0, 1, 2, 3] rfl (k' q))
theorem t2_4_38 {C : qCx} {G : jG} {S : jS} {V : jH} {nc ns : Nat} {l0 l1 l2 l3 : Int} {mc ms : Nat} {pp : Int → Int → Int → Int → jS → jH → Prop} {qq : Int → Int → Int → Int → jS → jH → Int → jS → jH → Prop} (h : x2_4 C G) (L : j_L S) (hrm : C.2.2.2.1.frames = 2 ∧ C.2.2.2.1.locals = 52) (c1 : 0 ≤ l3) (c2 : 1 ≤ l2) (c3 : S.1 l0 = 21) (c4 : 0 ≤ l3 % l2) (c5 : l3 % l2 < 4) (c6 : l3 < 400) (hM : M2_5 C.2.1 mc ms pp qq) (hp : pp l0 l3 (V (l0 + 20) (l3 % l2)) l1 S (j_up (j_up V (l0 + 16) l3 (V (l0 + 20) (l3 % l2))) (l0 + 17) l3 (V l0 5))) (hc : nc + mc ≤ C.2.2.2.1.cells) (hs : ns + ms ≤ C.2.2.2.1.slots) (k : ∀ (r : Int) (S' : jS) (V' : jH), qq l0 l3 (V (l0 + 20) (l3 % l2)) l1 S (j_up (j_up V (l0 + 16) l3 (V (l0 + 20) (l3 % l2))) (l0 + 17) l3 (V l0 5)) r S' V' → j_ok n_KT 5 C G 91 [(0, (2, l0)), (1, (0, l1)), (2, (0, l2)), (3, (0, l3))] [(0, r), (0, l3 % l2), (2, l0 + 20)] S' V' (nc + mc) (ns + ms)) : j_ok n_KT 5 C G 38 [(0, (2, l0)), (1, (0, l1)), (2, (0, l2)), (3, (0, l3))] [] S V nc ns := by
  have E := n_E h
  refine j_iload_n E d2_4_38 rfl 3 rfl ?_
  refine j_iload_n E d2_4_39 rfl 2 rfl ?_
  refine j_irem E d2_4_40 c1 c2 ?_
  refine j_istore E d2_4_41 (by decide) (lo1 := [(0, (2, l0)), (1, (0, l1)), (2, (0, l2)), (3, (0, l3))]) rfl ?_
  refine j_aload_n E d2_4_43 rfl 1 rfl ?_
  refine j_getS (f := 2) (x := l0 + 14) (fg0_28 h) d2_4_44 c3 (by decide) rfl rfl ((L0_2 L c3).trans (by omega)) ?_
  refine j_getS (f := 1) (x := l0 + 16) (fg0_88 h) d2_4_47 (show S.1 (l0 + 14) = 28 from (by have q := L0_2k L c3; rw [show l0 + 14 = l0 + 14 by omega]; exact q)) (by decide) rfl rfl ((L7_1 L (show S.1 (l0 + 14) = 28 from (by have q := L0_2k L c3; rw [show l0 + 14 = l0 + 14 by omega]; exact q))).trans (by omega)) ?_
  refine j_iload_n E d2_4_50 rfl 4 rfl ?_
  refine j_aload_n E d2_4_51 rfl 1 rfl ?_
  refine j_getS (f := 3) (x := l0 + 20) (fg0_32 h) d2_4_52 c3 (by decide) rfl rfl ((L0_3 L c3).trans (by omega)) ?_
  refine j_iload E d2_4_55 0 rfl ?_
  refine j_iald E d2_4_57 (j_arr_of (show S.1 (l0 + 20) = 4 from (by have q := L0_3k L c3; rw [show l0 + 20 = l0 + 20 by omega]; exact q)) (by decide) rfl) c4 c5 ?_
  refine j_iast E d2_4_58 (j_arr_of (show S.1 (l0 + 16) = 1 from (by have q := L7_1k L (show S.1 (l0 + 14) = 28 from (by have q := L0_2k L c3; rw [show l0 + 14 = l0 + 14 by omega]; exact q)); rw [show l0 + 16 = (l0 + 14) + 2 by omega]; exact q)) (by decide) rfl) c1 c6 ?_
  refine j_aload_n E d2_4_59 rfl 1 rfl ?_
  refine j_getS (f := 2) (x := l0 + 14) (fg0_28 h) d2_4_60 c3 (by decide) rfl rfl ((L0_2 L c3).trans (by omega)) ?_
  refine j_getS (f := 2) (x := l0 + 17) (fg0_89 h) d2_4_63 (show S.1 (l0 + 14) = 28 from (by have q := L0_2k L c3; rw [show l0 + 14 = l0 + 14 by omega]; exact q)) (by decide) rfl rfl ((L7_2 L (show S.1 (l0 + 14) = 28 from (by have q := L0_2k L c3; rw [show l0 + 14 = l0 + 14 by omega]; exact q))).trans (by omega)) ?_
  refine j_iload_n E d2_4_66 rfl 4 rfl ?_
  refine j_aload_n E d2_4_67 rfl 1 rfl ?_
  refine j_getI (f := 5) (fg0_39 h) d2_4_68 c3 (by decide) rfl rfl ?_
  refine j_eqT (show (j_up V (l0 + 16) l3 (V (l0 + 20) (l3 % l2))) l0 5 = V l0 5 from (congrFun (j_up_ne (by omega)) _)) ?_
  refine j_iast E d2_4_71 (j_arr_of (show S.1 (l0 + 17) = 1 from (by have q := L7_2k L (show S.1 (l0 + 14) = 28 from (by have q := L0_2k L c3; rw [show l0 + 14 = l0 + 14 by omega]; exact q)); rw [show l0 + 17 = (l0 + 14) + 3 by omega]; exact q)) (by decide) rfl) c1 c6 ?_
  refine j_aload_n E d2_4_72 rfl 1 rfl ?_
  refine j_getS (f := 3) (x := l0 + 20) (fg0_32 h) d2_4_73 c3 (by decide) rfl rfl ((L0_3 L c3).trans (by omega)) ?_
  refine j_iload E d2_4_76 0 rfl ?_
  refine j_aload_n E d2_4_78 rfl 1 rfl ?_
  refine j_iload_n E d2_4_79 rfl 4 rfl ?_
  refine j_aload_n E d2_4_80 rfl 1 rfl ?_
  refine j_getS (f := 3) (x := l0 + 20) (fg0_32 h) d2_4_81 c3 (by decide) rfl rfl ((L0_3 L c3).trans (by omega)) ?_
  refine j_iload E d2_4_84 0 rfl ?_
  refine j_iald E d2_4_86 (j_arr_of (show S.1 (l0 + 20) = 4 from (by have q := L0_3k L c3; rw [show l0 + 20 = l0 + 20 by omega]; exact q)) (by decide) rfl) c4 c5 ?_
  refine j_eqT (show (j_up (j_up V (l0 + 16) l3 (V (l0 + 20) (l3 % l2))) (l0 + 17) l3 (V l0 5)) (l0 + 20) (l3 % l2) = V (l0 + 20) (l3 % l2) from (Eq.trans (congrFun (j_up_ne (by omega)) _) (congrFun (j_up_ne (by omega)) _))) ?_
  refine j_iload_n E d2_4_87 rfl 2 rfl ?_
  refine j_call E (K2_4_88 h hrm hM) d2_4_88 (a := [(2, l0), (0, l3), (0, V (l0 + 20) (l3 % l2)), (0, l1)]) (sk := [(0, l3 % l2), (2, l0 + 20)]) rfl ⟨l0, l3, V (l0 + 20) (l3 % l2), l1, rfl, c3, hp⟩ (Nat.le_of_ble_eq_true rfl) hc hs ?_
  rintro rs S' V' ⟨z0, z1, z2, z3, r, e1, rfl, q⟩
  simp only [List.cons.injEq, Prod.mk.injEq, and_true, true_and] at e1
  obtain ⟨rfl, rfl, rfl, rfl⟩ := e1
  exact j_pick [1, 2, 3, 4] rfl (k r S' V' q)
theorem t2_4_91 {C : qCx} {G : jG} {S : jS} {V : jH} {nc ns : Nat} {l0 l1 l2 l3 s0 s1 s2 : Int} {n_s2 : Nat} (h : x2_4 C G) (c1 : j_arr S s2 n_s2) (c2 : 0 ≤ s1) (c3 : s1 < (n_s2 : Int)) (c4 : -2147483648 ≤ l3 + (-1) ∧ l3 + (-1) ≤ 2147483647) (k : j_ok n_KT 5 C G 34 [(0, (2, l0)), (1, (0, l1)), (2, (0, l2)), (3, (0, l3 + (-1)))] [] S (j_up V s2 s1 s0) nc ns) : j_ok n_KT 5 C G 91 [(0, (2, l0)), (1, (0, l1)), (2, (0, l2)), (3, (0, l3))] [(0, s0), (0, s1), (2, s2)] S V nc ns := by
  have E := n_E h
  refine j_iast E d2_4_91 c1 c2 c3 ?_
  refine j_iinc E d2_4_92 (by decide) (by decide) 3 rfl (lo1 := [(0, (2, l0)), (1, (0, l1)), (2, (0, l2))]) rfl c4 ?_
  refine j_goto E d2_4_95 (t := 34) rfl ?_
  exact j_pick [1, 2, 3, 0] rfl k
theorem t2_4_98 {C : qCx} {G : jG} {S : jS} {V : jH} {nc ns : Nat} {mc ms : Nat} {qf : jS → jH → Prop} (h : x2_4 C G)  (R : j_Rv n_KT 5 C G b_2_4 mc ms qf) (q : qf S V) (hc : nc ≤ mc) (hs : ns ≤ ms) : j_ok n_KT 5 C G 98 [] [] S V nc ns := by
  have E := n_E h
  exact R _ _ _ _ _ _ d2_4_98 q hc hs
/- BalanceCoder$Table.isTold()Z -/
abbrev b_10_10 : ByteArray := prog_10_method_10_code
def y_10_10 : MethodName := ⟨"BalanceCoder$Table", "isTold", "()Z"⟩
abbrev x10_10 (C : qCx) (G : jG) : Prop := n_ctx C b_10_10 1 "BalanceCoder$Table" G.1 G.2.1
def M10_10 (l : Launch) (mc ms : Nat) (p : Int → jS → jH → Prop) (q : Int → jS → jH → Int → jS → jH → Prop) : Prop := j_Met l vwCl n_TL n_NW n_KT y_10_10 (Cond.code y_10_10 b_10_10 1 (some .boolean) :: n_GW) { frames := 2, cells := mc, slots := ms, locals := 46 } mc ms (fun a S V => ∃ u0 : Int, a = [(2, u0)] ∧ S.1 u0 = 29 ∧ p u0 S V) (fun a S V rs S' V' => ∃ u0 r : Int, a = [(2, u0)] ∧ rs = [(0, r)] ∧ q u0 S V r S' V')
theorem e10_10 {l : Launch} {mc ms : Nat} {p : Int → jS → jH → Prop} {q : Int → jS → jH → Int → jS → jH → Prop} (body : ∀ (C : qCx) (G : jG), x10_10 C G → C.2.2.2.1.frames = 2 ∧ C.2.2.2.1.locals = 46 → C.2.2.2.1.cells = mc ∧ C.2.2.2.1.slots = ms → C.2.1 = l → C.2.2.2.2.2.2.2.2.1.name = "isTold" → ∀ (u0 : Int) (S : jS) (V : jH), S.1 u0 = 29 → p u0 S V → j_Rz n_KT 1 C G b_10_10 mc ms (q u0 S V) → j_ok n_KT 1 C G 0 [(0, (2, u0))] [] S V 0 0) : M10_10 l mc ms p q := by
  refine j_method (ws' := n_GW) (by decide) rfl ?_ ?_
  · rintro a S V ⟨u0, rfl, -⟩
    exact Nat.le_of_ble_eq_true rfl
  · rintro C G htl hl hrm hm hml ho hts hnm hE a S V ⟨u0, rfl, ht, hp⟩ R
    exact body C G ⟨htl, hm, hml, ho, fun w hw => hts w (List.mem_cons_of_mem _ hw), hE⟩ (by rw [hrm]; exact ⟨rfl, rfl⟩) (by rw [hrm]; exact ⟨rfl, rfl⟩) hl hnm u0 S V ht hp (fun pc lo r S' V' nc ns d z q hc hs => R.2.2.1 rfl pc lo r S' V' nc ns d z ⟨u0, r, rfl, rfl, q⟩ hc hs)
theorem d10_10_0 : decode b_10_10 0 = .ok (.aload_n 0, 1) := by decide +kernel
theorem d10_10_1 : decode b_10_10 1 = .ok (.getfield 17, 3) := by decide +kernel
theorem d10_10_4 : decode b_10_10 4 = .ok (.ifCond .eq 10, 3) := by decide +kernel
theorem d10_10_7 : decode b_10_10 7 = .ok (.aload_n 0, 1) := by decide +kernel
theorem d10_10_8 : decode b_10_10 8 = .ok (.invokevirtual 46, 3) := by decide +kernel
theorem d10_10_11 : decode b_10_10 11 = .ok (.ifCond .eq 7, 3) := by decide +kernel
theorem d10_10_14 : decode b_10_10 14 = .ok (.iconst 1, 1) := by decide +kernel
theorem d10_10_15 : decode b_10_10 15 = .ok (.goto 4, 3) := by decide +kernel
theorem d10_10_18 : decode b_10_10 18 = .ok (.iconst 0, 1) := by decide +kernel
theorem d10_10_19 : decode b_10_10 19 = .ok (.ireturn, 1) := by decide +kernel
theorem K10_10_8 {C : qCx} {G : jG} {mc ms : Nat} {p : Int → jS → jH → Prop} {q : Int → jS → jH → Int → jS → jH → Prop} (h : x10_10 C G) (hrm : C.2.2.2.1.frames = 2 ∧ C.2.2.2.1.locals = 46) (hM : M10_8 C.2.1 mc ms p q) : j_Call C b_10_10 n_KT G.1 G.2.1 1 (.invokevirtual 46) mc ms (fun a S V => ∃ u0 : Int, a = [(2, u0)] ∧ S.1 u0 = 29 ∧ p u0 S V) (fun a S V rs S' V' => ∃ u0 r : Int, a = [(2, u0)] ∧ rs = [(0, r)] ∧ q u0 S V r S' V') := j_callV n_NWk h.2.2.2.2.2 h.1 hM ⟨h.2.1.1, h.2.1.2, h.2.2.1, h.2.2.2.1, h.2.2.2.2.1⟩ ⟨n_CB (y := y_10_8) (bytes := b_10_8) 0 h.2.2.2.2.1 n_w396 n_w495 n_w7 ⟨by decide, by decide, by decide +kernel⟩ rfl rfl ⟨by rw [hrm.1]; exact Nat.le_of_ble_eq_true rfl, by rw [hrm.2]; exact Nat.le_of_ble_eq_true rfl⟩, h.2.2.2.2.1 _ n_w394, h.2.2.2.2.1 _ n_w395⟩ (Cn := RX8) (fun a S V hP => by obtain ⟨u0, rfl, e, -⟩ := hP; exact ⟨u0, _, 8, _, _, TX8, 3, rfl, rfl, by rw [e]; decide, by rw [e]; rfl, rfl⟩)
theorem t10_10_0 {C : qCx} {G : jG} {S : jS} {V : jH} {nc ns : Nat} {l0 : Int} (h : x10_10 C G) (c1 : S.1 l0 = 29) (k : V l0 1 = 0 → j_ok n_KT 1 C G 14 [] [] S V nc ns) (k' : ¬ V l0 1 = 0 → j_ok n_KT 1 C G 7 [(0, (2, l0))] [] S V nc ns) : j_ok n_KT 1 C G 0 [(0, (2, l0))] [] S V nc ns := by
  have E := n_E h
  refine j_aload_n E d10_10_0 rfl 0 rfl ?_
  refine j_getI (f := 1) (fg8_17 h) d10_10_1 c1 (by decide) rfl rfl ?_
  exact j_if_eq E d10_10_4 (t := 14) rfl (fun q => j_pick [] rfl (k q)) (fun q => j_pick [0] rfl (k' q))
theorem t10_10_7 {C : qCx} {G : jG} {S : jS} {V : jH} {nc ns : Nat} {l0 : Int} {mc ms : Nat} {pp : Int → jS → jH → Prop} {qq : Int → jS → jH → Int → jS → jH → Prop} (h : x10_10 C G) (hrm : C.2.2.2.1.frames = 2 ∧ C.2.2.2.1.locals = 46) (c1 : S.1 l0 = 29) (hM : M10_8 C.2.1 mc ms pp qq) (hp : pp l0 S V) (hc : nc + mc ≤ C.2.2.2.1.cells) (hs : ns + ms ≤ C.2.2.2.1.slots) (k : ∀ (r : Int) (S' : jS) (V' : jH), qq l0 S V r S' V' → j_ok n_KT 1 C G 11 [] [(0, r)] S' V' (nc + mc) (ns + ms)) : j_ok n_KT 1 C G 7 [(0, (2, l0))] [] S V nc ns := by
  have E := n_E h
  refine j_aload_n E d10_10_7 rfl 0 rfl ?_
  refine j_call E (K10_10_8 h hrm hM) d10_10_8 (a := [(2, l0)]) (sk := []) rfl ⟨l0, rfl, c1, hp⟩ (Nat.le_of_ble_eq_true rfl) hc hs ?_
  rintro rs S' V' ⟨z0, r, e1, rfl, q⟩
  simp only [List.cons.injEq, Prod.mk.injEq, and_true, true_and] at e1
  obtain ⟨rfl⟩ := e1
  exact j_pick [] rfl (k r S' V' q)
theorem t10_10_11 {C : qCx} {G : jG} {S : jS} {V : jH} {nc ns : Nat} {s0 : Int} (h : x10_10 C G)  (k : s0 = 0 → j_ok n_KT 1 C G 18 [] [] S V nc ns) (k' : ¬ s0 = 0 → j_ok n_KT 1 C G 14 [] [] S V nc ns) : j_ok n_KT 1 C G 11 [] [(0, s0)] S V nc ns := by
  have E := n_E h
  exact j_if_eq E d10_10_11 (t := 18) rfl (fun q => j_pick [] rfl (k q)) (fun q => j_pick [] rfl (k' q))
theorem t10_10_14 {C : qCx} {G : jG} {S : jS} {V : jH} {nc ns : Nat} (h : x10_10 C G)  (k : j_ok n_KT 1 C G 19 [] [(0, 1)] S V nc ns) : j_ok n_KT 1 C G 14 [] [] S V nc ns := by
  have E := n_E h
  refine j_iconst E d10_10_14 (by decide) ?_
  refine j_goto E d10_10_15 (t := 19) rfl ?_
  exact j_pick [] rfl k
theorem t10_10_18 {C : qCx} {G : jG} {S : jS} {V : jH} {nc ns : Nat} (h : x10_10 C G)  (k : j_ok n_KT 1 C G 19 [] [(0, 0)] S V nc ns) : j_ok n_KT 1 C G 18 [] [] S V nc ns := by
  have E := n_E h
  refine j_iconst E d10_10_18 (by decide) ?_
  exact j_pick [] rfl k
theorem t10_10_19 {C : qCx} {G : jG} {S : jS} {V : jH} {nc ns : Nat} {s0 : Int} {mc ms : Nat} {qf : Int → jS → jH → Prop} (h : x10_10 C G)  (R : j_Rz n_KT 1 C G b_10_10 mc ms qf) (hz : 0 ≤ s0 ∧ s0 ≤ 1) (q : qf s0 S V) (hc : nc ≤ mc) (hs : ns ≤ ms) : j_ok n_KT 1 C G 19 [] [(0, s0)] S V nc ns := by
  have E := n_E h
  exact R _ _ _ _ _ _ _ d10_10_19 hz q hc hs
/- BalanceCoder$Deal.signsWithShares()I -/
abbrev b_4_4 : ByteArray := prog_4_method_4_code
def y_4_4 : MethodName := ⟨"BalanceCoder$Deal", "signsWithShares", "()I"⟩
abbrev x4_4 (C : qCx) (G : jG) : Prop := n_ctx C b_4_4 3 "BalanceCoder$Deal" G.1 G.2.1
def M4_4 (l : Launch) (mc ms : Nat) (p : Int → jS → jH → Prop) (q : Int → jS → jH → Int → jS → jH → Prop) : Prop := j_Met l vwCl n_TL n_NW n_KT y_4_4 (Cond.code y_4_4 b_4_4 3 (some .int) :: n_GW) { frames := 2, cells := mc, slots := ms, locals := 47 } mc ms (fun a S V => ∃ u0 : Int, a = [(2, u0)] ∧ S.1 u0 = 23 ∧ p u0 S V) (fun a S V rs S' V' => ∃ u0 r : Int, a = [(2, u0)] ∧ rs = [(0, r)] ∧ q u0 S V r S' V')
theorem e4_4 {l : Launch} {mc ms : Nat} {p : Int → jS → jH → Prop} {q : Int → jS → jH → Int → jS → jH → Prop} (body : ∀ (C : qCx) (G : jG), x4_4 C G → C.2.2.2.1.frames = 2 ∧ C.2.2.2.1.locals = 47 → C.2.2.2.1.cells = mc ∧ C.2.2.2.1.slots = ms → C.2.1 = l → C.2.2.2.2.2.2.2.2.1.name = "signsWithShares" → ∀ (u0 : Int) (S : jS) (V : jH), S.1 u0 = 23 → p u0 S V → j_Ri n_KT 3 C G b_4_4 mc ms (q u0 S V) → j_ok n_KT 3 C G 0 [(0, (2, u0))] [] S V 0 0) : M4_4 l mc ms p q := by
  refine j_method (ws' := n_GW) (by decide) rfl ?_ ?_
  · rintro a S V ⟨u0, rfl, -⟩
    exact Nat.le_of_ble_eq_true rfl
  · rintro C G htl hl hrm hm hml ho hts hnm hE a S V ⟨u0, rfl, ht, hp⟩ R
    exact body C G ⟨htl, hm, hml, ho, fun w hw => hts w (List.mem_cons_of_mem _ hw), hE⟩ (by rw [hrm]; exact ⟨rfl, rfl⟩) (by rw [hrm]; exact ⟨rfl, rfl⟩) hl hnm u0 S V ht hp (fun pc lo r S' V' nc ns d q hc hs => R.2.1 rfl pc lo r S' V' nc ns d ⟨u0, r, rfl, rfl, q⟩ hc hs)
theorem d4_4_0 : decode b_4_4 0 = .ok (.iconst 0, 1) := by decide +kernel
theorem d4_4_1 : decode b_4_4 1 = .ok (.istore_n 1, 1) := by decide +kernel
theorem d4_4_2 : decode b_4_4 2 = .ok (.iconst 0, 1) := by decide +kernel
theorem d4_4_3 : decode b_4_4 3 = .ok (.istore_n 2, 1) := by decide +kernel
theorem d4_4_4 : decode b_4_4 4 = .ok (.iload_n 2, 1) := by decide +kernel
theorem d4_4_5 : decode b_4_4 5 = .ok (.sipush 256, 3) := by decide +kernel
theorem d4_4_8 : decode b_4_4 8 = .ok (.if_icmp .ge 20, 3) := by decide +kernel
theorem d4_4_11 : decode b_4_4 11 = .ok (.aload_n 0, 1) := by decide +kernel
theorem d4_4_12 : decode b_4_4 12 = .ok (.iload_n 2, 1) := by decide +kernel
theorem d4_4_13 : decode b_4_4 13 = .ok (.invokevirtual 15, 3) := by decide +kernel
theorem d4_4_16 : decode b_4_4 16 = .ok (.ifCond .le 6, 3) := by decide +kernel
theorem d4_4_19 : decode b_4_4 19 = .ok (.iinc 1 1, 3) := by decide +kernel
theorem d4_4_22 : decode b_4_4 22 = .ok (.iinc 2 1, 3) := by decide +kernel
theorem d4_4_25 : decode b_4_4 25 = .ok (.goto (-21), 3) := by decide +kernel
theorem d4_4_28 : decode b_4_4 28 = .ok (.iload_n 1, 1) := by decide +kernel
theorem d4_4_29 : decode b_4_4 29 = .ok (.ireturn, 1) := by decide +kernel
theorem K4_4_13 {C : qCx} {G : jG} {mc ms : Nat} {p : Int → Int → jS → jH → Prop} {q : Int → Int → jS → jH → Int → jS → jH → Prop} (h : x4_4 C G) (hrm : C.2.2.2.1.frames = 2 ∧ C.2.2.2.1.locals = 47) (hM : M4_2 C.2.1 mc ms p q) : j_Call C b_4_4 n_KT G.1 G.2.1 3 (.invokevirtual 15) mc ms (fun a S V => ∃ u0 u1 : Int, a = [(2, u0), (0, u1)] ∧ S.1 u0 = 23 ∧ p u0 u1 S V) (fun a S V rs S' V' => ∃ u0 u1 r : Int, a = [(2, u0), (0, u1)] ∧ rs = [(0, r)] ∧ q u0 u1 S V r S' V') := j_callV n_NWk h.2.2.2.2.2 h.1 hM ⟨h.2.1.1, h.2.1.2, h.2.2.1, h.2.2.2.1, h.2.2.2.2.1⟩ ⟨n_CB (y := y_4_2) (bytes := b_4_2) 1 h.2.2.2.2.1 n_w379 n_w384 n_w8 ⟨by decide, by decide, by decide +kernel⟩ rfl rfl ⟨by rw [hrm.1]; exact Nat.le_of_ble_eq_true rfl, by rw [hrm.2]; exact Nat.le_of_ble_eq_true rfl⟩, h.2.2.2.2.1 _ n_w377, h.2.2.2.2.1 _ n_w378⟩ (Cn := RX2) (fun a S V hP => by obtain ⟨u0, u1, rfl, e, -⟩ := hP; exact ⟨u0, _, 2, _, _, TX2, 1, rfl, rfl, by rw [e]; decide, by rw [e]; rfl, rfl⟩)
theorem t4_4_0 {C : qCx} {G : jG} {S : jS} {V : jH} {nc ns : Nat} {l0 : Int} (h : x4_4 C G)  (k : j_ok n_KT 3 C G 4 [(0, (2, l0)), (1, (0, 0)), (2, (0, 0))] [] S V nc ns) : j_ok n_KT 3 C G 0 [(0, (2, l0))] [] S V nc ns := by
  have E := n_E h
  refine j_iconst E d4_4_0 (by decide) ?_
  refine j_istore_n E d4_4_1 rfl (by decide) (lo1 := [(0, (2, l0))]) rfl ?_
  refine j_iconst E d4_4_2 (by decide) ?_
  refine j_istore_n E d4_4_3 rfl (by decide) (lo1 := [(1, (0, 0)), (0, (2, l0))]) rfl ?_
  exact j_pick [2, 1, 0] rfl k
theorem t4_4_4 {C : qCx} {G : jG} {S : jS} {V : jH} {nc ns : Nat} {l0 l1 l2 : Int} (h : x4_4 C G)  (k : 256 ≤ l2 → j_ok n_KT 3 C G 28 [(1, (0, l1))] [] S V nc ns) (k' : l2 < 256 → j_ok n_KT 3 C G 11 [(0, (2, l0)), (1, (0, l1)), (2, (0, l2))] [] S V nc ns) : j_ok n_KT 3 C G 4 [(0, (2, l0)), (1, (0, l1)), (2, (0, l2))] [] S V nc ns := by
  have E := n_E h
  refine j_iload_n E d4_4_4 rfl 2 rfl ?_
  refine j_sipush E d4_4_5 (by decide) ?_
  exact j_icmp_ge E d4_4_8 (t := 28) rfl (fun q => j_pick [1] rfl (k q)) (fun q => j_pick [0, 1, 2] rfl (k' q))
theorem t4_4_11 {C : qCx} {G : jG} {S : jS} {V : jH} {nc ns : Nat} {l0 l1 l2 : Int} {mc ms : Nat} {pp : Int → Int → jS → jH → Prop} {qq : Int → Int → jS → jH → Int → jS → jH → Prop} (h : x4_4 C G) (hrm : C.2.2.2.1.frames = 2 ∧ C.2.2.2.1.locals = 47) (c1 : S.1 l0 = 23) (hM : M4_2 C.2.1 mc ms pp qq) (hp : pp l0 l2 S V) (hc : nc + mc ≤ C.2.2.2.1.cells) (hs : ns + ms ≤ C.2.2.2.1.slots) (k : ∀ (r : Int) (S' : jS) (V' : jH), qq l0 l2 S V r S' V' → j_ok n_KT 3 C G 16 [(0, (2, l0)), (1, (0, l1)), (2, (0, l2))] [(0, r)] S' V' (nc + mc) (ns + ms)) : j_ok n_KT 3 C G 11 [(0, (2, l0)), (1, (0, l1)), (2, (0, l2))] [] S V nc ns := by
  have E := n_E h
  refine j_aload_n E d4_4_11 rfl 0 rfl ?_
  refine j_iload_n E d4_4_12 rfl 2 rfl ?_
  refine j_call E (K4_4_13 h hrm hM) d4_4_13 (a := [(2, l0), (0, l2)]) (sk := []) rfl ⟨l0, l2, rfl, c1, hp⟩ (Nat.le_of_ble_eq_true rfl) hc hs ?_
  rintro rs S' V' ⟨z0, z1, r, e1, rfl, q⟩
  simp only [List.cons.injEq, Prod.mk.injEq, and_true, true_and] at e1
  obtain ⟨rfl, rfl⟩ := e1
  exact j_pick [0, 1, 2] rfl (k r S' V' q)
theorem t4_4_16 {C : qCx} {G : jG} {S : jS} {V : jH} {nc ns : Nat} {l0 l1 l2 s0 : Int} (h : x4_4 C G)  (k : s0 ≤ 0 → j_ok n_KT 3 C G 22 [(0, (2, l0)), (1, (0, l1)), (2, (0, l2))] [] S V nc ns) (k' : 0 < s0 → j_ok n_KT 3 C G 19 [(0, (2, l0)), (1, (0, l1)), (2, (0, l2))] [] S V nc ns) : j_ok n_KT 3 C G 16 [(0, (2, l0)), (1, (0, l1)), (2, (0, l2))] [(0, s0)] S V nc ns := by
  have E := n_E h
  exact j_if_le E d4_4_16 (t := 22) rfl (fun q => j_pick [0, 1, 2] rfl (k q)) (fun q => j_pick [0, 1, 2] rfl (k' q))
theorem t4_4_19 {C : qCx} {G : jG} {S : jS} {V : jH} {nc ns : Nat} {l0 l1 l2 : Int} (h : x4_4 C G) (c1 : -2147483648 ≤ l1 + 1 ∧ l1 + 1 ≤ 2147483647) (k : j_ok n_KT 3 C G 22 [(0, (2, l0)), (1, (0, l1 + 1)), (2, (0, l2))] [] S V nc ns) : j_ok n_KT 3 C G 19 [(0, (2, l0)), (1, (0, l1)), (2, (0, l2))] [] S V nc ns := by
  have E := n_E h
  refine j_iinc E d4_4_19 (by decide) (by decide) 1 rfl (lo1 := [(0, (2, l0)), (2, (0, l2))]) rfl c1 ?_
  exact j_pick [1, 0, 2] rfl k
theorem t4_4_22 {C : qCx} {G : jG} {S : jS} {V : jH} {nc ns : Nat} {l0 l1 l2 : Int} (h : x4_4 C G) (c1 : -2147483648 ≤ l2 + 1 ∧ l2 + 1 ≤ 2147483647) (k : j_ok n_KT 3 C G 4 [(0, (2, l0)), (1, (0, l1)), (2, (0, l2 + 1))] [] S V nc ns) : j_ok n_KT 3 C G 22 [(0, (2, l0)), (1, (0, l1)), (2, (0, l2))] [] S V nc ns := by
  have E := n_E h
  refine j_iinc E d4_4_22 (by decide) (by decide) 2 rfl (lo1 := [(0, (2, l0)), (1, (0, l1))]) rfl c1 ?_
  refine j_goto E d4_4_25 (t := 4) rfl ?_
  exact j_pick [1, 2, 0] rfl k
theorem t4_4_28 {C : qCx} {G : jG} {S : jS} {V : jH} {nc ns : Nat} {l1 : Int} {mc ms : Nat} {qf : Int → jS → jH → Prop} (h : x4_4 C G)  (R : j_Ri n_KT 3 C G b_4_4 mc ms qf) (q : qf l1 S V) (hc : nc ≤ mc) (hs : ns ≤ ms) : j_ok n_KT 3 C G 28 [(1, (0, l1))] [] S V nc ns := by
  have E := n_E h
  refine j_iload_n E d4_4_28 rfl 0 rfl ?_
  exact R _ _ _ _ _ _ _ d4_4_29 q hc hs
/- BalanceCoder$Table.toldSize()I -/
abbrev b_10_11 : ByteArray := prog_10_method_11_code
def y_10_11 : MethodName := ⟨"BalanceCoder$Table", "toldSize", "()I"⟩
abbrev x10_11 (C : qCx) (G : jG) : Prop := n_ctx C b_10_11 3 "BalanceCoder$Table" G.1 G.2.1
def M10_11 (l : Launch) (mc ms : Nat) (p : Int → jS → jH → Prop) (q : Int → jS → jH → Int → jS → jH → Prop) : Prop := j_Met l vwCl n_TL n_NW n_KT y_10_11 (Cond.code y_10_11 b_10_11 3 (some .int) :: n_GW) { frames := 3, cells := mc, slots := ms, locals := 69 } mc ms (fun a S V => ∃ u0 : Int, a = [(2, u0)] ∧ S.1 u0 = 29 ∧ p u0 S V) (fun a S V rs S' V' => ∃ u0 r : Int, a = [(2, u0)] ∧ rs = [(0, r)] ∧ q u0 S V r S' V')
theorem e10_11 {l : Launch} {mc ms : Nat} {p : Int → jS → jH → Prop} {q : Int → jS → jH → Int → jS → jH → Prop} (body : ∀ (C : qCx) (G : jG), x10_11 C G → C.2.2.2.1.frames = 3 ∧ C.2.2.2.1.locals = 69 → C.2.2.2.1.cells = mc ∧ C.2.2.2.1.slots = ms → C.2.1 = l → C.2.2.2.2.2.2.2.2.1.name = "toldSize" → ∀ (u0 : Int) (S : jS) (V : jH), S.1 u0 = 29 → p u0 S V → j_Ri n_KT 3 C G b_10_11 mc ms (q u0 S V) → j_ok n_KT 3 C G 0 [(0, (2, u0))] [] S V 0 0) : M10_11 l mc ms p q := by
  refine j_method (ws' := n_GW) (by decide) rfl ?_ ?_
  · rintro a S V ⟨u0, rfl, -⟩
    exact Nat.le_of_ble_eq_true rfl
  · rintro C G htl hl hrm hm hml ho hts hnm hE a S V ⟨u0, rfl, ht, hp⟩ R
    exact body C G ⟨htl, hm, hml, ho, fun w hw => hts w (List.mem_cons_of_mem _ hw), hE⟩ (by rw [hrm]; exact ⟨rfl, rfl⟩) (by rw [hrm]; exact ⟨rfl, rfl⟩) hl hnm u0 S V ht hp (fun pc lo r S' V' nc ns d q hc hs => R.2.1 rfl pc lo r S' V' nc ns d ⟨u0, r, rfl, rfl, q⟩ hc hs)
theorem d10_11_0 : decode b_10_11 0 = .ok (.iconst 0, 1) := by decide +kernel
theorem d10_11_1 : decode b_10_11 1 = .ok (.istore_n 1, 1) := by decide +kernel
theorem d10_11_2 : decode b_10_11 2 = .ok (.iconst 0, 1) := by decide +kernel
theorem d10_11_3 : decode b_10_11 3 = .ok (.istore_n 2, 1) := by decide +kernel
theorem d10_11_4 : decode b_10_11 4 = .ok (.iload_n 2, 1) := by decide +kernel
theorem d10_11_5 : decode b_10_11 5 = .ok (.aload_n 0, 1) := by decide +kernel
theorem d10_11_6 : decode b_10_11 6 = .ok (.invokevirtual 40, 3) := by decide +kernel
theorem d10_11_9 : decode b_10_11 9 = .ok (.if_icmp .ge 32, 3) := by decide +kernel
theorem d10_11_12 : decode b_10_11 12 = .ok (.aload_n 0, 1) := by decide +kernel
theorem d10_11_13 : decode b_10_11 13 = .ok (.invokevirtual 50, 3) := by decide +kernel
theorem d10_11_16 : decode b_10_11 16 = .ok (.ifCond .eq 25, 3) := by decide +kernel
theorem d10_11_19 : decode b_10_11 19 = .ok (.iload_n 1, 1) := by decide +kernel
theorem d10_11_20 : decode b_10_11 20 = .ok (.iconst 2, 1) := by decide +kernel
theorem d10_11_21 : decode b_10_11 21 = .ok (.iconst 3, 1) := by decide +kernel
theorem d10_11_22 : decode b_10_11 22 = .ok (.aload_n 0, 1) := by decide +kernel
theorem d10_11_23 : decode b_10_11 23 = .ok (.getfield 11, 3) := by decide +kernel
theorem d10_11_26 : decode b_10_11 26 = .ok (.iload_n 2, 1) := by decide +kernel
theorem d10_11_27 : decode b_10_11 27 = .ok (.aaload, 1) := by decide +kernel
theorem d10_11_28 : decode b_10_11 28 = .ok (.invokevirtual 53, 3) := by decide +kernel
theorem d10_11_31 : decode b_10_11 31 = .ok (.imul, 1) := by decide +kernel
theorem d10_11_32 : decode b_10_11 32 = .ok (.iadd, 1) := by decide +kernel
theorem d10_11_33 : decode b_10_11 33 = .ok (.iadd, 1) := by decide +kernel
theorem d10_11_34 : decode b_10_11 34 = .ok (.istore_n 1, 1) := by decide +kernel
theorem d10_11_35 : decode b_10_11 35 = .ok (.iinc 2 1, 3) := by decide +kernel
theorem d10_11_38 : decode b_10_11 38 = .ok (.goto (-34), 3) := by decide +kernel
theorem d10_11_41 : decode b_10_11 41 = .ok (.iload_n 1, 1) := by decide +kernel
theorem d10_11_42 : decode b_10_11 42 = .ok (.ireturn, 1) := by decide +kernel
theorem K10_11_6 {C : qCx} {G : jG} {mc ms : Nat} {p : Int → jS → jH → Prop} {q : Int → jS → jH → Int → jS → jH → Prop} (h : x10_11 C G) (hrm : C.2.2.2.1.frames = 3 ∧ C.2.2.2.1.locals = 69) (hM : M10_5 C.2.1 mc ms p q) : j_Call C b_10_11 n_KT G.1 G.2.1 3 (.invokevirtual 40) mc ms (fun a S V => ∃ u0 : Int, a = [(2, u0)] ∧ S.1 u0 = 29 ∧ p u0 S V) (fun a S V rs S' V' => ∃ u0 r : Int, a = [(2, u0)] ∧ rs = [(0, r)] ∧ q u0 S V r S' V') := j_callV n_NWk h.2.2.2.2.2 h.1 hM ⟨h.2.1.1, h.2.1.2, h.2.2.1, h.2.2.2.1, h.2.2.2.2.1⟩ ⟨n_CB (y := y_10_5) (bytes := b_10_5) 0 h.2.2.2.2.1 n_w404 n_w460 n_w7 ⟨by decide, by decide, by decide +kernel⟩ rfl rfl ⟨by rw [hrm.1]; exact Nat.le_of_ble_eq_true rfl, by rw [hrm.2]; exact Nat.le_of_ble_eq_true rfl⟩, h.2.2.2.2.1 _ n_w402, h.2.2.2.2.1 _ n_w403⟩ (Cn := RX8) (fun a S V hP => by obtain ⟨u0, rfl, e, -⟩ := hP; exact ⟨u0, _, 8, _, _, TX8, 3, rfl, rfl, by rw [e]; decide, by rw [e]; rfl, rfl⟩)
theorem K10_11_13 {C : qCx} {G : jG} {mc ms : Nat} {p : Int → jS → jH → Prop} {q : Int → jS → jH → Int → jS → jH → Prop} (h : x10_11 C G) (hrm : C.2.2.2.1.frames = 3 ∧ C.2.2.2.1.locals = 69) (hM : M10_10 C.2.1 mc ms p q) : j_Call C b_10_11 n_KT G.1 G.2.1 3 (.invokevirtual 50) mc ms (fun a S V => ∃ u0 : Int, a = [(2, u0)] ∧ S.1 u0 = 29 ∧ p u0 S V) (fun a S V rs S' V' => ∃ u0 r : Int, a = [(2, u0)] ∧ rs = [(0, r)] ∧ q u0 S V r S' V') := j_callV n_NWk h.2.2.2.2.2 h.1 hM ⟨h.2.1.1, h.2.1.2, h.2.2.1, h.2.2.2.1, h.2.2.2.2.1⟩ ⟨n_CB (y := y_10_10) (bytes := b_10_10) 0 h.2.2.2.2.1 n_w552 n_w549 n_w7 ⟨by decide, by decide, by decide +kernel⟩ rfl rfl ⟨by rw [hrm.1]; exact Nat.le_of_ble_eq_true rfl, by rw [hrm.2]; exact Nat.le_of_ble_eq_true rfl⟩, h.2.2.2.2.1 _ n_w550, h.2.2.2.2.1 _ n_w551⟩ (Cn := RX8) (fun a S V hP => by obtain ⟨u0, rfl, e, -⟩ := hP; exact ⟨u0, _, 8, _, _, TX8, 3, rfl, rfl, by rw [e]; decide, by rw [e]; rfl, rfl⟩)
theorem K10_11_28 {C : qCx} {G : jG} {mc ms : Nat} {p : Int → jS → jH → Prop} {q : Int → jS → jH → Int → jS → jH → Prop} (h : x10_11 C G) (hrm : C.2.2.2.1.frames = 3 ∧ C.2.2.2.1.locals = 69) (hM : M4_4 C.2.1 mc ms p q) : j_Call C b_10_11 n_KT G.1 G.2.1 3 (.invokevirtual 53) mc ms (fun a S V => ∃ u0 : Int, a = [(2, u0)] ∧ S.1 u0 = 23 ∧ p u0 S V) (fun a S V rs S' V' => ∃ u0 r : Int, a = [(2, u0)] ∧ rs = [(0, r)] ∧ q u0 S V r S' V') := j_callV n_NWk h.2.2.2.2.2 h.1 hM ⟨h.2.1.1, h.2.1.2, h.2.2.1, h.2.2.2.1, h.2.2.2.2.1⟩ ⟨n_CB (y := y_4_4) (bytes := b_4_4) 0 h.2.2.2.2.1 n_w556 n_w553 n_w8 ⟨by decide, by decide, by decide +kernel⟩ rfl rfl ⟨by rw [hrm.1]; exact Nat.le_of_ble_eq_true rfl, by rw [hrm.2]; exact Nat.le_of_ble_eq_true rfl⟩, h.2.2.2.2.1 _ n_w554, h.2.2.2.2.1 _ n_w555⟩ (Cn := RX2) (fun a S V hP => by obtain ⟨u0, rfl, e, -⟩ := hP; exact ⟨u0, _, 2, _, _, TX2, 1, rfl, rfl, by rw [e]; decide, by rw [e]; rfl, rfl⟩)
theorem t10_11_0 {C : qCx} {G : jG} {S : jS} {V : jH} {nc ns : Nat} {l0 : Int} (h : x10_11 C G)  (k : j_ok n_KT 3 C G 4 [(0, (2, l0)), (1, (0, 0)), (2, (0, 0))] [] S V nc ns) : j_ok n_KT 3 C G 0 [(0, (2, l0))] [] S V nc ns := by
  have E := n_E h
  refine j_iconst E d10_11_0 (by decide) ?_
  refine j_istore_n E d10_11_1 rfl (by decide) (lo1 := [(0, (2, l0))]) rfl ?_
  refine j_iconst E d10_11_2 (by decide) ?_
  refine j_istore_n E d10_11_3 rfl (by decide) (lo1 := [(1, (0, 0)), (0, (2, l0))]) rfl ?_
  exact j_pick [2, 1, 0] rfl k
theorem t10_11_4 {C : qCx} {G : jG} {S : jS} {V : jH} {nc ns : Nat} {l0 l1 l2 : Int} {mc ms : Nat} {pp : Int → jS → jH → Prop} {qq : Int → jS → jH → Int → jS → jH → Prop} (h : x10_11 C G) (hrm : C.2.2.2.1.frames = 3 ∧ C.2.2.2.1.locals = 69) (c1 : S.1 l0 = 29) (hM : M10_5 C.2.1 mc ms pp qq) (hp : pp l0 S V) (hc : nc + mc ≤ C.2.2.2.1.cells) (hs : ns + ms ≤ C.2.2.2.1.slots) (k : ∀ (r : Int) (S' : jS) (V' : jH), qq l0 S V r S' V' → j_ok n_KT 3 C G 9 [(0, (2, l0)), (1, (0, l1)), (2, (0, l2))] [(0, r), (0, l2)] S' V' (nc + mc) (ns + ms)) : j_ok n_KT 3 C G 4 [(0, (2, l0)), (1, (0, l1)), (2, (0, l2))] [] S V nc ns := by
  have E := n_E h
  refine j_iload_n E d10_11_4 rfl 2 rfl ?_
  refine j_aload_n E d10_11_5 rfl 0 rfl ?_
  refine j_call E (K10_11_6 h hrm hM) d10_11_6 (a := [(2, l0)]) (sk := [(0, l2)]) rfl ⟨l0, rfl, c1, hp⟩ (Nat.le_of_ble_eq_true rfl) hc hs ?_
  rintro rs S' V' ⟨z0, r, e1, rfl, q⟩
  simp only [List.cons.injEq, Prod.mk.injEq, and_true, true_and] at e1
  obtain ⟨rfl⟩ := e1
  exact j_pick [0, 1, 2] rfl (k r S' V' q)
theorem t10_11_9 {C : qCx} {G : jG} {S : jS} {V : jH} {nc ns : Nat} {l0 l1 l2 s0 s1 : Int} (h : x10_11 C G)  (k : s0 ≤ s1 → j_ok n_KT 3 C G 41 [(1, (0, l1))] [] S V nc ns) (k' : s1 < s0 → j_ok n_KT 3 C G 12 [(0, (2, l0)), (1, (0, l1)), (2, (0, l2))] [] S V nc ns) : j_ok n_KT 3 C G 9 [(0, (2, l0)), (1, (0, l1)), (2, (0, l2))] [(0, s0), (0, s1)] S V nc ns := by
  have E := n_E h
  exact j_icmp_ge E d10_11_9 (t := 41) rfl (fun q => j_pick [1] rfl (k q)) (fun q => j_pick [0, 1, 2] rfl (k' q))
theorem t10_11_12 {C : qCx} {G : jG} {S : jS} {V : jH} {nc ns : Nat} {l0 l1 l2 : Int} {mc ms : Nat} {pp : Int → jS → jH → Prop} {qq : Int → jS → jH → Int → jS → jH → Prop} (h : x10_11 C G) (hrm : C.2.2.2.1.frames = 3 ∧ C.2.2.2.1.locals = 69) (c1 : S.1 l0 = 29) (hM : M10_10 C.2.1 mc ms pp qq) (hp : pp l0 S V) (hc : nc + mc ≤ C.2.2.2.1.cells) (hs : ns + ms ≤ C.2.2.2.1.slots) (k : ∀ (r : Int) (S' : jS) (V' : jH), qq l0 S V r S' V' → j_ok n_KT 3 C G 16 [(0, (2, l0)), (1, (0, l1)), (2, (0, l2))] [(0, r)] S' V' (nc + mc) (ns + ms)) : j_ok n_KT 3 C G 12 [(0, (2, l0)), (1, (0, l1)), (2, (0, l2))] [] S V nc ns := by
  have E := n_E h
  refine j_aload_n E d10_11_12 rfl 0 rfl ?_
  refine j_call E (K10_11_13 h hrm hM) d10_11_13 (a := [(2, l0)]) (sk := []) rfl ⟨l0, rfl, c1, hp⟩ (Nat.le_of_ble_eq_true rfl) hc hs ?_
  rintro rs S' V' ⟨z0, r, e1, rfl, q⟩
  simp only [List.cons.injEq, Prod.mk.injEq, and_true, true_and] at e1
  obtain ⟨rfl⟩ := e1
  exact j_pick [0, 1, 2] rfl (k r S' V' q)
theorem t10_11_16 {C : qCx} {G : jG} {S : jS} {V : jH} {nc ns : Nat} {l0 l1 l2 s0 : Int} (h : x10_11 C G)  (k : s0 = 0 → j_ok n_KT 3 C G 41 [(1, (0, l1))] [] S V nc ns) (k' : ¬ s0 = 0 → j_ok n_KT 3 C G 19 [(0, (2, l0)), (1, (0, l1)), (2, (0, l2))] [] S V nc ns) : j_ok n_KT 3 C G 16 [(0, (2, l0)), (1, (0, l1)), (2, (0, l2))] [(0, s0)] S V nc ns := by
  have E := n_E h
  exact j_if_eq E d10_11_16 (t := 41) rfl (fun q => j_pick [1] rfl (k q)) (fun q => j_pick [0, 1, 2] rfl (k' q))
theorem t10_11_19 {C : qCx} {G : jG} {S : jS} {V : jH} {nc ns : Nat} {l0 l1 l2 : Int} {mc ms : Nat} {pp : Int → jS → jH → Prop} {qq : Int → jS → jH → Int → jS → jH → Prop} (h : x10_11 C G) (L : j_L S) (hrm : C.2.2.2.1.frames = 3 ∧ C.2.2.2.1.locals = 69) (c1 : S.1 l0 = 29) (c2 : 0 ≤ l2) (c3 : l2 < 4) (hM : M4_4 C.2.1 mc ms pp qq) (hp : pp (l0 + 2 + 2 * l2) S V) (hc : nc + mc ≤ C.2.2.2.1.cells) (hs : ns + ms ≤ C.2.2.2.1.slots) (k : ∀ (r : Int) (S' : jS) (V' : jH), qq (l0 + 2 + 2 * l2) S V r S' V' → j_ok n_KT 3 C G 31 [(0, (2, l0)), (2, (0, l2))] [(0, r), (0, 3), (0, 2), (0, l1)] S' V' (nc + mc) (ns + ms)) : j_ok n_KT 3 C G 19 [(0, (2, l0)), (1, (0, l1)), (2, (0, l2))] [] S V nc ns := by
  have E := n_E h
  refine j_iload_n E d10_11_19 rfl 1 rfl ?_
  refine j_iconst E d10_11_20 (by decide) ?_
  refine j_iconst E d10_11_21 (by decide) ?_
  refine j_aload_n E d10_11_22 rfl 0 rfl ?_
  refine j_getS (f := 0) (x := l0 + 1) (fg8_11 h) d10_11_23 c1 (by decide) rfl rfl ((L8_0 L c1).trans (by omega)) ?_
  refine j_iload_n E d10_11_26 rfl 2 rfl ?_
  refine j_aaldS (x := l0 + 2 + 2 * l2) E d10_11_27 (show S.1 (l0 + 1) = 19 from (by have q := L8_0k L c1; rw [show l0 + 1 = l0 + 1 by omega]; exact q)) (by decide) rfl c2 c3 ((LDealA L (i := l2) (show S.1 (l0 + 1) = 19 from (by have q := L8_0k L c1; rw [show l0 + 1 = l0 + 1 by omega]; exact q)) c2 c3).trans (by omega)) ?_
  refine j_call E (K10_11_28 h hrm hM) d10_11_28 (a := [(2, l0 + 2 + 2 * l2)]) (sk := [(0, 3), (0, 2), (0, l1)]) rfl ⟨l0 + 2 + 2 * l2, rfl, (show S.1 (l0 + 2 + 2 * l2) = 23 from (by have q := LDealAk L (i := l2) (show S.1 (l0 + 1) = 19 from (by have q := L8_0k L c1; rw [show l0 + 1 = l0 + 1 by omega]; exact q)) c2 c3; rw [show l0 + 2 + 2 * l2 = (l0 + 1) + 1 + 2 * l2 by omega]; exact q)), hp⟩ (Nat.le_of_ble_eq_true rfl) hc hs ?_
  rintro rs S' V' ⟨z0, r, e1, rfl, q⟩
  simp only [List.cons.injEq, Prod.mk.injEq, and_true, true_and] at e1
  obtain ⟨rfl⟩ := e1
  exact j_pick [0, 2] rfl (k r S' V' q)
theorem t10_11_31 {C : qCx} {G : jG} {S : jS} {V : jH} {nc ns : Nat} {l0 l2 s0 s1 s2 s3 : Int} (h : x10_11 C G) (c1 : -2147483648 ≤ s1 * s0 ∧ s1 * s0 ≤ 2147483647) (c2 : -2147483648 ≤ s2 + (s1 * s0) ∧ s2 + (s1 * s0) ≤ 2147483647) (c3 : -2147483648 ≤ s3 + (s2 + (s1 * s0)) ∧ s3 + (s2 + (s1 * s0)) ≤ 2147483647) (c4 : -2147483648 ≤ l2 + 1 ∧ l2 + 1 ≤ 2147483647) (k : j_ok n_KT 3 C G 4 [(0, (2, l0)), (1, (0, s3 + (s2 + (s1 * s0)))), (2, (0, l2 + 1))] [] S V nc ns) : j_ok n_KT 3 C G 31 [(0, (2, l0)), (2, (0, l2))] [(0, s0), (0, s1), (0, s2), (0, s3)] S V nc ns := by
  have E := n_E h
  refine j_imul E d10_11_31 c1 ?_
  refine j_iadd E d10_11_32 c2 ?_
  refine j_iadd E d10_11_33 c3 ?_
  refine j_istore_n E d10_11_34 rfl (by decide) (lo1 := [(0, (2, l0)), (2, (0, l2))]) rfl ?_
  refine j_iinc E d10_11_35 (by decide) (by decide) 2 rfl (lo1 := [(1, (0, s3 + (s2 + (s1 * s0)))), (0, (2, l0))]) rfl c4 ?_
  refine j_goto E d10_11_38 (t := 4) rfl ?_
  exact j_pick [2, 1, 0] rfl k
theorem t10_11_41 {C : qCx} {G : jG} {S : jS} {V : jH} {nc ns : Nat} {l1 : Int} {mc ms : Nat} {qf : Int → jS → jH → Prop} (h : x10_11 C G)  (R : j_Ri n_KT 3 C G b_10_11 mc ms qf) (q : qf l1 S V) (hc : nc ≤ mc) (hs : ns ≤ ms) : j_ok n_KT 3 C G 41 [(1, (0, l1))] [] S V nc ns := by
  have E := n_E h
  refine j_iload_n E d10_11_41 rfl 0 rfl ?_
  exact R _ _ _ _ _ _ _ d10_11_42 q hc hs
/- BalanceCoder$Bench.blockSize(II)I -/
abbrev b_2_6 : ByteArray := prog_2_method_6_code
def y_2_6 : MethodName := ⟨"BalanceCoder$Bench", "blockSize", "(II)I"⟩
abbrev x2_6 (C : qCx) (G : jG) : Prop := n_ctx C b_2_6 3 "BalanceCoder$Bench" G.1 G.2.1
def M2_6 (l : Launch) (mc ms : Nat) (p : Int → Int → Int → jS → jH → Prop) (q : Int → Int → Int → jS → jH → Int → jS → jH → Prop) : Prop := j_Met l vwCl n_TL n_NW n_KT y_2_6 (Cond.code y_2_6 b_2_6 3 (some .int) :: n_GW) { frames := 1, cells := mc, slots := ms, locals := 26 } mc ms (fun a S V => ∃ u0 u1 u2 : Int, a = [(2, u0), (0, u1), (0, u2)] ∧ S.1 u0 = 21 ∧ p u0 u1 u2 S V) (fun a S V rs S' V' => ∃ u0 u1 u2 r : Int, a = [(2, u0), (0, u1), (0, u2)] ∧ rs = [(0, r)] ∧ q u0 u1 u2 S V r S' V')
theorem e2_6 {l : Launch} {mc ms : Nat} {p : Int → Int → Int → jS → jH → Prop} {q : Int → Int → Int → jS → jH → Int → jS → jH → Prop} (body : ∀ (C : qCx) (G : jG), x2_6 C G → C.2.2.2.1.frames = 1 ∧ C.2.2.2.1.locals = 26 → C.2.2.2.1.cells = mc ∧ C.2.2.2.1.slots = ms → C.2.1 = l → C.2.2.2.2.2.2.2.2.1.name = "blockSize" → ∀ (u0 u1 u2 : Int) (S : jS) (V : jH), S.1 u0 = 21 → p u0 u1 u2 S V → j_Ri n_KT 3 C G b_2_6 mc ms (q u0 u1 u2 S V) → j_ok n_KT 3 C G 0 [(0, (2, u0)), (1, (0, u1)), (2, (0, u2))] [] S V 0 0) : M2_6 l mc ms p q := by
  refine j_method (ws' := n_GW) (by decide) rfl ?_ ?_
  · rintro a S V ⟨u0, u1, u2, rfl, -⟩
    exact Nat.le_of_ble_eq_true rfl
  · rintro C G htl hl hrm hm hml ho hts hnm hE a S V ⟨u0, u1, u2, rfl, ht, hp⟩ R
    exact body C G ⟨htl, hm, hml, ho, fun w hw => hts w (List.mem_cons_of_mem _ hw), hE⟩ (by rw [hrm]; exact ⟨rfl, rfl⟩) (by rw [hrm]; exact ⟨rfl, rfl⟩) hl hnm u0 u1 u2 S V ht hp (fun pc lo r S' V' nc ns d q hc hs => R.2.1 rfl pc lo r S' V' nc ns d ⟨u0, u1, u2, r, rfl, rfl, q⟩ hc hs)
theorem d2_6_0 : decode b_2_6 0 = .ok (.iconst 5, 1) := by decide +kernel
theorem d2_6_1 : decode b_2_6 1 = .ok (.iload_n 1, 1) := by decide +kernel
theorem d2_6_2 : decode b_2_6 2 = .ok (.iadd, 1) := by decide +kernel
theorem d2_6_3 : decode b_2_6 3 = .ok (.iconst 3, 1) := by decide +kernel
theorem d2_6_4 : decode b_2_6 4 = .ok (.iload_n 2, 1) := by decide +kernel
theorem d2_6_5 : decode b_2_6 5 = .ok (.imul, 1) := by decide +kernel
theorem d2_6_6 : decode b_2_6 6 = .ok (.iadd, 1) := by decide +kernel
theorem d2_6_7 : decode b_2_6 7 = .ok (.iconst 2, 1) := by decide +kernel
theorem d2_6_8 : decode b_2_6 8 = .ok (.iadd, 1) := by decide +kernel
theorem d2_6_9 : decode b_2_6 9 = .ok (.aload_n 0, 1) := by decide +kernel
theorem d2_6_10 : decode b_2_6 10 = .ok (.getfield 39, 3) := by decide +kernel
theorem d2_6_13 : decode b_2_6 13 = .ok (.iadd, 1) := by decide +kernel
theorem d2_6_14 : decode b_2_6 14 = .ok (.iconst 2, 1) := by decide +kernel
theorem d2_6_15 : decode b_2_6 15 = .ok (.iadd, 1) := by decide +kernel
theorem d2_6_16 : decode b_2_6 16 = .ok (.ireturn, 1) := by decide +kernel
theorem t2_6_0 {C : qCx} {G : jG} {S : jS} {V : jH} {nc ns : Nat} {l0 l1 l2 : Int} {mc ms : Nat} {qf : Int → jS → jH → Prop} (h : x2_6 C G) (c1 : -2147483648 ≤ 5 + l1 ∧ 5 + l1 ≤ 2147483647) (c2 : -2147483648 ≤ 3 * l2 ∧ 3 * l2 ≤ 2147483647) (c3 : -2147483648 ≤ (5 + l1) + (3 * l2) ∧ (5 + l1) + (3 * l2) ≤ 2147483647) (c4 : -2147483648 ≤ ((5 + l1) + (3 * l2)) + 2 ∧ ((5 + l1) + (3 * l2)) + 2 ≤ 2147483647) (c5 : S.1 l0 = 21) (c6 : -2147483648 ≤ (((5 + l1) + (3 * l2)) + 2) + (V l0 5) ∧ (((5 + l1) + (3 * l2)) + 2) + (V l0 5) ≤ 2147483647) (c7 : -2147483648 ≤ ((((5 + l1) + (3 * l2)) + 2) + (V l0 5)) + 2 ∧ ((((5 + l1) + (3 * l2)) + 2) + (V l0 5)) + 2 ≤ 2147483647) (R : j_Ri n_KT 3 C G b_2_6 mc ms qf) (q : qf (((((5 + l1) + (3 * l2)) + 2) + (V l0 5)) + 2) S V) (hc : nc ≤ mc) (hs : ns ≤ ms) : j_ok n_KT 3 C G 0 [(0, (2, l0)), (1, (0, l1)), (2, (0, l2))] [] S V nc ns := by
  have E := n_E h
  refine j_iconst E d2_6_0 (by decide) ?_
  refine j_iload_n E d2_6_1 rfl 1 rfl ?_
  refine j_iadd E d2_6_2 c1 ?_
  refine j_iconst E d2_6_3 (by decide) ?_
  refine j_iload_n E d2_6_4 rfl 2 rfl ?_
  refine j_imul E d2_6_5 c2 ?_
  refine j_iadd E d2_6_6 c3 ?_
  refine j_iconst E d2_6_7 (by decide) ?_
  refine j_iadd E d2_6_8 c4 ?_
  refine j_aload_n E d2_6_9 rfl 0 rfl ?_
  refine j_getI (f := 5) (fg0_39 h) d2_6_10 c5 (by decide) rfl rfl ?_
  refine j_iadd E d2_6_13 c6 ?_
  refine j_iconst E d2_6_14 (by decide) ?_
  refine j_iadd E d2_6_15 c7 ?_
  exact R _ _ _ _ _ _ _ d2_6_16 q hc hs
/- BalanceCoder.tryPacking(LBalanceCoder$Table;LBalanceCoder$Row;I)I -/
abbrev b_1_35 : ByteArray := prog_1_method_35_code
def y_1_35 : MethodName := ⟨"BalanceCoder", "tryPacking", "(LBalanceCoder$Table;LBalanceCoder$Row;I)I"⟩
abbrev x1_35 (C : qCx) (G : jG) : Prop := n_ctx C b_1_35 5 "BalanceCoder" G.1 G.2.1
def M1_35 (l : Launch) (mc ms : Nat) (p : Int → Int → Int → Int → jS → jH → Prop) (q : Int → Int → Int → Int → jS → jH → Int → jS → jH → Prop) : Prop := j_Met l vwCl n_TL n_NW n_KT y_1_35 (Cond.code y_1_35 b_1_35 5 (some .int) :: n_GW) { frames := 5, cells := mc, slots := ms, locals := 121 } mc ms (fun a S V => ∃ u0 u1 u2 u3 : Int, a = [(2, u0), (2, u1), (2, u2), (0, u3)] ∧ S.1 u0 = 31 ∧ p u0 u1 u2 u3 S V) (fun a S V rs S' V' => ∃ u0 u1 u2 u3 r : Int, a = [(2, u0), (2, u1), (2, u2), (0, u3)] ∧ rs = [(0, r)] ∧ q u0 u1 u2 u3 S V r S' V')
theorem e1_35 {l : Launch} {mc ms : Nat} {p : Int → Int → Int → Int → jS → jH → Prop} {q : Int → Int → Int → Int → jS → jH → Int → jS → jH → Prop} (body : ∀ (C : qCx) (G : jG), x1_35 C G → C.2.2.2.1.frames = 5 ∧ C.2.2.2.1.locals = 121 → C.2.2.2.1.cells = mc ∧ C.2.2.2.1.slots = ms → C.2.1 = l → C.2.2.2.2.2.2.2.2.1.name = "tryPacking" → ∀ (u0 u1 u2 u3 : Int) (S : jS) (V : jH), S.1 u0 = 31 → p u0 u1 u2 u3 S V → j_Ri n_KT 5 C G b_1_35 mc ms (q u0 u1 u2 u3 S V) → j_ok n_KT 5 C G 0 [(0, (2, u0)), (1, (2, u1)), (2, (2, u2)), (3, (0, u3))] [] S V 0 0) : M1_35 l mc ms p q := by
  refine j_method (ws' := n_GW) (by decide) rfl ?_ ?_
  · rintro a S V ⟨u0, u1, u2, u3, rfl, -⟩
    exact Nat.le_of_ble_eq_true rfl
  · rintro C G htl hl hrm hm hml ho hts hnm hE a S V ⟨u0, u1, u2, u3, rfl, ht, hp⟩ R
    exact body C G ⟨htl, hm, hml, ho, fun w hw => hts w (List.mem_cons_of_mem _ hw), hE⟩ (by rw [hrm]; exact ⟨rfl, rfl⟩) (by rw [hrm]; exact ⟨rfl, rfl⟩) hl hnm u0 u1 u2 u3 S V ht hp (fun pc lo r S' V' nc ns d q hc hs => R.2.1 rfl pc lo r S' V' nc ns d ⟨u0, u1, u2, u3, r, rfl, rfl, q⟩ hc hs)
theorem d1_35_0 : decode b_1_35 0 = .ok (.aload_n 1, 1) := by decide +kernel
theorem d1_35_1 : decode b_1_35 1 = .ok (.ifnull 17, 3) := by decide +kernel
theorem d1_35_4 : decode b_1_35 4 = .ok (.aload_n 2, 1) := by decide +kernel
theorem d1_35_5 : decode b_1_35 5 = .ok (.ifnull 13, 3) := by decide +kernel
theorem d1_35_8 : decode b_1_35 8 = .ok (.iload_n 3, 1) := by decide +kernel
theorem d1_35_9 : decode b_1_35 9 = .ok (.iconst 1, 1) := by decide +kernel
theorem d1_35_10 : decode b_1_35 10 = .ok (.if_icmp .lt 8, 3) := by decide +kernel
theorem d1_35_13 : decode b_1_35 13 = .ok (.iload_n 3, 1) := by decide +kernel
theorem d1_35_14 : decode b_1_35 14 = .ok (.iconst 4, 1) := by decide +kernel
theorem d1_35_15 : decode b_1_35 15 = .ok (.if_icmp .le 9, 3) := by decide +kernel
theorem d1_35_18 : decode b_1_35 18 = .ok (.aload_n 0, 1) := by decide +kernel
theorem d1_35_19 : decode b_1_35 19 = .ok (.iconst (-1), 1) := by decide +kernel
theorem d1_35_20 : decode b_1_35 20 = .ok (.invokevirtual 55, 3) := by decide +kernel
theorem d1_35_23 : decode b_1_35 23 = .ok (.ireturn, 1) := by decide +kernel
theorem d1_35_24 : decode b_1_35 24 = .ok (.aload_n 1, 1) := by decide +kernel
theorem d1_35_25 : decode b_1_35 25 = .ok (.invokevirtual 131, 3) := by decide +kernel
theorem d1_35_28 : decode b_1_35 28 = .ok (.ifCond .eq 10, 3) := by decide +kernel
theorem d1_35_31 : decode b_1_35 31 = .ok (.aload_n 0, 1) := by decide +kernel
theorem d1_35_32 : decode b_1_35 32 = .ok (.bipush (-4), 2) := by decide +kernel
theorem d1_35_34 : decode b_1_35 34 = .ok (.invokevirtual 55, 3) := by decide +kernel
theorem d1_35_37 : decode b_1_35 37 = .ok (.ireturn, 1) := by decide +kernel
theorem d1_35_38 : decode b_1_35 38 = .ok (.aload_n 0, 1) := by decide +kernel
theorem d1_35_39 : decode b_1_35 39 = .ok (.getfield 22, 3) := by decide +kernel
theorem d1_35_42 : decode b_1_35 42 = .ok (.aload_n 1, 1) := by decide +kernel
theorem d1_35_43 : decode b_1_35 43 = .ok (.aload_n 2, 1) := by decide +kernel
theorem d1_35_44 : decode b_1_35 44 = .ok (.invokevirtual 247, 3) := by decide +kernel
theorem d1_35_47 : decode b_1_35 47 = .ok (.istore 4, 2) := by decide +kernel
theorem d1_35_49 : decode b_1_35 49 = .ok (.iload 4, 2) := by decide +kernel
theorem d1_35_51 : decode b_1_35 51 = .ok (.ifCond .lt 10, 3) := by decide +kernel
theorem d1_35_54 : decode b_1_35 54 = .ok (.aload_n 0, 1) := by decide +kernel
theorem d1_35_55 : decode b_1_35 55 = .ok (.iload 4, 2) := by decide +kernel
theorem d1_35_57 : decode b_1_35 57 = .ok (.invokevirtual 141, 3) := by decide +kernel
theorem d1_35_60 : decode b_1_35 60 = .ok (.ireturn, 1) := by decide +kernel
theorem d1_35_61 : decode b_1_35 61 = .ok (.aload_n 0, 1) := by decide +kernel
theorem d1_35_62 : decode b_1_35 62 = .ok (.getfield 22, 3) := by decide +kernel
theorem d1_35_65 : decode b_1_35 65 = .ok (.aload_n 1, 1) := by decide +kernel
theorem d1_35_66 : decode b_1_35 66 = .ok (.invokevirtual 101, 3) := by decide +kernel
theorem d1_35_69 : decode b_1_35 69 = .ok (.iload_n 3, 1) := by decide +kernel
theorem d1_35_70 : decode b_1_35 70 = .ok (.invokevirtual 198, 3) := by decide +kernel
theorem d1_35_73 : decode b_1_35 73 = .ok (.aload_n 0, 1) := by decide +kernel
theorem d1_35_74 : decode b_1_35 74 = .ok (.getfield 22, 3) := by decide +kernel
theorem d1_35_77 : decode b_1_35 77 = .ok (.aload_n 1, 1) := by decide +kernel
theorem d1_35_78 : decode b_1_35 78 = .ok (.invokevirtual 251, 3) := by decide +kernel
theorem d1_35_81 : decode b_1_35 81 = .ok (.iload_n 3, 1) := by decide +kernel
theorem d1_35_82 : decode b_1_35 82 = .ok (.invokevirtual 254, 3) := by decide +kernel
theorem d1_35_85 : decode b_1_35 85 = .ok (.ireturn, 1) := by decide +kernel
theorem K1_35_20 {C : qCx} {G : jG} {mc ms : Nat} {p : Int → Int → jS → jH → Prop} {q : Int → Int → jS → jH → Int → jS → jH → Prop} (h : x1_35 C G) (hrm : C.2.2.2.1.frames = 5 ∧ C.2.2.2.1.locals = 121) (hM : M1_27 C.2.1 mc ms p q) : j_Call C b_1_35 n_KT G.1 G.2.1 5 (.invokevirtual 55) mc ms (fun a S V => ∃ u0 u1 : Int, a = [(2, u0), (0, u1)] ∧ S.1 u0 = 31 ∧ p u0 u1 S V) (fun a S V rs S' V' => ∃ u0 u1 r : Int, a = [(2, u0), (0, u1)] ∧ rs = [(0, r)] ∧ q u0 u1 S V r S' V') := j_callV n_NWk h.2.2.2.2.2 h.1 hM ⟨h.2.1.1, h.2.1.2, h.2.2.1, h.2.2.2.1, h.2.2.2.2.1⟩ ⟨n_CB (y := y_1_27) (bytes := b_1_27) 1 h.2.2.2.2.1 n_w309 n_w306 n_w1 ⟨by decide, by decide, by decide +kernel⟩ rfl rfl ⟨by rw [hrm.1]; exact Nat.le_of_ble_eq_true rfl, by rw [hrm.2]; exact Nat.le_of_ble_eq_true rfl⟩, h.2.2.2.2.1 _ n_w308, h.2.2.2.2.1 _ n_s1⟩ (Cn := RX10) (fun a S V hP => by obtain ⟨u0, u1, rfl, e, -⟩ := hP; exact ⟨u0, _, 10, _, _, TX10, 8, rfl, rfl, by rw [e]; decide, by rw [e]; rfl, rfl⟩)
theorem K1_35_25 {C : qCx} {G : jG} {mc ms : Nat} {p : Int → jS → jH → Prop} {q : Int → jS → jH → Int → jS → jH → Prop} (h : x1_35 C G) (hrm : C.2.2.2.1.frames = 5 ∧ C.2.2.2.1.locals = 121) (hM : M10_7 C.2.1 mc ms p q) : j_Call C b_1_35 n_KT G.1 G.2.1 5 (.invokevirtual 131) mc ms (fun a S V => ∃ u0 : Int, a = [(2, u0)] ∧ S.1 u0 = 29 ∧ p u0 S V) (fun a S V rs S' V' => ∃ u0 r : Int, a = [(2, u0)] ∧ rs = [(0, r)] ∧ q u0 S V r S' V') := j_callV n_NWk h.2.2.2.2.2 h.1 hM ⟨h.2.1.1, h.2.1.2, h.2.2.1, h.2.2.2.1, h.2.2.2.2.1⟩ ⟨n_CB (y := y_10_7) (bytes := b_10_7) 0 h.2.2.2.2.1 n_w464 n_w461 n_w7 ⟨by decide, by decide, by decide +kernel⟩ rfl rfl ⟨by rw [hrm.1]; exact Nat.le_of_ble_eq_true rfl, by rw [hrm.2]; exact Nat.le_of_ble_eq_true rfl⟩, h.2.2.2.2.1 _ n_w462, h.2.2.2.2.1 _ n_w463⟩ (Cn := RX8) (fun a S V hP => by obtain ⟨u0, rfl, e, -⟩ := hP; exact ⟨u0, _, 8, _, _, TX8, 3, rfl, rfl, by rw [e]; decide, by rw [e]; rfl, rfl⟩)
theorem K1_35_34 {C : qCx} {G : jG} {mc ms : Nat} {p : Int → Int → jS → jH → Prop} {q : Int → Int → jS → jH → Int → jS → jH → Prop} (h : x1_35 C G) (hrm : C.2.2.2.1.frames = 5 ∧ C.2.2.2.1.locals = 121) (hM : M1_27 C.2.1 mc ms p q) : j_Call C b_1_35 n_KT G.1 G.2.1 5 (.invokevirtual 55) mc ms (fun a S V => ∃ u0 u1 : Int, a = [(2, u0), (0, u1)] ∧ S.1 u0 = 31 ∧ p u0 u1 S V) (fun a S V rs S' V' => ∃ u0 u1 r : Int, a = [(2, u0), (0, u1)] ∧ rs = [(0, r)] ∧ q u0 u1 S V r S' V') := j_callV n_NWk h.2.2.2.2.2 h.1 hM ⟨h.2.1.1, h.2.1.2, h.2.2.1, h.2.2.2.1, h.2.2.2.2.1⟩ ⟨n_CB (y := y_1_27) (bytes := b_1_27) 1 h.2.2.2.2.1 n_w309 n_w306 n_w1 ⟨by decide, by decide, by decide +kernel⟩ rfl rfl ⟨by rw [hrm.1]; exact Nat.le_of_ble_eq_true rfl, by rw [hrm.2]; exact Nat.le_of_ble_eq_true rfl⟩, h.2.2.2.2.1 _ n_w308, h.2.2.2.2.1 _ n_s1⟩ (Cn := RX10) (fun a S V hP => by obtain ⟨u0, u1, rfl, e, -⟩ := hP; exact ⟨u0, _, 10, _, _, TX10, 8, rfl, rfl, by rw [e]; decide, by rw [e]; rfl, rfl⟩)
theorem K1_35_44 {C : qCx} {G : jG} {mc ms : Nat} {p : Int → Int → Int → jS → jH → Prop} {q : Int → Int → Int → jS → jH → Int → jS → jH → Prop} (h : x1_35 C G) (hrm : C.2.2.2.1.frames = 5 ∧ C.2.2.2.1.locals = 121) (hM : M2_2 C.2.1 mc ms p q) : j_Call C b_1_35 n_KT G.1 G.2.1 5 (.invokevirtual 247) mc ms (fun a S V => ∃ u0 u1 u2 : Int, a = [(2, u0), (2, u1), (2, u2)] ∧ S.1 u0 = 21 ∧ p u0 u1 u2 S V) (fun a S V rs S' V' => ∃ u0 u1 u2 r : Int, a = [(2, u0), (2, u1), (2, u2)] ∧ rs = [(0, r)] ∧ q u0 u1 u2 S V r S' V') := j_callV n_NWk h.2.2.2.2.2 h.1 hM ⟨h.2.1.1, h.2.1.2, h.2.2.1, h.2.2.2.1, h.2.2.2.2.1⟩ ⟨n_CB (y := y_2_2) (bytes := b_2_2) 2 h.2.2.2.2.1 n_w507 n_w504 n_w6 ⟨by decide, by decide, by decide +kernel⟩ rfl rfl ⟨by rw [hrm.1]; exact Nat.le_of_ble_eq_true rfl, by rw [hrm.2]; exact Nat.le_of_ble_eq_true rfl⟩, h.2.2.2.2.1 _ n_w505, h.2.2.2.2.1 _ n_w506⟩ (Cn := RX0) (fun a S V hP => by obtain ⟨u0, u1, u2, rfl, e, -⟩ := hP; exact ⟨u0, _, 0, _, _, TX0, 6, rfl, rfl, by rw [e]; decide, by rw [e]; rfl, rfl⟩)
theorem K1_35_57 {C : qCx} {G : jG} {mc ms : Nat} {p : Int → Int → jS → jH → Prop} {q : Int → Int → jS → jH → Int → jS → jH → Prop} (h : x1_35 C G) (hrm : C.2.2.2.1.frames = 5 ∧ C.2.2.2.1.locals = 121) (hM : M1_28 C.2.1 mc ms p q) : j_Call C b_1_35 n_KT G.1 G.2.1 5 (.invokevirtual 141) mc ms (fun a S V => ∃ u0 u1 : Int, a = [(2, u0), (0, u1)] ∧ S.1 u0 = 31 ∧ p u0 u1 S V) (fun a S V rs S' V' => ∃ u0 u1 r : Int, a = [(2, u0), (0, u1)] ∧ rs = [(0, r)] ∧ q u0 u1 S V r S' V') := j_callV n_NWk h.2.2.2.2.2 h.1 hM ⟨h.2.1.1, h.2.1.2, h.2.2.1, h.2.2.2.1, h.2.2.2.2.1⟩ ⟨n_CB (y := y_1_28) (bytes := b_1_28) 1 h.2.2.2.2.1 n_w477 n_w474 n_w1 ⟨by decide, by decide, by decide +kernel⟩ rfl rfl ⟨by rw [hrm.1]; exact Nat.le_of_ble_eq_true rfl, by rw [hrm.2]; exact Nat.le_of_ble_eq_true rfl⟩, h.2.2.2.2.1 _ n_w476, h.2.2.2.2.1 _ n_s10⟩ (Cn := RX10) (fun a S V hP => by obtain ⟨u0, u1, rfl, e, -⟩ := hP; exact ⟨u0, _, 10, _, _, TX10, 8, rfl, rfl, by rw [e]; decide, by rw [e]; rfl, rfl⟩)
theorem K1_35_66 {C : qCx} {G : jG} {mc ms : Nat} {p : Int → jS → jH → Prop} {q : Int → jS → jH → Int → jS → jH → Prop} (h : x1_35 C G) (hrm : C.2.2.2.1.frames = 5 ∧ C.2.2.2.1.locals = 121) (hM : M10_4 C.2.1 mc ms p q) : j_Call C b_1_35 n_KT G.1 G.2.1 5 (.invokevirtual 101) mc ms (fun a S V => ∃ u0 : Int, a = [(2, u0)] ∧ S.1 u0 = 29 ∧ p u0 S V) (fun a S V rs S' V' => ∃ u0 r : Int, a = [(2, u0)] ∧ rs = [(0, r)] ∧ q u0 S V r S' V') := j_callV n_NWk h.2.2.2.2.2 h.1 hM ⟨h.2.1.1, h.2.1.2, h.2.2.1, h.2.2.2.1, h.2.2.2.2.1⟩ ⟨n_CB (y := y_10_4) (bytes := b_10_4) 0 h.2.2.2.2.1 n_w348 n_w371 n_w7 ⟨by decide, by decide, by decide +kernel⟩ rfl rfl ⟨by rw [hrm.1]; exact Nat.le_of_ble_eq_true rfl, by rw [hrm.2]; exact Nat.le_of_ble_eq_true rfl⟩, h.2.2.2.2.1 _ n_w346, h.2.2.2.2.1 _ n_w347⟩ (Cn := RX8) (fun a S V hP => by obtain ⟨u0, rfl, e, -⟩ := hP; exact ⟨u0, _, 8, _, _, TX8, 3, rfl, rfl, by rw [e]; decide, by rw [e]; rfl, rfl⟩)
theorem K1_35_70 {C : qCx} {G : jG} {mc ms : Nat} {p : Int → Int → Int → jS → jH → Prop} {q : Int → Int → Int → jS → jH → jS → jH → Prop} (h : x1_35 C G) (hrm : C.2.2.2.1.frames = 5 ∧ C.2.2.2.1.locals = 121) (hM : M2_4 C.2.1 mc ms p q) : j_Call C b_1_35 n_KT G.1 G.2.1 5 (.invokevirtual 198) mc ms (fun a S V => ∃ u0 u1 u2 : Int, a = [(2, u0), (0, u1), (0, u2)] ∧ S.1 u0 = 21 ∧ p u0 u1 u2 S V) (fun a S V rs S' V' => ∃ u0 u1 u2 : Int, a = [(2, u0), (0, u1), (0, u2)] ∧ rs = [] ∧ q u0 u1 u2 S V S' V') := j_callV n_NWk h.2.2.2.2.2 h.1 hM ⟨h.2.1.1, h.2.1.2, h.2.2.1, h.2.2.2.1, h.2.2.2.2.1⟩ ⟨n_CB (y := y_2_4) (bytes := b_2_4) 2 h.2.2.2.2.1 n_w539 n_w536 n_w6 ⟨by decide, by decide, by decide +kernel⟩ rfl rfl ⟨by rw [hrm.1]; exact Nat.le_of_ble_eq_true rfl, by rw [hrm.2]; exact Nat.le_of_ble_eq_true rfl⟩, h.2.2.2.2.1 _ n_w537, h.2.2.2.2.1 _ n_w538⟩ (Cn := RX0) (fun a S V hP => by obtain ⟨u0, u1, u2, rfl, e, -⟩ := hP; exact ⟨u0, _, 0, _, _, TX0, 6, rfl, rfl, by rw [e]; decide, by rw [e]; rfl, rfl⟩)
theorem K1_35_78 {C : qCx} {G : jG} {mc ms : Nat} {p : Int → jS → jH → Prop} {q : Int → jS → jH → Int → jS → jH → Prop} (h : x1_35 C G) (hrm : C.2.2.2.1.frames = 5 ∧ C.2.2.2.1.locals = 121) (hM : M10_11 C.2.1 mc ms p q) : j_Call C b_1_35 n_KT G.1 G.2.1 5 (.invokevirtual 251) mc ms (fun a S V => ∃ u0 : Int, a = [(2, u0)] ∧ S.1 u0 = 29 ∧ p u0 S V) (fun a S V rs S' V' => ∃ u0 r : Int, a = [(2, u0)] ∧ rs = [(0, r)] ∧ q u0 S V r S' V') := j_callV n_NWk h.2.2.2.2.2 h.1 hM ⟨h.2.1.1, h.2.1.2, h.2.2.1, h.2.2.2.1, h.2.2.2.2.1⟩ ⟨n_CB (y := y_10_11) (bytes := b_10_11) 0 h.2.2.2.2.1 n_w548 n_w545 n_w7 ⟨by decide, by decide, by decide +kernel⟩ rfl rfl ⟨by rw [hrm.1]; exact Nat.le_of_ble_eq_true rfl, by rw [hrm.2]; exact Nat.le_of_ble_eq_true rfl⟩, h.2.2.2.2.1 _ n_w546, h.2.2.2.2.1 _ n_w547⟩ (Cn := RX8) (fun a S V hP => by obtain ⟨u0, rfl, e, -⟩ := hP; exact ⟨u0, _, 8, _, _, TX8, 3, rfl, rfl, by rw [e]; decide, by rw [e]; rfl, rfl⟩)
theorem K1_35_82 {C : qCx} {G : jG} {mc ms : Nat} {p : Int → Int → Int → jS → jH → Prop} {q : Int → Int → Int → jS → jH → Int → jS → jH → Prop} (h : x1_35 C G) (hrm : C.2.2.2.1.frames = 5 ∧ C.2.2.2.1.locals = 121) (hM : M2_6 C.2.1 mc ms p q) : j_Call C b_1_35 n_KT G.1 G.2.1 5 (.invokevirtual 254) mc ms (fun a S V => ∃ u0 u1 u2 : Int, a = [(2, u0), (0, u1), (0, u2)] ∧ S.1 u0 = 21 ∧ p u0 u1 u2 S V) (fun a S V rs S' V' => ∃ u0 u1 u2 r : Int, a = [(2, u0), (0, u1), (0, u2)] ∧ rs = [(0, r)] ∧ q u0 u1 u2 S V r S' V') := j_callV n_NWk h.2.2.2.2.2 h.1 hM ⟨h.2.1.1, h.2.1.2, h.2.2.1, h.2.2.2.1, h.2.2.2.2.1⟩ ⟨n_CB (y := y_2_6) (bytes := b_2_6) 2 h.2.2.2.2.1 n_w560 n_w557 n_w6 ⟨by decide, by decide, by decide +kernel⟩ rfl rfl ⟨by rw [hrm.1]; exact Nat.le_of_ble_eq_true rfl, by rw [hrm.2]; exact Nat.le_of_ble_eq_true rfl⟩, h.2.2.2.2.1 _ n_w558, h.2.2.2.2.1 _ n_w559⟩ (Cn := RX0) (fun a S V hP => by obtain ⟨u0, u1, u2, rfl, e, -⟩ := hP; exact ⟨u0, _, 0, _, _, TX0, 6, rfl, rfl, by rw [e]; decide, by rw [e]; rfl, rfl⟩)
theorem t1_35_0 {C : qCx} {G : jG} {S : jS} {V : jH} {nc ns : Nat} {l0 l1 l2 l3 : Int} (h : x1_35 C G)  (k : l1 = -1 → j_ok n_KT 5 C G 18 [(0, (2, l0))] [] S V nc ns) (k' : 0 ≤ l1 → S.1 l1 ≠ 0 → j_ok n_KT 5 C G 4 [(0, (2, l0)), (1, (2, l1)), (2, (2, l2)), (3, (0, l3))] [] S V nc ns) : j_ok n_KT 5 C G 0 [(0, (2, l0)), (1, (2, l1)), (2, (2, l2)), (3, (0, l3))] [] S V nc ns := by
  have E := n_E h
  refine j_aload_n E d1_35_0 rfl 1 rfl ?_
  exact j_ifnull E d1_35_1 (t := 18) rfl (fun q => j_pick [0] rfl (k q)) (fun q q2 => j_pick [0, 1, 2, 3] rfl (k' q q2))
theorem t1_35_4 {C : qCx} {G : jG} {S : jS} {V : jH} {nc ns : Nat} {l0 l1 l2 l3 : Int} (h : x1_35 C G)  (k : l2 = -1 → j_ok n_KT 5 C G 18 [(0, (2, l0))] [] S V nc ns) (k' : 0 ≤ l2 → S.1 l2 ≠ 0 → j_ok n_KT 5 C G 8 [(0, (2, l0)), (1, (2, l1)), (2, (2, l2)), (3, (0, l3))] [] S V nc ns) : j_ok n_KT 5 C G 4 [(0, (2, l0)), (1, (2, l1)), (2, (2, l2)), (3, (0, l3))] [] S V nc ns := by
  have E := n_E h
  refine j_aload_n E d1_35_4 rfl 2 rfl ?_
  exact j_ifnull E d1_35_5 (t := 18) rfl (fun q => j_pick [0] rfl (k q)) (fun q q2 => j_pick [0, 1, 2, 3] rfl (k' q q2))
theorem t1_35_8 {C : qCx} {G : jG} {S : jS} {V : jH} {nc ns : Nat} {l0 l1 l2 l3 : Int} (h : x1_35 C G)  (k : l3 < 1 → j_ok n_KT 5 C G 18 [(0, (2, l0))] [] S V nc ns) (k' : 1 ≤ l3 → j_ok n_KT 5 C G 13 [(0, (2, l0)), (1, (2, l1)), (2, (2, l2)), (3, (0, l3))] [] S V nc ns) : j_ok n_KT 5 C G 8 [(0, (2, l0)), (1, (2, l1)), (2, (2, l2)), (3, (0, l3))] [] S V nc ns := by
  have E := n_E h
  refine j_iload_n E d1_35_8 rfl 3 rfl ?_
  refine j_iconst E d1_35_9 (by decide) ?_
  exact j_icmp_lt E d1_35_10 (t := 18) rfl (fun q => j_pick [0] rfl (k q)) (fun q => j_pick [0, 1, 2, 3] rfl (k' q))
theorem t1_35_13 {C : qCx} {G : jG} {S : jS} {V : jH} {nc ns : Nat} {l0 l1 l2 l3 : Int} (h : x1_35 C G)  (k : l3 ≤ 4 → j_ok n_KT 5 C G 24 [(0, (2, l0)), (1, (2, l1)), (2, (2, l2)), (3, (0, l3))] [] S V nc ns) (k' : 4 < l3 → j_ok n_KT 5 C G 18 [(0, (2, l0))] [] S V nc ns) : j_ok n_KT 5 C G 13 [(0, (2, l0)), (1, (2, l1)), (2, (2, l2)), (3, (0, l3))] [] S V nc ns := by
  have E := n_E h
  refine j_iload_n E d1_35_13 rfl 3 rfl ?_
  refine j_iconst E d1_35_14 (by decide) ?_
  exact j_icmp_le E d1_35_15 (t := 24) rfl (fun q => j_pick [0, 1, 2, 3] rfl (k q)) (fun q => j_pick [0] rfl (k' q))
theorem t1_35_18 {C : qCx} {G : jG} {S : jS} {V : jH} {nc ns : Nat} {l0 : Int} {mc ms : Nat} {pp : Int → Int → jS → jH → Prop} {qq : Int → Int → jS → jH → Int → jS → jH → Prop} (h : x1_35 C G) (hrm : C.2.2.2.1.frames = 5 ∧ C.2.2.2.1.locals = 121) (c1 : S.1 l0 = 31) (hM : M1_27 C.2.1 mc ms pp qq) (hp : pp l0 ((-1)) S V) (hc : nc + mc ≤ C.2.2.2.1.cells) (hs : ns + ms ≤ C.2.2.2.1.slots) (k : ∀ (r : Int) (S' : jS) (V' : jH), qq l0 ((-1)) S V r S' V' → j_ok n_KT 5 C G 23 [] [(0, r)] S' V' (nc + mc) (ns + ms)) : j_ok n_KT 5 C G 18 [(0, (2, l0))] [] S V nc ns := by
  have E := n_E h
  refine j_aload_n E d1_35_18 rfl 0 rfl ?_
  refine j_iconst E d1_35_19 (by decide) ?_
  refine j_call E (K1_35_20 h hrm hM) d1_35_20 (a := [(2, l0), (0, (-1))]) (sk := []) rfl ⟨l0, (-1), rfl, c1, hp⟩ (Nat.le_of_ble_eq_true rfl) hc hs ?_
  rintro rs S' V' ⟨z0, z1, r, e1, rfl, q⟩
  simp only [List.cons.injEq, Prod.mk.injEq, and_true, true_and] at e1
  obtain ⟨rfl, rfl⟩ := e1
  exact j_pick [] rfl (k r S' V' q)
theorem t1_35_23 {C : qCx} {G : jG} {S : jS} {V : jH} {nc ns : Nat} {s0 : Int} {mc ms : Nat} {qf : Int → jS → jH → Prop} (h : x1_35 C G)  (R : j_Ri n_KT 5 C G b_1_35 mc ms qf) (q : qf s0 S V) (hc : nc ≤ mc) (hs : ns ≤ ms) : j_ok n_KT 5 C G 23 [] [(0, s0)] S V nc ns := by
  have E := n_E h
  exact R _ _ _ _ _ _ _ d1_35_23 q hc hs
theorem t1_35_24 {C : qCx} {G : jG} {S : jS} {V : jH} {nc ns : Nat} {l0 l1 l2 l3 : Int} {mc ms : Nat} {pp : Int → jS → jH → Prop} {qq : Int → jS → jH → Int → jS → jH → Prop} (h : x1_35 C G) (hrm : C.2.2.2.1.frames = 5 ∧ C.2.2.2.1.locals = 121) (c1 : S.1 l1 = 29) (hM : M10_7 C.2.1 mc ms pp qq) (hp : pp l1 S V) (hc : nc + mc ≤ C.2.2.2.1.cells) (hs : ns + ms ≤ C.2.2.2.1.slots) (k : ∀ (r : Int) (S' : jS) (V' : jH), qq l1 S V r S' V' → j_ok n_KT 5 C G 28 [(0, (2, l0)), (1, (2, l1)), (2, (2, l2)), (3, (0, l3))] [(0, r)] S' V' (nc + mc) (ns + ms)) : j_ok n_KT 5 C G 24 [(0, (2, l0)), (1, (2, l1)), (2, (2, l2)), (3, (0, l3))] [] S V nc ns := by
  have E := n_E h
  refine j_aload_n E d1_35_24 rfl 1 rfl ?_
  refine j_call E (K1_35_25 h hrm hM) d1_35_25 (a := [(2, l1)]) (sk := []) rfl ⟨l1, rfl, c1, hp⟩ (Nat.le_of_ble_eq_true rfl) hc hs ?_
  rintro rs S' V' ⟨z0, r, e1, rfl, q⟩
  simp only [List.cons.injEq, Prod.mk.injEq, and_true, true_and] at e1
  obtain ⟨rfl⟩ := e1
  exact j_pick [0, 1, 2, 3] rfl (k r S' V' q)
theorem t1_35_28 {C : qCx} {G : jG} {S : jS} {V : jH} {nc ns : Nat} {l0 l1 l2 l3 s0 : Int} (h : x1_35 C G)  (k : s0 = 0 → j_ok n_KT 5 C G 38 [(0, (2, l0)), (1, (2, l1)), (2, (2, l2)), (3, (0, l3))] [] S V nc ns) (k' : ¬ s0 = 0 → j_ok n_KT 5 C G 31 [(0, (2, l0))] [] S V nc ns) : j_ok n_KT 5 C G 28 [(0, (2, l0)), (1, (2, l1)), (2, (2, l2)), (3, (0, l3))] [(0, s0)] S V nc ns := by
  have E := n_E h
  exact j_if_eq E d1_35_28 (t := 38) rfl (fun q => j_pick [0, 1, 2, 3] rfl (k q)) (fun q => j_pick [0] rfl (k' q))
theorem t1_35_31 {C : qCx} {G : jG} {S : jS} {V : jH} {nc ns : Nat} {l0 : Int} {mc ms : Nat} {pp : Int → Int → jS → jH → Prop} {qq : Int → Int → jS → jH → Int → jS → jH → Prop} (h : x1_35 C G) (hrm : C.2.2.2.1.frames = 5 ∧ C.2.2.2.1.locals = 121) (c1 : S.1 l0 = 31) (hM : M1_27 C.2.1 mc ms pp qq) (hp : pp l0 ((-4)) S V) (hc : nc + mc ≤ C.2.2.2.1.cells) (hs : ns + ms ≤ C.2.2.2.1.slots) (k : ∀ (r : Int) (S' : jS) (V' : jH), qq l0 ((-4)) S V r S' V' → j_ok n_KT 5 C G 37 [] [(0, r)] S' V' (nc + mc) (ns + ms)) : j_ok n_KT 5 C G 31 [(0, (2, l0))] [] S V nc ns := by
  have E := n_E h
  refine j_aload_n E d1_35_31 rfl 0 rfl ?_
  refine j_bipush E d1_35_32 (by decide) ?_
  refine j_call E (K1_35_34 h hrm hM) d1_35_34 (a := [(2, l0), (0, (-4))]) (sk := []) rfl ⟨l0, (-4), rfl, c1, hp⟩ (Nat.le_of_ble_eq_true rfl) hc hs ?_
  rintro rs S' V' ⟨z0, z1, r, e1, rfl, q⟩
  simp only [List.cons.injEq, Prod.mk.injEq, and_true, true_and] at e1
  obtain ⟨rfl, rfl⟩ := e1
  exact j_pick [] rfl (k r S' V' q)
theorem t1_35_37 {C : qCx} {G : jG} {S : jS} {V : jH} {nc ns : Nat} {s0 : Int} {mc ms : Nat} {qf : Int → jS → jH → Prop} (h : x1_35 C G)  (R : j_Ri n_KT 5 C G b_1_35 mc ms qf) (q : qf s0 S V) (hc : nc ≤ mc) (hs : ns ≤ ms) : j_ok n_KT 5 C G 37 [] [(0, s0)] S V nc ns := by
  have E := n_E h
  exact R _ _ _ _ _ _ _ d1_35_37 q hc hs
theorem t1_35_38 {C : qCx} {G : jG} {S : jS} {V : jH} {nc ns : Nat} {l0 l1 l2 l3 : Int} {mc ms : Nat} {pp : Int → Int → Int → jS → jH → Prop} {qq : Int → Int → Int → jS → jH → Int → jS → jH → Prop} (h : x1_35 C G) (L : j_L S) (hrm : C.2.2.2.1.frames = 5 ∧ C.2.2.2.1.locals = 121) (c1 : S.1 l0 = 31) (hM : M2_2 C.2.1 mc ms pp qq) (hp : pp (l0 + 200) l1 l2 S V) (hc : nc + mc ≤ C.2.2.2.1.cells) (hs : ns + ms ≤ C.2.2.2.1.slots) (k : ∀ (r : Int) (S' : jS) (V' : jH), qq (l0 + 200) l1 l2 S V r S' V' → j_ok n_KT 5 C G 47 [(0, (2, l0)), (1, (2, l1)), (3, (0, l3))] [(0, r)] S' V' (nc + mc) (ns + ms)) : j_ok n_KT 5 C G 38 [(0, (2, l0)), (1, (2, l1)), (2, (2, l2)), (3, (0, l3))] [] S V nc ns := by
  have E := n_E h
  refine j_aload_n E d1_35_38 rfl 0 rfl ?_
  refine j_getS (f := 2) (x := l0 + 200) (fg10_22 h) d1_35_39 c1 (by decide) rfl rfl ((L10_2 L c1).trans (by omega)) ?_
  refine j_aload_n E d1_35_42 rfl 1 rfl ?_
  refine j_aload_n E d1_35_43 rfl 2 rfl ?_
  refine j_call E (K1_35_44 h hrm hM) d1_35_44 (a := [(2, l0 + 200), (2, l1), (2, l2)]) (sk := []) rfl ⟨l0 + 200, l1, l2, rfl, (show S.1 (l0 + 200) = 21 from (by have q := L10_2k L c1; rw [show l0 + 200 = l0 + 200 by omega]; exact q)), hp⟩ (Nat.le_of_ble_eq_true rfl) hc hs ?_
  rintro rs S' V' ⟨z0, z1, z2, r, e1, rfl, q⟩
  simp only [List.cons.injEq, Prod.mk.injEq, and_true, true_and] at e1
  obtain ⟨rfl, rfl, rfl⟩ := e1
  exact j_pick [0, 1, 3] rfl (k r S' V' q)
theorem t1_35_47 {C : qCx} {G : jG} {S : jS} {V : jH} {nc ns : Nat} {l0 l1 l3 s0 : Int} (h : x1_35 C G)  (k : s0 < 0 → j_ok n_KT 5 C G 61 [(0, (2, l0)), (1, (2, l1)), (3, (0, l3))] [] S V nc ns) (k' : 0 ≤ s0 → j_ok n_KT 5 C G 54 [(0, (2, l0)), (4, (0, s0))] [] S V nc ns) : j_ok n_KT 5 C G 47 [(0, (2, l0)), (1, (2, l1)), (3, (0, l3))] [(0, s0)] S V nc ns := by
  have E := n_E h
  refine j_istore E d1_35_47 (by decide) (lo1 := [(0, (2, l0)), (1, (2, l1)), (3, (0, l3))]) rfl ?_
  refine j_iload E d1_35_49 0 rfl ?_
  exact j_if_lt E d1_35_51 (t := 61) rfl (fun q => j_pick [1, 2, 3] rfl (k q)) (fun q => j_pick [1, 0] rfl (k' q))
theorem t1_35_54 {C : qCx} {G : jG} {S : jS} {V : jH} {nc ns : Nat} {l0 l4 : Int} {mc ms : Nat} {pp : Int → Int → jS → jH → Prop} {qq : Int → Int → jS → jH → Int → jS → jH → Prop} (h : x1_35 C G) (hrm : C.2.2.2.1.frames = 5 ∧ C.2.2.2.1.locals = 121) (c1 : S.1 l0 = 31) (hM : M1_28 C.2.1 mc ms pp qq) (hp : pp l0 l4 S V) (hc : nc + mc ≤ C.2.2.2.1.cells) (hs : ns + ms ≤ C.2.2.2.1.slots) (k : ∀ (r : Int) (S' : jS) (V' : jH), qq l0 l4 S V r S' V' → j_ok n_KT 5 C G 60 [] [(0, r)] S' V' (nc + mc) (ns + ms)) : j_ok n_KT 5 C G 54 [(0, (2, l0)), (4, (0, l4))] [] S V nc ns := by
  have E := n_E h
  refine j_aload_n E d1_35_54 rfl 0 rfl ?_
  refine j_iload E d1_35_55 1 rfl ?_
  refine j_call E (K1_35_57 h hrm hM) d1_35_57 (a := [(2, l0), (0, l4)]) (sk := []) rfl ⟨l0, l4, rfl, c1, hp⟩ (Nat.le_of_ble_eq_true rfl) hc hs ?_
  rintro rs S' V' ⟨z0, z1, r, e1, rfl, q⟩
  simp only [List.cons.injEq, Prod.mk.injEq, and_true, true_and] at e1
  obtain ⟨rfl, rfl⟩ := e1
  exact j_pick [] rfl (k r S' V' q)
theorem t1_35_60 {C : qCx} {G : jG} {S : jS} {V : jH} {nc ns : Nat} {s0 : Int} {mc ms : Nat} {qf : Int → jS → jH → Prop} (h : x1_35 C G)  (R : j_Ri n_KT 5 C G b_1_35 mc ms qf) (q : qf s0 S V) (hc : nc ≤ mc) (hs : ns ≤ ms) : j_ok n_KT 5 C G 60 [] [(0, s0)] S V nc ns := by
  have E := n_E h
  exact R _ _ _ _ _ _ _ d1_35_60 q hc hs
theorem t1_35_61 {C : qCx} {G : jG} {S : jS} {V : jH} {nc ns : Nat} {l0 l1 l3 : Int} {mc ms : Nat} {pp : Int → jS → jH → Prop} {qq : Int → jS → jH → Int → jS → jH → Prop} (h : x1_35 C G) (L : j_L S) (hrm : C.2.2.2.1.frames = 5 ∧ C.2.2.2.1.locals = 121) (c1 : S.1 l0 = 31) (c2 : S.1 l1 = 29) (hM : M10_4 C.2.1 mc ms pp qq) (hp : pp l1 S V) (hc : nc + mc ≤ C.2.2.2.1.cells) (hs : ns + ms ≤ C.2.2.2.1.slots) (k : ∀ (r : Int) (S' : jS) (V' : jH), qq l1 S V r S' V' → j_ok n_KT 5 C G 69 [(0, (2, l0)), (1, (2, l1)), (3, (0, l3))] [(0, r), (2, l0 + 200)] S' V' (nc + mc) (ns + ms)) : j_ok n_KT 5 C G 61 [(0, (2, l0)), (1, (2, l1)), (3, (0, l3))] [] S V nc ns := by
  have E := n_E h
  refine j_aload_n E d1_35_61 rfl 0 rfl ?_
  refine j_getS (f := 2) (x := l0 + 200) (fg10_22 h) d1_35_62 c1 (by decide) rfl rfl ((L10_2 L c1).trans (by omega)) ?_
  refine j_aload_n E d1_35_65 rfl 1 rfl ?_
  refine j_call E (K1_35_66 h hrm hM) d1_35_66 (a := [(2, l1)]) (sk := [(2, l0 + 200)]) rfl ⟨l1, rfl, c2, hp⟩ (Nat.le_of_ble_eq_true rfl) hc hs ?_
  rintro rs S' V' ⟨z0, r, e1, rfl, q⟩
  simp only [List.cons.injEq, Prod.mk.injEq, and_true, true_and] at e1
  obtain ⟨rfl⟩ := e1
  exact j_pick [0, 1, 2] rfl (k r S' V' q)
theorem t1_35_69 {C : qCx} {G : jG} {S : jS} {V : jH} {nc ns : Nat} {l0 l1 l3 s0 s1 : Int} {mc ms : Nat} {pp : Int → Int → Int → jS → jH → Prop} {qq : Int → Int → Int → jS → jH → jS → jH → Prop} (h : x1_35 C G) (hrm : C.2.2.2.1.frames = 5 ∧ C.2.2.2.1.locals = 121) (c1 : S.1 s1 = 21) (hM : M2_4 C.2.1 mc ms pp qq) (hp : pp s1 s0 l3 S V) (hc : nc + mc ≤ C.2.2.2.1.cells) (hs : ns + ms ≤ C.2.2.2.1.slots) (k : ∀ (S' : jS) (V' : jH), qq s1 s0 l3 S V S' V' → j_ok n_KT 5 C G 73 [(0, (2, l0)), (1, (2, l1)), (3, (0, l3))] [] S' V' (nc + mc) (ns + ms)) : j_ok n_KT 5 C G 69 [(0, (2, l0)), (1, (2, l1)), (3, (0, l3))] [(0, s0), (2, s1)] S V nc ns := by
  have E := n_E h
  refine j_iload_n E d1_35_69 rfl 2 rfl ?_
  refine j_call E (K1_35_70 h hrm hM) d1_35_70 (a := [(2, s1), (0, s0), (0, l3)]) (sk := []) rfl ⟨s1, s0, l3, rfl, c1, hp⟩ (Nat.le_of_ble_eq_true rfl) hc hs ?_
  rintro rs S' V' ⟨z0, z1, z2, e1, rfl, q⟩
  simp only [List.cons.injEq, Prod.mk.injEq, and_true, true_and] at e1
  obtain ⟨rfl, rfl, rfl⟩ := e1
  exact j_pick [0, 1, 2] rfl (k S' V' q)
theorem t1_35_73 {C : qCx} {G : jG} {S : jS} {V : jH} {nc ns : Nat} {l0 l1 l3 : Int} {mc ms : Nat} {pp : Int → jS → jH → Prop} {qq : Int → jS → jH → Int → jS → jH → Prop} (h : x1_35 C G) (L : j_L S) (hrm : C.2.2.2.1.frames = 5 ∧ C.2.2.2.1.locals = 121) (c1 : S.1 l0 = 31) (c2 : S.1 l1 = 29) (hM : M10_11 C.2.1 mc ms pp qq) (hp : pp l1 S V) (hc : nc + mc ≤ C.2.2.2.1.cells) (hs : ns + ms ≤ C.2.2.2.1.slots) (k : ∀ (r : Int) (S' : jS) (V' : jH), qq l1 S V r S' V' → j_ok n_KT 5 C G 81 [(3, (0, l3))] [(0, r), (2, l0 + 200)] S' V' (nc + mc) (ns + ms)) : j_ok n_KT 5 C G 73 [(0, (2, l0)), (1, (2, l1)), (3, (0, l3))] [] S V nc ns := by
  have E := n_E h
  refine j_aload_n E d1_35_73 rfl 0 rfl ?_
  refine j_getS (f := 2) (x := l0 + 200) (fg10_22 h) d1_35_74 c1 (by decide) rfl rfl ((L10_2 L c1).trans (by omega)) ?_
  refine j_aload_n E d1_35_77 rfl 1 rfl ?_
  refine j_call E (K1_35_78 h hrm hM) d1_35_78 (a := [(2, l1)]) (sk := [(2, l0 + 200)]) rfl ⟨l1, rfl, c2, hp⟩ (Nat.le_of_ble_eq_true rfl) hc hs ?_
  rintro rs S' V' ⟨z0, r, e1, rfl, q⟩
  simp only [List.cons.injEq, Prod.mk.injEq, and_true, true_and] at e1
  obtain ⟨rfl⟩ := e1
  exact j_pick [2] rfl (k r S' V' q)
theorem t1_35_81 {C : qCx} {G : jG} {S : jS} {V : jH} {nc ns : Nat} {l3 s0 s1 : Int} {mc ms : Nat} {pp : Int → Int → Int → jS → jH → Prop} {qq : Int → Int → Int → jS → jH → Int → jS → jH → Prop} (h : x1_35 C G) (hrm : C.2.2.2.1.frames = 5 ∧ C.2.2.2.1.locals = 121) (c1 : S.1 s1 = 21) (hM : M2_6 C.2.1 mc ms pp qq) (hp : pp s1 s0 l3 S V) (hc : nc + mc ≤ C.2.2.2.1.cells) (hs : ns + ms ≤ C.2.2.2.1.slots) (k : ∀ (r : Int) (S' : jS) (V' : jH), qq s1 s0 l3 S V r S' V' → j_ok n_KT 5 C G 85 [] [(0, r)] S' V' (nc + mc) (ns + ms)) : j_ok n_KT 5 C G 81 [(3, (0, l3))] [(0, s0), (2, s1)] S V nc ns := by
  have E := n_E h
  refine j_iload_n E d1_35_81 rfl 0 rfl ?_
  refine j_call E (K1_35_82 h hrm hM) d1_35_82 (a := [(2, s1), (0, s0), (0, l3)]) (sk := []) rfl ⟨s1, s0, l3, rfl, c1, hp⟩ (Nat.le_of_ble_eq_true rfl) hc hs ?_
  rintro rs S' V' ⟨z0, z1, z2, r, e1, rfl, q⟩
  simp only [List.cons.injEq, Prod.mk.injEq, and_true, true_and] at e1
  obtain ⟨rfl, rfl, rfl⟩ := e1
  exact j_pick [] rfl (k r S' V' q)
theorem t1_35_85 {C : qCx} {G : jG} {S : jS} {V : jH} {nc ns : Nat} {s0 : Int} {mc ms : Nat} {qf : Int → jS → jH → Prop} (h : x1_35 C G)  (R : j_Ri n_KT 5 C G b_1_35 mc ms qf) (q : qf s0 S V) (hc : nc ≤ mc) (hs : ns ≤ ms) : j_ok n_KT 5 C G 85 [] [(0, s0)] S V nc ns := by
  have E := n_E h
  exact R _ _ _ _ _ _ _ d1_35_85 q hc hs
/- BalanceCoder$Block.append(II)V -/
abbrev b_3_6 : ByteArray := prog_3_method_6_code
def y_3_6 : MethodName := ⟨"BalanceCoder$Block", "append", "(II)V"⟩
abbrev x3_6 (C : qCx) (G : jG) : Prop := n_ctx C b_3_6 4 "BalanceCoder$Block" G.1 G.2.1
def M3_6 (l : Launch) (mc ms : Nat) (p : Int → Int → Int → jS → jH → Prop) (q : Int → Int → Int → jS → jH → jS → jH → Prop) : Prop := j_Met l vwCl n_TL n_NW n_KT y_3_6 (Cond.code y_3_6 b_3_6 4 none :: n_GW) { frames := 1, cells := mc, slots := ms, locals := 26 } mc ms (fun a S V => ∃ u0 u1 u2 : Int, a = [(2, u0), (0, u1), (0, u2)] ∧ S.1 u0 = 22 ∧ p u0 u1 u2 S V) (fun a S V rs S' V' => ∃ u0 u1 u2 : Int, a = [(2, u0), (0, u1), (0, u2)] ∧ rs = [] ∧ q u0 u1 u2 S V S' V')
theorem e3_6 {l : Launch} {mc ms : Nat} {p : Int → Int → Int → jS → jH → Prop} {q : Int → Int → Int → jS → jH → jS → jH → Prop} (body : ∀ (C : qCx) (G : jG), x3_6 C G → C.2.2.2.1.frames = 1 ∧ C.2.2.2.1.locals = 26 → C.2.2.2.1.cells = mc ∧ C.2.2.2.1.slots = ms → C.2.1 = l → C.2.2.2.2.2.2.2.2.1.name = "append" → ∀ (u0 u1 u2 : Int) (S : jS) (V : jH), S.1 u0 = 22 → p u0 u1 u2 S V → j_Rv n_KT 4 C G b_3_6 mc ms (q u0 u1 u2 S V) → j_ok n_KT 4 C G 0 [(0, (2, u0)), (1, (0, u1)), (2, (0, u2))] [] S V 0 0) : M3_6 l mc ms p q := by
  refine j_method (ws' := n_GW) (by decide) rfl ?_ ?_
  · rintro a S V ⟨u0, u1, u2, rfl, -⟩
    exact Nat.le_of_ble_eq_true rfl
  · rintro C G htl hl hrm hm hml ho hts hnm hE a S V ⟨u0, u1, u2, rfl, ht, hp⟩ R
    exact body C G ⟨htl, hm, hml, ho, fun w hw => hts w (List.mem_cons_of_mem _ hw), hE⟩ (by rw [hrm]; exact ⟨rfl, rfl⟩) (by rw [hrm]; exact ⟨rfl, rfl⟩) hl hnm u0 u1 u2 S V ht hp (fun pc lo S' V' nc ns d q hc hs => R.1 rfl pc lo S' V' nc ns d ⟨u0, u1, u2, rfl, rfl, q⟩ hc hs)
theorem d3_6_0 : decode b_3_6 0 = .ok (.iload_n 2, 1) := by decide +kernel
theorem d3_6_1 : decode b_3_6 1 = .ok (.iconst 1, 1) := by decide +kernel
theorem d3_6_2 : decode b_3_6 2 = .ok (.isub, 1) := by decide +kernel
theorem d3_6_3 : decode b_3_6 3 = .ok (.istore_n 3, 1) := by decide +kernel
theorem d3_6_4 : decode b_3_6 4 = .ok (.iload_n 3, 1) := by decide +kernel
theorem d3_6_5 : decode b_3_6 5 = .ok (.ifCond .lt 48, 3) := by decide +kernel
theorem d3_6_8 : decode b_3_6 8 = .ok (.aload_n 0, 1) := by decide +kernel
theorem d3_6_9 : decode b_3_6 9 = .ok (.getfield 15, 3) := by decide +kernel
theorem d3_6_12 : decode b_3_6 12 = .ok (.sipush 4400, 3) := by decide +kernel
theorem d3_6_15 : decode b_3_6 15 = .ok (.if_icmp .ge 38, 3) := by decide +kernel
theorem d3_6_18 : decode b_3_6 18 = .ok (.aload_n 0, 1) := by decide +kernel
theorem d3_6_19 : decode b_3_6 19 = .ok (.getfield 9, 3) := by decide +kernel
theorem d3_6_22 : decode b_3_6 22 = .ok (.aload_n 0, 1) := by decide +kernel
theorem d3_6_23 : decode b_3_6 23 = .ok (.getfield 15, 3) := by decide +kernel
theorem d3_6_26 : decode b_3_6 26 = .ok (.iload_n 1, 1) := by decide +kernel
theorem d3_6_27 : decode b_3_6 27 = .ok (.bipush 8, 2) := by decide +kernel
theorem d3_6_29 : decode b_3_6 29 = .ok (.iload_n 3, 1) := by decide +kernel
theorem d3_6_30 : decode b_3_6 30 = .ok (.imul, 1) := by decide +kernel
theorem d3_6_31 : decode b_3_6 31 = .ok (.iushr, 1) := by decide +kernel
theorem d3_6_32 : decode b_3_6 32 = .ok (.sipush 255, 3) := by decide +kernel
theorem d3_6_35 : decode b_3_6 35 = .ok (.iand, 1) := by decide +kernel
theorem d3_6_36 : decode b_3_6 36 = .ok (.iastore, 1) := by decide +kernel
theorem d3_6_37 : decode b_3_6 37 = .ok (.aload_n 0, 1) := by decide +kernel
theorem d3_6_38 : decode b_3_6 38 = .ok (.dup, 1) := by decide +kernel
theorem d3_6_39 : decode b_3_6 39 = .ok (.getfield 15, 3) := by decide +kernel
theorem d3_6_42 : decode b_3_6 42 = .ok (.iconst 1, 1) := by decide +kernel
theorem d3_6_43 : decode b_3_6 43 = .ok (.iadd, 1) := by decide +kernel
theorem d3_6_44 : decode b_3_6 44 = .ok (.putfield 15, 3) := by decide +kernel
theorem d3_6_47 : decode b_3_6 47 = .ok (.iinc 3 (-1), 3) := by decide +kernel
theorem d3_6_50 : decode b_3_6 50 = .ok (.goto (-46), 3) := by decide +kernel
theorem d3_6_53 : decode b_3_6 53 = .ok (.return_, 1) := by decide +kernel
theorem t3_6_0 {C : qCx} {G : jG} {S : jS} {V : jH} {nc ns : Nat} {l0 l1 l2 : Int} (h : x3_6 C G) (c1 : -2147483648 ≤ l2 - 1 ∧ l2 - 1 ≤ 2147483647) (k : j_ok n_KT 4 C G 4 [(0, (2, l0)), (1, (0, l1)), (3, (0, l2 - 1))] [] S V nc ns) : j_ok n_KT 4 C G 0 [(0, (2, l0)), (1, (0, l1)), (2, (0, l2))] [] S V nc ns := by
  have E := n_E h
  refine j_iload_n E d3_6_0 rfl 2 rfl ?_
  refine j_iconst E d3_6_1 (by decide) ?_
  refine j_isub E d3_6_2 c1 ?_
  refine j_istore_n E d3_6_3 rfl (by decide) (lo1 := [(0, (2, l0)), (1, (0, l1)), (2, (0, l2))]) rfl ?_
  exact j_pick [1, 2, 0] rfl k
theorem t3_6_4 {C : qCx} {G : jG} {S : jS} {V : jH} {nc ns : Nat} {l0 l1 l3 : Int} (h : x3_6 C G)  (k : l3 < 0 → j_ok n_KT 4 C G 53 [] [] S V nc ns) (k' : 0 ≤ l3 → j_ok n_KT 4 C G 8 [(0, (2, l0)), (1, (0, l1)), (3, (0, l3))] [] S V nc ns) : j_ok n_KT 4 C G 4 [(0, (2, l0)), (1, (0, l1)), (3, (0, l3))] [] S V nc ns := by
  have E := n_E h
  refine j_iload_n E d3_6_4 rfl 2 rfl ?_
  exact j_if_lt E d3_6_5 (t := 53) rfl (fun q => j_pick [] rfl (k q)) (fun q => j_pick [0, 1, 2] rfl (k' q))
theorem t3_6_8 {C : qCx} {G : jG} {S : jS} {V : jH} {nc ns : Nat} {l0 l1 l3 : Int} (h : x3_6 C G) (c1 : S.1 l0 = 22) (k : 4400 ≤ V l0 1 → j_ok n_KT 4 C G 53 [] [] S V nc ns) (k' : V l0 1 < 4400 → j_ok n_KT 4 C G 18 [(0, (2, l0)), (1, (0, l1)), (3, (0, l3))] [] S V nc ns) : j_ok n_KT 4 C G 8 [(0, (2, l0)), (1, (0, l1)), (3, (0, l3))] [] S V nc ns := by
  have E := n_E h
  refine j_aload_n E d3_6_8 rfl 0 rfl ?_
  refine j_getI (f := 1) (fg1_15 h) d3_6_9 c1 (by decide) rfl rfl ?_
  refine j_sipush E d3_6_12 (by decide) ?_
  exact j_icmp_ge E d3_6_15 (t := 53) rfl (fun q => j_pick [] rfl (k q)) (fun q => j_pick [0, 1, 2] rfl (k' q))
theorem t3_6_18 {C : qCx} {G : jG} {S : jS} {V : jH} {nc ns : Nat} {l0 l1 l3 : Int} (h : x3_6 C G) (L : j_L S) (c1 : S.1 l0 = 22) (c2 : -2147483648 ≤ 8 * l3 ∧ 8 * l3 ≤ 2147483647) (c3 : 0 ≤ 8 * l3) (c4 : 8 * l3 ≤ 31) (c5 : 0 ≤ l1) (c6 : 0 ≤ V l0 1) (c7 : V l0 1 < 4400) (c8 : -2147483648 ≤ (V l0 1) + 1 ∧ (V l0 1) + 1 ≤ 2147483647) (c9 : -2147483648 ≤ l3 + (-1) ∧ l3 + (-1) ≤ 2147483647) (k : j_ok n_KT 4 C G 4 [(0, (2, l0)), (1, (0, l1)), (3, (0, l3 + (-1)))] [] S (j_up (j_up V (l0 + 1) (V l0 1) ((l1 / 2 ^ (8 * l3).toNat) % 256)) l0 1 ((V l0 1) + 1)) nc ns) : j_ok n_KT 4 C G 18 [(0, (2, l0)), (1, (0, l1)), (3, (0, l3))] [] S V nc ns := by
  have E := n_E h
  refine j_aload_n E d3_6_18 rfl 0 rfl ?_
  refine j_getS (f := 0) (x := l0 + 1) (fg1_9 h) d3_6_19 c1 (by decide) rfl rfl ((L1_0 L c1).trans (by omega)) ?_
  refine j_aload_n E d3_6_22 rfl 0 rfl ?_
  refine j_getI (f := 1) (fg1_15 h) d3_6_23 c1 (by decide) rfl rfl ?_
  refine j_iload_n E d3_6_26 rfl 1 rfl ?_
  refine j_bipush E d3_6_27 (by decide) ?_
  refine j_iload_n E d3_6_29 rfl 2 rfl ?_
  refine j_imul E d3_6_30 c2 ?_
  refine j_iushr E d3_6_31 c5 c3 c4 ?_
  refine j_sipush E d3_6_32 (by decide) ?_
  refine j_iand255 E d3_6_35 rfl ?_
  refine j_iast E d3_6_36 (j_arr_of (show S.1 (l0 + 1) = 6 from (by have q := L1_0k L c1; rw [show l0 + 1 = l0 + 1 by omega]; exact q)) (by decide) rfl) c6 c7 ?_
  refine j_aload_n E d3_6_37 rfl 0 rfl ?_
  refine j_dup E d3_6_38 rfl ?_
  refine j_getI (f := 1) (fg1_15 h) d3_6_39 c1 (by decide) rfl rfl ?_
  refine j_eqT (show (j_up V (l0 + 1) (V l0 1) ((l1 / 2 ^ (8 * l3).toNat) % 256)) l0 1 = V l0 1 from (congrFun (j_up_ne (by omega)) _)) ?_
  refine j_iconst E d3_6_42 (by decide) ?_
  refine j_iadd E d3_6_43 c8 ?_
  refine j_putI (f := 1) (fp1_15 h) (n_hap h 22 1 0 _ rfl) d3_6_44 c1 (by decide) rfl rfl rfl ?_
  refine j_iinc E d3_6_47 (by decide) (by decide) 2 rfl (lo1 := [(0, (2, l0)), (1, (0, l1))]) rfl c9 ?_
  refine j_goto E d3_6_50 (t := 4) rfl ?_
  exact j_pick [1, 2, 0] rfl k
theorem t3_6_53 {C : qCx} {G : jG} {S : jS} {V : jH} {nc ns : Nat} {mc ms : Nat} {qf : jS → jH → Prop} (h : x3_6 C G)  (R : j_Rv n_KT 4 C G b_3_6 mc ms qf) (q : qf S V) (hc : nc ≤ mc) (hs : ns ≤ ms) : j_ok n_KT 4 C G 53 [] [] S V nc ns := by
  have E := n_E h
  exact R _ _ _ _ _ _ d3_6_53 q hc hs
/- BalanceCoder$Block.appendDeal(LBalanceCoder$Deal;)V -/
abbrev b_3_8 : ByteArray := prog_3_method_8_code
def y_3_8 : MethodName := ⟨"BalanceCoder$Block", "appendDeal", "(LBalanceCoder$Deal;)V"⟩
abbrev x3_8 (C : qCx) (G : jG) : Prop := n_ctx C b_3_8 4 "BalanceCoder$Block" G.1 G.2.1
def M3_8 (l : Launch) (mc ms : Nat) (p : Int → Int → jS → jH → Prop) (q : Int → Int → jS → jH → jS → jH → Prop) : Prop := j_Met l vwCl n_TL n_NW n_KT y_3_8 (Cond.code y_3_8 b_3_8 4 none :: n_GW) { frames := 3, cells := mc, slots := ms, locals := 69 } mc ms (fun a S V => ∃ u0 u1 : Int, a = [(2, u0), (2, u1)] ∧ S.1 u0 = 22 ∧ p u0 u1 S V) (fun a S V rs S' V' => ∃ u0 u1 : Int, a = [(2, u0), (2, u1)] ∧ rs = [] ∧ q u0 u1 S V S' V')
theorem e3_8 {l : Launch} {mc ms : Nat} {p : Int → Int → jS → jH → Prop} {q : Int → Int → jS → jH → jS → jH → Prop} (body : ∀ (C : qCx) (G : jG), x3_8 C G → C.2.2.2.1.frames = 3 ∧ C.2.2.2.1.locals = 69 → C.2.2.2.1.cells = mc ∧ C.2.2.2.1.slots = ms → C.2.1 = l → C.2.2.2.2.2.2.2.2.1.name = "appendDeal" → ∀ (u0 u1 : Int) (S : jS) (V : jH), S.1 u0 = 22 → p u0 u1 S V → j_Rv n_KT 4 C G b_3_8 mc ms (q u0 u1 S V) → j_ok n_KT 4 C G 0 [(0, (2, u0)), (1, (2, u1))] [] S V 0 0) : M3_8 l mc ms p q := by
  refine j_method (ws' := n_GW) (by decide) rfl ?_ ?_
  · rintro a S V ⟨u0, u1, rfl, -⟩
    exact Nat.le_of_ble_eq_true rfl
  · rintro C G htl hl hrm hm hml ho hts hnm hE a S V ⟨u0, u1, rfl, ht, hp⟩ R
    exact body C G ⟨htl, hm, hml, ho, fun w hw => hts w (List.mem_cons_of_mem _ hw), hE⟩ (by rw [hrm]; exact ⟨rfl, rfl⟩) (by rw [hrm]; exact ⟨rfl, rfl⟩) hl hnm u0 u1 S V ht hp (fun pc lo S' V' nc ns d q hc hs => R.1 rfl pc lo S' V' nc ns d ⟨u0, u1, rfl, rfl, q⟩ hc hs)
theorem d3_8_0 : decode b_3_8 0 = .ok (.aload_n 0, 1) := by decide +kernel
theorem d3_8_1 : decode b_3_8 1 = .ok (.aload_n 1, 1) := by decide +kernel
theorem d3_8_2 : decode b_3_8 2 = .ok (.invokevirtual 91, 3) := by decide +kernel
theorem d3_8_5 : decode b_3_8 5 = .ok (.iconst 2, 1) := by decide +kernel
theorem d3_8_6 : decode b_3_8 6 = .ok (.invokevirtual 51, 3) := by decide +kernel
theorem d3_8_9 : decode b_3_8 9 = .ok (.iconst 0, 1) := by decide +kernel
theorem d3_8_10 : decode b_3_8 10 = .ok (.istore_n 2, 1) := by decide +kernel
theorem d3_8_11 : decode b_3_8 11 = .ok (.iload_n 2, 1) := by decide +kernel
theorem d3_8_12 : decode b_3_8 12 = .ok (.sipush 256, 3) := by decide +kernel
theorem d3_8_15 : decode b_3_8 15 = .ok (.if_icmp .ge 33, 3) := by decide +kernel
theorem d3_8_18 : decode b_3_8 18 = .ok (.aload_n 1, 1) := by decide +kernel
theorem d3_8_19 : decode b_3_8 19 = .ok (.iload_n 2, 1) := by decide +kernel
theorem d3_8_20 : decode b_3_8 20 = .ok (.invokevirtual 96, 3) := by decide +kernel
theorem d3_8_23 : decode b_3_8 23 = .ok (.istore_n 3, 1) := by decide +kernel
theorem d3_8_24 : decode b_3_8 24 = .ok (.iload_n 3, 1) := by decide +kernel
theorem d3_8_25 : decode b_3_8 25 = .ok (.ifCond .le 17, 3) := by decide +kernel
theorem d3_8_28 : decode b_3_8 28 = .ok (.aload_n 0, 1) := by decide +kernel
theorem d3_8_29 : decode b_3_8 29 = .ok (.iload_n 2, 1) := by decide +kernel
theorem d3_8_30 : decode b_3_8 30 = .ok (.iconst 1, 1) := by decide +kernel
theorem d3_8_31 : decode b_3_8 31 = .ok (.invokevirtual 51, 3) := by decide +kernel
theorem d3_8_34 : decode b_3_8 34 = .ok (.aload_n 0, 1) := by decide +kernel
theorem d3_8_35 : decode b_3_8 35 = .ok (.iload_n 3, 1) := by decide +kernel
theorem d3_8_36 : decode b_3_8 36 = .ok (.iconst 1, 1) := by decide +kernel
theorem d3_8_37 : decode b_3_8 37 = .ok (.isub, 1) := by decide +kernel
theorem d3_8_38 : decode b_3_8 38 = .ok (.iconst 2, 1) := by decide +kernel
theorem d3_8_39 : decode b_3_8 39 = .ok (.invokevirtual 51, 3) := by decide +kernel
theorem d3_8_42 : decode b_3_8 42 = .ok (.iinc 2 1, 3) := by decide +kernel
theorem d3_8_45 : decode b_3_8 45 = .ok (.goto (-34), 3) := by decide +kernel
theorem d3_8_48 : decode b_3_8 48 = .ok (.return_, 1) := by decide +kernel
theorem K3_8_2 {C : qCx} {G : jG} {mc ms : Nat} {p : Int → jS → jH → Prop} {q : Int → jS → jH → Int → jS → jH → Prop} (h : x3_8 C G) (hrm : C.2.2.2.1.frames = 3 ∧ C.2.2.2.1.locals = 69) (hM : M4_4 C.2.1 mc ms p q) : j_Call C b_3_8 n_KT G.1 G.2.1 4 (.invokevirtual 91) mc ms (fun a S V => ∃ u0 : Int, a = [(2, u0)] ∧ S.1 u0 = 23 ∧ p u0 S V) (fun a S V rs S' V' => ∃ u0 r : Int, a = [(2, u0)] ∧ rs = [(0, r)] ∧ q u0 S V r S' V') := j_callV n_NWk h.2.2.2.2.2 h.1 hM ⟨h.2.1.1, h.2.1.2, h.2.2.1, h.2.2.2.1, h.2.2.2.2.1⟩ ⟨n_CB (y := y_4_4) (bytes := b_4_4) 0 h.2.2.2.2.1 n_w556 n_w575 n_w8 ⟨by decide, by decide, by decide +kernel⟩ rfl rfl ⟨by rw [hrm.1]; exact Nat.le_of_ble_eq_true rfl, by rw [hrm.2]; exact Nat.le_of_ble_eq_true rfl⟩, h.2.2.2.2.1 _ n_w554, h.2.2.2.2.1 _ n_w555⟩ (Cn := RX2) (fun a S V hP => by obtain ⟨u0, rfl, e, -⟩ := hP; exact ⟨u0, _, 2, _, _, TX2, 1, rfl, rfl, by rw [e]; decide, by rw [e]; rfl, rfl⟩)
theorem K3_8_6 {C : qCx} {G : jG} {mc ms : Nat} {p : Int → Int → Int → jS → jH → Prop} {q : Int → Int → Int → jS → jH → jS → jH → Prop} (h : x3_8 C G) (hrm : C.2.2.2.1.frames = 3 ∧ C.2.2.2.1.locals = 69) (hM : M3_6 C.2.1 mc ms p q) : j_Call C b_3_8 n_KT G.1 G.2.1 4 (.invokevirtual 51) mc ms (fun a S V => ∃ u0 u1 u2 : Int, a = [(2, u0), (0, u1), (0, u2)] ∧ S.1 u0 = 22 ∧ p u0 u1 u2 S V) (fun a S V rs S' V' => ∃ u0 u1 u2 : Int, a = [(2, u0), (0, u1), (0, u2)] ∧ rs = [] ∧ q u0 u1 u2 S V S' V') := j_callV n_NWk h.2.2.2.2.2 h.1 hM ⟨h.2.1.1, h.2.1.2, h.2.2.1, h.2.2.2.1, h.2.2.2.2.1⟩ ⟨n_CB (y := y_3_6) (bytes := b_3_6) 2 h.2.2.2.2.1 n_w568 n_w565 n_w3 ⟨by decide, by decide, by decide +kernel⟩ rfl rfl ⟨by rw [hrm.1]; exact Nat.le_of_ble_eq_true rfl, by rw [hrm.2]; exact Nat.le_of_ble_eq_true rfl⟩, h.2.2.2.2.1 _ n_w566, h.2.2.2.2.1 _ n_w567⟩ (Cn := RX1) (fun a S V hP => by obtain ⟨u0, u1, u2, rfl, e, -⟩ := hP; exact ⟨u0, _, 1, _, _, TX1, 5, rfl, rfl, by rw [e]; decide, by rw [e]; rfl, rfl⟩)
theorem K3_8_20 {C : qCx} {G : jG} {mc ms : Nat} {p : Int → Int → jS → jH → Prop} {q : Int → Int → jS → jH → Int → jS → jH → Prop} (h : x3_8 C G) (hrm : C.2.2.2.1.frames = 3 ∧ C.2.2.2.1.locals = 69) (hM : M4_2 C.2.1 mc ms p q) : j_Call C b_3_8 n_KT G.1 G.2.1 4 (.invokevirtual 96) mc ms (fun a S V => ∃ u0 u1 : Int, a = [(2, u0), (0, u1)] ∧ S.1 u0 = 23 ∧ p u0 u1 S V) (fun a S V rs S' V' => ∃ u0 u1 r : Int, a = [(2, u0), (0, u1)] ∧ rs = [(0, r)] ∧ q u0 u1 S V r S' V') := j_callV n_NWk h.2.2.2.2.2 h.1 hM ⟨h.2.1.1, h.2.1.2, h.2.2.1, h.2.2.2.1, h.2.2.2.2.1⟩ ⟨n_CB (y := y_4_2) (bytes := b_4_2) 1 h.2.2.2.2.1 n_w379 n_w576 n_w8 ⟨by decide, by decide, by decide +kernel⟩ rfl rfl ⟨by rw [hrm.1]; exact Nat.le_of_ble_eq_true rfl, by rw [hrm.2]; exact Nat.le_of_ble_eq_true rfl⟩, h.2.2.2.2.1 _ n_w377, h.2.2.2.2.1 _ n_w378⟩ (Cn := RX2) (fun a S V hP => by obtain ⟨u0, u1, rfl, e, -⟩ := hP; exact ⟨u0, _, 2, _, _, TX2, 1, rfl, rfl, by rw [e]; decide, by rw [e]; rfl, rfl⟩)
theorem K3_8_31 {C : qCx} {G : jG} {mc ms : Nat} {p : Int → Int → Int → jS → jH → Prop} {q : Int → Int → Int → jS → jH → jS → jH → Prop} (h : x3_8 C G) (hrm : C.2.2.2.1.frames = 3 ∧ C.2.2.2.1.locals = 69) (hM : M3_6 C.2.1 mc ms p q) : j_Call C b_3_8 n_KT G.1 G.2.1 4 (.invokevirtual 51) mc ms (fun a S V => ∃ u0 u1 u2 : Int, a = [(2, u0), (0, u1), (0, u2)] ∧ S.1 u0 = 22 ∧ p u0 u1 u2 S V) (fun a S V rs S' V' => ∃ u0 u1 u2 : Int, a = [(2, u0), (0, u1), (0, u2)] ∧ rs = [] ∧ q u0 u1 u2 S V S' V') := j_callV n_NWk h.2.2.2.2.2 h.1 hM ⟨h.2.1.1, h.2.1.2, h.2.2.1, h.2.2.2.1, h.2.2.2.2.1⟩ ⟨n_CB (y := y_3_6) (bytes := b_3_6) 2 h.2.2.2.2.1 n_w568 n_w565 n_w3 ⟨by decide, by decide, by decide +kernel⟩ rfl rfl ⟨by rw [hrm.1]; exact Nat.le_of_ble_eq_true rfl, by rw [hrm.2]; exact Nat.le_of_ble_eq_true rfl⟩, h.2.2.2.2.1 _ n_w566, h.2.2.2.2.1 _ n_w567⟩ (Cn := RX1) (fun a S V hP => by obtain ⟨u0, u1, u2, rfl, e, -⟩ := hP; exact ⟨u0, _, 1, _, _, TX1, 5, rfl, rfl, by rw [e]; decide, by rw [e]; rfl, rfl⟩)
theorem K3_8_39 {C : qCx} {G : jG} {mc ms : Nat} {p : Int → Int → Int → jS → jH → Prop} {q : Int → Int → Int → jS → jH → jS → jH → Prop} (h : x3_8 C G) (hrm : C.2.2.2.1.frames = 3 ∧ C.2.2.2.1.locals = 69) (hM : M3_6 C.2.1 mc ms p q) : j_Call C b_3_8 n_KT G.1 G.2.1 4 (.invokevirtual 51) mc ms (fun a S V => ∃ u0 u1 u2 : Int, a = [(2, u0), (0, u1), (0, u2)] ∧ S.1 u0 = 22 ∧ p u0 u1 u2 S V) (fun a S V rs S' V' => ∃ u0 u1 u2 : Int, a = [(2, u0), (0, u1), (0, u2)] ∧ rs = [] ∧ q u0 u1 u2 S V S' V') := j_callV n_NWk h.2.2.2.2.2 h.1 hM ⟨h.2.1.1, h.2.1.2, h.2.2.1, h.2.2.2.1, h.2.2.2.2.1⟩ ⟨n_CB (y := y_3_6) (bytes := b_3_6) 2 h.2.2.2.2.1 n_w568 n_w565 n_w3 ⟨by decide, by decide, by decide +kernel⟩ rfl rfl ⟨by rw [hrm.1]; exact Nat.le_of_ble_eq_true rfl, by rw [hrm.2]; exact Nat.le_of_ble_eq_true rfl⟩, h.2.2.2.2.1 _ n_w566, h.2.2.2.2.1 _ n_w567⟩ (Cn := RX1) (fun a S V hP => by obtain ⟨u0, u1, u2, rfl, e, -⟩ := hP; exact ⟨u0, _, 1, _, _, TX1, 5, rfl, rfl, by rw [e]; decide, by rw [e]; rfl, rfl⟩)
theorem t3_8_0 {C : qCx} {G : jG} {S : jS} {V : jH} {nc ns : Nat} {l0 l1 : Int} {mc ms : Nat} {pp : Int → jS → jH → Prop} {qq : Int → jS → jH → Int → jS → jH → Prop} (h : x3_8 C G) (hrm : C.2.2.2.1.frames = 3 ∧ C.2.2.2.1.locals = 69) (c1 : S.1 l1 = 23) (hM : M4_4 C.2.1 mc ms pp qq) (hp : pp l1 S V) (hc : nc + mc ≤ C.2.2.2.1.cells) (hs : ns + ms ≤ C.2.2.2.1.slots) (k : ∀ (r : Int) (S' : jS) (V' : jH), qq l1 S V r S' V' → j_ok n_KT 4 C G 5 [(0, (2, l0)), (1, (2, l1))] [(0, r), (2, l0)] S' V' (nc + mc) (ns + ms)) : j_ok n_KT 4 C G 0 [(0, (2, l0)), (1, (2, l1))] [] S V nc ns := by
  have E := n_E h
  refine j_aload_n E d3_8_0 rfl 0 rfl ?_
  refine j_aload_n E d3_8_1 rfl 1 rfl ?_
  refine j_call E (K3_8_2 h hrm hM) d3_8_2 (a := [(2, l1)]) (sk := [(2, l0)]) rfl ⟨l1, rfl, c1, hp⟩ (Nat.le_of_ble_eq_true rfl) hc hs ?_
  rintro rs S' V' ⟨z0, r, e1, rfl, q⟩
  simp only [List.cons.injEq, Prod.mk.injEq, and_true, true_and] at e1
  obtain ⟨rfl⟩ := e1
  exact j_pick [0, 1] rfl (k r S' V' q)
theorem t3_8_5 {C : qCx} {G : jG} {S : jS} {V : jH} {nc ns : Nat} {l0 l1 s0 s1 : Int} {mc ms : Nat} {pp : Int → Int → Int → jS → jH → Prop} {qq : Int → Int → Int → jS → jH → jS → jH → Prop} (h : x3_8 C G) (hrm : C.2.2.2.1.frames = 3 ∧ C.2.2.2.1.locals = 69) (c1 : S.1 s1 = 22) (hM : M3_6 C.2.1 mc ms pp qq) (hp : pp s1 s0 2 S V) (hc : nc + mc ≤ C.2.2.2.1.cells) (hs : ns + ms ≤ C.2.2.2.1.slots) (k : ∀ (S' : jS) (V' : jH), qq s1 s0 2 S V S' V' → j_ok n_KT 4 C G 9 [(0, (2, l0)), (1, (2, l1))] [] S' V' (nc + mc) (ns + ms)) : j_ok n_KT 4 C G 5 [(0, (2, l0)), (1, (2, l1))] [(0, s0), (2, s1)] S V nc ns := by
  have E := n_E h
  refine j_iconst E d3_8_5 (by decide) ?_
  refine j_call E (K3_8_6 h hrm hM) d3_8_6 (a := [(2, s1), (0, s0), (0, 2)]) (sk := []) rfl ⟨s1, s0, 2, rfl, c1, hp⟩ (Nat.le_of_ble_eq_true rfl) hc hs ?_
  rintro rs S' V' ⟨z0, z1, z2, e1, rfl, q⟩
  simp only [List.cons.injEq, Prod.mk.injEq, and_true, true_and] at e1
  obtain ⟨rfl, rfl, rfl⟩ := e1
  exact j_pick [0, 1] rfl (k S' V' q)
theorem t3_8_9 {C : qCx} {G : jG} {S : jS} {V : jH} {nc ns : Nat} {l0 l1 : Int} (h : x3_8 C G)  (k : j_ok n_KT 4 C G 11 [(0, (2, l0)), (1, (2, l1)), (2, (0, 0))] [] S V nc ns) : j_ok n_KT 4 C G 9 [(0, (2, l0)), (1, (2, l1))] [] S V nc ns := by
  have E := n_E h
  refine j_iconst E d3_8_9 (by decide) ?_
  refine j_istore_n E d3_8_10 rfl (by decide) (lo1 := [(0, (2, l0)), (1, (2, l1))]) rfl ?_
  exact j_pick [1, 2, 0] rfl k
theorem t3_8_11 {C : qCx} {G : jG} {S : jS} {V : jH} {nc ns : Nat} {l0 l1 l2 : Int} (h : x3_8 C G)  (k : 256 ≤ l2 → j_ok n_KT 4 C G 48 [] [] S V nc ns) (k' : l2 < 256 → j_ok n_KT 4 C G 18 [(0, (2, l0)), (1, (2, l1)), (2, (0, l2))] [] S V nc ns) : j_ok n_KT 4 C G 11 [(0, (2, l0)), (1, (2, l1)), (2, (0, l2))] [] S V nc ns := by
  have E := n_E h
  refine j_iload_n E d3_8_11 rfl 2 rfl ?_
  refine j_sipush E d3_8_12 (by decide) ?_
  exact j_icmp_ge E d3_8_15 (t := 48) rfl (fun q => j_pick [] rfl (k q)) (fun q => j_pick [0, 1, 2] rfl (k' q))
theorem t3_8_18 {C : qCx} {G : jG} {S : jS} {V : jH} {nc ns : Nat} {l0 l1 l2 : Int} {mc ms : Nat} {pp : Int → Int → jS → jH → Prop} {qq : Int → Int → jS → jH → Int → jS → jH → Prop} (h : x3_8 C G) (hrm : C.2.2.2.1.frames = 3 ∧ C.2.2.2.1.locals = 69) (c1 : S.1 l1 = 23) (hM : M4_2 C.2.1 mc ms pp qq) (hp : pp l1 l2 S V) (hc : nc + mc ≤ C.2.2.2.1.cells) (hs : ns + ms ≤ C.2.2.2.1.slots) (k : ∀ (r : Int) (S' : jS) (V' : jH), qq l1 l2 S V r S' V' → j_ok n_KT 4 C G 23 [(0, (2, l0)), (1, (2, l1)), (2, (0, l2))] [(0, r)] S' V' (nc + mc) (ns + ms)) : j_ok n_KT 4 C G 18 [(0, (2, l0)), (1, (2, l1)), (2, (0, l2))] [] S V nc ns := by
  have E := n_E h
  refine j_aload_n E d3_8_18 rfl 1 rfl ?_
  refine j_iload_n E d3_8_19 rfl 2 rfl ?_
  refine j_call E (K3_8_20 h hrm hM) d3_8_20 (a := [(2, l1), (0, l2)]) (sk := []) rfl ⟨l1, l2, rfl, c1, hp⟩ (Nat.le_of_ble_eq_true rfl) hc hs ?_
  rintro rs S' V' ⟨z0, z1, r, e1, rfl, q⟩
  simp only [List.cons.injEq, Prod.mk.injEq, and_true, true_and] at e1
  obtain ⟨rfl, rfl⟩ := e1
  exact j_pick [0, 1, 2] rfl (k r S' V' q)
theorem t3_8_23 {C : qCx} {G : jG} {S : jS} {V : jH} {nc ns : Nat} {l0 l1 l2 s0 : Int} (h : x3_8 C G)  (k : s0 ≤ 0 → j_ok n_KT 4 C G 42 [(0, (2, l0)), (1, (2, l1)), (2, (0, l2))] [] S V nc ns) (k' : 0 < s0 → j_ok n_KT 4 C G 28 [(0, (2, l0)), (1, (2, l1)), (2, (0, l2)), (3, (0, s0))] [] S V nc ns) : j_ok n_KT 4 C G 23 [(0, (2, l0)), (1, (2, l1)), (2, (0, l2))] [(0, s0)] S V nc ns := by
  have E := n_E h
  refine j_istore_n E d3_8_23 rfl (by decide) (lo1 := [(0, (2, l0)), (1, (2, l1)), (2, (0, l2))]) rfl ?_
  refine j_iload_n E d3_8_24 rfl 0 rfl ?_
  exact j_if_le E d3_8_25 (t := 42) rfl (fun q => j_pick [1, 2, 3] rfl (k q)) (fun q => j_pick [1, 2, 3, 0] rfl (k' q))
theorem t3_8_28 {C : qCx} {G : jG} {S : jS} {V : jH} {nc ns : Nat} {l0 l1 l2 l3 : Int} {mc ms : Nat} {pp : Int → Int → Int → jS → jH → Prop} {qq : Int → Int → Int → jS → jH → jS → jH → Prop} (h : x3_8 C G) (hrm : C.2.2.2.1.frames = 3 ∧ C.2.2.2.1.locals = 69) (c1 : S.1 l0 = 22) (hM : M3_6 C.2.1 mc ms pp qq) (hp : pp l0 l2 1 S V) (hc : nc + mc ≤ C.2.2.2.1.cells) (hs : ns + ms ≤ C.2.2.2.1.slots) (k : ∀ (S' : jS) (V' : jH), qq l0 l2 1 S V S' V' → j_ok n_KT 4 C G 34 [(0, (2, l0)), (1, (2, l1)), (2, (0, l2)), (3, (0, l3))] [] S' V' (nc + mc) (ns + ms)) : j_ok n_KT 4 C G 28 [(0, (2, l0)), (1, (2, l1)), (2, (0, l2)), (3, (0, l3))] [] S V nc ns := by
  have E := n_E h
  refine j_aload_n E d3_8_28 rfl 0 rfl ?_
  refine j_iload_n E d3_8_29 rfl 2 rfl ?_
  refine j_iconst E d3_8_30 (by decide) ?_
  refine j_call E (K3_8_31 h hrm hM) d3_8_31 (a := [(2, l0), (0, l2), (0, 1)]) (sk := []) rfl ⟨l0, l2, 1, rfl, c1, hp⟩ (Nat.le_of_ble_eq_true rfl) hc hs ?_
  rintro rs S' V' ⟨z0, z1, z2, e1, rfl, q⟩
  simp only [List.cons.injEq, Prod.mk.injEq, and_true, true_and] at e1
  obtain ⟨rfl, rfl, rfl⟩ := e1
  exact j_pick [0, 1, 2, 3] rfl (k S' V' q)
theorem t3_8_34 {C : qCx} {G : jG} {S : jS} {V : jH} {nc ns : Nat} {l0 l1 l2 l3 : Int} {mc ms : Nat} {pp : Int → Int → Int → jS → jH → Prop} {qq : Int → Int → Int → jS → jH → jS → jH → Prop} (h : x3_8 C G) (hrm : C.2.2.2.1.frames = 3 ∧ C.2.2.2.1.locals = 69) (c1 : -2147483648 ≤ l3 - 1 ∧ l3 - 1 ≤ 2147483647) (c2 : S.1 l0 = 22) (hM : M3_6 C.2.1 mc ms pp qq) (hp : pp l0 (l3 - 1) 2 S V) (hc : nc + mc ≤ C.2.2.2.1.cells) (hs : ns + ms ≤ C.2.2.2.1.slots) (k : ∀ (S' : jS) (V' : jH), qq l0 (l3 - 1) 2 S V S' V' → j_ok n_KT 4 C G 42 [(0, (2, l0)), (1, (2, l1)), (2, (0, l2))] [] S' V' (nc + mc) (ns + ms)) : j_ok n_KT 4 C G 34 [(0, (2, l0)), (1, (2, l1)), (2, (0, l2)), (3, (0, l3))] [] S V nc ns := by
  have E := n_E h
  refine j_aload_n E d3_8_34 rfl 0 rfl ?_
  refine j_iload_n E d3_8_35 rfl 3 rfl ?_
  refine j_iconst E d3_8_36 (by decide) ?_
  refine j_isub E d3_8_37 c1 ?_
  refine j_iconst E d3_8_38 (by decide) ?_
  refine j_call E (K3_8_39 h hrm hM) d3_8_39 (a := [(2, l0), (0, l3 - 1), (0, 2)]) (sk := []) rfl ⟨l0, l3 - 1, 2, rfl, c2, hp⟩ (Nat.le_of_ble_eq_true rfl) hc hs ?_
  rintro rs S' V' ⟨z0, z1, z2, e1, rfl, q⟩
  simp only [List.cons.injEq, Prod.mk.injEq, and_true, true_and] at e1
  obtain ⟨rfl, rfl, rfl⟩ := e1
  exact j_pick [0, 1, 2] rfl (k S' V' q)
theorem t3_8_42 {C : qCx} {G : jG} {S : jS} {V : jH} {nc ns : Nat} {l0 l1 l2 : Int} (h : x3_8 C G) (c1 : -2147483648 ≤ l2 + 1 ∧ l2 + 1 ≤ 2147483647) (k : j_ok n_KT 4 C G 11 [(0, (2, l0)), (1, (2, l1)), (2, (0, l2 + 1))] [] S V nc ns) : j_ok n_KT 4 C G 42 [(0, (2, l0)), (1, (2, l1)), (2, (0, l2))] [] S V nc ns := by
  have E := n_E h
  refine j_iinc E d3_8_42 (by decide) (by decide) 2 rfl (lo1 := [(0, (2, l0)), (1, (2, l1))]) rfl c1 ?_
  refine j_goto E d3_8_45 (t := 11) rfl ?_
  exact j_pick [1, 2, 0] rfl k
theorem t3_8_48 {C : qCx} {G : jG} {S : jS} {V : jH} {nc ns : Nat} {mc ms : Nat} {qf : jS → jH → Prop} (h : x3_8 C G)  (R : j_Rv n_KT 4 C G b_3_8 mc ms qf) (q : qf S V) (hc : nc ≤ mc) (hs : ns ≤ ms) : j_ok n_KT 4 C G 48 [] [] S V nc ns := by
  have E := n_E h
  exact R _ _ _ _ _ _ d3_8_48 q hc hs
/- BalanceCoder$Block.sumAhead(I)I -/
abbrev b_3_9 : ByteArray := prog_3_method_9_code
def y_3_9 : MethodName := ⟨"BalanceCoder$Block", "sumAhead", "(I)I"⟩
abbrev x3_9 (C : qCx) (G : jG) : Prop := n_ctx C b_3_9 5 "BalanceCoder$Block" G.1 G.2.1
def M3_9 (l : Launch) (mc ms : Nat) (p : Int → Int → jS → jH → Prop) (q : Int → Int → jS → jH → Int → jS → jH → Prop) : Prop := j_Met l vwCl n_TL n_NW n_KT y_3_9 (Cond.code y_3_9 b_3_9 5 (some .int) :: n_GW) { frames := 1, cells := mc, slots := ms, locals := 26 } mc ms (fun a S V => ∃ u0 u1 : Int, a = [(2, u0), (0, u1)] ∧ S.1 u0 = 22 ∧ p u0 u1 S V) (fun a S V rs S' V' => ∃ u0 u1 r : Int, a = [(2, u0), (0, u1)] ∧ rs = [(0, r)] ∧ q u0 u1 S V r S' V')
theorem e3_9 {l : Launch} {mc ms : Nat} {p : Int → Int → jS → jH → Prop} {q : Int → Int → jS → jH → Int → jS → jH → Prop} (body : ∀ (C : qCx) (G : jG), x3_9 C G → C.2.2.2.1.frames = 1 ∧ C.2.2.2.1.locals = 26 → C.2.2.2.1.cells = mc ∧ C.2.2.2.1.slots = ms → C.2.1 = l → C.2.2.2.2.2.2.2.2.1.name = "sumAhead" → ∀ (u0 u1 : Int) (S : jS) (V : jH), S.1 u0 = 22 → p u0 u1 S V → j_Ri n_KT 5 C G b_3_9 mc ms (q u0 u1 S V) → j_ok n_KT 5 C G 0 [(0, (2, u0)), (1, (0, u1))] [] S V 0 0) : M3_9 l mc ms p q := by
  refine j_method (ws' := n_GW) (by decide) rfl ?_ ?_
  · rintro a S V ⟨u0, u1, rfl, -⟩
    exact Nat.le_of_ble_eq_true rfl
  · rintro C G htl hl hrm hm hml ho hts hnm hE a S V ⟨u0, u1, rfl, ht, hp⟩ R
    exact body C G ⟨htl, hm, hml, ho, fun w hw => hts w (List.mem_cons_of_mem _ hw), hE⟩ (by rw [hrm]; exact ⟨rfl, rfl⟩) (by rw [hrm]; exact ⟨rfl, rfl⟩) hl hnm u0 u1 S V ht hp (fun pc lo r S' V' nc ns d q hc hs => R.2.1 rfl pc lo r S' V' nc ns d ⟨u0, u1, r, rfl, rfl, q⟩ hc hs)
theorem d3_9_0 : decode b_3_9 0 = .ok (.lconst 0, 1) := by decide +kernel
theorem d3_9_1 : decode b_3_9 1 = .ok (.lstore_n 2, 1) := by decide +kernel
theorem d3_9_2 : decode b_3_9 2 = .ok (.iconst 0, 1) := by decide +kernel
theorem d3_9_3 : decode b_3_9 3 = .ok (.istore 4, 2) := by decide +kernel
theorem d3_9_5 : decode b_3_9 5 = .ok (.iload 4, 2) := by decide +kernel
theorem d3_9_7 : decode b_3_9 7 = .ok (.iload_n 1, 1) := by decide +kernel
theorem d3_9_8 : decode b_3_9 8 = .ok (.if_icmp .ge 25, 3) := by decide +kernel
theorem d3_9_11 : decode b_3_9 11 = .ok (.lload_n 2, 1) := by decide +kernel
theorem d3_9_12 : decode b_3_9 12 = .ok (.iload 4, 2) := by decide +kernel
theorem d3_9_14 : decode b_3_9 14 = .ok (.iconst 1, 1) := by decide +kernel
theorem d3_9_15 : decode b_3_9 15 = .ok (.iadd, 1) := by decide +kernel
theorem d3_9_16 : decode b_3_9 16 = .ok (.aload_n 0, 1) := by decide +kernel
theorem d3_9_17 : decode b_3_9 17 = .ok (.getfield 9, 3) := by decide +kernel
theorem d3_9_20 : decode b_3_9 20 = .ok (.iload 4, 2) := by decide +kernel
theorem d3_9_22 : decode b_3_9 22 = .ok (.iaload, 1) := by decide +kernel
theorem d3_9_23 : decode b_3_9 23 = .ok (.imul, 1) := by decide +kernel
theorem d3_9_24 : decode b_3_9 24 = .ok (.i2l, 1) := by decide +kernel
theorem d3_9_25 : decode b_3_9 25 = .ok (.ladd, 1) := by decide +kernel
theorem d3_9_26 : decode b_3_9 26 = .ok (.lstore_n 2, 1) := by decide +kernel
theorem d3_9_27 : decode b_3_9 27 = .ok (.iinc 4 1, 3) := by decide +kernel
theorem d3_9_30 : decode b_3_9 30 = .ok (.goto (-25), 3) := by decide +kernel
theorem d3_9_33 : decode b_3_9 33 = .ok (.lload_n 2, 1) := by decide +kernel
theorem d3_9_34 : decode b_3_9 34 = .ok (.ldc2_w 99, 3) := by decide +kernel
theorem d3_9_37 : decode b_3_9 37 = .ok (.lrem, 1) := by decide +kernel
theorem d3_9_38 : decode b_3_9 38 = .ok (.l2i, 1) := by decide +kernel
theorem d3_9_39 : decode b_3_9 39 = .ok (.ireturn, 1) := by decide +kernel
theorem t3_9_0 {C : qCx} {G : jG} {S : jS} {V : jH} {nc ns : Nat} {l0 l1 : Int} (h : x3_9 C G)  (k : j_ok n_KT 5 C G 5 [(0, (2, l0)), (1, (0, l1)), (2, (1, 0)), (4, (0, 0))] [] S V nc ns) : j_ok n_KT 5 C G 0 [(0, (2, l0)), (1, (0, l1))] [] S V nc ns := by
  have E := n_E h
  refine j_lconst E d3_9_0 ?_
  refine j_lstore_n E d3_9_1 rfl (by decide) (lo1 := [(0, (2, l0)), (1, (0, l1))]) rfl ?_
  refine j_iconst E d3_9_2 (by decide) ?_
  refine j_istore E d3_9_3 (by decide) (lo1 := [(2, (1, 0)), (0, (2, l0)), (1, (0, l1))]) rfl ?_
  exact j_pick [2, 3, 1, 0] rfl k
theorem t3_9_5 {C : qCx} {G : jG} {S : jS} {V : jH} {nc ns : Nat} {l0 l1 l2 l4 : Int} (h : x3_9 C G)  (k : l1 ≤ l4 → j_ok n_KT 5 C G 33 [(2, (1, l2))] [] S V nc ns) (k' : l4 < l1 → j_ok n_KT 5 C G 11 [(0, (2, l0)), (1, (0, l1)), (2, (1, l2)), (4, (0, l4))] [] S V nc ns) : j_ok n_KT 5 C G 5 [(0, (2, l0)), (1, (0, l1)), (2, (1, l2)), (4, (0, l4))] [] S V nc ns := by
  have E := n_E h
  refine j_iload E d3_9_5 3 rfl ?_
  refine j_iload_n E d3_9_7 rfl 1 rfl ?_
  exact j_icmp_ge E d3_9_8 (t := 33) rfl (fun q => j_pick [2] rfl (k q)) (fun q => j_pick [0, 1, 2, 3] rfl (k' q))
theorem t3_9_11 {C : qCx} {G : jG} {S : jS} {V : jH} {nc ns : Nat} {l0 l1 l2 l4 : Int} (h : x3_9 C G) (L : j_L S) (c1 : -2147483648 ≤ l4 + 1 ∧ l4 + 1 ≤ 2147483647) (c2 : S.1 l0 = 22) (c3 : 0 ≤ l4) (c4 : l4 < 4400) (c5 : -2147483648 ≤ (l4 + 1) * (V (l0 + 1) l4) ∧ (l4 + 1) * (V (l0 + 1) l4) ≤ 2147483647) (c6 : -9223372036854775808 ≤ l2 + ((l4 + 1) * (V (l0 + 1) l4)) ∧ l2 + ((l4 + 1) * (V (l0 + 1) l4)) ≤ 9223372036854775807) (k : j_ok n_KT 5 C G 5 [(0, (2, l0)), (1, (0, l1)), (2, (1, l2 + ((l4 + 1) * (V (l0 + 1) l4)))), (4, (0, l4 + 1))] [] S V nc ns) : j_ok n_KT 5 C G 11 [(0, (2, l0)), (1, (0, l1)), (2, (1, l2)), (4, (0, l4))] [] S V nc ns := by
  have E := n_E h
  refine j_lload_n E d3_9_11 rfl 2 rfl ?_
  refine j_iload E d3_9_12 3 rfl ?_
  refine j_iconst E d3_9_14 (by decide) ?_
  refine j_iadd E d3_9_15 c1 ?_
  refine j_aload_n E d3_9_16 rfl 0 rfl ?_
  refine j_getS (f := 0) (x := l0 + 1) (fg1_9 h) d3_9_17 c2 (by decide) rfl rfl ((L1_0 L c2).trans (by omega)) ?_
  refine j_iload E d3_9_20 3 rfl ?_
  refine j_iald E d3_9_22 (j_arr_of (show S.1 (l0 + 1) = 6 from (by have q := L1_0k L c2; rw [show l0 + 1 = l0 + 1 by omega]; exact q)) (by decide) rfl) c3 c4 ?_
  refine j_imul E d3_9_23 c5 ?_
  refine j_i2l E d3_9_24 ?_
  refine j_ladd E d3_9_25 c6 ?_
  refine j_lstore_n E d3_9_26 rfl (by decide) (lo1 := [(0, (2, l0)), (1, (0, l1)), (4, (0, l4))]) rfl ?_
  refine j_iinc E d3_9_27 (by decide) (by decide) 3 rfl (lo1 := [(2, (1, l2 + ((l4 + 1) * (V (l0 + 1) l4)))), (0, (2, l0)), (1, (0, l1))]) rfl c1 ?_
  refine j_goto E d3_9_30 (t := 5) rfl ?_
  exact j_pick [2, 3, 1, 0] rfl k
theorem t3_9_33 {C : qCx} {G : jG} {S : jS} {V : jH} {nc ns : Nat} {l2 : Int} {mc ms : Nat} {qf : Int → jS → jH → Prop} (h : x3_9 C G) (c1 : 0 ≤ l2) (R : j_Ri n_KT 5 C G b_3_9 mc ms qf) (q : qf (j_w32 (l2 % 65521)) S V) (hc : nc ≤ mc) (hs : ns ≤ ms) : j_ok n_KT 5 C G 33 [(2, (1, l2))] [] S V nc ns := by
  have E := n_E h
  refine j_lload_n E d3_9_33 rfl 0 rfl ?_
  refine j_ldc2 (n := 65521) (fl1_99 h) rfl d3_9_34 ?_
  refine j_lrem E d3_9_37 c1 (by decide) ?_
  refine j_l2i E d3_9_38 ?_
  exact R _ _ _ _ _ _ _ d3_9_39 q hc hs
/- BalanceCoder$Steps.become(LBalanceCoder$Steps;)V -/
abbrev b_9_2 : ByteArray := prog_9_method_2_code
def y_9_2 : MethodName := ⟨"BalanceCoder$Steps", "become", "(LBalanceCoder$Steps;)V"⟩
abbrev x9_2 (C : qCx) (G : jG) : Prop := n_ctx C b_9_2 2 "BalanceCoder$Steps" G.1 G.2.1
def M9_2 (l : Launch) (mc ms : Nat) (p : Int → Int → jS → jH → Prop) (q : Int → Int → jS → jH → jS → jH → Prop) : Prop := j_Met l vwCl n_TL n_NW n_KT y_9_2 (Cond.code y_9_2 b_9_2 2 none :: n_GW) { frames := 1, cells := mc, slots := ms, locals := 26 } mc ms (fun a S V => ∃ u0 u1 : Int, a = [(2, u0), (2, u1)] ∧ S.1 u0 = 28 ∧ p u0 u1 S V) (fun a S V rs S' V' => ∃ u0 u1 : Int, a = [(2, u0), (2, u1)] ∧ rs = [] ∧ q u0 u1 S V S' V')
theorem e9_2 {l : Launch} {mc ms : Nat} {p : Int → Int → jS → jH → Prop} {q : Int → Int → jS → jH → jS → jH → Prop} (body : ∀ (C : qCx) (G : jG), x9_2 C G → C.2.2.2.1.frames = 1 ∧ C.2.2.2.1.locals = 26 → C.2.2.2.1.cells = mc ∧ C.2.2.2.1.slots = ms → C.2.1 = l → C.2.2.2.2.2.2.2.2.1.name = "become" → ∀ (u0 u1 : Int) (S : jS) (V : jH), S.1 u0 = 28 → p u0 u1 S V → j_Rv n_KT 2 C G b_9_2 mc ms (q u0 u1 S V) → j_ok n_KT 2 C G 0 [(0, (2, u0)), (1, (2, u1))] [] S V 0 0) : M9_2 l mc ms p q := by
  refine j_method (ws' := n_GW) (by decide) rfl ?_ ?_
  · rintro a S V ⟨u0, u1, rfl, -⟩
    exact Nat.le_of_ble_eq_true rfl
  · rintro C G htl hl hrm hm hml ho hts hnm hE a S V ⟨u0, u1, rfl, ht, hp⟩ R
    exact body C G ⟨htl, hm, hml, ho, fun w hw => hts w (List.mem_cons_of_mem _ hw), hE⟩ (by rw [hrm]; exact ⟨rfl, rfl⟩) (by rw [hrm]; exact ⟨rfl, rfl⟩) hl hnm u0 u1 S V ht hp (fun pc lo S' V' nc ns d q hc hs => R.1 rfl pc lo S' V' nc ns d ⟨u0, u1, rfl, rfl, q⟩ hc hs)
theorem d9_2_0 : decode b_9_2 0 = .ok (.aload_n 0, 1) := by decide +kernel
theorem d9_2_1 : decode b_9_2 1 = .ok (.aload_n 1, 1) := by decide +kernel
theorem d9_2_2 : decode b_9_2 2 = .ok (.getfield 27, 3) := by decide +kernel
theorem d9_2_5 : decode b_9_2 5 = .ok (.putfield 27, 3) := by decide +kernel
theorem d9_2_8 : decode b_9_2 8 = .ok (.aload_n 1, 1) := by decide +kernel
theorem d9_2_9 : decode b_9_2 9 = .ok (.getfield 9, 3) := by decide +kernel
theorem d9_2_12 : decode b_9_2 12 = .ok (.iconst 0, 1) := by decide +kernel
theorem d9_2_13 : decode b_9_2 13 = .ok (.aload_n 0, 1) := by decide +kernel
theorem d9_2_14 : decode b_9_2 14 = .ok (.getfield 9, 3) := by decide +kernel
theorem d9_2_17 : decode b_9_2 17 = .ok (.iconst 0, 1) := by decide +kernel
theorem d9_2_18 : decode b_9_2 18 = .ok (.aload_n 0, 1) := by decide +kernel
theorem d9_2_19 : decode b_9_2 19 = .ok (.getfield 27, 3) := by decide +kernel
theorem d9_2_22 : decode b_9_2 22 = .ok (.invokestatic 31, 3) := by decide +kernel
theorem d9_2_25 : decode b_9_2 25 = .ok (.aload_n 1, 1) := by decide +kernel
theorem d9_2_26 : decode b_9_2 26 = .ok (.getfield 15, 3) := by decide +kernel
theorem d9_2_29 : decode b_9_2 29 = .ok (.iconst 0, 1) := by decide +kernel
theorem d9_2_30 : decode b_9_2 30 = .ok (.aload_n 0, 1) := by decide +kernel
theorem d9_2_31 : decode b_9_2 31 = .ok (.getfield 15, 3) := by decide +kernel
theorem d9_2_34 : decode b_9_2 34 = .ok (.iconst 0, 1) := by decide +kernel
theorem d9_2_35 : decode b_9_2 35 = .ok (.aload_n 0, 1) := by decide +kernel
theorem d9_2_36 : decode b_9_2 36 = .ok (.getfield 27, 3) := by decide +kernel
theorem d9_2_39 : decode b_9_2 39 = .ok (.invokestatic 31, 3) := by decide +kernel
theorem d9_2_42 : decode b_9_2 42 = .ok (.aload_n 1, 1) := by decide +kernel
theorem d9_2_43 : decode b_9_2 43 = .ok (.getfield 18, 3) := by decide +kernel
theorem d9_2_46 : decode b_9_2 46 = .ok (.iconst 0, 1) := by decide +kernel
theorem d9_2_47 : decode b_9_2 47 = .ok (.aload_n 0, 1) := by decide +kernel
theorem d9_2_48 : decode b_9_2 48 = .ok (.getfield 18, 3) := by decide +kernel
theorem d9_2_51 : decode b_9_2 51 = .ok (.iconst 0, 1) := by decide +kernel
theorem d9_2_52 : decode b_9_2 52 = .ok (.aload_n 0, 1) := by decide +kernel
theorem d9_2_53 : decode b_9_2 53 = .ok (.getfield 27, 3) := by decide +kernel
theorem d9_2_56 : decode b_9_2 56 = .ok (.invokestatic 31, 3) := by decide +kernel
theorem d9_2_59 : decode b_9_2 59 = .ok (.aload_n 1, 1) := by decide +kernel
theorem d9_2_60 : decode b_9_2 60 = .ok (.getfield 21, 3) := by decide +kernel
theorem d9_2_63 : decode b_9_2 63 = .ok (.iconst 0, 1) := by decide +kernel
theorem d9_2_64 : decode b_9_2 64 = .ok (.aload_n 0, 1) := by decide +kernel
theorem d9_2_65 : decode b_9_2 65 = .ok (.getfield 21, 3) := by decide +kernel
theorem d9_2_68 : decode b_9_2 68 = .ok (.iconst 0, 1) := by decide +kernel
theorem d9_2_69 : decode b_9_2 69 = .ok (.aload_n 0, 1) := by decide +kernel
theorem d9_2_70 : decode b_9_2 70 = .ok (.getfield 27, 3) := by decide +kernel
theorem d9_2_73 : decode b_9_2 73 = .ok (.invokestatic 31, 3) := by decide +kernel
theorem d9_2_76 : decode b_9_2 76 = .ok (.aload_n 1, 1) := by decide +kernel
theorem d9_2_77 : decode b_9_2 77 = .ok (.getfield 24, 3) := by decide +kernel
theorem d9_2_80 : decode b_9_2 80 = .ok (.iconst 0, 1) := by decide +kernel
theorem d9_2_81 : decode b_9_2 81 = .ok (.aload_n 0, 1) := by decide +kernel
theorem d9_2_82 : decode b_9_2 82 = .ok (.getfield 24, 3) := by decide +kernel
theorem d9_2_85 : decode b_9_2 85 = .ok (.iconst 0, 1) := by decide +kernel
theorem d9_2_86 : decode b_9_2 86 = .ok (.aload_n 0, 1) := by decide +kernel
theorem d9_2_87 : decode b_9_2 87 = .ok (.getfield 27, 3) := by decide +kernel
theorem d9_2_90 : decode b_9_2 90 = .ok (.invokestatic 31, 3) := by decide +kernel
theorem d9_2_93 : decode b_9_2 93 = .ok (.return_, 1) := by decide +kernel
theorem t9_2_0 {C : qCx} {G : jG} {S : jS} {V : jH} {nc ns : Nat} {l0 l1 : Int} {mc ms : Nat} {qf : jS → jH → Prop} (h : x9_2 C G) (L : j_L S) (hR : 1 ≤ C.2.2.2.1.frames ∧ 26 ≤ C.2.2.2.1.locals) (c1 : S.1 l1 = 28) (c2 : S.1 l0 = 28) (c3 : 0 ≤ V l1 5) (c4 : 0 + (V l1 5) ≤ 400) (R : j_Rv n_KT 2 C G b_9_2 mc ms qf) (q : qf S (j_cpy (j_cpy (j_cpy (j_cpy (j_cpy (j_up V l0 5 (V l1 5)) (l1 + 1) 0 (l0 + 1) 0 (V l1 5)) (l1 + 2) 0 (l0 + 2) 0 (V l1 5)) (l1 + 3) 0 (l0 + 3) 0 (V l1 5)) (l1 + 4) 0 (l0 + 4) 0 (V l1 5)) (l1 + 5) 0 (l0 + 5) 0 (V l1 5))) (hc : nc ≤ mc) (hs : ns ≤ ms) : j_ok n_KT 2 C G 0 [(0, (2, l0)), (1, (2, l1))] [] S V nc ns := by
  have E := n_E h
  refine j_aload_n E d9_2_0 rfl 0 rfl ?_
  refine j_aload_n E d9_2_1 rfl 1 rfl ?_
  refine j_getI (f := 5) (fg7_27 h) d9_2_2 c1 (by decide) rfl rfl ?_
  refine j_putI (f := 5) (fp7_27 h) (n_hap h 28 7 0 _ rfl) d9_2_5 c2 (by decide) rfl rfl rfl ?_
  refine j_aload_n E d9_2_8 rfl 1 rfl ?_
  refine j_getS (f := 0) (x := l1 + 1) (fg7_9 h) d9_2_9 c1 (by decide) rfl rfl ((L7_0 L c1).trans (by omega)) ?_
  refine j_iconst E d9_2_12 (by decide) ?_
  refine j_aload_n E d9_2_13 rfl 0 rfl ?_
  refine j_getS (f := 0) (x := l0 + 1) (fg7_9 h) d9_2_14 c2 (by decide) rfl rfl ((L7_0 L c2).trans (by omega)) ?_
  refine j_iconst E d9_2_17 (by decide) ?_
  refine j_aload_n E d9_2_18 rfl 0 rfl ?_
  refine j_getI (f := 5) (fg7_27 h) d9_2_19 c2 (by decide) rfl rfl ?_
  refine j_eqT (show (j_up V l0 5 (V l1 5)) l0 5 = V l1 5 from (j_up_at _ _ _ _)) ?_
  refine j_cpA E (fc7_31 h ⟨hR.1, by have := hR.2; simp only [nativeFrameWords] at *; first | omega | (simp; omega)⟩) d9_2_22 (j_arr_of (show S.1 (l1 + 1) = 1 from (by have q := L7_0k L c1; rw [show l1 + 1 = l1 + 1 by omega]; exact q)) (by decide) rfl) (j_arr_of (show S.1 (l0 + 1) = 1 from (by have q := L7_0k L c2; rw [show l0 + 1 = l0 + 1 by omega]; exact q)) (by decide) rfl) c3 (by decide) (by decide) c4 c4 (Nat.le_of_ble_eq_true rfl) ?_
  refine j_aload_n E d9_2_25 rfl 1 rfl ?_
  refine j_getS (f := 1) (x := l1 + 2) (fg7_15 h) d9_2_26 c1 (by decide) rfl rfl ((L7_1 L c1).trans (by omega)) ?_
  refine j_iconst E d9_2_29 (by decide) ?_
  refine j_aload_n E d9_2_30 rfl 0 rfl ?_
  refine j_getS (f := 1) (x := l0 + 2) (fg7_15 h) d9_2_31 c2 (by decide) rfl rfl ((L7_1 L c2).trans (by omega)) ?_
  refine j_iconst E d9_2_34 (by decide) ?_
  refine j_aload_n E d9_2_35 rfl 0 rfl ?_
  refine j_getI (f := 5) (fg7_27 h) d9_2_36 c2 (by decide) rfl rfl ?_
  refine j_eqT (show (j_cpy (j_up V l0 5 (V l1 5)) (l1 + 1) 0 (l0 + 1) 0 (V l1 5)) l0 5 = V l1 5 from (Eq.trans (congrFun (j_cpy_ne (by omega)) _) (j_up_at _ _ _ _))) ?_
  refine j_cpA E (fc7_31 h ⟨hR.1, by have := hR.2; simp only [nativeFrameWords] at *; first | omega | (simp; omega)⟩) d9_2_39 (j_arr_of (show S.1 (l1 + 2) = 1 from (by have q := L7_1k L c1; rw [show l1 + 2 = l1 + 2 by omega]; exact q)) (by decide) rfl) (j_arr_of (show S.1 (l0 + 2) = 1 from (by have q := L7_1k L c2; rw [show l0 + 2 = l0 + 2 by omega]; exact q)) (by decide) rfl) c3 (by decide) (by decide) c4 c4 (Nat.le_of_ble_eq_true rfl) ?_
  refine j_aload_n E d9_2_42 rfl 1 rfl ?_
  refine j_getS (f := 2) (x := l1 + 3) (fg7_18 h) d9_2_43 c1 (by decide) rfl rfl ((L7_2 L c1).trans (by omega)) ?_
  refine j_iconst E d9_2_46 (by decide) ?_
  refine j_aload_n E d9_2_47 rfl 0 rfl ?_
  refine j_getS (f := 2) (x := l0 + 3) (fg7_18 h) d9_2_48 c2 (by decide) rfl rfl ((L7_2 L c2).trans (by omega)) ?_
  refine j_iconst E d9_2_51 (by decide) ?_
  refine j_aload_n E d9_2_52 rfl 0 rfl ?_
  refine j_getI (f := 5) (fg7_27 h) d9_2_53 c2 (by decide) rfl rfl ?_
  refine j_eqT (show (j_cpy (j_cpy (j_up V l0 5 (V l1 5)) (l1 + 1) 0 (l0 + 1) 0 (V l1 5)) (l1 + 2) 0 (l0 + 2) 0 (V l1 5)) l0 5 = V l1 5 from (Eq.trans (congrFun (j_cpy_ne (by omega)) _) (Eq.trans (congrFun (j_cpy_ne (by omega)) _) (j_up_at _ _ _ _)))) ?_
  refine j_cpA E (fc7_31 h ⟨hR.1, by have := hR.2; simp only [nativeFrameWords] at *; first | omega | (simp; omega)⟩) d9_2_56 (j_arr_of (show S.1 (l1 + 3) = 1 from (by have q := L7_2k L c1; rw [show l1 + 3 = l1 + 3 by omega]; exact q)) (by decide) rfl) (j_arr_of (show S.1 (l0 + 3) = 1 from (by have q := L7_2k L c2; rw [show l0 + 3 = l0 + 3 by omega]; exact q)) (by decide) rfl) c3 (by decide) (by decide) c4 c4 (Nat.le_of_ble_eq_true rfl) ?_
  refine j_aload_n E d9_2_59 rfl 1 rfl ?_
  refine j_getS (f := 3) (x := l1 + 4) (fg7_21 h) d9_2_60 c1 (by decide) rfl rfl ((L7_3 L c1).trans (by omega)) ?_
  refine j_iconst E d9_2_63 (by decide) ?_
  refine j_aload_n E d9_2_64 rfl 0 rfl ?_
  refine j_getS (f := 3) (x := l0 + 4) (fg7_21 h) d9_2_65 c2 (by decide) rfl rfl ((L7_3 L c2).trans (by omega)) ?_
  refine j_iconst E d9_2_68 (by decide) ?_
  refine j_aload_n E d9_2_69 rfl 0 rfl ?_
  refine j_getI (f := 5) (fg7_27 h) d9_2_70 c2 (by decide) rfl rfl ?_
  refine j_eqT (show (j_cpy (j_cpy (j_cpy (j_up V l0 5 (V l1 5)) (l1 + 1) 0 (l0 + 1) 0 (V l1 5)) (l1 + 2) 0 (l0 + 2) 0 (V l1 5)) (l1 + 3) 0 (l0 + 3) 0 (V l1 5)) l0 5 = V l1 5 from (Eq.trans (congrFun (j_cpy_ne (by omega)) _) (Eq.trans (congrFun (j_cpy_ne (by omega)) _) (Eq.trans (congrFun (j_cpy_ne (by omega)) _) (j_up_at _ _ _ _))))) ?_
  refine j_cpA E (fc7_31 h ⟨hR.1, by have := hR.2; simp only [nativeFrameWords] at *; first | omega | (simp; omega)⟩) d9_2_73 (j_arr_of (show S.1 (l1 + 4) = 1 from (by have q := L7_3k L c1; rw [show l1 + 4 = l1 + 4 by omega]; exact q)) (by decide) rfl) (j_arr_of (show S.1 (l0 + 4) = 1 from (by have q := L7_3k L c2; rw [show l0 + 4 = l0 + 4 by omega]; exact q)) (by decide) rfl) c3 (by decide) (by decide) c4 c4 (Nat.le_of_ble_eq_true rfl) ?_
  refine j_aload_n E d9_2_76 rfl 1 rfl ?_
  refine j_getS (f := 4) (x := l1 + 5) (fg7_24 h) d9_2_77 c1 (by decide) rfl rfl ((L7_4 L c1).trans (by omega)) ?_
  refine j_iconst E d9_2_80 (by decide) ?_
  refine j_aload_n E d9_2_81 rfl 0 rfl ?_
  refine j_getS (f := 4) (x := l0 + 5) (fg7_24 h) d9_2_82 c2 (by decide) rfl rfl ((L7_4 L c2).trans (by omega)) ?_
  refine j_iconst E d9_2_85 (by decide) ?_
  refine j_aload_n E d9_2_86 rfl 0 rfl ?_
  refine j_getI (f := 5) (fg7_27 h) d9_2_87 c2 (by decide) rfl rfl ?_
  refine j_eqT (show (j_cpy (j_cpy (j_cpy (j_cpy (j_up V l0 5 (V l1 5)) (l1 + 1) 0 (l0 + 1) 0 (V l1 5)) (l1 + 2) 0 (l0 + 2) 0 (V l1 5)) (l1 + 3) 0 (l0 + 3) 0 (V l1 5)) (l1 + 4) 0 (l0 + 4) 0 (V l1 5)) l0 5 = V l1 5 from (Eq.trans (congrFun (j_cpy_ne (by omega)) _) (Eq.trans (congrFun (j_cpy_ne (by omega)) _) (Eq.trans (congrFun (j_cpy_ne (by omega)) _) (Eq.trans (congrFun (j_cpy_ne (by omega)) _) (j_up_at _ _ _ _)))))) ?_
  refine j_cpA E (fc7_31 h ⟨hR.1, by have := hR.2; simp only [nativeFrameWords] at *; first | omega | (simp; omega)⟩) d9_2_90 (j_arr_of (show S.1 (l1 + 5) = 1 from (by have q := L7_4k L c1; rw [show l1 + 5 = l1 + 5 by omega]; exact q)) (by decide) rfl) (j_arr_of (show S.1 (l0 + 5) = 1 from (by have q := L7_4k L c2; rw [show l0 + 5 = l0 + 5 by omega]; exact q)) (by decide) rfl) c3 (by decide) (by decide) c4 c4 (Nat.le_of_ble_eq_true rfl) ?_
  exact R _ _ _ _ _ _ d9_2_93 q hc hs
/- BalanceCoder$Block.confirm(LBalanceCoder$Steps;)V -/
abbrev b_3_5 : ByteArray := prog_3_method_5_code
def y_3_5 : MethodName := ⟨"BalanceCoder$Block", "confirm", "(LBalanceCoder$Steps;)V"⟩
abbrev x3_5 (C : qCx) (G : jG) : Prop := n_ctx C b_3_5 2 "BalanceCoder$Block" G.1 G.2.1
def M3_5 (l : Launch) (mc ms : Nat) (p : Int → Int → jS → jH → Prop) (q : Int → Int → jS → jH → jS → jH → Prop) : Prop := j_Met l vwCl n_TL n_NW n_KT y_3_5 (Cond.code y_3_5 b_3_5 2 none :: n_GW) { frames := 2, cells := mc, slots := ms, locals := 47 } mc ms (fun a S V => ∃ u0 u1 : Int, a = [(2, u0), (2, u1)] ∧ S.1 u0 = 22 ∧ p u0 u1 S V) (fun a S V rs S' V' => ∃ u0 u1 : Int, a = [(2, u0), (2, u1)] ∧ rs = [] ∧ q u0 u1 S V S' V')
theorem e3_5 {l : Launch} {mc ms : Nat} {p : Int → Int → jS → jH → Prop} {q : Int → Int → jS → jH → jS → jH → Prop} (body : ∀ (C : qCx) (G : jG), x3_5 C G → C.2.2.2.1.frames = 2 ∧ C.2.2.2.1.locals = 47 → C.2.2.2.1.cells = mc ∧ C.2.2.2.1.slots = ms → C.2.1 = l → C.2.2.2.2.2.2.2.2.1.name = "confirm" → ∀ (u0 u1 : Int) (S : jS) (V : jH), S.1 u0 = 22 → p u0 u1 S V → j_Rv n_KT 2 C G b_3_5 mc ms (q u0 u1 S V) → j_ok n_KT 2 C G 0 [(0, (2, u0)), (1, (2, u1))] [] S V 0 0) : M3_5 l mc ms p q := by
  refine j_method (ws' := n_GW) (by decide) rfl ?_ ?_
  · rintro a S V ⟨u0, u1, rfl, -⟩
    exact Nat.le_of_ble_eq_true rfl
  · rintro C G htl hl hrm hm hml ho hts hnm hE a S V ⟨u0, u1, rfl, ht, hp⟩ R
    exact body C G ⟨htl, hm, hml, ho, fun w hw => hts w (List.mem_cons_of_mem _ hw), hE⟩ (by rw [hrm]; exact ⟨rfl, rfl⟩) (by rw [hrm]; exact ⟨rfl, rfl⟩) hl hnm u0 u1 S V ht hp (fun pc lo S' V' nc ns d q hc hs => R.1 rfl pc lo S' V' nc ns d ⟨u0, u1, rfl, rfl, q⟩ hc hs)
theorem d3_5_0 : decode b_3_5 0 = .ok (.aload_n 0, 1) := by decide +kernel
theorem d3_5_1 : decode b_3_5 1 = .ok (.iconst 1, 1) := by decide +kernel
theorem d3_5_2 : decode b_3_5 2 = .ok (.putfield 19, 3) := by decide +kernel
theorem d3_5_5 : decode b_3_5 5 = .ok (.aload_n 0, 1) := by decide +kernel
theorem d3_5_6 : decode b_3_5 6 = .ok (.getfield 26, 3) := by decide +kernel
theorem d3_5_9 : decode b_3_5 9 = .ok (.aload_n 1, 1) := by decide +kernel
theorem d3_5_10 : decode b_3_5 10 = .ok (.invokevirtual 39, 3) := by decide +kernel
theorem d3_5_13 : decode b_3_5 13 = .ok (.return_, 1) := by decide +kernel
theorem K3_5_10 {C : qCx} {G : jG} {mc ms : Nat} {p : Int → Int → jS → jH → Prop} {q : Int → Int → jS → jH → jS → jH → Prop} (h : x3_5 C G) (hrm : C.2.2.2.1.frames = 2 ∧ C.2.2.2.1.locals = 47) (hM : M9_2 C.2.1 mc ms p q) : j_Call C b_3_5 n_KT G.1 G.2.1 2 (.invokevirtual 39) mc ms (fun a S V => ∃ u0 u1 : Int, a = [(2, u0), (2, u1)] ∧ S.1 u0 = 28 ∧ p u0 u1 S V) (fun a S V rs S' V' => ∃ u0 u1 : Int, a = [(2, u0), (2, u1)] ∧ rs = [] ∧ q u0 u1 S V S' V') := j_callV n_NWk h.2.2.2.2.2 h.1 hM ⟨h.2.1.1, h.2.1.2, h.2.2.1, h.2.2.2.1, h.2.2.2.2.1⟩ ⟨n_CB (y := y_9_2) (bytes := b_9_2) 1 h.2.2.2.2.1 n_w589 n_w586 n_w4 ⟨by decide, by decide, by decide +kernel⟩ rfl rfl ⟨by rw [hrm.1]; exact Nat.le_of_ble_eq_true rfl, by rw [hrm.2]; exact Nat.le_of_ble_eq_true rfl⟩, h.2.2.2.2.1 _ n_w587, h.2.2.2.2.1 _ n_w588⟩ (Cn := RX7) (fun a S V hP => by obtain ⟨u0, u1, rfl, e, -⟩ := hP; exact ⟨u0, _, 7, _, _, TX7, 6, rfl, rfl, by rw [e]; decide, by rw [e]; rfl, rfl⟩)
theorem t3_5_0 {C : qCx} {G : jG} {S : jS} {V : jH} {nc ns : Nat} {l0 l1 : Int} {mc ms : Nat} {pp : Int → Int → jS → jH → Prop} {qq : Int → Int → jS → jH → jS → jH → Prop} (h : x3_5 C G) (L : j_L S) (hrm : C.2.2.2.1.frames = 2 ∧ C.2.2.2.1.locals = 47) (c1 : S.1 l0 = 22) (hM : M9_2 C.2.1 mc ms pp qq) (hp : pp (l0 + 2) l1 S (j_up V l0 2 1)) (hc : nc + mc ≤ C.2.2.2.1.cells) (hs : ns + ms ≤ C.2.2.2.1.slots) (k : ∀ (S' : jS) (V' : jH), qq (l0 + 2) l1 S (j_up V l0 2 1) S' V' → j_ok n_KT 2 C G 13 [] [] S' V' (nc + mc) (ns + ms)) : j_ok n_KT 2 C G 0 [(0, (2, l0)), (1, (2, l1))] [] S V nc ns := by
  have E := n_E h
  refine j_aload_n E d3_5_0 rfl 0 rfl ?_
  refine j_iconst E d3_5_1 (by decide) ?_
  refine j_putZ (f := 2) (fp1_19 h) (n_hap h 22 1 0 _ rfl) d3_5_2 c1 (by decide) rfl rfl rfl (by decide) ?_
  refine j_aload_n E d3_5_5 rfl 0 rfl ?_
  refine j_getS (f := 3) (x := l0 + 2) (fg1_26 h) d3_5_6 c1 (by decide) rfl rfl ((L1_3 L c1).trans (by omega)) ?_
  refine j_aload_n E d3_5_9 rfl 1 rfl ?_
  refine j_call E (K3_5_10 h hrm hM) d3_5_10 (a := [(2, l0 + 2), (2, l1)]) (sk := []) rfl ⟨l0 + 2, l1, rfl, (show S.1 (l0 + 2) = 28 from (by have q := L1_3k L c1; rw [show l0 + 2 = l0 + 2 by omega]; exact q)), hp⟩ (Nat.le_of_ble_eq_true rfl) hc hs ?_
  rintro rs S' V' ⟨z0, z1, e1, rfl, q⟩
  simp only [List.cons.injEq, Prod.mk.injEq, and_true, true_and] at e1
  obtain ⟨rfl, rfl⟩ := e1
  exact j_pick [] rfl (k S' V' q)
theorem t3_5_13 {C : qCx} {G : jG} {S : jS} {V : jH} {nc ns : Nat} {mc ms : Nat} {qf : jS → jH → Prop} (h : x3_5 C G)  (R : j_Rv n_KT 2 C G b_3_5 mc ms qf) (q : qf S V) (hc : nc ≤ mc) (hs : ns ≤ ms) : j_ok n_KT 2 C G 13 [] [] S V nc ns := by
  have E := n_E h
  exact R _ _ _ _ _ _ d3_5_13 q hc hs
/- BalanceCoder$Block.fill(LBalanceCoder$Table;LBalanceCoder$Bench;I)V -/
abbrev b_3_7 : ByteArray := prog_3_method_7_code
def y_3_7 : MethodName := ⟨"BalanceCoder$Block", "fill", "(LBalanceCoder$Table;LBalanceCoder$Bench;I)V"⟩
abbrev x3_7 (C : qCx) (G : jG) : Prop := n_ctx C b_3_7 5 "BalanceCoder$Block" G.1 G.2.1
def M3_7 (l : Launch) (mc ms : Nat) (p : Int → Int → Int → Int → jS → jH → Prop) (q : Int → Int → Int → Int → jS → jH → jS → jH → Prop) : Prop := j_Met l vwCl n_TL n_NW n_KT y_3_7 (Cond.code y_3_7 b_3_7 5 none :: n_GW) { frames := 4, cells := mc, slots := ms, locals := 92 } mc ms (fun a S V => ∃ u0 u1 u2 u3 : Int, a = [(2, u0), (2, u1), (2, u2), (0, u3)] ∧ S.1 u0 = 22 ∧ p u0 u1 u2 u3 S V) (fun a S V rs S' V' => ∃ u0 u1 u2 u3 : Int, a = [(2, u0), (2, u1), (2, u2), (0, u3)] ∧ rs = [] ∧ q u0 u1 u2 u3 S V S' V')
theorem e3_7 {l : Launch} {mc ms : Nat} {p : Int → Int → Int → Int → jS → jH → Prop} {q : Int → Int → Int → Int → jS → jH → jS → jH → Prop} (body : ∀ (C : qCx) (G : jG), x3_7 C G → C.2.2.2.1.frames = 4 ∧ C.2.2.2.1.locals = 92 → C.2.2.2.1.cells = mc ∧ C.2.2.2.1.slots = ms → C.2.1 = l → C.2.2.2.2.2.2.2.2.1.name = "fill" → ∀ (u0 u1 u2 u3 : Int) (S : jS) (V : jH), S.1 u0 = 22 → p u0 u1 u2 u3 S V → j_Rv n_KT 5 C G b_3_7 mc ms (q u0 u1 u2 u3 S V) → j_ok n_KT 5 C G 0 [(0, (2, u0)), (1, (2, u1)), (2, (2, u2)), (3, (0, u3))] [] S V 0 0) : M3_7 l mc ms p q := by
  refine j_method (ws' := n_GW) (by decide) rfl ?_ ?_
  · rintro a S V ⟨u0, u1, u2, u3, rfl, -⟩
    exact Nat.le_of_ble_eq_true rfl
  · rintro C G htl hl hrm hm hml ho hts hnm hE a S V ⟨u0, u1, u2, u3, rfl, ht, hp⟩ R
    exact body C G ⟨htl, hm, hml, ho, fun w hw => hts w (List.mem_cons_of_mem _ hw), hE⟩ (by rw [hrm]; exact ⟨rfl, rfl⟩) (by rw [hrm]; exact ⟨rfl, rfl⟩) hl hnm u0 u1 u2 u3 S V ht hp (fun pc lo S' V' nc ns d q hc hs => R.1 rfl pc lo S' V' nc ns d ⟨u0, u1, u2, u3, rfl, rfl, q⟩ hc hs)
theorem d3_7_0 : decode b_3_7 0 = .ok (.aload_n 0, 1) := by decide +kernel
theorem d3_7_1 : decode b_3_7 1 = .ok (.iconst 0, 1) := by decide +kernel
theorem d3_7_2 : decode b_3_7 2 = .ok (.putfield 15, 3) := by decide +kernel
theorem d3_7_5 : decode b_3_7 5 = .ok (.aload_n 0, 1) := by decide +kernel
theorem d3_7_6 : decode b_3_7 6 = .ok (.aload_n 1, 1) := by decide +kernel
theorem d3_7_7 : decode b_3_7 7 = .ok (.getfield 46, 3) := by decide +kernel
theorem d3_7_10 : decode b_3_7 10 = .ok (.iconst 1, 1) := by decide +kernel
theorem d3_7_11 : decode b_3_7 11 = .ok (.invokevirtual 51, 3) := by decide +kernel
theorem d3_7_14 : decode b_3_7 14 = .ok (.aload_n 0, 1) := by decide +kernel
theorem d3_7_15 : decode b_3_7 15 = .ok (.aload_n 1, 1) := by decide +kernel
theorem d3_7_16 : decode b_3_7 16 = .ok (.getfield 55, 3) := by decide +kernel
theorem d3_7_19 : decode b_3_7 19 = .ok (.iconst 1, 1) := by decide +kernel
theorem d3_7_20 : decode b_3_7 20 = .ok (.invokevirtual 51, 3) := by decide +kernel
theorem d3_7_23 : decode b_3_7 23 = .ok (.aload_n 0, 1) := by decide +kernel
theorem d3_7_24 : decode b_3_7 24 = .ok (.iload_n 3, 1) := by decide +kernel
theorem d3_7_25 : decode b_3_7 25 = .ok (.iconst 1, 1) := by decide +kernel
theorem d3_7_26 : decode b_3_7 26 = .ok (.invokevirtual 51, 3) := by decide +kernel
theorem d3_7_29 : decode b_3_7 29 = .ok (.aload_n 0, 1) := by decide +kernel
theorem d3_7_30 : decode b_3_7 30 = .ok (.aload_n 2, 1) := by decide +kernel
theorem d3_7_31 : decode b_3_7 31 = .ok (.getfield 58, 3) := by decide +kernel
theorem d3_7_34 : decode b_3_7 34 = .ok (.getfield 43, 3) := by decide +kernel
theorem d3_7_37 : decode b_3_7 37 = .ok (.iconst 2, 1) := by decide +kernel
theorem d3_7_38 : decode b_3_7 38 = .ok (.invokevirtual 51, 3) := by decide +kernel
theorem d3_7_41 : decode b_3_7 41 = .ok (.aload_n 1, 1) := by decide +kernel
theorem d3_7_42 : decode b_3_7 42 = .ok (.invokevirtual 61, 3) := by decide +kernel
theorem d3_7_45 : decode b_3_7 45 = .ok (.ifCond .eq 32, 3) := by decide +kernel
theorem d3_7_48 : decode b_3_7 48 = .ok (.iconst 0, 1) := by decide +kernel
theorem d3_7_49 : decode b_3_7 49 = .ok (.istore 4, 2) := by decide +kernel
theorem d3_7_51 : decode b_3_7 51 = .ok (.iload 4, 2) := by decide +kernel
theorem d3_7_53 : decode b_3_7 53 = .ok (.aload_n 1, 1) := by decide +kernel
theorem d3_7_54 : decode b_3_7 54 = .ok (.invokevirtual 65, 3) := by decide +kernel
theorem d3_7_57 : decode b_3_7 57 = .ok (.if_icmp .ge 20, 3) := by decide +kernel
theorem d3_7_60 : decode b_3_7 60 = .ok (.aload_n 0, 1) := by decide +kernel
theorem d3_7_61 : decode b_3_7 61 = .ok (.aload_n 1, 1) := by decide +kernel
theorem d3_7_62 : decode b_3_7 62 = .ok (.getfield 69, 3) := by decide +kernel
theorem d3_7_65 : decode b_3_7 65 = .ok (.iload 4, 2) := by decide +kernel
theorem d3_7_67 : decode b_3_7 67 = .ok (.aaload, 1) := by decide +kernel
theorem d3_7_68 : decode b_3_7 68 = .ok (.invokevirtual 73, 3) := by decide +kernel
theorem d3_7_71 : decode b_3_7 71 = .ok (.iinc 4 1, 3) := by decide +kernel
theorem d3_7_74 : decode b_3_7 74 = .ok (.goto (-23), 3) := by decide +kernel
theorem d3_7_77 : decode b_3_7 77 = .ok (.iconst 0, 1) := by decide +kernel
theorem d3_7_78 : decode b_3_7 78 = .ok (.istore 4, 2) := by decide +kernel
theorem d3_7_80 : decode b_3_7 80 = .ok (.iload 4, 2) := by decide +kernel
theorem d3_7_82 : decode b_3_7 82 = .ok (.iload_n 3, 1) := by decide +kernel
theorem d3_7_83 : decode b_3_7 83 = .ok (.if_icmp .ge 21, 3) := by decide +kernel
theorem d3_7_86 : decode b_3_7 86 = .ok (.aload_n 0, 1) := by decide +kernel
theorem d3_7_87 : decode b_3_7 87 = .ok (.aload_n 2, 1) := by decide +kernel
theorem d3_7_88 : decode b_3_7 88 = .ok (.getfield 77, 3) := by decide +kernel
theorem d3_7_91 : decode b_3_7 91 = .ok (.iload 4, 2) := by decide +kernel
theorem d3_7_93 : decode b_3_7 93 = .ok (.iaload, 1) := by decide +kernel
theorem d3_7_94 : decode b_3_7 94 = .ok (.iconst 3, 1) := by decide +kernel
theorem d3_7_95 : decode b_3_7 95 = .ok (.invokevirtual 51, 3) := by decide +kernel
theorem d3_7_98 : decode b_3_7 98 = .ok (.iinc 4 1, 3) := by decide +kernel
theorem d3_7_101 : decode b_3_7 101 = .ok (.goto (-21), 3) := by decide +kernel
theorem d3_7_104 : decode b_3_7 104 = .ok (.aload_n 0, 1) := by decide +kernel
theorem d3_7_105 : decode b_3_7 105 = .ok (.aload_n 2, 1) := by decide +kernel
theorem d3_7_106 : decode b_3_7 106 = .ok (.getfield 80, 3) := by decide +kernel
theorem d3_7_109 : decode b_3_7 109 = .ok (.iconst 2, 1) := by decide +kernel
theorem d3_7_110 : decode b_3_7 110 = .ok (.invokevirtual 51, 3) := by decide +kernel
theorem d3_7_113 : decode b_3_7 113 = .ok (.iconst 0, 1) := by decide +kernel
theorem d3_7_114 : decode b_3_7 114 = .ok (.istore 4, 2) := by decide +kernel
theorem d3_7_116 : decode b_3_7 116 = .ok (.iload 4, 2) := by decide +kernel
theorem d3_7_118 : decode b_3_7 118 = .ok (.aload_n 2, 1) := by decide +kernel
theorem d3_7_119 : decode b_3_7 119 = .ok (.getfield 80, 3) := by decide +kernel
theorem d3_7_122 : decode b_3_7 122 = .ok (.if_icmp .ge 21, 3) := by decide +kernel
theorem d3_7_125 : decode b_3_7 125 = .ok (.aload_n 0, 1) := by decide +kernel
theorem d3_7_126 : decode b_3_7 126 = .ok (.aload_n 2, 1) := by decide +kernel
theorem d3_7_127 : decode b_3_7 127 = .ok (.getfield 83, 3) := by decide +kernel
theorem d3_7_130 : decode b_3_7 130 = .ok (.iload 4, 2) := by decide +kernel
theorem d3_7_132 : decode b_3_7 132 = .ok (.iaload, 1) := by decide +kernel
theorem d3_7_133 : decode b_3_7 133 = .ok (.iconst 1, 1) := by decide +kernel
theorem d3_7_134 : decode b_3_7 134 = .ok (.invokevirtual 51, 3) := by decide +kernel
theorem d3_7_137 : decode b_3_7 137 = .ok (.iinc 4 1, 3) := by decide +kernel
theorem d3_7_140 : decode b_3_7 140 = .ok (.goto (-24), 3) := by decide +kernel
theorem d3_7_143 : decode b_3_7 143 = .ok (.aload_n 0, 1) := by decide +kernel
theorem d3_7_144 : decode b_3_7 144 = .ok (.aload_n 0, 1) := by decide +kernel
theorem d3_7_145 : decode b_3_7 145 = .ok (.aload_n 0, 1) := by decide +kernel
theorem d3_7_146 : decode b_3_7 146 = .ok (.getfield 15, 3) := by decide +kernel
theorem d3_7_149 : decode b_3_7 149 = .ok (.invokevirtual 84, 3) := by decide +kernel
theorem d3_7_152 : decode b_3_7 152 = .ok (.iconst 2, 1) := by decide +kernel
theorem d3_7_153 : decode b_3_7 153 = .ok (.invokevirtual 51, 3) := by decide +kernel
theorem d3_7_156 : decode b_3_7 156 = .ok (.aload_n 0, 1) := by decide +kernel
theorem d3_7_157 : decode b_3_7 157 = .ok (.iconst 0, 1) := by decide +kernel
theorem d3_7_158 : decode b_3_7 158 = .ok (.putfield 30, 3) := by decide +kernel
theorem d3_7_161 : decode b_3_7 161 = .ok (.aload_n 0, 1) := by decide +kernel
theorem d3_7_162 : decode b_3_7 162 = .ok (.aload_n 2, 1) := by decide +kernel
theorem d3_7_163 : decode b_3_7 163 = .ok (.getfield 58, 3) := by decide +kernel
theorem d3_7_166 : decode b_3_7 166 = .ok (.invokevirtual 88, 3) := by decide +kernel
theorem d3_7_169 : decode b_3_7 169 = .ok (.return_, 1) := by decide +kernel
theorem K3_7_11 {C : qCx} {G : jG} {mc ms : Nat} {p : Int → Int → Int → jS → jH → Prop} {q : Int → Int → Int → jS → jH → jS → jH → Prop} (h : x3_7 C G) (hrm : C.2.2.2.1.frames = 4 ∧ C.2.2.2.1.locals = 92) (hM : M3_6 C.2.1 mc ms p q) : j_Call C b_3_7 n_KT G.1 G.2.1 5 (.invokevirtual 51) mc ms (fun a S V => ∃ u0 u1 u2 : Int, a = [(2, u0), (0, u1), (0, u2)] ∧ S.1 u0 = 22 ∧ p u0 u1 u2 S V) (fun a S V rs S' V' => ∃ u0 u1 u2 : Int, a = [(2, u0), (0, u1), (0, u2)] ∧ rs = [] ∧ q u0 u1 u2 S V S' V') := j_callV n_NWk h.2.2.2.2.2 h.1 hM ⟨h.2.1.1, h.2.1.2, h.2.2.1, h.2.2.2.1, h.2.2.2.2.1⟩ ⟨n_CB (y := y_3_6) (bytes := b_3_6) 2 h.2.2.2.2.1 n_w568 n_w565 n_w3 ⟨by decide, by decide, by decide +kernel⟩ rfl rfl ⟨by rw [hrm.1]; exact Nat.le_of_ble_eq_true rfl, by rw [hrm.2]; exact Nat.le_of_ble_eq_true rfl⟩, h.2.2.2.2.1 _ n_w566, h.2.2.2.2.1 _ n_w567⟩ (Cn := RX1) (fun a S V hP => by obtain ⟨u0, u1, u2, rfl, e, -⟩ := hP; exact ⟨u0, _, 1, _, _, TX1, 5, rfl, rfl, by rw [e]; decide, by rw [e]; rfl, rfl⟩)
theorem K3_7_20 {C : qCx} {G : jG} {mc ms : Nat} {p : Int → Int → Int → jS → jH → Prop} {q : Int → Int → Int → jS → jH → jS → jH → Prop} (h : x3_7 C G) (hrm : C.2.2.2.1.frames = 4 ∧ C.2.2.2.1.locals = 92) (hM : M3_6 C.2.1 mc ms p q) : j_Call C b_3_7 n_KT G.1 G.2.1 5 (.invokevirtual 51) mc ms (fun a S V => ∃ u0 u1 u2 : Int, a = [(2, u0), (0, u1), (0, u2)] ∧ S.1 u0 = 22 ∧ p u0 u1 u2 S V) (fun a S V rs S' V' => ∃ u0 u1 u2 : Int, a = [(2, u0), (0, u1), (0, u2)] ∧ rs = [] ∧ q u0 u1 u2 S V S' V') := j_callV n_NWk h.2.2.2.2.2 h.1 hM ⟨h.2.1.1, h.2.1.2, h.2.2.1, h.2.2.2.1, h.2.2.2.2.1⟩ ⟨n_CB (y := y_3_6) (bytes := b_3_6) 2 h.2.2.2.2.1 n_w568 n_w565 n_w3 ⟨by decide, by decide, by decide +kernel⟩ rfl rfl ⟨by rw [hrm.1]; exact Nat.le_of_ble_eq_true rfl, by rw [hrm.2]; exact Nat.le_of_ble_eq_true rfl⟩, h.2.2.2.2.1 _ n_w566, h.2.2.2.2.1 _ n_w567⟩ (Cn := RX1) (fun a S V hP => by obtain ⟨u0, u1, u2, rfl, e, -⟩ := hP; exact ⟨u0, _, 1, _, _, TX1, 5, rfl, rfl, by rw [e]; decide, by rw [e]; rfl, rfl⟩)
theorem K3_7_26 {C : qCx} {G : jG} {mc ms : Nat} {p : Int → Int → Int → jS → jH → Prop} {q : Int → Int → Int → jS → jH → jS → jH → Prop} (h : x3_7 C G) (hrm : C.2.2.2.1.frames = 4 ∧ C.2.2.2.1.locals = 92) (hM : M3_6 C.2.1 mc ms p q) : j_Call C b_3_7 n_KT G.1 G.2.1 5 (.invokevirtual 51) mc ms (fun a S V => ∃ u0 u1 u2 : Int, a = [(2, u0), (0, u1), (0, u2)] ∧ S.1 u0 = 22 ∧ p u0 u1 u2 S V) (fun a S V rs S' V' => ∃ u0 u1 u2 : Int, a = [(2, u0), (0, u1), (0, u2)] ∧ rs = [] ∧ q u0 u1 u2 S V S' V') := j_callV n_NWk h.2.2.2.2.2 h.1 hM ⟨h.2.1.1, h.2.1.2, h.2.2.1, h.2.2.2.1, h.2.2.2.2.1⟩ ⟨n_CB (y := y_3_6) (bytes := b_3_6) 2 h.2.2.2.2.1 n_w568 n_w565 n_w3 ⟨by decide, by decide, by decide +kernel⟩ rfl rfl ⟨by rw [hrm.1]; exact Nat.le_of_ble_eq_true rfl, by rw [hrm.2]; exact Nat.le_of_ble_eq_true rfl⟩, h.2.2.2.2.1 _ n_w566, h.2.2.2.2.1 _ n_w567⟩ (Cn := RX1) (fun a S V hP => by obtain ⟨u0, u1, u2, rfl, e, -⟩ := hP; exact ⟨u0, _, 1, _, _, TX1, 5, rfl, rfl, by rw [e]; decide, by rw [e]; rfl, rfl⟩)
theorem K3_7_38 {C : qCx} {G : jG} {mc ms : Nat} {p : Int → Int → Int → jS → jH → Prop} {q : Int → Int → Int → jS → jH → jS → jH → Prop} (h : x3_7 C G) (hrm : C.2.2.2.1.frames = 4 ∧ C.2.2.2.1.locals = 92) (hM : M3_6 C.2.1 mc ms p q) : j_Call C b_3_7 n_KT G.1 G.2.1 5 (.invokevirtual 51) mc ms (fun a S V => ∃ u0 u1 u2 : Int, a = [(2, u0), (0, u1), (0, u2)] ∧ S.1 u0 = 22 ∧ p u0 u1 u2 S V) (fun a S V rs S' V' => ∃ u0 u1 u2 : Int, a = [(2, u0), (0, u1), (0, u2)] ∧ rs = [] ∧ q u0 u1 u2 S V S' V') := j_callV n_NWk h.2.2.2.2.2 h.1 hM ⟨h.2.1.1, h.2.1.2, h.2.2.1, h.2.2.2.1, h.2.2.2.2.1⟩ ⟨n_CB (y := y_3_6) (bytes := b_3_6) 2 h.2.2.2.2.1 n_w568 n_w565 n_w3 ⟨by decide, by decide, by decide +kernel⟩ rfl rfl ⟨by rw [hrm.1]; exact Nat.le_of_ble_eq_true rfl, by rw [hrm.2]; exact Nat.le_of_ble_eq_true rfl⟩, h.2.2.2.2.1 _ n_w566, h.2.2.2.2.1 _ n_w567⟩ (Cn := RX1) (fun a S V hP => by obtain ⟨u0, u1, u2, rfl, e, -⟩ := hP; exact ⟨u0, _, 1, _, _, TX1, 5, rfl, rfl, by rw [e]; decide, by rw [e]; rfl, rfl⟩)
theorem K3_7_42 {C : qCx} {G : jG} {mc ms : Nat} {p : Int → jS → jH → Prop} {q : Int → jS → jH → Int → jS → jH → Prop} (h : x3_7 C G) (hrm : C.2.2.2.1.frames = 4 ∧ C.2.2.2.1.locals = 92) (hM : M10_10 C.2.1 mc ms p q) : j_Call C b_3_7 n_KT G.1 G.2.1 5 (.invokevirtual 61) mc ms (fun a S V => ∃ u0 : Int, a = [(2, u0)] ∧ S.1 u0 = 29 ∧ p u0 S V) (fun a S V rs S' V' => ∃ u0 r : Int, a = [(2, u0)] ∧ rs = [(0, r)] ∧ q u0 S V r S' V') := j_callV n_NWk h.2.2.2.2.2 h.1 hM ⟨h.2.1.1, h.2.1.2, h.2.2.1, h.2.2.2.1, h.2.2.2.2.1⟩ ⟨n_CB (y := y_10_10) (bytes := b_10_10) 0 h.2.2.2.2.1 n_w552 n_w569 n_w7 ⟨by decide, by decide, by decide +kernel⟩ rfl rfl ⟨by rw [hrm.1]; exact Nat.le_of_ble_eq_true rfl, by rw [hrm.2]; exact Nat.le_of_ble_eq_true rfl⟩, h.2.2.2.2.1 _ n_w550, h.2.2.2.2.1 _ n_w551⟩ (Cn := RX8) (fun a S V hP => by obtain ⟨u0, rfl, e, -⟩ := hP; exact ⟨u0, _, 8, _, _, TX8, 3, rfl, rfl, by rw [e]; decide, by rw [e]; rfl, rfl⟩)
theorem K3_7_54 {C : qCx} {G : jG} {mc ms : Nat} {p : Int → jS → jH → Prop} {q : Int → jS → jH → Int → jS → jH → Prop} (h : x3_7 C G) (hrm : C.2.2.2.1.frames = 4 ∧ C.2.2.2.1.locals = 92) (hM : M10_5 C.2.1 mc ms p q) : j_Call C b_3_7 n_KT G.1 G.2.1 5 (.invokevirtual 65) mc ms (fun a S V => ∃ u0 : Int, a = [(2, u0)] ∧ S.1 u0 = 29 ∧ p u0 S V) (fun a S V rs S' V' => ∃ u0 r : Int, a = [(2, u0)] ∧ rs = [(0, r)] ∧ q u0 S V r S' V') := j_callV n_NWk h.2.2.2.2.2 h.1 hM ⟨h.2.1.1, h.2.1.2, h.2.2.1, h.2.2.2.1, h.2.2.2.2.1⟩ ⟨n_CB (y := y_10_5) (bytes := b_10_5) 0 h.2.2.2.2.1 n_w404 n_w570 n_w7 ⟨by decide, by decide, by decide +kernel⟩ rfl rfl ⟨by rw [hrm.1]; exact Nat.le_of_ble_eq_true rfl, by rw [hrm.2]; exact Nat.le_of_ble_eq_true rfl⟩, h.2.2.2.2.1 _ n_w402, h.2.2.2.2.1 _ n_w403⟩ (Cn := RX8) (fun a S V hP => by obtain ⟨u0, rfl, e, -⟩ := hP; exact ⟨u0, _, 8, _, _, TX8, 3, rfl, rfl, by rw [e]; decide, by rw [e]; rfl, rfl⟩)
theorem K3_7_68 {C : qCx} {G : jG} {mc ms : Nat} {p : Int → Int → jS → jH → Prop} {q : Int → Int → jS → jH → jS → jH → Prop} (h : x3_7 C G) (hrm : C.2.2.2.1.frames = 4 ∧ C.2.2.2.1.locals = 92) (hM : M3_8 C.2.1 mc ms p q) : j_Call C b_3_7 n_KT G.1 G.2.1 5 (.invokevirtual 73) mc ms (fun a S V => ∃ u0 u1 : Int, a = [(2, u0), (2, u1)] ∧ S.1 u0 = 22 ∧ p u0 u1 S V) (fun a S V rs S' V' => ∃ u0 u1 : Int, a = [(2, u0), (2, u1)] ∧ rs = [] ∧ q u0 u1 S V S' V') := j_callV n_NWk h.2.2.2.2.2 h.1 hM ⟨h.2.1.1, h.2.1.2, h.2.2.1, h.2.2.2.1, h.2.2.2.2.1⟩ ⟨n_CB (y := y_3_8) (bytes := b_3_8) 1 h.2.2.2.2.1 n_w574 n_w571 n_w3 ⟨by decide, by decide, by decide +kernel⟩ rfl rfl ⟨by rw [hrm.1]; exact Nat.le_of_ble_eq_true rfl, by rw [hrm.2]; exact Nat.le_of_ble_eq_true rfl⟩, h.2.2.2.2.1 _ n_w573, h.2.2.2.2.1 _ n_s16⟩ (Cn := RX1) (fun a S V hP => by obtain ⟨u0, u1, rfl, e, -⟩ := hP; exact ⟨u0, _, 1, _, _, TX1, 5, rfl, rfl, by rw [e]; decide, by rw [e]; rfl, rfl⟩)
theorem K3_7_95 {C : qCx} {G : jG} {mc ms : Nat} {p : Int → Int → Int → jS → jH → Prop} {q : Int → Int → Int → jS → jH → jS → jH → Prop} (h : x3_7 C G) (hrm : C.2.2.2.1.frames = 4 ∧ C.2.2.2.1.locals = 92) (hM : M3_6 C.2.1 mc ms p q) : j_Call C b_3_7 n_KT G.1 G.2.1 5 (.invokevirtual 51) mc ms (fun a S V => ∃ u0 u1 u2 : Int, a = [(2, u0), (0, u1), (0, u2)] ∧ S.1 u0 = 22 ∧ p u0 u1 u2 S V) (fun a S V rs S' V' => ∃ u0 u1 u2 : Int, a = [(2, u0), (0, u1), (0, u2)] ∧ rs = [] ∧ q u0 u1 u2 S V S' V') := j_callV n_NWk h.2.2.2.2.2 h.1 hM ⟨h.2.1.1, h.2.1.2, h.2.2.1, h.2.2.2.1, h.2.2.2.2.1⟩ ⟨n_CB (y := y_3_6) (bytes := b_3_6) 2 h.2.2.2.2.1 n_w568 n_w565 n_w3 ⟨by decide, by decide, by decide +kernel⟩ rfl rfl ⟨by rw [hrm.1]; exact Nat.le_of_ble_eq_true rfl, by rw [hrm.2]; exact Nat.le_of_ble_eq_true rfl⟩, h.2.2.2.2.1 _ n_w566, h.2.2.2.2.1 _ n_w567⟩ (Cn := RX1) (fun a S V hP => by obtain ⟨u0, u1, u2, rfl, e, -⟩ := hP; exact ⟨u0, _, 1, _, _, TX1, 5, rfl, rfl, by rw [e]; decide, by rw [e]; rfl, rfl⟩)
theorem K3_7_110 {C : qCx} {G : jG} {mc ms : Nat} {p : Int → Int → Int → jS → jH → Prop} {q : Int → Int → Int → jS → jH → jS → jH → Prop} (h : x3_7 C G) (hrm : C.2.2.2.1.frames = 4 ∧ C.2.2.2.1.locals = 92) (hM : M3_6 C.2.1 mc ms p q) : j_Call C b_3_7 n_KT G.1 G.2.1 5 (.invokevirtual 51) mc ms (fun a S V => ∃ u0 u1 u2 : Int, a = [(2, u0), (0, u1), (0, u2)] ∧ S.1 u0 = 22 ∧ p u0 u1 u2 S V) (fun a S V rs S' V' => ∃ u0 u1 u2 : Int, a = [(2, u0), (0, u1), (0, u2)] ∧ rs = [] ∧ q u0 u1 u2 S V S' V') := j_callV n_NWk h.2.2.2.2.2 h.1 hM ⟨h.2.1.1, h.2.1.2, h.2.2.1, h.2.2.2.1, h.2.2.2.2.1⟩ ⟨n_CB (y := y_3_6) (bytes := b_3_6) 2 h.2.2.2.2.1 n_w568 n_w565 n_w3 ⟨by decide, by decide, by decide +kernel⟩ rfl rfl ⟨by rw [hrm.1]; exact Nat.le_of_ble_eq_true rfl, by rw [hrm.2]; exact Nat.le_of_ble_eq_true rfl⟩, h.2.2.2.2.1 _ n_w566, h.2.2.2.2.1 _ n_w567⟩ (Cn := RX1) (fun a S V hP => by obtain ⟨u0, u1, u2, rfl, e, -⟩ := hP; exact ⟨u0, _, 1, _, _, TX1, 5, rfl, rfl, by rw [e]; decide, by rw [e]; rfl, rfl⟩)
theorem K3_7_134 {C : qCx} {G : jG} {mc ms : Nat} {p : Int → Int → Int → jS → jH → Prop} {q : Int → Int → Int → jS → jH → jS → jH → Prop} (h : x3_7 C G) (hrm : C.2.2.2.1.frames = 4 ∧ C.2.2.2.1.locals = 92) (hM : M3_6 C.2.1 mc ms p q) : j_Call C b_3_7 n_KT G.1 G.2.1 5 (.invokevirtual 51) mc ms (fun a S V => ∃ u0 u1 u2 : Int, a = [(2, u0), (0, u1), (0, u2)] ∧ S.1 u0 = 22 ∧ p u0 u1 u2 S V) (fun a S V rs S' V' => ∃ u0 u1 u2 : Int, a = [(2, u0), (0, u1), (0, u2)] ∧ rs = [] ∧ q u0 u1 u2 S V S' V') := j_callV n_NWk h.2.2.2.2.2 h.1 hM ⟨h.2.1.1, h.2.1.2, h.2.2.1, h.2.2.2.1, h.2.2.2.2.1⟩ ⟨n_CB (y := y_3_6) (bytes := b_3_6) 2 h.2.2.2.2.1 n_w568 n_w565 n_w3 ⟨by decide, by decide, by decide +kernel⟩ rfl rfl ⟨by rw [hrm.1]; exact Nat.le_of_ble_eq_true rfl, by rw [hrm.2]; exact Nat.le_of_ble_eq_true rfl⟩, h.2.2.2.2.1 _ n_w566, h.2.2.2.2.1 _ n_w567⟩ (Cn := RX1) (fun a S V hP => by obtain ⟨u0, u1, u2, rfl, e, -⟩ := hP; exact ⟨u0, _, 1, _, _, TX1, 5, rfl, rfl, by rw [e]; decide, by rw [e]; rfl, rfl⟩)
theorem K3_7_149 {C : qCx} {G : jG} {mc ms : Nat} {p : Int → Int → jS → jH → Prop} {q : Int → Int → jS → jH → Int → jS → jH → Prop} (h : x3_7 C G) (hrm : C.2.2.2.1.frames = 4 ∧ C.2.2.2.1.locals = 92) (hM : M3_9 C.2.1 mc ms p q) : j_Call C b_3_7 n_KT G.1 G.2.1 5 (.invokevirtual 84) mc ms (fun a S V => ∃ u0 u1 : Int, a = [(2, u0), (0, u1)] ∧ S.1 u0 = 22 ∧ p u0 u1 S V) (fun a S V rs S' V' => ∃ u0 u1 r : Int, a = [(2, u0), (0, u1)] ∧ rs = [(0, r)] ∧ q u0 u1 S V r S' V') := j_callV n_NWk h.2.2.2.2.2 h.1 hM ⟨h.2.1.1, h.2.1.2, h.2.2.1, h.2.2.2.1, h.2.2.2.2.1⟩ ⟨n_CB (y := y_3_9) (bytes := b_3_9) 1 h.2.2.2.2.1 n_w580 n_w577 n_w3 ⟨by decide, by decide, by decide +kernel⟩ rfl rfl ⟨by rw [hrm.1]; exact Nat.le_of_ble_eq_true rfl, by rw [hrm.2]; exact Nat.le_of_ble_eq_true rfl⟩, h.2.2.2.2.1 _ n_w578, h.2.2.2.2.1 _ n_w579⟩ (Cn := RX1) (fun a S V hP => by obtain ⟨u0, u1, rfl, e, -⟩ := hP; exact ⟨u0, _, 1, _, _, TX1, 5, rfl, rfl, by rw [e]; decide, by rw [e]; rfl, rfl⟩)
theorem K3_7_153 {C : qCx} {G : jG} {mc ms : Nat} {p : Int → Int → Int → jS → jH → Prop} {q : Int → Int → Int → jS → jH → jS → jH → Prop} (h : x3_7 C G) (hrm : C.2.2.2.1.frames = 4 ∧ C.2.2.2.1.locals = 92) (hM : M3_6 C.2.1 mc ms p q) : j_Call C b_3_7 n_KT G.1 G.2.1 5 (.invokevirtual 51) mc ms (fun a S V => ∃ u0 u1 u2 : Int, a = [(2, u0), (0, u1), (0, u2)] ∧ S.1 u0 = 22 ∧ p u0 u1 u2 S V) (fun a S V rs S' V' => ∃ u0 u1 u2 : Int, a = [(2, u0), (0, u1), (0, u2)] ∧ rs = [] ∧ q u0 u1 u2 S V S' V') := j_callV n_NWk h.2.2.2.2.2 h.1 hM ⟨h.2.1.1, h.2.1.2, h.2.2.1, h.2.2.2.1, h.2.2.2.2.1⟩ ⟨n_CB (y := y_3_6) (bytes := b_3_6) 2 h.2.2.2.2.1 n_w568 n_w565 n_w3 ⟨by decide, by decide, by decide +kernel⟩ rfl rfl ⟨by rw [hrm.1]; exact Nat.le_of_ble_eq_true rfl, by rw [hrm.2]; exact Nat.le_of_ble_eq_true rfl⟩, h.2.2.2.2.1 _ n_w566, h.2.2.2.2.1 _ n_w567⟩ (Cn := RX1) (fun a S V hP => by obtain ⟨u0, u1, u2, rfl, e, -⟩ := hP; exact ⟨u0, _, 1, _, _, TX1, 5, rfl, rfl, by rw [e]; decide, by rw [e]; rfl, rfl⟩)
theorem K3_7_166 {C : qCx} {G : jG} {mc ms : Nat} {p : Int → Int → jS → jH → Prop} {q : Int → Int → jS → jH → jS → jH → Prop} (h : x3_7 C G) (hrm : C.2.2.2.1.frames = 4 ∧ C.2.2.2.1.locals = 92) (hM : M3_5 C.2.1 mc ms p q) : j_Call C b_3_7 n_KT G.1 G.2.1 5 (.invokevirtual 88) mc ms (fun a S V => ∃ u0 u1 : Int, a = [(2, u0), (2, u1)] ∧ S.1 u0 = 22 ∧ p u0 u1 S V) (fun a S V rs S' V' => ∃ u0 u1 : Int, a = [(2, u0), (2, u1)] ∧ rs = [] ∧ q u0 u1 S V S' V') := j_callV n_NWk h.2.2.2.2.2 h.1 hM ⟨h.2.1.1, h.2.1.2, h.2.2.1, h.2.2.2.1, h.2.2.2.2.1⟩ ⟨n_CB (y := y_3_5) (bytes := b_3_5) 1 h.2.2.2.2.1 n_w585 n_w582 n_w3 ⟨by decide, by decide, by decide +kernel⟩ rfl rfl ⟨by rw [hrm.1]; exact Nat.le_of_ble_eq_true rfl, by rw [hrm.2]; exact Nat.le_of_ble_eq_true rfl⟩, h.2.2.2.2.1 _ n_w583, h.2.2.2.2.1 _ n_w584⟩ (Cn := RX1) (fun a S V hP => by obtain ⟨u0, u1, rfl, e, -⟩ := hP; exact ⟨u0, _, 1, _, _, TX1, 5, rfl, rfl, by rw [e]; decide, by rw [e]; rfl, rfl⟩)
theorem t3_7_0 {C : qCx} {G : jG} {S : jS} {V : jH} {nc ns : Nat} {l0 l1 l2 l3 : Int} {mc ms : Nat} {pp : Int → Int → Int → jS → jH → Prop} {qq : Int → Int → Int → jS → jH → jS → jH → Prop} (h : x3_7 C G) (hrm : C.2.2.2.1.frames = 4 ∧ C.2.2.2.1.locals = 92) (c1 : S.1 l0 = 22) (c2 : S.1 l1 = 29) (hM : M3_6 C.2.1 mc ms pp qq) (hp : pp l0 ((j_up V l0 1 0) l1 1) 1 S (j_up V l0 1 0)) (hc : nc + mc ≤ C.2.2.2.1.cells) (hs : ns + ms ≤ C.2.2.2.1.slots) (k : ∀ (S' : jS) (V' : jH), qq l0 ((j_up V l0 1 0) l1 1) 1 S (j_up V l0 1 0) S' V' → j_ok n_KT 5 C G 14 [(0, (2, l0)), (1, (2, l1)), (2, (2, l2)), (3, (0, l3))] [] S' V' (nc + mc) (ns + ms)) : j_ok n_KT 5 C G 0 [(0, (2, l0)), (1, (2, l1)), (2, (2, l2)), (3, (0, l3))] [] S V nc ns := by
  have E := n_E h
  refine j_aload_n E d3_7_0 rfl 0 rfl ?_
  refine j_iconst E d3_7_1 (by decide) ?_
  refine j_putI (f := 1) (fp1_15 h) (n_hap h 22 1 0 _ rfl) d3_7_2 c1 (by decide) rfl rfl rfl ?_
  refine j_aload_n E d3_7_5 rfl 0 rfl ?_
  refine j_aload_n E d3_7_6 rfl 1 rfl ?_
  refine j_getI (f := 1) (fg1_46 h) d3_7_7 c2 (by decide) rfl rfl ?_
  refine j_iconst E d3_7_10 (by decide) ?_
  refine j_call E (K3_7_11 h hrm hM) d3_7_11 (a := [(2, l0), (0, (j_up V l0 1 0) l1 1), (0, 1)]) (sk := []) rfl ⟨l0, (j_up V l0 1 0) l1 1, 1, rfl, c1, hp⟩ (Nat.le_of_ble_eq_true rfl) hc hs ?_
  rintro rs S' V' ⟨z0, z1, z2, e1, rfl, q⟩
  simp only [List.cons.injEq, Prod.mk.injEq, and_true, true_and] at e1
  obtain ⟨rfl, rfl, rfl⟩ := e1
  exact j_pick [0, 1, 2, 3] rfl (k S' V' q)
theorem t3_7_14 {C : qCx} {G : jG} {S : jS} {V : jH} {nc ns : Nat} {l0 l1 l2 l3 : Int} {mc ms : Nat} {pp : Int → Int → Int → jS → jH → Prop} {qq : Int → Int → Int → jS → jH → jS → jH → Prop} (h : x3_7 C G) (hrm : C.2.2.2.1.frames = 4 ∧ C.2.2.2.1.locals = 92) (c1 : S.1 l1 = 29) (c2 : S.1 l0 = 22) (hM : M3_6 C.2.1 mc ms pp qq) (hp : pp l0 (V l1 2) 1 S V) (hc : nc + mc ≤ C.2.2.2.1.cells) (hs : ns + ms ≤ C.2.2.2.1.slots) (k : ∀ (S' : jS) (V' : jH), qq l0 (V l1 2) 1 S V S' V' → j_ok n_KT 5 C G 23 [(0, (2, l0)), (1, (2, l1)), (2, (2, l2)), (3, (0, l3))] [] S' V' (nc + mc) (ns + ms)) : j_ok n_KT 5 C G 14 [(0, (2, l0)), (1, (2, l1)), (2, (2, l2)), (3, (0, l3))] [] S V nc ns := by
  have E := n_E h
  refine j_aload_n E d3_7_14 rfl 0 rfl ?_
  refine j_aload_n E d3_7_15 rfl 1 rfl ?_
  refine j_getI (f := 2) (fg1_55 h) d3_7_16 c1 (by decide) rfl rfl ?_
  refine j_iconst E d3_7_19 (by decide) ?_
  refine j_call E (K3_7_20 h hrm hM) d3_7_20 (a := [(2, l0), (0, V l1 2), (0, 1)]) (sk := []) rfl ⟨l0, V l1 2, 1, rfl, c2, hp⟩ (Nat.le_of_ble_eq_true rfl) hc hs ?_
  rintro rs S' V' ⟨z0, z1, z2, e1, rfl, q⟩
  simp only [List.cons.injEq, Prod.mk.injEq, and_true, true_and] at e1
  obtain ⟨rfl, rfl, rfl⟩ := e1
  exact j_pick [0, 1, 2, 3] rfl (k S' V' q)
theorem t3_7_23 {C : qCx} {G : jG} {S : jS} {V : jH} {nc ns : Nat} {l0 l1 l2 l3 : Int} {mc ms : Nat} {pp : Int → Int → Int → jS → jH → Prop} {qq : Int → Int → Int → jS → jH → jS → jH → Prop} (h : x3_7 C G) (hrm : C.2.2.2.1.frames = 4 ∧ C.2.2.2.1.locals = 92) (c1 : S.1 l0 = 22) (hM : M3_6 C.2.1 mc ms pp qq) (hp : pp l0 l3 1 S V) (hc : nc + mc ≤ C.2.2.2.1.cells) (hs : ns + ms ≤ C.2.2.2.1.slots) (k : ∀ (S' : jS) (V' : jH), qq l0 l3 1 S V S' V' → j_ok n_KT 5 C G 29 [(0, (2, l0)), (1, (2, l1)), (2, (2, l2)), (3, (0, l3))] [] S' V' (nc + mc) (ns + ms)) : j_ok n_KT 5 C G 23 [(0, (2, l0)), (1, (2, l1)), (2, (2, l2)), (3, (0, l3))] [] S V nc ns := by
  have E := n_E h
  refine j_aload_n E d3_7_23 rfl 0 rfl ?_
  refine j_iload_n E d3_7_24 rfl 3 rfl ?_
  refine j_iconst E d3_7_25 (by decide) ?_
  refine j_call E (K3_7_26 h hrm hM) d3_7_26 (a := [(2, l0), (0, l3), (0, 1)]) (sk := []) rfl ⟨l0, l3, 1, rfl, c1, hp⟩ (Nat.le_of_ble_eq_true rfl) hc hs ?_
  rintro rs S' V' ⟨z0, z1, z2, e1, rfl, q⟩
  simp only [List.cons.injEq, Prod.mk.injEq, and_true, true_and] at e1
  obtain ⟨rfl, rfl, rfl⟩ := e1
  exact j_pick [0, 1, 2, 3] rfl (k S' V' q)
theorem t3_7_29 {C : qCx} {G : jG} {S : jS} {V : jH} {nc ns : Nat} {l0 l1 l2 l3 : Int} {mc ms : Nat} {pp : Int → Int → Int → jS → jH → Prop} {qq : Int → Int → Int → jS → jH → jS → jH → Prop} (h : x3_7 C G) (L : j_L S) (hrm : C.2.2.2.1.frames = 4 ∧ C.2.2.2.1.locals = 92) (c1 : S.1 l2 = 21) (c2 : S.1 l0 = 22) (hM : M3_6 C.2.1 mc ms pp qq) (hp : pp l0 (V (l2 + 14) 5) 2 S V) (hc : nc + mc ≤ C.2.2.2.1.cells) (hs : ns + ms ≤ C.2.2.2.1.slots) (k : ∀ (S' : jS) (V' : jH), qq l0 (V (l2 + 14) 5) 2 S V S' V' → j_ok n_KT 5 C G 41 [(0, (2, l0)), (1, (2, l1)), (2, (2, l2)), (3, (0, l3))] [] S' V' (nc + mc) (ns + ms)) : j_ok n_KT 5 C G 29 [(0, (2, l0)), (1, (2, l1)), (2, (2, l2)), (3, (0, l3))] [] S V nc ns := by
  have E := n_E h
  refine j_aload_n E d3_7_29 rfl 0 rfl ?_
  refine j_aload_n E d3_7_30 rfl 2 rfl ?_
  refine j_getS (f := 2) (x := l2 + 14) (fg1_58 h) d3_7_31 c1 (by decide) rfl rfl ((L0_2 L c1).trans (by omega)) ?_
  refine j_getI (f := 5) (fg1_43 h) d3_7_34 (show S.1 (l2 + 14) = 28 from (by have q := L0_2k L c1; rw [show l2 + 14 = l2 + 14 by omega]; exact q)) (by decide) rfl rfl ?_
  refine j_iconst E d3_7_37 (by decide) ?_
  refine j_call E (K3_7_38 h hrm hM) d3_7_38 (a := [(2, l0), (0, V (l2 + 14) 5), (0, 2)]) (sk := []) rfl ⟨l0, V (l2 + 14) 5, 2, rfl, c2, hp⟩ (Nat.le_of_ble_eq_true rfl) hc hs ?_
  rintro rs S' V' ⟨z0, z1, z2, e1, rfl, q⟩
  simp only [List.cons.injEq, Prod.mk.injEq, and_true, true_and] at e1
  obtain ⟨rfl, rfl, rfl⟩ := e1
  exact j_pick [0, 1, 2, 3] rfl (k S' V' q)
theorem t3_7_41 {C : qCx} {G : jG} {S : jS} {V : jH} {nc ns : Nat} {l0 l1 l2 l3 : Int} {mc ms : Nat} {pp : Int → jS → jH → Prop} {qq : Int → jS → jH → Int → jS → jH → Prop} (h : x3_7 C G) (hrm : C.2.2.2.1.frames = 4 ∧ C.2.2.2.1.locals = 92) (c1 : S.1 l1 = 29) (hM : M10_10 C.2.1 mc ms pp qq) (hp : pp l1 S V) (hc : nc + mc ≤ C.2.2.2.1.cells) (hs : ns + ms ≤ C.2.2.2.1.slots) (k : ∀ (r : Int) (S' : jS) (V' : jH), qq l1 S V r S' V' → j_ok n_KT 5 C G 45 [(0, (2, l0)), (1, (2, l1)), (2, (2, l2)), (3, (0, l3))] [(0, r)] S' V' (nc + mc) (ns + ms)) : j_ok n_KT 5 C G 41 [(0, (2, l0)), (1, (2, l1)), (2, (2, l2)), (3, (0, l3))] [] S V nc ns := by
  have E := n_E h
  refine j_aload_n E d3_7_41 rfl 1 rfl ?_
  refine j_call E (K3_7_42 h hrm hM) d3_7_42 (a := [(2, l1)]) (sk := []) rfl ⟨l1, rfl, c1, hp⟩ (Nat.le_of_ble_eq_true rfl) hc hs ?_
  rintro rs S' V' ⟨z0, r, e1, rfl, q⟩
  simp only [List.cons.injEq, Prod.mk.injEq, and_true, true_and] at e1
  obtain ⟨rfl⟩ := e1
  exact j_pick [0, 1, 2, 3] rfl (k r S' V' q)
theorem t3_7_45 {C : qCx} {G : jG} {S : jS} {V : jH} {nc ns : Nat} {l0 l1 l2 l3 s0 : Int} (h : x3_7 C G)  (k : s0 = 0 → j_ok n_KT 5 C G 77 [(0, (2, l0)), (2, (2, l2)), (3, (0, l3))] [] S V nc ns) (k' : ¬ s0 = 0 → j_ok n_KT 5 C G 48 [(0, (2, l0)), (1, (2, l1)), (2, (2, l2)), (3, (0, l3))] [] S V nc ns) : j_ok n_KT 5 C G 45 [(0, (2, l0)), (1, (2, l1)), (2, (2, l2)), (3, (0, l3))] [(0, s0)] S V nc ns := by
  have E := n_E h
  exact j_if_eq E d3_7_45 (t := 77) rfl (fun q => j_pick [0, 2, 3] rfl (k q)) (fun q => j_pick [0, 1, 2, 3] rfl (k' q))
theorem t3_7_48 {C : qCx} {G : jG} {S : jS} {V : jH} {nc ns : Nat} {l0 l1 l2 l3 : Int} (h : x3_7 C G)  (k : j_ok n_KT 5 C G 51 [(0, (2, l0)), (1, (2, l1)), (2, (2, l2)), (3, (0, l3)), (4, (0, 0))] [] S V nc ns) : j_ok n_KT 5 C G 48 [(0, (2, l0)), (1, (2, l1)), (2, (2, l2)), (3, (0, l3))] [] S V nc ns := by
  have E := n_E h
  refine j_iconst E d3_7_48 (by decide) ?_
  refine j_istore E d3_7_49 (by decide) (lo1 := [(0, (2, l0)), (1, (2, l1)), (2, (2, l2)), (3, (0, l3))]) rfl ?_
  exact j_pick [1, 2, 3, 4, 0] rfl k
theorem t3_7_51 {C : qCx} {G : jG} {S : jS} {V : jH} {nc ns : Nat} {l0 l1 l2 l3 l4 : Int} {mc ms : Nat} {pp : Int → jS → jH → Prop} {qq : Int → jS → jH → Int → jS → jH → Prop} (h : x3_7 C G) (hrm : C.2.2.2.1.frames = 4 ∧ C.2.2.2.1.locals = 92) (c1 : S.1 l1 = 29) (hM : M10_5 C.2.1 mc ms pp qq) (hp : pp l1 S V) (hc : nc + mc ≤ C.2.2.2.1.cells) (hs : ns + ms ≤ C.2.2.2.1.slots) (k : ∀ (r : Int) (S' : jS) (V' : jH), qq l1 S V r S' V' → j_ok n_KT 5 C G 57 [(0, (2, l0)), (1, (2, l1)), (2, (2, l2)), (3, (0, l3)), (4, (0, l4))] [(0, r), (0, l4)] S' V' (nc + mc) (ns + ms)) : j_ok n_KT 5 C G 51 [(0, (2, l0)), (1, (2, l1)), (2, (2, l2)), (3, (0, l3)), (4, (0, l4))] [] S V nc ns := by
  have E := n_E h
  refine j_iload E d3_7_51 4 rfl ?_
  refine j_aload_n E d3_7_53 rfl 1 rfl ?_
  refine j_call E (K3_7_54 h hrm hM) d3_7_54 (a := [(2, l1)]) (sk := [(0, l4)]) rfl ⟨l1, rfl, c1, hp⟩ (Nat.le_of_ble_eq_true rfl) hc hs ?_
  rintro rs S' V' ⟨z0, r, e1, rfl, q⟩
  simp only [List.cons.injEq, Prod.mk.injEq, and_true, true_and] at e1
  obtain ⟨rfl⟩ := e1
  exact j_pick [0, 1, 2, 3, 4] rfl (k r S' V' q)
theorem t3_7_57 {C : qCx} {G : jG} {S : jS} {V : jH} {nc ns : Nat} {l0 l1 l2 l3 l4 s0 s1 : Int} (h : x3_7 C G)  (k : s0 ≤ s1 → j_ok n_KT 5 C G 77 [(0, (2, l0)), (2, (2, l2)), (3, (0, l3))] [] S V nc ns) (k' : s1 < s0 → j_ok n_KT 5 C G 60 [(0, (2, l0)), (1, (2, l1)), (2, (2, l2)), (3, (0, l3)), (4, (0, l4))] [] S V nc ns) : j_ok n_KT 5 C G 57 [(0, (2, l0)), (1, (2, l1)), (2, (2, l2)), (3, (0, l3)), (4, (0, l4))] [(0, s0), (0, s1)] S V nc ns := by
  have E := n_E h
  exact j_icmp_ge E d3_7_57 (t := 77) rfl (fun q => j_pick [0, 2, 3] rfl (k q)) (fun q => j_pick [0, 1, 2, 3, 4] rfl (k' q))
theorem t3_7_60 {C : qCx} {G : jG} {S : jS} {V : jH} {nc ns : Nat} {l0 l1 l2 l3 l4 : Int} {mc ms : Nat} {pp : Int → Int → jS → jH → Prop} {qq : Int → Int → jS → jH → jS → jH → Prop} (h : x3_7 C G) (L : j_L S) (hrm : C.2.2.2.1.frames = 4 ∧ C.2.2.2.1.locals = 92) (c1 : S.1 l1 = 29) (c2 : 0 ≤ l4) (c3 : l4 < 4) (c4 : S.1 l0 = 22) (hM : M3_8 C.2.1 mc ms pp qq) (hp : pp l0 (l1 + 2 + 2 * l4) S V) (hc : nc + mc ≤ C.2.2.2.1.cells) (hs : ns + ms ≤ C.2.2.2.1.slots) (k : ∀ (S' : jS) (V' : jH), qq l0 (l1 + 2 + 2 * l4) S V S' V' → j_ok n_KT 5 C G 71 [(0, (2, l0)), (1, (2, l1)), (2, (2, l2)), (3, (0, l3)), (4, (0, l4))] [] S' V' (nc + mc) (ns + ms)) : j_ok n_KT 5 C G 60 [(0, (2, l0)), (1, (2, l1)), (2, (2, l2)), (3, (0, l3)), (4, (0, l4))] [] S V nc ns := by
  have E := n_E h
  refine j_aload_n E d3_7_60 rfl 0 rfl ?_
  refine j_aload_n E d3_7_61 rfl 1 rfl ?_
  refine j_getS (f := 0) (x := l1 + 1) (fg1_69 h) d3_7_62 c1 (by decide) rfl rfl ((L8_0 L c1).trans (by omega)) ?_
  refine j_iload E d3_7_65 4 rfl ?_
  refine j_aaldS (x := l1 + 2 + 2 * l4) E d3_7_67 (show S.1 (l1 + 1) = 19 from (by have q := L8_0k L c1; rw [show l1 + 1 = l1 + 1 by omega]; exact q)) (by decide) rfl c2 c3 ((LDealA L (i := l4) (show S.1 (l1 + 1) = 19 from (by have q := L8_0k L c1; rw [show l1 + 1 = l1 + 1 by omega]; exact q)) c2 c3).trans (by omega)) ?_
  refine j_call E (K3_7_68 h hrm hM) d3_7_68 (a := [(2, l0), (2, l1 + 2 + 2 * l4)]) (sk := []) rfl ⟨l0, l1 + 2 + 2 * l4, rfl, c4, hp⟩ (Nat.le_of_ble_eq_true rfl) hc hs ?_
  rintro rs S' V' ⟨z0, z1, e1, rfl, q⟩
  simp only [List.cons.injEq, Prod.mk.injEq, and_true, true_and] at e1
  obtain ⟨rfl, rfl⟩ := e1
  exact j_pick [0, 1, 2, 3, 4] rfl (k S' V' q)
theorem t3_7_71 {C : qCx} {G : jG} {S : jS} {V : jH} {nc ns : Nat} {l0 l1 l2 l3 l4 : Int} (h : x3_7 C G) (c1 : -2147483648 ≤ l4 + 1 ∧ l4 + 1 ≤ 2147483647) (k : j_ok n_KT 5 C G 51 [(0, (2, l0)), (1, (2, l1)), (2, (2, l2)), (3, (0, l3)), (4, (0, l4 + 1))] [] S V nc ns) : j_ok n_KT 5 C G 71 [(0, (2, l0)), (1, (2, l1)), (2, (2, l2)), (3, (0, l3)), (4, (0, l4))] [] S V nc ns := by
  have E := n_E h
  refine j_iinc E d3_7_71 (by decide) (by decide) 4 rfl (lo1 := [(0, (2, l0)), (1, (2, l1)), (2, (2, l2)), (3, (0, l3))]) rfl c1 ?_
  refine j_goto E d3_7_74 (t := 51) rfl ?_
  exact j_pick [1, 2, 3, 4, 0] rfl k
theorem t3_7_77 {C : qCx} {G : jG} {S : jS} {V : jH} {nc ns : Nat} {l0 l2 l3 : Int} (h : x3_7 C G)  (k : j_ok n_KT 5 C G 80 [(0, (2, l0)), (2, (2, l2)), (3, (0, l3)), (4, (0, 0))] [] S V nc ns) : j_ok n_KT 5 C G 77 [(0, (2, l0)), (2, (2, l2)), (3, (0, l3))] [] S V nc ns := by
  have E := n_E h
  refine j_iconst E d3_7_77 (by decide) ?_
  refine j_istore E d3_7_78 (by decide) (lo1 := [(0, (2, l0)), (2, (2, l2)), (3, (0, l3))]) rfl ?_
  exact j_pick [1, 2, 3, 0] rfl k
theorem t3_7_80 {C : qCx} {G : jG} {S : jS} {V : jH} {nc ns : Nat} {l0 l2 l3 l4 : Int} (h : x3_7 C G)  (k : l3 ≤ l4 → j_ok n_KT 5 C G 104 [(0, (2, l0)), (2, (2, l2))] [] S V nc ns) (k' : l4 < l3 → j_ok n_KT 5 C G 86 [(0, (2, l0)), (2, (2, l2)), (3, (0, l3)), (4, (0, l4))] [] S V nc ns) : j_ok n_KT 5 C G 80 [(0, (2, l0)), (2, (2, l2)), (3, (0, l3)), (4, (0, l4))] [] S V nc ns := by
  have E := n_E h
  refine j_iload E d3_7_80 3 rfl ?_
  refine j_iload_n E d3_7_82 rfl 2 rfl ?_
  exact j_icmp_ge E d3_7_83 (t := 104) rfl (fun q => j_pick [0, 1] rfl (k q)) (fun q => j_pick [0, 1, 2, 3] rfl (k' q))
theorem t3_7_86 {C : qCx} {G : jG} {S : jS} {V : jH} {nc ns : Nat} {l0 l2 l3 l4 : Int} {mc ms : Nat} {pp : Int → Int → Int → jS → jH → Prop} {qq : Int → Int → Int → jS → jH → jS → jH → Prop} (h : x3_7 C G) (L : j_L S) (hrm : C.2.2.2.1.frames = 4 ∧ C.2.2.2.1.locals = 92) (c1 : S.1 l2 = 21) (c2 : 0 ≤ l4) (c3 : l4 < 4) (c4 : S.1 l0 = 22) (hM : M3_6 C.2.1 mc ms pp qq) (hp : pp l0 (V (l2 + 20) l4) 3 S V) (hc : nc + mc ≤ C.2.2.2.1.cells) (hs : ns + ms ≤ C.2.2.2.1.slots) (k : ∀ (S' : jS) (V' : jH), qq l0 (V (l2 + 20) l4) 3 S V S' V' → j_ok n_KT 5 C G 98 [(0, (2, l0)), (2, (2, l2)), (3, (0, l3)), (4, (0, l4))] [] S' V' (nc + mc) (ns + ms)) : j_ok n_KT 5 C G 86 [(0, (2, l0)), (2, (2, l2)), (3, (0, l3)), (4, (0, l4))] [] S V nc ns := by
  have E := n_E h
  refine j_aload_n E d3_7_86 rfl 0 rfl ?_
  refine j_aload_n E d3_7_87 rfl 1 rfl ?_
  refine j_getS (f := 3) (x := l2 + 20) (fg1_77 h) d3_7_88 c1 (by decide) rfl rfl ((L0_3 L c1).trans (by omega)) ?_
  refine j_iload E d3_7_91 3 rfl ?_
  refine j_iald E d3_7_93 (j_arr_of (show S.1 (l2 + 20) = 4 from (by have q := L0_3k L c1; rw [show l2 + 20 = l2 + 20 by omega]; exact q)) (by decide) rfl) c2 c3 ?_
  refine j_iconst E d3_7_94 (by decide) ?_
  refine j_call E (K3_7_95 h hrm hM) d3_7_95 (a := [(2, l0), (0, V (l2 + 20) l4), (0, 3)]) (sk := []) rfl ⟨l0, V (l2 + 20) l4, 3, rfl, c4, hp⟩ (Nat.le_of_ble_eq_true rfl) hc hs ?_
  rintro rs S' V' ⟨z0, z1, z2, e1, rfl, q⟩
  simp only [List.cons.injEq, Prod.mk.injEq, and_true, true_and] at e1
  obtain ⟨rfl, rfl, rfl⟩ := e1
  exact j_pick [0, 1, 2, 3] rfl (k S' V' q)
theorem t3_7_98 {C : qCx} {G : jG} {S : jS} {V : jH} {nc ns : Nat} {l0 l2 l3 l4 : Int} (h : x3_7 C G) (c1 : -2147483648 ≤ l4 + 1 ∧ l4 + 1 ≤ 2147483647) (k : j_ok n_KT 5 C G 80 [(0, (2, l0)), (2, (2, l2)), (3, (0, l3)), (4, (0, l4 + 1))] [] S V nc ns) : j_ok n_KT 5 C G 98 [(0, (2, l0)), (2, (2, l2)), (3, (0, l3)), (4, (0, l4))] [] S V nc ns := by
  have E := n_E h
  refine j_iinc E d3_7_98 (by decide) (by decide) 3 rfl (lo1 := [(0, (2, l0)), (2, (2, l2)), (3, (0, l3))]) rfl c1 ?_
  refine j_goto E d3_7_101 (t := 80) rfl ?_
  exact j_pick [1, 2, 3, 0] rfl k
theorem t3_7_104 {C : qCx} {G : jG} {S : jS} {V : jH} {nc ns : Nat} {l0 l2 : Int} {mc ms : Nat} {pp : Int → Int → Int → jS → jH → Prop} {qq : Int → Int → Int → jS → jH → jS → jH → Prop} (h : x3_7 C G) (hrm : C.2.2.2.1.frames = 4 ∧ C.2.2.2.1.locals = 92) (c1 : S.1 l2 = 21) (c2 : S.1 l0 = 22) (hM : M3_6 C.2.1 mc ms pp qq) (hp : pp l0 (V l2 5) 2 S V) (hc : nc + mc ≤ C.2.2.2.1.cells) (hs : ns + ms ≤ C.2.2.2.1.slots) (k : ∀ (S' : jS) (V' : jH), qq l0 (V l2 5) 2 S V S' V' → j_ok n_KT 5 C G 113 [(0, (2, l0)), (2, (2, l2))] [] S' V' (nc + mc) (ns + ms)) : j_ok n_KT 5 C G 104 [(0, (2, l0)), (2, (2, l2))] [] S V nc ns := by
  have E := n_E h
  refine j_aload_n E d3_7_104 rfl 0 rfl ?_
  refine j_aload_n E d3_7_105 rfl 1 rfl ?_
  refine j_getI (f := 5) (fg1_80 h) d3_7_106 c1 (by decide) rfl rfl ?_
  refine j_iconst E d3_7_109 (by decide) ?_
  refine j_call E (K3_7_110 h hrm hM) d3_7_110 (a := [(2, l0), (0, V l2 5), (0, 2)]) (sk := []) rfl ⟨l0, V l2 5, 2, rfl, c2, hp⟩ (Nat.le_of_ble_eq_true rfl) hc hs ?_
  rintro rs S' V' ⟨z0, z1, z2, e1, rfl, q⟩
  simp only [List.cons.injEq, Prod.mk.injEq, and_true, true_and] at e1
  obtain ⟨rfl, rfl, rfl⟩ := e1
  exact j_pick [0, 1] rfl (k S' V' q)
theorem t3_7_113 {C : qCx} {G : jG} {S : jS} {V : jH} {nc ns : Nat} {l0 l2 : Int} (h : x3_7 C G)  (k : j_ok n_KT 5 C G 116 [(0, (2, l0)), (2, (2, l2)), (4, (0, 0))] [] S V nc ns) : j_ok n_KT 5 C G 113 [(0, (2, l0)), (2, (2, l2))] [] S V nc ns := by
  have E := n_E h
  refine j_iconst E d3_7_113 (by decide) ?_
  refine j_istore E d3_7_114 (by decide) (lo1 := [(0, (2, l0)), (2, (2, l2))]) rfl ?_
  exact j_pick [1, 2, 0] rfl k
theorem t3_7_116 {C : qCx} {G : jG} {S : jS} {V : jH} {nc ns : Nat} {l0 l2 l4 : Int} (h : x3_7 C G) (c1 : S.1 l2 = 21) (k : V l2 5 ≤ l4 → j_ok n_KT 5 C G 143 [(0, (2, l0)), (2, (2, l2))] [] S V nc ns) (k' : l4 < V l2 5 → j_ok n_KT 5 C G 125 [(0, (2, l0)), (2, (2, l2)), (4, (0, l4))] [] S V nc ns) : j_ok n_KT 5 C G 116 [(0, (2, l0)), (2, (2, l2)), (4, (0, l4))] [] S V nc ns := by
  have E := n_E h
  refine j_iload E d3_7_116 2 rfl ?_
  refine j_aload_n E d3_7_118 rfl 1 rfl ?_
  refine j_getI (f := 5) (fg1_80 h) d3_7_119 c1 (by decide) rfl rfl ?_
  exact j_icmp_ge E d3_7_122 (t := 143) rfl (fun q => j_pick [0, 1] rfl (k q)) (fun q => j_pick [0, 1, 2] rfl (k' q))
theorem t3_7_125 {C : qCx} {G : jG} {S : jS} {V : jH} {nc ns : Nat} {l0 l2 l4 : Int} {mc ms : Nat} {pp : Int → Int → Int → jS → jH → Prop} {qq : Int → Int → Int → jS → jH → jS → jH → Prop} (h : x3_7 C G) (L : j_L S) (hrm : C.2.2.2.1.frames = 4 ∧ C.2.2.2.1.locals = 92) (c1 : S.1 l2 = 21) (c2 : 0 ≤ l4) (c3 : l4 < 800) (c4 : S.1 l0 = 22) (hM : M3_6 C.2.1 mc ms pp qq) (hp : pp l0 (V (l2 + 21) l4) 1 S V) (hc : nc + mc ≤ C.2.2.2.1.cells) (hs : ns + ms ≤ C.2.2.2.1.slots) (k : ∀ (S' : jS) (V' : jH), qq l0 (V (l2 + 21) l4) 1 S V S' V' → j_ok n_KT 5 C G 137 [(0, (2, l0)), (2, (2, l2)), (4, (0, l4))] [] S' V' (nc + mc) (ns + ms)) : j_ok n_KT 5 C G 125 [(0, (2, l0)), (2, (2, l2)), (4, (0, l4))] [] S V nc ns := by
  have E := n_E h
  refine j_aload_n E d3_7_125 rfl 0 rfl ?_
  refine j_aload_n E d3_7_126 rfl 1 rfl ?_
  refine j_getS (f := 4) (x := l2 + 21) (fg1_83 h) d3_7_127 c1 (by decide) rfl rfl ((L0_4 L c1).trans (by omega)) ?_
  refine j_iload E d3_7_130 2 rfl ?_
  refine j_iald E d3_7_132 (j_arr_of (show S.1 (l2 + 21) = 5 from (by have q := L0_4k L c1; rw [show l2 + 21 = l2 + 21 by omega]; exact q)) (by decide) rfl) c2 c3 ?_
  refine j_iconst E d3_7_133 (by decide) ?_
  refine j_call E (K3_7_134 h hrm hM) d3_7_134 (a := [(2, l0), (0, V (l2 + 21) l4), (0, 1)]) (sk := []) rfl ⟨l0, V (l2 + 21) l4, 1, rfl, c4, hp⟩ (Nat.le_of_ble_eq_true rfl) hc hs ?_
  rintro rs S' V' ⟨z0, z1, z2, e1, rfl, q⟩
  simp only [List.cons.injEq, Prod.mk.injEq, and_true, true_and] at e1
  obtain ⟨rfl, rfl, rfl⟩ := e1
  exact j_pick [0, 1, 2] rfl (k S' V' q)
theorem t3_7_137 {C : qCx} {G : jG} {S : jS} {V : jH} {nc ns : Nat} {l0 l2 l4 : Int} (h : x3_7 C G) (c1 : -2147483648 ≤ l4 + 1 ∧ l4 + 1 ≤ 2147483647) (k : j_ok n_KT 5 C G 116 [(0, (2, l0)), (2, (2, l2)), (4, (0, l4 + 1))] [] S V nc ns) : j_ok n_KT 5 C G 137 [(0, (2, l0)), (2, (2, l2)), (4, (0, l4))] [] S V nc ns := by
  have E := n_E h
  refine j_iinc E d3_7_137 (by decide) (by decide) 2 rfl (lo1 := [(0, (2, l0)), (2, (2, l2))]) rfl c1 ?_
  refine j_goto E d3_7_140 (t := 116) rfl ?_
  exact j_pick [1, 2, 0] rfl k
theorem t3_7_143 {C : qCx} {G : jG} {S : jS} {V : jH} {nc ns : Nat} {l0 l2 : Int} {mc ms : Nat} {pp : Int → Int → jS → jH → Prop} {qq : Int → Int → jS → jH → Int → jS → jH → Prop} (h : x3_7 C G) (hrm : C.2.2.2.1.frames = 4 ∧ C.2.2.2.1.locals = 92) (c1 : S.1 l0 = 22) (hM : M3_9 C.2.1 mc ms pp qq) (hp : pp l0 (V l0 1) S V) (hc : nc + mc ≤ C.2.2.2.1.cells) (hs : ns + ms ≤ C.2.2.2.1.slots) (k : ∀ (r : Int) (S' : jS) (V' : jH), qq l0 (V l0 1) S V r S' V' → j_ok n_KT 5 C G 152 [(0, (2, l0)), (2, (2, l2))] [(0, r), (2, l0)] S' V' (nc + mc) (ns + ms)) : j_ok n_KT 5 C G 143 [(0, (2, l0)), (2, (2, l2))] [] S V nc ns := by
  have E := n_E h
  refine j_aload_n E d3_7_143 rfl 0 rfl ?_
  refine j_aload_n E d3_7_144 rfl 0 rfl ?_
  refine j_aload_n E d3_7_145 rfl 0 rfl ?_
  refine j_getI (f := 1) (fg1_15 h) d3_7_146 c1 (by decide) rfl rfl ?_
  refine j_call E (K3_7_149 h hrm hM) d3_7_149 (a := [(2, l0), (0, V l0 1)]) (sk := [(2, l0)]) rfl ⟨l0, V l0 1, rfl, c1, hp⟩ (Nat.le_of_ble_eq_true rfl) hc hs ?_
  rintro rs S' V' ⟨z0, z1, r, e1, rfl, q⟩
  simp only [List.cons.injEq, Prod.mk.injEq, and_true, true_and] at e1
  obtain ⟨rfl, rfl⟩ := e1
  exact j_pick [0, 1] rfl (k r S' V' q)
theorem t3_7_152 {C : qCx} {G : jG} {S : jS} {V : jH} {nc ns : Nat} {l0 l2 s0 s1 : Int} {mc ms : Nat} {pp : Int → Int → Int → jS → jH → Prop} {qq : Int → Int → Int → jS → jH → jS → jH → Prop} (h : x3_7 C G) (hrm : C.2.2.2.1.frames = 4 ∧ C.2.2.2.1.locals = 92) (c1 : S.1 s1 = 22) (hM : M3_6 C.2.1 mc ms pp qq) (hp : pp s1 s0 2 S V) (hc : nc + mc ≤ C.2.2.2.1.cells) (hs : ns + ms ≤ C.2.2.2.1.slots) (k : ∀ (S' : jS) (V' : jH), qq s1 s0 2 S V S' V' → j_ok n_KT 5 C G 156 [(0, (2, l0)), (2, (2, l2))] [] S' V' (nc + mc) (ns + ms)) : j_ok n_KT 5 C G 152 [(0, (2, l0)), (2, (2, l2))] [(0, s0), (2, s1)] S V nc ns := by
  have E := n_E h
  refine j_iconst E d3_7_152 (by decide) ?_
  refine j_call E (K3_7_153 h hrm hM) d3_7_153 (a := [(2, s1), (0, s0), (0, 2)]) (sk := []) rfl ⟨s1, s0, 2, rfl, c1, hp⟩ (Nat.le_of_ble_eq_true rfl) hc hs ?_
  rintro rs S' V' ⟨z0, z1, z2, e1, rfl, q⟩
  simp only [List.cons.injEq, Prod.mk.injEq, and_true, true_and] at e1
  obtain ⟨rfl, rfl, rfl⟩ := e1
  exact j_pick [0, 1] rfl (k S' V' q)
theorem t3_7_156 {C : qCx} {G : jG} {S : jS} {V : jH} {nc ns : Nat} {l0 l2 : Int} {mc ms : Nat} {pp : Int → Int → jS → jH → Prop} {qq : Int → Int → jS → jH → jS → jH → Prop} (h : x3_7 C G) (L : j_L S) (hrm : C.2.2.2.1.frames = 4 ∧ C.2.2.2.1.locals = 92) (c1 : S.1 l0 = 22) (c2 : S.1 l2 = 21) (hM : M3_5 C.2.1 mc ms pp qq) (hp : pp l0 (l2 + 14) S (j_up V l0 4 0)) (hc : nc + mc ≤ C.2.2.2.1.cells) (hs : ns + ms ≤ C.2.2.2.1.slots) (k : ∀ (S' : jS) (V' : jH), qq l0 (l2 + 14) S (j_up V l0 4 0) S' V' → j_ok n_KT 5 C G 169 [] [] S' V' (nc + mc) (ns + ms)) : j_ok n_KT 5 C G 156 [(0, (2, l0)), (2, (2, l2))] [] S V nc ns := by
  have E := n_E h
  refine j_aload_n E d3_7_156 rfl 0 rfl ?_
  refine j_iconst E d3_7_157 (by decide) ?_
  refine j_putI (f := 4) (fp1_30 h) (n_hap h 22 1 0 _ rfl) d3_7_158 c1 (by decide) rfl rfl rfl ?_
  refine j_aload_n E d3_7_161 rfl 0 rfl ?_
  refine j_aload_n E d3_7_162 rfl 1 rfl ?_
  refine j_getS (f := 2) (x := l2 + 14) (fg1_58 h) d3_7_163 c2 (by decide) rfl rfl ((L0_2 L c2).trans (by omega)) ?_
  refine j_call E (K3_7_166 h hrm hM) d3_7_166 (a := [(2, l0), (2, l2 + 14)]) (sk := []) rfl ⟨l0, l2 + 14, rfl, c1, hp⟩ (Nat.le_of_ble_eq_true rfl) hc hs ?_
  rintro rs S' V' ⟨z0, z1, e1, rfl, q⟩
  simp only [List.cons.injEq, Prod.mk.injEq, and_true, true_and] at e1
  obtain ⟨rfl, rfl⟩ := e1
  exact j_pick [] rfl (k S' V' q)
theorem t3_7_169 {C : qCx} {G : jG} {S : jS} {V : jH} {nc ns : Nat} {mc ms : Nat} {qf : jS → jH → Prop} (h : x3_7 C G)  (R : j_Rv n_KT 5 C G b_3_7 mc ms qf) (q : qf S V) (hc : nc ≤ mc) (hs : ns ≤ ms) : j_ok n_KT 5 C G 169 [] [] S V nc ns := by
  have E := n_E h
  exact R _ _ _ _ _ _ d3_7_169 q hc hs
/- BalanceCoder.pack(III)I -/
abbrev b_1_12 : ByteArray := prog_1_method_12_code
def y_1_12 : MethodName := ⟨"BalanceCoder", "pack", "(III)I"⟩
abbrev x1_12 (C : qCx) (G : jG) : Prop := n_ctx C b_1_12 6 "BalanceCoder" G.1 G.2.1
def M1_12 (l : Launch) (mc ms : Nat) (p : Int → Int → Int → Int → jS → jH → Prop) (q : Int → Int → Int → Int → jS → jH → Int → jS → jH → Prop) : Prop := j_Met l vwCl n_TL n_NW n_KT y_1_12 (Cond.code y_1_12 b_1_12 6 (some .int) :: n_GW) { frames := 6, cells := mc, slots := ms, locals := 145 } mc ms (fun a S V => ∃ u0 u1 u2 u3 : Int, a = [(2, u0), (0, u1), (0, u2), (0, u3)] ∧ S.1 u0 = 31 ∧ p u0 u1 u2 u3 S V) (fun a S V rs S' V' => ∃ u0 u1 u2 u3 r : Int, a = [(2, u0), (0, u1), (0, u2), (0, u3)] ∧ rs = [(0, r)] ∧ q u0 u1 u2 u3 S V r S' V')
theorem e1_12 {l : Launch} {mc ms : Nat} {p : Int → Int → Int → Int → jS → jH → Prop} {q : Int → Int → Int → Int → jS → jH → Int → jS → jH → Prop} (body : ∀ (C : qCx) (G : jG), x1_12 C G → C.2.2.2.1.frames = 6 ∧ C.2.2.2.1.locals = 145 → C.2.2.2.1.cells = mc ∧ C.2.2.2.1.slots = ms → C.2.1 = l → C.2.2.2.2.2.2.2.2.1.name = "pack" → ∀ (u0 u1 u2 u3 : Int) (S : jS) (V : jH), S.1 u0 = 31 → p u0 u1 u2 u3 S V → j_Ri n_KT 6 C G b_1_12 mc ms (q u0 u1 u2 u3 S V) → j_ok n_KT 6 C G 0 [(0, (2, u0)), (1, (0, u1)), (2, (0, u2)), (3, (0, u3))] [] S V 0 0) : M1_12 l mc ms p q := by
  refine j_method (ws' := n_GW) (by decide) rfl ?_ ?_
  · rintro a S V ⟨u0, u1, u2, u3, rfl, -⟩
    exact Nat.le_of_ble_eq_true rfl
  · rintro C G htl hl hrm hm hml ho hts hnm hE a S V ⟨u0, u1, u2, u3, rfl, ht, hp⟩ R
    exact body C G ⟨htl, hm, hml, ho, fun w hw => hts w (List.mem_cons_of_mem _ hw), hE⟩ (by rw [hrm]; exact ⟨rfl, rfl⟩) (by rw [hrm]; exact ⟨rfl, rfl⟩) hl hnm u0 u1 u2 u3 S V ht hp (fun pc lo r S' V' nc ns d q hc hs => R.2.1 rfl pc lo r S' V' nc ns d ⟨u0, u1, u2, u3, r, rfl, rfl, q⟩ hc hs)
theorem d1_12_0 : decode b_1_12 0 = .ok (.aload_n 0, 1) := by decide +kernel
theorem d1_12_1 : decode b_1_12 1 = .ok (.iload_n 1, 1) := by decide +kernel
theorem d1_12_2 : decode b_1_12 2 = .ok (.invokevirtual 92, 3) := by decide +kernel
theorem d1_12_5 : decode b_1_12 5 = .ok (.astore 4, 2) := by decide +kernel
theorem d1_12_7 : decode b_1_12 7 = .ok (.aload_n 0, 1) := by decide +kernel
theorem d1_12_8 : decode b_1_12 8 = .ok (.aload 4, 2) := by decide +kernel
theorem d1_12_10 : decode b_1_12 10 = .ok (.aload_n 0, 1) := by decide +kernel
theorem d1_12_11 : decode b_1_12 11 = .ok (.iload_n 2, 1) := by decide +kernel
theorem d1_12_12 : decode b_1_12 12 = .ok (.invokevirtual 51, 3) := by decide +kernel
theorem d1_12_15 : decode b_1_12 15 = .ok (.iload_n 3, 1) := by decide +kernel
theorem d1_12_16 : decode b_1_12 16 = .ok (.invokevirtual 151, 3) := by decide +kernel
theorem d1_12_19 : decode b_1_12 19 = .ok (.istore 5, 2) := by decide +kernel
theorem d1_12_21 : decode b_1_12 21 = .ok (.iload 5, 2) := by decide +kernel
theorem d1_12_23 : decode b_1_12 23 = .ok (.ifCond .lt 25, 3) := by decide +kernel
theorem d1_12_26 : decode b_1_12 26 = .ok (.aload 4, 2) := by decide +kernel
theorem d1_12_28 : decode b_1_12 28 = .ok (.ifnull 20, 3) := by decide +kernel
theorem d1_12_31 : decode b_1_12 31 = .ok (.aload_n 0, 1) := by decide +kernel
theorem d1_12_32 : decode b_1_12 32 = .ok (.getfield 10, 3) := by decide +kernel
theorem d1_12_35 : decode b_1_12 35 = .ok (.getfield 155, 3) := by decide +kernel
theorem d1_12_38 : decode b_1_12 38 = .ok (.aload 4, 2) := by decide +kernel
theorem d1_12_40 : decode b_1_12 40 = .ok (.aload_n 0, 1) := by decide +kernel
theorem d1_12_41 : decode b_1_12 41 = .ok (.getfield 22, 3) := by decide +kernel
theorem d1_12_44 : decode b_1_12 44 = .ok (.iload_n 3, 1) := by decide +kernel
theorem d1_12_45 : decode b_1_12 45 = .ok (.invokevirtual 159, 3) := by decide +kernel
theorem d1_12_48 : decode b_1_12 48 = .ok (.iload 5, 2) := by decide +kernel
theorem d1_12_50 : decode b_1_12 50 = .ok (.ireturn, 1) := by decide +kernel
theorem K1_12_2 {C : qCx} {G : jG} {mc ms : Nat} {p : Int → Int → jS → jH → Prop} {q : Int → Int → jS → jH → Int → jS → jH → Prop} (h : x1_12 C G) (hrm : C.2.2.2.1.frames = 6 ∧ C.2.2.2.1.locals = 145) (hM : M1_30 C.2.1 mc ms p q) : j_Call C b_1_12 n_KT G.1 G.2.1 6 (.invokevirtual 92) mc ms (fun a S V => ∃ u0 u1 : Int, a = [(2, u0), (0, u1)] ∧ S.1 u0 = 31 ∧ p u0 u1 S V) (fun a S V rs S' V' => ∃ u0 u1 r : Int, a = [(2, u0), (0, u1)] ∧ rs = [(2, r)] ∧ q u0 u1 S V r S' V') := j_callV n_NWk h.2.2.2.2.2 h.1 hM ⟨h.2.1.1, h.2.1.2, h.2.2.1, h.2.2.2.1, h.2.2.2.2.1⟩ ⟨n_CB (y := y_1_30) (bytes := b_1_30) 1 h.2.2.2.2.1 n_w367 n_w364 n_w1 ⟨by decide, by decide, by decide +kernel⟩ rfl rfl ⟨by rw [hrm.1]; exact Nat.le_of_ble_eq_true rfl, by rw [hrm.2]; exact Nat.le_of_ble_eq_true rfl⟩, h.2.2.2.2.1 _ n_w366, h.2.2.2.2.1 _ n_s2⟩ (Cn := RX10) (fun a S V hP => by obtain ⟨u0, u1, rfl, e, -⟩ := hP; exact ⟨u0, _, 10, _, _, TX10, 8, rfl, rfl, by rw [e]; decide, by rw [e]; rfl, rfl⟩)
theorem K1_12_12 {C : qCx} {G : jG} {mc ms : Nat} {p : Int → Int → jS → jH → Prop} {q : Int → Int → jS → jH → Int → jS → jH → Prop} (h : x1_12 C G) (hrm : C.2.2.2.1.frames = 6 ∧ C.2.2.2.1.locals = 145) (hM : M1_29 C.2.1 mc ms p q) : j_Call C b_1_12 n_KT G.1 G.2.1 6 (.invokevirtual 51) mc ms (fun a S V => ∃ u0 u1 : Int, a = [(2, u0), (0, u1)] ∧ S.1 u0 = 31 ∧ p u0 u1 S V) (fun a S V rs S' V' => ∃ u0 u1 r : Int, a = [(2, u0), (0, u1)] ∧ rs = [(2, r)] ∧ q u0 u1 S V r S' V') := j_callV n_NWk h.2.2.2.2.2 h.1 hM ⟨h.2.1.1, h.2.1.2, h.2.2.1, h.2.2.2.1, h.2.2.2.2.1⟩ ⟨n_CB (y := y_1_29) (bytes := b_1_29) 1 h.2.2.2.2.1 n_w305 n_w302 n_w1 ⟨by decide, by decide, by decide +kernel⟩ rfl rfl ⟨by rw [hrm.1]; exact Nat.le_of_ble_eq_true rfl, by rw [hrm.2]; exact Nat.le_of_ble_eq_true rfl⟩, h.2.2.2.2.1 _ n_w304, h.2.2.2.2.1 _ n_s0⟩ (Cn := RX10) (fun a S V hP => by obtain ⟨u0, u1, rfl, e, -⟩ := hP; exact ⟨u0, _, 10, _, _, TX10, 8, rfl, rfl, by rw [e]; decide, by rw [e]; rfl, rfl⟩)
theorem K1_12_16 {C : qCx} {G : jG} {mc ms : Nat} {p : Int → Int → Int → Int → jS → jH → Prop} {q : Int → Int → Int → Int → jS → jH → Int → jS → jH → Prop} (h : x1_12 C G) (hrm : C.2.2.2.1.frames = 6 ∧ C.2.2.2.1.locals = 145) (hM : M1_35 C.2.1 mc ms p q) : j_Call C b_1_12 n_KT G.1 G.2.1 6 (.invokevirtual 151) mc ms (fun a S V => ∃ u0 u1 u2 u3 : Int, a = [(2, u0), (2, u1), (2, u2), (0, u3)] ∧ S.1 u0 = 31 ∧ p u0 u1 u2 u3 S V) (fun a S V rs S' V' => ∃ u0 u1 u2 u3 r : Int, a = [(2, u0), (2, u1), (2, u2), (0, u3)] ∧ rs = [(0, r)] ∧ q u0 u1 u2 u3 S V r S' V') := j_callV n_NWk h.2.2.2.2.2 h.1 hM ⟨h.2.1.1, h.2.1.2, h.2.2.1, h.2.2.2.1, h.2.2.2.2.1⟩ ⟨n_CB (y := y_1_35) (bytes := b_1_35) 3 h.2.2.2.2.1 n_w503 n_w500 n_w1 ⟨by decide, by decide, by decide +kernel⟩ rfl rfl ⟨by rw [hrm.1]; exact Nat.le_of_ble_eq_true rfl, by rw [hrm.2]; exact Nat.le_of_ble_eq_true rfl⟩, h.2.2.2.2.1 _ n_w502, h.2.2.2.2.1 _ n_s12⟩ (Cn := RX10) (fun a S V hP => by obtain ⟨u0, u1, u2, u3, rfl, e, -⟩ := hP; exact ⟨u0, _, 10, _, _, TX10, 8, rfl, rfl, by rw [e]; decide, by rw [e]; rfl, rfl⟩)
theorem K1_12_45 {C : qCx} {G : jG} {mc ms : Nat} {p : Int → Int → Int → Int → jS → jH → Prop} {q : Int → Int → Int → Int → jS → jH → jS → jH → Prop} (h : x1_12 C G) (hrm : C.2.2.2.1.frames = 6 ∧ C.2.2.2.1.locals = 145) (hM : M3_7 C.2.1 mc ms p q) : j_Call C b_1_12 n_KT G.1 G.2.1 6 (.invokevirtual 159) mc ms (fun a S V => ∃ u0 u1 u2 u3 : Int, a = [(2, u0), (2, u1), (2, u2), (0, u3)] ∧ S.1 u0 = 22 ∧ p u0 u1 u2 u3 S V) (fun a S V rs S' V' => ∃ u0 u1 u2 u3 : Int, a = [(2, u0), (2, u1), (2, u2), (0, u3)] ∧ rs = [] ∧ q u0 u1 u2 u3 S V S' V') := j_callV n_NWk h.2.2.2.2.2 h.1 hM ⟨h.2.1.1, h.2.1.2, h.2.2.1, h.2.2.2.1, h.2.2.2.2.1⟩ ⟨n_CB (y := y_3_7) (bytes := b_3_7) 3 h.2.2.2.2.1 n_w564 n_w561 n_w3 ⟨by decide, by decide, by decide +kernel⟩ rfl rfl ⟨by rw [hrm.1]; exact Nat.le_of_ble_eq_true rfl, by rw [hrm.2]; exact Nat.le_of_ble_eq_true rfl⟩, h.2.2.2.2.1 _ n_w562, h.2.2.2.2.1 _ n_w563⟩ (Cn := RX1) (fun a S V hP => by obtain ⟨u0, u1, u2, u3, rfl, e, -⟩ := hP; exact ⟨u0, _, 1, _, _, TX1, 5, rfl, rfl, by rw [e]; decide, by rw [e]; rfl, rfl⟩)
theorem t1_12_0 {C : qCx} {G : jG} {S : jS} {V : jH} {nc ns : Nat} {l0 l1 l2 l3 : Int} {mc ms : Nat} {pp : Int → Int → jS → jH → Prop} {qq : Int → Int → jS → jH → Int → jS → jH → Prop} (h : x1_12 C G) (hrm : C.2.2.2.1.frames = 6 ∧ C.2.2.2.1.locals = 145) (c1 : S.1 l0 = 31) (hM : M1_30 C.2.1 mc ms pp qq) (hp : pp l0 l1 S V) (hc : nc + mc ≤ C.2.2.2.1.cells) (hs : ns + ms ≤ C.2.2.2.1.slots) (k : ∀ (r : Int) (S' : jS) (V' : jH), qq l0 l1 S V r S' V' → j_ok n_KT 6 C G 5 [(0, (2, l0)), (2, (0, l2)), (3, (0, l3))] [(2, r)] S' V' (nc + mc) (ns + ms)) : j_ok n_KT 6 C G 0 [(0, (2, l0)), (1, (0, l1)), (2, (0, l2)), (3, (0, l3))] [] S V nc ns := by
  have E := n_E h
  refine j_aload_n E d1_12_0 rfl 0 rfl ?_
  refine j_iload_n E d1_12_1 rfl 1 rfl ?_
  refine j_call E (K1_12_2 h hrm hM) d1_12_2 (a := [(2, l0), (0, l1)]) (sk := []) rfl ⟨l0, l1, rfl, c1, hp⟩ (Nat.le_of_ble_eq_true rfl) hc hs ?_
  rintro rs S' V' ⟨z0, z1, r, e1, rfl, q⟩
  simp only [List.cons.injEq, Prod.mk.injEq, and_true, true_and] at e1
  obtain ⟨rfl, rfl⟩ := e1
  exact j_pick [0, 2, 3] rfl (k r S' V' q)
theorem t1_12_5 {C : qCx} {G : jG} {S : jS} {V : jH} {nc ns : Nat} {l0 l2 l3 s0 : Int} {mc ms : Nat} {pp : Int → Int → jS → jH → Prop} {qq : Int → Int → jS → jH → Int → jS → jH → Prop} (h : x1_12 C G) (hrm : C.2.2.2.1.frames = 6 ∧ C.2.2.2.1.locals = 145) (c1 : S.1 l0 = 31) (hM : M1_29 C.2.1 mc ms pp qq) (hp : pp l0 l2 S V) (hc : nc + mc ≤ C.2.2.2.1.cells) (hs : ns + ms ≤ C.2.2.2.1.slots) (k : ∀ (r : Int) (S' : jS) (V' : jH), qq l0 l2 S V r S' V' → j_ok n_KT 6 C G 15 [(0, (2, l0)), (3, (0, l3)), (4, (2, s0))] [(2, r), (2, s0), (2, l0)] S' V' (nc + mc) (ns + ms)) : j_ok n_KT 6 C G 5 [(0, (2, l0)), (2, (0, l2)), (3, (0, l3))] [(2, s0)] S V nc ns := by
  have E := n_E h
  refine j_astore E d1_12_5 (by decide) (lo1 := [(0, (2, l0)), (2, (0, l2)), (3, (0, l3))]) rfl ?_
  refine j_aload_n E d1_12_7 rfl 1 rfl ?_
  refine j_aload E d1_12_8 0 rfl ?_
  refine j_aload_n E d1_12_10 rfl 1 rfl ?_
  refine j_iload_n E d1_12_11 rfl 2 rfl ?_
  refine j_call E (K1_12_12 h hrm hM) d1_12_12 (a := [(2, l0), (0, l2)]) (sk := [(2, s0), (2, l0)]) rfl ⟨l0, l2, rfl, c1, hp⟩ (Nat.le_of_ble_eq_true rfl) hc hs ?_
  rintro rs S' V' ⟨z0, z1, r, e1, rfl, q⟩
  simp only [List.cons.injEq, Prod.mk.injEq, and_true, true_and] at e1
  obtain ⟨rfl, rfl⟩ := e1
  exact j_pick [1, 3, 0] rfl (k r S' V' q)
theorem t1_12_15 {C : qCx} {G : jG} {S : jS} {V : jH} {nc ns : Nat} {l0 l3 l4 s0 s1 s2 : Int} {mc ms : Nat} {pp : Int → Int → Int → Int → jS → jH → Prop} {qq : Int → Int → Int → Int → jS → jH → Int → jS → jH → Prop} (h : x1_12 C G) (hrm : C.2.2.2.1.frames = 6 ∧ C.2.2.2.1.locals = 145) (c1 : S.1 s2 = 31) (hM : M1_35 C.2.1 mc ms pp qq) (hp : pp s2 s1 s0 l3 S V) (hc : nc + mc ≤ C.2.2.2.1.cells) (hs : ns + ms ≤ C.2.2.2.1.slots) (k : ∀ (r : Int) (S' : jS) (V' : jH), qq s2 s1 s0 l3 S V r S' V' → j_ok n_KT 6 C G 19 [(0, (2, l0)), (3, (0, l3)), (4, (2, l4))] [(0, r)] S' V' (nc + mc) (ns + ms)) : j_ok n_KT 6 C G 15 [(0, (2, l0)), (3, (0, l3)), (4, (2, l4))] [(2, s0), (2, s1), (2, s2)] S V nc ns := by
  have E := n_E h
  refine j_iload_n E d1_12_15 rfl 1 rfl ?_
  refine j_call E (K1_12_16 h hrm hM) d1_12_16 (a := [(2, s2), (2, s1), (2, s0), (0, l3)]) (sk := []) rfl ⟨s2, s1, s0, l3, rfl, c1, hp⟩ (Nat.le_of_ble_eq_true rfl) hc hs ?_
  rintro rs S' V' ⟨z0, z1, z2, z3, r, e1, rfl, q⟩
  simp only [List.cons.injEq, Prod.mk.injEq, and_true, true_and] at e1
  obtain ⟨rfl, rfl, rfl, rfl⟩ := e1
  exact j_pick [0, 1, 2] rfl (k r S' V' q)
theorem t1_12_19 {C : qCx} {G : jG} {S : jS} {V : jH} {nc ns : Nat} {l0 l3 l4 s0 : Int} (h : x1_12 C G)  (k : s0 < 0 → j_ok n_KT 6 C G 48 [(5, (0, s0))] [] S V nc ns) (k' : 0 ≤ s0 → j_ok n_KT 6 C G 26 [(0, (2, l0)), (3, (0, l3)), (4, (2, l4)), (5, (0, s0))] [] S V nc ns) : j_ok n_KT 6 C G 19 [(0, (2, l0)), (3, (0, l3)), (4, (2, l4))] [(0, s0)] S V nc ns := by
  have E := n_E h
  refine j_istore E d1_12_19 (by decide) (lo1 := [(0, (2, l0)), (3, (0, l3)), (4, (2, l4))]) rfl ?_
  refine j_iload E d1_12_21 0 rfl ?_
  exact j_if_lt E d1_12_23 (t := 48) rfl (fun q => j_pick [0] rfl (k q)) (fun q => j_pick [1, 2, 3, 0] rfl (k' q))
theorem t1_12_26 {C : qCx} {G : jG} {S : jS} {V : jH} {nc ns : Nat} {l0 l3 l4 l5 : Int} (h : x1_12 C G)  (k : l4 = -1 → j_ok n_KT 6 C G 48 [(5, (0, l5))] [] S V nc ns) (k' : 0 ≤ l4 → S.1 l4 ≠ 0 → j_ok n_KT 6 C G 31 [(0, (2, l0)), (3, (0, l3)), (4, (2, l4)), (5, (0, l5))] [] S V nc ns) : j_ok n_KT 6 C G 26 [(0, (2, l0)), (3, (0, l3)), (4, (2, l4)), (5, (0, l5))] [] S V nc ns := by
  have E := n_E h
  refine j_aload E d1_12_26 2 rfl ?_
  exact j_ifnull E d1_12_28 (t := 48) rfl (fun q => j_pick [3] rfl (k q)) (fun q q2 => j_pick [0, 1, 2, 3] rfl (k' q q2))
theorem t1_12_31 {C : qCx} {G : jG} {S : jS} {V : jH} {nc ns : Nat} {l0 l3 l4 l5 : Int} {mc ms : Nat} {pp : Int → Int → Int → Int → jS → jH → Prop} {qq : Int → Int → Int → Int → jS → jH → jS → jH → Prop} (h : x1_12 C G) (L : j_L S) (hrm : C.2.2.2.1.frames = 6 ∧ C.2.2.2.1.locals = 145) (c1 : S.1 l0 = 31) (hM : M3_7 C.2.1 mc ms pp qq) (hp : pp (l0 + 16) l4 (l0 + 200) l3 S V) (hc : nc + mc ≤ C.2.2.2.1.cells) (hs : ns + ms ≤ C.2.2.2.1.slots) (k : ∀ (S' : jS) (V' : jH), qq (l0 + 16) l4 (l0 + 200) l3 S V S' V' → j_ok n_KT 6 C G 48 [(5, (0, l5))] [] S' V' (nc + mc) (ns + ms)) : j_ok n_KT 6 C G 31 [(0, (2, l0)), (3, (0, l3)), (4, (2, l4)), (5, (0, l5))] [] S V nc ns := by
  have E := n_E h
  refine j_aload_n E d1_12_31 rfl 0 rfl ?_
  refine j_getS (f := 0) (x := l0 + 1) (fg10_10 h) d1_12_32 c1 (by decide) rfl rfl ((L10_0 L c1).trans (by omega)) ?_
  refine j_getS (f := 3) (x := l0 + 16) (fg10_155 h) d1_12_35 (show S.1 (l0 + 1) = 30 from (by have q := L10_0k L c1; rw [show l0 + 1 = l0 + 1 by omega]; exact q)) (by decide) rfl rfl ((L9_3 L (show S.1 (l0 + 1) = 30 from (by have q := L10_0k L c1; rw [show l0 + 1 = l0 + 1 by omega]; exact q))).trans (by omega)) ?_
  refine j_aload E d1_12_38 2 rfl ?_
  refine j_aload_n E d1_12_40 rfl 0 rfl ?_
  refine j_getS (f := 2) (x := l0 + 200) (fg10_22 h) d1_12_41 c1 (by decide) rfl rfl ((L10_2 L c1).trans (by omega)) ?_
  refine j_iload_n E d1_12_44 rfl 1 rfl ?_
  refine j_call E (K1_12_45 h hrm hM) d1_12_45 (a := [(2, l0 + 16), (2, l4), (2, l0 + 200), (0, l3)]) (sk := []) rfl ⟨l0 + 16, l4, l0 + 200, l3, rfl, (show S.1 (l0 + 16) = 22 from (by have q := L9_3k L (show S.1 (l0 + 1) = 30 from (by have q := L10_0k L c1; rw [show l0 + 1 = l0 + 1 by omega]; exact q)); rw [show l0 + 16 = (l0 + 1) + 15 by omega]; exact q)), hp⟩ (Nat.le_of_ble_eq_true rfl) hc hs ?_
  rintro rs S' V' ⟨z0, z1, z2, z3, e1, rfl, q⟩
  simp only [List.cons.injEq, Prod.mk.injEq, and_true, true_and] at e1
  obtain ⟨rfl, rfl, rfl, rfl⟩ := e1
  exact j_pick [3] rfl (k S' V' q)
theorem t1_12_48 {C : qCx} {G : jG} {S : jS} {V : jH} {nc ns : Nat} {l5 : Int} {mc ms : Nat} {qf : Int → jS → jH → Prop} (h : x1_12 C G)  (R : j_Ri n_KT 6 C G b_1_12 mc ms qf) (q : qf l5 S V) (hc : nc ≤ mc) (hs : ns ≤ ms) : j_ok n_KT 6 C G 48 [(5, (0, l5))] [] S V nc ns := by
  have E := n_E h
  refine j_iload E d1_12_48 0 rfl ?_
  exact R _ _ _ _ _ _ _ d1_12_50 q hc hs
/- BalanceCoder.ahead(III)I -/
abbrev b_1_13 : ByteArray := prog_1_method_13_code
def y_1_13 : MethodName := ⟨"BalanceCoder", "ahead", "(III)I"⟩
abbrev x1_13 (C : qCx) (G : jG) : Prop := n_ctx C b_1_13 4 "BalanceCoder" G.1 G.2.1
def M1_13 (l : Launch) (mc ms : Nat) (p : Int → Int → Int → Int → jS → jH → Prop) (q : Int → Int → Int → Int → jS → jH → Int → jS → jH → Prop) : Prop := j_Met l vwCl n_TL n_NW n_KT y_1_13 (Cond.code y_1_13 b_1_13 4 (some .int) :: n_GW) { frames := 6, cells := mc, slots := ms, locals := 145 } mc ms (fun a S V => ∃ u0 u1 u2 u3 : Int, a = [(2, u0), (0, u1), (0, u2), (0, u3)] ∧ S.1 u0 = 31 ∧ p u0 u1 u2 u3 S V) (fun a S V rs S' V' => ∃ u0 u1 u2 u3 r : Int, a = [(2, u0), (0, u1), (0, u2), (0, u3)] ∧ rs = [(0, r)] ∧ q u0 u1 u2 u3 S V r S' V')
theorem e1_13 {l : Launch} {mc ms : Nat} {p : Int → Int → Int → Int → jS → jH → Prop} {q : Int → Int → Int → Int → jS → jH → Int → jS → jH → Prop} (body : ∀ (C : qCx) (G : jG), x1_13 C G → C.2.2.2.1.frames = 6 ∧ C.2.2.2.1.locals = 145 → C.2.2.2.1.cells = mc ∧ C.2.2.2.1.slots = ms → C.2.1 = l → C.2.2.2.2.2.2.2.2.1.name = "ahead" → ∀ (u0 u1 u2 u3 : Int) (S : jS) (V : jH), S.1 u0 = 31 → p u0 u1 u2 u3 S V → j_Ri n_KT 4 C G b_1_13 mc ms (q u0 u1 u2 u3 S V) → j_ok n_KT 4 C G 0 [(0, (2, u0)), (1, (0, u1)), (2, (0, u2)), (3, (0, u3))] [] S V 0 0) : M1_13 l mc ms p q := by
  refine j_method (ws' := n_GW) (by decide) rfl ?_ ?_
  · rintro a S V ⟨u0, u1, u2, u3, rfl, -⟩
    exact Nat.le_of_ble_eq_true rfl
  · rintro C G htl hl hrm hm hml ho hts hnm hE a S V ⟨u0, u1, u2, u3, rfl, ht, hp⟩ R
    exact body C G ⟨htl, hm, hml, ho, fun w hw => hts w (List.mem_cons_of_mem _ hw), hE⟩ (by rw [hrm]; exact ⟨rfl, rfl⟩) (by rw [hrm]; exact ⟨rfl, rfl⟩) hl hnm u0 u1 u2 u3 S V ht hp (fun pc lo r S' V' nc ns d q hc hs => R.2.1 rfl pc lo r S' V' nc ns d ⟨u0, u1, u2, u3, r, rfl, rfl, q⟩ hc hs)
theorem d1_13_0 : decode b_1_13 0 = .ok (.aload_n 0, 1) := by decide +kernel
theorem d1_13_1 : decode b_1_13 1 = .ok (.aload_n 0, 1) := by decide +kernel
theorem d1_13_2 : decode b_1_13 2 = .ok (.iload_n 1, 1) := by decide +kernel
theorem d1_13_3 : decode b_1_13 3 = .ok (.invokevirtual 92, 3) := by decide +kernel
theorem d1_13_6 : decode b_1_13 6 = .ok (.aload_n 0, 1) := by decide +kernel
theorem d1_13_7 : decode b_1_13 7 = .ok (.iload_n 2, 1) := by decide +kernel
theorem d1_13_8 : decode b_1_13 8 = .ok (.invokevirtual 51, 3) := by decide +kernel
theorem d1_13_11 : decode b_1_13 11 = .ok (.iload_n 3, 1) := by decide +kernel
theorem d1_13_12 : decode b_1_13 12 = .ok (.invokevirtual 151, 3) := by decide +kernel
theorem d1_13_15 : decode b_1_13 15 = .ok (.ireturn, 1) := by decide +kernel
theorem K1_13_3 {C : qCx} {G : jG} {mc ms : Nat} {p : Int → Int → jS → jH → Prop} {q : Int → Int → jS → jH → Int → jS → jH → Prop} (h : x1_13 C G) (hrm : C.2.2.2.1.frames = 6 ∧ C.2.2.2.1.locals = 145) (hM : M1_30 C.2.1 mc ms p q) : j_Call C b_1_13 n_KT G.1 G.2.1 4 (.invokevirtual 92) mc ms (fun a S V => ∃ u0 u1 : Int, a = [(2, u0), (0, u1)] ∧ S.1 u0 = 31 ∧ p u0 u1 S V) (fun a S V rs S' V' => ∃ u0 u1 r : Int, a = [(2, u0), (0, u1)] ∧ rs = [(2, r)] ∧ q u0 u1 S V r S' V') := j_callV n_NWk h.2.2.2.2.2 h.1 hM ⟨h.2.1.1, h.2.1.2, h.2.2.1, h.2.2.2.1, h.2.2.2.2.1⟩ ⟨n_CB (y := y_1_30) (bytes := b_1_30) 1 h.2.2.2.2.1 n_w367 n_w364 n_w1 ⟨by decide, by decide, by decide +kernel⟩ rfl rfl ⟨by rw [hrm.1]; exact Nat.le_of_ble_eq_true rfl, by rw [hrm.2]; exact Nat.le_of_ble_eq_true rfl⟩, h.2.2.2.2.1 _ n_w366, h.2.2.2.2.1 _ n_s2⟩ (Cn := RX10) (fun a S V hP => by obtain ⟨u0, u1, rfl, e, -⟩ := hP; exact ⟨u0, _, 10, _, _, TX10, 8, rfl, rfl, by rw [e]; decide, by rw [e]; rfl, rfl⟩)
theorem K1_13_8 {C : qCx} {G : jG} {mc ms : Nat} {p : Int → Int → jS → jH → Prop} {q : Int → Int → jS → jH → Int → jS → jH → Prop} (h : x1_13 C G) (hrm : C.2.2.2.1.frames = 6 ∧ C.2.2.2.1.locals = 145) (hM : M1_29 C.2.1 mc ms p q) : j_Call C b_1_13 n_KT G.1 G.2.1 4 (.invokevirtual 51) mc ms (fun a S V => ∃ u0 u1 : Int, a = [(2, u0), (0, u1)] ∧ S.1 u0 = 31 ∧ p u0 u1 S V) (fun a S V rs S' V' => ∃ u0 u1 r : Int, a = [(2, u0), (0, u1)] ∧ rs = [(2, r)] ∧ q u0 u1 S V r S' V') := j_callV n_NWk h.2.2.2.2.2 h.1 hM ⟨h.2.1.1, h.2.1.2, h.2.2.1, h.2.2.2.1, h.2.2.2.2.1⟩ ⟨n_CB (y := y_1_29) (bytes := b_1_29) 1 h.2.2.2.2.1 n_w305 n_w302 n_w1 ⟨by decide, by decide, by decide +kernel⟩ rfl rfl ⟨by rw [hrm.1]; exact Nat.le_of_ble_eq_true rfl, by rw [hrm.2]; exact Nat.le_of_ble_eq_true rfl⟩, h.2.2.2.2.1 _ n_w304, h.2.2.2.2.1 _ n_s0⟩ (Cn := RX10) (fun a S V hP => by obtain ⟨u0, u1, rfl, e, -⟩ := hP; exact ⟨u0, _, 10, _, _, TX10, 8, rfl, rfl, by rw [e]; decide, by rw [e]; rfl, rfl⟩)
theorem K1_13_12 {C : qCx} {G : jG} {mc ms : Nat} {p : Int → Int → Int → Int → jS → jH → Prop} {q : Int → Int → Int → Int → jS → jH → Int → jS → jH → Prop} (h : x1_13 C G) (hrm : C.2.2.2.1.frames = 6 ∧ C.2.2.2.1.locals = 145) (hM : M1_35 C.2.1 mc ms p q) : j_Call C b_1_13 n_KT G.1 G.2.1 4 (.invokevirtual 151) mc ms (fun a S V => ∃ u0 u1 u2 u3 : Int, a = [(2, u0), (2, u1), (2, u2), (0, u3)] ∧ S.1 u0 = 31 ∧ p u0 u1 u2 u3 S V) (fun a S V rs S' V' => ∃ u0 u1 u2 u3 r : Int, a = [(2, u0), (2, u1), (2, u2), (0, u3)] ∧ rs = [(0, r)] ∧ q u0 u1 u2 u3 S V r S' V') := j_callV n_NWk h.2.2.2.2.2 h.1 hM ⟨h.2.1.1, h.2.1.2, h.2.2.1, h.2.2.2.1, h.2.2.2.2.1⟩ ⟨n_CB (y := y_1_35) (bytes := b_1_35) 3 h.2.2.2.2.1 n_w503 n_w500 n_w1 ⟨by decide, by decide, by decide +kernel⟩ rfl rfl ⟨by rw [hrm.1]; exact Nat.le_of_ble_eq_true rfl, by rw [hrm.2]; exact Nat.le_of_ble_eq_true rfl⟩, h.2.2.2.2.1 _ n_w502, h.2.2.2.2.1 _ n_s12⟩ (Cn := RX10) (fun a S V hP => by obtain ⟨u0, u1, u2, u3, rfl, e, -⟩ := hP; exact ⟨u0, _, 10, _, _, TX10, 8, rfl, rfl, by rw [e]; decide, by rw [e]; rfl, rfl⟩)
theorem t1_13_0 {C : qCx} {G : jG} {S : jS} {V : jH} {nc ns : Nat} {l0 l1 l2 l3 : Int} {mc ms : Nat} {pp : Int → Int → jS → jH → Prop} {qq : Int → Int → jS → jH → Int → jS → jH → Prop} (h : x1_13 C G) (hrm : C.2.2.2.1.frames = 6 ∧ C.2.2.2.1.locals = 145) (c1 : S.1 l0 = 31) (hM : M1_30 C.2.1 mc ms pp qq) (hp : pp l0 l1 S V) (hc : nc + mc ≤ C.2.2.2.1.cells) (hs : ns + ms ≤ C.2.2.2.1.slots) (k : ∀ (r : Int) (S' : jS) (V' : jH), qq l0 l1 S V r S' V' → j_ok n_KT 4 C G 6 [(0, (2, l0)), (2, (0, l2)), (3, (0, l3))] [(2, r), (2, l0)] S' V' (nc + mc) (ns + ms)) : j_ok n_KT 4 C G 0 [(0, (2, l0)), (1, (0, l1)), (2, (0, l2)), (3, (0, l3))] [] S V nc ns := by
  have E := n_E h
  refine j_aload_n E d1_13_0 rfl 0 rfl ?_
  refine j_aload_n E d1_13_1 rfl 0 rfl ?_
  refine j_iload_n E d1_13_2 rfl 1 rfl ?_
  refine j_call E (K1_13_3 h hrm hM) d1_13_3 (a := [(2, l0), (0, l1)]) (sk := [(2, l0)]) rfl ⟨l0, l1, rfl, c1, hp⟩ (Nat.le_of_ble_eq_true rfl) hc hs ?_
  rintro rs S' V' ⟨z0, z1, r, e1, rfl, q⟩
  simp only [List.cons.injEq, Prod.mk.injEq, and_true, true_and] at e1
  obtain ⟨rfl, rfl⟩ := e1
  exact j_pick [0, 2, 3] rfl (k r S' V' q)
theorem t1_13_6 {C : qCx} {G : jG} {S : jS} {V : jH} {nc ns : Nat} {l0 l2 l3 s0 s1 : Int} {mc ms : Nat} {pp : Int → Int → jS → jH → Prop} {qq : Int → Int → jS → jH → Int → jS → jH → Prop} (h : x1_13 C G) (hrm : C.2.2.2.1.frames = 6 ∧ C.2.2.2.1.locals = 145) (c1 : S.1 l0 = 31) (hM : M1_29 C.2.1 mc ms pp qq) (hp : pp l0 l2 S V) (hc : nc + mc ≤ C.2.2.2.1.cells) (hs : ns + ms ≤ C.2.2.2.1.slots) (k : ∀ (r : Int) (S' : jS) (V' : jH), qq l0 l2 S V r S' V' → j_ok n_KT 4 C G 11 [(3, (0, l3))] [(2, r), (2, s0), (2, s1)] S' V' (nc + mc) (ns + ms)) : j_ok n_KT 4 C G 6 [(0, (2, l0)), (2, (0, l2)), (3, (0, l3))] [(2, s0), (2, s1)] S V nc ns := by
  have E := n_E h
  refine j_aload_n E d1_13_6 rfl 0 rfl ?_
  refine j_iload_n E d1_13_7 rfl 1 rfl ?_
  refine j_call E (K1_13_8 h hrm hM) d1_13_8 (a := [(2, l0), (0, l2)]) (sk := [(2, s0), (2, s1)]) rfl ⟨l0, l2, rfl, c1, hp⟩ (Nat.le_of_ble_eq_true rfl) hc hs ?_
  rintro rs S' V' ⟨z0, z1, r, e1, rfl, q⟩
  simp only [List.cons.injEq, Prod.mk.injEq, and_true, true_and] at e1
  obtain ⟨rfl, rfl⟩ := e1
  exact j_pick [2] rfl (k r S' V' q)
theorem t1_13_11 {C : qCx} {G : jG} {S : jS} {V : jH} {nc ns : Nat} {l3 s0 s1 s2 : Int} {mc ms : Nat} {pp : Int → Int → Int → Int → jS → jH → Prop} {qq : Int → Int → Int → Int → jS → jH → Int → jS → jH → Prop} (h : x1_13 C G) (hrm : C.2.2.2.1.frames = 6 ∧ C.2.2.2.1.locals = 145) (c1 : S.1 s2 = 31) (hM : M1_35 C.2.1 mc ms pp qq) (hp : pp s2 s1 s0 l3 S V) (hc : nc + mc ≤ C.2.2.2.1.cells) (hs : ns + ms ≤ C.2.2.2.1.slots) (k : ∀ (r : Int) (S' : jS) (V' : jH), qq s2 s1 s0 l3 S V r S' V' → j_ok n_KT 4 C G 15 [] [(0, r)] S' V' (nc + mc) (ns + ms)) : j_ok n_KT 4 C G 11 [(3, (0, l3))] [(2, s0), (2, s1), (2, s2)] S V nc ns := by
  have E := n_E h
  refine j_iload_n E d1_13_11 rfl 0 rfl ?_
  refine j_call E (K1_13_12 h hrm hM) d1_13_12 (a := [(2, s2), (2, s1), (2, s0), (0, l3)]) (sk := []) rfl ⟨s2, s1, s0, l3, rfl, c1, hp⟩ (Nat.le_of_ble_eq_true rfl) hc hs ?_
  rintro rs S' V' ⟨z0, z1, z2, z3, r, e1, rfl, q⟩
  simp only [List.cons.injEq, Prod.mk.injEq, and_true, true_and] at e1
  obtain ⟨rfl, rfl, rfl, rfl⟩ := e1
  exact j_pick [] rfl (k r S' V' q)
theorem t1_13_15 {C : qCx} {G : jG} {S : jS} {V : jH} {nc ns : Nat} {s0 : Int} {mc ms : Nat} {qf : Int → jS → jH → Prop} (h : x1_13 C G)  (R : j_Ri n_KT 4 C G b_1_13 mc ms qf) (q : qf s0 S V) (hc : nc ≤ mc) (hs : ns ≤ ms) : j_ok n_KT 4 C G 15 [] [(0, s0)] S V nc ns := by
  have E := n_E h
  exact R _ _ _ _ _ _ _ d1_13_15 q hc hs
/- BalanceCoder$Reader.number(LBalanceCoder$Block;III)I -/
abbrev b_7_3 : ByteArray := prog_7_method_3_code
def y_7_3 : MethodName := ⟨"BalanceCoder$Reader", "number", "(LBalanceCoder$Block;III)I"⟩
abbrev x7_3 (C : qCx) (G : jG) : Prop := n_ctx C b_7_3 7 "BalanceCoder$Reader" G.1 G.2.1
def M7_3 (l : Launch) (mc ms : Nat) (p : Int → Int → Int → Int → Int → jS → jH → Prop) (q : Int → Int → Int → Int → Int → jS → jH → Int → jS → jH → Prop) : Prop := j_Met l vwCl n_TL n_NW n_KT y_7_3 (Cond.code y_7_3 b_7_3 7 (some .int) :: n_GW) { frames := 1, cells := mc, slots := ms, locals := 26 } mc ms (fun a S V => ∃ u0 u1 u2 u3 u4 : Int, a = [(2, u0), (2, u1), (0, u2), (0, u3), (0, u4)] ∧ S.1 u0 = 26 ∧ p u0 u1 u2 u3 u4 S V) (fun a S V rs S' V' => ∃ u0 u1 u2 u3 u4 r : Int, a = [(2, u0), (2, u1), (0, u2), (0, u3), (0, u4)] ∧ rs = [(0, r)] ∧ q u0 u1 u2 u3 u4 S V r S' V')
theorem e7_3 {l : Launch} {mc ms : Nat} {p : Int → Int → Int → Int → Int → jS → jH → Prop} {q : Int → Int → Int → Int → Int → jS → jH → Int → jS → jH → Prop} (body : ∀ (C : qCx) (G : jG), x7_3 C G → C.2.2.2.1.frames = 1 ∧ C.2.2.2.1.locals = 26 → C.2.2.2.1.cells = mc ∧ C.2.2.2.1.slots = ms → C.2.1 = l → C.2.2.2.2.2.2.2.2.1.name = "number" → ∀ (u0 u1 u2 u3 u4 : Int) (S : jS) (V : jH), S.1 u0 = 26 → p u0 u1 u2 u3 u4 S V → j_Ri n_KT 7 C G b_7_3 mc ms (q u0 u1 u2 u3 u4 S V) → j_ok n_KT 7 C G 0 [(0, (2, u0)), (1, (2, u1)), (2, (0, u2)), (3, (0, u3)), (4, (0, u4))] [] S V 0 0) : M7_3 l mc ms p q := by
  refine j_method (ws' := n_GW) (by decide) rfl ?_ ?_
  · rintro a S V ⟨u0, u1, u2, u3, u4, rfl, -⟩
    exact Nat.le_of_ble_eq_true rfl
  · rintro C G htl hl hrm hm hml ho hts hnm hE a S V ⟨u0, u1, u2, u3, u4, rfl, ht, hp⟩ R
    exact body C G ⟨htl, hm, hml, ho, fun w hw => hts w (List.mem_cons_of_mem _ hw), hE⟩ (by rw [hrm]; exact ⟨rfl, rfl⟩) (by rw [hrm]; exact ⟨rfl, rfl⟩) hl hnm u0 u1 u2 u3 u4 S V ht hp (fun pc lo r S' V' nc ns d q hc hs => R.2.1 rfl pc lo r S' V' nc ns d ⟨u0, u1, u2, u3, u4, r, rfl, rfl, q⟩ hc hs)
theorem d7_3_0 : decode b_7_3 0 = .ok (.aload_n 0, 1) := by decide +kernel
theorem d7_3_1 : decode b_7_3 1 = .ok (.getfield 15, 3) := by decide +kernel
theorem d7_3_4 : decode b_7_3 4 = .ok (.ifCond .lt 5, 3) := by decide +kernel
theorem d7_3_7 : decode b_7_3 7 = .ok (.iload_n 3, 1) := by decide +kernel
theorem d7_3_8 : decode b_7_3 8 = .ok (.ireturn, 1) := by decide +kernel
theorem d7_3_9 : decode b_7_3 9 = .ok (.iload_n 2, 1) := by decide +kernel
theorem d7_3_10 : decode b_7_3 10 = .ok (.aload_n 1, 1) := by decide +kernel
theorem d7_3_11 : decode b_7_3 11 = .ok (.getfield 58, 3) := by decide +kernel
theorem d7_3_14 : decode b_7_3 14 = .ok (.aload_n 0, 1) := by decide +kernel
theorem d7_3_15 : decode b_7_3 15 = .ok (.getfield 9, 3) := by decide +kernel
theorem d7_3_18 : decode b_7_3 18 = .ok (.isub, 1) := by decide +kernel
theorem d7_3_19 : decode b_7_3 19 = .ok (.if_icmp .le 13, 3) := by decide +kernel
theorem d7_3_22 : decode b_7_3 22 = .ok (.aload_n 0, 1) := by decide +kernel
theorem d7_3_23 : decode b_7_3 23 = .ok (.aload_n 1, 1) := by decide +kernel
theorem d7_3_24 : decode b_7_3 24 = .ok (.getfield 58, 3) := by decide +kernel
theorem d7_3_27 : decode b_7_3 27 = .ok (.putfield 15, 3) := by decide +kernel
theorem d7_3_30 : decode b_7_3 30 = .ok (.iload_n 3, 1) := by decide +kernel
theorem d7_3_31 : decode b_7_3 31 = .ok (.ireturn, 1) := by decide +kernel
theorem d7_3_32 : decode b_7_3 32 = .ok (.iconst 0, 1) := by decide +kernel
theorem d7_3_33 : decode b_7_3 33 = .ok (.istore 5, 2) := by decide +kernel
theorem d7_3_35 : decode b_7_3 35 = .ok (.iconst 0, 1) := by decide +kernel
theorem d7_3_36 : decode b_7_3 36 = .ok (.istore 6, 2) := by decide +kernel
theorem d7_3_38 : decode b_7_3 38 = .ok (.iload 6, 2) := by decide +kernel
theorem d7_3_40 : decode b_7_3 40 = .ok (.iload_n 2, 1) := by decide +kernel
theorem d7_3_41 : decode b_7_3 41 = .ok (.if_icmp .ge 29, 3) := by decide +kernel
theorem d7_3_44 : decode b_7_3 44 = .ok (.iload 5, 2) := by decide +kernel
theorem d7_3_46 : decode b_7_3 46 = .ok (.bipush 8, 2) := by decide +kernel
theorem d7_3_48 : decode b_7_3 48 = .ok (.ishl, 1) := by decide +kernel
theorem d7_3_49 : decode b_7_3 49 = .ok (.aload_n 1, 1) := by decide +kernel
theorem d7_3_50 : decode b_7_3 50 = .ok (.getfield 63, 3) := by decide +kernel
theorem d7_3_53 : decode b_7_3 53 = .ok (.aload_n 0, 1) := by decide +kernel
theorem d7_3_54 : decode b_7_3 54 = .ok (.getfield 9, 3) := by decide +kernel
theorem d7_3_57 : decode b_7_3 57 = .ok (.iload 6, 2) := by decide +kernel
theorem d7_3_59 : decode b_7_3 59 = .ok (.iadd, 1) := by decide +kernel
theorem d7_3_60 : decode b_7_3 60 = .ok (.iaload, 1) := by decide +kernel
theorem d7_3_61 : decode b_7_3 61 = .ok (.ior, 1) := by decide +kernel
theorem d7_3_62 : decode b_7_3 62 = .ok (.istore 5, 2) := by decide +kernel
theorem d7_3_64 : decode b_7_3 64 = .ok (.iinc 6 1, 3) := by decide +kernel
theorem d7_3_67 : decode b_7_3 67 = .ok (.goto (-29), 3) := by decide +kernel
theorem d7_3_70 : decode b_7_3 70 = .ok (.iload 5, 2) := by decide +kernel
theorem d7_3_72 : decode b_7_3 72 = .ok (.iload_n 3, 1) := by decide +kernel
theorem d7_3_73 : decode b_7_3 73 = .ok (.if_icmp .lt 10, 3) := by decide +kernel
theorem d7_3_76 : decode b_7_3 76 = .ok (.iload 5, 2) := by decide +kernel
theorem d7_3_78 : decode b_7_3 78 = .ok (.iload 4, 2) := by decide +kernel
theorem d7_3_80 : decode b_7_3 80 = .ok (.if_icmp .le 13, 3) := by decide +kernel
theorem d7_3_83 : decode b_7_3 83 = .ok (.aload_n 0, 1) := by decide +kernel
theorem d7_3_84 : decode b_7_3 84 = .ok (.aload_n 0, 1) := by decide +kernel
theorem d7_3_85 : decode b_7_3 85 = .ok (.getfield 9, 3) := by decide +kernel
theorem d7_3_88 : decode b_7_3 88 = .ok (.putfield 15, 3) := by decide +kernel
theorem d7_3_91 : decode b_7_3 91 = .ok (.iload_n 3, 1) := by decide +kernel
theorem d7_3_92 : decode b_7_3 92 = .ok (.ireturn, 1) := by decide +kernel
theorem d7_3_93 : decode b_7_3 93 = .ok (.aload_n 0, 1) := by decide +kernel
theorem d7_3_94 : decode b_7_3 94 = .ok (.dup, 1) := by decide +kernel
theorem d7_3_95 : decode b_7_3 95 = .ok (.getfield 9, 3) := by decide +kernel
theorem d7_3_98 : decode b_7_3 98 = .ok (.iload_n 2, 1) := by decide +kernel
theorem d7_3_99 : decode b_7_3 99 = .ok (.iadd, 1) := by decide +kernel
theorem d7_3_100 : decode b_7_3 100 = .ok (.putfield 9, 3) := by decide +kernel
theorem d7_3_103 : decode b_7_3 103 = .ok (.iload 5, 2) := by decide +kernel
theorem d7_3_105 : decode b_7_3 105 = .ok (.ireturn, 1) := by decide +kernel
theorem t7_3_0 {C : qCx} {G : jG} {S : jS} {V : jH} {nc ns : Nat} {l0 l1 l2 l3 l4 : Int} (h : x7_3 C G) (c1 : S.1 l0 = 26) (k : V l0 1 < 0 → j_ok n_KT 7 C G 9 [(0, (2, l0)), (1, (2, l1)), (2, (0, l2)), (3, (0, l3)), (4, (0, l4))] [] S V nc ns) (k' : 0 ≤ V l0 1 → j_ok n_KT 7 C G 7 [(3, (0, l3))] [] S V nc ns) : j_ok n_KT 7 C G 0 [(0, (2, l0)), (1, (2, l1)), (2, (0, l2)), (3, (0, l3)), (4, (0, l4))] [] S V nc ns := by
  have E := n_E h
  refine j_aload_n E d7_3_0 rfl 0 rfl ?_
  refine j_getI (f := 1) (fg5_15 h) d7_3_1 c1 (by decide) rfl rfl ?_
  exact j_if_lt E d7_3_4 (t := 9) rfl (fun q => j_pick [0, 1, 2, 3, 4] rfl (k q)) (fun q => j_pick [3] rfl (k' q))
theorem t7_3_7 {C : qCx} {G : jG} {S : jS} {V : jH} {nc ns : Nat} {l3 : Int} {mc ms : Nat} {qf : Int → jS → jH → Prop} (h : x7_3 C G)  (R : j_Ri n_KT 7 C G b_7_3 mc ms qf) (q : qf l3 S V) (hc : nc ≤ mc) (hs : ns ≤ ms) : j_ok n_KT 7 C G 7 [(3, (0, l3))] [] S V nc ns := by
  have E := n_E h
  refine j_iload_n E d7_3_7 rfl 0 rfl ?_
  exact R _ _ _ _ _ _ _ d7_3_8 q hc hs
theorem t7_3_9 {C : qCx} {G : jG} {S : jS} {V : jH} {nc ns : Nat} {l0 l1 l2 l3 l4 : Int} (h : x7_3 C G) (c1 : S.1 l1 = 22) (c2 : S.1 l0 = 26) (c3 : -2147483648 ≤ (V l1 1) - (V l0 0) ∧ (V l1 1) - (V l0 0) ≤ 2147483647) (k : l2 ≤ (V l1 1) - (V l0 0) → j_ok n_KT 7 C G 32 [(0, (2, l0)), (1, (2, l1)), (2, (0, l2)), (3, (0, l3)), (4, (0, l4))] [] S V nc ns) (k' : (V l1 1) - (V l0 0) < l2 → j_ok n_KT 7 C G 22 [(0, (2, l0)), (1, (2, l1)), (3, (0, l3))] [] S V nc ns) : j_ok n_KT 7 C G 9 [(0, (2, l0)), (1, (2, l1)), (2, (0, l2)), (3, (0, l3)), (4, (0, l4))] [] S V nc ns := by
  have E := n_E h
  refine j_iload_n E d7_3_9 rfl 2 rfl ?_
  refine j_aload_n E d7_3_10 rfl 1 rfl ?_
  refine j_getI (f := 1) (fg5_58 h) d7_3_11 c1 (by decide) rfl rfl ?_
  refine j_aload_n E d7_3_14 rfl 0 rfl ?_
  refine j_getI (f := 0) (fg5_9 h) d7_3_15 c2 (by decide) rfl rfl ?_
  refine j_isub E d7_3_18 c3 ?_
  exact j_icmp_le E d7_3_19 (t := 32) rfl (fun q => j_pick [0, 1, 2, 3, 4] rfl (k q)) (fun q => j_pick [0, 1, 3] rfl (k' q))
theorem t7_3_22 {C : qCx} {G : jG} {S : jS} {V : jH} {nc ns : Nat} {l0 l1 l3 : Int} {mc ms : Nat} {qf : Int → jS → jH → Prop} (h : x7_3 C G) (c1 : S.1 l1 = 22) (c2 : S.1 l0 = 26) (R : j_Ri n_KT 7 C G b_7_3 mc ms qf) (q : qf l3 S (j_up V l0 1 (V l1 1))) (hc : nc ≤ mc) (hs : ns ≤ ms) : j_ok n_KT 7 C G 22 [(0, (2, l0)), (1, (2, l1)), (3, (0, l3))] [] S V nc ns := by
  have E := n_E h
  refine j_aload_n E d7_3_22 rfl 0 rfl ?_
  refine j_aload_n E d7_3_23 rfl 1 rfl ?_
  refine j_getI (f := 1) (fg5_58 h) d7_3_24 c1 (by decide) rfl rfl ?_
  refine j_putI (f := 1) (fp5_15 h) (n_hap h 26 5 0 _ rfl) d7_3_27 c2 (by decide) rfl rfl rfl ?_
  refine j_iload_n E d7_3_30 rfl 2 rfl ?_
  exact R _ _ _ _ _ _ _ d7_3_31 q hc hs
theorem t7_3_32 {C : qCx} {G : jG} {S : jS} {V : jH} {nc ns : Nat} {l0 l1 l2 l3 l4 : Int} (h : x7_3 C G)  (k : j_ok n_KT 7 C G 38 [(0, (2, l0)), (1, (2, l1)), (2, (0, l2)), (3, (0, l3)), (4, (0, l4)), (5, (0, 0)), (6, (0, 0))] [] S V nc ns) : j_ok n_KT 7 C G 32 [(0, (2, l0)), (1, (2, l1)), (2, (0, l2)), (3, (0, l3)), (4, (0, l4))] [] S V nc ns := by
  have E := n_E h
  refine j_iconst E d7_3_32 (by decide) ?_
  refine j_istore E d7_3_33 (by decide) (lo1 := [(0, (2, l0)), (1, (2, l1)), (2, (0, l2)), (3, (0, l3)), (4, (0, l4))]) rfl ?_
  refine j_iconst E d7_3_35 (by decide) ?_
  refine j_istore E d7_3_36 (by decide) (lo1 := [(5, (0, 0)), (0, (2, l0)), (1, (2, l1)), (2, (0, l2)), (3, (0, l3)), (4, (0, l4))]) rfl ?_
  exact j_pick [2, 3, 4, 5, 6, 1, 0] rfl k
theorem t7_3_38 {C : qCx} {G : jG} {S : jS} {V : jH} {nc ns : Nat} {l0 l1 l2 l3 l4 l5 l6 : Int} (h : x7_3 C G)  (k : l2 ≤ l6 → j_ok n_KT 7 C G 70 [(0, (2, l0)), (2, (0, l2)), (3, (0, l3)), (4, (0, l4)), (5, (0, l5))] [] S V nc ns) (k' : l6 < l2 → j_ok n_KT 7 C G 44 [(0, (2, l0)), (1, (2, l1)), (2, (0, l2)), (3, (0, l3)), (4, (0, l4)), (5, (0, l5)), (6, (0, l6))] [] S V nc ns) : j_ok n_KT 7 C G 38 [(0, (2, l0)), (1, (2, l1)), (2, (0, l2)), (3, (0, l3)), (4, (0, l4)), (5, (0, l5)), (6, (0, l6))] [] S V nc ns := by
  have E := n_E h
  refine j_iload E d7_3_38 6 rfl ?_
  refine j_iload_n E d7_3_40 rfl 2 rfl ?_
  exact j_icmp_ge E d7_3_41 (t := 70) rfl (fun q => j_pick [0, 2, 3, 4, 5] rfl (k q)) (fun q => j_pick [0, 1, 2, 3, 4, 5, 6] rfl (k' q))
theorem t7_3_44 {C : qCx} {G : jG} {S : jS} {V : jH} {nc ns : Nat} {l0 l1 l2 l3 l4 l5 l6 : Int} (h : x7_3 C G) (L : j_L S) (c1 : 0 ≤ l5) (c2 : l5 ≤ 8388607) (c3 : S.1 l1 = 22) (c4 : S.1 l0 = 26) (c5 : -2147483648 ≤ (V l0 0) + l6 ∧ (V l0 0) + l6 ≤ 2147483647) (c6 : 0 ≤ (V l0 0) + l6) (c7 : (V l0 0) + l6 < 4400) (c8 : 0 ≤ 256 * l5) (c9 : (256 * l5) % 256 = 0) (c10 : 0 ≤ V (l1 + 1) ((V l0 0) + l6)) (c11 : V (l1 + 1) ((V l0 0) + l6) < 256) (c12 : (256 * l5) + (V (l1 + 1) ((V l0 0) + l6)) ≤ 2147483647) (c13 : -2147483648 ≤ l6 + 1 ∧ l6 + 1 ≤ 2147483647) (k : j_ok n_KT 7 C G 38 [(0, (2, l0)), (1, (2, l1)), (2, (0, l2)), (3, (0, l3)), (4, (0, l4)), (5, (0, (256 * l5) + (V (l1 + 1) ((V l0 0) + l6)))), (6, (0, l6 + 1))] [] S V nc ns) : j_ok n_KT 7 C G 44 [(0, (2, l0)), (1, (2, l1)), (2, (0, l2)), (3, (0, l3)), (4, (0, l4)), (5, (0, l5)), (6, (0, l6))] [] S V nc ns := by
  have E := n_E h
  refine j_iload E d7_3_44 5 rfl ?_
  refine j_bipush E d7_3_46 (by decide) ?_
  refine j_ishl8 E d7_3_48 rfl c1 c2 ?_
  refine j_aload_n E d7_3_49 rfl 1 rfl ?_
  refine j_getS (f := 0) (x := l1 + 1) (fg5_63 h) d7_3_50 c3 (by decide) rfl rfl ((L1_0 L c3).trans (by omega)) ?_
  refine j_aload_n E d7_3_53 rfl 0 rfl ?_
  refine j_getI (f := 0) (fg5_9 h) d7_3_54 c4 (by decide) rfl rfl ?_
  refine j_iload E d7_3_57 6 rfl ?_
  refine j_iadd E d7_3_59 c5 ?_
  refine j_iald E d7_3_60 (j_arr_of (show S.1 (l1 + 1) = 6 from (by have q := L1_0k L c3; rw [show l1 + 1 = l1 + 1 by omega]; exact q)) (by decide) rfl) c6 c7 ?_
  refine j_ior E d7_3_61 c8 c9 c10 c11 c12 ?_
  refine j_istore E d7_3_62 (by decide) (lo1 := [(0, (2, l0)), (1, (2, l1)), (2, (0, l2)), (3, (0, l3)), (4, (0, l4)), (6, (0, l6))]) rfl ?_
  refine j_iinc E d7_3_64 (by decide) (by decide) 6 rfl (lo1 := [(5, (0, (256 * l5) + (V (l1 + 1) ((V l0 0) + l6)))), (0, (2, l0)), (1, (2, l1)), (2, (0, l2)), (3, (0, l3)), (4, (0, l4))]) rfl c13 ?_
  refine j_goto E d7_3_67 (t := 38) rfl ?_
  exact j_pick [2, 3, 4, 5, 6, 1, 0] rfl k
theorem t7_3_70 {C : qCx} {G : jG} {S : jS} {V : jH} {nc ns : Nat} {l0 l2 l3 l4 l5 : Int} (h : x7_3 C G)  (k : l5 < l3 → j_ok n_KT 7 C G 83 [(0, (2, l0)), (3, (0, l3))] [] S V nc ns) (k' : l3 ≤ l5 → j_ok n_KT 7 C G 76 [(0, (2, l0)), (2, (0, l2)), (3, (0, l3)), (4, (0, l4)), (5, (0, l5))] [] S V nc ns) : j_ok n_KT 7 C G 70 [(0, (2, l0)), (2, (0, l2)), (3, (0, l3)), (4, (0, l4)), (5, (0, l5))] [] S V nc ns := by
  have E := n_E h
  refine j_iload E d7_3_70 4 rfl ?_
  refine j_iload_n E d7_3_72 rfl 2 rfl ?_
  exact j_icmp_lt E d7_3_73 (t := 83) rfl (fun q => j_pick [0, 2] rfl (k q)) (fun q => j_pick [0, 1, 2, 3, 4] rfl (k' q))
theorem t7_3_76 {C : qCx} {G : jG} {S : jS} {V : jH} {nc ns : Nat} {l0 l2 l3 l4 l5 : Int} (h : x7_3 C G)  (k : l5 ≤ l4 → j_ok n_KT 7 C G 93 [(0, (2, l0)), (2, (0, l2)), (5, (0, l5))] [] S V nc ns) (k' : l4 < l5 → j_ok n_KT 7 C G 83 [(0, (2, l0)), (3, (0, l3))] [] S V nc ns) : j_ok n_KT 7 C G 76 [(0, (2, l0)), (2, (0, l2)), (3, (0, l3)), (4, (0, l4)), (5, (0, l5))] [] S V nc ns := by
  have E := n_E h
  refine j_iload E d7_3_76 4 rfl ?_
  refine j_iload E d7_3_78 3 rfl ?_
  exact j_icmp_le E d7_3_80 (t := 93) rfl (fun q => j_pick [0, 1, 4] rfl (k q)) (fun q => j_pick [0, 2] rfl (k' q))
theorem t7_3_83 {C : qCx} {G : jG} {S : jS} {V : jH} {nc ns : Nat} {l0 l3 : Int} {mc ms : Nat} {qf : Int → jS → jH → Prop} (h : x7_3 C G) (c1 : S.1 l0 = 26) (R : j_Ri n_KT 7 C G b_7_3 mc ms qf) (q : qf l3 S (j_up V l0 1 (V l0 0))) (hc : nc ≤ mc) (hs : ns ≤ ms) : j_ok n_KT 7 C G 83 [(0, (2, l0)), (3, (0, l3))] [] S V nc ns := by
  have E := n_E h
  refine j_aload_n E d7_3_83 rfl 0 rfl ?_
  refine j_aload_n E d7_3_84 rfl 0 rfl ?_
  refine j_getI (f := 0) (fg5_9 h) d7_3_85 c1 (by decide) rfl rfl ?_
  refine j_putI (f := 1) (fp5_15 h) (n_hap h 26 5 0 _ rfl) d7_3_88 c1 (by decide) rfl rfl rfl ?_
  refine j_iload_n E d7_3_91 rfl 1 rfl ?_
  exact R _ _ _ _ _ _ _ d7_3_92 q hc hs
theorem t7_3_93 {C : qCx} {G : jG} {S : jS} {V : jH} {nc ns : Nat} {l0 l2 l5 : Int} {mc ms : Nat} {qf : Int → jS → jH → Prop} (h : x7_3 C G) (c1 : S.1 l0 = 26) (c2 : -2147483648 ≤ (V l0 0) + l2 ∧ (V l0 0) + l2 ≤ 2147483647) (R : j_Ri n_KT 7 C G b_7_3 mc ms qf) (q : qf l5 S (j_up V l0 0 ((V l0 0) + l2))) (hc : nc ≤ mc) (hs : ns ≤ ms) : j_ok n_KT 7 C G 93 [(0, (2, l0)), (2, (0, l2)), (5, (0, l5))] [] S V nc ns := by
  have E := n_E h
  refine j_aload_n E d7_3_93 rfl 0 rfl ?_
  refine j_dup E d7_3_94 rfl ?_
  refine j_getI (f := 0) (fg5_9 h) d7_3_95 c1 (by decide) rfl rfl ?_
  refine j_iload_n E d7_3_98 rfl 1 rfl ?_
  refine j_iadd E d7_3_99 c2 ?_
  refine j_putI (f := 0) (fp5_9 h) (n_hap h 26 5 0 _ rfl) d7_3_100 c1 (by decide) rfl rfl rfl ?_
  refine j_iload E d7_3_103 2 rfl ?_
  exact R _ _ _ _ _ _ _ d7_3_105 q hc hs
