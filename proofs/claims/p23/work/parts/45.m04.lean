/- BalanceCoder$Reader.readDeal(LBalanceCoder$Block;LBalanceCoder$Deal;I)V -/
abbrev b_7_5 : ByteArray := prog_7_method_5_code
def y_7_5 : MethodName := ⟨"BalanceCoder$Reader", "readDeal", "(LBalanceCoder$Block;LBalanceCoder$Deal;I)V"⟩
abbrev x7_5 (C : qCx) (G : jG) : Prop := n_ctx C b_7_5 10 "BalanceCoder$Reader" G.1 G.2.1
def M7_5 (l : Launch) (mc ms : Nat) (p : Int → Int → Int → Int → jS → jH → Prop) (q : Int → Int → Int → Int → jS → jH → jS → jH → Prop) : Prop := j_Met l vwCl n_TL n_NW n_KT y_7_5 (Cond.code y_7_5 b_7_5 10 none :: n_GW) { frames := 2, cells := mc, slots := ms, locals := 52 } mc ms (fun a S V => ∃ u0 u1 u2 u3 : Int, a = [(2, u0), (2, u1), (2, u2), (0, u3)] ∧ S.1 u0 = 26 ∧ p u0 u1 u2 u3 S V) (fun a S V rs S' V' => ∃ u0 u1 u2 u3 : Int, a = [(2, u0), (2, u1), (2, u2), (0, u3)] ∧ rs = [] ∧ q u0 u1 u2 u3 S V S' V')
theorem e7_5 {l : Launch} {mc ms : Nat} {p : Int → Int → Int → Int → jS → jH → Prop} {q : Int → Int → Int → Int → jS → jH → jS → jH → Prop} (body : ∀ (C : qCx) (G : jG), x7_5 C G → C.2.2.2.1.frames = 2 ∧ C.2.2.2.1.locals = 52 → C.2.2.2.1.cells = mc ∧ C.2.2.2.1.slots = ms → C.2.1 = l → C.2.2.2.2.2.2.2.2.1.name = "readDeal" → ∀ (u0 u1 u2 u3 : Int) (S : jS) (V : jH), S.1 u0 = 26 → p u0 u1 u2 u3 S V → j_Rv n_KT 10 C G b_7_5 mc ms (q u0 u1 u2 u3 S V) → j_ok n_KT 10 C G 0 [(0, (2, u0)), (1, (2, u1)), (2, (2, u2)), (3, (0, u3))] [] S V 0 0) : M7_5 l mc ms p q := by
  refine j_method (ws' := n_GW) (by decide) rfl ?_ ?_
  · rintro a S V ⟨u0, u1, u2, u3, rfl, -⟩
    exact Nat.le_of_ble_eq_true rfl
  · rintro C G htl hl hrm hm hml ho hts hnm hE a S V ⟨u0, u1, u2, u3, rfl, ht, hp⟩ R
    exact body C G ⟨htl, hm, hml, ho, fun w hw => hts w (List.mem_cons_of_mem _ hw), hE⟩ (by rw [hrm]; exact ⟨rfl, rfl⟩) (by rw [hrm]; exact ⟨rfl, rfl⟩) hl hnm u0 u1 u2 u3 S V ht hp (fun pc lo S' V' nc ns d q hc hs => R.1 rfl pc lo S' V' nc ns d ⟨u0, u1, u2, u3, rfl, rfl, q⟩ hc hs)
theorem d7_5_0 : decode b_7_5 0 = .ok (.aload_n 0, 1) := by decide +kernel
theorem d7_5_1 : decode b_7_5 1 = .ok (.aload_n 1, 1) := by decide +kernel
theorem d7_5_2 : decode b_7_5 2 = .ok (.iconst 2, 1) := by decide +kernel
theorem d7_5_3 : decode b_7_5 3 = .ok (.iconst 1, 1) := by decide +kernel
theorem d7_5_4 : decode b_7_5 4 = .ok (.sipush 256, 3) := by decide +kernel
theorem d7_5_7 : decode b_7_5 7 = .ok (.invokevirtual 18, 3) := by decide +kernel
theorem d7_5_10 : decode b_7_5 10 = .ok (.istore 4, 2) := by decide +kernel
theorem d7_5_12 : decode b_7_5 12 = .ok (.iload_n 3, 1) := by decide +kernel
theorem d7_5_13 : decode b_7_5 13 = .ok (.istore 5, 2) := by decide +kernel
theorem d7_5_15 : decode b_7_5 15 = .ok (.iconst (-1), 1) := by decide +kernel
theorem d7_5_16 : decode b_7_5 16 = .ok (.istore 6, 2) := by decide +kernel
theorem d7_5_18 : decode b_7_5 18 = .ok (.iconst 0, 1) := by decide +kernel
theorem d7_5_19 : decode b_7_5 19 = .ok (.istore 7, 2) := by decide +kernel
theorem d7_5_21 : decode b_7_5 21 = .ok (.iload 7, 2) := by decide +kernel
theorem d7_5_23 : decode b_7_5 23 = .ok (.iload 4, 2) := by decide +kernel
theorem d7_5_25 : decode b_7_5 25 = .ok (.if_icmp .ge 88, 3) := by decide +kernel
theorem d7_5_28 : decode b_7_5 28 = .ok (.aload_n 0, 1) := by decide +kernel
theorem d7_5_29 : decode b_7_5 29 = .ok (.getfield 15, 3) := by decide +kernel
theorem d7_5_32 : decode b_7_5 32 = .ok (.ifCond .ge 81, 3) := by decide +kernel
theorem d7_5_35 : decode b_7_5 35 = .ok (.aload_n 0, 1) := by decide +kernel
theorem d7_5_36 : decode b_7_5 36 = .ok (.aload_n 1, 1) := by decide +kernel
theorem d7_5_37 : decode b_7_5 37 = .ok (.iconst 1, 1) := by decide +kernel
theorem d7_5_38 : decode b_7_5 38 = .ok (.iload 6, 2) := by decide +kernel
theorem d7_5_40 : decode b_7_5 40 = .ok (.iconst 1, 1) := by decide +kernel
theorem d7_5_41 : decode b_7_5 41 = .ok (.iadd, 1) := by decide +kernel
theorem d7_5_42 : decode b_7_5 42 = .ok (.sipush 255, 3) := by decide +kernel
theorem d7_5_45 : decode b_7_5 45 = .ok (.invokevirtual 18, 3) := by decide +kernel
theorem d7_5_48 : decode b_7_5 48 = .ok (.istore 6, 2) := by decide +kernel
theorem d7_5_50 : decode b_7_5 50 = .ok (.iload 7, 2) := by decide +kernel
theorem d7_5_52 : decode b_7_5 52 = .ok (.iload 4, 2) := by decide +kernel
theorem d7_5_54 : decode b_7_5 54 = .ok (.iconst 1, 1) := by decide +kernel
theorem d7_5_55 : decode b_7_5 55 = .ok (.isub, 1) := by decide +kernel
theorem d7_5_56 : decode b_7_5 56 = .ok (.if_icmp .ne 8, 3) := by decide +kernel
theorem d7_5_59 : decode b_7_5 59 = .ok (.iload 5, 2) := by decide +kernel
theorem d7_5_61 : decode b_7_5 61 = .ok (.goto 4, 3) := by decide +kernel
theorem d7_5_64 : decode b_7_5 64 = .ok (.iconst 1, 1) := by decide +kernel
theorem d7_5_65 : decode b_7_5 65 = .ok (.istore 8, 2) := by decide +kernel
theorem d7_5_67 : decode b_7_5 67 = .ok (.iconst 1, 1) := by decide +kernel
theorem d7_5_68 : decode b_7_5 68 = .ok (.aload_n 0, 1) := by decide +kernel
theorem d7_5_69 : decode b_7_5 69 = .ok (.aload_n 1, 1) := by decide +kernel
theorem d7_5_70 : decode b_7_5 70 = .ok (.iconst 2, 1) := by decide +kernel
theorem d7_5_71 : decode b_7_5 71 = .ok (.iload 8, 2) := by decide +kernel
theorem d7_5_73 : decode b_7_5 73 = .ok (.iconst 1, 1) := by decide +kernel
theorem d7_5_74 : decode b_7_5 74 = .ok (.isub, 1) := by decide +kernel
theorem d7_5_75 : decode b_7_5 75 = .ok (.iload 5, 2) := by decide +kernel
theorem d7_5_77 : decode b_7_5 77 = .ok (.iconst 1, 1) := by decide +kernel
theorem d7_5_78 : decode b_7_5 78 = .ok (.isub, 1) := by decide +kernel
theorem d7_5_79 : decode b_7_5 79 = .ok (.invokevirtual 18, 3) := by decide +kernel
theorem d7_5_82 : decode b_7_5 82 = .ok (.iadd, 1) := by decide +kernel
theorem d7_5_83 : decode b_7_5 83 = .ok (.istore 9, 2) := by decide +kernel
theorem d7_5_85 : decode b_7_5 85 = .ok (.aload_n 0, 1) := by decide +kernel
theorem d7_5_86 : decode b_7_5 86 = .ok (.getfield 15, 3) := by decide +kernel
theorem d7_5_89 : decode b_7_5 89 = .ok (.ifCond .ge 18, 3) := by decide +kernel
theorem d7_5_92 : decode b_7_5 92 = .ok (.aload_n 2, 1) := by decide +kernel
theorem d7_5_93 : decode b_7_5 93 = .ok (.iload 6, 2) := by decide +kernel
theorem d7_5_95 : decode b_7_5 95 = .ok (.iload 9, 2) := by decide +kernel
theorem d7_5_97 : decode b_7_5 97 = .ok (.invokevirtual 82, 3) := by decide +kernel
theorem d7_5_100 : decode b_7_5 100 = .ok (.iload 5, 2) := by decide +kernel
theorem d7_5_102 : decode b_7_5 102 = .ok (.iload 9, 2) := by decide +kernel
theorem d7_5_104 : decode b_7_5 104 = .ok (.isub, 1) := by decide +kernel
theorem d7_5_105 : decode b_7_5 105 = .ok (.istore 5, 2) := by decide +kernel
theorem d7_5_107 : decode b_7_5 107 = .ok (.iinc 7 1, 3) := by decide +kernel
theorem d7_5_110 : decode b_7_5 110 = .ok (.goto (-89), 3) := by decide +kernel
theorem d7_5_113 : decode b_7_5 113 = .ok (.aload_n 2, 1) := by decide +kernel
theorem d7_5_114 : decode b_7_5 114 = .ok (.invokevirtual 87, 3) := by decide +kernel
theorem d7_5_117 : decode b_7_5 117 = .ok (.return_, 1) := by decide +kernel
theorem K7_5_7 {C : qCx} {G : jG} {mc ms : Nat} {p : Int → Int → Int → Int → Int → jS → jH → Prop} {q : Int → Int → Int → Int → Int → jS → jH → Int → jS → jH → Prop} (h : x7_5 C G) (hrm : C.2.2.2.1.frames = 2 ∧ C.2.2.2.1.locals = 52) (hM : M7_3 C.2.1 mc ms p q) : j_Call C b_7_5 n_KT G.1 G.2.1 10 (.invokevirtual 18) mc ms (fun a S V => ∃ u0 u1 u2 u3 u4 : Int, a = [(2, u0), (2, u1), (0, u2), (0, u3), (0, u4)] ∧ S.1 u0 = 26 ∧ p u0 u1 u2 u3 u4 S V) (fun a S V rs S' V' => ∃ u0 u1 u2 u3 u4 r : Int, a = [(2, u0), (2, u1), (0, u2), (0, u3), (0, u4)] ∧ rs = [(0, r)] ∧ q u0 u1 u2 u3 u4 S V r S' V') := j_callV n_NWk h.2.2.2.2.2 h.1 hM ⟨h.2.1.1, h.2.1.2, h.2.2.1, h.2.2.2.1, h.2.2.2.2.1⟩ ⟨n_CB (y := y_7_3) (bytes := b_7_3) 4 h.2.2.2.2.1 n_w608 n_w605 n_w11 ⟨by decide, by decide, by decide +kernel⟩ rfl rfl ⟨by rw [hrm.1]; exact Nat.le_of_ble_eq_true rfl, by rw [hrm.2]; exact Nat.le_of_ble_eq_true rfl⟩, h.2.2.2.2.1 _ n_w607, h.2.2.2.2.1 _ n_s17⟩ (Cn := RX5) (fun a S V hP => by obtain ⟨u0, u1, u2, u3, u4, rfl, e, -⟩ := hP; exact ⟨u0, _, 5, _, _, TX5, 2, rfl, rfl, by rw [e]; decide, by rw [e]; rfl, rfl⟩)
theorem K7_5_45 {C : qCx} {G : jG} {mc ms : Nat} {p : Int → Int → Int → Int → Int → jS → jH → Prop} {q : Int → Int → Int → Int → Int → jS → jH → Int → jS → jH → Prop} (h : x7_5 C G) (hrm : C.2.2.2.1.frames = 2 ∧ C.2.2.2.1.locals = 52) (hM : M7_3 C.2.1 mc ms p q) : j_Call C b_7_5 n_KT G.1 G.2.1 10 (.invokevirtual 18) mc ms (fun a S V => ∃ u0 u1 u2 u3 u4 : Int, a = [(2, u0), (2, u1), (0, u2), (0, u3), (0, u4)] ∧ S.1 u0 = 26 ∧ p u0 u1 u2 u3 u4 S V) (fun a S V rs S' V' => ∃ u0 u1 u2 u3 u4 r : Int, a = [(2, u0), (2, u1), (0, u2), (0, u3), (0, u4)] ∧ rs = [(0, r)] ∧ q u0 u1 u2 u3 u4 S V r S' V') := j_callV n_NWk h.2.2.2.2.2 h.1 hM ⟨h.2.1.1, h.2.1.2, h.2.2.1, h.2.2.2.1, h.2.2.2.2.1⟩ ⟨n_CB (y := y_7_3) (bytes := b_7_3) 4 h.2.2.2.2.1 n_w608 n_w605 n_w11 ⟨by decide, by decide, by decide +kernel⟩ rfl rfl ⟨by rw [hrm.1]; exact Nat.le_of_ble_eq_true rfl, by rw [hrm.2]; exact Nat.le_of_ble_eq_true rfl⟩, h.2.2.2.2.1 _ n_w607, h.2.2.2.2.1 _ n_s17⟩ (Cn := RX5) (fun a S V hP => by obtain ⟨u0, u1, u2, u3, u4, rfl, e, -⟩ := hP; exact ⟨u0, _, 5, _, _, TX5, 2, rfl, rfl, by rw [e]; decide, by rw [e]; rfl, rfl⟩)
theorem K7_5_79 {C : qCx} {G : jG} {mc ms : Nat} {p : Int → Int → Int → Int → Int → jS → jH → Prop} {q : Int → Int → Int → Int → Int → jS → jH → Int → jS → jH → Prop} (h : x7_5 C G) (hrm : C.2.2.2.1.frames = 2 ∧ C.2.2.2.1.locals = 52) (hM : M7_3 C.2.1 mc ms p q) : j_Call C b_7_5 n_KT G.1 G.2.1 10 (.invokevirtual 18) mc ms (fun a S V => ∃ u0 u1 u2 u3 u4 : Int, a = [(2, u0), (2, u1), (0, u2), (0, u3), (0, u4)] ∧ S.1 u0 = 26 ∧ p u0 u1 u2 u3 u4 S V) (fun a S V rs S' V' => ∃ u0 u1 u2 u3 u4 r : Int, a = [(2, u0), (2, u1), (0, u2), (0, u3), (0, u4)] ∧ rs = [(0, r)] ∧ q u0 u1 u2 u3 u4 S V r S' V') := j_callV n_NWk h.2.2.2.2.2 h.1 hM ⟨h.2.1.1, h.2.1.2, h.2.2.1, h.2.2.2.1, h.2.2.2.2.1⟩ ⟨n_CB (y := y_7_3) (bytes := b_7_3) 4 h.2.2.2.2.1 n_w608 n_w605 n_w11 ⟨by decide, by decide, by decide +kernel⟩ rfl rfl ⟨by rw [hrm.1]; exact Nat.le_of_ble_eq_true rfl, by rw [hrm.2]; exact Nat.le_of_ble_eq_true rfl⟩, h.2.2.2.2.1 _ n_w607, h.2.2.2.2.1 _ n_s17⟩ (Cn := RX5) (fun a S V hP => by obtain ⟨u0, u1, u2, u3, u4, rfl, e, -⟩ := hP; exact ⟨u0, _, 5, _, _, TX5, 2, rfl, rfl, by rw [e]; decide, by rw [e]; rfl, rfl⟩)
theorem K7_5_97 {C : qCx} {G : jG} {mc ms : Nat} {p : Int → Int → Int → jS → jH → Prop} {q : Int → Int → Int → jS → jH → jS → jH → Prop} (h : x7_5 C G) (hrm : C.2.2.2.1.frames = 2 ∧ C.2.2.2.1.locals = 52) (hM : M4_10 C.2.1 mc ms p q) : j_Call C b_7_5 n_KT G.1 G.2.1 10 (.invokevirtual 82) mc ms (fun a S V => ∃ u0 u1 u2 : Int, a = [(2, u0), (0, u1), (0, u2)] ∧ S.1 u0 = 23 ∧ p u0 u1 u2 S V) (fun a S V rs S' V' => ∃ u0 u1 u2 : Int, a = [(2, u0), (0, u1), (0, u2)] ∧ rs = [] ∧ q u0 u1 u2 S V S' V') := j_callV n_NWk h.2.2.2.2.2 h.1 hM ⟨h.2.1.1, h.2.1.2, h.2.2.1, h.2.2.2.1, h.2.2.2.2.1⟩ ⟨n_CB (y := y_4_10) (bytes := b_4_10) 2 h.2.2.2.2.1 n_w447 n_w621 n_w8 ⟨by decide, by decide, by decide +kernel⟩ rfl rfl ⟨by rw [hrm.1]; exact Nat.le_of_ble_eq_true rfl, by rw [hrm.2]; exact Nat.le_of_ble_eq_true rfl⟩, h.2.2.2.2.1 _ n_w445, h.2.2.2.2.1 _ n_w446⟩ (Cn := RX2) (fun a S V hP => by obtain ⟨u0, u1, u2, rfl, e, -⟩ := hP; exact ⟨u0, _, 2, _, _, TX2, 1, rfl, rfl, by rw [e]; decide, by rw [e]; rfl, rfl⟩)
theorem K7_5_114 {C : qCx} {G : jG} {mc ms : Nat} {p : Int → jS → jH → Prop} {q : Int → jS → jH → jS → jH → Prop} (h : x7_5 C G) (hrm : C.2.2.2.1.frames = 2 ∧ C.2.2.2.1.locals = 52) (hM : M4_11 C.2.1 mc ms p q) : j_Call C b_7_5 n_KT G.1 G.2.1 10 (.invokevirtual 87) mc ms (fun a S V => ∃ u0 : Int, a = [(2, u0)] ∧ S.1 u0 = 23 ∧ p u0 S V) (fun a S V rs S' V' => ∃ u0 : Int, a = [(2, u0)] ∧ rs = [] ∧ q u0 S V S' V') := j_callV n_NWk h.2.2.2.2.2 h.1 hM ⟨h.2.1.1, h.2.1.2, h.2.2.1, h.2.2.2.1, h.2.2.2.2.1⟩ ⟨n_CB (y := y_4_11) (bytes := b_4_11) 0 h.2.2.2.2.1 n_w451 n_w622 n_w8 ⟨by decide, by decide, by decide +kernel⟩ rfl rfl ⟨by rw [hrm.1]; exact Nat.le_of_ble_eq_true rfl, by rw [hrm.2]; exact Nat.le_of_ble_eq_true rfl⟩, h.2.2.2.2.1 _ n_w449, h.2.2.2.2.1 _ n_w450⟩ (Cn := RX2) (fun a S V hP => by obtain ⟨u0, rfl, e, -⟩ := hP; exact ⟨u0, _, 2, _, _, TX2, 1, rfl, rfl, by rw [e]; decide, by rw [e]; rfl, rfl⟩)
theorem t7_5_0 {C : qCx} {G : jG} {S : jS} {V : jH} {nc ns : Nat} {l0 l1 l2 l3 : Int} {mc ms : Nat} {pp : Int → Int → Int → Int → Int → jS → jH → Prop} {qq : Int → Int → Int → Int → Int → jS → jH → Int → jS → jH → Prop} (h : x7_5 C G) (hrm : C.2.2.2.1.frames = 2 ∧ C.2.2.2.1.locals = 52) (c1 : S.1 l0 = 26) (hM : M7_3 C.2.1 mc ms pp qq) (hp : pp l0 l1 2 1 256 S V) (hc : nc + mc ≤ C.2.2.2.1.cells) (hs : ns + ms ≤ C.2.2.2.1.slots) (k : ∀ (r : Int) (S' : jS) (V' : jH), qq l0 l1 2 1 256 S V r S' V' → j_ok n_KT 10 C G 10 [(0, (2, l0)), (1, (2, l1)), (2, (2, l2)), (3, (0, l3))] [(0, r)] S' V' (nc + mc) (ns + ms)) : j_ok n_KT 10 C G 0 [(0, (2, l0)), (1, (2, l1)), (2, (2, l2)), (3, (0, l3))] [] S V nc ns := by
  have E := n_E h
  refine j_aload_n E d7_5_0 rfl 0 rfl ?_
  refine j_aload_n E d7_5_1 rfl 1 rfl ?_
  refine j_iconst E d7_5_2 (by decide) ?_
  refine j_iconst E d7_5_3 (by decide) ?_
  refine j_sipush E d7_5_4 (by decide) ?_
  refine j_call E (K7_5_7 h hrm hM) d7_5_7 (a := [(2, l0), (2, l1), (0, 2), (0, 1), (0, 256)]) (sk := []) rfl ⟨l0, l1, 2, 1, 256, rfl, c1, hp⟩ (Nat.le_of_ble_eq_true rfl) hc hs ?_
  rintro rs S' V' ⟨z0, z1, z2, z3, z4, r, e1, rfl, q⟩
  simp only [List.cons.injEq, Prod.mk.injEq, and_true, true_and] at e1
  obtain ⟨rfl, rfl, rfl, rfl, rfl⟩ := e1
  exact j_pick [0, 1, 2, 3] rfl (k r S' V' q)
theorem t7_5_10 {C : qCx} {G : jG} {S : jS} {V : jH} {nc ns : Nat} {l0 l1 l2 l3 s0 : Int} (h : x7_5 C G)  (k : j_ok n_KT 10 C G 21 [(0, (2, l0)), (1, (2, l1)), (2, (2, l2)), (4, (0, s0)), (5, (0, l3)), (6, (0, (-1))), (7, (0, 0))] [] S V nc ns) : j_ok n_KT 10 C G 10 [(0, (2, l0)), (1, (2, l1)), (2, (2, l2)), (3, (0, l3))] [(0, s0)] S V nc ns := by
  have E := n_E h
  refine j_istore E d7_5_10 (by decide) (lo1 := [(0, (2, l0)), (1, (2, l1)), (2, (2, l2)), (3, (0, l3))]) rfl ?_
  refine j_iload_n E d7_5_12 rfl 4 rfl ?_
  refine j_istore E d7_5_13 (by decide) (lo1 := [(4, (0, s0)), (0, (2, l0)), (1, (2, l1)), (2, (2, l2)), (3, (0, l3))]) rfl ?_
  refine j_iconst E d7_5_15 (by decide) ?_
  refine j_istore E d7_5_16 (by decide) (lo1 := [(5, (0, l3)), (4, (0, s0)), (0, (2, l0)), (1, (2, l1)), (2, (2, l2)), (3, (0, l3))]) rfl ?_
  refine j_iconst E d7_5_18 (by decide) ?_
  refine j_istore E d7_5_19 (by decide) (lo1 := [(6, (0, (-1))), (5, (0, l3)), (4, (0, s0)), (0, (2, l0)), (1, (2, l1)), (2, (2, l2)), (3, (0, l3))]) rfl ?_
  exact j_pick [4, 5, 6, 3, 2, 1, 0] rfl k
theorem t7_5_21 {C : qCx} {G : jG} {S : jS} {V : jH} {nc ns : Nat} {l0 l1 l2 l4 l5 l6 l7 : Int} (h : x7_5 C G)  (k : l4 ≤ l7 → j_ok n_KT 10 C G 113 [(2, (2, l2))] [] S V nc ns) (k' : l7 < l4 → j_ok n_KT 10 C G 28 [(0, (2, l0)), (1, (2, l1)), (2, (2, l2)), (4, (0, l4)), (5, (0, l5)), (6, (0, l6)), (7, (0, l7))] [] S V nc ns) : j_ok n_KT 10 C G 21 [(0, (2, l0)), (1, (2, l1)), (2, (2, l2)), (4, (0, l4)), (5, (0, l5)), (6, (0, l6)), (7, (0, l7))] [] S V nc ns := by
  have E := n_E h
  refine j_iload E d7_5_21 6 rfl ?_
  refine j_iload E d7_5_23 3 rfl ?_
  exact j_icmp_ge E d7_5_25 (t := 113) rfl (fun q => j_pick [2] rfl (k q)) (fun q => j_pick [0, 1, 2, 3, 4, 5, 6] rfl (k' q))
theorem t7_5_28 {C : qCx} {G : jG} {S : jS} {V : jH} {nc ns : Nat} {l0 l1 l2 l4 l5 l6 l7 : Int} (h : x7_5 C G) (c1 : S.1 l0 = 26) (k : 0 ≤ V l0 1 → j_ok n_KT 10 C G 113 [(2, (2, l2))] [] S V nc ns) (k' : V l0 1 < 0 → j_ok n_KT 10 C G 35 [(0, (2, l0)), (1, (2, l1)), (2, (2, l2)), (4, (0, l4)), (5, (0, l5)), (6, (0, l6)), (7, (0, l7))] [] S V nc ns) : j_ok n_KT 10 C G 28 [(0, (2, l0)), (1, (2, l1)), (2, (2, l2)), (4, (0, l4)), (5, (0, l5)), (6, (0, l6)), (7, (0, l7))] [] S V nc ns := by
  have E := n_E h
  refine j_aload_n E d7_5_28 rfl 0 rfl ?_
  refine j_getI (f := 1) (fg5_15 h) d7_5_29 c1 (by decide) rfl rfl ?_
  exact j_if_ge E d7_5_32 (t := 113) rfl (fun q => j_pick [2] rfl (k q)) (fun q => j_pick [0, 1, 2, 3, 4, 5, 6] rfl (k' q))
theorem t7_5_35 {C : qCx} {G : jG} {S : jS} {V : jH} {nc ns : Nat} {l0 l1 l2 l4 l5 l6 l7 : Int} {mc ms : Nat} {pp : Int → Int → Int → Int → Int → jS → jH → Prop} {qq : Int → Int → Int → Int → Int → jS → jH → Int → jS → jH → Prop} (h : x7_5 C G) (hrm : C.2.2.2.1.frames = 2 ∧ C.2.2.2.1.locals = 52) (c1 : -2147483648 ≤ l6 + 1 ∧ l6 + 1 ≤ 2147483647) (c2 : S.1 l0 = 26) (hM : M7_3 C.2.1 mc ms pp qq) (hp : pp l0 l1 1 (l6 + 1) 255 S V) (hc : nc + mc ≤ C.2.2.2.1.cells) (hs : ns + ms ≤ C.2.2.2.1.slots) (k : ∀ (r : Int) (S' : jS) (V' : jH), qq l0 l1 1 (l6 + 1) 255 S V r S' V' → j_ok n_KT 10 C G 48 [(0, (2, l0)), (1, (2, l1)), (2, (2, l2)), (4, (0, l4)), (5, (0, l5)), (7, (0, l7))] [(0, r)] S' V' (nc + mc) (ns + ms)) : j_ok n_KT 10 C G 35 [(0, (2, l0)), (1, (2, l1)), (2, (2, l2)), (4, (0, l4)), (5, (0, l5)), (6, (0, l6)), (7, (0, l7))] [] S V nc ns := by
  have E := n_E h
  refine j_aload_n E d7_5_35 rfl 0 rfl ?_
  refine j_aload_n E d7_5_36 rfl 1 rfl ?_
  refine j_iconst E d7_5_37 (by decide) ?_
  refine j_iload E d7_5_38 5 rfl ?_
  refine j_iconst E d7_5_40 (by decide) ?_
  refine j_iadd E d7_5_41 c1 ?_
  refine j_sipush E d7_5_42 (by decide) ?_
  refine j_call E (K7_5_45 h hrm hM) d7_5_45 (a := [(2, l0), (2, l1), (0, 1), (0, l6 + 1), (0, 255)]) (sk := []) rfl ⟨l0, l1, 1, l6 + 1, 255, rfl, c2, hp⟩ (Nat.le_of_ble_eq_true rfl) hc hs ?_
  rintro rs S' V' ⟨z0, z1, z2, z3, z4, r, e1, rfl, q⟩
  simp only [List.cons.injEq, Prod.mk.injEq, and_true, true_and] at e1
  obtain ⟨rfl, rfl, rfl, rfl, rfl⟩ := e1
  exact j_pick [0, 1, 2, 3, 4, 6] rfl (k r S' V' q)
theorem t7_5_48 {C : qCx} {G : jG} {S : jS} {V : jH} {nc ns : Nat} {l0 l1 l2 l4 l5 l7 s0 : Int} (h : x7_5 C G) (c1 : -2147483648 ≤ l4 - 1 ∧ l4 - 1 ≤ 2147483647) (k : ¬ l7 = l4 - 1 → j_ok n_KT 10 C G 64 [(0, (2, l0)), (1, (2, l1)), (2, (2, l2)), (4, (0, l4)), (5, (0, l5)), (6, (0, s0)), (7, (0, l7))] [] S V nc ns) (k' : l7 = l4 - 1 → j_ok n_KT 10 C G 59 [(0, (2, l0)), (1, (2, l1)), (2, (2, l2)), (4, (0, l4)), (5, (0, l5)), (6, (0, s0)), (7, (0, l7))] [] S V nc ns) : j_ok n_KT 10 C G 48 [(0, (2, l0)), (1, (2, l1)), (2, (2, l2)), (4, (0, l4)), (5, (0, l5)), (7, (0, l7))] [(0, s0)] S V nc ns := by
  have E := n_E h
  refine j_istore E d7_5_48 (by decide) (lo1 := [(0, (2, l0)), (1, (2, l1)), (2, (2, l2)), (4, (0, l4)), (5, (0, l5)), (7, (0, l7))]) rfl ?_
  refine j_iload E d7_5_50 6 rfl ?_
  refine j_iload E d7_5_52 4 rfl ?_
  refine j_iconst E d7_5_54 (by decide) ?_
  refine j_isub E d7_5_55 c1 ?_
  exact j_icmp_ne E d7_5_56 (t := 64) rfl (fun q => j_pick [1, 2, 3, 4, 5, 0, 6] rfl (k q)) (fun q => j_pick [1, 2, 3, 4, 5, 0, 6] rfl (k' q))
theorem t7_5_59 {C : qCx} {G : jG} {S : jS} {V : jH} {nc ns : Nat} {l0 l1 l2 l4 l5 l6 l7 : Int} (h : x7_5 C G)  (k : j_ok n_KT 10 C G 65 [(0, (2, l0)), (1, (2, l1)), (2, (2, l2)), (4, (0, l4)), (5, (0, l5)), (6, (0, l6)), (7, (0, l7))] [(0, l5)] S V nc ns) : j_ok n_KT 10 C G 59 [(0, (2, l0)), (1, (2, l1)), (2, (2, l2)), (4, (0, l4)), (5, (0, l5)), (6, (0, l6)), (7, (0, l7))] [] S V nc ns := by
  have E := n_E h
  refine j_iload E d7_5_59 4 rfl ?_
  refine j_goto E d7_5_61 (t := 65) rfl ?_
  exact j_pick [0, 1, 2, 3, 4, 5, 6] rfl k
theorem t7_5_64 {C : qCx} {G : jG} {S : jS} {V : jH} {nc ns : Nat} {l0 l1 l2 l4 l5 l6 l7 : Int} (h : x7_5 C G)  (k : j_ok n_KT 10 C G 65 [(0, (2, l0)), (1, (2, l1)), (2, (2, l2)), (4, (0, l4)), (5, (0, l5)), (6, (0, l6)), (7, (0, l7))] [(0, 1)] S V nc ns) : j_ok n_KT 10 C G 64 [(0, (2, l0)), (1, (2, l1)), (2, (2, l2)), (4, (0, l4)), (5, (0, l5)), (6, (0, l6)), (7, (0, l7))] [] S V nc ns := by
  have E := n_E h
  refine j_iconst E d7_5_64 (by decide) ?_
  exact j_pick [0, 1, 2, 3, 4, 5, 6] rfl k
theorem t7_5_65 {C : qCx} {G : jG} {S : jS} {V : jH} {nc ns : Nat} {l0 l1 l2 l4 l5 l6 l7 s0 : Int} {mc ms : Nat} {pp : Int → Int → Int → Int → Int → jS → jH → Prop} {qq : Int → Int → Int → Int → Int → jS → jH → Int → jS → jH → Prop} (h : x7_5 C G) (hrm : C.2.2.2.1.frames = 2 ∧ C.2.2.2.1.locals = 52) (c1 : -2147483648 ≤ s0 - 1 ∧ s0 - 1 ≤ 2147483647) (c2 : -2147483648 ≤ l5 - 1 ∧ l5 - 1 ≤ 2147483647) (c3 : S.1 l0 = 26) (hM : M7_3 C.2.1 mc ms pp qq) (hp : pp l0 l1 2 (s0 - 1) (l5 - 1) S V) (hc : nc + mc ≤ C.2.2.2.1.cells) (hs : ns + ms ≤ C.2.2.2.1.slots) (k : ∀ (r : Int) (S' : jS) (V' : jH), qq l0 l1 2 (s0 - 1) (l5 - 1) S V r S' V' → j_ok n_KT 10 C G 82 [(0, (2, l0)), (1, (2, l1)), (2, (2, l2)), (4, (0, l4)), (5, (0, l5)), (6, (0, l6)), (7, (0, l7))] [(0, r), (0, 1)] S' V' (nc + mc) (ns + ms)) : j_ok n_KT 10 C G 65 [(0, (2, l0)), (1, (2, l1)), (2, (2, l2)), (4, (0, l4)), (5, (0, l5)), (6, (0, l6)), (7, (0, l7))] [(0, s0)] S V nc ns := by
  have E := n_E h
  refine j_istore E d7_5_65 (by decide) (lo1 := [(0, (2, l0)), (1, (2, l1)), (2, (2, l2)), (4, (0, l4)), (5, (0, l5)), (6, (0, l6)), (7, (0, l7))]) rfl ?_
  refine j_iconst E d7_5_67 (by decide) ?_
  refine j_aload_n E d7_5_68 rfl 1 rfl ?_
  refine j_aload_n E d7_5_69 rfl 2 rfl ?_
  refine j_iconst E d7_5_70 (by decide) ?_
  refine j_iload E d7_5_71 0 rfl ?_
  refine j_iconst E d7_5_73 (by decide) ?_
  refine j_isub E d7_5_74 c1 ?_
  refine j_iload E d7_5_75 5 rfl ?_
  refine j_iconst E d7_5_77 (by decide) ?_
  refine j_isub E d7_5_78 c2 ?_
  refine j_call E (K7_5_79 h hrm hM) d7_5_79 (a := [(2, l0), (2, l1), (0, 2), (0, s0 - 1), (0, l5 - 1)]) (sk := [(0, 1)]) rfl ⟨l0, l1, 2, s0 - 1, l5 - 1, rfl, c3, hp⟩ (Nat.le_of_ble_eq_true rfl) hc hs ?_
  rintro rs S' V' ⟨z0, z1, z2, z3, z4, r, e1, rfl, q⟩
  simp only [List.cons.injEq, Prod.mk.injEq, and_true, true_and] at e1
  obtain ⟨rfl, rfl, rfl, rfl, rfl⟩ := e1
  exact j_pick [1, 2, 3, 4, 5, 6, 7] rfl (k r S' V' q)
theorem t7_5_82 {C : qCx} {G : jG} {S : jS} {V : jH} {nc ns : Nat} {l0 l1 l2 l4 l5 l6 l7 s0 s1 : Int} (h : x7_5 C G) (c1 : -2147483648 ≤ s1 + s0 ∧ s1 + s0 ≤ 2147483647) (c2 : S.1 l0 = 26) (k : 0 ≤ V l0 1 → j_ok n_KT 10 C G 107 [(0, (2, l0)), (1, (2, l1)), (2, (2, l2)), (4, (0, l4)), (5, (0, l5)), (6, (0, l6)), (7, (0, l7))] [] S V nc ns) (k' : V l0 1 < 0 → j_ok n_KT 10 C G 92 [(0, (2, l0)), (1, (2, l1)), (2, (2, l2)), (4, (0, l4)), (5, (0, l5)), (6, (0, l6)), (7, (0, l7)), (9, (0, s1 + s0))] [] S V nc ns) : j_ok n_KT 10 C G 82 [(0, (2, l0)), (1, (2, l1)), (2, (2, l2)), (4, (0, l4)), (5, (0, l5)), (6, (0, l6)), (7, (0, l7))] [(0, s0), (0, s1)] S V nc ns := by
  have E := n_E h
  refine j_iadd E d7_5_82 c1 ?_
  refine j_istore E d7_5_83 (by decide) (lo1 := [(0, (2, l0)), (1, (2, l1)), (2, (2, l2)), (4, (0, l4)), (5, (0, l5)), (6, (0, l6)), (7, (0, l7))]) rfl ?_
  refine j_aload_n E d7_5_85 rfl 1 rfl ?_
  refine j_getI (f := 1) (fg5_15 h) d7_5_86 c2 (by decide) rfl rfl ?_
  exact j_if_ge E d7_5_89 (t := 107) rfl (fun q => j_pick [1, 2, 3, 4, 5, 6, 7] rfl (k q)) (fun q => j_pick [1, 2, 3, 4, 5, 6, 7, 0] rfl (k' q))
theorem t7_5_92 {C : qCx} {G : jG} {S : jS} {V : jH} {nc ns : Nat} {l0 l1 l2 l4 l5 l6 l7 l9 : Int} {mc ms : Nat} {pp : Int → Int → Int → jS → jH → Prop} {qq : Int → Int → Int → jS → jH → jS → jH → Prop} (h : x7_5 C G) (hrm : C.2.2.2.1.frames = 2 ∧ C.2.2.2.1.locals = 52) (c1 : S.1 l2 = 23) (hM : M4_10 C.2.1 mc ms pp qq) (hp : pp l2 l6 l9 S V) (hc : nc + mc ≤ C.2.2.2.1.cells) (hs : ns + ms ≤ C.2.2.2.1.slots) (k : ∀ (S' : jS) (V' : jH), qq l2 l6 l9 S V S' V' → j_ok n_KT 10 C G 100 [(0, (2, l0)), (1, (2, l1)), (2, (2, l2)), (4, (0, l4)), (5, (0, l5)), (6, (0, l6)), (7, (0, l7)), (9, (0, l9))] [] S' V' (nc + mc) (ns + ms)) : j_ok n_KT 10 C G 92 [(0, (2, l0)), (1, (2, l1)), (2, (2, l2)), (4, (0, l4)), (5, (0, l5)), (6, (0, l6)), (7, (0, l7)), (9, (0, l9))] [] S V nc ns := by
  have E := n_E h
  refine j_aload_n E d7_5_92 rfl 2 rfl ?_
  refine j_iload E d7_5_93 5 rfl ?_
  refine j_iload E d7_5_95 7 rfl ?_
  refine j_call E (K7_5_97 h hrm hM) d7_5_97 (a := [(2, l2), (0, l6), (0, l9)]) (sk := []) rfl ⟨l2, l6, l9, rfl, c1, hp⟩ (Nat.le_of_ble_eq_true rfl) hc hs ?_
  rintro rs S' V' ⟨z0, z1, z2, e1, rfl, q⟩
  simp only [List.cons.injEq, Prod.mk.injEq, and_true, true_and] at e1
  obtain ⟨rfl, rfl, rfl⟩ := e1
  exact j_pick [0, 1, 2, 3, 4, 5, 6, 7] rfl (k S' V' q)
theorem t7_5_100 {C : qCx} {G : jG} {S : jS} {V : jH} {nc ns : Nat} {l0 l1 l2 l4 l5 l6 l7 l9 : Int} (h : x7_5 C G) (c1 : -2147483648 ≤ l5 - l9 ∧ l5 - l9 ≤ 2147483647) (k : j_ok n_KT 10 C G 107 [(0, (2, l0)), (1, (2, l1)), (2, (2, l2)), (4, (0, l4)), (5, (0, l5 - l9)), (6, (0, l6)), (7, (0, l7))] [] S V nc ns) : j_ok n_KT 10 C G 100 [(0, (2, l0)), (1, (2, l1)), (2, (2, l2)), (4, (0, l4)), (5, (0, l5)), (6, (0, l6)), (7, (0, l7)), (9, (0, l9))] [] S V nc ns := by
  have E := n_E h
  refine j_iload E d7_5_100 4 rfl ?_
  refine j_iload E d7_5_102 7 rfl ?_
  refine j_isub E d7_5_104 c1 ?_
  refine j_istore E d7_5_105 (by decide) (lo1 := [(0, (2, l0)), (1, (2, l1)), (2, (2, l2)), (4, (0, l4)), (6, (0, l6)), (7, (0, l7)), (9, (0, l9))]) rfl ?_
  exact j_pick [1, 2, 3, 4, 0, 5, 6] rfl k
theorem t7_5_107 {C : qCx} {G : jG} {S : jS} {V : jH} {nc ns : Nat} {l0 l1 l2 l4 l5 l6 l7 : Int} (h : x7_5 C G) (c1 : -2147483648 ≤ l7 + 1 ∧ l7 + 1 ≤ 2147483647) (k : j_ok n_KT 10 C G 21 [(0, (2, l0)), (1, (2, l1)), (2, (2, l2)), (4, (0, l4)), (5, (0, l5)), (6, (0, l6)), (7, (0, l7 + 1))] [] S V nc ns) : j_ok n_KT 10 C G 107 [(0, (2, l0)), (1, (2, l1)), (2, (2, l2)), (4, (0, l4)), (5, (0, l5)), (6, (0, l6)), (7, (0, l7))] [] S V nc ns := by
  have E := n_E h
  refine j_iinc E d7_5_107 (by decide) (by decide) 6 rfl (lo1 := [(0, (2, l0)), (1, (2, l1)), (2, (2, l2)), (4, (0, l4)), (5, (0, l5)), (6, (0, l6))]) rfl c1 ?_
  refine j_goto E d7_5_110 (t := 21) rfl ?_
  exact j_pick [1, 2, 3, 4, 5, 6, 0] rfl k
theorem t7_5_113 {C : qCx} {G : jG} {S : jS} {V : jH} {nc ns : Nat} {l2 : Int} {mc ms : Nat} {pp : Int → jS → jH → Prop} {qq : Int → jS → jH → jS → jH → Prop} (h : x7_5 C G) (hrm : C.2.2.2.1.frames = 2 ∧ C.2.2.2.1.locals = 52) (c1 : S.1 l2 = 23) (hM : M4_11 C.2.1 mc ms pp qq) (hp : pp l2 S V) (hc : nc + mc ≤ C.2.2.2.1.cells) (hs : ns + ms ≤ C.2.2.2.1.slots) (k : ∀ (S' : jS) (V' : jH), qq l2 S V S' V' → j_ok n_KT 10 C G 117 [] [] S' V' (nc + mc) (ns + ms)) : j_ok n_KT 10 C G 113 [(2, (2, l2))] [] S V nc ns := by
  have E := n_E h
  refine j_aload_n E d7_5_113 rfl 0 rfl ?_
  refine j_call E (K7_5_114 h hrm hM) d7_5_114 (a := [(2, l2)]) (sk := []) rfl ⟨l2, rfl, c1, hp⟩ (Nat.le_of_ble_eq_true rfl) hc hs ?_
  rintro rs S' V' ⟨z0, e1, rfl, q⟩
  simp only [List.cons.injEq, Prod.mk.injEq, and_true, true_and] at e1
  obtain ⟨rfl⟩ := e1
  exact j_pick [] rfl (k S' V' q)
theorem t7_5_117 {C : qCx} {G : jG} {S : jS} {V : jH} {nc ns : Nat} {mc ms : Nat} {qf : jS → jH → Prop} (h : x7_5 C G)  (R : j_Rv n_KT 10 C G b_7_5 mc ms qf) (q : qf S V) (hc : nc ≤ mc) (hs : ns ≤ ms) : j_ok n_KT 10 C G 117 [] [] S V nc ns := by
  have E := n_E h
  exact R _ _ _ _ _ _ d7_5_117 q hc hs
/- BalanceCoder$Reader.readDeals(LBalanceCoder$Block;LBalanceCoder$Table;)V -/
abbrev b_7_4 : ByteArray := prog_7_method_4_code
def y_7_4 : MethodName := ⟨"BalanceCoder$Reader", "readDeals", "(LBalanceCoder$Block;LBalanceCoder$Table;)V"⟩
abbrev x7_4 (C : qCx) (G : jG) : Prop := n_ctx C b_7_4 4 "BalanceCoder$Reader" G.1 G.2.1
def M7_4 (l : Launch) (mc ms : Nat) (p : Int → Int → Int → jS → jH → Prop) (q : Int → Int → Int → jS → jH → jS → jH → Prop) : Prop := j_Met l vwCl n_TL n_NW n_KT y_7_4 (Cond.code y_7_4 b_7_4 4 none :: n_GW) { frames := 3, cells := mc, slots := ms, locals := 81 } mc ms (fun a S V => ∃ u0 u1 u2 : Int, a = [(2, u0), (2, u1), (2, u2)] ∧ S.1 u0 = 26 ∧ p u0 u1 u2 S V) (fun a S V rs S' V' => ∃ u0 u1 u2 : Int, a = [(2, u0), (2, u1), (2, u2)] ∧ rs = [] ∧ q u0 u1 u2 S V S' V')
theorem e7_4 {l : Launch} {mc ms : Nat} {p : Int → Int → Int → jS → jH → Prop} {q : Int → Int → Int → jS → jH → jS → jH → Prop} (body : ∀ (C : qCx) (G : jG), x7_4 C G → C.2.2.2.1.frames = 3 ∧ C.2.2.2.1.locals = 81 → C.2.2.2.1.cells = mc ∧ C.2.2.2.1.slots = ms → C.2.1 = l → C.2.2.2.2.2.2.2.2.1.name = "readDeals" → ∀ (u0 u1 u2 : Int) (S : jS) (V : jH), S.1 u0 = 26 → p u0 u1 u2 S V → j_Rv n_KT 4 C G b_7_4 mc ms (q u0 u1 u2 S V) → j_ok n_KT 4 C G 0 [(0, (2, u0)), (1, (2, u1)), (2, (2, u2))] [] S V 0 0) : M7_4 l mc ms p q := by
  refine j_method (ws' := n_GW) (by decide) rfl ?_ ?_
  · rintro a S V ⟨u0, u1, u2, rfl, -⟩
    exact Nat.le_of_ble_eq_true rfl
  · rintro C G htl hl hrm hm hml ho hts hnm hE a S V ⟨u0, u1, u2, rfl, ht, hp⟩ R
    exact body C G ⟨htl, hm, hml, ho, fun w hw => hts w (List.mem_cons_of_mem _ hw), hE⟩ (by rw [hrm]; exact ⟨rfl, rfl⟩) (by rw [hrm]; exact ⟨rfl, rfl⟩) hl hnm u0 u1 u2 S V ht hp (fun pc lo S' V' nc ns d q hc hs => R.1 rfl pc lo S' V' nc ns d ⟨u0, u1, u2, rfl, rfl, q⟩ hc hs)
theorem d7_4_0 : decode b_7_4 0 = .ok (.iconst 0, 1) := by decide +kernel
theorem d7_4_1 : decode b_7_4 1 = .ok (.istore_n 3, 1) := by decide +kernel
theorem d7_4_2 : decode b_7_4 2 = .ok (.iload_n 3, 1) := by decide +kernel
theorem d7_4_3 : decode b_7_4 3 = .ok (.aload_n 2, 1) := by decide +kernel
theorem d7_4_4 : decode b_7_4 4 = .ok (.invokevirtual 67, 3) := by decide +kernel
theorem d7_4_7 : decode b_7_4 7 = .ok (.if_icmp .ge 31, 3) := by decide +kernel
theorem d7_4_10 : decode b_7_4 10 = .ok (.aload_n 0, 1) := by decide +kernel
theorem d7_4_11 : decode b_7_4 11 = .ok (.getfield 15, 3) := by decide +kernel
theorem d7_4_14 : decode b_7_4 14 = .ok (.ifCond .ge 24, 3) := by decide +kernel
theorem d7_4_17 : decode b_7_4 17 = .ok (.aload_n 0, 1) := by decide +kernel
theorem d7_4_18 : decode b_7_4 18 = .ok (.aload_n 1, 1) := by decide +kernel
theorem d7_4_19 : decode b_7_4 19 = .ok (.aload_n 2, 1) := by decide +kernel
theorem d7_4_20 : decode b_7_4 20 = .ok (.getfield 71, 3) := by decide +kernel
theorem d7_4_23 : decode b_7_4 23 = .ok (.iload_n 3, 1) := by decide +kernel
theorem d7_4_24 : decode b_7_4 24 = .ok (.aaload, 1) := by decide +kernel
theorem d7_4_25 : decode b_7_4 25 = .ok (.aload_n 2, 1) := by decide +kernel
theorem d7_4_26 : decode b_7_4 26 = .ok (.invokevirtual 75, 3) := by decide +kernel
theorem d7_4_29 : decode b_7_4 29 = .ok (.invokevirtual 78, 3) := by decide +kernel
theorem d7_4_32 : decode b_7_4 32 = .ok (.iinc 3 1, 3) := by decide +kernel
theorem d7_4_35 : decode b_7_4 35 = .ok (.goto (-33), 3) := by decide +kernel
theorem d7_4_38 : decode b_7_4 38 = .ok (.return_, 1) := by decide +kernel
theorem K7_4_4 {C : qCx} {G : jG} {mc ms : Nat} {p : Int → jS → jH → Prop} {q : Int → jS → jH → Int → jS → jH → Prop} (h : x7_4 C G) (hrm : C.2.2.2.1.frames = 3 ∧ C.2.2.2.1.locals = 81) (hM : M10_5 C.2.1 mc ms p q) : j_Call C b_7_4 n_KT G.1 G.2.1 4 (.invokevirtual 67) mc ms (fun a S V => ∃ u0 : Int, a = [(2, u0)] ∧ S.1 u0 = 29 ∧ p u0 S V) (fun a S V rs S' V' => ∃ u0 r : Int, a = [(2, u0)] ∧ rs = [(0, r)] ∧ q u0 S V r S' V') := j_callV n_NWk h.2.2.2.2.2 h.1 hM ⟨h.2.1.1, h.2.1.2, h.2.2.1, h.2.2.2.1, h.2.2.2.2.1⟩ ⟨n_CB (y := y_10_5) (bytes := b_10_5) 0 h.2.2.2.2.1 n_w404 n_w615 n_w7 ⟨by decide, by decide, by decide +kernel⟩ rfl rfl ⟨by rw [hrm.1]; exact Nat.le_of_ble_eq_true rfl, by rw [hrm.2]; exact Nat.le_of_ble_eq_true rfl⟩, h.2.2.2.2.1 _ n_w402, h.2.2.2.2.1 _ n_w403⟩ (Cn := RX8) (fun a S V hP => by obtain ⟨u0, rfl, e, -⟩ := hP; exact ⟨u0, _, 8, _, _, TX8, 3, rfl, rfl, by rw [e]; decide, by rw [e]; rfl, rfl⟩)
theorem K7_4_26 {C : qCx} {G : jG} {mc ms : Nat} {p : Int → jS → jH → Prop} {q : Int → jS → jH → Int → jS → jH → Prop} (h : x7_4 C G) (hrm : C.2.2.2.1.frames = 3 ∧ C.2.2.2.1.locals = 81) (hM : M10_4 C.2.1 mc ms p q) : j_Call C b_7_4 n_KT G.1 G.2.1 4 (.invokevirtual 75) mc ms (fun a S V => ∃ u0 : Int, a = [(2, u0)] ∧ S.1 u0 = 29 ∧ p u0 S V) (fun a S V rs S' V' => ∃ u0 r : Int, a = [(2, u0)] ∧ rs = [(0, r)] ∧ q u0 S V r S' V') := j_callV n_NWk h.2.2.2.2.2 h.1 hM ⟨h.2.1.1, h.2.1.2, h.2.2.1, h.2.2.2.1, h.2.2.2.2.1⟩ ⟨n_CB (y := y_10_4) (bytes := b_10_4) 0 h.2.2.2.2.1 n_w348 n_w616 n_w7 ⟨by decide, by decide, by decide +kernel⟩ rfl rfl ⟨by rw [hrm.1]; exact Nat.le_of_ble_eq_true rfl, by rw [hrm.2]; exact Nat.le_of_ble_eq_true rfl⟩, h.2.2.2.2.1 _ n_w346, h.2.2.2.2.1 _ n_w347⟩ (Cn := RX8) (fun a S V hP => by obtain ⟨u0, rfl, e, -⟩ := hP; exact ⟨u0, _, 8, _, _, TX8, 3, rfl, rfl, by rw [e]; decide, by rw [e]; rfl, rfl⟩)
theorem K7_4_29 {C : qCx} {G : jG} {mc ms : Nat} {p : Int → Int → Int → Int → jS → jH → Prop} {q : Int → Int → Int → Int → jS → jH → jS → jH → Prop} (h : x7_4 C G) (hrm : C.2.2.2.1.frames = 3 ∧ C.2.2.2.1.locals = 81) (hM : M7_5 C.2.1 mc ms p q) : j_Call C b_7_4 n_KT G.1 G.2.1 4 (.invokevirtual 78) mc ms (fun a S V => ∃ u0 u1 u2 u3 : Int, a = [(2, u0), (2, u1), (2, u2), (0, u3)] ∧ S.1 u0 = 26 ∧ p u0 u1 u2 u3 S V) (fun a S V rs S' V' => ∃ u0 u1 u2 u3 : Int, a = [(2, u0), (2, u1), (2, u2), (0, u3)] ∧ rs = [] ∧ q u0 u1 u2 u3 S V S' V') := j_callV n_NWk h.2.2.2.2.2 h.1 hM ⟨h.2.1.1, h.2.1.2, h.2.2.1, h.2.2.2.1, h.2.2.2.2.1⟩ ⟨n_CB (y := y_7_5) (bytes := b_7_5) 3 h.2.2.2.2.1 n_w620 n_w617 n_w11 ⟨by decide, by decide, by decide +kernel⟩ rfl rfl ⟨by rw [hrm.1]; exact Nat.le_of_ble_eq_true rfl, by rw [hrm.2]; exact Nat.le_of_ble_eq_true rfl⟩, h.2.2.2.2.1 _ n_w619, h.2.2.2.2.1 _ n_s19⟩ (Cn := RX5) (fun a S V hP => by obtain ⟨u0, u1, u2, u3, rfl, e, -⟩ := hP; exact ⟨u0, _, 5, _, _, TX5, 2, rfl, rfl, by rw [e]; decide, by rw [e]; rfl, rfl⟩)
theorem t7_4_0 {C : qCx} {G : jG} {S : jS} {V : jH} {nc ns : Nat} {l0 l1 l2 : Int} (h : x7_4 C G)  (k : j_ok n_KT 4 C G 2 [(0, (2, l0)), (1, (2, l1)), (2, (2, l2)), (3, (0, 0))] [] S V nc ns) : j_ok n_KT 4 C G 0 [(0, (2, l0)), (1, (2, l1)), (2, (2, l2))] [] S V nc ns := by
  have E := n_E h
  refine j_iconst E d7_4_0 (by decide) ?_
  refine j_istore_n E d7_4_1 rfl (by decide) (lo1 := [(0, (2, l0)), (1, (2, l1)), (2, (2, l2))]) rfl ?_
  exact j_pick [1, 2, 3, 0] rfl k
theorem t7_4_2 {C : qCx} {G : jG} {S : jS} {V : jH} {nc ns : Nat} {l0 l1 l2 l3 : Int} {mc ms : Nat} {pp : Int → jS → jH → Prop} {qq : Int → jS → jH → Int → jS → jH → Prop} (h : x7_4 C G) (hrm : C.2.2.2.1.frames = 3 ∧ C.2.2.2.1.locals = 81) (c1 : S.1 l2 = 29) (hM : M10_5 C.2.1 mc ms pp qq) (hp : pp l2 S V) (hc : nc + mc ≤ C.2.2.2.1.cells) (hs : ns + ms ≤ C.2.2.2.1.slots) (k : ∀ (r : Int) (S' : jS) (V' : jH), qq l2 S V r S' V' → j_ok n_KT 4 C G 7 [(0, (2, l0)), (1, (2, l1)), (2, (2, l2)), (3, (0, l3))] [(0, r), (0, l3)] S' V' (nc + mc) (ns + ms)) : j_ok n_KT 4 C G 2 [(0, (2, l0)), (1, (2, l1)), (2, (2, l2)), (3, (0, l3))] [] S V nc ns := by
  have E := n_E h
  refine j_iload_n E d7_4_2 rfl 3 rfl ?_
  refine j_aload_n E d7_4_3 rfl 2 rfl ?_
  refine j_call E (K7_4_4 h hrm hM) d7_4_4 (a := [(2, l2)]) (sk := [(0, l3)]) rfl ⟨l2, rfl, c1, hp⟩ (Nat.le_of_ble_eq_true rfl) hc hs ?_
  rintro rs S' V' ⟨z0, r, e1, rfl, q⟩
  simp only [List.cons.injEq, Prod.mk.injEq, and_true, true_and] at e1
  obtain ⟨rfl⟩ := e1
  exact j_pick [0, 1, 2, 3] rfl (k r S' V' q)
theorem t7_4_7 {C : qCx} {G : jG} {S : jS} {V : jH} {nc ns : Nat} {l0 l1 l2 l3 s0 s1 : Int} (h : x7_4 C G)  (k : s0 ≤ s1 → j_ok n_KT 4 C G 38 [] [] S V nc ns) (k' : s1 < s0 → j_ok n_KT 4 C G 10 [(0, (2, l0)), (1, (2, l1)), (2, (2, l2)), (3, (0, l3))] [] S V nc ns) : j_ok n_KT 4 C G 7 [(0, (2, l0)), (1, (2, l1)), (2, (2, l2)), (3, (0, l3))] [(0, s0), (0, s1)] S V nc ns := by
  have E := n_E h
  exact j_icmp_ge E d7_4_7 (t := 38) rfl (fun q => j_pick [] rfl (k q)) (fun q => j_pick [0, 1, 2, 3] rfl (k' q))
theorem t7_4_10 {C : qCx} {G : jG} {S : jS} {V : jH} {nc ns : Nat} {l0 l1 l2 l3 : Int} (h : x7_4 C G) (c1 : S.1 l0 = 26) (k : 0 ≤ V l0 1 → j_ok n_KT 4 C G 38 [] [] S V nc ns) (k' : V l0 1 < 0 → j_ok n_KT 4 C G 17 [(0, (2, l0)), (1, (2, l1)), (2, (2, l2)), (3, (0, l3))] [] S V nc ns) : j_ok n_KT 4 C G 10 [(0, (2, l0)), (1, (2, l1)), (2, (2, l2)), (3, (0, l3))] [] S V nc ns := by
  have E := n_E h
  refine j_aload_n E d7_4_10 rfl 0 rfl ?_
  refine j_getI (f := 1) (fg5_15 h) d7_4_11 c1 (by decide) rfl rfl ?_
  exact j_if_ge E d7_4_14 (t := 38) rfl (fun q => j_pick [] rfl (k q)) (fun q => j_pick [0, 1, 2, 3] rfl (k' q))
theorem t7_4_17 {C : qCx} {G : jG} {S : jS} {V : jH} {nc ns : Nat} {l0 l1 l2 l3 : Int} {mc ms : Nat} {pp : Int → jS → jH → Prop} {qq : Int → jS → jH → Int → jS → jH → Prop} (h : x7_4 C G) (L : j_L S) (hrm : C.2.2.2.1.frames = 3 ∧ C.2.2.2.1.locals = 81) (c1 : S.1 l2 = 29) (c2 : 0 ≤ l3) (c3 : l3 < 4) (hM : M10_4 C.2.1 mc ms pp qq) (hp : pp l2 S V) (hc : nc + mc ≤ C.2.2.2.1.cells) (hs : ns + ms ≤ C.2.2.2.1.slots) (k : ∀ (r : Int) (S' : jS) (V' : jH), qq l2 S V r S' V' → j_ok n_KT 4 C G 29 [(0, (2, l0)), (1, (2, l1)), (2, (2, l2)), (3, (0, l3))] [(0, r), (2, l2 + 2 + 2 * l3), (2, l1), (2, l0)] S' V' (nc + mc) (ns + ms)) : j_ok n_KT 4 C G 17 [(0, (2, l0)), (1, (2, l1)), (2, (2, l2)), (3, (0, l3))] [] S V nc ns := by
  have E := n_E h
  refine j_aload_n E d7_4_17 rfl 0 rfl ?_
  refine j_aload_n E d7_4_18 rfl 1 rfl ?_
  refine j_aload_n E d7_4_19 rfl 2 rfl ?_
  refine j_getS (f := 0) (x := l2 + 1) (fg5_71 h) d7_4_20 c1 (by decide) rfl rfl ((L8_0 L c1).trans (by omega)) ?_
  refine j_iload_n E d7_4_23 rfl 3 rfl ?_
  refine j_aaldS (x := l2 + 2 + 2 * l3) E d7_4_24 (show S.1 (l2 + 1) = 19 from (by have q := L8_0k L c1; rw [show l2 + 1 = l2 + 1 by omega]; exact q)) (by decide) rfl c2 c3 ((LDealA L (i := l3) (show S.1 (l2 + 1) = 19 from (by have q := L8_0k L c1; rw [show l2 + 1 = l2 + 1 by omega]; exact q)) c2 c3).trans (by omega)) ?_
  refine j_aload_n E d7_4_25 rfl 2 rfl ?_
  refine j_call E (K7_4_26 h hrm hM) d7_4_26 (a := [(2, l2)]) (sk := [(2, l2 + 2 + 2 * l3), (2, l1), (2, l0)]) rfl ⟨l2, rfl, c1, hp⟩ (Nat.le_of_ble_eq_true rfl) hc hs ?_
  rintro rs S' V' ⟨z0, r, e1, rfl, q⟩
  simp only [List.cons.injEq, Prod.mk.injEq, and_true, true_and] at e1
  obtain ⟨rfl⟩ := e1
  exact j_pick [0, 1, 2, 3] rfl (k r S' V' q)
theorem t7_4_29 {C : qCx} {G : jG} {S : jS} {V : jH} {nc ns : Nat} {l0 l1 l2 l3 s0 s1 s2 s3 : Int} {mc ms : Nat} {pp : Int → Int → Int → Int → jS → jH → Prop} {qq : Int → Int → Int → Int → jS → jH → jS → jH → Prop} (h : x7_4 C G) (hrm : C.2.2.2.1.frames = 3 ∧ C.2.2.2.1.locals = 81) (c1 : S.1 s3 = 26) (hM : M7_5 C.2.1 mc ms pp qq) (hp : pp s3 s2 s1 s0 S V) (hc : nc + mc ≤ C.2.2.2.1.cells) (hs : ns + ms ≤ C.2.2.2.1.slots) (k : ∀ (S' : jS) (V' : jH), qq s3 s2 s1 s0 S V S' V' → j_ok n_KT 4 C G 32 [(0, (2, l0)), (1, (2, l1)), (2, (2, l2)), (3, (0, l3))] [] S' V' (nc + mc) (ns + ms)) : j_ok n_KT 4 C G 29 [(0, (2, l0)), (1, (2, l1)), (2, (2, l2)), (3, (0, l3))] [(0, s0), (2, s1), (2, s2), (2, s3)] S V nc ns := by
  have E := n_E h
  refine j_call E (K7_4_29 h hrm hM) d7_4_29 (a := [(2, s3), (2, s2), (2, s1), (0, s0)]) (sk := []) rfl ⟨s3, s2, s1, s0, rfl, c1, hp⟩ (Nat.le_of_ble_eq_true rfl) hc hs ?_
  rintro rs S' V' ⟨z0, z1, z2, z3, e1, rfl, q⟩
  simp only [List.cons.injEq, Prod.mk.injEq, and_true, true_and] at e1
  obtain ⟨rfl, rfl, rfl, rfl⟩ := e1
  exact j_pick [0, 1, 2, 3] rfl (k S' V' q)
theorem t7_4_32 {C : qCx} {G : jG} {S : jS} {V : jH} {nc ns : Nat} {l0 l1 l2 l3 : Int} (h : x7_4 C G) (c1 : -2147483648 ≤ l3 + 1 ∧ l3 + 1 ≤ 2147483647) (k : j_ok n_KT 4 C G 2 [(0, (2, l0)), (1, (2, l1)), (2, (2, l2)), (3, (0, l3 + 1))] [] S V nc ns) : j_ok n_KT 4 C G 32 [(0, (2, l0)), (1, (2, l1)), (2, (2, l2)), (3, (0, l3))] [] S V nc ns := by
  have E := n_E h
  refine j_iinc E d7_4_32 (by decide) (by decide) 3 rfl (lo1 := [(0, (2, l0)), (1, (2, l1)), (2, (2, l2))]) rfl c1 ?_
  refine j_goto E d7_4_35 (t := 2) rfl ?_
  exact j_pick [1, 2, 3, 0] rfl k
theorem t7_4_38 {C : qCx} {G : jG} {S : jS} {V : jH} {nc ns : Nat} {mc ms : Nat} {qf : jS → jH → Prop} (h : x7_4 C G)  (R : j_Rv n_KT 4 C G b_7_4 mc ms qf) (q : qf S V) (hc : nc ≤ mc) (hs : ns ≤ ms) : j_ok n_KT 4 C G 38 [] [] S V nc ns := by
  have E := n_E h
  exact R _ _ _ _ _ _ d7_4_38 q hc hs
/- BalanceCoder$Reader.readStates(LBalanceCoder$Block;LBalanceCoder$Bench;I)V -/
abbrev b_7_6 : ByteArray := prog_7_method_6_code
def y_7_6 : MethodName := ⟨"BalanceCoder$Reader", "readStates", "(LBalanceCoder$Block;LBalanceCoder$Bench;I)V"⟩
abbrev x7_6 (C : qCx) (G : jG) : Prop := n_ctx C b_7_6 6 "BalanceCoder$Reader" G.1 G.2.1
def M7_6 (l : Launch) (mc ms : Nat) (p : Int → Int → Int → Int → jS → jH → Prop) (q : Int → Int → Int → Int → jS → jH → jS → jH → Prop) : Prop := j_Met l vwCl n_TL n_NW n_KT y_7_6 (Cond.code y_7_6 b_7_6 6 none :: n_GW) { frames := 2, cells := mc, slots := ms, locals := 52 } mc ms (fun a S V => ∃ u0 u1 u2 u3 : Int, a = [(2, u0), (2, u1), (2, u2), (0, u3)] ∧ S.1 u0 = 26 ∧ p u0 u1 u2 u3 S V) (fun a S V rs S' V' => ∃ u0 u1 u2 u3 : Int, a = [(2, u0), (2, u1), (2, u2), (0, u3)] ∧ rs = [] ∧ q u0 u1 u2 u3 S V S' V')
theorem e7_6 {l : Launch} {mc ms : Nat} {p : Int → Int → Int → Int → jS → jH → Prop} {q : Int → Int → Int → Int → jS → jH → jS → jH → Prop} (body : ∀ (C : qCx) (G : jG), x7_6 C G → C.2.2.2.1.frames = 2 ∧ C.2.2.2.1.locals = 52 → C.2.2.2.1.cells = mc ∧ C.2.2.2.1.slots = ms → C.2.1 = l → C.2.2.2.2.2.2.2.2.1.name = "readStates" → ∀ (u0 u1 u2 u3 : Int) (S : jS) (V : jH), S.1 u0 = 26 → p u0 u1 u2 u3 S V → j_Rv n_KT 6 C G b_7_6 mc ms (q u0 u1 u2 u3 S V) → j_ok n_KT 6 C G 0 [(0, (2, u0)), (1, (2, u1)), (2, (2, u2)), (3, (0, u3))] [] S V 0 0) : M7_6 l mc ms p q := by
  refine j_method (ws' := n_GW) (by decide) rfl ?_ ?_
  · rintro a S V ⟨u0, u1, u2, u3, rfl, -⟩
    exact Nat.le_of_ble_eq_true rfl
  · rintro C G htl hl hrm hm hml ho hts hnm hE a S V ⟨u0, u1, u2, u3, rfl, ht, hp⟩ R
    exact body C G ⟨htl, hm, hml, ho, fun w hw => hts w (List.mem_cons_of_mem _ hw), hE⟩ (by rw [hrm]; exact ⟨rfl, rfl⟩) (by rw [hrm]; exact ⟨rfl, rfl⟩) hl hnm u0 u1 u2 u3 S V ht hp (fun pc lo S' V' nc ns d q hc hs => R.1 rfl pc lo S' V' nc ns d ⟨u0, u1, u2, u3, rfl, rfl, q⟩ hc hs)
theorem d7_6_0 : decode b_7_6 0 = .ok (.aload_n 2, 1) := by decide +kernel
theorem d7_6_1 : decode b_7_6 1 = .ok (.getfield 22, 3) := by decide +kernel
theorem d7_6_4 : decode b_7_6 4 = .ok (.invokevirtual 75, 3) := by decide +kernel
theorem d7_6_7 : decode b_7_6 7 = .ok (.istore 4, 2) := by decide +kernel
theorem d7_6_9 : decode b_7_6 9 = .ok (.iconst 0, 1) := by decide +kernel
theorem d7_6_10 : decode b_7_6 10 = .ok (.istore 5, 2) := by decide +kernel
theorem d7_6_12 : decode b_7_6 12 = .ok (.iload 5, 2) := by decide +kernel
theorem d7_6_14 : decode b_7_6 14 = .ok (.iload_n 3, 1) := by decide +kernel
theorem d7_6_15 : decode b_7_6 15 = .ok (.if_icmp .ge 32, 3) := by decide +kernel
theorem d7_6_18 : decode b_7_6 18 = .ok (.aload_n 2, 1) := by decide +kernel
theorem d7_6_19 : decode b_7_6 19 = .ok (.getfield 90, 3) := by decide +kernel
theorem d7_6_22 : decode b_7_6 22 = .ok (.iload 5, 2) := by decide +kernel
theorem d7_6_24 : decode b_7_6 24 = .ok (.aload_n 0, 1) := by decide +kernel
theorem d7_6_25 : decode b_7_6 25 = .ok (.aload_n 1, 1) := by decide +kernel
theorem d7_6_26 : decode b_7_6 26 = .ok (.iconst 3, 1) := by decide +kernel
theorem d7_6_27 : decode b_7_6 27 = .ok (.iload 4, 2) := by decide +kernel
theorem d7_6_29 : decode b_7_6 29 = .ok (.sipush 256, 3) := by decide +kernel
theorem d7_6_32 : decode b_7_6 32 = .ok (.iload 4, 2) := by decide +kernel
theorem d7_6_34 : decode b_7_6 34 = .ok (.imul, 1) := by decide +kernel
theorem d7_6_35 : decode b_7_6 35 = .ok (.iconst 1, 1) := by decide +kernel
theorem d7_6_36 : decode b_7_6 36 = .ok (.isub, 1) := by decide +kernel
theorem d7_6_37 : decode b_7_6 37 = .ok (.invokevirtual 18, 3) := by decide +kernel
theorem d7_6_40 : decode b_7_6 40 = .ok (.iastore, 1) := by decide +kernel
theorem d7_6_41 : decode b_7_6 41 = .ok (.iinc 5 1, 3) := by decide +kernel
theorem d7_6_44 : decode b_7_6 44 = .ok (.goto (-32), 3) := by decide +kernel
theorem d7_6_47 : decode b_7_6 47 = .ok (.return_, 1) := by decide +kernel
theorem K7_6_4 {C : qCx} {G : jG} {mc ms : Nat} {p : Int → jS → jH → Prop} {q : Int → jS → jH → Int → jS → jH → Prop} (h : x7_6 C G) (hrm : C.2.2.2.1.frames = 2 ∧ C.2.2.2.1.locals = 52) (hM : M10_4 C.2.1 mc ms p q) : j_Call C b_7_6 n_KT G.1 G.2.1 6 (.invokevirtual 75) mc ms (fun a S V => ∃ u0 : Int, a = [(2, u0)] ∧ S.1 u0 = 29 ∧ p u0 S V) (fun a S V rs S' V' => ∃ u0 r : Int, a = [(2, u0)] ∧ rs = [(0, r)] ∧ q u0 S V r S' V') := j_callV n_NWk h.2.2.2.2.2 h.1 hM ⟨h.2.1.1, h.2.1.2, h.2.2.1, h.2.2.2.1, h.2.2.2.2.1⟩ ⟨n_CB (y := y_10_4) (bytes := b_10_4) 0 h.2.2.2.2.1 n_w348 n_w616 n_w7 ⟨by decide, by decide, by decide +kernel⟩ rfl rfl ⟨by rw [hrm.1]; exact Nat.le_of_ble_eq_true rfl, by rw [hrm.2]; exact Nat.le_of_ble_eq_true rfl⟩, h.2.2.2.2.1 _ n_w346, h.2.2.2.2.1 _ n_w347⟩ (Cn := RX8) (fun a S V hP => by obtain ⟨u0, rfl, e, -⟩ := hP; exact ⟨u0, _, 8, _, _, TX8, 3, rfl, rfl, by rw [e]; decide, by rw [e]; rfl, rfl⟩)
theorem K7_6_37 {C : qCx} {G : jG} {mc ms : Nat} {p : Int → Int → Int → Int → Int → jS → jH → Prop} {q : Int → Int → Int → Int → Int → jS → jH → Int → jS → jH → Prop} (h : x7_6 C G) (hrm : C.2.2.2.1.frames = 2 ∧ C.2.2.2.1.locals = 52) (hM : M7_3 C.2.1 mc ms p q) : j_Call C b_7_6 n_KT G.1 G.2.1 6 (.invokevirtual 18) mc ms (fun a S V => ∃ u0 u1 u2 u3 u4 : Int, a = [(2, u0), (2, u1), (0, u2), (0, u3), (0, u4)] ∧ S.1 u0 = 26 ∧ p u0 u1 u2 u3 u4 S V) (fun a S V rs S' V' => ∃ u0 u1 u2 u3 u4 r : Int, a = [(2, u0), (2, u1), (0, u2), (0, u3), (0, u4)] ∧ rs = [(0, r)] ∧ q u0 u1 u2 u3 u4 S V r S' V') := j_callV n_NWk h.2.2.2.2.2 h.1 hM ⟨h.2.1.1, h.2.1.2, h.2.2.1, h.2.2.2.1, h.2.2.2.2.1⟩ ⟨n_CB (y := y_7_3) (bytes := b_7_3) 4 h.2.2.2.2.1 n_w608 n_w605 n_w11 ⟨by decide, by decide, by decide +kernel⟩ rfl rfl ⟨by rw [hrm.1]; exact Nat.le_of_ble_eq_true rfl, by rw [hrm.2]; exact Nat.le_of_ble_eq_true rfl⟩, h.2.2.2.2.1 _ n_w607, h.2.2.2.2.1 _ n_s17⟩ (Cn := RX5) (fun a S V hP => by obtain ⟨u0, u1, u2, u3, u4, rfl, e, -⟩ := hP; exact ⟨u0, _, 5, _, _, TX5, 2, rfl, rfl, by rw [e]; decide, by rw [e]; rfl, rfl⟩)
theorem t7_6_0 {C : qCx} {G : jG} {S : jS} {V : jH} {nc ns : Nat} {l0 l1 l2 l3 : Int} {mc ms : Nat} {pp : Int → jS → jH → Prop} {qq : Int → jS → jH → Int → jS → jH → Prop} (h : x7_6 C G) (L : j_L S) (hrm : C.2.2.2.1.frames = 2 ∧ C.2.2.2.1.locals = 52) (c1 : S.1 l2 = 21) (hM : M10_4 C.2.1 mc ms pp qq) (hp : pp (l2 + 1) S V) (hc : nc + mc ≤ C.2.2.2.1.cells) (hs : ns + ms ≤ C.2.2.2.1.slots) (k : ∀ (r : Int) (S' : jS) (V' : jH), qq (l2 + 1) S V r S' V' → j_ok n_KT 6 C G 7 [(0, (2, l0)), (1, (2, l1)), (2, (2, l2)), (3, (0, l3))] [(0, r)] S' V' (nc + mc) (ns + ms)) : j_ok n_KT 6 C G 0 [(0, (2, l0)), (1, (2, l1)), (2, (2, l2)), (3, (0, l3))] [] S V nc ns := by
  have E := n_E h
  refine j_aload_n E d7_6_0 rfl 2 rfl ?_
  refine j_getS (f := 0) (x := l2 + 1) (fg5_22 h) d7_6_1 c1 (by decide) rfl rfl ((L0_0 L c1).trans (by omega)) ?_
  refine j_call E (K7_6_4 h hrm hM) d7_6_4 (a := [(2, l2 + 1)]) (sk := []) rfl ⟨l2 + 1, rfl, (show S.1 (l2 + 1) = 29 from (by have q := L0_0k L c1; rw [show l2 + 1 = l2 + 1 by omega]; exact q)), hp⟩ (Nat.le_of_ble_eq_true rfl) hc hs ?_
  rintro rs S' V' ⟨z0, r, e1, rfl, q⟩
  simp only [List.cons.injEq, Prod.mk.injEq, and_true, true_and] at e1
  obtain ⟨rfl⟩ := e1
  exact j_pick [0, 1, 2, 3] rfl (k r S' V' q)
theorem t7_6_7 {C : qCx} {G : jG} {S : jS} {V : jH} {nc ns : Nat} {l0 l1 l2 l3 s0 : Int} (h : x7_6 C G)  (k : j_ok n_KT 6 C G 12 [(0, (2, l0)), (1, (2, l1)), (2, (2, l2)), (3, (0, l3)), (4, (0, s0)), (5, (0, 0))] [] S V nc ns) : j_ok n_KT 6 C G 7 [(0, (2, l0)), (1, (2, l1)), (2, (2, l2)), (3, (0, l3))] [(0, s0)] S V nc ns := by
  have E := n_E h
  refine j_istore E d7_6_7 (by decide) (lo1 := [(0, (2, l0)), (1, (2, l1)), (2, (2, l2)), (3, (0, l3))]) rfl ?_
  refine j_iconst E d7_6_9 (by decide) ?_
  refine j_istore E d7_6_10 (by decide) (lo1 := [(4, (0, s0)), (0, (2, l0)), (1, (2, l1)), (2, (2, l2)), (3, (0, l3))]) rfl ?_
  exact j_pick [2, 3, 4, 5, 1, 0] rfl k
theorem t7_6_12 {C : qCx} {G : jG} {S : jS} {V : jH} {nc ns : Nat} {l0 l1 l2 l3 l4 l5 : Int} (h : x7_6 C G)  (k : l3 ≤ l5 → j_ok n_KT 6 C G 47 [] [] S V nc ns) (k' : l5 < l3 → j_ok n_KT 6 C G 18 [(0, (2, l0)), (1, (2, l1)), (2, (2, l2)), (3, (0, l3)), (4, (0, l4)), (5, (0, l5))] [] S V nc ns) : j_ok n_KT 6 C G 12 [(0, (2, l0)), (1, (2, l1)), (2, (2, l2)), (3, (0, l3)), (4, (0, l4)), (5, (0, l5))] [] S V nc ns := by
  have E := n_E h
  refine j_iload E d7_6_12 5 rfl ?_
  refine j_iload_n E d7_6_14 rfl 3 rfl ?_
  exact j_icmp_ge E d7_6_15 (t := 47) rfl (fun q => j_pick [] rfl (k q)) (fun q => j_pick [0, 1, 2, 3, 4, 5] rfl (k' q))
theorem t7_6_18 {C : qCx} {G : jG} {S : jS} {V : jH} {nc ns : Nat} {l0 l1 l2 l3 l4 l5 : Int} {mc ms : Nat} {pp : Int → Int → Int → Int → Int → jS → jH → Prop} {qq : Int → Int → Int → Int → Int → jS → jH → Int → jS → jH → Prop} (h : x7_6 C G) (L : j_L S) (hrm : C.2.2.2.1.frames = 2 ∧ C.2.2.2.1.locals = 52) (c1 : S.1 l2 = 21) (c2 : -2147483648 ≤ 256 * l4 ∧ 256 * l4 ≤ 2147483647) (c3 : -2147483648 ≤ (256 * l4) - 1 ∧ (256 * l4) - 1 ≤ 2147483647) (c4 : S.1 l0 = 26) (hM : M7_3 C.2.1 mc ms pp qq) (hp : pp l0 l1 3 l4 ((256 * l4) - 1) S V) (hc : nc + mc ≤ C.2.2.2.1.cells) (hs : ns + ms ≤ C.2.2.2.1.slots) (k : ∀ (r : Int) (S' : jS) (V' : jH), qq l0 l1 3 l4 ((256 * l4) - 1) S V r S' V' → j_ok n_KT 6 C G 40 [(0, (2, l0)), (1, (2, l1)), (2, (2, l2)), (3, (0, l3)), (4, (0, l4)), (5, (0, l5))] [(0, r), (0, l5), (2, l2 + 20)] S' V' (nc + mc) (ns + ms)) : j_ok n_KT 6 C G 18 [(0, (2, l0)), (1, (2, l1)), (2, (2, l2)), (3, (0, l3)), (4, (0, l4)), (5, (0, l5))] [] S V nc ns := by
  have E := n_E h
  refine j_aload_n E d7_6_18 rfl 2 rfl ?_
  refine j_getS (f := 3) (x := l2 + 20) (fg5_90 h) d7_6_19 c1 (by decide) rfl rfl ((L0_3 L c1).trans (by omega)) ?_
  refine j_iload E d7_6_22 5 rfl ?_
  refine j_aload_n E d7_6_24 rfl 0 rfl ?_
  refine j_aload_n E d7_6_25 rfl 1 rfl ?_
  refine j_iconst E d7_6_26 (by decide) ?_
  refine j_iload E d7_6_27 4 rfl ?_
  refine j_sipush E d7_6_29 (by decide) ?_
  refine j_iload E d7_6_32 4 rfl ?_
  refine j_imul E d7_6_34 c2 ?_
  refine j_iconst E d7_6_35 (by decide) ?_
  refine j_isub E d7_6_36 c3 ?_
  refine j_call E (K7_6_37 h hrm hM) d7_6_37 (a := [(2, l0), (2, l1), (0, 3), (0, l4), (0, (256 * l4) - 1)]) (sk := [(0, l5), (2, l2 + 20)]) rfl ⟨l0, l1, 3, l4, (256 * l4) - 1, rfl, c4, hp⟩ (Nat.le_of_ble_eq_true rfl) hc hs ?_
  rintro rs S' V' ⟨z0, z1, z2, z3, z4, r, e1, rfl, q⟩
  simp only [List.cons.injEq, Prod.mk.injEq, and_true, true_and] at e1
  obtain ⟨rfl, rfl, rfl, rfl, rfl⟩ := e1
  exact j_pick [0, 1, 2, 3, 4, 5] rfl (k r S' V' q)
theorem t7_6_40 {C : qCx} {G : jG} {S : jS} {V : jH} {nc ns : Nat} {l0 l1 l2 l3 l4 l5 s0 s1 s2 : Int} {n_s2 : Nat} (h : x7_6 C G) (c1 : j_arr S s2 n_s2) (c2 : 0 ≤ s1) (c3 : s1 < (n_s2 : Int)) (c4 : -2147483648 ≤ l5 + 1 ∧ l5 + 1 ≤ 2147483647) (k : j_ok n_KT 6 C G 12 [(0, (2, l0)), (1, (2, l1)), (2, (2, l2)), (3, (0, l3)), (4, (0, l4)), (5, (0, l5 + 1))] [] S (j_up V s2 s1 s0) nc ns) : j_ok n_KT 6 C G 40 [(0, (2, l0)), (1, (2, l1)), (2, (2, l2)), (3, (0, l3)), (4, (0, l4)), (5, (0, l5))] [(0, s0), (0, s1), (2, s2)] S V nc ns := by
  have E := n_E h
  refine j_iast E d7_6_40 c1 c2 c3 ?_
  refine j_iinc E d7_6_41 (by decide) (by decide) 5 rfl (lo1 := [(0, (2, l0)), (1, (2, l1)), (2, (2, l2)), (3, (0, l3)), (4, (0, l4))]) rfl c4 ?_
  refine j_goto E d7_6_44 (t := 12) rfl ?_
  exact j_pick [1, 2, 3, 4, 5, 0] rfl k
theorem t7_6_47 {C : qCx} {G : jG} {S : jS} {V : jH} {nc ns : Nat} {mc ms : Nat} {qf : jS → jH → Prop} (h : x7_6 C G)  (R : j_Rv n_KT 6 C G b_7_6 mc ms qf) (q : qf S V) (hc : nc ≤ mc) (hs : ns ≤ ms) : j_ok n_KT 6 C G 47 [] [] S V nc ns := by
  have E := n_E h
  exact R _ _ _ _ _ _ d7_6_47 q hc hs
/- BalanceCoder$Reader.readSize(LBalanceCoder$Block;)I -/
abbrev b_7_7 : ByteArray := prog_7_method_7_code
def y_7_7 : MethodName := ⟨"BalanceCoder$Reader", "readSize", "(LBalanceCoder$Block;)I"⟩
abbrev x7_7 (C : qCx) (G : jG) : Prop := n_ctx C b_7_7 4 "BalanceCoder$Reader" G.1 G.2.1
def M7_7 (l : Launch) (mc ms : Nat) (p : Int → Int → jS → jH → Prop) (q : Int → Int → jS → jH → Int → jS → jH → Prop) : Prop := j_Met l vwCl n_TL n_NW n_KT y_7_7 (Cond.code y_7_7 b_7_7 4 (some .int) :: n_GW) { frames := 2, cells := mc, slots := ms, locals := 52 } mc ms (fun a S V => ∃ u0 u1 : Int, a = [(2, u0), (2, u1)] ∧ S.1 u0 = 26 ∧ p u0 u1 S V) (fun a S V rs S' V' => ∃ u0 u1 r : Int, a = [(2, u0), (2, u1)] ∧ rs = [(0, r)] ∧ q u0 u1 S V r S' V')
theorem e7_7 {l : Launch} {mc ms : Nat} {p : Int → Int → jS → jH → Prop} {q : Int → Int → jS → jH → Int → jS → jH → Prop} (body : ∀ (C : qCx) (G : jG), x7_7 C G → C.2.2.2.1.frames = 2 ∧ C.2.2.2.1.locals = 52 → C.2.2.2.1.cells = mc ∧ C.2.2.2.1.slots = ms → C.2.1 = l → C.2.2.2.2.2.2.2.2.1.name = "readSize" → ∀ (u0 u1 : Int) (S : jS) (V : jH), S.1 u0 = 26 → p u0 u1 S V → j_Ri n_KT 4 C G b_7_7 mc ms (q u0 u1 S V) → j_ok n_KT 4 C G 0 [(0, (2, u0)), (1, (2, u1))] [] S V 0 0) : M7_7 l mc ms p q := by
  refine j_method (ws' := n_GW) (by decide) rfl ?_ ?_
  · rintro a S V ⟨u0, u1, rfl, -⟩
    exact Nat.le_of_ble_eq_true rfl
  · rintro C G htl hl hrm hm hml ho hts hnm hE a S V ⟨u0, u1, rfl, ht, hp⟩ R
    exact body C G ⟨htl, hm, hml, ho, fun w hw => hts w (List.mem_cons_of_mem _ hw), hE⟩ (by rw [hrm]; exact ⟨rfl, rfl⟩) (by rw [hrm]; exact ⟨rfl, rfl⟩) hl hnm u0 u1 S V ht hp (fun pc lo r S' V' nc ns d q hc hs => R.2.1 rfl pc lo r S' V' nc ns d ⟨u0, u1, r, rfl, rfl, q⟩ hc hs)
theorem d7_7_0 : decode b_7_7 0 = .ok (.aload_n 0, 1) := by decide +kernel
theorem d7_7_1 : decode b_7_7 1 = .ok (.getfield 9, 3) := by decide +kernel
theorem d7_7_4 : decode b_7_7 4 = .ok (.istore_n 2, 1) := by decide +kernel
theorem d7_7_5 : decode b_7_7 5 = .ok (.aload_n 0, 1) := by decide +kernel
theorem d7_7_6 : decode b_7_7 6 = .ok (.aload_n 1, 1) := by decide +kernel
theorem d7_7_7 : decode b_7_7 7 = .ok (.iconst 2, 1) := by decide +kernel
theorem d7_7_8 : decode b_7_7 8 = .ok (.iconst 0, 1) := by decide +kernel
theorem d7_7_9 : decode b_7_7 9 = .ok (.ldc 93, 2) := by decide +kernel
theorem d7_7_11 : decode b_7_7 11 = .ok (.invokevirtual 18, 3) := by decide +kernel
theorem d7_7_14 : decode b_7_7 14 = .ok (.istore_n 3, 1) := by decide +kernel
theorem d7_7_15 : decode b_7_7 15 = .ok (.aload_n 0, 1) := by decide +kernel
theorem d7_7_16 : decode b_7_7 16 = .ok (.getfield 15, 3) := by decide +kernel
theorem d7_7_19 : decode b_7_7 19 = .ok (.ifCond .ge 23, 3) := by decide +kernel
theorem d7_7_22 : decode b_7_7 22 = .ok (.aload_n 1, 1) := by decide +kernel
theorem d7_7_23 : decode b_7_7 23 = .ok (.getfield 58, 3) := by decide +kernel
theorem d7_7_26 : decode b_7_7 26 = .ok (.aload_n 0, 1) := by decide +kernel
theorem d7_7_27 : decode b_7_7 27 = .ok (.getfield 9, 3) := by decide +kernel
theorem d7_7_30 : decode b_7_7 30 = .ok (.isub, 1) := by decide +kernel
theorem d7_7_31 : decode b_7_7 31 = .ok (.iload_n 3, 1) := by decide +kernel
theorem d7_7_32 : decode b_7_7 32 = .ok (.iconst 2, 1) := by decide +kernel
theorem d7_7_33 : decode b_7_7 33 = .ok (.iadd, 1) := by decide +kernel
theorem d7_7_34 : decode b_7_7 34 = .ok (.if_icmp .eq 8, 3) := by decide +kernel
theorem d7_7_37 : decode b_7_7 37 = .ok (.aload_n 0, 1) := by decide +kernel
theorem d7_7_38 : decode b_7_7 38 = .ok (.iload_n 2, 1) := by decide +kernel
theorem d7_7_39 : decode b_7_7 39 = .ok (.putfield 15, 3) := by decide +kernel
theorem d7_7_42 : decode b_7_7 42 = .ok (.iload_n 3, 1) := by decide +kernel
theorem d7_7_43 : decode b_7_7 43 = .ok (.ireturn, 1) := by decide +kernel
theorem K7_7_11 {C : qCx} {G : jG} {mc ms : Nat} {p : Int → Int → Int → Int → Int → jS → jH → Prop} {q : Int → Int → Int → Int → Int → jS → jH → Int → jS → jH → Prop} (h : x7_7 C G) (hrm : C.2.2.2.1.frames = 2 ∧ C.2.2.2.1.locals = 52) (hM : M7_3 C.2.1 mc ms p q) : j_Call C b_7_7 n_KT G.1 G.2.1 4 (.invokevirtual 18) mc ms (fun a S V => ∃ u0 u1 u2 u3 u4 : Int, a = [(2, u0), (2, u1), (0, u2), (0, u3), (0, u4)] ∧ S.1 u0 = 26 ∧ p u0 u1 u2 u3 u4 S V) (fun a S V rs S' V' => ∃ u0 u1 u2 u3 u4 r : Int, a = [(2, u0), (2, u1), (0, u2), (0, u3), (0, u4)] ∧ rs = [(0, r)] ∧ q u0 u1 u2 u3 u4 S V r S' V') := j_callV n_NWk h.2.2.2.2.2 h.1 hM ⟨h.2.1.1, h.2.1.2, h.2.2.1, h.2.2.2.1, h.2.2.2.2.1⟩ ⟨n_CB (y := y_7_3) (bytes := b_7_3) 4 h.2.2.2.2.1 n_w608 n_w605 n_w11 ⟨by decide, by decide, by decide +kernel⟩ rfl rfl ⟨by rw [hrm.1]; exact Nat.le_of_ble_eq_true rfl, by rw [hrm.2]; exact Nat.le_of_ble_eq_true rfl⟩, h.2.2.2.2.1 _ n_w607, h.2.2.2.2.1 _ n_s17⟩ (Cn := RX5) (fun a S V hP => by obtain ⟨u0, u1, u2, u3, u4, rfl, e, -⟩ := hP; exact ⟨u0, _, 5, _, _, TX5, 2, rfl, rfl, by rw [e]; decide, by rw [e]; rfl, rfl⟩)
theorem t7_7_0 {C : qCx} {G : jG} {S : jS} {V : jH} {nc ns : Nat} {l0 l1 : Int} {mc ms : Nat} {pp : Int → Int → Int → Int → Int → jS → jH → Prop} {qq : Int → Int → Int → Int → Int → jS → jH → Int → jS → jH → Prop} (h : x7_7 C G) (hrm : C.2.2.2.1.frames = 2 ∧ C.2.2.2.1.locals = 52) (c1 : S.1 l0 = 26) (hM : M7_3 C.2.1 mc ms pp qq) (hp : pp l0 l1 2 0 65535 S V) (hc : nc + mc ≤ C.2.2.2.1.cells) (hs : ns + ms ≤ C.2.2.2.1.slots) (k : ∀ (r : Int) (S' : jS) (V' : jH), qq l0 l1 2 0 65535 S V r S' V' → j_ok n_KT 4 C G 14 [(0, (2, l0)), (1, (2, l1)), (2, (0, V l0 0))] [(0, r)] S' V' (nc + mc) (ns + ms)) : j_ok n_KT 4 C G 0 [(0, (2, l0)), (1, (2, l1))] [] S V nc ns := by
  have E := n_E h
  refine j_aload_n E d7_7_0 rfl 0 rfl ?_
  refine j_getI (f := 0) (fg5_9 h) d7_7_1 c1 (by decide) rfl rfl ?_
  refine j_istore_n E d7_7_4 rfl (by decide) (lo1 := [(0, (2, l0)), (1, (2, l1))]) rfl ?_
  refine j_aload_n E d7_7_5 rfl 1 rfl ?_
  refine j_aload_n E d7_7_6 rfl 2 rfl ?_
  refine j_iconst E d7_7_7 (by decide) ?_
  refine j_iconst E d7_7_8 (by decide) ?_
  refine j_ldc (n := 65535) (fk5_93 h) rfl d7_7_9 ?_
  refine j_call E (K7_7_11 h hrm hM) d7_7_11 (a := [(2, l0), (2, l1), (0, 2), (0, 0), (0, 65535)]) (sk := []) rfl ⟨l0, l1, 2, 0, 65535, rfl, c1, hp⟩ (Nat.le_of_ble_eq_true rfl) hc hs ?_
  rintro rs S' V' ⟨z0, z1, z2, z3, z4, r, e1, rfl, q⟩
  simp only [List.cons.injEq, Prod.mk.injEq, and_true, true_and] at e1
  obtain ⟨rfl, rfl, rfl, rfl, rfl⟩ := e1
  exact j_pick [1, 2, 0] rfl (k r S' V' q)
theorem t7_7_14 {C : qCx} {G : jG} {S : jS} {V : jH} {nc ns : Nat} {l0 l1 l2 s0 : Int} (h : x7_7 C G) (c1 : S.1 l0 = 26) (k : 0 ≤ V l0 1 → j_ok n_KT 4 C G 42 [(3, (0, s0))] [] S V nc ns) (k' : V l0 1 < 0 → j_ok n_KT 4 C G 22 [(0, (2, l0)), (1, (2, l1)), (2, (0, l2)), (3, (0, s0))] [] S V nc ns) : j_ok n_KT 4 C G 14 [(0, (2, l0)), (1, (2, l1)), (2, (0, l2))] [(0, s0)] S V nc ns := by
  have E := n_E h
  refine j_istore_n E d7_7_14 rfl (by decide) (lo1 := [(0, (2, l0)), (1, (2, l1)), (2, (0, l2))]) rfl ?_
  refine j_aload_n E d7_7_15 rfl 1 rfl ?_
  refine j_getI (f := 1) (fg5_15 h) d7_7_16 c1 (by decide) rfl rfl ?_
  exact j_if_ge E d7_7_19 (t := 42) rfl (fun q => j_pick [0] rfl (k q)) (fun q => j_pick [1, 2, 3, 0] rfl (k' q))
theorem t7_7_22 {C : qCx} {G : jG} {S : jS} {V : jH} {nc ns : Nat} {l0 l1 l2 l3 : Int} (h : x7_7 C G) (c1 : S.1 l1 = 22) (c2 : S.1 l0 = 26) (c3 : -2147483648 ≤ (V l1 1) - (V l0 0) ∧ (V l1 1) - (V l0 0) ≤ 2147483647) (c4 : -2147483648 ≤ l3 + 2 ∧ l3 + 2 ≤ 2147483647) (k : (V l1 1) - (V l0 0) = l3 + 2 → j_ok n_KT 4 C G 42 [(3, (0, l3))] [] S V nc ns) (k' : ¬ (V l1 1) - (V l0 0) = l3 + 2 → j_ok n_KT 4 C G 37 [(0, (2, l0)), (2, (0, l2)), (3, (0, l3))] [] S V nc ns) : j_ok n_KT 4 C G 22 [(0, (2, l0)), (1, (2, l1)), (2, (0, l2)), (3, (0, l3))] [] S V nc ns := by
  have E := n_E h
  refine j_aload_n E d7_7_22 rfl 1 rfl ?_
  refine j_getI (f := 1) (fg5_58 h) d7_7_23 c1 (by decide) rfl rfl ?_
  refine j_aload_n E d7_7_26 rfl 0 rfl ?_
  refine j_getI (f := 0) (fg5_9 h) d7_7_27 c2 (by decide) rfl rfl ?_
  refine j_isub E d7_7_30 c3 ?_
  refine j_iload_n E d7_7_31 rfl 3 rfl ?_
  refine j_iconst E d7_7_32 (by decide) ?_
  refine j_iadd E d7_7_33 c4 ?_
  exact j_icmp_eq E d7_7_34 (t := 42) rfl (fun q => j_pick [3] rfl (k q)) (fun q => j_pick [0, 2, 3] rfl (k' q))
theorem t7_7_37 {C : qCx} {G : jG} {S : jS} {V : jH} {nc ns : Nat} {l0 l2 l3 : Int} (h : x7_7 C G) (c1 : S.1 l0 = 26) (k : j_ok n_KT 4 C G 42 [(3, (0, l3))] [] S (j_up V l0 1 l2) nc ns) : j_ok n_KT 4 C G 37 [(0, (2, l0)), (2, (0, l2)), (3, (0, l3))] [] S V nc ns := by
  have E := n_E h
  refine j_aload_n E d7_7_37 rfl 0 rfl ?_
  refine j_iload_n E d7_7_38 rfl 1 rfl ?_
  refine j_putI (f := 1) (fp5_15 h) (n_hap h 26 5 0 _ rfl) d7_7_39 c1 (by decide) rfl rfl rfl ?_
  exact j_pick [2] rfl k
theorem t7_7_42 {C : qCx} {G : jG} {S : jS} {V : jH} {nc ns : Nat} {l3 : Int} {mc ms : Nat} {qf : Int → jS → jH → Prop} (h : x7_7 C G)  (R : j_Ri n_KT 4 C G b_7_7 mc ms qf) (q : qf l3 S V) (hc : nc ≤ mc) (hs : ns ≤ ms) : j_ok n_KT 4 C G 42 [(3, (0, l3))] [] S V nc ns := by
  have E := n_E h
  refine j_iload_n E d7_7_42 rfl 0 rfl ?_
  exact R _ _ _ _ _ _ _ d7_7_43 q hc hs
/- BalanceCoder$Reader.readSum(LBalanceCoder$Block;I)V -/
abbrev b_7_8 : ByteArray := prog_7_method_8_code
def y_7_8 : MethodName := ⟨"BalanceCoder$Reader", "readSum", "(LBalanceCoder$Block;I)V"⟩
abbrev x7_8 (C : qCx) (G : jG) : Prop := n_ctx C b_7_8 4 "BalanceCoder$Reader" G.1 G.2.1
def M7_8 (l : Launch) (mc ms : Nat) (p : Int → Int → Int → jS → jH → Prop) (q : Int → Int → Int → jS → jH → jS → jH → Prop) : Prop := j_Met l vwCl n_TL n_NW n_KT y_7_8 (Cond.code y_7_8 b_7_8 4 none :: n_GW) { frames := 2, cells := mc, slots := ms, locals := 52 } mc ms (fun a S V => ∃ u0 u1 u2 : Int, a = [(2, u0), (2, u1), (0, u2)] ∧ S.1 u0 = 26 ∧ p u0 u1 u2 S V) (fun a S V rs S' V' => ∃ u0 u1 u2 : Int, a = [(2, u0), (2, u1), (0, u2)] ∧ rs = [] ∧ q u0 u1 u2 S V S' V')
theorem e7_8 {l : Launch} {mc ms : Nat} {p : Int → Int → Int → jS → jH → Prop} {q : Int → Int → Int → jS → jH → jS → jH → Prop} (body : ∀ (C : qCx) (G : jG), x7_8 C G → C.2.2.2.1.frames = 2 ∧ C.2.2.2.1.locals = 52 → C.2.2.2.1.cells = mc ∧ C.2.2.2.1.slots = ms → C.2.1 = l → C.2.2.2.2.2.2.2.2.1.name = "readSum" → ∀ (u0 u1 u2 : Int) (S : jS) (V : jH), S.1 u0 = 26 → p u0 u1 u2 S V → j_Rv n_KT 4 C G b_7_8 mc ms (q u0 u1 u2 S V) → j_ok n_KT 4 C G 0 [(0, (2, u0)), (1, (2, u1)), (2, (0, u2))] [] S V 0 0) : M7_8 l mc ms p q := by
  refine j_method (ws' := n_GW) (by decide) rfl ?_ ?_
  · rintro a S V ⟨u0, u1, u2, rfl, -⟩
    exact Nat.le_of_ble_eq_true rfl
  · rintro C G htl hl hrm hm hml ho hts hnm hE a S V ⟨u0, u1, u2, rfl, ht, hp⟩ R
    exact body C G ⟨htl, hm, hml, ho, fun w hw => hts w (List.mem_cons_of_mem _ hw), hE⟩ (by rw [hrm]; exact ⟨rfl, rfl⟩) (by rw [hrm]; exact ⟨rfl, rfl⟩) hl hnm u0 u1 u2 S V ht hp (fun pc lo S' V' nc ns d q hc hs => R.1 rfl pc lo S' V' nc ns d ⟨u0, u1, u2, rfl, rfl, q⟩ hc hs)
theorem d7_8_0 : decode b_7_8 0 = .ok (.aload_n 0, 1) := by decide +kernel
theorem d7_8_1 : decode b_7_8 1 = .ok (.getfield 15, 3) := by decide +kernel
theorem d7_8_4 : decode b_7_8 4 = .ok (.ifCond .ge 23, 3) := by decide +kernel
theorem d7_8_7 : decode b_7_8 7 = .ok (.aload_n 0, 1) := by decide +kernel
theorem d7_8_8 : decode b_7_8 8 = .ok (.iload_n 2, 1) := by decide +kernel
theorem d7_8_9 : decode b_7_8 9 = .ok (.putfield 9, 3) := by decide +kernel
theorem d7_8_12 : decode b_7_8 12 = .ok (.aload_n 1, 1) := by decide +kernel
theorem d7_8_13 : decode b_7_8 13 = .ok (.iload_n 2, 1) := by decide +kernel
theorem d7_8_14 : decode b_7_8 14 = .ok (.invokevirtual 94, 3) := by decide +kernel
theorem d7_8_17 : decode b_7_8 17 = .ok (.istore_n 3, 1) := by decide +kernel
theorem d7_8_18 : decode b_7_8 18 = .ok (.aload_n 0, 1) := by decide +kernel
theorem d7_8_19 : decode b_7_8 19 = .ok (.aload_n 1, 1) := by decide +kernel
theorem d7_8_20 : decode b_7_8 20 = .ok (.iconst 2, 1) := by decide +kernel
theorem d7_8_21 : decode b_7_8 21 = .ok (.iload_n 3, 1) := by decide +kernel
theorem d7_8_22 : decode b_7_8 22 = .ok (.iload_n 3, 1) := by decide +kernel
theorem d7_8_23 : decode b_7_8 23 = .ok (.invokevirtual 18, 3) := by decide +kernel
theorem d7_8_26 : decode b_7_8 26 = .ok (.pop, 1) := by decide +kernel
theorem d7_8_27 : decode b_7_8 27 = .ok (.return_, 1) := by decide +kernel
theorem K7_8_14 {C : qCx} {G : jG} {mc ms : Nat} {p : Int → Int → jS → jH → Prop} {q : Int → Int → jS → jH → Int → jS → jH → Prop} (h : x7_8 C G) (hrm : C.2.2.2.1.frames = 2 ∧ C.2.2.2.1.locals = 52) (hM : M3_9 C.2.1 mc ms p q) : j_Call C b_7_8 n_KT G.1 G.2.1 4 (.invokevirtual 94) mc ms (fun a S V => ∃ u0 u1 : Int, a = [(2, u0), (0, u1)] ∧ S.1 u0 = 22 ∧ p u0 u1 S V) (fun a S V rs S' V' => ∃ u0 u1 r : Int, a = [(2, u0), (0, u1)] ∧ rs = [(0, r)] ∧ q u0 u1 S V r S' V') := j_callV n_NWk h.2.2.2.2.2 h.1 hM ⟨h.2.1.1, h.2.1.2, h.2.2.1, h.2.2.2.1, h.2.2.2.2.1⟩ ⟨n_CB (y := y_3_9) (bytes := b_3_9) 1 h.2.2.2.2.1 n_w580 n_w636 n_w3 ⟨by decide, by decide, by decide +kernel⟩ rfl rfl ⟨by rw [hrm.1]; exact Nat.le_of_ble_eq_true rfl, by rw [hrm.2]; exact Nat.le_of_ble_eq_true rfl⟩, h.2.2.2.2.1 _ n_w578, h.2.2.2.2.1 _ n_w579⟩ (Cn := RX1) (fun a S V hP => by obtain ⟨u0, u1, rfl, e, -⟩ := hP; exact ⟨u0, _, 1, _, _, TX1, 5, rfl, rfl, by rw [e]; decide, by rw [e]; rfl, rfl⟩)
theorem K7_8_23 {C : qCx} {G : jG} {mc ms : Nat} {p : Int → Int → Int → Int → Int → jS → jH → Prop} {q : Int → Int → Int → Int → Int → jS → jH → Int → jS → jH → Prop} (h : x7_8 C G) (hrm : C.2.2.2.1.frames = 2 ∧ C.2.2.2.1.locals = 52) (hM : M7_3 C.2.1 mc ms p q) : j_Call C b_7_8 n_KT G.1 G.2.1 4 (.invokevirtual 18) mc ms (fun a S V => ∃ u0 u1 u2 u3 u4 : Int, a = [(2, u0), (2, u1), (0, u2), (0, u3), (0, u4)] ∧ S.1 u0 = 26 ∧ p u0 u1 u2 u3 u4 S V) (fun a S V rs S' V' => ∃ u0 u1 u2 u3 u4 r : Int, a = [(2, u0), (2, u1), (0, u2), (0, u3), (0, u4)] ∧ rs = [(0, r)] ∧ q u0 u1 u2 u3 u4 S V r S' V') := j_callV n_NWk h.2.2.2.2.2 h.1 hM ⟨h.2.1.1, h.2.1.2, h.2.2.1, h.2.2.2.1, h.2.2.2.2.1⟩ ⟨n_CB (y := y_7_3) (bytes := b_7_3) 4 h.2.2.2.2.1 n_w608 n_w605 n_w11 ⟨by decide, by decide, by decide +kernel⟩ rfl rfl ⟨by rw [hrm.1]; exact Nat.le_of_ble_eq_true rfl, by rw [hrm.2]; exact Nat.le_of_ble_eq_true rfl⟩, h.2.2.2.2.1 _ n_w607, h.2.2.2.2.1 _ n_s17⟩ (Cn := RX5) (fun a S V hP => by obtain ⟨u0, u1, u2, u3, u4, rfl, e, -⟩ := hP; exact ⟨u0, _, 5, _, _, TX5, 2, rfl, rfl, by rw [e]; decide, by rw [e]; rfl, rfl⟩)
theorem t7_8_0 {C : qCx} {G : jG} {S : jS} {V : jH} {nc ns : Nat} {l0 l1 l2 : Int} (h : x7_8 C G) (c1 : S.1 l0 = 26) (k : 0 ≤ V l0 1 → j_ok n_KT 4 C G 27 [] [] S V nc ns) (k' : V l0 1 < 0 → j_ok n_KT 4 C G 7 [(0, (2, l0)), (1, (2, l1)), (2, (0, l2))] [] S V nc ns) : j_ok n_KT 4 C G 0 [(0, (2, l0)), (1, (2, l1)), (2, (0, l2))] [] S V nc ns := by
  have E := n_E h
  refine j_aload_n E d7_8_0 rfl 0 rfl ?_
  refine j_getI (f := 1) (fg5_15 h) d7_8_1 c1 (by decide) rfl rfl ?_
  exact j_if_ge E d7_8_4 (t := 27) rfl (fun q => j_pick [] rfl (k q)) (fun q => j_pick [0, 1, 2] rfl (k' q))
theorem t7_8_7 {C : qCx} {G : jG} {S : jS} {V : jH} {nc ns : Nat} {l0 l1 l2 : Int} {mc ms : Nat} {pp : Int → Int → jS → jH → Prop} {qq : Int → Int → jS → jH → Int → jS → jH → Prop} (h : x7_8 C G) (hrm : C.2.2.2.1.frames = 2 ∧ C.2.2.2.1.locals = 52) (c1 : S.1 l0 = 26) (c2 : S.1 l1 = 22) (hM : M3_9 C.2.1 mc ms pp qq) (hp : pp l1 l2 S (j_up V l0 0 l2)) (hc : nc + mc ≤ C.2.2.2.1.cells) (hs : ns + ms ≤ C.2.2.2.1.slots) (k : ∀ (r : Int) (S' : jS) (V' : jH), qq l1 l2 S (j_up V l0 0 l2) r S' V' → j_ok n_KT 4 C G 17 [(0, (2, l0)), (1, (2, l1))] [(0, r)] S' V' (nc + mc) (ns + ms)) : j_ok n_KT 4 C G 7 [(0, (2, l0)), (1, (2, l1)), (2, (0, l2))] [] S V nc ns := by
  have E := n_E h
  refine j_aload_n E d7_8_7 rfl 0 rfl ?_
  refine j_iload_n E d7_8_8 rfl 2 rfl ?_
  refine j_putI (f := 0) (fp5_9 h) (n_hap h 26 5 0 _ rfl) d7_8_9 c1 (by decide) rfl rfl rfl ?_
  refine j_aload_n E d7_8_12 rfl 1 rfl ?_
  refine j_iload_n E d7_8_13 rfl 2 rfl ?_
  refine j_call E (K7_8_14 h hrm hM) d7_8_14 (a := [(2, l1), (0, l2)]) (sk := []) rfl ⟨l1, l2, rfl, c2, hp⟩ (Nat.le_of_ble_eq_true rfl) hc hs ?_
  rintro rs S' V' ⟨z0, z1, r, e1, rfl, q⟩
  simp only [List.cons.injEq, Prod.mk.injEq, and_true, true_and] at e1
  obtain ⟨rfl, rfl⟩ := e1
  exact j_pick [0, 1] rfl (k r S' V' q)
theorem t7_8_17 {C : qCx} {G : jG} {S : jS} {V : jH} {nc ns : Nat} {l0 l1 s0 : Int} {mc ms : Nat} {pp : Int → Int → Int → Int → Int → jS → jH → Prop} {qq : Int → Int → Int → Int → Int → jS → jH → Int → jS → jH → Prop} (h : x7_8 C G) (hrm : C.2.2.2.1.frames = 2 ∧ C.2.2.2.1.locals = 52) (c1 : S.1 l0 = 26) (hM : M7_3 C.2.1 mc ms pp qq) (hp : pp l0 l1 2 s0 s0 S V) (hc : nc + mc ≤ C.2.2.2.1.cells) (hs : ns + ms ≤ C.2.2.2.1.slots) (k : ∀ (r : Int) (S' : jS) (V' : jH), qq l0 l1 2 s0 s0 S V r S' V' → j_ok n_KT 4 C G 26 [] [(0, r)] S' V' (nc + mc) (ns + ms)) : j_ok n_KT 4 C G 17 [(0, (2, l0)), (1, (2, l1))] [(0, s0)] S V nc ns := by
  have E := n_E h
  refine j_istore_n E d7_8_17 rfl (by decide) (lo1 := [(0, (2, l0)), (1, (2, l1))]) rfl ?_
  refine j_aload_n E d7_8_18 rfl 1 rfl ?_
  refine j_aload_n E d7_8_19 rfl 2 rfl ?_
  refine j_iconst E d7_8_20 (by decide) ?_
  refine j_iload_n E d7_8_21 rfl 0 rfl ?_
  refine j_iload_n E d7_8_22 rfl 0 rfl ?_
  refine j_call E (K7_8_23 h hrm hM) d7_8_23 (a := [(2, l0), (2, l1), (0, 2), (0, s0), (0, s0)]) (sk := []) rfl ⟨l0, l1, 2, s0, s0, rfl, c1, hp⟩ (Nat.le_of_ble_eq_true rfl) hc hs ?_
  rintro rs S' V' ⟨z0, z1, z2, z3, z4, r, e1, rfl, q⟩
  simp only [List.cons.injEq, Prod.mk.injEq, and_true, true_and] at e1
  obtain ⟨rfl, rfl, rfl, rfl, rfl⟩ := e1
  exact j_pick [] rfl (k r S' V' q)
theorem t7_8_26 {C : qCx} {G : jG} {S : jS} {V : jH} {nc ns : Nat} {s0 : Int} (h : x7_8 C G)  (k : j_ok n_KT 4 C G 27 [] [] S V nc ns) : j_ok n_KT 4 C G 26 [] [(0, s0)] S V nc ns := by
  have E := n_E h
  refine j_pop E d7_8_26 rfl ?_
  exact j_pick [] rfl k
theorem t7_8_27 {C : qCx} {G : jG} {S : jS} {V : jH} {nc ns : Nat} {mc ms : Nat} {qf : jS → jH → Prop} (h : x7_8 C G)  (R : j_Rv n_KT 4 C G b_7_8 mc ms qf) (q : qf S V) (hc : nc ≤ mc) (hs : ns ≤ ms) : j_ok n_KT 4 C G 27 [] [] S V nc ns := by
  have E := n_E h
  exact R _ _ _ _ _ _ d7_8_27 q hc hs
/- BalanceCoder$Deal.signAt(I)I -/
abbrev b_4_13 : ByteArray := prog_4_method_13_code
def y_4_13 : MethodName := ⟨"BalanceCoder$Deal", "signAt", "(I)I"⟩
abbrev x4_13 (C : qCx) (G : jG) : Prop := n_ctx C b_4_13 4 "BalanceCoder$Deal" G.1 G.2.1
def M4_13 (l : Launch) (mc ms : Nat) (p : Int → Int → jS → jH → Prop) (q : Int → Int → jS → jH → Int → jS → jH → Prop) : Prop := j_Met l vwCl n_TL n_NW n_KT y_4_13 (Cond.code y_4_13 b_4_13 4 (some .int) :: n_GW) { frames := 1, cells := mc, slots := ms, locals := 26 } mc ms (fun a S V => ∃ u0 u1 : Int, a = [(2, u0), (0, u1)] ∧ S.1 u0 = 23 ∧ p u0 u1 S V) (fun a S V rs S' V' => ∃ u0 u1 r : Int, a = [(2, u0), (0, u1)] ∧ rs = [(0, r)] ∧ q u0 u1 S V r S' V')
theorem e4_13 {l : Launch} {mc ms : Nat} {p : Int → Int → jS → jH → Prop} {q : Int → Int → jS → jH → Int → jS → jH → Prop} (body : ∀ (C : qCx) (G : jG), x4_13 C G → C.2.2.2.1.frames = 1 ∧ C.2.2.2.1.locals = 26 → C.2.2.2.1.cells = mc ∧ C.2.2.2.1.slots = ms → C.2.1 = l → C.2.2.2.2.2.2.2.2.1.name = "signAt" → ∀ (u0 u1 : Int) (S : jS) (V : jH), S.1 u0 = 23 → p u0 u1 S V → j_Ri n_KT 4 C G b_4_13 mc ms (q u0 u1 S V) → j_ok n_KT 4 C G 0 [(0, (2, u0)), (1, (0, u1))] [] S V 0 0) : M4_13 l mc ms p q := by
  refine j_method (ws' := n_GW) (by decide) rfl ?_ ?_
  · rintro a S V ⟨u0, u1, rfl, -⟩
    exact Nat.le_of_ble_eq_true rfl
  · rintro C G htl hl hrm hm hml ho hts hnm hE a S V ⟨u0, u1, rfl, ht, hp⟩ R
    exact body C G ⟨htl, hm, hml, ho, fun w hw => hts w (List.mem_cons_of_mem _ hw), hE⟩ (by rw [hrm]; exact ⟨rfl, rfl⟩) (by rw [hrm]; exact ⟨rfl, rfl⟩) hl hnm u0 u1 S V ht hp (fun pc lo r S' V' nc ns d q hc hs => R.2.1 rfl pc lo r S' V' nc ns d ⟨u0, u1, r, rfl, rfl, q⟩ hc hs)
theorem d4_13_0 : decode b_4_13 0 = .ok (.iconst 0, 1) := by decide +kernel
theorem d4_13_1 : decode b_4_13 1 = .ok (.istore_n 2, 1) := by decide +kernel
theorem d4_13_2 : decode b_4_13 2 = .ok (.sipush 128, 3) := by decide +kernel
theorem d4_13_5 : decode b_4_13 5 = .ok (.istore_n 3, 1) := by decide +kernel
theorem d4_13_6 : decode b_4_13 6 = .ok (.iload_n 3, 1) := by decide +kernel
theorem d4_13_7 : decode b_4_13 7 = .ok (.ifCond .le 26, 3) := by decide +kernel
theorem d4_13_10 : decode b_4_13 10 = .ok (.aload_n 0, 1) := by decide +kernel
theorem d4_13_11 : decode b_4_13 11 = .ok (.getfield 9, 3) := by decide +kernel
theorem d4_13_14 : decode b_4_13 14 = .ok (.iload_n 2, 1) := by decide +kernel
theorem d4_13_15 : decode b_4_13 15 = .ok (.iload_n 3, 1) := by decide +kernel
theorem d4_13_16 : decode b_4_13 16 = .ok (.iadd, 1) := by decide +kernel
theorem d4_13_17 : decode b_4_13 17 = .ok (.iaload, 1) := by decide +kernel
theorem d4_13_18 : decode b_4_13 18 = .ok (.iload_n 1, 1) := by decide +kernel
theorem d4_13_19 : decode b_4_13 19 = .ok (.if_icmp .gt 7, 3) := by decide +kernel
theorem d4_13_22 : decode b_4_13 22 = .ok (.iload_n 2, 1) := by decide +kernel
theorem d4_13_23 : decode b_4_13 23 = .ok (.iload_n 3, 1) := by decide +kernel
theorem d4_13_24 : decode b_4_13 24 = .ok (.iadd, 1) := by decide +kernel
theorem d4_13_25 : decode b_4_13 25 = .ok (.istore_n 2, 1) := by decide +kernel
theorem d4_13_26 : decode b_4_13 26 = .ok (.iload_n 3, 1) := by decide +kernel
theorem d4_13_27 : decode b_4_13 27 = .ok (.iconst 1, 1) := by decide +kernel
theorem d4_13_28 : decode b_4_13 28 = .ok (.ishr, 1) := by decide +kernel
theorem d4_13_29 : decode b_4_13 29 = .ok (.istore_n 3, 1) := by decide +kernel
theorem d4_13_30 : decode b_4_13 30 = .ok (.goto (-24), 3) := by decide +kernel
theorem d4_13_33 : decode b_4_13 33 = .ok (.iload_n 2, 1) := by decide +kernel
theorem d4_13_34 : decode b_4_13 34 = .ok (.ireturn, 1) := by decide +kernel
theorem t4_13_0 {C : qCx} {G : jG} {S : jS} {V : jH} {nc ns : Nat} {l0 l1 : Int} (h : x4_13 C G)  (k : j_ok n_KT 4 C G 6 [(0, (2, l0)), (1, (0, l1)), (2, (0, 0)), (3, (0, 128))] [] S V nc ns) : j_ok n_KT 4 C G 0 [(0, (2, l0)), (1, (0, l1))] [] S V nc ns := by
  have E := n_E h
  refine j_iconst E d4_13_0 (by decide) ?_
  refine j_istore_n E d4_13_1 rfl (by decide) (lo1 := [(0, (2, l0)), (1, (0, l1))]) rfl ?_
  refine j_sipush E d4_13_2 (by decide) ?_
  refine j_istore_n E d4_13_5 rfl (by decide) (lo1 := [(2, (0, 0)), (0, (2, l0)), (1, (0, l1))]) rfl ?_
  exact j_pick [2, 3, 1, 0] rfl k
theorem t4_13_6 {C : qCx} {G : jG} {S : jS} {V : jH} {nc ns : Nat} {l0 l1 l2 l3 : Int} (h : x4_13 C G)  (k : l3 ≤ 0 → j_ok n_KT 4 C G 33 [(2, (0, l2))] [] S V nc ns) (k' : 0 < l3 → j_ok n_KT 4 C G 10 [(0, (2, l0)), (1, (0, l1)), (2, (0, l2)), (3, (0, l3))] [] S V nc ns) : j_ok n_KT 4 C G 6 [(0, (2, l0)), (1, (0, l1)), (2, (0, l2)), (3, (0, l3))] [] S V nc ns := by
  have E := n_E h
  refine j_iload_n E d4_13_6 rfl 3 rfl ?_
  exact j_if_le E d4_13_7 (t := 33) rfl (fun q => j_pick [2] rfl (k q)) (fun q => j_pick [0, 1, 2, 3] rfl (k' q))
theorem t4_13_10 {C : qCx} {G : jG} {S : jS} {V : jH} {nc ns : Nat} {l0 l1 l2 l3 : Int} (h : x4_13 C G) (L : j_L S) (c1 : S.1 l0 = 23) (c2 : -2147483648 ≤ l2 + l3 ∧ l2 + l3 ≤ 2147483647) (c3 : 0 ≤ l2 + l3) (c4 : l2 + l3 < 257) (k : l1 < V (l0 + 1) (l2 + l3) → j_ok n_KT 4 C G 26 [(0, (2, l0)), (1, (0, l1)), (2, (0, l2)), (3, (0, l3))] [] S V nc ns) (k' : V (l0 + 1) (l2 + l3) ≤ l1 → j_ok n_KT 4 C G 22 [(0, (2, l0)), (1, (0, l1)), (2, (0, l2)), (3, (0, l3))] [] S V nc ns) : j_ok n_KT 4 C G 10 [(0, (2, l0)), (1, (0, l1)), (2, (0, l2)), (3, (0, l3))] [] S V nc ns := by
  have E := n_E h
  refine j_aload_n E d4_13_10 rfl 0 rfl ?_
  refine j_getS (f := 0) (x := l0 + 1) (fg2_9 h) d4_13_11 c1 (by decide) rfl rfl ((L2_0 L c1).trans (by omega)) ?_
  refine j_iload_n E d4_13_14 rfl 2 rfl ?_
  refine j_iload_n E d4_13_15 rfl 3 rfl ?_
  refine j_iadd E d4_13_16 c2 ?_
  refine j_iald E d4_13_17 (j_arr_of (show S.1 (l0 + 1) = 2 from (by have q := L2_0k L c1; rw [show l0 + 1 = l0 + 1 by omega]; exact q)) (by decide) rfl) c3 c4 ?_
  refine j_iload_n E d4_13_18 rfl 1 rfl ?_
  exact j_icmp_gt E d4_13_19 (t := 26) rfl (fun q => j_pick [0, 1, 2, 3] rfl (k q)) (fun q => j_pick [0, 1, 2, 3] rfl (k' q))
theorem t4_13_22 {C : qCx} {G : jG} {S : jS} {V : jH} {nc ns : Nat} {l0 l1 l2 l3 : Int} (h : x4_13 C G) (c1 : -2147483648 ≤ l2 + l3 ∧ l2 + l3 ≤ 2147483647) (k : j_ok n_KT 4 C G 26 [(0, (2, l0)), (1, (0, l1)), (2, (0, l2 + l3)), (3, (0, l3))] [] S V nc ns) : j_ok n_KT 4 C G 22 [(0, (2, l0)), (1, (0, l1)), (2, (0, l2)), (3, (0, l3))] [] S V nc ns := by
  have E := n_E h
  refine j_iload_n E d4_13_22 rfl 2 rfl ?_
  refine j_iload_n E d4_13_23 rfl 3 rfl ?_
  refine j_iadd E d4_13_24 c1 ?_
  refine j_istore_n E d4_13_25 rfl (by decide) (lo1 := [(0, (2, l0)), (1, (0, l1)), (3, (0, l3))]) rfl ?_
  exact j_pick [1, 2, 0, 3] rfl k
theorem t4_13_26 {C : qCx} {G : jG} {S : jS} {V : jH} {nc ns : Nat} {l0 l1 l2 l3 : Int} (h : x4_13 C G) (c1 : 0 ≤ l3) (k : j_ok n_KT 4 C G 6 [(0, (2, l0)), (1, (0, l1)), (2, (0, l2)), (3, (0, l3 / 2 ^ (1 : Int).toNat))] [] S V nc ns) : j_ok n_KT 4 C G 26 [(0, (2, l0)), (1, (0, l1)), (2, (0, l2)), (3, (0, l3))] [] S V nc ns := by
  have E := n_E h
  refine j_iload_n E d4_13_26 rfl 3 rfl ?_
  refine j_iconst E d4_13_27 (by decide) ?_
  refine j_ishr E d4_13_28 c1 (by decide) (by decide) ?_
  refine j_istore_n E d4_13_29 rfl (by decide) (lo1 := [(0, (2, l0)), (1, (0, l1)), (2, (0, l2))]) rfl ?_
  refine j_goto E d4_13_30 (t := 6) rfl ?_
  exact j_pick [1, 2, 3, 0] rfl k
theorem t4_13_33 {C : qCx} {G : jG} {S : jS} {V : jH} {nc ns : Nat} {l2 : Int} {mc ms : Nat} {qf : Int → jS → jH → Prop} (h : x4_13 C G)  (R : j_Ri n_KT 4 C G b_4_13 mc ms qf) (q : qf l2 S V) (hc : nc ≤ mc) (hs : ns ≤ ms) : j_ok n_KT 4 C G 33 [(2, (0, l2))] [] S V nc ns := by
  have E := n_E h
  refine j_iload_n E d4_13_33 rfl 0 rfl ?_
  exact R _ _ _ _ _ _ _ d4_13_34 q hc hs
/- BalanceCoder$Bench.takeSign(IILBalanceCoder$Block;I)Z -/
abbrev b_2_8 : ByteArray := prog_2_method_8_code
def y_2_8 : MethodName := ⟨"BalanceCoder$Bench", "takeSign", "(IILBalanceCoder$Block;I)Z"⟩
abbrev x2_8 (C : qCx) (G : jG) : Prop := n_ctx C b_2_8 11 "BalanceCoder$Bench" G.1 G.2.1
def M2_8 (l : Launch) (mc ms : Nat) (p : Int → Int → Int → Int → Int → jS → jH → Prop) (q : Int → Int → Int → Int → Int → jS → jH → Int → jS → jH → Prop) : Prop := j_Met l vwCl n_TL n_NW n_KT y_2_8 (Cond.code y_2_8 b_2_8 11 (some .boolean) :: n_GW) { frames := 4, cells := mc, slots := ms, locals := 96 } mc ms (fun a S V => ∃ u0 u1 u2 u3 u4 : Int, a = [(2, u0), (0, u1), (0, u2), (2, u3), (0, u4)] ∧ S.1 u0 = 21 ∧ p u0 u1 u2 u3 u4 S V) (fun a S V rs S' V' => ∃ u0 u1 u2 u3 u4 r : Int, a = [(2, u0), (0, u1), (0, u2), (2, u3), (0, u4)] ∧ rs = [(0, r)] ∧ q u0 u1 u2 u3 u4 S V r S' V')
theorem e2_8 {l : Launch} {mc ms : Nat} {p : Int → Int → Int → Int → Int → jS → jH → Prop} {q : Int → Int → Int → Int → Int → jS → jH → Int → jS → jH → Prop} (body : ∀ (C : qCx) (G : jG), x2_8 C G → C.2.2.2.1.frames = 4 ∧ C.2.2.2.1.locals = 96 → C.2.2.2.1.cells = mc ∧ C.2.2.2.1.slots = ms → C.2.1 = l → C.2.2.2.2.2.2.2.2.1.name = "takeSign" → ∀ (u0 u1 u2 u3 u4 : Int) (S : jS) (V : jH), S.1 u0 = 21 → p u0 u1 u2 u3 u4 S V → j_Rz n_KT 11 C G b_2_8 mc ms (q u0 u1 u2 u3 u4 S V) → j_ok n_KT 11 C G 0 [(0, (2, u0)), (1, (0, u1)), (2, (0, u2)), (3, (2, u3)), (4, (0, u4))] [] S V 0 0) : M2_8 l mc ms p q := by
  refine j_method (ws' := n_GW) (by decide) rfl ?_ ?_
  · rintro a S V ⟨u0, u1, u2, u3, u4, rfl, -⟩
    exact Nat.le_of_ble_eq_true rfl
  · rintro C G htl hl hrm hm hml ho hts hnm hE a S V ⟨u0, u1, u2, u3, u4, rfl, ht, hp⟩ R
    exact body C G ⟨htl, hm, hml, ho, fun w hw => hts w (List.mem_cons_of_mem _ hw), hE⟩ (by rw [hrm]; exact ⟨rfl, rfl⟩) (by rw [hrm]; exact ⟨rfl, rfl⟩) hl hnm u0 u1 u2 u3 u4 S V ht hp (fun pc lo r S' V' nc ns d z q hc hs => R.2.2.1 rfl pc lo r S' V' nc ns d z ⟨u0, u1, u2, u3, u4, r, rfl, rfl, q⟩ hc hs)
theorem d2_8_0 : decode b_2_8 0 = .ok (.aload_n 0, 1) := by decide +kernel
theorem d2_8_1 : decode b_2_8 1 = .ok (.getfield 12, 3) := by decide +kernel
theorem d2_8_4 : decode b_2_8 4 = .ok (.invokevirtual 104, 3) := by decide +kernel
theorem d2_8_7 : decode b_2_8 7 = .ok (.istore 5, 2) := by decide +kernel
theorem d2_8_9 : decode b_2_8 9 = .ok (.aload_n 0, 1) := by decide +kernel
theorem d2_8_10 : decode b_2_8 10 = .ok (.getfield 32, 3) := by decide +kernel
theorem d2_8_13 : decode b_2_8 13 = .ok (.iload_n 2, 1) := by decide +kernel
theorem d2_8_14 : decode b_2_8 14 = .ok (.iaload, 1) := by decide +kernel
theorem d2_8_15 : decode b_2_8 15 = .ok (.iload 5, 2) := by decide +kernel
theorem d2_8_17 : decode b_2_8 17 = .ok (.irem, 1) := by decide +kernel
theorem d2_8_18 : decode b_2_8 18 = .ok (.istore 6, 2) := by decide +kernel
theorem d2_8_20 : decode b_2_8 20 = .ok (.aload_n 0, 1) := by decide +kernel
theorem d2_8_21 : decode b_2_8 21 = .ok (.getfield 21, 3) := by decide +kernel
theorem d2_8_24 : decode b_2_8 24 = .ok (.aload_n 0, 1) := by decide +kernel
theorem d2_8_25 : decode b_2_8 25 = .ok (.getfield 12, 3) := by decide +kernel
theorem d2_8_28 : decode b_2_8 28 = .ok (.invokevirtual 56, 3) := by decide +kernel
theorem d2_8_31 : decode b_2_8 31 = .ok (.astore 7, 2) := by decide +kernel
theorem d2_8_33 : decode b_2_8 33 = .ok (.aload 7, 2) := by decide +kernel
theorem d2_8_35 : decode b_2_8 35 = .ok (.iload 6, 2) := by decide +kernel
theorem d2_8_37 : decode b_2_8 37 = .ok (.invokevirtual 108, 3) := by decide +kernel
theorem d2_8_40 : decode b_2_8 40 = .ok (.istore 8, 2) := by decide +kernel
theorem d2_8_42 : decode b_2_8 42 = .ok (.aload_n 0, 1) := by decide +kernel
theorem d2_8_43 : decode b_2_8 43 = .ok (.iload_n 1, 1) := by decide +kernel
theorem d2_8_44 : decode b_2_8 44 = .ok (.iload 8, 2) := by decide +kernel
theorem d2_8_46 : decode b_2_8 46 = .ok (.aload 7, 2) := by decide +kernel
theorem d2_8_48 : decode b_2_8 48 = .ok (.invokevirtual 60, 3) := by decide +kernel
theorem d2_8_51 : decode b_2_8 51 = .ok (.aload_n 0, 1) := by decide +kernel
theorem d2_8_52 : decode b_2_8 52 = .ok (.getfield 28, 3) := by decide +kernel
theorem d2_8_55 : decode b_2_8 55 = .ok (.getfield 68, 3) := by decide +kernel
theorem d2_8_58 : decode b_2_8 58 = .ok (.iload_n 1, 1) := by decide +kernel
theorem d2_8_59 : decode b_2_8 59 = .ok (.iaload, 1) := by decide +kernel
theorem d2_8_60 : decode b_2_8 60 = .ok (.aload_n 0, 1) := by decide +kernel
theorem d2_8_61 : decode b_2_8 61 = .ok (.getfield 32, 3) := by decide +kernel
theorem d2_8_64 : decode b_2_8 64 = .ok (.iload_n 2, 1) := by decide +kernel
theorem d2_8_65 : decode b_2_8 65 = .ok (.iaload, 1) := by decide +kernel
theorem d2_8_66 : decode b_2_8 66 = .ok (.iload 5, 2) := by decide +kernel
theorem d2_8_68 : decode b_2_8 68 = .ok (.idiv, 1) := by decide +kernel
theorem d2_8_69 : decode b_2_8 69 = .ok (.imul, 1) := by decide +kernel
theorem d2_8_70 : decode b_2_8 70 = .ok (.iload 6, 2) := by decide +kernel
theorem d2_8_72 : decode b_2_8 72 = .ok (.iadd, 1) := by decide +kernel
theorem d2_8_73 : decode b_2_8 73 = .ok (.aload_n 0, 1) := by decide +kernel
theorem d2_8_74 : decode b_2_8 74 = .ok (.getfield 28, 3) := by decide +kernel
theorem d2_8_77 : decode b_2_8 77 = .ok (.getfield 78, 3) := by decide +kernel
theorem d2_8_80 : decode b_2_8 80 = .ok (.iload_n 1, 1) := by decide +kernel
theorem d2_8_81 : decode b_2_8 81 = .ok (.iaload, 1) := by decide +kernel
theorem d2_8_82 : decode b_2_8 82 = .ok (.isub, 1) := by decide +kernel
theorem d2_8_83 : decode b_2_8 83 = .ok (.istore 9, 2) := by decide +kernel
theorem d2_8_85 : decode b_2_8 85 = .ok (.iconst 0, 1) := by decide +kernel
theorem d2_8_86 : decode b_2_8 86 = .ok (.istore 10, 2) := by decide +kernel
theorem d2_8_88 : decode b_2_8 88 = .ok (.iload 10, 2) := by decide +kernel
theorem d2_8_90 : decode b_2_8 90 = .ok (.iconst 2, 1) := by decide +kernel
theorem d2_8_91 : decode b_2_8 91 = .ok (.if_icmp .ge 71, 3) := by decide +kernel
theorem d2_8_94 : decode b_2_8 94 = .ok (.iload 9, 2) := by decide +kernel
theorem d2_8_96 : decode b_2_8 96 = .ok (.iload 5, 2) := by decide +kernel
theorem d2_8_98 : decode b_2_8 98 = .ok (.if_icmp .ge 64, 3) := by decide +kernel
theorem d2_8_101 : decode b_2_8 101 = .ok (.aload_n 0, 1) := by decide +kernel
theorem d2_8_102 : decode b_2_8 102 = .ok (.getfield 39, 3) := by decide +kernel
theorem d2_8_105 : decode b_2_8 105 = .ok (.iconst 1, 1) := by decide +kernel
theorem d2_8_106 : decode b_2_8 106 = .ok (.if_icmp .lt 17, 3) := by decide +kernel
theorem d2_8_109 : decode b_2_8 109 = .ok (.iload 4, 2) := by decide +kernel
theorem d2_8_111 : decode b_2_8 111 = .ok (.aload_n 0, 1) := by decide +kernel
theorem d2_8_112 : decode b_2_8 112 = .ok (.getfield 39, 3) := by decide +kernel
theorem d2_8_115 : decode b_2_8 115 = .ok (.iadd, 1) := by decide +kernel
theorem d2_8_116 : decode b_2_8 116 = .ok (.aload_n 3, 1) := by decide +kernel
theorem d2_8_117 : decode b_2_8 117 = .ok (.getfield 111, 3) := by decide +kernel
theorem d2_8_120 : decode b_2_8 120 = .ok (.if_icmp .le 5, 3) := by decide +kernel
theorem d2_8_123 : decode b_2_8 123 = .ok (.iconst 0, 1) := by decide +kernel
theorem d2_8_124 : decode b_2_8 124 = .ok (.ireturn, 1) := by decide +kernel
theorem d2_8_125 : decode b_2_8 125 = .ok (.aload_n 0, 1) := by decide +kernel
theorem d2_8_126 : decode b_2_8 126 = .ok (.dup, 1) := by decide +kernel
theorem d2_8_127 : decode b_2_8 127 = .ok (.getfield 39, 3) := by decide +kernel
theorem d2_8_130 : decode b_2_8 130 = .ok (.iconst 1, 1) := by decide +kernel
theorem d2_8_131 : decode b_2_8 131 = .ok (.isub, 1) := by decide +kernel
theorem d2_8_132 : decode b_2_8 132 = .ok (.putfield 39, 3) := by decide +kernel
theorem d2_8_135 : decode b_2_8 135 = .ok (.sipush 256, 3) := by decide +kernel
theorem d2_8_138 : decode b_2_8 138 = .ok (.iload 9, 2) := by decide +kernel
theorem d2_8_140 : decode b_2_8 140 = .ok (.imul, 1) := by decide +kernel
theorem d2_8_141 : decode b_2_8 141 = .ok (.aload_n 3, 1) := by decide +kernel
theorem d2_8_142 : decode b_2_8 142 = .ok (.getfield 116, 3) := by decide +kernel
theorem d2_8_145 : decode b_2_8 145 = .ok (.iload 4, 2) := by decide +kernel
theorem d2_8_147 : decode b_2_8 147 = .ok (.aload_n 0, 1) := by decide +kernel
theorem d2_8_148 : decode b_2_8 148 = .ok (.getfield 39, 3) := by decide +kernel
theorem d2_8_151 : decode b_2_8 151 = .ok (.iadd, 1) := by decide +kernel
theorem d2_8_152 : decode b_2_8 152 = .ok (.iaload, 1) := by decide +kernel
theorem d2_8_153 : decode b_2_8 153 = .ok (.iadd, 1) := by decide +kernel
theorem d2_8_154 : decode b_2_8 154 = .ok (.istore 9, 2) := by decide +kernel
theorem d2_8_156 : decode b_2_8 156 = .ok (.iinc 10 1, 3) := by decide +kernel
theorem d2_8_159 : decode b_2_8 159 = .ok (.goto (-71), 3) := by decide +kernel
theorem d2_8_162 : decode b_2_8 162 = .ok (.aload_n 0, 1) := by decide +kernel
theorem d2_8_163 : decode b_2_8 163 = .ok (.getfield 32, 3) := by decide +kernel
theorem d2_8_166 : decode b_2_8 166 = .ok (.iload_n 2, 1) := by decide +kernel
theorem d2_8_167 : decode b_2_8 167 = .ok (.iload 9, 2) := by decide +kernel
theorem d2_8_169 : decode b_2_8 169 = .ok (.iastore, 1) := by decide +kernel
theorem d2_8_170 : decode b_2_8 170 = .ok (.aload_n 0, 1) := by decide +kernel
theorem d2_8_171 : decode b_2_8 171 = .ok (.getfield 28, 3) := by decide +kernel
theorem d2_8_174 : decode b_2_8 174 = .ok (.getfield 88, 3) := by decide +kernel
theorem d2_8_177 : decode b_2_8 177 = .ok (.iload_n 1, 1) := by decide +kernel
theorem d2_8_178 : decode b_2_8 178 = .ok (.iload 9, 2) := by decide +kernel
theorem d2_8_180 : decode b_2_8 180 = .ok (.iastore, 1) := by decide +kernel
theorem d2_8_181 : decode b_2_8 181 = .ok (.aload_n 0, 1) := by decide +kernel
theorem d2_8_182 : decode b_2_8 182 = .ok (.getfield 28, 3) := by decide +kernel
theorem d2_8_185 : decode b_2_8 185 = .ok (.getfield 89, 3) := by decide +kernel
theorem d2_8_188 : decode b_2_8 188 = .ok (.iload_n 1, 1) := by decide +kernel
theorem d2_8_189 : decode b_2_8 189 = .ok (.aload_n 0, 1) := by decide +kernel
theorem d2_8_190 : decode b_2_8 190 = .ok (.getfield 39, 3) := by decide +kernel
theorem d2_8_193 : decode b_2_8 193 = .ok (.iastore, 1) := by decide +kernel
theorem d2_8_194 : decode b_2_8 194 = .ok (.aload_n 0, 1) := by decide +kernel
theorem d2_8_195 : decode b_2_8 195 = .ok (.getfield 21, 3) := by decide +kernel
theorem d2_8_198 : decode b_2_8 198 = .ok (.aload_n 0, 1) := by decide +kernel
theorem d2_8_199 : decode b_2_8 199 = .ok (.getfield 12, 3) := by decide +kernel
theorem d2_8_202 : decode b_2_8 202 = .ok (.iload 8, 2) := by decide +kernel
theorem d2_8_204 : decode b_2_8 204 = .ok (.invokevirtual 64, 3) := by decide +kernel
theorem d2_8_207 : decode b_2_8 207 = .ok (.iconst 1, 1) := by decide +kernel
theorem d2_8_208 : decode b_2_8 208 = .ok (.ireturn, 1) := by decide +kernel
theorem K2_8_4 {C : qCx} {G : jG} {mc ms : Nat} {p : Int → jS → jH → Prop} {q : Int → jS → jH → Int → jS → jH → Prop} (h : x2_8 C G) (hrm : C.2.2.2.1.frames = 4 ∧ C.2.2.2.1.locals = 96) (hM : M10_4 C.2.1 mc ms p q) : j_Call C b_2_8 n_KT G.1 G.2.1 11 (.invokevirtual 104) mc ms (fun a S V => ∃ u0 : Int, a = [(2, u0)] ∧ S.1 u0 = 29 ∧ p u0 S V) (fun a S V rs S' V' => ∃ u0 r : Int, a = [(2, u0)] ∧ rs = [(0, r)] ∧ q u0 S V r S' V') := j_callV n_NWk h.2.2.2.2.2 h.1 hM ⟨h.2.1.1, h.2.1.2, h.2.2.1, h.2.2.2.1, h.2.2.2.2.1⟩ ⟨n_CB (y := y_10_4) (bytes := b_10_4) 0 h.2.2.2.2.1 n_w348 n_w645 n_w7 ⟨by decide, by decide, by decide +kernel⟩ rfl rfl ⟨by rw [hrm.1]; exact Nat.le_of_ble_eq_true rfl, by rw [hrm.2]; exact Nat.le_of_ble_eq_true rfl⟩, h.2.2.2.2.1 _ n_w346, h.2.2.2.2.1 _ n_w347⟩ (Cn := RX8) (fun a S V hP => by obtain ⟨u0, rfl, e, -⟩ := hP; exact ⟨u0, _, 8, _, _, TX8, 3, rfl, rfl, by rw [e]; decide, by rw [e]; rfl, rfl⟩)
theorem K2_8_28 {C : qCx} {G : jG} {mc ms : Nat} {p : Int → Int → jS → jH → Prop} {q : Int → Int → jS → jH → Int → jS → jH → Prop} (h : x2_8 C G) (hrm : C.2.2.2.1.frames = 4 ∧ C.2.2.2.1.locals = 96) (hM : M6_3 C.2.1 mc ms p q) : j_Call C b_2_8 n_KT G.1 G.2.1 11 (.invokevirtual 56) mc ms (fun a S V => ∃ u0 u1 : Int, a = [(2, u0), (2, u1)] ∧ S.1 u0 = 25 ∧ p u0 u1 S V) (fun a S V rs S' V' => ∃ u0 u1 r : Int, a = [(2, u0), (2, u1)] ∧ rs = [(2, r)] ∧ q u0 u1 S V r S' V') := j_callV n_NWk h.2.2.2.2.2 h.1 hM ⟨h.2.1.1, h.2.1.2, h.2.2.1, h.2.2.2.1, h.2.2.2.2.1⟩ ⟨n_CB (y := y_6_3) (bytes := b_6_3) 1 h.2.2.2.2.1 n_w517 n_w514 n_w9 ⟨by decide, by decide, by decide +kernel⟩ rfl rfl ⟨by rw [hrm.1]; exact Nat.le_of_ble_eq_true rfl, by rw [hrm.2]; exact Nat.le_of_ble_eq_true rfl⟩, h.2.2.2.2.1 _ n_w515, h.2.2.2.2.1 _ n_w516⟩ (Cn := RX4) (fun a S V hP => by obtain ⟨u0, u1, rfl, e, -⟩ := hP; exact ⟨u0, _, 4, _, _, TX4, 2, rfl, rfl, by rw [e]; decide, by rw [e]; rfl, rfl⟩)
theorem K2_8_37 {C : qCx} {G : jG} {mc ms : Nat} {p : Int → Int → jS → jH → Prop} {q : Int → Int → jS → jH → Int → jS → jH → Prop} (h : x2_8 C G) (hrm : C.2.2.2.1.frames = 4 ∧ C.2.2.2.1.locals = 96) (hM : M4_13 C.2.1 mc ms p q) : j_Call C b_2_8 n_KT G.1 G.2.1 11 (.invokevirtual 108) mc ms (fun a S V => ∃ u0 u1 : Int, a = [(2, u0), (0, u1)] ∧ S.1 u0 = 23 ∧ p u0 u1 S V) (fun a S V rs S' V' => ∃ u0 u1 r : Int, a = [(2, u0), (0, u1)] ∧ rs = [(0, r)] ∧ q u0 u1 S V r S' V') := j_callV n_NWk h.2.2.2.2.2 h.1 hM ⟨h.2.1.1, h.2.1.2, h.2.2.1, h.2.2.2.1, h.2.2.2.2.1⟩ ⟨n_CB (y := y_4_13) (bytes := b_4_13) 1 h.2.2.2.2.1 n_w649 n_w646 n_w8 ⟨by decide, by decide, by decide +kernel⟩ rfl rfl ⟨by rw [hrm.1]; exact Nat.le_of_ble_eq_true rfl, by rw [hrm.2]; exact Nat.le_of_ble_eq_true rfl⟩, h.2.2.2.2.1 _ n_w647, h.2.2.2.2.1 _ n_w648⟩ (Cn := RX2) (fun a S V hP => by obtain ⟨u0, u1, rfl, e, -⟩ := hP; exact ⟨u0, _, 2, _, _, TX2, 1, rfl, rfl, by rw [e]; decide, by rw [e]; rfl, rfl⟩)
theorem K2_8_48 {C : qCx} {G : jG} {mc ms : Nat} {p : Int → Int → Int → Int → jS → jH → Prop} {q : Int → Int → Int → Int → jS → jH → jS → jH → Prop} (h : x2_8 C G) (hrm : C.2.2.2.1.frames = 4 ∧ C.2.2.2.1.locals = 96) (hM : M2_3 C.2.1 mc ms p q) : j_Call C b_2_8 n_KT G.1 G.2.1 11 (.invokevirtual 60) mc ms (fun a S V => ∃ u0 u1 u2 u3 : Int, a = [(2, u0), (0, u1), (0, u2), (2, u3)] ∧ S.1 u0 = 21 ∧ p u0 u1 u2 u3 S V) (fun a S V rs S' V' => ∃ u0 u1 u2 u3 : Int, a = [(2, u0), (0, u1), (0, u2), (2, u3)] ∧ rs = [] ∧ q u0 u1 u2 u3 S V S' V') := j_callV n_NWk h.2.2.2.2.2 h.1 hM ⟨h.2.1.1, h.2.1.2, h.2.2.1, h.2.2.2.1, h.2.2.2.2.1⟩ ⟨n_CB (y := y_2_3) (bytes := b_2_3) 3 h.2.2.2.2.1 n_w522 n_w519 n_w6 ⟨by decide, by decide, by decide +kernel⟩ rfl rfl ⟨by rw [hrm.1]; exact Nat.le_of_ble_eq_true rfl, by rw [hrm.2]; exact Nat.le_of_ble_eq_true rfl⟩, h.2.2.2.2.1 _ n_w521, h.2.2.2.2.1 _ n_s13⟩ (Cn := RX0) (fun a S V hP => by obtain ⟨u0, u1, u2, u3, rfl, e, -⟩ := hP; exact ⟨u0, _, 0, _, _, TX0, 6, rfl, rfl, by rw [e]; decide, by rw [e]; rfl, rfl⟩)
theorem K2_8_204 {C : qCx} {G : jG} {mc ms : Nat} {p : Int → Int → Int → jS → jH → Prop} {q : Int → Int → Int → jS → jH → jS → jH → Prop} (h : x2_8 C G) (hrm : C.2.2.2.1.frames = 4 ∧ C.2.2.2.1.locals = 96) (hM : M6_4 C.2.1 mc ms p q) : j_Call C b_2_8 n_KT G.1 G.2.1 11 (.invokevirtual 64) mc ms (fun a S V => ∃ u0 u1 u2 : Int, a = [(2, u0), (2, u1), (0, u2)] ∧ S.1 u0 = 25 ∧ p u0 u1 u2 S V) (fun a S V rs S' V' => ∃ u0 u1 u2 : Int, a = [(2, u0), (2, u1), (0, u2)] ∧ rs = [] ∧ q u0 u1 u2 S V S' V') := j_callV n_NWk h.2.2.2.2.2 h.1 hM ⟨h.2.1.1, h.2.1.2, h.2.2.1, h.2.2.2.1, h.2.2.2.2.1⟩ ⟨n_CB (y := y_6_4) (bytes := b_6_4) 2 h.2.2.2.2.1 n_w527 n_w524 n_w9 ⟨by decide, by decide, by decide +kernel⟩ rfl rfl ⟨by rw [hrm.1]; exact Nat.le_of_ble_eq_true rfl, by rw [hrm.2]; exact Nat.le_of_ble_eq_true rfl⟩, h.2.2.2.2.1 _ n_w525, h.2.2.2.2.1 _ n_w526⟩ (Cn := RX4) (fun a S V hP => by obtain ⟨u0, u1, u2, rfl, e, -⟩ := hP; exact ⟨u0, _, 4, _, _, TX4, 2, rfl, rfl, by rw [e]; decide, by rw [e]; rfl, rfl⟩)
theorem t2_8_0 {C : qCx} {G : jG} {S : jS} {V : jH} {nc ns : Nat} {l0 l1 l2 l3 l4 : Int} {mc ms : Nat} {pp : Int → jS → jH → Prop} {qq : Int → jS → jH → Int → jS → jH → Prop} (h : x2_8 C G) (L : j_L S) (hrm : C.2.2.2.1.frames = 4 ∧ C.2.2.2.1.locals = 96) (c1 : S.1 l0 = 21) (hM : M10_4 C.2.1 mc ms pp qq) (hp : pp (l0 + 1) S V) (hc : nc + mc ≤ C.2.2.2.1.cells) (hs : ns + ms ≤ C.2.2.2.1.slots) (k : ∀ (r : Int) (S' : jS) (V' : jH), qq (l0 + 1) S V r S' V' → j_ok n_KT 11 C G 7 [(0, (2, l0)), (1, (0, l1)), (2, (0, l2)), (3, (2, l3)), (4, (0, l4))] [(0, r)] S' V' (nc + mc) (ns + ms)) : j_ok n_KT 11 C G 0 [(0, (2, l0)), (1, (0, l1)), (2, (0, l2)), (3, (2, l3)), (4, (0, l4))] [] S V nc ns := by
  have E := n_E h
  refine j_aload_n E d2_8_0 rfl 0 rfl ?_
  refine j_getS (f := 0) (x := l0 + 1) (fg0_12 h) d2_8_1 c1 (by decide) rfl rfl ((L0_0 L c1).trans (by omega)) ?_
  refine j_call E (K2_8_4 h hrm hM) d2_8_4 (a := [(2, l0 + 1)]) (sk := []) rfl ⟨l0 + 1, rfl, (show S.1 (l0 + 1) = 29 from (by have q := L0_0k L c1; rw [show l0 + 1 = l0 + 1 by omega]; exact q)), hp⟩ (Nat.le_of_ble_eq_true rfl) hc hs ?_
  rintro rs S' V' ⟨z0, r, e1, rfl, q⟩
  simp only [List.cons.injEq, Prod.mk.injEq, and_true, true_and] at e1
  obtain ⟨rfl⟩ := e1
  exact j_pick [0, 1, 2, 3, 4] rfl (k r S' V' q)
theorem t2_8_7 {C : qCx} {G : jG} {S : jS} {V : jH} {nc ns : Nat} {l0 l1 l2 l3 l4 s0 : Int} {mc ms : Nat} {pp : Int → Int → jS → jH → Prop} {qq : Int → Int → jS → jH → Int → jS → jH → Prop} (h : x2_8 C G) (L : j_L S) (hrm : C.2.2.2.1.frames = 4 ∧ C.2.2.2.1.locals = 96) (c1 : S.1 l0 = 21) (c2 : 0 ≤ l2) (c3 : l2 < 4) (c4 : 0 ≤ V (l0 + 20) l2) (c5 : 1 ≤ s0) (hM : M6_3 C.2.1 mc ms pp qq) (hp : pp (l0 + 11) (l0 + 1) S V) (hc : nc + mc ≤ C.2.2.2.1.cells) (hs : ns + ms ≤ C.2.2.2.1.slots) (k : ∀ (r : Int) (S' : jS) (V' : jH), qq (l0 + 11) (l0 + 1) S V r S' V' → j_ok n_KT 11 C G 31 [(0, (2, l0)), (1, (0, l1)), (2, (0, l2)), (3, (2, l3)), (4, (0, l4)), (5, (0, s0)), (6, (0, (V (l0 + 20) l2) % s0))] [(2, r)] S' V' (nc + mc) (ns + ms)) : j_ok n_KT 11 C G 7 [(0, (2, l0)), (1, (0, l1)), (2, (0, l2)), (3, (2, l3)), (4, (0, l4))] [(0, s0)] S V nc ns := by
  have E := n_E h
  refine j_istore E d2_8_7 (by decide) (lo1 := [(0, (2, l0)), (1, (0, l1)), (2, (0, l2)), (3, (2, l3)), (4, (0, l4))]) rfl ?_
  refine j_aload_n E d2_8_9 rfl 1 rfl ?_
  refine j_getS (f := 3) (x := l0 + 20) (fg0_32 h) d2_8_10 c1 (by decide) rfl rfl ((L0_3 L c1).trans (by omega)) ?_
  refine j_iload_n E d2_8_13 rfl 3 rfl ?_
  refine j_iald E d2_8_14 (j_arr_of (show S.1 (l0 + 20) = 4 from (by have q := L0_3k L c1; rw [show l0 + 20 = l0 + 20 by omega]; exact q)) (by decide) rfl) c2 c3 ?_
  refine j_iload E d2_8_15 0 rfl ?_
  refine j_irem E d2_8_17 c4 c5 ?_
  refine j_istore E d2_8_18 (by decide) (lo1 := [(5, (0, s0)), (0, (2, l0)), (1, (0, l1)), (2, (0, l2)), (3, (2, l3)), (4, (0, l4))]) rfl ?_
  refine j_aload_n E d2_8_20 rfl 2 rfl ?_
  refine j_getS (f := 1) (x := l0 + 11) (fg0_21 h) d2_8_21 c1 (by decide) rfl rfl ((L0_1 L c1).trans (by omega)) ?_
  refine j_aload_n E d2_8_24 rfl 2 rfl ?_
  refine j_getS (f := 0) (x := l0 + 1) (fg0_12 h) d2_8_25 c1 (by decide) rfl rfl ((L0_0 L c1).trans (by omega)) ?_
  refine j_call E (K2_8_28 h hrm hM) d2_8_28 (a := [(2, l0 + 11), (2, l0 + 1)]) (sk := []) rfl ⟨l0 + 11, l0 + 1, rfl, (show S.1 (l0 + 11) = 25 from (by have q := L0_1k L c1; rw [show l0 + 11 = l0 + 11 by omega]; exact q)), hp⟩ (Nat.le_of_ble_eq_true rfl) hc hs ?_
  rintro rs S' V' ⟨z0, z1, r, e1, rfl, q⟩
  simp only [List.cons.injEq, Prod.mk.injEq, and_true, true_and] at e1
  obtain ⟨rfl, rfl⟩ := e1
  exact j_pick [2, 3, 4, 5, 6, 1, 0] rfl (k r S' V' q)
theorem t2_8_31 {C : qCx} {G : jG} {S : jS} {V : jH} {nc ns : Nat} {l0 l1 l2 l3 l4 l5 l6 s0 : Int} {mc ms : Nat} {pp : Int → Int → jS → jH → Prop} {qq : Int → Int → jS → jH → Int → jS → jH → Prop} (h : x2_8 C G) (hrm : C.2.2.2.1.frames = 4 ∧ C.2.2.2.1.locals = 96) (c1 : S.1 s0 = 23) (hM : M4_13 C.2.1 mc ms pp qq) (hp : pp s0 l6 S V) (hc : nc + mc ≤ C.2.2.2.1.cells) (hs : ns + ms ≤ C.2.2.2.1.slots) (k : ∀ (r : Int) (S' : jS) (V' : jH), qq s0 l6 S V r S' V' → j_ok n_KT 11 C G 40 [(0, (2, l0)), (1, (0, l1)), (2, (0, l2)), (3, (2, l3)), (4, (0, l4)), (5, (0, l5)), (6, (0, l6)), (7, (2, s0))] [(0, r)] S' V' (nc + mc) (ns + ms)) : j_ok n_KT 11 C G 31 [(0, (2, l0)), (1, (0, l1)), (2, (0, l2)), (3, (2, l3)), (4, (0, l4)), (5, (0, l5)), (6, (0, l6))] [(2, s0)] S V nc ns := by
  have E := n_E h
  refine j_astore E d2_8_31 (by decide) (lo1 := [(0, (2, l0)), (1, (0, l1)), (2, (0, l2)), (3, (2, l3)), (4, (0, l4)), (5, (0, l5)), (6, (0, l6))]) rfl ?_
  refine j_aload E d2_8_33 0 rfl ?_
  refine j_iload E d2_8_35 7 rfl ?_
  refine j_call E (K2_8_37 h hrm hM) d2_8_37 (a := [(2, s0), (0, l6)]) (sk := []) rfl ⟨s0, l6, rfl, c1, hp⟩ (Nat.le_of_ble_eq_true rfl) hc hs ?_
  rintro rs S' V' ⟨z0, z1, r, e1, rfl, q⟩
  simp only [List.cons.injEq, Prod.mk.injEq, and_true, true_and] at e1
  obtain ⟨rfl, rfl⟩ := e1
  exact j_pick [1, 2, 3, 4, 5, 6, 7, 0] rfl (k r S' V' q)
theorem t2_8_40 {C : qCx} {G : jG} {S : jS} {V : jH} {nc ns : Nat} {l0 l1 l2 l3 l4 l5 l6 l7 s0 : Int} {mc ms : Nat} {pp : Int → Int → Int → Int → jS → jH → Prop} {qq : Int → Int → Int → Int → jS → jH → jS → jH → Prop} (h : x2_8 C G) (hrm : C.2.2.2.1.frames = 4 ∧ C.2.2.2.1.locals = 96) (c1 : S.1 l0 = 21) (hM : M2_3 C.2.1 mc ms pp qq) (hp : pp l0 l1 s0 l7 S V) (hc : nc + mc ≤ C.2.2.2.1.cells) (hs : ns + ms ≤ C.2.2.2.1.slots) (k : ∀ (S' : jS) (V' : jH), qq l0 l1 s0 l7 S V S' V' → j_ok n_KT 11 C G 51 [(0, (2, l0)), (1, (0, l1)), (2, (0, l2)), (3, (2, l3)), (4, (0, l4)), (5, (0, l5)), (6, (0, l6)), (8, (0, s0))] [] S' V' (nc + mc) (ns + ms)) : j_ok n_KT 11 C G 40 [(0, (2, l0)), (1, (0, l1)), (2, (0, l2)), (3, (2, l3)), (4, (0, l4)), (5, (0, l5)), (6, (0, l6)), (7, (2, l7))] [(0, s0)] S V nc ns := by
  have E := n_E h
  refine j_istore E d2_8_40 (by decide) (lo1 := [(0, (2, l0)), (1, (0, l1)), (2, (0, l2)), (3, (2, l3)), (4, (0, l4)), (5, (0, l5)), (6, (0, l6)), (7, (2, l7))]) rfl ?_
  refine j_aload_n E d2_8_42 rfl 1 rfl ?_
  refine j_iload_n E d2_8_43 rfl 2 rfl ?_
  refine j_iload E d2_8_44 0 rfl ?_
  refine j_aload E d2_8_46 8 rfl ?_
  refine j_call E (K2_8_48 h hrm hM) d2_8_48 (a := [(2, l0), (0, l1), (0, s0), (2, l7)]) (sk := []) rfl ⟨l0, l1, s0, l7, rfl, c1, hp⟩ (Nat.le_of_ble_eq_true rfl) hc hs ?_
  rintro rs S' V' ⟨z0, z1, z2, z3, e1, rfl, q⟩
  simp only [List.cons.injEq, Prod.mk.injEq, and_true, true_and] at e1
  obtain ⟨rfl, rfl, rfl, rfl⟩ := e1
  exact j_pick [1, 2, 3, 4, 5, 6, 7, 0] rfl (k S' V' q)
theorem t2_8_51 {C : qCx} {G : jG} {S : jS} {V : jH} {nc ns : Nat} {l0 l1 l2 l3 l4 l5 l6 l8 : Int} (h : x2_8 C G) (L : j_L S) (c1 : S.1 l0 = 21) (c2 : 0 ≤ l1) (c3 : l1 < 400) (c4 : 0 ≤ l2) (c5 : l2 < 4) (c6 : 0 ≤ V (l0 + 20) l2) (c7 : 1 ≤ l5) (c8 : -2147483648 ≤ (V (l0 + 18) l1) * ((V (l0 + 20) l2) / l5) ∧ (V (l0 + 18) l1) * ((V (l0 + 20) l2) / l5) ≤ 2147483647) (c9 : -2147483648 ≤ ((V (l0 + 18) l1) * ((V (l0 + 20) l2) / l5)) + l6 ∧ ((V (l0 + 18) l1) * ((V (l0 + 20) l2) / l5)) + l6 ≤ 2147483647) (c10 : -2147483648 ≤ (((V (l0 + 18) l1) * ((V (l0 + 20) l2) / l5)) + l6) - (V (l0 + 19) l1) ∧ (((V (l0 + 18) l1) * ((V (l0 + 20) l2) / l5)) + l6) - (V (l0 + 19) l1) ≤ 2147483647) (k : j_ok n_KT 11 C G 88 [(0, (2, l0)), (1, (0, l1)), (2, (0, l2)), (3, (2, l3)), (4, (0, l4)), (5, (0, l5)), (8, (0, l8)), (9, (0, (((V (l0 + 18) l1) * ((V (l0 + 20) l2) / l5)) + l6) - (V (l0 + 19) l1))), (10, (0, 0))] [] S V nc ns) : j_ok n_KT 11 C G 51 [(0, (2, l0)), (1, (0, l1)), (2, (0, l2)), (3, (2, l3)), (4, (0, l4)), (5, (0, l5)), (6, (0, l6)), (8, (0, l8))] [] S V nc ns := by
  have E := n_E h
  refine j_aload_n E d2_8_51 rfl 0 rfl ?_
  refine j_getS (f := 2) (x := l0 + 14) (fg0_28 h) d2_8_52 c1 (by decide) rfl rfl ((L0_2 L c1).trans (by omega)) ?_
  refine j_getS (f := 3) (x := l0 + 18) (fg0_68 h) d2_8_55 (show S.1 (l0 + 14) = 28 from (by have q := L0_2k L c1; rw [show l0 + 14 = l0 + 14 by omega]; exact q)) (by decide) rfl rfl ((L7_3 L (show S.1 (l0 + 14) = 28 from (by have q := L0_2k L c1; rw [show l0 + 14 = l0 + 14 by omega]; exact q))).trans (by omega)) ?_
  refine j_iload_n E d2_8_58 rfl 1 rfl ?_
  refine j_iald E d2_8_59 (j_arr_of (show S.1 (l0 + 18) = 1 from (by have q := L7_3k L (show S.1 (l0 + 14) = 28 from (by have q := L0_2k L c1; rw [show l0 + 14 = l0 + 14 by omega]; exact q)); rw [show l0 + 18 = (l0 + 14) + 4 by omega]; exact q)) (by decide) rfl) c2 c3 ?_
  refine j_aload_n E d2_8_60 rfl 0 rfl ?_
  refine j_getS (f := 3) (x := l0 + 20) (fg0_32 h) d2_8_61 c1 (by decide) rfl rfl ((L0_3 L c1).trans (by omega)) ?_
  refine j_iload_n E d2_8_64 rfl 2 rfl ?_
  refine j_iald E d2_8_65 (j_arr_of (show S.1 (l0 + 20) = 4 from (by have q := L0_3k L c1; rw [show l0 + 20 = l0 + 20 by omega]; exact q)) (by decide) rfl) c4 c5 ?_
  refine j_iload E d2_8_66 5 rfl ?_
  refine j_idiv E d2_8_68 c6 c7 ?_
  refine j_imul E d2_8_69 c8 ?_
  refine j_iload E d2_8_70 6 rfl ?_
  refine j_iadd E d2_8_72 c9 ?_
  refine j_aload_n E d2_8_73 rfl 0 rfl ?_
  refine j_getS (f := 2) (x := l0 + 14) (fg0_28 h) d2_8_74 c1 (by decide) rfl rfl ((L0_2 L c1).trans (by omega)) ?_
  refine j_getS (f := 4) (x := l0 + 19) (fg0_78 h) d2_8_77 (show S.1 (l0 + 14) = 28 from (by have q := L0_2k L c1; rw [show l0 + 14 = l0 + 14 by omega]; exact q)) (by decide) rfl rfl ((L7_4 L (show S.1 (l0 + 14) = 28 from (by have q := L0_2k L c1; rw [show l0 + 14 = l0 + 14 by omega]; exact q))).trans (by omega)) ?_
  refine j_iload_n E d2_8_80 rfl 1 rfl ?_
  refine j_iald E d2_8_81 (j_arr_of (show S.1 (l0 + 19) = 1 from (by have q := L7_4k L (show S.1 (l0 + 14) = 28 from (by have q := L0_2k L c1; rw [show l0 + 14 = l0 + 14 by omega]; exact q)); rw [show l0 + 19 = (l0 + 14) + 5 by omega]; exact q)) (by decide) rfl) c2 c3 ?_
  refine j_isub E d2_8_82 c10 ?_
  refine j_istore E d2_8_83 (by decide) (lo1 := [(0, (2, l0)), (1, (0, l1)), (2, (0, l2)), (3, (2, l3)), (4, (0, l4)), (5, (0, l5)), (6, (0, l6)), (8, (0, l8))]) rfl ?_
  refine j_iconst E d2_8_85 (by decide) ?_
  refine j_istore E d2_8_86 (by decide) (lo1 := [(9, (0, (((V (l0 + 18) l1) * ((V (l0 + 20) l2) / l5)) + l6) - (V (l0 + 19) l1))), (0, (2, l0)), (1, (0, l1)), (2, (0, l2)), (3, (2, l3)), (4, (0, l4)), (5, (0, l5)), (6, (0, l6)), (8, (0, l8))]) rfl ?_
  exact j_pick [2, 3, 4, 5, 6, 7, 9, 1, 0] rfl k
theorem t2_8_88 {C : qCx} {G : jG} {S : jS} {V : jH} {nc ns : Nat} {l0 l1 l2 l3 l4 l5 l8 l9 l10 : Int} (h : x2_8 C G)  (k : 2 ≤ l10 → j_ok n_KT 11 C G 162 [(0, (2, l0)), (1, (0, l1)), (2, (0, l2)), (8, (0, l8)), (9, (0, l9))] [] S V nc ns) (k' : l10 < 2 → j_ok n_KT 11 C G 94 [(0, (2, l0)), (1, (0, l1)), (2, (0, l2)), (3, (2, l3)), (4, (0, l4)), (5, (0, l5)), (8, (0, l8)), (9, (0, l9)), (10, (0, l10))] [] S V nc ns) : j_ok n_KT 11 C G 88 [(0, (2, l0)), (1, (0, l1)), (2, (0, l2)), (3, (2, l3)), (4, (0, l4)), (5, (0, l5)), (8, (0, l8)), (9, (0, l9)), (10, (0, l10))] [] S V nc ns := by
  have E := n_E h
  refine j_iload E d2_8_88 8 rfl ?_
  refine j_iconst E d2_8_90 (by decide) ?_
  exact j_icmp_ge E d2_8_91 (t := 162) rfl (fun q => j_pick [0, 1, 2, 6, 7] rfl (k q)) (fun q => j_pick [0, 1, 2, 3, 4, 5, 6, 7, 8] rfl (k' q))
theorem t2_8_94 {C : qCx} {G : jG} {S : jS} {V : jH} {nc ns : Nat} {l0 l1 l2 l3 l4 l5 l8 l9 l10 : Int} (h : x2_8 C G)  (k : l5 ≤ l9 → j_ok n_KT 11 C G 162 [(0, (2, l0)), (1, (0, l1)), (2, (0, l2)), (8, (0, l8)), (9, (0, l9))] [] S V nc ns) (k' : l9 < l5 → j_ok n_KT 11 C G 101 [(0, (2, l0)), (1, (0, l1)), (2, (0, l2)), (3, (2, l3)), (4, (0, l4)), (5, (0, l5)), (8, (0, l8)), (9, (0, l9)), (10, (0, l10))] [] S V nc ns) : j_ok n_KT 11 C G 94 [(0, (2, l0)), (1, (0, l1)), (2, (0, l2)), (3, (2, l3)), (4, (0, l4)), (5, (0, l5)), (8, (0, l8)), (9, (0, l9)), (10, (0, l10))] [] S V nc ns := by
  have E := n_E h
  refine j_iload E d2_8_94 7 rfl ?_
  refine j_iload E d2_8_96 5 rfl ?_
  exact j_icmp_ge E d2_8_98 (t := 162) rfl (fun q => j_pick [0, 1, 2, 6, 7] rfl (k q)) (fun q => j_pick [0, 1, 2, 3, 4, 5, 6, 7, 8] rfl (k' q))
theorem t2_8_101 {C : qCx} {G : jG} {S : jS} {V : jH} {nc ns : Nat} {l0 l1 l2 l3 l4 l5 l8 l9 l10 : Int} (h : x2_8 C G) (c1 : S.1 l0 = 21) (k : V l0 5 < 1 → j_ok n_KT 11 C G 123 [] [] S V nc ns) (k' : 1 ≤ V l0 5 → j_ok n_KT 11 C G 109 [(0, (2, l0)), (1, (0, l1)), (2, (0, l2)), (3, (2, l3)), (4, (0, l4)), (5, (0, l5)), (8, (0, l8)), (9, (0, l9)), (10, (0, l10))] [] S V nc ns) : j_ok n_KT 11 C G 101 [(0, (2, l0)), (1, (0, l1)), (2, (0, l2)), (3, (2, l3)), (4, (0, l4)), (5, (0, l5)), (8, (0, l8)), (9, (0, l9)), (10, (0, l10))] [] S V nc ns := by
  have E := n_E h
  refine j_aload_n E d2_8_101 rfl 0 rfl ?_
  refine j_getI (f := 5) (fg0_39 h) d2_8_102 c1 (by decide) rfl rfl ?_
  refine j_iconst E d2_8_105 (by decide) ?_
  exact j_icmp_lt E d2_8_106 (t := 123) rfl (fun q => j_pick [] rfl (k q)) (fun q => j_pick [0, 1, 2, 3, 4, 5, 6, 7, 8] rfl (k' q))
theorem t2_8_109 {C : qCx} {G : jG} {S : jS} {V : jH} {nc ns : Nat} {l0 l1 l2 l3 l4 l5 l8 l9 l10 : Int} (h : x2_8 C G) (c1 : S.1 l0 = 21) (c2 : -2147483648 ≤ l4 + (V l0 5) ∧ l4 + (V l0 5) ≤ 2147483647) (c3 : S.1 l3 = 22) (k : l4 + (V l0 5) ≤ V l3 1 → j_ok n_KT 11 C G 125 [(0, (2, l0)), (1, (0, l1)), (2, (0, l2)), (3, (2, l3)), (4, (0, l4)), (5, (0, l5)), (8, (0, l8)), (9, (0, l9)), (10, (0, l10))] [] S V nc ns) (k' : V l3 1 < l4 + (V l0 5) → j_ok n_KT 11 C G 123 [] [] S V nc ns) : j_ok n_KT 11 C G 109 [(0, (2, l0)), (1, (0, l1)), (2, (0, l2)), (3, (2, l3)), (4, (0, l4)), (5, (0, l5)), (8, (0, l8)), (9, (0, l9)), (10, (0, l10))] [] S V nc ns := by
  have E := n_E h
  refine j_iload E d2_8_109 4 rfl ?_
  refine j_aload_n E d2_8_111 rfl 0 rfl ?_
  refine j_getI (f := 5) (fg0_39 h) d2_8_112 c1 (by decide) rfl rfl ?_
  refine j_iadd E d2_8_115 c2 ?_
  refine j_aload_n E d2_8_116 rfl 3 rfl ?_
  refine j_getI (f := 1) (fg0_111 h) d2_8_117 c3 (by decide) rfl rfl ?_
  exact j_icmp_le E d2_8_120 (t := 125) rfl (fun q => j_pick [0, 1, 2, 3, 4, 5, 6, 7, 8] rfl (k q)) (fun q => j_pick [] rfl (k' q))
theorem t2_8_123 {C : qCx} {G : jG} {S : jS} {V : jH} {nc ns : Nat} {mc ms : Nat} {qf : Int → jS → jH → Prop} (h : x2_8 C G)  (R : j_Rz n_KT 11 C G b_2_8 mc ms qf) (q : qf 0 S V) (hc : nc ≤ mc) (hs : ns ≤ ms) : j_ok n_KT 11 C G 123 [] [] S V nc ns := by
  have E := n_E h
  refine j_iconst E d2_8_123 (by decide) ?_
  exact R _ _ _ _ _ _ _ d2_8_124 (by decide) q hc hs
theorem t2_8_125 {C : qCx} {G : jG} {S : jS} {V : jH} {nc ns : Nat} {l0 l1 l2 l3 l4 l5 l8 l9 l10 : Int} (h : x2_8 C G) (L : j_L S) (c1 : S.1 l0 = 21) (c2 : -2147483648 ≤ (V l0 5) - 1 ∧ (V l0 5) - 1 ≤ 2147483647) (c3 : -2147483648 ≤ 256 * l9 ∧ 256 * l9 ≤ 2147483647) (c4 : S.1 l3 = 22) (c5 : -2147483648 ≤ l4 + ((V l0 5) - 1) ∧ l4 + ((V l0 5) - 1) ≤ 2147483647) (c6 : 0 ≤ l4 + ((V l0 5) - 1)) (c7 : l4 + ((V l0 5) - 1) < 4400) (c8 : -2147483648 ≤ (256 * l9) + ((j_up V l0 5 ((V l0 5) - 1)) (l3 + 1) (l4 + ((V l0 5) - 1))) ∧ (256 * l9) + ((j_up V l0 5 ((V l0 5) - 1)) (l3 + 1) (l4 + ((V l0 5) - 1))) ≤ 2147483647) (c9 : -2147483648 ≤ l10 + 1 ∧ l10 + 1 ≤ 2147483647) (k : j_ok n_KT 11 C G 88 [(0, (2, l0)), (1, (0, l1)), (2, (0, l2)), (3, (2, l3)), (4, (0, l4)), (5, (0, l5)), (8, (0, l8)), (9, (0, (256 * l9) + ((j_up V l0 5 ((V l0 5) - 1)) (l3 + 1) (l4 + ((V l0 5) - 1))))), (10, (0, l10 + 1))] [] S (j_up V l0 5 ((V l0 5) - 1)) nc ns) : j_ok n_KT 11 C G 125 [(0, (2, l0)), (1, (0, l1)), (2, (0, l2)), (3, (2, l3)), (4, (0, l4)), (5, (0, l5)), (8, (0, l8)), (9, (0, l9)), (10, (0, l10))] [] S V nc ns := by
  have E := n_E h
  refine j_aload_n E d2_8_125 rfl 0 rfl ?_
  refine j_dup E d2_8_126 rfl ?_
  refine j_getI (f := 5) (fg0_39 h) d2_8_127 c1 (by decide) rfl rfl ?_
  refine j_iconst E d2_8_130 (by decide) ?_
  refine j_isub E d2_8_131 c2 ?_
  refine j_putI (f := 5) (fp0_39 h) (n_hap h 21 0 0 _ rfl) d2_8_132 c1 (by decide) rfl rfl rfl ?_
  refine j_sipush E d2_8_135 (by decide) ?_
  refine j_iload E d2_8_138 7 rfl ?_
  refine j_imul E d2_8_140 c3 ?_
  refine j_aload_n E d2_8_141 rfl 3 rfl ?_
  refine j_getS (f := 0) (x := l3 + 1) (fg0_116 h) d2_8_142 c4 (by decide) rfl rfl ((L1_0 L c4).trans (by omega)) ?_
  refine j_iload E d2_8_145 4 rfl ?_
  refine j_aload_n E d2_8_147 rfl 0 rfl ?_
  refine j_getI (f := 5) (fg0_39 h) d2_8_148 c1 (by decide) rfl rfl ?_
  refine j_eqT (show (j_up V l0 5 ((V l0 5) - 1)) l0 5 = (V l0 5) - 1 from (j_up_at _ _ _ _)) ?_
  refine j_iadd E d2_8_151 c5 ?_
  refine j_iald E d2_8_152 (j_arr_of (show S.1 (l3 + 1) = 6 from (by have q := L1_0k L c4; rw [show l3 + 1 = l3 + 1 by omega]; exact q)) (by decide) rfl) c6 c7 ?_
  refine j_iadd E d2_8_153 c8 ?_
  refine j_istore E d2_8_154 (by decide) (lo1 := [(0, (2, l0)), (1, (0, l1)), (2, (0, l2)), (3, (2, l3)), (4, (0, l4)), (5, (0, l5)), (8, (0, l8)), (10, (0, l10))]) rfl ?_
  refine j_iinc E d2_8_156 (by decide) (by decide) 8 rfl (lo1 := [(9, (0, (256 * l9) + ((j_up V l0 5 ((V l0 5) - 1)) (l3 + 1) (l4 + ((V l0 5) - 1))))), (0, (2, l0)), (1, (0, l1)), (2, (0, l2)), (3, (2, l3)), (4, (0, l4)), (5, (0, l5)), (8, (0, l8))]) rfl c9 ?_
  refine j_goto E d2_8_159 (t := 88) rfl ?_
  exact j_pick [2, 3, 4, 5, 6, 7, 8, 1, 0] rfl k
theorem t2_8_162 {C : qCx} {G : jG} {S : jS} {V : jH} {nc ns : Nat} {l0 l1 l2 l8 l9 : Int} {mc ms : Nat} {pp : Int → Int → Int → jS → jH → Prop} {qq : Int → Int → Int → jS → jH → jS → jH → Prop} (h : x2_8 C G) (L : j_L S) (hrm : C.2.2.2.1.frames = 4 ∧ C.2.2.2.1.locals = 96) (c1 : S.1 l0 = 21) (c2 : 0 ≤ l2) (c3 : l2 < 4) (c4 : 0 ≤ l1) (c5 : l1 < 400) (hM : M6_4 C.2.1 mc ms pp qq) (hp : pp (l0 + 11) (l0 + 1) l8 S (j_up (j_up (j_up V (l0 + 20) l2 l9) (l0 + 16) l1 l9) (l0 + 17) l1 (V l0 5))) (hc : nc + mc ≤ C.2.2.2.1.cells) (hs : ns + ms ≤ C.2.2.2.1.slots) (k : ∀ (S' : jS) (V' : jH), qq (l0 + 11) (l0 + 1) l8 S (j_up (j_up (j_up V (l0 + 20) l2 l9) (l0 + 16) l1 l9) (l0 + 17) l1 (V l0 5)) S' V' → j_ok n_KT 11 C G 207 [] [] S' V' (nc + mc) (ns + ms)) : j_ok n_KT 11 C G 162 [(0, (2, l0)), (1, (0, l1)), (2, (0, l2)), (8, (0, l8)), (9, (0, l9))] [] S V nc ns := by
  have E := n_E h
  refine j_aload_n E d2_8_162 rfl 0 rfl ?_
  refine j_getS (f := 3) (x := l0 + 20) (fg0_32 h) d2_8_163 c1 (by decide) rfl rfl ((L0_3 L c1).trans (by omega)) ?_
  refine j_iload_n E d2_8_166 rfl 2 rfl ?_
  refine j_iload E d2_8_167 4 rfl ?_
  refine j_iast E d2_8_169 (j_arr_of (show S.1 (l0 + 20) = 4 from (by have q := L0_3k L c1; rw [show l0 + 20 = l0 + 20 by omega]; exact q)) (by decide) rfl) c2 c3 ?_
  refine j_aload_n E d2_8_170 rfl 0 rfl ?_
  refine j_getS (f := 2) (x := l0 + 14) (fg0_28 h) d2_8_171 c1 (by decide) rfl rfl ((L0_2 L c1).trans (by omega)) ?_
  refine j_getS (f := 1) (x := l0 + 16) (fg0_88 h) d2_8_174 (show S.1 (l0 + 14) = 28 from (by have q := L0_2k L c1; rw [show l0 + 14 = l0 + 14 by omega]; exact q)) (by decide) rfl rfl ((L7_1 L (show S.1 (l0 + 14) = 28 from (by have q := L0_2k L c1; rw [show l0 + 14 = l0 + 14 by omega]; exact q))).trans (by omega)) ?_
  refine j_iload_n E d2_8_177 rfl 1 rfl ?_
  refine j_iload E d2_8_178 4 rfl ?_
  refine j_iast E d2_8_180 (j_arr_of (show S.1 (l0 + 16) = 1 from (by have q := L7_1k L (show S.1 (l0 + 14) = 28 from (by have q := L0_2k L c1; rw [show l0 + 14 = l0 + 14 by omega]; exact q)); rw [show l0 + 16 = (l0 + 14) + 2 by omega]; exact q)) (by decide) rfl) c4 c5 ?_
  refine j_aload_n E d2_8_181 rfl 0 rfl ?_
  refine j_getS (f := 2) (x := l0 + 14) (fg0_28 h) d2_8_182 c1 (by decide) rfl rfl ((L0_2 L c1).trans (by omega)) ?_
  refine j_getS (f := 2) (x := l0 + 17) (fg0_89 h) d2_8_185 (show S.1 (l0 + 14) = 28 from (by have q := L0_2k L c1; rw [show l0 + 14 = l0 + 14 by omega]; exact q)) (by decide) rfl rfl ((L7_2 L (show S.1 (l0 + 14) = 28 from (by have q := L0_2k L c1; rw [show l0 + 14 = l0 + 14 by omega]; exact q))).trans (by omega)) ?_
  refine j_iload_n E d2_8_188 rfl 1 rfl ?_
  refine j_aload_n E d2_8_189 rfl 0 rfl ?_
  refine j_getI (f := 5) (fg0_39 h) d2_8_190 c1 (by decide) rfl rfl ?_
  refine j_eqT (show (j_up (j_up V (l0 + 20) l2 l9) (l0 + 16) l1 l9) l0 5 = V l0 5 from (Eq.trans (congrFun (j_up_ne (by omega)) _) (congrFun (j_up_ne (by omega)) _))) ?_
  refine j_iast E d2_8_193 (j_arr_of (show S.1 (l0 + 17) = 1 from (by have q := L7_2k L (show S.1 (l0 + 14) = 28 from (by have q := L0_2k L c1; rw [show l0 + 14 = l0 + 14 by omega]; exact q)); rw [show l0 + 17 = (l0 + 14) + 3 by omega]; exact q)) (by decide) rfl) c4 c5 ?_
  refine j_aload_n E d2_8_194 rfl 0 rfl ?_
  refine j_getS (f := 1) (x := l0 + 11) (fg0_21 h) d2_8_195 c1 (by decide) rfl rfl ((L0_1 L c1).trans (by omega)) ?_
  refine j_aload_n E d2_8_198 rfl 0 rfl ?_
  refine j_getS (f := 0) (x := l0 + 1) (fg0_12 h) d2_8_199 c1 (by decide) rfl rfl ((L0_0 L c1).trans (by omega)) ?_
  refine j_iload E d2_8_202 3 rfl ?_
  refine j_call E (K2_8_204 h hrm hM) d2_8_204 (a := [(2, l0 + 11), (2, l0 + 1), (0, l8)]) (sk := []) rfl ⟨l0 + 11, l0 + 1, l8, rfl, (show S.1 (l0 + 11) = 25 from (by have q := L0_1k L c1; rw [show l0 + 11 = l0 + 11 by omega]; exact q)), hp⟩ (Nat.le_of_ble_eq_true rfl) hc hs ?_
  rintro rs S' V' ⟨z0, z1, z2, e1, rfl, q⟩
  simp only [List.cons.injEq, Prod.mk.injEq, and_true, true_and] at e1
  obtain ⟨rfl, rfl, rfl⟩ := e1
  exact j_pick [] rfl (k S' V' q)
theorem t2_8_207 {C : qCx} {G : jG} {S : jS} {V : jH} {nc ns : Nat} {mc ms : Nat} {qf : Int → jS → jH → Prop} (h : x2_8 C G)  (R : j_Rz n_KT 11 C G b_2_8 mc ms qf) (q : qf 1 S V) (hc : nc ≤ mc) (hs : ns ≤ ms) : j_ok n_KT 11 C G 207 [] [] S V nc ns := by
  have E := n_E h
  refine j_iconst E d2_8_207 (by decide) ?_
  exact R _ _ _ _ _ _ _ d2_8_208 (by decide) q hc hs
/- BalanceCoder$Bench.areAtFirst(I)Z -/
abbrev b_2_9 : ByteArray := prog_2_method_9_code
def y_2_9 : MethodName := ⟨"BalanceCoder$Bench", "areAtFirst", "(I)Z"⟩
abbrev x2_9 (C : qCx) (G : jG) : Prop := n_ctx C b_2_9 3 "BalanceCoder$Bench" G.1 G.2.1
def M2_9 (l : Launch) (mc ms : Nat) (p : Int → Int → jS → jH → Prop) (q : Int → Int → jS → jH → Int → jS → jH → Prop) : Prop := j_Met l vwCl n_TL n_NW n_KT y_2_9 (Cond.code y_2_9 b_2_9 3 (some .boolean) :: n_GW) { frames := 2, cells := mc, slots := ms, locals := 46 } mc ms (fun a S V => ∃ u0 u1 : Int, a = [(2, u0), (0, u1)] ∧ S.1 u0 = 21 ∧ p u0 u1 S V) (fun a S V rs S' V' => ∃ u0 u1 r : Int, a = [(2, u0), (0, u1)] ∧ rs = [(0, r)] ∧ q u0 u1 S V r S' V')
theorem e2_9 {l : Launch} {mc ms : Nat} {p : Int → Int → jS → jH → Prop} {q : Int → Int → jS → jH → Int → jS → jH → Prop} (body : ∀ (C : qCx) (G : jG), x2_9 C G → C.2.2.2.1.frames = 2 ∧ C.2.2.2.1.locals = 46 → C.2.2.2.1.cells = mc ∧ C.2.2.2.1.slots = ms → C.2.1 = l → C.2.2.2.2.2.2.2.2.1.name = "areAtFirst" → ∀ (u0 u1 : Int) (S : jS) (V : jH), S.1 u0 = 21 → p u0 u1 S V → j_Rz n_KT 3 C G b_2_9 mc ms (q u0 u1 S V) → j_ok n_KT 3 C G 0 [(0, (2, u0)), (1, (0, u1))] [] S V 0 0) : M2_9 l mc ms p q := by
  refine j_method (ws' := n_GW) (by decide) rfl ?_ ?_
  · rintro a S V ⟨u0, u1, rfl, -⟩
    exact Nat.le_of_ble_eq_true rfl
  · rintro C G htl hl hrm hm hml ho hts hnm hE a S V ⟨u0, u1, rfl, ht, hp⟩ R
    exact body C G ⟨htl, hm, hml, ho, fun w hw => hts w (List.mem_cons_of_mem _ hw), hE⟩ (by rw [hrm]; exact ⟨rfl, rfl⟩) (by rw [hrm]; exact ⟨rfl, rfl⟩) hl hnm u0 u1 S V ht hp (fun pc lo r S' V' nc ns d z q hc hs => R.2.2.1 rfl pc lo r S' V' nc ns d z ⟨u0, u1, r, rfl, rfl, q⟩ hc hs)
theorem d2_9_0 : decode b_2_9 0 = .ok (.iconst 0, 1) := by decide +kernel
theorem d2_9_1 : decode b_2_9 1 = .ok (.istore_n 2, 1) := by decide +kernel
theorem d2_9_2 : decode b_2_9 2 = .ok (.iload_n 2, 1) := by decide +kernel
theorem d2_9_3 : decode b_2_9 3 = .ok (.iload_n 1, 1) := by decide +kernel
theorem d2_9_4 : decode b_2_9 4 = .ok (.if_icmp .ge 27, 3) := by decide +kernel
theorem d2_9_7 : decode b_2_9 7 = .ok (.aload_n 0, 1) := by decide +kernel
theorem d2_9_8 : decode b_2_9 8 = .ok (.getfield 32, 3) := by decide +kernel
theorem d2_9_11 : decode b_2_9 11 = .ok (.iload_n 2, 1) := by decide +kernel
theorem d2_9_12 : decode b_2_9 12 = .ok (.iaload, 1) := by decide +kernel
theorem d2_9_13 : decode b_2_9 13 = .ok (.aload_n 0, 1) := by decide +kernel
theorem d2_9_14 : decode b_2_9 14 = .ok (.getfield 12, 3) := by decide +kernel
theorem d2_9_17 : decode b_2_9 17 = .ok (.invokevirtual 104, 3) := by decide +kernel
theorem d2_9_20 : decode b_2_9 20 = .ok (.if_icmp .eq 5, 3) := by decide +kernel
theorem d2_9_23 : decode b_2_9 23 = .ok (.iconst 0, 1) := by decide +kernel
theorem d2_9_24 : decode b_2_9 24 = .ok (.ireturn, 1) := by decide +kernel
theorem d2_9_25 : decode b_2_9 25 = .ok (.iinc 2 1, 3) := by decide +kernel
theorem d2_9_28 : decode b_2_9 28 = .ok (.goto (-26), 3) := by decide +kernel
theorem d2_9_31 : decode b_2_9 31 = .ok (.iconst 1, 1) := by decide +kernel
theorem d2_9_32 : decode b_2_9 32 = .ok (.ireturn, 1) := by decide +kernel
theorem K2_9_17 {C : qCx} {G : jG} {mc ms : Nat} {p : Int → jS → jH → Prop} {q : Int → jS → jH → Int → jS → jH → Prop} (h : x2_9 C G) (hrm : C.2.2.2.1.frames = 2 ∧ C.2.2.2.1.locals = 46) (hM : M10_4 C.2.1 mc ms p q) : j_Call C b_2_9 n_KT G.1 G.2.1 3 (.invokevirtual 104) mc ms (fun a S V => ∃ u0 : Int, a = [(2, u0)] ∧ S.1 u0 = 29 ∧ p u0 S V) (fun a S V rs S' V' => ∃ u0 r : Int, a = [(2, u0)] ∧ rs = [(0, r)] ∧ q u0 S V r S' V') := j_callV n_NWk h.2.2.2.2.2 h.1 hM ⟨h.2.1.1, h.2.1.2, h.2.2.1, h.2.2.2.1, h.2.2.2.2.1⟩ ⟨n_CB (y := y_10_4) (bytes := b_10_4) 0 h.2.2.2.2.1 n_w348 n_w645 n_w7 ⟨by decide, by decide, by decide +kernel⟩ rfl rfl ⟨by rw [hrm.1]; exact Nat.le_of_ble_eq_true rfl, by rw [hrm.2]; exact Nat.le_of_ble_eq_true rfl⟩, h.2.2.2.2.1 _ n_w346, h.2.2.2.2.1 _ n_w347⟩ (Cn := RX8) (fun a S V hP => by obtain ⟨u0, rfl, e, -⟩ := hP; exact ⟨u0, _, 8, _, _, TX8, 3, rfl, rfl, by rw [e]; decide, by rw [e]; rfl, rfl⟩)
theorem t2_9_0 {C : qCx} {G : jG} {S : jS} {V : jH} {nc ns : Nat} {l0 l1 : Int} (h : x2_9 C G)  (k : j_ok n_KT 3 C G 2 [(0, (2, l0)), (1, (0, l1)), (2, (0, 0))] [] S V nc ns) : j_ok n_KT 3 C G 0 [(0, (2, l0)), (1, (0, l1))] [] S V nc ns := by
  have E := n_E h
  refine j_iconst E d2_9_0 (by decide) ?_
  refine j_istore_n E d2_9_1 rfl (by decide) (lo1 := [(0, (2, l0)), (1, (0, l1))]) rfl ?_
  exact j_pick [1, 2, 0] rfl k
theorem t2_9_2 {C : qCx} {G : jG} {S : jS} {V : jH} {nc ns : Nat} {l0 l1 l2 : Int} (h : x2_9 C G)  (k : l1 ≤ l2 → j_ok n_KT 3 C G 31 [] [] S V nc ns) (k' : l2 < l1 → j_ok n_KT 3 C G 7 [(0, (2, l0)), (1, (0, l1)), (2, (0, l2))] [] S V nc ns) : j_ok n_KT 3 C G 2 [(0, (2, l0)), (1, (0, l1)), (2, (0, l2))] [] S V nc ns := by
  have E := n_E h
  refine j_iload_n E d2_9_2 rfl 2 rfl ?_
  refine j_iload_n E d2_9_3 rfl 1 rfl ?_
  exact j_icmp_ge E d2_9_4 (t := 31) rfl (fun q => j_pick [] rfl (k q)) (fun q => j_pick [0, 1, 2] rfl (k' q))
theorem t2_9_7 {C : qCx} {G : jG} {S : jS} {V : jH} {nc ns : Nat} {l0 l1 l2 : Int} {mc ms : Nat} {pp : Int → jS → jH → Prop} {qq : Int → jS → jH → Int → jS → jH → Prop} (h : x2_9 C G) (L : j_L S) (hrm : C.2.2.2.1.frames = 2 ∧ C.2.2.2.1.locals = 46) (c1 : S.1 l0 = 21) (c2 : 0 ≤ l2) (c3 : l2 < 4) (hM : M10_4 C.2.1 mc ms pp qq) (hp : pp (l0 + 1) S V) (hc : nc + mc ≤ C.2.2.2.1.cells) (hs : ns + ms ≤ C.2.2.2.1.slots) (k : ∀ (r : Int) (S' : jS) (V' : jH), qq (l0 + 1) S V r S' V' → j_ok n_KT 3 C G 20 [(0, (2, l0)), (1, (0, l1)), (2, (0, l2))] [(0, r), (0, V (l0 + 20) l2)] S' V' (nc + mc) (ns + ms)) : j_ok n_KT 3 C G 7 [(0, (2, l0)), (1, (0, l1)), (2, (0, l2))] [] S V nc ns := by
  have E := n_E h
  refine j_aload_n E d2_9_7 rfl 0 rfl ?_
  refine j_getS (f := 3) (x := l0 + 20) (fg0_32 h) d2_9_8 c1 (by decide) rfl rfl ((L0_3 L c1).trans (by omega)) ?_
  refine j_iload_n E d2_9_11 rfl 2 rfl ?_
  refine j_iald E d2_9_12 (j_arr_of (show S.1 (l0 + 20) = 4 from (by have q := L0_3k L c1; rw [show l0 + 20 = l0 + 20 by omega]; exact q)) (by decide) rfl) c2 c3 ?_
  refine j_aload_n E d2_9_13 rfl 0 rfl ?_
  refine j_getS (f := 0) (x := l0 + 1) (fg0_12 h) d2_9_14 c1 (by decide) rfl rfl ((L0_0 L c1).trans (by omega)) ?_
  refine j_call E (K2_9_17 h hrm hM) d2_9_17 (a := [(2, l0 + 1)]) (sk := [(0, V (l0 + 20) l2)]) rfl ⟨l0 + 1, rfl, (show S.1 (l0 + 1) = 29 from (by have q := L0_0k L c1; rw [show l0 + 1 = l0 + 1 by omega]; exact q)), hp⟩ (Nat.le_of_ble_eq_true rfl) hc hs ?_
  rintro rs S' V' ⟨z0, r, e1, rfl, q⟩
  simp only [List.cons.injEq, Prod.mk.injEq, and_true, true_and] at e1
  obtain ⟨rfl⟩ := e1
  exact j_pick [0, 1, 2] rfl (k r S' V' q)
theorem t2_9_20 {C : qCx} {G : jG} {S : jS} {V : jH} {nc ns : Nat} {l0 l1 l2 s0 s1 : Int} (h : x2_9 C G)  (k : s1 = s0 → j_ok n_KT 3 C G 25 [(0, (2, l0)), (1, (0, l1)), (2, (0, l2))] [] S V nc ns) (k' : ¬ s1 = s0 → j_ok n_KT 3 C G 23 [] [] S V nc ns) : j_ok n_KT 3 C G 20 [(0, (2, l0)), (1, (0, l1)), (2, (0, l2))] [(0, s0), (0, s1)] S V nc ns := by
  have E := n_E h
  exact j_icmp_eq E d2_9_20 (t := 25) rfl (fun q => j_pick [0, 1, 2] rfl (k q)) (fun q => j_pick [] rfl (k' q))
theorem t2_9_23 {C : qCx} {G : jG} {S : jS} {V : jH} {nc ns : Nat} {mc ms : Nat} {qf : Int → jS → jH → Prop} (h : x2_9 C G)  (R : j_Rz n_KT 3 C G b_2_9 mc ms qf) (q : qf 0 S V) (hc : nc ≤ mc) (hs : ns ≤ ms) : j_ok n_KT 3 C G 23 [] [] S V nc ns := by
  have E := n_E h
  refine j_iconst E d2_9_23 (by decide) ?_
  exact R _ _ _ _ _ _ _ d2_9_24 (by decide) q hc hs
theorem t2_9_25 {C : qCx} {G : jG} {S : jS} {V : jH} {nc ns : Nat} {l0 l1 l2 : Int} (h : x2_9 C G) (c1 : -2147483648 ≤ l2 + 1 ∧ l2 + 1 ≤ 2147483647) (k : j_ok n_KT 3 C G 2 [(0, (2, l0)), (1, (0, l1)), (2, (0, l2 + 1))] [] S V nc ns) : j_ok n_KT 3 C G 25 [(0, (2, l0)), (1, (0, l1)), (2, (0, l2))] [] S V nc ns := by
  have E := n_E h
  refine j_iinc E d2_9_25 (by decide) (by decide) 2 rfl (lo1 := [(0, (2, l0)), (1, (0, l1))]) rfl c1 ?_
  refine j_goto E d2_9_28 (t := 2) rfl ?_
  exact j_pick [1, 2, 0] rfl k
theorem t2_9_31 {C : qCx} {G : jG} {S : jS} {V : jH} {nc ns : Nat} {mc ms : Nat} {qf : Int → jS → jH → Prop} (h : x2_9 C G)  (R : j_Rz n_KT 3 C G b_2_9 mc ms qf) (q : qf 1 S V) (hc : nc ≤ mc) (hs : ns ≤ ms) : j_ok n_KT 3 C G 31 [] [] S V nc ns := by
  have E := n_E h
  refine j_iconst E d2_9_31 (by decide) ?_
  exact R _ _ _ _ _ _ _ d2_9_32 (by decide) q hc hs
/- BalanceCoder$Bench.takeSigns(IILBalanceCoder$Block;II)Z -/
abbrev b_2_7 : ByteArray := prog_2_method_7_code
def y_2_7 : MethodName := ⟨"BalanceCoder$Bench", "takeSigns", "(IILBalanceCoder$Block;II)Z"⟩
abbrev x2_7 (C : qCx) (G : jG) : Prop := n_ctx C b_2_7 7 "BalanceCoder$Bench" G.1 G.2.1
def M2_7 (l : Launch) (mc ms : Nat) (p : Int → Int → Int → Int → Int → Int → jS → jH → Prop) (q : Int → Int → Int → Int → Int → Int → jS → jH → Int → jS → jH → Prop) : Prop := j_Met l vwCl n_TL n_NW n_KT y_2_7 (Cond.code y_2_7 b_2_7 7 (some .boolean) :: n_GW) { frames := 5, cells := mc, slots := ms, locals := 126 } mc ms (fun a S V => ∃ u0 u1 u2 u3 u4 u5 : Int, a = [(2, u0), (0, u1), (0, u2), (2, u3), (0, u4), (0, u5)] ∧ S.1 u0 = 21 ∧ p u0 u1 u2 u3 u4 u5 S V) (fun a S V rs S' V' => ∃ u0 u1 u2 u3 u4 u5 r : Int, a = [(2, u0), (0, u1), (0, u2), (2, u3), (0, u4), (0, u5)] ∧ rs = [(0, r)] ∧ q u0 u1 u2 u3 u4 u5 S V r S' V')
theorem e2_7 {l : Launch} {mc ms : Nat} {p : Int → Int → Int → Int → Int → Int → jS → jH → Prop} {q : Int → Int → Int → Int → Int → Int → jS → jH → Int → jS → jH → Prop} (body : ∀ (C : qCx) (G : jG), x2_7 C G → C.2.2.2.1.frames = 5 ∧ C.2.2.2.1.locals = 126 → C.2.2.2.1.cells = mc ∧ C.2.2.2.1.slots = ms → C.2.1 = l → C.2.2.2.2.2.2.2.2.1.name = "takeSigns" → ∀ (u0 u1 u2 u3 u4 u5 : Int) (S : jS) (V : jH), S.1 u0 = 21 → p u0 u1 u2 u3 u4 u5 S V → j_Rz n_KT 7 C G b_2_7 mc ms (q u0 u1 u2 u3 u4 u5 S V) → j_ok n_KT 7 C G 0 [(0, (2, u0)), (1, (0, u1)), (2, (0, u2)), (3, (2, u3)), (4, (0, u4)), (5, (0, u5))] [] S V 0 0) : M2_7 l mc ms p q := by
  refine j_method (ws' := n_GW) (by decide) rfl ?_ ?_
  · rintro a S V ⟨u0, u1, u2, u3, u4, u5, rfl, -⟩
    exact Nat.le_of_ble_eq_true rfl
  · rintro C G htl hl hrm hm hml ho hts hnm hE a S V ⟨u0, u1, u2, u3, u4, u5, rfl, ht, hp⟩ R
    exact body C G ⟨htl, hm, hml, ho, fun w hw => hts w (List.mem_cons_of_mem _ hw), hE⟩ (by rw [hrm]; exact ⟨rfl, rfl⟩) (by rw [hrm]; exact ⟨rfl, rfl⟩) hl hnm u0 u1 u2 u3 u4 u5 S V ht hp (fun pc lo r S' V' nc ns d z q hc hs => R.2.2.1 rfl pc lo r S' V' nc ns d z ⟨u0, u1, u2, u3, u4, u5, r, rfl, rfl, q⟩ hc hs)
theorem d2_7_0 : decode b_2_7 0 = .ok (.iload_n 2, 1) := by decide +kernel
theorem d2_7_1 : decode b_2_7 1 = .ok (.iconst 1, 1) := by decide +kernel
theorem d2_7_2 : decode b_2_7 2 = .ok (.if_icmp .lt 8, 3) := by decide +kernel
theorem d2_7_5 : decode b_2_7 5 = .ok (.iload_n 2, 1) := by decide +kernel
theorem d2_7_6 : decode b_2_7 6 = .ok (.iconst 4, 1) := by decide +kernel
theorem d2_7_7 : decode b_2_7 7 = .ok (.if_icmp .le 5, 3) := by decide +kernel
theorem d2_7_10 : decode b_2_7 10 = .ok (.iconst 0, 1) := by decide +kernel
theorem d2_7_11 : decode b_2_7 11 = .ok (.ireturn, 1) := by decide +kernel
theorem d2_7_12 : decode b_2_7 12 = .ok (.aload_n 0, 1) := by decide +kernel
theorem d2_7_13 : decode b_2_7 13 = .ok (.getfield 21, 3) := by decide +kernel
theorem d2_7_16 : decode b_2_7 16 = .ok (.aload_n 0, 1) := by decide +kernel
theorem d2_7_17 : decode b_2_7 17 = .ok (.getfield 12, 3) := by decide +kernel
theorem d2_7_20 : decode b_2_7 20 = .ok (.invokevirtual 43, 3) := by decide +kernel
theorem d2_7_23 : decode b_2_7 23 = .ok (.aload_n 0, 1) := by decide +kernel
theorem d2_7_24 : decode b_2_7 24 = .ok (.getfield 28, 3) := by decide +kernel
theorem d2_7_27 : decode b_2_7 27 = .ok (.iload_n 1, 1) := by decide +kernel
theorem d2_7_28 : decode b_2_7 28 = .ok (.putfield 52, 3) := by decide +kernel
theorem d2_7_31 : decode b_2_7 31 = .ok (.aload_n 0, 1) := by decide +kernel
theorem d2_7_32 : decode b_2_7 32 = .ok (.iload 5, 2) := by decide +kernel
theorem d2_7_34 : decode b_2_7 34 = .ok (.putfield 39, 3) := by decide +kernel
theorem d2_7_37 : decode b_2_7 37 = .ok (.iconst 0, 1) := by decide +kernel
theorem d2_7_38 : decode b_2_7 38 = .ok (.istore 6, 2) := by decide +kernel
theorem d2_7_40 : decode b_2_7 40 = .ok (.iload 6, 2) := by decide +kernel
theorem d2_7_42 : decode b_2_7 42 = .ok (.iload_n 1, 1) := by decide +kernel
theorem d2_7_43 : decode b_2_7 43 = .ok (.if_icmp .ge 27, 3) := by decide +kernel
theorem d2_7_46 : decode b_2_7 46 = .ok (.aload_n 0, 1) := by decide +kernel
theorem d2_7_47 : decode b_2_7 47 = .ok (.iload 6, 2) := by decide +kernel
theorem d2_7_49 : decode b_2_7 49 = .ok (.iload 6, 2) := by decide +kernel
theorem d2_7_51 : decode b_2_7 51 = .ok (.iload_n 2, 1) := by decide +kernel
theorem d2_7_52 : decode b_2_7 52 = .ok (.irem, 1) := by decide +kernel
theorem d2_7_53 : decode b_2_7 53 = .ok (.aload_n 3, 1) := by decide +kernel
theorem d2_7_54 : decode b_2_7 54 = .ok (.iload 4, 2) := by decide +kernel
theorem d2_7_56 : decode b_2_7 56 = .ok (.invokevirtual 96, 3) := by decide +kernel
theorem d2_7_59 : decode b_2_7 59 = .ok (.ifCond .ne 5, 3) := by decide +kernel
theorem d2_7_62 : decode b_2_7 62 = .ok (.iconst 0, 1) := by decide +kernel
theorem d2_7_63 : decode b_2_7 63 = .ok (.ireturn, 1) := by decide +kernel
theorem d2_7_64 : decode b_2_7 64 = .ok (.iinc 6 1, 3) := by decide +kernel
theorem d2_7_67 : decode b_2_7 67 = .ok (.goto (-27), 3) := by decide +kernel
theorem d2_7_70 : decode b_2_7 70 = .ok (.aload_n 0, 1) := by decide +kernel
theorem d2_7_71 : decode b_2_7 71 = .ok (.getfield 39, 3) := by decide +kernel
theorem d2_7_74 : decode b_2_7 74 = .ok (.ifCond .ne 15, 3) := by decide +kernel
theorem d2_7_77 : decode b_2_7 77 = .ok (.aload_n 0, 1) := by decide +kernel
theorem d2_7_78 : decode b_2_7 78 = .ok (.iload_n 2, 1) := by decide +kernel
theorem d2_7_79 : decode b_2_7 79 = .ok (.invokevirtual 100, 3) := by decide +kernel
theorem d2_7_82 : decode b_2_7 82 = .ok (.ifCond .eq 7, 3) := by decide +kernel
theorem d2_7_85 : decode b_2_7 85 = .ok (.iconst 1, 1) := by decide +kernel
theorem d2_7_86 : decode b_2_7 86 = .ok (.goto 4, 3) := by decide +kernel
theorem d2_7_89 : decode b_2_7 89 = .ok (.iconst 0, 1) := by decide +kernel
theorem d2_7_90 : decode b_2_7 90 = .ok (.ireturn, 1) := by decide +kernel
theorem K2_7_20 {C : qCx} {G : jG} {mc ms : Nat} {p : Int → Int → jS → jH → Prop} {q : Int → Int → jS → jH → jS → jH → Prop} (h : x2_7 C G) (hrm : C.2.2.2.1.frames = 5 ∧ C.2.2.2.1.locals = 126) (hM : M6_2 C.2.1 mc ms p q) : j_Call C b_2_7 n_KT G.1 G.2.1 7 (.invokevirtual 43) mc ms (fun a S V => ∃ u0 u1 : Int, a = [(2, u0), (2, u1)] ∧ S.1 u0 = 25 ∧ p u0 u1 S V) (fun a S V rs S' V' => ∃ u0 u1 : Int, a = [(2, u0), (2, u1)] ∧ rs = [] ∧ q u0 u1 S V S' V') := j_callV n_NWk h.2.2.2.2.2 h.1 hM ⟨h.2.1.1, h.2.1.2, h.2.2.1, h.2.2.2.1, h.2.2.2.2.1⟩ ⟨n_CB (y := y_6_2) (bytes := b_6_2) 1 h.2.2.2.2.1 n_w511 n_w508 n_w9 ⟨by decide, by decide, by decide +kernel⟩ rfl rfl ⟨by rw [hrm.1]; exact Nat.le_of_ble_eq_true rfl, by rw [hrm.2]; exact Nat.le_of_ble_eq_true rfl⟩, h.2.2.2.2.1 _ n_w509, h.2.2.2.2.1 _ n_w510⟩ (Cn := RX4) (fun a S V hP => by obtain ⟨u0, u1, rfl, e, -⟩ := hP; exact ⟨u0, _, 4, _, _, TX4, 2, rfl, rfl, by rw [e]; decide, by rw [e]; rfl, rfl⟩)
theorem K2_7_56 {C : qCx} {G : jG} {mc ms : Nat} {p : Int → Int → Int → Int → Int → jS → jH → Prop} {q : Int → Int → Int → Int → Int → jS → jH → Int → jS → jH → Prop} (h : x2_7 C G) (hrm : C.2.2.2.1.frames = 5 ∧ C.2.2.2.1.locals = 126) (hM : M2_8 C.2.1 mc ms p q) : j_Call C b_2_7 n_KT G.1 G.2.1 7 (.invokevirtual 96) mc ms (fun a S V => ∃ u0 u1 u2 u3 u4 : Int, a = [(2, u0), (0, u1), (0, u2), (2, u3), (0, u4)] ∧ S.1 u0 = 21 ∧ p u0 u1 u2 u3 u4 S V) (fun a S V rs S' V' => ∃ u0 u1 u2 u3 u4 r : Int, a = [(2, u0), (0, u1), (0, u2), (2, u3), (0, u4)] ∧ rs = [(0, r)] ∧ q u0 u1 u2 u3 u4 S V r S' V') := j_callV n_NWk h.2.2.2.2.2 h.1 hM ⟨h.2.1.1, h.2.1.2, h.2.2.1, h.2.2.2.1, h.2.2.2.2.1⟩ ⟨n_CB (y := y_2_8) (bytes := b_2_8) 4 h.2.2.2.2.1 n_w644 n_w641 n_w6 ⟨by decide, by decide, by decide +kernel⟩ rfl rfl ⟨by rw [hrm.1]; exact Nat.le_of_ble_eq_true rfl, by rw [hrm.2]; exact Nat.le_of_ble_eq_true rfl⟩, h.2.2.2.2.1 _ n_w643, h.2.2.2.2.1 _ n_s23⟩ (Cn := RX0) (fun a S V hP => by obtain ⟨u0, u1, u2, u3, u4, rfl, e, -⟩ := hP; exact ⟨u0, _, 0, _, _, TX0, 6, rfl, rfl, by rw [e]; decide, by rw [e]; rfl, rfl⟩)
theorem K2_7_79 {C : qCx} {G : jG} {mc ms : Nat} {p : Int → Int → jS → jH → Prop} {q : Int → Int → jS → jH → Int → jS → jH → Prop} (h : x2_7 C G) (hrm : C.2.2.2.1.frames = 5 ∧ C.2.2.2.1.locals = 126) (hM : M2_9 C.2.1 mc ms p q) : j_Call C b_2_7 n_KT G.1 G.2.1 7 (.invokevirtual 100) mc ms (fun a S V => ∃ u0 u1 : Int, a = [(2, u0), (0, u1)] ∧ S.1 u0 = 21 ∧ p u0 u1 S V) (fun a S V rs S' V' => ∃ u0 u1 r : Int, a = [(2, u0), (0, u1)] ∧ rs = [(0, r)] ∧ q u0 u1 S V r S' V') := j_callV n_NWk h.2.2.2.2.2 h.1 hM ⟨h.2.1.1, h.2.1.2, h.2.2.1, h.2.2.2.1, h.2.2.2.2.1⟩ ⟨n_CB (y := y_2_9) (bytes := b_2_9) 1 h.2.2.2.2.1 n_w653 n_w650 n_w6 ⟨by decide, by decide, by decide +kernel⟩ rfl rfl ⟨by rw [hrm.1]; exact Nat.le_of_ble_eq_true rfl, by rw [hrm.2]; exact Nat.le_of_ble_eq_true rfl⟩, h.2.2.2.2.1 _ n_w652, h.2.2.2.2.1 _ n_s24⟩ (Cn := RX0) (fun a S V hP => by obtain ⟨u0, u1, rfl, e, -⟩ := hP; exact ⟨u0, _, 0, _, _, TX0, 6, rfl, rfl, by rw [e]; decide, by rw [e]; rfl, rfl⟩)
theorem t2_7_0 {C : qCx} {G : jG} {S : jS} {V : jH} {nc ns : Nat} {l0 l1 l2 l3 l4 l5 : Int} (h : x2_7 C G)  (k : l2 < 1 → j_ok n_KT 7 C G 10 [] [] S V nc ns) (k' : 1 ≤ l2 → j_ok n_KT 7 C G 5 [(0, (2, l0)), (1, (0, l1)), (2, (0, l2)), (3, (2, l3)), (4, (0, l4)), (5, (0, l5))] [] S V nc ns) : j_ok n_KT 7 C G 0 [(0, (2, l0)), (1, (0, l1)), (2, (0, l2)), (3, (2, l3)), (4, (0, l4)), (5, (0, l5))] [] S V nc ns := by
  have E := n_E h
  refine j_iload_n E d2_7_0 rfl 2 rfl ?_
  refine j_iconst E d2_7_1 (by decide) ?_
  exact j_icmp_lt E d2_7_2 (t := 10) rfl (fun q => j_pick [] rfl (k q)) (fun q => j_pick [0, 1, 2, 3, 4, 5] rfl (k' q))
theorem t2_7_5 {C : qCx} {G : jG} {S : jS} {V : jH} {nc ns : Nat} {l0 l1 l2 l3 l4 l5 : Int} (h : x2_7 C G)  (k : l2 ≤ 4 → j_ok n_KT 7 C G 12 [(0, (2, l0)), (1, (0, l1)), (2, (0, l2)), (3, (2, l3)), (4, (0, l4)), (5, (0, l5))] [] S V nc ns) (k' : 4 < l2 → j_ok n_KT 7 C G 10 [] [] S V nc ns) : j_ok n_KT 7 C G 5 [(0, (2, l0)), (1, (0, l1)), (2, (0, l2)), (3, (2, l3)), (4, (0, l4)), (5, (0, l5))] [] S V nc ns := by
  have E := n_E h
  refine j_iload_n E d2_7_5 rfl 2 rfl ?_
  refine j_iconst E d2_7_6 (by decide) ?_
  exact j_icmp_le E d2_7_7 (t := 12) rfl (fun q => j_pick [0, 1, 2, 3, 4, 5] rfl (k q)) (fun q => j_pick [] rfl (k' q))
theorem t2_7_10 {C : qCx} {G : jG} {S : jS} {V : jH} {nc ns : Nat} {mc ms : Nat} {qf : Int → jS → jH → Prop} (h : x2_7 C G)  (R : j_Rz n_KT 7 C G b_2_7 mc ms qf) (q : qf 0 S V) (hc : nc ≤ mc) (hs : ns ≤ ms) : j_ok n_KT 7 C G 10 [] [] S V nc ns := by
  have E := n_E h
  refine j_iconst E d2_7_10 (by decide) ?_
  exact R _ _ _ _ _ _ _ d2_7_11 (by decide) q hc hs
theorem t2_7_12 {C : qCx} {G : jG} {S : jS} {V : jH} {nc ns : Nat} {l0 l1 l2 l3 l4 l5 : Int} {mc ms : Nat} {pp : Int → Int → jS → jH → Prop} {qq : Int → Int → jS → jH → jS → jH → Prop} (h : x2_7 C G) (L : j_L S) (hrm : C.2.2.2.1.frames = 5 ∧ C.2.2.2.1.locals = 126) (c1 : S.1 l0 = 21) (hM : M6_2 C.2.1 mc ms pp qq) (hp : pp (l0 + 11) (l0 + 1) S V) (hc : nc + mc ≤ C.2.2.2.1.cells) (hs : ns + ms ≤ C.2.2.2.1.slots) (k : ∀ (S' : jS) (V' : jH), qq (l0 + 11) (l0 + 1) S V S' V' → j_ok n_KT 7 C G 23 [(0, (2, l0)), (1, (0, l1)), (2, (0, l2)), (3, (2, l3)), (4, (0, l4)), (5, (0, l5))] [] S' V' (nc + mc) (ns + ms)) : j_ok n_KT 7 C G 12 [(0, (2, l0)), (1, (0, l1)), (2, (0, l2)), (3, (2, l3)), (4, (0, l4)), (5, (0, l5))] [] S V nc ns := by
  have E := n_E h
  refine j_aload_n E d2_7_12 rfl 0 rfl ?_
  refine j_getS (f := 1) (x := l0 + 11) (fg0_21 h) d2_7_13 c1 (by decide) rfl rfl ((L0_1 L c1).trans (by omega)) ?_
  refine j_aload_n E d2_7_16 rfl 0 rfl ?_
  refine j_getS (f := 0) (x := l0 + 1) (fg0_12 h) d2_7_17 c1 (by decide) rfl rfl ((L0_0 L c1).trans (by omega)) ?_
  refine j_call E (K2_7_20 h hrm hM) d2_7_20 (a := [(2, l0 + 11), (2, l0 + 1)]) (sk := []) rfl ⟨l0 + 11, l0 + 1, rfl, (show S.1 (l0 + 11) = 25 from (by have q := L0_1k L c1; rw [show l0 + 11 = l0 + 11 by omega]; exact q)), hp⟩ (Nat.le_of_ble_eq_true rfl) hc hs ?_
  rintro rs S' V' ⟨z0, z1, e1, rfl, q⟩
  simp only [List.cons.injEq, Prod.mk.injEq, and_true, true_and] at e1
  obtain ⟨rfl, rfl⟩ := e1
  exact j_pick [0, 1, 2, 3, 4, 5] rfl (k S' V' q)
theorem t2_7_23 {C : qCx} {G : jG} {S : jS} {V : jH} {nc ns : Nat} {l0 l1 l2 l3 l4 l5 : Int} (h : x2_7 C G) (L : j_L S) (c1 : S.1 l0 = 21) (k : j_ok n_KT 7 C G 40 [(0, (2, l0)), (1, (0, l1)), (2, (0, l2)), (3, (2, l3)), (4, (0, l4)), (6, (0, 0))] [] S (j_up (j_up V (l0 + 14) 5 l1) l0 5 l5) nc ns) : j_ok n_KT 7 C G 23 [(0, (2, l0)), (1, (0, l1)), (2, (0, l2)), (3, (2, l3)), (4, (0, l4)), (5, (0, l5))] [] S V nc ns := by
  have E := n_E h
  refine j_aload_n E d2_7_23 rfl 0 rfl ?_
  refine j_getS (f := 2) (x := l0 + 14) (fg0_28 h) d2_7_24 c1 (by decide) rfl rfl ((L0_2 L c1).trans (by omega)) ?_
  refine j_iload_n E d2_7_27 rfl 1 rfl ?_
  refine j_putI (f := 5) (fp0_52 h) (n_hap h 28 7 0 _ rfl) d2_7_28 (show S.1 (l0 + 14) = 28 from (by have q := L0_2k L c1; rw [show l0 + 14 = l0 + 14 by omega]; exact q)) (by decide) rfl rfl rfl ?_
  refine j_aload_n E d2_7_31 rfl 0 rfl ?_
  refine j_iload E d2_7_32 5 rfl ?_
  refine j_putI (f := 5) (fp0_39 h) (n_hap h 21 0 0 _ rfl) d2_7_34 c1 (by decide) rfl rfl rfl ?_
  refine j_iconst E d2_7_37 (by decide) ?_
  refine j_istore E d2_7_38 (by decide) (lo1 := [(0, (2, l0)), (1, (0, l1)), (2, (0, l2)), (3, (2, l3)), (4, (0, l4)), (5, (0, l5))]) rfl ?_
  exact j_pick [1, 2, 3, 4, 5, 0] rfl k
theorem t2_7_40 {C : qCx} {G : jG} {S : jS} {V : jH} {nc ns : Nat} {l0 l1 l2 l3 l4 l6 : Int} (h : x2_7 C G)  (k : l1 ≤ l6 → j_ok n_KT 7 C G 70 [(0, (2, l0)), (2, (0, l2))] [] S V nc ns) (k' : l6 < l1 → j_ok n_KT 7 C G 46 [(0, (2, l0)), (1, (0, l1)), (2, (0, l2)), (3, (2, l3)), (4, (0, l4)), (6, (0, l6))] [] S V nc ns) : j_ok n_KT 7 C G 40 [(0, (2, l0)), (1, (0, l1)), (2, (0, l2)), (3, (2, l3)), (4, (0, l4)), (6, (0, l6))] [] S V nc ns := by
  have E := n_E h
  refine j_iload E d2_7_40 5 rfl ?_
  refine j_iload_n E d2_7_42 rfl 1 rfl ?_
  exact j_icmp_ge E d2_7_43 (t := 70) rfl (fun q => j_pick [0, 2] rfl (k q)) (fun q => j_pick [0, 1, 2, 3, 4, 5] rfl (k' q))
theorem t2_7_46 {C : qCx} {G : jG} {S : jS} {V : jH} {nc ns : Nat} {l0 l1 l2 l3 l4 l6 : Int} {mc ms : Nat} {pp : Int → Int → Int → Int → Int → jS → jH → Prop} {qq : Int → Int → Int → Int → Int → jS → jH → Int → jS → jH → Prop} (h : x2_7 C G) (hrm : C.2.2.2.1.frames = 5 ∧ C.2.2.2.1.locals = 126) (c1 : 0 ≤ l6) (c2 : 1 ≤ l2) (c3 : S.1 l0 = 21) (hM : M2_8 C.2.1 mc ms pp qq) (hp : pp l0 l6 (l6 % l2) l3 l4 S V) (hc : nc + mc ≤ C.2.2.2.1.cells) (hs : ns + ms ≤ C.2.2.2.1.slots) (k : ∀ (r : Int) (S' : jS) (V' : jH), qq l0 l6 (l6 % l2) l3 l4 S V r S' V' → j_ok n_KT 7 C G 59 [(0, (2, l0)), (1, (0, l1)), (2, (0, l2)), (3, (2, l3)), (4, (0, l4)), (6, (0, l6))] [(0, r)] S' V' (nc + mc) (ns + ms)) : j_ok n_KT 7 C G 46 [(0, (2, l0)), (1, (0, l1)), (2, (0, l2)), (3, (2, l3)), (4, (0, l4)), (6, (0, l6))] [] S V nc ns := by
  have E := n_E h
  refine j_aload_n E d2_7_46 rfl 0 rfl ?_
  refine j_iload E d2_7_47 5 rfl ?_
  refine j_iload E d2_7_49 5 rfl ?_
  refine j_iload_n E d2_7_51 rfl 2 rfl ?_
  refine j_irem E d2_7_52 c1 c2 ?_
  refine j_aload_n E d2_7_53 rfl 3 rfl ?_
  refine j_iload E d2_7_54 4 rfl ?_
  refine j_call E (K2_7_56 h hrm hM) d2_7_56 (a := [(2, l0), (0, l6), (0, l6 % l2), (2, l3), (0, l4)]) (sk := []) rfl ⟨l0, l6, l6 % l2, l3, l4, rfl, c3, hp⟩ (Nat.le_of_ble_eq_true rfl) hc hs ?_
  rintro rs S' V' ⟨z0, z1, z2, z3, z4, r, e1, rfl, q⟩
  simp only [List.cons.injEq, Prod.mk.injEq, and_true, true_and] at e1
  obtain ⟨rfl, rfl, rfl, rfl, rfl⟩ := e1
  exact j_pick [0, 1, 2, 3, 4, 5] rfl (k r S' V' q)
theorem t2_7_59 {C : qCx} {G : jG} {S : jS} {V : jH} {nc ns : Nat} {l0 l1 l2 l3 l4 l6 s0 : Int} (h : x2_7 C G)  (k : ¬ s0 = 0 → j_ok n_KT 7 C G 64 [(0, (2, l0)), (1, (0, l1)), (2, (0, l2)), (3, (2, l3)), (4, (0, l4)), (6, (0, l6))] [] S V nc ns) (k' : s0 = 0 → j_ok n_KT 7 C G 62 [] [] S V nc ns) : j_ok n_KT 7 C G 59 [(0, (2, l0)), (1, (0, l1)), (2, (0, l2)), (3, (2, l3)), (4, (0, l4)), (6, (0, l6))] [(0, s0)] S V nc ns := by
  have E := n_E h
  exact j_if_ne E d2_7_59 (t := 64) rfl (fun q => j_pick [0, 1, 2, 3, 4, 5] rfl (k q)) (fun q => j_pick [] rfl (k' q))
theorem t2_7_62 {C : qCx} {G : jG} {S : jS} {V : jH} {nc ns : Nat} {mc ms : Nat} {qf : Int → jS → jH → Prop} (h : x2_7 C G)  (R : j_Rz n_KT 7 C G b_2_7 mc ms qf) (q : qf 0 S V) (hc : nc ≤ mc) (hs : ns ≤ ms) : j_ok n_KT 7 C G 62 [] [] S V nc ns := by
  have E := n_E h
  refine j_iconst E d2_7_62 (by decide) ?_
  exact R _ _ _ _ _ _ _ d2_7_63 (by decide) q hc hs
theorem t2_7_64 {C : qCx} {G : jG} {S : jS} {V : jH} {nc ns : Nat} {l0 l1 l2 l3 l4 l6 : Int} (h : x2_7 C G) (c1 : -2147483648 ≤ l6 + 1 ∧ l6 + 1 ≤ 2147483647) (k : j_ok n_KT 7 C G 40 [(0, (2, l0)), (1, (0, l1)), (2, (0, l2)), (3, (2, l3)), (4, (0, l4)), (6, (0, l6 + 1))] [] S V nc ns) : j_ok n_KT 7 C G 64 [(0, (2, l0)), (1, (0, l1)), (2, (0, l2)), (3, (2, l3)), (4, (0, l4)), (6, (0, l6))] [] S V nc ns := by
  have E := n_E h
  refine j_iinc E d2_7_64 (by decide) (by decide) 5 rfl (lo1 := [(0, (2, l0)), (1, (0, l1)), (2, (0, l2)), (3, (2, l3)), (4, (0, l4))]) rfl c1 ?_
  refine j_goto E d2_7_67 (t := 40) rfl ?_
  exact j_pick [1, 2, 3, 4, 5, 0] rfl k
theorem t2_7_70 {C : qCx} {G : jG} {S : jS} {V : jH} {nc ns : Nat} {l0 l2 : Int} (h : x2_7 C G) (c1 : S.1 l0 = 21) (k : ¬ V l0 5 = 0 → j_ok n_KT 7 C G 89 [] [] S V nc ns) (k' : V l0 5 = 0 → j_ok n_KT 7 C G 77 [(0, (2, l0)), (2, (0, l2))] [] S V nc ns) : j_ok n_KT 7 C G 70 [(0, (2, l0)), (2, (0, l2))] [] S V nc ns := by
  have E := n_E h
  refine j_aload_n E d2_7_70 rfl 0 rfl ?_
  refine j_getI (f := 5) (fg0_39 h) d2_7_71 c1 (by decide) rfl rfl ?_
  exact j_if_ne E d2_7_74 (t := 89) rfl (fun q => j_pick [] rfl (k q)) (fun q => j_pick [0, 1] rfl (k' q))
theorem t2_7_77 {C : qCx} {G : jG} {S : jS} {V : jH} {nc ns : Nat} {l0 l2 : Int} {mc ms : Nat} {pp : Int → Int → jS → jH → Prop} {qq : Int → Int → jS → jH → Int → jS → jH → Prop} (h : x2_7 C G) (hrm : C.2.2.2.1.frames = 5 ∧ C.2.2.2.1.locals = 126) (c1 : S.1 l0 = 21) (hM : M2_9 C.2.1 mc ms pp qq) (hp : pp l0 l2 S V) (hc : nc + mc ≤ C.2.2.2.1.cells) (hs : ns + ms ≤ C.2.2.2.1.slots) (k : ∀ (r : Int) (S' : jS) (V' : jH), qq l0 l2 S V r S' V' → j_ok n_KT 7 C G 82 [] [(0, r)] S' V' (nc + mc) (ns + ms)) : j_ok n_KT 7 C G 77 [(0, (2, l0)), (2, (0, l2))] [] S V nc ns := by
  have E := n_E h
  refine j_aload_n E d2_7_77 rfl 0 rfl ?_
  refine j_iload_n E d2_7_78 rfl 1 rfl ?_
  refine j_call E (K2_7_79 h hrm hM) d2_7_79 (a := [(2, l0), (0, l2)]) (sk := []) rfl ⟨l0, l2, rfl, c1, hp⟩ (Nat.le_of_ble_eq_true rfl) hc hs ?_
  rintro rs S' V' ⟨z0, z1, r, e1, rfl, q⟩
  simp only [List.cons.injEq, Prod.mk.injEq, and_true, true_and] at e1
  obtain ⟨rfl, rfl⟩ := e1
  exact j_pick [] rfl (k r S' V' q)
theorem t2_7_82 {C : qCx} {G : jG} {S : jS} {V : jH} {nc ns : Nat} {s0 : Int} (h : x2_7 C G)  (k : s0 = 0 → j_ok n_KT 7 C G 89 [] [] S V nc ns) (k' : ¬ s0 = 0 → j_ok n_KT 7 C G 85 [] [] S V nc ns) : j_ok n_KT 7 C G 82 [] [(0, s0)] S V nc ns := by
  have E := n_E h
  exact j_if_eq E d2_7_82 (t := 89) rfl (fun q => j_pick [] rfl (k q)) (fun q => j_pick [] rfl (k' q))
theorem t2_7_85 {C : qCx} {G : jG} {S : jS} {V : jH} {nc ns : Nat} (h : x2_7 C G)  (k : j_ok n_KT 7 C G 90 [] [(0, 1)] S V nc ns) : j_ok n_KT 7 C G 85 [] [] S V nc ns := by
  have E := n_E h
  refine j_iconst E d2_7_85 (by decide) ?_
  refine j_goto E d2_7_86 (t := 90) rfl ?_
  exact j_pick [] rfl k
theorem t2_7_89 {C : qCx} {G : jG} {S : jS} {V : jH} {nc ns : Nat} (h : x2_7 C G)  (k : j_ok n_KT 7 C G 90 [] [(0, 0)] S V nc ns) : j_ok n_KT 7 C G 89 [] [] S V nc ns := by
  have E := n_E h
  refine j_iconst E d2_7_89 (by decide) ?_
  exact j_pick [] rfl k
theorem t2_7_90 {C : qCx} {G : jG} {S : jS} {V : jH} {nc ns : Nat} {s0 : Int} {mc ms : Nat} {qf : Int → jS → jH → Prop} (h : x2_7 C G)  (R : j_Rz n_KT 7 C G b_2_7 mc ms qf) (hz : 0 ≤ s0 ∧ s0 ≤ 1) (q : qf s0 S V) (hc : nc ≤ mc) (hs : ns ≤ ms) : j_ok n_KT 7 C G 90 [] [(0, s0)] S V nc ns := by
  have E := n_E h
  exact R _ _ _ _ _ _ _ d2_7_90 hz q hc hs
/- BalanceCoder$Reader.firstWrong(LBalanceCoder$Block;LBalanceCoder$Bench;)I -/
abbrev b_7_2 : ByteArray := prog_7_method_2_code
def y_7_2 : MethodName := ⟨"BalanceCoder$Reader", "firstWrong", "(LBalanceCoder$Block;LBalanceCoder$Bench;)I"⟩
abbrev x7_2 (C : qCx) (G : jG) : Prop := n_ctx C b_7_2 10 "BalanceCoder$Reader" G.1 G.2.1
def M7_2 (l : Launch) (mc ms : Nat) (p : Int → Int → Int → jS → jH → Prop) (q : Int → Int → Int → jS → jH → Int → jS → jH → Prop) : Prop := j_Met l vwCl n_TL n_NW n_KT y_7_2 (Cond.code y_7_2 b_7_2 10 (some .int) :: n_GW) { frames := 6, cells := mc, slots := ms, locals := 152 } mc ms (fun a S V => ∃ u0 u1 u2 : Int, a = [(2, u0), (2, u1), (2, u2)] ∧ S.1 u0 = 26 ∧ p u0 u1 u2 S V) (fun a S V rs S' V' => ∃ u0 u1 u2 r : Int, a = [(2, u0), (2, u1), (2, u2)] ∧ rs = [(0, r)] ∧ q u0 u1 u2 S V r S' V')
theorem e7_2 {l : Launch} {mc ms : Nat} {p : Int → Int → Int → jS → jH → Prop} {q : Int → Int → Int → jS → jH → Int → jS → jH → Prop} (body : ∀ (C : qCx) (G : jG), x7_2 C G → C.2.2.2.1.frames = 6 ∧ C.2.2.2.1.locals = 152 → C.2.2.2.1.cells = mc ∧ C.2.2.2.1.slots = ms → C.2.1 = l → C.2.2.2.2.2.2.2.2.1.name = "firstWrong" → ∀ (u0 u1 u2 : Int) (S : jS) (V : jH), S.1 u0 = 26 → p u0 u1 u2 S V → j_Ri n_KT 10 C G b_7_2 mc ms (q u0 u1 u2 S V) → j_ok n_KT 10 C G 0 [(0, (2, u0)), (1, (2, u1)), (2, (2, u2))] [] S V 0 0) : M7_2 l mc ms p q := by
  refine j_method (ws' := n_GW) (by decide) rfl ?_ ?_
  · rintro a S V ⟨u0, u1, u2, rfl, -⟩
    exact Nat.le_of_ble_eq_true rfl
  · rintro C G htl hl hrm hm hml ho hts hnm hE a S V ⟨u0, u1, u2, rfl, ht, hp⟩ R
    exact body C G ⟨htl, hm, hml, ho, fun w hw => hts w (List.mem_cons_of_mem _ hw), hE⟩ (by rw [hrm]; exact ⟨rfl, rfl⟩) (by rw [hrm]; exact ⟨rfl, rfl⟩) hl hnm u0 u1 u2 S V ht hp (fun pc lo r S' V' nc ns d q hc hs => R.2.1 rfl pc lo r S' V' nc ns d ⟨u0, u1, u2, r, rfl, rfl, q⟩ hc hs)
theorem d7_2_0 : decode b_7_2 0 = .ok (.aload_n 0, 1) := by decide +kernel
theorem d7_2_1 : decode b_7_2 1 = .ok (.iconst 0, 1) := by decide +kernel
theorem d7_2_2 : decode b_7_2 2 = .ok (.putfield 9, 3) := by decide +kernel
theorem d7_2_5 : decode b_7_2 5 = .ok (.aload_n 0, 1) := by decide +kernel
theorem d7_2_6 : decode b_7_2 6 = .ok (.iconst (-1), 1) := by decide +kernel
theorem d7_2_7 : decode b_7_2 7 = .ok (.putfield 15, 3) := by decide +kernel
theorem d7_2_10 : decode b_7_2 10 = .ok (.aload_n 0, 1) := by decide +kernel
theorem d7_2_11 : decode b_7_2 11 = .ok (.aload_n 1, 1) := by decide +kernel
theorem d7_2_12 : decode b_7_2 12 = .ok (.iconst 1, 1) := by decide +kernel
theorem d7_2_13 : decode b_7_2 13 = .ok (.iconst 0, 1) := by decide +kernel
theorem d7_2_14 : decode b_7_2 14 = .ok (.iconst 4, 1) := by decide +kernel
theorem d7_2_15 : decode b_7_2 15 = .ok (.invokevirtual 18, 3) := by decide +kernel
theorem d7_2_18 : decode b_7_2 18 = .ok (.istore_n 3, 1) := by decide +kernel
theorem d7_2_19 : decode b_7_2 19 = .ok (.aload_n 0, 1) := by decide +kernel
theorem d7_2_20 : decode b_7_2 20 = .ok (.aload_n 1, 1) := by decide +kernel
theorem d7_2_21 : decode b_7_2 21 = .ok (.iconst 1, 1) := by decide +kernel
theorem d7_2_22 : decode b_7_2 22 = .ok (.bipush 8, 2) := by decide +kernel
theorem d7_2_24 : decode b_7_2 24 = .ok (.bipush 12, 2) := by decide +kernel
theorem d7_2_26 : decode b_7_2 26 = .ok (.invokevirtual 18, 3) := by decide +kernel
theorem d7_2_29 : decode b_7_2 29 = .ok (.istore 4, 2) := by decide +kernel
theorem d7_2_31 : decode b_7_2 31 = .ok (.aload_n 0, 1) := by decide +kernel
theorem d7_2_32 : decode b_7_2 32 = .ok (.aload_n 1, 1) := by decide +kernel
theorem d7_2_33 : decode b_7_2 33 = .ok (.iconst 1, 1) := by decide +kernel
theorem d7_2_34 : decode b_7_2 34 = .ok (.iconst 1, 1) := by decide +kernel
theorem d7_2_35 : decode b_7_2 35 = .ok (.iconst 4, 1) := by decide +kernel
theorem d7_2_36 : decode b_7_2 36 = .ok (.invokevirtual 18, 3) := by decide +kernel
theorem d7_2_39 : decode b_7_2 39 = .ok (.istore 5, 2) := by decide +kernel
theorem d7_2_41 : decode b_7_2 41 = .ok (.aload_n 0, 1) := by decide +kernel
theorem d7_2_42 : decode b_7_2 42 = .ok (.aload_n 1, 1) := by decide +kernel
theorem d7_2_43 : decode b_7_2 43 = .ok (.iconst 2, 1) := by decide +kernel
theorem d7_2_44 : decode b_7_2 44 = .ok (.iconst 0, 1) := by decide +kernel
theorem d7_2_45 : decode b_7_2 45 = .ok (.sipush 400, 3) := by decide +kernel
theorem d7_2_48 : decode b_7_2 48 = .ok (.invokevirtual 18, 3) := by decide +kernel
theorem d7_2_51 : decode b_7_2 51 = .ok (.istore 6, 2) := by decide +kernel
theorem d7_2_53 : decode b_7_2 53 = .ok (.aload_n 0, 1) := by decide +kernel
theorem d7_2_54 : decode b_7_2 54 = .ok (.getfield 15, 3) := by decide +kernel
theorem d7_2_57 : decode b_7_2 57 = .ok (.ifCond .lt 8, 3) := by decide +kernel
theorem d7_2_60 : decode b_7_2 60 = .ok (.aload_n 0, 1) := by decide +kernel
theorem d7_2_61 : decode b_7_2 61 = .ok (.getfield 15, 3) := by decide +kernel
theorem d7_2_64 : decode b_7_2 64 = .ok (.ireturn, 1) := by decide +kernel
theorem d7_2_65 : decode b_7_2 65 = .ok (.aload_n 2, 1) := by decide +kernel
theorem d7_2_66 : decode b_7_2 66 = .ok (.getfield 22, 3) := by decide +kernel
theorem d7_2_69 : decode b_7_2 69 = .ok (.iload_n 3, 1) := by decide +kernel
theorem d7_2_70 : decode b_7_2 70 = .ok (.iload 4, 2) := by decide +kernel
theorem d7_2_72 : decode b_7_2 72 = .ok (.invokevirtual 28, 3) := by decide +kernel
theorem d7_2_75 : decode b_7_2 75 = .ok (.aload_n 2, 1) := by decide +kernel
theorem d7_2_76 : decode b_7_2 76 = .ok (.getfield 22, 3) := by decide +kernel
theorem d7_2_79 : decode b_7_2 79 = .ok (.invokevirtual 34, 3) := by decide +kernel
theorem d7_2_82 : decode b_7_2 82 = .ok (.ifCond .eq 12, 3) := by decide +kernel
theorem d7_2_85 : decode b_7_2 85 = .ok (.aload_n 0, 1) := by decide +kernel
theorem d7_2_86 : decode b_7_2 86 = .ok (.aload_n 1, 1) := by decide +kernel
theorem d7_2_87 : decode b_7_2 87 = .ok (.aload_n 2, 1) := by decide +kernel
theorem d7_2_88 : decode b_7_2 88 = .ok (.getfield 22, 3) := by decide +kernel
theorem d7_2_91 : decode b_7_2 91 = .ok (.invokevirtual 38, 3) := by decide +kernel
theorem d7_2_94 : decode b_7_2 94 = .ok (.aload_n 0, 1) := by decide +kernel
theorem d7_2_95 : decode b_7_2 95 = .ok (.getfield 9, 3) := by decide +kernel
theorem d7_2_98 : decode b_7_2 98 = .ok (.istore 7, 2) := by decide +kernel
theorem d7_2_100 : decode b_7_2 100 = .ok (.aload_n 0, 1) := by decide +kernel
theorem d7_2_101 : decode b_7_2 101 = .ok (.aload_n 1, 1) := by decide +kernel
theorem d7_2_102 : decode b_7_2 102 = .ok (.aload_n 2, 1) := by decide +kernel
theorem d7_2_103 : decode b_7_2 103 = .ok (.iload 5, 2) := by decide +kernel
theorem d7_2_105 : decode b_7_2 105 = .ok (.invokevirtual 42, 3) := by decide +kernel
theorem d7_2_108 : decode b_7_2 108 = .ok (.aload_n 0, 1) := by decide +kernel
theorem d7_2_109 : decode b_7_2 109 = .ok (.aload_n 1, 1) := by decide +kernel
theorem d7_2_110 : decode b_7_2 110 = .ok (.invokevirtual 46, 3) := by decide +kernel
theorem d7_2_113 : decode b_7_2 113 = .ok (.istore 8, 2) := by decide +kernel
theorem d7_2_115 : decode b_7_2 115 = .ok (.aload_n 0, 1) := by decide +kernel
theorem d7_2_116 : decode b_7_2 116 = .ok (.getfield 9, 3) := by decide +kernel
theorem d7_2_119 : decode b_7_2 119 = .ok (.istore 9, 2) := by decide +kernel
theorem d7_2_121 : decode b_7_2 121 = .ok (.aload_n 0, 1) := by decide +kernel
theorem d7_2_122 : decode b_7_2 122 = .ok (.aload_n 1, 1) := by decide +kernel
theorem d7_2_123 : decode b_7_2 123 = .ok (.iload 9, 2) := by decide +kernel
theorem d7_2_125 : decode b_7_2 125 = .ok (.iload 8, 2) := by decide +kernel
theorem d7_2_127 : decode b_7_2 127 = .ok (.iadd, 1) := by decide +kernel
theorem d7_2_128 : decode b_7_2 128 = .ok (.invokevirtual 50, 3) := by decide +kernel
theorem d7_2_131 : decode b_7_2 131 = .ok (.aload_n 0, 1) := by decide +kernel
theorem d7_2_132 : decode b_7_2 132 = .ok (.getfield 15, 3) := by decide +kernel
theorem d7_2_135 : decode b_7_2 135 = .ok (.ifCond .ge 25, 3) := by decide +kernel
theorem d7_2_138 : decode b_7_2 138 = .ok (.aload_n 2, 1) := by decide +kernel
theorem d7_2_139 : decode b_7_2 139 = .ok (.iload 6, 2) := by decide +kernel
theorem d7_2_141 : decode b_7_2 141 = .ok (.iload 5, 2) := by decide +kernel
theorem d7_2_143 : decode b_7_2 143 = .ok (.aload_n 1, 1) := by decide +kernel
theorem d7_2_144 : decode b_7_2 144 = .ok (.iload 9, 2) := by decide +kernel
theorem d7_2_146 : decode b_7_2 146 = .ok (.iload 8, 2) := by decide +kernel
theorem d7_2_148 : decode b_7_2 148 = .ok (.invokevirtual 54, 3) := by decide +kernel
theorem d7_2_151 : decode b_7_2 151 = .ok (.ifCond .ne 9, 3) := by decide +kernel
theorem d7_2_154 : decode b_7_2 154 = .ok (.aload_n 0, 1) := by decide +kernel
theorem d7_2_155 : decode b_7_2 155 = .ok (.iload 7, 2) := by decide +kernel
theorem d7_2_157 : decode b_7_2 157 = .ok (.putfield 15, 3) := by decide +kernel
theorem d7_2_160 : decode b_7_2 160 = .ok (.aload_n 0, 1) := by decide +kernel
theorem d7_2_161 : decode b_7_2 161 = .ok (.getfield 15, 3) := by decide +kernel
theorem d7_2_164 : decode b_7_2 164 = .ok (.ireturn, 1) := by decide +kernel
theorem K7_2_15 {C : qCx} {G : jG} {mc ms : Nat} {p : Int → Int → Int → Int → Int → jS → jH → Prop} {q : Int → Int → Int → Int → Int → jS → jH → Int → jS → jH → Prop} (h : x7_2 C G) (hrm : C.2.2.2.1.frames = 6 ∧ C.2.2.2.1.locals = 152) (hM : M7_3 C.2.1 mc ms p q) : j_Call C b_7_2 n_KT G.1 G.2.1 10 (.invokevirtual 18) mc ms (fun a S V => ∃ u0 u1 u2 u3 u4 : Int, a = [(2, u0), (2, u1), (0, u2), (0, u3), (0, u4)] ∧ S.1 u0 = 26 ∧ p u0 u1 u2 u3 u4 S V) (fun a S V rs S' V' => ∃ u0 u1 u2 u3 u4 r : Int, a = [(2, u0), (2, u1), (0, u2), (0, u3), (0, u4)] ∧ rs = [(0, r)] ∧ q u0 u1 u2 u3 u4 S V r S' V') := j_callV n_NWk h.2.2.2.2.2 h.1 hM ⟨h.2.1.1, h.2.1.2, h.2.2.1, h.2.2.2.1, h.2.2.2.2.1⟩ ⟨n_CB (y := y_7_3) (bytes := b_7_3) 4 h.2.2.2.2.1 n_w608 n_w605 n_w11 ⟨by decide, by decide, by decide +kernel⟩ rfl rfl ⟨by rw [hrm.1]; exact Nat.le_of_ble_eq_true rfl, by rw [hrm.2]; exact Nat.le_of_ble_eq_true rfl⟩, h.2.2.2.2.1 _ n_w607, h.2.2.2.2.1 _ n_s17⟩ (Cn := RX5) (fun a S V hP => by obtain ⟨u0, u1, u2, u3, u4, rfl, e, -⟩ := hP; exact ⟨u0, _, 5, _, _, TX5, 2, rfl, rfl, by rw [e]; decide, by rw [e]; rfl, rfl⟩)
theorem K7_2_26 {C : qCx} {G : jG} {mc ms : Nat} {p : Int → Int → Int → Int → Int → jS → jH → Prop} {q : Int → Int → Int → Int → Int → jS → jH → Int → jS → jH → Prop} (h : x7_2 C G) (hrm : C.2.2.2.1.frames = 6 ∧ C.2.2.2.1.locals = 152) (hM : M7_3 C.2.1 mc ms p q) : j_Call C b_7_2 n_KT G.1 G.2.1 10 (.invokevirtual 18) mc ms (fun a S V => ∃ u0 u1 u2 u3 u4 : Int, a = [(2, u0), (2, u1), (0, u2), (0, u3), (0, u4)] ∧ S.1 u0 = 26 ∧ p u0 u1 u2 u3 u4 S V) (fun a S V rs S' V' => ∃ u0 u1 u2 u3 u4 r : Int, a = [(2, u0), (2, u1), (0, u2), (0, u3), (0, u4)] ∧ rs = [(0, r)] ∧ q u0 u1 u2 u3 u4 S V r S' V') := j_callV n_NWk h.2.2.2.2.2 h.1 hM ⟨h.2.1.1, h.2.1.2, h.2.2.1, h.2.2.2.1, h.2.2.2.2.1⟩ ⟨n_CB (y := y_7_3) (bytes := b_7_3) 4 h.2.2.2.2.1 n_w608 n_w605 n_w11 ⟨by decide, by decide, by decide +kernel⟩ rfl rfl ⟨by rw [hrm.1]; exact Nat.le_of_ble_eq_true rfl, by rw [hrm.2]; exact Nat.le_of_ble_eq_true rfl⟩, h.2.2.2.2.1 _ n_w607, h.2.2.2.2.1 _ n_s17⟩ (Cn := RX5) (fun a S V hP => by obtain ⟨u0, u1, u2, u3, u4, rfl, e, -⟩ := hP; exact ⟨u0, _, 5, _, _, TX5, 2, rfl, rfl, by rw [e]; decide, by rw [e]; rfl, rfl⟩)
theorem K7_2_36 {C : qCx} {G : jG} {mc ms : Nat} {p : Int → Int → Int → Int → Int → jS → jH → Prop} {q : Int → Int → Int → Int → Int → jS → jH → Int → jS → jH → Prop} (h : x7_2 C G) (hrm : C.2.2.2.1.frames = 6 ∧ C.2.2.2.1.locals = 152) (hM : M7_3 C.2.1 mc ms p q) : j_Call C b_7_2 n_KT G.1 G.2.1 10 (.invokevirtual 18) mc ms (fun a S V => ∃ u0 u1 u2 u3 u4 : Int, a = [(2, u0), (2, u1), (0, u2), (0, u3), (0, u4)] ∧ S.1 u0 = 26 ∧ p u0 u1 u2 u3 u4 S V) (fun a S V rs S' V' => ∃ u0 u1 u2 u3 u4 r : Int, a = [(2, u0), (2, u1), (0, u2), (0, u3), (0, u4)] ∧ rs = [(0, r)] ∧ q u0 u1 u2 u3 u4 S V r S' V') := j_callV n_NWk h.2.2.2.2.2 h.1 hM ⟨h.2.1.1, h.2.1.2, h.2.2.1, h.2.2.2.1, h.2.2.2.2.1⟩ ⟨n_CB (y := y_7_3) (bytes := b_7_3) 4 h.2.2.2.2.1 n_w608 n_w605 n_w11 ⟨by decide, by decide, by decide +kernel⟩ rfl rfl ⟨by rw [hrm.1]; exact Nat.le_of_ble_eq_true rfl, by rw [hrm.2]; exact Nat.le_of_ble_eq_true rfl⟩, h.2.2.2.2.1 _ n_w607, h.2.2.2.2.1 _ n_s17⟩ (Cn := RX5) (fun a S V hP => by obtain ⟨u0, u1, u2, u3, u4, rfl, e, -⟩ := hP; exact ⟨u0, _, 5, _, _, TX5, 2, rfl, rfl, by rw [e]; decide, by rw [e]; rfl, rfl⟩)
theorem K7_2_48 {C : qCx} {G : jG} {mc ms : Nat} {p : Int → Int → Int → Int → Int → jS → jH → Prop} {q : Int → Int → Int → Int → Int → jS → jH → Int → jS → jH → Prop} (h : x7_2 C G) (hrm : C.2.2.2.1.frames = 6 ∧ C.2.2.2.1.locals = 152) (hM : M7_3 C.2.1 mc ms p q) : j_Call C b_7_2 n_KT G.1 G.2.1 10 (.invokevirtual 18) mc ms (fun a S V => ∃ u0 u1 u2 u3 u4 : Int, a = [(2, u0), (2, u1), (0, u2), (0, u3), (0, u4)] ∧ S.1 u0 = 26 ∧ p u0 u1 u2 u3 u4 S V) (fun a S V rs S' V' => ∃ u0 u1 u2 u3 u4 r : Int, a = [(2, u0), (2, u1), (0, u2), (0, u3), (0, u4)] ∧ rs = [(0, r)] ∧ q u0 u1 u2 u3 u4 S V r S' V') := j_callV n_NWk h.2.2.2.2.2 h.1 hM ⟨h.2.1.1, h.2.1.2, h.2.2.1, h.2.2.2.1, h.2.2.2.2.1⟩ ⟨n_CB (y := y_7_3) (bytes := b_7_3) 4 h.2.2.2.2.1 n_w608 n_w605 n_w11 ⟨by decide, by decide, by decide +kernel⟩ rfl rfl ⟨by rw [hrm.1]; exact Nat.le_of_ble_eq_true rfl, by rw [hrm.2]; exact Nat.le_of_ble_eq_true rfl⟩, h.2.2.2.2.1 _ n_w607, h.2.2.2.2.1 _ n_s17⟩ (Cn := RX5) (fun a S V hP => by obtain ⟨u0, u1, u2, u3, u4, rfl, e, -⟩ := hP; exact ⟨u0, _, 5, _, _, TX5, 2, rfl, rfl, by rw [e]; decide, by rw [e]; rfl, rfl⟩)
theorem K7_2_72 {C : qCx} {G : jG} {mc ms : Nat} {p : Int → Int → Int → jS → jH → Prop} {q : Int → Int → Int → jS → jH → jS → jH → Prop} (h : x7_2 C G) (hrm : C.2.2.2.1.frames = 6 ∧ C.2.2.2.1.locals = 152) (hM : M10_2 C.2.1 mc ms p q) : j_Call C b_7_2 n_KT G.1 G.2.1 10 (.invokevirtual 28) mc ms (fun a S V => ∃ u0 u1 u2 : Int, a = [(2, u0), (0, u1), (0, u2)] ∧ S.1 u0 = 29 ∧ p u0 u1 u2 S V) (fun a S V rs S' V' => ∃ u0 u1 u2 : Int, a = [(2, u0), (0, u1), (0, u2)] ∧ rs = [] ∧ q u0 u1 u2 S V S' V') := j_callV n_NWk h.2.2.2.2.2 h.1 hM ⟨h.2.1.1, h.2.1.2, h.2.2.1, h.2.2.2.1, h.2.2.2.2.1⟩ ⟨n_CB (y := y_10_2) (bytes := b_10_2) 2 h.2.2.2.2.1 n_w344 n_w609 n_w7 ⟨by decide, by decide, by decide +kernel⟩ rfl rfl ⟨by rw [hrm.1]; exact Nat.le_of_ble_eq_true rfl, by rw [hrm.2]; exact Nat.le_of_ble_eq_true rfl⟩, h.2.2.2.2.1 _ n_w342, h.2.2.2.2.1 _ n_w343⟩ (Cn := RX8) (fun a S V hP => by obtain ⟨u0, u1, u2, rfl, e, -⟩ := hP; exact ⟨u0, _, 8, _, _, TX8, 3, rfl, rfl, by rw [e]; decide, by rw [e]; rfl, rfl⟩)
theorem K7_2_79 {C : qCx} {G : jG} {mc ms : Nat} {p : Int → jS → jH → Prop} {q : Int → jS → jH → Int → jS → jH → Prop} (h : x7_2 C G) (hrm : C.2.2.2.1.frames = 6 ∧ C.2.2.2.1.locals = 152) (hM : M10_10 C.2.1 mc ms p q) : j_Call C b_7_2 n_KT G.1 G.2.1 10 (.invokevirtual 34) mc ms (fun a S V => ∃ u0 : Int, a = [(2, u0)] ∧ S.1 u0 = 29 ∧ p u0 S V) (fun a S V rs S' V' => ∃ u0 r : Int, a = [(2, u0)] ∧ rs = [(0, r)] ∧ q u0 S V r S' V') := j_callV n_NWk h.2.2.2.2.2 h.1 hM ⟨h.2.1.1, h.2.1.2, h.2.2.1, h.2.2.2.1, h.2.2.2.2.1⟩ ⟨n_CB (y := y_10_10) (bytes := b_10_10) 0 h.2.2.2.2.1 n_w552 n_w610 n_w7 ⟨by decide, by decide, by decide +kernel⟩ rfl rfl ⟨by rw [hrm.1]; exact Nat.le_of_ble_eq_true rfl, by rw [hrm.2]; exact Nat.le_of_ble_eq_true rfl⟩, h.2.2.2.2.1 _ n_w550, h.2.2.2.2.1 _ n_w551⟩ (Cn := RX8) (fun a S V hP => by obtain ⟨u0, rfl, e, -⟩ := hP; exact ⟨u0, _, 8, _, _, TX8, 3, rfl, rfl, by rw [e]; decide, by rw [e]; rfl, rfl⟩)
theorem K7_2_91 {C : qCx} {G : jG} {mc ms : Nat} {p : Int → Int → Int → jS → jH → Prop} {q : Int → Int → Int → jS → jH → jS → jH → Prop} (h : x7_2 C G) (hrm : C.2.2.2.1.frames = 6 ∧ C.2.2.2.1.locals = 152) (hM : M7_4 C.2.1 mc ms p q) : j_Call C b_7_2 n_KT G.1 G.2.1 10 (.invokevirtual 38) mc ms (fun a S V => ∃ u0 u1 u2 : Int, a = [(2, u0), (2, u1), (2, u2)] ∧ S.1 u0 = 26 ∧ p u0 u1 u2 S V) (fun a S V rs S' V' => ∃ u0 u1 u2 : Int, a = [(2, u0), (2, u1), (2, u2)] ∧ rs = [] ∧ q u0 u1 u2 S V S' V') := j_callV n_NWk h.2.2.2.2.2 h.1 hM ⟨h.2.1.1, h.2.1.2, h.2.2.1, h.2.2.2.1, h.2.2.2.2.1⟩ ⟨n_CB (y := y_7_4) (bytes := b_7_4) 2 h.2.2.2.2.1 n_w614 n_w611 n_w11 ⟨by decide, by decide, by decide +kernel⟩ rfl rfl ⟨by rw [hrm.1]; exact Nat.le_of_ble_eq_true rfl, by rw [hrm.2]; exact Nat.le_of_ble_eq_true rfl⟩, h.2.2.2.2.1 _ n_w613, h.2.2.2.2.1 _ n_s18⟩ (Cn := RX5) (fun a S V hP => by obtain ⟨u0, u1, u2, rfl, e, -⟩ := hP; exact ⟨u0, _, 5, _, _, TX5, 2, rfl, rfl, by rw [e]; decide, by rw [e]; rfl, rfl⟩)
theorem K7_2_105 {C : qCx} {G : jG} {mc ms : Nat} {p : Int → Int → Int → Int → jS → jH → Prop} {q : Int → Int → Int → Int → jS → jH → jS → jH → Prop} (h : x7_2 C G) (hrm : C.2.2.2.1.frames = 6 ∧ C.2.2.2.1.locals = 152) (hM : M7_6 C.2.1 mc ms p q) : j_Call C b_7_2 n_KT G.1 G.2.1 10 (.invokevirtual 42) mc ms (fun a S V => ∃ u0 u1 u2 u3 : Int, a = [(2, u0), (2, u1), (2, u2), (0, u3)] ∧ S.1 u0 = 26 ∧ p u0 u1 u2 u3 S V) (fun a S V rs S' V' => ∃ u0 u1 u2 u3 : Int, a = [(2, u0), (2, u1), (2, u2), (0, u3)] ∧ rs = [] ∧ q u0 u1 u2 u3 S V S' V') := j_callV n_NWk h.2.2.2.2.2 h.1 hM ⟨h.2.1.1, h.2.1.2, h.2.2.1, h.2.2.2.1, h.2.2.2.2.1⟩ ⟨n_CB (y := y_7_6) (bytes := b_7_6) 3 h.2.2.2.2.1 n_w626 n_w623 n_w11 ⟨by decide, by decide, by decide +kernel⟩ rfl rfl ⟨by rw [hrm.1]; exact Nat.le_of_ble_eq_true rfl, by rw [hrm.2]; exact Nat.le_of_ble_eq_true rfl⟩, h.2.2.2.2.1 _ n_w625, h.2.2.2.2.1 _ n_s20⟩ (Cn := RX5) (fun a S V hP => by obtain ⟨u0, u1, u2, u3, rfl, e, -⟩ := hP; exact ⟨u0, _, 5, _, _, TX5, 2, rfl, rfl, by rw [e]; decide, by rw [e]; rfl, rfl⟩)
theorem K7_2_110 {C : qCx} {G : jG} {mc ms : Nat} {p : Int → Int → jS → jH → Prop} {q : Int → Int → jS → jH → Int → jS → jH → Prop} (h : x7_2 C G) (hrm : C.2.2.2.1.frames = 6 ∧ C.2.2.2.1.locals = 152) (hM : M7_7 C.2.1 mc ms p q) : j_Call C b_7_2 n_KT G.1 G.2.1 10 (.invokevirtual 46) mc ms (fun a S V => ∃ u0 u1 : Int, a = [(2, u0), (2, u1)] ∧ S.1 u0 = 26 ∧ p u0 u1 S V) (fun a S V rs S' V' => ∃ u0 u1 r : Int, a = [(2, u0), (2, u1)] ∧ rs = [(0, r)] ∧ q u0 u1 S V r S' V') := j_callV n_NWk h.2.2.2.2.2 h.1 hM ⟨h.2.1.1, h.2.1.2, h.2.2.1, h.2.2.2.1, h.2.2.2.2.1⟩ ⟨n_CB (y := y_7_7) (bytes := b_7_7) 1 h.2.2.2.2.1 n_w630 n_w627 n_w11 ⟨by decide, by decide, by decide +kernel⟩ rfl rfl ⟨by rw [hrm.1]; exact Nat.le_of_ble_eq_true rfl, by rw [hrm.2]; exact Nat.le_of_ble_eq_true rfl⟩, h.2.2.2.2.1 _ n_w629, h.2.2.2.2.1 _ n_s21⟩ (Cn := RX5) (fun a S V hP => by obtain ⟨u0, u1, rfl, e, -⟩ := hP; exact ⟨u0, _, 5, _, _, TX5, 2, rfl, rfl, by rw [e]; decide, by rw [e]; rfl, rfl⟩)
theorem K7_2_128 {C : qCx} {G : jG} {mc ms : Nat} {p : Int → Int → Int → jS → jH → Prop} {q : Int → Int → Int → jS → jH → jS → jH → Prop} (h : x7_2 C G) (hrm : C.2.2.2.1.frames = 6 ∧ C.2.2.2.1.locals = 152) (hM : M7_8 C.2.1 mc ms p q) : j_Call C b_7_2 n_KT G.1 G.2.1 10 (.invokevirtual 50) mc ms (fun a S V => ∃ u0 u1 u2 : Int, a = [(2, u0), (2, u1), (0, u2)] ∧ S.1 u0 = 26 ∧ p u0 u1 u2 S V) (fun a S V rs S' V' => ∃ u0 u1 u2 : Int, a = [(2, u0), (2, u1), (0, u2)] ∧ rs = [] ∧ q u0 u1 u2 S V S' V') := j_callV n_NWk h.2.2.2.2.2 h.1 hM ⟨h.2.1.1, h.2.1.2, h.2.2.1, h.2.2.2.1, h.2.2.2.2.1⟩ ⟨n_CB (y := y_7_8) (bytes := b_7_8) 2 h.2.2.2.2.1 n_w635 n_w632 n_w11 ⟨by decide, by decide, by decide +kernel⟩ rfl rfl ⟨by rw [hrm.1]; exact Nat.le_of_ble_eq_true rfl, by rw [hrm.2]; exact Nat.le_of_ble_eq_true rfl⟩, h.2.2.2.2.1 _ n_w634, h.2.2.2.2.1 _ n_s22⟩ (Cn := RX5) (fun a S V hP => by obtain ⟨u0, u1, u2, rfl, e, -⟩ := hP; exact ⟨u0, _, 5, _, _, TX5, 2, rfl, rfl, by rw [e]; decide, by rw [e]; rfl, rfl⟩)
theorem K7_2_148 {C : qCx} {G : jG} {mc ms : Nat} {p : Int → Int → Int → Int → Int → Int → jS → jH → Prop} {q : Int → Int → Int → Int → Int → Int → jS → jH → Int → jS → jH → Prop} (h : x7_2 C G) (hrm : C.2.2.2.1.frames = 6 ∧ C.2.2.2.1.locals = 152) (hM : M2_7 C.2.1 mc ms p q) : j_Call C b_7_2 n_KT G.1 G.2.1 10 (.invokevirtual 54) mc ms (fun a S V => ∃ u0 u1 u2 u3 u4 u5 : Int, a = [(2, u0), (0, u1), (0, u2), (2, u3), (0, u4), (0, u5)] ∧ S.1 u0 = 21 ∧ p u0 u1 u2 u3 u4 u5 S V) (fun a S V rs S' V' => ∃ u0 u1 u2 u3 u4 u5 r : Int, a = [(2, u0), (0, u1), (0, u2), (2, u3), (0, u4), (0, u5)] ∧ rs = [(0, r)] ∧ q u0 u1 u2 u3 u4 u5 S V r S' V') := j_callV n_NWk h.2.2.2.2.2 h.1 hM ⟨h.2.1.1, h.2.1.2, h.2.2.1, h.2.2.2.1, h.2.2.2.2.1⟩ ⟨n_CB (y := y_2_7) (bytes := b_2_7) 5 h.2.2.2.2.1 n_w640 n_w637 n_w6 ⟨by decide, by decide, by decide +kernel⟩ rfl rfl ⟨by rw [hrm.1]; exact Nat.le_of_ble_eq_true rfl, by rw [hrm.2]; exact Nat.le_of_ble_eq_true rfl⟩, h.2.2.2.2.1 _ n_w638, h.2.2.2.2.1 _ n_w639⟩ (Cn := RX0) (fun a S V hP => by obtain ⟨u0, u1, u2, u3, u4, u5, rfl, e, -⟩ := hP; exact ⟨u0, _, 0, _, _, TX0, 6, rfl, rfl, by rw [e]; decide, by rw [e]; rfl, rfl⟩)
theorem t7_2_0 {C : qCx} {G : jG} {S : jS} {V : jH} {nc ns : Nat} {l0 l1 l2 : Int} {mc ms : Nat} {pp : Int → Int → Int → Int → Int → jS → jH → Prop} {qq : Int → Int → Int → Int → Int → jS → jH → Int → jS → jH → Prop} (h : x7_2 C G) (hrm : C.2.2.2.1.frames = 6 ∧ C.2.2.2.1.locals = 152) (c1 : S.1 l0 = 26) (hM : M7_3 C.2.1 mc ms pp qq) (hp : pp l0 l1 1 0 4 S (j_up (j_up V l0 0 0) l0 1 ((-1)))) (hc : nc + mc ≤ C.2.2.2.1.cells) (hs : ns + ms ≤ C.2.2.2.1.slots) (k : ∀ (r : Int) (S' : jS) (V' : jH), qq l0 l1 1 0 4 S (j_up (j_up V l0 0 0) l0 1 ((-1))) r S' V' → j_ok n_KT 10 C G 18 [(0, (2, l0)), (1, (2, l1)), (2, (2, l2))] [(0, r)] S' V' (nc + mc) (ns + ms)) : j_ok n_KT 10 C G 0 [(0, (2, l0)), (1, (2, l1)), (2, (2, l2))] [] S V nc ns := by
  have E := n_E h
  refine j_aload_n E d7_2_0 rfl 0 rfl ?_
  refine j_iconst E d7_2_1 (by decide) ?_
  refine j_putI (f := 0) (fp5_9 h) (n_hap h 26 5 0 _ rfl) d7_2_2 c1 (by decide) rfl rfl rfl ?_
  refine j_aload_n E d7_2_5 rfl 0 rfl ?_
  refine j_iconst E d7_2_6 (by decide) ?_
  refine j_putI (f := 1) (fp5_15 h) (n_hap h 26 5 0 _ rfl) d7_2_7 c1 (by decide) rfl rfl rfl ?_
  refine j_aload_n E d7_2_10 rfl 0 rfl ?_
  refine j_aload_n E d7_2_11 rfl 1 rfl ?_
  refine j_iconst E d7_2_12 (by decide) ?_
  refine j_iconst E d7_2_13 (by decide) ?_
  refine j_iconst E d7_2_14 (by decide) ?_
  refine j_call E (K7_2_15 h hrm hM) d7_2_15 (a := [(2, l0), (2, l1), (0, 1), (0, 0), (0, 4)]) (sk := []) rfl ⟨l0, l1, 1, 0, 4, rfl, c1, hp⟩ (Nat.le_of_ble_eq_true rfl) hc hs ?_
  rintro rs S' V' ⟨z0, z1, z2, z3, z4, r, e1, rfl, q⟩
  simp only [List.cons.injEq, Prod.mk.injEq, and_true, true_and] at e1
  obtain ⟨rfl, rfl, rfl, rfl, rfl⟩ := e1
  exact j_pick [0, 1, 2] rfl (k r S' V' q)
theorem t7_2_18 {C : qCx} {G : jG} {S : jS} {V : jH} {nc ns : Nat} {l0 l1 l2 s0 : Int} {mc ms : Nat} {pp : Int → Int → Int → Int → Int → jS → jH → Prop} {qq : Int → Int → Int → Int → Int → jS → jH → Int → jS → jH → Prop} (h : x7_2 C G) (hrm : C.2.2.2.1.frames = 6 ∧ C.2.2.2.1.locals = 152) (c1 : S.1 l0 = 26) (hM : M7_3 C.2.1 mc ms pp qq) (hp : pp l0 l1 1 8 12 S V) (hc : nc + mc ≤ C.2.2.2.1.cells) (hs : ns + ms ≤ C.2.2.2.1.slots) (k : ∀ (r : Int) (S' : jS) (V' : jH), qq l0 l1 1 8 12 S V r S' V' → j_ok n_KT 10 C G 29 [(0, (2, l0)), (1, (2, l1)), (2, (2, l2)), (3, (0, s0))] [(0, r)] S' V' (nc + mc) (ns + ms)) : j_ok n_KT 10 C G 18 [(0, (2, l0)), (1, (2, l1)), (2, (2, l2))] [(0, s0)] S V nc ns := by
  have E := n_E h
  refine j_istore_n E d7_2_18 rfl (by decide) (lo1 := [(0, (2, l0)), (1, (2, l1)), (2, (2, l2))]) rfl ?_
  refine j_aload_n E d7_2_19 rfl 1 rfl ?_
  refine j_aload_n E d7_2_20 rfl 2 rfl ?_
  refine j_iconst E d7_2_21 (by decide) ?_
  refine j_bipush E d7_2_22 (by decide) ?_
  refine j_bipush E d7_2_24 (by decide) ?_
  refine j_call E (K7_2_26 h hrm hM) d7_2_26 (a := [(2, l0), (2, l1), (0, 1), (0, 8), (0, 12)]) (sk := []) rfl ⟨l0, l1, 1, 8, 12, rfl, c1, hp⟩ (Nat.le_of_ble_eq_true rfl) hc hs ?_
  rintro rs S' V' ⟨z0, z1, z2, z3, z4, r, e1, rfl, q⟩
  simp only [List.cons.injEq, Prod.mk.injEq, and_true, true_and] at e1
  obtain ⟨rfl, rfl, rfl, rfl, rfl⟩ := e1
  exact j_pick [1, 2, 3, 0] rfl (k r S' V' q)
theorem t7_2_29 {C : qCx} {G : jG} {S : jS} {V : jH} {nc ns : Nat} {l0 l1 l2 l3 s0 : Int} {mc ms : Nat} {pp : Int → Int → Int → Int → Int → jS → jH → Prop} {qq : Int → Int → Int → Int → Int → jS → jH → Int → jS → jH → Prop} (h : x7_2 C G) (hrm : C.2.2.2.1.frames = 6 ∧ C.2.2.2.1.locals = 152) (c1 : S.1 l0 = 26) (hM : M7_3 C.2.1 mc ms pp qq) (hp : pp l0 l1 1 1 4 S V) (hc : nc + mc ≤ C.2.2.2.1.cells) (hs : ns + ms ≤ C.2.2.2.1.slots) (k : ∀ (r : Int) (S' : jS) (V' : jH), qq l0 l1 1 1 4 S V r S' V' → j_ok n_KT 10 C G 39 [(0, (2, l0)), (1, (2, l1)), (2, (2, l2)), (3, (0, l3)), (4, (0, s0))] [(0, r)] S' V' (nc + mc) (ns + ms)) : j_ok n_KT 10 C G 29 [(0, (2, l0)), (1, (2, l1)), (2, (2, l2)), (3, (0, l3))] [(0, s0)] S V nc ns := by
  have E := n_E h
  refine j_istore E d7_2_29 (by decide) (lo1 := [(0, (2, l0)), (1, (2, l1)), (2, (2, l2)), (3, (0, l3))]) rfl ?_
  refine j_aload_n E d7_2_31 rfl 1 rfl ?_
  refine j_aload_n E d7_2_32 rfl 2 rfl ?_
  refine j_iconst E d7_2_33 (by decide) ?_
  refine j_iconst E d7_2_34 (by decide) ?_
  refine j_iconst E d7_2_35 (by decide) ?_
  refine j_call E (K7_2_36 h hrm hM) d7_2_36 (a := [(2, l0), (2, l1), (0, 1), (0, 1), (0, 4)]) (sk := []) rfl ⟨l0, l1, 1, 1, 4, rfl, c1, hp⟩ (Nat.le_of_ble_eq_true rfl) hc hs ?_
  rintro rs S' V' ⟨z0, z1, z2, z3, z4, r, e1, rfl, q⟩
  simp only [List.cons.injEq, Prod.mk.injEq, and_true, true_and] at e1
  obtain ⟨rfl, rfl, rfl, rfl, rfl⟩ := e1
  exact j_pick [1, 2, 3, 4, 0] rfl (k r S' V' q)
theorem t7_2_39 {C : qCx} {G : jG} {S : jS} {V : jH} {nc ns : Nat} {l0 l1 l2 l3 l4 s0 : Int} {mc ms : Nat} {pp : Int → Int → Int → Int → Int → jS → jH → Prop} {qq : Int → Int → Int → Int → Int → jS → jH → Int → jS → jH → Prop} (h : x7_2 C G) (hrm : C.2.2.2.1.frames = 6 ∧ C.2.2.2.1.locals = 152) (c1 : S.1 l0 = 26) (hM : M7_3 C.2.1 mc ms pp qq) (hp : pp l0 l1 2 0 400 S V) (hc : nc + mc ≤ C.2.2.2.1.cells) (hs : ns + ms ≤ C.2.2.2.1.slots) (k : ∀ (r : Int) (S' : jS) (V' : jH), qq l0 l1 2 0 400 S V r S' V' → j_ok n_KT 10 C G 51 [(0, (2, l0)), (1, (2, l1)), (2, (2, l2)), (3, (0, l3)), (4, (0, l4)), (5, (0, s0))] [(0, r)] S' V' (nc + mc) (ns + ms)) : j_ok n_KT 10 C G 39 [(0, (2, l0)), (1, (2, l1)), (2, (2, l2)), (3, (0, l3)), (4, (0, l4))] [(0, s0)] S V nc ns := by
  have E := n_E h
  refine j_istore E d7_2_39 (by decide) (lo1 := [(0, (2, l0)), (1, (2, l1)), (2, (2, l2)), (3, (0, l3)), (4, (0, l4))]) rfl ?_
  refine j_aload_n E d7_2_41 rfl 1 rfl ?_
  refine j_aload_n E d7_2_42 rfl 2 rfl ?_
  refine j_iconst E d7_2_43 (by decide) ?_
  refine j_iconst E d7_2_44 (by decide) ?_
  refine j_sipush E d7_2_45 (by decide) ?_
  refine j_call E (K7_2_48 h hrm hM) d7_2_48 (a := [(2, l0), (2, l1), (0, 2), (0, 0), (0, 400)]) (sk := []) rfl ⟨l0, l1, 2, 0, 400, rfl, c1, hp⟩ (Nat.le_of_ble_eq_true rfl) hc hs ?_
  rintro rs S' V' ⟨z0, z1, z2, z3, z4, r, e1, rfl, q⟩
  simp only [List.cons.injEq, Prod.mk.injEq, and_true, true_and] at e1
  obtain ⟨rfl, rfl, rfl, rfl, rfl⟩ := e1
  exact j_pick [1, 2, 3, 4, 5, 0] rfl (k r S' V' q)
theorem t7_2_51 {C : qCx} {G : jG} {S : jS} {V : jH} {nc ns : Nat} {l0 l1 l2 l3 l4 l5 s0 : Int} (h : x7_2 C G) (c1 : S.1 l0 = 26) (k : V l0 1 < 0 → j_ok n_KT 10 C G 65 [(0, (2, l0)), (1, (2, l1)), (2, (2, l2)), (3, (0, l3)), (4, (0, l4)), (5, (0, l5)), (6, (0, s0))] [] S V nc ns) (k' : 0 ≤ V l0 1 → j_ok n_KT 10 C G 60 [(0, (2, l0))] [] S V nc ns) : j_ok n_KT 10 C G 51 [(0, (2, l0)), (1, (2, l1)), (2, (2, l2)), (3, (0, l3)), (4, (0, l4)), (5, (0, l5))] [(0, s0)] S V nc ns := by
  have E := n_E h
  refine j_istore E d7_2_51 (by decide) (lo1 := [(0, (2, l0)), (1, (2, l1)), (2, (2, l2)), (3, (0, l3)), (4, (0, l4)), (5, (0, l5))]) rfl ?_
  refine j_aload_n E d7_2_53 rfl 1 rfl ?_
  refine j_getI (f := 1) (fg5_15 h) d7_2_54 c1 (by decide) rfl rfl ?_
  exact j_if_lt E d7_2_57 (t := 65) rfl (fun q => j_pick [1, 2, 3, 4, 5, 6, 0] rfl (k q)) (fun q => j_pick [1] rfl (k' q))
theorem t7_2_60 {C : qCx} {G : jG} {S : jS} {V : jH} {nc ns : Nat} {l0 : Int} {mc ms : Nat} {qf : Int → jS → jH → Prop} (h : x7_2 C G) (c1 : S.1 l0 = 26) (R : j_Ri n_KT 10 C G b_7_2 mc ms qf) (q : qf (V l0 1) S V) (hc : nc ≤ mc) (hs : ns ≤ ms) : j_ok n_KT 10 C G 60 [(0, (2, l0))] [] S V nc ns := by
  have E := n_E h
  refine j_aload_n E d7_2_60 rfl 0 rfl ?_
  refine j_getI (f := 1) (fg5_15 h) d7_2_61 c1 (by decide) rfl rfl ?_
  exact R _ _ _ _ _ _ _ d7_2_64 q hc hs
theorem t7_2_65 {C : qCx} {G : jG} {S : jS} {V : jH} {nc ns : Nat} {l0 l1 l2 l3 l4 l5 l6 : Int} {mc ms : Nat} {pp : Int → Int → Int → jS → jH → Prop} {qq : Int → Int → Int → jS → jH → jS → jH → Prop} (h : x7_2 C G) (L : j_L S) (hrm : C.2.2.2.1.frames = 6 ∧ C.2.2.2.1.locals = 152) (c1 : S.1 l2 = 21) (hM : M10_2 C.2.1 mc ms pp qq) (hp : pp (l2 + 1) l3 l4 S V) (hc : nc + mc ≤ C.2.2.2.1.cells) (hs : ns + ms ≤ C.2.2.2.1.slots) (k : ∀ (S' : jS) (V' : jH), qq (l2 + 1) l3 l4 S V S' V' → j_ok n_KT 10 C G 75 [(0, (2, l0)), (1, (2, l1)), (2, (2, l2)), (5, (0, l5)), (6, (0, l6))] [] S' V' (nc + mc) (ns + ms)) : j_ok n_KT 10 C G 65 [(0, (2, l0)), (1, (2, l1)), (2, (2, l2)), (3, (0, l3)), (4, (0, l4)), (5, (0, l5)), (6, (0, l6))] [] S V nc ns := by
  have E := n_E h
  refine j_aload_n E d7_2_65 rfl 2 rfl ?_
  refine j_getS (f := 0) (x := l2 + 1) (fg5_22 h) d7_2_66 c1 (by decide) rfl rfl ((L0_0 L c1).trans (by omega)) ?_
  refine j_iload_n E d7_2_69 rfl 3 rfl ?_
  refine j_iload E d7_2_70 4 rfl ?_
  refine j_call E (K7_2_72 h hrm hM) d7_2_72 (a := [(2, l2 + 1), (0, l3), (0, l4)]) (sk := []) rfl ⟨l2 + 1, l3, l4, rfl, (show S.1 (l2 + 1) = 29 from (by have q := L0_0k L c1; rw [show l2 + 1 = l2 + 1 by omega]; exact q)), hp⟩ (Nat.le_of_ble_eq_true rfl) hc hs ?_
  rintro rs S' V' ⟨z0, z1, z2, e1, rfl, q⟩
  simp only [List.cons.injEq, Prod.mk.injEq, and_true, true_and] at e1
  obtain ⟨rfl, rfl, rfl⟩ := e1
  exact j_pick [0, 1, 2, 5, 6] rfl (k S' V' q)
theorem t7_2_75 {C : qCx} {G : jG} {S : jS} {V : jH} {nc ns : Nat} {l0 l1 l2 l5 l6 : Int} {mc ms : Nat} {pp : Int → jS → jH → Prop} {qq : Int → jS → jH → Int → jS → jH → Prop} (h : x7_2 C G) (L : j_L S) (hrm : C.2.2.2.1.frames = 6 ∧ C.2.2.2.1.locals = 152) (c1 : S.1 l2 = 21) (hM : M10_10 C.2.1 mc ms pp qq) (hp : pp (l2 + 1) S V) (hc : nc + mc ≤ C.2.2.2.1.cells) (hs : ns + ms ≤ C.2.2.2.1.slots) (k : ∀ (r : Int) (S' : jS) (V' : jH), qq (l2 + 1) S V r S' V' → j_ok n_KT 10 C G 82 [(0, (2, l0)), (1, (2, l1)), (2, (2, l2)), (5, (0, l5)), (6, (0, l6))] [(0, r)] S' V' (nc + mc) (ns + ms)) : j_ok n_KT 10 C G 75 [(0, (2, l0)), (1, (2, l1)), (2, (2, l2)), (5, (0, l5)), (6, (0, l6))] [] S V nc ns := by
  have E := n_E h
  refine j_aload_n E d7_2_75 rfl 2 rfl ?_
  refine j_getS (f := 0) (x := l2 + 1) (fg5_22 h) d7_2_76 c1 (by decide) rfl rfl ((L0_0 L c1).trans (by omega)) ?_
  refine j_call E (K7_2_79 h hrm hM) d7_2_79 (a := [(2, l2 + 1)]) (sk := []) rfl ⟨l2 + 1, rfl, (show S.1 (l2 + 1) = 29 from (by have q := L0_0k L c1; rw [show l2 + 1 = l2 + 1 by omega]; exact q)), hp⟩ (Nat.le_of_ble_eq_true rfl) hc hs ?_
  rintro rs S' V' ⟨z0, r, e1, rfl, q⟩
  simp only [List.cons.injEq, Prod.mk.injEq, and_true, true_and] at e1
  obtain ⟨rfl⟩ := e1
  exact j_pick [0, 1, 2, 3, 4] rfl (k r S' V' q)
theorem t7_2_82 {C : qCx} {G : jG} {S : jS} {V : jH} {nc ns : Nat} {l0 l1 l2 l5 l6 s0 : Int} (h : x7_2 C G)  (k : s0 = 0 → j_ok n_KT 10 C G 94 [(0, (2, l0)), (1, (2, l1)), (2, (2, l2)), (5, (0, l5)), (6, (0, l6))] [] S V nc ns) (k' : ¬ s0 = 0 → j_ok n_KT 10 C G 85 [(0, (2, l0)), (1, (2, l1)), (2, (2, l2)), (5, (0, l5)), (6, (0, l6))] [] S V nc ns) : j_ok n_KT 10 C G 82 [(0, (2, l0)), (1, (2, l1)), (2, (2, l2)), (5, (0, l5)), (6, (0, l6))] [(0, s0)] S V nc ns := by
  have E := n_E h
  exact j_if_eq E d7_2_82 (t := 94) rfl (fun q => j_pick [0, 1, 2, 3, 4] rfl (k q)) (fun q => j_pick [0, 1, 2, 3, 4] rfl (k' q))
theorem t7_2_85 {C : qCx} {G : jG} {S : jS} {V : jH} {nc ns : Nat} {l0 l1 l2 l5 l6 : Int} {mc ms : Nat} {pp : Int → Int → Int → jS → jH → Prop} {qq : Int → Int → Int → jS → jH → jS → jH → Prop} (h : x7_2 C G) (L : j_L S) (hrm : C.2.2.2.1.frames = 6 ∧ C.2.2.2.1.locals = 152) (c1 : S.1 l2 = 21) (c2 : S.1 l0 = 26) (hM : M7_4 C.2.1 mc ms pp qq) (hp : pp l0 l1 (l2 + 1) S V) (hc : nc + mc ≤ C.2.2.2.1.cells) (hs : ns + ms ≤ C.2.2.2.1.slots) (k : ∀ (S' : jS) (V' : jH), qq l0 l1 (l2 + 1) S V S' V' → j_ok n_KT 10 C G 94 [(0, (2, l0)), (1, (2, l1)), (2, (2, l2)), (5, (0, l5)), (6, (0, l6))] [] S' V' (nc + mc) (ns + ms)) : j_ok n_KT 10 C G 85 [(0, (2, l0)), (1, (2, l1)), (2, (2, l2)), (5, (0, l5)), (6, (0, l6))] [] S V nc ns := by
  have E := n_E h
  refine j_aload_n E d7_2_85 rfl 0 rfl ?_
  refine j_aload_n E d7_2_86 rfl 1 rfl ?_
  refine j_aload_n E d7_2_87 rfl 2 rfl ?_
  refine j_getS (f := 0) (x := l2 + 1) (fg5_22 h) d7_2_88 c1 (by decide) rfl rfl ((L0_0 L c1).trans (by omega)) ?_
  refine j_call E (K7_2_91 h hrm hM) d7_2_91 (a := [(2, l0), (2, l1), (2, l2 + 1)]) (sk := []) rfl ⟨l0, l1, l2 + 1, rfl, c2, hp⟩ (Nat.le_of_ble_eq_true rfl) hc hs ?_
  rintro rs S' V' ⟨z0, z1, z2, e1, rfl, q⟩
  simp only [List.cons.injEq, Prod.mk.injEq, and_true, true_and] at e1
  obtain ⟨rfl, rfl, rfl⟩ := e1
  exact j_pick [0, 1, 2, 3, 4] rfl (k S' V' q)
theorem t7_2_94 {C : qCx} {G : jG} {S : jS} {V : jH} {nc ns : Nat} {l0 l1 l2 l5 l6 : Int} {mc ms : Nat} {pp : Int → Int → Int → Int → jS → jH → Prop} {qq : Int → Int → Int → Int → jS → jH → jS → jH → Prop} (h : x7_2 C G) (hrm : C.2.2.2.1.frames = 6 ∧ C.2.2.2.1.locals = 152) (c1 : S.1 l0 = 26) (hM : M7_6 C.2.1 mc ms pp qq) (hp : pp l0 l1 l2 l5 S V) (hc : nc + mc ≤ C.2.2.2.1.cells) (hs : ns + ms ≤ C.2.2.2.1.slots) (k : ∀ (S' : jS) (V' : jH), qq l0 l1 l2 l5 S V S' V' → j_ok n_KT 10 C G 108 [(0, (2, l0)), (1, (2, l1)), (2, (2, l2)), (5, (0, l5)), (6, (0, l6)), (7, (0, V l0 0))] [] S' V' (nc + mc) (ns + ms)) : j_ok n_KT 10 C G 94 [(0, (2, l0)), (1, (2, l1)), (2, (2, l2)), (5, (0, l5)), (6, (0, l6))] [] S V nc ns := by
  have E := n_E h
  refine j_aload_n E d7_2_94 rfl 0 rfl ?_
  refine j_getI (f := 0) (fg5_9 h) d7_2_95 c1 (by decide) rfl rfl ?_
  refine j_istore E d7_2_98 (by decide) (lo1 := [(0, (2, l0)), (1, (2, l1)), (2, (2, l2)), (5, (0, l5)), (6, (0, l6))]) rfl ?_
  refine j_aload_n E d7_2_100 rfl 1 rfl ?_
  refine j_aload_n E d7_2_101 rfl 2 rfl ?_
  refine j_aload_n E d7_2_102 rfl 3 rfl ?_
  refine j_iload E d7_2_103 4 rfl ?_
  refine j_call E (K7_2_105 h hrm hM) d7_2_105 (a := [(2, l0), (2, l1), (2, l2), (0, l5)]) (sk := []) rfl ⟨l0, l1, l2, l5, rfl, c1, hp⟩ (Nat.le_of_ble_eq_true rfl) hc hs ?_
  rintro rs S' V' ⟨z0, z1, z2, z3, e1, rfl, q⟩
  simp only [List.cons.injEq, Prod.mk.injEq, and_true, true_and] at e1
  obtain ⟨rfl, rfl, rfl, rfl⟩ := e1
  exact j_pick [1, 2, 3, 4, 5, 0] rfl (k S' V' q)
theorem t7_2_108 {C : qCx} {G : jG} {S : jS} {V : jH} {nc ns : Nat} {l0 l1 l2 l5 l6 l7 : Int} {mc ms : Nat} {pp : Int → Int → jS → jH → Prop} {qq : Int → Int → jS → jH → Int → jS → jH → Prop} (h : x7_2 C G) (hrm : C.2.2.2.1.frames = 6 ∧ C.2.2.2.1.locals = 152) (c1 : S.1 l0 = 26) (hM : M7_7 C.2.1 mc ms pp qq) (hp : pp l0 l1 S V) (hc : nc + mc ≤ C.2.2.2.1.cells) (hs : ns + ms ≤ C.2.2.2.1.slots) (k : ∀ (r : Int) (S' : jS) (V' : jH), qq l0 l1 S V r S' V' → j_ok n_KT 10 C G 113 [(0, (2, l0)), (1, (2, l1)), (2, (2, l2)), (5, (0, l5)), (6, (0, l6)), (7, (0, l7))] [(0, r)] S' V' (nc + mc) (ns + ms)) : j_ok n_KT 10 C G 108 [(0, (2, l0)), (1, (2, l1)), (2, (2, l2)), (5, (0, l5)), (6, (0, l6)), (7, (0, l7))] [] S V nc ns := by
  have E := n_E h
  refine j_aload_n E d7_2_108 rfl 0 rfl ?_
  refine j_aload_n E d7_2_109 rfl 1 rfl ?_
  refine j_call E (K7_2_110 h hrm hM) d7_2_110 (a := [(2, l0), (2, l1)]) (sk := []) rfl ⟨l0, l1, rfl, c1, hp⟩ (Nat.le_of_ble_eq_true rfl) hc hs ?_
  rintro rs S' V' ⟨z0, z1, r, e1, rfl, q⟩
  simp only [List.cons.injEq, Prod.mk.injEq, and_true, true_and] at e1
  obtain ⟨rfl, rfl⟩ := e1
  exact j_pick [0, 1, 2, 3, 4, 5] rfl (k r S' V' q)
theorem t7_2_113 {C : qCx} {G : jG} {S : jS} {V : jH} {nc ns : Nat} {l0 l1 l2 l5 l6 l7 s0 : Int} {mc ms : Nat} {pp : Int → Int → Int → jS → jH → Prop} {qq : Int → Int → Int → jS → jH → jS → jH → Prop} (h : x7_2 C G) (hrm : C.2.2.2.1.frames = 6 ∧ C.2.2.2.1.locals = 152) (c1 : S.1 l0 = 26) (c2 : -2147483648 ≤ (V l0 0) + s0 ∧ (V l0 0) + s0 ≤ 2147483647) (hM : M7_8 C.2.1 mc ms pp qq) (hp : pp l0 l1 ((V l0 0) + s0) S V) (hc : nc + mc ≤ C.2.2.2.1.cells) (hs : ns + ms ≤ C.2.2.2.1.slots) (k : ∀ (S' : jS) (V' : jH), qq l0 l1 ((V l0 0) + s0) S V S' V' → j_ok n_KT 10 C G 131 [(0, (2, l0)), (1, (2, l1)), (2, (2, l2)), (5, (0, l5)), (6, (0, l6)), (7, (0, l7)), (8, (0, s0)), (9, (0, V l0 0))] [] S' V' (nc + mc) (ns + ms)) : j_ok n_KT 10 C G 113 [(0, (2, l0)), (1, (2, l1)), (2, (2, l2)), (5, (0, l5)), (6, (0, l6)), (7, (0, l7))] [(0, s0)] S V nc ns := by
  have E := n_E h
  refine j_istore E d7_2_113 (by decide) (lo1 := [(0, (2, l0)), (1, (2, l1)), (2, (2, l2)), (5, (0, l5)), (6, (0, l6)), (7, (0, l7))]) rfl ?_
  refine j_aload_n E d7_2_115 rfl 1 rfl ?_
  refine j_getI (f := 0) (fg5_9 h) d7_2_116 c1 (by decide) rfl rfl ?_
  refine j_istore E d7_2_119 (by decide) (lo1 := [(8, (0, s0)), (0, (2, l0)), (1, (2, l1)), (2, (2, l2)), (5, (0, l5)), (6, (0, l6)), (7, (0, l7))]) rfl ?_
  refine j_aload_n E d7_2_121 rfl 2 rfl ?_
  refine j_aload_n E d7_2_122 rfl 3 rfl ?_
  refine j_iload E d7_2_123 0 rfl ?_
  refine j_iload E d7_2_125 1 rfl ?_
  refine j_iadd E d7_2_127 c2 ?_
  refine j_call E (K7_2_128 h hrm hM) d7_2_128 (a := [(2, l0), (2, l1), (0, (V l0 0) + s0)]) (sk := []) rfl ⟨l0, l1, (V l0 0) + s0, rfl, c1, hp⟩ (Nat.le_of_ble_eq_true rfl) hc hs ?_
  rintro rs S' V' ⟨z0, z1, z2, e1, rfl, q⟩
  simp only [List.cons.injEq, Prod.mk.injEq, and_true, true_and] at e1
  obtain ⟨rfl, rfl, rfl⟩ := e1
  exact j_pick [2, 3, 4, 5, 6, 7, 1, 0] rfl (k S' V' q)
theorem t7_2_131 {C : qCx} {G : jG} {S : jS} {V : jH} {nc ns : Nat} {l0 l1 l2 l5 l6 l7 l8 l9 : Int} (h : x7_2 C G) (c1 : S.1 l0 = 26) (k : 0 ≤ V l0 1 → j_ok n_KT 10 C G 160 [(0, (2, l0))] [] S V nc ns) (k' : V l0 1 < 0 → j_ok n_KT 10 C G 138 [(0, (2, l0)), (1, (2, l1)), (2, (2, l2)), (5, (0, l5)), (6, (0, l6)), (7, (0, l7)), (8, (0, l8)), (9, (0, l9))] [] S V nc ns) : j_ok n_KT 10 C G 131 [(0, (2, l0)), (1, (2, l1)), (2, (2, l2)), (5, (0, l5)), (6, (0, l6)), (7, (0, l7)), (8, (0, l8)), (9, (0, l9))] [] S V nc ns := by
  have E := n_E h
  refine j_aload_n E d7_2_131 rfl 0 rfl ?_
  refine j_getI (f := 1) (fg5_15 h) d7_2_132 c1 (by decide) rfl rfl ?_
  exact j_if_ge E d7_2_135 (t := 160) rfl (fun q => j_pick [0] rfl (k q)) (fun q => j_pick [0, 1, 2, 3, 4, 5, 6, 7] rfl (k' q))
theorem t7_2_138 {C : qCx} {G : jG} {S : jS} {V : jH} {nc ns : Nat} {l0 l1 l2 l5 l6 l7 l8 l9 : Int} {mc ms : Nat} {pp : Int → Int → Int → Int → Int → Int → jS → jH → Prop} {qq : Int → Int → Int → Int → Int → Int → jS → jH → Int → jS → jH → Prop} (h : x7_2 C G) (hrm : C.2.2.2.1.frames = 6 ∧ C.2.2.2.1.locals = 152) (c1 : S.1 l2 = 21) (hM : M2_7 C.2.1 mc ms pp qq) (hp : pp l2 l6 l5 l1 l9 l8 S V) (hc : nc + mc ≤ C.2.2.2.1.cells) (hs : ns + ms ≤ C.2.2.2.1.slots) (k : ∀ (r : Int) (S' : jS) (V' : jH), qq l2 l6 l5 l1 l9 l8 S V r S' V' → j_ok n_KT 10 C G 151 [(0, (2, l0)), (7, (0, l7))] [(0, r)] S' V' (nc + mc) (ns + ms)) : j_ok n_KT 10 C G 138 [(0, (2, l0)), (1, (2, l1)), (2, (2, l2)), (5, (0, l5)), (6, (0, l6)), (7, (0, l7)), (8, (0, l8)), (9, (0, l9))] [] S V nc ns := by
  have E := n_E h
  refine j_aload_n E d7_2_138 rfl 2 rfl ?_
  refine j_iload E d7_2_139 4 rfl ?_
  refine j_iload E d7_2_141 3 rfl ?_
  refine j_aload_n E d7_2_143 rfl 1 rfl ?_
  refine j_iload E d7_2_144 7 rfl ?_
  refine j_iload E d7_2_146 6 rfl ?_
  refine j_call E (K7_2_148 h hrm hM) d7_2_148 (a := [(2, l2), (0, l6), (0, l5), (2, l1), (0, l9), (0, l8)]) (sk := []) rfl ⟨l2, l6, l5, l1, l9, l8, rfl, c1, hp⟩ (Nat.le_of_ble_eq_true rfl) hc hs ?_
  rintro rs S' V' ⟨z0, z1, z2, z3, z4, z5, r, e1, rfl, q⟩
  simp only [List.cons.injEq, Prod.mk.injEq, and_true, true_and] at e1
  obtain ⟨rfl, rfl, rfl, rfl, rfl, rfl⟩ := e1
  exact j_pick [0, 5] rfl (k r S' V' q)
theorem t7_2_151 {C : qCx} {G : jG} {S : jS} {V : jH} {nc ns : Nat} {l0 l7 s0 : Int} (h : x7_2 C G)  (k : ¬ s0 = 0 → j_ok n_KT 10 C G 160 [(0, (2, l0))] [] S V nc ns) (k' : s0 = 0 → j_ok n_KT 10 C G 154 [(0, (2, l0)), (7, (0, l7))] [] S V nc ns) : j_ok n_KT 10 C G 151 [(0, (2, l0)), (7, (0, l7))] [(0, s0)] S V nc ns := by
  have E := n_E h
  exact j_if_ne E d7_2_151 (t := 160) rfl (fun q => j_pick [0] rfl (k q)) (fun q => j_pick [0, 1] rfl (k' q))
theorem t7_2_154 {C : qCx} {G : jG} {S : jS} {V : jH} {nc ns : Nat} {l0 l7 : Int} (h : x7_2 C G) (c1 : S.1 l0 = 26) (k : j_ok n_KT 10 C G 160 [(0, (2, l0))] [] S (j_up V l0 1 l7) nc ns) : j_ok n_KT 10 C G 154 [(0, (2, l0)), (7, (0, l7))] [] S V nc ns := by
  have E := n_E h
  refine j_aload_n E d7_2_154 rfl 0 rfl ?_
  refine j_iload E d7_2_155 1 rfl ?_
  refine j_putI (f := 1) (fp5_15 h) (n_hap h 26 5 0 _ rfl) d7_2_157 c1 (by decide) rfl rfl rfl ?_
  exact j_pick [0] rfl k
theorem t7_2_160 {C : qCx} {G : jG} {S : jS} {V : jH} {nc ns : Nat} {l0 : Int} {mc ms : Nat} {qf : Int → jS → jH → Prop} (h : x7_2 C G) (c1 : S.1 l0 = 26) (R : j_Ri n_KT 10 C G b_7_2 mc ms qf) (q : qf (V l0 1) S V) (hc : nc ≤ mc) (hs : ns ≤ ms) : j_ok n_KT 10 C G 160 [(0, (2, l0))] [] S V nc ns := by
  have E := n_E h
  refine j_aload_n E d7_2_160 rfl 0 rfl ?_
  refine j_getI (f := 1) (fg5_15 h) d7_2_161 c1 (by decide) rfl rfl ?_
  exact R _ _ _ _ _ _ _ d7_2_164 q hc hs
/- BalanceCoder$Row.become(LBalanceCoder$Steps;)V -/
abbrev b_8_4 : ByteArray := prog_8_method_4_code
def y_8_4 : MethodName := ⟨"BalanceCoder$Row", "become", "(LBalanceCoder$Steps;)V"⟩
abbrev x8_4 (C : qCx) (G : jG) : Prop := n_ctx C b_8_4 2 "BalanceCoder$Row" G.1 G.2.1
def M8_4 (l : Launch) (mc ms : Nat) (p : Int → Int → jS → jH → Prop) (q : Int → Int → jS → jH → jS → jH → Prop) : Prop := j_Met l vwCl n_TL n_NW n_KT y_8_4 (Cond.code y_8_4 b_8_4 2 none :: n_GW) { frames := 1, cells := mc, slots := ms, locals := 26 } mc ms (fun a S V => ∃ u0 u1 : Int, a = [(2, u0), (2, u1)] ∧ S.1 u0 = 27 ∧ p u0 u1 S V) (fun a S V rs S' V' => ∃ u0 u1 : Int, a = [(2, u0), (2, u1)] ∧ rs = [] ∧ q u0 u1 S V S' V')
theorem e8_4 {l : Launch} {mc ms : Nat} {p : Int → Int → jS → jH → Prop} {q : Int → Int → jS → jH → jS → jH → Prop} (body : ∀ (C : qCx) (G : jG), x8_4 C G → C.2.2.2.1.frames = 1 ∧ C.2.2.2.1.locals = 26 → C.2.2.2.1.cells = mc ∧ C.2.2.2.1.slots = ms → C.2.1 = l → C.2.2.2.2.2.2.2.2.1.name = "become" → ∀ (u0 u1 : Int) (S : jS) (V : jH), S.1 u0 = 27 → p u0 u1 S V → j_Rv n_KT 2 C G b_8_4 mc ms (q u0 u1 S V) → j_ok n_KT 2 C G 0 [(0, (2, u0)), (1, (2, u1))] [] S V 0 0) : M8_4 l mc ms p q := by
  refine j_method (ws' := n_GW) (by decide) rfl ?_ ?_
  · rintro a S V ⟨u0, u1, rfl, -⟩
    exact Nat.le_of_ble_eq_true rfl
  · rintro C G htl hl hrm hm hml ho hts hnm hE a S V ⟨u0, u1, rfl, ht, hp⟩ R
    exact body C G ⟨htl, hm, hml, ho, fun w hw => hts w (List.mem_cons_of_mem _ hw), hE⟩ (by rw [hrm]; exact ⟨rfl, rfl⟩) (by rw [hrm]; exact ⟨rfl, rfl⟩) hl hnm u0 u1 S V ht hp (fun pc lo S' V' nc ns d q hc hs => R.1 rfl pc lo S' V' nc ns d ⟨u0, u1, rfl, rfl, q⟩ hc hs)
theorem d8_4_0 : decode b_8_4 0 = .ok (.aload_n 1, 1) := by decide +kernel
theorem d8_4_1 : decode b_8_4 1 = .ok (.getfield 25, 3) := by decide +kernel
theorem d8_4_4 : decode b_8_4 4 = .ok (.iconst 0, 1) := by decide +kernel
theorem d8_4_5 : decode b_8_4 5 = .ok (.aload_n 0, 1) := by decide +kernel
theorem d8_4_6 : decode b_8_4 6 = .ok (.getfield 9, 3) := by decide +kernel
theorem d8_4_9 : decode b_8_4 9 = .ok (.iconst 0, 1) := by decide +kernel
theorem d8_4_10 : decode b_8_4 10 = .ok (.aload_n 1, 1) := by decide +kernel
theorem d8_4_11 : decode b_8_4 11 = .ok (.getfield 28, 3) := by decide +kernel
theorem d8_4_14 : decode b_8_4 14 = .ok (.invokestatic 19, 3) := by decide +kernel
theorem d8_4_17 : decode b_8_4 17 = .ok (.aload_n 0, 1) := by decide +kernel
theorem d8_4_18 : decode b_8_4 18 = .ok (.aload_n 1, 1) := by decide +kernel
theorem d8_4_19 : decode b_8_4 19 = .ok (.getfield 28, 3) := by decide +kernel
theorem d8_4_22 : decode b_8_4 22 = .ok (.putfield 15, 3) := by decide +kernel
theorem d8_4_25 : decode b_8_4 25 = .ok (.return_, 1) := by decide +kernel
theorem t8_4_0 {C : qCx} {G : jG} {S : jS} {V : jH} {nc ns : Nat} {l0 l1 : Int} {mc ms : Nat} {qf : jS → jH → Prop} (h : x8_4 C G) (L : j_L S) (hR : 1 ≤ C.2.2.2.1.frames ∧ 26 ≤ C.2.2.2.1.locals) (c1 : S.1 l1 = 28) (c2 : S.1 l0 = 27) (c3 : 0 ≤ V l1 5) (c4 : 0 + (V l1 5) ≤ 400) (R : j_Rv n_KT 2 C G b_8_4 mc ms qf) (q : qf S (j_up (j_cpy V (l1 + 1) 0 (l0 + 1) 0 (V l1 5)) l0 1 ((j_cpy V (l1 + 1) 0 (l0 + 1) 0 (V l1 5)) l1 5))) (hc : nc ≤ mc) (hs : ns ≤ ms) : j_ok n_KT 2 C G 0 [(0, (2, l0)), (1, (2, l1))] [] S V nc ns := by
  have E := n_E h
  refine j_aload_n E d8_4_0 rfl 1 rfl ?_
  refine j_getS (f := 0) (x := l1 + 1) (fg6_25 h) d8_4_1 c1 (by decide) rfl rfl ((L7_0 L c1).trans (by omega)) ?_
  refine j_iconst E d8_4_4 (by decide) ?_
  refine j_aload_n E d8_4_5 rfl 0 rfl ?_
  refine j_getS (f := 0) (x := l0 + 1) (fg6_9 h) d8_4_6 c2 (by decide) rfl rfl ((L6_0 L c2).trans (by omega)) ?_
  refine j_iconst E d8_4_9 (by decide) ?_
  refine j_aload_n E d8_4_10 rfl 1 rfl ?_
  refine j_getI (f := 5) (fg6_28 h) d8_4_11 c1 (by decide) rfl rfl ?_
  refine j_cpA E (fc6_19 h ⟨hR.1, by have := hR.2; simp only [nativeFrameWords] at *; first | omega | (simp; omega)⟩) d8_4_14 (j_arr_of (show S.1 (l1 + 1) = 1 from (by have q := L7_0k L c1; rw [show l1 + 1 = l1 + 1 by omega]; exact q)) (by decide) rfl) (j_arr_of (show S.1 (l0 + 1) = 1 from (by have q := L6_0k L c2; rw [show l0 + 1 = l0 + 1 by omega]; exact q)) (by decide) rfl) c3 (by decide) (by decide) c4 c4 (Nat.le_of_ble_eq_true rfl) ?_
  refine j_aload_n E d8_4_17 rfl 0 rfl ?_
  refine j_aload_n E d8_4_18 rfl 1 rfl ?_
  refine j_getI (f := 5) (fg6_28 h) d8_4_19 c1 (by decide) rfl rfl ?_
  refine j_putI (f := 1) (fp6_15 h) (n_hap h 27 6 0 _ rfl) d8_4_22 c2 (by decide) rfl rfl rfl ?_
  exact R _ _ _ _ _ _ d8_4_25 q hc hs
/- BalanceCoder.take(I)I -/
abbrev b_1_14 : ByteArray := prog_1_method_14_code
def y_1_14 : MethodName := ⟨"BalanceCoder", "take", "(I)I"⟩
abbrev x1_14 (C : qCx) (G : jG) : Prop := n_ctx C b_1_14 4 "BalanceCoder" G.1 G.2.1
def M1_14 (l : Launch) (mc ms : Nat) (p : Int → Int → jS → jH → Prop) (q : Int → Int → jS → jH → Int → jS → jH → Prop) : Prop := j_Met l vwCl n_TL n_NW n_KT y_1_14 (Cond.code y_1_14 b_1_14 4 (some .int) :: n_GW) { frames := 7, cells := mc, slots := ms, locals := 181 } mc ms (fun a S V => ∃ u0 u1 : Int, a = [(2, u0), (0, u1)] ∧ S.1 u0 = 31 ∧ p u0 u1 S V) (fun a S V rs S' V' => ∃ u0 u1 r : Int, a = [(2, u0), (0, u1)] ∧ rs = [(0, r)] ∧ q u0 u1 S V r S' V')
theorem e1_14 {l : Launch} {mc ms : Nat} {p : Int → Int → jS → jH → Prop} {q : Int → Int → jS → jH → Int → jS → jH → Prop} (body : ∀ (C : qCx) (G : jG), x1_14 C G → C.2.2.2.1.frames = 7 ∧ C.2.2.2.1.locals = 181 → C.2.2.2.1.cells = mc ∧ C.2.2.2.1.slots = ms → C.2.1 = l → C.2.2.2.2.2.2.2.2.1.name = "take" → ∀ (u0 u1 : Int) (S : jS) (V : jH), S.1 u0 = 31 → p u0 u1 S V → j_Ri n_KT 4 C G b_1_14 mc ms (q u0 u1 S V) → j_ok n_KT 4 C G 0 [(0, (2, u0)), (1, (0, u1))] [] S V 0 0) : M1_14 l mc ms p q := by
  refine j_method (ws' := n_GW) (by decide) rfl ?_ ?_
  · rintro a S V ⟨u0, u1, rfl, -⟩
    exact Nat.le_of_ble_eq_true rfl
  · rintro C G htl hl hrm hm hml ho hts hnm hE a S V ⟨u0, u1, rfl, ht, hp⟩ R
    exact body C G ⟨htl, hm, hml, ho, fun w hw => hts w (List.mem_cons_of_mem _ hw), hE⟩ (by rw [hrm]; exact ⟨rfl, rfl⟩) (by rw [hrm]; exact ⟨rfl, rfl⟩) hl hnm u0 u1 S V ht hp (fun pc lo r S' V' nc ns d q hc hs => R.2.1 rfl pc lo r S' V' nc ns d ⟨u0, u1, r, rfl, rfl, q⟩ hc hs)
theorem d1_14_0 : decode b_1_14 0 = .ok (.aload_n 0, 1) := by decide +kernel
theorem d1_14_1 : decode b_1_14 1 = .ok (.iload_n 1, 1) := by decide +kernel
theorem d1_14_2 : decode b_1_14 2 = .ok (.invokevirtual 51, 3) := by decide +kernel
theorem d1_14_5 : decode b_1_14 5 = .ok (.astore_n 2, 1) := by decide +kernel
theorem d1_14_6 : decode b_1_14 6 = .ok (.aload_n 2, 1) := by decide +kernel
theorem d1_14_7 : decode b_1_14 7 = .ok (.ifnonnull 9, 3) := by decide +kernel
theorem d1_14_10 : decode b_1_14 10 = .ok (.aload_n 0, 1) := by decide +kernel
theorem d1_14_11 : decode b_1_14 11 = .ok (.iconst (-1), 1) := by decide +kernel
theorem d1_14_12 : decode b_1_14 12 = .ok (.invokevirtual 55, 3) := by decide +kernel
theorem d1_14_15 : decode b_1_14 15 = .ok (.ireturn, 1) := by decide +kernel
theorem d1_14_16 : decode b_1_14 16 = .ok (.aload_n 0, 1) := by decide +kernel
theorem d1_14_17 : decode b_1_14 17 = .ok (.getfield 36, 3) := by decide +kernel
theorem d1_14_20 : decode b_1_14 20 = .ok (.aload_n 0, 1) := by decide +kernel
theorem d1_14_21 : decode b_1_14 21 = .ok (.getfield 10, 3) := by decide +kernel
theorem d1_14_24 : decode b_1_14 24 = .ok (.getfield 155, 3) := by decide +kernel
theorem d1_14_27 : decode b_1_14 27 = .ok (.aload_n 0, 1) := by decide +kernel
theorem d1_14_28 : decode b_1_14 28 = .ok (.getfield 22, 3) := by decide +kernel
theorem d1_14_31 : decode b_1_14 31 = .ok (.invokevirtual 165, 3) := by decide +kernel
theorem d1_14_34 : decode b_1_14 34 = .ok (.istore_n 3, 1) := by decide +kernel
theorem d1_14_35 : decode b_1_14 35 = .ok (.iload_n 3, 1) := by decide +kernel
theorem d1_14_36 : decode b_1_14 36 = .ok (.ifCond .lt 12, 3) := by decide +kernel
theorem d1_14_39 : decode b_1_14 39 = .ok (.aload_n 0, 1) := by decide +kernel
theorem d1_14_40 : decode b_1_14 40 = .ok (.bipush (-100), 2) := by decide +kernel
theorem d1_14_42 : decode b_1_14 42 = .ok (.iload_n 3, 1) := by decide +kernel
theorem d1_14_43 : decode b_1_14 43 = .ok (.isub, 1) := by decide +kernel
theorem d1_14_44 : decode b_1_14 44 = .ok (.invokevirtual 55, 3) := by decide +kernel
theorem d1_14_47 : decode b_1_14 47 = .ok (.ireturn, 1) := by decide +kernel
theorem d1_14_48 : decode b_1_14 48 = .ok (.aload_n 0, 1) := by decide +kernel
theorem d1_14_49 : decode b_1_14 49 = .ok (.getfield 10, 3) := by decide +kernel
theorem d1_14_52 : decode b_1_14 52 = .ok (.getfield 155, 3) := by decide +kernel
theorem d1_14_55 : decode b_1_14 55 = .ok (.aload_n 0, 1) := by decide +kernel
theorem d1_14_56 : decode b_1_14 56 = .ok (.getfield 22, 3) := by decide +kernel
theorem d1_14_59 : decode b_1_14 59 = .ok (.getfield 169, 3) := by decide +kernel
theorem d1_14_62 : decode b_1_14 62 = .ok (.invokevirtual 173, 3) := by decide +kernel
theorem d1_14_65 : decode b_1_14 65 = .ok (.aload_n 2, 1) := by decide +kernel
theorem d1_14_66 : decode b_1_14 66 = .ok (.aload_n 0, 1) := by decide +kernel
theorem d1_14_67 : decode b_1_14 67 = .ok (.getfield 22, 3) := by decide +kernel
theorem d1_14_70 : decode b_1_14 70 = .ok (.getfield 169, 3) := by decide +kernel
theorem d1_14_73 : decode b_1_14 73 = .ok (.invokevirtual 177, 3) := by decide +kernel
theorem d1_14_76 : decode b_1_14 76 = .ok (.aload_n 2, 1) := by decide +kernel
theorem d1_14_77 : decode b_1_14 77 = .ok (.getfield 59, 3) := by decide +kernel
theorem d1_14_80 : decode b_1_14 80 = .ok (.ireturn, 1) := by decide +kernel
theorem K1_14_2 {C : qCx} {G : jG} {mc ms : Nat} {p : Int → Int → jS → jH → Prop} {q : Int → Int → jS → jH → Int → jS → jH → Prop} (h : x1_14 C G) (hrm : C.2.2.2.1.frames = 7 ∧ C.2.2.2.1.locals = 181) (hM : M1_29 C.2.1 mc ms p q) : j_Call C b_1_14 n_KT G.1 G.2.1 4 (.invokevirtual 51) mc ms (fun a S V => ∃ u0 u1 : Int, a = [(2, u0), (0, u1)] ∧ S.1 u0 = 31 ∧ p u0 u1 S V) (fun a S V rs S' V' => ∃ u0 u1 r : Int, a = [(2, u0), (0, u1)] ∧ rs = [(2, r)] ∧ q u0 u1 S V r S' V') := j_callV n_NWk h.2.2.2.2.2 h.1 hM ⟨h.2.1.1, h.2.1.2, h.2.2.1, h.2.2.2.1, h.2.2.2.2.1⟩ ⟨n_CB (y := y_1_29) (bytes := b_1_29) 1 h.2.2.2.2.1 n_w305 n_w302 n_w1 ⟨by decide, by decide, by decide +kernel⟩ rfl rfl ⟨by rw [hrm.1]; exact Nat.le_of_ble_eq_true rfl, by rw [hrm.2]; exact Nat.le_of_ble_eq_true rfl⟩, h.2.2.2.2.1 _ n_w304, h.2.2.2.2.1 _ n_s0⟩ (Cn := RX10) (fun a S V hP => by obtain ⟨u0, u1, rfl, e, -⟩ := hP; exact ⟨u0, _, 10, _, _, TX10, 8, rfl, rfl, by rw [e]; decide, by rw [e]; rfl, rfl⟩)
theorem K1_14_12 {C : qCx} {G : jG} {mc ms : Nat} {p : Int → Int → jS → jH → Prop} {q : Int → Int → jS → jH → Int → jS → jH → Prop} (h : x1_14 C G) (hrm : C.2.2.2.1.frames = 7 ∧ C.2.2.2.1.locals = 181) (hM : M1_27 C.2.1 mc ms p q) : j_Call C b_1_14 n_KT G.1 G.2.1 4 (.invokevirtual 55) mc ms (fun a S V => ∃ u0 u1 : Int, a = [(2, u0), (0, u1)] ∧ S.1 u0 = 31 ∧ p u0 u1 S V) (fun a S V rs S' V' => ∃ u0 u1 r : Int, a = [(2, u0), (0, u1)] ∧ rs = [(0, r)] ∧ q u0 u1 S V r S' V') := j_callV n_NWk h.2.2.2.2.2 h.1 hM ⟨h.2.1.1, h.2.1.2, h.2.2.1, h.2.2.2.1, h.2.2.2.2.1⟩ ⟨n_CB (y := y_1_27) (bytes := b_1_27) 1 h.2.2.2.2.1 n_w309 n_w306 n_w1 ⟨by decide, by decide, by decide +kernel⟩ rfl rfl ⟨by rw [hrm.1]; exact Nat.le_of_ble_eq_true rfl, by rw [hrm.2]; exact Nat.le_of_ble_eq_true rfl⟩, h.2.2.2.2.1 _ n_w308, h.2.2.2.2.1 _ n_s1⟩ (Cn := RX10) (fun a S V hP => by obtain ⟨u0, u1, rfl, e, -⟩ := hP; exact ⟨u0, _, 10, _, _, TX10, 8, rfl, rfl, by rw [e]; decide, by rw [e]; rfl, rfl⟩)
theorem K1_14_31 {C : qCx} {G : jG} {mc ms : Nat} {p : Int → Int → Int → jS → jH → Prop} {q : Int → Int → Int → jS → jH → Int → jS → jH → Prop} (h : x1_14 C G) (hrm : C.2.2.2.1.frames = 7 ∧ C.2.2.2.1.locals = 181) (hM : M7_2 C.2.1 mc ms p q) : j_Call C b_1_14 n_KT G.1 G.2.1 4 (.invokevirtual 165) mc ms (fun a S V => ∃ u0 u1 u2 : Int, a = [(2, u0), (2, u1), (2, u2)] ∧ S.1 u0 = 26 ∧ p u0 u1 u2 S V) (fun a S V rs S' V' => ∃ u0 u1 u2 r : Int, a = [(2, u0), (2, u1), (2, u2)] ∧ rs = [(0, r)] ∧ q u0 u1 u2 S V r S' V') := j_callV n_NWk h.2.2.2.2.2 h.1 hM ⟨h.2.1.1, h.2.1.2, h.2.2.1, h.2.2.2.1, h.2.2.2.2.1⟩ ⟨n_CB (y := y_7_2) (bytes := b_7_2) 2 h.2.2.2.2.1 n_w604 n_w601 n_w11 ⟨by decide, by decide, by decide +kernel⟩ rfl rfl ⟨by rw [hrm.1]; exact Nat.le_of_ble_eq_true rfl, by rw [hrm.2]; exact Nat.le_of_ble_eq_true rfl⟩, h.2.2.2.2.1 _ n_w602, h.2.2.2.2.1 _ n_w603⟩ (Cn := RX5) (fun a S V hP => by obtain ⟨u0, u1, u2, rfl, e, -⟩ := hP; exact ⟨u0, _, 5, _, _, TX5, 2, rfl, rfl, by rw [e]; decide, by rw [e]; rfl, rfl⟩)
theorem K1_14_44 {C : qCx} {G : jG} {mc ms : Nat} {p : Int → Int → jS → jH → Prop} {q : Int → Int → jS → jH → Int → jS → jH → Prop} (h : x1_14 C G) (hrm : C.2.2.2.1.frames = 7 ∧ C.2.2.2.1.locals = 181) (hM : M1_27 C.2.1 mc ms p q) : j_Call C b_1_14 n_KT G.1 G.2.1 4 (.invokevirtual 55) mc ms (fun a S V => ∃ u0 u1 : Int, a = [(2, u0), (0, u1)] ∧ S.1 u0 = 31 ∧ p u0 u1 S V) (fun a S V rs S' V' => ∃ u0 u1 r : Int, a = [(2, u0), (0, u1)] ∧ rs = [(0, r)] ∧ q u0 u1 S V r S' V') := j_callV n_NWk h.2.2.2.2.2 h.1 hM ⟨h.2.1.1, h.2.1.2, h.2.2.1, h.2.2.2.1, h.2.2.2.2.1⟩ ⟨n_CB (y := y_1_27) (bytes := b_1_27) 1 h.2.2.2.2.1 n_w309 n_w306 n_w1 ⟨by decide, by decide, by decide +kernel⟩ rfl rfl ⟨by rw [hrm.1]; exact Nat.le_of_ble_eq_true rfl, by rw [hrm.2]; exact Nat.le_of_ble_eq_true rfl⟩, h.2.2.2.2.1 _ n_w308, h.2.2.2.2.1 _ n_s1⟩ (Cn := RX10) (fun a S V hP => by obtain ⟨u0, u1, rfl, e, -⟩ := hP; exact ⟨u0, _, 10, _, _, TX10, 8, rfl, rfl, by rw [e]; decide, by rw [e]; rfl, rfl⟩)
theorem K1_14_62 {C : qCx} {G : jG} {mc ms : Nat} {p : Int → Int → jS → jH → Prop} {q : Int → Int → jS → jH → jS → jH → Prop} (h : x1_14 C G) (hrm : C.2.2.2.1.frames = 7 ∧ C.2.2.2.1.locals = 181) (hM : M3_5 C.2.1 mc ms p q) : j_Call C b_1_14 n_KT G.1 G.2.1 4 (.invokevirtual 173) mc ms (fun a S V => ∃ u0 u1 : Int, a = [(2, u0), (2, u1)] ∧ S.1 u0 = 22 ∧ p u0 u1 S V) (fun a S V rs S' V' => ∃ u0 u1 : Int, a = [(2, u0), (2, u1)] ∧ rs = [] ∧ q u0 u1 S V S' V') := j_callV n_NWk h.2.2.2.2.2 h.1 hM ⟨h.2.1.1, h.2.1.2, h.2.2.1, h.2.2.2.1, h.2.2.2.2.1⟩ ⟨n_CB (y := y_3_5) (bytes := b_3_5) 1 h.2.2.2.2.1 n_w585 n_w654 n_w3 ⟨by decide, by decide, by decide +kernel⟩ rfl rfl ⟨by rw [hrm.1]; exact Nat.le_of_ble_eq_true rfl, by rw [hrm.2]; exact Nat.le_of_ble_eq_true rfl⟩, h.2.2.2.2.1 _ n_w583, h.2.2.2.2.1 _ n_w584⟩ (Cn := RX1) (fun a S V hP => by obtain ⟨u0, u1, rfl, e, -⟩ := hP; exact ⟨u0, _, 1, _, _, TX1, 5, rfl, rfl, by rw [e]; decide, by rw [e]; rfl, rfl⟩)
theorem K1_14_73 {C : qCx} {G : jG} {mc ms : Nat} {p : Int → Int → jS → jH → Prop} {q : Int → Int → jS → jH → jS → jH → Prop} (h : x1_14 C G) (hrm : C.2.2.2.1.frames = 7 ∧ C.2.2.2.1.locals = 181) (hM : M8_4 C.2.1 mc ms p q) : j_Call C b_1_14 n_KT G.1 G.2.1 4 (.invokevirtual 177) mc ms (fun a S V => ∃ u0 u1 : Int, a = [(2, u0), (2, u1)] ∧ S.1 u0 = 27 ∧ p u0 u1 S V) (fun a S V rs S' V' => ∃ u0 u1 : Int, a = [(2, u0), (2, u1)] ∧ rs = [] ∧ q u0 u1 S V S' V') := j_callV n_NWk h.2.2.2.2.2 h.1 hM ⟨h.2.1.1, h.2.1.2, h.2.2.1, h.2.2.2.1, h.2.2.2.2.1⟩ ⟨n_CB (y := y_8_4) (bytes := b_8_4) 1 h.2.2.2.2.1 n_w658 n_w655 n_w5 ⟨by decide, by decide, by decide +kernel⟩ rfl rfl ⟨by rw [hrm.1]; exact Nat.le_of_ble_eq_true rfl, by rw [hrm.2]; exact Nat.le_of_ble_eq_true rfl⟩, h.2.2.2.2.1 _ n_w656, h.2.2.2.2.1 _ n_w657⟩ (Cn := RX6) (fun a S V hP => by obtain ⟨u0, u1, rfl, e, -⟩ := hP; exact ⟨u0, _, 6, _, _, TX6, 2, rfl, rfl, by rw [e]; decide, by rw [e]; rfl, rfl⟩)
theorem t1_14_0 {C : qCx} {G : jG} {S : jS} {V : jH} {nc ns : Nat} {l0 l1 : Int} {mc ms : Nat} {pp : Int → Int → jS → jH → Prop} {qq : Int → Int → jS → jH → Int → jS → jH → Prop} (h : x1_14 C G) (hrm : C.2.2.2.1.frames = 7 ∧ C.2.2.2.1.locals = 181) (c1 : S.1 l0 = 31) (hM : M1_29 C.2.1 mc ms pp qq) (hp : pp l0 l1 S V) (hc : nc + mc ≤ C.2.2.2.1.cells) (hs : ns + ms ≤ C.2.2.2.1.slots) (k : ∀ (r : Int) (S' : jS) (V' : jH), qq l0 l1 S V r S' V' → j_ok n_KT 4 C G 5 [(0, (2, l0))] [(2, r)] S' V' (nc + mc) (ns + ms)) : j_ok n_KT 4 C G 0 [(0, (2, l0)), (1, (0, l1))] [] S V nc ns := by
  have E := n_E h
  refine j_aload_n E d1_14_0 rfl 0 rfl ?_
  refine j_iload_n E d1_14_1 rfl 1 rfl ?_
  refine j_call E (K1_14_2 h hrm hM) d1_14_2 (a := [(2, l0), (0, l1)]) (sk := []) rfl ⟨l0, l1, rfl, c1, hp⟩ (Nat.le_of_ble_eq_true rfl) hc hs ?_
  rintro rs S' V' ⟨z0, z1, r, e1, rfl, q⟩
  simp only [List.cons.injEq, Prod.mk.injEq, and_true, true_and] at e1
  obtain ⟨rfl, rfl⟩ := e1
  exact j_pick [0] rfl (k r S' V' q)
theorem t1_14_5 {C : qCx} {G : jG} {S : jS} {V : jH} {nc ns : Nat} {l0 s0 : Int} (h : x1_14 C G)  (k : 0 ≤ s0 → S.1 s0 ≠ 0 → j_ok n_KT 4 C G 16 [(0, (2, l0)), (2, (2, s0))] [] S V nc ns) (k' : s0 = -1 → j_ok n_KT 4 C G 10 [(0, (2, l0))] [] S V nc ns) : j_ok n_KT 4 C G 5 [(0, (2, l0))] [(2, s0)] S V nc ns := by
  have E := n_E h
  refine j_astore_n E d1_14_5 rfl (by decide) (lo1 := [(0, (2, l0))]) rfl ?_
  refine j_aload_n E d1_14_6 rfl 0 rfl ?_
  exact j_ifnonnull E d1_14_7 (t := 16) rfl (fun q q2 => j_pick [1, 0] rfl (k q q2)) (fun q => j_pick [1] rfl (k' q))
theorem t1_14_10 {C : qCx} {G : jG} {S : jS} {V : jH} {nc ns : Nat} {l0 : Int} {mc ms : Nat} {pp : Int → Int → jS → jH → Prop} {qq : Int → Int → jS → jH → Int → jS → jH → Prop} (h : x1_14 C G) (hrm : C.2.2.2.1.frames = 7 ∧ C.2.2.2.1.locals = 181) (c1 : S.1 l0 = 31) (hM : M1_27 C.2.1 mc ms pp qq) (hp : pp l0 ((-1)) S V) (hc : nc + mc ≤ C.2.2.2.1.cells) (hs : ns + ms ≤ C.2.2.2.1.slots) (k : ∀ (r : Int) (S' : jS) (V' : jH), qq l0 ((-1)) S V r S' V' → j_ok n_KT 4 C G 15 [] [(0, r)] S' V' (nc + mc) (ns + ms)) : j_ok n_KT 4 C G 10 [(0, (2, l0))] [] S V nc ns := by
  have E := n_E h
  refine j_aload_n E d1_14_10 rfl 0 rfl ?_
  refine j_iconst E d1_14_11 (by decide) ?_
  refine j_call E (K1_14_12 h hrm hM) d1_14_12 (a := [(2, l0), (0, (-1))]) (sk := []) rfl ⟨l0, (-1), rfl, c1, hp⟩ (Nat.le_of_ble_eq_true rfl) hc hs ?_
  rintro rs S' V' ⟨z0, z1, r, e1, rfl, q⟩
  simp only [List.cons.injEq, Prod.mk.injEq, and_true, true_and] at e1
  obtain ⟨rfl, rfl⟩ := e1
  exact j_pick [] rfl (k r S' V' q)
theorem t1_14_15 {C : qCx} {G : jG} {S : jS} {V : jH} {nc ns : Nat} {s0 : Int} {mc ms : Nat} {qf : Int → jS → jH → Prop} (h : x1_14 C G)  (R : j_Ri n_KT 4 C G b_1_14 mc ms qf) (q : qf s0 S V) (hc : nc ≤ mc) (hs : ns ≤ ms) : j_ok n_KT 4 C G 15 [] [(0, s0)] S V nc ns := by
  have E := n_E h
  exact R _ _ _ _ _ _ _ d1_14_15 q hc hs
theorem t1_14_16 {C : qCx} {G : jG} {S : jS} {V : jH} {nc ns : Nat} {l0 l2 : Int} {mc ms : Nat} {pp : Int → Int → Int → jS → jH → Prop} {qq : Int → Int → Int → jS → jH → Int → jS → jH → Prop} (h : x1_14 C G) (L : j_L S) (hrm : C.2.2.2.1.frames = 7 ∧ C.2.2.2.1.locals = 181) (c1 : S.1 l0 = 31) (hM : M7_2 C.2.1 mc ms pp qq) (hp : pp (l0 + 240) (l0 + 16) (l0 + 200) S V) (hc : nc + mc ≤ C.2.2.2.1.cells) (hs : ns + ms ≤ C.2.2.2.1.slots) (k : ∀ (r : Int) (S' : jS) (V' : jH), qq (l0 + 240) (l0 + 16) (l0 + 200) S V r S' V' → j_ok n_KT 4 C G 34 [(0, (2, l0)), (2, (2, l2))] [(0, r)] S' V' (nc + mc) (ns + ms)) : j_ok n_KT 4 C G 16 [(0, (2, l0)), (2, (2, l2))] [] S V nc ns := by
  have E := n_E h
  refine j_aload_n E d1_14_16 rfl 0 rfl ?_
  refine j_getS (f := 4) (x := l0 + 240) (fg10_36 h) d1_14_17 c1 (by decide) rfl rfl ((L10_4 L c1).trans (by omega)) ?_
  refine j_aload_n E d1_14_20 rfl 0 rfl ?_
  refine j_getS (f := 0) (x := l0 + 1) (fg10_10 h) d1_14_21 c1 (by decide) rfl rfl ((L10_0 L c1).trans (by omega)) ?_
  refine j_getS (f := 3) (x := l0 + 16) (fg10_155 h) d1_14_24 (show S.1 (l0 + 1) = 30 from (by have q := L10_0k L c1; rw [show l0 + 1 = l0 + 1 by omega]; exact q)) (by decide) rfl rfl ((L9_3 L (show S.1 (l0 + 1) = 30 from (by have q := L10_0k L c1; rw [show l0 + 1 = l0 + 1 by omega]; exact q))).trans (by omega)) ?_
  refine j_aload_n E d1_14_27 rfl 0 rfl ?_
  refine j_getS (f := 2) (x := l0 + 200) (fg10_22 h) d1_14_28 c1 (by decide) rfl rfl ((L10_2 L c1).trans (by omega)) ?_
  refine j_call E (K1_14_31 h hrm hM) d1_14_31 (a := [(2, l0 + 240), (2, l0 + 16), (2, l0 + 200)]) (sk := []) rfl ⟨l0 + 240, l0 + 16, l0 + 200, rfl, (show S.1 (l0 + 240) = 26 from (by have q := L10_4k L c1; rw [show l0 + 240 = l0 + 240 by omega]; exact q)), hp⟩ (Nat.le_of_ble_eq_true rfl) hc hs ?_
  rintro rs S' V' ⟨z0, z1, z2, r, e1, rfl, q⟩
  simp only [List.cons.injEq, Prod.mk.injEq, and_true, true_and] at e1
  obtain ⟨rfl, rfl, rfl⟩ := e1
  exact j_pick [0, 1] rfl (k r S' V' q)
theorem t1_14_34 {C : qCx} {G : jG} {S : jS} {V : jH} {nc ns : Nat} {l0 l2 s0 : Int} (h : x1_14 C G)  (k : s0 < 0 → j_ok n_KT 4 C G 48 [(0, (2, l0)), (2, (2, l2))] [] S V nc ns) (k' : 0 ≤ s0 → j_ok n_KT 4 C G 39 [(0, (2, l0)), (3, (0, s0))] [] S V nc ns) : j_ok n_KT 4 C G 34 [(0, (2, l0)), (2, (2, l2))] [(0, s0)] S V nc ns := by
  have E := n_E h
  refine j_istore_n E d1_14_34 rfl (by decide) (lo1 := [(0, (2, l0)), (2, (2, l2))]) rfl ?_
  refine j_iload_n E d1_14_35 rfl 0 rfl ?_
  exact j_if_lt E d1_14_36 (t := 48) rfl (fun q => j_pick [1, 2] rfl (k q)) (fun q => j_pick [1, 0] rfl (k' q))
theorem t1_14_39 {C : qCx} {G : jG} {S : jS} {V : jH} {nc ns : Nat} {l0 l3 : Int} {mc ms : Nat} {pp : Int → Int → jS → jH → Prop} {qq : Int → Int → jS → jH → Int → jS → jH → Prop} (h : x1_14 C G) (hrm : C.2.2.2.1.frames = 7 ∧ C.2.2.2.1.locals = 181) (c1 : -2147483648 ≤ ((-100)) - l3 ∧ ((-100)) - l3 ≤ 2147483647) (c2 : S.1 l0 = 31) (hM : M1_27 C.2.1 mc ms pp qq) (hp : pp l0 (((-100)) - l3) S V) (hc : nc + mc ≤ C.2.2.2.1.cells) (hs : ns + ms ≤ C.2.2.2.1.slots) (k : ∀ (r : Int) (S' : jS) (V' : jH), qq l0 (((-100)) - l3) S V r S' V' → j_ok n_KT 4 C G 47 [] [(0, r)] S' V' (nc + mc) (ns + ms)) : j_ok n_KT 4 C G 39 [(0, (2, l0)), (3, (0, l3))] [] S V nc ns := by
  have E := n_E h
  refine j_aload_n E d1_14_39 rfl 0 rfl ?_
  refine j_bipush E d1_14_40 (by decide) ?_
  refine j_iload_n E d1_14_42 rfl 1 rfl ?_
  refine j_isub E d1_14_43 c1 ?_
  refine j_call E (K1_14_44 h hrm hM) d1_14_44 (a := [(2, l0), (0, ((-100)) - l3)]) (sk := []) rfl ⟨l0, ((-100)) - l3, rfl, c2, hp⟩ (Nat.le_of_ble_eq_true rfl) hc hs ?_
  rintro rs S' V' ⟨z0, z1, r, e1, rfl, q⟩
  simp only [List.cons.injEq, Prod.mk.injEq, and_true, true_and] at e1
  obtain ⟨rfl, rfl⟩ := e1
  exact j_pick [] rfl (k r S' V' q)
theorem t1_14_47 {C : qCx} {G : jG} {S : jS} {V : jH} {nc ns : Nat} {s0 : Int} {mc ms : Nat} {qf : Int → jS → jH → Prop} (h : x1_14 C G)  (R : j_Ri n_KT 4 C G b_1_14 mc ms qf) (q : qf s0 S V) (hc : nc ≤ mc) (hs : ns ≤ ms) : j_ok n_KT 4 C G 47 [] [(0, s0)] S V nc ns := by
  have E := n_E h
  exact R _ _ _ _ _ _ _ d1_14_47 q hc hs
theorem t1_14_48 {C : qCx} {G : jG} {S : jS} {V : jH} {nc ns : Nat} {l0 l2 : Int} {mc ms : Nat} {pp : Int → Int → jS → jH → Prop} {qq : Int → Int → jS → jH → jS → jH → Prop} (h : x1_14 C G) (L : j_L S) (hrm : C.2.2.2.1.frames = 7 ∧ C.2.2.2.1.locals = 181) (c1 : S.1 l0 = 31) (hM : M3_5 C.2.1 mc ms pp qq) (hp : pp (l0 + 16) (l0 + 214) S V) (hc : nc + mc ≤ C.2.2.2.1.cells) (hs : ns + ms ≤ C.2.2.2.1.slots) (k : ∀ (S' : jS) (V' : jH), qq (l0 + 16) (l0 + 214) S V S' V' → j_ok n_KT 4 C G 65 [(0, (2, l0)), (2, (2, l2))] [] S' V' (nc + mc) (ns + ms)) : j_ok n_KT 4 C G 48 [(0, (2, l0)), (2, (2, l2))] [] S V nc ns := by
  have E := n_E h
  refine j_aload_n E d1_14_48 rfl 0 rfl ?_
  refine j_getS (f := 0) (x := l0 + 1) (fg10_10 h) d1_14_49 c1 (by decide) rfl rfl ((L10_0 L c1).trans (by omega)) ?_
  refine j_getS (f := 3) (x := l0 + 16) (fg10_155 h) d1_14_52 (show S.1 (l0 + 1) = 30 from (by have q := L10_0k L c1; rw [show l0 + 1 = l0 + 1 by omega]; exact q)) (by decide) rfl rfl ((L9_3 L (show S.1 (l0 + 1) = 30 from (by have q := L10_0k L c1; rw [show l0 + 1 = l0 + 1 by omega]; exact q))).trans (by omega)) ?_
  refine j_aload_n E d1_14_55 rfl 0 rfl ?_
  refine j_getS (f := 2) (x := l0 + 200) (fg10_22 h) d1_14_56 c1 (by decide) rfl rfl ((L10_2 L c1).trans (by omega)) ?_
  refine j_getS (f := 2) (x := l0 + 214) (fg10_169 h) d1_14_59 (show S.1 (l0 + 200) = 21 from (by have q := L10_2k L c1; rw [show l0 + 200 = l0 + 200 by omega]; exact q)) (by decide) rfl rfl ((L0_2 L (show S.1 (l0 + 200) = 21 from (by have q := L10_2k L c1; rw [show l0 + 200 = l0 + 200 by omega]; exact q))).trans (by omega)) ?_
  refine j_call E (K1_14_62 h hrm hM) d1_14_62 (a := [(2, l0 + 16), (2, l0 + 214)]) (sk := []) rfl ⟨l0 + 16, l0 + 214, rfl, (show S.1 (l0 + 16) = 22 from (by have q := L9_3k L (show S.1 (l0 + 1) = 30 from (by have q := L10_0k L c1; rw [show l0 + 1 = l0 + 1 by omega]; exact q)); rw [show l0 + 16 = (l0 + 1) + 15 by omega]; exact q)), hp⟩ (Nat.le_of_ble_eq_true rfl) hc hs ?_
  rintro rs S' V' ⟨z0, z1, e1, rfl, q⟩
  simp only [List.cons.injEq, Prod.mk.injEq, and_true, true_and] at e1
  obtain ⟨rfl, rfl⟩ := e1
  exact j_pick [0, 1] rfl (k S' V' q)
theorem t1_14_65 {C : qCx} {G : jG} {S : jS} {V : jH} {nc ns : Nat} {l0 l2 : Int} {mc ms : Nat} {pp : Int → Int → jS → jH → Prop} {qq : Int → Int → jS → jH → jS → jH → Prop} (h : x1_14 C G) (L : j_L S) (hrm : C.2.2.2.1.frames = 7 ∧ C.2.2.2.1.locals = 181) (c1 : S.1 l0 = 31) (c2 : S.1 l2 = 27) (hM : M8_4 C.2.1 mc ms pp qq) (hp : pp l2 (l0 + 214) S V) (hc : nc + mc ≤ C.2.2.2.1.cells) (hs : ns + ms ≤ C.2.2.2.1.slots) (k : ∀ (S' : jS) (V' : jH), qq l2 (l0 + 214) S V S' V' → j_ok n_KT 4 C G 76 [(2, (2, l2))] [] S' V' (nc + mc) (ns + ms)) : j_ok n_KT 4 C G 65 [(0, (2, l0)), (2, (2, l2))] [] S V nc ns := by
  have E := n_E h
  refine j_aload_n E d1_14_65 rfl 1 rfl ?_
  refine j_aload_n E d1_14_66 rfl 0 rfl ?_
  refine j_getS (f := 2) (x := l0 + 200) (fg10_22 h) d1_14_67 c1 (by decide) rfl rfl ((L10_2 L c1).trans (by omega)) ?_
  refine j_getS (f := 2) (x := l0 + 214) (fg10_169 h) d1_14_70 (show S.1 (l0 + 200) = 21 from (by have q := L10_2k L c1; rw [show l0 + 200 = l0 + 200 by omega]; exact q)) (by decide) rfl rfl ((L0_2 L (show S.1 (l0 + 200) = 21 from (by have q := L10_2k L c1; rw [show l0 + 200 = l0 + 200 by omega]; exact q))).trans (by omega)) ?_
  refine j_call E (K1_14_73 h hrm hM) d1_14_73 (a := [(2, l2), (2, l0 + 214)]) (sk := []) rfl ⟨l2, l0 + 214, rfl, c2, hp⟩ (Nat.le_of_ble_eq_true rfl) hc hs ?_
  rintro rs S' V' ⟨z0, z1, e1, rfl, q⟩
  simp only [List.cons.injEq, Prod.mk.injEq, and_true, true_and] at e1
  obtain ⟨rfl, rfl⟩ := e1
  exact j_pick [1] rfl (k S' V' q)
theorem t1_14_76 {C : qCx} {G : jG} {S : jS} {V : jH} {nc ns : Nat} {l2 : Int} {mc ms : Nat} {qf : Int → jS → jH → Prop} (h : x1_14 C G) (c1 : S.1 l2 = 27) (R : j_Ri n_KT 4 C G b_1_14 mc ms qf) (q : qf (V l2 1) S V) (hc : nc ≤ mc) (hs : ns ≤ ms) : j_ok n_KT 4 C G 76 [(2, (2, l2))] [] S V nc ns := by
  have E := n_E h
  refine j_aload_n E d1_14_76 rfl 0 rfl ?_
  refine j_getI (f := 1) (fg10_59 h) d1_14_77 c1 (by decide) rfl rfl ?_
  exact R _ _ _ _ _ _ _ d1_14_80 q hc hs
/- BalanceCoder.block(I)I -/
abbrev b_1_15 : ByteArray := prog_1_method_15_code
def y_1_15 : MethodName := ⟨"BalanceCoder", "block", "(I)I"⟩
abbrev x1_15 (C : qCx) (G : jG) : Prop := n_ctx C b_1_15 3 "BalanceCoder" G.1 G.2.1
def M1_15 (l : Launch) (mc ms : Nat) (p : Int → Int → jS → jH → Prop) (q : Int → Int → jS → jH → Int → jS → jH → Prop) : Prop := j_Met l vwCl n_TL n_NW n_KT y_1_15 (Cond.code y_1_15 b_1_15 3 (some .int) :: n_GW) { frames := 2, cells := mc, slots := ms, locals := 47 } mc ms (fun a S V => ∃ u0 u1 : Int, a = [(2, u0), (0, u1)] ∧ S.1 u0 = 31 ∧ p u0 u1 S V) (fun a S V rs S' V' => ∃ u0 u1 r : Int, a = [(2, u0), (0, u1)] ∧ rs = [(0, r)] ∧ q u0 u1 S V r S' V')
theorem e1_15 {l : Launch} {mc ms : Nat} {p : Int → Int → jS → jH → Prop} {q : Int → Int → jS → jH → Int → jS → jH → Prop} (body : ∀ (C : qCx) (G : jG), x1_15 C G → C.2.2.2.1.frames = 2 ∧ C.2.2.2.1.locals = 47 → C.2.2.2.1.cells = mc ∧ C.2.2.2.1.slots = ms → C.2.1 = l → C.2.2.2.2.2.2.2.2.1.name = "block" → ∀ (u0 u1 : Int) (S : jS) (V : jH), S.1 u0 = 31 → p u0 u1 S V → j_Ri n_KT 3 C G b_1_15 mc ms (q u0 u1 S V) → j_ok n_KT 3 C G 0 [(0, (2, u0)), (1, (0, u1))] [] S V 0 0) : M1_15 l mc ms p q := by
  refine j_method (ws' := n_GW) (by decide) rfl ?_ ?_
  · rintro a S V ⟨u0, u1, rfl, -⟩
    exact Nat.le_of_ble_eq_true rfl
  · rintro C G htl hl hrm hm hml ho hts hnm hE a S V ⟨u0, u1, rfl, ht, hp⟩ R
    exact body C G ⟨htl, hm, hml, ho, fun w hw => hts w (List.mem_cons_of_mem _ hw), hE⟩ (by rw [hrm]; exact ⟨rfl, rfl⟩) (by rw [hrm]; exact ⟨rfl, rfl⟩) hl hnm u0 u1 S V ht hp (fun pc lo r S' V' nc ns d q hc hs => R.2.1 rfl pc lo r S' V' nc ns d ⟨u0, u1, r, rfl, rfl, q⟩ hc hs)
theorem d1_15_0 : decode b_1_15 0 = .ok (.aload_n 0, 1) := by decide +kernel
theorem d1_15_1 : decode b_1_15 1 = .ok (.getfield 10, 3) := by decide +kernel
theorem d1_15_4 : decode b_1_15 4 = .ok (.getfield 155, 3) := by decide +kernel
theorem d1_15_7 : decode b_1_15 7 = .ok (.astore_n 2, 1) := by decide +kernel
theorem d1_15_8 : decode b_1_15 8 = .ok (.iload_n 1, 1) := by decide +kernel
theorem d1_15_9 : decode b_1_15 9 = .ok (.iconst (-1), 1) := by decide +kernel
theorem d1_15_10 : decode b_1_15 10 = .ok (.if_icmp .lt 11, 3) := by decide +kernel
theorem d1_15_13 : decode b_1_15 13 = .ok (.iload_n 1, 1) := by decide +kernel
theorem d1_15_14 : decode b_1_15 14 = .ok (.aload_n 2, 1) := by decide +kernel
theorem d1_15_15 : decode b_1_15 15 = .ok (.getfield 180, 3) := by decide +kernel
theorem d1_15_18 : decode b_1_15 18 = .ok (.if_icmp .lt 9, 3) := by decide +kernel
theorem d1_15_21 : decode b_1_15 21 = .ok (.aload_n 0, 1) := by decide +kernel
theorem d1_15_22 : decode b_1_15 22 = .ok (.iconst (-1), 1) := by decide +kernel
theorem d1_15_23 : decode b_1_15 23 = .ok (.invokevirtual 55, 3) := by decide +kernel
theorem d1_15_26 : decode b_1_15 26 = .ok (.ireturn, 1) := by decide +kernel
theorem d1_15_27 : decode b_1_15 27 = .ok (.iload_n 1, 1) := by decide +kernel
theorem d1_15_28 : decode b_1_15 28 = .ok (.iconst (-1), 1) := by decide +kernel
theorem d1_15_29 : decode b_1_15 29 = .ok (.if_icmp .ne 10, 3) := by decide +kernel
theorem d1_15_32 : decode b_1_15 32 = .ok (.aload_n 2, 1) := by decide +kernel
theorem d1_15_33 : decode b_1_15 33 = .ok (.getfield 180, 3) := by decide +kernel
theorem d1_15_36 : decode b_1_15 36 = .ok (.goto 9, 3) := by decide +kernel
theorem d1_15_39 : decode b_1_15 39 = .ok (.aload_n 2, 1) := by decide +kernel
theorem d1_15_40 : decode b_1_15 40 = .ok (.getfield 183, 3) := by decide +kernel
theorem d1_15_43 : decode b_1_15 43 = .ok (.iload_n 1, 1) := by decide +kernel
theorem d1_15_44 : decode b_1_15 44 = .ok (.iaload, 1) := by decide +kernel
theorem d1_15_45 : decode b_1_15 45 = .ok (.ireturn, 1) := by decide +kernel
theorem K1_15_23 {C : qCx} {G : jG} {mc ms : Nat} {p : Int → Int → jS → jH → Prop} {q : Int → Int → jS → jH → Int → jS → jH → Prop} (h : x1_15 C G) (hrm : C.2.2.2.1.frames = 2 ∧ C.2.2.2.1.locals = 47) (hM : M1_27 C.2.1 mc ms p q) : j_Call C b_1_15 n_KT G.1 G.2.1 3 (.invokevirtual 55) mc ms (fun a S V => ∃ u0 u1 : Int, a = [(2, u0), (0, u1)] ∧ S.1 u0 = 31 ∧ p u0 u1 S V) (fun a S V rs S' V' => ∃ u0 u1 r : Int, a = [(2, u0), (0, u1)] ∧ rs = [(0, r)] ∧ q u0 u1 S V r S' V') := j_callV n_NWk h.2.2.2.2.2 h.1 hM ⟨h.2.1.1, h.2.1.2, h.2.2.1, h.2.2.2.1, h.2.2.2.2.1⟩ ⟨n_CB (y := y_1_27) (bytes := b_1_27) 1 h.2.2.2.2.1 n_w309 n_w306 n_w1 ⟨by decide, by decide, by decide +kernel⟩ rfl rfl ⟨by rw [hrm.1]; exact Nat.le_of_ble_eq_true rfl, by rw [hrm.2]; exact Nat.le_of_ble_eq_true rfl⟩, h.2.2.2.2.1 _ n_w308, h.2.2.2.2.1 _ n_s1⟩ (Cn := RX10) (fun a S V hP => by obtain ⟨u0, u1, rfl, e, -⟩ := hP; exact ⟨u0, _, 10, _, _, TX10, 8, rfl, rfl, by rw [e]; decide, by rw [e]; rfl, rfl⟩)
theorem t1_15_0 {C : qCx} {G : jG} {S : jS} {V : jH} {nc ns : Nat} {l0 l1 : Int} (h : x1_15 C G) (L : j_L S) (c1 : S.1 l0 = 31) (k : l1 < (-1) → j_ok n_KT 3 C G 21 [(0, (2, l0))] [] S V nc ns) (k' : (-1) ≤ l1 → j_ok n_KT 3 C G 13 [(0, (2, l0)), (1, (0, l1)), (2, (2, l0 + 16))] [] S V nc ns) : j_ok n_KT 3 C G 0 [(0, (2, l0)), (1, (0, l1))] [] S V nc ns := by
  have E := n_E h
  refine j_aload_n E d1_15_0 rfl 0 rfl ?_
  refine j_getS (f := 0) (x := l0 + 1) (fg10_10 h) d1_15_1 c1 (by decide) rfl rfl ((L10_0 L c1).trans (by omega)) ?_
  refine j_getS (f := 3) (x := l0 + 16) (fg10_155 h) d1_15_4 (show S.1 (l0 + 1) = 30 from (by have q := L10_0k L c1; rw [show l0 + 1 = l0 + 1 by omega]; exact q)) (by decide) rfl rfl ((L9_3 L (show S.1 (l0 + 1) = 30 from (by have q := L10_0k L c1; rw [show l0 + 1 = l0 + 1 by omega]; exact q))).trans (by omega)) ?_
  refine j_astore_n E d1_15_7 rfl (by decide) (lo1 := [(0, (2, l0)), (1, (0, l1))]) rfl ?_
  refine j_iload_n E d1_15_8 rfl 2 rfl ?_
  refine j_iconst E d1_15_9 (by decide) ?_
  exact j_icmp_lt E d1_15_10 (t := 21) rfl (fun q => j_pick [1] rfl (k q)) (fun q => j_pick [1, 2, 0] rfl (k' q))
theorem t1_15_13 {C : qCx} {G : jG} {S : jS} {V : jH} {nc ns : Nat} {l0 l1 l2 : Int} (h : x1_15 C G) (c1 : S.1 l2 = 22) (k : l1 < V l2 1 → j_ok n_KT 3 C G 27 [(1, (0, l1)), (2, (2, l2))] [] S V nc ns) (k' : V l2 1 ≤ l1 → j_ok n_KT 3 C G 21 [(0, (2, l0))] [] S V nc ns) : j_ok n_KT 3 C G 13 [(0, (2, l0)), (1, (0, l1)), (2, (2, l2))] [] S V nc ns := by
  have E := n_E h
  refine j_iload_n E d1_15_13 rfl 1 rfl ?_
  refine j_aload_n E d1_15_14 rfl 2 rfl ?_
  refine j_getI (f := 1) (fg10_180 h) d1_15_15 c1 (by decide) rfl rfl ?_
  exact j_icmp_lt E d1_15_18 (t := 27) rfl (fun q => j_pick [1, 2] rfl (k q)) (fun q => j_pick [0] rfl (k' q))
theorem t1_15_21 {C : qCx} {G : jG} {S : jS} {V : jH} {nc ns : Nat} {l0 : Int} {mc ms : Nat} {pp : Int → Int → jS → jH → Prop} {qq : Int → Int → jS → jH → Int → jS → jH → Prop} (h : x1_15 C G) (hrm : C.2.2.2.1.frames = 2 ∧ C.2.2.2.1.locals = 47) (c1 : S.1 l0 = 31) (hM : M1_27 C.2.1 mc ms pp qq) (hp : pp l0 ((-1)) S V) (hc : nc + mc ≤ C.2.2.2.1.cells) (hs : ns + ms ≤ C.2.2.2.1.slots) (k : ∀ (r : Int) (S' : jS) (V' : jH), qq l0 ((-1)) S V r S' V' → j_ok n_KT 3 C G 26 [] [(0, r)] S' V' (nc + mc) (ns + ms)) : j_ok n_KT 3 C G 21 [(0, (2, l0))] [] S V nc ns := by
  have E := n_E h
  refine j_aload_n E d1_15_21 rfl 0 rfl ?_
  refine j_iconst E d1_15_22 (by decide) ?_
  refine j_call E (K1_15_23 h hrm hM) d1_15_23 (a := [(2, l0), (0, (-1))]) (sk := []) rfl ⟨l0, (-1), rfl, c1, hp⟩ (Nat.le_of_ble_eq_true rfl) hc hs ?_
  rintro rs S' V' ⟨z0, z1, r, e1, rfl, q⟩
  simp only [List.cons.injEq, Prod.mk.injEq, and_true, true_and] at e1
  obtain ⟨rfl, rfl⟩ := e1
  exact j_pick [] rfl (k r S' V' q)
theorem t1_15_26 {C : qCx} {G : jG} {S : jS} {V : jH} {nc ns : Nat} {s0 : Int} {mc ms : Nat} {qf : Int → jS → jH → Prop} (h : x1_15 C G)  (R : j_Ri n_KT 3 C G b_1_15 mc ms qf) (q : qf s0 S V) (hc : nc ≤ mc) (hs : ns ≤ ms) : j_ok n_KT 3 C G 26 [] [(0, s0)] S V nc ns := by
  have E := n_E h
  exact R _ _ _ _ _ _ _ d1_15_26 q hc hs
theorem t1_15_27 {C : qCx} {G : jG} {S : jS} {V : jH} {nc ns : Nat} {l1 l2 : Int} (h : x1_15 C G)  (k : ¬ l1 = (-1) → j_ok n_KT 3 C G 39 [(1, (0, l1)), (2, (2, l2))] [] S V nc ns) (k' : l1 = (-1) → j_ok n_KT 3 C G 32 [(2, (2, l2))] [] S V nc ns) : j_ok n_KT 3 C G 27 [(1, (0, l1)), (2, (2, l2))] [] S V nc ns := by
  have E := n_E h
  refine j_iload_n E d1_15_27 rfl 0 rfl ?_
  refine j_iconst E d1_15_28 (by decide) ?_
  exact j_icmp_ne E d1_15_29 (t := 39) rfl (fun q => j_pick [0, 1] rfl (k q)) (fun q => j_pick [1] rfl (k' q))
theorem t1_15_32 {C : qCx} {G : jG} {S : jS} {V : jH} {nc ns : Nat} {l2 : Int} (h : x1_15 C G) (c1 : S.1 l2 = 22) (k : j_ok n_KT 3 C G 45 [] [(0, V l2 1)] S V nc ns) : j_ok n_KT 3 C G 32 [(2, (2, l2))] [] S V nc ns := by
  have E := n_E h
  refine j_aload_n E d1_15_32 rfl 0 rfl ?_
  refine j_getI (f := 1) (fg10_180 h) d1_15_33 c1 (by decide) rfl rfl ?_
  refine j_goto E d1_15_36 (t := 45) rfl ?_
  exact j_pick [] rfl k
theorem t1_15_39 {C : qCx} {G : jG} {S : jS} {V : jH} {nc ns : Nat} {l1 l2 : Int} (h : x1_15 C G) (L : j_L S) (c1 : S.1 l2 = 22) (c2 : 0 ≤ l1) (c3 : l1 < 4400) (k : j_ok n_KT 3 C G 45 [] [(0, V (l2 + 1) l1)] S V nc ns) : j_ok n_KT 3 C G 39 [(1, (0, l1)), (2, (2, l2))] [] S V nc ns := by
  have E := n_E h
  refine j_aload_n E d1_15_39 rfl 1 rfl ?_
  refine j_getS (f := 0) (x := l2 + 1) (fg10_183 h) d1_15_40 c1 (by decide) rfl rfl ((L1_0 L c1).trans (by omega)) ?_
  refine j_iload_n E d1_15_43 rfl 0 rfl ?_
  refine j_iald E d1_15_44 (j_arr_of (show S.1 (l2 + 1) = 6 from (by have q := L1_0k L c1; rw [show l2 + 1 = l2 + 1 by omega]; exact q)) (by decide) rfl) c2 c3 ?_
  exact j_pick [] rfl k
theorem t1_15_45 {C : qCx} {G : jG} {S : jS} {V : jH} {nc ns : Nat} {s0 : Int} {mc ms : Nat} {qf : Int → jS → jH → Prop} (h : x1_15 C G)  (R : j_Ri n_KT 3 C G b_1_15 mc ms qf) (q : qf s0 S V) (hc : nc ≤ mc) (hs : ns ≤ ms) : j_ok n_KT 3 C G 45 [] [(0, s0)] S V nc ns := by
  have E := n_E h
  exact R _ _ _ _ _ _ _ d1_15_45 q hc hs
/- BalanceCoder$Block.doubt()V -/
abbrev b_3_4 : ByteArray := prog_3_method_4_code
def y_3_4 : MethodName := ⟨"BalanceCoder$Block", "doubt", "()V"⟩
abbrev x3_4 (C : qCx) (G : jG) : Prop := n_ctx C b_3_4 1 "BalanceCoder$Block" G.1 G.2.1
def M3_4 (l : Launch) (mc ms : Nat) (p : Int → jS → jH → Prop) (q : Int → jS → jH → jS → jH → Prop) : Prop := j_Met l vwCl n_TL n_NW n_KT y_3_4 (Cond.code y_3_4 b_3_4 1 none :: n_GW) { frames := 1, cells := mc, slots := ms, locals := 26 } mc ms (fun a S V => ∃ u0 : Int, a = [(2, u0)] ∧ S.1 u0 = 22 ∧ p u0 S V) (fun a S V rs S' V' => ∃ u0 : Int, a = [(2, u0)] ∧ rs = [] ∧ q u0 S V S' V')
theorem e3_4 {l : Launch} {mc ms : Nat} {p : Int → jS → jH → Prop} {q : Int → jS → jH → jS → jH → Prop} (body : ∀ (C : qCx) (G : jG), x3_4 C G → C.2.2.2.1.frames = 1 ∧ C.2.2.2.1.locals = 26 → C.2.2.2.1.cells = mc ∧ C.2.2.2.1.slots = ms → C.2.1 = l → C.2.2.2.2.2.2.2.2.1.name = "doubt" → ∀ (u0 : Int) (S : jS) (V : jH), S.1 u0 = 22 → p u0 S V → j_Rv n_KT 1 C G b_3_4 mc ms (q u0 S V) → j_ok n_KT 1 C G 0 [(0, (2, u0))] [] S V 0 0) : M3_4 l mc ms p q := by
  refine j_method (ws' := n_GW) (by decide) rfl ?_ ?_
  · rintro a S V ⟨u0, rfl, -⟩
    exact Nat.le_of_ble_eq_true rfl
  · rintro C G htl hl hrm hm hml ho hts hnm hE a S V ⟨u0, rfl, ht, hp⟩ R
    exact body C G ⟨htl, hm, hml, ho, fun w hw => hts w (List.mem_cons_of_mem _ hw), hE⟩ (by rw [hrm]; exact ⟨rfl, rfl⟩) (by rw [hrm]; exact ⟨rfl, rfl⟩) hl hnm u0 S V ht hp (fun pc lo S' V' nc ns d q hc hs => R.1 rfl pc lo S' V' nc ns d ⟨u0, rfl, rfl, q⟩ hc hs)
theorem d3_4_0 : decode b_3_4 0 = .ok (.aload_n 0, 1) := by decide +kernel
theorem d3_4_1 : decode b_3_4 1 = .ok (.iconst 0, 1) := by decide +kernel
theorem d3_4_2 : decode b_3_4 2 = .ok (.putfield 19, 3) := by decide +kernel
theorem d3_4_5 : decode b_3_4 5 = .ok (.aload_n 0, 1) := by decide +kernel
theorem d3_4_6 : decode b_3_4 6 = .ok (.iconst 0, 1) := by decide +kernel
theorem d3_4_7 : decode b_3_4 7 = .ok (.putfield 30, 3) := by decide +kernel
theorem d3_4_10 : decode b_3_4 10 = .ok (.return_, 1) := by decide +kernel
theorem t3_4_0 {C : qCx} {G : jG} {S : jS} {V : jH} {nc ns : Nat} {l0 : Int} {mc ms : Nat} {qf : jS → jH → Prop} (h : x3_4 C G) (c1 : S.1 l0 = 22) (R : j_Rv n_KT 1 C G b_3_4 mc ms qf) (q : qf S (j_up (j_up V l0 2 0) l0 4 0)) (hc : nc ≤ mc) (hs : ns ≤ ms) : j_ok n_KT 1 C G 0 [(0, (2, l0))] [] S V nc ns := by
  have E := n_E h
  refine j_aload_n E d3_4_0 rfl 0 rfl ?_
  refine j_iconst E d3_4_1 (by decide) ?_
  refine j_putZ (f := 2) (fp1_19 h) (n_hap h 22 1 0 _ rfl) d3_4_2 c1 (by decide) rfl rfl rfl (by decide) ?_
  refine j_aload_n E d3_4_5 rfl 0 rfl ?_
  refine j_iconst E d3_4_6 (by decide) ?_
  refine j_putI (f := 4) (fp1_30 h) (n_hap h 22 1 0 _ rfl) d3_4_7 c1 (by decide) rfl rfl rfl ?_
  exact R _ _ _ _ _ _ d3_4_10 q hc hs
