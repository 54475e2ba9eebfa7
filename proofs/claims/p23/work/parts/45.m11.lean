/- BalanceCoderModel.again()V -/
abbrev b_13_46 : ByteArray := prog_13_method_46_code
def y_13_46 : MethodName := ⟨"BalanceCoderModel", "again", "()V"⟩
abbrev x13_46 (C : qCx) (G : jG) : Prop := n_ctx C b_13_46 1 "BalanceCoderModel" G.1 G.2.1
def M13_46 (l : Launch) (mc ms : Nat) (p : Int → jS → jH → Prop) (q : Int → jS → jH → jS → jH → Prop) : Prop := j_Met l vwCl n_TL n_NW n_KT y_13_46 (Cond.code y_13_46 b_13_46 1 none :: n_GW) { frames := 4, cells := mc, slots := ms, locals := 101 } mc ms (fun a S V => ∃ u0 : Int, a = [(2, u0)] ∧ S.1 u0 = 33 ∧ p u0 S V) (fun a S V rs S' V' => ∃ u0 : Int, a = [(2, u0)] ∧ rs = [] ∧ q u0 S V S' V')
theorem e13_46 {l : Launch} {mc ms : Nat} {p : Int → jS → jH → Prop} {q : Int → jS → jH → jS → jH → Prop} (body : ∀ (C : qCx) (G : jG), x13_46 C G → C.2.2.2.1.frames = 4 ∧ C.2.2.2.1.locals = 101 → C.2.2.2.1.cells = mc ∧ C.2.2.2.1.slots = ms → C.2.1 = l → C.2.2.2.2.2.2.2.2.1.name = "again" → ∀ (u0 : Int) (S : jS) (V : jH), S.1 u0 = 33 → p u0 S V → j_Rv n_KT 1 C G b_13_46 mc ms (q u0 S V) → j_ok n_KT 1 C G 0 [(0, (2, u0))] [] S V 0 0) : M13_46 l mc ms p q := by
  refine j_method (ws' := n_GW) (by decide) rfl ?_ ?_
  · rintro a S V ⟨u0, rfl, -⟩
    exact Nat.le_of_ble_eq_true rfl
  · rintro C G htl hl hrm hm hml ho hts hnm hE a S V ⟨u0, rfl, ht, hp⟩ R
    exact body C G ⟨htl, hm, hml, ho, fun w hw => hts w (List.mem_cons_of_mem _ hw), hE⟩ (by rw [hrm]; exact ⟨rfl, rfl⟩) (by rw [hrm]; exact ⟨rfl, rfl⟩) hl hnm u0 S V ht hp (fun pc lo S' V' nc ns d q hc hs => R.1 rfl pc lo S' V' nc ns d ⟨u0, rfl, rfl, q⟩ hc hs)
theorem d13_46_0 : decode b_13_46 0 = .ok (.aload_n 0, 1) := by decide +kernel
theorem d13_46_1 : decode b_13_46 1 = .ok (.invokevirtual 247, 3) := by decide +kernel
theorem d13_46_4 : decode b_13_46 4 = .ok (.pop, 1) := by decide +kernel
theorem d13_46_5 : decode b_13_46 5 = .ok (.aload_n 0, 1) := by decide +kernel
theorem d13_46_6 : decode b_13_46 6 = .ok (.invokevirtual 250, 3) := by decide +kernel
theorem d13_46_9 : decode b_13_46 9 = .ok (.pop, 1) := by decide +kernel
theorem d13_46_10 : decode b_13_46 10 = .ok (.return_, 1) := by decide +kernel
theorem K13_46_1 {C : qCx} {G : jG} {mc ms : Nat} {p : Int → jS → jH → Prop} {q : Int → jS → jH → Int → jS → jH → Prop} (h : x13_46 C G) (hrm : C.2.2.2.1.frames = 4 ∧ C.2.2.2.1.locals = 101) (hM : M13_38 C.2.1 mc ms p q) : j_Call C b_13_46 n_KT G.1 G.2.1 1 (.invokevirtual 247) mc ms (fun a S V => ∃ u0 : Int, a = [(2, u0)] ∧ S.1 u0 = 33 ∧ p u0 S V) (fun a S V rs S' V' => ∃ u0 r : Int, a = [(2, u0)] ∧ rs = [(0, r)] ∧ q u0 S V r S' V') := j_callV n_NWk h.2.2.2.2.2 h.1 hM ⟨h.2.1.1, h.2.1.2, h.2.2.1, h.2.2.2.1, h.2.2.2.2.1⟩ ⟨n_CB (y := y_13_38) (bytes := b_13_38) 0 h.2.2.2.2.1 n_w1062 n_w1059 n_w12 ⟨by decide, by decide, by decide +kernel⟩ rfl rfl ⟨by rw [hrm.1]; exact Nat.le_of_ble_eq_true rfl, by rw [hrm.2]; exact Nat.le_of_ble_eq_true rfl⟩, h.2.2.2.2.1 _ n_w1061, h.2.2.2.2.1 _ n_s44⟩ (Cn := RX12) (fun a S V hP => by obtain ⟨u0, rfl, e, -⟩ := hP; exact ⟨u0, _, 12, _, _, TX12, 31, rfl, rfl, by rw [e]; decide, by rw [e]; rfl, rfl⟩)
theorem K13_46_6 {C : qCx} {G : jG} {mc ms : Nat} {p : Int → jS → jH → Prop} {q : Int → jS → jH → Int → jS → jH → Prop} (h : x13_46 C G) (hrm : C.2.2.2.1.frames = 4 ∧ C.2.2.2.1.locals = 101) (hM : M13_40 C.2.1 mc ms p q) : j_Call C b_13_46 n_KT G.1 G.2.1 1 (.invokevirtual 250) mc ms (fun a S V => ∃ u0 : Int, a = [(2, u0)] ∧ S.1 u0 = 33 ∧ p u0 S V) (fun a S V rs S' V' => ∃ u0 r : Int, a = [(2, u0)] ∧ rs = [(0, r)] ∧ q u0 S V r S' V') := j_callV n_NWk h.2.2.2.2.2 h.1 hM ⟨h.2.1.1, h.2.1.2, h.2.2.1, h.2.2.2.1, h.2.2.2.2.1⟩ ⟨n_CB (y := y_13_40) (bytes := b_13_40) 0 h.2.2.2.2.1 n_w1079 n_w1076 n_w12 ⟨by decide, by decide, by decide +kernel⟩ rfl rfl ⟨by rw [hrm.1]; exact Nat.le_of_ble_eq_true rfl, by rw [hrm.2]; exact Nat.le_of_ble_eq_true rfl⟩, h.2.2.2.2.1 _ n_w1078, h.2.2.2.2.1 _ n_s48⟩ (Cn := RX12) (fun a S V hP => by obtain ⟨u0, rfl, e, -⟩ := hP; exact ⟨u0, _, 12, _, _, TX12, 31, rfl, rfl, by rw [e]; decide, by rw [e]; rfl, rfl⟩)
theorem t13_46_0 {C : qCx} {G : jG} {S : jS} {V : jH} {nc ns : Nat} {l0 : Int} {mc ms : Nat} {pp : Int → jS → jH → Prop} {qq : Int → jS → jH → Int → jS → jH → Prop} (h : x13_46 C G) (hrm : C.2.2.2.1.frames = 4 ∧ C.2.2.2.1.locals = 101) (c1 : S.1 l0 = 33) (hM : M13_38 C.2.1 mc ms pp qq) (hp : pp l0 S V) (hc : nc + mc ≤ C.2.2.2.1.cells) (hs : ns + ms ≤ C.2.2.2.1.slots) (k : ∀ (r : Int) (S' : jS) (V' : jH), qq l0 S V r S' V' → j_ok n_KT 1 C G 4 [(0, (2, l0))] [(0, r)] S' V' (nc + mc) (ns + ms)) : j_ok n_KT 1 C G 0 [(0, (2, l0))] [] S V nc ns := by
  have E := n_E h
  refine j_aload_n E d13_46_0 rfl 0 rfl ?_
  refine j_call E (K13_46_1 h hrm hM) d13_46_1 (a := [(2, l0)]) (sk := []) rfl ⟨l0, rfl, c1, hp⟩ (Nat.le_of_ble_eq_true rfl) hc hs ?_
  rintro rs S' V' ⟨z0, r, e1, rfl, q⟩
  simp only [List.cons.injEq, Prod.mk.injEq, and_true, true_and] at e1
  obtain ⟨rfl⟩ := e1
  exact j_pick [0] rfl (k r S' V' q)
theorem t13_46_4 {C : qCx} {G : jG} {S : jS} {V : jH} {nc ns : Nat} {l0 s0 : Int} {mc ms : Nat} {pp : Int → jS → jH → Prop} {qq : Int → jS → jH → Int → jS → jH → Prop} (h : x13_46 C G) (hrm : C.2.2.2.1.frames = 4 ∧ C.2.2.2.1.locals = 101) (c1 : S.1 l0 = 33) (hM : M13_40 C.2.1 mc ms pp qq) (hp : pp l0 S V) (hc : nc + mc ≤ C.2.2.2.1.cells) (hs : ns + ms ≤ C.2.2.2.1.slots) (k : ∀ (r : Int) (S' : jS) (V' : jH), qq l0 S V r S' V' → j_ok n_KT 1 C G 9 [] [(0, r)] S' V' (nc + mc) (ns + ms)) : j_ok n_KT 1 C G 4 [(0, (2, l0))] [(0, s0)] S V nc ns := by
  have E := n_E h
  refine j_pop E d13_46_4 rfl ?_
  refine j_aload_n E d13_46_5 rfl 0 rfl ?_
  refine j_call E (K13_46_6 h hrm hM) d13_46_6 (a := [(2, l0)]) (sk := []) rfl ⟨l0, rfl, c1, hp⟩ (Nat.le_of_ble_eq_true rfl) hc hs ?_
  rintro rs S' V' ⟨z0, r, e1, rfl, q⟩
  simp only [List.cons.injEq, Prod.mk.injEq, and_true, true_and] at e1
  obtain ⟨rfl⟩ := e1
  exact j_pick [] rfl (k r S' V' q)
theorem t13_46_9 {C : qCx} {G : jG} {S : jS} {V : jH} {nc ns : Nat} {s0 : Int} {mc ms : Nat} {qf : jS → jH → Prop} (h : x13_46 C G)  (R : j_Rv n_KT 1 C G b_13_46 mc ms qf) (q : qf S V) (hc : nc ≤ mc) (hs : ns ≤ ms) : j_ok n_KT 1 C G 9 [] [(0, s0)] S V nc ns := by
  have E := n_E h
  refine j_pop E d13_46_9 rfl ?_
  exact R _ _ _ _ _ _ d13_46_10 q hc hs
/- BalanceCoderModel.step(II)I -/
abbrev b_13_47 : ByteArray := prog_13_method_47_code
def y_13_47 : MethodName := ⟨"BalanceCoderModel", "step", "(II)I"⟩
abbrev x13_47 (C : qCx) (G : jG) : Prop := n_ctx C b_13_47 3 "BalanceCoderModel" G.1 G.2.1
def M13_47 (l : Launch) (mc ms : Nat) (p : Int → Int → Int → jS → jH → Prop) (q : Int → Int → Int → jS → jH → Int → jS → jH → Prop) : Prop := j_Met l vwCl n_TL n_NW n_KT y_13_47 (Cond.code y_13_47 b_13_47 3 (some .int) :: n_GW) { frames := 5, cells := mc, slots := ms, locals := 121 } mc ms (fun a S V => ∃ u0 u1 u2 : Int, a = [(2, u0), (0, u1), (0, u2)] ∧ S.1 u0 = 33 ∧ p u0 u1 u2 S V) (fun a S V rs S' V' => ∃ u0 u1 u2 r : Int, a = [(2, u0), (0, u1), (0, u2)] ∧ rs = [(0, r)] ∧ q u0 u1 u2 S V r S' V')
theorem e13_47 {l : Launch} {mc ms : Nat} {p : Int → Int → Int → jS → jH → Prop} {q : Int → Int → Int → jS → jH → Int → jS → jH → Prop} (body : ∀ (C : qCx) (G : jG), x13_47 C G → C.2.2.2.1.frames = 5 ∧ C.2.2.2.1.locals = 121 → C.2.2.2.1.cells = mc ∧ C.2.2.2.1.slots = ms → C.2.1 = l → C.2.2.2.2.2.2.2.2.1.name = "step" → ∀ (u0 u1 u2 : Int) (S : jS) (V : jH), S.1 u0 = 33 → p u0 u1 u2 S V → j_Ri n_KT 3 C G b_13_47 mc ms (q u0 u1 u2 S V) → j_ok n_KT 3 C G 0 [(0, (2, u0)), (1, (0, u1)), (2, (0, u2))] [] S V 0 0) : M13_47 l mc ms p q := by
  refine j_method (ws' := n_GW) (by decide) rfl ?_ ?_
  · rintro a S V ⟨u0, u1, u2, rfl, -⟩
    exact Nat.le_of_ble_eq_true rfl
  · rintro C G htl hl hrm hm hml ho hts hnm hE a S V ⟨u0, u1, u2, rfl, ht, hp⟩ R
    exact body C G ⟨htl, hm, hml, ho, fun w hw => hts w (List.mem_cons_of_mem _ hw), hE⟩ (by rw [hrm]; exact ⟨rfl, rfl⟩) (by rw [hrm]; exact ⟨rfl, rfl⟩) hl hnm u0 u1 u2 S V ht hp (fun pc lo r S' V' nc ns d q hc hs => R.2.1 rfl pc lo r S' V' nc ns d ⟨u0, u1, u2, r, rfl, rfl, q⟩ hc hs)
theorem d13_47_0 : decode b_13_47 0 = .ok (.aload_n 0, 1) := by decide +kernel
theorem d13_47_1 : decode b_13_47 1 = .ok (.getfield 10, 3) := by decide +kernel
theorem d13_47_4 : decode b_13_47 4 = .ok (.getfield 200, 3) := by decide +kernel
theorem d13_47_7 : decode b_13_47 7 = .ok (.ifCond .ne 10, 3) := by decide +kernel
theorem d13_47_10 : decode b_13_47 10 = .ok (.aload_n 0, 1) := by decide +kernel
theorem d13_47_11 : decode b_13_47 11 = .ok (.bipush (-6), 2) := by decide +kernel
theorem d13_47_13 : decode b_13_47 13 = .ok (.invokevirtual 82, 3) := by decide +kernel
theorem d13_47_16 : decode b_13_47 16 = .ok (.ireturn, 1) := by decide +kernel
theorem d13_47_17 : decode b_13_47 17 = .ok (.aload_n 0, 1) := by decide +kernel
theorem d13_47_18 : decode b_13_47 18 = .ok (.invokevirtual 259, 3) := by decide +kernel
theorem d13_47_21 : decode b_13_47 21 = .ok (.iload_n 1, 1) := by decide +kernel
theorem d13_47_22 : decode b_13_47 22 = .ok (.i2l, 1) := by decide +kernel
theorem d13_47_23 : decode b_13_47 23 = .ok (.lconst 0, 1) := by decide +kernel
theorem d13_47_24 : decode b_13_47 24 = .ok (.aload_n 0, 1) := by decide +kernel
theorem d13_47_25 : decode b_13_47 25 = .ok (.getfield 230, 3) := by decide +kernel
theorem d13_47_28 : decode b_13_47 28 = .ok (.iconst 1, 1) := by decide +kernel
theorem d13_47_29 : decode b_13_47 29 = .ok (.isub, 1) := by decide +kernel
theorem d13_47_30 : decode b_13_47 30 = .ok (.i2l, 1) := by decide +kernel
theorem d13_47_31 : decode b_13_47 31 = .ok (.invokestatic 69, 3) := by decide +kernel
theorem d13_47_34 : decode b_13_47 34 = .ok (.ifCond .eq 15, 3) := by decide +kernel
theorem d13_47_37 : decode b_13_47 37 = .ok (.iload_n 2, 1) := by decide +kernel
theorem d13_47_38 : decode b_13_47 38 = .ok (.i2l, 1) := by decide +kernel
theorem d13_47_39 : decode b_13_47 39 = .ok (.lconst 0, 1) := by decide +kernel
theorem d13_47_40 : decode b_13_47 40 = .ok (.ldc2_w 96, 3) := by decide +kernel
theorem d13_47_43 : decode b_13_47 43 = .ok (.invokestatic 69, 3) := by decide +kernel
theorem d13_47_46 : decode b_13_47 46 = .ok (.ifCond .ne 9, 3) := by decide +kernel
theorem d13_47_49 : decode b_13_47 49 = .ok (.aload_n 0, 1) := by decide +kernel
theorem d13_47_50 : decode b_13_47 50 = .ok (.iconst (-1), 1) := by decide +kernel
theorem d13_47_51 : decode b_13_47 51 = .ok (.invokevirtual 82, 3) := by decide +kernel
theorem d13_47_54 : decode b_13_47 54 = .ok (.ireturn, 1) := by decide +kernel
theorem d13_47_55 : decode b_13_47 55 = .ok (.iload_n 2, 1) := by decide +kernel
theorem d13_47_56 : decode b_13_47 56 = .ok (.ifCond .ne 12, 3) := by decide +kernel
theorem d13_47_59 : decode b_13_47 59 = .ok (.aload_n 0, 1) := by decide +kernel
theorem d13_47_60 : decode b_13_47 60 = .ok (.getfield 54, 3) := by decide +kernel
theorem d13_47_63 : decode b_13_47 63 = .ok (.iload_n 1, 1) := by decide +kernel
theorem d13_47_64 : decode b_13_47 64 = .ok (.iaload, 1) := by decide +kernel
theorem d13_47_65 : decode b_13_47 65 = .ok (.goto 52, 3) := by decide +kernel
theorem d13_47_68 : decode b_13_47 68 = .ok (.iload_n 2, 1) := by decide +kernel
theorem d13_47_69 : decode b_13_47 69 = .ok (.iconst 1, 1) := by decide +kernel
theorem d13_47_70 : decode b_13_47 70 = .ok (.if_icmp .ne 13, 3) := by decide +kernel
theorem d13_47_73 : decode b_13_47 73 = .ok (.aload_n 0, 1) := by decide +kernel
theorem d13_47_74 : decode b_13_47 74 = .ok (.getfield 57, 3) := by decide +kernel
theorem d13_47_77 : decode b_13_47 77 = .ok (.iload_n 1, 1) := by decide +kernel
theorem d13_47_78 : decode b_13_47 78 = .ok (.laload, 1) := by decide +kernel
theorem d13_47_79 : decode b_13_47 79 = .ok (.l2i, 1) := by decide +kernel
theorem d13_47_80 : decode b_13_47 80 = .ok (.goto 37, 3) := by decide +kernel
theorem d13_47_83 : decode b_13_47 83 = .ok (.iload_n 2, 1) := by decide +kernel
theorem d13_47_84 : decode b_13_47 84 = .ok (.iconst 2, 1) := by decide +kernel
theorem d13_47_85 : decode b_13_47 85 = .ok (.if_icmp .ne 12, 3) := by decide +kernel
theorem d13_47_88 : decode b_13_47 88 = .ok (.aload_n 0, 1) := by decide +kernel
theorem d13_47_89 : decode b_13_47 89 = .ok (.getfield 60, 3) := by decide +kernel
theorem d13_47_92 : decode b_13_47 92 = .ok (.iload_n 1, 1) := by decide +kernel
theorem d13_47_93 : decode b_13_47 93 = .ok (.iaload, 1) := by decide +kernel
theorem d13_47_94 : decode b_13_47 94 = .ok (.goto 23, 3) := by decide +kernel
theorem d13_47_97 : decode b_13_47 97 = .ok (.iload_n 2, 1) := by decide +kernel
theorem d13_47_98 : decode b_13_47 98 = .ok (.iconst 3, 1) := by decide +kernel
theorem d13_47_99 : decode b_13_47 99 = .ok (.if_icmp .ne 12, 3) := by decide +kernel
theorem d13_47_102 : decode b_13_47 102 = .ok (.aload_n 0, 1) := by decide +kernel
theorem d13_47_103 : decode b_13_47 103 = .ok (.getfield 35, 3) := by decide +kernel
theorem d13_47_106 : decode b_13_47 106 = .ok (.iload_n 1, 1) := by decide +kernel
theorem d13_47_107 : decode b_13_47 107 = .ok (.iaload, 1) := by decide +kernel
theorem d13_47_108 : decode b_13_47 108 = .ok (.goto 9, 3) := by decide +kernel
theorem d13_47_111 : decode b_13_47 111 = .ok (.aload_n 0, 1) := by decide +kernel
theorem d13_47_112 : decode b_13_47 112 = .ok (.getfield 38, 3) := by decide +kernel
theorem d13_47_115 : decode b_13_47 115 = .ok (.iload_n 1, 1) := by decide +kernel
theorem d13_47_116 : decode b_13_47 116 = .ok (.iaload, 1) := by decide +kernel
theorem d13_47_117 : decode b_13_47 117 = .ok (.ireturn, 1) := by decide +kernel
theorem K13_47_13 {C : qCx} {G : jG} {mc ms : Nat} {p : Int → Int → jS → jH → Prop} {q : Int → Int → jS → jH → Int → jS → jH → Prop} (h : x13_47 C G) (hrm : C.2.2.2.1.frames = 5 ∧ C.2.2.2.1.locals = 121) (hM : M13_2 C.2.1 mc ms p q) : j_Call C b_13_47 n_KT G.1 G.2.1 3 (.invokevirtual 82) mc ms (fun a S V => ∃ u0 u1 : Int, a = [(2, u0), (0, u1)] ∧ S.1 u0 = 33 ∧ p u0 u1 S V) (fun a S V rs S' V' => ∃ u0 u1 r : Int, a = [(2, u0), (0, u1)] ∧ rs = [(0, r)] ∧ q u0 u1 S V r S' V') := j_callV n_NWk h.2.2.2.2.2 h.1 hM ⟨h.2.1.1, h.2.1.2, h.2.2.1, h.2.2.2.1, h.2.2.2.2.1⟩ ⟨n_CB (y := y_13_2) (bytes := b_13_2) 1 h.2.2.2.2.1 n_w928 n_w925 n_w12 ⟨by decide, by decide, by decide +kernel⟩ rfl rfl ⟨by rw [hrm.1]; exact Nat.le_of_ble_eq_true rfl, by rw [hrm.2]; exact Nat.le_of_ble_eq_true rfl⟩, h.2.2.2.2.1 _ n_w927, h.2.2.2.2.1 _ n_s27⟩ (Cn := RX12) (fun a S V hP => by obtain ⟨u0, u1, rfl, e, -⟩ := hP; exact ⟨u0, _, 12, _, _, TX12, 31, rfl, rfl, by rw [e]; decide, by rw [e]; rfl, rfl⟩)
theorem K13_47_18 {C : qCx} {G : jG} {mc ms : Nat} {p : Int → jS → jH → Prop} {q : Int → jS → jH → jS → jH → Prop} (h : x13_47 C G) (hrm : C.2.2.2.1.frames = 5 ∧ C.2.2.2.1.locals = 121) (hM : M13_46 C.2.1 mc ms p q) : j_Call C b_13_47 n_KT G.1 G.2.1 3 (.invokevirtual 259) mc ms (fun a S V => ∃ u0 : Int, a = [(2, u0)] ∧ S.1 u0 = 33 ∧ p u0 S V) (fun a S V rs S' V' => ∃ u0 : Int, a = [(2, u0)] ∧ rs = [] ∧ q u0 S V S' V') := j_callV n_NWk h.2.2.2.2.2 h.1 hM ⟨h.2.1.1, h.2.1.2, h.2.2.1, h.2.2.2.1, h.2.2.2.2.1⟩ ⟨n_CB (y := y_13_46) (bytes := b_13_46) 0 h.2.2.2.2.1 n_w1104 n_w1101 n_w12 ⟨by decide, by decide, by decide +kernel⟩ rfl rfl ⟨by rw [hrm.1]; exact Nat.le_of_ble_eq_true rfl, by rw [hrm.2]; exact Nat.le_of_ble_eq_true rfl⟩, h.2.2.2.2.1 _ n_w1103, h.2.2.2.2.1 _ n_s50⟩ (Cn := RX12) (fun a S V hP => by obtain ⟨u0, rfl, e, -⟩ := hP; exact ⟨u0, _, 12, _, _, TX12, 31, rfl, rfl, by rw [e]; decide, by rw [e]; rfl, rfl⟩)
theorem K13_47_31 {C : qCx} {G : jG} {mc ms : Nat} {p : Int → Int → Int → jS → jH → Prop} {q : Int → Int → Int → jS → jH → Int → jS → jH → Prop} (h : x13_47 C G) (hrm : C.2.2.2.1.frames = 5 ∧ C.2.2.2.1.locals = 121) (hM : M13_3 C.2.1 mc ms p q) : j_Call C b_13_47 n_KT G.1 G.2.1 3 (.invokestatic 69) mc ms (fun a S V => ∃ u0 u1 u2 : Int, a = [(1, u0), (1, u1), (1, u2)] ∧ p u0 u1 u2 S V) (fun a S V rs S' V' => ∃ u0 u1 u2 r : Int, a = [(1, u0), (1, u1), (1, u2)] ∧ rs = [(0, r)] ∧ q u0 u1 u2 S V r S' V') := j_callS n_NWk h.2.2.2.2.2 h.1 hM ⟨h.2.1.1, h.2.1.2, h.2.2.1, h.2.2.2.1, h.2.2.2.2.1⟩ ⟨n_CB (y := y_13_3) (bytes := b_13_3) 3 h.2.2.2.2.1 n_w923 n_w921 n_w12 ⟨by decide, by decide, by decide +kernel⟩ rfl rfl ⟨by rw [hrm.1]; exact Nat.le_of_ble_eq_true rfl, by rw [hrm.2]; exact Nat.le_of_ble_eq_true rfl⟩, h.2.2.2.2.1 _ n_w922⟩ (fun a S V hP => by obtain ⟨u0, u1, u2, rfl, -⟩ := hP; rfl)
theorem K13_47_43 {C : qCx} {G : jG} {mc ms : Nat} {p : Int → Int → Int → jS → jH → Prop} {q : Int → Int → Int → jS → jH → Int → jS → jH → Prop} (h : x13_47 C G) (hrm : C.2.2.2.1.frames = 5 ∧ C.2.2.2.1.locals = 121) (hM : M13_3 C.2.1 mc ms p q) : j_Call C b_13_47 n_KT G.1 G.2.1 3 (.invokestatic 69) mc ms (fun a S V => ∃ u0 u1 u2 : Int, a = [(1, u0), (1, u1), (1, u2)] ∧ p u0 u1 u2 S V) (fun a S V rs S' V' => ∃ u0 u1 u2 r : Int, a = [(1, u0), (1, u1), (1, u2)] ∧ rs = [(0, r)] ∧ q u0 u1 u2 S V r S' V') := j_callS n_NWk h.2.2.2.2.2 h.1 hM ⟨h.2.1.1, h.2.1.2, h.2.2.1, h.2.2.2.1, h.2.2.2.2.1⟩ ⟨n_CB (y := y_13_3) (bytes := b_13_3) 3 h.2.2.2.2.1 n_w923 n_w921 n_w12 ⟨by decide, by decide, by decide +kernel⟩ rfl rfl ⟨by rw [hrm.1]; exact Nat.le_of_ble_eq_true rfl, by rw [hrm.2]; exact Nat.le_of_ble_eq_true rfl⟩, h.2.2.2.2.1 _ n_w922⟩ (fun a S V hP => by obtain ⟨u0, u1, u2, rfl, -⟩ := hP; rfl)
theorem K13_47_51 {C : qCx} {G : jG} {mc ms : Nat} {p : Int → Int → jS → jH → Prop} {q : Int → Int → jS → jH → Int → jS → jH → Prop} (h : x13_47 C G) (hrm : C.2.2.2.1.frames = 5 ∧ C.2.2.2.1.locals = 121) (hM : M13_2 C.2.1 mc ms p q) : j_Call C b_13_47 n_KT G.1 G.2.1 3 (.invokevirtual 82) mc ms (fun a S V => ∃ u0 u1 : Int, a = [(2, u0), (0, u1)] ∧ S.1 u0 = 33 ∧ p u0 u1 S V) (fun a S V rs S' V' => ∃ u0 u1 r : Int, a = [(2, u0), (0, u1)] ∧ rs = [(0, r)] ∧ q u0 u1 S V r S' V') := j_callV n_NWk h.2.2.2.2.2 h.1 hM ⟨h.2.1.1, h.2.1.2, h.2.2.1, h.2.2.2.1, h.2.2.2.2.1⟩ ⟨n_CB (y := y_13_2) (bytes := b_13_2) 1 h.2.2.2.2.1 n_w928 n_w925 n_w12 ⟨by decide, by decide, by decide +kernel⟩ rfl rfl ⟨by rw [hrm.1]; exact Nat.le_of_ble_eq_true rfl, by rw [hrm.2]; exact Nat.le_of_ble_eq_true rfl⟩, h.2.2.2.2.1 _ n_w927, h.2.2.2.2.1 _ n_s27⟩ (Cn := RX12) (fun a S V hP => by obtain ⟨u0, u1, rfl, e, -⟩ := hP; exact ⟨u0, _, 12, _, _, TX12, 31, rfl, rfl, by rw [e]; decide, by rw [e]; rfl, rfl⟩)
theorem t13_47_0 {C : qCx} {G : jG} {S : jS} {V : jH} {nc ns : Nat} {l0 l1 l2 : Int} (h : x13_47 C G) (L : j_L S) (c1 : S.1 l0 = 33) (k : ¬ V (l0 + 1) 9 = 0 → j_ok n_KT 3 C G 17 [(0, (2, l0)), (1, (0, l1)), (2, (0, l2))] [] S V nc ns) (k' : V (l0 + 1) 9 = 0 → j_ok n_KT 3 C G 10 [(0, (2, l0))] [] S V nc ns) : j_ok n_KT 3 C G 0 [(0, (2, l0)), (1, (0, l1)), (2, (0, l2))] [] S V nc ns := by
  have E := n_E h
  refine j_aload_n E d13_47_0 rfl 0 rfl ?_
  refine j_getS (f := 0) (x := l0 + 1) (fg12_10 h) d13_47_1 c1 (by decide) rfl rfl ((L12_0 L c1).trans (by omega)) ?_
  refine j_getI (f := 9) (fg12_200 h) d13_47_4 (show S.1 (l0 + 1) = 32 from (by have q := L12_0k L c1; rw [show l0 + 1 = l0 + 1 by omega]; exact q)) (by decide) rfl rfl ?_
  exact j_if_ne E d13_47_7 (t := 17) rfl (fun q => j_pick [0, 1, 2] rfl (k q)) (fun q => j_pick [0] rfl (k' q))
theorem t13_47_10 {C : qCx} {G : jG} {S : jS} {V : jH} {nc ns : Nat} {l0 : Int} {mc ms : Nat} {pp : Int → Int → jS → jH → Prop} {qq : Int → Int → jS → jH → Int → jS → jH → Prop} (h : x13_47 C G) (hrm : C.2.2.2.1.frames = 5 ∧ C.2.2.2.1.locals = 121) (c1 : S.1 l0 = 33) (hM : M13_2 C.2.1 mc ms pp qq) (hp : pp l0 ((-6)) S V) (hc : nc + mc ≤ C.2.2.2.1.cells) (hs : ns + ms ≤ C.2.2.2.1.slots) (k : ∀ (r : Int) (S' : jS) (V' : jH), qq l0 ((-6)) S V r S' V' → j_ok n_KT 3 C G 16 [] [(0, r)] S' V' (nc + mc) (ns + ms)) : j_ok n_KT 3 C G 10 [(0, (2, l0))] [] S V nc ns := by
  have E := n_E h
  refine j_aload_n E d13_47_10 rfl 0 rfl ?_
  refine j_bipush E d13_47_11 (by decide) ?_
  refine j_call E (K13_47_13 h hrm hM) d13_47_13 (a := [(2, l0), (0, (-6))]) (sk := []) rfl ⟨l0, (-6), rfl, c1, hp⟩ (Nat.le_of_ble_eq_true rfl) hc hs ?_
  rintro rs S' V' ⟨z0, z1, r, e1, rfl, q⟩
  simp only [List.cons.injEq, Prod.mk.injEq, and_true, true_and] at e1
  obtain ⟨rfl, rfl⟩ := e1
  exact j_pick [] rfl (k r S' V' q)
theorem t13_47_16 {C : qCx} {G : jG} {S : jS} {V : jH} {nc ns : Nat} {s0 : Int} {mc ms : Nat} {qf : Int → jS → jH → Prop} (h : x13_47 C G)  (R : j_Ri n_KT 3 C G b_13_47 mc ms qf) (q : qf s0 S V) (hc : nc ≤ mc) (hs : ns ≤ ms) : j_ok n_KT 3 C G 16 [] [(0, s0)] S V nc ns := by
  have E := n_E h
  exact R _ _ _ _ _ _ _ d13_47_16 q hc hs
theorem t13_47_17 {C : qCx} {G : jG} {S : jS} {V : jH} {nc ns : Nat} {l0 l1 l2 : Int} {mc ms : Nat} {pp : Int → jS → jH → Prop} {qq : Int → jS → jH → jS → jH → Prop} (h : x13_47 C G) (hrm : C.2.2.2.1.frames = 5 ∧ C.2.2.2.1.locals = 121) (c1 : S.1 l0 = 33) (hM : M13_46 C.2.1 mc ms pp qq) (hp : pp l0 S V) (hc : nc + mc ≤ C.2.2.2.1.cells) (hs : ns + ms ≤ C.2.2.2.1.slots) (k : ∀ (S' : jS) (V' : jH), qq l0 S V S' V' → j_ok n_KT 3 C G 21 [(0, (2, l0)), (1, (0, l1)), (2, (0, l2))] [] S' V' (nc + mc) (ns + ms)) : j_ok n_KT 3 C G 17 [(0, (2, l0)), (1, (0, l1)), (2, (0, l2))] [] S V nc ns := by
  have E := n_E h
  refine j_aload_n E d13_47_17 rfl 0 rfl ?_
  refine j_call E (K13_47_18 h hrm hM) d13_47_18 (a := [(2, l0)]) (sk := []) rfl ⟨l0, rfl, c1, hp⟩ (Nat.le_of_ble_eq_true rfl) hc hs ?_
  rintro rs S' V' ⟨z0, e1, rfl, q⟩
  simp only [List.cons.injEq, Prod.mk.injEq, and_true, true_and] at e1
  obtain ⟨rfl⟩ := e1
  exact j_pick [0, 1, 2] rfl (k S' V' q)
theorem t13_47_21 {C : qCx} {G : jG} {S : jS} {V : jH} {nc ns : Nat} {l0 l1 l2 : Int} {mc ms : Nat} {pp : Int → Int → Int → jS → jH → Prop} {qq : Int → Int → Int → jS → jH → Int → jS → jH → Prop} (h : x13_47 C G) (hrm : C.2.2.2.1.frames = 5 ∧ C.2.2.2.1.locals = 121) (c1 : S.1 l0 = 33) (c2 : -2147483648 ≤ (V l0 24) - 1 ∧ (V l0 24) - 1 ≤ 2147483647) (hM : M13_3 C.2.1 mc ms pp qq) (hp : pp l1 0 ((V l0 24) - 1) S V) (hc : nc + mc ≤ C.2.2.2.1.cells) (hs : ns + ms ≤ C.2.2.2.1.slots) (k : ∀ (r : Int) (S' : jS) (V' : jH), qq l1 0 ((V l0 24) - 1) S V r S' V' → j_ok n_KT 3 C G 34 [(0, (2, l0)), (1, (0, l1)), (2, (0, l2))] [(0, r)] S' V' (nc + mc) (ns + ms)) : j_ok n_KT 3 C G 21 [(0, (2, l0)), (1, (0, l1)), (2, (0, l2))] [] S V nc ns := by
  have E := n_E h
  refine j_iload_n E d13_47_21 rfl 1 rfl ?_
  refine j_i2l E d13_47_22 ?_
  refine j_lconst E d13_47_23 ?_
  refine j_aload_n E d13_47_24 rfl 0 rfl ?_
  refine j_getI (f := 24) (fg12_230 h) d13_47_25 c1 (by decide) rfl rfl ?_
  refine j_iconst E d13_47_28 (by decide) ?_
  refine j_isub E d13_47_29 c2 ?_
  refine j_i2l E d13_47_30 ?_
  refine j_call E (K13_47_31 h hrm hM) d13_47_31 (a := [(1, l1), (1, 0), (1, (V l0 24) - 1)]) (sk := []) rfl ⟨l1, 0, (V l0 24) - 1, rfl, hp⟩ (Nat.le_of_ble_eq_true rfl) hc hs ?_
  rintro rs S' V' ⟨z0, z1, z2, r, e1, rfl, q⟩
  simp only [List.cons.injEq, Prod.mk.injEq, and_true, true_and] at e1
  obtain ⟨rfl, rfl, rfl⟩ := e1
  exact j_pick [0, 1, 2] rfl (k r S' V' q)
theorem t13_47_34 {C : qCx} {G : jG} {S : jS} {V : jH} {nc ns : Nat} {l0 l1 l2 s0 : Int} (h : x13_47 C G)  (k : s0 = 0 → j_ok n_KT 3 C G 49 [(0, (2, l0))] [] S V nc ns) (k' : ¬ s0 = 0 → j_ok n_KT 3 C G 37 [(0, (2, l0)), (1, (0, l1)), (2, (0, l2))] [] S V nc ns) : j_ok n_KT 3 C G 34 [(0, (2, l0)), (1, (0, l1)), (2, (0, l2))] [(0, s0)] S V nc ns := by
  have E := n_E h
  exact j_if_eq E d13_47_34 (t := 49) rfl (fun q => j_pick [0] rfl (k q)) (fun q => j_pick [0, 1, 2] rfl (k' q))
theorem t13_47_37 {C : qCx} {G : jG} {S : jS} {V : jH} {nc ns : Nat} {l0 l1 l2 : Int} {mc ms : Nat} {pp : Int → Int → Int → jS → jH → Prop} {qq : Int → Int → Int → jS → jH → Int → jS → jH → Prop} (h : x13_47 C G) (hrm : C.2.2.2.1.frames = 5 ∧ C.2.2.2.1.locals = 121)  (hM : M13_3 C.2.1 mc ms pp qq) (hp : pp l2 0 4 S V) (hc : nc + mc ≤ C.2.2.2.1.cells) (hs : ns + ms ≤ C.2.2.2.1.slots) (k : ∀ (r : Int) (S' : jS) (V' : jH), qq l2 0 4 S V r S' V' → j_ok n_KT 3 C G 46 [(0, (2, l0)), (1, (0, l1)), (2, (0, l2))] [(0, r)] S' V' (nc + mc) (ns + ms)) : j_ok n_KT 3 C G 37 [(0, (2, l0)), (1, (0, l1)), (2, (0, l2))] [] S V nc ns := by
  have E := n_E h
  refine j_iload_n E d13_47_37 rfl 2 rfl ?_
  refine j_i2l E d13_47_38 ?_
  refine j_lconst E d13_47_39 ?_
  refine j_ldc2 (n := 4) (fl12_96 h) rfl d13_47_40 ?_
  refine j_call E (K13_47_43 h hrm hM) d13_47_43 (a := [(1, l2), (1, 0), (1, 4)]) (sk := []) rfl ⟨l2, 0, 4, rfl, hp⟩ (Nat.le_of_ble_eq_true rfl) hc hs ?_
  rintro rs S' V' ⟨z0, z1, z2, r, e1, rfl, q⟩
  simp only [List.cons.injEq, Prod.mk.injEq, and_true, true_and] at e1
  obtain ⟨rfl, rfl, rfl⟩ := e1
  exact j_pick [0, 1, 2] rfl (k r S' V' q)
theorem t13_47_46 {C : qCx} {G : jG} {S : jS} {V : jH} {nc ns : Nat} {l0 l1 l2 s0 : Int} (h : x13_47 C G)  (k : ¬ s0 = 0 → j_ok n_KT 3 C G 55 [(0, (2, l0)), (1, (0, l1)), (2, (0, l2))] [] S V nc ns) (k' : s0 = 0 → j_ok n_KT 3 C G 49 [(0, (2, l0))] [] S V nc ns) : j_ok n_KT 3 C G 46 [(0, (2, l0)), (1, (0, l1)), (2, (0, l2))] [(0, s0)] S V nc ns := by
  have E := n_E h
  exact j_if_ne E d13_47_46 (t := 55) rfl (fun q => j_pick [0, 1, 2] rfl (k q)) (fun q => j_pick [0] rfl (k' q))
theorem t13_47_49 {C : qCx} {G : jG} {S : jS} {V : jH} {nc ns : Nat} {l0 : Int} {mc ms : Nat} {pp : Int → Int → jS → jH → Prop} {qq : Int → Int → jS → jH → Int → jS → jH → Prop} (h : x13_47 C G) (hrm : C.2.2.2.1.frames = 5 ∧ C.2.2.2.1.locals = 121) (c1 : S.1 l0 = 33) (hM : M13_2 C.2.1 mc ms pp qq) (hp : pp l0 ((-1)) S V) (hc : nc + mc ≤ C.2.2.2.1.cells) (hs : ns + ms ≤ C.2.2.2.1.slots) (k : ∀ (r : Int) (S' : jS) (V' : jH), qq l0 ((-1)) S V r S' V' → j_ok n_KT 3 C G 54 [] [(0, r)] S' V' (nc + mc) (ns + ms)) : j_ok n_KT 3 C G 49 [(0, (2, l0))] [] S V nc ns := by
  have E := n_E h
  refine j_aload_n E d13_47_49 rfl 0 rfl ?_
  refine j_iconst E d13_47_50 (by decide) ?_
  refine j_call E (K13_47_51 h hrm hM) d13_47_51 (a := [(2, l0), (0, (-1))]) (sk := []) rfl ⟨l0, (-1), rfl, c1, hp⟩ (Nat.le_of_ble_eq_true rfl) hc hs ?_
  rintro rs S' V' ⟨z0, z1, r, e1, rfl, q⟩
  simp only [List.cons.injEq, Prod.mk.injEq, and_true, true_and] at e1
  obtain ⟨rfl, rfl⟩ := e1
  exact j_pick [] rfl (k r S' V' q)
theorem t13_47_54 {C : qCx} {G : jG} {S : jS} {V : jH} {nc ns : Nat} {s0 : Int} {mc ms : Nat} {qf : Int → jS → jH → Prop} (h : x13_47 C G)  (R : j_Ri n_KT 3 C G b_13_47 mc ms qf) (q : qf s0 S V) (hc : nc ≤ mc) (hs : ns ≤ ms) : j_ok n_KT 3 C G 54 [] [(0, s0)] S V nc ns := by
  have E := n_E h
  exact R _ _ _ _ _ _ _ d13_47_54 q hc hs
theorem t13_47_55 {C : qCx} {G : jG} {S : jS} {V : jH} {nc ns : Nat} {l0 l1 l2 : Int} (h : x13_47 C G)  (k : ¬ l2 = 0 → j_ok n_KT 3 C G 68 [(0, (2, l0)), (1, (0, l1)), (2, (0, l2))] [] S V nc ns) (k' : l2 = 0 → j_ok n_KT 3 C G 59 [(0, (2, l0)), (1, (0, l1))] [] S V nc ns) : j_ok n_KT 3 C G 55 [(0, (2, l0)), (1, (0, l1)), (2, (0, l2))] [] S V nc ns := by
  have E := n_E h
  refine j_iload_n E d13_47_55 rfl 2 rfl ?_
  exact j_if_ne E d13_47_56 (t := 68) rfl (fun q => j_pick [0, 1, 2] rfl (k q)) (fun q => j_pick [0, 1] rfl (k' q))
theorem t13_47_59 {C : qCx} {G : jG} {S : jS} {V : jH} {nc ns : Nat} {l0 l1 : Int} (h : x13_47 C G) (L : j_L S) (c1 : S.1 l0 = 33) (c2 : 0 ≤ l1) (c3 : l1 < 400) (k : j_ok n_KT 3 C G 117 [] [(0, V (l0 + 28) l1)] S V nc ns) : j_ok n_KT 3 C G 59 [(0, (2, l0)), (1, (0, l1))] [] S V nc ns := by
  have E := n_E h
  refine j_aload_n E d13_47_59 rfl 0 rfl ?_
  refine j_getS (f := 28) (x := l0 + 28) (fg12_54 h) d13_47_60 c1 (by decide) rfl rfl ((L12_28 L c1).trans (by omega)) ?_
  refine j_iload_n E d13_47_63 rfl 1 rfl ?_
  refine j_iald E d13_47_64 (j_arr_of (show S.1 (l0 + 28) = 1 from (by have q := L12_28k L c1; rw [show l0 + 28 = l0 + 28 by omega]; exact q)) (by decide) rfl) c2 c3 ?_
  refine j_goto E d13_47_65 (t := 117) rfl ?_
  exact j_pick [] rfl k
theorem t13_47_68 {C : qCx} {G : jG} {S : jS} {V : jH} {nc ns : Nat} {l0 l1 l2 : Int} (h : x13_47 C G)  (k : ¬ l2 = 1 → j_ok n_KT 3 C G 83 [(0, (2, l0)), (1, (0, l1)), (2, (0, l2))] [] S V nc ns) (k' : l2 = 1 → j_ok n_KT 3 C G 73 [(0, (2, l0)), (1, (0, l1))] [] S V nc ns) : j_ok n_KT 3 C G 68 [(0, (2, l0)), (1, (0, l1)), (2, (0, l2))] [] S V nc ns := by
  have E := n_E h
  refine j_iload_n E d13_47_68 rfl 2 rfl ?_
  refine j_iconst E d13_47_69 (by decide) ?_
  exact j_icmp_ne E d13_47_70 (t := 83) rfl (fun q => j_pick [0, 1, 2] rfl (k q)) (fun q => j_pick [0, 1] rfl (k' q))
theorem t13_47_73 {C : qCx} {G : jG} {S : jS} {V : jH} {nc ns : Nat} {l0 l1 : Int} (h : x13_47 C G) (L : j_L S) (c1 : S.1 l0 = 33) (c2 : 0 ≤ l1) (c3 : l1 < 400) (k : j_ok n_KT 3 C G 117 [] [(0, j_w32 (V (l0 + 29) l1))] S V nc ns) : j_ok n_KT 3 C G 73 [(0, (2, l0)), (1, (0, l1))] [] S V nc ns := by
  have E := n_E h
  refine j_aload_n E d13_47_73 rfl 0 rfl ?_
  refine j_getS (f := 29) (x := l0 + 29) (fg12_57 h) d13_47_74 c1 (by decide) rfl rfl ((L12_29 L c1).trans (by omega)) ?_
  refine j_iload_n E d13_47_77 rfl 1 rfl ?_
  refine j_lald E d13_47_78 (j_arrL_of (show S.1 (l0 + 29) = 16 from (by have q := L12_29k L c1; rw [show l0 + 29 = l0 + 29 by omega]; exact q)) (by decide) rfl) c2 c3 ?_
  refine j_l2i E d13_47_79 ?_
  refine j_goto E d13_47_80 (t := 117) rfl ?_
  exact j_pick [] rfl k
theorem t13_47_83 {C : qCx} {G : jG} {S : jS} {V : jH} {nc ns : Nat} {l0 l1 l2 : Int} (h : x13_47 C G)  (k : ¬ l2 = 2 → j_ok n_KT 3 C G 97 [(0, (2, l0)), (1, (0, l1)), (2, (0, l2))] [] S V nc ns) (k' : l2 = 2 → j_ok n_KT 3 C G 88 [(0, (2, l0)), (1, (0, l1))] [] S V nc ns) : j_ok n_KT 3 C G 83 [(0, (2, l0)), (1, (0, l1)), (2, (0, l2))] [] S V nc ns := by
  have E := n_E h
  refine j_iload_n E d13_47_83 rfl 2 rfl ?_
  refine j_iconst E d13_47_84 (by decide) ?_
  exact j_icmp_ne E d13_47_85 (t := 97) rfl (fun q => j_pick [0, 1, 2] rfl (k q)) (fun q => j_pick [0, 1] rfl (k' q))
theorem t13_47_88 {C : qCx} {G : jG} {S : jS} {V : jH} {nc ns : Nat} {l0 l1 : Int} (h : x13_47 C G) (L : j_L S) (c1 : S.1 l0 = 33) (c2 : 0 ≤ l1) (c3 : l1 < 400) (k : j_ok n_KT 3 C G 117 [] [(0, V (l0 + 30) l1)] S V nc ns) : j_ok n_KT 3 C G 88 [(0, (2, l0)), (1, (0, l1))] [] S V nc ns := by
  have E := n_E h
  refine j_aload_n E d13_47_88 rfl 0 rfl ?_
  refine j_getS (f := 30) (x := l0 + 30) (fg12_60 h) d13_47_89 c1 (by decide) rfl rfl ((L12_30 L c1).trans (by omega)) ?_
  refine j_iload_n E d13_47_92 rfl 1 rfl ?_
  refine j_iald E d13_47_93 (j_arr_of (show S.1 (l0 + 30) = 1 from (by have q := L12_30k L c1; rw [show l0 + 30 = l0 + 30 by omega]; exact q)) (by decide) rfl) c2 c3 ?_
  refine j_goto E d13_47_94 (t := 117) rfl ?_
  exact j_pick [] rfl k
theorem t13_47_97 {C : qCx} {G : jG} {S : jS} {V : jH} {nc ns : Nat} {l0 l1 l2 : Int} (h : x13_47 C G)  (k : ¬ l2 = 3 → j_ok n_KT 3 C G 111 [(0, (2, l0)), (1, (0, l1))] [] S V nc ns) (k' : l2 = 3 → j_ok n_KT 3 C G 102 [(0, (2, l0)), (1, (0, l1))] [] S V nc ns) : j_ok n_KT 3 C G 97 [(0, (2, l0)), (1, (0, l1)), (2, (0, l2))] [] S V nc ns := by
  have E := n_E h
  refine j_iload_n E d13_47_97 rfl 2 rfl ?_
  refine j_iconst E d13_47_98 (by decide) ?_
  exact j_icmp_ne E d13_47_99 (t := 111) rfl (fun q => j_pick [0, 1] rfl (k q)) (fun q => j_pick [0, 1] rfl (k' q))
theorem t13_47_102 {C : qCx} {G : jG} {S : jS} {V : jH} {nc ns : Nat} {l0 l1 : Int} (h : x13_47 C G) (L : j_L S) (c1 : S.1 l0 = 33) (c2 : 0 ≤ l1) (c3 : l1 < 400) (k : j_ok n_KT 3 C G 117 [] [(0, V (l0 + 22) l1)] S V nc ns) : j_ok n_KT 3 C G 102 [(0, (2, l0)), (1, (0, l1))] [] S V nc ns := by
  have E := n_E h
  refine j_aload_n E d13_47_102 rfl 0 rfl ?_
  refine j_getS (f := 14) (x := l0 + 22) (fg12_35 h) d13_47_103 c1 (by decide) rfl rfl ((L12_14 L c1).trans (by omega)) ?_
  refine j_iload_n E d13_47_106 rfl 1 rfl ?_
  refine j_iald E d13_47_107 (j_arr_of (show S.1 (l0 + 22) = 1 from (by have q := L12_14k L c1; rw [show l0 + 22 = l0 + 22 by omega]; exact q)) (by decide) rfl) c2 c3 ?_
  refine j_goto E d13_47_108 (t := 117) rfl ?_
  exact j_pick [] rfl k
theorem t13_47_111 {C : qCx} {G : jG} {S : jS} {V : jH} {nc ns : Nat} {l0 l1 : Int} (h : x13_47 C G) (L : j_L S) (c1 : S.1 l0 = 33) (c2 : 0 ≤ l1) (c3 : l1 < 400) (k : j_ok n_KT 3 C G 117 [] [(0, V (l0 + 23) l1)] S V nc ns) : j_ok n_KT 3 C G 111 [(0, (2, l0)), (1, (0, l1))] [] S V nc ns := by
  have E := n_E h
  refine j_aload_n E d13_47_111 rfl 0 rfl ?_
  refine j_getS (f := 15) (x := l0 + 23) (fg12_38 h) d13_47_112 c1 (by decide) rfl rfl ((L12_15 L c1).trans (by omega)) ?_
  refine j_iload_n E d13_47_115 rfl 1 rfl ?_
  refine j_iald E d13_47_116 (j_arr_of (show S.1 (l0 + 23) = 1 from (by have q := L12_15k L c1; rw [show l0 + 23 = l0 + 23 by omega]; exact q)) (by decide) rfl) c2 c3 ?_
  exact j_pick [] rfl k
theorem t13_47_117 {C : qCx} {G : jG} {S : jS} {V : jH} {nc ns : Nat} {s0 : Int} {mc ms : Nat} {qf : Int → jS → jH → Prop} (h : x13_47 C G)  (R : j_Ri n_KT 3 C G b_13_47 mc ms qf) (q : qf s0 S V) (hc : nc ≤ mc) (hs : ns ≤ ms) : j_ok n_KT 3 C G 117 [] [(0, s0)] S V nc ns := by
  have E := n_E h
  exact R _ _ _ _ _ _ _ d13_47_117 q hc hs
/- BalanceCoderModel.mark(I)I -/
abbrev b_13_48 : ByteArray := prog_13_method_48_code
def y_13_48 : MethodName := ⟨"BalanceCoderModel", "mark", "(I)I"⟩
abbrev x13_48 (C : qCx) (G : jG) : Prop := n_ctx C b_13_48 2 "BalanceCoderModel" G.1 G.2.1
def M13_48 (l : Launch) (mc ms : Nat) (p : Int → Int → jS → jH → Prop) (q : Int → Int → jS → jH → Int → jS → jH → Prop) : Prop := j_Met l vwCl n_TL n_NW n_KT y_13_48 (Cond.code y_13_48 b_13_48 2 (some .int) :: n_GW) { frames := 5, cells := mc, slots := ms, locals := 121 } mc ms (fun a S V => ∃ u0 u1 : Int, a = [(2, u0), (0, u1)] ∧ S.1 u0 = 33 ∧ p u0 u1 S V) (fun a S V rs S' V' => ∃ u0 u1 r : Int, a = [(2, u0), (0, u1)] ∧ rs = [(0, r)] ∧ q u0 u1 S V r S' V')
theorem e13_48 {l : Launch} {mc ms : Nat} {p : Int → Int → jS → jH → Prop} {q : Int → Int → jS → jH → Int → jS → jH → Prop} (body : ∀ (C : qCx) (G : jG), x13_48 C G → C.2.2.2.1.frames = 5 ∧ C.2.2.2.1.locals = 121 → C.2.2.2.1.cells = mc ∧ C.2.2.2.1.slots = ms → C.2.1 = l → C.2.2.2.2.2.2.2.2.1.name = "mark" → ∀ (u0 u1 : Int) (S : jS) (V : jH), S.1 u0 = 33 → p u0 u1 S V → j_Ri n_KT 2 C G b_13_48 mc ms (q u0 u1 S V) → j_ok n_KT 2 C G 0 [(0, (2, u0)), (1, (0, u1))] [] S V 0 0) : M13_48 l mc ms p q := by
  refine j_method (ws' := n_GW) (by decide) rfl ?_ ?_
  · rintro a S V ⟨u0, u1, rfl, -⟩
    exact Nat.le_of_ble_eq_true rfl
  · rintro C G htl hl hrm hm hml ho hts hnm hE a S V ⟨u0, u1, rfl, ht, hp⟩ R
    exact body C G ⟨htl, hm, hml, ho, fun w hw => hts w (List.mem_cons_of_mem _ hw), hE⟩ (by rw [hrm]; exact ⟨rfl, rfl⟩) (by rw [hrm]; exact ⟨rfl, rfl⟩) hl hnm u0 u1 S V ht hp (fun pc lo r S' V' nc ns d q hc hs => R.2.1 rfl pc lo r S' V' nc ns d ⟨u0, u1, r, rfl, rfl, q⟩ hc hs)
theorem d13_48_0 : decode b_13_48 0 = .ok (.aload_n 0, 1) := by decide +kernel
theorem d13_48_1 : decode b_13_48 1 = .ok (.getfield 10, 3) := by decide +kernel
theorem d13_48_4 : decode b_13_48 4 = .ok (.getfield 200, 3) := by decide +kernel
theorem d13_48_7 : decode b_13_48 7 = .ok (.ifCond .ne 10, 3) := by decide +kernel
theorem d13_48_10 : decode b_13_48 10 = .ok (.aload_n 0, 1) := by decide +kernel
theorem d13_48_11 : decode b_13_48 11 = .ok (.bipush (-6), 2) := by decide +kernel
theorem d13_48_13 : decode b_13_48 13 = .ok (.invokevirtual 82, 3) := by decide +kernel
theorem d13_48_16 : decode b_13_48 16 = .ok (.ireturn, 1) := by decide +kernel
theorem d13_48_17 : decode b_13_48 17 = .ok (.iload_n 1, 1) := by decide +kernel
theorem d13_48_18 : decode b_13_48 18 = .ok (.i2l, 1) := by decide +kernel
theorem d13_48_19 : decode b_13_48 19 = .ok (.lconst 1, 1) := by decide +kernel
theorem d13_48_20 : decode b_13_48 20 = .ok (.ldc2_w 233, 3) := by decide +kernel
theorem d13_48_23 : decode b_13_48 23 = .ok (.invokestatic 69, 3) := by decide +kernel
theorem d13_48_26 : decode b_13_48 26 = .ok (.ifCond .ne 9, 3) := by decide +kernel
theorem d13_48_29 : decode b_13_48 29 = .ok (.aload_n 0, 1) := by decide +kernel
theorem d13_48_30 : decode b_13_48 30 = .ok (.iconst (-1), 1) := by decide +kernel
theorem d13_48_31 : decode b_13_48 31 = .ok (.invokevirtual 82, 3) := by decide +kernel
theorem d13_48_34 : decode b_13_48 34 = .ok (.ireturn, 1) := by decide +kernel
theorem d13_48_35 : decode b_13_48 35 = .ok (.aload_n 0, 1) := by decide +kernel
theorem d13_48_36 : decode b_13_48 36 = .ok (.invokevirtual 259, 3) := by decide +kernel
theorem d13_48_39 : decode b_13_48 39 = .ok (.aload_n 0, 1) := by decide +kernel
theorem d13_48_40 : decode b_13_48 40 = .ok (.getfield 149, 3) := by decide +kernel
theorem d13_48_43 : decode b_13_48 43 = .ok (.iconst 4, 1) := by decide +kernel
theorem d13_48_44 : decode b_13_48 44 = .ok (.if_icmp .ne 10, 3) := by decide +kernel
theorem d13_48_47 : decode b_13_48 47 = .ok (.aload_n 0, 1) := by decide +kernel
theorem d13_48_48 : decode b_13_48 48 = .ok (.bipush (-3), 2) := by decide +kernel
theorem d13_48_50 : decode b_13_48 50 = .ok (.invokevirtual 82, 3) := by decide +kernel
theorem d13_48_53 : decode b_13_48 53 = .ok (.ireturn, 1) := by decide +kernel
theorem d13_48_54 : decode b_13_48 54 = .ok (.aload_n 0, 1) := by decide +kernel
theorem d13_48_55 : decode b_13_48 55 = .ok (.getfield 10, 3) := by decide +kernel
theorem d13_48_58 : decode b_13_48 58 = .ok (.iload_n 1, 1) := by decide +kernel
theorem d13_48_59 : decode b_13_48 59 = .ok (.putfield 262, 3) := by decide +kernel
theorem d13_48_62 : decode b_13_48 62 = .ok (.aload_n 0, 1) := by decide +kernel
theorem d13_48_63 : decode b_13_48 63 = .ok (.getfield 10, 3) := by decide +kernel
theorem d13_48_66 : decode b_13_48 66 = .ok (.aload_n 0, 1) := by decide +kernel
theorem d13_48_67 : decode b_13_48 67 = .ok (.getfield 230, 3) := by decide +kernel
theorem d13_48_70 : decode b_13_48 70 = .ok (.iload_n 1, 1) := by decide +kernel
theorem d13_48_71 : decode b_13_48 71 = .ok (.iadd, 1) := by decide +kernel
theorem d13_48_72 : decode b_13_48 72 = .ok (.iconst 1, 1) := by decide +kernel
theorem d13_48_73 : decode b_13_48 73 = .ok (.isub, 1) := by decide +kernel
theorem d13_48_74 : decode b_13_48 74 = .ok (.iload_n 1, 1) := by decide +kernel
theorem d13_48_75 : decode b_13_48 75 = .ok (.idiv, 1) := by decide +kernel
theorem d13_48_76 : decode b_13_48 76 = .ok (.putfield 204, 3) := by decide +kernel
theorem d13_48_79 : decode b_13_48 79 = .ok (.aload_n 0, 1) := by decide +kernel
theorem d13_48_80 : decode b_13_48 80 = .ok (.getfield 10, 3) := by decide +kernel
theorem d13_48_83 : decode b_13_48 83 = .ok (.getfield 204, 3) := by decide +kernel
theorem d13_48_86 : decode b_13_48 86 = .ok (.ireturn, 1) := by decide +kernel
theorem K13_48_13 {C : qCx} {G : jG} {mc ms : Nat} {p : Int → Int → jS → jH → Prop} {q : Int → Int → jS → jH → Int → jS → jH → Prop} (h : x13_48 C G) (hrm : C.2.2.2.1.frames = 5 ∧ C.2.2.2.1.locals = 121) (hM : M13_2 C.2.1 mc ms p q) : j_Call C b_13_48 n_KT G.1 G.2.1 2 (.invokevirtual 82) mc ms (fun a S V => ∃ u0 u1 : Int, a = [(2, u0), (0, u1)] ∧ S.1 u0 = 33 ∧ p u0 u1 S V) (fun a S V rs S' V' => ∃ u0 u1 r : Int, a = [(2, u0), (0, u1)] ∧ rs = [(0, r)] ∧ q u0 u1 S V r S' V') := j_callV n_NWk h.2.2.2.2.2 h.1 hM ⟨h.2.1.1, h.2.1.2, h.2.2.1, h.2.2.2.1, h.2.2.2.2.1⟩ ⟨n_CB (y := y_13_2) (bytes := b_13_2) 1 h.2.2.2.2.1 n_w928 n_w925 n_w12 ⟨by decide, by decide, by decide +kernel⟩ rfl rfl ⟨by rw [hrm.1]; exact Nat.le_of_ble_eq_true rfl, by rw [hrm.2]; exact Nat.le_of_ble_eq_true rfl⟩, h.2.2.2.2.1 _ n_w927, h.2.2.2.2.1 _ n_s27⟩ (Cn := RX12) (fun a S V hP => by obtain ⟨u0, u1, rfl, e, -⟩ := hP; exact ⟨u0, _, 12, _, _, TX12, 31, rfl, rfl, by rw [e]; decide, by rw [e]; rfl, rfl⟩)
theorem K13_48_23 {C : qCx} {G : jG} {mc ms : Nat} {p : Int → Int → Int → jS → jH → Prop} {q : Int → Int → Int → jS → jH → Int → jS → jH → Prop} (h : x13_48 C G) (hrm : C.2.2.2.1.frames = 5 ∧ C.2.2.2.1.locals = 121) (hM : M13_3 C.2.1 mc ms p q) : j_Call C b_13_48 n_KT G.1 G.2.1 2 (.invokestatic 69) mc ms (fun a S V => ∃ u0 u1 u2 : Int, a = [(1, u0), (1, u1), (1, u2)] ∧ p u0 u1 u2 S V) (fun a S V rs S' V' => ∃ u0 u1 u2 r : Int, a = [(1, u0), (1, u1), (1, u2)] ∧ rs = [(0, r)] ∧ q u0 u1 u2 S V r S' V') := j_callS n_NWk h.2.2.2.2.2 h.1 hM ⟨h.2.1.1, h.2.1.2, h.2.2.1, h.2.2.2.1, h.2.2.2.2.1⟩ ⟨n_CB (y := y_13_3) (bytes := b_13_3) 3 h.2.2.2.2.1 n_w923 n_w921 n_w12 ⟨by decide, by decide, by decide +kernel⟩ rfl rfl ⟨by rw [hrm.1]; exact Nat.le_of_ble_eq_true rfl, by rw [hrm.2]; exact Nat.le_of_ble_eq_true rfl⟩, h.2.2.2.2.1 _ n_w922⟩ (fun a S V hP => by obtain ⟨u0, u1, u2, rfl, -⟩ := hP; rfl)
theorem K13_48_31 {C : qCx} {G : jG} {mc ms : Nat} {p : Int → Int → jS → jH → Prop} {q : Int → Int → jS → jH → Int → jS → jH → Prop} (h : x13_48 C G) (hrm : C.2.2.2.1.frames = 5 ∧ C.2.2.2.1.locals = 121) (hM : M13_2 C.2.1 mc ms p q) : j_Call C b_13_48 n_KT G.1 G.2.1 2 (.invokevirtual 82) mc ms (fun a S V => ∃ u0 u1 : Int, a = [(2, u0), (0, u1)] ∧ S.1 u0 = 33 ∧ p u0 u1 S V) (fun a S V rs S' V' => ∃ u0 u1 r : Int, a = [(2, u0), (0, u1)] ∧ rs = [(0, r)] ∧ q u0 u1 S V r S' V') := j_callV n_NWk h.2.2.2.2.2 h.1 hM ⟨h.2.1.1, h.2.1.2, h.2.2.1, h.2.2.2.1, h.2.2.2.2.1⟩ ⟨n_CB (y := y_13_2) (bytes := b_13_2) 1 h.2.2.2.2.1 n_w928 n_w925 n_w12 ⟨by decide, by decide, by decide +kernel⟩ rfl rfl ⟨by rw [hrm.1]; exact Nat.le_of_ble_eq_true rfl, by rw [hrm.2]; exact Nat.le_of_ble_eq_true rfl⟩, h.2.2.2.2.1 _ n_w927, h.2.2.2.2.1 _ n_s27⟩ (Cn := RX12) (fun a S V hP => by obtain ⟨u0, u1, rfl, e, -⟩ := hP; exact ⟨u0, _, 12, _, _, TX12, 31, rfl, rfl, by rw [e]; decide, by rw [e]; rfl, rfl⟩)
theorem K13_48_36 {C : qCx} {G : jG} {mc ms : Nat} {p : Int → jS → jH → Prop} {q : Int → jS → jH → jS → jH → Prop} (h : x13_48 C G) (hrm : C.2.2.2.1.frames = 5 ∧ C.2.2.2.1.locals = 121) (hM : M13_46 C.2.1 mc ms p q) : j_Call C b_13_48 n_KT G.1 G.2.1 2 (.invokevirtual 259) mc ms (fun a S V => ∃ u0 : Int, a = [(2, u0)] ∧ S.1 u0 = 33 ∧ p u0 S V) (fun a S V rs S' V' => ∃ u0 : Int, a = [(2, u0)] ∧ rs = [] ∧ q u0 S V S' V') := j_callV n_NWk h.2.2.2.2.2 h.1 hM ⟨h.2.1.1, h.2.1.2, h.2.2.1, h.2.2.2.1, h.2.2.2.2.1⟩ ⟨n_CB (y := y_13_46) (bytes := b_13_46) 0 h.2.2.2.2.1 n_w1104 n_w1101 n_w12 ⟨by decide, by decide, by decide +kernel⟩ rfl rfl ⟨by rw [hrm.1]; exact Nat.le_of_ble_eq_true rfl, by rw [hrm.2]; exact Nat.le_of_ble_eq_true rfl⟩, h.2.2.2.2.1 _ n_w1103, h.2.2.2.2.1 _ n_s50⟩ (Cn := RX12) (fun a S V hP => by obtain ⟨u0, rfl, e, -⟩ := hP; exact ⟨u0, _, 12, _, _, TX12, 31, rfl, rfl, by rw [e]; decide, by rw [e]; rfl, rfl⟩)
theorem K13_48_50 {C : qCx} {G : jG} {mc ms : Nat} {p : Int → Int → jS → jH → Prop} {q : Int → Int → jS → jH → Int → jS → jH → Prop} (h : x13_48 C G) (hrm : C.2.2.2.1.frames = 5 ∧ C.2.2.2.1.locals = 121) (hM : M13_2 C.2.1 mc ms p q) : j_Call C b_13_48 n_KT G.1 G.2.1 2 (.invokevirtual 82) mc ms (fun a S V => ∃ u0 u1 : Int, a = [(2, u0), (0, u1)] ∧ S.1 u0 = 33 ∧ p u0 u1 S V) (fun a S V rs S' V' => ∃ u0 u1 r : Int, a = [(2, u0), (0, u1)] ∧ rs = [(0, r)] ∧ q u0 u1 S V r S' V') := j_callV n_NWk h.2.2.2.2.2 h.1 hM ⟨h.2.1.1, h.2.1.2, h.2.2.1, h.2.2.2.1, h.2.2.2.2.1⟩ ⟨n_CB (y := y_13_2) (bytes := b_13_2) 1 h.2.2.2.2.1 n_w928 n_w925 n_w12 ⟨by decide, by decide, by decide +kernel⟩ rfl rfl ⟨by rw [hrm.1]; exact Nat.le_of_ble_eq_true rfl, by rw [hrm.2]; exact Nat.le_of_ble_eq_true rfl⟩, h.2.2.2.2.1 _ n_w927, h.2.2.2.2.1 _ n_s27⟩ (Cn := RX12) (fun a S V hP => by obtain ⟨u0, u1, rfl, e, -⟩ := hP; exact ⟨u0, _, 12, _, _, TX12, 31, rfl, rfl, by rw [e]; decide, by rw [e]; rfl, rfl⟩)
theorem t13_48_0 {C : qCx} {G : jG} {S : jS} {V : jH} {nc ns : Nat} {l0 l1 : Int} (h : x13_48 C G) (L : j_L S) (c1 : S.1 l0 = 33) (k : ¬ V (l0 + 1) 9 = 0 → j_ok n_KT 2 C G 17 [(0, (2, l0)), (1, (0, l1))] [] S V nc ns) (k' : V (l0 + 1) 9 = 0 → j_ok n_KT 2 C G 10 [(0, (2, l0))] [] S V nc ns) : j_ok n_KT 2 C G 0 [(0, (2, l0)), (1, (0, l1))] [] S V nc ns := by
  have E := n_E h
  refine j_aload_n E d13_48_0 rfl 0 rfl ?_
  refine j_getS (f := 0) (x := l0 + 1) (fg12_10 h) d13_48_1 c1 (by decide) rfl rfl ((L12_0 L c1).trans (by omega)) ?_
  refine j_getI (f := 9) (fg12_200 h) d13_48_4 (show S.1 (l0 + 1) = 32 from (by have q := L12_0k L c1; rw [show l0 + 1 = l0 + 1 by omega]; exact q)) (by decide) rfl rfl ?_
  exact j_if_ne E d13_48_7 (t := 17) rfl (fun q => j_pick [0, 1] rfl (k q)) (fun q => j_pick [0] rfl (k' q))
theorem t13_48_10 {C : qCx} {G : jG} {S : jS} {V : jH} {nc ns : Nat} {l0 : Int} {mc ms : Nat} {pp : Int → Int → jS → jH → Prop} {qq : Int → Int → jS → jH → Int → jS → jH → Prop} (h : x13_48 C G) (hrm : C.2.2.2.1.frames = 5 ∧ C.2.2.2.1.locals = 121) (c1 : S.1 l0 = 33) (hM : M13_2 C.2.1 mc ms pp qq) (hp : pp l0 ((-6)) S V) (hc : nc + mc ≤ C.2.2.2.1.cells) (hs : ns + ms ≤ C.2.2.2.1.slots) (k : ∀ (r : Int) (S' : jS) (V' : jH), qq l0 ((-6)) S V r S' V' → j_ok n_KT 2 C G 16 [] [(0, r)] S' V' (nc + mc) (ns + ms)) : j_ok n_KT 2 C G 10 [(0, (2, l0))] [] S V nc ns := by
  have E := n_E h
  refine j_aload_n E d13_48_10 rfl 0 rfl ?_
  refine j_bipush E d13_48_11 (by decide) ?_
  refine j_call E (K13_48_13 h hrm hM) d13_48_13 (a := [(2, l0), (0, (-6))]) (sk := []) rfl ⟨l0, (-6), rfl, c1, hp⟩ (Nat.le_of_ble_eq_true rfl) hc hs ?_
  rintro rs S' V' ⟨z0, z1, r, e1, rfl, q⟩
  simp only [List.cons.injEq, Prod.mk.injEq, and_true, true_and] at e1
  obtain ⟨rfl, rfl⟩ := e1
  exact j_pick [] rfl (k r S' V' q)
theorem t13_48_16 {C : qCx} {G : jG} {S : jS} {V : jH} {nc ns : Nat} {s0 : Int} {mc ms : Nat} {qf : Int → jS → jH → Prop} (h : x13_48 C G)  (R : j_Ri n_KT 2 C G b_13_48 mc ms qf) (q : qf s0 S V) (hc : nc ≤ mc) (hs : ns ≤ ms) : j_ok n_KT 2 C G 16 [] [(0, s0)] S V nc ns := by
  have E := n_E h
  exact R _ _ _ _ _ _ _ d13_48_16 q hc hs
theorem t13_48_17 {C : qCx} {G : jG} {S : jS} {V : jH} {nc ns : Nat} {l0 l1 : Int} {mc ms : Nat} {pp : Int → Int → Int → jS → jH → Prop} {qq : Int → Int → Int → jS → jH → Int → jS → jH → Prop} (h : x13_48 C G) (hrm : C.2.2.2.1.frames = 5 ∧ C.2.2.2.1.locals = 121)  (hM : M13_3 C.2.1 mc ms pp qq) (hp : pp l1 1 400 S V) (hc : nc + mc ≤ C.2.2.2.1.cells) (hs : ns + ms ≤ C.2.2.2.1.slots) (k : ∀ (r : Int) (S' : jS) (V' : jH), qq l1 1 400 S V r S' V' → j_ok n_KT 2 C G 26 [(0, (2, l0)), (1, (0, l1))] [(0, r)] S' V' (nc + mc) (ns + ms)) : j_ok n_KT 2 C G 17 [(0, (2, l0)), (1, (0, l1))] [] S V nc ns := by
  have E := n_E h
  refine j_iload_n E d13_48_17 rfl 1 rfl ?_
  refine j_i2l E d13_48_18 ?_
  refine j_lconst E d13_48_19 ?_
  refine j_ldc2 (n := 400) (fl12_233 h) rfl d13_48_20 ?_
  refine j_call E (K13_48_23 h hrm hM) d13_48_23 (a := [(1, l1), (1, 1), (1, 400)]) (sk := []) rfl ⟨l1, 1, 400, rfl, hp⟩ (Nat.le_of_ble_eq_true rfl) hc hs ?_
  rintro rs S' V' ⟨z0, z1, z2, r, e1, rfl, q⟩
  simp only [List.cons.injEq, Prod.mk.injEq, and_true, true_and] at e1
  obtain ⟨rfl, rfl, rfl⟩ := e1
  exact j_pick [0, 1] rfl (k r S' V' q)
theorem t13_48_26 {C : qCx} {G : jG} {S : jS} {V : jH} {nc ns : Nat} {l0 l1 s0 : Int} (h : x13_48 C G)  (k : ¬ s0 = 0 → j_ok n_KT 2 C G 35 [(0, (2, l0)), (1, (0, l1))] [] S V nc ns) (k' : s0 = 0 → j_ok n_KT 2 C G 29 [(0, (2, l0))] [] S V nc ns) : j_ok n_KT 2 C G 26 [(0, (2, l0)), (1, (0, l1))] [(0, s0)] S V nc ns := by
  have E := n_E h
  exact j_if_ne E d13_48_26 (t := 35) rfl (fun q => j_pick [0, 1] rfl (k q)) (fun q => j_pick [0] rfl (k' q))
theorem t13_48_29 {C : qCx} {G : jG} {S : jS} {V : jH} {nc ns : Nat} {l0 : Int} {mc ms : Nat} {pp : Int → Int → jS → jH → Prop} {qq : Int → Int → jS → jH → Int → jS → jH → Prop} (h : x13_48 C G) (hrm : C.2.2.2.1.frames = 5 ∧ C.2.2.2.1.locals = 121) (c1 : S.1 l0 = 33) (hM : M13_2 C.2.1 mc ms pp qq) (hp : pp l0 ((-1)) S V) (hc : nc + mc ≤ C.2.2.2.1.cells) (hs : ns + ms ≤ C.2.2.2.1.slots) (k : ∀ (r : Int) (S' : jS) (V' : jH), qq l0 ((-1)) S V r S' V' → j_ok n_KT 2 C G 34 [] [(0, r)] S' V' (nc + mc) (ns + ms)) : j_ok n_KT 2 C G 29 [(0, (2, l0))] [] S V nc ns := by
  have E := n_E h
  refine j_aload_n E d13_48_29 rfl 0 rfl ?_
  refine j_iconst E d13_48_30 (by decide) ?_
  refine j_call E (K13_48_31 h hrm hM) d13_48_31 (a := [(2, l0), (0, (-1))]) (sk := []) rfl ⟨l0, (-1), rfl, c1, hp⟩ (Nat.le_of_ble_eq_true rfl) hc hs ?_
  rintro rs S' V' ⟨z0, z1, r, e1, rfl, q⟩
  simp only [List.cons.injEq, Prod.mk.injEq, and_true, true_and] at e1
  obtain ⟨rfl, rfl⟩ := e1
  exact j_pick [] rfl (k r S' V' q)
theorem t13_48_34 {C : qCx} {G : jG} {S : jS} {V : jH} {nc ns : Nat} {s0 : Int} {mc ms : Nat} {qf : Int → jS → jH → Prop} (h : x13_48 C G)  (R : j_Ri n_KT 2 C G b_13_48 mc ms qf) (q : qf s0 S V) (hc : nc ≤ mc) (hs : ns ≤ ms) : j_ok n_KT 2 C G 34 [] [(0, s0)] S V nc ns := by
  have E := n_E h
  exact R _ _ _ _ _ _ _ d13_48_34 q hc hs
theorem t13_48_35 {C : qCx} {G : jG} {S : jS} {V : jH} {nc ns : Nat} {l0 l1 : Int} {mc ms : Nat} {pp : Int → jS → jH → Prop} {qq : Int → jS → jH → jS → jH → Prop} (h : x13_48 C G) (hrm : C.2.2.2.1.frames = 5 ∧ C.2.2.2.1.locals = 121) (c1 : S.1 l0 = 33) (hM : M13_46 C.2.1 mc ms pp qq) (hp : pp l0 S V) (hc : nc + mc ≤ C.2.2.2.1.cells) (hs : ns + ms ≤ C.2.2.2.1.slots) (k : ∀ (S' : jS) (V' : jH), qq l0 S V S' V' → j_ok n_KT 2 C G 39 [(0, (2, l0)), (1, (0, l1))] [] S' V' (nc + mc) (ns + ms)) : j_ok n_KT 2 C G 35 [(0, (2, l0)), (1, (0, l1))] [] S V nc ns := by
  have E := n_E h
  refine j_aload_n E d13_48_35 rfl 0 rfl ?_
  refine j_call E (K13_48_36 h hrm hM) d13_48_36 (a := [(2, l0)]) (sk := []) rfl ⟨l0, rfl, c1, hp⟩ (Nat.le_of_ble_eq_true rfl) hc hs ?_
  rintro rs S' V' ⟨z0, e1, rfl, q⟩
  simp only [List.cons.injEq, Prod.mk.injEq, and_true, true_and] at e1
  obtain ⟨rfl⟩ := e1
  exact j_pick [0, 1] rfl (k S' V' q)
theorem t13_48_39 {C : qCx} {G : jG} {S : jS} {V : jH} {nc ns : Nat} {l0 l1 : Int} (h : x13_48 C G) (c1 : S.1 l0 = 33) (k : ¬ V l0 9 = 4 → j_ok n_KT 2 C G 54 [(0, (2, l0)), (1, (0, l1))] [] S V nc ns) (k' : V l0 9 = 4 → j_ok n_KT 2 C G 47 [(0, (2, l0))] [] S V nc ns) : j_ok n_KT 2 C G 39 [(0, (2, l0)), (1, (0, l1))] [] S V nc ns := by
  have E := n_E h
  refine j_aload_n E d13_48_39 rfl 0 rfl ?_
  refine j_getI (f := 9) (fg12_149 h) d13_48_40 c1 (by decide) rfl rfl ?_
  refine j_iconst E d13_48_43 (by decide) ?_
  exact j_icmp_ne E d13_48_44 (t := 54) rfl (fun q => j_pick [0, 1] rfl (k q)) (fun q => j_pick [0] rfl (k' q))
theorem t13_48_47 {C : qCx} {G : jG} {S : jS} {V : jH} {nc ns : Nat} {l0 : Int} {mc ms : Nat} {pp : Int → Int → jS → jH → Prop} {qq : Int → Int → jS → jH → Int → jS → jH → Prop} (h : x13_48 C G) (hrm : C.2.2.2.1.frames = 5 ∧ C.2.2.2.1.locals = 121) (c1 : S.1 l0 = 33) (hM : M13_2 C.2.1 mc ms pp qq) (hp : pp l0 ((-3)) S V) (hc : nc + mc ≤ C.2.2.2.1.cells) (hs : ns + ms ≤ C.2.2.2.1.slots) (k : ∀ (r : Int) (S' : jS) (V' : jH), qq l0 ((-3)) S V r S' V' → j_ok n_KT 2 C G 53 [] [(0, r)] S' V' (nc + mc) (ns + ms)) : j_ok n_KT 2 C G 47 [(0, (2, l0))] [] S V nc ns := by
  have E := n_E h
  refine j_aload_n E d13_48_47 rfl 0 rfl ?_
  refine j_bipush E d13_48_48 (by decide) ?_
  refine j_call E (K13_48_50 h hrm hM) d13_48_50 (a := [(2, l0), (0, (-3))]) (sk := []) rfl ⟨l0, (-3), rfl, c1, hp⟩ (Nat.le_of_ble_eq_true rfl) hc hs ?_
  rintro rs S' V' ⟨z0, z1, r, e1, rfl, q⟩
  simp only [List.cons.injEq, Prod.mk.injEq, and_true, true_and] at e1
  obtain ⟨rfl, rfl⟩ := e1
  exact j_pick [] rfl (k r S' V' q)
theorem t13_48_53 {C : qCx} {G : jG} {S : jS} {V : jH} {nc ns : Nat} {s0 : Int} {mc ms : Nat} {qf : Int → jS → jH → Prop} (h : x13_48 C G)  (R : j_Ri n_KT 2 C G b_13_48 mc ms qf) (q : qf s0 S V) (hc : nc ≤ mc) (hs : ns ≤ ms) : j_ok n_KT 2 C G 53 [] [(0, s0)] S V nc ns := by
  have E := n_E h
  exact R _ _ _ _ _ _ _ d13_48_53 q hc hs
theorem t13_48_54 {C : qCx} {G : jG} {S : jS} {V : jH} {nc ns : Nat} {l0 l1 : Int} {mc ms : Nat} {qf : Int → jS → jH → Prop} (h : x13_48 C G) (L : j_L S) (c1 : S.1 l0 = 33) (c2 : -2147483648 ≤ (V l0 24) + l1 ∧ (V l0 24) + l1 ≤ 2147483647) (c3 : -2147483648 ≤ ((V l0 24) + l1) - 1 ∧ ((V l0 24) + l1) - 1 ≤ 2147483647) (c4 : 0 ≤ ((V l0 24) + l1) - 1) (c5 : 1 ≤ l1) (R : j_Ri n_KT 2 C G b_13_48 mc ms qf) (q : qf ((((V l0 24) + l1) - 1) / l1) S (j_up (j_up V (l0 + 1) 11 l1) (l0 + 1) 10 ((((V l0 24) + l1) - 1) / l1))) (hc : nc ≤ mc) (hs : ns ≤ ms) : j_ok n_KT 2 C G 54 [(0, (2, l0)), (1, (0, l1))] [] S V nc ns := by
  have E := n_E h
  refine j_aload_n E d13_48_54 rfl 0 rfl ?_
  refine j_getS (f := 0) (x := l0 + 1) (fg12_10 h) d13_48_55 c1 (by decide) rfl rfl ((L12_0 L c1).trans (by omega)) ?_
  refine j_iload_n E d13_48_58 rfl 1 rfl ?_
  refine j_putI (f := 11) (fp12_262 h) (n_hap h 32 11 0 _ rfl) d13_48_59 (show S.1 (l0 + 1) = 32 from (by have q := L12_0k L c1; rw [show l0 + 1 = l0 + 1 by omega]; exact q)) (by decide) rfl rfl rfl ?_
  refine j_aload_n E d13_48_62 rfl 0 rfl ?_
  refine j_getS (f := 0) (x := l0 + 1) (fg12_10 h) d13_48_63 c1 (by decide) rfl rfl ((L12_0 L c1).trans (by omega)) ?_
  refine j_aload_n E d13_48_66 rfl 0 rfl ?_
  refine j_getI (f := 24) (fg12_230 h) d13_48_67 c1 (by decide) rfl rfl ?_
  refine j_eqT (show (j_up V (l0 + 1) 11 l1) l0 24 = V l0 24 from (congrFun (j_up_ne (by omega)) _)) ?_
  refine j_iload_n E d13_48_70 rfl 1 rfl ?_
  refine j_iadd E d13_48_71 c2 ?_
  refine j_iconst E d13_48_72 (by decide) ?_
  refine j_isub E d13_48_73 c3 ?_
  refine j_iload_n E d13_48_74 rfl 1 rfl ?_
  refine j_idiv E d13_48_75 c4 c5 ?_
  refine j_putI (f := 10) (fp12_204 h) (n_hap h 32 11 0 _ rfl) d13_48_76 (show S.1 (l0 + 1) = 32 from (by have q := L12_0k L c1; rw [show l0 + 1 = l0 + 1 by omega]; exact q)) (by decide) rfl rfl rfl ?_
  refine j_aload_n E d13_48_79 rfl 0 rfl ?_
  refine j_getS (f := 0) (x := l0 + 1) (fg12_10 h) d13_48_80 c1 (by decide) rfl rfl ((L12_0 L c1).trans (by omega)) ?_
  refine j_getI (f := 10) (fg12_204 h) d13_48_83 (show S.1 (l0 + 1) = 32 from (by have q := L12_0k L c1; rw [show l0 + 1 = l0 + 1 by omega]; exact q)) (by decide) rfl rfl ?_
  refine j_eqT (show (j_up (j_up V (l0 + 1) 11 l1) (l0 + 1) 10 ((((V l0 24) + l1) - 1) / l1)) (l0 + 1) 10 = (((V l0 24) + l1) - 1) / l1 from (j_up_at _ _ _ _)) ?_
  exact R _ _ _ _ _ _ _ d13_48_86 q hc hs
/- BalanceCoderModel.skip(I)I -/
abbrev b_13_49 : ByteArray := prog_13_method_49_code
def y_13_49 : MethodName := ⟨"BalanceCoderModel", "skip", "(I)I"⟩
abbrev x13_49 (C : qCx) (G : jG) : Prop := n_ctx C b_13_49 2 "BalanceCoderModel" G.1 G.2.1
def M13_49 (l : Launch) (mc ms : Nat) (p : Int → Int → jS → jH → Prop) (q : Int → Int → jS → jH → Int → jS → jH → Prop) : Prop := j_Met l vwCl n_TL n_NW n_KT y_13_49 (Cond.code y_13_49 b_13_49 2 (some .int) :: n_GW) { frames := 5, cells := mc, slots := ms, locals := 121 } mc ms (fun a S V => ∃ u0 u1 : Int, a = [(2, u0), (0, u1)] ∧ S.1 u0 = 33 ∧ p u0 u1 S V) (fun a S V rs S' V' => ∃ u0 u1 r : Int, a = [(2, u0), (0, u1)] ∧ rs = [(0, r)] ∧ q u0 u1 S V r S' V')
theorem e13_49 {l : Launch} {mc ms : Nat} {p : Int → Int → jS → jH → Prop} {q : Int → Int → jS → jH → Int → jS → jH → Prop} (body : ∀ (C : qCx) (G : jG), x13_49 C G → C.2.2.2.1.frames = 5 ∧ C.2.2.2.1.locals = 121 → C.2.2.2.1.cells = mc ∧ C.2.2.2.1.slots = ms → C.2.1 = l → C.2.2.2.2.2.2.2.2.1.name = "skip" → ∀ (u0 u1 : Int) (S : jS) (V : jH), S.1 u0 = 33 → p u0 u1 S V → j_Ri n_KT 2 C G b_13_49 mc ms (q u0 u1 S V) → j_ok n_KT 2 C G 0 [(0, (2, u0)), (1, (0, u1))] [] S V 0 0) : M13_49 l mc ms p q := by
  refine j_method (ws' := n_GW) (by decide) rfl ?_ ?_
  · rintro a S V ⟨u0, u1, rfl, -⟩
    exact Nat.le_of_ble_eq_true rfl
  · rintro C G htl hl hrm hm hml ho hts hnm hE a S V ⟨u0, u1, rfl, ht, hp⟩ R
    exact body C G ⟨htl, hm, hml, ho, fun w hw => hts w (List.mem_cons_of_mem _ hw), hE⟩ (by rw [hrm]; exact ⟨rfl, rfl⟩) (by rw [hrm]; exact ⟨rfl, rfl⟩) hl hnm u0 u1 S V ht hp (fun pc lo r S' V' nc ns d q hc hs => R.2.1 rfl pc lo r S' V' nc ns d ⟨u0, u1, r, rfl, rfl, q⟩ hc hs)
theorem d13_49_0 : decode b_13_49 0 = .ok (.aload_n 0, 1) := by decide +kernel
theorem d13_49_1 : decode b_13_49 1 = .ok (.getfield 10, 3) := by decide +kernel
theorem d13_49_4 : decode b_13_49 4 = .ok (.getfield 204, 3) := by decide +kernel
theorem d13_49_7 : decode b_13_49 7 = .ok (.ifCond .ne 10, 3) := by decide +kernel
theorem d13_49_10 : decode b_13_49 10 = .ok (.aload_n 0, 1) := by decide +kernel
theorem d13_49_11 : decode b_13_49 11 = .ok (.bipush (-6), 2) := by decide +kernel
theorem d13_49_13 : decode b_13_49 13 = .ok (.invokevirtual 82, 3) := by decide +kernel
theorem d13_49_16 : decode b_13_49 16 = .ok (.ireturn, 1) := by decide +kernel
theorem d13_49_17 : decode b_13_49 17 = .ok (.aload_n 0, 1) := by decide +kernel
theorem d13_49_18 : decode b_13_49 18 = .ok (.invokevirtual 259, 3) := by decide +kernel
theorem d13_49_21 : decode b_13_49 21 = .ok (.iload_n 1, 1) := by decide +kernel
theorem d13_49_22 : decode b_13_49 22 = .ok (.i2l, 1) := by decide +kernel
theorem d13_49_23 : decode b_13_49 23 = .ok (.lconst 0, 1) := by decide +kernel
theorem d13_49_24 : decode b_13_49 24 = .ok (.aload_n 0, 1) := by decide +kernel
theorem d13_49_25 : decode b_13_49 25 = .ok (.getfield 230, 3) := by decide +kernel
theorem d13_49_28 : decode b_13_49 28 = .ok (.iconst 1, 1) := by decide +kernel
theorem d13_49_29 : decode b_13_49 29 = .ok (.isub, 1) := by decide +kernel
theorem d13_49_30 : decode b_13_49 30 = .ok (.i2l, 1) := by decide +kernel
theorem d13_49_31 : decode b_13_49 31 = .ok (.invokestatic 69, 3) := by decide +kernel
theorem d13_49_34 : decode b_13_49 34 = .ok (.ifCond .ne 9, 3) := by decide +kernel
theorem d13_49_37 : decode b_13_49 37 = .ok (.aload_n 0, 1) := by decide +kernel
theorem d13_49_38 : decode b_13_49 38 = .ok (.iconst (-1), 1) := by decide +kernel
theorem d13_49_39 : decode b_13_49 39 = .ok (.invokevirtual 82, 3) := by decide +kernel
theorem d13_49_42 : decode b_13_49 42 = .ok (.ireturn, 1) := by decide +kernel
theorem d13_49_43 : decode b_13_49 43 = .ok (.aload_n 0, 1) := by decide +kernel
theorem d13_49_44 : decode b_13_49 44 = .ok (.getfield 10, 3) := by decide +kernel
theorem d13_49_47 : decode b_13_49 47 = .ok (.iload_n 1, 1) := by decide +kernel
theorem d13_49_48 : decode b_13_49 48 = .ok (.aload_n 0, 1) := by decide +kernel
theorem d13_49_49 : decode b_13_49 49 = .ok (.getfield 10, 3) := by decide +kernel
theorem d13_49_52 : decode b_13_49 52 = .ok (.getfield 262, 3) := by decide +kernel
theorem d13_49_55 : decode b_13_49 55 = .ok (.irem, 1) := by decide +kernel
theorem d13_49_56 : decode b_13_49 56 = .ok (.iconst 1, 1) := by decide +kernel
theorem d13_49_57 : decode b_13_49 57 = .ok (.iadd, 1) := by decide +kernel
theorem d13_49_58 : decode b_13_49 58 = .ok (.putfield 265, 3) := by decide +kernel
theorem d13_49_61 : decode b_13_49 61 = .ok (.aload_n 0, 1) := by decide +kernel
theorem d13_49_62 : decode b_13_49 62 = .ok (.getfield 54, 3) := by decide +kernel
theorem d13_49_65 : decode b_13_49 65 = .ok (.iload_n 1, 1) := by decide +kernel
theorem d13_49_66 : decode b_13_49 66 = .ok (.iaload, 1) := by decide +kernel
theorem d13_49_67 : decode b_13_49 67 = .ok (.ireturn, 1) := by decide +kernel
theorem K13_49_13 {C : qCx} {G : jG} {mc ms : Nat} {p : Int → Int → jS → jH → Prop} {q : Int → Int → jS → jH → Int → jS → jH → Prop} (h : x13_49 C G) (hrm : C.2.2.2.1.frames = 5 ∧ C.2.2.2.1.locals = 121) (hM : M13_2 C.2.1 mc ms p q) : j_Call C b_13_49 n_KT G.1 G.2.1 2 (.invokevirtual 82) mc ms (fun a S V => ∃ u0 u1 : Int, a = [(2, u0), (0, u1)] ∧ S.1 u0 = 33 ∧ p u0 u1 S V) (fun a S V rs S' V' => ∃ u0 u1 r : Int, a = [(2, u0), (0, u1)] ∧ rs = [(0, r)] ∧ q u0 u1 S V r S' V') := j_callV n_NWk h.2.2.2.2.2 h.1 hM ⟨h.2.1.1, h.2.1.2, h.2.2.1, h.2.2.2.1, h.2.2.2.2.1⟩ ⟨n_CB (y := y_13_2) (bytes := b_13_2) 1 h.2.2.2.2.1 n_w928 n_w925 n_w12 ⟨by decide, by decide, by decide +kernel⟩ rfl rfl ⟨by rw [hrm.1]; exact Nat.le_of_ble_eq_true rfl, by rw [hrm.2]; exact Nat.le_of_ble_eq_true rfl⟩, h.2.2.2.2.1 _ n_w927, h.2.2.2.2.1 _ n_s27⟩ (Cn := RX12) (fun a S V hP => by obtain ⟨u0, u1, rfl, e, -⟩ := hP; exact ⟨u0, _, 12, _, _, TX12, 31, rfl, rfl, by rw [e]; decide, by rw [e]; rfl, rfl⟩)
theorem K13_49_18 {C : qCx} {G : jG} {mc ms : Nat} {p : Int → jS → jH → Prop} {q : Int → jS → jH → jS → jH → Prop} (h : x13_49 C G) (hrm : C.2.2.2.1.frames = 5 ∧ C.2.2.2.1.locals = 121) (hM : M13_46 C.2.1 mc ms p q) : j_Call C b_13_49 n_KT G.1 G.2.1 2 (.invokevirtual 259) mc ms (fun a S V => ∃ u0 : Int, a = [(2, u0)] ∧ S.1 u0 = 33 ∧ p u0 S V) (fun a S V rs S' V' => ∃ u0 : Int, a = [(2, u0)] ∧ rs = [] ∧ q u0 S V S' V') := j_callV n_NWk h.2.2.2.2.2 h.1 hM ⟨h.2.1.1, h.2.1.2, h.2.2.1, h.2.2.2.1, h.2.2.2.2.1⟩ ⟨n_CB (y := y_13_46) (bytes := b_13_46) 0 h.2.2.2.2.1 n_w1104 n_w1101 n_w12 ⟨by decide, by decide, by decide +kernel⟩ rfl rfl ⟨by rw [hrm.1]; exact Nat.le_of_ble_eq_true rfl, by rw [hrm.2]; exact Nat.le_of_ble_eq_true rfl⟩, h.2.2.2.2.1 _ n_w1103, h.2.2.2.2.1 _ n_s50⟩ (Cn := RX12) (fun a S V hP => by obtain ⟨u0, rfl, e, -⟩ := hP; exact ⟨u0, _, 12, _, _, TX12, 31, rfl, rfl, by rw [e]; decide, by rw [e]; rfl, rfl⟩)
theorem K13_49_31 {C : qCx} {G : jG} {mc ms : Nat} {p : Int → Int → Int → jS → jH → Prop} {q : Int → Int → Int → jS → jH → Int → jS → jH → Prop} (h : x13_49 C G) (hrm : C.2.2.2.1.frames = 5 ∧ C.2.2.2.1.locals = 121) (hM : M13_3 C.2.1 mc ms p q) : j_Call C b_13_49 n_KT G.1 G.2.1 2 (.invokestatic 69) mc ms (fun a S V => ∃ u0 u1 u2 : Int, a = [(1, u0), (1, u1), (1, u2)] ∧ p u0 u1 u2 S V) (fun a S V rs S' V' => ∃ u0 u1 u2 r : Int, a = [(1, u0), (1, u1), (1, u2)] ∧ rs = [(0, r)] ∧ q u0 u1 u2 S V r S' V') := j_callS n_NWk h.2.2.2.2.2 h.1 hM ⟨h.2.1.1, h.2.1.2, h.2.2.1, h.2.2.2.1, h.2.2.2.2.1⟩ ⟨n_CB (y := y_13_3) (bytes := b_13_3) 3 h.2.2.2.2.1 n_w923 n_w921 n_w12 ⟨by decide, by decide, by decide +kernel⟩ rfl rfl ⟨by rw [hrm.1]; exact Nat.le_of_ble_eq_true rfl, by rw [hrm.2]; exact Nat.le_of_ble_eq_true rfl⟩, h.2.2.2.2.1 _ n_w922⟩ (fun a S V hP => by obtain ⟨u0, u1, u2, rfl, -⟩ := hP; rfl)
theorem K13_49_39 {C : qCx} {G : jG} {mc ms : Nat} {p : Int → Int → jS → jH → Prop} {q : Int → Int → jS → jH → Int → jS → jH → Prop} (h : x13_49 C G) (hrm : C.2.2.2.1.frames = 5 ∧ C.2.2.2.1.locals = 121) (hM : M13_2 C.2.1 mc ms p q) : j_Call C b_13_49 n_KT G.1 G.2.1 2 (.invokevirtual 82) mc ms (fun a S V => ∃ u0 u1 : Int, a = [(2, u0), (0, u1)] ∧ S.1 u0 = 33 ∧ p u0 u1 S V) (fun a S V rs S' V' => ∃ u0 u1 r : Int, a = [(2, u0), (0, u1)] ∧ rs = [(0, r)] ∧ q u0 u1 S V r S' V') := j_callV n_NWk h.2.2.2.2.2 h.1 hM ⟨h.2.1.1, h.2.1.2, h.2.2.1, h.2.2.2.1, h.2.2.2.2.1⟩ ⟨n_CB (y := y_13_2) (bytes := b_13_2) 1 h.2.2.2.2.1 n_w928 n_w925 n_w12 ⟨by decide, by decide, by decide +kernel⟩ rfl rfl ⟨by rw [hrm.1]; exact Nat.le_of_ble_eq_true rfl, by rw [hrm.2]; exact Nat.le_of_ble_eq_true rfl⟩, h.2.2.2.2.1 _ n_w927, h.2.2.2.2.1 _ n_s27⟩ (Cn := RX12) (fun a S V hP => by obtain ⟨u0, u1, rfl, e, -⟩ := hP; exact ⟨u0, _, 12, _, _, TX12, 31, rfl, rfl, by rw [e]; decide, by rw [e]; rfl, rfl⟩)
theorem t13_49_0 {C : qCx} {G : jG} {S : jS} {V : jH} {nc ns : Nat} {l0 l1 : Int} (h : x13_49 C G) (L : j_L S) (c1 : S.1 l0 = 33) (k : ¬ V (l0 + 1) 10 = 0 → j_ok n_KT 2 C G 17 [(0, (2, l0)), (1, (0, l1))] [] S V nc ns) (k' : V (l0 + 1) 10 = 0 → j_ok n_KT 2 C G 10 [(0, (2, l0))] [] S V nc ns) : j_ok n_KT 2 C G 0 [(0, (2, l0)), (1, (0, l1))] [] S V nc ns := by
  have E := n_E h
  refine j_aload_n E d13_49_0 rfl 0 rfl ?_
  refine j_getS (f := 0) (x := l0 + 1) (fg12_10 h) d13_49_1 c1 (by decide) rfl rfl ((L12_0 L c1).trans (by omega)) ?_
  refine j_getI (f := 10) (fg12_204 h) d13_49_4 (show S.1 (l0 + 1) = 32 from (by have q := L12_0k L c1; rw [show l0 + 1 = l0 + 1 by omega]; exact q)) (by decide) rfl rfl ?_
  exact j_if_ne E d13_49_7 (t := 17) rfl (fun q => j_pick [0, 1] rfl (k q)) (fun q => j_pick [0] rfl (k' q))
theorem t13_49_10 {C : qCx} {G : jG} {S : jS} {V : jH} {nc ns : Nat} {l0 : Int} {mc ms : Nat} {pp : Int → Int → jS → jH → Prop} {qq : Int → Int → jS → jH → Int → jS → jH → Prop} (h : x13_49 C G) (hrm : C.2.2.2.1.frames = 5 ∧ C.2.2.2.1.locals = 121) (c1 : S.1 l0 = 33) (hM : M13_2 C.2.1 mc ms pp qq) (hp : pp l0 ((-6)) S V) (hc : nc + mc ≤ C.2.2.2.1.cells) (hs : ns + ms ≤ C.2.2.2.1.slots) (k : ∀ (r : Int) (S' : jS) (V' : jH), qq l0 ((-6)) S V r S' V' → j_ok n_KT 2 C G 16 [] [(0, r)] S' V' (nc + mc) (ns + ms)) : j_ok n_KT 2 C G 10 [(0, (2, l0))] [] S V nc ns := by
  have E := n_E h
  refine j_aload_n E d13_49_10 rfl 0 rfl ?_
  refine j_bipush E d13_49_11 (by decide) ?_
  refine j_call E (K13_49_13 h hrm hM) d13_49_13 (a := [(2, l0), (0, (-6))]) (sk := []) rfl ⟨l0, (-6), rfl, c1, hp⟩ (Nat.le_of_ble_eq_true rfl) hc hs ?_
  rintro rs S' V' ⟨z0, z1, r, e1, rfl, q⟩
  simp only [List.cons.injEq, Prod.mk.injEq, and_true, true_and] at e1
  obtain ⟨rfl, rfl⟩ := e1
  exact j_pick [] rfl (k r S' V' q)
theorem t13_49_16 {C : qCx} {G : jG} {S : jS} {V : jH} {nc ns : Nat} {s0 : Int} {mc ms : Nat} {qf : Int → jS → jH → Prop} (h : x13_49 C G)  (R : j_Ri n_KT 2 C G b_13_49 mc ms qf) (q : qf s0 S V) (hc : nc ≤ mc) (hs : ns ≤ ms) : j_ok n_KT 2 C G 16 [] [(0, s0)] S V nc ns := by
  have E := n_E h
  exact R _ _ _ _ _ _ _ d13_49_16 q hc hs
theorem t13_49_17 {C : qCx} {G : jG} {S : jS} {V : jH} {nc ns : Nat} {l0 l1 : Int} {mc ms : Nat} {pp : Int → jS → jH → Prop} {qq : Int → jS → jH → jS → jH → Prop} (h : x13_49 C G) (hrm : C.2.2.2.1.frames = 5 ∧ C.2.2.2.1.locals = 121) (c1 : S.1 l0 = 33) (hM : M13_46 C.2.1 mc ms pp qq) (hp : pp l0 S V) (hc : nc + mc ≤ C.2.2.2.1.cells) (hs : ns + ms ≤ C.2.2.2.1.slots) (k : ∀ (S' : jS) (V' : jH), qq l0 S V S' V' → j_ok n_KT 2 C G 21 [(0, (2, l0)), (1, (0, l1))] [] S' V' (nc + mc) (ns + ms)) : j_ok n_KT 2 C G 17 [(0, (2, l0)), (1, (0, l1))] [] S V nc ns := by
  have E := n_E h
  refine j_aload_n E d13_49_17 rfl 0 rfl ?_
  refine j_call E (K13_49_18 h hrm hM) d13_49_18 (a := [(2, l0)]) (sk := []) rfl ⟨l0, rfl, c1, hp⟩ (Nat.le_of_ble_eq_true rfl) hc hs ?_
  rintro rs S' V' ⟨z0, e1, rfl, q⟩
  simp only [List.cons.injEq, Prod.mk.injEq, and_true, true_and] at e1
  obtain ⟨rfl⟩ := e1
  exact j_pick [0, 1] rfl (k S' V' q)
theorem t13_49_21 {C : qCx} {G : jG} {S : jS} {V : jH} {nc ns : Nat} {l0 l1 : Int} {mc ms : Nat} {pp : Int → Int → Int → jS → jH → Prop} {qq : Int → Int → Int → jS → jH → Int → jS → jH → Prop} (h : x13_49 C G) (hrm : C.2.2.2.1.frames = 5 ∧ C.2.2.2.1.locals = 121) (c1 : S.1 l0 = 33) (c2 : -2147483648 ≤ (V l0 24) - 1 ∧ (V l0 24) - 1 ≤ 2147483647) (hM : M13_3 C.2.1 mc ms pp qq) (hp : pp l1 0 ((V l0 24) - 1) S V) (hc : nc + mc ≤ C.2.2.2.1.cells) (hs : ns + ms ≤ C.2.2.2.1.slots) (k : ∀ (r : Int) (S' : jS) (V' : jH), qq l1 0 ((V l0 24) - 1) S V r S' V' → j_ok n_KT 2 C G 34 [(0, (2, l0)), (1, (0, l1))] [(0, r)] S' V' (nc + mc) (ns + ms)) : j_ok n_KT 2 C G 21 [(0, (2, l0)), (1, (0, l1))] [] S V nc ns := by
  have E := n_E h
  refine j_iload_n E d13_49_21 rfl 1 rfl ?_
  refine j_i2l E d13_49_22 ?_
  refine j_lconst E d13_49_23 ?_
  refine j_aload_n E d13_49_24 rfl 0 rfl ?_
  refine j_getI (f := 24) (fg12_230 h) d13_49_25 c1 (by decide) rfl rfl ?_
  refine j_iconst E d13_49_28 (by decide) ?_
  refine j_isub E d13_49_29 c2 ?_
  refine j_i2l E d13_49_30 ?_
  refine j_call E (K13_49_31 h hrm hM) d13_49_31 (a := [(1, l1), (1, 0), (1, (V l0 24) - 1)]) (sk := []) rfl ⟨l1, 0, (V l0 24) - 1, rfl, hp⟩ (Nat.le_of_ble_eq_true rfl) hc hs ?_
  rintro rs S' V' ⟨z0, z1, z2, r, e1, rfl, q⟩
  simp only [List.cons.injEq, Prod.mk.injEq, and_true, true_and] at e1
  obtain ⟨rfl, rfl, rfl⟩ := e1
  exact j_pick [0, 1] rfl (k r S' V' q)
theorem t13_49_34 {C : qCx} {G : jG} {S : jS} {V : jH} {nc ns : Nat} {l0 l1 s0 : Int} (h : x13_49 C G)  (k : ¬ s0 = 0 → j_ok n_KT 2 C G 43 [(0, (2, l0)), (1, (0, l1))] [] S V nc ns) (k' : s0 = 0 → j_ok n_KT 2 C G 37 [(0, (2, l0))] [] S V nc ns) : j_ok n_KT 2 C G 34 [(0, (2, l0)), (1, (0, l1))] [(0, s0)] S V nc ns := by
  have E := n_E h
  exact j_if_ne E d13_49_34 (t := 43) rfl (fun q => j_pick [0, 1] rfl (k q)) (fun q => j_pick [0] rfl (k' q))
theorem t13_49_37 {C : qCx} {G : jG} {S : jS} {V : jH} {nc ns : Nat} {l0 : Int} {mc ms : Nat} {pp : Int → Int → jS → jH → Prop} {qq : Int → Int → jS → jH → Int → jS → jH → Prop} (h : x13_49 C G) (hrm : C.2.2.2.1.frames = 5 ∧ C.2.2.2.1.locals = 121) (c1 : S.1 l0 = 33) (hM : M13_2 C.2.1 mc ms pp qq) (hp : pp l0 ((-1)) S V) (hc : nc + mc ≤ C.2.2.2.1.cells) (hs : ns + ms ≤ C.2.2.2.1.slots) (k : ∀ (r : Int) (S' : jS) (V' : jH), qq l0 ((-1)) S V r S' V' → j_ok n_KT 2 C G 42 [] [(0, r)] S' V' (nc + mc) (ns + ms)) : j_ok n_KT 2 C G 37 [(0, (2, l0))] [] S V nc ns := by
  have E := n_E h
  refine j_aload_n E d13_49_37 rfl 0 rfl ?_
  refine j_iconst E d13_49_38 (by decide) ?_
  refine j_call E (K13_49_39 h hrm hM) d13_49_39 (a := [(2, l0), (0, (-1))]) (sk := []) rfl ⟨l0, (-1), rfl, c1, hp⟩ (Nat.le_of_ble_eq_true rfl) hc hs ?_
  rintro rs S' V' ⟨z0, z1, r, e1, rfl, q⟩
  simp only [List.cons.injEq, Prod.mk.injEq, and_true, true_and] at e1
  obtain ⟨rfl, rfl⟩ := e1
  exact j_pick [] rfl (k r S' V' q)
theorem t13_49_42 {C : qCx} {G : jG} {S : jS} {V : jH} {nc ns : Nat} {s0 : Int} {mc ms : Nat} {qf : Int → jS → jH → Prop} (h : x13_49 C G)  (R : j_Ri n_KT 2 C G b_13_49 mc ms qf) (q : qf s0 S V) (hc : nc ≤ mc) (hs : ns ≤ ms) : j_ok n_KT 2 C G 42 [] [(0, s0)] S V nc ns := by
  have E := n_E h
  exact R _ _ _ _ _ _ _ d13_49_42 q hc hs
theorem t13_49_43 {C : qCx} {G : jG} {S : jS} {V : jH} {nc ns : Nat} {l0 l1 : Int} {mc ms : Nat} {qf : Int → jS → jH → Prop} (h : x13_49 C G) (L : j_L S) (c1 : S.1 l0 = 33) (c2 : 0 ≤ l1) (c3 : 1 ≤ V (l0 + 1) 11) (c4 : -2147483648 ≤ (l1 % (V (l0 + 1) 11)) + 1 ∧ (l1 % (V (l0 + 1) 11)) + 1 ≤ 2147483647) (c5 : l1 < 400) (R : j_Ri n_KT 2 C G b_13_49 mc ms qf) (q : qf (V (l0 + 28) l1) S (j_up V (l0 + 1) 13 ((l1 % (V (l0 + 1) 11)) + 1))) (hc : nc ≤ mc) (hs : ns ≤ ms) : j_ok n_KT 2 C G 43 [(0, (2, l0)), (1, (0, l1))] [] S V nc ns := by
  have E := n_E h
  refine j_aload_n E d13_49_43 rfl 0 rfl ?_
  refine j_getS (f := 0) (x := l0 + 1) (fg12_10 h) d13_49_44 c1 (by decide) rfl rfl ((L12_0 L c1).trans (by omega)) ?_
  refine j_iload_n E d13_49_47 rfl 1 rfl ?_
  refine j_aload_n E d13_49_48 rfl 0 rfl ?_
  refine j_getS (f := 0) (x := l0 + 1) (fg12_10 h) d13_49_49 c1 (by decide) rfl rfl ((L12_0 L c1).trans (by omega)) ?_
  refine j_getI (f := 11) (fg12_262 h) d13_49_52 (show S.1 (l0 + 1) = 32 from (by have q := L12_0k L c1; rw [show l0 + 1 = l0 + 1 by omega]; exact q)) (by decide) rfl rfl ?_
  refine j_irem E d13_49_55 c2 c3 ?_
  refine j_iconst E d13_49_56 (by decide) ?_
  refine j_iadd E d13_49_57 c4 ?_
  refine j_putI (f := 13) (fp12_265 h) (n_hap h 32 11 0 _ rfl) d13_49_58 (show S.1 (l0 + 1) = 32 from (by have q := L12_0k L c1; rw [show l0 + 1 = l0 + 1 by omega]; exact q)) (by decide) rfl rfl rfl ?_
  refine j_aload_n E d13_49_61 rfl 0 rfl ?_
  refine j_getS (f := 28) (x := l0 + 28) (fg12_54 h) d13_49_62 c1 (by decide) rfl rfl ((L12_28 L c1).trans (by omega)) ?_
  refine j_iload_n E d13_49_65 rfl 1 rfl ?_
  refine j_iald E d13_49_66 (j_arr_of (show S.1 (l0 + 28) = 1 from (by have q := L12_28k L c1; rw [show l0 + 28 = l0 + 28 by omega]; exact q)) (by decide) rfl) c2 c5 ?_
  refine j_eqT (show (j_up V (l0 + 1) 13 ((l1 % (V (l0 + 1) 11)) + 1)) (l0 + 28) l1 = V (l0 + 28) l1 from (congrFun (j_up_ne (by omega)) _)) ?_
  exact R _ _ _ _ _ _ _ d13_49_67 q hc hs
/- BalanceCoderModel.tell(I)I -/
abbrev b_13_50 : ByteArray := prog_13_method_50_code
def y_13_50 : MethodName := ⟨"BalanceCoderModel", "tell", "(I)I"⟩
abbrev x13_50 (C : qCx) (G : jG) : Prop := n_ctx C b_13_50 2 "BalanceCoderModel" G.1 G.2.1
def M13_50 (l : Launch) (mc ms : Nat) (p : Int → Int → jS → jH → Prop) (q : Int → Int → jS → jH → Int → jS → jH → Prop) : Prop := j_Met l vwCl n_TL n_NW n_KT y_13_50 (Cond.code y_13_50 b_13_50 2 (some .int) :: n_GW) { frames := 2, cells := mc, slots := ms, locals := 47 } mc ms (fun a S V => ∃ u0 u1 : Int, a = [(2, u0), (0, u1)] ∧ S.1 u0 = 33 ∧ p u0 u1 S V) (fun a S V rs S' V' => ∃ u0 u1 r : Int, a = [(2, u0), (0, u1)] ∧ rs = [(0, r)] ∧ q u0 u1 S V r S' V')
theorem e13_50 {l : Launch} {mc ms : Nat} {p : Int → Int → jS → jH → Prop} {q : Int → Int → jS → jH → Int → jS → jH → Prop} (body : ∀ (C : qCx) (G : jG), x13_50 C G → C.2.2.2.1.frames = 2 ∧ C.2.2.2.1.locals = 47 → C.2.2.2.1.cells = mc ∧ C.2.2.2.1.slots = ms → C.2.1 = l → C.2.2.2.2.2.2.2.2.1.name = "tell" → ∀ (u0 u1 : Int) (S : jS) (V : jH), S.1 u0 = 33 → p u0 u1 S V → j_Ri n_KT 2 C G b_13_50 mc ms (q u0 u1 S V) → j_ok n_KT 2 C G 0 [(0, (2, u0)), (1, (0, u1))] [] S V 0 0) : M13_50 l mc ms p q := by
  refine j_method (ws' := n_GW) (by decide) rfl ?_ ?_
  · rintro a S V ⟨u0, u1, rfl, -⟩
    exact Nat.le_of_ble_eq_true rfl
  · rintro C G htl hl hrm hm hml ho hts hnm hE a S V ⟨u0, u1, rfl, ht, hp⟩ R
    exact body C G ⟨htl, hm, hml, ho, fun w hw => hts w (List.mem_cons_of_mem _ hw), hE⟩ (by rw [hrm]; exact ⟨rfl, rfl⟩) (by rw [hrm]; exact ⟨rfl, rfl⟩) hl hnm u0 u1 S V ht hp (fun pc lo r S' V' nc ns d q hc hs => R.2.1 rfl pc lo r S' V' nc ns d ⟨u0, u1, r, rfl, rfl, q⟩ hc hs)
theorem d13_50_0 : decode b_13_50 0 = .ok (.aload_n 0, 1) := by decide +kernel
theorem d13_50_1 : decode b_13_50 1 = .ok (.getfield 268, 3) := by decide +kernel
theorem d13_50_4 : decode b_13_50 4 = .ok (.sipush 400, 3) := by decide +kernel
theorem d13_50_7 : decode b_13_50 7 = .ok (.if_icmp .ne 10, 3) := by decide +kernel
theorem d13_50_10 : decode b_13_50 10 = .ok (.aload_n 0, 1) := by decide +kernel
theorem d13_50_11 : decode b_13_50 11 = .ok (.bipush (-2), 2) := by decide +kernel
theorem d13_50_13 : decode b_13_50 13 = .ok (.invokevirtual 82, 3) := by decide +kernel
theorem d13_50_16 : decode b_13_50 16 = .ok (.ireturn, 1) := by decide +kernel
theorem d13_50_17 : decode b_13_50 17 = .ok (.aload_n 0, 1) := by decide +kernel
theorem d13_50_18 : decode b_13_50 18 = .ok (.getfield 19, 3) := by decide +kernel
theorem d13_50_21 : decode b_13_50 21 = .ok (.aload_n 0, 1) := by decide +kernel
theorem d13_50_22 : decode b_13_50 22 = .ok (.getfield 268, 3) := by decide +kernel
theorem d13_50_25 : decode b_13_50 25 = .ok (.iload_n 1, 1) := by decide +kernel
theorem d13_50_26 : decode b_13_50 26 = .ok (.iastore, 1) := by decide +kernel
theorem d13_50_27 : decode b_13_50 27 = .ok (.aload_n 0, 1) := by decide +kernel
theorem d13_50_28 : decode b_13_50 28 = .ok (.dup, 1) := by decide +kernel
theorem d13_50_29 : decode b_13_50 29 = .ok (.getfield 268, 3) := by decide +kernel
theorem d13_50_32 : decode b_13_50 32 = .ok (.iconst 1, 1) := by decide +kernel
theorem d13_50_33 : decode b_13_50 33 = .ok (.iadd, 1) := by decide +kernel
theorem d13_50_34 : decode b_13_50 34 = .ok (.putfield 268, 3) := by decide +kernel
theorem d13_50_37 : decode b_13_50 37 = .ok (.aload_n 0, 1) := by decide +kernel
theorem d13_50_38 : decode b_13_50 38 = .ok (.getfield 268, 3) := by decide +kernel
theorem d13_50_41 : decode b_13_50 41 = .ok (.ireturn, 1) := by decide +kernel
theorem K13_50_13 {C : qCx} {G : jG} {mc ms : Nat} {p : Int → Int → jS → jH → Prop} {q : Int → Int → jS → jH → Int → jS → jH → Prop} (h : x13_50 C G) (hrm : C.2.2.2.1.frames = 2 ∧ C.2.2.2.1.locals = 47) (hM : M13_2 C.2.1 mc ms p q) : j_Call C b_13_50 n_KT G.1 G.2.1 2 (.invokevirtual 82) mc ms (fun a S V => ∃ u0 u1 : Int, a = [(2, u0), (0, u1)] ∧ S.1 u0 = 33 ∧ p u0 u1 S V) (fun a S V rs S' V' => ∃ u0 u1 r : Int, a = [(2, u0), (0, u1)] ∧ rs = [(0, r)] ∧ q u0 u1 S V r S' V') := j_callV n_NWk h.2.2.2.2.2 h.1 hM ⟨h.2.1.1, h.2.1.2, h.2.2.1, h.2.2.2.1, h.2.2.2.2.1⟩ ⟨n_CB (y := y_13_2) (bytes := b_13_2) 1 h.2.2.2.2.1 n_w928 n_w925 n_w12 ⟨by decide, by decide, by decide +kernel⟩ rfl rfl ⟨by rw [hrm.1]; exact Nat.le_of_ble_eq_true rfl, by rw [hrm.2]; exact Nat.le_of_ble_eq_true rfl⟩, h.2.2.2.2.1 _ n_w927, h.2.2.2.2.1 _ n_s27⟩ (Cn := RX12) (fun a S V hP => by obtain ⟨u0, u1, rfl, e, -⟩ := hP; exact ⟨u0, _, 12, _, _, TX12, 31, rfl, rfl, by rw [e]; decide, by rw [e]; rfl, rfl⟩)
theorem t13_50_0 {C : qCx} {G : jG} {S : jS} {V : jH} {nc ns : Nat} {l0 l1 : Int} (h : x13_50 C G) (c1 : S.1 l0 = 33) (k : ¬ V l0 4 = 400 → j_ok n_KT 2 C G 17 [(0, (2, l0)), (1, (0, l1))] [] S V nc ns) (k' : V l0 4 = 400 → j_ok n_KT 2 C G 10 [(0, (2, l0))] [] S V nc ns) : j_ok n_KT 2 C G 0 [(0, (2, l0)), (1, (0, l1))] [] S V nc ns := by
  have E := n_E h
  refine j_aload_n E d13_50_0 rfl 0 rfl ?_
  refine j_getI (f := 4) (fg12_268 h) d13_50_1 c1 (by decide) rfl rfl ?_
  refine j_sipush E d13_50_4 (by decide) ?_
  exact j_icmp_ne E d13_50_7 (t := 17) rfl (fun q => j_pick [0, 1] rfl (k q)) (fun q => j_pick [0] rfl (k' q))
theorem t13_50_10 {C : qCx} {G : jG} {S : jS} {V : jH} {nc ns : Nat} {l0 : Int} {mc ms : Nat} {pp : Int → Int → jS → jH → Prop} {qq : Int → Int → jS → jH → Int → jS → jH → Prop} (h : x13_50 C G) (hrm : C.2.2.2.1.frames = 2 ∧ C.2.2.2.1.locals = 47) (c1 : S.1 l0 = 33) (hM : M13_2 C.2.1 mc ms pp qq) (hp : pp l0 ((-2)) S V) (hc : nc + mc ≤ C.2.2.2.1.cells) (hs : ns + ms ≤ C.2.2.2.1.slots) (k : ∀ (r : Int) (S' : jS) (V' : jH), qq l0 ((-2)) S V r S' V' → j_ok n_KT 2 C G 16 [] [(0, r)] S' V' (nc + mc) (ns + ms)) : j_ok n_KT 2 C G 10 [(0, (2, l0))] [] S V nc ns := by
  have E := n_E h
  refine j_aload_n E d13_50_10 rfl 0 rfl ?_
  refine j_bipush E d13_50_11 (by decide) ?_
  refine j_call E (K13_50_13 h hrm hM) d13_50_13 (a := [(2, l0), (0, (-2))]) (sk := []) rfl ⟨l0, (-2), rfl, c1, hp⟩ (Nat.le_of_ble_eq_true rfl) hc hs ?_
  rintro rs S' V' ⟨z0, z1, r, e1, rfl, q⟩
  simp only [List.cons.injEq, Prod.mk.injEq, and_true, true_and] at e1
  obtain ⟨rfl, rfl⟩ := e1
  exact j_pick [] rfl (k r S' V' q)
theorem t13_50_16 {C : qCx} {G : jG} {S : jS} {V : jH} {nc ns : Nat} {s0 : Int} {mc ms : Nat} {qf : Int → jS → jH → Prop} (h : x13_50 C G)  (R : j_Ri n_KT 2 C G b_13_50 mc ms qf) (q : qf s0 S V) (hc : nc ≤ mc) (hs : ns ≤ ms) : j_ok n_KT 2 C G 16 [] [(0, s0)] S V nc ns := by
  have E := n_E h
  exact R _ _ _ _ _ _ _ d13_50_16 q hc hs
theorem t13_50_17 {C : qCx} {G : jG} {S : jS} {V : jH} {nc ns : Nat} {l0 l1 : Int} {mc ms : Nat} {qf : Int → jS → jH → Prop} (h : x13_50 C G) (L : j_L S) (c1 : S.1 l0 = 33) (c2 : 0 ≤ V l0 4) (c3 : V l0 4 < 400) (c4 : -2147483648 ≤ (V l0 4) + 1 ∧ (V l0 4) + 1 ≤ 2147483647) (R : j_Ri n_KT 2 C G b_13_50 mc ms qf) (q : qf ((V l0 4) + 1) S (j_up (j_up V (l0 + 17) (V l0 4) l1) l0 4 ((V l0 4) + 1))) (hc : nc ≤ mc) (hs : ns ≤ ms) : j_ok n_KT 2 C G 17 [(0, (2, l0)), (1, (0, l1))] [] S V nc ns := by
  have E := n_E h
  refine j_aload_n E d13_50_17 rfl 0 rfl ?_
  refine j_getS (f := 5) (x := l0 + 17) (fg12_19 h) d13_50_18 c1 (by decide) rfl rfl ((L12_5 L c1).trans (by omega)) ?_
  refine j_aload_n E d13_50_21 rfl 0 rfl ?_
  refine j_getI (f := 4) (fg12_268 h) d13_50_22 c1 (by decide) rfl rfl ?_
  refine j_iload_n E d13_50_25 rfl 1 rfl ?_
  refine j_iast E d13_50_26 (j_arr_of (show S.1 (l0 + 17) = 1 from (by have q := L12_5k L c1; rw [show l0 + 17 = l0 + 17 by omega]; exact q)) (by decide) rfl) c2 c3 ?_
  refine j_aload_n E d13_50_27 rfl 0 rfl ?_
  refine j_dup E d13_50_28 rfl ?_
  refine j_getI (f := 4) (fg12_268 h) d13_50_29 c1 (by decide) rfl rfl ?_
  refine j_eqT (show (j_up V (l0 + 17) (V l0 4) l1) l0 4 = V l0 4 from (congrFun (j_up_ne (by omega)) _)) ?_
  refine j_iconst E d13_50_32 (by decide) ?_
  refine j_iadd E d13_50_33 c4 ?_
  refine j_putI (f := 4) (fp12_268 h) (n_hap h 33 12 0 _ rfl) d13_50_34 c1 (by decide) rfl rfl rfl ?_
  refine j_aload_n E d13_50_37 rfl 0 rfl ?_
  refine j_getI (f := 4) (fg12_268 h) d13_50_38 c1 (by decide) rfl rfl ?_
  refine j_eqT (show (j_up (j_up V (l0 + 17) (V l0 4) l1) l0 4 ((V l0 4) + 1)) l0 4 = (V l0 4) + 1 from (j_up_at _ _ _ _)) ?_
  exact R _ _ _ _ _ _ _ d13_50_41 q hc hs
/- BalanceCoderModel.check()I -/
abbrev b_13_51 : ByteArray := prog_13_method_51_code
def y_13_51 : MethodName := ⟨"BalanceCoderModel", "check", "()I"⟩
abbrev x13_51 (C : qCx) (G : jG) : Prop := n_ctx C b_13_51 3 "BalanceCoderModel" G.1 G.2.1
def M13_51 (l : Launch) (mc ms : Nat) (p : Int → jS → jH → Prop) (q : Int → jS → jH → Int → jS → jH → Prop) : Prop := j_Met l vwCl n_TL n_NW n_KT y_13_51 (Cond.code y_13_51 b_13_51 3 (some .int) :: n_GW) { frames := 5, cells := mc, slots := ms, locals := 121 } mc ms (fun a S V => ∃ u0 : Int, a = [(2, u0)] ∧ S.1 u0 = 33 ∧ p u0 S V) (fun a S V rs S' V' => ∃ u0 r : Int, a = [(2, u0)] ∧ rs = [(0, r)] ∧ q u0 S V r S' V')
theorem e13_51 {l : Launch} {mc ms : Nat} {p : Int → jS → jH → Prop} {q : Int → jS → jH → Int → jS → jH → Prop} (body : ∀ (C : qCx) (G : jG), x13_51 C G → C.2.2.2.1.frames = 5 ∧ C.2.2.2.1.locals = 121 → C.2.2.2.1.cells = mc ∧ C.2.2.2.1.slots = ms → C.2.1 = l → C.2.2.2.2.2.2.2.2.1.name = "check" → ∀ (u0 : Int) (S : jS) (V : jH), S.1 u0 = 33 → p u0 S V → j_Ri n_KT 3 C G b_13_51 mc ms (q u0 S V) → j_ok n_KT 3 C G 0 [(0, (2, u0))] [] S V 0 0) : M13_51 l mc ms p q := by
  refine j_method (ws' := n_GW) (by decide) rfl ?_ ?_
  · rintro a S V ⟨u0, rfl, -⟩
    exact Nat.le_of_ble_eq_true rfl
  · rintro C G htl hl hrm hm hml ho hts hnm hE a S V ⟨u0, rfl, ht, hp⟩ R
    exact body C G ⟨htl, hm, hml, ho, fun w hw => hts w (List.mem_cons_of_mem _ hw), hE⟩ (by rw [hrm]; exact ⟨rfl, rfl⟩) (by rw [hrm]; exact ⟨rfl, rfl⟩) hl hnm u0 S V ht hp (fun pc lo r S' V' nc ns d q hc hs => R.2.1 rfl pc lo r S' V' nc ns d ⟨u0, r, rfl, rfl, q⟩ hc hs)
theorem d13_51_0 : decode b_13_51 0 = .ok (.aload_n 0, 1) := by decide +kernel
theorem d13_51_1 : decode b_13_51 1 = .ok (.getfield 268, 3) := by decide +kernel
theorem d13_51_4 : decode b_13_51 4 = .ok (.istore_n 1, 1) := by decide +kernel
theorem d13_51_5 : decode b_13_51 5 = .ok (.aload_n 0, 1) := by decide +kernel
theorem d13_51_6 : decode b_13_51 6 = .ok (.iconst 0, 1) := by decide +kernel
theorem d13_51_7 : decode b_13_51 7 = .ok (.putfield 268, 3) := by decide +kernel
theorem d13_51_10 : decode b_13_51 10 = .ok (.aload_n 0, 1) := by decide +kernel
theorem d13_51_11 : decode b_13_51 11 = .ok (.getfield 10, 3) := by decide +kernel
theorem d13_51_14 : decode b_13_51 14 = .ok (.getfield 200, 3) := by decide +kernel
theorem d13_51_17 : decode b_13_51 17 = .ok (.ifCond .ne 10, 3) := by decide +kernel
theorem d13_51_20 : decode b_13_51 20 = .ok (.aload_n 0, 1) := by decide +kernel
theorem d13_51_21 : decode b_13_51 21 = .ok (.bipush (-6), 2) := by decide +kernel
theorem d13_51_23 : decode b_13_51 23 = .ok (.invokevirtual 82, 3) := by decide +kernel
theorem d13_51_26 : decode b_13_51 26 = .ok (.ireturn, 1) := by decide +kernel
theorem d13_51_27 : decode b_13_51 27 = .ok (.aload_n 0, 1) := by decide +kernel
theorem d13_51_28 : decode b_13_51 28 = .ok (.invokevirtual 259, 3) := by decide +kernel
theorem d13_51_31 : decode b_13_51 31 = .ok (.iconst 0, 1) := by decide +kernel
theorem d13_51_32 : decode b_13_51 32 = .ok (.istore_n 2, 1) := by decide +kernel
theorem d13_51_33 : decode b_13_51 33 = .ok (.iload_n 2, 1) := by decide +kernel
theorem d13_51_34 : decode b_13_51 34 = .ok (.aload_n 0, 1) := by decide +kernel
theorem d13_51_35 : decode b_13_51 35 = .ok (.getfield 230, 3) := by decide +kernel
theorem d13_51_38 : decode b_13_51 38 = .ok (.if_icmp .ge 35, 3) := by decide +kernel
theorem d13_51_41 : decode b_13_51 41 = .ok (.iload_n 2, 1) := by decide +kernel
theorem d13_51_42 : decode b_13_51 42 = .ok (.iload_n 1, 1) := by decide +kernel
theorem d13_51_43 : decode b_13_51 43 = .ok (.if_icmp .ge 20, 3) := by decide +kernel
theorem d13_51_46 : decode b_13_51 46 = .ok (.aload_n 0, 1) := by decide +kernel
theorem d13_51_47 : decode b_13_51 47 = .ok (.getfield 19, 3) := by decide +kernel
theorem d13_51_50 : decode b_13_51 50 = .ok (.iload_n 2, 1) := by decide +kernel
theorem d13_51_51 : decode b_13_51 51 = .ok (.iaload, 1) := by decide +kernel
theorem d13_51_52 : decode b_13_51 52 = .ok (.i2l, 1) := by decide +kernel
theorem d13_51_53 : decode b_13_51 53 = .ok (.aload_n 0, 1) := by decide +kernel
theorem d13_51_54 : decode b_13_51 54 = .ok (.getfield 57, 3) := by decide +kernel
theorem d13_51_57 : decode b_13_51 57 = .ok (.iload_n 2, 1) := by decide +kernel
theorem d13_51_58 : decode b_13_51 58 = .ok (.laload, 1) := by decide +kernel
theorem d13_51_59 : decode b_13_51 59 = .ok (.lcmp, 1) := by decide +kernel
theorem d13_51_60 : decode b_13_51 60 = .ok (.ifCond .eq 7, 3) := by decide +kernel
theorem d13_51_63 : decode b_13_51 63 = .ok (.iload_n 2, 1) := by decide +kernel
theorem d13_51_64 : decode b_13_51 64 = .ok (.iconst 1, 1) := by decide +kernel
theorem d13_51_65 : decode b_13_51 65 = .ok (.iadd, 1) := by decide +kernel
theorem d13_51_66 : decode b_13_51 66 = .ok (.ireturn, 1) := by decide +kernel
theorem d13_51_67 : decode b_13_51 67 = .ok (.iinc 2 1, 3) := by decide +kernel
theorem d13_51_70 : decode b_13_51 70 = .ok (.goto (-37), 3) := by decide +kernel
theorem d13_51_73 : decode b_13_51 73 = .ok (.iload_n 1, 1) := by decide +kernel
theorem d13_51_74 : decode b_13_51 74 = .ok (.aload_n 0, 1) := by decide +kernel
theorem d13_51_75 : decode b_13_51 75 = .ok (.getfield 230, 3) := by decide +kernel
theorem d13_51_78 : decode b_13_51 78 = .ok (.if_icmp .le 12, 3) := by decide +kernel
theorem d13_51_81 : decode b_13_51 81 = .ok (.aload_n 0, 1) := by decide +kernel
theorem d13_51_82 : decode b_13_51 82 = .ok (.getfield 230, 3) := by decide +kernel
theorem d13_51_85 : decode b_13_51 85 = .ok (.iconst 1, 1) := by decide +kernel
theorem d13_51_86 : decode b_13_51 86 = .ok (.iadd, 1) := by decide +kernel
theorem d13_51_87 : decode b_13_51 87 = .ok (.goto 4, 3) := by decide +kernel
theorem d13_51_90 : decode b_13_51 90 = .ok (.iconst 0, 1) := by decide +kernel
theorem d13_51_91 : decode b_13_51 91 = .ok (.ireturn, 1) := by decide +kernel
theorem K13_51_23 {C : qCx} {G : jG} {mc ms : Nat} {p : Int → Int → jS → jH → Prop} {q : Int → Int → jS → jH → Int → jS → jH → Prop} (h : x13_51 C G) (hrm : C.2.2.2.1.frames = 5 ∧ C.2.2.2.1.locals = 121) (hM : M13_2 C.2.1 mc ms p q) : j_Call C b_13_51 n_KT G.1 G.2.1 3 (.invokevirtual 82) mc ms (fun a S V => ∃ u0 u1 : Int, a = [(2, u0), (0, u1)] ∧ S.1 u0 = 33 ∧ p u0 u1 S V) (fun a S V rs S' V' => ∃ u0 u1 r : Int, a = [(2, u0), (0, u1)] ∧ rs = [(0, r)] ∧ q u0 u1 S V r S' V') := j_callV n_NWk h.2.2.2.2.2 h.1 hM ⟨h.2.1.1, h.2.1.2, h.2.2.1, h.2.2.2.1, h.2.2.2.2.1⟩ ⟨n_CB (y := y_13_2) (bytes := b_13_2) 1 h.2.2.2.2.1 n_w928 n_w925 n_w12 ⟨by decide, by decide, by decide +kernel⟩ rfl rfl ⟨by rw [hrm.1]; exact Nat.le_of_ble_eq_true rfl, by rw [hrm.2]; exact Nat.le_of_ble_eq_true rfl⟩, h.2.2.2.2.1 _ n_w927, h.2.2.2.2.1 _ n_s27⟩ (Cn := RX12) (fun a S V hP => by obtain ⟨u0, u1, rfl, e, -⟩ := hP; exact ⟨u0, _, 12, _, _, TX12, 31, rfl, rfl, by rw [e]; decide, by rw [e]; rfl, rfl⟩)
theorem K13_51_28 {C : qCx} {G : jG} {mc ms : Nat} {p : Int → jS → jH → Prop} {q : Int → jS → jH → jS → jH → Prop} (h : x13_51 C G) (hrm : C.2.2.2.1.frames = 5 ∧ C.2.2.2.1.locals = 121) (hM : M13_46 C.2.1 mc ms p q) : j_Call C b_13_51 n_KT G.1 G.2.1 3 (.invokevirtual 259) mc ms (fun a S V => ∃ u0 : Int, a = [(2, u0)] ∧ S.1 u0 = 33 ∧ p u0 S V) (fun a S V rs S' V' => ∃ u0 : Int, a = [(2, u0)] ∧ rs = [] ∧ q u0 S V S' V') := j_callV n_NWk h.2.2.2.2.2 h.1 hM ⟨h.2.1.1, h.2.1.2, h.2.2.1, h.2.2.2.1, h.2.2.2.2.1⟩ ⟨n_CB (y := y_13_46) (bytes := b_13_46) 0 h.2.2.2.2.1 n_w1104 n_w1101 n_w12 ⟨by decide, by decide, by decide +kernel⟩ rfl rfl ⟨by rw [hrm.1]; exact Nat.le_of_ble_eq_true rfl, by rw [hrm.2]; exact Nat.le_of_ble_eq_true rfl⟩, h.2.2.2.2.1 _ n_w1103, h.2.2.2.2.1 _ n_s50⟩ (Cn := RX12) (fun a S V hP => by obtain ⟨u0, rfl, e, -⟩ := hP; exact ⟨u0, _, 12, _, _, TX12, 31, rfl, rfl, by rw [e]; decide, by rw [e]; rfl, rfl⟩)
theorem t13_51_0 {C : qCx} {G : jG} {S : jS} {V : jH} {nc ns : Nat} {l0 : Int} (h : x13_51 C G) (L : j_L S) (c1 : S.1 l0 = 33) (k : ¬ V (l0 + 1) 9 = 0 → j_ok n_KT 3 C G 27 [(0, (2, l0)), (1, (0, V l0 4))] [] S (j_up V l0 4 0) nc ns) (k' : V (l0 + 1) 9 = 0 → j_ok n_KT 3 C G 20 [(0, (2, l0))] [] S (j_up V l0 4 0) nc ns) : j_ok n_KT 3 C G 0 [(0, (2, l0))] [] S V nc ns := by
  have E := n_E h
  refine j_aload_n E d13_51_0 rfl 0 rfl ?_
  refine j_getI (f := 4) (fg12_268 h) d13_51_1 c1 (by decide) rfl rfl ?_
  refine j_istore_n E d13_51_4 rfl (by decide) (lo1 := [(0, (2, l0))]) rfl ?_
  refine j_aload_n E d13_51_5 rfl 1 rfl ?_
  refine j_iconst E d13_51_6 (by decide) ?_
  refine j_putI (f := 4) (fp12_268 h) (n_hap h 33 12 0 _ rfl) d13_51_7 c1 (by decide) rfl rfl rfl ?_
  refine j_aload_n E d13_51_10 rfl 1 rfl ?_
  refine j_getS (f := 0) (x := l0 + 1) (fg12_10 h) d13_51_11 c1 (by decide) rfl rfl ((L12_0 L c1).trans (by omega)) ?_
  refine j_getI (f := 9) (fg12_200 h) d13_51_14 (show S.1 (l0 + 1) = 32 from (by have q := L12_0k L c1; rw [show l0 + 1 = l0 + 1 by omega]; exact q)) (by decide) rfl rfl ?_
  refine j_eqT (show (j_up V l0 4 0) (l0 + 1) 9 = V (l0 + 1) 9 from (congrFun (j_up_ne (by omega)) _)) ?_
  exact j_if_ne E d13_51_17 (t := 27) rfl (fun q => j_pick [1, 0] rfl (k q)) (fun q => j_pick [1] rfl (k' q))
theorem t13_51_20 {C : qCx} {G : jG} {S : jS} {V : jH} {nc ns : Nat} {l0 : Int} {mc ms : Nat} {pp : Int → Int → jS → jH → Prop} {qq : Int → Int → jS → jH → Int → jS → jH → Prop} (h : x13_51 C G) (hrm : C.2.2.2.1.frames = 5 ∧ C.2.2.2.1.locals = 121) (c1 : S.1 l0 = 33) (hM : M13_2 C.2.1 mc ms pp qq) (hp : pp l0 ((-6)) S V) (hc : nc + mc ≤ C.2.2.2.1.cells) (hs : ns + ms ≤ C.2.2.2.1.slots) (k : ∀ (r : Int) (S' : jS) (V' : jH), qq l0 ((-6)) S V r S' V' → j_ok n_KT 3 C G 26 [] [(0, r)] S' V' (nc + mc) (ns + ms)) : j_ok n_KT 3 C G 20 [(0, (2, l0))] [] S V nc ns := by
  have E := n_E h
  refine j_aload_n E d13_51_20 rfl 0 rfl ?_
  refine j_bipush E d13_51_21 (by decide) ?_
  refine j_call E (K13_51_23 h hrm hM) d13_51_23 (a := [(2, l0), (0, (-6))]) (sk := []) rfl ⟨l0, (-6), rfl, c1, hp⟩ (Nat.le_of_ble_eq_true rfl) hc hs ?_
  rintro rs S' V' ⟨z0, z1, r, e1, rfl, q⟩
  simp only [List.cons.injEq, Prod.mk.injEq, and_true, true_and] at e1
  obtain ⟨rfl, rfl⟩ := e1
  exact j_pick [] rfl (k r S' V' q)
theorem t13_51_26 {C : qCx} {G : jG} {S : jS} {V : jH} {nc ns : Nat} {s0 : Int} {mc ms : Nat} {qf : Int → jS → jH → Prop} (h : x13_51 C G)  (R : j_Ri n_KT 3 C G b_13_51 mc ms qf) (q : qf s0 S V) (hc : nc ≤ mc) (hs : ns ≤ ms) : j_ok n_KT 3 C G 26 [] [(0, s0)] S V nc ns := by
  have E := n_E h
  exact R _ _ _ _ _ _ _ d13_51_26 q hc hs
theorem t13_51_27 {C : qCx} {G : jG} {S : jS} {V : jH} {nc ns : Nat} {l0 l1 : Int} {mc ms : Nat} {pp : Int → jS → jH → Prop} {qq : Int → jS → jH → jS → jH → Prop} (h : x13_51 C G) (hrm : C.2.2.2.1.frames = 5 ∧ C.2.2.2.1.locals = 121) (c1 : S.1 l0 = 33) (hM : M13_46 C.2.1 mc ms pp qq) (hp : pp l0 S V) (hc : nc + mc ≤ C.2.2.2.1.cells) (hs : ns + ms ≤ C.2.2.2.1.slots) (k : ∀ (S' : jS) (V' : jH), qq l0 S V S' V' → j_ok n_KT 3 C G 31 [(0, (2, l0)), (1, (0, l1))] [] S' V' (nc + mc) (ns + ms)) : j_ok n_KT 3 C G 27 [(0, (2, l0)), (1, (0, l1))] [] S V nc ns := by
  have E := n_E h
  refine j_aload_n E d13_51_27 rfl 0 rfl ?_
  refine j_call E (K13_51_28 h hrm hM) d13_51_28 (a := [(2, l0)]) (sk := []) rfl ⟨l0, rfl, c1, hp⟩ (Nat.le_of_ble_eq_true rfl) hc hs ?_
  rintro rs S' V' ⟨z0, e1, rfl, q⟩
  simp only [List.cons.injEq, Prod.mk.injEq, and_true, true_and] at e1
  obtain ⟨rfl⟩ := e1
  exact j_pick [0, 1] rfl (k S' V' q)
theorem t13_51_31 {C : qCx} {G : jG} {S : jS} {V : jH} {nc ns : Nat} {l0 l1 : Int} (h : x13_51 C G)  (k : j_ok n_KT 3 C G 33 [(0, (2, l0)), (1, (0, l1)), (2, (0, 0))] [] S V nc ns) : j_ok n_KT 3 C G 31 [(0, (2, l0)), (1, (0, l1))] [] S V nc ns := by
  have E := n_E h
  refine j_iconst E d13_51_31 (by decide) ?_
  refine j_istore_n E d13_51_32 rfl (by decide) (lo1 := [(0, (2, l0)), (1, (0, l1))]) rfl ?_
  exact j_pick [1, 2, 0] rfl k
theorem t13_51_33 {C : qCx} {G : jG} {S : jS} {V : jH} {nc ns : Nat} {l0 l1 l2 : Int} (h : x13_51 C G) (c1 : S.1 l0 = 33) (k : V l0 24 ≤ l2 → j_ok n_KT 3 C G 73 [(0, (2, l0)), (1, (0, l1))] [] S V nc ns) (k' : l2 < V l0 24 → j_ok n_KT 3 C G 41 [(0, (2, l0)), (1, (0, l1)), (2, (0, l2))] [] S V nc ns) : j_ok n_KT 3 C G 33 [(0, (2, l0)), (1, (0, l1)), (2, (0, l2))] [] S V nc ns := by
  have E := n_E h
  refine j_iload_n E d13_51_33 rfl 2 rfl ?_
  refine j_aload_n E d13_51_34 rfl 0 rfl ?_
  refine j_getI (f := 24) (fg12_230 h) d13_51_35 c1 (by decide) rfl rfl ?_
  exact j_icmp_ge E d13_51_38 (t := 73) rfl (fun q => j_pick [0, 1] rfl (k q)) (fun q => j_pick [0, 1, 2] rfl (k' q))
theorem t13_51_41 {C : qCx} {G : jG} {S : jS} {V : jH} {nc ns : Nat} {l0 l1 l2 : Int} (h : x13_51 C G)  (k : l1 ≤ l2 → j_ok n_KT 3 C G 63 [(2, (0, l2))] [] S V nc ns) (k' : l2 < l1 → j_ok n_KT 3 C G 46 [(0, (2, l0)), (1, (0, l1)), (2, (0, l2))] [] S V nc ns) : j_ok n_KT 3 C G 41 [(0, (2, l0)), (1, (0, l1)), (2, (0, l2))] [] S V nc ns := by
  have E := n_E h
  refine j_iload_n E d13_51_41 rfl 2 rfl ?_
  refine j_iload_n E d13_51_42 rfl 1 rfl ?_
  exact j_icmp_ge E d13_51_43 (t := 63) rfl (fun q => j_pick [2] rfl (k q)) (fun q => j_pick [0, 1, 2] rfl (k' q))
theorem t13_51_46 {C : qCx} {G : jG} {S : jS} {V : jH} {nc ns : Nat} {l0 l1 l2 : Int} (h : x13_51 C G) (L : j_L S) (c1 : S.1 l0 = 33) (c2 : 0 ≤ l2) (c3 : l2 < 400) (k : V (l0 + 17) l2 = V (l0 + 29) l2 → j_ok n_KT 3 C G 67 [(0, (2, l0)), (1, (0, l1)), (2, (0, l2))] [] S V nc ns) (k' : ¬ V (l0 + 17) l2 = V (l0 + 29) l2 → j_ok n_KT 3 C G 63 [(2, (0, l2))] [] S V nc ns) : j_ok n_KT 3 C G 46 [(0, (2, l0)), (1, (0, l1)), (2, (0, l2))] [] S V nc ns := by
  have E := n_E h
  refine j_aload_n E d13_51_46 rfl 0 rfl ?_
  refine j_getS (f := 5) (x := l0 + 17) (fg12_19 h) d13_51_47 c1 (by decide) rfl rfl ((L12_5 L c1).trans (by omega)) ?_
  refine j_iload_n E d13_51_50 rfl 2 rfl ?_
  refine j_iald E d13_51_51 (j_arr_of (show S.1 (l0 + 17) = 1 from (by have q := L12_5k L c1; rw [show l0 + 17 = l0 + 17 by omega]; exact q)) (by decide) rfl) c2 c3 ?_
  refine j_i2l E d13_51_52 ?_
  refine j_aload_n E d13_51_53 rfl 0 rfl ?_
  refine j_getS (f := 29) (x := l0 + 29) (fg12_57 h) d13_51_54 c1 (by decide) rfl rfl ((L12_29 L c1).trans (by omega)) ?_
  refine j_iload_n E d13_51_57 rfl 2 rfl ?_
  refine j_lald E d13_51_58 (j_arrL_of (show S.1 (l0 + 29) = 16 from (by have q := L12_29k L c1; rw [show l0 + 29 = l0 + 29 by omega]; exact q)) (by decide) rfl) c2 c3 ?_
  refine j_lcmp E d13_51_59 ?_
  exact j_if_eq E d13_51_60 (t := 67) rfl (fun q => j_pick [0, 1, 2] rfl (k (j_cmp_eq.mp q))) (fun q => j_pick [2] rfl (k' (fun e => q (j_cmp_eq.mpr e))))
theorem t13_51_63 {C : qCx} {G : jG} {S : jS} {V : jH} {nc ns : Nat} {l2 : Int} {mc ms : Nat} {qf : Int → jS → jH → Prop} (h : x13_51 C G) (c1 : -2147483648 ≤ l2 + 1 ∧ l2 + 1 ≤ 2147483647) (R : j_Ri n_KT 3 C G b_13_51 mc ms qf) (q : qf (l2 + 1) S V) (hc : nc ≤ mc) (hs : ns ≤ ms) : j_ok n_KT 3 C G 63 [(2, (0, l2))] [] S V nc ns := by
  have E := n_E h
  refine j_iload_n E d13_51_63 rfl 0 rfl ?_
  refine j_iconst E d13_51_64 (by decide) ?_
  refine j_iadd E d13_51_65 c1 ?_
  exact R _ _ _ _ _ _ _ d13_51_66 q hc hs
theorem t13_51_67 {C : qCx} {G : jG} {S : jS} {V : jH} {nc ns : Nat} {l0 l1 l2 : Int} (h : x13_51 C G) (c1 : -2147483648 ≤ l2 + 1 ∧ l2 + 1 ≤ 2147483647) (k : j_ok n_KT 3 C G 33 [(0, (2, l0)), (1, (0, l1)), (2, (0, l2 + 1))] [] S V nc ns) : j_ok n_KT 3 C G 67 [(0, (2, l0)), (1, (0, l1)), (2, (0, l2))] [] S V nc ns := by
  have E := n_E h
  refine j_iinc E d13_51_67 (by decide) (by decide) 2 rfl (lo1 := [(0, (2, l0)), (1, (0, l1))]) rfl c1 ?_
  refine j_goto E d13_51_70 (t := 33) rfl ?_
  exact j_pick [1, 2, 0] rfl k
theorem t13_51_73 {C : qCx} {G : jG} {S : jS} {V : jH} {nc ns : Nat} {l0 l1 : Int} (h : x13_51 C G) (c1 : S.1 l0 = 33) (k : l1 ≤ V l0 24 → j_ok n_KT 3 C G 90 [] [] S V nc ns) (k' : V l0 24 < l1 → j_ok n_KT 3 C G 81 [(0, (2, l0))] [] S V nc ns) : j_ok n_KT 3 C G 73 [(0, (2, l0)), (1, (0, l1))] [] S V nc ns := by
  have E := n_E h
  refine j_iload_n E d13_51_73 rfl 1 rfl ?_
  refine j_aload_n E d13_51_74 rfl 0 rfl ?_
  refine j_getI (f := 24) (fg12_230 h) d13_51_75 c1 (by decide) rfl rfl ?_
  exact j_icmp_le E d13_51_78 (t := 90) rfl (fun q => j_pick [] rfl (k q)) (fun q => j_pick [0] rfl (k' q))
theorem t13_51_81 {C : qCx} {G : jG} {S : jS} {V : jH} {nc ns : Nat} {l0 : Int} (h : x13_51 C G) (c1 : S.1 l0 = 33) (c2 : -2147483648 ≤ (V l0 24) + 1 ∧ (V l0 24) + 1 ≤ 2147483647) (k : j_ok n_KT 3 C G 91 [] [(0, (V l0 24) + 1)] S V nc ns) : j_ok n_KT 3 C G 81 [(0, (2, l0))] [] S V nc ns := by
  have E := n_E h
  refine j_aload_n E d13_51_81 rfl 0 rfl ?_
  refine j_getI (f := 24) (fg12_230 h) d13_51_82 c1 (by decide) rfl rfl ?_
  refine j_iconst E d13_51_85 (by decide) ?_
  refine j_iadd E d13_51_86 c2 ?_
  refine j_goto E d13_51_87 (t := 91) rfl ?_
  exact j_pick [] rfl k
theorem t13_51_90 {C : qCx} {G : jG} {S : jS} {V : jH} {nc ns : Nat} (h : x13_51 C G)  (k : j_ok n_KT 3 C G 91 [] [(0, 0)] S V nc ns) : j_ok n_KT 3 C G 90 [] [] S V nc ns := by
  have E := n_E h
  refine j_iconst E d13_51_90 (by decide) ?_
  exact j_pick [] rfl k
theorem t13_51_91 {C : qCx} {G : jG} {S : jS} {V : jH} {nc ns : Nat} {s0 : Int} {mc ms : Nat} {qf : Int → jS → jH → Prop} (h : x13_51 C G)  (R : j_Ri n_KT 3 C G b_13_51 mc ms qf) (q : qf s0 S V) (hc : nc ≤ mc) (hs : ns ≤ ms) : j_ok n_KT 3 C G 91 [] [(0, s0)] S V nc ns := by
  have E := n_E h
  exact R _ _ _ _ _ _ _ d13_51_91 q hc hs
/- BalanceCoderModel$Book.copy([I[I)V -/
abbrev b_14_3 : ByteArray := prog_14_method_3_code
def y_14_3 : MethodName := ⟨"BalanceCoderModel$Book", "copy", "([I[I)V"⟩
abbrev x14_3 (C : qCx) (G : jG) : Prop := n_ctx C b_14_3 3 "BalanceCoderModel$Book" G.1 G.2.1
def M14_3 (l : Launch) (mc ms : Nat) (p : Int → Int → jS → jH → Prop) (q : Int → Int → jS → jH → jS → jH → Prop) : Prop := j_Met l vwCl n_TL n_NW n_KT y_14_3 (Cond.code y_14_3 b_14_3 3 none :: n_GW) { frames := 1, cells := mc, slots := ms, locals := 26 } mc ms (fun a S V => ∃ u0 u1 : Int, a = [(2, u0), (2, u1)] ∧ p u0 u1 S V) (fun a S V rs S' V' => ∃ u0 u1 : Int, a = [(2, u0), (2, u1)] ∧ rs = [] ∧ q u0 u1 S V S' V')
theorem e14_3 {l : Launch} {mc ms : Nat} {p : Int → Int → jS → jH → Prop} {q : Int → Int → jS → jH → jS → jH → Prop} (body : ∀ (C : qCx) (G : jG), x14_3 C G → C.2.2.2.1.frames = 1 ∧ C.2.2.2.1.locals = 26 → C.2.2.2.1.cells = mc ∧ C.2.2.2.1.slots = ms → C.2.1 = l → C.2.2.2.2.2.2.2.2.1.name = "copy" → ∀ (u0 u1 : Int) (S : jS) (V : jH), p u0 u1 S V → j_Rv n_KT 3 C G b_14_3 mc ms (q u0 u1 S V) → j_ok n_KT 3 C G 0 [(0, (2, u0)), (1, (2, u1))] [] S V 0 0) : M14_3 l mc ms p q := by
  refine j_method (ws' := n_GW) (by decide) rfl ?_ ?_
  · rintro a S V ⟨u0, u1, rfl, -⟩
    exact Nat.le_of_ble_eq_true rfl
  · rintro C G htl hl hrm hm hml ho hts hnm hE a S V ⟨u0, u1, rfl, hp⟩ R
    exact body C G ⟨htl, hm, hml, ho, fun w hw => hts w (List.mem_cons_of_mem _ hw), hE⟩ (by rw [hrm]; exact ⟨rfl, rfl⟩) (by rw [hrm]; exact ⟨rfl, rfl⟩) hl hnm u0 u1 S V hp (fun pc lo S' V' nc ns d q hc hs => R.1 rfl pc lo S' V' nc ns d ⟨u0, u1, rfl, rfl, q⟩ hc hs)
theorem d14_3_0 : decode b_14_3 0 = .ok (.iconst 0, 1) := by decide +kernel
theorem d14_3_1 : decode b_14_3 1 = .ok (.istore_n 2, 1) := by decide +kernel
theorem d14_3_2 : decode b_14_3 2 = .ok (.iload_n 2, 1) := by decide +kernel
theorem d14_3_3 : decode b_14_3 3 = .ok (.aload_n 0, 1) := by decide +kernel
theorem d14_3_4 : decode b_14_3 4 = .ok (.arraylength, 1) := by decide +kernel
theorem d14_3_5 : decode b_14_3 5 = .ok (.if_icmp .ge 15, 3) := by decide +kernel
theorem d14_3_8 : decode b_14_3 8 = .ok (.aload_n 1, 1) := by decide +kernel
theorem d14_3_9 : decode b_14_3 9 = .ok (.iload_n 2, 1) := by decide +kernel
theorem d14_3_10 : decode b_14_3 10 = .ok (.aload_n 0, 1) := by decide +kernel
theorem d14_3_11 : decode b_14_3 11 = .ok (.iload_n 2, 1) := by decide +kernel
theorem d14_3_12 : decode b_14_3 12 = .ok (.iaload, 1) := by decide +kernel
theorem d14_3_13 : decode b_14_3 13 = .ok (.iastore, 1) := by decide +kernel
theorem d14_3_14 : decode b_14_3 14 = .ok (.iinc 2 1, 3) := by decide +kernel
theorem d14_3_17 : decode b_14_3 17 = .ok (.goto (-15), 3) := by decide +kernel
theorem d14_3_20 : decode b_14_3 20 = .ok (.return_, 1) := by decide +kernel
theorem t14_3_0 {C : qCx} {G : jG} {S : jS} {V : jH} {nc ns : Nat} {l0 l1 : Int} (h : x14_3 C G)  (k : j_ok n_KT 3 C G 2 [(0, (2, l0)), (1, (2, l1)), (2, (0, 0))] [] S V nc ns) : j_ok n_KT 3 C G 0 [(0, (2, l0)), (1, (2, l1))] [] S V nc ns := by
  have E := n_E h
  refine j_iconst E d14_3_0 (by decide) ?_
  refine j_istore_n E d14_3_1 rfl (by decide) (lo1 := [(0, (2, l0)), (1, (2, l1))]) rfl ?_
  exact j_pick [1, 2, 0] rfl k
theorem t14_3_2 {C : qCx} {G : jG} {S : jS} {V : jH} {nc ns : Nat} {l0 l1 l2 : Int} {n_l0 : Nat} (h : x14_3 C G) (c1 : j_arr S l0 n_l0) (c2 : n_l0 < 2 ^ 31) (k : (n_l0 : Int) ≤ l2 → j_ok n_KT 3 C G 20 [] [] S V nc ns) (k' : l2 < (n_l0 : Int) → j_ok n_KT 3 C G 8 [(0, (2, l0)), (1, (2, l1)), (2, (0, l2))] [] S V nc ns) : j_ok n_KT 3 C G 2 [(0, (2, l0)), (1, (2, l1)), (2, (0, l2))] [] S V nc ns := by
  have E := n_E h
  refine j_iload_n E d14_3_2 rfl 2 rfl ?_
  refine j_aload_n E d14_3_3 rfl 0 rfl ?_
  refine j_alenA E d14_3_4 c1 c2 ?_
  exact j_icmp_ge E d14_3_5 (t := 20) rfl (fun q => j_pick [] rfl (k q)) (fun q => j_pick [0, 1, 2] rfl (k' q))
theorem t14_3_8 {C : qCx} {G : jG} {S : jS} {V : jH} {nc ns : Nat} {l0 l1 l2 : Int} {n_l0 n_l1 : Nat} (h : x14_3 C G) (c1 : j_arr S l0 n_l0) (c2 : 0 ≤ l2) (c3 : l2 < (n_l0 : Int)) (c4 : j_arr S l1 n_l1) (c5 : l2 < (n_l1 : Int)) (c6 : -2147483648 ≤ l2 + 1 ∧ l2 + 1 ≤ 2147483647) (k : j_ok n_KT 3 C G 2 [(0, (2, l0)), (1, (2, l1)), (2, (0, l2 + 1))] [] S (j_up V l1 l2 (V l0 l2)) nc ns) : j_ok n_KT 3 C G 8 [(0, (2, l0)), (1, (2, l1)), (2, (0, l2))] [] S V nc ns := by
  have E := n_E h
  refine j_aload_n E d14_3_8 rfl 1 rfl ?_
  refine j_iload_n E d14_3_9 rfl 2 rfl ?_
  refine j_aload_n E d14_3_10 rfl 0 rfl ?_
  refine j_iload_n E d14_3_11 rfl 2 rfl ?_
  refine j_iald E d14_3_12 c1 c2 c3 ?_
  refine j_iast E d14_3_13 c4 c2 c5 ?_
  refine j_iinc E d14_3_14 (by decide) (by decide) 2 rfl (lo1 := [(0, (2, l0)), (1, (2, l1))]) rfl c6 ?_
  refine j_goto E d14_3_17 (t := 2) rfl ?_
  exact j_pick [1, 2, 0] rfl k
theorem t14_3_20 {C : qCx} {G : jG} {S : jS} {V : jH} {nc ns : Nat} {mc ms : Nat} {qf : jS → jH → Prop} (h : x14_3 C G)  (R : j_Rv n_KT 3 C G b_14_3 mc ms qf) (q : qf S V) (hc : nc ≤ mc) (hs : ns ≤ ms) : j_ok n_KT 3 C G 20 [] [] S V nc ns := by
  have E := n_E h
  exact R _ _ _ _ _ _ d14_3_20 q hc hs
/- BalanceCoderModel$Book.be(LBalanceCoderModel$Book;)V -/
abbrev b_14_2 : ByteArray := prog_14_method_2_code
def y_14_2 : MethodName := ⟨"BalanceCoderModel$Book", "be", "(LBalanceCoderModel$Book;)V"⟩
abbrev x14_2 (C : qCx) (G : jG) : Prop := n_ctx C b_14_2 3 "BalanceCoderModel$Book" G.1 G.2.1
def M14_2 (l : Launch) (mc ms : Nat) (p : Int → Int → jS → jH → Prop) (q : Int → Int → jS → jH → jS → jH → Prop) : Prop := j_Met l vwCl n_TL n_NW n_KT y_14_2 (Cond.code y_14_2 b_14_2 3 none :: n_GW) { frames := 2, cells := mc, slots := ms, locals := 48 } mc ms (fun a S V => ∃ u0 u1 : Int, a = [(2, u0), (2, u1)] ∧ S.1 u0 = 32 ∧ p u0 u1 S V) (fun a S V rs S' V' => ∃ u0 u1 : Int, a = [(2, u0), (2, u1)] ∧ rs = [] ∧ q u0 u1 S V S' V')
theorem e14_2 {l : Launch} {mc ms : Nat} {p : Int → Int → jS → jH → Prop} {q : Int → Int → jS → jH → jS → jH → Prop} (body : ∀ (C : qCx) (G : jG), x14_2 C G → C.2.2.2.1.frames = 2 ∧ C.2.2.2.1.locals = 48 → C.2.2.2.1.cells = mc ∧ C.2.2.2.1.slots = ms → C.2.1 = l → C.2.2.2.2.2.2.2.2.1.name = "be" → ∀ (u0 u1 : Int) (S : jS) (V : jH), S.1 u0 = 32 → p u0 u1 S V → j_Rv n_KT 3 C G b_14_2 mc ms (q u0 u1 S V) → j_ok n_KT 3 C G 0 [(0, (2, u0)), (1, (2, u1))] [] S V 0 0) : M14_2 l mc ms p q := by
  refine j_method (ws' := n_GW) (by decide) rfl ?_ ?_
  · rintro a S V ⟨u0, u1, rfl, -⟩
    exact Nat.le_of_ble_eq_true rfl
  · rintro C G htl hl hrm hm hml ho hts hnm hE a S V ⟨u0, u1, rfl, ht, hp⟩ R
    exact body C G ⟨htl, hm, hml, ho, fun w hw => hts w (List.mem_cons_of_mem _ hw), hE⟩ (by rw [hrm]; exact ⟨rfl, rfl⟩) (by rw [hrm]; exact ⟨rfl, rfl⟩) hl hnm u0 u1 S V ht hp (fun pc lo S' V' nc ns d q hc hs => R.1 rfl pc lo S' V' nc ns d ⟨u0, u1, rfl, rfl, q⟩ hc hs)
theorem d14_2_0 : decode b_14_2 0 = .ok (.aload_n 1, 1) := by decide +kernel
theorem d14_2_1 : decode b_14_2 1 = .ok (.getfield 9, 3) := by decide +kernel
theorem d14_2_4 : decode b_14_2 4 = .ok (.aload_n 0, 1) := by decide +kernel
theorem d14_2_5 : decode b_14_2 5 = .ok (.getfield 9, 3) := by decide +kernel
theorem d14_2_8 : decode b_14_2 8 = .ok (.invokestatic 34, 3) := by decide +kernel
theorem d14_2_11 : decode b_14_2 11 = .ok (.aload_n 1, 1) := by decide +kernel
theorem d14_2_12 : decode b_14_2 12 = .ok (.getfield 15, 3) := by decide +kernel
theorem d14_2_15 : decode b_14_2 15 = .ok (.aload_n 0, 1) := by decide +kernel
theorem d14_2_16 : decode b_14_2 16 = .ok (.getfield 15, 3) := by decide +kernel
theorem d14_2_19 : decode b_14_2 19 = .ok (.invokestatic 34, 3) := by decide +kernel
theorem d14_2_22 : decode b_14_2 22 = .ok (.aload_n 0, 1) := by decide +kernel
theorem d14_2_23 : decode b_14_2 23 = .ok (.aload_n 1, 1) := by decide +kernel
theorem d14_2_24 : decode b_14_2 24 = .ok (.getfield 38, 3) := by decide +kernel
theorem d14_2_27 : decode b_14_2 27 = .ok (.putfield 38, 3) := by decide +kernel
theorem d14_2_30 : decode b_14_2 30 = .ok (.aload_n 1, 1) := by decide +kernel
theorem d14_2_31 : decode b_14_2 31 = .ok (.getfield 18, 3) := by decide +kernel
theorem d14_2_34 : decode b_14_2 34 = .ok (.aload_n 0, 1) := by decide +kernel
theorem d14_2_35 : decode b_14_2 35 = .ok (.getfield 18, 3) := by decide +kernel
theorem d14_2_38 : decode b_14_2 38 = .ok (.invokestatic 34, 3) := by decide +kernel
theorem d14_2_41 : decode b_14_2 41 = .ok (.aload_n 1, 1) := by decide +kernel
theorem d14_2_42 : decode b_14_2 42 = .ok (.getfield 21, 3) := by decide +kernel
theorem d14_2_45 : decode b_14_2 45 = .ok (.aload_n 0, 1) := by decide +kernel
theorem d14_2_46 : decode b_14_2 46 = .ok (.getfield 21, 3) := by decide +kernel
theorem d14_2_49 : decode b_14_2 49 = .ok (.invokestatic 34, 3) := by decide +kernel
theorem d14_2_52 : decode b_14_2 52 = .ok (.iconst 0, 1) := by decide +kernel
theorem d14_2_53 : decode b_14_2 53 = .ok (.istore_n 2, 1) := by decide +kernel
theorem d14_2_54 : decode b_14_2 54 = .ok (.iload_n 2, 1) := by decide +kernel
theorem d14_2_55 : decode b_14_2 55 = .ok (.bipush 10, 2) := by decide +kernel
theorem d14_2_57 : decode b_14_2 57 = .ok (.if_icmp .ge 21, 3) := by decide +kernel
theorem d14_2_60 : decode b_14_2 60 = .ok (.aload_n 0, 1) := by decide +kernel
theorem d14_2_61 : decode b_14_2 61 = .ok (.getfield 24, 3) := by decide +kernel
theorem d14_2_64 : decode b_14_2 64 = .ok (.iload_n 2, 1) := by decide +kernel
theorem d14_2_65 : decode b_14_2 65 = .ok (.aload_n 1, 1) := by decide +kernel
theorem d14_2_66 : decode b_14_2 66 = .ok (.getfield 24, 3) := by decide +kernel
theorem d14_2_69 : decode b_14_2 69 = .ok (.iload_n 2, 1) := by decide +kernel
theorem d14_2_70 : decode b_14_2 70 = .ok (.baload, 1) := by decide +kernel
theorem d14_2_71 : decode b_14_2 71 = .ok (.bastore, 1) := by decide +kernel
theorem d14_2_72 : decode b_14_2 72 = .ok (.iinc 2 1, 3) := by decide +kernel
theorem d14_2_75 : decode b_14_2 75 = .ok (.goto (-21), 3) := by decide +kernel
theorem d14_2_78 : decode b_14_2 78 = .ok (.aload_n 1, 1) := by decide +kernel
theorem d14_2_79 : decode b_14_2 79 = .ok (.getfield 28, 3) := by decide +kernel
theorem d14_2_82 : decode b_14_2 82 = .ok (.aload_n 0, 1) := by decide +kernel
theorem d14_2_83 : decode b_14_2 83 = .ok (.getfield 28, 3) := by decide +kernel
theorem d14_2_86 : decode b_14_2 86 = .ok (.invokestatic 34, 3) := by decide +kernel
theorem d14_2_89 : decode b_14_2 89 = .ok (.aload_n 0, 1) := by decide +kernel
theorem d14_2_90 : decode b_14_2 90 = .ok (.aload_n 1, 1) := by decide +kernel
theorem d14_2_91 : decode b_14_2 91 = .ok (.getfield 42, 3) := by decide +kernel
theorem d14_2_94 : decode b_14_2 94 = .ok (.putfield 42, 3) := by decide +kernel
theorem d14_2_97 : decode b_14_2 97 = .ok (.aload_n 1, 1) := by decide +kernel
theorem d14_2_98 : decode b_14_2 98 = .ok (.getfield 31, 3) := by decide +kernel
theorem d14_2_101 : decode b_14_2 101 = .ok (.aload_n 0, 1) := by decide +kernel
theorem d14_2_102 : decode b_14_2 102 = .ok (.getfield 31, 3) := by decide +kernel
theorem d14_2_105 : decode b_14_2 105 = .ok (.invokestatic 34, 3) := by decide +kernel
theorem d14_2_108 : decode b_14_2 108 = .ok (.aload_n 0, 1) := by decide +kernel
theorem d14_2_109 : decode b_14_2 109 = .ok (.aload_n 1, 1) := by decide +kernel
theorem d14_2_110 : decode b_14_2 110 = .ok (.getfield 45, 3) := by decide +kernel
theorem d14_2_113 : decode b_14_2 113 = .ok (.putfield 45, 3) := by decide +kernel
theorem d14_2_116 : decode b_14_2 116 = .ok (.aload_n 0, 1) := by decide +kernel
theorem d14_2_117 : decode b_14_2 117 = .ok (.aload_n 1, 1) := by decide +kernel
theorem d14_2_118 : decode b_14_2 118 = .ok (.getfield 49, 3) := by decide +kernel
theorem d14_2_121 : decode b_14_2 121 = .ok (.putfield 49, 3) := by decide +kernel
theorem d14_2_124 : decode b_14_2 124 = .ok (.aload_n 0, 1) := by decide +kernel
theorem d14_2_125 : decode b_14_2 125 = .ok (.aload_n 1, 1) := by decide +kernel
theorem d14_2_126 : decode b_14_2 126 = .ok (.getfield 52, 3) := by decide +kernel
theorem d14_2_129 : decode b_14_2 129 = .ok (.putfield 52, 3) := by decide +kernel
theorem d14_2_132 : decode b_14_2 132 = .ok (.aload_n 0, 1) := by decide +kernel
theorem d14_2_133 : decode b_14_2 133 = .ok (.aload_n 1, 1) := by decide +kernel
theorem d14_2_134 : decode b_14_2 134 = .ok (.getfield 55, 3) := by decide +kernel
theorem d14_2_137 : decode b_14_2 137 = .ok (.putfield 55, 3) := by decide +kernel
theorem d14_2_140 : decode b_14_2 140 = .ok (.aload_n 0, 1) := by decide +kernel
theorem d14_2_141 : decode b_14_2 141 = .ok (.aload_n 1, 1) := by decide +kernel
theorem d14_2_142 : decode b_14_2 142 = .ok (.getfield 58, 3) := by decide +kernel
theorem d14_2_145 : decode b_14_2 145 = .ok (.putfield 58, 3) := by decide +kernel
theorem d14_2_148 : decode b_14_2 148 = .ok (.return_, 1) := by decide +kernel
theorem K14_2_8 {C : qCx} {G : jG} {mc ms : Nat} {p : Int → Int → jS → jH → Prop} {q : Int → Int → jS → jH → jS → jH → Prop} (h : x14_2 C G) (hrm : C.2.2.2.1.frames = 2 ∧ C.2.2.2.1.locals = 48) (hM : M14_3 C.2.1 mc ms p q) : j_Call C b_14_2 n_KT G.1 G.2.1 3 (.invokestatic 34) mc ms (fun a S V => ∃ u0 u1 : Int, a = [(2, u0), (2, u1)] ∧ p u0 u1 S V) (fun a S V rs S' V' => ∃ u0 u1 : Int, a = [(2, u0), (2, u1)] ∧ rs = [] ∧ q u0 u1 S V S' V') := j_callS n_NWk h.2.2.2.2.2 h.1 hM ⟨h.2.1.1, h.2.1.2, h.2.2.1, h.2.2.2.1, h.2.2.2.2.1⟩ ⟨n_CB (y := y_14_3) (bytes := b_14_3) 2 h.2.2.2.2.1 n_w1131 n_w1129 n_w13 ⟨by decide, by decide, by decide +kernel⟩ rfl rfl ⟨by rw [hrm.1]; exact Nat.le_of_ble_eq_true rfl, by rw [hrm.2]; exact Nat.le_of_ble_eq_true rfl⟩, h.2.2.2.2.1 _ n_w1130⟩ (fun a S V hP => by obtain ⟨u0, u1, rfl, -⟩ := hP; rfl)
theorem K14_2_19 {C : qCx} {G : jG} {mc ms : Nat} {p : Int → Int → jS → jH → Prop} {q : Int → Int → jS → jH → jS → jH → Prop} (h : x14_2 C G) (hrm : C.2.2.2.1.frames = 2 ∧ C.2.2.2.1.locals = 48) (hM : M14_3 C.2.1 mc ms p q) : j_Call C b_14_2 n_KT G.1 G.2.1 3 (.invokestatic 34) mc ms (fun a S V => ∃ u0 u1 : Int, a = [(2, u0), (2, u1)] ∧ p u0 u1 S V) (fun a S V rs S' V' => ∃ u0 u1 : Int, a = [(2, u0), (2, u1)] ∧ rs = [] ∧ q u0 u1 S V S' V') := j_callS n_NWk h.2.2.2.2.2 h.1 hM ⟨h.2.1.1, h.2.1.2, h.2.2.1, h.2.2.2.1, h.2.2.2.2.1⟩ ⟨n_CB (y := y_14_3) (bytes := b_14_3) 2 h.2.2.2.2.1 n_w1131 n_w1129 n_w13 ⟨by decide, by decide, by decide +kernel⟩ rfl rfl ⟨by rw [hrm.1]; exact Nat.le_of_ble_eq_true rfl, by rw [hrm.2]; exact Nat.le_of_ble_eq_true rfl⟩, h.2.2.2.2.1 _ n_w1130⟩ (fun a S V hP => by obtain ⟨u0, u1, rfl, -⟩ := hP; rfl)
theorem K14_2_38 {C : qCx} {G : jG} {mc ms : Nat} {p : Int → Int → jS → jH → Prop} {q : Int → Int → jS → jH → jS → jH → Prop} (h : x14_2 C G) (hrm : C.2.2.2.1.frames = 2 ∧ C.2.2.2.1.locals = 48) (hM : M14_3 C.2.1 mc ms p q) : j_Call C b_14_2 n_KT G.1 G.2.1 3 (.invokestatic 34) mc ms (fun a S V => ∃ u0 u1 : Int, a = [(2, u0), (2, u1)] ∧ p u0 u1 S V) (fun a S V rs S' V' => ∃ u0 u1 : Int, a = [(2, u0), (2, u1)] ∧ rs = [] ∧ q u0 u1 S V S' V') := j_callS n_NWk h.2.2.2.2.2 h.1 hM ⟨h.2.1.1, h.2.1.2, h.2.2.1, h.2.2.2.1, h.2.2.2.2.1⟩ ⟨n_CB (y := y_14_3) (bytes := b_14_3) 2 h.2.2.2.2.1 n_w1131 n_w1129 n_w13 ⟨by decide, by decide, by decide +kernel⟩ rfl rfl ⟨by rw [hrm.1]; exact Nat.le_of_ble_eq_true rfl, by rw [hrm.2]; exact Nat.le_of_ble_eq_true rfl⟩, h.2.2.2.2.1 _ n_w1130⟩ (fun a S V hP => by obtain ⟨u0, u1, rfl, -⟩ := hP; rfl)
theorem K14_2_49 {C : qCx} {G : jG} {mc ms : Nat} {p : Int → Int → jS → jH → Prop} {q : Int → Int → jS → jH → jS → jH → Prop} (h : x14_2 C G) (hrm : C.2.2.2.1.frames = 2 ∧ C.2.2.2.1.locals = 48) (hM : M14_3 C.2.1 mc ms p q) : j_Call C b_14_2 n_KT G.1 G.2.1 3 (.invokestatic 34) mc ms (fun a S V => ∃ u0 u1 : Int, a = [(2, u0), (2, u1)] ∧ p u0 u1 S V) (fun a S V rs S' V' => ∃ u0 u1 : Int, a = [(2, u0), (2, u1)] ∧ rs = [] ∧ q u0 u1 S V S' V') := j_callS n_NWk h.2.2.2.2.2 h.1 hM ⟨h.2.1.1, h.2.1.2, h.2.2.1, h.2.2.2.1, h.2.2.2.2.1⟩ ⟨n_CB (y := y_14_3) (bytes := b_14_3) 2 h.2.2.2.2.1 n_w1131 n_w1129 n_w13 ⟨by decide, by decide, by decide +kernel⟩ rfl rfl ⟨by rw [hrm.1]; exact Nat.le_of_ble_eq_true rfl, by rw [hrm.2]; exact Nat.le_of_ble_eq_true rfl⟩, h.2.2.2.2.1 _ n_w1130⟩ (fun a S V hP => by obtain ⟨u0, u1, rfl, -⟩ := hP; rfl)
theorem K14_2_86 {C : qCx} {G : jG} {mc ms : Nat} {p : Int → Int → jS → jH → Prop} {q : Int → Int → jS → jH → jS → jH → Prop} (h : x14_2 C G) (hrm : C.2.2.2.1.frames = 2 ∧ C.2.2.2.1.locals = 48) (hM : M14_3 C.2.1 mc ms p q) : j_Call C b_14_2 n_KT G.1 G.2.1 3 (.invokestatic 34) mc ms (fun a S V => ∃ u0 u1 : Int, a = [(2, u0), (2, u1)] ∧ p u0 u1 S V) (fun a S V rs S' V' => ∃ u0 u1 : Int, a = [(2, u0), (2, u1)] ∧ rs = [] ∧ q u0 u1 S V S' V') := j_callS n_NWk h.2.2.2.2.2 h.1 hM ⟨h.2.1.1, h.2.1.2, h.2.2.1, h.2.2.2.1, h.2.2.2.2.1⟩ ⟨n_CB (y := y_14_3) (bytes := b_14_3) 2 h.2.2.2.2.1 n_w1131 n_w1129 n_w13 ⟨by decide, by decide, by decide +kernel⟩ rfl rfl ⟨by rw [hrm.1]; exact Nat.le_of_ble_eq_true rfl, by rw [hrm.2]; exact Nat.le_of_ble_eq_true rfl⟩, h.2.2.2.2.1 _ n_w1130⟩ (fun a S V hP => by obtain ⟨u0, u1, rfl, -⟩ := hP; rfl)
theorem K14_2_105 {C : qCx} {G : jG} {mc ms : Nat} {p : Int → Int → jS → jH → Prop} {q : Int → Int → jS → jH → jS → jH → Prop} (h : x14_2 C G) (hrm : C.2.2.2.1.frames = 2 ∧ C.2.2.2.1.locals = 48) (hM : M14_3 C.2.1 mc ms p q) : j_Call C b_14_2 n_KT G.1 G.2.1 3 (.invokestatic 34) mc ms (fun a S V => ∃ u0 u1 : Int, a = [(2, u0), (2, u1)] ∧ p u0 u1 S V) (fun a S V rs S' V' => ∃ u0 u1 : Int, a = [(2, u0), (2, u1)] ∧ rs = [] ∧ q u0 u1 S V S' V') := j_callS n_NWk h.2.2.2.2.2 h.1 hM ⟨h.2.1.1, h.2.1.2, h.2.2.1, h.2.2.2.1, h.2.2.2.2.1⟩ ⟨n_CB (y := y_14_3) (bytes := b_14_3) 2 h.2.2.2.2.1 n_w1131 n_w1129 n_w13 ⟨by decide, by decide, by decide +kernel⟩ rfl rfl ⟨by rw [hrm.1]; exact Nat.le_of_ble_eq_true rfl, by rw [hrm.2]; exact Nat.le_of_ble_eq_true rfl⟩, h.2.2.2.2.1 _ n_w1130⟩ (fun a S V hP => by obtain ⟨u0, u1, rfl, -⟩ := hP; rfl)
theorem t14_2_0 {C : qCx} {G : jG} {S : jS} {V : jH} {nc ns : Nat} {l0 l1 : Int} {mc ms : Nat} {pp : Int → Int → jS → jH → Prop} {qq : Int → Int → jS → jH → jS → jH → Prop} (h : x14_2 C G) (L : j_L S) (hrm : C.2.2.2.1.frames = 2 ∧ C.2.2.2.1.locals = 48) (c1 : S.1 l1 = 32) (c2 : S.1 l0 = 32) (hM : M14_3 C.2.1 mc ms pp qq) (hp : pp (l1 + 1) (l0 + 1) S V) (hc : nc + mc ≤ C.2.2.2.1.cells) (hs : ns + ms ≤ C.2.2.2.1.slots) (k : ∀ (S' : jS) (V' : jH), qq (l1 + 1) (l0 + 1) S V S' V' → j_ok n_KT 3 C G 11 [(0, (2, l0)), (1, (2, l1))] [] S' V' (nc + mc) (ns + ms)) : j_ok n_KT 3 C G 0 [(0, (2, l0)), (1, (2, l1))] [] S V nc ns := by
  have E := n_E h
  refine j_aload_n E d14_2_0 rfl 1 rfl ?_
  refine j_getS (f := 0) (x := l1 + 1) (fg11_9 h) d14_2_1 c1 (by decide) rfl rfl ((L11_0 L c1).trans (by omega)) ?_
  refine j_aload_n E d14_2_4 rfl 0 rfl ?_
  refine j_getS (f := 0) (x := l0 + 1) (fg11_9 h) d14_2_5 c2 (by decide) rfl rfl ((L11_0 L c2).trans (by omega)) ?_
  refine j_call E (K14_2_8 h hrm hM) d14_2_8 (a := [(2, l1 + 1), (2, l0 + 1)]) (sk := []) rfl ⟨l1 + 1, l0 + 1, rfl, hp⟩ (Nat.le_of_ble_eq_true rfl) hc hs ?_
  rintro rs S' V' ⟨z0, z1, e1, rfl, q⟩
  simp only [List.cons.injEq, Prod.mk.injEq, and_true, true_and] at e1
  obtain ⟨rfl, rfl⟩ := e1
  exact j_pick [0, 1] rfl (k S' V' q)
theorem t14_2_11 {C : qCx} {G : jG} {S : jS} {V : jH} {nc ns : Nat} {l0 l1 : Int} {mc ms : Nat} {pp : Int → Int → jS → jH → Prop} {qq : Int → Int → jS → jH → jS → jH → Prop} (h : x14_2 C G) (L : j_L S) (hrm : C.2.2.2.1.frames = 2 ∧ C.2.2.2.1.locals = 48) (c1 : S.1 l1 = 32) (c2 : S.1 l0 = 32) (hM : M14_3 C.2.1 mc ms pp qq) (hp : pp (l1 + 2) (l0 + 2) S V) (hc : nc + mc ≤ C.2.2.2.1.cells) (hs : ns + ms ≤ C.2.2.2.1.slots) (k : ∀ (S' : jS) (V' : jH), qq (l1 + 2) (l0 + 2) S V S' V' → j_ok n_KT 3 C G 22 [(0, (2, l0)), (1, (2, l1))] [] S' V' (nc + mc) (ns + ms)) : j_ok n_KT 3 C G 11 [(0, (2, l0)), (1, (2, l1))] [] S V nc ns := by
  have E := n_E h
  refine j_aload_n E d14_2_11 rfl 1 rfl ?_
  refine j_getS (f := 1) (x := l1 + 2) (fg11_15 h) d14_2_12 c1 (by decide) rfl rfl ((L11_1 L c1).trans (by omega)) ?_
  refine j_aload_n E d14_2_15 rfl 0 rfl ?_
  refine j_getS (f := 1) (x := l0 + 2) (fg11_15 h) d14_2_16 c2 (by decide) rfl rfl ((L11_1 L c2).trans (by omega)) ?_
  refine j_call E (K14_2_19 h hrm hM) d14_2_19 (a := [(2, l1 + 2), (2, l0 + 2)]) (sk := []) rfl ⟨l1 + 2, l0 + 2, rfl, hp⟩ (Nat.le_of_ble_eq_true rfl) hc hs ?_
  rintro rs S' V' ⟨z0, z1, e1, rfl, q⟩
  simp only [List.cons.injEq, Prod.mk.injEq, and_true, true_and] at e1
  obtain ⟨rfl, rfl⟩ := e1
  exact j_pick [0, 1] rfl (k S' V' q)
theorem t14_2_22 {C : qCx} {G : jG} {S : jS} {V : jH} {nc ns : Nat} {l0 l1 : Int} {mc ms : Nat} {pp : Int → Int → jS → jH → Prop} {qq : Int → Int → jS → jH → jS → jH → Prop} (h : x14_2 C G) (L : j_L S) (hrm : C.2.2.2.1.frames = 2 ∧ C.2.2.2.1.locals = 48) (c1 : S.1 l1 = 32) (c2 : S.1 l0 = 32) (hM : M14_3 C.2.1 mc ms pp qq) (hp : pp (l1 + 3) (l0 + 3) S (j_up V l0 2 (V l1 2))) (hc : nc + mc ≤ C.2.2.2.1.cells) (hs : ns + ms ≤ C.2.2.2.1.slots) (k : ∀ (S' : jS) (V' : jH), qq (l1 + 3) (l0 + 3) S (j_up V l0 2 (V l1 2)) S' V' → j_ok n_KT 3 C G 41 [(0, (2, l0)), (1, (2, l1))] [] S' V' (nc + mc) (ns + ms)) : j_ok n_KT 3 C G 22 [(0, (2, l0)), (1, (2, l1))] [] S V nc ns := by
  have E := n_E h
  refine j_aload_n E d14_2_22 rfl 0 rfl ?_
  refine j_aload_n E d14_2_23 rfl 1 rfl ?_
  refine j_getI (f := 2) (fg11_38 h) d14_2_24 c1 (by decide) rfl rfl ?_
  refine j_putI (f := 2) (fp11_38 h) (n_hap h 32 11 0 _ rfl) d14_2_27 c2 (by decide) rfl rfl rfl ?_
  refine j_aload_n E d14_2_30 rfl 1 rfl ?_
  refine j_getS (f := 3) (x := l1 + 3) (fg11_18 h) d14_2_31 c1 (by decide) rfl rfl ((L11_3 L c1).trans (by omega)) ?_
  refine j_aload_n E d14_2_34 rfl 0 rfl ?_
  refine j_getS (f := 3) (x := l0 + 3) (fg11_18 h) d14_2_35 c2 (by decide) rfl rfl ((L11_3 L c2).trans (by omega)) ?_
  refine j_call E (K14_2_38 h hrm hM) d14_2_38 (a := [(2, l1 + 3), (2, l0 + 3)]) (sk := []) rfl ⟨l1 + 3, l0 + 3, rfl, hp⟩ (Nat.le_of_ble_eq_true rfl) hc hs ?_
  rintro rs S' V' ⟨z0, z1, e1, rfl, q⟩
  simp only [List.cons.injEq, Prod.mk.injEq, and_true, true_and] at e1
  obtain ⟨rfl, rfl⟩ := e1
  exact j_pick [0, 1] rfl (k S' V' q)
theorem t14_2_41 {C : qCx} {G : jG} {S : jS} {V : jH} {nc ns : Nat} {l0 l1 : Int} {mc ms : Nat} {pp : Int → Int → jS → jH → Prop} {qq : Int → Int → jS → jH → jS → jH → Prop} (h : x14_2 C G) (L : j_L S) (hrm : C.2.2.2.1.frames = 2 ∧ C.2.2.2.1.locals = 48) (c1 : S.1 l1 = 32) (c2 : S.1 l0 = 32) (hM : M14_3 C.2.1 mc ms pp qq) (hp : pp (l1 + 4) (l0 + 4) S V) (hc : nc + mc ≤ C.2.2.2.1.cells) (hs : ns + ms ≤ C.2.2.2.1.slots) (k : ∀ (S' : jS) (V' : jH), qq (l1 + 4) (l0 + 4) S V S' V' → j_ok n_KT 3 C G 52 [(0, (2, l0)), (1, (2, l1))] [] S' V' (nc + mc) (ns + ms)) : j_ok n_KT 3 C G 41 [(0, (2, l0)), (1, (2, l1))] [] S V nc ns := by
  have E := n_E h
  refine j_aload_n E d14_2_41 rfl 1 rfl ?_
  refine j_getS (f := 4) (x := l1 + 4) (fg11_21 h) d14_2_42 c1 (by decide) rfl rfl ((L11_4 L c1).trans (by omega)) ?_
  refine j_aload_n E d14_2_45 rfl 0 rfl ?_
  refine j_getS (f := 4) (x := l0 + 4) (fg11_21 h) d14_2_46 c2 (by decide) rfl rfl ((L11_4 L c2).trans (by omega)) ?_
  refine j_call E (K14_2_49 h hrm hM) d14_2_49 (a := [(2, l1 + 4), (2, l0 + 4)]) (sk := []) rfl ⟨l1 + 4, l0 + 4, rfl, hp⟩ (Nat.le_of_ble_eq_true rfl) hc hs ?_
  rintro rs S' V' ⟨z0, z1, e1, rfl, q⟩
  simp only [List.cons.injEq, Prod.mk.injEq, and_true, true_and] at e1
  obtain ⟨rfl, rfl⟩ := e1
  exact j_pick [0, 1] rfl (k S' V' q)
theorem t14_2_52 {C : qCx} {G : jG} {S : jS} {V : jH} {nc ns : Nat} {l0 l1 : Int} (h : x14_2 C G)  (k : j_ok n_KT 3 C G 54 [(0, (2, l0)), (1, (2, l1)), (2, (0, 0))] [] S V nc ns) : j_ok n_KT 3 C G 52 [(0, (2, l0)), (1, (2, l1))] [] S V nc ns := by
  have E := n_E h
  refine j_iconst E d14_2_52 (by decide) ?_
  refine j_istore_n E d14_2_53 rfl (by decide) (lo1 := [(0, (2, l0)), (1, (2, l1))]) rfl ?_
  exact j_pick [1, 2, 0] rfl k
theorem t14_2_54 {C : qCx} {G : jG} {S : jS} {V : jH} {nc ns : Nat} {l0 l1 l2 : Int} (h : x14_2 C G)  (k : 10 ≤ l2 → j_ok n_KT 3 C G 78 [(0, (2, l0)), (1, (2, l1))] [] S V nc ns) (k' : l2 < 10 → j_ok n_KT 3 C G 60 [(0, (2, l0)), (1, (2, l1)), (2, (0, l2))] [] S V nc ns) : j_ok n_KT 3 C G 54 [(0, (2, l0)), (1, (2, l1)), (2, (0, l2))] [] S V nc ns := by
  have E := n_E h
  refine j_iload_n E d14_2_54 rfl 2 rfl ?_
  refine j_bipush E d14_2_55 (by decide) ?_
  exact j_icmp_ge E d14_2_57 (t := 78) rfl (fun q => j_pick [0, 1] rfl (k q)) (fun q => j_pick [0, 1, 2] rfl (k' q))
theorem t14_2_60 {C : qCx} {G : jG} {S : jS} {V : jH} {nc ns : Nat} {l0 l1 l2 : Int} (h : x14_2 C G) (L : j_L S) (c1 : S.1 l0 = 32) (c2 : S.1 l1 = 32) (c3 : 0 ≤ l2) (c4 : l2 < 10) (c5 : 0 ≤ V (l1 + 5) l2 ∧ V (l1 + 5) l2 ≤ 1) (c6 : -2147483648 ≤ l2 + 1 ∧ l2 + 1 ≤ 2147483647) (k : j_ok n_KT 3 C G 54 [(0, (2, l0)), (1, (2, l1)), (2, (0, l2 + 1))] [] S (j_up V (l0 + 5) l2 (V (l1 + 5) l2)) nc ns) : j_ok n_KT 3 C G 60 [(0, (2, l0)), (1, (2, l1)), (2, (0, l2))] [] S V nc ns := by
  have E := n_E h
  refine j_aload_n E d14_2_60 rfl 0 rfl ?_
  refine j_getS (f := 5) (x := l0 + 5) (fg11_24 h) d14_2_61 c1 (by decide) rfl rfl ((L11_5 L c1).trans (by omega)) ?_
  refine j_iload_n E d14_2_64 rfl 2 rfl ?_
  refine j_aload_n E d14_2_65 rfl 1 rfl ?_
  refine j_getS (f := 5) (x := l1 + 5) (fg11_24 h) d14_2_66 c2 (by decide) rfl rfl ((L11_5 L c2).trans (by omega)) ?_
  refine j_iload_n E d14_2_69 rfl 2 rfl ?_
  refine j_baload E d14_2_70 (show S.1 (l1 + 5) = 17 from (by have q := L11_5k L c2; rw [show l1 + 5 = l1 + 5 by omega]; exact q)) (by decide) rfl c3 c4 ?_
  refine j_bastore E d14_2_71 (show S.1 (l0 + 5) = 17 from (by have q := L11_5k L c1; rw [show l0 + 5 = l0 + 5 by omega]; exact q)) (by decide) rfl c3 c4 c5 ?_
  refine j_iinc E d14_2_72 (by decide) (by decide) 2 rfl (lo1 := [(0, (2, l0)), (1, (2, l1))]) rfl c6 ?_
  refine j_goto E d14_2_75 (t := 54) rfl ?_
  exact j_pick [1, 2, 0] rfl k
theorem t14_2_78 {C : qCx} {G : jG} {S : jS} {V : jH} {nc ns : Nat} {l0 l1 : Int} {mc ms : Nat} {pp : Int → Int → jS → jH → Prop} {qq : Int → Int → jS → jH → jS → jH → Prop} (h : x14_2 C G) (L : j_L S) (hrm : C.2.2.2.1.frames = 2 ∧ C.2.2.2.1.locals = 48) (c1 : S.1 l1 = 32) (c2 : S.1 l0 = 32) (hM : M14_3 C.2.1 mc ms pp qq) (hp : pp (l1 + 6) (l0 + 6) S V) (hc : nc + mc ≤ C.2.2.2.1.cells) (hs : ns + ms ≤ C.2.2.2.1.slots) (k : ∀ (S' : jS) (V' : jH), qq (l1 + 6) (l0 + 6) S V S' V' → j_ok n_KT 3 C G 89 [(0, (2, l0)), (1, (2, l1))] [] S' V' (nc + mc) (ns + ms)) : j_ok n_KT 3 C G 78 [(0, (2, l0)), (1, (2, l1))] [] S V nc ns := by
  have E := n_E h
  refine j_aload_n E d14_2_78 rfl 1 rfl ?_
  refine j_getS (f := 6) (x := l1 + 6) (fg11_28 h) d14_2_79 c1 (by decide) rfl rfl ((L11_6 L c1).trans (by omega)) ?_
  refine j_aload_n E d14_2_82 rfl 0 rfl ?_
  refine j_getS (f := 6) (x := l0 + 6) (fg11_28 h) d14_2_83 c2 (by decide) rfl rfl ((L11_6 L c2).trans (by omega)) ?_
  refine j_call E (K14_2_86 h hrm hM) d14_2_86 (a := [(2, l1 + 6), (2, l0 + 6)]) (sk := []) rfl ⟨l1 + 6, l0 + 6, rfl, hp⟩ (Nat.le_of_ble_eq_true rfl) hc hs ?_
  rintro rs S' V' ⟨z0, z1, e1, rfl, q⟩
  simp only [List.cons.injEq, Prod.mk.injEq, and_true, true_and] at e1
  obtain ⟨rfl, rfl⟩ := e1
  exact j_pick [0, 1] rfl (k S' V' q)
theorem t14_2_89 {C : qCx} {G : jG} {S : jS} {V : jH} {nc ns : Nat} {l0 l1 : Int} {mc ms : Nat} {pp : Int → Int → jS → jH → Prop} {qq : Int → Int → jS → jH → jS → jH → Prop} (h : x14_2 C G) (L : j_L S) (hrm : C.2.2.2.1.frames = 2 ∧ C.2.2.2.1.locals = 48) (c1 : S.1 l1 = 32) (c2 : S.1 l0 = 32) (hM : M14_3 C.2.1 mc ms pp qq) (hp : pp (l1 + 7) (l0 + 7) S (j_up V l0 7 (V l1 7))) (hc : nc + mc ≤ C.2.2.2.1.cells) (hs : ns + ms ≤ C.2.2.2.1.slots) (k : ∀ (S' : jS) (V' : jH), qq (l1 + 7) (l0 + 7) S (j_up V l0 7 (V l1 7)) S' V' → j_ok n_KT 3 C G 108 [(0, (2, l0)), (1, (2, l1))] [] S' V' (nc + mc) (ns + ms)) : j_ok n_KT 3 C G 89 [(0, (2, l0)), (1, (2, l1))] [] S V nc ns := by
  have E := n_E h
  refine j_aload_n E d14_2_89 rfl 0 rfl ?_
  refine j_aload_n E d14_2_90 rfl 1 rfl ?_
  refine j_getI (f := 7) (fg11_42 h) d14_2_91 c1 (by decide) rfl rfl ?_
  refine j_putI (f := 7) (fp11_42 h) (n_hap h 32 11 0 _ rfl) d14_2_94 c2 (by decide) rfl rfl rfl ?_
  refine j_aload_n E d14_2_97 rfl 1 rfl ?_
  refine j_getS (f := 8) (x := l1 + 7) (fg11_31 h) d14_2_98 c1 (by decide) rfl rfl ((L11_8 L c1).trans (by omega)) ?_
  refine j_aload_n E d14_2_101 rfl 0 rfl ?_
  refine j_getS (f := 8) (x := l0 + 7) (fg11_31 h) d14_2_102 c2 (by decide) rfl rfl ((L11_8 L c2).trans (by omega)) ?_
  refine j_call E (K14_2_105 h hrm hM) d14_2_105 (a := [(2, l1 + 7), (2, l0 + 7)]) (sk := []) rfl ⟨l1 + 7, l0 + 7, rfl, hp⟩ (Nat.le_of_ble_eq_true rfl) hc hs ?_
  rintro rs S' V' ⟨z0, z1, e1, rfl, q⟩
  simp only [List.cons.injEq, Prod.mk.injEq, and_true, true_and] at e1
  obtain ⟨rfl, rfl⟩ := e1
  exact j_pick [0, 1] rfl (k S' V' q)
theorem t14_2_108 {C : qCx} {G : jG} {S : jS} {V : jH} {nc ns : Nat} {l0 l1 : Int} {mc ms : Nat} {qf : jS → jH → Prop} (h : x14_2 C G) (c1 : S.1 l1 = 32) (c2 : S.1 l0 = 32) (c3 : 0 ≤ V l1 9 ∧ V l1 9 ≤ 1) (R : j_Rv n_KT 3 C G b_14_2 mc ms qf) (q : qf S (j_up (j_up (j_up (j_up (j_up V l0 9 (V l1 9)) l0 10 ((j_up V l0 9 (V l1 9)) l1 10)) l0 11 ((j_up (j_up V l0 9 (V l1 9)) l0 10 ((j_up V l0 9 (V l1 9)) l1 10)) l1 11)) l0 12 ((j_up (j_up (j_up V l0 9 (V l1 9)) l0 10 ((j_up V l0 9 (V l1 9)) l1 10)) l0 11 ((j_up (j_up V l0 9 (V l1 9)) l0 10 ((j_up V l0 9 (V l1 9)) l1 10)) l1 11)) l1 12)) l0 13 ((j_up (j_up (j_up (j_up V l0 9 (V l1 9)) l0 10 ((j_up V l0 9 (V l1 9)) l1 10)) l0 11 ((j_up (j_up V l0 9 (V l1 9)) l0 10 ((j_up V l0 9 (V l1 9)) l1 10)) l1 11)) l0 12 ((j_up (j_up (j_up V l0 9 (V l1 9)) l0 10 ((j_up V l0 9 (V l1 9)) l1 10)) l0 11 ((j_up (j_up V l0 9 (V l1 9)) l0 10 ((j_up V l0 9 (V l1 9)) l1 10)) l1 11)) l1 12)) l1 13))) (hc : nc ≤ mc) (hs : ns ≤ ms) : j_ok n_KT 3 C G 108 [(0, (2, l0)), (1, (2, l1))] [] S V nc ns := by
  have E := n_E h
  refine j_aload_n E d14_2_108 rfl 0 rfl ?_
  refine j_aload_n E d14_2_109 rfl 1 rfl ?_
  refine j_getI (f := 9) (fg11_45 h) d14_2_110 c1 (by decide) rfl rfl ?_
  refine j_putZ (f := 9) (fp11_45 h) (n_hap h 32 11 0 _ rfl) d14_2_113 c2 (by decide) rfl rfl rfl c3 ?_
  refine j_aload_n E d14_2_116 rfl 0 rfl ?_
  refine j_aload_n E d14_2_117 rfl 1 rfl ?_
  refine j_getI (f := 10) (fg11_49 h) d14_2_118 c1 (by decide) rfl rfl ?_
  refine j_putI (f := 10) (fp11_49 h) (n_hap h 32 11 0 _ rfl) d14_2_121 c2 (by decide) rfl rfl rfl ?_
  refine j_aload_n E d14_2_124 rfl 0 rfl ?_
  refine j_aload_n E d14_2_125 rfl 1 rfl ?_
  refine j_getI (f := 11) (fg11_52 h) d14_2_126 c1 (by decide) rfl rfl ?_
  refine j_putI (f := 11) (fp11_52 h) (n_hap h 32 11 0 _ rfl) d14_2_129 c2 (by decide) rfl rfl rfl ?_
  refine j_aload_n E d14_2_132 rfl 0 rfl ?_
  refine j_aload_n E d14_2_133 rfl 1 rfl ?_
  refine j_getI (f := 12) (fg11_55 h) d14_2_134 c1 (by decide) rfl rfl ?_
  refine j_putI (f := 12) (fp11_55 h) (n_hap h 32 11 0 _ rfl) d14_2_137 c2 (by decide) rfl rfl rfl ?_
  refine j_aload_n E d14_2_140 rfl 0 rfl ?_
  refine j_aload_n E d14_2_141 rfl 1 rfl ?_
  refine j_getI (f := 13) (fg11_58 h) d14_2_142 c1 (by decide) rfl rfl ?_
  refine j_putI (f := 13) (fp11_58 h) (n_hap h 32 11 0 _ rfl) d14_2_145 c2 (by decide) rfl rfl rfl ?_
  exact R _ _ _ _ _ _ d14_2_148 q hc hs
/- BalanceCoderModel.keep()I -/
abbrev b_13_52 : ByteArray := prog_13_method_52_code
def y_13_52 : MethodName := ⟨"BalanceCoderModel", "keep", "()I"⟩
abbrev x13_52 (C : qCx) (G : jG) : Prop := n_ctx C b_13_52 1 "BalanceCoderModel" G.1 G.2.1
def M13_52 (l : Launch) (mc ms : Nat) (p : Int → jS → jH → Prop) (q : Int → jS → jH → Int → jS → jH → Prop) : Prop := j_Met l vwCl n_TL n_NW n_KT y_13_52 (Cond.code y_13_52 b_13_52 1 (some .int) :: n_GW) { frames := 3, cells := mc, slots := ms, locals := 70 } mc ms (fun a S V => ∃ u0 : Int, a = [(2, u0)] ∧ S.1 u0 = 33 ∧ p u0 S V) (fun a S V rs S' V' => ∃ u0 r : Int, a = [(2, u0)] ∧ rs = [(0, r)] ∧ q u0 S V r S' V')
theorem e13_52 {l : Launch} {mc ms : Nat} {p : Int → jS → jH → Prop} {q : Int → jS → jH → Int → jS → jH → Prop} (body : ∀ (C : qCx) (G : jG), x13_52 C G → C.2.2.2.1.frames = 3 ∧ C.2.2.2.1.locals = 70 → C.2.2.2.1.cells = mc ∧ C.2.2.2.1.slots = ms → C.2.1 = l → C.2.2.2.2.2.2.2.2.1.name = "keep" → ∀ (u0 : Int) (S : jS) (V : jH), S.1 u0 = 33 → p u0 S V → j_Ri n_KT 1 C G b_13_52 mc ms (q u0 S V) → j_ok n_KT 1 C G 0 [(0, (2, u0))] [] S V 0 0) : M13_52 l mc ms p q := by
  refine j_method (ws' := n_GW) (by decide) rfl ?_ ?_
  · rintro a S V ⟨u0, rfl, -⟩
    exact Nat.le_of_ble_eq_true rfl
  · rintro C G htl hl hrm hm hml ho hts hnm hE a S V ⟨u0, rfl, ht, hp⟩ R
    exact body C G ⟨htl, hm, hml, ho, fun w hw => hts w (List.mem_cons_of_mem _ hw), hE⟩ (by rw [hrm]; exact ⟨rfl, rfl⟩) (by rw [hrm]; exact ⟨rfl, rfl⟩) hl hnm u0 S V ht hp (fun pc lo r S' V' nc ns d q hc hs => R.2.1 rfl pc lo r S' V' nc ns d ⟨u0, r, rfl, rfl, q⟩ hc hs)
theorem d13_52_0 : decode b_13_52 0 = .ok (.aload_n 0, 1) := by decide +kernel
theorem d13_52_1 : decode b_13_52 1 = .ok (.getfield 16, 3) := by decide +kernel
theorem d13_52_4 : decode b_13_52 4 = .ok (.aload_n 0, 1) := by decide +kernel
theorem d13_52_5 : decode b_13_52 5 = .ok (.getfield 10, 3) := by decide +kernel
theorem d13_52_8 : decode b_13_52 8 = .ok (.invokevirtual 271, 3) := by decide +kernel
theorem d13_52_11 : decode b_13_52 11 = .ok (.aload_n 0, 1) := by decide +kernel
theorem d13_52_12 : decode b_13_52 12 = .ok (.iconst 1, 1) := by decide +kernel
theorem d13_52_13 : decode b_13_52 13 = .ok (.putfield 275, 3) := by decide +kernel
theorem d13_52_16 : decode b_13_52 16 = .ok (.iconst 1, 1) := by decide +kernel
theorem d13_52_17 : decode b_13_52 17 = .ok (.ireturn, 1) := by decide +kernel
theorem K13_52_8 {C : qCx} {G : jG} {mc ms : Nat} {p : Int → Int → jS → jH → Prop} {q : Int → Int → jS → jH → jS → jH → Prop} (h : x13_52 C G) (hrm : C.2.2.2.1.frames = 3 ∧ C.2.2.2.1.locals = 70) (hM : M14_2 C.2.1 mc ms p q) : j_Call C b_13_52 n_KT G.1 G.2.1 1 (.invokevirtual 271) mc ms (fun a S V => ∃ u0 u1 : Int, a = [(2, u0), (2, u1)] ∧ S.1 u0 = 32 ∧ p u0 u1 S V) (fun a S V rs S' V' => ∃ u0 u1 : Int, a = [(2, u0), (2, u1)] ∧ rs = [] ∧ q u0 u1 S V S' V') := j_callV n_NWk h.2.2.2.2.2 h.1 hM ⟨h.2.1.1, h.2.1.2, h.2.2.1, h.2.2.2.1, h.2.2.2.2.1⟩ ⟨n_CB (y := y_14_2) (bytes := b_14_2) 1 h.2.2.2.2.1 n_w1128 n_w1125 n_w13 ⟨by decide, by decide, by decide +kernel⟩ rfl rfl ⟨by rw [hrm.1]; exact Nat.le_of_ble_eq_true rfl, by rw [hrm.2]; exact Nat.le_of_ble_eq_true rfl⟩, h.2.2.2.2.1 _ n_w1126, h.2.2.2.2.1 _ n_w1127⟩ (Cn := RX11) (fun a S V hP => by obtain ⟨u0, u1, rfl, e, -⟩ := hP; exact ⟨u0, _, 11, _, _, TX11, 14, rfl, rfl, by rw [e]; decide, by rw [e]; rfl, rfl⟩)
theorem t13_52_0 {C : qCx} {G : jG} {S : jS} {V : jH} {nc ns : Nat} {l0 : Int} {mc ms : Nat} {pp : Int → Int → jS → jH → Prop} {qq : Int → Int → jS → jH → jS → jH → Prop} (h : x13_52 C G) (L : j_L S) (hrm : C.2.2.2.1.frames = 3 ∧ C.2.2.2.1.locals = 70) (c1 : S.1 l0 = 33) (hM : M14_2 C.2.1 mc ms pp qq) (hp : pp (l0 + 9) (l0 + 1) S V) (hc : nc + mc ≤ C.2.2.2.1.cells) (hs : ns + ms ≤ C.2.2.2.1.slots) (k : ∀ (S' : jS) (V' : jH), qq (l0 + 9) (l0 + 1) S V S' V' → j_ok n_KT 1 C G 11 [(0, (2, l0))] [] S' V' (nc + mc) (ns + ms)) : j_ok n_KT 1 C G 0 [(0, (2, l0))] [] S V nc ns := by
  have E := n_E h
  refine j_aload_n E d13_52_0 rfl 0 rfl ?_
  refine j_getS (f := 1) (x := l0 + 9) (fg12_16 h) d13_52_1 c1 (by decide) rfl rfl ((L12_1 L c1).trans (by omega)) ?_
  refine j_aload_n E d13_52_4 rfl 0 rfl ?_
  refine j_getS (f := 0) (x := l0 + 1) (fg12_10 h) d13_52_5 c1 (by decide) rfl rfl ((L12_0 L c1).trans (by omega)) ?_
  refine j_call E (K13_52_8 h hrm hM) d13_52_8 (a := [(2, l0 + 9), (2, l0 + 1)]) (sk := []) rfl ⟨l0 + 9, l0 + 1, rfl, (show S.1 (l0 + 9) = 32 from (by have q := L12_1k L c1; rw [show l0 + 9 = l0 + 9 by omega]; exact q)), hp⟩ (Nat.le_of_ble_eq_true rfl) hc hs ?_
  rintro rs S' V' ⟨z0, z1, e1, rfl, q⟩
  simp only [List.cons.injEq, Prod.mk.injEq, and_true, true_and] at e1
  obtain ⟨rfl, rfl⟩ := e1
  exact j_pick [0] rfl (k S' V' q)
theorem t13_52_11 {C : qCx} {G : jG} {S : jS} {V : jH} {nc ns : Nat} {l0 : Int} {mc ms : Nat} {qf : Int → jS → jH → Prop} (h : x13_52 C G) (c1 : S.1 l0 = 33) (R : j_Ri n_KT 1 C G b_13_52 mc ms qf) (q : qf 1 S (j_up V l0 2 1)) (hc : nc ≤ mc) (hs : ns ≤ ms) : j_ok n_KT 1 C G 11 [(0, (2, l0))] [] S V nc ns := by
  have E := n_E h
  refine j_aload_n E d13_52_11 rfl 0 rfl ?_
  refine j_iconst E d13_52_12 (by decide) ?_
  refine j_putZ (f := 2) (fp12_275 h) (n_hap h 33 12 0 _ rfl) d13_52_13 c1 (by decide) rfl rfl rfl (by decide) ?_
  refine j_iconst E d13_52_16 (by decide) ?_
  exact R _ _ _ _ _ _ _ d13_52_17 q hc hs
/- BalanceCoderModel.back()I -/
abbrev b_13_53 : ByteArray := prog_13_method_53_code
def y_13_53 : MethodName := ⟨"BalanceCoderModel", "back", "()I"⟩
abbrev x13_53 (C : qCx) (G : jG) : Prop := n_ctx C b_13_53 1 "BalanceCoderModel" G.1 G.2.1
def M13_53 (l : Launch) (mc ms : Nat) (p : Int → jS → jH → Prop) (q : Int → jS → jH → Int → jS → jH → Prop) : Prop := j_Met l vwCl n_TL n_NW n_KT y_13_53 (Cond.code y_13_53 b_13_53 1 (some .int) :: n_GW) { frames := 3, cells := mc, slots := ms, locals := 70 } mc ms (fun a S V => ∃ u0 : Int, a = [(2, u0)] ∧ S.1 u0 = 33 ∧ p u0 S V) (fun a S V rs S' V' => ∃ u0 r : Int, a = [(2, u0)] ∧ rs = [(0, r)] ∧ q u0 S V r S' V')
theorem e13_53 {l : Launch} {mc ms : Nat} {p : Int → jS → jH → Prop} {q : Int → jS → jH → Int → jS → jH → Prop} (body : ∀ (C : qCx) (G : jG), x13_53 C G → C.2.2.2.1.frames = 3 ∧ C.2.2.2.1.locals = 70 → C.2.2.2.1.cells = mc ∧ C.2.2.2.1.slots = ms → C.2.1 = l → C.2.2.2.2.2.2.2.2.1.name = "back" → ∀ (u0 : Int) (S : jS) (V : jH), S.1 u0 = 33 → p u0 S V → j_Ri n_KT 1 C G b_13_53 mc ms (q u0 S V) → j_ok n_KT 1 C G 0 [(0, (2, u0))] [] S V 0 0) : M13_53 l mc ms p q := by
  refine j_method (ws' := n_GW) (by decide) rfl ?_ ?_
  · rintro a S V ⟨u0, rfl, -⟩
    exact Nat.le_of_ble_eq_true rfl
  · rintro C G htl hl hrm hm hml ho hts hnm hE a S V ⟨u0, rfl, ht, hp⟩ R
    exact body C G ⟨htl, hm, hml, ho, fun w hw => hts w (List.mem_cons_of_mem _ hw), hE⟩ (by rw [hrm]; exact ⟨rfl, rfl⟩) (by rw [hrm]; exact ⟨rfl, rfl⟩) hl hnm u0 S V ht hp (fun pc lo r S' V' nc ns d q hc hs => R.2.1 rfl pc lo r S' V' nc ns d ⟨u0, r, rfl, rfl, q⟩ hc hs)
theorem d13_53_0 : decode b_13_53 0 = .ok (.aload_n 0, 1) := by decide +kernel
theorem d13_53_1 : decode b_13_53 1 = .ok (.getfield 275, 3) := by decide +kernel
theorem d13_53_4 : decode b_13_53 4 = .ok (.ifCond .ne 10, 3) := by decide +kernel
theorem d13_53_7 : decode b_13_53 7 = .ok (.aload_n 0, 1) := by decide +kernel
theorem d13_53_8 : decode b_13_53 8 = .ok (.bipush (-6), 2) := by decide +kernel
theorem d13_53_10 : decode b_13_53 10 = .ok (.invokevirtual 82, 3) := by decide +kernel
theorem d13_53_13 : decode b_13_53 13 = .ok (.ireturn, 1) := by decide +kernel
theorem d13_53_14 : decode b_13_53 14 = .ok (.aload_n 0, 1) := by decide +kernel
theorem d13_53_15 : decode b_13_53 15 = .ok (.getfield 10, 3) := by decide +kernel
theorem d13_53_18 : decode b_13_53 18 = .ok (.aload_n 0, 1) := by decide +kernel
theorem d13_53_19 : decode b_13_53 19 = .ok (.getfield 16, 3) := by decide +kernel
theorem d13_53_22 : decode b_13_53 22 = .ok (.invokevirtual 271, 3) := by decide +kernel
theorem d13_53_25 : decode b_13_53 25 = .ok (.iconst 1, 1) := by decide +kernel
theorem d13_53_26 : decode b_13_53 26 = .ok (.ireturn, 1) := by decide +kernel
theorem K13_53_10 {C : qCx} {G : jG} {mc ms : Nat} {p : Int → Int → jS → jH → Prop} {q : Int → Int → jS → jH → Int → jS → jH → Prop} (h : x13_53 C G) (hrm : C.2.2.2.1.frames = 3 ∧ C.2.2.2.1.locals = 70) (hM : M13_2 C.2.1 mc ms p q) : j_Call C b_13_53 n_KT G.1 G.2.1 1 (.invokevirtual 82) mc ms (fun a S V => ∃ u0 u1 : Int, a = [(2, u0), (0, u1)] ∧ S.1 u0 = 33 ∧ p u0 u1 S V) (fun a S V rs S' V' => ∃ u0 u1 r : Int, a = [(2, u0), (0, u1)] ∧ rs = [(0, r)] ∧ q u0 u1 S V r S' V') := j_callV n_NWk h.2.2.2.2.2 h.1 hM ⟨h.2.1.1, h.2.1.2, h.2.2.1, h.2.2.2.1, h.2.2.2.2.1⟩ ⟨n_CB (y := y_13_2) (bytes := b_13_2) 1 h.2.2.2.2.1 n_w928 n_w925 n_w12 ⟨by decide, by decide, by decide +kernel⟩ rfl rfl ⟨by rw [hrm.1]; exact Nat.le_of_ble_eq_true rfl, by rw [hrm.2]; exact Nat.le_of_ble_eq_true rfl⟩, h.2.2.2.2.1 _ n_w927, h.2.2.2.2.1 _ n_s27⟩ (Cn := RX12) (fun a S V hP => by obtain ⟨u0, u1, rfl, e, -⟩ := hP; exact ⟨u0, _, 12, _, _, TX12, 31, rfl, rfl, by rw [e]; decide, by rw [e]; rfl, rfl⟩)
theorem K13_53_22 {C : qCx} {G : jG} {mc ms : Nat} {p : Int → Int → jS → jH → Prop} {q : Int → Int → jS → jH → jS → jH → Prop} (h : x13_53 C G) (hrm : C.2.2.2.1.frames = 3 ∧ C.2.2.2.1.locals = 70) (hM : M14_2 C.2.1 mc ms p q) : j_Call C b_13_53 n_KT G.1 G.2.1 1 (.invokevirtual 271) mc ms (fun a S V => ∃ u0 u1 : Int, a = [(2, u0), (2, u1)] ∧ S.1 u0 = 32 ∧ p u0 u1 S V) (fun a S V rs S' V' => ∃ u0 u1 : Int, a = [(2, u0), (2, u1)] ∧ rs = [] ∧ q u0 u1 S V S' V') := j_callV n_NWk h.2.2.2.2.2 h.1 hM ⟨h.2.1.1, h.2.1.2, h.2.2.1, h.2.2.2.1, h.2.2.2.2.1⟩ ⟨n_CB (y := y_14_2) (bytes := b_14_2) 1 h.2.2.2.2.1 n_w1128 n_w1125 n_w13 ⟨by decide, by decide, by decide +kernel⟩ rfl rfl ⟨by rw [hrm.1]; exact Nat.le_of_ble_eq_true rfl, by rw [hrm.2]; exact Nat.le_of_ble_eq_true rfl⟩, h.2.2.2.2.1 _ n_w1126, h.2.2.2.2.1 _ n_w1127⟩ (Cn := RX11) (fun a S V hP => by obtain ⟨u0, u1, rfl, e, -⟩ := hP; exact ⟨u0, _, 11, _, _, TX11, 14, rfl, rfl, by rw [e]; decide, by rw [e]; rfl, rfl⟩)
theorem t13_53_0 {C : qCx} {G : jG} {S : jS} {V : jH} {nc ns : Nat} {l0 : Int} (h : x13_53 C G) (c1 : S.1 l0 = 33) (k : ¬ V l0 2 = 0 → j_ok n_KT 1 C G 14 [(0, (2, l0))] [] S V nc ns) (k' : V l0 2 = 0 → j_ok n_KT 1 C G 7 [(0, (2, l0))] [] S V nc ns) : j_ok n_KT 1 C G 0 [(0, (2, l0))] [] S V nc ns := by
  have E := n_E h
  refine j_aload_n E d13_53_0 rfl 0 rfl ?_
  refine j_getI (f := 2) (fg12_275 h) d13_53_1 c1 (by decide) rfl rfl ?_
  exact j_if_ne E d13_53_4 (t := 14) rfl (fun q => j_pick [0] rfl (k q)) (fun q => j_pick [0] rfl (k' q))
theorem t13_53_7 {C : qCx} {G : jG} {S : jS} {V : jH} {nc ns : Nat} {l0 : Int} {mc ms : Nat} {pp : Int → Int → jS → jH → Prop} {qq : Int → Int → jS → jH → Int → jS → jH → Prop} (h : x13_53 C G) (hrm : C.2.2.2.1.frames = 3 ∧ C.2.2.2.1.locals = 70) (c1 : S.1 l0 = 33) (hM : M13_2 C.2.1 mc ms pp qq) (hp : pp l0 ((-6)) S V) (hc : nc + mc ≤ C.2.2.2.1.cells) (hs : ns + ms ≤ C.2.2.2.1.slots) (k : ∀ (r : Int) (S' : jS) (V' : jH), qq l0 ((-6)) S V r S' V' → j_ok n_KT 1 C G 13 [] [(0, r)] S' V' (nc + mc) (ns + ms)) : j_ok n_KT 1 C G 7 [(0, (2, l0))] [] S V nc ns := by
  have E := n_E h
  refine j_aload_n E d13_53_7 rfl 0 rfl ?_
  refine j_bipush E d13_53_8 (by decide) ?_
  refine j_call E (K13_53_10 h hrm hM) d13_53_10 (a := [(2, l0), (0, (-6))]) (sk := []) rfl ⟨l0, (-6), rfl, c1, hp⟩ (Nat.le_of_ble_eq_true rfl) hc hs ?_
  rintro rs S' V' ⟨z0, z1, r, e1, rfl, q⟩
  simp only [List.cons.injEq, Prod.mk.injEq, and_true, true_and] at e1
  obtain ⟨rfl, rfl⟩ := e1
  exact j_pick [] rfl (k r S' V' q)
theorem t13_53_13 {C : qCx} {G : jG} {S : jS} {V : jH} {nc ns : Nat} {s0 : Int} {mc ms : Nat} {qf : Int → jS → jH → Prop} (h : x13_53 C G)  (R : j_Ri n_KT 1 C G b_13_53 mc ms qf) (q : qf s0 S V) (hc : nc ≤ mc) (hs : ns ≤ ms) : j_ok n_KT 1 C G 13 [] [(0, s0)] S V nc ns := by
  have E := n_E h
  exact R _ _ _ _ _ _ _ d13_53_13 q hc hs
theorem t13_53_14 {C : qCx} {G : jG} {S : jS} {V : jH} {nc ns : Nat} {l0 : Int} {mc ms : Nat} {pp : Int → Int → jS → jH → Prop} {qq : Int → Int → jS → jH → jS → jH → Prop} (h : x13_53 C G) (L : j_L S) (hrm : C.2.2.2.1.frames = 3 ∧ C.2.2.2.1.locals = 70) (c1 : S.1 l0 = 33) (hM : M14_2 C.2.1 mc ms pp qq) (hp : pp (l0 + 1) (l0 + 9) S V) (hc : nc + mc ≤ C.2.2.2.1.cells) (hs : ns + ms ≤ C.2.2.2.1.slots) (k : ∀ (S' : jS) (V' : jH), qq (l0 + 1) (l0 + 9) S V S' V' → j_ok n_KT 1 C G 25 [] [] S' V' (nc + mc) (ns + ms)) : j_ok n_KT 1 C G 14 [(0, (2, l0))] [] S V nc ns := by
  have E := n_E h
  refine j_aload_n E d13_53_14 rfl 0 rfl ?_
  refine j_getS (f := 0) (x := l0 + 1) (fg12_10 h) d13_53_15 c1 (by decide) rfl rfl ((L12_0 L c1).trans (by omega)) ?_
  refine j_aload_n E d13_53_18 rfl 0 rfl ?_
  refine j_getS (f := 1) (x := l0 + 9) (fg12_16 h) d13_53_19 c1 (by decide) rfl rfl ((L12_1 L c1).trans (by omega)) ?_
  refine j_call E (K13_53_22 h hrm hM) d13_53_22 (a := [(2, l0 + 1), (2, l0 + 9)]) (sk := []) rfl ⟨l0 + 1, l0 + 9, rfl, (show S.1 (l0 + 1) = 32 from (by have q := L12_0k L c1; rw [show l0 + 1 = l0 + 1 by omega]; exact q)), hp⟩ (Nat.le_of_ble_eq_true rfl) hc hs ?_
  rintro rs S' V' ⟨z0, z1, e1, rfl, q⟩
  simp only [List.cons.injEq, Prod.mk.injEq, and_true, true_and] at e1
  obtain ⟨rfl, rfl⟩ := e1
  exact j_pick [] rfl (k S' V' q)
theorem t13_53_25 {C : qCx} {G : jG} {S : jS} {V : jH} {nc ns : Nat} {mc ms : Nat} {qf : Int → jS → jH → Prop} (h : x13_53 C G)  (R : j_Ri n_KT 1 C G b_13_53 mc ms qf) (q : qf 1 S V) (hc : nc ≤ mc) (hs : ns ≤ ms) : j_ok n_KT 1 C G 25 [] [] S V nc ns := by
  have E := n_E h
  refine j_iconst E d13_53_25 (by decide) ?_
  exact R _ _ _ _ _ _ _ d13_53_26 q hc hs
/- BalanceCoderModel.told(I)I -/
abbrev b_13_54 : ByteArray := prog_13_method_54_code
def y_13_54 : MethodName := ⟨"BalanceCoderModel", "told", "(I)I"⟩
abbrev x13_54 (C : qCx) (G : jG) : Prop := n_ctx C b_13_54 2 "BalanceCoderModel" G.1 G.2.1
def M13_54 (l : Launch) (mc ms : Nat) (p : Int → Int → jS → jH → Prop) (q : Int → Int → jS → jH → Int → jS → jH → Prop) : Prop := j_Met l vwCl n_TL n_NW n_KT y_13_54 (Cond.code y_13_54 b_13_54 2 (some .int) :: n_GW) { frames := 2, cells := mc, slots := ms, locals := 47 } mc ms (fun a S V => ∃ u0 u1 : Int, a = [(2, u0), (0, u1)] ∧ S.1 u0 = 33 ∧ p u0 u1 S V) (fun a S V rs S' V' => ∃ u0 u1 r : Int, a = [(2, u0), (0, u1)] ∧ rs = [(0, r)] ∧ q u0 u1 S V r S' V')
theorem e13_54 {l : Launch} {mc ms : Nat} {p : Int → Int → jS → jH → Prop} {q : Int → Int → jS → jH → Int → jS → jH → Prop} (body : ∀ (C : qCx) (G : jG), x13_54 C G → C.2.2.2.1.frames = 2 ∧ C.2.2.2.1.locals = 47 → C.2.2.2.1.cells = mc ∧ C.2.2.2.1.slots = ms → C.2.1 = l → C.2.2.2.2.2.2.2.2.1.name = "told" → ∀ (u0 u1 : Int) (S : jS) (V : jH), S.1 u0 = 33 → p u0 u1 S V → j_Ri n_KT 2 C G b_13_54 mc ms (q u0 u1 S V) → j_ok n_KT 2 C G 0 [(0, (2, u0)), (1, (0, u1))] [] S V 0 0) : M13_54 l mc ms p q := by
  refine j_method (ws' := n_GW) (by decide) rfl ?_ ?_
  · rintro a S V ⟨u0, u1, rfl, -⟩
    exact Nat.le_of_ble_eq_true rfl
  · rintro C G htl hl hrm hm hml ho hts hnm hE a S V ⟨u0, u1, rfl, ht, hp⟩ R
    exact body C G ⟨htl, hm, hml, ho, fun w hw => hts w (List.mem_cons_of_mem _ hw), hE⟩ (by rw [hrm]; exact ⟨rfl, rfl⟩) (by rw [hrm]; exact ⟨rfl, rfl⟩) hl hnm u0 u1 S V ht hp (fun pc lo r S' V' nc ns d q hc hs => R.2.1 rfl pc lo r S' V' nc ns d ⟨u0, u1, r, rfl, rfl, q⟩ hc hs)
theorem d13_54_0 : decode b_13_54 0 = .ok (.iload_n 1, 1) := by decide +kernel
theorem d13_54_1 : decode b_13_54 1 = .ok (.tableswitch 101 0 6 #[43, 51, 59, 67, 83, 91, 96], 43) := by decide +kernel
theorem d13_54_44 : decode b_13_54 44 = .ok (.aload_n 0, 1) := by decide +kernel
theorem d13_54_45 : decode b_13_54 45 = .ok (.getfield 10, 3) := by decide +kernel
theorem d13_54_48 : decode b_13_54 48 = .ok (.getfield 146, 3) := by decide +kernel
theorem d13_54_51 : decode b_13_54 51 = .ok (.ireturn, 1) := by decide +kernel
theorem d13_54_52 : decode b_13_54 52 = .ok (.aload_n 0, 1) := by decide +kernel
theorem d13_54_53 : decode b_13_54 53 = .ok (.getfield 10, 3) := by decide +kernel
theorem d13_54_56 : decode b_13_54 56 = .ok (.getfield 265, 3) := by decide +kernel
theorem d13_54_59 : decode b_13_54 59 = .ok (.ireturn, 1) := by decide +kernel
theorem d13_54_60 : decode b_13_54 60 = .ok (.aload_n 0, 1) := by decide +kernel
theorem d13_54_61 : decode b_13_54 61 = .ok (.getfield 10, 3) := by decide +kernel
theorem d13_54_64 : decode b_13_54 64 = .ok (.getfield 73, 3) := by decide +kernel
theorem d13_54_67 : decode b_13_54 67 = .ok (.ireturn, 1) := by decide +kernel
theorem d13_54_68 : decode b_13_54 68 = .ok (.aload_n 0, 1) := by decide +kernel
theorem d13_54_69 : decode b_13_54 69 = .ok (.getfield 10, 3) := by decide +kernel
theorem d13_54_72 : decode b_13_54 72 = .ok (.getfield 200, 3) := by decide +kernel
theorem d13_54_75 : decode b_13_54 75 = .ok (.ifCond .eq 7, 3) := by decide +kernel
theorem d13_54_78 : decode b_13_54 78 = .ok (.iconst 1, 1) := by decide +kernel
theorem d13_54_79 : decode b_13_54 79 = .ok (.goto 4, 3) := by decide +kernel
theorem d13_54_82 : decode b_13_54 82 = .ok (.iconst 0, 1) := by decide +kernel
theorem d13_54_83 : decode b_13_54 83 = .ok (.ireturn, 1) := by decide +kernel
theorem d13_54_84 : decode b_13_54 84 = .ok (.aload_n 0, 1) := by decide +kernel
theorem d13_54_85 : decode b_13_54 85 = .ok (.getfield 10, 3) := by decide +kernel
theorem d13_54_88 : decode b_13_54 88 = .ok (.getfield 204, 3) := by decide +kernel
theorem d13_54_91 : decode b_13_54 91 = .ok (.ireturn, 1) := by decide +kernel
theorem d13_54_92 : decode b_13_54 92 = .ok (.aload_n 0, 1) := by decide +kernel
theorem d13_54_93 : decode b_13_54 93 = .ok (.getfield 268, 3) := by decide +kernel
theorem d13_54_96 : decode b_13_54 96 = .ok (.ireturn, 1) := by decide +kernel
theorem d13_54_97 : decode b_13_54 97 = .ok (.aload_n 0, 1) := by decide +kernel
theorem d13_54_98 : decode b_13_54 98 = .ok (.getfield 63, 3) := by decide +kernel
theorem d13_54_101 : decode b_13_54 101 = .ok (.ireturn, 1) := by decide +kernel
theorem d13_54_102 : decode b_13_54 102 = .ok (.aload_n 0, 1) := by decide +kernel
theorem d13_54_103 : decode b_13_54 103 = .ok (.iconst (-1), 1) := by decide +kernel
theorem d13_54_104 : decode b_13_54 104 = .ok (.invokevirtual 82, 3) := by decide +kernel
theorem d13_54_107 : decode b_13_54 107 = .ok (.ireturn, 1) := by decide +kernel
theorem K13_54_104 {C : qCx} {G : jG} {mc ms : Nat} {p : Int → Int → jS → jH → Prop} {q : Int → Int → jS → jH → Int → jS → jH → Prop} (h : x13_54 C G) (hrm : C.2.2.2.1.frames = 2 ∧ C.2.2.2.1.locals = 47) (hM : M13_2 C.2.1 mc ms p q) : j_Call C b_13_54 n_KT G.1 G.2.1 2 (.invokevirtual 82) mc ms (fun a S V => ∃ u0 u1 : Int, a = [(2, u0), (0, u1)] ∧ S.1 u0 = 33 ∧ p u0 u1 S V) (fun a S V rs S' V' => ∃ u0 u1 r : Int, a = [(2, u0), (0, u1)] ∧ rs = [(0, r)] ∧ q u0 u1 S V r S' V') := j_callV n_NWk h.2.2.2.2.2 h.1 hM ⟨h.2.1.1, h.2.1.2, h.2.2.1, h.2.2.2.1, h.2.2.2.2.1⟩ ⟨n_CB (y := y_13_2) (bytes := b_13_2) 1 h.2.2.2.2.1 n_w928 n_w925 n_w12 ⟨by decide, by decide, by decide +kernel⟩ rfl rfl ⟨by rw [hrm.1]; exact Nat.le_of_ble_eq_true rfl, by rw [hrm.2]; exact Nat.le_of_ble_eq_true rfl⟩, h.2.2.2.2.1 _ n_w927, h.2.2.2.2.1 _ n_s27⟩ (Cn := RX12) (fun a S V hP => by obtain ⟨u0, u1, rfl, e, -⟩ := hP; exact ⟨u0, _, 12, _, _, TX12, 31, rfl, rfl, by rw [e]; decide, by rw [e]; rfl, rfl⟩)
theorem t13_54_0 {C : qCx} {G : jG} {S : jS} {V : jH} {nc ns : Nat} {l0 l1 : Int} (h : x13_54 C G)  (k : l1 < 0 ∨ 6 < l1 → j_ok n_KT 2 C G 102 [(0, (2, l0))] [] S V nc ns) (k0 : l1 = 0 → j_ok n_KT 2 C G 44 [(0, (2, l0))] [] S V nc ns) (k1 : l1 = 1 → j_ok n_KT 2 C G 52 [(0, (2, l0))] [] S V nc ns) (k2 : l1 = 2 → j_ok n_KT 2 C G 60 [(0, (2, l0))] [] S V nc ns) (k3 : l1 = 3 → j_ok n_KT 2 C G 68 [(0, (2, l0))] [] S V nc ns) (k4 : l1 = 4 → j_ok n_KT 2 C G 84 [(0, (2, l0))] [] S V nc ns) (k5 : l1 = 5 → j_ok n_KT 2 C G 92 [(0, (2, l0))] [] S V nc ns) (k6 : l1 = 6 → j_ok n_KT 2 C G 97 [(0, (2, l0))] [] S V nc ns) : j_ok n_KT 2 C G 0 [(0, (2, l0)), (1, (0, l1))] [] S V nc ns := by
  have E := n_E h
  refine j_iload_n E d13_54_0 rfl 1 rfl ?_
  by_cases q : l1 < 0 ∨ 6 < l1
  · exact j_tableOut E d13_54_1 q (t := 102) rfl (j_pick [0] rfl (k q))
  by_cases q0 : l1 = 0
  · exact j_tableIn E d13_54_1 (off := 43) (by omega) (by omega) (by rw [q0]; rfl) (t := 44) rfl (j_pick [0] rfl (k0 q0))
  by_cases q1 : l1 = 1
  · exact j_tableIn E d13_54_1 (off := 51) (by omega) (by omega) (by rw [q1]; rfl) (t := 52) rfl (j_pick [0] rfl (k1 q1))
  by_cases q2 : l1 = 2
  · exact j_tableIn E d13_54_1 (off := 59) (by omega) (by omega) (by rw [q2]; rfl) (t := 60) rfl (j_pick [0] rfl (k2 q2))
  by_cases q3 : l1 = 3
  · exact j_tableIn E d13_54_1 (off := 67) (by omega) (by omega) (by rw [q3]; rfl) (t := 68) rfl (j_pick [0] rfl (k3 q3))
  by_cases q4 : l1 = 4
  · exact j_tableIn E d13_54_1 (off := 83) (by omega) (by omega) (by rw [q4]; rfl) (t := 84) rfl (j_pick [0] rfl (k4 q4))
  by_cases q5 : l1 = 5
  · exact j_tableIn E d13_54_1 (off := 91) (by omega) (by omega) (by rw [q5]; rfl) (t := 92) rfl (j_pick [0] rfl (k5 q5))
  have q6 : l1 = 6 := by omega
  exact j_tableIn E d13_54_1 (off := 96) (by omega) (by omega) (by rw [q6]; rfl) (t := 97) rfl (j_pick [0] rfl (k6 q6))
theorem t13_54_44 {C : qCx} {G : jG} {S : jS} {V : jH} {nc ns : Nat} {l0 : Int} {mc ms : Nat} {qf : Int → jS → jH → Prop} (h : x13_54 C G) (L : j_L S) (c1 : S.1 l0 = 33) (R : j_Ri n_KT 2 C G b_13_54 mc ms qf) (q : qf (V (l0 + 1) 12) S V) (hc : nc ≤ mc) (hs : ns ≤ ms) : j_ok n_KT 2 C G 44 [(0, (2, l0))] [] S V nc ns := by
  have E := n_E h
  refine j_aload_n E d13_54_44 rfl 0 rfl ?_
  refine j_getS (f := 0) (x := l0 + 1) (fg12_10 h) d13_54_45 c1 (by decide) rfl rfl ((L12_0 L c1).trans (by omega)) ?_
  refine j_getI (f := 12) (fg12_146 h) d13_54_48 (show S.1 (l0 + 1) = 32 from (by have q := L12_0k L c1; rw [show l0 + 1 = l0 + 1 by omega]; exact q)) (by decide) rfl rfl ?_
  exact R _ _ _ _ _ _ _ d13_54_51 q hc hs
theorem t13_54_52 {C : qCx} {G : jG} {S : jS} {V : jH} {nc ns : Nat} {l0 : Int} {mc ms : Nat} {qf : Int → jS → jH → Prop} (h : x13_54 C G) (L : j_L S) (c1 : S.1 l0 = 33) (R : j_Ri n_KT 2 C G b_13_54 mc ms qf) (q : qf (V (l0 + 1) 13) S V) (hc : nc ≤ mc) (hs : ns ≤ ms) : j_ok n_KT 2 C G 52 [(0, (2, l0))] [] S V nc ns := by
  have E := n_E h
  refine j_aload_n E d13_54_52 rfl 0 rfl ?_
  refine j_getS (f := 0) (x := l0 + 1) (fg12_10 h) d13_54_53 c1 (by decide) rfl rfl ((L12_0 L c1).trans (by omega)) ?_
  refine j_getI (f := 13) (fg12_265 h) d13_54_56 (show S.1 (l0 + 1) = 32 from (by have q := L12_0k L c1; rw [show l0 + 1 = l0 + 1 by omega]; exact q)) (by decide) rfl rfl ?_
  exact R _ _ _ _ _ _ _ d13_54_59 q hc hs
theorem t13_54_60 {C : qCx} {G : jG} {S : jS} {V : jH} {nc ns : Nat} {l0 : Int} {mc ms : Nat} {qf : Int → jS → jH → Prop} (h : x13_54 C G) (L : j_L S) (c1 : S.1 l0 = 33) (R : j_Ri n_KT 2 C G b_13_54 mc ms qf) (q : qf (V (l0 + 1) 2) S V) (hc : nc ≤ mc) (hs : ns ≤ ms) : j_ok n_KT 2 C G 60 [(0, (2, l0))] [] S V nc ns := by
  have E := n_E h
  refine j_aload_n E d13_54_60 rfl 0 rfl ?_
  refine j_getS (f := 0) (x := l0 + 1) (fg12_10 h) d13_54_61 c1 (by decide) rfl rfl ((L12_0 L c1).trans (by omega)) ?_
  refine j_getI (f := 2) (fg12_73 h) d13_54_64 (show S.1 (l0 + 1) = 32 from (by have q := L12_0k L c1; rw [show l0 + 1 = l0 + 1 by omega]; exact q)) (by decide) rfl rfl ?_
  exact R _ _ _ _ _ _ _ d13_54_67 q hc hs
theorem t13_54_68 {C : qCx} {G : jG} {S : jS} {V : jH} {nc ns : Nat} {l0 : Int} (h : x13_54 C G) (L : j_L S) (c1 : S.1 l0 = 33) (k : V (l0 + 1) 9 = 0 → j_ok n_KT 2 C G 82 [] [] S V nc ns) (k' : ¬ V (l0 + 1) 9 = 0 → j_ok n_KT 2 C G 78 [] [] S V nc ns) : j_ok n_KT 2 C G 68 [(0, (2, l0))] [] S V nc ns := by
  have E := n_E h
  refine j_aload_n E d13_54_68 rfl 0 rfl ?_
  refine j_getS (f := 0) (x := l0 + 1) (fg12_10 h) d13_54_69 c1 (by decide) rfl rfl ((L12_0 L c1).trans (by omega)) ?_
  refine j_getI (f := 9) (fg12_200 h) d13_54_72 (show S.1 (l0 + 1) = 32 from (by have q := L12_0k L c1; rw [show l0 + 1 = l0 + 1 by omega]; exact q)) (by decide) rfl rfl ?_
  exact j_if_eq E d13_54_75 (t := 82) rfl (fun q => j_pick [] rfl (k q)) (fun q => j_pick [] rfl (k' q))
theorem t13_54_78 {C : qCx} {G : jG} {S : jS} {V : jH} {nc ns : Nat} (h : x13_54 C G)  (k : j_ok n_KT 2 C G 83 [] [(0, 1)] S V nc ns) : j_ok n_KT 2 C G 78 [] [] S V nc ns := by
  have E := n_E h
  refine j_iconst E d13_54_78 (by decide) ?_
  refine j_goto E d13_54_79 (t := 83) rfl ?_
  exact j_pick [] rfl k
theorem t13_54_82 {C : qCx} {G : jG} {S : jS} {V : jH} {nc ns : Nat} (h : x13_54 C G)  (k : j_ok n_KT 2 C G 83 [] [(0, 0)] S V nc ns) : j_ok n_KT 2 C G 82 [] [] S V nc ns := by
  have E := n_E h
  refine j_iconst E d13_54_82 (by decide) ?_
  exact j_pick [] rfl k
theorem t13_54_83 {C : qCx} {G : jG} {S : jS} {V : jH} {nc ns : Nat} {s0 : Int} {mc ms : Nat} {qf : Int → jS → jH → Prop} (h : x13_54 C G)  (R : j_Ri n_KT 2 C G b_13_54 mc ms qf) (q : qf s0 S V) (hc : nc ≤ mc) (hs : ns ≤ ms) : j_ok n_KT 2 C G 83 [] [(0, s0)] S V nc ns := by
  have E := n_E h
  exact R _ _ _ _ _ _ _ d13_54_83 q hc hs
theorem t13_54_84 {C : qCx} {G : jG} {S : jS} {V : jH} {nc ns : Nat} {l0 : Int} {mc ms : Nat} {qf : Int → jS → jH → Prop} (h : x13_54 C G) (L : j_L S) (c1 : S.1 l0 = 33) (R : j_Ri n_KT 2 C G b_13_54 mc ms qf) (q : qf (V (l0 + 1) 10) S V) (hc : nc ≤ mc) (hs : ns ≤ ms) : j_ok n_KT 2 C G 84 [(0, (2, l0))] [] S V nc ns := by
  have E := n_E h
  refine j_aload_n E d13_54_84 rfl 0 rfl ?_
  refine j_getS (f := 0) (x := l0 + 1) (fg12_10 h) d13_54_85 c1 (by decide) rfl rfl ((L12_0 L c1).trans (by omega)) ?_
  refine j_getI (f := 10) (fg12_204 h) d13_54_88 (show S.1 (l0 + 1) = 32 from (by have q := L12_0k L c1; rw [show l0 + 1 = l0 + 1 by omega]; exact q)) (by decide) rfl rfl ?_
  exact R _ _ _ _ _ _ _ d13_54_91 q hc hs
theorem t13_54_92 {C : qCx} {G : jG} {S : jS} {V : jH} {nc ns : Nat} {l0 : Int} {mc ms : Nat} {qf : Int → jS → jH → Prop} (h : x13_54 C G) (c1 : S.1 l0 = 33) (R : j_Ri n_KT 2 C G b_13_54 mc ms qf) (q : qf (V l0 4) S V) (hc : nc ≤ mc) (hs : ns ≤ ms) : j_ok n_KT 2 C G 92 [(0, (2, l0))] [] S V nc ns := by
  have E := n_E h
  refine j_aload_n E d13_54_92 rfl 0 rfl ?_
  refine j_getI (f := 4) (fg12_268 h) d13_54_93 c1 (by decide) rfl rfl ?_
  exact R _ _ _ _ _ _ _ d13_54_96 q hc hs
theorem t13_54_97 {C : qCx} {G : jG} {S : jS} {V : jH} {nc ns : Nat} {l0 : Int} {mc ms : Nat} {qf : Int → jS → jH → Prop} (h : x13_54 C G) (c1 : S.1 l0 = 33) (R : j_Ri n_KT 2 C G b_13_54 mc ms qf) (q : qf (V l0 3) S V) (hc : nc ≤ mc) (hs : ns ≤ ms) : j_ok n_KT 2 C G 97 [(0, (2, l0))] [] S V nc ns := by
  have E := n_E h
  refine j_aload_n E d13_54_97 rfl 0 rfl ?_
  refine j_getI (f := 3) (fg12_63 h) d13_54_98 c1 (by decide) rfl rfl ?_
  exact R _ _ _ _ _ _ _ d13_54_101 q hc hs
theorem t13_54_102 {C : qCx} {G : jG} {S : jS} {V : jH} {nc ns : Nat} {l0 : Int} {mc ms : Nat} {pp : Int → Int → jS → jH → Prop} {qq : Int → Int → jS → jH → Int → jS → jH → Prop} (h : x13_54 C G) (hrm : C.2.2.2.1.frames = 2 ∧ C.2.2.2.1.locals = 47) (c1 : S.1 l0 = 33) (hM : M13_2 C.2.1 mc ms pp qq) (hp : pp l0 ((-1)) S V) (hc : nc + mc ≤ C.2.2.2.1.cells) (hs : ns + ms ≤ C.2.2.2.1.slots) (k : ∀ (r : Int) (S' : jS) (V' : jH), qq l0 ((-1)) S V r S' V' → j_ok n_KT 2 C G 107 [] [(0, r)] S' V' (nc + mc) (ns + ms)) : j_ok n_KT 2 C G 102 [(0, (2, l0))] [] S V nc ns := by
  have E := n_E h
  refine j_aload_n E d13_54_102 rfl 0 rfl ?_
  refine j_iconst E d13_54_103 (by decide) ?_
  refine j_call E (K13_54_104 h hrm hM) d13_54_104 (a := [(2, l0), (0, (-1))]) (sk := []) rfl ⟨l0, (-1), rfl, c1, hp⟩ (Nat.le_of_ble_eq_true rfl) hc hs ?_
  rintro rs S' V' ⟨z0, z1, r, e1, rfl, q⟩
  simp only [List.cons.injEq, Prod.mk.injEq, and_true, true_and] at e1
  obtain ⟨rfl, rfl⟩ := e1
  exact j_pick [] rfl (k r S' V' q)
theorem t13_54_107 {C : qCx} {G : jG} {S : jS} {V : jH} {nc ns : Nat} {s0 : Int} {mc ms : Nat} {qf : Int → jS → jH → Prop} (h : x13_54 C G)  (R : j_Ri n_KT 2 C G b_13_54 mc ms qf) (q : qf s0 S V) (hc : nc ≤ mc) (hs : ns ≤ ms) : j_ok n_KT 2 C G 107 [] [(0, s0)] S V nc ns := by
  have E := n_E h
  exact R _ _ _ _ _ _ _ d13_54_107 q hc hs
