/- BalanceCoderModel.packBy(III)I -/
abbrev b_13_30 : ByteArray := prog_13_method_30_code
def y_13_30 : MethodName := ⟨"BalanceCoderModel", "packBy", "(III)I"⟩
abbrev x13_30 (C : qCx) (G : jG) : Prop := n_ctx C b_13_30 5 "BalanceCoderModel" G.1 G.2.1
def M13_30 (l : Launch) (mc ms : Nat) (p : Int → Int → Int → Int → jS → jH → Prop) (q : Int → Int → Int → Int → jS → jH → Int → jS → jH → Prop) : Prop := j_Met l vwCl n_TL n_NW n_KT y_13_30 (Cond.code y_13_30 b_13_30 5 (some .int) :: n_GW) { frames := 4, cells := mc, slots := ms, locals := 100 } mc ms (fun a S V => ∃ u0 u1 u2 u3 : Int, a = [(2, u0), (0, u1), (0, u2), (0, u3)] ∧ S.1 u0 = 33 ∧ p u0 u1 u2 u3 S V) (fun a S V rs S' V' => ∃ u0 u1 u2 u3 r : Int, a = [(2, u0), (0, u1), (0, u2), (0, u3)] ∧ rs = [(0, r)] ∧ q u0 u1 u2 u3 S V r S' V')
theorem e13_30 {l : Launch} {mc ms : Nat} {p : Int → Int → Int → Int → jS → jH → Prop} {q : Int → Int → Int → Int → jS → jH → Int → jS → jH → Prop} (body : ∀ (C : qCx) (G : jG), x13_30 C G → C.2.2.2.1.frames = 4 ∧ C.2.2.2.1.locals = 100 → C.2.2.2.1.cells = mc ∧ C.2.2.2.1.slots = ms → C.2.1 = l → C.2.2.2.2.2.2.2.2.1.name = "packBy" → ∀ (u0 u1 u2 u3 : Int) (S : jS) (V : jH), S.1 u0 = 33 → p u0 u1 u2 u3 S V → j_Ri n_KT 5 C G b_13_30 mc ms (q u0 u1 u2 u3 S V) → j_ok n_KT 5 C G 0 [(0, (2, u0)), (1, (0, u1)), (2, (0, u2)), (3, (0, u3))] [] S V 0 0) : M13_30 l mc ms p q := by
  refine j_method (ws' := n_GW) (by decide) rfl ?_ ?_
  · rintro a S V ⟨u0, u1, u2, u3, rfl, -⟩
    exact Nat.le_of_ble_eq_true rfl
  · rintro C G htl hl hrm hm hml ho hts hnm hE a S V ⟨u0, u1, u2, u3, rfl, ht, hp⟩ R
    exact body C G ⟨htl, hm, hml, ho, fun w hw => hts w (List.mem_cons_of_mem _ hw), hE⟩ (by rw [hrm]; exact ⟨rfl, rfl⟩) (by rw [hrm]; exact ⟨rfl, rfl⟩) hl hnm u0 u1 u2 u3 S V ht hp (fun pc lo r S' V' nc ns d q hc hs => R.2.1 rfl pc lo r S' V' nc ns d ⟨u0, u1, u2, u3, r, rfl, rfl, q⟩ hc hs)
theorem d13_30_0 : decode b_13_30 0 = .ok (.aload_n 0, 1) := by decide +kernel
theorem d13_30_1 : decode b_13_30 1 = .ok (.iload_n 1, 1) := by decide +kernel
theorem d13_30_2 : decode b_13_30 2 = .ok (.invokevirtual 117, 3) := by decide +kernel
theorem d13_30_5 : decode b_13_30 5 = .ok (.ifCond .eq 22, 3) := by decide +kernel
theorem d13_30_8 : decode b_13_30 8 = .ok (.iload_n 2, 1) := by decide +kernel
theorem d13_30_9 : decode b_13_30 9 = .ok (.invokestatic 76, 3) := by decide +kernel
theorem d13_30_12 : decode b_13_30 12 = .ok (.ifCond .eq 15, 3) := by decide +kernel
theorem d13_30_15 : decode b_13_30 15 = .ok (.iload_n 3, 1) := by decide +kernel
theorem d13_30_16 : decode b_13_30 16 = .ok (.i2l, 1) := by decide +kernel
theorem d13_30_17 : decode b_13_30 17 = .ok (.lconst 1, 1) := by decide +kernel
theorem d13_30_18 : decode b_13_30 18 = .ok (.ldc2_w 96, 3) := by decide +kernel
theorem d13_30_21 : decode b_13_30 21 = .ok (.invokestatic 69, 3) := by decide +kernel
theorem d13_30_24 : decode b_13_30 24 = .ok (.ifCond .ne 5, 3) := by decide +kernel
theorem d13_30_27 : decode b_13_30 27 = .ok (.iconst (-1), 1) := by decide +kernel
theorem d13_30_28 : decode b_13_30 28 = .ok (.ireturn, 1) := by decide +kernel
theorem d13_30_29 : decode b_13_30 29 = .ok (.aload_n 0, 1) := by decide +kernel
theorem d13_30_30 : decode b_13_30 30 = .ok (.iload_n 1, 1) := by decide +kernel
theorem d13_30_31 : decode b_13_30 31 = .ok (.invokevirtual 143, 3) := by decide +kernel
theorem d13_30_34 : decode b_13_30 34 = .ok (.ifCond .eq 6, 3) := by decide +kernel
theorem d13_30_37 : decode b_13_30 37 = .ok (.bipush (-4), 2) := by decide +kernel
theorem d13_30_39 : decode b_13_30 39 = .ok (.ireturn, 1) := by decide +kernel
theorem d13_30_40 : decode b_13_30 40 = .ok (.aload_n 0, 1) := by decide +kernel
theorem d13_30_41 : decode b_13_30 41 = .ok (.aload_n 0, 1) := by decide +kernel
theorem d13_30_42 : decode b_13_30 42 = .ok (.getfield 10, 3) := by decide +kernel
theorem d13_30_45 : decode b_13_30 45 = .ok (.getfield 100, 3) := by decide +kernel
theorem d13_30_48 : decode b_13_30 48 = .ok (.iload_n 1, 1) := by decide +kernel
theorem d13_30_49 : decode b_13_30 49 = .ok (.iaload, 1) := by decide +kernel
theorem d13_30_50 : decode b_13_30 50 = .ok (.putfield 149, 3) := by decide +kernel
theorem d13_30_53 : decode b_13_30 53 = .ok (.aload_n 0, 1) := by decide +kernel
theorem d13_30_54 : decode b_13_30 54 = .ok (.iconst 1, 1) := by decide +kernel
theorem d13_30_55 : decode b_13_30 55 = .ok (.aload_n 0, 1) := by decide +kernel
theorem d13_30_56 : decode b_13_30 56 = .ok (.getfield 10, 3) := by decide +kernel
theorem d13_30_59 : decode b_13_30 59 = .ok (.getfield 103, 3) := by decide +kernel
theorem d13_30_62 : decode b_13_30 62 = .ok (.iload_n 1, 1) := by decide +kernel
theorem d13_30_63 : decode b_13_30 63 = .ok (.iaload, 1) := by decide +kernel
theorem d13_30_64 : decode b_13_30 64 = .ok (.ishl, 1) := by decide +kernel
theorem d13_30_65 : decode b_13_30 65 = .ok (.putfield 171, 3) := by decide +kernel
theorem d13_30_68 : decode b_13_30 68 = .ok (.iconst 0, 1) := by decide +kernel
theorem d13_30_69 : decode b_13_30 69 = .ok (.istore 4, 2) := by decide +kernel
theorem d13_30_71 : decode b_13_30 71 = .ok (.iload 4, 2) := by decide +kernel
theorem d13_30_73 : decode b_13_30 73 = .ok (.sipush 1024, 3) := by decide +kernel
theorem d13_30_76 : decode b_13_30 76 = .ok (.if_icmp .ge 34, 3) := by decide +kernel
theorem d13_30_79 : decode b_13_30 79 = .ok (.aload_n 0, 1) := by decide +kernel
theorem d13_30_80 : decode b_13_30 80 = .ok (.getfield 32, 3) := by decide +kernel
theorem d13_30_83 : decode b_13_30 83 = .ok (.iload 4, 2) := by decide +kernel
theorem d13_30_85 : decode b_13_30 85 = .ok (.aload_n 0, 1) := by decide +kernel
theorem d13_30_86 : decode b_13_30 86 = .ok (.getfield 10, 3) := by decide +kernel
theorem d13_30_89 : decode b_13_30 89 = .ok (.getfield 110, 3) := by decide +kernel
theorem d13_30_92 : decode b_13_30 92 = .ok (.aload_n 0, 1) := by decide +kernel
theorem d13_30_93 : decode b_13_30 93 = .ok (.iload_n 1, 1) := by decide +kernel
theorem d13_30_94 : decode b_13_30 94 = .ok (.iconst 0, 1) := by decide +kernel
theorem d13_30_95 : decode b_13_30 95 = .ok (.iconst 0, 1) := by decide +kernel
theorem d13_30_96 : decode b_13_30 96 = .ok (.invokevirtual 113, 3) := by decide +kernel
theorem d13_30_99 : decode b_13_30 99 = .ok (.iload 4, 2) := by decide +kernel
theorem d13_30_101 : decode b_13_30 101 = .ok (.iadd, 1) := by decide +kernel
theorem d13_30_102 : decode b_13_30 102 = .ok (.iaload, 1) := by decide +kernel
theorem d13_30_103 : decode b_13_30 103 = .ok (.iastore, 1) := by decide +kernel
theorem d13_30_104 : decode b_13_30 104 = .ok (.iinc 4 1, 3) := by decide +kernel
theorem d13_30_107 : decode b_13_30 107 = .ok (.goto (-36), 3) := by decide +kernel
theorem d13_30_110 : decode b_13_30 110 = .ok (.aload_n 0, 1) := by decide +kernel
theorem d13_30_111 : decode b_13_30 111 = .ok (.iload_n 2, 1) := by decide +kernel
theorem d13_30_112 : decode b_13_30 112 = .ok (.aload_n 0, 1) := by decide +kernel
theorem d13_30_113 : decode b_13_30 113 = .ok (.getfield 10, 3) := by decide +kernel
theorem d13_30_116 : decode b_13_30 116 = .ok (.getfield 103, 3) := by decide +kernel
theorem d13_30_119 : decode b_13_30 119 = .ok (.iload_n 1, 1) := by decide +kernel
theorem d13_30_120 : decode b_13_30 120 = .ok (.iaload, 1) := by decide +kernel
theorem d13_30_121 : decode b_13_30 121 = .ok (.iload_n 3, 1) := by decide +kernel
theorem d13_30_122 : decode b_13_30 122 = .ok (.invokevirtual 191, 3) := by decide +kernel
theorem d13_30_125 : decode b_13_30 125 = .ok (.istore 4, 2) := by decide +kernel
theorem d13_30_127 : decode b_13_30 127 = .ok (.iload 4, 2) := by decide +kernel
theorem d13_30_129 : decode b_13_30 129 = .ok (.ifCond .ge 8, 3) := by decide +kernel
theorem d13_30_132 : decode b_13_30 132 = .ok (.aload_n 0, 1) := by decide +kernel
theorem d13_30_133 : decode b_13_30 133 = .ok (.getfield 161, 3) := by decide +kernel
theorem d13_30_136 : decode b_13_30 136 = .ok (.ireturn, 1) := by decide +kernel
theorem d13_30_137 : decode b_13_30 137 = .ok (.aload_n 0, 1) := by decide +kernel
theorem d13_30_138 : decode b_13_30 138 = .ok (.getfield 10, 3) := by decide +kernel
theorem d13_30_141 : decode b_13_30 141 = .ok (.iload 4, 2) := by decide +kernel
theorem d13_30_143 : decode b_13_30 143 = .ok (.putfield 146, 3) := by decide +kernel
theorem d13_30_146 : decode b_13_30 146 = .ok (.bipush (-5), 2) := by decide +kernel
theorem d13_30_148 : decode b_13_30 148 = .ok (.ireturn, 1) := by decide +kernel
theorem K13_30_2 {C : qCx} {G : jG} {mc ms : Nat} {p : Int → Int → jS → jH → Prop} {q : Int → Int → jS → jH → Int → jS → jH → Prop} (h : x13_30 C G) (hrm : C.2.2.2.1.frames = 4 ∧ C.2.2.2.1.locals = 100) (hM : M13_5 C.2.1 mc ms p q) : j_Call C b_13_30 n_KT G.1 G.2.1 5 (.invokevirtual 117) mc ms (fun a S V => ∃ u0 u1 : Int, a = [(2, u0), (0, u1)] ∧ S.1 u0 = 33 ∧ p u0 u1 S V) (fun a S V rs S' V' => ∃ u0 u1 r : Int, a = [(2, u0), (0, u1)] ∧ rs = [(0, r)] ∧ q u0 u1 S V r S' V') := j_callV n_NWk h.2.2.2.2.2 h.1 hM ⟨h.2.1.1, h.2.1.2, h.2.2.1, h.2.2.2.1, h.2.2.2.2.1⟩ ⟨n_CB (y := y_13_5) (bytes := b_13_5) 1 h.2.2.2.2.1 n_w956 n_w953 n_w12 ⟨by decide, by decide, by decide +kernel⟩ rfl rfl ⟨by rw [hrm.1]; exact Nat.le_of_ble_eq_true rfl, by rw [hrm.2]; exact Nat.le_of_ble_eq_true rfl⟩, h.2.2.2.2.1 _ n_w955, h.2.2.2.2.1 _ n_s28⟩ (Cn := RX12) (fun a S V hP => by obtain ⟨u0, u1, rfl, e, -⟩ := hP; exact ⟨u0, _, 12, _, _, TX12, 31, rfl, rfl, by rw [e]; decide, by rw [e]; rfl, rfl⟩)
theorem K13_30_9 {C : qCx} {G : jG} {mc ms : Nat} {p : Int → jS → jH → Prop} {q : Int → jS → jH → Int → jS → jH → Prop} (h : x13_30 C G) (hrm : C.2.2.2.1.frames = 4 ∧ C.2.2.2.1.locals = 100) (hM : M13_4 C.2.1 mc ms p q) : j_Call C b_13_30 n_KT G.1 G.2.1 5 (.invokestatic 76) mc ms (fun a S V => ∃ u0 : Int, a = [(0, u0)] ∧ p u0 S V) (fun a S V rs S' V' => ∃ u0 r : Int, a = [(0, u0)] ∧ rs = [(0, r)] ∧ q u0 S V r S' V') := j_callS n_NWk h.2.2.2.2.2 h.1 hM ⟨h.2.1.1, h.2.1.2, h.2.2.1, h.2.2.2.1, h.2.2.2.2.1⟩ ⟨n_CB (y := y_13_4) (bytes := b_13_4) 1 h.2.2.2.2.1 n_w919 n_w917 n_w12 ⟨by decide, by decide, by decide +kernel⟩ rfl rfl ⟨by rw [hrm.1]; exact Nat.le_of_ble_eq_true rfl, by rw [hrm.2]; exact Nat.le_of_ble_eq_true rfl⟩, h.2.2.2.2.1 _ n_w918⟩ (fun a S V hP => by obtain ⟨u0, rfl, -⟩ := hP; rfl)
theorem K13_30_21 {C : qCx} {G : jG} {mc ms : Nat} {p : Int → Int → Int → jS → jH → Prop} {q : Int → Int → Int → jS → jH → Int → jS → jH → Prop} (h : x13_30 C G) (hrm : C.2.2.2.1.frames = 4 ∧ C.2.2.2.1.locals = 100) (hM : M13_3 C.2.1 mc ms p q) : j_Call C b_13_30 n_KT G.1 G.2.1 5 (.invokestatic 69) mc ms (fun a S V => ∃ u0 u1 u2 : Int, a = [(1, u0), (1, u1), (1, u2)] ∧ p u0 u1 u2 S V) (fun a S V rs S' V' => ∃ u0 u1 u2 r : Int, a = [(1, u0), (1, u1), (1, u2)] ∧ rs = [(0, r)] ∧ q u0 u1 u2 S V r S' V') := j_callS n_NWk h.2.2.2.2.2 h.1 hM ⟨h.2.1.1, h.2.1.2, h.2.2.1, h.2.2.2.1, h.2.2.2.2.1⟩ ⟨n_CB (y := y_13_3) (bytes := b_13_3) 3 h.2.2.2.2.1 n_w923 n_w921 n_w12 ⟨by decide, by decide, by decide +kernel⟩ rfl rfl ⟨by rw [hrm.1]; exact Nat.le_of_ble_eq_true rfl, by rw [hrm.2]; exact Nat.le_of_ble_eq_true rfl⟩, h.2.2.2.2.1 _ n_w922⟩ (fun a S V hP => by obtain ⟨u0, u1, u2, rfl, -⟩ := hP; rfl)
theorem K13_30_31 {C : qCx} {G : jG} {mc ms : Nat} {p : Int → Int → jS → jH → Prop} {q : Int → Int → jS → jH → Int → jS → jH → Prop} (h : x13_30 C G) (hrm : C.2.2.2.1.frames = 4 ∧ C.2.2.2.1.locals = 100) (hM : M13_14 C.2.1 mc ms p q) : j_Call C b_13_30 n_KT G.1 G.2.1 5 (.invokevirtual 143) mc ms (fun a S V => ∃ u0 u1 : Int, a = [(2, u0), (0, u1)] ∧ S.1 u0 = 33 ∧ p u0 u1 S V) (fun a S V rs S' V' => ∃ u0 u1 r : Int, a = [(2, u0), (0, u1)] ∧ rs = [(0, r)] ∧ q u0 u1 S V r S' V') := j_callV n_NWk h.2.2.2.2.2 h.1 hM ⟨h.2.1.1, h.2.1.2, h.2.2.1, h.2.2.2.1, h.2.2.2.2.1⟩ ⟨n_CB (y := y_13_14) (bytes := b_13_14) 1 h.2.2.2.2.1 n_w993 n_w990 n_w12 ⟨by decide, by decide, by decide +kernel⟩ rfl rfl ⟨by rw [hrm.1]; exact Nat.le_of_ble_eq_true rfl, by rw [hrm.2]; exact Nat.le_of_ble_eq_true rfl⟩, h.2.2.2.2.1 _ n_w992, h.2.2.2.2.1 _ n_s34⟩ (Cn := RX12) (fun a S V hP => by obtain ⟨u0, u1, rfl, e, -⟩ := hP; exact ⟨u0, _, 12, _, _, TX12, 31, rfl, rfl, by rw [e]; decide, by rw [e]; rfl, rfl⟩)
theorem K13_30_96 {C : qCx} {G : jG} {mc ms : Nat} {p : Int → Int → Int → Int → jS → jH → Prop} {q : Int → Int → Int → Int → jS → jH → Int → jS → jH → Prop} (h : x13_30 C G) (hrm : C.2.2.2.1.frames = 4 ∧ C.2.2.2.1.locals = 100) (hM : M13_11 C.2.1 mc ms p q) : j_Call C b_13_30 n_KT G.1 G.2.1 5 (.invokevirtual 113) mc ms (fun a S V => ∃ u0 u1 u2 u3 : Int, a = [(2, u0), (0, u1), (0, u2), (0, u3)] ∧ S.1 u0 = 33 ∧ p u0 u1 u2 u3 S V) (fun a S V rs S' V' => ∃ u0 u1 u2 u3 r : Int, a = [(2, u0), (0, u1), (0, u2), (0, u3)] ∧ rs = [(0, r)] ∧ q u0 u1 u2 u3 S V r S' V') := j_callV n_NWk h.2.2.2.2.2 h.1 hM ⟨h.2.1.1, h.2.1.2, h.2.2.1, h.2.2.2.1, h.2.2.2.2.1⟩ ⟨n_CB (y := y_13_11) (bytes := b_13_11) 3 h.2.2.2.2.1 n_w964 n_w961 n_w12 ⟨by decide, by decide, by decide +kernel⟩ rfl rfl ⟨by rw [hrm.1]; exact Nat.le_of_ble_eq_true rfl, by rw [hrm.2]; exact Nat.le_of_ble_eq_true rfl⟩, h.2.2.2.2.1 _ n_w963, h.2.2.2.2.1 _ n_s30⟩ (Cn := RX12) (fun a S V hP => by obtain ⟨u0, u1, u2, u3, rfl, e, -⟩ := hP; exact ⟨u0, _, 12, _, _, TX12, 31, rfl, rfl, by rw [e]; decide, by rw [e]; rfl, rfl⟩)
theorem K13_30_122 {C : qCx} {G : jG} {mc ms : Nat} {p : Int → Int → Int → Int → jS → jH → Prop} {q : Int → Int → Int → Int → jS → jH → Int → jS → jH → Prop} (h : x13_30 C G) (hrm : C.2.2.2.1.frames = 4 ∧ C.2.2.2.1.locals = 100) (hM : M13_27 C.2.1 mc ms p q) : j_Call C b_13_30 n_KT G.1 G.2.1 5 (.invokevirtual 191) mc ms (fun a S V => ∃ u0 u1 u2 u3 : Int, a = [(2, u0), (0, u1), (0, u2), (0, u3)] ∧ S.1 u0 = 33 ∧ p u0 u1 u2 u3 S V) (fun a S V rs S' V' => ∃ u0 u1 u2 u3 r : Int, a = [(2, u0), (0, u1), (0, u2), (0, u3)] ∧ rs = [(0, r)] ∧ q u0 u1 u2 u3 S V r S' V') := j_callV n_NWk h.2.2.2.2.2 h.1 hM ⟨h.2.1.1, h.2.1.2, h.2.2.1, h.2.2.2.1, h.2.2.2.2.1⟩ ⟨n_CB (y := y_13_27) (bytes := b_13_27) 3 h.2.2.2.2.1 n_w1013 n_w1010 n_w12 ⟨by decide, by decide, by decide +kernel⟩ rfl rfl ⟨by rw [hrm.1]; exact Nat.le_of_ble_eq_true rfl, by rw [hrm.2]; exact Nat.le_of_ble_eq_true rfl⟩, h.2.2.2.2.1 _ n_w1012, h.2.2.2.2.1 _ n_s36⟩ (Cn := RX12) (fun a S V hP => by obtain ⟨u0, u1, u2, u3, rfl, e, -⟩ := hP; exact ⟨u0, _, 12, _, _, TX12, 31, rfl, rfl, by rw [e]; decide, by rw [e]; rfl, rfl⟩)
theorem t13_30_0 {C : qCx} {G : jG} {S : jS} {V : jH} {nc ns : Nat} {l0 l1 l2 l3 : Int} {mc ms : Nat} {pp : Int → Int → jS → jH → Prop} {qq : Int → Int → jS → jH → Int → jS → jH → Prop} (h : x13_30 C G) (hrm : C.2.2.2.1.frames = 4 ∧ C.2.2.2.1.locals = 100) (c1 : S.1 l0 = 33) (hM : M13_5 C.2.1 mc ms pp qq) (hp : pp l0 l1 S V) (hc : nc + mc ≤ C.2.2.2.1.cells) (hs : ns + ms ≤ C.2.2.2.1.slots) (k : ∀ (r : Int) (S' : jS) (V' : jH), qq l0 l1 S V r S' V' → j_ok n_KT 5 C G 5 [(0, (2, l0)), (1, (0, l1)), (2, (0, l2)), (3, (0, l3))] [(0, r)] S' V' (nc + mc) (ns + ms)) : j_ok n_KT 5 C G 0 [(0, (2, l0)), (1, (0, l1)), (2, (0, l2)), (3, (0, l3))] [] S V nc ns := by
  have E := n_E h
  refine j_aload_n E d13_30_0 rfl 0 rfl ?_
  refine j_iload_n E d13_30_1 rfl 1 rfl ?_
  refine j_call E (K13_30_2 h hrm hM) d13_30_2 (a := [(2, l0), (0, l1)]) (sk := []) rfl ⟨l0, l1, rfl, c1, hp⟩ (Nat.le_of_ble_eq_true rfl) hc hs ?_
  rintro rs S' V' ⟨z0, z1, r, e1, rfl, q⟩
  simp only [List.cons.injEq, Prod.mk.injEq, and_true, true_and] at e1
  obtain ⟨rfl, rfl⟩ := e1
  exact j_pick [0, 1, 2, 3] rfl (k r S' V' q)
theorem t13_30_5 {C : qCx} {G : jG} {S : jS} {V : jH} {nc ns : Nat} {l0 l1 l2 l3 s0 : Int} (h : x13_30 C G)  (k : s0 = 0 → j_ok n_KT 5 C G 27 [] [] S V nc ns) (k' : ¬ s0 = 0 → j_ok n_KT 5 C G 8 [(0, (2, l0)), (1, (0, l1)), (2, (0, l2)), (3, (0, l3))] [] S V nc ns) : j_ok n_KT 5 C G 5 [(0, (2, l0)), (1, (0, l1)), (2, (0, l2)), (3, (0, l3))] [(0, s0)] S V nc ns := by
  have E := n_E h
  exact j_if_eq E d13_30_5 (t := 27) rfl (fun q => j_pick [] rfl (k q)) (fun q => j_pick [0, 1, 2, 3] rfl (k' q))
theorem t13_30_8 {C : qCx} {G : jG} {S : jS} {V : jH} {nc ns : Nat} {l0 l1 l2 l3 : Int} {mc ms : Nat} {pp : Int → jS → jH → Prop} {qq : Int → jS → jH → Int → jS → jH → Prop} (h : x13_30 C G) (hrm : C.2.2.2.1.frames = 4 ∧ C.2.2.2.1.locals = 100)  (hM : M13_4 C.2.1 mc ms pp qq) (hp : pp l2 S V) (hc : nc + mc ≤ C.2.2.2.1.cells) (hs : ns + ms ≤ C.2.2.2.1.slots) (k : ∀ (r : Int) (S' : jS) (V' : jH), qq l2 S V r S' V' → j_ok n_KT 5 C G 12 [(0, (2, l0)), (1, (0, l1)), (2, (0, l2)), (3, (0, l3))] [(0, r)] S' V' (nc + mc) (ns + ms)) : j_ok n_KT 5 C G 8 [(0, (2, l0)), (1, (0, l1)), (2, (0, l2)), (3, (0, l3))] [] S V nc ns := by
  have E := n_E h
  refine j_iload_n E d13_30_8 rfl 2 rfl ?_
  refine j_call E (K13_30_9 h hrm hM) d13_30_9 (a := [(0, l2)]) (sk := []) rfl ⟨l2, rfl, hp⟩ (Nat.le_of_ble_eq_true rfl) hc hs ?_
  rintro rs S' V' ⟨z0, r, e1, rfl, q⟩
  simp only [List.cons.injEq, Prod.mk.injEq, and_true, true_and] at e1
  obtain ⟨rfl⟩ := e1
  exact j_pick [0, 1, 2, 3] rfl (k r S' V' q)
theorem t13_30_12 {C : qCx} {G : jG} {S : jS} {V : jH} {nc ns : Nat} {l0 l1 l2 l3 s0 : Int} (h : x13_30 C G)  (k : s0 = 0 → j_ok n_KT 5 C G 27 [] [] S V nc ns) (k' : ¬ s0 = 0 → j_ok n_KT 5 C G 15 [(0, (2, l0)), (1, (0, l1)), (2, (0, l2)), (3, (0, l3))] [] S V nc ns) : j_ok n_KT 5 C G 12 [(0, (2, l0)), (1, (0, l1)), (2, (0, l2)), (3, (0, l3))] [(0, s0)] S V nc ns := by
  have E := n_E h
  exact j_if_eq E d13_30_12 (t := 27) rfl (fun q => j_pick [] rfl (k q)) (fun q => j_pick [0, 1, 2, 3] rfl (k' q))
theorem t13_30_15 {C : qCx} {G : jG} {S : jS} {V : jH} {nc ns : Nat} {l0 l1 l2 l3 : Int} {mc ms : Nat} {pp : Int → Int → Int → jS → jH → Prop} {qq : Int → Int → Int → jS → jH → Int → jS → jH → Prop} (h : x13_30 C G) (hrm : C.2.2.2.1.frames = 4 ∧ C.2.2.2.1.locals = 100)  (hM : M13_3 C.2.1 mc ms pp qq) (hp : pp l3 1 4 S V) (hc : nc + mc ≤ C.2.2.2.1.cells) (hs : ns + ms ≤ C.2.2.2.1.slots) (k : ∀ (r : Int) (S' : jS) (V' : jH), qq l3 1 4 S V r S' V' → j_ok n_KT 5 C G 24 [(0, (2, l0)), (1, (0, l1)), (2, (0, l2)), (3, (0, l3))] [(0, r)] S' V' (nc + mc) (ns + ms)) : j_ok n_KT 5 C G 15 [(0, (2, l0)), (1, (0, l1)), (2, (0, l2)), (3, (0, l3))] [] S V nc ns := by
  have E := n_E h
  refine j_iload_n E d13_30_15 rfl 3 rfl ?_
  refine j_i2l E d13_30_16 ?_
  refine j_lconst E d13_30_17 ?_
  refine j_ldc2 (n := 4) (fl12_96 h) rfl d13_30_18 ?_
  refine j_call E (K13_30_21 h hrm hM) d13_30_21 (a := [(1, l3), (1, 1), (1, 4)]) (sk := []) rfl ⟨l3, 1, 4, rfl, hp⟩ (Nat.le_of_ble_eq_true rfl) hc hs ?_
  rintro rs S' V' ⟨z0, z1, z2, r, e1, rfl, q⟩
  simp only [List.cons.injEq, Prod.mk.injEq, and_true, true_and] at e1
  obtain ⟨rfl, rfl, rfl⟩ := e1
  exact j_pick [0, 1, 2, 3] rfl (k r S' V' q)
theorem t13_30_24 {C : qCx} {G : jG} {S : jS} {V : jH} {nc ns : Nat} {l0 l1 l2 l3 s0 : Int} (h : x13_30 C G)  (k : ¬ s0 = 0 → j_ok n_KT 5 C G 29 [(0, (2, l0)), (1, (0, l1)), (2, (0, l2)), (3, (0, l3))] [] S V nc ns) (k' : s0 = 0 → j_ok n_KT 5 C G 27 [] [] S V nc ns) : j_ok n_KT 5 C G 24 [(0, (2, l0)), (1, (0, l1)), (2, (0, l2)), (3, (0, l3))] [(0, s0)] S V nc ns := by
  have E := n_E h
  exact j_if_ne E d13_30_24 (t := 29) rfl (fun q => j_pick [0, 1, 2, 3] rfl (k q)) (fun q => j_pick [] rfl (k' q))
theorem t13_30_27 {C : qCx} {G : jG} {S : jS} {V : jH} {nc ns : Nat} {mc ms : Nat} {qf : Int → jS → jH → Prop} (h : x13_30 C G)  (R : j_Ri n_KT 5 C G b_13_30 mc ms qf) (q : qf ((-1)) S V) (hc : nc ≤ mc) (hs : ns ≤ ms) : j_ok n_KT 5 C G 27 [] [] S V nc ns := by
  have E := n_E h
  refine j_iconst E d13_30_27 (by decide) ?_
  exact R _ _ _ _ _ _ _ d13_30_28 q hc hs
theorem t13_30_29 {C : qCx} {G : jG} {S : jS} {V : jH} {nc ns : Nat} {l0 l1 l2 l3 : Int} {mc ms : Nat} {pp : Int → Int → jS → jH → Prop} {qq : Int → Int → jS → jH → Int → jS → jH → Prop} (h : x13_30 C G) (hrm : C.2.2.2.1.frames = 4 ∧ C.2.2.2.1.locals = 100) (c1 : S.1 l0 = 33) (hM : M13_14 C.2.1 mc ms pp qq) (hp : pp l0 l1 S V) (hc : nc + mc ≤ C.2.2.2.1.cells) (hs : ns + ms ≤ C.2.2.2.1.slots) (k : ∀ (r : Int) (S' : jS) (V' : jH), qq l0 l1 S V r S' V' → j_ok n_KT 5 C G 34 [(0, (2, l0)), (1, (0, l1)), (2, (0, l2)), (3, (0, l3))] [(0, r)] S' V' (nc + mc) (ns + ms)) : j_ok n_KT 5 C G 29 [(0, (2, l0)), (1, (0, l1)), (2, (0, l2)), (3, (0, l3))] [] S V nc ns := by
  have E := n_E h
  refine j_aload_n E d13_30_29 rfl 0 rfl ?_
  refine j_iload_n E d13_30_30 rfl 1 rfl ?_
  refine j_call E (K13_30_31 h hrm hM) d13_30_31 (a := [(2, l0), (0, l1)]) (sk := []) rfl ⟨l0, l1, rfl, c1, hp⟩ (Nat.le_of_ble_eq_true rfl) hc hs ?_
  rintro rs S' V' ⟨z0, z1, r, e1, rfl, q⟩
  simp only [List.cons.injEq, Prod.mk.injEq, and_true, true_and] at e1
  obtain ⟨rfl, rfl⟩ := e1
  exact j_pick [0, 1, 2, 3] rfl (k r S' V' q)
theorem t13_30_34 {C : qCx} {G : jG} {S : jS} {V : jH} {nc ns : Nat} {l0 l1 l2 l3 s0 : Int} (h : x13_30 C G)  (k : s0 = 0 → j_ok n_KT 5 C G 40 [(0, (2, l0)), (1, (0, l1)), (2, (0, l2)), (3, (0, l3))] [] S V nc ns) (k' : ¬ s0 = 0 → j_ok n_KT 5 C G 37 [] [] S V nc ns) : j_ok n_KT 5 C G 34 [(0, (2, l0)), (1, (0, l1)), (2, (0, l2)), (3, (0, l3))] [(0, s0)] S V nc ns := by
  have E := n_E h
  exact j_if_eq E d13_30_34 (t := 40) rfl (fun q => j_pick [0, 1, 2, 3] rfl (k q)) (fun q => j_pick [] rfl (k' q))
theorem t13_30_37 {C : qCx} {G : jG} {S : jS} {V : jH} {nc ns : Nat} {mc ms : Nat} {qf : Int → jS → jH → Prop} (h : x13_30 C G)  (R : j_Ri n_KT 5 C G b_13_30 mc ms qf) (q : qf ((-4)) S V) (hc : nc ≤ mc) (hs : ns ≤ ms) : j_ok n_KT 5 C G 37 [] [] S V nc ns := by
  have E := n_E h
  refine j_bipush E d13_30_37 (by decide) ?_
  exact R _ _ _ _ _ _ _ d13_30_39 q hc hs
theorem t13_30_40 {C : qCx} {G : jG} {S : jS} {V : jH} {nc ns : Nat} {l0 l1 l2 l3 : Int} (h : x13_30 C G) (L : j_L S) (c1 : S.1 l0 = 33) (c2 : 0 ≤ l1) (c3 : l1 < 10) (c4 : 0 ≤ V (l0 + 5) l1) (c5 : V (l0 + 5) l1 ≤ 30) (k : j_ok n_KT 5 C G 71 [(0, (2, l0)), (1, (0, l1)), (2, (0, l2)), (3, (0, l3)), (4, (0, 0))] [] S (j_up (j_up V l0 9 (V (l0 + 4) l1)) l0 10 (2 ^ (V (l0 + 5) l1).toNat)) nc ns) : j_ok n_KT 5 C G 40 [(0, (2, l0)), (1, (0, l1)), (2, (0, l2)), (3, (0, l3))] [] S V nc ns := by
  have E := n_E h
  refine j_aload_n E d13_30_40 rfl 0 rfl ?_
  refine j_aload_n E d13_30_41 rfl 0 rfl ?_
  refine j_getS (f := 0) (x := l0 + 1) (fg12_10 h) d13_30_42 c1 (by decide) rfl rfl ((L12_0 L c1).trans (by omega)) ?_
  refine j_getS (f := 3) (x := l0 + 4) (fg12_100 h) d13_30_45 (show S.1 (l0 + 1) = 32 from (by have q := L12_0k L c1; rw [show l0 + 1 = l0 + 1 by omega]; exact q)) (by decide) rfl rfl ((L11_3 L (show S.1 (l0 + 1) = 32 from (by have q := L12_0k L c1; rw [show l0 + 1 = l0 + 1 by omega]; exact q))).trans (by omega)) ?_
  refine j_iload_n E d13_30_48 rfl 1 rfl ?_
  refine j_iald E d13_30_49 (j_arr_of (show S.1 (l0 + 4) = 10 from (by have q := L11_3k L (show S.1 (l0 + 1) = 32 from (by have q := L12_0k L c1; rw [show l0 + 1 = l0 + 1 by omega]; exact q)); rw [show l0 + 4 = (l0 + 1) + 3 by omega]; exact q)) (by decide) rfl) c2 c3 ?_
  refine j_putI (f := 9) (fp12_149 h) (n_hap h 33 12 0 _ rfl) d13_30_50 c1 (by decide) rfl rfl rfl ?_
  refine j_aload_n E d13_30_53 rfl 0 rfl ?_
  refine j_iconst E d13_30_54 (by decide) ?_
  refine j_aload_n E d13_30_55 rfl 0 rfl ?_
  refine j_getS (f := 0) (x := l0 + 1) (fg12_10 h) d13_30_56 c1 (by decide) rfl rfl ((L12_0 L c1).trans (by omega)) ?_
  refine j_getS (f := 4) (x := l0 + 5) (fg12_103 h) d13_30_59 (show S.1 (l0 + 1) = 32 from (by have q := L12_0k L c1; rw [show l0 + 1 = l0 + 1 by omega]; exact q)) (by decide) rfl rfl ((L11_4 L (show S.1 (l0 + 1) = 32 from (by have q := L12_0k L c1; rw [show l0 + 1 = l0 + 1 by omega]; exact q))).trans (by omega)) ?_
  refine j_iload_n E d13_30_62 rfl 1 rfl ?_
  refine j_iald E d13_30_63 (j_arr_of (show S.1 (l0 + 5) = 10 from (by have q := L11_4k L (show S.1 (l0 + 1) = 32 from (by have q := L12_0k L c1; rw [show l0 + 1 = l0 + 1 by omega]; exact q)); rw [show l0 + 5 = (l0 + 1) + 4 by omega]; exact q)) (by decide) rfl) c2 c3 ?_
  refine j_eqT (show (j_up V l0 9 (V (l0 + 4) l1)) (l0 + 5) l1 = V (l0 + 5) l1 from (congrFun (j_up_ne (by omega)) _)) ?_
  refine j_ishl1 E d13_30_64 rfl c4 c5 ?_
  refine j_putI (f := 10) (fp12_171 h) (n_hap h 33 12 0 _ rfl) d13_30_65 c1 (by decide) rfl rfl rfl ?_
  refine j_iconst E d13_30_68 (by decide) ?_
  refine j_istore E d13_30_69 (by decide) (lo1 := [(0, (2, l0)), (1, (0, l1)), (2, (0, l2)), (3, (0, l3))]) rfl ?_
  exact j_pick [1, 2, 3, 4, 0] rfl k
theorem t13_30_71 {C : qCx} {G : jG} {S : jS} {V : jH} {nc ns : Nat} {l0 l1 l2 l3 l4 : Int} (h : x13_30 C G)  (k : 1024 ≤ l4 → j_ok n_KT 5 C G 110 [(0, (2, l0)), (1, (0, l1)), (2, (0, l2)), (3, (0, l3))] [] S V nc ns) (k' : l4 < 1024 → j_ok n_KT 5 C G 79 [(0, (2, l0)), (1, (0, l1)), (2, (0, l2)), (3, (0, l3)), (4, (0, l4))] [] S V nc ns) : j_ok n_KT 5 C G 71 [(0, (2, l0)), (1, (0, l1)), (2, (0, l2)), (3, (0, l3)), (4, (0, l4))] [] S V nc ns := by
  have E := n_E h
  refine j_iload E d13_30_71 4 rfl ?_
  refine j_sipush E d13_30_73 (by decide) ?_
  exact j_icmp_ge E d13_30_76 (t := 110) rfl (fun q => j_pick [0, 1, 2, 3] rfl (k q)) (fun q => j_pick [0, 1, 2, 3, 4] rfl (k' q))
theorem t13_30_79 {C : qCx} {G : jG} {S : jS} {V : jH} {nc ns : Nat} {l0 l1 l2 l3 l4 : Int} {mc ms : Nat} {pp : Int → Int → Int → Int → jS → jH → Prop} {qq : Int → Int → Int → Int → jS → jH → Int → jS → jH → Prop} (h : x13_30 C G) (L : j_L S) (hrm : C.2.2.2.1.frames = 4 ∧ C.2.2.2.1.locals = 100) (c1 : S.1 l0 = 33) (hM : M13_11 C.2.1 mc ms pp qq) (hp : pp l0 l1 0 0 S V) (hc : nc + mc ≤ C.2.2.2.1.cells) (hs : ns + ms ≤ C.2.2.2.1.slots) (k : ∀ (r : Int) (S' : jS) (V' : jH), qq l0 l1 0 0 S V r S' V' → j_ok n_KT 5 C G 99 [(0, (2, l0)), (1, (0, l1)), (2, (0, l2)), (3, (0, l3)), (4, (0, l4))] [(0, r), (2, l0 + 7), (0, l4), (2, l0 + 21)] S' V' (nc + mc) (ns + ms)) : j_ok n_KT 5 C G 79 [(0, (2, l0)), (1, (0, l1)), (2, (0, l2)), (3, (0, l3)), (4, (0, l4))] [] S V nc ns := by
  have E := n_E h
  refine j_aload_n E d13_30_79 rfl 0 rfl ?_
  refine j_getS (f := 11) (x := l0 + 21) (fg12_32 h) d13_30_80 c1 (by decide) rfl rfl ((L12_11 L c1).trans (by omega)) ?_
  refine j_iload E d13_30_83 4 rfl ?_
  refine j_aload_n E d13_30_85 rfl 0 rfl ?_
  refine j_getS (f := 0) (x := l0 + 1) (fg12_10 h) d13_30_86 c1 (by decide) rfl rfl ((L12_0 L c1).trans (by omega)) ?_
  refine j_getS (f := 6) (x := l0 + 7) (fg12_110 h) d13_30_89 (show S.1 (l0 + 1) = 32 from (by have q := L12_0k L c1; rw [show l0 + 1 = l0 + 1 by omega]; exact q)) (by decide) rfl rfl ((L11_6 L (show S.1 (l0 + 1) = 32 from (by have q := L12_0k L c1; rw [show l0 + 1 = l0 + 1 by omega]; exact q))).trans (by omega)) ?_
  refine j_aload_n E d13_30_92 rfl 0 rfl ?_
  refine j_iload_n E d13_30_93 rfl 1 rfl ?_
  refine j_iconst E d13_30_94 (by decide) ?_
  refine j_iconst E d13_30_95 (by decide) ?_
  refine j_call E (K13_30_96 h hrm hM) d13_30_96 (a := [(2, l0), (0, l1), (0, 0), (0, 0)]) (sk := [(2, l0 + 7), (0, l4), (2, l0 + 21)]) rfl ⟨l0, l1, 0, 0, rfl, c1, hp⟩ (Nat.le_of_ble_eq_true rfl) hc hs ?_
  rintro rs S' V' ⟨z0, z1, z2, z3, r, e1, rfl, q⟩
  simp only [List.cons.injEq, Prod.mk.injEq, and_true, true_and] at e1
  obtain ⟨rfl, rfl, rfl, rfl⟩ := e1
  exact j_pick [0, 1, 2, 3, 4] rfl (k r S' V' q)
theorem t13_30_99 {C : qCx} {G : jG} {S : jS} {V : jH} {nc ns : Nat} {l0 l1 l2 l3 l4 s0 s1 s2 s3 : Int} {n_s1 n_s3 : Nat} (h : x13_30 C G) (c1 : -2147483648 ≤ s0 + l4 ∧ s0 + l4 ≤ 2147483647) (c2 : j_arr S s1 n_s1) (c3 : 0 ≤ s0 + l4) (c4 : s0 + l4 < (n_s1 : Int)) (c5 : j_arr S s3 n_s3) (c6 : 0 ≤ s2) (c7 : s2 < (n_s3 : Int)) (c8 : -2147483648 ≤ l4 + 1 ∧ l4 + 1 ≤ 2147483647) (k : j_ok n_KT 5 C G 71 [(0, (2, l0)), (1, (0, l1)), (2, (0, l2)), (3, (0, l3)), (4, (0, l4 + 1))] [] S (j_up V s3 s2 (V s1 (s0 + l4))) nc ns) : j_ok n_KT 5 C G 99 [(0, (2, l0)), (1, (0, l1)), (2, (0, l2)), (3, (0, l3)), (4, (0, l4))] [(0, s0), (2, s1), (0, s2), (2, s3)] S V nc ns := by
  have E := n_E h
  refine j_iload E d13_30_99 4 rfl ?_
  refine j_iadd E d13_30_101 c1 ?_
  refine j_iald E d13_30_102 c2 c3 c4 ?_
  refine j_iast E d13_30_103 c5 c6 c7 ?_
  refine j_iinc E d13_30_104 (by decide) (by decide) 4 rfl (lo1 := [(0, (2, l0)), (1, (0, l1)), (2, (0, l2)), (3, (0, l3))]) rfl c8 ?_
  refine j_goto E d13_30_107 (t := 71) rfl ?_
  exact j_pick [1, 2, 3, 4, 0] rfl k
theorem t13_30_110 {C : qCx} {G : jG} {S : jS} {V : jH} {nc ns : Nat} {l0 l1 l2 l3 : Int} {mc ms : Nat} {pp : Int → Int → Int → Int → jS → jH → Prop} {qq : Int → Int → Int → Int → jS → jH → Int → jS → jH → Prop} (h : x13_30 C G) (L : j_L S) (hrm : C.2.2.2.1.frames = 4 ∧ C.2.2.2.1.locals = 100) (c1 : S.1 l0 = 33) (c2 : 0 ≤ l1) (c3 : l1 < 10) (hM : M13_27 C.2.1 mc ms pp qq) (hp : pp l0 l2 (V (l0 + 5) l1) l3 S V) (hc : nc + mc ≤ C.2.2.2.1.cells) (hs : ns + ms ≤ C.2.2.2.1.slots) (k : ∀ (r : Int) (S' : jS) (V' : jH), qq l0 l2 (V (l0 + 5) l1) l3 S V r S' V' → j_ok n_KT 5 C G 125 [(0, (2, l0))] [(0, r)] S' V' (nc + mc) (ns + ms)) : j_ok n_KT 5 C G 110 [(0, (2, l0)), (1, (0, l1)), (2, (0, l2)), (3, (0, l3))] [] S V nc ns := by
  have E := n_E h
  refine j_aload_n E d13_30_110 rfl 0 rfl ?_
  refine j_iload_n E d13_30_111 rfl 2 rfl ?_
  refine j_aload_n E d13_30_112 rfl 0 rfl ?_
  refine j_getS (f := 0) (x := l0 + 1) (fg12_10 h) d13_30_113 c1 (by decide) rfl rfl ((L12_0 L c1).trans (by omega)) ?_
  refine j_getS (f := 4) (x := l0 + 5) (fg12_103 h) d13_30_116 (show S.1 (l0 + 1) = 32 from (by have q := L12_0k L c1; rw [show l0 + 1 = l0 + 1 by omega]; exact q)) (by decide) rfl rfl ((L11_4 L (show S.1 (l0 + 1) = 32 from (by have q := L12_0k L c1; rw [show l0 + 1 = l0 + 1 by omega]; exact q))).trans (by omega)) ?_
  refine j_iload_n E d13_30_119 rfl 1 rfl ?_
  refine j_iald E d13_30_120 (j_arr_of (show S.1 (l0 + 5) = 10 from (by have q := L11_4k L (show S.1 (l0 + 1) = 32 from (by have q := L12_0k L c1; rw [show l0 + 1 = l0 + 1 by omega]; exact q)); rw [show l0 + 5 = (l0 + 1) + 4 by omega]; exact q)) (by decide) rfl) c2 c3 ?_
  refine j_iload_n E d13_30_121 rfl 3 rfl ?_
  refine j_call E (K13_30_122 h hrm hM) d13_30_122 (a := [(2, l0), (0, l2), (0, V (l0 + 5) l1), (0, l3)]) (sk := []) rfl ⟨l0, l2, V (l0 + 5) l1, l3, rfl, c1, hp⟩ (Nat.le_of_ble_eq_true rfl) hc hs ?_
  rintro rs S' V' ⟨z0, z1, z2, z3, r, e1, rfl, q⟩
  simp only [List.cons.injEq, Prod.mk.injEq, and_true, true_and] at e1
  obtain ⟨rfl, rfl, rfl, rfl⟩ := e1
  exact j_pick [0] rfl (k r S' V' q)
theorem t13_30_125 {C : qCx} {G : jG} {S : jS} {V : jH} {nc ns : Nat} {l0 s0 : Int} (h : x13_30 C G)  (k : 0 ≤ s0 → j_ok n_KT 5 C G 137 [(0, (2, l0)), (4, (0, s0))] [] S V nc ns) (k' : s0 < 0 → j_ok n_KT 5 C G 132 [(0, (2, l0))] [] S V nc ns) : j_ok n_KT 5 C G 125 [(0, (2, l0))] [(0, s0)] S V nc ns := by
  have E := n_E h
  refine j_istore E d13_30_125 (by decide) (lo1 := [(0, (2, l0))]) rfl ?_
  refine j_iload E d13_30_127 0 rfl ?_
  exact j_if_ge E d13_30_129 (t := 137) rfl (fun q => j_pick [1, 0] rfl (k q)) (fun q => j_pick [1] rfl (k' q))
theorem t13_30_132 {C : qCx} {G : jG} {S : jS} {V : jH} {nc ns : Nat} {l0 : Int} {mc ms : Nat} {qf : Int → jS → jH → Prop} (h : x13_30 C G) (c1 : S.1 l0 = 33) (R : j_Ri n_KT 5 C G b_13_30 mc ms qf) (q : qf (V l0 20) S V) (hc : nc ≤ mc) (hs : ns ≤ ms) : j_ok n_KT 5 C G 132 [(0, (2, l0))] [] S V nc ns := by
  have E := n_E h
  refine j_aload_n E d13_30_132 rfl 0 rfl ?_
  refine j_getI (f := 20) (fg12_161 h) d13_30_133 c1 (by decide) rfl rfl ?_
  exact R _ _ _ _ _ _ _ d13_30_136 q hc hs
theorem t13_30_137 {C : qCx} {G : jG} {S : jS} {V : jH} {nc ns : Nat} {l0 l4 : Int} {mc ms : Nat} {qf : Int → jS → jH → Prop} (h : x13_30 C G) (L : j_L S) (c1 : S.1 l0 = 33) (R : j_Ri n_KT 5 C G b_13_30 mc ms qf) (q : qf ((-5)) S (j_up V (l0 + 1) 12 l4)) (hc : nc ≤ mc) (hs : ns ≤ ms) : j_ok n_KT 5 C G 137 [(0, (2, l0)), (4, (0, l4))] [] S V nc ns := by
  have E := n_E h
  refine j_aload_n E d13_30_137 rfl 0 rfl ?_
  refine j_getS (f := 0) (x := l0 + 1) (fg12_10 h) d13_30_138 c1 (by decide) rfl rfl ((L12_0 L c1).trans (by omega)) ?_
  refine j_iload E d13_30_141 1 rfl ?_
  refine j_putI (f := 12) (fp12_146 h) (n_hap h 32 11 0 _ rfl) d13_30_143 (show S.1 (l0 + 1) = 32 from (by have q := L12_0k L c1; rw [show l0 + 1 = l0 + 1 by omega]; exact q)) (by decide) rfl rfl rfl ?_
  refine j_bipush E d13_30_146 (by decide) ?_
  exact R _ _ _ _ _ _ _ d13_30_148 q hc hs
/- BalanceCoderModel.makeBlock()I -/
abbrev b_13_31 : ByteArray := prog_13_method_31_code
def y_13_31 : MethodName := ⟨"BalanceCoderModel", "makeBlock", "()I"⟩
abbrev x13_31 (C : qCx) (G : jG) : Prop := n_ctx C b_13_31 2 "BalanceCoderModel" G.1 G.2.1
def M13_31 (l : Launch) (mc ms : Nat) (p : Int → jS → jH → Prop) (q : Int → jS → jH → Int → jS → jH → Prop) : Prop := j_Met l vwCl n_TL n_NW n_KT y_13_31 (Cond.code y_13_31 b_13_31 2 (some .int) :: n_GW) { frames := 1, cells := mc, slots := ms, locals := 26 } mc ms (fun a S V => ∃ u0 : Int, a = [(2, u0)] ∧ S.1 u0 = 33 ∧ p u0 S V) (fun a S V rs S' V' => ∃ u0 r : Int, a = [(2, u0)] ∧ rs = [(0, r)] ∧ q u0 S V r S' V')
theorem e13_31 {l : Launch} {mc ms : Nat} {p : Int → jS → jH → Prop} {q : Int → jS → jH → Int → jS → jH → Prop} (body : ∀ (C : qCx) (G : jG), x13_31 C G → C.2.2.2.1.frames = 1 ∧ C.2.2.2.1.locals = 26 → C.2.2.2.1.cells = mc ∧ C.2.2.2.1.slots = ms → C.2.1 = l → C.2.2.2.2.2.2.2.2.1.name = "makeBlock" → ∀ (u0 : Int) (S : jS) (V : jH), S.1 u0 = 33 → p u0 S V → j_Ri n_KT 2 C G b_13_31 mc ms (q u0 S V) → j_ok n_KT 2 C G 0 [(0, (2, u0))] [] S V 0 0) : M13_31 l mc ms p q := by
  refine j_method (ws' := n_GW) (by decide) rfl ?_ ?_
  · rintro a S V ⟨u0, rfl, -⟩
    exact Nat.le_of_ble_eq_true rfl
  · rintro C G htl hl hrm hm hml ho hts hnm hE a S V ⟨u0, rfl, ht, hp⟩ R
    exact body C G ⟨htl, hm, hml, ho, fun w hw => hts w (List.mem_cons_of_mem _ hw), hE⟩ (by rw [hrm]; exact ⟨rfl, rfl⟩) (by rw [hrm]; exact ⟨rfl, rfl⟩) hl hnm u0 S V ht hp (fun pc lo r S' V' nc ns d q hc hs => R.2.1 rfl pc lo r S' V' nc ns d ⟨u0, r, rfl, rfl, q⟩ hc hs)
theorem d13_31_0 : decode b_13_31 0 = .ok (.aload_n 0, 1) := by decide +kernel
theorem d13_31_1 : decode b_13_31 1 = .ok (.getfield 10, 3) := by decide +kernel
theorem d13_31_4 : decode b_13_31 4 = .ok (.aload_n 0, 1) := by decide +kernel
theorem d13_31_5 : decode b_13_31 5 = .ok (.getfield 161, 3) := by decide +kernel
theorem d13_31_8 : decode b_13_31 8 = .ok (.putfield 194, 3) := by decide +kernel
theorem d13_31_11 : decode b_13_31 11 = .ok (.iconst 0, 1) := by decide +kernel
theorem d13_31_12 : decode b_13_31 12 = .ok (.istore_n 1, 1) := by decide +kernel
theorem d13_31_13 : decode b_13_31 13 = .ok (.iload_n 1, 1) := by decide +kernel
theorem d13_31_14 : decode b_13_31 14 = .ok (.aload_n 0, 1) := by decide +kernel
theorem d13_31_15 : decode b_13_31 15 = .ok (.getfield 161, 3) := by decide +kernel
theorem d13_31_18 : decode b_13_31 18 = .ok (.if_icmp .ge 24, 3) := by decide +kernel
theorem d13_31_21 : decode b_13_31 21 = .ok (.aload_n 0, 1) := by decide +kernel
theorem d13_31_22 : decode b_13_31 22 = .ok (.getfield 10, 3) := by decide +kernel
theorem d13_31_25 : decode b_13_31 25 = .ok (.getfield 197, 3) := by decide +kernel
theorem d13_31_28 : decode b_13_31 28 = .ok (.iload_n 1, 1) := by decide +kernel
theorem d13_31_29 : decode b_13_31 29 = .ok (.aload_n 0, 1) := by decide +kernel
theorem d13_31_30 : decode b_13_31 30 = .ok (.getfield 48, 3) := by decide +kernel
theorem d13_31_33 : decode b_13_31 33 = .ok (.iload_n 1, 1) := by decide +kernel
theorem d13_31_34 : decode b_13_31 34 = .ok (.iaload, 1) := by decide +kernel
theorem d13_31_35 : decode b_13_31 35 = .ok (.iastore, 1) := by decide +kernel
theorem d13_31_36 : decode b_13_31 36 = .ok (.iinc 1 1, 3) := by decide +kernel
theorem d13_31_39 : decode b_13_31 39 = .ok (.goto (-26), 3) := by decide +kernel
theorem d13_31_42 : decode b_13_31 42 = .ok (.aload_n 0, 1) := by decide +kernel
theorem d13_31_43 : decode b_13_31 43 = .ok (.getfield 10, 3) := by decide +kernel
theorem d13_31_46 : decode b_13_31 46 = .ok (.iconst 1, 1) := by decide +kernel
theorem d13_31_47 : decode b_13_31 47 = .ok (.putfield 200, 3) := by decide +kernel
theorem d13_31_50 : decode b_13_31 50 = .ok (.aload_n 0, 1) := by decide +kernel
theorem d13_31_51 : decode b_13_31 51 = .ok (.getfield 10, 3) := by decide +kernel
theorem d13_31_54 : decode b_13_31 54 = .ok (.iconst 0, 1) := by decide +kernel
theorem d13_31_55 : decode b_13_31 55 = .ok (.putfield 204, 3) := by decide +kernel
theorem d13_31_58 : decode b_13_31 58 = .ok (.aload_n 0, 1) := by decide +kernel
theorem d13_31_59 : decode b_13_31 59 = .ok (.getfield 161, 3) := by decide +kernel
theorem d13_31_62 : decode b_13_31 62 = .ok (.ireturn, 1) := by decide +kernel
theorem t13_31_0 {C : qCx} {G : jG} {S : jS} {V : jH} {nc ns : Nat} {l0 : Int} (h : x13_31 C G) (L : j_L S) (c1 : S.1 l0 = 33) (k : j_ok n_KT 2 C G 13 [(0, (2, l0)), (1, (0, 0))] [] S (j_up V (l0 + 1) 7 (V l0 20)) nc ns) : j_ok n_KT 2 C G 0 [(0, (2, l0))] [] S V nc ns := by
  have E := n_E h
  refine j_aload_n E d13_31_0 rfl 0 rfl ?_
  refine j_getS (f := 0) (x := l0 + 1) (fg12_10 h) d13_31_1 c1 (by decide) rfl rfl ((L12_0 L c1).trans (by omega)) ?_
  refine j_aload_n E d13_31_4 rfl 0 rfl ?_
  refine j_getI (f := 20) (fg12_161 h) d13_31_5 c1 (by decide) rfl rfl ?_
  refine j_putI (f := 7) (fp12_194 h) (n_hap h 32 11 0 _ rfl) d13_31_8 (show S.1 (l0 + 1) = 32 from (by have q := L12_0k L c1; rw [show l0 + 1 = l0 + 1 by omega]; exact q)) (by decide) rfl rfl rfl ?_
  refine j_iconst E d13_31_11 (by decide) ?_
  refine j_istore_n E d13_31_12 rfl (by decide) (lo1 := [(0, (2, l0))]) rfl ?_
  exact j_pick [1, 0] rfl k
theorem t13_31_13 {C : qCx} {G : jG} {S : jS} {V : jH} {nc ns : Nat} {l0 l1 : Int} (h : x13_31 C G) (c1 : S.1 l0 = 33) (k : V l0 20 ≤ l1 → j_ok n_KT 2 C G 42 [(0, (2, l0))] [] S V nc ns) (k' : l1 < V l0 20 → j_ok n_KT 2 C G 21 [(0, (2, l0)), (1, (0, l1))] [] S V nc ns) : j_ok n_KT 2 C G 13 [(0, (2, l0)), (1, (0, l1))] [] S V nc ns := by
  have E := n_E h
  refine j_iload_n E d13_31_13 rfl 1 rfl ?_
  refine j_aload_n E d13_31_14 rfl 0 rfl ?_
  refine j_getI (f := 20) (fg12_161 h) d13_31_15 c1 (by decide) rfl rfl ?_
  exact j_icmp_ge E d13_31_18 (t := 42) rfl (fun q => j_pick [0] rfl (k q)) (fun q => j_pick [0, 1] rfl (k' q))
theorem t13_31_21 {C : qCx} {G : jG} {S : jS} {V : jH} {nc ns : Nat} {l0 l1 : Int} (h : x13_31 C G) (L : j_L S) (c1 : S.1 l0 = 33) (c2 : 0 ≤ l1) (c3 : l1 < 4500) (c4 : l1 < 4400) (c5 : -2147483648 ≤ l1 + 1 ∧ l1 + 1 ≤ 2147483647) (k : j_ok n_KT 2 C G 13 [(0, (2, l0)), (1, (0, l1 + 1))] [] S (j_up V (l0 + 8) l1 (V (l0 + 26) l1)) nc ns) : j_ok n_KT 2 C G 21 [(0, (2, l0)), (1, (0, l1))] [] S V nc ns := by
  have E := n_E h
  refine j_aload_n E d13_31_21 rfl 0 rfl ?_
  refine j_getS (f := 0) (x := l0 + 1) (fg12_10 h) d13_31_22 c1 (by decide) rfl rfl ((L12_0 L c1).trans (by omega)) ?_
  refine j_getS (f := 8) (x := l0 + 8) (fg12_197 h) d13_31_25 (show S.1 (l0 + 1) = 32 from (by have q := L12_0k L c1; rw [show l0 + 1 = l0 + 1 by omega]; exact q)) (by decide) rfl rfl ((L11_8 L (show S.1 (l0 + 1) = 32 from (by have q := L12_0k L c1; rw [show l0 + 1 = l0 + 1 by omega]; exact q))).trans (by omega)) ?_
  refine j_iload_n E d13_31_28 rfl 1 rfl ?_
  refine j_aload_n E d13_31_29 rfl 0 rfl ?_
  refine j_getS (f := 19) (x := l0 + 26) (fg12_48 h) d13_31_30 c1 (by decide) rfl rfl ((L12_19 L c1).trans (by omega)) ?_
  refine j_iload_n E d13_31_33 rfl 1 rfl ?_
  refine j_iald E d13_31_34 (j_arr_of (show S.1 (l0 + 26) = 14 from (by have q := L12_19k L c1; rw [show l0 + 26 = l0 + 26 by omega]; exact q)) (by decide) rfl) c2 c3 ?_
  refine j_iast E d13_31_35 (j_arr_of (show S.1 (l0 + 8) = 6 from (by have q := L11_8k L (show S.1 (l0 + 1) = 32 from (by have q := L12_0k L c1; rw [show l0 + 1 = l0 + 1 by omega]; exact q)); rw [show l0 + 8 = (l0 + 1) + 7 by omega]; exact q)) (by decide) rfl) c2 c4 ?_
  refine j_iinc E d13_31_36 (by decide) (by decide) 1 rfl (lo1 := [(0, (2, l0))]) rfl c5 ?_
  refine j_goto E d13_31_39 (t := 13) rfl ?_
  exact j_pick [1, 0] rfl k
theorem t13_31_42 {C : qCx} {G : jG} {S : jS} {V : jH} {nc ns : Nat} {l0 : Int} {mc ms : Nat} {qf : Int → jS → jH → Prop} (h : x13_31 C G) (L : j_L S) (c1 : S.1 l0 = 33) (R : j_Ri n_KT 2 C G b_13_31 mc ms qf) (q : qf (V l0 20) S (j_up (j_up V (l0 + 1) 9 1) (l0 + 1) 10 0)) (hc : nc ≤ mc) (hs : ns ≤ ms) : j_ok n_KT 2 C G 42 [(0, (2, l0))] [] S V nc ns := by
  have E := n_E h
  refine j_aload_n E d13_31_42 rfl 0 rfl ?_
  refine j_getS (f := 0) (x := l0 + 1) (fg12_10 h) d13_31_43 c1 (by decide) rfl rfl ((L12_0 L c1).trans (by omega)) ?_
  refine j_iconst E d13_31_46 (by decide) ?_
  refine j_putZ (f := 9) (fp12_200 h) (n_hap h 32 11 0 _ rfl) d13_31_47 (show S.1 (l0 + 1) = 32 from (by have q := L12_0k L c1; rw [show l0 + 1 = l0 + 1 by omega]; exact q)) (by decide) rfl rfl rfl (by decide) ?_
  refine j_aload_n E d13_31_50 rfl 0 rfl ?_
  refine j_getS (f := 0) (x := l0 + 1) (fg12_10 h) d13_31_51 c1 (by decide) rfl rfl ((L12_0 L c1).trans (by omega)) ?_
  refine j_iconst E d13_31_54 (by decide) ?_
  refine j_putI (f := 10) (fp12_204 h) (n_hap h 32 11 0 _ rfl) d13_31_55 (show S.1 (l0 + 1) = 32 from (by have q := L12_0k L c1; rw [show l0 + 1 = l0 + 1 by omega]; exact q)) (by decide) rfl rfl rfl ?_
  refine j_aload_n E d13_31_58 rfl 0 rfl ?_
  refine j_getI (f := 20) (fg12_161 h) d13_31_59 c1 (by decide) rfl rfl ?_
  refine j_eqT (show (j_up (j_up V (l0 + 1) 9 1) (l0 + 1) 10 0) l0 20 = V l0 20 from (Eq.trans (congrFun (j_up_ne (by omega)) _) (congrFun (j_up_ne (by omega)) _))) ?_
  exact R _ _ _ _ _ _ _ d13_31_62 q hc hs
/- BalanceCoderModel.pack(III)I -/
abbrev b_13_32 : ByteArray := prog_13_method_32_code
def y_13_32 : MethodName := ⟨"BalanceCoderModel", "pack", "(III)I"⟩
abbrev x13_32 (C : qCx) (G : jG) : Prop := n_ctx C b_13_32 5 "BalanceCoderModel" G.1 G.2.1
def M13_32 (l : Launch) (mc ms : Nat) (p : Int → Int → Int → Int → jS → jH → Prop) (q : Int → Int → Int → Int → jS → jH → Int → jS → jH → Prop) : Prop := j_Met l vwCl n_TL n_NW n_KT y_13_32 (Cond.code y_13_32 b_13_32 5 (some .int) :: n_GW) { frames := 5, cells := mc, slots := ms, locals := 124 } mc ms (fun a S V => ∃ u0 u1 u2 u3 : Int, a = [(2, u0), (0, u1), (0, u2), (0, u3)] ∧ S.1 u0 = 33 ∧ p u0 u1 u2 u3 S V) (fun a S V rs S' V' => ∃ u0 u1 u2 u3 r : Int, a = [(2, u0), (0, u1), (0, u2), (0, u3)] ∧ rs = [(0, r)] ∧ q u0 u1 u2 u3 S V r S' V')
theorem e13_32 {l : Launch} {mc ms : Nat} {p : Int → Int → Int → Int → jS → jH → Prop} {q : Int → Int → Int → Int → jS → jH → Int → jS → jH → Prop} (body : ∀ (C : qCx) (G : jG), x13_32 C G → C.2.2.2.1.frames = 5 ∧ C.2.2.2.1.locals = 124 → C.2.2.2.1.cells = mc ∧ C.2.2.2.1.slots = ms → C.2.1 = l → C.2.2.2.2.2.2.2.2.1.name = "pack" → ∀ (u0 u1 u2 u3 : Int) (S : jS) (V : jH), S.1 u0 = 33 → p u0 u1 u2 u3 S V → j_Ri n_KT 5 C G b_13_32 mc ms (q u0 u1 u2 u3 S V) → j_ok n_KT 5 C G 0 [(0, (2, u0)), (1, (0, u1)), (2, (0, u2)), (3, (0, u3))] [] S V 0 0) : M13_32 l mc ms p q := by
  refine j_method (ws' := n_GW) (by decide) rfl ?_ ?_
  · rintro a S V ⟨u0, u1, u2, u3, rfl, -⟩
    exact Nat.le_of_ble_eq_true rfl
  · rintro C G htl hl hrm hm hml ho hts hnm hE a S V ⟨u0, u1, u2, u3, rfl, ht, hp⟩ R
    exact body C G ⟨htl, hm, hml, ho, fun w hw => hts w (List.mem_cons_of_mem _ hw), hE⟩ (by rw [hrm]; exact ⟨rfl, rfl⟩) (by rw [hrm]; exact ⟨rfl, rfl⟩) hl hnm u0 u1 u2 u3 S V ht hp (fun pc lo r S' V' nc ns d q hc hs => R.2.1 rfl pc lo r S' V' nc ns d ⟨u0, u1, u2, u3, r, rfl, rfl, q⟩ hc hs)
theorem d13_32_0 : decode b_13_32 0 = .ok (.aload_n 0, 1) := by decide +kernel
theorem d13_32_1 : decode b_13_32 1 = .ok (.iload_n 1, 1) := by decide +kernel
theorem d13_32_2 : decode b_13_32 2 = .ok (.iload_n 2, 1) := by decide +kernel
theorem d13_32_3 : decode b_13_32 3 = .ok (.iload_n 3, 1) := by decide +kernel
theorem d13_32_4 : decode b_13_32 4 = .ok (.invokevirtual 207, 3) := by decide +kernel
theorem d13_32_7 : decode b_13_32 7 = .ok (.istore 4, 2) := by decide +kernel
theorem d13_32_9 : decode b_13_32 9 = .ok (.iload 4, 2) := by decide +kernel
theorem d13_32_11 : decode b_13_32 11 = .ok (.ifCond .ge 12, 3) := by decide +kernel
theorem d13_32_14 : decode b_13_32 14 = .ok (.aload_n 0, 1) := by decide +kernel
theorem d13_32_15 : decode b_13_32 15 = .ok (.iload 4, 2) := by decide +kernel
theorem d13_32_17 : decode b_13_32 17 = .ok (.invokevirtual 82, 3) := by decide +kernel
theorem d13_32_20 : decode b_13_32 20 = .ok (.goto 7, 3) := by decide +kernel
theorem d13_32_23 : decode b_13_32 23 = .ok (.aload_n 0, 1) := by decide +kernel
theorem d13_32_24 : decode b_13_32 24 = .ok (.invokevirtual 210, 3) := by decide +kernel
theorem d13_32_27 : decode b_13_32 27 = .ok (.ireturn, 1) := by decide +kernel
theorem K13_32_4 {C : qCx} {G : jG} {mc ms : Nat} {p : Int → Int → Int → Int → jS → jH → Prop} {q : Int → Int → Int → Int → jS → jH → Int → jS → jH → Prop} (h : x13_32 C G) (hrm : C.2.2.2.1.frames = 5 ∧ C.2.2.2.1.locals = 124) (hM : M13_30 C.2.1 mc ms p q) : j_Call C b_13_32 n_KT G.1 G.2.1 5 (.invokevirtual 207) mc ms (fun a S V => ∃ u0 u1 u2 u3 : Int, a = [(2, u0), (0, u1), (0, u2), (0, u3)] ∧ S.1 u0 = 33 ∧ p u0 u1 u2 u3 S V) (fun a S V rs S' V' => ∃ u0 u1 u2 u3 r : Int, a = [(2, u0), (0, u1), (0, u2), (0, u3)] ∧ rs = [(0, r)] ∧ q u0 u1 u2 u3 S V r S' V') := j_callV n_NWk h.2.2.2.2.2 h.1 hM ⟨h.2.1.1, h.2.1.2, h.2.2.1, h.2.2.2.1, h.2.2.2.2.1⟩ ⟨n_CB (y := y_13_30) (bytes := b_13_30) 3 h.2.2.2.2.1 n_w1009 n_w1006 n_w12 ⟨by decide, by decide, by decide +kernel⟩ rfl rfl ⟨by rw [hrm.1]; exact Nat.le_of_ble_eq_true rfl, by rw [hrm.2]; exact Nat.le_of_ble_eq_true rfl⟩, h.2.2.2.2.1 _ n_w1008, h.2.2.2.2.1 _ n_s35⟩ (Cn := RX12) (fun a S V hP => by obtain ⟨u0, u1, u2, u3, rfl, e, -⟩ := hP; exact ⟨u0, _, 12, _, _, TX12, 31, rfl, rfl, by rw [e]; decide, by rw [e]; rfl, rfl⟩)
theorem K13_32_17 {C : qCx} {G : jG} {mc ms : Nat} {p : Int → Int → jS → jH → Prop} {q : Int → Int → jS → jH → Int → jS → jH → Prop} (h : x13_32 C G) (hrm : C.2.2.2.1.frames = 5 ∧ C.2.2.2.1.locals = 124) (hM : M13_2 C.2.1 mc ms p q) : j_Call C b_13_32 n_KT G.1 G.2.1 5 (.invokevirtual 82) mc ms (fun a S V => ∃ u0 u1 : Int, a = [(2, u0), (0, u1)] ∧ S.1 u0 = 33 ∧ p u0 u1 S V) (fun a S V rs S' V' => ∃ u0 u1 r : Int, a = [(2, u0), (0, u1)] ∧ rs = [(0, r)] ∧ q u0 u1 S V r S' V') := j_callV n_NWk h.2.2.2.2.2 h.1 hM ⟨h.2.1.1, h.2.1.2, h.2.2.1, h.2.2.2.1, h.2.2.2.2.1⟩ ⟨n_CB (y := y_13_2) (bytes := b_13_2) 1 h.2.2.2.2.1 n_w928 n_w925 n_w12 ⟨by decide, by decide, by decide +kernel⟩ rfl rfl ⟨by rw [hrm.1]; exact Nat.le_of_ble_eq_true rfl, by rw [hrm.2]; exact Nat.le_of_ble_eq_true rfl⟩, h.2.2.2.2.1 _ n_w927, h.2.2.2.2.1 _ n_s27⟩ (Cn := RX12) (fun a S V hP => by obtain ⟨u0, u1, rfl, e, -⟩ := hP; exact ⟨u0, _, 12, _, _, TX12, 31, rfl, rfl, by rw [e]; decide, by rw [e]; rfl, rfl⟩)
theorem K13_32_24 {C : qCx} {G : jG} {mc ms : Nat} {p : Int → jS → jH → Prop} {q : Int → jS → jH → Int → jS → jH → Prop} (h : x13_32 C G) (hrm : C.2.2.2.1.frames = 5 ∧ C.2.2.2.1.locals = 124) (hM : M13_31 C.2.1 mc ms p q) : j_Call C b_13_32 n_KT G.1 G.2.1 5 (.invokevirtual 210) mc ms (fun a S V => ∃ u0 : Int, a = [(2, u0)] ∧ S.1 u0 = 33 ∧ p u0 S V) (fun a S V rs S' V' => ∃ u0 r : Int, a = [(2, u0)] ∧ rs = [(0, r)] ∧ q u0 S V r S' V') := j_callV n_NWk h.2.2.2.2.2 h.1 hM ⟨h.2.1.1, h.2.1.2, h.2.2.1, h.2.2.2.1, h.2.2.2.2.1⟩ ⟨n_CB (y := y_13_31) (bytes := b_13_31) 0 h.2.2.2.2.1 n_w1042 n_w1039 n_w12 ⟨by decide, by decide, by decide +kernel⟩ rfl rfl ⟨by rw [hrm.1]; exact Nat.le_of_ble_eq_true rfl, by rw [hrm.2]; exact Nat.le_of_ble_eq_true rfl⟩, h.2.2.2.2.1 _ n_w1041, h.2.2.2.2.1 _ n_s42⟩ (Cn := RX12) (fun a S V hP => by obtain ⟨u0, rfl, e, -⟩ := hP; exact ⟨u0, _, 12, _, _, TX12, 31, rfl, rfl, by rw [e]; decide, by rw [e]; rfl, rfl⟩)
theorem t13_32_0 {C : qCx} {G : jG} {S : jS} {V : jH} {nc ns : Nat} {l0 l1 l2 l3 : Int} {mc ms : Nat} {pp : Int → Int → Int → Int → jS → jH → Prop} {qq : Int → Int → Int → Int → jS → jH → Int → jS → jH → Prop} (h : x13_32 C G) (hrm : C.2.2.2.1.frames = 5 ∧ C.2.2.2.1.locals = 124) (c1 : S.1 l0 = 33) (hM : M13_30 C.2.1 mc ms pp qq) (hp : pp l0 l1 l2 l3 S V) (hc : nc + mc ≤ C.2.2.2.1.cells) (hs : ns + ms ≤ C.2.2.2.1.slots) (k : ∀ (r : Int) (S' : jS) (V' : jH), qq l0 l1 l2 l3 S V r S' V' → j_ok n_KT 5 C G 7 [(0, (2, l0))] [(0, r)] S' V' (nc + mc) (ns + ms)) : j_ok n_KT 5 C G 0 [(0, (2, l0)), (1, (0, l1)), (2, (0, l2)), (3, (0, l3))] [] S V nc ns := by
  have E := n_E h
  refine j_aload_n E d13_32_0 rfl 0 rfl ?_
  refine j_iload_n E d13_32_1 rfl 1 rfl ?_
  refine j_iload_n E d13_32_2 rfl 2 rfl ?_
  refine j_iload_n E d13_32_3 rfl 3 rfl ?_
  refine j_call E (K13_32_4 h hrm hM) d13_32_4 (a := [(2, l0), (0, l1), (0, l2), (0, l3)]) (sk := []) rfl ⟨l0, l1, l2, l3, rfl, c1, hp⟩ (Nat.le_of_ble_eq_true rfl) hc hs ?_
  rintro rs S' V' ⟨z0, z1, z2, z3, r, e1, rfl, q⟩
  simp only [List.cons.injEq, Prod.mk.injEq, and_true, true_and] at e1
  obtain ⟨rfl, rfl, rfl, rfl⟩ := e1
  exact j_pick [0] rfl (k r S' V' q)
theorem t13_32_7 {C : qCx} {G : jG} {S : jS} {V : jH} {nc ns : Nat} {l0 s0 : Int} (h : x13_32 C G)  (k : 0 ≤ s0 → j_ok n_KT 5 C G 23 [(0, (2, l0))] [] S V nc ns) (k' : s0 < 0 → j_ok n_KT 5 C G 14 [(0, (2, l0)), (4, (0, s0))] [] S V nc ns) : j_ok n_KT 5 C G 7 [(0, (2, l0))] [(0, s0)] S V nc ns := by
  have E := n_E h
  refine j_istore E d13_32_7 (by decide) (lo1 := [(0, (2, l0))]) rfl ?_
  refine j_iload E d13_32_9 0 rfl ?_
  exact j_if_ge E d13_32_11 (t := 23) rfl (fun q => j_pick [1] rfl (k q)) (fun q => j_pick [1, 0] rfl (k' q))
theorem t13_32_14 {C : qCx} {G : jG} {S : jS} {V : jH} {nc ns : Nat} {l0 l4 : Int} {mc ms : Nat} {pp : Int → Int → jS → jH → Prop} {qq : Int → Int → jS → jH → Int → jS → jH → Prop} (h : x13_32 C G) (hrm : C.2.2.2.1.frames = 5 ∧ C.2.2.2.1.locals = 124) (c1 : S.1 l0 = 33) (hM : M13_2 C.2.1 mc ms pp qq) (hp : pp l0 l4 S V) (hc : nc + mc ≤ C.2.2.2.1.cells) (hs : ns + ms ≤ C.2.2.2.1.slots) (k : ∀ (r : Int) (S' : jS) (V' : jH), qq l0 l4 S V r S' V' → j_ok n_KT 5 C G 20 [] [(0, r)] S' V' (nc + mc) (ns + ms)) : j_ok n_KT 5 C G 14 [(0, (2, l0)), (4, (0, l4))] [] S V nc ns := by
  have E := n_E h
  refine j_aload_n E d13_32_14 rfl 0 rfl ?_
  refine j_iload E d13_32_15 1 rfl ?_
  refine j_call E (K13_32_17 h hrm hM) d13_32_17 (a := [(2, l0), (0, l4)]) (sk := []) rfl ⟨l0, l4, rfl, c1, hp⟩ (Nat.le_of_ble_eq_true rfl) hc hs ?_
  rintro rs S' V' ⟨z0, z1, r, e1, rfl, q⟩
  simp only [List.cons.injEq, Prod.mk.injEq, and_true, true_and] at e1
  obtain ⟨rfl, rfl⟩ := e1
  exact j_pick [] rfl (k r S' V' q)
theorem t13_32_20 {C : qCx} {G : jG} {S : jS} {V : jH} {nc ns : Nat} {s0 : Int} (h : x13_32 C G)  (k : j_ok n_KT 5 C G 27 [] [(0, s0)] S V nc ns) : j_ok n_KT 5 C G 20 [] [(0, s0)] S V nc ns := by
  have E := n_E h
  refine j_goto E d13_32_20 (t := 27) rfl ?_
  exact j_pick [] rfl k
theorem t13_32_23 {C : qCx} {G : jG} {S : jS} {V : jH} {nc ns : Nat} {l0 : Int} {mc ms : Nat} {pp : Int → jS → jH → Prop} {qq : Int → jS → jH → Int → jS → jH → Prop} (h : x13_32 C G) (hrm : C.2.2.2.1.frames = 5 ∧ C.2.2.2.1.locals = 124) (c1 : S.1 l0 = 33) (hM : M13_31 C.2.1 mc ms pp qq) (hp : pp l0 S V) (hc : nc + mc ≤ C.2.2.2.1.cells) (hs : ns + ms ≤ C.2.2.2.1.slots) (k : ∀ (r : Int) (S' : jS) (V' : jH), qq l0 S V r S' V' → j_ok n_KT 5 C G 27 [] [(0, r)] S' V' (nc + mc) (ns + ms)) : j_ok n_KT 5 C G 23 [(0, (2, l0))] [] S V nc ns := by
  have E := n_E h
  refine j_aload_n E d13_32_23 rfl 0 rfl ?_
  refine j_call E (K13_32_24 h hrm hM) d13_32_24 (a := [(2, l0)]) (sk := []) rfl ⟨l0, rfl, c1, hp⟩ (Nat.le_of_ble_eq_true rfl) hc hs ?_
  rintro rs S' V' ⟨z0, r, e1, rfl, q⟩
  simp only [List.cons.injEq, Prod.mk.injEq, and_true, true_and] at e1
  obtain ⟨rfl⟩ := e1
  exact j_pick [] rfl (k r S' V' q)
theorem t13_32_27 {C : qCx} {G : jG} {S : jS} {V : jH} {nc ns : Nat} {s0 : Int} {mc ms : Nat} {qf : Int → jS → jH → Prop} (h : x13_32 C G)  (R : j_Ri n_KT 5 C G b_13_32 mc ms qf) (q : qf s0 S V) (hc : nc ≤ mc) (hs : ns ≤ ms) : j_ok n_KT 5 C G 27 [] [(0, s0)] S V nc ns := by
  have E := n_E h
  exact R _ _ _ _ _ _ _ d13_32_27 q hc hs
/- BalanceCoderModel.ahead(III)I -/
abbrev b_13_33 : ByteArray := prog_13_method_33_code
def y_13_33 : MethodName := ⟨"BalanceCoderModel", "ahead", "(III)I"⟩
abbrev x13_33 (C : qCx) (G : jG) : Prop := n_ctx C b_13_33 4 "BalanceCoderModel" G.1 G.2.1
def M13_33 (l : Launch) (mc ms : Nat) (p : Int → Int → Int → Int → jS → jH → Prop) (q : Int → Int → Int → Int → jS → jH → Int → jS → jH → Prop) : Prop := j_Met l vwCl n_TL n_NW n_KT y_13_33 (Cond.code y_13_33 b_13_33 4 (some .int) :: n_GW) { frames := 5, cells := mc, slots := ms, locals := 124 } mc ms (fun a S V => ∃ u0 u1 u2 u3 : Int, a = [(2, u0), (0, u1), (0, u2), (0, u3)] ∧ S.1 u0 = 33 ∧ p u0 u1 u2 u3 S V) (fun a S V rs S' V' => ∃ u0 u1 u2 u3 r : Int, a = [(2, u0), (0, u1), (0, u2), (0, u3)] ∧ rs = [(0, r)] ∧ q u0 u1 u2 u3 S V r S' V')
theorem e13_33 {l : Launch} {mc ms : Nat} {p : Int → Int → Int → Int → jS → jH → Prop} {q : Int → Int → Int → Int → jS → jH → Int → jS → jH → Prop} (body : ∀ (C : qCx) (G : jG), x13_33 C G → C.2.2.2.1.frames = 5 ∧ C.2.2.2.1.locals = 124 → C.2.2.2.1.cells = mc ∧ C.2.2.2.1.slots = ms → C.2.1 = l → C.2.2.2.2.2.2.2.2.1.name = "ahead" → ∀ (u0 u1 u2 u3 : Int) (S : jS) (V : jH), S.1 u0 = 33 → p u0 u1 u2 u3 S V → j_Ri n_KT 4 C G b_13_33 mc ms (q u0 u1 u2 u3 S V) → j_ok n_KT 4 C G 0 [(0, (2, u0)), (1, (0, u1)), (2, (0, u2)), (3, (0, u3))] [] S V 0 0) : M13_33 l mc ms p q := by
  refine j_method (ws' := n_GW) (by decide) rfl ?_ ?_
  · rintro a S V ⟨u0, u1, u2, u3, rfl, -⟩
    exact Nat.le_of_ble_eq_true rfl
  · rintro C G htl hl hrm hm hml ho hts hnm hE a S V ⟨u0, u1, u2, u3, rfl, ht, hp⟩ R
    exact body C G ⟨htl, hm, hml, ho, fun w hw => hts w (List.mem_cons_of_mem _ hw), hE⟩ (by rw [hrm]; exact ⟨rfl, rfl⟩) (by rw [hrm]; exact ⟨rfl, rfl⟩) hl hnm u0 u1 u2 u3 S V ht hp (fun pc lo r S' V' nc ns d q hc hs => R.2.1 rfl pc lo r S' V' nc ns d ⟨u0, u1, u2, u3, r, rfl, rfl, q⟩ hc hs)
theorem d13_33_0 : decode b_13_33 0 = .ok (.aload_n 0, 1) := by decide +kernel
theorem d13_33_1 : decode b_13_33 1 = .ok (.aload_n 0, 1) := by decide +kernel
theorem d13_33_2 : decode b_13_33 2 = .ok (.iload_n 1, 1) := by decide +kernel
theorem d13_33_3 : decode b_13_33 3 = .ok (.iload_n 2, 1) := by decide +kernel
theorem d13_33_4 : decode b_13_33 4 = .ok (.iload_n 3, 1) := by decide +kernel
theorem d13_33_5 : decode b_13_33 5 = .ok (.invokevirtual 207, 3) := by decide +kernel
theorem d13_33_8 : decode b_13_33 8 = .ok (.invokevirtual 82, 3) := by decide +kernel
theorem d13_33_11 : decode b_13_33 11 = .ok (.ireturn, 1) := by decide +kernel
theorem K13_33_5 {C : qCx} {G : jG} {mc ms : Nat} {p : Int → Int → Int → Int → jS → jH → Prop} {q : Int → Int → Int → Int → jS → jH → Int → jS → jH → Prop} (h : x13_33 C G) (hrm : C.2.2.2.1.frames = 5 ∧ C.2.2.2.1.locals = 124) (hM : M13_30 C.2.1 mc ms p q) : j_Call C b_13_33 n_KT G.1 G.2.1 4 (.invokevirtual 207) mc ms (fun a S V => ∃ u0 u1 u2 u3 : Int, a = [(2, u0), (0, u1), (0, u2), (0, u3)] ∧ S.1 u0 = 33 ∧ p u0 u1 u2 u3 S V) (fun a S V rs S' V' => ∃ u0 u1 u2 u3 r : Int, a = [(2, u0), (0, u1), (0, u2), (0, u3)] ∧ rs = [(0, r)] ∧ q u0 u1 u2 u3 S V r S' V') := j_callV n_NWk h.2.2.2.2.2 h.1 hM ⟨h.2.1.1, h.2.1.2, h.2.2.1, h.2.2.2.1, h.2.2.2.2.1⟩ ⟨n_CB (y := y_13_30) (bytes := b_13_30) 3 h.2.2.2.2.1 n_w1009 n_w1006 n_w12 ⟨by decide, by decide, by decide +kernel⟩ rfl rfl ⟨by rw [hrm.1]; exact Nat.le_of_ble_eq_true rfl, by rw [hrm.2]; exact Nat.le_of_ble_eq_true rfl⟩, h.2.2.2.2.1 _ n_w1008, h.2.2.2.2.1 _ n_s35⟩ (Cn := RX12) (fun a S V hP => by obtain ⟨u0, u1, u2, u3, rfl, e, -⟩ := hP; exact ⟨u0, _, 12, _, _, TX12, 31, rfl, rfl, by rw [e]; decide, by rw [e]; rfl, rfl⟩)
theorem K13_33_8 {C : qCx} {G : jG} {mc ms : Nat} {p : Int → Int → jS → jH → Prop} {q : Int → Int → jS → jH → Int → jS → jH → Prop} (h : x13_33 C G) (hrm : C.2.2.2.1.frames = 5 ∧ C.2.2.2.1.locals = 124) (hM : M13_2 C.2.1 mc ms p q) : j_Call C b_13_33 n_KT G.1 G.2.1 4 (.invokevirtual 82) mc ms (fun a S V => ∃ u0 u1 : Int, a = [(2, u0), (0, u1)] ∧ S.1 u0 = 33 ∧ p u0 u1 S V) (fun a S V rs S' V' => ∃ u0 u1 r : Int, a = [(2, u0), (0, u1)] ∧ rs = [(0, r)] ∧ q u0 u1 S V r S' V') := j_callV n_NWk h.2.2.2.2.2 h.1 hM ⟨h.2.1.1, h.2.1.2, h.2.2.1, h.2.2.2.1, h.2.2.2.2.1⟩ ⟨n_CB (y := y_13_2) (bytes := b_13_2) 1 h.2.2.2.2.1 n_w928 n_w925 n_w12 ⟨by decide, by decide, by decide +kernel⟩ rfl rfl ⟨by rw [hrm.1]; exact Nat.le_of_ble_eq_true rfl, by rw [hrm.2]; exact Nat.le_of_ble_eq_true rfl⟩, h.2.2.2.2.1 _ n_w927, h.2.2.2.2.1 _ n_s27⟩ (Cn := RX12) (fun a S V hP => by obtain ⟨u0, u1, rfl, e, -⟩ := hP; exact ⟨u0, _, 12, _, _, TX12, 31, rfl, rfl, by rw [e]; decide, by rw [e]; rfl, rfl⟩)
theorem t13_33_0 {C : qCx} {G : jG} {S : jS} {V : jH} {nc ns : Nat} {l0 l1 l2 l3 : Int} {mc ms : Nat} {pp : Int → Int → Int → Int → jS → jH → Prop} {qq : Int → Int → Int → Int → jS → jH → Int → jS → jH → Prop} (h : x13_33 C G) (hrm : C.2.2.2.1.frames = 5 ∧ C.2.2.2.1.locals = 124) (c1 : S.1 l0 = 33) (hM : M13_30 C.2.1 mc ms pp qq) (hp : pp l0 l1 l2 l3 S V) (hc : nc + mc ≤ C.2.2.2.1.cells) (hs : ns + ms ≤ C.2.2.2.1.slots) (k : ∀ (r : Int) (S' : jS) (V' : jH), qq l0 l1 l2 l3 S V r S' V' → j_ok n_KT 4 C G 8 [] [(0, r), (2, l0)] S' V' (nc + mc) (ns + ms)) : j_ok n_KT 4 C G 0 [(0, (2, l0)), (1, (0, l1)), (2, (0, l2)), (3, (0, l3))] [] S V nc ns := by
  have E := n_E h
  refine j_aload_n E d13_33_0 rfl 0 rfl ?_
  refine j_aload_n E d13_33_1 rfl 0 rfl ?_
  refine j_iload_n E d13_33_2 rfl 1 rfl ?_
  refine j_iload_n E d13_33_3 rfl 2 rfl ?_
  refine j_iload_n E d13_33_4 rfl 3 rfl ?_
  refine j_call E (K13_33_5 h hrm hM) d13_33_5 (a := [(2, l0), (0, l1), (0, l2), (0, l3)]) (sk := [(2, l0)]) rfl ⟨l0, l1, l2, l3, rfl, c1, hp⟩ (Nat.le_of_ble_eq_true rfl) hc hs ?_
  rintro rs S' V' ⟨z0, z1, z2, z3, r, e1, rfl, q⟩
  simp only [List.cons.injEq, Prod.mk.injEq, and_true, true_and] at e1
  obtain ⟨rfl, rfl, rfl, rfl⟩ := e1
  exact j_pick [] rfl (k r S' V' q)
theorem t13_33_8 {C : qCx} {G : jG} {S : jS} {V : jH} {nc ns : Nat} {s0 s1 : Int} {mc ms : Nat} {pp : Int → Int → jS → jH → Prop} {qq : Int → Int → jS → jH → Int → jS → jH → Prop} (h : x13_33 C G) (hrm : C.2.2.2.1.frames = 5 ∧ C.2.2.2.1.locals = 124) (c1 : S.1 s1 = 33) (hM : M13_2 C.2.1 mc ms pp qq) (hp : pp s1 s0 S V) (hc : nc + mc ≤ C.2.2.2.1.cells) (hs : ns + ms ≤ C.2.2.2.1.slots) (k : ∀ (r : Int) (S' : jS) (V' : jH), qq s1 s0 S V r S' V' → j_ok n_KT 4 C G 11 [] [(0, r)] S' V' (nc + mc) (ns + ms)) : j_ok n_KT 4 C G 8 [] [(0, s0), (2, s1)] S V nc ns := by
  have E := n_E h
  refine j_call E (K13_33_8 h hrm hM) d13_33_8 (a := [(2, s1), (0, s0)]) (sk := []) rfl ⟨s1, s0, rfl, c1, hp⟩ (Nat.le_of_ble_eq_true rfl) hc hs ?_
  rintro rs S' V' ⟨z0, z1, r, e1, rfl, q⟩
  simp only [List.cons.injEq, Prod.mk.injEq, and_true, true_and] at e1
  obtain ⟨rfl, rfl⟩ := e1
  exact j_pick [] rfl (k r S' V' q)
theorem t13_33_11 {C : qCx} {G : jG} {S : jS} {V : jH} {nc ns : Nat} {s0 : Int} {mc ms : Nat} {qf : Int → jS → jH → Prop} (h : x13_33 C G)  (R : j_Ri n_KT 4 C G b_13_33 mc ms qf) (q : qf s0 S V) (hc : nc ≤ mc) (hs : ns ≤ ms) : j_ok n_KT 4 C G 11 [] [(0, s0)] S V nc ns := by
  have E := n_E h
  exact R _ _ _ _ _ _ _ d13_33_11 q hc hs
/- BalanceCoderModel.packAs(IIII)I -/
abbrev b_13_35 : ByteArray := prog_13_method_35_code
def y_13_35 : MethodName := ⟨"BalanceCoderModel", "packAs", "(IIII)I"⟩
abbrev x13_35 (C : qCx) (G : jG) : Prop := n_ctx C b_13_35 6 "BalanceCoderModel" G.1 G.2.1
def M13_35 (l : Launch) (mc ms : Nat) (p : Int → Int → Int → Int → Int → jS → jH → Prop) (q : Int → Int → Int → Int → Int → jS → jH → Int → jS → jH → Prop) : Prop := j_Met l vwCl n_TL n_NW n_KT y_13_35 (Cond.code y_13_35 b_13_35 6 (some .int) :: n_GW) { frames := 4, cells := mc, slots := ms, locals := 100 } mc ms (fun a S V => ∃ u0 u1 u2 u3 u4 : Int, a = [(2, u0), (0, u1), (0, u2), (0, u3), (0, u4)] ∧ S.1 u0 = 33 ∧ p u0 u1 u2 u3 u4 S V) (fun a S V rs S' V' => ∃ u0 u1 u2 u3 u4 r : Int, a = [(2, u0), (0, u1), (0, u2), (0, u3), (0, u4)] ∧ rs = [(0, r)] ∧ q u0 u1 u2 u3 u4 S V r S' V')
theorem e13_35 {l : Launch} {mc ms : Nat} {p : Int → Int → Int → Int → Int → jS → jH → Prop} {q : Int → Int → Int → Int → Int → jS → jH → Int → jS → jH → Prop} (body : ∀ (C : qCx) (G : jG), x13_35 C G → C.2.2.2.1.frames = 4 ∧ C.2.2.2.1.locals = 100 → C.2.2.2.1.cells = mc ∧ C.2.2.2.1.slots = ms → C.2.1 = l → C.2.2.2.2.2.2.2.2.1.name = "packAs" → ∀ (u0 u1 u2 u3 u4 : Int) (S : jS) (V : jH), S.1 u0 = 33 → p u0 u1 u2 u3 u4 S V → j_Ri n_KT 6 C G b_13_35 mc ms (q u0 u1 u2 u3 u4 S V) → j_ok n_KT 6 C G 0 [(0, (2, u0)), (1, (0, u1)), (2, (0, u2)), (3, (0, u3)), (4, (0, u4))] [] S V 0 0) : M13_35 l mc ms p q := by
  refine j_method (ws' := n_GW) (by decide) rfl ?_ ?_
  · rintro a S V ⟨u0, u1, u2, u3, u4, rfl, -⟩
    exact Nat.le_of_ble_eq_true rfl
  · rintro C G htl hl hrm hm hml ho hts hnm hE a S V ⟨u0, u1, u2, u3, u4, rfl, ht, hp⟩ R
    exact body C G ⟨htl, hm, hml, ho, fun w hw => hts w (List.mem_cons_of_mem _ hw), hE⟩ (by rw [hrm]; exact ⟨rfl, rfl⟩) (by rw [hrm]; exact ⟨rfl, rfl⟩) hl hnm u0 u1 u2 u3 u4 S V ht hp (fun pc lo r S' V' nc ns d q hc hs => R.2.1 rfl pc lo r S' V' nc ns d ⟨u0, u1, u2, u3, u4, r, rfl, rfl, q⟩ hc hs)
theorem d13_35_0 : decode b_13_35 0 = .ok (.aload_n 0, 1) := by decide +kernel
theorem d13_35_1 : decode b_13_35 1 = .ok (.iload_n 1, 1) := by decide +kernel
theorem d13_35_2 : decode b_13_35 2 = .ok (.putfield 149, 3) := by decide +kernel
theorem d13_35_5 : decode b_13_35 5 = .ok (.aload_n 0, 1) := by decide +kernel
theorem d13_35_6 : decode b_13_35 6 = .ok (.iconst 1, 1) := by decide +kernel
theorem d13_35_7 : decode b_13_35 7 = .ok (.iload_n 2, 1) := by decide +kernel
theorem d13_35_8 : decode b_13_35 8 = .ok (.ishl, 1) := by decide +kernel
theorem d13_35_9 : decode b_13_35 9 = .ok (.putfield 171, 3) := by decide +kernel
theorem d13_35_12 : decode b_13_35 12 = .ok (.iload_n 1, 1) := by decide +kernel
theorem d13_35_13 : decode b_13_35 13 = .ok (.iconst 2, 1) := by decide +kernel
theorem d13_35_14 : decode b_13_35 14 = .ok (.if_icmp .eq 8, 3) := by decide +kernel
theorem d13_35_17 : decode b_13_35 17 = .ok (.iload_n 1, 1) := by decide +kernel
theorem d13_35_18 : decode b_13_35 18 = .ok (.iconst 3, 1) := by decide +kernel
theorem d13_35_19 : decode b_13_35 19 = .ok (.if_icmp .ne 18, 3) := by decide +kernel
theorem d13_35_22 : decode b_13_35 22 = .ok (.aload_n 0, 1) := by decide +kernel
theorem d13_35_23 : decode b_13_35 23 = .ok (.iload_n 1, 1) := by decide +kernel
theorem d13_35_24 : decode b_13_35 24 = .ok (.iload_n 2, 1) := by decide +kernel
theorem d13_35_25 : decode b_13_35 25 = .ok (.iload_n 3, 1) := by decide +kernel
theorem d13_35_26 : decode b_13_35 26 = .ok (.aload_n 0, 1) := by decide +kernel
theorem d13_35_27 : decode b_13_35 27 = .ok (.getfield 32, 3) := by decide +kernel
theorem d13_35_30 : decode b_13_35 30 = .ok (.iconst 0, 1) := by decide +kernel
theorem d13_35_31 : decode b_13_35 31 = .ok (.invokevirtual 133, 3) := by decide +kernel
theorem d13_35_34 : decode b_13_35 34 = .ok (.goto 35, 3) := by decide +kernel
theorem d13_35_37 : decode b_13_35 37 = .ok (.iconst 0, 1) := by decide +kernel
theorem d13_35_38 : decode b_13_35 38 = .ok (.istore 5, 2) := by decide +kernel
theorem d13_35_40 : decode b_13_35 40 = .ok (.iload 5, 2) := by decide +kernel
theorem d13_35_42 : decode b_13_35 42 = .ok (.sipush 1024, 3) := by decide +kernel
theorem d13_35_45 : decode b_13_35 45 = .ok (.if_icmp .ge 24, 3) := by decide +kernel
theorem d13_35_48 : decode b_13_35 48 = .ok (.aload_n 0, 1) := by decide +kernel
theorem d13_35_49 : decode b_13_35 49 = .ok (.getfield 32, 3) := by decide +kernel
theorem d13_35_52 : decode b_13_35 52 = .ok (.iload 5, 2) := by decide +kernel
theorem d13_35_54 : decode b_13_35 54 = .ok (.aload_n 0, 1) := by decide +kernel
theorem d13_35_55 : decode b_13_35 55 = .ok (.getfield 171, 3) := by decide +kernel
theorem d13_35_58 : decode b_13_35 58 = .ok (.sipush 256, 3) := by decide +kernel
theorem d13_35_61 : decode b_13_35 61 = .ok (.idiv, 1) := by decide +kernel
theorem d13_35_62 : decode b_13_35 62 = .ok (.iastore, 1) := by decide +kernel
theorem d13_35_63 : decode b_13_35 63 = .ok (.iinc 5 1, 3) := by decide +kernel
theorem d13_35_66 : decode b_13_35 66 = .ok (.goto (-26), 3) := by decide +kernel
theorem d13_35_69 : decode b_13_35 69 = .ok (.aload_n 0, 1) := by decide +kernel
theorem d13_35_70 : decode b_13_35 70 = .ok (.iload_n 3, 1) := by decide +kernel
theorem d13_35_71 : decode b_13_35 71 = .ok (.iload_n 2, 1) := by decide +kernel
theorem d13_35_72 : decode b_13_35 72 = .ok (.iload 4, 2) := by decide +kernel
theorem d13_35_74 : decode b_13_35 74 = .ok (.invokevirtual 191, 3) := by decide +kernel
theorem d13_35_77 : decode b_13_35 77 = .ok (.pop, 1) := by decide +kernel
theorem d13_35_78 : decode b_13_35 78 = .ok (.aload_n 0, 1) := by decide +kernel
theorem d13_35_79 : decode b_13_35 79 = .ok (.getfield 161, 3) := by decide +kernel
theorem d13_35_82 : decode b_13_35 82 = .ok (.ireturn, 1) := by decide +kernel
theorem K13_35_31 {C : qCx} {G : jG} {mc ms : Nat} {p : Int → Int → Int → Int → Int → Int → jS → jH → Prop} {q : Int → Int → Int → Int → Int → Int → jS → jH → jS → jH → Prop} (h : x13_35 C G) (hrm : C.2.2.2.1.frames = 4 ∧ C.2.2.2.1.locals = 100) (hM : M13_17 C.2.1 mc ms p q) : j_Call C b_13_35 n_KT G.1 G.2.1 6 (.invokevirtual 133) mc ms (fun a S V => ∃ u0 u1 u2 u3 u4 u5 : Int, a = [(2, u0), (0, u1), (0, u2), (0, u3), (2, u4), (0, u5)] ∧ S.1 u0 = 33 ∧ p u0 u1 u2 u3 u4 u5 S V) (fun a S V rs S' V' => ∃ u0 u1 u2 u3 u4 u5 : Int, a = [(2, u0), (0, u1), (0, u2), (0, u3), (2, u4), (0, u5)] ∧ rs = [] ∧ q u0 u1 u2 u3 u4 u5 S V S' V') := j_callV n_NWk h.2.2.2.2.2 h.1 hM ⟨h.2.1.1, h.2.1.2, h.2.2.1, h.2.2.2.1, h.2.2.2.2.1⟩ ⟨n_CB (y := y_13_17) (bytes := b_13_17) 5 h.2.2.2.2.1 n_w972 n_w969 n_w12 ⟨by decide, by decide, by decide +kernel⟩ rfl rfl ⟨by rw [hrm.1]; exact Nat.le_of_ble_eq_true rfl, by rw [hrm.2]; exact Nat.le_of_ble_eq_true rfl⟩, h.2.2.2.2.1 _ n_w971, h.2.2.2.2.1 _ n_s31⟩ (Cn := RX12) (fun a S V hP => by obtain ⟨u0, u1, u2, u3, u4, u5, rfl, e, -⟩ := hP; exact ⟨u0, _, 12, _, _, TX12, 31, rfl, rfl, by rw [e]; decide, by rw [e]; rfl, rfl⟩)
theorem K13_35_74 {C : qCx} {G : jG} {mc ms : Nat} {p : Int → Int → Int → Int → jS → jH → Prop} {q : Int → Int → Int → Int → jS → jH → Int → jS → jH → Prop} (h : x13_35 C G) (hrm : C.2.2.2.1.frames = 4 ∧ C.2.2.2.1.locals = 100) (hM : M13_27 C.2.1 mc ms p q) : j_Call C b_13_35 n_KT G.1 G.2.1 6 (.invokevirtual 191) mc ms (fun a S V => ∃ u0 u1 u2 u3 : Int, a = [(2, u0), (0, u1), (0, u2), (0, u3)] ∧ S.1 u0 = 33 ∧ p u0 u1 u2 u3 S V) (fun a S V rs S' V' => ∃ u0 u1 u2 u3 r : Int, a = [(2, u0), (0, u1), (0, u2), (0, u3)] ∧ rs = [(0, r)] ∧ q u0 u1 u2 u3 S V r S' V') := j_callV n_NWk h.2.2.2.2.2 h.1 hM ⟨h.2.1.1, h.2.1.2, h.2.2.1, h.2.2.2.1, h.2.2.2.2.1⟩ ⟨n_CB (y := y_13_27) (bytes := b_13_27) 3 h.2.2.2.2.1 n_w1013 n_w1010 n_w12 ⟨by decide, by decide, by decide +kernel⟩ rfl rfl ⟨by rw [hrm.1]; exact Nat.le_of_ble_eq_true rfl, by rw [hrm.2]; exact Nat.le_of_ble_eq_true rfl⟩, h.2.2.2.2.1 _ n_w1012, h.2.2.2.2.1 _ n_s36⟩ (Cn := RX12) (fun a S V hP => by obtain ⟨u0, u1, u2, u3, rfl, e, -⟩ := hP; exact ⟨u0, _, 12, _, _, TX12, 31, rfl, rfl, by rw [e]; decide, by rw [e]; rfl, rfl⟩)
theorem t13_35_0 {C : qCx} {G : jG} {S : jS} {V : jH} {nc ns : Nat} {l0 l1 l2 l3 l4 : Int} (h : x13_35 C G) (c1 : S.1 l0 = 33) (c2 : 0 ≤ l2) (c3 : l2 ≤ 30) (k : l1 = 2 → j_ok n_KT 6 C G 22 [(0, (2, l0)), (1, (0, l1)), (2, (0, l2)), (3, (0, l3)), (4, (0, l4))] [] S (j_up (j_up V l0 9 l1) l0 10 (2 ^ (l2).toNat)) nc ns) (k' : ¬ l1 = 2 → j_ok n_KT 6 C G 17 [(0, (2, l0)), (1, (0, l1)), (2, (0, l2)), (3, (0, l3)), (4, (0, l4))] [] S (j_up (j_up V l0 9 l1) l0 10 (2 ^ (l2).toNat)) nc ns) : j_ok n_KT 6 C G 0 [(0, (2, l0)), (1, (0, l1)), (2, (0, l2)), (3, (0, l3)), (4, (0, l4))] [] S V nc ns := by
  have E := n_E h
  refine j_aload_n E d13_35_0 rfl 0 rfl ?_
  refine j_iload_n E d13_35_1 rfl 1 rfl ?_
  refine j_putI (f := 9) (fp12_149 h) (n_hap h 33 12 0 _ rfl) d13_35_2 c1 (by decide) rfl rfl rfl ?_
  refine j_aload_n E d13_35_5 rfl 0 rfl ?_
  refine j_iconst E d13_35_6 (by decide) ?_
  refine j_iload_n E d13_35_7 rfl 2 rfl ?_
  refine j_ishl1 E d13_35_8 rfl c2 c3 ?_
  refine j_putI (f := 10) (fp12_171 h) (n_hap h 33 12 0 _ rfl) d13_35_9 c1 (by decide) rfl rfl rfl ?_
  refine j_iload_n E d13_35_12 rfl 1 rfl ?_
  refine j_iconst E d13_35_13 (by decide) ?_
  exact j_icmp_eq E d13_35_14 (t := 22) rfl (fun q => j_pick [0, 1, 2, 3, 4] rfl (k q)) (fun q => j_pick [0, 1, 2, 3, 4] rfl (k' q))
theorem t13_35_17 {C : qCx} {G : jG} {S : jS} {V : jH} {nc ns : Nat} {l0 l1 l2 l3 l4 : Int} (h : x13_35 C G)  (k : ¬ l1 = 3 → j_ok n_KT 6 C G 37 [(0, (2, l0)), (2, (0, l2)), (3, (0, l3)), (4, (0, l4))] [] S V nc ns) (k' : l1 = 3 → j_ok n_KT 6 C G 22 [(0, (2, l0)), (1, (0, l1)), (2, (0, l2)), (3, (0, l3)), (4, (0, l4))] [] S V nc ns) : j_ok n_KT 6 C G 17 [(0, (2, l0)), (1, (0, l1)), (2, (0, l2)), (3, (0, l3)), (4, (0, l4))] [] S V nc ns := by
  have E := n_E h
  refine j_iload_n E d13_35_17 rfl 1 rfl ?_
  refine j_iconst E d13_35_18 (by decide) ?_
  exact j_icmp_ne E d13_35_19 (t := 37) rfl (fun q => j_pick [0, 2, 3, 4] rfl (k q)) (fun q => j_pick [0, 1, 2, 3, 4] rfl (k' q))
theorem t13_35_22 {C : qCx} {G : jG} {S : jS} {V : jH} {nc ns : Nat} {l0 l1 l2 l3 l4 : Int} {mc ms : Nat} {pp : Int → Int → Int → Int → Int → Int → jS → jH → Prop} {qq : Int → Int → Int → Int → Int → Int → jS → jH → jS → jH → Prop} (h : x13_35 C G) (L : j_L S) (hrm : C.2.2.2.1.frames = 4 ∧ C.2.2.2.1.locals = 100) (c1 : S.1 l0 = 33) (hM : M13_17 C.2.1 mc ms pp qq) (hp : pp l0 l1 l2 l3 (l0 + 21) 0 S V) (hc : nc + mc ≤ C.2.2.2.1.cells) (hs : ns + ms ≤ C.2.2.2.1.slots) (k : ∀ (S' : jS) (V' : jH), qq l0 l1 l2 l3 (l0 + 21) 0 S V S' V' → j_ok n_KT 6 C G 34 [(0, (2, l0)), (2, (0, l2)), (3, (0, l3)), (4, (0, l4))] [] S' V' (nc + mc) (ns + ms)) : j_ok n_KT 6 C G 22 [(0, (2, l0)), (1, (0, l1)), (2, (0, l2)), (3, (0, l3)), (4, (0, l4))] [] S V nc ns := by
  have E := n_E h
  refine j_aload_n E d13_35_22 rfl 0 rfl ?_
  refine j_iload_n E d13_35_23 rfl 1 rfl ?_
  refine j_iload_n E d13_35_24 rfl 2 rfl ?_
  refine j_iload_n E d13_35_25 rfl 3 rfl ?_
  refine j_aload_n E d13_35_26 rfl 0 rfl ?_
  refine j_getS (f := 11) (x := l0 + 21) (fg12_32 h) d13_35_27 c1 (by decide) rfl rfl ((L12_11 L c1).trans (by omega)) ?_
  refine j_iconst E d13_35_30 (by decide) ?_
  refine j_call E (K13_35_31 h hrm hM) d13_35_31 (a := [(2, l0), (0, l1), (0, l2), (0, l3), (2, l0 + 21), (0, 0)]) (sk := []) rfl ⟨l0, l1, l2, l3, l0 + 21, 0, rfl, c1, hp⟩ (Nat.le_of_ble_eq_true rfl) hc hs ?_
  rintro rs S' V' ⟨z0, z1, z2, z3, z4, z5, e1, rfl, q⟩
  simp only [List.cons.injEq, Prod.mk.injEq, and_true, true_and] at e1
  obtain ⟨rfl, rfl, rfl, rfl, rfl, rfl⟩ := e1
  exact j_pick [0, 2, 3, 4] rfl (k S' V' q)
theorem t13_35_34 {C : qCx} {G : jG} {S : jS} {V : jH} {nc ns : Nat} {l0 l2 l3 l4 : Int} (h : x13_35 C G)  (k : j_ok n_KT 6 C G 69 [(0, (2, l0)), (2, (0, l2)), (3, (0, l3)), (4, (0, l4))] [] S V nc ns) : j_ok n_KT 6 C G 34 [(0, (2, l0)), (2, (0, l2)), (3, (0, l3)), (4, (0, l4))] [] S V nc ns := by
  have E := n_E h
  refine j_goto E d13_35_34 (t := 69) rfl ?_
  exact j_pick [0, 1, 2, 3] rfl k
theorem t13_35_37 {C : qCx} {G : jG} {S : jS} {V : jH} {nc ns : Nat} {l0 l2 l3 l4 : Int} (h : x13_35 C G)  (k : j_ok n_KT 6 C G 40 [(0, (2, l0)), (2, (0, l2)), (3, (0, l3)), (4, (0, l4)), (5, (0, 0))] [] S V nc ns) : j_ok n_KT 6 C G 37 [(0, (2, l0)), (2, (0, l2)), (3, (0, l3)), (4, (0, l4))] [] S V nc ns := by
  have E := n_E h
  refine j_iconst E d13_35_37 (by decide) ?_
  refine j_istore E d13_35_38 (by decide) (lo1 := [(0, (2, l0)), (2, (0, l2)), (3, (0, l3)), (4, (0, l4))]) rfl ?_
  exact j_pick [1, 2, 3, 4, 0] rfl k
theorem t13_35_40 {C : qCx} {G : jG} {S : jS} {V : jH} {nc ns : Nat} {l0 l2 l3 l4 l5 : Int} (h : x13_35 C G)  (k : 1024 ≤ l5 → j_ok n_KT 6 C G 69 [(0, (2, l0)), (2, (0, l2)), (3, (0, l3)), (4, (0, l4))] [] S V nc ns) (k' : l5 < 1024 → j_ok n_KT 6 C G 48 [(0, (2, l0)), (2, (0, l2)), (3, (0, l3)), (4, (0, l4)), (5, (0, l5))] [] S V nc ns) : j_ok n_KT 6 C G 40 [(0, (2, l0)), (2, (0, l2)), (3, (0, l3)), (4, (0, l4)), (5, (0, l5))] [] S V nc ns := by
  have E := n_E h
  refine j_iload E d13_35_40 4 rfl ?_
  refine j_sipush E d13_35_42 (by decide) ?_
  exact j_icmp_ge E d13_35_45 (t := 69) rfl (fun q => j_pick [0, 1, 2, 3] rfl (k q)) (fun q => j_pick [0, 1, 2, 3, 4] rfl (k' q))
theorem t13_35_48 {C : qCx} {G : jG} {S : jS} {V : jH} {nc ns : Nat} {l0 l2 l3 l4 l5 : Int} (h : x13_35 C G) (L : j_L S) (c1 : S.1 l0 = 33) (c2 : 0 ≤ V l0 10) (c3 : 0 ≤ l5) (c4 : l5 < 1024) (c5 : -2147483648 ≤ l5 + 1 ∧ l5 + 1 ≤ 2147483647) (k : j_ok n_KT 6 C G 40 [(0, (2, l0)), (2, (0, l2)), (3, (0, l3)), (4, (0, l4)), (5, (0, l5 + 1))] [] S (j_up V (l0 + 21) l5 ((V l0 10) / 256)) nc ns) : j_ok n_KT 6 C G 48 [(0, (2, l0)), (2, (0, l2)), (3, (0, l3)), (4, (0, l4)), (5, (0, l5))] [] S V nc ns := by
  have E := n_E h
  refine j_aload_n E d13_35_48 rfl 0 rfl ?_
  refine j_getS (f := 11) (x := l0 + 21) (fg12_32 h) d13_35_49 c1 (by decide) rfl rfl ((L12_11 L c1).trans (by omega)) ?_
  refine j_iload E d13_35_52 4 rfl ?_
  refine j_aload_n E d13_35_54 rfl 0 rfl ?_
  refine j_getI (f := 10) (fg12_171 h) d13_35_55 c1 (by decide) rfl rfl ?_
  refine j_sipush E d13_35_58 (by decide) ?_
  refine j_idiv E d13_35_61 c2 (by decide) ?_
  refine j_iast E d13_35_62 (j_arr_of (show S.1 (l0 + 21) = 12 from (by have q := L12_11k L c1; rw [show l0 + 21 = l0 + 21 by omega]; exact q)) (by decide) rfl) c3 c4 ?_
  refine j_iinc E d13_35_63 (by decide) (by decide) 4 rfl (lo1 := [(0, (2, l0)), (2, (0, l2)), (3, (0, l3)), (4, (0, l4))]) rfl c5 ?_
  refine j_goto E d13_35_66 (t := 40) rfl ?_
  exact j_pick [1, 2, 3, 4, 0] rfl k
theorem t13_35_69 {C : qCx} {G : jG} {S : jS} {V : jH} {nc ns : Nat} {l0 l2 l3 l4 : Int} {mc ms : Nat} {pp : Int → Int → Int → Int → jS → jH → Prop} {qq : Int → Int → Int → Int → jS → jH → Int → jS → jH → Prop} (h : x13_35 C G) (hrm : C.2.2.2.1.frames = 4 ∧ C.2.2.2.1.locals = 100) (c1 : S.1 l0 = 33) (hM : M13_27 C.2.1 mc ms pp qq) (hp : pp l0 l3 l2 l4 S V) (hc : nc + mc ≤ C.2.2.2.1.cells) (hs : ns + ms ≤ C.2.2.2.1.slots) (k : ∀ (r : Int) (S' : jS) (V' : jH), qq l0 l3 l2 l4 S V r S' V' → j_ok n_KT 6 C G 77 [(0, (2, l0))] [(0, r)] S' V' (nc + mc) (ns + ms)) : j_ok n_KT 6 C G 69 [(0, (2, l0)), (2, (0, l2)), (3, (0, l3)), (4, (0, l4))] [] S V nc ns := by
  have E := n_E h
  refine j_aload_n E d13_35_69 rfl 0 rfl ?_
  refine j_iload_n E d13_35_70 rfl 2 rfl ?_
  refine j_iload_n E d13_35_71 rfl 1 rfl ?_
  refine j_iload E d13_35_72 3 rfl ?_
  refine j_call E (K13_35_74 h hrm hM) d13_35_74 (a := [(2, l0), (0, l3), (0, l2), (0, l4)]) (sk := []) rfl ⟨l0, l3, l2, l4, rfl, c1, hp⟩ (Nat.le_of_ble_eq_true rfl) hc hs ?_
  rintro rs S' V' ⟨z0, z1, z2, z3, r, e1, rfl, q⟩
  simp only [List.cons.injEq, Prod.mk.injEq, and_true, true_and] at e1
  obtain ⟨rfl, rfl, rfl, rfl⟩ := e1
  exact j_pick [0] rfl (k r S' V' q)
theorem t13_35_77 {C : qCx} {G : jG} {S : jS} {V : jH} {nc ns : Nat} {l0 s0 : Int} {mc ms : Nat} {qf : Int → jS → jH → Prop} (h : x13_35 C G) (c1 : S.1 l0 = 33) (R : j_Ri n_KT 6 C G b_13_35 mc ms qf) (q : qf (V l0 20) S V) (hc : nc ≤ mc) (hs : ns ≤ ms) : j_ok n_KT 6 C G 77 [(0, (2, l0))] [(0, s0)] S V nc ns := by
  have E := n_E h
  refine j_pop E d13_35_77 rfl ?_
  refine j_aload_n E d13_35_78 rfl 0 rfl ?_
  refine j_getI (f := 20) (fg12_161 h) d13_35_79 c1 (by decide) rfl rfl ?_
  exact R _ _ _ _ _ _ _ d13_35_82 q hc hs
/- BalanceCoderModel.search(I)I -/
abbrev b_13_34 : ByteArray := prog_13_method_34_code
def y_13_34 : MethodName := ⟨"BalanceCoderModel", "search", "(I)I"⟩
abbrev x13_34 (C : qCx) (G : jG) : Prop := n_ctx C b_13_34 8 "BalanceCoderModel" G.1 G.2.1
def M13_34 (l : Launch) (mc ms : Nat) (p : Int → Int → jS → jH → Prop) (q : Int → Int → jS → jH → Int → jS → jH → Prop) : Prop := j_Met l vwCl n_TL n_NW n_KT y_13_34 (Cond.code y_13_34 b_13_34 8 (some .int) :: n_GW) { frames := 5, cells := mc, slots := ms, locals := 125 } mc ms (fun a S V => ∃ u0 u1 : Int, a = [(2, u0), (0, u1)] ∧ S.1 u0 = 33 ∧ p u0 u1 S V) (fun a S V rs S' V' => ∃ u0 u1 r : Int, a = [(2, u0), (0, u1)] ∧ rs = [(0, r)] ∧ q u0 u1 S V r S' V')
theorem e13_34 {l : Launch} {mc ms : Nat} {p : Int → Int → jS → jH → Prop} {q : Int → Int → jS → jH → Int → jS → jH → Prop} (body : ∀ (C : qCx) (G : jG), x13_34 C G → C.2.2.2.1.frames = 5 ∧ C.2.2.2.1.locals = 125 → C.2.2.2.1.cells = mc ∧ C.2.2.2.1.slots = ms → C.2.1 = l → C.2.2.2.2.2.2.2.2.1.name = "search" → ∀ (u0 u1 : Int) (S : jS) (V : jH), S.1 u0 = 33 → p u0 u1 S V → j_Ri n_KT 8 C G b_13_34 mc ms (q u0 u1 S V) → j_ok n_KT 8 C G 0 [(0, (2, u0)), (1, (0, u1))] [] S V 0 0) : M13_34 l mc ms p q := by
  refine j_method (ws' := n_GW) (by decide) rfl ?_ ?_
  · rintro a S V ⟨u0, u1, rfl, -⟩
    exact Nat.le_of_ble_eq_true rfl
  · rintro C G htl hl hrm hm hml ho hts hnm hE a S V ⟨u0, u1, rfl, ht, hp⟩ R
    exact body C G ⟨htl, hm, hml, ho, fun w hw => hts w (List.mem_cons_of_mem _ hw), hE⟩ (by rw [hrm]; exact ⟨rfl, rfl⟩) (by rw [hrm]; exact ⟨rfl, rfl⟩) hl hnm u0 u1 S V ht hp (fun pc lo r S' V' nc ns d q hc hs => R.2.1 rfl pc lo r S' V' nc ns d ⟨u0, u1, r, rfl, rfl, q⟩ hc hs)
theorem d13_34_0 : decode b_13_34 0 = .ok (.iload_n 1, 1) := by decide +kernel
theorem d13_34_1 : decode b_13_34 1 = .ok (.invokestatic 76, 3) := by decide +kernel
theorem d13_34_4 : decode b_13_34 4 = .ok (.ifCond .ne 9, 3) := by decide +kernel
theorem d13_34_7 : decode b_13_34 7 = .ok (.aload_n 0, 1) := by decide +kernel
theorem d13_34_8 : decode b_13_34 8 = .ok (.iconst (-1), 1) := by decide +kernel
theorem d13_34_9 : decode b_13_34 9 = .ok (.invokevirtual 82, 3) := by decide +kernel
theorem d13_34_12 : decode b_13_34 12 = .ok (.ireturn, 1) := by decide +kernel
theorem d13_34_13 : decode b_13_34 13 = .ok (.aload_n 0, 1) := by decide +kernel
theorem d13_34_14 : decode b_13_34 14 = .ok (.getfield 10, 3) := by decide +kernel
theorem d13_34_17 : decode b_13_34 17 = .ok (.getfield 86, 3) := by decide +kernel
theorem d13_34_20 : decode b_13_34 20 = .ok (.iload_n 1, 1) := by decide +kernel
theorem d13_34_21 : decode b_13_34 21 = .ok (.iaload, 1) := by decide +kernel
theorem d13_34_22 : decode b_13_34 22 = .ok (.ifCond .ne 10, 3) := by decide +kernel
theorem d13_34_25 : decode b_13_34 25 = .ok (.aload_n 0, 1) := by decide +kernel
theorem d13_34_26 : decode b_13_34 26 = .ok (.bipush (-7), 2) := by decide +kernel
theorem d13_34_28 : decode b_13_34 28 = .ok (.invokevirtual 82, 3) := by decide +kernel
theorem d13_34_31 : decode b_13_34 31 = .ok (.ireturn, 1) := by decide +kernel
theorem d13_34_32 : decode b_13_34 32 = .ok (.iconst 0, 1) := by decide +kernel
theorem d13_34_33 : decode b_13_34 33 = .ok (.istore_n 2, 1) := by decide +kernel
theorem d13_34_34 : decode b_13_34 34 = .ok (.sipush 4401, 3) := by decide +kernel
theorem d13_34_37 : decode b_13_34 37 = .ok (.istore_n 3, 1) := by decide +kernel
theorem d13_34_38 : decode b_13_34 38 = .ok (.iconst 1, 1) := by decide +kernel
theorem d13_34_39 : decode b_13_34 39 = .ok (.istore 4, 2) := by decide +kernel
theorem d13_34_41 : decode b_13_34 41 = .ok (.iload 4, 2) := by decide +kernel
theorem d13_34_43 : decode b_13_34 43 = .ok (.iconst 4, 1) := by decide +kernel
theorem d13_34_44 : decode b_13_34 44 = .ok (.if_icmp .gt 82, 3) := by decide +kernel
theorem d13_34_47 : decode b_13_34 47 = .ok (.bipush 8, 2) := by decide +kernel
theorem d13_34_49 : decode b_13_34 49 = .ok (.istore 5, 2) := by decide +kernel
theorem d13_34_51 : decode b_13_34 51 = .ok (.iload 5, 2) := by decide +kernel
theorem d13_34_53 : decode b_13_34 53 = .ok (.bipush 12, 2) := by decide +kernel
theorem d13_34_55 : decode b_13_34 55 = .ok (.if_icmp .gt 65, 3) := by decide +kernel
theorem d13_34_58 : decode b_13_34 58 = .ok (.iconst 1, 1) := by decide +kernel
theorem d13_34_59 : decode b_13_34 59 = .ok (.istore 6, 2) := by decide +kernel
theorem d13_34_61 : decode b_13_34 61 = .ok (.iload 6, 2) := by decide +kernel
theorem d13_34_63 : decode b_13_34 63 = .ok (.iconst 4, 1) := by decide +kernel
theorem d13_34_64 : decode b_13_34 64 = .ok (.if_icmp .gt 50, 3) := by decide +kernel
theorem d13_34_67 : decode b_13_34 67 = .ok (.aload_n 0, 1) := by decide +kernel
theorem d13_34_68 : decode b_13_34 68 = .ok (.iload 4, 2) := by decide +kernel
theorem d13_34_70 : decode b_13_34 70 = .ok (.iload 5, 2) := by decide +kernel
theorem d13_34_72 : decode b_13_34 72 = .ok (.iload_n 1, 1) := by decide +kernel
theorem d13_34_73 : decode b_13_34 73 = .ok (.iload 6, 2) := by decide +kernel
theorem d13_34_75 : decode b_13_34 75 = .ok (.invokevirtual 214, 3) := by decide +kernel
theorem d13_34_78 : decode b_13_34 78 = .ok (.istore 7, 2) := by decide +kernel
theorem d13_34_80 : decode b_13_34 80 = .ok (.iload 7, 2) := by decide +kernel
theorem d13_34_82 : decode b_13_34 82 = .ok (.iload_n 3, 1) := by decide +kernel
theorem d13_34_83 : decode b_13_34 83 = .ok (.if_icmp .lt 6, 3) := by decide +kernel
theorem d13_34_86 : decode b_13_34 86 = .ok (.goto 22, 3) := by decide +kernel
theorem d13_34_89 : decode b_13_34 89 = .ok (.iload 7, 2) := by decide +kernel
theorem d13_34_91 : decode b_13_34 91 = .ok (.istore_n 3, 1) := by decide +kernel
theorem d13_34_92 : decode b_13_34 92 = .ok (.sipush 1000, 3) := by decide +kernel
theorem d13_34_95 : decode b_13_34 95 = .ok (.iload 4, 2) := by decide +kernel
theorem d13_34_97 : decode b_13_34 97 = .ok (.imul, 1) := by decide +kernel
theorem d13_34_98 : decode b_13_34 98 = .ok (.bipush 10, 2) := by decide +kernel
theorem d13_34_100 : decode b_13_34 100 = .ok (.iload 5, 2) := by decide +kernel
theorem d13_34_102 : decode b_13_34 102 = .ok (.imul, 1) := by decide +kernel
theorem d13_34_103 : decode b_13_34 103 = .ok (.iadd, 1) := by decide +kernel
theorem d13_34_104 : decode b_13_34 104 = .ok (.iload 6, 2) := by decide +kernel
theorem d13_34_106 : decode b_13_34 106 = .ok (.iadd, 1) := by decide +kernel
theorem d13_34_107 : decode b_13_34 107 = .ok (.istore_n 2, 1) := by decide +kernel
theorem d13_34_108 : decode b_13_34 108 = .ok (.iinc 6 1, 3) := by decide +kernel
theorem d13_34_111 : decode b_13_34 111 = .ok (.goto (-50), 3) := by decide +kernel
theorem d13_34_114 : decode b_13_34 114 = .ok (.iinc 5 1, 3) := by decide +kernel
theorem d13_34_117 : decode b_13_34 117 = .ok (.goto (-66), 3) := by decide +kernel
theorem d13_34_120 : decode b_13_34 120 = .ok (.iinc 4 1, 3) := by decide +kernel
theorem d13_34_123 : decode b_13_34 123 = .ok (.goto (-82), 3) := by decide +kernel
theorem d13_34_126 : decode b_13_34 126 = .ok (.aload_n 0, 1) := by decide +kernel
theorem d13_34_127 : decode b_13_34 127 = .ok (.iload_n 2, 1) := by decide +kernel
theorem d13_34_128 : decode b_13_34 128 = .ok (.sipush 1000, 3) := by decide +kernel
theorem d13_34_131 : decode b_13_34 131 = .ok (.idiv, 1) := by decide +kernel
theorem d13_34_132 : decode b_13_34 132 = .ok (.iload_n 2, 1) := by decide +kernel
theorem d13_34_133 : decode b_13_34 133 = .ok (.bipush 10, 2) := by decide +kernel
theorem d13_34_135 : decode b_13_34 135 = .ok (.idiv, 1) := by decide +kernel
theorem d13_34_136 : decode b_13_34 136 = .ok (.bipush 100, 2) := by decide +kernel
theorem d13_34_138 : decode b_13_34 138 = .ok (.irem, 1) := by decide +kernel
theorem d13_34_139 : decode b_13_34 139 = .ok (.iload_n 1, 1) := by decide +kernel
theorem d13_34_140 : decode b_13_34 140 = .ok (.iload_n 2, 1) := by decide +kernel
theorem d13_34_141 : decode b_13_34 141 = .ok (.bipush 10, 2) := by decide +kernel
theorem d13_34_143 : decode b_13_34 143 = .ok (.irem, 1) := by decide +kernel
theorem d13_34_144 : decode b_13_34 144 = .ok (.invokevirtual 214, 3) := by decide +kernel
theorem d13_34_147 : decode b_13_34 147 = .ok (.pop, 1) := by decide +kernel
theorem d13_34_148 : decode b_13_34 148 = .ok (.aload_n 0, 1) := by decide +kernel
theorem d13_34_149 : decode b_13_34 149 = .ok (.invokevirtual 210, 3) := by decide +kernel
theorem d13_34_152 : decode b_13_34 152 = .ok (.pop, 1) := by decide +kernel
theorem d13_34_153 : decode b_13_34 153 = .ok (.iload_n 2, 1) := by decide +kernel
theorem d13_34_154 : decode b_13_34 154 = .ok (.ireturn, 1) := by decide +kernel
theorem K13_34_1 {C : qCx} {G : jG} {mc ms : Nat} {p : Int → jS → jH → Prop} {q : Int → jS → jH → Int → jS → jH → Prop} (h : x13_34 C G) (hrm : C.2.2.2.1.frames = 5 ∧ C.2.2.2.1.locals = 125) (hM : M13_4 C.2.1 mc ms p q) : j_Call C b_13_34 n_KT G.1 G.2.1 8 (.invokestatic 76) mc ms (fun a S V => ∃ u0 : Int, a = [(0, u0)] ∧ p u0 S V) (fun a S V rs S' V' => ∃ u0 r : Int, a = [(0, u0)] ∧ rs = [(0, r)] ∧ q u0 S V r S' V') := j_callS n_NWk h.2.2.2.2.2 h.1 hM ⟨h.2.1.1, h.2.1.2, h.2.2.1, h.2.2.2.1, h.2.2.2.2.1⟩ ⟨n_CB (y := y_13_4) (bytes := b_13_4) 1 h.2.2.2.2.1 n_w919 n_w917 n_w12 ⟨by decide, by decide, by decide +kernel⟩ rfl rfl ⟨by rw [hrm.1]; exact Nat.le_of_ble_eq_true rfl, by rw [hrm.2]; exact Nat.le_of_ble_eq_true rfl⟩, h.2.2.2.2.1 _ n_w918⟩ (fun a S V hP => by obtain ⟨u0, rfl, -⟩ := hP; rfl)
theorem K13_34_9 {C : qCx} {G : jG} {mc ms : Nat} {p : Int → Int → jS → jH → Prop} {q : Int → Int → jS → jH → Int → jS → jH → Prop} (h : x13_34 C G) (hrm : C.2.2.2.1.frames = 5 ∧ C.2.2.2.1.locals = 125) (hM : M13_2 C.2.1 mc ms p q) : j_Call C b_13_34 n_KT G.1 G.2.1 8 (.invokevirtual 82) mc ms (fun a S V => ∃ u0 u1 : Int, a = [(2, u0), (0, u1)] ∧ S.1 u0 = 33 ∧ p u0 u1 S V) (fun a S V rs S' V' => ∃ u0 u1 r : Int, a = [(2, u0), (0, u1)] ∧ rs = [(0, r)] ∧ q u0 u1 S V r S' V') := j_callV n_NWk h.2.2.2.2.2 h.1 hM ⟨h.2.1.1, h.2.1.2, h.2.2.1, h.2.2.2.1, h.2.2.2.2.1⟩ ⟨n_CB (y := y_13_2) (bytes := b_13_2) 1 h.2.2.2.2.1 n_w928 n_w925 n_w12 ⟨by decide, by decide, by decide +kernel⟩ rfl rfl ⟨by rw [hrm.1]; exact Nat.le_of_ble_eq_true rfl, by rw [hrm.2]; exact Nat.le_of_ble_eq_true rfl⟩, h.2.2.2.2.1 _ n_w927, h.2.2.2.2.1 _ n_s27⟩ (Cn := RX12) (fun a S V hP => by obtain ⟨u0, u1, rfl, e, -⟩ := hP; exact ⟨u0, _, 12, _, _, TX12, 31, rfl, rfl, by rw [e]; decide, by rw [e]; rfl, rfl⟩)
theorem K13_34_28 {C : qCx} {G : jG} {mc ms : Nat} {p : Int → Int → jS → jH → Prop} {q : Int → Int → jS → jH → Int → jS → jH → Prop} (h : x13_34 C G) (hrm : C.2.2.2.1.frames = 5 ∧ C.2.2.2.1.locals = 125) (hM : M13_2 C.2.1 mc ms p q) : j_Call C b_13_34 n_KT G.1 G.2.1 8 (.invokevirtual 82) mc ms (fun a S V => ∃ u0 u1 : Int, a = [(2, u0), (0, u1)] ∧ S.1 u0 = 33 ∧ p u0 u1 S V) (fun a S V rs S' V' => ∃ u0 u1 r : Int, a = [(2, u0), (0, u1)] ∧ rs = [(0, r)] ∧ q u0 u1 S V r S' V') := j_callV n_NWk h.2.2.2.2.2 h.1 hM ⟨h.2.1.1, h.2.1.2, h.2.2.1, h.2.2.2.1, h.2.2.2.2.1⟩ ⟨n_CB (y := y_13_2) (bytes := b_13_2) 1 h.2.2.2.2.1 n_w928 n_w925 n_w12 ⟨by decide, by decide, by decide +kernel⟩ rfl rfl ⟨by rw [hrm.1]; exact Nat.le_of_ble_eq_true rfl, by rw [hrm.2]; exact Nat.le_of_ble_eq_true rfl⟩, h.2.2.2.2.1 _ n_w927, h.2.2.2.2.1 _ n_s27⟩ (Cn := RX12) (fun a S V hP => by obtain ⟨u0, u1, rfl, e, -⟩ := hP; exact ⟨u0, _, 12, _, _, TX12, 31, rfl, rfl, by rw [e]; decide, by rw [e]; rfl, rfl⟩)
theorem K13_34_75 {C : qCx} {G : jG} {mc ms : Nat} {p : Int → Int → Int → Int → Int → jS → jH → Prop} {q : Int → Int → Int → Int → Int → jS → jH → Int → jS → jH → Prop} (h : x13_34 C G) (hrm : C.2.2.2.1.frames = 5 ∧ C.2.2.2.1.locals = 125) (hM : M13_35 C.2.1 mc ms p q) : j_Call C b_13_34 n_KT G.1 G.2.1 8 (.invokevirtual 214) mc ms (fun a S V => ∃ u0 u1 u2 u3 u4 : Int, a = [(2, u0), (0, u1), (0, u2), (0, u3), (0, u4)] ∧ S.1 u0 = 33 ∧ p u0 u1 u2 u3 u4 S V) (fun a S V rs S' V' => ∃ u0 u1 u2 u3 u4 r : Int, a = [(2, u0), (0, u1), (0, u2), (0, u3), (0, u4)] ∧ rs = [(0, r)] ∧ q u0 u1 u2 u3 u4 S V r S' V') := j_callV n_NWk h.2.2.2.2.2 h.1 hM ⟨h.2.1.1, h.2.1.2, h.2.2.1, h.2.2.2.1, h.2.2.2.2.1⟩ ⟨n_CB (y := y_13_35) (bytes := b_13_35) 4 h.2.2.2.2.1 n_w1054 n_w1051 n_w12 ⟨by decide, by decide, by decide +kernel⟩ rfl rfl ⟨by rw [hrm.1]; exact Nat.le_of_ble_eq_true rfl, by rw [hrm.2]; exact Nat.le_of_ble_eq_true rfl⟩, h.2.2.2.2.1 _ n_w1053, h.2.2.2.2.1 _ n_s43⟩ (Cn := RX12) (fun a S V hP => by obtain ⟨u0, u1, u2, u3, u4, rfl, e, -⟩ := hP; exact ⟨u0, _, 12, _, _, TX12, 31, rfl, rfl, by rw [e]; decide, by rw [e]; rfl, rfl⟩)
theorem K13_34_144 {C : qCx} {G : jG} {mc ms : Nat} {p : Int → Int → Int → Int → Int → jS → jH → Prop} {q : Int → Int → Int → Int → Int → jS → jH → Int → jS → jH → Prop} (h : x13_34 C G) (hrm : C.2.2.2.1.frames = 5 ∧ C.2.2.2.1.locals = 125) (hM : M13_35 C.2.1 mc ms p q) : j_Call C b_13_34 n_KT G.1 G.2.1 8 (.invokevirtual 214) mc ms (fun a S V => ∃ u0 u1 u2 u3 u4 : Int, a = [(2, u0), (0, u1), (0, u2), (0, u3), (0, u4)] ∧ S.1 u0 = 33 ∧ p u0 u1 u2 u3 u4 S V) (fun a S V rs S' V' => ∃ u0 u1 u2 u3 u4 r : Int, a = [(2, u0), (0, u1), (0, u2), (0, u3), (0, u4)] ∧ rs = [(0, r)] ∧ q u0 u1 u2 u3 u4 S V r S' V') := j_callV n_NWk h.2.2.2.2.2 h.1 hM ⟨h.2.1.1, h.2.1.2, h.2.2.1, h.2.2.2.1, h.2.2.2.2.1⟩ ⟨n_CB (y := y_13_35) (bytes := b_13_35) 4 h.2.2.2.2.1 n_w1054 n_w1051 n_w12 ⟨by decide, by decide, by decide +kernel⟩ rfl rfl ⟨by rw [hrm.1]; exact Nat.le_of_ble_eq_true rfl, by rw [hrm.2]; exact Nat.le_of_ble_eq_true rfl⟩, h.2.2.2.2.1 _ n_w1053, h.2.2.2.2.1 _ n_s43⟩ (Cn := RX12) (fun a S V hP => by obtain ⟨u0, u1, u2, u3, u4, rfl, e, -⟩ := hP; exact ⟨u0, _, 12, _, _, TX12, 31, rfl, rfl, by rw [e]; decide, by rw [e]; rfl, rfl⟩)
theorem K13_34_149 {C : qCx} {G : jG} {mc ms : Nat} {p : Int → jS → jH → Prop} {q : Int → jS → jH → Int → jS → jH → Prop} (h : x13_34 C G) (hrm : C.2.2.2.1.frames = 5 ∧ C.2.2.2.1.locals = 125) (hM : M13_31 C.2.1 mc ms p q) : j_Call C b_13_34 n_KT G.1 G.2.1 8 (.invokevirtual 210) mc ms (fun a S V => ∃ u0 : Int, a = [(2, u0)] ∧ S.1 u0 = 33 ∧ p u0 S V) (fun a S V rs S' V' => ∃ u0 r : Int, a = [(2, u0)] ∧ rs = [(0, r)] ∧ q u0 S V r S' V') := j_callV n_NWk h.2.2.2.2.2 h.1 hM ⟨h.2.1.1, h.2.1.2, h.2.2.1, h.2.2.2.1, h.2.2.2.2.1⟩ ⟨n_CB (y := y_13_31) (bytes := b_13_31) 0 h.2.2.2.2.1 n_w1042 n_w1039 n_w12 ⟨by decide, by decide, by decide +kernel⟩ rfl rfl ⟨by rw [hrm.1]; exact Nat.le_of_ble_eq_true rfl, by rw [hrm.2]; exact Nat.le_of_ble_eq_true rfl⟩, h.2.2.2.2.1 _ n_w1041, h.2.2.2.2.1 _ n_s42⟩ (Cn := RX12) (fun a S V hP => by obtain ⟨u0, rfl, e, -⟩ := hP; exact ⟨u0, _, 12, _, _, TX12, 31, rfl, rfl, by rw [e]; decide, by rw [e]; rfl, rfl⟩)
theorem t13_34_0 {C : qCx} {G : jG} {S : jS} {V : jH} {nc ns : Nat} {l0 l1 : Int} {mc ms : Nat} {pp : Int → jS → jH → Prop} {qq : Int → jS → jH → Int → jS → jH → Prop} (h : x13_34 C G) (hrm : C.2.2.2.1.frames = 5 ∧ C.2.2.2.1.locals = 125)  (hM : M13_4 C.2.1 mc ms pp qq) (hp : pp l1 S V) (hc : nc + mc ≤ C.2.2.2.1.cells) (hs : ns + ms ≤ C.2.2.2.1.slots) (k : ∀ (r : Int) (S' : jS) (V' : jH), qq l1 S V r S' V' → j_ok n_KT 8 C G 4 [(0, (2, l0)), (1, (0, l1))] [(0, r)] S' V' (nc + mc) (ns + ms)) : j_ok n_KT 8 C G 0 [(0, (2, l0)), (1, (0, l1))] [] S V nc ns := by
  have E := n_E h
  refine j_iload_n E d13_34_0 rfl 1 rfl ?_
  refine j_call E (K13_34_1 h hrm hM) d13_34_1 (a := [(0, l1)]) (sk := []) rfl ⟨l1, rfl, hp⟩ (Nat.le_of_ble_eq_true rfl) hc hs ?_
  rintro rs S' V' ⟨z0, r, e1, rfl, q⟩
  simp only [List.cons.injEq, Prod.mk.injEq, and_true, true_and] at e1
  obtain ⟨rfl⟩ := e1
  exact j_pick [0, 1] rfl (k r S' V' q)
theorem t13_34_4 {C : qCx} {G : jG} {S : jS} {V : jH} {nc ns : Nat} {l0 l1 s0 : Int} (h : x13_34 C G)  (k : ¬ s0 = 0 → j_ok n_KT 8 C G 13 [(0, (2, l0)), (1, (0, l1))] [] S V nc ns) (k' : s0 = 0 → j_ok n_KT 8 C G 7 [(0, (2, l0))] [] S V nc ns) : j_ok n_KT 8 C G 4 [(0, (2, l0)), (1, (0, l1))] [(0, s0)] S V nc ns := by
  have E := n_E h
  exact j_if_ne E d13_34_4 (t := 13) rfl (fun q => j_pick [0, 1] rfl (k q)) (fun q => j_pick [0] rfl (k' q))
theorem t13_34_7 {C : qCx} {G : jG} {S : jS} {V : jH} {nc ns : Nat} {l0 : Int} {mc ms : Nat} {pp : Int → Int → jS → jH → Prop} {qq : Int → Int → jS → jH → Int → jS → jH → Prop} (h : x13_34 C G) (hrm : C.2.2.2.1.frames = 5 ∧ C.2.2.2.1.locals = 125) (c1 : S.1 l0 = 33) (hM : M13_2 C.2.1 mc ms pp qq) (hp : pp l0 ((-1)) S V) (hc : nc + mc ≤ C.2.2.2.1.cells) (hs : ns + ms ≤ C.2.2.2.1.slots) (k : ∀ (r : Int) (S' : jS) (V' : jH), qq l0 ((-1)) S V r S' V' → j_ok n_KT 8 C G 12 [] [(0, r)] S' V' (nc + mc) (ns + ms)) : j_ok n_KT 8 C G 7 [(0, (2, l0))] [] S V nc ns := by
  have E := n_E h
  refine j_aload_n E d13_34_7 rfl 0 rfl ?_
  refine j_iconst E d13_34_8 (by decide) ?_
  refine j_call E (K13_34_9 h hrm hM) d13_34_9 (a := [(2, l0), (0, (-1))]) (sk := []) rfl ⟨l0, (-1), rfl, c1, hp⟩ (Nat.le_of_ble_eq_true rfl) hc hs ?_
  rintro rs S' V' ⟨z0, z1, r, e1, rfl, q⟩
  simp only [List.cons.injEq, Prod.mk.injEq, and_true, true_and] at e1
  obtain ⟨rfl, rfl⟩ := e1
  exact j_pick [] rfl (k r S' V' q)
theorem t13_34_12 {C : qCx} {G : jG} {S : jS} {V : jH} {nc ns : Nat} {s0 : Int} {mc ms : Nat} {qf : Int → jS → jH → Prop} (h : x13_34 C G)  (R : j_Ri n_KT 8 C G b_13_34 mc ms qf) (q : qf s0 S V) (hc : nc ≤ mc) (hs : ns ≤ ms) : j_ok n_KT 8 C G 12 [] [(0, s0)] S V nc ns := by
  have E := n_E h
  exact R _ _ _ _ _ _ _ d13_34_12 q hc hs
theorem t13_34_13 {C : qCx} {G : jG} {S : jS} {V : jH} {nc ns : Nat} {l0 l1 : Int} (h : x13_34 C G) (L : j_L S) (c1 : S.1 l0 = 33) (c2 : 0 ≤ l1) (c3 : l1 < 6) (k : ¬ V (l0 + 2) l1 = 0 → j_ok n_KT 8 C G 32 [(0, (2, l0)), (1, (0, l1))] [] S V nc ns) (k' : V (l0 + 2) l1 = 0 → j_ok n_KT 8 C G 25 [(0, (2, l0))] [] S V nc ns) : j_ok n_KT 8 C G 13 [(0, (2, l0)), (1, (0, l1))] [] S V nc ns := by
  have E := n_E h
  refine j_aload_n E d13_34_13 rfl 0 rfl ?_
  refine j_getS (f := 0) (x := l0 + 1) (fg12_10 h) d13_34_14 c1 (by decide) rfl rfl ((L12_0 L c1).trans (by omega)) ?_
  refine j_getS (f := 0) (x := l0 + 2) (fg12_86 h) d13_34_17 (show S.1 (l0 + 1) = 32 from (by have q := L12_0k L c1; rw [show l0 + 1 = l0 + 1 by omega]; exact q)) (by decide) rfl rfl ((L11_0 L (show S.1 (l0 + 1) = 32 from (by have q := L12_0k L c1; rw [show l0 + 1 = l0 + 1 by omega]; exact q))).trans (by omega)) ?_
  refine j_iload_n E d13_34_20 rfl 1 rfl ?_
  refine j_iald E d13_34_21 (j_arr_of (show S.1 (l0 + 2) = 8 from (by have q := L11_0k L (show S.1 (l0 + 1) = 32 from (by have q := L12_0k L c1; rw [show l0 + 1 = l0 + 1 by omega]; exact q)); rw [show l0 + 2 = (l0 + 1) + 1 by omega]; exact q)) (by decide) rfl) c2 c3 ?_
  exact j_if_ne E d13_34_22 (t := 32) rfl (fun q => j_pick [0, 1] rfl (k q)) (fun q => j_pick [0] rfl (k' q))
theorem t13_34_25 {C : qCx} {G : jG} {S : jS} {V : jH} {nc ns : Nat} {l0 : Int} {mc ms : Nat} {pp : Int → Int → jS → jH → Prop} {qq : Int → Int → jS → jH → Int → jS → jH → Prop} (h : x13_34 C G) (hrm : C.2.2.2.1.frames = 5 ∧ C.2.2.2.1.locals = 125) (c1 : S.1 l0 = 33) (hM : M13_2 C.2.1 mc ms pp qq) (hp : pp l0 ((-7)) S V) (hc : nc + mc ≤ C.2.2.2.1.cells) (hs : ns + ms ≤ C.2.2.2.1.slots) (k : ∀ (r : Int) (S' : jS) (V' : jH), qq l0 ((-7)) S V r S' V' → j_ok n_KT 8 C G 31 [] [(0, r)] S' V' (nc + mc) (ns + ms)) : j_ok n_KT 8 C G 25 [(0, (2, l0))] [] S V nc ns := by
  have E := n_E h
  refine j_aload_n E d13_34_25 rfl 0 rfl ?_
  refine j_bipush E d13_34_26 (by decide) ?_
  refine j_call E (K13_34_28 h hrm hM) d13_34_28 (a := [(2, l0), (0, (-7))]) (sk := []) rfl ⟨l0, (-7), rfl, c1, hp⟩ (Nat.le_of_ble_eq_true rfl) hc hs ?_
  rintro rs S' V' ⟨z0, z1, r, e1, rfl, q⟩
  simp only [List.cons.injEq, Prod.mk.injEq, and_true, true_and] at e1
  obtain ⟨rfl, rfl⟩ := e1
  exact j_pick [] rfl (k r S' V' q)
theorem t13_34_31 {C : qCx} {G : jG} {S : jS} {V : jH} {nc ns : Nat} {s0 : Int} {mc ms : Nat} {qf : Int → jS → jH → Prop} (h : x13_34 C G)  (R : j_Ri n_KT 8 C G b_13_34 mc ms qf) (q : qf s0 S V) (hc : nc ≤ mc) (hs : ns ≤ ms) : j_ok n_KT 8 C G 31 [] [(0, s0)] S V nc ns := by
  have E := n_E h
  exact R _ _ _ _ _ _ _ d13_34_31 q hc hs
theorem t13_34_32 {C : qCx} {G : jG} {S : jS} {V : jH} {nc ns : Nat} {l0 l1 : Int} (h : x13_34 C G)  (k : j_ok n_KT 8 C G 41 [(0, (2, l0)), (1, (0, l1)), (2, (0, 0)), (3, (0, 4401)), (4, (0, 1))] [] S V nc ns) : j_ok n_KT 8 C G 32 [(0, (2, l0)), (1, (0, l1))] [] S V nc ns := by
  have E := n_E h
  refine j_iconst E d13_34_32 (by decide) ?_
  refine j_istore_n E d13_34_33 rfl (by decide) (lo1 := [(0, (2, l0)), (1, (0, l1))]) rfl ?_
  refine j_sipush E d13_34_34 (by decide) ?_
  refine j_istore_n E d13_34_37 rfl (by decide) (lo1 := [(2, (0, 0)), (0, (2, l0)), (1, (0, l1))]) rfl ?_
  refine j_iconst E d13_34_38 (by decide) ?_
  refine j_istore E d13_34_39 (by decide) (lo1 := [(3, (0, 4401)), (2, (0, 0)), (0, (2, l0)), (1, (0, l1))]) rfl ?_
  exact j_pick [3, 4, 2, 1, 0] rfl k
theorem t13_34_41 {C : qCx} {G : jG} {S : jS} {V : jH} {nc ns : Nat} {l0 l1 l2 l3 l4 : Int} (h : x13_34 C G)  (k : 4 < l4 → j_ok n_KT 8 C G 126 [(0, (2, l0)), (1, (0, l1)), (2, (0, l2))] [] S V nc ns) (k' : l4 ≤ 4 → j_ok n_KT 8 C G 47 [(0, (2, l0)), (1, (0, l1)), (2, (0, l2)), (3, (0, l3)), (4, (0, l4))] [] S V nc ns) : j_ok n_KT 8 C G 41 [(0, (2, l0)), (1, (0, l1)), (2, (0, l2)), (3, (0, l3)), (4, (0, l4))] [] S V nc ns := by
  have E := n_E h
  refine j_iload E d13_34_41 4 rfl ?_
  refine j_iconst E d13_34_43 (by decide) ?_
  exact j_icmp_gt E d13_34_44 (t := 126) rfl (fun q => j_pick [0, 1, 2] rfl (k q)) (fun q => j_pick [0, 1, 2, 3, 4] rfl (k' q))
theorem t13_34_47 {C : qCx} {G : jG} {S : jS} {V : jH} {nc ns : Nat} {l0 l1 l2 l3 l4 : Int} (h : x13_34 C G)  (k : j_ok n_KT 8 C G 51 [(0, (2, l0)), (1, (0, l1)), (2, (0, l2)), (3, (0, l3)), (4, (0, l4)), (5, (0, 8))] [] S V nc ns) : j_ok n_KT 8 C G 47 [(0, (2, l0)), (1, (0, l1)), (2, (0, l2)), (3, (0, l3)), (4, (0, l4))] [] S V nc ns := by
  have E := n_E h
  refine j_bipush E d13_34_47 (by decide) ?_
  refine j_istore E d13_34_49 (by decide) (lo1 := [(0, (2, l0)), (1, (0, l1)), (2, (0, l2)), (3, (0, l3)), (4, (0, l4))]) rfl ?_
  exact j_pick [1, 2, 3, 4, 5, 0] rfl k
theorem t13_34_51 {C : qCx} {G : jG} {S : jS} {V : jH} {nc ns : Nat} {l0 l1 l2 l3 l4 l5 : Int} (h : x13_34 C G)  (k : 12 < l5 → j_ok n_KT 8 C G 120 [(0, (2, l0)), (1, (0, l1)), (2, (0, l2)), (3, (0, l3)), (4, (0, l4))] [] S V nc ns) (k' : l5 ≤ 12 → j_ok n_KT 8 C G 58 [(0, (2, l0)), (1, (0, l1)), (2, (0, l2)), (3, (0, l3)), (4, (0, l4)), (5, (0, l5))] [] S V nc ns) : j_ok n_KT 8 C G 51 [(0, (2, l0)), (1, (0, l1)), (2, (0, l2)), (3, (0, l3)), (4, (0, l4)), (5, (0, l5))] [] S V nc ns := by
  have E := n_E h
  refine j_iload E d13_34_51 5 rfl ?_
  refine j_bipush E d13_34_53 (by decide) ?_
  exact j_icmp_gt E d13_34_55 (t := 120) rfl (fun q => j_pick [0, 1, 2, 3, 4] rfl (k q)) (fun q => j_pick [0, 1, 2, 3, 4, 5] rfl (k' q))
theorem t13_34_58 {C : qCx} {G : jG} {S : jS} {V : jH} {nc ns : Nat} {l0 l1 l2 l3 l4 l5 : Int} (h : x13_34 C G)  (k : j_ok n_KT 8 C G 61 [(0, (2, l0)), (1, (0, l1)), (2, (0, l2)), (3, (0, l3)), (4, (0, l4)), (5, (0, l5)), (6, (0, 1))] [] S V nc ns) : j_ok n_KT 8 C G 58 [(0, (2, l0)), (1, (0, l1)), (2, (0, l2)), (3, (0, l3)), (4, (0, l4)), (5, (0, l5))] [] S V nc ns := by
  have E := n_E h
  refine j_iconst E d13_34_58 (by decide) ?_
  refine j_istore E d13_34_59 (by decide) (lo1 := [(0, (2, l0)), (1, (0, l1)), (2, (0, l2)), (3, (0, l3)), (4, (0, l4)), (5, (0, l5))]) rfl ?_
  exact j_pick [1, 2, 3, 4, 5, 6, 0] rfl k
theorem t13_34_61 {C : qCx} {G : jG} {S : jS} {V : jH} {nc ns : Nat} {l0 l1 l2 l3 l4 l5 l6 : Int} (h : x13_34 C G)  (k : 4 < l6 → j_ok n_KT 8 C G 114 [(0, (2, l0)), (1, (0, l1)), (2, (0, l2)), (3, (0, l3)), (4, (0, l4)), (5, (0, l5))] [] S V nc ns) (k' : l6 ≤ 4 → j_ok n_KT 8 C G 67 [(0, (2, l0)), (1, (0, l1)), (2, (0, l2)), (3, (0, l3)), (4, (0, l4)), (5, (0, l5)), (6, (0, l6))] [] S V nc ns) : j_ok n_KT 8 C G 61 [(0, (2, l0)), (1, (0, l1)), (2, (0, l2)), (3, (0, l3)), (4, (0, l4)), (5, (0, l5)), (6, (0, l6))] [] S V nc ns := by
  have E := n_E h
  refine j_iload E d13_34_61 6 rfl ?_
  refine j_iconst E d13_34_63 (by decide) ?_
  exact j_icmp_gt E d13_34_64 (t := 114) rfl (fun q => j_pick [0, 1, 2, 3, 4, 5] rfl (k q)) (fun q => j_pick [0, 1, 2, 3, 4, 5, 6] rfl (k' q))
theorem t13_34_67 {C : qCx} {G : jG} {S : jS} {V : jH} {nc ns : Nat} {l0 l1 l2 l3 l4 l5 l6 : Int} {mc ms : Nat} {pp : Int → Int → Int → Int → Int → jS → jH → Prop} {qq : Int → Int → Int → Int → Int → jS → jH → Int → jS → jH → Prop} (h : x13_34 C G) (hrm : C.2.2.2.1.frames = 5 ∧ C.2.2.2.1.locals = 125) (c1 : S.1 l0 = 33) (hM : M13_35 C.2.1 mc ms pp qq) (hp : pp l0 l4 l5 l1 l6 S V) (hc : nc + mc ≤ C.2.2.2.1.cells) (hs : ns + ms ≤ C.2.2.2.1.slots) (k : ∀ (r : Int) (S' : jS) (V' : jH), qq l0 l4 l5 l1 l6 S V r S' V' → j_ok n_KT 8 C G 78 [(0, (2, l0)), (1, (0, l1)), (2, (0, l2)), (3, (0, l3)), (4, (0, l4)), (5, (0, l5)), (6, (0, l6))] [(0, r)] S' V' (nc + mc) (ns + ms)) : j_ok n_KT 8 C G 67 [(0, (2, l0)), (1, (0, l1)), (2, (0, l2)), (3, (0, l3)), (4, (0, l4)), (5, (0, l5)), (6, (0, l6))] [] S V nc ns := by
  have E := n_E h
  refine j_aload_n E d13_34_67 rfl 0 rfl ?_
  refine j_iload E d13_34_68 4 rfl ?_
  refine j_iload E d13_34_70 5 rfl ?_
  refine j_iload_n E d13_34_72 rfl 1 rfl ?_
  refine j_iload E d13_34_73 6 rfl ?_
  refine j_call E (K13_34_75 h hrm hM) d13_34_75 (a := [(2, l0), (0, l4), (0, l5), (0, l1), (0, l6)]) (sk := []) rfl ⟨l0, l4, l5, l1, l6, rfl, c1, hp⟩ (Nat.le_of_ble_eq_true rfl) hc hs ?_
  rintro rs S' V' ⟨z0, z1, z2, z3, z4, r, e1, rfl, q⟩
  simp only [List.cons.injEq, Prod.mk.injEq, and_true, true_and] at e1
  obtain ⟨rfl, rfl, rfl, rfl, rfl⟩ := e1
  exact j_pick [0, 1, 2, 3, 4, 5, 6] rfl (k r S' V' q)
theorem t13_34_78 {C : qCx} {G : jG} {S : jS} {V : jH} {nc ns : Nat} {l0 l1 l2 l3 l4 l5 l6 s0 : Int} (h : x13_34 C G)  (k : s0 < l3 → j_ok n_KT 8 C G 89 [(0, (2, l0)), (1, (0, l1)), (4, (0, l4)), (5, (0, l5)), (6, (0, l6)), (7, (0, s0))] [] S V nc ns) (k' : l3 ≤ s0 → j_ok n_KT 8 C G 86 [(0, (2, l0)), (1, (0, l1)), (2, (0, l2)), (3, (0, l3)), (4, (0, l4)), (5, (0, l5)), (6, (0, l6))] [] S V nc ns) : j_ok n_KT 8 C G 78 [(0, (2, l0)), (1, (0, l1)), (2, (0, l2)), (3, (0, l3)), (4, (0, l4)), (5, (0, l5)), (6, (0, l6))] [(0, s0)] S V nc ns := by
  have E := n_E h
  refine j_istore E d13_34_78 (by decide) (lo1 := [(0, (2, l0)), (1, (0, l1)), (2, (0, l2)), (3, (0, l3)), (4, (0, l4)), (5, (0, l5)), (6, (0, l6))]) rfl ?_
  refine j_iload E d13_34_80 0 rfl ?_
  refine j_iload_n E d13_34_82 rfl 4 rfl ?_
  exact j_icmp_lt E d13_34_83 (t := 89) rfl (fun q => j_pick [1, 2, 5, 6, 7, 0] rfl (k q)) (fun q => j_pick [1, 2, 3, 4, 5, 6, 7] rfl (k' q))
theorem t13_34_86 {C : qCx} {G : jG} {S : jS} {V : jH} {nc ns : Nat} {l0 l1 l2 l3 l4 l5 l6 : Int} (h : x13_34 C G)  (k : j_ok n_KT 8 C G 108 [(0, (2, l0)), (1, (0, l1)), (2, (0, l2)), (3, (0, l3)), (4, (0, l4)), (5, (0, l5)), (6, (0, l6))] [] S V nc ns) : j_ok n_KT 8 C G 86 [(0, (2, l0)), (1, (0, l1)), (2, (0, l2)), (3, (0, l3)), (4, (0, l4)), (5, (0, l5)), (6, (0, l6))] [] S V nc ns := by
  have E := n_E h
  refine j_goto E d13_34_86 (t := 108) rfl ?_
  exact j_pick [0, 1, 2, 3, 4, 5, 6] rfl k
theorem t13_34_89 {C : qCx} {G : jG} {S : jS} {V : jH} {nc ns : Nat} {l0 l1 l4 l5 l6 l7 : Int} (h : x13_34 C G) (c1 : -2147483648 ≤ 1000 * l4 ∧ 1000 * l4 ≤ 2147483647) (c2 : -2147483648 ≤ 10 * l5 ∧ 10 * l5 ≤ 2147483647) (c3 : -2147483648 ≤ (1000 * l4) + (10 * l5) ∧ (1000 * l4) + (10 * l5) ≤ 2147483647) (c4 : -2147483648 ≤ ((1000 * l4) + (10 * l5)) + l6 ∧ ((1000 * l4) + (10 * l5)) + l6 ≤ 2147483647) (k : j_ok n_KT 8 C G 108 [(0, (2, l0)), (1, (0, l1)), (2, (0, ((1000 * l4) + (10 * l5)) + l6)), (3, (0, l7)), (4, (0, l4)), (5, (0, l5)), (6, (0, l6))] [] S V nc ns) : j_ok n_KT 8 C G 89 [(0, (2, l0)), (1, (0, l1)), (4, (0, l4)), (5, (0, l5)), (6, (0, l6)), (7, (0, l7))] [] S V nc ns := by
  have E := n_E h
  refine j_iload E d13_34_89 5 rfl ?_
  refine j_istore_n E d13_34_91 rfl (by decide) (lo1 := [(0, (2, l0)), (1, (0, l1)), (4, (0, l4)), (5, (0, l5)), (6, (0, l6)), (7, (0, l7))]) rfl ?_
  refine j_sipush E d13_34_92 (by decide) ?_
  refine j_iload E d13_34_95 3 rfl ?_
  refine j_imul E d13_34_97 c1 ?_
  refine j_bipush E d13_34_98 (by decide) ?_
  refine j_iload E d13_34_100 4 rfl ?_
  refine j_imul E d13_34_102 c2 ?_
  refine j_iadd E d13_34_103 c3 ?_
  refine j_iload E d13_34_104 5 rfl ?_
  refine j_iadd E d13_34_106 c4 ?_
  refine j_istore_n E d13_34_107 rfl (by decide) (lo1 := [(3, (0, l7)), (0, (2, l0)), (1, (0, l1)), (4, (0, l4)), (5, (0, l5)), (6, (0, l6)), (7, (0, l7))]) rfl ?_
  exact j_pick [2, 3, 0, 1, 4, 5, 6] rfl k
theorem t13_34_108 {C : qCx} {G : jG} {S : jS} {V : jH} {nc ns : Nat} {l0 l1 l2 l3 l4 l5 l6 : Int} (h : x13_34 C G) (c1 : -2147483648 ≤ l6 + 1 ∧ l6 + 1 ≤ 2147483647) (k : j_ok n_KT 8 C G 61 [(0, (2, l0)), (1, (0, l1)), (2, (0, l2)), (3, (0, l3)), (4, (0, l4)), (5, (0, l5)), (6, (0, l6 + 1))] [] S V nc ns) : j_ok n_KT 8 C G 108 [(0, (2, l0)), (1, (0, l1)), (2, (0, l2)), (3, (0, l3)), (4, (0, l4)), (5, (0, l5)), (6, (0, l6))] [] S V nc ns := by
  have E := n_E h
  refine j_iinc E d13_34_108 (by decide) (by decide) 6 rfl (lo1 := [(0, (2, l0)), (1, (0, l1)), (2, (0, l2)), (3, (0, l3)), (4, (0, l4)), (5, (0, l5))]) rfl c1 ?_
  refine j_goto E d13_34_111 (t := 61) rfl ?_
  exact j_pick [1, 2, 3, 4, 5, 6, 0] rfl k
theorem t13_34_114 {C : qCx} {G : jG} {S : jS} {V : jH} {nc ns : Nat} {l0 l1 l2 l3 l4 l5 : Int} (h : x13_34 C G) (c1 : -2147483648 ≤ l5 + 1 ∧ l5 + 1 ≤ 2147483647) (k : j_ok n_KT 8 C G 51 [(0, (2, l0)), (1, (0, l1)), (2, (0, l2)), (3, (0, l3)), (4, (0, l4)), (5, (0, l5 + 1))] [] S V nc ns) : j_ok n_KT 8 C G 114 [(0, (2, l0)), (1, (0, l1)), (2, (0, l2)), (3, (0, l3)), (4, (0, l4)), (5, (0, l5))] [] S V nc ns := by
  have E := n_E h
  refine j_iinc E d13_34_114 (by decide) (by decide) 5 rfl (lo1 := [(0, (2, l0)), (1, (0, l1)), (2, (0, l2)), (3, (0, l3)), (4, (0, l4))]) rfl c1 ?_
  refine j_goto E d13_34_117 (t := 51) rfl ?_
  exact j_pick [1, 2, 3, 4, 5, 0] rfl k
theorem t13_34_120 {C : qCx} {G : jG} {S : jS} {V : jH} {nc ns : Nat} {l0 l1 l2 l3 l4 : Int} (h : x13_34 C G) (c1 : -2147483648 ≤ l4 + 1 ∧ l4 + 1 ≤ 2147483647) (k : j_ok n_KT 8 C G 41 [(0, (2, l0)), (1, (0, l1)), (2, (0, l2)), (3, (0, l3)), (4, (0, l4 + 1))] [] S V nc ns) : j_ok n_KT 8 C G 120 [(0, (2, l0)), (1, (0, l1)), (2, (0, l2)), (3, (0, l3)), (4, (0, l4))] [] S V nc ns := by
  have E := n_E h
  refine j_iinc E d13_34_120 (by decide) (by decide) 4 rfl (lo1 := [(0, (2, l0)), (1, (0, l1)), (2, (0, l2)), (3, (0, l3))]) rfl c1 ?_
  refine j_goto E d13_34_123 (t := 41) rfl ?_
  exact j_pick [1, 2, 3, 4, 0] rfl k
theorem t13_34_126 {C : qCx} {G : jG} {S : jS} {V : jH} {nc ns : Nat} {l0 l1 l2 : Int} {mc ms : Nat} {pp : Int → Int → Int → Int → Int → jS → jH → Prop} {qq : Int → Int → Int → Int → Int → jS → jH → Int → jS → jH → Prop} (h : x13_34 C G) (hrm : C.2.2.2.1.frames = 5 ∧ C.2.2.2.1.locals = 125) (c1 : 0 ≤ l2) (c2 : 0 ≤ l2 / 10) (c3 : S.1 l0 = 33) (hM : M13_35 C.2.1 mc ms pp qq) (hp : pp l0 (l2 / 1000) ((l2 / 10) % 100) l1 (l2 % 10) S V) (hc : nc + mc ≤ C.2.2.2.1.cells) (hs : ns + ms ≤ C.2.2.2.1.slots) (k : ∀ (r : Int) (S' : jS) (V' : jH), qq l0 (l2 / 1000) ((l2 / 10) % 100) l1 (l2 % 10) S V r S' V' → j_ok n_KT 8 C G 147 [(0, (2, l0)), (2, (0, l2))] [(0, r)] S' V' (nc + mc) (ns + ms)) : j_ok n_KT 8 C G 126 [(0, (2, l0)), (1, (0, l1)), (2, (0, l2))] [] S V nc ns := by
  have E := n_E h
  refine j_aload_n E d13_34_126 rfl 0 rfl ?_
  refine j_iload_n E d13_34_127 rfl 2 rfl ?_
  refine j_sipush E d13_34_128 (by decide) ?_
  refine j_idiv E d13_34_131 c1 (by decide) ?_
  refine j_iload_n E d13_34_132 rfl 2 rfl ?_
  refine j_bipush E d13_34_133 (by decide) ?_
  refine j_idiv E d13_34_135 c1 (by decide) ?_
  refine j_bipush E d13_34_136 (by decide) ?_
  refine j_irem E d13_34_138 c2 (by decide) ?_
  refine j_iload_n E d13_34_139 rfl 1 rfl ?_
  refine j_iload_n E d13_34_140 rfl 2 rfl ?_
  refine j_bipush E d13_34_141 (by decide) ?_
  refine j_irem E d13_34_143 c1 (by decide) ?_
  refine j_call E (K13_34_144 h hrm hM) d13_34_144 (a := [(2, l0), (0, l2 / 1000), (0, (l2 / 10) % 100), (0, l1), (0, l2 % 10)]) (sk := []) rfl ⟨l0, l2 / 1000, (l2 / 10) % 100, l1, l2 % 10, rfl, c3, hp⟩ (Nat.le_of_ble_eq_true rfl) hc hs ?_
  rintro rs S' V' ⟨z0, z1, z2, z3, z4, r, e1, rfl, q⟩
  simp only [List.cons.injEq, Prod.mk.injEq, and_true, true_and] at e1
  obtain ⟨rfl, rfl, rfl, rfl, rfl⟩ := e1
  exact j_pick [0, 2] rfl (k r S' V' q)
theorem t13_34_147 {C : qCx} {G : jG} {S : jS} {V : jH} {nc ns : Nat} {l0 l2 s0 : Int} {mc ms : Nat} {pp : Int → jS → jH → Prop} {qq : Int → jS → jH → Int → jS → jH → Prop} (h : x13_34 C G) (hrm : C.2.2.2.1.frames = 5 ∧ C.2.2.2.1.locals = 125) (c1 : S.1 l0 = 33) (hM : M13_31 C.2.1 mc ms pp qq) (hp : pp l0 S V) (hc : nc + mc ≤ C.2.2.2.1.cells) (hs : ns + ms ≤ C.2.2.2.1.slots) (k : ∀ (r : Int) (S' : jS) (V' : jH), qq l0 S V r S' V' → j_ok n_KT 8 C G 152 [(2, (0, l2))] [(0, r)] S' V' (nc + mc) (ns + ms)) : j_ok n_KT 8 C G 147 [(0, (2, l0)), (2, (0, l2))] [(0, s0)] S V nc ns := by
  have E := n_E h
  refine j_pop E d13_34_147 rfl ?_
  refine j_aload_n E d13_34_148 rfl 0 rfl ?_
  refine j_call E (K13_34_149 h hrm hM) d13_34_149 (a := [(2, l0)]) (sk := []) rfl ⟨l0, rfl, c1, hp⟩ (Nat.le_of_ble_eq_true rfl) hc hs ?_
  rintro rs S' V' ⟨z0, r, e1, rfl, q⟩
  simp only [List.cons.injEq, Prod.mk.injEq, and_true, true_and] at e1
  obtain ⟨rfl⟩ := e1
  exact j_pick [1] rfl (k r S' V' q)
theorem t13_34_152 {C : qCx} {G : jG} {S : jS} {V : jH} {nc ns : Nat} {l2 s0 : Int} {mc ms : Nat} {qf : Int → jS → jH → Prop} (h : x13_34 C G)  (R : j_Ri n_KT 8 C G b_13_34 mc ms qf) (q : qf l2 S V) (hc : nc ≤ mc) (hs : ns ≤ ms) : j_ok n_KT 8 C G 152 [(2, (0, l2))] [(0, s0)] S V nc ns := by
  have E := n_E h
  refine j_pop E d13_34_152 rfl ?_
  refine j_iload_n E d13_34_153 rfl 0 rfl ?_
  exact R _ _ _ _ _ _ _ d13_34_154 q hc hs
/- BalanceCoderModel.next(I)I -/
abbrev b_13_36 : ByteArray := prog_13_method_36_code
def y_13_36 : MethodName := ⟨"BalanceCoderModel", "next", "(I)I"⟩
abbrev x13_36 (C : qCx) (G : jG) : Prop := n_ctx C b_13_36 4 "BalanceCoderModel" G.1 G.2.1
def M13_36 (l : Launch) (mc ms : Nat) (p : Int → Int → jS → jH → Prop) (q : Int → Int → jS → jH → Int → jS → jH → Prop) : Prop := j_Met l vwCl n_TL n_NW n_KT y_13_36 (Cond.code y_13_36 b_13_36 4 (some .int) :: n_GW) { frames := 1, cells := mc, slots := ms, locals := 26 } mc ms (fun a S V => ∃ u0 u1 : Int, a = [(2, u0), (0, u1)] ∧ S.1 u0 = 33 ∧ p u0 u1 S V) (fun a S V rs S' V' => ∃ u0 u1 r : Int, a = [(2, u0), (0, u1)] ∧ rs = [(0, r)] ∧ q u0 u1 S V r S' V')
theorem e13_36 {l : Launch} {mc ms : Nat} {p : Int → Int → jS → jH → Prop} {q : Int → Int → jS → jH → Int → jS → jH → Prop} (body : ∀ (C : qCx) (G : jG), x13_36 C G → C.2.2.2.1.frames = 1 ∧ C.2.2.2.1.locals = 26 → C.2.2.2.1.cells = mc ∧ C.2.2.2.1.slots = ms → C.2.1 = l → C.2.2.2.2.2.2.2.2.1.name = "next" → ∀ (u0 u1 : Int) (S : jS) (V : jH), S.1 u0 = 33 → p u0 u1 S V → j_Ri n_KT 4 C G b_13_36 mc ms (q u0 u1 S V) → j_ok n_KT 4 C G 0 [(0, (2, u0)), (1, (0, u1))] [] S V 0 0) : M13_36 l mc ms p q := by
  refine j_method (ws' := n_GW) (by decide) rfl ?_ ?_
  · rintro a S V ⟨u0, u1, rfl, -⟩
    exact Nat.le_of_ble_eq_true rfl
  · rintro C G htl hl hrm hm hml ho hts hnm hE a S V ⟨u0, u1, rfl, ht, hp⟩ R
    exact body C G ⟨htl, hm, hml, ho, fun w hw => hts w (List.mem_cons_of_mem _ hw), hE⟩ (by rw [hrm]; exact ⟨rfl, rfl⟩) (by rw [hrm]; exact ⟨rfl, rfl⟩) hl hnm u0 u1 S V ht hp (fun pc lo r S' V' nc ns d q hc hs => R.2.1 rfl pc lo r S' V' nc ns d ⟨u0, u1, r, rfl, rfl, q⟩ hc hs)
theorem d13_36_0 : decode b_13_36 0 = .ok (.aload_n 0, 1) := by decide +kernel
theorem d13_36_1 : decode b_13_36 1 = .ok (.getfield 218, 3) := by decide +kernel
theorem d13_36_4 : decode b_13_36 4 = .ok (.iload_n 1, 1) := by decide +kernel
theorem d13_36_5 : decode b_13_36 5 = .ok (.iadd, 1) := by decide +kernel
theorem d13_36_6 : decode b_13_36 6 = .ok (.aload_n 0, 1) := by decide +kernel
theorem d13_36_7 : decode b_13_36 7 = .ok (.getfield 10, 3) := by decide +kernel
theorem d13_36_10 : decode b_13_36 10 = .ok (.getfield 194, 3) := by decide +kernel
theorem d13_36_13 : decode b_13_36 13 = .ok (.if_icmp .le 5, 3) := by decide +kernel
theorem d13_36_16 : decode b_13_36 16 = .ok (.iconst (-1), 1) := by decide +kernel
theorem d13_36_17 : decode b_13_36 17 = .ok (.ireturn, 1) := by decide +kernel
theorem d13_36_18 : decode b_13_36 18 = .ok (.iconst 0, 1) := by decide +kernel
theorem d13_36_19 : decode b_13_36 19 = .ok (.istore_n 2, 1) := by decide +kernel
theorem d13_36_20 : decode b_13_36 20 = .ok (.iconst 0, 1) := by decide +kernel
theorem d13_36_21 : decode b_13_36 21 = .ok (.istore_n 3, 1) := by decide +kernel
theorem d13_36_22 : decode b_13_36 22 = .ok (.iload_n 3, 1) := by decide +kernel
theorem d13_36_23 : decode b_13_36 23 = .ok (.iload_n 1, 1) := by decide +kernel
theorem d13_36_24 : decode b_13_36 24 = .ok (.if_icmp .ge 29, 3) := by decide +kernel
theorem d13_36_27 : decode b_13_36 27 = .ok (.iload_n 2, 1) := by decide +kernel
theorem d13_36_28 : decode b_13_36 28 = .ok (.bipush 8, 2) := by decide +kernel
theorem d13_36_30 : decode b_13_36 30 = .ok (.ishl, 1) := by decide +kernel
theorem d13_36_31 : decode b_13_36 31 = .ok (.aload_n 0, 1) := by decide +kernel
theorem d13_36_32 : decode b_13_36 32 = .ok (.getfield 10, 3) := by decide +kernel
theorem d13_36_35 : decode b_13_36 35 = .ok (.getfield 197, 3) := by decide +kernel
theorem d13_36_38 : decode b_13_36 38 = .ok (.aload_n 0, 1) := by decide +kernel
theorem d13_36_39 : decode b_13_36 39 = .ok (.getfield 218, 3) := by decide +kernel
theorem d13_36_42 : decode b_13_36 42 = .ok (.iload_n 3, 1) := by decide +kernel
theorem d13_36_43 : decode b_13_36 43 = .ok (.iadd, 1) := by decide +kernel
theorem d13_36_44 : decode b_13_36 44 = .ok (.iaload, 1) := by decide +kernel
theorem d13_36_45 : decode b_13_36 45 = .ok (.ior, 1) := by decide +kernel
theorem d13_36_46 : decode b_13_36 46 = .ok (.istore_n 2, 1) := by decide +kernel
theorem d13_36_47 : decode b_13_36 47 = .ok (.iinc 3 1, 3) := by decide +kernel
theorem d13_36_50 : decode b_13_36 50 = .ok (.goto (-28), 3) := by decide +kernel
theorem d13_36_53 : decode b_13_36 53 = .ok (.aload_n 0, 1) := by decide +kernel
theorem d13_36_54 : decode b_13_36 54 = .ok (.dup, 1) := by decide +kernel
theorem d13_36_55 : decode b_13_36 55 = .ok (.getfield 218, 3) := by decide +kernel
theorem d13_36_58 : decode b_13_36 58 = .ok (.iload_n 1, 1) := by decide +kernel
theorem d13_36_59 : decode b_13_36 59 = .ok (.iadd, 1) := by decide +kernel
theorem d13_36_60 : decode b_13_36 60 = .ok (.putfield 218, 3) := by decide +kernel
theorem d13_36_63 : decode b_13_36 63 = .ok (.iload_n 2, 1) := by decide +kernel
theorem d13_36_64 : decode b_13_36 64 = .ok (.ireturn, 1) := by decide +kernel
theorem t13_36_0 {C : qCx} {G : jG} {S : jS} {V : jH} {nc ns : Nat} {l0 l1 : Int} (h : x13_36 C G) (L : j_L S) (c1 : S.1 l0 = 33) (c2 : -2147483648 ≤ (V l0 22) + l1 ∧ (V l0 22) + l1 ≤ 2147483647) (k : (V l0 22) + l1 ≤ V (l0 + 1) 7 → j_ok n_KT 4 C G 18 [(0, (2, l0)), (1, (0, l1))] [] S V nc ns) (k' : V (l0 + 1) 7 < (V l0 22) + l1 → j_ok n_KT 4 C G 16 [] [] S V nc ns) : j_ok n_KT 4 C G 0 [(0, (2, l0)), (1, (0, l1))] [] S V nc ns := by
  have E := n_E h
  refine j_aload_n E d13_36_0 rfl 0 rfl ?_
  refine j_getI (f := 22) (fg12_218 h) d13_36_1 c1 (by decide) rfl rfl ?_
  refine j_iload_n E d13_36_4 rfl 1 rfl ?_
  refine j_iadd E d13_36_5 c2 ?_
  refine j_aload_n E d13_36_6 rfl 0 rfl ?_
  refine j_getS (f := 0) (x := l0 + 1) (fg12_10 h) d13_36_7 c1 (by decide) rfl rfl ((L12_0 L c1).trans (by omega)) ?_
  refine j_getI (f := 7) (fg12_194 h) d13_36_10 (show S.1 (l0 + 1) = 32 from (by have q := L12_0k L c1; rw [show l0 + 1 = l0 + 1 by omega]; exact q)) (by decide) rfl rfl ?_
  exact j_icmp_le E d13_36_13 (t := 18) rfl (fun q => j_pick [0, 1] rfl (k q)) (fun q => j_pick [] rfl (k' q))
theorem t13_36_16 {C : qCx} {G : jG} {S : jS} {V : jH} {nc ns : Nat} {mc ms : Nat} {qf : Int → jS → jH → Prop} (h : x13_36 C G)  (R : j_Ri n_KT 4 C G b_13_36 mc ms qf) (q : qf ((-1)) S V) (hc : nc ≤ mc) (hs : ns ≤ ms) : j_ok n_KT 4 C G 16 [] [] S V nc ns := by
  have E := n_E h
  refine j_iconst E d13_36_16 (by decide) ?_
  exact R _ _ _ _ _ _ _ d13_36_17 q hc hs
theorem t13_36_18 {C : qCx} {G : jG} {S : jS} {V : jH} {nc ns : Nat} {l0 l1 : Int} (h : x13_36 C G)  (k : j_ok n_KT 4 C G 22 [(0, (2, l0)), (1, (0, l1)), (2, (0, 0)), (3, (0, 0))] [] S V nc ns) : j_ok n_KT 4 C G 18 [(0, (2, l0)), (1, (0, l1))] [] S V nc ns := by
  have E := n_E h
  refine j_iconst E d13_36_18 (by decide) ?_
  refine j_istore_n E d13_36_19 rfl (by decide) (lo1 := [(0, (2, l0)), (1, (0, l1))]) rfl ?_
  refine j_iconst E d13_36_20 (by decide) ?_
  refine j_istore_n E d13_36_21 rfl (by decide) (lo1 := [(2, (0, 0)), (0, (2, l0)), (1, (0, l1))]) rfl ?_
  exact j_pick [2, 3, 1, 0] rfl k
theorem t13_36_22 {C : qCx} {G : jG} {S : jS} {V : jH} {nc ns : Nat} {l0 l1 l2 l3 : Int} (h : x13_36 C G)  (k : l1 ≤ l3 → j_ok n_KT 4 C G 53 [(0, (2, l0)), (1, (0, l1)), (2, (0, l2))] [] S V nc ns) (k' : l3 < l1 → j_ok n_KT 4 C G 27 [(0, (2, l0)), (1, (0, l1)), (2, (0, l2)), (3, (0, l3))] [] S V nc ns) : j_ok n_KT 4 C G 22 [(0, (2, l0)), (1, (0, l1)), (2, (0, l2)), (3, (0, l3))] [] S V nc ns := by
  have E := n_E h
  refine j_iload_n E d13_36_22 rfl 3 rfl ?_
  refine j_iload_n E d13_36_23 rfl 1 rfl ?_
  exact j_icmp_ge E d13_36_24 (t := 53) rfl (fun q => j_pick [0, 1, 2] rfl (k q)) (fun q => j_pick [0, 1, 2, 3] rfl (k' q))
theorem t13_36_27 {C : qCx} {G : jG} {S : jS} {V : jH} {nc ns : Nat} {l0 l1 l2 l3 : Int} (h : x13_36 C G) (L : j_L S) (c1 : 0 ≤ l2) (c2 : l2 ≤ 8388607) (c3 : S.1 l0 = 33) (c4 : -2147483648 ≤ (V l0 22) + l3 ∧ (V l0 22) + l3 ≤ 2147483647) (c5 : 0 ≤ (V l0 22) + l3) (c6 : (V l0 22) + l3 < 4400) (c7 : 0 ≤ 256 * l2) (c8 : (256 * l2) % 256 = 0) (c9 : 0 ≤ V (l0 + 8) ((V l0 22) + l3)) (c10 : V (l0 + 8) ((V l0 22) + l3) < 256) (c11 : (256 * l2) + (V (l0 + 8) ((V l0 22) + l3)) ≤ 2147483647) (c12 : -2147483648 ≤ l3 + 1 ∧ l3 + 1 ≤ 2147483647) (k : j_ok n_KT 4 C G 22 [(0, (2, l0)), (1, (0, l1)), (2, (0, (256 * l2) + (V (l0 + 8) ((V l0 22) + l3)))), (3, (0, l3 + 1))] [] S V nc ns) : j_ok n_KT 4 C G 27 [(0, (2, l0)), (1, (0, l1)), (2, (0, l2)), (3, (0, l3))] [] S V nc ns := by
  have E := n_E h
  refine j_iload_n E d13_36_27 rfl 2 rfl ?_
  refine j_bipush E d13_36_28 (by decide) ?_
  refine j_ishl8 E d13_36_30 rfl c1 c2 ?_
  refine j_aload_n E d13_36_31 rfl 0 rfl ?_
  refine j_getS (f := 0) (x := l0 + 1) (fg12_10 h) d13_36_32 c3 (by decide) rfl rfl ((L12_0 L c3).trans (by omega)) ?_
  refine j_getS (f := 8) (x := l0 + 8) (fg12_197 h) d13_36_35 (show S.1 (l0 + 1) = 32 from (by have q := L12_0k L c3; rw [show l0 + 1 = l0 + 1 by omega]; exact q)) (by decide) rfl rfl ((L11_8 L (show S.1 (l0 + 1) = 32 from (by have q := L12_0k L c3; rw [show l0 + 1 = l0 + 1 by omega]; exact q))).trans (by omega)) ?_
  refine j_aload_n E d13_36_38 rfl 0 rfl ?_
  refine j_getI (f := 22) (fg12_218 h) d13_36_39 c3 (by decide) rfl rfl ?_
  refine j_iload_n E d13_36_42 rfl 3 rfl ?_
  refine j_iadd E d13_36_43 c4 ?_
  refine j_iald E d13_36_44 (j_arr_of (show S.1 (l0 + 8) = 6 from (by have q := L11_8k L (show S.1 (l0 + 1) = 32 from (by have q := L12_0k L c3; rw [show l0 + 1 = l0 + 1 by omega]; exact q)); rw [show l0 + 8 = (l0 + 1) + 7 by omega]; exact q)) (by decide) rfl) c5 c6 ?_
  refine j_ior E d13_36_45 c7 c8 c9 c10 c11 ?_
  refine j_istore_n E d13_36_46 rfl (by decide) (lo1 := [(0, (2, l0)), (1, (0, l1)), (3, (0, l3))]) rfl ?_
  refine j_iinc E d13_36_47 (by decide) (by decide) 3 rfl (lo1 := [(2, (0, (256 * l2) + (V (l0 + 8) ((V l0 22) + l3)))), (0, (2, l0)), (1, (0, l1))]) rfl c12 ?_
  refine j_goto E d13_36_50 (t := 22) rfl ?_
  exact j_pick [2, 3, 1, 0] rfl k
theorem t13_36_53 {C : qCx} {G : jG} {S : jS} {V : jH} {nc ns : Nat} {l0 l1 l2 : Int} {mc ms : Nat} {qf : Int → jS → jH → Prop} (h : x13_36 C G) (c1 : S.1 l0 = 33) (c2 : -2147483648 ≤ (V l0 22) + l1 ∧ (V l0 22) + l1 ≤ 2147483647) (R : j_Ri n_KT 4 C G b_13_36 mc ms qf) (q : qf l2 S (j_up V l0 22 ((V l0 22) + l1))) (hc : nc ≤ mc) (hs : ns ≤ ms) : j_ok n_KT 4 C G 53 [(0, (2, l0)), (1, (0, l1)), (2, (0, l2))] [] S V nc ns := by
  have E := n_E h
  refine j_aload_n E d13_36_53 rfl 0 rfl ?_
  refine j_dup E d13_36_54 rfl ?_
  refine j_getI (f := 22) (fg12_218 h) d13_36_55 c1 (by decide) rfl rfl ?_
  refine j_iload_n E d13_36_58 rfl 1 rfl ?_
  refine j_iadd E d13_36_59 c2 ?_
  refine j_putI (f := 22) (fp12_218 h) (n_hap h 33 12 0 _ rfl) d13_36_60 c1 (by decide) rfl rfl rfl ?_
  refine j_iload_n E d13_36_63 rfl 2 rfl ?_
  exact R _ _ _ _ _ _ _ d13_36_64 q hc hs
/- BalanceCoderModel.wrong(II)I -/
abbrev b_13_37 : ByteArray := prog_13_method_37_code
def y_13_37 : MethodName := ⟨"BalanceCoderModel", "wrong", "(II)I"⟩
abbrev x13_37 (C : qCx) (G : jG) : Prop := n_ctx C b_13_37 3 "BalanceCoderModel" G.1 G.2.1
def M13_37 (l : Launch) (mc ms : Nat) (p : Int → Int → Int → jS → jH → Prop) (q : Int → Int → Int → jS → jH → Int → jS → jH → Prop) : Prop := j_Met l vwCl n_TL n_NW n_KT y_13_37 (Cond.code y_13_37 b_13_37 3 (some .int) :: n_GW) { frames := 1, cells := mc, slots := ms, locals := 26 } mc ms (fun a S V => ∃ u0 u1 u2 : Int, a = [(2, u0), (0, u1), (0, u2)] ∧ S.1 u0 = 33 ∧ p u0 u1 u2 S V) (fun a S V rs S' V' => ∃ u0 u1 u2 r : Int, a = [(2, u0), (0, u1), (0, u2)] ∧ rs = [(0, r)] ∧ q u0 u1 u2 S V r S' V')
theorem e13_37 {l : Launch} {mc ms : Nat} {p : Int → Int → Int → jS → jH → Prop} {q : Int → Int → Int → jS → jH → Int → jS → jH → Prop} (body : ∀ (C : qCx) (G : jG), x13_37 C G → C.2.2.2.1.frames = 1 ∧ C.2.2.2.1.locals = 26 → C.2.2.2.1.cells = mc ∧ C.2.2.2.1.slots = ms → C.2.1 = l → C.2.2.2.2.2.2.2.2.1.name = "wrong" → ∀ (u0 u1 u2 : Int) (S : jS) (V : jH), S.1 u0 = 33 → p u0 u1 u2 S V → j_Ri n_KT 3 C G b_13_37 mc ms (q u0 u1 u2 S V) → j_ok n_KT 3 C G 0 [(0, (2, u0)), (1, (0, u1)), (2, (0, u2))] [] S V 0 0) : M13_37 l mc ms p q := by
  refine j_method (ws' := n_GW) (by decide) rfl ?_ ?_
  · rintro a S V ⟨u0, u1, u2, rfl, -⟩
    exact Nat.le_of_ble_eq_true rfl
  · rintro C G htl hl hrm hm hml ho hts hnm hE a S V ⟨u0, u1, u2, rfl, ht, hp⟩ R
    exact body C G ⟨htl, hm, hml, ho, fun w hw => hts w (List.mem_cons_of_mem _ hw), hE⟩ (by rw [hrm]; exact ⟨rfl, rfl⟩) (by rw [hrm]; exact ⟨rfl, rfl⟩) hl hnm u0 u1 u2 S V ht hp (fun pc lo r S' V' nc ns d q hc hs => R.2.1 rfl pc lo r S' V' nc ns d ⟨u0, u1, u2, r, rfl, rfl, q⟩ hc hs)
theorem d13_37_0 : decode b_13_37 0 = .ok (.iload_n 1, 1) := by decide +kernel
theorem d13_37_1 : decode b_13_37 1 = .ok (.ifCond .ge 13, 3) := by decide +kernel
theorem d13_37_4 : decode b_13_37 4 = .ok (.aload_n 0, 1) := by decide +kernel
theorem d13_37_5 : decode b_13_37 5 = .ok (.getfield 10, 3) := by decide +kernel
theorem d13_37_8 : decode b_13_37 8 = .ok (.getfield 194, 3) := by decide +kernel
theorem d13_37_11 : decode b_13_37 11 = .ok (.goto 9, 3) := by decide +kernel
theorem d13_37_14 : decode b_13_37 14 = .ok (.aload_n 0, 1) := by decide +kernel
theorem d13_37_15 : decode b_13_37 15 = .ok (.getfield 218, 3) := by decide +kernel
theorem d13_37_18 : decode b_13_37 18 = .ok (.iload_n 2, 1) := by decide +kernel
theorem d13_37_19 : decode b_13_37 19 = .ok (.isub, 1) := by decide +kernel
theorem d13_37_20 : decode b_13_37 20 = .ok (.ireturn, 1) := by decide +kernel
theorem t13_37_0 {C : qCx} {G : jG} {S : jS} {V : jH} {nc ns : Nat} {l0 l1 l2 : Int} (h : x13_37 C G)  (k : 0 ≤ l1 → j_ok n_KT 3 C G 14 [(0, (2, l0)), (2, (0, l2))] [] S V nc ns) (k' : l1 < 0 → j_ok n_KT 3 C G 4 [(0, (2, l0))] [] S V nc ns) : j_ok n_KT 3 C G 0 [(0, (2, l0)), (1, (0, l1)), (2, (0, l2))] [] S V nc ns := by
  have E := n_E h
  refine j_iload_n E d13_37_0 rfl 1 rfl ?_
  exact j_if_ge E d13_37_1 (t := 14) rfl (fun q => j_pick [0, 2] rfl (k q)) (fun q => j_pick [0] rfl (k' q))
theorem t13_37_4 {C : qCx} {G : jG} {S : jS} {V : jH} {nc ns : Nat} {l0 : Int} (h : x13_37 C G) (L : j_L S) (c1 : S.1 l0 = 33) (k : j_ok n_KT 3 C G 20 [] [(0, V (l0 + 1) 7)] S V nc ns) : j_ok n_KT 3 C G 4 [(0, (2, l0))] [] S V nc ns := by
  have E := n_E h
  refine j_aload_n E d13_37_4 rfl 0 rfl ?_
  refine j_getS (f := 0) (x := l0 + 1) (fg12_10 h) d13_37_5 c1 (by decide) rfl rfl ((L12_0 L c1).trans (by omega)) ?_
  refine j_getI (f := 7) (fg12_194 h) d13_37_8 (show S.1 (l0 + 1) = 32 from (by have q := L12_0k L c1; rw [show l0 + 1 = l0 + 1 by omega]; exact q)) (by decide) rfl rfl ?_
  refine j_goto E d13_37_11 (t := 20) rfl ?_
  exact j_pick [] rfl k
theorem t13_37_14 {C : qCx} {G : jG} {S : jS} {V : jH} {nc ns : Nat} {l0 l2 : Int} (h : x13_37 C G) (c1 : S.1 l0 = 33) (c2 : -2147483648 ≤ (V l0 22) - l2 ∧ (V l0 22) - l2 ≤ 2147483647) (k : j_ok n_KT 3 C G 20 [] [(0, (V l0 22) - l2)] S V nc ns) : j_ok n_KT 3 C G 14 [(0, (2, l0)), (2, (0, l2))] [] S V nc ns := by
  have E := n_E h
  refine j_aload_n E d13_37_14 rfl 0 rfl ?_
  refine j_getI (f := 22) (fg12_218 h) d13_37_15 c1 (by decide) rfl rfl ?_
  refine j_iload_n E d13_37_18 rfl 1 rfl ?_
  refine j_isub E d13_37_19 c2 ?_
  exact j_pick [] rfl k
theorem t13_37_20 {C : qCx} {G : jG} {S : jS} {V : jH} {nc ns : Nat} {s0 : Int} {mc ms : Nat} {qf : Int → jS → jH → Prop} (h : x13_37 C G)  (R : j_Ri n_KT 3 C G b_13_37 mc ms qf) (q : qf s0 S V) (hc : nc ≤ mc) (hs : ns ≤ ms) : j_ok n_KT 3 C G 20 [] [(0, s0)] S V nc ns := by
  have E := n_E h
  exact R _ _ _ _ _ _ _ d13_37_20 q hc hs
/- BalanceCoderModel.parseDeal(I)I -/
abbrev b_13_39 : ByteArray := prog_13_method_39_code
def y_13_39 : MethodName := ⟨"BalanceCoderModel", "parseDeal", "(I)I"⟩
abbrev x13_39 (C : qCx) (G : jG) : Prop := n_ctx C b_13_39 8 "BalanceCoderModel" G.1 G.2.1
def M13_39 (l : Launch) (mc ms : Nat) (p : Int → Int → jS → jH → Prop) (q : Int → Int → jS → jH → Int → jS → jH → Prop) : Prop := j_Met l vwCl n_TL n_NW n_KT y_13_39 (Cond.code y_13_39 b_13_39 8 (some .int) :: n_GW) { frames := 2, cells := mc, slots := ms, locals := 51 } mc ms (fun a S V => ∃ u0 u1 : Int, a = [(2, u0), (0, u1)] ∧ S.1 u0 = 33 ∧ p u0 u1 S V) (fun a S V rs S' V' => ∃ u0 u1 r : Int, a = [(2, u0), (0, u1)] ∧ rs = [(0, r)] ∧ q u0 u1 S V r S' V')
theorem e13_39 {l : Launch} {mc ms : Nat} {p : Int → Int → jS → jH → Prop} {q : Int → Int → jS → jH → Int → jS → jH → Prop} (body : ∀ (C : qCx) (G : jG), x13_39 C G → C.2.2.2.1.frames = 2 ∧ C.2.2.2.1.locals = 51 → C.2.2.2.1.cells = mc ∧ C.2.2.2.1.slots = ms → C.2.1 = l → C.2.2.2.2.2.2.2.2.1.name = "parseDeal" → ∀ (u0 u1 : Int) (S : jS) (V : jH), S.1 u0 = 33 → p u0 u1 S V → j_Ri n_KT 8 C G b_13_39 mc ms (q u0 u1 S V) → j_ok n_KT 8 C G 0 [(0, (2, u0)), (1, (0, u1))] [] S V 0 0) : M13_39 l mc ms p q := by
  refine j_method (ws' := n_GW) (by decide) rfl ?_ ?_
  · rintro a S V ⟨u0, u1, rfl, -⟩
    exact Nat.le_of_ble_eq_true rfl
  · rintro C G htl hl hrm hm hml ho hts hnm hE a S V ⟨u0, u1, rfl, ht, hp⟩ R
    exact body C G ⟨htl, hm, hml, ho, fun w hw => hts w (List.mem_cons_of_mem _ hw), hE⟩ (by rw [hrm]; exact ⟨rfl, rfl⟩) (by rw [hrm]; exact ⟨rfl, rfl⟩) hl hnm u0 u1 S V ht hp (fun pc lo r S' V' nc ns d q hc hs => R.2.1 rfl pc lo r S' V' nc ns d ⟨u0, u1, r, rfl, rfl, q⟩ hc hs)
theorem d13_39_0 : decode b_13_39 0 = .ok (.aload_n 0, 1) := by decide +kernel
theorem d13_39_1 : decode b_13_39 1 = .ok (.iconst 2, 1) := by decide +kernel
theorem d13_39_2 : decode b_13_39 2 = .ok (.invokevirtual 221, 3) := by decide +kernel
theorem d13_39_5 : decode b_13_39 5 = .ok (.istore_n 2, 1) := by decide +kernel
theorem d13_39_6 : decode b_13_39 6 = .ok (.iload_n 2, 1) := by decide +kernel
theorem d13_39_7 : decode b_13_39 7 = .ok (.i2l, 1) := by decide +kernel
theorem d13_39_8 : decode b_13_39 8 = .ok (.lconst 1, 1) := by decide +kernel
theorem d13_39_9 : decode b_13_39 9 = .ok (.ldc2_w 177, 3) := by decide +kernel
theorem d13_39_12 : decode b_13_39 12 = .ok (.invokestatic 69, 3) := by decide +kernel
theorem d13_39_15 : decode b_13_39 15 = .ok (.ifCond .ne 10, 3) := by decide +kernel
theorem d13_39_18 : decode b_13_39 18 = .ok (.aload_n 0, 1) := by decide +kernel
theorem d13_39_19 : decode b_13_39 19 = .ok (.iload_n 2, 1) := by decide +kernel
theorem d13_39_20 : decode b_13_39 20 = .ok (.iconst 2, 1) := by decide +kernel
theorem d13_39_21 : decode b_13_39 21 = .ok (.invokevirtual 224, 3) := by decide +kernel
theorem d13_39_24 : decode b_13_39 24 = .ok (.ireturn, 1) := by decide +kernel
theorem d13_39_25 : decode b_13_39 25 = .ok (.iconst (-1), 1) := by decide +kernel
theorem d13_39_26 : decode b_13_39 26 = .ok (.istore_n 3, 1) := by decide +kernel
theorem d13_39_27 : decode b_13_39 27 = .ok (.iconst 0, 1) := by decide +kernel
theorem d13_39_28 : decode b_13_39 28 = .ok (.istore 4, 2) := by decide +kernel
theorem d13_39_30 : decode b_13_39 30 = .ok (.iconst 0, 1) := by decide +kernel
theorem d13_39_31 : decode b_13_39 31 = .ok (.istore 5, 2) := by decide +kernel
theorem d13_39_33 : decode b_13_39 33 = .ok (.iload 5, 2) := by decide +kernel
theorem d13_39_35 : decode b_13_39 35 = .ok (.iload_n 2, 1) := by decide +kernel
theorem d13_39_36 : decode b_13_39 36 = .ok (.if_icmp .ge 123, 3) := by decide +kernel
theorem d13_39_39 : decode b_13_39 39 = .ok (.aload_n 0, 1) := by decide +kernel
theorem d13_39_40 : decode b_13_39 40 = .ok (.iconst 1, 1) := by decide +kernel
theorem d13_39_41 : decode b_13_39 41 = .ok (.invokevirtual 221, 3) := by decide +kernel
theorem d13_39_44 : decode b_13_39 44 = .ok (.istore 6, 2) := by decide +kernel
theorem d13_39_46 : decode b_13_39 46 = .ok (.iload 6, 2) := by decide +kernel
theorem d13_39_48 : decode b_13_39 48 = .ok (.iload_n 3, 1) := by decide +kernel
theorem d13_39_49 : decode b_13_39 49 = .ok (.if_icmp .gt 11, 3) := by decide +kernel
theorem d13_39_52 : decode b_13_39 52 = .ok (.aload_n 0, 1) := by decide +kernel
theorem d13_39_53 : decode b_13_39 53 = .ok (.iload 6, 2) := by decide +kernel
theorem d13_39_55 : decode b_13_39 55 = .ok (.iconst 1, 1) := by decide +kernel
theorem d13_39_56 : decode b_13_39 56 = .ok (.invokevirtual 224, 3) := by decide +kernel
theorem d13_39_59 : decode b_13_39 59 = .ok (.ireturn, 1) := by decide +kernel
theorem d13_39_60 : decode b_13_39 60 = .ok (.iload 6, 2) := by decide +kernel
theorem d13_39_62 : decode b_13_39 62 = .ok (.istore_n 3, 1) := by decide +kernel
theorem d13_39_63 : decode b_13_39 63 = .ok (.aload_n 0, 1) := by decide +kernel
theorem d13_39_64 : decode b_13_39 64 = .ok (.iconst 2, 1) := by decide +kernel
theorem d13_39_65 : decode b_13_39 65 = .ok (.invokevirtual 221, 3) := by decide +kernel
theorem d13_39_68 : decode b_13_39 68 = .ok (.istore 7, 2) := by decide +kernel
theorem d13_39_70 : decode b_13_39 70 = .ok (.iload 7, 2) := by decide +kernel
theorem d13_39_72 : decode b_13_39 72 = .ok (.ifCond .ge 11, 3) := by decide +kernel
theorem d13_39_75 : decode b_13_39 75 = .ok (.aload_n 0, 1) := by decide +kernel
theorem d13_39_76 : decode b_13_39 76 = .ok (.getfield 10, 3) := by decide +kernel
theorem d13_39_79 : decode b_13_39 79 = .ok (.getfield 194, 3) := by decide +kernel
theorem d13_39_82 : decode b_13_39 82 = .ok (.ireturn, 1) := by decide +kernel
theorem d13_39_83 : decode b_13_39 83 = .ok (.iload 4, 2) := by decide +kernel
theorem d13_39_85 : decode b_13_39 85 = .ok (.iload 7, 2) := by decide +kernel
theorem d13_39_87 : decode b_13_39 87 = .ok (.iconst 1, 1) := by decide +kernel
theorem d13_39_88 : decode b_13_39 88 = .ok (.iadd, 1) := by decide +kernel
theorem d13_39_89 : decode b_13_39 89 = .ok (.iadd, 1) := by decide +kernel
theorem d13_39_90 : decode b_13_39 90 = .ok (.istore 4, 2) := by decide +kernel
theorem d13_39_92 : decode b_13_39 92 = .ok (.iload 7, 2) := by decide +kernel
theorem d13_39_94 : decode b_13_39 94 = .ok (.iconst 1, 1) := by decide +kernel
theorem d13_39_95 : decode b_13_39 95 = .ok (.iadd, 1) := by decide +kernel
theorem d13_39_96 : decode b_13_39 96 = .ok (.aload_n 0, 1) := by decide +kernel
theorem d13_39_97 : decode b_13_39 97 = .ok (.getfield 171, 3) := by decide +kernel
theorem d13_39_100 : decode b_13_39 100 = .ok (.if_icmp .gt 29, 3) := by decide +kernel
theorem d13_39_103 : decode b_13_39 103 = .ok (.iload 4, 2) := by decide +kernel
theorem d13_39_105 : decode b_13_39 105 = .ok (.aload_n 0, 1) := by decide +kernel
theorem d13_39_106 : decode b_13_39 106 = .ok (.getfield 171, 3) := by decide +kernel
theorem d13_39_109 : decode b_13_39 109 = .ok (.if_icmp .gt 20, 3) := by decide +kernel
theorem d13_39_112 : decode b_13_39 112 = .ok (.iload 5, 2) := by decide +kernel
theorem d13_39_114 : decode b_13_39 114 = .ok (.iload_n 2, 1) := by decide +kernel
theorem d13_39_115 : decode b_13_39 115 = .ok (.iconst 1, 1) := by decide +kernel
theorem d13_39_116 : decode b_13_39 116 = .ok (.isub, 1) := by decide +kernel
theorem d13_39_117 : decode b_13_39 117 = .ok (.if_icmp .ne 19, 3) := by decide +kernel
theorem d13_39_120 : decode b_13_39 120 = .ok (.iload 4, 2) := by decide +kernel
theorem d13_39_122 : decode b_13_39 122 = .ok (.aload_n 0, 1) := by decide +kernel
theorem d13_39_123 : decode b_13_39 123 = .ok (.getfield 171, 3) := by decide +kernel
theorem d13_39_126 : decode b_13_39 126 = .ok (.if_icmp .ge 10, 3) := by decide +kernel
theorem d13_39_129 : decode b_13_39 129 = .ok (.aload_n 0, 1) := by decide +kernel
theorem d13_39_130 : decode b_13_39 130 = .ok (.getfield 218, 3) := by decide +kernel
theorem d13_39_133 : decode b_13_39 133 = .ok (.iconst 2, 1) := by decide +kernel
theorem d13_39_134 : decode b_13_39 134 = .ok (.isub, 1) := by decide +kernel
theorem d13_39_135 : decode b_13_39 135 = .ok (.ireturn, 1) := by decide +kernel
theorem d13_39_136 : decode b_13_39 136 = .ok (.aload_n 0, 1) := by decide +kernel
theorem d13_39_137 : decode b_13_39 137 = .ok (.getfield 32, 3) := by decide +kernel
theorem d13_39_140 : decode b_13_39 140 = .ok (.sipush 256, 3) := by decide +kernel
theorem d13_39_143 : decode b_13_39 143 = .ok (.iload_n 1, 1) := by decide +kernel
theorem d13_39_144 : decode b_13_39 144 = .ok (.imul, 1) := by decide +kernel
theorem d13_39_145 : decode b_13_39 145 = .ok (.iload 6, 2) := by decide +kernel
theorem d13_39_147 : decode b_13_39 147 = .ok (.iadd, 1) := by decide +kernel
theorem d13_39_148 : decode b_13_39 148 = .ok (.iload 7, 2) := by decide +kernel
theorem d13_39_150 : decode b_13_39 150 = .ok (.iconst 1, 1) := by decide +kernel
theorem d13_39_151 : decode b_13_39 151 = .ok (.iadd, 1) := by decide +kernel
theorem d13_39_152 : decode b_13_39 152 = .ok (.iastore, 1) := by decide +kernel
theorem d13_39_153 : decode b_13_39 153 = .ok (.iinc 5 1, 3) := by decide +kernel
theorem d13_39_156 : decode b_13_39 156 = .ok (.goto (-123), 3) := by decide +kernel
theorem d13_39_159 : decode b_13_39 159 = .ok (.iconst (-1), 1) := by decide +kernel
theorem d13_39_160 : decode b_13_39 160 = .ok (.ireturn, 1) := by decide +kernel
theorem K13_39_2 {C : qCx} {G : jG} {mc ms : Nat} {p : Int → Int → jS → jH → Prop} {q : Int → Int → jS → jH → Int → jS → jH → Prop} (h : x13_39 C G) (hrm : C.2.2.2.1.frames = 2 ∧ C.2.2.2.1.locals = 51) (hM : M13_36 C.2.1 mc ms p q) : j_Call C b_13_39 n_KT G.1 G.2.1 8 (.invokevirtual 221) mc ms (fun a S V => ∃ u0 u1 : Int, a = [(2, u0), (0, u1)] ∧ S.1 u0 = 33 ∧ p u0 u1 S V) (fun a S V rs S' V' => ∃ u0 u1 r : Int, a = [(2, u0), (0, u1)] ∧ rs = [(0, r)] ∧ q u0 u1 S V r S' V') := j_callV n_NWk h.2.2.2.2.2 h.1 hM ⟨h.2.1.1, h.2.1.2, h.2.2.1, h.2.2.2.1, h.2.2.2.2.1⟩ ⟨n_CB (y := y_13_36) (bytes := b_13_36) 1 h.2.2.2.2.1 n_w1066 n_w1063 n_w12 ⟨by decide, by decide, by decide +kernel⟩ rfl rfl ⟨by rw [hrm.1]; exact Nat.le_of_ble_eq_true rfl, by rw [hrm.2]; exact Nat.le_of_ble_eq_true rfl⟩, h.2.2.2.2.1 _ n_w1065, h.2.2.2.2.1 _ n_s45⟩ (Cn := RX12) (fun a S V hP => by obtain ⟨u0, u1, rfl, e, -⟩ := hP; exact ⟨u0, _, 12, _, _, TX12, 31, rfl, rfl, by rw [e]; decide, by rw [e]; rfl, rfl⟩)
theorem K13_39_12 {C : qCx} {G : jG} {mc ms : Nat} {p : Int → Int → Int → jS → jH → Prop} {q : Int → Int → Int → jS → jH → Int → jS → jH → Prop} (h : x13_39 C G) (hrm : C.2.2.2.1.frames = 2 ∧ C.2.2.2.1.locals = 51) (hM : M13_3 C.2.1 mc ms p q) : j_Call C b_13_39 n_KT G.1 G.2.1 8 (.invokestatic 69) mc ms (fun a S V => ∃ u0 u1 u2 : Int, a = [(1, u0), (1, u1), (1, u2)] ∧ p u0 u1 u2 S V) (fun a S V rs S' V' => ∃ u0 u1 u2 r : Int, a = [(1, u0), (1, u1), (1, u2)] ∧ rs = [(0, r)] ∧ q u0 u1 u2 S V r S' V') := j_callS n_NWk h.2.2.2.2.2 h.1 hM ⟨h.2.1.1, h.2.1.2, h.2.2.1, h.2.2.2.1, h.2.2.2.2.1⟩ ⟨n_CB (y := y_13_3) (bytes := b_13_3) 3 h.2.2.2.2.1 n_w923 n_w921 n_w12 ⟨by decide, by decide, by decide +kernel⟩ rfl rfl ⟨by rw [hrm.1]; exact Nat.le_of_ble_eq_true rfl, by rw [hrm.2]; exact Nat.le_of_ble_eq_true rfl⟩, h.2.2.2.2.1 _ n_w922⟩ (fun a S V hP => by obtain ⟨u0, u1, u2, rfl, -⟩ := hP; rfl)
theorem K13_39_21 {C : qCx} {G : jG} {mc ms : Nat} {p : Int → Int → Int → jS → jH → Prop} {q : Int → Int → Int → jS → jH → Int → jS → jH → Prop} (h : x13_39 C G) (hrm : C.2.2.2.1.frames = 2 ∧ C.2.2.2.1.locals = 51) (hM : M13_37 C.2.1 mc ms p q) : j_Call C b_13_39 n_KT G.1 G.2.1 8 (.invokevirtual 224) mc ms (fun a S V => ∃ u0 u1 u2 : Int, a = [(2, u0), (0, u1), (0, u2)] ∧ S.1 u0 = 33 ∧ p u0 u1 u2 S V) (fun a S V rs S' V' => ∃ u0 u1 u2 r : Int, a = [(2, u0), (0, u1), (0, u2)] ∧ rs = [(0, r)] ∧ q u0 u1 u2 S V r S' V') := j_callV n_NWk h.2.2.2.2.2 h.1 hM ⟨h.2.1.1, h.2.1.2, h.2.2.1, h.2.2.2.1, h.2.2.2.2.1⟩ ⟨n_CB (y := y_13_37) (bytes := b_13_37) 2 h.2.2.2.2.1 n_w1070 n_w1067 n_w12 ⟨by decide, by decide, by decide +kernel⟩ rfl rfl ⟨by rw [hrm.1]; exact Nat.le_of_ble_eq_true rfl, by rw [hrm.2]; exact Nat.le_of_ble_eq_true rfl⟩, h.2.2.2.2.1 _ n_w1069, h.2.2.2.2.1 _ n_s46⟩ (Cn := RX12) (fun a S V hP => by obtain ⟨u0, u1, u2, rfl, e, -⟩ := hP; exact ⟨u0, _, 12, _, _, TX12, 31, rfl, rfl, by rw [e]; decide, by rw [e]; rfl, rfl⟩)
theorem K13_39_41 {C : qCx} {G : jG} {mc ms : Nat} {p : Int → Int → jS → jH → Prop} {q : Int → Int → jS → jH → Int → jS → jH → Prop} (h : x13_39 C G) (hrm : C.2.2.2.1.frames = 2 ∧ C.2.2.2.1.locals = 51) (hM : M13_36 C.2.1 mc ms p q) : j_Call C b_13_39 n_KT G.1 G.2.1 8 (.invokevirtual 221) mc ms (fun a S V => ∃ u0 u1 : Int, a = [(2, u0), (0, u1)] ∧ S.1 u0 = 33 ∧ p u0 u1 S V) (fun a S V rs S' V' => ∃ u0 u1 r : Int, a = [(2, u0), (0, u1)] ∧ rs = [(0, r)] ∧ q u0 u1 S V r S' V') := j_callV n_NWk h.2.2.2.2.2 h.1 hM ⟨h.2.1.1, h.2.1.2, h.2.2.1, h.2.2.2.1, h.2.2.2.2.1⟩ ⟨n_CB (y := y_13_36) (bytes := b_13_36) 1 h.2.2.2.2.1 n_w1066 n_w1063 n_w12 ⟨by decide, by decide, by decide +kernel⟩ rfl rfl ⟨by rw [hrm.1]; exact Nat.le_of_ble_eq_true rfl, by rw [hrm.2]; exact Nat.le_of_ble_eq_true rfl⟩, h.2.2.2.2.1 _ n_w1065, h.2.2.2.2.1 _ n_s45⟩ (Cn := RX12) (fun a S V hP => by obtain ⟨u0, u1, rfl, e, -⟩ := hP; exact ⟨u0, _, 12, _, _, TX12, 31, rfl, rfl, by rw [e]; decide, by rw [e]; rfl, rfl⟩)
theorem K13_39_56 {C : qCx} {G : jG} {mc ms : Nat} {p : Int → Int → Int → jS → jH → Prop} {q : Int → Int → Int → jS → jH → Int → jS → jH → Prop} (h : x13_39 C G) (hrm : C.2.2.2.1.frames = 2 ∧ C.2.2.2.1.locals = 51) (hM : M13_37 C.2.1 mc ms p q) : j_Call C b_13_39 n_KT G.1 G.2.1 8 (.invokevirtual 224) mc ms (fun a S V => ∃ u0 u1 u2 : Int, a = [(2, u0), (0, u1), (0, u2)] ∧ S.1 u0 = 33 ∧ p u0 u1 u2 S V) (fun a S V rs S' V' => ∃ u0 u1 u2 r : Int, a = [(2, u0), (0, u1), (0, u2)] ∧ rs = [(0, r)] ∧ q u0 u1 u2 S V r S' V') := j_callV n_NWk h.2.2.2.2.2 h.1 hM ⟨h.2.1.1, h.2.1.2, h.2.2.1, h.2.2.2.1, h.2.2.2.2.1⟩ ⟨n_CB (y := y_13_37) (bytes := b_13_37) 2 h.2.2.2.2.1 n_w1070 n_w1067 n_w12 ⟨by decide, by decide, by decide +kernel⟩ rfl rfl ⟨by rw [hrm.1]; exact Nat.le_of_ble_eq_true rfl, by rw [hrm.2]; exact Nat.le_of_ble_eq_true rfl⟩, h.2.2.2.2.1 _ n_w1069, h.2.2.2.2.1 _ n_s46⟩ (Cn := RX12) (fun a S V hP => by obtain ⟨u0, u1, u2, rfl, e, -⟩ := hP; exact ⟨u0, _, 12, _, _, TX12, 31, rfl, rfl, by rw [e]; decide, by rw [e]; rfl, rfl⟩)
theorem K13_39_65 {C : qCx} {G : jG} {mc ms : Nat} {p : Int → Int → jS → jH → Prop} {q : Int → Int → jS → jH → Int → jS → jH → Prop} (h : x13_39 C G) (hrm : C.2.2.2.1.frames = 2 ∧ C.2.2.2.1.locals = 51) (hM : M13_36 C.2.1 mc ms p q) : j_Call C b_13_39 n_KT G.1 G.2.1 8 (.invokevirtual 221) mc ms (fun a S V => ∃ u0 u1 : Int, a = [(2, u0), (0, u1)] ∧ S.1 u0 = 33 ∧ p u0 u1 S V) (fun a S V rs S' V' => ∃ u0 u1 r : Int, a = [(2, u0), (0, u1)] ∧ rs = [(0, r)] ∧ q u0 u1 S V r S' V') := j_callV n_NWk h.2.2.2.2.2 h.1 hM ⟨h.2.1.1, h.2.1.2, h.2.2.1, h.2.2.2.1, h.2.2.2.2.1⟩ ⟨n_CB (y := y_13_36) (bytes := b_13_36) 1 h.2.2.2.2.1 n_w1066 n_w1063 n_w12 ⟨by decide, by decide, by decide +kernel⟩ rfl rfl ⟨by rw [hrm.1]; exact Nat.le_of_ble_eq_true rfl, by rw [hrm.2]; exact Nat.le_of_ble_eq_true rfl⟩, h.2.2.2.2.1 _ n_w1065, h.2.2.2.2.1 _ n_s45⟩ (Cn := RX12) (fun a S V hP => by obtain ⟨u0, u1, rfl, e, -⟩ := hP; exact ⟨u0, _, 12, _, _, TX12, 31, rfl, rfl, by rw [e]; decide, by rw [e]; rfl, rfl⟩)
theorem t13_39_0 {C : qCx} {G : jG} {S : jS} {V : jH} {nc ns : Nat} {l0 l1 : Int} {mc ms : Nat} {pp : Int → Int → jS → jH → Prop} {qq : Int → Int → jS → jH → Int → jS → jH → Prop} (h : x13_39 C G) (hrm : C.2.2.2.1.frames = 2 ∧ C.2.2.2.1.locals = 51) (c1 : S.1 l0 = 33) (hM : M13_36 C.2.1 mc ms pp qq) (hp : pp l0 2 S V) (hc : nc + mc ≤ C.2.2.2.1.cells) (hs : ns + ms ≤ C.2.2.2.1.slots) (k : ∀ (r : Int) (S' : jS) (V' : jH), qq l0 2 S V r S' V' → j_ok n_KT 8 C G 5 [(0, (2, l0)), (1, (0, l1))] [(0, r)] S' V' (nc + mc) (ns + ms)) : j_ok n_KT 8 C G 0 [(0, (2, l0)), (1, (0, l1))] [] S V nc ns := by
  have E := n_E h
  refine j_aload_n E d13_39_0 rfl 0 rfl ?_
  refine j_iconst E d13_39_1 (by decide) ?_
  refine j_call E (K13_39_2 h hrm hM) d13_39_2 (a := [(2, l0), (0, 2)]) (sk := []) rfl ⟨l0, 2, rfl, c1, hp⟩ (Nat.le_of_ble_eq_true rfl) hc hs ?_
  rintro rs S' V' ⟨z0, z1, r, e1, rfl, q⟩
  simp only [List.cons.injEq, Prod.mk.injEq, and_true, true_and] at e1
  obtain ⟨rfl, rfl⟩ := e1
  exact j_pick [0, 1] rfl (k r S' V' q)
theorem t13_39_5 {C : qCx} {G : jG} {S : jS} {V : jH} {nc ns : Nat} {l0 l1 s0 : Int} {mc ms : Nat} {pp : Int → Int → Int → jS → jH → Prop} {qq : Int → Int → Int → jS → jH → Int → jS → jH → Prop} (h : x13_39 C G) (hrm : C.2.2.2.1.frames = 2 ∧ C.2.2.2.1.locals = 51)  (hM : M13_3 C.2.1 mc ms pp qq) (hp : pp s0 1 256 S V) (hc : nc + mc ≤ C.2.2.2.1.cells) (hs : ns + ms ≤ C.2.2.2.1.slots) (k : ∀ (r : Int) (S' : jS) (V' : jH), qq s0 1 256 S V r S' V' → j_ok n_KT 8 C G 15 [(0, (2, l0)), (1, (0, l1)), (2, (0, s0))] [(0, r)] S' V' (nc + mc) (ns + ms)) : j_ok n_KT 8 C G 5 [(0, (2, l0)), (1, (0, l1))] [(0, s0)] S V nc ns := by
  have E := n_E h
  refine j_istore_n E d13_39_5 rfl (by decide) (lo1 := [(0, (2, l0)), (1, (0, l1))]) rfl ?_
  refine j_iload_n E d13_39_6 rfl 0 rfl ?_
  refine j_i2l E d13_39_7 ?_
  refine j_lconst E d13_39_8 ?_
  refine j_ldc2 (n := 256) (fl12_177 h) rfl d13_39_9 ?_
  refine j_call E (K13_39_12 h hrm hM) d13_39_12 (a := [(1, s0), (1, 1), (1, 256)]) (sk := []) rfl ⟨s0, 1, 256, rfl, hp⟩ (Nat.le_of_ble_eq_true rfl) hc hs ?_
  rintro rs S' V' ⟨z0, z1, z2, r, e1, rfl, q⟩
  simp only [List.cons.injEq, Prod.mk.injEq, and_true, true_and] at e1
  obtain ⟨rfl, rfl, rfl⟩ := e1
  exact j_pick [1, 2, 0] rfl (k r S' V' q)
theorem t13_39_15 {C : qCx} {G : jG} {S : jS} {V : jH} {nc ns : Nat} {l0 l1 l2 s0 : Int} (h : x13_39 C G)  (k : ¬ s0 = 0 → j_ok n_KT 8 C G 25 [(0, (2, l0)), (1, (0, l1)), (2, (0, l2))] [] S V nc ns) (k' : s0 = 0 → j_ok n_KT 8 C G 18 [(0, (2, l0)), (2, (0, l2))] [] S V nc ns) : j_ok n_KT 8 C G 15 [(0, (2, l0)), (1, (0, l1)), (2, (0, l2))] [(0, s0)] S V nc ns := by
  have E := n_E h
  exact j_if_ne E d13_39_15 (t := 25) rfl (fun q => j_pick [0, 1, 2] rfl (k q)) (fun q => j_pick [0, 2] rfl (k' q))
theorem t13_39_18 {C : qCx} {G : jG} {S : jS} {V : jH} {nc ns : Nat} {l0 l2 : Int} {mc ms : Nat} {pp : Int → Int → Int → jS → jH → Prop} {qq : Int → Int → Int → jS → jH → Int → jS → jH → Prop} (h : x13_39 C G) (hrm : C.2.2.2.1.frames = 2 ∧ C.2.2.2.1.locals = 51) (c1 : S.1 l0 = 33) (hM : M13_37 C.2.1 mc ms pp qq) (hp : pp l0 l2 2 S V) (hc : nc + mc ≤ C.2.2.2.1.cells) (hs : ns + ms ≤ C.2.2.2.1.slots) (k : ∀ (r : Int) (S' : jS) (V' : jH), qq l0 l2 2 S V r S' V' → j_ok n_KT 8 C G 24 [] [(0, r)] S' V' (nc + mc) (ns + ms)) : j_ok n_KT 8 C G 18 [(0, (2, l0)), (2, (0, l2))] [] S V nc ns := by
  have E := n_E h
  refine j_aload_n E d13_39_18 rfl 0 rfl ?_
  refine j_iload_n E d13_39_19 rfl 1 rfl ?_
  refine j_iconst E d13_39_20 (by decide) ?_
  refine j_call E (K13_39_21 h hrm hM) d13_39_21 (a := [(2, l0), (0, l2), (0, 2)]) (sk := []) rfl ⟨l0, l2, 2, rfl, c1, hp⟩ (Nat.le_of_ble_eq_true rfl) hc hs ?_
  rintro rs S' V' ⟨z0, z1, z2, r, e1, rfl, q⟩
  simp only [List.cons.injEq, Prod.mk.injEq, and_true, true_and] at e1
  obtain ⟨rfl, rfl, rfl⟩ := e1
  exact j_pick [] rfl (k r S' V' q)
theorem t13_39_24 {C : qCx} {G : jG} {S : jS} {V : jH} {nc ns : Nat} {s0 : Int} {mc ms : Nat} {qf : Int → jS → jH → Prop} (h : x13_39 C G)  (R : j_Ri n_KT 8 C G b_13_39 mc ms qf) (q : qf s0 S V) (hc : nc ≤ mc) (hs : ns ≤ ms) : j_ok n_KT 8 C G 24 [] [(0, s0)] S V nc ns := by
  have E := n_E h
  exact R _ _ _ _ _ _ _ d13_39_24 q hc hs
theorem t13_39_25 {C : qCx} {G : jG} {S : jS} {V : jH} {nc ns : Nat} {l0 l1 l2 : Int} (h : x13_39 C G)  (k : j_ok n_KT 8 C G 33 [(0, (2, l0)), (1, (0, l1)), (2, (0, l2)), (3, (0, (-1))), (4, (0, 0)), (5, (0, 0))] [] S V nc ns) : j_ok n_KT 8 C G 25 [(0, (2, l0)), (1, (0, l1)), (2, (0, l2))] [] S V nc ns := by
  have E := n_E h
  refine j_iconst E d13_39_25 (by decide) ?_
  refine j_istore_n E d13_39_26 rfl (by decide) (lo1 := [(0, (2, l0)), (1, (0, l1)), (2, (0, l2))]) rfl ?_
  refine j_iconst E d13_39_27 (by decide) ?_
  refine j_istore E d13_39_28 (by decide) (lo1 := [(3, (0, (-1))), (0, (2, l0)), (1, (0, l1)), (2, (0, l2))]) rfl ?_
  refine j_iconst E d13_39_30 (by decide) ?_
  refine j_istore E d13_39_31 (by decide) (lo1 := [(4, (0, 0)), (3, (0, (-1))), (0, (2, l0)), (1, (0, l1)), (2, (0, l2))]) rfl ?_
  exact j_pick [3, 4, 5, 2, 1, 0] rfl k
theorem t13_39_33 {C : qCx} {G : jG} {S : jS} {V : jH} {nc ns : Nat} {l0 l1 l2 l3 l4 l5 : Int} (h : x13_39 C G)  (k : l2 ≤ l5 → j_ok n_KT 8 C G 159 [] [] S V nc ns) (k' : l5 < l2 → j_ok n_KT 8 C G 39 [(0, (2, l0)), (1, (0, l1)), (2, (0, l2)), (3, (0, l3)), (4, (0, l4)), (5, (0, l5))] [] S V nc ns) : j_ok n_KT 8 C G 33 [(0, (2, l0)), (1, (0, l1)), (2, (0, l2)), (3, (0, l3)), (4, (0, l4)), (5, (0, l5))] [] S V nc ns := by
  have E := n_E h
  refine j_iload E d13_39_33 5 rfl ?_
  refine j_iload_n E d13_39_35 rfl 2 rfl ?_
  exact j_icmp_ge E d13_39_36 (t := 159) rfl (fun q => j_pick [] rfl (k q)) (fun q => j_pick [0, 1, 2, 3, 4, 5] rfl (k' q))
theorem t13_39_39 {C : qCx} {G : jG} {S : jS} {V : jH} {nc ns : Nat} {l0 l1 l2 l3 l4 l5 : Int} {mc ms : Nat} {pp : Int → Int → jS → jH → Prop} {qq : Int → Int → jS → jH → Int → jS → jH → Prop} (h : x13_39 C G) (hrm : C.2.2.2.1.frames = 2 ∧ C.2.2.2.1.locals = 51) (c1 : S.1 l0 = 33) (hM : M13_36 C.2.1 mc ms pp qq) (hp : pp l0 1 S V) (hc : nc + mc ≤ C.2.2.2.1.cells) (hs : ns + ms ≤ C.2.2.2.1.slots) (k : ∀ (r : Int) (S' : jS) (V' : jH), qq l0 1 S V r S' V' → j_ok n_KT 8 C G 44 [(0, (2, l0)), (1, (0, l1)), (2, (0, l2)), (3, (0, l3)), (4, (0, l4)), (5, (0, l5))] [(0, r)] S' V' (nc + mc) (ns + ms)) : j_ok n_KT 8 C G 39 [(0, (2, l0)), (1, (0, l1)), (2, (0, l2)), (3, (0, l3)), (4, (0, l4)), (5, (0, l5))] [] S V nc ns := by
  have E := n_E h
  refine j_aload_n E d13_39_39 rfl 0 rfl ?_
  refine j_iconst E d13_39_40 (by decide) ?_
  refine j_call E (K13_39_41 h hrm hM) d13_39_41 (a := [(2, l0), (0, 1)]) (sk := []) rfl ⟨l0, 1, rfl, c1, hp⟩ (Nat.le_of_ble_eq_true rfl) hc hs ?_
  rintro rs S' V' ⟨z0, z1, r, e1, rfl, q⟩
  simp only [List.cons.injEq, Prod.mk.injEq, and_true, true_and] at e1
  obtain ⟨rfl, rfl⟩ := e1
  exact j_pick [0, 1, 2, 3, 4, 5] rfl (k r S' V' q)
theorem t13_39_44 {C : qCx} {G : jG} {S : jS} {V : jH} {nc ns : Nat} {l0 l1 l2 l3 l4 l5 s0 : Int} (h : x13_39 C G)  (k : l3 < s0 → j_ok n_KT 8 C G 60 [(0, (2, l0)), (1, (0, l1)), (2, (0, l2)), (4, (0, l4)), (5, (0, l5)), (6, (0, s0))] [] S V nc ns) (k' : s0 ≤ l3 → j_ok n_KT 8 C G 52 [(0, (2, l0)), (6, (0, s0))] [] S V nc ns) : j_ok n_KT 8 C G 44 [(0, (2, l0)), (1, (0, l1)), (2, (0, l2)), (3, (0, l3)), (4, (0, l4)), (5, (0, l5))] [(0, s0)] S V nc ns := by
  have E := n_E h
  refine j_istore E d13_39_44 (by decide) (lo1 := [(0, (2, l0)), (1, (0, l1)), (2, (0, l2)), (3, (0, l3)), (4, (0, l4)), (5, (0, l5))]) rfl ?_
  refine j_iload E d13_39_46 0 rfl ?_
  refine j_iload_n E d13_39_48 rfl 4 rfl ?_
  exact j_icmp_gt E d13_39_49 (t := 60) rfl (fun q => j_pick [1, 2, 3, 5, 6, 0] rfl (k q)) (fun q => j_pick [1, 0] rfl (k' q))
theorem t13_39_52 {C : qCx} {G : jG} {S : jS} {V : jH} {nc ns : Nat} {l0 l6 : Int} {mc ms : Nat} {pp : Int → Int → Int → jS → jH → Prop} {qq : Int → Int → Int → jS → jH → Int → jS → jH → Prop} (h : x13_39 C G) (hrm : C.2.2.2.1.frames = 2 ∧ C.2.2.2.1.locals = 51) (c1 : S.1 l0 = 33) (hM : M13_37 C.2.1 mc ms pp qq) (hp : pp l0 l6 1 S V) (hc : nc + mc ≤ C.2.2.2.1.cells) (hs : ns + ms ≤ C.2.2.2.1.slots) (k : ∀ (r : Int) (S' : jS) (V' : jH), qq l0 l6 1 S V r S' V' → j_ok n_KT 8 C G 59 [] [(0, r)] S' V' (nc + mc) (ns + ms)) : j_ok n_KT 8 C G 52 [(0, (2, l0)), (6, (0, l6))] [] S V nc ns := by
  have E := n_E h
  refine j_aload_n E d13_39_52 rfl 0 rfl ?_
  refine j_iload E d13_39_53 1 rfl ?_
  refine j_iconst E d13_39_55 (by decide) ?_
  refine j_call E (K13_39_56 h hrm hM) d13_39_56 (a := [(2, l0), (0, l6), (0, 1)]) (sk := []) rfl ⟨l0, l6, 1, rfl, c1, hp⟩ (Nat.le_of_ble_eq_true rfl) hc hs ?_
  rintro rs S' V' ⟨z0, z1, z2, r, e1, rfl, q⟩
  simp only [List.cons.injEq, Prod.mk.injEq, and_true, true_and] at e1
  obtain ⟨rfl, rfl, rfl⟩ := e1
  exact j_pick [] rfl (k r S' V' q)
theorem t13_39_59 {C : qCx} {G : jG} {S : jS} {V : jH} {nc ns : Nat} {s0 : Int} {mc ms : Nat} {qf : Int → jS → jH → Prop} (h : x13_39 C G)  (R : j_Ri n_KT 8 C G b_13_39 mc ms qf) (q : qf s0 S V) (hc : nc ≤ mc) (hs : ns ≤ ms) : j_ok n_KT 8 C G 59 [] [(0, s0)] S V nc ns := by
  have E := n_E h
  exact R _ _ _ _ _ _ _ d13_39_59 q hc hs
theorem t13_39_60 {C : qCx} {G : jG} {S : jS} {V : jH} {nc ns : Nat} {l0 l1 l2 l4 l5 l6 : Int} {mc ms : Nat} {pp : Int → Int → jS → jH → Prop} {qq : Int → Int → jS → jH → Int → jS → jH → Prop} (h : x13_39 C G) (hrm : C.2.2.2.1.frames = 2 ∧ C.2.2.2.1.locals = 51) (c1 : S.1 l0 = 33) (hM : M13_36 C.2.1 mc ms pp qq) (hp : pp l0 2 S V) (hc : nc + mc ≤ C.2.2.2.1.cells) (hs : ns + ms ≤ C.2.2.2.1.slots) (k : ∀ (r : Int) (S' : jS) (V' : jH), qq l0 2 S V r S' V' → j_ok n_KT 8 C G 68 [(0, (2, l0)), (1, (0, l1)), (2, (0, l2)), (3, (0, l6)), (4, (0, l4)), (5, (0, l5)), (6, (0, l6))] [(0, r)] S' V' (nc + mc) (ns + ms)) : j_ok n_KT 8 C G 60 [(0, (2, l0)), (1, (0, l1)), (2, (0, l2)), (4, (0, l4)), (5, (0, l5)), (6, (0, l6))] [] S V nc ns := by
  have E := n_E h
  refine j_iload E d13_39_60 5 rfl ?_
  refine j_istore_n E d13_39_62 rfl (by decide) (lo1 := [(0, (2, l0)), (1, (0, l1)), (2, (0, l2)), (4, (0, l4)), (5, (0, l5)), (6, (0, l6))]) rfl ?_
  refine j_aload_n E d13_39_63 rfl 1 rfl ?_
  refine j_iconst E d13_39_64 (by decide) ?_
  refine j_call E (K13_39_65 h hrm hM) d13_39_65 (a := [(2, l0), (0, 2)]) (sk := []) rfl ⟨l0, 2, rfl, c1, hp⟩ (Nat.le_of_ble_eq_true rfl) hc hs ?_
  rintro rs S' V' ⟨z0, z1, r, e1, rfl, q⟩
  simp only [List.cons.injEq, Prod.mk.injEq, and_true, true_and] at e1
  obtain ⟨rfl, rfl⟩ := e1
  exact j_pick [1, 2, 3, 0, 4, 5, 6] rfl (k r S' V' q)
theorem t13_39_68 {C : qCx} {G : jG} {S : jS} {V : jH} {nc ns : Nat} {l0 l1 l2 l3 l4 l5 l6 s0 : Int} (h : x13_39 C G)  (k : 0 ≤ s0 → j_ok n_KT 8 C G 83 [(0, (2, l0)), (1, (0, l1)), (2, (0, l2)), (3, (0, l3)), (4, (0, l4)), (5, (0, l5)), (6, (0, l6)), (7, (0, s0))] [] S V nc ns) (k' : s0 < 0 → j_ok n_KT 8 C G 75 [(0, (2, l0))] [] S V nc ns) : j_ok n_KT 8 C G 68 [(0, (2, l0)), (1, (0, l1)), (2, (0, l2)), (3, (0, l3)), (4, (0, l4)), (5, (0, l5)), (6, (0, l6))] [(0, s0)] S V nc ns := by
  have E := n_E h
  refine j_istore E d13_39_68 (by decide) (lo1 := [(0, (2, l0)), (1, (0, l1)), (2, (0, l2)), (3, (0, l3)), (4, (0, l4)), (5, (0, l5)), (6, (0, l6))]) rfl ?_
  refine j_iload E d13_39_70 0 rfl ?_
  exact j_if_ge E d13_39_72 (t := 83) rfl (fun q => j_pick [1, 2, 3, 4, 5, 6, 7, 0] rfl (k q)) (fun q => j_pick [1] rfl (k' q))
theorem t13_39_75 {C : qCx} {G : jG} {S : jS} {V : jH} {nc ns : Nat} {l0 : Int} {mc ms : Nat} {qf : Int → jS → jH → Prop} (h : x13_39 C G) (L : j_L S) (c1 : S.1 l0 = 33) (R : j_Ri n_KT 8 C G b_13_39 mc ms qf) (q : qf (V (l0 + 1) 7) S V) (hc : nc ≤ mc) (hs : ns ≤ ms) : j_ok n_KT 8 C G 75 [(0, (2, l0))] [] S V nc ns := by
  have E := n_E h
  refine j_aload_n E d13_39_75 rfl 0 rfl ?_
  refine j_getS (f := 0) (x := l0 + 1) (fg12_10 h) d13_39_76 c1 (by decide) rfl rfl ((L12_0 L c1).trans (by omega)) ?_
  refine j_getI (f := 7) (fg12_194 h) d13_39_79 (show S.1 (l0 + 1) = 32 from (by have q := L12_0k L c1; rw [show l0 + 1 = l0 + 1 by omega]; exact q)) (by decide) rfl rfl ?_
  exact R _ _ _ _ _ _ _ d13_39_82 q hc hs
theorem t13_39_83 {C : qCx} {G : jG} {S : jS} {V : jH} {nc ns : Nat} {l0 l1 l2 l3 l4 l5 l6 l7 : Int} (h : x13_39 C G) (c1 : -2147483648 ≤ l7 + 1 ∧ l7 + 1 ≤ 2147483647) (c2 : -2147483648 ≤ l4 + (l7 + 1) ∧ l4 + (l7 + 1) ≤ 2147483647) (c3 : S.1 l0 = 33) (k : V l0 10 < l7 + 1 → j_ok n_KT 8 C G 129 [(0, (2, l0))] [] S V nc ns) (k' : l7 + 1 ≤ V l0 10 → j_ok n_KT 8 C G 103 [(0, (2, l0)), (1, (0, l1)), (2, (0, l2)), (3, (0, l3)), (4, (0, l4 + (l7 + 1))), (5, (0, l5)), (6, (0, l6)), (7, (0, l7))] [] S V nc ns) : j_ok n_KT 8 C G 83 [(0, (2, l0)), (1, (0, l1)), (2, (0, l2)), (3, (0, l3)), (4, (0, l4)), (5, (0, l5)), (6, (0, l6)), (7, (0, l7))] [] S V nc ns := by
  have E := n_E h
  refine j_iload E d13_39_83 4 rfl ?_
  refine j_iload E d13_39_85 7 rfl ?_
  refine j_iconst E d13_39_87 (by decide) ?_
  refine j_iadd E d13_39_88 c1 ?_
  refine j_iadd E d13_39_89 c2 ?_
  refine j_istore E d13_39_90 (by decide) (lo1 := [(0, (2, l0)), (1, (0, l1)), (2, (0, l2)), (3, (0, l3)), (5, (0, l5)), (6, (0, l6)), (7, (0, l7))]) rfl ?_
  refine j_iload E d13_39_92 7 rfl ?_
  refine j_iconst E d13_39_94 (by decide) ?_
  refine j_iadd E d13_39_95 c1 ?_
  refine j_aload_n E d13_39_96 rfl 1 rfl ?_
  refine j_getI (f := 10) (fg12_171 h) d13_39_97 c3 (by decide) rfl rfl ?_
  exact j_icmp_gt E d13_39_100 (t := 129) rfl (fun q => j_pick [1] rfl (k q)) (fun q => j_pick [1, 2, 3, 4, 0, 5, 6, 7] rfl (k' q))
theorem t13_39_103 {C : qCx} {G : jG} {S : jS} {V : jH} {nc ns : Nat} {l0 l1 l2 l3 l4 l5 l6 l7 : Int} (h : x13_39 C G) (c1 : S.1 l0 = 33) (k : V l0 10 < l4 → j_ok n_KT 8 C G 129 [(0, (2, l0))] [] S V nc ns) (k' : l4 ≤ V l0 10 → j_ok n_KT 8 C G 112 [(0, (2, l0)), (1, (0, l1)), (2, (0, l2)), (3, (0, l3)), (4, (0, l4)), (5, (0, l5)), (6, (0, l6)), (7, (0, l7))] [] S V nc ns) : j_ok n_KT 8 C G 103 [(0, (2, l0)), (1, (0, l1)), (2, (0, l2)), (3, (0, l3)), (4, (0, l4)), (5, (0, l5)), (6, (0, l6)), (7, (0, l7))] [] S V nc ns := by
  have E := n_E h
  refine j_iload E d13_39_103 4 rfl ?_
  refine j_aload_n E d13_39_105 rfl 0 rfl ?_
  refine j_getI (f := 10) (fg12_171 h) d13_39_106 c1 (by decide) rfl rfl ?_
  exact j_icmp_gt E d13_39_109 (t := 129) rfl (fun q => j_pick [0] rfl (k q)) (fun q => j_pick [0, 1, 2, 3, 4, 5, 6, 7] rfl (k' q))
theorem t13_39_112 {C : qCx} {G : jG} {S : jS} {V : jH} {nc ns : Nat} {l0 l1 l2 l3 l4 l5 l6 l7 : Int} (h : x13_39 C G) (c1 : -2147483648 ≤ l2 - 1 ∧ l2 - 1 ≤ 2147483647) (k : ¬ l5 = l2 - 1 → j_ok n_KT 8 C G 136 [(0, (2, l0)), (1, (0, l1)), (2, (0, l2)), (3, (0, l3)), (4, (0, l4)), (5, (0, l5)), (6, (0, l6)), (7, (0, l7))] [] S V nc ns) (k' : l5 = l2 - 1 → j_ok n_KT 8 C G 120 [(0, (2, l0)), (1, (0, l1)), (2, (0, l2)), (3, (0, l3)), (4, (0, l4)), (5, (0, l5)), (6, (0, l6)), (7, (0, l7))] [] S V nc ns) : j_ok n_KT 8 C G 112 [(0, (2, l0)), (1, (0, l1)), (2, (0, l2)), (3, (0, l3)), (4, (0, l4)), (5, (0, l5)), (6, (0, l6)), (7, (0, l7))] [] S V nc ns := by
  have E := n_E h
  refine j_iload E d13_39_112 5 rfl ?_
  refine j_iload_n E d13_39_114 rfl 2 rfl ?_
  refine j_iconst E d13_39_115 (by decide) ?_
  refine j_isub E d13_39_116 c1 ?_
  exact j_icmp_ne E d13_39_117 (t := 136) rfl (fun q => j_pick [0, 1, 2, 3, 4, 5, 6, 7] rfl (k q)) (fun q => j_pick [0, 1, 2, 3, 4, 5, 6, 7] rfl (k' q))
theorem t13_39_120 {C : qCx} {G : jG} {S : jS} {V : jH} {nc ns : Nat} {l0 l1 l2 l3 l4 l5 l6 l7 : Int} (h : x13_39 C G) (c1 : S.1 l0 = 33) (k : V l0 10 ≤ l4 → j_ok n_KT 8 C G 136 [(0, (2, l0)), (1, (0, l1)), (2, (0, l2)), (3, (0, l3)), (4, (0, l4)), (5, (0, l5)), (6, (0, l6)), (7, (0, l7))] [] S V nc ns) (k' : l4 < V l0 10 → j_ok n_KT 8 C G 129 [(0, (2, l0))] [] S V nc ns) : j_ok n_KT 8 C G 120 [(0, (2, l0)), (1, (0, l1)), (2, (0, l2)), (3, (0, l3)), (4, (0, l4)), (5, (0, l5)), (6, (0, l6)), (7, (0, l7))] [] S V nc ns := by
  have E := n_E h
  refine j_iload E d13_39_120 4 rfl ?_
  refine j_aload_n E d13_39_122 rfl 0 rfl ?_
  refine j_getI (f := 10) (fg12_171 h) d13_39_123 c1 (by decide) rfl rfl ?_
  exact j_icmp_ge E d13_39_126 (t := 136) rfl (fun q => j_pick [0, 1, 2, 3, 4, 5, 6, 7] rfl (k q)) (fun q => j_pick [0] rfl (k' q))
theorem t13_39_129 {C : qCx} {G : jG} {S : jS} {V : jH} {nc ns : Nat} {l0 : Int} {mc ms : Nat} {qf : Int → jS → jH → Prop} (h : x13_39 C G) (c1 : S.1 l0 = 33) (c2 : -2147483648 ≤ (V l0 22) - 2 ∧ (V l0 22) - 2 ≤ 2147483647) (R : j_Ri n_KT 8 C G b_13_39 mc ms qf) (q : qf ((V l0 22) - 2) S V) (hc : nc ≤ mc) (hs : ns ≤ ms) : j_ok n_KT 8 C G 129 [(0, (2, l0))] [] S V nc ns := by
  have E := n_E h
  refine j_aload_n E d13_39_129 rfl 0 rfl ?_
  refine j_getI (f := 22) (fg12_218 h) d13_39_130 c1 (by decide) rfl rfl ?_
  refine j_iconst E d13_39_133 (by decide) ?_
  refine j_isub E d13_39_134 c2 ?_
  exact R _ _ _ _ _ _ _ d13_39_135 q hc hs
theorem t13_39_136 {C : qCx} {G : jG} {S : jS} {V : jH} {nc ns : Nat} {l0 l1 l2 l3 l4 l5 l6 l7 : Int} (h : x13_39 C G) (L : j_L S) (c1 : S.1 l0 = 33) (c2 : -2147483648 ≤ 256 * l1 ∧ 256 * l1 ≤ 2147483647) (c3 : -2147483648 ≤ (256 * l1) + l6 ∧ (256 * l1) + l6 ≤ 2147483647) (c4 : -2147483648 ≤ l7 + 1 ∧ l7 + 1 ≤ 2147483647) (c5 : 0 ≤ (256 * l1) + l6) (c6 : (256 * l1) + l6 < 1024) (c7 : -2147483648 ≤ l5 + 1 ∧ l5 + 1 ≤ 2147483647) (k : j_ok n_KT 8 C G 33 [(0, (2, l0)), (1, (0, l1)), (2, (0, l2)), (3, (0, l3)), (4, (0, l4)), (5, (0, l5 + 1))] [] S (j_up V (l0 + 21) ((256 * l1) + l6) (l7 + 1)) nc ns) : j_ok n_KT 8 C G 136 [(0, (2, l0)), (1, (0, l1)), (2, (0, l2)), (3, (0, l3)), (4, (0, l4)), (5, (0, l5)), (6, (0, l6)), (7, (0, l7))] [] S V nc ns := by
  have E := n_E h
  refine j_aload_n E d13_39_136 rfl 0 rfl ?_
  refine j_getS (f := 11) (x := l0 + 21) (fg12_32 h) d13_39_137 c1 (by decide) rfl rfl ((L12_11 L c1).trans (by omega)) ?_
  refine j_sipush E d13_39_140 (by decide) ?_
  refine j_iload_n E d13_39_143 rfl 1 rfl ?_
  refine j_imul E d13_39_144 c2 ?_
  refine j_iload E d13_39_145 6 rfl ?_
  refine j_iadd E d13_39_147 c3 ?_
  refine j_iload E d13_39_148 7 rfl ?_
  refine j_iconst E d13_39_150 (by decide) ?_
  refine j_iadd E d13_39_151 c4 ?_
  refine j_iast E d13_39_152 (j_arr_of (show S.1 (l0 + 21) = 12 from (by have q := L12_11k L c1; rw [show l0 + 21 = l0 + 21 by omega]; exact q)) (by decide) rfl) c5 c6 ?_
  refine j_iinc E d13_39_153 (by decide) (by decide) 5 rfl (lo1 := [(0, (2, l0)), (1, (0, l1)), (2, (0, l2)), (3, (0, l3)), (4, (0, l4)), (6, (0, l6)), (7, (0, l7))]) rfl c7 ?_
  refine j_goto E d13_39_156 (t := 33) rfl ?_
  exact j_pick [1, 2, 3, 4, 5, 0] rfl k
theorem t13_39_159 {C : qCx} {G : jG} {S : jS} {V : jH} {nc ns : Nat} {mc ms : Nat} {qf : Int → jS → jH → Prop} (h : x13_39 C G)  (R : j_Ri n_KT 8 C G b_13_39 mc ms qf) (q : qf ((-1)) S V) (hc : nc ≤ mc) (hs : ns ≤ ms) : j_ok n_KT 8 C G 159 [] [] S V nc ns := by
  have E := n_E h
  refine j_iconst E d13_39_159 (by decide) ?_
  exact R _ _ _ _ _ _ _ d13_39_160 q hc hs
