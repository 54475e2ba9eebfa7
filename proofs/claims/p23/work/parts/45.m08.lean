/- BalanceCoderModel.cost(III)J -/
abbrev b_13_21 : ByteArray := prog_13_method_21_code
def y_13_21 : MethodName := ⟨"BalanceCoderModel", "cost", "(III)J"⟩
abbrev x13_21 (C : qCx) (G : jG) : Prop := n_ctx C b_13_21 9 "BalanceCoderModel" G.1 G.2.1
def M13_21 (l : Launch) (mc ms : Nat) (p : Int → Int → Int → Int → jS → jH → Prop) (q : Int → Int → Int → Int → jS → jH → Int → jS → jH → Prop) : Prop := j_Met l vwCl n_TL n_NW n_KT y_13_21 (Cond.code y_13_21 b_13_21 9 (some .long) :: n_GW) { frames := 4, cells := mc, slots := ms, locals := 94 } mc ms (fun a S V => ∃ u0 u1 u2 u3 : Int, a = [(2, u0), (0, u1), (0, u2), (0, u3)] ∧ S.1 u0 = 33 ∧ p u0 u1 u2 u3 S V) (fun a S V rs S' V' => ∃ u0 u1 u2 u3 r : Int, a = [(2, u0), (0, u1), (0, u2), (0, u3)] ∧ rs = [(1, r)] ∧ q u0 u1 u2 u3 S V r S' V')
theorem e13_21 {l : Launch} {mc ms : Nat} {p : Int → Int → Int → Int → jS → jH → Prop} {q : Int → Int → Int → Int → jS → jH → Int → jS → jH → Prop} (body : ∀ (C : qCx) (G : jG), x13_21 C G → C.2.2.2.1.frames = 4 ∧ C.2.2.2.1.locals = 94 → C.2.2.2.1.cells = mc ∧ C.2.2.2.1.slots = ms → C.2.1 = l → C.2.2.2.2.2.2.2.2.1.name = "cost" → ∀ (u0 u1 u2 u3 : Int) (S : jS) (V : jH), S.1 u0 = 33 → p u0 u1 u2 u3 S V → j_Rl n_KT 9 C G b_13_21 mc ms (q u0 u1 u2 u3 S V) → j_ok n_KT 9 C G 0 [(0, (2, u0)), (1, (0, u1)), (2, (0, u2)), (3, (0, u3))] [] S V 0 0) : M13_21 l mc ms p q := by
  refine j_method (ws' := n_GW) (by decide) rfl ?_ ?_
  · rintro a S V ⟨u0, u1, u2, u3, rfl, -⟩
    exact Nat.le_of_ble_eq_true rfl
  · rintro C G htl hl hrm hm hml ho hts hnm hE a S V ⟨u0, u1, u2, u3, rfl, ht, hp⟩ R
    exact body C G ⟨htl, hm, hml, ho, fun w hw => hts w (List.mem_cons_of_mem _ hw), hE⟩ (by rw [hrm]; exact ⟨rfl, rfl⟩) (by rw [hrm]; exact ⟨rfl, rfl⟩) hl hnm u0 u1 u2 u3 S V ht hp (fun pc lo r S' V' nc ns d q hc hs => R.2.2.2.1 rfl pc lo r S' V' nc ns d ⟨u0, u1, u2, u3, r, rfl, rfl, q⟩ hc hs)
theorem d13_21_0 : decode b_13_21 0 = .ok (.aload_n 0, 1) := by decide +kernel
theorem d13_21_1 : decode b_13_21 1 = .ok (.iload_n 1, 1) := by decide +kernel
theorem d13_21_2 : decode b_13_21 2 = .ok (.invokevirtual 117, 3) := by decide +kernel
theorem d13_21_5 : decode b_13_21 5 = .ok (.ifCond .eq 19, 3) := by decide +kernel
theorem d13_21_8 : decode b_13_21 8 = .ok (.aload_n 0, 1) := by decide +kernel
theorem d13_21_9 : decode b_13_21 9 = .ok (.iload_n 1, 1) := by decide +kernel
theorem d13_21_10 : decode b_13_21 10 = .ok (.iload_n 2, 1) := by decide +kernel
theorem d13_21_11 : decode b_13_21 11 = .ok (.invokevirtual 139, 3) := by decide +kernel
theorem d13_21_14 : decode b_13_21 14 = .ok (.ifCond .eq 10, 3) := by decide +kernel
theorem d13_21_17 : decode b_13_21 17 = .ok (.iload_n 3, 1) := by decide +kernel
theorem d13_21_18 : decode b_13_21 18 = .ok (.invokestatic 76, 3) := by decide +kernel
theorem d13_21_21 : decode b_13_21 21 = .ok (.ifCond .ne 10, 3) := by decide +kernel
theorem d13_21_24 : decode b_13_21 24 = .ok (.aload_n 0, 1) := by decide +kernel
theorem d13_21_25 : decode b_13_21 25 = .ok (.iconst (-1), 1) := by decide +kernel
theorem d13_21_26 : decode b_13_21 26 = .ok (.invokevirtual 82, 3) := by decide +kernel
theorem d13_21_29 : decode b_13_21 29 = .ok (.i2l, 1) := by decide +kernel
theorem d13_21_30 : decode b_13_21 30 = .ok (.lreturn, 1) := by decide +kernel
theorem d13_21_31 : decode b_13_21 31 = .ok (.aload_n 0, 1) := by decide +kernel
theorem d13_21_32 : decode b_13_21 32 = .ok (.iload_n 1, 1) := by decide +kernel
theorem d13_21_33 : decode b_13_21 33 = .ok (.invokevirtual 143, 3) := by decide +kernel
theorem d13_21_36 : decode b_13_21 36 = .ok (.ifCond .eq 11, 3) := by decide +kernel
theorem d13_21_39 : decode b_13_21 39 = .ok (.aload_n 0, 1) := by decide +kernel
theorem d13_21_40 : decode b_13_21 40 = .ok (.bipush (-4), 2) := by decide +kernel
theorem d13_21_42 : decode b_13_21 42 = .ok (.invokevirtual 82, 3) := by decide +kernel
theorem d13_21_45 : decode b_13_21 45 = .ok (.i2l, 1) := by decide +kernel
theorem d13_21_46 : decode b_13_21 46 = .ok (.lreturn, 1) := by decide +kernel
theorem d13_21_47 : decode b_13_21 47 = .ok (.lconst 0, 1) := by decide +kernel
theorem d13_21_48 : decode b_13_21 48 = .ok (.lstore 4, 2) := by decide +kernel
theorem d13_21_50 : decode b_13_21 50 = .ok (.iconst 0, 1) := by decide +kernel
theorem d13_21_51 : decode b_13_21 51 = .ok (.istore 6, 2) := by decide +kernel
theorem d13_21_53 : decode b_13_21 53 = .ok (.iload 6, 2) := by decide +kernel
theorem d13_21_55 : decode b_13_21 55 = .ok (.aload_n 0, 1) := by decide +kernel
theorem d13_21_56 : decode b_13_21 56 = .ok (.getfield 10, 3) := by decide +kernel
theorem d13_21_59 : decode b_13_21 59 = .ok (.getfield 86, 3) := by decide +kernel
theorem d13_21_62 : decode b_13_21 62 = .ok (.iload_n 3, 1) := by decide +kernel
theorem d13_21_63 : decode b_13_21 63 = .ok (.iaload, 1) := by decide +kernel
theorem d13_21_64 : decode b_13_21 64 = .ok (.if_icmp .ge 100, 3) := by decide +kernel
theorem d13_21_67 : decode b_13_21 67 = .ok (.aload_n 0, 1) := by decide +kernel
theorem d13_21_68 : decode b_13_21 68 = .ok (.getfield 10, 3) := by decide +kernel
theorem d13_21_71 : decode b_13_21 71 = .ok (.getfield 110, 3) := by decide +kernel
theorem d13_21_74 : decode b_13_21 74 = .ok (.aload_n 0, 1) := by decide +kernel
theorem d13_21_75 : decode b_13_21 75 = .ok (.iload_n 1, 1) := by decide +kernel
theorem d13_21_76 : decode b_13_21 76 = .ok (.iload_n 2, 1) := by decide +kernel
theorem d13_21_77 : decode b_13_21 77 = .ok (.aload_n 0, 1) := by decide +kernel
theorem d13_21_78 : decode b_13_21 78 = .ok (.getfield 10, 3) := by decide +kernel
theorem d13_21_81 : decode b_13_21 81 = .ok (.getfield 89, 3) := by decide +kernel
theorem d13_21_84 : decode b_13_21 84 = .ok (.sipush 400, 3) := by decide +kernel
theorem d13_21_87 : decode b_13_21 87 = .ok (.iload_n 3, 1) := by decide +kernel
theorem d13_21_88 : decode b_13_21 88 = .ok (.imul, 1) := by decide +kernel
theorem d13_21_89 : decode b_13_21 89 = .ok (.iload 6, 2) := by decide +kernel
theorem d13_21_91 : decode b_13_21 91 = .ok (.iadd, 1) := by decide +kernel
theorem d13_21_92 : decode b_13_21 92 = .ok (.iaload, 1) := by decide +kernel
theorem d13_21_93 : decode b_13_21 93 = .ok (.invokevirtual 113, 3) := by decide +kernel
theorem d13_21_96 : decode b_13_21 96 = .ok (.iaload, 1) := by decide +kernel
theorem d13_21_97 : decode b_13_21 97 = .ok (.istore 7, 2) := by decide +kernel
theorem d13_21_99 : decode b_13_21 99 = .ok (.iload 7, 2) := by decide +kernel
theorem d13_21_101 : decode b_13_21 101 = .ok (.ifCond .ne 20, 3) := by decide +kernel
theorem d13_21_104 : decode b_13_21 104 = .ok (.aload_n 0, 1) := by decide +kernel
theorem d13_21_105 : decode b_13_21 105 = .ok (.getfield 10, 3) := by decide +kernel
theorem d13_21_108 : decode b_13_21 108 = .ok (.iload 6, 2) := by decide +kernel
theorem d13_21_110 : decode b_13_21 110 = .ok (.putfield 146, 3) := by decide +kernel
theorem d13_21_113 : decode b_13_21 113 = .ok (.aload_n 0, 1) := by decide +kernel
theorem d13_21_114 : decode b_13_21 114 = .ok (.bipush (-5), 2) := by decide +kernel
theorem d13_21_116 : decode b_13_21 116 = .ok (.invokevirtual 82, 3) := by decide +kernel
theorem d13_21_119 : decode b_13_21 119 = .ok (.i2l, 1) := by decide +kernel
theorem d13_21_120 : decode b_13_21 120 = .ok (.lreturn, 1) := by decide +kernel
theorem d13_21_121 : decode b_13_21 121 = .ok (.iload 7, 2) := by decide +kernel
theorem d13_21_123 : decode b_13_21 123 = .ok (.istore 8, 2) := by decide +kernel
theorem d13_21_125 : decode b_13_21 125 = .ok (.iload 8, 2) := by decide +kernel
theorem d13_21_127 : decode b_13_21 127 = .ok (.iconst 1, 1) := by decide +kernel
theorem d13_21_128 : decode b_13_21 128 = .ok (.aload_n 0, 1) := by decide +kernel
theorem d13_21_129 : decode b_13_21 129 = .ok (.getfield 10, 3) := by decide +kernel
theorem d13_21_132 : decode b_13_21 132 = .ok (.getfield 103, 3) := by decide +kernel
theorem d13_21_135 : decode b_13_21 135 = .ok (.iload_n 1, 1) := by decide +kernel
theorem d13_21_136 : decode b_13_21 136 = .ok (.iaload, 1) := by decide +kernel
theorem d13_21_137 : decode b_13_21 137 = .ok (.ishl, 1) := by decide +kernel
theorem d13_21_138 : decode b_13_21 138 = .ok (.if_icmp .ge 20, 3) := by decide +kernel
theorem d13_21_141 : decode b_13_21 141 = .ok (.lload 4, 2) := by decide +kernel
theorem d13_21_143 : decode b_13_21 143 = .ok (.ldc 124, 2) := by decide +kernel
theorem d13_21_145 : decode b_13_21 145 = .ok (.iload 8, 2) := by decide +kernel
theorem d13_21_147 : decode b_13_21 147 = .ok (.idiv, 1) := by decide +kernel
theorem d13_21_148 : decode b_13_21 148 = .ok (.i2l, 1) := by decide +kernel
theorem d13_21_149 : decode b_13_21 149 = .ok (.ladd, 1) := by decide +kernel
theorem d13_21_150 : decode b_13_21 150 = .ok (.lstore 4, 2) := by decide +kernel
theorem d13_21_152 : decode b_13_21 152 = .ok (.iinc 8 1, 3) := by decide +kernel
theorem d13_21_155 : decode b_13_21 155 = .ok (.goto (-30), 3) := by decide +kernel
theorem d13_21_158 : decode b_13_21 158 = .ok (.iinc 6 1, 3) := by decide +kernel
theorem d13_21_161 : decode b_13_21 161 = .ok (.goto (-108), 3) := by decide +kernel
theorem d13_21_164 : decode b_13_21 164 = .ok (.lload 4, 2) := by decide +kernel
theorem d13_21_166 : decode b_13_21 166 = .ok (.lreturn, 1) := by decide +kernel
theorem K13_21_2 {C : qCx} {G : jG} {mc ms : Nat} {p : Int → Int → jS → jH → Prop} {q : Int → Int → jS → jH → Int → jS → jH → Prop} (h : x13_21 C G) (hrm : C.2.2.2.1.frames = 4 ∧ C.2.2.2.1.locals = 94) (hM : M13_5 C.2.1 mc ms p q) : j_Call C b_13_21 n_KT G.1 G.2.1 9 (.invokevirtual 117) mc ms (fun a S V => ∃ u0 u1 : Int, a = [(2, u0), (0, u1)] ∧ S.1 u0 = 33 ∧ p u0 u1 S V) (fun a S V rs S' V' => ∃ u0 u1 r : Int, a = [(2, u0), (0, u1)] ∧ rs = [(0, r)] ∧ q u0 u1 S V r S' V') := j_callV n_NWk h.2.2.2.2.2 h.1 hM ⟨h.2.1.1, h.2.1.2, h.2.2.1, h.2.2.2.1, h.2.2.2.2.1⟩ ⟨n_CB (y := y_13_5) (bytes := b_13_5) 1 h.2.2.2.2.1 n_w956 n_w953 n_w12 ⟨by decide, by decide, by decide +kernel⟩ rfl rfl ⟨by rw [hrm.1]; exact Nat.le_of_ble_eq_true rfl, by rw [hrm.2]; exact Nat.le_of_ble_eq_true rfl⟩, h.2.2.2.2.1 _ n_w955, h.2.2.2.2.1 _ n_s28⟩ (Cn := RX12) (fun a S V hP => by obtain ⟨u0, u1, rfl, e, -⟩ := hP; exact ⟨u0, _, 12, _, _, TX12, 31, rfl, rfl, by rw [e]; decide, by rw [e]; rfl, rfl⟩)
theorem K13_21_11 {C : qCx} {G : jG} {mc ms : Nat} {p : Int → Int → Int → jS → jH → Prop} {q : Int → Int → Int → jS → jH → Int → jS → jH → Prop} (h : x13_21 C G) (hrm : C.2.2.2.1.frames = 4 ∧ C.2.2.2.1.locals = 94) (hM : M13_19 C.2.1 mc ms p q) : j_Call C b_13_21 n_KT G.1 G.2.1 9 (.invokevirtual 139) mc ms (fun a S V => ∃ u0 u1 u2 : Int, a = [(2, u0), (0, u1), (0, u2)] ∧ S.1 u0 = 33 ∧ p u0 u1 u2 S V) (fun a S V rs S' V' => ∃ u0 u1 u2 r : Int, a = [(2, u0), (0, u1), (0, u2)] ∧ rs = [(0, r)] ∧ q u0 u1 u2 S V r S' V') := j_callV n_NWk h.2.2.2.2.2 h.1 hM ⟨h.2.1.1, h.2.1.2, h.2.2.1, h.2.2.2.1, h.2.2.2.2.1⟩ ⟨n_CB (y := y_13_19) (bytes := b_13_19) 2 h.2.2.2.2.1 n_w988 n_w985 n_w12 ⟨by decide, by decide, by decide +kernel⟩ rfl rfl ⟨by rw [hrm.1]; exact Nat.le_of_ble_eq_true rfl, by rw [hrm.2]; exact Nat.le_of_ble_eq_true rfl⟩, h.2.2.2.2.1 _ n_w987, h.2.2.2.2.1 _ n_s33⟩ (Cn := RX12) (fun a S V hP => by obtain ⟨u0, u1, u2, rfl, e, -⟩ := hP; exact ⟨u0, _, 12, _, _, TX12, 31, rfl, rfl, by rw [e]; decide, by rw [e]; rfl, rfl⟩)
theorem K13_21_18 {C : qCx} {G : jG} {mc ms : Nat} {p : Int → jS → jH → Prop} {q : Int → jS → jH → Int → jS → jH → Prop} (h : x13_21 C G) (hrm : C.2.2.2.1.frames = 4 ∧ C.2.2.2.1.locals = 94) (hM : M13_4 C.2.1 mc ms p q) : j_Call C b_13_21 n_KT G.1 G.2.1 9 (.invokestatic 76) mc ms (fun a S V => ∃ u0 : Int, a = [(0, u0)] ∧ p u0 S V) (fun a S V rs S' V' => ∃ u0 r : Int, a = [(0, u0)] ∧ rs = [(0, r)] ∧ q u0 S V r S' V') := j_callS n_NWk h.2.2.2.2.2 h.1 hM ⟨h.2.1.1, h.2.1.2, h.2.2.1, h.2.2.2.1, h.2.2.2.2.1⟩ ⟨n_CB (y := y_13_4) (bytes := b_13_4) 1 h.2.2.2.2.1 n_w919 n_w917 n_w12 ⟨by decide, by decide, by decide +kernel⟩ rfl rfl ⟨by rw [hrm.1]; exact Nat.le_of_ble_eq_true rfl, by rw [hrm.2]; exact Nat.le_of_ble_eq_true rfl⟩, h.2.2.2.2.1 _ n_w918⟩ (fun a S V hP => by obtain ⟨u0, rfl, -⟩ := hP; rfl)
theorem K13_21_26 {C : qCx} {G : jG} {mc ms : Nat} {p : Int → Int → jS → jH → Prop} {q : Int → Int → jS → jH → Int → jS → jH → Prop} (h : x13_21 C G) (hrm : C.2.2.2.1.frames = 4 ∧ C.2.2.2.1.locals = 94) (hM : M13_2 C.2.1 mc ms p q) : j_Call C b_13_21 n_KT G.1 G.2.1 9 (.invokevirtual 82) mc ms (fun a S V => ∃ u0 u1 : Int, a = [(2, u0), (0, u1)] ∧ S.1 u0 = 33 ∧ p u0 u1 S V) (fun a S V rs S' V' => ∃ u0 u1 r : Int, a = [(2, u0), (0, u1)] ∧ rs = [(0, r)] ∧ q u0 u1 S V r S' V') := j_callV n_NWk h.2.2.2.2.2 h.1 hM ⟨h.2.1.1, h.2.1.2, h.2.2.1, h.2.2.2.1, h.2.2.2.2.1⟩ ⟨n_CB (y := y_13_2) (bytes := b_13_2) 1 h.2.2.2.2.1 n_w928 n_w925 n_w12 ⟨by decide, by decide, by decide +kernel⟩ rfl rfl ⟨by rw [hrm.1]; exact Nat.le_of_ble_eq_true rfl, by rw [hrm.2]; exact Nat.le_of_ble_eq_true rfl⟩, h.2.2.2.2.1 _ n_w927, h.2.2.2.2.1 _ n_s27⟩ (Cn := RX12) (fun a S V hP => by obtain ⟨u0, u1, rfl, e, -⟩ := hP; exact ⟨u0, _, 12, _, _, TX12, 31, rfl, rfl, by rw [e]; decide, by rw [e]; rfl, rfl⟩)
theorem K13_21_33 {C : qCx} {G : jG} {mc ms : Nat} {p : Int → Int → jS → jH → Prop} {q : Int → Int → jS → jH → Int → jS → jH → Prop} (h : x13_21 C G) (hrm : C.2.2.2.1.frames = 4 ∧ C.2.2.2.1.locals = 94) (hM : M13_14 C.2.1 mc ms p q) : j_Call C b_13_21 n_KT G.1 G.2.1 9 (.invokevirtual 143) mc ms (fun a S V => ∃ u0 u1 : Int, a = [(2, u0), (0, u1)] ∧ S.1 u0 = 33 ∧ p u0 u1 S V) (fun a S V rs S' V' => ∃ u0 u1 r : Int, a = [(2, u0), (0, u1)] ∧ rs = [(0, r)] ∧ q u0 u1 S V r S' V') := j_callV n_NWk h.2.2.2.2.2 h.1 hM ⟨h.2.1.1, h.2.1.2, h.2.2.1, h.2.2.2.1, h.2.2.2.2.1⟩ ⟨n_CB (y := y_13_14) (bytes := b_13_14) 1 h.2.2.2.2.1 n_w993 n_w990 n_w12 ⟨by decide, by decide, by decide +kernel⟩ rfl rfl ⟨by rw [hrm.1]; exact Nat.le_of_ble_eq_true rfl, by rw [hrm.2]; exact Nat.le_of_ble_eq_true rfl⟩, h.2.2.2.2.1 _ n_w992, h.2.2.2.2.1 _ n_s34⟩ (Cn := RX12) (fun a S V hP => by obtain ⟨u0, u1, rfl, e, -⟩ := hP; exact ⟨u0, _, 12, _, _, TX12, 31, rfl, rfl, by rw [e]; decide, by rw [e]; rfl, rfl⟩)
theorem K13_21_42 {C : qCx} {G : jG} {mc ms : Nat} {p : Int → Int → jS → jH → Prop} {q : Int → Int → jS → jH → Int → jS → jH → Prop} (h : x13_21 C G) (hrm : C.2.2.2.1.frames = 4 ∧ C.2.2.2.1.locals = 94) (hM : M13_2 C.2.1 mc ms p q) : j_Call C b_13_21 n_KT G.1 G.2.1 9 (.invokevirtual 82) mc ms (fun a S V => ∃ u0 u1 : Int, a = [(2, u0), (0, u1)] ∧ S.1 u0 = 33 ∧ p u0 u1 S V) (fun a S V rs S' V' => ∃ u0 u1 r : Int, a = [(2, u0), (0, u1)] ∧ rs = [(0, r)] ∧ q u0 u1 S V r S' V') := j_callV n_NWk h.2.2.2.2.2 h.1 hM ⟨h.2.1.1, h.2.1.2, h.2.2.1, h.2.2.2.1, h.2.2.2.2.1⟩ ⟨n_CB (y := y_13_2) (bytes := b_13_2) 1 h.2.2.2.2.1 n_w928 n_w925 n_w12 ⟨by decide, by decide, by decide +kernel⟩ rfl rfl ⟨by rw [hrm.1]; exact Nat.le_of_ble_eq_true rfl, by rw [hrm.2]; exact Nat.le_of_ble_eq_true rfl⟩, h.2.2.2.2.1 _ n_w927, h.2.2.2.2.1 _ n_s27⟩ (Cn := RX12) (fun a S V hP => by obtain ⟨u0, u1, rfl, e, -⟩ := hP; exact ⟨u0, _, 12, _, _, TX12, 31, rfl, rfl, by rw [e]; decide, by rw [e]; rfl, rfl⟩)
theorem K13_21_93 {C : qCx} {G : jG} {mc ms : Nat} {p : Int → Int → Int → Int → jS → jH → Prop} {q : Int → Int → Int → Int → jS → jH → Int → jS → jH → Prop} (h : x13_21 C G) (hrm : C.2.2.2.1.frames = 4 ∧ C.2.2.2.1.locals = 94) (hM : M13_11 C.2.1 mc ms p q) : j_Call C b_13_21 n_KT G.1 G.2.1 9 (.invokevirtual 113) mc ms (fun a S V => ∃ u0 u1 u2 u3 : Int, a = [(2, u0), (0, u1), (0, u2), (0, u3)] ∧ S.1 u0 = 33 ∧ p u0 u1 u2 u3 S V) (fun a S V rs S' V' => ∃ u0 u1 u2 u3 r : Int, a = [(2, u0), (0, u1), (0, u2), (0, u3)] ∧ rs = [(0, r)] ∧ q u0 u1 u2 u3 S V r S' V') := j_callV n_NWk h.2.2.2.2.2 h.1 hM ⟨h.2.1.1, h.2.1.2, h.2.2.1, h.2.2.2.1, h.2.2.2.2.1⟩ ⟨n_CB (y := y_13_11) (bytes := b_13_11) 3 h.2.2.2.2.1 n_w964 n_w961 n_w12 ⟨by decide, by decide, by decide +kernel⟩ rfl rfl ⟨by rw [hrm.1]; exact Nat.le_of_ble_eq_true rfl, by rw [hrm.2]; exact Nat.le_of_ble_eq_true rfl⟩, h.2.2.2.2.1 _ n_w963, h.2.2.2.2.1 _ n_s30⟩ (Cn := RX12) (fun a S V hP => by obtain ⟨u0, u1, u2, u3, rfl, e, -⟩ := hP; exact ⟨u0, _, 12, _, _, TX12, 31, rfl, rfl, by rw [e]; decide, by rw [e]; rfl, rfl⟩)
theorem K13_21_116 {C : qCx} {G : jG} {mc ms : Nat} {p : Int → Int → jS → jH → Prop} {q : Int → Int → jS → jH → Int → jS → jH → Prop} (h : x13_21 C G) (hrm : C.2.2.2.1.frames = 4 ∧ C.2.2.2.1.locals = 94) (hM : M13_2 C.2.1 mc ms p q) : j_Call C b_13_21 n_KT G.1 G.2.1 9 (.invokevirtual 82) mc ms (fun a S V => ∃ u0 u1 : Int, a = [(2, u0), (0, u1)] ∧ S.1 u0 = 33 ∧ p u0 u1 S V) (fun a S V rs S' V' => ∃ u0 u1 r : Int, a = [(2, u0), (0, u1)] ∧ rs = [(0, r)] ∧ q u0 u1 S V r S' V') := j_callV n_NWk h.2.2.2.2.2 h.1 hM ⟨h.2.1.1, h.2.1.2, h.2.2.1, h.2.2.2.1, h.2.2.2.2.1⟩ ⟨n_CB (y := y_13_2) (bytes := b_13_2) 1 h.2.2.2.2.1 n_w928 n_w925 n_w12 ⟨by decide, by decide, by decide +kernel⟩ rfl rfl ⟨by rw [hrm.1]; exact Nat.le_of_ble_eq_true rfl, by rw [hrm.2]; exact Nat.le_of_ble_eq_true rfl⟩, h.2.2.2.2.1 _ n_w927, h.2.2.2.2.1 _ n_s27⟩ (Cn := RX12) (fun a S V hP => by obtain ⟨u0, u1, rfl, e, -⟩ := hP; exact ⟨u0, _, 12, _, _, TX12, 31, rfl, rfl, by rw [e]; decide, by rw [e]; rfl, rfl⟩)
theorem t13_21_0 {C : qCx} {G : jG} {S : jS} {V : jH} {nc ns : Nat} {l0 l1 l2 l3 : Int} {mc ms : Nat} {pp : Int → Int → jS → jH → Prop} {qq : Int → Int → jS → jH → Int → jS → jH → Prop} (h : x13_21 C G) (hrm : C.2.2.2.1.frames = 4 ∧ C.2.2.2.1.locals = 94) (c1 : S.1 l0 = 33) (hM : M13_5 C.2.1 mc ms pp qq) (hp : pp l0 l1 S V) (hc : nc + mc ≤ C.2.2.2.1.cells) (hs : ns + ms ≤ C.2.2.2.1.slots) (k : ∀ (r : Int) (S' : jS) (V' : jH), qq l0 l1 S V r S' V' → j_ok n_KT 9 C G 5 [(0, (2, l0)), (1, (0, l1)), (2, (0, l2)), (3, (0, l3))] [(0, r)] S' V' (nc + mc) (ns + ms)) : j_ok n_KT 9 C G 0 [(0, (2, l0)), (1, (0, l1)), (2, (0, l2)), (3, (0, l3))] [] S V nc ns := by
  have E := n_E h
  refine j_aload_n E d13_21_0 rfl 0 rfl ?_
  refine j_iload_n E d13_21_1 rfl 1 rfl ?_
  refine j_call E (K13_21_2 h hrm hM) d13_21_2 (a := [(2, l0), (0, l1)]) (sk := []) rfl ⟨l0, l1, rfl, c1, hp⟩ (Nat.le_of_ble_eq_true rfl) hc hs ?_
  rintro rs S' V' ⟨z0, z1, r, e1, rfl, q⟩
  simp only [List.cons.injEq, Prod.mk.injEq, and_true, true_and] at e1
  obtain ⟨rfl, rfl⟩ := e1
  exact j_pick [0, 1, 2, 3] rfl (k r S' V' q)
theorem t13_21_5 {C : qCx} {G : jG} {S : jS} {V : jH} {nc ns : Nat} {l0 l1 l2 l3 s0 : Int} (h : x13_21 C G)  (k : s0 = 0 → j_ok n_KT 9 C G 24 [(0, (2, l0))] [] S V nc ns) (k' : ¬ s0 = 0 → j_ok n_KT 9 C G 8 [(0, (2, l0)), (1, (0, l1)), (2, (0, l2)), (3, (0, l3))] [] S V nc ns) : j_ok n_KT 9 C G 5 [(0, (2, l0)), (1, (0, l1)), (2, (0, l2)), (3, (0, l3))] [(0, s0)] S V nc ns := by
  have E := n_E h
  exact j_if_eq E d13_21_5 (t := 24) rfl (fun q => j_pick [0] rfl (k q)) (fun q => j_pick [0, 1, 2, 3] rfl (k' q))
theorem t13_21_8 {C : qCx} {G : jG} {S : jS} {V : jH} {nc ns : Nat} {l0 l1 l2 l3 : Int} {mc ms : Nat} {pp : Int → Int → Int → jS → jH → Prop} {qq : Int → Int → Int → jS → jH → Int → jS → jH → Prop} (h : x13_21 C G) (hrm : C.2.2.2.1.frames = 4 ∧ C.2.2.2.1.locals = 94) (c1 : S.1 l0 = 33) (hM : M13_19 C.2.1 mc ms pp qq) (hp : pp l0 l1 l2 S V) (hc : nc + mc ≤ C.2.2.2.1.cells) (hs : ns + ms ≤ C.2.2.2.1.slots) (k : ∀ (r : Int) (S' : jS) (V' : jH), qq l0 l1 l2 S V r S' V' → j_ok n_KT 9 C G 14 [(0, (2, l0)), (1, (0, l1)), (2, (0, l2)), (3, (0, l3))] [(0, r)] S' V' (nc + mc) (ns + ms)) : j_ok n_KT 9 C G 8 [(0, (2, l0)), (1, (0, l1)), (2, (0, l2)), (3, (0, l3))] [] S V nc ns := by
  have E := n_E h
  refine j_aload_n E d13_21_8 rfl 0 rfl ?_
  refine j_iload_n E d13_21_9 rfl 1 rfl ?_
  refine j_iload_n E d13_21_10 rfl 2 rfl ?_
  refine j_call E (K13_21_11 h hrm hM) d13_21_11 (a := [(2, l0), (0, l1), (0, l2)]) (sk := []) rfl ⟨l0, l1, l2, rfl, c1, hp⟩ (Nat.le_of_ble_eq_true rfl) hc hs ?_
  rintro rs S' V' ⟨z0, z1, z2, r, e1, rfl, q⟩
  simp only [List.cons.injEq, Prod.mk.injEq, and_true, true_and] at e1
  obtain ⟨rfl, rfl, rfl⟩ := e1
  exact j_pick [0, 1, 2, 3] rfl (k r S' V' q)
theorem t13_21_14 {C : qCx} {G : jG} {S : jS} {V : jH} {nc ns : Nat} {l0 l1 l2 l3 s0 : Int} (h : x13_21 C G)  (k : s0 = 0 → j_ok n_KT 9 C G 24 [(0, (2, l0))] [] S V nc ns) (k' : ¬ s0 = 0 → j_ok n_KT 9 C G 17 [(0, (2, l0)), (1, (0, l1)), (2, (0, l2)), (3, (0, l3))] [] S V nc ns) : j_ok n_KT 9 C G 14 [(0, (2, l0)), (1, (0, l1)), (2, (0, l2)), (3, (0, l3))] [(0, s0)] S V nc ns := by
  have E := n_E h
  exact j_if_eq E d13_21_14 (t := 24) rfl (fun q => j_pick [0] rfl (k q)) (fun q => j_pick [0, 1, 2, 3] rfl (k' q))
theorem t13_21_17 {C : qCx} {G : jG} {S : jS} {V : jH} {nc ns : Nat} {l0 l1 l2 l3 : Int} {mc ms : Nat} {pp : Int → jS → jH → Prop} {qq : Int → jS → jH → Int → jS → jH → Prop} (h : x13_21 C G) (hrm : C.2.2.2.1.frames = 4 ∧ C.2.2.2.1.locals = 94)  (hM : M13_4 C.2.1 mc ms pp qq) (hp : pp l3 S V) (hc : nc + mc ≤ C.2.2.2.1.cells) (hs : ns + ms ≤ C.2.2.2.1.slots) (k : ∀ (r : Int) (S' : jS) (V' : jH), qq l3 S V r S' V' → j_ok n_KT 9 C G 21 [(0, (2, l0)), (1, (0, l1)), (2, (0, l2)), (3, (0, l3))] [(0, r)] S' V' (nc + mc) (ns + ms)) : j_ok n_KT 9 C G 17 [(0, (2, l0)), (1, (0, l1)), (2, (0, l2)), (3, (0, l3))] [] S V nc ns := by
  have E := n_E h
  refine j_iload_n E d13_21_17 rfl 3 rfl ?_
  refine j_call E (K13_21_18 h hrm hM) d13_21_18 (a := [(0, l3)]) (sk := []) rfl ⟨l3, rfl, hp⟩ (Nat.le_of_ble_eq_true rfl) hc hs ?_
  rintro rs S' V' ⟨z0, r, e1, rfl, q⟩
  simp only [List.cons.injEq, Prod.mk.injEq, and_true, true_and] at e1
  obtain ⟨rfl⟩ := e1
  exact j_pick [0, 1, 2, 3] rfl (k r S' V' q)
theorem t13_21_21 {C : qCx} {G : jG} {S : jS} {V : jH} {nc ns : Nat} {l0 l1 l2 l3 s0 : Int} (h : x13_21 C G)  (k : ¬ s0 = 0 → j_ok n_KT 9 C G 31 [(0, (2, l0)), (1, (0, l1)), (2, (0, l2)), (3, (0, l3))] [] S V nc ns) (k' : s0 = 0 → j_ok n_KT 9 C G 24 [(0, (2, l0))] [] S V nc ns) : j_ok n_KT 9 C G 21 [(0, (2, l0)), (1, (0, l1)), (2, (0, l2)), (3, (0, l3))] [(0, s0)] S V nc ns := by
  have E := n_E h
  exact j_if_ne E d13_21_21 (t := 31) rfl (fun q => j_pick [0, 1, 2, 3] rfl (k q)) (fun q => j_pick [0] rfl (k' q))
theorem t13_21_24 {C : qCx} {G : jG} {S : jS} {V : jH} {nc ns : Nat} {l0 : Int} {mc ms : Nat} {pp : Int → Int → jS → jH → Prop} {qq : Int → Int → jS → jH → Int → jS → jH → Prop} (h : x13_21 C G) (hrm : C.2.2.2.1.frames = 4 ∧ C.2.2.2.1.locals = 94) (c1 : S.1 l0 = 33) (hM : M13_2 C.2.1 mc ms pp qq) (hp : pp l0 ((-1)) S V) (hc : nc + mc ≤ C.2.2.2.1.cells) (hs : ns + ms ≤ C.2.2.2.1.slots) (k : ∀ (r : Int) (S' : jS) (V' : jH), qq l0 ((-1)) S V r S' V' → j_ok n_KT 9 C G 29 [] [(0, r)] S' V' (nc + mc) (ns + ms)) : j_ok n_KT 9 C G 24 [(0, (2, l0))] [] S V nc ns := by
  have E := n_E h
  refine j_aload_n E d13_21_24 rfl 0 rfl ?_
  refine j_iconst E d13_21_25 (by decide) ?_
  refine j_call E (K13_21_26 h hrm hM) d13_21_26 (a := [(2, l0), (0, (-1))]) (sk := []) rfl ⟨l0, (-1), rfl, c1, hp⟩ (Nat.le_of_ble_eq_true rfl) hc hs ?_
  rintro rs S' V' ⟨z0, z1, r, e1, rfl, q⟩
  simp only [List.cons.injEq, Prod.mk.injEq, and_true, true_and] at e1
  obtain ⟨rfl, rfl⟩ := e1
  exact j_pick [] rfl (k r S' V' q)
theorem t13_21_29 {C : qCx} {G : jG} {S : jS} {V : jH} {nc ns : Nat} {s0 : Int} {mc ms : Nat} {qf : Int → jS → jH → Prop} (h : x13_21 C G)  (R : j_Rl n_KT 9 C G b_13_21 mc ms qf) (q : qf s0 S V) (hc : nc ≤ mc) (hs : ns ≤ ms) : j_ok n_KT 9 C G 29 [] [(0, s0)] S V nc ns := by
  have E := n_E h
  refine j_i2l E d13_21_29 ?_
  exact R _ _ _ _ _ _ _ d13_21_30 q hc hs
theorem t13_21_31 {C : qCx} {G : jG} {S : jS} {V : jH} {nc ns : Nat} {l0 l1 l2 l3 : Int} {mc ms : Nat} {pp : Int → Int → jS → jH → Prop} {qq : Int → Int → jS → jH → Int → jS → jH → Prop} (h : x13_21 C G) (hrm : C.2.2.2.1.frames = 4 ∧ C.2.2.2.1.locals = 94) (c1 : S.1 l0 = 33) (hM : M13_14 C.2.1 mc ms pp qq) (hp : pp l0 l1 S V) (hc : nc + mc ≤ C.2.2.2.1.cells) (hs : ns + ms ≤ C.2.2.2.1.slots) (k : ∀ (r : Int) (S' : jS) (V' : jH), qq l0 l1 S V r S' V' → j_ok n_KT 9 C G 36 [(0, (2, l0)), (1, (0, l1)), (2, (0, l2)), (3, (0, l3))] [(0, r)] S' V' (nc + mc) (ns + ms)) : j_ok n_KT 9 C G 31 [(0, (2, l0)), (1, (0, l1)), (2, (0, l2)), (3, (0, l3))] [] S V nc ns := by
  have E := n_E h
  refine j_aload_n E d13_21_31 rfl 0 rfl ?_
  refine j_iload_n E d13_21_32 rfl 1 rfl ?_
  refine j_call E (K13_21_33 h hrm hM) d13_21_33 (a := [(2, l0), (0, l1)]) (sk := []) rfl ⟨l0, l1, rfl, c1, hp⟩ (Nat.le_of_ble_eq_true rfl) hc hs ?_
  rintro rs S' V' ⟨z0, z1, r, e1, rfl, q⟩
  simp only [List.cons.injEq, Prod.mk.injEq, and_true, true_and] at e1
  obtain ⟨rfl, rfl⟩ := e1
  exact j_pick [0, 1, 2, 3] rfl (k r S' V' q)
theorem t13_21_36 {C : qCx} {G : jG} {S : jS} {V : jH} {nc ns : Nat} {l0 l1 l2 l3 s0 : Int} (h : x13_21 C G)  (k : s0 = 0 → j_ok n_KT 9 C G 47 [(0, (2, l0)), (1, (0, l1)), (2, (0, l2)), (3, (0, l3))] [] S V nc ns) (k' : ¬ s0 = 0 → j_ok n_KT 9 C G 39 [(0, (2, l0))] [] S V nc ns) : j_ok n_KT 9 C G 36 [(0, (2, l0)), (1, (0, l1)), (2, (0, l2)), (3, (0, l3))] [(0, s0)] S V nc ns := by
  have E := n_E h
  exact j_if_eq E d13_21_36 (t := 47) rfl (fun q => j_pick [0, 1, 2, 3] rfl (k q)) (fun q => j_pick [0] rfl (k' q))
theorem t13_21_39 {C : qCx} {G : jG} {S : jS} {V : jH} {nc ns : Nat} {l0 : Int} {mc ms : Nat} {pp : Int → Int → jS → jH → Prop} {qq : Int → Int → jS → jH → Int → jS → jH → Prop} (h : x13_21 C G) (hrm : C.2.2.2.1.frames = 4 ∧ C.2.2.2.1.locals = 94) (c1 : S.1 l0 = 33) (hM : M13_2 C.2.1 mc ms pp qq) (hp : pp l0 ((-4)) S V) (hc : nc + mc ≤ C.2.2.2.1.cells) (hs : ns + ms ≤ C.2.2.2.1.slots) (k : ∀ (r : Int) (S' : jS) (V' : jH), qq l0 ((-4)) S V r S' V' → j_ok n_KT 9 C G 45 [] [(0, r)] S' V' (nc + mc) (ns + ms)) : j_ok n_KT 9 C G 39 [(0, (2, l0))] [] S V nc ns := by
  have E := n_E h
  refine j_aload_n E d13_21_39 rfl 0 rfl ?_
  refine j_bipush E d13_21_40 (by decide) ?_
  refine j_call E (K13_21_42 h hrm hM) d13_21_42 (a := [(2, l0), (0, (-4))]) (sk := []) rfl ⟨l0, (-4), rfl, c1, hp⟩ (Nat.le_of_ble_eq_true rfl) hc hs ?_
  rintro rs S' V' ⟨z0, z1, r, e1, rfl, q⟩
  simp only [List.cons.injEq, Prod.mk.injEq, and_true, true_and] at e1
  obtain ⟨rfl, rfl⟩ := e1
  exact j_pick [] rfl (k r S' V' q)
theorem t13_21_45 {C : qCx} {G : jG} {S : jS} {V : jH} {nc ns : Nat} {s0 : Int} {mc ms : Nat} {qf : Int → jS → jH → Prop} (h : x13_21 C G)  (R : j_Rl n_KT 9 C G b_13_21 mc ms qf) (q : qf s0 S V) (hc : nc ≤ mc) (hs : ns ≤ ms) : j_ok n_KT 9 C G 45 [] [(0, s0)] S V nc ns := by
  have E := n_E h
  refine j_i2l E d13_21_45 ?_
  exact R _ _ _ _ _ _ _ d13_21_46 q hc hs
theorem t13_21_47 {C : qCx} {G : jG} {S : jS} {V : jH} {nc ns : Nat} {l0 l1 l2 l3 : Int} (h : x13_21 C G)  (k : j_ok n_KT 9 C G 53 [(0, (2, l0)), (1, (0, l1)), (2, (0, l2)), (3, (0, l3)), (4, (1, 0)), (6, (0, 0))] [] S V nc ns) : j_ok n_KT 9 C G 47 [(0, (2, l0)), (1, (0, l1)), (2, (0, l2)), (3, (0, l3))] [] S V nc ns := by
  have E := n_E h
  refine j_lconst E d13_21_47 ?_
  refine j_lstore E d13_21_48 (by decide) (lo1 := [(0, (2, l0)), (1, (0, l1)), (2, (0, l2)), (3, (0, l3))]) rfl ?_
  refine j_iconst E d13_21_50 (by decide) ?_
  refine j_istore E d13_21_51 (by decide) (lo1 := [(4, (1, 0)), (0, (2, l0)), (1, (0, l1)), (2, (0, l2)), (3, (0, l3))]) rfl ?_
  exact j_pick [2, 3, 4, 5, 1, 0] rfl k
theorem t13_21_53 {C : qCx} {G : jG} {S : jS} {V : jH} {nc ns : Nat} {l0 l1 l2 l3 l4 l6 : Int} (h : x13_21 C G) (L : j_L S) (c1 : S.1 l0 = 33) (c2 : 0 ≤ l3) (c3 : l3 < 6) (k : V (l0 + 2) l3 ≤ l6 → j_ok n_KT 9 C G 164 [(4, (1, l4))] [] S V nc ns) (k' : l6 < V (l0 + 2) l3 → j_ok n_KT 9 C G 67 [(0, (2, l0)), (1, (0, l1)), (2, (0, l2)), (3, (0, l3)), (4, (1, l4)), (6, (0, l6))] [] S V nc ns) : j_ok n_KT 9 C G 53 [(0, (2, l0)), (1, (0, l1)), (2, (0, l2)), (3, (0, l3)), (4, (1, l4)), (6, (0, l6))] [] S V nc ns := by
  have E := n_E h
  refine j_iload E d13_21_53 5 rfl ?_
  refine j_aload_n E d13_21_55 rfl 0 rfl ?_
  refine j_getS (f := 0) (x := l0 + 1) (fg12_10 h) d13_21_56 c1 (by decide) rfl rfl ((L12_0 L c1).trans (by omega)) ?_
  refine j_getS (f := 0) (x := l0 + 2) (fg12_86 h) d13_21_59 (show S.1 (l0 + 1) = 32 from (by have q := L12_0k L c1; rw [show l0 + 1 = l0 + 1 by omega]; exact q)) (by decide) rfl rfl ((L11_0 L (show S.1 (l0 + 1) = 32 from (by have q := L12_0k L c1; rw [show l0 + 1 = l0 + 1 by omega]; exact q))).trans (by omega)) ?_
  refine j_iload_n E d13_21_62 rfl 3 rfl ?_
  refine j_iald E d13_21_63 (j_arr_of (show S.1 (l0 + 2) = 8 from (by have q := L11_0k L (show S.1 (l0 + 1) = 32 from (by have q := L12_0k L c1; rw [show l0 + 1 = l0 + 1 by omega]; exact q)); rw [show l0 + 2 = (l0 + 1) + 1 by omega]; exact q)) (by decide) rfl) c2 c3 ?_
  exact j_icmp_ge E d13_21_64 (t := 164) rfl (fun q => j_pick [4] rfl (k q)) (fun q => j_pick [0, 1, 2, 3, 4, 5] rfl (k' q))
theorem t13_21_67 {C : qCx} {G : jG} {S : jS} {V : jH} {nc ns : Nat} {l0 l1 l2 l3 l4 l6 : Int} {mc ms : Nat} {pp : Int → Int → Int → Int → jS → jH → Prop} {qq : Int → Int → Int → Int → jS → jH → Int → jS → jH → Prop} (h : x13_21 C G) (L : j_L S) (hrm : C.2.2.2.1.frames = 4 ∧ C.2.2.2.1.locals = 94) (c1 : S.1 l0 = 33) (c2 : -2147483648 ≤ 400 * l3 ∧ 400 * l3 ≤ 2147483647) (c3 : -2147483648 ≤ (400 * l3) + l6 ∧ (400 * l3) + l6 ≤ 2147483647) (c4 : 0 ≤ (400 * l3) + l6) (c5 : (400 * l3) + l6 < 2400) (hM : M13_11 C.2.1 mc ms pp qq) (hp : pp l0 l1 l2 (V (l0 + 3) ((400 * l3) + l6)) S V) (hc : nc + mc ≤ C.2.2.2.1.cells) (hs : ns + ms ≤ C.2.2.2.1.slots) (k : ∀ (r : Int) (S' : jS) (V' : jH), qq l0 l1 l2 (V (l0 + 3) ((400 * l3) + l6)) S V r S' V' → j_ok n_KT 9 C G 96 [(0, (2, l0)), (1, (0, l1)), (2, (0, l2)), (3, (0, l3)), (4, (1, l4)), (6, (0, l6))] [(0, r), (2, l0 + 7)] S' V' (nc + mc) (ns + ms)) : j_ok n_KT 9 C G 67 [(0, (2, l0)), (1, (0, l1)), (2, (0, l2)), (3, (0, l3)), (4, (1, l4)), (6, (0, l6))] [] S V nc ns := by
  have E := n_E h
  refine j_aload_n E d13_21_67 rfl 0 rfl ?_
  refine j_getS (f := 0) (x := l0 + 1) (fg12_10 h) d13_21_68 c1 (by decide) rfl rfl ((L12_0 L c1).trans (by omega)) ?_
  refine j_getS (f := 6) (x := l0 + 7) (fg12_110 h) d13_21_71 (show S.1 (l0 + 1) = 32 from (by have q := L12_0k L c1; rw [show l0 + 1 = l0 + 1 by omega]; exact q)) (by decide) rfl rfl ((L11_6 L (show S.1 (l0 + 1) = 32 from (by have q := L12_0k L c1; rw [show l0 + 1 = l0 + 1 by omega]; exact q))).trans (by omega)) ?_
  refine j_aload_n E d13_21_74 rfl 0 rfl ?_
  refine j_iload_n E d13_21_75 rfl 1 rfl ?_
  refine j_iload_n E d13_21_76 rfl 2 rfl ?_
  refine j_aload_n E d13_21_77 rfl 0 rfl ?_
  refine j_getS (f := 0) (x := l0 + 1) (fg12_10 h) d13_21_78 c1 (by decide) rfl rfl ((L12_0 L c1).trans (by omega)) ?_
  refine j_getS (f := 1) (x := l0 + 3) (fg12_89 h) d13_21_81 (show S.1 (l0 + 1) = 32 from (by have q := L12_0k L c1; rw [show l0 + 1 = l0 + 1 by omega]; exact q)) (by decide) rfl rfl ((L11_1 L (show S.1 (l0 + 1) = 32 from (by have q := L12_0k L c1; rw [show l0 + 1 = l0 + 1 by omega]; exact q))).trans (by omega)) ?_
  refine j_sipush E d13_21_84 (by decide) ?_
  refine j_iload_n E d13_21_87 rfl 3 rfl ?_
  refine j_imul E d13_21_88 c2 ?_
  refine j_iload E d13_21_89 5 rfl ?_
  refine j_iadd E d13_21_91 c3 ?_
  refine j_iald E d13_21_92 (j_arr_of (show S.1 (l0 + 3) = 9 from (by have q := L11_1k L (show S.1 (l0 + 1) = 32 from (by have q := L12_0k L c1; rw [show l0 + 1 = l0 + 1 by omega]; exact q)); rw [show l0 + 3 = (l0 + 1) + 2 by omega]; exact q)) (by decide) rfl) c4 c5 ?_
  refine j_call E (K13_21_93 h hrm hM) d13_21_93 (a := [(2, l0), (0, l1), (0, l2), (0, V (l0 + 3) ((400 * l3) + l6))]) (sk := [(2, l0 + 7)]) rfl ⟨l0, l1, l2, V (l0 + 3) ((400 * l3) + l6), rfl, c1, hp⟩ (Nat.le_of_ble_eq_true rfl) hc hs ?_
  rintro rs S' V' ⟨z0, z1, z2, z3, r, e1, rfl, q⟩
  simp only [List.cons.injEq, Prod.mk.injEq, and_true, true_and] at e1
  obtain ⟨rfl, rfl, rfl, rfl⟩ := e1
  exact j_pick [0, 1, 2, 3, 4, 5] rfl (k r S' V' q)
theorem t13_21_96 {C : qCx} {G : jG} {S : jS} {V : jH} {nc ns : Nat} {l0 l1 l2 l3 l4 l6 s0 s1 : Int} {n_s1 : Nat} (h : x13_21 C G) (c1 : j_arr S s1 n_s1) (c2 : 0 ≤ s0) (c3 : s0 < (n_s1 : Int)) (k : ¬ V s1 s0 = 0 → j_ok n_KT 9 C G 121 [(0, (2, l0)), (1, (0, l1)), (2, (0, l2)), (3, (0, l3)), (4, (1, l4)), (6, (0, l6)), (7, (0, V s1 s0))] [] S V nc ns) (k' : V s1 s0 = 0 → j_ok n_KT 9 C G 104 [(0, (2, l0)), (6, (0, l6))] [] S V nc ns) : j_ok n_KT 9 C G 96 [(0, (2, l0)), (1, (0, l1)), (2, (0, l2)), (3, (0, l3)), (4, (1, l4)), (6, (0, l6))] [(0, s0), (2, s1)] S V nc ns := by
  have E := n_E h
  refine j_iald E d13_21_96 c1 c2 c3 ?_
  refine j_istore E d13_21_97 (by decide) (lo1 := [(0, (2, l0)), (1, (0, l1)), (2, (0, l2)), (3, (0, l3)), (4, (1, l4)), (6, (0, l6))]) rfl ?_
  refine j_iload E d13_21_99 0 rfl ?_
  exact j_if_ne E d13_21_101 (t := 121) rfl (fun q => j_pick [1, 2, 3, 4, 5, 6, 0] rfl (k q)) (fun q => j_pick [1, 6] rfl (k' q))
theorem t13_21_104 {C : qCx} {G : jG} {S : jS} {V : jH} {nc ns : Nat} {l0 l6 : Int} {mc ms : Nat} {pp : Int → Int → jS → jH → Prop} {qq : Int → Int → jS → jH → Int → jS → jH → Prop} (h : x13_21 C G) (L : j_L S) (hrm : C.2.2.2.1.frames = 4 ∧ C.2.2.2.1.locals = 94) (c1 : S.1 l0 = 33) (hM : M13_2 C.2.1 mc ms pp qq) (hp : pp l0 ((-5)) S (j_up V (l0 + 1) 12 l6)) (hc : nc + mc ≤ C.2.2.2.1.cells) (hs : ns + ms ≤ C.2.2.2.1.slots) (k : ∀ (r : Int) (S' : jS) (V' : jH), qq l0 ((-5)) S (j_up V (l0 + 1) 12 l6) r S' V' → j_ok n_KT 9 C G 119 [] [(0, r)] S' V' (nc + mc) (ns + ms)) : j_ok n_KT 9 C G 104 [(0, (2, l0)), (6, (0, l6))] [] S V nc ns := by
  have E := n_E h
  refine j_aload_n E d13_21_104 rfl 0 rfl ?_
  refine j_getS (f := 0) (x := l0 + 1) (fg12_10 h) d13_21_105 c1 (by decide) rfl rfl ((L12_0 L c1).trans (by omega)) ?_
  refine j_iload E d13_21_108 1 rfl ?_
  refine j_putI (f := 12) (fp12_146 h) (n_hap h 32 11 0 _ rfl) d13_21_110 (show S.1 (l0 + 1) = 32 from (by have q := L12_0k L c1; rw [show l0 + 1 = l0 + 1 by omega]; exact q)) (by decide) rfl rfl rfl ?_
  refine j_aload_n E d13_21_113 rfl 0 rfl ?_
  refine j_bipush E d13_21_114 (by decide) ?_
  refine j_call E (K13_21_116 h hrm hM) d13_21_116 (a := [(2, l0), (0, (-5))]) (sk := []) rfl ⟨l0, (-5), rfl, c1, hp⟩ (Nat.le_of_ble_eq_true rfl) hc hs ?_
  rintro rs S' V' ⟨z0, z1, r, e1, rfl, q⟩
  simp only [List.cons.injEq, Prod.mk.injEq, and_true, true_and] at e1
  obtain ⟨rfl, rfl⟩ := e1
  exact j_pick [] rfl (k r S' V' q)
theorem t13_21_119 {C : qCx} {G : jG} {S : jS} {V : jH} {nc ns : Nat} {s0 : Int} {mc ms : Nat} {qf : Int → jS → jH → Prop} (h : x13_21 C G)  (R : j_Rl n_KT 9 C G b_13_21 mc ms qf) (q : qf s0 S V) (hc : nc ≤ mc) (hs : ns ≤ ms) : j_ok n_KT 9 C G 119 [] [(0, s0)] S V nc ns := by
  have E := n_E h
  refine j_i2l E d13_21_119 ?_
  exact R _ _ _ _ _ _ _ d13_21_120 q hc hs
theorem t13_21_121 {C : qCx} {G : jG} {S : jS} {V : jH} {nc ns : Nat} {l0 l1 l2 l3 l4 l6 l7 : Int} (h : x13_21 C G)  (k : j_ok n_KT 9 C G 125 [(0, (2, l0)), (1, (0, l1)), (2, (0, l2)), (3, (0, l3)), (4, (1, l4)), (6, (0, l6)), (8, (0, l7))] [] S V nc ns) : j_ok n_KT 9 C G 121 [(0, (2, l0)), (1, (0, l1)), (2, (0, l2)), (3, (0, l3)), (4, (1, l4)), (6, (0, l6)), (7, (0, l7))] [] S V nc ns := by
  have E := n_E h
  refine j_iload E d13_21_121 6 rfl ?_
  refine j_istore E d13_21_123 (by decide) (lo1 := [(0, (2, l0)), (1, (0, l1)), (2, (0, l2)), (3, (0, l3)), (4, (1, l4)), (6, (0, l6)), (7, (0, l7))]) rfl ?_
  exact j_pick [1, 2, 3, 4, 5, 6, 0] rfl k
theorem t13_21_125 {C : qCx} {G : jG} {S : jS} {V : jH} {nc ns : Nat} {l0 l1 l2 l3 l4 l6 l8 : Int} (h : x13_21 C G) (L : j_L S) (c1 : S.1 l0 = 33) (c2 : 0 ≤ l1) (c3 : l1 < 10) (c4 : 0 ≤ V (l0 + 5) l1) (c5 : V (l0 + 5) l1 ≤ 30) (k : 2 ^ (V (l0 + 5) l1).toNat ≤ l8 → j_ok n_KT 9 C G 158 [(0, (2, l0)), (1, (0, l1)), (2, (0, l2)), (3, (0, l3)), (4, (1, l4)), (6, (0, l6))] [] S V nc ns) (k' : l8 < 2 ^ (V (l0 + 5) l1).toNat → j_ok n_KT 9 C G 141 [(0, (2, l0)), (1, (0, l1)), (2, (0, l2)), (3, (0, l3)), (4, (1, l4)), (6, (0, l6)), (8, (0, l8))] [] S V nc ns) : j_ok n_KT 9 C G 125 [(0, (2, l0)), (1, (0, l1)), (2, (0, l2)), (3, (0, l3)), (4, (1, l4)), (6, (0, l6)), (8, (0, l8))] [] S V nc ns := by
  have E := n_E h
  refine j_iload E d13_21_125 6 rfl ?_
  refine j_iconst E d13_21_127 (by decide) ?_
  refine j_aload_n E d13_21_128 rfl 0 rfl ?_
  refine j_getS (f := 0) (x := l0 + 1) (fg12_10 h) d13_21_129 c1 (by decide) rfl rfl ((L12_0 L c1).trans (by omega)) ?_
  refine j_getS (f := 4) (x := l0 + 5) (fg12_103 h) d13_21_132 (show S.1 (l0 + 1) = 32 from (by have q := L12_0k L c1; rw [show l0 + 1 = l0 + 1 by omega]; exact q)) (by decide) rfl rfl ((L11_4 L (show S.1 (l0 + 1) = 32 from (by have q := L12_0k L c1; rw [show l0 + 1 = l0 + 1 by omega]; exact q))).trans (by omega)) ?_
  refine j_iload_n E d13_21_135 rfl 1 rfl ?_
  refine j_iald E d13_21_136 (j_arr_of (show S.1 (l0 + 5) = 10 from (by have q := L11_4k L (show S.1 (l0 + 1) = 32 from (by have q := L12_0k L c1; rw [show l0 + 1 = l0 + 1 by omega]; exact q)); rw [show l0 + 5 = (l0 + 1) + 4 by omega]; exact q)) (by decide) rfl) c2 c3 ?_
  refine j_ishl1 E d13_21_137 rfl c4 c5 ?_
  exact j_icmp_ge E d13_21_138 (t := 158) rfl (fun q => j_pick [0, 1, 2, 3, 4, 5] rfl (k q)) (fun q => j_pick [0, 1, 2, 3, 4, 5, 6] rfl (k' q))
theorem t13_21_141 {C : qCx} {G : jG} {S : jS} {V : jH} {nc ns : Nat} {l0 l1 l2 l3 l4 l6 l8 : Int} (h : x13_21 C G) (c1 : 1 ≤ l8) (c2 : -9223372036854775808 ≤ l4 + (1000000 / l8) ∧ l4 + (1000000 / l8) ≤ 9223372036854775807) (c3 : -2147483648 ≤ l8 + 1 ∧ l8 + 1 ≤ 2147483647) (k : j_ok n_KT 9 C G 125 [(0, (2, l0)), (1, (0, l1)), (2, (0, l2)), (3, (0, l3)), (4, (1, l4 + (1000000 / l8))), (6, (0, l6)), (8, (0, l8 + 1))] [] S V nc ns) : j_ok n_KT 9 C G 141 [(0, (2, l0)), (1, (0, l1)), (2, (0, l2)), (3, (0, l3)), (4, (1, l4)), (6, (0, l6)), (8, (0, l8))] [] S V nc ns := by
  have E := n_E h
  refine j_lload E d13_21_141 4 rfl ?_
  refine j_ldc (n := 1000000) (fk12_124 h) rfl d13_21_143 ?_
  refine j_iload E d13_21_145 6 rfl ?_
  refine j_idiv E d13_21_147 (by decide) c1 ?_
  refine j_i2l E d13_21_148 ?_
  refine j_ladd E d13_21_149 c2 ?_
  refine j_lstore E d13_21_150 (by decide) (lo1 := [(0, (2, l0)), (1, (0, l1)), (2, (0, l2)), (3, (0, l3)), (6, (0, l6)), (8, (0, l8))]) rfl ?_
  refine j_iinc E d13_21_152 (by decide) (by decide) 6 rfl (lo1 := [(4, (1, l4 + (1000000 / l8))), (0, (2, l0)), (1, (0, l1)), (2, (0, l2)), (3, (0, l3)), (6, (0, l6))]) rfl c3 ?_
  refine j_goto E d13_21_155 (t := 125) rfl ?_
  exact j_pick [2, 3, 4, 5, 1, 6, 0] rfl k
theorem t13_21_158 {C : qCx} {G : jG} {S : jS} {V : jH} {nc ns : Nat} {l0 l1 l2 l3 l4 l6 : Int} (h : x13_21 C G) (c1 : -2147483648 ≤ l6 + 1 ∧ l6 + 1 ≤ 2147483647) (k : j_ok n_KT 9 C G 53 [(0, (2, l0)), (1, (0, l1)), (2, (0, l2)), (3, (0, l3)), (4, (1, l4)), (6, (0, l6 + 1))] [] S V nc ns) : j_ok n_KT 9 C G 158 [(0, (2, l0)), (1, (0, l1)), (2, (0, l2)), (3, (0, l3)), (4, (1, l4)), (6, (0, l6))] [] S V nc ns := by
  have E := n_E h
  refine j_iinc E d13_21_158 (by decide) (by decide) 5 rfl (lo1 := [(0, (2, l0)), (1, (0, l1)), (2, (0, l2)), (3, (0, l3)), (4, (1, l4))]) rfl c1 ?_
  refine j_goto E d13_21_161 (t := 53) rfl ?_
  exact j_pick [1, 2, 3, 4, 5, 0] rfl k
theorem t13_21_164 {C : qCx} {G : jG} {S : jS} {V : jH} {nc ns : Nat} {l4 : Int} {mc ms : Nat} {qf : Int → jS → jH → Prop} (h : x13_21 C G)  (R : j_Rl n_KT 9 C G b_13_21 mc ms qf) (q : qf l4 S V) (hc : nc ≤ mc) (hs : ns ≤ ms) : j_ok n_KT 9 C G 164 [(4, (1, l4))] [] S V nc ns := by
  have E := n_E h
  refine j_lload E d13_21_164 0 rfl ?_
  exact R _ _ _ _ _ _ _ d13_21_166 q hc hs
/- BalanceCoderModel.as(II)I -/
abbrev b_13_22 : ByteArray := prog_13_method_22_code
def y_13_22 : MethodName := ⟨"BalanceCoderModel", "as", "(II)I"⟩
abbrev x13_22 (C : qCx) (G : jG) : Prop := n_ctx C b_13_22 5 "BalanceCoderModel" G.1 G.2.1
def M13_22 (l : Launch) (mc ms : Nat) (p : Int → Int → Int → jS → jH → Prop) (q : Int → Int → Int → jS → jH → Int → jS → jH → Prop) : Prop := j_Met l vwCl n_TL n_NW n_KT y_13_22 (Cond.code y_13_22 b_13_22 5 (some .int) :: n_GW) { frames := 3, cells := mc, slots := ms, locals := 72 } mc ms (fun a S V => ∃ u0 u1 u2 : Int, a = [(2, u0), (0, u1), (0, u2)] ∧ S.1 u0 = 33 ∧ p u0 u1 u2 S V) (fun a S V rs S' V' => ∃ u0 u1 u2 r : Int, a = [(2, u0), (0, u1), (0, u2)] ∧ rs = [(0, r)] ∧ q u0 u1 u2 S V r S' V')
theorem e13_22 {l : Launch} {mc ms : Nat} {p : Int → Int → Int → jS → jH → Prop} {q : Int → Int → Int → jS → jH → Int → jS → jH → Prop} (body : ∀ (C : qCx) (G : jG), x13_22 C G → C.2.2.2.1.frames = 3 ∧ C.2.2.2.1.locals = 72 → C.2.2.2.1.cells = mc ∧ C.2.2.2.1.slots = ms → C.2.1 = l → C.2.2.2.2.2.2.2.2.1.name = "as" → ∀ (u0 u1 u2 : Int) (S : jS) (V : jH), S.1 u0 = 33 → p u0 u1 u2 S V → j_Ri n_KT 5 C G b_13_22 mc ms (q u0 u1 u2 S V) → j_ok n_KT 5 C G 0 [(0, (2, u0)), (1, (0, u1)), (2, (0, u2))] [] S V 0 0) : M13_22 l mc ms p q := by
  refine j_method (ws' := n_GW) (by decide) rfl ?_ ?_
  · rintro a S V ⟨u0, u1, u2, rfl, -⟩
    exact Nat.le_of_ble_eq_true rfl
  · rintro C G htl hl hrm hm hml ho hts hnm hE a S V ⟨u0, u1, u2, rfl, ht, hp⟩ R
    exact body C G ⟨htl, hm, hml, ho, fun w hw => hts w (List.mem_cons_of_mem _ hw), hE⟩ (by rw [hrm]; exact ⟨rfl, rfl⟩) (by rw [hrm]; exact ⟨rfl, rfl⟩) hl hnm u0 u1 u2 S V ht hp (fun pc lo r S' V' nc ns d q hc hs => R.2.1 rfl pc lo r S' V' nc ns d ⟨u0, u1, u2, r, rfl, rfl, q⟩ hc hs)
theorem d13_22_0 : decode b_13_22 0 = .ok (.aload_n 0, 1) := by decide +kernel
theorem d13_22_1 : decode b_13_22 1 = .ok (.iload_n 1, 1) := by decide +kernel
theorem d13_22_2 : decode b_13_22 2 = .ok (.invokevirtual 117, 3) := by decide +kernel
theorem d13_22_5 : decode b_13_22 5 = .ok (.ifCond .eq 15, 3) := by decide +kernel
theorem d13_22_8 : decode b_13_22 8 = .ok (.iload_n 2, 1) := by decide +kernel
theorem d13_22_9 : decode b_13_22 9 = .ok (.i2l, 1) := by decide +kernel
theorem d13_22_10 : decode b_13_22 10 = .ok (.lconst 0, 1) := by decide +kernel
theorem d13_22_11 : decode b_13_22 11 = .ok (.ldc2_w 96, 3) := by decide +kernel
theorem d13_22_14 : decode b_13_22 14 = .ok (.invokestatic 69, 3) := by decide +kernel
theorem d13_22_17 : decode b_13_22 17 = .ok (.ifCond .ne 9, 3) := by decide +kernel
theorem d13_22_20 : decode b_13_22 20 = .ok (.aload_n 0, 1) := by decide +kernel
theorem d13_22_21 : decode b_13_22 21 = .ok (.iconst (-1), 1) := by decide +kernel
theorem d13_22_22 : decode b_13_22 22 = .ok (.invokevirtual 82, 3) := by decide +kernel
theorem d13_22_25 : decode b_13_22 25 = .ok (.ireturn, 1) := by decide +kernel
theorem d13_22_26 : decode b_13_22 26 = .ok (.aload_n 0, 1) := by decide +kernel
theorem d13_22_27 : decode b_13_22 27 = .ok (.getfield 10, 3) := by decide +kernel
theorem d13_22_30 : decode b_13_22 30 = .ok (.getfield 100, 3) := by decide +kernel
theorem d13_22_33 : decode b_13_22 33 = .ok (.iload_n 1, 1) := by decide +kernel
theorem d13_22_34 : decode b_13_22 34 = .ok (.iaload, 1) := by decide +kernel
theorem d13_22_35 : decode b_13_22 35 = .ok (.istore_n 3, 1) := by decide +kernel
theorem d13_22_36 : decode b_13_22 36 = .ok (.iload_n 3, 1) := by decide +kernel
theorem d13_22_37 : decode b_13_22 37 = .ok (.iload_n 2, 1) := by decide +kernel
theorem d13_22_38 : decode b_13_22 38 = .ok (.if_icmp .eq 27, 3) := by decide +kernel
theorem d13_22_41 : decode b_13_22 41 = .ok (.iload_n 2, 1) := by decide +kernel
theorem d13_22_42 : decode b_13_22 42 = .ok (.iconst 2, 1) := by decide +kernel
theorem d13_22_43 : decode b_13_22 43 = .ok (.if_icmp .ne 8, 3) := by decide +kernel
theorem d13_22_46 : decode b_13_22 46 = .ok (.iload_n 3, 1) := by decide +kernel
theorem d13_22_47 : decode b_13_22 47 = .ok (.iconst 3, 1) := by decide +kernel
theorem d13_22_48 : decode b_13_22 48 = .ok (.if_icmp .eq 17, 3) := by decide +kernel
theorem d13_22_51 : decode b_13_22 51 = .ok (.iload_n 2, 1) := by decide +kernel
theorem d13_22_52 : decode b_13_22 52 = .ok (.ifCond .ne 17, 3) := by decide +kernel
theorem d13_22_55 : decode b_13_22 55 = .ok (.iload_n 3, 1) := by decide +kernel
theorem d13_22_56 : decode b_13_22 56 = .ok (.iconst 2, 1) := by decide +kernel
theorem d13_22_57 : decode b_13_22 57 = .ok (.if_icmp .eq 8, 3) := by decide +kernel
theorem d13_22_60 : decode b_13_22 60 = .ok (.iload_n 3, 1) := by decide +kernel
theorem d13_22_61 : decode b_13_22 61 = .ok (.iconst 3, 1) := by decide +kernel
theorem d13_22_62 : decode b_13_22 62 = .ok (.if_icmp .ne 7, 3) := by decide +kernel
theorem d13_22_65 : decode b_13_22 65 = .ok (.iconst 1, 1) := by decide +kernel
theorem d13_22_66 : decode b_13_22 66 = .ok (.goto 4, 3) := by decide +kernel
theorem d13_22_69 : decode b_13_22 69 = .ok (.iconst 0, 1) := by decide +kernel
theorem d13_22_70 : decode b_13_22 70 = .ok (.istore 4, 2) := by decide +kernel
theorem d13_22_72 : decode b_13_22 72 = .ok (.iload 4, 2) := by decide +kernel
theorem d13_22_74 : decode b_13_22 74 = .ok (.ifCond .eq 7, 3) := by decide +kernel
theorem d13_22_77 : decode b_13_22 77 = .ok (.iload_n 1, 1) := by decide +kernel
theorem d13_22_78 : decode b_13_22 78 = .ok (.goto 9, 3) := by decide +kernel
theorem d13_22_81 : decode b_13_22 81 = .ok (.aload_n 0, 1) := by decide +kernel
theorem d13_22_82 : decode b_13_22 82 = .ok (.bipush (-3), 2) := by decide +kernel
theorem d13_22_84 : decode b_13_22 84 = .ok (.invokevirtual 82, 3) := by decide +kernel
theorem d13_22_87 : decode b_13_22 87 = .ok (.ireturn, 1) := by decide +kernel
theorem K13_22_2 {C : qCx} {G : jG} {mc ms : Nat} {p : Int → Int → jS → jH → Prop} {q : Int → Int → jS → jH → Int → jS → jH → Prop} (h : x13_22 C G) (hrm : C.2.2.2.1.frames = 3 ∧ C.2.2.2.1.locals = 72) (hM : M13_5 C.2.1 mc ms p q) : j_Call C b_13_22 n_KT G.1 G.2.1 5 (.invokevirtual 117) mc ms (fun a S V => ∃ u0 u1 : Int, a = [(2, u0), (0, u1)] ∧ S.1 u0 = 33 ∧ p u0 u1 S V) (fun a S V rs S' V' => ∃ u0 u1 r : Int, a = [(2, u0), (0, u1)] ∧ rs = [(0, r)] ∧ q u0 u1 S V r S' V') := j_callV n_NWk h.2.2.2.2.2 h.1 hM ⟨h.2.1.1, h.2.1.2, h.2.2.1, h.2.2.2.1, h.2.2.2.2.1⟩ ⟨n_CB (y := y_13_5) (bytes := b_13_5) 1 h.2.2.2.2.1 n_w956 n_w953 n_w12 ⟨by decide, by decide, by decide +kernel⟩ rfl rfl ⟨by rw [hrm.1]; exact Nat.le_of_ble_eq_true rfl, by rw [hrm.2]; exact Nat.le_of_ble_eq_true rfl⟩, h.2.2.2.2.1 _ n_w955, h.2.2.2.2.1 _ n_s28⟩ (Cn := RX12) (fun a S V hP => by obtain ⟨u0, u1, rfl, e, -⟩ := hP; exact ⟨u0, _, 12, _, _, TX12, 31, rfl, rfl, by rw [e]; decide, by rw [e]; rfl, rfl⟩)
theorem K13_22_14 {C : qCx} {G : jG} {mc ms : Nat} {p : Int → Int → Int → jS → jH → Prop} {q : Int → Int → Int → jS → jH → Int → jS → jH → Prop} (h : x13_22 C G) (hrm : C.2.2.2.1.frames = 3 ∧ C.2.2.2.1.locals = 72) (hM : M13_3 C.2.1 mc ms p q) : j_Call C b_13_22 n_KT G.1 G.2.1 5 (.invokestatic 69) mc ms (fun a S V => ∃ u0 u1 u2 : Int, a = [(1, u0), (1, u1), (1, u2)] ∧ p u0 u1 u2 S V) (fun a S V rs S' V' => ∃ u0 u1 u2 r : Int, a = [(1, u0), (1, u1), (1, u2)] ∧ rs = [(0, r)] ∧ q u0 u1 u2 S V r S' V') := j_callS n_NWk h.2.2.2.2.2 h.1 hM ⟨h.2.1.1, h.2.1.2, h.2.2.1, h.2.2.2.1, h.2.2.2.2.1⟩ ⟨n_CB (y := y_13_3) (bytes := b_13_3) 3 h.2.2.2.2.1 n_w923 n_w921 n_w12 ⟨by decide, by decide, by decide +kernel⟩ rfl rfl ⟨by rw [hrm.1]; exact Nat.le_of_ble_eq_true rfl, by rw [hrm.2]; exact Nat.le_of_ble_eq_true rfl⟩, h.2.2.2.2.1 _ n_w922⟩ (fun a S V hP => by obtain ⟨u0, u1, u2, rfl, -⟩ := hP; rfl)
theorem K13_22_22 {C : qCx} {G : jG} {mc ms : Nat} {p : Int → Int → jS → jH → Prop} {q : Int → Int → jS → jH → Int → jS → jH → Prop} (h : x13_22 C G) (hrm : C.2.2.2.1.frames = 3 ∧ C.2.2.2.1.locals = 72) (hM : M13_2 C.2.1 mc ms p q) : j_Call C b_13_22 n_KT G.1 G.2.1 5 (.invokevirtual 82) mc ms (fun a S V => ∃ u0 u1 : Int, a = [(2, u0), (0, u1)] ∧ S.1 u0 = 33 ∧ p u0 u1 S V) (fun a S V rs S' V' => ∃ u0 u1 r : Int, a = [(2, u0), (0, u1)] ∧ rs = [(0, r)] ∧ q u0 u1 S V r S' V') := j_callV n_NWk h.2.2.2.2.2 h.1 hM ⟨h.2.1.1, h.2.1.2, h.2.2.1, h.2.2.2.1, h.2.2.2.2.1⟩ ⟨n_CB (y := y_13_2) (bytes := b_13_2) 1 h.2.2.2.2.1 n_w928 n_w925 n_w12 ⟨by decide, by decide, by decide +kernel⟩ rfl rfl ⟨by rw [hrm.1]; exact Nat.le_of_ble_eq_true rfl, by rw [hrm.2]; exact Nat.le_of_ble_eq_true rfl⟩, h.2.2.2.2.1 _ n_w927, h.2.2.2.2.1 _ n_s27⟩ (Cn := RX12) (fun a S V hP => by obtain ⟨u0, u1, rfl, e, -⟩ := hP; exact ⟨u0, _, 12, _, _, TX12, 31, rfl, rfl, by rw [e]; decide, by rw [e]; rfl, rfl⟩)
theorem K13_22_84 {C : qCx} {G : jG} {mc ms : Nat} {p : Int → Int → jS → jH → Prop} {q : Int → Int → jS → jH → Int → jS → jH → Prop} (h : x13_22 C G) (hrm : C.2.2.2.1.frames = 3 ∧ C.2.2.2.1.locals = 72) (hM : M13_2 C.2.1 mc ms p q) : j_Call C b_13_22 n_KT G.1 G.2.1 5 (.invokevirtual 82) mc ms (fun a S V => ∃ u0 u1 : Int, a = [(2, u0), (0, u1)] ∧ S.1 u0 = 33 ∧ p u0 u1 S V) (fun a S V rs S' V' => ∃ u0 u1 r : Int, a = [(2, u0), (0, u1)] ∧ rs = [(0, r)] ∧ q u0 u1 S V r S' V') := j_callV n_NWk h.2.2.2.2.2 h.1 hM ⟨h.2.1.1, h.2.1.2, h.2.2.1, h.2.2.2.1, h.2.2.2.2.1⟩ ⟨n_CB (y := y_13_2) (bytes := b_13_2) 1 h.2.2.2.2.1 n_w928 n_w925 n_w12 ⟨by decide, by decide, by decide +kernel⟩ rfl rfl ⟨by rw [hrm.1]; exact Nat.le_of_ble_eq_true rfl, by rw [hrm.2]; exact Nat.le_of_ble_eq_true rfl⟩, h.2.2.2.2.1 _ n_w927, h.2.2.2.2.1 _ n_s27⟩ (Cn := RX12) (fun a S V hP => by obtain ⟨u0, u1, rfl, e, -⟩ := hP; exact ⟨u0, _, 12, _, _, TX12, 31, rfl, rfl, by rw [e]; decide, by rw [e]; rfl, rfl⟩)
theorem t13_22_0 {C : qCx} {G : jG} {S : jS} {V : jH} {nc ns : Nat} {l0 l1 l2 : Int} {mc ms : Nat} {pp : Int → Int → jS → jH → Prop} {qq : Int → Int → jS → jH → Int → jS → jH → Prop} (h : x13_22 C G) (hrm : C.2.2.2.1.frames = 3 ∧ C.2.2.2.1.locals = 72) (c1 : S.1 l0 = 33) (hM : M13_5 C.2.1 mc ms pp qq) (hp : pp l0 l1 S V) (hc : nc + mc ≤ C.2.2.2.1.cells) (hs : ns + ms ≤ C.2.2.2.1.slots) (k : ∀ (r : Int) (S' : jS) (V' : jH), qq l0 l1 S V r S' V' → j_ok n_KT 5 C G 5 [(0, (2, l0)), (1, (0, l1)), (2, (0, l2))] [(0, r)] S' V' (nc + mc) (ns + ms)) : j_ok n_KT 5 C G 0 [(0, (2, l0)), (1, (0, l1)), (2, (0, l2))] [] S V nc ns := by
  have E := n_E h
  refine j_aload_n E d13_22_0 rfl 0 rfl ?_
  refine j_iload_n E d13_22_1 rfl 1 rfl ?_
  refine j_call E (K13_22_2 h hrm hM) d13_22_2 (a := [(2, l0), (0, l1)]) (sk := []) rfl ⟨l0, l1, rfl, c1, hp⟩ (Nat.le_of_ble_eq_true rfl) hc hs ?_
  rintro rs S' V' ⟨z0, z1, r, e1, rfl, q⟩
  simp only [List.cons.injEq, Prod.mk.injEq, and_true, true_and] at e1
  obtain ⟨rfl, rfl⟩ := e1
  exact j_pick [0, 1, 2] rfl (k r S' V' q)
theorem t13_22_5 {C : qCx} {G : jG} {S : jS} {V : jH} {nc ns : Nat} {l0 l1 l2 s0 : Int} (h : x13_22 C G)  (k : s0 = 0 → j_ok n_KT 5 C G 20 [(0, (2, l0))] [] S V nc ns) (k' : ¬ s0 = 0 → j_ok n_KT 5 C G 8 [(0, (2, l0)), (1, (0, l1)), (2, (0, l2))] [] S V nc ns) : j_ok n_KT 5 C G 5 [(0, (2, l0)), (1, (0, l1)), (2, (0, l2))] [(0, s0)] S V nc ns := by
  have E := n_E h
  exact j_if_eq E d13_22_5 (t := 20) rfl (fun q => j_pick [0] rfl (k q)) (fun q => j_pick [0, 1, 2] rfl (k' q))
theorem t13_22_8 {C : qCx} {G : jG} {S : jS} {V : jH} {nc ns : Nat} {l0 l1 l2 : Int} {mc ms : Nat} {pp : Int → Int → Int → jS → jH → Prop} {qq : Int → Int → Int → jS → jH → Int → jS → jH → Prop} (h : x13_22 C G) (hrm : C.2.2.2.1.frames = 3 ∧ C.2.2.2.1.locals = 72)  (hM : M13_3 C.2.1 mc ms pp qq) (hp : pp l2 0 4 S V) (hc : nc + mc ≤ C.2.2.2.1.cells) (hs : ns + ms ≤ C.2.2.2.1.slots) (k : ∀ (r : Int) (S' : jS) (V' : jH), qq l2 0 4 S V r S' V' → j_ok n_KT 5 C G 17 [(0, (2, l0)), (1, (0, l1)), (2, (0, l2))] [(0, r)] S' V' (nc + mc) (ns + ms)) : j_ok n_KT 5 C G 8 [(0, (2, l0)), (1, (0, l1)), (2, (0, l2))] [] S V nc ns := by
  have E := n_E h
  refine j_iload_n E d13_22_8 rfl 2 rfl ?_
  refine j_i2l E d13_22_9 ?_
  refine j_lconst E d13_22_10 ?_
  refine j_ldc2 (n := 4) (fl12_96 h) rfl d13_22_11 ?_
  refine j_call E (K13_22_14 h hrm hM) d13_22_14 (a := [(1, l2), (1, 0), (1, 4)]) (sk := []) rfl ⟨l2, 0, 4, rfl, hp⟩ (Nat.le_of_ble_eq_true rfl) hc hs ?_
  rintro rs S' V' ⟨z0, z1, z2, r, e1, rfl, q⟩
  simp only [List.cons.injEq, Prod.mk.injEq, and_true, true_and] at e1
  obtain ⟨rfl, rfl, rfl⟩ := e1
  exact j_pick [0, 1, 2] rfl (k r S' V' q)
theorem t13_22_17 {C : qCx} {G : jG} {S : jS} {V : jH} {nc ns : Nat} {l0 l1 l2 s0 : Int} (h : x13_22 C G)  (k : ¬ s0 = 0 → j_ok n_KT 5 C G 26 [(0, (2, l0)), (1, (0, l1)), (2, (0, l2))] [] S V nc ns) (k' : s0 = 0 → j_ok n_KT 5 C G 20 [(0, (2, l0))] [] S V nc ns) : j_ok n_KT 5 C G 17 [(0, (2, l0)), (1, (0, l1)), (2, (0, l2))] [(0, s0)] S V nc ns := by
  have E := n_E h
  exact j_if_ne E d13_22_17 (t := 26) rfl (fun q => j_pick [0, 1, 2] rfl (k q)) (fun q => j_pick [0] rfl (k' q))
theorem t13_22_20 {C : qCx} {G : jG} {S : jS} {V : jH} {nc ns : Nat} {l0 : Int} {mc ms : Nat} {pp : Int → Int → jS → jH → Prop} {qq : Int → Int → jS → jH → Int → jS → jH → Prop} (h : x13_22 C G) (hrm : C.2.2.2.1.frames = 3 ∧ C.2.2.2.1.locals = 72) (c1 : S.1 l0 = 33) (hM : M13_2 C.2.1 mc ms pp qq) (hp : pp l0 ((-1)) S V) (hc : nc + mc ≤ C.2.2.2.1.cells) (hs : ns + ms ≤ C.2.2.2.1.slots) (k : ∀ (r : Int) (S' : jS) (V' : jH), qq l0 ((-1)) S V r S' V' → j_ok n_KT 5 C G 25 [] [(0, r)] S' V' (nc + mc) (ns + ms)) : j_ok n_KT 5 C G 20 [(0, (2, l0))] [] S V nc ns := by
  have E := n_E h
  refine j_aload_n E d13_22_20 rfl 0 rfl ?_
  refine j_iconst E d13_22_21 (by decide) ?_
  refine j_call E (K13_22_22 h hrm hM) d13_22_22 (a := [(2, l0), (0, (-1))]) (sk := []) rfl ⟨l0, (-1), rfl, c1, hp⟩ (Nat.le_of_ble_eq_true rfl) hc hs ?_
  rintro rs S' V' ⟨z0, z1, r, e1, rfl, q⟩
  simp only [List.cons.injEq, Prod.mk.injEq, and_true, true_and] at e1
  obtain ⟨rfl, rfl⟩ := e1
  exact j_pick [] rfl (k r S' V' q)
theorem t13_22_25 {C : qCx} {G : jG} {S : jS} {V : jH} {nc ns : Nat} {s0 : Int} {mc ms : Nat} {qf : Int → jS → jH → Prop} (h : x13_22 C G)  (R : j_Ri n_KT 5 C G b_13_22 mc ms qf) (q : qf s0 S V) (hc : nc ≤ mc) (hs : ns ≤ ms) : j_ok n_KT 5 C G 25 [] [(0, s0)] S V nc ns := by
  have E := n_E h
  exact R _ _ _ _ _ _ _ d13_22_25 q hc hs
theorem t13_22_26 {C : qCx} {G : jG} {S : jS} {V : jH} {nc ns : Nat} {l0 l1 l2 : Int} (h : x13_22 C G) (L : j_L S) (c1 : S.1 l0 = 33) (c2 : 0 ≤ l1) (c3 : l1 < 10) (k : V (l0 + 4) l1 = l2 → j_ok n_KT 5 C G 65 [(0, (2, l0)), (1, (0, l1))] [] S V nc ns) (k' : ¬ V (l0 + 4) l1 = l2 → j_ok n_KT 5 C G 41 [(0, (2, l0)), (1, (0, l1)), (2, (0, l2)), (3, (0, V (l0 + 4) l1))] [] S V nc ns) : j_ok n_KT 5 C G 26 [(0, (2, l0)), (1, (0, l1)), (2, (0, l2))] [] S V nc ns := by
  have E := n_E h
  refine j_aload_n E d13_22_26 rfl 0 rfl ?_
  refine j_getS (f := 0) (x := l0 + 1) (fg12_10 h) d13_22_27 c1 (by decide) rfl rfl ((L12_0 L c1).trans (by omega)) ?_
  refine j_getS (f := 3) (x := l0 + 4) (fg12_100 h) d13_22_30 (show S.1 (l0 + 1) = 32 from (by have q := L12_0k L c1; rw [show l0 + 1 = l0 + 1 by omega]; exact q)) (by decide) rfl rfl ((L11_3 L (show S.1 (l0 + 1) = 32 from (by have q := L12_0k L c1; rw [show l0 + 1 = l0 + 1 by omega]; exact q))).trans (by omega)) ?_
  refine j_iload_n E d13_22_33 rfl 1 rfl ?_
  refine j_iald E d13_22_34 (j_arr_of (show S.1 (l0 + 4) = 10 from (by have q := L11_3k L (show S.1 (l0 + 1) = 32 from (by have q := L12_0k L c1; rw [show l0 + 1 = l0 + 1 by omega]; exact q)); rw [show l0 + 4 = (l0 + 1) + 3 by omega]; exact q)) (by decide) rfl) c2 c3 ?_
  refine j_istore_n E d13_22_35 rfl (by decide) (lo1 := [(0, (2, l0)), (1, (0, l1)), (2, (0, l2))]) rfl ?_
  refine j_iload_n E d13_22_36 rfl 0 rfl ?_
  refine j_iload_n E d13_22_37 rfl 3 rfl ?_
  exact j_icmp_eq E d13_22_38 (t := 65) rfl (fun q => j_pick [1, 2] rfl (k q)) (fun q => j_pick [1, 2, 3, 0] rfl (k' q))
theorem t13_22_41 {C : qCx} {G : jG} {S : jS} {V : jH} {nc ns : Nat} {l0 l1 l2 l3 : Int} (h : x13_22 C G)  (k : ¬ l2 = 2 → j_ok n_KT 5 C G 51 [(0, (2, l0)), (1, (0, l1)), (2, (0, l2)), (3, (0, l3))] [] S V nc ns) (k' : l2 = 2 → j_ok n_KT 5 C G 46 [(0, (2, l0)), (1, (0, l1)), (2, (0, l2)), (3, (0, l3))] [] S V nc ns) : j_ok n_KT 5 C G 41 [(0, (2, l0)), (1, (0, l1)), (2, (0, l2)), (3, (0, l3))] [] S V nc ns := by
  have E := n_E h
  refine j_iload_n E d13_22_41 rfl 2 rfl ?_
  refine j_iconst E d13_22_42 (by decide) ?_
  exact j_icmp_ne E d13_22_43 (t := 51) rfl (fun q => j_pick [0, 1, 2, 3] rfl (k q)) (fun q => j_pick [0, 1, 2, 3] rfl (k' q))
theorem t13_22_46 {C : qCx} {G : jG} {S : jS} {V : jH} {nc ns : Nat} {l0 l1 l2 l3 : Int} (h : x13_22 C G)  (k : l3 = 3 → j_ok n_KT 5 C G 65 [(0, (2, l0)), (1, (0, l1))] [] S V nc ns) (k' : ¬ l3 = 3 → j_ok n_KT 5 C G 51 [(0, (2, l0)), (1, (0, l1)), (2, (0, l2)), (3, (0, l3))] [] S V nc ns) : j_ok n_KT 5 C G 46 [(0, (2, l0)), (1, (0, l1)), (2, (0, l2)), (3, (0, l3))] [] S V nc ns := by
  have E := n_E h
  refine j_iload_n E d13_22_46 rfl 3 rfl ?_
  refine j_iconst E d13_22_47 (by decide) ?_
  exact j_icmp_eq E d13_22_48 (t := 65) rfl (fun q => j_pick [0, 1] rfl (k q)) (fun q => j_pick [0, 1, 2, 3] rfl (k' q))
theorem t13_22_51 {C : qCx} {G : jG} {S : jS} {V : jH} {nc ns : Nat} {l0 l1 l2 l3 : Int} (h : x13_22 C G)  (k : ¬ l2 = 0 → j_ok n_KT 5 C G 69 [(0, (2, l0)), (1, (0, l1))] [] S V nc ns) (k' : l2 = 0 → j_ok n_KT 5 C G 55 [(0, (2, l0)), (1, (0, l1)), (3, (0, l3))] [] S V nc ns) : j_ok n_KT 5 C G 51 [(0, (2, l0)), (1, (0, l1)), (2, (0, l2)), (3, (0, l3))] [] S V nc ns := by
  have E := n_E h
  refine j_iload_n E d13_22_51 rfl 2 rfl ?_
  exact j_if_ne E d13_22_52 (t := 69) rfl (fun q => j_pick [0, 1] rfl (k q)) (fun q => j_pick [0, 1, 3] rfl (k' q))
theorem t13_22_55 {C : qCx} {G : jG} {S : jS} {V : jH} {nc ns : Nat} {l0 l1 l3 : Int} (h : x13_22 C G)  (k : l3 = 2 → j_ok n_KT 5 C G 65 [(0, (2, l0)), (1, (0, l1))] [] S V nc ns) (k' : ¬ l3 = 2 → j_ok n_KT 5 C G 60 [(0, (2, l0)), (1, (0, l1)), (3, (0, l3))] [] S V nc ns) : j_ok n_KT 5 C G 55 [(0, (2, l0)), (1, (0, l1)), (3, (0, l3))] [] S V nc ns := by
  have E := n_E h
  refine j_iload_n E d13_22_55 rfl 2 rfl ?_
  refine j_iconst E d13_22_56 (by decide) ?_
  exact j_icmp_eq E d13_22_57 (t := 65) rfl (fun q => j_pick [0, 1] rfl (k q)) (fun q => j_pick [0, 1, 2] rfl (k' q))
theorem t13_22_60 {C : qCx} {G : jG} {S : jS} {V : jH} {nc ns : Nat} {l0 l1 l3 : Int} (h : x13_22 C G)  (k : ¬ l3 = 3 → j_ok n_KT 5 C G 69 [(0, (2, l0)), (1, (0, l1))] [] S V nc ns) (k' : l3 = 3 → j_ok n_KT 5 C G 65 [(0, (2, l0)), (1, (0, l1))] [] S V nc ns) : j_ok n_KT 5 C G 60 [(0, (2, l0)), (1, (0, l1)), (3, (0, l3))] [] S V nc ns := by
  have E := n_E h
  refine j_iload_n E d13_22_60 rfl 2 rfl ?_
  refine j_iconst E d13_22_61 (by decide) ?_
  exact j_icmp_ne E d13_22_62 (t := 69) rfl (fun q => j_pick [0, 1] rfl (k q)) (fun q => j_pick [0, 1] rfl (k' q))
theorem t13_22_65 {C : qCx} {G : jG} {S : jS} {V : jH} {nc ns : Nat} {l0 l1 : Int} (h : x13_22 C G)  (k : j_ok n_KT 5 C G 70 [(0, (2, l0)), (1, (0, l1))] [(0, 1)] S V nc ns) : j_ok n_KT 5 C G 65 [(0, (2, l0)), (1, (0, l1))] [] S V nc ns := by
  have E := n_E h
  refine j_iconst E d13_22_65 (by decide) ?_
  refine j_goto E d13_22_66 (t := 70) rfl ?_
  exact j_pick [0, 1] rfl k
theorem t13_22_69 {C : qCx} {G : jG} {S : jS} {V : jH} {nc ns : Nat} {l0 l1 : Int} (h : x13_22 C G)  (k : j_ok n_KT 5 C G 70 [(0, (2, l0)), (1, (0, l1))] [(0, 0)] S V nc ns) : j_ok n_KT 5 C G 69 [(0, (2, l0)), (1, (0, l1))] [] S V nc ns := by
  have E := n_E h
  refine j_iconst E d13_22_69 (by decide) ?_
  exact j_pick [0, 1] rfl k
theorem t13_22_70 {C : qCx} {G : jG} {S : jS} {V : jH} {nc ns : Nat} {l0 l1 s0 : Int} (h : x13_22 C G)  (k : s0 = 0 → j_ok n_KT 5 C G 81 [(0, (2, l0))] [] S V nc ns) (k' : ¬ s0 = 0 → j_ok n_KT 5 C G 77 [(1, (0, l1))] [] S V nc ns) : j_ok n_KT 5 C G 70 [(0, (2, l0)), (1, (0, l1))] [(0, s0)] S V nc ns := by
  have E := n_E h
  refine j_istore E d13_22_70 (by decide) (lo1 := [(0, (2, l0)), (1, (0, l1))]) rfl ?_
  refine j_iload E d13_22_72 0 rfl ?_
  exact j_if_eq E d13_22_74 (t := 81) rfl (fun q => j_pick [1] rfl (k q)) (fun q => j_pick [2] rfl (k' q))
theorem t13_22_77 {C : qCx} {G : jG} {S : jS} {V : jH} {nc ns : Nat} {l1 : Int} (h : x13_22 C G)  (k : j_ok n_KT 5 C G 87 [] [(0, l1)] S V nc ns) : j_ok n_KT 5 C G 77 [(1, (0, l1))] [] S V nc ns := by
  have E := n_E h
  refine j_iload_n E d13_22_77 rfl 0 rfl ?_
  refine j_goto E d13_22_78 (t := 87) rfl ?_
  exact j_pick [] rfl k
theorem t13_22_81 {C : qCx} {G : jG} {S : jS} {V : jH} {nc ns : Nat} {l0 : Int} {mc ms : Nat} {pp : Int → Int → jS → jH → Prop} {qq : Int → Int → jS → jH → Int → jS → jH → Prop} (h : x13_22 C G) (hrm : C.2.2.2.1.frames = 3 ∧ C.2.2.2.1.locals = 72) (c1 : S.1 l0 = 33) (hM : M13_2 C.2.1 mc ms pp qq) (hp : pp l0 ((-3)) S V) (hc : nc + mc ≤ C.2.2.2.1.cells) (hs : ns + ms ≤ C.2.2.2.1.slots) (k : ∀ (r : Int) (S' : jS) (V' : jH), qq l0 ((-3)) S V r S' V' → j_ok n_KT 5 C G 87 [] [(0, r)] S' V' (nc + mc) (ns + ms)) : j_ok n_KT 5 C G 81 [(0, (2, l0))] [] S V nc ns := by
  have E := n_E h
  refine j_aload_n E d13_22_81 rfl 0 rfl ?_
  refine j_bipush E d13_22_82 (by decide) ?_
  refine j_call E (K13_22_84 h hrm hM) d13_22_84 (a := [(2, l0), (0, (-3))]) (sk := []) rfl ⟨l0, (-3), rfl, c1, hp⟩ (Nat.le_of_ble_eq_true rfl) hc hs ?_
  rintro rs S' V' ⟨z0, z1, r, e1, rfl, q⟩
  simp only [List.cons.injEq, Prod.mk.injEq, and_true, true_and] at e1
  obtain ⟨rfl, rfl⟩ := e1
  exact j_pick [] rfl (k r S' V' q)
theorem t13_22_87 {C : qCx} {G : jG} {S : jS} {V : jH} {nc ns : Nat} {s0 : Int} {mc ms : Nat} {qf : Int → jS → jH → Prop} (h : x13_22 C G)  (R : j_Ri n_KT 5 C G b_13_22 mc ms qf) (q : qf s0 S V) (hc : nc ≤ mc) (hs : ns ≤ ms) : j_ok n_KT 5 C G 87 [] [(0, s0)] S V nc ns := by
  have E := n_E h
  exact R _ _ _ _ _ _ _ d13_22_87 q hc hs
/- BalanceCoderModel.dealAt(II)I -/
abbrev b_13_23 : ByteArray := prog_13_method_23_code
def y_13_23 : MethodName := ⟨"BalanceCoderModel", "dealAt", "(II)I"⟩
abbrev x13_23 (C : qCx) (G : jG) : Prop := n_ctx C b_13_23 3 "BalanceCoderModel" G.1 G.2.1
def M13_23 (l : Launch) (mc ms : Nat) (p : Int → Int → Int → jS → jH → Prop) (q : Int → Int → Int → jS → jH → Int → jS → jH → Prop) : Prop := j_Met l vwCl n_TL n_NW n_KT y_13_23 (Cond.code y_13_23 b_13_23 3 (some .int) :: n_GW) { frames := 1, cells := mc, slots := ms, locals := 26 } mc ms (fun a S V => ∃ u0 u1 u2 : Int, a = [(2, u0), (0, u1), (0, u2)] ∧ S.1 u0 = 33 ∧ p u0 u1 u2 S V) (fun a S V rs S' V' => ∃ u0 u1 u2 r : Int, a = [(2, u0), (0, u1), (0, u2)] ∧ rs = [(0, r)] ∧ q u0 u1 u2 S V r S' V')
theorem e13_23 {l : Launch} {mc ms : Nat} {p : Int → Int → Int → jS → jH → Prop} {q : Int → Int → Int → jS → jH → Int → jS → jH → Prop} (body : ∀ (C : qCx) (G : jG), x13_23 C G → C.2.2.2.1.frames = 1 ∧ C.2.2.2.1.locals = 26 → C.2.2.2.1.cells = mc ∧ C.2.2.2.1.slots = ms → C.2.1 = l → C.2.2.2.2.2.2.2.2.1.name = "dealAt" → ∀ (u0 u1 u2 : Int) (S : jS) (V : jH), S.1 u0 = 33 → p u0 u1 u2 S V → j_Ri n_KT 3 C G b_13_23 mc ms (q u0 u1 u2 S V) → j_ok n_KT 3 C G 0 [(0, (2, u0)), (1, (0, u1)), (2, (0, u2))] [] S V 0 0) : M13_23 l mc ms p q := by
  refine j_method (ws' := n_GW) (by decide) rfl ?_ ?_
  · rintro a S V ⟨u0, u1, u2, rfl, -⟩
    exact Nat.le_of_ble_eq_true rfl
  · rintro C G htl hl hrm hm hml ho hts hnm hE a S V ⟨u0, u1, u2, rfl, ht, hp⟩ R
    exact body C G ⟨htl, hm, hml, ho, fun w hw => hts w (List.mem_cons_of_mem _ hw), hE⟩ (by rw [hrm]; exact ⟨rfl, rfl⟩) (by rw [hrm]; exact ⟨rfl, rfl⟩) hl hnm u0 u1 u2 S V ht hp (fun pc lo r S' V' nc ns d q hc hs => R.2.1 rfl pc lo r S' V' nc ns d ⟨u0, u1, u2, r, rfl, rfl, q⟩ hc hs)
theorem d13_23_0 : decode b_13_23 0 = .ok (.aload_n 0, 1) := by decide +kernel
theorem d13_23_1 : decode b_13_23 1 = .ok (.getfield 32, 3) := by decide +kernel
theorem d13_23_4 : decode b_13_23 4 = .ok (.sipush 256, 3) := by decide +kernel
theorem d13_23_7 : decode b_13_23 7 = .ok (.aload_n 0, 1) := by decide +kernel
theorem d13_23_8 : decode b_13_23 8 = .ok (.getfield 149, 3) := by decide +kernel
theorem d13_23_11 : decode b_13_23 11 = .ok (.iconst 3, 1) := by decide +kernel
theorem d13_23_12 : decode b_13_23 12 = .ok (.if_icmp .ne 7, 3) := by decide +kernel
theorem d13_23_15 : decode b_13_23 15 = .ok (.iload_n 1, 1) := by decide +kernel
theorem d13_23_16 : decode b_13_23 16 = .ok (.goto 4, 3) := by decide +kernel
theorem d13_23_19 : decode b_13_23 19 = .ok (.iconst 0, 1) := by decide +kernel
theorem d13_23_20 : decode b_13_23 20 = .ok (.imul, 1) := by decide +kernel
theorem d13_23_21 : decode b_13_23 21 = .ok (.iload_n 2, 1) := by decide +kernel
theorem d13_23_22 : decode b_13_23 22 = .ok (.iadd, 1) := by decide +kernel
theorem d13_23_23 : decode b_13_23 23 = .ok (.iaload, 1) := by decide +kernel
theorem d13_23_24 : decode b_13_23 24 = .ok (.ireturn, 1) := by decide +kernel
theorem t13_23_0 {C : qCx} {G : jG} {S : jS} {V : jH} {nc ns : Nat} {l0 l1 l2 : Int} (h : x13_23 C G) (L : j_L S) (c1 : S.1 l0 = 33) (k : ¬ V l0 9 = 3 → j_ok n_KT 3 C G 19 [(2, (0, l2))] [(0, 256), (2, l0 + 21)] S V nc ns) (k' : V l0 9 = 3 → j_ok n_KT 3 C G 15 [(1, (0, l1)), (2, (0, l2))] [(0, 256), (2, l0 + 21)] S V nc ns) : j_ok n_KT 3 C G 0 [(0, (2, l0)), (1, (0, l1)), (2, (0, l2))] [] S V nc ns := by
  have E := n_E h
  refine j_aload_n E d13_23_0 rfl 0 rfl ?_
  refine j_getS (f := 11) (x := l0 + 21) (fg12_32 h) d13_23_1 c1 (by decide) rfl rfl ((L12_11 L c1).trans (by omega)) ?_
  refine j_sipush E d13_23_4 (by decide) ?_
  refine j_aload_n E d13_23_7 rfl 0 rfl ?_
  refine j_getI (f := 9) (fg12_149 h) d13_23_8 c1 (by decide) rfl rfl ?_
  refine j_iconst E d13_23_11 (by decide) ?_
  exact j_icmp_ne E d13_23_12 (t := 19) rfl (fun q => j_pick [2] rfl (k q)) (fun q => j_pick [1, 2] rfl (k' q))
theorem t13_23_15 {C : qCx} {G : jG} {S : jS} {V : jH} {nc ns : Nat} {l1 l2 s0 s1 : Int} (h : x13_23 C G)  (k : j_ok n_KT 3 C G 20 [(2, (0, l2))] [(0, l1), (0, s0), (2, s1)] S V nc ns) : j_ok n_KT 3 C G 15 [(1, (0, l1)), (2, (0, l2))] [(0, s0), (2, s1)] S V nc ns := by
  have E := n_E h
  refine j_iload_n E d13_23_15 rfl 0 rfl ?_
  refine j_goto E d13_23_16 (t := 20) rfl ?_
  exact j_pick [1] rfl k
theorem t13_23_19 {C : qCx} {G : jG} {S : jS} {V : jH} {nc ns : Nat} {l2 s0 s1 : Int} (h : x13_23 C G)  (k : j_ok n_KT 3 C G 20 [(2, (0, l2))] [(0, 0), (0, s0), (2, s1)] S V nc ns) : j_ok n_KT 3 C G 19 [(2, (0, l2))] [(0, s0), (2, s1)] S V nc ns := by
  have E := n_E h
  refine j_iconst E d13_23_19 (by decide) ?_
  exact j_pick [0] rfl k
theorem t13_23_20 {C : qCx} {G : jG} {S : jS} {V : jH} {nc ns : Nat} {l2 s0 s1 s2 : Int} {n_s2 : Nat} {mc ms : Nat} {qf : Int → jS → jH → Prop} (h : x13_23 C G) (c1 : -2147483648 ≤ s1 * s0 ∧ s1 * s0 ≤ 2147483647) (c2 : -2147483648 ≤ (s1 * s0) + l2 ∧ (s1 * s0) + l2 ≤ 2147483647) (c3 : j_arr S s2 n_s2) (c4 : 0 ≤ (s1 * s0) + l2) (c5 : (s1 * s0) + l2 < (n_s2 : Int)) (R : j_Ri n_KT 3 C G b_13_23 mc ms qf) (q : qf (V s2 ((s1 * s0) + l2)) S V) (hc : nc ≤ mc) (hs : ns ≤ ms) : j_ok n_KT 3 C G 20 [(2, (0, l2))] [(0, s0), (0, s1), (2, s2)] S V nc ns := by
  have E := n_E h
  refine j_imul E d13_23_20 c1 ?_
  refine j_iload_n E d13_23_21 rfl 0 rfl ?_
  refine j_iadd E d13_23_22 c2 ?_
  refine j_iald E d13_23_23 c3 c4 c5 ?_
  exact R _ _ _ _ _ _ _ d13_23_24 q hc hs
/- BalanceCoderModel.sees(II)V -/
abbrev b_13_24 : ByteArray := prog_13_method_24_code
def y_13_24 : MethodName := ⟨"BalanceCoderModel", "sees", "(II)V"⟩
abbrev x13_24 (C : qCx) (G : jG) : Prop := n_ctx C b_13_24 4 "BalanceCoderModel" G.1 G.2.1
def M13_24 (l : Launch) (mc ms : Nat) (p : Int → Int → Int → jS → jH → Prop) (q : Int → Int → Int → jS → jH → jS → jH → Prop) : Prop := j_Met l vwCl n_TL n_NW n_KT y_13_24 (Cond.code y_13_24 b_13_24 4 none :: n_GW) { frames := 2, cells := mc, slots := ms, locals := 48 } mc ms (fun a S V => ∃ u0 u1 u2 : Int, a = [(2, u0), (0, u1), (0, u2)] ∧ S.1 u0 = 33 ∧ p u0 u1 u2 S V) (fun a S V rs S' V' => ∃ u0 u1 u2 : Int, a = [(2, u0), (0, u1), (0, u2)] ∧ rs = [] ∧ q u0 u1 u2 S V S' V')
theorem e13_24 {l : Launch} {mc ms : Nat} {p : Int → Int → Int → jS → jH → Prop} {q : Int → Int → Int → jS → jH → jS → jH → Prop} (body : ∀ (C : qCx) (G : jG), x13_24 C G → C.2.2.2.1.frames = 2 ∧ C.2.2.2.1.locals = 48 → C.2.2.2.1.cells = mc ∧ C.2.2.2.1.slots = ms → C.2.1 = l → C.2.2.2.2.2.2.2.2.1.name = "sees" → ∀ (u0 u1 u2 : Int) (S : jS) (V : jH), S.1 u0 = 33 → p u0 u1 u2 S V → j_Rv n_KT 4 C G b_13_24 mc ms (q u0 u1 u2 S V) → j_ok n_KT 4 C G 0 [(0, (2, u0)), (1, (0, u1)), (2, (0, u2))] [] S V 0 0) : M13_24 l mc ms p q := by
  refine j_method (ws' := n_GW) (by decide) rfl ?_ ?_
  · rintro a S V ⟨u0, u1, u2, rfl, -⟩
    exact Nat.le_of_ble_eq_true rfl
  · rintro C G htl hl hrm hm hml ho hts hnm hE a S V ⟨u0, u1, u2, rfl, ht, hp⟩ R
    exact body C G ⟨htl, hm, hml, ho, fun w hw => hts w (List.mem_cons_of_mem _ hw), hE⟩ (by rw [hrm]; exact ⟨rfl, rfl⟩) (by rw [hrm]; exact ⟨rfl, rfl⟩) hl hnm u0 u1 u2 S V ht hp (fun pc lo S' V' nc ns d q hc hs => R.1 rfl pc lo S' V' nc ns d ⟨u0, u1, u2, rfl, rfl, q⟩ hc hs)
theorem d13_24_0 : decode b_13_24 0 = .ok (.aload_n 0, 1) := by decide +kernel
theorem d13_24_1 : decode b_13_24 1 = .ok (.aload_n 0, 1) := by decide +kernel
theorem d13_24_2 : decode b_13_24 2 = .ok (.iload_n 1, 1) := by decide +kernel
theorem d13_24_3 : decode b_13_24 3 = .ok (.iload_n 2, 1) := by decide +kernel
theorem d13_24_4 : decode b_13_24 4 = .ok (.invokevirtual 152, 3) := by decide +kernel
theorem d13_24_7 : decode b_13_24 7 = .ok (.putfield 155, 3) := by decide +kernel
theorem d13_24_10 : decode b_13_24 10 = .ok (.aload_n 0, 1) := by decide +kernel
theorem d13_24_11 : decode b_13_24 11 = .ok (.iconst 0, 1) := by decide +kernel
theorem d13_24_12 : decode b_13_24 12 = .ok (.putfield 158, 3) := by decide +kernel
theorem d13_24_15 : decode b_13_24 15 = .ok (.iconst 0, 1) := by decide +kernel
theorem d13_24_16 : decode b_13_24 16 = .ok (.istore_n 3, 1) := by decide +kernel
theorem d13_24_17 : decode b_13_24 17 = .ok (.iload_n 3, 1) := by decide +kernel
theorem d13_24_18 : decode b_13_24 18 = .ok (.iload_n 2, 1) := by decide +kernel
theorem d13_24_19 : decode b_13_24 19 = .ok (.if_icmp .ge 24, 3) := by decide +kernel
theorem d13_24_22 : decode b_13_24 22 = .ok (.aload_n 0, 1) := by decide +kernel
theorem d13_24_23 : decode b_13_24 23 = .ok (.dup, 1) := by decide +kernel
theorem d13_24_24 : decode b_13_24 24 = .ok (.getfield 158, 3) := by decide +kernel
theorem d13_24_27 : decode b_13_24 27 = .ok (.aload_n 0, 1) := by decide +kernel
theorem d13_24_28 : decode b_13_24 28 = .ok (.iload_n 1, 1) := by decide +kernel
theorem d13_24_29 : decode b_13_24 29 = .ok (.iload_n 3, 1) := by decide +kernel
theorem d13_24_30 : decode b_13_24 30 = .ok (.invokevirtual 152, 3) := by decide +kernel
theorem d13_24_33 : decode b_13_24 33 = .ok (.iadd, 1) := by decide +kernel
theorem d13_24_34 : decode b_13_24 34 = .ok (.putfield 158, 3) := by decide +kernel
theorem d13_24_37 : decode b_13_24 37 = .ok (.iinc 3 1, 3) := by decide +kernel
theorem d13_24_40 : decode b_13_24 40 = .ok (.goto (-23), 3) := by decide +kernel
theorem d13_24_43 : decode b_13_24 43 = .ok (.return_, 1) := by decide +kernel
theorem K13_24_4 {C : qCx} {G : jG} {mc ms : Nat} {p : Int → Int → Int → jS → jH → Prop} {q : Int → Int → Int → jS → jH → Int → jS → jH → Prop} (h : x13_24 C G) (hrm : C.2.2.2.1.frames = 2 ∧ C.2.2.2.1.locals = 48) (hM : M13_23 C.2.1 mc ms p q) : j_Call C b_13_24 n_KT G.1 G.2.1 4 (.invokevirtual 152) mc ms (fun a S V => ∃ u0 u1 u2 : Int, a = [(2, u0), (0, u1), (0, u2)] ∧ S.1 u0 = 33 ∧ p u0 u1 u2 S V) (fun a S V rs S' V' => ∃ u0 u1 u2 r : Int, a = [(2, u0), (0, u1), (0, u2)] ∧ rs = [(0, r)] ∧ q u0 u1 u2 S V r S' V') := j_callV n_NWk h.2.2.2.2.2 h.1 hM ⟨h.2.1.1, h.2.1.2, h.2.2.1, h.2.2.2.1, h.2.2.2.2.1⟩ ⟨n_CB (y := y_13_23) (bytes := b_13_23) 2 h.2.2.2.2.1 n_w1021 n_w1018 n_w12 ⟨by decide, by decide, by decide +kernel⟩ rfl rfl ⟨by rw [hrm.1]; exact Nat.le_of_ble_eq_true rfl, by rw [hrm.2]; exact Nat.le_of_ble_eq_true rfl⟩, h.2.2.2.2.1 _ n_w1020, h.2.2.2.2.1 _ n_s38⟩ (Cn := RX12) (fun a S V hP => by obtain ⟨u0, u1, u2, rfl, e, -⟩ := hP; exact ⟨u0, _, 12, _, _, TX12, 31, rfl, rfl, by rw [e]; decide, by rw [e]; rfl, rfl⟩)
theorem K13_24_30 {C : qCx} {G : jG} {mc ms : Nat} {p : Int → Int → Int → jS → jH → Prop} {q : Int → Int → Int → jS → jH → Int → jS → jH → Prop} (h : x13_24 C G) (hrm : C.2.2.2.1.frames = 2 ∧ C.2.2.2.1.locals = 48) (hM : M13_23 C.2.1 mc ms p q) : j_Call C b_13_24 n_KT G.1 G.2.1 4 (.invokevirtual 152) mc ms (fun a S V => ∃ u0 u1 u2 : Int, a = [(2, u0), (0, u1), (0, u2)] ∧ S.1 u0 = 33 ∧ p u0 u1 u2 S V) (fun a S V rs S' V' => ∃ u0 u1 u2 r : Int, a = [(2, u0), (0, u1), (0, u2)] ∧ rs = [(0, r)] ∧ q u0 u1 u2 S V r S' V') := j_callV n_NWk h.2.2.2.2.2 h.1 hM ⟨h.2.1.1, h.2.1.2, h.2.2.1, h.2.2.2.1, h.2.2.2.2.1⟩ ⟨n_CB (y := y_13_23) (bytes := b_13_23) 2 h.2.2.2.2.1 n_w1021 n_w1018 n_w12 ⟨by decide, by decide, by decide +kernel⟩ rfl rfl ⟨by rw [hrm.1]; exact Nat.le_of_ble_eq_true rfl, by rw [hrm.2]; exact Nat.le_of_ble_eq_true rfl⟩, h.2.2.2.2.1 _ n_w1020, h.2.2.2.2.1 _ n_s38⟩ (Cn := RX12) (fun a S V hP => by obtain ⟨u0, u1, u2, rfl, e, -⟩ := hP; exact ⟨u0, _, 12, _, _, TX12, 31, rfl, rfl, by rw [e]; decide, by rw [e]; rfl, rfl⟩)
theorem t13_24_0 {C : qCx} {G : jG} {S : jS} {V : jH} {nc ns : Nat} {l0 l1 l2 : Int} {mc ms : Nat} {pp : Int → Int → Int → jS → jH → Prop} {qq : Int → Int → Int → jS → jH → Int → jS → jH → Prop} (h : x13_24 C G) (hrm : C.2.2.2.1.frames = 2 ∧ C.2.2.2.1.locals = 48) (c1 : S.1 l0 = 33) (hM : M13_23 C.2.1 mc ms pp qq) (hp : pp l0 l1 l2 S V) (hc : nc + mc ≤ C.2.2.2.1.cells) (hs : ns + ms ≤ C.2.2.2.1.slots) (k : ∀ (r : Int) (S' : jS) (V' : jH), qq l0 l1 l2 S V r S' V' → j_ok n_KT 4 C G 7 [(0, (2, l0)), (1, (0, l1)), (2, (0, l2))] [(0, r), (2, l0)] S' V' (nc + mc) (ns + ms)) : j_ok n_KT 4 C G 0 [(0, (2, l0)), (1, (0, l1)), (2, (0, l2))] [] S V nc ns := by
  have E := n_E h
  refine j_aload_n E d13_24_0 rfl 0 rfl ?_
  refine j_aload_n E d13_24_1 rfl 0 rfl ?_
  refine j_iload_n E d13_24_2 rfl 1 rfl ?_
  refine j_iload_n E d13_24_3 rfl 2 rfl ?_
  refine j_call E (K13_24_4 h hrm hM) d13_24_4 (a := [(2, l0), (0, l1), (0, l2)]) (sk := [(2, l0)]) rfl ⟨l0, l1, l2, rfl, c1, hp⟩ (Nat.le_of_ble_eq_true rfl) hc hs ?_
  rintro rs S' V' ⟨z0, z1, z2, r, e1, rfl, q⟩
  simp only [List.cons.injEq, Prod.mk.injEq, and_true, true_and] at e1
  obtain ⟨rfl, rfl, rfl⟩ := e1
  exact j_pick [0, 1, 2] rfl (k r S' V' q)
theorem t13_24_7 {C : qCx} {G : jG} {S : jS} {V : jH} {nc ns : Nat} {l0 l1 l2 s0 s1 : Int} (h : x13_24 C G) (c1 : S.1 s1 = 33) (c2 : S.1 l0 = 33) (k : j_ok n_KT 4 C G 17 [(0, (2, l0)), (1, (0, l1)), (2, (0, l2)), (3, (0, 0))] [] S (j_up (j_up V s1 12 s0) l0 13 0) nc ns) : j_ok n_KT 4 C G 7 [(0, (2, l0)), (1, (0, l1)), (2, (0, l2))] [(0, s0), (2, s1)] S V nc ns := by
  have E := n_E h
  refine j_putI (f := 12) (fp12_155 h) (n_hap h 33 12 0 _ rfl) d13_24_7 c1 (by decide) rfl rfl rfl ?_
  refine j_aload_n E d13_24_10 rfl 0 rfl ?_
  refine j_iconst E d13_24_11 (by decide) ?_
  refine j_putI (f := 13) (fp12_158 h) (n_hap h 33 12 0 _ rfl) d13_24_12 c2 (by decide) rfl rfl rfl ?_
  refine j_iconst E d13_24_15 (by decide) ?_
  refine j_istore_n E d13_24_16 rfl (by decide) (lo1 := [(0, (2, l0)), (1, (0, l1)), (2, (0, l2))]) rfl ?_
  exact j_pick [1, 2, 3, 0] rfl k
theorem t13_24_17 {C : qCx} {G : jG} {S : jS} {V : jH} {nc ns : Nat} {l0 l1 l2 l3 : Int} (h : x13_24 C G)  (k : l2 ≤ l3 → j_ok n_KT 4 C G 43 [] [] S V nc ns) (k' : l3 < l2 → j_ok n_KT 4 C G 22 [(0, (2, l0)), (1, (0, l1)), (2, (0, l2)), (3, (0, l3))] [] S V nc ns) : j_ok n_KT 4 C G 17 [(0, (2, l0)), (1, (0, l1)), (2, (0, l2)), (3, (0, l3))] [] S V nc ns := by
  have E := n_E h
  refine j_iload_n E d13_24_17 rfl 3 rfl ?_
  refine j_iload_n E d13_24_18 rfl 2 rfl ?_
  exact j_icmp_ge E d13_24_19 (t := 43) rfl (fun q => j_pick [] rfl (k q)) (fun q => j_pick [0, 1, 2, 3] rfl (k' q))
theorem t13_24_22 {C : qCx} {G : jG} {S : jS} {V : jH} {nc ns : Nat} {l0 l1 l2 l3 : Int} {mc ms : Nat} {pp : Int → Int → Int → jS → jH → Prop} {qq : Int → Int → Int → jS → jH → Int → jS → jH → Prop} (h : x13_24 C G) (hrm : C.2.2.2.1.frames = 2 ∧ C.2.2.2.1.locals = 48) (c1 : S.1 l0 = 33) (hM : M13_23 C.2.1 mc ms pp qq) (hp : pp l0 l1 l3 S V) (hc : nc + mc ≤ C.2.2.2.1.cells) (hs : ns + ms ≤ C.2.2.2.1.slots) (k : ∀ (r : Int) (S' : jS) (V' : jH), qq l0 l1 l3 S V r S' V' → j_ok n_KT 4 C G 33 [(0, (2, l0)), (1, (0, l1)), (2, (0, l2)), (3, (0, l3))] [(0, r), (0, V l0 13), (2, l0)] S' V' (nc + mc) (ns + ms)) : j_ok n_KT 4 C G 22 [(0, (2, l0)), (1, (0, l1)), (2, (0, l2)), (3, (0, l3))] [] S V nc ns := by
  have E := n_E h
  refine j_aload_n E d13_24_22 rfl 0 rfl ?_
  refine j_dup E d13_24_23 rfl ?_
  refine j_getI (f := 13) (fg12_158 h) d13_24_24 c1 (by decide) rfl rfl ?_
  refine j_aload_n E d13_24_27 rfl 0 rfl ?_
  refine j_iload_n E d13_24_28 rfl 1 rfl ?_
  refine j_iload_n E d13_24_29 rfl 3 rfl ?_
  refine j_call E (K13_24_30 h hrm hM) d13_24_30 (a := [(2, l0), (0, l1), (0, l3)]) (sk := [(0, V l0 13), (2, l0)]) rfl ⟨l0, l1, l3, rfl, c1, hp⟩ (Nat.le_of_ble_eq_true rfl) hc hs ?_
  rintro rs S' V' ⟨z0, z1, z2, r, e1, rfl, q⟩
  simp only [List.cons.injEq, Prod.mk.injEq, and_true, true_and] at e1
  obtain ⟨rfl, rfl, rfl⟩ := e1
  exact j_pick [0, 1, 2, 3] rfl (k r S' V' q)
theorem t13_24_33 {C : qCx} {G : jG} {S : jS} {V : jH} {nc ns : Nat} {l0 l1 l2 l3 s0 s1 s2 : Int} (h : x13_24 C G) (c1 : -2147483648 ≤ s1 + s0 ∧ s1 + s0 ≤ 2147483647) (c2 : S.1 s2 = 33) (c3 : -2147483648 ≤ l3 + 1 ∧ l3 + 1 ≤ 2147483647) (k : j_ok n_KT 4 C G 17 [(0, (2, l0)), (1, (0, l1)), (2, (0, l2)), (3, (0, l3 + 1))] [] S (j_up V s2 13 (s1 + s0)) nc ns) : j_ok n_KT 4 C G 33 [(0, (2, l0)), (1, (0, l1)), (2, (0, l2)), (3, (0, l3))] [(0, s0), (0, s1), (2, s2)] S V nc ns := by
  have E := n_E h
  refine j_iadd E d13_24_33 c1 ?_
  refine j_putI (f := 13) (fp12_158 h) (n_hap h 33 12 0 _ rfl) d13_24_34 c2 (by decide) rfl rfl rfl ?_
  refine j_iinc E d13_24_37 (by decide) (by decide) 3 rfl (lo1 := [(0, (2, l0)), (1, (0, l1)), (2, (0, l2))]) rfl c3 ?_
  refine j_goto E d13_24_40 (t := 17) rfl ?_
  exact j_pick [1, 2, 3, 0] rfl k
theorem t13_24_43 {C : qCx} {G : jG} {S : jS} {V : jH} {nc ns : Nat} {mc ms : Nat} {qf : jS → jH → Prop} (h : x13_24 C G)  (R : j_Rv n_KT 4 C G b_13_24 mc ms qf) (q : qf S V) (hc : nc ≤ mc) (hs : ns ≤ ms) : j_ok n_KT 4 C G 43 [] [] S V nc ns := by
  have E := n_E h
  exact R _ _ _ _ _ _ d13_24_43 q hc hs
/- BalanceCoderModel.moves(I)V -/
abbrev b_13_25 : ByteArray := prog_13_method_25_code
def y_13_25 : MethodName := ⟨"BalanceCoderModel", "moves", "(I)V"⟩
abbrev x13_25 (C : qCx) (G : jG) : Prop := n_ctx C b_13_25 4 "BalanceCoderModel" G.1 G.2.1
def M13_25 (l : Launch) (mc ms : Nat) (p : Int → Int → jS → jH → Prop) (q : Int → Int → jS → jH → jS → jH → Prop) : Prop := j_Met l vwCl n_TL n_NW n_KT y_13_25 (Cond.code y_13_25 b_13_25 4 none :: n_GW) { frames := 1, cells := mc, slots := ms, locals := 26 } mc ms (fun a S V => ∃ u0 u1 : Int, a = [(2, u0), (0, u1)] ∧ S.1 u0 = 33 ∧ p u0 u1 S V) (fun a S V rs S' V' => ∃ u0 u1 : Int, a = [(2, u0), (0, u1)] ∧ rs = [] ∧ q u0 u1 S V S' V')
theorem e13_25 {l : Launch} {mc ms : Nat} {p : Int → Int → jS → jH → Prop} {q : Int → Int → jS → jH → jS → jH → Prop} (body : ∀ (C : qCx) (G : jG), x13_25 C G → C.2.2.2.1.frames = 1 ∧ C.2.2.2.1.locals = 26 → C.2.2.2.1.cells = mc ∧ C.2.2.2.1.slots = ms → C.2.1 = l → C.2.2.2.2.2.2.2.2.1.name = "moves" → ∀ (u0 u1 : Int) (S : jS) (V : jH), S.1 u0 = 33 → p u0 u1 S V → j_Rv n_KT 4 C G b_13_25 mc ms (q u0 u1 S V) → j_ok n_KT 4 C G 0 [(0, (2, u0)), (1, (0, u1))] [] S V 0 0) : M13_25 l mc ms p q := by
  refine j_method (ws' := n_GW) (by decide) rfl ?_ ?_
  · rintro a S V ⟨u0, u1, rfl, -⟩
    exact Nat.le_of_ble_eq_true rfl
  · rintro C G htl hl hrm hm hml ho hts hnm hE a S V ⟨u0, u1, rfl, ht, hp⟩ R
    exact body C G ⟨htl, hm, hml, ho, fun w hw => hts w (List.mem_cons_of_mem _ hw), hE⟩ (by rw [hrm]; exact ⟨rfl, rfl⟩) (by rw [hrm]; exact ⟨rfl, rfl⟩) hl hnm u0 u1 S V ht hp (fun pc lo S' V' nc ns d q hc hs => R.1 rfl pc lo S' V' nc ns d ⟨u0, u1, rfl, rfl, q⟩ hc hs)
theorem d13_25_0 : decode b_13_25 0 = .ok (.aload_n 0, 1) := by decide +kernel
theorem d13_25_1 : decode b_13_25 1 = .ok (.getfield 149, 3) := by decide +kernel
theorem d13_25_4 : decode b_13_25 4 = .ok (.iconst 4, 1) := by decide +kernel
theorem d13_25_5 : decode b_13_25 5 = .ok (.if_icmp .eq 4, 3) := by decide +kernel
theorem d13_25_8 : decode b_13_25 8 = .ok (.return_, 1) := by decide +kernel
theorem d13_25_9 : decode b_13_25 9 = .ok (.iconst (-1), 1) := by decide +kernel
theorem d13_25_10 : decode b_13_25 10 = .ok (.istore_n 2, 1) := by decide +kernel
theorem d13_25_11 : decode b_13_25 11 = .ok (.iconst 0, 1) := by decide +kernel
theorem d13_25_12 : decode b_13_25 12 = .ok (.istore_n 3, 1) := by decide +kernel
theorem d13_25_13 : decode b_13_25 13 = .ok (.iload_n 3, 1) := by decide +kernel
theorem d13_25_14 : decode b_13_25 14 = .ok (.sipush 256, 3) := by decide +kernel
theorem d13_25_17 : decode b_13_25 17 = .ok (.if_icmp .ge 35, 3) := by decide +kernel
theorem d13_25_20 : decode b_13_25 20 = .ok (.iload_n 3, 1) := by decide +kernel
theorem d13_25_21 : decode b_13_25 21 = .ok (.iload_n 1, 1) := by decide +kernel
theorem d13_25_22 : decode b_13_25 22 = .ok (.if_icmp .eq 24, 3) := by decide +kernel
theorem d13_25_25 : decode b_13_25 25 = .ok (.iload_n 2, 1) := by decide +kernel
theorem d13_25_26 : decode b_13_25 26 = .ok (.ifCond .lt 18, 3) := by decide +kernel
theorem d13_25_29 : decode b_13_25 29 = .ok (.aload_n 0, 1) := by decide +kernel
theorem d13_25_30 : decode b_13_25 30 = .ok (.getfield 32, 3) := by decide +kernel
theorem d13_25_33 : decode b_13_25 33 = .ok (.iload_n 3, 1) := by decide +kernel
theorem d13_25_34 : decode b_13_25 34 = .ok (.iaload, 1) := by decide +kernel
theorem d13_25_35 : decode b_13_25 35 = .ok (.aload_n 0, 1) := by decide +kernel
theorem d13_25_36 : decode b_13_25 36 = .ok (.getfield 32, 3) := by decide +kernel
theorem d13_25_39 : decode b_13_25 39 = .ok (.iload_n 2, 1) := by decide +kernel
theorem d13_25_40 : decode b_13_25 40 = .ok (.iaload, 1) := by decide +kernel
theorem d13_25_41 : decode b_13_25 41 = .ok (.if_icmp .le 5, 3) := by decide +kernel
theorem d13_25_44 : decode b_13_25 44 = .ok (.iload_n 3, 1) := by decide +kernel
theorem d13_25_45 : decode b_13_25 45 = .ok (.istore_n 2, 1) := by decide +kernel
theorem d13_25_46 : decode b_13_25 46 = .ok (.iinc 3 1, 3) := by decide +kernel
theorem d13_25_49 : decode b_13_25 49 = .ok (.goto (-36), 3) := by decide +kernel
theorem d13_25_52 : decode b_13_25 52 = .ok (.aload_n 0, 1) := by decide +kernel
theorem d13_25_53 : decode b_13_25 53 = .ok (.getfield 32, 3) := by decide +kernel
theorem d13_25_56 : decode b_13_25 56 = .ok (.iload_n 2, 1) := by decide +kernel
theorem d13_25_57 : decode b_13_25 57 = .ok (.iaload, 1) := by decide +kernel
theorem d13_25_58 : decode b_13_25 58 = .ok (.iconst 1, 1) := by decide +kernel
theorem d13_25_59 : decode b_13_25 59 = .ok (.if_icmp .ne 4, 3) := by decide +kernel
theorem d13_25_62 : decode b_13_25 62 = .ok (.return_, 1) := by decide +kernel
theorem d13_25_63 : decode b_13_25 63 = .ok (.aload_n 0, 1) := by decide +kernel
theorem d13_25_64 : decode b_13_25 64 = .ok (.getfield 32, 3) := by decide +kernel
theorem d13_25_67 : decode b_13_25 67 = .ok (.iload_n 2, 1) := by decide +kernel
theorem d13_25_68 : decode b_13_25 68 = .ok (.dup2, 1) := by decide +kernel
theorem d13_25_69 : decode b_13_25 69 = .ok (.iaload, 1) := by decide +kernel
theorem d13_25_70 : decode b_13_25 70 = .ok (.iconst 1, 1) := by decide +kernel
theorem d13_25_71 : decode b_13_25 71 = .ok (.isub, 1) := by decide +kernel
theorem d13_25_72 : decode b_13_25 72 = .ok (.iastore, 1) := by decide +kernel
theorem d13_25_73 : decode b_13_25 73 = .ok (.aload_n 0, 1) := by decide +kernel
theorem d13_25_74 : decode b_13_25 74 = .ok (.getfield 32, 3) := by decide +kernel
theorem d13_25_77 : decode b_13_25 77 = .ok (.iload_n 1, 1) := by decide +kernel
theorem d13_25_78 : decode b_13_25 78 = .ok (.dup2, 1) := by decide +kernel
theorem d13_25_79 : decode b_13_25 79 = .ok (.iaload, 1) := by decide +kernel
theorem d13_25_80 : decode b_13_25 80 = .ok (.iconst 1, 1) := by decide +kernel
theorem d13_25_81 : decode b_13_25 81 = .ok (.iadd, 1) := by decide +kernel
theorem d13_25_82 : decode b_13_25 82 = .ok (.iastore, 1) := by decide +kernel
theorem d13_25_83 : decode b_13_25 83 = .ok (.return_, 1) := by decide +kernel
theorem t13_25_0 {C : qCx} {G : jG} {S : jS} {V : jH} {nc ns : Nat} {l0 l1 : Int} (h : x13_25 C G) (c1 : S.1 l0 = 33) (k : V l0 9 = 4 → j_ok n_KT 4 C G 9 [(0, (2, l0)), (1, (0, l1))] [] S V nc ns) (k' : ¬ V l0 9 = 4 → j_ok n_KT 4 C G 8 [] [] S V nc ns) : j_ok n_KT 4 C G 0 [(0, (2, l0)), (1, (0, l1))] [] S V nc ns := by
  have E := n_E h
  refine j_aload_n E d13_25_0 rfl 0 rfl ?_
  refine j_getI (f := 9) (fg12_149 h) d13_25_1 c1 (by decide) rfl rfl ?_
  refine j_iconst E d13_25_4 (by decide) ?_
  exact j_icmp_eq E d13_25_5 (t := 9) rfl (fun q => j_pick [0, 1] rfl (k q)) (fun q => j_pick [] rfl (k' q))
theorem t13_25_8 {C : qCx} {G : jG} {S : jS} {V : jH} {nc ns : Nat} {mc ms : Nat} {qf : jS → jH → Prop} (h : x13_25 C G)  (R : j_Rv n_KT 4 C G b_13_25 mc ms qf) (q : qf S V) (hc : nc ≤ mc) (hs : ns ≤ ms) : j_ok n_KT 4 C G 8 [] [] S V nc ns := by
  have E := n_E h
  exact R _ _ _ _ _ _ d13_25_8 q hc hs
theorem t13_25_9 {C : qCx} {G : jG} {S : jS} {V : jH} {nc ns : Nat} {l0 l1 : Int} (h : x13_25 C G)  (k : j_ok n_KT 4 C G 13 [(0, (2, l0)), (1, (0, l1)), (2, (0, (-1))), (3, (0, 0))] [] S V nc ns) : j_ok n_KT 4 C G 9 [(0, (2, l0)), (1, (0, l1))] [] S V nc ns := by
  have E := n_E h
  refine j_iconst E d13_25_9 (by decide) ?_
  refine j_istore_n E d13_25_10 rfl (by decide) (lo1 := [(0, (2, l0)), (1, (0, l1))]) rfl ?_
  refine j_iconst E d13_25_11 (by decide) ?_
  refine j_istore_n E d13_25_12 rfl (by decide) (lo1 := [(2, (0, (-1))), (0, (2, l0)), (1, (0, l1))]) rfl ?_
  exact j_pick [2, 3, 1, 0] rfl k
theorem t13_25_13 {C : qCx} {G : jG} {S : jS} {V : jH} {nc ns : Nat} {l0 l1 l2 l3 : Int} (h : x13_25 C G)  (k : 256 ≤ l3 → j_ok n_KT 4 C G 52 [(0, (2, l0)), (1, (0, l1)), (2, (0, l2))] [] S V nc ns) (k' : l3 < 256 → j_ok n_KT 4 C G 20 [(0, (2, l0)), (1, (0, l1)), (2, (0, l2)), (3, (0, l3))] [] S V nc ns) : j_ok n_KT 4 C G 13 [(0, (2, l0)), (1, (0, l1)), (2, (0, l2)), (3, (0, l3))] [] S V nc ns := by
  have E := n_E h
  refine j_iload_n E d13_25_13 rfl 3 rfl ?_
  refine j_sipush E d13_25_14 (by decide) ?_
  exact j_icmp_ge E d13_25_17 (t := 52) rfl (fun q => j_pick [0, 1, 2] rfl (k q)) (fun q => j_pick [0, 1, 2, 3] rfl (k' q))
theorem t13_25_20 {C : qCx} {G : jG} {S : jS} {V : jH} {nc ns : Nat} {l0 l1 l2 l3 : Int} (h : x13_25 C G)  (k : l3 = l1 → j_ok n_KT 4 C G 46 [(0, (2, l0)), (1, (0, l1)), (2, (0, l2)), (3, (0, l3))] [] S V nc ns) (k' : ¬ l3 = l1 → j_ok n_KT 4 C G 25 [(0, (2, l0)), (1, (0, l1)), (2, (0, l2)), (3, (0, l3))] [] S V nc ns) : j_ok n_KT 4 C G 20 [(0, (2, l0)), (1, (0, l1)), (2, (0, l2)), (3, (0, l3))] [] S V nc ns := by
  have E := n_E h
  refine j_iload_n E d13_25_20 rfl 3 rfl ?_
  refine j_iload_n E d13_25_21 rfl 1 rfl ?_
  exact j_icmp_eq E d13_25_22 (t := 46) rfl (fun q => j_pick [0, 1, 2, 3] rfl (k q)) (fun q => j_pick [0, 1, 2, 3] rfl (k' q))
theorem t13_25_25 {C : qCx} {G : jG} {S : jS} {V : jH} {nc ns : Nat} {l0 l1 l2 l3 : Int} (h : x13_25 C G)  (k : l2 < 0 → j_ok n_KT 4 C G 44 [(0, (2, l0)), (1, (0, l1)), (3, (0, l3))] [] S V nc ns) (k' : 0 ≤ l2 → j_ok n_KT 4 C G 29 [(0, (2, l0)), (1, (0, l1)), (2, (0, l2)), (3, (0, l3))] [] S V nc ns) : j_ok n_KT 4 C G 25 [(0, (2, l0)), (1, (0, l1)), (2, (0, l2)), (3, (0, l3))] [] S V nc ns := by
  have E := n_E h
  refine j_iload_n E d13_25_25 rfl 2 rfl ?_
  exact j_if_lt E d13_25_26 (t := 44) rfl (fun q => j_pick [0, 1, 3] rfl (k q)) (fun q => j_pick [0, 1, 2, 3] rfl (k' q))
theorem t13_25_29 {C : qCx} {G : jG} {S : jS} {V : jH} {nc ns : Nat} {l0 l1 l2 l3 : Int} (h : x13_25 C G) (L : j_L S) (c1 : S.1 l0 = 33) (c2 : 0 ≤ l3) (c3 : l3 < 1024) (c4 : 0 ≤ l2) (c5 : l2 < 1024) (k : V (l0 + 21) l3 ≤ V (l0 + 21) l2 → j_ok n_KT 4 C G 46 [(0, (2, l0)), (1, (0, l1)), (2, (0, l2)), (3, (0, l3))] [] S V nc ns) (k' : V (l0 + 21) l2 < V (l0 + 21) l3 → j_ok n_KT 4 C G 44 [(0, (2, l0)), (1, (0, l1)), (3, (0, l3))] [] S V nc ns) : j_ok n_KT 4 C G 29 [(0, (2, l0)), (1, (0, l1)), (2, (0, l2)), (3, (0, l3))] [] S V nc ns := by
  have E := n_E h
  refine j_aload_n E d13_25_29 rfl 0 rfl ?_
  refine j_getS (f := 11) (x := l0 + 21) (fg12_32 h) d13_25_30 c1 (by decide) rfl rfl ((L12_11 L c1).trans (by omega)) ?_
  refine j_iload_n E d13_25_33 rfl 3 rfl ?_
  refine j_iald E d13_25_34 (j_arr_of (show S.1 (l0 + 21) = 12 from (by have q := L12_11k L c1; rw [show l0 + 21 = l0 + 21 by omega]; exact q)) (by decide) rfl) c2 c3 ?_
  refine j_aload_n E d13_25_35 rfl 0 rfl ?_
  refine j_getS (f := 11) (x := l0 + 21) (fg12_32 h) d13_25_36 c1 (by decide) rfl rfl ((L12_11 L c1).trans (by omega)) ?_
  refine j_iload_n E d13_25_39 rfl 2 rfl ?_
  refine j_iald E d13_25_40 (j_arr_of (show S.1 (l0 + 21) = 12 from (by have q := L12_11k L c1; rw [show l0 + 21 = l0 + 21 by omega]; exact q)) (by decide) rfl) c4 c5 ?_
  exact j_icmp_le E d13_25_41 (t := 46) rfl (fun q => j_pick [0, 1, 2, 3] rfl (k q)) (fun q => j_pick [0, 1, 3] rfl (k' q))
theorem t13_25_44 {C : qCx} {G : jG} {S : jS} {V : jH} {nc ns : Nat} {l0 l1 l3 : Int} (h : x13_25 C G)  (k : j_ok n_KT 4 C G 46 [(0, (2, l0)), (1, (0, l1)), (2, (0, l3)), (3, (0, l3))] [] S V nc ns) : j_ok n_KT 4 C G 44 [(0, (2, l0)), (1, (0, l1)), (3, (0, l3))] [] S V nc ns := by
  have E := n_E h
  refine j_iload_n E d13_25_44 rfl 2 rfl ?_
  refine j_istore_n E d13_25_45 rfl (by decide) (lo1 := [(0, (2, l0)), (1, (0, l1)), (3, (0, l3))]) rfl ?_
  exact j_pick [1, 2, 0, 3] rfl k
theorem t13_25_46 {C : qCx} {G : jG} {S : jS} {V : jH} {nc ns : Nat} {l0 l1 l2 l3 : Int} (h : x13_25 C G) (c1 : -2147483648 ≤ l3 + 1 ∧ l3 + 1 ≤ 2147483647) (k : j_ok n_KT 4 C G 13 [(0, (2, l0)), (1, (0, l1)), (2, (0, l2)), (3, (0, l3 + 1))] [] S V nc ns) : j_ok n_KT 4 C G 46 [(0, (2, l0)), (1, (0, l1)), (2, (0, l2)), (3, (0, l3))] [] S V nc ns := by
  have E := n_E h
  refine j_iinc E d13_25_46 (by decide) (by decide) 3 rfl (lo1 := [(0, (2, l0)), (1, (0, l1)), (2, (0, l2))]) rfl c1 ?_
  refine j_goto E d13_25_49 (t := 13) rfl ?_
  exact j_pick [1, 2, 3, 0] rfl k
theorem t13_25_52 {C : qCx} {G : jG} {S : jS} {V : jH} {nc ns : Nat} {l0 l1 l2 : Int} (h : x13_25 C G) (L : j_L S) (c1 : S.1 l0 = 33) (c2 : 0 ≤ l2) (c3 : l2 < 1024) (k : ¬ V (l0 + 21) l2 = 1 → j_ok n_KT 4 C G 63 [(0, (2, l0)), (1, (0, l1)), (2, (0, l2))] [] S V nc ns) (k' : V (l0 + 21) l2 = 1 → j_ok n_KT 4 C G 62 [] [] S V nc ns) : j_ok n_KT 4 C G 52 [(0, (2, l0)), (1, (0, l1)), (2, (0, l2))] [] S V nc ns := by
  have E := n_E h
  refine j_aload_n E d13_25_52 rfl 0 rfl ?_
  refine j_getS (f := 11) (x := l0 + 21) (fg12_32 h) d13_25_53 c1 (by decide) rfl rfl ((L12_11 L c1).trans (by omega)) ?_
  refine j_iload_n E d13_25_56 rfl 2 rfl ?_
  refine j_iald E d13_25_57 (j_arr_of (show S.1 (l0 + 21) = 12 from (by have q := L12_11k L c1; rw [show l0 + 21 = l0 + 21 by omega]; exact q)) (by decide) rfl) c2 c3 ?_
  refine j_iconst E d13_25_58 (by decide) ?_
  exact j_icmp_ne E d13_25_59 (t := 63) rfl (fun q => j_pick [0, 1, 2] rfl (k q)) (fun q => j_pick [] rfl (k' q))
theorem t13_25_62 {C : qCx} {G : jG} {S : jS} {V : jH} {nc ns : Nat} {mc ms : Nat} {qf : jS → jH → Prop} (h : x13_25 C G)  (R : j_Rv n_KT 4 C G b_13_25 mc ms qf) (q : qf S V) (hc : nc ≤ mc) (hs : ns ≤ ms) : j_ok n_KT 4 C G 62 [] [] S V nc ns := by
  have E := n_E h
  exact R _ _ _ _ _ _ d13_25_62 q hc hs
theorem t13_25_63 {C : qCx} {G : jG} {S : jS} {V : jH} {nc ns : Nat} {l0 l1 l2 : Int} {mc ms : Nat} {qf : jS → jH → Prop} (h : x13_25 C G) (L : j_L S) (c1 : S.1 l0 = 33) (c2 : 0 ≤ l2) (c3 : l2 < 1024) (c4 : -2147483648 ≤ (V (l0 + 21) l2) - 1 ∧ (V (l0 + 21) l2) - 1 ≤ 2147483647) (c5 : 0 ≤ l1) (c6 : l1 < 1024) (c7 : -2147483648 ≤ ((j_up V (l0 + 21) l2 ((V (l0 + 21) l2) - 1)) (l0 + 21) l1) + 1 ∧ ((j_up V (l0 + 21) l2 ((V (l0 + 21) l2) - 1)) (l0 + 21) l1) + 1 ≤ 2147483647) (R : j_Rv n_KT 4 C G b_13_25 mc ms qf) (q : qf S (j_up (j_up V (l0 + 21) l2 ((V (l0 + 21) l2) - 1)) (l0 + 21) l1 (((j_up V (l0 + 21) l2 ((V (l0 + 21) l2) - 1)) (l0 + 21) l1) + 1))) (hc : nc ≤ mc) (hs : ns ≤ ms) : j_ok n_KT 4 C G 63 [(0, (2, l0)), (1, (0, l1)), (2, (0, l2))] [] S V nc ns := by
  have E := n_E h
  refine j_aload_n E d13_25_63 rfl 0 rfl ?_
  refine j_getS (f := 11) (x := l0 + 21) (fg12_32 h) d13_25_64 c1 (by decide) rfl rfl ((L12_11 L c1).trans (by omega)) ?_
  refine j_iload_n E d13_25_67 rfl 2 rfl ?_
  refine j_dup2 E d13_25_68 rfl rfl ?_
  refine j_iald E d13_25_69 (j_arr_of (show S.1 (l0 + 21) = 12 from (by have q := L12_11k L c1; rw [show l0 + 21 = l0 + 21 by omega]; exact q)) (by decide) rfl) c2 c3 ?_
  refine j_iconst E d13_25_70 (by decide) ?_
  refine j_isub E d13_25_71 c4 ?_
  refine j_iast E d13_25_72 (j_arr_of (show S.1 (l0 + 21) = 12 from (by have q := L12_11k L c1; rw [show l0 + 21 = l0 + 21 by omega]; exact q)) (by decide) rfl) c2 c3 ?_
  refine j_aload_n E d13_25_73 rfl 0 rfl ?_
  refine j_getS (f := 11) (x := l0 + 21) (fg12_32 h) d13_25_74 c1 (by decide) rfl rfl ((L12_11 L c1).trans (by omega)) ?_
  refine j_iload_n E d13_25_77 rfl 1 rfl ?_
  refine j_dup2 E d13_25_78 rfl rfl ?_
  refine j_iald E d13_25_79 (j_arr_of (show S.1 (l0 + 21) = 12 from (by have q := L12_11k L c1; rw [show l0 + 21 = l0 + 21 by omega]; exact q)) (by decide) rfl) c5 c6 ?_
  refine j_iconst E d13_25_80 (by decide) ?_
  refine j_iadd E d13_25_81 c7 ?_
  refine j_iast E d13_25_82 (j_arr_of (show S.1 (l0 + 21) = 12 from (by have q := L12_11k L c1; rw [show l0 + 21 = l0 + 21 by omega]; exact q)) (by decide) rfl) c5 c6 ?_
  exact R _ _ _ _ _ _ d13_25_83 q hc hs
/- BalanceCoderModel.put(II)V -/
abbrev b_13_26 : ByteArray := prog_13_method_26_code
def y_13_26 : MethodName := ⟨"BalanceCoderModel", "put", "(II)V"⟩
abbrev x13_26 (C : qCx) (G : jG) : Prop := n_ctx C b_13_26 4 "BalanceCoderModel" G.1 G.2.1
def M13_26 (l : Launch) (mc ms : Nat) (p : Int → Int → Int → jS → jH → Prop) (q : Int → Int → Int → jS → jH → jS → jH → Prop) : Prop := j_Met l vwCl n_TL n_NW n_KT y_13_26 (Cond.code y_13_26 b_13_26 4 none :: n_GW) { frames := 1, cells := mc, slots := ms, locals := 26 } mc ms (fun a S V => ∃ u0 u1 u2 : Int, a = [(2, u0), (0, u1), (0, u2)] ∧ S.1 u0 = 33 ∧ p u0 u1 u2 S V) (fun a S V rs S' V' => ∃ u0 u1 u2 : Int, a = [(2, u0), (0, u1), (0, u2)] ∧ rs = [] ∧ q u0 u1 u2 S V S' V')
theorem e13_26 {l : Launch} {mc ms : Nat} {p : Int → Int → Int → jS → jH → Prop} {q : Int → Int → Int → jS → jH → jS → jH → Prop} (body : ∀ (C : qCx) (G : jG), x13_26 C G → C.2.2.2.1.frames = 1 ∧ C.2.2.2.1.locals = 26 → C.2.2.2.1.cells = mc ∧ C.2.2.2.1.slots = ms → C.2.1 = l → C.2.2.2.2.2.2.2.2.1.name = "put" → ∀ (u0 u1 u2 : Int) (S : jS) (V : jH), S.1 u0 = 33 → p u0 u1 u2 S V → j_Rv n_KT 4 C G b_13_26 mc ms (q u0 u1 u2 S V) → j_ok n_KT 4 C G 0 [(0, (2, u0)), (1, (0, u1)), (2, (0, u2))] [] S V 0 0) : M13_26 l mc ms p q := by
  refine j_method (ws' := n_GW) (by decide) rfl ?_ ?_
  · rintro a S V ⟨u0, u1, u2, rfl, -⟩
    exact Nat.le_of_ble_eq_true rfl
  · rintro C G htl hl hrm hm hml ho hts hnm hE a S V ⟨u0, u1, u2, rfl, ht, hp⟩ R
    exact body C G ⟨htl, hm, hml, ho, fun w hw => hts w (List.mem_cons_of_mem _ hw), hE⟩ (by rw [hrm]; exact ⟨rfl, rfl⟩) (by rw [hrm]; exact ⟨rfl, rfl⟩) hl hnm u0 u1 u2 S V ht hp (fun pc lo S' V' nc ns d q hc hs => R.1 rfl pc lo S' V' nc ns d ⟨u0, u1, u2, rfl, rfl, q⟩ hc hs)
theorem d13_26_0 : decode b_13_26 0 = .ok (.iload_n 2, 1) := by decide +kernel
theorem d13_26_1 : decode b_13_26 1 = .ok (.iconst 1, 1) := by decide +kernel
theorem d13_26_2 : decode b_13_26 2 = .ok (.isub, 1) := by decide +kernel
theorem d13_26_3 : decode b_13_26 3 = .ok (.istore_n 3, 1) := by decide +kernel
theorem d13_26_4 : decode b_13_26 4 = .ok (.iload_n 3, 1) := by decide +kernel
theorem d13_26_5 : decode b_13_26 5 = .ok (.ifCond .lt 38, 3) := by decide +kernel
theorem d13_26_8 : decode b_13_26 8 = .ok (.aload_n 0, 1) := by decide +kernel
theorem d13_26_9 : decode b_13_26 9 = .ok (.getfield 48, 3) := by decide +kernel
theorem d13_26_12 : decode b_13_26 12 = .ok (.aload_n 0, 1) := by decide +kernel
theorem d13_26_13 : decode b_13_26 13 = .ok (.getfield 161, 3) := by decide +kernel
theorem d13_26_16 : decode b_13_26 16 = .ok (.iload_n 1, 1) := by decide +kernel
theorem d13_26_17 : decode b_13_26 17 = .ok (.bipush 8, 2) := by decide +kernel
theorem d13_26_19 : decode b_13_26 19 = .ok (.iload_n 3, 1) := by decide +kernel
theorem d13_26_20 : decode b_13_26 20 = .ok (.imul, 1) := by decide +kernel
theorem d13_26_21 : decode b_13_26 21 = .ok (.ishr, 1) := by decide +kernel
theorem d13_26_22 : decode b_13_26 22 = .ok (.sipush 255, 3) := by decide +kernel
theorem d13_26_25 : decode b_13_26 25 = .ok (.iand, 1) := by decide +kernel
theorem d13_26_26 : decode b_13_26 26 = .ok (.iastore, 1) := by decide +kernel
theorem d13_26_27 : decode b_13_26 27 = .ok (.aload_n 0, 1) := by decide +kernel
theorem d13_26_28 : decode b_13_26 28 = .ok (.dup, 1) := by decide +kernel
theorem d13_26_29 : decode b_13_26 29 = .ok (.getfield 161, 3) := by decide +kernel
theorem d13_26_32 : decode b_13_26 32 = .ok (.iconst 1, 1) := by decide +kernel
theorem d13_26_33 : decode b_13_26 33 = .ok (.iadd, 1) := by decide +kernel
theorem d13_26_34 : decode b_13_26 34 = .ok (.putfield 161, 3) := by decide +kernel
theorem d13_26_37 : decode b_13_26 37 = .ok (.iinc 3 (-1), 3) := by decide +kernel
theorem d13_26_40 : decode b_13_26 40 = .ok (.goto (-36), 3) := by decide +kernel
theorem d13_26_43 : decode b_13_26 43 = .ok (.return_, 1) := by decide +kernel
theorem t13_26_0 {C : qCx} {G : jG} {S : jS} {V : jH} {nc ns : Nat} {l0 l1 l2 : Int} (h : x13_26 C G) (c1 : -2147483648 ≤ l2 - 1 ∧ l2 - 1 ≤ 2147483647) (k : j_ok n_KT 4 C G 4 [(0, (2, l0)), (1, (0, l1)), (3, (0, l2 - 1))] [] S V nc ns) : j_ok n_KT 4 C G 0 [(0, (2, l0)), (1, (0, l1)), (2, (0, l2))] [] S V nc ns := by
  have E := n_E h
  refine j_iload_n E d13_26_0 rfl 2 rfl ?_
  refine j_iconst E d13_26_1 (by decide) ?_
  refine j_isub E d13_26_2 c1 ?_
  refine j_istore_n E d13_26_3 rfl (by decide) (lo1 := [(0, (2, l0)), (1, (0, l1)), (2, (0, l2))]) rfl ?_
  exact j_pick [1, 2, 0] rfl k
theorem t13_26_4 {C : qCx} {G : jG} {S : jS} {V : jH} {nc ns : Nat} {l0 l1 l3 : Int} (h : x13_26 C G)  (k : l3 < 0 → j_ok n_KT 4 C G 43 [] [] S V nc ns) (k' : 0 ≤ l3 → j_ok n_KT 4 C G 8 [(0, (2, l0)), (1, (0, l1)), (3, (0, l3))] [] S V nc ns) : j_ok n_KT 4 C G 4 [(0, (2, l0)), (1, (0, l1)), (3, (0, l3))] [] S V nc ns := by
  have E := n_E h
  refine j_iload_n E d13_26_4 rfl 2 rfl ?_
  exact j_if_lt E d13_26_5 (t := 43) rfl (fun q => j_pick [] rfl (k q)) (fun q => j_pick [0, 1, 2] rfl (k' q))
theorem t13_26_8 {C : qCx} {G : jG} {S : jS} {V : jH} {nc ns : Nat} {l0 l1 l3 : Int} (h : x13_26 C G) (L : j_L S) (c1 : S.1 l0 = 33) (c2 : -2147483648 ≤ 8 * l3 ∧ 8 * l3 ≤ 2147483647) (c3 : 0 ≤ 8 * l3) (c4 : 8 * l3 ≤ 31) (c5 : 0 ≤ l1) (c6 : 0 ≤ V l0 20) (c7 : V l0 20 < 4500) (c8 : -2147483648 ≤ (V l0 20) + 1 ∧ (V l0 20) + 1 ≤ 2147483647) (c9 : -2147483648 ≤ l3 + (-1) ∧ l3 + (-1) ≤ 2147483647) (k : j_ok n_KT 4 C G 4 [(0, (2, l0)), (1, (0, l1)), (3, (0, l3 + (-1)))] [] S (j_up (j_up V (l0 + 26) (V l0 20) ((l1 / 2 ^ (8 * l3).toNat) % 256)) l0 20 ((V l0 20) + 1)) nc ns) : j_ok n_KT 4 C G 8 [(0, (2, l0)), (1, (0, l1)), (3, (0, l3))] [] S V nc ns := by
  have E := n_E h
  refine j_aload_n E d13_26_8 rfl 0 rfl ?_
  refine j_getS (f := 19) (x := l0 + 26) (fg12_48 h) d13_26_9 c1 (by decide) rfl rfl ((L12_19 L c1).trans (by omega)) ?_
  refine j_aload_n E d13_26_12 rfl 0 rfl ?_
  refine j_getI (f := 20) (fg12_161 h) d13_26_13 c1 (by decide) rfl rfl ?_
  refine j_iload_n E d13_26_16 rfl 1 rfl ?_
  refine j_bipush E d13_26_17 (by decide) ?_
  refine j_iload_n E d13_26_19 rfl 2 rfl ?_
  refine j_imul E d13_26_20 c2 ?_
  refine j_ishr E d13_26_21 c5 c3 c4 ?_
  refine j_sipush E d13_26_22 (by decide) ?_
  refine j_iand255 E d13_26_25 rfl ?_
  refine j_iast E d13_26_26 (j_arr_of (show S.1 (l0 + 26) = 14 from (by have q := L12_19k L c1; rw [show l0 + 26 = l0 + 26 by omega]; exact q)) (by decide) rfl) c6 c7 ?_
  refine j_aload_n E d13_26_27 rfl 0 rfl ?_
  refine j_dup E d13_26_28 rfl ?_
  refine j_getI (f := 20) (fg12_161 h) d13_26_29 c1 (by decide) rfl rfl ?_
  refine j_eqT (show (j_up V (l0 + 26) (V l0 20) ((l1 / 2 ^ (8 * l3).toNat) % 256)) l0 20 = V l0 20 from (congrFun (j_up_ne (by omega)) _)) ?_
  refine j_iconst E d13_26_32 (by decide) ?_
  refine j_iadd E d13_26_33 c8 ?_
  refine j_putI (f := 20) (fp12_161 h) (n_hap h 33 12 0 _ rfl) d13_26_34 c1 (by decide) rfl rfl rfl ?_
  refine j_iinc E d13_26_37 (by decide) (by decide) 2 rfl (lo1 := [(0, (2, l0)), (1, (0, l1))]) rfl c9 ?_
  refine j_goto E d13_26_40 (t := 4) rfl ?_
  exact j_pick [1, 2, 0] rfl k
theorem t13_26_43 {C : qCx} {G : jG} {S : jS} {V : jH} {nc ns : Nat} {mc ms : Nat} {qf : jS → jH → Prop} (h : x13_26 C G)  (R : j_Rv n_KT 4 C G b_13_26 mc ms qf) (q : qf S V) (hc : nc ≤ mc) (hs : ns ≤ ms) : j_ok n_KT 4 C G 43 [] [] S V nc ns := by
  have E := n_E h
  exact R _ _ _ _ _ _ d13_26_43 q hc hs
/- BalanceCoderModel.putDeal(I)V -/
abbrev b_13_28 : ByteArray := prog_13_method_28_code
def y_13_28 : MethodName := ⟨"BalanceCoderModel", "putDeal", "(I)V"⟩
abbrev x13_28 (C : qCx) (G : jG) : Prop := n_ctx C b_13_28 4 "BalanceCoderModel" G.1 G.2.1
def M13_28 (l : Launch) (mc ms : Nat) (p : Int → Int → jS → jH → Prop) (q : Int → Int → jS → jH → jS → jH → Prop) : Prop := j_Met l vwCl n_TL n_NW n_KT y_13_28 (Cond.code y_13_28 b_13_28 4 none :: n_GW) { frames := 2, cells := mc, slots := ms, locals := 49 } mc ms (fun a S V => ∃ u0 u1 : Int, a = [(2, u0), (0, u1)] ∧ S.1 u0 = 33 ∧ p u0 u1 S V) (fun a S V rs S' V' => ∃ u0 u1 : Int, a = [(2, u0), (0, u1)] ∧ rs = [] ∧ q u0 u1 S V S' V')
theorem e13_28 {l : Launch} {mc ms : Nat} {p : Int → Int → jS → jH → Prop} {q : Int → Int → jS → jH → jS → jH → Prop} (body : ∀ (C : qCx) (G : jG), x13_28 C G → C.2.2.2.1.frames = 2 ∧ C.2.2.2.1.locals = 49 → C.2.2.2.1.cells = mc ∧ C.2.2.2.1.slots = ms → C.2.1 = l → C.2.2.2.2.2.2.2.2.1.name = "putDeal" → ∀ (u0 u1 : Int) (S : jS) (V : jH), S.1 u0 = 33 → p u0 u1 S V → j_Rv n_KT 4 C G b_13_28 mc ms (q u0 u1 S V) → j_ok n_KT 4 C G 0 [(0, (2, u0)), (1, (0, u1))] [] S V 0 0) : M13_28 l mc ms p q := by
  refine j_method (ws' := n_GW) (by decide) rfl ?_ ?_
  · rintro a S V ⟨u0, u1, rfl, -⟩
    exact Nat.le_of_ble_eq_true rfl
  · rintro C G htl hl hrm hm hml ho hts hnm hE a S V ⟨u0, u1, rfl, ht, hp⟩ R
    exact body C G ⟨htl, hm, hml, ho, fun w hw => hts w (List.mem_cons_of_mem _ hw), hE⟩ (by rw [hrm]; exact ⟨rfl, rfl⟩) (by rw [hrm]; exact ⟨rfl, rfl⟩) hl hnm u0 u1 S V ht hp (fun pc lo S' V' nc ns d q hc hs => R.1 rfl pc lo S' V' nc ns d ⟨u0, u1, rfl, rfl, q⟩ hc hs)
theorem d13_28_0 : decode b_13_28 0 = .ok (.iconst 0, 1) := by decide +kernel
theorem d13_28_1 : decode b_13_28 1 = .ok (.istore_n 2, 1) := by decide +kernel
theorem d13_28_2 : decode b_13_28 2 = .ok (.iconst 0, 1) := by decide +kernel
theorem d13_28_3 : decode b_13_28 3 = .ok (.istore_n 3, 1) := by decide +kernel
theorem d13_28_4 : decode b_13_28 4 = .ok (.iload_n 3, 1) := by decide +kernel
theorem d13_28_5 : decode b_13_28 5 = .ok (.sipush 256, 3) := by decide +kernel
theorem d13_28_8 : decode b_13_28 8 = .ok (.if_icmp .ge 32, 3) := by decide +kernel
theorem d13_28_11 : decode b_13_28 11 = .ok (.iload_n 2, 1) := by decide +kernel
theorem d13_28_12 : decode b_13_28 12 = .ok (.aload_n 0, 1) := by decide +kernel
theorem d13_28_13 : decode b_13_28 13 = .ok (.getfield 51, 3) := by decide +kernel
theorem d13_28_16 : decode b_13_28 16 = .ok (.sipush 256, 3) := by decide +kernel
theorem d13_28_19 : decode b_13_28 19 = .ok (.iload_n 1, 1) := by decide +kernel
theorem d13_28_20 : decode b_13_28 20 = .ok (.imul, 1) := by decide +kernel
theorem d13_28_21 : decode b_13_28 21 = .ok (.iload_n 3, 1) := by decide +kernel
theorem d13_28_22 : decode b_13_28 22 = .ok (.iadd, 1) := by decide +kernel
theorem d13_28_23 : decode b_13_28 23 = .ok (.iaload, 1) := by decide +kernel
theorem d13_28_24 : decode b_13_28 24 = .ok (.ifCond .le 7, 3) := by decide +kernel
theorem d13_28_27 : decode b_13_28 27 = .ok (.iconst 1, 1) := by decide +kernel
theorem d13_28_28 : decode b_13_28 28 = .ok (.goto 4, 3) := by decide +kernel
theorem d13_28_31 : decode b_13_28 31 = .ok (.iconst 0, 1) := by decide +kernel
theorem d13_28_32 : decode b_13_28 32 = .ok (.iadd, 1) := by decide +kernel
theorem d13_28_33 : decode b_13_28 33 = .ok (.istore_n 2, 1) := by decide +kernel
theorem d13_28_34 : decode b_13_28 34 = .ok (.iinc 3 1, 3) := by decide +kernel
theorem d13_28_37 : decode b_13_28 37 = .ok (.goto (-33), 3) := by decide +kernel
theorem d13_28_40 : decode b_13_28 40 = .ok (.aload_n 0, 1) := by decide +kernel
theorem d13_28_41 : decode b_13_28 41 = .ok (.iload_n 2, 1) := by decide +kernel
theorem d13_28_42 : decode b_13_28 42 = .ok (.iconst 2, 1) := by decide +kernel
theorem d13_28_43 : decode b_13_28 43 = .ok (.invokevirtual 179, 3) := by decide +kernel
theorem d13_28_46 : decode b_13_28 46 = .ok (.iconst 0, 1) := by decide +kernel
theorem d13_28_47 : decode b_13_28 47 = .ok (.istore_n 3, 1) := by decide +kernel
theorem d13_28_48 : decode b_13_28 48 = .ok (.iload_n 3, 1) := by decide +kernel
theorem d13_28_49 : decode b_13_28 49 = .ok (.sipush 256, 3) := by decide +kernel
theorem d13_28_52 : decode b_13_28 52 = .ok (.if_icmp .ge 52, 3) := by decide +kernel
theorem d13_28_55 : decode b_13_28 55 = .ok (.aload_n 0, 1) := by decide +kernel
theorem d13_28_56 : decode b_13_28 56 = .ok (.getfield 51, 3) := by decide +kernel
theorem d13_28_59 : decode b_13_28 59 = .ok (.sipush 256, 3) := by decide +kernel
theorem d13_28_62 : decode b_13_28 62 = .ok (.iload_n 1, 1) := by decide +kernel
theorem d13_28_63 : decode b_13_28 63 = .ok (.imul, 1) := by decide +kernel
theorem d13_28_64 : decode b_13_28 64 = .ok (.iload_n 3, 1) := by decide +kernel
theorem d13_28_65 : decode b_13_28 65 = .ok (.iadd, 1) := by decide +kernel
theorem d13_28_66 : decode b_13_28 66 = .ok (.iaload, 1) := by decide +kernel
theorem d13_28_67 : decode b_13_28 67 = .ok (.ifCond .ne 6, 3) := by decide +kernel
theorem d13_28_70 : decode b_13_28 70 = .ok (.goto 28, 3) := by decide +kernel
theorem d13_28_73 : decode b_13_28 73 = .ok (.aload_n 0, 1) := by decide +kernel
theorem d13_28_74 : decode b_13_28 74 = .ok (.iload_n 3, 1) := by decide +kernel
theorem d13_28_75 : decode b_13_28 75 = .ok (.iconst 1, 1) := by decide +kernel
theorem d13_28_76 : decode b_13_28 76 = .ok (.invokevirtual 179, 3) := by decide +kernel
theorem d13_28_79 : decode b_13_28 79 = .ok (.aload_n 0, 1) := by decide +kernel
theorem d13_28_80 : decode b_13_28 80 = .ok (.aload_n 0, 1) := by decide +kernel
theorem d13_28_81 : decode b_13_28 81 = .ok (.getfield 51, 3) := by decide +kernel
theorem d13_28_84 : decode b_13_28 84 = .ok (.sipush 256, 3) := by decide +kernel
theorem d13_28_87 : decode b_13_28 87 = .ok (.iload_n 1, 1) := by decide +kernel
theorem d13_28_88 : decode b_13_28 88 = .ok (.imul, 1) := by decide +kernel
theorem d13_28_89 : decode b_13_28 89 = .ok (.iload_n 3, 1) := by decide +kernel
theorem d13_28_90 : decode b_13_28 90 = .ok (.iadd, 1) := by decide +kernel
theorem d13_28_91 : decode b_13_28 91 = .ok (.iaload, 1) := by decide +kernel
theorem d13_28_92 : decode b_13_28 92 = .ok (.iconst 1, 1) := by decide +kernel
theorem d13_28_93 : decode b_13_28 93 = .ok (.isub, 1) := by decide +kernel
theorem d13_28_94 : decode b_13_28 94 = .ok (.iconst 2, 1) := by decide +kernel
theorem d13_28_95 : decode b_13_28 95 = .ok (.invokevirtual 179, 3) := by decide +kernel
theorem d13_28_98 : decode b_13_28 98 = .ok (.iinc 3 1, 3) := by decide +kernel
theorem d13_28_101 : decode b_13_28 101 = .ok (.goto (-53), 3) := by decide +kernel
theorem d13_28_104 : decode b_13_28 104 = .ok (.return_, 1) := by decide +kernel
theorem K13_28_43 {C : qCx} {G : jG} {mc ms : Nat} {p : Int → Int → Int → jS → jH → Prop} {q : Int → Int → Int → jS → jH → jS → jH → Prop} (h : x13_28 C G) (hrm : C.2.2.2.1.frames = 2 ∧ C.2.2.2.1.locals = 49) (hM : M13_26 C.2.1 mc ms p q) : j_Call C b_13_28 n_KT G.1 G.2.1 4 (.invokevirtual 179) mc ms (fun a S V => ∃ u0 u1 u2 : Int, a = [(2, u0), (0, u1), (0, u2)] ∧ S.1 u0 = 33 ∧ p u0 u1 u2 S V) (fun a S V rs S' V' => ∃ u0 u1 u2 : Int, a = [(2, u0), (0, u1), (0, u2)] ∧ rs = [] ∧ q u0 u1 u2 S V S' V') := j_callV n_NWk h.2.2.2.2.2 h.1 hM ⟨h.2.1.1, h.2.1.2, h.2.2.1, h.2.2.2.1, h.2.2.2.2.1⟩ ⟨n_CB (y := y_13_26) (bytes := b_13_26) 2 h.2.2.2.2.1 n_w1030 n_w1027 n_w12 ⟨by decide, by decide, by decide +kernel⟩ rfl rfl ⟨by rw [hrm.1]; exact Nat.le_of_ble_eq_true rfl, by rw [hrm.2]; exact Nat.le_of_ble_eq_true rfl⟩, h.2.2.2.2.1 _ n_w1029, h.2.2.2.2.1 _ n_s40⟩ (Cn := RX12) (fun a S V hP => by obtain ⟨u0, u1, u2, rfl, e, -⟩ := hP; exact ⟨u0, _, 12, _, _, TX12, 31, rfl, rfl, by rw [e]; decide, by rw [e]; rfl, rfl⟩)
theorem K13_28_76 {C : qCx} {G : jG} {mc ms : Nat} {p : Int → Int → Int → jS → jH → Prop} {q : Int → Int → Int → jS → jH → jS → jH → Prop} (h : x13_28 C G) (hrm : C.2.2.2.1.frames = 2 ∧ C.2.2.2.1.locals = 49) (hM : M13_26 C.2.1 mc ms p q) : j_Call C b_13_28 n_KT G.1 G.2.1 4 (.invokevirtual 179) mc ms (fun a S V => ∃ u0 u1 u2 : Int, a = [(2, u0), (0, u1), (0, u2)] ∧ S.1 u0 = 33 ∧ p u0 u1 u2 S V) (fun a S V rs S' V' => ∃ u0 u1 u2 : Int, a = [(2, u0), (0, u1), (0, u2)] ∧ rs = [] ∧ q u0 u1 u2 S V S' V') := j_callV n_NWk h.2.2.2.2.2 h.1 hM ⟨h.2.1.1, h.2.1.2, h.2.2.1, h.2.2.2.1, h.2.2.2.2.1⟩ ⟨n_CB (y := y_13_26) (bytes := b_13_26) 2 h.2.2.2.2.1 n_w1030 n_w1027 n_w12 ⟨by decide, by decide, by decide +kernel⟩ rfl rfl ⟨by rw [hrm.1]; exact Nat.le_of_ble_eq_true rfl, by rw [hrm.2]; exact Nat.le_of_ble_eq_true rfl⟩, h.2.2.2.2.1 _ n_w1029, h.2.2.2.2.1 _ n_s40⟩ (Cn := RX12) (fun a S V hP => by obtain ⟨u0, u1, u2, rfl, e, -⟩ := hP; exact ⟨u0, _, 12, _, _, TX12, 31, rfl, rfl, by rw [e]; decide, by rw [e]; rfl, rfl⟩)
theorem K13_28_95 {C : qCx} {G : jG} {mc ms : Nat} {p : Int → Int → Int → jS → jH → Prop} {q : Int → Int → Int → jS → jH → jS → jH → Prop} (h : x13_28 C G) (hrm : C.2.2.2.1.frames = 2 ∧ C.2.2.2.1.locals = 49) (hM : M13_26 C.2.1 mc ms p q) : j_Call C b_13_28 n_KT G.1 G.2.1 4 (.invokevirtual 179) mc ms (fun a S V => ∃ u0 u1 u2 : Int, a = [(2, u0), (0, u1), (0, u2)] ∧ S.1 u0 = 33 ∧ p u0 u1 u2 S V) (fun a S V rs S' V' => ∃ u0 u1 u2 : Int, a = [(2, u0), (0, u1), (0, u2)] ∧ rs = [] ∧ q u0 u1 u2 S V S' V') := j_callV n_NWk h.2.2.2.2.2 h.1 hM ⟨h.2.1.1, h.2.1.2, h.2.2.1, h.2.2.2.1, h.2.2.2.2.1⟩ ⟨n_CB (y := y_13_26) (bytes := b_13_26) 2 h.2.2.2.2.1 n_w1030 n_w1027 n_w12 ⟨by decide, by decide, by decide +kernel⟩ rfl rfl ⟨by rw [hrm.1]; exact Nat.le_of_ble_eq_true rfl, by rw [hrm.2]; exact Nat.le_of_ble_eq_true rfl⟩, h.2.2.2.2.1 _ n_w1029, h.2.2.2.2.1 _ n_s40⟩ (Cn := RX12) (fun a S V hP => by obtain ⟨u0, u1, u2, rfl, e, -⟩ := hP; exact ⟨u0, _, 12, _, _, TX12, 31, rfl, rfl, by rw [e]; decide, by rw [e]; rfl, rfl⟩)
theorem t13_28_0 {C : qCx} {G : jG} {S : jS} {V : jH} {nc ns : Nat} {l0 l1 : Int} (h : x13_28 C G)  (k : j_ok n_KT 4 C G 4 [(0, (2, l0)), (1, (0, l1)), (2, (0, 0)), (3, (0, 0))] [] S V nc ns) : j_ok n_KT 4 C G 0 [(0, (2, l0)), (1, (0, l1))] [] S V nc ns := by
  have E := n_E h
  refine j_iconst E d13_28_0 (by decide) ?_
  refine j_istore_n E d13_28_1 rfl (by decide) (lo1 := [(0, (2, l0)), (1, (0, l1))]) rfl ?_
  refine j_iconst E d13_28_2 (by decide) ?_
  refine j_istore_n E d13_28_3 rfl (by decide) (lo1 := [(2, (0, 0)), (0, (2, l0)), (1, (0, l1))]) rfl ?_
  exact j_pick [2, 3, 1, 0] rfl k
theorem t13_28_4 {C : qCx} {G : jG} {S : jS} {V : jH} {nc ns : Nat} {l0 l1 l2 l3 : Int} (h : x13_28 C G)  (k : 256 ≤ l3 → j_ok n_KT 4 C G 40 [(0, (2, l0)), (1, (0, l1)), (2, (0, l2))] [] S V nc ns) (k' : l3 < 256 → j_ok n_KT 4 C G 11 [(0, (2, l0)), (1, (0, l1)), (2, (0, l2)), (3, (0, l3))] [] S V nc ns) : j_ok n_KT 4 C G 4 [(0, (2, l0)), (1, (0, l1)), (2, (0, l2)), (3, (0, l3))] [] S V nc ns := by
  have E := n_E h
  refine j_iload_n E d13_28_4 rfl 3 rfl ?_
  refine j_sipush E d13_28_5 (by decide) ?_
  exact j_icmp_ge E d13_28_8 (t := 40) rfl (fun q => j_pick [0, 1, 2] rfl (k q)) (fun q => j_pick [0, 1, 2, 3] rfl (k' q))
theorem t13_28_11 {C : qCx} {G : jG} {S : jS} {V : jH} {nc ns : Nat} {l0 l1 l2 l3 : Int} (h : x13_28 C G) (L : j_L S) (c1 : S.1 l0 = 33) (c2 : -2147483648 ≤ 256 * l1 ∧ 256 * l1 ≤ 2147483647) (c3 : -2147483648 ≤ (256 * l1) + l3 ∧ (256 * l1) + l3 ≤ 2147483647) (c4 : 0 ≤ (256 * l1) + l3) (c5 : (256 * l1) + l3 < 1024) (k : V (l0 + 27) ((256 * l1) + l3) ≤ 0 → j_ok n_KT 4 C G 31 [(0, (2, l0)), (1, (0, l1)), (3, (0, l3))] [(0, l2)] S V nc ns) (k' : 0 < V (l0 + 27) ((256 * l1) + l3) → j_ok n_KT 4 C G 27 [(0, (2, l0)), (1, (0, l1)), (3, (0, l3))] [(0, l2)] S V nc ns) : j_ok n_KT 4 C G 11 [(0, (2, l0)), (1, (0, l1)), (2, (0, l2)), (3, (0, l3))] [] S V nc ns := by
  have E := n_E h
  refine j_iload_n E d13_28_11 rfl 2 rfl ?_
  refine j_aload_n E d13_28_12 rfl 0 rfl ?_
  refine j_getS (f := 21) (x := l0 + 27) (fg12_51 h) d13_28_13 c1 (by decide) rfl rfl ((L12_21 L c1).trans (by omega)) ?_
  refine j_sipush E d13_28_16 (by decide) ?_
  refine j_iload_n E d13_28_19 rfl 1 rfl ?_
  refine j_imul E d13_28_20 c2 ?_
  refine j_iload_n E d13_28_21 rfl 3 rfl ?_
  refine j_iadd E d13_28_22 c3 ?_
  refine j_iald E d13_28_23 (j_arr_of (show S.1 (l0 + 27) = 12 from (by have q := L12_21k L c1; rw [show l0 + 27 = l0 + 27 by omega]; exact q)) (by decide) rfl) c4 c5 ?_
  exact j_if_le E d13_28_24 (t := 31) rfl (fun q => j_pick [0, 1, 3] rfl (k q)) (fun q => j_pick [0, 1, 3] rfl (k' q))
theorem t13_28_27 {C : qCx} {G : jG} {S : jS} {V : jH} {nc ns : Nat} {l0 l1 l3 s0 : Int} (h : x13_28 C G)  (k : j_ok n_KT 4 C G 32 [(0, (2, l0)), (1, (0, l1)), (3, (0, l3))] [(0, 1), (0, s0)] S V nc ns) : j_ok n_KT 4 C G 27 [(0, (2, l0)), (1, (0, l1)), (3, (0, l3))] [(0, s0)] S V nc ns := by
  have E := n_E h
  refine j_iconst E d13_28_27 (by decide) ?_
  refine j_goto E d13_28_28 (t := 32) rfl ?_
  exact j_pick [0, 1, 2] rfl k
theorem t13_28_31 {C : qCx} {G : jG} {S : jS} {V : jH} {nc ns : Nat} {l0 l1 l3 s0 : Int} (h : x13_28 C G)  (k : j_ok n_KT 4 C G 32 [(0, (2, l0)), (1, (0, l1)), (3, (0, l3))] [(0, 0), (0, s0)] S V nc ns) : j_ok n_KT 4 C G 31 [(0, (2, l0)), (1, (0, l1)), (3, (0, l3))] [(0, s0)] S V nc ns := by
  have E := n_E h
  refine j_iconst E d13_28_31 (by decide) ?_
  exact j_pick [0, 1, 2] rfl k
theorem t13_28_32 {C : qCx} {G : jG} {S : jS} {V : jH} {nc ns : Nat} {l0 l1 l3 s0 s1 : Int} (h : x13_28 C G) (c1 : -2147483648 ≤ s1 + s0 ∧ s1 + s0 ≤ 2147483647) (c2 : -2147483648 ≤ l3 + 1 ∧ l3 + 1 ≤ 2147483647) (k : j_ok n_KT 4 C G 4 [(0, (2, l0)), (1, (0, l1)), (2, (0, s1 + s0)), (3, (0, l3 + 1))] [] S V nc ns) : j_ok n_KT 4 C G 32 [(0, (2, l0)), (1, (0, l1)), (3, (0, l3))] [(0, s0), (0, s1)] S V nc ns := by
  have E := n_E h
  refine j_iadd E d13_28_32 c1 ?_
  refine j_istore_n E d13_28_33 rfl (by decide) (lo1 := [(0, (2, l0)), (1, (0, l1)), (3, (0, l3))]) rfl ?_
  refine j_iinc E d13_28_34 (by decide) (by decide) 3 rfl (lo1 := [(2, (0, s1 + s0)), (0, (2, l0)), (1, (0, l1))]) rfl c2 ?_
  refine j_goto E d13_28_37 (t := 4) rfl ?_
  exact j_pick [2, 3, 1, 0] rfl k
theorem t13_28_40 {C : qCx} {G : jG} {S : jS} {V : jH} {nc ns : Nat} {l0 l1 l2 : Int} {mc ms : Nat} {pp : Int → Int → Int → jS → jH → Prop} {qq : Int → Int → Int → jS → jH → jS → jH → Prop} (h : x13_28 C G) (hrm : C.2.2.2.1.frames = 2 ∧ C.2.2.2.1.locals = 49) (c1 : S.1 l0 = 33) (hM : M13_26 C.2.1 mc ms pp qq) (hp : pp l0 l2 2 S V) (hc : nc + mc ≤ C.2.2.2.1.cells) (hs : ns + ms ≤ C.2.2.2.1.slots) (k : ∀ (S' : jS) (V' : jH), qq l0 l2 2 S V S' V' → j_ok n_KT 4 C G 46 [(0, (2, l0)), (1, (0, l1))] [] S' V' (nc + mc) (ns + ms)) : j_ok n_KT 4 C G 40 [(0, (2, l0)), (1, (0, l1)), (2, (0, l2))] [] S V nc ns := by
  have E := n_E h
  refine j_aload_n E d13_28_40 rfl 0 rfl ?_
  refine j_iload_n E d13_28_41 rfl 2 rfl ?_
  refine j_iconst E d13_28_42 (by decide) ?_
  refine j_call E (K13_28_43 h hrm hM) d13_28_43 (a := [(2, l0), (0, l2), (0, 2)]) (sk := []) rfl ⟨l0, l2, 2, rfl, c1, hp⟩ (Nat.le_of_ble_eq_true rfl) hc hs ?_
  rintro rs S' V' ⟨z0, z1, z2, e1, rfl, q⟩
  simp only [List.cons.injEq, Prod.mk.injEq, and_true, true_and] at e1
  obtain ⟨rfl, rfl, rfl⟩ := e1
  exact j_pick [0, 1] rfl (k S' V' q)
theorem t13_28_46 {C : qCx} {G : jG} {S : jS} {V : jH} {nc ns : Nat} {l0 l1 : Int} (h : x13_28 C G)  (k : j_ok n_KT 4 C G 48 [(0, (2, l0)), (1, (0, l1)), (3, (0, 0))] [] S V nc ns) : j_ok n_KT 4 C G 46 [(0, (2, l0)), (1, (0, l1))] [] S V nc ns := by
  have E := n_E h
  refine j_iconst E d13_28_46 (by decide) ?_
  refine j_istore_n E d13_28_47 rfl (by decide) (lo1 := [(0, (2, l0)), (1, (0, l1))]) rfl ?_
  exact j_pick [1, 2, 0] rfl k
theorem t13_28_48 {C : qCx} {G : jG} {S : jS} {V : jH} {nc ns : Nat} {l0 l1 l3 : Int} (h : x13_28 C G)  (k : 256 ≤ l3 → j_ok n_KT 4 C G 104 [] [] S V nc ns) (k' : l3 < 256 → j_ok n_KT 4 C G 55 [(0, (2, l0)), (1, (0, l1)), (3, (0, l3))] [] S V nc ns) : j_ok n_KT 4 C G 48 [(0, (2, l0)), (1, (0, l1)), (3, (0, l3))] [] S V nc ns := by
  have E := n_E h
  refine j_iload_n E d13_28_48 rfl 2 rfl ?_
  refine j_sipush E d13_28_49 (by decide) ?_
  exact j_icmp_ge E d13_28_52 (t := 104) rfl (fun q => j_pick [] rfl (k q)) (fun q => j_pick [0, 1, 2] rfl (k' q))
theorem t13_28_55 {C : qCx} {G : jG} {S : jS} {V : jH} {nc ns : Nat} {l0 l1 l3 : Int} (h : x13_28 C G) (L : j_L S) (c1 : S.1 l0 = 33) (c2 : -2147483648 ≤ 256 * l1 ∧ 256 * l1 ≤ 2147483647) (c3 : -2147483648 ≤ (256 * l1) + l3 ∧ (256 * l1) + l3 ≤ 2147483647) (c4 : 0 ≤ (256 * l1) + l3) (c5 : (256 * l1) + l3 < 1024) (k : ¬ V (l0 + 27) ((256 * l1) + l3) = 0 → j_ok n_KT 4 C G 73 [(0, (2, l0)), (1, (0, l1)), (3, (0, l3))] [] S V nc ns) (k' : V (l0 + 27) ((256 * l1) + l3) = 0 → j_ok n_KT 4 C G 70 [(0, (2, l0)), (1, (0, l1)), (3, (0, l3))] [] S V nc ns) : j_ok n_KT 4 C G 55 [(0, (2, l0)), (1, (0, l1)), (3, (0, l3))] [] S V nc ns := by
  have E := n_E h
  refine j_aload_n E d13_28_55 rfl 0 rfl ?_
  refine j_getS (f := 21) (x := l0 + 27) (fg12_51 h) d13_28_56 c1 (by decide) rfl rfl ((L12_21 L c1).trans (by omega)) ?_
  refine j_sipush E d13_28_59 (by decide) ?_
  refine j_iload_n E d13_28_62 rfl 1 rfl ?_
  refine j_imul E d13_28_63 c2 ?_
  refine j_iload_n E d13_28_64 rfl 2 rfl ?_
  refine j_iadd E d13_28_65 c3 ?_
  refine j_iald E d13_28_66 (j_arr_of (show S.1 (l0 + 27) = 12 from (by have q := L12_21k L c1; rw [show l0 + 27 = l0 + 27 by omega]; exact q)) (by decide) rfl) c4 c5 ?_
  exact j_if_ne E d13_28_67 (t := 73) rfl (fun q => j_pick [0, 1, 2] rfl (k q)) (fun q => j_pick [0, 1, 2] rfl (k' q))
theorem t13_28_70 {C : qCx} {G : jG} {S : jS} {V : jH} {nc ns : Nat} {l0 l1 l3 : Int} (h : x13_28 C G)  (k : j_ok n_KT 4 C G 98 [(0, (2, l0)), (1, (0, l1)), (3, (0, l3))] [] S V nc ns) : j_ok n_KT 4 C G 70 [(0, (2, l0)), (1, (0, l1)), (3, (0, l3))] [] S V nc ns := by
  have E := n_E h
  refine j_goto E d13_28_70 (t := 98) rfl ?_
  exact j_pick [0, 1, 2] rfl k
theorem t13_28_73 {C : qCx} {G : jG} {S : jS} {V : jH} {nc ns : Nat} {l0 l1 l3 : Int} {mc ms : Nat} {pp : Int → Int → Int → jS → jH → Prop} {qq : Int → Int → Int → jS → jH → jS → jH → Prop} (h : x13_28 C G) (hrm : C.2.2.2.1.frames = 2 ∧ C.2.2.2.1.locals = 49) (c1 : S.1 l0 = 33) (hM : M13_26 C.2.1 mc ms pp qq) (hp : pp l0 l3 1 S V) (hc : nc + mc ≤ C.2.2.2.1.cells) (hs : ns + ms ≤ C.2.2.2.1.slots) (k : ∀ (S' : jS) (V' : jH), qq l0 l3 1 S V S' V' → j_ok n_KT 4 C G 79 [(0, (2, l0)), (1, (0, l1)), (3, (0, l3))] [] S' V' (nc + mc) (ns + ms)) : j_ok n_KT 4 C G 73 [(0, (2, l0)), (1, (0, l1)), (3, (0, l3))] [] S V nc ns := by
  have E := n_E h
  refine j_aload_n E d13_28_73 rfl 0 rfl ?_
  refine j_iload_n E d13_28_74 rfl 2 rfl ?_
  refine j_iconst E d13_28_75 (by decide) ?_
  refine j_call E (K13_28_76 h hrm hM) d13_28_76 (a := [(2, l0), (0, l3), (0, 1)]) (sk := []) rfl ⟨l0, l3, 1, rfl, c1, hp⟩ (Nat.le_of_ble_eq_true rfl) hc hs ?_
  rintro rs S' V' ⟨z0, z1, z2, e1, rfl, q⟩
  simp only [List.cons.injEq, Prod.mk.injEq, and_true, true_and] at e1
  obtain ⟨rfl, rfl, rfl⟩ := e1
  exact j_pick [0, 1, 2] rfl (k S' V' q)
theorem t13_28_79 {C : qCx} {G : jG} {S : jS} {V : jH} {nc ns : Nat} {l0 l1 l3 : Int} {mc ms : Nat} {pp : Int → Int → Int → jS → jH → Prop} {qq : Int → Int → Int → jS → jH → jS → jH → Prop} (h : x13_28 C G) (L : j_L S) (hrm : C.2.2.2.1.frames = 2 ∧ C.2.2.2.1.locals = 49) (c1 : S.1 l0 = 33) (c2 : -2147483648 ≤ 256 * l1 ∧ 256 * l1 ≤ 2147483647) (c3 : -2147483648 ≤ (256 * l1) + l3 ∧ (256 * l1) + l3 ≤ 2147483647) (c4 : 0 ≤ (256 * l1) + l3) (c5 : (256 * l1) + l3 < 1024) (c6 : -2147483648 ≤ (V (l0 + 27) ((256 * l1) + l3)) - 1 ∧ (V (l0 + 27) ((256 * l1) + l3)) - 1 ≤ 2147483647) (hM : M13_26 C.2.1 mc ms pp qq) (hp : pp l0 ((V (l0 + 27) ((256 * l1) + l3)) - 1) 2 S V) (hc : nc + mc ≤ C.2.2.2.1.cells) (hs : ns + ms ≤ C.2.2.2.1.slots) (k : ∀ (S' : jS) (V' : jH), qq l0 ((V (l0 + 27) ((256 * l1) + l3)) - 1) 2 S V S' V' → j_ok n_KT 4 C G 98 [(0, (2, l0)), (1, (0, l1)), (3, (0, l3))] [] S' V' (nc + mc) (ns + ms)) : j_ok n_KT 4 C G 79 [(0, (2, l0)), (1, (0, l1)), (3, (0, l3))] [] S V nc ns := by
  have E := n_E h
  refine j_aload_n E d13_28_79 rfl 0 rfl ?_
  refine j_aload_n E d13_28_80 rfl 0 rfl ?_
  refine j_getS (f := 21) (x := l0 + 27) (fg12_51 h) d13_28_81 c1 (by decide) rfl rfl ((L12_21 L c1).trans (by omega)) ?_
  refine j_sipush E d13_28_84 (by decide) ?_
  refine j_iload_n E d13_28_87 rfl 1 rfl ?_
  refine j_imul E d13_28_88 c2 ?_
  refine j_iload_n E d13_28_89 rfl 2 rfl ?_
  refine j_iadd E d13_28_90 c3 ?_
  refine j_iald E d13_28_91 (j_arr_of (show S.1 (l0 + 27) = 12 from (by have q := L12_21k L c1; rw [show l0 + 27 = l0 + 27 by omega]; exact q)) (by decide) rfl) c4 c5 ?_
  refine j_iconst E d13_28_92 (by decide) ?_
  refine j_isub E d13_28_93 c6 ?_
  refine j_iconst E d13_28_94 (by decide) ?_
  refine j_call E (K13_28_95 h hrm hM) d13_28_95 (a := [(2, l0), (0, (V (l0 + 27) ((256 * l1) + l3)) - 1), (0, 2)]) (sk := []) rfl ⟨l0, (V (l0 + 27) ((256 * l1) + l3)) - 1, 2, rfl, c1, hp⟩ (Nat.le_of_ble_eq_true rfl) hc hs ?_
  rintro rs S' V' ⟨z0, z1, z2, e1, rfl, q⟩
  simp only [List.cons.injEq, Prod.mk.injEq, and_true, true_and] at e1
  obtain ⟨rfl, rfl, rfl⟩ := e1
  exact j_pick [0, 1, 2] rfl (k S' V' q)
theorem t13_28_98 {C : qCx} {G : jG} {S : jS} {V : jH} {nc ns : Nat} {l0 l1 l3 : Int} (h : x13_28 C G) (c1 : -2147483648 ≤ l3 + 1 ∧ l3 + 1 ≤ 2147483647) (k : j_ok n_KT 4 C G 48 [(0, (2, l0)), (1, (0, l1)), (3, (0, l3 + 1))] [] S V nc ns) : j_ok n_KT 4 C G 98 [(0, (2, l0)), (1, (0, l1)), (3, (0, l3))] [] S V nc ns := by
  have E := n_E h
  refine j_iinc E d13_28_98 (by decide) (by decide) 2 rfl (lo1 := [(0, (2, l0)), (1, (0, l1))]) rfl c1 ?_
  refine j_goto E d13_28_101 (t := 48) rfl ?_
  exact j_pick [1, 2, 0] rfl k
theorem t13_28_104 {C : qCx} {G : jG} {S : jS} {V : jH} {nc ns : Nat} {mc ms : Nat} {qf : jS → jH → Prop} (h : x13_28 C G)  (R : j_Rv n_KT 4 C G b_13_28 mc ms qf) (q : qf S V) (hc : nc ≤ mc) (hs : ns ≤ ms) : j_ok n_KT 4 C G 104 [] [] S V nc ns := by
  have E := n_E h
  exact R _ _ _ _ _ _ d13_28_104 q hc hs
/- BalanceCoderModel.sumOf([II)I -/
abbrev b_13_29 : ByteArray := prog_13_method_29_code
def y_13_29 : MethodName := ⟨"BalanceCoderModel", "sumOf", "([II)I"⟩
abbrev x13_29 (C : qCx) (G : jG) : Prop := n_ctx C b_13_29 5 "BalanceCoderModel" G.1 G.2.1
def M13_29 (l : Launch) (mc ms : Nat) (p : Int → Int → jS → jH → Prop) (q : Int → Int → jS → jH → Int → jS → jH → Prop) : Prop := j_Met l vwCl n_TL n_NW n_KT y_13_29 (Cond.code y_13_29 b_13_29 5 (some .int) :: n_GW) { frames := 1, cells := mc, slots := ms, locals := 26 } mc ms (fun a S V => ∃ u0 u1 : Int, a = [(2, u0), (0, u1)] ∧ p u0 u1 S V) (fun a S V rs S' V' => ∃ u0 u1 r : Int, a = [(2, u0), (0, u1)] ∧ rs = [(0, r)] ∧ q u0 u1 S V r S' V')
theorem e13_29 {l : Launch} {mc ms : Nat} {p : Int → Int → jS → jH → Prop} {q : Int → Int → jS → jH → Int → jS → jH → Prop} (body : ∀ (C : qCx) (G : jG), x13_29 C G → C.2.2.2.1.frames = 1 ∧ C.2.2.2.1.locals = 26 → C.2.2.2.1.cells = mc ∧ C.2.2.2.1.slots = ms → C.2.1 = l → C.2.2.2.2.2.2.2.2.1.name = "sumOf" → ∀ (u0 u1 : Int) (S : jS) (V : jH), p u0 u1 S V → j_Ri n_KT 5 C G b_13_29 mc ms (q u0 u1 S V) → j_ok n_KT 5 C G 0 [(0, (2, u0)), (1, (0, u1))] [] S V 0 0) : M13_29 l mc ms p q := by
  refine j_method (ws' := n_GW) (by decide) rfl ?_ ?_
  · rintro a S V ⟨u0, u1, rfl, -⟩
    exact Nat.le_of_ble_eq_true rfl
  · rintro C G htl hl hrm hm hml ho hts hnm hE a S V ⟨u0, u1, rfl, hp⟩ R
    exact body C G ⟨htl, hm, hml, ho, fun w hw => hts w (List.mem_cons_of_mem _ hw), hE⟩ (by rw [hrm]; exact ⟨rfl, rfl⟩) (by rw [hrm]; exact ⟨rfl, rfl⟩) hl hnm u0 u1 S V hp (fun pc lo r S' V' nc ns d q hc hs => R.2.1 rfl pc lo r S' V' nc ns d ⟨u0, u1, r, rfl, rfl, q⟩ hc hs)
theorem d13_29_0 : decode b_13_29 0 = .ok (.lconst 0, 1) := by decide +kernel
theorem d13_29_1 : decode b_13_29 1 = .ok (.lstore_n 2, 1) := by decide +kernel
theorem d13_29_2 : decode b_13_29 2 = .ok (.iconst 0, 1) := by decide +kernel
theorem d13_29_3 : decode b_13_29 3 = .ok (.istore 4, 2) := by decide +kernel
theorem d13_29_5 : decode b_13_29 5 = .ok (.iload 4, 2) := by decide +kernel
theorem d13_29_7 : decode b_13_29 7 = .ok (.iload_n 1, 1) := by decide +kernel
theorem d13_29_8 : decode b_13_29 8 = .ok (.if_icmp .ge 23, 3) := by decide +kernel
theorem d13_29_11 : decode b_13_29 11 = .ok (.lload_n 2, 1) := by decide +kernel
theorem d13_29_12 : decode b_13_29 12 = .ok (.iload 4, 2) := by decide +kernel
theorem d13_29_14 : decode b_13_29 14 = .ok (.i2l, 1) := by decide +kernel
theorem d13_29_15 : decode b_13_29 15 = .ok (.lconst 1, 1) := by decide +kernel
theorem d13_29_16 : decode b_13_29 16 = .ok (.ladd, 1) := by decide +kernel
theorem d13_29_17 : decode b_13_29 17 = .ok (.aload_n 0, 1) := by decide +kernel
theorem d13_29_18 : decode b_13_29 18 = .ok (.iload 4, 2) := by decide +kernel
theorem d13_29_20 : decode b_13_29 20 = .ok (.iaload, 1) := by decide +kernel
theorem d13_29_21 : decode b_13_29 21 = .ok (.i2l, 1) := by decide +kernel
theorem d13_29_22 : decode b_13_29 22 = .ok (.lmul, 1) := by decide +kernel
theorem d13_29_23 : decode b_13_29 23 = .ok (.ladd, 1) := by decide +kernel
theorem d13_29_24 : decode b_13_29 24 = .ok (.lstore_n 2, 1) := by decide +kernel
theorem d13_29_25 : decode b_13_29 25 = .ok (.iinc 4 1, 3) := by decide +kernel
theorem d13_29_28 : decode b_13_29 28 = .ok (.goto (-23), 3) := by decide +kernel
theorem d13_29_31 : decode b_13_29 31 = .ok (.lload_n 2, 1) := by decide +kernel
theorem d13_29_32 : decode b_13_29 32 = .ok (.ldc2_w 189, 3) := by decide +kernel
theorem d13_29_35 : decode b_13_29 35 = .ok (.lrem, 1) := by decide +kernel
theorem d13_29_36 : decode b_13_29 36 = .ok (.l2i, 1) := by decide +kernel
theorem d13_29_37 : decode b_13_29 37 = .ok (.ireturn, 1) := by decide +kernel
theorem t13_29_0 {C : qCx} {G : jG} {S : jS} {V : jH} {nc ns : Nat} {l0 l1 : Int} (h : x13_29 C G)  (k : j_ok n_KT 5 C G 5 [(0, (2, l0)), (1, (0, l1)), (2, (1, 0)), (4, (0, 0))] [] S V nc ns) : j_ok n_KT 5 C G 0 [(0, (2, l0)), (1, (0, l1))] [] S V nc ns := by
  have E := n_E h
  refine j_lconst E d13_29_0 ?_
  refine j_lstore_n E d13_29_1 rfl (by decide) (lo1 := [(0, (2, l0)), (1, (0, l1))]) rfl ?_
  refine j_iconst E d13_29_2 (by decide) ?_
  refine j_istore E d13_29_3 (by decide) (lo1 := [(2, (1, 0)), (0, (2, l0)), (1, (0, l1))]) rfl ?_
  exact j_pick [2, 3, 1, 0] rfl k
theorem t13_29_5 {C : qCx} {G : jG} {S : jS} {V : jH} {nc ns : Nat} {l0 l1 l2 l4 : Int} (h : x13_29 C G)  (k : l1 ≤ l4 → j_ok n_KT 5 C G 31 [(2, (1, l2))] [] S V nc ns) (k' : l4 < l1 → j_ok n_KT 5 C G 11 [(0, (2, l0)), (1, (0, l1)), (2, (1, l2)), (4, (0, l4))] [] S V nc ns) : j_ok n_KT 5 C G 5 [(0, (2, l0)), (1, (0, l1)), (2, (1, l2)), (4, (0, l4))] [] S V nc ns := by
  have E := n_E h
  refine j_iload E d13_29_5 3 rfl ?_
  refine j_iload_n E d13_29_7 rfl 1 rfl ?_
  exact j_icmp_ge E d13_29_8 (t := 31) rfl (fun q => j_pick [2] rfl (k q)) (fun q => j_pick [0, 1, 2, 3] rfl (k' q))
theorem t13_29_11 {C : qCx} {G : jG} {S : jS} {V : jH} {nc ns : Nat} {l0 l1 l2 l4 : Int} {n_l0 : Nat} (h : x13_29 C G) (c1 : -9223372036854775808 ≤ l4 + 1 ∧ l4 + 1 ≤ 9223372036854775807) (c2 : j_arr S l0 n_l0) (c3 : 0 ≤ l4) (c4 : l4 < (n_l0 : Int)) (c5 : -9223372036854775808 ≤ (l4 + 1) * (V l0 l4) ∧ (l4 + 1) * (V l0 l4) ≤ 9223372036854775807) (c6 : -9223372036854775808 ≤ l2 + ((l4 + 1) * (V l0 l4)) ∧ l2 + ((l4 + 1) * (V l0 l4)) ≤ 9223372036854775807) (c7 : -2147483648 ≤ l4 + 1 ∧ l4 + 1 ≤ 2147483647) (k : j_ok n_KT 5 C G 5 [(0, (2, l0)), (1, (0, l1)), (2, (1, l2 + ((l4 + 1) * (V l0 l4)))), (4, (0, l4 + 1))] [] S V nc ns) : j_ok n_KT 5 C G 11 [(0, (2, l0)), (1, (0, l1)), (2, (1, l2)), (4, (0, l4))] [] S V nc ns := by
  have E := n_E h
  refine j_lload_n E d13_29_11 rfl 2 rfl ?_
  refine j_iload E d13_29_12 3 rfl ?_
  refine j_i2l E d13_29_14 ?_
  refine j_lconst E d13_29_15 ?_
  refine j_ladd E d13_29_16 c1 ?_
  refine j_aload_n E d13_29_17 rfl 0 rfl ?_
  refine j_iload E d13_29_18 3 rfl ?_
  refine j_iald E d13_29_20 c2 c3 c4 ?_
  refine j_i2l E d13_29_21 ?_
  refine j_lmul E d13_29_22 c5 ?_
  refine j_ladd E d13_29_23 c6 ?_
  refine j_lstore_n E d13_29_24 rfl (by decide) (lo1 := [(0, (2, l0)), (1, (0, l1)), (4, (0, l4))]) rfl ?_
  refine j_iinc E d13_29_25 (by decide) (by decide) 3 rfl (lo1 := [(2, (1, l2 + ((l4 + 1) * (V l0 l4)))), (0, (2, l0)), (1, (0, l1))]) rfl c7 ?_
  refine j_goto E d13_29_28 (t := 5) rfl ?_
  exact j_pick [2, 3, 1, 0] rfl k
theorem t13_29_31 {C : qCx} {G : jG} {S : jS} {V : jH} {nc ns : Nat} {l2 : Int} {mc ms : Nat} {qf : Int → jS → jH → Prop} (h : x13_29 C G) (c1 : 0 ≤ l2) (R : j_Ri n_KT 5 C G b_13_29 mc ms qf) (q : qf (j_w32 (l2 % 65521)) S V) (hc : nc ≤ mc) (hs : ns ≤ ms) : j_ok n_KT 5 C G 31 [(2, (1, l2))] [] S V nc ns := by
  have E := n_E h
  refine j_lload_n E d13_29_31 rfl 0 rfl ?_
  refine j_ldc2 (n := 65521) (fl12_189 h) rfl d13_29_32 ?_
  refine j_lrem E d13_29_35 c1 (by decide) ?_
  refine j_l2i E d13_29_36 ?_
  exact R _ _ _ _ _ _ _ d13_29_37 q hc hs
/- BalanceCoderModel.packRow(III)I -/
abbrev b_13_27 : ByteArray := prog_13_method_27_code
def y_13_27 : MethodName := ⟨"BalanceCoderModel", "packRow", "(III)I"⟩
abbrev x13_27 (C : qCx) (G : jG) : Prop := n_ctx C b_13_27 9 "BalanceCoderModel" G.1 G.2.1
def M13_27 (l : Launch) (mc ms : Nat) (p : Int → Int → Int → Int → jS → jH → Prop) (q : Int → Int → Int → Int → jS → jH → Int → jS → jH → Prop) : Prop := j_Met l vwCl n_TL n_NW n_KT y_13_27 (Cond.code y_13_27 b_13_27 9 (some .int) :: n_GW) { frames := 3, cells := mc, slots := ms, locals := 72 } mc ms (fun a S V => ∃ u0 u1 u2 u3 : Int, a = [(2, u0), (0, u1), (0, u2), (0, u3)] ∧ S.1 u0 = 33 ∧ p u0 u1 u2 u3 S V) (fun a S V rs S' V' => ∃ u0 u1 u2 u3 r : Int, a = [(2, u0), (0, u1), (0, u2), (0, u3)] ∧ rs = [(0, r)] ∧ q u0 u1 u2 u3 S V r S' V')
theorem e13_27 {l : Launch} {mc ms : Nat} {p : Int → Int → Int → Int → jS → jH → Prop} {q : Int → Int → Int → Int → jS → jH → Int → jS → jH → Prop} (body : ∀ (C : qCx) (G : jG), x13_27 C G → C.2.2.2.1.frames = 3 ∧ C.2.2.2.1.locals = 72 → C.2.2.2.1.cells = mc ∧ C.2.2.2.1.slots = ms → C.2.1 = l → C.2.2.2.2.2.2.2.2.1.name = "packRow" → ∀ (u0 u1 u2 u3 : Int) (S : jS) (V : jH), S.1 u0 = 33 → p u0 u1 u2 u3 S V → j_Ri n_KT 9 C G b_13_27 mc ms (q u0 u1 u2 u3 S V) → j_ok n_KT 9 C G 0 [(0, (2, u0)), (1, (0, u1)), (2, (0, u2)), (3, (0, u3))] [] S V 0 0) : M13_27 l mc ms p q := by
  refine j_method (ws' := n_GW) (by decide) rfl ?_ ?_
  · rintro a S V ⟨u0, u1, u2, u3, rfl, -⟩
    exact Nat.le_of_ble_eq_true rfl
  · rintro C G htl hl hrm hm hml ho hts hnm hE a S V ⟨u0, u1, u2, u3, rfl, ht, hp⟩ R
    exact body C G ⟨htl, hm, hml, ho, fun w hw => hts w (List.mem_cons_of_mem _ hw), hE⟩ (by rw [hrm]; exact ⟨rfl, rfl⟩) (by rw [hrm]; exact ⟨rfl, rfl⟩) hl hnm u0 u1 u2 u3 S V ht hp (fun pc lo r S' V' nc ns d q hc hs => R.2.1 rfl pc lo r S' V' nc ns d ⟨u0, u1, u2, u3, r, rfl, rfl, q⟩ hc hs)
theorem d13_27_0 : decode b_13_27 0 = .ok (.aload_n 0, 1) := by decide +kernel
theorem d13_27_1 : decode b_13_27 1 = .ok (.getfield 10, 3) := by decide +kernel
theorem d13_27_4 : decode b_13_27 4 = .ok (.getfield 86, 3) := by decide +kernel
theorem d13_27_7 : decode b_13_27 7 = .ok (.iload_n 1, 1) := by decide +kernel
theorem d13_27_8 : decode b_13_27 8 = .ok (.iaload, 1) := by decide +kernel
theorem d13_27_9 : decode b_13_27 9 = .ok (.istore 4, 2) := by decide +kernel
theorem d13_27_11 : decode b_13_27 11 = .ok (.iconst 0, 1) := by decide +kernel
theorem d13_27_12 : decode b_13_27 12 = .ok (.istore 5, 2) := by decide +kernel
theorem d13_27_14 : decode b_13_27 14 = .ok (.iload 5, 2) := by decide +kernel
theorem d13_27_16 : decode b_13_27 16 = .ok (.sipush 1024, 3) := by decide +kernel
theorem d13_27_19 : decode b_13_27 19 = .ok (.if_icmp .ge 23, 3) := by decide +kernel
theorem d13_27_22 : decode b_13_27 22 = .ok (.aload_n 0, 1) := by decide +kernel
theorem d13_27_23 : decode b_13_27 23 = .ok (.getfield 51, 3) := by decide +kernel
theorem d13_27_26 : decode b_13_27 26 = .ok (.iload 5, 2) := by decide +kernel
theorem d13_27_28 : decode b_13_27 28 = .ok (.aload_n 0, 1) := by decide +kernel
theorem d13_27_29 : decode b_13_27 29 = .ok (.getfield 32, 3) := by decide +kernel
theorem d13_27_32 : decode b_13_27 32 = .ok (.iload 5, 2) := by decide +kernel
theorem d13_27_34 : decode b_13_27 34 = .ok (.iaload, 1) := by decide +kernel
theorem d13_27_35 : decode b_13_27 35 = .ok (.iastore, 1) := by decide +kernel
theorem d13_27_36 : decode b_13_27 36 = .ok (.iinc 5 1, 3) := by decide +kernel
theorem d13_27_39 : decode b_13_27 39 = .ok (.goto (-25), 3) := by decide +kernel
theorem d13_27_42 : decode b_13_27 42 = .ok (.iconst (-1), 1) := by decide +kernel
theorem d13_27_43 : decode b_13_27 43 = .ok (.istore 5, 2) := by decide +kernel
theorem d13_27_45 : decode b_13_27 45 = .ok (.iconst 0, 1) := by decide +kernel
theorem d13_27_46 : decode b_13_27 46 = .ok (.istore 6, 2) := by decide +kernel
theorem d13_27_48 : decode b_13_27 48 = .ok (.iload 6, 2) := by decide +kernel
theorem d13_27_50 : decode b_13_27 50 = .ok (.iload 4, 2) := by decide +kernel
theorem d13_27_52 : decode b_13_27 52 = .ok (.if_icmp .ge 94, 3) := by decide +kernel
theorem d13_27_55 : decode b_13_27 55 = .ok (.aload_n 0, 1) := by decide +kernel
theorem d13_27_56 : decode b_13_27 56 = .ok (.getfield 10, 3) := by decide +kernel
theorem d13_27_59 : decode b_13_27 59 = .ok (.getfield 89, 3) := by decide +kernel
theorem d13_27_62 : decode b_13_27 62 = .ok (.sipush 400, 3) := by decide +kernel
theorem d13_27_65 : decode b_13_27 65 = .ok (.iload_n 1, 1) := by decide +kernel
theorem d13_27_66 : decode b_13_27 66 = .ok (.imul, 1) := by decide +kernel
theorem d13_27_67 : decode b_13_27 67 = .ok (.iload 6, 2) := by decide +kernel
theorem d13_27_69 : decode b_13_27 69 = .ok (.iadd, 1) := by decide +kernel
theorem d13_27_70 : decode b_13_27 70 = .ok (.iaload, 1) := by decide +kernel
theorem d13_27_71 : decode b_13_27 71 = .ok (.istore 7, 2) := by decide +kernel
theorem d13_27_73 : decode b_13_27 73 = .ok (.aload_n 0, 1) := by decide +kernel
theorem d13_27_74 : decode b_13_27 74 = .ok (.aload_n 0, 1) := by decide +kernel
theorem d13_27_75 : decode b_13_27 75 = .ok (.getfield 10, 3) := by decide +kernel
theorem d13_27_78 : decode b_13_27 78 = .ok (.getfield 89, 3) := by decide +kernel
theorem d13_27_81 : decode b_13_27 81 = .ok (.sipush 400, 3) := by decide +kernel
theorem d13_27_84 : decode b_13_27 84 = .ok (.iload_n 1, 1) := by decide +kernel
theorem d13_27_85 : decode b_13_27 85 = .ok (.imul, 1) := by decide +kernel
theorem d13_27_86 : decode b_13_27 86 = .ok (.iload 6, 2) := by decide +kernel
theorem d13_27_88 : decode b_13_27 88 = .ok (.invokestatic 125, 3) := by decide +kernel
theorem d13_27_91 : decode b_13_27 91 = .ok (.iload 7, 2) := by decide +kernel
theorem d13_27_93 : decode b_13_27 93 = .ok (.invokevirtual 164, 3) := by decide +kernel
theorem d13_27_96 : decode b_13_27 96 = .ok (.aload_n 0, 1) := by decide +kernel
theorem d13_27_97 : decode b_13_27 97 = .ok (.getfield 35, 3) := by decide +kernel
theorem d13_27_100 : decode b_13_27 100 = .ok (.iload 6, 2) := by decide +kernel
theorem d13_27_102 : decode b_13_27 102 = .ok (.aload_n 0, 1) := by decide +kernel
theorem d13_27_103 : decode b_13_27 103 = .ok (.getfield 155, 3) := by decide +kernel
theorem d13_27_106 : decode b_13_27 106 = .ok (.iastore, 1) := by decide +kernel
theorem d13_27_107 : decode b_13_27 107 = .ok (.aload_n 0, 1) := by decide +kernel
theorem d13_27_108 : decode b_13_27 108 = .ok (.getfield 38, 3) := by decide +kernel
theorem d13_27_111 : decode b_13_27 111 = .ok (.iload 6, 2) := by decide +kernel
theorem d13_27_113 : decode b_13_27 113 = .ok (.aload_n 0, 1) := by decide +kernel
theorem d13_27_114 : decode b_13_27 114 = .ok (.getfield 158, 3) := by decide +kernel
theorem d13_27_117 : decode b_13_27 117 = .ok (.iastore, 1) := by decide +kernel
theorem d13_27_118 : decode b_13_27 118 = .ok (.aload_n 0, 1) := by decide +kernel
theorem d13_27_119 : decode b_13_27 119 = .ok (.getfield 155, 3) := by decide +kernel
theorem d13_27_122 : decode b_13_27 122 = .ok (.ifCond .ne 8, 3) := by decide +kernel
theorem d13_27_125 : decode b_13_27 125 = .ok (.iload 6, 2) := by decide +kernel
theorem d13_27_127 : decode b_13_27 127 = .ok (.goto 5, 3) := by decide +kernel
theorem d13_27_130 : decode b_13_27 130 = .ok (.iload 5, 2) := by decide +kernel
theorem d13_27_132 : decode b_13_27 132 = .ok (.istore 5, 2) := by decide +kernel
theorem d13_27_134 : decode b_13_27 134 = .ok (.aload_n 0, 1) := by decide +kernel
theorem d13_27_135 : decode b_13_27 135 = .ok (.iload 7, 2) := by decide +kernel
theorem d13_27_137 : decode b_13_27 137 = .ok (.invokevirtual 168, 3) := by decide +kernel
theorem d13_27_140 : decode b_13_27 140 = .ok (.iinc 6 1, 3) := by decide +kernel
theorem d13_27_143 : decode b_13_27 143 = .ok (.goto (-95), 3) := by decide +kernel
theorem d13_27_146 : decode b_13_27 146 = .ok (.iload 5, 2) := by decide +kernel
theorem d13_27_148 : decode b_13_27 148 = .ok (.ifCond .lt 6, 3) := by decide +kernel
theorem d13_27_151 : decode b_13_27 151 = .ok (.iload 5, 2) := by decide +kernel
theorem d13_27_153 : decode b_13_27 153 = .ok (.ireturn, 1) := by decide +kernel
theorem d13_27_154 : decode b_13_27 154 = .ok (.iconst 0, 1) := by decide +kernel
theorem d13_27_155 : decode b_13_27 155 = .ok (.istore 6, 2) := by decide +kernel
theorem d13_27_157 : decode b_13_27 157 = .ok (.iload 6, 2) := by decide +kernel
theorem d13_27_159 : decode b_13_27 159 = .ok (.iconst 4, 1) := by decide +kernel
theorem d13_27_160 : decode b_13_27 160 = .ok (.if_icmp .ge 21, 3) := by decide +kernel
theorem d13_27_163 : decode b_13_27 163 = .ok (.aload_n 0, 1) := by decide +kernel
theorem d13_27_164 : decode b_13_27 164 = .ok (.getfield 41, 3) := by decide +kernel
theorem d13_27_167 : decode b_13_27 167 = .ok (.iload 6, 2) := by decide +kernel
theorem d13_27_169 : decode b_13_27 169 = .ok (.aload_n 0, 1) := by decide +kernel
theorem d13_27_170 : decode b_13_27 170 = .ok (.getfield 171, 3) := by decide +kernel
theorem d13_27_173 : decode b_13_27 173 = .ok (.i2l, 1) := by decide +kernel
theorem d13_27_174 : decode b_13_27 174 = .ok (.lastore, 1) := by decide +kernel
theorem d13_27_175 : decode b_13_27 175 = .ok (.iinc 6 1, 3) := by decide +kernel
theorem d13_27_178 : decode b_13_27 178 = .ok (.goto (-21), 3) := by decide +kernel
theorem d13_27_181 : decode b_13_27 181 = .ok (.aload_n 0, 1) := by decide +kernel
theorem d13_27_182 : decode b_13_27 182 = .ok (.iconst 0, 1) := by decide +kernel
theorem d13_27_183 : decode b_13_27 183 = .ok (.putfield 174, 3) := by decide +kernel
theorem d13_27_186 : decode b_13_27 186 = .ok (.iload 4, 2) := by decide +kernel
theorem d13_27_188 : decode b_13_27 188 = .ok (.iconst 1, 1) := by decide +kernel
theorem d13_27_189 : decode b_13_27 189 = .ok (.isub, 1) := by decide +kernel
theorem d13_27_190 : decode b_13_27 190 = .ok (.istore 6, 2) := by decide +kernel
theorem d13_27_192 : decode b_13_27 192 = .ok (.iload 6, 2) := by decide +kernel
theorem d13_27_194 : decode b_13_27 194 = .ok (.ifCond .lt 121, 3) := by decide +kernel
theorem d13_27_197 : decode b_13_27 197 = .ok (.aload_n 0, 1) := by decide +kernel
theorem d13_27_198 : decode b_13_27 198 = .ok (.getfield 41, 3) := by decide +kernel
theorem d13_27_201 : decode b_13_27 201 = .ok (.iload 6, 2) := by decide +kernel
theorem d13_27_203 : decode b_13_27 203 = .ok (.iload_n 3, 1) := by decide +kernel
theorem d13_27_204 : decode b_13_27 204 = .ok (.irem, 1) := by decide +kernel
theorem d13_27_205 : decode b_13_27 205 = .ok (.laload, 1) := by decide +kernel
theorem d13_27_206 : decode b_13_27 206 = .ok (.lstore 7, 2) := by decide +kernel
theorem d13_27_208 : decode b_13_27 208 = .ok (.lload 7, 2) := by decide +kernel
theorem d13_27_210 : decode b_13_27 210 = .ok (.ldc2_w 177, 3) := by decide +kernel
theorem d13_27_213 : decode b_13_27 213 = .ok (.aload_n 0, 1) := by decide +kernel
theorem d13_27_214 : decode b_13_27 214 = .ok (.getfield 35, 3) := by decide +kernel
theorem d13_27_217 : decode b_13_27 217 = .ok (.iload 6, 2) := by decide +kernel
theorem d13_27_219 : decode b_13_27 219 = .ok (.iaload, 1) := by decide +kernel
theorem d13_27_220 : decode b_13_27 220 = .ok (.i2l, 1) := by decide +kernel
theorem d13_27_221 : decode b_13_27 221 = .ok (.lmul, 1) := by decide +kernel
theorem d13_27_222 : decode b_13_27 222 = .ok (.lcmp, 1) := by decide +kernel
theorem d13_27_223 : decode b_13_27 223 = .ok (.ifCond .lt 39, 3) := by decide +kernel
theorem d13_27_226 : decode b_13_27 226 = .ok (.aload_n 0, 1) := by decide +kernel
theorem d13_27_227 : decode b_13_27 227 = .ok (.getfield 45, 3) := by decide +kernel
theorem d13_27_230 : decode b_13_27 230 = .ok (.aload_n 0, 1) := by decide +kernel
theorem d13_27_231 : decode b_13_27 231 = .ok (.getfield 174, 3) := by decide +kernel
theorem d13_27_234 : decode b_13_27 234 = .ok (.lload 7, 2) := by decide +kernel
theorem d13_27_236 : decode b_13_27 236 = .ok (.ldc2_w 92, 3) := by decide +kernel
theorem d13_27_239 : decode b_13_27 239 = .ok (.land, 1) := by decide +kernel
theorem d13_27_240 : decode b_13_27 240 = .ok (.l2i, 1) := by decide +kernel
theorem d13_27_241 : decode b_13_27 241 = .ok (.iastore, 1) := by decide +kernel
theorem d13_27_242 : decode b_13_27 242 = .ok (.aload_n 0, 1) := by decide +kernel
theorem d13_27_243 : decode b_13_27 243 = .ok (.dup, 1) := by decide +kernel
theorem d13_27_244 : decode b_13_27 244 = .ok (.getfield 174, 3) := by decide +kernel
theorem d13_27_247 : decode b_13_27 247 = .ok (.iconst 1, 1) := by decide +kernel
theorem d13_27_248 : decode b_13_27 248 = .ok (.iadd, 1) := by decide +kernel
theorem d13_27_249 : decode b_13_27 249 = .ok (.putfield 174, 3) := by decide +kernel
theorem d13_27_252 : decode b_13_27 252 = .ok (.lload 7, 2) := by decide +kernel
theorem d13_27_254 : decode b_13_27 254 = .ok (.bipush 8, 2) := by decide +kernel
theorem d13_27_256 : decode b_13_27 256 = .ok (.lshr, 1) := by decide +kernel
theorem d13_27_257 : decode b_13_27 257 = .ok (.lstore 7, 2) := by decide +kernel
theorem d13_27_259 : decode b_13_27 259 = .ok (.goto (-51), 3) := by decide +kernel
theorem d13_27_262 : decode b_13_27 262 = .ok (.aload_n 0, 1) := by decide +kernel
theorem d13_27_263 : decode b_13_27 263 = .ok (.getfield 41, 3) := by decide +kernel
theorem d13_27_266 : decode b_13_27 266 = .ok (.iload 6, 2) := by decide +kernel
theorem d13_27_268 : decode b_13_27 268 = .ok (.iload_n 3, 1) := by decide +kernel
theorem d13_27_269 : decode b_13_27 269 = .ok (.irem, 1) := by decide +kernel
theorem d13_27_270 : decode b_13_27 270 = .ok (.aload_n 0, 1) := by decide +kernel
theorem d13_27_271 : decode b_13_27 271 = .ok (.getfield 171, 3) := by decide +kernel
theorem d13_27_274 : decode b_13_27 274 = .ok (.i2l, 1) := by decide +kernel
theorem d13_27_275 : decode b_13_27 275 = .ok (.lload 7, 2) := by decide +kernel
theorem d13_27_277 : decode b_13_27 277 = .ok (.aload_n 0, 1) := by decide +kernel
theorem d13_27_278 : decode b_13_27 278 = .ok (.getfield 35, 3) := by decide +kernel
theorem d13_27_281 : decode b_13_27 281 = .ok (.iload 6, 2) := by decide +kernel
theorem d13_27_283 : decode b_13_27 283 = .ok (.iaload, 1) := by decide +kernel
theorem d13_27_284 : decode b_13_27 284 = .ok (.i2l, 1) := by decide +kernel
theorem d13_27_285 : decode b_13_27 285 = .ok (.ldiv, 1) := by decide +kernel
theorem d13_27_286 : decode b_13_27 286 = .ok (.lmul, 1) := by decide +kernel
theorem d13_27_287 : decode b_13_27 287 = .ok (.aload_n 0, 1) := by decide +kernel
theorem d13_27_288 : decode b_13_27 288 = .ok (.getfield 38, 3) := by decide +kernel
theorem d13_27_291 : decode b_13_27 291 = .ok (.iload 6, 2) := by decide +kernel
theorem d13_27_293 : decode b_13_27 293 = .ok (.iaload, 1) := by decide +kernel
theorem d13_27_294 : decode b_13_27 294 = .ok (.i2l, 1) := by decide +kernel
theorem d13_27_295 : decode b_13_27 295 = .ok (.ladd, 1) := by decide +kernel
theorem d13_27_296 : decode b_13_27 296 = .ok (.lload 7, 2) := by decide +kernel
theorem d13_27_298 : decode b_13_27 298 = .ok (.aload_n 0, 1) := by decide +kernel
theorem d13_27_299 : decode b_13_27 299 = .ok (.getfield 35, 3) := by decide +kernel
theorem d13_27_302 : decode b_13_27 302 = .ok (.iload 6, 2) := by decide +kernel
theorem d13_27_304 : decode b_13_27 304 = .ok (.iaload, 1) := by decide +kernel
theorem d13_27_305 : decode b_13_27 305 = .ok (.i2l, 1) := by decide +kernel
theorem d13_27_306 : decode b_13_27 306 = .ok (.lrem, 1) := by decide +kernel
theorem d13_27_307 : decode b_13_27 307 = .ok (.ladd, 1) := by decide +kernel
theorem d13_27_308 : decode b_13_27 308 = .ok (.lastore, 1) := by decide +kernel
theorem d13_27_309 : decode b_13_27 309 = .ok (.iinc 6 (-1), 3) := by decide +kernel
theorem d13_27_312 : decode b_13_27 312 = .ok (.goto (-120), 3) := by decide +kernel
theorem d13_27_315 : decode b_13_27 315 = .ok (.aload_n 0, 1) := by decide +kernel
theorem d13_27_316 : decode b_13_27 316 = .ok (.iconst 0, 1) := by decide +kernel
theorem d13_27_317 : decode b_13_27 317 = .ok (.putfield 161, 3) := by decide +kernel
theorem d13_27_320 : decode b_13_27 320 = .ok (.aload_n 0, 1) := by decide +kernel
theorem d13_27_321 : decode b_13_27 321 = .ok (.aload_n 0, 1) := by decide +kernel
theorem d13_27_322 : decode b_13_27 322 = .ok (.getfield 149, 3) := by decide +kernel
theorem d13_27_325 : decode b_13_27 325 = .ok (.iconst 1, 1) := by decide +kernel
theorem d13_27_326 : decode b_13_27 326 = .ok (.invokevirtual 179, 3) := by decide +kernel
theorem d13_27_329 : decode b_13_27 329 = .ok (.aload_n 0, 1) := by decide +kernel
theorem d13_27_330 : decode b_13_27 330 = .ok (.iload_n 2, 1) := by decide +kernel
theorem d13_27_331 : decode b_13_27 331 = .ok (.iconst 1, 1) := by decide +kernel
theorem d13_27_332 : decode b_13_27 332 = .ok (.invokevirtual 179, 3) := by decide +kernel
theorem d13_27_335 : decode b_13_27 335 = .ok (.aload_n 0, 1) := by decide +kernel
theorem d13_27_336 : decode b_13_27 336 = .ok (.iload_n 3, 1) := by decide +kernel
theorem d13_27_337 : decode b_13_27 337 = .ok (.iconst 1, 1) := by decide +kernel
theorem d13_27_338 : decode b_13_27 338 = .ok (.invokevirtual 179, 3) := by decide +kernel
theorem d13_27_341 : decode b_13_27 341 = .ok (.aload_n 0, 1) := by decide +kernel
theorem d13_27_342 : decode b_13_27 342 = .ok (.iload 4, 2) := by decide +kernel
theorem d13_27_344 : decode b_13_27 344 = .ok (.iconst 2, 1) := by decide +kernel
theorem d13_27_345 : decode b_13_27 345 = .ok (.invokevirtual 179, 3) := by decide +kernel
theorem d13_27_348 : decode b_13_27 348 = .ok (.iconst 0, 1) := by decide +kernel
theorem d13_27_349 : decode b_13_27 349 = .ok (.istore 6, 2) := by decide +kernel
theorem d13_27_351 : decode b_13_27 351 = .ok (.iload 6, 2) := by decide +kernel
theorem d13_27_353 : decode b_13_27 353 = .ok (.aload_n 0, 1) := by decide +kernel
theorem d13_27_354 : decode b_13_27 354 = .ok (.getfield 149, 3) := by decide +kernel
theorem d13_27_357 : decode b_13_27 357 = .ok (.iconst 3, 1) := by decide +kernel
theorem d13_27_358 : decode b_13_27 358 = .ok (.if_icmp .ne 7, 3) := by decide +kernel
theorem d13_27_361 : decode b_13_27 361 = .ok (.iconst 4, 1) := by decide +kernel
theorem d13_27_362 : decode b_13_27 362 = .ok (.goto 23, 3) := by decide +kernel
theorem d13_27_365 : decode b_13_27 365 = .ok (.aload_n 0, 1) := by decide +kernel
theorem d13_27_366 : decode b_13_27 366 = .ok (.getfield 149, 3) := by decide +kernel
theorem d13_27_369 : decode b_13_27 369 = .ok (.ifCond .eq 11, 3) := by decide +kernel
theorem d13_27_372 : decode b_13_27 372 = .ok (.aload_n 0, 1) := by decide +kernel
theorem d13_27_373 : decode b_13_27 373 = .ok (.getfield 149, 3) := by decide +kernel
theorem d13_27_376 : decode b_13_27 376 = .ok (.iconst 2, 1) := by decide +kernel
theorem d13_27_377 : decode b_13_27 377 = .ok (.if_icmp .ne 7, 3) := by decide +kernel
theorem d13_27_380 : decode b_13_27 380 = .ok (.iconst 1, 1) := by decide +kernel
theorem d13_27_381 : decode b_13_27 381 = .ok (.goto 4, 3) := by decide +kernel
theorem d13_27_384 : decode b_13_27 384 = .ok (.iconst 0, 1) := by decide +kernel
theorem d13_27_385 : decode b_13_27 385 = .ok (.if_icmp .ge 15, 3) := by decide +kernel
theorem d13_27_388 : decode b_13_27 388 = .ok (.aload_n 0, 1) := by decide +kernel
theorem d13_27_389 : decode b_13_27 389 = .ok (.iload 6, 2) := by decide +kernel
theorem d13_27_391 : decode b_13_27 391 = .ok (.invokevirtual 182, 3) := by decide +kernel
theorem d13_27_394 : decode b_13_27 394 = .ok (.iinc 6 1, 3) := by decide +kernel
theorem d13_27_397 : decode b_13_27 397 = .ok (.goto (-46), 3) := by decide +kernel
theorem d13_27_400 : decode b_13_27 400 = .ok (.iconst 0, 1) := by decide +kernel
theorem d13_27_401 : decode b_13_27 401 = .ok (.istore 6, 2) := by decide +kernel
theorem d13_27_403 : decode b_13_27 403 = .ok (.iload 6, 2) := by decide +kernel
theorem d13_27_405 : decode b_13_27 405 = .ok (.iload_n 3, 1) := by decide +kernel
theorem d13_27_406 : decode b_13_27 406 = .ok (.if_icmp .ge 22, 3) := by decide +kernel
theorem d13_27_409 : decode b_13_27 409 = .ok (.aload_n 0, 1) := by decide +kernel
theorem d13_27_410 : decode b_13_27 410 = .ok (.aload_n 0, 1) := by decide +kernel
theorem d13_27_411 : decode b_13_27 411 = .ok (.getfield 41, 3) := by decide +kernel
theorem d13_27_414 : decode b_13_27 414 = .ok (.iload 6, 2) := by decide +kernel
theorem d13_27_416 : decode b_13_27 416 = .ok (.laload, 1) := by decide +kernel
theorem d13_27_417 : decode b_13_27 417 = .ok (.l2i, 1) := by decide +kernel
theorem d13_27_418 : decode b_13_27 418 = .ok (.iconst 3, 1) := by decide +kernel
theorem d13_27_419 : decode b_13_27 419 = .ok (.invokevirtual 179, 3) := by decide +kernel
theorem d13_27_422 : decode b_13_27 422 = .ok (.iinc 6 1, 3) := by decide +kernel
theorem d13_27_425 : decode b_13_27 425 = .ok (.goto (-22), 3) := by decide +kernel
theorem d13_27_428 : decode b_13_27 428 = .ok (.aload_n 0, 1) := by decide +kernel
theorem d13_27_429 : decode b_13_27 429 = .ok (.aload_n 0, 1) := by decide +kernel
theorem d13_27_430 : decode b_13_27 430 = .ok (.getfield 174, 3) := by decide +kernel
theorem d13_27_433 : decode b_13_27 433 = .ok (.iconst 2, 1) := by decide +kernel
theorem d13_27_434 : decode b_13_27 434 = .ok (.invokevirtual 179, 3) := by decide +kernel
theorem d13_27_437 : decode b_13_27 437 = .ok (.iconst 0, 1) := by decide +kernel
theorem d13_27_438 : decode b_13_27 438 = .ok (.istore 6, 2) := by decide +kernel
theorem d13_27_440 : decode b_13_27 440 = .ok (.iload 6, 2) := by decide +kernel
theorem d13_27_442 : decode b_13_27 442 = .ok (.aload_n 0, 1) := by decide +kernel
theorem d13_27_443 : decode b_13_27 443 = .ok (.getfield 174, 3) := by decide +kernel
theorem d13_27_446 : decode b_13_27 446 = .ok (.if_icmp .ge 21, 3) := by decide +kernel
theorem d13_27_449 : decode b_13_27 449 = .ok (.aload_n 0, 1) := by decide +kernel
theorem d13_27_450 : decode b_13_27 450 = .ok (.aload_n 0, 1) := by decide +kernel
theorem d13_27_451 : decode b_13_27 451 = .ok (.getfield 45, 3) := by decide +kernel
theorem d13_27_454 : decode b_13_27 454 = .ok (.iload 6, 2) := by decide +kernel
theorem d13_27_456 : decode b_13_27 456 = .ok (.iaload, 1) := by decide +kernel
theorem d13_27_457 : decode b_13_27 457 = .ok (.iconst 1, 1) := by decide +kernel
theorem d13_27_458 : decode b_13_27 458 = .ok (.invokevirtual 179, 3) := by decide +kernel
theorem d13_27_461 : decode b_13_27 461 = .ok (.iinc 6 1, 3) := by decide +kernel
theorem d13_27_464 : decode b_13_27 464 = .ok (.goto (-24), 3) := by decide +kernel
theorem d13_27_467 : decode b_13_27 467 = .ok (.aload_n 0, 1) := by decide +kernel
theorem d13_27_468 : decode b_13_27 468 = .ok (.aload_n 0, 1) := by decide +kernel
theorem d13_27_469 : decode b_13_27 469 = .ok (.getfield 48, 3) := by decide +kernel
theorem d13_27_472 : decode b_13_27 472 = .ok (.aload_n 0, 1) := by decide +kernel
theorem d13_27_473 : decode b_13_27 473 = .ok (.getfield 161, 3) := by decide +kernel
theorem d13_27_476 : decode b_13_27 476 = .ok (.invokestatic 185, 3) := by decide +kernel
theorem d13_27_479 : decode b_13_27 479 = .ok (.iconst 2, 1) := by decide +kernel
theorem d13_27_480 : decode b_13_27 480 = .ok (.invokevirtual 179, 3) := by decide +kernel
theorem d13_27_483 : decode b_13_27 483 = .ok (.iconst (-1), 1) := by decide +kernel
theorem d13_27_484 : decode b_13_27 484 = .ok (.ireturn, 1) := by decide +kernel
theorem K13_27_88 {C : qCx} {G : jG} {mc ms : Nat} {p : Int → Int → Int → jS → jH → Prop} {q : Int → Int → Int → jS → jH → Int → jS → jH → Prop} (h : x13_27 C G) (hrm : C.2.2.2.1.frames = 3 ∧ C.2.2.2.1.locals = 72) (hM : M13_16 C.2.1 mc ms p q) : j_Call C b_13_27 n_KT G.1 G.2.1 9 (.invokestatic 125) mc ms (fun a S V => ∃ u0 u1 u2 : Int, a = [(2, u0), (0, u1), (0, u2)] ∧ p u0 u1 u2 S V) (fun a S V rs S' V' => ∃ u0 u1 u2 r : Int, a = [(2, u0), (0, u1), (0, u2)] ∧ rs = [(0, r)] ∧ q u0 u1 u2 S V r S' V') := j_callS n_NWk h.2.2.2.2.2 h.1 hM ⟨h.2.1.1, h.2.1.2, h.2.2.1, h.2.2.2.1, h.2.2.2.2.1⟩ ⟨n_CB (y := y_13_16) (bytes := b_13_16) 3 h.2.2.2.2.1 n_w975 n_w973 n_w12 ⟨by decide, by decide, by decide +kernel⟩ rfl rfl ⟨by rw [hrm.1]; exact Nat.le_of_ble_eq_true rfl, by rw [hrm.2]; exact Nat.le_of_ble_eq_true rfl⟩, h.2.2.2.2.1 _ n_w974⟩ (fun a S V hP => by obtain ⟨u0, u1, u2, rfl, -⟩ := hP; rfl)
theorem K13_27_93 {C : qCx} {G : jG} {mc ms : Nat} {p : Int → Int → Int → jS → jH → Prop} {q : Int → Int → Int → jS → jH → jS → jH → Prop} (h : x13_27 C G) (hrm : C.2.2.2.1.frames = 3 ∧ C.2.2.2.1.locals = 72) (hM : M13_24 C.2.1 mc ms p q) : j_Call C b_13_27 n_KT G.1 G.2.1 9 (.invokevirtual 164) mc ms (fun a S V => ∃ u0 u1 u2 : Int, a = [(2, u0), (0, u1), (0, u2)] ∧ S.1 u0 = 33 ∧ p u0 u1 u2 S V) (fun a S V rs S' V' => ∃ u0 u1 u2 : Int, a = [(2, u0), (0, u1), (0, u2)] ∧ rs = [] ∧ q u0 u1 u2 S V S' V') := j_callV n_NWk h.2.2.2.2.2 h.1 hM ⟨h.2.1.1, h.2.1.2, h.2.2.1, h.2.2.2.1, h.2.2.2.2.1⟩ ⟨n_CB (y := y_13_24) (bytes := b_13_24) 2 h.2.2.2.2.1 n_w1017 n_w1014 n_w12 ⟨by decide, by decide, by decide +kernel⟩ rfl rfl ⟨by rw [hrm.1]; exact Nat.le_of_ble_eq_true rfl, by rw [hrm.2]; exact Nat.le_of_ble_eq_true rfl⟩, h.2.2.2.2.1 _ n_w1016, h.2.2.2.2.1 _ n_s37⟩ (Cn := RX12) (fun a S V hP => by obtain ⟨u0, u1, u2, rfl, e, -⟩ := hP; exact ⟨u0, _, 12, _, _, TX12, 31, rfl, rfl, by rw [e]; decide, by rw [e]; rfl, rfl⟩)
theorem K13_27_137 {C : qCx} {G : jG} {mc ms : Nat} {p : Int → Int → jS → jH → Prop} {q : Int → Int → jS → jH → jS → jH → Prop} (h : x13_27 C G) (hrm : C.2.2.2.1.frames = 3 ∧ C.2.2.2.1.locals = 72) (hM : M13_25 C.2.1 mc ms p q) : j_Call C b_13_27 n_KT G.1 G.2.1 9 (.invokevirtual 168) mc ms (fun a S V => ∃ u0 u1 : Int, a = [(2, u0), (0, u1)] ∧ S.1 u0 = 33 ∧ p u0 u1 S V) (fun a S V rs S' V' => ∃ u0 u1 : Int, a = [(2, u0), (0, u1)] ∧ rs = [] ∧ q u0 u1 S V S' V') := j_callV n_NWk h.2.2.2.2.2 h.1 hM ⟨h.2.1.1, h.2.1.2, h.2.2.1, h.2.2.2.1, h.2.2.2.2.1⟩ ⟨n_CB (y := y_13_25) (bytes := b_13_25) 1 h.2.2.2.2.1 n_w1025 n_w1022 n_w12 ⟨by decide, by decide, by decide +kernel⟩ rfl rfl ⟨by rw [hrm.1]; exact Nat.le_of_ble_eq_true rfl, by rw [hrm.2]; exact Nat.le_of_ble_eq_true rfl⟩, h.2.2.2.2.1 _ n_w1024, h.2.2.2.2.1 _ n_s39⟩ (Cn := RX12) (fun a S V hP => by obtain ⟨u0, u1, rfl, e, -⟩ := hP; exact ⟨u0, _, 12, _, _, TX12, 31, rfl, rfl, by rw [e]; decide, by rw [e]; rfl, rfl⟩)
theorem K13_27_326 {C : qCx} {G : jG} {mc ms : Nat} {p : Int → Int → Int → jS → jH → Prop} {q : Int → Int → Int → jS → jH → jS → jH → Prop} (h : x13_27 C G) (hrm : C.2.2.2.1.frames = 3 ∧ C.2.2.2.1.locals = 72) (hM : M13_26 C.2.1 mc ms p q) : j_Call C b_13_27 n_KT G.1 G.2.1 9 (.invokevirtual 179) mc ms (fun a S V => ∃ u0 u1 u2 : Int, a = [(2, u0), (0, u1), (0, u2)] ∧ S.1 u0 = 33 ∧ p u0 u1 u2 S V) (fun a S V rs S' V' => ∃ u0 u1 u2 : Int, a = [(2, u0), (0, u1), (0, u2)] ∧ rs = [] ∧ q u0 u1 u2 S V S' V') := j_callV n_NWk h.2.2.2.2.2 h.1 hM ⟨h.2.1.1, h.2.1.2, h.2.2.1, h.2.2.2.1, h.2.2.2.2.1⟩ ⟨n_CB (y := y_13_26) (bytes := b_13_26) 2 h.2.2.2.2.1 n_w1030 n_w1027 n_w12 ⟨by decide, by decide, by decide +kernel⟩ rfl rfl ⟨by rw [hrm.1]; exact Nat.le_of_ble_eq_true rfl, by rw [hrm.2]; exact Nat.le_of_ble_eq_true rfl⟩, h.2.2.2.2.1 _ n_w1029, h.2.2.2.2.1 _ n_s40⟩ (Cn := RX12) (fun a S V hP => by obtain ⟨u0, u1, u2, rfl, e, -⟩ := hP; exact ⟨u0, _, 12, _, _, TX12, 31, rfl, rfl, by rw [e]; decide, by rw [e]; rfl, rfl⟩)
theorem K13_27_332 {C : qCx} {G : jG} {mc ms : Nat} {p : Int → Int → Int → jS → jH → Prop} {q : Int → Int → Int → jS → jH → jS → jH → Prop} (h : x13_27 C G) (hrm : C.2.2.2.1.frames = 3 ∧ C.2.2.2.1.locals = 72) (hM : M13_26 C.2.1 mc ms p q) : j_Call C b_13_27 n_KT G.1 G.2.1 9 (.invokevirtual 179) mc ms (fun a S V => ∃ u0 u1 u2 : Int, a = [(2, u0), (0, u1), (0, u2)] ∧ S.1 u0 = 33 ∧ p u0 u1 u2 S V) (fun a S V rs S' V' => ∃ u0 u1 u2 : Int, a = [(2, u0), (0, u1), (0, u2)] ∧ rs = [] ∧ q u0 u1 u2 S V S' V') := j_callV n_NWk h.2.2.2.2.2 h.1 hM ⟨h.2.1.1, h.2.1.2, h.2.2.1, h.2.2.2.1, h.2.2.2.2.1⟩ ⟨n_CB (y := y_13_26) (bytes := b_13_26) 2 h.2.2.2.2.1 n_w1030 n_w1027 n_w12 ⟨by decide, by decide, by decide +kernel⟩ rfl rfl ⟨by rw [hrm.1]; exact Nat.le_of_ble_eq_true rfl, by rw [hrm.2]; exact Nat.le_of_ble_eq_true rfl⟩, h.2.2.2.2.1 _ n_w1029, h.2.2.2.2.1 _ n_s40⟩ (Cn := RX12) (fun a S V hP => by obtain ⟨u0, u1, u2, rfl, e, -⟩ := hP; exact ⟨u0, _, 12, _, _, TX12, 31, rfl, rfl, by rw [e]; decide, by rw [e]; rfl, rfl⟩)
theorem K13_27_338 {C : qCx} {G : jG} {mc ms : Nat} {p : Int → Int → Int → jS → jH → Prop} {q : Int → Int → Int → jS → jH → jS → jH → Prop} (h : x13_27 C G) (hrm : C.2.2.2.1.frames = 3 ∧ C.2.2.2.1.locals = 72) (hM : M13_26 C.2.1 mc ms p q) : j_Call C b_13_27 n_KT G.1 G.2.1 9 (.invokevirtual 179) mc ms (fun a S V => ∃ u0 u1 u2 : Int, a = [(2, u0), (0, u1), (0, u2)] ∧ S.1 u0 = 33 ∧ p u0 u1 u2 S V) (fun a S V rs S' V' => ∃ u0 u1 u2 : Int, a = [(2, u0), (0, u1), (0, u2)] ∧ rs = [] ∧ q u0 u1 u2 S V S' V') := j_callV n_NWk h.2.2.2.2.2 h.1 hM ⟨h.2.1.1, h.2.1.2, h.2.2.1, h.2.2.2.1, h.2.2.2.2.1⟩ ⟨n_CB (y := y_13_26) (bytes := b_13_26) 2 h.2.2.2.2.1 n_w1030 n_w1027 n_w12 ⟨by decide, by decide, by decide +kernel⟩ rfl rfl ⟨by rw [hrm.1]; exact Nat.le_of_ble_eq_true rfl, by rw [hrm.2]; exact Nat.le_of_ble_eq_true rfl⟩, h.2.2.2.2.1 _ n_w1029, h.2.2.2.2.1 _ n_s40⟩ (Cn := RX12) (fun a S V hP => by obtain ⟨u0, u1, u2, rfl, e, -⟩ := hP; exact ⟨u0, _, 12, _, _, TX12, 31, rfl, rfl, by rw [e]; decide, by rw [e]; rfl, rfl⟩)
theorem K13_27_345 {C : qCx} {G : jG} {mc ms : Nat} {p : Int → Int → Int → jS → jH → Prop} {q : Int → Int → Int → jS → jH → jS → jH → Prop} (h : x13_27 C G) (hrm : C.2.2.2.1.frames = 3 ∧ C.2.2.2.1.locals = 72) (hM : M13_26 C.2.1 mc ms p q) : j_Call C b_13_27 n_KT G.1 G.2.1 9 (.invokevirtual 179) mc ms (fun a S V => ∃ u0 u1 u2 : Int, a = [(2, u0), (0, u1), (0, u2)] ∧ S.1 u0 = 33 ∧ p u0 u1 u2 S V) (fun a S V rs S' V' => ∃ u0 u1 u2 : Int, a = [(2, u0), (0, u1), (0, u2)] ∧ rs = [] ∧ q u0 u1 u2 S V S' V') := j_callV n_NWk h.2.2.2.2.2 h.1 hM ⟨h.2.1.1, h.2.1.2, h.2.2.1, h.2.2.2.1, h.2.2.2.2.1⟩ ⟨n_CB (y := y_13_26) (bytes := b_13_26) 2 h.2.2.2.2.1 n_w1030 n_w1027 n_w12 ⟨by decide, by decide, by decide +kernel⟩ rfl rfl ⟨by rw [hrm.1]; exact Nat.le_of_ble_eq_true rfl, by rw [hrm.2]; exact Nat.le_of_ble_eq_true rfl⟩, h.2.2.2.2.1 _ n_w1029, h.2.2.2.2.1 _ n_s40⟩ (Cn := RX12) (fun a S V hP => by obtain ⟨u0, u1, u2, rfl, e, -⟩ := hP; exact ⟨u0, _, 12, _, _, TX12, 31, rfl, rfl, by rw [e]; decide, by rw [e]; rfl, rfl⟩)
theorem K13_27_391 {C : qCx} {G : jG} {mc ms : Nat} {p : Int → Int → jS → jH → Prop} {q : Int → Int → jS → jH → jS → jH → Prop} (h : x13_27 C G) (hrm : C.2.2.2.1.frames = 3 ∧ C.2.2.2.1.locals = 72) (hM : M13_28 C.2.1 mc ms p q) : j_Call C b_13_27 n_KT G.1 G.2.1 9 (.invokevirtual 182) mc ms (fun a S V => ∃ u0 u1 : Int, a = [(2, u0), (0, u1)] ∧ S.1 u0 = 33 ∧ p u0 u1 S V) (fun a S V rs S' V' => ∃ u0 u1 : Int, a = [(2, u0), (0, u1)] ∧ rs = [] ∧ q u0 u1 S V S' V') := j_callV n_NWk h.2.2.2.2.2 h.1 hM ⟨h.2.1.1, h.2.1.2, h.2.2.1, h.2.2.2.1, h.2.2.2.2.1⟩ ⟨n_CB (y := y_13_28) (bytes := b_13_28) 1 h.2.2.2.2.1 n_w1034 n_w1031 n_w12 ⟨by decide, by decide, by decide +kernel⟩ rfl rfl ⟨by rw [hrm.1]; exact Nat.le_of_ble_eq_true rfl, by rw [hrm.2]; exact Nat.le_of_ble_eq_true rfl⟩, h.2.2.2.2.1 _ n_w1033, h.2.2.2.2.1 _ n_s41⟩ (Cn := RX12) (fun a S V hP => by obtain ⟨u0, u1, rfl, e, -⟩ := hP; exact ⟨u0, _, 12, _, _, TX12, 31, rfl, rfl, by rw [e]; decide, by rw [e]; rfl, rfl⟩)
theorem K13_27_419 {C : qCx} {G : jG} {mc ms : Nat} {p : Int → Int → Int → jS → jH → Prop} {q : Int → Int → Int → jS → jH → jS → jH → Prop} (h : x13_27 C G) (hrm : C.2.2.2.1.frames = 3 ∧ C.2.2.2.1.locals = 72) (hM : M13_26 C.2.1 mc ms p q) : j_Call C b_13_27 n_KT G.1 G.2.1 9 (.invokevirtual 179) mc ms (fun a S V => ∃ u0 u1 u2 : Int, a = [(2, u0), (0, u1), (0, u2)] ∧ S.1 u0 = 33 ∧ p u0 u1 u2 S V) (fun a S V rs S' V' => ∃ u0 u1 u2 : Int, a = [(2, u0), (0, u1), (0, u2)] ∧ rs = [] ∧ q u0 u1 u2 S V S' V') := j_callV n_NWk h.2.2.2.2.2 h.1 hM ⟨h.2.1.1, h.2.1.2, h.2.2.1, h.2.2.2.1, h.2.2.2.2.1⟩ ⟨n_CB (y := y_13_26) (bytes := b_13_26) 2 h.2.2.2.2.1 n_w1030 n_w1027 n_w12 ⟨by decide, by decide, by decide +kernel⟩ rfl rfl ⟨by rw [hrm.1]; exact Nat.le_of_ble_eq_true rfl, by rw [hrm.2]; exact Nat.le_of_ble_eq_true rfl⟩, h.2.2.2.2.1 _ n_w1029, h.2.2.2.2.1 _ n_s40⟩ (Cn := RX12) (fun a S V hP => by obtain ⟨u0, u1, u2, rfl, e, -⟩ := hP; exact ⟨u0, _, 12, _, _, TX12, 31, rfl, rfl, by rw [e]; decide, by rw [e]; rfl, rfl⟩)
theorem K13_27_434 {C : qCx} {G : jG} {mc ms : Nat} {p : Int → Int → Int → jS → jH → Prop} {q : Int → Int → Int → jS → jH → jS → jH → Prop} (h : x13_27 C G) (hrm : C.2.2.2.1.frames = 3 ∧ C.2.2.2.1.locals = 72) (hM : M13_26 C.2.1 mc ms p q) : j_Call C b_13_27 n_KT G.1 G.2.1 9 (.invokevirtual 179) mc ms (fun a S V => ∃ u0 u1 u2 : Int, a = [(2, u0), (0, u1), (0, u2)] ∧ S.1 u0 = 33 ∧ p u0 u1 u2 S V) (fun a S V rs S' V' => ∃ u0 u1 u2 : Int, a = [(2, u0), (0, u1), (0, u2)] ∧ rs = [] ∧ q u0 u1 u2 S V S' V') := j_callV n_NWk h.2.2.2.2.2 h.1 hM ⟨h.2.1.1, h.2.1.2, h.2.2.1, h.2.2.2.1, h.2.2.2.2.1⟩ ⟨n_CB (y := y_13_26) (bytes := b_13_26) 2 h.2.2.2.2.1 n_w1030 n_w1027 n_w12 ⟨by decide, by decide, by decide +kernel⟩ rfl rfl ⟨by rw [hrm.1]; exact Nat.le_of_ble_eq_true rfl, by rw [hrm.2]; exact Nat.le_of_ble_eq_true rfl⟩, h.2.2.2.2.1 _ n_w1029, h.2.2.2.2.1 _ n_s40⟩ (Cn := RX12) (fun a S V hP => by obtain ⟨u0, u1, u2, rfl, e, -⟩ := hP; exact ⟨u0, _, 12, _, _, TX12, 31, rfl, rfl, by rw [e]; decide, by rw [e]; rfl, rfl⟩)
theorem K13_27_458 {C : qCx} {G : jG} {mc ms : Nat} {p : Int → Int → Int → jS → jH → Prop} {q : Int → Int → Int → jS → jH → jS → jH → Prop} (h : x13_27 C G) (hrm : C.2.2.2.1.frames = 3 ∧ C.2.2.2.1.locals = 72) (hM : M13_26 C.2.1 mc ms p q) : j_Call C b_13_27 n_KT G.1 G.2.1 9 (.invokevirtual 179) mc ms (fun a S V => ∃ u0 u1 u2 : Int, a = [(2, u0), (0, u1), (0, u2)] ∧ S.1 u0 = 33 ∧ p u0 u1 u2 S V) (fun a S V rs S' V' => ∃ u0 u1 u2 : Int, a = [(2, u0), (0, u1), (0, u2)] ∧ rs = [] ∧ q u0 u1 u2 S V S' V') := j_callV n_NWk h.2.2.2.2.2 h.1 hM ⟨h.2.1.1, h.2.1.2, h.2.2.1, h.2.2.2.1, h.2.2.2.2.1⟩ ⟨n_CB (y := y_13_26) (bytes := b_13_26) 2 h.2.2.2.2.1 n_w1030 n_w1027 n_w12 ⟨by decide, by decide, by decide +kernel⟩ rfl rfl ⟨by rw [hrm.1]; exact Nat.le_of_ble_eq_true rfl, by rw [hrm.2]; exact Nat.le_of_ble_eq_true rfl⟩, h.2.2.2.2.1 _ n_w1029, h.2.2.2.2.1 _ n_s40⟩ (Cn := RX12) (fun a S V hP => by obtain ⟨u0, u1, u2, rfl, e, -⟩ := hP; exact ⟨u0, _, 12, _, _, TX12, 31, rfl, rfl, by rw [e]; decide, by rw [e]; rfl, rfl⟩)
theorem K13_27_476 {C : qCx} {G : jG} {mc ms : Nat} {p : Int → Int → jS → jH → Prop} {q : Int → Int → jS → jH → Int → jS → jH → Prop} (h : x13_27 C G) (hrm : C.2.2.2.1.frames = 3 ∧ C.2.2.2.1.locals = 72) (hM : M13_29 C.2.1 mc ms p q) : j_Call C b_13_27 n_KT G.1 G.2.1 9 (.invokestatic 185) mc ms (fun a S V => ∃ u0 u1 : Int, a = [(2, u0), (0, u1)] ∧ p u0 u1 S V) (fun a S V rs S' V' => ∃ u0 u1 r : Int, a = [(2, u0), (0, u1)] ∧ rs = [(0, r)] ∧ q u0 u1 S V r S' V') := j_callS n_NWk h.2.2.2.2.2 h.1 hM ⟨h.2.1.1, h.2.1.2, h.2.2.1, h.2.2.2.1, h.2.2.2.2.1⟩ ⟨n_CB (y := y_13_29) (bytes := b_13_29) 2 h.2.2.2.2.1 n_w1037 n_w1035 n_w12 ⟨by decide, by decide, by decide +kernel⟩ rfl rfl ⟨by rw [hrm.1]; exact Nat.le_of_ble_eq_true rfl, by rw [hrm.2]; exact Nat.le_of_ble_eq_true rfl⟩, h.2.2.2.2.1 _ n_w1036⟩ (fun a S V hP => by obtain ⟨u0, u1, rfl, -⟩ := hP; rfl)
theorem K13_27_480 {C : qCx} {G : jG} {mc ms : Nat} {p : Int → Int → Int → jS → jH → Prop} {q : Int → Int → Int → jS → jH → jS → jH → Prop} (h : x13_27 C G) (hrm : C.2.2.2.1.frames = 3 ∧ C.2.2.2.1.locals = 72) (hM : M13_26 C.2.1 mc ms p q) : j_Call C b_13_27 n_KT G.1 G.2.1 9 (.invokevirtual 179) mc ms (fun a S V => ∃ u0 u1 u2 : Int, a = [(2, u0), (0, u1), (0, u2)] ∧ S.1 u0 = 33 ∧ p u0 u1 u2 S V) (fun a S V rs S' V' => ∃ u0 u1 u2 : Int, a = [(2, u0), (0, u1), (0, u2)] ∧ rs = [] ∧ q u0 u1 u2 S V S' V') := j_callV n_NWk h.2.2.2.2.2 h.1 hM ⟨h.2.1.1, h.2.1.2, h.2.2.1, h.2.2.2.1, h.2.2.2.2.1⟩ ⟨n_CB (y := y_13_26) (bytes := b_13_26) 2 h.2.2.2.2.1 n_w1030 n_w1027 n_w12 ⟨by decide, by decide, by decide +kernel⟩ rfl rfl ⟨by rw [hrm.1]; exact Nat.le_of_ble_eq_true rfl, by rw [hrm.2]; exact Nat.le_of_ble_eq_true rfl⟩, h.2.2.2.2.1 _ n_w1029, h.2.2.2.2.1 _ n_s40⟩ (Cn := RX12) (fun a S V hP => by obtain ⟨u0, u1, u2, rfl, e, -⟩ := hP; exact ⟨u0, _, 12, _, _, TX12, 31, rfl, rfl, by rw [e]; decide, by rw [e]; rfl, rfl⟩)
theorem t13_27_0 {C : qCx} {G : jG} {S : jS} {V : jH} {nc ns : Nat} {l0 l1 l2 l3 : Int} (h : x13_27 C G) (L : j_L S) (c1 : S.1 l0 = 33) (c2 : 0 ≤ l1) (c3 : l1 < 6) (k : j_ok n_KT 9 C G 14 [(0, (2, l0)), (1, (0, l1)), (2, (0, l2)), (3, (0, l3)), (4, (0, V (l0 + 2) l1)), (5, (0, 0))] [] S V nc ns) : j_ok n_KT 9 C G 0 [(0, (2, l0)), (1, (0, l1)), (2, (0, l2)), (3, (0, l3))] [] S V nc ns := by
  have E := n_E h
  refine j_aload_n E d13_27_0 rfl 0 rfl ?_
  refine j_getS (f := 0) (x := l0 + 1) (fg12_10 h) d13_27_1 c1 (by decide) rfl rfl ((L12_0 L c1).trans (by omega)) ?_
  refine j_getS (f := 0) (x := l0 + 2) (fg12_86 h) d13_27_4 (show S.1 (l0 + 1) = 32 from (by have q := L12_0k L c1; rw [show l0 + 1 = l0 + 1 by omega]; exact q)) (by decide) rfl rfl ((L11_0 L (show S.1 (l0 + 1) = 32 from (by have q := L12_0k L c1; rw [show l0 + 1 = l0 + 1 by omega]; exact q))).trans (by omega)) ?_
  refine j_iload_n E d13_27_7 rfl 1 rfl ?_
  refine j_iald E d13_27_8 (j_arr_of (show S.1 (l0 + 2) = 8 from (by have q := L11_0k L (show S.1 (l0 + 1) = 32 from (by have q := L12_0k L c1; rw [show l0 + 1 = l0 + 1 by omega]; exact q)); rw [show l0 + 2 = (l0 + 1) + 1 by omega]; exact q)) (by decide) rfl) c2 c3 ?_
  refine j_istore E d13_27_9 (by decide) (lo1 := [(0, (2, l0)), (1, (0, l1)), (2, (0, l2)), (3, (0, l3))]) rfl ?_
  refine j_iconst E d13_27_11 (by decide) ?_
  refine j_istore E d13_27_12 (by decide) (lo1 := [(4, (0, V (l0 + 2) l1)), (0, (2, l0)), (1, (0, l1)), (2, (0, l2)), (3, (0, l3))]) rfl ?_
  exact j_pick [2, 3, 4, 5, 1, 0] rfl k
theorem t13_27_14 {C : qCx} {G : jG} {S : jS} {V : jH} {nc ns : Nat} {l0 l1 l2 l3 l4 l5 : Int} (h : x13_27 C G)  (k : 1024 ≤ l5 → j_ok n_KT 9 C G 42 [(0, (2, l0)), (1, (0, l1)), (2, (0, l2)), (3, (0, l3)), (4, (0, l4))] [] S V nc ns) (k' : l5 < 1024 → j_ok n_KT 9 C G 22 [(0, (2, l0)), (1, (0, l1)), (2, (0, l2)), (3, (0, l3)), (4, (0, l4)), (5, (0, l5))] [] S V nc ns) : j_ok n_KT 9 C G 14 [(0, (2, l0)), (1, (0, l1)), (2, (0, l2)), (3, (0, l3)), (4, (0, l4)), (5, (0, l5))] [] S V nc ns := by
  have E := n_E h
  refine j_iload E d13_27_14 5 rfl ?_
  refine j_sipush E d13_27_16 (by decide) ?_
  exact j_icmp_ge E d13_27_19 (t := 42) rfl (fun q => j_pick [0, 1, 2, 3, 4] rfl (k q)) (fun q => j_pick [0, 1, 2, 3, 4, 5] rfl (k' q))
theorem t13_27_22 {C : qCx} {G : jG} {S : jS} {V : jH} {nc ns : Nat} {l0 l1 l2 l3 l4 l5 : Int} (h : x13_27 C G) (L : j_L S) (c1 : S.1 l0 = 33) (c2 : 0 ≤ l5) (c3 : l5 < 1024) (c4 : -2147483648 ≤ l5 + 1 ∧ l5 + 1 ≤ 2147483647) (k : j_ok n_KT 9 C G 14 [(0, (2, l0)), (1, (0, l1)), (2, (0, l2)), (3, (0, l3)), (4, (0, l4)), (5, (0, l5 + 1))] [] S (j_up V (l0 + 27) l5 (V (l0 + 21) l5)) nc ns) : j_ok n_KT 9 C G 22 [(0, (2, l0)), (1, (0, l1)), (2, (0, l2)), (3, (0, l3)), (4, (0, l4)), (5, (0, l5))] [] S V nc ns := by
  have E := n_E h
  refine j_aload_n E d13_27_22 rfl 0 rfl ?_
  refine j_getS (f := 21) (x := l0 + 27) (fg12_51 h) d13_27_23 c1 (by decide) rfl rfl ((L12_21 L c1).trans (by omega)) ?_
  refine j_iload E d13_27_26 5 rfl ?_
  refine j_aload_n E d13_27_28 rfl 0 rfl ?_
  refine j_getS (f := 11) (x := l0 + 21) (fg12_32 h) d13_27_29 c1 (by decide) rfl rfl ((L12_11 L c1).trans (by omega)) ?_
  refine j_iload E d13_27_32 5 rfl ?_
  refine j_iald E d13_27_34 (j_arr_of (show S.1 (l0 + 21) = 12 from (by have q := L12_11k L c1; rw [show l0 + 21 = l0 + 21 by omega]; exact q)) (by decide) rfl) c2 c3 ?_
  refine j_iast E d13_27_35 (j_arr_of (show S.1 (l0 + 27) = 12 from (by have q := L12_21k L c1; rw [show l0 + 27 = l0 + 27 by omega]; exact q)) (by decide) rfl) c2 c3 ?_
  refine j_iinc E d13_27_36 (by decide) (by decide) 5 rfl (lo1 := [(0, (2, l0)), (1, (0, l1)), (2, (0, l2)), (3, (0, l3)), (4, (0, l4))]) rfl c4 ?_
  refine j_goto E d13_27_39 (t := 14) rfl ?_
  exact j_pick [1, 2, 3, 4, 5, 0] rfl k
theorem t13_27_42 {C : qCx} {G : jG} {S : jS} {V : jH} {nc ns : Nat} {l0 l1 l2 l3 l4 : Int} (h : x13_27 C G)  (k : j_ok n_KT 9 C G 48 [(0, (2, l0)), (1, (0, l1)), (2, (0, l2)), (3, (0, l3)), (4, (0, l4)), (5, (0, (-1))), (6, (0, 0))] [] S V nc ns) : j_ok n_KT 9 C G 42 [(0, (2, l0)), (1, (0, l1)), (2, (0, l2)), (3, (0, l3)), (4, (0, l4))] [] S V nc ns := by
  have E := n_E h
  refine j_iconst E d13_27_42 (by decide) ?_
  refine j_istore E d13_27_43 (by decide) (lo1 := [(0, (2, l0)), (1, (0, l1)), (2, (0, l2)), (3, (0, l3)), (4, (0, l4))]) rfl ?_
  refine j_iconst E d13_27_45 (by decide) ?_
  refine j_istore E d13_27_46 (by decide) (lo1 := [(5, (0, (-1))), (0, (2, l0)), (1, (0, l1)), (2, (0, l2)), (3, (0, l3)), (4, (0, l4))]) rfl ?_
  exact j_pick [2, 3, 4, 5, 6, 1, 0] rfl k
theorem t13_27_48 {C : qCx} {G : jG} {S : jS} {V : jH} {nc ns : Nat} {l0 l1 l2 l3 l4 l5 l6 : Int} (h : x13_27 C G)  (k : l4 ≤ l6 → j_ok n_KT 9 C G 146 [(0, (2, l0)), (2, (0, l2)), (3, (0, l3)), (4, (0, l4)), (5, (0, l5))] [] S V nc ns) (k' : l6 < l4 → j_ok n_KT 9 C G 55 [(0, (2, l0)), (1, (0, l1)), (2, (0, l2)), (3, (0, l3)), (4, (0, l4)), (5, (0, l5)), (6, (0, l6))] [] S V nc ns) : j_ok n_KT 9 C G 48 [(0, (2, l0)), (1, (0, l1)), (2, (0, l2)), (3, (0, l3)), (4, (0, l4)), (5, (0, l5)), (6, (0, l6))] [] S V nc ns := by
  have E := n_E h
  refine j_iload E d13_27_48 6 rfl ?_
  refine j_iload E d13_27_50 4 rfl ?_
  exact j_icmp_ge E d13_27_52 (t := 146) rfl (fun q => j_pick [0, 2, 3, 4, 5] rfl (k q)) (fun q => j_pick [0, 1, 2, 3, 4, 5, 6] rfl (k' q))
theorem t13_27_55 {C : qCx} {G : jG} {S : jS} {V : jH} {nc ns : Nat} {l0 l1 l2 l3 l4 l5 l6 : Int} {mc ms : Nat} {pp : Int → Int → Int → jS → jH → Prop} {qq : Int → Int → Int → jS → jH → Int → jS → jH → Prop} (h : x13_27 C G) (L : j_L S) (hrm : C.2.2.2.1.frames = 3 ∧ C.2.2.2.1.locals = 72) (c1 : S.1 l0 = 33) (c2 : -2147483648 ≤ 400 * l1 ∧ 400 * l1 ≤ 2147483647) (c3 : -2147483648 ≤ (400 * l1) + l6 ∧ (400 * l1) + l6 ≤ 2147483647) (c4 : 0 ≤ (400 * l1) + l6) (c5 : (400 * l1) + l6 < 2400) (hM : M13_16 C.2.1 mc ms pp qq) (hp : pp (l0 + 3) (400 * l1) l6 S V) (hc : nc + mc ≤ C.2.2.2.1.cells) (hs : ns + ms ≤ C.2.2.2.1.slots) (k : ∀ (r : Int) (S' : jS) (V' : jH), qq (l0 + 3) (400 * l1) l6 S V r S' V' → j_ok n_KT 9 C G 91 [(0, (2, l0)), (1, (0, l1)), (2, (0, l2)), (3, (0, l3)), (4, (0, l4)), (5, (0, l5)), (6, (0, l6)), (7, (0, V (l0 + 3) ((400 * l1) + l6)))] [(0, r), (2, l0)] S' V' (nc + mc) (ns + ms)) : j_ok n_KT 9 C G 55 [(0, (2, l0)), (1, (0, l1)), (2, (0, l2)), (3, (0, l3)), (4, (0, l4)), (5, (0, l5)), (6, (0, l6))] [] S V nc ns := by
  have E := n_E h
  refine j_aload_n E d13_27_55 rfl 0 rfl ?_
  refine j_getS (f := 0) (x := l0 + 1) (fg12_10 h) d13_27_56 c1 (by decide) rfl rfl ((L12_0 L c1).trans (by omega)) ?_
  refine j_getS (f := 1) (x := l0 + 3) (fg12_89 h) d13_27_59 (show S.1 (l0 + 1) = 32 from (by have q := L12_0k L c1; rw [show l0 + 1 = l0 + 1 by omega]; exact q)) (by decide) rfl rfl ((L11_1 L (show S.1 (l0 + 1) = 32 from (by have q := L12_0k L c1; rw [show l0 + 1 = l0 + 1 by omega]; exact q))).trans (by omega)) ?_
  refine j_sipush E d13_27_62 (by decide) ?_
  refine j_iload_n E d13_27_65 rfl 1 rfl ?_
  refine j_imul E d13_27_66 c2 ?_
  refine j_iload E d13_27_67 6 rfl ?_
  refine j_iadd E d13_27_69 c3 ?_
  refine j_iald E d13_27_70 (j_arr_of (show S.1 (l0 + 3) = 9 from (by have q := L11_1k L (show S.1 (l0 + 1) = 32 from (by have q := L12_0k L c1; rw [show l0 + 1 = l0 + 1 by omega]; exact q)); rw [show l0 + 3 = (l0 + 1) + 2 by omega]; exact q)) (by decide) rfl) c4 c5 ?_
  refine j_istore E d13_27_71 (by decide) (lo1 := [(0, (2, l0)), (1, (0, l1)), (2, (0, l2)), (3, (0, l3)), (4, (0, l4)), (5, (0, l5)), (6, (0, l6))]) rfl ?_
  refine j_aload_n E d13_27_73 rfl 1 rfl ?_
  refine j_aload_n E d13_27_74 rfl 1 rfl ?_
  refine j_getS (f := 0) (x := l0 + 1) (fg12_10 h) d13_27_75 c1 (by decide) rfl rfl ((L12_0 L c1).trans (by omega)) ?_
  refine j_getS (f := 1) (x := l0 + 3) (fg12_89 h) d13_27_78 (show S.1 (l0 + 1) = 32 from (by have q := L12_0k L c1; rw [show l0 + 1 = l0 + 1 by omega]; exact q)) (by decide) rfl rfl ((L11_1 L (show S.1 (l0 + 1) = 32 from (by have q := L12_0k L c1; rw [show l0 + 1 = l0 + 1 by omega]; exact q))).trans (by omega)) ?_
  refine j_sipush E d13_27_81 (by decide) ?_
  refine j_iload_n E d13_27_84 rfl 2 rfl ?_
  refine j_imul E d13_27_85 c2 ?_
  refine j_iload E d13_27_86 7 rfl ?_
  refine j_call E (K13_27_88 h hrm hM) d13_27_88 (a := [(2, l0 + 3), (0, 400 * l1), (0, l6)]) (sk := [(2, l0)]) rfl ⟨l0 + 3, 400 * l1, l6, rfl, hp⟩ (Nat.le_of_ble_eq_true rfl) hc hs ?_
  rintro rs S' V' ⟨z0, z1, z2, r, e1, rfl, q⟩
  simp only [List.cons.injEq, Prod.mk.injEq, and_true, true_and] at e1
  obtain ⟨rfl, rfl, rfl⟩ := e1
  exact j_pick [1, 2, 3, 4, 5, 6, 7, 0] rfl (k r S' V' q)
theorem t13_27_91 {C : qCx} {G : jG} {S : jS} {V : jH} {nc ns : Nat} {l0 l1 l2 l3 l4 l5 l6 l7 s0 s1 : Int} {mc ms : Nat} {pp : Int → Int → Int → jS → jH → Prop} {qq : Int → Int → Int → jS → jH → jS → jH → Prop} (h : x13_27 C G) (hrm : C.2.2.2.1.frames = 3 ∧ C.2.2.2.1.locals = 72) (c1 : S.1 s1 = 33) (hM : M13_24 C.2.1 mc ms pp qq) (hp : pp s1 s0 l7 S V) (hc : nc + mc ≤ C.2.2.2.1.cells) (hs : ns + ms ≤ C.2.2.2.1.slots) (k : ∀ (S' : jS) (V' : jH), qq s1 s0 l7 S V S' V' → j_ok n_KT 9 C G 96 [(0, (2, l0)), (1, (0, l1)), (2, (0, l2)), (3, (0, l3)), (4, (0, l4)), (5, (0, l5)), (6, (0, l6)), (7, (0, l7))] [] S' V' (nc + mc) (ns + ms)) : j_ok n_KT 9 C G 91 [(0, (2, l0)), (1, (0, l1)), (2, (0, l2)), (3, (0, l3)), (4, (0, l4)), (5, (0, l5)), (6, (0, l6)), (7, (0, l7))] [(0, s0), (2, s1)] S V nc ns := by
  have E := n_E h
  refine j_iload E d13_27_91 7 rfl ?_
  refine j_call E (K13_27_93 h hrm hM) d13_27_93 (a := [(2, s1), (0, s0), (0, l7)]) (sk := []) rfl ⟨s1, s0, l7, rfl, c1, hp⟩ (Nat.le_of_ble_eq_true rfl) hc hs ?_
  rintro rs S' V' ⟨z0, z1, z2, e1, rfl, q⟩
  simp only [List.cons.injEq, Prod.mk.injEq, and_true, true_and] at e1
  obtain ⟨rfl, rfl, rfl⟩ := e1
  exact j_pick [0, 1, 2, 3, 4, 5, 6, 7] rfl (k S' V' q)
theorem t13_27_96 {C : qCx} {G : jG} {S : jS} {V : jH} {nc ns : Nat} {l0 l1 l2 l3 l4 l5 l6 l7 : Int} (h : x13_27 C G) (L : j_L S) (c1 : S.1 l0 = 33) (c2 : 0 ≤ l6) (c3 : l6 < 400) (k : ¬ V l0 12 = 0 → j_ok n_KT 9 C G 130 [(0, (2, l0)), (1, (0, l1)), (2, (0, l2)), (3, (0, l3)), (4, (0, l4)), (5, (0, l5)), (6, (0, l6)), (7, (0, l7))] [] S (j_up (j_up V (l0 + 22) l6 (V l0 12)) (l0 + 23) l6 (V l0 13)) nc ns) (k' : V l0 12 = 0 → j_ok n_KT 9 C G 125 [(0, (2, l0)), (1, (0, l1)), (2, (0, l2)), (3, (0, l3)), (4, (0, l4)), (6, (0, l6)), (7, (0, l7))] [] S (j_up (j_up V (l0 + 22) l6 (V l0 12)) (l0 + 23) l6 (V l0 13)) nc ns) : j_ok n_KT 9 C G 96 [(0, (2, l0)), (1, (0, l1)), (2, (0, l2)), (3, (0, l3)), (4, (0, l4)), (5, (0, l5)), (6, (0, l6)), (7, (0, l7))] [] S V nc ns := by
  have E := n_E h
  refine j_aload_n E d13_27_96 rfl 0 rfl ?_
  refine j_getS (f := 14) (x := l0 + 22) (fg12_35 h) d13_27_97 c1 (by decide) rfl rfl ((L12_14 L c1).trans (by omega)) ?_
  refine j_iload E d13_27_100 6 rfl ?_
  refine j_aload_n E d13_27_102 rfl 0 rfl ?_
  refine j_getI (f := 12) (fg12_155 h) d13_27_103 c1 (by decide) rfl rfl ?_
  refine j_iast E d13_27_106 (j_arr_of (show S.1 (l0 + 22) = 1 from (by have q := L12_14k L c1; rw [show l0 + 22 = l0 + 22 by omega]; exact q)) (by decide) rfl) c2 c3 ?_
  refine j_aload_n E d13_27_107 rfl 0 rfl ?_
  refine j_getS (f := 15) (x := l0 + 23) (fg12_38 h) d13_27_108 c1 (by decide) rfl rfl ((L12_15 L c1).trans (by omega)) ?_
  refine j_iload E d13_27_111 6 rfl ?_
  refine j_aload_n E d13_27_113 rfl 0 rfl ?_
  refine j_getI (f := 13) (fg12_158 h) d13_27_114 c1 (by decide) rfl rfl ?_
  refine j_eqT (show (j_up V (l0 + 22) l6 (V l0 12)) l0 13 = V l0 13 from (congrFun (j_up_ne (by omega)) _)) ?_
  refine j_iast E d13_27_117 (j_arr_of (show S.1 (l0 + 23) = 1 from (by have q := L12_15k L c1; rw [show l0 + 23 = l0 + 23 by omega]; exact q)) (by decide) rfl) c2 c3 ?_
  refine j_aload_n E d13_27_118 rfl 0 rfl ?_
  refine j_getI (f := 12) (fg12_155 h) d13_27_119 c1 (by decide) rfl rfl ?_
  refine j_eqT (show (j_up (j_up V (l0 + 22) l6 (V l0 12)) (l0 + 23) l6 (V l0 13)) l0 12 = V l0 12 from (Eq.trans (congrFun (j_up_ne (by omega)) _) (congrFun (j_up_ne (by omega)) _))) ?_
  exact j_if_ne E d13_27_122 (t := 130) rfl (fun q => j_pick [0, 1, 2, 3, 4, 5, 6, 7] rfl (k q)) (fun q => j_pick [0, 1, 2, 3, 4, 6, 7] rfl (k' q))
theorem t13_27_125 {C : qCx} {G : jG} {S : jS} {V : jH} {nc ns : Nat} {l0 l1 l2 l3 l4 l6 l7 : Int} (h : x13_27 C G)  (k : j_ok n_KT 9 C G 132 [(0, (2, l0)), (1, (0, l1)), (2, (0, l2)), (3, (0, l3)), (4, (0, l4)), (6, (0, l6)), (7, (0, l7))] [(0, l6)] S V nc ns) : j_ok n_KT 9 C G 125 [(0, (2, l0)), (1, (0, l1)), (2, (0, l2)), (3, (0, l3)), (4, (0, l4)), (6, (0, l6)), (7, (0, l7))] [] S V nc ns := by
  have E := n_E h
  refine j_iload E d13_27_125 5 rfl ?_
  refine j_goto E d13_27_127 (t := 132) rfl ?_
  exact j_pick [0, 1, 2, 3, 4, 5, 6] rfl k
theorem t13_27_130 {C : qCx} {G : jG} {S : jS} {V : jH} {nc ns : Nat} {l0 l1 l2 l3 l4 l5 l6 l7 : Int} (h : x13_27 C G)  (k : j_ok n_KT 9 C G 132 [(0, (2, l0)), (1, (0, l1)), (2, (0, l2)), (3, (0, l3)), (4, (0, l4)), (6, (0, l6)), (7, (0, l7))] [(0, l5)] S V nc ns) : j_ok n_KT 9 C G 130 [(0, (2, l0)), (1, (0, l1)), (2, (0, l2)), (3, (0, l3)), (4, (0, l4)), (5, (0, l5)), (6, (0, l6)), (7, (0, l7))] [] S V nc ns := by
  have E := n_E h
  refine j_iload E d13_27_130 5 rfl ?_
  exact j_pick [0, 1, 2, 3, 4, 6, 7] rfl k
theorem t13_27_132 {C : qCx} {G : jG} {S : jS} {V : jH} {nc ns : Nat} {l0 l1 l2 l3 l4 l6 l7 s0 : Int} {mc ms : Nat} {pp : Int → Int → jS → jH → Prop} {qq : Int → Int → jS → jH → jS → jH → Prop} (h : x13_27 C G) (hrm : C.2.2.2.1.frames = 3 ∧ C.2.2.2.1.locals = 72) (c1 : S.1 l0 = 33) (hM : M13_25 C.2.1 mc ms pp qq) (hp : pp l0 l7 S V) (hc : nc + mc ≤ C.2.2.2.1.cells) (hs : ns + ms ≤ C.2.2.2.1.slots) (k : ∀ (S' : jS) (V' : jH), qq l0 l7 S V S' V' → j_ok n_KT 9 C G 140 [(0, (2, l0)), (1, (0, l1)), (2, (0, l2)), (3, (0, l3)), (4, (0, l4)), (5, (0, s0)), (6, (0, l6))] [] S' V' (nc + mc) (ns + ms)) : j_ok n_KT 9 C G 132 [(0, (2, l0)), (1, (0, l1)), (2, (0, l2)), (3, (0, l3)), (4, (0, l4)), (6, (0, l6)), (7, (0, l7))] [(0, s0)] S V nc ns := by
  have E := n_E h
  refine j_istore E d13_27_132 (by decide) (lo1 := [(0, (2, l0)), (1, (0, l1)), (2, (0, l2)), (3, (0, l3)), (4, (0, l4)), (6, (0, l6)), (7, (0, l7))]) rfl ?_
  refine j_aload_n E d13_27_134 rfl 1 rfl ?_
  refine j_iload E d13_27_135 7 rfl ?_
  refine j_call E (K13_27_137 h hrm hM) d13_27_137 (a := [(2, l0), (0, l7)]) (sk := []) rfl ⟨l0, l7, rfl, c1, hp⟩ (Nat.le_of_ble_eq_true rfl) hc hs ?_
  rintro rs S' V' ⟨z0, z1, e1, rfl, q⟩
  simp only [List.cons.injEq, Prod.mk.injEq, and_true, true_and] at e1
  obtain ⟨rfl, rfl⟩ := e1
  exact j_pick [1, 2, 3, 4, 5, 0, 6] rfl (k S' V' q)
theorem t13_27_140 {C : qCx} {G : jG} {S : jS} {V : jH} {nc ns : Nat} {l0 l1 l2 l3 l4 l5 l6 : Int} (h : x13_27 C G) (c1 : -2147483648 ≤ l6 + 1 ∧ l6 + 1 ≤ 2147483647) (k : j_ok n_KT 9 C G 48 [(0, (2, l0)), (1, (0, l1)), (2, (0, l2)), (3, (0, l3)), (4, (0, l4)), (5, (0, l5)), (6, (0, l6 + 1))] [] S V nc ns) : j_ok n_KT 9 C G 140 [(0, (2, l0)), (1, (0, l1)), (2, (0, l2)), (3, (0, l3)), (4, (0, l4)), (5, (0, l5)), (6, (0, l6))] [] S V nc ns := by
  have E := n_E h
  refine j_iinc E d13_27_140 (by decide) (by decide) 6 rfl (lo1 := [(0, (2, l0)), (1, (0, l1)), (2, (0, l2)), (3, (0, l3)), (4, (0, l4)), (5, (0, l5))]) rfl c1 ?_
  refine j_goto E d13_27_143 (t := 48) rfl ?_
  exact j_pick [1, 2, 3, 4, 5, 6, 0] rfl k
theorem t13_27_146 {C : qCx} {G : jG} {S : jS} {V : jH} {nc ns : Nat} {l0 l2 l3 l4 l5 : Int} (h : x13_27 C G)  (k : l5 < 0 → j_ok n_KT 9 C G 154 [(0, (2, l0)), (2, (0, l2)), (3, (0, l3)), (4, (0, l4))] [] S V nc ns) (k' : 0 ≤ l5 → j_ok n_KT 9 C G 151 [(5, (0, l5))] [] S V nc ns) : j_ok n_KT 9 C G 146 [(0, (2, l0)), (2, (0, l2)), (3, (0, l3)), (4, (0, l4)), (5, (0, l5))] [] S V nc ns := by
  have E := n_E h
  refine j_iload E d13_27_146 4 rfl ?_
  exact j_if_lt E d13_27_148 (t := 154) rfl (fun q => j_pick [0, 1, 2, 3] rfl (k q)) (fun q => j_pick [4] rfl (k' q))
theorem t13_27_151 {C : qCx} {G : jG} {S : jS} {V : jH} {nc ns : Nat} {l5 : Int} {mc ms : Nat} {qf : Int → jS → jH → Prop} (h : x13_27 C G)  (R : j_Ri n_KT 9 C G b_13_27 mc ms qf) (q : qf l5 S V) (hc : nc ≤ mc) (hs : ns ≤ ms) : j_ok n_KT 9 C G 151 [(5, (0, l5))] [] S V nc ns := by
  have E := n_E h
  refine j_iload E d13_27_151 0 rfl ?_
  exact R _ _ _ _ _ _ _ d13_27_153 q hc hs
theorem t13_27_154 {C : qCx} {G : jG} {S : jS} {V : jH} {nc ns : Nat} {l0 l2 l3 l4 : Int} (h : x13_27 C G)  (k : j_ok n_KT 9 C G 157 [(0, (2, l0)), (2, (0, l2)), (3, (0, l3)), (4, (0, l4)), (6, (0, 0))] [] S V nc ns) : j_ok n_KT 9 C G 154 [(0, (2, l0)), (2, (0, l2)), (3, (0, l3)), (4, (0, l4))] [] S V nc ns := by
  have E := n_E h
  refine j_iconst E d13_27_154 (by decide) ?_
  refine j_istore E d13_27_155 (by decide) (lo1 := [(0, (2, l0)), (2, (0, l2)), (3, (0, l3)), (4, (0, l4))]) rfl ?_
  exact j_pick [1, 2, 3, 4, 0] rfl k
theorem t13_27_157 {C : qCx} {G : jG} {S : jS} {V : jH} {nc ns : Nat} {l0 l2 l3 l4 l6 : Int} (h : x13_27 C G)  (k : 4 ≤ l6 → j_ok n_KT 9 C G 181 [(0, (2, l0)), (2, (0, l2)), (3, (0, l3)), (4, (0, l4))] [] S V nc ns) (k' : l6 < 4 → j_ok n_KT 9 C G 163 [(0, (2, l0)), (2, (0, l2)), (3, (0, l3)), (4, (0, l4)), (6, (0, l6))] [] S V nc ns) : j_ok n_KT 9 C G 157 [(0, (2, l0)), (2, (0, l2)), (3, (0, l3)), (4, (0, l4)), (6, (0, l6))] [] S V nc ns := by
  have E := n_E h
  refine j_iload E d13_27_157 4 rfl ?_
  refine j_iconst E d13_27_159 (by decide) ?_
  exact j_icmp_ge E d13_27_160 (t := 181) rfl (fun q => j_pick [0, 1, 2, 3] rfl (k q)) (fun q => j_pick [0, 1, 2, 3, 4] rfl (k' q))
theorem t13_27_163 {C : qCx} {G : jG} {S : jS} {V : jH} {nc ns : Nat} {l0 l2 l3 l4 l6 : Int} (h : x13_27 C G) (L : j_L S) (c1 : S.1 l0 = 33) (c2 : 0 ≤ l6) (c3 : l6 < 4) (c4 : -2147483648 ≤ l6 + 1 ∧ l6 + 1 ≤ 2147483647) (k : j_ok n_KT 9 C G 157 [(0, (2, l0)), (2, (0, l2)), (3, (0, l3)), (4, (0, l4)), (6, (0, l6 + 1))] [] S (j_up V (l0 + 24) l6 (V l0 10)) nc ns) : j_ok n_KT 9 C G 163 [(0, (2, l0)), (2, (0, l2)), (3, (0, l3)), (4, (0, l4)), (6, (0, l6))] [] S V nc ns := by
  have E := n_E h
  refine j_aload_n E d13_27_163 rfl 0 rfl ?_
  refine j_getS (f := 16) (x := l0 + 24) (fg12_41 h) d13_27_164 c1 (by decide) rfl rfl ((L12_16 L c1).trans (by omega)) ?_
  refine j_iload E d13_27_167 4 rfl ?_
  refine j_aload_n E d13_27_169 rfl 0 rfl ?_
  refine j_getI (f := 10) (fg12_171 h) d13_27_170 c1 (by decide) rfl rfl ?_
  refine j_i2l E d13_27_173 ?_
  refine j_last E d13_27_174 (j_arrL_of (show S.1 (l0 + 24) = 15 from (by have q := L12_16k L c1; rw [show l0 + 24 = l0 + 24 by omega]; exact q)) (by decide) rfl) c2 c3 ?_
  refine j_iinc E d13_27_175 (by decide) (by decide) 4 rfl (lo1 := [(0, (2, l0)), (2, (0, l2)), (3, (0, l3)), (4, (0, l4))]) rfl c4 ?_
  refine j_goto E d13_27_178 (t := 157) rfl ?_
  exact j_pick [1, 2, 3, 4, 0] rfl k
theorem t13_27_181 {C : qCx} {G : jG} {S : jS} {V : jH} {nc ns : Nat} {l0 l2 l3 l4 : Int} (h : x13_27 C G) (c1 : S.1 l0 = 33) (c2 : -2147483648 ≤ l4 - 1 ∧ l4 - 1 ≤ 2147483647) (k : j_ok n_KT 9 C G 192 [(0, (2, l0)), (2, (0, l2)), (3, (0, l3)), (4, (0, l4)), (6, (0, l4 - 1))] [] S (j_up V l0 18 0) nc ns) : j_ok n_KT 9 C G 181 [(0, (2, l0)), (2, (0, l2)), (3, (0, l3)), (4, (0, l4))] [] S V nc ns := by
  have E := n_E h
  refine j_aload_n E d13_27_181 rfl 0 rfl ?_
  refine j_iconst E d13_27_182 (by decide) ?_
  refine j_putI (f := 18) (fp12_174 h) (n_hap h 33 12 0 _ rfl) d13_27_183 c1 (by decide) rfl rfl rfl ?_
  refine j_iload E d13_27_186 3 rfl ?_
  refine j_iconst E d13_27_188 (by decide) ?_
  refine j_isub E d13_27_189 c2 ?_
  refine j_istore E d13_27_190 (by decide) (lo1 := [(0, (2, l0)), (2, (0, l2)), (3, (0, l3)), (4, (0, l4))]) rfl ?_
  exact j_pick [1, 2, 3, 4, 0] rfl k
theorem t13_27_192 {C : qCx} {G : jG} {S : jS} {V : jH} {nc ns : Nat} {l0 l2 l3 l4 l6 : Int} (h : x13_27 C G)  (k : l6 < 0 → j_ok n_KT 9 C G 315 [(0, (2, l0)), (2, (0, l2)), (3, (0, l3)), (4, (0, l4))] [] S V nc ns) (k' : 0 ≤ l6 → j_ok n_KT 9 C G 197 [(0, (2, l0)), (2, (0, l2)), (3, (0, l3)), (4, (0, l4)), (6, (0, l6))] [] S V nc ns) : j_ok n_KT 9 C G 192 [(0, (2, l0)), (2, (0, l2)), (3, (0, l3)), (4, (0, l4)), (6, (0, l6))] [] S V nc ns := by
  have E := n_E h
  refine j_iload E d13_27_192 4 rfl ?_
  exact j_if_lt E d13_27_194 (t := 315) rfl (fun q => j_pick [0, 1, 2, 3] rfl (k q)) (fun q => j_pick [0, 1, 2, 3, 4] rfl (k' q))
theorem t13_27_197 {C : qCx} {G : jG} {S : jS} {V : jH} {nc ns : Nat} {l0 l2 l3 l4 l6 : Int} (h : x13_27 C G) (L : j_L S) (c1 : S.1 l0 = 33) (c2 : 0 ≤ l6) (c3 : 1 ≤ l3) (c4 : 0 ≤ l6 % l3) (c5 : l6 % l3 < 4) (k : j_ok n_KT 9 C G 208 [(0, (2, l0)), (2, (0, l2)), (3, (0, l3)), (4, (0, l4)), (6, (0, l6)), (7, (1, V (l0 + 24) (l6 % l3)))] [] S V nc ns) : j_ok n_KT 9 C G 197 [(0, (2, l0)), (2, (0, l2)), (3, (0, l3)), (4, (0, l4)), (6, (0, l6))] [] S V nc ns := by
  have E := n_E h
  refine j_aload_n E d13_27_197 rfl 0 rfl ?_
  refine j_getS (f := 16) (x := l0 + 24) (fg12_41 h) d13_27_198 c1 (by decide) rfl rfl ((L12_16 L c1).trans (by omega)) ?_
  refine j_iload E d13_27_201 4 rfl ?_
  refine j_iload_n E d13_27_203 rfl 2 rfl ?_
  refine j_irem E d13_27_204 c2 c3 ?_
  refine j_lald E d13_27_205 (j_arrL_of (show S.1 (l0 + 24) = 15 from (by have q := L12_16k L c1; rw [show l0 + 24 = l0 + 24 by omega]; exact q)) (by decide) rfl) c4 c5 ?_
  refine j_lstore E d13_27_206 (by decide) (lo1 := [(0, (2, l0)), (2, (0, l2)), (3, (0, l3)), (4, (0, l4)), (6, (0, l6))]) rfl ?_
  exact j_pick [1, 2, 3, 4, 5, 0] rfl k
theorem t13_27_208 {C : qCx} {G : jG} {S : jS} {V : jH} {nc ns : Nat} {l0 l2 l3 l4 l6 l7 : Int} (h : x13_27 C G) (L : j_L S) (c1 : S.1 l0 = 33) (c2 : 0 ≤ l6) (c3 : l6 < 400) (c4 : -9223372036854775808 ≤ 256 * (V (l0 + 22) l6) ∧ 256 * (V (l0 + 22) l6) ≤ 9223372036854775807) (k : l7 < 256 * (V (l0 + 22) l6) → j_ok n_KT 9 C G 262 [(0, (2, l0)), (2, (0, l2)), (3, (0, l3)), (4, (0, l4)), (6, (0, l6)), (7, (1, l7))] [] S V nc ns) (k' : 256 * (V (l0 + 22) l6) ≤ l7 → j_ok n_KT 9 C G 226 [(0, (2, l0)), (2, (0, l2)), (3, (0, l3)), (4, (0, l4)), (6, (0, l6)), (7, (1, l7))] [] S V nc ns) : j_ok n_KT 9 C G 208 [(0, (2, l0)), (2, (0, l2)), (3, (0, l3)), (4, (0, l4)), (6, (0, l6)), (7, (1, l7))] [] S V nc ns := by
  have E := n_E h
  refine j_lload E d13_27_208 5 rfl ?_
  refine j_ldc2 (n := 256) (fl12_177 h) rfl d13_27_210 ?_
  refine j_aload_n E d13_27_213 rfl 0 rfl ?_
  refine j_getS (f := 14) (x := l0 + 22) (fg12_35 h) d13_27_214 c1 (by decide) rfl rfl ((L12_14 L c1).trans (by omega)) ?_
  refine j_iload E d13_27_217 4 rfl ?_
  refine j_iald E d13_27_219 (j_arr_of (show S.1 (l0 + 22) = 1 from (by have q := L12_14k L c1; rw [show l0 + 22 = l0 + 22 by omega]; exact q)) (by decide) rfl) c2 c3 ?_
  refine j_i2l E d13_27_220 ?_
  refine j_lmul E d13_27_221 c4 ?_
  refine j_lcmp E d13_27_222 ?_
  exact j_if_lt E d13_27_223 (t := 262) rfl (fun q => j_pick [0, 1, 2, 3, 4, 5] rfl (k (j_cmp_lt.mp q))) (fun q => j_pick [0, 1, 2, 3, 4, 5] rfl (k' (j_cmp_ge.mp q)))
theorem t13_27_226 {C : qCx} {G : jG} {S : jS} {V : jH} {nc ns : Nat} {l0 l2 l3 l4 l6 l7 : Int} (h : x13_27 C G) (L : j_L S) (c1 : S.1 l0 = 33) (c2 : 0 ≤ V l0 18) (c3 : V l0 18 < 1200) (c4 : -2147483648 ≤ (V l0 18) + 1 ∧ (V l0 18) + 1 ≤ 2147483647) (k : j_ok n_KT 9 C G 208 [(0, (2, l0)), (2, (0, l2)), (3, (0, l3)), (4, (0, l4)), (6, (0, l6)), (7, (1, l7 / 2 ^ (8 : Int).toNat))] [] S (j_up (j_up V (l0 + 25) (V l0 18) (j_w32 (l7 % 256))) l0 18 ((V l0 18) + 1)) nc ns) : j_ok n_KT 9 C G 226 [(0, (2, l0)), (2, (0, l2)), (3, (0, l3)), (4, (0, l4)), (6, (0, l6)), (7, (1, l7))] [] S V nc ns := by
  have E := n_E h
  refine j_aload_n E d13_27_226 rfl 0 rfl ?_
  refine j_getS (f := 17) (x := l0 + 25) (fg12_45 h) d13_27_227 c1 (by decide) rfl rfl ((L12_17 L c1).trans (by omega)) ?_
  refine j_aload_n E d13_27_230 rfl 0 rfl ?_
  refine j_getI (f := 18) (fg12_174 h) d13_27_231 c1 (by decide) rfl rfl ?_
  refine j_lload E d13_27_234 5 rfl ?_
  refine j_ldc2 (n := 255) (fl12_92 h) rfl d13_27_236 ?_
  refine j_land8 E d13_27_239 rfl ?_
  refine j_l2i E d13_27_240 ?_
  refine j_iast E d13_27_241 (j_arr_of (show S.1 (l0 + 25) = 13 from (by have q := L12_17k L c1; rw [show l0 + 25 = l0 + 25 by omega]; exact q)) (by decide) rfl) c2 c3 ?_
  refine j_aload_n E d13_27_242 rfl 0 rfl ?_
  refine j_dup E d13_27_243 rfl ?_
  refine j_getI (f := 18) (fg12_174 h) d13_27_244 c1 (by decide) rfl rfl ?_
  refine j_eqT (show (j_up V (l0 + 25) (V l0 18) (j_w32 (l7 % 256))) l0 18 = V l0 18 from (congrFun (j_up_ne (by omega)) _)) ?_
  refine j_iconst E d13_27_247 (by decide) ?_
  refine j_iadd E d13_27_248 c4 ?_
  refine j_putI (f := 18) (fp12_174 h) (n_hap h 33 12 0 _ rfl) d13_27_249 c1 (by decide) rfl rfl rfl ?_
  refine j_lload E d13_27_252 5 rfl ?_
  refine j_bipush E d13_27_254 (by decide) ?_
  refine j_lshr E d13_27_256 (by decide) (by decide) ?_
  refine j_lstore E d13_27_257 (by decide) (lo1 := [(0, (2, l0)), (2, (0, l2)), (3, (0, l3)), (4, (0, l4)), (6, (0, l6))]) rfl ?_
  refine j_goto E d13_27_259 (t := 208) rfl ?_
  exact j_pick [1, 2, 3, 4, 5, 0] rfl k
theorem t13_27_262 {C : qCx} {G : jG} {S : jS} {V : jH} {nc ns : Nat} {l0 l2 l3 l4 l6 l7 : Int} (h : x13_27 C G) (L : j_L S) (c1 : S.1 l0 = 33) (c2 : 0 ≤ l6) (c3 : 1 ≤ l3) (c4 : l6 < 400) (c5 : 0 ≤ l7) (c6 : 1 ≤ V (l0 + 22) l6) (c7 : -9223372036854775808 ≤ (V l0 10) * (l7 / (V (l0 + 22) l6)) ∧ (V l0 10) * (l7 / (V (l0 + 22) l6)) ≤ 9223372036854775807) (c8 : -9223372036854775808 ≤ ((V l0 10) * (l7 / (V (l0 + 22) l6))) + (V (l0 + 23) l6) ∧ ((V l0 10) * (l7 / (V (l0 + 22) l6))) + (V (l0 + 23) l6) ≤ 9223372036854775807) (c9 : -9223372036854775808 ≤ (((V l0 10) * (l7 / (V (l0 + 22) l6))) + (V (l0 + 23) l6)) + (l7 % (V (l0 + 22) l6)) ∧ (((V l0 10) * (l7 / (V (l0 + 22) l6))) + (V (l0 + 23) l6)) + (l7 % (V (l0 + 22) l6)) ≤ 9223372036854775807) (c10 : 0 ≤ l6 % l3) (c11 : l6 % l3 < 4) (c12 : -2147483648 ≤ l6 + (-1) ∧ l6 + (-1) ≤ 2147483647) (k : j_ok n_KT 9 C G 192 [(0, (2, l0)), (2, (0, l2)), (3, (0, l3)), (4, (0, l4)), (6, (0, l6 + (-1)))] [] S (j_up V (l0 + 24) (l6 % l3) ((((V l0 10) * (l7 / (V (l0 + 22) l6))) + (V (l0 + 23) l6)) + (l7 % (V (l0 + 22) l6)))) nc ns) : j_ok n_KT 9 C G 262 [(0, (2, l0)), (2, (0, l2)), (3, (0, l3)), (4, (0, l4)), (6, (0, l6)), (7, (1, l7))] [] S V nc ns := by
  have E := n_E h
  refine j_aload_n E d13_27_262 rfl 0 rfl ?_
  refine j_getS (f := 16) (x := l0 + 24) (fg12_41 h) d13_27_263 c1 (by decide) rfl rfl ((L12_16 L c1).trans (by omega)) ?_
  refine j_iload E d13_27_266 4 rfl ?_
  refine j_iload_n E d13_27_268 rfl 2 rfl ?_
  refine j_irem E d13_27_269 c2 c3 ?_
  refine j_aload_n E d13_27_270 rfl 0 rfl ?_
  refine j_getI (f := 10) (fg12_171 h) d13_27_271 c1 (by decide) rfl rfl ?_
  refine j_i2l E d13_27_274 ?_
  refine j_lload E d13_27_275 5 rfl ?_
  refine j_aload_n E d13_27_277 rfl 0 rfl ?_
  refine j_getS (f := 14) (x := l0 + 22) (fg12_35 h) d13_27_278 c1 (by decide) rfl rfl ((L12_14 L c1).trans (by omega)) ?_
  refine j_iload E d13_27_281 4 rfl ?_
  refine j_iald E d13_27_283 (j_arr_of (show S.1 (l0 + 22) = 1 from (by have q := L12_14k L c1; rw [show l0 + 22 = l0 + 22 by omega]; exact q)) (by decide) rfl) c2 c4 ?_
  refine j_i2l E d13_27_284 ?_
  refine j_ldiv E d13_27_285 c5 c6 ?_
  refine j_lmul E d13_27_286 c7 ?_
  refine j_aload_n E d13_27_287 rfl 0 rfl ?_
  refine j_getS (f := 15) (x := l0 + 23) (fg12_38 h) d13_27_288 c1 (by decide) rfl rfl ((L12_15 L c1).trans (by omega)) ?_
  refine j_iload E d13_27_291 4 rfl ?_
  refine j_iald E d13_27_293 (j_arr_of (show S.1 (l0 + 23) = 1 from (by have q := L12_15k L c1; rw [show l0 + 23 = l0 + 23 by omega]; exact q)) (by decide) rfl) c2 c4 ?_
  refine j_i2l E d13_27_294 ?_
  refine j_ladd E d13_27_295 c8 ?_
  refine j_lload E d13_27_296 5 rfl ?_
  refine j_aload_n E d13_27_298 rfl 0 rfl ?_
  refine j_getS (f := 14) (x := l0 + 22) (fg12_35 h) d13_27_299 c1 (by decide) rfl rfl ((L12_14 L c1).trans (by omega)) ?_
  refine j_iload E d13_27_302 4 rfl ?_
  refine j_iald E d13_27_304 (j_arr_of (show S.1 (l0 + 22) = 1 from (by have q := L12_14k L c1; rw [show l0 + 22 = l0 + 22 by omega]; exact q)) (by decide) rfl) c2 c4 ?_
  refine j_i2l E d13_27_305 ?_
  refine j_lrem E d13_27_306 c5 c6 ?_
  refine j_ladd E d13_27_307 c9 ?_
  refine j_last E d13_27_308 (j_arrL_of (show S.1 (l0 + 24) = 15 from (by have q := L12_16k L c1; rw [show l0 + 24 = l0 + 24 by omega]; exact q)) (by decide) rfl) c10 c11 ?_
  refine j_iinc E d13_27_309 (by decide) (by decide) 4 rfl (lo1 := [(0, (2, l0)), (2, (0, l2)), (3, (0, l3)), (4, (0, l4)), (7, (1, l7))]) rfl c12 ?_
  refine j_goto E d13_27_312 (t := 192) rfl ?_
  exact j_pick [1, 2, 3, 4, 0] rfl k
theorem t13_27_315 {C : qCx} {G : jG} {S : jS} {V : jH} {nc ns : Nat} {l0 l2 l3 l4 : Int} {mc ms : Nat} {pp : Int → Int → Int → jS → jH → Prop} {qq : Int → Int → Int → jS → jH → jS → jH → Prop} (h : x13_27 C G) (hrm : C.2.2.2.1.frames = 3 ∧ C.2.2.2.1.locals = 72) (c1 : S.1 l0 = 33) (hM : M13_26 C.2.1 mc ms pp qq) (hp : pp l0 (V l0 9) 1 S (j_up V l0 20 0)) (hc : nc + mc ≤ C.2.2.2.1.cells) (hs : ns + ms ≤ C.2.2.2.1.slots) (k : ∀ (S' : jS) (V' : jH), qq l0 (V l0 9) 1 S (j_up V l0 20 0) S' V' → j_ok n_KT 9 C G 329 [(0, (2, l0)), (2, (0, l2)), (3, (0, l3)), (4, (0, l4))] [] S' V' (nc + mc) (ns + ms)) : j_ok n_KT 9 C G 315 [(0, (2, l0)), (2, (0, l2)), (3, (0, l3)), (4, (0, l4))] [] S V nc ns := by
  have E := n_E h
  refine j_aload_n E d13_27_315 rfl 0 rfl ?_
  refine j_iconst E d13_27_316 (by decide) ?_
  refine j_putI (f := 20) (fp12_161 h) (n_hap h 33 12 0 _ rfl) d13_27_317 c1 (by decide) rfl rfl rfl ?_
  refine j_aload_n E d13_27_320 rfl 0 rfl ?_
  refine j_aload_n E d13_27_321 rfl 0 rfl ?_
  refine j_getI (f := 9) (fg12_149 h) d13_27_322 c1 (by decide) rfl rfl ?_
  refine j_eqT (show (j_up V l0 20 0) l0 9 = V l0 9 from (j_up_off (by decide))) ?_
  refine j_iconst E d13_27_325 (by decide) ?_
  refine j_call E (K13_27_326 h hrm hM) d13_27_326 (a := [(2, l0), (0, V l0 9), (0, 1)]) (sk := []) rfl ⟨l0, V l0 9, 1, rfl, c1, hp⟩ (Nat.le_of_ble_eq_true rfl) hc hs ?_
  rintro rs S' V' ⟨z0, z1, z2, e1, rfl, q⟩
  simp only [List.cons.injEq, Prod.mk.injEq, and_true, true_and] at e1
  obtain ⟨rfl, rfl, rfl⟩ := e1
  exact j_pick [0, 1, 2, 3] rfl (k S' V' q)
theorem t13_27_329 {C : qCx} {G : jG} {S : jS} {V : jH} {nc ns : Nat} {l0 l2 l3 l4 : Int} {mc ms : Nat} {pp : Int → Int → Int → jS → jH → Prop} {qq : Int → Int → Int → jS → jH → jS → jH → Prop} (h : x13_27 C G) (hrm : C.2.2.2.1.frames = 3 ∧ C.2.2.2.1.locals = 72) (c1 : S.1 l0 = 33) (hM : M13_26 C.2.1 mc ms pp qq) (hp : pp l0 l2 1 S V) (hc : nc + mc ≤ C.2.2.2.1.cells) (hs : ns + ms ≤ C.2.2.2.1.slots) (k : ∀ (S' : jS) (V' : jH), qq l0 l2 1 S V S' V' → j_ok n_KT 9 C G 335 [(0, (2, l0)), (3, (0, l3)), (4, (0, l4))] [] S' V' (nc + mc) (ns + ms)) : j_ok n_KT 9 C G 329 [(0, (2, l0)), (2, (0, l2)), (3, (0, l3)), (4, (0, l4))] [] S V nc ns := by
  have E := n_E h
  refine j_aload_n E d13_27_329 rfl 0 rfl ?_
  refine j_iload_n E d13_27_330 rfl 1 rfl ?_
  refine j_iconst E d13_27_331 (by decide) ?_
  refine j_call E (K13_27_332 h hrm hM) d13_27_332 (a := [(2, l0), (0, l2), (0, 1)]) (sk := []) rfl ⟨l0, l2, 1, rfl, c1, hp⟩ (Nat.le_of_ble_eq_true rfl) hc hs ?_
  rintro rs S' V' ⟨z0, z1, z2, e1, rfl, q⟩
  simp only [List.cons.injEq, Prod.mk.injEq, and_true, true_and] at e1
  obtain ⟨rfl, rfl, rfl⟩ := e1
  exact j_pick [0, 2, 3] rfl (k S' V' q)
theorem t13_27_335 {C : qCx} {G : jG} {S : jS} {V : jH} {nc ns : Nat} {l0 l3 l4 : Int} {mc ms : Nat} {pp : Int → Int → Int → jS → jH → Prop} {qq : Int → Int → Int → jS → jH → jS → jH → Prop} (h : x13_27 C G) (hrm : C.2.2.2.1.frames = 3 ∧ C.2.2.2.1.locals = 72) (c1 : S.1 l0 = 33) (hM : M13_26 C.2.1 mc ms pp qq) (hp : pp l0 l3 1 S V) (hc : nc + mc ≤ C.2.2.2.1.cells) (hs : ns + ms ≤ C.2.2.2.1.slots) (k : ∀ (S' : jS) (V' : jH), qq l0 l3 1 S V S' V' → j_ok n_KT 9 C G 341 [(0, (2, l0)), (3, (0, l3)), (4, (0, l4))] [] S' V' (nc + mc) (ns + ms)) : j_ok n_KT 9 C G 335 [(0, (2, l0)), (3, (0, l3)), (4, (0, l4))] [] S V nc ns := by
  have E := n_E h
  refine j_aload_n E d13_27_335 rfl 0 rfl ?_
  refine j_iload_n E d13_27_336 rfl 1 rfl ?_
  refine j_iconst E d13_27_337 (by decide) ?_
  refine j_call E (K13_27_338 h hrm hM) d13_27_338 (a := [(2, l0), (0, l3), (0, 1)]) (sk := []) rfl ⟨l0, l3, 1, rfl, c1, hp⟩ (Nat.le_of_ble_eq_true rfl) hc hs ?_
  rintro rs S' V' ⟨z0, z1, z2, e1, rfl, q⟩
  simp only [List.cons.injEq, Prod.mk.injEq, and_true, true_and] at e1
  obtain ⟨rfl, rfl, rfl⟩ := e1
  exact j_pick [0, 1, 2] rfl (k S' V' q)
theorem t13_27_341 {C : qCx} {G : jG} {S : jS} {V : jH} {nc ns : Nat} {l0 l3 l4 : Int} {mc ms : Nat} {pp : Int → Int → Int → jS → jH → Prop} {qq : Int → Int → Int → jS → jH → jS → jH → Prop} (h : x13_27 C G) (hrm : C.2.2.2.1.frames = 3 ∧ C.2.2.2.1.locals = 72) (c1 : S.1 l0 = 33) (hM : M13_26 C.2.1 mc ms pp qq) (hp : pp l0 l4 2 S V) (hc : nc + mc ≤ C.2.2.2.1.cells) (hs : ns + ms ≤ C.2.2.2.1.slots) (k : ∀ (S' : jS) (V' : jH), qq l0 l4 2 S V S' V' → j_ok n_KT 9 C G 348 [(0, (2, l0)), (3, (0, l3))] [] S' V' (nc + mc) (ns + ms)) : j_ok n_KT 9 C G 341 [(0, (2, l0)), (3, (0, l3)), (4, (0, l4))] [] S V nc ns := by
  have E := n_E h
  refine j_aload_n E d13_27_341 rfl 0 rfl ?_
  refine j_iload E d13_27_342 2 rfl ?_
  refine j_iconst E d13_27_344 (by decide) ?_
  refine j_call E (K13_27_345 h hrm hM) d13_27_345 (a := [(2, l0), (0, l4), (0, 2)]) (sk := []) rfl ⟨l0, l4, 2, rfl, c1, hp⟩ (Nat.le_of_ble_eq_true rfl) hc hs ?_
  rintro rs S' V' ⟨z0, z1, z2, e1, rfl, q⟩
  simp only [List.cons.injEq, Prod.mk.injEq, and_true, true_and] at e1
  obtain ⟨rfl, rfl, rfl⟩ := e1
  exact j_pick [0, 1] rfl (k S' V' q)
theorem t13_27_348 {C : qCx} {G : jG} {S : jS} {V : jH} {nc ns : Nat} {l0 l3 : Int} (h : x13_27 C G)  (k : j_ok n_KT 9 C G 351 [(0, (2, l0)), (3, (0, l3)), (6, (0, 0))] [] S V nc ns) : j_ok n_KT 9 C G 348 [(0, (2, l0)), (3, (0, l3))] [] S V nc ns := by
  have E := n_E h
  refine j_iconst E d13_27_348 (by decide) ?_
  refine j_istore E d13_27_349 (by decide) (lo1 := [(0, (2, l0)), (3, (0, l3))]) rfl ?_
  exact j_pick [1, 2, 0] rfl k
theorem t13_27_351 {C : qCx} {G : jG} {S : jS} {V : jH} {nc ns : Nat} {l0 l3 l6 : Int} (h : x13_27 C G) (c1 : S.1 l0 = 33) (k : ¬ V l0 9 = 3 → j_ok n_KT 9 C G 365 [(0, (2, l0)), (3, (0, l3)), (6, (0, l6))] [(0, l6)] S V nc ns) (k' : V l0 9 = 3 → j_ok n_KT 9 C G 361 [(0, (2, l0)), (3, (0, l3)), (6, (0, l6))] [(0, l6)] S V nc ns) : j_ok n_KT 9 C G 351 [(0, (2, l0)), (3, (0, l3)), (6, (0, l6))] [] S V nc ns := by
  have E := n_E h
  refine j_iload E d13_27_351 2 rfl ?_
  refine j_aload_n E d13_27_353 rfl 0 rfl ?_
  refine j_getI (f := 9) (fg12_149 h) d13_27_354 c1 (by decide) rfl rfl ?_
  refine j_iconst E d13_27_357 (by decide) ?_
  exact j_icmp_ne E d13_27_358 (t := 365) rfl (fun q => j_pick [0, 1, 2] rfl (k q)) (fun q => j_pick [0, 1, 2] rfl (k' q))
theorem t13_27_361 {C : qCx} {G : jG} {S : jS} {V : jH} {nc ns : Nat} {l0 l3 l6 s0 : Int} (h : x13_27 C G)  (k : j_ok n_KT 9 C G 385 [(0, (2, l0)), (3, (0, l3)), (6, (0, l6))] [(0, 4), (0, s0)] S V nc ns) : j_ok n_KT 9 C G 361 [(0, (2, l0)), (3, (0, l3)), (6, (0, l6))] [(0, s0)] S V nc ns := by
  have E := n_E h
  refine j_iconst E d13_27_361 (by decide) ?_
  refine j_goto E d13_27_362 (t := 385) rfl ?_
  exact j_pick [0, 1, 2] rfl k
theorem t13_27_365 {C : qCx} {G : jG} {S : jS} {V : jH} {nc ns : Nat} {l0 l3 l6 s0 : Int} (h : x13_27 C G) (c1 : S.1 l0 = 33) (k : V l0 9 = 0 → j_ok n_KT 9 C G 380 [(0, (2, l0)), (3, (0, l3)), (6, (0, l6))] [(0, s0)] S V nc ns) (k' : ¬ V l0 9 = 0 → j_ok n_KT 9 C G 372 [(0, (2, l0)), (3, (0, l3)), (6, (0, l6))] [(0, s0)] S V nc ns) : j_ok n_KT 9 C G 365 [(0, (2, l0)), (3, (0, l3)), (6, (0, l6))] [(0, s0)] S V nc ns := by
  have E := n_E h
  refine j_aload_n E d13_27_365 rfl 0 rfl ?_
  refine j_getI (f := 9) (fg12_149 h) d13_27_366 c1 (by decide) rfl rfl ?_
  exact j_if_eq E d13_27_369 (t := 380) rfl (fun q => j_pick [0, 1, 2] rfl (k q)) (fun q => j_pick [0, 1, 2] rfl (k' q))
theorem t13_27_372 {C : qCx} {G : jG} {S : jS} {V : jH} {nc ns : Nat} {l0 l3 l6 s0 : Int} (h : x13_27 C G) (c1 : S.1 l0 = 33) (k : ¬ V l0 9 = 2 → j_ok n_KT 9 C G 384 [(0, (2, l0)), (3, (0, l3)), (6, (0, l6))] [(0, s0)] S V nc ns) (k' : V l0 9 = 2 → j_ok n_KT 9 C G 380 [(0, (2, l0)), (3, (0, l3)), (6, (0, l6))] [(0, s0)] S V nc ns) : j_ok n_KT 9 C G 372 [(0, (2, l0)), (3, (0, l3)), (6, (0, l6))] [(0, s0)] S V nc ns := by
  have E := n_E h
  refine j_aload_n E d13_27_372 rfl 0 rfl ?_
  refine j_getI (f := 9) (fg12_149 h) d13_27_373 c1 (by decide) rfl rfl ?_
  refine j_iconst E d13_27_376 (by decide) ?_
  exact j_icmp_ne E d13_27_377 (t := 384) rfl (fun q => j_pick [0, 1, 2] rfl (k q)) (fun q => j_pick [0, 1, 2] rfl (k' q))
theorem t13_27_380 {C : qCx} {G : jG} {S : jS} {V : jH} {nc ns : Nat} {l0 l3 l6 s0 : Int} (h : x13_27 C G)  (k : j_ok n_KT 9 C G 385 [(0, (2, l0)), (3, (0, l3)), (6, (0, l6))] [(0, 1), (0, s0)] S V nc ns) : j_ok n_KT 9 C G 380 [(0, (2, l0)), (3, (0, l3)), (6, (0, l6))] [(0, s0)] S V nc ns := by
  have E := n_E h
  refine j_iconst E d13_27_380 (by decide) ?_
  refine j_goto E d13_27_381 (t := 385) rfl ?_
  exact j_pick [0, 1, 2] rfl k
theorem t13_27_384 {C : qCx} {G : jG} {S : jS} {V : jH} {nc ns : Nat} {l0 l3 l6 s0 : Int} (h : x13_27 C G)  (k : j_ok n_KT 9 C G 385 [(0, (2, l0)), (3, (0, l3)), (6, (0, l6))] [(0, 0), (0, s0)] S V nc ns) : j_ok n_KT 9 C G 384 [(0, (2, l0)), (3, (0, l3)), (6, (0, l6))] [(0, s0)] S V nc ns := by
  have E := n_E h
  refine j_iconst E d13_27_384 (by decide) ?_
  exact j_pick [0, 1, 2] rfl k
theorem t13_27_385 {C : qCx} {G : jG} {S : jS} {V : jH} {nc ns : Nat} {l0 l3 l6 s0 s1 : Int} (h : x13_27 C G)  (k : s0 ≤ s1 → j_ok n_KT 9 C G 400 [(0, (2, l0)), (3, (0, l3))] [] S V nc ns) (k' : s1 < s0 → j_ok n_KT 9 C G 388 [(0, (2, l0)), (3, (0, l3)), (6, (0, l6))] [] S V nc ns) : j_ok n_KT 9 C G 385 [(0, (2, l0)), (3, (0, l3)), (6, (0, l6))] [(0, s0), (0, s1)] S V nc ns := by
  have E := n_E h
  exact j_icmp_ge E d13_27_385 (t := 400) rfl (fun q => j_pick [0, 1] rfl (k q)) (fun q => j_pick [0, 1, 2] rfl (k' q))
theorem t13_27_388 {C : qCx} {G : jG} {S : jS} {V : jH} {nc ns : Nat} {l0 l3 l6 : Int} {mc ms : Nat} {pp : Int → Int → jS → jH → Prop} {qq : Int → Int → jS → jH → jS → jH → Prop} (h : x13_27 C G) (hrm : C.2.2.2.1.frames = 3 ∧ C.2.2.2.1.locals = 72) (c1 : S.1 l0 = 33) (hM : M13_28 C.2.1 mc ms pp qq) (hp : pp l0 l6 S V) (hc : nc + mc ≤ C.2.2.2.1.cells) (hs : ns + ms ≤ C.2.2.2.1.slots) (k : ∀ (S' : jS) (V' : jH), qq l0 l6 S V S' V' → j_ok n_KT 9 C G 394 [(0, (2, l0)), (3, (0, l3)), (6, (0, l6))] [] S' V' (nc + mc) (ns + ms)) : j_ok n_KT 9 C G 388 [(0, (2, l0)), (3, (0, l3)), (6, (0, l6))] [] S V nc ns := by
  have E := n_E h
  refine j_aload_n E d13_27_388 rfl 0 rfl ?_
  refine j_iload E d13_27_389 2 rfl ?_
  refine j_call E (K13_27_391 h hrm hM) d13_27_391 (a := [(2, l0), (0, l6)]) (sk := []) rfl ⟨l0, l6, rfl, c1, hp⟩ (Nat.le_of_ble_eq_true rfl) hc hs ?_
  rintro rs S' V' ⟨z0, z1, e1, rfl, q⟩
  simp only [List.cons.injEq, Prod.mk.injEq, and_true, true_and] at e1
  obtain ⟨rfl, rfl⟩ := e1
  exact j_pick [0, 1, 2] rfl (k S' V' q)
theorem t13_27_394 {C : qCx} {G : jG} {S : jS} {V : jH} {nc ns : Nat} {l0 l3 l6 : Int} (h : x13_27 C G) (c1 : -2147483648 ≤ l6 + 1 ∧ l6 + 1 ≤ 2147483647) (k : j_ok n_KT 9 C G 351 [(0, (2, l0)), (3, (0, l3)), (6, (0, l6 + 1))] [] S V nc ns) : j_ok n_KT 9 C G 394 [(0, (2, l0)), (3, (0, l3)), (6, (0, l6))] [] S V nc ns := by
  have E := n_E h
  refine j_iinc E d13_27_394 (by decide) (by decide) 2 rfl (lo1 := [(0, (2, l0)), (3, (0, l3))]) rfl c1 ?_
  refine j_goto E d13_27_397 (t := 351) rfl ?_
  exact j_pick [1, 2, 0] rfl k
theorem t13_27_400 {C : qCx} {G : jG} {S : jS} {V : jH} {nc ns : Nat} {l0 l3 : Int} (h : x13_27 C G)  (k : j_ok n_KT 9 C G 403 [(0, (2, l0)), (3, (0, l3)), (6, (0, 0))] [] S V nc ns) : j_ok n_KT 9 C G 400 [(0, (2, l0)), (3, (0, l3))] [] S V nc ns := by
  have E := n_E h
  refine j_iconst E d13_27_400 (by decide) ?_
  refine j_istore E d13_27_401 (by decide) (lo1 := [(0, (2, l0)), (3, (0, l3))]) rfl ?_
  exact j_pick [1, 2, 0] rfl k
theorem t13_27_403 {C : qCx} {G : jG} {S : jS} {V : jH} {nc ns : Nat} {l0 l3 l6 : Int} (h : x13_27 C G)  (k : l3 ≤ l6 → j_ok n_KT 9 C G 428 [(0, (2, l0))] [] S V nc ns) (k' : l6 < l3 → j_ok n_KT 9 C G 409 [(0, (2, l0)), (3, (0, l3)), (6, (0, l6))] [] S V nc ns) : j_ok n_KT 9 C G 403 [(0, (2, l0)), (3, (0, l3)), (6, (0, l6))] [] S V nc ns := by
  have E := n_E h
  refine j_iload E d13_27_403 2 rfl ?_
  refine j_iload_n E d13_27_405 rfl 1 rfl ?_
  exact j_icmp_ge E d13_27_406 (t := 428) rfl (fun q => j_pick [0] rfl (k q)) (fun q => j_pick [0, 1, 2] rfl (k' q))
theorem t13_27_409 {C : qCx} {G : jG} {S : jS} {V : jH} {nc ns : Nat} {l0 l3 l6 : Int} {mc ms : Nat} {pp : Int → Int → Int → jS → jH → Prop} {qq : Int → Int → Int → jS → jH → jS → jH → Prop} (h : x13_27 C G) (L : j_L S) (hrm : C.2.2.2.1.frames = 3 ∧ C.2.2.2.1.locals = 72) (c1 : S.1 l0 = 33) (c2 : 0 ≤ l6) (c3 : l6 < 4) (hM : M13_26 C.2.1 mc ms pp qq) (hp : pp l0 (j_w32 (V (l0 + 24) l6)) 3 S V) (hc : nc + mc ≤ C.2.2.2.1.cells) (hs : ns + ms ≤ C.2.2.2.1.slots) (k : ∀ (S' : jS) (V' : jH), qq l0 (j_w32 (V (l0 + 24) l6)) 3 S V S' V' → j_ok n_KT 9 C G 422 [(0, (2, l0)), (3, (0, l3)), (6, (0, l6))] [] S' V' (nc + mc) (ns + ms)) : j_ok n_KT 9 C G 409 [(0, (2, l0)), (3, (0, l3)), (6, (0, l6))] [] S V nc ns := by
  have E := n_E h
  refine j_aload_n E d13_27_409 rfl 0 rfl ?_
  refine j_aload_n E d13_27_410 rfl 0 rfl ?_
  refine j_getS (f := 16) (x := l0 + 24) (fg12_41 h) d13_27_411 c1 (by decide) rfl rfl ((L12_16 L c1).trans (by omega)) ?_
  refine j_iload E d13_27_414 2 rfl ?_
  refine j_lald E d13_27_416 (j_arrL_of (show S.1 (l0 + 24) = 15 from (by have q := L12_16k L c1; rw [show l0 + 24 = l0 + 24 by omega]; exact q)) (by decide) rfl) c2 c3 ?_
  refine j_l2i E d13_27_417 ?_
  refine j_iconst E d13_27_418 (by decide) ?_
  refine j_call E (K13_27_419 h hrm hM) d13_27_419 (a := [(2, l0), (0, j_w32 (V (l0 + 24) l6)), (0, 3)]) (sk := []) rfl ⟨l0, j_w32 (V (l0 + 24) l6), 3, rfl, c1, hp⟩ (Nat.le_of_ble_eq_true rfl) hc hs ?_
  rintro rs S' V' ⟨z0, z1, z2, e1, rfl, q⟩
  simp only [List.cons.injEq, Prod.mk.injEq, and_true, true_and] at e1
  obtain ⟨rfl, rfl, rfl⟩ := e1
  exact j_pick [0, 1, 2] rfl (k S' V' q)
theorem t13_27_422 {C : qCx} {G : jG} {S : jS} {V : jH} {nc ns : Nat} {l0 l3 l6 : Int} (h : x13_27 C G) (c1 : -2147483648 ≤ l6 + 1 ∧ l6 + 1 ≤ 2147483647) (k : j_ok n_KT 9 C G 403 [(0, (2, l0)), (3, (0, l3)), (6, (0, l6 + 1))] [] S V nc ns) : j_ok n_KT 9 C G 422 [(0, (2, l0)), (3, (0, l3)), (6, (0, l6))] [] S V nc ns := by
  have E := n_E h
  refine j_iinc E d13_27_422 (by decide) (by decide) 2 rfl (lo1 := [(0, (2, l0)), (3, (0, l3))]) rfl c1 ?_
  refine j_goto E d13_27_425 (t := 403) rfl ?_
  exact j_pick [1, 2, 0] rfl k
theorem t13_27_428 {C : qCx} {G : jG} {S : jS} {V : jH} {nc ns : Nat} {l0 : Int} {mc ms : Nat} {pp : Int → Int → Int → jS → jH → Prop} {qq : Int → Int → Int → jS → jH → jS → jH → Prop} (h : x13_27 C G) (hrm : C.2.2.2.1.frames = 3 ∧ C.2.2.2.1.locals = 72) (c1 : S.1 l0 = 33) (hM : M13_26 C.2.1 mc ms pp qq) (hp : pp l0 (V l0 18) 2 S V) (hc : nc + mc ≤ C.2.2.2.1.cells) (hs : ns + ms ≤ C.2.2.2.1.slots) (k : ∀ (S' : jS) (V' : jH), qq l0 (V l0 18) 2 S V S' V' → j_ok n_KT 9 C G 437 [(0, (2, l0))] [] S' V' (nc + mc) (ns + ms)) : j_ok n_KT 9 C G 428 [(0, (2, l0))] [] S V nc ns := by
  have E := n_E h
  refine j_aload_n E d13_27_428 rfl 0 rfl ?_
  refine j_aload_n E d13_27_429 rfl 0 rfl ?_
  refine j_getI (f := 18) (fg12_174 h) d13_27_430 c1 (by decide) rfl rfl ?_
  refine j_iconst E d13_27_433 (by decide) ?_
  refine j_call E (K13_27_434 h hrm hM) d13_27_434 (a := [(2, l0), (0, V l0 18), (0, 2)]) (sk := []) rfl ⟨l0, V l0 18, 2, rfl, c1, hp⟩ (Nat.le_of_ble_eq_true rfl) hc hs ?_
  rintro rs S' V' ⟨z0, z1, z2, e1, rfl, q⟩
  simp only [List.cons.injEq, Prod.mk.injEq, and_true, true_and] at e1
  obtain ⟨rfl, rfl, rfl⟩ := e1
  exact j_pick [0] rfl (k S' V' q)
theorem t13_27_437 {C : qCx} {G : jG} {S : jS} {V : jH} {nc ns : Nat} {l0 : Int} (h : x13_27 C G)  (k : j_ok n_KT 9 C G 440 [(0, (2, l0)), (6, (0, 0))] [] S V nc ns) : j_ok n_KT 9 C G 437 [(0, (2, l0))] [] S V nc ns := by
  have E := n_E h
  refine j_iconst E d13_27_437 (by decide) ?_
  refine j_istore E d13_27_438 (by decide) (lo1 := [(0, (2, l0))]) rfl ?_
  exact j_pick [1, 0] rfl k
theorem t13_27_440 {C : qCx} {G : jG} {S : jS} {V : jH} {nc ns : Nat} {l0 l6 : Int} (h : x13_27 C G) (c1 : S.1 l0 = 33) (k : V l0 18 ≤ l6 → j_ok n_KT 9 C G 467 [(0, (2, l0))] [] S V nc ns) (k' : l6 < V l0 18 → j_ok n_KT 9 C G 449 [(0, (2, l0)), (6, (0, l6))] [] S V nc ns) : j_ok n_KT 9 C G 440 [(0, (2, l0)), (6, (0, l6))] [] S V nc ns := by
  have E := n_E h
  refine j_iload E d13_27_440 1 rfl ?_
  refine j_aload_n E d13_27_442 rfl 0 rfl ?_
  refine j_getI (f := 18) (fg12_174 h) d13_27_443 c1 (by decide) rfl rfl ?_
  exact j_icmp_ge E d13_27_446 (t := 467) rfl (fun q => j_pick [0] rfl (k q)) (fun q => j_pick [0, 1] rfl (k' q))
theorem t13_27_449 {C : qCx} {G : jG} {S : jS} {V : jH} {nc ns : Nat} {l0 l6 : Int} {mc ms : Nat} {pp : Int → Int → Int → jS → jH → Prop} {qq : Int → Int → Int → jS → jH → jS → jH → Prop} (h : x13_27 C G) (L : j_L S) (hrm : C.2.2.2.1.frames = 3 ∧ C.2.2.2.1.locals = 72) (c1 : S.1 l0 = 33) (c2 : 0 ≤ l6) (c3 : l6 < 1200) (hM : M13_26 C.2.1 mc ms pp qq) (hp : pp l0 (V (l0 + 25) l6) 1 S V) (hc : nc + mc ≤ C.2.2.2.1.cells) (hs : ns + ms ≤ C.2.2.2.1.slots) (k : ∀ (S' : jS) (V' : jH), qq l0 (V (l0 + 25) l6) 1 S V S' V' → j_ok n_KT 9 C G 461 [(0, (2, l0)), (6, (0, l6))] [] S' V' (nc + mc) (ns + ms)) : j_ok n_KT 9 C G 449 [(0, (2, l0)), (6, (0, l6))] [] S V nc ns := by
  have E := n_E h
  refine j_aload_n E d13_27_449 rfl 0 rfl ?_
  refine j_aload_n E d13_27_450 rfl 0 rfl ?_
  refine j_getS (f := 17) (x := l0 + 25) (fg12_45 h) d13_27_451 c1 (by decide) rfl rfl ((L12_17 L c1).trans (by omega)) ?_
  refine j_iload E d13_27_454 1 rfl ?_
  refine j_iald E d13_27_456 (j_arr_of (show S.1 (l0 + 25) = 13 from (by have q := L12_17k L c1; rw [show l0 + 25 = l0 + 25 by omega]; exact q)) (by decide) rfl) c2 c3 ?_
  refine j_iconst E d13_27_457 (by decide) ?_
  refine j_call E (K13_27_458 h hrm hM) d13_27_458 (a := [(2, l0), (0, V (l0 + 25) l6), (0, 1)]) (sk := []) rfl ⟨l0, V (l0 + 25) l6, 1, rfl, c1, hp⟩ (Nat.le_of_ble_eq_true rfl) hc hs ?_
  rintro rs S' V' ⟨z0, z1, z2, e1, rfl, q⟩
  simp only [List.cons.injEq, Prod.mk.injEq, and_true, true_and] at e1
  obtain ⟨rfl, rfl, rfl⟩ := e1
  exact j_pick [0, 1] rfl (k S' V' q)
theorem t13_27_461 {C : qCx} {G : jG} {S : jS} {V : jH} {nc ns : Nat} {l0 l6 : Int} (h : x13_27 C G) (c1 : -2147483648 ≤ l6 + 1 ∧ l6 + 1 ≤ 2147483647) (k : j_ok n_KT 9 C G 440 [(0, (2, l0)), (6, (0, l6 + 1))] [] S V nc ns) : j_ok n_KT 9 C G 461 [(0, (2, l0)), (6, (0, l6))] [] S V nc ns := by
  have E := n_E h
  refine j_iinc E d13_27_461 (by decide) (by decide) 1 rfl (lo1 := [(0, (2, l0))]) rfl c1 ?_
  refine j_goto E d13_27_464 (t := 440) rfl ?_
  exact j_pick [1, 0] rfl k
theorem t13_27_467 {C : qCx} {G : jG} {S : jS} {V : jH} {nc ns : Nat} {l0 : Int} {mc ms : Nat} {pp : Int → Int → jS → jH → Prop} {qq : Int → Int → jS → jH → Int → jS → jH → Prop} (h : x13_27 C G) (L : j_L S) (hrm : C.2.2.2.1.frames = 3 ∧ C.2.2.2.1.locals = 72) (c1 : S.1 l0 = 33) (hM : M13_29 C.2.1 mc ms pp qq) (hp : pp (l0 + 26) (V l0 20) S V) (hc : nc + mc ≤ C.2.2.2.1.cells) (hs : ns + ms ≤ C.2.2.2.1.slots) (k : ∀ (r : Int) (S' : jS) (V' : jH), qq (l0 + 26) (V l0 20) S V r S' V' → j_ok n_KT 9 C G 479 [] [(0, r), (2, l0)] S' V' (nc + mc) (ns + ms)) : j_ok n_KT 9 C G 467 [(0, (2, l0))] [] S V nc ns := by
  have E := n_E h
  refine j_aload_n E d13_27_467 rfl 0 rfl ?_
  refine j_aload_n E d13_27_468 rfl 0 rfl ?_
  refine j_getS (f := 19) (x := l0 + 26) (fg12_48 h) d13_27_469 c1 (by decide) rfl rfl ((L12_19 L c1).trans (by omega)) ?_
  refine j_aload_n E d13_27_472 rfl 0 rfl ?_
  refine j_getI (f := 20) (fg12_161 h) d13_27_473 c1 (by decide) rfl rfl ?_
  refine j_call E (K13_27_476 h hrm hM) d13_27_476 (a := [(2, l0 + 26), (0, V l0 20)]) (sk := [(2, l0)]) rfl ⟨l0 + 26, V l0 20, rfl, hp⟩ (Nat.le_of_ble_eq_true rfl) hc hs ?_
  rintro rs S' V' ⟨z0, z1, r, e1, rfl, q⟩
  simp only [List.cons.injEq, Prod.mk.injEq, and_true, true_and] at e1
  obtain ⟨rfl, rfl⟩ := e1
  exact j_pick [] rfl (k r S' V' q)
theorem t13_27_479 {C : qCx} {G : jG} {S : jS} {V : jH} {nc ns : Nat} {s0 s1 : Int} {mc ms : Nat} {pp : Int → Int → Int → jS → jH → Prop} {qq : Int → Int → Int → jS → jH → jS → jH → Prop} (h : x13_27 C G) (hrm : C.2.2.2.1.frames = 3 ∧ C.2.2.2.1.locals = 72) (c1 : S.1 s1 = 33) (hM : M13_26 C.2.1 mc ms pp qq) (hp : pp s1 s0 2 S V) (hc : nc + mc ≤ C.2.2.2.1.cells) (hs : ns + ms ≤ C.2.2.2.1.slots) (k : ∀ (S' : jS) (V' : jH), qq s1 s0 2 S V S' V' → j_ok n_KT 9 C G 483 [] [] S' V' (nc + mc) (ns + ms)) : j_ok n_KT 9 C G 479 [] [(0, s0), (2, s1)] S V nc ns := by
  have E := n_E h
  refine j_iconst E d13_27_479 (by decide) ?_
  refine j_call E (K13_27_480 h hrm hM) d13_27_480 (a := [(2, s1), (0, s0), (0, 2)]) (sk := []) rfl ⟨s1, s0, 2, rfl, c1, hp⟩ (Nat.le_of_ble_eq_true rfl) hc hs ?_
  rintro rs S' V' ⟨z0, z1, z2, e1, rfl, q⟩
  simp only [List.cons.injEq, Prod.mk.injEq, and_true, true_and] at e1
  obtain ⟨rfl, rfl, rfl⟩ := e1
  exact j_pick [] rfl (k S' V' q)
theorem t13_27_483 {C : qCx} {G : jG} {S : jS} {V : jH} {nc ns : Nat} {mc ms : Nat} {qf : Int → jS → jH → Prop} (h : x13_27 C G)  (R : j_Ri n_KT 9 C G b_13_27 mc ms qf) (q : qf ((-1)) S V) (hc : nc ≤ mc) (hs : ns ≤ ms) : j_ok n_KT 9 C G 483 [] [] S V nc ns := by
  have E := n_E h
  refine j_iconst E d13_27_483 (by decide) ?_
  exact R _ _ _ _ _ _ _ d13_27_484 q hc hs
