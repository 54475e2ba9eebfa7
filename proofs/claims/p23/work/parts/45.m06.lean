/- BalanceCoder$Whole.become(LBalanceCoder$Whole;)V -/
abbrev b_11_3 : ByteArray := prog_11_method_3_code
def y_11_3 : MethodName := ⟨"BalanceCoder$Whole", "become", "(LBalanceCoder$Whole;)V"⟩
abbrev x11_3 (C : qCx) (G : jG) : Prop := n_ctx C b_11_3 3 "BalanceCoder$Whole" G.1 G.2.1
def M11_3 (l : Launch) (mc ms : Nat) (p : Int → Int → jS → jH → Prop) (q : Int → Int → jS → jH → jS → jH → Prop) : Prop := j_Met l vwCl n_TL n_NW n_KT y_11_3 (Cond.code y_11_3 b_11_3 3 none :: n_GW) { frames := 4, cells := mc, slots := ms, locals := 88 } mc ms (fun a S V => ∃ u0 u1 : Int, a = [(2, u0), (2, u1)] ∧ S.1 u0 = 30 ∧ p u0 u1 S V) (fun a S V rs S' V' => ∃ u0 u1 : Int, a = [(2, u0), (2, u1)] ∧ rs = [] ∧ q u0 u1 S V S' V')
theorem e11_3 {l : Launch} {mc ms : Nat} {p : Int → Int → jS → jH → Prop} {q : Int → Int → jS → jH → jS → jH → Prop} (body : ∀ (C : qCx) (G : jG), x11_3 C G → C.2.2.2.1.frames = 4 ∧ C.2.2.2.1.locals = 88 → C.2.2.2.1.cells = mc ∧ C.2.2.2.1.slots = ms → C.2.1 = l → C.2.2.2.2.2.2.2.2.1.name = "become" → ∀ (u0 u1 : Int) (S : jS) (V : jH), S.1 u0 = 30 → p u0 u1 S V → j_Rv n_KT 3 C G b_11_3 mc ms (q u0 u1 S V) → j_ok n_KT 3 C G 0 [(0, (2, u0)), (1, (2, u1))] [] S V 0 0) : M11_3 l mc ms p q := by
  refine j_method (ws' := n_GW) (by decide) rfl ?_ ?_
  · rintro a S V ⟨u0, u1, rfl, -⟩
    exact Nat.le_of_ble_eq_true rfl
  · rintro C G htl hl hrm hm hml ho hts hnm hE a S V ⟨u0, u1, rfl, ht, hp⟩ R
    exact body C G ⟨htl, hm, hml, ho, fun w hw => hts w (List.mem_cons_of_mem _ hw), hE⟩ (by rw [hrm]; exact ⟨rfl, rfl⟩) (by rw [hrm]; exact ⟨rfl, rfl⟩) hl hnm u0 u1 S V ht hp (fun pc lo S' V' nc ns d q hc hs => R.1 rfl pc lo S' V' nc ns d ⟨u0, u1, rfl, rfl, q⟩ hc hs)
theorem d11_3_0 : decode b_11_3 0 = .ok (.iconst 0, 1) := by decide +kernel
theorem d11_3_1 : decode b_11_3 1 = .ok (.istore_n 2, 1) := by decide +kernel
theorem d11_3_2 : decode b_11_3 2 = .ok (.iload_n 2, 1) := by decide +kernel
theorem d11_3_3 : decode b_11_3 3 = .ok (.bipush 6, 2) := by decide +kernel
theorem d11_3_5 : decode b_11_3 5 = .ok (.if_icmp .ge 24, 3) := by decide +kernel
theorem d11_3_8 : decode b_11_3 8 = .ok (.aload_n 0, 1) := by decide +kernel
theorem d11_3_9 : decode b_11_3 9 = .ok (.getfield 11, 3) := by decide +kernel
theorem d11_3_12 : decode b_11_3 12 = .ok (.iload_n 2, 1) := by decide +kernel
theorem d11_3_13 : decode b_11_3 13 = .ok (.aaload, 1) := by decide +kernel
theorem d11_3_14 : decode b_11_3 14 = .ok (.aload_n 1, 1) := by decide +kernel
theorem d11_3_15 : decode b_11_3 15 = .ok (.getfield 11, 3) := by decide +kernel
theorem d11_3_18 : decode b_11_3 18 = .ok (.iload_n 2, 1) := by decide +kernel
theorem d11_3_19 : decode b_11_3 19 = .ok (.aaload, 1) := by decide +kernel
theorem d11_3_20 : decode b_11_3 20 = .ok (.invokevirtual 42, 3) := by decide +kernel
theorem d11_3_23 : decode b_11_3 23 = .ok (.iinc 2 1, 3) := by decide +kernel
theorem d11_3_26 : decode b_11_3 26 = .ok (.goto (-24), 3) := by decide +kernel
theorem d11_3_29 : decode b_11_3 29 = .ok (.iconst 0, 1) := by decide +kernel
theorem d11_3_30 : decode b_11_3 30 = .ok (.istore_n 2, 1) := by decide +kernel
theorem d11_3_31 : decode b_11_3 31 = .ok (.iload_n 2, 1) := by decide +kernel
theorem d11_3_32 : decode b_11_3 32 = .ok (.aload_n 1, 1) := by decide +kernel
theorem d11_3_33 : decode b_11_3 33 = .ok (.getfield 23, 3) := by decide +kernel
theorem d11_3_36 : decode b_11_3 36 = .ok (.if_icmp .ge 22, 3) := by decide +kernel
theorem d11_3_39 : decode b_11_3 39 = .ok (.aload_n 0, 1) := by decide +kernel
theorem d11_3_40 : decode b_11_3 40 = .ok (.iload_n 2, 1) := by decide +kernel
theorem d11_3_41 : decode b_11_3 41 = .ok (.invokevirtual 46, 3) := by decide +kernel
theorem d11_3_44 : decode b_11_3 44 = .ok (.aload_n 1, 1) := by decide +kernel
theorem d11_3_45 : decode b_11_3 45 = .ok (.iload_n 2, 1) := by decide +kernel
theorem d11_3_46 : decode b_11_3 46 = .ok (.invokevirtual 46, 3) := by decide +kernel
theorem d11_3_49 : decode b_11_3 49 = .ok (.invokevirtual 50, 3) := by decide +kernel
theorem d11_3_52 : decode b_11_3 52 = .ok (.iinc 2 1, 3) := by decide +kernel
theorem d11_3_55 : decode b_11_3 55 = .ok (.goto (-24), 3) := by decide +kernel
theorem d11_3_58 : decode b_11_3 58 = .ok (.aload_n 0, 1) := by decide +kernel
theorem d11_3_59 : decode b_11_3 59 = .ok (.aload_n 1, 1) := by decide +kernel
theorem d11_3_60 : decode b_11_3 60 = .ok (.getfield 23, 3) := by decide +kernel
theorem d11_3_63 : decode b_11_3 63 = .ok (.putfield 23, 3) := by decide +kernel
theorem d11_3_66 : decode b_11_3 66 = .ok (.aload_n 0, 1) := by decide +kernel
theorem d11_3_67 : decode b_11_3 67 = .ok (.getfield 30, 3) := by decide +kernel
theorem d11_3_70 : decode b_11_3 70 = .ok (.aload_n 1, 1) := by decide +kernel
theorem d11_3_71 : decode b_11_3 71 = .ok (.getfield 30, 3) := by decide +kernel
theorem d11_3_74 : decode b_11_3 74 = .ok (.invokevirtual 53, 3) := by decide +kernel
theorem d11_3_77 : decode b_11_3 77 = .ok (.aload_n 0, 1) := by decide +kernel
theorem d11_3_78 : decode b_11_3 78 = .ok (.aload_n 1, 1) := by decide +kernel
theorem d11_3_79 : decode b_11_3 79 = .ok (.getfield 34, 3) := by decide +kernel
theorem d11_3_82 : decode b_11_3 82 = .ok (.putfield 34, 3) := by decide +kernel
theorem d11_3_85 : decode b_11_3 85 = .ok (.aload_n 0, 1) := by decide +kernel
theorem d11_3_86 : decode b_11_3 86 = .ok (.aload_n 1, 1) := by decide +kernel
theorem d11_3_87 : decode b_11_3 87 = .ok (.getfield 37, 3) := by decide +kernel
theorem d11_3_90 : decode b_11_3 90 = .ok (.putfield 37, 3) := by decide +kernel
theorem d11_3_93 : decode b_11_3 93 = .ok (.return_, 1) := by decide +kernel
theorem K11_3_20 {C : qCx} {G : jG} {mc ms : Nat} {p : Int → Int → jS → jH → Prop} {q : Int → Int → jS → jH → jS → jH → Prop} (h : x11_3 C G) (hrm : C.2.2.2.1.frames = 4 ∧ C.2.2.2.1.locals = 88) (hM : M8_3 C.2.1 mc ms p q) : j_Call C b_11_3 n_KT G.1 G.2.1 3 (.invokevirtual 42) mc ms (fun a S V => ∃ u0 u1 : Int, a = [(2, u0), (2, u1)] ∧ S.1 u0 = 27 ∧ p u0 u1 S V) (fun a S V rs S' V' => ∃ u0 u1 : Int, a = [(2, u0), (2, u1)] ∧ rs = [] ∧ q u0 u1 S V S' V') := j_callV n_NWk h.2.2.2.2.2 h.1 hM ⟨h.2.1.1, h.2.1.2, h.2.2.1, h.2.2.2.1, h.2.2.2.2.1⟩ ⟨n_CB (y := y_8_3) (bytes := b_8_3) 1 h.2.2.2.2.1 n_w724 n_w721 n_w5 ⟨by decide, by decide, by decide +kernel⟩ rfl rfl ⟨by rw [hrm.1]; exact Nat.le_of_ble_eq_true rfl, by rw [hrm.2]; exact Nat.le_of_ble_eq_true rfl⟩, h.2.2.2.2.1 _ n_w722, h.2.2.2.2.1 _ n_w723⟩ (Cn := RX6) (fun a S V hP => by obtain ⟨u0, u1, rfl, e, -⟩ := hP; exact ⟨u0, _, 6, _, _, TX6, 2, rfl, rfl, by rw [e]; decide, by rw [e]; rfl, rfl⟩)
theorem K11_3_41 {C : qCx} {G : jG} {mc ms : Nat} {p : Int → Int → jS → jH → Prop} {q : Int → Int → jS → jH → Int → jS → jH → Prop} (h : x11_3 C G) (hrm : C.2.2.2.1.frames = 4 ∧ C.2.2.2.1.locals = 88) (hM : M11_2 C.2.1 mc ms p q) : j_Call C b_11_3 n_KT G.1 G.2.1 3 (.invokevirtual 46) mc ms (fun a S V => ∃ u0 u1 : Int, a = [(2, u0), (0, u1)] ∧ S.1 u0 = 30 ∧ p u0 u1 S V) (fun a S V rs S' V' => ∃ u0 u1 r : Int, a = [(2, u0), (0, u1)] ∧ rs = [(2, r)] ∧ q u0 u1 S V r S' V') := j_callV n_NWk h.2.2.2.2.2 h.1 hM ⟨h.2.1.1, h.2.1.2, h.2.2.1, h.2.2.2.1, h.2.2.2.2.1⟩ ⟨n_CB (y := y_11_2) (bytes := b_11_2) 1 h.2.2.2.2.1 n_w339 n_w725 n_w2 ⟨by decide, by decide, by decide +kernel⟩ rfl rfl ⟨by rw [hrm.1]; exact Nat.le_of_ble_eq_true rfl, by rw [hrm.2]; exact Nat.le_of_ble_eq_true rfl⟩, h.2.2.2.2.1 _ n_w337, h.2.2.2.2.1 _ n_w338⟩ (Cn := RX9) (fun a S V hP => by obtain ⟨u0, u1, rfl, e, -⟩ := hP; exact ⟨u0, _, 9, _, _, TX9, 6, rfl, rfl, by rw [e]; decide, by rw [e]; rfl, rfl⟩)
theorem K11_3_46 {C : qCx} {G : jG} {mc ms : Nat} {p : Int → Int → jS → jH → Prop} {q : Int → Int → jS → jH → Int → jS → jH → Prop} (h : x11_3 C G) (hrm : C.2.2.2.1.frames = 4 ∧ C.2.2.2.1.locals = 88) (hM : M11_2 C.2.1 mc ms p q) : j_Call C b_11_3 n_KT G.1 G.2.1 3 (.invokevirtual 46) mc ms (fun a S V => ∃ u0 u1 : Int, a = [(2, u0), (0, u1)] ∧ S.1 u0 = 30 ∧ p u0 u1 S V) (fun a S V rs S' V' => ∃ u0 u1 r : Int, a = [(2, u0), (0, u1)] ∧ rs = [(2, r)] ∧ q u0 u1 S V r S' V') := j_callV n_NWk h.2.2.2.2.2 h.1 hM ⟨h.2.1.1, h.2.1.2, h.2.2.1, h.2.2.2.1, h.2.2.2.2.1⟩ ⟨n_CB (y := y_11_2) (bytes := b_11_2) 1 h.2.2.2.2.1 n_w339 n_w725 n_w2 ⟨by decide, by decide, by decide +kernel⟩ rfl rfl ⟨by rw [hrm.1]; exact Nat.le_of_ble_eq_true rfl, by rw [hrm.2]; exact Nat.le_of_ble_eq_true rfl⟩, h.2.2.2.2.1 _ n_w337, h.2.2.2.2.1 _ n_w338⟩ (Cn := RX9) (fun a S V hP => by obtain ⟨u0, u1, rfl, e, -⟩ := hP; exact ⟨u0, _, 9, _, _, TX9, 6, rfl, rfl, by rw [e]; decide, by rw [e]; rfl, rfl⟩)
theorem K11_3_49 {C : qCx} {G : jG} {mc ms : Nat} {p : Int → Int → jS → jH → Prop} {q : Int → Int → jS → jH → jS → jH → Prop} (h : x11_3 C G) (hrm : C.2.2.2.1.frames = 4 ∧ C.2.2.2.1.locals = 88) (hM : M10_3 C.2.1 mc ms p q) : j_Call C b_11_3 n_KT G.1 G.2.1 3 (.invokevirtual 50) mc ms (fun a S V => ∃ u0 u1 : Int, a = [(2, u0), (2, u1)] ∧ S.1 u0 = 29 ∧ p u0 u1 S V) (fun a S V rs S' V' => ∃ u0 u1 : Int, a = [(2, u0), (2, u1)] ∧ rs = [] ∧ q u0 u1 S V S' V') := j_callV n_NWk h.2.2.2.2.2 h.1 hM ⟨h.2.1.1, h.2.1.2, h.2.2.1, h.2.2.2.1, h.2.2.2.2.1⟩ ⟨n_CB (y := y_10_3) (bytes := b_10_3) 1 h.2.2.2.2.1 n_w729 n_w726 n_w7 ⟨by decide, by decide, by decide +kernel⟩ rfl rfl ⟨by rw [hrm.1]; exact Nat.le_of_ble_eq_true rfl, by rw [hrm.2]; exact Nat.le_of_ble_eq_true rfl⟩, h.2.2.2.2.1 _ n_w727, h.2.2.2.2.1 _ n_w728⟩ (Cn := RX8) (fun a S V hP => by obtain ⟨u0, u1, rfl, e, -⟩ := hP; exact ⟨u0, _, 8, _, _, TX8, 3, rfl, rfl, by rw [e]; decide, by rw [e]; rfl, rfl⟩)
theorem K11_3_74 {C : qCx} {G : jG} {mc ms : Nat} {p : Int → Int → jS → jH → Prop} {q : Int → Int → jS → jH → jS → jH → Prop} (h : x11_3 C G) (hrm : C.2.2.2.1.frames = 4 ∧ C.2.2.2.1.locals = 88) (hM : M3_2 C.2.1 mc ms p q) : j_Call C b_11_3 n_KT G.1 G.2.1 3 (.invokevirtual 53) mc ms (fun a S V => ∃ u0 u1 : Int, a = [(2, u0), (2, u1)] ∧ S.1 u0 = 22 ∧ p u0 u1 S V) (fun a S V rs S' V' => ∃ u0 u1 : Int, a = [(2, u0), (2, u1)] ∧ rs = [] ∧ q u0 u1 S V S' V') := j_callV n_NWk h.2.2.2.2.2 h.1 hM ⟨h.2.1.1, h.2.1.2, h.2.2.1, h.2.2.2.1, h.2.2.2.2.1⟩ ⟨n_CB (y := y_3_2) (bytes := b_3_2) 1 h.2.2.2.2.1 n_w738 n_w735 n_w3 ⟨by decide, by decide, by decide +kernel⟩ rfl rfl ⟨by rw [hrm.1]; exact Nat.le_of_ble_eq_true rfl, by rw [hrm.2]; exact Nat.le_of_ble_eq_true rfl⟩, h.2.2.2.2.1 _ n_w736, h.2.2.2.2.1 _ n_w737⟩ (Cn := RX1) (fun a S V hP => by obtain ⟨u0, u1, rfl, e, -⟩ := hP; exact ⟨u0, _, 1, _, _, TX1, 5, rfl, rfl, by rw [e]; decide, by rw [e]; rfl, rfl⟩)
theorem t11_3_0 {C : qCx} {G : jG} {S : jS} {V : jH} {nc ns : Nat} {l0 l1 : Int} (h : x11_3 C G)  (k : j_ok n_KT 3 C G 2 [(0, (2, l0)), (1, (2, l1)), (2, (0, 0))] [] S V nc ns) : j_ok n_KT 3 C G 0 [(0, (2, l0)), (1, (2, l1))] [] S V nc ns := by
  have E := n_E h
  refine j_iconst E d11_3_0 (by decide) ?_
  refine j_istore_n E d11_3_1 rfl (by decide) (lo1 := [(0, (2, l0)), (1, (2, l1))]) rfl ?_
  exact j_pick [1, 2, 0] rfl k
theorem t11_3_2 {C : qCx} {G : jG} {S : jS} {V : jH} {nc ns : Nat} {l0 l1 l2 : Int} (h : x11_3 C G)  (k : 6 ≤ l2 → j_ok n_KT 3 C G 29 [(0, (2, l0)), (1, (2, l1))] [] S V nc ns) (k' : l2 < 6 → j_ok n_KT 3 C G 8 [(0, (2, l0)), (1, (2, l1)), (2, (0, l2))] [] S V nc ns) : j_ok n_KT 3 C G 2 [(0, (2, l0)), (1, (2, l1)), (2, (0, l2))] [] S V nc ns := by
  have E := n_E h
  refine j_iload_n E d11_3_2 rfl 2 rfl ?_
  refine j_bipush E d11_3_3 (by decide) ?_
  exact j_icmp_ge E d11_3_5 (t := 29) rfl (fun q => j_pick [0, 1] rfl (k q)) (fun q => j_pick [0, 1, 2] rfl (k' q))
theorem t11_3_8 {C : qCx} {G : jG} {S : jS} {V : jH} {nc ns : Nat} {l0 l1 l2 : Int} {mc ms : Nat} {pp : Int → Int → jS → jH → Prop} {qq : Int → Int → jS → jH → jS → jH → Prop} (h : x11_3 C G) (L : j_L S) (hrm : C.2.2.2.1.frames = 4 ∧ C.2.2.2.1.locals = 88) (c1 : S.1 l0 = 30) (c2 : 0 ≤ l2) (c3 : l2 < 6) (c4 : S.1 l1 = 30) (hM : M8_3 C.2.1 mc ms pp qq) (hp : pp (l0 + 2 + 2 * l2) (l1 + 2 + 2 * l2) S V) (hc : nc + mc ≤ C.2.2.2.1.cells) (hs : ns + ms ≤ C.2.2.2.1.slots) (k : ∀ (S' : jS) (V' : jH), qq (l0 + 2 + 2 * l2) (l1 + 2 + 2 * l2) S V S' V' → j_ok n_KT 3 C G 23 [(0, (2, l0)), (1, (2, l1)), (2, (0, l2))] [] S' V' (nc + mc) (ns + ms)) : j_ok n_KT 3 C G 8 [(0, (2, l0)), (1, (2, l1)), (2, (0, l2))] [] S V nc ns := by
  have E := n_E h
  refine j_aload_n E d11_3_8 rfl 0 rfl ?_
  refine j_getS (f := 0) (x := l0 + 1) (fg9_11 h) d11_3_9 c1 (by decide) rfl rfl ((L9_0 L c1).trans (by omega)) ?_
  refine j_iload_n E d11_3_12 rfl 2 rfl ?_
  refine j_aaldS (x := l0 + 2 + 2 * l2) E d11_3_13 (show S.1 (l0 + 1) = 18 from (by have q := L9_0k L c1; rw [show l0 + 1 = l0 + 1 by omega]; exact q)) (by decide) rfl c2 c3 ((LRowA L (i := l2) (show S.1 (l0 + 1) = 18 from (by have q := L9_0k L c1; rw [show l0 + 1 = l0 + 1 by omega]; exact q)) c2 c3).trans (by omega)) ?_
  refine j_aload_n E d11_3_14 rfl 1 rfl ?_
  refine j_getS (f := 0) (x := l1 + 1) (fg9_11 h) d11_3_15 c4 (by decide) rfl rfl ((L9_0 L c4).trans (by omega)) ?_
  refine j_iload_n E d11_3_18 rfl 2 rfl ?_
  refine j_aaldS (x := l1 + 2 + 2 * l2) E d11_3_19 (show S.1 (l1 + 1) = 18 from (by have q := L9_0k L c4; rw [show l1 + 1 = l1 + 1 by omega]; exact q)) (by decide) rfl c2 c3 ((LRowA L (i := l2) (show S.1 (l1 + 1) = 18 from (by have q := L9_0k L c4; rw [show l1 + 1 = l1 + 1 by omega]; exact q)) c2 c3).trans (by omega)) ?_
  refine j_call E (K11_3_20 h hrm hM) d11_3_20 (a := [(2, l0 + 2 + 2 * l2), (2, l1 + 2 + 2 * l2)]) (sk := []) rfl ⟨l0 + 2 + 2 * l2, l1 + 2 + 2 * l2, rfl, (show S.1 (l0 + 2 + 2 * l2) = 27 from (by have q := LRowAk L (i := l2) (show S.1 (l0 + 1) = 18 from (by have q := L9_0k L c1; rw [show l0 + 1 = l0 + 1 by omega]; exact q)) c2 c3; rw [show l0 + 2 + 2 * l2 = (l0 + 1) + 1 + 2 * l2 by omega]; exact q)), hp⟩ (Nat.le_of_ble_eq_true rfl) hc hs ?_
  rintro rs S' V' ⟨z0, z1, e1, rfl, q⟩
  simp only [List.cons.injEq, Prod.mk.injEq, and_true, true_and] at e1
  obtain ⟨rfl, rfl⟩ := e1
  exact j_pick [0, 1, 2] rfl (k S' V' q)
theorem t11_3_23 {C : qCx} {G : jG} {S : jS} {V : jH} {nc ns : Nat} {l0 l1 l2 : Int} (h : x11_3 C G) (c1 : -2147483648 ≤ l2 + 1 ∧ l2 + 1 ≤ 2147483647) (k : j_ok n_KT 3 C G 2 [(0, (2, l0)), (1, (2, l1)), (2, (0, l2 + 1))] [] S V nc ns) : j_ok n_KT 3 C G 23 [(0, (2, l0)), (1, (2, l1)), (2, (0, l2))] [] S V nc ns := by
  have E := n_E h
  refine j_iinc E d11_3_23 (by decide) (by decide) 2 rfl (lo1 := [(0, (2, l0)), (1, (2, l1))]) rfl c1 ?_
  refine j_goto E d11_3_26 (t := 2) rfl ?_
  exact j_pick [1, 2, 0] rfl k
theorem t11_3_29 {C : qCx} {G : jG} {S : jS} {V : jH} {nc ns : Nat} {l0 l1 : Int} (h : x11_3 C G)  (k : j_ok n_KT 3 C G 31 [(0, (2, l0)), (1, (2, l1)), (2, (0, 0))] [] S V nc ns) : j_ok n_KT 3 C G 29 [(0, (2, l0)), (1, (2, l1))] [] S V nc ns := by
  have E := n_E h
  refine j_iconst E d11_3_29 (by decide) ?_
  refine j_istore_n E d11_3_30 rfl (by decide) (lo1 := [(0, (2, l0)), (1, (2, l1))]) rfl ?_
  exact j_pick [1, 2, 0] rfl k
theorem t11_3_31 {C : qCx} {G : jG} {S : jS} {V : jH} {nc ns : Nat} {l0 l1 l2 : Int} (h : x11_3 C G) (c1 : S.1 l1 = 30) (k : V l1 2 ≤ l2 → j_ok n_KT 3 C G 58 [(0, (2, l0)), (1, (2, l1))] [] S V nc ns) (k' : l2 < V l1 2 → j_ok n_KT 3 C G 39 [(0, (2, l0)), (1, (2, l1)), (2, (0, l2))] [] S V nc ns) : j_ok n_KT 3 C G 31 [(0, (2, l0)), (1, (2, l1)), (2, (0, l2))] [] S V nc ns := by
  have E := n_E h
  refine j_iload_n E d11_3_31 rfl 2 rfl ?_
  refine j_aload_n E d11_3_32 rfl 1 rfl ?_
  refine j_getI (f := 2) (fg9_23 h) d11_3_33 c1 (by decide) rfl rfl ?_
  exact j_icmp_ge E d11_3_36 (t := 58) rfl (fun q => j_pick [0, 1] rfl (k q)) (fun q => j_pick [0, 1, 2] rfl (k' q))
theorem t11_3_39 {C : qCx} {G : jG} {S : jS} {V : jH} {nc ns : Nat} {l0 l1 l2 : Int} {mc ms : Nat} {pp : Int → Int → jS → jH → Prop} {qq : Int → Int → jS → jH → Int → jS → jH → Prop} (h : x11_3 C G) (hrm : C.2.2.2.1.frames = 4 ∧ C.2.2.2.1.locals = 88) (c1 : S.1 l0 = 30) (hM : M11_2 C.2.1 mc ms pp qq) (hp : pp l0 l2 S V) (hc : nc + mc ≤ C.2.2.2.1.cells) (hs : ns + ms ≤ C.2.2.2.1.slots) (k : ∀ (r : Int) (S' : jS) (V' : jH), qq l0 l2 S V r S' V' → j_ok n_KT 3 C G 44 [(0, (2, l0)), (1, (2, l1)), (2, (0, l2))] [(2, r)] S' V' (nc + mc) (ns + ms)) : j_ok n_KT 3 C G 39 [(0, (2, l0)), (1, (2, l1)), (2, (0, l2))] [] S V nc ns := by
  have E := n_E h
  refine j_aload_n E d11_3_39 rfl 0 rfl ?_
  refine j_iload_n E d11_3_40 rfl 2 rfl ?_
  refine j_call E (K11_3_41 h hrm hM) d11_3_41 (a := [(2, l0), (0, l2)]) (sk := []) rfl ⟨l0, l2, rfl, c1, hp⟩ (Nat.le_of_ble_eq_true rfl) hc hs ?_
  rintro rs S' V' ⟨z0, z1, r, e1, rfl, q⟩
  simp only [List.cons.injEq, Prod.mk.injEq, and_true, true_and] at e1
  obtain ⟨rfl, rfl⟩ := e1
  exact j_pick [0, 1, 2] rfl (k r S' V' q)
theorem t11_3_44 {C : qCx} {G : jG} {S : jS} {V : jH} {nc ns : Nat} {l0 l1 l2 s0 : Int} {mc ms : Nat} {pp : Int → Int → jS → jH → Prop} {qq : Int → Int → jS → jH → Int → jS → jH → Prop} (h : x11_3 C G) (hrm : C.2.2.2.1.frames = 4 ∧ C.2.2.2.1.locals = 88) (c1 : S.1 l1 = 30) (hM : M11_2 C.2.1 mc ms pp qq) (hp : pp l1 l2 S V) (hc : nc + mc ≤ C.2.2.2.1.cells) (hs : ns + ms ≤ C.2.2.2.1.slots) (k : ∀ (r : Int) (S' : jS) (V' : jH), qq l1 l2 S V r S' V' → j_ok n_KT 3 C G 49 [(0, (2, l0)), (1, (2, l1)), (2, (0, l2))] [(2, r), (2, s0)] S' V' (nc + mc) (ns + ms)) : j_ok n_KT 3 C G 44 [(0, (2, l0)), (1, (2, l1)), (2, (0, l2))] [(2, s0)] S V nc ns := by
  have E := n_E h
  refine j_aload_n E d11_3_44 rfl 1 rfl ?_
  refine j_iload_n E d11_3_45 rfl 2 rfl ?_
  refine j_call E (K11_3_46 h hrm hM) d11_3_46 (a := [(2, l1), (0, l2)]) (sk := [(2, s0)]) rfl ⟨l1, l2, rfl, c1, hp⟩ (Nat.le_of_ble_eq_true rfl) hc hs ?_
  rintro rs S' V' ⟨z0, z1, r, e1, rfl, q⟩
  simp only [List.cons.injEq, Prod.mk.injEq, and_true, true_and] at e1
  obtain ⟨rfl, rfl⟩ := e1
  exact j_pick [0, 1, 2] rfl (k r S' V' q)
theorem t11_3_49 {C : qCx} {G : jG} {S : jS} {V : jH} {nc ns : Nat} {l0 l1 l2 s0 s1 : Int} {mc ms : Nat} {pp : Int → Int → jS → jH → Prop} {qq : Int → Int → jS → jH → jS → jH → Prop} (h : x11_3 C G) (hrm : C.2.2.2.1.frames = 4 ∧ C.2.2.2.1.locals = 88) (c1 : S.1 s1 = 29) (hM : M10_3 C.2.1 mc ms pp qq) (hp : pp s1 s0 S V) (hc : nc + mc ≤ C.2.2.2.1.cells) (hs : ns + ms ≤ C.2.2.2.1.slots) (k : ∀ (S' : jS) (V' : jH), qq s1 s0 S V S' V' → j_ok n_KT 3 C G 52 [(0, (2, l0)), (1, (2, l1)), (2, (0, l2))] [] S' V' (nc + mc) (ns + ms)) : j_ok n_KT 3 C G 49 [(0, (2, l0)), (1, (2, l1)), (2, (0, l2))] [(2, s0), (2, s1)] S V nc ns := by
  have E := n_E h
  refine j_call E (K11_3_49 h hrm hM) d11_3_49 (a := [(2, s1), (2, s0)]) (sk := []) rfl ⟨s1, s0, rfl, c1, hp⟩ (Nat.le_of_ble_eq_true rfl) hc hs ?_
  rintro rs S' V' ⟨z0, z1, e1, rfl, q⟩
  simp only [List.cons.injEq, Prod.mk.injEq, and_true, true_and] at e1
  obtain ⟨rfl, rfl⟩ := e1
  exact j_pick [0, 1, 2] rfl (k S' V' q)
theorem t11_3_52 {C : qCx} {G : jG} {S : jS} {V : jH} {nc ns : Nat} {l0 l1 l2 : Int} (h : x11_3 C G) (c1 : -2147483648 ≤ l2 + 1 ∧ l2 + 1 ≤ 2147483647) (k : j_ok n_KT 3 C G 31 [(0, (2, l0)), (1, (2, l1)), (2, (0, l2 + 1))] [] S V nc ns) : j_ok n_KT 3 C G 52 [(0, (2, l0)), (1, (2, l1)), (2, (0, l2))] [] S V nc ns := by
  have E := n_E h
  refine j_iinc E d11_3_52 (by decide) (by decide) 2 rfl (lo1 := [(0, (2, l0)), (1, (2, l1))]) rfl c1 ?_
  refine j_goto E d11_3_55 (t := 31) rfl ?_
  exact j_pick [1, 2, 0] rfl k
theorem t11_3_58 {C : qCx} {G : jG} {S : jS} {V : jH} {nc ns : Nat} {l0 l1 : Int} {mc ms : Nat} {pp : Int → Int → jS → jH → Prop} {qq : Int → Int → jS → jH → jS → jH → Prop} (h : x11_3 C G) (L : j_L S) (hrm : C.2.2.2.1.frames = 4 ∧ C.2.2.2.1.locals = 88) (c1 : S.1 l1 = 30) (c2 : S.1 l0 = 30) (hM : M3_2 C.2.1 mc ms pp qq) (hp : pp (l0 + 15) (l1 + 15) S (j_up V l0 2 (V l1 2))) (hc : nc + mc ≤ C.2.2.2.1.cells) (hs : ns + ms ≤ C.2.2.2.1.slots) (k : ∀ (S' : jS) (V' : jH), qq (l0 + 15) (l1 + 15) S (j_up V l0 2 (V l1 2)) S' V' → j_ok n_KT 3 C G 77 [(0, (2, l0)), (1, (2, l1))] [] S' V' (nc + mc) (ns + ms)) : j_ok n_KT 3 C G 58 [(0, (2, l0)), (1, (2, l1))] [] S V nc ns := by
  have E := n_E h
  refine j_aload_n E d11_3_58 rfl 0 rfl ?_
  refine j_aload_n E d11_3_59 rfl 1 rfl ?_
  refine j_getI (f := 2) (fg9_23 h) d11_3_60 c1 (by decide) rfl rfl ?_
  refine j_putI (f := 2) (fp9_23 h) (n_hap h 30 9 0 _ rfl) d11_3_63 c2 (by decide) rfl rfl rfl ?_
  refine j_aload_n E d11_3_66 rfl 0 rfl ?_
  refine j_getS (f := 3) (x := l0 + 15) (fg9_30 h) d11_3_67 c2 (by decide) rfl rfl ((L9_3 L c2).trans (by omega)) ?_
  refine j_aload_n E d11_3_70 rfl 1 rfl ?_
  refine j_getS (f := 3) (x := l1 + 15) (fg9_30 h) d11_3_71 c1 (by decide) rfl rfl ((L9_3 L c1).trans (by omega)) ?_
  refine j_call E (K11_3_74 h hrm hM) d11_3_74 (a := [(2, l0 + 15), (2, l1 + 15)]) (sk := []) rfl ⟨l0 + 15, l1 + 15, rfl, (show S.1 (l0 + 15) = 22 from (by have q := L9_3k L c2; rw [show l0 + 15 = l0 + 15 by omega]; exact q)), hp⟩ (Nat.le_of_ble_eq_true rfl) hc hs ?_
  rintro rs S' V' ⟨z0, z1, e1, rfl, q⟩
  simp only [List.cons.injEq, Prod.mk.injEq, and_true, true_and] at e1
  obtain ⟨rfl, rfl⟩ := e1
  exact j_pick [0, 1] rfl (k S' V' q)
theorem t11_3_77 {C : qCx} {G : jG} {S : jS} {V : jH} {nc ns : Nat} {l0 l1 : Int} {mc ms : Nat} {qf : jS → jH → Prop} (h : x11_3 C G) (c1 : S.1 l1 = 30) (c2 : S.1 l0 = 30) (R : j_Rv n_KT 3 C G b_11_3 mc ms qf) (q : qf S (j_up (j_up V l0 4 (V l1 4)) l0 5 ((j_up V l0 4 (V l1 4)) l1 5))) (hc : nc ≤ mc) (hs : ns ≤ ms) : j_ok n_KT 3 C G 77 [(0, (2, l0)), (1, (2, l1))] [] S V nc ns := by
  have E := n_E h
  refine j_aload_n E d11_3_77 rfl 0 rfl ?_
  refine j_aload_n E d11_3_78 rfl 1 rfl ?_
  refine j_getI (f := 4) (fg9_34 h) d11_3_79 c1 (by decide) rfl rfl ?_
  refine j_putI (f := 4) (fp9_34 h) (n_hap h 30 9 0 _ rfl) d11_3_82 c2 (by decide) rfl rfl rfl ?_
  refine j_aload_n E d11_3_85 rfl 0 rfl ?_
  refine j_aload_n E d11_3_86 rfl 1 rfl ?_
  refine j_getI (f := 5) (fg9_37 h) d11_3_87 c1 (by decide) rfl rfl ?_
  refine j_putI (f := 5) (fp9_37 h) (n_hap h 30 9 0 _ rfl) d11_3_90 c2 (by decide) rfl rfl rfl ?_
  exact R _ _ _ _ _ _ d11_3_93 q hc hs
/- BalanceCoder.keep()I -/
abbrev b_1_24 : ByteArray := prog_1_method_24_code
def y_1_24 : MethodName := ⟨"BalanceCoder", "keep", "()I"⟩
abbrev x1_24 (C : qCx) (G : jG) : Prop := n_ctx C b_1_24 1 "BalanceCoder" G.1 G.2.1
def M1_24 (l : Launch) (mc ms : Nat) (p : Int → jS → jH → Prop) (q : Int → jS → jH → Int → jS → jH → Prop) : Prop := j_Met l vwCl n_TL n_NW n_KT y_1_24 (Cond.code y_1_24 b_1_24 1 (some .int) :: n_GW) { frames := 5, cells := mc, slots := ms, locals := 110 } mc ms (fun a S V => ∃ u0 : Int, a = [(2, u0)] ∧ S.1 u0 = 31 ∧ p u0 S V) (fun a S V rs S' V' => ∃ u0 r : Int, a = [(2, u0)] ∧ rs = [(0, r)] ∧ q u0 S V r S' V')
theorem e1_24 {l : Launch} {mc ms : Nat} {p : Int → jS → jH → Prop} {q : Int → jS → jH → Int → jS → jH → Prop} (body : ∀ (C : qCx) (G : jG), x1_24 C G → C.2.2.2.1.frames = 5 ∧ C.2.2.2.1.locals = 110 → C.2.2.2.1.cells = mc ∧ C.2.2.2.1.slots = ms → C.2.1 = l → C.2.2.2.2.2.2.2.2.1.name = "keep" → ∀ (u0 : Int) (S : jS) (V : jH), S.1 u0 = 31 → p u0 S V → j_Ri n_KT 1 C G b_1_24 mc ms (q u0 S V) → j_ok n_KT 1 C G 0 [(0, (2, u0))] [] S V 0 0) : M1_24 l mc ms p q := by
  refine j_method (ws' := n_GW) (by decide) rfl ?_ ?_
  · rintro a S V ⟨u0, rfl, -⟩
    exact Nat.le_of_ble_eq_true rfl
  · rintro C G htl hl hrm hm hml ho hts hnm hE a S V ⟨u0, rfl, ht, hp⟩ R
    exact body C G ⟨htl, hm, hml, ho, fun w hw => hts w (List.mem_cons_of_mem _ hw), hE⟩ (by rw [hrm]; exact ⟨rfl, rfl⟩) (by rw [hrm]; exact ⟨rfl, rfl⟩) hl hnm u0 S V ht hp (fun pc lo r S' V' nc ns d q hc hs => R.2.1 rfl pc lo r S' V' nc ns d ⟨u0, r, rfl, rfl, q⟩ hc hs)
theorem d1_24_0 : decode b_1_24 0 = .ok (.aload_n 0, 1) := by decide +kernel
theorem d1_24_1 : decode b_1_24 1 = .ok (.getfield 16, 3) := by decide +kernel
theorem d1_24_4 : decode b_1_24 4 = .ok (.ifnonnull 14, 3) := by decide +kernel
theorem d1_24_7 : decode b_1_24 7 = .ok (.aload_n 0, 1) := by decide +kernel
theorem d1_24_8 : decode b_1_24 8 = .ok (.new 7, 3) := by decide +kernel
theorem d1_24_11 : decode b_1_24 11 = .ok (.dup, 1) := by decide +kernel
theorem d1_24_12 : decode b_1_24 12 = .ok (.invokespecial 9, 3) := by decide +kernel
theorem d1_24_15 : decode b_1_24 15 = .ok (.putfield 16, 3) := by decide +kernel
theorem d1_24_18 : decode b_1_24 18 = .ok (.aload_n 0, 1) := by decide +kernel
theorem d1_24_19 : decode b_1_24 19 = .ok (.getfield 16, 3) := by decide +kernel
theorem d1_24_22 : decode b_1_24 22 = .ok (.aload_n 0, 1) := by decide +kernel
theorem d1_24_23 : decode b_1_24 23 = .ok (.getfield 10, 3) := by decide +kernel
theorem d1_24_26 : decode b_1_24 26 = .ok (.invokevirtual 233, 3) := by decide +kernel
theorem d1_24_29 : decode b_1_24 29 = .ok (.iconst 1, 1) := by decide +kernel
theorem d1_24_30 : decode b_1_24 30 = .ok (.ireturn, 1) := by decide +kernel
theorem K1_24_12 {C : qCx} {G : jG} {mc ms : Nat} {p : Int → jS → jH → Prop} {q : Int → jS → jH → jS → jH → Prop} (h : x1_24 C G) (hrm : C.2.2.2.1.frames = 5 ∧ C.2.2.2.1.locals = 110) (hM : M11_1 C.2.1 mc ms p q) : j_Call C b_1_24 n_KT G.1 G.2.1 1 (.invokespecial 9) mc ms (fun a S V => ∃ u0 : Int, a = [(2, u0)] ∧ S.1 u0 = 30 ∧ p u0 S V) (fun a S V rs S' V' => ∃ u0 : Int, a = [(2, u0)] ∧ rs = [] ∧ q u0 S V S' V') := j_callI n_NWk h.2.2.2.2.2 h.1 hM ⟨h.2.1.1, h.2.1.2, h.2.2.1, h.2.2.2.1, h.2.2.2.2.1⟩ ⟨n_CB (y := y_11_1) (bytes := b_11_1) 0 h.2.2.2.2.1 n_w29 n_w27 n_w2 ⟨by decide, by decide, by decide +kernel⟩ rfl rfl ⟨by rw [hrm.1]; exact Nat.le_of_ble_eq_true rfl, by rw [hrm.2]; exact Nat.le_of_ble_eq_true rfl⟩, rfl, h.2.2.2.2.1 _ n_w28⟩ (Cn := RX9) (fun a S V hP => by obtain ⟨u0, rfl, e, -⟩ := hP; exact ⟨u0, _, 9, _, _, TX9, 6, rfl, rfl, by rw [e]; decide, by rw [e]; rfl, rfl⟩)
theorem K1_24_26 {C : qCx} {G : jG} {mc ms : Nat} {p : Int → Int → jS → jH → Prop} {q : Int → Int → jS → jH → jS → jH → Prop} (h : x1_24 C G) (hrm : C.2.2.2.1.frames = 5 ∧ C.2.2.2.1.locals = 110) (hM : M11_3 C.2.1 mc ms p q) : j_Call C b_1_24 n_KT G.1 G.2.1 1 (.invokevirtual 233) mc ms (fun a S V => ∃ u0 u1 : Int, a = [(2, u0), (2, u1)] ∧ S.1 u0 = 30 ∧ p u0 u1 S V) (fun a S V rs S' V' => ∃ u0 u1 : Int, a = [(2, u0), (2, u1)] ∧ rs = [] ∧ q u0 u1 S V S' V') := j_callV n_NWk h.2.2.2.2.2 h.1 hM ⟨h.2.1.1, h.2.1.2, h.2.2.1, h.2.2.2.1, h.2.2.2.2.1⟩ ⟨n_CB (y := y_11_3) (bytes := b_11_3) 1 h.2.2.2.2.1 n_w720 n_w717 n_w2 ⟨by decide, by decide, by decide +kernel⟩ rfl rfl ⟨by rw [hrm.1]; exact Nat.le_of_ble_eq_true rfl, by rw [hrm.2]; exact Nat.le_of_ble_eq_true rfl⟩, h.2.2.2.2.1 _ n_w718, h.2.2.2.2.1 _ n_w719⟩ (Cn := RX9) (fun a S V hP => by obtain ⟨u0, u1, rfl, e, -⟩ := hP; exact ⟨u0, _, 9, _, _, TX9, 6, rfl, rfl, by rw [e]; decide, by rw [e]; rfl, rfl⟩)
theorem t1_24_0 {C : qCx} {G : jG} {S : jS} {V : jH} {nc ns : Nat} {l0 : Int} (h : x1_24 C G) (c1 : S.1 l0 = 31) (k : 0 ≤ S.2 l0 1 → S.1 (S.2 l0 1) ≠ 0 → j_ok n_KT 1 C G 18 [(0, (2, l0))] [] S V nc ns) (k' : S.2 l0 1 = -1 → j_ok n_KT 1 C G 7 [(0, (2, l0))] [] S V nc ns) : j_ok n_KT 1 C G 0 [(0, (2, l0))] [] S V nc ns := by
  have E := n_E h
  refine j_aload_n E d1_24_0 rfl 0 rfl ?_
  refine j_getR (f := 1) (fg10_16 h) d1_24_1 c1 (by decide) rfl rfl ?_
  exact j_ifnonnull E d1_24_4 (t := 18) rfl (fun q q2 => j_pick [0] rfl (k q q2)) (fun q => j_pick [0] rfl (k' q))
theorem t1_24_7 {C : qCx} {G : jG} {S : jS} {V : jH} {nc ns : Nat} {l0 a1 : Int} {mc ms : Nat} {pp : Int → jS → jH → Prop} {qq : Int → jS → jH → jS → jH → Prop} (h : x1_24 C G) (hrm : C.2.2.2.1.frames = 5 ∧ C.2.2.2.1.locals = 110) (c1 : 0 ≤ a1) (c2 : S.1 a1 = 0) (c3 : nc + 1 ≤ C.2.2.2.1.cells) (c4 : ns + 6 ≤ C.2.2.2.1.slots) (hM : M11_1 C.2.1 mc ms pp qq) (hp : pp a1 (j_ns S a1 30) (j_nv V a1)) (hc : (nc + 1) + mc ≤ C.2.2.2.1.cells) (hs : (ns + 6) + ms ≤ C.2.2.2.1.slots) (k : ∀ (S' : jS) (V' : jH), qq a1 (j_ns S a1 30) (j_nv V a1) S' V' → j_ok n_KT 1 C G 15 [(0, (2, l0))] [(2, a1), (2, l0)] S' V' ((nc + 1) + mc) ((ns + 6) + ms)) : j_ok n_KT 1 C G 7 [(0, (2, l0))] [] S V nc ns := by
  have E := n_E h
  refine j_aload_n E d1_24_7 rfl 0 rfl ?_
  refine j_new (k := 30) E (fn10_7 h) d1_24_8 a1 c1 c2 (by decide) rfl (by decide) (by decide) (by decide) c3 c4 ?_
  refine j_dup E d1_24_11 rfl ?_
  refine j_call E (K1_24_12 h hrm hM) d1_24_12 (a := [(2, a1)]) (sk := [(2, a1), (2, l0)]) rfl ⟨a1, rfl, (j_nsa _ _ _), hp⟩ (Nat.le_of_ble_eq_true rfl) hc hs ?_
  rintro rs S' V' ⟨z0, e1, rfl, q⟩
  simp only [List.cons.injEq, Prod.mk.injEq, and_true, true_and] at e1
  obtain ⟨rfl⟩ := e1
  exact j_pick [0] rfl (k S' V' q)
theorem t1_24_15 {C : qCx} {G : jG} {S : jS} {V : jH} {nc ns : Nat} {l0 s0 s1 : Int} (h : x1_24 C G) (c1 : S.1 s1 = 31) (c2 : S.1 s0 = 30) (k : j_ok n_KT 1 C G 18 [(0, (2, l0))] [] (j_sp S s1 1 s0) V nc ns) : j_ok n_KT 1 C G 15 [(0, (2, l0))] [(2, s0), (2, s1)] S V nc ns := by
  have E := n_E h
  refine j_putR (f := 1) (fp10_16 h) (n_hap h 31 10 0 _ rfl) d1_24_15 c1 (by decide) rfl rfl rfl (by decide) (Or.inr c2) ?_
  exact j_pick [0] rfl k
theorem t1_24_18 {C : qCx} {G : jG} {S : jS} {V : jH} {nc ns : Nat} {l0 : Int} {mc ms : Nat} {pp : Int → Int → jS → jH → Prop} {qq : Int → Int → jS → jH → jS → jH → Prop} (h : x1_24 C G) (L : j_L S) (hrm : C.2.2.2.1.frames = 5 ∧ C.2.2.2.1.locals = 110) (c1 : S.1 l0 = 31) (c2 : S.1 (S.2 l0 1) = 30) (hM : M11_3 C.2.1 mc ms pp qq) (hp : pp (S.2 l0 1) (l0 + 1) S V) (hc : nc + mc ≤ C.2.2.2.1.cells) (hs : ns + ms ≤ C.2.2.2.1.slots) (k : ∀ (S' : jS) (V' : jH), qq (S.2 l0 1) (l0 + 1) S V S' V' → j_ok n_KT 1 C G 29 [] [] S' V' (nc + mc) (ns + ms)) : j_ok n_KT 1 C G 18 [(0, (2, l0))] [] S V nc ns := by
  have E := n_E h
  refine j_aload_n E d1_24_18 rfl 0 rfl ?_
  refine j_getR (f := 1) (fg10_16 h) d1_24_19 c1 (by decide) rfl rfl ?_
  refine j_aload_n E d1_24_22 rfl 0 rfl ?_
  refine j_getS (f := 0) (x := l0 + 1) (fg10_10 h) d1_24_23 c1 (by decide) rfl rfl ((L10_0 L c1).trans (by omega)) ?_
  refine j_call E (K1_24_26 h hrm hM) d1_24_26 (a := [(2, S.2 l0 1), (2, l0 + 1)]) (sk := []) rfl ⟨S.2 l0 1, l0 + 1, rfl, c2, hp⟩ (Nat.le_of_ble_eq_true rfl) hc hs ?_
  rintro rs S' V' ⟨z0, z1, e1, rfl, q⟩
  simp only [List.cons.injEq, Prod.mk.injEq, and_true, true_and] at e1
  obtain ⟨rfl, rfl⟩ := e1
  exact j_pick [] rfl (k S' V' q)
theorem t1_24_29 {C : qCx} {G : jG} {S : jS} {V : jH} {nc ns : Nat} {mc ms : Nat} {qf : Int → jS → jH → Prop} (h : x1_24 C G)  (R : j_Ri n_KT 1 C G b_1_24 mc ms qf) (q : qf 1 S V) (hc : nc ≤ mc) (hs : ns ≤ ms) : j_ok n_KT 1 C G 29 [] [] S V nc ns := by
  have E := n_E h
  refine j_iconst E d1_24_29 (by decide) ?_
  exact R _ _ _ _ _ _ _ d1_24_30 q hc hs
/- BalanceCoder.back()I -/
abbrev b_1_25 : ByteArray := prog_1_method_25_code
def y_1_25 : MethodName := ⟨"BalanceCoder", "back", "()I"⟩
abbrev x1_25 (C : qCx) (G : jG) : Prop := n_ctx C b_1_25 1 "BalanceCoder" G.1 G.2.1
def M1_25 (l : Launch) (mc ms : Nat) (p : Int → jS → jH → Prop) (q : Int → jS → jH → Int → jS → jH → Prop) : Prop := j_Met l vwCl n_TL n_NW n_KT y_1_25 (Cond.code y_1_25 b_1_25 1 (some .int) :: n_GW) { frames := 5, cells := mc, slots := ms, locals := 110 } mc ms (fun a S V => ∃ u0 : Int, a = [(2, u0)] ∧ S.1 u0 = 31 ∧ p u0 S V) (fun a S V rs S' V' => ∃ u0 r : Int, a = [(2, u0)] ∧ rs = [(0, r)] ∧ q u0 S V r S' V')
theorem e1_25 {l : Launch} {mc ms : Nat} {p : Int → jS → jH → Prop} {q : Int → jS → jH → Int → jS → jH → Prop} (body : ∀ (C : qCx) (G : jG), x1_25 C G → C.2.2.2.1.frames = 5 ∧ C.2.2.2.1.locals = 110 → C.2.2.2.1.cells = mc ∧ C.2.2.2.1.slots = ms → C.2.1 = l → C.2.2.2.2.2.2.2.2.1.name = "back" → ∀ (u0 : Int) (S : jS) (V : jH), S.1 u0 = 31 → p u0 S V → j_Ri n_KT 1 C G b_1_25 mc ms (q u0 S V) → j_ok n_KT 1 C G 0 [(0, (2, u0))] [] S V 0 0) : M1_25 l mc ms p q := by
  refine j_method (ws' := n_GW) (by decide) rfl ?_ ?_
  · rintro a S V ⟨u0, rfl, -⟩
    exact Nat.le_of_ble_eq_true rfl
  · rintro C G htl hl hrm hm hml ho hts hnm hE a S V ⟨u0, rfl, ht, hp⟩ R
    exact body C G ⟨htl, hm, hml, ho, fun w hw => hts w (List.mem_cons_of_mem _ hw), hE⟩ (by rw [hrm]; exact ⟨rfl, rfl⟩) (by rw [hrm]; exact ⟨rfl, rfl⟩) hl hnm u0 S V ht hp (fun pc lo r S' V' nc ns d q hc hs => R.2.1 rfl pc lo r S' V' nc ns d ⟨u0, r, rfl, rfl, q⟩ hc hs)
theorem d1_25_0 : decode b_1_25 0 = .ok (.aload_n 0, 1) := by decide +kernel
theorem d1_25_1 : decode b_1_25 1 = .ok (.getfield 16, 3) := by decide +kernel
theorem d1_25_4 : decode b_1_25 4 = .ok (.ifnonnull 10, 3) := by decide +kernel
theorem d1_25_7 : decode b_1_25 7 = .ok (.aload_n 0, 1) := by decide +kernel
theorem d1_25_8 : decode b_1_25 8 = .ok (.bipush (-6), 2) := by decide +kernel
theorem d1_25_10 : decode b_1_25 10 = .ok (.invokevirtual 55, 3) := by decide +kernel
theorem d1_25_13 : decode b_1_25 13 = .ok (.ireturn, 1) := by decide +kernel
theorem d1_25_14 : decode b_1_25 14 = .ok (.aload_n 0, 1) := by decide +kernel
theorem d1_25_15 : decode b_1_25 15 = .ok (.getfield 10, 3) := by decide +kernel
theorem d1_25_18 : decode b_1_25 18 = .ok (.aload_n 0, 1) := by decide +kernel
theorem d1_25_19 : decode b_1_25 19 = .ok (.getfield 16, 3) := by decide +kernel
theorem d1_25_22 : decode b_1_25 22 = .ok (.invokevirtual 233, 3) := by decide +kernel
theorem d1_25_25 : decode b_1_25 25 = .ok (.iconst 1, 1) := by decide +kernel
theorem d1_25_26 : decode b_1_25 26 = .ok (.ireturn, 1) := by decide +kernel
theorem K1_25_10 {C : qCx} {G : jG} {mc ms : Nat} {p : Int → Int → jS → jH → Prop} {q : Int → Int → jS → jH → Int → jS → jH → Prop} (h : x1_25 C G) (hrm : C.2.2.2.1.frames = 5 ∧ C.2.2.2.1.locals = 110) (hM : M1_27 C.2.1 mc ms p q) : j_Call C b_1_25 n_KT G.1 G.2.1 1 (.invokevirtual 55) mc ms (fun a S V => ∃ u0 u1 : Int, a = [(2, u0), (0, u1)] ∧ S.1 u0 = 31 ∧ p u0 u1 S V) (fun a S V rs S' V' => ∃ u0 u1 r : Int, a = [(2, u0), (0, u1)] ∧ rs = [(0, r)] ∧ q u0 u1 S V r S' V') := j_callV n_NWk h.2.2.2.2.2 h.1 hM ⟨h.2.1.1, h.2.1.2, h.2.2.1, h.2.2.2.1, h.2.2.2.2.1⟩ ⟨n_CB (y := y_1_27) (bytes := b_1_27) 1 h.2.2.2.2.1 n_w309 n_w306 n_w1 ⟨by decide, by decide, by decide +kernel⟩ rfl rfl ⟨by rw [hrm.1]; exact Nat.le_of_ble_eq_true rfl, by rw [hrm.2]; exact Nat.le_of_ble_eq_true rfl⟩, h.2.2.2.2.1 _ n_w308, h.2.2.2.2.1 _ n_s1⟩ (Cn := RX10) (fun a S V hP => by obtain ⟨u0, u1, rfl, e, -⟩ := hP; exact ⟨u0, _, 10, _, _, TX10, 8, rfl, rfl, by rw [e]; decide, by rw [e]; rfl, rfl⟩)
theorem K1_25_22 {C : qCx} {G : jG} {mc ms : Nat} {p : Int → Int → jS → jH → Prop} {q : Int → Int → jS → jH → jS → jH → Prop} (h : x1_25 C G) (hrm : C.2.2.2.1.frames = 5 ∧ C.2.2.2.1.locals = 110) (hM : M11_3 C.2.1 mc ms p q) : j_Call C b_1_25 n_KT G.1 G.2.1 1 (.invokevirtual 233) mc ms (fun a S V => ∃ u0 u1 : Int, a = [(2, u0), (2, u1)] ∧ S.1 u0 = 30 ∧ p u0 u1 S V) (fun a S V rs S' V' => ∃ u0 u1 : Int, a = [(2, u0), (2, u1)] ∧ rs = [] ∧ q u0 u1 S V S' V') := j_callV n_NWk h.2.2.2.2.2 h.1 hM ⟨h.2.1.1, h.2.1.2, h.2.2.1, h.2.2.2.1, h.2.2.2.2.1⟩ ⟨n_CB (y := y_11_3) (bytes := b_11_3) 1 h.2.2.2.2.1 n_w720 n_w717 n_w2 ⟨by decide, by decide, by decide +kernel⟩ rfl rfl ⟨by rw [hrm.1]; exact Nat.le_of_ble_eq_true rfl, by rw [hrm.2]; exact Nat.le_of_ble_eq_true rfl⟩, h.2.2.2.2.1 _ n_w718, h.2.2.2.2.1 _ n_w719⟩ (Cn := RX9) (fun a S V hP => by obtain ⟨u0, u1, rfl, e, -⟩ := hP; exact ⟨u0, _, 9, _, _, TX9, 6, rfl, rfl, by rw [e]; decide, by rw [e]; rfl, rfl⟩)
theorem t1_25_0 {C : qCx} {G : jG} {S : jS} {V : jH} {nc ns : Nat} {l0 : Int} (h : x1_25 C G) (c1 : S.1 l0 = 31) (k : 0 ≤ S.2 l0 1 → S.1 (S.2 l0 1) ≠ 0 → j_ok n_KT 1 C G 14 [(0, (2, l0))] [] S V nc ns) (k' : S.2 l0 1 = -1 → j_ok n_KT 1 C G 7 [(0, (2, l0))] [] S V nc ns) : j_ok n_KT 1 C G 0 [(0, (2, l0))] [] S V nc ns := by
  have E := n_E h
  refine j_aload_n E d1_25_0 rfl 0 rfl ?_
  refine j_getR (f := 1) (fg10_16 h) d1_25_1 c1 (by decide) rfl rfl ?_
  exact j_ifnonnull E d1_25_4 (t := 14) rfl (fun q q2 => j_pick [0] rfl (k q q2)) (fun q => j_pick [0] rfl (k' q))
theorem t1_25_7 {C : qCx} {G : jG} {S : jS} {V : jH} {nc ns : Nat} {l0 : Int} {mc ms : Nat} {pp : Int → Int → jS → jH → Prop} {qq : Int → Int → jS → jH → Int → jS → jH → Prop} (h : x1_25 C G) (hrm : C.2.2.2.1.frames = 5 ∧ C.2.2.2.1.locals = 110) (c1 : S.1 l0 = 31) (hM : M1_27 C.2.1 mc ms pp qq) (hp : pp l0 ((-6)) S V) (hc : nc + mc ≤ C.2.2.2.1.cells) (hs : ns + ms ≤ C.2.2.2.1.slots) (k : ∀ (r : Int) (S' : jS) (V' : jH), qq l0 ((-6)) S V r S' V' → j_ok n_KT 1 C G 13 [] [(0, r)] S' V' (nc + mc) (ns + ms)) : j_ok n_KT 1 C G 7 [(0, (2, l0))] [] S V nc ns := by
  have E := n_E h
  refine j_aload_n E d1_25_7 rfl 0 rfl ?_
  refine j_bipush E d1_25_8 (by decide) ?_
  refine j_call E (K1_25_10 h hrm hM) d1_25_10 (a := [(2, l0), (0, (-6))]) (sk := []) rfl ⟨l0, (-6), rfl, c1, hp⟩ (Nat.le_of_ble_eq_true rfl) hc hs ?_
  rintro rs S' V' ⟨z0, z1, r, e1, rfl, q⟩
  simp only [List.cons.injEq, Prod.mk.injEq, and_true, true_and] at e1
  obtain ⟨rfl, rfl⟩ := e1
  exact j_pick [] rfl (k r S' V' q)
theorem t1_25_13 {C : qCx} {G : jG} {S : jS} {V : jH} {nc ns : Nat} {s0 : Int} {mc ms : Nat} {qf : Int → jS → jH → Prop} (h : x1_25 C G)  (R : j_Ri n_KT 1 C G b_1_25 mc ms qf) (q : qf s0 S V) (hc : nc ≤ mc) (hs : ns ≤ ms) : j_ok n_KT 1 C G 13 [] [(0, s0)] S V nc ns := by
  have E := n_E h
  exact R _ _ _ _ _ _ _ d1_25_13 q hc hs
theorem t1_25_14 {C : qCx} {G : jG} {S : jS} {V : jH} {nc ns : Nat} {l0 : Int} {mc ms : Nat} {pp : Int → Int → jS → jH → Prop} {qq : Int → Int → jS → jH → jS → jH → Prop} (h : x1_25 C G) (L : j_L S) (hrm : C.2.2.2.1.frames = 5 ∧ C.2.2.2.1.locals = 110) (c1 : S.1 l0 = 31) (hM : M11_3 C.2.1 mc ms pp qq) (hp : pp (l0 + 1) (S.2 l0 1) S V) (hc : nc + mc ≤ C.2.2.2.1.cells) (hs : ns + ms ≤ C.2.2.2.1.slots) (k : ∀ (S' : jS) (V' : jH), qq (l0 + 1) (S.2 l0 1) S V S' V' → j_ok n_KT 1 C G 25 [] [] S' V' (nc + mc) (ns + ms)) : j_ok n_KT 1 C G 14 [(0, (2, l0))] [] S V nc ns := by
  have E := n_E h
  refine j_aload_n E d1_25_14 rfl 0 rfl ?_
  refine j_getS (f := 0) (x := l0 + 1) (fg10_10 h) d1_25_15 c1 (by decide) rfl rfl ((L10_0 L c1).trans (by omega)) ?_
  refine j_aload_n E d1_25_18 rfl 0 rfl ?_
  refine j_getR (f := 1) (fg10_16 h) d1_25_19 c1 (by decide) rfl rfl ?_
  refine j_call E (K1_25_22 h hrm hM) d1_25_22 (a := [(2, l0 + 1), (2, S.2 l0 1)]) (sk := []) rfl ⟨l0 + 1, S.2 l0 1, rfl, (show S.1 (l0 + 1) = 30 from (by have q := L10_0k L c1; rw [show l0 + 1 = l0 + 1 by omega]; exact q)), hp⟩ (Nat.le_of_ble_eq_true rfl) hc hs ?_
  rintro rs S' V' ⟨z0, z1, e1, rfl, q⟩
  simp only [List.cons.injEq, Prod.mk.injEq, and_true, true_and] at e1
  obtain ⟨rfl, rfl⟩ := e1
  exact j_pick [] rfl (k S' V' q)
theorem t1_25_25 {C : qCx} {G : jG} {S : jS} {V : jH} {nc ns : Nat} {mc ms : Nat} {qf : Int → jS → jH → Prop} (h : x1_25 C G)  (R : j_Ri n_KT 1 C G b_1_25 mc ms qf) (q : qf 1 S V) (hc : nc ≤ mc) (hs : ns ≤ ms) : j_ok n_KT 1 C G 25 [] [] S V nc ns := by
  have E := n_E h
  refine j_iconst E d1_25_25 (by decide) ?_
  exact R _ _ _ _ _ _ _ d1_25_26 q hc hs
/- BalanceCoder.told(I)I -/
abbrev b_1_26 : ByteArray := prog_1_method_26_code
def y_1_26 : MethodName := ⟨"BalanceCoder", "told", "(I)I"⟩
abbrev x1_26 (C : qCx) (G : jG) : Prop := n_ctx C b_1_26 2 "BalanceCoder" G.1 G.2.1
def M1_26 (l : Launch) (mc ms : Nat) (p : Int → Int → jS → jH → Prop) (q : Int → Int → jS → jH → Int → jS → jH → Prop) : Prop := j_Met l vwCl n_TL n_NW n_KT y_1_26 (Cond.code y_1_26 b_1_26 2 (some .int) :: n_GW) { frames := 2, cells := mc, slots := ms, locals := 47 } mc ms (fun a S V => ∃ u0 u1 : Int, a = [(2, u0), (0, u1)] ∧ S.1 u0 = 31 ∧ p u0 u1 S V) (fun a S V rs S' V' => ∃ u0 u1 r : Int, a = [(2, u0), (0, u1)] ∧ rs = [(0, r)] ∧ q u0 u1 S V r S' V')
theorem e1_26 {l : Launch} {mc ms : Nat} {p : Int → Int → jS → jH → Prop} {q : Int → Int → jS → jH → Int → jS → jH → Prop} (body : ∀ (C : qCx) (G : jG), x1_26 C G → C.2.2.2.1.frames = 2 ∧ C.2.2.2.1.locals = 47 → C.2.2.2.1.cells = mc ∧ C.2.2.2.1.slots = ms → C.2.1 = l → C.2.2.2.2.2.2.2.2.1.name = "told" → ∀ (u0 u1 : Int) (S : jS) (V : jH), S.1 u0 = 31 → p u0 u1 S V → j_Ri n_KT 2 C G b_1_26 mc ms (q u0 u1 S V) → j_ok n_KT 2 C G 0 [(0, (2, u0)), (1, (0, u1))] [] S V 0 0) : M1_26 l mc ms p q := by
  refine j_method (ws' := n_GW) (by decide) rfl ?_ ?_
  · rintro a S V ⟨u0, u1, rfl, -⟩
    exact Nat.le_of_ble_eq_true rfl
  · rintro C G htl hl hrm hm hml ho hts hnm hE a S V ⟨u0, u1, rfl, ht, hp⟩ R
    exact body C G ⟨htl, hm, hml, ho, fun w hw => hts w (List.mem_cons_of_mem _ hw), hE⟩ (by rw [hrm]; exact ⟨rfl, rfl⟩) (by rw [hrm]; exact ⟨rfl, rfl⟩) hl hnm u0 u1 S V ht hp (fun pc lo r S' V' nc ns d q hc hs => R.2.1 rfl pc lo r S' V' nc ns d ⟨u0, u1, r, rfl, rfl, q⟩ hc hs)
theorem d1_26_0 : decode b_1_26 0 = .ok (.iload_n 1, 1) := by decide +kernel
theorem d1_26_1 : decode b_1_26 1 = .ok (.tableswitch 107 0 6 #[43, 51, 59, 67, 86, 97, 102], 43) := by decide +kernel
theorem d1_26_44 : decode b_1_26 44 = .ok (.aload_n 0, 1) := by decide +kernel
theorem d1_26_45 : decode b_1_26 45 = .ok (.getfield 10, 3) := by decide +kernel
theorem d1_26_48 : decode b_1_26 48 = .ok (.getfield 236, 3) := by decide +kernel
theorem d1_26_51 : decode b_1_26 51 = .ok (.ireturn, 1) := by decide +kernel
theorem d1_26_52 : decode b_1_26 52 = .ok (.aload_n 0, 1) := by decide +kernel
theorem d1_26_53 : decode b_1_26 53 = .ok (.getfield 10, 3) := by decide +kernel
theorem d1_26_56 : decode b_1_26 56 = .ok (.getfield 230, 3) := by decide +kernel
theorem d1_26_59 : decode b_1_26 59 = .ok (.ireturn, 1) := by decide +kernel
theorem d1_26_60 : decode b_1_26 60 = .ok (.aload_n 0, 1) := by decide +kernel
theorem d1_26_61 : decode b_1_26 61 = .ok (.getfield 10, 3) := by decide +kernel
theorem d1_26_64 : decode b_1_26 64 = .ok (.getfield 79, 3) := by decide +kernel
theorem d1_26_67 : decode b_1_26 67 = .ok (.ireturn, 1) := by decide +kernel
theorem d1_26_68 : decode b_1_26 68 = .ok (.aload_n 0, 1) := by decide +kernel
theorem d1_26_69 : decode b_1_26 69 = .ok (.getfield 10, 3) := by decide +kernel
theorem d1_26_72 : decode b_1_26 72 = .ok (.getfield 155, 3) := by decide +kernel
theorem d1_26_75 : decode b_1_26 75 = .ok (.getfield 205, 3) := by decide +kernel
theorem d1_26_78 : decode b_1_26 78 = .ok (.ifCond .eq 7, 3) := by decide +kernel
theorem d1_26_81 : decode b_1_26 81 = .ok (.iconst 1, 1) := by decide +kernel
theorem d1_26_82 : decode b_1_26 82 = .ok (.goto 4, 3) := by decide +kernel
theorem d1_26_85 : decode b_1_26 85 = .ok (.iconst 0, 1) := by decide +kernel
theorem d1_26_86 : decode b_1_26 86 = .ok (.ireturn, 1) := by decide +kernel
theorem d1_26_87 : decode b_1_26 87 = .ok (.aload_n 0, 1) := by decide +kernel
theorem d1_26_88 : decode b_1_26 88 = .ok (.getfield 10, 3) := by decide +kernel
theorem d1_26_91 : decode b_1_26 91 = .ok (.getfield 155, 3) := by decide +kernel
theorem d1_26_94 : decode b_1_26 94 = .ok (.invokevirtual 227, 3) := by decide +kernel
theorem d1_26_97 : decode b_1_26 97 = .ok (.ireturn, 1) := by decide +kernel
theorem d1_26_98 : decode b_1_26 98 = .ok (.aload_n 0, 1) := by decide +kernel
theorem d1_26_99 : decode b_1_26 99 = .ok (.getfield 44, 3) := by decide +kernel
theorem d1_26_102 : decode b_1_26 102 = .ok (.ireturn, 1) := by decide +kernel
theorem d1_26_103 : decode b_1_26 103 = .ok (.aload_n 0, 1) := by decide +kernel
theorem d1_26_104 : decode b_1_26 104 = .ok (.getfield 48, 3) := by decide +kernel
theorem d1_26_107 : decode b_1_26 107 = .ok (.ireturn, 1) := by decide +kernel
theorem d1_26_108 : decode b_1_26 108 = .ok (.aload_n 0, 1) := by decide +kernel
theorem d1_26_109 : decode b_1_26 109 = .ok (.iconst (-1), 1) := by decide +kernel
theorem d1_26_110 : decode b_1_26 110 = .ok (.invokevirtual 55, 3) := by decide +kernel
theorem d1_26_113 : decode b_1_26 113 = .ok (.ireturn, 1) := by decide +kernel
theorem K1_26_94 {C : qCx} {G : jG} {mc ms : Nat} {p : Int → jS → jH → Prop} {q : Int → jS → jH → Int → jS → jH → Prop} (h : x1_26 C G) (hrm : C.2.2.2.1.frames = 2 ∧ C.2.2.2.1.locals = 47) (hM : M3_3 C.2.1 mc ms p q) : j_Call C b_1_26 n_KT G.1 G.2.1 2 (.invokevirtual 227) mc ms (fun a S V => ∃ u0 : Int, a = [(2, u0)] ∧ S.1 u0 = 22 ∧ p u0 S V) (fun a S V rs S' V' => ∃ u0 r : Int, a = [(2, u0)] ∧ rs = [(0, r)] ∧ q u0 S V r S' V') := j_callV n_NWk h.2.2.2.2.2 h.1 hM ⟨h.2.1.1, h.2.1.2, h.2.2.1, h.2.2.2.1, h.2.2.2.2.1⟩ ⟨n_CB (y := y_3_3) (bytes := b_3_3) 0 h.2.2.2.2.1 n_w700 n_w697 n_w3 ⟨by decide, by decide, by decide +kernel⟩ rfl rfl ⟨by rw [hrm.1]; exact Nat.le_of_ble_eq_true rfl, by rw [hrm.2]; exact Nat.le_of_ble_eq_true rfl⟩, h.2.2.2.2.1 _ n_w698, h.2.2.2.2.1 _ n_w699⟩ (Cn := RX1) (fun a S V hP => by obtain ⟨u0, rfl, e, -⟩ := hP; exact ⟨u0, _, 1, _, _, TX1, 5, rfl, rfl, by rw [e]; decide, by rw [e]; rfl, rfl⟩)
theorem K1_26_110 {C : qCx} {G : jG} {mc ms : Nat} {p : Int → Int → jS → jH → Prop} {q : Int → Int → jS → jH → Int → jS → jH → Prop} (h : x1_26 C G) (hrm : C.2.2.2.1.frames = 2 ∧ C.2.2.2.1.locals = 47) (hM : M1_27 C.2.1 mc ms p q) : j_Call C b_1_26 n_KT G.1 G.2.1 2 (.invokevirtual 55) mc ms (fun a S V => ∃ u0 u1 : Int, a = [(2, u0), (0, u1)] ∧ S.1 u0 = 31 ∧ p u0 u1 S V) (fun a S V rs S' V' => ∃ u0 u1 r : Int, a = [(2, u0), (0, u1)] ∧ rs = [(0, r)] ∧ q u0 u1 S V r S' V') := j_callV n_NWk h.2.2.2.2.2 h.1 hM ⟨h.2.1.1, h.2.1.2, h.2.2.1, h.2.2.2.1, h.2.2.2.2.1⟩ ⟨n_CB (y := y_1_27) (bytes := b_1_27) 1 h.2.2.2.2.1 n_w309 n_w306 n_w1 ⟨by decide, by decide, by decide +kernel⟩ rfl rfl ⟨by rw [hrm.1]; exact Nat.le_of_ble_eq_true rfl, by rw [hrm.2]; exact Nat.le_of_ble_eq_true rfl⟩, h.2.2.2.2.1 _ n_w308, h.2.2.2.2.1 _ n_s1⟩ (Cn := RX10) (fun a S V hP => by obtain ⟨u0, u1, rfl, e, -⟩ := hP; exact ⟨u0, _, 10, _, _, TX10, 8, rfl, rfl, by rw [e]; decide, by rw [e]; rfl, rfl⟩)
theorem t1_26_0 {C : qCx} {G : jG} {S : jS} {V : jH} {nc ns : Nat} {l0 l1 : Int} (h : x1_26 C G)  (k : l1 < 0 ∨ 6 < l1 → j_ok n_KT 2 C G 108 [(0, (2, l0))] [] S V nc ns) (k0 : l1 = 0 → j_ok n_KT 2 C G 44 [(0, (2, l0))] [] S V nc ns) (k1 : l1 = 1 → j_ok n_KT 2 C G 52 [(0, (2, l0))] [] S V nc ns) (k2 : l1 = 2 → j_ok n_KT 2 C G 60 [(0, (2, l0))] [] S V nc ns) (k3 : l1 = 3 → j_ok n_KT 2 C G 68 [(0, (2, l0))] [] S V nc ns) (k4 : l1 = 4 → j_ok n_KT 2 C G 87 [(0, (2, l0))] [] S V nc ns) (k5 : l1 = 5 → j_ok n_KT 2 C G 98 [(0, (2, l0))] [] S V nc ns) (k6 : l1 = 6 → j_ok n_KT 2 C G 103 [(0, (2, l0))] [] S V nc ns) : j_ok n_KT 2 C G 0 [(0, (2, l0)), (1, (0, l1))] [] S V nc ns := by
  have E := n_E h
  refine j_iload_n E d1_26_0 rfl 1 rfl ?_
  by_cases q : l1 < 0 ∨ 6 < l1
  · exact j_tableOut E d1_26_1 q (t := 108) rfl (j_pick [0] rfl (k q))
  by_cases q0 : l1 = 0
  · exact j_tableIn E d1_26_1 (off := 43) (by omega) (by omega) (by rw [q0]; rfl) (t := 44) rfl (j_pick [0] rfl (k0 q0))
  by_cases q1 : l1 = 1
  · exact j_tableIn E d1_26_1 (off := 51) (by omega) (by omega) (by rw [q1]; rfl) (t := 52) rfl (j_pick [0] rfl (k1 q1))
  by_cases q2 : l1 = 2
  · exact j_tableIn E d1_26_1 (off := 59) (by omega) (by omega) (by rw [q2]; rfl) (t := 60) rfl (j_pick [0] rfl (k2 q2))
  by_cases q3 : l1 = 3
  · exact j_tableIn E d1_26_1 (off := 67) (by omega) (by omega) (by rw [q3]; rfl) (t := 68) rfl (j_pick [0] rfl (k3 q3))
  by_cases q4 : l1 = 4
  · exact j_tableIn E d1_26_1 (off := 86) (by omega) (by omega) (by rw [q4]; rfl) (t := 87) rfl (j_pick [0] rfl (k4 q4))
  by_cases q5 : l1 = 5
  · exact j_tableIn E d1_26_1 (off := 97) (by omega) (by omega) (by rw [q5]; rfl) (t := 98) rfl (j_pick [0] rfl (k5 q5))
  have q6 : l1 = 6 := by omega
  exact j_tableIn E d1_26_1 (off := 102) (by omega) (by omega) (by rw [q6]; rfl) (t := 103) rfl (j_pick [0] rfl (k6 q6))
theorem t1_26_44 {C : qCx} {G : jG} {S : jS} {V : jH} {nc ns : Nat} {l0 : Int} {mc ms : Nat} {qf : Int → jS → jH → Prop} (h : x1_26 C G) (L : j_L S) (c1 : S.1 l0 = 31) (R : j_Ri n_KT 2 C G b_1_26 mc ms qf) (q : qf (V (l0 + 1) 4) S V) (hc : nc ≤ mc) (hs : ns ≤ ms) : j_ok n_KT 2 C G 44 [(0, (2, l0))] [] S V nc ns := by
  have E := n_E h
  refine j_aload_n E d1_26_44 rfl 0 rfl ?_
  refine j_getS (f := 0) (x := l0 + 1) (fg10_10 h) d1_26_45 c1 (by decide) rfl rfl ((L10_0 L c1).trans (by omega)) ?_
  refine j_getI (f := 4) (fg10_236 h) d1_26_48 (show S.1 (l0 + 1) = 30 from (by have q := L10_0k L c1; rw [show l0 + 1 = l0 + 1 by omega]; exact q)) (by decide) rfl rfl ?_
  exact R _ _ _ _ _ _ _ d1_26_51 q hc hs
theorem t1_26_52 {C : qCx} {G : jG} {S : jS} {V : jH} {nc ns : Nat} {l0 : Int} {mc ms : Nat} {qf : Int → jS → jH → Prop} (h : x1_26 C G) (L : j_L S) (c1 : S.1 l0 = 31) (R : j_Ri n_KT 2 C G b_1_26 mc ms qf) (q : qf (V (l0 + 1) 5) S V) (hc : nc ≤ mc) (hs : ns ≤ ms) : j_ok n_KT 2 C G 52 [(0, (2, l0))] [] S V nc ns := by
  have E := n_E h
  refine j_aload_n E d1_26_52 rfl 0 rfl ?_
  refine j_getS (f := 0) (x := l0 + 1) (fg10_10 h) d1_26_53 c1 (by decide) rfl rfl ((L10_0 L c1).trans (by omega)) ?_
  refine j_getI (f := 5) (fg10_230 h) d1_26_56 (show S.1 (l0 + 1) = 30 from (by have q := L10_0k L c1; rw [show l0 + 1 = l0 + 1 by omega]; exact q)) (by decide) rfl rfl ?_
  exact R _ _ _ _ _ _ _ d1_26_59 q hc hs
theorem t1_26_60 {C : qCx} {G : jG} {S : jS} {V : jH} {nc ns : Nat} {l0 : Int} {mc ms : Nat} {qf : Int → jS → jH → Prop} (h : x1_26 C G) (L : j_L S) (c1 : S.1 l0 = 31) (R : j_Ri n_KT 2 C G b_1_26 mc ms qf) (q : qf (V (l0 + 1) 2) S V) (hc : nc ≤ mc) (hs : ns ≤ ms) : j_ok n_KT 2 C G 60 [(0, (2, l0))] [] S V nc ns := by
  have E := n_E h
  refine j_aload_n E d1_26_60 rfl 0 rfl ?_
  refine j_getS (f := 0) (x := l0 + 1) (fg10_10 h) d1_26_61 c1 (by decide) rfl rfl ((L10_0 L c1).trans (by omega)) ?_
  refine j_getI (f := 2) (fg10_79 h) d1_26_64 (show S.1 (l0 + 1) = 30 from (by have q := L10_0k L c1; rw [show l0 + 1 = l0 + 1 by omega]; exact q)) (by decide) rfl rfl ?_
  exact R _ _ _ _ _ _ _ d1_26_67 q hc hs
theorem t1_26_68 {C : qCx} {G : jG} {S : jS} {V : jH} {nc ns : Nat} {l0 : Int} (h : x1_26 C G) (L : j_L S) (c1 : S.1 l0 = 31) (k : V (l0 + 16) 2 = 0 → j_ok n_KT 2 C G 85 [] [] S V nc ns) (k' : ¬ V (l0 + 16) 2 = 0 → j_ok n_KT 2 C G 81 [] [] S V nc ns) : j_ok n_KT 2 C G 68 [(0, (2, l0))] [] S V nc ns := by
  have E := n_E h
  refine j_aload_n E d1_26_68 rfl 0 rfl ?_
  refine j_getS (f := 0) (x := l0 + 1) (fg10_10 h) d1_26_69 c1 (by decide) rfl rfl ((L10_0 L c1).trans (by omega)) ?_
  refine j_getS (f := 3) (x := l0 + 16) (fg10_155 h) d1_26_72 (show S.1 (l0 + 1) = 30 from (by have q := L10_0k L c1; rw [show l0 + 1 = l0 + 1 by omega]; exact q)) (by decide) rfl rfl ((L9_3 L (show S.1 (l0 + 1) = 30 from (by have q := L10_0k L c1; rw [show l0 + 1 = l0 + 1 by omega]; exact q))).trans (by omega)) ?_
  refine j_getI (f := 2) (fg10_205 h) d1_26_75 (show S.1 (l0 + 16) = 22 from (by have q := L9_3k L (show S.1 (l0 + 1) = 30 from (by have q := L10_0k L c1; rw [show l0 + 1 = l0 + 1 by omega]; exact q)); rw [show l0 + 16 = (l0 + 1) + 15 by omega]; exact q)) (by decide) rfl rfl ?_
  exact j_if_eq E d1_26_78 (t := 85) rfl (fun q => j_pick [] rfl (k q)) (fun q => j_pick [] rfl (k' q))
theorem t1_26_81 {C : qCx} {G : jG} {S : jS} {V : jH} {nc ns : Nat} (h : x1_26 C G)  (k : j_ok n_KT 2 C G 86 [] [(0, 1)] S V nc ns) : j_ok n_KT 2 C G 81 [] [] S V nc ns := by
  have E := n_E h
  refine j_iconst E d1_26_81 (by decide) ?_
  refine j_goto E d1_26_82 (t := 86) rfl ?_
  exact j_pick [] rfl k
theorem t1_26_85 {C : qCx} {G : jG} {S : jS} {V : jH} {nc ns : Nat} (h : x1_26 C G)  (k : j_ok n_KT 2 C G 86 [] [(0, 0)] S V nc ns) : j_ok n_KT 2 C G 85 [] [] S V nc ns := by
  have E := n_E h
  refine j_iconst E d1_26_85 (by decide) ?_
  exact j_pick [] rfl k
theorem t1_26_86 {C : qCx} {G : jG} {S : jS} {V : jH} {nc ns : Nat} {s0 : Int} {mc ms : Nat} {qf : Int → jS → jH → Prop} (h : x1_26 C G)  (R : j_Ri n_KT 2 C G b_1_26 mc ms qf) (q : qf s0 S V) (hc : nc ≤ mc) (hs : ns ≤ ms) : j_ok n_KT 2 C G 86 [] [(0, s0)] S V nc ns := by
  have E := n_E h
  exact R _ _ _ _ _ _ _ d1_26_86 q hc hs
theorem t1_26_87 {C : qCx} {G : jG} {S : jS} {V : jH} {nc ns : Nat} {l0 : Int} {mc ms : Nat} {pp : Int → jS → jH → Prop} {qq : Int → jS → jH → Int → jS → jH → Prop} (h : x1_26 C G) (L : j_L S) (hrm : C.2.2.2.1.frames = 2 ∧ C.2.2.2.1.locals = 47) (c1 : S.1 l0 = 31) (hM : M3_3 C.2.1 mc ms pp qq) (hp : pp (l0 + 16) S V) (hc : nc + mc ≤ C.2.2.2.1.cells) (hs : ns + ms ≤ C.2.2.2.1.slots) (k : ∀ (r : Int) (S' : jS) (V' : jH), qq (l0 + 16) S V r S' V' → j_ok n_KT 2 C G 97 [] [(0, r)] S' V' (nc + mc) (ns + ms)) : j_ok n_KT 2 C G 87 [(0, (2, l0))] [] S V nc ns := by
  have E := n_E h
  refine j_aload_n E d1_26_87 rfl 0 rfl ?_
  refine j_getS (f := 0) (x := l0 + 1) (fg10_10 h) d1_26_88 c1 (by decide) rfl rfl ((L10_0 L c1).trans (by omega)) ?_
  refine j_getS (f := 3) (x := l0 + 16) (fg10_155 h) d1_26_91 (show S.1 (l0 + 1) = 30 from (by have q := L10_0k L c1; rw [show l0 + 1 = l0 + 1 by omega]; exact q)) (by decide) rfl rfl ((L9_3 L (show S.1 (l0 + 1) = 30 from (by have q := L10_0k L c1; rw [show l0 + 1 = l0 + 1 by omega]; exact q))).trans (by omega)) ?_
  refine j_call E (K1_26_94 h hrm hM) d1_26_94 (a := [(2, l0 + 16)]) (sk := []) rfl ⟨l0 + 16, rfl, (show S.1 (l0 + 16) = 22 from (by have q := L9_3k L (show S.1 (l0 + 1) = 30 from (by have q := L10_0k L c1; rw [show l0 + 1 = l0 + 1 by omega]; exact q)); rw [show l0 + 16 = (l0 + 1) + 15 by omega]; exact q)), hp⟩ (Nat.le_of_ble_eq_true rfl) hc hs ?_
  rintro rs S' V' ⟨z0, r, e1, rfl, q⟩
  simp only [List.cons.injEq, Prod.mk.injEq, and_true, true_and] at e1
  obtain ⟨rfl⟩ := e1
  exact j_pick [] rfl (k r S' V' q)
theorem t1_26_97 {C : qCx} {G : jG} {S : jS} {V : jH} {nc ns : Nat} {s0 : Int} {mc ms : Nat} {qf : Int → jS → jH → Prop} (h : x1_26 C G)  (R : j_Ri n_KT 2 C G b_1_26 mc ms qf) (q : qf s0 S V) (hc : nc ≤ mc) (hs : ns ≤ ms) : j_ok n_KT 2 C G 97 [] [(0, s0)] S V nc ns := by
  have E := n_E h
  exact R _ _ _ _ _ _ _ d1_26_97 q hc hs
theorem t1_26_98 {C : qCx} {G : jG} {S : jS} {V : jH} {nc ns : Nat} {l0 : Int} {mc ms : Nat} {qf : Int → jS → jH → Prop} (h : x1_26 C G) (c1 : S.1 l0 = 31) (R : j_Ri n_KT 2 C G b_1_26 mc ms qf) (q : qf (V l0 6) S V) (hc : nc ≤ mc) (hs : ns ≤ ms) : j_ok n_KT 2 C G 98 [(0, (2, l0))] [] S V nc ns := by
  have E := n_E h
  refine j_aload_n E d1_26_98 rfl 0 rfl ?_
  refine j_getI (f := 6) (fg10_44 h) d1_26_99 c1 (by decide) rfl rfl ?_
  exact R _ _ _ _ _ _ _ d1_26_102 q hc hs
theorem t1_26_103 {C : qCx} {G : jG} {S : jS} {V : jH} {nc ns : Nat} {l0 : Int} {mc ms : Nat} {qf : Int → jS → jH → Prop} (h : x1_26 C G) (c1 : S.1 l0 = 31) (R : j_Ri n_KT 2 C G b_1_26 mc ms qf) (q : qf (V l0 7) S V) (hc : nc ≤ mc) (hs : ns ≤ ms) : j_ok n_KT 2 C G 103 [(0, (2, l0))] [] S V nc ns := by
  have E := n_E h
  refine j_aload_n E d1_26_103 rfl 0 rfl ?_
  refine j_getI (f := 7) (fg10_48 h) d1_26_104 c1 (by decide) rfl rfl ?_
  exact R _ _ _ _ _ _ _ d1_26_107 q hc hs
theorem t1_26_108 {C : qCx} {G : jG} {S : jS} {V : jH} {nc ns : Nat} {l0 : Int} {mc ms : Nat} {pp : Int → Int → jS → jH → Prop} {qq : Int → Int → jS → jH → Int → jS → jH → Prop} (h : x1_26 C G) (hrm : C.2.2.2.1.frames = 2 ∧ C.2.2.2.1.locals = 47) (c1 : S.1 l0 = 31) (hM : M1_27 C.2.1 mc ms pp qq) (hp : pp l0 ((-1)) S V) (hc : nc + mc ≤ C.2.2.2.1.cells) (hs : ns + ms ≤ C.2.2.2.1.slots) (k : ∀ (r : Int) (S' : jS) (V' : jH), qq l0 ((-1)) S V r S' V' → j_ok n_KT 2 C G 113 [] [(0, r)] S' V' (nc + mc) (ns + ms)) : j_ok n_KT 2 C G 108 [(0, (2, l0))] [] S V nc ns := by
  have E := n_E h
  refine j_aload_n E d1_26_108 rfl 0 rfl ?_
  refine j_iconst E d1_26_109 (by decide) ?_
  refine j_call E (K1_26_110 h hrm hM) d1_26_110 (a := [(2, l0), (0, (-1))]) (sk := []) rfl ⟨l0, (-1), rfl, c1, hp⟩ (Nat.le_of_ble_eq_true rfl) hc hs ?_
  rintro rs S' V' ⟨z0, z1, r, e1, rfl, q⟩
  simp only [List.cons.injEq, Prod.mk.injEq, and_true, true_and] at e1
  obtain ⟨rfl, rfl⟩ := e1
  exact j_pick [] rfl (k r S' V' q)
theorem t1_26_113 {C : qCx} {G : jG} {S : jS} {V : jH} {nc ns : Nat} {s0 : Int} {mc ms : Nat} {qf : Int → jS → jH → Prop} (h : x1_26 C G)  (R : j_Ri n_KT 2 C G b_1_26 mc ms qf) (q : qf s0 S V) (hc : nc ≤ mc) (hs : ns ≤ ms) : j_ok n_KT 2 C G 113 [] [(0, s0)] S V nc ns := by
  have E := n_E h
  exact R _ _ _ _ _ _ _ d1_26_113 q hc hs
/- BalanceCoderModel$Book.<init>()V -/
abbrev b_14_1 : ByteArray := prog_14_method_1_code
def y_14_1 : MethodName := ⟨"BalanceCoderModel$Book", "<init>", "()V"⟩
abbrev x14_1 (C : qCx) (G : jG) : Prop := n_ctx C b_14_1 1 "BalanceCoderModel$Book" G.1 G.2.1
def M14_1 (l : Launch) (mc ms : Nat) (p : Int → jS → jH → Prop) (q : Int → jS → jH → jS → jH → Prop) : Prop := j_Met l vwCl n_TL n_NW n_KT y_14_1 (Cond.code y_14_1 b_14_1 1 none :: n_GW) { frames := 1, cells := mc, slots := ms, locals := 26 } mc ms (fun a S V => ∃ u0 : Int, a = [(2, u0)] ∧ S.1 u0 = 32 ∧ p u0 S V) (fun a S V rs S' V' => ∃ u0 : Int, a = [(2, u0)] ∧ rs = [] ∧ q u0 S V S' V')
theorem e14_1 {l : Launch} {mc ms : Nat} {p : Int → jS → jH → Prop} {q : Int → jS → jH → jS → jH → Prop} (body : ∀ (C : qCx) (G : jG), x14_1 C G → C.2.2.2.1.frames = 1 ∧ C.2.2.2.1.locals = 26 → C.2.2.2.1.cells = mc ∧ C.2.2.2.1.slots = ms → C.2.1 = l → C.2.2.2.2.2.2.2.2.1.name = "<init>" → ∀ (u0 : Int) (S : jS) (V : jH), S.1 u0 = 32 → p u0 S V → j_Rv n_KT 1 C G b_14_1 mc ms (q u0 S V) → j_ok n_KT 1 C G 0 [(0, (2, u0))] [] S V 0 0) : M14_1 l mc ms p q := by
  refine j_method (ws' := n_GW) (by decide) rfl ?_ ?_
  · rintro a S V ⟨u0, rfl, -⟩
    exact Nat.le_of_ble_eq_true rfl
  · rintro C G htl hl hrm hm hml ho hts hnm hE a S V ⟨u0, rfl, ht, hp⟩ R
    exact body C G ⟨htl, hm, hml, ho, fun w hw => hts w (List.mem_cons_of_mem _ hw), hE⟩ (by rw [hrm]; exact ⟨rfl, rfl⟩) (by rw [hrm]; exact ⟨rfl, rfl⟩) hl hnm u0 S V ht hp (fun pc lo S' V' nc ns d q hc hs => R.1 rfl pc lo S' V' nc ns d ⟨u0, rfl, rfl, q⟩ hc hs)
theorem d14_1_0 : decode b_14_1 0 = .ok (.aload_n 0, 1) := by decide +kernel
theorem d14_1_1 : decode b_14_1 1 = .ok (.invokespecial 3, 3) := by decide +kernel
theorem d14_1_4 : decode b_14_1 4 = .ok (.aload_n 0, 1) := by decide +kernel
theorem d14_1_5 : decode b_14_1 5 = .ok (.bipush 6, 2) := by decide +kernel
theorem d14_1_7 : decode b_14_1 7 = .ok (.newarray .int, 2) := by decide +kernel
theorem d14_1_9 : decode b_14_1 9 = .ok (.putfield 9, 3) := by decide +kernel
theorem d14_1_12 : decode b_14_1 12 = .ok (.aload_n 0, 1) := by decide +kernel
theorem d14_1_13 : decode b_14_1 13 = .ok (.sipush 2400, 3) := by decide +kernel
theorem d14_1_16 : decode b_14_1 16 = .ok (.newarray .int, 2) := by decide +kernel
theorem d14_1_18 : decode b_14_1 18 = .ok (.putfield 15, 3) := by decide +kernel
theorem d14_1_21 : decode b_14_1 21 = .ok (.aload_n 0, 1) := by decide +kernel
theorem d14_1_22 : decode b_14_1 22 = .ok (.bipush 10, 2) := by decide +kernel
theorem d14_1_24 : decode b_14_1 24 = .ok (.newarray .int, 2) := by decide +kernel
theorem d14_1_26 : decode b_14_1 26 = .ok (.putfield 18, 3) := by decide +kernel
theorem d14_1_29 : decode b_14_1 29 = .ok (.aload_n 0, 1) := by decide +kernel
theorem d14_1_30 : decode b_14_1 30 = .ok (.bipush 10, 2) := by decide +kernel
theorem d14_1_32 : decode b_14_1 32 = .ok (.newarray .int, 2) := by decide +kernel
theorem d14_1_34 : decode b_14_1 34 = .ok (.putfield 21, 3) := by decide +kernel
theorem d14_1_37 : decode b_14_1 37 = .ok (.aload_n 0, 1) := by decide +kernel
theorem d14_1_38 : decode b_14_1 38 = .ok (.bipush 10, 2) := by decide +kernel
theorem d14_1_40 : decode b_14_1 40 = .ok (.newarray .boolean, 2) := by decide +kernel
theorem d14_1_42 : decode b_14_1 42 = .ok (.putfield 24, 3) := by decide +kernel
theorem d14_1_45 : decode b_14_1 45 = .ok (.aload_n 0, 1) := by decide +kernel
theorem d14_1_46 : decode b_14_1 46 = .ok (.sipush 10240, 3) := by decide +kernel
theorem d14_1_49 : decode b_14_1 49 = .ok (.newarray .int, 2) := by decide +kernel
theorem d14_1_51 : decode b_14_1 51 = .ok (.putfield 28, 3) := by decide +kernel
theorem d14_1_54 : decode b_14_1 54 = .ok (.aload_n 0, 1) := by decide +kernel
theorem d14_1_55 : decode b_14_1 55 = .ok (.sipush 4400, 3) := by decide +kernel
theorem d14_1_58 : decode b_14_1 58 = .ok (.newarray .int, 2) := by decide +kernel
theorem d14_1_60 : decode b_14_1 60 = .ok (.putfield 31, 3) := by decide +kernel
theorem d14_1_63 : decode b_14_1 63 = .ok (.return_, 1) := by decide +kernel
theorem t14_1_0 {C : qCx} {G : jG} {S : jS} {V : jH} {nc ns : Nat} {l0 a1 a2 a3 a4 a5 a6 a7 : Int} {mc ms : Nat} {qf : jS → jH → Prop} (h : x14_1 C G) (hR : 1 ≤ C.2.2.2.1.frames ∧ 26 ≤ C.2.2.2.1.locals) (hin : C.2.2.2.2.2.2.2.2.1.name = "<init>") (c1 : S.1 l0 = 32) (c2 : 0 ≤ a1) (c3 : S.1 a1 = 0) (c4 : nc + 1 ≤ C.2.2.2.1.cells) (c5 : ns + 6 ≤ C.2.2.2.1.slots) (c6 : 0 ≤ a2) (c7 : (j_sp (j_ns S a1 8) l0 0 a1).1 a2 = 0) (c8 : nc + 1 + 1 ≤ C.2.2.2.1.cells) (c9 : ns + 6 + 2400 ≤ C.2.2.2.1.slots) (c10 : 0 ≤ a3) (c11 : (j_sp (j_ns (j_sp (j_ns S a1 8) l0 0 a1) a2 9) l0 1 a2).1 a3 = 0) (c12 : nc + 1 + 1 + 1 ≤ C.2.2.2.1.cells) (c13 : ns + 6 + 2400 + 10 ≤ C.2.2.2.1.slots) (c14 : 0 ≤ a4) (c15 : (j_sp (j_ns (j_sp (j_ns (j_sp (j_ns S a1 8) l0 0 a1) a2 9) l0 1 a2) a3 10) l0 3 a3).1 a4 = 0) (c16 : nc + 1 + 1 + 1 + 1 ≤ C.2.2.2.1.cells) (c17 : ns + 6 + 2400 + 10 + 10 ≤ C.2.2.2.1.slots) (c18 : 0 ≤ a5) (c19 : (j_sp (j_ns (j_sp (j_ns (j_sp (j_ns (j_sp (j_ns S a1 8) l0 0 a1) a2 9) l0 1 a2) a3 10) l0 3 a3) a4 10) l0 4 a4).1 a5 = 0) (c20 : nc + 1 + 1 + 1 + 1 + 1 ≤ C.2.2.2.1.cells) (c21 : ns + 6 + 2400 + 10 + 10 + 10 ≤ C.2.2.2.1.slots) (c22 : 0 ≤ a6) (c23 : (j_sp (j_ns (j_sp (j_ns (j_sp (j_ns (j_sp (j_ns (j_sp (j_ns S a1 8) l0 0 a1) a2 9) l0 1 a2) a3 10) l0 3 a3) a4 10) l0 4 a4) a5 17) l0 5 a5).1 a6 = 0) (c24 : nc + 1 + 1 + 1 + 1 + 1 + 1 ≤ C.2.2.2.1.cells) (c25 : ns + 6 + 2400 + 10 + 10 + 10 + 10240 ≤ C.2.2.2.1.slots) (c26 : 0 ≤ a7) (c27 : (j_sp (j_ns (j_sp (j_ns (j_sp (j_ns (j_sp (j_ns (j_sp (j_ns (j_sp (j_ns S a1 8) l0 0 a1) a2 9) l0 1 a2) a3 10) l0 3 a3) a4 10) l0 4 a4) a5 17) l0 5 a5) a6 11) l0 6 a6).1 a7 = 0) (c28 : nc + 1 + 1 + 1 + 1 + 1 + 1 + 1 ≤ C.2.2.2.1.cells) (c29 : ns + 6 + 2400 + 10 + 10 + 10 + 10240 + 4400 ≤ C.2.2.2.1.slots) (R : j_Rv n_KT 1 C G b_14_1 mc ms qf) (q : qf (j_sp (j_ns (j_sp (j_ns (j_sp (j_ns (j_sp (j_ns (j_sp (j_ns (j_sp (j_ns (j_sp (j_ns S a1 8) l0 0 a1) a2 9) l0 1 a2) a3 10) l0 3 a3) a4 10) l0 4 a4) a5 17) l0 5 a5) a6 11) l0 6 a6) a7 6) l0 8 a7) (j_nv (j_nv (j_nv (j_nv (j_nv (j_nv (j_nv V a1) a2) a3) a4) a5) a6) a7)) (hc : nc + 1 + 1 + 1 + 1 + 1 + 1 + 1 ≤ mc) (hs : ns + 6 + 2400 + 10 + 10 + 10 + 10240 + 4400 ≤ ms) : j_ok n_KT 1 C G 0 [(0, (2, l0))] [] S V nc ns := by
  have E := n_E h
  refine j_aload_n E d14_1_0 rfl 0 rfl ?_
  refine j_objInit (fo11_3 h ⟨hR.1, by omega⟩) d14_1_1 (by rw [c1]; decide) (Nat.le_of_ble_eq_true rfl) ?_
  refine j_aload_n E d14_1_4 rfl 0 rfl ?_
  refine j_bipush E d14_1_5 (by decide) ?_
  obtain ⟨cA1, hA1, hB1⟩ := fa_int h
  refine j_newarray (n := 6) (k := 8) E hA1 hB1 d14_1_7 a1 c2 c3 (by decide) rfl rfl rfl rfl (by decide) c4 c5 ?_
  refine j_putR (f := 0) (fp11_9 h hin) (n_hap h 32 11 0 _ rfl) d14_1_9 (j_nsk c3 c1 (by decide)) (by decide) rfl rfl rfl (by decide) (Or.inr (j_nsa _ _ _)) ?_
  refine j_aload_n E d14_1_12 rfl 0 rfl ?_
  refine j_sipush E d14_1_13 (by decide) ?_
  obtain ⟨cA2, hA2, hB2⟩ := fa_int h
  refine j_newarray (n := 2400) (k := 9) E hA2 hB2 d14_1_16 a2 c6 c7 (by decide) rfl rfl rfl rfl (by decide) c8 c9 ?_
  refine j_putR (f := 1) (fp11_15 h hin) (n_hap h 32 11 0 _ rfl) d14_1_18 (j_nsk c7 (j_nsk c3 c1 (by decide)) (by decide)) (by decide) rfl rfl rfl (by decide) (Or.inr (j_nsa _ _ _)) ?_
  refine j_aload_n E d14_1_21 rfl 0 rfl ?_
  refine j_bipush E d14_1_22 (by decide) ?_
  obtain ⟨cA3, hA3, hB3⟩ := fa_int h
  refine j_newarray (n := 10) (k := 10) E hA3 hB3 d14_1_24 a3 c10 c11 (by decide) rfl rfl rfl rfl (by decide) c12 c13 ?_
  refine j_putR (f := 3) (fp11_18 h hin) (n_hap h 32 11 0 _ rfl) d14_1_26 (j_nsk c11 (j_nsk c7 (j_nsk c3 c1 (by decide)) (by decide)) (by decide)) (by decide) rfl rfl rfl (by decide) (Or.inr (j_nsa _ _ _)) ?_
  refine j_aload_n E d14_1_29 rfl 0 rfl ?_
  refine j_bipush E d14_1_30 (by decide) ?_
  obtain ⟨cA4, hA4, hB4⟩ := fa_int h
  refine j_newarray (n := 10) (k := 10) E hA4 hB4 d14_1_32 a4 c14 c15 (by decide) rfl rfl rfl rfl (by decide) c16 c17 ?_
  refine j_putR (f := 4) (fp11_21 h hin) (n_hap h 32 11 0 _ rfl) d14_1_34 (j_nsk c15 (j_nsk c11 (j_nsk c7 (j_nsk c3 c1 (by decide)) (by decide)) (by decide)) (by decide)) (by decide) rfl rfl rfl (by decide) (Or.inr (j_nsa _ _ _)) ?_
  refine j_aload_n E d14_1_37 rfl 0 rfl ?_
  refine j_bipush E d14_1_38 (by decide) ?_
  obtain ⟨cA5, hA5, hB5⟩ := fa_boolean h
  refine j_newarray (n := 10) (k := 17) E hA5 hB5 d14_1_40 a5 c18 c19 (by decide) rfl rfl rfl rfl (by decide) c20 c21 ?_
  refine j_putR (f := 5) (fp11_24 h hin) (n_hap h 32 11 0 _ rfl) d14_1_42 (j_nsk c19 (j_nsk c15 (j_nsk c11 (j_nsk c7 (j_nsk c3 c1 (by decide)) (by decide)) (by decide)) (by decide)) (by decide)) (by decide) rfl rfl rfl (by decide) (Or.inr (j_nsa _ _ _)) ?_
  refine j_aload_n E d14_1_45 rfl 0 rfl ?_
  refine j_sipush E d14_1_46 (by decide) ?_
  obtain ⟨cA6, hA6, hB6⟩ := fa_int h
  refine j_newarray (n := 10240) (k := 11) E hA6 hB6 d14_1_49 a6 c22 c23 (by decide) rfl rfl rfl rfl (by decide) c24 c25 ?_
  refine j_putR (f := 6) (fp11_28 h hin) (n_hap h 32 11 0 _ rfl) d14_1_51 (j_nsk c23 (j_nsk c19 (j_nsk c15 (j_nsk c11 (j_nsk c7 (j_nsk c3 c1 (by decide)) (by decide)) (by decide)) (by decide)) (by decide)) (by decide)) (by decide) rfl rfl rfl (by decide) (Or.inr (j_nsa _ _ _)) ?_
  refine j_aload_n E d14_1_54 rfl 0 rfl ?_
  refine j_sipush E d14_1_55 (by decide) ?_
  obtain ⟨cA7, hA7, hB7⟩ := fa_int h
  refine j_newarray (n := 4400) (k := 6) E hA7 hB7 d14_1_58 a7 c26 c27 (by decide) rfl rfl rfl rfl (by decide) c28 c29 ?_
  refine j_putR (f := 8) (fp11_31 h hin) (n_hap h 32 11 0 _ rfl) d14_1_60 (j_nsk c27 (j_nsk c23 (j_nsk c19 (j_nsk c15 (j_nsk c11 (j_nsk c7 (j_nsk c3 c1 (by decide)) (by decide)) (by decide)) (by decide)) (by decide)) (by decide)) (by decide)) (by decide) rfl rfl rfl (by decide) (Or.inr (j_nsa _ _ _)) ?_
  exact R _ _ _ _ _ _ d14_1_63 q hc hs
/- BalanceCoderModel.<init>()V -/
abbrev b_13_1 : ByteArray := prog_13_method_1_code
def y_13_1 : MethodName := ⟨"BalanceCoderModel", "<init>", "()V"⟩
abbrev x13_1 (C : qCx) (G : jG) : Prop := n_ctx C b_13_1 1 "BalanceCoderModel" G.1 G.2.1
def M13_1 (l : Launch) (mc ms : Nat) (p : Int → jS → jH → Prop) (q : Int → jS → jH → jS → jH → Prop) : Prop := j_Met l vwCl n_TL n_NW n_KT y_13_1 (Cond.code y_13_1 b_13_1 1 none :: n_GW) { frames := 2, cells := mc, slots := ms, locals := 46 } mc ms (fun a S V => ∃ u0 : Int, a = [(2, u0)] ∧ S.1 u0 = 33 ∧ p u0 S V) (fun a S V rs S' V' => ∃ u0 : Int, a = [(2, u0)] ∧ rs = [] ∧ q u0 S V S' V')
theorem e13_1 {l : Launch} {mc ms : Nat} {p : Int → jS → jH → Prop} {q : Int → jS → jH → jS → jH → Prop} (body : ∀ (C : qCx) (G : jG), x13_1 C G → C.2.2.2.1.frames = 2 ∧ C.2.2.2.1.locals = 46 → C.2.2.2.1.cells = mc ∧ C.2.2.2.1.slots = ms → C.2.1 = l → C.2.2.2.2.2.2.2.2.1.name = "<init>" → ∀ (u0 : Int) (S : jS) (V : jH), S.1 u0 = 33 → p u0 S V → j_Rv n_KT 1 C G b_13_1 mc ms (q u0 S V) → j_ok n_KT 1 C G 0 [(0, (2, u0))] [] S V 0 0) : M13_1 l mc ms p q := by
  refine j_method (ws' := n_GW) (by decide) rfl ?_ ?_
  · rintro a S V ⟨u0, rfl, -⟩
    exact Nat.le_of_ble_eq_true rfl
  · rintro C G htl hl hrm hm hml ho hts hnm hE a S V ⟨u0, rfl, ht, hp⟩ R
    exact body C G ⟨htl, hm, hml, ho, fun w hw => hts w (List.mem_cons_of_mem _ hw), hE⟩ (by rw [hrm]; exact ⟨rfl, rfl⟩) (by rw [hrm]; exact ⟨rfl, rfl⟩) hl hnm u0 S V ht hp (fun pc lo S' V' nc ns d q hc hs => R.1 rfl pc lo S' V' nc ns d ⟨u0, rfl, rfl, q⟩ hc hs)
theorem d13_1_0 : decode b_13_1 0 = .ok (.aload_n 0, 1) := by decide +kernel
theorem d13_1_1 : decode b_13_1 1 = .ok (.invokespecial 1, 3) := by decide +kernel
theorem d13_1_4 : decode b_13_1 4 = .ok (.aload_n 0, 1) := by decide +kernel
theorem d13_1_5 : decode b_13_1 5 = .ok (.new 7, 3) := by decide +kernel
theorem d13_1_8 : decode b_13_1 8 = .ok (.dup, 1) := by decide +kernel
theorem d13_1_9 : decode b_13_1 9 = .ok (.invokespecial 9, 3) := by decide +kernel
theorem d13_1_12 : decode b_13_1 12 = .ok (.putfield 10, 3) := by decide +kernel
theorem d13_1_15 : decode b_13_1 15 = .ok (.aload_n 0, 1) := by decide +kernel
theorem d13_1_16 : decode b_13_1 16 = .ok (.new 7, 3) := by decide +kernel
theorem d13_1_19 : decode b_13_1 19 = .ok (.dup, 1) := by decide +kernel
theorem d13_1_20 : decode b_13_1 20 = .ok (.invokespecial 9, 3) := by decide +kernel
theorem d13_1_23 : decode b_13_1 23 = .ok (.putfield 16, 3) := by decide +kernel
theorem d13_1_26 : decode b_13_1 26 = .ok (.aload_n 0, 1) := by decide +kernel
theorem d13_1_27 : decode b_13_1 27 = .ok (.sipush 400, 3) := by decide +kernel
theorem d13_1_30 : decode b_13_1 30 = .ok (.newarray .int, 2) := by decide +kernel
theorem d13_1_32 : decode b_13_1 32 = .ok (.putfield 19, 3) := by decide +kernel
theorem d13_1_35 : decode b_13_1 35 = .ok (.aload_n 0, 1) := by decide +kernel
theorem d13_1_36 : decode b_13_1 36 = .ok (.sipush 400, 3) := by decide +kernel
theorem d13_1_39 : decode b_13_1 39 = .ok (.newarray .int, 2) := by decide +kernel
theorem d13_1_41 : decode b_13_1 41 = .ok (.putfield 23, 3) := by decide +kernel
theorem d13_1_44 : decode b_13_1 44 = .ok (.aload_n 0, 1) := by decide +kernel
theorem d13_1_45 : decode b_13_1 45 = .ok (.sipush 256, 3) := by decide +kernel
theorem d13_1_48 : decode b_13_1 48 = .ok (.newarray .int, 2) := by decide +kernel
theorem d13_1_50 : decode b_13_1 50 = .ok (.putfield 26, 3) := by decide +kernel
theorem d13_1_53 : decode b_13_1 53 = .ok (.aload_n 0, 1) := by decide +kernel
theorem d13_1_54 : decode b_13_1 54 = .ok (.sipush 256, 3) := by decide +kernel
theorem d13_1_57 : decode b_13_1 57 = .ok (.newarray .int, 2) := by decide +kernel
theorem d13_1_59 : decode b_13_1 59 = .ok (.putfield 29, 3) := by decide +kernel
theorem d13_1_62 : decode b_13_1 62 = .ok (.aload_n 0, 1) := by decide +kernel
theorem d13_1_63 : decode b_13_1 63 = .ok (.sipush 1024, 3) := by decide +kernel
theorem d13_1_66 : decode b_13_1 66 = .ok (.newarray .int, 2) := by decide +kernel
theorem d13_1_68 : decode b_13_1 68 = .ok (.putfield 32, 3) := by decide +kernel
theorem d13_1_71 : decode b_13_1 71 = .ok (.aload_n 0, 1) := by decide +kernel
theorem d13_1_72 : decode b_13_1 72 = .ok (.sipush 400, 3) := by decide +kernel
theorem d13_1_75 : decode b_13_1 75 = .ok (.newarray .int, 2) := by decide +kernel
theorem d13_1_77 : decode b_13_1 77 = .ok (.putfield 35, 3) := by decide +kernel
theorem d13_1_80 : decode b_13_1 80 = .ok (.aload_n 0, 1) := by decide +kernel
theorem d13_1_81 : decode b_13_1 81 = .ok (.sipush 400, 3) := by decide +kernel
theorem d13_1_84 : decode b_13_1 84 = .ok (.newarray .int, 2) := by decide +kernel
theorem d13_1_86 : decode b_13_1 86 = .ok (.putfield 38, 3) := by decide +kernel
theorem d13_1_89 : decode b_13_1 89 = .ok (.aload_n 0, 1) := by decide +kernel
theorem d13_1_90 : decode b_13_1 90 = .ok (.iconst 4, 1) := by decide +kernel
theorem d13_1_91 : decode b_13_1 91 = .ok (.newarray .long, 2) := by decide +kernel
theorem d13_1_93 : decode b_13_1 93 = .ok (.putfield 41, 3) := by decide +kernel
theorem d13_1_96 : decode b_13_1 96 = .ok (.aload_n 0, 1) := by decide +kernel
theorem d13_1_97 : decode b_13_1 97 = .ok (.sipush 1200, 3) := by decide +kernel
theorem d13_1_100 : decode b_13_1 100 = .ok (.newarray .int, 2) := by decide +kernel
theorem d13_1_102 : decode b_13_1 102 = .ok (.putfield 45, 3) := by decide +kernel
theorem d13_1_105 : decode b_13_1 105 = .ok (.aload_n 0, 1) := by decide +kernel
theorem d13_1_106 : decode b_13_1 106 = .ok (.sipush 4500, 3) := by decide +kernel
theorem d13_1_109 : decode b_13_1 109 = .ok (.newarray .int, 2) := by decide +kernel
theorem d13_1_111 : decode b_13_1 111 = .ok (.putfield 48, 3) := by decide +kernel
theorem d13_1_114 : decode b_13_1 114 = .ok (.aload_n 0, 1) := by decide +kernel
theorem d13_1_115 : decode b_13_1 115 = .ok (.sipush 1024, 3) := by decide +kernel
theorem d13_1_118 : decode b_13_1 118 = .ok (.newarray .int, 2) := by decide +kernel
theorem d13_1_120 : decode b_13_1 120 = .ok (.putfield 51, 3) := by decide +kernel
theorem d13_1_123 : decode b_13_1 123 = .ok (.aload_n 0, 1) := by decide +kernel
theorem d13_1_124 : decode b_13_1 124 = .ok (.sipush 400, 3) := by decide +kernel
theorem d13_1_127 : decode b_13_1 127 = .ok (.newarray .int, 2) := by decide +kernel
theorem d13_1_129 : decode b_13_1 129 = .ok (.putfield 54, 3) := by decide +kernel
theorem d13_1_132 : decode b_13_1 132 = .ok (.aload_n 0, 1) := by decide +kernel
theorem d13_1_133 : decode b_13_1 133 = .ok (.sipush 400, 3) := by decide +kernel
theorem d13_1_136 : decode b_13_1 136 = .ok (.newarray .long, 2) := by decide +kernel
theorem d13_1_138 : decode b_13_1 138 = .ok (.putfield 57, 3) := by decide +kernel
theorem d13_1_141 : decode b_13_1 141 = .ok (.aload_n 0, 1) := by decide +kernel
theorem d13_1_142 : decode b_13_1 142 = .ok (.sipush 400, 3) := by decide +kernel
theorem d13_1_145 : decode b_13_1 145 = .ok (.newarray .int, 2) := by decide +kernel
theorem d13_1_147 : decode b_13_1 147 = .ok (.putfield 60, 3) := by decide +kernel
theorem d13_1_150 : decode b_13_1 150 = .ok (.return_, 1) := by decide +kernel
theorem K13_1_9 {C : qCx} {G : jG} {mc ms : Nat} {p : Int → jS → jH → Prop} {q : Int → jS → jH → jS → jH → Prop} (h : x13_1 C G) (hrm : C.2.2.2.1.frames = 2 ∧ C.2.2.2.1.locals = 46) (hM : M14_1 C.2.1 mc ms p q) : j_Call C b_13_1 n_KT G.1 G.2.1 1 (.invokespecial 9) mc ms (fun a S V => ∃ u0 : Int, a = [(2, u0)] ∧ S.1 u0 = 32 ∧ p u0 S V) (fun a S V rs S' V' => ∃ u0 : Int, a = [(2, u0)] ∧ rs = [] ∧ q u0 S V S' V') := j_callIN n_NWk h.2.2.2.2.2 h.1 hM ⟨h.2.1.1, h.2.1.2, h.2.2.1, h.2.2.2.1, h.2.2.2.2.1⟩ ⟨n_CN (y := y_14_1) (bytes := b_14_1) 0 h.2.2.2.2.1 n_w758 (h.2.2.2.2.2.2 _ (List.mem_of_getElem? (i := 73) rfl)) n_w13 ⟨by decide, by decide, by decide +kernel⟩ rfl rfl ⟨by rw [hrm.1]; exact Nat.le_of_ble_eq_true rfl, by rw [hrm.2]; exact Nat.le_of_ble_eq_true rfl⟩, rfl, h.2.2.2.2.1 _ n_w757⟩ (Cn := RX11) (fun a S V hP => by obtain ⟨u0, rfl, e, -⟩ := hP; exact ⟨u0, _, 11, _, _, TX11, 14, rfl, rfl, by rw [e]; decide, by rw [e]; rfl, rfl⟩)
theorem K13_1_20 {C : qCx} {G : jG} {mc ms : Nat} {p : Int → jS → jH → Prop} {q : Int → jS → jH → jS → jH → Prop} (h : x13_1 C G) (hrm : C.2.2.2.1.frames = 2 ∧ C.2.2.2.1.locals = 46) (hM : M14_1 C.2.1 mc ms p q) : j_Call C b_13_1 n_KT G.1 G.2.1 1 (.invokespecial 9) mc ms (fun a S V => ∃ u0 : Int, a = [(2, u0)] ∧ S.1 u0 = 32 ∧ p u0 S V) (fun a S V rs S' V' => ∃ u0 : Int, a = [(2, u0)] ∧ rs = [] ∧ q u0 S V S' V') := j_callIN n_NWk h.2.2.2.2.2 h.1 hM ⟨h.2.1.1, h.2.1.2, h.2.2.1, h.2.2.2.1, h.2.2.2.2.1⟩ ⟨n_CN (y := y_14_1) (bytes := b_14_1) 0 h.2.2.2.2.1 n_w758 (h.2.2.2.2.2.2 _ (List.mem_of_getElem? (i := 73) rfl)) n_w13 ⟨by decide, by decide, by decide +kernel⟩ rfl rfl ⟨by rw [hrm.1]; exact Nat.le_of_ble_eq_true rfl, by rw [hrm.2]; exact Nat.le_of_ble_eq_true rfl⟩, rfl, h.2.2.2.2.1 _ n_w757⟩ (Cn := RX11) (fun a S V hP => by obtain ⟨u0, rfl, e, -⟩ := hP; exact ⟨u0, _, 11, _, _, TX11, 14, rfl, rfl, by rw [e]; decide, by rw [e]; rfl, rfl⟩)
theorem t13_1_0 {C : qCx} {G : jG} {S : jS} {V : jH} {nc ns : Nat} {l0 a1 : Int} {mc ms : Nat} {pp : Int → jS → jH → Prop} {qq : Int → jS → jH → jS → jH → Prop} (h : x13_1 C G) (hrm : C.2.2.2.1.frames = 2 ∧ C.2.2.2.1.locals = 46) (hR : 1 ≤ C.2.2.2.1.frames ∧ 26 ≤ C.2.2.2.1.locals) (c1 : S.1 l0 = 33) (c2 : 0 ≤ a1) (c3 : S.1 a1 = 0) (c4 : nc + 1 ≤ C.2.2.2.1.cells) (c5 : ns + 14 ≤ C.2.2.2.1.slots) (hM : M14_1 C.2.1 mc ms pp qq) (hp : pp a1 (j_ns S a1 32) (j_nv V a1)) (hc : (nc + 1) + mc ≤ C.2.2.2.1.cells) (hs : (ns + 14) + ms ≤ C.2.2.2.1.slots) (k : ∀ (S' : jS) (V' : jH), qq a1 (j_ns S a1 32) (j_nv V a1) S' V' → j_ok n_KT 1 C G 12 [(0, (2, l0))] [(2, a1), (2, l0)] S' V' ((nc + 1) + mc) ((ns + 14) + ms)) : j_ok n_KT 1 C G 0 [(0, (2, l0))] [] S V nc ns := by
  have E := n_E h
  refine j_aload_n E d13_1_0 rfl 0 rfl ?_
  refine j_objInit (fo12_1 h ⟨hR.1, by omega⟩) d13_1_1 (by rw [c1]; decide) (Nat.le_of_ble_eq_true rfl) ?_
  refine j_aload_n E d13_1_4 rfl 0 rfl ?_
  refine j_new (k := 32) E (fn12_7 h) d13_1_5 a1 c2 c3 (by decide) rfl (by decide) (by decide) (by decide) c4 c5 ?_
  refine j_dup E d13_1_8 rfl ?_
  refine j_call E (K13_1_9 h hrm hM) d13_1_9 (a := [(2, a1)]) (sk := [(2, a1), (2, l0)]) rfl ⟨a1, rfl, (j_nsa _ _ _), hp⟩ (Nat.le_of_ble_eq_true rfl) hc hs ?_
  rintro rs S' V' ⟨z0, e1, rfl, q⟩
  simp only [List.cons.injEq, Prod.mk.injEq, and_true, true_and] at e1
  obtain ⟨rfl⟩ := e1
  exact j_pick [0] rfl (k S' V' q)
theorem t13_1_12 {C : qCx} {G : jG} {S : jS} {V : jH} {nc ns : Nat} {l0 s0 s1 a1 : Int} {mc ms : Nat} {pp : Int → jS → jH → Prop} {qq : Int → jS → jH → jS → jH → Prop} (h : x13_1 C G) (hrm : C.2.2.2.1.frames = 2 ∧ C.2.2.2.1.locals = 46) (hin : C.2.2.2.2.2.2.2.2.1.name = "<init>") (c1 : S.1 s1 = 33) (c2 : S.1 s0 = 32) (c3 : 0 ≤ a1) (c4 : (j_sp S s1 0 s0).1 a1 = 0) (c5 : nc + 1 ≤ C.2.2.2.1.cells) (c6 : ns + 14 ≤ C.2.2.2.1.slots) (hM : M14_1 C.2.1 mc ms pp qq) (hp : pp a1 (j_ns (j_sp S s1 0 s0) a1 32) (j_nv V a1)) (hc : (nc + 1) + mc ≤ C.2.2.2.1.cells) (hs : (ns + 14) + ms ≤ C.2.2.2.1.slots) (k : ∀ (S' : jS) (V' : jH), qq a1 (j_ns (j_sp S s1 0 s0) a1 32) (j_nv V a1) S' V' → j_ok n_KT 1 C G 23 [(0, (2, l0))] [(2, a1), (2, l0)] S' V' ((nc + 1) + mc) ((ns + 14) + ms)) : j_ok n_KT 1 C G 12 [(0, (2, l0))] [(2, s0), (2, s1)] S V nc ns := by
  have E := n_E h
  refine j_putR (f := 0) (fp12_10 h hin) (n_hap h 33 12 0 _ rfl) d13_1_12 c1 (by decide) rfl rfl rfl (by decide) (Or.inr c2) ?_
  refine j_aload_n E d13_1_15 rfl 0 rfl ?_
  refine j_new (k := 32) E (fn12_7 h) d13_1_16 a1 c3 c4 (by decide) rfl (by decide) (by decide) (by decide) c5 c6 ?_
  refine j_dup E d13_1_19 rfl ?_
  refine j_call E (K13_1_20 h hrm hM) d13_1_20 (a := [(2, a1)]) (sk := [(2, a1), (2, l0)]) rfl ⟨a1, rfl, (j_nsa _ _ _), hp⟩ (Nat.le_of_ble_eq_true rfl) hc hs ?_
  rintro rs S' V' ⟨z0, e1, rfl, q⟩
  simp only [List.cons.injEq, Prod.mk.injEq, and_true, true_and] at e1
  obtain ⟨rfl⟩ := e1
  exact j_pick [0] rfl (k S' V' q)
theorem t13_1_23 {C : qCx} {G : jG} {S : jS} {V : jH} {nc ns : Nat} {l0 s0 s1 a1 a2 a3 a4 a5 a6 a7 a8 a9 a10 a11 a12 a13 a14 : Int} {mc ms : Nat} {qf : jS → jH → Prop} (h : x13_1 C G) (hin : C.2.2.2.2.2.2.2.2.1.name = "<init>") (c1 : S.1 s1 = 33) (c2 : S.1 s0 = 32) (c3 : 0 ≤ a1) (c4 : (j_sp S s1 1 s0).1 a1 = 0) (c5 : nc + 1 ≤ C.2.2.2.1.cells) (c6 : ns + 400 ≤ C.2.2.2.1.slots) (c7 : (j_ns (j_sp S s1 1 s0) a1 1).1 l0 = 33) (c8 : 0 ≤ a2) (c9 : (j_sp (j_ns (j_sp S s1 1 s0) a1 1) l0 5 a1).1 a2 = 0) (c10 : nc + 1 + 1 ≤ C.2.2.2.1.cells) (c11 : ns + 400 + 400 ≤ C.2.2.2.1.slots) (c12 : 0 ≤ a3) (c13 : (j_sp (j_ns (j_sp (j_ns (j_sp S s1 1 s0) a1 1) l0 5 a1) a2 1) l0 6 a2).1 a3 = 0) (c14 : nc + 1 + 1 + 1 ≤ C.2.2.2.1.cells) (c15 : ns + 400 + 400 + 256 ≤ C.2.2.2.1.slots) (c16 : 0 ≤ a4) (c17 : (j_sp (j_ns (j_sp (j_ns (j_sp (j_ns (j_sp S s1 1 s0) a1 1) l0 5 a1) a2 1) l0 6 a2) a3 3) l0 7 a3).1 a4 = 0) (c18 : nc + 1 + 1 + 1 + 1 ≤ C.2.2.2.1.cells) (c19 : ns + 400 + 400 + 256 + 256 ≤ C.2.2.2.1.slots) (c20 : 0 ≤ a5) (c21 : (j_sp (j_ns (j_sp (j_ns (j_sp (j_ns (j_sp (j_ns (j_sp S s1 1 s0) a1 1) l0 5 a1) a2 1) l0 6 a2) a3 3) l0 7 a3) a4 3) l0 8 a4).1 a5 = 0) (c22 : nc + 1 + 1 + 1 + 1 + 1 ≤ C.2.2.2.1.cells) (c23 : ns + 400 + 400 + 256 + 256 + 1024 ≤ C.2.2.2.1.slots) (c24 : 0 ≤ a6) (c25 : (j_sp (j_ns (j_sp (j_ns (j_sp (j_ns (j_sp (j_ns (j_sp (j_ns (j_sp S s1 1 s0) a1 1) l0 5 a1) a2 1) l0 6 a2) a3 3) l0 7 a3) a4 3) l0 8 a4) a5 12) l0 11 a5).1 a6 = 0) (c26 : nc + 1 + 1 + 1 + 1 + 1 + 1 ≤ C.2.2.2.1.cells) (c27 : ns + 400 + 400 + 256 + 256 + 1024 + 400 ≤ C.2.2.2.1.slots) (c28 : 0 ≤ a7) (c29 : (j_sp (j_ns (j_sp (j_ns (j_sp (j_ns (j_sp (j_ns (j_sp (j_ns (j_sp (j_ns (j_sp S s1 1 s0) a1 1) l0 5 a1) a2 1) l0 6 a2) a3 3) l0 7 a3) a4 3) l0 8 a4) a5 12) l0 11 a5) a6 1) l0 14 a6).1 a7 = 0) (c30 : nc + 1 + 1 + 1 + 1 + 1 + 1 + 1 ≤ C.2.2.2.1.cells) (c31 : ns + 400 + 400 + 256 + 256 + 1024 + 400 + 400 ≤ C.2.2.2.1.slots) (c32 : 0 ≤ a8) (c33 : (j_sp (j_ns (j_sp (j_ns (j_sp (j_ns (j_sp (j_ns (j_sp (j_ns (j_sp (j_ns (j_sp (j_ns (j_sp S s1 1 s0) a1 1) l0 5 a1) a2 1) l0 6 a2) a3 3) l0 7 a3) a4 3) l0 8 a4) a5 12) l0 11 a5) a6 1) l0 14 a6) a7 1) l0 15 a7).1 a8 = 0) (c34 : nc + 1 + 1 + 1 + 1 + 1 + 1 + 1 + 1 ≤ C.2.2.2.1.cells) (c35 : ns + 400 + 400 + 256 + 256 + 1024 + 400 + 400 + 4 ≤ C.2.2.2.1.slots) (c36 : 0 ≤ a9) (c37 : (j_sp (j_ns (j_sp (j_ns (j_sp (j_ns (j_sp (j_ns (j_sp (j_ns (j_sp (j_ns (j_sp (j_ns (j_sp (j_ns (j_sp S s1 1 s0) a1 1) l0 5 a1) a2 1) l0 6 a2) a3 3) l0 7 a3) a4 3) l0 8 a4) a5 12) l0 11 a5) a6 1) l0 14 a6) a7 1) l0 15 a7) a8 15) l0 16 a8).1 a9 = 0) (c38 : nc + 1 + 1 + 1 + 1 + 1 + 1 + 1 + 1 + 1 ≤ C.2.2.2.1.cells) (c39 : ns + 400 + 400 + 256 + 256 + 1024 + 400 + 400 + 4 + 1200 ≤ C.2.2.2.1.slots) (c40 : 0 ≤ a10) (c41 : (j_sp (j_ns (j_sp (j_ns (j_sp (j_ns (j_sp (j_ns (j_sp (j_ns (j_sp (j_ns (j_sp (j_ns (j_sp (j_ns (j_sp (j_ns (j_sp S s1 1 s0) a1 1) l0 5 a1) a2 1) l0 6 a2) a3 3) l0 7 a3) a4 3) l0 8 a4) a5 12) l0 11 a5) a6 1) l0 14 a6) a7 1) l0 15 a7) a8 15) l0 16 a8) a9 13) l0 17 a9).1 a10 = 0) (c42 : nc + 1 + 1 + 1 + 1 + 1 + 1 + 1 + 1 + 1 + 1 ≤ C.2.2.2.1.cells) (c43 : ns + 400 + 400 + 256 + 256 + 1024 + 400 + 400 + 4 + 1200 + 4500 ≤ C.2.2.2.1.slots) (c44 : 0 ≤ a11) (c45 : (j_sp (j_ns (j_sp (j_ns (j_sp (j_ns (j_sp (j_ns (j_sp (j_ns (j_sp (j_ns (j_sp (j_ns (j_sp (j_ns (j_sp (j_ns (j_sp (j_ns (j_sp S s1 1 s0) a1 1) l0 5 a1) a2 1) l0 6 a2) a3 3) l0 7 a3) a4 3) l0 8 a4) a5 12) l0 11 a5) a6 1) l0 14 a6) a7 1) l0 15 a7) a8 15) l0 16 a8) a9 13) l0 17 a9) a10 14) l0 19 a10).1 a11 = 0) (c46 : nc + 1 + 1 + 1 + 1 + 1 + 1 + 1 + 1 + 1 + 1 + 1 ≤ C.2.2.2.1.cells) (c47 : ns + 400 + 400 + 256 + 256 + 1024 + 400 + 400 + 4 + 1200 + 4500 + 1024 ≤ C.2.2.2.1.slots) (c48 : 0 ≤ a12) (c49 : (j_sp (j_ns (j_sp (j_ns (j_sp (j_ns (j_sp (j_ns (j_sp (j_ns (j_sp (j_ns (j_sp (j_ns (j_sp (j_ns (j_sp (j_ns (j_sp (j_ns (j_sp (j_ns (j_sp S s1 1 s0) a1 1) l0 5 a1) a2 1) l0 6 a2) a3 3) l0 7 a3) a4 3) l0 8 a4) a5 12) l0 11 a5) a6 1) l0 14 a6) a7 1) l0 15 a7) a8 15) l0 16 a8) a9 13) l0 17 a9) a10 14) l0 19 a10) a11 12) l0 21 a11).1 a12 = 0) (c50 : nc + 1 + 1 + 1 + 1 + 1 + 1 + 1 + 1 + 1 + 1 + 1 + 1 ≤ C.2.2.2.1.cells) (c51 : ns + 400 + 400 + 256 + 256 + 1024 + 400 + 400 + 4 + 1200 + 4500 + 1024 + 400 ≤ C.2.2.2.1.slots) (c52 : 0 ≤ a13) (c53 : (j_sp (j_ns (j_sp (j_ns (j_sp (j_ns (j_sp (j_ns (j_sp (j_ns (j_sp (j_ns (j_sp (j_ns (j_sp (j_ns (j_sp (j_ns (j_sp (j_ns (j_sp (j_ns (j_sp (j_ns (j_sp S s1 1 s0) a1 1) l0 5 a1) a2 1) l0 6 a2) a3 3) l0 7 a3) a4 3) l0 8 a4) a5 12) l0 11 a5) a6 1) l0 14 a6) a7 1) l0 15 a7) a8 15) l0 16 a8) a9 13) l0 17 a9) a10 14) l0 19 a10) a11 12) l0 21 a11) a12 1) l0 28 a12).1 a13 = 0) (c54 : nc + 1 + 1 + 1 + 1 + 1 + 1 + 1 + 1 + 1 + 1 + 1 + 1 + 1 ≤ C.2.2.2.1.cells) (c55 : ns + 400 + 400 + 256 + 256 + 1024 + 400 + 400 + 4 + 1200 + 4500 + 1024 + 400 + 400 ≤ C.2.2.2.1.slots) (c56 : 0 ≤ a14) (c57 : (j_sp (j_ns (j_sp (j_ns (j_sp (j_ns (j_sp (j_ns (j_sp (j_ns (j_sp (j_ns (j_sp (j_ns (j_sp (j_ns (j_sp (j_ns (j_sp (j_ns (j_sp (j_ns (j_sp (j_ns (j_sp (j_ns (j_sp S s1 1 s0) a1 1) l0 5 a1) a2 1) l0 6 a2) a3 3) l0 7 a3) a4 3) l0 8 a4) a5 12) l0 11 a5) a6 1) l0 14 a6) a7 1) l0 15 a7) a8 15) l0 16 a8) a9 13) l0 17 a9) a10 14) l0 19 a10) a11 12) l0 21 a11) a12 1) l0 28 a12) a13 16) l0 29 a13).1 a14 = 0) (c58 : nc + 1 + 1 + 1 + 1 + 1 + 1 + 1 + 1 + 1 + 1 + 1 + 1 + 1 + 1 ≤ C.2.2.2.1.cells) (c59 : ns + 400 + 400 + 256 + 256 + 1024 + 400 + 400 + 4 + 1200 + 4500 + 1024 + 400 + 400 + 400 ≤ C.2.2.2.1.slots) (R : j_Rv n_KT 1 C G b_13_1 mc ms qf) (q : qf (j_sp (j_ns (j_sp (j_ns (j_sp (j_ns (j_sp (j_ns (j_sp (j_ns (j_sp (j_ns (j_sp (j_ns (j_sp (j_ns (j_sp (j_ns (j_sp (j_ns (j_sp (j_ns (j_sp (j_ns (j_sp (j_ns (j_sp (j_ns (j_sp S s1 1 s0) a1 1) l0 5 a1) a2 1) l0 6 a2) a3 3) l0 7 a3) a4 3) l0 8 a4) a5 12) l0 11 a5) a6 1) l0 14 a6) a7 1) l0 15 a7) a8 15) l0 16 a8) a9 13) l0 17 a9) a10 14) l0 19 a10) a11 12) l0 21 a11) a12 1) l0 28 a12) a13 16) l0 29 a13) a14 1) l0 30 a14) (j_nv (j_nv (j_nv (j_nv (j_nv (j_nv (j_nv (j_nv (j_nv (j_nv (j_nv (j_nv (j_nv (j_nv V a1) a2) a3) a4) a5) a6) a7) a8) a9) a10) a11) a12) a13) a14)) (hc : nc + 1 + 1 + 1 + 1 + 1 + 1 + 1 + 1 + 1 + 1 + 1 + 1 + 1 + 1 ≤ mc) (hs : ns + 400 + 400 + 256 + 256 + 1024 + 400 + 400 + 4 + 1200 + 4500 + 1024 + 400 + 400 + 400 ≤ ms) : j_ok n_KT 1 C G 23 [(0, (2, l0))] [(2, s0), (2, s1)] S V nc ns := by
  have E := n_E h
  refine j_putR (f := 1) (fp12_16 h hin) (n_hap h 33 12 0 _ rfl) d13_1_23 c1 (by decide) rfl rfl rfl (by decide) (Or.inr c2) ?_
  refine j_aload_n E d13_1_26 rfl 0 rfl ?_
  refine j_sipush E d13_1_27 (by decide) ?_
  obtain ⟨cA1, hA1, hB1⟩ := fa_int h
  refine j_newarray (n := 400) (k := 1) E hA1 hB1 d13_1_30 a1 c3 c4 (by decide) rfl rfl rfl rfl (by decide) c5 c6 ?_
  refine j_putR (f := 5) (fp12_19 h hin) (n_hap h 33 12 0 _ rfl) d13_1_32 c7 (by decide) rfl rfl rfl (by decide) (Or.inr (j_nsa _ _ _)) ?_
  refine j_aload_n E d13_1_35 rfl 0 rfl ?_
  refine j_sipush E d13_1_36 (by decide) ?_
  obtain ⟨cA2, hA2, hB2⟩ := fa_int h
  refine j_newarray (n := 400) (k := 1) E hA2 hB2 d13_1_39 a2 c8 c9 (by decide) rfl rfl rfl rfl (by decide) c10 c11 ?_
  refine j_putR (f := 6) (fp12_23 h hin) (n_hap h 33 12 0 _ rfl) d13_1_41 (j_nsk c9 c7 (by decide)) (by decide) rfl rfl rfl (by decide) (Or.inr (j_nsa _ _ _)) ?_
  refine j_aload_n E d13_1_44 rfl 0 rfl ?_
  refine j_sipush E d13_1_45 (by decide) ?_
  obtain ⟨cA3, hA3, hB3⟩ := fa_int h
  refine j_newarray (n := 256) (k := 3) E hA3 hB3 d13_1_48 a3 c12 c13 (by decide) rfl rfl rfl rfl (by decide) c14 c15 ?_
  refine j_putR (f := 7) (fp12_26 h hin) (n_hap h 33 12 0 _ rfl) d13_1_50 (j_nsk c13 (j_nsk c9 c7 (by decide)) (by decide)) (by decide) rfl rfl rfl (by decide) (Or.inr (j_nsa _ _ _)) ?_
  refine j_aload_n E d13_1_53 rfl 0 rfl ?_
  refine j_sipush E d13_1_54 (by decide) ?_
  obtain ⟨cA4, hA4, hB4⟩ := fa_int h
  refine j_newarray (n := 256) (k := 3) E hA4 hB4 d13_1_57 a4 c16 c17 (by decide) rfl rfl rfl rfl (by decide) c18 c19 ?_
  refine j_putR (f := 8) (fp12_29 h hin) (n_hap h 33 12 0 _ rfl) d13_1_59 (j_nsk c17 (j_nsk c13 (j_nsk c9 c7 (by decide)) (by decide)) (by decide)) (by decide) rfl rfl rfl (by decide) (Or.inr (j_nsa _ _ _)) ?_
  refine j_aload_n E d13_1_62 rfl 0 rfl ?_
  refine j_sipush E d13_1_63 (by decide) ?_
  obtain ⟨cA5, hA5, hB5⟩ := fa_int h
  refine j_newarray (n := 1024) (k := 12) E hA5 hB5 d13_1_66 a5 c20 c21 (by decide) rfl rfl rfl rfl (by decide) c22 c23 ?_
  refine j_putR (f := 11) (fp12_32 h hin) (n_hap h 33 12 0 _ rfl) d13_1_68 (j_nsk c21 (j_nsk c17 (j_nsk c13 (j_nsk c9 c7 (by decide)) (by decide)) (by decide)) (by decide)) (by decide) rfl rfl rfl (by decide) (Or.inr (j_nsa _ _ _)) ?_
  refine j_aload_n E d13_1_71 rfl 0 rfl ?_
  refine j_sipush E d13_1_72 (by decide) ?_
  obtain ⟨cA6, hA6, hB6⟩ := fa_int h
  refine j_newarray (n := 400) (k := 1) E hA6 hB6 d13_1_75 a6 c24 c25 (by decide) rfl rfl rfl rfl (by decide) c26 c27 ?_
  refine j_putR (f := 14) (fp12_35 h hin) (n_hap h 33 12 0 _ rfl) d13_1_77 (j_nsk c25 (j_nsk c21 (j_nsk c17 (j_nsk c13 (j_nsk c9 c7 (by decide)) (by decide)) (by decide)) (by decide)) (by decide)) (by decide) rfl rfl rfl (by decide) (Or.inr (j_nsa _ _ _)) ?_
  refine j_aload_n E d13_1_80 rfl 0 rfl ?_
  refine j_sipush E d13_1_81 (by decide) ?_
  obtain ⟨cA7, hA7, hB7⟩ := fa_int h
  refine j_newarray (n := 400) (k := 1) E hA7 hB7 d13_1_84 a7 c28 c29 (by decide) rfl rfl rfl rfl (by decide) c30 c31 ?_
  refine j_putR (f := 15) (fp12_38 h hin) (n_hap h 33 12 0 _ rfl) d13_1_86 (j_nsk c29 (j_nsk c25 (j_nsk c21 (j_nsk c17 (j_nsk c13 (j_nsk c9 c7 (by decide)) (by decide)) (by decide)) (by decide)) (by decide)) (by decide)) (by decide) rfl rfl rfl (by decide) (Or.inr (j_nsa _ _ _)) ?_
  refine j_aload_n E d13_1_89 rfl 0 rfl ?_
  refine j_iconst E d13_1_90 (by decide) ?_
  obtain ⟨cA8, hA8, hB8⟩ := fa_long h
  refine j_newarray (n := 4) (k := 15) E hA8 hB8 d13_1_91 a8 c32 c33 (by decide) rfl rfl rfl rfl (by decide) c34 c35 ?_
  refine j_putR (f := 16) (fp12_41 h hin) (n_hap h 33 12 0 _ rfl) d13_1_93 (j_nsk c33 (j_nsk c29 (j_nsk c25 (j_nsk c21 (j_nsk c17 (j_nsk c13 (j_nsk c9 c7 (by decide)) (by decide)) (by decide)) (by decide)) (by decide)) (by decide)) (by decide)) (by decide) rfl rfl rfl (by decide) (Or.inr (j_nsa _ _ _)) ?_
  refine j_aload_n E d13_1_96 rfl 0 rfl ?_
  refine j_sipush E d13_1_97 (by decide) ?_
  obtain ⟨cA9, hA9, hB9⟩ := fa_int h
  refine j_newarray (n := 1200) (k := 13) E hA9 hB9 d13_1_100 a9 c36 c37 (by decide) rfl rfl rfl rfl (by decide) c38 c39 ?_
  refine j_putR (f := 17) (fp12_45 h hin) (n_hap h 33 12 0 _ rfl) d13_1_102 (j_nsk c37 (j_nsk c33 (j_nsk c29 (j_nsk c25 (j_nsk c21 (j_nsk c17 (j_nsk c13 (j_nsk c9 c7 (by decide)) (by decide)) (by decide)) (by decide)) (by decide)) (by decide)) (by decide)) (by decide)) (by decide) rfl rfl rfl (by decide) (Or.inr (j_nsa _ _ _)) ?_
  refine j_aload_n E d13_1_105 rfl 0 rfl ?_
  refine j_sipush E d13_1_106 (by decide) ?_
  obtain ⟨cA10, hA10, hB10⟩ := fa_int h
  refine j_newarray (n := 4500) (k := 14) E hA10 hB10 d13_1_109 a10 c40 c41 (by decide) rfl rfl rfl rfl (by decide) c42 c43 ?_
  refine j_putR (f := 19) (fp12_48 h hin) (n_hap h 33 12 0 _ rfl) d13_1_111 (j_nsk c41 (j_nsk c37 (j_nsk c33 (j_nsk c29 (j_nsk c25 (j_nsk c21 (j_nsk c17 (j_nsk c13 (j_nsk c9 c7 (by decide)) (by decide)) (by decide)) (by decide)) (by decide)) (by decide)) (by decide)) (by decide)) (by decide)) (by decide) rfl rfl rfl (by decide) (Or.inr (j_nsa _ _ _)) ?_
  refine j_aload_n E d13_1_114 rfl 0 rfl ?_
  refine j_sipush E d13_1_115 (by decide) ?_
  obtain ⟨cA11, hA11, hB11⟩ := fa_int h
  refine j_newarray (n := 1024) (k := 12) E hA11 hB11 d13_1_118 a11 c44 c45 (by decide) rfl rfl rfl rfl (by decide) c46 c47 ?_
  refine j_putR (f := 21) (fp12_51 h hin) (n_hap h 33 12 0 _ rfl) d13_1_120 (j_nsk c45 (j_nsk c41 (j_nsk c37 (j_nsk c33 (j_nsk c29 (j_nsk c25 (j_nsk c21 (j_nsk c17 (j_nsk c13 (j_nsk c9 c7 (by decide)) (by decide)) (by decide)) (by decide)) (by decide)) (by decide)) (by decide)) (by decide)) (by decide)) (by decide)) (by decide) rfl rfl rfl (by decide) (Or.inr (j_nsa _ _ _)) ?_
  refine j_aload_n E d13_1_123 rfl 0 rfl ?_
  refine j_sipush E d13_1_124 (by decide) ?_
  obtain ⟨cA12, hA12, hB12⟩ := fa_int h
  refine j_newarray (n := 400) (k := 1) E hA12 hB12 d13_1_127 a12 c48 c49 (by decide) rfl rfl rfl rfl (by decide) c50 c51 ?_
  refine j_putR (f := 28) (fp12_54 h hin) (n_hap h 33 12 0 _ rfl) d13_1_129 (j_nsk c49 (j_nsk c45 (j_nsk c41 (j_nsk c37 (j_nsk c33 (j_nsk c29 (j_nsk c25 (j_nsk c21 (j_nsk c17 (j_nsk c13 (j_nsk c9 c7 (by decide)) (by decide)) (by decide)) (by decide)) (by decide)) (by decide)) (by decide)) (by decide)) (by decide)) (by decide)) (by decide)) (by decide) rfl rfl rfl (by decide) (Or.inr (j_nsa _ _ _)) ?_
  refine j_aload_n E d13_1_132 rfl 0 rfl ?_
  refine j_sipush E d13_1_133 (by decide) ?_
  obtain ⟨cA13, hA13, hB13⟩ := fa_long h
  refine j_newarray (n := 400) (k := 16) E hA13 hB13 d13_1_136 a13 c52 c53 (by decide) rfl rfl rfl rfl (by decide) c54 c55 ?_
  refine j_putR (f := 29) (fp12_57 h hin) (n_hap h 33 12 0 _ rfl) d13_1_138 (j_nsk c53 (j_nsk c49 (j_nsk c45 (j_nsk c41 (j_nsk c37 (j_nsk c33 (j_nsk c29 (j_nsk c25 (j_nsk c21 (j_nsk c17 (j_nsk c13 (j_nsk c9 c7 (by decide)) (by decide)) (by decide)) (by decide)) (by decide)) (by decide)) (by decide)) (by decide)) (by decide)) (by decide)) (by decide)) (by decide)) (by decide) rfl rfl rfl (by decide) (Or.inr (j_nsa _ _ _)) ?_
  refine j_aload_n E d13_1_141 rfl 0 rfl ?_
  refine j_sipush E d13_1_142 (by decide) ?_
  obtain ⟨cA14, hA14, hB14⟩ := fa_int h
  refine j_newarray (n := 400) (k := 1) E hA14 hB14 d13_1_145 a14 c56 c57 (by decide) rfl rfl rfl rfl (by decide) c58 c59 ?_
  refine j_putR (f := 30) (fp12_60 h hin) (n_hap h 33 12 0 _ rfl) d13_1_147 (j_nsk c57 (j_nsk c53 (j_nsk c49 (j_nsk c45 (j_nsk c41 (j_nsk c37 (j_nsk c33 (j_nsk c29 (j_nsk c25 (j_nsk c21 (j_nsk c17 (j_nsk c13 (j_nsk c9 c7 (by decide)) (by decide)) (by decide)) (by decide)) (by decide)) (by decide)) (by decide)) (by decide)) (by decide)) (by decide)) (by decide)) (by decide)) (by decide)) (by decide) rfl rfl rfl (by decide) (Or.inr (j_nsa _ _ _)) ?_
  exact R _ _ _ _ _ _ d13_1_150 q hc hs
/- BalanceCoderModel.in(JJJ)Z -/
abbrev b_13_3 : ByteArray := prog_13_method_3_code
def y_13_3 : MethodName := ⟨"BalanceCoderModel", "in", "(JJJ)Z"⟩
abbrev x13_3 (C : qCx) (G : jG) : Prop := n_ctx C b_13_3 6 "BalanceCoderModel" G.1 G.2.1
def M13_3 (l : Launch) (mc ms : Nat) (p : Int → Int → Int → jS → jH → Prop) (q : Int → Int → Int → jS → jH → Int → jS → jH → Prop) : Prop := j_Met l vwCl n_TL n_NW n_KT y_13_3 (Cond.code y_13_3 b_13_3 6 (some .boolean) :: n_GW) { frames := 1, cells := mc, slots := ms, locals := 26 } mc ms (fun a S V => ∃ u0 u1 u2 : Int, a = [(1, u0), (1, u1), (1, u2)] ∧ p u0 u1 u2 S V) (fun a S V rs S' V' => ∃ u0 u1 u2 r : Int, a = [(1, u0), (1, u1), (1, u2)] ∧ rs = [(0, r)] ∧ q u0 u1 u2 S V r S' V')
theorem e13_3 {l : Launch} {mc ms : Nat} {p : Int → Int → Int → jS → jH → Prop} {q : Int → Int → Int → jS → jH → Int → jS → jH → Prop} (body : ∀ (C : qCx) (G : jG), x13_3 C G → C.2.2.2.1.frames = 1 ∧ C.2.2.2.1.locals = 26 → C.2.2.2.1.cells = mc ∧ C.2.2.2.1.slots = ms → C.2.1 = l → C.2.2.2.2.2.2.2.2.1.name = "in" → ∀ (u0 u1 u2 : Int) (S : jS) (V : jH), p u0 u1 u2 S V → j_Rz n_KT 6 C G b_13_3 mc ms (q u0 u1 u2 S V) → j_ok n_KT 6 C G 0 [(0, (1, u0)), (2, (1, u1)), (4, (1, u2))] [] S V 0 0) : M13_3 l mc ms p q := by
  refine j_method (ws' := n_GW) (by decide) rfl ?_ ?_
  · rintro a S V ⟨u0, u1, u2, rfl, -⟩
    exact Nat.le_of_ble_eq_true rfl
  · rintro C G htl hl hrm hm hml ho hts hnm hE a S V ⟨u0, u1, u2, rfl, hp⟩ R
    exact body C G ⟨htl, hm, hml, ho, fun w hw => hts w (List.mem_cons_of_mem _ hw), hE⟩ (by rw [hrm]; exact ⟨rfl, rfl⟩) (by rw [hrm]; exact ⟨rfl, rfl⟩) hl hnm u0 u1 u2 S V hp (fun pc lo r S' V' nc ns d z q hc hs => R.2.2.1 rfl pc lo r S' V' nc ns d z ⟨u0, u1, u2, r, rfl, rfl, q⟩ hc hs)
theorem d13_3_0 : decode b_13_3 0 = .ok (.lload_n 0, 1) := by decide +kernel
theorem d13_3_1 : decode b_13_3 1 = .ok (.lload_n 2, 1) := by decide +kernel
theorem d13_3_2 : decode b_13_3 2 = .ok (.lcmp, 1) := by decide +kernel
theorem d13_3_3 : decode b_13_3 3 = .ok (.ifCond .lt 14, 3) := by decide +kernel
theorem d13_3_6 : decode b_13_3 6 = .ok (.lload_n 0, 1) := by decide +kernel
theorem d13_3_7 : decode b_13_3 7 = .ok (.lload 4, 2) := by decide +kernel
theorem d13_3_9 : decode b_13_3 9 = .ok (.lcmp, 1) := by decide +kernel
theorem d13_3_10 : decode b_13_3 10 = .ok (.ifCond .gt 7, 3) := by decide +kernel
theorem d13_3_13 : decode b_13_3 13 = .ok (.iconst 1, 1) := by decide +kernel
theorem d13_3_14 : decode b_13_3 14 = .ok (.goto 4, 3) := by decide +kernel
theorem d13_3_17 : decode b_13_3 17 = .ok (.iconst 0, 1) := by decide +kernel
theorem d13_3_18 : decode b_13_3 18 = .ok (.ireturn, 1) := by decide +kernel
theorem t13_3_0 {C : qCx} {G : jG} {S : jS} {V : jH} {nc ns : Nat} {l0 l2 l4 : Int} (h : x13_3 C G)  (k : l0 < l2 → j_ok n_KT 6 C G 17 [] [] S V nc ns) (k' : l2 ≤ l0 → j_ok n_KT 6 C G 6 [(0, (1, l0)), (4, (1, l4))] [] S V nc ns) : j_ok n_KT 6 C G 0 [(0, (1, l0)), (2, (1, l2)), (4, (1, l4))] [] S V nc ns := by
  have E := n_E h
  refine j_lload_n E d13_3_0 rfl 0 rfl ?_
  refine j_lload_n E d13_3_1 rfl 1 rfl ?_
  refine j_lcmp E d13_3_2 ?_
  exact j_if_lt E d13_3_3 (t := 17) rfl (fun q => j_pick [] rfl (k (j_cmp_lt.mp q))) (fun q => j_pick [0, 2] rfl (k' (j_cmp_ge.mp q)))
theorem t13_3_6 {C : qCx} {G : jG} {S : jS} {V : jH} {nc ns : Nat} {l0 l4 : Int} (h : x13_3 C G)  (k : l4 < l0 → j_ok n_KT 6 C G 17 [] [] S V nc ns) (k' : l0 ≤ l4 → j_ok n_KT 6 C G 13 [] [] S V nc ns) : j_ok n_KT 6 C G 6 [(0, (1, l0)), (4, (1, l4))] [] S V nc ns := by
  have E := n_E h
  refine j_lload_n E d13_3_6 rfl 0 rfl ?_
  refine j_lload E d13_3_7 1 rfl ?_
  refine j_lcmp E d13_3_9 ?_
  exact j_if_gt E d13_3_10 (t := 17) rfl (fun q => j_pick [] rfl (k (j_cmp_gt.mp q))) (fun q => j_pick [] rfl (k' (j_cmp_le.mp q)))
theorem t13_3_13 {C : qCx} {G : jG} {S : jS} {V : jH} {nc ns : Nat} (h : x13_3 C G)  (k : j_ok n_KT 6 C G 18 [] [(0, 1)] S V nc ns) : j_ok n_KT 6 C G 13 [] [] S V nc ns := by
  have E := n_E h
  refine j_iconst E d13_3_13 (by decide) ?_
  refine j_goto E d13_3_14 (t := 18) rfl ?_
  exact j_pick [] rfl k
theorem t13_3_17 {C : qCx} {G : jG} {S : jS} {V : jH} {nc ns : Nat} (h : x13_3 C G)  (k : j_ok n_KT 6 C G 18 [] [(0, 0)] S V nc ns) : j_ok n_KT 6 C G 17 [] [] S V nc ns := by
  have E := n_E h
  refine j_iconst E d13_3_17 (by decide) ?_
  exact j_pick [] rfl k
theorem t13_3_18 {C : qCx} {G : jG} {S : jS} {V : jH} {nc ns : Nat} {s0 : Int} {mc ms : Nat} {qf : Int → jS → jH → Prop} (h : x13_3 C G)  (R : j_Rz n_KT 6 C G b_13_3 mc ms qf) (hz : 0 ≤ s0 ∧ s0 ≤ 1) (q : qf s0 S V) (hc : nc ≤ mc) (hs : ns ≤ ms) : j_ok n_KT 6 C G 18 [] [(0, s0)] S V nc ns := by
  have E := n_E h
  exact R _ _ _ _ _ _ _ d13_3_18 hz q hc hs
/- BalanceCoderModel.isRow(I)Z -/
abbrev b_13_4 : ByteArray := prog_13_method_4_code
def y_13_4 : MethodName := ⟨"BalanceCoderModel", "isRow", "(I)Z"⟩
abbrev x13_4 (C : qCx) (G : jG) : Prop := n_ctx C b_13_4 1 "BalanceCoderModel" G.1 G.2.1
def M13_4 (l : Launch) (mc ms : Nat) (p : Int → jS → jH → Prop) (q : Int → jS → jH → Int → jS → jH → Prop) : Prop := j_Met l vwCl n_TL n_NW n_KT y_13_4 (Cond.code y_13_4 b_13_4 1 (some .boolean) :: n_GW) { frames := 2, cells := mc, slots := ms, locals := 51 } mc ms (fun a S V => ∃ u0 : Int, a = [(0, u0)] ∧ p u0 S V) (fun a S V rs S' V' => ∃ u0 r : Int, a = [(0, u0)] ∧ rs = [(0, r)] ∧ q u0 S V r S' V')
theorem e13_4 {l : Launch} {mc ms : Nat} {p : Int → jS → jH → Prop} {q : Int → jS → jH → Int → jS → jH → Prop} (body : ∀ (C : qCx) (G : jG), x13_4 C G → C.2.2.2.1.frames = 2 ∧ C.2.2.2.1.locals = 51 → C.2.2.2.1.cells = mc ∧ C.2.2.2.1.slots = ms → C.2.1 = l → C.2.2.2.2.2.2.2.2.1.name = "isRow" → ∀ (u0 : Int) (S : jS) (V : jH), p u0 S V → j_Rz n_KT 1 C G b_13_4 mc ms (q u0 S V) → j_ok n_KT 1 C G 0 [(0, (0, u0))] [] S V 0 0) : M13_4 l mc ms p q := by
  refine j_method (ws' := n_GW) (by decide) rfl ?_ ?_
  · rintro a S V ⟨u0, rfl, -⟩
    exact Nat.le_of_ble_eq_true rfl
  · rintro C G htl hl hrm hm hml ho hts hnm hE a S V ⟨u0, rfl, hp⟩ R
    exact body C G ⟨htl, hm, hml, ho, fun w hw => hts w (List.mem_cons_of_mem _ hw), hE⟩ (by rw [hrm]; exact ⟨rfl, rfl⟩) (by rw [hrm]; exact ⟨rfl, rfl⟩) hl hnm u0 S V hp (fun pc lo r S' V' nc ns d z q hc hs => R.2.2.1 rfl pc lo r S' V' nc ns d z ⟨u0, r, rfl, rfl, q⟩ hc hs)
theorem d13_4_0 : decode b_13_4 0 = .ok (.iload_n 0, 1) := by decide +kernel
theorem d13_4_1 : decode b_13_4 1 = .ok (.i2l, 1) := by decide +kernel
theorem d13_4_2 : decode b_13_4 2 = .ok (.lconst 0, 1) := by decide +kernel
theorem d13_4_3 : decode b_13_4 3 = .ok (.ldc2_w 67, 3) := by decide +kernel
theorem d13_4_6 : decode b_13_4 6 = .ok (.invokestatic 69, 3) := by decide +kernel
theorem d13_4_9 : decode b_13_4 9 = .ok (.ireturn, 1) := by decide +kernel
theorem K13_4_6 {C : qCx} {G : jG} {mc ms : Nat} {p : Int → Int → Int → jS → jH → Prop} {q : Int → Int → Int → jS → jH → Int → jS → jH → Prop} (h : x13_4 C G) (hrm : C.2.2.2.1.frames = 2 ∧ C.2.2.2.1.locals = 51) (hM : M13_3 C.2.1 mc ms p q) : j_Call C b_13_4 n_KT G.1 G.2.1 1 (.invokestatic 69) mc ms (fun a S V => ∃ u0 u1 u2 : Int, a = [(1, u0), (1, u1), (1, u2)] ∧ p u0 u1 u2 S V) (fun a S V rs S' V' => ∃ u0 u1 u2 r : Int, a = [(1, u0), (1, u1), (1, u2)] ∧ rs = [(0, r)] ∧ q u0 u1 u2 S V r S' V') := j_callS n_NWk h.2.2.2.2.2 h.1 hM ⟨h.2.1.1, h.2.1.2, h.2.2.1, h.2.2.2.1, h.2.2.2.2.1⟩ ⟨n_CB (y := y_13_3) (bytes := b_13_3) 3 h.2.2.2.2.1 n_w923 n_w921 n_w12 ⟨by decide, by decide, by decide +kernel⟩ rfl rfl ⟨by rw [hrm.1]; exact Nat.le_of_ble_eq_true rfl, by rw [hrm.2]; exact Nat.le_of_ble_eq_true rfl⟩, h.2.2.2.2.1 _ n_w922⟩ (fun a S V hP => by obtain ⟨u0, u1, u2, rfl, -⟩ := hP; rfl)
theorem t13_4_0 {C : qCx} {G : jG} {S : jS} {V : jH} {nc ns : Nat} {l0 : Int} {mc ms : Nat} {pp : Int → Int → Int → jS → jH → Prop} {qq : Int → Int → Int → jS → jH → Int → jS → jH → Prop} (h : x13_4 C G) (hrm : C.2.2.2.1.frames = 2 ∧ C.2.2.2.1.locals = 51)  (hM : M13_3 C.2.1 mc ms pp qq) (hp : pp l0 0 5 S V) (hc : nc + mc ≤ C.2.2.2.1.cells) (hs : ns + ms ≤ C.2.2.2.1.slots) (k : ∀ (r : Int) (S' : jS) (V' : jH), qq l0 0 5 S V r S' V' → j_ok n_KT 1 C G 9 [] [(0, r)] S' V' (nc + mc) (ns + ms)) : j_ok n_KT 1 C G 0 [(0, (0, l0))] [] S V nc ns := by
  have E := n_E h
  refine j_iload_n E d13_4_0 rfl 0 rfl ?_
  refine j_i2l E d13_4_1 ?_
  refine j_lconst E d13_4_2 ?_
  refine j_ldc2 (n := 5) (fl12_67 h) rfl d13_4_3 ?_
  refine j_call E (K13_4_6 h hrm hM) d13_4_6 (a := [(1, l0), (1, 0), (1, 5)]) (sk := []) rfl ⟨l0, 0, 5, rfl, hp⟩ (Nat.le_of_ble_eq_true rfl) hc hs ?_
  rintro rs S' V' ⟨z0, z1, z2, r, e1, rfl, q⟩
  simp only [List.cons.injEq, Prod.mk.injEq, and_true, true_and] at e1
  obtain ⟨rfl, rfl, rfl⟩ := e1
  exact j_pick [] rfl (k r S' V' q)
theorem t13_4_9 {C : qCx} {G : jG} {S : jS} {V : jH} {nc ns : Nat} {s0 : Int} {mc ms : Nat} {qf : Int → jS → jH → Prop} (h : x13_4 C G)  (R : j_Rz n_KT 1 C G b_13_4 mc ms qf) (hz : 0 ≤ s0 ∧ s0 ≤ 1) (q : qf s0 S V) (hc : nc ≤ mc) (hs : ns ≤ ms) : j_ok n_KT 1 C G 9 [] [(0, s0)] S V nc ns := by
  have E := n_E h
  exact R _ _ _ _ _ _ _ d13_4_9 hz q hc hs
/- BalanceCoderModel.found(I)I -/
abbrev b_13_2 : ByteArray := prog_13_method_2_code
def y_13_2 : MethodName := ⟨"BalanceCoderModel", "found", "(I)I"⟩
abbrev x13_2 (C : qCx) (G : jG) : Prop := n_ctx C b_13_2 2 "BalanceCoderModel" G.1 G.2.1
def M13_2 (l : Launch) (mc ms : Nat) (p : Int → Int → jS → jH → Prop) (q : Int → Int → jS → jH → Int → jS → jH → Prop) : Prop := j_Met l vwCl n_TL n_NW n_KT y_13_2 (Cond.code y_13_2 b_13_2 2 (some .int) :: n_GW) { frames := 1, cells := mc, slots := ms, locals := 26 } mc ms (fun a S V => ∃ u0 u1 : Int, a = [(2, u0), (0, u1)] ∧ S.1 u0 = 33 ∧ p u0 u1 S V) (fun a S V rs S' V' => ∃ u0 u1 r : Int, a = [(2, u0), (0, u1)] ∧ rs = [(0, r)] ∧ q u0 u1 S V r S' V')
theorem e13_2 {l : Launch} {mc ms : Nat} {p : Int → Int → jS → jH → Prop} {q : Int → Int → jS → jH → Int → jS → jH → Prop} (body : ∀ (C : qCx) (G : jG), x13_2 C G → C.2.2.2.1.frames = 1 ∧ C.2.2.2.1.locals = 26 → C.2.2.2.1.cells = mc ∧ C.2.2.2.1.slots = ms → C.2.1 = l → C.2.2.2.2.2.2.2.2.1.name = "found" → ∀ (u0 u1 : Int) (S : jS) (V : jH), S.1 u0 = 33 → p u0 u1 S V → j_Ri n_KT 2 C G b_13_2 mc ms (q u0 u1 S V) → j_ok n_KT 2 C G 0 [(0, (2, u0)), (1, (0, u1))] [] S V 0 0) : M13_2 l mc ms p q := by
  refine j_method (ws' := n_GW) (by decide) rfl ?_ ?_
  · rintro a S V ⟨u0, u1, rfl, -⟩
    exact Nat.le_of_ble_eq_true rfl
  · rintro C G htl hl hrm hm hml ho hts hnm hE a S V ⟨u0, u1, rfl, ht, hp⟩ R
    exact body C G ⟨htl, hm, hml, ho, fun w hw => hts w (List.mem_cons_of_mem _ hw), hE⟩ (by rw [hrm]; exact ⟨rfl, rfl⟩) (by rw [hrm]; exact ⟨rfl, rfl⟩) hl hnm u0 u1 S V ht hp (fun pc lo r S' V' nc ns d q hc hs => R.2.1 rfl pc lo r S' V' nc ns d ⟨u0, u1, r, rfl, rfl, q⟩ hc hs)
theorem d13_2_0 : decode b_13_2 0 = .ok (.iload_n 1, 1) := by decide +kernel
theorem d13_2_1 : decode b_13_2 1 = .ok (.ifCond .ge 13, 3) := by decide +kernel
theorem d13_2_4 : decode b_13_2 4 = .ok (.aload_n 0, 1) := by decide +kernel
theorem d13_2_5 : decode b_13_2 5 = .ok (.dup, 1) := by decide +kernel
theorem d13_2_6 : decode b_13_2 6 = .ok (.getfield 63, 3) := by decide +kernel
theorem d13_2_9 : decode b_13_2 9 = .ok (.iconst 1, 1) := by decide +kernel
theorem d13_2_10 : decode b_13_2 10 = .ok (.iadd, 1) := by decide +kernel
theorem d13_2_11 : decode b_13_2 11 = .ok (.putfield 63, 3) := by decide +kernel
theorem d13_2_14 : decode b_13_2 14 = .ok (.iload_n 1, 1) := by decide +kernel
theorem d13_2_15 : decode b_13_2 15 = .ok (.ireturn, 1) := by decide +kernel
theorem t13_2_0 {C : qCx} {G : jG} {S : jS} {V : jH} {nc ns : Nat} {l0 l1 : Int} (h : x13_2 C G)  (k : 0 ≤ l1 → j_ok n_KT 2 C G 14 [(1, (0, l1))] [] S V nc ns) (k' : l1 < 0 → j_ok n_KT 2 C G 4 [(0, (2, l0)), (1, (0, l1))] [] S V nc ns) : j_ok n_KT 2 C G 0 [(0, (2, l0)), (1, (0, l1))] [] S V nc ns := by
  have E := n_E h
  refine j_iload_n E d13_2_0 rfl 1 rfl ?_
  exact j_if_ge E d13_2_1 (t := 14) rfl (fun q => j_pick [1] rfl (k q)) (fun q => j_pick [0, 1] rfl (k' q))
theorem t13_2_4 {C : qCx} {G : jG} {S : jS} {V : jH} {nc ns : Nat} {l0 l1 : Int} (h : x13_2 C G) (c1 : S.1 l0 = 33) (c2 : -2147483648 ≤ (V l0 3) + 1 ∧ (V l0 3) + 1 ≤ 2147483647) (k : j_ok n_KT 2 C G 14 [(1, (0, l1))] [] S (j_up V l0 3 ((V l0 3) + 1)) nc ns) : j_ok n_KT 2 C G 4 [(0, (2, l0)), (1, (0, l1))] [] S V nc ns := by
  have E := n_E h
  refine j_aload_n E d13_2_4 rfl 0 rfl ?_
  refine j_dup E d13_2_5 rfl ?_
  refine j_getI (f := 3) (fg12_63 h) d13_2_6 c1 (by decide) rfl rfl ?_
  refine j_iconst E d13_2_9 (by decide) ?_
  refine j_iadd E d13_2_10 c2 ?_
  refine j_putI (f := 3) (fp12_63 h) (n_hap h 33 12 0 _ rfl) d13_2_11 c1 (by decide) rfl rfl rfl ?_
  exact j_pick [1] rfl k
theorem t13_2_14 {C : qCx} {G : jG} {S : jS} {V : jH} {nc ns : Nat} {l1 : Int} {mc ms : Nat} {qf : Int → jS → jH → Prop} (h : x13_2 C G)  (R : j_Ri n_KT 2 C G b_13_2 mc ms qf) (q : qf l1 S V) (hc : nc ≤ mc) (hs : ns ≤ ms) : j_ok n_KT 2 C G 14 [(1, (0, l1))] [] S V nc ns := by
  have E := n_E h
  refine j_iload_n E d13_2_14 rfl 0 rfl ?_
  exact R _ _ _ _ _ _ _ d13_2_15 q hc hs
/- BalanceCoderModel.put(IJI)I -/
abbrev b_13_6 : ByteArray := prog_13_method_6_code
def y_13_6 : MethodName := ⟨"BalanceCoderModel", "put", "(IJI)I"⟩
abbrev x13_6 (C : qCx) (G : jG) : Prop := n_ctx C b_13_6 6 "BalanceCoderModel" G.1 G.2.1
def M13_6 (l : Launch) (mc ms : Nat) (p : Int → Int → Int → Int → jS → jH → Prop) (q : Int → Int → Int → Int → jS → jH → Int → jS → jH → Prop) : Prop := j_Met l vwCl n_TL n_NW n_KT y_13_6 (Cond.code y_13_6 b_13_6 6 (some .int) :: n_GW) { frames := 3, cells := mc, slots := ms, locals := 71 } mc ms (fun a S V => ∃ u0 u1 u2 u3 : Int, a = [(2, u0), (0, u1), (1, u2), (0, u3)] ∧ S.1 u0 = 33 ∧ p u0 u1 u2 u3 S V) (fun a S V rs S' V' => ∃ u0 u1 u2 u3 r : Int, a = [(2, u0), (0, u1), (1, u2), (0, u3)] ∧ rs = [(0, r)] ∧ q u0 u1 u2 u3 S V r S' V')
theorem e13_6 {l : Launch} {mc ms : Nat} {p : Int → Int → Int → Int → jS → jH → Prop} {q : Int → Int → Int → Int → jS → jH → Int → jS → jH → Prop} (body : ∀ (C : qCx) (G : jG), x13_6 C G → C.2.2.2.1.frames = 3 ∧ C.2.2.2.1.locals = 71 → C.2.2.2.1.cells = mc ∧ C.2.2.2.1.slots = ms → C.2.1 = l → C.2.2.2.2.2.2.2.2.1.name = "put" → ∀ (u0 u1 u2 u3 : Int) (S : jS) (V : jH), S.1 u0 = 33 → p u0 u1 u2 u3 S V → j_Ri n_KT 6 C G b_13_6 mc ms (q u0 u1 u2 u3 S V) → j_ok n_KT 6 C G 0 [(0, (2, u0)), (1, (0, u1)), (2, (1, u2)), (4, (0, u3))] [] S V 0 0) : M13_6 l mc ms p q := by
  refine j_method (ws' := n_GW) (by decide) rfl ?_ ?_
  · rintro a S V ⟨u0, u1, u2, u3, rfl, -⟩
    exact Nat.le_of_ble_eq_true rfl
  · rintro C G htl hl hrm hm hml ho hts hnm hE a S V ⟨u0, u1, u2, u3, rfl, ht, hp⟩ R
    exact body C G ⟨htl, hm, hml, ho, fun w hw => hts w (List.mem_cons_of_mem _ hw), hE⟩ (by rw [hrm]; exact ⟨rfl, rfl⟩) (by rw [hrm]; exact ⟨rfl, rfl⟩) hl hnm u0 u1 u2 u3 S V ht hp (fun pc lo r S' V' nc ns d q hc hs => R.2.1 rfl pc lo r S' V' nc ns d ⟨u0, u1, u2, u3, r, rfl, rfl, q⟩ hc hs)
theorem d13_6_0 : decode b_13_6 0 = .ok (.iload_n 1, 1) := by decide +kernel
theorem d13_6_1 : decode b_13_6 1 = .ok (.invokestatic 76, 3) := by decide +kernel
theorem d13_6_4 : decode b_13_6 4 = .ok (.ifCond .eq 16, 3) := by decide +kernel
theorem d13_6_7 : decode b_13_6 7 = .ok (.iload 4, 2) := by decide +kernel
theorem d13_6_9 : decode b_13_6 9 = .ok (.i2l, 1) := by decide +kernel
theorem d13_6_10 : decode b_13_6 10 = .ok (.lconst 1, 1) := by decide +kernel
theorem d13_6_11 : decode b_13_6 11 = .ok (.ldc2_w 80, 3) := by decide +kernel
theorem d13_6_14 : decode b_13_6 14 = .ok (.invokestatic 69, 3) := by decide +kernel
theorem d13_6_17 : decode b_13_6 17 = .ok (.ifCond .ne 9, 3) := by decide +kernel
theorem d13_6_20 : decode b_13_6 20 = .ok (.aload_n 0, 1) := by decide +kernel
theorem d13_6_21 : decode b_13_6 21 = .ok (.iconst (-1), 1) := by decide +kernel
theorem d13_6_22 : decode b_13_6 22 = .ok (.invokevirtual 82, 3) := by decide +kernel
theorem d13_6_25 : decode b_13_6 25 = .ok (.ireturn, 1) := by decide +kernel
theorem d13_6_26 : decode b_13_6 26 = .ok (.aload_n 0, 1) := by decide +kernel
theorem d13_6_27 : decode b_13_6 27 = .ok (.getfield 10, 3) := by decide +kernel
theorem d13_6_30 : decode b_13_6 30 = .ok (.getfield 86, 3) := by decide +kernel
theorem d13_6_33 : decode b_13_6 33 = .ok (.iload_n 1, 1) := by decide +kernel
theorem d13_6_34 : decode b_13_6 34 = .ok (.iaload, 1) := by decide +kernel
theorem d13_6_35 : decode b_13_6 35 = .ok (.iload 4, 2) := by decide +kernel
theorem d13_6_37 : decode b_13_6 37 = .ok (.iadd, 1) := by decide +kernel
theorem d13_6_38 : decode b_13_6 38 = .ok (.sipush 400, 3) := by decide +kernel
theorem d13_6_41 : decode b_13_6 41 = .ok (.if_icmp .le 10, 3) := by decide +kernel
theorem d13_6_44 : decode b_13_6 44 = .ok (.aload_n 0, 1) := by decide +kernel
theorem d13_6_45 : decode b_13_6 45 = .ok (.bipush (-2), 2) := by decide +kernel
theorem d13_6_47 : decode b_13_6 47 = .ok (.invokevirtual 82, 3) := by decide +kernel
theorem d13_6_50 : decode b_13_6 50 = .ok (.ireturn, 1) := by decide +kernel
theorem d13_6_51 : decode b_13_6 51 = .ok (.iload 4, 2) := by decide +kernel
theorem d13_6_53 : decode b_13_6 53 = .ok (.iconst 1, 1) := by decide +kernel
theorem d13_6_54 : decode b_13_6 54 = .ok (.isub, 1) := by decide +kernel
theorem d13_6_55 : decode b_13_6 55 = .ok (.istore 5, 2) := by decide +kernel
theorem d13_6_57 : decode b_13_6 57 = .ok (.iload 5, 2) := by decide +kernel
theorem d13_6_59 : decode b_13_6 59 = .ok (.ifCond .lt 57, 3) := by decide +kernel
theorem d13_6_62 : decode b_13_6 62 = .ok (.aload_n 0, 1) := by decide +kernel
theorem d13_6_63 : decode b_13_6 63 = .ok (.getfield 10, 3) := by decide +kernel
theorem d13_6_66 : decode b_13_6 66 = .ok (.getfield 89, 3) := by decide +kernel
theorem d13_6_69 : decode b_13_6 69 = .ok (.sipush 400, 3) := by decide +kernel
theorem d13_6_72 : decode b_13_6 72 = .ok (.iload_n 1, 1) := by decide +kernel
theorem d13_6_73 : decode b_13_6 73 = .ok (.imul, 1) := by decide +kernel
theorem d13_6_74 : decode b_13_6 74 = .ok (.aload_n 0, 1) := by decide +kernel
theorem d13_6_75 : decode b_13_6 75 = .ok (.getfield 10, 3) := by decide +kernel
theorem d13_6_78 : decode b_13_6 78 = .ok (.getfield 86, 3) := by decide +kernel
theorem d13_6_81 : decode b_13_6 81 = .ok (.iload_n 1, 1) := by decide +kernel
theorem d13_6_82 : decode b_13_6 82 = .ok (.iaload, 1) := by decide +kernel
theorem d13_6_83 : decode b_13_6 83 = .ok (.iadd, 1) := by decide +kernel
theorem d13_6_84 : decode b_13_6 84 = .ok (.lload_n 2, 1) := by decide +kernel
theorem d13_6_85 : decode b_13_6 85 = .ok (.bipush 8, 2) := by decide +kernel
theorem d13_6_87 : decode b_13_6 87 = .ok (.iload 5, 2) := by decide +kernel
theorem d13_6_89 : decode b_13_6 89 = .ok (.imul, 1) := by decide +kernel
theorem d13_6_90 : decode b_13_6 90 = .ok (.lshr, 1) := by decide +kernel
theorem d13_6_91 : decode b_13_6 91 = .ok (.ldc2_w 92, 3) := by decide +kernel
theorem d13_6_94 : decode b_13_6 94 = .ok (.land, 1) := by decide +kernel
theorem d13_6_95 : decode b_13_6 95 = .ok (.l2i, 1) := by decide +kernel
theorem d13_6_96 : decode b_13_6 96 = .ok (.iastore, 1) := by decide +kernel
theorem d13_6_97 : decode b_13_6 97 = .ok (.aload_n 0, 1) := by decide +kernel
theorem d13_6_98 : decode b_13_6 98 = .ok (.getfield 10, 3) := by decide +kernel
theorem d13_6_101 : decode b_13_6 101 = .ok (.getfield 86, 3) := by decide +kernel
theorem d13_6_104 : decode b_13_6 104 = .ok (.iload_n 1, 1) := by decide +kernel
theorem d13_6_105 : decode b_13_6 105 = .ok (.dup2, 1) := by decide +kernel
theorem d13_6_106 : decode b_13_6 106 = .ok (.iaload, 1) := by decide +kernel
theorem d13_6_107 : decode b_13_6 107 = .ok (.iconst 1, 1) := by decide +kernel
theorem d13_6_108 : decode b_13_6 108 = .ok (.iadd, 1) := by decide +kernel
theorem d13_6_109 : decode b_13_6 109 = .ok (.iastore, 1) := by decide +kernel
theorem d13_6_110 : decode b_13_6 110 = .ok (.iinc 5 (-1), 3) := by decide +kernel
theorem d13_6_113 : decode b_13_6 113 = .ok (.goto (-56), 3) := by decide +kernel
theorem d13_6_116 : decode b_13_6 116 = .ok (.aload_n 0, 1) := by decide +kernel
theorem d13_6_117 : decode b_13_6 117 = .ok (.getfield 10, 3) := by decide +kernel
theorem d13_6_120 : decode b_13_6 120 = .ok (.getfield 86, 3) := by decide +kernel
theorem d13_6_123 : decode b_13_6 123 = .ok (.iload_n 1, 1) := by decide +kernel
theorem d13_6_124 : decode b_13_6 124 = .ok (.iaload, 1) := by decide +kernel
theorem d13_6_125 : decode b_13_6 125 = .ok (.ireturn, 1) := by decide +kernel
theorem K13_6_1 {C : qCx} {G : jG} {mc ms : Nat} {p : Int → jS → jH → Prop} {q : Int → jS → jH → Int → jS → jH → Prop} (h : x13_6 C G) (hrm : C.2.2.2.1.frames = 3 ∧ C.2.2.2.1.locals = 71) (hM : M13_4 C.2.1 mc ms p q) : j_Call C b_13_6 n_KT G.1 G.2.1 6 (.invokestatic 76) mc ms (fun a S V => ∃ u0 : Int, a = [(0, u0)] ∧ p u0 S V) (fun a S V rs S' V' => ∃ u0 r : Int, a = [(0, u0)] ∧ rs = [(0, r)] ∧ q u0 S V r S' V') := j_callS n_NWk h.2.2.2.2.2 h.1 hM ⟨h.2.1.1, h.2.1.2, h.2.2.1, h.2.2.2.1, h.2.2.2.2.1⟩ ⟨n_CB (y := y_13_4) (bytes := b_13_4) 1 h.2.2.2.2.1 n_w919 n_w917 n_w12 ⟨by decide, by decide, by decide +kernel⟩ rfl rfl ⟨by rw [hrm.1]; exact Nat.le_of_ble_eq_true rfl, by rw [hrm.2]; exact Nat.le_of_ble_eq_true rfl⟩, h.2.2.2.2.1 _ n_w918⟩ (fun a S V hP => by obtain ⟨u0, rfl, -⟩ := hP; rfl)
theorem K13_6_14 {C : qCx} {G : jG} {mc ms : Nat} {p : Int → Int → Int → jS → jH → Prop} {q : Int → Int → Int → jS → jH → Int → jS → jH → Prop} (h : x13_6 C G) (hrm : C.2.2.2.1.frames = 3 ∧ C.2.2.2.1.locals = 71) (hM : M13_3 C.2.1 mc ms p q) : j_Call C b_13_6 n_KT G.1 G.2.1 6 (.invokestatic 69) mc ms (fun a S V => ∃ u0 u1 u2 : Int, a = [(1, u0), (1, u1), (1, u2)] ∧ p u0 u1 u2 S V) (fun a S V rs S' V' => ∃ u0 u1 u2 r : Int, a = [(1, u0), (1, u1), (1, u2)] ∧ rs = [(0, r)] ∧ q u0 u1 u2 S V r S' V') := j_callS n_NWk h.2.2.2.2.2 h.1 hM ⟨h.2.1.1, h.2.1.2, h.2.2.1, h.2.2.2.1, h.2.2.2.2.1⟩ ⟨n_CB (y := y_13_3) (bytes := b_13_3) 3 h.2.2.2.2.1 n_w923 n_w921 n_w12 ⟨by decide, by decide, by decide +kernel⟩ rfl rfl ⟨by rw [hrm.1]; exact Nat.le_of_ble_eq_true rfl, by rw [hrm.2]; exact Nat.le_of_ble_eq_true rfl⟩, h.2.2.2.2.1 _ n_w922⟩ (fun a S V hP => by obtain ⟨u0, u1, u2, rfl, -⟩ := hP; rfl)
theorem K13_6_22 {C : qCx} {G : jG} {mc ms : Nat} {p : Int → Int → jS → jH → Prop} {q : Int → Int → jS → jH → Int → jS → jH → Prop} (h : x13_6 C G) (hrm : C.2.2.2.1.frames = 3 ∧ C.2.2.2.1.locals = 71) (hM : M13_2 C.2.1 mc ms p q) : j_Call C b_13_6 n_KT G.1 G.2.1 6 (.invokevirtual 82) mc ms (fun a S V => ∃ u0 u1 : Int, a = [(2, u0), (0, u1)] ∧ S.1 u0 = 33 ∧ p u0 u1 S V) (fun a S V rs S' V' => ∃ u0 u1 r : Int, a = [(2, u0), (0, u1)] ∧ rs = [(0, r)] ∧ q u0 u1 S V r S' V') := j_callV n_NWk h.2.2.2.2.2 h.1 hM ⟨h.2.1.1, h.2.1.2, h.2.2.1, h.2.2.2.1, h.2.2.2.2.1⟩ ⟨n_CB (y := y_13_2) (bytes := b_13_2) 1 h.2.2.2.2.1 n_w928 n_w925 n_w12 ⟨by decide, by decide, by decide +kernel⟩ rfl rfl ⟨by rw [hrm.1]; exact Nat.le_of_ble_eq_true rfl, by rw [hrm.2]; exact Nat.le_of_ble_eq_true rfl⟩, h.2.2.2.2.1 _ n_w927, h.2.2.2.2.1 _ n_s27⟩ (Cn := RX12) (fun a S V hP => by obtain ⟨u0, u1, rfl, e, -⟩ := hP; exact ⟨u0, _, 12, _, _, TX12, 31, rfl, rfl, by rw [e]; decide, by rw [e]; rfl, rfl⟩)
theorem K13_6_47 {C : qCx} {G : jG} {mc ms : Nat} {p : Int → Int → jS → jH → Prop} {q : Int → Int → jS → jH → Int → jS → jH → Prop} (h : x13_6 C G) (hrm : C.2.2.2.1.frames = 3 ∧ C.2.2.2.1.locals = 71) (hM : M13_2 C.2.1 mc ms p q) : j_Call C b_13_6 n_KT G.1 G.2.1 6 (.invokevirtual 82) mc ms (fun a S V => ∃ u0 u1 : Int, a = [(2, u0), (0, u1)] ∧ S.1 u0 = 33 ∧ p u0 u1 S V) (fun a S V rs S' V' => ∃ u0 u1 r : Int, a = [(2, u0), (0, u1)] ∧ rs = [(0, r)] ∧ q u0 u1 S V r S' V') := j_callV n_NWk h.2.2.2.2.2 h.1 hM ⟨h.2.1.1, h.2.1.2, h.2.2.1, h.2.2.2.1, h.2.2.2.2.1⟩ ⟨n_CB (y := y_13_2) (bytes := b_13_2) 1 h.2.2.2.2.1 n_w928 n_w925 n_w12 ⟨by decide, by decide, by decide +kernel⟩ rfl rfl ⟨by rw [hrm.1]; exact Nat.le_of_ble_eq_true rfl, by rw [hrm.2]; exact Nat.le_of_ble_eq_true rfl⟩, h.2.2.2.2.1 _ n_w927, h.2.2.2.2.1 _ n_s27⟩ (Cn := RX12) (fun a S V hP => by obtain ⟨u0, u1, rfl, e, -⟩ := hP; exact ⟨u0, _, 12, _, _, TX12, 31, rfl, rfl, by rw [e]; decide, by rw [e]; rfl, rfl⟩)
theorem t13_6_0 {C : qCx} {G : jG} {S : jS} {V : jH} {nc ns : Nat} {l0 l1 l2 l4 : Int} {mc ms : Nat} {pp : Int → jS → jH → Prop} {qq : Int → jS → jH → Int → jS → jH → Prop} (h : x13_6 C G) (hrm : C.2.2.2.1.frames = 3 ∧ C.2.2.2.1.locals = 71)  (hM : M13_4 C.2.1 mc ms pp qq) (hp : pp l1 S V) (hc : nc + mc ≤ C.2.2.2.1.cells) (hs : ns + ms ≤ C.2.2.2.1.slots) (k : ∀ (r : Int) (S' : jS) (V' : jH), qq l1 S V r S' V' → j_ok n_KT 6 C G 4 [(0, (2, l0)), (1, (0, l1)), (2, (1, l2)), (4, (0, l4))] [(0, r)] S' V' (nc + mc) (ns + ms)) : j_ok n_KT 6 C G 0 [(0, (2, l0)), (1, (0, l1)), (2, (1, l2)), (4, (0, l4))] [] S V nc ns := by
  have E := n_E h
  refine j_iload_n E d13_6_0 rfl 1 rfl ?_
  refine j_call E (K13_6_1 h hrm hM) d13_6_1 (a := [(0, l1)]) (sk := []) rfl ⟨l1, rfl, hp⟩ (Nat.le_of_ble_eq_true rfl) hc hs ?_
  rintro rs S' V' ⟨z0, r, e1, rfl, q⟩
  simp only [List.cons.injEq, Prod.mk.injEq, and_true, true_and] at e1
  obtain ⟨rfl⟩ := e1
  exact j_pick [0, 1, 2, 3] rfl (k r S' V' q)
theorem t13_6_4 {C : qCx} {G : jG} {S : jS} {V : jH} {nc ns : Nat} {l0 l1 l2 l4 s0 : Int} (h : x13_6 C G)  (k : s0 = 0 → j_ok n_KT 6 C G 20 [(0, (2, l0))] [] S V nc ns) (k' : ¬ s0 = 0 → j_ok n_KT 6 C G 7 [(0, (2, l0)), (1, (0, l1)), (2, (1, l2)), (4, (0, l4))] [] S V nc ns) : j_ok n_KT 6 C G 4 [(0, (2, l0)), (1, (0, l1)), (2, (1, l2)), (4, (0, l4))] [(0, s0)] S V nc ns := by
  have E := n_E h
  exact j_if_eq E d13_6_4 (t := 20) rfl (fun q => j_pick [0] rfl (k q)) (fun q => j_pick [0, 1, 2, 3] rfl (k' q))
theorem t13_6_7 {C : qCx} {G : jG} {S : jS} {V : jH} {nc ns : Nat} {l0 l1 l2 l4 : Int} {mc ms : Nat} {pp : Int → Int → Int → jS → jH → Prop} {qq : Int → Int → Int → jS → jH → Int → jS → jH → Prop} (h : x13_6 C G) (hrm : C.2.2.2.1.frames = 3 ∧ C.2.2.2.1.locals = 71)  (hM : M13_3 C.2.1 mc ms pp qq) (hp : pp l4 1 8 S V) (hc : nc + mc ≤ C.2.2.2.1.cells) (hs : ns + ms ≤ C.2.2.2.1.slots) (k : ∀ (r : Int) (S' : jS) (V' : jH), qq l4 1 8 S V r S' V' → j_ok n_KT 6 C G 17 [(0, (2, l0)), (1, (0, l1)), (2, (1, l2)), (4, (0, l4))] [(0, r)] S' V' (nc + mc) (ns + ms)) : j_ok n_KT 6 C G 7 [(0, (2, l0)), (1, (0, l1)), (2, (1, l2)), (4, (0, l4))] [] S V nc ns := by
  have E := n_E h
  refine j_iload E d13_6_7 3 rfl ?_
  refine j_i2l E d13_6_9 ?_
  refine j_lconst E d13_6_10 ?_
  refine j_ldc2 (n := 8) (fl12_80 h) rfl d13_6_11 ?_
  refine j_call E (K13_6_14 h hrm hM) d13_6_14 (a := [(1, l4), (1, 1), (1, 8)]) (sk := []) rfl ⟨l4, 1, 8, rfl, hp⟩ (Nat.le_of_ble_eq_true rfl) hc hs ?_
  rintro rs S' V' ⟨z0, z1, z2, r, e1, rfl, q⟩
  simp only [List.cons.injEq, Prod.mk.injEq, and_true, true_and] at e1
  obtain ⟨rfl, rfl, rfl⟩ := e1
  exact j_pick [0, 1, 2, 3] rfl (k r S' V' q)
theorem t13_6_17 {C : qCx} {G : jG} {S : jS} {V : jH} {nc ns : Nat} {l0 l1 l2 l4 s0 : Int} (h : x13_6 C G)  (k : ¬ s0 = 0 → j_ok n_KT 6 C G 26 [(0, (2, l0)), (1, (0, l1)), (2, (1, l2)), (4, (0, l4))] [] S V nc ns) (k' : s0 = 0 → j_ok n_KT 6 C G 20 [(0, (2, l0))] [] S V nc ns) : j_ok n_KT 6 C G 17 [(0, (2, l0)), (1, (0, l1)), (2, (1, l2)), (4, (0, l4))] [(0, s0)] S V nc ns := by
  have E := n_E h
  exact j_if_ne E d13_6_17 (t := 26) rfl (fun q => j_pick [0, 1, 2, 3] rfl (k q)) (fun q => j_pick [0] rfl (k' q))
theorem t13_6_20 {C : qCx} {G : jG} {S : jS} {V : jH} {nc ns : Nat} {l0 : Int} {mc ms : Nat} {pp : Int → Int → jS → jH → Prop} {qq : Int → Int → jS → jH → Int → jS → jH → Prop} (h : x13_6 C G) (hrm : C.2.2.2.1.frames = 3 ∧ C.2.2.2.1.locals = 71) (c1 : S.1 l0 = 33) (hM : M13_2 C.2.1 mc ms pp qq) (hp : pp l0 ((-1)) S V) (hc : nc + mc ≤ C.2.2.2.1.cells) (hs : ns + ms ≤ C.2.2.2.1.slots) (k : ∀ (r : Int) (S' : jS) (V' : jH), qq l0 ((-1)) S V r S' V' → j_ok n_KT 6 C G 25 [] [(0, r)] S' V' (nc + mc) (ns + ms)) : j_ok n_KT 6 C G 20 [(0, (2, l0))] [] S V nc ns := by
  have E := n_E h
  refine j_aload_n E d13_6_20 rfl 0 rfl ?_
  refine j_iconst E d13_6_21 (by decide) ?_
  refine j_call E (K13_6_22 h hrm hM) d13_6_22 (a := [(2, l0), (0, (-1))]) (sk := []) rfl ⟨l0, (-1), rfl, c1, hp⟩ (Nat.le_of_ble_eq_true rfl) hc hs ?_
  rintro rs S' V' ⟨z0, z1, r, e1, rfl, q⟩
  simp only [List.cons.injEq, Prod.mk.injEq, and_true, true_and] at e1
  obtain ⟨rfl, rfl⟩ := e1
  exact j_pick [] rfl (k r S' V' q)
theorem t13_6_25 {C : qCx} {G : jG} {S : jS} {V : jH} {nc ns : Nat} {s0 : Int} {mc ms : Nat} {qf : Int → jS → jH → Prop} (h : x13_6 C G)  (R : j_Ri n_KT 6 C G b_13_6 mc ms qf) (q : qf s0 S V) (hc : nc ≤ mc) (hs : ns ≤ ms) : j_ok n_KT 6 C G 25 [] [(0, s0)] S V nc ns := by
  have E := n_E h
  exact R _ _ _ _ _ _ _ d13_6_25 q hc hs
theorem t13_6_26 {C : qCx} {G : jG} {S : jS} {V : jH} {nc ns : Nat} {l0 l1 l2 l4 : Int} (h : x13_6 C G) (L : j_L S) (c1 : S.1 l0 = 33) (c2 : 0 ≤ l1) (c3 : l1 < 6) (c4 : -2147483648 ≤ (V (l0 + 2) l1) + l4 ∧ (V (l0 + 2) l1) + l4 ≤ 2147483647) (k : (V (l0 + 2) l1) + l4 ≤ 400 → j_ok n_KT 6 C G 51 [(0, (2, l0)), (1, (0, l1)), (2, (1, l2)), (4, (0, l4))] [] S V nc ns) (k' : 400 < (V (l0 + 2) l1) + l4 → j_ok n_KT 6 C G 44 [(0, (2, l0))] [] S V nc ns) : j_ok n_KT 6 C G 26 [(0, (2, l0)), (1, (0, l1)), (2, (1, l2)), (4, (0, l4))] [] S V nc ns := by
  have E := n_E h
  refine j_aload_n E d13_6_26 rfl 0 rfl ?_
  refine j_getS (f := 0) (x := l0 + 1) (fg12_10 h) d13_6_27 c1 (by decide) rfl rfl ((L12_0 L c1).trans (by omega)) ?_
  refine j_getS (f := 0) (x := l0 + 2) (fg12_86 h) d13_6_30 (show S.1 (l0 + 1) = 32 from (by have q := L12_0k L c1; rw [show l0 + 1 = l0 + 1 by omega]; exact q)) (by decide) rfl rfl ((L11_0 L (show S.1 (l0 + 1) = 32 from (by have q := L12_0k L c1; rw [show l0 + 1 = l0 + 1 by omega]; exact q))).trans (by omega)) ?_
  refine j_iload_n E d13_6_33 rfl 1 rfl ?_
  refine j_iald E d13_6_34 (j_arr_of (show S.1 (l0 + 2) = 8 from (by have q := L11_0k L (show S.1 (l0 + 1) = 32 from (by have q := L12_0k L c1; rw [show l0 + 1 = l0 + 1 by omega]; exact q)); rw [show l0 + 2 = (l0 + 1) + 1 by omega]; exact q)) (by decide) rfl) c2 c3 ?_
  refine j_iload E d13_6_35 3 rfl ?_
  refine j_iadd E d13_6_37 c4 ?_
  refine j_sipush E d13_6_38 (by decide) ?_
  exact j_icmp_le E d13_6_41 (t := 51) rfl (fun q => j_pick [0, 1, 2, 3] rfl (k q)) (fun q => j_pick [0] rfl (k' q))
theorem t13_6_44 {C : qCx} {G : jG} {S : jS} {V : jH} {nc ns : Nat} {l0 : Int} {mc ms : Nat} {pp : Int → Int → jS → jH → Prop} {qq : Int → Int → jS → jH → Int → jS → jH → Prop} (h : x13_6 C G) (hrm : C.2.2.2.1.frames = 3 ∧ C.2.2.2.1.locals = 71) (c1 : S.1 l0 = 33) (hM : M13_2 C.2.1 mc ms pp qq) (hp : pp l0 ((-2)) S V) (hc : nc + mc ≤ C.2.2.2.1.cells) (hs : ns + ms ≤ C.2.2.2.1.slots) (k : ∀ (r : Int) (S' : jS) (V' : jH), qq l0 ((-2)) S V r S' V' → j_ok n_KT 6 C G 50 [] [(0, r)] S' V' (nc + mc) (ns + ms)) : j_ok n_KT 6 C G 44 [(0, (2, l0))] [] S V nc ns := by
  have E := n_E h
  refine j_aload_n E d13_6_44 rfl 0 rfl ?_
  refine j_bipush E d13_6_45 (by decide) ?_
  refine j_call E (K13_6_47 h hrm hM) d13_6_47 (a := [(2, l0), (0, (-2))]) (sk := []) rfl ⟨l0, (-2), rfl, c1, hp⟩ (Nat.le_of_ble_eq_true rfl) hc hs ?_
  rintro rs S' V' ⟨z0, z1, r, e1, rfl, q⟩
  simp only [List.cons.injEq, Prod.mk.injEq, and_true, true_and] at e1
  obtain ⟨rfl, rfl⟩ := e1
  exact j_pick [] rfl (k r S' V' q)
theorem t13_6_50 {C : qCx} {G : jG} {S : jS} {V : jH} {nc ns : Nat} {s0 : Int} {mc ms : Nat} {qf : Int → jS → jH → Prop} (h : x13_6 C G)  (R : j_Ri n_KT 6 C G b_13_6 mc ms qf) (q : qf s0 S V) (hc : nc ≤ mc) (hs : ns ≤ ms) : j_ok n_KT 6 C G 50 [] [(0, s0)] S V nc ns := by
  have E := n_E h
  exact R _ _ _ _ _ _ _ d13_6_50 q hc hs
theorem t13_6_51 {C : qCx} {G : jG} {S : jS} {V : jH} {nc ns : Nat} {l0 l1 l2 l4 : Int} (h : x13_6 C G) (c1 : -2147483648 ≤ l4 - 1 ∧ l4 - 1 ≤ 2147483647) (k : j_ok n_KT 6 C G 57 [(0, (2, l0)), (1, (0, l1)), (2, (1, l2)), (5, (0, l4 - 1))] [] S V nc ns) : j_ok n_KT 6 C G 51 [(0, (2, l0)), (1, (0, l1)), (2, (1, l2)), (4, (0, l4))] [] S V nc ns := by
  have E := n_E h
  refine j_iload E d13_6_51 3 rfl ?_
  refine j_iconst E d13_6_53 (by decide) ?_
  refine j_isub E d13_6_54 c1 ?_
  refine j_istore E d13_6_55 (by decide) (lo1 := [(0, (2, l0)), (1, (0, l1)), (2, (1, l2)), (4, (0, l4))]) rfl ?_
  exact j_pick [1, 2, 3, 0] rfl k
theorem t13_6_57 {C : qCx} {G : jG} {S : jS} {V : jH} {nc ns : Nat} {l0 l1 l2 l5 : Int} (h : x13_6 C G)  (k : l5 < 0 → j_ok n_KT 6 C G 116 [(0, (2, l0)), (1, (0, l1))] [] S V nc ns) (k' : 0 ≤ l5 → j_ok n_KT 6 C G 62 [(0, (2, l0)), (1, (0, l1)), (2, (1, l2)), (5, (0, l5))] [] S V nc ns) : j_ok n_KT 6 C G 57 [(0, (2, l0)), (1, (0, l1)), (2, (1, l2)), (5, (0, l5))] [] S V nc ns := by
  have E := n_E h
  refine j_iload E d13_6_57 3 rfl ?_
  exact j_if_lt E d13_6_59 (t := 116) rfl (fun q => j_pick [0, 1] rfl (k q)) (fun q => j_pick [0, 1, 2, 3] rfl (k' q))
theorem t13_6_62 {C : qCx} {G : jG} {S : jS} {V : jH} {nc ns : Nat} {l0 l1 l2 l5 : Int} (h : x13_6 C G) (L : j_L S) (c1 : S.1 l0 = 33) (c2 : -2147483648 ≤ 400 * l1 ∧ 400 * l1 ≤ 2147483647) (c3 : 0 ≤ l1) (c4 : l1 < 6) (c5 : -2147483648 ≤ (400 * l1) + (V (l0 + 2) l1) ∧ (400 * l1) + (V (l0 + 2) l1) ≤ 2147483647) (c6 : -2147483648 ≤ 8 * l5 ∧ 8 * l5 ≤ 2147483647) (c7 : 0 ≤ 8 * l5) (c8 : 8 * l5 ≤ 63) (c9 : 0 ≤ (400 * l1) + (V (l0 + 2) l1)) (c10 : (400 * l1) + (V (l0 + 2) l1) < 2400) (c11 : -2147483648 ≤ (V (l0 + 2) l1) + 1 ∧ (V (l0 + 2) l1) + 1 ≤ 2147483647) (c12 : -2147483648 ≤ l5 + (-1) ∧ l5 + (-1) ≤ 2147483647) (k : j_ok n_KT 6 C G 57 [(0, (2, l0)), (1, (0, l1)), (2, (1, l2)), (5, (0, l5 + (-1)))] [] S (j_up (j_up V (l0 + 3) ((400 * l1) + (V (l0 + 2) l1)) (j_w32 ((l2 / 2 ^ (8 * l5).toNat) % 256))) (l0 + 2) l1 ((V (l0 + 2) l1) + 1)) nc ns) : j_ok n_KT 6 C G 62 [(0, (2, l0)), (1, (0, l1)), (2, (1, l2)), (5, (0, l5))] [] S V nc ns := by
  have E := n_E h
  refine j_aload_n E d13_6_62 rfl 0 rfl ?_
  refine j_getS (f := 0) (x := l0 + 1) (fg12_10 h) d13_6_63 c1 (by decide) rfl rfl ((L12_0 L c1).trans (by omega)) ?_
  refine j_getS (f := 1) (x := l0 + 3) (fg12_89 h) d13_6_66 (show S.1 (l0 + 1) = 32 from (by have q := L12_0k L c1; rw [show l0 + 1 = l0 + 1 by omega]; exact q)) (by decide) rfl rfl ((L11_1 L (show S.1 (l0 + 1) = 32 from (by have q := L12_0k L c1; rw [show l0 + 1 = l0 + 1 by omega]; exact q))).trans (by omega)) ?_
  refine j_sipush E d13_6_69 (by decide) ?_
  refine j_iload_n E d13_6_72 rfl 1 rfl ?_
  refine j_imul E d13_6_73 c2 ?_
  refine j_aload_n E d13_6_74 rfl 0 rfl ?_
  refine j_getS (f := 0) (x := l0 + 1) (fg12_10 h) d13_6_75 c1 (by decide) rfl rfl ((L12_0 L c1).trans (by omega)) ?_
  refine j_getS (f := 0) (x := l0 + 2) (fg12_86 h) d13_6_78 (show S.1 (l0 + 1) = 32 from (by have q := L12_0k L c1; rw [show l0 + 1 = l0 + 1 by omega]; exact q)) (by decide) rfl rfl ((L11_0 L (show S.1 (l0 + 1) = 32 from (by have q := L12_0k L c1; rw [show l0 + 1 = l0 + 1 by omega]; exact q))).trans (by omega)) ?_
  refine j_iload_n E d13_6_81 rfl 1 rfl ?_
  refine j_iald E d13_6_82 (j_arr_of (show S.1 (l0 + 2) = 8 from (by have q := L11_0k L (show S.1 (l0 + 1) = 32 from (by have q := L12_0k L c1; rw [show l0 + 1 = l0 + 1 by omega]; exact q)); rw [show l0 + 2 = (l0 + 1) + 1 by omega]; exact q)) (by decide) rfl) c3 c4 ?_
  refine j_iadd E d13_6_83 c5 ?_
  refine j_lload_n E d13_6_84 rfl 2 rfl ?_
  refine j_bipush E d13_6_85 (by decide) ?_
  refine j_iload E d13_6_87 3 rfl ?_
  refine j_imul E d13_6_89 c6 ?_
  refine j_lshr E d13_6_90 c7 c8 ?_
  refine j_ldc2 (n := 255) (fl12_92 h) rfl d13_6_91 ?_
  refine j_land8 E d13_6_94 rfl ?_
  refine j_l2i E d13_6_95 ?_
  refine j_iast E d13_6_96 (j_arr_of (show S.1 (l0 + 3) = 9 from (by have q := L11_1k L (show S.1 (l0 + 1) = 32 from (by have q := L12_0k L c1; rw [show l0 + 1 = l0 + 1 by omega]; exact q)); rw [show l0 + 3 = (l0 + 1) + 2 by omega]; exact q)) (by decide) rfl) c9 c10 ?_
  refine j_aload_n E d13_6_97 rfl 0 rfl ?_
  refine j_getS (f := 0) (x := l0 + 1) (fg12_10 h) d13_6_98 c1 (by decide) rfl rfl ((L12_0 L c1).trans (by omega)) ?_
  refine j_getS (f := 0) (x := l0 + 2) (fg12_86 h) d13_6_101 (show S.1 (l0 + 1) = 32 from (by have q := L12_0k L c1; rw [show l0 + 1 = l0 + 1 by omega]; exact q)) (by decide) rfl rfl ((L11_0 L (show S.1 (l0 + 1) = 32 from (by have q := L12_0k L c1; rw [show l0 + 1 = l0 + 1 by omega]; exact q))).trans (by omega)) ?_
  refine j_iload_n E d13_6_104 rfl 1 rfl ?_
  refine j_dup2 E d13_6_105 rfl rfl ?_
  refine j_iald E d13_6_106 (j_arr_of (show S.1 (l0 + 2) = 8 from (by have q := L11_0k L (show S.1 (l0 + 1) = 32 from (by have q := L12_0k L c1; rw [show l0 + 1 = l0 + 1 by omega]; exact q)); rw [show l0 + 2 = (l0 + 1) + 1 by omega]; exact q)) (by decide) rfl) c3 c4 ?_
  refine j_eqT (show (j_up V (l0 + 3) ((400 * l1) + (V (l0 + 2) l1)) (j_w32 ((l2 / 2 ^ (8 * l5).toNat) % 256))) (l0 + 2) l1 = V (l0 + 2) l1 from (congrFun (j_up_ne (by omega)) _)) ?_
  refine j_iconst E d13_6_107 (by decide) ?_
  refine j_iadd E d13_6_108 c11 ?_
  refine j_iast E d13_6_109 (j_arr_of (show S.1 (l0 + 2) = 8 from (by have q := L11_0k L (show S.1 (l0 + 1) = 32 from (by have q := L12_0k L c1; rw [show l0 + 1 = l0 + 1 by omega]; exact q)); rw [show l0 + 2 = (l0 + 1) + 1 by omega]; exact q)) (by decide) rfl) c3 c4 ?_
  refine j_iinc E d13_6_110 (by decide) (by decide) 3 rfl (lo1 := [(0, (2, l0)), (1, (0, l1)), (2, (1, l2))]) rfl c12 ?_
  refine j_goto E d13_6_113 (t := 57) rfl ?_
  exact j_pick [1, 2, 3, 0] rfl k
theorem t13_6_116 {C : qCx} {G : jG} {S : jS} {V : jH} {nc ns : Nat} {l0 l1 : Int} {mc ms : Nat} {qf : Int → jS → jH → Prop} (h : x13_6 C G) (L : j_L S) (c1 : S.1 l0 = 33) (c2 : 0 ≤ l1) (c3 : l1 < 6) (R : j_Ri n_KT 6 C G b_13_6 mc ms qf) (q : qf (V (l0 + 2) l1) S V) (hc : nc ≤ mc) (hs : ns ≤ ms) : j_ok n_KT 6 C G 116 [(0, (2, l0)), (1, (0, l1))] [] S V nc ns := by
  have E := n_E h
  refine j_aload_n E d13_6_116 rfl 0 rfl ?_
  refine j_getS (f := 0) (x := l0 + 1) (fg12_10 h) d13_6_117 c1 (by decide) rfl rfl ((L12_0 L c1).trans (by omega)) ?_
  refine j_getS (f := 0) (x := l0 + 2) (fg12_86 h) d13_6_120 (show S.1 (l0 + 1) = 32 from (by have q := L12_0k L c1; rw [show l0 + 1 = l0 + 1 by omega]; exact q)) (by decide) rfl rfl ((L11_0 L (show S.1 (l0 + 1) = 32 from (by have q := L12_0k L c1; rw [show l0 + 1 = l0 + 1 by omega]; exact q))).trans (by omega)) ?_
  refine j_iload_n E d13_6_123 rfl 1 rfl ?_
  refine j_iald E d13_6_124 (j_arr_of (show S.1 (l0 + 2) = 8 from (by have q := L11_0k L (show S.1 (l0 + 1) = 32 from (by have q := L12_0k L c1; rw [show l0 + 1 = l0 + 1 by omega]; exact q)); rw [show l0 + 2 = (l0 + 1) + 1 by omega]; exact q)) (by decide) rfl) c2 c3 ?_
  exact R _ _ _ _ _ _ _ d13_6_125 q hc hs
/- BalanceCoderModel.clear(I)I -/
abbrev b_13_7 : ByteArray := prog_13_method_7_code
def y_13_7 : MethodName := ⟨"BalanceCoderModel", "clear", "(I)I"⟩
abbrev x13_7 (C : qCx) (G : jG) : Prop := n_ctx C b_13_7 3 "BalanceCoderModel" G.1 G.2.1
def M13_7 (l : Launch) (mc ms : Nat) (p : Int → Int → jS → jH → Prop) (q : Int → Int → jS → jH → Int → jS → jH → Prop) : Prop := j_Met l vwCl n_TL n_NW n_KT y_13_7 (Cond.code y_13_7 b_13_7 3 (some .int) :: n_GW) { frames := 3, cells := mc, slots := ms, locals := 71 } mc ms (fun a S V => ∃ u0 u1 : Int, a = [(2, u0), (0, u1)] ∧ S.1 u0 = 33 ∧ p u0 u1 S V) (fun a S V rs S' V' => ∃ u0 u1 r : Int, a = [(2, u0), (0, u1)] ∧ rs = [(0, r)] ∧ q u0 u1 S V r S' V')
theorem e13_7 {l : Launch} {mc ms : Nat} {p : Int → Int → jS → jH → Prop} {q : Int → Int → jS → jH → Int → jS → jH → Prop} (body : ∀ (C : qCx) (G : jG), x13_7 C G → C.2.2.2.1.frames = 3 ∧ C.2.2.2.1.locals = 71 → C.2.2.2.1.cells = mc ∧ C.2.2.2.1.slots = ms → C.2.1 = l → C.2.2.2.2.2.2.2.2.1.name = "clear" → ∀ (u0 u1 : Int) (S : jS) (V : jH), S.1 u0 = 33 → p u0 u1 S V → j_Ri n_KT 3 C G b_13_7 mc ms (q u0 u1 S V) → j_ok n_KT 3 C G 0 [(0, (2, u0)), (1, (0, u1))] [] S V 0 0) : M13_7 l mc ms p q := by
  refine j_method (ws' := n_GW) (by decide) rfl ?_ ?_
  · rintro a S V ⟨u0, u1, rfl, -⟩
    exact Nat.le_of_ble_eq_true rfl
  · rintro C G htl hl hrm hm hml ho hts hnm hE a S V ⟨u0, u1, rfl, ht, hp⟩ R
    exact body C G ⟨htl, hm, hml, ho, fun w hw => hts w (List.mem_cons_of_mem _ hw), hE⟩ (by rw [hrm]; exact ⟨rfl, rfl⟩) (by rw [hrm]; exact ⟨rfl, rfl⟩) hl hnm u0 u1 S V ht hp (fun pc lo r S' V' nc ns d q hc hs => R.2.1 rfl pc lo r S' V' nc ns d ⟨u0, u1, r, rfl, rfl, q⟩ hc hs)
theorem d13_7_0 : decode b_13_7 0 = .ok (.iload_n 1, 1) := by decide +kernel
theorem d13_7_1 : decode b_13_7 1 = .ok (.invokestatic 76, 3) := by decide +kernel
theorem d13_7_4 : decode b_13_7 4 = .ok (.ifCond .ne 9, 3) := by decide +kernel
theorem d13_7_7 : decode b_13_7 7 = .ok (.aload_n 0, 1) := by decide +kernel
theorem d13_7_8 : decode b_13_7 8 = .ok (.iconst (-1), 1) := by decide +kernel
theorem d13_7_9 : decode b_13_7 9 = .ok (.invokevirtual 82, 3) := by decide +kernel
theorem d13_7_12 : decode b_13_7 12 = .ok (.ireturn, 1) := by decide +kernel
theorem d13_7_13 : decode b_13_7 13 = .ok (.aload_n 0, 1) := by decide +kernel
theorem d13_7_14 : decode b_13_7 14 = .ok (.getfield 10, 3) := by decide +kernel
theorem d13_7_17 : decode b_13_7 17 = .ok (.getfield 86, 3) := by decide +kernel
theorem d13_7_20 : decode b_13_7 20 = .ok (.iload_n 1, 1) := by decide +kernel
theorem d13_7_21 : decode b_13_7 21 = .ok (.iaload, 1) := by decide +kernel
theorem d13_7_22 : decode b_13_7 22 = .ok (.istore_n 2, 1) := by decide +kernel
theorem d13_7_23 : decode b_13_7 23 = .ok (.aload_n 0, 1) := by decide +kernel
theorem d13_7_24 : decode b_13_7 24 = .ok (.getfield 10, 3) := by decide +kernel
theorem d13_7_27 : decode b_13_7 27 = .ok (.getfield 86, 3) := by decide +kernel
theorem d13_7_30 : decode b_13_7 30 = .ok (.iload_n 1, 1) := by decide +kernel
theorem d13_7_31 : decode b_13_7 31 = .ok (.iconst 0, 1) := by decide +kernel
theorem d13_7_32 : decode b_13_7 32 = .ok (.iastore, 1) := by decide +kernel
theorem d13_7_33 : decode b_13_7 33 = .ok (.iload_n 2, 1) := by decide +kernel
theorem d13_7_34 : decode b_13_7 34 = .ok (.ireturn, 1) := by decide +kernel
theorem K13_7_1 {C : qCx} {G : jG} {mc ms : Nat} {p : Int → jS → jH → Prop} {q : Int → jS → jH → Int → jS → jH → Prop} (h : x13_7 C G) (hrm : C.2.2.2.1.frames = 3 ∧ C.2.2.2.1.locals = 71) (hM : M13_4 C.2.1 mc ms p q) : j_Call C b_13_7 n_KT G.1 G.2.1 3 (.invokestatic 76) mc ms (fun a S V => ∃ u0 : Int, a = [(0, u0)] ∧ p u0 S V) (fun a S V rs S' V' => ∃ u0 r : Int, a = [(0, u0)] ∧ rs = [(0, r)] ∧ q u0 S V r S' V') := j_callS n_NWk h.2.2.2.2.2 h.1 hM ⟨h.2.1.1, h.2.1.2, h.2.2.1, h.2.2.2.1, h.2.2.2.2.1⟩ ⟨n_CB (y := y_13_4) (bytes := b_13_4) 1 h.2.2.2.2.1 n_w919 n_w917 n_w12 ⟨by decide, by decide, by decide +kernel⟩ rfl rfl ⟨by rw [hrm.1]; exact Nat.le_of_ble_eq_true rfl, by rw [hrm.2]; exact Nat.le_of_ble_eq_true rfl⟩, h.2.2.2.2.1 _ n_w918⟩ (fun a S V hP => by obtain ⟨u0, rfl, -⟩ := hP; rfl)
theorem K13_7_9 {C : qCx} {G : jG} {mc ms : Nat} {p : Int → Int → jS → jH → Prop} {q : Int → Int → jS → jH → Int → jS → jH → Prop} (h : x13_7 C G) (hrm : C.2.2.2.1.frames = 3 ∧ C.2.2.2.1.locals = 71) (hM : M13_2 C.2.1 mc ms p q) : j_Call C b_13_7 n_KT G.1 G.2.1 3 (.invokevirtual 82) mc ms (fun a S V => ∃ u0 u1 : Int, a = [(2, u0), (0, u1)] ∧ S.1 u0 = 33 ∧ p u0 u1 S V) (fun a S V rs S' V' => ∃ u0 u1 r : Int, a = [(2, u0), (0, u1)] ∧ rs = [(0, r)] ∧ q u0 u1 S V r S' V') := j_callV n_NWk h.2.2.2.2.2 h.1 hM ⟨h.2.1.1, h.2.1.2, h.2.2.1, h.2.2.2.1, h.2.2.2.2.1⟩ ⟨n_CB (y := y_13_2) (bytes := b_13_2) 1 h.2.2.2.2.1 n_w928 n_w925 n_w12 ⟨by decide, by decide, by decide +kernel⟩ rfl rfl ⟨by rw [hrm.1]; exact Nat.le_of_ble_eq_true rfl, by rw [hrm.2]; exact Nat.le_of_ble_eq_true rfl⟩, h.2.2.2.2.1 _ n_w927, h.2.2.2.2.1 _ n_s27⟩ (Cn := RX12) (fun a S V hP => by obtain ⟨u0, u1, rfl, e, -⟩ := hP; exact ⟨u0, _, 12, _, _, TX12, 31, rfl, rfl, by rw [e]; decide, by rw [e]; rfl, rfl⟩)
theorem t13_7_0 {C : qCx} {G : jG} {S : jS} {V : jH} {nc ns : Nat} {l0 l1 : Int} {mc ms : Nat} {pp : Int → jS → jH → Prop} {qq : Int → jS → jH → Int → jS → jH → Prop} (h : x13_7 C G) (hrm : C.2.2.2.1.frames = 3 ∧ C.2.2.2.1.locals = 71)  (hM : M13_4 C.2.1 mc ms pp qq) (hp : pp l1 S V) (hc : nc + mc ≤ C.2.2.2.1.cells) (hs : ns + ms ≤ C.2.2.2.1.slots) (k : ∀ (r : Int) (S' : jS) (V' : jH), qq l1 S V r S' V' → j_ok n_KT 3 C G 4 [(0, (2, l0)), (1, (0, l1))] [(0, r)] S' V' (nc + mc) (ns + ms)) : j_ok n_KT 3 C G 0 [(0, (2, l0)), (1, (0, l1))] [] S V nc ns := by
  have E := n_E h
  refine j_iload_n E d13_7_0 rfl 1 rfl ?_
  refine j_call E (K13_7_1 h hrm hM) d13_7_1 (a := [(0, l1)]) (sk := []) rfl ⟨l1, rfl, hp⟩ (Nat.le_of_ble_eq_true rfl) hc hs ?_
  rintro rs S' V' ⟨z0, r, e1, rfl, q⟩
  simp only [List.cons.injEq, Prod.mk.injEq, and_true, true_and] at e1
  obtain ⟨rfl⟩ := e1
  exact j_pick [0, 1] rfl (k r S' V' q)
theorem t13_7_4 {C : qCx} {G : jG} {S : jS} {V : jH} {nc ns : Nat} {l0 l1 s0 : Int} (h : x13_7 C G)  (k : ¬ s0 = 0 → j_ok n_KT 3 C G 13 [(0, (2, l0)), (1, (0, l1))] [] S V nc ns) (k' : s0 = 0 → j_ok n_KT 3 C G 7 [(0, (2, l0))] [] S V nc ns) : j_ok n_KT 3 C G 4 [(0, (2, l0)), (1, (0, l1))] [(0, s0)] S V nc ns := by
  have E := n_E h
  exact j_if_ne E d13_7_4 (t := 13) rfl (fun q => j_pick [0, 1] rfl (k q)) (fun q => j_pick [0] rfl (k' q))
theorem t13_7_7 {C : qCx} {G : jG} {S : jS} {V : jH} {nc ns : Nat} {l0 : Int} {mc ms : Nat} {pp : Int → Int → jS → jH → Prop} {qq : Int → Int → jS → jH → Int → jS → jH → Prop} (h : x13_7 C G) (hrm : C.2.2.2.1.frames = 3 ∧ C.2.2.2.1.locals = 71) (c1 : S.1 l0 = 33) (hM : M13_2 C.2.1 mc ms pp qq) (hp : pp l0 ((-1)) S V) (hc : nc + mc ≤ C.2.2.2.1.cells) (hs : ns + ms ≤ C.2.2.2.1.slots) (k : ∀ (r : Int) (S' : jS) (V' : jH), qq l0 ((-1)) S V r S' V' → j_ok n_KT 3 C G 12 [] [(0, r)] S' V' (nc + mc) (ns + ms)) : j_ok n_KT 3 C G 7 [(0, (2, l0))] [] S V nc ns := by
  have E := n_E h
  refine j_aload_n E d13_7_7 rfl 0 rfl ?_
  refine j_iconst E d13_7_8 (by decide) ?_
  refine j_call E (K13_7_9 h hrm hM) d13_7_9 (a := [(2, l0), (0, (-1))]) (sk := []) rfl ⟨l0, (-1), rfl, c1, hp⟩ (Nat.le_of_ble_eq_true rfl) hc hs ?_
  rintro rs S' V' ⟨z0, z1, r, e1, rfl, q⟩
  simp only [List.cons.injEq, Prod.mk.injEq, and_true, true_and] at e1
  obtain ⟨rfl, rfl⟩ := e1
  exact j_pick [] rfl (k r S' V' q)
theorem t13_7_12 {C : qCx} {G : jG} {S : jS} {V : jH} {nc ns : Nat} {s0 : Int} {mc ms : Nat} {qf : Int → jS → jH → Prop} (h : x13_7 C G)  (R : j_Ri n_KT 3 C G b_13_7 mc ms qf) (q : qf s0 S V) (hc : nc ≤ mc) (hs : ns ≤ ms) : j_ok n_KT 3 C G 12 [] [(0, s0)] S V nc ns := by
  have E := n_E h
  exact R _ _ _ _ _ _ _ d13_7_12 q hc hs
theorem t13_7_13 {C : qCx} {G : jG} {S : jS} {V : jH} {nc ns : Nat} {l0 l1 : Int} {mc ms : Nat} {qf : Int → jS → jH → Prop} (h : x13_7 C G) (L : j_L S) (c1 : S.1 l0 = 33) (c2 : 0 ≤ l1) (c3 : l1 < 6) (R : j_Ri n_KT 3 C G b_13_7 mc ms qf) (q : qf (V (l0 + 2) l1) S (j_up V (l0 + 2) l1 0)) (hc : nc ≤ mc) (hs : ns ≤ ms) : j_ok n_KT 3 C G 13 [(0, (2, l0)), (1, (0, l1))] [] S V nc ns := by
  have E := n_E h
  refine j_aload_n E d13_7_13 rfl 0 rfl ?_
  refine j_getS (f := 0) (x := l0 + 1) (fg12_10 h) d13_7_14 c1 (by decide) rfl rfl ((L12_0 L c1).trans (by omega)) ?_
  refine j_getS (f := 0) (x := l0 + 2) (fg12_86 h) d13_7_17 (show S.1 (l0 + 1) = 32 from (by have q := L12_0k L c1; rw [show l0 + 1 = l0 + 1 by omega]; exact q)) (by decide) rfl rfl ((L11_0 L (show S.1 (l0 + 1) = 32 from (by have q := L12_0k L c1; rw [show l0 + 1 = l0 + 1 by omega]; exact q))).trans (by omega)) ?_
  refine j_iload_n E d13_7_20 rfl 1 rfl ?_
  refine j_iald E d13_7_21 (j_arr_of (show S.1 (l0 + 2) = 8 from (by have q := L11_0k L (show S.1 (l0 + 1) = 32 from (by have q := L12_0k L c1; rw [show l0 + 1 = l0 + 1 by omega]; exact q)); rw [show l0 + 2 = (l0 + 1) + 1 by omega]; exact q)) (by decide) rfl) c2 c3 ?_
  refine j_istore_n E d13_7_22 rfl (by decide) (lo1 := [(0, (2, l0)), (1, (0, l1))]) rfl ?_
  refine j_aload_n E d13_7_23 rfl 1 rfl ?_
  refine j_getS (f := 0) (x := l0 + 1) (fg12_10 h) d13_7_24 c1 (by decide) rfl rfl ((L12_0 L c1).trans (by omega)) ?_
  refine j_getS (f := 0) (x := l0 + 2) (fg12_86 h) d13_7_27 (show S.1 (l0 + 1) = 32 from (by have q := L12_0k L c1; rw [show l0 + 1 = l0 + 1 by omega]; exact q)) (by decide) rfl rfl ((L11_0 L (show S.1 (l0 + 1) = 32 from (by have q := L12_0k L c1; rw [show l0 + 1 = l0 + 1 by omega]; exact q))).trans (by omega)) ?_
  refine j_iload_n E d13_7_30 rfl 2 rfl ?_
  refine j_iconst E d13_7_31 (by decide) ?_
  refine j_iast E d13_7_32 (j_arr_of (show S.1 (l0 + 2) = 8 from (by have q := L11_0k L (show S.1 (l0 + 1) = 32 from (by have q := L12_0k L c1; rw [show l0 + 1 = l0 + 1 by omega]; exact q)); rw [show l0 + 2 = (l0 + 1) + 1 by omega]; exact q)) (by decide) rfl) c2 c3 ?_
  refine j_iload_n E d13_7_33 rfl 0 rfl ?_
  exact R _ _ _ _ _ _ _ d13_7_34 q hc hs
/- BalanceCoderModel.at(II)I -/
abbrev b_13_8 : ByteArray := prog_13_method_8_code
def y_13_8 : MethodName := ⟨"BalanceCoderModel", "at", "(II)I"⟩
abbrev x13_8 (C : qCx) (G : jG) : Prop := n_ctx C b_13_8 3 "BalanceCoderModel" G.1 G.2.1
def M13_8 (l : Launch) (mc ms : Nat) (p : Int → Int → Int → jS → jH → Prop) (q : Int → Int → Int → jS → jH → Int → jS → jH → Prop) : Prop := j_Met l vwCl n_TL n_NW n_KT y_13_8 (Cond.code y_13_8 b_13_8 3 (some .int) :: n_GW) { frames := 3, cells := mc, slots := ms, locals := 71 } mc ms (fun a S V => ∃ u0 u1 u2 : Int, a = [(2, u0), (0, u1), (0, u2)] ∧ S.1 u0 = 33 ∧ p u0 u1 u2 S V) (fun a S V rs S' V' => ∃ u0 u1 u2 r : Int, a = [(2, u0), (0, u1), (0, u2)] ∧ rs = [(0, r)] ∧ q u0 u1 u2 S V r S' V')
theorem e13_8 {l : Launch} {mc ms : Nat} {p : Int → Int → Int → jS → jH → Prop} {q : Int → Int → Int → jS → jH → Int → jS → jH → Prop} (body : ∀ (C : qCx) (G : jG), x13_8 C G → C.2.2.2.1.frames = 3 ∧ C.2.2.2.1.locals = 71 → C.2.2.2.1.cells = mc ∧ C.2.2.2.1.slots = ms → C.2.1 = l → C.2.2.2.2.2.2.2.2.1.name = "at" → ∀ (u0 u1 u2 : Int) (S : jS) (V : jH), S.1 u0 = 33 → p u0 u1 u2 S V → j_Ri n_KT 3 C G b_13_8 mc ms (q u0 u1 u2 S V) → j_ok n_KT 3 C G 0 [(0, (2, u0)), (1, (0, u1)), (2, (0, u2))] [] S V 0 0) : M13_8 l mc ms p q := by
  refine j_method (ws' := n_GW) (by decide) rfl ?_ ?_
  · rintro a S V ⟨u0, u1, u2, rfl, -⟩
    exact Nat.le_of_ble_eq_true rfl
  · rintro C G htl hl hrm hm hml ho hts hnm hE a S V ⟨u0, u1, u2, rfl, ht, hp⟩ R
    exact body C G ⟨htl, hm, hml, ho, fun w hw => hts w (List.mem_cons_of_mem _ hw), hE⟩ (by rw [hrm]; exact ⟨rfl, rfl⟩) (by rw [hrm]; exact ⟨rfl, rfl⟩) hl hnm u0 u1 u2 S V ht hp (fun pc lo r S' V' nc ns d q hc hs => R.2.1 rfl pc lo r S' V' nc ns d ⟨u0, u1, u2, r, rfl, rfl, q⟩ hc hs)
theorem d13_8_0 : decode b_13_8 0 = .ok (.iload_n 1, 1) := by decide +kernel
theorem d13_8_1 : decode b_13_8 1 = .ok (.invokestatic 76, 3) := by decide +kernel
theorem d13_8_4 : decode b_13_8 4 = .ok (.ifCond .eq 26, 3) := by decide +kernel
theorem d13_8_7 : decode b_13_8 7 = .ok (.iload_n 2, 1) := by decide +kernel
theorem d13_8_8 : decode b_13_8 8 = .ok (.i2l, 1) := by decide +kernel
theorem d13_8_9 : decode b_13_8 9 = .ok (.ldc2_w 94, 3) := by decide +kernel
theorem d13_8_12 : decode b_13_8 12 = .ok (.aload_n 0, 1) := by decide +kernel
theorem d13_8_13 : decode b_13_8 13 = .ok (.getfield 10, 3) := by decide +kernel
theorem d13_8_16 : decode b_13_8 16 = .ok (.getfield 86, 3) := by decide +kernel
theorem d13_8_19 : decode b_13_8 19 = .ok (.iload_n 1, 1) := by decide +kernel
theorem d13_8_20 : decode b_13_8 20 = .ok (.iaload, 1) := by decide +kernel
theorem d13_8_21 : decode b_13_8 21 = .ok (.iconst 1, 1) := by decide +kernel
theorem d13_8_22 : decode b_13_8 22 = .ok (.isub, 1) := by decide +kernel
theorem d13_8_23 : decode b_13_8 23 = .ok (.i2l, 1) := by decide +kernel
theorem d13_8_24 : decode b_13_8 24 = .ok (.invokestatic 69, 3) := by decide +kernel
theorem d13_8_27 : decode b_13_8 27 = .ok (.ifCond .ne 9, 3) := by decide +kernel
theorem d13_8_30 : decode b_13_8 30 = .ok (.aload_n 0, 1) := by decide +kernel
theorem d13_8_31 : decode b_13_8 31 = .ok (.iconst (-1), 1) := by decide +kernel
theorem d13_8_32 : decode b_13_8 32 = .ok (.invokevirtual 82, 3) := by decide +kernel
theorem d13_8_35 : decode b_13_8 35 = .ok (.ireturn, 1) := by decide +kernel
theorem d13_8_36 : decode b_13_8 36 = .ok (.iload_n 2, 1) := by decide +kernel
theorem d13_8_37 : decode b_13_8 37 = .ok (.ifCond .ge 15, 3) := by decide +kernel
theorem d13_8_40 : decode b_13_8 40 = .ok (.aload_n 0, 1) := by decide +kernel
theorem d13_8_41 : decode b_13_8 41 = .ok (.getfield 10, 3) := by decide +kernel
theorem d13_8_44 : decode b_13_8 44 = .ok (.getfield 86, 3) := by decide +kernel
theorem d13_8_47 : decode b_13_8 47 = .ok (.iload_n 1, 1) := by decide +kernel
theorem d13_8_48 : decode b_13_8 48 = .ok (.iaload, 1) := by decide +kernel
theorem d13_8_49 : decode b_13_8 49 = .ok (.goto 18, 3) := by decide +kernel
theorem d13_8_52 : decode b_13_8 52 = .ok (.aload_n 0, 1) := by decide +kernel
theorem d13_8_53 : decode b_13_8 53 = .ok (.getfield 10, 3) := by decide +kernel
theorem d13_8_56 : decode b_13_8 56 = .ok (.getfield 89, 3) := by decide +kernel
theorem d13_8_59 : decode b_13_8 59 = .ok (.sipush 400, 3) := by decide +kernel
theorem d13_8_62 : decode b_13_8 62 = .ok (.iload_n 1, 1) := by decide +kernel
theorem d13_8_63 : decode b_13_8 63 = .ok (.imul, 1) := by decide +kernel
theorem d13_8_64 : decode b_13_8 64 = .ok (.iload_n 2, 1) := by decide +kernel
theorem d13_8_65 : decode b_13_8 65 = .ok (.iadd, 1) := by decide +kernel
theorem d13_8_66 : decode b_13_8 66 = .ok (.iaload, 1) := by decide +kernel
theorem d13_8_67 : decode b_13_8 67 = .ok (.ireturn, 1) := by decide +kernel
theorem K13_8_1 {C : qCx} {G : jG} {mc ms : Nat} {p : Int → jS → jH → Prop} {q : Int → jS → jH → Int → jS → jH → Prop} (h : x13_8 C G) (hrm : C.2.2.2.1.frames = 3 ∧ C.2.2.2.1.locals = 71) (hM : M13_4 C.2.1 mc ms p q) : j_Call C b_13_8 n_KT G.1 G.2.1 3 (.invokestatic 76) mc ms (fun a S V => ∃ u0 : Int, a = [(0, u0)] ∧ p u0 S V) (fun a S V rs S' V' => ∃ u0 r : Int, a = [(0, u0)] ∧ rs = [(0, r)] ∧ q u0 S V r S' V') := j_callS n_NWk h.2.2.2.2.2 h.1 hM ⟨h.2.1.1, h.2.1.2, h.2.2.1, h.2.2.2.1, h.2.2.2.2.1⟩ ⟨n_CB (y := y_13_4) (bytes := b_13_4) 1 h.2.2.2.2.1 n_w919 n_w917 n_w12 ⟨by decide, by decide, by decide +kernel⟩ rfl rfl ⟨by rw [hrm.1]; exact Nat.le_of_ble_eq_true rfl, by rw [hrm.2]; exact Nat.le_of_ble_eq_true rfl⟩, h.2.2.2.2.1 _ n_w918⟩ (fun a S V hP => by obtain ⟨u0, rfl, -⟩ := hP; rfl)
theorem K13_8_24 {C : qCx} {G : jG} {mc ms : Nat} {p : Int → Int → Int → jS → jH → Prop} {q : Int → Int → Int → jS → jH → Int → jS → jH → Prop} (h : x13_8 C G) (hrm : C.2.2.2.1.frames = 3 ∧ C.2.2.2.1.locals = 71) (hM : M13_3 C.2.1 mc ms p q) : j_Call C b_13_8 n_KT G.1 G.2.1 3 (.invokestatic 69) mc ms (fun a S V => ∃ u0 u1 u2 : Int, a = [(1, u0), (1, u1), (1, u2)] ∧ p u0 u1 u2 S V) (fun a S V rs S' V' => ∃ u0 u1 u2 r : Int, a = [(1, u0), (1, u1), (1, u2)] ∧ rs = [(0, r)] ∧ q u0 u1 u2 S V r S' V') := j_callS n_NWk h.2.2.2.2.2 h.1 hM ⟨h.2.1.1, h.2.1.2, h.2.2.1, h.2.2.2.1, h.2.2.2.2.1⟩ ⟨n_CB (y := y_13_3) (bytes := b_13_3) 3 h.2.2.2.2.1 n_w923 n_w921 n_w12 ⟨by decide, by decide, by decide +kernel⟩ rfl rfl ⟨by rw [hrm.1]; exact Nat.le_of_ble_eq_true rfl, by rw [hrm.2]; exact Nat.le_of_ble_eq_true rfl⟩, h.2.2.2.2.1 _ n_w922⟩ (fun a S V hP => by obtain ⟨u0, u1, u2, rfl, -⟩ := hP; rfl)
theorem K13_8_32 {C : qCx} {G : jG} {mc ms : Nat} {p : Int → Int → jS → jH → Prop} {q : Int → Int → jS → jH → Int → jS → jH → Prop} (h : x13_8 C G) (hrm : C.2.2.2.1.frames = 3 ∧ C.2.2.2.1.locals = 71) (hM : M13_2 C.2.1 mc ms p q) : j_Call C b_13_8 n_KT G.1 G.2.1 3 (.invokevirtual 82) mc ms (fun a S V => ∃ u0 u1 : Int, a = [(2, u0), (0, u1)] ∧ S.1 u0 = 33 ∧ p u0 u1 S V) (fun a S V rs S' V' => ∃ u0 u1 r : Int, a = [(2, u0), (0, u1)] ∧ rs = [(0, r)] ∧ q u0 u1 S V r S' V') := j_callV n_NWk h.2.2.2.2.2 h.1 hM ⟨h.2.1.1, h.2.1.2, h.2.2.1, h.2.2.2.1, h.2.2.2.2.1⟩ ⟨n_CB (y := y_13_2) (bytes := b_13_2) 1 h.2.2.2.2.1 n_w928 n_w925 n_w12 ⟨by decide, by decide, by decide +kernel⟩ rfl rfl ⟨by rw [hrm.1]; exact Nat.le_of_ble_eq_true rfl, by rw [hrm.2]; exact Nat.le_of_ble_eq_true rfl⟩, h.2.2.2.2.1 _ n_w927, h.2.2.2.2.1 _ n_s27⟩ (Cn := RX12) (fun a S V hP => by obtain ⟨u0, u1, rfl, e, -⟩ := hP; exact ⟨u0, _, 12, _, _, TX12, 31, rfl, rfl, by rw [e]; decide, by rw [e]; rfl, rfl⟩)
theorem t13_8_0 {C : qCx} {G : jG} {S : jS} {V : jH} {nc ns : Nat} {l0 l1 l2 : Int} {mc ms : Nat} {pp : Int → jS → jH → Prop} {qq : Int → jS → jH → Int → jS → jH → Prop} (h : x13_8 C G) (hrm : C.2.2.2.1.frames = 3 ∧ C.2.2.2.1.locals = 71)  (hM : M13_4 C.2.1 mc ms pp qq) (hp : pp l1 S V) (hc : nc + mc ≤ C.2.2.2.1.cells) (hs : ns + ms ≤ C.2.2.2.1.slots) (k : ∀ (r : Int) (S' : jS) (V' : jH), qq l1 S V r S' V' → j_ok n_KT 3 C G 4 [(0, (2, l0)), (1, (0, l1)), (2, (0, l2))] [(0, r)] S' V' (nc + mc) (ns + ms)) : j_ok n_KT 3 C G 0 [(0, (2, l0)), (1, (0, l1)), (2, (0, l2))] [] S V nc ns := by
  have E := n_E h
  refine j_iload_n E d13_8_0 rfl 1 rfl ?_
  refine j_call E (K13_8_1 h hrm hM) d13_8_1 (a := [(0, l1)]) (sk := []) rfl ⟨l1, rfl, hp⟩ (Nat.le_of_ble_eq_true rfl) hc hs ?_
  rintro rs S' V' ⟨z0, r, e1, rfl, q⟩
  simp only [List.cons.injEq, Prod.mk.injEq, and_true, true_and] at e1
  obtain ⟨rfl⟩ := e1
  exact j_pick [0, 1, 2] rfl (k r S' V' q)
theorem t13_8_4 {C : qCx} {G : jG} {S : jS} {V : jH} {nc ns : Nat} {l0 l1 l2 s0 : Int} (h : x13_8 C G)  (k : s0 = 0 → j_ok n_KT 3 C G 30 [(0, (2, l0))] [] S V nc ns) (k' : ¬ s0 = 0 → j_ok n_KT 3 C G 7 [(0, (2, l0)), (1, (0, l1)), (2, (0, l2))] [] S V nc ns) : j_ok n_KT 3 C G 4 [(0, (2, l0)), (1, (0, l1)), (2, (0, l2))] [(0, s0)] S V nc ns := by
  have E := n_E h
  exact j_if_eq E d13_8_4 (t := 30) rfl (fun q => j_pick [0] rfl (k q)) (fun q => j_pick [0, 1, 2] rfl (k' q))
theorem t13_8_7 {C : qCx} {G : jG} {S : jS} {V : jH} {nc ns : Nat} {l0 l1 l2 : Int} {mc ms : Nat} {pp : Int → Int → Int → jS → jH → Prop} {qq : Int → Int → Int → jS → jH → Int → jS → jH → Prop} (h : x13_8 C G) (L : j_L S) (hrm : C.2.2.2.1.frames = 3 ∧ C.2.2.2.1.locals = 71) (c1 : S.1 l0 = 33) (c2 : 0 ≤ l1) (c3 : l1 < 6) (c4 : -2147483648 ≤ (V (l0 + 2) l1) - 1 ∧ (V (l0 + 2) l1) - 1 ≤ 2147483647) (hM : M13_3 C.2.1 mc ms pp qq) (hp : pp l2 ((-1)) ((V (l0 + 2) l1) - 1) S V) (hc : nc + mc ≤ C.2.2.2.1.cells) (hs : ns + ms ≤ C.2.2.2.1.slots) (k : ∀ (r : Int) (S' : jS) (V' : jH), qq l2 ((-1)) ((V (l0 + 2) l1) - 1) S V r S' V' → j_ok n_KT 3 C G 27 [(0, (2, l0)), (1, (0, l1)), (2, (0, l2))] [(0, r)] S' V' (nc + mc) (ns + ms)) : j_ok n_KT 3 C G 7 [(0, (2, l0)), (1, (0, l1)), (2, (0, l2))] [] S V nc ns := by
  have E := n_E h
  refine j_iload_n E d13_8_7 rfl 2 rfl ?_
  refine j_i2l E d13_8_8 ?_
  refine j_ldc2 (n := (-1)) (fl12_94 h) rfl d13_8_9 ?_
  refine j_aload_n E d13_8_12 rfl 0 rfl ?_
  refine j_getS (f := 0) (x := l0 + 1) (fg12_10 h) d13_8_13 c1 (by decide) rfl rfl ((L12_0 L c1).trans (by omega)) ?_
  refine j_getS (f := 0) (x := l0 + 2) (fg12_86 h) d13_8_16 (show S.1 (l0 + 1) = 32 from (by have q := L12_0k L c1; rw [show l0 + 1 = l0 + 1 by omega]; exact q)) (by decide) rfl rfl ((L11_0 L (show S.1 (l0 + 1) = 32 from (by have q := L12_0k L c1; rw [show l0 + 1 = l0 + 1 by omega]; exact q))).trans (by omega)) ?_
  refine j_iload_n E d13_8_19 rfl 1 rfl ?_
  refine j_iald E d13_8_20 (j_arr_of (show S.1 (l0 + 2) = 8 from (by have q := L11_0k L (show S.1 (l0 + 1) = 32 from (by have q := L12_0k L c1; rw [show l0 + 1 = l0 + 1 by omega]; exact q)); rw [show l0 + 2 = (l0 + 1) + 1 by omega]; exact q)) (by decide) rfl) c2 c3 ?_
  refine j_iconst E d13_8_21 (by decide) ?_
  refine j_isub E d13_8_22 c4 ?_
  refine j_i2l E d13_8_23 ?_
  refine j_call E (K13_8_24 h hrm hM) d13_8_24 (a := [(1, l2), (1, (-1)), (1, (V (l0 + 2) l1) - 1)]) (sk := []) rfl ⟨l2, (-1), (V (l0 + 2) l1) - 1, rfl, hp⟩ (Nat.le_of_ble_eq_true rfl) hc hs ?_
  rintro rs S' V' ⟨z0, z1, z2, r, e1, rfl, q⟩
  simp only [List.cons.injEq, Prod.mk.injEq, and_true, true_and] at e1
  obtain ⟨rfl, rfl, rfl⟩ := e1
  exact j_pick [0, 1, 2] rfl (k r S' V' q)
theorem t13_8_27 {C : qCx} {G : jG} {S : jS} {V : jH} {nc ns : Nat} {l0 l1 l2 s0 : Int} (h : x13_8 C G)  (k : ¬ s0 = 0 → j_ok n_KT 3 C G 36 [(0, (2, l0)), (1, (0, l1)), (2, (0, l2))] [] S V nc ns) (k' : s0 = 0 → j_ok n_KT 3 C G 30 [(0, (2, l0))] [] S V nc ns) : j_ok n_KT 3 C G 27 [(0, (2, l0)), (1, (0, l1)), (2, (0, l2))] [(0, s0)] S V nc ns := by
  have E := n_E h
  exact j_if_ne E d13_8_27 (t := 36) rfl (fun q => j_pick [0, 1, 2] rfl (k q)) (fun q => j_pick [0] rfl (k' q))
theorem t13_8_30 {C : qCx} {G : jG} {S : jS} {V : jH} {nc ns : Nat} {l0 : Int} {mc ms : Nat} {pp : Int → Int → jS → jH → Prop} {qq : Int → Int → jS → jH → Int → jS → jH → Prop} (h : x13_8 C G) (hrm : C.2.2.2.1.frames = 3 ∧ C.2.2.2.1.locals = 71) (c1 : S.1 l0 = 33) (hM : M13_2 C.2.1 mc ms pp qq) (hp : pp l0 ((-1)) S V) (hc : nc + mc ≤ C.2.2.2.1.cells) (hs : ns + ms ≤ C.2.2.2.1.slots) (k : ∀ (r : Int) (S' : jS) (V' : jH), qq l0 ((-1)) S V r S' V' → j_ok n_KT 3 C G 35 [] [(0, r)] S' V' (nc + mc) (ns + ms)) : j_ok n_KT 3 C G 30 [(0, (2, l0))] [] S V nc ns := by
  have E := n_E h
  refine j_aload_n E d13_8_30 rfl 0 rfl ?_
  refine j_iconst E d13_8_31 (by decide) ?_
  refine j_call E (K13_8_32 h hrm hM) d13_8_32 (a := [(2, l0), (0, (-1))]) (sk := []) rfl ⟨l0, (-1), rfl, c1, hp⟩ (Nat.le_of_ble_eq_true rfl) hc hs ?_
  rintro rs S' V' ⟨z0, z1, r, e1, rfl, q⟩
  simp only [List.cons.injEq, Prod.mk.injEq, and_true, true_and] at e1
  obtain ⟨rfl, rfl⟩ := e1
  exact j_pick [] rfl (k r S' V' q)
theorem t13_8_35 {C : qCx} {G : jG} {S : jS} {V : jH} {nc ns : Nat} {s0 : Int} {mc ms : Nat} {qf : Int → jS → jH → Prop} (h : x13_8 C G)  (R : j_Ri n_KT 3 C G b_13_8 mc ms qf) (q : qf s0 S V) (hc : nc ≤ mc) (hs : ns ≤ ms) : j_ok n_KT 3 C G 35 [] [(0, s0)] S V nc ns := by
  have E := n_E h
  exact R _ _ _ _ _ _ _ d13_8_35 q hc hs
theorem t13_8_36 {C : qCx} {G : jG} {S : jS} {V : jH} {nc ns : Nat} {l0 l1 l2 : Int} (h : x13_8 C G)  (k : 0 ≤ l2 → j_ok n_KT 3 C G 52 [(0, (2, l0)), (1, (0, l1)), (2, (0, l2))] [] S V nc ns) (k' : l2 < 0 → j_ok n_KT 3 C G 40 [(0, (2, l0)), (1, (0, l1))] [] S V nc ns) : j_ok n_KT 3 C G 36 [(0, (2, l0)), (1, (0, l1)), (2, (0, l2))] [] S V nc ns := by
  have E := n_E h
  refine j_iload_n E d13_8_36 rfl 2 rfl ?_
  exact j_if_ge E d13_8_37 (t := 52) rfl (fun q => j_pick [0, 1, 2] rfl (k q)) (fun q => j_pick [0, 1] rfl (k' q))
theorem t13_8_40 {C : qCx} {G : jG} {S : jS} {V : jH} {nc ns : Nat} {l0 l1 : Int} (h : x13_8 C G) (L : j_L S) (c1 : S.1 l0 = 33) (c2 : 0 ≤ l1) (c3 : l1 < 6) (k : j_ok n_KT 3 C G 67 [] [(0, V (l0 + 2) l1)] S V nc ns) : j_ok n_KT 3 C G 40 [(0, (2, l0)), (1, (0, l1))] [] S V nc ns := by
  have E := n_E h
  refine j_aload_n E d13_8_40 rfl 0 rfl ?_
  refine j_getS (f := 0) (x := l0 + 1) (fg12_10 h) d13_8_41 c1 (by decide) rfl rfl ((L12_0 L c1).trans (by omega)) ?_
  refine j_getS (f := 0) (x := l0 + 2) (fg12_86 h) d13_8_44 (show S.1 (l0 + 1) = 32 from (by have q := L12_0k L c1; rw [show l0 + 1 = l0 + 1 by omega]; exact q)) (by decide) rfl rfl ((L11_0 L (show S.1 (l0 + 1) = 32 from (by have q := L12_0k L c1; rw [show l0 + 1 = l0 + 1 by omega]; exact q))).trans (by omega)) ?_
  refine j_iload_n E d13_8_47 rfl 1 rfl ?_
  refine j_iald E d13_8_48 (j_arr_of (show S.1 (l0 + 2) = 8 from (by have q := L11_0k L (show S.1 (l0 + 1) = 32 from (by have q := L12_0k L c1; rw [show l0 + 1 = l0 + 1 by omega]; exact q)); rw [show l0 + 2 = (l0 + 1) + 1 by omega]; exact q)) (by decide) rfl) c2 c3 ?_
  refine j_goto E d13_8_49 (t := 67) rfl ?_
  exact j_pick [] rfl k
theorem t13_8_52 {C : qCx} {G : jG} {S : jS} {V : jH} {nc ns : Nat} {l0 l1 l2 : Int} (h : x13_8 C G) (L : j_L S) (c1 : S.1 l0 = 33) (c2 : -2147483648 ≤ 400 * l1 ∧ 400 * l1 ≤ 2147483647) (c3 : -2147483648 ≤ (400 * l1) + l2 ∧ (400 * l1) + l2 ≤ 2147483647) (c4 : 0 ≤ (400 * l1) + l2) (c5 : (400 * l1) + l2 < 2400) (k : j_ok n_KT 3 C G 67 [] [(0, V (l0 + 3) ((400 * l1) + l2))] S V nc ns) : j_ok n_KT 3 C G 52 [(0, (2, l0)), (1, (0, l1)), (2, (0, l2))] [] S V nc ns := by
  have E := n_E h
  refine j_aload_n E d13_8_52 rfl 0 rfl ?_
  refine j_getS (f := 0) (x := l0 + 1) (fg12_10 h) d13_8_53 c1 (by decide) rfl rfl ((L12_0 L c1).trans (by omega)) ?_
  refine j_getS (f := 1) (x := l0 + 3) (fg12_89 h) d13_8_56 (show S.1 (l0 + 1) = 32 from (by have q := L12_0k L c1; rw [show l0 + 1 = l0 + 1 by omega]; exact q)) (by decide) rfl rfl ((L11_1 L (show S.1 (l0 + 1) = 32 from (by have q := L12_0k L c1; rw [show l0 + 1 = l0 + 1 by omega]; exact q))).trans (by omega)) ?_
  refine j_sipush E d13_8_59 (by decide) ?_
  refine j_iload_n E d13_8_62 rfl 1 rfl ?_
  refine j_imul E d13_8_63 c2 ?_
  refine j_iload_n E d13_8_64 rfl 2 rfl ?_
  refine j_iadd E d13_8_65 c3 ?_
  refine j_iald E d13_8_66 (j_arr_of (show S.1 (l0 + 3) = 9 from (by have q := L11_1k L (show S.1 (l0 + 1) = 32 from (by have q := L12_0k L c1; rw [show l0 + 1 = l0 + 1 by omega]; exact q)); rw [show l0 + 3 = (l0 + 1) + 2 by omega]; exact q)) (by decide) rfl) c4 c5 ?_
  exact j_pick [] rfl k
theorem t13_8_67 {C : qCx} {G : jG} {S : jS} {V : jH} {nc ns : Nat} {s0 : Int} {mc ms : Nat} {qf : Int → jS → jH → Prop} (h : x13_8 C G)  (R : j_Ri n_KT 3 C G b_13_8 mc ms qf) (q : qf s0 S V) (hc : nc ≤ mc) (hs : ns ≤ ms) : j_ok n_KT 3 C G 67 [] [(0, s0)] S V nc ns := by
  have E := n_E h
  exact R _ _ _ _ _ _ _ d13_8_67 q hc hs
/- BalanceCoderModel.copy(IIII)I -/
abbrev b_13_9 : ByteArray := prog_13_method_9_code
def y_13_9 : MethodName := ⟨"BalanceCoderModel", "copy", "(IIII)I"⟩
abbrev x13_9 (C : qCx) (G : jG) : Prop := n_ctx C b_13_9 6 "BalanceCoderModel" G.1 G.2.1
def M13_9 (l : Launch) (mc ms : Nat) (p : Int → Int → Int → Int → Int → jS → jH → Prop) (q : Int → Int → Int → Int → Int → jS → jH → Int → jS → jH → Prop) : Prop := j_Met l vwCl n_TL n_NW n_KT y_13_9 (Cond.code y_13_9 b_13_9 6 (some .int) :: n_GW) { frames := 3, cells := mc, slots := ms, locals := 71 } mc ms (fun a S V => ∃ u0 u1 u2 u3 u4 : Int, a = [(2, u0), (0, u1), (0, u2), (0, u3), (0, u4)] ∧ S.1 u0 = 33 ∧ p u0 u1 u2 u3 u4 S V) (fun a S V rs S' V' => ∃ u0 u1 u2 u3 u4 r : Int, a = [(2, u0), (0, u1), (0, u2), (0, u3), (0, u4)] ∧ rs = [(0, r)] ∧ q u0 u1 u2 u3 u4 S V r S' V')
theorem e13_9 {l : Launch} {mc ms : Nat} {p : Int → Int → Int → Int → Int → jS → jH → Prop} {q : Int → Int → Int → Int → Int → jS → jH → Int → jS → jH → Prop} (body : ∀ (C : qCx) (G : jG), x13_9 C G → C.2.2.2.1.frames = 3 ∧ C.2.2.2.1.locals = 71 → C.2.2.2.1.cells = mc ∧ C.2.2.2.1.slots = ms → C.2.1 = l → C.2.2.2.2.2.2.2.2.1.name = "copy" → ∀ (u0 u1 u2 u3 u4 : Int) (S : jS) (V : jH), S.1 u0 = 33 → p u0 u1 u2 u3 u4 S V → j_Ri n_KT 6 C G b_13_9 mc ms (q u0 u1 u2 u3 u4 S V) → j_ok n_KT 6 C G 0 [(0, (2, u0)), (1, (0, u1)), (2, (0, u2)), (3, (0, u3)), (4, (0, u4))] [] S V 0 0) : M13_9 l mc ms p q := by
  refine j_method (ws' := n_GW) (by decide) rfl ?_ ?_
  · rintro a S V ⟨u0, u1, u2, u3, u4, rfl, -⟩
    exact Nat.le_of_ble_eq_true rfl
  · rintro C G htl hl hrm hm hml ho hts hnm hE a S V ⟨u0, u1, u2, u3, u4, rfl, ht, hp⟩ R
    exact body C G ⟨htl, hm, hml, ho, fun w hw => hts w (List.mem_cons_of_mem _ hw), hE⟩ (by rw [hrm]; exact ⟨rfl, rfl⟩) (by rw [hrm]; exact ⟨rfl, rfl⟩) hl hnm u0 u1 u2 u3 u4 S V ht hp (fun pc lo r S' V' nc ns d q hc hs => R.2.1 rfl pc lo r S' V' nc ns d ⟨u0, u1, u2, u3, u4, r, rfl, rfl, q⟩ hc hs)
theorem d13_9_0 : decode b_13_9 0 = .ok (.iload_n 1, 1) := by decide +kernel
theorem d13_9_1 : decode b_13_9 1 = .ok (.invokestatic 76, 3) := by decide +kernel
theorem d13_9_4 : decode b_13_9 4 = .ok (.ifCond .eq 38, 3) := by decide +kernel
theorem d13_9_7 : decode b_13_9 7 = .ok (.iload 4, 2) := by decide +kernel
theorem d13_9_9 : decode b_13_9 9 = .ok (.invokestatic 76, 3) := by decide +kernel
theorem d13_9_12 : decode b_13_9 12 = .ok (.ifCond .eq 30, 3) := by decide +kernel
theorem d13_9_15 : decode b_13_9 15 = .ok (.iload_n 2, 1) := by decide +kernel
theorem d13_9_16 : decode b_13_9 16 = .ok (.ifCond .lt 26, 3) := by decide +kernel
theorem d13_9_19 : decode b_13_9 19 = .ok (.iload_n 3, 1) := by decide +kernel
theorem d13_9_20 : decode b_13_9 20 = .ok (.ifCond .lt 22, 3) := by decide +kernel
theorem d13_9_23 : decode b_13_9 23 = .ok (.iload_n 2, 1) := by decide +kernel
theorem d13_9_24 : decode b_13_9 24 = .ok (.i2l, 1) := by decide +kernel
theorem d13_9_25 : decode b_13_9 25 = .ok (.iload_n 3, 1) := by decide +kernel
theorem d13_9_26 : decode b_13_9 26 = .ok (.i2l, 1) := by decide +kernel
theorem d13_9_27 : decode b_13_9 27 = .ok (.ladd, 1) := by decide +kernel
theorem d13_9_28 : decode b_13_9 28 = .ok (.aload_n 0, 1) := by decide +kernel
theorem d13_9_29 : decode b_13_9 29 = .ok (.getfield 10, 3) := by decide +kernel
theorem d13_9_32 : decode b_13_9 32 = .ok (.getfield 86, 3) := by decide +kernel
theorem d13_9_35 : decode b_13_9 35 = .ok (.iload_n 1, 1) := by decide +kernel
theorem d13_9_36 : decode b_13_9 36 = .ok (.iaload, 1) := by decide +kernel
theorem d13_9_37 : decode b_13_9 37 = .ok (.i2l, 1) := by decide +kernel
theorem d13_9_38 : decode b_13_9 38 = .ok (.lcmp, 1) := by decide +kernel
theorem d13_9_39 : decode b_13_9 39 = .ok (.ifCond .le 9, 3) := by decide +kernel
theorem d13_9_42 : decode b_13_9 42 = .ok (.aload_n 0, 1) := by decide +kernel
theorem d13_9_43 : decode b_13_9 43 = .ok (.iconst (-1), 1) := by decide +kernel
theorem d13_9_44 : decode b_13_9 44 = .ok (.invokevirtual 82, 3) := by decide +kernel
theorem d13_9_47 : decode b_13_9 47 = .ok (.ireturn, 1) := by decide +kernel
theorem d13_9_48 : decode b_13_9 48 = .ok (.aload_n 0, 1) := by decide +kernel
theorem d13_9_49 : decode b_13_9 49 = .ok (.getfield 10, 3) := by decide +kernel
theorem d13_9_52 : decode b_13_9 52 = .ok (.getfield 86, 3) := by decide +kernel
theorem d13_9_55 : decode b_13_9 55 = .ok (.iload 4, 2) := by decide +kernel
theorem d13_9_57 : decode b_13_9 57 = .ok (.iaload, 1) := by decide +kernel
theorem d13_9_58 : decode b_13_9 58 = .ok (.iload_n 3, 1) := by decide +kernel
theorem d13_9_59 : decode b_13_9 59 = .ok (.iadd, 1) := by decide +kernel
theorem d13_9_60 : decode b_13_9 60 = .ok (.sipush 400, 3) := by decide +kernel
theorem d13_9_63 : decode b_13_9 63 = .ok (.if_icmp .le 10, 3) := by decide +kernel
theorem d13_9_66 : decode b_13_9 66 = .ok (.aload_n 0, 1) := by decide +kernel
theorem d13_9_67 : decode b_13_9 67 = .ok (.bipush (-2), 2) := by decide +kernel
theorem d13_9_69 : decode b_13_9 69 = .ok (.invokevirtual 82, 3) := by decide +kernel
theorem d13_9_72 : decode b_13_9 72 = .ok (.ireturn, 1) := by decide +kernel
theorem d13_9_73 : decode b_13_9 73 = .ok (.iconst 0, 1) := by decide +kernel
theorem d13_9_74 : decode b_13_9 74 = .ok (.istore 5, 2) := by decide +kernel
theorem d13_9_76 : decode b_13_9 76 = .ok (.iload 5, 2) := by decide +kernel
theorem d13_9_78 : decode b_13_9 78 = .ok (.iload_n 3, 1) := by decide +kernel
theorem d13_9_79 : decode b_13_9 79 = .ok (.if_icmp .ge 34, 3) := by decide +kernel
theorem d13_9_82 : decode b_13_9 82 = .ok (.aload_n 0, 1) := by decide +kernel
theorem d13_9_83 : decode b_13_9 83 = .ok (.getfield 23, 3) := by decide +kernel
theorem d13_9_86 : decode b_13_9 86 = .ok (.iload 5, 2) := by decide +kernel
theorem d13_9_88 : decode b_13_9 88 = .ok (.aload_n 0, 1) := by decide +kernel
theorem d13_9_89 : decode b_13_9 89 = .ok (.getfield 10, 3) := by decide +kernel
theorem d13_9_92 : decode b_13_9 92 = .ok (.getfield 89, 3) := by decide +kernel
theorem d13_9_95 : decode b_13_9 95 = .ok (.sipush 400, 3) := by decide +kernel
theorem d13_9_98 : decode b_13_9 98 = .ok (.iload_n 1, 1) := by decide +kernel
theorem d13_9_99 : decode b_13_9 99 = .ok (.imul, 1) := by decide +kernel
theorem d13_9_100 : decode b_13_9 100 = .ok (.iload_n 2, 1) := by decide +kernel
theorem d13_9_101 : decode b_13_9 101 = .ok (.iadd, 1) := by decide +kernel
theorem d13_9_102 : decode b_13_9 102 = .ok (.iload 5, 2) := by decide +kernel
theorem d13_9_104 : decode b_13_9 104 = .ok (.iadd, 1) := by decide +kernel
theorem d13_9_105 : decode b_13_9 105 = .ok (.iaload, 1) := by decide +kernel
theorem d13_9_106 : decode b_13_9 106 = .ok (.iastore, 1) := by decide +kernel
theorem d13_9_107 : decode b_13_9 107 = .ok (.iinc 5 1, 3) := by decide +kernel
theorem d13_9_110 : decode b_13_9 110 = .ok (.goto (-34), 3) := by decide +kernel
theorem d13_9_113 : decode b_13_9 113 = .ok (.iconst 0, 1) := by decide +kernel
theorem d13_9_114 : decode b_13_9 114 = .ok (.istore 5, 2) := by decide +kernel
theorem d13_9_116 : decode b_13_9 116 = .ok (.iload 5, 2) := by decide +kernel
theorem d13_9_118 : decode b_13_9 118 = .ok (.iload_n 3, 1) := by decide +kernel
theorem d13_9_119 : decode b_13_9 119 = .ok (.if_icmp .ge 44, 3) := by decide +kernel
theorem d13_9_122 : decode b_13_9 122 = .ok (.aload_n 0, 1) := by decide +kernel
theorem d13_9_123 : decode b_13_9 123 = .ok (.getfield 10, 3) := by decide +kernel
theorem d13_9_126 : decode b_13_9 126 = .ok (.getfield 89, 3) := by decide +kernel
theorem d13_9_129 : decode b_13_9 129 = .ok (.sipush 400, 3) := by decide +kernel
theorem d13_9_132 : decode b_13_9 132 = .ok (.iload 4, 2) := by decide +kernel
theorem d13_9_134 : decode b_13_9 134 = .ok (.imul, 1) := by decide +kernel
theorem d13_9_135 : decode b_13_9 135 = .ok (.aload_n 0, 1) := by decide +kernel
theorem d13_9_136 : decode b_13_9 136 = .ok (.getfield 10, 3) := by decide +kernel
theorem d13_9_139 : decode b_13_9 139 = .ok (.getfield 86, 3) := by decide +kernel
theorem d13_9_142 : decode b_13_9 142 = .ok (.iload 4, 2) := by decide +kernel
theorem d13_9_144 : decode b_13_9 144 = .ok (.iaload, 1) := by decide +kernel
theorem d13_9_145 : decode b_13_9 145 = .ok (.iadd, 1) := by decide +kernel
theorem d13_9_146 : decode b_13_9 146 = .ok (.iload 5, 2) := by decide +kernel
theorem d13_9_148 : decode b_13_9 148 = .ok (.iadd, 1) := by decide +kernel
theorem d13_9_149 : decode b_13_9 149 = .ok (.aload_n 0, 1) := by decide +kernel
theorem d13_9_150 : decode b_13_9 150 = .ok (.getfield 23, 3) := by decide +kernel
theorem d13_9_153 : decode b_13_9 153 = .ok (.iload 5, 2) := by decide +kernel
theorem d13_9_155 : decode b_13_9 155 = .ok (.iaload, 1) := by decide +kernel
theorem d13_9_156 : decode b_13_9 156 = .ok (.iastore, 1) := by decide +kernel
theorem d13_9_157 : decode b_13_9 157 = .ok (.iinc 5 1, 3) := by decide +kernel
theorem d13_9_160 : decode b_13_9 160 = .ok (.goto (-44), 3) := by decide +kernel
theorem d13_9_163 : decode b_13_9 163 = .ok (.aload_n 0, 1) := by decide +kernel
theorem d13_9_164 : decode b_13_9 164 = .ok (.getfield 10, 3) := by decide +kernel
theorem d13_9_167 : decode b_13_9 167 = .ok (.getfield 86, 3) := by decide +kernel
theorem d13_9_170 : decode b_13_9 170 = .ok (.iload 4, 2) := by decide +kernel
theorem d13_9_172 : decode b_13_9 172 = .ok (.dup2, 1) := by decide +kernel
theorem d13_9_173 : decode b_13_9 173 = .ok (.iaload, 1) := by decide +kernel
theorem d13_9_174 : decode b_13_9 174 = .ok (.iload_n 3, 1) := by decide +kernel
theorem d13_9_175 : decode b_13_9 175 = .ok (.iadd, 1) := by decide +kernel
theorem d13_9_176 : decode b_13_9 176 = .ok (.iastore, 1) := by decide +kernel
theorem d13_9_177 : decode b_13_9 177 = .ok (.aload_n 0, 1) := by decide +kernel
theorem d13_9_178 : decode b_13_9 178 = .ok (.getfield 10, 3) := by decide +kernel
theorem d13_9_181 : decode b_13_9 181 = .ok (.getfield 86, 3) := by decide +kernel
theorem d13_9_184 : decode b_13_9 184 = .ok (.iload 4, 2) := by decide +kernel
theorem d13_9_186 : decode b_13_9 186 = .ok (.iaload, 1) := by decide +kernel
theorem d13_9_187 : decode b_13_9 187 = .ok (.ireturn, 1) := by decide +kernel
theorem K13_9_1 {C : qCx} {G : jG} {mc ms : Nat} {p : Int → jS → jH → Prop} {q : Int → jS → jH → Int → jS → jH → Prop} (h : x13_9 C G) (hrm : C.2.2.2.1.frames = 3 ∧ C.2.2.2.1.locals = 71) (hM : M13_4 C.2.1 mc ms p q) : j_Call C b_13_9 n_KT G.1 G.2.1 6 (.invokestatic 76) mc ms (fun a S V => ∃ u0 : Int, a = [(0, u0)] ∧ p u0 S V) (fun a S V rs S' V' => ∃ u0 r : Int, a = [(0, u0)] ∧ rs = [(0, r)] ∧ q u0 S V r S' V') := j_callS n_NWk h.2.2.2.2.2 h.1 hM ⟨h.2.1.1, h.2.1.2, h.2.2.1, h.2.2.2.1, h.2.2.2.2.1⟩ ⟨n_CB (y := y_13_4) (bytes := b_13_4) 1 h.2.2.2.2.1 n_w919 n_w917 n_w12 ⟨by decide, by decide, by decide +kernel⟩ rfl rfl ⟨by rw [hrm.1]; exact Nat.le_of_ble_eq_true rfl, by rw [hrm.2]; exact Nat.le_of_ble_eq_true rfl⟩, h.2.2.2.2.1 _ n_w918⟩ (fun a S V hP => by obtain ⟨u0, rfl, -⟩ := hP; rfl)
theorem K13_9_9 {C : qCx} {G : jG} {mc ms : Nat} {p : Int → jS → jH → Prop} {q : Int → jS → jH → Int → jS → jH → Prop} (h : x13_9 C G) (hrm : C.2.2.2.1.frames = 3 ∧ C.2.2.2.1.locals = 71) (hM : M13_4 C.2.1 mc ms p q) : j_Call C b_13_9 n_KT G.1 G.2.1 6 (.invokestatic 76) mc ms (fun a S V => ∃ u0 : Int, a = [(0, u0)] ∧ p u0 S V) (fun a S V rs S' V' => ∃ u0 r : Int, a = [(0, u0)] ∧ rs = [(0, r)] ∧ q u0 S V r S' V') := j_callS n_NWk h.2.2.2.2.2 h.1 hM ⟨h.2.1.1, h.2.1.2, h.2.2.1, h.2.2.2.1, h.2.2.2.2.1⟩ ⟨n_CB (y := y_13_4) (bytes := b_13_4) 1 h.2.2.2.2.1 n_w919 n_w917 n_w12 ⟨by decide, by decide, by decide +kernel⟩ rfl rfl ⟨by rw [hrm.1]; exact Nat.le_of_ble_eq_true rfl, by rw [hrm.2]; exact Nat.le_of_ble_eq_true rfl⟩, h.2.2.2.2.1 _ n_w918⟩ (fun a S V hP => by obtain ⟨u0, rfl, -⟩ := hP; rfl)
theorem K13_9_44 {C : qCx} {G : jG} {mc ms : Nat} {p : Int → Int → jS → jH → Prop} {q : Int → Int → jS → jH → Int → jS → jH → Prop} (h : x13_9 C G) (hrm : C.2.2.2.1.frames = 3 ∧ C.2.2.2.1.locals = 71) (hM : M13_2 C.2.1 mc ms p q) : j_Call C b_13_9 n_KT G.1 G.2.1 6 (.invokevirtual 82) mc ms (fun a S V => ∃ u0 u1 : Int, a = [(2, u0), (0, u1)] ∧ S.1 u0 = 33 ∧ p u0 u1 S V) (fun a S V rs S' V' => ∃ u0 u1 r : Int, a = [(2, u0), (0, u1)] ∧ rs = [(0, r)] ∧ q u0 u1 S V r S' V') := j_callV n_NWk h.2.2.2.2.2 h.1 hM ⟨h.2.1.1, h.2.1.2, h.2.2.1, h.2.2.2.1, h.2.2.2.2.1⟩ ⟨n_CB (y := y_13_2) (bytes := b_13_2) 1 h.2.2.2.2.1 n_w928 n_w925 n_w12 ⟨by decide, by decide, by decide +kernel⟩ rfl rfl ⟨by rw [hrm.1]; exact Nat.le_of_ble_eq_true rfl, by rw [hrm.2]; exact Nat.le_of_ble_eq_true rfl⟩, h.2.2.2.2.1 _ n_w927, h.2.2.2.2.1 _ n_s27⟩ (Cn := RX12) (fun a S V hP => by obtain ⟨u0, u1, rfl, e, -⟩ := hP; exact ⟨u0, _, 12, _, _, TX12, 31, rfl, rfl, by rw [e]; decide, by rw [e]; rfl, rfl⟩)
theorem K13_9_69 {C : qCx} {G : jG} {mc ms : Nat} {p : Int → Int → jS → jH → Prop} {q : Int → Int → jS → jH → Int → jS → jH → Prop} (h : x13_9 C G) (hrm : C.2.2.2.1.frames = 3 ∧ C.2.2.2.1.locals = 71) (hM : M13_2 C.2.1 mc ms p q) : j_Call C b_13_9 n_KT G.1 G.2.1 6 (.invokevirtual 82) mc ms (fun a S V => ∃ u0 u1 : Int, a = [(2, u0), (0, u1)] ∧ S.1 u0 = 33 ∧ p u0 u1 S V) (fun a S V rs S' V' => ∃ u0 u1 r : Int, a = [(2, u0), (0, u1)] ∧ rs = [(0, r)] ∧ q u0 u1 S V r S' V') := j_callV n_NWk h.2.2.2.2.2 h.1 hM ⟨h.2.1.1, h.2.1.2, h.2.2.1, h.2.2.2.1, h.2.2.2.2.1⟩ ⟨n_CB (y := y_13_2) (bytes := b_13_2) 1 h.2.2.2.2.1 n_w928 n_w925 n_w12 ⟨by decide, by decide, by decide +kernel⟩ rfl rfl ⟨by rw [hrm.1]; exact Nat.le_of_ble_eq_true rfl, by rw [hrm.2]; exact Nat.le_of_ble_eq_true rfl⟩, h.2.2.2.2.1 _ n_w927, h.2.2.2.2.1 _ n_s27⟩ (Cn := RX12) (fun a S V hP => by obtain ⟨u0, u1, rfl, e, -⟩ := hP; exact ⟨u0, _, 12, _, _, TX12, 31, rfl, rfl, by rw [e]; decide, by rw [e]; rfl, rfl⟩)
theorem t13_9_0 {C : qCx} {G : jG} {S : jS} {V : jH} {nc ns : Nat} {l0 l1 l2 l3 l4 : Int} {mc ms : Nat} {pp : Int → jS → jH → Prop} {qq : Int → jS → jH → Int → jS → jH → Prop} (h : x13_9 C G) (hrm : C.2.2.2.1.frames = 3 ∧ C.2.2.2.1.locals = 71)  (hM : M13_4 C.2.1 mc ms pp qq) (hp : pp l1 S V) (hc : nc + mc ≤ C.2.2.2.1.cells) (hs : ns + ms ≤ C.2.2.2.1.slots) (k : ∀ (r : Int) (S' : jS) (V' : jH), qq l1 S V r S' V' → j_ok n_KT 6 C G 4 [(0, (2, l0)), (1, (0, l1)), (2, (0, l2)), (3, (0, l3)), (4, (0, l4))] [(0, r)] S' V' (nc + mc) (ns + ms)) : j_ok n_KT 6 C G 0 [(0, (2, l0)), (1, (0, l1)), (2, (0, l2)), (3, (0, l3)), (4, (0, l4))] [] S V nc ns := by
  have E := n_E h
  refine j_iload_n E d13_9_0 rfl 1 rfl ?_
  refine j_call E (K13_9_1 h hrm hM) d13_9_1 (a := [(0, l1)]) (sk := []) rfl ⟨l1, rfl, hp⟩ (Nat.le_of_ble_eq_true rfl) hc hs ?_
  rintro rs S' V' ⟨z0, r, e1, rfl, q⟩
  simp only [List.cons.injEq, Prod.mk.injEq, and_true, true_and] at e1
  obtain ⟨rfl⟩ := e1
  exact j_pick [0, 1, 2, 3, 4] rfl (k r S' V' q)
theorem t13_9_4 {C : qCx} {G : jG} {S : jS} {V : jH} {nc ns : Nat} {l0 l1 l2 l3 l4 s0 : Int} (h : x13_9 C G)  (k : s0 = 0 → j_ok n_KT 6 C G 42 [(0, (2, l0))] [] S V nc ns) (k' : ¬ s0 = 0 → j_ok n_KT 6 C G 7 [(0, (2, l0)), (1, (0, l1)), (2, (0, l2)), (3, (0, l3)), (4, (0, l4))] [] S V nc ns) : j_ok n_KT 6 C G 4 [(0, (2, l0)), (1, (0, l1)), (2, (0, l2)), (3, (0, l3)), (4, (0, l4))] [(0, s0)] S V nc ns := by
  have E := n_E h
  exact j_if_eq E d13_9_4 (t := 42) rfl (fun q => j_pick [0] rfl (k q)) (fun q => j_pick [0, 1, 2, 3, 4] rfl (k' q))
theorem t13_9_7 {C : qCx} {G : jG} {S : jS} {V : jH} {nc ns : Nat} {l0 l1 l2 l3 l4 : Int} {mc ms : Nat} {pp : Int → jS → jH → Prop} {qq : Int → jS → jH → Int → jS → jH → Prop} (h : x13_9 C G) (hrm : C.2.2.2.1.frames = 3 ∧ C.2.2.2.1.locals = 71)  (hM : M13_4 C.2.1 mc ms pp qq) (hp : pp l4 S V) (hc : nc + mc ≤ C.2.2.2.1.cells) (hs : ns + ms ≤ C.2.2.2.1.slots) (k : ∀ (r : Int) (S' : jS) (V' : jH), qq l4 S V r S' V' → j_ok n_KT 6 C G 12 [(0, (2, l0)), (1, (0, l1)), (2, (0, l2)), (3, (0, l3)), (4, (0, l4))] [(0, r)] S' V' (nc + mc) (ns + ms)) : j_ok n_KT 6 C G 7 [(0, (2, l0)), (1, (0, l1)), (2, (0, l2)), (3, (0, l3)), (4, (0, l4))] [] S V nc ns := by
  have E := n_E h
  refine j_iload E d13_9_7 4 rfl ?_
  refine j_call E (K13_9_9 h hrm hM) d13_9_9 (a := [(0, l4)]) (sk := []) rfl ⟨l4, rfl, hp⟩ (Nat.le_of_ble_eq_true rfl) hc hs ?_
  rintro rs S' V' ⟨z0, r, e1, rfl, q⟩
  simp only [List.cons.injEq, Prod.mk.injEq, and_true, true_and] at e1
  obtain ⟨rfl⟩ := e1
  exact j_pick [0, 1, 2, 3, 4] rfl (k r S' V' q)
theorem t13_9_12 {C : qCx} {G : jG} {S : jS} {V : jH} {nc ns : Nat} {l0 l1 l2 l3 l4 s0 : Int} (h : x13_9 C G)  (k : s0 = 0 → j_ok n_KT 6 C G 42 [(0, (2, l0))] [] S V nc ns) (k' : ¬ s0 = 0 → j_ok n_KT 6 C G 15 [(0, (2, l0)), (1, (0, l1)), (2, (0, l2)), (3, (0, l3)), (4, (0, l4))] [] S V nc ns) : j_ok n_KT 6 C G 12 [(0, (2, l0)), (1, (0, l1)), (2, (0, l2)), (3, (0, l3)), (4, (0, l4))] [(0, s0)] S V nc ns := by
  have E := n_E h
  exact j_if_eq E d13_9_12 (t := 42) rfl (fun q => j_pick [0] rfl (k q)) (fun q => j_pick [0, 1, 2, 3, 4] rfl (k' q))
theorem t13_9_15 {C : qCx} {G : jG} {S : jS} {V : jH} {nc ns : Nat} {l0 l1 l2 l3 l4 : Int} (h : x13_9 C G)  (k : l2 < 0 → j_ok n_KT 6 C G 42 [(0, (2, l0))] [] S V nc ns) (k' : 0 ≤ l2 → j_ok n_KT 6 C G 19 [(0, (2, l0)), (1, (0, l1)), (2, (0, l2)), (3, (0, l3)), (4, (0, l4))] [] S V nc ns) : j_ok n_KT 6 C G 15 [(0, (2, l0)), (1, (0, l1)), (2, (0, l2)), (3, (0, l3)), (4, (0, l4))] [] S V nc ns := by
  have E := n_E h
  refine j_iload_n E d13_9_15 rfl 2 rfl ?_
  exact j_if_lt E d13_9_16 (t := 42) rfl (fun q => j_pick [0] rfl (k q)) (fun q => j_pick [0, 1, 2, 3, 4] rfl (k' q))
theorem t13_9_19 {C : qCx} {G : jG} {S : jS} {V : jH} {nc ns : Nat} {l0 l1 l2 l3 l4 : Int} (h : x13_9 C G)  (k : l3 < 0 → j_ok n_KT 6 C G 42 [(0, (2, l0))] [] S V nc ns) (k' : 0 ≤ l3 → j_ok n_KT 6 C G 23 [(0, (2, l0)), (1, (0, l1)), (2, (0, l2)), (3, (0, l3)), (4, (0, l4))] [] S V nc ns) : j_ok n_KT 6 C G 19 [(0, (2, l0)), (1, (0, l1)), (2, (0, l2)), (3, (0, l3)), (4, (0, l4))] [] S V nc ns := by
  have E := n_E h
  refine j_iload_n E d13_9_19 rfl 3 rfl ?_
  exact j_if_lt E d13_9_20 (t := 42) rfl (fun q => j_pick [0] rfl (k q)) (fun q => j_pick [0, 1, 2, 3, 4] rfl (k' q))
theorem t13_9_23 {C : qCx} {G : jG} {S : jS} {V : jH} {nc ns : Nat} {l0 l1 l2 l3 l4 : Int} (h : x13_9 C G) (L : j_L S) (c1 : -9223372036854775808 ≤ l2 + l3 ∧ l2 + l3 ≤ 9223372036854775807) (c2 : S.1 l0 = 33) (c3 : 0 ≤ l1) (c4 : l1 < 6) (k : l2 + l3 ≤ V (l0 + 2) l1 → j_ok n_KT 6 C G 48 [(0, (2, l0)), (1, (0, l1)), (2, (0, l2)), (3, (0, l3)), (4, (0, l4))] [] S V nc ns) (k' : V (l0 + 2) l1 < l2 + l3 → j_ok n_KT 6 C G 42 [(0, (2, l0))] [] S V nc ns) : j_ok n_KT 6 C G 23 [(0, (2, l0)), (1, (0, l1)), (2, (0, l2)), (3, (0, l3)), (4, (0, l4))] [] S V nc ns := by
  have E := n_E h
  refine j_iload_n E d13_9_23 rfl 2 rfl ?_
  refine j_i2l E d13_9_24 ?_
  refine j_iload_n E d13_9_25 rfl 3 rfl ?_
  refine j_i2l E d13_9_26 ?_
  refine j_ladd E d13_9_27 c1 ?_
  refine j_aload_n E d13_9_28 rfl 0 rfl ?_
  refine j_getS (f := 0) (x := l0 + 1) (fg12_10 h) d13_9_29 c2 (by decide) rfl rfl ((L12_0 L c2).trans (by omega)) ?_
  refine j_getS (f := 0) (x := l0 + 2) (fg12_86 h) d13_9_32 (show S.1 (l0 + 1) = 32 from (by have q := L12_0k L c2; rw [show l0 + 1 = l0 + 1 by omega]; exact q)) (by decide) rfl rfl ((L11_0 L (show S.1 (l0 + 1) = 32 from (by have q := L12_0k L c2; rw [show l0 + 1 = l0 + 1 by omega]; exact q))).trans (by omega)) ?_
  refine j_iload_n E d13_9_35 rfl 1 rfl ?_
  refine j_iald E d13_9_36 (j_arr_of (show S.1 (l0 + 2) = 8 from (by have q := L11_0k L (show S.1 (l0 + 1) = 32 from (by have q := L12_0k L c2; rw [show l0 + 1 = l0 + 1 by omega]; exact q)); rw [show l0 + 2 = (l0 + 1) + 1 by omega]; exact q)) (by decide) rfl) c3 c4 ?_
  refine j_i2l E d13_9_37 ?_
  refine j_lcmp E d13_9_38 ?_
  exact j_if_le E d13_9_39 (t := 48) rfl (fun q => j_pick [0, 1, 2, 3, 4] rfl (k (j_cmp_le.mp q))) (fun q => j_pick [0] rfl (k' (j_cmp_gt.mp q)))
theorem t13_9_42 {C : qCx} {G : jG} {S : jS} {V : jH} {nc ns : Nat} {l0 : Int} {mc ms : Nat} {pp : Int → Int → jS → jH → Prop} {qq : Int → Int → jS → jH → Int → jS → jH → Prop} (h : x13_9 C G) (hrm : C.2.2.2.1.frames = 3 ∧ C.2.2.2.1.locals = 71) (c1 : S.1 l0 = 33) (hM : M13_2 C.2.1 mc ms pp qq) (hp : pp l0 ((-1)) S V) (hc : nc + mc ≤ C.2.2.2.1.cells) (hs : ns + ms ≤ C.2.2.2.1.slots) (k : ∀ (r : Int) (S' : jS) (V' : jH), qq l0 ((-1)) S V r S' V' → j_ok n_KT 6 C G 47 [] [(0, r)] S' V' (nc + mc) (ns + ms)) : j_ok n_KT 6 C G 42 [(0, (2, l0))] [] S V nc ns := by
  have E := n_E h
  refine j_aload_n E d13_9_42 rfl 0 rfl ?_
  refine j_iconst E d13_9_43 (by decide) ?_
  refine j_call E (K13_9_44 h hrm hM) d13_9_44 (a := [(2, l0), (0, (-1))]) (sk := []) rfl ⟨l0, (-1), rfl, c1, hp⟩ (Nat.le_of_ble_eq_true rfl) hc hs ?_
  rintro rs S' V' ⟨z0, z1, r, e1, rfl, q⟩
  simp only [List.cons.injEq, Prod.mk.injEq, and_true, true_and] at e1
  obtain ⟨rfl, rfl⟩ := e1
  exact j_pick [] rfl (k r S' V' q)
theorem t13_9_47 {C : qCx} {G : jG} {S : jS} {V : jH} {nc ns : Nat} {s0 : Int} {mc ms : Nat} {qf : Int → jS → jH → Prop} (h : x13_9 C G)  (R : j_Ri n_KT 6 C G b_13_9 mc ms qf) (q : qf s0 S V) (hc : nc ≤ mc) (hs : ns ≤ ms) : j_ok n_KT 6 C G 47 [] [(0, s0)] S V nc ns := by
  have E := n_E h
  exact R _ _ _ _ _ _ _ d13_9_47 q hc hs
theorem t13_9_48 {C : qCx} {G : jG} {S : jS} {V : jH} {nc ns : Nat} {l0 l1 l2 l3 l4 : Int} (h : x13_9 C G) (L : j_L S) (c1 : S.1 l0 = 33) (c2 : 0 ≤ l4) (c3 : l4 < 6) (c4 : -2147483648 ≤ (V (l0 + 2) l4) + l3 ∧ (V (l0 + 2) l4) + l3 ≤ 2147483647) (k : (V (l0 + 2) l4) + l3 ≤ 400 → j_ok n_KT 6 C G 73 [(0, (2, l0)), (1, (0, l1)), (2, (0, l2)), (3, (0, l3)), (4, (0, l4))] [] S V nc ns) (k' : 400 < (V (l0 + 2) l4) + l3 → j_ok n_KT 6 C G 66 [(0, (2, l0))] [] S V nc ns) : j_ok n_KT 6 C G 48 [(0, (2, l0)), (1, (0, l1)), (2, (0, l2)), (3, (0, l3)), (4, (0, l4))] [] S V nc ns := by
  have E := n_E h
  refine j_aload_n E d13_9_48 rfl 0 rfl ?_
  refine j_getS (f := 0) (x := l0 + 1) (fg12_10 h) d13_9_49 c1 (by decide) rfl rfl ((L12_0 L c1).trans (by omega)) ?_
  refine j_getS (f := 0) (x := l0 + 2) (fg12_86 h) d13_9_52 (show S.1 (l0 + 1) = 32 from (by have q := L12_0k L c1; rw [show l0 + 1 = l0 + 1 by omega]; exact q)) (by decide) rfl rfl ((L11_0 L (show S.1 (l0 + 1) = 32 from (by have q := L12_0k L c1; rw [show l0 + 1 = l0 + 1 by omega]; exact q))).trans (by omega)) ?_
  refine j_iload E d13_9_55 4 rfl ?_
  refine j_iald E d13_9_57 (j_arr_of (show S.1 (l0 + 2) = 8 from (by have q := L11_0k L (show S.1 (l0 + 1) = 32 from (by have q := L12_0k L c1; rw [show l0 + 1 = l0 + 1 by omega]; exact q)); rw [show l0 + 2 = (l0 + 1) + 1 by omega]; exact q)) (by decide) rfl) c2 c3 ?_
  refine j_iload_n E d13_9_58 rfl 3 rfl ?_
  refine j_iadd E d13_9_59 c4 ?_
  refine j_sipush E d13_9_60 (by decide) ?_
  exact j_icmp_le E d13_9_63 (t := 73) rfl (fun q => j_pick [0, 1, 2, 3, 4] rfl (k q)) (fun q => j_pick [0] rfl (k' q))
theorem t13_9_66 {C : qCx} {G : jG} {S : jS} {V : jH} {nc ns : Nat} {l0 : Int} {mc ms : Nat} {pp : Int → Int → jS → jH → Prop} {qq : Int → Int → jS → jH → Int → jS → jH → Prop} (h : x13_9 C G) (hrm : C.2.2.2.1.frames = 3 ∧ C.2.2.2.1.locals = 71) (c1 : S.1 l0 = 33) (hM : M13_2 C.2.1 mc ms pp qq) (hp : pp l0 ((-2)) S V) (hc : nc + mc ≤ C.2.2.2.1.cells) (hs : ns + ms ≤ C.2.2.2.1.slots) (k : ∀ (r : Int) (S' : jS) (V' : jH), qq l0 ((-2)) S V r S' V' → j_ok n_KT 6 C G 72 [] [(0, r)] S' V' (nc + mc) (ns + ms)) : j_ok n_KT 6 C G 66 [(0, (2, l0))] [] S V nc ns := by
  have E := n_E h
  refine j_aload_n E d13_9_66 rfl 0 rfl ?_
  refine j_bipush E d13_9_67 (by decide) ?_
  refine j_call E (K13_9_69 h hrm hM) d13_9_69 (a := [(2, l0), (0, (-2))]) (sk := []) rfl ⟨l0, (-2), rfl, c1, hp⟩ (Nat.le_of_ble_eq_true rfl) hc hs ?_
  rintro rs S' V' ⟨z0, z1, r, e1, rfl, q⟩
  simp only [List.cons.injEq, Prod.mk.injEq, and_true, true_and] at e1
  obtain ⟨rfl, rfl⟩ := e1
  exact j_pick [] rfl (k r S' V' q)
theorem t13_9_72 {C : qCx} {G : jG} {S : jS} {V : jH} {nc ns : Nat} {s0 : Int} {mc ms : Nat} {qf : Int → jS → jH → Prop} (h : x13_9 C G)  (R : j_Ri n_KT 6 C G b_13_9 mc ms qf) (q : qf s0 S V) (hc : nc ≤ mc) (hs : ns ≤ ms) : j_ok n_KT 6 C G 72 [] [(0, s0)] S V nc ns := by
  have E := n_E h
  exact R _ _ _ _ _ _ _ d13_9_72 q hc hs
theorem t13_9_73 {C : qCx} {G : jG} {S : jS} {V : jH} {nc ns : Nat} {l0 l1 l2 l3 l4 : Int} (h : x13_9 C G)  (k : j_ok n_KT 6 C G 76 [(0, (2, l0)), (1, (0, l1)), (2, (0, l2)), (3, (0, l3)), (4, (0, l4)), (5, (0, 0))] [] S V nc ns) : j_ok n_KT 6 C G 73 [(0, (2, l0)), (1, (0, l1)), (2, (0, l2)), (3, (0, l3)), (4, (0, l4))] [] S V nc ns := by
  have E := n_E h
  refine j_iconst E d13_9_73 (by decide) ?_
  refine j_istore E d13_9_74 (by decide) (lo1 := [(0, (2, l0)), (1, (0, l1)), (2, (0, l2)), (3, (0, l3)), (4, (0, l4))]) rfl ?_
  exact j_pick [1, 2, 3, 4, 5, 0] rfl k
theorem t13_9_76 {C : qCx} {G : jG} {S : jS} {V : jH} {nc ns : Nat} {l0 l1 l2 l3 l4 l5 : Int} (h : x13_9 C G)  (k : l3 ≤ l5 → j_ok n_KT 6 C G 113 [(0, (2, l0)), (3, (0, l3)), (4, (0, l4))] [] S V nc ns) (k' : l5 < l3 → j_ok n_KT 6 C G 82 [(0, (2, l0)), (1, (0, l1)), (2, (0, l2)), (3, (0, l3)), (4, (0, l4)), (5, (0, l5))] [] S V nc ns) : j_ok n_KT 6 C G 76 [(0, (2, l0)), (1, (0, l1)), (2, (0, l2)), (3, (0, l3)), (4, (0, l4)), (5, (0, l5))] [] S V nc ns := by
  have E := n_E h
  refine j_iload E d13_9_76 5 rfl ?_
  refine j_iload_n E d13_9_78 rfl 3 rfl ?_
  exact j_icmp_ge E d13_9_79 (t := 113) rfl (fun q => j_pick [0, 3, 4] rfl (k q)) (fun q => j_pick [0, 1, 2, 3, 4, 5] rfl (k' q))
theorem t13_9_82 {C : qCx} {G : jG} {S : jS} {V : jH} {nc ns : Nat} {l0 l1 l2 l3 l4 l5 : Int} (h : x13_9 C G) (L : j_L S) (c1 : S.1 l0 = 33) (c2 : -2147483648 ≤ 400 * l1 ∧ 400 * l1 ≤ 2147483647) (c3 : -2147483648 ≤ (400 * l1) + l2 ∧ (400 * l1) + l2 ≤ 2147483647) (c4 : -2147483648 ≤ ((400 * l1) + l2) + l5 ∧ ((400 * l1) + l2) + l5 ≤ 2147483647) (c5 : 0 ≤ ((400 * l1) + l2) + l5) (c6 : ((400 * l1) + l2) + l5 < 2400) (c7 : 0 ≤ l5) (c8 : l5 < 400) (c9 : -2147483648 ≤ l5 + 1 ∧ l5 + 1 ≤ 2147483647) (k : j_ok n_KT 6 C G 76 [(0, (2, l0)), (1, (0, l1)), (2, (0, l2)), (3, (0, l3)), (4, (0, l4)), (5, (0, l5 + 1))] [] S (j_up V (l0 + 18) l5 (V (l0 + 3) (((400 * l1) + l2) + l5))) nc ns) : j_ok n_KT 6 C G 82 [(0, (2, l0)), (1, (0, l1)), (2, (0, l2)), (3, (0, l3)), (4, (0, l4)), (5, (0, l5))] [] S V nc ns := by
  have E := n_E h
  refine j_aload_n E d13_9_82 rfl 0 rfl ?_
  refine j_getS (f := 6) (x := l0 + 18) (fg12_23 h) d13_9_83 c1 (by decide) rfl rfl ((L12_6 L c1).trans (by omega)) ?_
  refine j_iload E d13_9_86 5 rfl ?_
  refine j_aload_n E d13_9_88 rfl 0 rfl ?_
  refine j_getS (f := 0) (x := l0 + 1) (fg12_10 h) d13_9_89 c1 (by decide) rfl rfl ((L12_0 L c1).trans (by omega)) ?_
  refine j_getS (f := 1) (x := l0 + 3) (fg12_89 h) d13_9_92 (show S.1 (l0 + 1) = 32 from (by have q := L12_0k L c1; rw [show l0 + 1 = l0 + 1 by omega]; exact q)) (by decide) rfl rfl ((L11_1 L (show S.1 (l0 + 1) = 32 from (by have q := L12_0k L c1; rw [show l0 + 1 = l0 + 1 by omega]; exact q))).trans (by omega)) ?_
  refine j_sipush E d13_9_95 (by decide) ?_
  refine j_iload_n E d13_9_98 rfl 1 rfl ?_
  refine j_imul E d13_9_99 c2 ?_
  refine j_iload_n E d13_9_100 rfl 2 rfl ?_
  refine j_iadd E d13_9_101 c3 ?_
  refine j_iload E d13_9_102 5 rfl ?_
  refine j_iadd E d13_9_104 c4 ?_
  refine j_iald E d13_9_105 (j_arr_of (show S.1 (l0 + 3) = 9 from (by have q := L11_1k L (show S.1 (l0 + 1) = 32 from (by have q := L12_0k L c1; rw [show l0 + 1 = l0 + 1 by omega]; exact q)); rw [show l0 + 3 = (l0 + 1) + 2 by omega]; exact q)) (by decide) rfl) c5 c6 ?_
  refine j_iast E d13_9_106 (j_arr_of (show S.1 (l0 + 18) = 1 from (by have q := L12_6k L c1; rw [show l0 + 18 = l0 + 18 by omega]; exact q)) (by decide) rfl) c7 c8 ?_
  refine j_iinc E d13_9_107 (by decide) (by decide) 5 rfl (lo1 := [(0, (2, l0)), (1, (0, l1)), (2, (0, l2)), (3, (0, l3)), (4, (0, l4))]) rfl c9 ?_
  refine j_goto E d13_9_110 (t := 76) rfl ?_
  exact j_pick [1, 2, 3, 4, 5, 0] rfl k
theorem t13_9_113 {C : qCx} {G : jG} {S : jS} {V : jH} {nc ns : Nat} {l0 l3 l4 : Int} (h : x13_9 C G)  (k : j_ok n_KT 6 C G 116 [(0, (2, l0)), (3, (0, l3)), (4, (0, l4)), (5, (0, 0))] [] S V nc ns) : j_ok n_KT 6 C G 113 [(0, (2, l0)), (3, (0, l3)), (4, (0, l4))] [] S V nc ns := by
  have E := n_E h
  refine j_iconst E d13_9_113 (by decide) ?_
  refine j_istore E d13_9_114 (by decide) (lo1 := [(0, (2, l0)), (3, (0, l3)), (4, (0, l4))]) rfl ?_
  exact j_pick [1, 2, 3, 0] rfl k
theorem t13_9_116 {C : qCx} {G : jG} {S : jS} {V : jH} {nc ns : Nat} {l0 l3 l4 l5 : Int} (h : x13_9 C G)  (k : l3 ≤ l5 → j_ok n_KT 6 C G 163 [(0, (2, l0)), (3, (0, l3)), (4, (0, l4))] [] S V nc ns) (k' : l5 < l3 → j_ok n_KT 6 C G 122 [(0, (2, l0)), (3, (0, l3)), (4, (0, l4)), (5, (0, l5))] [] S V nc ns) : j_ok n_KT 6 C G 116 [(0, (2, l0)), (3, (0, l3)), (4, (0, l4)), (5, (0, l5))] [] S V nc ns := by
  have E := n_E h
  refine j_iload E d13_9_116 3 rfl ?_
  refine j_iload_n E d13_9_118 rfl 1 rfl ?_
  exact j_icmp_ge E d13_9_119 (t := 163) rfl (fun q => j_pick [0, 1, 2] rfl (k q)) (fun q => j_pick [0, 1, 2, 3] rfl (k' q))
theorem t13_9_122 {C : qCx} {G : jG} {S : jS} {V : jH} {nc ns : Nat} {l0 l3 l4 l5 : Int} (h : x13_9 C G) (L : j_L S) (c1 : S.1 l0 = 33) (c2 : -2147483648 ≤ 400 * l4 ∧ 400 * l4 ≤ 2147483647) (c3 : 0 ≤ l4) (c4 : l4 < 6) (c5 : -2147483648 ≤ (400 * l4) + (V (l0 + 2) l4) ∧ (400 * l4) + (V (l0 + 2) l4) ≤ 2147483647) (c6 : -2147483648 ≤ ((400 * l4) + (V (l0 + 2) l4)) + l5 ∧ ((400 * l4) + (V (l0 + 2) l4)) + l5 ≤ 2147483647) (c7 : 0 ≤ l5) (c8 : l5 < 400) (c9 : 0 ≤ ((400 * l4) + (V (l0 + 2) l4)) + l5) (c10 : ((400 * l4) + (V (l0 + 2) l4)) + l5 < 2400) (c11 : -2147483648 ≤ l5 + 1 ∧ l5 + 1 ≤ 2147483647) (k : j_ok n_KT 6 C G 116 [(0, (2, l0)), (3, (0, l3)), (4, (0, l4)), (5, (0, l5 + 1))] [] S (j_up V (l0 + 3) (((400 * l4) + (V (l0 + 2) l4)) + l5) (V (l0 + 18) l5)) nc ns) : j_ok n_KT 6 C G 122 [(0, (2, l0)), (3, (0, l3)), (4, (0, l4)), (5, (0, l5))] [] S V nc ns := by
  have E := n_E h
  refine j_aload_n E d13_9_122 rfl 0 rfl ?_
  refine j_getS (f := 0) (x := l0 + 1) (fg12_10 h) d13_9_123 c1 (by decide) rfl rfl ((L12_0 L c1).trans (by omega)) ?_
  refine j_getS (f := 1) (x := l0 + 3) (fg12_89 h) d13_9_126 (show S.1 (l0 + 1) = 32 from (by have q := L12_0k L c1; rw [show l0 + 1 = l0 + 1 by omega]; exact q)) (by decide) rfl rfl ((L11_1 L (show S.1 (l0 + 1) = 32 from (by have q := L12_0k L c1; rw [show l0 + 1 = l0 + 1 by omega]; exact q))).trans (by omega)) ?_
  refine j_sipush E d13_9_129 (by decide) ?_
  refine j_iload E d13_9_132 2 rfl ?_
  refine j_imul E d13_9_134 c2 ?_
  refine j_aload_n E d13_9_135 rfl 0 rfl ?_
  refine j_getS (f := 0) (x := l0 + 1) (fg12_10 h) d13_9_136 c1 (by decide) rfl rfl ((L12_0 L c1).trans (by omega)) ?_
  refine j_getS (f := 0) (x := l0 + 2) (fg12_86 h) d13_9_139 (show S.1 (l0 + 1) = 32 from (by have q := L12_0k L c1; rw [show l0 + 1 = l0 + 1 by omega]; exact q)) (by decide) rfl rfl ((L11_0 L (show S.1 (l0 + 1) = 32 from (by have q := L12_0k L c1; rw [show l0 + 1 = l0 + 1 by omega]; exact q))).trans (by omega)) ?_
  refine j_iload E d13_9_142 2 rfl ?_
  refine j_iald E d13_9_144 (j_arr_of (show S.1 (l0 + 2) = 8 from (by have q := L11_0k L (show S.1 (l0 + 1) = 32 from (by have q := L12_0k L c1; rw [show l0 + 1 = l0 + 1 by omega]; exact q)); rw [show l0 + 2 = (l0 + 1) + 1 by omega]; exact q)) (by decide) rfl) c3 c4 ?_
  refine j_iadd E d13_9_145 c5 ?_
  refine j_iload E d13_9_146 3 rfl ?_
  refine j_iadd E d13_9_148 c6 ?_
  refine j_aload_n E d13_9_149 rfl 0 rfl ?_
  refine j_getS (f := 6) (x := l0 + 18) (fg12_23 h) d13_9_150 c1 (by decide) rfl rfl ((L12_6 L c1).trans (by omega)) ?_
  refine j_iload E d13_9_153 3 rfl ?_
  refine j_iald E d13_9_155 (j_arr_of (show S.1 (l0 + 18) = 1 from (by have q := L12_6k L c1; rw [show l0 + 18 = l0 + 18 by omega]; exact q)) (by decide) rfl) c7 c8 ?_
  refine j_iast E d13_9_156 (j_arr_of (show S.1 (l0 + 3) = 9 from (by have q := L11_1k L (show S.1 (l0 + 1) = 32 from (by have q := L12_0k L c1; rw [show l0 + 1 = l0 + 1 by omega]; exact q)); rw [show l0 + 3 = (l0 + 1) + 2 by omega]; exact q)) (by decide) rfl) c9 c10 ?_
  refine j_iinc E d13_9_157 (by decide) (by decide) 3 rfl (lo1 := [(0, (2, l0)), (3, (0, l3)), (4, (0, l4))]) rfl c11 ?_
  refine j_goto E d13_9_160 (t := 116) rfl ?_
  exact j_pick [1, 2, 3, 0] rfl k
theorem t13_9_163 {C : qCx} {G : jG} {S : jS} {V : jH} {nc ns : Nat} {l0 l3 l4 : Int} {mc ms : Nat} {qf : Int → jS → jH → Prop} (h : x13_9 C G) (L : j_L S) (c1 : S.1 l0 = 33) (c2 : 0 ≤ l4) (c3 : l4 < 6) (c4 : -2147483648 ≤ (V (l0 + 2) l4) + l3 ∧ (V (l0 + 2) l4) + l3 ≤ 2147483647) (R : j_Ri n_KT 6 C G b_13_9 mc ms qf) (q : qf ((V (l0 + 2) l4) + l3) S (j_up V (l0 + 2) l4 ((V (l0 + 2) l4) + l3))) (hc : nc ≤ mc) (hs : ns ≤ ms) : j_ok n_KT 6 C G 163 [(0, (2, l0)), (3, (0, l3)), (4, (0, l4))] [] S V nc ns := by
  have E := n_E h
  refine j_aload_n E d13_9_163 rfl 0 rfl ?_
  refine j_getS (f := 0) (x := l0 + 1) (fg12_10 h) d13_9_164 c1 (by decide) rfl rfl ((L12_0 L c1).trans (by omega)) ?_
  refine j_getS (f := 0) (x := l0 + 2) (fg12_86 h) d13_9_167 (show S.1 (l0 + 1) = 32 from (by have q := L12_0k L c1; rw [show l0 + 1 = l0 + 1 by omega]; exact q)) (by decide) rfl rfl ((L11_0 L (show S.1 (l0 + 1) = 32 from (by have q := L12_0k L c1; rw [show l0 + 1 = l0 + 1 by omega]; exact q))).trans (by omega)) ?_
  refine j_iload E d13_9_170 2 rfl ?_
  refine j_dup2 E d13_9_172 rfl rfl ?_
  refine j_iald E d13_9_173 (j_arr_of (show S.1 (l0 + 2) = 8 from (by have q := L11_0k L (show S.1 (l0 + 1) = 32 from (by have q := L12_0k L c1; rw [show l0 + 1 = l0 + 1 by omega]; exact q)); rw [show l0 + 2 = (l0 + 1) + 1 by omega]; exact q)) (by decide) rfl) c2 c3 ?_
  refine j_iload_n E d13_9_174 rfl 1 rfl ?_
  refine j_iadd E d13_9_175 c4 ?_
  refine j_iast E d13_9_176 (j_arr_of (show S.1 (l0 + 2) = 8 from (by have q := L11_0k L (show S.1 (l0 + 1) = 32 from (by have q := L12_0k L c1; rw [show l0 + 1 = l0 + 1 by omega]; exact q)); rw [show l0 + 2 = (l0 + 1) + 1 by omega]; exact q)) (by decide) rfl) c2 c3 ?_
  refine j_aload_n E d13_9_177 rfl 0 rfl ?_
  refine j_getS (f := 0) (x := l0 + 1) (fg12_10 h) d13_9_178 c1 (by decide) rfl rfl ((L12_0 L c1).trans (by omega)) ?_
  refine j_getS (f := 0) (x := l0 + 2) (fg12_86 h) d13_9_181 (show S.1 (l0 + 1) = 32 from (by have q := L12_0k L c1; rw [show l0 + 1 = l0 + 1 by omega]; exact q)) (by decide) rfl rfl ((L11_0 L (show S.1 (l0 + 1) = 32 from (by have q := L12_0k L c1; rw [show l0 + 1 = l0 + 1 by omega]; exact q))).trans (by omega)) ?_
  refine j_iload E d13_9_184 2 rfl ?_
  refine j_iald E d13_9_186 (j_arr_of (show S.1 (l0 + 2) = 8 from (by have q := L11_0k L (show S.1 (l0 + 1) = 32 from (by have q := L12_0k L c1; rw [show l0 + 1 = l0 + 1 by omega]; exact q)); rw [show l0 + 2 = (l0 + 1) + 1 by omega]; exact q)) (by decide) rfl) c2 c3 ?_
  refine j_eqT (show (j_up V (l0 + 2) l4 ((V (l0 + 2) l4) + l3)) (l0 + 2) l4 = (V (l0 + 2) l4) + l3 from (j_up_at _ _ _ _)) ?_
  exact R _ _ _ _ _ _ _ d13_9_187 q hc hs
/- BalanceCoderModel.table(II)I -/
abbrev b_13_10 : ByteArray := prog_13_method_10_code
def y_13_10 : MethodName := ⟨"BalanceCoderModel", "table", "(II)I"⟩
abbrev x13_10 (C : qCx) (G : jG) : Prop := n_ctx C b_13_10 5 "BalanceCoderModel" G.1 G.2.1
def M13_10 (l : Launch) (mc ms : Nat) (p : Int → Int → Int → jS → jH → Prop) (q : Int → Int → Int → jS → jH → Int → jS → jH → Prop) : Prop := j_Met l vwCl n_TL n_NW n_KT y_13_10 (Cond.code y_13_10 b_13_10 5 (some .int) :: n_GW) { frames := 2, cells := mc, slots := ms, locals := 51 } mc ms (fun a S V => ∃ u0 u1 u2 : Int, a = [(2, u0), (0, u1), (0, u2)] ∧ S.1 u0 = 33 ∧ p u0 u1 u2 S V) (fun a S V rs S' V' => ∃ u0 u1 u2 r : Int, a = [(2, u0), (0, u1), (0, u2)] ∧ rs = [(0, r)] ∧ q u0 u1 u2 S V r S' V')
theorem e13_10 {l : Launch} {mc ms : Nat} {p : Int → Int → Int → jS → jH → Prop} {q : Int → Int → Int → jS → jH → Int → jS → jH → Prop} (body : ∀ (C : qCx) (G : jG), x13_10 C G → C.2.2.2.1.frames = 2 ∧ C.2.2.2.1.locals = 51 → C.2.2.2.1.cells = mc ∧ C.2.2.2.1.slots = ms → C.2.1 = l → C.2.2.2.2.2.2.2.2.1.name = "table" → ∀ (u0 u1 u2 : Int) (S : jS) (V : jH), S.1 u0 = 33 → p u0 u1 u2 S V → j_Ri n_KT 5 C G b_13_10 mc ms (q u0 u1 u2 S V) → j_ok n_KT 5 C G 0 [(0, (2, u0)), (1, (0, u1)), (2, (0, u2))] [] S V 0 0) : M13_10 l mc ms p q := by
  refine j_method (ws' := n_GW) (by decide) rfl ?_ ?_
  · rintro a S V ⟨u0, u1, u2, rfl, -⟩
    exact Nat.le_of_ble_eq_true rfl
  · rintro C G htl hl hrm hm hml ho hts hnm hE a S V ⟨u0, u1, u2, rfl, ht, hp⟩ R
    exact body C G ⟨htl, hm, hml, ho, fun w hw => hts w (List.mem_cons_of_mem _ hw), hE⟩ (by rw [hrm]; exact ⟨rfl, rfl⟩) (by rw [hrm]; exact ⟨rfl, rfl⟩) hl hnm u0 u1 u2 S V ht hp (fun pc lo r S' V' nc ns d q hc hs => R.2.1 rfl pc lo r S' V' nc ns d ⟨u0, u1, u2, r, rfl, rfl, q⟩ hc hs)
theorem d13_10_0 : decode b_13_10 0 = .ok (.iload_n 1, 1) := by decide +kernel
theorem d13_10_1 : decode b_13_10 1 = .ok (.i2l, 1) := by decide +kernel
theorem d13_10_2 : decode b_13_10 2 = .ok (.lconst 0, 1) := by decide +kernel
theorem d13_10_3 : decode b_13_10 3 = .ok (.ldc2_w 96, 3) := by decide +kernel
theorem d13_10_6 : decode b_13_10 6 = .ok (.invokestatic 69, 3) := by decide +kernel
theorem d13_10_9 : decode b_13_10 9 = .ok (.ifCond .eq 17, 3) := by decide +kernel
theorem d13_10_12 : decode b_13_10 12 = .ok (.iload_n 2, 1) := by decide +kernel
theorem d13_10_13 : decode b_13_10 13 = .ok (.i2l, 1) := by decide +kernel
theorem d13_10_14 : decode b_13_10 14 = .ok (.ldc2_w 80, 3) := by decide +kernel
theorem d13_10_17 : decode b_13_10 17 = .ok (.ldc2_w 98, 3) := by decide +kernel
theorem d13_10_20 : decode b_13_10 20 = .ok (.invokestatic 69, 3) := by decide +kernel
theorem d13_10_23 : decode b_13_10 23 = .ok (.ifCond .ne 9, 3) := by decide +kernel
theorem d13_10_26 : decode b_13_10 26 = .ok (.aload_n 0, 1) := by decide +kernel
theorem d13_10_27 : decode b_13_10 27 = .ok (.iconst (-1), 1) := by decide +kernel
theorem d13_10_28 : decode b_13_10 28 = .ok (.invokevirtual 82, 3) := by decide +kernel
theorem d13_10_31 : decode b_13_10 31 = .ok (.ireturn, 1) := by decide +kernel
theorem d13_10_32 : decode b_13_10 32 = .ok (.aload_n 0, 1) := by decide +kernel
theorem d13_10_33 : decode b_13_10 33 = .ok (.getfield 10, 3) := by decide +kernel
theorem d13_10_36 : decode b_13_10 36 = .ok (.getfield 73, 3) := by decide +kernel
theorem d13_10_39 : decode b_13_10 39 = .ok (.bipush 10, 2) := by decide +kernel
theorem d13_10_41 : decode b_13_10 41 = .ok (.if_icmp .ne 10, 3) := by decide +kernel
theorem d13_10_44 : decode b_13_10 44 = .ok (.aload_n 0, 1) := by decide +kernel
theorem d13_10_45 : decode b_13_10 45 = .ok (.bipush (-2), 2) := by decide +kernel
theorem d13_10_47 : decode b_13_10 47 = .ok (.invokevirtual 82, 3) := by decide +kernel
theorem d13_10_50 : decode b_13_10 50 = .ok (.ireturn, 1) := by decide +kernel
theorem d13_10_51 : decode b_13_10 51 = .ok (.aload_n 0, 1) := by decide +kernel
theorem d13_10_52 : decode b_13_10 52 = .ok (.getfield 10, 3) := by decide +kernel
theorem d13_10_55 : decode b_13_10 55 = .ok (.getfield 73, 3) := by decide +kernel
theorem d13_10_58 : decode b_13_10 58 = .ok (.istore_n 3, 1) := by decide +kernel
theorem d13_10_59 : decode b_13_10 59 = .ok (.aload_n 0, 1) := by decide +kernel
theorem d13_10_60 : decode b_13_10 60 = .ok (.getfield 10, 3) := by decide +kernel
theorem d13_10_63 : decode b_13_10 63 = .ok (.getfield 100, 3) := by decide +kernel
theorem d13_10_66 : decode b_13_10 66 = .ok (.iload_n 3, 1) := by decide +kernel
theorem d13_10_67 : decode b_13_10 67 = .ok (.iload_n 1, 1) := by decide +kernel
theorem d13_10_68 : decode b_13_10 68 = .ok (.iastore, 1) := by decide +kernel
theorem d13_10_69 : decode b_13_10 69 = .ok (.aload_n 0, 1) := by decide +kernel
theorem d13_10_70 : decode b_13_10 70 = .ok (.getfield 10, 3) := by decide +kernel
theorem d13_10_73 : decode b_13_10 73 = .ok (.getfield 103, 3) := by decide +kernel
theorem d13_10_76 : decode b_13_10 76 = .ok (.iload_n 3, 1) := by decide +kernel
theorem d13_10_77 : decode b_13_10 77 = .ok (.iload_n 2, 1) := by decide +kernel
theorem d13_10_78 : decode b_13_10 78 = .ok (.iastore, 1) := by decide +kernel
theorem d13_10_79 : decode b_13_10 79 = .ok (.aload_n 0, 1) := by decide +kernel
theorem d13_10_80 : decode b_13_10 80 = .ok (.getfield 10, 3) := by decide +kernel
theorem d13_10_83 : decode b_13_10 83 = .ok (.getfield 106, 3) := by decide +kernel
theorem d13_10_86 : decode b_13_10 86 = .ok (.iload_n 3, 1) := by decide +kernel
theorem d13_10_87 : decode b_13_10 87 = .ok (.iconst 0, 1) := by decide +kernel
theorem d13_10_88 : decode b_13_10 88 = .ok (.bastore, 1) := by decide +kernel
theorem d13_10_89 : decode b_13_10 89 = .ok (.iconst 0, 1) := by decide +kernel
theorem d13_10_90 : decode b_13_10 90 = .ok (.istore 4, 2) := by decide +kernel
theorem d13_10_92 : decode b_13_10 92 = .ok (.iload 4, 2) := by decide +kernel
theorem d13_10_94 : decode b_13_10 94 = .ok (.sipush 1024, 3) := by decide +kernel
theorem d13_10_97 : decode b_13_10 97 = .ok (.if_icmp .ge 45, 3) := by decide +kernel
theorem d13_10_100 : decode b_13_10 100 = .ok (.aload_n 0, 1) := by decide +kernel
theorem d13_10_101 : decode b_13_10 101 = .ok (.getfield 10, 3) := by decide +kernel
theorem d13_10_104 : decode b_13_10 104 = .ok (.getfield 110, 3) := by decide +kernel
theorem d13_10_107 : decode b_13_10 107 = .ok (.sipush 1024, 3) := by decide +kernel
theorem d13_10_110 : decode b_13_10 110 = .ok (.iload_n 3, 1) := by decide +kernel
theorem d13_10_111 : decode b_13_10 111 = .ok (.imul, 1) := by decide +kernel
theorem d13_10_112 : decode b_13_10 112 = .ok (.iload 4, 2) := by decide +kernel
theorem d13_10_114 : decode b_13_10 114 = .ok (.iadd, 1) := by decide +kernel
theorem d13_10_115 : decode b_13_10 115 = .ok (.iload_n 1, 1) := by decide +kernel
theorem d13_10_116 : decode b_13_10 116 = .ok (.iconst 1, 1) := by decide +kernel
theorem d13_10_117 : decode b_13_10 117 = .ok (.if_icmp .eq 8, 3) := by decide +kernel
theorem d13_10_120 : decode b_13_10 120 = .ok (.iload_n 1, 1) := by decide +kernel
theorem d13_10_121 : decode b_13_10 121 = .ok (.iconst 4, 1) := by decide +kernel
theorem d13_10_122 : decode b_13_10 122 = .ok (.if_icmp .ne 12, 3) := by decide +kernel
theorem d13_10_125 : decode b_13_10 125 = .ok (.iconst 1, 1) := by decide +kernel
theorem d13_10_126 : decode b_13_10 126 = .ok (.iload_n 2, 1) := by decide +kernel
theorem d13_10_127 : decode b_13_10 127 = .ok (.bipush 8, 2) := by decide +kernel
theorem d13_10_129 : decode b_13_10 129 = .ok (.isub, 1) := by decide +kernel
theorem d13_10_130 : decode b_13_10 130 = .ok (.ishl, 1) := by decide +kernel
theorem d13_10_131 : decode b_13_10 131 = .ok (.goto 4, 3) := by decide +kernel
theorem d13_10_134 : decode b_13_10 134 = .ok (.iconst 0, 1) := by decide +kernel
theorem d13_10_135 : decode b_13_10 135 = .ok (.iastore, 1) := by decide +kernel
theorem d13_10_136 : decode b_13_10 136 = .ok (.iinc 4 1, 3) := by decide +kernel
theorem d13_10_139 : decode b_13_10 139 = .ok (.goto (-47), 3) := by decide +kernel
theorem d13_10_142 : decode b_13_10 142 = .ok (.aload_n 0, 1) := by decide +kernel
theorem d13_10_143 : decode b_13_10 143 = .ok (.getfield 10, 3) := by decide +kernel
theorem d13_10_146 : decode b_13_10 146 = .ok (.dup, 1) := by decide +kernel
theorem d13_10_147 : decode b_13_10 147 = .ok (.getfield 73, 3) := by decide +kernel
theorem d13_10_150 : decode b_13_10 150 = .ok (.iconst 1, 1) := by decide +kernel
theorem d13_10_151 : decode b_13_10 151 = .ok (.iadd, 1) := by decide +kernel
theorem d13_10_152 : decode b_13_10 152 = .ok (.putfield 73, 3) := by decide +kernel
theorem d13_10_155 : decode b_13_10 155 = .ok (.iload_n 3, 1) := by decide +kernel
theorem d13_10_156 : decode b_13_10 156 = .ok (.ireturn, 1) := by decide +kernel
theorem K13_10_6 {C : qCx} {G : jG} {mc ms : Nat} {p : Int → Int → Int → jS → jH → Prop} {q : Int → Int → Int → jS → jH → Int → jS → jH → Prop} (h : x13_10 C G) (hrm : C.2.2.2.1.frames = 2 ∧ C.2.2.2.1.locals = 51) (hM : M13_3 C.2.1 mc ms p q) : j_Call C b_13_10 n_KT G.1 G.2.1 5 (.invokestatic 69) mc ms (fun a S V => ∃ u0 u1 u2 : Int, a = [(1, u0), (1, u1), (1, u2)] ∧ p u0 u1 u2 S V) (fun a S V rs S' V' => ∃ u0 u1 u2 r : Int, a = [(1, u0), (1, u1), (1, u2)] ∧ rs = [(0, r)] ∧ q u0 u1 u2 S V r S' V') := j_callS n_NWk h.2.2.2.2.2 h.1 hM ⟨h.2.1.1, h.2.1.2, h.2.2.1, h.2.2.2.1, h.2.2.2.2.1⟩ ⟨n_CB (y := y_13_3) (bytes := b_13_3) 3 h.2.2.2.2.1 n_w923 n_w921 n_w12 ⟨by decide, by decide, by decide +kernel⟩ rfl rfl ⟨by rw [hrm.1]; exact Nat.le_of_ble_eq_true rfl, by rw [hrm.2]; exact Nat.le_of_ble_eq_true rfl⟩, h.2.2.2.2.1 _ n_w922⟩ (fun a S V hP => by obtain ⟨u0, u1, u2, rfl, -⟩ := hP; rfl)
theorem K13_10_20 {C : qCx} {G : jG} {mc ms : Nat} {p : Int → Int → Int → jS → jH → Prop} {q : Int → Int → Int → jS → jH → Int → jS → jH → Prop} (h : x13_10 C G) (hrm : C.2.2.2.1.frames = 2 ∧ C.2.2.2.1.locals = 51) (hM : M13_3 C.2.1 mc ms p q) : j_Call C b_13_10 n_KT G.1 G.2.1 5 (.invokestatic 69) mc ms (fun a S V => ∃ u0 u1 u2 : Int, a = [(1, u0), (1, u1), (1, u2)] ∧ p u0 u1 u2 S V) (fun a S V rs S' V' => ∃ u0 u1 u2 r : Int, a = [(1, u0), (1, u1), (1, u2)] ∧ rs = [(0, r)] ∧ q u0 u1 u2 S V r S' V') := j_callS n_NWk h.2.2.2.2.2 h.1 hM ⟨h.2.1.1, h.2.1.2, h.2.2.1, h.2.2.2.1, h.2.2.2.2.1⟩ ⟨n_CB (y := y_13_3) (bytes := b_13_3) 3 h.2.2.2.2.1 n_w923 n_w921 n_w12 ⟨by decide, by decide, by decide +kernel⟩ rfl rfl ⟨by rw [hrm.1]; exact Nat.le_of_ble_eq_true rfl, by rw [hrm.2]; exact Nat.le_of_ble_eq_true rfl⟩, h.2.2.2.2.1 _ n_w922⟩ (fun a S V hP => by obtain ⟨u0, u1, u2, rfl, -⟩ := hP; rfl)
theorem K13_10_28 {C : qCx} {G : jG} {mc ms : Nat} {p : Int → Int → jS → jH → Prop} {q : Int → Int → jS → jH → Int → jS → jH → Prop} (h : x13_10 C G) (hrm : C.2.2.2.1.frames = 2 ∧ C.2.2.2.1.locals = 51) (hM : M13_2 C.2.1 mc ms p q) : j_Call C b_13_10 n_KT G.1 G.2.1 5 (.invokevirtual 82) mc ms (fun a S V => ∃ u0 u1 : Int, a = [(2, u0), (0, u1)] ∧ S.1 u0 = 33 ∧ p u0 u1 S V) (fun a S V rs S' V' => ∃ u0 u1 r : Int, a = [(2, u0), (0, u1)] ∧ rs = [(0, r)] ∧ q u0 u1 S V r S' V') := j_callV n_NWk h.2.2.2.2.2 h.1 hM ⟨h.2.1.1, h.2.1.2, h.2.2.1, h.2.2.2.1, h.2.2.2.2.1⟩ ⟨n_CB (y := y_13_2) (bytes := b_13_2) 1 h.2.2.2.2.1 n_w928 n_w925 n_w12 ⟨by decide, by decide, by decide +kernel⟩ rfl rfl ⟨by rw [hrm.1]; exact Nat.le_of_ble_eq_true rfl, by rw [hrm.2]; exact Nat.le_of_ble_eq_true rfl⟩, h.2.2.2.2.1 _ n_w927, h.2.2.2.2.1 _ n_s27⟩ (Cn := RX12) (fun a S V hP => by obtain ⟨u0, u1, rfl, e, -⟩ := hP; exact ⟨u0, _, 12, _, _, TX12, 31, rfl, rfl, by rw [e]; decide, by rw [e]; rfl, rfl⟩)
theorem K13_10_47 {C : qCx} {G : jG} {mc ms : Nat} {p : Int → Int → jS → jH → Prop} {q : Int → Int → jS → jH → Int → jS → jH → Prop} (h : x13_10 C G) (hrm : C.2.2.2.1.frames = 2 ∧ C.2.2.2.1.locals = 51) (hM : M13_2 C.2.1 mc ms p q) : j_Call C b_13_10 n_KT G.1 G.2.1 5 (.invokevirtual 82) mc ms (fun a S V => ∃ u0 u1 : Int, a = [(2, u0), (0, u1)] ∧ S.1 u0 = 33 ∧ p u0 u1 S V) (fun a S V rs S' V' => ∃ u0 u1 r : Int, a = [(2, u0), (0, u1)] ∧ rs = [(0, r)] ∧ q u0 u1 S V r S' V') := j_callV n_NWk h.2.2.2.2.2 h.1 hM ⟨h.2.1.1, h.2.1.2, h.2.2.1, h.2.2.2.1, h.2.2.2.2.1⟩ ⟨n_CB (y := y_13_2) (bytes := b_13_2) 1 h.2.2.2.2.1 n_w928 n_w925 n_w12 ⟨by decide, by decide, by decide +kernel⟩ rfl rfl ⟨by rw [hrm.1]; exact Nat.le_of_ble_eq_true rfl, by rw [hrm.2]; exact Nat.le_of_ble_eq_true rfl⟩, h.2.2.2.2.1 _ n_w927, h.2.2.2.2.1 _ n_s27⟩ (Cn := RX12) (fun a S V hP => by obtain ⟨u0, u1, rfl, e, -⟩ := hP; exact ⟨u0, _, 12, _, _, TX12, 31, rfl, rfl, by rw [e]; decide, by rw [e]; rfl, rfl⟩)
theorem t13_10_0 {C : qCx} {G : jG} {S : jS} {V : jH} {nc ns : Nat} {l0 l1 l2 : Int} {mc ms : Nat} {pp : Int → Int → Int → jS → jH → Prop} {qq : Int → Int → Int → jS → jH → Int → jS → jH → Prop} (h : x13_10 C G) (hrm : C.2.2.2.1.frames = 2 ∧ C.2.2.2.1.locals = 51)  (hM : M13_3 C.2.1 mc ms pp qq) (hp : pp l1 0 4 S V) (hc : nc + mc ≤ C.2.2.2.1.cells) (hs : ns + ms ≤ C.2.2.2.1.slots) (k : ∀ (r : Int) (S' : jS) (V' : jH), qq l1 0 4 S V r S' V' → j_ok n_KT 5 C G 9 [(0, (2, l0)), (1, (0, l1)), (2, (0, l2))] [(0, r)] S' V' (nc + mc) (ns + ms)) : j_ok n_KT 5 C G 0 [(0, (2, l0)), (1, (0, l1)), (2, (0, l2))] [] S V nc ns := by
  have E := n_E h
  refine j_iload_n E d13_10_0 rfl 1 rfl ?_
  refine j_i2l E d13_10_1 ?_
  refine j_lconst E d13_10_2 ?_
  refine j_ldc2 (n := 4) (fl12_96 h) rfl d13_10_3 ?_
  refine j_call E (K13_10_6 h hrm hM) d13_10_6 (a := [(1, l1), (1, 0), (1, 4)]) (sk := []) rfl ⟨l1, 0, 4, rfl, hp⟩ (Nat.le_of_ble_eq_true rfl) hc hs ?_
  rintro rs S' V' ⟨z0, z1, z2, r, e1, rfl, q⟩
  simp only [List.cons.injEq, Prod.mk.injEq, and_true, true_and] at e1
  obtain ⟨rfl, rfl, rfl⟩ := e1
  exact j_pick [0, 1, 2] rfl (k r S' V' q)
theorem t13_10_9 {C : qCx} {G : jG} {S : jS} {V : jH} {nc ns : Nat} {l0 l1 l2 s0 : Int} (h : x13_10 C G)  (k : s0 = 0 → j_ok n_KT 5 C G 26 [(0, (2, l0))] [] S V nc ns) (k' : ¬ s0 = 0 → j_ok n_KT 5 C G 12 [(0, (2, l0)), (1, (0, l1)), (2, (0, l2))] [] S V nc ns) : j_ok n_KT 5 C G 9 [(0, (2, l0)), (1, (0, l1)), (2, (0, l2))] [(0, s0)] S V nc ns := by
  have E := n_E h
  exact j_if_eq E d13_10_9 (t := 26) rfl (fun q => j_pick [0] rfl (k q)) (fun q => j_pick [0, 1, 2] rfl (k' q))
theorem t13_10_12 {C : qCx} {G : jG} {S : jS} {V : jH} {nc ns : Nat} {l0 l1 l2 : Int} {mc ms : Nat} {pp : Int → Int → Int → jS → jH → Prop} {qq : Int → Int → Int → jS → jH → Int → jS → jH → Prop} (h : x13_10 C G) (hrm : C.2.2.2.1.frames = 2 ∧ C.2.2.2.1.locals = 51)  (hM : M13_3 C.2.1 mc ms pp qq) (hp : pp l2 8 12 S V) (hc : nc + mc ≤ C.2.2.2.1.cells) (hs : ns + ms ≤ C.2.2.2.1.slots) (k : ∀ (r : Int) (S' : jS) (V' : jH), qq l2 8 12 S V r S' V' → j_ok n_KT 5 C G 23 [(0, (2, l0)), (1, (0, l1)), (2, (0, l2))] [(0, r)] S' V' (nc + mc) (ns + ms)) : j_ok n_KT 5 C G 12 [(0, (2, l0)), (1, (0, l1)), (2, (0, l2))] [] S V nc ns := by
  have E := n_E h
  refine j_iload_n E d13_10_12 rfl 2 rfl ?_
  refine j_i2l E d13_10_13 ?_
  refine j_ldc2 (n := 8) (fl12_80 h) rfl d13_10_14 ?_
  refine j_ldc2 (n := 12) (fl12_98 h) rfl d13_10_17 ?_
  refine j_call E (K13_10_20 h hrm hM) d13_10_20 (a := [(1, l2), (1, 8), (1, 12)]) (sk := []) rfl ⟨l2, 8, 12, rfl, hp⟩ (Nat.le_of_ble_eq_true rfl) hc hs ?_
  rintro rs S' V' ⟨z0, z1, z2, r, e1, rfl, q⟩
  simp only [List.cons.injEq, Prod.mk.injEq, and_true, true_and] at e1
  obtain ⟨rfl, rfl, rfl⟩ := e1
  exact j_pick [0, 1, 2] rfl (k r S' V' q)
theorem t13_10_23 {C : qCx} {G : jG} {S : jS} {V : jH} {nc ns : Nat} {l0 l1 l2 s0 : Int} (h : x13_10 C G)  (k : ¬ s0 = 0 → j_ok n_KT 5 C G 32 [(0, (2, l0)), (1, (0, l1)), (2, (0, l2))] [] S V nc ns) (k' : s0 = 0 → j_ok n_KT 5 C G 26 [(0, (2, l0))] [] S V nc ns) : j_ok n_KT 5 C G 23 [(0, (2, l0)), (1, (0, l1)), (2, (0, l2))] [(0, s0)] S V nc ns := by
  have E := n_E h
  exact j_if_ne E d13_10_23 (t := 32) rfl (fun q => j_pick [0, 1, 2] rfl (k q)) (fun q => j_pick [0] rfl (k' q))
theorem t13_10_26 {C : qCx} {G : jG} {S : jS} {V : jH} {nc ns : Nat} {l0 : Int} {mc ms : Nat} {pp : Int → Int → jS → jH → Prop} {qq : Int → Int → jS → jH → Int → jS → jH → Prop} (h : x13_10 C G) (hrm : C.2.2.2.1.frames = 2 ∧ C.2.2.2.1.locals = 51) (c1 : S.1 l0 = 33) (hM : M13_2 C.2.1 mc ms pp qq) (hp : pp l0 ((-1)) S V) (hc : nc + mc ≤ C.2.2.2.1.cells) (hs : ns + ms ≤ C.2.2.2.1.slots) (k : ∀ (r : Int) (S' : jS) (V' : jH), qq l0 ((-1)) S V r S' V' → j_ok n_KT 5 C G 31 [] [(0, r)] S' V' (nc + mc) (ns + ms)) : j_ok n_KT 5 C G 26 [(0, (2, l0))] [] S V nc ns := by
  have E := n_E h
  refine j_aload_n E d13_10_26 rfl 0 rfl ?_
  refine j_iconst E d13_10_27 (by decide) ?_
  refine j_call E (K13_10_28 h hrm hM) d13_10_28 (a := [(2, l0), (0, (-1))]) (sk := []) rfl ⟨l0, (-1), rfl, c1, hp⟩ (Nat.le_of_ble_eq_true rfl) hc hs ?_
  rintro rs S' V' ⟨z0, z1, r, e1, rfl, q⟩
  simp only [List.cons.injEq, Prod.mk.injEq, and_true, true_and] at e1
  obtain ⟨rfl, rfl⟩ := e1
  exact j_pick [] rfl (k r S' V' q)
theorem t13_10_31 {C : qCx} {G : jG} {S : jS} {V : jH} {nc ns : Nat} {s0 : Int} {mc ms : Nat} {qf : Int → jS → jH → Prop} (h : x13_10 C G)  (R : j_Ri n_KT 5 C G b_13_10 mc ms qf) (q : qf s0 S V) (hc : nc ≤ mc) (hs : ns ≤ ms) : j_ok n_KT 5 C G 31 [] [(0, s0)] S V nc ns := by
  have E := n_E h
  exact R _ _ _ _ _ _ _ d13_10_31 q hc hs
theorem t13_10_32 {C : qCx} {G : jG} {S : jS} {V : jH} {nc ns : Nat} {l0 l1 l2 : Int} (h : x13_10 C G) (L : j_L S) (c1 : S.1 l0 = 33) (k : ¬ V (l0 + 1) 2 = 10 → j_ok n_KT 5 C G 51 [(0, (2, l0)), (1, (0, l1)), (2, (0, l2))] [] S V nc ns) (k' : V (l0 + 1) 2 = 10 → j_ok n_KT 5 C G 44 [(0, (2, l0))] [] S V nc ns) : j_ok n_KT 5 C G 32 [(0, (2, l0)), (1, (0, l1)), (2, (0, l2))] [] S V nc ns := by
  have E := n_E h
  refine j_aload_n E d13_10_32 rfl 0 rfl ?_
  refine j_getS (f := 0) (x := l0 + 1) (fg12_10 h) d13_10_33 c1 (by decide) rfl rfl ((L12_0 L c1).trans (by omega)) ?_
  refine j_getI (f := 2) (fg12_73 h) d13_10_36 (show S.1 (l0 + 1) = 32 from (by have q := L12_0k L c1; rw [show l0 + 1 = l0 + 1 by omega]; exact q)) (by decide) rfl rfl ?_
  refine j_bipush E d13_10_39 (by decide) ?_
  exact j_icmp_ne E d13_10_41 (t := 51) rfl (fun q => j_pick [0, 1, 2] rfl (k q)) (fun q => j_pick [0] rfl (k' q))
theorem t13_10_44 {C : qCx} {G : jG} {S : jS} {V : jH} {nc ns : Nat} {l0 : Int} {mc ms : Nat} {pp : Int → Int → jS → jH → Prop} {qq : Int → Int → jS → jH → Int → jS → jH → Prop} (h : x13_10 C G) (hrm : C.2.2.2.1.frames = 2 ∧ C.2.2.2.1.locals = 51) (c1 : S.1 l0 = 33) (hM : M13_2 C.2.1 mc ms pp qq) (hp : pp l0 ((-2)) S V) (hc : nc + mc ≤ C.2.2.2.1.cells) (hs : ns + ms ≤ C.2.2.2.1.slots) (k : ∀ (r : Int) (S' : jS) (V' : jH), qq l0 ((-2)) S V r S' V' → j_ok n_KT 5 C G 50 [] [(0, r)] S' V' (nc + mc) (ns + ms)) : j_ok n_KT 5 C G 44 [(0, (2, l0))] [] S V nc ns := by
  have E := n_E h
  refine j_aload_n E d13_10_44 rfl 0 rfl ?_
  refine j_bipush E d13_10_45 (by decide) ?_
  refine j_call E (K13_10_47 h hrm hM) d13_10_47 (a := [(2, l0), (0, (-2))]) (sk := []) rfl ⟨l0, (-2), rfl, c1, hp⟩ (Nat.le_of_ble_eq_true rfl) hc hs ?_
  rintro rs S' V' ⟨z0, z1, r, e1, rfl, q⟩
  simp only [List.cons.injEq, Prod.mk.injEq, and_true, true_and] at e1
  obtain ⟨rfl, rfl⟩ := e1
  exact j_pick [] rfl (k r S' V' q)
theorem t13_10_50 {C : qCx} {G : jG} {S : jS} {V : jH} {nc ns : Nat} {s0 : Int} {mc ms : Nat} {qf : Int → jS → jH → Prop} (h : x13_10 C G)  (R : j_Ri n_KT 5 C G b_13_10 mc ms qf) (q : qf s0 S V) (hc : nc ≤ mc) (hs : ns ≤ ms) : j_ok n_KT 5 C G 50 [] [(0, s0)] S V nc ns := by
  have E := n_E h
  exact R _ _ _ _ _ _ _ d13_10_50 q hc hs
theorem t13_10_51 {C : qCx} {G : jG} {S : jS} {V : jH} {nc ns : Nat} {l0 l1 l2 : Int} (h : x13_10 C G) (L : j_L S) (c1 : S.1 l0 = 33) (c2 : 0 ≤ V (l0 + 1) 2) (c3 : V (l0 + 1) 2 < 10) (k : j_ok n_KT 5 C G 92 [(0, (2, l0)), (1, (0, l1)), (2, (0, l2)), (3, (0, V (l0 + 1) 2)), (4, (0, 0))] [] S (j_up (j_up (j_up V (l0 + 4) (V (l0 + 1) 2) l1) (l0 + 5) (V (l0 + 1) 2) l2) (l0 + 6) (V (l0 + 1) 2) 0) nc ns) : j_ok n_KT 5 C G 51 [(0, (2, l0)), (1, (0, l1)), (2, (0, l2))] [] S V nc ns := by
  have E := n_E h
  refine j_aload_n E d13_10_51 rfl 0 rfl ?_
  refine j_getS (f := 0) (x := l0 + 1) (fg12_10 h) d13_10_52 c1 (by decide) rfl rfl ((L12_0 L c1).trans (by omega)) ?_
  refine j_getI (f := 2) (fg12_73 h) d13_10_55 (show S.1 (l0 + 1) = 32 from (by have q := L12_0k L c1; rw [show l0 + 1 = l0 + 1 by omega]; exact q)) (by decide) rfl rfl ?_
  refine j_istore_n E d13_10_58 rfl (by decide) (lo1 := [(0, (2, l0)), (1, (0, l1)), (2, (0, l2))]) rfl ?_
  refine j_aload_n E d13_10_59 rfl 1 rfl ?_
  refine j_getS (f := 0) (x := l0 + 1) (fg12_10 h) d13_10_60 c1 (by decide) rfl rfl ((L12_0 L c1).trans (by omega)) ?_
  refine j_getS (f := 3) (x := l0 + 4) (fg12_100 h) d13_10_63 (show S.1 (l0 + 1) = 32 from (by have q := L12_0k L c1; rw [show l0 + 1 = l0 + 1 by omega]; exact q)) (by decide) rfl rfl ((L11_3 L (show S.1 (l0 + 1) = 32 from (by have q := L12_0k L c1; rw [show l0 + 1 = l0 + 1 by omega]; exact q))).trans (by omega)) ?_
  refine j_iload_n E d13_10_66 rfl 0 rfl ?_
  refine j_iload_n E d13_10_67 rfl 2 rfl ?_
  refine j_iast E d13_10_68 (j_arr_of (show S.1 (l0 + 4) = 10 from (by have q := L11_3k L (show S.1 (l0 + 1) = 32 from (by have q := L12_0k L c1; rw [show l0 + 1 = l0 + 1 by omega]; exact q)); rw [show l0 + 4 = (l0 + 1) + 3 by omega]; exact q)) (by decide) rfl) c2 c3 ?_
  refine j_aload_n E d13_10_69 rfl 1 rfl ?_
  refine j_getS (f := 0) (x := l0 + 1) (fg12_10 h) d13_10_70 c1 (by decide) rfl rfl ((L12_0 L c1).trans (by omega)) ?_
  refine j_getS (f := 4) (x := l0 + 5) (fg12_103 h) d13_10_73 (show S.1 (l0 + 1) = 32 from (by have q := L12_0k L c1; rw [show l0 + 1 = l0 + 1 by omega]; exact q)) (by decide) rfl rfl ((L11_4 L (show S.1 (l0 + 1) = 32 from (by have q := L12_0k L c1; rw [show l0 + 1 = l0 + 1 by omega]; exact q))).trans (by omega)) ?_
  refine j_iload_n E d13_10_76 rfl 0 rfl ?_
  refine j_iload_n E d13_10_77 rfl 3 rfl ?_
  refine j_iast E d13_10_78 (j_arr_of (show S.1 (l0 + 5) = 10 from (by have q := L11_4k L (show S.1 (l0 + 1) = 32 from (by have q := L12_0k L c1; rw [show l0 + 1 = l0 + 1 by omega]; exact q)); rw [show l0 + 5 = (l0 + 1) + 4 by omega]; exact q)) (by decide) rfl) c2 c3 ?_
  refine j_aload_n E d13_10_79 rfl 1 rfl ?_
  refine j_getS (f := 0) (x := l0 + 1) (fg12_10 h) d13_10_80 c1 (by decide) rfl rfl ((L12_0 L c1).trans (by omega)) ?_
  refine j_getS (f := 5) (x := l0 + 6) (fg12_106 h) d13_10_83 (show S.1 (l0 + 1) = 32 from (by have q := L12_0k L c1; rw [show l0 + 1 = l0 + 1 by omega]; exact q)) (by decide) rfl rfl ((L11_5 L (show S.1 (l0 + 1) = 32 from (by have q := L12_0k L c1; rw [show l0 + 1 = l0 + 1 by omega]; exact q))).trans (by omega)) ?_
  refine j_iload_n E d13_10_86 rfl 0 rfl ?_
  refine j_iconst E d13_10_87 (by decide) ?_
  refine j_bastore E d13_10_88 (show S.1 (l0 + 6) = 17 from (by have q := L11_5k L (show S.1 (l0 + 1) = 32 from (by have q := L12_0k L c1; rw [show l0 + 1 = l0 + 1 by omega]; exact q)); rw [show l0 + 6 = (l0 + 1) + 5 by omega]; exact q)) (by decide) rfl c2 c3 (by decide) ?_
  refine j_iconst E d13_10_89 (by decide) ?_
  refine j_istore E d13_10_90 (by decide) (lo1 := [(3, (0, V (l0 + 1) 2)), (0, (2, l0)), (1, (0, l1)), (2, (0, l2))]) rfl ?_
  exact j_pick [2, 3, 4, 1, 0] rfl k
theorem t13_10_92 {C : qCx} {G : jG} {S : jS} {V : jH} {nc ns : Nat} {l0 l1 l2 l3 l4 : Int} (h : x13_10 C G)  (k : 1024 ≤ l4 → j_ok n_KT 5 C G 142 [(0, (2, l0)), (3, (0, l3))] [] S V nc ns) (k' : l4 < 1024 → j_ok n_KT 5 C G 100 [(0, (2, l0)), (1, (0, l1)), (2, (0, l2)), (3, (0, l3)), (4, (0, l4))] [] S V nc ns) : j_ok n_KT 5 C G 92 [(0, (2, l0)), (1, (0, l1)), (2, (0, l2)), (3, (0, l3)), (4, (0, l4))] [] S V nc ns := by
  have E := n_E h
  refine j_iload E d13_10_92 4 rfl ?_
  refine j_sipush E d13_10_94 (by decide) ?_
  exact j_icmp_ge E d13_10_97 (t := 142) rfl (fun q => j_pick [0, 3] rfl (k q)) (fun q => j_pick [0, 1, 2, 3, 4] rfl (k' q))
theorem t13_10_100 {C : qCx} {G : jG} {S : jS} {V : jH} {nc ns : Nat} {l0 l1 l2 l3 l4 : Int} (h : x13_10 C G) (L : j_L S) (c1 : S.1 l0 = 33) (c2 : -2147483648 ≤ 1024 * l3 ∧ 1024 * l3 ≤ 2147483647) (c3 : -2147483648 ≤ (1024 * l3) + l4 ∧ (1024 * l3) + l4 ≤ 2147483647) (k : l1 = 1 → j_ok n_KT 5 C G 125 [(0, (2, l0)), (1, (0, l1)), (2, (0, l2)), (3, (0, l3)), (4, (0, l4))] [(0, (1024 * l3) + l4), (2, l0 + 7)] S V nc ns) (k' : ¬ l1 = 1 → j_ok n_KT 5 C G 120 [(0, (2, l0)), (1, (0, l1)), (2, (0, l2)), (3, (0, l3)), (4, (0, l4))] [(0, (1024 * l3) + l4), (2, l0 + 7)] S V nc ns) : j_ok n_KT 5 C G 100 [(0, (2, l0)), (1, (0, l1)), (2, (0, l2)), (3, (0, l3)), (4, (0, l4))] [] S V nc ns := by
  have E := n_E h
  refine j_aload_n E d13_10_100 rfl 0 rfl ?_
  refine j_getS (f := 0) (x := l0 + 1) (fg12_10 h) d13_10_101 c1 (by decide) rfl rfl ((L12_0 L c1).trans (by omega)) ?_
  refine j_getS (f := 6) (x := l0 + 7) (fg12_110 h) d13_10_104 (show S.1 (l0 + 1) = 32 from (by have q := L12_0k L c1; rw [show l0 + 1 = l0 + 1 by omega]; exact q)) (by decide) rfl rfl ((L11_6 L (show S.1 (l0 + 1) = 32 from (by have q := L12_0k L c1; rw [show l0 + 1 = l0 + 1 by omega]; exact q))).trans (by omega)) ?_
  refine j_sipush E d13_10_107 (by decide) ?_
  refine j_iload_n E d13_10_110 rfl 3 rfl ?_
  refine j_imul E d13_10_111 c2 ?_
  refine j_iload E d13_10_112 4 rfl ?_
  refine j_iadd E d13_10_114 c3 ?_
  refine j_iload_n E d13_10_115 rfl 1 rfl ?_
  refine j_iconst E d13_10_116 (by decide) ?_
  exact j_icmp_eq E d13_10_117 (t := 125) rfl (fun q => j_pick [0, 1, 2, 3, 4] rfl (k q)) (fun q => j_pick [0, 1, 2, 3, 4] rfl (k' q))
theorem t13_10_120 {C : qCx} {G : jG} {S : jS} {V : jH} {nc ns : Nat} {l0 l1 l2 l3 l4 s0 s1 : Int} (h : x13_10 C G)  (k : ¬ l1 = 4 → j_ok n_KT 5 C G 134 [(0, (2, l0)), (1, (0, l1)), (2, (0, l2)), (3, (0, l3)), (4, (0, l4))] [(0, s0), (2, s1)] S V nc ns) (k' : l1 = 4 → j_ok n_KT 5 C G 125 [(0, (2, l0)), (1, (0, l1)), (2, (0, l2)), (3, (0, l3)), (4, (0, l4))] [(0, s0), (2, s1)] S V nc ns) : j_ok n_KT 5 C G 120 [(0, (2, l0)), (1, (0, l1)), (2, (0, l2)), (3, (0, l3)), (4, (0, l4))] [(0, s0), (2, s1)] S V nc ns := by
  have E := n_E h
  refine j_iload_n E d13_10_120 rfl 1 rfl ?_
  refine j_iconst E d13_10_121 (by decide) ?_
  exact j_icmp_ne E d13_10_122 (t := 134) rfl (fun q => j_pick [0, 1, 2, 3, 4] rfl (k q)) (fun q => j_pick [0, 1, 2, 3, 4] rfl (k' q))
theorem t13_10_125 {C : qCx} {G : jG} {S : jS} {V : jH} {nc ns : Nat} {l0 l1 l2 l3 l4 s0 s1 : Int} (h : x13_10 C G) (c1 : -2147483648 ≤ l2 - 8 ∧ l2 - 8 ≤ 2147483647) (c2 : 0 ≤ l2 - 8) (c3 : l2 - 8 ≤ 30) (k : j_ok n_KT 5 C G 135 [(0, (2, l0)), (1, (0, l1)), (2, (0, l2)), (3, (0, l3)), (4, (0, l4))] [(0, 2 ^ (l2 - 8).toNat), (0, s0), (2, s1)] S V nc ns) : j_ok n_KT 5 C G 125 [(0, (2, l0)), (1, (0, l1)), (2, (0, l2)), (3, (0, l3)), (4, (0, l4))] [(0, s0), (2, s1)] S V nc ns := by
  have E := n_E h
  refine j_iconst E d13_10_125 (by decide) ?_
  refine j_iload_n E d13_10_126 rfl 2 rfl ?_
  refine j_bipush E d13_10_127 (by decide) ?_
  refine j_isub E d13_10_129 c1 ?_
  refine j_ishl1 E d13_10_130 rfl c2 c3 ?_
  refine j_goto E d13_10_131 (t := 135) rfl ?_
  exact j_pick [0, 1, 2, 3, 4] rfl k
theorem t13_10_134 {C : qCx} {G : jG} {S : jS} {V : jH} {nc ns : Nat} {l0 l1 l2 l3 l4 s0 s1 : Int} (h : x13_10 C G)  (k : j_ok n_KT 5 C G 135 [(0, (2, l0)), (1, (0, l1)), (2, (0, l2)), (3, (0, l3)), (4, (0, l4))] [(0, 0), (0, s0), (2, s1)] S V nc ns) : j_ok n_KT 5 C G 134 [(0, (2, l0)), (1, (0, l1)), (2, (0, l2)), (3, (0, l3)), (4, (0, l4))] [(0, s0), (2, s1)] S V nc ns := by
  have E := n_E h
  refine j_iconst E d13_10_134 (by decide) ?_
  exact j_pick [0, 1, 2, 3, 4] rfl k
theorem t13_10_135 {C : qCx} {G : jG} {S : jS} {V : jH} {nc ns : Nat} {l0 l1 l2 l3 l4 s0 s1 s2 : Int} {n_s2 : Nat} (h : x13_10 C G) (c1 : j_arr S s2 n_s2) (c2 : 0 ≤ s1) (c3 : s1 < (n_s2 : Int)) (c4 : -2147483648 ≤ l4 + 1 ∧ l4 + 1 ≤ 2147483647) (k : j_ok n_KT 5 C G 92 [(0, (2, l0)), (1, (0, l1)), (2, (0, l2)), (3, (0, l3)), (4, (0, l4 + 1))] [] S (j_up V s2 s1 s0) nc ns) : j_ok n_KT 5 C G 135 [(0, (2, l0)), (1, (0, l1)), (2, (0, l2)), (3, (0, l3)), (4, (0, l4))] [(0, s0), (0, s1), (2, s2)] S V nc ns := by
  have E := n_E h
  refine j_iast E d13_10_135 c1 c2 c3 ?_
  refine j_iinc E d13_10_136 (by decide) (by decide) 4 rfl (lo1 := [(0, (2, l0)), (1, (0, l1)), (2, (0, l2)), (3, (0, l3))]) rfl c4 ?_
  refine j_goto E d13_10_139 (t := 92) rfl ?_
  exact j_pick [1, 2, 3, 4, 0] rfl k
theorem t13_10_142 {C : qCx} {G : jG} {S : jS} {V : jH} {nc ns : Nat} {l0 l3 : Int} {mc ms : Nat} {qf : Int → jS → jH → Prop} (h : x13_10 C G) (L : j_L S) (c1 : S.1 l0 = 33) (c2 : -2147483648 ≤ (V (l0 + 1) 2) + 1 ∧ (V (l0 + 1) 2) + 1 ≤ 2147483647) (R : j_Ri n_KT 5 C G b_13_10 mc ms qf) (q : qf l3 S (j_up V (l0 + 1) 2 ((V (l0 + 1) 2) + 1))) (hc : nc ≤ mc) (hs : ns ≤ ms) : j_ok n_KT 5 C G 142 [(0, (2, l0)), (3, (0, l3))] [] S V nc ns := by
  have E := n_E h
  refine j_aload_n E d13_10_142 rfl 0 rfl ?_
  refine j_getS (f := 0) (x := l0 + 1) (fg12_10 h) d13_10_143 c1 (by decide) rfl rfl ((L12_0 L c1).trans (by omega)) ?_
  refine j_dup E d13_10_146 rfl ?_
  refine j_getI (f := 2) (fg12_73 h) d13_10_147 (show S.1 (l0 + 1) = 32 from (by have q := L12_0k L c1; rw [show l0 + 1 = l0 + 1 by omega]; exact q)) (by decide) rfl rfl ?_
  refine j_iconst E d13_10_150 (by decide) ?_
  refine j_iadd E d13_10_151 c2 ?_
  refine j_putI (f := 2) (fp12_73 h) (n_hap h 32 11 0 _ rfl) d13_10_152 (show S.1 (l0 + 1) = 32 from (by have q := L12_0k L c1; rw [show l0 + 1 = l0 + 1 by omega]; exact q)) (by decide) rfl rfl rfl ?_
  refine j_iload_n E d13_10_155 rfl 1 rfl ?_
  exact R _ _ _ _ _ _ _ d13_10_156 q hc hs
