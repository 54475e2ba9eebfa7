/- BalanceCoder.table(II)I -/
abbrev b_1_6 : ByteArray := prog_1_method_6_code
def y_1_6 : MethodName := ⟨"BalanceCoder", "table", "(II)I"⟩
abbrev x1_6 (C : qCx) (G : jG) : Prop := n_ctx C b_1_6 4 "BalanceCoder" G.1 G.2.1
def M1_6 (l : Launch) (mc ms : Nat) (p : Int → Int → Int → jS → jH → Prop) (q : Int → Int → Int → jS → jH → Int → jS → jH → Prop) : Prop := j_Met l vwCl n_TL n_NW n_KT y_1_6 (Cond.code y_1_6 b_1_6 4 (some .int) :: n_GW) { frames := 4, cells := mc, slots := ms, locals := 92 } mc ms (fun a S V => ∃ u0 u1 u2 : Int, a = [(2, u0), (0, u1), (0, u2)] ∧ S.1 u0 = 31 ∧ p u0 u1 u2 S V) (fun a S V rs S' V' => ∃ u0 u1 u2 r : Int, a = [(2, u0), (0, u1), (0, u2)] ∧ rs = [(0, r)] ∧ q u0 u1 u2 S V r S' V')
theorem e1_6 {l : Launch} {mc ms : Nat} {p : Int → Int → Int → jS → jH → Prop} {q : Int → Int → Int → jS → jH → Int → jS → jH → Prop} (body : ∀ (C : qCx) (G : jG), x1_6 C G → C.2.2.2.1.frames = 4 ∧ C.2.2.2.1.locals = 92 → C.2.2.2.1.cells = mc ∧ C.2.2.2.1.slots = ms → C.2.1 = l → C.2.2.2.2.2.2.2.2.1.name = "table" → ∀ (u0 u1 u2 : Int) (S : jS) (V : jH), S.1 u0 = 31 → p u0 u1 u2 S V → j_Ri n_KT 4 C G b_1_6 mc ms (q u0 u1 u2 S V) → j_ok n_KT 4 C G 0 [(0, (2, u0)), (1, (0, u1)), (2, (0, u2))] [] S V 0 0) : M1_6 l mc ms p q := by
  refine j_method (ws' := n_GW) (by decide) rfl ?_ ?_
  · rintro a S V ⟨u0, u1, u2, rfl, -⟩
    exact Nat.le_of_ble_eq_true rfl
  · rintro C G htl hl hrm hm hml ho hts hnm hE a S V ⟨u0, u1, u2, rfl, ht, hp⟩ R
    exact body C G ⟨htl, hm, hml, ho, fun w hw => hts w (List.mem_cons_of_mem _ hw), hE⟩ (by rw [hrm]; exact ⟨rfl, rfl⟩) (by rw [hrm]; exact ⟨rfl, rfl⟩) hl hnm u0 u1 u2 S V ht hp (fun pc lo r S' V' nc ns d q hc hs => R.2.1 rfl pc lo r S' V' nc ns d ⟨u0, u1, u2, r, rfl, rfl, q⟩ hc hs)
theorem d1_6_0 : decode b_1_6 0 = .ok (.iload_n 1, 1) := by decide +kernel
theorem d1_6_1 : decode b_1_6 1 = .ok (.invokestatic 75, 3) := by decide +kernel
theorem d1_6_4 : decode b_1_6 4 = .ok (.ifCond .eq 15, 3) := by decide +kernel
theorem d1_6_7 : decode b_1_6 7 = .ok (.iload_n 2, 1) := by decide +kernel
theorem d1_6_8 : decode b_1_6 8 = .ok (.bipush 8, 2) := by decide +kernel
theorem d1_6_10 : decode b_1_6 10 = .ok (.if_icmp .lt 9, 3) := by decide +kernel
theorem d1_6_13 : decode b_1_6 13 = .ok (.iload_n 2, 1) := by decide +kernel
theorem d1_6_14 : decode b_1_6 14 = .ok (.bipush 12, 2) := by decide +kernel
theorem d1_6_16 : decode b_1_6 16 = .ok (.if_icmp .le 9, 3) := by decide +kernel
theorem d1_6_19 : decode b_1_6 19 = .ok (.aload_n 0, 1) := by decide +kernel
theorem d1_6_20 : decode b_1_6 20 = .ok (.iconst (-1), 1) := by decide +kernel
theorem d1_6_21 : decode b_1_6 21 = .ok (.invokevirtual 55, 3) := by decide +kernel
theorem d1_6_24 : decode b_1_6 24 = .ok (.ireturn, 1) := by decide +kernel
theorem d1_6_25 : decode b_1_6 25 = .ok (.aload_n 0, 1) := by decide +kernel
theorem d1_6_26 : decode b_1_6 26 = .ok (.getfield 10, 3) := by decide +kernel
theorem d1_6_29 : decode b_1_6 29 = .ok (.getfield 79, 3) := by decide +kernel
theorem d1_6_32 : decode b_1_6 32 = .ok (.bipush 10, 2) := by decide +kernel
theorem d1_6_34 : decode b_1_6 34 = .ok (.if_icmp .lt 10, 3) := by decide +kernel
theorem d1_6_37 : decode b_1_6 37 = .ok (.aload_n 0, 1) := by decide +kernel
theorem d1_6_38 : decode b_1_6 38 = .ok (.bipush (-2), 2) := by decide +kernel
theorem d1_6_40 : decode b_1_6 40 = .ok (.invokevirtual 55, 3) := by decide +kernel
theorem d1_6_43 : decode b_1_6 43 = .ok (.ireturn, 1) := by decide +kernel
theorem d1_6_44 : decode b_1_6 44 = .ok (.aload_n 0, 1) := by decide +kernel
theorem d1_6_45 : decode b_1_6 45 = .ok (.getfield 10, 3) := by decide +kernel
theorem d1_6_48 : decode b_1_6 48 = .ok (.getfield 79, 3) := by decide +kernel
theorem d1_6_51 : decode b_1_6 51 = .ok (.istore_n 3, 1) := by decide +kernel
theorem d1_6_52 : decode b_1_6 52 = .ok (.aload_n 0, 1) := by decide +kernel
theorem d1_6_53 : decode b_1_6 53 = .ok (.getfield 10, 3) := by decide +kernel
theorem d1_6_56 : decode b_1_6 56 = .ok (.iload_n 3, 1) := by decide +kernel
theorem d1_6_57 : decode b_1_6 57 = .ok (.invokevirtual 82, 3) := by decide +kernel
theorem d1_6_60 : decode b_1_6 60 = .ok (.iload_n 1, 1) := by decide +kernel
theorem d1_6_61 : decode b_1_6 61 = .ok (.iload_n 2, 1) := by decide +kernel
theorem d1_6_62 : decode b_1_6 62 = .ok (.invokevirtual 86, 3) := by decide +kernel
theorem d1_6_65 : decode b_1_6 65 = .ok (.aload_n 0, 1) := by decide +kernel
theorem d1_6_66 : decode b_1_6 66 = .ok (.getfield 10, 3) := by decide +kernel
theorem d1_6_69 : decode b_1_6 69 = .ok (.iload_n 3, 1) := by decide +kernel
theorem d1_6_70 : decode b_1_6 70 = .ok (.iconst 1, 1) := by decide +kernel
theorem d1_6_71 : decode b_1_6 71 = .ok (.iadd, 1) := by decide +kernel
theorem d1_6_72 : decode b_1_6 72 = .ok (.putfield 79, 3) := by decide +kernel
theorem d1_6_75 : decode b_1_6 75 = .ok (.iload_n 3, 1) := by decide +kernel
theorem d1_6_76 : decode b_1_6 76 = .ok (.ireturn, 1) := by decide +kernel
theorem K1_6_1 {C : qCx} {G : jG} {mc ms : Nat} {p : Int → jS → jH → Prop} {q : Int → jS → jH → Int → jS → jH → Prop} (h : x1_6 C G) (hrm : C.2.2.2.1.frames = 4 ∧ C.2.2.2.1.locals = 92) (hM : M1_31 C.2.1 mc ms p q) : j_Call C b_1_6 n_KT G.1 G.2.1 4 (.invokestatic 75) mc ms (fun a S V => ∃ u0 : Int, a = [(0, u0)] ∧ p u0 S V) (fun a S V rs S' V' => ∃ u0 r : Int, a = [(0, u0)] ∧ rs = [(0, r)] ∧ q u0 S V r S' V') := j_callS n_NWk h.2.2.2.2.2 h.1 hM ⟨h.2.1.1, h.2.1.2, h.2.2.1, h.2.2.2.1, h.2.2.2.2.1⟩ ⟨n_CB (y := y_1_31) (bytes := b_1_31) 1 h.2.2.2.2.1 n_w335 n_w333 n_w1 ⟨by decide, by decide, by decide +kernel⟩ rfl rfl ⟨by rw [hrm.1]; exact Nat.le_of_ble_eq_true rfl, by rw [hrm.2]; exact Nat.le_of_ble_eq_true rfl⟩, h.2.2.2.2.1 _ n_w334⟩ (fun a S V hP => by obtain ⟨u0, rfl, -⟩ := hP; rfl)
theorem K1_6_21 {C : qCx} {G : jG} {mc ms : Nat} {p : Int → Int → jS → jH → Prop} {q : Int → Int → jS → jH → Int → jS → jH → Prop} (h : x1_6 C G) (hrm : C.2.2.2.1.frames = 4 ∧ C.2.2.2.1.locals = 92) (hM : M1_27 C.2.1 mc ms p q) : j_Call C b_1_6 n_KT G.1 G.2.1 4 (.invokevirtual 55) mc ms (fun a S V => ∃ u0 u1 : Int, a = [(2, u0), (0, u1)] ∧ S.1 u0 = 31 ∧ p u0 u1 S V) (fun a S V rs S' V' => ∃ u0 u1 r : Int, a = [(2, u0), (0, u1)] ∧ rs = [(0, r)] ∧ q u0 u1 S V r S' V') := j_callV n_NWk h.2.2.2.2.2 h.1 hM ⟨h.2.1.1, h.2.1.2, h.2.2.1, h.2.2.2.1, h.2.2.2.2.1⟩ ⟨n_CB (y := y_1_27) (bytes := b_1_27) 1 h.2.2.2.2.1 n_w309 n_w306 n_w1 ⟨by decide, by decide, by decide +kernel⟩ rfl rfl ⟨by rw [hrm.1]; exact Nat.le_of_ble_eq_true rfl, by rw [hrm.2]; exact Nat.le_of_ble_eq_true rfl⟩, h.2.2.2.2.1 _ n_w308, h.2.2.2.2.1 _ n_s1⟩ (Cn := RX10) (fun a S V hP => by obtain ⟨u0, u1, rfl, e, -⟩ := hP; exact ⟨u0, _, 10, _, _, TX10, 8, rfl, rfl, by rw [e]; decide, by rw [e]; rfl, rfl⟩)
theorem K1_6_40 {C : qCx} {G : jG} {mc ms : Nat} {p : Int → Int → jS → jH → Prop} {q : Int → Int → jS → jH → Int → jS → jH → Prop} (h : x1_6 C G) (hrm : C.2.2.2.1.frames = 4 ∧ C.2.2.2.1.locals = 92) (hM : M1_27 C.2.1 mc ms p q) : j_Call C b_1_6 n_KT G.1 G.2.1 4 (.invokevirtual 55) mc ms (fun a S V => ∃ u0 u1 : Int, a = [(2, u0), (0, u1)] ∧ S.1 u0 = 31 ∧ p u0 u1 S V) (fun a S V rs S' V' => ∃ u0 u1 r : Int, a = [(2, u0), (0, u1)] ∧ rs = [(0, r)] ∧ q u0 u1 S V r S' V') := j_callV n_NWk h.2.2.2.2.2 h.1 hM ⟨h.2.1.1, h.2.1.2, h.2.2.1, h.2.2.2.1, h.2.2.2.2.1⟩ ⟨n_CB (y := y_1_27) (bytes := b_1_27) 1 h.2.2.2.2.1 n_w309 n_w306 n_w1 ⟨by decide, by decide, by decide +kernel⟩ rfl rfl ⟨by rw [hrm.1]; exact Nat.le_of_ble_eq_true rfl, by rw [hrm.2]; exact Nat.le_of_ble_eq_true rfl⟩, h.2.2.2.2.1 _ n_w308, h.2.2.2.2.1 _ n_s1⟩ (Cn := RX10) (fun a S V hP => by obtain ⟨u0, u1, rfl, e, -⟩ := hP; exact ⟨u0, _, 10, _, _, TX10, 8, rfl, rfl, by rw [e]; decide, by rw [e]; rfl, rfl⟩)
theorem K1_6_57 {C : qCx} {G : jG} {mc ms : Nat} {p : Int → Int → jS → jH → Prop} {q : Int → Int → jS → jH → Int → jS → jH → Prop} (h : x1_6 C G) (hrm : C.2.2.2.1.frames = 4 ∧ C.2.2.2.1.locals = 92) (hM : M11_2 C.2.1 mc ms p q) : j_Call C b_1_6 n_KT G.1 G.2.1 4 (.invokevirtual 82) mc ms (fun a S V => ∃ u0 u1 : Int, a = [(2, u0), (0, u1)] ∧ S.1 u0 = 30 ∧ p u0 u1 S V) (fun a S V rs S' V' => ∃ u0 u1 r : Int, a = [(2, u0), (0, u1)] ∧ rs = [(2, r)] ∧ q u0 u1 S V r S' V') := j_callV n_NWk h.2.2.2.2.2 h.1 hM ⟨h.2.1.1, h.2.1.2, h.2.2.1, h.2.2.2.1, h.2.2.2.2.1⟩ ⟨n_CB (y := y_11_2) (bytes := b_11_2) 1 h.2.2.2.2.1 n_w339 n_w336 n_w2 ⟨by decide, by decide, by decide +kernel⟩ rfl rfl ⟨by rw [hrm.1]; exact Nat.le_of_ble_eq_true rfl, by rw [hrm.2]; exact Nat.le_of_ble_eq_true rfl⟩, h.2.2.2.2.1 _ n_w337, h.2.2.2.2.1 _ n_w338⟩ (Cn := RX9) (fun a S V hP => by obtain ⟨u0, u1, rfl, e, -⟩ := hP; exact ⟨u0, _, 9, _, _, TX9, 6, rfl, rfl, by rw [e]; decide, by rw [e]; rfl, rfl⟩)
theorem K1_6_62 {C : qCx} {G : jG} {mc ms : Nat} {p : Int → Int → Int → jS → jH → Prop} {q : Int → Int → Int → jS → jH → jS → jH → Prop} (h : x1_6 C G) (hrm : C.2.2.2.1.frames = 4 ∧ C.2.2.2.1.locals = 92) (hM : M10_2 C.2.1 mc ms p q) : j_Call C b_1_6 n_KT G.1 G.2.1 4 (.invokevirtual 86) mc ms (fun a S V => ∃ u0 u1 u2 : Int, a = [(2, u0), (0, u1), (0, u2)] ∧ S.1 u0 = 29 ∧ p u0 u1 u2 S V) (fun a S V rs S' V' => ∃ u0 u1 u2 : Int, a = [(2, u0), (0, u1), (0, u2)] ∧ rs = [] ∧ q u0 u1 u2 S V S' V') := j_callV n_NWk h.2.2.2.2.2 h.1 hM ⟨h.2.1.1, h.2.1.2, h.2.2.1, h.2.2.2.1, h.2.2.2.2.1⟩ ⟨n_CB (y := y_10_2) (bytes := b_10_2) 2 h.2.2.2.2.1 n_w344 n_w341 n_w7 ⟨by decide, by decide, by decide +kernel⟩ rfl rfl ⟨by rw [hrm.1]; exact Nat.le_of_ble_eq_true rfl, by rw [hrm.2]; exact Nat.le_of_ble_eq_true rfl⟩, h.2.2.2.2.1 _ n_w342, h.2.2.2.2.1 _ n_w343⟩ (Cn := RX8) (fun a S V hP => by obtain ⟨u0, u1, u2, rfl, e, -⟩ := hP; exact ⟨u0, _, 8, _, _, TX8, 3, rfl, rfl, by rw [e]; decide, by rw [e]; rfl, rfl⟩)
theorem t1_6_0 {C : qCx} {G : jG} {S : jS} {V : jH} {nc ns : Nat} {l0 l1 l2 : Int} {mc ms : Nat} {pp : Int → jS → jH → Prop} {qq : Int → jS → jH → Int → jS → jH → Prop} (h : x1_6 C G) (hrm : C.2.2.2.1.frames = 4 ∧ C.2.2.2.1.locals = 92)  (hM : M1_31 C.2.1 mc ms pp qq) (hp : pp l1 S V) (hc : nc + mc ≤ C.2.2.2.1.cells) (hs : ns + ms ≤ C.2.2.2.1.slots) (k : ∀ (r : Int) (S' : jS) (V' : jH), qq l1 S V r S' V' → j_ok n_KT 4 C G 4 [(0, (2, l0)), (1, (0, l1)), (2, (0, l2))] [(0, r)] S' V' (nc + mc) (ns + ms)) : j_ok n_KT 4 C G 0 [(0, (2, l0)), (1, (0, l1)), (2, (0, l2))] [] S V nc ns := by
  have E := n_E h
  refine j_iload_n E d1_6_0 rfl 1 rfl ?_
  refine j_call E (K1_6_1 h hrm hM) d1_6_1 (a := [(0, l1)]) (sk := []) rfl ⟨l1, rfl, hp⟩ (Nat.le_of_ble_eq_true rfl) hc hs ?_
  rintro rs S' V' ⟨z0, r, e1, rfl, q⟩
  simp only [List.cons.injEq, Prod.mk.injEq, and_true, true_and] at e1
  obtain ⟨rfl⟩ := e1
  exact j_pick [0, 1, 2] rfl (k r S' V' q)
theorem t1_6_4 {C : qCx} {G : jG} {S : jS} {V : jH} {nc ns : Nat} {l0 l1 l2 s0 : Int} (h : x1_6 C G)  (k : s0 = 0 → j_ok n_KT 4 C G 19 [(0, (2, l0))] [] S V nc ns) (k' : ¬ s0 = 0 → j_ok n_KT 4 C G 7 [(0, (2, l0)), (1, (0, l1)), (2, (0, l2))] [] S V nc ns) : j_ok n_KT 4 C G 4 [(0, (2, l0)), (1, (0, l1)), (2, (0, l2))] [(0, s0)] S V nc ns := by
  have E := n_E h
  exact j_if_eq E d1_6_4 (t := 19) rfl (fun q => j_pick [0] rfl (k q)) (fun q => j_pick [0, 1, 2] rfl (k' q))
theorem t1_6_7 {C : qCx} {G : jG} {S : jS} {V : jH} {nc ns : Nat} {l0 l1 l2 : Int} (h : x1_6 C G)  (k : l2 < 8 → j_ok n_KT 4 C G 19 [(0, (2, l0))] [] S V nc ns) (k' : 8 ≤ l2 → j_ok n_KT 4 C G 13 [(0, (2, l0)), (1, (0, l1)), (2, (0, l2))] [] S V nc ns) : j_ok n_KT 4 C G 7 [(0, (2, l0)), (1, (0, l1)), (2, (0, l2))] [] S V nc ns := by
  have E := n_E h
  refine j_iload_n E d1_6_7 rfl 2 rfl ?_
  refine j_bipush E d1_6_8 (by decide) ?_
  exact j_icmp_lt E d1_6_10 (t := 19) rfl (fun q => j_pick [0] rfl (k q)) (fun q => j_pick [0, 1, 2] rfl (k' q))
theorem t1_6_13 {C : qCx} {G : jG} {S : jS} {V : jH} {nc ns : Nat} {l0 l1 l2 : Int} (h : x1_6 C G)  (k : l2 ≤ 12 → j_ok n_KT 4 C G 25 [(0, (2, l0)), (1, (0, l1)), (2, (0, l2))] [] S V nc ns) (k' : 12 < l2 → j_ok n_KT 4 C G 19 [(0, (2, l0))] [] S V nc ns) : j_ok n_KT 4 C G 13 [(0, (2, l0)), (1, (0, l1)), (2, (0, l2))] [] S V nc ns := by
  have E := n_E h
  refine j_iload_n E d1_6_13 rfl 2 rfl ?_
  refine j_bipush E d1_6_14 (by decide) ?_
  exact j_icmp_le E d1_6_16 (t := 25) rfl (fun q => j_pick [0, 1, 2] rfl (k q)) (fun q => j_pick [0] rfl (k' q))
theorem t1_6_19 {C : qCx} {G : jG} {S : jS} {V : jH} {nc ns : Nat} {l0 : Int} {mc ms : Nat} {pp : Int → Int → jS → jH → Prop} {qq : Int → Int → jS → jH → Int → jS → jH → Prop} (h : x1_6 C G) (hrm : C.2.2.2.1.frames = 4 ∧ C.2.2.2.1.locals = 92) (c1 : S.1 l0 = 31) (hM : M1_27 C.2.1 mc ms pp qq) (hp : pp l0 ((-1)) S V) (hc : nc + mc ≤ C.2.2.2.1.cells) (hs : ns + ms ≤ C.2.2.2.1.slots) (k : ∀ (r : Int) (S' : jS) (V' : jH), qq l0 ((-1)) S V r S' V' → j_ok n_KT 4 C G 24 [] [(0, r)] S' V' (nc + mc) (ns + ms)) : j_ok n_KT 4 C G 19 [(0, (2, l0))] [] S V nc ns := by
  have E := n_E h
  refine j_aload_n E d1_6_19 rfl 0 rfl ?_
  refine j_iconst E d1_6_20 (by decide) ?_
  refine j_call E (K1_6_21 h hrm hM) d1_6_21 (a := [(2, l0), (0, (-1))]) (sk := []) rfl ⟨l0, (-1), rfl, c1, hp⟩ (Nat.le_of_ble_eq_true rfl) hc hs ?_
  rintro rs S' V' ⟨z0, z1, r, e1, rfl, q⟩
  simp only [List.cons.injEq, Prod.mk.injEq, and_true, true_and] at e1
  obtain ⟨rfl, rfl⟩ := e1
  exact j_pick [] rfl (k r S' V' q)
theorem t1_6_24 {C : qCx} {G : jG} {S : jS} {V : jH} {nc ns : Nat} {s0 : Int} {mc ms : Nat} {qf : Int → jS → jH → Prop} (h : x1_6 C G)  (R : j_Ri n_KT 4 C G b_1_6 mc ms qf) (q : qf s0 S V) (hc : nc ≤ mc) (hs : ns ≤ ms) : j_ok n_KT 4 C G 24 [] [(0, s0)] S V nc ns := by
  have E := n_E h
  exact R _ _ _ _ _ _ _ d1_6_24 q hc hs
theorem t1_6_25 {C : qCx} {G : jG} {S : jS} {V : jH} {nc ns : Nat} {l0 l1 l2 : Int} (h : x1_6 C G) (L : j_L S) (c1 : S.1 l0 = 31) (k : V (l0 + 1) 2 < 10 → j_ok n_KT 4 C G 44 [(0, (2, l0)), (1, (0, l1)), (2, (0, l2))] [] S V nc ns) (k' : 10 ≤ V (l0 + 1) 2 → j_ok n_KT 4 C G 37 [(0, (2, l0))] [] S V nc ns) : j_ok n_KT 4 C G 25 [(0, (2, l0)), (1, (0, l1)), (2, (0, l2))] [] S V nc ns := by
  have E := n_E h
  refine j_aload_n E d1_6_25 rfl 0 rfl ?_
  refine j_getS (f := 0) (x := l0 + 1) (fg10_10 h) d1_6_26 c1 (by decide) rfl rfl ((L10_0 L c1).trans (by omega)) ?_
  refine j_getI (f := 2) (fg10_79 h) d1_6_29 (show S.1 (l0 + 1) = 30 from (by have q := L10_0k L c1; rw [show l0 + 1 = l0 + 1 by omega]; exact q)) (by decide) rfl rfl ?_
  refine j_bipush E d1_6_32 (by decide) ?_
  exact j_icmp_lt E d1_6_34 (t := 44) rfl (fun q => j_pick [0, 1, 2] rfl (k q)) (fun q => j_pick [0] rfl (k' q))
theorem t1_6_37 {C : qCx} {G : jG} {S : jS} {V : jH} {nc ns : Nat} {l0 : Int} {mc ms : Nat} {pp : Int → Int → jS → jH → Prop} {qq : Int → Int → jS → jH → Int → jS → jH → Prop} (h : x1_6 C G) (hrm : C.2.2.2.1.frames = 4 ∧ C.2.2.2.1.locals = 92) (c1 : S.1 l0 = 31) (hM : M1_27 C.2.1 mc ms pp qq) (hp : pp l0 ((-2)) S V) (hc : nc + mc ≤ C.2.2.2.1.cells) (hs : ns + ms ≤ C.2.2.2.1.slots) (k : ∀ (r : Int) (S' : jS) (V' : jH), qq l0 ((-2)) S V r S' V' → j_ok n_KT 4 C G 43 [] [(0, r)] S' V' (nc + mc) (ns + ms)) : j_ok n_KT 4 C G 37 [(0, (2, l0))] [] S V nc ns := by
  have E := n_E h
  refine j_aload_n E d1_6_37 rfl 0 rfl ?_
  refine j_bipush E d1_6_38 (by decide) ?_
  refine j_call E (K1_6_40 h hrm hM) d1_6_40 (a := [(2, l0), (0, (-2))]) (sk := []) rfl ⟨l0, (-2), rfl, c1, hp⟩ (Nat.le_of_ble_eq_true rfl) hc hs ?_
  rintro rs S' V' ⟨z0, z1, r, e1, rfl, q⟩
  simp only [List.cons.injEq, Prod.mk.injEq, and_true, true_and] at e1
  obtain ⟨rfl, rfl⟩ := e1
  exact j_pick [] rfl (k r S' V' q)
theorem t1_6_43 {C : qCx} {G : jG} {S : jS} {V : jH} {nc ns : Nat} {s0 : Int} {mc ms : Nat} {qf : Int → jS → jH → Prop} (h : x1_6 C G)  (R : j_Ri n_KT 4 C G b_1_6 mc ms qf) (q : qf s0 S V) (hc : nc ≤ mc) (hs : ns ≤ ms) : j_ok n_KT 4 C G 43 [] [(0, s0)] S V nc ns := by
  have E := n_E h
  exact R _ _ _ _ _ _ _ d1_6_43 q hc hs
theorem t1_6_44 {C : qCx} {G : jG} {S : jS} {V : jH} {nc ns : Nat} {l0 l1 l2 : Int} {mc ms : Nat} {pp : Int → Int → jS → jH → Prop} {qq : Int → Int → jS → jH → Int → jS → jH → Prop} (h : x1_6 C G) (L : j_L S) (hrm : C.2.2.2.1.frames = 4 ∧ C.2.2.2.1.locals = 92) (c1 : S.1 l0 = 31) (hM : M11_2 C.2.1 mc ms pp qq) (hp : pp (l0 + 1) (V (l0 + 1) 2) S V) (hc : nc + mc ≤ C.2.2.2.1.cells) (hs : ns + ms ≤ C.2.2.2.1.slots) (k : ∀ (r : Int) (S' : jS) (V' : jH), qq (l0 + 1) (V (l0 + 1) 2) S V r S' V' → j_ok n_KT 4 C G 60 [(0, (2, l0)), (1, (0, l1)), (2, (0, l2)), (3, (0, V (l0 + 1) 2))] [(2, r)] S' V' (nc + mc) (ns + ms)) : j_ok n_KT 4 C G 44 [(0, (2, l0)), (1, (0, l1)), (2, (0, l2))] [] S V nc ns := by
  have E := n_E h
  refine j_aload_n E d1_6_44 rfl 0 rfl ?_
  refine j_getS (f := 0) (x := l0 + 1) (fg10_10 h) d1_6_45 c1 (by decide) rfl rfl ((L10_0 L c1).trans (by omega)) ?_
  refine j_getI (f := 2) (fg10_79 h) d1_6_48 (show S.1 (l0 + 1) = 30 from (by have q := L10_0k L c1; rw [show l0 + 1 = l0 + 1 by omega]; exact q)) (by decide) rfl rfl ?_
  refine j_istore_n E d1_6_51 rfl (by decide) (lo1 := [(0, (2, l0)), (1, (0, l1)), (2, (0, l2))]) rfl ?_
  refine j_aload_n E d1_6_52 rfl 1 rfl ?_
  refine j_getS (f := 0) (x := l0 + 1) (fg10_10 h) d1_6_53 c1 (by decide) rfl rfl ((L10_0 L c1).trans (by omega)) ?_
  refine j_iload_n E d1_6_56 rfl 0 rfl ?_
  refine j_call E (K1_6_57 h hrm hM) d1_6_57 (a := [(2, l0 + 1), (0, V (l0 + 1) 2)]) (sk := []) rfl ⟨l0 + 1, V (l0 + 1) 2, rfl, (show S.1 (l0 + 1) = 30 from (by have q := L10_0k L c1; rw [show l0 + 1 = l0 + 1 by omega]; exact q)), hp⟩ (Nat.le_of_ble_eq_true rfl) hc hs ?_
  rintro rs S' V' ⟨z0, z1, r, e1, rfl, q⟩
  simp only [List.cons.injEq, Prod.mk.injEq, and_true, true_and] at e1
  obtain ⟨rfl, rfl⟩ := e1
  exact j_pick [1, 2, 3, 0] rfl (k r S' V' q)
theorem t1_6_60 {C : qCx} {G : jG} {S : jS} {V : jH} {nc ns : Nat} {l0 l1 l2 l3 s0 : Int} {mc ms : Nat} {pp : Int → Int → Int → jS → jH → Prop} {qq : Int → Int → Int → jS → jH → jS → jH → Prop} (h : x1_6 C G) (hrm : C.2.2.2.1.frames = 4 ∧ C.2.2.2.1.locals = 92) (c1 : S.1 s0 = 29) (hM : M10_2 C.2.1 mc ms pp qq) (hp : pp s0 l1 l2 S V) (hc : nc + mc ≤ C.2.2.2.1.cells) (hs : ns + ms ≤ C.2.2.2.1.slots) (k : ∀ (S' : jS) (V' : jH), qq s0 l1 l2 S V S' V' → j_ok n_KT 4 C G 65 [(0, (2, l0)), (3, (0, l3))] [] S' V' (nc + mc) (ns + ms)) : j_ok n_KT 4 C G 60 [(0, (2, l0)), (1, (0, l1)), (2, (0, l2)), (3, (0, l3))] [(2, s0)] S V nc ns := by
  have E := n_E h
  refine j_iload_n E d1_6_60 rfl 1 rfl ?_
  refine j_iload_n E d1_6_61 rfl 2 rfl ?_
  refine j_call E (K1_6_62 h hrm hM) d1_6_62 (a := [(2, s0), (0, l1), (0, l2)]) (sk := []) rfl ⟨s0, l1, l2, rfl, c1, hp⟩ (Nat.le_of_ble_eq_true rfl) hc hs ?_
  rintro rs S' V' ⟨z0, z1, z2, e1, rfl, q⟩
  simp only [List.cons.injEq, Prod.mk.injEq, and_true, true_and] at e1
  obtain ⟨rfl, rfl, rfl⟩ := e1
  exact j_pick [0, 3] rfl (k S' V' q)
theorem t1_6_65 {C : qCx} {G : jG} {S : jS} {V : jH} {nc ns : Nat} {l0 l3 : Int} {mc ms : Nat} {qf : Int → jS → jH → Prop} (h : x1_6 C G) (L : j_L S) (c1 : S.1 l0 = 31) (c2 : -2147483648 ≤ l3 + 1 ∧ l3 + 1 ≤ 2147483647) (R : j_Ri n_KT 4 C G b_1_6 mc ms qf) (q : qf l3 S (j_up V (l0 + 1) 2 (l3 + 1))) (hc : nc ≤ mc) (hs : ns ≤ ms) : j_ok n_KT 4 C G 65 [(0, (2, l0)), (3, (0, l3))] [] S V nc ns := by
  have E := n_E h
  refine j_aload_n E d1_6_65 rfl 0 rfl ?_
  refine j_getS (f := 0) (x := l0 + 1) (fg10_10 h) d1_6_66 c1 (by decide) rfl rfl ((L10_0 L c1).trans (by omega)) ?_
  refine j_iload_n E d1_6_69 rfl 1 rfl ?_
  refine j_iconst E d1_6_70 (by decide) ?_
  refine j_iadd E d1_6_71 c2 ?_
  refine j_putI (f := 2) (fp10_79 h) (n_hap h 30 9 0 _ rfl) d1_6_72 (show S.1 (l0 + 1) = 30 from (by have q := L10_0k L c1; rw [show l0 + 1 = l0 + 1 by omega]; exact q)) (by decide) rfl rfl rfl ?_
  refine j_iload_n E d1_6_75 rfl 1 rfl ?_
  exact R _ _ _ _ _ _ _ d1_6_76 q hc hs
/- BalanceCoder.tableOf(I)LBalanceCoder$Table; -/
abbrev b_1_30 : ByteArray := prog_1_method_30_code
def y_1_30 : MethodName := ⟨"BalanceCoder", "tableOf", "(I)LBalanceCoder$Table;"⟩
abbrev x1_30 (C : qCx) (G : jG) : Prop := n_ctx C b_1_30 2 "BalanceCoder" G.1 G.2.1
def M1_30 (l : Launch) (mc ms : Nat) (p : Int → Int → jS → jH → Prop) (q : Int → Int → jS → jH → Int → jS → jH → Prop) : Prop := j_Met l vwCl n_TL n_NW n_KT y_1_30 (Cond.code y_1_30 b_1_30 2 (some (.object "BalanceCoder$Table")) :: n_GW) { frames := 1, cells := mc, slots := ms, locals := 26 } mc ms (fun a S V => ∃ u0 u1 : Int, a = [(2, u0), (0, u1)] ∧ S.1 u0 = 31 ∧ p u0 u1 S V) (fun a S V rs S' V' => ∃ u0 u1 r : Int, a = [(2, u0), (0, u1)] ∧ rs = [(2, r)] ∧ q u0 u1 S V r S' V')
theorem e1_30 {l : Launch} {mc ms : Nat} {p : Int → Int → jS → jH → Prop} {q : Int → Int → jS → jH → Int → jS → jH → Prop} (body : ∀ (C : qCx) (G : jG), x1_30 C G → C.2.2.2.1.frames = 1 ∧ C.2.2.2.1.locals = 26 → C.2.2.2.1.cells = mc ∧ C.2.2.2.1.slots = ms → C.2.1 = l → C.2.2.2.2.2.2.2.2.1.name = "tableOf" → ∀ (u0 u1 : Int) (S : jS) (V : jH), S.1 u0 = 31 → p u0 u1 S V → j_Rr n_KT 2 C G b_1_30 mc ms (q u0 u1 S V) → j_ok n_KT 2 C G 0 [(0, (2, u0)), (1, (0, u1))] [] S V 0 0) : M1_30 l mc ms p q := by
  refine j_method (ws' := n_GW) (by decide) rfl ?_ ?_
  · rintro a S V ⟨u0, u1, rfl, -⟩
    exact Nat.le_of_ble_eq_true rfl
  · rintro C G htl hl hrm hm hml ho hts hnm hE a S V ⟨u0, u1, rfl, ht, hp⟩ R
    exact body C G ⟨htl, hm, hml, ho, fun w hw => hts w (List.mem_cons_of_mem _ hw), hE⟩ (by rw [hrm]; exact ⟨rfl, rfl⟩) (by rw [hrm]; exact ⟨rfl, rfl⟩) hl hnm u0 u1 S V ht hp (fun pc lo r S' V' nc ns d q hc hs => R.2.2.2.2 (Or.inl ⟨_, rfl⟩) pc lo r S' V' nc ns d ⟨u0, u1, r, rfl, rfl, q⟩ hc hs)
theorem d1_30_0 : decode b_1_30 0 = .ok (.iload_n 1, 1) := by decide +kernel
theorem d1_30_1 : decode b_1_30 1 = .ok (.ifCond .lt 14, 3) := by decide +kernel
theorem d1_30_4 : decode b_1_30 4 = .ok (.iload_n 1, 1) := by decide +kernel
theorem d1_30_5 : decode b_1_30 5 = .ok (.aload_n 0, 1) := by decide +kernel
theorem d1_30_6 : decode b_1_30 6 = .ok (.getfield 10, 3) := by decide +kernel
theorem d1_30_9 : decode b_1_30 9 = .ok (.getfield 79, 3) := by decide +kernel
theorem d1_30_12 : decode b_1_30 12 = .ok (.if_icmp .lt 7, 3) := by decide +kernel
theorem d1_30_15 : decode b_1_30 15 = .ok (.aconst_null, 1) := by decide +kernel
theorem d1_30_16 : decode b_1_30 16 = .ok (.goto 12, 3) := by decide +kernel
theorem d1_30_19 : decode b_1_30 19 = .ok (.aload_n 0, 1) := by decide +kernel
theorem d1_30_20 : decode b_1_30 20 = .ok (.getfield 10, 3) := by decide +kernel
theorem d1_30_23 : decode b_1_30 23 = .ok (.getfield 243, 3) := by decide +kernel
theorem d1_30_26 : decode b_1_30 26 = .ok (.iload_n 1, 1) := by decide +kernel
theorem d1_30_27 : decode b_1_30 27 = .ok (.aaload, 1) := by decide +kernel
theorem d1_30_28 : decode b_1_30 28 = .ok (.areturn, 1) := by decide +kernel
theorem t1_30_0 {C : qCx} {G : jG} {S : jS} {V : jH} {nc ns : Nat} {l0 l1 : Int} (h : x1_30 C G)  (k : l1 < 0 → j_ok n_KT 2 C G 15 [] [] S V nc ns) (k' : 0 ≤ l1 → j_ok n_KT 2 C G 4 [(0, (2, l0)), (1, (0, l1))] [] S V nc ns) : j_ok n_KT 2 C G 0 [(0, (2, l0)), (1, (0, l1))] [] S V nc ns := by
  have E := n_E h
  refine j_iload_n E d1_30_0 rfl 1 rfl ?_
  exact j_if_lt E d1_30_1 (t := 15) rfl (fun q => j_pick [] rfl (k q)) (fun q => j_pick [0, 1] rfl (k' q))
theorem t1_30_4 {C : qCx} {G : jG} {S : jS} {V : jH} {nc ns : Nat} {l0 l1 : Int} (h : x1_30 C G) (L : j_L S) (c1 : S.1 l0 = 31) (k : l1 < V (l0 + 1) 2 → j_ok n_KT 2 C G 19 [(0, (2, l0)), (1, (0, l1))] [] S V nc ns) (k' : V (l0 + 1) 2 ≤ l1 → j_ok n_KT 2 C G 15 [] [] S V nc ns) : j_ok n_KT 2 C G 4 [(0, (2, l0)), (1, (0, l1))] [] S V nc ns := by
  have E := n_E h
  refine j_iload_n E d1_30_4 rfl 1 rfl ?_
  refine j_aload_n E d1_30_5 rfl 0 rfl ?_
  refine j_getS (f := 0) (x := l0 + 1) (fg10_10 h) d1_30_6 c1 (by decide) rfl rfl ((L10_0 L c1).trans (by omega)) ?_
  refine j_getI (f := 2) (fg10_79 h) d1_30_9 (show S.1 (l0 + 1) = 30 from (by have q := L10_0k L c1; rw [show l0 + 1 = l0 + 1 by omega]; exact q)) (by decide) rfl rfl ?_
  exact j_icmp_lt E d1_30_12 (t := 19) rfl (fun q => j_pick [0, 1] rfl (k q)) (fun q => j_pick [] rfl (k' q))
theorem t1_30_15 {C : qCx} {G : jG} {S : jS} {V : jH} {nc ns : Nat} (h : x1_30 C G)  (k : j_ok n_KT 2 C G 28 [] [(2, -1)] S V nc ns) : j_ok n_KT 2 C G 15 [] [] S V nc ns := by
  have E := n_E h
  refine j_null E d1_30_15 ?_
  refine j_goto E d1_30_16 (t := 28) rfl ?_
  exact j_pick [] rfl k
theorem t1_30_19 {C : qCx} {G : jG} {S : jS} {V : jH} {nc ns : Nat} {l0 l1 : Int} (h : x1_30 C G) (L : j_L S) (c1 : S.1 l0 = 31) (c2 : 0 ≤ l1) (c3 : l1 < 10) (k : j_ok n_KT 2 C G 28 [] [(2, S.2 (l0 + 15) l1)] S V nc ns) : j_ok n_KT 2 C G 19 [(0, (2, l0)), (1, (0, l1))] [] S V nc ns := by
  have E := n_E h
  refine j_aload_n E d1_30_19 rfl 0 rfl ?_
  refine j_getS (f := 0) (x := l0 + 1) (fg10_10 h) d1_30_20 c1 (by decide) rfl rfl ((L10_0 L c1).trans (by omega)) ?_
  refine j_getS (f := 1) (x := l0 + 15) (fg10_243 h) d1_30_23 (show S.1 (l0 + 1) = 30 from (by have q := L10_0k L c1; rw [show l0 + 1 = l0 + 1 by omega]; exact q)) (by decide) rfl rfl ((L9_1 L (show S.1 (l0 + 1) = 30 from (by have q := L10_0k L c1; rw [show l0 + 1 = l0 + 1 by omega]; exact q))).trans (by omega)) ?_
  refine j_iload_n E d1_30_26 rfl 1 rfl ?_
  refine j_aaload E d1_30_27 (show S.1 (l0 + 15) = 20 from (by have q := L9_1k L (show S.1 (l0 + 1) = 30 from (by have q := L10_0k L c1; rw [show l0 + 1 = l0 + 1 by omega]; exact q)); rw [show l0 + 15 = (l0 + 1) + 14 by omega]; exact q)) (by decide) rfl c2 c3 ?_
  exact j_pick [] rfl k
theorem t1_30_28 {C : qCx} {G : jG} {S : jS} {V : jH} {nc ns : Nat} {s0 : Int} {mc ms : Nat} {qf : Int → jS → jH → Prop} (h : x1_30 C G)  (R : j_Rr n_KT 2 C G b_1_30 mc ms qf) (q : qf s0 S V) (hc : nc ≤ mc) (hs : ns ≤ ms) : j_ok n_KT 2 C G 28 [] [(2, s0)] S V nc ns := by
  have E := n_E h
  exact R _ _ _ _ _ _ _ d1_30_28 q hc hs
/- BalanceCoder.isSign(I)Z -/
abbrev b_1_32 : ByteArray := prog_1_method_32_code
def y_1_32 : MethodName := ⟨"BalanceCoder", "isSign", "(I)Z"⟩
abbrev x1_32 (C : qCx) (G : jG) : Prop := n_ctx C b_1_32 1 "BalanceCoder" G.1 G.2.1
def M1_32 (l : Launch) (mc ms : Nat) (p : Int → jS → jH → Prop) (q : Int → jS → jH → Int → jS → jH → Prop) : Prop := j_Met l vwCl n_TL n_NW n_KT y_1_32 (Cond.code y_1_32 b_1_32 1 (some .boolean) :: n_GW) { frames := 1, cells := mc, slots := ms, locals := 26 } mc ms (fun a S V => ∃ u0 : Int, a = [(0, u0)] ∧ p u0 S V) (fun a S V rs S' V' => ∃ u0 r : Int, a = [(0, u0)] ∧ rs = [(0, r)] ∧ q u0 S V r S' V')
theorem e1_32 {l : Launch} {mc ms : Nat} {p : Int → jS → jH → Prop} {q : Int → jS → jH → Int → jS → jH → Prop} (body : ∀ (C : qCx) (G : jG), x1_32 C G → C.2.2.2.1.frames = 1 ∧ C.2.2.2.1.locals = 26 → C.2.2.2.1.cells = mc ∧ C.2.2.2.1.slots = ms → C.2.1 = l → C.2.2.2.2.2.2.2.2.1.name = "isSign" → ∀ (u0 : Int) (S : jS) (V : jH), p u0 S V → j_Rz n_KT 1 C G b_1_32 mc ms (q u0 S V) → j_ok n_KT 1 C G 0 [(0, (0, u0))] [] S V 0 0) : M1_32 l mc ms p q := by
  refine j_method (ws' := n_GW) (by decide) rfl ?_ ?_
  · rintro a S V ⟨u0, rfl, -⟩
    exact Nat.le_of_ble_eq_true rfl
  · rintro C G htl hl hrm hm hml ho hts hnm hE a S V ⟨u0, rfl, hp⟩ R
    exact body C G ⟨htl, hm, hml, ho, fun w hw => hts w (List.mem_cons_of_mem _ hw), hE⟩ (by rw [hrm]; exact ⟨rfl, rfl⟩) (by rw [hrm]; exact ⟨rfl, rfl⟩) hl hnm u0 S V hp (fun pc lo r S' V' nc ns d z q hc hs => R.2.2.1 rfl pc lo r S' V' nc ns d z ⟨u0, r, rfl, rfl, q⟩ hc hs)
theorem d1_32_0 : decode b_1_32 0 = .ok (.iload_n 0, 1) := by decide +kernel
theorem d1_32_1 : decode b_1_32 1 = .ok (.ifCond .lt 14, 3) := by decide +kernel
theorem d1_32_4 : decode b_1_32 4 = .ok (.iload_n 0, 1) := by decide +kernel
theorem d1_32_5 : decode b_1_32 5 = .ok (.sipush 256, 3) := by decide +kernel
theorem d1_32_8 : decode b_1_32 8 = .ok (.if_icmp .ge 7, 3) := by decide +kernel
theorem d1_32_11 : decode b_1_32 11 = .ok (.iconst 1, 1) := by decide +kernel
theorem d1_32_12 : decode b_1_32 12 = .ok (.goto 4, 3) := by decide +kernel
theorem d1_32_15 : decode b_1_32 15 = .ok (.iconst 0, 1) := by decide +kernel
theorem d1_32_16 : decode b_1_32 16 = .ok (.ireturn, 1) := by decide +kernel
theorem t1_32_0 {C : qCx} {G : jG} {S : jS} {V : jH} {nc ns : Nat} {l0 : Int} (h : x1_32 C G)  (k : l0 < 0 → j_ok n_KT 1 C G 15 [] [] S V nc ns) (k' : 0 ≤ l0 → j_ok n_KT 1 C G 4 [(0, (0, l0))] [] S V nc ns) : j_ok n_KT 1 C G 0 [(0, (0, l0))] [] S V nc ns := by
  have E := n_E h
  refine j_iload_n E d1_32_0 rfl 0 rfl ?_
  exact j_if_lt E d1_32_1 (t := 15) rfl (fun q => j_pick [] rfl (k q)) (fun q => j_pick [0] rfl (k' q))
theorem t1_32_4 {C : qCx} {G : jG} {S : jS} {V : jH} {nc ns : Nat} {l0 : Int} (h : x1_32 C G)  (k : 256 ≤ l0 → j_ok n_KT 1 C G 15 [] [] S V nc ns) (k' : l0 < 256 → j_ok n_KT 1 C G 11 [] [] S V nc ns) : j_ok n_KT 1 C G 4 [(0, (0, l0))] [] S V nc ns := by
  have E := n_E h
  refine j_iload_n E d1_32_4 rfl 0 rfl ?_
  refine j_sipush E d1_32_5 (by decide) ?_
  exact j_icmp_ge E d1_32_8 (t := 15) rfl (fun q => j_pick [] rfl (k q)) (fun q => j_pick [] rfl (k' q))
theorem t1_32_11 {C : qCx} {G : jG} {S : jS} {V : jH} {nc ns : Nat} (h : x1_32 C G)  (k : j_ok n_KT 1 C G 16 [] [(0, 1)] S V nc ns) : j_ok n_KT 1 C G 11 [] [] S V nc ns := by
  have E := n_E h
  refine j_iconst E d1_32_11 (by decide) ?_
  refine j_goto E d1_32_12 (t := 16) rfl ?_
  exact j_pick [] rfl k
theorem t1_32_15 {C : qCx} {G : jG} {S : jS} {V : jH} {nc ns : Nat} (h : x1_32 C G)  (k : j_ok n_KT 1 C G 16 [] [(0, 0)] S V nc ns) : j_ok n_KT 1 C G 15 [] [] S V nc ns := by
  have E := n_E h
  refine j_iconst E d1_32_15 (by decide) ?_
  exact j_pick [] rfl k
theorem t1_32_16 {C : qCx} {G : jG} {S : jS} {V : jH} {nc ns : Nat} {s0 : Int} {mc ms : Nat} {qf : Int → jS → jH → Prop} (h : x1_32 C G)  (R : j_Rz n_KT 1 C G b_1_32 mc ms qf) (hz : 0 ≤ s0 ∧ s0 ≤ 1) (q : qf s0 S V) (hc : nc ≤ mc) (hs : ns ≤ ms) : j_ok n_KT 1 C G 16 [] [(0, s0)] S V nc ns := by
  have E := n_E h
  exact R _ _ _ _ _ _ _ d1_32_16 hz q hc hs
/- BalanceCoder$Deal.total()I -/
abbrev b_4_3 : ByteArray := prog_4_method_3_code
def y_4_3 : MethodName := ⟨"BalanceCoder$Deal", "total", "()I"⟩
abbrev x4_3 (C : qCx) (G : jG) : Prop := n_ctx C b_4_3 1 "BalanceCoder$Deal" G.1 G.2.1
def M4_3 (l : Launch) (mc ms : Nat) (p : Int → jS → jH → Prop) (q : Int → jS → jH → Int → jS → jH → Prop) : Prop := j_Met l vwCl n_TL n_NW n_KT y_4_3 (Cond.code y_4_3 b_4_3 1 (some .int) :: n_GW) { frames := 1, cells := mc, slots := ms, locals := 26 } mc ms (fun a S V => ∃ u0 : Int, a = [(2, u0)] ∧ S.1 u0 = 23 ∧ p u0 S V) (fun a S V rs S' V' => ∃ u0 r : Int, a = [(2, u0)] ∧ rs = [(0, r)] ∧ q u0 S V r S' V')
theorem e4_3 {l : Launch} {mc ms : Nat} {p : Int → jS → jH → Prop} {q : Int → jS → jH → Int → jS → jH → Prop} (body : ∀ (C : qCx) (G : jG), x4_3 C G → C.2.2.2.1.frames = 1 ∧ C.2.2.2.1.locals = 26 → C.2.2.2.1.cells = mc ∧ C.2.2.2.1.slots = ms → C.2.1 = l → C.2.2.2.2.2.2.2.2.1.name = "total" → ∀ (u0 : Int) (S : jS) (V : jH), S.1 u0 = 23 → p u0 S V → j_Ri n_KT 1 C G b_4_3 mc ms (q u0 S V) → j_ok n_KT 1 C G 0 [(0, (2, u0))] [] S V 0 0) : M4_3 l mc ms p q := by
  refine j_method (ws' := n_GW) (by decide) rfl ?_ ?_
  · rintro a S V ⟨u0, rfl, -⟩
    exact Nat.le_of_ble_eq_true rfl
  · rintro C G htl hl hrm hm hml ho hts hnm hE a S V ⟨u0, rfl, ht, hp⟩ R
    exact body C G ⟨htl, hm, hml, ho, fun w hw => hts w (List.mem_cons_of_mem _ hw), hE⟩ (by rw [hrm]; exact ⟨rfl, rfl⟩) (by rw [hrm]; exact ⟨rfl, rfl⟩) hl hnm u0 S V ht hp (fun pc lo r S' V' nc ns d q hc hs => R.2.1 rfl pc lo r S' V' nc ns d ⟨u0, r, rfl, rfl, q⟩ hc hs)
theorem d4_3_0 : decode b_4_3 0 = .ok (.aload_n 0, 1) := by decide +kernel
theorem d4_3_1 : decode b_4_3 1 = .ok (.getfield 9, 3) := by decide +kernel
theorem d4_3_4 : decode b_4_3 4 = .ok (.sipush 256, 3) := by decide +kernel
theorem d4_3_7 : decode b_4_3 7 = .ok (.iaload, 1) := by decide +kernel
theorem d4_3_8 : decode b_4_3 8 = .ok (.ireturn, 1) := by decide +kernel
theorem t4_3_0 {C : qCx} {G : jG} {S : jS} {V : jH} {nc ns : Nat} {l0 : Int} {mc ms : Nat} {qf : Int → jS → jH → Prop} (h : x4_3 C G) (L : j_L S) (c1 : S.1 l0 = 23) (R : j_Ri n_KT 1 C G b_4_3 mc ms qf) (q : qf (V (l0 + 1) 256) S V) (hc : nc ≤ mc) (hs : ns ≤ ms) : j_ok n_KT 1 C G 0 [(0, (2, l0))] [] S V nc ns := by
  have E := n_E h
  refine j_aload_n E d4_3_0 rfl 0 rfl ?_
  refine j_getS (f := 0) (x := l0 + 1) (fg2_9 h) d4_3_1 c1 (by decide) rfl rfl ((L2_0 L c1).trans (by omega)) ?_
  refine j_sipush E d4_3_4 (by decide) ?_
  refine j_iald E d4_3_7 (j_arr_of (show S.1 (l0 + 1) = 2 from (by have q := L2_0k L c1; rw [show l0 + 1 = l0 + 1 by omega]; exact q)) (by decide) rfl) (by decide) (by decide) ?_
  exact R _ _ _ _ _ _ _ d4_3_8 q hc hs
/- BalanceCoder$Deal.sharesOf(I)I -/
abbrev b_4_2 : ByteArray := prog_4_method_2_code
def y_4_2 : MethodName := ⟨"BalanceCoder$Deal", "sharesOf", "(I)I"⟩
abbrev x4_2 (C : qCx) (G : jG) : Prop := n_ctx C b_4_2 2 "BalanceCoder$Deal" G.1 G.2.1
def M4_2 (l : Launch) (mc ms : Nat) (p : Int → Int → jS → jH → Prop) (q : Int → Int → jS → jH → Int → jS → jH → Prop) : Prop := j_Met l vwCl n_TL n_NW n_KT y_4_2 (Cond.code y_4_2 b_4_2 2 (some .int) :: n_GW) { frames := 1, cells := mc, slots := ms, locals := 26 } mc ms (fun a S V => ∃ u0 u1 : Int, a = [(2, u0), (0, u1)] ∧ S.1 u0 = 23 ∧ p u0 u1 S V) (fun a S V rs S' V' => ∃ u0 u1 r : Int, a = [(2, u0), (0, u1)] ∧ rs = [(0, r)] ∧ q u0 u1 S V r S' V')
theorem e4_2 {l : Launch} {mc ms : Nat} {p : Int → Int → jS → jH → Prop} {q : Int → Int → jS → jH → Int → jS → jH → Prop} (body : ∀ (C : qCx) (G : jG), x4_2 C G → C.2.2.2.1.frames = 1 ∧ C.2.2.2.1.locals = 26 → C.2.2.2.1.cells = mc ∧ C.2.2.2.1.slots = ms → C.2.1 = l → C.2.2.2.2.2.2.2.2.1.name = "sharesOf" → ∀ (u0 u1 : Int) (S : jS) (V : jH), S.1 u0 = 23 → p u0 u1 S V → j_Ri n_KT 2 C G b_4_2 mc ms (q u0 u1 S V) → j_ok n_KT 2 C G 0 [(0, (2, u0)), (1, (0, u1))] [] S V 0 0) : M4_2 l mc ms p q := by
  refine j_method (ws' := n_GW) (by decide) rfl ?_ ?_
  · rintro a S V ⟨u0, u1, rfl, -⟩
    exact Nat.le_of_ble_eq_true rfl
  · rintro C G htl hl hrm hm hml ho hts hnm hE a S V ⟨u0, u1, rfl, ht, hp⟩ R
    exact body C G ⟨htl, hm, hml, ho, fun w hw => hts w (List.mem_cons_of_mem _ hw), hE⟩ (by rw [hrm]; exact ⟨rfl, rfl⟩) (by rw [hrm]; exact ⟨rfl, rfl⟩) hl hnm u0 u1 S V ht hp (fun pc lo r S' V' nc ns d q hc hs => R.2.1 rfl pc lo r S' V' nc ns d ⟨u0, u1, r, rfl, rfl, q⟩ hc hs)
theorem d4_2_0 : decode b_4_2 0 = .ok (.aload_n 0, 1) := by decide +kernel
theorem d4_2_1 : decode b_4_2 1 = .ok (.getfield 9, 3) := by decide +kernel
theorem d4_2_4 : decode b_4_2 4 = .ok (.iload_n 1, 1) := by decide +kernel
theorem d4_2_5 : decode b_4_2 5 = .ok (.iconst 1, 1) := by decide +kernel
theorem d4_2_6 : decode b_4_2 6 = .ok (.iadd, 1) := by decide +kernel
theorem d4_2_7 : decode b_4_2 7 = .ok (.iaload, 1) := by decide +kernel
theorem d4_2_8 : decode b_4_2 8 = .ok (.aload_n 0, 1) := by decide +kernel
theorem d4_2_9 : decode b_4_2 9 = .ok (.getfield 9, 3) := by decide +kernel
theorem d4_2_12 : decode b_4_2 12 = .ok (.iload_n 1, 1) := by decide +kernel
theorem d4_2_13 : decode b_4_2 13 = .ok (.iaload, 1) := by decide +kernel
theorem d4_2_14 : decode b_4_2 14 = .ok (.isub, 1) := by decide +kernel
theorem d4_2_15 : decode b_4_2 15 = .ok (.ireturn, 1) := by decide +kernel
theorem t4_2_0 {C : qCx} {G : jG} {S : jS} {V : jH} {nc ns : Nat} {l0 l1 : Int} {mc ms : Nat} {qf : Int → jS → jH → Prop} (h : x4_2 C G) (L : j_L S) (c1 : S.1 l0 = 23) (c2 : -2147483648 ≤ l1 + 1 ∧ l1 + 1 ≤ 2147483647) (c3 : 0 ≤ l1 + 1) (c4 : l1 + 1 < 257) (c5 : 0 ≤ l1) (c6 : l1 < 257) (c7 : -2147483648 ≤ (V (l0 + 1) (l1 + 1)) - (V (l0 + 1) l1) ∧ (V (l0 + 1) (l1 + 1)) - (V (l0 + 1) l1) ≤ 2147483647) (R : j_Ri n_KT 2 C G b_4_2 mc ms qf) (q : qf ((V (l0 + 1) (l1 + 1)) - (V (l0 + 1) l1)) S V) (hc : nc ≤ mc) (hs : ns ≤ ms) : j_ok n_KT 2 C G 0 [(0, (2, l0)), (1, (0, l1))] [] S V nc ns := by
  have E := n_E h
  refine j_aload_n E d4_2_0 rfl 0 rfl ?_
  refine j_getS (f := 0) (x := l0 + 1) (fg2_9 h) d4_2_1 c1 (by decide) rfl rfl ((L2_0 L c1).trans (by omega)) ?_
  refine j_iload_n E d4_2_4 rfl 1 rfl ?_
  refine j_iconst E d4_2_5 (by decide) ?_
  refine j_iadd E d4_2_6 c2 ?_
  refine j_iald E d4_2_7 (j_arr_of (show S.1 (l0 + 1) = 2 from (by have q := L2_0k L c1; rw [show l0 + 1 = l0 + 1 by omega]; exact q)) (by decide) rfl) c3 c4 ?_
  refine j_aload_n E d4_2_8 rfl 0 rfl ?_
  refine j_getS (f := 0) (x := l0 + 1) (fg2_9 h) d4_2_9 c1 (by decide) rfl rfl ((L2_0 L c1).trans (by omega)) ?_
  refine j_iload_n E d4_2_12 rfl 1 rfl ?_
  refine j_iald E d4_2_13 (j_arr_of (show S.1 (l0 + 1) = 2 from (by have q := L2_0k L c1; rw [show l0 + 1 = l0 + 1 by omega]; exact q)) (by decide) rfl) c5 c6 ?_
  refine j_isub E d4_2_14 c7 ?_
  exact R _ _ _ _ _ _ _ d4_2_15 q hc hs
/- BalanceCoder$Deal.raise(III)V -/
abbrev b_4_12 : ByteArray := prog_4_method_12_code
def y_4_12 : MethodName := ⟨"BalanceCoder$Deal", "raise", "(III)V"⟩
abbrev x4_12 (C : qCx) (G : jG) : Prop := n_ctx C b_4_12 5 "BalanceCoder$Deal" G.1 G.2.1
def M4_12 (l : Launch) (mc ms : Nat) (p : Int → Int → Int → Int → jS → jH → Prop) (q : Int → Int → Int → Int → jS → jH → jS → jH → Prop) : Prop := j_Met l vwCl n_TL n_NW n_KT y_4_12 (Cond.code y_4_12 b_4_12 5 none :: n_GW) { frames := 1, cells := mc, slots := ms, locals := 26 } mc ms (fun a S V => ∃ u0 u1 u2 u3 : Int, a = [(2, u0), (0, u1), (0, u2), (0, u3)] ∧ S.1 u0 = 23 ∧ p u0 u1 u2 u3 S V) (fun a S V rs S' V' => ∃ u0 u1 u2 u3 : Int, a = [(2, u0), (0, u1), (0, u2), (0, u3)] ∧ rs = [] ∧ q u0 u1 u2 u3 S V S' V')
theorem e4_12 {l : Launch} {mc ms : Nat} {p : Int → Int → Int → Int → jS → jH → Prop} {q : Int → Int → Int → Int → jS → jH → jS → jH → Prop} (body : ∀ (C : qCx) (G : jG), x4_12 C G → C.2.2.2.1.frames = 1 ∧ C.2.2.2.1.locals = 26 → C.2.2.2.1.cells = mc ∧ C.2.2.2.1.slots = ms → C.2.1 = l → C.2.2.2.2.2.2.2.2.1.name = "raise" → ∀ (u0 u1 u2 u3 : Int) (S : jS) (V : jH), S.1 u0 = 23 → p u0 u1 u2 u3 S V → j_Rv n_KT 5 C G b_4_12 mc ms (q u0 u1 u2 u3 S V) → j_ok n_KT 5 C G 0 [(0, (2, u0)), (1, (0, u1)), (2, (0, u2)), (3, (0, u3))] [] S V 0 0) : M4_12 l mc ms p q := by
  refine j_method (ws' := n_GW) (by decide) rfl ?_ ?_
  · rintro a S V ⟨u0, u1, u2, u3, rfl, -⟩
    exact Nat.le_of_ble_eq_true rfl
  · rintro C G htl hl hrm hm hml ho hts hnm hE a S V ⟨u0, u1, u2, u3, rfl, ht, hp⟩ R
    exact body C G ⟨htl, hm, hml, ho, fun w hw => hts w (List.mem_cons_of_mem _ hw), hE⟩ (by rw [hrm]; exact ⟨rfl, rfl⟩) (by rw [hrm]; exact ⟨rfl, rfl⟩) hl hnm u0 u1 u2 u3 S V ht hp (fun pc lo S' V' nc ns d q hc hs => R.1 rfl pc lo S' V' nc ns d ⟨u0, u1, u2, u3, rfl, rfl, q⟩ hc hs)
theorem d4_12_0 : decode b_4_12 0 = .ok (.iload_n 1, 1) := by decide +kernel
theorem d4_12_1 : decode b_4_12 1 = .ok (.iconst 1, 1) := by decide +kernel
theorem d4_12_2 : decode b_4_12 2 = .ok (.iadd, 1) := by decide +kernel
theorem d4_12_3 : decode b_4_12 3 = .ok (.istore 4, 2) := by decide +kernel
theorem d4_12_5 : decode b_4_12 5 = .ok (.iload 4, 2) := by decide +kernel
theorem d4_12_7 : decode b_4_12 7 = .ok (.iload_n 2, 1) := by decide +kernel
theorem d4_12_8 : decode b_4_12 8 = .ok (.if_icmp .gt 20, 3) := by decide +kernel
theorem d4_12_11 : decode b_4_12 11 = .ok (.aload_n 0, 1) := by decide +kernel
theorem d4_12_12 : decode b_4_12 12 = .ok (.getfield 9, 3) := by decide +kernel
theorem d4_12_15 : decode b_4_12 15 = .ok (.iload 4, 2) := by decide +kernel
theorem d4_12_17 : decode b_4_12 17 = .ok (.dup2, 1) := by decide +kernel
theorem d4_12_18 : decode b_4_12 18 = .ok (.iaload, 1) := by decide +kernel
theorem d4_12_19 : decode b_4_12 19 = .ok (.iload_n 3, 1) := by decide +kernel
theorem d4_12_20 : decode b_4_12 20 = .ok (.iadd, 1) := by decide +kernel
theorem d4_12_21 : decode b_4_12 21 = .ok (.iastore, 1) := by decide +kernel
theorem d4_12_22 : decode b_4_12 22 = .ok (.iinc 4 1, 3) := by decide +kernel
theorem d4_12_25 : decode b_4_12 25 = .ok (.goto (-20), 3) := by decide +kernel
theorem d4_12_28 : decode b_4_12 28 = .ok (.return_, 1) := by decide +kernel
theorem t4_12_0 {C : qCx} {G : jG} {S : jS} {V : jH} {nc ns : Nat} {l0 l1 l2 l3 : Int} (h : x4_12 C G) (c1 : -2147483648 ≤ l1 + 1 ∧ l1 + 1 ≤ 2147483647) (k : j_ok n_KT 5 C G 5 [(0, (2, l0)), (2, (0, l2)), (3, (0, l3)), (4, (0, l1 + 1))] [] S V nc ns) : j_ok n_KT 5 C G 0 [(0, (2, l0)), (1, (0, l1)), (2, (0, l2)), (3, (0, l3))] [] S V nc ns := by
  have E := n_E h
  refine j_iload_n E d4_12_0 rfl 1 rfl ?_
  refine j_iconst E d4_12_1 (by decide) ?_
  refine j_iadd E d4_12_2 c1 ?_
  refine j_istore E d4_12_3 (by decide) (lo1 := [(0, (2, l0)), (1, (0, l1)), (2, (0, l2)), (3, (0, l3))]) rfl ?_
  exact j_pick [1, 3, 4, 0] rfl k
theorem t4_12_5 {C : qCx} {G : jG} {S : jS} {V : jH} {nc ns : Nat} {l0 l2 l3 l4 : Int} (h : x4_12 C G)  (k : l2 < l4 → j_ok n_KT 5 C G 28 [] [] S V nc ns) (k' : l4 ≤ l2 → j_ok n_KT 5 C G 11 [(0, (2, l0)), (2, (0, l2)), (3, (0, l3)), (4, (0, l4))] [] S V nc ns) : j_ok n_KT 5 C G 5 [(0, (2, l0)), (2, (0, l2)), (3, (0, l3)), (4, (0, l4))] [] S V nc ns := by
  have E := n_E h
  refine j_iload E d4_12_5 3 rfl ?_
  refine j_iload_n E d4_12_7 rfl 1 rfl ?_
  exact j_icmp_gt E d4_12_8 (t := 28) rfl (fun q => j_pick [] rfl (k q)) (fun q => j_pick [0, 1, 2, 3] rfl (k' q))
theorem t4_12_11 {C : qCx} {G : jG} {S : jS} {V : jH} {nc ns : Nat} {l0 l2 l3 l4 : Int} (h : x4_12 C G) (L : j_L S) (c1 : S.1 l0 = 23) (c2 : 0 ≤ l4) (c3 : l4 < 257) (c4 : -2147483648 ≤ (V (l0 + 1) l4) + l3 ∧ (V (l0 + 1) l4) + l3 ≤ 2147483647) (c5 : -2147483648 ≤ l4 + 1 ∧ l4 + 1 ≤ 2147483647) (k : j_ok n_KT 5 C G 5 [(0, (2, l0)), (2, (0, l2)), (3, (0, l3)), (4, (0, l4 + 1))] [] S (j_up V (l0 + 1) l4 ((V (l0 + 1) l4) + l3)) nc ns) : j_ok n_KT 5 C G 11 [(0, (2, l0)), (2, (0, l2)), (3, (0, l3)), (4, (0, l4))] [] S V nc ns := by
  have E := n_E h
  refine j_aload_n E d4_12_11 rfl 0 rfl ?_
  refine j_getS (f := 0) (x := l0 + 1) (fg2_9 h) d4_12_12 c1 (by decide) rfl rfl ((L2_0 L c1).trans (by omega)) ?_
  refine j_iload E d4_12_15 3 rfl ?_
  refine j_dup2 E d4_12_17 rfl rfl ?_
  refine j_iald E d4_12_18 (j_arr_of (show S.1 (l0 + 1) = 2 from (by have q := L2_0k L c1; rw [show l0 + 1 = l0 + 1 by omega]; exact q)) (by decide) rfl) c2 c3 ?_
  refine j_iload_n E d4_12_19 rfl 2 rfl ?_
  refine j_iadd E d4_12_20 c4 ?_
  refine j_iast E d4_12_21 (j_arr_of (show S.1 (l0 + 1) = 2 from (by have q := L2_0k L c1; rw [show l0 + 1 = l0 + 1 by omega]; exact q)) (by decide) rfl) c2 c3 ?_
  refine j_iinc E d4_12_22 (by decide) (by decide) 3 rfl (lo1 := [(0, (2, l0)), (2, (0, l2)), (3, (0, l3))]) rfl c5 ?_
  refine j_goto E d4_12_25 (t := 5) rfl ?_
  exact j_pick [1, 2, 3, 0] rfl k
theorem t4_12_28 {C : qCx} {G : jG} {S : jS} {V : jH} {nc ns : Nat} {mc ms : Nat} {qf : jS → jH → Prop} (h : x4_12 C G)  (R : j_Rv n_KT 5 C G b_4_12 mc ms qf) (q : qf S V) (hc : nc ≤ mc) (hs : ns ≤ ms) : j_ok n_KT 5 C G 28 [] [] S V nc ns := by
  have E := n_E h
  exact R _ _ _ _ _ _ d4_12_28 q hc hs
/- BalanceCoder$Deal.setShares(II)V -/
abbrev b_4_9 : ByteArray := prog_4_method_9_code
def y_4_9 : MethodName := ⟨"BalanceCoder$Deal", "setShares", "(II)V"⟩
abbrev x4_9 (C : qCx) (G : jG) : Prop := n_ctx C b_4_9 3 "BalanceCoder$Deal" G.1 G.2.1
def M4_9 (l : Launch) (mc ms : Nat) (p : Int → Int → Int → jS → jH → Prop) (q : Int → Int → Int → jS → jH → jS → jH → Prop) : Prop := j_Met l vwCl n_TL n_NW n_KT y_4_9 (Cond.code y_4_9 b_4_9 3 none :: n_GW) { frames := 2, cells := mc, slots := ms, locals := 50 } mc ms (fun a S V => ∃ u0 u1 u2 : Int, a = [(2, u0), (0, u1), (0, u2)] ∧ S.1 u0 = 23 ∧ p u0 u1 u2 S V) (fun a S V rs S' V' => ∃ u0 u1 u2 : Int, a = [(2, u0), (0, u1), (0, u2)] ∧ rs = [] ∧ q u0 u1 u2 S V S' V')
theorem e4_9 {l : Launch} {mc ms : Nat} {p : Int → Int → Int → jS → jH → Prop} {q : Int → Int → Int → jS → jH → jS → jH → Prop} (body : ∀ (C : qCx) (G : jG), x4_9 C G → C.2.2.2.1.frames = 2 ∧ C.2.2.2.1.locals = 50 → C.2.2.2.1.cells = mc ∧ C.2.2.2.1.slots = ms → C.2.1 = l → C.2.2.2.2.2.2.2.2.1.name = "setShares" → ∀ (u0 u1 u2 : Int) (S : jS) (V : jH), S.1 u0 = 23 → p u0 u1 u2 S V → j_Rv n_KT 3 C G b_4_9 mc ms (q u0 u1 u2 S V) → j_ok n_KT 3 C G 0 [(0, (2, u0)), (1, (0, u1)), (2, (0, u2))] [] S V 0 0) : M4_9 l mc ms p q := by
  refine j_method (ws' := n_GW) (by decide) rfl ?_ ?_
  · rintro a S V ⟨u0, u1, u2, rfl, -⟩
    exact Nat.le_of_ble_eq_true rfl
  · rintro C G htl hl hrm hm hml ho hts hnm hE a S V ⟨u0, u1, u2, rfl, ht, hp⟩ R
    exact body C G ⟨htl, hm, hml, ho, fun w hw => hts w (List.mem_cons_of_mem _ hw), hE⟩ (by rw [hrm]; exact ⟨rfl, rfl⟩) (by rw [hrm]; exact ⟨rfl, rfl⟩) hl hnm u0 u1 u2 S V ht hp (fun pc lo S' V' nc ns d q hc hs => R.1 rfl pc lo S' V' nc ns d ⟨u0, u1, u2, rfl, rfl, q⟩ hc hs)
theorem d4_9_0 : decode b_4_9 0 = .ok (.aload_n 0, 1) := by decide +kernel
theorem d4_9_1 : decode b_4_9 1 = .ok (.iload_n 1, 1) := by decide +kernel
theorem d4_9_2 : decode b_4_9 2 = .ok (.sipush 256, 3) := by decide +kernel
theorem d4_9_5 : decode b_4_9 5 = .ok (.iload_n 2, 1) := by decide +kernel
theorem d4_9_6 : decode b_4_9 6 = .ok (.aload_n 0, 1) := by decide +kernel
theorem d4_9_7 : decode b_4_9 7 = .ok (.iload_n 1, 1) := by decide +kernel
theorem d4_9_8 : decode b_4_9 8 = .ok (.invokevirtual 15, 3) := by decide +kernel
theorem d4_9_11 : decode b_4_9 11 = .ok (.isub, 1) := by decide +kernel
theorem d4_9_12 : decode b_4_9 12 = .ok (.invokevirtual 40, 3) := by decide +kernel
theorem d4_9_15 : decode b_4_9 15 = .ok (.return_, 1) := by decide +kernel
theorem K4_9_8 {C : qCx} {G : jG} {mc ms : Nat} {p : Int → Int → jS → jH → Prop} {q : Int → Int → jS → jH → Int → jS → jH → Prop} (h : x4_9 C G) (hrm : C.2.2.2.1.frames = 2 ∧ C.2.2.2.1.locals = 50) (hM : M4_2 C.2.1 mc ms p q) : j_Call C b_4_9 n_KT G.1 G.2.1 3 (.invokevirtual 15) mc ms (fun a S V => ∃ u0 u1 : Int, a = [(2, u0), (0, u1)] ∧ S.1 u0 = 23 ∧ p u0 u1 S V) (fun a S V rs S' V' => ∃ u0 u1 r : Int, a = [(2, u0), (0, u1)] ∧ rs = [(0, r)] ∧ q u0 u1 S V r S' V') := j_callV n_NWk h.2.2.2.2.2 h.1 hM ⟨h.2.1.1, h.2.1.2, h.2.2.1, h.2.2.2.1, h.2.2.2.2.1⟩ ⟨n_CB (y := y_4_2) (bytes := b_4_2) 1 h.2.2.2.2.1 n_w379 n_w384 n_w8 ⟨by decide, by decide, by decide +kernel⟩ rfl rfl ⟨by rw [hrm.1]; exact Nat.le_of_ble_eq_true rfl, by rw [hrm.2]; exact Nat.le_of_ble_eq_true rfl⟩, h.2.2.2.2.1 _ n_w377, h.2.2.2.2.1 _ n_w378⟩ (Cn := RX2) (fun a S V hP => by obtain ⟨u0, u1, rfl, e, -⟩ := hP; exact ⟨u0, _, 2, _, _, TX2, 1, rfl, rfl, by rw [e]; decide, by rw [e]; rfl, rfl⟩)
theorem K4_9_12 {C : qCx} {G : jG} {mc ms : Nat} {p : Int → Int → Int → Int → jS → jH → Prop} {q : Int → Int → Int → Int → jS → jH → jS → jH → Prop} (h : x4_9 C G) (hrm : C.2.2.2.1.frames = 2 ∧ C.2.2.2.1.locals = 50) (hM : M4_12 C.2.1 mc ms p q) : j_Call C b_4_9 n_KT G.1 G.2.1 3 (.invokevirtual 40) mc ms (fun a S V => ∃ u0 u1 u2 u3 : Int, a = [(2, u0), (0, u1), (0, u2), (0, u3)] ∧ S.1 u0 = 23 ∧ p u0 u1 u2 u3 S V) (fun a S V rs S' V' => ∃ u0 u1 u2 u3 : Int, a = [(2, u0), (0, u1), (0, u2), (0, u3)] ∧ rs = [] ∧ q u0 u1 u2 u3 S V S' V') := j_callV n_NWk h.2.2.2.2.2 h.1 hM ⟨h.2.1.1, h.2.1.2, h.2.2.1, h.2.2.2.1, h.2.2.2.2.1⟩ ⟨n_CB (y := y_4_12) (bytes := b_4_12) 3 h.2.2.2.2.1 n_w388 n_w385 n_w8 ⟨by decide, by decide, by decide +kernel⟩ rfl rfl ⟨by rw [hrm.1]; exact Nat.le_of_ble_eq_true rfl, by rw [hrm.2]; exact Nat.le_of_ble_eq_true rfl⟩, h.2.2.2.2.1 _ n_w387, h.2.2.2.2.1 _ n_s3⟩ (Cn := RX2) (fun a S V hP => by obtain ⟨u0, u1, u2, u3, rfl, e, -⟩ := hP; exact ⟨u0, _, 2, _, _, TX2, 1, rfl, rfl, by rw [e]; decide, by rw [e]; rfl, rfl⟩)
theorem t4_9_0 {C : qCx} {G : jG} {S : jS} {V : jH} {nc ns : Nat} {l0 l1 l2 : Int} {mc ms : Nat} {pp : Int → Int → jS → jH → Prop} {qq : Int → Int → jS → jH → Int → jS → jH → Prop} (h : x4_9 C G) (hrm : C.2.2.2.1.frames = 2 ∧ C.2.2.2.1.locals = 50) (c1 : S.1 l0 = 23) (hM : M4_2 C.2.1 mc ms pp qq) (hp : pp l0 l1 S V) (hc : nc + mc ≤ C.2.2.2.1.cells) (hs : ns + ms ≤ C.2.2.2.1.slots) (k : ∀ (r : Int) (S' : jS) (V' : jH), qq l0 l1 S V r S' V' → j_ok n_KT 3 C G 11 [] [(0, r), (0, l2), (0, 256), (0, l1), (2, l0)] S' V' (nc + mc) (ns + ms)) : j_ok n_KT 3 C G 0 [(0, (2, l0)), (1, (0, l1)), (2, (0, l2))] [] S V nc ns := by
  have E := n_E h
  refine j_aload_n E d4_9_0 rfl 0 rfl ?_
  refine j_iload_n E d4_9_1 rfl 1 rfl ?_
  refine j_sipush E d4_9_2 (by decide) ?_
  refine j_iload_n E d4_9_5 rfl 2 rfl ?_
  refine j_aload_n E d4_9_6 rfl 0 rfl ?_
  refine j_iload_n E d4_9_7 rfl 1 rfl ?_
  refine j_call E (K4_9_8 h hrm hM) d4_9_8 (a := [(2, l0), (0, l1)]) (sk := [(0, l2), (0, 256), (0, l1), (2, l0)]) rfl ⟨l0, l1, rfl, c1, hp⟩ (Nat.le_of_ble_eq_true rfl) hc hs ?_
  rintro rs S' V' ⟨z0, z1, r, e1, rfl, q⟩
  simp only [List.cons.injEq, Prod.mk.injEq, and_true, true_and] at e1
  obtain ⟨rfl, rfl⟩ := e1
  exact j_pick [] rfl (k r S' V' q)
theorem t4_9_11 {C : qCx} {G : jG} {S : jS} {V : jH} {nc ns : Nat} {s0 s1 s2 s3 s4 : Int} {mc ms : Nat} {pp : Int → Int → Int → Int → jS → jH → Prop} {qq : Int → Int → Int → Int → jS → jH → jS → jH → Prop} (h : x4_9 C G) (hrm : C.2.2.2.1.frames = 2 ∧ C.2.2.2.1.locals = 50) (c1 : -2147483648 ≤ s1 - s0 ∧ s1 - s0 ≤ 2147483647) (c2 : S.1 s4 = 23) (hM : M4_12 C.2.1 mc ms pp qq) (hp : pp s4 s3 s2 (s1 - s0) S V) (hc : nc + mc ≤ C.2.2.2.1.cells) (hs : ns + ms ≤ C.2.2.2.1.slots) (k : ∀ (S' : jS) (V' : jH), qq s4 s3 s2 (s1 - s0) S V S' V' → j_ok n_KT 3 C G 15 [] [] S' V' (nc + mc) (ns + ms)) : j_ok n_KT 3 C G 11 [] [(0, s0), (0, s1), (0, s2), (0, s3), (2, s4)] S V nc ns := by
  have E := n_E h
  refine j_isub E d4_9_11 c1 ?_
  refine j_call E (K4_9_12 h hrm hM) d4_9_12 (a := [(2, s4), (0, s3), (0, s2), (0, s1 - s0)]) (sk := []) rfl ⟨s4, s3, s2, s1 - s0, rfl, c2, hp⟩ (Nat.le_of_ble_eq_true rfl) hc hs ?_
  rintro rs S' V' ⟨z0, z1, z2, z3, e1, rfl, q⟩
  simp only [List.cons.injEq, Prod.mk.injEq, and_true, true_and] at e1
  obtain ⟨rfl, rfl, rfl, rfl⟩ := e1
  exact j_pick [] rfl (k S' V' q)
theorem t4_9_15 {C : qCx} {G : jG} {S : jS} {V : jH} {nc ns : Nat} {mc ms : Nat} {qf : jS → jH → Prop} (h : x4_9 C G)  (R : j_Rv n_KT 3 C G b_4_9 mc ms qf) (q : qf S V) (hc : nc ≤ mc) (hs : ns ≤ ms) : j_ok n_KT 3 C G 15 [] [] S V nc ns := by
  have E := n_E h
  exact R _ _ _ _ _ _ d4_9_15 q hc hs
/- BalanceCoder.share(III)I -/
abbrev b_1_7 : ByteArray := prog_1_method_7_code
def y_1_7 : MethodName := ⟨"BalanceCoder", "share", "(III)I"⟩
abbrev x1_7 (C : qCx) (G : jG) : Prop := n_ctx C b_1_7 6 "BalanceCoder" G.1 G.2.1
def M1_7 (l : Launch) (mc ms : Nat) (p : Int → Int → Int → Int → jS → jH → Prop) (q : Int → Int → Int → Int → jS → jH → Int → jS → jH → Prop) : Prop := j_Met l vwCl n_TL n_NW n_KT y_1_7 (Cond.code y_1_7 b_1_7 6 (some .int) :: n_GW) { frames := 3, cells := mc, slots := ms, locals := 72 } mc ms (fun a S V => ∃ u0 u1 u2 u3 : Int, a = [(2, u0), (0, u1), (0, u2), (0, u3)] ∧ S.1 u0 = 31 ∧ p u0 u1 u2 u3 S V) (fun a S V rs S' V' => ∃ u0 u1 u2 u3 r : Int, a = [(2, u0), (0, u1), (0, u2), (0, u3)] ∧ rs = [(0, r)] ∧ q u0 u1 u2 u3 S V r S' V')
theorem e1_7 {l : Launch} {mc ms : Nat} {p : Int → Int → Int → Int → jS → jH → Prop} {q : Int → Int → Int → Int → jS → jH → Int → jS → jH → Prop} (body : ∀ (C : qCx) (G : jG), x1_7 C G → C.2.2.2.1.frames = 3 ∧ C.2.2.2.1.locals = 72 → C.2.2.2.1.cells = mc ∧ C.2.2.2.1.slots = ms → C.2.1 = l → C.2.2.2.2.2.2.2.2.1.name = "share" → ∀ (u0 u1 u2 u3 : Int) (S : jS) (V : jH), S.1 u0 = 31 → p u0 u1 u2 u3 S V → j_Ri n_KT 6 C G b_1_7 mc ms (q u0 u1 u2 u3 S V) → j_ok n_KT 6 C G 0 [(0, (2, u0)), (1, (0, u1)), (2, (0, u2)), (3, (0, u3))] [] S V 0 0) : M1_7 l mc ms p q := by
  refine j_method (ws' := n_GW) (by decide) rfl ?_ ?_
  · rintro a S V ⟨u0, u1, u2, u3, rfl, -⟩
    exact Nat.le_of_ble_eq_true rfl
  · rintro C G htl hl hrm hm hml ho hts hnm hE a S V ⟨u0, u1, u2, u3, rfl, ht, hp⟩ R
    exact body C G ⟨htl, hm, hml, ho, fun w hw => hts w (List.mem_cons_of_mem _ hw), hE⟩ (by rw [hrm]; exact ⟨rfl, rfl⟩) (by rw [hrm]; exact ⟨rfl, rfl⟩) hl hnm u0 u1 u2 u3 S V ht hp (fun pc lo r S' V' nc ns d q hc hs => R.2.1 rfl pc lo r S' V' nc ns d ⟨u0, u1, u2, u3, r, rfl, rfl, q⟩ hc hs)
theorem d1_7_0 : decode b_1_7 0 = .ok (.aload_n 0, 1) := by decide +kernel
theorem d1_7_1 : decode b_1_7 1 = .ok (.iload_n 1, 1) := by decide +kernel
theorem d1_7_2 : decode b_1_7 2 = .ok (.invokevirtual 92, 3) := by decide +kernel
theorem d1_7_5 : decode b_1_7 5 = .ok (.astore 4, 2) := by decide +kernel
theorem d1_7_7 : decode b_1_7 7 = .ok (.aload 4, 2) := by decide +kernel
theorem d1_7_9 : decode b_1_7 9 = .ok (.ifnonnull 9, 3) := by decide +kernel
theorem d1_7_12 : decode b_1_7 12 = .ok (.aload_n 0, 1) := by decide +kernel
theorem d1_7_13 : decode b_1_7 13 = .ok (.iconst (-1), 1) := by decide +kernel
theorem d1_7_14 : decode b_1_7 14 = .ok (.invokevirtual 55, 3) := by decide +kernel
theorem d1_7_17 : decode b_1_7 17 = .ok (.ireturn, 1) := by decide +kernel
theorem d1_7_18 : decode b_1_7 18 = .ok (.aload 4, 2) := by decide +kernel
theorem d1_7_20 : decode b_1_7 20 = .ok (.getfield 95, 3) := by decide +kernel
theorem d1_7_23 : decode b_1_7 23 = .ok (.ifCond .eq 10, 3) := by decide +kernel
theorem d1_7_26 : decode b_1_7 26 = .ok (.aload_n 0, 1) := by decide +kernel
theorem d1_7_27 : decode b_1_7 27 = .ok (.bipush (-3), 2) := by decide +kernel
theorem d1_7_29 : decode b_1_7 29 = .ok (.invokevirtual 55, 3) := by decide +kernel
theorem d1_7_32 : decode b_1_7 32 = .ok (.ireturn, 1) := by decide +kernel
theorem d1_7_33 : decode b_1_7 33 = .ok (.iload_n 2, 1) := by decide +kernel
theorem d1_7_34 : decode b_1_7 34 = .ok (.invokestatic 98, 3) := by decide +kernel
theorem d1_7_37 : decode b_1_7 37 = .ok (.ifCond .eq 16, 3) := by decide +kernel
theorem d1_7_40 : decode b_1_7 40 = .ok (.iload_n 3, 1) := by decide +kernel
theorem d1_7_41 : decode b_1_7 41 = .ok (.ifCond .lt 12, 3) := by decide +kernel
theorem d1_7_44 : decode b_1_7 44 = .ok (.iload_n 3, 1) := by decide +kernel
theorem d1_7_45 : decode b_1_7 45 = .ok (.aload 4, 2) := by decide +kernel
theorem d1_7_47 : decode b_1_7 47 = .ok (.invokevirtual 101, 3) := by decide +kernel
theorem d1_7_50 : decode b_1_7 50 = .ok (.if_icmp .le 9, 3) := by decide +kernel
theorem d1_7_53 : decode b_1_7 53 = .ok (.aload_n 0, 1) := by decide +kernel
theorem d1_7_54 : decode b_1_7 54 = .ok (.iconst (-1), 1) := by decide +kernel
theorem d1_7_55 : decode b_1_7 55 = .ok (.invokevirtual 55, 3) := by decide +kernel
theorem d1_7_58 : decode b_1_7 58 = .ok (.ireturn, 1) := by decide +kernel
theorem d1_7_59 : decode b_1_7 59 = .ok (.aload 4, 2) := by decide +kernel
theorem d1_7_61 : decode b_1_7 61 = .ok (.getfield 105, 3) := by decide +kernel
theorem d1_7_64 : decode b_1_7 64 = .ok (.iconst 0, 1) := by decide +kernel
theorem d1_7_65 : decode b_1_7 65 = .ok (.aaload, 1) := by decide +kernel
theorem d1_7_66 : decode b_1_7 66 = .ok (.astore 5, 2) := by decide +kernel
theorem d1_7_68 : decode b_1_7 68 = .ok (.aload 5, 2) := by decide +kernel
theorem d1_7_70 : decode b_1_7 70 = .ok (.invokevirtual 109, 3) := by decide +kernel
theorem d1_7_73 : decode b_1_7 73 = .ok (.aload 5, 2) := by decide +kernel
theorem d1_7_75 : decode b_1_7 75 = .ok (.iload_n 2, 1) := by decide +kernel
theorem d1_7_76 : decode b_1_7 76 = .ok (.invokevirtual 114, 3) := by decide +kernel
theorem d1_7_79 : decode b_1_7 79 = .ok (.isub, 1) := by decide +kernel
theorem d1_7_80 : decode b_1_7 80 = .ok (.iload_n 3, 1) := by decide +kernel
theorem d1_7_81 : decode b_1_7 81 = .ok (.iadd, 1) := by decide +kernel
theorem d1_7_82 : decode b_1_7 82 = .ok (.aload 4, 2) := by decide +kernel
theorem d1_7_84 : decode b_1_7 84 = .ok (.invokevirtual 101, 3) := by decide +kernel
theorem d1_7_87 : decode b_1_7 87 = .ok (.if_icmp .le 10, 3) := by decide +kernel
theorem d1_7_90 : decode b_1_7 90 = .ok (.aload_n 0, 1) := by decide +kernel
theorem d1_7_91 : decode b_1_7 91 = .ok (.bipush (-2), 2) := by decide +kernel
theorem d1_7_93 : decode b_1_7 93 = .ok (.invokevirtual 55, 3) := by decide +kernel
theorem d1_7_96 : decode b_1_7 96 = .ok (.ireturn, 1) := by decide +kernel
theorem d1_7_97 : decode b_1_7 97 = .ok (.aload 5, 2) := by decide +kernel
theorem d1_7_99 : decode b_1_7 99 = .ok (.iload_n 2, 1) := by decide +kernel
theorem d1_7_100 : decode b_1_7 100 = .ok (.iload_n 3, 1) := by decide +kernel
theorem d1_7_101 : decode b_1_7 101 = .ok (.invokevirtual 117, 3) := by decide +kernel
theorem d1_7_104 : decode b_1_7 104 = .ok (.aload 5, 2) := by decide +kernel
theorem d1_7_106 : decode b_1_7 106 = .ok (.invokevirtual 109, 3) := by decide +kernel
theorem d1_7_109 : decode b_1_7 109 = .ok (.ireturn, 1) := by decide +kernel
theorem K1_7_2 {C : qCx} {G : jG} {mc ms : Nat} {p : Int → Int → jS → jH → Prop} {q : Int → Int → jS → jH → Int → jS → jH → Prop} (h : x1_7 C G) (hrm : C.2.2.2.1.frames = 3 ∧ C.2.2.2.1.locals = 72) (hM : M1_30 C.2.1 mc ms p q) : j_Call C b_1_7 n_KT G.1 G.2.1 6 (.invokevirtual 92) mc ms (fun a S V => ∃ u0 u1 : Int, a = [(2, u0), (0, u1)] ∧ S.1 u0 = 31 ∧ p u0 u1 S V) (fun a S V rs S' V' => ∃ u0 u1 r : Int, a = [(2, u0), (0, u1)] ∧ rs = [(2, r)] ∧ q u0 u1 S V r S' V') := j_callV n_NWk h.2.2.2.2.2 h.1 hM ⟨h.2.1.1, h.2.1.2, h.2.2.1, h.2.2.2.1, h.2.2.2.2.1⟩ ⟨n_CB (y := y_1_30) (bytes := b_1_30) 1 h.2.2.2.2.1 n_w367 n_w364 n_w1 ⟨by decide, by decide, by decide +kernel⟩ rfl rfl ⟨by rw [hrm.1]; exact Nat.le_of_ble_eq_true rfl, by rw [hrm.2]; exact Nat.le_of_ble_eq_true rfl⟩, h.2.2.2.2.1 _ n_w366, h.2.2.2.2.1 _ n_s2⟩ (Cn := RX10) (fun a S V hP => by obtain ⟨u0, u1, rfl, e, -⟩ := hP; exact ⟨u0, _, 10, _, _, TX10, 8, rfl, rfl, by rw [e]; decide, by rw [e]; rfl, rfl⟩)
theorem K1_7_14 {C : qCx} {G : jG} {mc ms : Nat} {p : Int → Int → jS → jH → Prop} {q : Int → Int → jS → jH → Int → jS → jH → Prop} (h : x1_7 C G) (hrm : C.2.2.2.1.frames = 3 ∧ C.2.2.2.1.locals = 72) (hM : M1_27 C.2.1 mc ms p q) : j_Call C b_1_7 n_KT G.1 G.2.1 6 (.invokevirtual 55) mc ms (fun a S V => ∃ u0 u1 : Int, a = [(2, u0), (0, u1)] ∧ S.1 u0 = 31 ∧ p u0 u1 S V) (fun a S V rs S' V' => ∃ u0 u1 r : Int, a = [(2, u0), (0, u1)] ∧ rs = [(0, r)] ∧ q u0 u1 S V r S' V') := j_callV n_NWk h.2.2.2.2.2 h.1 hM ⟨h.2.1.1, h.2.1.2, h.2.2.1, h.2.2.2.1, h.2.2.2.2.1⟩ ⟨n_CB (y := y_1_27) (bytes := b_1_27) 1 h.2.2.2.2.1 n_w309 n_w306 n_w1 ⟨by decide, by decide, by decide +kernel⟩ rfl rfl ⟨by rw [hrm.1]; exact Nat.le_of_ble_eq_true rfl, by rw [hrm.2]; exact Nat.le_of_ble_eq_true rfl⟩, h.2.2.2.2.1 _ n_w308, h.2.2.2.2.1 _ n_s1⟩ (Cn := RX10) (fun a S V hP => by obtain ⟨u0, u1, rfl, e, -⟩ := hP; exact ⟨u0, _, 10, _, _, TX10, 8, rfl, rfl, by rw [e]; decide, by rw [e]; rfl, rfl⟩)
theorem K1_7_29 {C : qCx} {G : jG} {mc ms : Nat} {p : Int → Int → jS → jH → Prop} {q : Int → Int → jS → jH → Int → jS → jH → Prop} (h : x1_7 C G) (hrm : C.2.2.2.1.frames = 3 ∧ C.2.2.2.1.locals = 72) (hM : M1_27 C.2.1 mc ms p q) : j_Call C b_1_7 n_KT G.1 G.2.1 6 (.invokevirtual 55) mc ms (fun a S V => ∃ u0 u1 : Int, a = [(2, u0), (0, u1)] ∧ S.1 u0 = 31 ∧ p u0 u1 S V) (fun a S V rs S' V' => ∃ u0 u1 r : Int, a = [(2, u0), (0, u1)] ∧ rs = [(0, r)] ∧ q u0 u1 S V r S' V') := j_callV n_NWk h.2.2.2.2.2 h.1 hM ⟨h.2.1.1, h.2.1.2, h.2.2.1, h.2.2.2.1, h.2.2.2.2.1⟩ ⟨n_CB (y := y_1_27) (bytes := b_1_27) 1 h.2.2.2.2.1 n_w309 n_w306 n_w1 ⟨by decide, by decide, by decide +kernel⟩ rfl rfl ⟨by rw [hrm.1]; exact Nat.le_of_ble_eq_true rfl, by rw [hrm.2]; exact Nat.le_of_ble_eq_true rfl⟩, h.2.2.2.2.1 _ n_w308, h.2.2.2.2.1 _ n_s1⟩ (Cn := RX10) (fun a S V hP => by obtain ⟨u0, u1, rfl, e, -⟩ := hP; exact ⟨u0, _, 10, _, _, TX10, 8, rfl, rfl, by rw [e]; decide, by rw [e]; rfl, rfl⟩)
theorem K1_7_34 {C : qCx} {G : jG} {mc ms : Nat} {p : Int → jS → jH → Prop} {q : Int → jS → jH → Int → jS → jH → Prop} (h : x1_7 C G) (hrm : C.2.2.2.1.frames = 3 ∧ C.2.2.2.1.locals = 72) (hM : M1_32 C.2.1 mc ms p q) : j_Call C b_1_7 n_KT G.1 G.2.1 6 (.invokestatic 98) mc ms (fun a S V => ∃ u0 : Int, a = [(0, u0)] ∧ p u0 S V) (fun a S V rs S' V' => ∃ u0 r : Int, a = [(0, u0)] ∧ rs = [(0, r)] ∧ q u0 S V r S' V') := j_callS n_NWk h.2.2.2.2.2 h.1 hM ⟨h.2.1.1, h.2.1.2, h.2.2.1, h.2.2.2.1, h.2.2.2.2.1⟩ ⟨n_CB (y := y_1_32) (bytes := b_1_32) 1 h.2.2.2.2.1 n_w370 n_w368 n_w1 ⟨by decide, by decide, by decide +kernel⟩ rfl rfl ⟨by rw [hrm.1]; exact Nat.le_of_ble_eq_true rfl, by rw [hrm.2]; exact Nat.le_of_ble_eq_true rfl⟩, h.2.2.2.2.1 _ n_w369⟩ (fun a S V hP => by obtain ⟨u0, rfl, -⟩ := hP; rfl)
theorem K1_7_47 {C : qCx} {G : jG} {mc ms : Nat} {p : Int → jS → jH → Prop} {q : Int → jS → jH → Int → jS → jH → Prop} (h : x1_7 C G) (hrm : C.2.2.2.1.frames = 3 ∧ C.2.2.2.1.locals = 72) (hM : M10_4 C.2.1 mc ms p q) : j_Call C b_1_7 n_KT G.1 G.2.1 6 (.invokevirtual 101) mc ms (fun a S V => ∃ u0 : Int, a = [(2, u0)] ∧ S.1 u0 = 29 ∧ p u0 S V) (fun a S V rs S' V' => ∃ u0 r : Int, a = [(2, u0)] ∧ rs = [(0, r)] ∧ q u0 S V r S' V') := j_callV n_NWk h.2.2.2.2.2 h.1 hM ⟨h.2.1.1, h.2.1.2, h.2.2.1, h.2.2.2.1, h.2.2.2.2.1⟩ ⟨n_CB (y := y_10_4) (bytes := b_10_4) 0 h.2.2.2.2.1 n_w348 n_w371 n_w7 ⟨by decide, by decide, by decide +kernel⟩ rfl rfl ⟨by rw [hrm.1]; exact Nat.le_of_ble_eq_true rfl, by rw [hrm.2]; exact Nat.le_of_ble_eq_true rfl⟩, h.2.2.2.2.1 _ n_w346, h.2.2.2.2.1 _ n_w347⟩ (Cn := RX8) (fun a S V hP => by obtain ⟨u0, rfl, e, -⟩ := hP; exact ⟨u0, _, 8, _, _, TX8, 3, rfl, rfl, by rw [e]; decide, by rw [e]; rfl, rfl⟩)
theorem K1_7_55 {C : qCx} {G : jG} {mc ms : Nat} {p : Int → Int → jS → jH → Prop} {q : Int → Int → jS → jH → Int → jS → jH → Prop} (h : x1_7 C G) (hrm : C.2.2.2.1.frames = 3 ∧ C.2.2.2.1.locals = 72) (hM : M1_27 C.2.1 mc ms p q) : j_Call C b_1_7 n_KT G.1 G.2.1 6 (.invokevirtual 55) mc ms (fun a S V => ∃ u0 u1 : Int, a = [(2, u0), (0, u1)] ∧ S.1 u0 = 31 ∧ p u0 u1 S V) (fun a S V rs S' V' => ∃ u0 u1 r : Int, a = [(2, u0), (0, u1)] ∧ rs = [(0, r)] ∧ q u0 u1 S V r S' V') := j_callV n_NWk h.2.2.2.2.2 h.1 hM ⟨h.2.1.1, h.2.1.2, h.2.2.1, h.2.2.2.1, h.2.2.2.2.1⟩ ⟨n_CB (y := y_1_27) (bytes := b_1_27) 1 h.2.2.2.2.1 n_w309 n_w306 n_w1 ⟨by decide, by decide, by decide +kernel⟩ rfl rfl ⟨by rw [hrm.1]; exact Nat.le_of_ble_eq_true rfl, by rw [hrm.2]; exact Nat.le_of_ble_eq_true rfl⟩, h.2.2.2.2.1 _ n_w308, h.2.2.2.2.1 _ n_s1⟩ (Cn := RX10) (fun a S V hP => by obtain ⟨u0, u1, rfl, e, -⟩ := hP; exact ⟨u0, _, 10, _, _, TX10, 8, rfl, rfl, by rw [e]; decide, by rw [e]; rfl, rfl⟩)
theorem K1_7_70 {C : qCx} {G : jG} {mc ms : Nat} {p : Int → jS → jH → Prop} {q : Int → jS → jH → Int → jS → jH → Prop} (h : x1_7 C G) (hrm : C.2.2.2.1.frames = 3 ∧ C.2.2.2.1.locals = 72) (hM : M4_3 C.2.1 mc ms p q) : j_Call C b_1_7 n_KT G.1 G.2.1 6 (.invokevirtual 109) mc ms (fun a S V => ∃ u0 : Int, a = [(2, u0)] ∧ S.1 u0 = 23 ∧ p u0 S V) (fun a S V rs S' V' => ∃ u0 r : Int, a = [(2, u0)] ∧ rs = [(0, r)] ∧ q u0 S V r S' V') := j_callV n_NWk h.2.2.2.2.2 h.1 hM ⟨h.2.1.1, h.2.1.2, h.2.2.1, h.2.2.2.1, h.2.2.2.2.1⟩ ⟨n_CB (y := y_4_3) (bytes := b_4_3) 0 h.2.2.2.2.1 n_w375 n_w372 n_w8 ⟨by decide, by decide, by decide +kernel⟩ rfl rfl ⟨by rw [hrm.1]; exact Nat.le_of_ble_eq_true rfl, by rw [hrm.2]; exact Nat.le_of_ble_eq_true rfl⟩, h.2.2.2.2.1 _ n_w373, h.2.2.2.2.1 _ n_w374⟩ (Cn := RX2) (fun a S V hP => by obtain ⟨u0, rfl, e, -⟩ := hP; exact ⟨u0, _, 2, _, _, TX2, 1, rfl, rfl, by rw [e]; decide, by rw [e]; rfl, rfl⟩)
theorem K1_7_76 {C : qCx} {G : jG} {mc ms : Nat} {p : Int → Int → jS → jH → Prop} {q : Int → Int → jS → jH → Int → jS → jH → Prop} (h : x1_7 C G) (hrm : C.2.2.2.1.frames = 3 ∧ C.2.2.2.1.locals = 72) (hM : M4_2 C.2.1 mc ms p q) : j_Call C b_1_7 n_KT G.1 G.2.1 6 (.invokevirtual 114) mc ms (fun a S V => ∃ u0 u1 : Int, a = [(2, u0), (0, u1)] ∧ S.1 u0 = 23 ∧ p u0 u1 S V) (fun a S V rs S' V' => ∃ u0 u1 r : Int, a = [(2, u0), (0, u1)] ∧ rs = [(0, r)] ∧ q u0 u1 S V r S' V') := j_callV n_NWk h.2.2.2.2.2 h.1 hM ⟨h.2.1.1, h.2.1.2, h.2.2.1, h.2.2.2.1, h.2.2.2.2.1⟩ ⟨n_CB (y := y_4_2) (bytes := b_4_2) 1 h.2.2.2.2.1 n_w379 n_w376 n_w8 ⟨by decide, by decide, by decide +kernel⟩ rfl rfl ⟨by rw [hrm.1]; exact Nat.le_of_ble_eq_true rfl, by rw [hrm.2]; exact Nat.le_of_ble_eq_true rfl⟩, h.2.2.2.2.1 _ n_w377, h.2.2.2.2.1 _ n_w378⟩ (Cn := RX2) (fun a S V hP => by obtain ⟨u0, u1, rfl, e, -⟩ := hP; exact ⟨u0, _, 2, _, _, TX2, 1, rfl, rfl, by rw [e]; decide, by rw [e]; rfl, rfl⟩)
theorem K1_7_84 {C : qCx} {G : jG} {mc ms : Nat} {p : Int → jS → jH → Prop} {q : Int → jS → jH → Int → jS → jH → Prop} (h : x1_7 C G) (hrm : C.2.2.2.1.frames = 3 ∧ C.2.2.2.1.locals = 72) (hM : M10_4 C.2.1 mc ms p q) : j_Call C b_1_7 n_KT G.1 G.2.1 6 (.invokevirtual 101) mc ms (fun a S V => ∃ u0 : Int, a = [(2, u0)] ∧ S.1 u0 = 29 ∧ p u0 S V) (fun a S V rs S' V' => ∃ u0 r : Int, a = [(2, u0)] ∧ rs = [(0, r)] ∧ q u0 S V r S' V') := j_callV n_NWk h.2.2.2.2.2 h.1 hM ⟨h.2.1.1, h.2.1.2, h.2.2.1, h.2.2.2.1, h.2.2.2.2.1⟩ ⟨n_CB (y := y_10_4) (bytes := b_10_4) 0 h.2.2.2.2.1 n_w348 n_w371 n_w7 ⟨by decide, by decide, by decide +kernel⟩ rfl rfl ⟨by rw [hrm.1]; exact Nat.le_of_ble_eq_true rfl, by rw [hrm.2]; exact Nat.le_of_ble_eq_true rfl⟩, h.2.2.2.2.1 _ n_w346, h.2.2.2.2.1 _ n_w347⟩ (Cn := RX8) (fun a S V hP => by obtain ⟨u0, rfl, e, -⟩ := hP; exact ⟨u0, _, 8, _, _, TX8, 3, rfl, rfl, by rw [e]; decide, by rw [e]; rfl, rfl⟩)
theorem K1_7_93 {C : qCx} {G : jG} {mc ms : Nat} {p : Int → Int → jS → jH → Prop} {q : Int → Int → jS → jH → Int → jS → jH → Prop} (h : x1_7 C G) (hrm : C.2.2.2.1.frames = 3 ∧ C.2.2.2.1.locals = 72) (hM : M1_27 C.2.1 mc ms p q) : j_Call C b_1_7 n_KT G.1 G.2.1 6 (.invokevirtual 55) mc ms (fun a S V => ∃ u0 u1 : Int, a = [(2, u0), (0, u1)] ∧ S.1 u0 = 31 ∧ p u0 u1 S V) (fun a S V rs S' V' => ∃ u0 u1 r : Int, a = [(2, u0), (0, u1)] ∧ rs = [(0, r)] ∧ q u0 u1 S V r S' V') := j_callV n_NWk h.2.2.2.2.2 h.1 hM ⟨h.2.1.1, h.2.1.2, h.2.2.1, h.2.2.2.1, h.2.2.2.2.1⟩ ⟨n_CB (y := y_1_27) (bytes := b_1_27) 1 h.2.2.2.2.1 n_w309 n_w306 n_w1 ⟨by decide, by decide, by decide +kernel⟩ rfl rfl ⟨by rw [hrm.1]; exact Nat.le_of_ble_eq_true rfl, by rw [hrm.2]; exact Nat.le_of_ble_eq_true rfl⟩, h.2.2.2.2.1 _ n_w308, h.2.2.2.2.1 _ n_s1⟩ (Cn := RX10) (fun a S V hP => by obtain ⟨u0, u1, rfl, e, -⟩ := hP; exact ⟨u0, _, 10, _, _, TX10, 8, rfl, rfl, by rw [e]; decide, by rw [e]; rfl, rfl⟩)
theorem K1_7_101 {C : qCx} {G : jG} {mc ms : Nat} {p : Int → Int → Int → jS → jH → Prop} {q : Int → Int → Int → jS → jH → jS → jH → Prop} (h : x1_7 C G) (hrm : C.2.2.2.1.frames = 3 ∧ C.2.2.2.1.locals = 72) (hM : M4_9 C.2.1 mc ms p q) : j_Call C b_1_7 n_KT G.1 G.2.1 6 (.invokevirtual 117) mc ms (fun a S V => ∃ u0 u1 u2 : Int, a = [(2, u0), (0, u1), (0, u2)] ∧ S.1 u0 = 23 ∧ p u0 u1 u2 S V) (fun a S V rs S' V' => ∃ u0 u1 u2 : Int, a = [(2, u0), (0, u1), (0, u2)] ∧ rs = [] ∧ q u0 u1 u2 S V S' V') := j_callV n_NWk h.2.2.2.2.2 h.1 hM ⟨h.2.1.1, h.2.1.2, h.2.2.1, h.2.2.2.1, h.2.2.2.2.1⟩ ⟨n_CB (y := y_4_9) (bytes := b_4_9) 2 h.2.2.2.2.1 n_w383 n_w380 n_w8 ⟨by decide, by decide, by decide +kernel⟩ rfl rfl ⟨by rw [hrm.1]; exact Nat.le_of_ble_eq_true rfl, by rw [hrm.2]; exact Nat.le_of_ble_eq_true rfl⟩, h.2.2.2.2.1 _ n_w381, h.2.2.2.2.1 _ n_w382⟩ (Cn := RX2) (fun a S V hP => by obtain ⟨u0, u1, u2, rfl, e, -⟩ := hP; exact ⟨u0, _, 2, _, _, TX2, 1, rfl, rfl, by rw [e]; decide, by rw [e]; rfl, rfl⟩)
theorem K1_7_106 {C : qCx} {G : jG} {mc ms : Nat} {p : Int → jS → jH → Prop} {q : Int → jS → jH → Int → jS → jH → Prop} (h : x1_7 C G) (hrm : C.2.2.2.1.frames = 3 ∧ C.2.2.2.1.locals = 72) (hM : M4_3 C.2.1 mc ms p q) : j_Call C b_1_7 n_KT G.1 G.2.1 6 (.invokevirtual 109) mc ms (fun a S V => ∃ u0 : Int, a = [(2, u0)] ∧ S.1 u0 = 23 ∧ p u0 S V) (fun a S V rs S' V' => ∃ u0 r : Int, a = [(2, u0)] ∧ rs = [(0, r)] ∧ q u0 S V r S' V') := j_callV n_NWk h.2.2.2.2.2 h.1 hM ⟨h.2.1.1, h.2.1.2, h.2.2.1, h.2.2.2.1, h.2.2.2.2.1⟩ ⟨n_CB (y := y_4_3) (bytes := b_4_3) 0 h.2.2.2.2.1 n_w375 n_w372 n_w8 ⟨by decide, by decide, by decide +kernel⟩ rfl rfl ⟨by rw [hrm.1]; exact Nat.le_of_ble_eq_true rfl, by rw [hrm.2]; exact Nat.le_of_ble_eq_true rfl⟩, h.2.2.2.2.1 _ n_w373, h.2.2.2.2.1 _ n_w374⟩ (Cn := RX2) (fun a S V hP => by obtain ⟨u0, rfl, e, -⟩ := hP; exact ⟨u0, _, 2, _, _, TX2, 1, rfl, rfl, by rw [e]; decide, by rw [e]; rfl, rfl⟩)
theorem t1_7_0 {C : qCx} {G : jG} {S : jS} {V : jH} {nc ns : Nat} {l0 l1 l2 l3 : Int} {mc ms : Nat} {pp : Int → Int → jS → jH → Prop} {qq : Int → Int → jS → jH → Int → jS → jH → Prop} (h : x1_7 C G) (hrm : C.2.2.2.1.frames = 3 ∧ C.2.2.2.1.locals = 72) (c1 : S.1 l0 = 31) (hM : M1_30 C.2.1 mc ms pp qq) (hp : pp l0 l1 S V) (hc : nc + mc ≤ C.2.2.2.1.cells) (hs : ns + ms ≤ C.2.2.2.1.slots) (k : ∀ (r : Int) (S' : jS) (V' : jH), qq l0 l1 S V r S' V' → j_ok n_KT 6 C G 5 [(0, (2, l0)), (2, (0, l2)), (3, (0, l3))] [(2, r)] S' V' (nc + mc) (ns + ms)) : j_ok n_KT 6 C G 0 [(0, (2, l0)), (1, (0, l1)), (2, (0, l2)), (3, (0, l3))] [] S V nc ns := by
  have E := n_E h
  refine j_aload_n E d1_7_0 rfl 0 rfl ?_
  refine j_iload_n E d1_7_1 rfl 1 rfl ?_
  refine j_call E (K1_7_2 h hrm hM) d1_7_2 (a := [(2, l0), (0, l1)]) (sk := []) rfl ⟨l0, l1, rfl, c1, hp⟩ (Nat.le_of_ble_eq_true rfl) hc hs ?_
  rintro rs S' V' ⟨z0, z1, r, e1, rfl, q⟩
  simp only [List.cons.injEq, Prod.mk.injEq, and_true, true_and] at e1
  obtain ⟨rfl, rfl⟩ := e1
  exact j_pick [0, 2, 3] rfl (k r S' V' q)
theorem t1_7_5 {C : qCx} {G : jG} {S : jS} {V : jH} {nc ns : Nat} {l0 l2 l3 s0 : Int} (h : x1_7 C G)  (k : 0 ≤ s0 → S.1 s0 ≠ 0 → j_ok n_KT 6 C G 18 [(0, (2, l0)), (2, (0, l2)), (3, (0, l3)), (4, (2, s0))] [] S V nc ns) (k' : s0 = -1 → j_ok n_KT 6 C G 12 [(0, (2, l0))] [] S V nc ns) : j_ok n_KT 6 C G 5 [(0, (2, l0)), (2, (0, l2)), (3, (0, l3))] [(2, s0)] S V nc ns := by
  have E := n_E h
  refine j_astore E d1_7_5 (by decide) (lo1 := [(0, (2, l0)), (2, (0, l2)), (3, (0, l3))]) rfl ?_
  refine j_aload E d1_7_7 0 rfl ?_
  exact j_ifnonnull E d1_7_9 (t := 18) rfl (fun q q2 => j_pick [1, 2, 3, 0] rfl (k q q2)) (fun q => j_pick [1] rfl (k' q))
theorem t1_7_12 {C : qCx} {G : jG} {S : jS} {V : jH} {nc ns : Nat} {l0 : Int} {mc ms : Nat} {pp : Int → Int → jS → jH → Prop} {qq : Int → Int → jS → jH → Int → jS → jH → Prop} (h : x1_7 C G) (hrm : C.2.2.2.1.frames = 3 ∧ C.2.2.2.1.locals = 72) (c1 : S.1 l0 = 31) (hM : M1_27 C.2.1 mc ms pp qq) (hp : pp l0 ((-1)) S V) (hc : nc + mc ≤ C.2.2.2.1.cells) (hs : ns + ms ≤ C.2.2.2.1.slots) (k : ∀ (r : Int) (S' : jS) (V' : jH), qq l0 ((-1)) S V r S' V' → j_ok n_KT 6 C G 17 [] [(0, r)] S' V' (nc + mc) (ns + ms)) : j_ok n_KT 6 C G 12 [(0, (2, l0))] [] S V nc ns := by
  have E := n_E h
  refine j_aload_n E d1_7_12 rfl 0 rfl ?_
  refine j_iconst E d1_7_13 (by decide) ?_
  refine j_call E (K1_7_14 h hrm hM) d1_7_14 (a := [(2, l0), (0, (-1))]) (sk := []) rfl ⟨l0, (-1), rfl, c1, hp⟩ (Nat.le_of_ble_eq_true rfl) hc hs ?_
  rintro rs S' V' ⟨z0, z1, r, e1, rfl, q⟩
  simp only [List.cons.injEq, Prod.mk.injEq, and_true, true_and] at e1
  obtain ⟨rfl, rfl⟩ := e1
  exact j_pick [] rfl (k r S' V' q)
theorem t1_7_17 {C : qCx} {G : jG} {S : jS} {V : jH} {nc ns : Nat} {s0 : Int} {mc ms : Nat} {qf : Int → jS → jH → Prop} (h : x1_7 C G)  (R : j_Ri n_KT 6 C G b_1_7 mc ms qf) (q : qf s0 S V) (hc : nc ≤ mc) (hs : ns ≤ ms) : j_ok n_KT 6 C G 17 [] [(0, s0)] S V nc ns := by
  have E := n_E h
  exact R _ _ _ _ _ _ _ d1_7_17 q hc hs
theorem t1_7_18 {C : qCx} {G : jG} {S : jS} {V : jH} {nc ns : Nat} {l0 l2 l3 l4 : Int} (h : x1_7 C G) (c1 : S.1 l4 = 29) (k : V l4 1 = 0 → j_ok n_KT 6 C G 33 [(0, (2, l0)), (2, (0, l2)), (3, (0, l3)), (4, (2, l4))] [] S V nc ns) (k' : ¬ V l4 1 = 0 → j_ok n_KT 6 C G 26 [(0, (2, l0))] [] S V nc ns) : j_ok n_KT 6 C G 18 [(0, (2, l0)), (2, (0, l2)), (3, (0, l3)), (4, (2, l4))] [] S V nc ns := by
  have E := n_E h
  refine j_aload E d1_7_18 3 rfl ?_
  refine j_getI (f := 1) (fg10_95 h) d1_7_20 c1 (by decide) rfl rfl ?_
  exact j_if_eq E d1_7_23 (t := 33) rfl (fun q => j_pick [0, 1, 2, 3] rfl (k q)) (fun q => j_pick [0] rfl (k' q))
theorem t1_7_26 {C : qCx} {G : jG} {S : jS} {V : jH} {nc ns : Nat} {l0 : Int} {mc ms : Nat} {pp : Int → Int → jS → jH → Prop} {qq : Int → Int → jS → jH → Int → jS → jH → Prop} (h : x1_7 C G) (hrm : C.2.2.2.1.frames = 3 ∧ C.2.2.2.1.locals = 72) (c1 : S.1 l0 = 31) (hM : M1_27 C.2.1 mc ms pp qq) (hp : pp l0 ((-3)) S V) (hc : nc + mc ≤ C.2.2.2.1.cells) (hs : ns + ms ≤ C.2.2.2.1.slots) (k : ∀ (r : Int) (S' : jS) (V' : jH), qq l0 ((-3)) S V r S' V' → j_ok n_KT 6 C G 32 [] [(0, r)] S' V' (nc + mc) (ns + ms)) : j_ok n_KT 6 C G 26 [(0, (2, l0))] [] S V nc ns := by
  have E := n_E h
  refine j_aload_n E d1_7_26 rfl 0 rfl ?_
  refine j_bipush E d1_7_27 (by decide) ?_
  refine j_call E (K1_7_29 h hrm hM) d1_7_29 (a := [(2, l0), (0, (-3))]) (sk := []) rfl ⟨l0, (-3), rfl, c1, hp⟩ (Nat.le_of_ble_eq_true rfl) hc hs ?_
  rintro rs S' V' ⟨z0, z1, r, e1, rfl, q⟩
  simp only [List.cons.injEq, Prod.mk.injEq, and_true, true_and] at e1
  obtain ⟨rfl, rfl⟩ := e1
  exact j_pick [] rfl (k r S' V' q)
theorem t1_7_32 {C : qCx} {G : jG} {S : jS} {V : jH} {nc ns : Nat} {s0 : Int} {mc ms : Nat} {qf : Int → jS → jH → Prop} (h : x1_7 C G)  (R : j_Ri n_KT 6 C G b_1_7 mc ms qf) (q : qf s0 S V) (hc : nc ≤ mc) (hs : ns ≤ ms) : j_ok n_KT 6 C G 32 [] [(0, s0)] S V nc ns := by
  have E := n_E h
  exact R _ _ _ _ _ _ _ d1_7_32 q hc hs
theorem t1_7_33 {C : qCx} {G : jG} {S : jS} {V : jH} {nc ns : Nat} {l0 l2 l3 l4 : Int} {mc ms : Nat} {pp : Int → jS → jH → Prop} {qq : Int → jS → jH → Int → jS → jH → Prop} (h : x1_7 C G) (hrm : C.2.2.2.1.frames = 3 ∧ C.2.2.2.1.locals = 72)  (hM : M1_32 C.2.1 mc ms pp qq) (hp : pp l2 S V) (hc : nc + mc ≤ C.2.2.2.1.cells) (hs : ns + ms ≤ C.2.2.2.1.slots) (k : ∀ (r : Int) (S' : jS) (V' : jH), qq l2 S V r S' V' → j_ok n_KT 6 C G 37 [(0, (2, l0)), (2, (0, l2)), (3, (0, l3)), (4, (2, l4))] [(0, r)] S' V' (nc + mc) (ns + ms)) : j_ok n_KT 6 C G 33 [(0, (2, l0)), (2, (0, l2)), (3, (0, l3)), (4, (2, l4))] [] S V nc ns := by
  have E := n_E h
  refine j_iload_n E d1_7_33 rfl 1 rfl ?_
  refine j_call E (K1_7_34 h hrm hM) d1_7_34 (a := [(0, l2)]) (sk := []) rfl ⟨l2, rfl, hp⟩ (Nat.le_of_ble_eq_true rfl) hc hs ?_
  rintro rs S' V' ⟨z0, r, e1, rfl, q⟩
  simp only [List.cons.injEq, Prod.mk.injEq, and_true, true_and] at e1
  obtain ⟨rfl⟩ := e1
  exact j_pick [0, 1, 2, 3] rfl (k r S' V' q)
theorem t1_7_37 {C : qCx} {G : jG} {S : jS} {V : jH} {nc ns : Nat} {l0 l2 l3 l4 s0 : Int} (h : x1_7 C G)  (k : s0 = 0 → j_ok n_KT 6 C G 53 [(0, (2, l0))] [] S V nc ns) (k' : ¬ s0 = 0 → j_ok n_KT 6 C G 40 [(0, (2, l0)), (2, (0, l2)), (3, (0, l3)), (4, (2, l4))] [] S V nc ns) : j_ok n_KT 6 C G 37 [(0, (2, l0)), (2, (0, l2)), (3, (0, l3)), (4, (2, l4))] [(0, s0)] S V nc ns := by
  have E := n_E h
  exact j_if_eq E d1_7_37 (t := 53) rfl (fun q => j_pick [0] rfl (k q)) (fun q => j_pick [0, 1, 2, 3] rfl (k' q))
theorem t1_7_40 {C : qCx} {G : jG} {S : jS} {V : jH} {nc ns : Nat} {l0 l2 l3 l4 : Int} (h : x1_7 C G)  (k : l3 < 0 → j_ok n_KT 6 C G 53 [(0, (2, l0))] [] S V nc ns) (k' : 0 ≤ l3 → j_ok n_KT 6 C G 44 [(0, (2, l0)), (2, (0, l2)), (3, (0, l3)), (4, (2, l4))] [] S V nc ns) : j_ok n_KT 6 C G 40 [(0, (2, l0)), (2, (0, l2)), (3, (0, l3)), (4, (2, l4))] [] S V nc ns := by
  have E := n_E h
  refine j_iload_n E d1_7_40 rfl 2 rfl ?_
  exact j_if_lt E d1_7_41 (t := 53) rfl (fun q => j_pick [0] rfl (k q)) (fun q => j_pick [0, 1, 2, 3] rfl (k' q))
theorem t1_7_44 {C : qCx} {G : jG} {S : jS} {V : jH} {nc ns : Nat} {l0 l2 l3 l4 : Int} {mc ms : Nat} {pp : Int → jS → jH → Prop} {qq : Int → jS → jH → Int → jS → jH → Prop} (h : x1_7 C G) (hrm : C.2.2.2.1.frames = 3 ∧ C.2.2.2.1.locals = 72) (c1 : S.1 l4 = 29) (hM : M10_4 C.2.1 mc ms pp qq) (hp : pp l4 S V) (hc : nc + mc ≤ C.2.2.2.1.cells) (hs : ns + ms ≤ C.2.2.2.1.slots) (k : ∀ (r : Int) (S' : jS) (V' : jH), qq l4 S V r S' V' → j_ok n_KT 6 C G 50 [(0, (2, l0)), (2, (0, l2)), (3, (0, l3)), (4, (2, l4))] [(0, r), (0, l3)] S' V' (nc + mc) (ns + ms)) : j_ok n_KT 6 C G 44 [(0, (2, l0)), (2, (0, l2)), (3, (0, l3)), (4, (2, l4))] [] S V nc ns := by
  have E := n_E h
  refine j_iload_n E d1_7_44 rfl 2 rfl ?_
  refine j_aload E d1_7_45 3 rfl ?_
  refine j_call E (K1_7_47 h hrm hM) d1_7_47 (a := [(2, l4)]) (sk := [(0, l3)]) rfl ⟨l4, rfl, c1, hp⟩ (Nat.le_of_ble_eq_true rfl) hc hs ?_
  rintro rs S' V' ⟨z0, r, e1, rfl, q⟩
  simp only [List.cons.injEq, Prod.mk.injEq, and_true, true_and] at e1
  obtain ⟨rfl⟩ := e1
  exact j_pick [0, 1, 2, 3] rfl (k r S' V' q)
theorem t1_7_50 {C : qCx} {G : jG} {S : jS} {V : jH} {nc ns : Nat} {l0 l2 l3 l4 s0 s1 : Int} (h : x1_7 C G)  (k : s1 ≤ s0 → j_ok n_KT 6 C G 59 [(0, (2, l0)), (2, (0, l2)), (3, (0, l3)), (4, (2, l4))] [] S V nc ns) (k' : s0 < s1 → j_ok n_KT 6 C G 53 [(0, (2, l0))] [] S V nc ns) : j_ok n_KT 6 C G 50 [(0, (2, l0)), (2, (0, l2)), (3, (0, l3)), (4, (2, l4))] [(0, s0), (0, s1)] S V nc ns := by
  have E := n_E h
  exact j_icmp_le E d1_7_50 (t := 59) rfl (fun q => j_pick [0, 1, 2, 3] rfl (k q)) (fun q => j_pick [0] rfl (k' q))
theorem t1_7_53 {C : qCx} {G : jG} {S : jS} {V : jH} {nc ns : Nat} {l0 : Int} {mc ms : Nat} {pp : Int → Int → jS → jH → Prop} {qq : Int → Int → jS → jH → Int → jS → jH → Prop} (h : x1_7 C G) (hrm : C.2.2.2.1.frames = 3 ∧ C.2.2.2.1.locals = 72) (c1 : S.1 l0 = 31) (hM : M1_27 C.2.1 mc ms pp qq) (hp : pp l0 ((-1)) S V) (hc : nc + mc ≤ C.2.2.2.1.cells) (hs : ns + ms ≤ C.2.2.2.1.slots) (k : ∀ (r : Int) (S' : jS) (V' : jH), qq l0 ((-1)) S V r S' V' → j_ok n_KT 6 C G 58 [] [(0, r)] S' V' (nc + mc) (ns + ms)) : j_ok n_KT 6 C G 53 [(0, (2, l0))] [] S V nc ns := by
  have E := n_E h
  refine j_aload_n E d1_7_53 rfl 0 rfl ?_
  refine j_iconst E d1_7_54 (by decide) ?_
  refine j_call E (K1_7_55 h hrm hM) d1_7_55 (a := [(2, l0), (0, (-1))]) (sk := []) rfl ⟨l0, (-1), rfl, c1, hp⟩ (Nat.le_of_ble_eq_true rfl) hc hs ?_
  rintro rs S' V' ⟨z0, z1, r, e1, rfl, q⟩
  simp only [List.cons.injEq, Prod.mk.injEq, and_true, true_and] at e1
  obtain ⟨rfl, rfl⟩ := e1
  exact j_pick [] rfl (k r S' V' q)
theorem t1_7_58 {C : qCx} {G : jG} {S : jS} {V : jH} {nc ns : Nat} {s0 : Int} {mc ms : Nat} {qf : Int → jS → jH → Prop} (h : x1_7 C G)  (R : j_Ri n_KT 6 C G b_1_7 mc ms qf) (q : qf s0 S V) (hc : nc ≤ mc) (hs : ns ≤ ms) : j_ok n_KT 6 C G 58 [] [(0, s0)] S V nc ns := by
  have E := n_E h
  exact R _ _ _ _ _ _ _ d1_7_58 q hc hs
theorem t1_7_59 {C : qCx} {G : jG} {S : jS} {V : jH} {nc ns : Nat} {l0 l2 l3 l4 : Int} {mc ms : Nat} {pp : Int → jS → jH → Prop} {qq : Int → jS → jH → Int → jS → jH → Prop} (h : x1_7 C G) (L : j_L S) (hrm : C.2.2.2.1.frames = 3 ∧ C.2.2.2.1.locals = 72) (c1 : S.1 l4 = 29) (hM : M4_3 C.2.1 mc ms pp qq) (hp : pp (l4 + 2) S V) (hc : nc + mc ≤ C.2.2.2.1.cells) (hs : ns + ms ≤ C.2.2.2.1.slots) (k : ∀ (r : Int) (S' : jS) (V' : jH), qq (l4 + 2) S V r S' V' → j_ok n_KT 6 C G 73 [(0, (2, l0)), (2, (0, l2)), (3, (0, l3)), (4, (2, l4)), (5, (2, l4 + 2))] [(0, r)] S' V' (nc + mc) (ns + ms)) : j_ok n_KT 6 C G 59 [(0, (2, l0)), (2, (0, l2)), (3, (0, l3)), (4, (2, l4))] [] S V nc ns := by
  have E := n_E h
  refine j_aload E d1_7_59 3 rfl ?_
  refine j_getS (f := 0) (x := l4 + 1) (fg10_105 h) d1_7_61 c1 (by decide) rfl rfl ((L8_0 L c1).trans (by omega)) ?_
  refine j_iconst E d1_7_64 (by decide) ?_
  refine j_aaldS (x := l4 + 2) E d1_7_65 (show S.1 (l4 + 1) = 19 from (by have q := L8_0k L c1; rw [show l4 + 1 = l4 + 1 by omega]; exact q)) (by decide) rfl (by decide) (by decide) ((LDealA L (i := 0) (show S.1 (l4 + 1) = 19 from (by have q := L8_0k L c1; rw [show l4 + 1 = l4 + 1 by omega]; exact q)) (by decide) (by decide)).trans (by omega)) ?_
  refine j_astore E d1_7_66 (by decide) (lo1 := [(0, (2, l0)), (2, (0, l2)), (3, (0, l3)), (4, (2, l4))]) rfl ?_
  refine j_aload E d1_7_68 0 rfl ?_
  refine j_call E (K1_7_70 h hrm hM) d1_7_70 (a := [(2, l4 + 2)]) (sk := []) rfl ⟨l4 + 2, rfl, (show S.1 (l4 + 2) = 23 from (by have q := LDealAk L (i := 0) (show S.1 (l4 + 1) = 19 from (by have q := L8_0k L c1; rw [show l4 + 1 = l4 + 1 by omega]; exact q)) (by decide) (by decide); rw [show l4 + 2 = (l4 + 1) + 1 + 2 * 0 by omega]; exact q)), hp⟩ (Nat.le_of_ble_eq_true rfl) hc hs ?_
  rintro rs S' V' ⟨z0, r, e1, rfl, q⟩
  simp only [List.cons.injEq, Prod.mk.injEq, and_true, true_and] at e1
  obtain ⟨rfl⟩ := e1
  exact j_pick [1, 2, 3, 4, 0] rfl (k r S' V' q)
theorem t1_7_73 {C : qCx} {G : jG} {S : jS} {V : jH} {nc ns : Nat} {l0 l2 l3 l4 l5 s0 : Int} {mc ms : Nat} {pp : Int → Int → jS → jH → Prop} {qq : Int → Int → jS → jH → Int → jS → jH → Prop} (h : x1_7 C G) (hrm : C.2.2.2.1.frames = 3 ∧ C.2.2.2.1.locals = 72) (c1 : S.1 l5 = 23) (hM : M4_2 C.2.1 mc ms pp qq) (hp : pp l5 l2 S V) (hc : nc + mc ≤ C.2.2.2.1.cells) (hs : ns + ms ≤ C.2.2.2.1.slots) (k : ∀ (r : Int) (S' : jS) (V' : jH), qq l5 l2 S V r S' V' → j_ok n_KT 6 C G 79 [(0, (2, l0)), (2, (0, l2)), (3, (0, l3)), (4, (2, l4)), (5, (2, l5))] [(0, r), (0, s0)] S' V' (nc + mc) (ns + ms)) : j_ok n_KT 6 C G 73 [(0, (2, l0)), (2, (0, l2)), (3, (0, l3)), (4, (2, l4)), (5, (2, l5))] [(0, s0)] S V nc ns := by
  have E := n_E h
  refine j_aload E d1_7_73 4 rfl ?_
  refine j_iload_n E d1_7_75 rfl 1 rfl ?_
  refine j_call E (K1_7_76 h hrm hM) d1_7_76 (a := [(2, l5), (0, l2)]) (sk := [(0, s0)]) rfl ⟨l5, l2, rfl, c1, hp⟩ (Nat.le_of_ble_eq_true rfl) hc hs ?_
  rintro rs S' V' ⟨z0, z1, r, e1, rfl, q⟩
  simp only [List.cons.injEq, Prod.mk.injEq, and_true, true_and] at e1
  obtain ⟨rfl, rfl⟩ := e1
  exact j_pick [0, 1, 2, 3, 4] rfl (k r S' V' q)
theorem t1_7_79 {C : qCx} {G : jG} {S : jS} {V : jH} {nc ns : Nat} {l0 l2 l3 l4 l5 s0 s1 : Int} {mc ms : Nat} {pp : Int → jS → jH → Prop} {qq : Int → jS → jH → Int → jS → jH → Prop} (h : x1_7 C G) (hrm : C.2.2.2.1.frames = 3 ∧ C.2.2.2.1.locals = 72) (c1 : -2147483648 ≤ s1 - s0 ∧ s1 - s0 ≤ 2147483647) (c2 : -2147483648 ≤ (s1 - s0) + l3 ∧ (s1 - s0) + l3 ≤ 2147483647) (c3 : S.1 l4 = 29) (hM : M10_4 C.2.1 mc ms pp qq) (hp : pp l4 S V) (hc : nc + mc ≤ C.2.2.2.1.cells) (hs : ns + ms ≤ C.2.2.2.1.slots) (k : ∀ (r : Int) (S' : jS) (V' : jH), qq l4 S V r S' V' → j_ok n_KT 6 C G 87 [(0, (2, l0)), (2, (0, l2)), (3, (0, l3)), (5, (2, l5))] [(0, r), (0, (s1 - s0) + l3)] S' V' (nc + mc) (ns + ms)) : j_ok n_KT 6 C G 79 [(0, (2, l0)), (2, (0, l2)), (3, (0, l3)), (4, (2, l4)), (5, (2, l5))] [(0, s0), (0, s1)] S V nc ns := by
  have E := n_E h
  refine j_isub E d1_7_79 c1 ?_
  refine j_iload_n E d1_7_80 rfl 2 rfl ?_
  refine j_iadd E d1_7_81 c2 ?_
  refine j_aload E d1_7_82 3 rfl ?_
  refine j_call E (K1_7_84 h hrm hM) d1_7_84 (a := [(2, l4)]) (sk := [(0, (s1 - s0) + l3)]) rfl ⟨l4, rfl, c3, hp⟩ (Nat.le_of_ble_eq_true rfl) hc hs ?_
  rintro rs S' V' ⟨z0, r, e1, rfl, q⟩
  simp only [List.cons.injEq, Prod.mk.injEq, and_true, true_and] at e1
  obtain ⟨rfl⟩ := e1
  exact j_pick [0, 1, 2, 4] rfl (k r S' V' q)
theorem t1_7_87 {C : qCx} {G : jG} {S : jS} {V : jH} {nc ns : Nat} {l0 l2 l3 l5 s0 s1 : Int} (h : x1_7 C G)  (k : s1 ≤ s0 → j_ok n_KT 6 C G 97 [(2, (0, l2)), (3, (0, l3)), (5, (2, l5))] [] S V nc ns) (k' : s0 < s1 → j_ok n_KT 6 C G 90 [(0, (2, l0))] [] S V nc ns) : j_ok n_KT 6 C G 87 [(0, (2, l0)), (2, (0, l2)), (3, (0, l3)), (5, (2, l5))] [(0, s0), (0, s1)] S V nc ns := by
  have E := n_E h
  exact j_icmp_le E d1_7_87 (t := 97) rfl (fun q => j_pick [1, 2, 3] rfl (k q)) (fun q => j_pick [0] rfl (k' q))
theorem t1_7_90 {C : qCx} {G : jG} {S : jS} {V : jH} {nc ns : Nat} {l0 : Int} {mc ms : Nat} {pp : Int → Int → jS → jH → Prop} {qq : Int → Int → jS → jH → Int → jS → jH → Prop} (h : x1_7 C G) (hrm : C.2.2.2.1.frames = 3 ∧ C.2.2.2.1.locals = 72) (c1 : S.1 l0 = 31) (hM : M1_27 C.2.1 mc ms pp qq) (hp : pp l0 ((-2)) S V) (hc : nc + mc ≤ C.2.2.2.1.cells) (hs : ns + ms ≤ C.2.2.2.1.slots) (k : ∀ (r : Int) (S' : jS) (V' : jH), qq l0 ((-2)) S V r S' V' → j_ok n_KT 6 C G 96 [] [(0, r)] S' V' (nc + mc) (ns + ms)) : j_ok n_KT 6 C G 90 [(0, (2, l0))] [] S V nc ns := by
  have E := n_E h
  refine j_aload_n E d1_7_90 rfl 0 rfl ?_
  refine j_bipush E d1_7_91 (by decide) ?_
  refine j_call E (K1_7_93 h hrm hM) d1_7_93 (a := [(2, l0), (0, (-2))]) (sk := []) rfl ⟨l0, (-2), rfl, c1, hp⟩ (Nat.le_of_ble_eq_true rfl) hc hs ?_
  rintro rs S' V' ⟨z0, z1, r, e1, rfl, q⟩
  simp only [List.cons.injEq, Prod.mk.injEq, and_true, true_and] at e1
  obtain ⟨rfl, rfl⟩ := e1
  exact j_pick [] rfl (k r S' V' q)
theorem t1_7_96 {C : qCx} {G : jG} {S : jS} {V : jH} {nc ns : Nat} {s0 : Int} {mc ms : Nat} {qf : Int → jS → jH → Prop} (h : x1_7 C G)  (R : j_Ri n_KT 6 C G b_1_7 mc ms qf) (q : qf s0 S V) (hc : nc ≤ mc) (hs : ns ≤ ms) : j_ok n_KT 6 C G 96 [] [(0, s0)] S V nc ns := by
  have E := n_E h
  exact R _ _ _ _ _ _ _ d1_7_96 q hc hs
theorem t1_7_97 {C : qCx} {G : jG} {S : jS} {V : jH} {nc ns : Nat} {l2 l3 l5 : Int} {mc ms : Nat} {pp : Int → Int → Int → jS → jH → Prop} {qq : Int → Int → Int → jS → jH → jS → jH → Prop} (h : x1_7 C G) (hrm : C.2.2.2.1.frames = 3 ∧ C.2.2.2.1.locals = 72) (c1 : S.1 l5 = 23) (hM : M4_9 C.2.1 mc ms pp qq) (hp : pp l5 l2 l3 S V) (hc : nc + mc ≤ C.2.2.2.1.cells) (hs : ns + ms ≤ C.2.2.2.1.slots) (k : ∀ (S' : jS) (V' : jH), qq l5 l2 l3 S V S' V' → j_ok n_KT 6 C G 104 [(5, (2, l5))] [] S' V' (nc + mc) (ns + ms)) : j_ok n_KT 6 C G 97 [(2, (0, l2)), (3, (0, l3)), (5, (2, l5))] [] S V nc ns := by
  have E := n_E h
  refine j_aload E d1_7_97 2 rfl ?_
  refine j_iload_n E d1_7_99 rfl 0 rfl ?_
  refine j_iload_n E d1_7_100 rfl 1 rfl ?_
  refine j_call E (K1_7_101 h hrm hM) d1_7_101 (a := [(2, l5), (0, l2), (0, l3)]) (sk := []) rfl ⟨l5, l2, l3, rfl, c1, hp⟩ (Nat.le_of_ble_eq_true rfl) hc hs ?_
  rintro rs S' V' ⟨z0, z1, z2, e1, rfl, q⟩
  simp only [List.cons.injEq, Prod.mk.injEq, and_true, true_and] at e1
  obtain ⟨rfl, rfl, rfl⟩ := e1
  exact j_pick [2] rfl (k S' V' q)
theorem t1_7_104 {C : qCx} {G : jG} {S : jS} {V : jH} {nc ns : Nat} {l5 : Int} {mc ms : Nat} {pp : Int → jS → jH → Prop} {qq : Int → jS → jH → Int → jS → jH → Prop} (h : x1_7 C G) (hrm : C.2.2.2.1.frames = 3 ∧ C.2.2.2.1.locals = 72) (c1 : S.1 l5 = 23) (hM : M4_3 C.2.1 mc ms pp qq) (hp : pp l5 S V) (hc : nc + mc ≤ C.2.2.2.1.cells) (hs : ns + ms ≤ C.2.2.2.1.slots) (k : ∀ (r : Int) (S' : jS) (V' : jH), qq l5 S V r S' V' → j_ok n_KT 6 C G 109 [] [(0, r)] S' V' (nc + mc) (ns + ms)) : j_ok n_KT 6 C G 104 [(5, (2, l5))] [] S V nc ns := by
  have E := n_E h
  refine j_aload E d1_7_104 0 rfl ?_
  refine j_call E (K1_7_106 h hrm hM) d1_7_106 (a := [(2, l5)]) (sk := []) rfl ⟨l5, rfl, c1, hp⟩ (Nat.le_of_ble_eq_true rfl) hc hs ?_
  rintro rs S' V' ⟨z0, r, e1, rfl, q⟩
  simp only [List.cons.injEq, Prod.mk.injEq, and_true, true_and] at e1
  obtain ⟨rfl⟩ := e1
  exact j_pick [] rfl (k r S' V' q)
theorem t1_7_109 {C : qCx} {G : jG} {S : jS} {V : jH} {nc ns : Nat} {s0 : Int} {mc ms : Nat} {qf : Int → jS → jH → Prop} (h : x1_7 C G)  (R : j_Ri n_KT 6 C G b_1_7 mc ms qf) (q : qf s0 S V) (hc : nc ≤ mc) (hs : ns ≤ ms) : j_ok n_KT 6 C G 109 [] [(0, s0)] S V nc ns := by
  have E := n_E h
  exact R _ _ _ _ _ _ _ d1_7_109 q hc hs
/- BalanceCoder$Table.canLearn()Z -/
abbrev b_10_8 : ByteArray := prog_10_method_8_code
def y_10_8 : MethodName := ⟨"BalanceCoder$Table", "canLearn", "()Z"⟩
abbrev x10_8 (C : qCx) (G : jG) : Prop := n_ctx C b_10_8 1 "BalanceCoder$Table" G.1 G.2.1
def M10_8 (l : Launch) (mc ms : Nat) (p : Int → jS → jH → Prop) (q : Int → jS → jH → Int → jS → jH → Prop) : Prop := j_Met l vwCl n_TL n_NW n_KT y_10_8 (Cond.code y_10_8 b_10_8 1 (some .boolean) :: n_GW) { frames := 1, cells := mc, slots := ms, locals := 26 } mc ms (fun a S V => ∃ u0 : Int, a = [(2, u0)] ∧ S.1 u0 = 29 ∧ p u0 S V) (fun a S V rs S' V' => ∃ u0 r : Int, a = [(2, u0)] ∧ rs = [(0, r)] ∧ q u0 S V r S' V')
theorem e10_8 {l : Launch} {mc ms : Nat} {p : Int → jS → jH → Prop} {q : Int → jS → jH → Int → jS → jH → Prop} (body : ∀ (C : qCx) (G : jG), x10_8 C G → C.2.2.2.1.frames = 1 ∧ C.2.2.2.1.locals = 26 → C.2.2.2.1.cells = mc ∧ C.2.2.2.1.slots = ms → C.2.1 = l → C.2.2.2.2.2.2.2.2.1.name = "canLearn" → ∀ (u0 : Int) (S : jS) (V : jH), S.1 u0 = 29 → p u0 S V → j_Rz n_KT 1 C G b_10_8 mc ms (q u0 S V) → j_ok n_KT 1 C G 0 [(0, (2, u0))] [] S V 0 0) : M10_8 l mc ms p q := by
  refine j_method (ws' := n_GW) (by decide) rfl ?_ ?_
  · rintro a S V ⟨u0, rfl, -⟩
    exact Nat.le_of_ble_eq_true rfl
  · rintro C G htl hl hrm hm hml ho hts hnm hE a S V ⟨u0, rfl, ht, hp⟩ R
    exact body C G ⟨htl, hm, hml, ho, fun w hw => hts w (List.mem_cons_of_mem _ hw), hE⟩ (by rw [hrm]; exact ⟨rfl, rfl⟩) (by rw [hrm]; exact ⟨rfl, rfl⟩) hl hnm u0 S V ht hp (fun pc lo r S' V' nc ns d z q hc hs => R.2.2.1 rfl pc lo r S' V' nc ns d z ⟨u0, r, rfl, rfl, q⟩ hc hs)
theorem d10_8_0 : decode b_10_8 0 = .ok (.aload_n 0, 1) := by decide +kernel
theorem d10_8_1 : decode b_10_8 1 = .ok (.getfield 17, 3) := by decide +kernel
theorem d10_8_4 : decode b_10_8 4 = .ok (.iconst 2, 1) := by decide +kernel
theorem d10_8_5 : decode b_10_8 5 = .ok (.if_icmp .eq 11, 3) := by decide +kernel
theorem d10_8_8 : decode b_10_8 8 = .ok (.aload_n 0, 1) := by decide +kernel
theorem d10_8_9 : decode b_10_8 9 = .ok (.getfield 17, 3) := by decide +kernel
theorem d10_8_12 : decode b_10_8 12 = .ok (.iconst 3, 1) := by decide +kernel
theorem d10_8_13 : decode b_10_8 13 = .ok (.if_icmp .ne 7, 3) := by decide +kernel
theorem d10_8_16 : decode b_10_8 16 = .ok (.iconst 1, 1) := by decide +kernel
theorem d10_8_17 : decode b_10_8 17 = .ok (.goto 4, 3) := by decide +kernel
theorem d10_8_20 : decode b_10_8 20 = .ok (.iconst 0, 1) := by decide +kernel
theorem d10_8_21 : decode b_10_8 21 = .ok (.ireturn, 1) := by decide +kernel
theorem t10_8_0 {C : qCx} {G : jG} {S : jS} {V : jH} {nc ns : Nat} {l0 : Int} (h : x10_8 C G) (c1 : S.1 l0 = 29) (k : V l0 1 = 2 → j_ok n_KT 1 C G 16 [] [] S V nc ns) (k' : ¬ V l0 1 = 2 → j_ok n_KT 1 C G 8 [(0, (2, l0))] [] S V nc ns) : j_ok n_KT 1 C G 0 [(0, (2, l0))] [] S V nc ns := by
  have E := n_E h
  refine j_aload_n E d10_8_0 rfl 0 rfl ?_
  refine j_getI (f := 1) (fg8_17 h) d10_8_1 c1 (by decide) rfl rfl ?_
  refine j_iconst E d10_8_4 (by decide) ?_
  exact j_icmp_eq E d10_8_5 (t := 16) rfl (fun q => j_pick [] rfl (k q)) (fun q => j_pick [0] rfl (k' q))
theorem t10_8_8 {C : qCx} {G : jG} {S : jS} {V : jH} {nc ns : Nat} {l0 : Int} (h : x10_8 C G) (c1 : S.1 l0 = 29) (k : ¬ V l0 1 = 3 → j_ok n_KT 1 C G 20 [] [] S V nc ns) (k' : V l0 1 = 3 → j_ok n_KT 1 C G 16 [] [] S V nc ns) : j_ok n_KT 1 C G 8 [(0, (2, l0))] [] S V nc ns := by
  have E := n_E h
  refine j_aload_n E d10_8_8 rfl 0 rfl ?_
  refine j_getI (f := 1) (fg8_17 h) d10_8_9 c1 (by decide) rfl rfl ?_
  refine j_iconst E d10_8_12 (by decide) ?_
  exact j_icmp_ne E d10_8_13 (t := 20) rfl (fun q => j_pick [] rfl (k q)) (fun q => j_pick [] rfl (k' q))
theorem t10_8_16 {C : qCx} {G : jG} {S : jS} {V : jH} {nc ns : Nat} (h : x10_8 C G)  (k : j_ok n_KT 1 C G 21 [] [(0, 1)] S V nc ns) : j_ok n_KT 1 C G 16 [] [] S V nc ns := by
  have E := n_E h
  refine j_iconst E d10_8_16 (by decide) ?_
  refine j_goto E d10_8_17 (t := 21) rfl ?_
  exact j_pick [] rfl k
theorem t10_8_20 {C : qCx} {G : jG} {S : jS} {V : jH} {nc ns : Nat} (h : x10_8 C G)  (k : j_ok n_KT 1 C G 21 [] [(0, 0)] S V nc ns) : j_ok n_KT 1 C G 20 [] [] S V nc ns := by
  have E := n_E h
  refine j_iconst E d10_8_20 (by decide) ?_
  exact j_pick [] rfl k
theorem t10_8_21 {C : qCx} {G : jG} {S : jS} {V : jH} {nc ns : Nat} {s0 : Int} {mc ms : Nat} {qf : Int → jS → jH → Prop} (h : x10_8 C G)  (R : j_Rz n_KT 1 C G b_10_8 mc ms qf) (hz : 0 ≤ s0 ∧ s0 ≤ 1) (q : qf s0 S V) (hc : nc ≤ mc) (hs : ns ≤ ms) : j_ok n_KT 1 C G 21 [] [(0, s0)] S V nc ns := by
  have E := n_E h
  exact R _ _ _ _ _ _ _ d10_8_21 hz q hc hs
/- BalanceCoder$Table.parts()I -/
abbrev b_10_5 : ByteArray := prog_10_method_5_code
def y_10_5 : MethodName := ⟨"BalanceCoder$Table", "parts", "()I"⟩
abbrev x10_5 (C : qCx) (G : jG) : Prop := n_ctx C b_10_5 1 "BalanceCoder$Table" G.1 G.2.1
def M10_5 (l : Launch) (mc ms : Nat) (p : Int → jS → jH → Prop) (q : Int → jS → jH → Int → jS → jH → Prop) : Prop := j_Met l vwCl n_TL n_NW n_KT y_10_5 (Cond.code y_10_5 b_10_5 1 (some .int) :: n_GW) { frames := 1, cells := mc, slots := ms, locals := 26 } mc ms (fun a S V => ∃ u0 : Int, a = [(2, u0)] ∧ S.1 u0 = 29 ∧ p u0 S V) (fun a S V rs S' V' => ∃ u0 r : Int, a = [(2, u0)] ∧ rs = [(0, r)] ∧ q u0 S V r S' V')
theorem e10_5 {l : Launch} {mc ms : Nat} {p : Int → jS → jH → Prop} {q : Int → jS → jH → Int → jS → jH → Prop} (body : ∀ (C : qCx) (G : jG), x10_5 C G → C.2.2.2.1.frames = 1 ∧ C.2.2.2.1.locals = 26 → C.2.2.2.1.cells = mc ∧ C.2.2.2.1.slots = ms → C.2.1 = l → C.2.2.2.2.2.2.2.2.1.name = "parts" → ∀ (u0 : Int) (S : jS) (V : jH), S.1 u0 = 29 → p u0 S V → j_Ri n_KT 1 C G b_10_5 mc ms (q u0 S V) → j_ok n_KT 1 C G 0 [(0, (2, u0))] [] S V 0 0) : M10_5 l mc ms p q := by
  refine j_method (ws' := n_GW) (by decide) rfl ?_ ?_
  · rintro a S V ⟨u0, rfl, -⟩
    exact Nat.le_of_ble_eq_true rfl
  · rintro C G htl hl hrm hm hml ho hts hnm hE a S V ⟨u0, rfl, ht, hp⟩ R
    exact body C G ⟨htl, hm, hml, ho, fun w hw => hts w (List.mem_cons_of_mem _ hw), hE⟩ (by rw [hrm]; exact ⟨rfl, rfl⟩) (by rw [hrm]; exact ⟨rfl, rfl⟩) hl hnm u0 S V ht hp (fun pc lo r S' V' nc ns d q hc hs => R.2.1 rfl pc lo r S' V' nc ns d ⟨u0, r, rfl, rfl, q⟩ hc hs)
theorem d10_5_0 : decode b_10_5 0 = .ok (.aload_n 0, 1) := by decide +kernel
theorem d10_5_1 : decode b_10_5 1 = .ok (.getfield 17, 3) := by decide +kernel
theorem d10_5_4 : decode b_10_5 4 = .ok (.iconst 3, 1) := by decide +kernel
theorem d10_5_5 : decode b_10_5 5 = .ok (.if_icmp .ne 7, 3) := by decide +kernel
theorem d10_5_8 : decode b_10_5 8 = .ok (.iconst 4, 1) := by decide +kernel
theorem d10_5_9 : decode b_10_5 9 = .ok (.goto 4, 3) := by decide +kernel
theorem d10_5_12 : decode b_10_5 12 = .ok (.iconst 1, 1) := by decide +kernel
theorem d10_5_13 : decode b_10_5 13 = .ok (.ireturn, 1) := by decide +kernel
theorem t10_5_0 {C : qCx} {G : jG} {S : jS} {V : jH} {nc ns : Nat} {l0 : Int} (h : x10_5 C G) (c1 : S.1 l0 = 29) (k : ¬ V l0 1 = 3 → j_ok n_KT 1 C G 12 [] [] S V nc ns) (k' : V l0 1 = 3 → j_ok n_KT 1 C G 8 [] [] S V nc ns) : j_ok n_KT 1 C G 0 [(0, (2, l0))] [] S V nc ns := by
  have E := n_E h
  refine j_aload_n E d10_5_0 rfl 0 rfl ?_
  refine j_getI (f := 1) (fg8_17 h) d10_5_1 c1 (by decide) rfl rfl ?_
  refine j_iconst E d10_5_4 (by decide) ?_
  exact j_icmp_ne E d10_5_5 (t := 12) rfl (fun q => j_pick [] rfl (k q)) (fun q => j_pick [] rfl (k' q))
theorem t10_5_8 {C : qCx} {G : jG} {S : jS} {V : jH} {nc ns : Nat} (h : x10_5 C G)  (k : j_ok n_KT 1 C G 13 [] [(0, 4)] S V nc ns) : j_ok n_KT 1 C G 8 [] [] S V nc ns := by
  have E := n_E h
  refine j_iconst E d10_5_8 (by decide) ?_
  refine j_goto E d10_5_9 (t := 13) rfl ?_
  exact j_pick [] rfl k
theorem t10_5_12 {C : qCx} {G : jG} {S : jS} {V : jH} {nc ns : Nat} (h : x10_5 C G)  (k : j_ok n_KT 1 C G 13 [] [(0, 1)] S V nc ns) : j_ok n_KT 1 C G 12 [] [] S V nc ns := by
  have E := n_E h
  refine j_iconst E d10_5_12 (by decide) ?_
  exact j_pick [] rfl k
theorem t10_5_13 {C : qCx} {G : jG} {S : jS} {V : jH} {nc ns : Nat} {s0 : Int} {mc ms : Nat} {qf : Int → jS → jH → Prop} (h : x10_5 C G)  (R : j_Ri n_KT 1 C G b_10_5 mc ms qf) (q : qf s0 S V) (hc : nc ≤ mc) (hs : ns ≤ ms) : j_ok n_KT 1 C G 13 [] [(0, s0)] S V nc ns := by
  have E := n_E h
  exact R _ _ _ _ _ _ _ d10_5_13 q hc hs
/- BalanceCoder.partBehind(I)I -/
abbrev b_1_34 : ByteArray := prog_1_method_34_code
def y_1_34 : MethodName := ⟨"BalanceCoder", "partBehind", "(I)I"⟩
abbrev x1_34 (C : qCx) (G : jG) : Prop := n_ctx C b_1_34 1 "BalanceCoder" G.1 G.2.1
def M1_34 (l : Launch) (mc ms : Nat) (p : Int → jS → jH → Prop) (q : Int → jS → jH → Int → jS → jH → Prop) : Prop := j_Met l vwCl n_TL n_NW n_KT y_1_34 (Cond.code y_1_34 b_1_34 1 (some .int) :: n_GW) { frames := 1, cells := mc, slots := ms, locals := 26 } mc ms (fun a S V => ∃ u0 : Int, a = [(0, u0)] ∧ p u0 S V) (fun a S V rs S' V' => ∃ u0 r : Int, a = [(0, u0)] ∧ rs = [(0, r)] ∧ q u0 S V r S' V')
theorem e1_34 {l : Launch} {mc ms : Nat} {p : Int → jS → jH → Prop} {q : Int → jS → jH → Int → jS → jH → Prop} (body : ∀ (C : qCx) (G : jG), x1_34 C G → C.2.2.2.1.frames = 1 ∧ C.2.2.2.1.locals = 26 → C.2.2.2.1.cells = mc ∧ C.2.2.2.1.slots = ms → C.2.1 = l → C.2.2.2.2.2.2.2.2.1.name = "partBehind" → ∀ (u0 : Int) (S : jS) (V : jH), p u0 S V → j_Ri n_KT 1 C G b_1_34 mc ms (q u0 S V) → j_ok n_KT 1 C G 0 [(0, (0, u0))] [] S V 0 0) : M1_34 l mc ms p q := by
  refine j_method (ws' := n_GW) (by decide) rfl ?_ ?_
  · rintro a S V ⟨u0, rfl, -⟩
    exact Nat.le_of_ble_eq_true rfl
  · rintro C G htl hl hrm hm hml ho hts hnm hE a S V ⟨u0, rfl, hp⟩ R
    exact body C G ⟨htl, hm, hml, ho, fun w hw => hts w (List.mem_cons_of_mem _ hw), hE⟩ (by rw [hrm]; exact ⟨rfl, rfl⟩) (by rw [hrm]; exact ⟨rfl, rfl⟩) hl hnm u0 S V hp (fun pc lo r S' V' nc ns d q hc hs => R.2.1 rfl pc lo r S' V' nc ns d ⟨u0, r, rfl, rfl, q⟩ hc hs)
theorem d1_34_0 : decode b_1_34 0 = .ok (.iload_n 0, 1) := by decide +kernel
theorem d1_34_1 : decode b_1_34 1 = .ok (.iconst 3, 1) := by decide +kernel
theorem d1_34_2 : decode b_1_34 2 = .ok (.iand, 1) := by decide +kernel
theorem d1_34_3 : decode b_1_34 3 = .ok (.ireturn, 1) := by decide +kernel
theorem t1_34_0 {C : qCx} {G : jG} {S : jS} {V : jH} {nc ns : Nat} {l0 : Int} {mc ms : Nat} {qf : Int → jS → jH → Prop} (h : x1_34 C G)  (R : j_Ri n_KT 1 C G b_1_34 mc ms qf) (q : qf (l0 % 4) S V) (hc : nc ≤ mc) (hs : ns ≤ ms) : j_ok n_KT 1 C G 0 [(0, (0, l0))] [] S V nc ns := by
  have E := n_E h
  refine j_iload_n E d1_34_0 rfl 0 rfl ?_
  refine j_iconst E d1_34_1 (by decide) ?_
  refine j_iand3 E d1_34_2 rfl ?_
  exact R _ _ _ _ _ _ _ d1_34_3 q hc hs
/- BalanceCoder$Dealer.listCounted()V -/
abbrev b_5_4 : ByteArray := prog_5_method_4_code
def y_5_4 : MethodName := ⟨"BalanceCoder$Dealer", "listCounted", "()V"⟩
abbrev x5_4 (C : qCx) (G : jG) : Prop := n_ctx C b_5_4 2 "BalanceCoder$Dealer" G.1 G.2.1
def M5_4 (l : Launch) (mc ms : Nat) (p : Int → jS → jH → Prop) (q : Int → jS → jH → jS → jH → Prop) : Prop := j_Met l vwCl n_TL n_NW n_KT y_5_4 (Cond.code y_5_4 b_5_4 2 none :: n_GW) { frames := 1, cells := mc, slots := ms, locals := 26 } mc ms (fun a S V => ∃ u0 : Int, a = [(2, u0)] ∧ S.1 u0 = 24 ∧ p u0 S V) (fun a S V rs S' V' => ∃ u0 : Int, a = [(2, u0)] ∧ rs = [] ∧ q u0 S V S' V')
theorem e5_4 {l : Launch} {mc ms : Nat} {p : Int → jS → jH → Prop} {q : Int → jS → jH → jS → jH → Prop} (body : ∀ (C : qCx) (G : jG), x5_4 C G → C.2.2.2.1.frames = 1 ∧ C.2.2.2.1.locals = 26 → C.2.2.2.1.cells = mc ∧ C.2.2.2.1.slots = ms → C.2.1 = l → C.2.2.2.2.2.2.2.2.1.name = "listCounted" → ∀ (u0 : Int) (S : jS) (V : jH), S.1 u0 = 24 → p u0 S V → j_Rv n_KT 2 C G b_5_4 mc ms (q u0 S V) → j_ok n_KT 2 C G 0 [(0, (2, u0))] [] S V 0 0) : M5_4 l mc ms p q := by
  refine j_method (ws' := n_GW) (by decide) rfl ?_ ?_
  · rintro a S V ⟨u0, rfl, -⟩
    exact Nat.le_of_ble_eq_true rfl
  · rintro C G htl hl hrm hm hml ho hts hnm hE a S V ⟨u0, rfl, ht, hp⟩ R
    exact body C G ⟨htl, hm, hml, ho, fun w hw => hts w (List.mem_cons_of_mem _ hw), hE⟩ (by rw [hrm]; exact ⟨rfl, rfl⟩) (by rw [hrm]; exact ⟨rfl, rfl⟩) hl hnm u0 S V ht hp (fun pc lo S' V' nc ns d q hc hs => R.1 rfl pc lo S' V' nc ns d ⟨u0, rfl, rfl, q⟩ hc hs)
theorem d5_4_0 : decode b_5_4 0 = .ok (.aload_n 0, 1) := by decide +kernel
theorem d5_4_1 : decode b_5_4 1 = .ok (.iconst 0, 1) := by decide +kernel
theorem d5_4_2 : decode b_5_4 2 = .ok (.putfield 18, 3) := by decide +kernel
theorem d5_4_5 : decode b_5_4 5 = .ok (.iconst 0, 1) := by decide +kernel
theorem d5_4_6 : decode b_5_4 6 = .ok (.istore_n 1, 1) := by decide +kernel
theorem d5_4_7 : decode b_5_4 7 = .ok (.iload_n 1, 1) := by decide +kernel
theorem d5_4_8 : decode b_5_4 8 = .ok (.sipush 256, 3) := by decide +kernel
theorem d5_4_11 : decode b_5_4 11 = .ok (.if_icmp .ge 38, 3) := by decide +kernel
theorem d5_4_14 : decode b_5_4 14 = .ok (.aload_n 0, 1) := by decide +kernel
theorem d5_4_15 : decode b_5_4 15 = .ok (.getfield 9, 3) := by decide +kernel
theorem d5_4_18 : decode b_5_4 18 = .ok (.iload_n 1, 1) := by decide +kernel
theorem d5_4_19 : decode b_5_4 19 = .ok (.iaload, 1) := by decide +kernel
theorem d5_4_20 : decode b_5_4 20 = .ok (.ifCond .le 23, 3) := by decide +kernel
theorem d5_4_23 : decode b_5_4 23 = .ok (.aload_n 0, 1) := by decide +kernel
theorem d5_4_24 : decode b_5_4 24 = .ok (.getfield 15, 3) := by decide +kernel
theorem d5_4_27 : decode b_5_4 27 = .ok (.aload_n 0, 1) := by decide +kernel
theorem d5_4_28 : decode b_5_4 28 = .ok (.getfield 18, 3) := by decide +kernel
theorem d5_4_31 : decode b_5_4 31 = .ok (.iload_n 1, 1) := by decide +kernel
theorem d5_4_32 : decode b_5_4 32 = .ok (.iastore, 1) := by decide +kernel
theorem d5_4_33 : decode b_5_4 33 = .ok (.aload_n 0, 1) := by decide +kernel
theorem d5_4_34 : decode b_5_4 34 = .ok (.dup, 1) := by decide +kernel
theorem d5_4_35 : decode b_5_4 35 = .ok (.getfield 18, 3) := by decide +kernel
theorem d5_4_38 : decode b_5_4 38 = .ok (.iconst 1, 1) := by decide +kernel
theorem d5_4_39 : decode b_5_4 39 = .ok (.iadd, 1) := by decide +kernel
theorem d5_4_40 : decode b_5_4 40 = .ok (.putfield 18, 3) := by decide +kernel
theorem d5_4_43 : decode b_5_4 43 = .ok (.iinc 1 1, 3) := by decide +kernel
theorem d5_4_46 : decode b_5_4 46 = .ok (.goto (-39), 3) := by decide +kernel
theorem d5_4_49 : decode b_5_4 49 = .ok (.return_, 1) := by decide +kernel
theorem t5_4_0 {C : qCx} {G : jG} {S : jS} {V : jH} {nc ns : Nat} {l0 : Int} (h : x5_4 C G) (c1 : S.1 l0 = 24) (k : j_ok n_KT 2 C G 7 [(0, (2, l0)), (1, (0, 0))] [] S (j_up V l0 2 0) nc ns) : j_ok n_KT 2 C G 0 [(0, (2, l0))] [] S V nc ns := by
  have E := n_E h
  refine j_aload_n E d5_4_0 rfl 0 rfl ?_
  refine j_iconst E d5_4_1 (by decide) ?_
  refine j_putI (f := 2) (fp3_18 h) (n_hap h 24 3 0 _ rfl) d5_4_2 c1 (by decide) rfl rfl rfl ?_
  refine j_iconst E d5_4_5 (by decide) ?_
  refine j_istore_n E d5_4_6 rfl (by decide) (lo1 := [(0, (2, l0))]) rfl ?_
  exact j_pick [1, 0] rfl k
theorem t5_4_7 {C : qCx} {G : jG} {S : jS} {V : jH} {nc ns : Nat} {l0 l1 : Int} (h : x5_4 C G)  (k : 256 ≤ l1 → j_ok n_KT 2 C G 49 [] [] S V nc ns) (k' : l1 < 256 → j_ok n_KT 2 C G 14 [(0, (2, l0)), (1, (0, l1))] [] S V nc ns) : j_ok n_KT 2 C G 7 [(0, (2, l0)), (1, (0, l1))] [] S V nc ns := by
  have E := n_E h
  refine j_iload_n E d5_4_7 rfl 1 rfl ?_
  refine j_sipush E d5_4_8 (by decide) ?_
  exact j_icmp_ge E d5_4_11 (t := 49) rfl (fun q => j_pick [] rfl (k q)) (fun q => j_pick [0, 1] rfl (k' q))
theorem t5_4_14 {C : qCx} {G : jG} {S : jS} {V : jH} {nc ns : Nat} {l0 l1 : Int} (h : x5_4 C G) (L : j_L S) (c1 : S.1 l0 = 24) (c2 : 0 ≤ l1) (c3 : l1 < 256) (k : V (l0 + 1) l1 ≤ 0 → j_ok n_KT 2 C G 43 [(0, (2, l0)), (1, (0, l1))] [] S V nc ns) (k' : 0 < V (l0 + 1) l1 → j_ok n_KT 2 C G 23 [(0, (2, l0)), (1, (0, l1))] [] S V nc ns) : j_ok n_KT 2 C G 14 [(0, (2, l0)), (1, (0, l1))] [] S V nc ns := by
  have E := n_E h
  refine j_aload_n E d5_4_14 rfl 0 rfl ?_
  refine j_getS (f := 0) (x := l0 + 1) (fg3_9 h) d5_4_15 c1 (by decide) rfl rfl ((L3_0 L c1).trans (by omega)) ?_
  refine j_iload_n E d5_4_18 rfl 1 rfl ?_
  refine j_iald E d5_4_19 (j_arr_of (show S.1 (l0 + 1) = 3 from (by have q := L3_0k L c1; rw [show l0 + 1 = l0 + 1 by omega]; exact q)) (by decide) rfl) c2 c3 ?_
  exact j_if_le E d5_4_20 (t := 43) rfl (fun q => j_pick [0, 1] rfl (k q)) (fun q => j_pick [0, 1] rfl (k' q))
theorem t5_4_23 {C : qCx} {G : jG} {S : jS} {V : jH} {nc ns : Nat} {l0 l1 : Int} (h : x5_4 C G) (L : j_L S) (c1 : S.1 l0 = 24) (c2 : 0 ≤ V l0 2) (c3 : V l0 2 < 256) (c4 : -2147483648 ≤ (V l0 2) + 1 ∧ (V l0 2) + 1 ≤ 2147483647) (k : j_ok n_KT 2 C G 43 [(0, (2, l0)), (1, (0, l1))] [] S (j_up (j_up V (l0 + 2) (V l0 2) l1) l0 2 ((V l0 2) + 1)) nc ns) : j_ok n_KT 2 C G 23 [(0, (2, l0)), (1, (0, l1))] [] S V nc ns := by
  have E := n_E h
  refine j_aload_n E d5_4_23 rfl 0 rfl ?_
  refine j_getS (f := 1) (x := l0 + 2) (fg3_15 h) d5_4_24 c1 (by decide) rfl rfl ((L3_1 L c1).trans (by omega)) ?_
  refine j_aload_n E d5_4_27 rfl 0 rfl ?_
  refine j_getI (f := 2) (fg3_18 h) d5_4_28 c1 (by decide) rfl rfl ?_
  refine j_iload_n E d5_4_31 rfl 1 rfl ?_
  refine j_iast E d5_4_32 (j_arr_of (show S.1 (l0 + 2) = 3 from (by have q := L3_1k L c1; rw [show l0 + 2 = l0 + 2 by omega]; exact q)) (by decide) rfl) c2 c3 ?_
  refine j_aload_n E d5_4_33 rfl 0 rfl ?_
  refine j_dup E d5_4_34 rfl ?_
  refine j_getI (f := 2) (fg3_18 h) d5_4_35 c1 (by decide) rfl rfl ?_
  refine j_eqT (show (j_up V (l0 + 2) (V l0 2) l1) l0 2 = V l0 2 from (congrFun (j_up_ne (by omega)) _)) ?_
  refine j_iconst E d5_4_38 (by decide) ?_
  refine j_iadd E d5_4_39 c4 ?_
  refine j_putI (f := 2) (fp3_18 h) (n_hap h 24 3 0 _ rfl) d5_4_40 c1 (by decide) rfl rfl rfl ?_
  exact j_pick [0, 1] rfl k
theorem t5_4_43 {C : qCx} {G : jG} {S : jS} {V : jH} {nc ns : Nat} {l0 l1 : Int} (h : x5_4 C G) (c1 : -2147483648 ≤ l1 + 1 ∧ l1 + 1 ≤ 2147483647) (k : j_ok n_KT 2 C G 7 [(0, (2, l0)), (1, (0, l1 + 1))] [] S V nc ns) : j_ok n_KT 2 C G 43 [(0, (2, l0)), (1, (0, l1))] [] S V nc ns := by
  have E := n_E h
  refine j_iinc E d5_4_43 (by decide) (by decide) 1 rfl (lo1 := [(0, (2, l0))]) rfl c1 ?_
  refine j_goto E d5_4_46 (t := 7) rfl ?_
  exact j_pick [1, 0] rfl k
theorem t5_4_49 {C : qCx} {G : jG} {S : jS} {V : jH} {nc ns : Nat} {mc ms : Nat} {qf : jS → jH → Prop} (h : x5_4 C G)  (R : j_Rv n_KT 2 C G b_5_4 mc ms qf) (q : qf S V) (hc : nc ≤ mc) (hs : ns ≤ ms) : j_ok n_KT 2 C G 49 [] [] S V nc ns := by
  have E := n_E h
  exact R _ _ _ _ _ _ d5_4_49 q hc hs
/- BalanceCoder$Dealer.countSigns(LBalanceCoder$Row;I)V -/
abbrev b_5_3 : ByteArray := prog_5_method_3_code
def y_5_3 : MethodName := ⟨"BalanceCoder$Dealer", "countSigns", "(LBalanceCoder$Row;I)V"⟩
abbrev x5_3 (C : qCx) (G : jG) : Prop := n_ctx C b_5_3 6 "BalanceCoder$Dealer" G.1 G.2.1
def M5_3 (l : Launch) (mc ms : Nat) (p : Int → Int → Int → jS → jH → Prop) (q : Int → Int → Int → jS → jH → jS → jH → Prop) : Prop := j_Met l vwCl n_TL n_NW n_KT y_5_3 (Cond.code y_5_3 b_5_3 6 none :: n_GW) { frames := 2, cells := mc, slots := ms, locals := 49 } mc ms (fun a S V => ∃ u0 u1 u2 : Int, a = [(2, u0), (2, u1), (0, u2)] ∧ S.1 u0 = 24 ∧ p u0 u1 u2 S V) (fun a S V rs S' V' => ∃ u0 u1 u2 : Int, a = [(2, u0), (2, u1), (0, u2)] ∧ rs = [] ∧ q u0 u1 u2 S V S' V')
theorem e5_3 {l : Launch} {mc ms : Nat} {p : Int → Int → Int → jS → jH → Prop} {q : Int → Int → Int → jS → jH → jS → jH → Prop} (body : ∀ (C : qCx) (G : jG), x5_3 C G → C.2.2.2.1.frames = 2 ∧ C.2.2.2.1.locals = 49 → C.2.2.2.1.cells = mc ∧ C.2.2.2.1.slots = ms → C.2.1 = l → C.2.2.2.2.2.2.2.2.1.name = "countSigns" → ∀ (u0 u1 u2 : Int) (S : jS) (V : jH), S.1 u0 = 24 → p u0 u1 u2 S V → j_Rv n_KT 6 C G b_5_3 mc ms (q u0 u1 u2 S V) → j_ok n_KT 6 C G 0 [(0, (2, u0)), (1, (2, u1)), (2, (0, u2))] [] S V 0 0) : M5_3 l mc ms p q := by
  refine j_method (ws' := n_GW) (by decide) rfl ?_ ?_
  · rintro a S V ⟨u0, u1, u2, rfl, -⟩
    exact Nat.le_of_ble_eq_true rfl
  · rintro C G htl hl hrm hm hml ho hts hnm hE a S V ⟨u0, u1, u2, rfl, ht, hp⟩ R
    exact body C G ⟨htl, hm, hml, ho, fun w hw => hts w (List.mem_cons_of_mem _ hw), hE⟩ (by rw [hrm]; exact ⟨rfl, rfl⟩) (by rw [hrm]; exact ⟨rfl, rfl⟩) hl hnm u0 u1 u2 S V ht hp (fun pc lo S' V' nc ns d q hc hs => R.1 rfl pc lo S' V' nc ns d ⟨u0, u1, u2, rfl, rfl, q⟩ hc hs)
theorem d5_3_0 : decode b_5_3 0 = .ok (.aload_n 0, 1) := by decide +kernel
theorem d5_3_1 : decode b_5_3 1 = .ok (.getfield 9, 3) := by decide +kernel
theorem d5_3_4 : decode b_5_3 4 = .ok (.iconst 0, 1) := by decide +kernel
theorem d5_3_5 : decode b_5_3 5 = .ok (.invokestatic 49, 3) := by decide +kernel
theorem d5_3_8 : decode b_5_3 8 = .ok (.iconst 0, 1) := by decide +kernel
theorem d5_3_9 : decode b_5_3 9 = .ok (.istore_n 3, 1) := by decide +kernel
theorem d5_3_10 : decode b_5_3 10 = .ok (.iconst 0, 1) := by decide +kernel
theorem d5_3_11 : decode b_5_3 11 = .ok (.istore 4, 2) := by decide +kernel
theorem d5_3_13 : decode b_5_3 13 = .ok (.iload 4, 2) := by decide +kernel
theorem d5_3_15 : decode b_5_3 15 = .ok (.aload_n 1, 1) := by decide +kernel
theorem d5_3_16 : decode b_5_3 16 = .ok (.getfield 55, 3) := by decide +kernel
theorem d5_3_19 : decode b_5_3 19 = .ok (.if_icmp .ge 45, 3) := by decide +kernel
theorem d5_3_22 : decode b_5_3 22 = .ok (.aload_n 1, 1) := by decide +kernel
theorem d5_3_23 : decode b_5_3 23 = .ok (.getfield 60, 3) := by decide +kernel
theorem d5_3_26 : decode b_5_3 26 = .ok (.iload 4, 2) := by decide +kernel
theorem d5_3_28 : decode b_5_3 28 = .ok (.iaload, 1) := by decide +kernel
theorem d5_3_29 : decode b_5_3 29 = .ok (.istore 5, 2) := by decide +kernel
theorem d5_3_31 : decode b_5_3 31 = .ok (.iload_n 2, 1) := by decide +kernel
theorem d5_3_32 : decode b_5_3 32 = .ok (.iconst (-1), 1) := by decide +kernel
theorem d5_3_33 : decode b_5_3 33 = .ok (.if_icmp .eq 11, 3) := by decide +kernel
theorem d5_3_36 : decode b_5_3 36 = .ok (.iload_n 2, 1) := by decide +kernel
theorem d5_3_37 : decode b_5_3 37 = .ok (.iload_n 3, 1) := by decide +kernel
theorem d5_3_38 : decode b_5_3 38 = .ok (.invokestatic 63, 3) := by decide +kernel
theorem d5_3_41 : decode b_5_3 41 = .ok (.if_icmp .ne 14, 3) := by decide +kernel
theorem d5_3_44 : decode b_5_3 44 = .ok (.aload_n 0, 1) := by decide +kernel
theorem d5_3_45 : decode b_5_3 45 = .ok (.getfield 9, 3) := by decide +kernel
theorem d5_3_48 : decode b_5_3 48 = .ok (.iload 5, 2) := by decide +kernel
theorem d5_3_50 : decode b_5_3 50 = .ok (.dup2, 1) := by decide +kernel
theorem d5_3_51 : decode b_5_3 51 = .ok (.iaload, 1) := by decide +kernel
theorem d5_3_52 : decode b_5_3 52 = .ok (.iconst 1, 1) := by decide +kernel
theorem d5_3_53 : decode b_5_3 53 = .ok (.iadd, 1) := by decide +kernel
theorem d5_3_54 : decode b_5_3 54 = .ok (.iastore, 1) := by decide +kernel
theorem d5_3_55 : decode b_5_3 55 = .ok (.iload 5, 2) := by decide +kernel
theorem d5_3_57 : decode b_5_3 57 = .ok (.istore_n 3, 1) := by decide +kernel
theorem d5_3_58 : decode b_5_3 58 = .ok (.iinc 4 1, 3) := by decide +kernel
theorem d5_3_61 : decode b_5_3 61 = .ok (.goto (-48), 3) := by decide +kernel
theorem d5_3_64 : decode b_5_3 64 = .ok (.aload_n 0, 1) := by decide +kernel
theorem d5_3_65 : decode b_5_3 65 = .ok (.invokevirtual 67, 3) := by decide +kernel
theorem d5_3_68 : decode b_5_3 68 = .ok (.return_, 1) := by decide +kernel
theorem K5_3_5 {C : qCx} {G : jG} {mc ms : Nat} {p : Int → Int → jS → jH → Prop} {q : Int → Int → jS → jH → jS → jH → Prop} (h : x5_3 C G) (hrm : C.2.2.2.1.frames = 2 ∧ C.2.2.2.1.locals = 49) (hM : M17_103 C.2.1 mc ms p q) : j_Call C b_5_3 n_KT G.1 G.2.1 6 (.invokestatic 49) mc ms (fun a S V => ∃ u0 u1 : Int, a = [(2, u0), (0, u1)] ∧ p u0 u1 S V) (fun a S V rs S' V' => ∃ u0 u1 : Int, a = [(2, u0), (0, u1)] ∧ rs = [] ∧ q u0 u1 S V S' V') := j_callS n_NWk h.2.2.2.2.2 h.1 hM ⟨h.2.1.1, h.2.1.2, h.2.2.1, h.2.2.2.1, h.2.2.2.2.1⟩ ⟨n_CB (y := y_17_103) (bytes := b_17_103) 2 h.2.2.2.2.1 n_w359 n_w409 n_w14 ⟨by decide, by decide, by decide +kernel⟩ rfl rfl ⟨by rw [hrm.1]; exact Nat.le_of_ble_eq_true rfl, by rw [hrm.2]; exact Nat.le_of_ble_eq_true rfl⟩, h.2.2.2.2.1 _ n_w358⟩ (fun a S V hP => by obtain ⟨u0, u1, rfl, -⟩ := hP; rfl)
theorem K5_3_38 {C : qCx} {G : jG} {mc ms : Nat} {p : Int → jS → jH → Prop} {q : Int → jS → jH → Int → jS → jH → Prop} (h : x5_3 C G) (hrm : C.2.2.2.1.frames = 2 ∧ C.2.2.2.1.locals = 49) (hM : M1_34 C.2.1 mc ms p q) : j_Call C b_5_3 n_KT G.1 G.2.1 6 (.invokestatic 63) mc ms (fun a S V => ∃ u0 : Int, a = [(0, u0)] ∧ p u0 S V) (fun a S V rs S' V' => ∃ u0 r : Int, a = [(0, u0)] ∧ rs = [(0, r)] ∧ q u0 S V r S' V') := j_callSN n_NWk h.2.2.2.2.2 h.1 hM ⟨h.2.1.1, h.2.1.2, h.2.2.1, h.2.2.2.1, h.2.2.2.2.1⟩ ⟨n_CN (y := y_1_34) (bytes := b_1_34) 1 h.2.2.2.2.1 n_w412 (h.2.2.2.2.2.2 _ (List.mem_of_getElem? (i := 22) rfl)) n_w1 ⟨by decide, by decide, by decide +kernel⟩ rfl rfl ⟨by rw [hrm.1]; exact Nat.le_of_ble_eq_true rfl, by rw [hrm.2]; exact Nat.le_of_ble_eq_true rfl⟩, h.2.2.2.2.1 _ n_w411, trivial⟩ (fun a S V hP => by obtain ⟨u0, rfl, -⟩ := hP; rfl)
theorem K5_3_65 {C : qCx} {G : jG} {mc ms : Nat} {p : Int → jS → jH → Prop} {q : Int → jS → jH → jS → jH → Prop} (h : x5_3 C G) (hrm : C.2.2.2.1.frames = 2 ∧ C.2.2.2.1.locals = 49) (hM : M5_4 C.2.1 mc ms p q) : j_Call C b_5_3 n_KT G.1 G.2.1 6 (.invokevirtual 67) mc ms (fun a S V => ∃ u0 : Int, a = [(2, u0)] ∧ S.1 u0 = 24 ∧ p u0 S V) (fun a S V rs S' V' => ∃ u0 : Int, a = [(2, u0)] ∧ rs = [] ∧ q u0 S V S' V') := j_callV n_NWk h.2.2.2.2.2 h.1 hM ⟨h.2.1.1, h.2.1.2, h.2.2.1, h.2.2.2.1, h.2.2.2.2.1⟩ ⟨n_CB (y := y_5_4) (bytes := b_5_4) 0 h.2.2.2.2.1 n_w416 n_w413 n_w10 ⟨by decide, by decide, by decide +kernel⟩ rfl rfl ⟨by rw [hrm.1]; exact Nat.le_of_ble_eq_true rfl, by rw [hrm.2]; exact Nat.le_of_ble_eq_true rfl⟩, h.2.2.2.2.1 _ n_w415, h.2.2.2.2.1 _ n_s5⟩ (Cn := RX3) (fun a S V hP => by obtain ⟨u0, rfl, e, -⟩ := hP; exact ⟨u0, _, 3, _, _, TX3, 4, rfl, rfl, by rw [e]; decide, by rw [e]; rfl, rfl⟩)
theorem t5_3_0 {C : qCx} {G : jG} {S : jS} {V : jH} {nc ns : Nat} {l0 l1 l2 : Int} {mc ms : Nat} {pp : Int → Int → jS → jH → Prop} {qq : Int → Int → jS → jH → jS → jH → Prop} (h : x5_3 C G) (L : j_L S) (hrm : C.2.2.2.1.frames = 2 ∧ C.2.2.2.1.locals = 49) (c1 : S.1 l0 = 24) (hM : M17_103 C.2.1 mc ms pp qq) (hp : pp (l0 + 1) 0 S V) (hc : nc + mc ≤ C.2.2.2.1.cells) (hs : ns + ms ≤ C.2.2.2.1.slots) (k : ∀ (S' : jS) (V' : jH), qq (l0 + 1) 0 S V S' V' → j_ok n_KT 6 C G 8 [(0, (2, l0)), (1, (2, l1)), (2, (0, l2))] [] S' V' (nc + mc) (ns + ms)) : j_ok n_KT 6 C G 0 [(0, (2, l0)), (1, (2, l1)), (2, (0, l2))] [] S V nc ns := by
  have E := n_E h
  refine j_aload_n E d5_3_0 rfl 0 rfl ?_
  refine j_getS (f := 0) (x := l0 + 1) (fg3_9 h) d5_3_1 c1 (by decide) rfl rfl ((L3_0 L c1).trans (by omega)) ?_
  refine j_iconst E d5_3_4 (by decide) ?_
  refine j_call E (K5_3_5 h hrm hM) d5_3_5 (a := [(2, l0 + 1), (0, 0)]) (sk := []) rfl ⟨l0 + 1, 0, rfl, hp⟩ (Nat.le_of_ble_eq_true rfl) hc hs ?_
  rintro rs S' V' ⟨z0, z1, e1, rfl, q⟩
  simp only [List.cons.injEq, Prod.mk.injEq, and_true, true_and] at e1
  obtain ⟨rfl, rfl⟩ := e1
  exact j_pick [0, 1, 2] rfl (k S' V' q)
theorem t5_3_8 {C : qCx} {G : jG} {S : jS} {V : jH} {nc ns : Nat} {l0 l1 l2 : Int} (h : x5_3 C G)  (k : j_ok n_KT 6 C G 13 [(0, (2, l0)), (1, (2, l1)), (2, (0, l2)), (3, (0, 0)), (4, (0, 0))] [] S V nc ns) : j_ok n_KT 6 C G 8 [(0, (2, l0)), (1, (2, l1)), (2, (0, l2))] [] S V nc ns := by
  have E := n_E h
  refine j_iconst E d5_3_8 (by decide) ?_
  refine j_istore_n E d5_3_9 rfl (by decide) (lo1 := [(0, (2, l0)), (1, (2, l1)), (2, (0, l2))]) rfl ?_
  refine j_iconst E d5_3_10 (by decide) ?_
  refine j_istore E d5_3_11 (by decide) (lo1 := [(3, (0, 0)), (0, (2, l0)), (1, (2, l1)), (2, (0, l2))]) rfl ?_
  exact j_pick [2, 3, 4, 1, 0] rfl k
theorem t5_3_13 {C : qCx} {G : jG} {S : jS} {V : jH} {nc ns : Nat} {l0 l1 l2 l3 l4 : Int} (h : x5_3 C G) (c1 : S.1 l1 = 27) (k : V l1 1 ≤ l4 → j_ok n_KT 6 C G 64 [(0, (2, l0))] [] S V nc ns) (k' : l4 < V l1 1 → j_ok n_KT 6 C G 22 [(0, (2, l0)), (1, (2, l1)), (2, (0, l2)), (3, (0, l3)), (4, (0, l4))] [] S V nc ns) : j_ok n_KT 6 C G 13 [(0, (2, l0)), (1, (2, l1)), (2, (0, l2)), (3, (0, l3)), (4, (0, l4))] [] S V nc ns := by
  have E := n_E h
  refine j_iload E d5_3_13 4 rfl ?_
  refine j_aload_n E d5_3_15 rfl 1 rfl ?_
  refine j_getI (f := 1) (fg3_55 h) d5_3_16 c1 (by decide) rfl rfl ?_
  exact j_icmp_ge E d5_3_19 (t := 64) rfl (fun q => j_pick [0] rfl (k q)) (fun q => j_pick [0, 1, 2, 3, 4] rfl (k' q))
theorem t5_3_22 {C : qCx} {G : jG} {S : jS} {V : jH} {nc ns : Nat} {l0 l1 l2 l3 l4 : Int} (h : x5_3 C G) (L : j_L S) (c1 : S.1 l1 = 27) (c2 : 0 ≤ l4) (c3 : l4 < 400) (k : l2 = (-1) → j_ok n_KT 6 C G 44 [(0, (2, l0)), (1, (2, l1)), (2, (0, l2)), (4, (0, l4)), (5, (0, V (l1 + 1) l4))] [] S V nc ns) (k' : ¬ l2 = (-1) → j_ok n_KT 6 C G 36 [(0, (2, l0)), (1, (2, l1)), (2, (0, l2)), (3, (0, l3)), (4, (0, l4)), (5, (0, V (l1 + 1) l4))] [] S V nc ns) : j_ok n_KT 6 C G 22 [(0, (2, l0)), (1, (2, l1)), (2, (0, l2)), (3, (0, l3)), (4, (0, l4))] [] S V nc ns := by
  have E := n_E h
  refine j_aload_n E d5_3_22 rfl 1 rfl ?_
  refine j_getS (f := 0) (x := l1 + 1) (fg3_60 h) d5_3_23 c1 (by decide) rfl rfl ((L6_0 L c1).trans (by omega)) ?_
  refine j_iload E d5_3_26 4 rfl ?_
  refine j_iald E d5_3_28 (j_arr_of (show S.1 (l1 + 1) = 1 from (by have q := L6_0k L c1; rw [show l1 + 1 = l1 + 1 by omega]; exact q)) (by decide) rfl) c2 c3 ?_
  refine j_istore E d5_3_29 (by decide) (lo1 := [(0, (2, l0)), (1, (2, l1)), (2, (0, l2)), (3, (0, l3)), (4, (0, l4))]) rfl ?_
  refine j_iload_n E d5_3_31 rfl 3 rfl ?_
  refine j_iconst E d5_3_32 (by decide) ?_
  exact j_icmp_eq E d5_3_33 (t := 44) rfl (fun q => j_pick [1, 2, 3, 5, 0] rfl (k q)) (fun q => j_pick [1, 2, 3, 4, 5, 0] rfl (k' q))
theorem t5_3_36 {C : qCx} {G : jG} {S : jS} {V : jH} {nc ns : Nat} {l0 l1 l2 l3 l4 l5 : Int} {mc ms : Nat} {pp : Int → jS → jH → Prop} {qq : Int → jS → jH → Int → jS → jH → Prop} (h : x5_3 C G) (hrm : C.2.2.2.1.frames = 2 ∧ C.2.2.2.1.locals = 49)  (hM : M1_34 C.2.1 mc ms pp qq) (hp : pp l3 S V) (hc : nc + mc ≤ C.2.2.2.1.cells) (hs : ns + ms ≤ C.2.2.2.1.slots) (k : ∀ (r : Int) (S' : jS) (V' : jH), qq l3 S V r S' V' → j_ok n_KT 6 C G 41 [(0, (2, l0)), (1, (2, l1)), (2, (0, l2)), (4, (0, l4)), (5, (0, l5))] [(0, r), (0, l2)] S' V' (nc + mc) (ns + ms)) : j_ok n_KT 6 C G 36 [(0, (2, l0)), (1, (2, l1)), (2, (0, l2)), (3, (0, l3)), (4, (0, l4)), (5, (0, l5))] [] S V nc ns := by
  have E := n_E h
  refine j_iload_n E d5_3_36 rfl 2 rfl ?_
  refine j_iload_n E d5_3_37 rfl 3 rfl ?_
  refine j_call E (K5_3_38 h hrm hM) d5_3_38 (a := [(0, l3)]) (sk := [(0, l2)]) rfl ⟨l3, rfl, hp⟩ (Nat.le_of_ble_eq_true rfl) hc hs ?_
  rintro rs S' V' ⟨z0, r, e1, rfl, q⟩
  simp only [List.cons.injEq, Prod.mk.injEq, and_true, true_and] at e1
  obtain ⟨rfl⟩ := e1
  exact j_pick [0, 1, 2, 4, 5] rfl (k r S' V' q)
theorem t5_3_41 {C : qCx} {G : jG} {S : jS} {V : jH} {nc ns : Nat} {l0 l1 l2 l4 l5 s0 s1 : Int} (h : x5_3 C G)  (k : ¬ s1 = s0 → j_ok n_KT 6 C G 55 [(0, (2, l0)), (1, (2, l1)), (2, (0, l2)), (4, (0, l4)), (5, (0, l5))] [] S V nc ns) (k' : s1 = s0 → j_ok n_KT 6 C G 44 [(0, (2, l0)), (1, (2, l1)), (2, (0, l2)), (4, (0, l4)), (5, (0, l5))] [] S V nc ns) : j_ok n_KT 6 C G 41 [(0, (2, l0)), (1, (2, l1)), (2, (0, l2)), (4, (0, l4)), (5, (0, l5))] [(0, s0), (0, s1)] S V nc ns := by
  have E := n_E h
  exact j_icmp_ne E d5_3_41 (t := 55) rfl (fun q => j_pick [0, 1, 2, 3, 4] rfl (k q)) (fun q => j_pick [0, 1, 2, 3, 4] rfl (k' q))
theorem t5_3_44 {C : qCx} {G : jG} {S : jS} {V : jH} {nc ns : Nat} {l0 l1 l2 l4 l5 : Int} (h : x5_3 C G) (L : j_L S) (c1 : S.1 l0 = 24) (c2 : 0 ≤ l5) (c3 : l5 < 256) (c4 : -2147483648 ≤ (V (l0 + 1) l5) + 1 ∧ (V (l0 + 1) l5) + 1 ≤ 2147483647) (k : j_ok n_KT 6 C G 55 [(0, (2, l0)), (1, (2, l1)), (2, (0, l2)), (4, (0, l4)), (5, (0, l5))] [] S (j_up V (l0 + 1) l5 ((V (l0 + 1) l5) + 1)) nc ns) : j_ok n_KT 6 C G 44 [(0, (2, l0)), (1, (2, l1)), (2, (0, l2)), (4, (0, l4)), (5, (0, l5))] [] S V nc ns := by
  have E := n_E h
  refine j_aload_n E d5_3_44 rfl 0 rfl ?_
  refine j_getS (f := 0) (x := l0 + 1) (fg3_9 h) d5_3_45 c1 (by decide) rfl rfl ((L3_0 L c1).trans (by omega)) ?_
  refine j_iload E d5_3_48 4 rfl ?_
  refine j_dup2 E d5_3_50 rfl rfl ?_
  refine j_iald E d5_3_51 (j_arr_of (show S.1 (l0 + 1) = 3 from (by have q := L3_0k L c1; rw [show l0 + 1 = l0 + 1 by omega]; exact q)) (by decide) rfl) c2 c3 ?_
  refine j_iconst E d5_3_52 (by decide) ?_
  refine j_iadd E d5_3_53 c4 ?_
  refine j_iast E d5_3_54 (j_arr_of (show S.1 (l0 + 1) = 3 from (by have q := L3_0k L c1; rw [show l0 + 1 = l0 + 1 by omega]; exact q)) (by decide) rfl) c2 c3 ?_
  exact j_pick [0, 1, 2, 3, 4] rfl k
theorem t5_3_55 {C : qCx} {G : jG} {S : jS} {V : jH} {nc ns : Nat} {l0 l1 l2 l4 l5 : Int} (h : x5_3 C G) (c1 : -2147483648 ≤ l4 + 1 ∧ l4 + 1 ≤ 2147483647) (k : j_ok n_KT 6 C G 13 [(0, (2, l0)), (1, (2, l1)), (2, (0, l2)), (3, (0, l5)), (4, (0, l4 + 1))] [] S V nc ns) : j_ok n_KT 6 C G 55 [(0, (2, l0)), (1, (2, l1)), (2, (0, l2)), (4, (0, l4)), (5, (0, l5))] [] S V nc ns := by
  have E := n_E h
  refine j_iload E d5_3_55 4 rfl ?_
  refine j_istore_n E d5_3_57 rfl (by decide) (lo1 := [(0, (2, l0)), (1, (2, l1)), (2, (0, l2)), (4, (0, l4)), (5, (0, l5))]) rfl ?_
  refine j_iinc E d5_3_58 (by decide) (by decide) 4 rfl (lo1 := [(3, (0, l5)), (0, (2, l0)), (1, (2, l1)), (2, (0, l2)), (5, (0, l5))]) rfl c1 ?_
  refine j_goto E d5_3_61 (t := 13) rfl ?_
  exact j_pick [2, 3, 4, 1, 0] rfl k
theorem t5_3_64 {C : qCx} {G : jG} {S : jS} {V : jH} {nc ns : Nat} {l0 : Int} {mc ms : Nat} {pp : Int → jS → jH → Prop} {qq : Int → jS → jH → jS → jH → Prop} (h : x5_3 C G) (hrm : C.2.2.2.1.frames = 2 ∧ C.2.2.2.1.locals = 49) (c1 : S.1 l0 = 24) (hM : M5_4 C.2.1 mc ms pp qq) (hp : pp l0 S V) (hc : nc + mc ≤ C.2.2.2.1.cells) (hs : ns + ms ≤ C.2.2.2.1.slots) (k : ∀ (S' : jS) (V' : jH), qq l0 S V S' V' → j_ok n_KT 6 C G 68 [] [] S' V' (nc + mc) (ns + ms)) : j_ok n_KT 6 C G 64 [(0, (2, l0))] [] S V nc ns := by
  have E := n_E h
  refine j_aload_n E d5_3_64 rfl 0 rfl ?_
  refine j_call E (K5_3_65 h hrm hM) d5_3_65 (a := [(2, l0)]) (sk := []) rfl ⟨l0, rfl, c1, hp⟩ (Nat.le_of_ble_eq_true rfl) hc hs ?_
  rintro rs S' V' ⟨z0, e1, rfl, q⟩
  simp only [List.cons.injEq, Prod.mk.injEq, and_true, true_and] at e1
  obtain ⟨rfl⟩ := e1
  exact j_pick [] rfl (k S' V' q)
theorem t5_3_68 {C : qCx} {G : jG} {S : jS} {V : jH} {nc ns : Nat} {mc ms : Nat} {qf : jS → jH → Prop} (h : x5_3 C G)  (R : j_Rv n_KT 6 C G b_5_3 mc ms qf) (q : qf S V) (hc : nc ≤ mc) (hs : ns ≤ ms) : j_ok n_KT 6 C G 68 [] [] S V nc ns := by
  have E := n_E h
  exact R _ _ _ _ _ _ d5_3_68 q hc hs
/- BalanceCoder$Dealer.wanted(III)I -/
abbrev b_5_8 : ByteArray := prog_5_method_8_code
def y_5_8 : MethodName := ⟨"BalanceCoder$Dealer", "wanted", "(III)I"⟩
abbrev x5_8 (C : qCx) (G : jG) : Prop := n_ctx C b_5_8 6 "BalanceCoder$Dealer" G.1 G.2.1
def M5_8 (l : Launch) (mc ms : Nat) (p : Int → Int → Int → Int → jS → jH → Prop) (q : Int → Int → Int → Int → jS → jH → Int → jS → jH → Prop) : Prop := j_Met l vwCl n_TL n_NW n_KT y_5_8 (Cond.code y_5_8 b_5_8 6 (some .int) :: n_GW) { frames := 1, cells := mc, slots := ms, locals := 26 } mc ms (fun a S V => ∃ u0 u1 u2 u3 : Int, a = [(2, u0), (0, u1), (0, u2), (0, u3)] ∧ S.1 u0 = 24 ∧ p u0 u1 u2 u3 S V) (fun a S V rs S' V' => ∃ u0 u1 u2 u3 r : Int, a = [(2, u0), (0, u1), (0, u2), (0, u3)] ∧ rs = [(0, r)] ∧ q u0 u1 u2 u3 S V r S' V')
theorem e5_8 {l : Launch} {mc ms : Nat} {p : Int → Int → Int → Int → jS → jH → Prop} {q : Int → Int → Int → Int → jS → jH → Int → jS → jH → Prop} (body : ∀ (C : qCx) (G : jG), x5_8 C G → C.2.2.2.1.frames = 1 ∧ C.2.2.2.1.locals = 26 → C.2.2.2.1.cells = mc ∧ C.2.2.2.1.slots = ms → C.2.1 = l → C.2.2.2.2.2.2.2.2.1.name = "wanted" → ∀ (u0 u1 u2 u3 : Int) (S : jS) (V : jH), S.1 u0 = 24 → p u0 u1 u2 u3 S V → j_Ri n_KT 6 C G b_5_8 mc ms (q u0 u1 u2 u3 S V) → j_ok n_KT 6 C G 0 [(0, (2, u0)), (1, (0, u1)), (2, (0, u2)), (3, (0, u3))] [] S V 0 0) : M5_8 l mc ms p q := by
  refine j_method (ws' := n_GW) (by decide) rfl ?_ ?_
  · rintro a S V ⟨u0, u1, u2, u3, rfl, -⟩
    exact Nat.le_of_ble_eq_true rfl
  · rintro C G htl hl hrm hm hml ho hts hnm hE a S V ⟨u0, u1, u2, u3, rfl, ht, hp⟩ R
    exact body C G ⟨htl, hm, hml, ho, fun w hw => hts w (List.mem_cons_of_mem _ hw), hE⟩ (by rw [hrm]; exact ⟨rfl, rfl⟩) (by rw [hrm]; exact ⟨rfl, rfl⟩) hl hnm u0 u1 u2 u3 S V ht hp (fun pc lo r S' V' nc ns d q hc hs => R.2.1 rfl pc lo r S' V' nc ns d ⟨u0, u1, u2, u3, r, rfl, rfl, q⟩ hc hs)
theorem d5_8_0 : decode b_5_8 0 = .ok (.aload_n 0, 1) := by decide +kernel
theorem d5_8_1 : decode b_5_8 1 = .ok (.getfield 9, 3) := by decide +kernel
theorem d5_8_4 : decode b_5_8 4 = .ok (.iload_n 1, 1) := by decide +kernel
theorem d5_8_5 : decode b_5_8 5 = .ok (.iaload, 1) := by decide +kernel
theorem d5_8_6 : decode b_5_8 6 = .ok (.istore 4, 2) := by decide +kernel
theorem d5_8_8 : decode b_5_8 8 = .ok (.iload 4, 2) := by decide +kernel
theorem d5_8_10 : decode b_5_8 10 = .ok (.iconst 1, 1) := by decide +kernel
theorem d5_8_11 : decode b_5_8 11 = .ok (.if_icmp .ge 5, 3) := by decide +kernel
theorem d5_8_14 : decode b_5_8 14 = .ok (.iconst 0, 1) := by decide +kernel
theorem d5_8_15 : decode b_5_8 15 = .ok (.ireturn, 1) := by decide +kernel
theorem d5_8_16 : decode b_5_8 16 = .ok (.iconst 1, 1) := by decide +kernel
theorem d5_8_17 : decode b_5_8 17 = .ok (.iload_n 2, 1) := by decide +kernel
theorem d5_8_18 : decode b_5_8 18 = .ok (.iload 4, 2) := by decide +kernel
theorem d5_8_20 : decode b_5_8 20 = .ok (.iadd, 1) := by decide +kernel
theorem d5_8_21 : decode b_5_8 21 = .ok (.iconst 1, 1) := by decide +kernel
theorem d5_8_22 : decode b_5_8 22 = .ok (.isub, 1) := by decide +kernel
theorem d5_8_23 : decode b_5_8 23 = .ok (.iload 4, 2) := by decide +kernel
theorem d5_8_25 : decode b_5_8 25 = .ok (.idiv, 1) := by decide +kernel
theorem d5_8_26 : decode b_5_8 26 = .ok (.invokestatic 104, 3) := by decide +kernel
theorem d5_8_29 : decode b_5_8 29 = .ok (.istore 5, 2) := by decide +kernel
theorem d5_8_31 : decode b_5_8 31 = .ok (.iconst 1, 1) := by decide +kernel
theorem d5_8_32 : decode b_5_8 32 = .ok (.iload_n 3, 1) := by decide +kernel
theorem d5_8_33 : decode b_5_8 33 = .ok (.iconst 1, 1) := by decide +kernel
theorem d5_8_34 : decode b_5_8 34 = .ok (.isub, 1) := by decide +kernel
theorem d5_8_35 : decode b_5_8 35 = .ok (.ldc 107, 2) := by decide +kernel
theorem d5_8_37 : decode b_5_8 37 = .ok (.iload 5, 2) := by decide +kernel
theorem d5_8_39 : decode b_5_8 39 = .ok (.idiv, 1) := by decide +kernel
theorem d5_8_40 : decode b_5_8 40 = .ok (.invokestatic 92, 3) := by decide +kernel
theorem d5_8_43 : decode b_5_8 43 = .ok (.iadd, 1) := by decide +kernel
theorem d5_8_44 : decode b_5_8 44 = .ok (.ireturn, 1) := by decide +kernel
theorem t5_8_0 {C : qCx} {G : jG} {S : jS} {V : jH} {nc ns : Nat} {l0 l1 l2 l3 : Int} (h : x5_8 C G) (L : j_L S) (c1 : S.1 l0 = 24) (c2 : 0 ≤ l1) (c3 : l1 < 256) (k : 1 ≤ V (l0 + 1) l1 → j_ok n_KT 6 C G 16 [(2, (0, l2)), (3, (0, l3)), (4, (0, V (l0 + 1) l1))] [] S V nc ns) (k' : V (l0 + 1) l1 < 1 → j_ok n_KT 6 C G 14 [] [] S V nc ns) : j_ok n_KT 6 C G 0 [(0, (2, l0)), (1, (0, l1)), (2, (0, l2)), (3, (0, l3))] [] S V nc ns := by
  have E := n_E h
  refine j_aload_n E d5_8_0 rfl 0 rfl ?_
  refine j_getS (f := 0) (x := l0 + 1) (fg3_9 h) d5_8_1 c1 (by decide) rfl rfl ((L3_0 L c1).trans (by omega)) ?_
  refine j_iload_n E d5_8_4 rfl 1 rfl ?_
  refine j_iald E d5_8_5 (j_arr_of (show S.1 (l0 + 1) = 3 from (by have q := L3_0k L c1; rw [show l0 + 1 = l0 + 1 by omega]; exact q)) (by decide) rfl) c2 c3 ?_
  refine j_istore E d5_8_6 (by decide) (lo1 := [(0, (2, l0)), (1, (0, l1)), (2, (0, l2)), (3, (0, l3))]) rfl ?_
  refine j_iload E d5_8_8 0 rfl ?_
  refine j_iconst E d5_8_10 (by decide) ?_
  exact j_icmp_ge E d5_8_11 (t := 16) rfl (fun q => j_pick [3, 4, 0] rfl (k q)) (fun q => j_pick [] rfl (k' q))
theorem t5_8_14 {C : qCx} {G : jG} {S : jS} {V : jH} {nc ns : Nat} {mc ms : Nat} {qf : Int → jS → jH → Prop} (h : x5_8 C G)  (R : j_Ri n_KT 6 C G b_5_8 mc ms qf) (q : qf 0 S V) (hc : nc ≤ mc) (hs : ns ≤ ms) : j_ok n_KT 6 C G 14 [] [] S V nc ns := by
  have E := n_E h
  refine j_iconst E d5_8_14 (by decide) ?_
  exact R _ _ _ _ _ _ _ d5_8_15 q hc hs
theorem t5_8_16 {C : qCx} {G : jG} {S : jS} {V : jH} {nc ns : Nat} {l2 l3 l4 : Int} {mc ms : Nat} {qf : Int → jS → jH → Prop} (h : x5_8 C G) (hR : 1 ≤ C.2.2.2.1.frames ∧ 26 ≤ C.2.2.2.1.locals) (c1 : -2147483648 ≤ l2 + l4 ∧ l2 + l4 ≤ 2147483647) (c2 : -2147483648 ≤ (l2 + l4) - 1 ∧ (l2 + l4) - 1 ≤ 2147483647) (c3 : 0 ≤ (l2 + l4) - 1) (c4 : 1 ≤ l4) (c5 : nc ≤ C.2.2.2.1.cells) (c6 : ns ≤ C.2.2.2.1.slots) (c7 : -2147483648 ≤ l3 - 1 ∧ l3 - 1 ≤ 2147483647) (c8 : 1 ≤ max 1 (((l2 + l4) - 1) / l4)) (c9 : -2147483648 ≤ 1 + (min (l3 - 1) (1000000 / (max 1 (((l2 + l4) - 1) / l4)))) ∧ 1 + (min (l3 - 1) (1000000 / (max 1 (((l2 + l4) - 1) / l4)))) ≤ 2147483647) (R : j_Ri n_KT 6 C G b_5_8 mc ms qf) (q : qf (1 + (min (l3 - 1) (1000000 / (max 1 (((l2 + l4) - 1) / l4))))) S V) (hc : nc ≤ mc) (hs : ns ≤ ms) : j_ok n_KT 6 C G 16 [(2, (0, l2)), (3, (0, l3)), (4, (0, l4))] [] S V nc ns := by
  have E := n_E h
  refine j_iconst E d5_8_16 (by decide) ?_
  refine j_iload_n E d5_8_17 rfl 0 rfl ?_
  refine j_iload E d5_8_18 2 rfl ?_
  refine j_iadd E d5_8_20 c1 ?_
  refine j_iconst E d5_8_21 (by decide) ?_
  refine j_isub E d5_8_22 c2 ?_
  refine j_iload E d5_8_23 2 rfl ?_
  refine j_idiv E d5_8_25 c3 c4 ?_
  refine j_max (fx3_104 h ⟨hR.1, by omega⟩) d5_8_26 (Nat.le_of_ble_eq_true rfl) c5 c6 ?_
  refine j_istore E d5_8_29 (by decide) (lo1 := [(2, (0, l2)), (3, (0, l3)), (4, (0, l4))]) rfl ?_
  refine j_iconst E d5_8_31 (by decide) ?_
  refine j_iload_n E d5_8_32 rfl 2 rfl ?_
  refine j_iconst E d5_8_33 (by decide) ?_
  refine j_isub E d5_8_34 c7 ?_
  refine j_ldc (n := 1000000) (fk3_107 h) rfl d5_8_35 ?_
  refine j_iload E d5_8_37 0 rfl ?_
  refine j_idiv E d5_8_39 (by decide) c8 ?_
  refine j_min (fx3_92 h ⟨hR.1, by omega⟩) d5_8_40 (Nat.le_of_ble_eq_true rfl) c5 c6 ?_
  refine j_iadd E d5_8_43 c9 ?_
  exact R _ _ _ _ _ _ _ d5_8_44 q hc hs
/- BalanceCoder$Dealer.wantedByAll(II)I -/
abbrev b_5_7 : ByteArray := prog_5_method_7_code
def y_5_7 : MethodName := ⟨"BalanceCoder$Dealer", "wantedByAll", "(II)I"⟩
abbrev x5_7 (C : qCx) (G : jG) : Prop := n_ctx C b_5_7 5 "BalanceCoder$Dealer" G.1 G.2.1
def M5_7 (l : Launch) (mc ms : Nat) (p : Int → Int → Int → jS → jH → Prop) (q : Int → Int → Int → jS → jH → Int → jS → jH → Prop) : Prop := j_Met l vwCl n_TL n_NW n_KT y_5_7 (Cond.code y_5_7 b_5_7 5 (some .int) :: n_GW) { frames := 2, cells := mc, slots := ms, locals := 51 } mc ms (fun a S V => ∃ u0 u1 u2 : Int, a = [(2, u0), (0, u1), (0, u2)] ∧ S.1 u0 = 24 ∧ p u0 u1 u2 S V) (fun a S V rs S' V' => ∃ u0 u1 u2 r : Int, a = [(2, u0), (0, u1), (0, u2)] ∧ rs = [(0, r)] ∧ q u0 u1 u2 S V r S' V')
theorem e5_7 {l : Launch} {mc ms : Nat} {p : Int → Int → Int → jS → jH → Prop} {q : Int → Int → Int → jS → jH → Int → jS → jH → Prop} (body : ∀ (C : qCx) (G : jG), x5_7 C G → C.2.2.2.1.frames = 2 ∧ C.2.2.2.1.locals = 51 → C.2.2.2.1.cells = mc ∧ C.2.2.2.1.slots = ms → C.2.1 = l → C.2.2.2.2.2.2.2.2.1.name = "wantedByAll" → ∀ (u0 u1 u2 : Int) (S : jS) (V : jH), S.1 u0 = 24 → p u0 u1 u2 S V → j_Ri n_KT 5 C G b_5_7 mc ms (q u0 u1 u2 S V) → j_ok n_KT 5 C G 0 [(0, (2, u0)), (1, (0, u1)), (2, (0, u2))] [] S V 0 0) : M5_7 l mc ms p q := by
  refine j_method (ws' := n_GW) (by decide) rfl ?_ ?_
  · rintro a S V ⟨u0, u1, u2, rfl, -⟩
    exact Nat.le_of_ble_eq_true rfl
  · rintro C G htl hl hrm hm hml ho hts hnm hE a S V ⟨u0, u1, u2, rfl, ht, hp⟩ R
    exact body C G ⟨htl, hm, hml, ho, fun w hw => hts w (List.mem_cons_of_mem _ hw), hE⟩ (by rw [hrm]; exact ⟨rfl, rfl⟩) (by rw [hrm]; exact ⟨rfl, rfl⟩) hl hnm u0 u1 u2 S V ht hp (fun pc lo r S' V' nc ns d q hc hs => R.2.1 rfl pc lo r S' V' nc ns d ⟨u0, u1, u2, r, rfl, rfl, q⟩ hc hs)
theorem d5_7_0 : decode b_5_7 0 = .ok (.iconst 0, 1) := by decide +kernel
theorem d5_7_1 : decode b_5_7 1 = .ok (.istore_n 3, 1) := by decide +kernel
theorem d5_7_2 : decode b_5_7 2 = .ok (.iconst 0, 1) := by decide +kernel
theorem d5_7_3 : decode b_5_7 3 = .ok (.istore 4, 2) := by decide +kernel
theorem d5_7_5 : decode b_5_7 5 = .ok (.iload 4, 2) := by decide +kernel
theorem d5_7_7 : decode b_5_7 7 = .ok (.aload_n 0, 1) := by decide +kernel
theorem d5_7_8 : decode b_5_7 8 = .ok (.getfield 18, 3) := by decide +kernel
theorem d5_7_11 : decode b_5_7 11 = .ok (.if_icmp .ge 25, 3) := by decide +kernel
theorem d5_7_14 : decode b_5_7 14 = .ok (.iload_n 3, 1) := by decide +kernel
theorem d5_7_15 : decode b_5_7 15 = .ok (.aload_n 0, 1) := by decide +kernel
theorem d5_7_16 : decode b_5_7 16 = .ok (.aload_n 0, 1) := by decide +kernel
theorem d5_7_17 : decode b_5_7 17 = .ok (.getfield 15, 3) := by decide +kernel
theorem d5_7_20 : decode b_5_7 20 = .ok (.iload 4, 2) := by decide +kernel
theorem d5_7_22 : decode b_5_7 22 = .ok (.iaload, 1) := by decide +kernel
theorem d5_7_23 : decode b_5_7 23 = .ok (.iload_n 1, 1) := by decide +kernel
theorem d5_7_24 : decode b_5_7 24 = .ok (.iload_n 2, 1) := by decide +kernel
theorem d5_7_25 : decode b_5_7 25 = .ok (.invokevirtual 88, 3) := by decide +kernel
theorem d5_7_28 : decode b_5_7 28 = .ok (.iadd, 1) := by decide +kernel
theorem d5_7_29 : decode b_5_7 29 = .ok (.istore_n 3, 1) := by decide +kernel
theorem d5_7_30 : decode b_5_7 30 = .ok (.iinc 4 1, 3) := by decide +kernel
theorem d5_7_33 : decode b_5_7 33 = .ok (.goto (-28), 3) := by decide +kernel
theorem d5_7_36 : decode b_5_7 36 = .ok (.iload_n 3, 1) := by decide +kernel
theorem d5_7_37 : decode b_5_7 37 = .ok (.ireturn, 1) := by decide +kernel
theorem K5_7_25 {C : qCx} {G : jG} {mc ms : Nat} {p : Int → Int → Int → Int → jS → jH → Prop} {q : Int → Int → Int → Int → jS → jH → Int → jS → jH → Prop} (h : x5_7 C G) (hrm : C.2.2.2.1.frames = 2 ∧ C.2.2.2.1.locals = 51) (hM : M5_8 C.2.1 mc ms p q) : j_Call C b_5_7 n_KT G.1 G.2.1 5 (.invokevirtual 88) mc ms (fun a S V => ∃ u0 u1 u2 u3 : Int, a = [(2, u0), (0, u1), (0, u2), (0, u3)] ∧ S.1 u0 = 24 ∧ p u0 u1 u2 u3 S V) (fun a S V rs S' V' => ∃ u0 u1 u2 u3 r : Int, a = [(2, u0), (0, u1), (0, u2), (0, u3)] ∧ rs = [(0, r)] ∧ q u0 u1 u2 u3 S V r S' V') := j_callV n_NWk h.2.2.2.2.2 h.1 hM ⟨h.2.1.1, h.2.1.2, h.2.2.1, h.2.2.2.1, h.2.2.2.2.1⟩ ⟨n_CB (y := y_5_8) (bytes := b_5_8) 3 h.2.2.2.2.1 n_w431 n_w428 n_w10 ⟨by decide, by decide, by decide +kernel⟩ rfl rfl ⟨by rw [hrm.1]; exact Nat.le_of_ble_eq_true rfl, by rw [hrm.2]; exact Nat.le_of_ble_eq_true rfl⟩, h.2.2.2.2.1 _ n_w430, h.2.2.2.2.1 _ n_s8⟩ (Cn := RX3) (fun a S V hP => by obtain ⟨u0, u1, u2, u3, rfl, e, -⟩ := hP; exact ⟨u0, _, 3, _, _, TX3, 4, rfl, rfl, by rw [e]; decide, by rw [e]; rfl, rfl⟩)
theorem t5_7_0 {C : qCx} {G : jG} {S : jS} {V : jH} {nc ns : Nat} {l0 l1 l2 : Int} (h : x5_7 C G)  (k : j_ok n_KT 5 C G 5 [(0, (2, l0)), (1, (0, l1)), (2, (0, l2)), (3, (0, 0)), (4, (0, 0))] [] S V nc ns) : j_ok n_KT 5 C G 0 [(0, (2, l0)), (1, (0, l1)), (2, (0, l2))] [] S V nc ns := by
  have E := n_E h
  refine j_iconst E d5_7_0 (by decide) ?_
  refine j_istore_n E d5_7_1 rfl (by decide) (lo1 := [(0, (2, l0)), (1, (0, l1)), (2, (0, l2))]) rfl ?_
  refine j_iconst E d5_7_2 (by decide) ?_
  refine j_istore E d5_7_3 (by decide) (lo1 := [(3, (0, 0)), (0, (2, l0)), (1, (0, l1)), (2, (0, l2))]) rfl ?_
  exact j_pick [2, 3, 4, 1, 0] rfl k
theorem t5_7_5 {C : qCx} {G : jG} {S : jS} {V : jH} {nc ns : Nat} {l0 l1 l2 l3 l4 : Int} (h : x5_7 C G) (c1 : S.1 l0 = 24) (k : V l0 2 ≤ l4 → j_ok n_KT 5 C G 36 [(3, (0, l3))] [] S V nc ns) (k' : l4 < V l0 2 → j_ok n_KT 5 C G 14 [(0, (2, l0)), (1, (0, l1)), (2, (0, l2)), (3, (0, l3)), (4, (0, l4))] [] S V nc ns) : j_ok n_KT 5 C G 5 [(0, (2, l0)), (1, (0, l1)), (2, (0, l2)), (3, (0, l3)), (4, (0, l4))] [] S V nc ns := by
  have E := n_E h
  refine j_iload E d5_7_5 4 rfl ?_
  refine j_aload_n E d5_7_7 rfl 0 rfl ?_
  refine j_getI (f := 2) (fg3_18 h) d5_7_8 c1 (by decide) rfl rfl ?_
  exact j_icmp_ge E d5_7_11 (t := 36) rfl (fun q => j_pick [3] rfl (k q)) (fun q => j_pick [0, 1, 2, 3, 4] rfl (k' q))
theorem t5_7_14 {C : qCx} {G : jG} {S : jS} {V : jH} {nc ns : Nat} {l0 l1 l2 l3 l4 : Int} {mc ms : Nat} {pp : Int → Int → Int → Int → jS → jH → Prop} {qq : Int → Int → Int → Int → jS → jH → Int → jS → jH → Prop} (h : x5_7 C G) (L : j_L S) (hrm : C.2.2.2.1.frames = 2 ∧ C.2.2.2.1.locals = 51) (c1 : S.1 l0 = 24) (c2 : 0 ≤ l4) (c3 : l4 < 256) (hM : M5_8 C.2.1 mc ms pp qq) (hp : pp l0 (V (l0 + 2) l4) l1 l2 S V) (hc : nc + mc ≤ C.2.2.2.1.cells) (hs : ns + ms ≤ C.2.2.2.1.slots) (k : ∀ (r : Int) (S' : jS) (V' : jH), qq l0 (V (l0 + 2) l4) l1 l2 S V r S' V' → j_ok n_KT 5 C G 28 [(0, (2, l0)), (1, (0, l1)), (2, (0, l2)), (4, (0, l4))] [(0, r), (0, l3)] S' V' (nc + mc) (ns + ms)) : j_ok n_KT 5 C G 14 [(0, (2, l0)), (1, (0, l1)), (2, (0, l2)), (3, (0, l3)), (4, (0, l4))] [] S V nc ns := by
  have E := n_E h
  refine j_iload_n E d5_7_14 rfl 3 rfl ?_
  refine j_aload_n E d5_7_15 rfl 0 rfl ?_
  refine j_aload_n E d5_7_16 rfl 0 rfl ?_
  refine j_getS (f := 1) (x := l0 + 2) (fg3_15 h) d5_7_17 c1 (by decide) rfl rfl ((L3_1 L c1).trans (by omega)) ?_
  refine j_iload E d5_7_20 4 rfl ?_
  refine j_iald E d5_7_22 (j_arr_of (show S.1 (l0 + 2) = 3 from (by have q := L3_1k L c1; rw [show l0 + 2 = l0 + 2 by omega]; exact q)) (by decide) rfl) c2 c3 ?_
  refine j_iload_n E d5_7_23 rfl 1 rfl ?_
  refine j_iload_n E d5_7_24 rfl 2 rfl ?_
  refine j_call E (K5_7_25 h hrm hM) d5_7_25 (a := [(2, l0), (0, V (l0 + 2) l4), (0, l1), (0, l2)]) (sk := [(0, l3)]) rfl ⟨l0, V (l0 + 2) l4, l1, l2, rfl, c1, hp⟩ (Nat.le_of_ble_eq_true rfl) hc hs ?_
  rintro rs S' V' ⟨z0, z1, z2, z3, r, e1, rfl, q⟩
  simp only [List.cons.injEq, Prod.mk.injEq, and_true, true_and] at e1
  obtain ⟨rfl, rfl, rfl, rfl⟩ := e1
  exact j_pick [0, 1, 2, 4] rfl (k r S' V' q)
theorem t5_7_28 {C : qCx} {G : jG} {S : jS} {V : jH} {nc ns : Nat} {l0 l1 l2 l4 s0 s1 : Int} (h : x5_7 C G) (c1 : -2147483648 ≤ s1 + s0 ∧ s1 + s0 ≤ 2147483647) (c2 : -2147483648 ≤ l4 + 1 ∧ l4 + 1 ≤ 2147483647) (k : j_ok n_KT 5 C G 5 [(0, (2, l0)), (1, (0, l1)), (2, (0, l2)), (3, (0, s1 + s0)), (4, (0, l4 + 1))] [] S V nc ns) : j_ok n_KT 5 C G 28 [(0, (2, l0)), (1, (0, l1)), (2, (0, l2)), (4, (0, l4))] [(0, s0), (0, s1)] S V nc ns := by
  have E := n_E h
  refine j_iadd E d5_7_28 c1 ?_
  refine j_istore_n E d5_7_29 rfl (by decide) (lo1 := [(0, (2, l0)), (1, (0, l1)), (2, (0, l2)), (4, (0, l4))]) rfl ?_
  refine j_iinc E d5_7_30 (by decide) (by decide) 4 rfl (lo1 := [(3, (0, s1 + s0)), (0, (2, l0)), (1, (0, l1)), (2, (0, l2))]) rfl c2 ?_
  refine j_goto E d5_7_33 (t := 5) rfl ?_
  exact j_pick [2, 3, 4, 1, 0] rfl k
theorem t5_7_36 {C : qCx} {G : jG} {S : jS} {V : jH} {nc ns : Nat} {l3 : Int} {mc ms : Nat} {qf : Int → jS → jH → Prop} (h : x5_7 C G)  (R : j_Ri n_KT 5 C G b_5_7 mc ms qf) (q : qf l3 S V) (hc : nc ≤ mc) (hs : ns ≤ ms) : j_ok n_KT 5 C G 36 [(3, (0, l3))] [] S V nc ns := by
  have E := n_E h
  refine j_iload_n E d5_7_36 rfl 0 rfl ?_
  exact R _ _ _ _ _ _ _ d5_7_37 q hc hs
/- BalanceCoder$Deal.noteShares(II)V -/
abbrev b_4_10 : ByteArray := prog_4_method_10_code
def y_4_10 : MethodName := ⟨"BalanceCoder$Deal", "noteShares", "(II)V"⟩
abbrev x4_10 (C : qCx) (G : jG) : Prop := n_ctx C b_4_10 3 "BalanceCoder$Deal" G.1 G.2.1
def M4_10 (l : Launch) (mc ms : Nat) (p : Int → Int → Int → jS → jH → Prop) (q : Int → Int → Int → jS → jH → jS → jH → Prop) : Prop := j_Met l vwCl n_TL n_NW n_KT y_4_10 (Cond.code y_4_10 b_4_10 3 none :: n_GW) { frames := 1, cells := mc, slots := ms, locals := 26 } mc ms (fun a S V => ∃ u0 u1 u2 : Int, a = [(2, u0), (0, u1), (0, u2)] ∧ S.1 u0 = 23 ∧ p u0 u1 u2 S V) (fun a S V rs S' V' => ∃ u0 u1 u2 : Int, a = [(2, u0), (0, u1), (0, u2)] ∧ rs = [] ∧ q u0 u1 u2 S V S' V')
theorem e4_10 {l : Launch} {mc ms : Nat} {p : Int → Int → Int → jS → jH → Prop} {q : Int → Int → Int → jS → jH → jS → jH → Prop} (body : ∀ (C : qCx) (G : jG), x4_10 C G → C.2.2.2.1.frames = 1 ∧ C.2.2.2.1.locals = 26 → C.2.2.2.1.cells = mc ∧ C.2.2.2.1.slots = ms → C.2.1 = l → C.2.2.2.2.2.2.2.2.1.name = "noteShares" → ∀ (u0 u1 u2 : Int) (S : jS) (V : jH), S.1 u0 = 23 → p u0 u1 u2 S V → j_Rv n_KT 3 C G b_4_10 mc ms (q u0 u1 u2 S V) → j_ok n_KT 3 C G 0 [(0, (2, u0)), (1, (0, u1)), (2, (0, u2))] [] S V 0 0) : M4_10 l mc ms p q := by
  refine j_method (ws' := n_GW) (by decide) rfl ?_ ?_
  · rintro a S V ⟨u0, u1, u2, rfl, -⟩
    exact Nat.le_of_ble_eq_true rfl
  · rintro C G htl hl hrm hm hml ho hts hnm hE a S V ⟨u0, u1, u2, rfl, ht, hp⟩ R
    exact body C G ⟨htl, hm, hml, ho, fun w hw => hts w (List.mem_cons_of_mem _ hw), hE⟩ (by rw [hrm]; exact ⟨rfl, rfl⟩) (by rw [hrm]; exact ⟨rfl, rfl⟩) hl hnm u0 u1 u2 S V ht hp (fun pc lo S' V' nc ns d q hc hs => R.1 rfl pc lo S' V' nc ns d ⟨u0, u1, u2, rfl, rfl, q⟩ hc hs)
theorem d4_10_0 : decode b_4_10 0 = .ok (.aload_n 0, 1) := by decide +kernel
theorem d4_10_1 : decode b_4_10 1 = .ok (.getfield 9, 3) := by decide +kernel
theorem d4_10_4 : decode b_4_10 4 = .ok (.iload_n 1, 1) := by decide +kernel
theorem d4_10_5 : decode b_4_10 5 = .ok (.iconst 1, 1) := by decide +kernel
theorem d4_10_6 : decode b_4_10 6 = .ok (.iadd, 1) := by decide +kernel
theorem d4_10_7 : decode b_4_10 7 = .ok (.iload_n 2, 1) := by decide +kernel
theorem d4_10_8 : decode b_4_10 8 = .ok (.iastore, 1) := by decide +kernel
theorem d4_10_9 : decode b_4_10 9 = .ok (.return_, 1) := by decide +kernel
theorem t4_10_0 {C : qCx} {G : jG} {S : jS} {V : jH} {nc ns : Nat} {l0 l1 l2 : Int} {mc ms : Nat} {qf : jS → jH → Prop} (h : x4_10 C G) (L : j_L S) (c1 : S.1 l0 = 23) (c2 : -2147483648 ≤ l1 + 1 ∧ l1 + 1 ≤ 2147483647) (c3 : 0 ≤ l1 + 1) (c4 : l1 + 1 < 257) (R : j_Rv n_KT 3 C G b_4_10 mc ms qf) (q : qf S (j_up V (l0 + 1) (l1 + 1) l2)) (hc : nc ≤ mc) (hs : ns ≤ ms) : j_ok n_KT 3 C G 0 [(0, (2, l0)), (1, (0, l1)), (2, (0, l2))] [] S V nc ns := by
  have E := n_E h
  refine j_aload_n E d4_10_0 rfl 0 rfl ?_
  refine j_getS (f := 0) (x := l0 + 1) (fg2_9 h) d4_10_1 c1 (by decide) rfl rfl ((L2_0 L c1).trans (by omega)) ?_
  refine j_iload_n E d4_10_4 rfl 1 rfl ?_
  refine j_iconst E d4_10_5 (by decide) ?_
  refine j_iadd E d4_10_6 c2 ?_
  refine j_iload_n E d4_10_7 rfl 2 rfl ?_
  refine j_iast E d4_10_8 (j_arr_of (show S.1 (l0 + 1) = 2 from (by have q := L2_0k L c1; rw [show l0 + 1 = l0 + 1 by omega]; exact q)) (by decide) rfl) c3 c4 ?_
  exact R _ _ _ _ _ _ d4_10_9 q hc hs
/- BalanceCoder$Deal.sumUp()V -/
abbrev b_4_11 : ByteArray := prog_4_method_11_code
def y_4_11 : MethodName := ⟨"BalanceCoder$Deal", "sumUp", "()V"⟩
abbrev x4_11 (C : qCx) (G : jG) : Prop := n_ctx C b_4_11 2 "BalanceCoder$Deal" G.1 G.2.1
def M4_11 (l : Launch) (mc ms : Nat) (p : Int → jS → jH → Prop) (q : Int → jS → jH → jS → jH → Prop) : Prop := j_Met l vwCl n_TL n_NW n_KT y_4_11 (Cond.code y_4_11 b_4_11 2 none :: n_GW) { frames := 1, cells := mc, slots := ms, locals := 26 } mc ms (fun a S V => ∃ u0 : Int, a = [(2, u0)] ∧ S.1 u0 = 23 ∧ p u0 S V) (fun a S V rs S' V' => ∃ u0 : Int, a = [(2, u0)] ∧ rs = [] ∧ q u0 S V S' V')
theorem e4_11 {l : Launch} {mc ms : Nat} {p : Int → jS → jH → Prop} {q : Int → jS → jH → jS → jH → Prop} (body : ∀ (C : qCx) (G : jG), x4_11 C G → C.2.2.2.1.frames = 1 ∧ C.2.2.2.1.locals = 26 → C.2.2.2.1.cells = mc ∧ C.2.2.2.1.slots = ms → C.2.1 = l → C.2.2.2.2.2.2.2.2.1.name = "sumUp" → ∀ (u0 : Int) (S : jS) (V : jH), S.1 u0 = 23 → p u0 S V → j_Rv n_KT 2 C G b_4_11 mc ms (q u0 S V) → j_ok n_KT 2 C G 0 [(0, (2, u0))] [] S V 0 0) : M4_11 l mc ms p q := by
  refine j_method (ws' := n_GW) (by decide) rfl ?_ ?_
  · rintro a S V ⟨u0, rfl, -⟩
    exact Nat.le_of_ble_eq_true rfl
  · rintro C G htl hl hrm hm hml ho hts hnm hE a S V ⟨u0, rfl, ht, hp⟩ R
    exact body C G ⟨htl, hm, hml, ho, fun w hw => hts w (List.mem_cons_of_mem _ hw), hE⟩ (by rw [hrm]; exact ⟨rfl, rfl⟩) (by rw [hrm]; exact ⟨rfl, rfl⟩) hl hnm u0 S V ht hp (fun pc lo S' V' nc ns d q hc hs => R.1 rfl pc lo S' V' nc ns d ⟨u0, rfl, rfl, q⟩ hc hs)
theorem d4_11_0 : decode b_4_11 0 = .ok (.iconst 0, 1) := by decide +kernel
theorem d4_11_1 : decode b_4_11 1 = .ok (.istore_n 1, 1) := by decide +kernel
theorem d4_11_2 : decode b_4_11 2 = .ok (.iload_n 1, 1) := by decide +kernel
theorem d4_11_3 : decode b_4_11 3 = .ok (.sipush 256, 3) := by decide +kernel
theorem d4_11_6 : decode b_4_11 6 = .ok (.if_icmp .ge 26, 3) := by decide +kernel
theorem d4_11_9 : decode b_4_11 9 = .ok (.aload_n 0, 1) := by decide +kernel
theorem d4_11_10 : decode b_4_11 10 = .ok (.getfield 9, 3) := by decide +kernel
theorem d4_11_13 : decode b_4_11 13 = .ok (.iload_n 1, 1) := by decide +kernel
theorem d4_11_14 : decode b_4_11 14 = .ok (.iconst 1, 1) := by decide +kernel
theorem d4_11_15 : decode b_4_11 15 = .ok (.iadd, 1) := by decide +kernel
theorem d4_11_16 : decode b_4_11 16 = .ok (.dup2, 1) := by decide +kernel
theorem d4_11_17 : decode b_4_11 17 = .ok (.iaload, 1) := by decide +kernel
theorem d4_11_18 : decode b_4_11 18 = .ok (.aload_n 0, 1) := by decide +kernel
theorem d4_11_19 : decode b_4_11 19 = .ok (.getfield 9, 3) := by decide +kernel
theorem d4_11_22 : decode b_4_11 22 = .ok (.iload_n 1, 1) := by decide +kernel
theorem d4_11_23 : decode b_4_11 23 = .ok (.iaload, 1) := by decide +kernel
theorem d4_11_24 : decode b_4_11 24 = .ok (.iadd, 1) := by decide +kernel
theorem d4_11_25 : decode b_4_11 25 = .ok (.iastore, 1) := by decide +kernel
theorem d4_11_26 : decode b_4_11 26 = .ok (.iinc 1 1, 3) := by decide +kernel
theorem d4_11_29 : decode b_4_11 29 = .ok (.goto (-27), 3) := by decide +kernel
theorem d4_11_32 : decode b_4_11 32 = .ok (.return_, 1) := by decide +kernel
theorem t4_11_0 {C : qCx} {G : jG} {S : jS} {V : jH} {nc ns : Nat} {l0 : Int} (h : x4_11 C G)  (k : j_ok n_KT 2 C G 2 [(0, (2, l0)), (1, (0, 0))] [] S V nc ns) : j_ok n_KT 2 C G 0 [(0, (2, l0))] [] S V nc ns := by
  have E := n_E h
  refine j_iconst E d4_11_0 (by decide) ?_
  refine j_istore_n E d4_11_1 rfl (by decide) (lo1 := [(0, (2, l0))]) rfl ?_
  exact j_pick [1, 0] rfl k
theorem t4_11_2 {C : qCx} {G : jG} {S : jS} {V : jH} {nc ns : Nat} {l0 l1 : Int} (h : x4_11 C G)  (k : 256 ≤ l1 → j_ok n_KT 2 C G 32 [] [] S V nc ns) (k' : l1 < 256 → j_ok n_KT 2 C G 9 [(0, (2, l0)), (1, (0, l1))] [] S V nc ns) : j_ok n_KT 2 C G 2 [(0, (2, l0)), (1, (0, l1))] [] S V nc ns := by
  have E := n_E h
  refine j_iload_n E d4_11_2 rfl 1 rfl ?_
  refine j_sipush E d4_11_3 (by decide) ?_
  exact j_icmp_ge E d4_11_6 (t := 32) rfl (fun q => j_pick [] rfl (k q)) (fun q => j_pick [0, 1] rfl (k' q))
theorem t4_11_9 {C : qCx} {G : jG} {S : jS} {V : jH} {nc ns : Nat} {l0 l1 : Int} (h : x4_11 C G) (L : j_L S) (c1 : S.1 l0 = 23) (c2 : -2147483648 ≤ l1 + 1 ∧ l1 + 1 ≤ 2147483647) (c3 : 0 ≤ l1 + 1) (c4 : l1 + 1 < 257) (c5 : 0 ≤ l1) (c6 : l1 < 257) (c7 : -2147483648 ≤ (V (l0 + 1) (l1 + 1)) + (V (l0 + 1) l1) ∧ (V (l0 + 1) (l1 + 1)) + (V (l0 + 1) l1) ≤ 2147483647) (k : j_ok n_KT 2 C G 2 [(0, (2, l0)), (1, (0, l1 + 1))] [] S (j_up V (l0 + 1) (l1 + 1) ((V (l0 + 1) (l1 + 1)) + (V (l0 + 1) l1))) nc ns) : j_ok n_KT 2 C G 9 [(0, (2, l0)), (1, (0, l1))] [] S V nc ns := by
  have E := n_E h
  refine j_aload_n E d4_11_9 rfl 0 rfl ?_
  refine j_getS (f := 0) (x := l0 + 1) (fg2_9 h) d4_11_10 c1 (by decide) rfl rfl ((L2_0 L c1).trans (by omega)) ?_
  refine j_iload_n E d4_11_13 rfl 1 rfl ?_
  refine j_iconst E d4_11_14 (by decide) ?_
  refine j_iadd E d4_11_15 c2 ?_
  refine j_dup2 E d4_11_16 rfl rfl ?_
  refine j_iald E d4_11_17 (j_arr_of (show S.1 (l0 + 1) = 2 from (by have q := L2_0k L c1; rw [show l0 + 1 = l0 + 1 by omega]; exact q)) (by decide) rfl) c3 c4 ?_
  refine j_aload_n E d4_11_18 rfl 0 rfl ?_
  refine j_getS (f := 0) (x := l0 + 1) (fg2_9 h) d4_11_19 c1 (by decide) rfl rfl ((L2_0 L c1).trans (by omega)) ?_
  refine j_iload_n E d4_11_22 rfl 1 rfl ?_
  refine j_iald E d4_11_23 (j_arr_of (show S.1 (l0 + 1) = 2 from (by have q := L2_0k L c1; rw [show l0 + 1 = l0 + 1 by omega]; exact q)) (by decide) rfl) c5 c6 ?_
  refine j_iadd E d4_11_24 c7 ?_
  refine j_iast E d4_11_25 (j_arr_of (show S.1 (l0 + 1) = 2 from (by have q := L2_0k L c1; rw [show l0 + 1 = l0 + 1 by omega]; exact q)) (by decide) rfl) c3 c4 ?_
  refine j_iinc E d4_11_26 (by decide) (by decide) 1 rfl (lo1 := [(0, (2, l0))]) rfl c2 ?_
  refine j_goto E d4_11_29 (t := 2) rfl ?_
  exact j_pick [1, 0] rfl k
theorem t4_11_32 {C : qCx} {G : jG} {S : jS} {V : jH} {nc ns : Nat} {mc ms : Nat} {qf : jS → jH → Prop} (h : x4_11 C G)  (R : j_Rv n_KT 2 C G b_4_11 mc ms qf) (q : qf S V) (hc : nc ≤ mc) (hs : ns ≤ ms) : j_ok n_KT 2 C G 32 [] [] S V nc ns := by
  have E := n_E h
  exact R _ _ _ _ _ _ d4_11_32 q hc hs
/- BalanceCoder$Dealer.dealDownTo(IILBalanceCoder$Deal;I)V -/
abbrev b_5_6 : ByteArray := prog_5_method_6_code
def y_5_6 : MethodName := ⟨"BalanceCoder$Dealer", "dealDownTo", "(IILBalanceCoder$Deal;I)V"⟩
abbrev x5_6 (C : qCx) (G : jG) : Prop := n_ctx C b_5_6 10 "BalanceCoder$Dealer" G.1 G.2.1
def M5_6 (l : Launch) (mc ms : Nat) (p : Int → Int → Int → Int → Int → jS → jH → Prop) (q : Int → Int → Int → Int → Int → jS → jH → jS → jH → Prop) : Prop := j_Met l vwCl n_TL n_NW n_KT y_5_6 (Cond.code y_5_6 b_5_6 10 none :: n_GW) { frames := 3, cells := mc, slots := ms, locals := 69 } mc ms (fun a S V => ∃ u0 u1 u2 u3 u4 : Int, a = [(2, u0), (0, u1), (0, u2), (2, u3), (0, u4)] ∧ S.1 u0 = 24 ∧ p u0 u1 u2 u3 u4 S V) (fun a S V rs S' V' => ∃ u0 u1 u2 u3 u4 : Int, a = [(2, u0), (0, u1), (0, u2), (2, u3), (0, u4)] ∧ rs = [] ∧ q u0 u1 u2 u3 u4 S V S' V')
theorem e5_6 {l : Launch} {mc ms : Nat} {p : Int → Int → Int → Int → Int → jS → jH → Prop} {q : Int → Int → Int → Int → Int → jS → jH → jS → jH → Prop} (body : ∀ (C : qCx) (G : jG), x5_6 C G → C.2.2.2.1.frames = 3 ∧ C.2.2.2.1.locals = 69 → C.2.2.2.1.cells = mc ∧ C.2.2.2.1.slots = ms → C.2.1 = l → C.2.2.2.2.2.2.2.2.1.name = "dealDownTo" → ∀ (u0 u1 u2 u3 u4 : Int) (S : jS) (V : jH), S.1 u0 = 24 → p u0 u1 u2 u3 u4 S V → j_Rv n_KT 10 C G b_5_6 mc ms (q u0 u1 u2 u3 u4 S V) → j_ok n_KT 10 C G 0 [(0, (2, u0)), (1, (0, u1)), (2, (0, u2)), (3, (2, u3)), (4, (0, u4))] [] S V 0 0) : M5_6 l mc ms p q := by
  refine j_method (ws' := n_GW) (by decide) rfl ?_ ?_
  · rintro a S V ⟨u0, u1, u2, u3, u4, rfl, -⟩
    exact Nat.le_of_ble_eq_true rfl
  · rintro C G htl hl hrm hm hml ho hts hnm hE a S V ⟨u0, u1, u2, u3, u4, rfl, ht, hp⟩ R
    exact body C G ⟨htl, hm, hml, ho, fun w hw => hts w (List.mem_cons_of_mem _ hw), hE⟩ (by rw [hrm]; exact ⟨rfl, rfl⟩) (by rw [hrm]; exact ⟨rfl, rfl⟩) hl hnm u0 u1 u2 u3 u4 S V ht hp (fun pc lo S' V' nc ns d q hc hs => R.1 rfl pc lo S' V' nc ns d ⟨u0, u1, u2, u3, u4, rfl, rfl, q⟩ hc hs)
theorem d5_6_0 : decode b_5_6 0 = .ok (.iload_n 2, 1) := by decide +kernel
theorem d5_6_1 : decode b_5_6 1 = .ok (.istore 5, 2) := by decide +kernel
theorem d5_6_3 : decode b_5_6 3 = .ok (.aload_n 3, 1) := by decide +kernel
theorem d5_6_4 : decode b_5_6 4 = .ok (.invokevirtual 85, 3) := by decide +kernel
theorem d5_6_7 : decode b_5_6 7 = .ok (.iconst 0, 1) := by decide +kernel
theorem d5_6_8 : decode b_5_6 8 = .ok (.istore 6, 2) := by decide +kernel
theorem d5_6_10 : decode b_5_6 10 = .ok (.iload 6, 2) := by decide +kernel
theorem d5_6_12 : decode b_5_6 12 = .ok (.aload_n 0, 1) := by decide +kernel
theorem d5_6_13 : decode b_5_6 13 = .ok (.getfield 18, 3) := by decide +kernel
theorem d5_6_16 : decode b_5_6 16 = .ok (.if_icmp .ge 68, 3) := by decide +kernel
theorem d5_6_19 : decode b_5_6 19 = .ok (.aload_n 0, 1) := by decide +kernel
theorem d5_6_20 : decode b_5_6 20 = .ok (.getfield 15, 3) := by decide +kernel
theorem d5_6_23 : decode b_5_6 23 = .ok (.iload 6, 2) := by decide +kernel
theorem d5_6_25 : decode b_5_6 25 = .ok (.iaload, 1) := by decide +kernel
theorem d5_6_26 : decode b_5_6 26 = .ok (.istore 7, 2) := by decide +kernel
theorem d5_6_28 : decode b_5_6 28 = .ok (.aload_n 0, 1) := by decide +kernel
theorem d5_6_29 : decode b_5_6 29 = .ok (.iload 7, 2) := by decide +kernel
theorem d5_6_31 : decode b_5_6 31 = .ok (.iload_n 1, 1) := by decide +kernel
theorem d5_6_32 : decode b_5_6 32 = .ok (.iconst 1, 1) := by decide +kernel
theorem d5_6_33 : decode b_5_6 33 = .ok (.iadd, 1) := by decide +kernel
theorem d5_6_34 : decode b_5_6 34 = .ok (.iload 4, 2) := by decide +kernel
theorem d5_6_36 : decode b_5_6 36 = .ok (.invokevirtual 88, 3) := by decide +kernel
theorem d5_6_39 : decode b_5_6 39 = .ok (.istore 8, 2) := by decide +kernel
theorem d5_6_41 : decode b_5_6 41 = .ok (.iload 5, 2) := by decide +kernel
theorem d5_6_43 : decode b_5_6 43 = .ok (.aload_n 0, 1) := by decide +kernel
theorem d5_6_44 : decode b_5_6 44 = .ok (.iload 7, 2) := by decide +kernel
theorem d5_6_46 : decode b_5_6 46 = .ok (.iload_n 1, 1) := by decide +kernel
theorem d5_6_47 : decode b_5_6 47 = .ok (.iload 4, 2) := by decide +kernel
theorem d5_6_49 : decode b_5_6 49 = .ok (.invokevirtual 88, 3) := by decide +kernel
theorem d5_6_52 : decode b_5_6 52 = .ok (.iload 8, 2) := by decide +kernel
theorem d5_6_54 : decode b_5_6 54 = .ok (.isub, 1) := by decide +kernel
theorem d5_6_55 : decode b_5_6 55 = .ok (.invokestatic 92, 3) := by decide +kernel
theorem d5_6_58 : decode b_5_6 58 = .ok (.istore 9, 2) := by decide +kernel
theorem d5_6_60 : decode b_5_6 60 = .ok (.iload 5, 2) := by decide +kernel
theorem d5_6_62 : decode b_5_6 62 = .ok (.iload 9, 2) := by decide +kernel
theorem d5_6_64 : decode b_5_6 64 = .ok (.isub, 1) := by decide +kernel
theorem d5_6_65 : decode b_5_6 65 = .ok (.istore 5, 2) := by decide +kernel
theorem d5_6_67 : decode b_5_6 67 = .ok (.aload_n 3, 1) := by decide +kernel
theorem d5_6_68 : decode b_5_6 68 = .ok (.iload 7, 2) := by decide +kernel
theorem d5_6_70 : decode b_5_6 70 = .ok (.iload 8, 2) := by decide +kernel
theorem d5_6_72 : decode b_5_6 72 = .ok (.iload 9, 2) := by decide +kernel
theorem d5_6_74 : decode b_5_6 74 = .ok (.iadd, 1) := by decide +kernel
theorem d5_6_75 : decode b_5_6 75 = .ok (.invokevirtual 97, 3) := by decide +kernel
theorem d5_6_78 : decode b_5_6 78 = .ok (.iinc 6 1, 3) := by decide +kernel
theorem d5_6_81 : decode b_5_6 81 = .ok (.goto (-71), 3) := by decide +kernel
theorem d5_6_84 : decode b_5_6 84 = .ok (.aload_n 3, 1) := by decide +kernel
theorem d5_6_85 : decode b_5_6 85 = .ok (.invokevirtual 101, 3) := by decide +kernel
theorem d5_6_88 : decode b_5_6 88 = .ok (.return_, 1) := by decide +kernel
theorem K5_6_4 {C : qCx} {G : jG} {mc ms : Nat} {p : Int → jS → jH → Prop} {q : Int → jS → jH → jS → jH → Prop} (h : x5_6 C G) (hrm : C.2.2.2.1.frames = 3 ∧ C.2.2.2.1.locals = 69) (hM : M4_7 C.2.1 mc ms p q) : j_Call C b_5_6 n_KT G.1 G.2.1 10 (.invokevirtual 85) mc ms (fun a S V => ∃ u0 : Int, a = [(2, u0)] ∧ S.1 u0 = 23 ∧ p u0 S V) (fun a S V rs S' V' => ∃ u0 : Int, a = [(2, u0)] ∧ rs = [] ∧ q u0 S V S' V') := j_callV n_NWk h.2.2.2.2.2 h.1 hM ⟨h.2.1.1, h.2.1.2, h.2.2.1, h.2.2.2.1, h.2.2.2.2.1⟩ ⟨n_CB (y := y_4_7) (bytes := b_4_7) 0 h.2.2.2.2.1 n_w356 n_w443 n_w8 ⟨by decide, by decide, by decide +kernel⟩ rfl rfl ⟨by rw [hrm.1]; exact Nat.le_of_ble_eq_true rfl, by rw [hrm.2]; exact Nat.le_of_ble_eq_true rfl⟩, h.2.2.2.2.1 _ n_w354, h.2.2.2.2.1 _ n_w355⟩ (Cn := RX2) (fun a S V hP => by obtain ⟨u0, rfl, e, -⟩ := hP; exact ⟨u0, _, 2, _, _, TX2, 1, rfl, rfl, by rw [e]; decide, by rw [e]; rfl, rfl⟩)
theorem K5_6_36 {C : qCx} {G : jG} {mc ms : Nat} {p : Int → Int → Int → Int → jS → jH → Prop} {q : Int → Int → Int → Int → jS → jH → Int → jS → jH → Prop} (h : x5_6 C G) (hrm : C.2.2.2.1.frames = 3 ∧ C.2.2.2.1.locals = 69) (hM : M5_8 C.2.1 mc ms p q) : j_Call C b_5_6 n_KT G.1 G.2.1 10 (.invokevirtual 88) mc ms (fun a S V => ∃ u0 u1 u2 u3 : Int, a = [(2, u0), (0, u1), (0, u2), (0, u3)] ∧ S.1 u0 = 24 ∧ p u0 u1 u2 u3 S V) (fun a S V rs S' V' => ∃ u0 u1 u2 u3 r : Int, a = [(2, u0), (0, u1), (0, u2), (0, u3)] ∧ rs = [(0, r)] ∧ q u0 u1 u2 u3 S V r S' V') := j_callV n_NWk h.2.2.2.2.2 h.1 hM ⟨h.2.1.1, h.2.1.2, h.2.2.1, h.2.2.2.1, h.2.2.2.2.1⟩ ⟨n_CB (y := y_5_8) (bytes := b_5_8) 3 h.2.2.2.2.1 n_w431 n_w428 n_w10 ⟨by decide, by decide, by decide +kernel⟩ rfl rfl ⟨by rw [hrm.1]; exact Nat.le_of_ble_eq_true rfl, by rw [hrm.2]; exact Nat.le_of_ble_eq_true rfl⟩, h.2.2.2.2.1 _ n_w430, h.2.2.2.2.1 _ n_s8⟩ (Cn := RX3) (fun a S V hP => by obtain ⟨u0, u1, u2, u3, rfl, e, -⟩ := hP; exact ⟨u0, _, 3, _, _, TX3, 4, rfl, rfl, by rw [e]; decide, by rw [e]; rfl, rfl⟩)
theorem K5_6_49 {C : qCx} {G : jG} {mc ms : Nat} {p : Int → Int → Int → Int → jS → jH → Prop} {q : Int → Int → Int → Int → jS → jH → Int → jS → jH → Prop} (h : x5_6 C G) (hrm : C.2.2.2.1.frames = 3 ∧ C.2.2.2.1.locals = 69) (hM : M5_8 C.2.1 mc ms p q) : j_Call C b_5_6 n_KT G.1 G.2.1 10 (.invokevirtual 88) mc ms (fun a S V => ∃ u0 u1 u2 u3 : Int, a = [(2, u0), (0, u1), (0, u2), (0, u3)] ∧ S.1 u0 = 24 ∧ p u0 u1 u2 u3 S V) (fun a S V rs S' V' => ∃ u0 u1 u2 u3 r : Int, a = [(2, u0), (0, u1), (0, u2), (0, u3)] ∧ rs = [(0, r)] ∧ q u0 u1 u2 u3 S V r S' V') := j_callV n_NWk h.2.2.2.2.2 h.1 hM ⟨h.2.1.1, h.2.1.2, h.2.2.1, h.2.2.2.1, h.2.2.2.2.1⟩ ⟨n_CB (y := y_5_8) (bytes := b_5_8) 3 h.2.2.2.2.1 n_w431 n_w428 n_w10 ⟨by decide, by decide, by decide +kernel⟩ rfl rfl ⟨by rw [hrm.1]; exact Nat.le_of_ble_eq_true rfl, by rw [hrm.2]; exact Nat.le_of_ble_eq_true rfl⟩, h.2.2.2.2.1 _ n_w430, h.2.2.2.2.1 _ n_s8⟩ (Cn := RX3) (fun a S V hP => by obtain ⟨u0, u1, u2, u3, rfl, e, -⟩ := hP; exact ⟨u0, _, 3, _, _, TX3, 4, rfl, rfl, by rw [e]; decide, by rw [e]; rfl, rfl⟩)
theorem K5_6_75 {C : qCx} {G : jG} {mc ms : Nat} {p : Int → Int → Int → jS → jH → Prop} {q : Int → Int → Int → jS → jH → jS → jH → Prop} (h : x5_6 C G) (hrm : C.2.2.2.1.frames = 3 ∧ C.2.2.2.1.locals = 69) (hM : M4_10 C.2.1 mc ms p q) : j_Call C b_5_6 n_KT G.1 G.2.1 10 (.invokevirtual 97) mc ms (fun a S V => ∃ u0 u1 u2 : Int, a = [(2, u0), (0, u1), (0, u2)] ∧ S.1 u0 = 23 ∧ p u0 u1 u2 S V) (fun a S V rs S' V' => ∃ u0 u1 u2 : Int, a = [(2, u0), (0, u1), (0, u2)] ∧ rs = [] ∧ q u0 u1 u2 S V S' V') := j_callV n_NWk h.2.2.2.2.2 h.1 hM ⟨h.2.1.1, h.2.1.2, h.2.2.1, h.2.2.2.1, h.2.2.2.2.1⟩ ⟨n_CB (y := y_4_10) (bytes := b_4_10) 2 h.2.2.2.2.1 n_w447 n_w444 n_w8 ⟨by decide, by decide, by decide +kernel⟩ rfl rfl ⟨by rw [hrm.1]; exact Nat.le_of_ble_eq_true rfl, by rw [hrm.2]; exact Nat.le_of_ble_eq_true rfl⟩, h.2.2.2.2.1 _ n_w445, h.2.2.2.2.1 _ n_w446⟩ (Cn := RX2) (fun a S V hP => by obtain ⟨u0, u1, u2, rfl, e, -⟩ := hP; exact ⟨u0, _, 2, _, _, TX2, 1, rfl, rfl, by rw [e]; decide, by rw [e]; rfl, rfl⟩)
theorem K5_6_85 {C : qCx} {G : jG} {mc ms : Nat} {p : Int → jS → jH → Prop} {q : Int → jS → jH → jS → jH → Prop} (h : x5_6 C G) (hrm : C.2.2.2.1.frames = 3 ∧ C.2.2.2.1.locals = 69) (hM : M4_11 C.2.1 mc ms p q) : j_Call C b_5_6 n_KT G.1 G.2.1 10 (.invokevirtual 101) mc ms (fun a S V => ∃ u0 : Int, a = [(2, u0)] ∧ S.1 u0 = 23 ∧ p u0 S V) (fun a S V rs S' V' => ∃ u0 : Int, a = [(2, u0)] ∧ rs = [] ∧ q u0 S V S' V') := j_callV n_NWk h.2.2.2.2.2 h.1 hM ⟨h.2.1.1, h.2.1.2, h.2.2.1, h.2.2.2.1, h.2.2.2.2.1⟩ ⟨n_CB (y := y_4_11) (bytes := b_4_11) 0 h.2.2.2.2.1 n_w451 n_w448 n_w8 ⟨by decide, by decide, by decide +kernel⟩ rfl rfl ⟨by rw [hrm.1]; exact Nat.le_of_ble_eq_true rfl, by rw [hrm.2]; exact Nat.le_of_ble_eq_true rfl⟩, h.2.2.2.2.1 _ n_w449, h.2.2.2.2.1 _ n_w450⟩ (Cn := RX2) (fun a S V hP => by obtain ⟨u0, rfl, e, -⟩ := hP; exact ⟨u0, _, 2, _, _, TX2, 1, rfl, rfl, by rw [e]; decide, by rw [e]; rfl, rfl⟩)
theorem t5_6_0 {C : qCx} {G : jG} {S : jS} {V : jH} {nc ns : Nat} {l0 l1 l2 l3 l4 : Int} {mc ms : Nat} {pp : Int → jS → jH → Prop} {qq : Int → jS → jH → jS → jH → Prop} (h : x5_6 C G) (hrm : C.2.2.2.1.frames = 3 ∧ C.2.2.2.1.locals = 69) (c1 : S.1 l3 = 23) (hM : M4_7 C.2.1 mc ms pp qq) (hp : pp l3 S V) (hc : nc + mc ≤ C.2.2.2.1.cells) (hs : ns + ms ≤ C.2.2.2.1.slots) (k : ∀ (S' : jS) (V' : jH), qq l3 S V S' V' → j_ok n_KT 10 C G 7 [(0, (2, l0)), (1, (0, l1)), (3, (2, l3)), (4, (0, l4)), (5, (0, l2))] [] S' V' (nc + mc) (ns + ms)) : j_ok n_KT 10 C G 0 [(0, (2, l0)), (1, (0, l1)), (2, (0, l2)), (3, (2, l3)), (4, (0, l4))] [] S V nc ns := by
  have E := n_E h
  refine j_iload_n E d5_6_0 rfl 2 rfl ?_
  refine j_istore E d5_6_1 (by decide) (lo1 := [(0, (2, l0)), (1, (0, l1)), (2, (0, l2)), (3, (2, l3)), (4, (0, l4))]) rfl ?_
  refine j_aload_n E d5_6_3 rfl 4 rfl ?_
  refine j_call E (K5_6_4 h hrm hM) d5_6_4 (a := [(2, l3)]) (sk := []) rfl ⟨l3, rfl, c1, hp⟩ (Nat.le_of_ble_eq_true rfl) hc hs ?_
  rintro rs S' V' ⟨z0, e1, rfl, q⟩
  simp only [List.cons.injEq, Prod.mk.injEq, and_true, true_and] at e1
  obtain ⟨rfl⟩ := e1
  exact j_pick [1, 2, 4, 5, 0] rfl (k S' V' q)
theorem t5_6_7 {C : qCx} {G : jG} {S : jS} {V : jH} {nc ns : Nat} {l0 l1 l3 l4 l5 : Int} (h : x5_6 C G)  (k : j_ok n_KT 10 C G 10 [(0, (2, l0)), (1, (0, l1)), (3, (2, l3)), (4, (0, l4)), (5, (0, l5)), (6, (0, 0))] [] S V nc ns) : j_ok n_KT 10 C G 7 [(0, (2, l0)), (1, (0, l1)), (3, (2, l3)), (4, (0, l4)), (5, (0, l5))] [] S V nc ns := by
  have E := n_E h
  refine j_iconst E d5_6_7 (by decide) ?_
  refine j_istore E d5_6_8 (by decide) (lo1 := [(0, (2, l0)), (1, (0, l1)), (3, (2, l3)), (4, (0, l4)), (5, (0, l5))]) rfl ?_
  exact j_pick [1, 2, 3, 4, 5, 0] rfl k
theorem t5_6_10 {C : qCx} {G : jG} {S : jS} {V : jH} {nc ns : Nat} {l0 l1 l3 l4 l5 l6 : Int} (h : x5_6 C G) (c1 : S.1 l0 = 24) (k : V l0 2 ≤ l6 → j_ok n_KT 10 C G 84 [(3, (2, l3))] [] S V nc ns) (k' : l6 < V l0 2 → j_ok n_KT 10 C G 19 [(0, (2, l0)), (1, (0, l1)), (3, (2, l3)), (4, (0, l4)), (5, (0, l5)), (6, (0, l6))] [] S V nc ns) : j_ok n_KT 10 C G 10 [(0, (2, l0)), (1, (0, l1)), (3, (2, l3)), (4, (0, l4)), (5, (0, l5)), (6, (0, l6))] [] S V nc ns := by
  have E := n_E h
  refine j_iload E d5_6_10 5 rfl ?_
  refine j_aload_n E d5_6_12 rfl 0 rfl ?_
  refine j_getI (f := 2) (fg3_18 h) d5_6_13 c1 (by decide) rfl rfl ?_
  exact j_icmp_ge E d5_6_16 (t := 84) rfl (fun q => j_pick [2] rfl (k q)) (fun q => j_pick [0, 1, 2, 3, 4, 5] rfl (k' q))
theorem t5_6_19 {C : qCx} {G : jG} {S : jS} {V : jH} {nc ns : Nat} {l0 l1 l3 l4 l5 l6 : Int} {mc ms : Nat} {pp : Int → Int → Int → Int → jS → jH → Prop} {qq : Int → Int → Int → Int → jS → jH → Int → jS → jH → Prop} (h : x5_6 C G) (L : j_L S) (hrm : C.2.2.2.1.frames = 3 ∧ C.2.2.2.1.locals = 69) (c1 : S.1 l0 = 24) (c2 : 0 ≤ l6) (c3 : l6 < 256) (c4 : -2147483648 ≤ l1 + 1 ∧ l1 + 1 ≤ 2147483647) (hM : M5_8 C.2.1 mc ms pp qq) (hp : pp l0 (V (l0 + 2) l6) (l1 + 1) l4 S V) (hc : nc + mc ≤ C.2.2.2.1.cells) (hs : ns + ms ≤ C.2.2.2.1.slots) (k : ∀ (r : Int) (S' : jS) (V' : jH), qq l0 (V (l0 + 2) l6) (l1 + 1) l4 S V r S' V' → j_ok n_KT 10 C G 39 [(0, (2, l0)), (1, (0, l1)), (3, (2, l3)), (4, (0, l4)), (5, (0, l5)), (6, (0, l6)), (7, (0, V (l0 + 2) l6))] [(0, r)] S' V' (nc + mc) (ns + ms)) : j_ok n_KT 10 C G 19 [(0, (2, l0)), (1, (0, l1)), (3, (2, l3)), (4, (0, l4)), (5, (0, l5)), (6, (0, l6))] [] S V nc ns := by
  have E := n_E h
  refine j_aload_n E d5_6_19 rfl 0 rfl ?_
  refine j_getS (f := 1) (x := l0 + 2) (fg3_15 h) d5_6_20 c1 (by decide) rfl rfl ((L3_1 L c1).trans (by omega)) ?_
  refine j_iload E d5_6_23 5 rfl ?_
  refine j_iald E d5_6_25 (j_arr_of (show S.1 (l0 + 2) = 3 from (by have q := L3_1k L c1; rw [show l0 + 2 = l0 + 2 by omega]; exact q)) (by decide) rfl) c2 c3 ?_
  refine j_istore E d5_6_26 (by decide) (lo1 := [(0, (2, l0)), (1, (0, l1)), (3, (2, l3)), (4, (0, l4)), (5, (0, l5)), (6, (0, l6))]) rfl ?_
  refine j_aload_n E d5_6_28 rfl 1 rfl ?_
  refine j_iload E d5_6_29 0 rfl ?_
  refine j_iload_n E d5_6_31 rfl 2 rfl ?_
  refine j_iconst E d5_6_32 (by decide) ?_
  refine j_iadd E d5_6_33 c4 ?_
  refine j_iload E d5_6_34 4 rfl ?_
  refine j_call E (K5_6_36 h hrm hM) d5_6_36 (a := [(2, l0), (0, V (l0 + 2) l6), (0, l1 + 1), (0, l4)]) (sk := []) rfl ⟨l0, V (l0 + 2) l6, l1 + 1, l4, rfl, c1, hp⟩ (Nat.le_of_ble_eq_true rfl) hc hs ?_
  rintro rs S' V' ⟨z0, z1, z2, z3, r, e1, rfl, q⟩
  simp only [List.cons.injEq, Prod.mk.injEq, and_true, true_and] at e1
  obtain ⟨rfl, rfl, rfl, rfl⟩ := e1
  exact j_pick [1, 2, 3, 4, 5, 6, 0] rfl (k r S' V' q)
theorem t5_6_39 {C : qCx} {G : jG} {S : jS} {V : jH} {nc ns : Nat} {l0 l1 l3 l4 l5 l6 l7 s0 : Int} {mc ms : Nat} {pp : Int → Int → Int → Int → jS → jH → Prop} {qq : Int → Int → Int → Int → jS → jH → Int → jS → jH → Prop} (h : x5_6 C G) (hrm : C.2.2.2.1.frames = 3 ∧ C.2.2.2.1.locals = 69) (c1 : S.1 l0 = 24) (hM : M5_8 C.2.1 mc ms pp qq) (hp : pp l0 l7 l1 l4 S V) (hc : nc + mc ≤ C.2.2.2.1.cells) (hs : ns + ms ≤ C.2.2.2.1.slots) (k : ∀ (r : Int) (S' : jS) (V' : jH), qq l0 l7 l1 l4 S V r S' V' → j_ok n_KT 10 C G 52 [(0, (2, l0)), (1, (0, l1)), (3, (2, l3)), (4, (0, l4)), (5, (0, l5)), (6, (0, l6)), (7, (0, l7)), (8, (0, s0))] [(0, r), (0, l5)] S' V' (nc + mc) (ns + ms)) : j_ok n_KT 10 C G 39 [(0, (2, l0)), (1, (0, l1)), (3, (2, l3)), (4, (0, l4)), (5, (0, l5)), (6, (0, l6)), (7, (0, l7))] [(0, s0)] S V nc ns := by
  have E := n_E h
  refine j_istore E d5_6_39 (by decide) (lo1 := [(0, (2, l0)), (1, (0, l1)), (3, (2, l3)), (4, (0, l4)), (5, (0, l5)), (6, (0, l6)), (7, (0, l7))]) rfl ?_
  refine j_iload E d5_6_41 5 rfl ?_
  refine j_aload_n E d5_6_43 rfl 1 rfl ?_
  refine j_iload E d5_6_44 7 rfl ?_
  refine j_iload_n E d5_6_46 rfl 2 rfl ?_
  refine j_iload E d5_6_47 4 rfl ?_
  refine j_call E (K5_6_49 h hrm hM) d5_6_49 (a := [(2, l0), (0, l7), (0, l1), (0, l4)]) (sk := [(0, l5)]) rfl ⟨l0, l7, l1, l4, rfl, c1, hp⟩ (Nat.le_of_ble_eq_true rfl) hc hs ?_
  rintro rs S' V' ⟨z0, z1, z2, z3, r, e1, rfl, q⟩
  simp only [List.cons.injEq, Prod.mk.injEq, and_true, true_and] at e1
  obtain ⟨rfl, rfl, rfl, rfl⟩ := e1
  exact j_pick [1, 2, 3, 4, 5, 6, 7, 0] rfl (k r S' V' q)
theorem t5_6_52 {C : qCx} {G : jG} {S : jS} {V : jH} {nc ns : Nat} {l0 l1 l3 l4 l5 l6 l7 l8 s0 s1 : Int} {mc ms : Nat} {pp : Int → Int → Int → jS → jH → Prop} {qq : Int → Int → Int → jS → jH → jS → jH → Prop} (h : x5_6 C G) (hrm : C.2.2.2.1.frames = 3 ∧ C.2.2.2.1.locals = 69) (hR : 1 ≤ C.2.2.2.1.frames ∧ 26 ≤ C.2.2.2.1.locals) (c1 : -2147483648 ≤ s0 - l8 ∧ s0 - l8 ≤ 2147483647) (c2 : nc ≤ C.2.2.2.1.cells) (c3 : ns ≤ C.2.2.2.1.slots) (c4 : -2147483648 ≤ l5 - (min s1 (s0 - l8)) ∧ l5 - (min s1 (s0 - l8)) ≤ 2147483647) (c5 : -2147483648 ≤ l8 + (min s1 (s0 - l8)) ∧ l8 + (min s1 (s0 - l8)) ≤ 2147483647) (c6 : S.1 l3 = 23) (hM : M4_10 C.2.1 mc ms pp qq) (hp : pp l3 l7 (l8 + (min s1 (s0 - l8))) S V) (hc : nc + mc ≤ C.2.2.2.1.cells) (hs : ns + ms ≤ C.2.2.2.1.slots) (k : ∀ (S' : jS) (V' : jH), qq l3 l7 (l8 + (min s1 (s0 - l8))) S V S' V' → j_ok n_KT 10 C G 78 [(0, (2, l0)), (1, (0, l1)), (3, (2, l3)), (4, (0, l4)), (5, (0, l5 - (min s1 (s0 - l8)))), (6, (0, l6))] [] S' V' (nc + mc) (ns + ms)) : j_ok n_KT 10 C G 52 [(0, (2, l0)), (1, (0, l1)), (3, (2, l3)), (4, (0, l4)), (5, (0, l5)), (6, (0, l6)), (7, (0, l7)), (8, (0, l8))] [(0, s0), (0, s1)] S V nc ns := by
  have E := n_E h
  refine j_iload E d5_6_52 7 rfl ?_
  refine j_isub E d5_6_54 c1 ?_
  refine j_min (fx3_92 h ⟨hR.1, by omega⟩) d5_6_55 (Nat.le_of_ble_eq_true rfl) c2 c3 ?_
  refine j_istore E d5_6_58 (by decide) (lo1 := [(0, (2, l0)), (1, (0, l1)), (3, (2, l3)), (4, (0, l4)), (5, (0, l5)), (6, (0, l6)), (7, (0, l7)), (8, (0, l8))]) rfl ?_
  refine j_iload E d5_6_60 5 rfl ?_
  refine j_iload E d5_6_62 0 rfl ?_
  refine j_isub E d5_6_64 c4 ?_
  refine j_istore E d5_6_65 (by decide) (lo1 := [(9, (0, min s1 (s0 - l8))), (0, (2, l0)), (1, (0, l1)), (3, (2, l3)), (4, (0, l4)), (6, (0, l6)), (7, (0, l7)), (8, (0, l8))]) rfl ?_
  refine j_aload_n E d5_6_67 rfl 4 rfl ?_
  refine j_iload E d5_6_68 7 rfl ?_
  refine j_iload E d5_6_70 8 rfl ?_
  refine j_iload E d5_6_72 1 rfl ?_
  refine j_iadd E d5_6_74 c5 ?_
  refine j_call E (K5_6_75 h hrm hM) d5_6_75 (a := [(2, l3), (0, l7), (0, l8 + (min s1 (s0 - l8)))]) (sk := []) rfl ⟨l3, l7, l8 + (min s1 (s0 - l8)), rfl, c6, hp⟩ (Nat.le_of_ble_eq_true rfl) hc hs ?_
  rintro rs S' V' ⟨z0, z1, z2, e1, rfl, q⟩
  simp only [List.cons.injEq, Prod.mk.injEq, and_true, true_and] at e1
  obtain ⟨rfl, rfl, rfl⟩ := e1
  exact j_pick [2, 3, 4, 5, 0, 6] rfl (k S' V' q)
theorem t5_6_78 {C : qCx} {G : jG} {S : jS} {V : jH} {nc ns : Nat} {l0 l1 l3 l4 l5 l6 : Int} (h : x5_6 C G) (c1 : -2147483648 ≤ l6 + 1 ∧ l6 + 1 ≤ 2147483647) (k : j_ok n_KT 10 C G 10 [(0, (2, l0)), (1, (0, l1)), (3, (2, l3)), (4, (0, l4)), (5, (0, l5)), (6, (0, l6 + 1))] [] S V nc ns) : j_ok n_KT 10 C G 78 [(0, (2, l0)), (1, (0, l1)), (3, (2, l3)), (4, (0, l4)), (5, (0, l5)), (6, (0, l6))] [] S V nc ns := by
  have E := n_E h
  refine j_iinc E d5_6_78 (by decide) (by decide) 5 rfl (lo1 := [(0, (2, l0)), (1, (0, l1)), (3, (2, l3)), (4, (0, l4)), (5, (0, l5))]) rfl c1 ?_
  refine j_goto E d5_6_81 (t := 10) rfl ?_
  exact j_pick [1, 2, 3, 4, 5, 0] rfl k
theorem t5_6_84 {C : qCx} {G : jG} {S : jS} {V : jH} {nc ns : Nat} {l3 : Int} {mc ms : Nat} {pp : Int → jS → jH → Prop} {qq : Int → jS → jH → jS → jH → Prop} (h : x5_6 C G) (hrm : C.2.2.2.1.frames = 3 ∧ C.2.2.2.1.locals = 69) (c1 : S.1 l3 = 23) (hM : M4_11 C.2.1 mc ms pp qq) (hp : pp l3 S V) (hc : nc + mc ≤ C.2.2.2.1.cells) (hs : ns + ms ≤ C.2.2.2.1.slots) (k : ∀ (S' : jS) (V' : jH), qq l3 S V S' V' → j_ok n_KT 10 C G 88 [] [] S' V' (nc + mc) (ns + ms)) : j_ok n_KT 10 C G 84 [(3, (2, l3))] [] S V nc ns := by
  have E := n_E h
  refine j_aload_n E d5_6_84 rfl 0 rfl ?_
  refine j_call E (K5_6_85 h hrm hM) d5_6_85 (a := [(2, l3)]) (sk := []) rfl ⟨l3, rfl, c1, hp⟩ (Nat.le_of_ble_eq_true rfl) hc hs ?_
  rintro rs S' V' ⟨z0, e1, rfl, q⟩
  simp only [List.cons.injEq, Prod.mk.injEq, and_true, true_and] at e1
  obtain ⟨rfl⟩ := e1
  exact j_pick [] rfl (k S' V' q)
theorem t5_6_88 {C : qCx} {G : jG} {S : jS} {V : jH} {nc ns : Nat} {mc ms : Nat} {qf : jS → jH → Prop} (h : x5_6 C G)  (R : j_Rv n_KT 10 C G b_5_6 mc ms qf) (q : qf S V) (hc : nc ≤ mc) (hs : ns ≤ ms) : j_ok n_KT 10 C G 88 [] [] S V nc ns := by
  have E := n_E h
  exact R _ _ _ _ _ _ d5_6_88 q hc hs
/- BalanceCoder$Dealer.dealByCounts(LBalanceCoder$Deal;I)V -/
abbrev b_5_5 : ByteArray := prog_5_method_5_code
def y_5_5 : MethodName := ⟨"BalanceCoder$Dealer", "dealByCounts", "(LBalanceCoder$Deal;I)V"⟩
abbrev x5_5 (C : qCx) (G : jG) : Prop := n_ctx C b_5_5 5 "BalanceCoder$Dealer" G.1 G.2.1
def M5_5 (l : Launch) (mc ms : Nat) (p : Int → Int → Int → jS → jH → Prop) (q : Int → Int → Int → jS → jH → jS → jH → Prop) : Prop := j_Met l vwCl n_TL n_NW n_KT y_5_5 (Cond.code y_5_5 b_5_5 5 none :: n_GW) { frames := 4, cells := mc, slots := ms, locals := 98 } mc ms (fun a S V => ∃ u0 u1 u2 : Int, a = [(2, u0), (2, u1), (0, u2)] ∧ S.1 u0 = 24 ∧ p u0 u1 u2 S V) (fun a S V rs S' V' => ∃ u0 u1 u2 : Int, a = [(2, u0), (2, u1), (0, u2)] ∧ rs = [] ∧ q u0 u1 u2 S V S' V')
theorem e5_5 {l : Launch} {mc ms : Nat} {p : Int → Int → Int → jS → jH → Prop} {q : Int → Int → Int → jS → jH → jS → jH → Prop} (body : ∀ (C : qCx) (G : jG), x5_5 C G → C.2.2.2.1.frames = 4 ∧ C.2.2.2.1.locals = 98 → C.2.2.2.1.cells = mc ∧ C.2.2.2.1.slots = ms → C.2.1 = l → C.2.2.2.2.2.2.2.2.1.name = "dealByCounts" → ∀ (u0 u1 u2 : Int) (S : jS) (V : jH), S.1 u0 = 24 → p u0 u1 u2 S V → j_Rv n_KT 5 C G b_5_5 mc ms (q u0 u1 u2 S V) → j_ok n_KT 5 C G 0 [(0, (2, u0)), (1, (2, u1)), (2, (0, u2))] [] S V 0 0) : M5_5 l mc ms p q := by
  refine j_method (ws' := n_GW) (by decide) rfl ?_ ?_
  · rintro a S V ⟨u0, u1, u2, rfl, -⟩
    exact Nat.le_of_ble_eq_true rfl
  · rintro C G htl hl hrm hm hml ho hts hnm hE a S V ⟨u0, u1, u2, rfl, ht, hp⟩ R
    exact body C G ⟨htl, hm, hml, ho, fun w hw => hts w (List.mem_cons_of_mem _ hw), hE⟩ (by rw [hrm]; exact ⟨rfl, rfl⟩) (by rw [hrm]; exact ⟨rfl, rfl⟩) hl hnm u0 u1 u2 S V ht hp (fun pc lo S' V' nc ns d q hc hs => R.1 rfl pc lo S' V' nc ns d ⟨u0, u1, u2, rfl, rfl, q⟩ hc hs)
theorem d5_5_0 : decode b_5_5 0 = .ok (.aload_n 0, 1) := by decide +kernel
theorem d5_5_1 : decode b_5_5 1 = .ok (.getfield 18, 3) := by decide +kernel
theorem d5_5_4 : decode b_5_5 4 = .ok (.ifCond .ne 9, 3) := by decide +kernel
theorem d5_5_7 : decode b_5_5 7 = .ok (.aload_n 1, 1) := by decide +kernel
theorem d5_5_8 : decode b_5_5 8 = .ok (.iload_n 2, 1) := by decide +kernel
theorem d5_5_9 : decode b_5_5 9 = .ok (.invokevirtual 70, 3) := by decide +kernel
theorem d5_5_12 : decode b_5_5 12 = .ok (.return_, 1) := by decide +kernel
theorem d5_5_13 : decode b_5_5 13 = .ok (.iconst 0, 1) := by decide +kernel
theorem d5_5_14 : decode b_5_5 14 = .ok (.istore_n 3, 1) := by decide +kernel
theorem d5_5_15 : decode b_5_5 15 = .ok (.ldc 76, 2) := by decide +kernel
theorem d5_5_17 : decode b_5_5 17 = .ok (.istore 4, 2) := by decide +kernel
theorem d5_5_19 : decode b_5_5 19 = .ok (.iload 4, 2) := by decide +kernel
theorem d5_5_21 : decode b_5_5 21 = .ok (.ifCond .le 30, 3) := by decide +kernel
theorem d5_5_24 : decode b_5_5 24 = .ok (.aload_n 0, 1) := by decide +kernel
theorem d5_5_25 : decode b_5_5 25 = .ok (.iload_n 3, 1) := by decide +kernel
theorem d5_5_26 : decode b_5_5 26 = .ok (.iload 4, 2) := by decide +kernel
theorem d5_5_28 : decode b_5_5 28 = .ok (.iadd, 1) := by decide +kernel
theorem d5_5_29 : decode b_5_5 29 = .ok (.iload_n 2, 1) := by decide +kernel
theorem d5_5_30 : decode b_5_5 30 = .ok (.invokevirtual 77, 3) := by decide +kernel
theorem d5_5_33 : decode b_5_5 33 = .ok (.iload_n 2, 1) := by decide +kernel
theorem d5_5_34 : decode b_5_5 34 = .ok (.if_icmp .lt 8, 3) := by decide +kernel
theorem d5_5_37 : decode b_5_5 37 = .ok (.iload_n 3, 1) := by decide +kernel
theorem d5_5_38 : decode b_5_5 38 = .ok (.iload 4, 2) := by decide +kernel
theorem d5_5_40 : decode b_5_5 40 = .ok (.iadd, 1) := by decide +kernel
theorem d5_5_41 : decode b_5_5 41 = .ok (.istore_n 3, 1) := by decide +kernel
theorem d5_5_42 : decode b_5_5 42 = .ok (.iload 4, 2) := by decide +kernel
theorem d5_5_44 : decode b_5_5 44 = .ok (.iconst 1, 1) := by decide +kernel
theorem d5_5_45 : decode b_5_5 45 = .ok (.ishr, 1) := by decide +kernel
theorem d5_5_46 : decode b_5_5 46 = .ok (.istore 4, 2) := by decide +kernel
theorem d5_5_48 : decode b_5_5 48 = .ok (.goto (-29), 3) := by decide +kernel
theorem d5_5_51 : decode b_5_5 51 = .ok (.aload_n 0, 1) := by decide +kernel
theorem d5_5_52 : decode b_5_5 52 = .ok (.iload_n 3, 1) := by decide +kernel
theorem d5_5_53 : decode b_5_5 53 = .ok (.iload_n 2, 1) := by decide +kernel
theorem d5_5_54 : decode b_5_5 54 = .ok (.aload_n 0, 1) := by decide +kernel
theorem d5_5_55 : decode b_5_5 55 = .ok (.iload_n 3, 1) := by decide +kernel
theorem d5_5_56 : decode b_5_5 56 = .ok (.iconst 1, 1) := by decide +kernel
theorem d5_5_57 : decode b_5_5 57 = .ok (.iadd, 1) := by decide +kernel
theorem d5_5_58 : decode b_5_5 58 = .ok (.iload_n 2, 1) := by decide +kernel
theorem d5_5_59 : decode b_5_5 59 = .ok (.invokevirtual 77, 3) := by decide +kernel
theorem d5_5_62 : decode b_5_5 62 = .ok (.isub, 1) := by decide +kernel
theorem d5_5_63 : decode b_5_5 63 = .ok (.aload_n 1, 1) := by decide +kernel
theorem d5_5_64 : decode b_5_5 64 = .ok (.iload_n 2, 1) := by decide +kernel
theorem d5_5_65 : decode b_5_5 65 = .ok (.invokevirtual 81, 3) := by decide +kernel
theorem d5_5_68 : decode b_5_5 68 = .ok (.return_, 1) := by decide +kernel
theorem K5_5_9 {C : qCx} {G : jG} {mc ms : Nat} {p : Int → Int → jS → jH → Prop} {q : Int → Int → jS → jH → jS → jH → Prop} (h : x5_5 C G) (hrm : C.2.2.2.1.frames = 4 ∧ C.2.2.2.1.locals = 98) (hM : M4_8 C.2.1 mc ms p q) : j_Call C b_5_5 n_KT G.1 G.2.1 5 (.invokevirtual 70) mc ms (fun a S V => ∃ u0 u1 : Int, a = [(2, u0), (0, u1)] ∧ S.1 u0 = 23 ∧ p u0 u1 S V) (fun a S V rs S' V' => ∃ u0 u1 : Int, a = [(2, u0), (0, u1)] ∧ rs = [] ∧ q u0 u1 S V S' V') := j_callV n_NWk h.2.2.2.2.2 h.1 hM ⟨h.2.1.1, h.2.1.2, h.2.2.1, h.2.2.2.1, h.2.2.2.2.1⟩ ⟨n_CB (y := y_4_8) (bytes := b_4_8) 1 h.2.2.2.2.1 n_w352 n_w422 n_w8 ⟨by decide, by decide, by decide +kernel⟩ rfl rfl ⟨by rw [hrm.1]; exact Nat.le_of_ble_eq_true rfl, by rw [hrm.2]; exact Nat.le_of_ble_eq_true rfl⟩, h.2.2.2.2.1 _ n_w350, h.2.2.2.2.1 _ n_w351⟩ (Cn := RX2) (fun a S V hP => by obtain ⟨u0, u1, rfl, e, -⟩ := hP; exact ⟨u0, _, 2, _, _, TX2, 1, rfl, rfl, by rw [e]; decide, by rw [e]; rfl, rfl⟩)
theorem K5_5_30 {C : qCx} {G : jG} {mc ms : Nat} {p : Int → Int → Int → jS → jH → Prop} {q : Int → Int → Int → jS → jH → Int → jS → jH → Prop} (h : x5_5 C G) (hrm : C.2.2.2.1.frames = 4 ∧ C.2.2.2.1.locals = 98) (hM : M5_7 C.2.1 mc ms p q) : j_Call C b_5_5 n_KT G.1 G.2.1 5 (.invokevirtual 77) mc ms (fun a S V => ∃ u0 u1 u2 : Int, a = [(2, u0), (0, u1), (0, u2)] ∧ S.1 u0 = 24 ∧ p u0 u1 u2 S V) (fun a S V rs S' V' => ∃ u0 u1 u2 r : Int, a = [(2, u0), (0, u1), (0, u2)] ∧ rs = [(0, r)] ∧ q u0 u1 u2 S V r S' V') := j_callV n_NWk h.2.2.2.2.2 h.1 hM ⟨h.2.1.1, h.2.1.2, h.2.2.1, h.2.2.2.1, h.2.2.2.2.1⟩ ⟨n_CB (y := y_5_7) (bytes := b_5_7) 2 h.2.2.2.2.1 n_w427 n_w424 n_w10 ⟨by decide, by decide, by decide +kernel⟩ rfl rfl ⟨by rw [hrm.1]; exact Nat.le_of_ble_eq_true rfl, by rw [hrm.2]; exact Nat.le_of_ble_eq_true rfl⟩, h.2.2.2.2.1 _ n_w426, h.2.2.2.2.1 _ n_s7⟩ (Cn := RX3) (fun a S V hP => by obtain ⟨u0, u1, u2, rfl, e, -⟩ := hP; exact ⟨u0, _, 3, _, _, TX3, 4, rfl, rfl, by rw [e]; decide, by rw [e]; rfl, rfl⟩)
theorem K5_5_59 {C : qCx} {G : jG} {mc ms : Nat} {p : Int → Int → Int → jS → jH → Prop} {q : Int → Int → Int → jS → jH → Int → jS → jH → Prop} (h : x5_5 C G) (hrm : C.2.2.2.1.frames = 4 ∧ C.2.2.2.1.locals = 98) (hM : M5_7 C.2.1 mc ms p q) : j_Call C b_5_5 n_KT G.1 G.2.1 5 (.invokevirtual 77) mc ms (fun a S V => ∃ u0 u1 u2 : Int, a = [(2, u0), (0, u1), (0, u2)] ∧ S.1 u0 = 24 ∧ p u0 u1 u2 S V) (fun a S V rs S' V' => ∃ u0 u1 u2 r : Int, a = [(2, u0), (0, u1), (0, u2)] ∧ rs = [(0, r)] ∧ q u0 u1 u2 S V r S' V') := j_callV n_NWk h.2.2.2.2.2 h.1 hM ⟨h.2.1.1, h.2.1.2, h.2.2.1, h.2.2.2.1, h.2.2.2.2.1⟩ ⟨n_CB (y := y_5_7) (bytes := b_5_7) 2 h.2.2.2.2.1 n_w427 n_w424 n_w10 ⟨by decide, by decide, by decide +kernel⟩ rfl rfl ⟨by rw [hrm.1]; exact Nat.le_of_ble_eq_true rfl, by rw [hrm.2]; exact Nat.le_of_ble_eq_true rfl⟩, h.2.2.2.2.1 _ n_w426, h.2.2.2.2.1 _ n_s7⟩ (Cn := RX3) (fun a S V hP => by obtain ⟨u0, u1, u2, rfl, e, -⟩ := hP; exact ⟨u0, _, 3, _, _, TX3, 4, rfl, rfl, by rw [e]; decide, by rw [e]; rfl, rfl⟩)
theorem K5_5_65 {C : qCx} {G : jG} {mc ms : Nat} {p : Int → Int → Int → Int → Int → jS → jH → Prop} {q : Int → Int → Int → Int → Int → jS → jH → jS → jH → Prop} (h : x5_5 C G) (hrm : C.2.2.2.1.frames = 4 ∧ C.2.2.2.1.locals = 98) (hM : M5_6 C.2.1 mc ms p q) : j_Call C b_5_5 n_KT G.1 G.2.1 5 (.invokevirtual 81) mc ms (fun a S V => ∃ u0 u1 u2 u3 u4 : Int, a = [(2, u0), (0, u1), (0, u2), (2, u3), (0, u4)] ∧ S.1 u0 = 24 ∧ p u0 u1 u2 u3 u4 S V) (fun a S V rs S' V' => ∃ u0 u1 u2 u3 u4 : Int, a = [(2, u0), (0, u1), (0, u2), (2, u3), (0, u4)] ∧ rs = [] ∧ q u0 u1 u2 u3 u4 S V S' V') := j_callV n_NWk h.2.2.2.2.2 h.1 hM ⟨h.2.1.1, h.2.1.2, h.2.2.1, h.2.2.2.1, h.2.2.2.2.1⟩ ⟨n_CB (y := y_5_6) (bytes := b_5_6) 4 h.2.2.2.2.1 n_w442 n_w439 n_w10 ⟨by decide, by decide, by decide +kernel⟩ rfl rfl ⟨by rw [hrm.1]; exact Nat.le_of_ble_eq_true rfl, by rw [hrm.2]; exact Nat.le_of_ble_eq_true rfl⟩, h.2.2.2.2.1 _ n_w441, h.2.2.2.2.1 _ n_s9⟩ (Cn := RX3) (fun a S V hP => by obtain ⟨u0, u1, u2, u3, u4, rfl, e, -⟩ := hP; exact ⟨u0, _, 3, _, _, TX3, 4, rfl, rfl, by rw [e]; decide, by rw [e]; rfl, rfl⟩)
theorem t5_5_0 {C : qCx} {G : jG} {S : jS} {V : jH} {nc ns : Nat} {l0 l1 l2 : Int} (h : x5_5 C G) (c1 : S.1 l0 = 24) (k : ¬ V l0 2 = 0 → j_ok n_KT 5 C G 13 [(0, (2, l0)), (1, (2, l1)), (2, (0, l2))] [] S V nc ns) (k' : V l0 2 = 0 → j_ok n_KT 5 C G 7 [(1, (2, l1)), (2, (0, l2))] [] S V nc ns) : j_ok n_KT 5 C G 0 [(0, (2, l0)), (1, (2, l1)), (2, (0, l2))] [] S V nc ns := by
  have E := n_E h
  refine j_aload_n E d5_5_0 rfl 0 rfl ?_
  refine j_getI (f := 2) (fg3_18 h) d5_5_1 c1 (by decide) rfl rfl ?_
  exact j_if_ne E d5_5_4 (t := 13) rfl (fun q => j_pick [0, 1, 2] rfl (k q)) (fun q => j_pick [1, 2] rfl (k' q))
theorem t5_5_7 {C : qCx} {G : jG} {S : jS} {V : jH} {nc ns : Nat} {l1 l2 : Int} {mc ms : Nat} {pp : Int → Int → jS → jH → Prop} {qq : Int → Int → jS → jH → jS → jH → Prop} (h : x5_5 C G) (hrm : C.2.2.2.1.frames = 4 ∧ C.2.2.2.1.locals = 98) (c1 : S.1 l1 = 23) (hM : M4_8 C.2.1 mc ms pp qq) (hp : pp l1 l2 S V) (hc : nc + mc ≤ C.2.2.2.1.cells) (hs : ns + ms ≤ C.2.2.2.1.slots) (k : ∀ (S' : jS) (V' : jH), qq l1 l2 S V S' V' → j_ok n_KT 5 C G 12 [] [] S' V' (nc + mc) (ns + ms)) : j_ok n_KT 5 C G 7 [(1, (2, l1)), (2, (0, l2))] [] S V nc ns := by
  have E := n_E h
  refine j_aload_n E d5_5_7 rfl 0 rfl ?_
  refine j_iload_n E d5_5_8 rfl 1 rfl ?_
  refine j_call E (K5_5_9 h hrm hM) d5_5_9 (a := [(2, l1), (0, l2)]) (sk := []) rfl ⟨l1, l2, rfl, c1, hp⟩ (Nat.le_of_ble_eq_true rfl) hc hs ?_
  rintro rs S' V' ⟨z0, z1, e1, rfl, q⟩
  simp only [List.cons.injEq, Prod.mk.injEq, and_true, true_and] at e1
  obtain ⟨rfl, rfl⟩ := e1
  exact j_pick [] rfl (k S' V' q)
theorem t5_5_12 {C : qCx} {G : jG} {S : jS} {V : jH} {nc ns : Nat} {mc ms : Nat} {qf : jS → jH → Prop} (h : x5_5 C G)  (R : j_Rv n_KT 5 C G b_5_5 mc ms qf) (q : qf S V) (hc : nc ≤ mc) (hs : ns ≤ ms) : j_ok n_KT 5 C G 12 [] [] S V nc ns := by
  have E := n_E h
  exact R _ _ _ _ _ _ d5_5_12 q hc hs
theorem t5_5_13 {C : qCx} {G : jG} {S : jS} {V : jH} {nc ns : Nat} {l0 l1 l2 : Int} (h : x5_5 C G)  (k : j_ok n_KT 5 C G 19 [(0, (2, l0)), (1, (2, l1)), (2, (0, l2)), (3, (0, 0)), (4, (0, 268435456))] [] S V nc ns) : j_ok n_KT 5 C G 13 [(0, (2, l0)), (1, (2, l1)), (2, (0, l2))] [] S V nc ns := by
  have E := n_E h
  refine j_iconst E d5_5_13 (by decide) ?_
  refine j_istore_n E d5_5_14 rfl (by decide) (lo1 := [(0, (2, l0)), (1, (2, l1)), (2, (0, l2))]) rfl ?_
  refine j_ldc (n := 268435456) (fk3_76 h) rfl d5_5_15 ?_
  refine j_istore E d5_5_17 (by decide) (lo1 := [(3, (0, 0)), (0, (2, l0)), (1, (2, l1)), (2, (0, l2))]) rfl ?_
  exact j_pick [2, 3, 4, 1, 0] rfl k
theorem t5_5_19 {C : qCx} {G : jG} {S : jS} {V : jH} {nc ns : Nat} {l0 l1 l2 l3 l4 : Int} (h : x5_5 C G)  (k : l4 ≤ 0 → j_ok n_KT 5 C G 51 [(0, (2, l0)), (1, (2, l1)), (2, (0, l2)), (3, (0, l3))] [] S V nc ns) (k' : 0 < l4 → j_ok n_KT 5 C G 24 [(0, (2, l0)), (1, (2, l1)), (2, (0, l2)), (3, (0, l3)), (4, (0, l4))] [] S V nc ns) : j_ok n_KT 5 C G 19 [(0, (2, l0)), (1, (2, l1)), (2, (0, l2)), (3, (0, l3)), (4, (0, l4))] [] S V nc ns := by
  have E := n_E h
  refine j_iload E d5_5_19 4 rfl ?_
  exact j_if_le E d5_5_21 (t := 51) rfl (fun q => j_pick [0, 1, 2, 3] rfl (k q)) (fun q => j_pick [0, 1, 2, 3, 4] rfl (k' q))
theorem t5_5_24 {C : qCx} {G : jG} {S : jS} {V : jH} {nc ns : Nat} {l0 l1 l2 l3 l4 : Int} {mc ms : Nat} {pp : Int → Int → Int → jS → jH → Prop} {qq : Int → Int → Int → jS → jH → Int → jS → jH → Prop} (h : x5_5 C G) (hrm : C.2.2.2.1.frames = 4 ∧ C.2.2.2.1.locals = 98) (c1 : -2147483648 ≤ l3 + l4 ∧ l3 + l4 ≤ 2147483647) (c2 : S.1 l0 = 24) (hM : M5_7 C.2.1 mc ms pp qq) (hp : pp l0 (l3 + l4) l2 S V) (hc : nc + mc ≤ C.2.2.2.1.cells) (hs : ns + ms ≤ C.2.2.2.1.slots) (k : ∀ (r : Int) (S' : jS) (V' : jH), qq l0 (l3 + l4) l2 S V r S' V' → j_ok n_KT 5 C G 33 [(0, (2, l0)), (1, (2, l1)), (2, (0, l2)), (3, (0, l3)), (4, (0, l4))] [(0, r)] S' V' (nc + mc) (ns + ms)) : j_ok n_KT 5 C G 24 [(0, (2, l0)), (1, (2, l1)), (2, (0, l2)), (3, (0, l3)), (4, (0, l4))] [] S V nc ns := by
  have E := n_E h
  refine j_aload_n E d5_5_24 rfl 0 rfl ?_
  refine j_iload_n E d5_5_25 rfl 3 rfl ?_
  refine j_iload E d5_5_26 4 rfl ?_
  refine j_iadd E d5_5_28 c1 ?_
  refine j_iload_n E d5_5_29 rfl 2 rfl ?_
  refine j_call E (K5_5_30 h hrm hM) d5_5_30 (a := [(2, l0), (0, l3 + l4), (0, l2)]) (sk := []) rfl ⟨l0, l3 + l4, l2, rfl, c2, hp⟩ (Nat.le_of_ble_eq_true rfl) hc hs ?_
  rintro rs S' V' ⟨z0, z1, z2, r, e1, rfl, q⟩
  simp only [List.cons.injEq, Prod.mk.injEq, and_true, true_and] at e1
  obtain ⟨rfl, rfl, rfl⟩ := e1
  exact j_pick [0, 1, 2, 3, 4] rfl (k r S' V' q)
theorem t5_5_33 {C : qCx} {G : jG} {S : jS} {V : jH} {nc ns : Nat} {l0 l1 l2 l3 l4 s0 : Int} (h : x5_5 C G)  (k : s0 < l2 → j_ok n_KT 5 C G 42 [(0, (2, l0)), (1, (2, l1)), (2, (0, l2)), (3, (0, l3)), (4, (0, l4))] [] S V nc ns) (k' : l2 ≤ s0 → j_ok n_KT 5 C G 37 [(0, (2, l0)), (1, (2, l1)), (2, (0, l2)), (3, (0, l3)), (4, (0, l4))] [] S V nc ns) : j_ok n_KT 5 C G 33 [(0, (2, l0)), (1, (2, l1)), (2, (0, l2)), (3, (0, l3)), (4, (0, l4))] [(0, s0)] S V nc ns := by
  have E := n_E h
  refine j_iload_n E d5_5_33 rfl 2 rfl ?_
  exact j_icmp_lt E d5_5_34 (t := 42) rfl (fun q => j_pick [0, 1, 2, 3, 4] rfl (k q)) (fun q => j_pick [0, 1, 2, 3, 4] rfl (k' q))
theorem t5_5_37 {C : qCx} {G : jG} {S : jS} {V : jH} {nc ns : Nat} {l0 l1 l2 l3 l4 : Int} (h : x5_5 C G) (c1 : -2147483648 ≤ l3 + l4 ∧ l3 + l4 ≤ 2147483647) (k : j_ok n_KT 5 C G 42 [(0, (2, l0)), (1, (2, l1)), (2, (0, l2)), (3, (0, l3 + l4)), (4, (0, l4))] [] S V nc ns) : j_ok n_KT 5 C G 37 [(0, (2, l0)), (1, (2, l1)), (2, (0, l2)), (3, (0, l3)), (4, (0, l4))] [] S V nc ns := by
  have E := n_E h
  refine j_iload_n E d5_5_37 rfl 3 rfl ?_
  refine j_iload E d5_5_38 4 rfl ?_
  refine j_iadd E d5_5_40 c1 ?_
  refine j_istore_n E d5_5_41 rfl (by decide) (lo1 := [(0, (2, l0)), (1, (2, l1)), (2, (0, l2)), (4, (0, l4))]) rfl ?_
  exact j_pick [1, 2, 3, 0, 4] rfl k
theorem t5_5_42 {C : qCx} {G : jG} {S : jS} {V : jH} {nc ns : Nat} {l0 l1 l2 l3 l4 : Int} (h : x5_5 C G) (c1 : 0 ≤ l4) (k : j_ok n_KT 5 C G 19 [(0, (2, l0)), (1, (2, l1)), (2, (0, l2)), (3, (0, l3)), (4, (0, l4 / 2 ^ (1 : Int).toNat))] [] S V nc ns) : j_ok n_KT 5 C G 42 [(0, (2, l0)), (1, (2, l1)), (2, (0, l2)), (3, (0, l3)), (4, (0, l4))] [] S V nc ns := by
  have E := n_E h
  refine j_iload E d5_5_42 4 rfl ?_
  refine j_iconst E d5_5_44 (by decide) ?_
  refine j_ishr E d5_5_45 c1 (by decide) (by decide) ?_
  refine j_istore E d5_5_46 (by decide) (lo1 := [(0, (2, l0)), (1, (2, l1)), (2, (0, l2)), (3, (0, l3))]) rfl ?_
  refine j_goto E d5_5_48 (t := 19) rfl ?_
  exact j_pick [1, 2, 3, 4, 0] rfl k
theorem t5_5_51 {C : qCx} {G : jG} {S : jS} {V : jH} {nc ns : Nat} {l0 l1 l2 l3 : Int} {mc ms : Nat} {pp : Int → Int → Int → jS → jH → Prop} {qq : Int → Int → Int → jS → jH → Int → jS → jH → Prop} (h : x5_5 C G) (hrm : C.2.2.2.1.frames = 4 ∧ C.2.2.2.1.locals = 98) (c1 : -2147483648 ≤ l3 + 1 ∧ l3 + 1 ≤ 2147483647) (c2 : S.1 l0 = 24) (hM : M5_7 C.2.1 mc ms pp qq) (hp : pp l0 (l3 + 1) l2 S V) (hc : nc + mc ≤ C.2.2.2.1.cells) (hs : ns + ms ≤ C.2.2.2.1.slots) (k : ∀ (r : Int) (S' : jS) (V' : jH), qq l0 (l3 + 1) l2 S V r S' V' → j_ok n_KT 5 C G 62 [(1, (2, l1)), (2, (0, l2))] [(0, r), (0, l2), (0, l3), (2, l0)] S' V' (nc + mc) (ns + ms)) : j_ok n_KT 5 C G 51 [(0, (2, l0)), (1, (2, l1)), (2, (0, l2)), (3, (0, l3))] [] S V nc ns := by
  have E := n_E h
  refine j_aload_n E d5_5_51 rfl 0 rfl ?_
  refine j_iload_n E d5_5_52 rfl 3 rfl ?_
  refine j_iload_n E d5_5_53 rfl 2 rfl ?_
  refine j_aload_n E d5_5_54 rfl 0 rfl ?_
  refine j_iload_n E d5_5_55 rfl 3 rfl ?_
  refine j_iconst E d5_5_56 (by decide) ?_
  refine j_iadd E d5_5_57 c1 ?_
  refine j_iload_n E d5_5_58 rfl 2 rfl ?_
  refine j_call E (K5_5_59 h hrm hM) d5_5_59 (a := [(2, l0), (0, l3 + 1), (0, l2)]) (sk := [(0, l2), (0, l3), (2, l0)]) rfl ⟨l0, l3 + 1, l2, rfl, c2, hp⟩ (Nat.le_of_ble_eq_true rfl) hc hs ?_
  rintro rs S' V' ⟨z0, z1, z2, r, e1, rfl, q⟩
  simp only [List.cons.injEq, Prod.mk.injEq, and_true, true_and] at e1
  obtain ⟨rfl, rfl, rfl⟩ := e1
  exact j_pick [1, 2] rfl (k r S' V' q)
theorem t5_5_62 {C : qCx} {G : jG} {S : jS} {V : jH} {nc ns : Nat} {l1 l2 s0 s1 s2 s3 : Int} {mc ms : Nat} {pp : Int → Int → Int → Int → Int → jS → jH → Prop} {qq : Int → Int → Int → Int → Int → jS → jH → jS → jH → Prop} (h : x5_5 C G) (hrm : C.2.2.2.1.frames = 4 ∧ C.2.2.2.1.locals = 98) (c1 : -2147483648 ≤ s1 - s0 ∧ s1 - s0 ≤ 2147483647) (c2 : S.1 s3 = 24) (hM : M5_6 C.2.1 mc ms pp qq) (hp : pp s3 s2 (s1 - s0) l1 l2 S V) (hc : nc + mc ≤ C.2.2.2.1.cells) (hs : ns + ms ≤ C.2.2.2.1.slots) (k : ∀ (S' : jS) (V' : jH), qq s3 s2 (s1 - s0) l1 l2 S V S' V' → j_ok n_KT 5 C G 68 [] [] S' V' (nc + mc) (ns + ms)) : j_ok n_KT 5 C G 62 [(1, (2, l1)), (2, (0, l2))] [(0, s0), (0, s1), (0, s2), (2, s3)] S V nc ns := by
  have E := n_E h
  refine j_isub E d5_5_62 c1 ?_
  refine j_aload_n E d5_5_63 rfl 0 rfl ?_
  refine j_iload_n E d5_5_64 rfl 1 rfl ?_
  refine j_call E (K5_5_65 h hrm hM) d5_5_65 (a := [(2, s3), (0, s2), (0, s1 - s0), (2, l1), (0, l2)]) (sk := []) rfl ⟨s3, s2, s1 - s0, l1, l2, rfl, c2, hp⟩ (Nat.le_of_ble_eq_true rfl) hc hs ?_
  rintro rs S' V' ⟨z0, z1, z2, z3, z4, e1, rfl, q⟩
  simp only [List.cons.injEq, Prod.mk.injEq, and_true, true_and] at e1
  obtain ⟨rfl, rfl, rfl, rfl, rfl⟩ := e1
  exact j_pick [] rfl (k S' V' q)
theorem t5_5_68 {C : qCx} {G : jG} {S : jS} {V : jH} {nc ns : Nat} {mc ms : Nat} {qf : jS → jH → Prop} (h : x5_5 C G)  (R : j_Rv n_KT 5 C G b_5_5 mc ms qf) (q : qf S V) (hc : nc ≤ mc) (hs : ns ≤ ms) : j_ok n_KT 5 C G 68 [] [] S V nc ns := by
  have E := n_E h
  exact R _ _ _ _ _ _ d5_5_68 q hc hs
/- BalanceCoder$Dealer.teach(LBalanceCoder$Table;LBalanceCoder$Row;)V -/
abbrev b_5_2 : ByteArray := prog_5_method_2_code
def y_5_2 : MethodName := ⟨"BalanceCoder$Dealer", "teach", "(LBalanceCoder$Table;LBalanceCoder$Row;)V"⟩
abbrev x5_2 (C : qCx) (G : jG) : Prop := n_ctx C b_5_2 4 "BalanceCoder$Dealer" G.1 G.2.1
def M5_2 (l : Launch) (mc ms : Nat) (p : Int → Int → Int → jS → jH → Prop) (q : Int → Int → Int → jS → jH → jS → jH → Prop) : Prop := j_Met l vwCl n_TL n_NW n_KT y_5_2 (Cond.code y_5_2 b_5_2 4 none :: n_GW) { frames := 5, cells := mc, slots := ms, locals := 122 } mc ms (fun a S V => ∃ u0 u1 u2 : Int, a = [(2, u0), (2, u1), (2, u2)] ∧ S.1 u0 = 24 ∧ p u0 u1 u2 S V) (fun a S V rs S' V' => ∃ u0 u1 u2 : Int, a = [(2, u0), (2, u1), (2, u2)] ∧ rs = [] ∧ q u0 u1 u2 S V S' V')
theorem e5_2 {l : Launch} {mc ms : Nat} {p : Int → Int → Int → jS → jH → Prop} {q : Int → Int → Int → jS → jH → jS → jH → Prop} (body : ∀ (C : qCx) (G : jG), x5_2 C G → C.2.2.2.1.frames = 5 ∧ C.2.2.2.1.locals = 122 → C.2.2.2.1.cells = mc ∧ C.2.2.2.1.slots = ms → C.2.1 = l → C.2.2.2.2.2.2.2.2.1.name = "teach" → ∀ (u0 u1 u2 : Int) (S : jS) (V : jH), S.1 u0 = 24 → p u0 u1 u2 S V → j_Rv n_KT 4 C G b_5_2 mc ms (q u0 u1 u2 S V) → j_ok n_KT 4 C G 0 [(0, (2, u0)), (1, (2, u1)), (2, (2, u2))] [] S V 0 0) : M5_2 l mc ms p q := by
  refine j_method (ws' := n_GW) (by decide) rfl ?_ ?_
  · rintro a S V ⟨u0, u1, u2, rfl, -⟩
    exact Nat.le_of_ble_eq_true rfl
  · rintro C G htl hl hrm hm hml ho hts hnm hE a S V ⟨u0, u1, u2, rfl, ht, hp⟩ R
    exact body C G ⟨htl, hm, hml, ho, fun w hw => hts w (List.mem_cons_of_mem _ hw), hE⟩ (by rw [hrm]; exact ⟨rfl, rfl⟩) (by rw [hrm]; exact ⟨rfl, rfl⟩) hl hnm u0 u1 u2 S V ht hp (fun pc lo S' V' nc ns d q hc hs => R.1 rfl pc lo S' V' nc ns d ⟨u0, u1, u2, rfl, rfl, q⟩ hc hs)
theorem d5_2_0 : decode b_5_2 0 = .ok (.iconst 0, 1) := by decide +kernel
theorem d5_2_1 : decode b_5_2 1 = .ok (.istore_n 3, 1) := by decide +kernel
theorem d5_2_2 : decode b_5_2 2 = .ok (.iload_n 3, 1) := by decide +kernel
theorem d5_2_3 : decode b_5_2 3 = .ok (.aload_n 1, 1) := by decide +kernel
theorem d5_2_4 : decode b_5_2 4 = .ok (.invokevirtual 25, 3) := by decide +kernel
theorem d5_2_7 : decode b_5_2 7 = .ok (.if_icmp .ge 41, 3) := by decide +kernel
theorem d5_2_10 : decode b_5_2 10 = .ok (.aload_n 0, 1) := by decide +kernel
theorem d5_2_11 : decode b_5_2 11 = .ok (.aload_n 2, 1) := by decide +kernel
theorem d5_2_12 : decode b_5_2 12 = .ok (.aload_n 1, 1) := by decide +kernel
theorem d5_2_13 : decode b_5_2 13 = .ok (.getfield 31, 3) := by decide +kernel
theorem d5_2_16 : decode b_5_2 16 = .ok (.iconst 3, 1) := by decide +kernel
theorem d5_2_17 : decode b_5_2 17 = .ok (.if_icmp .ne 7, 3) := by decide +kernel
theorem d5_2_20 : decode b_5_2 20 = .ok (.iload_n 3, 1) := by decide +kernel
theorem d5_2_21 : decode b_5_2 21 = .ok (.goto 4, 3) := by decide +kernel
theorem d5_2_24 : decode b_5_2 24 = .ok (.iconst (-1), 1) := by decide +kernel
theorem d5_2_25 : decode b_5_2 25 = .ok (.invokevirtual 34, 3) := by decide +kernel
theorem d5_2_28 : decode b_5_2 28 = .ok (.aload_n 0, 1) := by decide +kernel
theorem d5_2_29 : decode b_5_2 29 = .ok (.aload_n 1, 1) := by decide +kernel
theorem d5_2_30 : decode b_5_2 30 = .ok (.getfield 38, 3) := by decide +kernel
theorem d5_2_33 : decode b_5_2 33 = .ok (.iload_n 3, 1) := by decide +kernel
theorem d5_2_34 : decode b_5_2 34 = .ok (.aaload, 1) := by decide +kernel
theorem d5_2_35 : decode b_5_2 35 = .ok (.aload_n 1, 1) := by decide +kernel
theorem d5_2_36 : decode b_5_2 36 = .ok (.invokevirtual 42, 3) := by decide +kernel
theorem d5_2_39 : decode b_5_2 39 = .ok (.invokevirtual 45, 3) := by decide +kernel
theorem d5_2_42 : decode b_5_2 42 = .ok (.iinc 3 1, 3) := by decide +kernel
theorem d5_2_45 : decode b_5_2 45 = .ok (.goto (-43), 3) := by decide +kernel
theorem d5_2_48 : decode b_5_2 48 = .ok (.return_, 1) := by decide +kernel
theorem K5_2_4 {C : qCx} {G : jG} {mc ms : Nat} {p : Int → jS → jH → Prop} {q : Int → jS → jH → Int → jS → jH → Prop} (h : x5_2 C G) (hrm : C.2.2.2.1.frames = 5 ∧ C.2.2.2.1.locals = 122) (hM : M10_5 C.2.1 mc ms p q) : j_Call C b_5_2 n_KT G.1 G.2.1 4 (.invokevirtual 25) mc ms (fun a S V => ∃ u0 : Int, a = [(2, u0)] ∧ S.1 u0 = 29 ∧ p u0 S V) (fun a S V rs S' V' => ∃ u0 r : Int, a = [(2, u0)] ∧ rs = [(0, r)] ∧ q u0 S V r S' V') := j_callV n_NWk h.2.2.2.2.2 h.1 hM ⟨h.2.1.1, h.2.1.2, h.2.2.1, h.2.2.2.1, h.2.2.2.2.1⟩ ⟨n_CB (y := y_10_5) (bytes := b_10_5) 0 h.2.2.2.2.1 n_w404 n_w401 n_w7 ⟨by decide, by decide, by decide +kernel⟩ rfl rfl ⟨by rw [hrm.1]; exact Nat.le_of_ble_eq_true rfl, by rw [hrm.2]; exact Nat.le_of_ble_eq_true rfl⟩, h.2.2.2.2.1 _ n_w402, h.2.2.2.2.1 _ n_w403⟩ (Cn := RX8) (fun a S V hP => by obtain ⟨u0, rfl, e, -⟩ := hP; exact ⟨u0, _, 8, _, _, TX8, 3, rfl, rfl, by rw [e]; decide, by rw [e]; rfl, rfl⟩)
theorem K5_2_25 {C : qCx} {G : jG} {mc ms : Nat} {p : Int → Int → Int → jS → jH → Prop} {q : Int → Int → Int → jS → jH → jS → jH → Prop} (h : x5_2 C G) (hrm : C.2.2.2.1.frames = 5 ∧ C.2.2.2.1.locals = 122) (hM : M5_3 C.2.1 mc ms p q) : j_Call C b_5_2 n_KT G.1 G.2.1 4 (.invokevirtual 34) mc ms (fun a S V => ∃ u0 u1 u2 : Int, a = [(2, u0), (2, u1), (0, u2)] ∧ S.1 u0 = 24 ∧ p u0 u1 u2 S V) (fun a S V rs S' V' => ∃ u0 u1 u2 : Int, a = [(2, u0), (2, u1), (0, u2)] ∧ rs = [] ∧ q u0 u1 u2 S V S' V') := j_callV n_NWk h.2.2.2.2.2 h.1 hM ⟨h.2.1.1, h.2.1.2, h.2.2.1, h.2.2.2.1, h.2.2.2.2.1⟩ ⟨n_CB (y := y_5_3) (bytes := b_5_3) 2 h.2.2.2.2.1 n_w408 n_w405 n_w10 ⟨by decide, by decide, by decide +kernel⟩ rfl rfl ⟨by rw [hrm.1]; exact Nat.le_of_ble_eq_true rfl, by rw [hrm.2]; exact Nat.le_of_ble_eq_true rfl⟩, h.2.2.2.2.1 _ n_w407, h.2.2.2.2.1 _ n_s4⟩ (Cn := RX3) (fun a S V hP => by obtain ⟨u0, u1, u2, rfl, e, -⟩ := hP; exact ⟨u0, _, 3, _, _, TX3, 4, rfl, rfl, by rw [e]; decide, by rw [e]; rfl, rfl⟩)
theorem K5_2_36 {C : qCx} {G : jG} {mc ms : Nat} {p : Int → jS → jH → Prop} {q : Int → jS → jH → Int → jS → jH → Prop} (h : x5_2 C G) (hrm : C.2.2.2.1.frames = 5 ∧ C.2.2.2.1.locals = 122) (hM : M10_4 C.2.1 mc ms p q) : j_Call C b_5_2 n_KT G.1 G.2.1 4 (.invokevirtual 42) mc ms (fun a S V => ∃ u0 : Int, a = [(2, u0)] ∧ S.1 u0 = 29 ∧ p u0 S V) (fun a S V rs S' V' => ∃ u0 r : Int, a = [(2, u0)] ∧ rs = [(0, r)] ∧ q u0 S V r S' V') := j_callV n_NWk h.2.2.2.2.2 h.1 hM ⟨h.2.1.1, h.2.1.2, h.2.2.1, h.2.2.2.1, h.2.2.2.2.1⟩ ⟨n_CB (y := y_10_4) (bytes := b_10_4) 0 h.2.2.2.2.1 n_w348 n_w417 n_w7 ⟨by decide, by decide, by decide +kernel⟩ rfl rfl ⟨by rw [hrm.1]; exact Nat.le_of_ble_eq_true rfl, by rw [hrm.2]; exact Nat.le_of_ble_eq_true rfl⟩, h.2.2.2.2.1 _ n_w346, h.2.2.2.2.1 _ n_w347⟩ (Cn := RX8) (fun a S V hP => by obtain ⟨u0, rfl, e, -⟩ := hP; exact ⟨u0, _, 8, _, _, TX8, 3, rfl, rfl, by rw [e]; decide, by rw [e]; rfl, rfl⟩)
theorem K5_2_39 {C : qCx} {G : jG} {mc ms : Nat} {p : Int → Int → Int → jS → jH → Prop} {q : Int → Int → Int → jS → jH → jS → jH → Prop} (h : x5_2 C G) (hrm : C.2.2.2.1.frames = 5 ∧ C.2.2.2.1.locals = 122) (hM : M5_5 C.2.1 mc ms p q) : j_Call C b_5_2 n_KT G.1 G.2.1 4 (.invokevirtual 45) mc ms (fun a S V => ∃ u0 u1 u2 : Int, a = [(2, u0), (2, u1), (0, u2)] ∧ S.1 u0 = 24 ∧ p u0 u1 u2 S V) (fun a S V rs S' V' => ∃ u0 u1 u2 : Int, a = [(2, u0), (2, u1), (0, u2)] ∧ rs = [] ∧ q u0 u1 u2 S V S' V') := j_callV n_NWk h.2.2.2.2.2 h.1 hM ⟨h.2.1.1, h.2.1.2, h.2.2.1, h.2.2.2.1, h.2.2.2.2.1⟩ ⟨n_CB (y := y_5_5) (bytes := b_5_5) 2 h.2.2.2.2.1 n_w421 n_w418 n_w10 ⟨by decide, by decide, by decide +kernel⟩ rfl rfl ⟨by rw [hrm.1]; exact Nat.le_of_ble_eq_true rfl, by rw [hrm.2]; exact Nat.le_of_ble_eq_true rfl⟩, h.2.2.2.2.1 _ n_w420, h.2.2.2.2.1 _ n_s6⟩ (Cn := RX3) (fun a S V hP => by obtain ⟨u0, u1, u2, rfl, e, -⟩ := hP; exact ⟨u0, _, 3, _, _, TX3, 4, rfl, rfl, by rw [e]; decide, by rw [e]; rfl, rfl⟩)
theorem t5_2_0 {C : qCx} {G : jG} {S : jS} {V : jH} {nc ns : Nat} {l0 l1 l2 : Int} (h : x5_2 C G)  (k : j_ok n_KT 4 C G 2 [(0, (2, l0)), (1, (2, l1)), (2, (2, l2)), (3, (0, 0))] [] S V nc ns) : j_ok n_KT 4 C G 0 [(0, (2, l0)), (1, (2, l1)), (2, (2, l2))] [] S V nc ns := by
  have E := n_E h
  refine j_iconst E d5_2_0 (by decide) ?_
  refine j_istore_n E d5_2_1 rfl (by decide) (lo1 := [(0, (2, l0)), (1, (2, l1)), (2, (2, l2))]) rfl ?_
  exact j_pick [1, 2, 3, 0] rfl k
theorem t5_2_2 {C : qCx} {G : jG} {S : jS} {V : jH} {nc ns : Nat} {l0 l1 l2 l3 : Int} {mc ms : Nat} {pp : Int → jS → jH → Prop} {qq : Int → jS → jH → Int → jS → jH → Prop} (h : x5_2 C G) (hrm : C.2.2.2.1.frames = 5 ∧ C.2.2.2.1.locals = 122) (c1 : S.1 l1 = 29) (hM : M10_5 C.2.1 mc ms pp qq) (hp : pp l1 S V) (hc : nc + mc ≤ C.2.2.2.1.cells) (hs : ns + ms ≤ C.2.2.2.1.slots) (k : ∀ (r : Int) (S' : jS) (V' : jH), qq l1 S V r S' V' → j_ok n_KT 4 C G 7 [(0, (2, l0)), (1, (2, l1)), (2, (2, l2)), (3, (0, l3))] [(0, r), (0, l3)] S' V' (nc + mc) (ns + ms)) : j_ok n_KT 4 C G 2 [(0, (2, l0)), (1, (2, l1)), (2, (2, l2)), (3, (0, l3))] [] S V nc ns := by
  have E := n_E h
  refine j_iload_n E d5_2_2 rfl 3 rfl ?_
  refine j_aload_n E d5_2_3 rfl 1 rfl ?_
  refine j_call E (K5_2_4 h hrm hM) d5_2_4 (a := [(2, l1)]) (sk := [(0, l3)]) rfl ⟨l1, rfl, c1, hp⟩ (Nat.le_of_ble_eq_true rfl) hc hs ?_
  rintro rs S' V' ⟨z0, r, e1, rfl, q⟩
  simp only [List.cons.injEq, Prod.mk.injEq, and_true, true_and] at e1
  obtain ⟨rfl⟩ := e1
  exact j_pick [0, 1, 2, 3] rfl (k r S' V' q)
theorem t5_2_7 {C : qCx} {G : jG} {S : jS} {V : jH} {nc ns : Nat} {l0 l1 l2 l3 s0 s1 : Int} (h : x5_2 C G)  (k : s0 ≤ s1 → j_ok n_KT 4 C G 48 [] [] S V nc ns) (k' : s1 < s0 → j_ok n_KT 4 C G 10 [(0, (2, l0)), (1, (2, l1)), (2, (2, l2)), (3, (0, l3))] [] S V nc ns) : j_ok n_KT 4 C G 7 [(0, (2, l0)), (1, (2, l1)), (2, (2, l2)), (3, (0, l3))] [(0, s0), (0, s1)] S V nc ns := by
  have E := n_E h
  exact j_icmp_ge E d5_2_7 (t := 48) rfl (fun q => j_pick [] rfl (k q)) (fun q => j_pick [0, 1, 2, 3] rfl (k' q))
theorem t5_2_10 {C : qCx} {G : jG} {S : jS} {V : jH} {nc ns : Nat} {l0 l1 l2 l3 : Int} (h : x5_2 C G) (c1 : S.1 l1 = 29) (k : ¬ V l1 1 = 3 → j_ok n_KT 4 C G 24 [(0, (2, l0)), (1, (2, l1)), (2, (2, l2)), (3, (0, l3))] [(2, l2), (2, l0)] S V nc ns) (k' : V l1 1 = 3 → j_ok n_KT 4 C G 20 [(0, (2, l0)), (1, (2, l1)), (2, (2, l2)), (3, (0, l3))] [(2, l2), (2, l0)] S V nc ns) : j_ok n_KT 4 C G 10 [(0, (2, l0)), (1, (2, l1)), (2, (2, l2)), (3, (0, l3))] [] S V nc ns := by
  have E := n_E h
  refine j_aload_n E d5_2_10 rfl 0 rfl ?_
  refine j_aload_n E d5_2_11 rfl 2 rfl ?_
  refine j_aload_n E d5_2_12 rfl 1 rfl ?_
  refine j_getI (f := 1) (fg3_31 h) d5_2_13 c1 (by decide) rfl rfl ?_
  refine j_iconst E d5_2_16 (by decide) ?_
  exact j_icmp_ne E d5_2_17 (t := 24) rfl (fun q => j_pick [0, 1, 2, 3] rfl (k q)) (fun q => j_pick [0, 1, 2, 3] rfl (k' q))
theorem t5_2_20 {C : qCx} {G : jG} {S : jS} {V : jH} {nc ns : Nat} {l0 l1 l2 l3 s0 s1 : Int} (h : x5_2 C G)  (k : j_ok n_KT 4 C G 25 [(0, (2, l0)), (1, (2, l1)), (2, (2, l2)), (3, (0, l3))] [(0, l3), (2, s0), (2, s1)] S V nc ns) : j_ok n_KT 4 C G 20 [(0, (2, l0)), (1, (2, l1)), (2, (2, l2)), (3, (0, l3))] [(2, s0), (2, s1)] S V nc ns := by
  have E := n_E h
  refine j_iload_n E d5_2_20 rfl 3 rfl ?_
  refine j_goto E d5_2_21 (t := 25) rfl ?_
  exact j_pick [0, 1, 2, 3] rfl k
theorem t5_2_24 {C : qCx} {G : jG} {S : jS} {V : jH} {nc ns : Nat} {l0 l1 l2 l3 s0 s1 : Int} (h : x5_2 C G)  (k : j_ok n_KT 4 C G 25 [(0, (2, l0)), (1, (2, l1)), (2, (2, l2)), (3, (0, l3))] [(0, (-1)), (2, s0), (2, s1)] S V nc ns) : j_ok n_KT 4 C G 24 [(0, (2, l0)), (1, (2, l1)), (2, (2, l2)), (3, (0, l3))] [(2, s0), (2, s1)] S V nc ns := by
  have E := n_E h
  refine j_iconst E d5_2_24 (by decide) ?_
  exact j_pick [0, 1, 2, 3] rfl k
theorem t5_2_25 {C : qCx} {G : jG} {S : jS} {V : jH} {nc ns : Nat} {l0 l1 l2 l3 s0 s1 s2 : Int} {mc ms : Nat} {pp : Int → Int → Int → jS → jH → Prop} {qq : Int → Int → Int → jS → jH → jS → jH → Prop} (h : x5_2 C G) (hrm : C.2.2.2.1.frames = 5 ∧ C.2.2.2.1.locals = 122) (c1 : S.1 s2 = 24) (hM : M5_3 C.2.1 mc ms pp qq) (hp : pp s2 s1 s0 S V) (hc : nc + mc ≤ C.2.2.2.1.cells) (hs : ns + ms ≤ C.2.2.2.1.slots) (k : ∀ (S' : jS) (V' : jH), qq s2 s1 s0 S V S' V' → j_ok n_KT 4 C G 28 [(0, (2, l0)), (1, (2, l1)), (2, (2, l2)), (3, (0, l3))] [] S' V' (nc + mc) (ns + ms)) : j_ok n_KT 4 C G 25 [(0, (2, l0)), (1, (2, l1)), (2, (2, l2)), (3, (0, l3))] [(0, s0), (2, s1), (2, s2)] S V nc ns := by
  have E := n_E h
  refine j_call E (K5_2_25 h hrm hM) d5_2_25 (a := [(2, s2), (2, s1), (0, s0)]) (sk := []) rfl ⟨s2, s1, s0, rfl, c1, hp⟩ (Nat.le_of_ble_eq_true rfl) hc hs ?_
  rintro rs S' V' ⟨z0, z1, z2, e1, rfl, q⟩
  simp only [List.cons.injEq, Prod.mk.injEq, and_true, true_and] at e1
  obtain ⟨rfl, rfl, rfl⟩ := e1
  exact j_pick [0, 1, 2, 3] rfl (k S' V' q)
theorem t5_2_28 {C : qCx} {G : jG} {S : jS} {V : jH} {nc ns : Nat} {l0 l1 l2 l3 : Int} {mc ms : Nat} {pp : Int → jS → jH → Prop} {qq : Int → jS → jH → Int → jS → jH → Prop} (h : x5_2 C G) (L : j_L S) (hrm : C.2.2.2.1.frames = 5 ∧ C.2.2.2.1.locals = 122) (c1 : S.1 l1 = 29) (c2 : 0 ≤ l3) (c3 : l3 < 4) (hM : M10_4 C.2.1 mc ms pp qq) (hp : pp l1 S V) (hc : nc + mc ≤ C.2.2.2.1.cells) (hs : ns + ms ≤ C.2.2.2.1.slots) (k : ∀ (r : Int) (S' : jS) (V' : jH), qq l1 S V r S' V' → j_ok n_KT 4 C G 39 [(0, (2, l0)), (1, (2, l1)), (2, (2, l2)), (3, (0, l3))] [(0, r), (2, l1 + 2 + 2 * l3), (2, l0)] S' V' (nc + mc) (ns + ms)) : j_ok n_KT 4 C G 28 [(0, (2, l0)), (1, (2, l1)), (2, (2, l2)), (3, (0, l3))] [] S V nc ns := by
  have E := n_E h
  refine j_aload_n E d5_2_28 rfl 0 rfl ?_
  refine j_aload_n E d5_2_29 rfl 1 rfl ?_
  refine j_getS (f := 0) (x := l1 + 1) (fg3_38 h) d5_2_30 c1 (by decide) rfl rfl ((L8_0 L c1).trans (by omega)) ?_
  refine j_iload_n E d5_2_33 rfl 3 rfl ?_
  refine j_aaldS (x := l1 + 2 + 2 * l3) E d5_2_34 (show S.1 (l1 + 1) = 19 from (by have q := L8_0k L c1; rw [show l1 + 1 = l1 + 1 by omega]; exact q)) (by decide) rfl c2 c3 ((LDealA L (i := l3) (show S.1 (l1 + 1) = 19 from (by have q := L8_0k L c1; rw [show l1 + 1 = l1 + 1 by omega]; exact q)) c2 c3).trans (by omega)) ?_
  refine j_aload_n E d5_2_35 rfl 1 rfl ?_
  refine j_call E (K5_2_36 h hrm hM) d5_2_36 (a := [(2, l1)]) (sk := [(2, l1 + 2 + 2 * l3), (2, l0)]) rfl ⟨l1, rfl, c1, hp⟩ (Nat.le_of_ble_eq_true rfl) hc hs ?_
  rintro rs S' V' ⟨z0, r, e1, rfl, q⟩
  simp only [List.cons.injEq, Prod.mk.injEq, and_true, true_and] at e1
  obtain ⟨rfl⟩ := e1
  exact j_pick [0, 1, 2, 3] rfl (k r S' V' q)
theorem t5_2_39 {C : qCx} {G : jG} {S : jS} {V : jH} {nc ns : Nat} {l0 l1 l2 l3 s0 s1 s2 : Int} {mc ms : Nat} {pp : Int → Int → Int → jS → jH → Prop} {qq : Int → Int → Int → jS → jH → jS → jH → Prop} (h : x5_2 C G) (hrm : C.2.2.2.1.frames = 5 ∧ C.2.2.2.1.locals = 122) (c1 : S.1 s2 = 24) (hM : M5_5 C.2.1 mc ms pp qq) (hp : pp s2 s1 s0 S V) (hc : nc + mc ≤ C.2.2.2.1.cells) (hs : ns + ms ≤ C.2.2.2.1.slots) (k : ∀ (S' : jS) (V' : jH), qq s2 s1 s0 S V S' V' → j_ok n_KT 4 C G 42 [(0, (2, l0)), (1, (2, l1)), (2, (2, l2)), (3, (0, l3))] [] S' V' (nc + mc) (ns + ms)) : j_ok n_KT 4 C G 39 [(0, (2, l0)), (1, (2, l1)), (2, (2, l2)), (3, (0, l3))] [(0, s0), (2, s1), (2, s2)] S V nc ns := by
  have E := n_E h
  refine j_call E (K5_2_39 h hrm hM) d5_2_39 (a := [(2, s2), (2, s1), (0, s0)]) (sk := []) rfl ⟨s2, s1, s0, rfl, c1, hp⟩ (Nat.le_of_ble_eq_true rfl) hc hs ?_
  rintro rs S' V' ⟨z0, z1, z2, e1, rfl, q⟩
  simp only [List.cons.injEq, Prod.mk.injEq, and_true, true_and] at e1
  obtain ⟨rfl, rfl, rfl⟩ := e1
  exact j_pick [0, 1, 2, 3] rfl (k S' V' q)
theorem t5_2_42 {C : qCx} {G : jG} {S : jS} {V : jH} {nc ns : Nat} {l0 l1 l2 l3 : Int} (h : x5_2 C G) (c1 : -2147483648 ≤ l3 + 1 ∧ l3 + 1 ≤ 2147483647) (k : j_ok n_KT 4 C G 2 [(0, (2, l0)), (1, (2, l1)), (2, (2, l2)), (3, (0, l3 + 1))] [] S V nc ns) : j_ok n_KT 4 C G 42 [(0, (2, l0)), (1, (2, l1)), (2, (2, l2)), (3, (0, l3))] [] S V nc ns := by
  have E := n_E h
  refine j_iinc E d5_2_42 (by decide) (by decide) 3 rfl (lo1 := [(0, (2, l0)), (1, (2, l1)), (2, (2, l2))]) rfl c1 ?_
  refine j_goto E d5_2_45 (t := 2) rfl ?_
  exact j_pick [1, 2, 3, 0] rfl k
theorem t5_2_48 {C : qCx} {G : jG} {S : jS} {V : jH} {nc ns : Nat} {mc ms : Nat} {qf : jS → jH → Prop} (h : x5_2 C G)  (R : j_Rv n_KT 4 C G b_5_2 mc ms qf) (q : qf S V) (hc : nc ≤ mc) (hs : ns ≤ ms) : j_ok n_KT 4 C G 48 [] [] S V nc ns := by
  have E := n_E h
  exact R _ _ _ _ _ _ d5_2_48 q hc hs
/- BalanceCoder.learn(II)I -/
abbrev b_1_8 : ByteArray := prog_1_method_8_code
def y_1_8 : MethodName := ⟨"BalanceCoder", "learn", "(II)I"⟩
abbrev x1_8 (C : qCx) (G : jG) : Prop := n_ctx C b_1_8 5 "BalanceCoder" G.1 G.2.1
def M1_8 (l : Launch) (mc ms : Nat) (p : Int → Int → Int → jS → jH → Prop) (q : Int → Int → Int → jS → jH → Int → jS → jH → Prop) : Prop := j_Met l vwCl n_TL n_NW n_KT y_1_8 (Cond.code y_1_8 b_1_8 5 (some .int) :: n_GW) { frames := 6, cells := mc, slots := ms, locals := 145 } mc ms (fun a S V => ∃ u0 u1 u2 : Int, a = [(2, u0), (0, u1), (0, u2)] ∧ S.1 u0 = 31 ∧ p u0 u1 u2 S V) (fun a S V rs S' V' => ∃ u0 u1 u2 r : Int, a = [(2, u0), (0, u1), (0, u2)] ∧ rs = [(0, r)] ∧ q u0 u1 u2 S V r S' V')
theorem e1_8 {l : Launch} {mc ms : Nat} {p : Int → Int → Int → jS → jH → Prop} {q : Int → Int → Int → jS → jH → Int → jS → jH → Prop} (body : ∀ (C : qCx) (G : jG), x1_8 C G → C.2.2.2.1.frames = 6 ∧ C.2.2.2.1.locals = 145 → C.2.2.2.1.cells = mc ∧ C.2.2.2.1.slots = ms → C.2.1 = l → C.2.2.2.2.2.2.2.2.1.name = "learn" → ∀ (u0 u1 u2 : Int) (S : jS) (V : jH), S.1 u0 = 31 → p u0 u1 u2 S V → j_Ri n_KT 5 C G b_1_8 mc ms (q u0 u1 u2 S V) → j_ok n_KT 5 C G 0 [(0, (2, u0)), (1, (0, u1)), (2, (0, u2))] [] S V 0 0) : M1_8 l mc ms p q := by
  refine j_method (ws' := n_GW) (by decide) rfl ?_ ?_
  · rintro a S V ⟨u0, u1, u2, rfl, -⟩
    exact Nat.le_of_ble_eq_true rfl
  · rintro C G htl hl hrm hm hml ho hts hnm hE a S V ⟨u0, u1, u2, rfl, ht, hp⟩ R
    exact body C G ⟨htl, hm, hml, ho, fun w hw => hts w (List.mem_cons_of_mem _ hw), hE⟩ (by rw [hrm]; exact ⟨rfl, rfl⟩) (by rw [hrm]; exact ⟨rfl, rfl⟩) hl hnm u0 u1 u2 S V ht hp (fun pc lo r S' V' nc ns d q hc hs => R.2.1 rfl pc lo r S' V' nc ns d ⟨u0, u1, u2, r, rfl, rfl, q⟩ hc hs)
theorem d1_8_0 : decode b_1_8 0 = .ok (.aload_n 0, 1) := by decide +kernel
theorem d1_8_1 : decode b_1_8 1 = .ok (.iload_n 1, 1) := by decide +kernel
theorem d1_8_2 : decode b_1_8 2 = .ok (.invokevirtual 92, 3) := by decide +kernel
theorem d1_8_5 : decode b_1_8 5 = .ok (.astore_n 3, 1) := by decide +kernel
theorem d1_8_6 : decode b_1_8 6 = .ok (.aload_n 0, 1) := by decide +kernel
theorem d1_8_7 : decode b_1_8 7 = .ok (.iload_n 2, 1) := by decide +kernel
theorem d1_8_8 : decode b_1_8 8 = .ok (.invokevirtual 51, 3) := by decide +kernel
theorem d1_8_11 : decode b_1_8 11 = .ok (.astore 4, 2) := by decide +kernel
theorem d1_8_13 : decode b_1_8 13 = .ok (.aload_n 3, 1) := by decide +kernel
theorem d1_8_14 : decode b_1_8 14 = .ok (.ifnull 8, 3) := by decide +kernel
theorem d1_8_17 : decode b_1_8 17 = .ok (.aload 4, 2) := by decide +kernel
theorem d1_8_19 : decode b_1_8 19 = .ok (.ifnonnull 9, 3) := by decide +kernel
theorem d1_8_22 : decode b_1_8 22 = .ok (.aload_n 0, 1) := by decide +kernel
theorem d1_8_23 : decode b_1_8 23 = .ok (.iconst (-1), 1) := by decide +kernel
theorem d1_8_24 : decode b_1_8 24 = .ok (.invokevirtual 55, 3) := by decide +kernel
theorem d1_8_27 : decode b_1_8 27 = .ok (.ireturn, 1) := by decide +kernel
theorem d1_8_28 : decode b_1_8 28 = .ok (.aload_n 3, 1) := by decide +kernel
theorem d1_8_29 : decode b_1_8 29 = .ok (.invokevirtual 120, 3) := by decide +kernel
theorem d1_8_32 : decode b_1_8 32 = .ok (.ifCond .ne 10, 3) := by decide +kernel
theorem d1_8_35 : decode b_1_8 35 = .ok (.aload_n 0, 1) := by decide +kernel
theorem d1_8_36 : decode b_1_8 36 = .ok (.bipush (-3), 2) := by decide +kernel
theorem d1_8_38 : decode b_1_8 38 = .ok (.invokevirtual 55, 3) := by decide +kernel
theorem d1_8_41 : decode b_1_8 41 = .ok (.ireturn, 1) := by decide +kernel
theorem d1_8_42 : decode b_1_8 42 = .ok (.aload 4, 2) := by decide +kernel
theorem d1_8_44 : decode b_1_8 44 = .ok (.getfield 59, 3) := by decide +kernel
theorem d1_8_47 : decode b_1_8 47 = .ok (.ifCond .ne 10, 3) := by decide +kernel
theorem d1_8_50 : decode b_1_8 50 = .ok (.aload_n 0, 1) := by decide +kernel
theorem d1_8_51 : decode b_1_8 51 = .ok (.bipush (-7), 2) := by decide +kernel
theorem d1_8_53 : decode b_1_8 53 = .ok (.invokevirtual 55, 3) := by decide +kernel
theorem d1_8_56 : decode b_1_8 56 = .ok (.ireturn, 1) := by decide +kernel
theorem d1_8_57 : decode b_1_8 57 = .ok (.aload_n 0, 1) := by decide +kernel
theorem d1_8_58 : decode b_1_8 58 = .ok (.getfield 29, 3) := by decide +kernel
theorem d1_8_61 : decode b_1_8 61 = .ok (.aload_n 3, 1) := by decide +kernel
theorem d1_8_62 : decode b_1_8 62 = .ok (.aload 4, 2) := by decide +kernel
theorem d1_8_64 : decode b_1_8 64 = .ok (.invokevirtual 124, 3) := by decide +kernel
theorem d1_8_67 : decode b_1_8 67 = .ok (.iconst 0, 1) := by decide +kernel
theorem d1_8_68 : decode b_1_8 68 = .ok (.ireturn, 1) := by decide +kernel
theorem K1_8_2 {C : qCx} {G : jG} {mc ms : Nat} {p : Int → Int → jS → jH → Prop} {q : Int → Int → jS → jH → Int → jS → jH → Prop} (h : x1_8 C G) (hrm : C.2.2.2.1.frames = 6 ∧ C.2.2.2.1.locals = 145) (hM : M1_30 C.2.1 mc ms p q) : j_Call C b_1_8 n_KT G.1 G.2.1 5 (.invokevirtual 92) mc ms (fun a S V => ∃ u0 u1 : Int, a = [(2, u0), (0, u1)] ∧ S.1 u0 = 31 ∧ p u0 u1 S V) (fun a S V rs S' V' => ∃ u0 u1 r : Int, a = [(2, u0), (0, u1)] ∧ rs = [(2, r)] ∧ q u0 u1 S V r S' V') := j_callV n_NWk h.2.2.2.2.2 h.1 hM ⟨h.2.1.1, h.2.1.2, h.2.2.1, h.2.2.2.1, h.2.2.2.2.1⟩ ⟨n_CB (y := y_1_30) (bytes := b_1_30) 1 h.2.2.2.2.1 n_w367 n_w364 n_w1 ⟨by decide, by decide, by decide +kernel⟩ rfl rfl ⟨by rw [hrm.1]; exact Nat.le_of_ble_eq_true rfl, by rw [hrm.2]; exact Nat.le_of_ble_eq_true rfl⟩, h.2.2.2.2.1 _ n_w366, h.2.2.2.2.1 _ n_s2⟩ (Cn := RX10) (fun a S V hP => by obtain ⟨u0, u1, rfl, e, -⟩ := hP; exact ⟨u0, _, 10, _, _, TX10, 8, rfl, rfl, by rw [e]; decide, by rw [e]; rfl, rfl⟩)
theorem K1_8_8 {C : qCx} {G : jG} {mc ms : Nat} {p : Int → Int → jS → jH → Prop} {q : Int → Int → jS → jH → Int → jS → jH → Prop} (h : x1_8 C G) (hrm : C.2.2.2.1.frames = 6 ∧ C.2.2.2.1.locals = 145) (hM : M1_29 C.2.1 mc ms p q) : j_Call C b_1_8 n_KT G.1 G.2.1 5 (.invokevirtual 51) mc ms (fun a S V => ∃ u0 u1 : Int, a = [(2, u0), (0, u1)] ∧ S.1 u0 = 31 ∧ p u0 u1 S V) (fun a S V rs S' V' => ∃ u0 u1 r : Int, a = [(2, u0), (0, u1)] ∧ rs = [(2, r)] ∧ q u0 u1 S V r S' V') := j_callV n_NWk h.2.2.2.2.2 h.1 hM ⟨h.2.1.1, h.2.1.2, h.2.2.1, h.2.2.2.1, h.2.2.2.2.1⟩ ⟨n_CB (y := y_1_29) (bytes := b_1_29) 1 h.2.2.2.2.1 n_w305 n_w302 n_w1 ⟨by decide, by decide, by decide +kernel⟩ rfl rfl ⟨by rw [hrm.1]; exact Nat.le_of_ble_eq_true rfl, by rw [hrm.2]; exact Nat.le_of_ble_eq_true rfl⟩, h.2.2.2.2.1 _ n_w304, h.2.2.2.2.1 _ n_s0⟩ (Cn := RX10) (fun a S V hP => by obtain ⟨u0, u1, rfl, e, -⟩ := hP; exact ⟨u0, _, 10, _, _, TX10, 8, rfl, rfl, by rw [e]; decide, by rw [e]; rfl, rfl⟩)
theorem K1_8_24 {C : qCx} {G : jG} {mc ms : Nat} {p : Int → Int → jS → jH → Prop} {q : Int → Int → jS → jH → Int → jS → jH → Prop} (h : x1_8 C G) (hrm : C.2.2.2.1.frames = 6 ∧ C.2.2.2.1.locals = 145) (hM : M1_27 C.2.1 mc ms p q) : j_Call C b_1_8 n_KT G.1 G.2.1 5 (.invokevirtual 55) mc ms (fun a S V => ∃ u0 u1 : Int, a = [(2, u0), (0, u1)] ∧ S.1 u0 = 31 ∧ p u0 u1 S V) (fun a S V rs S' V' => ∃ u0 u1 r : Int, a = [(2, u0), (0, u1)] ∧ rs = [(0, r)] ∧ q u0 u1 S V r S' V') := j_callV n_NWk h.2.2.2.2.2 h.1 hM ⟨h.2.1.1, h.2.1.2, h.2.2.1, h.2.2.2.1, h.2.2.2.2.1⟩ ⟨n_CB (y := y_1_27) (bytes := b_1_27) 1 h.2.2.2.2.1 n_w309 n_w306 n_w1 ⟨by decide, by decide, by decide +kernel⟩ rfl rfl ⟨by rw [hrm.1]; exact Nat.le_of_ble_eq_true rfl, by rw [hrm.2]; exact Nat.le_of_ble_eq_true rfl⟩, h.2.2.2.2.1 _ n_w308, h.2.2.2.2.1 _ n_s1⟩ (Cn := RX10) (fun a S V hP => by obtain ⟨u0, u1, rfl, e, -⟩ := hP; exact ⟨u0, _, 10, _, _, TX10, 8, rfl, rfl, by rw [e]; decide, by rw [e]; rfl, rfl⟩)
theorem K1_8_29 {C : qCx} {G : jG} {mc ms : Nat} {p : Int → jS → jH → Prop} {q : Int → jS → jH → Int → jS → jH → Prop} (h : x1_8 C G) (hrm : C.2.2.2.1.frames = 6 ∧ C.2.2.2.1.locals = 145) (hM : M10_8 C.2.1 mc ms p q) : j_Call C b_1_8 n_KT G.1 G.2.1 5 (.invokevirtual 120) mc ms (fun a S V => ∃ u0 : Int, a = [(2, u0)] ∧ S.1 u0 = 29 ∧ p u0 S V) (fun a S V rs S' V' => ∃ u0 r : Int, a = [(2, u0)] ∧ rs = [(0, r)] ∧ q u0 S V r S' V') := j_callV n_NWk h.2.2.2.2.2 h.1 hM ⟨h.2.1.1, h.2.1.2, h.2.2.1, h.2.2.2.1, h.2.2.2.2.1⟩ ⟨n_CB (y := y_10_8) (bytes := b_10_8) 0 h.2.2.2.2.1 n_w396 n_w393 n_w7 ⟨by decide, by decide, by decide +kernel⟩ rfl rfl ⟨by rw [hrm.1]; exact Nat.le_of_ble_eq_true rfl, by rw [hrm.2]; exact Nat.le_of_ble_eq_true rfl⟩, h.2.2.2.2.1 _ n_w394, h.2.2.2.2.1 _ n_w395⟩ (Cn := RX8) (fun a S V hP => by obtain ⟨u0, rfl, e, -⟩ := hP; exact ⟨u0, _, 8, _, _, TX8, 3, rfl, rfl, by rw [e]; decide, by rw [e]; rfl, rfl⟩)
theorem K1_8_38 {C : qCx} {G : jG} {mc ms : Nat} {p : Int → Int → jS → jH → Prop} {q : Int → Int → jS → jH → Int → jS → jH → Prop} (h : x1_8 C G) (hrm : C.2.2.2.1.frames = 6 ∧ C.2.2.2.1.locals = 145) (hM : M1_27 C.2.1 mc ms p q) : j_Call C b_1_8 n_KT G.1 G.2.1 5 (.invokevirtual 55) mc ms (fun a S V => ∃ u0 u1 : Int, a = [(2, u0), (0, u1)] ∧ S.1 u0 = 31 ∧ p u0 u1 S V) (fun a S V rs S' V' => ∃ u0 u1 r : Int, a = [(2, u0), (0, u1)] ∧ rs = [(0, r)] ∧ q u0 u1 S V r S' V') := j_callV n_NWk h.2.2.2.2.2 h.1 hM ⟨h.2.1.1, h.2.1.2, h.2.2.1, h.2.2.2.1, h.2.2.2.2.1⟩ ⟨n_CB (y := y_1_27) (bytes := b_1_27) 1 h.2.2.2.2.1 n_w309 n_w306 n_w1 ⟨by decide, by decide, by decide +kernel⟩ rfl rfl ⟨by rw [hrm.1]; exact Nat.le_of_ble_eq_true rfl, by rw [hrm.2]; exact Nat.le_of_ble_eq_true rfl⟩, h.2.2.2.2.1 _ n_w308, h.2.2.2.2.1 _ n_s1⟩ (Cn := RX10) (fun a S V hP => by obtain ⟨u0, u1, rfl, e, -⟩ := hP; exact ⟨u0, _, 10, _, _, TX10, 8, rfl, rfl, by rw [e]; decide, by rw [e]; rfl, rfl⟩)
theorem K1_8_53 {C : qCx} {G : jG} {mc ms : Nat} {p : Int → Int → jS → jH → Prop} {q : Int → Int → jS → jH → Int → jS → jH → Prop} (h : x1_8 C G) (hrm : C.2.2.2.1.frames = 6 ∧ C.2.2.2.1.locals = 145) (hM : M1_27 C.2.1 mc ms p q) : j_Call C b_1_8 n_KT G.1 G.2.1 5 (.invokevirtual 55) mc ms (fun a S V => ∃ u0 u1 : Int, a = [(2, u0), (0, u1)] ∧ S.1 u0 = 31 ∧ p u0 u1 S V) (fun a S V rs S' V' => ∃ u0 u1 r : Int, a = [(2, u0), (0, u1)] ∧ rs = [(0, r)] ∧ q u0 u1 S V r S' V') := j_callV n_NWk h.2.2.2.2.2 h.1 hM ⟨h.2.1.1, h.2.1.2, h.2.2.1, h.2.2.2.1, h.2.2.2.2.1⟩ ⟨n_CB (y := y_1_27) (bytes := b_1_27) 1 h.2.2.2.2.1 n_w309 n_w306 n_w1 ⟨by decide, by decide, by decide +kernel⟩ rfl rfl ⟨by rw [hrm.1]; exact Nat.le_of_ble_eq_true rfl, by rw [hrm.2]; exact Nat.le_of_ble_eq_true rfl⟩, h.2.2.2.2.1 _ n_w308, h.2.2.2.2.1 _ n_s1⟩ (Cn := RX10) (fun a S V hP => by obtain ⟨u0, u1, rfl, e, -⟩ := hP; exact ⟨u0, _, 10, _, _, TX10, 8, rfl, rfl, by rw [e]; decide, by rw [e]; rfl, rfl⟩)
theorem K1_8_64 {C : qCx} {G : jG} {mc ms : Nat} {p : Int → Int → Int → jS → jH → Prop} {q : Int → Int → Int → jS → jH → jS → jH → Prop} (h : x1_8 C G) (hrm : C.2.2.2.1.frames = 6 ∧ C.2.2.2.1.locals = 145) (hM : M5_2 C.2.1 mc ms p q) : j_Call C b_1_8 n_KT G.1 G.2.1 5 (.invokevirtual 124) mc ms (fun a S V => ∃ u0 u1 u2 : Int, a = [(2, u0), (2, u1), (2, u2)] ∧ S.1 u0 = 24 ∧ p u0 u1 u2 S V) (fun a S V rs S' V' => ∃ u0 u1 u2 : Int, a = [(2, u0), (2, u1), (2, u2)] ∧ rs = [] ∧ q u0 u1 u2 S V S' V') := j_callV n_NWk h.2.2.2.2.2 h.1 hM ⟨h.2.1.1, h.2.1.2, h.2.2.1, h.2.2.2.1, h.2.2.2.2.1⟩ ⟨n_CB (y := y_5_2) (bytes := b_5_2) 2 h.2.2.2.2.1 n_w400 n_w397 n_w10 ⟨by decide, by decide, by decide +kernel⟩ rfl rfl ⟨by rw [hrm.1]; exact Nat.le_of_ble_eq_true rfl, by rw [hrm.2]; exact Nat.le_of_ble_eq_true rfl⟩, h.2.2.2.2.1 _ n_w398, h.2.2.2.2.1 _ n_w399⟩ (Cn := RX3) (fun a S V hP => by obtain ⟨u0, u1, u2, rfl, e, -⟩ := hP; exact ⟨u0, _, 3, _, _, TX3, 4, rfl, rfl, by rw [e]; decide, by rw [e]; rfl, rfl⟩)
theorem t1_8_0 {C : qCx} {G : jG} {S : jS} {V : jH} {nc ns : Nat} {l0 l1 l2 : Int} {mc ms : Nat} {pp : Int → Int → jS → jH → Prop} {qq : Int → Int → jS → jH → Int → jS → jH → Prop} (h : x1_8 C G) (hrm : C.2.2.2.1.frames = 6 ∧ C.2.2.2.1.locals = 145) (c1 : S.1 l0 = 31) (hM : M1_30 C.2.1 mc ms pp qq) (hp : pp l0 l1 S V) (hc : nc + mc ≤ C.2.2.2.1.cells) (hs : ns + ms ≤ C.2.2.2.1.slots) (k : ∀ (r : Int) (S' : jS) (V' : jH), qq l0 l1 S V r S' V' → j_ok n_KT 5 C G 5 [(0, (2, l0)), (2, (0, l2))] [(2, r)] S' V' (nc + mc) (ns + ms)) : j_ok n_KT 5 C G 0 [(0, (2, l0)), (1, (0, l1)), (2, (0, l2))] [] S V nc ns := by
  have E := n_E h
  refine j_aload_n E d1_8_0 rfl 0 rfl ?_
  refine j_iload_n E d1_8_1 rfl 1 rfl ?_
  refine j_call E (K1_8_2 h hrm hM) d1_8_2 (a := [(2, l0), (0, l1)]) (sk := []) rfl ⟨l0, l1, rfl, c1, hp⟩ (Nat.le_of_ble_eq_true rfl) hc hs ?_
  rintro rs S' V' ⟨z0, z1, r, e1, rfl, q⟩
  simp only [List.cons.injEq, Prod.mk.injEq, and_true, true_and] at e1
  obtain ⟨rfl, rfl⟩ := e1
  exact j_pick [0, 2] rfl (k r S' V' q)
theorem t1_8_5 {C : qCx} {G : jG} {S : jS} {V : jH} {nc ns : Nat} {l0 l2 s0 : Int} {mc ms : Nat} {pp : Int → Int → jS → jH → Prop} {qq : Int → Int → jS → jH → Int → jS → jH → Prop} (h : x1_8 C G) (hrm : C.2.2.2.1.frames = 6 ∧ C.2.2.2.1.locals = 145) (c1 : S.1 l0 = 31) (hM : M1_29 C.2.1 mc ms pp qq) (hp : pp l0 l2 S V) (hc : nc + mc ≤ C.2.2.2.1.cells) (hs : ns + ms ≤ C.2.2.2.1.slots) (k : ∀ (r : Int) (S' : jS) (V' : jH), qq l0 l2 S V r S' V' → j_ok n_KT 5 C G 11 [(0, (2, l0)), (3, (2, s0))] [(2, r)] S' V' (nc + mc) (ns + ms)) : j_ok n_KT 5 C G 5 [(0, (2, l0)), (2, (0, l2))] [(2, s0)] S V nc ns := by
  have E := n_E h
  refine j_astore_n E d1_8_5 rfl (by decide) (lo1 := [(0, (2, l0)), (2, (0, l2))]) rfl ?_
  refine j_aload_n E d1_8_6 rfl 1 rfl ?_
  refine j_iload_n E d1_8_7 rfl 2 rfl ?_
  refine j_call E (K1_8_8 h hrm hM) d1_8_8 (a := [(2, l0), (0, l2)]) (sk := []) rfl ⟨l0, l2, rfl, c1, hp⟩ (Nat.le_of_ble_eq_true rfl) hc hs ?_
  rintro rs S' V' ⟨z0, z1, r, e1, rfl, q⟩
  simp only [List.cons.injEq, Prod.mk.injEq, and_true, true_and] at e1
  obtain ⟨rfl, rfl⟩ := e1
  exact j_pick [1, 0] rfl (k r S' V' q)
theorem t1_8_11 {C : qCx} {G : jG} {S : jS} {V : jH} {nc ns : Nat} {l0 l3 s0 : Int} (h : x1_8 C G)  (k : l3 = -1 → j_ok n_KT 5 C G 22 [(0, (2, l0))] [] S V nc ns) (k' : 0 ≤ l3 → S.1 l3 ≠ 0 → j_ok n_KT 5 C G 17 [(0, (2, l0)), (3, (2, l3)), (4, (2, s0))] [] S V nc ns) : j_ok n_KT 5 C G 11 [(0, (2, l0)), (3, (2, l3))] [(2, s0)] S V nc ns := by
  have E := n_E h
  refine j_astore E d1_8_11 (by decide) (lo1 := [(0, (2, l0)), (3, (2, l3))]) rfl ?_
  refine j_aload_n E d1_8_13 rfl 2 rfl ?_
  exact j_ifnull E d1_8_14 (t := 22) rfl (fun q => j_pick [1] rfl (k q)) (fun q q2 => j_pick [1, 2, 0] rfl (k' q q2))
theorem t1_8_17 {C : qCx} {G : jG} {S : jS} {V : jH} {nc ns : Nat} {l0 l3 l4 : Int} (h : x1_8 C G)  (k : 0 ≤ l4 → S.1 l4 ≠ 0 → j_ok n_KT 5 C G 28 [(0, (2, l0)), (3, (2, l3)), (4, (2, l4))] [] S V nc ns) (k' : l4 = -1 → j_ok n_KT 5 C G 22 [(0, (2, l0))] [] S V nc ns) : j_ok n_KT 5 C G 17 [(0, (2, l0)), (3, (2, l3)), (4, (2, l4))] [] S V nc ns := by
  have E := n_E h
  refine j_aload E d1_8_17 2 rfl ?_
  exact j_ifnonnull E d1_8_19 (t := 28) rfl (fun q q2 => j_pick [0, 1, 2] rfl (k q q2)) (fun q => j_pick [0] rfl (k' q))
theorem t1_8_22 {C : qCx} {G : jG} {S : jS} {V : jH} {nc ns : Nat} {l0 : Int} {mc ms : Nat} {pp : Int → Int → jS → jH → Prop} {qq : Int → Int → jS → jH → Int → jS → jH → Prop} (h : x1_8 C G) (hrm : C.2.2.2.1.frames = 6 ∧ C.2.2.2.1.locals = 145) (c1 : S.1 l0 = 31) (hM : M1_27 C.2.1 mc ms pp qq) (hp : pp l0 ((-1)) S V) (hc : nc + mc ≤ C.2.2.2.1.cells) (hs : ns + ms ≤ C.2.2.2.1.slots) (k : ∀ (r : Int) (S' : jS) (V' : jH), qq l0 ((-1)) S V r S' V' → j_ok n_KT 5 C G 27 [] [(0, r)] S' V' (nc + mc) (ns + ms)) : j_ok n_KT 5 C G 22 [(0, (2, l0))] [] S V nc ns := by
  have E := n_E h
  refine j_aload_n E d1_8_22 rfl 0 rfl ?_
  refine j_iconst E d1_8_23 (by decide) ?_
  refine j_call E (K1_8_24 h hrm hM) d1_8_24 (a := [(2, l0), (0, (-1))]) (sk := []) rfl ⟨l0, (-1), rfl, c1, hp⟩ (Nat.le_of_ble_eq_true rfl) hc hs ?_
  rintro rs S' V' ⟨z0, z1, r, e1, rfl, q⟩
  simp only [List.cons.injEq, Prod.mk.injEq, and_true, true_and] at e1
  obtain ⟨rfl, rfl⟩ := e1
  exact j_pick [] rfl (k r S' V' q)
theorem t1_8_27 {C : qCx} {G : jG} {S : jS} {V : jH} {nc ns : Nat} {s0 : Int} {mc ms : Nat} {qf : Int → jS → jH → Prop} (h : x1_8 C G)  (R : j_Ri n_KT 5 C G b_1_8 mc ms qf) (q : qf s0 S V) (hc : nc ≤ mc) (hs : ns ≤ ms) : j_ok n_KT 5 C G 27 [] [(0, s0)] S V nc ns := by
  have E := n_E h
  exact R _ _ _ _ _ _ _ d1_8_27 q hc hs
theorem t1_8_28 {C : qCx} {G : jG} {S : jS} {V : jH} {nc ns : Nat} {l0 l3 l4 : Int} {mc ms : Nat} {pp : Int → jS → jH → Prop} {qq : Int → jS → jH → Int → jS → jH → Prop} (h : x1_8 C G) (hrm : C.2.2.2.1.frames = 6 ∧ C.2.2.2.1.locals = 145) (c1 : S.1 l3 = 29) (hM : M10_8 C.2.1 mc ms pp qq) (hp : pp l3 S V) (hc : nc + mc ≤ C.2.2.2.1.cells) (hs : ns + ms ≤ C.2.2.2.1.slots) (k : ∀ (r : Int) (S' : jS) (V' : jH), qq l3 S V r S' V' → j_ok n_KT 5 C G 32 [(0, (2, l0)), (3, (2, l3)), (4, (2, l4))] [(0, r)] S' V' (nc + mc) (ns + ms)) : j_ok n_KT 5 C G 28 [(0, (2, l0)), (3, (2, l3)), (4, (2, l4))] [] S V nc ns := by
  have E := n_E h
  refine j_aload_n E d1_8_28 rfl 1 rfl ?_
  refine j_call E (K1_8_29 h hrm hM) d1_8_29 (a := [(2, l3)]) (sk := []) rfl ⟨l3, rfl, c1, hp⟩ (Nat.le_of_ble_eq_true rfl) hc hs ?_
  rintro rs S' V' ⟨z0, r, e1, rfl, q⟩
  simp only [List.cons.injEq, Prod.mk.injEq, and_true, true_and] at e1
  obtain ⟨rfl⟩ := e1
  exact j_pick [0, 1, 2] rfl (k r S' V' q)
theorem t1_8_32 {C : qCx} {G : jG} {S : jS} {V : jH} {nc ns : Nat} {l0 l3 l4 s0 : Int} (h : x1_8 C G)  (k : ¬ s0 = 0 → j_ok n_KT 5 C G 42 [(0, (2, l0)), (3, (2, l3)), (4, (2, l4))] [] S V nc ns) (k' : s0 = 0 → j_ok n_KT 5 C G 35 [(0, (2, l0))] [] S V nc ns) : j_ok n_KT 5 C G 32 [(0, (2, l0)), (3, (2, l3)), (4, (2, l4))] [(0, s0)] S V nc ns := by
  have E := n_E h
  exact j_if_ne E d1_8_32 (t := 42) rfl (fun q => j_pick [0, 1, 2] rfl (k q)) (fun q => j_pick [0] rfl (k' q))
theorem t1_8_35 {C : qCx} {G : jG} {S : jS} {V : jH} {nc ns : Nat} {l0 : Int} {mc ms : Nat} {pp : Int → Int → jS → jH → Prop} {qq : Int → Int → jS → jH → Int → jS → jH → Prop} (h : x1_8 C G) (hrm : C.2.2.2.1.frames = 6 ∧ C.2.2.2.1.locals = 145) (c1 : S.1 l0 = 31) (hM : M1_27 C.2.1 mc ms pp qq) (hp : pp l0 ((-3)) S V) (hc : nc + mc ≤ C.2.2.2.1.cells) (hs : ns + ms ≤ C.2.2.2.1.slots) (k : ∀ (r : Int) (S' : jS) (V' : jH), qq l0 ((-3)) S V r S' V' → j_ok n_KT 5 C G 41 [] [(0, r)] S' V' (nc + mc) (ns + ms)) : j_ok n_KT 5 C G 35 [(0, (2, l0))] [] S V nc ns := by
  have E := n_E h
  refine j_aload_n E d1_8_35 rfl 0 rfl ?_
  refine j_bipush E d1_8_36 (by decide) ?_
  refine j_call E (K1_8_38 h hrm hM) d1_8_38 (a := [(2, l0), (0, (-3))]) (sk := []) rfl ⟨l0, (-3), rfl, c1, hp⟩ (Nat.le_of_ble_eq_true rfl) hc hs ?_
  rintro rs S' V' ⟨z0, z1, r, e1, rfl, q⟩
  simp only [List.cons.injEq, Prod.mk.injEq, and_true, true_and] at e1
  obtain ⟨rfl, rfl⟩ := e1
  exact j_pick [] rfl (k r S' V' q)
theorem t1_8_41 {C : qCx} {G : jG} {S : jS} {V : jH} {nc ns : Nat} {s0 : Int} {mc ms : Nat} {qf : Int → jS → jH → Prop} (h : x1_8 C G)  (R : j_Ri n_KT 5 C G b_1_8 mc ms qf) (q : qf s0 S V) (hc : nc ≤ mc) (hs : ns ≤ ms) : j_ok n_KT 5 C G 41 [] [(0, s0)] S V nc ns := by
  have E := n_E h
  exact R _ _ _ _ _ _ _ d1_8_41 q hc hs
theorem t1_8_42 {C : qCx} {G : jG} {S : jS} {V : jH} {nc ns : Nat} {l0 l3 l4 : Int} (h : x1_8 C G) (c1 : S.1 l4 = 27) (k : ¬ V l4 1 = 0 → j_ok n_KT 5 C G 57 [(0, (2, l0)), (3, (2, l3)), (4, (2, l4))] [] S V nc ns) (k' : V l4 1 = 0 → j_ok n_KT 5 C G 50 [(0, (2, l0))] [] S V nc ns) : j_ok n_KT 5 C G 42 [(0, (2, l0)), (3, (2, l3)), (4, (2, l4))] [] S V nc ns := by
  have E := n_E h
  refine j_aload E d1_8_42 2 rfl ?_
  refine j_getI (f := 1) (fg10_59 h) d1_8_44 c1 (by decide) rfl rfl ?_
  exact j_if_ne E d1_8_47 (t := 57) rfl (fun q => j_pick [0, 1, 2] rfl (k q)) (fun q => j_pick [0] rfl (k' q))
theorem t1_8_50 {C : qCx} {G : jG} {S : jS} {V : jH} {nc ns : Nat} {l0 : Int} {mc ms : Nat} {pp : Int → Int → jS → jH → Prop} {qq : Int → Int → jS → jH → Int → jS → jH → Prop} (h : x1_8 C G) (hrm : C.2.2.2.1.frames = 6 ∧ C.2.2.2.1.locals = 145) (c1 : S.1 l0 = 31) (hM : M1_27 C.2.1 mc ms pp qq) (hp : pp l0 ((-7)) S V) (hc : nc + mc ≤ C.2.2.2.1.cells) (hs : ns + ms ≤ C.2.2.2.1.slots) (k : ∀ (r : Int) (S' : jS) (V' : jH), qq l0 ((-7)) S V r S' V' → j_ok n_KT 5 C G 56 [] [(0, r)] S' V' (nc + mc) (ns + ms)) : j_ok n_KT 5 C G 50 [(0, (2, l0))] [] S V nc ns := by
  have E := n_E h
  refine j_aload_n E d1_8_50 rfl 0 rfl ?_
  refine j_bipush E d1_8_51 (by decide) ?_
  refine j_call E (K1_8_53 h hrm hM) d1_8_53 (a := [(2, l0), (0, (-7))]) (sk := []) rfl ⟨l0, (-7), rfl, c1, hp⟩ (Nat.le_of_ble_eq_true rfl) hc hs ?_
  rintro rs S' V' ⟨z0, z1, r, e1, rfl, q⟩
  simp only [List.cons.injEq, Prod.mk.injEq, and_true, true_and] at e1
  obtain ⟨rfl, rfl⟩ := e1
  exact j_pick [] rfl (k r S' V' q)
theorem t1_8_56 {C : qCx} {G : jG} {S : jS} {V : jH} {nc ns : Nat} {s0 : Int} {mc ms : Nat} {qf : Int → jS → jH → Prop} (h : x1_8 C G)  (R : j_Ri n_KT 5 C G b_1_8 mc ms qf) (q : qf s0 S V) (hc : nc ≤ mc) (hs : ns ≤ ms) : j_ok n_KT 5 C G 56 [] [(0, s0)] S V nc ns := by
  have E := n_E h
  exact R _ _ _ _ _ _ _ d1_8_56 q hc hs
theorem t1_8_57 {C : qCx} {G : jG} {S : jS} {V : jH} {nc ns : Nat} {l0 l3 l4 : Int} {mc ms : Nat} {pp : Int → Int → Int → jS → jH → Prop} {qq : Int → Int → Int → jS → jH → jS → jH → Prop} (h : x1_8 C G) (L : j_L S) (hrm : C.2.2.2.1.frames = 6 ∧ C.2.2.2.1.locals = 145) (c1 : S.1 l0 = 31) (hM : M5_2 C.2.1 mc ms pp qq) (hp : pp (l0 + 230) l3 l4 S V) (hc : nc + mc ≤ C.2.2.2.1.cells) (hs : ns + ms ≤ C.2.2.2.1.slots) (k : ∀ (S' : jS) (V' : jH), qq (l0 + 230) l3 l4 S V S' V' → j_ok n_KT 5 C G 67 [] [] S' V' (nc + mc) (ns + ms)) : j_ok n_KT 5 C G 57 [(0, (2, l0)), (3, (2, l3)), (4, (2, l4))] [] S V nc ns := by
  have E := n_E h
  refine j_aload_n E d1_8_57 rfl 0 rfl ?_
  refine j_getS (f := 3) (x := l0 + 230) (fg10_29 h) d1_8_58 c1 (by decide) rfl rfl ((L10_3 L c1).trans (by omega)) ?_
  refine j_aload_n E d1_8_61 rfl 1 rfl ?_
  refine j_aload E d1_8_62 2 rfl ?_
  refine j_call E (K1_8_64 h hrm hM) d1_8_64 (a := [(2, l0 + 230), (2, l3), (2, l4)]) (sk := []) rfl ⟨l0 + 230, l3, l4, rfl, (show S.1 (l0 + 230) = 24 from (by have q := L10_3k L c1; rw [show l0 + 230 = l0 + 230 by omega]; exact q)), hp⟩ (Nat.le_of_ble_eq_true rfl) hc hs ?_
  rintro rs S' V' ⟨z0, z1, z2, e1, rfl, q⟩
  simp only [List.cons.injEq, Prod.mk.injEq, and_true, true_and] at e1
  obtain ⟨rfl, rfl, rfl⟩ := e1
  exact j_pick [] rfl (k S' V' q)
theorem t1_8_67 {C : qCx} {G : jG} {S : jS} {V : jH} {nc ns : Nat} {mc ms : Nat} {qf : Int → jS → jH → Prop} (h : x1_8 C G)  (R : j_Ri n_KT 5 C G b_1_8 mc ms qf) (q : qf 0 S V) (hc : nc ≤ mc) (hs : ns ≤ ms) : j_ok n_KT 5 C G 67 [] [] S V nc ns := by
  have E := n_E h
  refine j_iconst E d1_8_67 (by decide) ?_
  exact R _ _ _ _ _ _ _ d1_8_68 q hc hs
