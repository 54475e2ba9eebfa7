/- BalanceCoder$Table.hasPart(I)Z -/
abbrev b_10_6 : ByteArray := prog_10_method_6_code
def y_10_6 : MethodName := ⟨"BalanceCoder$Table", "hasPart", "(I)Z"⟩
abbrev x10_6 (C : qCx) (G : jG) : Prop := n_ctx C b_10_6 2 "BalanceCoder$Table" G.1 G.2.1
def M10_6 (l : Launch) (mc ms : Nat) (p : Int → Int → jS → jH → Prop) (q : Int → Int → jS → jH → Int → jS → jH → Prop) : Prop := j_Met l vwCl n_TL n_NW n_KT y_10_6 (Cond.code y_10_6 b_10_6 2 (some .boolean) :: n_GW) { frames := 2, cells := mc, slots := ms, locals := 46 } mc ms (fun a S V => ∃ u0 u1 : Int, a = [(2, u0), (0, u1)] ∧ S.1 u0 = 29 ∧ p u0 u1 S V) (fun a S V rs S' V' => ∃ u0 u1 r : Int, a = [(2, u0), (0, u1)] ∧ rs = [(0, r)] ∧ q u0 u1 S V r S' V')
theorem e10_6 {l : Launch} {mc ms : Nat} {p : Int → Int → jS → jH → Prop} {q : Int → Int → jS → jH → Int → jS → jH → Prop} (body : ∀ (C : qCx) (G : jG), x10_6 C G → C.2.2.2.1.frames = 2 ∧ C.2.2.2.1.locals = 46 → C.2.2.2.1.cells = mc ∧ C.2.2.2.1.slots = ms → C.2.1 = l → C.2.2.2.2.2.2.2.2.1.name = "hasPart" → ∀ (u0 u1 : Int) (S : jS) (V : jH), S.1 u0 = 29 → p u0 u1 S V → j_Rz n_KT 2 C G b_10_6 mc ms (q u0 u1 S V) → j_ok n_KT 2 C G 0 [(0, (2, u0)), (1, (0, u1))] [] S V 0 0) : M10_6 l mc ms p q := by
  refine j_method (ws' := n_GW) (by decide) rfl ?_ ?_
  · rintro a S V ⟨u0, u1, rfl, -⟩
    exact Nat.le_of_ble_eq_true rfl
  · rintro C G htl hl hrm hm hml ho hts hnm hE a S V ⟨u0, u1, rfl, ht, hp⟩ R
    exact body C G ⟨htl, hm, hml, ho, fun w hw => hts w (List.mem_cons_of_mem _ hw), hE⟩ (by rw [hrm]; exact ⟨rfl, rfl⟩) (by rw [hrm]; exact ⟨rfl, rfl⟩) hl hnm u0 u1 S V ht hp (fun pc lo r S' V' nc ns d z q hc hs => R.2.2.1 rfl pc lo r S' V' nc ns d z ⟨u0, u1, r, rfl, rfl, q⟩ hc hs)
theorem d10_6_0 : decode b_10_6 0 = .ok (.iload_n 1, 1) := by decide +kernel
theorem d10_6_1 : decode b_10_6 1 = .ok (.ifCond .lt 15, 3) := by decide +kernel
theorem d10_6_4 : decode b_10_6 4 = .ok (.iload_n 1, 1) := by decide +kernel
theorem d10_6_5 : decode b_10_6 5 = .ok (.aload_n 0, 1) := by decide +kernel
theorem d10_6_6 : decode b_10_6 6 = .ok (.invokevirtual 40, 3) := by decide +kernel
theorem d10_6_9 : decode b_10_6 9 = .ok (.if_icmp .ge 7, 3) := by decide +kernel
theorem d10_6_12 : decode b_10_6 12 = .ok (.iconst 1, 1) := by decide +kernel
theorem d10_6_13 : decode b_10_6 13 = .ok (.goto 4, 3) := by decide +kernel
theorem d10_6_16 : decode b_10_6 16 = .ok (.iconst 0, 1) := by decide +kernel
theorem d10_6_17 : decode b_10_6 17 = .ok (.ireturn, 1) := by decide +kernel
theorem K10_6_6 {C : qCx} {G : jG} {mc ms : Nat} {p : Int → jS → jH → Prop} {q : Int → jS → jH → Int → jS → jH → Prop} (h : x10_6 C G) (hrm : C.2.2.2.1.frames = 2 ∧ C.2.2.2.1.locals = 46) (hM : M10_5 C.2.1 mc ms p q) : j_Call C b_10_6 n_KT G.1 G.2.1 2 (.invokevirtual 40) mc ms (fun a S V => ∃ u0 : Int, a = [(2, u0)] ∧ S.1 u0 = 29 ∧ p u0 S V) (fun a S V rs S' V' => ∃ u0 r : Int, a = [(2, u0)] ∧ rs = [(0, r)] ∧ q u0 S V r S' V') := j_callV n_NWk h.2.2.2.2.2 h.1 hM ⟨h.2.1.1, h.2.1.2, h.2.2.1, h.2.2.2.1, h.2.2.2.2.1⟩ ⟨n_CB (y := y_10_5) (bytes := b_10_5) 0 h.2.2.2.2.1 n_w404 n_w460 n_w7 ⟨by decide, by decide, by decide +kernel⟩ rfl rfl ⟨by rw [hrm.1]; exact Nat.le_of_ble_eq_true rfl, by rw [hrm.2]; exact Nat.le_of_ble_eq_true rfl⟩, h.2.2.2.2.1 _ n_w402, h.2.2.2.2.1 _ n_w403⟩ (Cn := RX8) (fun a S V hP => by obtain ⟨u0, rfl, e, -⟩ := hP; exact ⟨u0, _, 8, _, _, TX8, 3, rfl, rfl, by rw [e]; decide, by rw [e]; rfl, rfl⟩)
theorem t10_6_0 {C : qCx} {G : jG} {S : jS} {V : jH} {nc ns : Nat} {l0 l1 : Int} (h : x10_6 C G)  (k : l1 < 0 → j_ok n_KT 2 C G 16 [] [] S V nc ns) (k' : 0 ≤ l1 → j_ok n_KT 2 C G 4 [(0, (2, l0)), (1, (0, l1))] [] S V nc ns) : j_ok n_KT 2 C G 0 [(0, (2, l0)), (1, (0, l1))] [] S V nc ns := by
  have E := n_E h
  refine j_iload_n E d10_6_0 rfl 1 rfl ?_
  exact j_if_lt E d10_6_1 (t := 16) rfl (fun q => j_pick [] rfl (k q)) (fun q => j_pick [0, 1] rfl (k' q))
theorem t10_6_4 {C : qCx} {G : jG} {S : jS} {V : jH} {nc ns : Nat} {l0 l1 : Int} {mc ms : Nat} {pp : Int → jS → jH → Prop} {qq : Int → jS → jH → Int → jS → jH → Prop} (h : x10_6 C G) (hrm : C.2.2.2.1.frames = 2 ∧ C.2.2.2.1.locals = 46) (c1 : S.1 l0 = 29) (hM : M10_5 C.2.1 mc ms pp qq) (hp : pp l0 S V) (hc : nc + mc ≤ C.2.2.2.1.cells) (hs : ns + ms ≤ C.2.2.2.1.slots) (k : ∀ (r : Int) (S' : jS) (V' : jH), qq l0 S V r S' V' → j_ok n_KT 2 C G 9 [] [(0, r), (0, l1)] S' V' (nc + mc) (ns + ms)) : j_ok n_KT 2 C G 4 [(0, (2, l0)), (1, (0, l1))] [] S V nc ns := by
  have E := n_E h
  refine j_iload_n E d10_6_4 rfl 1 rfl ?_
  refine j_aload_n E d10_6_5 rfl 0 rfl ?_
  refine j_call E (K10_6_6 h hrm hM) d10_6_6 (a := [(2, l0)]) (sk := [(0, l1)]) rfl ⟨l0, rfl, c1, hp⟩ (Nat.le_of_ble_eq_true rfl) hc hs ?_
  rintro rs S' V' ⟨z0, r, e1, rfl, q⟩
  simp only [List.cons.injEq, Prod.mk.injEq, and_true, true_and] at e1
  obtain ⟨rfl⟩ := e1
  exact j_pick [] rfl (k r S' V' q)
theorem t10_6_9 {C : qCx} {G : jG} {S : jS} {V : jH} {nc ns : Nat} {s0 s1 : Int} (h : x10_6 C G)  (k : s0 ≤ s1 → j_ok n_KT 2 C G 16 [] [] S V nc ns) (k' : s1 < s0 → j_ok n_KT 2 C G 12 [] [] S V nc ns) : j_ok n_KT 2 C G 9 [] [(0, s0), (0, s1)] S V nc ns := by
  have E := n_E h
  exact j_icmp_ge E d10_6_9 (t := 16) rfl (fun q => j_pick [] rfl (k q)) (fun q => j_pick [] rfl (k' q))
theorem t10_6_12 {C : qCx} {G : jG} {S : jS} {V : jH} {nc ns : Nat} (h : x10_6 C G)  (k : j_ok n_KT 2 C G 17 [] [(0, 1)] S V nc ns) : j_ok n_KT 2 C G 12 [] [] S V nc ns := by
  have E := n_E h
  refine j_iconst E d10_6_12 (by decide) ?_
  refine j_goto E d10_6_13 (t := 17) rfl ?_
  exact j_pick [] rfl k
theorem t10_6_16 {C : qCx} {G : jG} {S : jS} {V : jH} {nc ns : Nat} (h : x10_6 C G)  (k : j_ok n_KT 2 C G 17 [] [(0, 0)] S V nc ns) : j_ok n_KT 2 C G 16 [] [] S V nc ns := by
  have E := n_E h
  refine j_iconst E d10_6_16 (by decide) ?_
  exact j_pick [] rfl k
theorem t10_6_17 {C : qCx} {G : jG} {S : jS} {V : jH} {nc ns : Nat} {s0 : Int} {mc ms : Nat} {qf : Int → jS → jH → Prop} (h : x10_6 C G)  (R : j_Rz n_KT 2 C G b_10_6 mc ms qf) (hz : 0 ≤ s0 ∧ s0 ≤ 1) (q : qf s0 S V) (hc : nc ≤ mc) (hs : ns ≤ ms) : j_ok n_KT 2 C G 17 [] [(0, s0)] S V nc ns := by
  have E := n_E h
  exact R _ _ _ _ _ _ _ d10_6_17 hz q hc hs
/- BalanceCoder$Table.isOpen()Z -/
abbrev b_10_7 : ByteArray := prog_10_method_7_code
def y_10_7 : MethodName := ⟨"BalanceCoder$Table", "isOpen", "()Z"⟩
abbrev x10_7 (C : qCx) (G : jG) : Prop := n_ctx C b_10_7 1 "BalanceCoder$Table" G.1 G.2.1
def M10_7 (l : Launch) (mc ms : Nat) (p : Int → jS → jH → Prop) (q : Int → jS → jH → Int → jS → jH → Prop) : Prop := j_Met l vwCl n_TL n_NW n_KT y_10_7 (Cond.code y_10_7 b_10_7 1 (some .boolean) :: n_GW) { frames := 2, cells := mc, slots := ms, locals := 46 } mc ms (fun a S V => ∃ u0 : Int, a = [(2, u0)] ∧ S.1 u0 = 29 ∧ p u0 S V) (fun a S V rs S' V' => ∃ u0 r : Int, a = [(2, u0)] ∧ rs = [(0, r)] ∧ q u0 S V r S' V')
theorem e10_7 {l : Launch} {mc ms : Nat} {p : Int → jS → jH → Prop} {q : Int → jS → jH → Int → jS → jH → Prop} (body : ∀ (C : qCx) (G : jG), x10_7 C G → C.2.2.2.1.frames = 2 ∧ C.2.2.2.1.locals = 46 → C.2.2.2.1.cells = mc ∧ C.2.2.2.1.slots = ms → C.2.1 = l → C.2.2.2.2.2.2.2.2.1.name = "isOpen" → ∀ (u0 : Int) (S : jS) (V : jH), S.1 u0 = 29 → p u0 S V → j_Rz n_KT 1 C G b_10_7 mc ms (q u0 S V) → j_ok n_KT 1 C G 0 [(0, (2, u0))] [] S V 0 0) : M10_7 l mc ms p q := by
  refine j_method (ws' := n_GW) (by decide) rfl ?_ ?_
  · rintro a S V ⟨u0, rfl, -⟩
    exact Nat.le_of_ble_eq_true rfl
  · rintro C G htl hl hrm hm hml ho hts hnm hE a S V ⟨u0, rfl, ht, hp⟩ R
    exact body C G ⟨htl, hm, hml, ho, fun w hw => hts w (List.mem_cons_of_mem _ hw), hE⟩ (by rw [hrm]; exact ⟨rfl, rfl⟩) (by rw [hrm]; exact ⟨rfl, rfl⟩) hl hnm u0 S V ht hp (fun pc lo r S' V' nc ns d z q hc hs => R.2.2.1 rfl pc lo r S' V' nc ns d z ⟨u0, r, rfl, rfl, q⟩ hc hs)
theorem d10_7_0 : decode b_10_7 0 = .ok (.aload_n 0, 1) := by decide +kernel
theorem d10_7_1 : decode b_10_7 1 = .ok (.getfield 11, 3) := by decide +kernel
theorem d10_7_4 : decode b_10_7 4 = .ok (.iconst 0, 1) := by decide +kernel
theorem d10_7_5 : decode b_10_7 5 = .ok (.aaload, 1) := by decide +kernel
theorem d10_7_6 : decode b_10_7 6 = .ok (.invokevirtual 43, 3) := by decide +kernel
theorem d10_7_9 : decode b_10_7 9 = .ok (.aload_n 0, 1) := by decide +kernel
theorem d10_7_10 : decode b_10_7 10 = .ok (.invokevirtual 25, 3) := by decide +kernel
theorem d10_7_13 : decode b_10_7 13 = .ok (.if_icmp .eq 7, 3) := by decide +kernel
theorem d10_7_16 : decode b_10_7 16 = .ok (.iconst 1, 1) := by decide +kernel
theorem d10_7_17 : decode b_10_7 17 = .ok (.goto 4, 3) := by decide +kernel
theorem d10_7_20 : decode b_10_7 20 = .ok (.iconst 0, 1) := by decide +kernel
theorem d10_7_21 : decode b_10_7 21 = .ok (.ireturn, 1) := by decide +kernel
theorem K10_7_6 {C : qCx} {G : jG} {mc ms : Nat} {p : Int → jS → jH → Prop} {q : Int → jS → jH → Int → jS → jH → Prop} (h : x10_7 C G) (hrm : C.2.2.2.1.frames = 2 ∧ C.2.2.2.1.locals = 46) (hM : M4_3 C.2.1 mc ms p q) : j_Call C b_10_7 n_KT G.1 G.2.1 1 (.invokevirtual 43) mc ms (fun a S V => ∃ u0 : Int, a = [(2, u0)] ∧ S.1 u0 = 23 ∧ p u0 S V) (fun a S V rs S' V' => ∃ u0 r : Int, a = [(2, u0)] ∧ rs = [(0, r)] ∧ q u0 S V r S' V') := j_callV n_NWk h.2.2.2.2.2 h.1 hM ⟨h.2.1.1, h.2.1.2, h.2.2.1, h.2.2.2.1, h.2.2.2.2.1⟩ ⟨n_CB (y := y_4_3) (bytes := b_4_3) 0 h.2.2.2.2.1 n_w375 n_w465 n_w8 ⟨by decide, by decide, by decide +kernel⟩ rfl rfl ⟨by rw [hrm.1]; exact Nat.le_of_ble_eq_true rfl, by rw [hrm.2]; exact Nat.le_of_ble_eq_true rfl⟩, h.2.2.2.2.1 _ n_w373, h.2.2.2.2.1 _ n_w374⟩ (Cn := RX2) (fun a S V hP => by obtain ⟨u0, rfl, e, -⟩ := hP; exact ⟨u0, _, 2, _, _, TX2, 1, rfl, rfl, by rw [e]; decide, by rw [e]; rfl, rfl⟩)
theorem K10_7_10 {C : qCx} {G : jG} {mc ms : Nat} {p : Int → jS → jH → Prop} {q : Int → jS → jH → Int → jS → jH → Prop} (h : x10_7 C G) (hrm : C.2.2.2.1.frames = 2 ∧ C.2.2.2.1.locals = 46) (hM : M10_4 C.2.1 mc ms p q) : j_Call C b_10_7 n_KT G.1 G.2.1 1 (.invokevirtual 25) mc ms (fun a S V => ∃ u0 : Int, a = [(2, u0)] ∧ S.1 u0 = 29 ∧ p u0 S V) (fun a S V rs S' V' => ∃ u0 r : Int, a = [(2, u0)] ∧ rs = [(0, r)] ∧ q u0 S V r S' V') := j_callV n_NWk h.2.2.2.2.2 h.1 hM ⟨h.2.1.1, h.2.1.2, h.2.2.1, h.2.2.2.1, h.2.2.2.2.1⟩ ⟨n_CB (y := y_10_4) (bytes := b_10_4) 0 h.2.2.2.2.1 n_w348 n_w345 n_w7 ⟨by decide, by decide, by decide +kernel⟩ rfl rfl ⟨by rw [hrm.1]; exact Nat.le_of_ble_eq_true rfl, by rw [hrm.2]; exact Nat.le_of_ble_eq_true rfl⟩, h.2.2.2.2.1 _ n_w346, h.2.2.2.2.1 _ n_w347⟩ (Cn := RX8) (fun a S V hP => by obtain ⟨u0, rfl, e, -⟩ := hP; exact ⟨u0, _, 8, _, _, TX8, 3, rfl, rfl, by rw [e]; decide, by rw [e]; rfl, rfl⟩)
theorem t10_7_0 {C : qCx} {G : jG} {S : jS} {V : jH} {nc ns : Nat} {l0 : Int} {mc ms : Nat} {pp : Int → jS → jH → Prop} {qq : Int → jS → jH → Int → jS → jH → Prop} (h : x10_7 C G) (L : j_L S) (hrm : C.2.2.2.1.frames = 2 ∧ C.2.2.2.1.locals = 46) (c1 : S.1 l0 = 29) (hM : M4_3 C.2.1 mc ms pp qq) (hp : pp (l0 + 2) S V) (hc : nc + mc ≤ C.2.2.2.1.cells) (hs : ns + ms ≤ C.2.2.2.1.slots) (k : ∀ (r : Int) (S' : jS) (V' : jH), qq (l0 + 2) S V r S' V' → j_ok n_KT 1 C G 9 [(0, (2, l0))] [(0, r)] S' V' (nc + mc) (ns + ms)) : j_ok n_KT 1 C G 0 [(0, (2, l0))] [] S V nc ns := by
  have E := n_E h
  refine j_aload_n E d10_7_0 rfl 0 rfl ?_
  refine j_getS (f := 0) (x := l0 + 1) (fg8_11 h) d10_7_1 c1 (by decide) rfl rfl ((L8_0 L c1).trans (by omega)) ?_
  refine j_iconst E d10_7_4 (by decide) ?_
  refine j_aaldS (x := l0 + 2) E d10_7_5 (show S.1 (l0 + 1) = 19 from (by have q := L8_0k L c1; rw [show l0 + 1 = l0 + 1 by omega]; exact q)) (by decide) rfl (by decide) (by decide) ((LDealA L (i := 0) (show S.1 (l0 + 1) = 19 from (by have q := L8_0k L c1; rw [show l0 + 1 = l0 + 1 by omega]; exact q)) (by decide) (by decide)).trans (by omega)) ?_
  refine j_call E (K10_7_6 h hrm hM) d10_7_6 (a := [(2, l0 + 2)]) (sk := []) rfl ⟨l0 + 2, rfl, (show S.1 (l0 + 2) = 23 from (by have q := LDealAk L (i := 0) (show S.1 (l0 + 1) = 19 from (by have q := L8_0k L c1; rw [show l0 + 1 = l0 + 1 by omega]; exact q)) (by decide) (by decide); rw [show l0 + 2 = (l0 + 1) + 1 + 2 * 0 by omega]; exact q)), hp⟩ (Nat.le_of_ble_eq_true rfl) hc hs ?_
  rintro rs S' V' ⟨z0, r, e1, rfl, q⟩
  simp only [List.cons.injEq, Prod.mk.injEq, and_true, true_and] at e1
  obtain ⟨rfl⟩ := e1
  exact j_pick [0] rfl (k r S' V' q)
theorem t10_7_9 {C : qCx} {G : jG} {S : jS} {V : jH} {nc ns : Nat} {l0 s0 : Int} {mc ms : Nat} {pp : Int → jS → jH → Prop} {qq : Int → jS → jH → Int → jS → jH → Prop} (h : x10_7 C G) (hrm : C.2.2.2.1.frames = 2 ∧ C.2.2.2.1.locals = 46) (c1 : S.1 l0 = 29) (hM : M10_4 C.2.1 mc ms pp qq) (hp : pp l0 S V) (hc : nc + mc ≤ C.2.2.2.1.cells) (hs : ns + ms ≤ C.2.2.2.1.slots) (k : ∀ (r : Int) (S' : jS) (V' : jH), qq l0 S V r S' V' → j_ok n_KT 1 C G 13 [] [(0, r), (0, s0)] S' V' (nc + mc) (ns + ms)) : j_ok n_KT 1 C G 9 [(0, (2, l0))] [(0, s0)] S V nc ns := by
  have E := n_E h
  refine j_aload_n E d10_7_9 rfl 0 rfl ?_
  refine j_call E (K10_7_10 h hrm hM) d10_7_10 (a := [(2, l0)]) (sk := [(0, s0)]) rfl ⟨l0, rfl, c1, hp⟩ (Nat.le_of_ble_eq_true rfl) hc hs ?_
  rintro rs S' V' ⟨z0, r, e1, rfl, q⟩
  simp only [List.cons.injEq, Prod.mk.injEq, and_true, true_and] at e1
  obtain ⟨rfl⟩ := e1
  exact j_pick [] rfl (k r S' V' q)
theorem t10_7_13 {C : qCx} {G : jG} {S : jS} {V : jH} {nc ns : Nat} {s0 s1 : Int} (h : x10_7 C G)  (k : s1 = s0 → j_ok n_KT 1 C G 20 [] [] S V nc ns) (k' : ¬ s1 = s0 → j_ok n_KT 1 C G 16 [] [] S V nc ns) : j_ok n_KT 1 C G 13 [] [(0, s0), (0, s1)] S V nc ns := by
  have E := n_E h
  exact j_icmp_eq E d10_7_13 (t := 20) rfl (fun q => j_pick [] rfl (k q)) (fun q => j_pick [] rfl (k' q))
theorem t10_7_16 {C : qCx} {G : jG} {S : jS} {V : jH} {nc ns : Nat} (h : x10_7 C G)  (k : j_ok n_KT 1 C G 21 [] [(0, 1)] S V nc ns) : j_ok n_KT 1 C G 16 [] [] S V nc ns := by
  have E := n_E h
  refine j_iconst E d10_7_16 (by decide) ?_
  refine j_goto E d10_7_17 (t := 21) rfl ?_
  exact j_pick [] rfl k
theorem t10_7_20 {C : qCx} {G : jG} {S : jS} {V : jH} {nc ns : Nat} (h : x10_7 C G)  (k : j_ok n_KT 1 C G 21 [] [(0, 0)] S V nc ns) : j_ok n_KT 1 C G 20 [] [] S V nc ns := by
  have E := n_E h
  refine j_iconst E d10_7_20 (by decide) ?_
  exact j_pick [] rfl k
theorem t10_7_21 {C : qCx} {G : jG} {S : jS} {V : jH} {nc ns : Nat} {s0 : Int} {mc ms : Nat} {qf : Int → jS → jH → Prop} (h : x10_7 C G)  (R : j_Rz n_KT 1 C G b_10_7 mc ms qf) (hz : 0 ≤ s0 ∧ s0 ≤ 1) (q : qf s0 S V) (hc : nc ≤ mc) (hs : ns ≤ ms) : j_ok n_KT 1 C G 21 [] [(0, s0)] S V nc ns := by
  have E := n_E h
  exact R _ _ _ _ _ _ _ d10_7_21 hz q hc hs
/- BalanceCoder.shares(IIIZ)I -/
abbrev b_1_9 : ByteArray := prog_1_method_9_code
def y_1_9 : MethodName := ⟨"BalanceCoder", "shares", "(IIIZ)I"⟩
abbrev x1_9 (C : qCx) (G : jG) : Prop := n_ctx C b_1_9 7 "BalanceCoder" G.1 G.2.1
def M1_9 (l : Launch) (mc ms : Nat) (p : Int → Int → Int → Int → Int → jS → jH → Prop) (q : Int → Int → Int → Int → Int → jS → jH → Int → jS → jH → Prop) : Prop := j_Met l vwCl n_TL n_NW n_KT y_1_9 (Cond.code y_1_9 b_1_9 7 (some .int) :: n_GW) { frames := 3, cells := mc, slots := ms, locals := 67 } mc ms (fun a S V => ∃ u0 u1 u2 u3 u4 : Int, a = [(2, u0), (0, u1), (0, u2), (0, u3), (0, u4)] ∧ S.1 u0 = 31 ∧ p u0 u1 u2 u3 u4 S V) (fun a S V rs S' V' => ∃ u0 u1 u2 u3 u4 r : Int, a = [(2, u0), (0, u1), (0, u2), (0, u3), (0, u4)] ∧ rs = [(0, r)] ∧ q u0 u1 u2 u3 u4 S V r S' V')
theorem e1_9 {l : Launch} {mc ms : Nat} {p : Int → Int → Int → Int → Int → jS → jH → Prop} {q : Int → Int → Int → Int → Int → jS → jH → Int → jS → jH → Prop} (body : ∀ (C : qCx) (G : jG), x1_9 C G → C.2.2.2.1.frames = 3 ∧ C.2.2.2.1.locals = 67 → C.2.2.2.1.cells = mc ∧ C.2.2.2.1.slots = ms → C.2.1 = l → C.2.2.2.2.2.2.2.2.1.name = "shares" → ∀ (u0 u1 u2 u3 u4 : Int) (S : jS) (V : jH), S.1 u0 = 31 → p u0 u1 u2 u3 u4 S V → j_Ri n_KT 7 C G b_1_9 mc ms (q u0 u1 u2 u3 u4 S V) → j_ok n_KT 7 C G 0 [(0, (2, u0)), (1, (0, u1)), (2, (0, u2)), (3, (0, u3)), (4, (0, u4))] [] S V 0 0) : M1_9 l mc ms p q := by
  refine j_method (ws' := n_GW) (by decide) rfl ?_ ?_
  · rintro a S V ⟨u0, u1, u2, u3, u4, rfl, -⟩
    exact Nat.le_of_ble_eq_true rfl
  · rintro C G htl hl hrm hm hml ho hts hnm hE a S V ⟨u0, u1, u2, u3, u4, rfl, ht, hp⟩ R
    exact body C G ⟨htl, hm, hml, ho, fun w hw => hts w (List.mem_cons_of_mem _ hw), hE⟩ (by rw [hrm]; exact ⟨rfl, rfl⟩) (by rw [hrm]; exact ⟨rfl, rfl⟩) hl hnm u0 u1 u2 u3 u4 S V ht hp (fun pc lo r S' V' nc ns d q hc hs => R.2.1 rfl pc lo r S' V' nc ns d ⟨u0, u1, u2, u3, u4, r, rfl, rfl, q⟩ hc hs)
theorem d1_9_0 : decode b_1_9 0 = .ok (.aload_n 0, 1) := by decide +kernel
theorem d1_9_1 : decode b_1_9 1 = .ok (.iload_n 1, 1) := by decide +kernel
theorem d1_9_2 : decode b_1_9 2 = .ok (.invokevirtual 92, 3) := by decide +kernel
theorem d1_9_5 : decode b_1_9 5 = .ok (.astore 5, 2) := by decide +kernel
theorem d1_9_7 : decode b_1_9 7 = .ok (.aload 5, 2) := by decide +kernel
theorem d1_9_9 : decode b_1_9 9 = .ok (.ifnull 19, 3) := by decide +kernel
theorem d1_9_12 : decode b_1_9 12 = .ok (.aload 5, 2) := by decide +kernel
theorem d1_9_14 : decode b_1_9 14 = .ok (.iload_n 2, 1) := by decide +kernel
theorem d1_9_15 : decode b_1_9 15 = .ok (.invokevirtual 128, 3) := by decide +kernel
theorem d1_9_18 : decode b_1_9 18 = .ok (.ifCond .eq 10, 3) := by decide +kernel
theorem d1_9_21 : decode b_1_9 21 = .ok (.iload_n 3, 1) := by decide +kernel
theorem d1_9_22 : decode b_1_9 22 = .ok (.invokestatic 98, 3) := by decide +kernel
theorem d1_9_25 : decode b_1_9 25 = .ok (.ifCond .ne 9, 3) := by decide +kernel
theorem d1_9_28 : decode b_1_9 28 = .ok (.aload_n 0, 1) := by decide +kernel
theorem d1_9_29 : decode b_1_9 29 = .ok (.iconst (-1), 1) := by decide +kernel
theorem d1_9_30 : decode b_1_9 30 = .ok (.invokevirtual 55, 3) := by decide +kernel
theorem d1_9_33 : decode b_1_9 33 = .ok (.ireturn, 1) := by decide +kernel
theorem d1_9_34 : decode b_1_9 34 = .ok (.aload 5, 2) := by decide +kernel
theorem d1_9_36 : decode b_1_9 36 = .ok (.invokevirtual 131, 3) := by decide +kernel
theorem d1_9_39 : decode b_1_9 39 = .ok (.ifCond .eq 10, 3) := by decide +kernel
theorem d1_9_42 : decode b_1_9 42 = .ok (.aload_n 0, 1) := by decide +kernel
theorem d1_9_43 : decode b_1_9 43 = .ok (.bipush (-4), 2) := by decide +kernel
theorem d1_9_45 : decode b_1_9 45 = .ok (.invokevirtual 55, 3) := by decide +kernel
theorem d1_9_48 : decode b_1_9 48 = .ok (.ireturn, 1) := by decide +kernel
theorem d1_9_49 : decode b_1_9 49 = .ok (.aload 5, 2) := by decide +kernel
theorem d1_9_51 : decode b_1_9 51 = .ok (.getfield 105, 3) := by decide +kernel
theorem d1_9_54 : decode b_1_9 54 = .ok (.iload_n 2, 1) := by decide +kernel
theorem d1_9_55 : decode b_1_9 55 = .ok (.aaload, 1) := by decide +kernel
theorem d1_9_56 : decode b_1_9 56 = .ok (.astore 6, 2) := by decide +kernel
theorem d1_9_58 : decode b_1_9 58 = .ok (.iload 4, 2) := by decide +kernel
theorem d1_9_60 : decode b_1_9 60 = .ok (.ifCond .eq 13, 3) := by decide +kernel
theorem d1_9_63 : decode b_1_9 63 = .ok (.aload 6, 2) := by decide +kernel
theorem d1_9_65 : decode b_1_9 65 = .ok (.getfield 134, 3) := by decide +kernel
theorem d1_9_68 : decode b_1_9 68 = .ok (.iload_n 3, 1) := by decide +kernel
theorem d1_9_69 : decode b_1_9 69 = .ok (.iaload, 1) := by decide +kernel
theorem d1_9_70 : decode b_1_9 70 = .ok (.goto 9, 3) := by decide +kernel
theorem d1_9_73 : decode b_1_9 73 = .ok (.aload 6, 2) := by decide +kernel
theorem d1_9_75 : decode b_1_9 75 = .ok (.iload_n 3, 1) := by decide +kernel
theorem d1_9_76 : decode b_1_9 76 = .ok (.invokevirtual 114, 3) := by decide +kernel
theorem d1_9_79 : decode b_1_9 79 = .ok (.ireturn, 1) := by decide +kernel
theorem K1_9_2 {C : qCx} {G : jG} {mc ms : Nat} {p : Int → Int → jS → jH → Prop} {q : Int → Int → jS → jH → Int → jS → jH → Prop} (h : x1_9 C G) (hrm : C.2.2.2.1.frames = 3 ∧ C.2.2.2.1.locals = 67) (hM : M1_30 C.2.1 mc ms p q) : j_Call C b_1_9 n_KT G.1 G.2.1 7 (.invokevirtual 92) mc ms (fun a S V => ∃ u0 u1 : Int, a = [(2, u0), (0, u1)] ∧ S.1 u0 = 31 ∧ p u0 u1 S V) (fun a S V rs S' V' => ∃ u0 u1 r : Int, a = [(2, u0), (0, u1)] ∧ rs = [(2, r)] ∧ q u0 u1 S V r S' V') := j_callV n_NWk h.2.2.2.2.2 h.1 hM ⟨h.2.1.1, h.2.1.2, h.2.2.1, h.2.2.2.1, h.2.2.2.2.1⟩ ⟨n_CB (y := y_1_30) (bytes := b_1_30) 1 h.2.2.2.2.1 n_w367 n_w364 n_w1 ⟨by decide, by decide, by decide +kernel⟩ rfl rfl ⟨by rw [hrm.1]; exact Nat.le_of_ble_eq_true rfl, by rw [hrm.2]; exact Nat.le_of_ble_eq_true rfl⟩, h.2.2.2.2.1 _ n_w366, h.2.2.2.2.1 _ n_s2⟩ (Cn := RX10) (fun a S V hP => by obtain ⟨u0, u1, rfl, e, -⟩ := hP; exact ⟨u0, _, 10, _, _, TX10, 8, rfl, rfl, by rw [e]; decide, by rw [e]; rfl, rfl⟩)
theorem K1_9_15 {C : qCx} {G : jG} {mc ms : Nat} {p : Int → Int → jS → jH → Prop} {q : Int → Int → jS → jH → Int → jS → jH → Prop} (h : x1_9 C G) (hrm : C.2.2.2.1.frames = 3 ∧ C.2.2.2.1.locals = 67) (hM : M10_6 C.2.1 mc ms p q) : j_Call C b_1_9 n_KT G.1 G.2.1 7 (.invokevirtual 128) mc ms (fun a S V => ∃ u0 u1 : Int, a = [(2, u0), (0, u1)] ∧ S.1 u0 = 29 ∧ p u0 u1 S V) (fun a S V rs S' V' => ∃ u0 u1 r : Int, a = [(2, u0), (0, u1)] ∧ rs = [(0, r)] ∧ q u0 u1 S V r S' V') := j_callV n_NWk h.2.2.2.2.2 h.1 hM ⟨h.2.1.1, h.2.1.2, h.2.2.1, h.2.2.2.1, h.2.2.2.2.1⟩ ⟨n_CB (y := y_10_6) (bytes := b_10_6) 1 h.2.2.2.2.1 n_w459 n_w456 n_w7 ⟨by decide, by decide, by decide +kernel⟩ rfl rfl ⟨by rw [hrm.1]; exact Nat.le_of_ble_eq_true rfl, by rw [hrm.2]; exact Nat.le_of_ble_eq_true rfl⟩, h.2.2.2.2.1 _ n_w457, h.2.2.2.2.1 _ n_w458⟩ (Cn := RX8) (fun a S V hP => by obtain ⟨u0, u1, rfl, e, -⟩ := hP; exact ⟨u0, _, 8, _, _, TX8, 3, rfl, rfl, by rw [e]; decide, by rw [e]; rfl, rfl⟩)
theorem K1_9_22 {C : qCx} {G : jG} {mc ms : Nat} {p : Int → jS → jH → Prop} {q : Int → jS → jH → Int → jS → jH → Prop} (h : x1_9 C G) (hrm : C.2.2.2.1.frames = 3 ∧ C.2.2.2.1.locals = 67) (hM : M1_32 C.2.1 mc ms p q) : j_Call C b_1_9 n_KT G.1 G.2.1 7 (.invokestatic 98) mc ms (fun a S V => ∃ u0 : Int, a = [(0, u0)] ∧ p u0 S V) (fun a S V rs S' V' => ∃ u0 r : Int, a = [(0, u0)] ∧ rs = [(0, r)] ∧ q u0 S V r S' V') := j_callS n_NWk h.2.2.2.2.2 h.1 hM ⟨h.2.1.1, h.2.1.2, h.2.2.1, h.2.2.2.1, h.2.2.2.2.1⟩ ⟨n_CB (y := y_1_32) (bytes := b_1_32) 1 h.2.2.2.2.1 n_w370 n_w368 n_w1 ⟨by decide, by decide, by decide +kernel⟩ rfl rfl ⟨by rw [hrm.1]; exact Nat.le_of_ble_eq_true rfl, by rw [hrm.2]; exact Nat.le_of_ble_eq_true rfl⟩, h.2.2.2.2.1 _ n_w369⟩ (fun a S V hP => by obtain ⟨u0, rfl, -⟩ := hP; rfl)
theorem K1_9_30 {C : qCx} {G : jG} {mc ms : Nat} {p : Int → Int → jS → jH → Prop} {q : Int → Int → jS → jH → Int → jS → jH → Prop} (h : x1_9 C G) (hrm : C.2.2.2.1.frames = 3 ∧ C.2.2.2.1.locals = 67) (hM : M1_27 C.2.1 mc ms p q) : j_Call C b_1_9 n_KT G.1 G.2.1 7 (.invokevirtual 55) mc ms (fun a S V => ∃ u0 u1 : Int, a = [(2, u0), (0, u1)] ∧ S.1 u0 = 31 ∧ p u0 u1 S V) (fun a S V rs S' V' => ∃ u0 u1 r : Int, a = [(2, u0), (0, u1)] ∧ rs = [(0, r)] ∧ q u0 u1 S V r S' V') := j_callV n_NWk h.2.2.2.2.2 h.1 hM ⟨h.2.1.1, h.2.1.2, h.2.2.1, h.2.2.2.1, h.2.2.2.2.1⟩ ⟨n_CB (y := y_1_27) (bytes := b_1_27) 1 h.2.2.2.2.1 n_w309 n_w306 n_w1 ⟨by decide, by decide, by decide +kernel⟩ rfl rfl ⟨by rw [hrm.1]; exact Nat.le_of_ble_eq_true rfl, by rw [hrm.2]; exact Nat.le_of_ble_eq_true rfl⟩, h.2.2.2.2.1 _ n_w308, h.2.2.2.2.1 _ n_s1⟩ (Cn := RX10) (fun a S V hP => by obtain ⟨u0, u1, rfl, e, -⟩ := hP; exact ⟨u0, _, 10, _, _, TX10, 8, rfl, rfl, by rw [e]; decide, by rw [e]; rfl, rfl⟩)
theorem K1_9_36 {C : qCx} {G : jG} {mc ms : Nat} {p : Int → jS → jH → Prop} {q : Int → jS → jH → Int → jS → jH → Prop} (h : x1_9 C G) (hrm : C.2.2.2.1.frames = 3 ∧ C.2.2.2.1.locals = 67) (hM : M10_7 C.2.1 mc ms p q) : j_Call C b_1_9 n_KT G.1 G.2.1 7 (.invokevirtual 131) mc ms (fun a S V => ∃ u0 : Int, a = [(2, u0)] ∧ S.1 u0 = 29 ∧ p u0 S V) (fun a S V rs S' V' => ∃ u0 r : Int, a = [(2, u0)] ∧ rs = [(0, r)] ∧ q u0 S V r S' V') := j_callV n_NWk h.2.2.2.2.2 h.1 hM ⟨h.2.1.1, h.2.1.2, h.2.2.1, h.2.2.2.1, h.2.2.2.2.1⟩ ⟨n_CB (y := y_10_7) (bytes := b_10_7) 0 h.2.2.2.2.1 n_w464 n_w461 n_w7 ⟨by decide, by decide, by decide +kernel⟩ rfl rfl ⟨by rw [hrm.1]; exact Nat.le_of_ble_eq_true rfl, by rw [hrm.2]; exact Nat.le_of_ble_eq_true rfl⟩, h.2.2.2.2.1 _ n_w462, h.2.2.2.2.1 _ n_w463⟩ (Cn := RX8) (fun a S V hP => by obtain ⟨u0, rfl, e, -⟩ := hP; exact ⟨u0, _, 8, _, _, TX8, 3, rfl, rfl, by rw [e]; decide, by rw [e]; rfl, rfl⟩)
theorem K1_9_45 {C : qCx} {G : jG} {mc ms : Nat} {p : Int → Int → jS → jH → Prop} {q : Int → Int → jS → jH → Int → jS → jH → Prop} (h : x1_9 C G) (hrm : C.2.2.2.1.frames = 3 ∧ C.2.2.2.1.locals = 67) (hM : M1_27 C.2.1 mc ms p q) : j_Call C b_1_9 n_KT G.1 G.2.1 7 (.invokevirtual 55) mc ms (fun a S V => ∃ u0 u1 : Int, a = [(2, u0), (0, u1)] ∧ S.1 u0 = 31 ∧ p u0 u1 S V) (fun a S V rs S' V' => ∃ u0 u1 r : Int, a = [(2, u0), (0, u1)] ∧ rs = [(0, r)] ∧ q u0 u1 S V r S' V') := j_callV n_NWk h.2.2.2.2.2 h.1 hM ⟨h.2.1.1, h.2.1.2, h.2.2.1, h.2.2.2.1, h.2.2.2.2.1⟩ ⟨n_CB (y := y_1_27) (bytes := b_1_27) 1 h.2.2.2.2.1 n_w309 n_w306 n_w1 ⟨by decide, by decide, by decide +kernel⟩ rfl rfl ⟨by rw [hrm.1]; exact Nat.le_of_ble_eq_true rfl, by rw [hrm.2]; exact Nat.le_of_ble_eq_true rfl⟩, h.2.2.2.2.1 _ n_w308, h.2.2.2.2.1 _ n_s1⟩ (Cn := RX10) (fun a S V hP => by obtain ⟨u0, u1, rfl, e, -⟩ := hP; exact ⟨u0, _, 10, _, _, TX10, 8, rfl, rfl, by rw [e]; decide, by rw [e]; rfl, rfl⟩)
theorem K1_9_76 {C : qCx} {G : jG} {mc ms : Nat} {p : Int → Int → jS → jH → Prop} {q : Int → Int → jS → jH → Int → jS → jH → Prop} (h : x1_9 C G) (hrm : C.2.2.2.1.frames = 3 ∧ C.2.2.2.1.locals = 67) (hM : M4_2 C.2.1 mc ms p q) : j_Call C b_1_9 n_KT G.1 G.2.1 7 (.invokevirtual 114) mc ms (fun a S V => ∃ u0 u1 : Int, a = [(2, u0), (0, u1)] ∧ S.1 u0 = 23 ∧ p u0 u1 S V) (fun a S V rs S' V' => ∃ u0 u1 r : Int, a = [(2, u0), (0, u1)] ∧ rs = [(0, r)] ∧ q u0 u1 S V r S' V') := j_callV n_NWk h.2.2.2.2.2 h.1 hM ⟨h.2.1.1, h.2.1.2, h.2.2.1, h.2.2.2.1, h.2.2.2.2.1⟩ ⟨n_CB (y := y_4_2) (bytes := b_4_2) 1 h.2.2.2.2.1 n_w379 n_w376 n_w8 ⟨by decide, by decide, by decide +kernel⟩ rfl rfl ⟨by rw [hrm.1]; exact Nat.le_of_ble_eq_true rfl, by rw [hrm.2]; exact Nat.le_of_ble_eq_true rfl⟩, h.2.2.2.2.1 _ n_w377, h.2.2.2.2.1 _ n_w378⟩ (Cn := RX2) (fun a S V hP => by obtain ⟨u0, u1, rfl, e, -⟩ := hP; exact ⟨u0, _, 2, _, _, TX2, 1, rfl, rfl, by rw [e]; decide, by rw [e]; rfl, rfl⟩)
theorem t1_9_0 {C : qCx} {G : jG} {S : jS} {V : jH} {nc ns : Nat} {l0 l1 l2 l3 l4 : Int} {mc ms : Nat} {pp : Int → Int → jS → jH → Prop} {qq : Int → Int → jS → jH → Int → jS → jH → Prop} (h : x1_9 C G) (hrm : C.2.2.2.1.frames = 3 ∧ C.2.2.2.1.locals = 67) (c1 : S.1 l0 = 31) (hM : M1_30 C.2.1 mc ms pp qq) (hp : pp l0 l1 S V) (hc : nc + mc ≤ C.2.2.2.1.cells) (hs : ns + ms ≤ C.2.2.2.1.slots) (k : ∀ (r : Int) (S' : jS) (V' : jH), qq l0 l1 S V r S' V' → j_ok n_KT 7 C G 5 [(0, (2, l0)), (2, (0, l2)), (3, (0, l3)), (4, (0, l4))] [(2, r)] S' V' (nc + mc) (ns + ms)) : j_ok n_KT 7 C G 0 [(0, (2, l0)), (1, (0, l1)), (2, (0, l2)), (3, (0, l3)), (4, (0, l4))] [] S V nc ns := by
  have E := n_E h
  refine j_aload_n E d1_9_0 rfl 0 rfl ?_
  refine j_iload_n E d1_9_1 rfl 1 rfl ?_
  refine j_call E (K1_9_2 h hrm hM) d1_9_2 (a := [(2, l0), (0, l1)]) (sk := []) rfl ⟨l0, l1, rfl, c1, hp⟩ (Nat.le_of_ble_eq_true rfl) hc hs ?_
  rintro rs S' V' ⟨z0, z1, r, e1, rfl, q⟩
  simp only [List.cons.injEq, Prod.mk.injEq, and_true, true_and] at e1
  obtain ⟨rfl, rfl⟩ := e1
  exact j_pick [0, 2, 3, 4] rfl (k r S' V' q)
theorem t1_9_5 {C : qCx} {G : jG} {S : jS} {V : jH} {nc ns : Nat} {l0 l2 l3 l4 s0 : Int} (h : x1_9 C G)  (k : s0 = -1 → j_ok n_KT 7 C G 28 [(0, (2, l0))] [] S V nc ns) (k' : 0 ≤ s0 → S.1 s0 ≠ 0 → j_ok n_KT 7 C G 12 [(0, (2, l0)), (2, (0, l2)), (3, (0, l3)), (4, (0, l4)), (5, (2, s0))] [] S V nc ns) : j_ok n_KT 7 C G 5 [(0, (2, l0)), (2, (0, l2)), (3, (0, l3)), (4, (0, l4))] [(2, s0)] S V nc ns := by
  have E := n_E h
  refine j_astore E d1_9_5 (by decide) (lo1 := [(0, (2, l0)), (2, (0, l2)), (3, (0, l3)), (4, (0, l4))]) rfl ?_
  refine j_aload E d1_9_7 0 rfl ?_
  exact j_ifnull E d1_9_9 (t := 28) rfl (fun q => j_pick [1] rfl (k q)) (fun q q2 => j_pick [1, 2, 3, 4, 0] rfl (k' q q2))
theorem t1_9_12 {C : qCx} {G : jG} {S : jS} {V : jH} {nc ns : Nat} {l0 l2 l3 l4 l5 : Int} {mc ms : Nat} {pp : Int → Int → jS → jH → Prop} {qq : Int → Int → jS → jH → Int → jS → jH → Prop} (h : x1_9 C G) (hrm : C.2.2.2.1.frames = 3 ∧ C.2.2.2.1.locals = 67) (c1 : S.1 l5 = 29) (hM : M10_6 C.2.1 mc ms pp qq) (hp : pp l5 l2 S V) (hc : nc + mc ≤ C.2.2.2.1.cells) (hs : ns + ms ≤ C.2.2.2.1.slots) (k : ∀ (r : Int) (S' : jS) (V' : jH), qq l5 l2 S V r S' V' → j_ok n_KT 7 C G 18 [(0, (2, l0)), (2, (0, l2)), (3, (0, l3)), (4, (0, l4)), (5, (2, l5))] [(0, r)] S' V' (nc + mc) (ns + ms)) : j_ok n_KT 7 C G 12 [(0, (2, l0)), (2, (0, l2)), (3, (0, l3)), (4, (0, l4)), (5, (2, l5))] [] S V nc ns := by
  have E := n_E h
  refine j_aload E d1_9_12 4 rfl ?_
  refine j_iload_n E d1_9_14 rfl 1 rfl ?_
  refine j_call E (K1_9_15 h hrm hM) d1_9_15 (a := [(2, l5), (0, l2)]) (sk := []) rfl ⟨l5, l2, rfl, c1, hp⟩ (Nat.le_of_ble_eq_true rfl) hc hs ?_
  rintro rs S' V' ⟨z0, z1, r, e1, rfl, q⟩
  simp only [List.cons.injEq, Prod.mk.injEq, and_true, true_and] at e1
  obtain ⟨rfl, rfl⟩ := e1
  exact j_pick [0, 1, 2, 3, 4] rfl (k r S' V' q)
theorem t1_9_18 {C : qCx} {G : jG} {S : jS} {V : jH} {nc ns : Nat} {l0 l2 l3 l4 l5 s0 : Int} (h : x1_9 C G)  (k : s0 = 0 → j_ok n_KT 7 C G 28 [(0, (2, l0))] [] S V nc ns) (k' : ¬ s0 = 0 → j_ok n_KT 7 C G 21 [(0, (2, l0)), (2, (0, l2)), (3, (0, l3)), (4, (0, l4)), (5, (2, l5))] [] S V nc ns) : j_ok n_KT 7 C G 18 [(0, (2, l0)), (2, (0, l2)), (3, (0, l3)), (4, (0, l4)), (5, (2, l5))] [(0, s0)] S V nc ns := by
  have E := n_E h
  exact j_if_eq E d1_9_18 (t := 28) rfl (fun q => j_pick [0] rfl (k q)) (fun q => j_pick [0, 1, 2, 3, 4] rfl (k' q))
theorem t1_9_21 {C : qCx} {G : jG} {S : jS} {V : jH} {nc ns : Nat} {l0 l2 l3 l4 l5 : Int} {mc ms : Nat} {pp : Int → jS → jH → Prop} {qq : Int → jS → jH → Int → jS → jH → Prop} (h : x1_9 C G) (hrm : C.2.2.2.1.frames = 3 ∧ C.2.2.2.1.locals = 67)  (hM : M1_32 C.2.1 mc ms pp qq) (hp : pp l3 S V) (hc : nc + mc ≤ C.2.2.2.1.cells) (hs : ns + ms ≤ C.2.2.2.1.slots) (k : ∀ (r : Int) (S' : jS) (V' : jH), qq l3 S V r S' V' → j_ok n_KT 7 C G 25 [(0, (2, l0)), (2, (0, l2)), (3, (0, l3)), (4, (0, l4)), (5, (2, l5))] [(0, r)] S' V' (nc + mc) (ns + ms)) : j_ok n_KT 7 C G 21 [(0, (2, l0)), (2, (0, l2)), (3, (0, l3)), (4, (0, l4)), (5, (2, l5))] [] S V nc ns := by
  have E := n_E h
  refine j_iload_n E d1_9_21 rfl 2 rfl ?_
  refine j_call E (K1_9_22 h hrm hM) d1_9_22 (a := [(0, l3)]) (sk := []) rfl ⟨l3, rfl, hp⟩ (Nat.le_of_ble_eq_true rfl) hc hs ?_
  rintro rs S' V' ⟨z0, r, e1, rfl, q⟩
  simp only [List.cons.injEq, Prod.mk.injEq, and_true, true_and] at e1
  obtain ⟨rfl⟩ := e1
  exact j_pick [0, 1, 2, 3, 4] rfl (k r S' V' q)
theorem t1_9_25 {C : qCx} {G : jG} {S : jS} {V : jH} {nc ns : Nat} {l0 l2 l3 l4 l5 s0 : Int} (h : x1_9 C G)  (k : ¬ s0 = 0 → j_ok n_KT 7 C G 34 [(0, (2, l0)), (2, (0, l2)), (3, (0, l3)), (4, (0, l4)), (5, (2, l5))] [] S V nc ns) (k' : s0 = 0 → j_ok n_KT 7 C G 28 [(0, (2, l0))] [] S V nc ns) : j_ok n_KT 7 C G 25 [(0, (2, l0)), (2, (0, l2)), (3, (0, l3)), (4, (0, l4)), (5, (2, l5))] [(0, s0)] S V nc ns := by
  have E := n_E h
  exact j_if_ne E d1_9_25 (t := 34) rfl (fun q => j_pick [0, 1, 2, 3, 4] rfl (k q)) (fun q => j_pick [0] rfl (k' q))
theorem t1_9_28 {C : qCx} {G : jG} {S : jS} {V : jH} {nc ns : Nat} {l0 : Int} {mc ms : Nat} {pp : Int → Int → jS → jH → Prop} {qq : Int → Int → jS → jH → Int → jS → jH → Prop} (h : x1_9 C G) (hrm : C.2.2.2.1.frames = 3 ∧ C.2.2.2.1.locals = 67) (c1 : S.1 l0 = 31) (hM : M1_27 C.2.1 mc ms pp qq) (hp : pp l0 ((-1)) S V) (hc : nc + mc ≤ C.2.2.2.1.cells) (hs : ns + ms ≤ C.2.2.2.1.slots) (k : ∀ (r : Int) (S' : jS) (V' : jH), qq l0 ((-1)) S V r S' V' → j_ok n_KT 7 C G 33 [] [(0, r)] S' V' (nc + mc) (ns + ms)) : j_ok n_KT 7 C G 28 [(0, (2, l0))] [] S V nc ns := by
  have E := n_E h
  refine j_aload_n E d1_9_28 rfl 0 rfl ?_
  refine j_iconst E d1_9_29 (by decide) ?_
  refine j_call E (K1_9_30 h hrm hM) d1_9_30 (a := [(2, l0), (0, (-1))]) (sk := []) rfl ⟨l0, (-1), rfl, c1, hp⟩ (Nat.le_of_ble_eq_true rfl) hc hs ?_
  rintro rs S' V' ⟨z0, z1, r, e1, rfl, q⟩
  simp only [List.cons.injEq, Prod.mk.injEq, and_true, true_and] at e1
  obtain ⟨rfl, rfl⟩ := e1
  exact j_pick [] rfl (k r S' V' q)
theorem t1_9_33 {C : qCx} {G : jG} {S : jS} {V : jH} {nc ns : Nat} {s0 : Int} {mc ms : Nat} {qf : Int → jS → jH → Prop} (h : x1_9 C G)  (R : j_Ri n_KT 7 C G b_1_9 mc ms qf) (q : qf s0 S V) (hc : nc ≤ mc) (hs : ns ≤ ms) : j_ok n_KT 7 C G 33 [] [(0, s0)] S V nc ns := by
  have E := n_E h
  exact R _ _ _ _ _ _ _ d1_9_33 q hc hs
theorem t1_9_34 {C : qCx} {G : jG} {S : jS} {V : jH} {nc ns : Nat} {l0 l2 l3 l4 l5 : Int} {mc ms : Nat} {pp : Int → jS → jH → Prop} {qq : Int → jS → jH → Int → jS → jH → Prop} (h : x1_9 C G) (hrm : C.2.2.2.1.frames = 3 ∧ C.2.2.2.1.locals = 67) (c1 : S.1 l5 = 29) (hM : M10_7 C.2.1 mc ms pp qq) (hp : pp l5 S V) (hc : nc + mc ≤ C.2.2.2.1.cells) (hs : ns + ms ≤ C.2.2.2.1.slots) (k : ∀ (r : Int) (S' : jS) (V' : jH), qq l5 S V r S' V' → j_ok n_KT 7 C G 39 [(0, (2, l0)), (2, (0, l2)), (3, (0, l3)), (4, (0, l4)), (5, (2, l5))] [(0, r)] S' V' (nc + mc) (ns + ms)) : j_ok n_KT 7 C G 34 [(0, (2, l0)), (2, (0, l2)), (3, (0, l3)), (4, (0, l4)), (5, (2, l5))] [] S V nc ns := by
  have E := n_E h
  refine j_aload E d1_9_34 4 rfl ?_
  refine j_call E (K1_9_36 h hrm hM) d1_9_36 (a := [(2, l5)]) (sk := []) rfl ⟨l5, rfl, c1, hp⟩ (Nat.le_of_ble_eq_true rfl) hc hs ?_
  rintro rs S' V' ⟨z0, r, e1, rfl, q⟩
  simp only [List.cons.injEq, Prod.mk.injEq, and_true, true_and] at e1
  obtain ⟨rfl⟩ := e1
  exact j_pick [0, 1, 2, 3, 4] rfl (k r S' V' q)
theorem t1_9_39 {C : qCx} {G : jG} {S : jS} {V : jH} {nc ns : Nat} {l0 l2 l3 l4 l5 s0 : Int} (h : x1_9 C G)  (k : s0 = 0 → j_ok n_KT 7 C G 49 [(2, (0, l2)), (3, (0, l3)), (4, (0, l4)), (5, (2, l5))] [] S V nc ns) (k' : ¬ s0 = 0 → j_ok n_KT 7 C G 42 [(0, (2, l0))] [] S V nc ns) : j_ok n_KT 7 C G 39 [(0, (2, l0)), (2, (0, l2)), (3, (0, l3)), (4, (0, l4)), (5, (2, l5))] [(0, s0)] S V nc ns := by
  have E := n_E h
  exact j_if_eq E d1_9_39 (t := 49) rfl (fun q => j_pick [1, 2, 3, 4] rfl (k q)) (fun q => j_pick [0] rfl (k' q))
theorem t1_9_42 {C : qCx} {G : jG} {S : jS} {V : jH} {nc ns : Nat} {l0 : Int} {mc ms : Nat} {pp : Int → Int → jS → jH → Prop} {qq : Int → Int → jS → jH → Int → jS → jH → Prop} (h : x1_9 C G) (hrm : C.2.2.2.1.frames = 3 ∧ C.2.2.2.1.locals = 67) (c1 : S.1 l0 = 31) (hM : M1_27 C.2.1 mc ms pp qq) (hp : pp l0 ((-4)) S V) (hc : nc + mc ≤ C.2.2.2.1.cells) (hs : ns + ms ≤ C.2.2.2.1.slots) (k : ∀ (r : Int) (S' : jS) (V' : jH), qq l0 ((-4)) S V r S' V' → j_ok n_KT 7 C G 48 [] [(0, r)] S' V' (nc + mc) (ns + ms)) : j_ok n_KT 7 C G 42 [(0, (2, l0))] [] S V nc ns := by
  have E := n_E h
  refine j_aload_n E d1_9_42 rfl 0 rfl ?_
  refine j_bipush E d1_9_43 (by decide) ?_
  refine j_call E (K1_9_45 h hrm hM) d1_9_45 (a := [(2, l0), (0, (-4))]) (sk := []) rfl ⟨l0, (-4), rfl, c1, hp⟩ (Nat.le_of_ble_eq_true rfl) hc hs ?_
  rintro rs S' V' ⟨z0, z1, r, e1, rfl, q⟩
  simp only [List.cons.injEq, Prod.mk.injEq, and_true, true_and] at e1
  obtain ⟨rfl, rfl⟩ := e1
  exact j_pick [] rfl (k r S' V' q)
theorem t1_9_48 {C : qCx} {G : jG} {S : jS} {V : jH} {nc ns : Nat} {s0 : Int} {mc ms : Nat} {qf : Int → jS → jH → Prop} (h : x1_9 C G)  (R : j_Ri n_KT 7 C G b_1_9 mc ms qf) (q : qf s0 S V) (hc : nc ≤ mc) (hs : ns ≤ ms) : j_ok n_KT 7 C G 48 [] [(0, s0)] S V nc ns := by
  have E := n_E h
  exact R _ _ _ _ _ _ _ d1_9_48 q hc hs
theorem t1_9_49 {C : qCx} {G : jG} {S : jS} {V : jH} {nc ns : Nat} {l2 l3 l4 l5 : Int} (h : x1_9 C G) (L : j_L S) (c1 : S.1 l5 = 29) (c2 : 0 ≤ l2) (c3 : l2 < 4) (k : l4 = 0 → j_ok n_KT 7 C G 73 [(3, (0, l3)), (6, (2, l5 + 2 + 2 * l2))] [] S V nc ns) (k' : ¬ l4 = 0 → j_ok n_KT 7 C G 63 [(3, (0, l3)), (6, (2, l5 + 2 + 2 * l2))] [] S V nc ns) : j_ok n_KT 7 C G 49 [(2, (0, l2)), (3, (0, l3)), (4, (0, l4)), (5, (2, l5))] [] S V nc ns := by
  have E := n_E h
  refine j_aload E d1_9_49 3 rfl ?_
  refine j_getS (f := 0) (x := l5 + 1) (fg10_105 h) d1_9_51 c1 (by decide) rfl rfl ((L8_0 L c1).trans (by omega)) ?_
  refine j_iload_n E d1_9_54 rfl 0 rfl ?_
  refine j_aaldS (x := l5 + 2 + 2 * l2) E d1_9_55 (show S.1 (l5 + 1) = 19 from (by have q := L8_0k L c1; rw [show l5 + 1 = l5 + 1 by omega]; exact q)) (by decide) rfl c2 c3 ((LDealA L (i := l2) (show S.1 (l5 + 1) = 19 from (by have q := L8_0k L c1; rw [show l5 + 1 = l5 + 1 by omega]; exact q)) c2 c3).trans (by omega)) ?_
  refine j_astore E d1_9_56 (by decide) (lo1 := [(2, (0, l2)), (3, (0, l3)), (4, (0, l4)), (5, (2, l5))]) rfl ?_
  refine j_iload E d1_9_58 3 rfl ?_
  exact j_if_eq E d1_9_60 (t := 73) rfl (fun q => j_pick [2, 0] rfl (k q)) (fun q => j_pick [2, 0] rfl (k' q))
theorem t1_9_63 {C : qCx} {G : jG} {S : jS} {V : jH} {nc ns : Nat} {l3 l6 : Int} (h : x1_9 C G) (L : j_L S) (c1 : S.1 l6 = 23) (c2 : 0 ≤ l3) (c3 : l3 < 257) (k : j_ok n_KT 7 C G 79 [] [(0, V (l6 + 1) l3)] S V nc ns) : j_ok n_KT 7 C G 63 [(3, (0, l3)), (6, (2, l6))] [] S V nc ns := by
  have E := n_E h
  refine j_aload E d1_9_63 1 rfl ?_
  refine j_getS (f := 0) (x := l6 + 1) (fg10_134 h) d1_9_65 c1 (by decide) rfl rfl ((L2_0 L c1).trans (by omega)) ?_
  refine j_iload_n E d1_9_68 rfl 0 rfl ?_
  refine j_iald E d1_9_69 (j_arr_of (show S.1 (l6 + 1) = 2 from (by have q := L2_0k L c1; rw [show l6 + 1 = l6 + 1 by omega]; exact q)) (by decide) rfl) c2 c3 ?_
  refine j_goto E d1_9_70 (t := 79) rfl ?_
  exact j_pick [] rfl k
theorem t1_9_73 {C : qCx} {G : jG} {S : jS} {V : jH} {nc ns : Nat} {l3 l6 : Int} {mc ms : Nat} {pp : Int → Int → jS → jH → Prop} {qq : Int → Int → jS → jH → Int → jS → jH → Prop} (h : x1_9 C G) (hrm : C.2.2.2.1.frames = 3 ∧ C.2.2.2.1.locals = 67) (c1 : S.1 l6 = 23) (hM : M4_2 C.2.1 mc ms pp qq) (hp : pp l6 l3 S V) (hc : nc + mc ≤ C.2.2.2.1.cells) (hs : ns + ms ≤ C.2.2.2.1.slots) (k : ∀ (r : Int) (S' : jS) (V' : jH), qq l6 l3 S V r S' V' → j_ok n_KT 7 C G 79 [] [(0, r)] S' V' (nc + mc) (ns + ms)) : j_ok n_KT 7 C G 73 [(3, (0, l3)), (6, (2, l6))] [] S V nc ns := by
  have E := n_E h
  refine j_aload E d1_9_73 1 rfl ?_
  refine j_iload_n E d1_9_75 rfl 0 rfl ?_
  refine j_call E (K1_9_76 h hrm hM) d1_9_76 (a := [(2, l6), (0, l3)]) (sk := []) rfl ⟨l6, l3, rfl, c1, hp⟩ (Nat.le_of_ble_eq_true rfl) hc hs ?_
  rintro rs S' V' ⟨z0, z1, r, e1, rfl, q⟩
  simp only [List.cons.injEq, Prod.mk.injEq, and_true, true_and] at e1
  obtain ⟨rfl, rfl⟩ := e1
  exact j_pick [] rfl (k r S' V' q)
theorem t1_9_79 {C : qCx} {G : jG} {S : jS} {V : jH} {nc ns : Nat} {s0 : Int} {mc ms : Nat} {qf : Int → jS → jH → Prop} (h : x1_9 C G)  (R : j_Ri n_KT 7 C G b_1_9 mc ms qf) (q : qf s0 S V) (hc : nc ≤ mc) (hs : ns ≤ ms) : j_ok n_KT 7 C G 79 [] [(0, s0)] S V nc ns := by
  have E := n_E h
  exact R _ _ _ _ _ _ _ d1_9_79 q hc hs
/- BalanceCoder$Deal.firstWithout(LBalanceCoder$Row;)I -/
abbrev b_4_5 : ByteArray := prog_4_method_5_code
def y_4_5 : MethodName := ⟨"BalanceCoder$Deal", "firstWithout", "(LBalanceCoder$Row;)I"⟩
abbrev x4_5 (C : qCx) (G : jG) : Prop := n_ctx C b_4_5 3 "BalanceCoder$Deal" G.1 G.2.1
def M4_5 (l : Launch) (mc ms : Nat) (p : Int → Int → jS → jH → Prop) (q : Int → Int → jS → jH → Int → jS → jH → Prop) : Prop := j_Met l vwCl n_TL n_NW n_KT y_4_5 (Cond.code y_4_5 b_4_5 3 (some .int) :: n_GW) { frames := 2, cells := mc, slots := ms, locals := 47 } mc ms (fun a S V => ∃ u0 u1 : Int, a = [(2, u0), (2, u1)] ∧ S.1 u0 = 23 ∧ p u0 u1 S V) (fun a S V rs S' V' => ∃ u0 u1 r : Int, a = [(2, u0), (2, u1)] ∧ rs = [(0, r)] ∧ q u0 u1 S V r S' V')
theorem e4_5 {l : Launch} {mc ms : Nat} {p : Int → Int → jS → jH → Prop} {q : Int → Int → jS → jH → Int → jS → jH → Prop} (body : ∀ (C : qCx) (G : jG), x4_5 C G → C.2.2.2.1.frames = 2 ∧ C.2.2.2.1.locals = 47 → C.2.2.2.1.cells = mc ∧ C.2.2.2.1.slots = ms → C.2.1 = l → C.2.2.2.2.2.2.2.2.1.name = "firstWithout" → ∀ (u0 u1 : Int) (S : jS) (V : jH), S.1 u0 = 23 → p u0 u1 S V → j_Ri n_KT 3 C G b_4_5 mc ms (q u0 u1 S V) → j_ok n_KT 3 C G 0 [(0, (2, u0)), (1, (2, u1))] [] S V 0 0) : M4_5 l mc ms p q := by
  refine j_method (ws' := n_GW) (by decide) rfl ?_ ?_
  · rintro a S V ⟨u0, u1, rfl, -⟩
    exact Nat.le_of_ble_eq_true rfl
  · rintro C G htl hl hrm hm hml ho hts hnm hE a S V ⟨u0, u1, rfl, ht, hp⟩ R
    exact body C G ⟨htl, hm, hml, ho, fun w hw => hts w (List.mem_cons_of_mem _ hw), hE⟩ (by rw [hrm]; exact ⟨rfl, rfl⟩) (by rw [hrm]; exact ⟨rfl, rfl⟩) hl hnm u0 u1 S V ht hp (fun pc lo r S' V' nc ns d q hc hs => R.2.1 rfl pc lo r S' V' nc ns d ⟨u0, u1, r, rfl, rfl, q⟩ hc hs)
theorem d4_5_0 : decode b_4_5 0 = .ok (.iconst 0, 1) := by decide +kernel
theorem d4_5_1 : decode b_4_5 1 = .ok (.istore_n 2, 1) := by decide +kernel
theorem d4_5_2 : decode b_4_5 2 = .ok (.iload_n 2, 1) := by decide +kernel
theorem d4_5_3 : decode b_4_5 3 = .ok (.aload_n 1, 1) := by decide +kernel
theorem d4_5_4 : decode b_4_5 4 = .ok (.getfield 19, 3) := by decide +kernel
theorem d4_5_7 : decode b_4_5 7 = .ok (.if_icmp .ge 24, 3) := by decide +kernel
theorem d4_5_10 : decode b_4_5 10 = .ok (.aload_n 0, 1) := by decide +kernel
theorem d4_5_11 : decode b_4_5 11 = .ok (.aload_n 1, 1) := by decide +kernel
theorem d4_5_12 : decode b_4_5 12 = .ok (.getfield 25, 3) := by decide +kernel
theorem d4_5_15 : decode b_4_5 15 = .ok (.iload_n 2, 1) := by decide +kernel
theorem d4_5_16 : decode b_4_5 16 = .ok (.iaload, 1) := by decide +kernel
theorem d4_5_17 : decode b_4_5 17 = .ok (.invokevirtual 15, 3) := by decide +kernel
theorem d4_5_20 : decode b_4_5 20 = .ok (.ifCond .ne 5, 3) := by decide +kernel
theorem d4_5_23 : decode b_4_5 23 = .ok (.iload_n 2, 1) := by decide +kernel
theorem d4_5_24 : decode b_4_5 24 = .ok (.ireturn, 1) := by decide +kernel
theorem d4_5_25 : decode b_4_5 25 = .ok (.iinc 2 1, 3) := by decide +kernel
theorem d4_5_28 : decode b_4_5 28 = .ok (.goto (-26), 3) := by decide +kernel
theorem d4_5_31 : decode b_4_5 31 = .ok (.iconst (-1), 1) := by decide +kernel
theorem d4_5_32 : decode b_4_5 32 = .ok (.ireturn, 1) := by decide +kernel
theorem K4_5_17 {C : qCx} {G : jG} {mc ms : Nat} {p : Int → Int → jS → jH → Prop} {q : Int → Int → jS → jH → Int → jS → jH → Prop} (h : x4_5 C G) (hrm : C.2.2.2.1.frames = 2 ∧ C.2.2.2.1.locals = 47) (hM : M4_2 C.2.1 mc ms p q) : j_Call C b_4_5 n_KT G.1 G.2.1 3 (.invokevirtual 15) mc ms (fun a S V => ∃ u0 u1 : Int, a = [(2, u0), (0, u1)] ∧ S.1 u0 = 23 ∧ p u0 u1 S V) (fun a S V rs S' V' => ∃ u0 u1 r : Int, a = [(2, u0), (0, u1)] ∧ rs = [(0, r)] ∧ q u0 u1 S V r S' V') := j_callV n_NWk h.2.2.2.2.2 h.1 hM ⟨h.2.1.1, h.2.1.2, h.2.2.1, h.2.2.2.1, h.2.2.2.2.1⟩ ⟨n_CB (y := y_4_2) (bytes := b_4_2) 1 h.2.2.2.2.1 n_w379 n_w384 n_w8 ⟨by decide, by decide, by decide +kernel⟩ rfl rfl ⟨by rw [hrm.1]; exact Nat.le_of_ble_eq_true rfl, by rw [hrm.2]; exact Nat.le_of_ble_eq_true rfl⟩, h.2.2.2.2.1 _ n_w377, h.2.2.2.2.1 _ n_w378⟩ (Cn := RX2) (fun a S V hP => by obtain ⟨u0, u1, rfl, e, -⟩ := hP; exact ⟨u0, _, 2, _, _, TX2, 1, rfl, rfl, by rw [e]; decide, by rw [e]; rfl, rfl⟩)
theorem t4_5_0 {C : qCx} {G : jG} {S : jS} {V : jH} {nc ns : Nat} {l0 l1 : Int} (h : x4_5 C G)  (k : j_ok n_KT 3 C G 2 [(0, (2, l0)), (1, (2, l1)), (2, (0, 0))] [] S V nc ns) : j_ok n_KT 3 C G 0 [(0, (2, l0)), (1, (2, l1))] [] S V nc ns := by
  have E := n_E h
  refine j_iconst E d4_5_0 (by decide) ?_
  refine j_istore_n E d4_5_1 rfl (by decide) (lo1 := [(0, (2, l0)), (1, (2, l1))]) rfl ?_
  exact j_pick [1, 2, 0] rfl k
theorem t4_5_2 {C : qCx} {G : jG} {S : jS} {V : jH} {nc ns : Nat} {l0 l1 l2 : Int} (h : x4_5 C G) (c1 : S.1 l1 = 27) (k : V l1 1 ≤ l2 → j_ok n_KT 3 C G 31 [] [] S V nc ns) (k' : l2 < V l1 1 → j_ok n_KT 3 C G 10 [(0, (2, l0)), (1, (2, l1)), (2, (0, l2))] [] S V nc ns) : j_ok n_KT 3 C G 2 [(0, (2, l0)), (1, (2, l1)), (2, (0, l2))] [] S V nc ns := by
  have E := n_E h
  refine j_iload_n E d4_5_2 rfl 2 rfl ?_
  refine j_aload_n E d4_5_3 rfl 1 rfl ?_
  refine j_getI (f := 1) (fg2_19 h) d4_5_4 c1 (by decide) rfl rfl ?_
  exact j_icmp_ge E d4_5_7 (t := 31) rfl (fun q => j_pick [] rfl (k q)) (fun q => j_pick [0, 1, 2] rfl (k' q))
theorem t4_5_10 {C : qCx} {G : jG} {S : jS} {V : jH} {nc ns : Nat} {l0 l1 l2 : Int} {mc ms : Nat} {pp : Int → Int → jS → jH → Prop} {qq : Int → Int → jS → jH → Int → jS → jH → Prop} (h : x4_5 C G) (L : j_L S) (hrm : C.2.2.2.1.frames = 2 ∧ C.2.2.2.1.locals = 47) (c1 : S.1 l1 = 27) (c2 : 0 ≤ l2) (c3 : l2 < 400) (c4 : S.1 l0 = 23) (hM : M4_2 C.2.1 mc ms pp qq) (hp : pp l0 (V (l1 + 1) l2) S V) (hc : nc + mc ≤ C.2.2.2.1.cells) (hs : ns + ms ≤ C.2.2.2.1.slots) (k : ∀ (r : Int) (S' : jS) (V' : jH), qq l0 (V (l1 + 1) l2) S V r S' V' → j_ok n_KT 3 C G 20 [(0, (2, l0)), (1, (2, l1)), (2, (0, l2))] [(0, r)] S' V' (nc + mc) (ns + ms)) : j_ok n_KT 3 C G 10 [(0, (2, l0)), (1, (2, l1)), (2, (0, l2))] [] S V nc ns := by
  have E := n_E h
  refine j_aload_n E d4_5_10 rfl 0 rfl ?_
  refine j_aload_n E d4_5_11 rfl 1 rfl ?_
  refine j_getS (f := 0) (x := l1 + 1) (fg2_25 h) d4_5_12 c1 (by decide) rfl rfl ((L6_0 L c1).trans (by omega)) ?_
  refine j_iload_n E d4_5_15 rfl 2 rfl ?_
  refine j_iald E d4_5_16 (j_arr_of (show S.1 (l1 + 1) = 1 from (by have q := L6_0k L c1; rw [show l1 + 1 = l1 + 1 by omega]; exact q)) (by decide) rfl) c2 c3 ?_
  refine j_call E (K4_5_17 h hrm hM) d4_5_17 (a := [(2, l0), (0, V (l1 + 1) l2)]) (sk := []) rfl ⟨l0, V (l1 + 1) l2, rfl, c4, hp⟩ (Nat.le_of_ble_eq_true rfl) hc hs ?_
  rintro rs S' V' ⟨z0, z1, r, e1, rfl, q⟩
  simp only [List.cons.injEq, Prod.mk.injEq, and_true, true_and] at e1
  obtain ⟨rfl, rfl⟩ := e1
  exact j_pick [0, 1, 2] rfl (k r S' V' q)
theorem t4_5_20 {C : qCx} {G : jG} {S : jS} {V : jH} {nc ns : Nat} {l0 l1 l2 s0 : Int} (h : x4_5 C G)  (k : ¬ s0 = 0 → j_ok n_KT 3 C G 25 [(0, (2, l0)), (1, (2, l1)), (2, (0, l2))] [] S V nc ns) (k' : s0 = 0 → j_ok n_KT 3 C G 23 [(2, (0, l2))] [] S V nc ns) : j_ok n_KT 3 C G 20 [(0, (2, l0)), (1, (2, l1)), (2, (0, l2))] [(0, s0)] S V nc ns := by
  have E := n_E h
  exact j_if_ne E d4_5_20 (t := 25) rfl (fun q => j_pick [0, 1, 2] rfl (k q)) (fun q => j_pick [2] rfl (k' q))
theorem t4_5_23 {C : qCx} {G : jG} {S : jS} {V : jH} {nc ns : Nat} {l2 : Int} {mc ms : Nat} {qf : Int → jS → jH → Prop} (h : x4_5 C G)  (R : j_Ri n_KT 3 C G b_4_5 mc ms qf) (q : qf l2 S V) (hc : nc ≤ mc) (hs : ns ≤ ms) : j_ok n_KT 3 C G 23 [(2, (0, l2))] [] S V nc ns := by
  have E := n_E h
  refine j_iload_n E d4_5_23 rfl 0 rfl ?_
  exact R _ _ _ _ _ _ _ d4_5_24 q hc hs
theorem t4_5_25 {C : qCx} {G : jG} {S : jS} {V : jH} {nc ns : Nat} {l0 l1 l2 : Int} (h : x4_5 C G) (c1 : -2147483648 ≤ l2 + 1 ∧ l2 + 1 ≤ 2147483647) (k : j_ok n_KT 3 C G 2 [(0, (2, l0)), (1, (2, l1)), (2, (0, l2 + 1))] [] S V nc ns) : j_ok n_KT 3 C G 25 [(0, (2, l0)), (1, (2, l1)), (2, (0, l2))] [] S V nc ns := by
  have E := n_E h
  refine j_iinc E d4_5_25 (by decide) (by decide) 2 rfl (lo1 := [(0, (2, l0)), (1, (2, l1))]) rfl c1 ?_
  refine j_goto E d4_5_28 (t := 2) rfl ?_
  exact j_pick [1, 2, 0] rfl k
theorem t4_5_31 {C : qCx} {G : jG} {S : jS} {V : jH} {nc ns : Nat} {mc ms : Nat} {qf : Int → jS → jH → Prop} (h : x4_5 C G)  (R : j_Ri n_KT 3 C G b_4_5 mc ms qf) (q : qf ((-1)) S V) (hc : nc ≤ mc) (hs : ns ≤ ms) : j_ok n_KT 3 C G 31 [] [] S V nc ns := by
  have E := n_E h
  refine j_iconst E d4_5_31 (by decide) ?_
  exact R _ _ _ _ _ _ _ d4_5_32 q hc hs
/- BalanceCoder.foundMissing(I)I -/
abbrev b_1_28 : ByteArray := prog_1_method_28_code
def y_1_28 : MethodName := ⟨"BalanceCoder", "foundMissing", "(I)I"⟩
abbrev x1_28 (C : qCx) (G : jG) : Prop := n_ctx C b_1_28 2 "BalanceCoder" G.1 G.2.1
def M1_28 (l : Launch) (mc ms : Nat) (p : Int → Int → jS → jH → Prop) (q : Int → Int → jS → jH → Int → jS → jH → Prop) : Prop := j_Met l vwCl n_TL n_NW n_KT y_1_28 (Cond.code y_1_28 b_1_28 2 (some .int) :: n_GW) { frames := 2, cells := mc, slots := ms, locals := 47 } mc ms (fun a S V => ∃ u0 u1 : Int, a = [(2, u0), (0, u1)] ∧ S.1 u0 = 31 ∧ p u0 u1 S V) (fun a S V rs S' V' => ∃ u0 u1 r : Int, a = [(2, u0), (0, u1)] ∧ rs = [(0, r)] ∧ q u0 u1 S V r S' V')
theorem e1_28 {l : Launch} {mc ms : Nat} {p : Int → Int → jS → jH → Prop} {q : Int → Int → jS → jH → Int → jS → jH → Prop} (body : ∀ (C : qCx) (G : jG), x1_28 C G → C.2.2.2.1.frames = 2 ∧ C.2.2.2.1.locals = 47 → C.2.2.2.1.cells = mc ∧ C.2.2.2.1.slots = ms → C.2.1 = l → C.2.2.2.2.2.2.2.2.1.name = "foundMissing" → ∀ (u0 u1 : Int) (S : jS) (V : jH), S.1 u0 = 31 → p u0 u1 S V → j_Ri n_KT 2 C G b_1_28 mc ms (q u0 u1 S V) → j_ok n_KT 2 C G 0 [(0, (2, u0)), (1, (0, u1))] [] S V 0 0) : M1_28 l mc ms p q := by
  refine j_method (ws' := n_GW) (by decide) rfl ?_ ?_
  · rintro a S V ⟨u0, u1, rfl, -⟩
    exact Nat.le_of_ble_eq_true rfl
  · rintro C G htl hl hrm hm hml ho hts hnm hE a S V ⟨u0, u1, rfl, ht, hp⟩ R
    exact body C G ⟨htl, hm, hml, ho, fun w hw => hts w (List.mem_cons_of_mem _ hw), hE⟩ (by rw [hrm]; exact ⟨rfl, rfl⟩) (by rw [hrm]; exact ⟨rfl, rfl⟩) hl hnm u0 u1 S V ht hp (fun pc lo r S' V' nc ns d q hc hs => R.2.1 rfl pc lo r S' V' nc ns d ⟨u0, u1, r, rfl, rfl, q⟩ hc hs)
theorem d1_28_0 : decode b_1_28 0 = .ok (.aload_n 0, 1) := by decide +kernel
theorem d1_28_1 : decode b_1_28 1 = .ok (.getfield 10, 3) := by decide +kernel
theorem d1_28_4 : decode b_1_28 4 = .ok (.iload_n 1, 1) := by decide +kernel
theorem d1_28_5 : decode b_1_28 5 = .ok (.putfield 236, 3) := by decide +kernel
theorem d1_28_8 : decode b_1_28 8 = .ok (.aload_n 0, 1) := by decide +kernel
theorem d1_28_9 : decode b_1_28 9 = .ok (.bipush (-5), 2) := by decide +kernel
theorem d1_28_11 : decode b_1_28 11 = .ok (.invokevirtual 55, 3) := by decide +kernel
theorem d1_28_14 : decode b_1_28 14 = .ok (.ireturn, 1) := by decide +kernel
theorem K1_28_11 {C : qCx} {G : jG} {mc ms : Nat} {p : Int → Int → jS → jH → Prop} {q : Int → Int → jS → jH → Int → jS → jH → Prop} (h : x1_28 C G) (hrm : C.2.2.2.1.frames = 2 ∧ C.2.2.2.1.locals = 47) (hM : M1_27 C.2.1 mc ms p q) : j_Call C b_1_28 n_KT G.1 G.2.1 2 (.invokevirtual 55) mc ms (fun a S V => ∃ u0 u1 : Int, a = [(2, u0), (0, u1)] ∧ S.1 u0 = 31 ∧ p u0 u1 S V) (fun a S V rs S' V' => ∃ u0 u1 r : Int, a = [(2, u0), (0, u1)] ∧ rs = [(0, r)] ∧ q u0 u1 S V r S' V') := j_callV n_NWk h.2.2.2.2.2 h.1 hM ⟨h.2.1.1, h.2.1.2, h.2.2.1, h.2.2.2.1, h.2.2.2.2.1⟩ ⟨n_CB (y := y_1_27) (bytes := b_1_27) 1 h.2.2.2.2.1 n_w309 n_w306 n_w1 ⟨by decide, by decide, by decide +kernel⟩ rfl rfl ⟨by rw [hrm.1]; exact Nat.le_of_ble_eq_true rfl, by rw [hrm.2]; exact Nat.le_of_ble_eq_true rfl⟩, h.2.2.2.2.1 _ n_w308, h.2.2.2.2.1 _ n_s1⟩ (Cn := RX10) (fun a S V hP => by obtain ⟨u0, u1, rfl, e, -⟩ := hP; exact ⟨u0, _, 10, _, _, TX10, 8, rfl, rfl, by rw [e]; decide, by rw [e]; rfl, rfl⟩)
theorem t1_28_0 {C : qCx} {G : jG} {S : jS} {V : jH} {nc ns : Nat} {l0 l1 : Int} {mc ms : Nat} {pp : Int → Int → jS → jH → Prop} {qq : Int → Int → jS → jH → Int → jS → jH → Prop} (h : x1_28 C G) (L : j_L S) (hrm : C.2.2.2.1.frames = 2 ∧ C.2.2.2.1.locals = 47) (c1 : S.1 l0 = 31) (hM : M1_27 C.2.1 mc ms pp qq) (hp : pp l0 ((-5)) S (j_up V (l0 + 1) 4 l1)) (hc : nc + mc ≤ C.2.2.2.1.cells) (hs : ns + ms ≤ C.2.2.2.1.slots) (k : ∀ (r : Int) (S' : jS) (V' : jH), qq l0 ((-5)) S (j_up V (l0 + 1) 4 l1) r S' V' → j_ok n_KT 2 C G 14 [] [(0, r)] S' V' (nc + mc) (ns + ms)) : j_ok n_KT 2 C G 0 [(0, (2, l0)), (1, (0, l1))] [] S V nc ns := by
  have E := n_E h
  refine j_aload_n E d1_28_0 rfl 0 rfl ?_
  refine j_getS (f := 0) (x := l0 + 1) (fg10_10 h) d1_28_1 c1 (by decide) rfl rfl ((L10_0 L c1).trans (by omega)) ?_
  refine j_iload_n E d1_28_4 rfl 1 rfl ?_
  refine j_putI (f := 4) (fp10_236 h) (n_hap h 30 9 0 _ rfl) d1_28_5 (show S.1 (l0 + 1) = 30 from (by have q := L10_0k L c1; rw [show l0 + 1 = l0 + 1 by omega]; exact q)) (by decide) rfl rfl rfl ?_
  refine j_aload_n E d1_28_8 rfl 0 rfl ?_
  refine j_bipush E d1_28_9 (by decide) ?_
  refine j_call E (K1_28_11 h hrm hM) d1_28_11 (a := [(2, l0), (0, (-5))]) (sk := []) rfl ⟨l0, (-5), rfl, c1, hp⟩ (Nat.le_of_ble_eq_true rfl) hc hs ?_
  rintro rs S' V' ⟨z0, z1, r, e1, rfl, q⟩
  simp only [List.cons.injEq, Prod.mk.injEq, and_true, true_and] at e1
  obtain ⟨rfl, rfl⟩ := e1
  exact j_pick [] rfl (k r S' V' q)
theorem t1_28_14 {C : qCx} {G : jG} {S : jS} {V : jH} {nc ns : Nat} {s0 : Int} {mc ms : Nat} {qf : Int → jS → jH → Prop} (h : x1_28 C G)  (R : j_Ri n_KT 2 C G b_1_28 mc ms qf) (q : qf s0 S V) (hc : nc ≤ mc) (hs : ns ≤ ms) : j_ok n_KT 2 C G 14 [] [(0, s0)] S V nc ns := by
  have E := n_E h
  exact R _ _ _ _ _ _ _ d1_28_14 q hc hs
/- BalanceCoder$Dealer.sums()[I -/
abbrev b_5_10 : ByteArray := prog_5_method_10_code
def y_5_10 : MethodName := ⟨"BalanceCoder$Dealer", "sums", "()[I"⟩
abbrev x5_10 (C : qCx) (G : jG) : Prop := n_ctx C b_5_10 3 "BalanceCoder$Dealer" G.1 G.2.1
def M5_10 (l : Launch) (mc ms : Nat) (p : Int → jS → jH → Prop) (q : Int → jS → jH → Int → jS → jH → Prop) : Prop := j_Met l vwCl n_TL n_NW n_KT y_5_10 (Cond.code y_5_10 b_5_10 3 (some (.array .int)) :: n_GW) { frames := 1, cells := mc, slots := ms, locals := 26 } mc ms (fun a S V => ∃ u0 : Int, a = [(2, u0)] ∧ S.1 u0 = 24 ∧ p u0 S V) (fun a S V rs S' V' => ∃ u0 r : Int, a = [(2, u0)] ∧ rs = [(2, r)] ∧ q u0 S V r S' V')
theorem e5_10 {l : Launch} {mc ms : Nat} {p : Int → jS → jH → Prop} {q : Int → jS → jH → Int → jS → jH → Prop} (body : ∀ (C : qCx) (G : jG), x5_10 C G → C.2.2.2.1.frames = 1 ∧ C.2.2.2.1.locals = 26 → C.2.2.2.1.cells = mc ∧ C.2.2.2.1.slots = ms → C.2.1 = l → C.2.2.2.2.2.2.2.2.1.name = "sums" → ∀ (u0 : Int) (S : jS) (V : jH), S.1 u0 = 24 → p u0 S V → j_Rr n_KT 3 C G b_5_10 mc ms (q u0 S V) → j_ok n_KT 3 C G 0 [(0, (2, u0))] [] S V 0 0) : M5_10 l mc ms p q := by
  refine j_method (ws' := n_GW) (by decide) rfl ?_ ?_
  · rintro a S V ⟨u0, rfl, -⟩
    exact Nat.le_of_ble_eq_true rfl
  · rintro C G htl hl hrm hm hml ho hts hnm hE a S V ⟨u0, rfl, ht, hp⟩ R
    exact body C G ⟨htl, hm, hml, ho, fun w hw => hts w (List.mem_cons_of_mem _ hw), hE⟩ (by rw [hrm]; exact ⟨rfl, rfl⟩) (by rw [hrm]; exact ⟨rfl, rfl⟩) hl hnm u0 S V ht hp (fun pc lo r S' V' nc ns d q hc hs => R.2.2.2.2 (Or.inr ⟨_, rfl⟩) pc lo r S' V' nc ns d ⟨u0, r, rfl, rfl, q⟩ hc hs)
theorem d5_10_0 : decode b_5_10 0 = .ok (.aload_n 0, 1) := by decide +kernel
theorem d5_10_1 : decode b_5_10 1 = .ok (.getfield 22, 3) := by decide +kernel
theorem d5_10_4 : decode b_5_10 4 = .ok (.ifnonnull 48, 3) := by decide +kernel
theorem d5_10_7 : decode b_5_10 7 = .ok (.sipush 4096, 3) := by decide +kernel
theorem d5_10_10 : decode b_5_10 10 = .ok (.istore_n 1, 1) := by decide +kernel
theorem d5_10_11 : decode b_5_10 11 = .ok (.aload_n 0, 1) := by decide +kernel
theorem d5_10_12 : decode b_5_10 12 = .ok (.iload_n 1, 1) := by decide +kernel
theorem d5_10_13 : decode b_5_10 13 = .ok (.iconst 1, 1) := by decide +kernel
theorem d5_10_14 : decode b_5_10 14 = .ok (.iadd, 1) := by decide +kernel
theorem d5_10_15 : decode b_5_10 15 = .ok (.newarray .int, 2) := by decide +kernel
theorem d5_10_17 : decode b_5_10 17 = .ok (.putfield 22, 3) := by decide +kernel
theorem d5_10_20 : decode b_5_10 20 = .ok (.iconst 1, 1) := by decide +kernel
theorem d5_10_21 : decode b_5_10 21 = .ok (.istore_n 2, 1) := by decide +kernel
theorem d5_10_22 : decode b_5_10 22 = .ok (.iload_n 2, 1) := by decide +kernel
theorem d5_10_23 : decode b_5_10 23 = .ok (.iload_n 1, 1) := by decide +kernel
theorem d5_10_24 : decode b_5_10 24 = .ok (.if_icmp .ge 28, 3) := by decide +kernel
theorem d5_10_27 : decode b_5_10 27 = .ok (.aload_n 0, 1) := by decide +kernel
theorem d5_10_28 : decode b_5_10 28 = .ok (.getfield 22, 3) := by decide +kernel
theorem d5_10_31 : decode b_5_10 31 = .ok (.iload_n 2, 1) := by decide +kernel
theorem d5_10_32 : decode b_5_10 32 = .ok (.iconst 1, 1) := by decide +kernel
theorem d5_10_33 : decode b_5_10 33 = .ok (.iadd, 1) := by decide +kernel
theorem d5_10_34 : decode b_5_10 34 = .ok (.aload_n 0, 1) := by decide +kernel
theorem d5_10_35 : decode b_5_10 35 = .ok (.getfield 22, 3) := by decide +kernel
theorem d5_10_38 : decode b_5_10 38 = .ok (.iload_n 2, 1) := by decide +kernel
theorem d5_10_39 : decode b_5_10 39 = .ok (.iaload, 1) := by decide +kernel
theorem d5_10_40 : decode b_5_10 40 = .ok (.ldc 107, 2) := by decide +kernel
theorem d5_10_42 : decode b_5_10 42 = .ok (.iload_n 2, 1) := by decide +kernel
theorem d5_10_43 : decode b_5_10 43 = .ok (.idiv, 1) := by decide +kernel
theorem d5_10_44 : decode b_5_10 44 = .ok (.iadd, 1) := by decide +kernel
theorem d5_10_45 : decode b_5_10 45 = .ok (.iastore, 1) := by decide +kernel
theorem d5_10_46 : decode b_5_10 46 = .ok (.iinc 2 1, 3) := by decide +kernel
theorem d5_10_49 : decode b_5_10 49 = .ok (.goto (-27), 3) := by decide +kernel
theorem d5_10_52 : decode b_5_10 52 = .ok (.aload_n 0, 1) := by decide +kernel
theorem d5_10_53 : decode b_5_10 53 = .ok (.getfield 22, 3) := by decide +kernel
theorem d5_10_56 : decode b_5_10 56 = .ok (.areturn, 1) := by decide +kernel
theorem t5_10_0 {C : qCx} {G : jG} {S : jS} {V : jH} {nc ns : Nat} {l0 : Int} (h : x5_10 C G) (c1 : S.1 l0 = 24) (k : 0 ≤ S.2 l0 3 → S.1 (S.2 l0 3) ≠ 0 → j_ok n_KT 3 C G 52 [(0, (2, l0))] [] S V nc ns) (k' : S.2 l0 3 = -1 → j_ok n_KT 3 C G 7 [(0, (2, l0))] [] S V nc ns) : j_ok n_KT 3 C G 0 [(0, (2, l0))] [] S V nc ns := by
  have E := n_E h
  refine j_aload_n E d5_10_0 rfl 0 rfl ?_
  refine j_getR (f := 3) (fg3_22 h) d5_10_1 c1 (by decide) rfl rfl ?_
  exact j_ifnonnull E d5_10_4 (t := 52) rfl (fun q q2 => j_pick [0] rfl (k q q2)) (fun q => j_pick [0] rfl (k' q))
theorem t5_10_7 {C : qCx} {G : jG} {S : jS} {V : jH} {nc ns : Nat} {l0 a1 : Int} (h : x5_10 C G) (c1 : 0 ≤ a1) (c2 : S.1 a1 = 0) (c3 : nc + 1 ≤ C.2.2.2.1.cells) (c4 : ns + 4097 ≤ C.2.2.2.1.slots) (c5 : (j_ns S a1 7).1 l0 = 24) (k : j_ok n_KT 3 C G 22 [(0, (2, l0)), (1, (0, 4096)), (2, (0, 1))] [] (j_sp (j_ns S a1 7) l0 3 a1) (j_nv V a1) (nc + 1) (ns + 4097)) : j_ok n_KT 3 C G 7 [(0, (2, l0))] [] S V nc ns := by
  have E := n_E h
  refine j_sipush E d5_10_7 (by decide) ?_
  refine j_istore_n E d5_10_10 rfl (by decide) (lo1 := [(0, (2, l0))]) rfl ?_
  refine j_aload_n E d5_10_11 rfl 1 rfl ?_
  refine j_iload_n E d5_10_12 rfl 0 rfl ?_
  refine j_iconst E d5_10_13 (by decide) ?_
  refine j_iadd E d5_10_14 (by decide) ?_
  show j_ok n_KT 3 C G 15 [(1, (0, 4096)), (0, (2, l0))] [(0, 4097), (2, l0)] S V nc ns
  obtain ⟨cA1, hA1, hB1⟩ := fa_int h
  refine j_newarray (n := 4097) (k := 7) E hA1 hB1 d5_10_15 a1 c1 c2 (by decide) rfl rfl rfl rfl (by decide) c3 c4 ?_
  refine j_putR (f := 3) (fp3_22 h) (n_hap h 24 3 0 _ rfl) d5_10_17 c5 (by decide) rfl rfl rfl (by decide) (Or.inr (j_nsa _ _ _)) ?_
  refine j_iconst E d5_10_20 (by decide) ?_
  refine j_istore_n E d5_10_21 rfl (by decide) (lo1 := [(1, (0, 4096)), (0, (2, l0))]) rfl ?_
  exact j_pick [2, 1, 0] rfl k
theorem t5_10_22 {C : qCx} {G : jG} {S : jS} {V : jH} {nc ns : Nat} {l0 l1 l2 : Int} (h : x5_10 C G)  (k : l1 ≤ l2 → j_ok n_KT 3 C G 52 [(0, (2, l0))] [] S V nc ns) (k' : l2 < l1 → j_ok n_KT 3 C G 27 [(0, (2, l0)), (1, (0, l1)), (2, (0, l2))] [] S V nc ns) : j_ok n_KT 3 C G 22 [(0, (2, l0)), (1, (0, l1)), (2, (0, l2))] [] S V nc ns := by
  have E := n_E h
  refine j_iload_n E d5_10_22 rfl 2 rfl ?_
  refine j_iload_n E d5_10_23 rfl 1 rfl ?_
  exact j_icmp_ge E d5_10_24 (t := 52) rfl (fun q => j_pick [0] rfl (k q)) (fun q => j_pick [0, 1, 2] rfl (k' q))
theorem t5_10_27 {C : qCx} {G : jG} {S : jS} {V : jH} {nc ns : Nat} {l0 l1 l2 : Int} {n_S2l03 : Nat} (h : x5_10 C G) (c1 : S.1 l0 = 24) (c2 : -2147483648 ≤ l2 + 1 ∧ l2 + 1 ≤ 2147483647) (c3 : j_arr S (S.2 l0 3) n_S2l03) (c4 : 0 ≤ l2) (c5 : l2 < (n_S2l03 : Int)) (c6 : 1 ≤ l2) (c7 : -2147483648 ≤ (V (S.2 l0 3) l2) + (1000000 / l2) ∧ (V (S.2 l0 3) l2) + (1000000 / l2) ≤ 2147483647) (c8 : 0 ≤ l2 + 1) (c9 : l2 + 1 < (n_S2l03 : Int)) (k : j_ok n_KT 3 C G 22 [(0, (2, l0)), (1, (0, l1)), (2, (0, l2 + 1))] [] S (j_up V (S.2 l0 3) (l2 + 1) ((V (S.2 l0 3) l2) + (1000000 / l2))) nc ns) : j_ok n_KT 3 C G 27 [(0, (2, l0)), (1, (0, l1)), (2, (0, l2))] [] S V nc ns := by
  have E := n_E h
  refine j_aload_n E d5_10_27 rfl 0 rfl ?_
  refine j_getR (f := 3) (fg3_22 h) d5_10_28 c1 (by decide) rfl rfl ?_
  refine j_iload_n E d5_10_31 rfl 2 rfl ?_
  refine j_iconst E d5_10_32 (by decide) ?_
  refine j_iadd E d5_10_33 c2 ?_
  refine j_aload_n E d5_10_34 rfl 0 rfl ?_
  refine j_getR (f := 3) (fg3_22 h) d5_10_35 c1 (by decide) rfl rfl ?_
  refine j_iload_n E d5_10_38 rfl 2 rfl ?_
  refine j_iald E d5_10_39 c3 c4 c5 ?_
  refine j_ldc (n := 1000000) (fk3_107 h) rfl d5_10_40 ?_
  refine j_iload_n E d5_10_42 rfl 2 rfl ?_
  refine j_idiv E d5_10_43 (by decide) c6 ?_
  refine j_iadd E d5_10_44 c7 ?_
  refine j_iast E d5_10_45 c3 c8 c9 ?_
  refine j_iinc E d5_10_46 (by decide) (by decide) 2 rfl (lo1 := [(0, (2, l0)), (1, (0, l1))]) rfl c2 ?_
  refine j_goto E d5_10_49 (t := 22) rfl ?_
  exact j_pick [1, 2, 0] rfl k
theorem t5_10_52 {C : qCx} {G : jG} {S : jS} {V : jH} {nc ns : Nat} {l0 : Int} {mc ms : Nat} {qf : Int → jS → jH → Prop} (h : x5_10 C G) (c1 : S.1 l0 = 24) (R : j_Rr n_KT 3 C G b_5_10 mc ms qf) (q : qf (S.2 l0 3) S V) (hc : nc ≤ mc) (hs : ns ≤ ms) : j_ok n_KT 3 C G 52 [(0, (2, l0))] [] S V nc ns := by
  have E := n_E h
  refine j_aload_n E d5_10_52 rfl 0 rfl ?_
  refine j_getR (f := 3) (fg3_22 h) d5_10_53 c1 (by decide) rfl rfl ?_
  exact R _ _ _ _ _ _ _ d5_10_56 q hc hs
/- BalanceCoder$Dealer.costOf(LBalanceCoder$Deal;ILBalanceCoder$Row;)J -/
abbrev b_5_9 : ByteArray := prog_5_method_9_code
def y_5_9 : MethodName := ⟨"BalanceCoder$Dealer", "costOf", "(LBalanceCoder$Deal;ILBalanceCoder$Row;)J"⟩
abbrev x5_9 (C : qCx) (G : jG) : Prop := n_ctx C b_5_9 8 "BalanceCoder$Dealer" G.1 G.2.1
def M5_9 (l : Launch) (mc ms : Nat) (p : Int → Int → Int → Int → jS → jH → Prop) (q : Int → Int → Int → Int → jS → jH → Int → jS → jH → Prop) : Prop := j_Met l vwCl n_TL n_NW n_KT y_5_9 (Cond.code y_5_9 b_5_9 8 (some .long) :: n_GW) { frames := 2, cells := mc, slots := ms, locals := 48 } mc ms (fun a S V => ∃ u0 u1 u2 u3 : Int, a = [(2, u0), (2, u1), (0, u2), (2, u3)] ∧ S.1 u0 = 24 ∧ p u0 u1 u2 u3 S V) (fun a S V rs S' V' => ∃ u0 u1 u2 u3 r : Int, a = [(2, u0), (2, u1), (0, u2), (2, u3)] ∧ rs = [(1, r)] ∧ q u0 u1 u2 u3 S V r S' V')
theorem e5_9 {l : Launch} {mc ms : Nat} {p : Int → Int → Int → Int → jS → jH → Prop} {q : Int → Int → Int → Int → jS → jH → Int → jS → jH → Prop} (body : ∀ (C : qCx) (G : jG), x5_9 C G → C.2.2.2.1.frames = 2 ∧ C.2.2.2.1.locals = 48 → C.2.2.2.1.cells = mc ∧ C.2.2.2.1.slots = ms → C.2.1 = l → C.2.2.2.2.2.2.2.2.1.name = "costOf" → ∀ (u0 u1 u2 u3 : Int) (S : jS) (V : jH), S.1 u0 = 24 → p u0 u1 u2 u3 S V → j_Rl n_KT 8 C G b_5_9 mc ms (q u0 u1 u2 u3 S V) → j_ok n_KT 8 C G 0 [(0, (2, u0)), (1, (2, u1)), (2, (0, u2)), (3, (2, u3))] [] S V 0 0) : M5_9 l mc ms p q := by
  refine j_method (ws' := n_GW) (by decide) rfl ?_ ?_
  · rintro a S V ⟨u0, u1, u2, u3, rfl, -⟩
    exact Nat.le_of_ble_eq_true rfl
  · rintro C G htl hl hrm hm hml ho hts hnm hE a S V ⟨u0, u1, u2, u3, rfl, ht, hp⟩ R
    exact body C G ⟨htl, hm, hml, ho, fun w hw => hts w (List.mem_cons_of_mem _ hw), hE⟩ (by rw [hrm]; exact ⟨rfl, rfl⟩) (by rw [hrm]; exact ⟨rfl, rfl⟩) hl hnm u0 u1 u2 u3 S V ht hp (fun pc lo r S' V' nc ns d q hc hs => R.2.2.2.1 rfl pc lo r S' V' nc ns d ⟨u0, u1, u2, u3, r, rfl, rfl, q⟩ hc hs)
theorem d5_9_0 : decode b_5_9 0 = .ok (.aload_n 0, 1) := by decide +kernel
theorem d5_9_1 : decode b_5_9 1 = .ok (.invokevirtual 108, 3) := by decide +kernel
theorem d5_9_4 : decode b_5_9 4 = .ok (.astore 4, 2) := by decide +kernel
theorem d5_9_6 : decode b_5_9 6 = .ok (.lconst 0, 1) := by decide +kernel
theorem d5_9_7 : decode b_5_9 7 = .ok (.lstore 5, 2) := by decide +kernel
theorem d5_9_9 : decode b_5_9 9 = .ok (.iconst 0, 1) := by decide +kernel
theorem d5_9_10 : decode b_5_9 10 = .ok (.istore 7, 2) := by decide +kernel
theorem d5_9_12 : decode b_5_9 12 = .ok (.iload 7, 2) := by decide +kernel
theorem d5_9_14 : decode b_5_9 14 = .ok (.aload_n 3, 1) := by decide +kernel
theorem d5_9_15 : decode b_5_9 15 = .ok (.getfield 55, 3) := by decide +kernel
theorem d5_9_18 : decode b_5_9 18 = .ok (.if_icmp .ge 34, 3) := by decide +kernel
theorem d5_9_21 : decode b_5_9 21 = .ok (.lload 5, 2) := by decide +kernel
theorem d5_9_23 : decode b_5_9 23 = .ok (.aload 4, 2) := by decide +kernel
theorem d5_9_25 : decode b_5_9 25 = .ok (.iload_n 2, 1) := by decide +kernel
theorem d5_9_26 : decode b_5_9 26 = .ok (.iaload, 1) := by decide +kernel
theorem d5_9_27 : decode b_5_9 27 = .ok (.aload 4, 2) := by decide +kernel
theorem d5_9_29 : decode b_5_9 29 = .ok (.aload_n 1, 1) := by decide +kernel
theorem d5_9_30 : decode b_5_9 30 = .ok (.aload_n 3, 1) := by decide +kernel
theorem d5_9_31 : decode b_5_9 31 = .ok (.getfield 60, 3) := by decide +kernel
theorem d5_9_34 : decode b_5_9 34 = .ok (.iload 7, 2) := by decide +kernel
theorem d5_9_36 : decode b_5_9 36 = .ok (.iaload, 1) := by decide +kernel
theorem d5_9_37 : decode b_5_9 37 = .ok (.invokevirtual 112, 3) := by decide +kernel
theorem d5_9_40 : decode b_5_9 40 = .ok (.iaload, 1) := by decide +kernel
theorem d5_9_41 : decode b_5_9 41 = .ok (.isub, 1) := by decide +kernel
theorem d5_9_42 : decode b_5_9 42 = .ok (.i2l, 1) := by decide +kernel
theorem d5_9_43 : decode b_5_9 43 = .ok (.ladd, 1) := by decide +kernel
theorem d5_9_44 : decode b_5_9 44 = .ok (.lstore 5, 2) := by decide +kernel
theorem d5_9_46 : decode b_5_9 46 = .ok (.iinc 7 1, 3) := by decide +kernel
theorem d5_9_49 : decode b_5_9 49 = .ok (.goto (-37), 3) := by decide +kernel
theorem d5_9_52 : decode b_5_9 52 = .ok (.lload 5, 2) := by decide +kernel
theorem d5_9_54 : decode b_5_9 54 = .ok (.lreturn, 1) := by decide +kernel
theorem K5_9_1 {C : qCx} {G : jG} {mc ms : Nat} {p : Int → jS → jH → Prop} {q : Int → jS → jH → Int → jS → jH → Prop} (h : x5_9 C G) (hrm : C.2.2.2.1.frames = 2 ∧ C.2.2.2.1.locals = 48) (hM : M5_10 C.2.1 mc ms p q) : j_Call C b_5_9 n_KT G.1 G.2.1 8 (.invokevirtual 108) mc ms (fun a S V => ∃ u0 : Int, a = [(2, u0)] ∧ S.1 u0 = 24 ∧ p u0 S V) (fun a S V rs S' V' => ∃ u0 r : Int, a = [(2, u0)] ∧ rs = [(2, r)] ∧ q u0 S V r S' V') := j_callV n_NWk h.2.2.2.2.2 h.1 hM ⟨h.2.1.1, h.2.1.2, h.2.2.1, h.2.2.2.1, h.2.2.2.2.1⟩ ⟨n_CB (y := y_5_10) (bytes := b_5_10) 0 h.2.2.2.2.1 n_w485 n_w482 n_w10 ⟨by decide, by decide, by decide +kernel⟩ rfl rfl ⟨by rw [hrm.1]; exact Nat.le_of_ble_eq_true rfl, by rw [hrm.2]; exact Nat.le_of_ble_eq_true rfl⟩, h.2.2.2.2.1 _ n_w484, h.2.2.2.2.1 _ n_s11⟩ (Cn := RX3) (fun a S V hP => by obtain ⟨u0, rfl, e, -⟩ := hP; exact ⟨u0, _, 3, _, _, TX3, 4, rfl, rfl, by rw [e]; decide, by rw [e]; rfl, rfl⟩)
theorem K5_9_37 {C : qCx} {G : jG} {mc ms : Nat} {p : Int → Int → jS → jH → Prop} {q : Int → Int → jS → jH → Int → jS → jH → Prop} (h : x5_9 C G) (hrm : C.2.2.2.1.frames = 2 ∧ C.2.2.2.1.locals = 48) (hM : M4_2 C.2.1 mc ms p q) : j_Call C b_5_9 n_KT G.1 G.2.1 8 (.invokevirtual 112) mc ms (fun a S V => ∃ u0 u1 : Int, a = [(2, u0), (0, u1)] ∧ S.1 u0 = 23 ∧ p u0 u1 S V) (fun a S V rs S' V' => ∃ u0 u1 r : Int, a = [(2, u0), (0, u1)] ∧ rs = [(0, r)] ∧ q u0 u1 S V r S' V') := j_callV n_NWk h.2.2.2.2.2 h.1 hM ⟨h.2.1.1, h.2.1.2, h.2.2.1, h.2.2.2.1, h.2.2.2.2.1⟩ ⟨n_CB (y := y_4_2) (bytes := b_4_2) 1 h.2.2.2.2.1 n_w379 n_w486 n_w8 ⟨by decide, by decide, by decide +kernel⟩ rfl rfl ⟨by rw [hrm.1]; exact Nat.le_of_ble_eq_true rfl, by rw [hrm.2]; exact Nat.le_of_ble_eq_true rfl⟩, h.2.2.2.2.1 _ n_w377, h.2.2.2.2.1 _ n_w378⟩ (Cn := RX2) (fun a S V hP => by obtain ⟨u0, u1, rfl, e, -⟩ := hP; exact ⟨u0, _, 2, _, _, TX2, 1, rfl, rfl, by rw [e]; decide, by rw [e]; rfl, rfl⟩)
theorem t5_9_0 {C : qCx} {G : jG} {S : jS} {V : jH} {nc ns : Nat} {l0 l1 l2 l3 : Int} {mc ms : Nat} {pp : Int → jS → jH → Prop} {qq : Int → jS → jH → Int → jS → jH → Prop} (h : x5_9 C G) (hrm : C.2.2.2.1.frames = 2 ∧ C.2.2.2.1.locals = 48) (c1 : S.1 l0 = 24) (hM : M5_10 C.2.1 mc ms pp qq) (hp : pp l0 S V) (hc : nc + mc ≤ C.2.2.2.1.cells) (hs : ns + ms ≤ C.2.2.2.1.slots) (k : ∀ (r : Int) (S' : jS) (V' : jH), qq l0 S V r S' V' → j_ok n_KT 8 C G 4 [(1, (2, l1)), (2, (0, l2)), (3, (2, l3))] [(2, r)] S' V' (nc + mc) (ns + ms)) : j_ok n_KT 8 C G 0 [(0, (2, l0)), (1, (2, l1)), (2, (0, l2)), (3, (2, l3))] [] S V nc ns := by
  have E := n_E h
  refine j_aload_n E d5_9_0 rfl 0 rfl ?_
  refine j_call E (K5_9_1 h hrm hM) d5_9_1 (a := [(2, l0)]) (sk := []) rfl ⟨l0, rfl, c1, hp⟩ (Nat.le_of_ble_eq_true rfl) hc hs ?_
  rintro rs S' V' ⟨z0, r, e1, rfl, q⟩
  simp only [List.cons.injEq, Prod.mk.injEq, and_true, true_and] at e1
  obtain ⟨rfl⟩ := e1
  exact j_pick [1, 2, 3] rfl (k r S' V' q)
theorem t5_9_4 {C : qCx} {G : jG} {S : jS} {V : jH} {nc ns : Nat} {l1 l2 l3 s0 : Int} (h : x5_9 C G)  (k : j_ok n_KT 8 C G 12 [(1, (2, l1)), (2, (0, l2)), (3, (2, l3)), (4, (2, s0)), (5, (1, 0)), (7, (0, 0))] [] S V nc ns) : j_ok n_KT 8 C G 4 [(1, (2, l1)), (2, (0, l2)), (3, (2, l3))] [(2, s0)] S V nc ns := by
  have E := n_E h
  refine j_astore E d5_9_4 (by decide) (lo1 := [(1, (2, l1)), (2, (0, l2)), (3, (2, l3))]) rfl ?_
  refine j_lconst E d5_9_6 ?_
  refine j_lstore E d5_9_7 (by decide) (lo1 := [(4, (2, s0)), (1, (2, l1)), (2, (0, l2)), (3, (2, l3))]) rfl ?_
  refine j_iconst E d5_9_9 (by decide) ?_
  refine j_istore E d5_9_10 (by decide) (lo1 := [(5, (1, 0)), (4, (2, s0)), (1, (2, l1)), (2, (0, l2)), (3, (2, l3))]) rfl ?_
  exact j_pick [3, 4, 5, 2, 1, 0] rfl k
theorem t5_9_12 {C : qCx} {G : jG} {S : jS} {V : jH} {nc ns : Nat} {l1 l2 l3 l4 l5 l7 : Int} (h : x5_9 C G) (c1 : S.1 l3 = 27) (k : V l3 1 ≤ l7 → j_ok n_KT 8 C G 52 [(5, (1, l5))] [] S V nc ns) (k' : l7 < V l3 1 → j_ok n_KT 8 C G 21 [(1, (2, l1)), (2, (0, l2)), (3, (2, l3)), (4, (2, l4)), (5, (1, l5)), (7, (0, l7))] [] S V nc ns) : j_ok n_KT 8 C G 12 [(1, (2, l1)), (2, (0, l2)), (3, (2, l3)), (4, (2, l4)), (5, (1, l5)), (7, (0, l7))] [] S V nc ns := by
  have E := n_E h
  refine j_iload E d5_9_12 5 rfl ?_
  refine j_aload_n E d5_9_14 rfl 2 rfl ?_
  refine j_getI (f := 1) (fg3_55 h) d5_9_15 c1 (by decide) rfl rfl ?_
  exact j_icmp_ge E d5_9_18 (t := 52) rfl (fun q => j_pick [4] rfl (k q)) (fun q => j_pick [0, 1, 2, 3, 4, 5] rfl (k' q))
theorem t5_9_21 {C : qCx} {G : jG} {S : jS} {V : jH} {nc ns : Nat} {l1 l2 l3 l4 l5 l7 : Int} {n_l4 : Nat} {mc ms : Nat} {pp : Int → Int → jS → jH → Prop} {qq : Int → Int → jS → jH → Int → jS → jH → Prop} (h : x5_9 C G) (L : j_L S) (hrm : C.2.2.2.1.frames = 2 ∧ C.2.2.2.1.locals = 48) (c1 : j_arr S l4 n_l4) (c2 : 0 ≤ l2) (c3 : l2 < (n_l4 : Int)) (c4 : S.1 l3 = 27) (c5 : 0 ≤ l7) (c6 : l7 < 400) (c7 : S.1 l1 = 23) (hM : M4_2 C.2.1 mc ms pp qq) (hp : pp l1 (V (l3 + 1) l7) S V) (hc : nc + mc ≤ C.2.2.2.1.cells) (hs : ns + ms ≤ C.2.2.2.1.slots) (k : ∀ (r : Int) (S' : jS) (V' : jH), qq l1 (V (l3 + 1) l7) S V r S' V' → j_ok n_KT 8 C G 40 [(1, (2, l1)), (2, (0, l2)), (3, (2, l3)), (4, (2, l4)), (7, (0, l7))] [(0, r), (2, l4), (0, V l4 l2), (1, l5)] S' V' (nc + mc) (ns + ms)) : j_ok n_KT 8 C G 21 [(1, (2, l1)), (2, (0, l2)), (3, (2, l3)), (4, (2, l4)), (5, (1, l5)), (7, (0, l7))] [] S V nc ns := by
  have E := n_E h
  refine j_lload E d5_9_21 4 rfl ?_
  refine j_aload E d5_9_23 3 rfl ?_
  refine j_iload_n E d5_9_25 rfl 1 rfl ?_
  refine j_iald E d5_9_26 c1 c2 c3 ?_
  refine j_aload E d5_9_27 3 rfl ?_
  refine j_aload_n E d5_9_29 rfl 0 rfl ?_
  refine j_aload_n E d5_9_30 rfl 2 rfl ?_
  refine j_getS (f := 0) (x := l3 + 1) (fg3_60 h) d5_9_31 c4 (by decide) rfl rfl ((L6_0 L c4).trans (by omega)) ?_
  refine j_iload E d5_9_34 5 rfl ?_
  refine j_iald E d5_9_36 (j_arr_of (show S.1 (l3 + 1) = 1 from (by have q := L6_0k L c4; rw [show l3 + 1 = l3 + 1 by omega]; exact q)) (by decide) rfl) c5 c6 ?_
  refine j_call E (K5_9_37 h hrm hM) d5_9_37 (a := [(2, l1), (0, V (l3 + 1) l7)]) (sk := [(2, l4), (0, V l4 l2), (1, l5)]) rfl ⟨l1, V (l3 + 1) l7, rfl, c7, hp⟩ (Nat.le_of_ble_eq_true rfl) hc hs ?_
  rintro rs S' V' ⟨z0, z1, r, e1, rfl, q⟩
  simp only [List.cons.injEq, Prod.mk.injEq, and_true, true_and] at e1
  obtain ⟨rfl, rfl⟩ := e1
  exact j_pick [0, 1, 2, 3, 5] rfl (k r S' V' q)
theorem t5_9_40 {C : qCx} {G : jG} {S : jS} {V : jH} {nc ns : Nat} {l1 l2 l3 l4 l7 s0 s1 s2 s3 : Int} {n_s1 : Nat} (h : x5_9 C G) (c1 : j_arr S s1 n_s1) (c2 : 0 ≤ s0) (c3 : s0 < (n_s1 : Int)) (c4 : -2147483648 ≤ s2 - (V s1 s0) ∧ s2 - (V s1 s0) ≤ 2147483647) (c5 : -9223372036854775808 ≤ s3 + (s2 - (V s1 s0)) ∧ s3 + (s2 - (V s1 s0)) ≤ 9223372036854775807) (c6 : -2147483648 ≤ l7 + 1 ∧ l7 + 1 ≤ 2147483647) (k : j_ok n_KT 8 C G 12 [(1, (2, l1)), (2, (0, l2)), (3, (2, l3)), (4, (2, l4)), (5, (1, s3 + (s2 - (V s1 s0)))), (7, (0, l7 + 1))] [] S V nc ns) : j_ok n_KT 8 C G 40 [(1, (2, l1)), (2, (0, l2)), (3, (2, l3)), (4, (2, l4)), (7, (0, l7))] [(0, s0), (2, s1), (0, s2), (1, s3)] S V nc ns := by
  have E := n_E h
  refine j_iald E d5_9_40 c1 c2 c3 ?_
  refine j_isub E d5_9_41 c4 ?_
  refine j_i2l E d5_9_42 ?_
  refine j_ladd E d5_9_43 c5 ?_
  refine j_lstore E d5_9_44 (by decide) (lo1 := [(1, (2, l1)), (2, (0, l2)), (3, (2, l3)), (4, (2, l4)), (7, (0, l7))]) rfl ?_
  refine j_iinc E d5_9_46 (by decide) (by decide) 5 rfl (lo1 := [(5, (1, s3 + (s2 - (V s1 s0)))), (1, (2, l1)), (2, (0, l2)), (3, (2, l3)), (4, (2, l4))]) rfl c6 ?_
  refine j_goto E d5_9_49 (t := 12) rfl ?_
  exact j_pick [2, 3, 4, 5, 1, 0] rfl k
theorem t5_9_52 {C : qCx} {G : jG} {S : jS} {V : jH} {nc ns : Nat} {l5 : Int} {mc ms : Nat} {qf : Int → jS → jH → Prop} (h : x5_9 C G)  (R : j_Rl n_KT 8 C G b_5_9 mc ms qf) (q : qf l5 S V) (hc : nc ≤ mc) (hs : ns ≤ ms) : j_ok n_KT 8 C G 52 [(5, (1, l5))] [] S V nc ns := by
  have E := n_E h
  refine j_lload E d5_9_52 0 rfl ?_
  exact R _ _ _ _ _ _ _ d5_9_54 q hc hs
/- BalanceCoder.cost(III)J -/
abbrev b_1_10 : ByteArray := prog_1_method_10_code
def y_1_10 : MethodName := ⟨"BalanceCoder", "cost", "(III)J"⟩
abbrev x1_10 (C : qCx) (G : jG) : Prop := n_ctx C b_1_10 8 "BalanceCoder" G.1 G.2.1
def M1_10 (l : Launch) (mc ms : Nat) (p : Int → Int → Int → Int → jS → jH → Prop) (q : Int → Int → Int → Int → jS → jH → Int → jS → jH → Prop) : Prop := j_Met l vwCl n_TL n_NW n_KT y_1_10 (Cond.code y_1_10 b_1_10 8 (some .long) :: n_GW) { frames := 3, cells := mc, slots := ms, locals := 75 } mc ms (fun a S V => ∃ u0 u1 u2 u3 : Int, a = [(2, u0), (0, u1), (0, u2), (0, u3)] ∧ S.1 u0 = 31 ∧ p u0 u1 u2 u3 S V) (fun a S V rs S' V' => ∃ u0 u1 u2 u3 r : Int, a = [(2, u0), (0, u1), (0, u2), (0, u3)] ∧ rs = [(1, r)] ∧ q u0 u1 u2 u3 S V r S' V')
theorem e1_10 {l : Launch} {mc ms : Nat} {p : Int → Int → Int → Int → jS → jH → Prop} {q : Int → Int → Int → Int → jS → jH → Int → jS → jH → Prop} (body : ∀ (C : qCx) (G : jG), x1_10 C G → C.2.2.2.1.frames = 3 ∧ C.2.2.2.1.locals = 75 → C.2.2.2.1.cells = mc ∧ C.2.2.2.1.slots = ms → C.2.1 = l → C.2.2.2.2.2.2.2.2.1.name = "cost" → ∀ (u0 u1 u2 u3 : Int) (S : jS) (V : jH), S.1 u0 = 31 → p u0 u1 u2 u3 S V → j_Rl n_KT 8 C G b_1_10 mc ms (q u0 u1 u2 u3 S V) → j_ok n_KT 8 C G 0 [(0, (2, u0)), (1, (0, u1)), (2, (0, u2)), (3, (0, u3))] [] S V 0 0) : M1_10 l mc ms p q := by
  refine j_method (ws' := n_GW) (by decide) rfl ?_ ?_
  · rintro a S V ⟨u0, u1, u2, u3, rfl, -⟩
    exact Nat.le_of_ble_eq_true rfl
  · rintro C G htl hl hrm hm hml ho hts hnm hE a S V ⟨u0, u1, u2, u3, rfl, ht, hp⟩ R
    exact body C G ⟨htl, hm, hml, ho, fun w hw => hts w (List.mem_cons_of_mem _ hw), hE⟩ (by rw [hrm]; exact ⟨rfl, rfl⟩) (by rw [hrm]; exact ⟨rfl, rfl⟩) hl hnm u0 u1 u2 u3 S V ht hp (fun pc lo r S' V' nc ns d q hc hs => R.2.2.2.1 rfl pc lo r S' V' nc ns d ⟨u0, u1, u2, u3, r, rfl, rfl, q⟩ hc hs)
theorem d1_10_0 : decode b_1_10 0 = .ok (.aload_n 0, 1) := by decide +kernel
theorem d1_10_1 : decode b_1_10 1 = .ok (.iload_n 1, 1) := by decide +kernel
theorem d1_10_2 : decode b_1_10 2 = .ok (.invokevirtual 92, 3) := by decide +kernel
theorem d1_10_5 : decode b_1_10 5 = .ok (.astore 4, 2) := by decide +kernel
theorem d1_10_7 : decode b_1_10 7 = .ok (.aload_n 0, 1) := by decide +kernel
theorem d1_10_8 : decode b_1_10 8 = .ok (.iload_n 3, 1) := by decide +kernel
theorem d1_10_9 : decode b_1_10 9 = .ok (.invokevirtual 51, 3) := by decide +kernel
theorem d1_10_12 : decode b_1_10 12 = .ok (.astore 5, 2) := by decide +kernel
theorem d1_10_14 : decode b_1_10 14 = .ok (.aload 4, 2) := by decide +kernel
theorem d1_10_16 : decode b_1_10 16 = .ok (.ifnull 17, 3) := by decide +kernel
theorem d1_10_19 : decode b_1_10 19 = .ok (.aload 4, 2) := by decide +kernel
theorem d1_10_21 : decode b_1_10 21 = .ok (.iload_n 2, 1) := by decide +kernel
theorem d1_10_22 : decode b_1_10 22 = .ok (.invokevirtual 128, 3) := by decide +kernel
theorem d1_10_25 : decode b_1_10 25 = .ok (.ifCond .eq 8, 3) := by decide +kernel
theorem d1_10_28 : decode b_1_10 28 = .ok (.aload 5, 2) := by decide +kernel
theorem d1_10_30 : decode b_1_10 30 = .ok (.ifnonnull 10, 3) := by decide +kernel
theorem d1_10_33 : decode b_1_10 33 = .ok (.aload_n 0, 1) := by decide +kernel
theorem d1_10_34 : decode b_1_10 34 = .ok (.iconst (-1), 1) := by decide +kernel
theorem d1_10_35 : decode b_1_10 35 = .ok (.invokevirtual 55, 3) := by decide +kernel
theorem d1_10_38 : decode b_1_10 38 = .ok (.i2l, 1) := by decide +kernel
theorem d1_10_39 : decode b_1_10 39 = .ok (.lreturn, 1) := by decide +kernel
theorem d1_10_40 : decode b_1_10 40 = .ok (.aload 4, 2) := by decide +kernel
theorem d1_10_42 : decode b_1_10 42 = .ok (.invokevirtual 131, 3) := by decide +kernel
theorem d1_10_45 : decode b_1_10 45 = .ok (.ifCond .eq 11, 3) := by decide +kernel
theorem d1_10_48 : decode b_1_10 48 = .ok (.aload_n 0, 1) := by decide +kernel
theorem d1_10_49 : decode b_1_10 49 = .ok (.bipush (-4), 2) := by decide +kernel
theorem d1_10_51 : decode b_1_10 51 = .ok (.invokevirtual 55, 3) := by decide +kernel
theorem d1_10_54 : decode b_1_10 54 = .ok (.i2l, 1) := by decide +kernel
theorem d1_10_55 : decode b_1_10 55 = .ok (.lreturn, 1) := by decide +kernel
theorem d1_10_56 : decode b_1_10 56 = .ok (.aload 4, 2) := by decide +kernel
theorem d1_10_58 : decode b_1_10 58 = .ok (.getfield 105, 3) := by decide +kernel
theorem d1_10_61 : decode b_1_10 61 = .ok (.iload_n 2, 1) := by decide +kernel
theorem d1_10_62 : decode b_1_10 62 = .ok (.aaload, 1) := by decide +kernel
theorem d1_10_63 : decode b_1_10 63 = .ok (.astore 6, 2) := by decide +kernel
theorem d1_10_65 : decode b_1_10 65 = .ok (.aload 6, 2) := by decide +kernel
theorem d1_10_67 : decode b_1_10 67 = .ok (.aload 5, 2) := by decide +kernel
theorem d1_10_69 : decode b_1_10 69 = .ok (.invokevirtual 137, 3) := by decide +kernel
theorem d1_10_72 : decode b_1_10 72 = .ok (.istore 7, 2) := by decide +kernel
theorem d1_10_74 : decode b_1_10 74 = .ok (.iload 7, 2) := by decide +kernel
theorem d1_10_76 : decode b_1_10 76 = .ok (.ifCond .lt 11, 3) := by decide +kernel
theorem d1_10_79 : decode b_1_10 79 = .ok (.aload_n 0, 1) := by decide +kernel
theorem d1_10_80 : decode b_1_10 80 = .ok (.iload 7, 2) := by decide +kernel
theorem d1_10_82 : decode b_1_10 82 = .ok (.invokevirtual 141, 3) := by decide +kernel
theorem d1_10_85 : decode b_1_10 85 = .ok (.i2l, 1) := by decide +kernel
theorem d1_10_86 : decode b_1_10 86 = .ok (.lreturn, 1) := by decide +kernel
theorem d1_10_87 : decode b_1_10 87 = .ok (.aload_n 0, 1) := by decide +kernel
theorem d1_10_88 : decode b_1_10 88 = .ok (.getfield 29, 3) := by decide +kernel
theorem d1_10_91 : decode b_1_10 91 = .ok (.aload 6, 2) := by decide +kernel
theorem d1_10_93 : decode b_1_10 93 = .ok (.aload 4, 2) := by decide +kernel
theorem d1_10_95 : decode b_1_10 95 = .ok (.invokevirtual 101, 3) := by decide +kernel
theorem d1_10_98 : decode b_1_10 98 = .ok (.aload 5, 2) := by decide +kernel
theorem d1_10_100 : decode b_1_10 100 = .ok (.invokevirtual 144, 3) := by decide +kernel
theorem d1_10_103 : decode b_1_10 103 = .ok (.lreturn, 1) := by decide +kernel
theorem K1_10_2 {C : qCx} {G : jG} {mc ms : Nat} {p : Int → Int → jS → jH → Prop} {q : Int → Int → jS → jH → Int → jS → jH → Prop} (h : x1_10 C G) (hrm : C.2.2.2.1.frames = 3 ∧ C.2.2.2.1.locals = 75) (hM : M1_30 C.2.1 mc ms p q) : j_Call C b_1_10 n_KT G.1 G.2.1 8 (.invokevirtual 92) mc ms (fun a S V => ∃ u0 u1 : Int, a = [(2, u0), (0, u1)] ∧ S.1 u0 = 31 ∧ p u0 u1 S V) (fun a S V rs S' V' => ∃ u0 u1 r : Int, a = [(2, u0), (0, u1)] ∧ rs = [(2, r)] ∧ q u0 u1 S V r S' V') := j_callV n_NWk h.2.2.2.2.2 h.1 hM ⟨h.2.1.1, h.2.1.2, h.2.2.1, h.2.2.2.1, h.2.2.2.2.1⟩ ⟨n_CB (y := y_1_30) (bytes := b_1_30) 1 h.2.2.2.2.1 n_w367 n_w364 n_w1 ⟨by decide, by decide, by decide +kernel⟩ rfl rfl ⟨by rw [hrm.1]; exact Nat.le_of_ble_eq_true rfl, by rw [hrm.2]; exact Nat.le_of_ble_eq_true rfl⟩, h.2.2.2.2.1 _ n_w366, h.2.2.2.2.1 _ n_s2⟩ (Cn := RX10) (fun a S V hP => by obtain ⟨u0, u1, rfl, e, -⟩ := hP; exact ⟨u0, _, 10, _, _, TX10, 8, rfl, rfl, by rw [e]; decide, by rw [e]; rfl, rfl⟩)
theorem K1_10_9 {C : qCx} {G : jG} {mc ms : Nat} {p : Int → Int → jS → jH → Prop} {q : Int → Int → jS → jH → Int → jS → jH → Prop} (h : x1_10 C G) (hrm : C.2.2.2.1.frames = 3 ∧ C.2.2.2.1.locals = 75) (hM : M1_29 C.2.1 mc ms p q) : j_Call C b_1_10 n_KT G.1 G.2.1 8 (.invokevirtual 51) mc ms (fun a S V => ∃ u0 u1 : Int, a = [(2, u0), (0, u1)] ∧ S.1 u0 = 31 ∧ p u0 u1 S V) (fun a S V rs S' V' => ∃ u0 u1 r : Int, a = [(2, u0), (0, u1)] ∧ rs = [(2, r)] ∧ q u0 u1 S V r S' V') := j_callV n_NWk h.2.2.2.2.2 h.1 hM ⟨h.2.1.1, h.2.1.2, h.2.2.1, h.2.2.2.1, h.2.2.2.2.1⟩ ⟨n_CB (y := y_1_29) (bytes := b_1_29) 1 h.2.2.2.2.1 n_w305 n_w302 n_w1 ⟨by decide, by decide, by decide +kernel⟩ rfl rfl ⟨by rw [hrm.1]; exact Nat.le_of_ble_eq_true rfl, by rw [hrm.2]; exact Nat.le_of_ble_eq_true rfl⟩, h.2.2.2.2.1 _ n_w304, h.2.2.2.2.1 _ n_s0⟩ (Cn := RX10) (fun a S V hP => by obtain ⟨u0, u1, rfl, e, -⟩ := hP; exact ⟨u0, _, 10, _, _, TX10, 8, rfl, rfl, by rw [e]; decide, by rw [e]; rfl, rfl⟩)
theorem K1_10_22 {C : qCx} {G : jG} {mc ms : Nat} {p : Int → Int → jS → jH → Prop} {q : Int → Int → jS → jH → Int → jS → jH → Prop} (h : x1_10 C G) (hrm : C.2.2.2.1.frames = 3 ∧ C.2.2.2.1.locals = 75) (hM : M10_6 C.2.1 mc ms p q) : j_Call C b_1_10 n_KT G.1 G.2.1 8 (.invokevirtual 128) mc ms (fun a S V => ∃ u0 u1 : Int, a = [(2, u0), (0, u1)] ∧ S.1 u0 = 29 ∧ p u0 u1 S V) (fun a S V rs S' V' => ∃ u0 u1 r : Int, a = [(2, u0), (0, u1)] ∧ rs = [(0, r)] ∧ q u0 u1 S V r S' V') := j_callV n_NWk h.2.2.2.2.2 h.1 hM ⟨h.2.1.1, h.2.1.2, h.2.2.1, h.2.2.2.1, h.2.2.2.2.1⟩ ⟨n_CB (y := y_10_6) (bytes := b_10_6) 1 h.2.2.2.2.1 n_w459 n_w456 n_w7 ⟨by decide, by decide, by decide +kernel⟩ rfl rfl ⟨by rw [hrm.1]; exact Nat.le_of_ble_eq_true rfl, by rw [hrm.2]; exact Nat.le_of_ble_eq_true rfl⟩, h.2.2.2.2.1 _ n_w457, h.2.2.2.2.1 _ n_w458⟩ (Cn := RX8) (fun a S V hP => by obtain ⟨u0, u1, rfl, e, -⟩ := hP; exact ⟨u0, _, 8, _, _, TX8, 3, rfl, rfl, by rw [e]; decide, by rw [e]; rfl, rfl⟩)
theorem K1_10_35 {C : qCx} {G : jG} {mc ms : Nat} {p : Int → Int → jS → jH → Prop} {q : Int → Int → jS → jH → Int → jS → jH → Prop} (h : x1_10 C G) (hrm : C.2.2.2.1.frames = 3 ∧ C.2.2.2.1.locals = 75) (hM : M1_27 C.2.1 mc ms p q) : j_Call C b_1_10 n_KT G.1 G.2.1 8 (.invokevirtual 55) mc ms (fun a S V => ∃ u0 u1 : Int, a = [(2, u0), (0, u1)] ∧ S.1 u0 = 31 ∧ p u0 u1 S V) (fun a S V rs S' V' => ∃ u0 u1 r : Int, a = [(2, u0), (0, u1)] ∧ rs = [(0, r)] ∧ q u0 u1 S V r S' V') := j_callV n_NWk h.2.2.2.2.2 h.1 hM ⟨h.2.1.1, h.2.1.2, h.2.2.1, h.2.2.2.1, h.2.2.2.2.1⟩ ⟨n_CB (y := y_1_27) (bytes := b_1_27) 1 h.2.2.2.2.1 n_w309 n_w306 n_w1 ⟨by decide, by decide, by decide +kernel⟩ rfl rfl ⟨by rw [hrm.1]; exact Nat.le_of_ble_eq_true rfl, by rw [hrm.2]; exact Nat.le_of_ble_eq_true rfl⟩, h.2.2.2.2.1 _ n_w308, h.2.2.2.2.1 _ n_s1⟩ (Cn := RX10) (fun a S V hP => by obtain ⟨u0, u1, rfl, e, -⟩ := hP; exact ⟨u0, _, 10, _, _, TX10, 8, rfl, rfl, by rw [e]; decide, by rw [e]; rfl, rfl⟩)
theorem K1_10_42 {C : qCx} {G : jG} {mc ms : Nat} {p : Int → jS → jH → Prop} {q : Int → jS → jH → Int → jS → jH → Prop} (h : x1_10 C G) (hrm : C.2.2.2.1.frames = 3 ∧ C.2.2.2.1.locals = 75) (hM : M10_7 C.2.1 mc ms p q) : j_Call C b_1_10 n_KT G.1 G.2.1 8 (.invokevirtual 131) mc ms (fun a S V => ∃ u0 : Int, a = [(2, u0)] ∧ S.1 u0 = 29 ∧ p u0 S V) (fun a S V rs S' V' => ∃ u0 r : Int, a = [(2, u0)] ∧ rs = [(0, r)] ∧ q u0 S V r S' V') := j_callV n_NWk h.2.2.2.2.2 h.1 hM ⟨h.2.1.1, h.2.1.2, h.2.2.1, h.2.2.2.1, h.2.2.2.2.1⟩ ⟨n_CB (y := y_10_7) (bytes := b_10_7) 0 h.2.2.2.2.1 n_w464 n_w461 n_w7 ⟨by decide, by decide, by decide +kernel⟩ rfl rfl ⟨by rw [hrm.1]; exact Nat.le_of_ble_eq_true rfl, by rw [hrm.2]; exact Nat.le_of_ble_eq_true rfl⟩, h.2.2.2.2.1 _ n_w462, h.2.2.2.2.1 _ n_w463⟩ (Cn := RX8) (fun a S V hP => by obtain ⟨u0, rfl, e, -⟩ := hP; exact ⟨u0, _, 8, _, _, TX8, 3, rfl, rfl, by rw [e]; decide, by rw [e]; rfl, rfl⟩)
theorem K1_10_51 {C : qCx} {G : jG} {mc ms : Nat} {p : Int → Int → jS → jH → Prop} {q : Int → Int → jS → jH → Int → jS → jH → Prop} (h : x1_10 C G) (hrm : C.2.2.2.1.frames = 3 ∧ C.2.2.2.1.locals = 75) (hM : M1_27 C.2.1 mc ms p q) : j_Call C b_1_10 n_KT G.1 G.2.1 8 (.invokevirtual 55) mc ms (fun a S V => ∃ u0 u1 : Int, a = [(2, u0), (0, u1)] ∧ S.1 u0 = 31 ∧ p u0 u1 S V) (fun a S V rs S' V' => ∃ u0 u1 r : Int, a = [(2, u0), (0, u1)] ∧ rs = [(0, r)] ∧ q u0 u1 S V r S' V') := j_callV n_NWk h.2.2.2.2.2 h.1 hM ⟨h.2.1.1, h.2.1.2, h.2.2.1, h.2.2.2.1, h.2.2.2.2.1⟩ ⟨n_CB (y := y_1_27) (bytes := b_1_27) 1 h.2.2.2.2.1 n_w309 n_w306 n_w1 ⟨by decide, by decide, by decide +kernel⟩ rfl rfl ⟨by rw [hrm.1]; exact Nat.le_of_ble_eq_true rfl, by rw [hrm.2]; exact Nat.le_of_ble_eq_true rfl⟩, h.2.2.2.2.1 _ n_w308, h.2.2.2.2.1 _ n_s1⟩ (Cn := RX10) (fun a S V hP => by obtain ⟨u0, u1, rfl, e, -⟩ := hP; exact ⟨u0, _, 10, _, _, TX10, 8, rfl, rfl, by rw [e]; decide, by rw [e]; rfl, rfl⟩)
theorem K1_10_69 {C : qCx} {G : jG} {mc ms : Nat} {p : Int → Int → jS → jH → Prop} {q : Int → Int → jS → jH → Int → jS → jH → Prop} (h : x1_10 C G) (hrm : C.2.2.2.1.frames = 3 ∧ C.2.2.2.1.locals = 75) (hM : M4_5 C.2.1 mc ms p q) : j_Call C b_1_10 n_KT G.1 G.2.1 8 (.invokevirtual 137) mc ms (fun a S V => ∃ u0 u1 : Int, a = [(2, u0), (2, u1)] ∧ S.1 u0 = 23 ∧ p u0 u1 S V) (fun a S V rs S' V' => ∃ u0 u1 r : Int, a = [(2, u0), (2, u1)] ∧ rs = [(0, r)] ∧ q u0 u1 S V r S' V') := j_callV n_NWk h.2.2.2.2.2 h.1 hM ⟨h.2.1.1, h.2.1.2, h.2.2.1, h.2.2.2.1, h.2.2.2.2.1⟩ ⟨n_CB (y := y_4_5) (bytes := b_4_5) 1 h.2.2.2.2.1 n_w473 n_w470 n_w8 ⟨by decide, by decide, by decide +kernel⟩ rfl rfl ⟨by rw [hrm.1]; exact Nat.le_of_ble_eq_true rfl, by rw [hrm.2]; exact Nat.le_of_ble_eq_true rfl⟩, h.2.2.2.2.1 _ n_w471, h.2.2.2.2.1 _ n_w472⟩ (Cn := RX2) (fun a S V hP => by obtain ⟨u0, u1, rfl, e, -⟩ := hP; exact ⟨u0, _, 2, _, _, TX2, 1, rfl, rfl, by rw [e]; decide, by rw [e]; rfl, rfl⟩)
theorem K1_10_82 {C : qCx} {G : jG} {mc ms : Nat} {p : Int → Int → jS → jH → Prop} {q : Int → Int → jS → jH → Int → jS → jH → Prop} (h : x1_10 C G) (hrm : C.2.2.2.1.frames = 3 ∧ C.2.2.2.1.locals = 75) (hM : M1_28 C.2.1 mc ms p q) : j_Call C b_1_10 n_KT G.1 G.2.1 8 (.invokevirtual 141) mc ms (fun a S V => ∃ u0 u1 : Int, a = [(2, u0), (0, u1)] ∧ S.1 u0 = 31 ∧ p u0 u1 S V) (fun a S V rs S' V' => ∃ u0 u1 r : Int, a = [(2, u0), (0, u1)] ∧ rs = [(0, r)] ∧ q u0 u1 S V r S' V') := j_callV n_NWk h.2.2.2.2.2 h.1 hM ⟨h.2.1.1, h.2.1.2, h.2.2.1, h.2.2.2.1, h.2.2.2.2.1⟩ ⟨n_CB (y := y_1_28) (bytes := b_1_28) 1 h.2.2.2.2.1 n_w477 n_w474 n_w1 ⟨by decide, by decide, by decide +kernel⟩ rfl rfl ⟨by rw [hrm.1]; exact Nat.le_of_ble_eq_true rfl, by rw [hrm.2]; exact Nat.le_of_ble_eq_true rfl⟩, h.2.2.2.2.1 _ n_w476, h.2.2.2.2.1 _ n_s10⟩ (Cn := RX10) (fun a S V hP => by obtain ⟨u0, u1, rfl, e, -⟩ := hP; exact ⟨u0, _, 10, _, _, TX10, 8, rfl, rfl, by rw [e]; decide, by rw [e]; rfl, rfl⟩)
theorem K1_10_95 {C : qCx} {G : jG} {mc ms : Nat} {p : Int → jS → jH → Prop} {q : Int → jS → jH → Int → jS → jH → Prop} (h : x1_10 C G) (hrm : C.2.2.2.1.frames = 3 ∧ C.2.2.2.1.locals = 75) (hM : M10_4 C.2.1 mc ms p q) : j_Call C b_1_10 n_KT G.1 G.2.1 8 (.invokevirtual 101) mc ms (fun a S V => ∃ u0 : Int, a = [(2, u0)] ∧ S.1 u0 = 29 ∧ p u0 S V) (fun a S V rs S' V' => ∃ u0 r : Int, a = [(2, u0)] ∧ rs = [(0, r)] ∧ q u0 S V r S' V') := j_callV n_NWk h.2.2.2.2.2 h.1 hM ⟨h.2.1.1, h.2.1.2, h.2.2.1, h.2.2.2.1, h.2.2.2.2.1⟩ ⟨n_CB (y := y_10_4) (bytes := b_10_4) 0 h.2.2.2.2.1 n_w348 n_w371 n_w7 ⟨by decide, by decide, by decide +kernel⟩ rfl rfl ⟨by rw [hrm.1]; exact Nat.le_of_ble_eq_true rfl, by rw [hrm.2]; exact Nat.le_of_ble_eq_true rfl⟩, h.2.2.2.2.1 _ n_w346, h.2.2.2.2.1 _ n_w347⟩ (Cn := RX8) (fun a S V hP => by obtain ⟨u0, rfl, e, -⟩ := hP; exact ⟨u0, _, 8, _, _, TX8, 3, rfl, rfl, by rw [e]; decide, by rw [e]; rfl, rfl⟩)
theorem K1_10_100 {C : qCx} {G : jG} {mc ms : Nat} {p : Int → Int → Int → Int → jS → jH → Prop} {q : Int → Int → Int → Int → jS → jH → Int → jS → jH → Prop} (h : x1_10 C G) (hrm : C.2.2.2.1.frames = 3 ∧ C.2.2.2.1.locals = 75) (hM : M5_9 C.2.1 mc ms p q) : j_Call C b_1_10 n_KT G.1 G.2.1 8 (.invokevirtual 144) mc ms (fun a S V => ∃ u0 u1 u2 u3 : Int, a = [(2, u0), (2, u1), (0, u2), (2, u3)] ∧ S.1 u0 = 24 ∧ p u0 u1 u2 u3 S V) (fun a S V rs S' V' => ∃ u0 u1 u2 u3 r : Int, a = [(2, u0), (2, u1), (0, u2), (2, u3)] ∧ rs = [(1, r)] ∧ q u0 u1 u2 u3 S V r S' V') := j_callV n_NWk h.2.2.2.2.2 h.1 hM ⟨h.2.1.1, h.2.1.2, h.2.2.1, h.2.2.2.1, h.2.2.2.2.1⟩ ⟨n_CB (y := y_5_9) (bytes := b_5_9) 3 h.2.2.2.2.1 n_w481 n_w478 n_w10 ⟨by decide, by decide, by decide +kernel⟩ rfl rfl ⟨by rw [hrm.1]; exact Nat.le_of_ble_eq_true rfl, by rw [hrm.2]; exact Nat.le_of_ble_eq_true rfl⟩, h.2.2.2.2.1 _ n_w479, h.2.2.2.2.1 _ n_w480⟩ (Cn := RX3) (fun a S V hP => by obtain ⟨u0, u1, u2, u3, rfl, e, -⟩ := hP; exact ⟨u0, _, 3, _, _, TX3, 4, rfl, rfl, by rw [e]; decide, by rw [e]; rfl, rfl⟩)
theorem t1_10_0 {C : qCx} {G : jG} {S : jS} {V : jH} {nc ns : Nat} {l0 l1 l2 l3 : Int} {mc ms : Nat} {pp : Int → Int → jS → jH → Prop} {qq : Int → Int → jS → jH → Int → jS → jH → Prop} (h : x1_10 C G) (hrm : C.2.2.2.1.frames = 3 ∧ C.2.2.2.1.locals = 75) (c1 : S.1 l0 = 31) (hM : M1_30 C.2.1 mc ms pp qq) (hp : pp l0 l1 S V) (hc : nc + mc ≤ C.2.2.2.1.cells) (hs : ns + ms ≤ C.2.2.2.1.slots) (k : ∀ (r : Int) (S' : jS) (V' : jH), qq l0 l1 S V r S' V' → j_ok n_KT 8 C G 5 [(0, (2, l0)), (2, (0, l2)), (3, (0, l3))] [(2, r)] S' V' (nc + mc) (ns + ms)) : j_ok n_KT 8 C G 0 [(0, (2, l0)), (1, (0, l1)), (2, (0, l2)), (3, (0, l3))] [] S V nc ns := by
  have E := n_E h
  refine j_aload_n E d1_10_0 rfl 0 rfl ?_
  refine j_iload_n E d1_10_1 rfl 1 rfl ?_
  refine j_call E (K1_10_2 h hrm hM) d1_10_2 (a := [(2, l0), (0, l1)]) (sk := []) rfl ⟨l0, l1, rfl, c1, hp⟩ (Nat.le_of_ble_eq_true rfl) hc hs ?_
  rintro rs S' V' ⟨z0, z1, r, e1, rfl, q⟩
  simp only [List.cons.injEq, Prod.mk.injEq, and_true, true_and] at e1
  obtain ⟨rfl, rfl⟩ := e1
  exact j_pick [0, 2, 3] rfl (k r S' V' q)
theorem t1_10_5 {C : qCx} {G : jG} {S : jS} {V : jH} {nc ns : Nat} {l0 l2 l3 s0 : Int} {mc ms : Nat} {pp : Int → Int → jS → jH → Prop} {qq : Int → Int → jS → jH → Int → jS → jH → Prop} (h : x1_10 C G) (hrm : C.2.2.2.1.frames = 3 ∧ C.2.2.2.1.locals = 75) (c1 : S.1 l0 = 31) (hM : M1_29 C.2.1 mc ms pp qq) (hp : pp l0 l3 S V) (hc : nc + mc ≤ C.2.2.2.1.cells) (hs : ns + ms ≤ C.2.2.2.1.slots) (k : ∀ (r : Int) (S' : jS) (V' : jH), qq l0 l3 S V r S' V' → j_ok n_KT 8 C G 12 [(0, (2, l0)), (2, (0, l2)), (4, (2, s0))] [(2, r)] S' V' (nc + mc) (ns + ms)) : j_ok n_KT 8 C G 5 [(0, (2, l0)), (2, (0, l2)), (3, (0, l3))] [(2, s0)] S V nc ns := by
  have E := n_E h
  refine j_astore E d1_10_5 (by decide) (lo1 := [(0, (2, l0)), (2, (0, l2)), (3, (0, l3))]) rfl ?_
  refine j_aload_n E d1_10_7 rfl 1 rfl ?_
  refine j_iload_n E d1_10_8 rfl 3 rfl ?_
  refine j_call E (K1_10_9 h hrm hM) d1_10_9 (a := [(2, l0), (0, l3)]) (sk := []) rfl ⟨l0, l3, rfl, c1, hp⟩ (Nat.le_of_ble_eq_true rfl) hc hs ?_
  rintro rs S' V' ⟨z0, z1, r, e1, rfl, q⟩
  simp only [List.cons.injEq, Prod.mk.injEq, and_true, true_and] at e1
  obtain ⟨rfl, rfl⟩ := e1
  exact j_pick [1, 2, 0] rfl (k r S' V' q)
theorem t1_10_12 {C : qCx} {G : jG} {S : jS} {V : jH} {nc ns : Nat} {l0 l2 l4 s0 : Int} (h : x1_10 C G)  (k : l4 = -1 → j_ok n_KT 8 C G 33 [(0, (2, l0))] [] S V nc ns) (k' : 0 ≤ l4 → S.1 l4 ≠ 0 → j_ok n_KT 8 C G 19 [(0, (2, l0)), (2, (0, l2)), (4, (2, l4)), (5, (2, s0))] [] S V nc ns) : j_ok n_KT 8 C G 12 [(0, (2, l0)), (2, (0, l2)), (4, (2, l4))] [(2, s0)] S V nc ns := by
  have E := n_E h
  refine j_astore E d1_10_12 (by decide) (lo1 := [(0, (2, l0)), (2, (0, l2)), (4, (2, l4))]) rfl ?_
  refine j_aload E d1_10_14 3 rfl ?_
  exact j_ifnull E d1_10_16 (t := 33) rfl (fun q => j_pick [1] rfl (k q)) (fun q q2 => j_pick [1, 2, 3, 0] rfl (k' q q2))
theorem t1_10_19 {C : qCx} {G : jG} {S : jS} {V : jH} {nc ns : Nat} {l0 l2 l4 l5 : Int} {mc ms : Nat} {pp : Int → Int → jS → jH → Prop} {qq : Int → Int → jS → jH → Int → jS → jH → Prop} (h : x1_10 C G) (hrm : C.2.2.2.1.frames = 3 ∧ C.2.2.2.1.locals = 75) (c1 : S.1 l4 = 29) (hM : M10_6 C.2.1 mc ms pp qq) (hp : pp l4 l2 S V) (hc : nc + mc ≤ C.2.2.2.1.cells) (hs : ns + ms ≤ C.2.2.2.1.slots) (k : ∀ (r : Int) (S' : jS) (V' : jH), qq l4 l2 S V r S' V' → j_ok n_KT 8 C G 25 [(0, (2, l0)), (2, (0, l2)), (4, (2, l4)), (5, (2, l5))] [(0, r)] S' V' (nc + mc) (ns + ms)) : j_ok n_KT 8 C G 19 [(0, (2, l0)), (2, (0, l2)), (4, (2, l4)), (5, (2, l5))] [] S V nc ns := by
  have E := n_E h
  refine j_aload E d1_10_19 2 rfl ?_
  refine j_iload_n E d1_10_21 rfl 1 rfl ?_
  refine j_call E (K1_10_22 h hrm hM) d1_10_22 (a := [(2, l4), (0, l2)]) (sk := []) rfl ⟨l4, l2, rfl, c1, hp⟩ (Nat.le_of_ble_eq_true rfl) hc hs ?_
  rintro rs S' V' ⟨z0, z1, r, e1, rfl, q⟩
  simp only [List.cons.injEq, Prod.mk.injEq, and_true, true_and] at e1
  obtain ⟨rfl, rfl⟩ := e1
  exact j_pick [0, 1, 2, 3] rfl (k r S' V' q)
theorem t1_10_25 {C : qCx} {G : jG} {S : jS} {V : jH} {nc ns : Nat} {l0 l2 l4 l5 s0 : Int} (h : x1_10 C G)  (k : s0 = 0 → j_ok n_KT 8 C G 33 [(0, (2, l0))] [] S V nc ns) (k' : ¬ s0 = 0 → j_ok n_KT 8 C G 28 [(0, (2, l0)), (2, (0, l2)), (4, (2, l4)), (5, (2, l5))] [] S V nc ns) : j_ok n_KT 8 C G 25 [(0, (2, l0)), (2, (0, l2)), (4, (2, l4)), (5, (2, l5))] [(0, s0)] S V nc ns := by
  have E := n_E h
  exact j_if_eq E d1_10_25 (t := 33) rfl (fun q => j_pick [0] rfl (k q)) (fun q => j_pick [0, 1, 2, 3] rfl (k' q))
theorem t1_10_28 {C : qCx} {G : jG} {S : jS} {V : jH} {nc ns : Nat} {l0 l2 l4 l5 : Int} (h : x1_10 C G)  (k : 0 ≤ l5 → S.1 l5 ≠ 0 → j_ok n_KT 8 C G 40 [(0, (2, l0)), (2, (0, l2)), (4, (2, l4)), (5, (2, l5))] [] S V nc ns) (k' : l5 = -1 → j_ok n_KT 8 C G 33 [(0, (2, l0))] [] S V nc ns) : j_ok n_KT 8 C G 28 [(0, (2, l0)), (2, (0, l2)), (4, (2, l4)), (5, (2, l5))] [] S V nc ns := by
  have E := n_E h
  refine j_aload E d1_10_28 3 rfl ?_
  exact j_ifnonnull E d1_10_30 (t := 40) rfl (fun q q2 => j_pick [0, 1, 2, 3] rfl (k q q2)) (fun q => j_pick [0] rfl (k' q))
theorem t1_10_33 {C : qCx} {G : jG} {S : jS} {V : jH} {nc ns : Nat} {l0 : Int} {mc ms : Nat} {pp : Int → Int → jS → jH → Prop} {qq : Int → Int → jS → jH → Int → jS → jH → Prop} (h : x1_10 C G) (hrm : C.2.2.2.1.frames = 3 ∧ C.2.2.2.1.locals = 75) (c1 : S.1 l0 = 31) (hM : M1_27 C.2.1 mc ms pp qq) (hp : pp l0 ((-1)) S V) (hc : nc + mc ≤ C.2.2.2.1.cells) (hs : ns + ms ≤ C.2.2.2.1.slots) (k : ∀ (r : Int) (S' : jS) (V' : jH), qq l0 ((-1)) S V r S' V' → j_ok n_KT 8 C G 38 [] [(0, r)] S' V' (nc + mc) (ns + ms)) : j_ok n_KT 8 C G 33 [(0, (2, l0))] [] S V nc ns := by
  have E := n_E h
  refine j_aload_n E d1_10_33 rfl 0 rfl ?_
  refine j_iconst E d1_10_34 (by decide) ?_
  refine j_call E (K1_10_35 h hrm hM) d1_10_35 (a := [(2, l0), (0, (-1))]) (sk := []) rfl ⟨l0, (-1), rfl, c1, hp⟩ (Nat.le_of_ble_eq_true rfl) hc hs ?_
  rintro rs S' V' ⟨z0, z1, r, e1, rfl, q⟩
  simp only [List.cons.injEq, Prod.mk.injEq, and_true, true_and] at e1
  obtain ⟨rfl, rfl⟩ := e1
  exact j_pick [] rfl (k r S' V' q)
theorem t1_10_38 {C : qCx} {G : jG} {S : jS} {V : jH} {nc ns : Nat} {s0 : Int} {mc ms : Nat} {qf : Int → jS → jH → Prop} (h : x1_10 C G)  (R : j_Rl n_KT 8 C G b_1_10 mc ms qf) (q : qf s0 S V) (hc : nc ≤ mc) (hs : ns ≤ ms) : j_ok n_KT 8 C G 38 [] [(0, s0)] S V nc ns := by
  have E := n_E h
  refine j_i2l E d1_10_38 ?_
  exact R _ _ _ _ _ _ _ d1_10_39 q hc hs
theorem t1_10_40 {C : qCx} {G : jG} {S : jS} {V : jH} {nc ns : Nat} {l0 l2 l4 l5 : Int} {mc ms : Nat} {pp : Int → jS → jH → Prop} {qq : Int → jS → jH → Int → jS → jH → Prop} (h : x1_10 C G) (hrm : C.2.2.2.1.frames = 3 ∧ C.2.2.2.1.locals = 75) (c1 : S.1 l4 = 29) (hM : M10_7 C.2.1 mc ms pp qq) (hp : pp l4 S V) (hc : nc + mc ≤ C.2.2.2.1.cells) (hs : ns + ms ≤ C.2.2.2.1.slots) (k : ∀ (r : Int) (S' : jS) (V' : jH), qq l4 S V r S' V' → j_ok n_KT 8 C G 45 [(0, (2, l0)), (2, (0, l2)), (4, (2, l4)), (5, (2, l5))] [(0, r)] S' V' (nc + mc) (ns + ms)) : j_ok n_KT 8 C G 40 [(0, (2, l0)), (2, (0, l2)), (4, (2, l4)), (5, (2, l5))] [] S V nc ns := by
  have E := n_E h
  refine j_aload E d1_10_40 2 rfl ?_
  refine j_call E (K1_10_42 h hrm hM) d1_10_42 (a := [(2, l4)]) (sk := []) rfl ⟨l4, rfl, c1, hp⟩ (Nat.le_of_ble_eq_true rfl) hc hs ?_
  rintro rs S' V' ⟨z0, r, e1, rfl, q⟩
  simp only [List.cons.injEq, Prod.mk.injEq, and_true, true_and] at e1
  obtain ⟨rfl⟩ := e1
  exact j_pick [0, 1, 2, 3] rfl (k r S' V' q)
theorem t1_10_45 {C : qCx} {G : jG} {S : jS} {V : jH} {nc ns : Nat} {l0 l2 l4 l5 s0 : Int} (h : x1_10 C G)  (k : s0 = 0 → j_ok n_KT 8 C G 56 [(0, (2, l0)), (2, (0, l2)), (4, (2, l4)), (5, (2, l5))] [] S V nc ns) (k' : ¬ s0 = 0 → j_ok n_KT 8 C G 48 [(0, (2, l0))] [] S V nc ns) : j_ok n_KT 8 C G 45 [(0, (2, l0)), (2, (0, l2)), (4, (2, l4)), (5, (2, l5))] [(0, s0)] S V nc ns := by
  have E := n_E h
  exact j_if_eq E d1_10_45 (t := 56) rfl (fun q => j_pick [0, 1, 2, 3] rfl (k q)) (fun q => j_pick [0] rfl (k' q))
theorem t1_10_48 {C : qCx} {G : jG} {S : jS} {V : jH} {nc ns : Nat} {l0 : Int} {mc ms : Nat} {pp : Int → Int → jS → jH → Prop} {qq : Int → Int → jS → jH → Int → jS → jH → Prop} (h : x1_10 C G) (hrm : C.2.2.2.1.frames = 3 ∧ C.2.2.2.1.locals = 75) (c1 : S.1 l0 = 31) (hM : M1_27 C.2.1 mc ms pp qq) (hp : pp l0 ((-4)) S V) (hc : nc + mc ≤ C.2.2.2.1.cells) (hs : ns + ms ≤ C.2.2.2.1.slots) (k : ∀ (r : Int) (S' : jS) (V' : jH), qq l0 ((-4)) S V r S' V' → j_ok n_KT 8 C G 54 [] [(0, r)] S' V' (nc + mc) (ns + ms)) : j_ok n_KT 8 C G 48 [(0, (2, l0))] [] S V nc ns := by
  have E := n_E h
  refine j_aload_n E d1_10_48 rfl 0 rfl ?_
  refine j_bipush E d1_10_49 (by decide) ?_
  refine j_call E (K1_10_51 h hrm hM) d1_10_51 (a := [(2, l0), (0, (-4))]) (sk := []) rfl ⟨l0, (-4), rfl, c1, hp⟩ (Nat.le_of_ble_eq_true rfl) hc hs ?_
  rintro rs S' V' ⟨z0, z1, r, e1, rfl, q⟩
  simp only [List.cons.injEq, Prod.mk.injEq, and_true, true_and] at e1
  obtain ⟨rfl, rfl⟩ := e1
  exact j_pick [] rfl (k r S' V' q)
theorem t1_10_54 {C : qCx} {G : jG} {S : jS} {V : jH} {nc ns : Nat} {s0 : Int} {mc ms : Nat} {qf : Int → jS → jH → Prop} (h : x1_10 C G)  (R : j_Rl n_KT 8 C G b_1_10 mc ms qf) (q : qf s0 S V) (hc : nc ≤ mc) (hs : ns ≤ ms) : j_ok n_KT 8 C G 54 [] [(0, s0)] S V nc ns := by
  have E := n_E h
  refine j_i2l E d1_10_54 ?_
  exact R _ _ _ _ _ _ _ d1_10_55 q hc hs
theorem t1_10_56 {C : qCx} {G : jG} {S : jS} {V : jH} {nc ns : Nat} {l0 l2 l4 l5 : Int} {mc ms : Nat} {pp : Int → Int → jS → jH → Prop} {qq : Int → Int → jS → jH → Int → jS → jH → Prop} (h : x1_10 C G) (L : j_L S) (hrm : C.2.2.2.1.frames = 3 ∧ C.2.2.2.1.locals = 75) (c1 : S.1 l4 = 29) (c2 : 0 ≤ l2) (c3 : l2 < 4) (hM : M4_5 C.2.1 mc ms pp qq) (hp : pp (l4 + 2 + 2 * l2) l5 S V) (hc : nc + mc ≤ C.2.2.2.1.cells) (hs : ns + ms ≤ C.2.2.2.1.slots) (k : ∀ (r : Int) (S' : jS) (V' : jH), qq (l4 + 2 + 2 * l2) l5 S V r S' V' → j_ok n_KT 8 C G 72 [(0, (2, l0)), (4, (2, l4)), (5, (2, l5)), (6, (2, l4 + 2 + 2 * l2))] [(0, r)] S' V' (nc + mc) (ns + ms)) : j_ok n_KT 8 C G 56 [(0, (2, l0)), (2, (0, l2)), (4, (2, l4)), (5, (2, l5))] [] S V nc ns := by
  have E := n_E h
  refine j_aload E d1_10_56 2 rfl ?_
  refine j_getS (f := 0) (x := l4 + 1) (fg10_105 h) d1_10_58 c1 (by decide) rfl rfl ((L8_0 L c1).trans (by omega)) ?_
  refine j_iload_n E d1_10_61 rfl 1 rfl ?_
  refine j_aaldS (x := l4 + 2 + 2 * l2) E d1_10_62 (show S.1 (l4 + 1) = 19 from (by have q := L8_0k L c1; rw [show l4 + 1 = l4 + 1 by omega]; exact q)) (by decide) rfl c2 c3 ((LDealA L (i := l2) (show S.1 (l4 + 1) = 19 from (by have q := L8_0k L c1; rw [show l4 + 1 = l4 + 1 by omega]; exact q)) c2 c3).trans (by omega)) ?_
  refine j_astore E d1_10_63 (by decide) (lo1 := [(0, (2, l0)), (2, (0, l2)), (4, (2, l4)), (5, (2, l5))]) rfl ?_
  refine j_aload E d1_10_65 0 rfl ?_
  refine j_aload E d1_10_67 4 rfl ?_
  refine j_call E (K1_10_69 h hrm hM) d1_10_69 (a := [(2, l4 + 2 + 2 * l2), (2, l5)]) (sk := []) rfl ⟨l4 + 2 + 2 * l2, l5, rfl, (show S.1 (l4 + 2 + 2 * l2) = 23 from (by have q := LDealAk L (i := l2) (show S.1 (l4 + 1) = 19 from (by have q := L8_0k L c1; rw [show l4 + 1 = l4 + 1 by omega]; exact q)) c2 c3; rw [show l4 + 2 + 2 * l2 = (l4 + 1) + 1 + 2 * l2 by omega]; exact q)), hp⟩ (Nat.le_of_ble_eq_true rfl) hc hs ?_
  rintro rs S' V' ⟨z0, z1, r, e1, rfl, q⟩
  simp only [List.cons.injEq, Prod.mk.injEq, and_true, true_and] at e1
  obtain ⟨rfl, rfl⟩ := e1
  exact j_pick [1, 3, 4, 0] rfl (k r S' V' q)
theorem t1_10_72 {C : qCx} {G : jG} {S : jS} {V : jH} {nc ns : Nat} {l0 l4 l5 l6 s0 : Int} (h : x1_10 C G)  (k : s0 < 0 → j_ok n_KT 8 C G 87 [(0, (2, l0)), (4, (2, l4)), (5, (2, l5)), (6, (2, l6))] [] S V nc ns) (k' : 0 ≤ s0 → j_ok n_KT 8 C G 79 [(0, (2, l0)), (7, (0, s0))] [] S V nc ns) : j_ok n_KT 8 C G 72 [(0, (2, l0)), (4, (2, l4)), (5, (2, l5)), (6, (2, l6))] [(0, s0)] S V nc ns := by
  have E := n_E h
  refine j_istore E d1_10_72 (by decide) (lo1 := [(0, (2, l0)), (4, (2, l4)), (5, (2, l5)), (6, (2, l6))]) rfl ?_
  refine j_iload E d1_10_74 0 rfl ?_
  exact j_if_lt E d1_10_76 (t := 87) rfl (fun q => j_pick [1, 2, 3, 4] rfl (k q)) (fun q => j_pick [1, 0] rfl (k' q))
theorem t1_10_79 {C : qCx} {G : jG} {S : jS} {V : jH} {nc ns : Nat} {l0 l7 : Int} {mc ms : Nat} {pp : Int → Int → jS → jH → Prop} {qq : Int → Int → jS → jH → Int → jS → jH → Prop} (h : x1_10 C G) (hrm : C.2.2.2.1.frames = 3 ∧ C.2.2.2.1.locals = 75) (c1 : S.1 l0 = 31) (hM : M1_28 C.2.1 mc ms pp qq) (hp : pp l0 l7 S V) (hc : nc + mc ≤ C.2.2.2.1.cells) (hs : ns + ms ≤ C.2.2.2.1.slots) (k : ∀ (r : Int) (S' : jS) (V' : jH), qq l0 l7 S V r S' V' → j_ok n_KT 8 C G 85 [] [(0, r)] S' V' (nc + mc) (ns + ms)) : j_ok n_KT 8 C G 79 [(0, (2, l0)), (7, (0, l7))] [] S V nc ns := by
  have E := n_E h
  refine j_aload_n E d1_10_79 rfl 0 rfl ?_
  refine j_iload E d1_10_80 1 rfl ?_
  refine j_call E (K1_10_82 h hrm hM) d1_10_82 (a := [(2, l0), (0, l7)]) (sk := []) rfl ⟨l0, l7, rfl, c1, hp⟩ (Nat.le_of_ble_eq_true rfl) hc hs ?_
  rintro rs S' V' ⟨z0, z1, r, e1, rfl, q⟩
  simp only [List.cons.injEq, Prod.mk.injEq, and_true, true_and] at e1
  obtain ⟨rfl, rfl⟩ := e1
  exact j_pick [] rfl (k r S' V' q)
theorem t1_10_85 {C : qCx} {G : jG} {S : jS} {V : jH} {nc ns : Nat} {s0 : Int} {mc ms : Nat} {qf : Int → jS → jH → Prop} (h : x1_10 C G)  (R : j_Rl n_KT 8 C G b_1_10 mc ms qf) (q : qf s0 S V) (hc : nc ≤ mc) (hs : ns ≤ ms) : j_ok n_KT 8 C G 85 [] [(0, s0)] S V nc ns := by
  have E := n_E h
  refine j_i2l E d1_10_85 ?_
  exact R _ _ _ _ _ _ _ d1_10_86 q hc hs
theorem t1_10_87 {C : qCx} {G : jG} {S : jS} {V : jH} {nc ns : Nat} {l0 l4 l5 l6 : Int} {mc ms : Nat} {pp : Int → jS → jH → Prop} {qq : Int → jS → jH → Int → jS → jH → Prop} (h : x1_10 C G) (L : j_L S) (hrm : C.2.2.2.1.frames = 3 ∧ C.2.2.2.1.locals = 75) (c1 : S.1 l0 = 31) (c2 : S.1 l4 = 29) (hM : M10_4 C.2.1 mc ms pp qq) (hp : pp l4 S V) (hc : nc + mc ≤ C.2.2.2.1.cells) (hs : ns + ms ≤ C.2.2.2.1.slots) (k : ∀ (r : Int) (S' : jS) (V' : jH), qq l4 S V r S' V' → j_ok n_KT 8 C G 98 [(5, (2, l5))] [(0, r), (2, l6), (2, l0 + 230)] S' V' (nc + mc) (ns + ms)) : j_ok n_KT 8 C G 87 [(0, (2, l0)), (4, (2, l4)), (5, (2, l5)), (6, (2, l6))] [] S V nc ns := by
  have E := n_E h
  refine j_aload_n E d1_10_87 rfl 0 rfl ?_
  refine j_getS (f := 3) (x := l0 + 230) (fg10_29 h) d1_10_88 c1 (by decide) rfl rfl ((L10_3 L c1).trans (by omega)) ?_
  refine j_aload E d1_10_91 3 rfl ?_
  refine j_aload E d1_10_93 1 rfl ?_
  refine j_call E (K1_10_95 h hrm hM) d1_10_95 (a := [(2, l4)]) (sk := [(2, l6), (2, l0 + 230)]) rfl ⟨l4, rfl, c2, hp⟩ (Nat.le_of_ble_eq_true rfl) hc hs ?_
  rintro rs S' V' ⟨z0, r, e1, rfl, q⟩
  simp only [List.cons.injEq, Prod.mk.injEq, and_true, true_and] at e1
  obtain ⟨rfl⟩ := e1
  exact j_pick [2] rfl (k r S' V' q)
theorem t1_10_98 {C : qCx} {G : jG} {S : jS} {V : jH} {nc ns : Nat} {l5 s0 s1 s2 : Int} {mc ms : Nat} {pp : Int → Int → Int → Int → jS → jH → Prop} {qq : Int → Int → Int → Int → jS → jH → Int → jS → jH → Prop} (h : x1_10 C G) (hrm : C.2.2.2.1.frames = 3 ∧ C.2.2.2.1.locals = 75) (c1 : S.1 s2 = 24) (hM : M5_9 C.2.1 mc ms pp qq) (hp : pp s2 s1 s0 l5 S V) (hc : nc + mc ≤ C.2.2.2.1.cells) (hs : ns + ms ≤ C.2.2.2.1.slots) (k : ∀ (r : Int) (S' : jS) (V' : jH), qq s2 s1 s0 l5 S V r S' V' → j_ok n_KT 8 C G 103 [] [(1, r)] S' V' (nc + mc) (ns + ms)) : j_ok n_KT 8 C G 98 [(5, (2, l5))] [(0, s0), (2, s1), (2, s2)] S V nc ns := by
  have E := n_E h
  refine j_aload E d1_10_98 0 rfl ?_
  refine j_call E (K1_10_100 h hrm hM) d1_10_100 (a := [(2, s2), (2, s1), (0, s0), (2, l5)]) (sk := []) rfl ⟨s2, s1, s0, l5, rfl, c1, hp⟩ (Nat.le_of_ble_eq_true rfl) hc hs ?_
  rintro rs S' V' ⟨z0, z1, z2, z3, r, e1, rfl, q⟩
  simp only [List.cons.injEq, Prod.mk.injEq, and_true, true_and] at e1
  obtain ⟨rfl, rfl, rfl, rfl⟩ := e1
  exact j_pick [] rfl (k r S' V' q)
theorem t1_10_103 {C : qCx} {G : jG} {S : jS} {V : jH} {nc ns : Nat} {s0 : Int} {mc ms : Nat} {qf : Int → jS → jH → Prop} (h : x1_10 C G)  (R : j_Rl n_KT 8 C G b_1_10 mc ms qf) (q : qf s0 S V) (hc : nc ≤ mc) (hs : ns ≤ ms) : j_ok n_KT 8 C G 103 [] [(1, s0)] S V nc ns := by
  have E := n_E h
  exact R _ _ _ _ _ _ _ d1_10_103 q hc hs
/- BalanceCoder$Table.isOneOf(I)Z -/
abbrev b_10_9 : ByteArray := prog_10_method_9_code
def y_10_9 : MethodName := ⟨"BalanceCoder$Table", "isOneOf", "(I)Z"⟩
abbrev x10_9 (C : qCx) (G : jG) : Prop := n_ctx C b_10_9 2 "BalanceCoder$Table" G.1 G.2.1
def M10_9 (l : Launch) (mc ms : Nat) (p : Int → Int → jS → jH → Prop) (q : Int → Int → jS → jH → Int → jS → jH → Prop) : Prop := j_Met l vwCl n_TL n_NW n_KT y_10_9 (Cond.code y_10_9 b_10_9 2 (some .boolean) :: n_GW) { frames := 2, cells := mc, slots := ms, locals := 46 } mc ms (fun a S V => ∃ u0 u1 : Int, a = [(2, u0), (0, u1)] ∧ S.1 u0 = 29 ∧ p u0 u1 S V) (fun a S V rs S' V' => ∃ u0 u1 r : Int, a = [(2, u0), (0, u1)] ∧ rs = [(0, r)] ∧ q u0 u1 S V r S' V')
theorem e10_9 {l : Launch} {mc ms : Nat} {p : Int → Int → jS → jH → Prop} {q : Int → Int → jS → jH → Int → jS → jH → Prop} (body : ∀ (C : qCx) (G : jG), x10_9 C G → C.2.2.2.1.frames = 2 ∧ C.2.2.2.1.locals = 46 → C.2.2.2.1.cells = mc ∧ C.2.2.2.1.slots = ms → C.2.1 = l → C.2.2.2.2.2.2.2.2.1.name = "isOneOf" → ∀ (u0 u1 : Int) (S : jS) (V : jH), S.1 u0 = 29 → p u0 u1 S V → j_Rz n_KT 2 C G b_10_9 mc ms (q u0 u1 S V) → j_ok n_KT 2 C G 0 [(0, (2, u0)), (1, (0, u1))] [] S V 0 0) : M10_9 l mc ms p q := by
  refine j_method (ws' := n_GW) (by decide) rfl ?_ ?_
  · rintro a S V ⟨u0, u1, rfl, -⟩
    exact Nat.le_of_ble_eq_true rfl
  · rintro C G htl hl hrm hm hml ho hts hnm hE a S V ⟨u0, u1, rfl, ht, hp⟩ R
    exact body C G ⟨htl, hm, hml, ho, fun w hw => hts w (List.mem_cons_of_mem _ hw), hE⟩ (by rw [hrm]; exact ⟨rfl, rfl⟩) (by rw [hrm]; exact ⟨rfl, rfl⟩) hl hnm u0 u1 S V ht hp (fun pc lo r S' V' nc ns d z q hc hs => R.2.2.1 rfl pc lo r S' V' nc ns d z ⟨u0, u1, r, rfl, rfl, q⟩ hc hs)
theorem d10_9_0 : decode b_10_9 0 = .ok (.iload_n 1, 1) := by decide +kernel
theorem d10_9_1 : decode b_10_9 1 = .ok (.aload_n 0, 1) := by decide +kernel
theorem d10_9_2 : decode b_10_9 2 = .ok (.getfield 17, 3) := by decide +kernel
theorem d10_9_5 : decode b_10_9 5 = .ok (.if_icmp .eq 27, 3) := by decide +kernel
theorem d10_9_8 : decode b_10_9 8 = .ok (.iload_n 1, 1) := by decide +kernel
theorem d10_9_9 : decode b_10_9 9 = .ok (.iconst 2, 1) := by decide +kernel
theorem d10_9_10 : decode b_10_9 10 = .ok (.if_icmp .ne 11, 3) := by decide +kernel
theorem d10_9_13 : decode b_10_9 13 = .ok (.aload_n 0, 1) := by decide +kernel
theorem d10_9_14 : decode b_10_9 14 = .ok (.getfield 17, 3) := by decide +kernel
theorem d10_9_17 : decode b_10_9 17 = .ok (.iconst 3, 1) := by decide +kernel
theorem d10_9_18 : decode b_10_9 18 = .ok (.if_icmp .eq 14, 3) := by decide +kernel
theorem d10_9_21 : decode b_10_9 21 = .ok (.iload_n 1, 1) := by decide +kernel
theorem d10_9_22 : decode b_10_9 22 = .ok (.ifCond .ne 14, 3) := by decide +kernel
theorem d10_9_25 : decode b_10_9 25 = .ok (.aload_n 0, 1) := by decide +kernel
theorem d10_9_26 : decode b_10_9 26 = .ok (.invokevirtual 46, 3) := by decide +kernel
theorem d10_9_29 : decode b_10_9 29 = .ok (.ifCond .eq 7, 3) := by decide +kernel
theorem d10_9_32 : decode b_10_9 32 = .ok (.iconst 1, 1) := by decide +kernel
theorem d10_9_33 : decode b_10_9 33 = .ok (.goto 4, 3) := by decide +kernel
theorem d10_9_36 : decode b_10_9 36 = .ok (.iconst 0, 1) := by decide +kernel
theorem d10_9_37 : decode b_10_9 37 = .ok (.ireturn, 1) := by decide +kernel
theorem K10_9_26 {C : qCx} {G : jG} {mc ms : Nat} {p : Int → jS → jH → Prop} {q : Int → jS → jH → Int → jS → jH → Prop} (h : x10_9 C G) (hrm : C.2.2.2.1.frames = 2 ∧ C.2.2.2.1.locals = 46) (hM : M10_8 C.2.1 mc ms p q) : j_Call C b_10_9 n_KT G.1 G.2.1 2 (.invokevirtual 46) mc ms (fun a S V => ∃ u0 : Int, a = [(2, u0)] ∧ S.1 u0 = 29 ∧ p u0 S V) (fun a S V rs S' V' => ∃ u0 r : Int, a = [(2, u0)] ∧ rs = [(0, r)] ∧ q u0 S V r S' V') := j_callV n_NWk h.2.2.2.2.2 h.1 hM ⟨h.2.1.1, h.2.1.2, h.2.2.1, h.2.2.2.1, h.2.2.2.2.1⟩ ⟨n_CB (y := y_10_8) (bytes := b_10_8) 0 h.2.2.2.2.1 n_w396 n_w495 n_w7 ⟨by decide, by decide, by decide +kernel⟩ rfl rfl ⟨by rw [hrm.1]; exact Nat.le_of_ble_eq_true rfl, by rw [hrm.2]; exact Nat.le_of_ble_eq_true rfl⟩, h.2.2.2.2.1 _ n_w394, h.2.2.2.2.1 _ n_w395⟩ (Cn := RX8) (fun a S V hP => by obtain ⟨u0, rfl, e, -⟩ := hP; exact ⟨u0, _, 8, _, _, TX8, 3, rfl, rfl, by rw [e]; decide, by rw [e]; rfl, rfl⟩)
theorem t10_9_0 {C : qCx} {G : jG} {S : jS} {V : jH} {nc ns : Nat} {l0 l1 : Int} (h : x10_9 C G) (c1 : S.1 l0 = 29) (k : l1 = V l0 1 → j_ok n_KT 2 C G 32 [] [] S V nc ns) (k' : ¬ l1 = V l0 1 → j_ok n_KT 2 C G 8 [(0, (2, l0)), (1, (0, l1))] [] S V nc ns) : j_ok n_KT 2 C G 0 [(0, (2, l0)), (1, (0, l1))] [] S V nc ns := by
  have E := n_E h
  refine j_iload_n E d10_9_0 rfl 1 rfl ?_
  refine j_aload_n E d10_9_1 rfl 0 rfl ?_
  refine j_getI (f := 1) (fg8_17 h) d10_9_2 c1 (by decide) rfl rfl ?_
  exact j_icmp_eq E d10_9_5 (t := 32) rfl (fun q => j_pick [] rfl (k q)) (fun q => j_pick [0, 1] rfl (k' q))
theorem t10_9_8 {C : qCx} {G : jG} {S : jS} {V : jH} {nc ns : Nat} {l0 l1 : Int} (h : x10_9 C G)  (k : ¬ l1 = 2 → j_ok n_KT 2 C G 21 [(0, (2, l0)), (1, (0, l1))] [] S V nc ns) (k' : l1 = 2 → j_ok n_KT 2 C G 13 [(0, (2, l0)), (1, (0, l1))] [] S V nc ns) : j_ok n_KT 2 C G 8 [(0, (2, l0)), (1, (0, l1))] [] S V nc ns := by
  have E := n_E h
  refine j_iload_n E d10_9_8 rfl 1 rfl ?_
  refine j_iconst E d10_9_9 (by decide) ?_
  exact j_icmp_ne E d10_9_10 (t := 21) rfl (fun q => j_pick [0, 1] rfl (k q)) (fun q => j_pick [0, 1] rfl (k' q))
theorem t10_9_13 {C : qCx} {G : jG} {S : jS} {V : jH} {nc ns : Nat} {l0 l1 : Int} (h : x10_9 C G) (c1 : S.1 l0 = 29) (k : V l0 1 = 3 → j_ok n_KT 2 C G 32 [] [] S V nc ns) (k' : ¬ V l0 1 = 3 → j_ok n_KT 2 C G 21 [(0, (2, l0)), (1, (0, l1))] [] S V nc ns) : j_ok n_KT 2 C G 13 [(0, (2, l0)), (1, (0, l1))] [] S V nc ns := by
  have E := n_E h
  refine j_aload_n E d10_9_13 rfl 0 rfl ?_
  refine j_getI (f := 1) (fg8_17 h) d10_9_14 c1 (by decide) rfl rfl ?_
  refine j_iconst E d10_9_17 (by decide) ?_
  exact j_icmp_eq E d10_9_18 (t := 32) rfl (fun q => j_pick [] rfl (k q)) (fun q => j_pick [0, 1] rfl (k' q))
theorem t10_9_21 {C : qCx} {G : jG} {S : jS} {V : jH} {nc ns : Nat} {l0 l1 : Int} (h : x10_9 C G)  (k : ¬ l1 = 0 → j_ok n_KT 2 C G 36 [] [] S V nc ns) (k' : l1 = 0 → j_ok n_KT 2 C G 25 [(0, (2, l0))] [] S V nc ns) : j_ok n_KT 2 C G 21 [(0, (2, l0)), (1, (0, l1))] [] S V nc ns := by
  have E := n_E h
  refine j_iload_n E d10_9_21 rfl 1 rfl ?_
  exact j_if_ne E d10_9_22 (t := 36) rfl (fun q => j_pick [] rfl (k q)) (fun q => j_pick [0] rfl (k' q))
theorem t10_9_25 {C : qCx} {G : jG} {S : jS} {V : jH} {nc ns : Nat} {l0 : Int} {mc ms : Nat} {pp : Int → jS → jH → Prop} {qq : Int → jS → jH → Int → jS → jH → Prop} (h : x10_9 C G) (hrm : C.2.2.2.1.frames = 2 ∧ C.2.2.2.1.locals = 46) (c1 : S.1 l0 = 29) (hM : M10_8 C.2.1 mc ms pp qq) (hp : pp l0 S V) (hc : nc + mc ≤ C.2.2.2.1.cells) (hs : ns + ms ≤ C.2.2.2.1.slots) (k : ∀ (r : Int) (S' : jS) (V' : jH), qq l0 S V r S' V' → j_ok n_KT 2 C G 29 [] [(0, r)] S' V' (nc + mc) (ns + ms)) : j_ok n_KT 2 C G 25 [(0, (2, l0))] [] S V nc ns := by
  have E := n_E h
  refine j_aload_n E d10_9_25 rfl 0 rfl ?_
  refine j_call E (K10_9_26 h hrm hM) d10_9_26 (a := [(2, l0)]) (sk := []) rfl ⟨l0, rfl, c1, hp⟩ (Nat.le_of_ble_eq_true rfl) hc hs ?_
  rintro rs S' V' ⟨z0, r, e1, rfl, q⟩
  simp only [List.cons.injEq, Prod.mk.injEq, and_true, true_and] at e1
  obtain ⟨rfl⟩ := e1
  exact j_pick [] rfl (k r S' V' q)
theorem t10_9_29 {C : qCx} {G : jG} {S : jS} {V : jH} {nc ns : Nat} {s0 : Int} (h : x10_9 C G)  (k : s0 = 0 → j_ok n_KT 2 C G 36 [] [] S V nc ns) (k' : ¬ s0 = 0 → j_ok n_KT 2 C G 32 [] [] S V nc ns) : j_ok n_KT 2 C G 29 [] [(0, s0)] S V nc ns := by
  have E := n_E h
  exact j_if_eq E d10_9_29 (t := 36) rfl (fun q => j_pick [] rfl (k q)) (fun q => j_pick [] rfl (k' q))
theorem t10_9_32 {C : qCx} {G : jG} {S : jS} {V : jH} {nc ns : Nat} (h : x10_9 C G)  (k : j_ok n_KT 2 C G 37 [] [(0, 1)] S V nc ns) : j_ok n_KT 2 C G 32 [] [] S V nc ns := by
  have E := n_E h
  refine j_iconst E d10_9_32 (by decide) ?_
  refine j_goto E d10_9_33 (t := 37) rfl ?_
  exact j_pick [] rfl k
theorem t10_9_36 {C : qCx} {G : jG} {S : jS} {V : jH} {nc ns : Nat} (h : x10_9 C G)  (k : j_ok n_KT 2 C G 37 [] [(0, 0)] S V nc ns) : j_ok n_KT 2 C G 36 [] [] S V nc ns := by
  have E := n_E h
  refine j_iconst E d10_9_36 (by decide) ?_
  exact j_pick [] rfl k
theorem t10_9_37 {C : qCx} {G : jG} {S : jS} {V : jH} {nc ns : Nat} {s0 : Int} {mc ms : Nat} {qf : Int → jS → jH → Prop} (h : x10_9 C G)  (R : j_Rz n_KT 2 C G b_10_9 mc ms qf) (hz : 0 ≤ s0 ∧ s0 ≤ 1) (q : qf s0 S V) (hc : nc ≤ mc) (hs : ns ≤ ms) : j_ok n_KT 2 C G 37 [] [(0, s0)] S V nc ns := by
  have E := n_E h
  exact R _ _ _ _ _ _ _ d10_9_37 hz q hc hs
/- BalanceCoder.as(II)I -/
abbrev b_1_11 : ByteArray := prog_1_method_11_code
def y_1_11 : MethodName := ⟨"BalanceCoder", "as", "(II)I"⟩
abbrev x1_11 (C : qCx) (G : jG) : Prop := n_ctx C b_1_11 4 "BalanceCoder" G.1 G.2.1
def M1_11 (l : Launch) (mc ms : Nat) (p : Int → Int → Int → jS → jH → Prop) (q : Int → Int → Int → jS → jH → Int → jS → jH → Prop) : Prop := j_Met l vwCl n_TL n_NW n_KT y_1_11 (Cond.code y_1_11 b_1_11 4 (some .int) :: n_GW) { frames := 3, cells := mc, slots := ms, locals := 67 } mc ms (fun a S V => ∃ u0 u1 u2 : Int, a = [(2, u0), (0, u1), (0, u2)] ∧ S.1 u0 = 31 ∧ p u0 u1 u2 S V) (fun a S V rs S' V' => ∃ u0 u1 u2 r : Int, a = [(2, u0), (0, u1), (0, u2)] ∧ rs = [(0, r)] ∧ q u0 u1 u2 S V r S' V')
theorem e1_11 {l : Launch} {mc ms : Nat} {p : Int → Int → Int → jS → jH → Prop} {q : Int → Int → Int → jS → jH → Int → jS → jH → Prop} (body : ∀ (C : qCx) (G : jG), x1_11 C G → C.2.2.2.1.frames = 3 ∧ C.2.2.2.1.locals = 67 → C.2.2.2.1.cells = mc ∧ C.2.2.2.1.slots = ms → C.2.1 = l → C.2.2.2.2.2.2.2.2.1.name = "as" → ∀ (u0 u1 u2 : Int) (S : jS) (V : jH), S.1 u0 = 31 → p u0 u1 u2 S V → j_Ri n_KT 4 C G b_1_11 mc ms (q u0 u1 u2 S V) → j_ok n_KT 4 C G 0 [(0, (2, u0)), (1, (0, u1)), (2, (0, u2))] [] S V 0 0) : M1_11 l mc ms p q := by
  refine j_method (ws' := n_GW) (by decide) rfl ?_ ?_
  · rintro a S V ⟨u0, u1, u2, rfl, -⟩
    exact Nat.le_of_ble_eq_true rfl
  · rintro C G htl hl hrm hm hml ho hts hnm hE a S V ⟨u0, u1, u2, rfl, ht, hp⟩ R
    exact body C G ⟨htl, hm, hml, ho, fun w hw => hts w (List.mem_cons_of_mem _ hw), hE⟩ (by rw [hrm]; exact ⟨rfl, rfl⟩) (by rw [hrm]; exact ⟨rfl, rfl⟩) hl hnm u0 u1 u2 S V ht hp (fun pc lo r S' V' nc ns d q hc hs => R.2.1 rfl pc lo r S' V' nc ns d ⟨u0, u1, u2, r, rfl, rfl, q⟩ hc hs)
theorem d1_11_0 : decode b_1_11 0 = .ok (.aload_n 0, 1) := by decide +kernel
theorem d1_11_1 : decode b_1_11 1 = .ok (.iload_n 1, 1) := by decide +kernel
theorem d1_11_2 : decode b_1_11 2 = .ok (.invokevirtual 92, 3) := by decide +kernel
theorem d1_11_5 : decode b_1_11 5 = .ok (.astore_n 3, 1) := by decide +kernel
theorem d1_11_6 : decode b_1_11 6 = .ok (.aload_n 3, 1) := by decide +kernel
theorem d1_11_7 : decode b_1_11 7 = .ok (.ifnull 10, 3) := by decide +kernel
theorem d1_11_10 : decode b_1_11 10 = .ok (.iload_n 2, 1) := by decide +kernel
theorem d1_11_11 : decode b_1_11 11 = .ok (.invokestatic 75, 3) := by decide +kernel
theorem d1_11_14 : decode b_1_11 14 = .ok (.ifCond .ne 9, 3) := by decide +kernel
theorem d1_11_17 : decode b_1_11 17 = .ok (.aload_n 0, 1) := by decide +kernel
theorem d1_11_18 : decode b_1_11 18 = .ok (.iconst (-1), 1) := by decide +kernel
theorem d1_11_19 : decode b_1_11 19 = .ok (.invokevirtual 55, 3) := by decide +kernel
theorem d1_11_22 : decode b_1_11 22 = .ok (.ireturn, 1) := by decide +kernel
theorem d1_11_23 : decode b_1_11 23 = .ok (.aload_n 3, 1) := by decide +kernel
theorem d1_11_24 : decode b_1_11 24 = .ok (.iload_n 2, 1) := by decide +kernel
theorem d1_11_25 : decode b_1_11 25 = .ok (.invokevirtual 148, 3) := by decide +kernel
theorem d1_11_28 : decode b_1_11 28 = .ok (.ifCond .eq 7, 3) := by decide +kernel
theorem d1_11_31 : decode b_1_11 31 = .ok (.iload_n 1, 1) := by decide +kernel
theorem d1_11_32 : decode b_1_11 32 = .ok (.goto 9, 3) := by decide +kernel
theorem d1_11_35 : decode b_1_11 35 = .ok (.aload_n 0, 1) := by decide +kernel
theorem d1_11_36 : decode b_1_11 36 = .ok (.bipush (-3), 2) := by decide +kernel
theorem d1_11_38 : decode b_1_11 38 = .ok (.invokevirtual 55, 3) := by decide +kernel
theorem d1_11_41 : decode b_1_11 41 = .ok (.ireturn, 1) := by decide +kernel
theorem K1_11_2 {C : qCx} {G : jG} {mc ms : Nat} {p : Int → Int → jS → jH → Prop} {q : Int → Int → jS → jH → Int → jS → jH → Prop} (h : x1_11 C G) (hrm : C.2.2.2.1.frames = 3 ∧ C.2.2.2.1.locals = 67) (hM : M1_30 C.2.1 mc ms p q) : j_Call C b_1_11 n_KT G.1 G.2.1 4 (.invokevirtual 92) mc ms (fun a S V => ∃ u0 u1 : Int, a = [(2, u0), (0, u1)] ∧ S.1 u0 = 31 ∧ p u0 u1 S V) (fun a S V rs S' V' => ∃ u0 u1 r : Int, a = [(2, u0), (0, u1)] ∧ rs = [(2, r)] ∧ q u0 u1 S V r S' V') := j_callV n_NWk h.2.2.2.2.2 h.1 hM ⟨h.2.1.1, h.2.1.2, h.2.2.1, h.2.2.2.1, h.2.2.2.2.1⟩ ⟨n_CB (y := y_1_30) (bytes := b_1_30) 1 h.2.2.2.2.1 n_w367 n_w364 n_w1 ⟨by decide, by decide, by decide +kernel⟩ rfl rfl ⟨by rw [hrm.1]; exact Nat.le_of_ble_eq_true rfl, by rw [hrm.2]; exact Nat.le_of_ble_eq_true rfl⟩, h.2.2.2.2.1 _ n_w366, h.2.2.2.2.1 _ n_s2⟩ (Cn := RX10) (fun a S V hP => by obtain ⟨u0, u1, rfl, e, -⟩ := hP; exact ⟨u0, _, 10, _, _, TX10, 8, rfl, rfl, by rw [e]; decide, by rw [e]; rfl, rfl⟩)
theorem K1_11_11 {C : qCx} {G : jG} {mc ms : Nat} {p : Int → jS → jH → Prop} {q : Int → jS → jH → Int → jS → jH → Prop} (h : x1_11 C G) (hrm : C.2.2.2.1.frames = 3 ∧ C.2.2.2.1.locals = 67) (hM : M1_31 C.2.1 mc ms p q) : j_Call C b_1_11 n_KT G.1 G.2.1 4 (.invokestatic 75) mc ms (fun a S V => ∃ u0 : Int, a = [(0, u0)] ∧ p u0 S V) (fun a S V rs S' V' => ∃ u0 r : Int, a = [(0, u0)] ∧ rs = [(0, r)] ∧ q u0 S V r S' V') := j_callS n_NWk h.2.2.2.2.2 h.1 hM ⟨h.2.1.1, h.2.1.2, h.2.2.1, h.2.2.2.1, h.2.2.2.2.1⟩ ⟨n_CB (y := y_1_31) (bytes := b_1_31) 1 h.2.2.2.2.1 n_w335 n_w333 n_w1 ⟨by decide, by decide, by decide +kernel⟩ rfl rfl ⟨by rw [hrm.1]; exact Nat.le_of_ble_eq_true rfl, by rw [hrm.2]; exact Nat.le_of_ble_eq_true rfl⟩, h.2.2.2.2.1 _ n_w334⟩ (fun a S V hP => by obtain ⟨u0, rfl, -⟩ := hP; rfl)
theorem K1_11_19 {C : qCx} {G : jG} {mc ms : Nat} {p : Int → Int → jS → jH → Prop} {q : Int → Int → jS → jH → Int → jS → jH → Prop} (h : x1_11 C G) (hrm : C.2.2.2.1.frames = 3 ∧ C.2.2.2.1.locals = 67) (hM : M1_27 C.2.1 mc ms p q) : j_Call C b_1_11 n_KT G.1 G.2.1 4 (.invokevirtual 55) mc ms (fun a S V => ∃ u0 u1 : Int, a = [(2, u0), (0, u1)] ∧ S.1 u0 = 31 ∧ p u0 u1 S V) (fun a S V rs S' V' => ∃ u0 u1 r : Int, a = [(2, u0), (0, u1)] ∧ rs = [(0, r)] ∧ q u0 u1 S V r S' V') := j_callV n_NWk h.2.2.2.2.2 h.1 hM ⟨h.2.1.1, h.2.1.2, h.2.2.1, h.2.2.2.1, h.2.2.2.2.1⟩ ⟨n_CB (y := y_1_27) (bytes := b_1_27) 1 h.2.2.2.2.1 n_w309 n_w306 n_w1 ⟨by decide, by decide, by decide +kernel⟩ rfl rfl ⟨by rw [hrm.1]; exact Nat.le_of_ble_eq_true rfl, by rw [hrm.2]; exact Nat.le_of_ble_eq_true rfl⟩, h.2.2.2.2.1 _ n_w308, h.2.2.2.2.1 _ n_s1⟩ (Cn := RX10) (fun a S V hP => by obtain ⟨u0, u1, rfl, e, -⟩ := hP; exact ⟨u0, _, 10, _, _, TX10, 8, rfl, rfl, by rw [e]; decide, by rw [e]; rfl, rfl⟩)
theorem K1_11_25 {C : qCx} {G : jG} {mc ms : Nat} {p : Int → Int → jS → jH → Prop} {q : Int → Int → jS → jH → Int → jS → jH → Prop} (h : x1_11 C G) (hrm : C.2.2.2.1.frames = 3 ∧ C.2.2.2.1.locals = 67) (hM : M10_9 C.2.1 mc ms p q) : j_Call C b_1_11 n_KT G.1 G.2.1 4 (.invokevirtual 148) mc ms (fun a S V => ∃ u0 u1 : Int, a = [(2, u0), (0, u1)] ∧ S.1 u0 = 29 ∧ p u0 u1 S V) (fun a S V rs S' V' => ∃ u0 u1 r : Int, a = [(2, u0), (0, u1)] ∧ rs = [(0, r)] ∧ q u0 u1 S V r S' V') := j_callV n_NWk h.2.2.2.2.2 h.1 hM ⟨h.2.1.1, h.2.1.2, h.2.2.1, h.2.2.2.1, h.2.2.2.2.1⟩ ⟨n_CB (y := y_10_9) (bytes := b_10_9) 1 h.2.2.2.2.1 n_w494 n_w491 n_w7 ⟨by decide, by decide, by decide +kernel⟩ rfl rfl ⟨by rw [hrm.1]; exact Nat.le_of_ble_eq_true rfl, by rw [hrm.2]; exact Nat.le_of_ble_eq_true rfl⟩, h.2.2.2.2.1 _ n_w492, h.2.2.2.2.1 _ n_w493⟩ (Cn := RX8) (fun a S V hP => by obtain ⟨u0, u1, rfl, e, -⟩ := hP; exact ⟨u0, _, 8, _, _, TX8, 3, rfl, rfl, by rw [e]; decide, by rw [e]; rfl, rfl⟩)
theorem K1_11_38 {C : qCx} {G : jG} {mc ms : Nat} {p : Int → Int → jS → jH → Prop} {q : Int → Int → jS → jH → Int → jS → jH → Prop} (h : x1_11 C G) (hrm : C.2.2.2.1.frames = 3 ∧ C.2.2.2.1.locals = 67) (hM : M1_27 C.2.1 mc ms p q) : j_Call C b_1_11 n_KT G.1 G.2.1 4 (.invokevirtual 55) mc ms (fun a S V => ∃ u0 u1 : Int, a = [(2, u0), (0, u1)] ∧ S.1 u0 = 31 ∧ p u0 u1 S V) (fun a S V rs S' V' => ∃ u0 u1 r : Int, a = [(2, u0), (0, u1)] ∧ rs = [(0, r)] ∧ q u0 u1 S V r S' V') := j_callV n_NWk h.2.2.2.2.2 h.1 hM ⟨h.2.1.1, h.2.1.2, h.2.2.1, h.2.2.2.1, h.2.2.2.2.1⟩ ⟨n_CB (y := y_1_27) (bytes := b_1_27) 1 h.2.2.2.2.1 n_w309 n_w306 n_w1 ⟨by decide, by decide, by decide +kernel⟩ rfl rfl ⟨by rw [hrm.1]; exact Nat.le_of_ble_eq_true rfl, by rw [hrm.2]; exact Nat.le_of_ble_eq_true rfl⟩, h.2.2.2.2.1 _ n_w308, h.2.2.2.2.1 _ n_s1⟩ (Cn := RX10) (fun a S V hP => by obtain ⟨u0, u1, rfl, e, -⟩ := hP; exact ⟨u0, _, 10, _, _, TX10, 8, rfl, rfl, by rw [e]; decide, by rw [e]; rfl, rfl⟩)
theorem t1_11_0 {C : qCx} {G : jG} {S : jS} {V : jH} {nc ns : Nat} {l0 l1 l2 : Int} {mc ms : Nat} {pp : Int → Int → jS → jH → Prop} {qq : Int → Int → jS → jH → Int → jS → jH → Prop} (h : x1_11 C G) (hrm : C.2.2.2.1.frames = 3 ∧ C.2.2.2.1.locals = 67) (c1 : S.1 l0 = 31) (hM : M1_30 C.2.1 mc ms pp qq) (hp : pp l0 l1 S V) (hc : nc + mc ≤ C.2.2.2.1.cells) (hs : ns + ms ≤ C.2.2.2.1.slots) (k : ∀ (r : Int) (S' : jS) (V' : jH), qq l0 l1 S V r S' V' → j_ok n_KT 4 C G 5 [(0, (2, l0)), (1, (0, l1)), (2, (0, l2))] [(2, r)] S' V' (nc + mc) (ns + ms)) : j_ok n_KT 4 C G 0 [(0, (2, l0)), (1, (0, l1)), (2, (0, l2))] [] S V nc ns := by
  have E := n_E h
  refine j_aload_n E d1_11_0 rfl 0 rfl ?_
  refine j_iload_n E d1_11_1 rfl 1 rfl ?_
  refine j_call E (K1_11_2 h hrm hM) d1_11_2 (a := [(2, l0), (0, l1)]) (sk := []) rfl ⟨l0, l1, rfl, c1, hp⟩ (Nat.le_of_ble_eq_true rfl) hc hs ?_
  rintro rs S' V' ⟨z0, z1, r, e1, rfl, q⟩
  simp only [List.cons.injEq, Prod.mk.injEq, and_true, true_and] at e1
  obtain ⟨rfl, rfl⟩ := e1
  exact j_pick [0, 1, 2] rfl (k r S' V' q)
theorem t1_11_5 {C : qCx} {G : jG} {S : jS} {V : jH} {nc ns : Nat} {l0 l1 l2 s0 : Int} (h : x1_11 C G)  (k : s0 = -1 → j_ok n_KT 4 C G 17 [(0, (2, l0))] [] S V nc ns) (k' : 0 ≤ s0 → S.1 s0 ≠ 0 → j_ok n_KT 4 C G 10 [(0, (2, l0)), (1, (0, l1)), (2, (0, l2)), (3, (2, s0))] [] S V nc ns) : j_ok n_KT 4 C G 5 [(0, (2, l0)), (1, (0, l1)), (2, (0, l2))] [(2, s0)] S V nc ns := by
  have E := n_E h
  refine j_astore_n E d1_11_5 rfl (by decide) (lo1 := [(0, (2, l0)), (1, (0, l1)), (2, (0, l2))]) rfl ?_
  refine j_aload_n E d1_11_6 rfl 0 rfl ?_
  exact j_ifnull E d1_11_7 (t := 17) rfl (fun q => j_pick [1] rfl (k q)) (fun q q2 => j_pick [1, 2, 3, 0] rfl (k' q q2))
theorem t1_11_10 {C : qCx} {G : jG} {S : jS} {V : jH} {nc ns : Nat} {l0 l1 l2 l3 : Int} {mc ms : Nat} {pp : Int → jS → jH → Prop} {qq : Int → jS → jH → Int → jS → jH → Prop} (h : x1_11 C G) (hrm : C.2.2.2.1.frames = 3 ∧ C.2.2.2.1.locals = 67)  (hM : M1_31 C.2.1 mc ms pp qq) (hp : pp l2 S V) (hc : nc + mc ≤ C.2.2.2.1.cells) (hs : ns + ms ≤ C.2.2.2.1.slots) (k : ∀ (r : Int) (S' : jS) (V' : jH), qq l2 S V r S' V' → j_ok n_KT 4 C G 14 [(0, (2, l0)), (1, (0, l1)), (2, (0, l2)), (3, (2, l3))] [(0, r)] S' V' (nc + mc) (ns + ms)) : j_ok n_KT 4 C G 10 [(0, (2, l0)), (1, (0, l1)), (2, (0, l2)), (3, (2, l3))] [] S V nc ns := by
  have E := n_E h
  refine j_iload_n E d1_11_10 rfl 2 rfl ?_
  refine j_call E (K1_11_11 h hrm hM) d1_11_11 (a := [(0, l2)]) (sk := []) rfl ⟨l2, rfl, hp⟩ (Nat.le_of_ble_eq_true rfl) hc hs ?_
  rintro rs S' V' ⟨z0, r, e1, rfl, q⟩
  simp only [List.cons.injEq, Prod.mk.injEq, and_true, true_and] at e1
  obtain ⟨rfl⟩ := e1
  exact j_pick [0, 1, 2, 3] rfl (k r S' V' q)
theorem t1_11_14 {C : qCx} {G : jG} {S : jS} {V : jH} {nc ns : Nat} {l0 l1 l2 l3 s0 : Int} (h : x1_11 C G)  (k : ¬ s0 = 0 → j_ok n_KT 4 C G 23 [(0, (2, l0)), (1, (0, l1)), (2, (0, l2)), (3, (2, l3))] [] S V nc ns) (k' : s0 = 0 → j_ok n_KT 4 C G 17 [(0, (2, l0))] [] S V nc ns) : j_ok n_KT 4 C G 14 [(0, (2, l0)), (1, (0, l1)), (2, (0, l2)), (3, (2, l3))] [(0, s0)] S V nc ns := by
  have E := n_E h
  exact j_if_ne E d1_11_14 (t := 23) rfl (fun q => j_pick [0, 1, 2, 3] rfl (k q)) (fun q => j_pick [0] rfl (k' q))
theorem t1_11_17 {C : qCx} {G : jG} {S : jS} {V : jH} {nc ns : Nat} {l0 : Int} {mc ms : Nat} {pp : Int → Int → jS → jH → Prop} {qq : Int → Int → jS → jH → Int → jS → jH → Prop} (h : x1_11 C G) (hrm : C.2.2.2.1.frames = 3 ∧ C.2.2.2.1.locals = 67) (c1 : S.1 l0 = 31) (hM : M1_27 C.2.1 mc ms pp qq) (hp : pp l0 ((-1)) S V) (hc : nc + mc ≤ C.2.2.2.1.cells) (hs : ns + ms ≤ C.2.2.2.1.slots) (k : ∀ (r : Int) (S' : jS) (V' : jH), qq l0 ((-1)) S V r S' V' → j_ok n_KT 4 C G 22 [] [(0, r)] S' V' (nc + mc) (ns + ms)) : j_ok n_KT 4 C G 17 [(0, (2, l0))] [] S V nc ns := by
  have E := n_E h
  refine j_aload_n E d1_11_17 rfl 0 rfl ?_
  refine j_iconst E d1_11_18 (by decide) ?_
  refine j_call E (K1_11_19 h hrm hM) d1_11_19 (a := [(2, l0), (0, (-1))]) (sk := []) rfl ⟨l0, (-1), rfl, c1, hp⟩ (Nat.le_of_ble_eq_true rfl) hc hs ?_
  rintro rs S' V' ⟨z0, z1, r, e1, rfl, q⟩
  simp only [List.cons.injEq, Prod.mk.injEq, and_true, true_and] at e1
  obtain ⟨rfl, rfl⟩ := e1
  exact j_pick [] rfl (k r S' V' q)
theorem t1_11_22 {C : qCx} {G : jG} {S : jS} {V : jH} {nc ns : Nat} {s0 : Int} {mc ms : Nat} {qf : Int → jS → jH → Prop} (h : x1_11 C G)  (R : j_Ri n_KT 4 C G b_1_11 mc ms qf) (q : qf s0 S V) (hc : nc ≤ mc) (hs : ns ≤ ms) : j_ok n_KT 4 C G 22 [] [(0, s0)] S V nc ns := by
  have E := n_E h
  exact R _ _ _ _ _ _ _ d1_11_22 q hc hs
theorem t1_11_23 {C : qCx} {G : jG} {S : jS} {V : jH} {nc ns : Nat} {l0 l1 l2 l3 : Int} {mc ms : Nat} {pp : Int → Int → jS → jH → Prop} {qq : Int → Int → jS → jH → Int → jS → jH → Prop} (h : x1_11 C G) (hrm : C.2.2.2.1.frames = 3 ∧ C.2.2.2.1.locals = 67) (c1 : S.1 l3 = 29) (hM : M10_9 C.2.1 mc ms pp qq) (hp : pp l3 l2 S V) (hc : nc + mc ≤ C.2.2.2.1.cells) (hs : ns + ms ≤ C.2.2.2.1.slots) (k : ∀ (r : Int) (S' : jS) (V' : jH), qq l3 l2 S V r S' V' → j_ok n_KT 4 C G 28 [(0, (2, l0)), (1, (0, l1))] [(0, r)] S' V' (nc + mc) (ns + ms)) : j_ok n_KT 4 C G 23 [(0, (2, l0)), (1, (0, l1)), (2, (0, l2)), (3, (2, l3))] [] S V nc ns := by
  have E := n_E h
  refine j_aload_n E d1_11_23 rfl 3 rfl ?_
  refine j_iload_n E d1_11_24 rfl 2 rfl ?_
  refine j_call E (K1_11_25 h hrm hM) d1_11_25 (a := [(2, l3), (0, l2)]) (sk := []) rfl ⟨l3, l2, rfl, c1, hp⟩ (Nat.le_of_ble_eq_true rfl) hc hs ?_
  rintro rs S' V' ⟨z0, z1, r, e1, rfl, q⟩
  simp only [List.cons.injEq, Prod.mk.injEq, and_true, true_and] at e1
  obtain ⟨rfl, rfl⟩ := e1
  exact j_pick [0, 1] rfl (k r S' V' q)
theorem t1_11_28 {C : qCx} {G : jG} {S : jS} {V : jH} {nc ns : Nat} {l0 l1 s0 : Int} (h : x1_11 C G)  (k : s0 = 0 → j_ok n_KT 4 C G 35 [(0, (2, l0))] [] S V nc ns) (k' : ¬ s0 = 0 → j_ok n_KT 4 C G 31 [(1, (0, l1))] [] S V nc ns) : j_ok n_KT 4 C G 28 [(0, (2, l0)), (1, (0, l1))] [(0, s0)] S V nc ns := by
  have E := n_E h
  exact j_if_eq E d1_11_28 (t := 35) rfl (fun q => j_pick [0] rfl (k q)) (fun q => j_pick [1] rfl (k' q))
theorem t1_11_31 {C : qCx} {G : jG} {S : jS} {V : jH} {nc ns : Nat} {l1 : Int} (h : x1_11 C G)  (k : j_ok n_KT 4 C G 41 [] [(0, l1)] S V nc ns) : j_ok n_KT 4 C G 31 [(1, (0, l1))] [] S V nc ns := by
  have E := n_E h
  refine j_iload_n E d1_11_31 rfl 0 rfl ?_
  refine j_goto E d1_11_32 (t := 41) rfl ?_
  exact j_pick [] rfl k
theorem t1_11_35 {C : qCx} {G : jG} {S : jS} {V : jH} {nc ns : Nat} {l0 : Int} {mc ms : Nat} {pp : Int → Int → jS → jH → Prop} {qq : Int → Int → jS → jH → Int → jS → jH → Prop} (h : x1_11 C G) (hrm : C.2.2.2.1.frames = 3 ∧ C.2.2.2.1.locals = 67) (c1 : S.1 l0 = 31) (hM : M1_27 C.2.1 mc ms pp qq) (hp : pp l0 ((-3)) S V) (hc : nc + mc ≤ C.2.2.2.1.cells) (hs : ns + ms ≤ C.2.2.2.1.slots) (k : ∀ (r : Int) (S' : jS) (V' : jH), qq l0 ((-3)) S V r S' V' → j_ok n_KT 4 C G 41 [] [(0, r)] S' V' (nc + mc) (ns + ms)) : j_ok n_KT 4 C G 35 [(0, (2, l0))] [] S V nc ns := by
  have E := n_E h
  refine j_aload_n E d1_11_35 rfl 0 rfl ?_
  refine j_bipush E d1_11_36 (by decide) ?_
  refine j_call E (K1_11_38 h hrm hM) d1_11_38 (a := [(2, l0), (0, (-3))]) (sk := []) rfl ⟨l0, (-3), rfl, c1, hp⟩ (Nat.le_of_ble_eq_true rfl) hc hs ?_
  rintro rs S' V' ⟨z0, z1, r, e1, rfl, q⟩
  simp only [List.cons.injEq, Prod.mk.injEq, and_true, true_and] at e1
  obtain ⟨rfl, rfl⟩ := e1
  exact j_pick [] rfl (k r S' V' q)
theorem t1_11_41 {C : qCx} {G : jG} {S : jS} {V : jH} {nc ns : Nat} {s0 : Int} {mc ms : Nat} {qf : Int → jS → jH → Prop} (h : x1_11 C G)  (R : j_Ri n_KT 4 C G b_1_11 mc ms qf) (q : qf s0 S V) (hc : nc ≤ mc) (hs : ns ≤ ms) : j_ok n_KT 4 C G 41 [] [(0, s0)] S V nc ns := by
  have E := n_E h
  exact R _ _ _ _ _ _ _ d1_11_41 q hc hs
/- BalanceCoder$Guide.begin(LBalanceCoder$Table;)V -/
abbrev b_6_2 : ByteArray := prog_6_method_2_code
def y_6_2 : MethodName := ⟨"BalanceCoder$Guide", "begin", "(LBalanceCoder$Table;)V"⟩
abbrev x6_2 (C : qCx) (G : jG) : Prop := n_ctx C b_6_2 2 "BalanceCoder$Guide" G.1 G.2.1
def M6_2 (l : Launch) (mc ms : Nat) (p : Int → Int → jS → jH → Prop) (q : Int → Int → jS → jH → jS → jH → Prop) : Prop := j_Met l vwCl n_TL n_NW n_KT y_6_2 (Cond.code y_6_2 b_6_2 2 none :: n_GW) { frames := 2, cells := mc, slots := ms, locals := 49 } mc ms (fun a S V => ∃ u0 u1 : Int, a = [(2, u0), (2, u1)] ∧ S.1 u0 = 25 ∧ p u0 u1 S V) (fun a S V rs S' V' => ∃ u0 u1 : Int, a = [(2, u0), (2, u1)] ∧ rs = [] ∧ q u0 u1 S V S' V')
theorem e6_2 {l : Launch} {mc ms : Nat} {p : Int → Int → jS → jH → Prop} {q : Int → Int → jS → jH → jS → jH → Prop} (body : ∀ (C : qCx) (G : jG), x6_2 C G → C.2.2.2.1.frames = 2 ∧ C.2.2.2.1.locals = 49 → C.2.2.2.1.cells = mc ∧ C.2.2.2.1.slots = ms → C.2.1 = l → C.2.2.2.2.2.2.2.2.1.name = "begin" → ∀ (u0 u1 : Int) (S : jS) (V : jH), S.1 u0 = 25 → p u0 u1 S V → j_Rv n_KT 2 C G b_6_2 mc ms (q u0 u1 S V) → j_ok n_KT 2 C G 0 [(0, (2, u0)), (1, (2, u1))] [] S V 0 0) : M6_2 l mc ms p q := by
  refine j_method (ws' := n_GW) (by decide) rfl ?_ ?_
  · rintro a S V ⟨u0, u1, rfl, -⟩
    exact Nat.le_of_ble_eq_true rfl
  · rintro C G htl hl hrm hm hml ho hts hnm hE a S V ⟨u0, u1, rfl, ht, hp⟩ R
    exact body C G ⟨htl, hm, hml, ho, fun w hw => hts w (List.mem_cons_of_mem _ hw), hE⟩ (by rw [hrm]; exact ⟨rfl, rfl⟩) (by rw [hrm]; exact ⟨rfl, rfl⟩) hl hnm u0 u1 S V ht hp (fun pc lo S' V' nc ns d q hc hs => R.1 rfl pc lo S' V' nc ns d ⟨u0, u1, rfl, rfl, q⟩ hc hs)
theorem d6_2_0 : decode b_6_2 0 = .ok (.aload_n 0, 1) := by decide +kernel
theorem d6_2_1 : decode b_6_2 1 = .ok (.iconst 0, 1) := by decide +kernel
theorem d6_2_2 : decode b_6_2 2 = .ok (.putfield 18, 3) := by decide +kernel
theorem d6_2_5 : decode b_6_2 5 = .ok (.aload_n 1, 1) := by decide +kernel
theorem d6_2_6 : decode b_6_2 6 = .ok (.getfield 22, 3) := by decide +kernel
theorem d6_2_9 : decode b_6_2 9 = .ok (.iconst 4, 1) := by decide +kernel
theorem d6_2_10 : decode b_6_2 10 = .ok (.if_icmp .ne 14, 3) := by decide +kernel
theorem d6_2_13 : decode b_6_2 13 = .ok (.aload_n 0, 1) := by decide +kernel
theorem d6_2_14 : decode b_6_2 14 = .ok (.getfield 12, 3) := by decide +kernel
theorem d6_2_17 : decode b_6_2 17 = .ok (.aload_n 1, 1) := by decide +kernel
theorem d6_2_18 : decode b_6_2 18 = .ok (.invokevirtual 27, 3) := by decide +kernel
theorem d6_2_21 : decode b_6_2 21 = .ok (.invokevirtual 31, 3) := by decide +kernel
theorem d6_2_24 : decode b_6_2 24 = .ok (.return_, 1) := by decide +kernel
theorem K6_2_18 {C : qCx} {G : jG} {mc ms : Nat} {p : Int → jS → jH → Prop} {q : Int → jS → jH → Int → jS → jH → Prop} (h : x6_2 C G) (hrm : C.2.2.2.1.frames = 2 ∧ C.2.2.2.1.locals = 49) (hM : M10_4 C.2.1 mc ms p q) : j_Call C b_6_2 n_KT G.1 G.2.1 2 (.invokevirtual 27) mc ms (fun a S V => ∃ u0 : Int, a = [(2, u0)] ∧ S.1 u0 = 29 ∧ p u0 S V) (fun a S V rs S' V' => ∃ u0 r : Int, a = [(2, u0)] ∧ rs = [(0, r)] ∧ q u0 S V r S' V') := j_callV n_NWk h.2.2.2.2.2 h.1 hM ⟨h.2.1.1, h.2.1.2, h.2.2.1, h.2.2.2.1, h.2.2.2.2.1⟩ ⟨n_CB (y := y_10_4) (bytes := b_10_4) 0 h.2.2.2.2.1 n_w348 n_w512 n_w7 ⟨by decide, by decide, by decide +kernel⟩ rfl rfl ⟨by rw [hrm.1]; exact Nat.le_of_ble_eq_true rfl, by rw [hrm.2]; exact Nat.le_of_ble_eq_true rfl⟩, h.2.2.2.2.1 _ n_w346, h.2.2.2.2.1 _ n_w347⟩ (Cn := RX8) (fun a S V hP => by obtain ⟨u0, rfl, e, -⟩ := hP; exact ⟨u0, _, 8, _, _, TX8, 3, rfl, rfl, by rw [e]; decide, by rw [e]; rfl, rfl⟩)
theorem K6_2_21 {C : qCx} {G : jG} {mc ms : Nat} {p : Int → Int → jS → jH → Prop} {q : Int → Int → jS → jH → jS → jH → Prop} (h : x6_2 C G) (hrm : C.2.2.2.1.frames = 2 ∧ C.2.2.2.1.locals = 49) (hM : M4_8 C.2.1 mc ms p q) : j_Call C b_6_2 n_KT G.1 G.2.1 2 (.invokevirtual 31) mc ms (fun a S V => ∃ u0 u1 : Int, a = [(2, u0), (0, u1)] ∧ S.1 u0 = 23 ∧ p u0 u1 S V) (fun a S V rs S' V' => ∃ u0 u1 : Int, a = [(2, u0), (0, u1)] ∧ rs = [] ∧ q u0 u1 S V S' V') := j_callV n_NWk h.2.2.2.2.2 h.1 hM ⟨h.2.1.1, h.2.1.2, h.2.2.1, h.2.2.2.1, h.2.2.2.2.1⟩ ⟨n_CB (y := y_4_8) (bytes := b_4_8) 1 h.2.2.2.2.1 n_w352 n_w513 n_w8 ⟨by decide, by decide, by decide +kernel⟩ rfl rfl ⟨by rw [hrm.1]; exact Nat.le_of_ble_eq_true rfl, by rw [hrm.2]; exact Nat.le_of_ble_eq_true rfl⟩, h.2.2.2.2.1 _ n_w350, h.2.2.2.2.1 _ n_w351⟩ (Cn := RX2) (fun a S V hP => by obtain ⟨u0, u1, rfl, e, -⟩ := hP; exact ⟨u0, _, 2, _, _, TX2, 1, rfl, rfl, by rw [e]; decide, by rw [e]; rfl, rfl⟩)
theorem t6_2_0 {C : qCx} {G : jG} {S : jS} {V : jH} {nc ns : Nat} {l0 l1 : Int} (h : x6_2 C G) (c1 : S.1 l0 = 25) (c2 : S.1 l1 = 29) (k : ¬ (j_up V l0 1 0) l1 1 = 4 → j_ok n_KT 2 C G 24 [] [] S (j_up V l0 1 0) nc ns) (k' : (j_up V l0 1 0) l1 1 = 4 → j_ok n_KT 2 C G 13 [(0, (2, l0)), (1, (2, l1))] [] S (j_up V l0 1 0) nc ns) : j_ok n_KT 2 C G 0 [(0, (2, l0)), (1, (2, l1))] [] S V nc ns := by
  have E := n_E h
  refine j_aload_n E d6_2_0 rfl 0 rfl ?_
  refine j_iconst E d6_2_1 (by decide) ?_
  refine j_putI (f := 1) (fp4_18 h) (n_hap h 25 4 0 _ rfl) d6_2_2 c1 (by decide) rfl rfl rfl ?_
  refine j_aload_n E d6_2_5 rfl 1 rfl ?_
  refine j_getI (f := 1) (fg4_22 h) d6_2_6 c2 (by decide) rfl rfl ?_
  refine j_iconst E d6_2_9 (by decide) ?_
  exact j_icmp_ne E d6_2_10 (t := 24) rfl (fun q => j_pick [] rfl (k q)) (fun q => j_pick [0, 1] rfl (k' q))
theorem t6_2_13 {C : qCx} {G : jG} {S : jS} {V : jH} {nc ns : Nat} {l0 l1 : Int} {mc ms : Nat} {pp : Int → jS → jH → Prop} {qq : Int → jS → jH → Int → jS → jH → Prop} (h : x6_2 C G) (L : j_L S) (hrm : C.2.2.2.1.frames = 2 ∧ C.2.2.2.1.locals = 49) (c1 : S.1 l0 = 25) (c2 : S.1 l1 = 29) (hM : M10_4 C.2.1 mc ms pp qq) (hp : pp l1 S V) (hc : nc + mc ≤ C.2.2.2.1.cells) (hs : ns + ms ≤ C.2.2.2.1.slots) (k : ∀ (r : Int) (S' : jS) (V' : jH), qq l1 S V r S' V' → j_ok n_KT 2 C G 21 [] [(0, r), (2, l0 + 1)] S' V' (nc + mc) (ns + ms)) : j_ok n_KT 2 C G 13 [(0, (2, l0)), (1, (2, l1))] [] S V nc ns := by
  have E := n_E h
  refine j_aload_n E d6_2_13 rfl 0 rfl ?_
  refine j_getS (f := 0) (x := l0 + 1) (fg4_12 h) d6_2_14 c1 (by decide) rfl rfl ((L4_0 L c1).trans (by omega)) ?_
  refine j_aload_n E d6_2_17 rfl 1 rfl ?_
  refine j_call E (K6_2_18 h hrm hM) d6_2_18 (a := [(2, l1)]) (sk := [(2, l0 + 1)]) rfl ⟨l1, rfl, c2, hp⟩ (Nat.le_of_ble_eq_true rfl) hc hs ?_
  rintro rs S' V' ⟨z0, r, e1, rfl, q⟩
  simp only [List.cons.injEq, Prod.mk.injEq, and_true, true_and] at e1
  obtain ⟨rfl⟩ := e1
  exact j_pick [] rfl (k r S' V' q)
theorem t6_2_21 {C : qCx} {G : jG} {S : jS} {V : jH} {nc ns : Nat} {s0 s1 : Int} {mc ms : Nat} {pp : Int → Int → jS → jH → Prop} {qq : Int → Int → jS → jH → jS → jH → Prop} (h : x6_2 C G) (hrm : C.2.2.2.1.frames = 2 ∧ C.2.2.2.1.locals = 49) (c1 : S.1 s1 = 23) (hM : M4_8 C.2.1 mc ms pp qq) (hp : pp s1 s0 S V) (hc : nc + mc ≤ C.2.2.2.1.cells) (hs : ns + ms ≤ C.2.2.2.1.slots) (k : ∀ (S' : jS) (V' : jH), qq s1 s0 S V S' V' → j_ok n_KT 2 C G 24 [] [] S' V' (nc + mc) (ns + ms)) : j_ok n_KT 2 C G 21 [] [(0, s0), (2, s1)] S V nc ns := by
  have E := n_E h
  refine j_call E (K6_2_21 h hrm hM) d6_2_21 (a := [(2, s1), (0, s0)]) (sk := []) rfl ⟨s1, s0, rfl, c1, hp⟩ (Nat.le_of_ble_eq_true rfl) hc hs ?_
  rintro rs S' V' ⟨z0, z1, e1, rfl, q⟩
  simp only [List.cons.injEq, Prod.mk.injEq, and_true, true_and] at e1
  obtain ⟨rfl, rfl⟩ := e1
  exact j_pick [] rfl (k S' V' q)
theorem t6_2_24 {C : qCx} {G : jG} {S : jS} {V : jH} {nc ns : Nat} {mc ms : Nat} {qf : jS → jH → Prop} (h : x6_2 C G)  (R : j_Rv n_KT 2 C G b_6_2 mc ms qf) (q : qf S V) (hc : nc ≤ mc) (hs : ns ≤ ms) : j_ok n_KT 2 C G 24 [] [] S V nc ns := by
  have E := n_E h
  exact R _ _ _ _ _ _ d6_2_24 q hc hs
/- BalanceCoder$Guide.dealOf(LBalanceCoder$Table;)LBalanceCoder$Deal; -/
abbrev b_6_3 : ByteArray := prog_6_method_3_code
def y_6_3 : MethodName := ⟨"BalanceCoder$Guide", "dealOf", "(LBalanceCoder$Table;)LBalanceCoder$Deal;"⟩
abbrev x6_3 (C : qCx) (G : jG) : Prop := n_ctx C b_6_3 2 "BalanceCoder$Guide" G.1 G.2.1
def M6_3 (l : Launch) (mc ms : Nat) (p : Int → Int → jS → jH → Prop) (q : Int → Int → jS → jH → Int → jS → jH → Prop) : Prop := j_Met l vwCl n_TL n_NW n_KT y_6_3 (Cond.code y_6_3 b_6_3 2 (some (.object "BalanceCoder$Deal")) :: n_GW) { frames := 2, cells := mc, slots := ms, locals := 46 } mc ms (fun a S V => ∃ u0 u1 : Int, a = [(2, u0), (2, u1)] ∧ S.1 u0 = 25 ∧ p u0 u1 S V) (fun a S V rs S' V' => ∃ u0 u1 r : Int, a = [(2, u0), (2, u1)] ∧ rs = [(2, r)] ∧ q u0 u1 S V r S' V')
theorem e6_3 {l : Launch} {mc ms : Nat} {p : Int → Int → jS → jH → Prop} {q : Int → Int → jS → jH → Int → jS → jH → Prop} (body : ∀ (C : qCx) (G : jG), x6_3 C G → C.2.2.2.1.frames = 2 ∧ C.2.2.2.1.locals = 46 → C.2.2.2.1.cells = mc ∧ C.2.2.2.1.slots = ms → C.2.1 = l → C.2.2.2.2.2.2.2.2.1.name = "dealOf" → ∀ (u0 u1 : Int) (S : jS) (V : jH), S.1 u0 = 25 → p u0 u1 S V → j_Rr n_KT 2 C G b_6_3 mc ms (q u0 u1 S V) → j_ok n_KT 2 C G 0 [(0, (2, u0)), (1, (2, u1))] [] S V 0 0) : M6_3 l mc ms p q := by
  refine j_method (ws' := n_GW) (by decide) rfl ?_ ?_
  · rintro a S V ⟨u0, u1, rfl, -⟩
    exact Nat.le_of_ble_eq_true rfl
  · rintro C G htl hl hrm hm hml ho hts hnm hE a S V ⟨u0, u1, rfl, ht, hp⟩ R
    exact body C G ⟨htl, hm, hml, ho, fun w hw => hts w (List.mem_cons_of_mem _ hw), hE⟩ (by rw [hrm]; exact ⟨rfl, rfl⟩) (by rw [hrm]; exact ⟨rfl, rfl⟩) hl hnm u0 u1 S V ht hp (fun pc lo r S' V' nc ns d q hc hs => R.2.2.2.2 (Or.inl ⟨_, rfl⟩) pc lo r S' V' nc ns d ⟨u0, u1, r, rfl, rfl, q⟩ hc hs)
theorem d6_3_0 : decode b_6_3 0 = .ok (.aload_n 1, 1) := by decide +kernel
theorem d6_3_1 : decode b_6_3 1 = .ok (.getfield 22, 3) := by decide +kernel
theorem d6_3_4 : decode b_6_3 4 = .ok (.iconst 4, 1) := by decide +kernel
theorem d6_3_5 : decode b_6_3 5 = .ok (.if_icmp .ne 8, 3) := by decide +kernel
theorem d6_3_8 : decode b_6_3 8 = .ok (.aload_n 0, 1) := by decide +kernel
theorem d6_3_9 : decode b_6_3 9 = .ok (.getfield 12, 3) := by decide +kernel
theorem d6_3_12 : decode b_6_3 12 = .ok (.areturn, 1) := by decide +kernel
theorem d6_3_13 : decode b_6_3 13 = .ok (.aload_n 1, 1) := by decide +kernel
theorem d6_3_14 : decode b_6_3 14 = .ok (.getfield 35, 3) := by decide +kernel
theorem d6_3_17 : decode b_6_3 17 = .ok (.aload_n 1, 1) := by decide +kernel
theorem d6_3_18 : decode b_6_3 18 = .ok (.getfield 22, 3) := by decide +kernel
theorem d6_3_21 : decode b_6_3 21 = .ok (.iconst 3, 1) := by decide +kernel
theorem d6_3_22 : decode b_6_3 22 = .ok (.if_icmp .ne 13, 3) := by decide +kernel
theorem d6_3_25 : decode b_6_3 25 = .ok (.aload_n 0, 1) := by decide +kernel
theorem d6_3_26 : decode b_6_3 26 = .ok (.getfield 18, 3) := by decide +kernel
theorem d6_3_29 : decode b_6_3 29 = .ok (.invokestatic 39, 3) := by decide +kernel
theorem d6_3_32 : decode b_6_3 32 = .ok (.goto 4, 3) := by decide +kernel
theorem d6_3_35 : decode b_6_3 35 = .ok (.iconst 0, 1) := by decide +kernel
theorem d6_3_36 : decode b_6_3 36 = .ok (.aaload, 1) := by decide +kernel
theorem d6_3_37 : decode b_6_3 37 = .ok (.areturn, 1) := by decide +kernel
theorem K6_3_29 {C : qCx} {G : jG} {mc ms : Nat} {p : Int → jS → jH → Prop} {q : Int → jS → jH → Int → jS → jH → Prop} (h : x6_3 C G) (hrm : C.2.2.2.1.frames = 2 ∧ C.2.2.2.1.locals = 46) (hM : M1_34 C.2.1 mc ms p q) : j_Call C b_6_3 n_KT G.1 G.2.1 2 (.invokestatic 39) mc ms (fun a S V => ∃ u0 : Int, a = [(0, u0)] ∧ p u0 S V) (fun a S V rs S' V' => ∃ u0 r : Int, a = [(0, u0)] ∧ rs = [(0, r)] ∧ q u0 S V r S' V') := j_callSN n_NWk h.2.2.2.2.2 h.1 hM ⟨h.2.1.1, h.2.1.2, h.2.2.1, h.2.2.2.1, h.2.2.2.2.1⟩ ⟨n_CN (y := y_1_34) (bytes := b_1_34) 1 h.2.2.2.2.1 n_w412 (h.2.2.2.2.2.2 _ (List.mem_of_getElem? (i := 31) rfl)) n_w1 ⟨by decide, by decide, by decide +kernel⟩ rfl rfl ⟨by rw [hrm.1]; exact Nat.le_of_ble_eq_true rfl, by rw [hrm.2]; exact Nat.le_of_ble_eq_true rfl⟩, h.2.2.2.2.1 _ n_w411, trivial⟩ (fun a S V hP => by obtain ⟨u0, rfl, -⟩ := hP; rfl)
theorem t6_3_0 {C : qCx} {G : jG} {S : jS} {V : jH} {nc ns : Nat} {l0 l1 : Int} (h : x6_3 C G) (c1 : S.1 l1 = 29) (k : ¬ V l1 1 = 4 → j_ok n_KT 2 C G 13 [(0, (2, l0)), (1, (2, l1))] [] S V nc ns) (k' : V l1 1 = 4 → j_ok n_KT 2 C G 8 [(0, (2, l0))] [] S V nc ns) : j_ok n_KT 2 C G 0 [(0, (2, l0)), (1, (2, l1))] [] S V nc ns := by
  have E := n_E h
  refine j_aload_n E d6_3_0 rfl 1 rfl ?_
  refine j_getI (f := 1) (fg4_22 h) d6_3_1 c1 (by decide) rfl rfl ?_
  refine j_iconst E d6_3_4 (by decide) ?_
  exact j_icmp_ne E d6_3_5 (t := 13) rfl (fun q => j_pick [0, 1] rfl (k q)) (fun q => j_pick [0] rfl (k' q))
theorem t6_3_8 {C : qCx} {G : jG} {S : jS} {V : jH} {nc ns : Nat} {l0 : Int} {mc ms : Nat} {qf : Int → jS → jH → Prop} (h : x6_3 C G) (L : j_L S) (c1 : S.1 l0 = 25) (R : j_Rr n_KT 2 C G b_6_3 mc ms qf) (q : qf (l0 + 1) S V) (hc : nc ≤ mc) (hs : ns ≤ ms) : j_ok n_KT 2 C G 8 [(0, (2, l0))] [] S V nc ns := by
  have E := n_E h
  refine j_aload_n E d6_3_8 rfl 0 rfl ?_
  refine j_getS (f := 0) (x := l0 + 1) (fg4_12 h) d6_3_9 c1 (by decide) rfl rfl ((L4_0 L c1).trans (by omega)) ?_
  exact R _ _ _ _ _ _ _ d6_3_12 q hc hs
theorem t6_3_13 {C : qCx} {G : jG} {S : jS} {V : jH} {nc ns : Nat} {l0 l1 : Int} (h : x6_3 C G) (L : j_L S) (c1 : S.1 l1 = 29) (k : ¬ V l1 1 = 3 → j_ok n_KT 2 C G 35 [] [(2, l1 + 1)] S V nc ns) (k' : V l1 1 = 3 → j_ok n_KT 2 C G 25 [(0, (2, l0))] [(2, l1 + 1)] S V nc ns) : j_ok n_KT 2 C G 13 [(0, (2, l0)), (1, (2, l1))] [] S V nc ns := by
  have E := n_E h
  refine j_aload_n E d6_3_13 rfl 1 rfl ?_
  refine j_getS (f := 0) (x := l1 + 1) (fg4_35 h) d6_3_14 c1 (by decide) rfl rfl ((L8_0 L c1).trans (by omega)) ?_
  refine j_aload_n E d6_3_17 rfl 1 rfl ?_
  refine j_getI (f := 1) (fg4_22 h) d6_3_18 c1 (by decide) rfl rfl ?_
  refine j_iconst E d6_3_21 (by decide) ?_
  exact j_icmp_ne E d6_3_22 (t := 35) rfl (fun q => j_pick [] rfl (k q)) (fun q => j_pick [0] rfl (k' q))
theorem t6_3_25 {C : qCx} {G : jG} {S : jS} {V : jH} {nc ns : Nat} {l0 s0 : Int} {mc ms : Nat} {pp : Int → jS → jH → Prop} {qq : Int → jS → jH → Int → jS → jH → Prop} (h : x6_3 C G) (hrm : C.2.2.2.1.frames = 2 ∧ C.2.2.2.1.locals = 46) (c1 : S.1 l0 = 25) (hM : M1_34 C.2.1 mc ms pp qq) (hp : pp (V l0 1) S V) (hc : nc + mc ≤ C.2.2.2.1.cells) (hs : ns + ms ≤ C.2.2.2.1.slots) (k : ∀ (r : Int) (S' : jS) (V' : jH), qq (V l0 1) S V r S' V' → j_ok n_KT 2 C G 32 [] [(0, r), (2, s0)] S' V' (nc + mc) (ns + ms)) : j_ok n_KT 2 C G 25 [(0, (2, l0))] [(2, s0)] S V nc ns := by
  have E := n_E h
  refine j_aload_n E d6_3_25 rfl 0 rfl ?_
  refine j_getI (f := 1) (fg4_18 h) d6_3_26 c1 (by decide) rfl rfl ?_
  refine j_call E (K6_3_29 h hrm hM) d6_3_29 (a := [(0, V l0 1)]) (sk := [(2, s0)]) rfl ⟨V l0 1, rfl, hp⟩ (Nat.le_of_ble_eq_true rfl) hc hs ?_
  rintro rs S' V' ⟨z0, r, e1, rfl, q⟩
  simp only [List.cons.injEq, Prod.mk.injEq, and_true, true_and] at e1
  obtain ⟨rfl⟩ := e1
  exact j_pick [] rfl (k r S' V' q)
theorem t6_3_32 {C : qCx} {G : jG} {S : jS} {V : jH} {nc ns : Nat} {s0 s1 : Int} (h : x6_3 C G)  (k : j_ok n_KT 2 C G 36 [] [(0, s0), (2, s1)] S V nc ns) : j_ok n_KT 2 C G 32 [] [(0, s0), (2, s1)] S V nc ns := by
  have E := n_E h
  refine j_goto E d6_3_32 (t := 36) rfl ?_
  exact j_pick [] rfl k
theorem t6_3_35 {C : qCx} {G : jG} {S : jS} {V : jH} {nc ns : Nat} {s0 : Int} (h : x6_3 C G)  (k : j_ok n_KT 2 C G 36 [] [(0, 0), (2, s0)] S V nc ns) : j_ok n_KT 2 C G 35 [] [(2, s0)] S V nc ns := by
  have E := n_E h
  refine j_iconst E d6_3_35 (by decide) ?_
  exact j_pick [] rfl k
theorem t6_3_36 {C : qCx} {G : jG} {S : jS} {V : jH} {nc ns : Nat} {s0 s1 : Int} {mc ms : Nat} {qf : Int → jS → jH → Prop} (h : x6_3 C G) (L : j_L S) (c1 : S.1 s1 = 19) (c2 : 0 ≤ s0) (c3 : s0 < 4) (R : j_Rr n_KT 2 C G b_6_3 mc ms qf) (q : qf (s1 + 1 + 2 * s0) S V) (hc : nc ≤ mc) (hs : ns ≤ ms) : j_ok n_KT 2 C G 36 [] [(0, s0), (2, s1)] S V nc ns := by
  have E := n_E h
  refine j_aaldS (x := s1 + 1 + 2 * s0) E d6_3_36 c1 (by decide) rfl c2 c3 ((LDealA L (i := s0) c1 c2 c3).trans (by omega)) ?_
  exact R _ _ _ _ _ _ _ d6_3_37 q hc hs
/- BalanceCoder$Bench.planSign(IILBalanceCoder$Deal;)V -/
abbrev b_2_3 : ByteArray := prog_2_method_3_code
def y_2_3 : MethodName := ⟨"BalanceCoder$Bench", "planSign", "(IILBalanceCoder$Deal;)V"⟩
abbrev x2_3 (C : qCx) (G : jG) : Prop := n_ctx C b_2_3 4 "BalanceCoder$Bench" G.1 G.2.1
def M2_3 (l : Launch) (mc ms : Nat) (p : Int → Int → Int → Int → jS → jH → Prop) (q : Int → Int → Int → Int → jS → jH → jS → jH → Prop) : Prop := j_Met l vwCl n_TL n_NW n_KT y_2_3 (Cond.code y_2_3 b_2_3 4 none :: n_GW) { frames := 2, cells := mc, slots := ms, locals := 47 } mc ms (fun a S V => ∃ u0 u1 u2 u3 : Int, a = [(2, u0), (0, u1), (0, u2), (2, u3)] ∧ S.1 u0 = 21 ∧ p u0 u1 u2 u3 S V) (fun a S V rs S' V' => ∃ u0 u1 u2 u3 : Int, a = [(2, u0), (0, u1), (0, u2), (2, u3)] ∧ rs = [] ∧ q u0 u1 u2 u3 S V S' V')
theorem e2_3 {l : Launch} {mc ms : Nat} {p : Int → Int → Int → Int → jS → jH → Prop} {q : Int → Int → Int → Int → jS → jH → jS → jH → Prop} (body : ∀ (C : qCx) (G : jG), x2_3 C G → C.2.2.2.1.frames = 2 ∧ C.2.2.2.1.locals = 47 → C.2.2.2.1.cells = mc ∧ C.2.2.2.1.slots = ms → C.2.1 = l → C.2.2.2.2.2.2.2.2.1.name = "planSign" → ∀ (u0 u1 u2 u3 : Int) (S : jS) (V : jH), S.1 u0 = 21 → p u0 u1 u2 u3 S V → j_Rv n_KT 4 C G b_2_3 mc ms (q u0 u1 u2 u3 S V) → j_ok n_KT 4 C G 0 [(0, (2, u0)), (1, (0, u1)), (2, (0, u2)), (3, (2, u3))] [] S V 0 0) : M2_3 l mc ms p q := by
  refine j_method (ws' := n_GW) (by decide) rfl ?_ ?_
  · rintro a S V ⟨u0, u1, u2, u3, rfl, -⟩
    exact Nat.le_of_ble_eq_true rfl
  · rintro C G htl hl hrm hm hml ho hts hnm hE a S V ⟨u0, u1, u2, u3, rfl, ht, hp⟩ R
    exact body C G ⟨htl, hm, hml, ho, fun w hw => hts w (List.mem_cons_of_mem _ hw), hE⟩ (by rw [hrm]; exact ⟨rfl, rfl⟩) (by rw [hrm]; exact ⟨rfl, rfl⟩) hl hnm u0 u1 u2 u3 S V ht hp (fun pc lo S' V' nc ns d q hc hs => R.1 rfl pc lo S' V' nc ns d ⟨u0, u1, u2, u3, rfl, rfl, q⟩ hc hs)
theorem d2_3_0 : decode b_2_3 0 = .ok (.aload_n 0, 1) := by decide +kernel
theorem d2_3_1 : decode b_2_3 1 = .ok (.getfield 28, 3) := by decide +kernel
theorem d2_3_4 : decode b_2_3 4 = .ok (.getfield 71, 3) := by decide +kernel
theorem d2_3_7 : decode b_2_3 7 = .ok (.iload_n 1, 1) := by decide +kernel
theorem d2_3_8 : decode b_2_3 8 = .ok (.iload_n 2, 1) := by decide +kernel
theorem d2_3_9 : decode b_2_3 9 = .ok (.iastore, 1) := by decide +kernel
theorem d2_3_10 : decode b_2_3 10 = .ok (.aload_n 0, 1) := by decide +kernel
theorem d2_3_11 : decode b_2_3 11 = .ok (.getfield 28, 3) := by decide +kernel
theorem d2_3_14 : decode b_2_3 14 = .ok (.getfield 68, 3) := by decide +kernel
theorem d2_3_17 : decode b_2_3 17 = .ok (.iload_n 1, 1) := by decide +kernel
theorem d2_3_18 : decode b_2_3 18 = .ok (.aload_n 3, 1) := by decide +kernel
theorem d2_3_19 : decode b_2_3 19 = .ok (.iload_n 2, 1) := by decide +kernel
theorem d2_3_20 : decode b_2_3 20 = .ok (.invokevirtual 72, 3) := by decide +kernel
theorem d2_3_23 : decode b_2_3 23 = .ok (.iastore, 1) := by decide +kernel
theorem d2_3_24 : decode b_2_3 24 = .ok (.aload_n 0, 1) := by decide +kernel
theorem d2_3_25 : decode b_2_3 25 = .ok (.getfield 28, 3) := by decide +kernel
theorem d2_3_28 : decode b_2_3 28 = .ok (.getfield 78, 3) := by decide +kernel
theorem d2_3_31 : decode b_2_3 31 = .ok (.iload_n 1, 1) := by decide +kernel
theorem d2_3_32 : decode b_2_3 32 = .ok (.aload_n 3, 1) := by decide +kernel
theorem d2_3_33 : decode b_2_3 33 = .ok (.getfield 81, 3) := by decide +kernel
theorem d2_3_36 : decode b_2_3 36 = .ok (.iload_n 2, 1) := by decide +kernel
theorem d2_3_37 : decode b_2_3 37 = .ok (.iaload, 1) := by decide +kernel
theorem d2_3_38 : decode b_2_3 38 = .ok (.iastore, 1) := by decide +kernel
theorem d2_3_39 : decode b_2_3 39 = .ok (.return_, 1) := by decide +kernel
theorem K2_3_20 {C : qCx} {G : jG} {mc ms : Nat} {p : Int → Int → jS → jH → Prop} {q : Int → Int → jS → jH → Int → jS → jH → Prop} (h : x2_3 C G) (hrm : C.2.2.2.1.frames = 2 ∧ C.2.2.2.1.locals = 47) (hM : M4_2 C.2.1 mc ms p q) : j_Call C b_2_3 n_KT G.1 G.2.1 4 (.invokevirtual 72) mc ms (fun a S V => ∃ u0 u1 : Int, a = [(2, u0), (0, u1)] ∧ S.1 u0 = 23 ∧ p u0 u1 S V) (fun a S V rs S' V' => ∃ u0 u1 r : Int, a = [(2, u0), (0, u1)] ∧ rs = [(0, r)] ∧ q u0 u1 S V r S' V') := j_callV n_NWk h.2.2.2.2.2 h.1 hM ⟨h.2.1.1, h.2.1.2, h.2.2.1, h.2.2.2.1, h.2.2.2.2.1⟩ ⟨n_CB (y := y_4_2) (bytes := b_4_2) 1 h.2.2.2.2.1 n_w379 n_w523 n_w8 ⟨by decide, by decide, by decide +kernel⟩ rfl rfl ⟨by rw [hrm.1]; exact Nat.le_of_ble_eq_true rfl, by rw [hrm.2]; exact Nat.le_of_ble_eq_true rfl⟩, h.2.2.2.2.1 _ n_w377, h.2.2.2.2.1 _ n_w378⟩ (Cn := RX2) (fun a S V hP => by obtain ⟨u0, u1, rfl, e, -⟩ := hP; exact ⟨u0, _, 2, _, _, TX2, 1, rfl, rfl, by rw [e]; decide, by rw [e]; rfl, rfl⟩)
theorem t2_3_0 {C : qCx} {G : jG} {S : jS} {V : jH} {nc ns : Nat} {l0 l1 l2 l3 : Int} {mc ms : Nat} {pp : Int → Int → jS → jH → Prop} {qq : Int → Int → jS → jH → Int → jS → jH → Prop} (h : x2_3 C G) (L : j_L S) (hrm : C.2.2.2.1.frames = 2 ∧ C.2.2.2.1.locals = 47) (c1 : S.1 l0 = 21) (c2 : 0 ≤ l1) (c3 : l1 < 400) (c4 : S.1 l3 = 23) (hM : M4_2 C.2.1 mc ms pp qq) (hp : pp l3 l2 S (j_up V (l0 + 15) l1 l2)) (hc : nc + mc ≤ C.2.2.2.1.cells) (hs : ns + ms ≤ C.2.2.2.1.slots) (k : ∀ (r : Int) (S' : jS) (V' : jH), qq l3 l2 S (j_up V (l0 + 15) l1 l2) r S' V' → j_ok n_KT 4 C G 23 [(0, (2, l0)), (1, (0, l1)), (2, (0, l2)), (3, (2, l3))] [(0, r), (0, l1), (2, l0 + 18)] S' V' (nc + mc) (ns + ms)) : j_ok n_KT 4 C G 0 [(0, (2, l0)), (1, (0, l1)), (2, (0, l2)), (3, (2, l3))] [] S V nc ns := by
  have E := n_E h
  refine j_aload_n E d2_3_0 rfl 0 rfl ?_
  refine j_getS (f := 2) (x := l0 + 14) (fg0_28 h) d2_3_1 c1 (by decide) rfl rfl ((L0_2 L c1).trans (by omega)) ?_
  refine j_getS (f := 0) (x := l0 + 15) (fg0_71 h) d2_3_4 (show S.1 (l0 + 14) = 28 from (by have q := L0_2k L c1; rw [show l0 + 14 = l0 + 14 by omega]; exact q)) (by decide) rfl rfl ((L7_0 L (show S.1 (l0 + 14) = 28 from (by have q := L0_2k L c1; rw [show l0 + 14 = l0 + 14 by omega]; exact q))).trans (by omega)) ?_
  refine j_iload_n E d2_3_7 rfl 1 rfl ?_
  refine j_iload_n E d2_3_8 rfl 2 rfl ?_
  refine j_iast E d2_3_9 (j_arr_of (show S.1 (l0 + 15) = 1 from (by have q := L7_0k L (show S.1 (l0 + 14) = 28 from (by have q := L0_2k L c1; rw [show l0 + 14 = l0 + 14 by omega]; exact q)); rw [show l0 + 15 = (l0 + 14) + 1 by omega]; exact q)) (by decide) rfl) c2 c3 ?_
  refine j_aload_n E d2_3_10 rfl 0 rfl ?_
  refine j_getS (f := 2) (x := l0 + 14) (fg0_28 h) d2_3_11 c1 (by decide) rfl rfl ((L0_2 L c1).trans (by omega)) ?_
  refine j_getS (f := 3) (x := l0 + 18) (fg0_68 h) d2_3_14 (show S.1 (l0 + 14) = 28 from (by have q := L0_2k L c1; rw [show l0 + 14 = l0 + 14 by omega]; exact q)) (by decide) rfl rfl ((L7_3 L (show S.1 (l0 + 14) = 28 from (by have q := L0_2k L c1; rw [show l0 + 14 = l0 + 14 by omega]; exact q))).trans (by omega)) ?_
  refine j_iload_n E d2_3_17 rfl 1 rfl ?_
  refine j_aload_n E d2_3_18 rfl 3 rfl ?_
  refine j_iload_n E d2_3_19 rfl 2 rfl ?_
  refine j_call E (K2_3_20 h hrm hM) d2_3_20 (a := [(2, l3), (0, l2)]) (sk := [(0, l1), (2, l0 + 18)]) rfl ⟨l3, l2, rfl, c4, hp⟩ (Nat.le_of_ble_eq_true rfl) hc hs ?_
  rintro rs S' V' ⟨z0, z1, r, e1, rfl, q⟩
  simp only [List.cons.injEq, Prod.mk.injEq, and_true, true_and] at e1
  obtain ⟨rfl, rfl⟩ := e1
  exact j_pick [0, 1, 2, 3] rfl (k r S' V' q)
theorem t2_3_23 {C : qCx} {G : jG} {S : jS} {V : jH} {nc ns : Nat} {l0 l1 l2 l3 s0 s1 s2 : Int} {n_s2 : Nat} {mc ms : Nat} {qf : jS → jH → Prop} (h : x2_3 C G) (L : j_L S) (c1 : j_arr S s2 n_s2) (c2 : 0 ≤ s1) (c3 : s1 < (n_s2 : Int)) (c4 : S.1 l0 = 21) (c5 : S.1 l3 = 23) (c6 : 0 ≤ l2) (c7 : l2 < 257) (c8 : 0 ≤ l1) (c9 : l1 < 400) (R : j_Rv n_KT 4 C G b_2_3 mc ms qf) (q : qf S (j_up (j_up V s2 s1 s0) (l0 + 19) l1 ((j_up V s2 s1 s0) (l3 + 1) l2))) (hc : nc ≤ mc) (hs : ns ≤ ms) : j_ok n_KT 4 C G 23 [(0, (2, l0)), (1, (0, l1)), (2, (0, l2)), (3, (2, l3))] [(0, s0), (0, s1), (2, s2)] S V nc ns := by
  have E := n_E h
  refine j_iast E d2_3_23 c1 c2 c3 ?_
  refine j_aload_n E d2_3_24 rfl 0 rfl ?_
  refine j_getS (f := 2) (x := l0 + 14) (fg0_28 h) d2_3_25 c4 (by decide) rfl rfl ((L0_2 L c4).trans (by omega)) ?_
  refine j_getS (f := 4) (x := l0 + 19) (fg0_78 h) d2_3_28 (show S.1 (l0 + 14) = 28 from (by have q := L0_2k L c4; rw [show l0 + 14 = l0 + 14 by omega]; exact q)) (by decide) rfl rfl ((L7_4 L (show S.1 (l0 + 14) = 28 from (by have q := L0_2k L c4; rw [show l0 + 14 = l0 + 14 by omega]; exact q))).trans (by omega)) ?_
  refine j_iload_n E d2_3_31 rfl 1 rfl ?_
  refine j_aload_n E d2_3_32 rfl 3 rfl ?_
  refine j_getS (f := 0) (x := l3 + 1) (fg0_81 h) d2_3_33 c5 (by decide) rfl rfl ((L2_0 L c5).trans (by omega)) ?_
  refine j_iload_n E d2_3_36 rfl 2 rfl ?_
  refine j_iald E d2_3_37 (j_arr_of (show S.1 (l3 + 1) = 2 from (by have q := L2_0k L c5; rw [show l3 + 1 = l3 + 1 by omega]; exact q)) (by decide) rfl) c6 c7 ?_
  refine j_iast E d2_3_38 (j_arr_of (show S.1 (l0 + 19) = 1 from (by have q := L7_4k L (show S.1 (l0 + 14) = 28 from (by have q := L0_2k L c4; rw [show l0 + 14 = l0 + 14 by omega]; exact q)); rw [show l0 + 19 = (l0 + 14) + 5 by omega]; exact q)) (by decide) rfl) c8 c9 ?_
  exact R _ _ _ _ _ _ d2_3_39 q hc hs
/- BalanceCoder$Deal.richestBut(I)I -/
abbrev b_4_15 : ByteArray := prog_4_method_15_code
def y_4_15 : MethodName := ⟨"BalanceCoder$Deal", "richestBut", "(I)I"⟩
abbrev x4_15 (C : qCx) (G : jG) : Prop := n_ctx C b_4_15 7 "BalanceCoder$Deal" G.1 G.2.1
def M4_15 (l : Launch) (mc ms : Nat) (p : Int → Int → jS → jH → Prop) (q : Int → Int → jS → jH → Int → jS → jH → Prop) : Prop := j_Met l vwCl n_TL n_NW n_KT y_4_15 (Cond.code y_4_15 b_4_15 7 (some .int) :: n_GW) { frames := 1, cells := mc, slots := ms, locals := 26 } mc ms (fun a S V => ∃ u0 u1 : Int, a = [(2, u0), (0, u1)] ∧ S.1 u0 = 23 ∧ p u0 u1 S V) (fun a S V rs S' V' => ∃ u0 u1 r : Int, a = [(2, u0), (0, u1)] ∧ rs = [(0, r)] ∧ q u0 u1 S V r S' V')
theorem e4_15 {l : Launch} {mc ms : Nat} {p : Int → Int → jS → jH → Prop} {q : Int → Int → jS → jH → Int → jS → jH → Prop} (body : ∀ (C : qCx) (G : jG), x4_15 C G → C.2.2.2.1.frames = 1 ∧ C.2.2.2.1.locals = 26 → C.2.2.2.1.cells = mc ∧ C.2.2.2.1.slots = ms → C.2.1 = l → C.2.2.2.2.2.2.2.2.1.name = "richestBut" → ∀ (u0 u1 : Int) (S : jS) (V : jH), S.1 u0 = 23 → p u0 u1 S V → j_Ri n_KT 7 C G b_4_15 mc ms (q u0 u1 S V) → j_ok n_KT 7 C G 0 [(0, (2, u0)), (1, (0, u1))] [] S V 0 0) : M4_15 l mc ms p q := by
  refine j_method (ws' := n_GW) (by decide) rfl ?_ ?_
  · rintro a S V ⟨u0, u1, rfl, -⟩
    exact Nat.le_of_ble_eq_true rfl
  · rintro C G htl hl hrm hm hml ho hts hnm hE a S V ⟨u0, u1, rfl, ht, hp⟩ R
    exact body C G ⟨htl, hm, hml, ho, fun w hw => hts w (List.mem_cons_of_mem _ hw), hE⟩ (by rw [hrm]; exact ⟨rfl, rfl⟩) (by rw [hrm]; exact ⟨rfl, rfl⟩) hl hnm u0 u1 S V ht hp (fun pc lo r S' V' nc ns d q hc hs => R.2.1 rfl pc lo r S' V' nc ns d ⟨u0, u1, r, rfl, rfl, q⟩ hc hs)
theorem d4_15_0 : decode b_4_15 0 = .ok (.iconst (-1), 1) := by decide +kernel
theorem d4_15_1 : decode b_4_15 1 = .ok (.istore_n 2, 1) := by decide +kernel
theorem d4_15_2 : decode b_4_15 2 = .ok (.iconst 1, 1) := by decide +kernel
theorem d4_15_3 : decode b_4_15 3 = .ok (.istore_n 3, 1) := by decide +kernel
theorem d4_15_4 : decode b_4_15 4 = .ok (.aload_n 0, 1) := by decide +kernel
theorem d4_15_5 : decode b_4_15 5 = .ok (.getfield 9, 3) := by decide +kernel
theorem d4_15_8 : decode b_4_15 8 = .ok (.iconst 0, 1) := by decide +kernel
theorem d4_15_9 : decode b_4_15 9 = .ok (.iaload, 1) := by decide +kernel
theorem d4_15_10 : decode b_4_15 10 = .ok (.istore 4, 2) := by decide +kernel
theorem d4_15_12 : decode b_4_15 12 = .ok (.iconst 0, 1) := by decide +kernel
theorem d4_15_13 : decode b_4_15 13 = .ok (.istore 5, 2) := by decide +kernel
theorem d4_15_15 : decode b_4_15 15 = .ok (.iload 5, 2) := by decide +kernel
theorem d4_15_17 : decode b_4_15 17 = .ok (.sipush 256, 3) := by decide +kernel
theorem d4_15_20 : decode b_4_15 20 = .ok (.if_icmp .ge 48, 3) := by decide +kernel
theorem d4_15_23 : decode b_4_15 23 = .ok (.aload_n 0, 1) := by decide +kernel
theorem d4_15_24 : decode b_4_15 24 = .ok (.getfield 9, 3) := by decide +kernel
theorem d4_15_27 : decode b_4_15 27 = .ok (.iload 5, 2) := by decide +kernel
theorem d4_15_29 : decode b_4_15 29 = .ok (.iconst 1, 1) := by decide +kernel
theorem d4_15_30 : decode b_4_15 30 = .ok (.iadd, 1) := by decide +kernel
theorem d4_15_31 : decode b_4_15 31 = .ok (.iaload, 1) := by decide +kernel
theorem d4_15_32 : decode b_4_15 32 = .ok (.istore 6, 2) := by decide +kernel
theorem d4_15_34 : decode b_4_15 34 = .ok (.iload 6, 2) := by decide +kernel
theorem d4_15_36 : decode b_4_15 36 = .ok (.iload 4, 2) := by decide +kernel
theorem d4_15_38 : decode b_4_15 38 = .ok (.isub, 1) := by decide +kernel
theorem d4_15_39 : decode b_4_15 39 = .ok (.iload_n 3, 1) := by decide +kernel
theorem d4_15_40 : decode b_4_15 40 = .ok (.if_icmp .le 18, 3) := by decide +kernel
theorem d4_15_43 : decode b_4_15 43 = .ok (.iload 5, 2) := by decide +kernel
theorem d4_15_45 : decode b_4_15 45 = .ok (.iload_n 1, 1) := by decide +kernel
theorem d4_15_46 : decode b_4_15 46 = .ok (.if_icmp .eq 12, 3) := by decide +kernel
theorem d4_15_49 : decode b_4_15 49 = .ok (.iload 6, 2) := by decide +kernel
theorem d4_15_51 : decode b_4_15 51 = .ok (.iload 4, 2) := by decide +kernel
theorem d4_15_53 : decode b_4_15 53 = .ok (.isub, 1) := by decide +kernel
theorem d4_15_54 : decode b_4_15 54 = .ok (.istore_n 3, 1) := by decide +kernel
theorem d4_15_55 : decode b_4_15 55 = .ok (.iload 5, 2) := by decide +kernel
theorem d4_15_57 : decode b_4_15 57 = .ok (.istore_n 2, 1) := by decide +kernel
theorem d4_15_58 : decode b_4_15 58 = .ok (.iload 6, 2) := by decide +kernel
theorem d4_15_60 : decode b_4_15 60 = .ok (.istore 4, 2) := by decide +kernel
theorem d4_15_62 : decode b_4_15 62 = .ok (.iinc 5 1, 3) := by decide +kernel
theorem d4_15_65 : decode b_4_15 65 = .ok (.goto (-50), 3) := by decide +kernel
theorem d4_15_68 : decode b_4_15 68 = .ok (.iload_n 2, 1) := by decide +kernel
theorem d4_15_69 : decode b_4_15 69 = .ok (.ireturn, 1) := by decide +kernel
theorem t4_15_0 {C : qCx} {G : jG} {S : jS} {V : jH} {nc ns : Nat} {l0 l1 : Int} (h : x4_15 C G) (L : j_L S) (c1 : S.1 l0 = 23) (k : j_ok n_KT 7 C G 15 [(0, (2, l0)), (1, (0, l1)), (2, (0, (-1))), (3, (0, 1)), (4, (0, V (l0 + 1) 0)), (5, (0, 0))] [] S V nc ns) : j_ok n_KT 7 C G 0 [(0, (2, l0)), (1, (0, l1))] [] S V nc ns := by
  have E := n_E h
  refine j_iconst E d4_15_0 (by decide) ?_
  refine j_istore_n E d4_15_1 rfl (by decide) (lo1 := [(0, (2, l0)), (1, (0, l1))]) rfl ?_
  refine j_iconst E d4_15_2 (by decide) ?_
  refine j_istore_n E d4_15_3 rfl (by decide) (lo1 := [(2, (0, (-1))), (0, (2, l0)), (1, (0, l1))]) rfl ?_
  refine j_aload_n E d4_15_4 rfl 2 rfl ?_
  refine j_getS (f := 0) (x := l0 + 1) (fg2_9 h) d4_15_5 c1 (by decide) rfl rfl ((L2_0 L c1).trans (by omega)) ?_
  refine j_iconst E d4_15_8 (by decide) ?_
  refine j_iald E d4_15_9 (j_arr_of (show S.1 (l0 + 1) = 2 from (by have q := L2_0k L c1; rw [show l0 + 1 = l0 + 1 by omega]; exact q)) (by decide) rfl) (by decide) (by decide) ?_
  refine j_istore E d4_15_10 (by decide) (lo1 := [(3, (0, 1)), (2, (0, (-1))), (0, (2, l0)), (1, (0, l1))]) rfl ?_
  refine j_iconst E d4_15_12 (by decide) ?_
  refine j_istore E d4_15_13 (by decide) (lo1 := [(4, (0, V (l0 + 1) 0)), (3, (0, 1)), (2, (0, (-1))), (0, (2, l0)), (1, (0, l1))]) rfl ?_
  exact j_pick [4, 5, 3, 2, 1, 0] rfl k
theorem t4_15_15 {C : qCx} {G : jG} {S : jS} {V : jH} {nc ns : Nat} {l0 l1 l2 l3 l4 l5 : Int} (h : x4_15 C G)  (k : 256 ≤ l5 → j_ok n_KT 7 C G 68 [(2, (0, l2))] [] S V nc ns) (k' : l5 < 256 → j_ok n_KT 7 C G 23 [(0, (2, l0)), (1, (0, l1)), (2, (0, l2)), (3, (0, l3)), (4, (0, l4)), (5, (0, l5))] [] S V nc ns) : j_ok n_KT 7 C G 15 [(0, (2, l0)), (1, (0, l1)), (2, (0, l2)), (3, (0, l3)), (4, (0, l4)), (5, (0, l5))] [] S V nc ns := by
  have E := n_E h
  refine j_iload E d4_15_15 5 rfl ?_
  refine j_sipush E d4_15_17 (by decide) ?_
  exact j_icmp_ge E d4_15_20 (t := 68) rfl (fun q => j_pick [2] rfl (k q)) (fun q => j_pick [0, 1, 2, 3, 4, 5] rfl (k' q))
theorem t4_15_23 {C : qCx} {G : jG} {S : jS} {V : jH} {nc ns : Nat} {l0 l1 l2 l3 l4 l5 : Int} (h : x4_15 C G) (L : j_L S) (c1 : S.1 l0 = 23) (c2 : -2147483648 ≤ l5 + 1 ∧ l5 + 1 ≤ 2147483647) (c3 : 0 ≤ l5 + 1) (c4 : l5 + 1 < 257) (c5 : -2147483648 ≤ (V (l0 + 1) (l5 + 1)) - l4 ∧ (V (l0 + 1) (l5 + 1)) - l4 ≤ 2147483647) (k : (V (l0 + 1) (l5 + 1)) - l4 ≤ l3 → j_ok n_KT 7 C G 58 [(0, (2, l0)), (1, (0, l1)), (2, (0, l2)), (3, (0, l3)), (5, (0, l5)), (6, (0, V (l0 + 1) (l5 + 1)))] [] S V nc ns) (k' : l3 < (V (l0 + 1) (l5 + 1)) - l4 → j_ok n_KT 7 C G 43 [(0, (2, l0)), (1, (0, l1)), (2, (0, l2)), (3, (0, l3)), (4, (0, l4)), (5, (0, l5)), (6, (0, V (l0 + 1) (l5 + 1)))] [] S V nc ns) : j_ok n_KT 7 C G 23 [(0, (2, l0)), (1, (0, l1)), (2, (0, l2)), (3, (0, l3)), (4, (0, l4)), (5, (0, l5))] [] S V nc ns := by
  have E := n_E h
  refine j_aload_n E d4_15_23 rfl 0 rfl ?_
  refine j_getS (f := 0) (x := l0 + 1) (fg2_9 h) d4_15_24 c1 (by decide) rfl rfl ((L2_0 L c1).trans (by omega)) ?_
  refine j_iload E d4_15_27 5 rfl ?_
  refine j_iconst E d4_15_29 (by decide) ?_
  refine j_iadd E d4_15_30 c2 ?_
  refine j_iald E d4_15_31 (j_arr_of (show S.1 (l0 + 1) = 2 from (by have q := L2_0k L c1; rw [show l0 + 1 = l0 + 1 by omega]; exact q)) (by decide) rfl) c3 c4 ?_
  refine j_istore E d4_15_32 (by decide) (lo1 := [(0, (2, l0)), (1, (0, l1)), (2, (0, l2)), (3, (0, l3)), (4, (0, l4)), (5, (0, l5))]) rfl ?_
  refine j_iload E d4_15_34 0 rfl ?_
  refine j_iload E d4_15_36 5 rfl ?_
  refine j_isub E d4_15_38 c5 ?_
  refine j_iload_n E d4_15_39 rfl 4 rfl ?_
  exact j_icmp_le E d4_15_40 (t := 58) rfl (fun q => j_pick [1, 2, 3, 4, 6, 0] rfl (k q)) (fun q => j_pick [1, 2, 3, 4, 5, 6, 0] rfl (k' q))
theorem t4_15_43 {C : qCx} {G : jG} {S : jS} {V : jH} {nc ns : Nat} {l0 l1 l2 l3 l4 l5 l6 : Int} (h : x4_15 C G)  (k : l5 = l1 → j_ok n_KT 7 C G 58 [(0, (2, l0)), (1, (0, l1)), (2, (0, l2)), (3, (0, l3)), (5, (0, l5)), (6, (0, l6))] [] S V nc ns) (k' : ¬ l5 = l1 → j_ok n_KT 7 C G 49 [(0, (2, l0)), (1, (0, l1)), (4, (0, l4)), (5, (0, l5)), (6, (0, l6))] [] S V nc ns) : j_ok n_KT 7 C G 43 [(0, (2, l0)), (1, (0, l1)), (2, (0, l2)), (3, (0, l3)), (4, (0, l4)), (5, (0, l5)), (6, (0, l6))] [] S V nc ns := by
  have E := n_E h
  refine j_iload E d4_15_43 5 rfl ?_
  refine j_iload_n E d4_15_45 rfl 1 rfl ?_
  exact j_icmp_eq E d4_15_46 (t := 58) rfl (fun q => j_pick [0, 1, 2, 3, 5, 6] rfl (k q)) (fun q => j_pick [0, 1, 4, 5, 6] rfl (k' q))
theorem t4_15_49 {C : qCx} {G : jG} {S : jS} {V : jH} {nc ns : Nat} {l0 l1 l4 l5 l6 : Int} (h : x4_15 C G) (c1 : -2147483648 ≤ l6 - l4 ∧ l6 - l4 ≤ 2147483647) (k : j_ok n_KT 7 C G 58 [(0, (2, l0)), (1, (0, l1)), (2, (0, l5)), (3, (0, l6 - l4)), (5, (0, l5)), (6, (0, l6))] [] S V nc ns) : j_ok n_KT 7 C G 49 [(0, (2, l0)), (1, (0, l1)), (4, (0, l4)), (5, (0, l5)), (6, (0, l6))] [] S V nc ns := by
  have E := n_E h
  refine j_iload E d4_15_49 4 rfl ?_
  refine j_iload E d4_15_51 2 rfl ?_
  refine j_isub E d4_15_53 c1 ?_
  refine j_istore_n E d4_15_54 rfl (by decide) (lo1 := [(0, (2, l0)), (1, (0, l1)), (4, (0, l4)), (5, (0, l5)), (6, (0, l6))]) rfl ?_
  refine j_iload E d4_15_55 4 rfl ?_
  refine j_istore_n E d4_15_57 rfl (by decide) (lo1 := [(3, (0, l6 - l4)), (0, (2, l0)), (1, (0, l1)), (4, (0, l4)), (5, (0, l5)), (6, (0, l6))]) rfl ?_
  exact j_pick [2, 3, 0, 1, 5, 6] rfl k
theorem t4_15_58 {C : qCx} {G : jG} {S : jS} {V : jH} {nc ns : Nat} {l0 l1 l2 l3 l5 l6 : Int} (h : x4_15 C G) (c1 : -2147483648 ≤ l5 + 1 ∧ l5 + 1 ≤ 2147483647) (k : j_ok n_KT 7 C G 15 [(0, (2, l0)), (1, (0, l1)), (2, (0, l2)), (3, (0, l3)), (4, (0, l6)), (5, (0, l5 + 1))] [] S V nc ns) : j_ok n_KT 7 C G 58 [(0, (2, l0)), (1, (0, l1)), (2, (0, l2)), (3, (0, l3)), (5, (0, l5)), (6, (0, l6))] [] S V nc ns := by
  have E := n_E h
  refine j_iload E d4_15_58 5 rfl ?_
  refine j_istore E d4_15_60 (by decide) (lo1 := [(0, (2, l0)), (1, (0, l1)), (2, (0, l2)), (3, (0, l3)), (5, (0, l5)), (6, (0, l6))]) rfl ?_
  refine j_iinc E d4_15_62 (by decide) (by decide) 5 rfl (lo1 := [(4, (0, l6)), (0, (2, l0)), (1, (0, l1)), (2, (0, l2)), (3, (0, l3)), (6, (0, l6))]) rfl c1 ?_
  refine j_goto E d4_15_65 (t := 15) rfl ?_
  exact j_pick [2, 3, 4, 5, 1, 0] rfl k
theorem t4_15_68 {C : qCx} {G : jG} {S : jS} {V : jH} {nc ns : Nat} {l2 : Int} {mc ms : Nat} {qf : Int → jS → jH → Prop} (h : x4_15 C G)  (R : j_Ri n_KT 7 C G b_4_15 mc ms qf) (q : qf l2 S V) (hc : nc ≤ mc) (hs : ns ≤ ms) : j_ok n_KT 7 C G 68 [(2, (0, l2))] [] S V nc ns := by
  have E := n_E h
  refine j_iload_n E d4_15_68 rfl 0 rfl ?_
  exact R _ _ _ _ _ _ _ d4_15_69 q hc hs
/- BalanceCoder$Deal.growBehind(I)V -/
abbrev b_4_14 : ByteArray := prog_4_method_14_code
def y_4_14 : MethodName := ⟨"BalanceCoder$Deal", "growBehind", "(I)V"⟩
abbrev x4_14 (C : qCx) (G : jG) : Prop := n_ctx C b_4_14 3 "BalanceCoder$Deal" G.1 G.2.1
def M4_14 (l : Launch) (mc ms : Nat) (p : Int → Int → jS → jH → Prop) (q : Int → Int → jS → jH → jS → jH → Prop) : Prop := j_Met l vwCl n_TL n_NW n_KT y_4_14 (Cond.code y_4_14 b_4_14 3 none :: n_GW) { frames := 2, cells := mc, slots := ms, locals := 52 } mc ms (fun a S V => ∃ u0 u1 : Int, a = [(2, u0), (0, u1)] ∧ S.1 u0 = 23 ∧ p u0 u1 S V) (fun a S V rs S' V' => ∃ u0 u1 : Int, a = [(2, u0), (0, u1)] ∧ rs = [] ∧ q u0 u1 S V S' V')
theorem e4_14 {l : Launch} {mc ms : Nat} {p : Int → Int → jS → jH → Prop} {q : Int → Int → jS → jH → jS → jH → Prop} (body : ∀ (C : qCx) (G : jG), x4_14 C G → C.2.2.2.1.frames = 2 ∧ C.2.2.2.1.locals = 52 → C.2.2.2.1.cells = mc ∧ C.2.2.2.1.slots = ms → C.2.1 = l → C.2.2.2.2.2.2.2.2.1.name = "growBehind" → ∀ (u0 u1 : Int) (S : jS) (V : jH), S.1 u0 = 23 → p u0 u1 S V → j_Rv n_KT 3 C G b_4_14 mc ms (q u0 u1 S V) → j_ok n_KT 3 C G 0 [(0, (2, u0)), (1, (0, u1))] [] S V 0 0) : M4_14 l mc ms p q := by
  refine j_method (ws' := n_GW) (by decide) rfl ?_ ?_
  · rintro a S V ⟨u0, u1, rfl, -⟩
    exact Nat.le_of_ble_eq_true rfl
  · rintro C G htl hl hrm hm hml ho hts hnm hE a S V ⟨u0, u1, rfl, ht, hp⟩ R
    exact body C G ⟨htl, hm, hml, ho, fun w hw => hts w (List.mem_cons_of_mem _ hw), hE⟩ (by rw [hrm]; exact ⟨rfl, rfl⟩) (by rw [hrm]; exact ⟨rfl, rfl⟩) hl hnm u0 u1 S V ht hp (fun pc lo S' V' nc ns d q hc hs => R.1 rfl pc lo S' V' nc ns d ⟨u0, u1, rfl, rfl, q⟩ hc hs)
theorem d4_14_0 : decode b_4_14 0 = .ok (.aload_n 0, 1) := by decide +kernel
theorem d4_14_1 : decode b_4_14 1 = .ok (.iload_n 1, 1) := by decide +kernel
theorem d4_14_2 : decode b_4_14 2 = .ok (.invokevirtual 44, 3) := by decide +kernel
theorem d4_14_5 : decode b_4_14 5 = .ok (.istore_n 2, 1) := by decide +kernel
theorem d4_14_6 : decode b_4_14 6 = .ok (.iload_n 2, 1) := by decide +kernel
theorem d4_14_7 : decode b_4_14 7 = .ok (.ifCond .ge 4, 3) := by decide +kernel
theorem d4_14_10 : decode b_4_14 10 = .ok (.return_, 1) := by decide +kernel
theorem d4_14_11 : decode b_4_14 11 = .ok (.iload_n 2, 1) := by decide +kernel
theorem d4_14_12 : decode b_4_14 12 = .ok (.iload_n 1, 1) := by decide +kernel
theorem d4_14_13 : decode b_4_14 13 = .ok (.if_icmp .ge 13, 3) := by decide +kernel
theorem d4_14_16 : decode b_4_14 16 = .ok (.aload_n 0, 1) := by decide +kernel
theorem d4_14_17 : decode b_4_14 17 = .ok (.iload_n 2, 1) := by decide +kernel
theorem d4_14_18 : decode b_4_14 18 = .ok (.iload_n 1, 1) := by decide +kernel
theorem d4_14_19 : decode b_4_14 19 = .ok (.iconst (-1), 1) := by decide +kernel
theorem d4_14_20 : decode b_4_14 20 = .ok (.invokevirtual 40, 3) := by decide +kernel
theorem d4_14_23 : decode b_4_14 23 = .ok (.goto 10, 3) := by decide +kernel
theorem d4_14_26 : decode b_4_14 26 = .ok (.aload_n 0, 1) := by decide +kernel
theorem d4_14_27 : decode b_4_14 27 = .ok (.iload_n 1, 1) := by decide +kernel
theorem d4_14_28 : decode b_4_14 28 = .ok (.iload_n 2, 1) := by decide +kernel
theorem d4_14_29 : decode b_4_14 29 = .ok (.iconst 1, 1) := by decide +kernel
theorem d4_14_30 : decode b_4_14 30 = .ok (.invokevirtual 40, 3) := by decide +kernel
theorem d4_14_33 : decode b_4_14 33 = .ok (.return_, 1) := by decide +kernel
theorem K4_14_2 {C : qCx} {G : jG} {mc ms : Nat} {p : Int → Int → jS → jH → Prop} {q : Int → Int → jS → jH → Int → jS → jH → Prop} (h : x4_14 C G) (hrm : C.2.2.2.1.frames = 2 ∧ C.2.2.2.1.locals = 52) (hM : M4_15 C.2.1 mc ms p q) : j_Call C b_4_14 n_KT G.1 G.2.1 3 (.invokevirtual 44) mc ms (fun a S V => ∃ u0 u1 : Int, a = [(2, u0), (0, u1)] ∧ S.1 u0 = 23 ∧ p u0 u1 S V) (fun a S V rs S' V' => ∃ u0 u1 r : Int, a = [(2, u0), (0, u1)] ∧ rs = [(0, r)] ∧ q u0 u1 S V r S' V') := j_callV n_NWk h.2.2.2.2.2 h.1 hM ⟨h.2.1.1, h.2.1.2, h.2.2.1, h.2.2.2.1, h.2.2.2.2.1⟩ ⟨n_CB (y := y_4_15) (bytes := b_4_15) 1 h.2.2.2.2.1 n_w535 n_w532 n_w8 ⟨by decide, by decide, by decide +kernel⟩ rfl rfl ⟨by rw [hrm.1]; exact Nat.le_of_ble_eq_true rfl, by rw [hrm.2]; exact Nat.le_of_ble_eq_true rfl⟩, h.2.2.2.2.1 _ n_w534, h.2.2.2.2.1 _ n_s14⟩ (Cn := RX2) (fun a S V hP => by obtain ⟨u0, u1, rfl, e, -⟩ := hP; exact ⟨u0, _, 2, _, _, TX2, 1, rfl, rfl, by rw [e]; decide, by rw [e]; rfl, rfl⟩)
theorem K4_14_20 {C : qCx} {G : jG} {mc ms : Nat} {p : Int → Int → Int → Int → jS → jH → Prop} {q : Int → Int → Int → Int → jS → jH → jS → jH → Prop} (h : x4_14 C G) (hrm : C.2.2.2.1.frames = 2 ∧ C.2.2.2.1.locals = 52) (hM : M4_12 C.2.1 mc ms p q) : j_Call C b_4_14 n_KT G.1 G.2.1 3 (.invokevirtual 40) mc ms (fun a S V => ∃ u0 u1 u2 u3 : Int, a = [(2, u0), (0, u1), (0, u2), (0, u3)] ∧ S.1 u0 = 23 ∧ p u0 u1 u2 u3 S V) (fun a S V rs S' V' => ∃ u0 u1 u2 u3 : Int, a = [(2, u0), (0, u1), (0, u2), (0, u3)] ∧ rs = [] ∧ q u0 u1 u2 u3 S V S' V') := j_callV n_NWk h.2.2.2.2.2 h.1 hM ⟨h.2.1.1, h.2.1.2, h.2.2.1, h.2.2.2.1, h.2.2.2.2.1⟩ ⟨n_CB (y := y_4_12) (bytes := b_4_12) 3 h.2.2.2.2.1 n_w388 n_w385 n_w8 ⟨by decide, by decide, by decide +kernel⟩ rfl rfl ⟨by rw [hrm.1]; exact Nat.le_of_ble_eq_true rfl, by rw [hrm.2]; exact Nat.le_of_ble_eq_true rfl⟩, h.2.2.2.2.1 _ n_w387, h.2.2.2.2.1 _ n_s3⟩ (Cn := RX2) (fun a S V hP => by obtain ⟨u0, u1, u2, u3, rfl, e, -⟩ := hP; exact ⟨u0, _, 2, _, _, TX2, 1, rfl, rfl, by rw [e]; decide, by rw [e]; rfl, rfl⟩)
theorem K4_14_30 {C : qCx} {G : jG} {mc ms : Nat} {p : Int → Int → Int → Int → jS → jH → Prop} {q : Int → Int → Int → Int → jS → jH → jS → jH → Prop} (h : x4_14 C G) (hrm : C.2.2.2.1.frames = 2 ∧ C.2.2.2.1.locals = 52) (hM : M4_12 C.2.1 mc ms p q) : j_Call C b_4_14 n_KT G.1 G.2.1 3 (.invokevirtual 40) mc ms (fun a S V => ∃ u0 u1 u2 u3 : Int, a = [(2, u0), (0, u1), (0, u2), (0, u3)] ∧ S.1 u0 = 23 ∧ p u0 u1 u2 u3 S V) (fun a S V rs S' V' => ∃ u0 u1 u2 u3 : Int, a = [(2, u0), (0, u1), (0, u2), (0, u3)] ∧ rs = [] ∧ q u0 u1 u2 u3 S V S' V') := j_callV n_NWk h.2.2.2.2.2 h.1 hM ⟨h.2.1.1, h.2.1.2, h.2.2.1, h.2.2.2.1, h.2.2.2.2.1⟩ ⟨n_CB (y := y_4_12) (bytes := b_4_12) 3 h.2.2.2.2.1 n_w388 n_w385 n_w8 ⟨by decide, by decide, by decide +kernel⟩ rfl rfl ⟨by rw [hrm.1]; exact Nat.le_of_ble_eq_true rfl, by rw [hrm.2]; exact Nat.le_of_ble_eq_true rfl⟩, h.2.2.2.2.1 _ n_w387, h.2.2.2.2.1 _ n_s3⟩ (Cn := RX2) (fun a S V hP => by obtain ⟨u0, u1, u2, u3, rfl, e, -⟩ := hP; exact ⟨u0, _, 2, _, _, TX2, 1, rfl, rfl, by rw [e]; decide, by rw [e]; rfl, rfl⟩)
theorem t4_14_0 {C : qCx} {G : jG} {S : jS} {V : jH} {nc ns : Nat} {l0 l1 : Int} {mc ms : Nat} {pp : Int → Int → jS → jH → Prop} {qq : Int → Int → jS → jH → Int → jS → jH → Prop} (h : x4_14 C G) (hrm : C.2.2.2.1.frames = 2 ∧ C.2.2.2.1.locals = 52) (c1 : S.1 l0 = 23) (hM : M4_15 C.2.1 mc ms pp qq) (hp : pp l0 l1 S V) (hc : nc + mc ≤ C.2.2.2.1.cells) (hs : ns + ms ≤ C.2.2.2.1.slots) (k : ∀ (r : Int) (S' : jS) (V' : jH), qq l0 l1 S V r S' V' → j_ok n_KT 3 C G 5 [(0, (2, l0)), (1, (0, l1))] [(0, r)] S' V' (nc + mc) (ns + ms)) : j_ok n_KT 3 C G 0 [(0, (2, l0)), (1, (0, l1))] [] S V nc ns := by
  have E := n_E h
  refine j_aload_n E d4_14_0 rfl 0 rfl ?_
  refine j_iload_n E d4_14_1 rfl 1 rfl ?_
  refine j_call E (K4_14_2 h hrm hM) d4_14_2 (a := [(2, l0), (0, l1)]) (sk := []) rfl ⟨l0, l1, rfl, c1, hp⟩ (Nat.le_of_ble_eq_true rfl) hc hs ?_
  rintro rs S' V' ⟨z0, z1, r, e1, rfl, q⟩
  simp only [List.cons.injEq, Prod.mk.injEq, and_true, true_and] at e1
  obtain ⟨rfl, rfl⟩ := e1
  exact j_pick [0, 1] rfl (k r S' V' q)
theorem t4_14_5 {C : qCx} {G : jG} {S : jS} {V : jH} {nc ns : Nat} {l0 l1 s0 : Int} (h : x4_14 C G)  (k : 0 ≤ s0 → j_ok n_KT 3 C G 11 [(0, (2, l0)), (1, (0, l1)), (2, (0, s0))] [] S V nc ns) (k' : s0 < 0 → j_ok n_KT 3 C G 10 [] [] S V nc ns) : j_ok n_KT 3 C G 5 [(0, (2, l0)), (1, (0, l1))] [(0, s0)] S V nc ns := by
  have E := n_E h
  refine j_istore_n E d4_14_5 rfl (by decide) (lo1 := [(0, (2, l0)), (1, (0, l1))]) rfl ?_
  refine j_iload_n E d4_14_6 rfl 0 rfl ?_
  exact j_if_ge E d4_14_7 (t := 11) rfl (fun q => j_pick [1, 2, 0] rfl (k q)) (fun q => j_pick [] rfl (k' q))
theorem t4_14_10 {C : qCx} {G : jG} {S : jS} {V : jH} {nc ns : Nat} {mc ms : Nat} {qf : jS → jH → Prop} (h : x4_14 C G)  (R : j_Rv n_KT 3 C G b_4_14 mc ms qf) (q : qf S V) (hc : nc ≤ mc) (hs : ns ≤ ms) : j_ok n_KT 3 C G 10 [] [] S V nc ns := by
  have E := n_E h
  exact R _ _ _ _ _ _ d4_14_10 q hc hs
theorem t4_14_11 {C : qCx} {G : jG} {S : jS} {V : jH} {nc ns : Nat} {l0 l1 l2 : Int} (h : x4_14 C G)  (k : l1 ≤ l2 → j_ok n_KT 3 C G 26 [(0, (2, l0)), (1, (0, l1)), (2, (0, l2))] [] S V nc ns) (k' : l2 < l1 → j_ok n_KT 3 C G 16 [(0, (2, l0)), (1, (0, l1)), (2, (0, l2))] [] S V nc ns) : j_ok n_KT 3 C G 11 [(0, (2, l0)), (1, (0, l1)), (2, (0, l2))] [] S V nc ns := by
  have E := n_E h
  refine j_iload_n E d4_14_11 rfl 2 rfl ?_
  refine j_iload_n E d4_14_12 rfl 1 rfl ?_
  exact j_icmp_ge E d4_14_13 (t := 26) rfl (fun q => j_pick [0, 1, 2] rfl (k q)) (fun q => j_pick [0, 1, 2] rfl (k' q))
theorem t4_14_16 {C : qCx} {G : jG} {S : jS} {V : jH} {nc ns : Nat} {l0 l1 l2 : Int} {mc ms : Nat} {pp : Int → Int → Int → Int → jS → jH → Prop} {qq : Int → Int → Int → Int → jS → jH → jS → jH → Prop} (h : x4_14 C G) (hrm : C.2.2.2.1.frames = 2 ∧ C.2.2.2.1.locals = 52) (c1 : S.1 l0 = 23) (hM : M4_12 C.2.1 mc ms pp qq) (hp : pp l0 l2 l1 ((-1)) S V) (hc : nc + mc ≤ C.2.2.2.1.cells) (hs : ns + ms ≤ C.2.2.2.1.slots) (k : ∀ (S' : jS) (V' : jH), qq l0 l2 l1 ((-1)) S V S' V' → j_ok n_KT 3 C G 23 [] [] S' V' (nc + mc) (ns + ms)) : j_ok n_KT 3 C G 16 [(0, (2, l0)), (1, (0, l1)), (2, (0, l2))] [] S V nc ns := by
  have E := n_E h
  refine j_aload_n E d4_14_16 rfl 0 rfl ?_
  refine j_iload_n E d4_14_17 rfl 2 rfl ?_
  refine j_iload_n E d4_14_18 rfl 1 rfl ?_
  refine j_iconst E d4_14_19 (by decide) ?_
  refine j_call E (K4_14_20 h hrm hM) d4_14_20 (a := [(2, l0), (0, l2), (0, l1), (0, (-1))]) (sk := []) rfl ⟨l0, l2, l1, (-1), rfl, c1, hp⟩ (Nat.le_of_ble_eq_true rfl) hc hs ?_
  rintro rs S' V' ⟨z0, z1, z2, z3, e1, rfl, q⟩
  simp only [List.cons.injEq, Prod.mk.injEq, and_true, true_and] at e1
  obtain ⟨rfl, rfl, rfl, rfl⟩ := e1
  exact j_pick [] rfl (k S' V' q)
theorem t4_14_23 {C : qCx} {G : jG} {S : jS} {V : jH} {nc ns : Nat} (h : x4_14 C G)  (k : j_ok n_KT 3 C G 33 [] [] S V nc ns) : j_ok n_KT 3 C G 23 [] [] S V nc ns := by
  have E := n_E h
  refine j_goto E d4_14_23 (t := 33) rfl ?_
  exact j_pick [] rfl k
theorem t4_14_26 {C : qCx} {G : jG} {S : jS} {V : jH} {nc ns : Nat} {l0 l1 l2 : Int} {mc ms : Nat} {pp : Int → Int → Int → Int → jS → jH → Prop} {qq : Int → Int → Int → Int → jS → jH → jS → jH → Prop} (h : x4_14 C G) (hrm : C.2.2.2.1.frames = 2 ∧ C.2.2.2.1.locals = 52) (c1 : S.1 l0 = 23) (hM : M4_12 C.2.1 mc ms pp qq) (hp : pp l0 l1 l2 1 S V) (hc : nc + mc ≤ C.2.2.2.1.cells) (hs : ns + ms ≤ C.2.2.2.1.slots) (k : ∀ (S' : jS) (V' : jH), qq l0 l1 l2 1 S V S' V' → j_ok n_KT 3 C G 33 [] [] S' V' (nc + mc) (ns + ms)) : j_ok n_KT 3 C G 26 [(0, (2, l0)), (1, (0, l1)), (2, (0, l2))] [] S V nc ns := by
  have E := n_E h
  refine j_aload_n E d4_14_26 rfl 0 rfl ?_
  refine j_iload_n E d4_14_27 rfl 1 rfl ?_
  refine j_iload_n E d4_14_28 rfl 2 rfl ?_
  refine j_iconst E d4_14_29 (by decide) ?_
  refine j_call E (K4_14_30 h hrm hM) d4_14_30 (a := [(2, l0), (0, l1), (0, l2), (0, 1)]) (sk := []) rfl ⟨l0, l1, l2, 1, rfl, c1, hp⟩ (Nat.le_of_ble_eq_true rfl) hc hs ?_
  rintro rs S' V' ⟨z0, z1, z2, z3, e1, rfl, q⟩
  simp only [List.cons.injEq, Prod.mk.injEq, and_true, true_and] at e1
  obtain ⟨rfl, rfl, rfl, rfl⟩ := e1
  exact j_pick [] rfl (k S' V' q)
theorem t4_14_33 {C : qCx} {G : jG} {S : jS} {V : jH} {nc ns : Nat} {mc ms : Nat} {qf : jS → jH → Prop} (h : x4_14 C G)  (R : j_Rv n_KT 3 C G b_4_14 mc ms qf) (q : qf S V) (hc : nc ≤ mc) (hs : ns ≤ ms) : j_ok n_KT 3 C G 33 [] [] S V nc ns := by
  have E := n_E h
  exact R _ _ _ _ _ _ d4_14_33 q hc hs
/- BalanceCoder$Guide.pass(LBalanceCoder$Table;I)V -/
abbrev b_6_4 : ByteArray := prog_6_method_4_code
def y_6_4 : MethodName := ⟨"BalanceCoder$Guide", "pass", "(LBalanceCoder$Table;I)V"⟩
abbrev x6_4 (C : qCx) (G : jG) : Prop := n_ctx C b_6_4 3 "BalanceCoder$Guide" G.1 G.2.1
def M6_4 (l : Launch) (mc ms : Nat) (p : Int → Int → Int → jS → jH → Prop) (q : Int → Int → Int → jS → jH → jS → jH → Prop) : Prop := j_Met l vwCl n_TL n_NW n_KT y_6_4 (Cond.code y_6_4 b_6_4 3 none :: n_GW) { frames := 3, cells := mc, slots := ms, locals := 74 } mc ms (fun a S V => ∃ u0 u1 u2 : Int, a = [(2, u0), (2, u1), (0, u2)] ∧ S.1 u0 = 25 ∧ p u0 u1 u2 S V) (fun a S V rs S' V' => ∃ u0 u1 u2 : Int, a = [(2, u0), (2, u1), (0, u2)] ∧ rs = [] ∧ q u0 u1 u2 S V S' V')
theorem e6_4 {l : Launch} {mc ms : Nat} {p : Int → Int → Int → jS → jH → Prop} {q : Int → Int → Int → jS → jH → jS → jH → Prop} (body : ∀ (C : qCx) (G : jG), x6_4 C G → C.2.2.2.1.frames = 3 ∧ C.2.2.2.1.locals = 74 → C.2.2.2.1.cells = mc ∧ C.2.2.2.1.slots = ms → C.2.1 = l → C.2.2.2.2.2.2.2.2.1.name = "pass" → ∀ (u0 u1 u2 : Int) (S : jS) (V : jH), S.1 u0 = 25 → p u0 u1 u2 S V → j_Rv n_KT 3 C G b_6_4 mc ms (q u0 u1 u2 S V) → j_ok n_KT 3 C G 0 [(0, (2, u0)), (1, (2, u1)), (2, (0, u2))] [] S V 0 0) : M6_4 l mc ms p q := by
  refine j_method (ws' := n_GW) (by decide) rfl ?_ ?_
  · rintro a S V ⟨u0, u1, u2, rfl, -⟩
    exact Nat.le_of_ble_eq_true rfl
  · rintro C G htl hl hrm hm hml ho hts hnm hE a S V ⟨u0, u1, u2, rfl, ht, hp⟩ R
    exact body C G ⟨htl, hm, hml, ho, fun w hw => hts w (List.mem_cons_of_mem _ hw), hE⟩ (by rw [hrm]; exact ⟨rfl, rfl⟩) (by rw [hrm]; exact ⟨rfl, rfl⟩) hl hnm u0 u1 u2 S V ht hp (fun pc lo S' V' nc ns d q hc hs => R.1 rfl pc lo S' V' nc ns d ⟨u0, u1, u2, rfl, rfl, q⟩ hc hs)
theorem d6_4_0 : decode b_6_4 0 = .ok (.aload_n 0, 1) := by decide +kernel
theorem d6_4_1 : decode b_6_4 1 = .ok (.iload_n 2, 1) := by decide +kernel
theorem d6_4_2 : decode b_6_4 2 = .ok (.putfield 18, 3) := by decide +kernel
theorem d6_4_5 : decode b_6_4 5 = .ok (.aload_n 1, 1) := by decide +kernel
theorem d6_4_6 : decode b_6_4 6 = .ok (.getfield 22, 3) := by decide +kernel
theorem d6_4_9 : decode b_6_4 9 = .ok (.iconst 4, 1) := by decide +kernel
theorem d6_4_10 : decode b_6_4 10 = .ok (.if_icmp .ne 11, 3) := by decide +kernel
theorem d6_4_13 : decode b_6_4 13 = .ok (.aload_n 0, 1) := by decide +kernel
theorem d6_4_14 : decode b_6_4 14 = .ok (.getfield 12, 3) := by decide +kernel
theorem d6_4_17 : decode b_6_4 17 = .ok (.iload_n 2, 1) := by decide +kernel
theorem d6_4_18 : decode b_6_4 18 = .ok (.invokevirtual 43, 3) := by decide +kernel
theorem d6_4_21 : decode b_6_4 21 = .ok (.return_, 1) := by decide +kernel
theorem K6_4_18 {C : qCx} {G : jG} {mc ms : Nat} {p : Int → Int → jS → jH → Prop} {q : Int → Int → jS → jH → jS → jH → Prop} (h : x6_4 C G) (hrm : C.2.2.2.1.frames = 3 ∧ C.2.2.2.1.locals = 74) (hM : M4_14 C.2.1 mc ms p q) : j_Call C b_6_4 n_KT G.1 G.2.1 3 (.invokevirtual 43) mc ms (fun a S V => ∃ u0 u1 : Int, a = [(2, u0), (0, u1)] ∧ S.1 u0 = 23 ∧ p u0 u1 S V) (fun a S V rs S' V' => ∃ u0 u1 : Int, a = [(2, u0), (0, u1)] ∧ rs = [] ∧ q u0 u1 S V S' V') := j_callV n_NWk h.2.2.2.2.2 h.1 hM ⟨h.2.1.1, h.2.1.2, h.2.2.1, h.2.2.2.1, h.2.2.2.2.1⟩ ⟨n_CB (y := y_4_14) (bytes := b_4_14) 1 h.2.2.2.2.1 n_w531 n_w528 n_w8 ⟨by decide, by decide, by decide +kernel⟩ rfl rfl ⟨by rw [hrm.1]; exact Nat.le_of_ble_eq_true rfl, by rw [hrm.2]; exact Nat.le_of_ble_eq_true rfl⟩, h.2.2.2.2.1 _ n_w529, h.2.2.2.2.1 _ n_w530⟩ (Cn := RX2) (fun a S V hP => by obtain ⟨u0, u1, rfl, e, -⟩ := hP; exact ⟨u0, _, 2, _, _, TX2, 1, rfl, rfl, by rw [e]; decide, by rw [e]; rfl, rfl⟩)
theorem t6_4_0 {C : qCx} {G : jG} {S : jS} {V : jH} {nc ns : Nat} {l0 l1 l2 : Int} (h : x6_4 C G) (c1 : S.1 l0 = 25) (c2 : S.1 l1 = 29) (k : ¬ (j_up V l0 1 l2) l1 1 = 4 → j_ok n_KT 3 C G 21 [] [] S (j_up V l0 1 l2) nc ns) (k' : (j_up V l0 1 l2) l1 1 = 4 → j_ok n_KT 3 C G 13 [(0, (2, l0)), (2, (0, l2))] [] S (j_up V l0 1 l2) nc ns) : j_ok n_KT 3 C G 0 [(0, (2, l0)), (1, (2, l1)), (2, (0, l2))] [] S V nc ns := by
  have E := n_E h
  refine j_aload_n E d6_4_0 rfl 0 rfl ?_
  refine j_iload_n E d6_4_1 rfl 2 rfl ?_
  refine j_putI (f := 1) (fp4_18 h) (n_hap h 25 4 0 _ rfl) d6_4_2 c1 (by decide) rfl rfl rfl ?_
  refine j_aload_n E d6_4_5 rfl 1 rfl ?_
  refine j_getI (f := 1) (fg4_22 h) d6_4_6 c2 (by decide) rfl rfl ?_
  refine j_iconst E d6_4_9 (by decide) ?_
  exact j_icmp_ne E d6_4_10 (t := 21) rfl (fun q => j_pick [] rfl (k q)) (fun q => j_pick [0, 2] rfl (k' q))
theorem t6_4_13 {C : qCx} {G : jG} {S : jS} {V : jH} {nc ns : Nat} {l0 l2 : Int} {mc ms : Nat} {pp : Int → Int → jS → jH → Prop} {qq : Int → Int → jS → jH → jS → jH → Prop} (h : x6_4 C G) (L : j_L S) (hrm : C.2.2.2.1.frames = 3 ∧ C.2.2.2.1.locals = 74) (c1 : S.1 l0 = 25) (hM : M4_14 C.2.1 mc ms pp qq) (hp : pp (l0 + 1) l2 S V) (hc : nc + mc ≤ C.2.2.2.1.cells) (hs : ns + ms ≤ C.2.2.2.1.slots) (k : ∀ (S' : jS) (V' : jH), qq (l0 + 1) l2 S V S' V' → j_ok n_KT 3 C G 21 [] [] S' V' (nc + mc) (ns + ms)) : j_ok n_KT 3 C G 13 [(0, (2, l0)), (2, (0, l2))] [] S V nc ns := by
  have E := n_E h
  refine j_aload_n E d6_4_13 rfl 0 rfl ?_
  refine j_getS (f := 0) (x := l0 + 1) (fg4_12 h) d6_4_14 c1 (by decide) rfl rfl ((L4_0 L c1).trans (by omega)) ?_
  refine j_iload_n E d6_4_17 rfl 1 rfl ?_
  refine j_call E (K6_4_18 h hrm hM) d6_4_18 (a := [(2, l0 + 1), (0, l2)]) (sk := []) rfl ⟨l0 + 1, l2, rfl, (show S.1 (l0 + 1) = 23 from (by have q := L4_0k L c1; rw [show l0 + 1 = l0 + 1 by omega]; exact q)), hp⟩ (Nat.le_of_ble_eq_true rfl) hc hs ?_
  rintro rs S' V' ⟨z0, z1, e1, rfl, q⟩
  simp only [List.cons.injEq, Prod.mk.injEq, and_true, true_and] at e1
  obtain ⟨rfl, rfl⟩ := e1
  exact j_pick [] rfl (k S' V' q)
theorem t6_4_21 {C : qCx} {G : jG} {S : jS} {V : jH} {nc ns : Nat} {mc ms : Nat} {qf : jS → jH → Prop} (h : x6_4 C G)  (R : j_Rv n_KT 3 C G b_6_4 mc ms qf) (q : qf S V) (hc : nc ≤ mc) (hs : ns ≤ ms) : j_ok n_KT 3 C G 21 [] [] S V nc ns := by
  have E := n_E h
  exact R _ _ _ _ _ _ d6_4_21 q hc hs
/- BalanceCoder$Bench.plan(LBalanceCoder$Table;LBalanceCoder$Row;)I -/
abbrev b_2_2 : ByteArray := prog_2_method_2_code
def y_2_2 : MethodName := ⟨"BalanceCoder$Bench", "plan", "(LBalanceCoder$Table;LBalanceCoder$Row;)I"⟩
abbrev x2_2 (C : qCx) (G : jG) : Prop := n_ctx C b_2_2 6 "BalanceCoder$Bench" G.1 G.2.1
def M2_2 (l : Launch) (mc ms : Nat) (p : Int → Int → Int → jS → jH → Prop) (q : Int → Int → Int → jS → jH → Int → jS → jH → Prop) : Prop := j_Met l vwCl n_TL n_NW n_KT y_2_2 (Cond.code y_2_2 b_2_2 6 (some .int) :: n_GW) { frames := 4, cells := mc, slots := ms, locals := 96 } mc ms (fun a S V => ∃ u0 u1 u2 : Int, a = [(2, u0), (2, u1), (2, u2)] ∧ S.1 u0 = 21 ∧ p u0 u1 u2 S V) (fun a S V rs S' V' => ∃ u0 u1 u2 r : Int, a = [(2, u0), (2, u1), (2, u2)] ∧ rs = [(0, r)] ∧ q u0 u1 u2 S V r S' V')
theorem e2_2 {l : Launch} {mc ms : Nat} {p : Int → Int → Int → jS → jH → Prop} {q : Int → Int → Int → jS → jH → Int → jS → jH → Prop} (body : ∀ (C : qCx) (G : jG), x2_2 C G → C.2.2.2.1.frames = 4 ∧ C.2.2.2.1.locals = 96 → C.2.2.2.1.cells = mc ∧ C.2.2.2.1.slots = ms → C.2.1 = l → C.2.2.2.2.2.2.2.2.1.name = "plan" → ∀ (u0 u1 u2 : Int) (S : jS) (V : jH), S.1 u0 = 21 → p u0 u1 u2 S V → j_Ri n_KT 6 C G b_2_2 mc ms (q u0 u1 u2 S V) → j_ok n_KT 6 C G 0 [(0, (2, u0)), (1, (2, u1)), (2, (2, u2))] [] S V 0 0) : M2_2 l mc ms p q := by
  refine j_method (ws' := n_GW) (by decide) rfl ?_ ?_
  · rintro a S V ⟨u0, u1, u2, rfl, -⟩
    exact Nat.le_of_ble_eq_true rfl
  · rintro C G htl hl hrm hm hml ho hts hnm hE a S V ⟨u0, u1, u2, rfl, ht, hp⟩ R
    exact body C G ⟨htl, hm, hml, ho, fun w hw => hts w (List.mem_cons_of_mem _ hw), hE⟩ (by rw [hrm]; exact ⟨rfl, rfl⟩) (by rw [hrm]; exact ⟨rfl, rfl⟩) hl hnm u0 u1 u2 S V ht hp (fun pc lo r S' V' nc ns d q hc hs => R.2.1 rfl pc lo r S' V' nc ns d ⟨u0, u1, u2, r, rfl, rfl, q⟩ hc hs)
theorem d2_2_0 : decode b_2_2 0 = .ok (.iconst (-1), 1) := by decide +kernel
theorem d2_2_1 : decode b_2_2 1 = .ok (.istore_n 3, 1) := by decide +kernel
theorem d2_2_2 : decode b_2_2 2 = .ok (.aload_n 0, 1) := by decide +kernel
theorem d2_2_3 : decode b_2_2 3 = .ok (.getfield 21, 3) := by decide +kernel
theorem d2_2_6 : decode b_2_2 6 = .ok (.aload_n 1, 1) := by decide +kernel
theorem d2_2_7 : decode b_2_2 7 = .ok (.invokevirtual 43, 3) := by decide +kernel
theorem d2_2_10 : decode b_2_2 10 = .ok (.aload_n 0, 1) := by decide +kernel
theorem d2_2_11 : decode b_2_2 11 = .ok (.getfield 28, 3) := by decide +kernel
theorem d2_2_14 : decode b_2_2 14 = .ok (.aload_n 2, 1) := by decide +kernel
theorem d2_2_15 : decode b_2_2 15 = .ok (.getfield 47, 3) := by decide +kernel
theorem d2_2_18 : decode b_2_2 18 = .ok (.putfield 52, 3) := by decide +kernel
theorem d2_2_21 : decode b_2_2 21 = .ok (.iconst 0, 1) := by decide +kernel
theorem d2_2_22 : decode b_2_2 22 = .ok (.istore 4, 2) := by decide +kernel
theorem d2_2_24 : decode b_2_2 24 = .ok (.iload 4, 2) := by decide +kernel
theorem d2_2_26 : decode b_2_2 26 = .ok (.aload_n 2, 1) := by decide +kernel
theorem d2_2_27 : decode b_2_2 27 = .ok (.getfield 47, 3) := by decide +kernel
theorem d2_2_30 : decode b_2_2 30 = .ok (.if_icmp .ge 60, 3) := by decide +kernel
theorem d2_2_33 : decode b_2_2 33 = .ok (.aload_n 2, 1) := by decide +kernel
theorem d2_2_34 : decode b_2_2 34 = .ok (.getfield 53, 3) := by decide +kernel
theorem d2_2_37 : decode b_2_2 37 = .ok (.iload 4, 2) := by decide +kernel
theorem d2_2_39 : decode b_2_2 39 = .ok (.iaload, 1) := by decide +kernel
theorem d2_2_40 : decode b_2_2 40 = .ok (.istore 5, 2) := by decide +kernel
theorem d2_2_42 : decode b_2_2 42 = .ok (.aload_n 0, 1) := by decide +kernel
theorem d2_2_43 : decode b_2_2 43 = .ok (.iload 4, 2) := by decide +kernel
theorem d2_2_45 : decode b_2_2 45 = .ok (.iload 5, 2) := by decide +kernel
theorem d2_2_47 : decode b_2_2 47 = .ok (.aload_n 0, 1) := by decide +kernel
theorem d2_2_48 : decode b_2_2 48 = .ok (.getfield 21, 3) := by decide +kernel
theorem d2_2_51 : decode b_2_2 51 = .ok (.aload_n 1, 1) := by decide +kernel
theorem d2_2_52 : decode b_2_2 52 = .ok (.invokevirtual 56, 3) := by decide +kernel
theorem d2_2_55 : decode b_2_2 55 = .ok (.invokevirtual 60, 3) := by decide +kernel
theorem d2_2_58 : decode b_2_2 58 = .ok (.aload_n 0, 1) := by decide +kernel
theorem d2_2_59 : decode b_2_2 59 = .ok (.getfield 21, 3) := by decide +kernel
theorem d2_2_62 : decode b_2_2 62 = .ok (.aload_n 1, 1) := by decide +kernel
theorem d2_2_63 : decode b_2_2 63 = .ok (.iload 5, 2) := by decide +kernel
theorem d2_2_65 : decode b_2_2 65 = .ok (.invokevirtual 64, 3) := by decide +kernel
theorem d2_2_68 : decode b_2_2 68 = .ok (.aload_n 0, 1) := by decide +kernel
theorem d2_2_69 : decode b_2_2 69 = .ok (.getfield 28, 3) := by decide +kernel
theorem d2_2_72 : decode b_2_2 72 = .ok (.getfield 68, 3) := by decide +kernel
theorem d2_2_75 : decode b_2_2 75 = .ok (.iload 4, 2) := by decide +kernel
theorem d2_2_77 : decode b_2_2 77 = .ok (.iaload, 1) := by decide +kernel
theorem d2_2_78 : decode b_2_2 78 = .ok (.ifCond .ne 6, 3) := by decide +kernel
theorem d2_2_81 : decode b_2_2 81 = .ok (.iload 4, 2) := by decide +kernel
theorem d2_2_83 : decode b_2_2 83 = .ok (.istore_n 3, 1) := by decide +kernel
theorem d2_2_84 : decode b_2_2 84 = .ok (.iinc 4 1, 3) := by decide +kernel
theorem d2_2_87 : decode b_2_2 87 = .ok (.goto (-63), 3) := by decide +kernel
theorem d2_2_90 : decode b_2_2 90 = .ok (.iload_n 3, 1) := by decide +kernel
theorem d2_2_91 : decode b_2_2 91 = .ok (.ireturn, 1) := by decide +kernel
theorem K2_2_7 {C : qCx} {G : jG} {mc ms : Nat} {p : Int → Int → jS → jH → Prop} {q : Int → Int → jS → jH → jS → jH → Prop} (h : x2_2 C G) (hrm : C.2.2.2.1.frames = 4 ∧ C.2.2.2.1.locals = 96) (hM : M6_2 C.2.1 mc ms p q) : j_Call C b_2_2 n_KT G.1 G.2.1 6 (.invokevirtual 43) mc ms (fun a S V => ∃ u0 u1 : Int, a = [(2, u0), (2, u1)] ∧ S.1 u0 = 25 ∧ p u0 u1 S V) (fun a S V rs S' V' => ∃ u0 u1 : Int, a = [(2, u0), (2, u1)] ∧ rs = [] ∧ q u0 u1 S V S' V') := j_callV n_NWk h.2.2.2.2.2 h.1 hM ⟨h.2.1.1, h.2.1.2, h.2.2.1, h.2.2.2.1, h.2.2.2.2.1⟩ ⟨n_CB (y := y_6_2) (bytes := b_6_2) 1 h.2.2.2.2.1 n_w511 n_w508 n_w9 ⟨by decide, by decide, by decide +kernel⟩ rfl rfl ⟨by rw [hrm.1]; exact Nat.le_of_ble_eq_true rfl, by rw [hrm.2]; exact Nat.le_of_ble_eq_true rfl⟩, h.2.2.2.2.1 _ n_w509, h.2.2.2.2.1 _ n_w510⟩ (Cn := RX4) (fun a S V hP => by obtain ⟨u0, u1, rfl, e, -⟩ := hP; exact ⟨u0, _, 4, _, _, TX4, 2, rfl, rfl, by rw [e]; decide, by rw [e]; rfl, rfl⟩)
theorem K2_2_52 {C : qCx} {G : jG} {mc ms : Nat} {p : Int → Int → jS → jH → Prop} {q : Int → Int → jS → jH → Int → jS → jH → Prop} (h : x2_2 C G) (hrm : C.2.2.2.1.frames = 4 ∧ C.2.2.2.1.locals = 96) (hM : M6_3 C.2.1 mc ms p q) : j_Call C b_2_2 n_KT G.1 G.2.1 6 (.invokevirtual 56) mc ms (fun a S V => ∃ u0 u1 : Int, a = [(2, u0), (2, u1)] ∧ S.1 u0 = 25 ∧ p u0 u1 S V) (fun a S V rs S' V' => ∃ u0 u1 r : Int, a = [(2, u0), (2, u1)] ∧ rs = [(2, r)] ∧ q u0 u1 S V r S' V') := j_callV n_NWk h.2.2.2.2.2 h.1 hM ⟨h.2.1.1, h.2.1.2, h.2.2.1, h.2.2.2.1, h.2.2.2.2.1⟩ ⟨n_CB (y := y_6_3) (bytes := b_6_3) 1 h.2.2.2.2.1 n_w517 n_w514 n_w9 ⟨by decide, by decide, by decide +kernel⟩ rfl rfl ⟨by rw [hrm.1]; exact Nat.le_of_ble_eq_true rfl, by rw [hrm.2]; exact Nat.le_of_ble_eq_true rfl⟩, h.2.2.2.2.1 _ n_w515, h.2.2.2.2.1 _ n_w516⟩ (Cn := RX4) (fun a S V hP => by obtain ⟨u0, u1, rfl, e, -⟩ := hP; exact ⟨u0, _, 4, _, _, TX4, 2, rfl, rfl, by rw [e]; decide, by rw [e]; rfl, rfl⟩)
theorem K2_2_55 {C : qCx} {G : jG} {mc ms : Nat} {p : Int → Int → Int → Int → jS → jH → Prop} {q : Int → Int → Int → Int → jS → jH → jS → jH → Prop} (h : x2_2 C G) (hrm : C.2.2.2.1.frames = 4 ∧ C.2.2.2.1.locals = 96) (hM : M2_3 C.2.1 mc ms p q) : j_Call C b_2_2 n_KT G.1 G.2.1 6 (.invokevirtual 60) mc ms (fun a S V => ∃ u0 u1 u2 u3 : Int, a = [(2, u0), (0, u1), (0, u2), (2, u3)] ∧ S.1 u0 = 21 ∧ p u0 u1 u2 u3 S V) (fun a S V rs S' V' => ∃ u0 u1 u2 u3 : Int, a = [(2, u0), (0, u1), (0, u2), (2, u3)] ∧ rs = [] ∧ q u0 u1 u2 u3 S V S' V') := j_callV n_NWk h.2.2.2.2.2 h.1 hM ⟨h.2.1.1, h.2.1.2, h.2.2.1, h.2.2.2.1, h.2.2.2.2.1⟩ ⟨n_CB (y := y_2_3) (bytes := b_2_3) 3 h.2.2.2.2.1 n_w522 n_w519 n_w6 ⟨by decide, by decide, by decide +kernel⟩ rfl rfl ⟨by rw [hrm.1]; exact Nat.le_of_ble_eq_true rfl, by rw [hrm.2]; exact Nat.le_of_ble_eq_true rfl⟩, h.2.2.2.2.1 _ n_w521, h.2.2.2.2.1 _ n_s13⟩ (Cn := RX0) (fun a S V hP => by obtain ⟨u0, u1, u2, u3, rfl, e, -⟩ := hP; exact ⟨u0, _, 0, _, _, TX0, 6, rfl, rfl, by rw [e]; decide, by rw [e]; rfl, rfl⟩)
theorem K2_2_65 {C : qCx} {G : jG} {mc ms : Nat} {p : Int → Int → Int → jS → jH → Prop} {q : Int → Int → Int → jS → jH → jS → jH → Prop} (h : x2_2 C G) (hrm : C.2.2.2.1.frames = 4 ∧ C.2.2.2.1.locals = 96) (hM : M6_4 C.2.1 mc ms p q) : j_Call C b_2_2 n_KT G.1 G.2.1 6 (.invokevirtual 64) mc ms (fun a S V => ∃ u0 u1 u2 : Int, a = [(2, u0), (2, u1), (0, u2)] ∧ S.1 u0 = 25 ∧ p u0 u1 u2 S V) (fun a S V rs S' V' => ∃ u0 u1 u2 : Int, a = [(2, u0), (2, u1), (0, u2)] ∧ rs = [] ∧ q u0 u1 u2 S V S' V') := j_callV n_NWk h.2.2.2.2.2 h.1 hM ⟨h.2.1.1, h.2.1.2, h.2.2.1, h.2.2.2.1, h.2.2.2.2.1⟩ ⟨n_CB (y := y_6_4) (bytes := b_6_4) 2 h.2.2.2.2.1 n_w527 n_w524 n_w9 ⟨by decide, by decide, by decide +kernel⟩ rfl rfl ⟨by rw [hrm.1]; exact Nat.le_of_ble_eq_true rfl, by rw [hrm.2]; exact Nat.le_of_ble_eq_true rfl⟩, h.2.2.2.2.1 _ n_w525, h.2.2.2.2.1 _ n_w526⟩ (Cn := RX4) (fun a S V hP => by obtain ⟨u0, u1, u2, rfl, e, -⟩ := hP; exact ⟨u0, _, 4, _, _, TX4, 2, rfl, rfl, by rw [e]; decide, by rw [e]; rfl, rfl⟩)
theorem t2_2_0 {C : qCx} {G : jG} {S : jS} {V : jH} {nc ns : Nat} {l0 l1 l2 : Int} {mc ms : Nat} {pp : Int → Int → jS → jH → Prop} {qq : Int → Int → jS → jH → jS → jH → Prop} (h : x2_2 C G) (L : j_L S) (hrm : C.2.2.2.1.frames = 4 ∧ C.2.2.2.1.locals = 96) (c1 : S.1 l0 = 21) (hM : M6_2 C.2.1 mc ms pp qq) (hp : pp (l0 + 11) l1 S V) (hc : nc + mc ≤ C.2.2.2.1.cells) (hs : ns + ms ≤ C.2.2.2.1.slots) (k : ∀ (S' : jS) (V' : jH), qq (l0 + 11) l1 S V S' V' → j_ok n_KT 6 C G 10 [(0, (2, l0)), (1, (2, l1)), (2, (2, l2)), (3, (0, (-1)))] [] S' V' (nc + mc) (ns + ms)) : j_ok n_KT 6 C G 0 [(0, (2, l0)), (1, (2, l1)), (2, (2, l2))] [] S V nc ns := by
  have E := n_E h
  refine j_iconst E d2_2_0 (by decide) ?_
  refine j_istore_n E d2_2_1 rfl (by decide) (lo1 := [(0, (2, l0)), (1, (2, l1)), (2, (2, l2))]) rfl ?_
  refine j_aload_n E d2_2_2 rfl 1 rfl ?_
  refine j_getS (f := 1) (x := l0 + 11) (fg0_21 h) d2_2_3 c1 (by decide) rfl rfl ((L0_1 L c1).trans (by omega)) ?_
  refine j_aload_n E d2_2_6 rfl 2 rfl ?_
  refine j_call E (K2_2_7 h hrm hM) d2_2_7 (a := [(2, l0 + 11), (2, l1)]) (sk := []) rfl ⟨l0 + 11, l1, rfl, (show S.1 (l0 + 11) = 25 from (by have q := L0_1k L c1; rw [show l0 + 11 = l0 + 11 by omega]; exact q)), hp⟩ (Nat.le_of_ble_eq_true rfl) hc hs ?_
  rintro rs S' V' ⟨z0, z1, e1, rfl, q⟩
  simp only [List.cons.injEq, Prod.mk.injEq, and_true, true_and] at e1
  obtain ⟨rfl, rfl⟩ := e1
  exact j_pick [1, 2, 3, 0] rfl (k S' V' q)
theorem t2_2_10 {C : qCx} {G : jG} {S : jS} {V : jH} {nc ns : Nat} {l0 l1 l2 l3 : Int} (h : x2_2 C G) (L : j_L S) (c1 : S.1 l0 = 21) (c2 : S.1 l2 = 27) (k : j_ok n_KT 6 C G 24 [(0, (2, l0)), (1, (2, l1)), (2, (2, l2)), (3, (0, l3)), (4, (0, 0))] [] S (j_up V (l0 + 14) 5 (V l2 1)) nc ns) : j_ok n_KT 6 C G 10 [(0, (2, l0)), (1, (2, l1)), (2, (2, l2)), (3, (0, l3))] [] S V nc ns := by
  have E := n_E h
  refine j_aload_n E d2_2_10 rfl 0 rfl ?_
  refine j_getS (f := 2) (x := l0 + 14) (fg0_28 h) d2_2_11 c1 (by decide) rfl rfl ((L0_2 L c1).trans (by omega)) ?_
  refine j_aload_n E d2_2_14 rfl 2 rfl ?_
  refine j_getI (f := 1) (fg0_47 h) d2_2_15 c2 (by decide) rfl rfl ?_
  refine j_putI (f := 5) (fp0_52 h) (n_hap h 28 7 0 _ rfl) d2_2_18 (show S.1 (l0 + 14) = 28 from (by have q := L0_2k L c1; rw [show l0 + 14 = l0 + 14 by omega]; exact q)) (by decide) rfl rfl rfl ?_
  refine j_iconst E d2_2_21 (by decide) ?_
  refine j_istore E d2_2_22 (by decide) (lo1 := [(0, (2, l0)), (1, (2, l1)), (2, (2, l2)), (3, (0, l3))]) rfl ?_
  exact j_pick [1, 2, 3, 4, 0] rfl k
theorem t2_2_24 {C : qCx} {G : jG} {S : jS} {V : jH} {nc ns : Nat} {l0 l1 l2 l3 l4 : Int} (h : x2_2 C G) (c1 : S.1 l2 = 27) (k : V l2 1 ≤ l4 → j_ok n_KT 6 C G 90 [(3, (0, l3))] [] S V nc ns) (k' : l4 < V l2 1 → j_ok n_KT 6 C G 33 [(0, (2, l0)), (1, (2, l1)), (2, (2, l2)), (3, (0, l3)), (4, (0, l4))] [] S V nc ns) : j_ok n_KT 6 C G 24 [(0, (2, l0)), (1, (2, l1)), (2, (2, l2)), (3, (0, l3)), (4, (0, l4))] [] S V nc ns := by
  have E := n_E h
  refine j_iload E d2_2_24 4 rfl ?_
  refine j_aload_n E d2_2_26 rfl 2 rfl ?_
  refine j_getI (f := 1) (fg0_47 h) d2_2_27 c1 (by decide) rfl rfl ?_
  exact j_icmp_ge E d2_2_30 (t := 90) rfl (fun q => j_pick [3] rfl (k q)) (fun q => j_pick [0, 1, 2, 3, 4] rfl (k' q))
theorem t2_2_33 {C : qCx} {G : jG} {S : jS} {V : jH} {nc ns : Nat} {l0 l1 l2 l3 l4 : Int} {mc ms : Nat} {pp : Int → Int → jS → jH → Prop} {qq : Int → Int → jS → jH → Int → jS → jH → Prop} (h : x2_2 C G) (L : j_L S) (hrm : C.2.2.2.1.frames = 4 ∧ C.2.2.2.1.locals = 96) (c1 : S.1 l2 = 27) (c2 : 0 ≤ l4) (c3 : l4 < 400) (c4 : S.1 l0 = 21) (hM : M6_3 C.2.1 mc ms pp qq) (hp : pp (l0 + 11) l1 S V) (hc : nc + mc ≤ C.2.2.2.1.cells) (hs : ns + ms ≤ C.2.2.2.1.slots) (k : ∀ (r : Int) (S' : jS) (V' : jH), qq (l0 + 11) l1 S V r S' V' → j_ok n_KT 6 C G 55 [(0, (2, l0)), (1, (2, l1)), (2, (2, l2)), (3, (0, l3)), (4, (0, l4)), (5, (0, V (l2 + 1) l4))] [(2, r), (0, V (l2 + 1) l4), (0, l4), (2, l0)] S' V' (nc + mc) (ns + ms)) : j_ok n_KT 6 C G 33 [(0, (2, l0)), (1, (2, l1)), (2, (2, l2)), (3, (0, l3)), (4, (0, l4))] [] S V nc ns := by
  have E := n_E h
  refine j_aload_n E d2_2_33 rfl 2 rfl ?_
  refine j_getS (f := 0) (x := l2 + 1) (fg0_53 h) d2_2_34 c1 (by decide) rfl rfl ((L6_0 L c1).trans (by omega)) ?_
  refine j_iload E d2_2_37 4 rfl ?_
  refine j_iald E d2_2_39 (j_arr_of (show S.1 (l2 + 1) = 1 from (by have q := L6_0k L c1; rw [show l2 + 1 = l2 + 1 by omega]; exact q)) (by decide) rfl) c2 c3 ?_
  refine j_istore E d2_2_40 (by decide) (lo1 := [(0, (2, l0)), (1, (2, l1)), (2, (2, l2)), (3, (0, l3)), (4, (0, l4))]) rfl ?_
  refine j_aload_n E d2_2_42 rfl 1 rfl ?_
  refine j_iload E d2_2_43 5 rfl ?_
  refine j_iload E d2_2_45 0 rfl ?_
  refine j_aload_n E d2_2_47 rfl 1 rfl ?_
  refine j_getS (f := 1) (x := l0 + 11) (fg0_21 h) d2_2_48 c4 (by decide) rfl rfl ((L0_1 L c4).trans (by omega)) ?_
  refine j_aload_n E d2_2_51 rfl 2 rfl ?_
  refine j_call E (K2_2_52 h hrm hM) d2_2_52 (a := [(2, l0 + 11), (2, l1)]) (sk := [(0, V (l2 + 1) l4), (0, l4), (2, l0)]) rfl ⟨l0 + 11, l1, rfl, (show S.1 (l0 + 11) = 25 from (by have q := L0_1k L c4; rw [show l0 + 11 = l0 + 11 by omega]; exact q)), hp⟩ (Nat.le_of_ble_eq_true rfl) hc hs ?_
  rintro rs S' V' ⟨z0, z1, r, e1, rfl, q⟩
  simp only [List.cons.injEq, Prod.mk.injEq, and_true, true_and] at e1
  obtain ⟨rfl, rfl⟩ := e1
  exact j_pick [1, 2, 3, 4, 5, 0] rfl (k r S' V' q)
theorem t2_2_55 {C : qCx} {G : jG} {S : jS} {V : jH} {nc ns : Nat} {l0 l1 l2 l3 l4 l5 s0 s1 s2 s3 : Int} {mc ms : Nat} {pp : Int → Int → Int → Int → jS → jH → Prop} {qq : Int → Int → Int → Int → jS → jH → jS → jH → Prop} (h : x2_2 C G) (hrm : C.2.2.2.1.frames = 4 ∧ C.2.2.2.1.locals = 96) (c1 : S.1 s3 = 21) (hM : M2_3 C.2.1 mc ms pp qq) (hp : pp s3 s2 s1 s0 S V) (hc : nc + mc ≤ C.2.2.2.1.cells) (hs : ns + ms ≤ C.2.2.2.1.slots) (k : ∀ (S' : jS) (V' : jH), qq s3 s2 s1 s0 S V S' V' → j_ok n_KT 6 C G 58 [(0, (2, l0)), (1, (2, l1)), (2, (2, l2)), (3, (0, l3)), (4, (0, l4)), (5, (0, l5))] [] S' V' (nc + mc) (ns + ms)) : j_ok n_KT 6 C G 55 [(0, (2, l0)), (1, (2, l1)), (2, (2, l2)), (3, (0, l3)), (4, (0, l4)), (5, (0, l5))] [(2, s0), (0, s1), (0, s2), (2, s3)] S V nc ns := by
  have E := n_E h
  refine j_call E (K2_2_55 h hrm hM) d2_2_55 (a := [(2, s3), (0, s2), (0, s1), (2, s0)]) (sk := []) rfl ⟨s3, s2, s1, s0, rfl, c1, hp⟩ (Nat.le_of_ble_eq_true rfl) hc hs ?_
  rintro rs S' V' ⟨z0, z1, z2, z3, e1, rfl, q⟩
  simp only [List.cons.injEq, Prod.mk.injEq, and_true, true_and] at e1
  obtain ⟨rfl, rfl, rfl, rfl⟩ := e1
  exact j_pick [0, 1, 2, 3, 4, 5] rfl (k S' V' q)
theorem t2_2_58 {C : qCx} {G : jG} {S : jS} {V : jH} {nc ns : Nat} {l0 l1 l2 l3 l4 l5 : Int} {mc ms : Nat} {pp : Int → Int → Int → jS → jH → Prop} {qq : Int → Int → Int → jS → jH → jS → jH → Prop} (h : x2_2 C G) (L : j_L S) (hrm : C.2.2.2.1.frames = 4 ∧ C.2.2.2.1.locals = 96) (c1 : S.1 l0 = 21) (hM : M6_4 C.2.1 mc ms pp qq) (hp : pp (l0 + 11) l1 l5 S V) (hc : nc + mc ≤ C.2.2.2.1.cells) (hs : ns + ms ≤ C.2.2.2.1.slots) (k : ∀ (S' : jS) (V' : jH), qq (l0 + 11) l1 l5 S V S' V' → j_ok n_KT 6 C G 68 [(0, (2, l0)), (1, (2, l1)), (2, (2, l2)), (3, (0, l3)), (4, (0, l4))] [] S' V' (nc + mc) (ns + ms)) : j_ok n_KT 6 C G 58 [(0, (2, l0)), (1, (2, l1)), (2, (2, l2)), (3, (0, l3)), (4, (0, l4)), (5, (0, l5))] [] S V nc ns := by
  have E := n_E h
  refine j_aload_n E d2_2_58 rfl 0 rfl ?_
  refine j_getS (f := 1) (x := l0 + 11) (fg0_21 h) d2_2_59 c1 (by decide) rfl rfl ((L0_1 L c1).trans (by omega)) ?_
  refine j_aload_n E d2_2_62 rfl 1 rfl ?_
  refine j_iload E d2_2_63 5 rfl ?_
  refine j_call E (K2_2_65 h hrm hM) d2_2_65 (a := [(2, l0 + 11), (2, l1), (0, l5)]) (sk := []) rfl ⟨l0 + 11, l1, l5, rfl, (show S.1 (l0 + 11) = 25 from (by have q := L0_1k L c1; rw [show l0 + 11 = l0 + 11 by omega]; exact q)), hp⟩ (Nat.le_of_ble_eq_true rfl) hc hs ?_
  rintro rs S' V' ⟨z0, z1, z2, e1, rfl, q⟩
  simp only [List.cons.injEq, Prod.mk.injEq, and_true, true_and] at e1
  obtain ⟨rfl, rfl, rfl⟩ := e1
  exact j_pick [0, 1, 2, 3, 4] rfl (k S' V' q)
theorem t2_2_68 {C : qCx} {G : jG} {S : jS} {V : jH} {nc ns : Nat} {l0 l1 l2 l3 l4 : Int} (h : x2_2 C G) (L : j_L S) (c1 : S.1 l0 = 21) (c2 : 0 ≤ l4) (c3 : l4 < 400) (k : ¬ V (l0 + 18) l4 = 0 → j_ok n_KT 6 C G 84 [(0, (2, l0)), (1, (2, l1)), (2, (2, l2)), (3, (0, l3)), (4, (0, l4))] [] S V nc ns) (k' : V (l0 + 18) l4 = 0 → j_ok n_KT 6 C G 81 [(0, (2, l0)), (1, (2, l1)), (2, (2, l2)), (4, (0, l4))] [] S V nc ns) : j_ok n_KT 6 C G 68 [(0, (2, l0)), (1, (2, l1)), (2, (2, l2)), (3, (0, l3)), (4, (0, l4))] [] S V nc ns := by
  have E := n_E h
  refine j_aload_n E d2_2_68 rfl 0 rfl ?_
  refine j_getS (f := 2) (x := l0 + 14) (fg0_28 h) d2_2_69 c1 (by decide) rfl rfl ((L0_2 L c1).trans (by omega)) ?_
  refine j_getS (f := 3) (x := l0 + 18) (fg0_68 h) d2_2_72 (show S.1 (l0 + 14) = 28 from (by have q := L0_2k L c1; rw [show l0 + 14 = l0 + 14 by omega]; exact q)) (by decide) rfl rfl ((L7_3 L (show S.1 (l0 + 14) = 28 from (by have q := L0_2k L c1; rw [show l0 + 14 = l0 + 14 by omega]; exact q))).trans (by omega)) ?_
  refine j_iload E d2_2_75 4 rfl ?_
  refine j_iald E d2_2_77 (j_arr_of (show S.1 (l0 + 18) = 1 from (by have q := L7_3k L (show S.1 (l0 + 14) = 28 from (by have q := L0_2k L c1; rw [show l0 + 14 = l0 + 14 by omega]; exact q)); rw [show l0 + 18 = (l0 + 14) + 4 by omega]; exact q)) (by decide) rfl) c2 c3 ?_
  exact j_if_ne E d2_2_78 (t := 84) rfl (fun q => j_pick [0, 1, 2, 3, 4] rfl (k q)) (fun q => j_pick [0, 1, 2, 4] rfl (k' q))
theorem t2_2_81 {C : qCx} {G : jG} {S : jS} {V : jH} {nc ns : Nat} {l0 l1 l2 l4 : Int} (h : x2_2 C G)  (k : j_ok n_KT 6 C G 84 [(0, (2, l0)), (1, (2, l1)), (2, (2, l2)), (3, (0, l4)), (4, (0, l4))] [] S V nc ns) : j_ok n_KT 6 C G 81 [(0, (2, l0)), (1, (2, l1)), (2, (2, l2)), (4, (0, l4))] [] S V nc ns := by
  have E := n_E h
  refine j_iload E d2_2_81 3 rfl ?_
  refine j_istore_n E d2_2_83 rfl (by decide) (lo1 := [(0, (2, l0)), (1, (2, l1)), (2, (2, l2)), (4, (0, l4))]) rfl ?_
  exact j_pick [1, 2, 3, 0, 4] rfl k
theorem t2_2_84 {C : qCx} {G : jG} {S : jS} {V : jH} {nc ns : Nat} {l0 l1 l2 l3 l4 : Int} (h : x2_2 C G) (c1 : -2147483648 ≤ l4 + 1 ∧ l4 + 1 ≤ 2147483647) (k : j_ok n_KT 6 C G 24 [(0, (2, l0)), (1, (2, l1)), (2, (2, l2)), (3, (0, l3)), (4, (0, l4 + 1))] [] S V nc ns) : j_ok n_KT 6 C G 84 [(0, (2, l0)), (1, (2, l1)), (2, (2, l2)), (3, (0, l3)), (4, (0, l4))] [] S V nc ns := by
  have E := n_E h
  refine j_iinc E d2_2_84 (by decide) (by decide) 4 rfl (lo1 := [(0, (2, l0)), (1, (2, l1)), (2, (2, l2)), (3, (0, l3))]) rfl c1 ?_
  refine j_goto E d2_2_87 (t := 24) rfl ?_
  exact j_pick [1, 2, 3, 4, 0] rfl k
theorem t2_2_90 {C : qCx} {G : jG} {S : jS} {V : jH} {nc ns : Nat} {l3 : Int} {mc ms : Nat} {qf : Int → jS → jH → Prop} (h : x2_2 C G)  (R : j_Ri n_KT 6 C G b_2_2 mc ms qf) (q : qf l3 S V) (hc : nc ≤ mc) (hs : ns ≤ ms) : j_ok n_KT 6 C G 90 [(3, (0, l3))] [] S V nc ns := by
  have E := n_E h
  refine j_iload_n E d2_2_90 rfl 0 rfl ?_
  exact R _ _ _ _ _ _ _ d2_2_91 q hc hs
/- BalanceCoder$Bench.packSign(III)I -/
abbrev b_2_5 : ByteArray := prog_2_method_5_code
def y_2_5 : MethodName := ⟨"BalanceCoder$Bench", "packSign", "(III)I"⟩
abbrev x2_5 (C : qCx) (G : jG) : Prop := n_ctx C b_2_5 7 "BalanceCoder$Bench" G.1 G.2.1
def M2_5 (l : Launch) (mc ms : Nat) (p : Int → Int → Int → Int → jS → jH → Prop) (q : Int → Int → Int → Int → jS → jH → Int → jS → jH → Prop) : Prop := j_Met l vwCl n_TL n_NW n_KT y_2_5 (Cond.code y_2_5 b_2_5 7 (some .int) :: n_GW) { frames := 1, cells := mc, slots := ms, locals := 26 } mc ms (fun a S V => ∃ u0 u1 u2 u3 : Int, a = [(2, u0), (0, u1), (0, u2), (0, u3)] ∧ S.1 u0 = 21 ∧ p u0 u1 u2 u3 S V) (fun a S V rs S' V' => ∃ u0 u1 u2 u3 r : Int, a = [(2, u0), (0, u1), (0, u2), (0, u3)] ∧ rs = [(0, r)] ∧ q u0 u1 u2 u3 S V r S' V')
theorem e2_5 {l : Launch} {mc ms : Nat} {p : Int → Int → Int → Int → jS → jH → Prop} {q : Int → Int → Int → Int → jS → jH → Int → jS → jH → Prop} (body : ∀ (C : qCx) (G : jG), x2_5 C G → C.2.2.2.1.frames = 1 ∧ C.2.2.2.1.locals = 26 → C.2.2.2.1.cells = mc ∧ C.2.2.2.1.slots = ms → C.2.1 = l → C.2.2.2.2.2.2.2.2.1.name = "packSign" → ∀ (u0 u1 u2 u3 : Int) (S : jS) (V : jH), S.1 u0 = 21 → p u0 u1 u2 u3 S V → j_Ri n_KT 7 C G b_2_5 mc ms (q u0 u1 u2 u3 S V) → j_ok n_KT 7 C G 0 [(0, (2, u0)), (1, (0, u1)), (2, (0, u2)), (3, (0, u3))] [] S V 0 0) : M2_5 l mc ms p q := by
  refine j_method (ws' := n_GW) (by decide) rfl ?_ ?_
  · rintro a S V ⟨u0, u1, u2, u3, rfl, -⟩
    exact Nat.le_of_ble_eq_true rfl
  · rintro C G htl hl hrm hm hml ho hts hnm hE a S V ⟨u0, u1, u2, u3, rfl, ht, hp⟩ R
    exact body C G ⟨htl, hm, hml, ho, fun w hw => hts w (List.mem_cons_of_mem _ hw), hE⟩ (by rw [hrm]; exact ⟨rfl, rfl⟩) (by rw [hrm]; exact ⟨rfl, rfl⟩) hl hnm u0 u1 u2 u3 S V ht hp (fun pc lo r S' V' nc ns d q hc hs => R.2.1 rfl pc lo r S' V' nc ns d ⟨u0, u1, u2, u3, r, rfl, rfl, q⟩ hc hs)
theorem d2_5_0 : decode b_2_5 0 = .ok (.aload_n 0, 1) := by decide +kernel
theorem d2_5_1 : decode b_2_5 1 = .ok (.getfield 28, 3) := by decide +kernel
theorem d2_5_4 : decode b_2_5 4 = .ok (.getfield 68, 3) := by decide +kernel
theorem d2_5_7 : decode b_2_5 7 = .ok (.iload_n 1, 1) := by decide +kernel
theorem d2_5_8 : decode b_2_5 8 = .ok (.iaload, 1) := by decide +kernel
theorem d2_5_9 : decode b_2_5 9 = .ok (.istore 4, 2) := by decide +kernel
theorem d2_5_11 : decode b_2_5 11 = .ok (.iload 4, 2) := by decide +kernel
theorem d2_5_13 : decode b_2_5 13 = .ok (.iconst 1, 1) := by decide +kernel
theorem d2_5_14 : decode b_2_5 14 = .ok (.if_icmp .ge 5, 3) := by decide +kernel
theorem d2_5_17 : decode b_2_5 17 = .ok (.iload_n 2, 1) := by decide +kernel
theorem d2_5_18 : decode b_2_5 18 = .ok (.ireturn, 1) := by decide +kernel
theorem d2_5_19 : decode b_2_5 19 = .ok (.iload_n 2, 1) := by decide +kernel
theorem d2_5_20 : decode b_2_5 20 = .ok (.istore 5, 2) := by decide +kernel
theorem d2_5_22 : decode b_2_5 22 = .ok (.iconst 0, 1) := by decide +kernel
theorem d2_5_23 : decode b_2_5 23 = .ok (.istore 6, 2) := by decide +kernel
theorem d2_5_25 : decode b_2_5 25 = .ok (.iload 6, 2) := by decide +kernel
theorem d2_5_27 : decode b_2_5 27 = .ok (.iconst 2, 1) := by decide +kernel
theorem d2_5_28 : decode b_2_5 28 = .ok (.if_icmp .ge 65, 3) := by decide +kernel
theorem d2_5_31 : decode b_2_5 31 = .ok (.iload 5, 2) := by decide +kernel
theorem d2_5_33 : decode b_2_5 33 = .ok (.sipush 256, 3) := by decide +kernel
theorem d2_5_36 : decode b_2_5 36 = .ok (.iload 4, 2) := by decide +kernel
theorem d2_5_38 : decode b_2_5 38 = .ok (.imul, 1) := by decide +kernel
theorem d2_5_39 : decode b_2_5 39 = .ok (.if_icmp .lt 54, 3) := by decide +kernel
theorem d2_5_42 : decode b_2_5 42 = .ok (.aload_n 0, 1) := by decide +kernel
theorem d2_5_43 : decode b_2_5 43 = .ok (.getfield 39, 3) := by decide +kernel
theorem d2_5_46 : decode b_2_5 46 = .ok (.aload_n 0, 1) := by decide +kernel
theorem d2_5_47 : decode b_2_5 47 = .ok (.getfield 36, 3) := by decide +kernel
theorem d2_5_50 : decode b_2_5 50 = .ok (.arraylength, 1) := by decide +kernel
theorem d2_5_51 : decode b_2_5 51 = .ok (.if_icmp .ge 42, 3) := by decide +kernel
theorem d2_5_54 : decode b_2_5 54 = .ok (.aload_n 0, 1) := by decide +kernel
theorem d2_5_55 : decode b_2_5 55 = .ok (.getfield 36, 3) := by decide +kernel
theorem d2_5_58 : decode b_2_5 58 = .ok (.aload_n 0, 1) := by decide +kernel
theorem d2_5_59 : decode b_2_5 59 = .ok (.getfield 39, 3) := by decide +kernel
theorem d2_5_62 : decode b_2_5 62 = .ok (.iload 5, 2) := by decide +kernel
theorem d2_5_64 : decode b_2_5 64 = .ok (.sipush 255, 3) := by decide +kernel
theorem d2_5_67 : decode b_2_5 67 = .ok (.iand, 1) := by decide +kernel
theorem d2_5_68 : decode b_2_5 68 = .ok (.iastore, 1) := by decide +kernel
theorem d2_5_69 : decode b_2_5 69 = .ok (.aload_n 0, 1) := by decide +kernel
theorem d2_5_70 : decode b_2_5 70 = .ok (.dup, 1) := by decide +kernel
theorem d2_5_71 : decode b_2_5 71 = .ok (.getfield 39, 3) := by decide +kernel
theorem d2_5_74 : decode b_2_5 74 = .ok (.iconst 1, 1) := by decide +kernel
theorem d2_5_75 : decode b_2_5 75 = .ok (.iadd, 1) := by decide +kernel
theorem d2_5_76 : decode b_2_5 76 = .ok (.putfield 39, 3) := by decide +kernel
theorem d2_5_79 : decode b_2_5 79 = .ok (.iload 5, 2) := by decide +kernel
theorem d2_5_81 : decode b_2_5 81 = .ok (.sipush 256, 3) := by decide +kernel
theorem d2_5_84 : decode b_2_5 84 = .ok (.idiv, 1) := by decide +kernel
theorem d2_5_85 : decode b_2_5 85 = .ok (.istore 5, 2) := by decide +kernel
theorem d2_5_87 : decode b_2_5 87 = .ok (.iinc 6 1, 3) := by decide +kernel
theorem d2_5_90 : decode b_2_5 90 = .ok (.goto (-65), 3) := by decide +kernel
theorem d2_5_93 : decode b_2_5 93 = .ok (.iload_n 3, 1) := by decide +kernel
theorem d2_5_94 : decode b_2_5 94 = .ok (.iload 5, 2) := by decide +kernel
theorem d2_5_96 : decode b_2_5 96 = .ok (.iload 4, 2) := by decide +kernel
theorem d2_5_98 : decode b_2_5 98 = .ok (.idiv, 1) := by decide +kernel
theorem d2_5_99 : decode b_2_5 99 = .ok (.imul, 1) := by decide +kernel
theorem d2_5_100 : decode b_2_5 100 = .ok (.aload_n 0, 1) := by decide +kernel
theorem d2_5_101 : decode b_2_5 101 = .ok (.getfield 28, 3) := by decide +kernel
theorem d2_5_104 : decode b_2_5 104 = .ok (.getfield 78, 3) := by decide +kernel
theorem d2_5_107 : decode b_2_5 107 = .ok (.iload_n 1, 1) := by decide +kernel
theorem d2_5_108 : decode b_2_5 108 = .ok (.iaload, 1) := by decide +kernel
theorem d2_5_109 : decode b_2_5 109 = .ok (.iadd, 1) := by decide +kernel
theorem d2_5_110 : decode b_2_5 110 = .ok (.iload 5, 2) := by decide +kernel
theorem d2_5_112 : decode b_2_5 112 = .ok (.iload 4, 2) := by decide +kernel
theorem d2_5_114 : decode b_2_5 114 = .ok (.irem, 1) := by decide +kernel
theorem d2_5_115 : decode b_2_5 115 = .ok (.iadd, 1) := by decide +kernel
theorem d2_5_116 : decode b_2_5 116 = .ok (.ireturn, 1) := by decide +kernel
theorem t2_5_0 {C : qCx} {G : jG} {S : jS} {V : jH} {nc ns : Nat} {l0 l1 l2 l3 : Int} (h : x2_5 C G) (L : j_L S) (c1 : S.1 l0 = 21) (c2 : 0 ≤ l1) (c3 : l1 < 400) (k : 1 ≤ V (l0 + 18) l1 → j_ok n_KT 7 C G 19 [(0, (2, l0)), (1, (0, l1)), (2, (0, l2)), (3, (0, l3)), (4, (0, V (l0 + 18) l1))] [] S V nc ns) (k' : V (l0 + 18) l1 < 1 → j_ok n_KT 7 C G 17 [(2, (0, l2))] [] S V nc ns) : j_ok n_KT 7 C G 0 [(0, (2, l0)), (1, (0, l1)), (2, (0, l2)), (3, (0, l3))] [] S V nc ns := by
  have E := n_E h
  refine j_aload_n E d2_5_0 rfl 0 rfl ?_
  refine j_getS (f := 2) (x := l0 + 14) (fg0_28 h) d2_5_1 c1 (by decide) rfl rfl ((L0_2 L c1).trans (by omega)) ?_
  refine j_getS (f := 3) (x := l0 + 18) (fg0_68 h) d2_5_4 (show S.1 (l0 + 14) = 28 from (by have q := L0_2k L c1; rw [show l0 + 14 = l0 + 14 by omega]; exact q)) (by decide) rfl rfl ((L7_3 L (show S.1 (l0 + 14) = 28 from (by have q := L0_2k L c1; rw [show l0 + 14 = l0 + 14 by omega]; exact q))).trans (by omega)) ?_
  refine j_iload_n E d2_5_7 rfl 1 rfl ?_
  refine j_iald E d2_5_8 (j_arr_of (show S.1 (l0 + 18) = 1 from (by have q := L7_3k L (show S.1 (l0 + 14) = 28 from (by have q := L0_2k L c1; rw [show l0 + 14 = l0 + 14 by omega]; exact q)); rw [show l0 + 18 = (l0 + 14) + 4 by omega]; exact q)) (by decide) rfl) c2 c3 ?_
  refine j_istore E d2_5_9 (by decide) (lo1 := [(0, (2, l0)), (1, (0, l1)), (2, (0, l2)), (3, (0, l3))]) rfl ?_
  refine j_iload E d2_5_11 0 rfl ?_
  refine j_iconst E d2_5_13 (by decide) ?_
  exact j_icmp_ge E d2_5_14 (t := 19) rfl (fun q => j_pick [1, 2, 3, 4, 0] rfl (k q)) (fun q => j_pick [3] rfl (k' q))
theorem t2_5_17 {C : qCx} {G : jG} {S : jS} {V : jH} {nc ns : Nat} {l2 : Int} {mc ms : Nat} {qf : Int → jS → jH → Prop} (h : x2_5 C G)  (R : j_Ri n_KT 7 C G b_2_5 mc ms qf) (q : qf l2 S V) (hc : nc ≤ mc) (hs : ns ≤ ms) : j_ok n_KT 7 C G 17 [(2, (0, l2))] [] S V nc ns := by
  have E := n_E h
  refine j_iload_n E d2_5_17 rfl 0 rfl ?_
  exact R _ _ _ _ _ _ _ d2_5_18 q hc hs
theorem t2_5_19 {C : qCx} {G : jG} {S : jS} {V : jH} {nc ns : Nat} {l0 l1 l2 l3 l4 : Int} (h : x2_5 C G)  (k : j_ok n_KT 7 C G 25 [(0, (2, l0)), (1, (0, l1)), (3, (0, l3)), (4, (0, l4)), (5, (0, l2)), (6, (0, 0))] [] S V nc ns) : j_ok n_KT 7 C G 19 [(0, (2, l0)), (1, (0, l1)), (2, (0, l2)), (3, (0, l3)), (4, (0, l4))] [] S V nc ns := by
  have E := n_E h
  refine j_iload_n E d2_5_19 rfl 2 rfl ?_
  refine j_istore E d2_5_20 (by decide) (lo1 := [(0, (2, l0)), (1, (0, l1)), (2, (0, l2)), (3, (0, l3)), (4, (0, l4))]) rfl ?_
  refine j_iconst E d2_5_22 (by decide) ?_
  refine j_istore E d2_5_23 (by decide) (lo1 := [(5, (0, l2)), (0, (2, l0)), (1, (0, l1)), (2, (0, l2)), (3, (0, l3)), (4, (0, l4))]) rfl ?_
  exact j_pick [2, 3, 5, 6, 1, 0] rfl k
theorem t2_5_25 {C : qCx} {G : jG} {S : jS} {V : jH} {nc ns : Nat} {l0 l1 l3 l4 l5 l6 : Int} (h : x2_5 C G)  (k : 2 ≤ l6 → j_ok n_KT 7 C G 93 [(0, (2, l0)), (1, (0, l1)), (3, (0, l3)), (4, (0, l4)), (5, (0, l5))] [] S V nc ns) (k' : l6 < 2 → j_ok n_KT 7 C G 31 [(0, (2, l0)), (1, (0, l1)), (3, (0, l3)), (4, (0, l4)), (5, (0, l5)), (6, (0, l6))] [] S V nc ns) : j_ok n_KT 7 C G 25 [(0, (2, l0)), (1, (0, l1)), (3, (0, l3)), (4, (0, l4)), (5, (0, l5)), (6, (0, l6))] [] S V nc ns := by
  have E := n_E h
  refine j_iload E d2_5_25 5 rfl ?_
  refine j_iconst E d2_5_27 (by decide) ?_
  exact j_icmp_ge E d2_5_28 (t := 93) rfl (fun q => j_pick [0, 1, 2, 3, 4] rfl (k q)) (fun q => j_pick [0, 1, 2, 3, 4, 5] rfl (k' q))
theorem t2_5_31 {C : qCx} {G : jG} {S : jS} {V : jH} {nc ns : Nat} {l0 l1 l3 l4 l5 l6 : Int} (h : x2_5 C G) (c1 : -2147483648 ≤ 256 * l4 ∧ 256 * l4 ≤ 2147483647) (k : l5 < 256 * l4 → j_ok n_KT 7 C G 93 [(0, (2, l0)), (1, (0, l1)), (3, (0, l3)), (4, (0, l4)), (5, (0, l5))] [] S V nc ns) (k' : 256 * l4 ≤ l5 → j_ok n_KT 7 C G 42 [(0, (2, l0)), (1, (0, l1)), (3, (0, l3)), (4, (0, l4)), (5, (0, l5)), (6, (0, l6))] [] S V nc ns) : j_ok n_KT 7 C G 31 [(0, (2, l0)), (1, (0, l1)), (3, (0, l3)), (4, (0, l4)), (5, (0, l5)), (6, (0, l6))] [] S V nc ns := by
  have E := n_E h
  refine j_iload E d2_5_31 4 rfl ?_
  refine j_sipush E d2_5_33 (by decide) ?_
  refine j_iload E d2_5_36 3 rfl ?_
  refine j_imul E d2_5_38 c1 ?_
  exact j_icmp_lt E d2_5_39 (t := 93) rfl (fun q => j_pick [0, 1, 2, 3, 4] rfl (k q)) (fun q => j_pick [0, 1, 2, 3, 4, 5] rfl (k' q))
theorem t2_5_42 {C : qCx} {G : jG} {S : jS} {V : jH} {nc ns : Nat} {l0 l1 l3 l4 l5 l6 : Int} (h : x2_5 C G) (L : j_L S) (c1 : S.1 l0 = 21) (k : 800 ≤ V l0 5 → j_ok n_KT 7 C G 93 [(0, (2, l0)), (1, (0, l1)), (3, (0, l3)), (4, (0, l4)), (5, (0, l5))] [] S V nc ns) (k' : V l0 5 < 800 → j_ok n_KT 7 C G 54 [(0, (2, l0)), (1, (0, l1)), (3, (0, l3)), (4, (0, l4)), (5, (0, l5)), (6, (0, l6))] [] S V nc ns) : j_ok n_KT 7 C G 42 [(0, (2, l0)), (1, (0, l1)), (3, (0, l3)), (4, (0, l4)), (5, (0, l5)), (6, (0, l6))] [] S V nc ns := by
  have E := n_E h
  refine j_aload_n E d2_5_42 rfl 0 rfl ?_
  refine j_getI (f := 5) (fg0_39 h) d2_5_43 c1 (by decide) rfl rfl ?_
  refine j_aload_n E d2_5_46 rfl 0 rfl ?_
  refine j_getS (f := 4) (x := l0 + 21) (fg0_36 h) d2_5_47 c1 (by decide) rfl rfl ((L0_4 L c1).trans (by omega)) ?_
  refine j_alenA E d2_5_50 (j_arr_of (show S.1 (l0 + 21) = 5 from (by have q := L0_4k L c1; rw [show l0 + 21 = l0 + 21 by omega]; exact q)) (by decide) rfl) (by decide) ?_
  exact j_icmp_ge E d2_5_51 (t := 93) rfl (fun q => j_pick [0, 1, 2, 3, 4] rfl (k q)) (fun q => j_pick [0, 1, 2, 3, 4, 5] rfl (k' q))
theorem t2_5_54 {C : qCx} {G : jG} {S : jS} {V : jH} {nc ns : Nat} {l0 l1 l3 l4 l5 l6 : Int} (h : x2_5 C G) (L : j_L S) (c1 : S.1 l0 = 21) (c2 : 0 ≤ V l0 5) (c3 : V l0 5 < 800) (c4 : -2147483648 ≤ (V l0 5) + 1 ∧ (V l0 5) + 1 ≤ 2147483647) (c5 : 0 ≤ l5) (c6 : -2147483648 ≤ l6 + 1 ∧ l6 + 1 ≤ 2147483647) (k : j_ok n_KT 7 C G 25 [(0, (2, l0)), (1, (0, l1)), (3, (0, l3)), (4, (0, l4)), (5, (0, l5 / 256)), (6, (0, l6 + 1))] [] S (j_up (j_up V (l0 + 21) (V l0 5) (l5 % 256)) l0 5 ((V l0 5) + 1)) nc ns) : j_ok n_KT 7 C G 54 [(0, (2, l0)), (1, (0, l1)), (3, (0, l3)), (4, (0, l4)), (5, (0, l5)), (6, (0, l6))] [] S V nc ns := by
  have E := n_E h
  refine j_aload_n E d2_5_54 rfl 0 rfl ?_
  refine j_getS (f := 4) (x := l0 + 21) (fg0_36 h) d2_5_55 c1 (by decide) rfl rfl ((L0_4 L c1).trans (by omega)) ?_
  refine j_aload_n E d2_5_58 rfl 0 rfl ?_
  refine j_getI (f := 5) (fg0_39 h) d2_5_59 c1 (by decide) rfl rfl ?_
  refine j_iload E d2_5_62 4 rfl ?_
  refine j_sipush E d2_5_64 (by decide) ?_
  refine j_iand255 E d2_5_67 rfl ?_
  refine j_iast E d2_5_68 (j_arr_of (show S.1 (l0 + 21) = 5 from (by have q := L0_4k L c1; rw [show l0 + 21 = l0 + 21 by omega]; exact q)) (by decide) rfl) c2 c3 ?_
  refine j_aload_n E d2_5_69 rfl 0 rfl ?_
  refine j_dup E d2_5_70 rfl ?_
  refine j_getI (f := 5) (fg0_39 h) d2_5_71 c1 (by decide) rfl rfl ?_
  refine j_eqT (show (j_up V (l0 + 21) (V l0 5) (l5 % 256)) l0 5 = V l0 5 from (congrFun (j_up_ne (by omega)) _)) ?_
  refine j_iconst E d2_5_74 (by decide) ?_
  refine j_iadd E d2_5_75 c4 ?_
  refine j_putI (f := 5) (fp0_39 h) (n_hap h 21 0 0 _ rfl) d2_5_76 c1 (by decide) rfl rfl rfl ?_
  refine j_iload E d2_5_79 4 rfl ?_
  refine j_sipush E d2_5_81 (by decide) ?_
  refine j_idiv E d2_5_84 c5 (by decide) ?_
  refine j_istore E d2_5_85 (by decide) (lo1 := [(0, (2, l0)), (1, (0, l1)), (3, (0, l3)), (4, (0, l4)), (6, (0, l6))]) rfl ?_
  refine j_iinc E d2_5_87 (by decide) (by decide) 5 rfl (lo1 := [(5, (0, l5 / 256)), (0, (2, l0)), (1, (0, l1)), (3, (0, l3)), (4, (0, l4))]) rfl c6 ?_
  refine j_goto E d2_5_90 (t := 25) rfl ?_
  exact j_pick [2, 3, 4, 5, 1, 0] rfl k
theorem t2_5_93 {C : qCx} {G : jG} {S : jS} {V : jH} {nc ns : Nat} {l0 l1 l3 l4 l5 : Int} {mc ms : Nat} {qf : Int → jS → jH → Prop} (h : x2_5 C G) (L : j_L S) (c1 : 0 ≤ l5) (c2 : 1 ≤ l4) (c3 : -2147483648 ≤ l3 * (l5 / l4) ∧ l3 * (l5 / l4) ≤ 2147483647) (c4 : S.1 l0 = 21) (c5 : 0 ≤ l1) (c6 : l1 < 400) (c7 : -2147483648 ≤ (l3 * (l5 / l4)) + (V (l0 + 19) l1) ∧ (l3 * (l5 / l4)) + (V (l0 + 19) l1) ≤ 2147483647) (c8 : -2147483648 ≤ ((l3 * (l5 / l4)) + (V (l0 + 19) l1)) + (l5 % l4) ∧ ((l3 * (l5 / l4)) + (V (l0 + 19) l1)) + (l5 % l4) ≤ 2147483647) (R : j_Ri n_KT 7 C G b_2_5 mc ms qf) (q : qf (((l3 * (l5 / l4)) + (V (l0 + 19) l1)) + (l5 % l4)) S V) (hc : nc ≤ mc) (hs : ns ≤ ms) : j_ok n_KT 7 C G 93 [(0, (2, l0)), (1, (0, l1)), (3, (0, l3)), (4, (0, l4)), (5, (0, l5))] [] S V nc ns := by
  have E := n_E h
  refine j_iload_n E d2_5_93 rfl 2 rfl ?_
  refine j_iload E d2_5_94 4 rfl ?_
  refine j_iload E d2_5_96 3 rfl ?_
  refine j_idiv E d2_5_98 c1 c2 ?_
  refine j_imul E d2_5_99 c3 ?_
  refine j_aload_n E d2_5_100 rfl 0 rfl ?_
  refine j_getS (f := 2) (x := l0 + 14) (fg0_28 h) d2_5_101 c4 (by decide) rfl rfl ((L0_2 L c4).trans (by omega)) ?_
  refine j_getS (f := 4) (x := l0 + 19) (fg0_78 h) d2_5_104 (show S.1 (l0 + 14) = 28 from (by have q := L0_2k L c4; rw [show l0 + 14 = l0 + 14 by omega]; exact q)) (by decide) rfl rfl ((L7_4 L (show S.1 (l0 + 14) = 28 from (by have q := L0_2k L c4; rw [show l0 + 14 = l0 + 14 by omega]; exact q))).trans (by omega)) ?_
  refine j_iload_n E d2_5_107 rfl 1 rfl ?_
  refine j_iald E d2_5_108 (j_arr_of (show S.1 (l0 + 19) = 1 from (by have q := L7_4k L (show S.1 (l0 + 14) = 28 from (by have q := L0_2k L c4; rw [show l0 + 14 = l0 + 14 by omega]; exact q)); rw [show l0 + 19 = (l0 + 14) + 5 by omega]; exact q)) (by decide) rfl) c5 c6 ?_
  refine j_iadd E d2_5_109 c7 ?_
  refine j_iload E d2_5_110 4 rfl ?_
  refine j_iload E d2_5_112 3 rfl ?_
  refine j_irem E d2_5_114 c1 c2 ?_
  refine j_iadd E d2_5_115 c8 ?_
  exact R _ _ _ _ _ _ _ d2_5_116 q hc hs
