/- BalanceCoderModel.isTable(I)Z -/
abbrev b_13_5 : ByteArray := prog_13_method_5_code
def y_13_5 : MethodName := ⟨"BalanceCoderModel", "isTable", "(I)Z"⟩
abbrev x13_5 (C : qCx) (G : jG) : Prop := n_ctx C b_13_5 2 "BalanceCoderModel" G.1 G.2.1
def M13_5 (l : Launch) (mc ms : Nat) (p : Int → Int → jS → jH → Prop) (q : Int → Int → jS → jH → Int → jS → jH → Prop) : Prop := j_Met l vwCl n_TL n_NW n_KT y_13_5 (Cond.code y_13_5 b_13_5 2 (some .boolean) :: n_GW) { frames := 2, cells := mc, slots := ms, locals := 51 } mc ms (fun a S V => ∃ u0 u1 : Int, a = [(2, u0), (0, u1)] ∧ S.1 u0 = 33 ∧ p u0 u1 S V) (fun a S V rs S' V' => ∃ u0 u1 r : Int, a = [(2, u0), (0, u1)] ∧ rs = [(0, r)] ∧ q u0 u1 S V r S' V')
theorem e13_5 {l : Launch} {mc ms : Nat} {p : Int → Int → jS → jH → Prop} {q : Int → Int → jS → jH → Int → jS → jH → Prop} (body : ∀ (C : qCx) (G : jG), x13_5 C G → C.2.2.2.1.frames = 2 ∧ C.2.2.2.1.locals = 51 → C.2.2.2.1.cells = mc ∧ C.2.2.2.1.slots = ms → C.2.1 = l → C.2.2.2.2.2.2.2.2.1.name = "isTable" → ∀ (u0 u1 : Int) (S : jS) (V : jH), S.1 u0 = 33 → p u0 u1 S V → j_Rz n_KT 2 C G b_13_5 mc ms (q u0 u1 S V) → j_ok n_KT 2 C G 0 [(0, (2, u0)), (1, (0, u1))] [] S V 0 0) : M13_5 l mc ms p q := by
  refine j_method (ws' := n_GW) (by decide) rfl ?_ ?_
  · rintro a S V ⟨u0, u1, rfl, -⟩
    exact Nat.le_of_ble_eq_true rfl
  · rintro C G htl hl hrm hm hml ho hts hnm hE a S V ⟨u0, u1, rfl, ht, hp⟩ R
    exact body C G ⟨htl, hm, hml, ho, fun w hw => hts w (List.mem_cons_of_mem _ hw), hE⟩ (by rw [hrm]; exact ⟨rfl, rfl⟩) (by rw [hrm]; exact ⟨rfl, rfl⟩) hl hnm u0 u1 S V ht hp (fun pc lo r S' V' nc ns d z q hc hs => R.2.2.1 rfl pc lo r S' V' nc ns d z ⟨u0, u1, r, rfl, rfl, q⟩ hc hs)
theorem d13_5_0 : decode b_13_5 0 = .ok (.iload_n 1, 1) := by decide +kernel
theorem d13_5_1 : decode b_13_5 1 = .ok (.i2l, 1) := by decide +kernel
theorem d13_5_2 : decode b_13_5 2 = .ok (.lconst 0, 1) := by decide +kernel
theorem d13_5_3 : decode b_13_5 3 = .ok (.aload_n 0, 1) := by decide +kernel
theorem d13_5_4 : decode b_13_5 4 = .ok (.getfield 10, 3) := by decide +kernel
theorem d13_5_7 : decode b_13_5 7 = .ok (.getfield 73, 3) := by decide +kernel
theorem d13_5_10 : decode b_13_5 10 = .ok (.iconst 1, 1) := by decide +kernel
theorem d13_5_11 : decode b_13_5 11 = .ok (.isub, 1) := by decide +kernel
theorem d13_5_12 : decode b_13_5 12 = .ok (.i2l, 1) := by decide +kernel
theorem d13_5_13 : decode b_13_5 13 = .ok (.invokestatic 69, 3) := by decide +kernel
theorem d13_5_16 : decode b_13_5 16 = .ok (.ireturn, 1) := by decide +kernel
theorem K13_5_13 {C : qCx} {G : jG} {mc ms : Nat} {p : Int → Int → Int → jS → jH → Prop} {q : Int → Int → Int → jS → jH → Int → jS → jH → Prop} (h : x13_5 C G) (hrm : C.2.2.2.1.frames = 2 ∧ C.2.2.2.1.locals = 51) (hM : M13_3 C.2.1 mc ms p q) : j_Call C b_13_5 n_KT G.1 G.2.1 2 (.invokestatic 69) mc ms (fun a S V => ∃ u0 u1 u2 : Int, a = [(1, u0), (1, u1), (1, u2)] ∧ p u0 u1 u2 S V) (fun a S V rs S' V' => ∃ u0 u1 u2 r : Int, a = [(1, u0), (1, u1), (1, u2)] ∧ rs = [(0, r)] ∧ q u0 u1 u2 S V r S' V') := j_callS n_NWk h.2.2.2.2.2 h.1 hM ⟨h.2.1.1, h.2.1.2, h.2.2.1, h.2.2.2.1, h.2.2.2.2.1⟩ ⟨n_CB (y := y_13_3) (bytes := b_13_3) 3 h.2.2.2.2.1 n_w923 n_w921 n_w12 ⟨by decide, by decide, by decide +kernel⟩ rfl rfl ⟨by rw [hrm.1]; exact Nat.le_of_ble_eq_true rfl, by rw [hrm.2]; exact Nat.le_of_ble_eq_true rfl⟩, h.2.2.2.2.1 _ n_w922⟩ (fun a S V hP => by obtain ⟨u0, u1, u2, rfl, -⟩ := hP; rfl)
theorem t13_5_0 {C : qCx} {G : jG} {S : jS} {V : jH} {nc ns : Nat} {l0 l1 : Int} {mc ms : Nat} {pp : Int → Int → Int → jS → jH → Prop} {qq : Int → Int → Int → jS → jH → Int → jS → jH → Prop} (h : x13_5 C G) (L : j_L S) (hrm : C.2.2.2.1.frames = 2 ∧ C.2.2.2.1.locals = 51) (c1 : S.1 l0 = 33) (c2 : -2147483648 ≤ (V (l0 + 1) 2) - 1 ∧ (V (l0 + 1) 2) - 1 ≤ 2147483647) (hM : M13_3 C.2.1 mc ms pp qq) (hp : pp l1 0 ((V (l0 + 1) 2) - 1) S V) (hc : nc + mc ≤ C.2.2.2.1.cells) (hs : ns + ms ≤ C.2.2.2.1.slots) (k : ∀ (r : Int) (S' : jS) (V' : jH), qq l1 0 ((V (l0 + 1) 2) - 1) S V r S' V' → j_ok n_KT 2 C G 16 [] [(0, r)] S' V' (nc + mc) (ns + ms)) : j_ok n_KT 2 C G 0 [(0, (2, l0)), (1, (0, l1))] [] S V nc ns := by
  have E := n_E h
  refine j_iload_n E d13_5_0 rfl 1 rfl ?_
  refine j_i2l E d13_5_1 ?_
  refine j_lconst E d13_5_2 ?_
  refine j_aload_n E d13_5_3 rfl 0 rfl ?_
  refine j_getS (f := 0) (x := l0 + 1) (fg12_10 h) d13_5_4 c1 (by decide) rfl rfl ((L12_0 L c1).trans (by omega)) ?_
  refine j_getI (f := 2) (fg12_73 h) d13_5_7 (show S.1 (l0 + 1) = 32 from (by have q := L12_0k L c1; rw [show l0 + 1 = l0 + 1 by omega]; exact q)) (by decide) rfl rfl ?_
  refine j_iconst E d13_5_10 (by decide) ?_
  refine j_isub E d13_5_11 c2 ?_
  refine j_i2l E d13_5_12 ?_
  refine j_call E (K13_5_13 h hrm hM) d13_5_13 (a := [(1, l1), (1, 0), (1, (V (l0 + 1) 2) - 1)]) (sk := []) rfl ⟨l1, 0, (V (l0 + 1) 2) - 1, rfl, hp⟩ (Nat.le_of_ble_eq_true rfl) hc hs ?_
  rintro rs S' V' ⟨z0, z1, z2, r, e1, rfl, q⟩
  simp only [List.cons.injEq, Prod.mk.injEq, and_true, true_and] at e1
  obtain ⟨rfl, rfl, rfl⟩ := e1
  exact j_pick [] rfl (k r S' V' q)
theorem t13_5_16 {C : qCx} {G : jG} {S : jS} {V : jH} {nc ns : Nat} {s0 : Int} {mc ms : Nat} {qf : Int → jS → jH → Prop} (h : x13_5 C G)  (R : j_Rz n_KT 2 C G b_13_5 mc ms qf) (hz : 0 ≤ s0 ∧ s0 ≤ 1) (q : qf s0 S V) (hc : nc ≤ mc) (hs : ns ≤ ms) : j_ok n_KT 2 C G 16 [] [(0, s0)] S V nc ns := by
  have E := n_E h
  exact R _ _ _ _ _ _ _ d13_5_16 hz q hc hs
/- BalanceCoderModel.shareAt(III)I -/
abbrev b_13_11 : ByteArray := prog_13_method_11_code
def y_13_11 : MethodName := ⟨"BalanceCoderModel", "shareAt", "(III)I"⟩
abbrev x13_11 (C : qCx) (G : jG) : Prop := n_ctx C b_13_11 4 "BalanceCoderModel" G.1 G.2.1
def M13_11 (l : Launch) (mc ms : Nat) (p : Int → Int → Int → Int → jS → jH → Prop) (q : Int → Int → Int → Int → jS → jH → Int → jS → jH → Prop) : Prop := j_Met l vwCl n_TL n_NW n_KT y_13_11 (Cond.code y_13_11 b_13_11 4 (some .int) :: n_GW) { frames := 1, cells := mc, slots := ms, locals := 26 } mc ms (fun a S V => ∃ u0 u1 u2 u3 : Int, a = [(2, u0), (0, u1), (0, u2), (0, u3)] ∧ S.1 u0 = 33 ∧ p u0 u1 u2 u3 S V) (fun a S V rs S' V' => ∃ u0 u1 u2 u3 r : Int, a = [(2, u0), (0, u1), (0, u2), (0, u3)] ∧ rs = [(0, r)] ∧ q u0 u1 u2 u3 S V r S' V')
theorem e13_11 {l : Launch} {mc ms : Nat} {p : Int → Int → Int → Int → jS → jH → Prop} {q : Int → Int → Int → Int → jS → jH → Int → jS → jH → Prop} (body : ∀ (C : qCx) (G : jG), x13_11 C G → C.2.2.2.1.frames = 1 ∧ C.2.2.2.1.locals = 26 → C.2.2.2.1.cells = mc ∧ C.2.2.2.1.slots = ms → C.2.1 = l → C.2.2.2.2.2.2.2.2.1.name = "shareAt" → ∀ (u0 u1 u2 u3 : Int) (S : jS) (V : jH), S.1 u0 = 33 → p u0 u1 u2 u3 S V → j_Ri n_KT 4 C G b_13_11 mc ms (q u0 u1 u2 u3 S V) → j_ok n_KT 4 C G 0 [(0, (2, u0)), (1, (0, u1)), (2, (0, u2)), (3, (0, u3))] [] S V 0 0) : M13_11 l mc ms p q := by
  refine j_method (ws' := n_GW) (by decide) rfl ?_ ?_
  · rintro a S V ⟨u0, u1, u2, u3, rfl, -⟩
    exact Nat.le_of_ble_eq_true rfl
  · rintro C G htl hl hrm hm hml ho hts hnm hE a S V ⟨u0, u1, u2, u3, rfl, ht, hp⟩ R
    exact body C G ⟨htl, hm, hml, ho, fun w hw => hts w (List.mem_cons_of_mem _ hw), hE⟩ (by rw [hrm]; exact ⟨rfl, rfl⟩) (by rw [hrm]; exact ⟨rfl, rfl⟩) hl hnm u0 u1 u2 u3 S V ht hp (fun pc lo r S' V' nc ns d q hc hs => R.2.1 rfl pc lo r S' V' nc ns d ⟨u0, u1, u2, u3, r, rfl, rfl, q⟩ hc hs)
theorem d13_11_0 : decode b_13_11 0 = .ok (.sipush 1024, 3) := by decide +kernel
theorem d13_11_3 : decode b_13_11 3 = .ok (.iload_n 1, 1) := by decide +kernel
theorem d13_11_4 : decode b_13_11 4 = .ok (.imul, 1) := by decide +kernel
theorem d13_11_5 : decode b_13_11 5 = .ok (.sipush 256, 3) := by decide +kernel
theorem d13_11_8 : decode b_13_11 8 = .ok (.iload_n 2, 1) := by decide +kernel
theorem d13_11_9 : decode b_13_11 9 = .ok (.imul, 1) := by decide +kernel
theorem d13_11_10 : decode b_13_11 10 = .ok (.iadd, 1) := by decide +kernel
theorem d13_11_11 : decode b_13_11 11 = .ok (.iload_n 3, 1) := by decide +kernel
theorem d13_11_12 : decode b_13_11 12 = .ok (.iadd, 1) := by decide +kernel
theorem d13_11_13 : decode b_13_11 13 = .ok (.ireturn, 1) := by decide +kernel
theorem t13_11_0 {C : qCx} {G : jG} {S : jS} {V : jH} {nc ns : Nat} {l0 l1 l2 l3 : Int} {mc ms : Nat} {qf : Int → jS → jH → Prop} (h : x13_11 C G) (c1 : -2147483648 ≤ 1024 * l1 ∧ 1024 * l1 ≤ 2147483647) (c2 : -2147483648 ≤ 256 * l2 ∧ 256 * l2 ≤ 2147483647) (c3 : -2147483648 ≤ (1024 * l1) + (256 * l2) ∧ (1024 * l1) + (256 * l2) ≤ 2147483647) (c4 : -2147483648 ≤ ((1024 * l1) + (256 * l2)) + l3 ∧ ((1024 * l1) + (256 * l2)) + l3 ≤ 2147483647) (R : j_Ri n_KT 4 C G b_13_11 mc ms qf) (q : qf (((1024 * l1) + (256 * l2)) + l3) S V) (hc : nc ≤ mc) (hs : ns ≤ ms) : j_ok n_KT 4 C G 0 [(0, (2, l0)), (1, (0, l1)), (2, (0, l2)), (3, (0, l3))] [] S V nc ns := by
  have E := n_E h
  refine j_sipush E d13_11_0 (by decide) ?_
  refine j_iload_n E d13_11_3 rfl 1 rfl ?_
  refine j_imul E d13_11_4 c1 ?_
  refine j_sipush E d13_11_5 (by decide) ?_
  refine j_iload_n E d13_11_8 rfl 2 rfl ?_
  refine j_imul E d13_11_9 c2 ?_
  refine j_iadd E d13_11_10 c3 ?_
  refine j_iload_n E d13_11_11 rfl 3 rfl ?_
  refine j_iadd E d13_11_12 c4 ?_
  exact R _ _ _ _ _ _ _ d13_11_13 q hc hs
/- BalanceCoderModel.sharesOf(II)I -/
abbrev b_13_12 : ByteArray := prog_13_method_12_code
def y_13_12 : MethodName := ⟨"BalanceCoderModel", "sharesOf", "(II)I"⟩
abbrev x13_12 (C : qCx) (G : jG) : Prop := n_ctx C b_13_12 5 "BalanceCoderModel" G.1 G.2.1
def M13_12 (l : Launch) (mc ms : Nat) (p : Int → Int → Int → jS → jH → Prop) (q : Int → Int → Int → jS → jH → Int → jS → jH → Prop) : Prop := j_Met l vwCl n_TL n_NW n_KT y_13_12 (Cond.code y_13_12 b_13_12 5 (some .int) :: n_GW) { frames := 2, cells := mc, slots := ms, locals := 49 } mc ms (fun a S V => ∃ u0 u1 u2 : Int, a = [(2, u0), (0, u1), (0, u2)] ∧ S.1 u0 = 33 ∧ p u0 u1 u2 S V) (fun a S V rs S' V' => ∃ u0 u1 u2 r : Int, a = [(2, u0), (0, u1), (0, u2)] ∧ rs = [(0, r)] ∧ q u0 u1 u2 S V r S' V')
theorem e13_12 {l : Launch} {mc ms : Nat} {p : Int → Int → Int → jS → jH → Prop} {q : Int → Int → Int → jS → jH → Int → jS → jH → Prop} (body : ∀ (C : qCx) (G : jG), x13_12 C G → C.2.2.2.1.frames = 2 ∧ C.2.2.2.1.locals = 49 → C.2.2.2.1.cells = mc ∧ C.2.2.2.1.slots = ms → C.2.1 = l → C.2.2.2.2.2.2.2.2.1.name = "sharesOf" → ∀ (u0 u1 u2 : Int) (S : jS) (V : jH), S.1 u0 = 33 → p u0 u1 u2 S V → j_Ri n_KT 5 C G b_13_12 mc ms (q u0 u1 u2 S V) → j_ok n_KT 5 C G 0 [(0, (2, u0)), (1, (0, u1)), (2, (0, u2))] [] S V 0 0) : M13_12 l mc ms p q := by
  refine j_method (ws' := n_GW) (by decide) rfl ?_ ?_
  · rintro a S V ⟨u0, u1, u2, rfl, -⟩
    exact Nat.le_of_ble_eq_true rfl
  · rintro C G htl hl hrm hm hml ho hts hnm hE a S V ⟨u0, u1, u2, rfl, ht, hp⟩ R
    exact body C G ⟨htl, hm, hml, ho, fun w hw => hts w (List.mem_cons_of_mem _ hw), hE⟩ (by rw [hrm]; exact ⟨rfl, rfl⟩) (by rw [hrm]; exact ⟨rfl, rfl⟩) hl hnm u0 u1 u2 S V ht hp (fun pc lo r S' V' nc ns d q hc hs => R.2.1 rfl pc lo r S' V' nc ns d ⟨u0, u1, u2, r, rfl, rfl, q⟩ hc hs)
theorem d13_12_0 : decode b_13_12 0 = .ok (.iconst 0, 1) := by decide +kernel
theorem d13_12_1 : decode b_13_12 1 = .ok (.istore_n 3, 1) := by decide +kernel
theorem d13_12_2 : decode b_13_12 2 = .ok (.iconst 0, 1) := by decide +kernel
theorem d13_12_3 : decode b_13_12 3 = .ok (.istore 4, 2) := by decide +kernel
theorem d13_12_5 : decode b_13_12 5 = .ok (.iload 4, 2) := by decide +kernel
theorem d13_12_7 : decode b_13_12 7 = .ok (.sipush 256, 3) := by decide +kernel
theorem d13_12_10 : decode b_13_12 10 = .ok (.if_icmp .ge 28, 3) := by decide +kernel
theorem d13_12_13 : decode b_13_12 13 = .ok (.iload_n 3, 1) := by decide +kernel
theorem d13_12_14 : decode b_13_12 14 = .ok (.aload_n 0, 1) := by decide +kernel
theorem d13_12_15 : decode b_13_12 15 = .ok (.getfield 10, 3) := by decide +kernel
theorem d13_12_18 : decode b_13_12 18 = .ok (.getfield 110, 3) := by decide +kernel
theorem d13_12_21 : decode b_13_12 21 = .ok (.aload_n 0, 1) := by decide +kernel
theorem d13_12_22 : decode b_13_12 22 = .ok (.iload_n 1, 1) := by decide +kernel
theorem d13_12_23 : decode b_13_12 23 = .ok (.iload_n 2, 1) := by decide +kernel
theorem d13_12_24 : decode b_13_12 24 = .ok (.iload 4, 2) := by decide +kernel
theorem d13_12_26 : decode b_13_12 26 = .ok (.invokevirtual 113, 3) := by decide +kernel
theorem d13_12_29 : decode b_13_12 29 = .ok (.iaload, 1) := by decide +kernel
theorem d13_12_30 : decode b_13_12 30 = .ok (.iadd, 1) := by decide +kernel
theorem d13_12_31 : decode b_13_12 31 = .ok (.istore_n 3, 1) := by decide +kernel
theorem d13_12_32 : decode b_13_12 32 = .ok (.iinc 4 1, 3) := by decide +kernel
theorem d13_12_35 : decode b_13_12 35 = .ok (.goto (-30), 3) := by decide +kernel
theorem d13_12_38 : decode b_13_12 38 = .ok (.iload_n 3, 1) := by decide +kernel
theorem d13_12_39 : decode b_13_12 39 = .ok (.ireturn, 1) := by decide +kernel
theorem K13_12_26 {C : qCx} {G : jG} {mc ms : Nat} {p : Int → Int → Int → Int → jS → jH → Prop} {q : Int → Int → Int → Int → jS → jH → Int → jS → jH → Prop} (h : x13_12 C G) (hrm : C.2.2.2.1.frames = 2 ∧ C.2.2.2.1.locals = 49) (hM : M13_11 C.2.1 mc ms p q) : j_Call C b_13_12 n_KT G.1 G.2.1 5 (.invokevirtual 113) mc ms (fun a S V => ∃ u0 u1 u2 u3 : Int, a = [(2, u0), (0, u1), (0, u2), (0, u3)] ∧ S.1 u0 = 33 ∧ p u0 u1 u2 u3 S V) (fun a S V rs S' V' => ∃ u0 u1 u2 u3 r : Int, a = [(2, u0), (0, u1), (0, u2), (0, u3)] ∧ rs = [(0, r)] ∧ q u0 u1 u2 u3 S V r S' V') := j_callV n_NWk h.2.2.2.2.2 h.1 hM ⟨h.2.1.1, h.2.1.2, h.2.2.1, h.2.2.2.1, h.2.2.2.2.1⟩ ⟨n_CB (y := y_13_11) (bytes := b_13_11) 3 h.2.2.2.2.1 n_w964 n_w961 n_w12 ⟨by decide, by decide, by decide +kernel⟩ rfl rfl ⟨by rw [hrm.1]; exact Nat.le_of_ble_eq_true rfl, by rw [hrm.2]; exact Nat.le_of_ble_eq_true rfl⟩, h.2.2.2.2.1 _ n_w963, h.2.2.2.2.1 _ n_s30⟩ (Cn := RX12) (fun a S V hP => by obtain ⟨u0, u1, u2, u3, rfl, e, -⟩ := hP; exact ⟨u0, _, 12, _, _, TX12, 31, rfl, rfl, by rw [e]; decide, by rw [e]; rfl, rfl⟩)
theorem t13_12_0 {C : qCx} {G : jG} {S : jS} {V : jH} {nc ns : Nat} {l0 l1 l2 : Int} (h : x13_12 C G)  (k : j_ok n_KT 5 C G 5 [(0, (2, l0)), (1, (0, l1)), (2, (0, l2)), (3, (0, 0)), (4, (0, 0))] [] S V nc ns) : j_ok n_KT 5 C G 0 [(0, (2, l0)), (1, (0, l1)), (2, (0, l2))] [] S V nc ns := by
  have E := n_E h
  refine j_iconst E d13_12_0 (by decide) ?_
  refine j_istore_n E d13_12_1 rfl (by decide) (lo1 := [(0, (2, l0)), (1, (0, l1)), (2, (0, l2))]) rfl ?_
  refine j_iconst E d13_12_2 (by decide) ?_
  refine j_istore E d13_12_3 (by decide) (lo1 := [(3, (0, 0)), (0, (2, l0)), (1, (0, l1)), (2, (0, l2))]) rfl ?_
  exact j_pick [2, 3, 4, 1, 0] rfl k
theorem t13_12_5 {C : qCx} {G : jG} {S : jS} {V : jH} {nc ns : Nat} {l0 l1 l2 l3 l4 : Int} (h : x13_12 C G)  (k : 256 ≤ l4 → j_ok n_KT 5 C G 38 [(3, (0, l3))] [] S V nc ns) (k' : l4 < 256 → j_ok n_KT 5 C G 13 [(0, (2, l0)), (1, (0, l1)), (2, (0, l2)), (3, (0, l3)), (4, (0, l4))] [] S V nc ns) : j_ok n_KT 5 C G 5 [(0, (2, l0)), (1, (0, l1)), (2, (0, l2)), (3, (0, l3)), (4, (0, l4))] [] S V nc ns := by
  have E := n_E h
  refine j_iload E d13_12_5 4 rfl ?_
  refine j_sipush E d13_12_7 (by decide) ?_
  exact j_icmp_ge E d13_12_10 (t := 38) rfl (fun q => j_pick [3] rfl (k q)) (fun q => j_pick [0, 1, 2, 3, 4] rfl (k' q))
theorem t13_12_13 {C : qCx} {G : jG} {S : jS} {V : jH} {nc ns : Nat} {l0 l1 l2 l3 l4 : Int} {mc ms : Nat} {pp : Int → Int → Int → Int → jS → jH → Prop} {qq : Int → Int → Int → Int → jS → jH → Int → jS → jH → Prop} (h : x13_12 C G) (L : j_L S) (hrm : C.2.2.2.1.frames = 2 ∧ C.2.2.2.1.locals = 49) (c1 : S.1 l0 = 33) (hM : M13_11 C.2.1 mc ms pp qq) (hp : pp l0 l1 l2 l4 S V) (hc : nc + mc ≤ C.2.2.2.1.cells) (hs : ns + ms ≤ C.2.2.2.1.slots) (k : ∀ (r : Int) (S' : jS) (V' : jH), qq l0 l1 l2 l4 S V r S' V' → j_ok n_KT 5 C G 29 [(0, (2, l0)), (1, (0, l1)), (2, (0, l2)), (4, (0, l4))] [(0, r), (2, l0 + 7), (0, l3)] S' V' (nc + mc) (ns + ms)) : j_ok n_KT 5 C G 13 [(0, (2, l0)), (1, (0, l1)), (2, (0, l2)), (3, (0, l3)), (4, (0, l4))] [] S V nc ns := by
  have E := n_E h
  refine j_iload_n E d13_12_13 rfl 3 rfl ?_
  refine j_aload_n E d13_12_14 rfl 0 rfl ?_
  refine j_getS (f := 0) (x := l0 + 1) (fg12_10 h) d13_12_15 c1 (by decide) rfl rfl ((L12_0 L c1).trans (by omega)) ?_
  refine j_getS (f := 6) (x := l0 + 7) (fg12_110 h) d13_12_18 (show S.1 (l0 + 1) = 32 from (by have q := L12_0k L c1; rw [show l0 + 1 = l0 + 1 by omega]; exact q)) (by decide) rfl rfl ((L11_6 L (show S.1 (l0 + 1) = 32 from (by have q := L12_0k L c1; rw [show l0 + 1 = l0 + 1 by omega]; exact q))).trans (by omega)) ?_
  refine j_aload_n E d13_12_21 rfl 0 rfl ?_
  refine j_iload_n E d13_12_22 rfl 1 rfl ?_
  refine j_iload_n E d13_12_23 rfl 2 rfl ?_
  refine j_iload E d13_12_24 4 rfl ?_
  refine j_call E (K13_12_26 h hrm hM) d13_12_26 (a := [(2, l0), (0, l1), (0, l2), (0, l4)]) (sk := [(2, l0 + 7), (0, l3)]) rfl ⟨l0, l1, l2, l4, rfl, c1, hp⟩ (Nat.le_of_ble_eq_true rfl) hc hs ?_
  rintro rs S' V' ⟨z0, z1, z2, z3, r, e1, rfl, q⟩
  simp only [List.cons.injEq, Prod.mk.injEq, and_true, true_and] at e1
  obtain ⟨rfl, rfl, rfl, rfl⟩ := e1
  exact j_pick [0, 1, 2, 4] rfl (k r S' V' q)
theorem t13_12_29 {C : qCx} {G : jG} {S : jS} {V : jH} {nc ns : Nat} {l0 l1 l2 l4 s0 s1 s2 : Int} {n_s1 : Nat} (h : x13_12 C G) (c1 : j_arr S s1 n_s1) (c2 : 0 ≤ s0) (c3 : s0 < (n_s1 : Int)) (c4 : -2147483648 ≤ s2 + (V s1 s0) ∧ s2 + (V s1 s0) ≤ 2147483647) (c5 : -2147483648 ≤ l4 + 1 ∧ l4 + 1 ≤ 2147483647) (k : j_ok n_KT 5 C G 5 [(0, (2, l0)), (1, (0, l1)), (2, (0, l2)), (3, (0, s2 + (V s1 s0))), (4, (0, l4 + 1))] [] S V nc ns) : j_ok n_KT 5 C G 29 [(0, (2, l0)), (1, (0, l1)), (2, (0, l2)), (4, (0, l4))] [(0, s0), (2, s1), (0, s2)] S V nc ns := by
  have E := n_E h
  refine j_iald E d13_12_29 c1 c2 c3 ?_
  refine j_iadd E d13_12_30 c4 ?_
  refine j_istore_n E d13_12_31 rfl (by decide) (lo1 := [(0, (2, l0)), (1, (0, l1)), (2, (0, l2)), (4, (0, l4))]) rfl ?_
  refine j_iinc E d13_12_32 (by decide) (by decide) 4 rfl (lo1 := [(3, (0, s2 + (V s1 s0))), (0, (2, l0)), (1, (0, l1)), (2, (0, l2))]) rfl c5 ?_
  refine j_goto E d13_12_35 (t := 5) rfl ?_
  exact j_pick [2, 3, 4, 1, 0] rfl k
theorem t13_12_38 {C : qCx} {G : jG} {S : jS} {V : jH} {nc ns : Nat} {l3 : Int} {mc ms : Nat} {qf : Int → jS → jH → Prop} (h : x13_12 C G)  (R : j_Ri n_KT 5 C G b_13_12 mc ms qf) (q : qf l3 S V) (hc : nc ≤ mc) (hs : ns ≤ ms) : j_ok n_KT 5 C G 38 [(3, (0, l3))] [] S V nc ns := by
  have E := n_E h
  refine j_iload_n E d13_12_38 rfl 0 rfl ?_
  exact R _ _ _ _ _ _ _ d13_12_39 q hc hs
/- BalanceCoderModel.share(III)I -/
abbrev b_13_13 : ByteArray := prog_13_method_13_code
def y_13_13 : MethodName := ⟨"BalanceCoderModel", "share", "(III)I"⟩
abbrev x13_13 (C : qCx) (G : jG) : Prop := n_ctx C b_13_13 6 "BalanceCoderModel" G.1 G.2.1
def M13_13 (l : Launch) (mc ms : Nat) (p : Int → Int → Int → Int → jS → jH → Prop) (q : Int → Int → Int → Int → jS → jH → Int → jS → jH → Prop) : Prop := j_Met l vwCl n_TL n_NW n_KT y_13_13 (Cond.code y_13_13 b_13_13 6 (some .int) :: n_GW) { frames := 3, cells := mc, slots := ms, locals := 73 } mc ms (fun a S V => ∃ u0 u1 u2 u3 : Int, a = [(2, u0), (0, u1), (0, u2), (0, u3)] ∧ S.1 u0 = 33 ∧ p u0 u1 u2 u3 S V) (fun a S V rs S' V' => ∃ u0 u1 u2 u3 r : Int, a = [(2, u0), (0, u1), (0, u2), (0, u3)] ∧ rs = [(0, r)] ∧ q u0 u1 u2 u3 S V r S' V')
theorem e13_13 {l : Launch} {mc ms : Nat} {p : Int → Int → Int → Int → jS → jH → Prop} {q : Int → Int → Int → Int → jS → jH → Int → jS → jH → Prop} (body : ∀ (C : qCx) (G : jG), x13_13 C G → C.2.2.2.1.frames = 3 ∧ C.2.2.2.1.locals = 73 → C.2.2.2.1.cells = mc ∧ C.2.2.2.1.slots = ms → C.2.1 = l → C.2.2.2.2.2.2.2.2.1.name = "share" → ∀ (u0 u1 u2 u3 : Int) (S : jS) (V : jH), S.1 u0 = 33 → p u0 u1 u2 u3 S V → j_Ri n_KT 6 C G b_13_13 mc ms (q u0 u1 u2 u3 S V) → j_ok n_KT 6 C G 0 [(0, (2, u0)), (1, (0, u1)), (2, (0, u2)), (3, (0, u3))] [] S V 0 0) : M13_13 l mc ms p q := by
  refine j_method (ws' := n_GW) (by decide) rfl ?_ ?_
  · rintro a S V ⟨u0, u1, u2, u3, rfl, -⟩
    exact Nat.le_of_ble_eq_true rfl
  · rintro C G htl hl hrm hm hml ho hts hnm hE a S V ⟨u0, u1, u2, u3, rfl, ht, hp⟩ R
    exact body C G ⟨htl, hm, hml, ho, fun w hw => hts w (List.mem_cons_of_mem _ hw), hE⟩ (by rw [hrm]; exact ⟨rfl, rfl⟩) (by rw [hrm]; exact ⟨rfl, rfl⟩) hl hnm u0 u1 u2 u3 S V ht hp (fun pc lo r S' V' nc ns d q hc hs => R.2.1 rfl pc lo r S' V' nc ns d ⟨u0, u1, u2, u3, r, rfl, rfl, q⟩ hc hs)
theorem d13_13_0 : decode b_13_13 0 = .ok (.aload_n 0, 1) := by decide +kernel
theorem d13_13_1 : decode b_13_13 1 = .ok (.iload_n 1, 1) := by decide +kernel
theorem d13_13_2 : decode b_13_13 2 = .ok (.invokevirtual 117, 3) := by decide +kernel
theorem d13_13_5 : decode b_13_13 5 = .ok (.ifCond .ne 9, 3) := by decide +kernel
theorem d13_13_8 : decode b_13_13 8 = .ok (.aload_n 0, 1) := by decide +kernel
theorem d13_13_9 : decode b_13_13 9 = .ok (.iconst (-1), 1) := by decide +kernel
theorem d13_13_10 : decode b_13_13 10 = .ok (.invokevirtual 82, 3) := by decide +kernel
theorem d13_13_13 : decode b_13_13 13 = .ok (.ireturn, 1) := by decide +kernel
theorem d13_13_14 : decode b_13_13 14 = .ok (.aload_n 0, 1) := by decide +kernel
theorem d13_13_15 : decode b_13_13 15 = .ok (.getfield 10, 3) := by decide +kernel
theorem d13_13_18 : decode b_13_13 18 = .ok (.getfield 100, 3) := by decide +kernel
theorem d13_13_21 : decode b_13_13 21 = .ok (.iload_n 1, 1) := by decide +kernel
theorem d13_13_22 : decode b_13_13 22 = .ok (.iaload, 1) := by decide +kernel
theorem d13_13_23 : decode b_13_13 23 = .ok (.ifCond .eq 10, 3) := by decide +kernel
theorem d13_13_26 : decode b_13_13 26 = .ok (.aload_n 0, 1) := by decide +kernel
theorem d13_13_27 : decode b_13_13 27 = .ok (.bipush (-3), 2) := by decide +kernel
theorem d13_13_29 : decode b_13_13 29 = .ok (.invokevirtual 82, 3) := by decide +kernel
theorem d13_13_32 : decode b_13_13 32 = .ok (.ireturn, 1) := by decide +kernel
theorem d13_13_33 : decode b_13_13 33 = .ok (.iconst 1, 1) := by decide +kernel
theorem d13_13_34 : decode b_13_13 34 = .ok (.aload_n 0, 1) := by decide +kernel
theorem d13_13_35 : decode b_13_13 35 = .ok (.getfield 10, 3) := by decide +kernel
theorem d13_13_38 : decode b_13_13 38 = .ok (.getfield 103, 3) := by decide +kernel
theorem d13_13_41 : decode b_13_13 41 = .ok (.iload_n 1, 1) := by decide +kernel
theorem d13_13_42 : decode b_13_13 42 = .ok (.iaload, 1) := by decide +kernel
theorem d13_13_43 : decode b_13_13 43 = .ok (.ishl, 1) := by decide +kernel
theorem d13_13_44 : decode b_13_13 44 = .ok (.istore 4, 2) := by decide +kernel
theorem d13_13_46 : decode b_13_13 46 = .ok (.iload_n 2, 1) := by decide +kernel
theorem d13_13_47 : decode b_13_13 47 = .ok (.i2l, 1) := by decide +kernel
theorem d13_13_48 : decode b_13_13 48 = .ok (.lconst 0, 1) := by decide +kernel
theorem d13_13_49 : decode b_13_13 49 = .ok (.ldc2_w 92, 3) := by decide +kernel
theorem d13_13_52 : decode b_13_13 52 = .ok (.invokestatic 69, 3) := by decide +kernel
theorem d13_13_55 : decode b_13_13 55 = .ok (.ifCond .eq 15, 3) := by decide +kernel
theorem d13_13_58 : decode b_13_13 58 = .ok (.iload_n 3, 1) := by decide +kernel
theorem d13_13_59 : decode b_13_13 59 = .ok (.i2l, 1) := by decide +kernel
theorem d13_13_60 : decode b_13_13 60 = .ok (.lconst 0, 1) := by decide +kernel
theorem d13_13_61 : decode b_13_13 61 = .ok (.iload 4, 2) := by decide +kernel
theorem d13_13_63 : decode b_13_13 63 = .ok (.i2l, 1) := by decide +kernel
theorem d13_13_64 : decode b_13_13 64 = .ok (.invokestatic 69, 3) := by decide +kernel
theorem d13_13_67 : decode b_13_13 67 = .ok (.ifCond .ne 9, 3) := by decide +kernel
theorem d13_13_70 : decode b_13_13 70 = .ok (.aload_n 0, 1) := by decide +kernel
theorem d13_13_71 : decode b_13_13 71 = .ok (.iconst (-1), 1) := by decide +kernel
theorem d13_13_72 : decode b_13_13 72 = .ok (.invokevirtual 82, 3) := by decide +kernel
theorem d13_13_75 : decode b_13_13 75 = .ok (.ireturn, 1) := by decide +kernel
theorem d13_13_76 : decode b_13_13 76 = .ok (.aload_n 0, 1) := by decide +kernel
theorem d13_13_77 : decode b_13_13 77 = .ok (.iload_n 1, 1) := by decide +kernel
theorem d13_13_78 : decode b_13_13 78 = .ok (.iconst 0, 1) := by decide +kernel
theorem d13_13_79 : decode b_13_13 79 = .ok (.invokevirtual 120, 3) := by decide +kernel
theorem d13_13_82 : decode b_13_13 82 = .ok (.aload_n 0, 1) := by decide +kernel
theorem d13_13_83 : decode b_13_13 83 = .ok (.getfield 10, 3) := by decide +kernel
theorem d13_13_86 : decode b_13_13 86 = .ok (.getfield 110, 3) := by decide +kernel
theorem d13_13_89 : decode b_13_13 89 = .ok (.aload_n 0, 1) := by decide +kernel
theorem d13_13_90 : decode b_13_13 90 = .ok (.iload_n 1, 1) := by decide +kernel
theorem d13_13_91 : decode b_13_13 91 = .ok (.iconst 0, 1) := by decide +kernel
theorem d13_13_92 : decode b_13_13 92 = .ok (.iload_n 2, 1) := by decide +kernel
theorem d13_13_93 : decode b_13_13 93 = .ok (.invokevirtual 113, 3) := by decide +kernel
theorem d13_13_96 : decode b_13_13 96 = .ok (.iaload, 1) := by decide +kernel
theorem d13_13_97 : decode b_13_13 97 = .ok (.isub, 1) := by decide +kernel
theorem d13_13_98 : decode b_13_13 98 = .ok (.istore 5, 2) := by decide +kernel
theorem d13_13_100 : decode b_13_13 100 = .ok (.iload 5, 2) := by decide +kernel
theorem d13_13_102 : decode b_13_13 102 = .ok (.iload_n 3, 1) := by decide +kernel
theorem d13_13_103 : decode b_13_13 103 = .ok (.iadd, 1) := by decide +kernel
theorem d13_13_104 : decode b_13_13 104 = .ok (.iload 4, 2) := by decide +kernel
theorem d13_13_106 : decode b_13_13 106 = .ok (.if_icmp .le 10, 3) := by decide +kernel
theorem d13_13_109 : decode b_13_13 109 = .ok (.aload_n 0, 1) := by decide +kernel
theorem d13_13_110 : decode b_13_13 110 = .ok (.bipush (-2), 2) := by decide +kernel
theorem d13_13_112 : decode b_13_13 112 = .ok (.invokevirtual 82, 3) := by decide +kernel
theorem d13_13_115 : decode b_13_13 115 = .ok (.ireturn, 1) := by decide +kernel
theorem d13_13_116 : decode b_13_13 116 = .ok (.aload_n 0, 1) := by decide +kernel
theorem d13_13_117 : decode b_13_13 117 = .ok (.getfield 10, 3) := by decide +kernel
theorem d13_13_120 : decode b_13_13 120 = .ok (.getfield 110, 3) := by decide +kernel
theorem d13_13_123 : decode b_13_13 123 = .ok (.aload_n 0, 1) := by decide +kernel
theorem d13_13_124 : decode b_13_13 124 = .ok (.iload_n 1, 1) := by decide +kernel
theorem d13_13_125 : decode b_13_13 125 = .ok (.iconst 0, 1) := by decide +kernel
theorem d13_13_126 : decode b_13_13 126 = .ok (.iload_n 2, 1) := by decide +kernel
theorem d13_13_127 : decode b_13_13 127 = .ok (.invokevirtual 113, 3) := by decide +kernel
theorem d13_13_130 : decode b_13_13 130 = .ok (.iload_n 3, 1) := by decide +kernel
theorem d13_13_131 : decode b_13_13 131 = .ok (.iastore, 1) := by decide +kernel
theorem d13_13_132 : decode b_13_13 132 = .ok (.iload 5, 2) := by decide +kernel
theorem d13_13_134 : decode b_13_13 134 = .ok (.iload_n 3, 1) := by decide +kernel
theorem d13_13_135 : decode b_13_13 135 = .ok (.iadd, 1) := by decide +kernel
theorem d13_13_136 : decode b_13_13 136 = .ok (.ireturn, 1) := by decide +kernel
theorem K13_13_2 {C : qCx} {G : jG} {mc ms : Nat} {p : Int → Int → jS → jH → Prop} {q : Int → Int → jS → jH → Int → jS → jH → Prop} (h : x13_13 C G) (hrm : C.2.2.2.1.frames = 3 ∧ C.2.2.2.1.locals = 73) (hM : M13_5 C.2.1 mc ms p q) : j_Call C b_13_13 n_KT G.1 G.2.1 6 (.invokevirtual 117) mc ms (fun a S V => ∃ u0 u1 : Int, a = [(2, u0), (0, u1)] ∧ S.1 u0 = 33 ∧ p u0 u1 S V) (fun a S V rs S' V' => ∃ u0 u1 r : Int, a = [(2, u0), (0, u1)] ∧ rs = [(0, r)] ∧ q u0 u1 S V r S' V') := j_callV n_NWk h.2.2.2.2.2 h.1 hM ⟨h.2.1.1, h.2.1.2, h.2.2.1, h.2.2.2.1, h.2.2.2.2.1⟩ ⟨n_CB (y := y_13_5) (bytes := b_13_5) 1 h.2.2.2.2.1 n_w956 n_w953 n_w12 ⟨by decide, by decide, by decide +kernel⟩ rfl rfl ⟨by rw [hrm.1]; exact Nat.le_of_ble_eq_true rfl, by rw [hrm.2]; exact Nat.le_of_ble_eq_true rfl⟩, h.2.2.2.2.1 _ n_w955, h.2.2.2.2.1 _ n_s28⟩ (Cn := RX12) (fun a S V hP => by obtain ⟨u0, u1, rfl, e, -⟩ := hP; exact ⟨u0, _, 12, _, _, TX12, 31, rfl, rfl, by rw [e]; decide, by rw [e]; rfl, rfl⟩)
theorem K13_13_10 {C : qCx} {G : jG} {mc ms : Nat} {p : Int → Int → jS → jH → Prop} {q : Int → Int → jS → jH → Int → jS → jH → Prop} (h : x13_13 C G) (hrm : C.2.2.2.1.frames = 3 ∧ C.2.2.2.1.locals = 73) (hM : M13_2 C.2.1 mc ms p q) : j_Call C b_13_13 n_KT G.1 G.2.1 6 (.invokevirtual 82) mc ms (fun a S V => ∃ u0 u1 : Int, a = [(2, u0), (0, u1)] ∧ S.1 u0 = 33 ∧ p u0 u1 S V) (fun a S V rs S' V' => ∃ u0 u1 r : Int, a = [(2, u0), (0, u1)] ∧ rs = [(0, r)] ∧ q u0 u1 S V r S' V') := j_callV n_NWk h.2.2.2.2.2 h.1 hM ⟨h.2.1.1, h.2.1.2, h.2.2.1, h.2.2.2.1, h.2.2.2.2.1⟩ ⟨n_CB (y := y_13_2) (bytes := b_13_2) 1 h.2.2.2.2.1 n_w928 n_w925 n_w12 ⟨by decide, by decide, by decide +kernel⟩ rfl rfl ⟨by rw [hrm.1]; exact Nat.le_of_ble_eq_true rfl, by rw [hrm.2]; exact Nat.le_of_ble_eq_true rfl⟩, h.2.2.2.2.1 _ n_w927, h.2.2.2.2.1 _ n_s27⟩ (Cn := RX12) (fun a S V hP => by obtain ⟨u0, u1, rfl, e, -⟩ := hP; exact ⟨u0, _, 12, _, _, TX12, 31, rfl, rfl, by rw [e]; decide, by rw [e]; rfl, rfl⟩)
theorem K13_13_29 {C : qCx} {G : jG} {mc ms : Nat} {p : Int → Int → jS → jH → Prop} {q : Int → Int → jS → jH → Int → jS → jH → Prop} (h : x13_13 C G) (hrm : C.2.2.2.1.frames = 3 ∧ C.2.2.2.1.locals = 73) (hM : M13_2 C.2.1 mc ms p q) : j_Call C b_13_13 n_KT G.1 G.2.1 6 (.invokevirtual 82) mc ms (fun a S V => ∃ u0 u1 : Int, a = [(2, u0), (0, u1)] ∧ S.1 u0 = 33 ∧ p u0 u1 S V) (fun a S V rs S' V' => ∃ u0 u1 r : Int, a = [(2, u0), (0, u1)] ∧ rs = [(0, r)] ∧ q u0 u1 S V r S' V') := j_callV n_NWk h.2.2.2.2.2 h.1 hM ⟨h.2.1.1, h.2.1.2, h.2.2.1, h.2.2.2.1, h.2.2.2.2.1⟩ ⟨n_CB (y := y_13_2) (bytes := b_13_2) 1 h.2.2.2.2.1 n_w928 n_w925 n_w12 ⟨by decide, by decide, by decide +kernel⟩ rfl rfl ⟨by rw [hrm.1]; exact Nat.le_of_ble_eq_true rfl, by rw [hrm.2]; exact Nat.le_of_ble_eq_true rfl⟩, h.2.2.2.2.1 _ n_w927, h.2.2.2.2.1 _ n_s27⟩ (Cn := RX12) (fun a S V hP => by obtain ⟨u0, u1, rfl, e, -⟩ := hP; exact ⟨u0, _, 12, _, _, TX12, 31, rfl, rfl, by rw [e]; decide, by rw [e]; rfl, rfl⟩)
theorem K13_13_52 {C : qCx} {G : jG} {mc ms : Nat} {p : Int → Int → Int → jS → jH → Prop} {q : Int → Int → Int → jS → jH → Int → jS → jH → Prop} (h : x13_13 C G) (hrm : C.2.2.2.1.frames = 3 ∧ C.2.2.2.1.locals = 73) (hM : M13_3 C.2.1 mc ms p q) : j_Call C b_13_13 n_KT G.1 G.2.1 6 (.invokestatic 69) mc ms (fun a S V => ∃ u0 u1 u2 : Int, a = [(1, u0), (1, u1), (1, u2)] ∧ p u0 u1 u2 S V) (fun a S V rs S' V' => ∃ u0 u1 u2 r : Int, a = [(1, u0), (1, u1), (1, u2)] ∧ rs = [(0, r)] ∧ q u0 u1 u2 S V r S' V') := j_callS n_NWk h.2.2.2.2.2 h.1 hM ⟨h.2.1.1, h.2.1.2, h.2.2.1, h.2.2.2.1, h.2.2.2.2.1⟩ ⟨n_CB (y := y_13_3) (bytes := b_13_3) 3 h.2.2.2.2.1 n_w923 n_w921 n_w12 ⟨by decide, by decide, by decide +kernel⟩ rfl rfl ⟨by rw [hrm.1]; exact Nat.le_of_ble_eq_true rfl, by rw [hrm.2]; exact Nat.le_of_ble_eq_true rfl⟩, h.2.2.2.2.1 _ n_w922⟩ (fun a S V hP => by obtain ⟨u0, u1, u2, rfl, -⟩ := hP; rfl)
theorem K13_13_64 {C : qCx} {G : jG} {mc ms : Nat} {p : Int → Int → Int → jS → jH → Prop} {q : Int → Int → Int → jS → jH → Int → jS → jH → Prop} (h : x13_13 C G) (hrm : C.2.2.2.1.frames = 3 ∧ C.2.2.2.1.locals = 73) (hM : M13_3 C.2.1 mc ms p q) : j_Call C b_13_13 n_KT G.1 G.2.1 6 (.invokestatic 69) mc ms (fun a S V => ∃ u0 u1 u2 : Int, a = [(1, u0), (1, u1), (1, u2)] ∧ p u0 u1 u2 S V) (fun a S V rs S' V' => ∃ u0 u1 u2 r : Int, a = [(1, u0), (1, u1), (1, u2)] ∧ rs = [(0, r)] ∧ q u0 u1 u2 S V r S' V') := j_callS n_NWk h.2.2.2.2.2 h.1 hM ⟨h.2.1.1, h.2.1.2, h.2.2.1, h.2.2.2.1, h.2.2.2.2.1⟩ ⟨n_CB (y := y_13_3) (bytes := b_13_3) 3 h.2.2.2.2.1 n_w923 n_w921 n_w12 ⟨by decide, by decide, by decide +kernel⟩ rfl rfl ⟨by rw [hrm.1]; exact Nat.le_of_ble_eq_true rfl, by rw [hrm.2]; exact Nat.le_of_ble_eq_true rfl⟩, h.2.2.2.2.1 _ n_w922⟩ (fun a S V hP => by obtain ⟨u0, u1, u2, rfl, -⟩ := hP; rfl)
theorem K13_13_72 {C : qCx} {G : jG} {mc ms : Nat} {p : Int → Int → jS → jH → Prop} {q : Int → Int → jS → jH → Int → jS → jH → Prop} (h : x13_13 C G) (hrm : C.2.2.2.1.frames = 3 ∧ C.2.2.2.1.locals = 73) (hM : M13_2 C.2.1 mc ms p q) : j_Call C b_13_13 n_KT G.1 G.2.1 6 (.invokevirtual 82) mc ms (fun a S V => ∃ u0 u1 : Int, a = [(2, u0), (0, u1)] ∧ S.1 u0 = 33 ∧ p u0 u1 S V) (fun a S V rs S' V' => ∃ u0 u1 r : Int, a = [(2, u0), (0, u1)] ∧ rs = [(0, r)] ∧ q u0 u1 S V r S' V') := j_callV n_NWk h.2.2.2.2.2 h.1 hM ⟨h.2.1.1, h.2.1.2, h.2.2.1, h.2.2.2.1, h.2.2.2.2.1⟩ ⟨n_CB (y := y_13_2) (bytes := b_13_2) 1 h.2.2.2.2.1 n_w928 n_w925 n_w12 ⟨by decide, by decide, by decide +kernel⟩ rfl rfl ⟨by rw [hrm.1]; exact Nat.le_of_ble_eq_true rfl, by rw [hrm.2]; exact Nat.le_of_ble_eq_true rfl⟩, h.2.2.2.2.1 _ n_w927, h.2.2.2.2.1 _ n_s27⟩ (Cn := RX12) (fun a S V hP => by obtain ⟨u0, u1, rfl, e, -⟩ := hP; exact ⟨u0, _, 12, _, _, TX12, 31, rfl, rfl, by rw [e]; decide, by rw [e]; rfl, rfl⟩)
theorem K13_13_79 {C : qCx} {G : jG} {mc ms : Nat} {p : Int → Int → Int → jS → jH → Prop} {q : Int → Int → Int → jS → jH → Int → jS → jH → Prop} (h : x13_13 C G) (hrm : C.2.2.2.1.frames = 3 ∧ C.2.2.2.1.locals = 73) (hM : M13_12 C.2.1 mc ms p q) : j_Call C b_13_13 n_KT G.1 G.2.1 6 (.invokevirtual 120) mc ms (fun a S V => ∃ u0 u1 u2 : Int, a = [(2, u0), (0, u1), (0, u2)] ∧ S.1 u0 = 33 ∧ p u0 u1 u2 S V) (fun a S V rs S' V' => ∃ u0 u1 u2 r : Int, a = [(2, u0), (0, u1), (0, u2)] ∧ rs = [(0, r)] ∧ q u0 u1 u2 S V r S' V') := j_callV n_NWk h.2.2.2.2.2 h.1 hM ⟨h.2.1.1, h.2.1.2, h.2.2.1, h.2.2.2.1, h.2.2.2.2.1⟩ ⟨n_CB (y := y_13_12) (bytes := b_13_12) 2 h.2.2.2.2.1 n_w960 n_w957 n_w12 ⟨by decide, by decide, by decide +kernel⟩ rfl rfl ⟨by rw [hrm.1]; exact Nat.le_of_ble_eq_true rfl, by rw [hrm.2]; exact Nat.le_of_ble_eq_true rfl⟩, h.2.2.2.2.1 _ n_w959, h.2.2.2.2.1 _ n_s29⟩ (Cn := RX12) (fun a S V hP => by obtain ⟨u0, u1, u2, rfl, e, -⟩ := hP; exact ⟨u0, _, 12, _, _, TX12, 31, rfl, rfl, by rw [e]; decide, by rw [e]; rfl, rfl⟩)
theorem K13_13_93 {C : qCx} {G : jG} {mc ms : Nat} {p : Int → Int → Int → Int → jS → jH → Prop} {q : Int → Int → Int → Int → jS → jH → Int → jS → jH → Prop} (h : x13_13 C G) (hrm : C.2.2.2.1.frames = 3 ∧ C.2.2.2.1.locals = 73) (hM : M13_11 C.2.1 mc ms p q) : j_Call C b_13_13 n_KT G.1 G.2.1 6 (.invokevirtual 113) mc ms (fun a S V => ∃ u0 u1 u2 u3 : Int, a = [(2, u0), (0, u1), (0, u2), (0, u3)] ∧ S.1 u0 = 33 ∧ p u0 u1 u2 u3 S V) (fun a S V rs S' V' => ∃ u0 u1 u2 u3 r : Int, a = [(2, u0), (0, u1), (0, u2), (0, u3)] ∧ rs = [(0, r)] ∧ q u0 u1 u2 u3 S V r S' V') := j_callV n_NWk h.2.2.2.2.2 h.1 hM ⟨h.2.1.1, h.2.1.2, h.2.2.1, h.2.2.2.1, h.2.2.2.2.1⟩ ⟨n_CB (y := y_13_11) (bytes := b_13_11) 3 h.2.2.2.2.1 n_w964 n_w961 n_w12 ⟨by decide, by decide, by decide +kernel⟩ rfl rfl ⟨by rw [hrm.1]; exact Nat.le_of_ble_eq_true rfl, by rw [hrm.2]; exact Nat.le_of_ble_eq_true rfl⟩, h.2.2.2.2.1 _ n_w963, h.2.2.2.2.1 _ n_s30⟩ (Cn := RX12) (fun a S V hP => by obtain ⟨u0, u1, u2, u3, rfl, e, -⟩ := hP; exact ⟨u0, _, 12, _, _, TX12, 31, rfl, rfl, by rw [e]; decide, by rw [e]; rfl, rfl⟩)
theorem K13_13_112 {C : qCx} {G : jG} {mc ms : Nat} {p : Int → Int → jS → jH → Prop} {q : Int → Int → jS → jH → Int → jS → jH → Prop} (h : x13_13 C G) (hrm : C.2.2.2.1.frames = 3 ∧ C.2.2.2.1.locals = 73) (hM : M13_2 C.2.1 mc ms p q) : j_Call C b_13_13 n_KT G.1 G.2.1 6 (.invokevirtual 82) mc ms (fun a S V => ∃ u0 u1 : Int, a = [(2, u0), (0, u1)] ∧ S.1 u0 = 33 ∧ p u0 u1 S V) (fun a S V rs S' V' => ∃ u0 u1 r : Int, a = [(2, u0), (0, u1)] ∧ rs = [(0, r)] ∧ q u0 u1 S V r S' V') := j_callV n_NWk h.2.2.2.2.2 h.1 hM ⟨h.2.1.1, h.2.1.2, h.2.2.1, h.2.2.2.1, h.2.2.2.2.1⟩ ⟨n_CB (y := y_13_2) (bytes := b_13_2) 1 h.2.2.2.2.1 n_w928 n_w925 n_w12 ⟨by decide, by decide, by decide +kernel⟩ rfl rfl ⟨by rw [hrm.1]; exact Nat.le_of_ble_eq_true rfl, by rw [hrm.2]; exact Nat.le_of_ble_eq_true rfl⟩, h.2.2.2.2.1 _ n_w927, h.2.2.2.2.1 _ n_s27⟩ (Cn := RX12) (fun a S V hP => by obtain ⟨u0, u1, rfl, e, -⟩ := hP; exact ⟨u0, _, 12, _, _, TX12, 31, rfl, rfl, by rw [e]; decide, by rw [e]; rfl, rfl⟩)
theorem K13_13_127 {C : qCx} {G : jG} {mc ms : Nat} {p : Int → Int → Int → Int → jS → jH → Prop} {q : Int → Int → Int → Int → jS → jH → Int → jS → jH → Prop} (h : x13_13 C G) (hrm : C.2.2.2.1.frames = 3 ∧ C.2.2.2.1.locals = 73) (hM : M13_11 C.2.1 mc ms p q) : j_Call C b_13_13 n_KT G.1 G.2.1 6 (.invokevirtual 113) mc ms (fun a S V => ∃ u0 u1 u2 u3 : Int, a = [(2, u0), (0, u1), (0, u2), (0, u3)] ∧ S.1 u0 = 33 ∧ p u0 u1 u2 u3 S V) (fun a S V rs S' V' => ∃ u0 u1 u2 u3 r : Int, a = [(2, u0), (0, u1), (0, u2), (0, u3)] ∧ rs = [(0, r)] ∧ q u0 u1 u2 u3 S V r S' V') := j_callV n_NWk h.2.2.2.2.2 h.1 hM ⟨h.2.1.1, h.2.1.2, h.2.2.1, h.2.2.2.1, h.2.2.2.2.1⟩ ⟨n_CB (y := y_13_11) (bytes := b_13_11) 3 h.2.2.2.2.1 n_w964 n_w961 n_w12 ⟨by decide, by decide, by decide +kernel⟩ rfl rfl ⟨by rw [hrm.1]; exact Nat.le_of_ble_eq_true rfl, by rw [hrm.2]; exact Nat.le_of_ble_eq_true rfl⟩, h.2.2.2.2.1 _ n_w963, h.2.2.2.2.1 _ n_s30⟩ (Cn := RX12) (fun a S V hP => by obtain ⟨u0, u1, u2, u3, rfl, e, -⟩ := hP; exact ⟨u0, _, 12, _, _, TX12, 31, rfl, rfl, by rw [e]; decide, by rw [e]; rfl, rfl⟩)
theorem t13_13_0 {C : qCx} {G : jG} {S : jS} {V : jH} {nc ns : Nat} {l0 l1 l2 l3 : Int} {mc ms : Nat} {pp : Int → Int → jS → jH → Prop} {qq : Int → Int → jS → jH → Int → jS → jH → Prop} (h : x13_13 C G) (hrm : C.2.2.2.1.frames = 3 ∧ C.2.2.2.1.locals = 73) (c1 : S.1 l0 = 33) (hM : M13_5 C.2.1 mc ms pp qq) (hp : pp l0 l1 S V) (hc : nc + mc ≤ C.2.2.2.1.cells) (hs : ns + ms ≤ C.2.2.2.1.slots) (k : ∀ (r : Int) (S' : jS) (V' : jH), qq l0 l1 S V r S' V' → j_ok n_KT 6 C G 5 [(0, (2, l0)), (1, (0, l1)), (2, (0, l2)), (3, (0, l3))] [(0, r)] S' V' (nc + mc) (ns + ms)) : j_ok n_KT 6 C G 0 [(0, (2, l0)), (1, (0, l1)), (2, (0, l2)), (3, (0, l3))] [] S V nc ns := by
  have E := n_E h
  refine j_aload_n E d13_13_0 rfl 0 rfl ?_
  refine j_iload_n E d13_13_1 rfl 1 rfl ?_
  refine j_call E (K13_13_2 h hrm hM) d13_13_2 (a := [(2, l0), (0, l1)]) (sk := []) rfl ⟨l0, l1, rfl, c1, hp⟩ (Nat.le_of_ble_eq_true rfl) hc hs ?_
  rintro rs S' V' ⟨z0, z1, r, e1, rfl, q⟩
  simp only [List.cons.injEq, Prod.mk.injEq, and_true, true_and] at e1
  obtain ⟨rfl, rfl⟩ := e1
  exact j_pick [0, 1, 2, 3] rfl (k r S' V' q)
theorem t13_13_5 {C : qCx} {G : jG} {S : jS} {V : jH} {nc ns : Nat} {l0 l1 l2 l3 s0 : Int} (h : x13_13 C G)  (k : ¬ s0 = 0 → j_ok n_KT 6 C G 14 [(0, (2, l0)), (1, (0, l1)), (2, (0, l2)), (3, (0, l3))] [] S V nc ns) (k' : s0 = 0 → j_ok n_KT 6 C G 8 [(0, (2, l0))] [] S V nc ns) : j_ok n_KT 6 C G 5 [(0, (2, l0)), (1, (0, l1)), (2, (0, l2)), (3, (0, l3))] [(0, s0)] S V nc ns := by
  have E := n_E h
  exact j_if_ne E d13_13_5 (t := 14) rfl (fun q => j_pick [0, 1, 2, 3] rfl (k q)) (fun q => j_pick [0] rfl (k' q))
theorem t13_13_8 {C : qCx} {G : jG} {S : jS} {V : jH} {nc ns : Nat} {l0 : Int} {mc ms : Nat} {pp : Int → Int → jS → jH → Prop} {qq : Int → Int → jS → jH → Int → jS → jH → Prop} (h : x13_13 C G) (hrm : C.2.2.2.1.frames = 3 ∧ C.2.2.2.1.locals = 73) (c1 : S.1 l0 = 33) (hM : M13_2 C.2.1 mc ms pp qq) (hp : pp l0 ((-1)) S V) (hc : nc + mc ≤ C.2.2.2.1.cells) (hs : ns + ms ≤ C.2.2.2.1.slots) (k : ∀ (r : Int) (S' : jS) (V' : jH), qq l0 ((-1)) S V r S' V' → j_ok n_KT 6 C G 13 [] [(0, r)] S' V' (nc + mc) (ns + ms)) : j_ok n_KT 6 C G 8 [(0, (2, l0))] [] S V nc ns := by
  have E := n_E h
  refine j_aload_n E d13_13_8 rfl 0 rfl ?_
  refine j_iconst E d13_13_9 (by decide) ?_
  refine j_call E (K13_13_10 h hrm hM) d13_13_10 (a := [(2, l0), (0, (-1))]) (sk := []) rfl ⟨l0, (-1), rfl, c1, hp⟩ (Nat.le_of_ble_eq_true rfl) hc hs ?_
  rintro rs S' V' ⟨z0, z1, r, e1, rfl, q⟩
  simp only [List.cons.injEq, Prod.mk.injEq, and_true, true_and] at e1
  obtain ⟨rfl, rfl⟩ := e1
  exact j_pick [] rfl (k r S' V' q)
theorem t13_13_13 {C : qCx} {G : jG} {S : jS} {V : jH} {nc ns : Nat} {s0 : Int} {mc ms : Nat} {qf : Int → jS → jH → Prop} (h : x13_13 C G)  (R : j_Ri n_KT 6 C G b_13_13 mc ms qf) (q : qf s0 S V) (hc : nc ≤ mc) (hs : ns ≤ ms) : j_ok n_KT 6 C G 13 [] [(0, s0)] S V nc ns := by
  have E := n_E h
  exact R _ _ _ _ _ _ _ d13_13_13 q hc hs
theorem t13_13_14 {C : qCx} {G : jG} {S : jS} {V : jH} {nc ns : Nat} {l0 l1 l2 l3 : Int} (h : x13_13 C G) (L : j_L S) (c1 : S.1 l0 = 33) (c2 : 0 ≤ l1) (c3 : l1 < 10) (k : V (l0 + 4) l1 = 0 → j_ok n_KT 6 C G 33 [(0, (2, l0)), (1, (0, l1)), (2, (0, l2)), (3, (0, l3))] [] S V nc ns) (k' : ¬ V (l0 + 4) l1 = 0 → j_ok n_KT 6 C G 26 [(0, (2, l0))] [] S V nc ns) : j_ok n_KT 6 C G 14 [(0, (2, l0)), (1, (0, l1)), (2, (0, l2)), (3, (0, l3))] [] S V nc ns := by
  have E := n_E h
  refine j_aload_n E d13_13_14 rfl 0 rfl ?_
  refine j_getS (f := 0) (x := l0 + 1) (fg12_10 h) d13_13_15 c1 (by decide) rfl rfl ((L12_0 L c1).trans (by omega)) ?_
  refine j_getS (f := 3) (x := l0 + 4) (fg12_100 h) d13_13_18 (show S.1 (l0 + 1) = 32 from (by have q := L12_0k L c1; rw [show l0 + 1 = l0 + 1 by omega]; exact q)) (by decide) rfl rfl ((L11_3 L (show S.1 (l0 + 1) = 32 from (by have q := L12_0k L c1; rw [show l0 + 1 = l0 + 1 by omega]; exact q))).trans (by omega)) ?_
  refine j_iload_n E d13_13_21 rfl 1 rfl ?_
  refine j_iald E d13_13_22 (j_arr_of (show S.1 (l0 + 4) = 10 from (by have q := L11_3k L (show S.1 (l0 + 1) = 32 from (by have q := L12_0k L c1; rw [show l0 + 1 = l0 + 1 by omega]; exact q)); rw [show l0 + 4 = (l0 + 1) + 3 by omega]; exact q)) (by decide) rfl) c2 c3 ?_
  exact j_if_eq E d13_13_23 (t := 33) rfl (fun q => j_pick [0, 1, 2, 3] rfl (k q)) (fun q => j_pick [0] rfl (k' q))
theorem t13_13_26 {C : qCx} {G : jG} {S : jS} {V : jH} {nc ns : Nat} {l0 : Int} {mc ms : Nat} {pp : Int → Int → jS → jH → Prop} {qq : Int → Int → jS → jH → Int → jS → jH → Prop} (h : x13_13 C G) (hrm : C.2.2.2.1.frames = 3 ∧ C.2.2.2.1.locals = 73) (c1 : S.1 l0 = 33) (hM : M13_2 C.2.1 mc ms pp qq) (hp : pp l0 ((-3)) S V) (hc : nc + mc ≤ C.2.2.2.1.cells) (hs : ns + ms ≤ C.2.2.2.1.slots) (k : ∀ (r : Int) (S' : jS) (V' : jH), qq l0 ((-3)) S V r S' V' → j_ok n_KT 6 C G 32 [] [(0, r)] S' V' (nc + mc) (ns + ms)) : j_ok n_KT 6 C G 26 [(0, (2, l0))] [] S V nc ns := by
  have E := n_E h
  refine j_aload_n E d13_13_26 rfl 0 rfl ?_
  refine j_bipush E d13_13_27 (by decide) ?_
  refine j_call E (K13_13_29 h hrm hM) d13_13_29 (a := [(2, l0), (0, (-3))]) (sk := []) rfl ⟨l0, (-3), rfl, c1, hp⟩ (Nat.le_of_ble_eq_true rfl) hc hs ?_
  rintro rs S' V' ⟨z0, z1, r, e1, rfl, q⟩
  simp only [List.cons.injEq, Prod.mk.injEq, and_true, true_and] at e1
  obtain ⟨rfl, rfl⟩ := e1
  exact j_pick [] rfl (k r S' V' q)
theorem t13_13_32 {C : qCx} {G : jG} {S : jS} {V : jH} {nc ns : Nat} {s0 : Int} {mc ms : Nat} {qf : Int → jS → jH → Prop} (h : x13_13 C G)  (R : j_Ri n_KT 6 C G b_13_13 mc ms qf) (q : qf s0 S V) (hc : nc ≤ mc) (hs : ns ≤ ms) : j_ok n_KT 6 C G 32 [] [(0, s0)] S V nc ns := by
  have E := n_E h
  exact R _ _ _ _ _ _ _ d13_13_32 q hc hs
theorem t13_13_33 {C : qCx} {G : jG} {S : jS} {V : jH} {nc ns : Nat} {l0 l1 l2 l3 : Int} {mc ms : Nat} {pp : Int → Int → Int → jS → jH → Prop} {qq : Int → Int → Int → jS → jH → Int → jS → jH → Prop} (h : x13_13 C G) (L : j_L S) (hrm : C.2.2.2.1.frames = 3 ∧ C.2.2.2.1.locals = 73) (c1 : S.1 l0 = 33) (c2 : 0 ≤ l1) (c3 : l1 < 10) (c4 : 0 ≤ V (l0 + 5) l1) (c5 : V (l0 + 5) l1 ≤ 30) (hM : M13_3 C.2.1 mc ms pp qq) (hp : pp l2 0 255 S V) (hc : nc + mc ≤ C.2.2.2.1.cells) (hs : ns + ms ≤ C.2.2.2.1.slots) (k : ∀ (r : Int) (S' : jS) (V' : jH), qq l2 0 255 S V r S' V' → j_ok n_KT 6 C G 55 [(0, (2, l0)), (1, (0, l1)), (2, (0, l2)), (3, (0, l3)), (4, (0, 2 ^ (V (l0 + 5) l1).toNat))] [(0, r)] S' V' (nc + mc) (ns + ms)) : j_ok n_KT 6 C G 33 [(0, (2, l0)), (1, (0, l1)), (2, (0, l2)), (3, (0, l3))] [] S V nc ns := by
  have E := n_E h
  refine j_iconst E d13_13_33 (by decide) ?_
  refine j_aload_n E d13_13_34 rfl 0 rfl ?_
  refine j_getS (f := 0) (x := l0 + 1) (fg12_10 h) d13_13_35 c1 (by decide) rfl rfl ((L12_0 L c1).trans (by omega)) ?_
  refine j_getS (f := 4) (x := l0 + 5) (fg12_103 h) d13_13_38 (show S.1 (l0 + 1) = 32 from (by have q := L12_0k L c1; rw [show l0 + 1 = l0 + 1 by omega]; exact q)) (by decide) rfl rfl ((L11_4 L (show S.1 (l0 + 1) = 32 from (by have q := L12_0k L c1; rw [show l0 + 1 = l0 + 1 by omega]; exact q))).trans (by omega)) ?_
  refine j_iload_n E d13_13_41 rfl 1 rfl ?_
  refine j_iald E d13_13_42 (j_arr_of (show S.1 (l0 + 5) = 10 from (by have q := L11_4k L (show S.1 (l0 + 1) = 32 from (by have q := L12_0k L c1; rw [show l0 + 1 = l0 + 1 by omega]; exact q)); rw [show l0 + 5 = (l0 + 1) + 4 by omega]; exact q)) (by decide) rfl) c2 c3 ?_
  refine j_ishl1 E d13_13_43 rfl c4 c5 ?_
  refine j_istore E d13_13_44 (by decide) (lo1 := [(0, (2, l0)), (1, (0, l1)), (2, (0, l2)), (3, (0, l3))]) rfl ?_
  refine j_iload_n E d13_13_46 rfl 3 rfl ?_
  refine j_i2l E d13_13_47 ?_
  refine j_lconst E d13_13_48 ?_
  refine j_ldc2 (n := 255) (fl12_92 h) rfl d13_13_49 ?_
  refine j_call E (K13_13_52 h hrm hM) d13_13_52 (a := [(1, l2), (1, 0), (1, 255)]) (sk := []) rfl ⟨l2, 0, 255, rfl, hp⟩ (Nat.le_of_ble_eq_true rfl) hc hs ?_
  rintro rs S' V' ⟨z0, z1, z2, r, e1, rfl, q⟩
  simp only [List.cons.injEq, Prod.mk.injEq, and_true, true_and] at e1
  obtain ⟨rfl, rfl, rfl⟩ := e1
  exact j_pick [1, 2, 3, 4, 0] rfl (k r S' V' q)
theorem t13_13_55 {C : qCx} {G : jG} {S : jS} {V : jH} {nc ns : Nat} {l0 l1 l2 l3 l4 s0 : Int} (h : x13_13 C G)  (k : s0 = 0 → j_ok n_KT 6 C G 70 [(0, (2, l0))] [] S V nc ns) (k' : ¬ s0 = 0 → j_ok n_KT 6 C G 58 [(0, (2, l0)), (1, (0, l1)), (2, (0, l2)), (3, (0, l3)), (4, (0, l4))] [] S V nc ns) : j_ok n_KT 6 C G 55 [(0, (2, l0)), (1, (0, l1)), (2, (0, l2)), (3, (0, l3)), (4, (0, l4))] [(0, s0)] S V nc ns := by
  have E := n_E h
  exact j_if_eq E d13_13_55 (t := 70) rfl (fun q => j_pick [0] rfl (k q)) (fun q => j_pick [0, 1, 2, 3, 4] rfl (k' q))
theorem t13_13_58 {C : qCx} {G : jG} {S : jS} {V : jH} {nc ns : Nat} {l0 l1 l2 l3 l4 : Int} {mc ms : Nat} {pp : Int → Int → Int → jS → jH → Prop} {qq : Int → Int → Int → jS → jH → Int → jS → jH → Prop} (h : x13_13 C G) (hrm : C.2.2.2.1.frames = 3 ∧ C.2.2.2.1.locals = 73)  (hM : M13_3 C.2.1 mc ms pp qq) (hp : pp l3 0 l4 S V) (hc : nc + mc ≤ C.2.2.2.1.cells) (hs : ns + ms ≤ C.2.2.2.1.slots) (k : ∀ (r : Int) (S' : jS) (V' : jH), qq l3 0 l4 S V r S' V' → j_ok n_KT 6 C G 67 [(0, (2, l0)), (1, (0, l1)), (2, (0, l2)), (3, (0, l3)), (4, (0, l4))] [(0, r)] S' V' (nc + mc) (ns + ms)) : j_ok n_KT 6 C G 58 [(0, (2, l0)), (1, (0, l1)), (2, (0, l2)), (3, (0, l3)), (4, (0, l4))] [] S V nc ns := by
  have E := n_E h
  refine j_iload_n E d13_13_58 rfl 3 rfl ?_
  refine j_i2l E d13_13_59 ?_
  refine j_lconst E d13_13_60 ?_
  refine j_iload E d13_13_61 4 rfl ?_
  refine j_i2l E d13_13_63 ?_
  refine j_call E (K13_13_64 h hrm hM) d13_13_64 (a := [(1, l3), (1, 0), (1, l4)]) (sk := []) rfl ⟨l3, 0, l4, rfl, hp⟩ (Nat.le_of_ble_eq_true rfl) hc hs ?_
  rintro rs S' V' ⟨z0, z1, z2, r, e1, rfl, q⟩
  simp only [List.cons.injEq, Prod.mk.injEq, and_true, true_and] at e1
  obtain ⟨rfl, rfl, rfl⟩ := e1
  exact j_pick [0, 1, 2, 3, 4] rfl (k r S' V' q)
theorem t13_13_67 {C : qCx} {G : jG} {S : jS} {V : jH} {nc ns : Nat} {l0 l1 l2 l3 l4 s0 : Int} (h : x13_13 C G)  (k : ¬ s0 = 0 → j_ok n_KT 6 C G 76 [(0, (2, l0)), (1, (0, l1)), (2, (0, l2)), (3, (0, l3)), (4, (0, l4))] [] S V nc ns) (k' : s0 = 0 → j_ok n_KT 6 C G 70 [(0, (2, l0))] [] S V nc ns) : j_ok n_KT 6 C G 67 [(0, (2, l0)), (1, (0, l1)), (2, (0, l2)), (3, (0, l3)), (4, (0, l4))] [(0, s0)] S V nc ns := by
  have E := n_E h
  exact j_if_ne E d13_13_67 (t := 76) rfl (fun q => j_pick [0, 1, 2, 3, 4] rfl (k q)) (fun q => j_pick [0] rfl (k' q))
theorem t13_13_70 {C : qCx} {G : jG} {S : jS} {V : jH} {nc ns : Nat} {l0 : Int} {mc ms : Nat} {pp : Int → Int → jS → jH → Prop} {qq : Int → Int → jS → jH → Int → jS → jH → Prop} (h : x13_13 C G) (hrm : C.2.2.2.1.frames = 3 ∧ C.2.2.2.1.locals = 73) (c1 : S.1 l0 = 33) (hM : M13_2 C.2.1 mc ms pp qq) (hp : pp l0 ((-1)) S V) (hc : nc + mc ≤ C.2.2.2.1.cells) (hs : ns + ms ≤ C.2.2.2.1.slots) (k : ∀ (r : Int) (S' : jS) (V' : jH), qq l0 ((-1)) S V r S' V' → j_ok n_KT 6 C G 75 [] [(0, r)] S' V' (nc + mc) (ns + ms)) : j_ok n_KT 6 C G 70 [(0, (2, l0))] [] S V nc ns := by
  have E := n_E h
  refine j_aload_n E d13_13_70 rfl 0 rfl ?_
  refine j_iconst E d13_13_71 (by decide) ?_
  refine j_call E (K13_13_72 h hrm hM) d13_13_72 (a := [(2, l0), (0, (-1))]) (sk := []) rfl ⟨l0, (-1), rfl, c1, hp⟩ (Nat.le_of_ble_eq_true rfl) hc hs ?_
  rintro rs S' V' ⟨z0, z1, r, e1, rfl, q⟩
  simp only [List.cons.injEq, Prod.mk.injEq, and_true, true_and] at e1
  obtain ⟨rfl, rfl⟩ := e1
  exact j_pick [] rfl (k r S' V' q)
theorem t13_13_75 {C : qCx} {G : jG} {S : jS} {V : jH} {nc ns : Nat} {s0 : Int} {mc ms : Nat} {qf : Int → jS → jH → Prop} (h : x13_13 C G)  (R : j_Ri n_KT 6 C G b_13_13 mc ms qf) (q : qf s0 S V) (hc : nc ≤ mc) (hs : ns ≤ ms) : j_ok n_KT 6 C G 75 [] [(0, s0)] S V nc ns := by
  have E := n_E h
  exact R _ _ _ _ _ _ _ d13_13_75 q hc hs
theorem t13_13_76 {C : qCx} {G : jG} {S : jS} {V : jH} {nc ns : Nat} {l0 l1 l2 l3 l4 : Int} {mc ms : Nat} {pp : Int → Int → Int → jS → jH → Prop} {qq : Int → Int → Int → jS → jH → Int → jS → jH → Prop} (h : x13_13 C G) (hrm : C.2.2.2.1.frames = 3 ∧ C.2.2.2.1.locals = 73) (c1 : S.1 l0 = 33) (hM : M13_12 C.2.1 mc ms pp qq) (hp : pp l0 l1 0 S V) (hc : nc + mc ≤ C.2.2.2.1.cells) (hs : ns + ms ≤ C.2.2.2.1.slots) (k : ∀ (r : Int) (S' : jS) (V' : jH), qq l0 l1 0 S V r S' V' → j_ok n_KT 6 C G 82 [(0, (2, l0)), (1, (0, l1)), (2, (0, l2)), (3, (0, l3)), (4, (0, l4))] [(0, r)] S' V' (nc + mc) (ns + ms)) : j_ok n_KT 6 C G 76 [(0, (2, l0)), (1, (0, l1)), (2, (0, l2)), (3, (0, l3)), (4, (0, l4))] [] S V nc ns := by
  have E := n_E h
  refine j_aload_n E d13_13_76 rfl 0 rfl ?_
  refine j_iload_n E d13_13_77 rfl 1 rfl ?_
  refine j_iconst E d13_13_78 (by decide) ?_
  refine j_call E (K13_13_79 h hrm hM) d13_13_79 (a := [(2, l0), (0, l1), (0, 0)]) (sk := []) rfl ⟨l0, l1, 0, rfl, c1, hp⟩ (Nat.le_of_ble_eq_true rfl) hc hs ?_
  rintro rs S' V' ⟨z0, z1, z2, r, e1, rfl, q⟩
  simp only [List.cons.injEq, Prod.mk.injEq, and_true, true_and] at e1
  obtain ⟨rfl, rfl, rfl⟩ := e1
  exact j_pick [0, 1, 2, 3, 4] rfl (k r S' V' q)
theorem t13_13_82 {C : qCx} {G : jG} {S : jS} {V : jH} {nc ns : Nat} {l0 l1 l2 l3 l4 s0 : Int} {mc ms : Nat} {pp : Int → Int → Int → Int → jS → jH → Prop} {qq : Int → Int → Int → Int → jS → jH → Int → jS → jH → Prop} (h : x13_13 C G) (L : j_L S) (hrm : C.2.2.2.1.frames = 3 ∧ C.2.2.2.1.locals = 73) (c1 : S.1 l0 = 33) (hM : M13_11 C.2.1 mc ms pp qq) (hp : pp l0 l1 0 l2 S V) (hc : nc + mc ≤ C.2.2.2.1.cells) (hs : ns + ms ≤ C.2.2.2.1.slots) (k : ∀ (r : Int) (S' : jS) (V' : jH), qq l0 l1 0 l2 S V r S' V' → j_ok n_KT 6 C G 96 [(0, (2, l0)), (1, (0, l1)), (2, (0, l2)), (3, (0, l3)), (4, (0, l4))] [(0, r), (2, l0 + 7), (0, s0)] S' V' (nc + mc) (ns + ms)) : j_ok n_KT 6 C G 82 [(0, (2, l0)), (1, (0, l1)), (2, (0, l2)), (3, (0, l3)), (4, (0, l4))] [(0, s0)] S V nc ns := by
  have E := n_E h
  refine j_aload_n E d13_13_82 rfl 0 rfl ?_
  refine j_getS (f := 0) (x := l0 + 1) (fg12_10 h) d13_13_83 c1 (by decide) rfl rfl ((L12_0 L c1).trans (by omega)) ?_
  refine j_getS (f := 6) (x := l0 + 7) (fg12_110 h) d13_13_86 (show S.1 (l0 + 1) = 32 from (by have q := L12_0k L c1; rw [show l0 + 1 = l0 + 1 by omega]; exact q)) (by decide) rfl rfl ((L11_6 L (show S.1 (l0 + 1) = 32 from (by have q := L12_0k L c1; rw [show l0 + 1 = l0 + 1 by omega]; exact q))).trans (by omega)) ?_
  refine j_aload_n E d13_13_89 rfl 0 rfl ?_
  refine j_iload_n E d13_13_90 rfl 1 rfl ?_
  refine j_iconst E d13_13_91 (by decide) ?_
  refine j_iload_n E d13_13_92 rfl 2 rfl ?_
  refine j_call E (K13_13_93 h hrm hM) d13_13_93 (a := [(2, l0), (0, l1), (0, 0), (0, l2)]) (sk := [(2, l0 + 7), (0, s0)]) rfl ⟨l0, l1, 0, l2, rfl, c1, hp⟩ (Nat.le_of_ble_eq_true rfl) hc hs ?_
  rintro rs S' V' ⟨z0, z1, z2, z3, r, e1, rfl, q⟩
  simp only [List.cons.injEq, Prod.mk.injEq, and_true, true_and] at e1
  obtain ⟨rfl, rfl, rfl, rfl⟩ := e1
  exact j_pick [0, 1, 2, 3, 4] rfl (k r S' V' q)
theorem t13_13_96 {C : qCx} {G : jG} {S : jS} {V : jH} {nc ns : Nat} {l0 l1 l2 l3 l4 s0 s1 s2 : Int} {n_s1 : Nat} (h : x13_13 C G) (c1 : j_arr S s1 n_s1) (c2 : 0 ≤ s0) (c3 : s0 < (n_s1 : Int)) (c4 : -2147483648 ≤ s2 - (V s1 s0) ∧ s2 - (V s1 s0) ≤ 2147483647) (c5 : -2147483648 ≤ (s2 - (V s1 s0)) + l3 ∧ (s2 - (V s1 s0)) + l3 ≤ 2147483647) (k : (s2 - (V s1 s0)) + l3 ≤ l4 → j_ok n_KT 6 C G 116 [(0, (2, l0)), (1, (0, l1)), (2, (0, l2)), (3, (0, l3)), (5, (0, s2 - (V s1 s0)))] [] S V nc ns) (k' : l4 < (s2 - (V s1 s0)) + l3 → j_ok n_KT 6 C G 109 [(0, (2, l0))] [] S V nc ns) : j_ok n_KT 6 C G 96 [(0, (2, l0)), (1, (0, l1)), (2, (0, l2)), (3, (0, l3)), (4, (0, l4))] [(0, s0), (2, s1), (0, s2)] S V nc ns := by
  have E := n_E h
  refine j_iald E d13_13_96 c1 c2 c3 ?_
  refine j_isub E d13_13_97 c4 ?_
  refine j_istore E d13_13_98 (by decide) (lo1 := [(0, (2, l0)), (1, (0, l1)), (2, (0, l2)), (3, (0, l3)), (4, (0, l4))]) rfl ?_
  refine j_iload E d13_13_100 0 rfl ?_
  refine j_iload_n E d13_13_102 rfl 4 rfl ?_
  refine j_iadd E d13_13_103 c5 ?_
  refine j_iload E d13_13_104 5 rfl ?_
  exact j_icmp_le E d13_13_106 (t := 116) rfl (fun q => j_pick [1, 2, 3, 4, 0] rfl (k q)) (fun q => j_pick [1] rfl (k' q))
theorem t13_13_109 {C : qCx} {G : jG} {S : jS} {V : jH} {nc ns : Nat} {l0 : Int} {mc ms : Nat} {pp : Int → Int → jS → jH → Prop} {qq : Int → Int → jS → jH → Int → jS → jH → Prop} (h : x13_13 C G) (hrm : C.2.2.2.1.frames = 3 ∧ C.2.2.2.1.locals = 73) (c1 : S.1 l0 = 33) (hM : M13_2 C.2.1 mc ms pp qq) (hp : pp l0 ((-2)) S V) (hc : nc + mc ≤ C.2.2.2.1.cells) (hs : ns + ms ≤ C.2.2.2.1.slots) (k : ∀ (r : Int) (S' : jS) (V' : jH), qq l0 ((-2)) S V r S' V' → j_ok n_KT 6 C G 115 [] [(0, r)] S' V' (nc + mc) (ns + ms)) : j_ok n_KT 6 C G 109 [(0, (2, l0))] [] S V nc ns := by
  have E := n_E h
  refine j_aload_n E d13_13_109 rfl 0 rfl ?_
  refine j_bipush E d13_13_110 (by decide) ?_
  refine j_call E (K13_13_112 h hrm hM) d13_13_112 (a := [(2, l0), (0, (-2))]) (sk := []) rfl ⟨l0, (-2), rfl, c1, hp⟩ (Nat.le_of_ble_eq_true rfl) hc hs ?_
  rintro rs S' V' ⟨z0, z1, r, e1, rfl, q⟩
  simp only [List.cons.injEq, Prod.mk.injEq, and_true, true_and] at e1
  obtain ⟨rfl, rfl⟩ := e1
  exact j_pick [] rfl (k r S' V' q)
theorem t13_13_115 {C : qCx} {G : jG} {S : jS} {V : jH} {nc ns : Nat} {s0 : Int} {mc ms : Nat} {qf : Int → jS → jH → Prop} (h : x13_13 C G)  (R : j_Ri n_KT 6 C G b_13_13 mc ms qf) (q : qf s0 S V) (hc : nc ≤ mc) (hs : ns ≤ ms) : j_ok n_KT 6 C G 115 [] [(0, s0)] S V nc ns := by
  have E := n_E h
  exact R _ _ _ _ _ _ _ d13_13_115 q hc hs
theorem t13_13_116 {C : qCx} {G : jG} {S : jS} {V : jH} {nc ns : Nat} {l0 l1 l2 l3 l5 : Int} {mc ms : Nat} {pp : Int → Int → Int → Int → jS → jH → Prop} {qq : Int → Int → Int → Int → jS → jH → Int → jS → jH → Prop} (h : x13_13 C G) (L : j_L S) (hrm : C.2.2.2.1.frames = 3 ∧ C.2.2.2.1.locals = 73) (c1 : S.1 l0 = 33) (hM : M13_11 C.2.1 mc ms pp qq) (hp : pp l0 l1 0 l2 S V) (hc : nc + mc ≤ C.2.2.2.1.cells) (hs : ns + ms ≤ C.2.2.2.1.slots) (k : ∀ (r : Int) (S' : jS) (V' : jH), qq l0 l1 0 l2 S V r S' V' → j_ok n_KT 6 C G 130 [(3, (0, l3)), (5, (0, l5))] [(0, r), (2, l0 + 7)] S' V' (nc + mc) (ns + ms)) : j_ok n_KT 6 C G 116 [(0, (2, l0)), (1, (0, l1)), (2, (0, l2)), (3, (0, l3)), (5, (0, l5))] [] S V nc ns := by
  have E := n_E h
  refine j_aload_n E d13_13_116 rfl 0 rfl ?_
  refine j_getS (f := 0) (x := l0 + 1) (fg12_10 h) d13_13_117 c1 (by decide) rfl rfl ((L12_0 L c1).trans (by omega)) ?_
  refine j_getS (f := 6) (x := l0 + 7) (fg12_110 h) d13_13_120 (show S.1 (l0 + 1) = 32 from (by have q := L12_0k L c1; rw [show l0 + 1 = l0 + 1 by omega]; exact q)) (by decide) rfl rfl ((L11_6 L (show S.1 (l0 + 1) = 32 from (by have q := L12_0k L c1; rw [show l0 + 1 = l0 + 1 by omega]; exact q))).trans (by omega)) ?_
  refine j_aload_n E d13_13_123 rfl 0 rfl ?_
  refine j_iload_n E d13_13_124 rfl 1 rfl ?_
  refine j_iconst E d13_13_125 (by decide) ?_
  refine j_iload_n E d13_13_126 rfl 2 rfl ?_
  refine j_call E (K13_13_127 h hrm hM) d13_13_127 (a := [(2, l0), (0, l1), (0, 0), (0, l2)]) (sk := [(2, l0 + 7)]) rfl ⟨l0, l1, 0, l2, rfl, c1, hp⟩ (Nat.le_of_ble_eq_true rfl) hc hs ?_
  rintro rs S' V' ⟨z0, z1, z2, z3, r, e1, rfl, q⟩
  simp only [List.cons.injEq, Prod.mk.injEq, and_true, true_and] at e1
  obtain ⟨rfl, rfl, rfl, rfl⟩ := e1
  exact j_pick [3, 4] rfl (k r S' V' q)
theorem t13_13_130 {C : qCx} {G : jG} {S : jS} {V : jH} {nc ns : Nat} {l3 l5 s0 s1 : Int} {n_s1 : Nat} {mc ms : Nat} {qf : Int → jS → jH → Prop} (h : x13_13 C G) (c1 : j_arr S s1 n_s1) (c2 : 0 ≤ s0) (c3 : s0 < (n_s1 : Int)) (c4 : -2147483648 ≤ l5 + l3 ∧ l5 + l3 ≤ 2147483647) (R : j_Ri n_KT 6 C G b_13_13 mc ms qf) (q : qf (l5 + l3) S (j_up V s1 s0 l3)) (hc : nc ≤ mc) (hs : ns ≤ ms) : j_ok n_KT 6 C G 130 [(3, (0, l3)), (5, (0, l5))] [(0, s0), (2, s1)] S V nc ns := by
  have E := n_E h
  refine j_iload_n E d13_13_130 rfl 0 rfl ?_
  refine j_iast E d13_13_131 c1 c2 c3 ?_
  refine j_iload E d13_13_132 1 rfl ?_
  refine j_iload_n E d13_13_134 rfl 0 rfl ?_
  refine j_iadd E d13_13_135 c4 ?_
  exact R _ _ _ _ _ _ _ d13_13_136 q hc hs
/- BalanceCoderModel.partAt([III)I -/
abbrev b_13_16 : ByteArray := prog_13_method_16_code
def y_13_16 : MethodName := ⟨"BalanceCoderModel", "partAt", "([III)I"⟩
abbrev x13_16 (C : qCx) (G : jG) : Prop := n_ctx C b_13_16 3 "BalanceCoderModel" G.1 G.2.1
def M13_16 (l : Launch) (mc ms : Nat) (p : Int → Int → Int → jS → jH → Prop) (q : Int → Int → Int → jS → jH → Int → jS → jH → Prop) : Prop := j_Met l vwCl n_TL n_NW n_KT y_13_16 (Cond.code y_13_16 b_13_16 3 (some .int) :: n_GW) { frames := 1, cells := mc, slots := ms, locals := 26 } mc ms (fun a S V => ∃ u0 u1 u2 : Int, a = [(2, u0), (0, u1), (0, u2)] ∧ p u0 u1 u2 S V) (fun a S V rs S' V' => ∃ u0 u1 u2 r : Int, a = [(2, u0), (0, u1), (0, u2)] ∧ rs = [(0, r)] ∧ q u0 u1 u2 S V r S' V')
theorem e13_16 {l : Launch} {mc ms : Nat} {p : Int → Int → Int → jS → jH → Prop} {q : Int → Int → Int → jS → jH → Int → jS → jH → Prop} (body : ∀ (C : qCx) (G : jG), x13_16 C G → C.2.2.2.1.frames = 1 ∧ C.2.2.2.1.locals = 26 → C.2.2.2.1.cells = mc ∧ C.2.2.2.1.slots = ms → C.2.1 = l → C.2.2.2.2.2.2.2.2.1.name = "partAt" → ∀ (u0 u1 u2 : Int) (S : jS) (V : jH), p u0 u1 u2 S V → j_Ri n_KT 3 C G b_13_16 mc ms (q u0 u1 u2 S V) → j_ok n_KT 3 C G 0 [(0, (2, u0)), (1, (0, u1)), (2, (0, u2))] [] S V 0 0) : M13_16 l mc ms p q := by
  refine j_method (ws' := n_GW) (by decide) rfl ?_ ?_
  · rintro a S V ⟨u0, u1, u2, rfl, -⟩
    exact Nat.le_of_ble_eq_true rfl
  · rintro C G htl hl hrm hm hml ho hts hnm hE a S V ⟨u0, u1, u2, rfl, hp⟩ R
    exact body C G ⟨htl, hm, hml, ho, fun w hw => hts w (List.mem_cons_of_mem _ hw), hE⟩ (by rw [hrm]; exact ⟨rfl, rfl⟩) (by rw [hrm]; exact ⟨rfl, rfl⟩) hl hnm u0 u1 u2 S V hp (fun pc lo r S' V' nc ns d q hc hs => R.2.1 rfl pc lo r S' V' nc ns d ⟨u0, u1, u2, r, rfl, rfl, q⟩ hc hs)
theorem d13_16_0 : decode b_13_16 0 = .ok (.iload_n 2, 1) := by decide +kernel
theorem d13_16_1 : decode b_13_16 1 = .ok (.ifCond .ne 7, 3) := by decide +kernel
theorem d13_16_4 : decode b_13_16 4 = .ok (.iconst 0, 1) := by decide +kernel
theorem d13_16_5 : decode b_13_16 5 = .ok (.goto 12, 3) := by decide +kernel
theorem d13_16_8 : decode b_13_16 8 = .ok (.aload_n 0, 1) := by decide +kernel
theorem d13_16_9 : decode b_13_16 9 = .ok (.iload_n 1, 1) := by decide +kernel
theorem d13_16_10 : decode b_13_16 10 = .ok (.iload_n 2, 1) := by decide +kernel
theorem d13_16_11 : decode b_13_16 11 = .ok (.iadd, 1) := by decide +kernel
theorem d13_16_12 : decode b_13_16 12 = .ok (.iconst 1, 1) := by decide +kernel
theorem d13_16_13 : decode b_13_16 13 = .ok (.isub, 1) := by decide +kernel
theorem d13_16_14 : decode b_13_16 14 = .ok (.iaload, 1) := by decide +kernel
theorem d13_16_15 : decode b_13_16 15 = .ok (.iconst 3, 1) := by decide +kernel
theorem d13_16_16 : decode b_13_16 16 = .ok (.iand, 1) := by decide +kernel
theorem d13_16_17 : decode b_13_16 17 = .ok (.ireturn, 1) := by decide +kernel
theorem t13_16_0 {C : qCx} {G : jG} {S : jS} {V : jH} {nc ns : Nat} {l0 l1 l2 : Int} (h : x13_16 C G)  (k : ¬ l2 = 0 → j_ok n_KT 3 C G 8 [(0, (2, l0)), (1, (0, l1)), (2, (0, l2))] [] S V nc ns) (k' : l2 = 0 → j_ok n_KT 3 C G 4 [] [] S V nc ns) : j_ok n_KT 3 C G 0 [(0, (2, l0)), (1, (0, l1)), (2, (0, l2))] [] S V nc ns := by
  have E := n_E h
  refine j_iload_n E d13_16_0 rfl 2 rfl ?_
  exact j_if_ne E d13_16_1 (t := 8) rfl (fun q => j_pick [0, 1, 2] rfl (k q)) (fun q => j_pick [] rfl (k' q))
theorem t13_16_4 {C : qCx} {G : jG} {S : jS} {V : jH} {nc ns : Nat} (h : x13_16 C G)  (k : j_ok n_KT 3 C G 17 [] [(0, 0)] S V nc ns) : j_ok n_KT 3 C G 4 [] [] S V nc ns := by
  have E := n_E h
  refine j_iconst E d13_16_4 (by decide) ?_
  refine j_goto E d13_16_5 (t := 17) rfl ?_
  exact j_pick [] rfl k
theorem t13_16_8 {C : qCx} {G : jG} {S : jS} {V : jH} {nc ns : Nat} {l0 l1 l2 : Int} {n_l0 : Nat} (h : x13_16 C G) (c1 : -2147483648 ≤ l1 + l2 ∧ l1 + l2 ≤ 2147483647) (c2 : -2147483648 ≤ (l1 + l2) - 1 ∧ (l1 + l2) - 1 ≤ 2147483647) (c3 : j_arr S l0 n_l0) (c4 : 0 ≤ (l1 + l2) - 1) (c5 : (l1 + l2) - 1 < (n_l0 : Int)) (k : j_ok n_KT 3 C G 17 [] [(0, (V l0 ((l1 + l2) - 1)) % 4)] S V nc ns) : j_ok n_KT 3 C G 8 [(0, (2, l0)), (1, (0, l1)), (2, (0, l2))] [] S V nc ns := by
  have E := n_E h
  refine j_aload_n E d13_16_8 rfl 0 rfl ?_
  refine j_iload_n E d13_16_9 rfl 1 rfl ?_
  refine j_iload_n E d13_16_10 rfl 2 rfl ?_
  refine j_iadd E d13_16_11 c1 ?_
  refine j_iconst E d13_16_12 (by decide) ?_
  refine j_isub E d13_16_13 c2 ?_
  refine j_iald E d13_16_14 c3 c4 c5 ?_
  refine j_iconst E d13_16_15 (by decide) ?_
  refine j_iand3 E d13_16_16 rfl ?_
  exact j_pick [] rfl k
theorem t13_16_17 {C : qCx} {G : jG} {S : jS} {V : jH} {nc ns : Nat} {s0 : Int} {mc ms : Nat} {qf : Int → jS → jH → Prop} (h : x13_16 C G)  (R : j_Ri n_KT 3 C G b_13_16 mc ms qf) (q : qf s0 S V) (hc : nc ≤ mc) (hs : ns ≤ ms) : j_ok n_KT 3 C G 17 [] [(0, s0)] S V nc ns := by
  have E := n_E h
  exact R _ _ _ _ _ _ _ d13_16_17 q hc hs
/- BalanceCoderModel.dealOut(I)V -/
abbrev b_13_15 : ByteArray := prog_13_method_15_code
def y_13_15 : MethodName := ⟨"BalanceCoderModel", "dealOut", "(I)V"⟩
abbrev x13_15 (C : qCx) (G : jG) : Prop := n_ctx C b_13_15 9 "BalanceCoderModel" G.1 G.2.1
def M13_15 (l : Launch) (mc ms : Nat) (p : Int → Int → jS → jH → Prop) (q : Int → Int → jS → jH → jS → jH → Prop) : Prop := j_Met l vwCl n_TL n_NW n_KT y_13_15 (Cond.code y_13_15 b_13_15 9 none :: n_GW) { frames := 1, cells := mc, slots := ms, locals := 26 } mc ms (fun a S V => ∃ u0 u1 : Int, a = [(2, u0), (0, u1)] ∧ S.1 u0 = 33 ∧ p u0 u1 S V) (fun a S V rs S' V' => ∃ u0 u1 : Int, a = [(2, u0), (0, u1)] ∧ rs = [] ∧ q u0 u1 S V S' V')
theorem e13_15 {l : Launch} {mc ms : Nat} {p : Int → Int → jS → jH → Prop} {q : Int → Int → jS → jH → jS → jH → Prop} (body : ∀ (C : qCx) (G : jG), x13_15 C G → C.2.2.2.1.frames = 1 ∧ C.2.2.2.1.locals = 26 → C.2.2.2.1.cells = mc ∧ C.2.2.2.1.slots = ms → C.2.1 = l → C.2.2.2.2.2.2.2.2.1.name = "dealOut" → ∀ (u0 u1 : Int) (S : jS) (V : jH), S.1 u0 = 33 → p u0 u1 S V → j_Rv n_KT 9 C G b_13_15 mc ms (q u0 u1 S V) → j_ok n_KT 9 C G 0 [(0, (2, u0)), (1, (0, u1))] [] S V 0 0) : M13_15 l mc ms p q := by
  refine j_method (ws' := n_GW) (by decide) rfl ?_ ?_
  · rintro a S V ⟨u0, u1, rfl, -⟩
    exact Nat.le_of_ble_eq_true rfl
  · rintro C G htl hl hrm hm hml ho hts hnm hE a S V ⟨u0, u1, rfl, ht, hp⟩ R
    exact body C G ⟨htl, hm, hml, ho, fun w hw => hts w (List.mem_cons_of_mem _ hw), hE⟩ (by rw [hrm]; exact ⟨rfl, rfl⟩) (by rw [hrm]; exact ⟨rfl, rfl⟩) hl hnm u0 u1 S V ht hp (fun pc lo S' V' nc ns d q hc hs => R.1 rfl pc lo S' V' nc ns d ⟨u0, u1, rfl, rfl, q⟩ hc hs)
theorem d13_15_0 : decode b_13_15 0 = .ok (.iload_n 1, 1) := by decide +kernel
theorem d13_15_1 : decode b_13_15 1 = .ok (.istore_n 2, 1) := by decide +kernel
theorem d13_15_2 : decode b_13_15 2 = .ok (.iconst 0, 1) := by decide +kernel
theorem d13_15_3 : decode b_13_15 3 = .ok (.istore_n 3, 1) := by decide +kernel
theorem d13_15_4 : decode b_13_15 4 = .ok (.iload_n 3, 1) := by decide +kernel
theorem d13_15_5 : decode b_13_15 5 = .ok (.sipush 256, 3) := by decide +kernel
theorem d13_15_8 : decode b_13_15 8 = .ok (.if_icmp .ge 38, 3) := by decide +kernel
theorem d13_15_11 : decode b_13_15 11 = .ok (.aload_n 0, 1) := by decide +kernel
theorem d13_15_12 : decode b_13_15 12 = .ok (.getfield 29, 3) := by decide +kernel
theorem d13_15_15 : decode b_13_15 15 = .ok (.iload_n 3, 1) := by decide +kernel
theorem d13_15_16 : decode b_13_15 16 = .ok (.aload_n 0, 1) := by decide +kernel
theorem d13_15_17 : decode b_13_15 17 = .ok (.getfield 26, 3) := by decide +kernel
theorem d13_15_20 : decode b_13_15 20 = .ok (.iload_n 3, 1) := by decide +kernel
theorem d13_15_21 : decode b_13_15 21 = .ok (.iaload, 1) := by decide +kernel
theorem d13_15_22 : decode b_13_15 22 = .ok (.ifCond .le 7, 3) := by decide +kernel
theorem d13_15_25 : decode b_13_15 25 = .ok (.iconst 1, 1) := by decide +kernel
theorem d13_15_26 : decode b_13_15 26 = .ok (.goto 4, 3) := by decide +kernel
theorem d13_15_29 : decode b_13_15 29 = .ok (.iconst 0, 1) := by decide +kernel
theorem d13_15_30 : decode b_13_15 30 = .ok (.iastore, 1) := by decide +kernel
theorem d13_15_31 : decode b_13_15 31 = .ok (.iload_n 2, 1) := by decide +kernel
theorem d13_15_32 : decode b_13_15 32 = .ok (.aload_n 0, 1) := by decide +kernel
theorem d13_15_33 : decode b_13_15 33 = .ok (.getfield 29, 3) := by decide +kernel
theorem d13_15_36 : decode b_13_15 36 = .ok (.iload_n 3, 1) := by decide +kernel
theorem d13_15_37 : decode b_13_15 37 = .ok (.iaload, 1) := by decide +kernel
theorem d13_15_38 : decode b_13_15 38 = .ok (.isub, 1) := by decide +kernel
theorem d13_15_39 : decode b_13_15 39 = .ok (.istore_n 2, 1) := by decide +kernel
theorem d13_15_40 : decode b_13_15 40 = .ok (.iinc 3 1, 3) := by decide +kernel
theorem d13_15_43 : decode b_13_15 43 = .ok (.goto (-39), 3) := by decide +kernel
theorem d13_15_46 : decode b_13_15 46 = .ok (.iload_n 2, 1) := by decide +kernel
theorem d13_15_47 : decode b_13_15 47 = .ok (.iload_n 1, 1) := by decide +kernel
theorem d13_15_48 : decode b_13_15 48 = .ok (.if_icmp .ne 30, 3) := by decide +kernel
theorem d13_15_51 : decode b_13_15 51 = .ok (.iconst 0, 1) := by decide +kernel
theorem d13_15_52 : decode b_13_15 52 = .ok (.istore_n 3, 1) := by decide +kernel
theorem d13_15_53 : decode b_13_15 53 = .ok (.iload_n 3, 1) := by decide +kernel
theorem d13_15_54 : decode b_13_15 54 = .ok (.sipush 256, 3) := by decide +kernel
theorem d13_15_57 : decode b_13_15 57 = .ok (.if_icmp .ge 20, 3) := by decide +kernel
theorem d13_15_60 : decode b_13_15 60 = .ok (.aload_n 0, 1) := by decide +kernel
theorem d13_15_61 : decode b_13_15 61 = .ok (.getfield 29, 3) := by decide +kernel
theorem d13_15_64 : decode b_13_15 64 = .ok (.iload_n 3, 1) := by decide +kernel
theorem d13_15_65 : decode b_13_15 65 = .ok (.iload_n 1, 1) := by decide +kernel
theorem d13_15_66 : decode b_13_15 66 = .ok (.sipush 256, 3) := by decide +kernel
theorem d13_15_69 : decode b_13_15 69 = .ok (.idiv, 1) := by decide +kernel
theorem d13_15_70 : decode b_13_15 70 = .ok (.iastore, 1) := by decide +kernel
theorem d13_15_71 : decode b_13_15 71 = .ok (.iinc 3 1, 3) := by decide +kernel
theorem d13_15_74 : decode b_13_15 74 = .ok (.goto (-21), 3) := by decide +kernel
theorem d13_15_77 : decode b_13_15 77 = .ok (.return_, 1) := by decide +kernel
theorem d13_15_78 : decode b_13_15 78 = .ok (.iload_n 2, 1) := by decide +kernel
theorem d13_15_79 : decode b_13_15 79 = .ok (.ifCond .le 96, 3) := by decide +kernel
theorem d13_15_82 : decode b_13_15 82 = .ok (.iconst (-1), 1) := by decide +kernel
theorem d13_15_83 : decode b_13_15 83 = .ok (.istore_n 3, 1) := by decide +kernel
theorem d13_15_84 : decode b_13_15 84 = .ok (.ldc2_w 94, 3) := by decide +kernel
theorem d13_15_87 : decode b_13_15 87 = .ok (.lstore 4, 2) := by decide +kernel
theorem d13_15_89 : decode b_13_15 89 = .ok (.iconst 0, 1) := by decide +kernel
theorem d13_15_90 : decode b_13_15 90 = .ok (.istore 6, 2) := by decide +kernel
theorem d13_15_92 : decode b_13_15 92 = .ok (.iload 6, 2) := by decide +kernel
theorem d13_15_94 : decode b_13_15 94 = .ok (.sipush 256, 3) := by decide +kernel
theorem d13_15_97 : decode b_13_15 97 = .ok (.if_icmp .ge 62, 3) := by decide +kernel
theorem d13_15_100 : decode b_13_15 100 = .ok (.aload_n 0, 1) := by decide +kernel
theorem d13_15_101 : decode b_13_15 101 = .ok (.getfield 26, 3) := by decide +kernel
theorem d13_15_104 : decode b_13_15 104 = .ok (.iload 6, 2) := by decide +kernel
theorem d13_15_106 : decode b_13_15 106 = .ok (.iaload, 1) := by decide +kernel
theorem d13_15_107 : decode b_13_15 107 = .ok (.ifCond .ne 6, 3) := by decide +kernel
theorem d13_15_110 : decode b_13_15 110 = .ok (.goto 43, 3) := by decide +kernel
theorem d13_15_113 : decode b_13_15 113 = .ok (.aload_n 0, 1) := by decide +kernel
theorem d13_15_114 : decode b_13_15 114 = .ok (.getfield 26, 3) := by decide +kernel
theorem d13_15_117 : decode b_13_15 117 = .ok (.iload 6, 2) := by decide +kernel
theorem d13_15_119 : decode b_13_15 119 = .ok (.iaload, 1) := by decide +kernel
theorem d13_15_120 : decode b_13_15 120 = .ok (.i2l, 1) := by decide +kernel
theorem d13_15_121 : decode b_13_15 121 = .ok (.ldc 124, 2) := by decide +kernel
theorem d13_15_123 : decode b_13_15 123 = .ok (.aload_n 0, 1) := by decide +kernel
theorem d13_15_124 : decode b_13_15 124 = .ok (.getfield 29, 3) := by decide +kernel
theorem d13_15_127 : decode b_13_15 127 = .ok (.iload 6, 2) := by decide +kernel
theorem d13_15_129 : decode b_13_15 129 = .ok (.iaload, 1) := by decide +kernel
theorem d13_15_130 : decode b_13_15 130 = .ok (.idiv, 1) := by decide +kernel
theorem d13_15_131 : decode b_13_15 131 = .ok (.i2l, 1) := by decide +kernel
theorem d13_15_132 : decode b_13_15 132 = .ok (.lmul, 1) := by decide +kernel
theorem d13_15_133 : decode b_13_15 133 = .ok (.lstore 7, 2) := by decide +kernel
theorem d13_15_135 : decode b_13_15 135 = .ok (.lload 7, 2) := by decide +kernel
theorem d13_15_137 : decode b_13_15 137 = .ok (.lload 4, 2) := by decide +kernel
theorem d13_15_139 : decode b_13_15 139 = .ok (.lcmp, 1) := by decide +kernel
theorem d13_15_140 : decode b_13_15 140 = .ok (.ifCond .gt 6, 3) := by decide +kernel
theorem d13_15_143 : decode b_13_15 143 = .ok (.goto 10, 3) := by decide +kernel
theorem d13_15_146 : decode b_13_15 146 = .ok (.lload 7, 2) := by decide +kernel
theorem d13_15_148 : decode b_13_15 148 = .ok (.lstore 4, 2) := by decide +kernel
theorem d13_15_150 : decode b_13_15 150 = .ok (.iload 6, 2) := by decide +kernel
theorem d13_15_152 : decode b_13_15 152 = .ok (.istore_n 3, 1) := by decide +kernel
theorem d13_15_153 : decode b_13_15 153 = .ok (.iinc 6 1, 3) := by decide +kernel
theorem d13_15_156 : decode b_13_15 156 = .ok (.goto (-64), 3) := by decide +kernel
theorem d13_15_159 : decode b_13_15 159 = .ok (.aload_n 0, 1) := by decide +kernel
theorem d13_15_160 : decode b_13_15 160 = .ok (.getfield 29, 3) := by decide +kernel
theorem d13_15_163 : decode b_13_15 163 = .ok (.iload_n 3, 1) := by decide +kernel
theorem d13_15_164 : decode b_13_15 164 = .ok (.dup2, 1) := by decide +kernel
theorem d13_15_165 : decode b_13_15 165 = .ok (.iaload, 1) := by decide +kernel
theorem d13_15_166 : decode b_13_15 166 = .ok (.iconst 1, 1) := by decide +kernel
theorem d13_15_167 : decode b_13_15 167 = .ok (.iadd, 1) := by decide +kernel
theorem d13_15_168 : decode b_13_15 168 = .ok (.iastore, 1) := by decide +kernel
theorem d13_15_169 : decode b_13_15 169 = .ok (.iinc 2 (-1), 3) := by decide +kernel
theorem d13_15_172 : decode b_13_15 172 = .ok (.goto (-94), 3) := by decide +kernel
theorem d13_15_175 : decode b_13_15 175 = .ok (.return_, 1) := by decide +kernel
theorem t13_15_0 {C : qCx} {G : jG} {S : jS} {V : jH} {nc ns : Nat} {l0 l1 : Int} (h : x13_15 C G)  (k : j_ok n_KT 9 C G 4 [(0, (2, l0)), (1, (0, l1)), (2, (0, l1)), (3, (0, 0))] [] S V nc ns) : j_ok n_KT 9 C G 0 [(0, (2, l0)), (1, (0, l1))] [] S V nc ns := by
  have E := n_E h
  refine j_iload_n E d13_15_0 rfl 1 rfl ?_
  refine j_istore_n E d13_15_1 rfl (by decide) (lo1 := [(0, (2, l0)), (1, (0, l1))]) rfl ?_
  refine j_iconst E d13_15_2 (by decide) ?_
  refine j_istore_n E d13_15_3 rfl (by decide) (lo1 := [(2, (0, l1)), (0, (2, l0)), (1, (0, l1))]) rfl ?_
  exact j_pick [2, 3, 1, 0] rfl k
theorem t13_15_4 {C : qCx} {G : jG} {S : jS} {V : jH} {nc ns : Nat} {l0 l1 l2 l3 : Int} (h : x13_15 C G)  (k : 256 ≤ l3 → j_ok n_KT 9 C G 46 [(0, (2, l0)), (1, (0, l1)), (2, (0, l2))] [] S V nc ns) (k' : l3 < 256 → j_ok n_KT 9 C G 11 [(0, (2, l0)), (1, (0, l1)), (2, (0, l2)), (3, (0, l3))] [] S V nc ns) : j_ok n_KT 9 C G 4 [(0, (2, l0)), (1, (0, l1)), (2, (0, l2)), (3, (0, l3))] [] S V nc ns := by
  have E := n_E h
  refine j_iload_n E d13_15_4 rfl 3 rfl ?_
  refine j_sipush E d13_15_5 (by decide) ?_
  exact j_icmp_ge E d13_15_8 (t := 46) rfl (fun q => j_pick [0, 1, 2] rfl (k q)) (fun q => j_pick [0, 1, 2, 3] rfl (k' q))
theorem t13_15_11 {C : qCx} {G : jG} {S : jS} {V : jH} {nc ns : Nat} {l0 l1 l2 l3 : Int} (h : x13_15 C G) (L : j_L S) (c1 : S.1 l0 = 33) (c2 : 0 ≤ l3) (c3 : l3 < 256) (k : V (l0 + 19) l3 ≤ 0 → j_ok n_KT 9 C G 29 [(0, (2, l0)), (1, (0, l1)), (2, (0, l2)), (3, (0, l3))] [(0, l3), (2, l0 + 20)] S V nc ns) (k' : 0 < V (l0 + 19) l3 → j_ok n_KT 9 C G 25 [(0, (2, l0)), (1, (0, l1)), (2, (0, l2)), (3, (0, l3))] [(0, l3), (2, l0 + 20)] S V nc ns) : j_ok n_KT 9 C G 11 [(0, (2, l0)), (1, (0, l1)), (2, (0, l2)), (3, (0, l3))] [] S V nc ns := by
  have E := n_E h
  refine j_aload_n E d13_15_11 rfl 0 rfl ?_
  refine j_getS (f := 8) (x := l0 + 20) (fg12_29 h) d13_15_12 c1 (by decide) rfl rfl ((L12_8 L c1).trans (by omega)) ?_
  refine j_iload_n E d13_15_15 rfl 3 rfl ?_
  refine j_aload_n E d13_15_16 rfl 0 rfl ?_
  refine j_getS (f := 7) (x := l0 + 19) (fg12_26 h) d13_15_17 c1 (by decide) rfl rfl ((L12_7 L c1).trans (by omega)) ?_
  refine j_iload_n E d13_15_20 rfl 3 rfl ?_
  refine j_iald E d13_15_21 (j_arr_of (show S.1 (l0 + 19) = 3 from (by have q := L12_7k L c1; rw [show l0 + 19 = l0 + 19 by omega]; exact q)) (by decide) rfl) c2 c3 ?_
  exact j_if_le E d13_15_22 (t := 29) rfl (fun q => j_pick [0, 1, 2, 3] rfl (k q)) (fun q => j_pick [0, 1, 2, 3] rfl (k' q))
theorem t13_15_25 {C : qCx} {G : jG} {S : jS} {V : jH} {nc ns : Nat} {l0 l1 l2 l3 s0 s1 : Int} (h : x13_15 C G)  (k : j_ok n_KT 9 C G 30 [(0, (2, l0)), (1, (0, l1)), (2, (0, l2)), (3, (0, l3))] [(0, 1), (0, s0), (2, s1)] S V nc ns) : j_ok n_KT 9 C G 25 [(0, (2, l0)), (1, (0, l1)), (2, (0, l2)), (3, (0, l3))] [(0, s0), (2, s1)] S V nc ns := by
  have E := n_E h
  refine j_iconst E d13_15_25 (by decide) ?_
  refine j_goto E d13_15_26 (t := 30) rfl ?_
  exact j_pick [0, 1, 2, 3] rfl k
theorem t13_15_29 {C : qCx} {G : jG} {S : jS} {V : jH} {nc ns : Nat} {l0 l1 l2 l3 s0 s1 : Int} (h : x13_15 C G)  (k : j_ok n_KT 9 C G 30 [(0, (2, l0)), (1, (0, l1)), (2, (0, l2)), (3, (0, l3))] [(0, 0), (0, s0), (2, s1)] S V nc ns) : j_ok n_KT 9 C G 29 [(0, (2, l0)), (1, (0, l1)), (2, (0, l2)), (3, (0, l3))] [(0, s0), (2, s1)] S V nc ns := by
  have E := n_E h
  refine j_iconst E d13_15_29 (by decide) ?_
  exact j_pick [0, 1, 2, 3] rfl k
theorem t13_15_30 {C : qCx} {G : jG} {S : jS} {V : jH} {nc ns : Nat} {l0 l1 l2 l3 s0 s1 s2 : Int} {n_s2 : Nat} (h : x13_15 C G) (L : j_L S) (c1 : j_arr S s2 n_s2) (c2 : 0 ≤ s1) (c3 : s1 < (n_s2 : Int)) (c4 : S.1 l0 = 33) (c5 : 0 ≤ l3) (c6 : l3 < 256) (c7 : -2147483648 ≤ l2 - ((j_up V s2 s1 s0) (l0 + 20) l3) ∧ l2 - ((j_up V s2 s1 s0) (l0 + 20) l3) ≤ 2147483647) (c8 : -2147483648 ≤ l3 + 1 ∧ l3 + 1 ≤ 2147483647) (k : j_ok n_KT 9 C G 4 [(0, (2, l0)), (1, (0, l1)), (2, (0, l2 - ((j_up V s2 s1 s0) (l0 + 20) l3))), (3, (0, l3 + 1))] [] S (j_up V s2 s1 s0) nc ns) : j_ok n_KT 9 C G 30 [(0, (2, l0)), (1, (0, l1)), (2, (0, l2)), (3, (0, l3))] [(0, s0), (0, s1), (2, s2)] S V nc ns := by
  have E := n_E h
  refine j_iast E d13_15_30 c1 c2 c3 ?_
  refine j_iload_n E d13_15_31 rfl 2 rfl ?_
  refine j_aload_n E d13_15_32 rfl 0 rfl ?_
  refine j_getS (f := 8) (x := l0 + 20) (fg12_29 h) d13_15_33 c4 (by decide) rfl rfl ((L12_8 L c4).trans (by omega)) ?_
  refine j_iload_n E d13_15_36 rfl 3 rfl ?_
  refine j_iald E d13_15_37 (j_arr_of (show S.1 (l0 + 20) = 3 from (by have q := L12_8k L c4; rw [show l0 + 20 = l0 + 20 by omega]; exact q)) (by decide) rfl) c5 c6 ?_
  refine j_isub E d13_15_38 c7 ?_
  refine j_istore_n E d13_15_39 rfl (by decide) (lo1 := [(0, (2, l0)), (1, (0, l1)), (3, (0, l3))]) rfl ?_
  refine j_iinc E d13_15_40 (by decide) (by decide) 3 rfl (lo1 := [(2, (0, l2 - ((j_up V s2 s1 s0) (l0 + 20) l3))), (0, (2, l0)), (1, (0, l1))]) rfl c8 ?_
  refine j_goto E d13_15_43 (t := 4) rfl ?_
  exact j_pick [2, 3, 1, 0] rfl k
theorem t13_15_46 {C : qCx} {G : jG} {S : jS} {V : jH} {nc ns : Nat} {l0 l1 l2 : Int} (h : x13_15 C G)  (k : ¬ l2 = l1 → j_ok n_KT 9 C G 78 [(0, (2, l0)), (2, (0, l2))] [] S V nc ns) (k' : l2 = l1 → j_ok n_KT 9 C G 51 [(0, (2, l0)), (1, (0, l1))] [] S V nc ns) : j_ok n_KT 9 C G 46 [(0, (2, l0)), (1, (0, l1)), (2, (0, l2))] [] S V nc ns := by
  have E := n_E h
  refine j_iload_n E d13_15_46 rfl 2 rfl ?_
  refine j_iload_n E d13_15_47 rfl 1 rfl ?_
  exact j_icmp_ne E d13_15_48 (t := 78) rfl (fun q => j_pick [0, 2] rfl (k q)) (fun q => j_pick [0, 1] rfl (k' q))
theorem t13_15_51 {C : qCx} {G : jG} {S : jS} {V : jH} {nc ns : Nat} {l0 l1 : Int} (h : x13_15 C G)  (k : j_ok n_KT 9 C G 53 [(0, (2, l0)), (1, (0, l1)), (3, (0, 0))] [] S V nc ns) : j_ok n_KT 9 C G 51 [(0, (2, l0)), (1, (0, l1))] [] S V nc ns := by
  have E := n_E h
  refine j_iconst E d13_15_51 (by decide) ?_
  refine j_istore_n E d13_15_52 rfl (by decide) (lo1 := [(0, (2, l0)), (1, (0, l1))]) rfl ?_
  exact j_pick [1, 2, 0] rfl k
theorem t13_15_53 {C : qCx} {G : jG} {S : jS} {V : jH} {nc ns : Nat} {l0 l1 l3 : Int} (h : x13_15 C G)  (k : 256 ≤ l3 → j_ok n_KT 9 C G 77 [] [] S V nc ns) (k' : l3 < 256 → j_ok n_KT 9 C G 60 [(0, (2, l0)), (1, (0, l1)), (3, (0, l3))] [] S V nc ns) : j_ok n_KT 9 C G 53 [(0, (2, l0)), (1, (0, l1)), (3, (0, l3))] [] S V nc ns := by
  have E := n_E h
  refine j_iload_n E d13_15_53 rfl 2 rfl ?_
  refine j_sipush E d13_15_54 (by decide) ?_
  exact j_icmp_ge E d13_15_57 (t := 77) rfl (fun q => j_pick [] rfl (k q)) (fun q => j_pick [0, 1, 2] rfl (k' q))
theorem t13_15_60 {C : qCx} {G : jG} {S : jS} {V : jH} {nc ns : Nat} {l0 l1 l3 : Int} (h : x13_15 C G) (L : j_L S) (c1 : S.1 l0 = 33) (c2 : 0 ≤ l1) (c3 : 0 ≤ l3) (c4 : l3 < 256) (c5 : -2147483648 ≤ l3 + 1 ∧ l3 + 1 ≤ 2147483647) (k : j_ok n_KT 9 C G 53 [(0, (2, l0)), (1, (0, l1)), (3, (0, l3 + 1))] [] S (j_up V (l0 + 20) l3 (l1 / 256)) nc ns) : j_ok n_KT 9 C G 60 [(0, (2, l0)), (1, (0, l1)), (3, (0, l3))] [] S V nc ns := by
  have E := n_E h
  refine j_aload_n E d13_15_60 rfl 0 rfl ?_
  refine j_getS (f := 8) (x := l0 + 20) (fg12_29 h) d13_15_61 c1 (by decide) rfl rfl ((L12_8 L c1).trans (by omega)) ?_
  refine j_iload_n E d13_15_64 rfl 2 rfl ?_
  refine j_iload_n E d13_15_65 rfl 1 rfl ?_
  refine j_sipush E d13_15_66 (by decide) ?_
  refine j_idiv E d13_15_69 c2 (by decide) ?_
  refine j_iast E d13_15_70 (j_arr_of (show S.1 (l0 + 20) = 3 from (by have q := L12_8k L c1; rw [show l0 + 20 = l0 + 20 by omega]; exact q)) (by decide) rfl) c3 c4 ?_
  refine j_iinc E d13_15_71 (by decide) (by decide) 2 rfl (lo1 := [(0, (2, l0)), (1, (0, l1))]) rfl c5 ?_
  refine j_goto E d13_15_74 (t := 53) rfl ?_
  exact j_pick [1, 2, 0] rfl k
theorem t13_15_77 {C : qCx} {G : jG} {S : jS} {V : jH} {nc ns : Nat} {mc ms : Nat} {qf : jS → jH → Prop} (h : x13_15 C G)  (R : j_Rv n_KT 9 C G b_13_15 mc ms qf) (q : qf S V) (hc : nc ≤ mc) (hs : ns ≤ ms) : j_ok n_KT 9 C G 77 [] [] S V nc ns := by
  have E := n_E h
  exact R _ _ _ _ _ _ d13_15_77 q hc hs
theorem t13_15_78 {C : qCx} {G : jG} {S : jS} {V : jH} {nc ns : Nat} {l0 l2 : Int} (h : x13_15 C G)  (k : l2 ≤ 0 → j_ok n_KT 9 C G 175 [] [] S V nc ns) (k' : 0 < l2 → j_ok n_KT 9 C G 82 [(0, (2, l0)), (2, (0, l2))] [] S V nc ns) : j_ok n_KT 9 C G 78 [(0, (2, l0)), (2, (0, l2))] [] S V nc ns := by
  have E := n_E h
  refine j_iload_n E d13_15_78 rfl 1 rfl ?_
  exact j_if_le E d13_15_79 (t := 175) rfl (fun q => j_pick [] rfl (k q)) (fun q => j_pick [0, 1] rfl (k' q))
theorem t13_15_82 {C : qCx} {G : jG} {S : jS} {V : jH} {nc ns : Nat} {l0 l2 : Int} (h : x13_15 C G)  (k : j_ok n_KT 9 C G 92 [(0, (2, l0)), (2, (0, l2)), (3, (0, (-1))), (4, (1, (-1))), (6, (0, 0))] [] S V nc ns) : j_ok n_KT 9 C G 82 [(0, (2, l0)), (2, (0, l2))] [] S V nc ns := by
  have E := n_E h
  refine j_iconst E d13_15_82 (by decide) ?_
  refine j_istore_n E d13_15_83 rfl (by decide) (lo1 := [(0, (2, l0)), (2, (0, l2))]) rfl ?_
  refine j_ldc2 (n := (-1)) (fl12_94 h) rfl d13_15_84 ?_
  refine j_lstore E d13_15_87 (by decide) (lo1 := [(3, (0, (-1))), (0, (2, l0)), (2, (0, l2))]) rfl ?_
  refine j_iconst E d13_15_89 (by decide) ?_
  refine j_istore E d13_15_90 (by decide) (lo1 := [(4, (1, (-1))), (3, (0, (-1))), (0, (2, l0)), (2, (0, l2))]) rfl ?_
  exact j_pick [3, 4, 2, 1, 0] rfl k
theorem t13_15_92 {C : qCx} {G : jG} {S : jS} {V : jH} {nc ns : Nat} {l0 l2 l3 l4 l6 : Int} (h : x13_15 C G)  (k : 256 ≤ l6 → j_ok n_KT 9 C G 159 [(0, (2, l0)), (2, (0, l2)), (3, (0, l3))] [] S V nc ns) (k' : l6 < 256 → j_ok n_KT 9 C G 100 [(0, (2, l0)), (2, (0, l2)), (3, (0, l3)), (4, (1, l4)), (6, (0, l6))] [] S V nc ns) : j_ok n_KT 9 C G 92 [(0, (2, l0)), (2, (0, l2)), (3, (0, l3)), (4, (1, l4)), (6, (0, l6))] [] S V nc ns := by
  have E := n_E h
  refine j_iload E d13_15_92 4 rfl ?_
  refine j_sipush E d13_15_94 (by decide) ?_
  exact j_icmp_ge E d13_15_97 (t := 159) rfl (fun q => j_pick [0, 1, 2] rfl (k q)) (fun q => j_pick [0, 1, 2, 3, 4] rfl (k' q))
theorem t13_15_100 {C : qCx} {G : jG} {S : jS} {V : jH} {nc ns : Nat} {l0 l2 l3 l4 l6 : Int} (h : x13_15 C G) (L : j_L S) (c1 : S.1 l0 = 33) (c2 : 0 ≤ l6) (c3 : l6 < 256) (k : ¬ V (l0 + 19) l6 = 0 → j_ok n_KT 9 C G 113 [(0, (2, l0)), (2, (0, l2)), (3, (0, l3)), (4, (1, l4)), (6, (0, l6))] [] S V nc ns) (k' : V (l0 + 19) l6 = 0 → j_ok n_KT 9 C G 110 [(0, (2, l0)), (2, (0, l2)), (3, (0, l3)), (4, (1, l4)), (6, (0, l6))] [] S V nc ns) : j_ok n_KT 9 C G 100 [(0, (2, l0)), (2, (0, l2)), (3, (0, l3)), (4, (1, l4)), (6, (0, l6))] [] S V nc ns := by
  have E := n_E h
  refine j_aload_n E d13_15_100 rfl 0 rfl ?_
  refine j_getS (f := 7) (x := l0 + 19) (fg12_26 h) d13_15_101 c1 (by decide) rfl rfl ((L12_7 L c1).trans (by omega)) ?_
  refine j_iload E d13_15_104 4 rfl ?_
  refine j_iald E d13_15_106 (j_arr_of (show S.1 (l0 + 19) = 3 from (by have q := L12_7k L c1; rw [show l0 + 19 = l0 + 19 by omega]; exact q)) (by decide) rfl) c2 c3 ?_
  exact j_if_ne E d13_15_107 (t := 113) rfl (fun q => j_pick [0, 1, 2, 3, 4] rfl (k q)) (fun q => j_pick [0, 1, 2, 3, 4] rfl (k' q))
theorem t13_15_110 {C : qCx} {G : jG} {S : jS} {V : jH} {nc ns : Nat} {l0 l2 l3 l4 l6 : Int} (h : x13_15 C G)  (k : j_ok n_KT 9 C G 153 [(0, (2, l0)), (2, (0, l2)), (3, (0, l3)), (4, (1, l4)), (6, (0, l6))] [] S V nc ns) : j_ok n_KT 9 C G 110 [(0, (2, l0)), (2, (0, l2)), (3, (0, l3)), (4, (1, l4)), (6, (0, l6))] [] S V nc ns := by
  have E := n_E h
  refine j_goto E d13_15_110 (t := 153) rfl ?_
  exact j_pick [0, 1, 2, 3, 4] rfl k
theorem t13_15_113 {C : qCx} {G : jG} {S : jS} {V : jH} {nc ns : Nat} {l0 l2 l3 l4 l6 : Int} (h : x13_15 C G) (L : j_L S) (c1 : S.1 l0 = 33) (c2 : 0 ≤ l6) (c3 : l6 < 256) (c4 : 1 ≤ V (l0 + 20) l6) (c5 : -9223372036854775808 ≤ (V (l0 + 19) l6) * (1000000 / (V (l0 + 20) l6)) ∧ (V (l0 + 19) l6) * (1000000 / (V (l0 + 20) l6)) ≤ 9223372036854775807) (k : l4 < (V (l0 + 19) l6) * (1000000 / (V (l0 + 20) l6)) → j_ok n_KT 9 C G 146 [(0, (2, l0)), (2, (0, l2)), (6, (0, l6)), (7, (1, (V (l0 + 19) l6) * (1000000 / (V (l0 + 20) l6))))] [] S V nc ns) (k' : (V (l0 + 19) l6) * (1000000 / (V (l0 + 20) l6)) ≤ l4 → j_ok n_KT 9 C G 143 [(0, (2, l0)), (2, (0, l2)), (3, (0, l3)), (4, (1, l4)), (6, (0, l6))] [] S V nc ns) : j_ok n_KT 9 C G 113 [(0, (2, l0)), (2, (0, l2)), (3, (0, l3)), (4, (1, l4)), (6, (0, l6))] [] S V nc ns := by
  have E := n_E h
  refine j_aload_n E d13_15_113 rfl 0 rfl ?_
  refine j_getS (f := 7) (x := l0 + 19) (fg12_26 h) d13_15_114 c1 (by decide) rfl rfl ((L12_7 L c1).trans (by omega)) ?_
  refine j_iload E d13_15_117 4 rfl ?_
  refine j_iald E d13_15_119 (j_arr_of (show S.1 (l0 + 19) = 3 from (by have q := L12_7k L c1; rw [show l0 + 19 = l0 + 19 by omega]; exact q)) (by decide) rfl) c2 c3 ?_
  refine j_i2l E d13_15_120 ?_
  refine j_ldc (n := 1000000) (fk12_124 h) rfl d13_15_121 ?_
  refine j_aload_n E d13_15_123 rfl 0 rfl ?_
  refine j_getS (f := 8) (x := l0 + 20) (fg12_29 h) d13_15_124 c1 (by decide) rfl rfl ((L12_8 L c1).trans (by omega)) ?_
  refine j_iload E d13_15_127 4 rfl ?_
  refine j_iald E d13_15_129 (j_arr_of (show S.1 (l0 + 20) = 3 from (by have q := L12_8k L c1; rw [show l0 + 20 = l0 + 20 by omega]; exact q)) (by decide) rfl) c2 c3 ?_
  refine j_idiv E d13_15_130 (by decide) c4 ?_
  refine j_i2l E d13_15_131 ?_
  refine j_lmul E d13_15_132 c5 ?_
  refine j_lstore E d13_15_133 (by decide) (lo1 := [(0, (2, l0)), (2, (0, l2)), (3, (0, l3)), (4, (1, l4)), (6, (0, l6))]) rfl ?_
  refine j_lload E d13_15_135 0 rfl ?_
  refine j_lload E d13_15_137 4 rfl ?_
  refine j_lcmp E d13_15_139 ?_
  exact j_if_gt E d13_15_140 (t := 146) rfl (fun q => j_pick [1, 2, 5, 0] rfl (k (j_cmp_gt.mp q))) (fun q => j_pick [1, 2, 3, 4, 5] rfl (k' (j_cmp_le.mp q)))
theorem t13_15_143 {C : qCx} {G : jG} {S : jS} {V : jH} {nc ns : Nat} {l0 l2 l3 l4 l6 : Int} (h : x13_15 C G)  (k : j_ok n_KT 9 C G 153 [(0, (2, l0)), (2, (0, l2)), (3, (0, l3)), (4, (1, l4)), (6, (0, l6))] [] S V nc ns) : j_ok n_KT 9 C G 143 [(0, (2, l0)), (2, (0, l2)), (3, (0, l3)), (4, (1, l4)), (6, (0, l6))] [] S V nc ns := by
  have E := n_E h
  refine j_goto E d13_15_143 (t := 153) rfl ?_
  exact j_pick [0, 1, 2, 3, 4] rfl k
theorem t13_15_146 {C : qCx} {G : jG} {S : jS} {V : jH} {nc ns : Nat} {l0 l2 l6 l7 : Int} (h : x13_15 C G)  (k : j_ok n_KT 9 C G 153 [(0, (2, l0)), (2, (0, l2)), (3, (0, l6)), (4, (1, l7)), (6, (0, l6))] [] S V nc ns) : j_ok n_KT 9 C G 146 [(0, (2, l0)), (2, (0, l2)), (6, (0, l6)), (7, (1, l7))] [] S V nc ns := by
  have E := n_E h
  refine j_lload E d13_15_146 3 rfl ?_
  refine j_lstore E d13_15_148 (by decide) (lo1 := [(0, (2, l0)), (2, (0, l2)), (6, (0, l6)), (7, (1, l7))]) rfl ?_
  refine j_iload E d13_15_150 3 rfl ?_
  refine j_istore_n E d13_15_152 rfl (by decide) (lo1 := [(4, (1, l7)), (0, (2, l0)), (2, (0, l2)), (6, (0, l6)), (7, (1, l7))]) rfl ?_
  exact j_pick [2, 3, 0, 1, 4] rfl k
theorem t13_15_153 {C : qCx} {G : jG} {S : jS} {V : jH} {nc ns : Nat} {l0 l2 l3 l4 l6 : Int} (h : x13_15 C G) (c1 : -2147483648 ≤ l6 + 1 ∧ l6 + 1 ≤ 2147483647) (k : j_ok n_KT 9 C G 92 [(0, (2, l0)), (2, (0, l2)), (3, (0, l3)), (4, (1, l4)), (6, (0, l6 + 1))] [] S V nc ns) : j_ok n_KT 9 C G 153 [(0, (2, l0)), (2, (0, l2)), (3, (0, l3)), (4, (1, l4)), (6, (0, l6))] [] S V nc ns := by
  have E := n_E h
  refine j_iinc E d13_15_153 (by decide) (by decide) 4 rfl (lo1 := [(0, (2, l0)), (2, (0, l2)), (3, (0, l3)), (4, (1, l4))]) rfl c1 ?_
  refine j_goto E d13_15_156 (t := 92) rfl ?_
  exact j_pick [1, 2, 3, 4, 0] rfl k
theorem t13_15_159 {C : qCx} {G : jG} {S : jS} {V : jH} {nc ns : Nat} {l0 l2 l3 : Int} (h : x13_15 C G) (L : j_L S) (c1 : S.1 l0 = 33) (c2 : 0 ≤ l3) (c3 : l3 < 256) (c4 : -2147483648 ≤ (V (l0 + 20) l3) + 1 ∧ (V (l0 + 20) l3) + 1 ≤ 2147483647) (c5 : -2147483648 ≤ l2 + (-1) ∧ l2 + (-1) ≤ 2147483647) (k : j_ok n_KT 9 C G 78 [(0, (2, l0)), (2, (0, l2 + (-1)))] [] S (j_up V (l0 + 20) l3 ((V (l0 + 20) l3) + 1)) nc ns) : j_ok n_KT 9 C G 159 [(0, (2, l0)), (2, (0, l2)), (3, (0, l3))] [] S V nc ns := by
  have E := n_E h
  refine j_aload_n E d13_15_159 rfl 0 rfl ?_
  refine j_getS (f := 8) (x := l0 + 20) (fg12_29 h) d13_15_160 c1 (by decide) rfl rfl ((L12_8 L c1).trans (by omega)) ?_
  refine j_iload_n E d13_15_163 rfl 2 rfl ?_
  refine j_dup2 E d13_15_164 rfl rfl ?_
  refine j_iald E d13_15_165 (j_arr_of (show S.1 (l0 + 20) = 3 from (by have q := L12_8k L c1; rw [show l0 + 20 = l0 + 20 by omega]; exact q)) (by decide) rfl) c2 c3 ?_
  refine j_iconst E d13_15_166 (by decide) ?_
  refine j_iadd E d13_15_167 c4 ?_
  refine j_iast E d13_15_168 (j_arr_of (show S.1 (l0 + 20) = 3 from (by have q := L12_8k L c1; rw [show l0 + 20 = l0 + 20 by omega]; exact q)) (by decide) rfl) c2 c3 ?_
  refine j_iinc E d13_15_169 (by decide) (by decide) 1 rfl (lo1 := [(0, (2, l0)), (3, (0, l3))]) rfl c5 ?_
  refine j_goto E d13_15_172 (t := 78) rfl ?_
  exact j_pick [1, 0] rfl k
theorem t13_15_175 {C : qCx} {G : jG} {S : jS} {V : jH} {nc ns : Nat} {mc ms : Nat} {qf : jS → jH → Prop} (h : x13_15 C G)  (R : j_Rv n_KT 9 C G b_13_15 mc ms qf) (q : qf S V) (hc : nc ≤ mc) (hs : ns ≤ ms) : j_ok n_KT 9 C G 175 [] [] S V nc ns := by
  have E := n_E h
  exact R _ _ _ _ _ _ d13_15_175 q hc hs
/- BalanceCoderModel.learn(III[II)V -/
abbrev b_13_17 : ByteArray := prog_13_method_17_code
def y_13_17 : MethodName := ⟨"BalanceCoderModel", "learn", "(III[II)V"⟩
abbrev x13_17 (C : qCx) (G : jG) : Prop := n_ctx C b_13_17 8 "BalanceCoderModel" G.1 G.2.1
def M13_17 (l : Launch) (mc ms : Nat) (p : Int → Int → Int → Int → Int → Int → jS → jH → Prop) (q : Int → Int → Int → Int → Int → Int → jS → jH → jS → jH → Prop) : Prop := j_Met l vwCl n_TL n_NW n_KT y_13_17 (Cond.code y_13_17 b_13_17 8 none :: n_GW) { frames := 2, cells := mc, slots := ms, locals := 54 } mc ms (fun a S V => ∃ u0 u1 u2 u3 u4 u5 : Int, a = [(2, u0), (0, u1), (0, u2), (0, u3), (2, u4), (0, u5)] ∧ S.1 u0 = 33 ∧ p u0 u1 u2 u3 u4 u5 S V) (fun a S V rs S' V' => ∃ u0 u1 u2 u3 u4 u5 : Int, a = [(2, u0), (0, u1), (0, u2), (0, u3), (2, u4), (0, u5)] ∧ rs = [] ∧ q u0 u1 u2 u3 u4 u5 S V S' V')
theorem e13_17 {l : Launch} {mc ms : Nat} {p : Int → Int → Int → Int → Int → Int → jS → jH → Prop} {q : Int → Int → Int → Int → Int → Int → jS → jH → jS → jH → Prop} (body : ∀ (C : qCx) (G : jG), x13_17 C G → C.2.2.2.1.frames = 2 ∧ C.2.2.2.1.locals = 54 → C.2.2.2.1.cells = mc ∧ C.2.2.2.1.slots = ms → C.2.1 = l → C.2.2.2.2.2.2.2.2.1.name = "learn" → ∀ (u0 u1 u2 u3 u4 u5 : Int) (S : jS) (V : jH), S.1 u0 = 33 → p u0 u1 u2 u3 u4 u5 S V → j_Rv n_KT 8 C G b_13_17 mc ms (q u0 u1 u2 u3 u4 u5 S V) → j_ok n_KT 8 C G 0 [(0, (2, u0)), (1, (0, u1)), (2, (0, u2)), (3, (0, u3)), (4, (2, u4)), (5, (0, u5))] [] S V 0 0) : M13_17 l mc ms p q := by
  refine j_method (ws' := n_GW) (by decide) rfl ?_ ?_
  · rintro a S V ⟨u0, u1, u2, u3, u4, u5, rfl, -⟩
    exact Nat.le_of_ble_eq_true rfl
  · rintro C G htl hl hrm hm hml ho hts hnm hE a S V ⟨u0, u1, u2, u3, u4, u5, rfl, ht, hp⟩ R
    exact body C G ⟨htl, hm, hml, ho, fun w hw => hts w (List.mem_cons_of_mem _ hw), hE⟩ (by rw [hrm]; exact ⟨rfl, rfl⟩) (by rw [hrm]; exact ⟨rfl, rfl⟩) hl hnm u0 u1 u2 u3 u4 u5 S V ht hp (fun pc lo S' V' nc ns d q hc hs => R.1 rfl pc lo S' V' nc ns d ⟨u0, u1, u2, u3, u4, u5, rfl, rfl, q⟩ hc hs)
theorem d13_17_0 : decode b_13_17 0 = .ok (.iconst 0, 1) := by decide +kernel
theorem d13_17_1 : decode b_13_17 1 = .ok (.istore 6, 2) := by decide +kernel
theorem d13_17_3 : decode b_13_17 3 = .ok (.iload 6, 2) := by decide +kernel
theorem d13_17_5 : decode b_13_17 5 = .ok (.iload_n 1, 1) := by decide +kernel
theorem d13_17_6 : decode b_13_17 6 = .ok (.iconst 3, 1) := by decide +kernel
theorem d13_17_7 : decode b_13_17 7 = .ok (.if_icmp .ne 7, 3) := by decide +kernel
theorem d13_17_10 : decode b_13_17 10 = .ok (.iconst 4, 1) := by decide +kernel
theorem d13_17_11 : decode b_13_17 11 = .ok (.goto 4, 3) := by decide +kernel
theorem d13_17_14 : decode b_13_17 14 = .ok (.iconst 1, 1) := by decide +kernel
theorem d13_17_15 : decode b_13_17 15 = .ok (.if_icmp .ge 155, 3) := by decide +kernel
theorem d13_17_18 : decode b_13_17 18 = .ok (.iconst 0, 1) := by decide +kernel
theorem d13_17_19 : decode b_13_17 19 = .ok (.istore 7, 2) := by decide +kernel
theorem d13_17_21 : decode b_13_17 21 = .ok (.iload 7, 2) := by decide +kernel
theorem d13_17_23 : decode b_13_17 23 = .ok (.sipush 256, 3) := by decide +kernel
theorem d13_17_26 : decode b_13_17 26 = .ok (.if_icmp .ge 17, 3) := by decide +kernel
theorem d13_17_29 : decode b_13_17 29 = .ok (.aload_n 0, 1) := by decide +kernel
theorem d13_17_30 : decode b_13_17 30 = .ok (.getfield 26, 3) := by decide +kernel
theorem d13_17_33 : decode b_13_17 33 = .ok (.iload 7, 2) := by decide +kernel
theorem d13_17_35 : decode b_13_17 35 = .ok (.iconst 0, 1) := by decide +kernel
theorem d13_17_36 : decode b_13_17 36 = .ok (.iastore, 1) := by decide +kernel
theorem d13_17_37 : decode b_13_17 37 = .ok (.iinc 7 1, 3) := by decide +kernel
theorem d13_17_40 : decode b_13_17 40 = .ok (.goto (-19), 3) := by decide +kernel
theorem d13_17_43 : decode b_13_17 43 = .ok (.iconst 0, 1) := by decide +kernel
theorem d13_17_44 : decode b_13_17 44 = .ok (.istore 7, 2) := by decide +kernel
theorem d13_17_46 : decode b_13_17 46 = .ok (.iload 7, 2) := by decide +kernel
theorem d13_17_48 : decode b_13_17 48 = .ok (.aload_n 0, 1) := by decide +kernel
theorem d13_17_49 : decode b_13_17 49 = .ok (.getfield 10, 3) := by decide +kernel
theorem d13_17_52 : decode b_13_17 52 = .ok (.getfield 86, 3) := by decide +kernel
theorem d13_17_55 : decode b_13_17 55 = .ok (.iload_n 3, 1) := by decide +kernel
theorem d13_17_56 : decode b_13_17 56 = .ok (.iaload, 1) := by decide +kernel
theorem d13_17_57 : decode b_13_17 57 = .ok (.if_icmp .ge 61, 3) := by decide +kernel
theorem d13_17_60 : decode b_13_17 60 = .ok (.iload_n 1, 1) := by decide +kernel
theorem d13_17_61 : decode b_13_17 61 = .ok (.iconst 3, 1) := by decide +kernel
theorem d13_17_62 : decode b_13_17 62 = .ok (.if_icmp .ne 25, 3) := by decide +kernel
theorem d13_17_65 : decode b_13_17 65 = .ok (.aload_n 0, 1) := by decide +kernel
theorem d13_17_66 : decode b_13_17 66 = .ok (.getfield 10, 3) := by decide +kernel
theorem d13_17_69 : decode b_13_17 69 = .ok (.getfield 89, 3) := by decide +kernel
theorem d13_17_72 : decode b_13_17 72 = .ok (.sipush 400, 3) := by decide +kernel
theorem d13_17_75 : decode b_13_17 75 = .ok (.iload_n 3, 1) := by decide +kernel
theorem d13_17_76 : decode b_13_17 76 = .ok (.imul, 1) := by decide +kernel
theorem d13_17_77 : decode b_13_17 77 = .ok (.iload 7, 2) := by decide +kernel
theorem d13_17_79 : decode b_13_17 79 = .ok (.invokestatic 125, 3) := by decide +kernel
theorem d13_17_82 : decode b_13_17 82 = .ok (.iload 6, 2) := by decide +kernel
theorem d13_17_84 : decode b_13_17 84 = .ok (.if_icmp .ne 28, 3) := by decide +kernel
theorem d13_17_87 : decode b_13_17 87 = .ok (.aload_n 0, 1) := by decide +kernel
theorem d13_17_88 : decode b_13_17 88 = .ok (.getfield 26, 3) := by decide +kernel
theorem d13_17_91 : decode b_13_17 91 = .ok (.aload_n 0, 1) := by decide +kernel
theorem d13_17_92 : decode b_13_17 92 = .ok (.getfield 10, 3) := by decide +kernel
theorem d13_17_95 : decode b_13_17 95 = .ok (.getfield 89, 3) := by decide +kernel
theorem d13_17_98 : decode b_13_17 98 = .ok (.sipush 400, 3) := by decide +kernel
theorem d13_17_101 : decode b_13_17 101 = .ok (.iload_n 3, 1) := by decide +kernel
theorem d13_17_102 : decode b_13_17 102 = .ok (.imul, 1) := by decide +kernel
theorem d13_17_103 : decode b_13_17 103 = .ok (.iload 7, 2) := by decide +kernel
theorem d13_17_105 : decode b_13_17 105 = .ok (.iadd, 1) := by decide +kernel
theorem d13_17_106 : decode b_13_17 106 = .ok (.iaload, 1) := by decide +kernel
theorem d13_17_107 : decode b_13_17 107 = .ok (.dup2, 1) := by decide +kernel
theorem d13_17_108 : decode b_13_17 108 = .ok (.iaload, 1) := by decide +kernel
theorem d13_17_109 : decode b_13_17 109 = .ok (.iconst 1, 1) := by decide +kernel
theorem d13_17_110 : decode b_13_17 110 = .ok (.iadd, 1) := by decide +kernel
theorem d13_17_111 : decode b_13_17 111 = .ok (.iastore, 1) := by decide +kernel
theorem d13_17_112 : decode b_13_17 112 = .ok (.iinc 7 1, 3) := by decide +kernel
theorem d13_17_115 : decode b_13_17 115 = .ok (.goto (-69), 3) := by decide +kernel
theorem d13_17_118 : decode b_13_17 118 = .ok (.aload_n 0, 1) := by decide +kernel
theorem d13_17_119 : decode b_13_17 119 = .ok (.iconst 1, 1) := by decide +kernel
theorem d13_17_120 : decode b_13_17 120 = .ok (.iload_n 2, 1) := by decide +kernel
theorem d13_17_121 : decode b_13_17 121 = .ok (.ishl, 1) := by decide +kernel
theorem d13_17_122 : decode b_13_17 122 = .ok (.invokevirtual 129, 3) := by decide +kernel
theorem d13_17_125 : decode b_13_17 125 = .ok (.iconst 0, 1) := by decide +kernel
theorem d13_17_126 : decode b_13_17 126 = .ok (.istore 7, 2) := by decide +kernel
theorem d13_17_128 : decode b_13_17 128 = .ok (.iload 7, 2) := by decide +kernel
theorem d13_17_130 : decode b_13_17 130 = .ok (.sipush 256, 3) := by decide +kernel
theorem d13_17_133 : decode b_13_17 133 = .ok (.if_icmp .ge 31, 3) := by decide +kernel
theorem d13_17_136 : decode b_13_17 136 = .ok (.aload 4, 2) := by decide +kernel
theorem d13_17_138 : decode b_13_17 138 = .ok (.iload 5, 2) := by decide +kernel
theorem d13_17_140 : decode b_13_17 140 = .ok (.sipush 256, 3) := by decide +kernel
theorem d13_17_143 : decode b_13_17 143 = .ok (.iload 6, 2) := by decide +kernel
theorem d13_17_145 : decode b_13_17 145 = .ok (.imul, 1) := by decide +kernel
theorem d13_17_146 : decode b_13_17 146 = .ok (.iadd, 1) := by decide +kernel
theorem d13_17_147 : decode b_13_17 147 = .ok (.iload 7, 2) := by decide +kernel
theorem d13_17_149 : decode b_13_17 149 = .ok (.iadd, 1) := by decide +kernel
theorem d13_17_150 : decode b_13_17 150 = .ok (.aload_n 0, 1) := by decide +kernel
theorem d13_17_151 : decode b_13_17 151 = .ok (.getfield 29, 3) := by decide +kernel
theorem d13_17_154 : decode b_13_17 154 = .ok (.iload 7, 2) := by decide +kernel
theorem d13_17_156 : decode b_13_17 156 = .ok (.iaload, 1) := by decide +kernel
theorem d13_17_157 : decode b_13_17 157 = .ok (.iastore, 1) := by decide +kernel
theorem d13_17_158 : decode b_13_17 158 = .ok (.iinc 7 1, 3) := by decide +kernel
theorem d13_17_161 : decode b_13_17 161 = .ok (.goto (-33), 3) := by decide +kernel
theorem d13_17_164 : decode b_13_17 164 = .ok (.iinc 6 1, 3) := by decide +kernel
theorem d13_17_167 : decode b_13_17 167 = .ok (.goto (-164), 3) := by decide +kernel
theorem d13_17_170 : decode b_13_17 170 = .ok (.return_, 1) := by decide +kernel
theorem K13_17_79 {C : qCx} {G : jG} {mc ms : Nat} {p : Int → Int → Int → jS → jH → Prop} {q : Int → Int → Int → jS → jH → Int → jS → jH → Prop} (h : x13_17 C G) (hrm : C.2.2.2.1.frames = 2 ∧ C.2.2.2.1.locals = 54) (hM : M13_16 C.2.1 mc ms p q) : j_Call C b_13_17 n_KT G.1 G.2.1 8 (.invokestatic 125) mc ms (fun a S V => ∃ u0 u1 u2 : Int, a = [(2, u0), (0, u1), (0, u2)] ∧ p u0 u1 u2 S V) (fun a S V rs S' V' => ∃ u0 u1 u2 r : Int, a = [(2, u0), (0, u1), (0, u2)] ∧ rs = [(0, r)] ∧ q u0 u1 u2 S V r S' V') := j_callS n_NWk h.2.2.2.2.2 h.1 hM ⟨h.2.1.1, h.2.1.2, h.2.2.1, h.2.2.2.1, h.2.2.2.2.1⟩ ⟨n_CB (y := y_13_16) (bytes := b_13_16) 3 h.2.2.2.2.1 n_w975 n_w973 n_w12 ⟨by decide, by decide, by decide +kernel⟩ rfl rfl ⟨by rw [hrm.1]; exact Nat.le_of_ble_eq_true rfl, by rw [hrm.2]; exact Nat.le_of_ble_eq_true rfl⟩, h.2.2.2.2.1 _ n_w974⟩ (fun a S V hP => by obtain ⟨u0, u1, u2, rfl, -⟩ := hP; rfl)
theorem K13_17_122 {C : qCx} {G : jG} {mc ms : Nat} {p : Int → Int → jS → jH → Prop} {q : Int → Int → jS → jH → jS → jH → Prop} (h : x13_17 C G) (hrm : C.2.2.2.1.frames = 2 ∧ C.2.2.2.1.locals = 54) (hM : M13_15 C.2.1 mc ms p q) : j_Call C b_13_17 n_KT G.1 G.2.1 8 (.invokevirtual 129) mc ms (fun a S V => ∃ u0 u1 : Int, a = [(2, u0), (0, u1)] ∧ S.1 u0 = 33 ∧ p u0 u1 S V) (fun a S V rs S' V' => ∃ u0 u1 : Int, a = [(2, u0), (0, u1)] ∧ rs = [] ∧ q u0 u1 S V S' V') := j_callV n_NWk h.2.2.2.2.2 h.1 hM ⟨h.2.1.1, h.2.1.2, h.2.2.1, h.2.2.2.1, h.2.2.2.2.1⟩ ⟨n_CB (y := y_13_15) (bytes := b_13_15) 1 h.2.2.2.2.1 n_w979 n_w976 n_w12 ⟨by decide, by decide, by decide +kernel⟩ rfl rfl ⟨by rw [hrm.1]; exact Nat.le_of_ble_eq_true rfl, by rw [hrm.2]; exact Nat.le_of_ble_eq_true rfl⟩, h.2.2.2.2.1 _ n_w978, h.2.2.2.2.1 _ n_s32⟩ (Cn := RX12) (fun a S V hP => by obtain ⟨u0, u1, rfl, e, -⟩ := hP; exact ⟨u0, _, 12, _, _, TX12, 31, rfl, rfl, by rw [e]; decide, by rw [e]; rfl, rfl⟩)
theorem t13_17_0 {C : qCx} {G : jG} {S : jS} {V : jH} {nc ns : Nat} {l0 l1 l2 l3 l4 l5 : Int} (h : x13_17 C G)  (k : j_ok n_KT 8 C G 3 [(0, (2, l0)), (1, (0, l1)), (2, (0, l2)), (3, (0, l3)), (4, (2, l4)), (5, (0, l5)), (6, (0, 0))] [] S V nc ns) : j_ok n_KT 8 C G 0 [(0, (2, l0)), (1, (0, l1)), (2, (0, l2)), (3, (0, l3)), (4, (2, l4)), (5, (0, l5))] [] S V nc ns := by
  have E := n_E h
  refine j_iconst E d13_17_0 (by decide) ?_
  refine j_istore E d13_17_1 (by decide) (lo1 := [(0, (2, l0)), (1, (0, l1)), (2, (0, l2)), (3, (0, l3)), (4, (2, l4)), (5, (0, l5))]) rfl ?_
  exact j_pick [1, 2, 3, 4, 5, 6, 0] rfl k
theorem t13_17_3 {C : qCx} {G : jG} {S : jS} {V : jH} {nc ns : Nat} {l0 l1 l2 l3 l4 l5 l6 : Int} (h : x13_17 C G)  (k : ¬ l1 = 3 → j_ok n_KT 8 C G 14 [(0, (2, l0)), (1, (0, l1)), (2, (0, l2)), (3, (0, l3)), (4, (2, l4)), (5, (0, l5)), (6, (0, l6))] [(0, l6)] S V nc ns) (k' : l1 = 3 → j_ok n_KT 8 C G 10 [(0, (2, l0)), (1, (0, l1)), (2, (0, l2)), (3, (0, l3)), (4, (2, l4)), (5, (0, l5)), (6, (0, l6))] [(0, l6)] S V nc ns) : j_ok n_KT 8 C G 3 [(0, (2, l0)), (1, (0, l1)), (2, (0, l2)), (3, (0, l3)), (4, (2, l4)), (5, (0, l5)), (6, (0, l6))] [] S V nc ns := by
  have E := n_E h
  refine j_iload E d13_17_3 6 rfl ?_
  refine j_iload_n E d13_17_5 rfl 1 rfl ?_
  refine j_iconst E d13_17_6 (by decide) ?_
  exact j_icmp_ne E d13_17_7 (t := 14) rfl (fun q => j_pick [0, 1, 2, 3, 4, 5, 6] rfl (k q)) (fun q => j_pick [0, 1, 2, 3, 4, 5, 6] rfl (k' q))
theorem t13_17_10 {C : qCx} {G : jG} {S : jS} {V : jH} {nc ns : Nat} {l0 l1 l2 l3 l4 l5 l6 s0 : Int} (h : x13_17 C G)  (k : j_ok n_KT 8 C G 15 [(0, (2, l0)), (1, (0, l1)), (2, (0, l2)), (3, (0, l3)), (4, (2, l4)), (5, (0, l5)), (6, (0, l6))] [(0, 4), (0, s0)] S V nc ns) : j_ok n_KT 8 C G 10 [(0, (2, l0)), (1, (0, l1)), (2, (0, l2)), (3, (0, l3)), (4, (2, l4)), (5, (0, l5)), (6, (0, l6))] [(0, s0)] S V nc ns := by
  have E := n_E h
  refine j_iconst E d13_17_10 (by decide) ?_
  refine j_goto E d13_17_11 (t := 15) rfl ?_
  exact j_pick [0, 1, 2, 3, 4, 5, 6] rfl k
theorem t13_17_14 {C : qCx} {G : jG} {S : jS} {V : jH} {nc ns : Nat} {l0 l1 l2 l3 l4 l5 l6 s0 : Int} (h : x13_17 C G)  (k : j_ok n_KT 8 C G 15 [(0, (2, l0)), (1, (0, l1)), (2, (0, l2)), (3, (0, l3)), (4, (2, l4)), (5, (0, l5)), (6, (0, l6))] [(0, 1), (0, s0)] S V nc ns) : j_ok n_KT 8 C G 14 [(0, (2, l0)), (1, (0, l1)), (2, (0, l2)), (3, (0, l3)), (4, (2, l4)), (5, (0, l5)), (6, (0, l6))] [(0, s0)] S V nc ns := by
  have E := n_E h
  refine j_iconst E d13_17_14 (by decide) ?_
  exact j_pick [0, 1, 2, 3, 4, 5, 6] rfl k
theorem t13_17_15 {C : qCx} {G : jG} {S : jS} {V : jH} {nc ns : Nat} {l0 l1 l2 l3 l4 l5 l6 s0 s1 : Int} (h : x13_17 C G)  (k : s0 ≤ s1 → j_ok n_KT 8 C G 170 [] [] S V nc ns) (k' : s1 < s0 → j_ok n_KT 8 C G 18 [(0, (2, l0)), (1, (0, l1)), (2, (0, l2)), (3, (0, l3)), (4, (2, l4)), (5, (0, l5)), (6, (0, l6))] [] S V nc ns) : j_ok n_KT 8 C G 15 [(0, (2, l0)), (1, (0, l1)), (2, (0, l2)), (3, (0, l3)), (4, (2, l4)), (5, (0, l5)), (6, (0, l6))] [(0, s0), (0, s1)] S V nc ns := by
  have E := n_E h
  exact j_icmp_ge E d13_17_15 (t := 170) rfl (fun q => j_pick [] rfl (k q)) (fun q => j_pick [0, 1, 2, 3, 4, 5, 6] rfl (k' q))
theorem t13_17_18 {C : qCx} {G : jG} {S : jS} {V : jH} {nc ns : Nat} {l0 l1 l2 l3 l4 l5 l6 : Int} (h : x13_17 C G)  (k : j_ok n_KT 8 C G 21 [(0, (2, l0)), (1, (0, l1)), (2, (0, l2)), (3, (0, l3)), (4, (2, l4)), (5, (0, l5)), (6, (0, l6)), (7, (0, 0))] [] S V nc ns) : j_ok n_KT 8 C G 18 [(0, (2, l0)), (1, (0, l1)), (2, (0, l2)), (3, (0, l3)), (4, (2, l4)), (5, (0, l5)), (6, (0, l6))] [] S V nc ns := by
  have E := n_E h
  refine j_iconst E d13_17_18 (by decide) ?_
  refine j_istore E d13_17_19 (by decide) (lo1 := [(0, (2, l0)), (1, (0, l1)), (2, (0, l2)), (3, (0, l3)), (4, (2, l4)), (5, (0, l5)), (6, (0, l6))]) rfl ?_
  exact j_pick [1, 2, 3, 4, 5, 6, 7, 0] rfl k
theorem t13_17_21 {C : qCx} {G : jG} {S : jS} {V : jH} {nc ns : Nat} {l0 l1 l2 l3 l4 l5 l6 l7 : Int} (h : x13_17 C G)  (k : 256 ≤ l7 → j_ok n_KT 8 C G 43 [(0, (2, l0)), (1, (0, l1)), (2, (0, l2)), (3, (0, l3)), (4, (2, l4)), (5, (0, l5)), (6, (0, l6))] [] S V nc ns) (k' : l7 < 256 → j_ok n_KT 8 C G 29 [(0, (2, l0)), (1, (0, l1)), (2, (0, l2)), (3, (0, l3)), (4, (2, l4)), (5, (0, l5)), (6, (0, l6)), (7, (0, l7))] [] S V nc ns) : j_ok n_KT 8 C G 21 [(0, (2, l0)), (1, (0, l1)), (2, (0, l2)), (3, (0, l3)), (4, (2, l4)), (5, (0, l5)), (6, (0, l6)), (7, (0, l7))] [] S V nc ns := by
  have E := n_E h
  refine j_iload E d13_17_21 7 rfl ?_
  refine j_sipush E d13_17_23 (by decide) ?_
  exact j_icmp_ge E d13_17_26 (t := 43) rfl (fun q => j_pick [0, 1, 2, 3, 4, 5, 6] rfl (k q)) (fun q => j_pick [0, 1, 2, 3, 4, 5, 6, 7] rfl (k' q))
theorem t13_17_29 {C : qCx} {G : jG} {S : jS} {V : jH} {nc ns : Nat} {l0 l1 l2 l3 l4 l5 l6 l7 : Int} (h : x13_17 C G) (L : j_L S) (c1 : S.1 l0 = 33) (c2 : 0 ≤ l7) (c3 : l7 < 256) (c4 : -2147483648 ≤ l7 + 1 ∧ l7 + 1 ≤ 2147483647) (k : j_ok n_KT 8 C G 21 [(0, (2, l0)), (1, (0, l1)), (2, (0, l2)), (3, (0, l3)), (4, (2, l4)), (5, (0, l5)), (6, (0, l6)), (7, (0, l7 + 1))] [] S (j_up V (l0 + 19) l7 0) nc ns) : j_ok n_KT 8 C G 29 [(0, (2, l0)), (1, (0, l1)), (2, (0, l2)), (3, (0, l3)), (4, (2, l4)), (5, (0, l5)), (6, (0, l6)), (7, (0, l7))] [] S V nc ns := by
  have E := n_E h
  refine j_aload_n E d13_17_29 rfl 0 rfl ?_
  refine j_getS (f := 7) (x := l0 + 19) (fg12_26 h) d13_17_30 c1 (by decide) rfl rfl ((L12_7 L c1).trans (by omega)) ?_
  refine j_iload E d13_17_33 7 rfl ?_
  refine j_iconst E d13_17_35 (by decide) ?_
  refine j_iast E d13_17_36 (j_arr_of (show S.1 (l0 + 19) = 3 from (by have q := L12_7k L c1; rw [show l0 + 19 = l0 + 19 by omega]; exact q)) (by decide) rfl) c2 c3 ?_
  refine j_iinc E d13_17_37 (by decide) (by decide) 7 rfl (lo1 := [(0, (2, l0)), (1, (0, l1)), (2, (0, l2)), (3, (0, l3)), (4, (2, l4)), (5, (0, l5)), (6, (0, l6))]) rfl c4 ?_
  refine j_goto E d13_17_40 (t := 21) rfl ?_
  exact j_pick [1, 2, 3, 4, 5, 6, 7, 0] rfl k
theorem t13_17_43 {C : qCx} {G : jG} {S : jS} {V : jH} {nc ns : Nat} {l0 l1 l2 l3 l4 l5 l6 : Int} (h : x13_17 C G)  (k : j_ok n_KT 8 C G 46 [(0, (2, l0)), (1, (0, l1)), (2, (0, l2)), (3, (0, l3)), (4, (2, l4)), (5, (0, l5)), (6, (0, l6)), (7, (0, 0))] [] S V nc ns) : j_ok n_KT 8 C G 43 [(0, (2, l0)), (1, (0, l1)), (2, (0, l2)), (3, (0, l3)), (4, (2, l4)), (5, (0, l5)), (6, (0, l6))] [] S V nc ns := by
  have E := n_E h
  refine j_iconst E d13_17_43 (by decide) ?_
  refine j_istore E d13_17_44 (by decide) (lo1 := [(0, (2, l0)), (1, (0, l1)), (2, (0, l2)), (3, (0, l3)), (4, (2, l4)), (5, (0, l5)), (6, (0, l6))]) rfl ?_
  exact j_pick [1, 2, 3, 4, 5, 6, 7, 0] rfl k
theorem t13_17_46 {C : qCx} {G : jG} {S : jS} {V : jH} {nc ns : Nat} {l0 l1 l2 l3 l4 l5 l6 l7 : Int} (h : x13_17 C G) (L : j_L S) (c1 : S.1 l0 = 33) (c2 : 0 ≤ l3) (c3 : l3 < 6) (k : V (l0 + 2) l3 ≤ l7 → j_ok n_KT 8 C G 118 [(0, (2, l0)), (1, (0, l1)), (2, (0, l2)), (3, (0, l3)), (4, (2, l4)), (5, (0, l5)), (6, (0, l6))] [] S V nc ns) (k' : l7 < V (l0 + 2) l3 → j_ok n_KT 8 C G 60 [(0, (2, l0)), (1, (0, l1)), (2, (0, l2)), (3, (0, l3)), (4, (2, l4)), (5, (0, l5)), (6, (0, l6)), (7, (0, l7))] [] S V nc ns) : j_ok n_KT 8 C G 46 [(0, (2, l0)), (1, (0, l1)), (2, (0, l2)), (3, (0, l3)), (4, (2, l4)), (5, (0, l5)), (6, (0, l6)), (7, (0, l7))] [] S V nc ns := by
  have E := n_E h
  refine j_iload E d13_17_46 7 rfl ?_
  refine j_aload_n E d13_17_48 rfl 0 rfl ?_
  refine j_getS (f := 0) (x := l0 + 1) (fg12_10 h) d13_17_49 c1 (by decide) rfl rfl ((L12_0 L c1).trans (by omega)) ?_
  refine j_getS (f := 0) (x := l0 + 2) (fg12_86 h) d13_17_52 (show S.1 (l0 + 1) = 32 from (by have q := L12_0k L c1; rw [show l0 + 1 = l0 + 1 by omega]; exact q)) (by decide) rfl rfl ((L11_0 L (show S.1 (l0 + 1) = 32 from (by have q := L12_0k L c1; rw [show l0 + 1 = l0 + 1 by omega]; exact q))).trans (by omega)) ?_
  refine j_iload_n E d13_17_55 rfl 3 rfl ?_
  refine j_iald E d13_17_56 (j_arr_of (show S.1 (l0 + 2) = 8 from (by have q := L11_0k L (show S.1 (l0 + 1) = 32 from (by have q := L12_0k L c1; rw [show l0 + 1 = l0 + 1 by omega]; exact q)); rw [show l0 + 2 = (l0 + 1) + 1 by omega]; exact q)) (by decide) rfl) c2 c3 ?_
  exact j_icmp_ge E d13_17_57 (t := 118) rfl (fun q => j_pick [0, 1, 2, 3, 4, 5, 6] rfl (k q)) (fun q => j_pick [0, 1, 2, 3, 4, 5, 6, 7] rfl (k' q))
theorem t13_17_60 {C : qCx} {G : jG} {S : jS} {V : jH} {nc ns : Nat} {l0 l1 l2 l3 l4 l5 l6 l7 : Int} (h : x13_17 C G)  (k : ¬ l1 = 3 → j_ok n_KT 8 C G 87 [(0, (2, l0)), (1, (0, l1)), (2, (0, l2)), (3, (0, l3)), (4, (2, l4)), (5, (0, l5)), (6, (0, l6)), (7, (0, l7))] [] S V nc ns) (k' : l1 = 3 → j_ok n_KT 8 C G 65 [(0, (2, l0)), (1, (0, l1)), (2, (0, l2)), (3, (0, l3)), (4, (2, l4)), (5, (0, l5)), (6, (0, l6)), (7, (0, l7))] [] S V nc ns) : j_ok n_KT 8 C G 60 [(0, (2, l0)), (1, (0, l1)), (2, (0, l2)), (3, (0, l3)), (4, (2, l4)), (5, (0, l5)), (6, (0, l6)), (7, (0, l7))] [] S V nc ns := by
  have E := n_E h
  refine j_iload_n E d13_17_60 rfl 1 rfl ?_
  refine j_iconst E d13_17_61 (by decide) ?_
  exact j_icmp_ne E d13_17_62 (t := 87) rfl (fun q => j_pick [0, 1, 2, 3, 4, 5, 6, 7] rfl (k q)) (fun q => j_pick [0, 1, 2, 3, 4, 5, 6, 7] rfl (k' q))
theorem t13_17_65 {C : qCx} {G : jG} {S : jS} {V : jH} {nc ns : Nat} {l0 l1 l2 l3 l4 l5 l6 l7 : Int} {mc ms : Nat} {pp : Int → Int → Int → jS → jH → Prop} {qq : Int → Int → Int → jS → jH → Int → jS → jH → Prop} (h : x13_17 C G) (L : j_L S) (hrm : C.2.2.2.1.frames = 2 ∧ C.2.2.2.1.locals = 54) (c1 : S.1 l0 = 33) (c2 : -2147483648 ≤ 400 * l3 ∧ 400 * l3 ≤ 2147483647) (hM : M13_16 C.2.1 mc ms pp qq) (hp : pp (l0 + 3) (400 * l3) l7 S V) (hc : nc + mc ≤ C.2.2.2.1.cells) (hs : ns + ms ≤ C.2.2.2.1.slots) (k : ∀ (r : Int) (S' : jS) (V' : jH), qq (l0 + 3) (400 * l3) l7 S V r S' V' → j_ok n_KT 8 C G 82 [(0, (2, l0)), (1, (0, l1)), (2, (0, l2)), (3, (0, l3)), (4, (2, l4)), (5, (0, l5)), (6, (0, l6)), (7, (0, l7))] [(0, r)] S' V' (nc + mc) (ns + ms)) : j_ok n_KT 8 C G 65 [(0, (2, l0)), (1, (0, l1)), (2, (0, l2)), (3, (0, l3)), (4, (2, l4)), (5, (0, l5)), (6, (0, l6)), (7, (0, l7))] [] S V nc ns := by
  have E := n_E h
  refine j_aload_n E d13_17_65 rfl 0 rfl ?_
  refine j_getS (f := 0) (x := l0 + 1) (fg12_10 h) d13_17_66 c1 (by decide) rfl rfl ((L12_0 L c1).trans (by omega)) ?_
  refine j_getS (f := 1) (x := l0 + 3) (fg12_89 h) d13_17_69 (show S.1 (l0 + 1) = 32 from (by have q := L12_0k L c1; rw [show l0 + 1 = l0 + 1 by omega]; exact q)) (by decide) rfl rfl ((L11_1 L (show S.1 (l0 + 1) = 32 from (by have q := L12_0k L c1; rw [show l0 + 1 = l0 + 1 by omega]; exact q))).trans (by omega)) ?_
  refine j_sipush E d13_17_72 (by decide) ?_
  refine j_iload_n E d13_17_75 rfl 3 rfl ?_
  refine j_imul E d13_17_76 c2 ?_
  refine j_iload E d13_17_77 7 rfl ?_
  refine j_call E (K13_17_79 h hrm hM) d13_17_79 (a := [(2, l0 + 3), (0, 400 * l3), (0, l7)]) (sk := []) rfl ⟨l0 + 3, 400 * l3, l7, rfl, hp⟩ (Nat.le_of_ble_eq_true rfl) hc hs ?_
  rintro rs S' V' ⟨z0, z1, z2, r, e1, rfl, q⟩
  simp only [List.cons.injEq, Prod.mk.injEq, and_true, true_and] at e1
  obtain ⟨rfl, rfl, rfl⟩ := e1
  exact j_pick [0, 1, 2, 3, 4, 5, 6, 7] rfl (k r S' V' q)
theorem t13_17_82 {C : qCx} {G : jG} {S : jS} {V : jH} {nc ns : Nat} {l0 l1 l2 l3 l4 l5 l6 l7 s0 : Int} (h : x13_17 C G)  (k : ¬ s0 = l6 → j_ok n_KT 8 C G 112 [(0, (2, l0)), (1, (0, l1)), (2, (0, l2)), (3, (0, l3)), (4, (2, l4)), (5, (0, l5)), (6, (0, l6)), (7, (0, l7))] [] S V nc ns) (k' : s0 = l6 → j_ok n_KT 8 C G 87 [(0, (2, l0)), (1, (0, l1)), (2, (0, l2)), (3, (0, l3)), (4, (2, l4)), (5, (0, l5)), (6, (0, l6)), (7, (0, l7))] [] S V nc ns) : j_ok n_KT 8 C G 82 [(0, (2, l0)), (1, (0, l1)), (2, (0, l2)), (3, (0, l3)), (4, (2, l4)), (5, (0, l5)), (6, (0, l6)), (7, (0, l7))] [(0, s0)] S V nc ns := by
  have E := n_E h
  refine j_iload E d13_17_82 6 rfl ?_
  exact j_icmp_ne E d13_17_84 (t := 112) rfl (fun q => j_pick [0, 1, 2, 3, 4, 5, 6, 7] rfl (k q)) (fun q => j_pick [0, 1, 2, 3, 4, 5, 6, 7] rfl (k' q))
theorem t13_17_87 {C : qCx} {G : jG} {S : jS} {V : jH} {nc ns : Nat} {l0 l1 l2 l3 l4 l5 l6 l7 : Int} (h : x13_17 C G) (L : j_L S) (c1 : S.1 l0 = 33) (c2 : -2147483648 ≤ 400 * l3 ∧ 400 * l3 ≤ 2147483647) (c3 : -2147483648 ≤ (400 * l3) + l7 ∧ (400 * l3) + l7 ≤ 2147483647) (c4 : 0 ≤ (400 * l3) + l7) (c5 : (400 * l3) + l7 < 2400) (c6 : 0 ≤ V (l0 + 3) ((400 * l3) + l7)) (c7 : V (l0 + 3) ((400 * l3) + l7) < 256) (c8 : -2147483648 ≤ (V (l0 + 19) (V (l0 + 3) ((400 * l3) + l7))) + 1 ∧ (V (l0 + 19) (V (l0 + 3) ((400 * l3) + l7))) + 1 ≤ 2147483647) (k : j_ok n_KT 8 C G 112 [(0, (2, l0)), (1, (0, l1)), (2, (0, l2)), (3, (0, l3)), (4, (2, l4)), (5, (0, l5)), (6, (0, l6)), (7, (0, l7))] [] S (j_up V (l0 + 19) (V (l0 + 3) ((400 * l3) + l7)) ((V (l0 + 19) (V (l0 + 3) ((400 * l3) + l7))) + 1)) nc ns) : j_ok n_KT 8 C G 87 [(0, (2, l0)), (1, (0, l1)), (2, (0, l2)), (3, (0, l3)), (4, (2, l4)), (5, (0, l5)), (6, (0, l6)), (7, (0, l7))] [] S V nc ns := by
  have E := n_E h
  refine j_aload_n E d13_17_87 rfl 0 rfl ?_
  refine j_getS (f := 7) (x := l0 + 19) (fg12_26 h) d13_17_88 c1 (by decide) rfl rfl ((L12_7 L c1).trans (by omega)) ?_
  refine j_aload_n E d13_17_91 rfl 0 rfl ?_
  refine j_getS (f := 0) (x := l0 + 1) (fg12_10 h) d13_17_92 c1 (by decide) rfl rfl ((L12_0 L c1).trans (by omega)) ?_
  refine j_getS (f := 1) (x := l0 + 3) (fg12_89 h) d13_17_95 (show S.1 (l0 + 1) = 32 from (by have q := L12_0k L c1; rw [show l0 + 1 = l0 + 1 by omega]; exact q)) (by decide) rfl rfl ((L11_1 L (show S.1 (l0 + 1) = 32 from (by have q := L12_0k L c1; rw [show l0 + 1 = l0 + 1 by omega]; exact q))).trans (by omega)) ?_
  refine j_sipush E d13_17_98 (by decide) ?_
  refine j_iload_n E d13_17_101 rfl 3 rfl ?_
  refine j_imul E d13_17_102 c2 ?_
  refine j_iload E d13_17_103 7 rfl ?_
  refine j_iadd E d13_17_105 c3 ?_
  refine j_iald E d13_17_106 (j_arr_of (show S.1 (l0 + 3) = 9 from (by have q := L11_1k L (show S.1 (l0 + 1) = 32 from (by have q := L12_0k L c1; rw [show l0 + 1 = l0 + 1 by omega]; exact q)); rw [show l0 + 3 = (l0 + 1) + 2 by omega]; exact q)) (by decide) rfl) c4 c5 ?_
  refine j_dup2 E d13_17_107 rfl rfl ?_
  refine j_iald E d13_17_108 (j_arr_of (show S.1 (l0 + 19) = 3 from (by have q := L12_7k L c1; rw [show l0 + 19 = l0 + 19 by omega]; exact q)) (by decide) rfl) c6 c7 ?_
  refine j_iconst E d13_17_109 (by decide) ?_
  refine j_iadd E d13_17_110 c8 ?_
  refine j_iast E d13_17_111 (j_arr_of (show S.1 (l0 + 19) = 3 from (by have q := L12_7k L c1; rw [show l0 + 19 = l0 + 19 by omega]; exact q)) (by decide) rfl) c6 c7 ?_
  exact j_pick [0, 1, 2, 3, 4, 5, 6, 7] rfl k
theorem t13_17_112 {C : qCx} {G : jG} {S : jS} {V : jH} {nc ns : Nat} {l0 l1 l2 l3 l4 l5 l6 l7 : Int} (h : x13_17 C G) (c1 : -2147483648 ≤ l7 + 1 ∧ l7 + 1 ≤ 2147483647) (k : j_ok n_KT 8 C G 46 [(0, (2, l0)), (1, (0, l1)), (2, (0, l2)), (3, (0, l3)), (4, (2, l4)), (5, (0, l5)), (6, (0, l6)), (7, (0, l7 + 1))] [] S V nc ns) : j_ok n_KT 8 C G 112 [(0, (2, l0)), (1, (0, l1)), (2, (0, l2)), (3, (0, l3)), (4, (2, l4)), (5, (0, l5)), (6, (0, l6)), (7, (0, l7))] [] S V nc ns := by
  have E := n_E h
  refine j_iinc E d13_17_112 (by decide) (by decide) 7 rfl (lo1 := [(0, (2, l0)), (1, (0, l1)), (2, (0, l2)), (3, (0, l3)), (4, (2, l4)), (5, (0, l5)), (6, (0, l6))]) rfl c1 ?_
  refine j_goto E d13_17_115 (t := 46) rfl ?_
  exact j_pick [1, 2, 3, 4, 5, 6, 7, 0] rfl k
theorem t13_17_118 {C : qCx} {G : jG} {S : jS} {V : jH} {nc ns : Nat} {l0 l1 l2 l3 l4 l5 l6 : Int} {mc ms : Nat} {pp : Int → Int → jS → jH → Prop} {qq : Int → Int → jS → jH → jS → jH → Prop} (h : x13_17 C G) (hrm : C.2.2.2.1.frames = 2 ∧ C.2.2.2.1.locals = 54) (c1 : 0 ≤ l2) (c2 : l2 ≤ 30) (c3 : S.1 l0 = 33) (hM : M13_15 C.2.1 mc ms pp qq) (hp : pp l0 (2 ^ (l2).toNat) S V) (hc : nc + mc ≤ C.2.2.2.1.cells) (hs : ns + ms ≤ C.2.2.2.1.slots) (k : ∀ (S' : jS) (V' : jH), qq l0 (2 ^ (l2).toNat) S V S' V' → j_ok n_KT 8 C G 125 [(0, (2, l0)), (1, (0, l1)), (2, (0, l2)), (3, (0, l3)), (4, (2, l4)), (5, (0, l5)), (6, (0, l6))] [] S' V' (nc + mc) (ns + ms)) : j_ok n_KT 8 C G 118 [(0, (2, l0)), (1, (0, l1)), (2, (0, l2)), (3, (0, l3)), (4, (2, l4)), (5, (0, l5)), (6, (0, l6))] [] S V nc ns := by
  have E := n_E h
  refine j_aload_n E d13_17_118 rfl 0 rfl ?_
  refine j_iconst E d13_17_119 (by decide) ?_
  refine j_iload_n E d13_17_120 rfl 2 rfl ?_
  refine j_ishl1 E d13_17_121 rfl c1 c2 ?_
  refine j_call E (K13_17_122 h hrm hM) d13_17_122 (a := [(2, l0), (0, 2 ^ (l2).toNat)]) (sk := []) rfl ⟨l0, 2 ^ (l2).toNat, rfl, c3, hp⟩ (Nat.le_of_ble_eq_true rfl) hc hs ?_
  rintro rs S' V' ⟨z0, z1, e1, rfl, q⟩
  simp only [List.cons.injEq, Prod.mk.injEq, and_true, true_and] at e1
  obtain ⟨rfl, rfl⟩ := e1
  exact j_pick [0, 1, 2, 3, 4, 5, 6] rfl (k S' V' q)
theorem t13_17_125 {C : qCx} {G : jG} {S : jS} {V : jH} {nc ns : Nat} {l0 l1 l2 l3 l4 l5 l6 : Int} (h : x13_17 C G)  (k : j_ok n_KT 8 C G 128 [(0, (2, l0)), (1, (0, l1)), (2, (0, l2)), (3, (0, l3)), (4, (2, l4)), (5, (0, l5)), (6, (0, l6)), (7, (0, 0))] [] S V nc ns) : j_ok n_KT 8 C G 125 [(0, (2, l0)), (1, (0, l1)), (2, (0, l2)), (3, (0, l3)), (4, (2, l4)), (5, (0, l5)), (6, (0, l6))] [] S V nc ns := by
  have E := n_E h
  refine j_iconst E d13_17_125 (by decide) ?_
  refine j_istore E d13_17_126 (by decide) (lo1 := [(0, (2, l0)), (1, (0, l1)), (2, (0, l2)), (3, (0, l3)), (4, (2, l4)), (5, (0, l5)), (6, (0, l6))]) rfl ?_
  exact j_pick [1, 2, 3, 4, 5, 6, 7, 0] rfl k
theorem t13_17_128 {C : qCx} {G : jG} {S : jS} {V : jH} {nc ns : Nat} {l0 l1 l2 l3 l4 l5 l6 l7 : Int} (h : x13_17 C G)  (k : 256 ≤ l7 → j_ok n_KT 8 C G 164 [(0, (2, l0)), (1, (0, l1)), (2, (0, l2)), (3, (0, l3)), (4, (2, l4)), (5, (0, l5)), (6, (0, l6))] [] S V nc ns) (k' : l7 < 256 → j_ok n_KT 8 C G 136 [(0, (2, l0)), (1, (0, l1)), (2, (0, l2)), (3, (0, l3)), (4, (2, l4)), (5, (0, l5)), (6, (0, l6)), (7, (0, l7))] [] S V nc ns) : j_ok n_KT 8 C G 128 [(0, (2, l0)), (1, (0, l1)), (2, (0, l2)), (3, (0, l3)), (4, (2, l4)), (5, (0, l5)), (6, (0, l6)), (7, (0, l7))] [] S V nc ns := by
  have E := n_E h
  refine j_iload E d13_17_128 7 rfl ?_
  refine j_sipush E d13_17_130 (by decide) ?_
  exact j_icmp_ge E d13_17_133 (t := 164) rfl (fun q => j_pick [0, 1, 2, 3, 4, 5, 6] rfl (k q)) (fun q => j_pick [0, 1, 2, 3, 4, 5, 6, 7] rfl (k' q))
theorem t13_17_136 {C : qCx} {G : jG} {S : jS} {V : jH} {nc ns : Nat} {l0 l1 l2 l3 l4 l5 l6 l7 : Int} {n_l4 : Nat} (h : x13_17 C G) (L : j_L S) (c1 : -2147483648 ≤ 256 * l6 ∧ 256 * l6 ≤ 2147483647) (c2 : -2147483648 ≤ l5 + (256 * l6) ∧ l5 + (256 * l6) ≤ 2147483647) (c3 : -2147483648 ≤ (l5 + (256 * l6)) + l7 ∧ (l5 + (256 * l6)) + l7 ≤ 2147483647) (c4 : S.1 l0 = 33) (c5 : 0 ≤ l7) (c6 : l7 < 256) (c7 : j_arr S l4 n_l4) (c8 : 0 ≤ (l5 + (256 * l6)) + l7) (c9 : (l5 + (256 * l6)) + l7 < (n_l4 : Int)) (c10 : -2147483648 ≤ l7 + 1 ∧ l7 + 1 ≤ 2147483647) (k : j_ok n_KT 8 C G 128 [(0, (2, l0)), (1, (0, l1)), (2, (0, l2)), (3, (0, l3)), (4, (2, l4)), (5, (0, l5)), (6, (0, l6)), (7, (0, l7 + 1))] [] S (j_up V l4 ((l5 + (256 * l6)) + l7) (V (l0 + 20) l7)) nc ns) : j_ok n_KT 8 C G 136 [(0, (2, l0)), (1, (0, l1)), (2, (0, l2)), (3, (0, l3)), (4, (2, l4)), (5, (0, l5)), (6, (0, l6)), (7, (0, l7))] [] S V nc ns := by
  have E := n_E h
  refine j_aload E d13_17_136 4 rfl ?_
  refine j_iload E d13_17_138 5 rfl ?_
  refine j_sipush E d13_17_140 (by decide) ?_
  refine j_iload E d13_17_143 6 rfl ?_
  refine j_imul E d13_17_145 c1 ?_
  refine j_iadd E d13_17_146 c2 ?_
  refine j_iload E d13_17_147 7 rfl ?_
  refine j_iadd E d13_17_149 c3 ?_
  refine j_aload_n E d13_17_150 rfl 0 rfl ?_
  refine j_getS (f := 8) (x := l0 + 20) (fg12_29 h) d13_17_151 c4 (by decide) rfl rfl ((L12_8 L c4).trans (by omega)) ?_
  refine j_iload E d13_17_154 7 rfl ?_
  refine j_iald E d13_17_156 (j_arr_of (show S.1 (l0 + 20) = 3 from (by have q := L12_8k L c4; rw [show l0 + 20 = l0 + 20 by omega]; exact q)) (by decide) rfl) c5 c6 ?_
  refine j_iast E d13_17_157 c7 c8 c9 ?_
  refine j_iinc E d13_17_158 (by decide) (by decide) 7 rfl (lo1 := [(0, (2, l0)), (1, (0, l1)), (2, (0, l2)), (3, (0, l3)), (4, (2, l4)), (5, (0, l5)), (6, (0, l6))]) rfl c10 ?_
  refine j_goto E d13_17_161 (t := 128) rfl ?_
  exact j_pick [1, 2, 3, 4, 5, 6, 7, 0] rfl k
theorem t13_17_164 {C : qCx} {G : jG} {S : jS} {V : jH} {nc ns : Nat} {l0 l1 l2 l3 l4 l5 l6 : Int} (h : x13_17 C G) (c1 : -2147483648 ≤ l6 + 1 ∧ l6 + 1 ≤ 2147483647) (k : j_ok n_KT 8 C G 3 [(0, (2, l0)), (1, (0, l1)), (2, (0, l2)), (3, (0, l3)), (4, (2, l4)), (5, (0, l5)), (6, (0, l6 + 1))] [] S V nc ns) : j_ok n_KT 8 C G 164 [(0, (2, l0)), (1, (0, l1)), (2, (0, l2)), (3, (0, l3)), (4, (2, l4)), (5, (0, l5)), (6, (0, l6))] [] S V nc ns := by
  have E := n_E h
  refine j_iinc E d13_17_164 (by decide) (by decide) 6 rfl (lo1 := [(0, (2, l0)), (1, (0, l1)), (2, (0, l2)), (3, (0, l3)), (4, (2, l4)), (5, (0, l5))]) rfl c1 ?_
  refine j_goto E d13_17_167 (t := 3) rfl ?_
  exact j_pick [1, 2, 3, 4, 5, 6, 0] rfl k
theorem t13_17_170 {C : qCx} {G : jG} {S : jS} {V : jH} {nc ns : Nat} {mc ms : Nat} {qf : jS → jH → Prop} (h : x13_17 C G)  (R : j_Rv n_KT 8 C G b_13_17 mc ms qf) (q : qf S V) (hc : nc ≤ mc) (hs : ns ≤ ms) : j_ok n_KT 8 C G 170 [] [] S V nc ns := by
  have E := n_E h
  exact R _ _ _ _ _ _ d13_17_170 q hc hs
/- BalanceCoderModel.learn(II)I -/
abbrev b_13_18 : ByteArray := prog_13_method_18_code
def y_13_18 : MethodName := ⟨"BalanceCoderModel", "learn", "(II)I"⟩
abbrev x13_18 (C : qCx) (G : jG) : Prop := n_ctx C b_13_18 3 "BalanceCoderModel" G.1 G.2.1
def M13_18 (l : Launch) (mc ms : Nat) (p : Int → Int → Int → jS → jH → Prop) (q : Int → Int → Int → jS → jH → Int → jS → jH → Prop) : Prop := j_Met l vwCl n_TL n_NW n_KT y_13_18 (Cond.code y_13_18 b_13_18 3 (some .int) :: n_GW) { frames := 3, cells := mc, slots := ms, locals := 81 } mc ms (fun a S V => ∃ u0 u1 u2 : Int, a = [(2, u0), (0, u1), (0, u2)] ∧ S.1 u0 = 33 ∧ p u0 u1 u2 S V) (fun a S V rs S' V' => ∃ u0 u1 u2 r : Int, a = [(2, u0), (0, u1), (0, u2)] ∧ rs = [(0, r)] ∧ q u0 u1 u2 S V r S' V')
theorem e13_18 {l : Launch} {mc ms : Nat} {p : Int → Int → Int → jS → jH → Prop} {q : Int → Int → Int → jS → jH → Int → jS → jH → Prop} (body : ∀ (C : qCx) (G : jG), x13_18 C G → C.2.2.2.1.frames = 3 ∧ C.2.2.2.1.locals = 81 → C.2.2.2.1.cells = mc ∧ C.2.2.2.1.slots = ms → C.2.1 = l → C.2.2.2.2.2.2.2.2.1.name = "learn" → ∀ (u0 u1 u2 : Int) (S : jS) (V : jH), S.1 u0 = 33 → p u0 u1 u2 S V → j_Ri n_KT 3 C G b_13_18 mc ms (q u0 u1 u2 S V) → j_ok n_KT 3 C G 0 [(0, (2, u0)), (1, (0, u1)), (2, (0, u2))] [] S V 0 0) : M13_18 l mc ms p q := by
  refine j_method (ws' := n_GW) (by decide) rfl ?_ ?_
  · rintro a S V ⟨u0, u1, u2, rfl, -⟩
    exact Nat.le_of_ble_eq_true rfl
  · rintro C G htl hl hrm hm hml ho hts hnm hE a S V ⟨u0, u1, u2, rfl, ht, hp⟩ R
    exact body C G ⟨htl, hm, hml, ho, fun w hw => hts w (List.mem_cons_of_mem _ hw), hE⟩ (by rw [hrm]; exact ⟨rfl, rfl⟩) (by rw [hrm]; exact ⟨rfl, rfl⟩) hl hnm u0 u1 u2 S V ht hp (fun pc lo r S' V' nc ns d q hc hs => R.2.1 rfl pc lo r S' V' nc ns d ⟨u0, u1, u2, r, rfl, rfl, q⟩ hc hs)
theorem d13_18_0 : decode b_13_18 0 = .ok (.aload_n 0, 1) := by decide +kernel
theorem d13_18_1 : decode b_13_18 1 = .ok (.iload_n 1, 1) := by decide +kernel
theorem d13_18_2 : decode b_13_18 2 = .ok (.invokevirtual 117, 3) := by decide +kernel
theorem d13_18_5 : decode b_13_18 5 = .ok (.ifCond .eq 10, 3) := by decide +kernel
theorem d13_18_8 : decode b_13_18 8 = .ok (.iload_n 2, 1) := by decide +kernel
theorem d13_18_9 : decode b_13_18 9 = .ok (.invokestatic 76, 3) := by decide +kernel
theorem d13_18_12 : decode b_13_18 12 = .ok (.ifCond .ne 9, 3) := by decide +kernel
theorem d13_18_15 : decode b_13_18 15 = .ok (.aload_n 0, 1) := by decide +kernel
theorem d13_18_16 : decode b_13_18 16 = .ok (.iconst (-1), 1) := by decide +kernel
theorem d13_18_17 : decode b_13_18 17 = .ok (.invokevirtual 82, 3) := by decide +kernel
theorem d13_18_20 : decode b_13_18 20 = .ok (.ireturn, 1) := by decide +kernel
theorem d13_18_21 : decode b_13_18 21 = .ok (.aload_n 0, 1) := by decide +kernel
theorem d13_18_22 : decode b_13_18 22 = .ok (.getfield 10, 3) := by decide +kernel
theorem d13_18_25 : decode b_13_18 25 = .ok (.getfield 100, 3) := by decide +kernel
theorem d13_18_28 : decode b_13_18 28 = .ok (.iload_n 1, 1) := by decide +kernel
theorem d13_18_29 : decode b_13_18 29 = .ok (.iaload, 1) := by decide +kernel
theorem d13_18_30 : decode b_13_18 30 = .ok (.iconst 2, 1) := by decide +kernel
theorem d13_18_31 : decode b_13_18 31 = .ok (.if_icmp .eq 23, 3) := by decide +kernel
theorem d13_18_34 : decode b_13_18 34 = .ok (.aload_n 0, 1) := by decide +kernel
theorem d13_18_35 : decode b_13_18 35 = .ok (.getfield 10, 3) := by decide +kernel
theorem d13_18_38 : decode b_13_18 38 = .ok (.getfield 100, 3) := by decide +kernel
theorem d13_18_41 : decode b_13_18 41 = .ok (.iload_n 1, 1) := by decide +kernel
theorem d13_18_42 : decode b_13_18 42 = .ok (.iaload, 1) := by decide +kernel
theorem d13_18_43 : decode b_13_18 43 = .ok (.iconst 3, 1) := by decide +kernel
theorem d13_18_44 : decode b_13_18 44 = .ok (.if_icmp .eq 10, 3) := by decide +kernel
theorem d13_18_47 : decode b_13_18 47 = .ok (.aload_n 0, 1) := by decide +kernel
theorem d13_18_48 : decode b_13_18 48 = .ok (.bipush (-3), 2) := by decide +kernel
theorem d13_18_50 : decode b_13_18 50 = .ok (.invokevirtual 82, 3) := by decide +kernel
theorem d13_18_53 : decode b_13_18 53 = .ok (.ireturn, 1) := by decide +kernel
theorem d13_18_54 : decode b_13_18 54 = .ok (.aload_n 0, 1) := by decide +kernel
theorem d13_18_55 : decode b_13_18 55 = .ok (.getfield 10, 3) := by decide +kernel
theorem d13_18_58 : decode b_13_18 58 = .ok (.getfield 86, 3) := by decide +kernel
theorem d13_18_61 : decode b_13_18 61 = .ok (.iload_n 2, 1) := by decide +kernel
theorem d13_18_62 : decode b_13_18 62 = .ok (.iaload, 1) := by decide +kernel
theorem d13_18_63 : decode b_13_18 63 = .ok (.ifCond .ne 10, 3) := by decide +kernel
theorem d13_18_66 : decode b_13_18 66 = .ok (.aload_n 0, 1) := by decide +kernel
theorem d13_18_67 : decode b_13_18 67 = .ok (.bipush (-7), 2) := by decide +kernel
theorem d13_18_69 : decode b_13_18 69 = .ok (.invokevirtual 82, 3) := by decide +kernel
theorem d13_18_72 : decode b_13_18 72 = .ok (.ireturn, 1) := by decide +kernel
theorem d13_18_73 : decode b_13_18 73 = .ok (.aload_n 0, 1) := by decide +kernel
theorem d13_18_74 : decode b_13_18 74 = .ok (.aload_n 0, 1) := by decide +kernel
theorem d13_18_75 : decode b_13_18 75 = .ok (.getfield 10, 3) := by decide +kernel
theorem d13_18_78 : decode b_13_18 78 = .ok (.getfield 100, 3) := by decide +kernel
theorem d13_18_81 : decode b_13_18 81 = .ok (.iload_n 1, 1) := by decide +kernel
theorem d13_18_82 : decode b_13_18 82 = .ok (.iaload, 1) := by decide +kernel
theorem d13_18_83 : decode b_13_18 83 = .ok (.aload_n 0, 1) := by decide +kernel
theorem d13_18_84 : decode b_13_18 84 = .ok (.getfield 10, 3) := by decide +kernel
theorem d13_18_87 : decode b_13_18 87 = .ok (.getfield 103, 3) := by decide +kernel
theorem d13_18_90 : decode b_13_18 90 = .ok (.iload_n 1, 1) := by decide +kernel
theorem d13_18_91 : decode b_13_18 91 = .ok (.iaload, 1) := by decide +kernel
theorem d13_18_92 : decode b_13_18 92 = .ok (.iload_n 2, 1) := by decide +kernel
theorem d13_18_93 : decode b_13_18 93 = .ok (.aload_n 0, 1) := by decide +kernel
theorem d13_18_94 : decode b_13_18 94 = .ok (.getfield 10, 3) := by decide +kernel
theorem d13_18_97 : decode b_13_18 97 = .ok (.getfield 110, 3) := by decide +kernel
theorem d13_18_100 : decode b_13_18 100 = .ok (.aload_n 0, 1) := by decide +kernel
theorem d13_18_101 : decode b_13_18 101 = .ok (.iload_n 1, 1) := by decide +kernel
theorem d13_18_102 : decode b_13_18 102 = .ok (.iconst 0, 1) := by decide +kernel
theorem d13_18_103 : decode b_13_18 103 = .ok (.iconst 0, 1) := by decide +kernel
theorem d13_18_104 : decode b_13_18 104 = .ok (.invokevirtual 113, 3) := by decide +kernel
theorem d13_18_107 : decode b_13_18 107 = .ok (.invokevirtual 133, 3) := by decide +kernel
theorem d13_18_110 : decode b_13_18 110 = .ok (.aload_n 0, 1) := by decide +kernel
theorem d13_18_111 : decode b_13_18 111 = .ok (.getfield 10, 3) := by decide +kernel
theorem d13_18_114 : decode b_13_18 114 = .ok (.getfield 106, 3) := by decide +kernel
theorem d13_18_117 : decode b_13_18 117 = .ok (.iload_n 1, 1) := by decide +kernel
theorem d13_18_118 : decode b_13_18 118 = .ok (.iconst 1, 1) := by decide +kernel
theorem d13_18_119 : decode b_13_18 119 = .ok (.bastore, 1) := by decide +kernel
theorem d13_18_120 : decode b_13_18 120 = .ok (.iconst 0, 1) := by decide +kernel
theorem d13_18_121 : decode b_13_18 121 = .ok (.ireturn, 1) := by decide +kernel
theorem K13_18_2 {C : qCx} {G : jG} {mc ms : Nat} {p : Int → Int → jS → jH → Prop} {q : Int → Int → jS → jH → Int → jS → jH → Prop} (h : x13_18 C G) (hrm : C.2.2.2.1.frames = 3 ∧ C.2.2.2.1.locals = 81) (hM : M13_5 C.2.1 mc ms p q) : j_Call C b_13_18 n_KT G.1 G.2.1 3 (.invokevirtual 117) mc ms (fun a S V => ∃ u0 u1 : Int, a = [(2, u0), (0, u1)] ∧ S.1 u0 = 33 ∧ p u0 u1 S V) (fun a S V rs S' V' => ∃ u0 u1 r : Int, a = [(2, u0), (0, u1)] ∧ rs = [(0, r)] ∧ q u0 u1 S V r S' V') := j_callV n_NWk h.2.2.2.2.2 h.1 hM ⟨h.2.1.1, h.2.1.2, h.2.2.1, h.2.2.2.1, h.2.2.2.2.1⟩ ⟨n_CB (y := y_13_5) (bytes := b_13_5) 1 h.2.2.2.2.1 n_w956 n_w953 n_w12 ⟨by decide, by decide, by decide +kernel⟩ rfl rfl ⟨by rw [hrm.1]; exact Nat.le_of_ble_eq_true rfl, by rw [hrm.2]; exact Nat.le_of_ble_eq_true rfl⟩, h.2.2.2.2.1 _ n_w955, h.2.2.2.2.1 _ n_s28⟩ (Cn := RX12) (fun a S V hP => by obtain ⟨u0, u1, rfl, e, -⟩ := hP; exact ⟨u0, _, 12, _, _, TX12, 31, rfl, rfl, by rw [e]; decide, by rw [e]; rfl, rfl⟩)
theorem K13_18_9 {C : qCx} {G : jG} {mc ms : Nat} {p : Int → jS → jH → Prop} {q : Int → jS → jH → Int → jS → jH → Prop} (h : x13_18 C G) (hrm : C.2.2.2.1.frames = 3 ∧ C.2.2.2.1.locals = 81) (hM : M13_4 C.2.1 mc ms p q) : j_Call C b_13_18 n_KT G.1 G.2.1 3 (.invokestatic 76) mc ms (fun a S V => ∃ u0 : Int, a = [(0, u0)] ∧ p u0 S V) (fun a S V rs S' V' => ∃ u0 r : Int, a = [(0, u0)] ∧ rs = [(0, r)] ∧ q u0 S V r S' V') := j_callS n_NWk h.2.2.2.2.2 h.1 hM ⟨h.2.1.1, h.2.1.2, h.2.2.1, h.2.2.2.1, h.2.2.2.2.1⟩ ⟨n_CB (y := y_13_4) (bytes := b_13_4) 1 h.2.2.2.2.1 n_w919 n_w917 n_w12 ⟨by decide, by decide, by decide +kernel⟩ rfl rfl ⟨by rw [hrm.1]; exact Nat.le_of_ble_eq_true rfl, by rw [hrm.2]; exact Nat.le_of_ble_eq_true rfl⟩, h.2.2.2.2.1 _ n_w918⟩ (fun a S V hP => by obtain ⟨u0, rfl, -⟩ := hP; rfl)
theorem K13_18_17 {C : qCx} {G : jG} {mc ms : Nat} {p : Int → Int → jS → jH → Prop} {q : Int → Int → jS → jH → Int → jS → jH → Prop} (h : x13_18 C G) (hrm : C.2.2.2.1.frames = 3 ∧ C.2.2.2.1.locals = 81) (hM : M13_2 C.2.1 mc ms p q) : j_Call C b_13_18 n_KT G.1 G.2.1 3 (.invokevirtual 82) mc ms (fun a S V => ∃ u0 u1 : Int, a = [(2, u0), (0, u1)] ∧ S.1 u0 = 33 ∧ p u0 u1 S V) (fun a S V rs S' V' => ∃ u0 u1 r : Int, a = [(2, u0), (0, u1)] ∧ rs = [(0, r)] ∧ q u0 u1 S V r S' V') := j_callV n_NWk h.2.2.2.2.2 h.1 hM ⟨h.2.1.1, h.2.1.2, h.2.2.1, h.2.2.2.1, h.2.2.2.2.1⟩ ⟨n_CB (y := y_13_2) (bytes := b_13_2) 1 h.2.2.2.2.1 n_w928 n_w925 n_w12 ⟨by decide, by decide, by decide +kernel⟩ rfl rfl ⟨by rw [hrm.1]; exact Nat.le_of_ble_eq_true rfl, by rw [hrm.2]; exact Nat.le_of_ble_eq_true rfl⟩, h.2.2.2.2.1 _ n_w927, h.2.2.2.2.1 _ n_s27⟩ (Cn := RX12) (fun a S V hP => by obtain ⟨u0, u1, rfl, e, -⟩ := hP; exact ⟨u0, _, 12, _, _, TX12, 31, rfl, rfl, by rw [e]; decide, by rw [e]; rfl, rfl⟩)
theorem K13_18_50 {C : qCx} {G : jG} {mc ms : Nat} {p : Int → Int → jS → jH → Prop} {q : Int → Int → jS → jH → Int → jS → jH → Prop} (h : x13_18 C G) (hrm : C.2.2.2.1.frames = 3 ∧ C.2.2.2.1.locals = 81) (hM : M13_2 C.2.1 mc ms p q) : j_Call C b_13_18 n_KT G.1 G.2.1 3 (.invokevirtual 82) mc ms (fun a S V => ∃ u0 u1 : Int, a = [(2, u0), (0, u1)] ∧ S.1 u0 = 33 ∧ p u0 u1 S V) (fun a S V rs S' V' => ∃ u0 u1 r : Int, a = [(2, u0), (0, u1)] ∧ rs = [(0, r)] ∧ q u0 u1 S V r S' V') := j_callV n_NWk h.2.2.2.2.2 h.1 hM ⟨h.2.1.1, h.2.1.2, h.2.2.1, h.2.2.2.1, h.2.2.2.2.1⟩ ⟨n_CB (y := y_13_2) (bytes := b_13_2) 1 h.2.2.2.2.1 n_w928 n_w925 n_w12 ⟨by decide, by decide, by decide +kernel⟩ rfl rfl ⟨by rw [hrm.1]; exact Nat.le_of_ble_eq_true rfl, by rw [hrm.2]; exact Nat.le_of_ble_eq_true rfl⟩, h.2.2.2.2.1 _ n_w927, h.2.2.2.2.1 _ n_s27⟩ (Cn := RX12) (fun a S V hP => by obtain ⟨u0, u1, rfl, e, -⟩ := hP; exact ⟨u0, _, 12, _, _, TX12, 31, rfl, rfl, by rw [e]; decide, by rw [e]; rfl, rfl⟩)
theorem K13_18_69 {C : qCx} {G : jG} {mc ms : Nat} {p : Int → Int → jS → jH → Prop} {q : Int → Int → jS → jH → Int → jS → jH → Prop} (h : x13_18 C G) (hrm : C.2.2.2.1.frames = 3 ∧ C.2.2.2.1.locals = 81) (hM : M13_2 C.2.1 mc ms p q) : j_Call C b_13_18 n_KT G.1 G.2.1 3 (.invokevirtual 82) mc ms (fun a S V => ∃ u0 u1 : Int, a = [(2, u0), (0, u1)] ∧ S.1 u0 = 33 ∧ p u0 u1 S V) (fun a S V rs S' V' => ∃ u0 u1 r : Int, a = [(2, u0), (0, u1)] ∧ rs = [(0, r)] ∧ q u0 u1 S V r S' V') := j_callV n_NWk h.2.2.2.2.2 h.1 hM ⟨h.2.1.1, h.2.1.2, h.2.2.1, h.2.2.2.1, h.2.2.2.2.1⟩ ⟨n_CB (y := y_13_2) (bytes := b_13_2) 1 h.2.2.2.2.1 n_w928 n_w925 n_w12 ⟨by decide, by decide, by decide +kernel⟩ rfl rfl ⟨by rw [hrm.1]; exact Nat.le_of_ble_eq_true rfl, by rw [hrm.2]; exact Nat.le_of_ble_eq_true rfl⟩, h.2.2.2.2.1 _ n_w927, h.2.2.2.2.1 _ n_s27⟩ (Cn := RX12) (fun a S V hP => by obtain ⟨u0, u1, rfl, e, -⟩ := hP; exact ⟨u0, _, 12, _, _, TX12, 31, rfl, rfl, by rw [e]; decide, by rw [e]; rfl, rfl⟩)
theorem K13_18_104 {C : qCx} {G : jG} {mc ms : Nat} {p : Int → Int → Int → Int → jS → jH → Prop} {q : Int → Int → Int → Int → jS → jH → Int → jS → jH → Prop} (h : x13_18 C G) (hrm : C.2.2.2.1.frames = 3 ∧ C.2.2.2.1.locals = 81) (hM : M13_11 C.2.1 mc ms p q) : j_Call C b_13_18 n_KT G.1 G.2.1 3 (.invokevirtual 113) mc ms (fun a S V => ∃ u0 u1 u2 u3 : Int, a = [(2, u0), (0, u1), (0, u2), (0, u3)] ∧ S.1 u0 = 33 ∧ p u0 u1 u2 u3 S V) (fun a S V rs S' V' => ∃ u0 u1 u2 u3 r : Int, a = [(2, u0), (0, u1), (0, u2), (0, u3)] ∧ rs = [(0, r)] ∧ q u0 u1 u2 u3 S V r S' V') := j_callV n_NWk h.2.2.2.2.2 h.1 hM ⟨h.2.1.1, h.2.1.2, h.2.2.1, h.2.2.2.1, h.2.2.2.2.1⟩ ⟨n_CB (y := y_13_11) (bytes := b_13_11) 3 h.2.2.2.2.1 n_w964 n_w961 n_w12 ⟨by decide, by decide, by decide +kernel⟩ rfl rfl ⟨by rw [hrm.1]; exact Nat.le_of_ble_eq_true rfl, by rw [hrm.2]; exact Nat.le_of_ble_eq_true rfl⟩, h.2.2.2.2.1 _ n_w963, h.2.2.2.2.1 _ n_s30⟩ (Cn := RX12) (fun a S V hP => by obtain ⟨u0, u1, u2, u3, rfl, e, -⟩ := hP; exact ⟨u0, _, 12, _, _, TX12, 31, rfl, rfl, by rw [e]; decide, by rw [e]; rfl, rfl⟩)
theorem K13_18_107 {C : qCx} {G : jG} {mc ms : Nat} {p : Int → Int → Int → Int → Int → Int → jS → jH → Prop} {q : Int → Int → Int → Int → Int → Int → jS → jH → jS → jH → Prop} (h : x13_18 C G) (hrm : C.2.2.2.1.frames = 3 ∧ C.2.2.2.1.locals = 81) (hM : M13_17 C.2.1 mc ms p q) : j_Call C b_13_18 n_KT G.1 G.2.1 3 (.invokevirtual 133) mc ms (fun a S V => ∃ u0 u1 u2 u3 u4 u5 : Int, a = [(2, u0), (0, u1), (0, u2), (0, u3), (2, u4), (0, u5)] ∧ S.1 u0 = 33 ∧ p u0 u1 u2 u3 u4 u5 S V) (fun a S V rs S' V' => ∃ u0 u1 u2 u3 u4 u5 : Int, a = [(2, u0), (0, u1), (0, u2), (0, u3), (2, u4), (0, u5)] ∧ rs = [] ∧ q u0 u1 u2 u3 u4 u5 S V S' V') := j_callV n_NWk h.2.2.2.2.2 h.1 hM ⟨h.2.1.1, h.2.1.2, h.2.2.1, h.2.2.2.1, h.2.2.2.2.1⟩ ⟨n_CB (y := y_13_17) (bytes := b_13_17) 5 h.2.2.2.2.1 n_w972 n_w969 n_w12 ⟨by decide, by decide, by decide +kernel⟩ rfl rfl ⟨by rw [hrm.1]; exact Nat.le_of_ble_eq_true rfl, by rw [hrm.2]; exact Nat.le_of_ble_eq_true rfl⟩, h.2.2.2.2.1 _ n_w971, h.2.2.2.2.1 _ n_s31⟩ (Cn := RX12) (fun a S V hP => by obtain ⟨u0, u1, u2, u3, u4, u5, rfl, e, -⟩ := hP; exact ⟨u0, _, 12, _, _, TX12, 31, rfl, rfl, by rw [e]; decide, by rw [e]; rfl, rfl⟩)
theorem t13_18_0 {C : qCx} {G : jG} {S : jS} {V : jH} {nc ns : Nat} {l0 l1 l2 : Int} {mc ms : Nat} {pp : Int → Int → jS → jH → Prop} {qq : Int → Int → jS → jH → Int → jS → jH → Prop} (h : x13_18 C G) (hrm : C.2.2.2.1.frames = 3 ∧ C.2.2.2.1.locals = 81) (c1 : S.1 l0 = 33) (hM : M13_5 C.2.1 mc ms pp qq) (hp : pp l0 l1 S V) (hc : nc + mc ≤ C.2.2.2.1.cells) (hs : ns + ms ≤ C.2.2.2.1.slots) (k : ∀ (r : Int) (S' : jS) (V' : jH), qq l0 l1 S V r S' V' → j_ok n_KT 3 C G 5 [(0, (2, l0)), (1, (0, l1)), (2, (0, l2))] [(0, r)] S' V' (nc + mc) (ns + ms)) : j_ok n_KT 3 C G 0 [(0, (2, l0)), (1, (0, l1)), (2, (0, l2))] [] S V nc ns := by
  have E := n_E h
  refine j_aload_n E d13_18_0 rfl 0 rfl ?_
  refine j_iload_n E d13_18_1 rfl 1 rfl ?_
  refine j_call E (K13_18_2 h hrm hM) d13_18_2 (a := [(2, l0), (0, l1)]) (sk := []) rfl ⟨l0, l1, rfl, c1, hp⟩ (Nat.le_of_ble_eq_true rfl) hc hs ?_
  rintro rs S' V' ⟨z0, z1, r, e1, rfl, q⟩
  simp only [List.cons.injEq, Prod.mk.injEq, and_true, true_and] at e1
  obtain ⟨rfl, rfl⟩ := e1
  exact j_pick [0, 1, 2] rfl (k r S' V' q)
theorem t13_18_5 {C : qCx} {G : jG} {S : jS} {V : jH} {nc ns : Nat} {l0 l1 l2 s0 : Int} (h : x13_18 C G)  (k : s0 = 0 → j_ok n_KT 3 C G 15 [(0, (2, l0))] [] S V nc ns) (k' : ¬ s0 = 0 → j_ok n_KT 3 C G 8 [(0, (2, l0)), (1, (0, l1)), (2, (0, l2))] [] S V nc ns) : j_ok n_KT 3 C G 5 [(0, (2, l0)), (1, (0, l1)), (2, (0, l2))] [(0, s0)] S V nc ns := by
  have E := n_E h
  exact j_if_eq E d13_18_5 (t := 15) rfl (fun q => j_pick [0] rfl (k q)) (fun q => j_pick [0, 1, 2] rfl (k' q))
theorem t13_18_8 {C : qCx} {G : jG} {S : jS} {V : jH} {nc ns : Nat} {l0 l1 l2 : Int} {mc ms : Nat} {pp : Int → jS → jH → Prop} {qq : Int → jS → jH → Int → jS → jH → Prop} (h : x13_18 C G) (hrm : C.2.2.2.1.frames = 3 ∧ C.2.2.2.1.locals = 81)  (hM : M13_4 C.2.1 mc ms pp qq) (hp : pp l2 S V) (hc : nc + mc ≤ C.2.2.2.1.cells) (hs : ns + ms ≤ C.2.2.2.1.slots) (k : ∀ (r : Int) (S' : jS) (V' : jH), qq l2 S V r S' V' → j_ok n_KT 3 C G 12 [(0, (2, l0)), (1, (0, l1)), (2, (0, l2))] [(0, r)] S' V' (nc + mc) (ns + ms)) : j_ok n_KT 3 C G 8 [(0, (2, l0)), (1, (0, l1)), (2, (0, l2))] [] S V nc ns := by
  have E := n_E h
  refine j_iload_n E d13_18_8 rfl 2 rfl ?_
  refine j_call E (K13_18_9 h hrm hM) d13_18_9 (a := [(0, l2)]) (sk := []) rfl ⟨l2, rfl, hp⟩ (Nat.le_of_ble_eq_true rfl) hc hs ?_
  rintro rs S' V' ⟨z0, r, e1, rfl, q⟩
  simp only [List.cons.injEq, Prod.mk.injEq, and_true, true_and] at e1
  obtain ⟨rfl⟩ := e1
  exact j_pick [0, 1, 2] rfl (k r S' V' q)
theorem t13_18_12 {C : qCx} {G : jG} {S : jS} {V : jH} {nc ns : Nat} {l0 l1 l2 s0 : Int} (h : x13_18 C G)  (k : ¬ s0 = 0 → j_ok n_KT 3 C G 21 [(0, (2, l0)), (1, (0, l1)), (2, (0, l2))] [] S V nc ns) (k' : s0 = 0 → j_ok n_KT 3 C G 15 [(0, (2, l0))] [] S V nc ns) : j_ok n_KT 3 C G 12 [(0, (2, l0)), (1, (0, l1)), (2, (0, l2))] [(0, s0)] S V nc ns := by
  have E := n_E h
  exact j_if_ne E d13_18_12 (t := 21) rfl (fun q => j_pick [0, 1, 2] rfl (k q)) (fun q => j_pick [0] rfl (k' q))
theorem t13_18_15 {C : qCx} {G : jG} {S : jS} {V : jH} {nc ns : Nat} {l0 : Int} {mc ms : Nat} {pp : Int → Int → jS → jH → Prop} {qq : Int → Int → jS → jH → Int → jS → jH → Prop} (h : x13_18 C G) (hrm : C.2.2.2.1.frames = 3 ∧ C.2.2.2.1.locals = 81) (c1 : S.1 l0 = 33) (hM : M13_2 C.2.1 mc ms pp qq) (hp : pp l0 ((-1)) S V) (hc : nc + mc ≤ C.2.2.2.1.cells) (hs : ns + ms ≤ C.2.2.2.1.slots) (k : ∀ (r : Int) (S' : jS) (V' : jH), qq l0 ((-1)) S V r S' V' → j_ok n_KT 3 C G 20 [] [(0, r)] S' V' (nc + mc) (ns + ms)) : j_ok n_KT 3 C G 15 [(0, (2, l0))] [] S V nc ns := by
  have E := n_E h
  refine j_aload_n E d13_18_15 rfl 0 rfl ?_
  refine j_iconst E d13_18_16 (by decide) ?_
  refine j_call E (K13_18_17 h hrm hM) d13_18_17 (a := [(2, l0), (0, (-1))]) (sk := []) rfl ⟨l0, (-1), rfl, c1, hp⟩ (Nat.le_of_ble_eq_true rfl) hc hs ?_
  rintro rs S' V' ⟨z0, z1, r, e1, rfl, q⟩
  simp only [List.cons.injEq, Prod.mk.injEq, and_true, true_and] at e1
  obtain ⟨rfl, rfl⟩ := e1
  exact j_pick [] rfl (k r S' V' q)
theorem t13_18_20 {C : qCx} {G : jG} {S : jS} {V : jH} {nc ns : Nat} {s0 : Int} {mc ms : Nat} {qf : Int → jS → jH → Prop} (h : x13_18 C G)  (R : j_Ri n_KT 3 C G b_13_18 mc ms qf) (q : qf s0 S V) (hc : nc ≤ mc) (hs : ns ≤ ms) : j_ok n_KT 3 C G 20 [] [(0, s0)] S V nc ns := by
  have E := n_E h
  exact R _ _ _ _ _ _ _ d13_18_20 q hc hs
theorem t13_18_21 {C : qCx} {G : jG} {S : jS} {V : jH} {nc ns : Nat} {l0 l1 l2 : Int} (h : x13_18 C G) (L : j_L S) (c1 : S.1 l0 = 33) (c2 : 0 ≤ l1) (c3 : l1 < 10) (k : V (l0 + 4) l1 = 2 → j_ok n_KT 3 C G 54 [(0, (2, l0)), (1, (0, l1)), (2, (0, l2))] [] S V nc ns) (k' : ¬ V (l0 + 4) l1 = 2 → j_ok n_KT 3 C G 34 [(0, (2, l0)), (1, (0, l1)), (2, (0, l2))] [] S V nc ns) : j_ok n_KT 3 C G 21 [(0, (2, l0)), (1, (0, l1)), (2, (0, l2))] [] S V nc ns := by
  have E := n_E h
  refine j_aload_n E d13_18_21 rfl 0 rfl ?_
  refine j_getS (f := 0) (x := l0 + 1) (fg12_10 h) d13_18_22 c1 (by decide) rfl rfl ((L12_0 L c1).trans (by omega)) ?_
  refine j_getS (f := 3) (x := l0 + 4) (fg12_100 h) d13_18_25 (show S.1 (l0 + 1) = 32 from (by have q := L12_0k L c1; rw [show l0 + 1 = l0 + 1 by omega]; exact q)) (by decide) rfl rfl ((L11_3 L (show S.1 (l0 + 1) = 32 from (by have q := L12_0k L c1; rw [show l0 + 1 = l0 + 1 by omega]; exact q))).trans (by omega)) ?_
  refine j_iload_n E d13_18_28 rfl 1 rfl ?_
  refine j_iald E d13_18_29 (j_arr_of (show S.1 (l0 + 4) = 10 from (by have q := L11_3k L (show S.1 (l0 + 1) = 32 from (by have q := L12_0k L c1; rw [show l0 + 1 = l0 + 1 by omega]; exact q)); rw [show l0 + 4 = (l0 + 1) + 3 by omega]; exact q)) (by decide) rfl) c2 c3 ?_
  refine j_iconst E d13_18_30 (by decide) ?_
  exact j_icmp_eq E d13_18_31 (t := 54) rfl (fun q => j_pick [0, 1, 2] rfl (k q)) (fun q => j_pick [0, 1, 2] rfl (k' q))
theorem t13_18_34 {C : qCx} {G : jG} {S : jS} {V : jH} {nc ns : Nat} {l0 l1 l2 : Int} (h : x13_18 C G) (L : j_L S) (c1 : S.1 l0 = 33) (c2 : 0 ≤ l1) (c3 : l1 < 10) (k : V (l0 + 4) l1 = 3 → j_ok n_KT 3 C G 54 [(0, (2, l0)), (1, (0, l1)), (2, (0, l2))] [] S V nc ns) (k' : ¬ V (l0 + 4) l1 = 3 → j_ok n_KT 3 C G 47 [(0, (2, l0))] [] S V nc ns) : j_ok n_KT 3 C G 34 [(0, (2, l0)), (1, (0, l1)), (2, (0, l2))] [] S V nc ns := by
  have E := n_E h
  refine j_aload_n E d13_18_34 rfl 0 rfl ?_
  refine j_getS (f := 0) (x := l0 + 1) (fg12_10 h) d13_18_35 c1 (by decide) rfl rfl ((L12_0 L c1).trans (by omega)) ?_
  refine j_getS (f := 3) (x := l0 + 4) (fg12_100 h) d13_18_38 (show S.1 (l0 + 1) = 32 from (by have q := L12_0k L c1; rw [show l0 + 1 = l0 + 1 by omega]; exact q)) (by decide) rfl rfl ((L11_3 L (show S.1 (l0 + 1) = 32 from (by have q := L12_0k L c1; rw [show l0 + 1 = l0 + 1 by omega]; exact q))).trans (by omega)) ?_
  refine j_iload_n E d13_18_41 rfl 1 rfl ?_
  refine j_iald E d13_18_42 (j_arr_of (show S.1 (l0 + 4) = 10 from (by have q := L11_3k L (show S.1 (l0 + 1) = 32 from (by have q := L12_0k L c1; rw [show l0 + 1 = l0 + 1 by omega]; exact q)); rw [show l0 + 4 = (l0 + 1) + 3 by omega]; exact q)) (by decide) rfl) c2 c3 ?_
  refine j_iconst E d13_18_43 (by decide) ?_
  exact j_icmp_eq E d13_18_44 (t := 54) rfl (fun q => j_pick [0, 1, 2] rfl (k q)) (fun q => j_pick [0] rfl (k' q))
theorem t13_18_47 {C : qCx} {G : jG} {S : jS} {V : jH} {nc ns : Nat} {l0 : Int} {mc ms : Nat} {pp : Int → Int → jS → jH → Prop} {qq : Int → Int → jS → jH → Int → jS → jH → Prop} (h : x13_18 C G) (hrm : C.2.2.2.1.frames = 3 ∧ C.2.2.2.1.locals = 81) (c1 : S.1 l0 = 33) (hM : M13_2 C.2.1 mc ms pp qq) (hp : pp l0 ((-3)) S V) (hc : nc + mc ≤ C.2.2.2.1.cells) (hs : ns + ms ≤ C.2.2.2.1.slots) (k : ∀ (r : Int) (S' : jS) (V' : jH), qq l0 ((-3)) S V r S' V' → j_ok n_KT 3 C G 53 [] [(0, r)] S' V' (nc + mc) (ns + ms)) : j_ok n_KT 3 C G 47 [(0, (2, l0))] [] S V nc ns := by
  have E := n_E h
  refine j_aload_n E d13_18_47 rfl 0 rfl ?_
  refine j_bipush E d13_18_48 (by decide) ?_
  refine j_call E (K13_18_50 h hrm hM) d13_18_50 (a := [(2, l0), (0, (-3))]) (sk := []) rfl ⟨l0, (-3), rfl, c1, hp⟩ (Nat.le_of_ble_eq_true rfl) hc hs ?_
  rintro rs S' V' ⟨z0, z1, r, e1, rfl, q⟩
  simp only [List.cons.injEq, Prod.mk.injEq, and_true, true_and] at e1
  obtain ⟨rfl, rfl⟩ := e1
  exact j_pick [] rfl (k r S' V' q)
theorem t13_18_53 {C : qCx} {G : jG} {S : jS} {V : jH} {nc ns : Nat} {s0 : Int} {mc ms : Nat} {qf : Int → jS → jH → Prop} (h : x13_18 C G)  (R : j_Ri n_KT 3 C G b_13_18 mc ms qf) (q : qf s0 S V) (hc : nc ≤ mc) (hs : ns ≤ ms) : j_ok n_KT 3 C G 53 [] [(0, s0)] S V nc ns := by
  have E := n_E h
  exact R _ _ _ _ _ _ _ d13_18_53 q hc hs
theorem t13_18_54 {C : qCx} {G : jG} {S : jS} {V : jH} {nc ns : Nat} {l0 l1 l2 : Int} (h : x13_18 C G) (L : j_L S) (c1 : S.1 l0 = 33) (c2 : 0 ≤ l2) (c3 : l2 < 6) (k : ¬ V (l0 + 2) l2 = 0 → j_ok n_KT 3 C G 73 [(0, (2, l0)), (1, (0, l1)), (2, (0, l2))] [] S V nc ns) (k' : V (l0 + 2) l2 = 0 → j_ok n_KT 3 C G 66 [(0, (2, l0))] [] S V nc ns) : j_ok n_KT 3 C G 54 [(0, (2, l0)), (1, (0, l1)), (2, (0, l2))] [] S V nc ns := by
  have E := n_E h
  refine j_aload_n E d13_18_54 rfl 0 rfl ?_
  refine j_getS (f := 0) (x := l0 + 1) (fg12_10 h) d13_18_55 c1 (by decide) rfl rfl ((L12_0 L c1).trans (by omega)) ?_
  refine j_getS (f := 0) (x := l0 + 2) (fg12_86 h) d13_18_58 (show S.1 (l0 + 1) = 32 from (by have q := L12_0k L c1; rw [show l0 + 1 = l0 + 1 by omega]; exact q)) (by decide) rfl rfl ((L11_0 L (show S.1 (l0 + 1) = 32 from (by have q := L12_0k L c1; rw [show l0 + 1 = l0 + 1 by omega]; exact q))).trans (by omega)) ?_
  refine j_iload_n E d13_18_61 rfl 2 rfl ?_
  refine j_iald E d13_18_62 (j_arr_of (show S.1 (l0 + 2) = 8 from (by have q := L11_0k L (show S.1 (l0 + 1) = 32 from (by have q := L12_0k L c1; rw [show l0 + 1 = l0 + 1 by omega]; exact q)); rw [show l0 + 2 = (l0 + 1) + 1 by omega]; exact q)) (by decide) rfl) c2 c3 ?_
  exact j_if_ne E d13_18_63 (t := 73) rfl (fun q => j_pick [0, 1, 2] rfl (k q)) (fun q => j_pick [0] rfl (k' q))
theorem t13_18_66 {C : qCx} {G : jG} {S : jS} {V : jH} {nc ns : Nat} {l0 : Int} {mc ms : Nat} {pp : Int → Int → jS → jH → Prop} {qq : Int → Int → jS → jH → Int → jS → jH → Prop} (h : x13_18 C G) (hrm : C.2.2.2.1.frames = 3 ∧ C.2.2.2.1.locals = 81) (c1 : S.1 l0 = 33) (hM : M13_2 C.2.1 mc ms pp qq) (hp : pp l0 ((-7)) S V) (hc : nc + mc ≤ C.2.2.2.1.cells) (hs : ns + ms ≤ C.2.2.2.1.slots) (k : ∀ (r : Int) (S' : jS) (V' : jH), qq l0 ((-7)) S V r S' V' → j_ok n_KT 3 C G 72 [] [(0, r)] S' V' (nc + mc) (ns + ms)) : j_ok n_KT 3 C G 66 [(0, (2, l0))] [] S V nc ns := by
  have E := n_E h
  refine j_aload_n E d13_18_66 rfl 0 rfl ?_
  refine j_bipush E d13_18_67 (by decide) ?_
  refine j_call E (K13_18_69 h hrm hM) d13_18_69 (a := [(2, l0), (0, (-7))]) (sk := []) rfl ⟨l0, (-7), rfl, c1, hp⟩ (Nat.le_of_ble_eq_true rfl) hc hs ?_
  rintro rs S' V' ⟨z0, z1, r, e1, rfl, q⟩
  simp only [List.cons.injEq, Prod.mk.injEq, and_true, true_and] at e1
  obtain ⟨rfl, rfl⟩ := e1
  exact j_pick [] rfl (k r S' V' q)
theorem t13_18_72 {C : qCx} {G : jG} {S : jS} {V : jH} {nc ns : Nat} {s0 : Int} {mc ms : Nat} {qf : Int → jS → jH → Prop} (h : x13_18 C G)  (R : j_Ri n_KT 3 C G b_13_18 mc ms qf) (q : qf s0 S V) (hc : nc ≤ mc) (hs : ns ≤ ms) : j_ok n_KT 3 C G 72 [] [(0, s0)] S V nc ns := by
  have E := n_E h
  exact R _ _ _ _ _ _ _ d13_18_72 q hc hs
theorem t13_18_73 {C : qCx} {G : jG} {S : jS} {V : jH} {nc ns : Nat} {l0 l1 l2 : Int} {mc ms : Nat} {pp : Int → Int → Int → Int → jS → jH → Prop} {qq : Int → Int → Int → Int → jS → jH → Int → jS → jH → Prop} (h : x13_18 C G) (L : j_L S) (hrm : C.2.2.2.1.frames = 3 ∧ C.2.2.2.1.locals = 81) (c1 : S.1 l0 = 33) (c2 : 0 ≤ l1) (c3 : l1 < 10) (hM : M13_11 C.2.1 mc ms pp qq) (hp : pp l0 l1 0 0 S V) (hc : nc + mc ≤ C.2.2.2.1.cells) (hs : ns + ms ≤ C.2.2.2.1.slots) (k : ∀ (r : Int) (S' : jS) (V' : jH), qq l0 l1 0 0 S V r S' V' → j_ok n_KT 3 C G 107 [(0, (2, l0)), (1, (0, l1))] [(0, r), (2, l0 + 7), (0, l2), (0, V (l0 + 5) l1), (0, V (l0 + 4) l1), (2, l0)] S' V' (nc + mc) (ns + ms)) : j_ok n_KT 3 C G 73 [(0, (2, l0)), (1, (0, l1)), (2, (0, l2))] [] S V nc ns := by
  have E := n_E h
  refine j_aload_n E d13_18_73 rfl 0 rfl ?_
  refine j_aload_n E d13_18_74 rfl 0 rfl ?_
  refine j_getS (f := 0) (x := l0 + 1) (fg12_10 h) d13_18_75 c1 (by decide) rfl rfl ((L12_0 L c1).trans (by omega)) ?_
  refine j_getS (f := 3) (x := l0 + 4) (fg12_100 h) d13_18_78 (show S.1 (l0 + 1) = 32 from (by have q := L12_0k L c1; rw [show l0 + 1 = l0 + 1 by omega]; exact q)) (by decide) rfl rfl ((L11_3 L (show S.1 (l0 + 1) = 32 from (by have q := L12_0k L c1; rw [show l0 + 1 = l0 + 1 by omega]; exact q))).trans (by omega)) ?_
  refine j_iload_n E d13_18_81 rfl 1 rfl ?_
  refine j_iald E d13_18_82 (j_arr_of (show S.1 (l0 + 4) = 10 from (by have q := L11_3k L (show S.1 (l0 + 1) = 32 from (by have q := L12_0k L c1; rw [show l0 + 1 = l0 + 1 by omega]; exact q)); rw [show l0 + 4 = (l0 + 1) + 3 by omega]; exact q)) (by decide) rfl) c2 c3 ?_
  refine j_aload_n E d13_18_83 rfl 0 rfl ?_
  refine j_getS (f := 0) (x := l0 + 1) (fg12_10 h) d13_18_84 c1 (by decide) rfl rfl ((L12_0 L c1).trans (by omega)) ?_
  refine j_getS (f := 4) (x := l0 + 5) (fg12_103 h) d13_18_87 (show S.1 (l0 + 1) = 32 from (by have q := L12_0k L c1; rw [show l0 + 1 = l0 + 1 by omega]; exact q)) (by decide) rfl rfl ((L11_4 L (show S.1 (l0 + 1) = 32 from (by have q := L12_0k L c1; rw [show l0 + 1 = l0 + 1 by omega]; exact q))).trans (by omega)) ?_
  refine j_iload_n E d13_18_90 rfl 1 rfl ?_
  refine j_iald E d13_18_91 (j_arr_of (show S.1 (l0 + 5) = 10 from (by have q := L11_4k L (show S.1 (l0 + 1) = 32 from (by have q := L12_0k L c1; rw [show l0 + 1 = l0 + 1 by omega]; exact q)); rw [show l0 + 5 = (l0 + 1) + 4 by omega]; exact q)) (by decide) rfl) c2 c3 ?_
  refine j_iload_n E d13_18_92 rfl 2 rfl ?_
  refine j_aload_n E d13_18_93 rfl 0 rfl ?_
  refine j_getS (f := 0) (x := l0 + 1) (fg12_10 h) d13_18_94 c1 (by decide) rfl rfl ((L12_0 L c1).trans (by omega)) ?_
  refine j_getS (f := 6) (x := l0 + 7) (fg12_110 h) d13_18_97 (show S.1 (l0 + 1) = 32 from (by have q := L12_0k L c1; rw [show l0 + 1 = l0 + 1 by omega]; exact q)) (by decide) rfl rfl ((L11_6 L (show S.1 (l0 + 1) = 32 from (by have q := L12_0k L c1; rw [show l0 + 1 = l0 + 1 by omega]; exact q))).trans (by omega)) ?_
  refine j_aload_n E d13_18_100 rfl 0 rfl ?_
  refine j_iload_n E d13_18_101 rfl 1 rfl ?_
  refine j_iconst E d13_18_102 (by decide) ?_
  refine j_iconst E d13_18_103 (by decide) ?_
  refine j_call E (K13_18_104 h hrm hM) d13_18_104 (a := [(2, l0), (0, l1), (0, 0), (0, 0)]) (sk := [(2, l0 + 7), (0, l2), (0, V (l0 + 5) l1), (0, V (l0 + 4) l1), (2, l0)]) rfl ⟨l0, l1, 0, 0, rfl, c1, hp⟩ (Nat.le_of_ble_eq_true rfl) hc hs ?_
  rintro rs S' V' ⟨z0, z1, z2, z3, r, e1, rfl, q⟩
  simp only [List.cons.injEq, Prod.mk.injEq, and_true, true_and] at e1
  obtain ⟨rfl, rfl, rfl, rfl⟩ := e1
  exact j_pick [0, 1] rfl (k r S' V' q)
theorem t13_18_107 {C : qCx} {G : jG} {S : jS} {V : jH} {nc ns : Nat} {l0 l1 s0 s1 s2 s3 s4 s5 : Int} {mc ms : Nat} {pp : Int → Int → Int → Int → Int → Int → jS → jH → Prop} {qq : Int → Int → Int → Int → Int → Int → jS → jH → jS → jH → Prop} (h : x13_18 C G) (hrm : C.2.2.2.1.frames = 3 ∧ C.2.2.2.1.locals = 81) (c1 : S.1 s5 = 33) (hM : M13_17 C.2.1 mc ms pp qq) (hp : pp s5 s4 s3 s2 s1 s0 S V) (hc : nc + mc ≤ C.2.2.2.1.cells) (hs : ns + ms ≤ C.2.2.2.1.slots) (k : ∀ (S' : jS) (V' : jH), qq s5 s4 s3 s2 s1 s0 S V S' V' → j_ok n_KT 3 C G 110 [(0, (2, l0)), (1, (0, l1))] [] S' V' (nc + mc) (ns + ms)) : j_ok n_KT 3 C G 107 [(0, (2, l0)), (1, (0, l1))] [(0, s0), (2, s1), (0, s2), (0, s3), (0, s4), (2, s5)] S V nc ns := by
  have E := n_E h
  refine j_call E (K13_18_107 h hrm hM) d13_18_107 (a := [(2, s5), (0, s4), (0, s3), (0, s2), (2, s1), (0, s0)]) (sk := []) rfl ⟨s5, s4, s3, s2, s1, s0, rfl, c1, hp⟩ (Nat.le_of_ble_eq_true rfl) hc hs ?_
  rintro rs S' V' ⟨z0, z1, z2, z3, z4, z5, e1, rfl, q⟩
  simp only [List.cons.injEq, Prod.mk.injEq, and_true, true_and] at e1
  obtain ⟨rfl, rfl, rfl, rfl, rfl, rfl⟩ := e1
  exact j_pick [0, 1] rfl (k S' V' q)
theorem t13_18_110 {C : qCx} {G : jG} {S : jS} {V : jH} {nc ns : Nat} {l0 l1 : Int} {mc ms : Nat} {qf : Int → jS → jH → Prop} (h : x13_18 C G) (L : j_L S) (c1 : S.1 l0 = 33) (c2 : 0 ≤ l1) (c3 : l1 < 10) (R : j_Ri n_KT 3 C G b_13_18 mc ms qf) (q : qf 0 S (j_up V (l0 + 6) l1 1)) (hc : nc ≤ mc) (hs : ns ≤ ms) : j_ok n_KT 3 C G 110 [(0, (2, l0)), (1, (0, l1))] [] S V nc ns := by
  have E := n_E h
  refine j_aload_n E d13_18_110 rfl 0 rfl ?_
  refine j_getS (f := 0) (x := l0 + 1) (fg12_10 h) d13_18_111 c1 (by decide) rfl rfl ((L12_0 L c1).trans (by omega)) ?_
  refine j_getS (f := 5) (x := l0 + 6) (fg12_106 h) d13_18_114 (show S.1 (l0 + 1) = 32 from (by have q := L12_0k L c1; rw [show l0 + 1 = l0 + 1 by omega]; exact q)) (by decide) rfl rfl ((L11_5 L (show S.1 (l0 + 1) = 32 from (by have q := L12_0k L c1; rw [show l0 + 1 = l0 + 1 by omega]; exact q))).trans (by omega)) ?_
  refine j_iload_n E d13_18_117 rfl 1 rfl ?_
  refine j_iconst E d13_18_118 (by decide) ?_
  refine j_bastore E d13_18_119 (show S.1 (l0 + 6) = 17 from (by have q := L11_5k L (show S.1 (l0 + 1) = 32 from (by have q := L12_0k L c1; rw [show l0 + 1 = l0 + 1 by omega]; exact q)); rw [show l0 + 6 = (l0 + 1) + 5 by omega]; exact q)) (by decide) rfl c2 c3 (by decide) ?_
  refine j_iconst E d13_18_120 (by decide) ?_
  exact R _ _ _ _ _ _ _ d13_18_121 q hc hs
/- BalanceCoderModel.isPart(II)Z -/
abbrev b_13_19 : ByteArray := prog_13_method_19_code
def y_13_19 : MethodName := ⟨"BalanceCoderModel", "isPart", "(II)Z"⟩
abbrev x13_19 (C : qCx) (G : jG) : Prop := n_ctx C b_13_19 3 "BalanceCoderModel" G.1 G.2.1
def M13_19 (l : Launch) (mc ms : Nat) (p : Int → Int → Int → jS → jH → Prop) (q : Int → Int → Int → jS → jH → Int → jS → jH → Prop) : Prop := j_Met l vwCl n_TL n_NW n_KT y_13_19 (Cond.code y_13_19 b_13_19 3 (some .boolean) :: n_GW) { frames := 2, cells := mc, slots := ms, locals := 51 } mc ms (fun a S V => ∃ u0 u1 u2 : Int, a = [(2, u0), (0, u1), (0, u2)] ∧ S.1 u0 = 33 ∧ p u0 u1 u2 S V) (fun a S V rs S' V' => ∃ u0 u1 u2 r : Int, a = [(2, u0), (0, u1), (0, u2)] ∧ rs = [(0, r)] ∧ q u0 u1 u2 S V r S' V')
theorem e13_19 {l : Launch} {mc ms : Nat} {p : Int → Int → Int → jS → jH → Prop} {q : Int → Int → Int → jS → jH → Int → jS → jH → Prop} (body : ∀ (C : qCx) (G : jG), x13_19 C G → C.2.2.2.1.frames = 2 ∧ C.2.2.2.1.locals = 51 → C.2.2.2.1.cells = mc ∧ C.2.2.2.1.slots = ms → C.2.1 = l → C.2.2.2.2.2.2.2.2.1.name = "isPart" → ∀ (u0 u1 u2 : Int) (S : jS) (V : jH), S.1 u0 = 33 → p u0 u1 u2 S V → j_Rz n_KT 3 C G b_13_19 mc ms (q u0 u1 u2 S V) → j_ok n_KT 3 C G 0 [(0, (2, u0)), (1, (0, u1)), (2, (0, u2))] [] S V 0 0) : M13_19 l mc ms p q := by
  refine j_method (ws' := n_GW) (by decide) rfl ?_ ?_
  · rintro a S V ⟨u0, u1, u2, rfl, -⟩
    exact Nat.le_of_ble_eq_true rfl
  · rintro C G htl hl hrm hm hml ho hts hnm hE a S V ⟨u0, u1, u2, rfl, ht, hp⟩ R
    exact body C G ⟨htl, hm, hml, ho, fun w hw => hts w (List.mem_cons_of_mem _ hw), hE⟩ (by rw [hrm]; exact ⟨rfl, rfl⟩) (by rw [hrm]; exact ⟨rfl, rfl⟩) hl hnm u0 u1 u2 S V ht hp (fun pc lo r S' V' nc ns d z q hc hs => R.2.2.1 rfl pc lo r S' V' nc ns d z ⟨u0, u1, u2, r, rfl, rfl, q⟩ hc hs)
theorem d13_19_0 : decode b_13_19 0 = .ok (.iload_n 2, 1) := by decide +kernel
theorem d13_19_1 : decode b_13_19 1 = .ok (.i2l, 1) := by decide +kernel
theorem d13_19_2 : decode b_13_19 2 = .ok (.lconst 0, 1) := by decide +kernel
theorem d13_19_3 : decode b_13_19 3 = .ok (.aload_n 0, 1) := by decide +kernel
theorem d13_19_4 : decode b_13_19 4 = .ok (.getfield 10, 3) := by decide +kernel
theorem d13_19_7 : decode b_13_19 7 = .ok (.getfield 100, 3) := by decide +kernel
theorem d13_19_10 : decode b_13_19 10 = .ok (.iload_n 1, 1) := by decide +kernel
theorem d13_19_11 : decode b_13_19 11 = .ok (.iaload, 1) := by decide +kernel
theorem d13_19_12 : decode b_13_19 12 = .ok (.iconst 3, 1) := by decide +kernel
theorem d13_19_13 : decode b_13_19 13 = .ok (.if_icmp .ne 9, 3) := by decide +kernel
theorem d13_19_16 : decode b_13_19 16 = .ok (.ldc2_w 137, 3) := by decide +kernel
theorem d13_19_19 : decode b_13_19 19 = .ok (.goto 4, 3) := by decide +kernel
theorem d13_19_22 : decode b_13_19 22 = .ok (.lconst 0, 1) := by decide +kernel
theorem d13_19_23 : decode b_13_19 23 = .ok (.invokestatic 69, 3) := by decide +kernel
theorem d13_19_26 : decode b_13_19 26 = .ok (.ireturn, 1) := by decide +kernel
theorem K13_19_23 {C : qCx} {G : jG} {mc ms : Nat} {p : Int → Int → Int → jS → jH → Prop} {q : Int → Int → Int → jS → jH → Int → jS → jH → Prop} (h : x13_19 C G) (hrm : C.2.2.2.1.frames = 2 ∧ C.2.2.2.1.locals = 51) (hM : M13_3 C.2.1 mc ms p q) : j_Call C b_13_19 n_KT G.1 G.2.1 3 (.invokestatic 69) mc ms (fun a S V => ∃ u0 u1 u2 : Int, a = [(1, u0), (1, u1), (1, u2)] ∧ p u0 u1 u2 S V) (fun a S V rs S' V' => ∃ u0 u1 u2 r : Int, a = [(1, u0), (1, u1), (1, u2)] ∧ rs = [(0, r)] ∧ q u0 u1 u2 S V r S' V') := j_callS n_NWk h.2.2.2.2.2 h.1 hM ⟨h.2.1.1, h.2.1.2, h.2.2.1, h.2.2.2.1, h.2.2.2.2.1⟩ ⟨n_CB (y := y_13_3) (bytes := b_13_3) 3 h.2.2.2.2.1 n_w923 n_w921 n_w12 ⟨by decide, by decide, by decide +kernel⟩ rfl rfl ⟨by rw [hrm.1]; exact Nat.le_of_ble_eq_true rfl, by rw [hrm.2]; exact Nat.le_of_ble_eq_true rfl⟩, h.2.2.2.2.1 _ n_w922⟩ (fun a S V hP => by obtain ⟨u0, u1, u2, rfl, -⟩ := hP; rfl)
theorem t13_19_0 {C : qCx} {G : jG} {S : jS} {V : jH} {nc ns : Nat} {l0 l1 l2 : Int} (h : x13_19 C G) (L : j_L S) (c1 : S.1 l0 = 33) (c2 : 0 ≤ l1) (c3 : l1 < 10) (k : ¬ V (l0 + 4) l1 = 3 → j_ok n_KT 3 C G 22 [] [(1, 0), (1, l2)] S V nc ns) (k' : V (l0 + 4) l1 = 3 → j_ok n_KT 3 C G 16 [] [(1, 0), (1, l2)] S V nc ns) : j_ok n_KT 3 C G 0 [(0, (2, l0)), (1, (0, l1)), (2, (0, l2))] [] S V nc ns := by
  have E := n_E h
  refine j_iload_n E d13_19_0 rfl 2 rfl ?_
  refine j_i2l E d13_19_1 ?_
  refine j_lconst E d13_19_2 ?_
  refine j_aload_n E d13_19_3 rfl 0 rfl ?_
  refine j_getS (f := 0) (x := l0 + 1) (fg12_10 h) d13_19_4 c1 (by decide) rfl rfl ((L12_0 L c1).trans (by omega)) ?_
  refine j_getS (f := 3) (x := l0 + 4) (fg12_100 h) d13_19_7 (show S.1 (l0 + 1) = 32 from (by have q := L12_0k L c1; rw [show l0 + 1 = l0 + 1 by omega]; exact q)) (by decide) rfl rfl ((L11_3 L (show S.1 (l0 + 1) = 32 from (by have q := L12_0k L c1; rw [show l0 + 1 = l0 + 1 by omega]; exact q))).trans (by omega)) ?_
  refine j_iload_n E d13_19_10 rfl 1 rfl ?_
  refine j_iald E d13_19_11 (j_arr_of (show S.1 (l0 + 4) = 10 from (by have q := L11_3k L (show S.1 (l0 + 1) = 32 from (by have q := L12_0k L c1; rw [show l0 + 1 = l0 + 1 by omega]; exact q)); rw [show l0 + 4 = (l0 + 1) + 3 by omega]; exact q)) (by decide) rfl) c2 c3 ?_
  refine j_iconst E d13_19_12 (by decide) ?_
  exact j_icmp_ne E d13_19_13 (t := 22) rfl (fun q => j_pick [] rfl (k q)) (fun q => j_pick [] rfl (k' q))
theorem t13_19_16 {C : qCx} {G : jG} {S : jS} {V : jH} {nc ns : Nat} {s0 s1 : Int} (h : x13_19 C G)  (k : j_ok n_KT 3 C G 23 [] [(1, 3), (1, s0), (1, s1)] S V nc ns) : j_ok n_KT 3 C G 16 [] [(1, s0), (1, s1)] S V nc ns := by
  have E := n_E h
  refine j_ldc2 (n := 3) (fl12_137 h) rfl d13_19_16 ?_
  refine j_goto E d13_19_19 (t := 23) rfl ?_
  exact j_pick [] rfl k
theorem t13_19_22 {C : qCx} {G : jG} {S : jS} {V : jH} {nc ns : Nat} {s0 s1 : Int} (h : x13_19 C G)  (k : j_ok n_KT 3 C G 23 [] [(1, 0), (1, s0), (1, s1)] S V nc ns) : j_ok n_KT 3 C G 22 [] [(1, s0), (1, s1)] S V nc ns := by
  have E := n_E h
  refine j_lconst E d13_19_22 ?_
  exact j_pick [] rfl k
theorem t13_19_23 {C : qCx} {G : jG} {S : jS} {V : jH} {nc ns : Nat} {s0 s1 s2 : Int} {mc ms : Nat} {pp : Int → Int → Int → jS → jH → Prop} {qq : Int → Int → Int → jS → jH → Int → jS → jH → Prop} (h : x13_19 C G) (hrm : C.2.2.2.1.frames = 2 ∧ C.2.2.2.1.locals = 51)  (hM : M13_3 C.2.1 mc ms pp qq) (hp : pp s2 s1 s0 S V) (hc : nc + mc ≤ C.2.2.2.1.cells) (hs : ns + ms ≤ C.2.2.2.1.slots) (k : ∀ (r : Int) (S' : jS) (V' : jH), qq s2 s1 s0 S V r S' V' → j_ok n_KT 3 C G 26 [] [(0, r)] S' V' (nc + mc) (ns + ms)) : j_ok n_KT 3 C G 23 [] [(1, s0), (1, s1), (1, s2)] S V nc ns := by
  have E := n_E h
  refine j_call E (K13_19_23 h hrm hM) d13_19_23 (a := [(1, s2), (1, s1), (1, s0)]) (sk := []) rfl ⟨s2, s1, s0, rfl, hp⟩ (Nat.le_of_ble_eq_true rfl) hc hs ?_
  rintro rs S' V' ⟨z0, z1, z2, r, e1, rfl, q⟩
  simp only [List.cons.injEq, Prod.mk.injEq, and_true, true_and] at e1
  obtain ⟨rfl, rfl, rfl⟩ := e1
  exact j_pick [] rfl (k r S' V' q)
theorem t13_19_26 {C : qCx} {G : jG} {S : jS} {V : jH} {nc ns : Nat} {s0 : Int} {mc ms : Nat} {qf : Int → jS → jH → Prop} (h : x13_19 C G)  (R : j_Rz n_KT 3 C G b_13_19 mc ms qf) (hz : 0 ≤ s0 ∧ s0 ≤ 1) (q : qf s0 S V) (hc : nc ≤ mc) (hs : ns ≤ ms) : j_ok n_KT 3 C G 26 [] [(0, s0)] S V nc ns := by
  have E := n_E h
  exact R _ _ _ _ _ _ _ d13_19_26 hz q hc hs
/- BalanceCoderModel.isOpen(I)Z -/
abbrev b_13_14 : ByteArray := prog_13_method_14_code
def y_13_14 : MethodName := ⟨"BalanceCoderModel", "isOpen", "(I)Z"⟩
abbrev x13_14 (C : qCx) (G : jG) : Prop := n_ctx C b_13_14 2 "BalanceCoderModel" G.1 G.2.1
def M13_14 (l : Launch) (mc ms : Nat) (p : Int → Int → jS → jH → Prop) (q : Int → Int → jS → jH → Int → jS → jH → Prop) : Prop := j_Met l vwCl n_TL n_NW n_KT y_13_14 (Cond.code y_13_14 b_13_14 2 (some .boolean) :: n_GW) { frames := 3, cells := mc, slots := ms, locals := 73 } mc ms (fun a S V => ∃ u0 u1 : Int, a = [(2, u0), (0, u1)] ∧ S.1 u0 = 33 ∧ p u0 u1 S V) (fun a S V rs S' V' => ∃ u0 u1 r : Int, a = [(2, u0), (0, u1)] ∧ rs = [(0, r)] ∧ q u0 u1 S V r S' V')
theorem e13_14 {l : Launch} {mc ms : Nat} {p : Int → Int → jS → jH → Prop} {q : Int → Int → jS → jH → Int → jS → jH → Prop} (body : ∀ (C : qCx) (G : jG), x13_14 C G → C.2.2.2.1.frames = 3 ∧ C.2.2.2.1.locals = 73 → C.2.2.2.1.cells = mc ∧ C.2.2.2.1.slots = ms → C.2.1 = l → C.2.2.2.2.2.2.2.2.1.name = "isOpen" → ∀ (u0 u1 : Int) (S : jS) (V : jH), S.1 u0 = 33 → p u0 u1 S V → j_Rz n_KT 2 C G b_13_14 mc ms (q u0 u1 S V) → j_ok n_KT 2 C G 0 [(0, (2, u0)), (1, (0, u1))] [] S V 0 0) : M13_14 l mc ms p q := by
  refine j_method (ws' := n_GW) (by decide) rfl ?_ ?_
  · rintro a S V ⟨u0, u1, rfl, -⟩
    exact Nat.le_of_ble_eq_true rfl
  · rintro C G htl hl hrm hm hml ho hts hnm hE a S V ⟨u0, u1, rfl, ht, hp⟩ R
    exact body C G ⟨htl, hm, hml, ho, fun w hw => hts w (List.mem_cons_of_mem _ hw), hE⟩ (by rw [hrm]; exact ⟨rfl, rfl⟩) (by rw [hrm]; exact ⟨rfl, rfl⟩) hl hnm u0 u1 S V ht hp (fun pc lo r S' V' nc ns d z q hc hs => R.2.2.1 rfl pc lo r S' V' nc ns d z ⟨u0, u1, r, rfl, rfl, q⟩ hc hs)
theorem d13_14_0 : decode b_13_14 0 = .ok (.aload_n 0, 1) := by decide +kernel
theorem d13_14_1 : decode b_13_14 1 = .ok (.getfield 10, 3) := by decide +kernel
theorem d13_14_4 : decode b_13_14 4 = .ok (.getfield 100, 3) := by decide +kernel
theorem d13_14_7 : decode b_13_14 7 = .ok (.iload_n 1, 1) := by decide +kernel
theorem d13_14_8 : decode b_13_14 8 = .ok (.iaload, 1) := by decide +kernel
theorem d13_14_9 : decode b_13_14 9 = .ok (.ifCond .ne 31, 3) := by decide +kernel
theorem d13_14_12 : decode b_13_14 12 = .ok (.aload_n 0, 1) := by decide +kernel
theorem d13_14_13 : decode b_13_14 13 = .ok (.iload_n 1, 1) := by decide +kernel
theorem d13_14_14 : decode b_13_14 14 = .ok (.iconst 0, 1) := by decide +kernel
theorem d13_14_15 : decode b_13_14 15 = .ok (.invokevirtual 120, 3) := by decide +kernel
theorem d13_14_18 : decode b_13_14 18 = .ok (.iconst 1, 1) := by decide +kernel
theorem d13_14_19 : decode b_13_14 19 = .ok (.aload_n 0, 1) := by decide +kernel
theorem d13_14_20 : decode b_13_14 20 = .ok (.getfield 10, 3) := by decide +kernel
theorem d13_14_23 : decode b_13_14 23 = .ok (.getfield 103, 3) := by decide +kernel
theorem d13_14_26 : decode b_13_14 26 = .ok (.iload_n 1, 1) := by decide +kernel
theorem d13_14_27 : decode b_13_14 27 = .ok (.iaload, 1) := by decide +kernel
theorem d13_14_28 : decode b_13_14 28 = .ok (.ishl, 1) := by decide +kernel
theorem d13_14_29 : decode b_13_14 29 = .ok (.if_icmp .eq 7, 3) := by decide +kernel
theorem d13_14_32 : decode b_13_14 32 = .ok (.iconst 1, 1) := by decide +kernel
theorem d13_14_33 : decode b_13_14 33 = .ok (.goto 50, 3) := by decide +kernel
theorem d13_14_36 : decode b_13_14 36 = .ok (.iconst 0, 1) := by decide +kernel
theorem d13_14_37 : decode b_13_14 37 = .ok (.goto 46, 3) := by decide +kernel
theorem d13_14_40 : decode b_13_14 40 = .ok (.aload_n 0, 1) := by decide +kernel
theorem d13_14_41 : decode b_13_14 41 = .ok (.getfield 10, 3) := by decide +kernel
theorem d13_14_44 : decode b_13_14 44 = .ok (.getfield 100, 3) := by decide +kernel
theorem d13_14_47 : decode b_13_14 47 = .ok (.iload_n 1, 1) := by decide +kernel
theorem d13_14_48 : decode b_13_14 48 = .ok (.iaload, 1) := by decide +kernel
theorem d13_14_49 : decode b_13_14 49 = .ok (.iconst 2, 1) := by decide +kernel
theorem d13_14_50 : decode b_13_14 50 = .ok (.if_icmp .eq 16, 3) := by decide +kernel
theorem d13_14_53 : decode b_13_14 53 = .ok (.aload_n 0, 1) := by decide +kernel
theorem d13_14_54 : decode b_13_14 54 = .ok (.getfield 10, 3) := by decide +kernel
theorem d13_14_57 : decode b_13_14 57 = .ok (.getfield 100, 3) := by decide +kernel
theorem d13_14_60 : decode b_13_14 60 = .ok (.iload_n 1, 1) := by decide +kernel
theorem d13_14_61 : decode b_13_14 61 = .ok (.iaload, 1) := by decide +kernel
theorem d13_14_62 : decode b_13_14 62 = .ok (.iconst 3, 1) := by decide +kernel
theorem d13_14_63 : decode b_13_14 63 = .ok (.if_icmp .ne 19, 3) := by decide +kernel
theorem d13_14_66 : decode b_13_14 66 = .ok (.aload_n 0, 1) := by decide +kernel
theorem d13_14_67 : decode b_13_14 67 = .ok (.getfield 10, 3) := by decide +kernel
theorem d13_14_70 : decode b_13_14 70 = .ok (.getfield 106, 3) := by decide +kernel
theorem d13_14_73 : decode b_13_14 73 = .ok (.iload_n 1, 1) := by decide +kernel
theorem d13_14_74 : decode b_13_14 74 = .ok (.baload, 1) := by decide +kernel
theorem d13_14_75 : decode b_13_14 75 = .ok (.ifCond .ne 7, 3) := by decide +kernel
theorem d13_14_78 : decode b_13_14 78 = .ok (.iconst 1, 1) := by decide +kernel
theorem d13_14_79 : decode b_13_14 79 = .ok (.goto 4, 3) := by decide +kernel
theorem d13_14_82 : decode b_13_14 82 = .ok (.iconst 0, 1) := by decide +kernel
theorem d13_14_83 : decode b_13_14 83 = .ok (.ireturn, 1) := by decide +kernel
theorem K13_14_15 {C : qCx} {G : jG} {mc ms : Nat} {p : Int → Int → Int → jS → jH → Prop} {q : Int → Int → Int → jS → jH → Int → jS → jH → Prop} (h : x13_14 C G) (hrm : C.2.2.2.1.frames = 3 ∧ C.2.2.2.1.locals = 73) (hM : M13_12 C.2.1 mc ms p q) : j_Call C b_13_14 n_KT G.1 G.2.1 2 (.invokevirtual 120) mc ms (fun a S V => ∃ u0 u1 u2 : Int, a = [(2, u0), (0, u1), (0, u2)] ∧ S.1 u0 = 33 ∧ p u0 u1 u2 S V) (fun a S V rs S' V' => ∃ u0 u1 u2 r : Int, a = [(2, u0), (0, u1), (0, u2)] ∧ rs = [(0, r)] ∧ q u0 u1 u2 S V r S' V') := j_callV n_NWk h.2.2.2.2.2 h.1 hM ⟨h.2.1.1, h.2.1.2, h.2.2.1, h.2.2.2.1, h.2.2.2.2.1⟩ ⟨n_CB (y := y_13_12) (bytes := b_13_12) 2 h.2.2.2.2.1 n_w960 n_w957 n_w12 ⟨by decide, by decide, by decide +kernel⟩ rfl rfl ⟨by rw [hrm.1]; exact Nat.le_of_ble_eq_true rfl, by rw [hrm.2]; exact Nat.le_of_ble_eq_true rfl⟩, h.2.2.2.2.1 _ n_w959, h.2.2.2.2.1 _ n_s29⟩ (Cn := RX12) (fun a S V hP => by obtain ⟨u0, u1, u2, rfl, e, -⟩ := hP; exact ⟨u0, _, 12, _, _, TX12, 31, rfl, rfl, by rw [e]; decide, by rw [e]; rfl, rfl⟩)
theorem t13_14_0 {C : qCx} {G : jG} {S : jS} {V : jH} {nc ns : Nat} {l0 l1 : Int} (h : x13_14 C G) (L : j_L S) (c1 : S.1 l0 = 33) (c2 : 0 ≤ l1) (c3 : l1 < 10) (k : ¬ V (l0 + 4) l1 = 0 → j_ok n_KT 2 C G 40 [(0, (2, l0)), (1, (0, l1))] [] S V nc ns) (k' : V (l0 + 4) l1 = 0 → j_ok n_KT 2 C G 12 [(0, (2, l0)), (1, (0, l1))] [] S V nc ns) : j_ok n_KT 2 C G 0 [(0, (2, l0)), (1, (0, l1))] [] S V nc ns := by
  have E := n_E h
  refine j_aload_n E d13_14_0 rfl 0 rfl ?_
  refine j_getS (f := 0) (x := l0 + 1) (fg12_10 h) d13_14_1 c1 (by decide) rfl rfl ((L12_0 L c1).trans (by omega)) ?_
  refine j_getS (f := 3) (x := l0 + 4) (fg12_100 h) d13_14_4 (show S.1 (l0 + 1) = 32 from (by have q := L12_0k L c1; rw [show l0 + 1 = l0 + 1 by omega]; exact q)) (by decide) rfl rfl ((L11_3 L (show S.1 (l0 + 1) = 32 from (by have q := L12_0k L c1; rw [show l0 + 1 = l0 + 1 by omega]; exact q))).trans (by omega)) ?_
  refine j_iload_n E d13_14_7 rfl 1 rfl ?_
  refine j_iald E d13_14_8 (j_arr_of (show S.1 (l0 + 4) = 10 from (by have q := L11_3k L (show S.1 (l0 + 1) = 32 from (by have q := L12_0k L c1; rw [show l0 + 1 = l0 + 1 by omega]; exact q)); rw [show l0 + 4 = (l0 + 1) + 3 by omega]; exact q)) (by decide) rfl) c2 c3 ?_
  exact j_if_ne E d13_14_9 (t := 40) rfl (fun q => j_pick [0, 1] rfl (k q)) (fun q => j_pick [0, 1] rfl (k' q))
theorem t13_14_12 {C : qCx} {G : jG} {S : jS} {V : jH} {nc ns : Nat} {l0 l1 : Int} {mc ms : Nat} {pp : Int → Int → Int → jS → jH → Prop} {qq : Int → Int → Int → jS → jH → Int → jS → jH → Prop} (h : x13_14 C G) (hrm : C.2.2.2.1.frames = 3 ∧ C.2.2.2.1.locals = 73) (c1 : S.1 l0 = 33) (hM : M13_12 C.2.1 mc ms pp qq) (hp : pp l0 l1 0 S V) (hc : nc + mc ≤ C.2.2.2.1.cells) (hs : ns + ms ≤ C.2.2.2.1.slots) (k : ∀ (r : Int) (S' : jS) (V' : jH), qq l0 l1 0 S V r S' V' → j_ok n_KT 2 C G 18 [(0, (2, l0)), (1, (0, l1))] [(0, r)] S' V' (nc + mc) (ns + ms)) : j_ok n_KT 2 C G 12 [(0, (2, l0)), (1, (0, l1))] [] S V nc ns := by
  have E := n_E h
  refine j_aload_n E d13_14_12 rfl 0 rfl ?_
  refine j_iload_n E d13_14_13 rfl 1 rfl ?_
  refine j_iconst E d13_14_14 (by decide) ?_
  refine j_call E (K13_14_15 h hrm hM) d13_14_15 (a := [(2, l0), (0, l1), (0, 0)]) (sk := []) rfl ⟨l0, l1, 0, rfl, c1, hp⟩ (Nat.le_of_ble_eq_true rfl) hc hs ?_
  rintro rs S' V' ⟨z0, z1, z2, r, e1, rfl, q⟩
  simp only [List.cons.injEq, Prod.mk.injEq, and_true, true_and] at e1
  obtain ⟨rfl, rfl, rfl⟩ := e1
  exact j_pick [0, 1] rfl (k r S' V' q)
theorem t13_14_18 {C : qCx} {G : jG} {S : jS} {V : jH} {nc ns : Nat} {l0 l1 s0 : Int} (h : x13_14 C G) (L : j_L S) (c1 : S.1 l0 = 33) (c2 : 0 ≤ l1) (c3 : l1 < 10) (c4 : 0 ≤ V (l0 + 5) l1) (c5 : V (l0 + 5) l1 ≤ 30) (k : s0 = 2 ^ (V (l0 + 5) l1).toNat → j_ok n_KT 2 C G 36 [] [] S V nc ns) (k' : ¬ s0 = 2 ^ (V (l0 + 5) l1).toNat → j_ok n_KT 2 C G 32 [] [] S V nc ns) : j_ok n_KT 2 C G 18 [(0, (2, l0)), (1, (0, l1))] [(0, s0)] S V nc ns := by
  have E := n_E h
  refine j_iconst E d13_14_18 (by decide) ?_
  refine j_aload_n E d13_14_19 rfl 0 rfl ?_
  refine j_getS (f := 0) (x := l0 + 1) (fg12_10 h) d13_14_20 c1 (by decide) rfl rfl ((L12_0 L c1).trans (by omega)) ?_
  refine j_getS (f := 4) (x := l0 + 5) (fg12_103 h) d13_14_23 (show S.1 (l0 + 1) = 32 from (by have q := L12_0k L c1; rw [show l0 + 1 = l0 + 1 by omega]; exact q)) (by decide) rfl rfl ((L11_4 L (show S.1 (l0 + 1) = 32 from (by have q := L12_0k L c1; rw [show l0 + 1 = l0 + 1 by omega]; exact q))).trans (by omega)) ?_
  refine j_iload_n E d13_14_26 rfl 1 rfl ?_
  refine j_iald E d13_14_27 (j_arr_of (show S.1 (l0 + 5) = 10 from (by have q := L11_4k L (show S.1 (l0 + 1) = 32 from (by have q := L12_0k L c1; rw [show l0 + 1 = l0 + 1 by omega]; exact q)); rw [show l0 + 5 = (l0 + 1) + 4 by omega]; exact q)) (by decide) rfl) c2 c3 ?_
  refine j_ishl1 E d13_14_28 rfl c4 c5 ?_
  exact j_icmp_eq E d13_14_29 (t := 36) rfl (fun q => j_pick [] rfl (k q)) (fun q => j_pick [] rfl (k' q))
theorem t13_14_32 {C : qCx} {G : jG} {S : jS} {V : jH} {nc ns : Nat} (h : x13_14 C G)  (k : j_ok n_KT 2 C G 83 [] [(0, 1)] S V nc ns) : j_ok n_KT 2 C G 32 [] [] S V nc ns := by
  have E := n_E h
  refine j_iconst E d13_14_32 (by decide) ?_
  refine j_goto E d13_14_33 (t := 83) rfl ?_
  exact j_pick [] rfl k
theorem t13_14_36 {C : qCx} {G : jG} {S : jS} {V : jH} {nc ns : Nat} (h : x13_14 C G)  (k : j_ok n_KT 2 C G 83 [] [(0, 0)] S V nc ns) : j_ok n_KT 2 C G 36 [] [] S V nc ns := by
  have E := n_E h
  refine j_iconst E d13_14_36 (by decide) ?_
  refine j_goto E d13_14_37 (t := 83) rfl ?_
  exact j_pick [] rfl k
theorem t13_14_40 {C : qCx} {G : jG} {S : jS} {V : jH} {nc ns : Nat} {l0 l1 : Int} (h : x13_14 C G) (L : j_L S) (c1 : S.1 l0 = 33) (c2 : 0 ≤ l1) (c3 : l1 < 10) (k : V (l0 + 4) l1 = 2 → j_ok n_KT 2 C G 66 [(0, (2, l0)), (1, (0, l1))] [] S V nc ns) (k' : ¬ V (l0 + 4) l1 = 2 → j_ok n_KT 2 C G 53 [(0, (2, l0)), (1, (0, l1))] [] S V nc ns) : j_ok n_KT 2 C G 40 [(0, (2, l0)), (1, (0, l1))] [] S V nc ns := by
  have E := n_E h
  refine j_aload_n E d13_14_40 rfl 0 rfl ?_
  refine j_getS (f := 0) (x := l0 + 1) (fg12_10 h) d13_14_41 c1 (by decide) rfl rfl ((L12_0 L c1).trans (by omega)) ?_
  refine j_getS (f := 3) (x := l0 + 4) (fg12_100 h) d13_14_44 (show S.1 (l0 + 1) = 32 from (by have q := L12_0k L c1; rw [show l0 + 1 = l0 + 1 by omega]; exact q)) (by decide) rfl rfl ((L11_3 L (show S.1 (l0 + 1) = 32 from (by have q := L12_0k L c1; rw [show l0 + 1 = l0 + 1 by omega]; exact q))).trans (by omega)) ?_
  refine j_iload_n E d13_14_47 rfl 1 rfl ?_
  refine j_iald E d13_14_48 (j_arr_of (show S.1 (l0 + 4) = 10 from (by have q := L11_3k L (show S.1 (l0 + 1) = 32 from (by have q := L12_0k L c1; rw [show l0 + 1 = l0 + 1 by omega]; exact q)); rw [show l0 + 4 = (l0 + 1) + 3 by omega]; exact q)) (by decide) rfl) c2 c3 ?_
  refine j_iconst E d13_14_49 (by decide) ?_
  exact j_icmp_eq E d13_14_50 (t := 66) rfl (fun q => j_pick [0, 1] rfl (k q)) (fun q => j_pick [0, 1] rfl (k' q))
theorem t13_14_53 {C : qCx} {G : jG} {S : jS} {V : jH} {nc ns : Nat} {l0 l1 : Int} (h : x13_14 C G) (L : j_L S) (c1 : S.1 l0 = 33) (c2 : 0 ≤ l1) (c3 : l1 < 10) (k : ¬ V (l0 + 4) l1 = 3 → j_ok n_KT 2 C G 82 [] [] S V nc ns) (k' : V (l0 + 4) l1 = 3 → j_ok n_KT 2 C G 66 [(0, (2, l0)), (1, (0, l1))] [] S V nc ns) : j_ok n_KT 2 C G 53 [(0, (2, l0)), (1, (0, l1))] [] S V nc ns := by
  have E := n_E h
  refine j_aload_n E d13_14_53 rfl 0 rfl ?_
  refine j_getS (f := 0) (x := l0 + 1) (fg12_10 h) d13_14_54 c1 (by decide) rfl rfl ((L12_0 L c1).trans (by omega)) ?_
  refine j_getS (f := 3) (x := l0 + 4) (fg12_100 h) d13_14_57 (show S.1 (l0 + 1) = 32 from (by have q := L12_0k L c1; rw [show l0 + 1 = l0 + 1 by omega]; exact q)) (by decide) rfl rfl ((L11_3 L (show S.1 (l0 + 1) = 32 from (by have q := L12_0k L c1; rw [show l0 + 1 = l0 + 1 by omega]; exact q))).trans (by omega)) ?_
  refine j_iload_n E d13_14_60 rfl 1 rfl ?_
  refine j_iald E d13_14_61 (j_arr_of (show S.1 (l0 + 4) = 10 from (by have q := L11_3k L (show S.1 (l0 + 1) = 32 from (by have q := L12_0k L c1; rw [show l0 + 1 = l0 + 1 by omega]; exact q)); rw [show l0 + 4 = (l0 + 1) + 3 by omega]; exact q)) (by decide) rfl) c2 c3 ?_
  refine j_iconst E d13_14_62 (by decide) ?_
  exact j_icmp_ne E d13_14_63 (t := 82) rfl (fun q => j_pick [] rfl (k q)) (fun q => j_pick [0, 1] rfl (k' q))
theorem t13_14_66 {C : qCx} {G : jG} {S : jS} {V : jH} {nc ns : Nat} {l0 l1 : Int} (h : x13_14 C G) (L : j_L S) (c1 : S.1 l0 = 33) (c2 : 0 ≤ l1) (c3 : l1 < 10) (k : ¬ V (l0 + 6) l1 = 0 → j_ok n_KT 2 C G 82 [] [] S V nc ns) (k' : V (l0 + 6) l1 = 0 → j_ok n_KT 2 C G 78 [] [] S V nc ns) : j_ok n_KT 2 C G 66 [(0, (2, l0)), (1, (0, l1))] [] S V nc ns := by
  have E := n_E h
  refine j_aload_n E d13_14_66 rfl 0 rfl ?_
  refine j_getS (f := 0) (x := l0 + 1) (fg12_10 h) d13_14_67 c1 (by decide) rfl rfl ((L12_0 L c1).trans (by omega)) ?_
  refine j_getS (f := 5) (x := l0 + 6) (fg12_106 h) d13_14_70 (show S.1 (l0 + 1) = 32 from (by have q := L12_0k L c1; rw [show l0 + 1 = l0 + 1 by omega]; exact q)) (by decide) rfl rfl ((L11_5 L (show S.1 (l0 + 1) = 32 from (by have q := L12_0k L c1; rw [show l0 + 1 = l0 + 1 by omega]; exact q))).trans (by omega)) ?_
  refine j_iload_n E d13_14_73 rfl 1 rfl ?_
  refine j_baload E d13_14_74 (show S.1 (l0 + 6) = 17 from (by have q := L11_5k L (show S.1 (l0 + 1) = 32 from (by have q := L12_0k L c1; rw [show l0 + 1 = l0 + 1 by omega]; exact q)); rw [show l0 + 6 = (l0 + 1) + 5 by omega]; exact q)) (by decide) rfl c2 c3 ?_
  exact j_if_ne E d13_14_75 (t := 82) rfl (fun q => j_pick [] rfl (k q)) (fun q => j_pick [] rfl (k' q))
theorem t13_14_78 {C : qCx} {G : jG} {S : jS} {V : jH} {nc ns : Nat} (h : x13_14 C G)  (k : j_ok n_KT 2 C G 83 [] [(0, 1)] S V nc ns) : j_ok n_KT 2 C G 78 [] [] S V nc ns := by
  have E := n_E h
  refine j_iconst E d13_14_78 (by decide) ?_
  refine j_goto E d13_14_79 (t := 83) rfl ?_
  exact j_pick [] rfl k
theorem t13_14_82 {C : qCx} {G : jG} {S : jS} {V : jH} {nc ns : Nat} (h : x13_14 C G)  (k : j_ok n_KT 2 C G 83 [] [(0, 0)] S V nc ns) : j_ok n_KT 2 C G 82 [] [] S V nc ns := by
  have E := n_E h
  refine j_iconst E d13_14_82 (by decide) ?_
  exact j_pick [] rfl k
theorem t13_14_83 {C : qCx} {G : jG} {S : jS} {V : jH} {nc ns : Nat} {s0 : Int} {mc ms : Nat} {qf : Int → jS → jH → Prop} (h : x13_14 C G)  (R : j_Rz n_KT 2 C G b_13_14 mc ms qf) (hz : 0 ≤ s0 ∧ s0 ≤ 1) (q : qf s0 S V) (hc : nc ≤ mc) (hs : ns ≤ ms) : j_ok n_KT 2 C G 83 [] [(0, s0)] S V nc ns := by
  have E := n_E h
  exact R _ _ _ _ _ _ _ d13_14_83 hz q hc hs
/- BalanceCoderModel.shares(IIIZ)I -/
abbrev b_13_20 : ByteArray := prog_13_method_20_code
def y_13_20 : MethodName := ⟨"BalanceCoderModel", "shares", "(IIIZ)I"⟩
abbrev x13_20 (C : qCx) (G : jG) : Prop := n_ctx C b_13_20 7 "BalanceCoderModel" G.1 G.2.1
def M13_20 (l : Launch) (mc ms : Nat) (p : Int → Int → Int → Int → Int → jS → jH → Prop) (q : Int → Int → Int → Int → Int → jS → jH → Int → jS → jH → Prop) : Prop := j_Met l vwCl n_TL n_NW n_KT y_13_20 (Cond.code y_13_20 b_13_20 7 (some .int) :: n_GW) { frames := 4, cells := mc, slots := ms, locals := 94 } mc ms (fun a S V => ∃ u0 u1 u2 u3 u4 : Int, a = [(2, u0), (0, u1), (0, u2), (0, u3), (0, u4)] ∧ S.1 u0 = 33 ∧ p u0 u1 u2 u3 u4 S V) (fun a S V rs S' V' => ∃ u0 u1 u2 u3 u4 r : Int, a = [(2, u0), (0, u1), (0, u2), (0, u3), (0, u4)] ∧ rs = [(0, r)] ∧ q u0 u1 u2 u3 u4 S V r S' V')
theorem e13_20 {l : Launch} {mc ms : Nat} {p : Int → Int → Int → Int → Int → jS → jH → Prop} {q : Int → Int → Int → Int → Int → jS → jH → Int → jS → jH → Prop} (body : ∀ (C : qCx) (G : jG), x13_20 C G → C.2.2.2.1.frames = 4 ∧ C.2.2.2.1.locals = 94 → C.2.2.2.1.cells = mc ∧ C.2.2.2.1.slots = ms → C.2.1 = l → C.2.2.2.2.2.2.2.2.1.name = "shares" → ∀ (u0 u1 u2 u3 u4 : Int) (S : jS) (V : jH), S.1 u0 = 33 → p u0 u1 u2 u3 u4 S V → j_Ri n_KT 7 C G b_13_20 mc ms (q u0 u1 u2 u3 u4 S V) → j_ok n_KT 7 C G 0 [(0, (2, u0)), (1, (0, u1)), (2, (0, u2)), (3, (0, u3)), (4, (0, u4))] [] S V 0 0) : M13_20 l mc ms p q := by
  refine j_method (ws' := n_GW) (by decide) rfl ?_ ?_
  · rintro a S V ⟨u0, u1, u2, u3, u4, rfl, -⟩
    exact Nat.le_of_ble_eq_true rfl
  · rintro C G htl hl hrm hm hml ho hts hnm hE a S V ⟨u0, u1, u2, u3, u4, rfl, ht, hp⟩ R
    exact body C G ⟨htl, hm, hml, ho, fun w hw => hts w (List.mem_cons_of_mem _ hw), hE⟩ (by rw [hrm]; exact ⟨rfl, rfl⟩) (by rw [hrm]; exact ⟨rfl, rfl⟩) hl hnm u0 u1 u2 u3 u4 S V ht hp (fun pc lo r S' V' nc ns d q hc hs => R.2.1 rfl pc lo r S' V' nc ns d ⟨u0, u1, u2, u3, u4, r, rfl, rfl, q⟩ hc hs)
theorem d13_20_0 : decode b_13_20 0 = .ok (.aload_n 0, 1) := by decide +kernel
theorem d13_20_1 : decode b_13_20 1 = .ok (.iload_n 1, 1) := by decide +kernel
theorem d13_20_2 : decode b_13_20 2 = .ok (.invokevirtual 117, 3) := by decide +kernel
theorem d13_20_5 : decode b_13_20 5 = .ok (.ifCond .eq 24, 3) := by decide +kernel
theorem d13_20_8 : decode b_13_20 8 = .ok (.aload_n 0, 1) := by decide +kernel
theorem d13_20_9 : decode b_13_20 9 = .ok (.iload_n 1, 1) := by decide +kernel
theorem d13_20_10 : decode b_13_20 10 = .ok (.iload_n 2, 1) := by decide +kernel
theorem d13_20_11 : decode b_13_20 11 = .ok (.invokevirtual 139, 3) := by decide +kernel
theorem d13_20_14 : decode b_13_20 14 = .ok (.ifCond .eq 15, 3) := by decide +kernel
theorem d13_20_17 : decode b_13_20 17 = .ok (.iload_n 3, 1) := by decide +kernel
theorem d13_20_18 : decode b_13_20 18 = .ok (.i2l, 1) := by decide +kernel
theorem d13_20_19 : decode b_13_20 19 = .ok (.lconst 0, 1) := by decide +kernel
theorem d13_20_20 : decode b_13_20 20 = .ok (.ldc2_w 92, 3) := by decide +kernel
theorem d13_20_23 : decode b_13_20 23 = .ok (.invokestatic 69, 3) := by decide +kernel
theorem d13_20_26 : decode b_13_20 26 = .ok (.ifCond .ne 9, 3) := by decide +kernel
theorem d13_20_29 : decode b_13_20 29 = .ok (.aload_n 0, 1) := by decide +kernel
theorem d13_20_30 : decode b_13_20 30 = .ok (.iconst (-1), 1) := by decide +kernel
theorem d13_20_31 : decode b_13_20 31 = .ok (.invokevirtual 82, 3) := by decide +kernel
theorem d13_20_34 : decode b_13_20 34 = .ok (.ireturn, 1) := by decide +kernel
theorem d13_20_35 : decode b_13_20 35 = .ok (.aload_n 0, 1) := by decide +kernel
theorem d13_20_36 : decode b_13_20 36 = .ok (.iload_n 1, 1) := by decide +kernel
theorem d13_20_37 : decode b_13_20 37 = .ok (.invokevirtual 143, 3) := by decide +kernel
theorem d13_20_40 : decode b_13_20 40 = .ok (.ifCond .eq 10, 3) := by decide +kernel
theorem d13_20_43 : decode b_13_20 43 = .ok (.aload_n 0, 1) := by decide +kernel
theorem d13_20_44 : decode b_13_20 44 = .ok (.bipush (-4), 2) := by decide +kernel
theorem d13_20_46 : decode b_13_20 46 = .ok (.invokevirtual 82, 3) := by decide +kernel
theorem d13_20_49 : decode b_13_20 49 = .ok (.ireturn, 1) := by decide +kernel
theorem d13_20_50 : decode b_13_20 50 = .ok (.iload 4, 2) := by decide +kernel
theorem d13_20_52 : decode b_13_20 52 = .ok (.ifCond .ne 19, 3) := by decide +kernel
theorem d13_20_55 : decode b_13_20 55 = .ok (.aload_n 0, 1) := by decide +kernel
theorem d13_20_56 : decode b_13_20 56 = .ok (.getfield 10, 3) := by decide +kernel
theorem d13_20_59 : decode b_13_20 59 = .ok (.getfield 110, 3) := by decide +kernel
theorem d13_20_62 : decode b_13_20 62 = .ok (.aload_n 0, 1) := by decide +kernel
theorem d13_20_63 : decode b_13_20 63 = .ok (.iload_n 1, 1) := by decide +kernel
theorem d13_20_64 : decode b_13_20 64 = .ok (.iload_n 2, 1) := by decide +kernel
theorem d13_20_65 : decode b_13_20 65 = .ok (.iload_n 3, 1) := by decide +kernel
theorem d13_20_66 : decode b_13_20 66 = .ok (.invokevirtual 113, 3) := by decide +kernel
theorem d13_20_69 : decode b_13_20 69 = .ok (.iaload, 1) := by decide +kernel
theorem d13_20_70 : decode b_13_20 70 = .ok (.ireturn, 1) := by decide +kernel
theorem d13_20_71 : decode b_13_20 71 = .ok (.iconst 0, 1) := by decide +kernel
theorem d13_20_72 : decode b_13_20 72 = .ok (.istore 5, 2) := by decide +kernel
theorem d13_20_74 : decode b_13_20 74 = .ok (.iconst 0, 1) := by decide +kernel
theorem d13_20_75 : decode b_13_20 75 = .ok (.istore 6, 2) := by decide +kernel
theorem d13_20_77 : decode b_13_20 77 = .ok (.iload 6, 2) := by decide +kernel
theorem d13_20_79 : decode b_13_20 79 = .ok (.iload_n 3, 1) := by decide +kernel
theorem d13_20_80 : decode b_13_20 80 = .ok (.if_icmp .ge 30, 3) := by decide +kernel
theorem d13_20_83 : decode b_13_20 83 = .ok (.iload 5, 2) := by decide +kernel
theorem d13_20_85 : decode b_13_20 85 = .ok (.aload_n 0, 1) := by decide +kernel
theorem d13_20_86 : decode b_13_20 86 = .ok (.getfield 10, 3) := by decide +kernel
theorem d13_20_89 : decode b_13_20 89 = .ok (.getfield 110, 3) := by decide +kernel
theorem d13_20_92 : decode b_13_20 92 = .ok (.aload_n 0, 1) := by decide +kernel
theorem d13_20_93 : decode b_13_20 93 = .ok (.iload_n 1, 1) := by decide +kernel
theorem d13_20_94 : decode b_13_20 94 = .ok (.iload_n 2, 1) := by decide +kernel
theorem d13_20_95 : decode b_13_20 95 = .ok (.iload 6, 2) := by decide +kernel
theorem d13_20_97 : decode b_13_20 97 = .ok (.invokevirtual 113, 3) := by decide +kernel
theorem d13_20_100 : decode b_13_20 100 = .ok (.iaload, 1) := by decide +kernel
theorem d13_20_101 : decode b_13_20 101 = .ok (.iadd, 1) := by decide +kernel
theorem d13_20_102 : decode b_13_20 102 = .ok (.istore 5, 2) := by decide +kernel
theorem d13_20_104 : decode b_13_20 104 = .ok (.iinc 6 1, 3) := by decide +kernel
theorem d13_20_107 : decode b_13_20 107 = .ok (.goto (-30), 3) := by decide +kernel
theorem d13_20_110 : decode b_13_20 110 = .ok (.iload 5, 2) := by decide +kernel
theorem d13_20_112 : decode b_13_20 112 = .ok (.ireturn, 1) := by decide +kernel
theorem K13_20_2 {C : qCx} {G : jG} {mc ms : Nat} {p : Int → Int → jS → jH → Prop} {q : Int → Int → jS → jH → Int → jS → jH → Prop} (h : x13_20 C G) (hrm : C.2.2.2.1.frames = 4 ∧ C.2.2.2.1.locals = 94) (hM : M13_5 C.2.1 mc ms p q) : j_Call C b_13_20 n_KT G.1 G.2.1 7 (.invokevirtual 117) mc ms (fun a S V => ∃ u0 u1 : Int, a = [(2, u0), (0, u1)] ∧ S.1 u0 = 33 ∧ p u0 u1 S V) (fun a S V rs S' V' => ∃ u0 u1 r : Int, a = [(2, u0), (0, u1)] ∧ rs = [(0, r)] ∧ q u0 u1 S V r S' V') := j_callV n_NWk h.2.2.2.2.2 h.1 hM ⟨h.2.1.1, h.2.1.2, h.2.2.1, h.2.2.2.1, h.2.2.2.2.1⟩ ⟨n_CB (y := y_13_5) (bytes := b_13_5) 1 h.2.2.2.2.1 n_w956 n_w953 n_w12 ⟨by decide, by decide, by decide +kernel⟩ rfl rfl ⟨by rw [hrm.1]; exact Nat.le_of_ble_eq_true rfl, by rw [hrm.2]; exact Nat.le_of_ble_eq_true rfl⟩, h.2.2.2.2.1 _ n_w955, h.2.2.2.2.1 _ n_s28⟩ (Cn := RX12) (fun a S V hP => by obtain ⟨u0, u1, rfl, e, -⟩ := hP; exact ⟨u0, _, 12, _, _, TX12, 31, rfl, rfl, by rw [e]; decide, by rw [e]; rfl, rfl⟩)
theorem K13_20_11 {C : qCx} {G : jG} {mc ms : Nat} {p : Int → Int → Int → jS → jH → Prop} {q : Int → Int → Int → jS → jH → Int → jS → jH → Prop} (h : x13_20 C G) (hrm : C.2.2.2.1.frames = 4 ∧ C.2.2.2.1.locals = 94) (hM : M13_19 C.2.1 mc ms p q) : j_Call C b_13_20 n_KT G.1 G.2.1 7 (.invokevirtual 139) mc ms (fun a S V => ∃ u0 u1 u2 : Int, a = [(2, u0), (0, u1), (0, u2)] ∧ S.1 u0 = 33 ∧ p u0 u1 u2 S V) (fun a S V rs S' V' => ∃ u0 u1 u2 r : Int, a = [(2, u0), (0, u1), (0, u2)] ∧ rs = [(0, r)] ∧ q u0 u1 u2 S V r S' V') := j_callV n_NWk h.2.2.2.2.2 h.1 hM ⟨h.2.1.1, h.2.1.2, h.2.2.1, h.2.2.2.1, h.2.2.2.2.1⟩ ⟨n_CB (y := y_13_19) (bytes := b_13_19) 2 h.2.2.2.2.1 n_w988 n_w985 n_w12 ⟨by decide, by decide, by decide +kernel⟩ rfl rfl ⟨by rw [hrm.1]; exact Nat.le_of_ble_eq_true rfl, by rw [hrm.2]; exact Nat.le_of_ble_eq_true rfl⟩, h.2.2.2.2.1 _ n_w987, h.2.2.2.2.1 _ n_s33⟩ (Cn := RX12) (fun a S V hP => by obtain ⟨u0, u1, u2, rfl, e, -⟩ := hP; exact ⟨u0, _, 12, _, _, TX12, 31, rfl, rfl, by rw [e]; decide, by rw [e]; rfl, rfl⟩)
theorem K13_20_23 {C : qCx} {G : jG} {mc ms : Nat} {p : Int → Int → Int → jS → jH → Prop} {q : Int → Int → Int → jS → jH → Int → jS → jH → Prop} (h : x13_20 C G) (hrm : C.2.2.2.1.frames = 4 ∧ C.2.2.2.1.locals = 94) (hM : M13_3 C.2.1 mc ms p q) : j_Call C b_13_20 n_KT G.1 G.2.1 7 (.invokestatic 69) mc ms (fun a S V => ∃ u0 u1 u2 : Int, a = [(1, u0), (1, u1), (1, u2)] ∧ p u0 u1 u2 S V) (fun a S V rs S' V' => ∃ u0 u1 u2 r : Int, a = [(1, u0), (1, u1), (1, u2)] ∧ rs = [(0, r)] ∧ q u0 u1 u2 S V r S' V') := j_callS n_NWk h.2.2.2.2.2 h.1 hM ⟨h.2.1.1, h.2.1.2, h.2.2.1, h.2.2.2.1, h.2.2.2.2.1⟩ ⟨n_CB (y := y_13_3) (bytes := b_13_3) 3 h.2.2.2.2.1 n_w923 n_w921 n_w12 ⟨by decide, by decide, by decide +kernel⟩ rfl rfl ⟨by rw [hrm.1]; exact Nat.le_of_ble_eq_true rfl, by rw [hrm.2]; exact Nat.le_of_ble_eq_true rfl⟩, h.2.2.2.2.1 _ n_w922⟩ (fun a S V hP => by obtain ⟨u0, u1, u2, rfl, -⟩ := hP; rfl)
theorem K13_20_31 {C : qCx} {G : jG} {mc ms : Nat} {p : Int → Int → jS → jH → Prop} {q : Int → Int → jS → jH → Int → jS → jH → Prop} (h : x13_20 C G) (hrm : C.2.2.2.1.frames = 4 ∧ C.2.2.2.1.locals = 94) (hM : M13_2 C.2.1 mc ms p q) : j_Call C b_13_20 n_KT G.1 G.2.1 7 (.invokevirtual 82) mc ms (fun a S V => ∃ u0 u1 : Int, a = [(2, u0), (0, u1)] ∧ S.1 u0 = 33 ∧ p u0 u1 S V) (fun a S V rs S' V' => ∃ u0 u1 r : Int, a = [(2, u0), (0, u1)] ∧ rs = [(0, r)] ∧ q u0 u1 S V r S' V') := j_callV n_NWk h.2.2.2.2.2 h.1 hM ⟨h.2.1.1, h.2.1.2, h.2.2.1, h.2.2.2.1, h.2.2.2.2.1⟩ ⟨n_CB (y := y_13_2) (bytes := b_13_2) 1 h.2.2.2.2.1 n_w928 n_w925 n_w12 ⟨by decide, by decide, by decide +kernel⟩ rfl rfl ⟨by rw [hrm.1]; exact Nat.le_of_ble_eq_true rfl, by rw [hrm.2]; exact Nat.le_of_ble_eq_true rfl⟩, h.2.2.2.2.1 _ n_w927, h.2.2.2.2.1 _ n_s27⟩ (Cn := RX12) (fun a S V hP => by obtain ⟨u0, u1, rfl, e, -⟩ := hP; exact ⟨u0, _, 12, _, _, TX12, 31, rfl, rfl, by rw [e]; decide, by rw [e]; rfl, rfl⟩)
theorem K13_20_37 {C : qCx} {G : jG} {mc ms : Nat} {p : Int → Int → jS → jH → Prop} {q : Int → Int → jS → jH → Int → jS → jH → Prop} (h : x13_20 C G) (hrm : C.2.2.2.1.frames = 4 ∧ C.2.2.2.1.locals = 94) (hM : M13_14 C.2.1 mc ms p q) : j_Call C b_13_20 n_KT G.1 G.2.1 7 (.invokevirtual 143) mc ms (fun a S V => ∃ u0 u1 : Int, a = [(2, u0), (0, u1)] ∧ S.1 u0 = 33 ∧ p u0 u1 S V) (fun a S V rs S' V' => ∃ u0 u1 r : Int, a = [(2, u0), (0, u1)] ∧ rs = [(0, r)] ∧ q u0 u1 S V r S' V') := j_callV n_NWk h.2.2.2.2.2 h.1 hM ⟨h.2.1.1, h.2.1.2, h.2.2.1, h.2.2.2.1, h.2.2.2.2.1⟩ ⟨n_CB (y := y_13_14) (bytes := b_13_14) 1 h.2.2.2.2.1 n_w993 n_w990 n_w12 ⟨by decide, by decide, by decide +kernel⟩ rfl rfl ⟨by rw [hrm.1]; exact Nat.le_of_ble_eq_true rfl, by rw [hrm.2]; exact Nat.le_of_ble_eq_true rfl⟩, h.2.2.2.2.1 _ n_w992, h.2.2.2.2.1 _ n_s34⟩ (Cn := RX12) (fun a S V hP => by obtain ⟨u0, u1, rfl, e, -⟩ := hP; exact ⟨u0, _, 12, _, _, TX12, 31, rfl, rfl, by rw [e]; decide, by rw [e]; rfl, rfl⟩)
theorem K13_20_46 {C : qCx} {G : jG} {mc ms : Nat} {p : Int → Int → jS → jH → Prop} {q : Int → Int → jS → jH → Int → jS → jH → Prop} (h : x13_20 C G) (hrm : C.2.2.2.1.frames = 4 ∧ C.2.2.2.1.locals = 94) (hM : M13_2 C.2.1 mc ms p q) : j_Call C b_13_20 n_KT G.1 G.2.1 7 (.invokevirtual 82) mc ms (fun a S V => ∃ u0 u1 : Int, a = [(2, u0), (0, u1)] ∧ S.1 u0 = 33 ∧ p u0 u1 S V) (fun a S V rs S' V' => ∃ u0 u1 r : Int, a = [(2, u0), (0, u1)] ∧ rs = [(0, r)] ∧ q u0 u1 S V r S' V') := j_callV n_NWk h.2.2.2.2.2 h.1 hM ⟨h.2.1.1, h.2.1.2, h.2.2.1, h.2.2.2.1, h.2.2.2.2.1⟩ ⟨n_CB (y := y_13_2) (bytes := b_13_2) 1 h.2.2.2.2.1 n_w928 n_w925 n_w12 ⟨by decide, by decide, by decide +kernel⟩ rfl rfl ⟨by rw [hrm.1]; exact Nat.le_of_ble_eq_true rfl, by rw [hrm.2]; exact Nat.le_of_ble_eq_true rfl⟩, h.2.2.2.2.1 _ n_w927, h.2.2.2.2.1 _ n_s27⟩ (Cn := RX12) (fun a S V hP => by obtain ⟨u0, u1, rfl, e, -⟩ := hP; exact ⟨u0, _, 12, _, _, TX12, 31, rfl, rfl, by rw [e]; decide, by rw [e]; rfl, rfl⟩)
theorem K13_20_66 {C : qCx} {G : jG} {mc ms : Nat} {p : Int → Int → Int → Int → jS → jH → Prop} {q : Int → Int → Int → Int → jS → jH → Int → jS → jH → Prop} (h : x13_20 C G) (hrm : C.2.2.2.1.frames = 4 ∧ C.2.2.2.1.locals = 94) (hM : M13_11 C.2.1 mc ms p q) : j_Call C b_13_20 n_KT G.1 G.2.1 7 (.invokevirtual 113) mc ms (fun a S V => ∃ u0 u1 u2 u3 : Int, a = [(2, u0), (0, u1), (0, u2), (0, u3)] ∧ S.1 u0 = 33 ∧ p u0 u1 u2 u3 S V) (fun a S V rs S' V' => ∃ u0 u1 u2 u3 r : Int, a = [(2, u0), (0, u1), (0, u2), (0, u3)] ∧ rs = [(0, r)] ∧ q u0 u1 u2 u3 S V r S' V') := j_callV n_NWk h.2.2.2.2.2 h.1 hM ⟨h.2.1.1, h.2.1.2, h.2.2.1, h.2.2.2.1, h.2.2.2.2.1⟩ ⟨n_CB (y := y_13_11) (bytes := b_13_11) 3 h.2.2.2.2.1 n_w964 n_w961 n_w12 ⟨by decide, by decide, by decide +kernel⟩ rfl rfl ⟨by rw [hrm.1]; exact Nat.le_of_ble_eq_true rfl, by rw [hrm.2]; exact Nat.le_of_ble_eq_true rfl⟩, h.2.2.2.2.1 _ n_w963, h.2.2.2.2.1 _ n_s30⟩ (Cn := RX12) (fun a S V hP => by obtain ⟨u0, u1, u2, u3, rfl, e, -⟩ := hP; exact ⟨u0, _, 12, _, _, TX12, 31, rfl, rfl, by rw [e]; decide, by rw [e]; rfl, rfl⟩)
theorem K13_20_97 {C : qCx} {G : jG} {mc ms : Nat} {p : Int → Int → Int → Int → jS → jH → Prop} {q : Int → Int → Int → Int → jS → jH → Int → jS → jH → Prop} (h : x13_20 C G) (hrm : C.2.2.2.1.frames = 4 ∧ C.2.2.2.1.locals = 94) (hM : M13_11 C.2.1 mc ms p q) : j_Call C b_13_20 n_KT G.1 G.2.1 7 (.invokevirtual 113) mc ms (fun a S V => ∃ u0 u1 u2 u3 : Int, a = [(2, u0), (0, u1), (0, u2), (0, u3)] ∧ S.1 u0 = 33 ∧ p u0 u1 u2 u3 S V) (fun a S V rs S' V' => ∃ u0 u1 u2 u3 r : Int, a = [(2, u0), (0, u1), (0, u2), (0, u3)] ∧ rs = [(0, r)] ∧ q u0 u1 u2 u3 S V r S' V') := j_callV n_NWk h.2.2.2.2.2 h.1 hM ⟨h.2.1.1, h.2.1.2, h.2.2.1, h.2.2.2.1, h.2.2.2.2.1⟩ ⟨n_CB (y := y_13_11) (bytes := b_13_11) 3 h.2.2.2.2.1 n_w964 n_w961 n_w12 ⟨by decide, by decide, by decide +kernel⟩ rfl rfl ⟨by rw [hrm.1]; exact Nat.le_of_ble_eq_true rfl, by rw [hrm.2]; exact Nat.le_of_ble_eq_true rfl⟩, h.2.2.2.2.1 _ n_w963, h.2.2.2.2.1 _ n_s30⟩ (Cn := RX12) (fun a S V hP => by obtain ⟨u0, u1, u2, u3, rfl, e, -⟩ := hP; exact ⟨u0, _, 12, _, _, TX12, 31, rfl, rfl, by rw [e]; decide, by rw [e]; rfl, rfl⟩)
theorem t13_20_0 {C : qCx} {G : jG} {S : jS} {V : jH} {nc ns : Nat} {l0 l1 l2 l3 l4 : Int} {mc ms : Nat} {pp : Int → Int → jS → jH → Prop} {qq : Int → Int → jS → jH → Int → jS → jH → Prop} (h : x13_20 C G) (hrm : C.2.2.2.1.frames = 4 ∧ C.2.2.2.1.locals = 94) (c1 : S.1 l0 = 33) (hM : M13_5 C.2.1 mc ms pp qq) (hp : pp l0 l1 S V) (hc : nc + mc ≤ C.2.2.2.1.cells) (hs : ns + ms ≤ C.2.2.2.1.slots) (k : ∀ (r : Int) (S' : jS) (V' : jH), qq l0 l1 S V r S' V' → j_ok n_KT 7 C G 5 [(0, (2, l0)), (1, (0, l1)), (2, (0, l2)), (3, (0, l3)), (4, (0, l4))] [(0, r)] S' V' (nc + mc) (ns + ms)) : j_ok n_KT 7 C G 0 [(0, (2, l0)), (1, (0, l1)), (2, (0, l2)), (3, (0, l3)), (4, (0, l4))] [] S V nc ns := by
  have E := n_E h
  refine j_aload_n E d13_20_0 rfl 0 rfl ?_
  refine j_iload_n E d13_20_1 rfl 1 rfl ?_
  refine j_call E (K13_20_2 h hrm hM) d13_20_2 (a := [(2, l0), (0, l1)]) (sk := []) rfl ⟨l0, l1, rfl, c1, hp⟩ (Nat.le_of_ble_eq_true rfl) hc hs ?_
  rintro rs S' V' ⟨z0, z1, r, e1, rfl, q⟩
  simp only [List.cons.injEq, Prod.mk.injEq, and_true, true_and] at e1
  obtain ⟨rfl, rfl⟩ := e1
  exact j_pick [0, 1, 2, 3, 4] rfl (k r S' V' q)
theorem t13_20_5 {C : qCx} {G : jG} {S : jS} {V : jH} {nc ns : Nat} {l0 l1 l2 l3 l4 s0 : Int} (h : x13_20 C G)  (k : s0 = 0 → j_ok n_KT 7 C G 29 [(0, (2, l0))] [] S V nc ns) (k' : ¬ s0 = 0 → j_ok n_KT 7 C G 8 [(0, (2, l0)), (1, (0, l1)), (2, (0, l2)), (3, (0, l3)), (4, (0, l4))] [] S V nc ns) : j_ok n_KT 7 C G 5 [(0, (2, l0)), (1, (0, l1)), (2, (0, l2)), (3, (0, l3)), (4, (0, l4))] [(0, s0)] S V nc ns := by
  have E := n_E h
  exact j_if_eq E d13_20_5 (t := 29) rfl (fun q => j_pick [0] rfl (k q)) (fun q => j_pick [0, 1, 2, 3, 4] rfl (k' q))
theorem t13_20_8 {C : qCx} {G : jG} {S : jS} {V : jH} {nc ns : Nat} {l0 l1 l2 l3 l4 : Int} {mc ms : Nat} {pp : Int → Int → Int → jS → jH → Prop} {qq : Int → Int → Int → jS → jH → Int → jS → jH → Prop} (h : x13_20 C G) (hrm : C.2.2.2.1.frames = 4 ∧ C.2.2.2.1.locals = 94) (c1 : S.1 l0 = 33) (hM : M13_19 C.2.1 mc ms pp qq) (hp : pp l0 l1 l2 S V) (hc : nc + mc ≤ C.2.2.2.1.cells) (hs : ns + ms ≤ C.2.2.2.1.slots) (k : ∀ (r : Int) (S' : jS) (V' : jH), qq l0 l1 l2 S V r S' V' → j_ok n_KT 7 C G 14 [(0, (2, l0)), (1, (0, l1)), (2, (0, l2)), (3, (0, l3)), (4, (0, l4))] [(0, r)] S' V' (nc + mc) (ns + ms)) : j_ok n_KT 7 C G 8 [(0, (2, l0)), (1, (0, l1)), (2, (0, l2)), (3, (0, l3)), (4, (0, l4))] [] S V nc ns := by
  have E := n_E h
  refine j_aload_n E d13_20_8 rfl 0 rfl ?_
  refine j_iload_n E d13_20_9 rfl 1 rfl ?_
  refine j_iload_n E d13_20_10 rfl 2 rfl ?_
  refine j_call E (K13_20_11 h hrm hM) d13_20_11 (a := [(2, l0), (0, l1), (0, l2)]) (sk := []) rfl ⟨l0, l1, l2, rfl, c1, hp⟩ (Nat.le_of_ble_eq_true rfl) hc hs ?_
  rintro rs S' V' ⟨z0, z1, z2, r, e1, rfl, q⟩
  simp only [List.cons.injEq, Prod.mk.injEq, and_true, true_and] at e1
  obtain ⟨rfl, rfl, rfl⟩ := e1
  exact j_pick [0, 1, 2, 3, 4] rfl (k r S' V' q)
theorem t13_20_14 {C : qCx} {G : jG} {S : jS} {V : jH} {nc ns : Nat} {l0 l1 l2 l3 l4 s0 : Int} (h : x13_20 C G)  (k : s0 = 0 → j_ok n_KT 7 C G 29 [(0, (2, l0))] [] S V nc ns) (k' : ¬ s0 = 0 → j_ok n_KT 7 C G 17 [(0, (2, l0)), (1, (0, l1)), (2, (0, l2)), (3, (0, l3)), (4, (0, l4))] [] S V nc ns) : j_ok n_KT 7 C G 14 [(0, (2, l0)), (1, (0, l1)), (2, (0, l2)), (3, (0, l3)), (4, (0, l4))] [(0, s0)] S V nc ns := by
  have E := n_E h
  exact j_if_eq E d13_20_14 (t := 29) rfl (fun q => j_pick [0] rfl (k q)) (fun q => j_pick [0, 1, 2, 3, 4] rfl (k' q))
theorem t13_20_17 {C : qCx} {G : jG} {S : jS} {V : jH} {nc ns : Nat} {l0 l1 l2 l3 l4 : Int} {mc ms : Nat} {pp : Int → Int → Int → jS → jH → Prop} {qq : Int → Int → Int → jS → jH → Int → jS → jH → Prop} (h : x13_20 C G) (hrm : C.2.2.2.1.frames = 4 ∧ C.2.2.2.1.locals = 94)  (hM : M13_3 C.2.1 mc ms pp qq) (hp : pp l3 0 255 S V) (hc : nc + mc ≤ C.2.2.2.1.cells) (hs : ns + ms ≤ C.2.2.2.1.slots) (k : ∀ (r : Int) (S' : jS) (V' : jH), qq l3 0 255 S V r S' V' → j_ok n_KT 7 C G 26 [(0, (2, l0)), (1, (0, l1)), (2, (0, l2)), (3, (0, l3)), (4, (0, l4))] [(0, r)] S' V' (nc + mc) (ns + ms)) : j_ok n_KT 7 C G 17 [(0, (2, l0)), (1, (0, l1)), (2, (0, l2)), (3, (0, l3)), (4, (0, l4))] [] S V nc ns := by
  have E := n_E h
  refine j_iload_n E d13_20_17 rfl 3 rfl ?_
  refine j_i2l E d13_20_18 ?_
  refine j_lconst E d13_20_19 ?_
  refine j_ldc2 (n := 255) (fl12_92 h) rfl d13_20_20 ?_
  refine j_call E (K13_20_23 h hrm hM) d13_20_23 (a := [(1, l3), (1, 0), (1, 255)]) (sk := []) rfl ⟨l3, 0, 255, rfl, hp⟩ (Nat.le_of_ble_eq_true rfl) hc hs ?_
  rintro rs S' V' ⟨z0, z1, z2, r, e1, rfl, q⟩
  simp only [List.cons.injEq, Prod.mk.injEq, and_true, true_and] at e1
  obtain ⟨rfl, rfl, rfl⟩ := e1
  exact j_pick [0, 1, 2, 3, 4] rfl (k r S' V' q)
theorem t13_20_26 {C : qCx} {G : jG} {S : jS} {V : jH} {nc ns : Nat} {l0 l1 l2 l3 l4 s0 : Int} (h : x13_20 C G)  (k : ¬ s0 = 0 → j_ok n_KT 7 C G 35 [(0, (2, l0)), (1, (0, l1)), (2, (0, l2)), (3, (0, l3)), (4, (0, l4))] [] S V nc ns) (k' : s0 = 0 → j_ok n_KT 7 C G 29 [(0, (2, l0))] [] S V nc ns) : j_ok n_KT 7 C G 26 [(0, (2, l0)), (1, (0, l1)), (2, (0, l2)), (3, (0, l3)), (4, (0, l4))] [(0, s0)] S V nc ns := by
  have E := n_E h
  exact j_if_ne E d13_20_26 (t := 35) rfl (fun q => j_pick [0, 1, 2, 3, 4] rfl (k q)) (fun q => j_pick [0] rfl (k' q))
theorem t13_20_29 {C : qCx} {G : jG} {S : jS} {V : jH} {nc ns : Nat} {l0 : Int} {mc ms : Nat} {pp : Int → Int → jS → jH → Prop} {qq : Int → Int → jS → jH → Int → jS → jH → Prop} (h : x13_20 C G) (hrm : C.2.2.2.1.frames = 4 ∧ C.2.2.2.1.locals = 94) (c1 : S.1 l0 = 33) (hM : M13_2 C.2.1 mc ms pp qq) (hp : pp l0 ((-1)) S V) (hc : nc + mc ≤ C.2.2.2.1.cells) (hs : ns + ms ≤ C.2.2.2.1.slots) (k : ∀ (r : Int) (S' : jS) (V' : jH), qq l0 ((-1)) S V r S' V' → j_ok n_KT 7 C G 34 [] [(0, r)] S' V' (nc + mc) (ns + ms)) : j_ok n_KT 7 C G 29 [(0, (2, l0))] [] S V nc ns := by
  have E := n_E h
  refine j_aload_n E d13_20_29 rfl 0 rfl ?_
  refine j_iconst E d13_20_30 (by decide) ?_
  refine j_call E (K13_20_31 h hrm hM) d13_20_31 (a := [(2, l0), (0, (-1))]) (sk := []) rfl ⟨l0, (-1), rfl, c1, hp⟩ (Nat.le_of_ble_eq_true rfl) hc hs ?_
  rintro rs S' V' ⟨z0, z1, r, e1, rfl, q⟩
  simp only [List.cons.injEq, Prod.mk.injEq, and_true, true_and] at e1
  obtain ⟨rfl, rfl⟩ := e1
  exact j_pick [] rfl (k r S' V' q)
theorem t13_20_34 {C : qCx} {G : jG} {S : jS} {V : jH} {nc ns : Nat} {s0 : Int} {mc ms : Nat} {qf : Int → jS → jH → Prop} (h : x13_20 C G)  (R : j_Ri n_KT 7 C G b_13_20 mc ms qf) (q : qf s0 S V) (hc : nc ≤ mc) (hs : ns ≤ ms) : j_ok n_KT 7 C G 34 [] [(0, s0)] S V nc ns := by
  have E := n_E h
  exact R _ _ _ _ _ _ _ d13_20_34 q hc hs
theorem t13_20_35 {C : qCx} {G : jG} {S : jS} {V : jH} {nc ns : Nat} {l0 l1 l2 l3 l4 : Int} {mc ms : Nat} {pp : Int → Int → jS → jH → Prop} {qq : Int → Int → jS → jH → Int → jS → jH → Prop} (h : x13_20 C G) (hrm : C.2.2.2.1.frames = 4 ∧ C.2.2.2.1.locals = 94) (c1 : S.1 l0 = 33) (hM : M13_14 C.2.1 mc ms pp qq) (hp : pp l0 l1 S V) (hc : nc + mc ≤ C.2.2.2.1.cells) (hs : ns + ms ≤ C.2.2.2.1.slots) (k : ∀ (r : Int) (S' : jS) (V' : jH), qq l0 l1 S V r S' V' → j_ok n_KT 7 C G 40 [(0, (2, l0)), (1, (0, l1)), (2, (0, l2)), (3, (0, l3)), (4, (0, l4))] [(0, r)] S' V' (nc + mc) (ns + ms)) : j_ok n_KT 7 C G 35 [(0, (2, l0)), (1, (0, l1)), (2, (0, l2)), (3, (0, l3)), (4, (0, l4))] [] S V nc ns := by
  have E := n_E h
  refine j_aload_n E d13_20_35 rfl 0 rfl ?_
  refine j_iload_n E d13_20_36 rfl 1 rfl ?_
  refine j_call E (K13_20_37 h hrm hM) d13_20_37 (a := [(2, l0), (0, l1)]) (sk := []) rfl ⟨l0, l1, rfl, c1, hp⟩ (Nat.le_of_ble_eq_true rfl) hc hs ?_
  rintro rs S' V' ⟨z0, z1, r, e1, rfl, q⟩
  simp only [List.cons.injEq, Prod.mk.injEq, and_true, true_and] at e1
  obtain ⟨rfl, rfl⟩ := e1
  exact j_pick [0, 1, 2, 3, 4] rfl (k r S' V' q)
theorem t13_20_40 {C : qCx} {G : jG} {S : jS} {V : jH} {nc ns : Nat} {l0 l1 l2 l3 l4 s0 : Int} (h : x13_20 C G)  (k : s0 = 0 → j_ok n_KT 7 C G 50 [(0, (2, l0)), (1, (0, l1)), (2, (0, l2)), (3, (0, l3)), (4, (0, l4))] [] S V nc ns) (k' : ¬ s0 = 0 → j_ok n_KT 7 C G 43 [(0, (2, l0))] [] S V nc ns) : j_ok n_KT 7 C G 40 [(0, (2, l0)), (1, (0, l1)), (2, (0, l2)), (3, (0, l3)), (4, (0, l4))] [(0, s0)] S V nc ns := by
  have E := n_E h
  exact j_if_eq E d13_20_40 (t := 50) rfl (fun q => j_pick [0, 1, 2, 3, 4] rfl (k q)) (fun q => j_pick [0] rfl (k' q))
theorem t13_20_43 {C : qCx} {G : jG} {S : jS} {V : jH} {nc ns : Nat} {l0 : Int} {mc ms : Nat} {pp : Int → Int → jS → jH → Prop} {qq : Int → Int → jS → jH → Int → jS → jH → Prop} (h : x13_20 C G) (hrm : C.2.2.2.1.frames = 4 ∧ C.2.2.2.1.locals = 94) (c1 : S.1 l0 = 33) (hM : M13_2 C.2.1 mc ms pp qq) (hp : pp l0 ((-4)) S V) (hc : nc + mc ≤ C.2.2.2.1.cells) (hs : ns + ms ≤ C.2.2.2.1.slots) (k : ∀ (r : Int) (S' : jS) (V' : jH), qq l0 ((-4)) S V r S' V' → j_ok n_KT 7 C G 49 [] [(0, r)] S' V' (nc + mc) (ns + ms)) : j_ok n_KT 7 C G 43 [(0, (2, l0))] [] S V nc ns := by
  have E := n_E h
  refine j_aload_n E d13_20_43 rfl 0 rfl ?_
  refine j_bipush E d13_20_44 (by decide) ?_
  refine j_call E (K13_20_46 h hrm hM) d13_20_46 (a := [(2, l0), (0, (-4))]) (sk := []) rfl ⟨l0, (-4), rfl, c1, hp⟩ (Nat.le_of_ble_eq_true rfl) hc hs ?_
  rintro rs S' V' ⟨z0, z1, r, e1, rfl, q⟩
  simp only [List.cons.injEq, Prod.mk.injEq, and_true, true_and] at e1
  obtain ⟨rfl, rfl⟩ := e1
  exact j_pick [] rfl (k r S' V' q)
theorem t13_20_49 {C : qCx} {G : jG} {S : jS} {V : jH} {nc ns : Nat} {s0 : Int} {mc ms : Nat} {qf : Int → jS → jH → Prop} (h : x13_20 C G)  (R : j_Ri n_KT 7 C G b_13_20 mc ms qf) (q : qf s0 S V) (hc : nc ≤ mc) (hs : ns ≤ ms) : j_ok n_KT 7 C G 49 [] [(0, s0)] S V nc ns := by
  have E := n_E h
  exact R _ _ _ _ _ _ _ d13_20_49 q hc hs
theorem t13_20_50 {C : qCx} {G : jG} {S : jS} {V : jH} {nc ns : Nat} {l0 l1 l2 l3 l4 : Int} (h : x13_20 C G)  (k : ¬ l4 = 0 → j_ok n_KT 7 C G 71 [(0, (2, l0)), (1, (0, l1)), (2, (0, l2)), (3, (0, l3))] [] S V nc ns) (k' : l4 = 0 → j_ok n_KT 7 C G 55 [(0, (2, l0)), (1, (0, l1)), (2, (0, l2)), (3, (0, l3))] [] S V nc ns) : j_ok n_KT 7 C G 50 [(0, (2, l0)), (1, (0, l1)), (2, (0, l2)), (3, (0, l3)), (4, (0, l4))] [] S V nc ns := by
  have E := n_E h
  refine j_iload E d13_20_50 4 rfl ?_
  exact j_if_ne E d13_20_52 (t := 71) rfl (fun q => j_pick [0, 1, 2, 3] rfl (k q)) (fun q => j_pick [0, 1, 2, 3] rfl (k' q))
theorem t13_20_55 {C : qCx} {G : jG} {S : jS} {V : jH} {nc ns : Nat} {l0 l1 l2 l3 : Int} {mc ms : Nat} {pp : Int → Int → Int → Int → jS → jH → Prop} {qq : Int → Int → Int → Int → jS → jH → Int → jS → jH → Prop} (h : x13_20 C G) (L : j_L S) (hrm : C.2.2.2.1.frames = 4 ∧ C.2.2.2.1.locals = 94) (c1 : S.1 l0 = 33) (hM : M13_11 C.2.1 mc ms pp qq) (hp : pp l0 l1 l2 l3 S V) (hc : nc + mc ≤ C.2.2.2.1.cells) (hs : ns + ms ≤ C.2.2.2.1.slots) (k : ∀ (r : Int) (S' : jS) (V' : jH), qq l0 l1 l2 l3 S V r S' V' → j_ok n_KT 7 C G 69 [] [(0, r), (2, l0 + 7)] S' V' (nc + mc) (ns + ms)) : j_ok n_KT 7 C G 55 [(0, (2, l0)), (1, (0, l1)), (2, (0, l2)), (3, (0, l3))] [] S V nc ns := by
  have E := n_E h
  refine j_aload_n E d13_20_55 rfl 0 rfl ?_
  refine j_getS (f := 0) (x := l0 + 1) (fg12_10 h) d13_20_56 c1 (by decide) rfl rfl ((L12_0 L c1).trans (by omega)) ?_
  refine j_getS (f := 6) (x := l0 + 7) (fg12_110 h) d13_20_59 (show S.1 (l0 + 1) = 32 from (by have q := L12_0k L c1; rw [show l0 + 1 = l0 + 1 by omega]; exact q)) (by decide) rfl rfl ((L11_6 L (show S.1 (l0 + 1) = 32 from (by have q := L12_0k L c1; rw [show l0 + 1 = l0 + 1 by omega]; exact q))).trans (by omega)) ?_
  refine j_aload_n E d13_20_62 rfl 0 rfl ?_
  refine j_iload_n E d13_20_63 rfl 1 rfl ?_
  refine j_iload_n E d13_20_64 rfl 2 rfl ?_
  refine j_iload_n E d13_20_65 rfl 3 rfl ?_
  refine j_call E (K13_20_66 h hrm hM) d13_20_66 (a := [(2, l0), (0, l1), (0, l2), (0, l3)]) (sk := [(2, l0 + 7)]) rfl ⟨l0, l1, l2, l3, rfl, c1, hp⟩ (Nat.le_of_ble_eq_true rfl) hc hs ?_
  rintro rs S' V' ⟨z0, z1, z2, z3, r, e1, rfl, q⟩
  simp only [List.cons.injEq, Prod.mk.injEq, and_true, true_and] at e1
  obtain ⟨rfl, rfl, rfl, rfl⟩ := e1
  exact j_pick [] rfl (k r S' V' q)
theorem t13_20_69 {C : qCx} {G : jG} {S : jS} {V : jH} {nc ns : Nat} {s0 s1 : Int} {n_s1 : Nat} {mc ms : Nat} {qf : Int → jS → jH → Prop} (h : x13_20 C G) (c1 : j_arr S s1 n_s1) (c2 : 0 ≤ s0) (c3 : s0 < (n_s1 : Int)) (R : j_Ri n_KT 7 C G b_13_20 mc ms qf) (q : qf (V s1 s0) S V) (hc : nc ≤ mc) (hs : ns ≤ ms) : j_ok n_KT 7 C G 69 [] [(0, s0), (2, s1)] S V nc ns := by
  have E := n_E h
  refine j_iald E d13_20_69 c1 c2 c3 ?_
  exact R _ _ _ _ _ _ _ d13_20_70 q hc hs
theorem t13_20_71 {C : qCx} {G : jG} {S : jS} {V : jH} {nc ns : Nat} {l0 l1 l2 l3 : Int} (h : x13_20 C G)  (k : j_ok n_KT 7 C G 77 [(0, (2, l0)), (1, (0, l1)), (2, (0, l2)), (3, (0, l3)), (5, (0, 0)), (6, (0, 0))] [] S V nc ns) : j_ok n_KT 7 C G 71 [(0, (2, l0)), (1, (0, l1)), (2, (0, l2)), (3, (0, l3))] [] S V nc ns := by
  have E := n_E h
  refine j_iconst E d13_20_71 (by decide) ?_
  refine j_istore E d13_20_72 (by decide) (lo1 := [(0, (2, l0)), (1, (0, l1)), (2, (0, l2)), (3, (0, l3))]) rfl ?_
  refine j_iconst E d13_20_74 (by decide) ?_
  refine j_istore E d13_20_75 (by decide) (lo1 := [(5, (0, 0)), (0, (2, l0)), (1, (0, l1)), (2, (0, l2)), (3, (0, l3))]) rfl ?_
  exact j_pick [2, 3, 4, 5, 1, 0] rfl k
theorem t13_20_77 {C : qCx} {G : jG} {S : jS} {V : jH} {nc ns : Nat} {l0 l1 l2 l3 l5 l6 : Int} (h : x13_20 C G)  (k : l3 ≤ l6 → j_ok n_KT 7 C G 110 [(5, (0, l5))] [] S V nc ns) (k' : l6 < l3 → j_ok n_KT 7 C G 83 [(0, (2, l0)), (1, (0, l1)), (2, (0, l2)), (3, (0, l3)), (5, (0, l5)), (6, (0, l6))] [] S V nc ns) : j_ok n_KT 7 C G 77 [(0, (2, l0)), (1, (0, l1)), (2, (0, l2)), (3, (0, l3)), (5, (0, l5)), (6, (0, l6))] [] S V nc ns := by
  have E := n_E h
  refine j_iload E d13_20_77 5 rfl ?_
  refine j_iload_n E d13_20_79 rfl 3 rfl ?_
  exact j_icmp_ge E d13_20_80 (t := 110) rfl (fun q => j_pick [4] rfl (k q)) (fun q => j_pick [0, 1, 2, 3, 4, 5] rfl (k' q))
theorem t13_20_83 {C : qCx} {G : jG} {S : jS} {V : jH} {nc ns : Nat} {l0 l1 l2 l3 l5 l6 : Int} {mc ms : Nat} {pp : Int → Int → Int → Int → jS → jH → Prop} {qq : Int → Int → Int → Int → jS → jH → Int → jS → jH → Prop} (h : x13_20 C G) (L : j_L S) (hrm : C.2.2.2.1.frames = 4 ∧ C.2.2.2.1.locals = 94) (c1 : S.1 l0 = 33) (hM : M13_11 C.2.1 mc ms pp qq) (hp : pp l0 l1 l2 l6 S V) (hc : nc + mc ≤ C.2.2.2.1.cells) (hs : ns + ms ≤ C.2.2.2.1.slots) (k : ∀ (r : Int) (S' : jS) (V' : jH), qq l0 l1 l2 l6 S V r S' V' → j_ok n_KT 7 C G 100 [(0, (2, l0)), (1, (0, l1)), (2, (0, l2)), (3, (0, l3)), (6, (0, l6))] [(0, r), (2, l0 + 7), (0, l5)] S' V' (nc + mc) (ns + ms)) : j_ok n_KT 7 C G 83 [(0, (2, l0)), (1, (0, l1)), (2, (0, l2)), (3, (0, l3)), (5, (0, l5)), (6, (0, l6))] [] S V nc ns := by
  have E := n_E h
  refine j_iload E d13_20_83 4 rfl ?_
  refine j_aload_n E d13_20_85 rfl 0 rfl ?_
  refine j_getS (f := 0) (x := l0 + 1) (fg12_10 h) d13_20_86 c1 (by decide) rfl rfl ((L12_0 L c1).trans (by omega)) ?_
  refine j_getS (f := 6) (x := l0 + 7) (fg12_110 h) d13_20_89 (show S.1 (l0 + 1) = 32 from (by have q := L12_0k L c1; rw [show l0 + 1 = l0 + 1 by omega]; exact q)) (by decide) rfl rfl ((L11_6 L (show S.1 (l0 + 1) = 32 from (by have q := L12_0k L c1; rw [show l0 + 1 = l0 + 1 by omega]; exact q))).trans (by omega)) ?_
  refine j_aload_n E d13_20_92 rfl 0 rfl ?_
  refine j_iload_n E d13_20_93 rfl 1 rfl ?_
  refine j_iload_n E d13_20_94 rfl 2 rfl ?_
  refine j_iload E d13_20_95 5 rfl ?_
  refine j_call E (K13_20_97 h hrm hM) d13_20_97 (a := [(2, l0), (0, l1), (0, l2), (0, l6)]) (sk := [(2, l0 + 7), (0, l5)]) rfl ⟨l0, l1, l2, l6, rfl, c1, hp⟩ (Nat.le_of_ble_eq_true rfl) hc hs ?_
  rintro rs S' V' ⟨z0, z1, z2, z3, r, e1, rfl, q⟩
  simp only [List.cons.injEq, Prod.mk.injEq, and_true, true_and] at e1
  obtain ⟨rfl, rfl, rfl, rfl⟩ := e1
  exact j_pick [0, 1, 2, 3, 5] rfl (k r S' V' q)
theorem t13_20_100 {C : qCx} {G : jG} {S : jS} {V : jH} {nc ns : Nat} {l0 l1 l2 l3 l6 s0 s1 s2 : Int} {n_s1 : Nat} (h : x13_20 C G) (c1 : j_arr S s1 n_s1) (c2 : 0 ≤ s0) (c3 : s0 < (n_s1 : Int)) (c4 : -2147483648 ≤ s2 + (V s1 s0) ∧ s2 + (V s1 s0) ≤ 2147483647) (c5 : -2147483648 ≤ l6 + 1 ∧ l6 + 1 ≤ 2147483647) (k : j_ok n_KT 7 C G 77 [(0, (2, l0)), (1, (0, l1)), (2, (0, l2)), (3, (0, l3)), (5, (0, s2 + (V s1 s0))), (6, (0, l6 + 1))] [] S V nc ns) : j_ok n_KT 7 C G 100 [(0, (2, l0)), (1, (0, l1)), (2, (0, l2)), (3, (0, l3)), (6, (0, l6))] [(0, s0), (2, s1), (0, s2)] S V nc ns := by
  have E := n_E h
  refine j_iald E d13_20_100 c1 c2 c3 ?_
  refine j_iadd E d13_20_101 c4 ?_
  refine j_istore E d13_20_102 (by decide) (lo1 := [(0, (2, l0)), (1, (0, l1)), (2, (0, l2)), (3, (0, l3)), (6, (0, l6))]) rfl ?_
  refine j_iinc E d13_20_104 (by decide) (by decide) 5 rfl (lo1 := [(5, (0, s2 + (V s1 s0))), (0, (2, l0)), (1, (0, l1)), (2, (0, l2)), (3, (0, l3))]) rfl c5 ?_
  refine j_goto E d13_20_107 (t := 77) rfl ?_
  exact j_pick [2, 3, 4, 5, 1, 0] rfl k
theorem t13_20_110 {C : qCx} {G : jG} {S : jS} {V : jH} {nc ns : Nat} {l5 : Int} {mc ms : Nat} {qf : Int → jS → jH → Prop} (h : x13_20 C G)  (R : j_Ri n_KT 7 C G b_13_20 mc ms qf) (q : qf l5 S V) (hc : nc ≤ mc) (hs : ns ≤ ms) : j_ok n_KT 7 C G 110 [(5, (0, l5))] [] S V nc ns := by
  have E := n_E h
  refine j_iload E d13_20_110 0 rfl ?_
  exact R _ _ _ _ _ _ _ d13_20_112 q hc hs
