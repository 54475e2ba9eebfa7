def ct_700 : qCt := ((6, [[(0, (-7)), (2, 1)], [(0, 2147483647), (2, (-1))]], [(2, 40, [(1, 1)]), (0, 0, [(2, 1)])], [([(1, 1)], 40, 7, (0, 0, [])), ([(1, 1)], 40, 6, (0, 0, [])), ([(1, 1)], 40, 0, (2, 38, [(3, 1)])), ([(3, 1)], 38, 5, (0, 0, [])), ([(3, 1)], 38, 4, (0, 0, [])), ([(3, 1)], 38, 3, (2, 22, [(4, 1)])), ([(4, 1)], 22, 4, (0, 0, [])), ([(4, 1)], 22, 3, (2, 34, [(5, 1)])), ([(5, 1)], 34, 5, (0, 0, [])), ([(4, 1)], 22, 2, (0, 0, [])), ([(3, 1)], 38, 2, (0, 0, []))]), (6, [], [(0, 0, [(0, (-1))])], [([(1, 1)], 40, 7, (0, 0, [(0, 1)])), ([(1, 1)], 40, 6, (0, 0, [])), ([(1, 1)], 40, 0, (2, 38, [(3, 1)])), ([(3, 1)], 38, 5, (0, 0, [])), ([(3, 1)], 38, 4, (0, 0, [])), ([(3, 1)], 38, 3, (2, 22, [(4, 1)])), ([(4, 1)], 22, 4, (0, 0, [])), ([(4, 1)], 22, 3, (2, 34, [(5, 1)])), ([(5, 1)], 34, 5, (0, 0, [])), ([(4, 1)], 22, 2, (0, 0, [])), ([(3, 1)], 38, 2, (0, 0, []))], []), [], [(40, 7)], 0, 0)
def rm_700 : Room := { frames := 2, cells := 0, slots := 0, locals := 47 }
def e_700 : qEn := (k_1_26, (t_fg10, t_fp10, t_cn10), (t_na10, t_at10), (t_kI10, t_kL10, t_ob10, t_cp10), [(.invokevirtual 55, ct_14)], (q_k (-1), [], []))
def ts_700 : List (qTm × qCert × List qHx) := [((0, (6, [[(0, (-7)), (2, 1)], [(0, 2147483647), (2, (-1))]], [(0, (2, 40, [(1, 1)])), (1, (0, 0, [(2, 1)]))], [], [([(1, 1)], 40, 7, (0, 0, [])), ([(1, 1)], 40, 6, (0, 0, [])), ([(1, 1)], 40, 0, (2, 38, [(3, 1)])), ([(3, 1)], 38, 5, (0, 0, [])), ([(3, 1)], 38, 4, (0, 0, [])), ([(3, 1)], 38, 3, (2, 22, [(4, 1)])), ([(4, 1)], 22, 4, (0, 0, [])), ([(4, 1)], 22, 3, (2, 34, [(5, 1)])), ([(5, 1)], 34, 5, (0, 0, [])), ([(4, 1)], 22, 2, (0, 0, [])), ([(3, 1)], 38, 2, (0, 0, []))], 0, 0), []), (1, []), [(0, 0, [], [], []), (0, 0, [], [], []), (2, 0, [(1, [(0, 1), (2, 1)])], [], []), (0, 0, [], [], []), (0, 0, [], [], []), (0, 0, [], [[(1, 1)]], [0]), (5, 0, [], [], []), (2, 0, [(1, [(0, 1), (3, 1)])], [], []), (2, 0, [(1, [(0, 1), (3, 1)])], [], []), (2, 0, [(1, [(0, 1), (3, 1)])], [], []), (2, 0, [(1, [(0, 1), (3, 1)])], [], []), (2, 0, [(1, [(0, 1), (3, 1)])], [], []), (2, 0, [(1, [(0, 1), (3, 1)])], [], []), (2, 0, [(1, [(0, 1), (3, 1)])], [], [])])]
set_option maxRecDepth 100000 in
theorem m_700 (l : Launch) : q_Met l vwCl n_TL n_NW n_KT y_1_26 (Cond.code y_1_26 b_1_26 2 (some .int) :: n_GW) rm_700 ct_700 := by
  refine q_method (E := e_700) ts_700 (by decide) rfl rfl rfl ?_ (by decide +kernel)
  intro C D tys htl hl hrm hm hml ho hts hnm hE
  have h : n_ctx C b_1_26 2 "BalanceCoder" D tys := ⟨htl, hm, hml, ho, fun w hw => hts w (List.mem_cons_of_mem _ hw), hE⟩
  refine ⟨⟨?_, ?_⟩, ⟨?_, ?_, ?_, ?_, ?_⟩, ⟨?_, ?_, ?_⟩, ⟨?_, ?_, ?_, ?_⟩, ?_⟩
  · intro i ins len hx; exact kd_1_26 (i, ins, len) hx
  · exact n_at hE.1
  · intro i ci f hx; exact c_fg10 h (i, ci, f) hx
  · intro i ci f hx; exact c_fp10 h (i, ci, f) hx
  · exact n_hap h
  · intro i ci n hx; exact c_cn10 h (i, ci, n) hx
  · exact n_hag htl
  · exact c_n110 h
  · exact c_n210 h
  · intro t ci hx; exact c_at10 h (t, ci) hx
  · intro i n hx; exact c_kI10 h (i, n) hx
  · intro i n hx; exact c_kL10 h (i, n) hx
  · exact c_ob10 h ⟨by rw [hrm]; decide, by rw [hrm]; decide⟩
  · exact c_cp10 h
  · intro ins ct hx
    have g0 : q_Call C b_1_26 D tys n_KT 2 (.invokevirtual 55) ct_14 := q_callV n_NWk h.2.2.2.2.2 h.1 (m_14 C.2.1) ⟨h.2.1.1, h.2.1.2, h.2.2.1, h.2.2.2.1, h.2.2.2.2.1⟩ ⟨n_CB (y := y_1_27) (bytes := b_1_27) 1 h.2.2.2.2.1 n_w309 n_w306 n_w1 ⟨by decide, by decide, by decide +kernel⟩ rfl rfl ⟨by rw [hrm]; decide, by rw [hrm]; decide⟩, h.2.2.2.2.1 _ n_w308, h.2.2.2.2.1 _ n_s1⟩ (Cn := RX10) ⟨40, 10, _, _, _, _, TX10, 8, rfl, rfl, rfl⟩ rfl
    have all : ∀ x ∈ [((.invokevirtual 55 : Instr), ct_14)], q_Call C b_1_26 D tys n_KT 2 x.1 x.2 := (n_mem2 (g0) n_mem0)
    exact all (ins, ct) hx
def ct_701 : qCt := ((4, [[(0, (-7)), (2, 1)], [(0, 2147483647), (2, (-1))]], [(2, 44, [(1, 1)]), (0, 0, [(2, 1)])], [([(1, 1)], 44, 0, (2, 42, [(3, 1)])), ([(3, 1)], 42, 2, (0, 0, [])), ([(3, 1)], 42, 9, (0, 0, [])), ([(3, 1)], 42, 10, (0, 0, [])), ([(3, 1)], 42, 12, (0, 0, [])), ([(3, 1)], 42, 13, (0, 0, [])), ([(1, 1)], 44, 3, (0, 0, [])), ([(1, 1)], 44, 4, (0, 0, []))]), (4, [], [(0, 0, [(0, (-1))])], [([(1, 1)], 44, 3, (0, 0, [(0, 1)])), ([(1, 1)], 44, 0, (2, 42, [(3, 1)])), ([(3, 1)], 42, 2, (0, 0, [])), ([(3, 1)], 42, 9, (0, 0, [])), ([(3, 1)], 42, 10, (0, 0, [])), ([(3, 1)], 42, 12, (0, 0, [])), ([(3, 1)], 42, 13, (0, 0, [])), ([(1, 1)], 44, 4, (0, 0, []))], []), [], [(44, 3)], 0, 0)
def rm_701 : Room := { frames := 2, cells := 0, slots := 0, locals := 47 }
def e_701 : qEn := (k_13_54, (t_fg12, t_fp12, t_cn12), (t_na12, t_at12), (t_kI12, t_kL12, t_ob12, t_cp12), [(.invokevirtual 82, ct_18)], (q_k (-1), [], []))
def ts_701 : List (qTm × qCert × List qHx) := [((0, (4, [[(0, (-7)), (2, 1)], [(0, 2147483647), (2, (-1))]], [(0, (2, 44, [(1, 1)])), (1, (0, 0, [(2, 1)]))], [], [([(1, 1)], 44, 0, (2, 42, [(3, 1)])), ([(3, 1)], 42, 2, (0, 0, [])), ([(3, 1)], 42, 9, (0, 0, [])), ([(3, 1)], 42, 10, (0, 0, [])), ([(3, 1)], 42, 12, (0, 0, [])), ([(3, 1)], 42, 13, (0, 0, [])), ([(1, 1)], 44, 3, (0, 0, [])), ([(1, 1)], 44, 4, (0, 0, []))], 0, 0), []), (1, []), [(0, 0, [], [], []), (0, 0, [], [], []), (2, 0, [(1, [(0, 1), (2, 1)])], [], []), (0, 0, [], [], []), (0, 0, [], [], []), (0, 0, [], [[(1, 1)]], [0]), (5, 0, [], [], []), (2, 0, [(1, [(0, 1), (3, 1)])], [], []), (2, 0, [(1, [(0, 1), (3, 1)])], [], []), (2, 0, [(1, [(0, 1), (3, 1)])], [], []), (2, 0, [(1, [(0, 1), (3, 1)])], [], []), (2, 0, [(1, [(0, 1), (3, 1)])], [], []), (2, 0, [(1, [(0, 1), (3, 1)])], [], []), (2, 0, [(1, [(0, 1), (3, 1)])], [], [])])]
set_option maxRecDepth 100000 in
theorem m_701 (l : Launch) : q_Met l vwCl n_TL n_NW n_KT y_13_54 (Cond.code y_13_54 b_13_54 2 (some .int) :: n_GW) rm_701 ct_701 := by
  refine q_method (E := e_701) ts_701 (by decide) rfl rfl rfl ?_ (by decide +kernel)
  intro C D tys htl hl hrm hm hml ho hts hnm hE
  have h : n_ctx C b_13_54 2 "BalanceCoderModel" D tys := ⟨htl, hm, hml, ho, fun w hw => hts w (List.mem_cons_of_mem _ hw), hE⟩
  refine ⟨⟨?_, ?_⟩, ⟨?_, ?_, ?_, ?_, ?_⟩, ⟨?_, ?_, ?_⟩, ⟨?_, ?_, ?_, ?_⟩, ?_⟩
  · intro i ins len hx; exact kd_13_54 (i, ins, len) hx
  · exact n_at hE.1
  · intro i ci f hx; exact c_fg12 h (i, ci, f) hx
  · intro i ci f hx; exact c_fp12 h (i, ci, f) hx
  · exact n_hap h
  · intro i ci n hx; exact c_cn12 h (i, ci, n) hx
  · exact n_hag htl
  · exact c_n112 h
  · exact c_n212 h
  · intro t ci hx; exact c_at12 h (t, ci) hx
  · intro i n hx; exact c_kI12 h (i, n) hx
  · intro i n hx; exact c_kL12 h (i, n) hx
  · exact c_ob12 h ⟨by rw [hrm]; decide, by rw [hrm]; decide⟩
  · exact c_cp12 h
  · intro ins ct hx
    have g0 : q_Call C b_13_54 D tys n_KT 2 (.invokevirtual 82) ct_18 := q_callV n_NWk h.2.2.2.2.2 h.1 (m_18 C.2.1) ⟨h.2.1.1, h.2.1.2, h.2.2.1, h.2.2.2.1, h.2.2.2.2.1⟩ ⟨n_CB (y := y_13_2) (bytes := b_13_2) 1 h.2.2.2.2.1 n_w928 n_w925 n_w12 ⟨by decide, by decide, by decide +kernel⟩ rfl rfl ⟨by rw [hrm]; decide, by rw [hrm]; decide⟩, h.2.2.2.2.1 _ n_w927, h.2.2.2.2.1 _ n_s27⟩ (Cn := RX12) ⟨44, 12, _, _, _, _, TX12, 31, rfl, rfl, rfl⟩ rfl
    have all : ∀ x ∈ [((.invokevirtual 82 : Instr), ct_18)], q_Call C b_13_54 D tys n_KT 2 x.1 x.2 := (n_mem2 (g0) n_mem0)
    exact all (ins, ct) hx
def ct_702 : qCt := ((3, [], [(2, 22, [(1, 1)])], [([(1, 1)], 22, 4, (0, 0, [])), ([(1, 1)], 22, 3, (2, 34, [(2, 1)])), ([(2, 1)], 34, 5, (0, 0, []))]), (3, [], [(0, 0, [])], [([(1, 1)], 22, 4, (0, 0, [])), ([(1, 1)], 22, 3, (2, 34, [(2, 1)])), ([(2, 1)], 34, 5, (0, 0, []))], []), [], [], 0, 0)
def rm_702 : Room := { frames := 1, cells := 0, slots := 0, locals := 26 }
def e_702 : qEn := (k_3_3, (t_fg1, t_fp1, t_cn1), (t_na1, t_at1), (t_kI1, t_kL1, t_ob1, t_cp1), [], (q_k (-1), [], []))
def ts_702 : List (qTm × qCert × List qHx) := [((0, (3, [], [(0, (2, 22, [(1, 1)]))], [], [([(1, 1)], 22, 4, (0, 0, [])), ([(1, 1)], 22, 3, (2, 34, [(2, 1)])), ([(2, 1)], 34, 5, (0, 0, []))], 0, 0), []), (1, []), [(0, 0, [], [], []), (0, 1, [], [], [0]), (0, 0, [], [], []), (0, 0, [], [], []), (2, 0, [(1, [(0, 1)])], [], []), (0, 0, [], [], []), (0, 0, [], [], []), (5, 0, [], [], [])])]
set_option maxRecDepth 100000 in
theorem m_702 (l : Launch) : q_Met l vwCl n_TL n_NW n_KT y_3_3 (Cond.code y_3_3 b_3_3 1 (some .int) :: n_GW) rm_702 ct_702 := by
  refine q_method (E := e_702) ts_702 (by decide) rfl rfl rfl ?_ (by decide +kernel)
  intro C D tys htl hl hrm hm hml ho hts hnm hE
  have h : n_ctx C b_3_3 1 "BalanceCoder$Block" D tys := ⟨htl, hm, hml, ho, fun w hw => hts w (List.mem_cons_of_mem _ hw), hE⟩
  refine ⟨⟨?_, ?_⟩, ⟨?_, ?_, ?_, ?_, ?_⟩, ⟨?_, ?_, ?_⟩, ⟨?_, ?_, ?_, ?_⟩, ?_⟩
  · intro i ins len hx; exact kd_3_3 (i, ins, len) hx
  · exact n_at hE.1
  · intro i ci f hx; exact c_fg1 h (i, ci, f) hx
  · intro i ci f hx; exact c_fp1 h (i, ci, f) hx
  · exact n_hap h
  · intro i ci n hx; exact c_cn1 h (i, ci, n) hx
  · exact n_hag htl
  · exact c_n11 h
  · exact c_n21 h
  · intro t ci hx; exact c_at1 h (t, ci) hx
  · intro i n hx; exact c_kI1 h (i, n) hx
  · intro i n hx; exact c_kL1 h (i, n) hx
  · exact c_ob1 h ⟨by rw [hrm]; decide, by rw [hrm]; decide⟩
  · exact c_cp1 h ⟨by rw [hrm]; decide, by rw [hrm]; decide +kernel⟩
  · intro ins ct hx; cases hx
def ct_703 : qCt := ((6, [[(2, 1)], [(0, 6), (2, (-1))]], [(2, 40, [(1, 1)]), (0, 0, [(2, 1)])], [([(1, 1)], 40, 7, (0, 0, [])), ([(1, 1)], 40, 6, (0, 0, [])), ([(1, 1)], 40, 0, (2, 38, [(3, 1)])), ([(3, 1)], 38, 5, (0, 0, [])), ([(3, 1)], 38, 4, (0, 0, [])), ([(3, 1)], 38, 3, (2, 22, [(4, 1)])), ([(4, 1)], 22, 4, (0, 0, [])), ([(4, 1)], 22, 3, (2, 34, [(5, 1)])), ([(5, 1)], 34, 5, (0, 0, [])), ([(4, 1)], 22, 2, (0, 0, [])), ([(3, 1)], 38, 2, (0, 0, []))]), (6, [], [(0, 0, [])], [([(1, 1)], 40, 7, (0, 0, [])), ([(1, 1)], 40, 6, (0, 0, [])), ([(1, 1)], 40, 0, (2, 38, [(3, 1)])), ([(3, 1)], 38, 5, (0, 0, [])), ([(3, 1)], 38, 4, (0, 0, [])), ([(3, 1)], 38, 3, (2, 22, [(4, 1)])), ([(4, 1)], 22, 4, (0, 0, [])), ([(4, 1)], 22, 3, (2, 34, [(5, 1)])), ([(5, 1)], 34, 5, (0, 0, [])), ([(4, 1)], 22, 2, (0, 0, [])), ([(3, 1)], 38, 2, (0, 0, []))], []), [], [], 0, 0)
def rm_703 : Room := { frames := 2, cells := 0, slots := 0, locals := 46 }
def e_703 : qEn := (k_1_26, (t_fg10, t_fp10, t_cn10), (t_na10, t_at10), (t_kI10, t_kL10, t_ob10, t_cp10), [(.invokevirtual 227, ct_702)], (q_k (-1), [], []))
def ts_703 : List (qTm × qCert × List qHx) := [((0, (6, [[(2, 1)], [(0, 6), (2, (-1))]], [(0, (2, 40, [(1, 1)])), (1, (0, 0, [(2, 1)]))], [], [([(1, 1)], 40, 7, (0, 0, [])), ([(1, 1)], 40, 6, (0, 0, [])), ([(1, 1)], 40, 0, (2, 38, [(3, 1)])), ([(3, 1)], 38, 5, (0, 0, [])), ([(3, 1)], 38, 4, (0, 0, [])), ([(3, 1)], 38, 3, (2, 22, [(4, 1)])), ([(4, 1)], 22, 4, (0, 0, [])), ([(4, 1)], 22, 3, (2, 34, [(5, 1)])), ([(5, 1)], 34, 5, (0, 0, [])), ([(4, 1)], 22, 2, (0, 0, [])), ([(3, 1)], 38, 2, (0, 0, []))], 0, 0), []), (1, []), [(0, 0, [], [], []), (0, 0, [], [], []), (2, 0, [(1, [(0, 1), (2, 1)])], [], []), (2, 0, [(1, [(1, 1), (2, 1)])], [], []), (0, 0, [], [], []), (0, 1, [], [], [2]), (0, 1, [], [], [4]), (5, 0, [], [], []), (0, 0, [], [], []), (0, 1, [], [], [2]), (0, 1, [], [], [3]), (5, 0, [], [], []), (0, 0, [], [], []), (0, 1, [], [], [2]), (0, 1, [], [], [10]), (5, 0, [], [], []), (0, 0, [], [], []), (0, 1, [], [], [2]), (0, 1, [], [], [5]), (0, 1, [], [], [9]), (0, 1, [(1, [])], [], []), (0, 0, [], [], []), (5, 0, [], [], []), (2, 0, [(1, [(4, 1)])], [], []), (0, 0, [], [], []), (0, 1, [], [], [2]), (0, 1, [], [], [5]), (0, 0, [], [[(4, 1)], [(5, 1)]], [0]), (5, 0, [], [], []), (0, 0, [], [], []), (0, 1, [], [], [1]), (5, 0, [], [], []), (0, 0, [], [], []), (0, 1, [], [], [0]), (5, 0, [], [], [])])]
set_option maxRecDepth 100000 in
theorem m_703 (l : Launch) : q_Met l vwCl n_TL n_NW n_KT y_1_26 (Cond.code y_1_26 b_1_26 2 (some .int) :: n_GW) rm_703 ct_703 := by
  refine q_method (E := e_703) ts_703 (by decide) rfl rfl rfl ?_ (by decide +kernel)
  intro C D tys htl hl hrm hm hml ho hts hnm hE
  have h : n_ctx C b_1_26 2 "BalanceCoder" D tys := ⟨htl, hm, hml, ho, fun w hw => hts w (List.mem_cons_of_mem _ hw), hE⟩
  refine ⟨⟨?_, ?_⟩, ⟨?_, ?_, ?_, ?_, ?_⟩, ⟨?_, ?_, ?_⟩, ⟨?_, ?_, ?_, ?_⟩, ?_⟩
  · intro i ins len hx; exact kd_1_26 (i, ins, len) hx
  · exact n_at hE.1
  · intro i ci f hx; exact c_fg10 h (i, ci, f) hx
  · intro i ci f hx; exact c_fp10 h (i, ci, f) hx
  · exact n_hap h
  · intro i ci n hx; exact c_cn10 h (i, ci, n) hx
  · exact n_hag htl
  · exact c_n110 h
  · exact c_n210 h
  · intro t ci hx; exact c_at10 h (t, ci) hx
  · intro i n hx; exact c_kI10 h (i, n) hx
  · intro i n hx; exact c_kL10 h (i, n) hx
  · exact c_ob10 h ⟨by rw [hrm]; decide, by rw [hrm]; decide⟩
  · exact c_cp10 h
  · intro ins ct hx
    have g0 : q_Call C b_1_26 D tys n_KT 2 (.invokevirtual 227) ct_702 := q_callV n_NWk h.2.2.2.2.2 h.1 (m_702 C.2.1) ⟨h.2.1.1, h.2.1.2, h.2.2.1, h.2.2.2.1, h.2.2.2.2.1⟩ ⟨n_CB (y := y_3_3) (bytes := b_3_3) 0 h.2.2.2.2.1 n_w700 n_w697 n_w3 ⟨by decide, by decide, by decide +kernel⟩ rfl rfl ⟨by rw [hrm]; decide, by rw [hrm]; decide⟩, h.2.2.2.2.1 _ n_w698, h.2.2.2.2.1 _ n_w699⟩ (Cn := RX1) ⟨22, 1, _, _, _, _, TX1, 5, rfl, rfl, rfl⟩ rfl
    have all : ∀ x ∈ [((.invokevirtual 227 : Instr), ct_702)], q_Call C b_1_26 D tys n_KT 2 x.1 x.2 := (n_mem2 (g0) n_mem0)
    exact all (ins, ct) hx
def ct_704 : qCt := ((4, [[(2, 1)], [(0, 6), (2, (-1))]], [(2, 44, [(1, 1)]), (0, 0, [(2, 1)])], [([(1, 1)], 44, 0, (2, 42, [(3, 1)])), ([(3, 1)], 42, 2, (0, 0, [])), ([(3, 1)], 42, 9, (0, 0, [])), ([(3, 1)], 42, 10, (0, 0, [])), ([(3, 1)], 42, 12, (0, 0, [])), ([(3, 1)], 42, 13, (0, 0, [])), ([(1, 1)], 44, 3, (0, 0, [])), ([(1, 1)], 44, 4, (0, 0, []))]), (4, [], [(0, 0, [])], [([(1, 1)], 44, 0, (2, 42, [(3, 1)])), ([(3, 1)], 42, 2, (0, 0, [])), ([(3, 1)], 42, 9, (0, 0, [])), ([(3, 1)], 42, 10, (0, 0, [])), ([(3, 1)], 42, 12, (0, 0, [])), ([(3, 1)], 42, 13, (0, 0, [])), ([(1, 1)], 44, 3, (0, 0, [])), ([(1, 1)], 44, 4, (0, 0, []))], []), [], [], 0, 0)
def rm_704 : Room := { frames := 1, cells := 0, slots := 0, locals := 26 }
def e_704 : qEn := (k_13_54, (t_fg12, t_fp12, t_cn12), (t_na12, t_at12), (t_kI12, t_kL12, t_ob12, t_cp12), [], (q_k (-1), [], []))
def ts_704 : List (qTm × qCert × List qHx) := [((0, (4, [[(2, 1)], [(0, 6), (2, (-1))]], [(0, (2, 44, [(1, 1)])), (1, (0, 0, [(2, 1)]))], [], [([(1, 1)], 44, 0, (2, 42, [(3, 1)])), ([(3, 1)], 42, 2, (0, 0, [])), ([(3, 1)], 42, 9, (0, 0, [])), ([(3, 1)], 42, 10, (0, 0, [])), ([(3, 1)], 42, 12, (0, 0, [])), ([(3, 1)], 42, 13, (0, 0, [])), ([(1, 1)], 44, 3, (0, 0, [])), ([(1, 1)], 44, 4, (0, 0, []))], 0, 0), []), (1, []), [(0, 0, [], [], []), (0, 0, [], [], []), (2, 0, [(1, [(0, 1), (2, 1)])], [], []), (2, 0, [(1, [(1, 1), (2, 1)])], [], []), (0, 0, [], [], []), (0, 1, [], [], [0]), (0, 1, [], [], [4]), (5, 0, [], [], []), (0, 0, [], [], []), (0, 1, [], [], [0]), (0, 1, [], [], [5]), (5, 0, [], [], []), (0, 0, [], [], []), (0, 1, [], [], [0]), (0, 1, [], [], [1]), (5, 0, [], [], []), (0, 0, [], [], []), (0, 1, [], [], [0]), (0, 1, [], [], [2]), (0, 1, [(1, [])], [], []), (0, 0, [], [], []), (5, 0, [], [], []), (2, 0, [(1, [(4, 1)])], [], []), (0, 0, [], [], []), (0, 1, [], [], [0]), (0, 1, [], [], [3]), (5, 0, [], [], []), (0, 0, [], [], []), (0, 1, [], [], [7]), (5, 0, [], [], []), (0, 0, [], [], []), (0, 1, [], [], [6]), (5, 0, [], [], [])])]
set_option maxRecDepth 100000 in
theorem m_704 (l : Launch) : q_Met l vwCl n_TL n_NW n_KT y_13_54 (Cond.code y_13_54 b_13_54 2 (some .int) :: n_GW) rm_704 ct_704 := by
  refine q_method (E := e_704) ts_704 (by decide) rfl rfl rfl ?_ (by decide +kernel)
  intro C D tys htl hl hrm hm hml ho hts hnm hE
  have h : n_ctx C b_13_54 2 "BalanceCoderModel" D tys := ⟨htl, hm, hml, ho, fun w hw => hts w (List.mem_cons_of_mem _ hw), hE⟩
  refine ⟨⟨?_, ?_⟩, ⟨?_, ?_, ?_, ?_, ?_⟩, ⟨?_, ?_, ?_⟩, ⟨?_, ?_, ?_, ?_⟩, ?_⟩
  · intro i ins len hx; exact kd_13_54 (i, ins, len) hx
  · exact n_at hE.1
  · intro i ci f hx; exact c_fg12 h (i, ci, f) hx
  · intro i ci f hx; exact c_fp12 h (i, ci, f) hx
  · exact n_hap h
  · intro i ci n hx; exact c_cn12 h (i, ci, n) hx
  · exact n_hag htl
  · exact c_n112 h
  · exact c_n212 h
  · intro t ci hx; exact c_at12 h (t, ci) hx
  · intro i n hx; exact c_kI12 h (i, n) hx
  · intro i n hx; exact c_kL12 h (i, n) hx
  · exact c_ob12 h ⟨by rw [hrm]; decide, by rw [hrm]; decide⟩
  · exact c_cp12 h
  · intro ins ct hx; cases hx
