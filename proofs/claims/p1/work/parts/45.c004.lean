def ct_200 : qCt := ((4, [], [(2, 44, [(1, 1)]), (0, 0, [(0, 4)])], [([(1, 1)], 44, 0, (2, 42, [(2, 1)])), ([(2, 1)], 42, 0, (2, 7, [(3, 1)])), ([(3, 1)], 7, 0, (0, 0, [])), ([(3, 1)], 7, 1, (0, 0, [])), ([(3, 1)], 7, 2, (0, 0, [])), ([(3, 1)], 7, 3, (0, 0, [])), ([(3, 1)], 7, 4, (0, 0, [])), ([(3, 1)], 7, 5, (0, 0, [])), ([(1, 1)], 44, 3, (0, 0, []))]), (4, [], [(0, 0, [])], [([(3, 1)], 7, 4, (0, 0, [])), ([(1, 1)], 44, 0, (2, 42, [(2, 1)])), ([(2, 1)], 42, 0, (2, 7, [(3, 1)])), ([(3, 1)], 7, 0, (0, 0, [])), ([(3, 1)], 7, 1, (0, 0, [])), ([(3, 1)], 7, 2, (0, 0, [])), ([(3, 1)], 7, 3, (0, 0, [])), ([(3, 1)], 7, 5, (0, 0, [])), ([(1, 1)], 44, 3, (0, 0, []))], []), [], [(7, 0)], 0, 0)
def rm_200 : Room := { frames := 3, cells := 0, slots := 0, locals := 71 }
def e_200 : qEn := (k_13_7, (t_fg12, t_fp12, t_cn12), (t_na12, t_at12), (t_kI12, t_kL12, t_ob12, t_cp12), [(.invokestatic 76, ct_141)], (q_k (-1), [], []))
def ts_200 : List (qTm × qCert × List qHx) := [((0, (4, [], [(0, (2, 44, [(1, 1)])), (1, (0, 0, [(0, 4)]))], [], [([(1, 1)], 44, 0, (2, 42, [(2, 1)])), ([(2, 1)], 42, 0, (2, 7, [(3, 1)])), ([(3, 1)], 7, 0, (0, 0, [])), ([(3, 1)], 7, 1, (0, 0, [])), ([(3, 1)], 7, 2, (0, 0, [])), ([(3, 1)], 7, 3, (0, 0, [])), ([(3, 1)], 7, 4, (0, 0, [])), ([(3, 1)], 7, 5, (0, 0, [])), ([(1, 1)], 44, 3, (0, 0, []))], 0, 0), []), (1, []), [(0, 0, [], [], []), (0, 0, [], [], [0]), (0, 1, [(1, [])], [], []), (0, 0, [], [], []), (0, 1, [], [], [0]), (0, 1, [], [], [1]), (0, 0, [], [], []), (0, 1, [], [], [6]), (0, 0, [], [], []), (0, 0, [], [], []), (0, 1, [], [], [0]), (0, 1, [], [], [1]), (0, 0, [], [], []), (0, 0, [], [], []), (0, 2, [(1, []), (1, []), (1, []), (1, [])], [], []), (0, 0, [], [], []), (5, 0, [], [], []), (2, 0, [(1, [(1, 1)])], [], [])])]
set_option maxRecDepth 100000 in
theorem m_200 (l : Launch) : q_Met l vwCl n_TL n_NW n_KT y_13_7 (Cond.code y_13_7 b_13_7 3 (some .int) :: n_GW) rm_200 ct_200 := by
  refine q_method (E := e_200) ts_200 (by decide) rfl rfl rfl ?_ (by decide +kernel)
  intro C D tys htl hl hrm hm hml ho hts hnm hE
  have h : n_ctx C b_13_7 3 "BalanceCoderModel" D tys := ⟨htl, hm, hml, ho, fun w hw => hts w (List.mem_cons_of_mem _ hw), hE⟩
  refine ⟨⟨?_, ?_⟩, ⟨?_, ?_, ?_, ?_, ?_⟩, ⟨?_, ?_, ?_⟩, ⟨?_, ?_, ?_, ?_⟩, ?_⟩
  · intro i ins len hx; exact kd_13_7 (i, ins, len) hx
  · exact n_at hE.1
  · intro i ci f hx; exact c_fg12 h (i, ci, f) hx
  · intro i ci f hx; exact c_fp12 h (i, ci, f) hx
  · exact n_hap h
  · intro i ci n hx; exact c_cn12 h (i, ci, n) hx
  · exact n_hag htl
  · exact c_n112 h
  · exact c_n212 h
  · intro t ci hx; exact c_at12 h (t, ci) hx
  · intro i n hx; exact c_kI12 h (i, n) hx
  · intro i n hx; exact c_kL12 h (i, n) hx
  · exact c_ob12 h ⟨by rw [hrm]; decide, by rw [hrm]; decide⟩
  · exact c_cp12 h
  · intro ins ct hx
    have g0 : q_Call C b_13_7 D tys n_KT 3 (.invokestatic 76) ct_141 := q_callS n_NWk h.2.2.2.2.2 h.1 (m_141 C.2.1) ⟨h.2.1.1, h.2.1.2, h.2.2.1, h.2.2.2.1, h.2.2.2.2.1⟩ ⟨n_CB (y := y_13_4) (bytes := b_13_4) 1 h.2.2.2.2.1 n_w919 n_w917 n_w12 ⟨by decide, by decide, by decide +kernel⟩ rfl rfl ⟨by rw [hrm]; decide, by rw [hrm]; decide⟩, h.2.2.2.2.1 _ n_w918⟩ rfl
    have all : ∀ x ∈ [((.invokestatic 76 : Instr), ct_141)], q_Call C b_13_7 D tys n_KT 3 x.1 x.2 := (n_mem2 (g0) n_mem0)
    exact all (ins, ct) hx
def ct_201 : qCt := ((10, [], [(2, 40, [(1, 1)]), (0, 0, [(0, 5)])], [([(1, 1)], 40, 7, (0, 0, [])), ([(1, 1)], 40, 0, (2, 38, [(2, 1)])), ([(2, 1)], 38, 0, (2, 17, [(3, 1)])), ([(3, 1)], 17, 5, (2, 32, [(4, 1)])), ([(4, 1)], 32, 1, (0, 0, [])), ([(3, 1)], 17, 4, (2, 32, [(5, 1)])), ([(5, 1)], 32, 1, (0, 0, [])), ([(3, 1)], 17, 3, (2, 32, [(6, 1)])), ([(6, 1)], 32, 1, (0, 0, [])), ([(3, 1)], 17, 2, (2, 32, [(7, 1)])), ([(7, 1)], 32, 1, (0, 0, [])), ([(3, 1)], 17, 1, (2, 32, [(8, 1)])), ([(8, 1)], 32, 1, (0, 0, [])), ([(3, 1)], 17, 0, (2, 32, [(9, 1)])), ([(9, 1)], 32, 1, (0, 0, []))]), (10, [], [(0, 0, [])], [([(4, 1)], 32, 1, (0, 0, [])), ([(1, 1)], 40, 0, (2, 38, [(2, 1)])), ([(2, 1)], 38, 0, (2, 17, [(3, 1)])), ([(3, 1)], 17, 5, (2, 32, [(4, 1)])), ([(3, 1)], 17, 4, (2, 32, [(5, 1)])), ([(3, 1)], 17, 3, (2, 32, [(6, 1)])), ([(3, 1)], 17, 2, (2, 32, [(7, 1)])), ([(3, 1)], 17, 1, (2, 32, [(8, 1)])), ([(3, 1)], 17, 0, (2, 32, [(9, 1)])), ([(1, 1)], 40, 7, (0, 0, []))], []), [], [(32, 1)], 0, 0)
def rm_201 : Room := { frames := 2, cells := 0, slots := 0, locals := 47 }
def e_201 : qEn := (k_1_3, (t_fg10, t_fp10, t_cn10), (t_na10, t_at10), (t_kI10, t_kL10, t_ob10, t_cp10), [(.invokevirtual 51, ct_161)], (q_k (-1), [], []))
def ts_201 : List (qTm × qCert × List qHx) := [((0, (10, [], [(0, (2, 40, [(1, 1)])), (1, (0, 0, [(0, 5)]))], [], [([(1, 1)], 40, 7, (0, 0, [])), ([(1, 1)], 40, 0, (2, 38, [(2, 1)])), ([(2, 1)], 38, 0, (2, 17, [(3, 1)])), ([(3, 1)], 17, 5, (2, 32, [(4, 1)])), ([(4, 1)], 32, 1, (0, 0, [])), ([(3, 1)], 17, 4, (2, 32, [(5, 1)])), ([(5, 1)], 32, 1, (0, 0, [])), ([(3, 1)], 17, 3, (2, 32, [(6, 1)])), ([(6, 1)], 32, 1, (0, 0, [])), ([(3, 1)], 17, 2, (2, 32, [(7, 1)])), ([(7, 1)], 32, 1, (0, 0, [])), ([(3, 1)], 17, 1, (2, 32, [(8, 1)])), ([(8, 1)], 32, 1, (0, 0, [])), ([(3, 1)], 17, 0, (2, 32, [(9, 1)])), ([(9, 1)], 32, 1, (0, 0, []))], 0, 0), []), (1, []), [(0, 0, [], [], []), (0, 0, [], [], []), (0, 0, [], [[(1, 1)], [(2, 1)], [(3, 1)], [(4, 1)], [(5, 1)], [(6, 1)], [(7, 1)], [(8, 1)], [(9, 1)]], [0]), (0, 0, [], [], []), (0, 0, [], [], []), (0, 0, [], [], []), (0, 0, [], [], []), (0, 1, [], [], [12]), (0, 0, [], [], []), (0, 0, [], [], []), (0, 0, [], [], []), (0, 2, [(1, []), (1, [])], [], []), (0, 0, [], [], []), (5, 0, [], [], [])])]
set_option maxRecDepth 100000 in
theorem m_201 (l : Launch) : q_Met l vwCl n_TL n_NW n_KT y_1_3 (Cond.code y_1_3 b_1_3 4 (some .int) :: n_GW) rm_201 ct_201 := by
  refine q_method (E := e_201) ts_201 (by decide) rfl rfl rfl ?_ (by decide +kernel)
  intro C D tys htl hl hrm hm hml ho hts hnm hE
  have h : n_ctx C b_1_3 4 "BalanceCoder" D tys := ⟨htl, hm, hml, ho, fun w hw => hts w (List.mem_cons_of_mem _ hw), hE⟩
  refine ⟨⟨?_, ?_⟩, ⟨?_, ?_, ?_, ?_, ?_⟩, ⟨?_, ?_, ?_⟩, ⟨?_, ?_, ?_, ?_⟩, ?_⟩
  · intro i ins len hx; exact kd_1_3 (i, ins, len) hx
  · exact n_at hE.1
  · intro i ci f hx; exact c_fg10 h (i, ci, f) hx
  · intro i ci f hx; exact c_fp10 h (i, ci, f) hx
  · exact n_hap h
  · intro i ci n hx; exact c_cn10 h (i, ci, n) hx
  · exact n_hag htl
  · exact c_n110 h
  · exact c_n210 h
  · intro t ci hx; exact c_at10 h (t, ci) hx
  · intro i n hx; exact c_kI10 h (i, n) hx
  · intro i n hx; exact c_kL10 h (i, n) hx
  · exact c_ob10 h ⟨by rw [hrm]; decide, by rw [hrm]; decide⟩
  · exact c_cp10 h
  · intro ins ct hx
    have g0 : q_Call C b_1_3 D tys n_KT 4 (.invokevirtual 51) ct_161 := q_callV n_NWk h.2.2.2.2.2 h.1 (m_161 C.2.1) ⟨h.2.1.1, h.2.1.2, h.2.2.1, h.2.2.2.1, h.2.2.2.2.1⟩ ⟨n_CB (y := y_1_29) (bytes := b_1_29) 1 h.2.2.2.2.1 n_w305 n_w302 n_w1 ⟨by decide, by decide, by decide +kernel⟩ rfl rfl ⟨by rw [hrm]; decide, by rw [hrm]; decide⟩, h.2.2.2.2.1 _ n_w304, h.2.2.2.2.1 _ n_s0⟩ (Cn := RX10) ⟨40, 10, _, _, _, _, TX10, 8, rfl, rfl, rfl⟩ rfl
    have all : ∀ x ∈ [((.invokevirtual 51 : Instr), ct_161)], q_Call C b_1_3 D tys n_KT 4 x.1 x.2 := (n_mem2 (g0) n_mem0)
    exact all (ins, ct) hx
def ct_202 : qCt := ((4, [], [(2, 44, [(1, 1)]), (0, 0, [(0, 5)])], [([(1, 1)], 44, 0, (2, 42, [(2, 1)])), ([(2, 1)], 42, 0, (2, 7, [(3, 1)])), ([(3, 1)], 7, 0, (0, 0, [])), ([(3, 1)], 7, 1, (0, 0, [])), ([(3, 1)], 7, 2, (0, 0, [])), ([(3, 1)], 7, 3, (0, 0, [])), ([(3, 1)], 7, 4, (0, 0, [])), ([(3, 1)], 7, 5, (0, 0, [])), ([(1, 1)], 44, 3, (0, 0, []))]), (4, [], [(0, 0, [])], [([(3, 1)], 7, 5, (0, 0, [])), ([(1, 1)], 44, 0, (2, 42, [(2, 1)])), ([(2, 1)], 42, 0, (2, 7, [(3, 1)])), ([(3, 1)], 7, 0, (0, 0, [])), ([(3, 1)], 7, 1, (0, 0, [])), ([(3, 1)], 7, 2, (0, 0, [])), ([(3, 1)], 7, 3, (0, 0, [])), ([(3, 1)], 7, 4, (0, 0, [])), ([(1, 1)], 44, 3, (0, 0, []))], []), [], [(7, 0)], 0, 0)
def rm_202 : Room := { frames := 3, cells := 0, slots := 0, locals := 71 }
def e_202 : qEn := (k_13_7, (t_fg12, t_fp12, t_cn12), (t_na12, t_at12), (t_kI12, t_kL12, t_ob12, t_cp12), [(.invokestatic 76, ct_164)], (q_k (-1), [], []))
def ts_202 : List (qTm × qCert × List qHx) := [((0, (4, [], [(0, (2, 44, [(1, 1)])), (1, (0, 0, [(0, 5)]))], [], [([(1, 1)], 44, 0, (2, 42, [(2, 1)])), ([(2, 1)], 42, 0, (2, 7, [(3, 1)])), ([(3, 1)], 7, 0, (0, 0, [])), ([(3, 1)], 7, 1, (0, 0, [])), ([(3, 1)], 7, 2, (0, 0, [])), ([(3, 1)], 7, 3, (0, 0, [])), ([(3, 1)], 7, 4, (0, 0, [])), ([(3, 1)], 7, 5, (0, 0, [])), ([(1, 1)], 44, 3, (0, 0, []))], 0, 0), []), (1, []), [(0, 0, [], [], []), (0, 0, [], [], [0]), (0, 1, [(1, [])], [], []), (0, 0, [], [], []), (0, 1, [], [], [0]), (0, 1, [], [], [1]), (0, 0, [], [], []), (0, 1, [], [], [7]), (0, 0, [], [], []), (0, 0, [], [], []), (0, 1, [], [], [0]), (0, 1, [], [], [1]), (0, 0, [], [], []), (0, 0, [], [], []), (0, 2, [(1, []), (1, []), (1, []), (1, [])], [], []), (0, 0, [], [], []), (5, 0, [], [], []), (2, 0, [(1, [(1, 1)])], [], [])])]
set_option maxRecDepth 100000 in
theorem m_202 (l : Launch) : q_Met l vwCl n_TL n_NW n_KT y_13_7 (Cond.code y_13_7 b_13_7 3 (some .int) :: n_GW) rm_202 ct_202 := by
  refine q_method (E := e_202) ts_202 (by decide) rfl rfl rfl ?_ (by decide +kernel)
  intro C D tys htl hl hrm hm hml ho hts hnm hE
  have h : n_ctx C b_13_7 3 "BalanceCoderModel" D tys := ⟨htl, hm, hml, ho, fun w hw => hts w (List.mem_cons_of_mem _ hw), hE⟩
  refine ⟨⟨?_, ?_⟩, ⟨?_, ?_, ?_, ?_, ?_⟩, ⟨?_, ?_, ?_⟩, ⟨?_, ?_, ?_, ?_⟩, ?_⟩
  · intro i ins len hx; exact kd_13_7 (i, ins, len) hx
  · exact n_at hE.1
  · intro i ci f hx; exact c_fg12 h (i, ci, f) hx
  · intro i ci f hx; exact c_fp12 h (i, ci, f) hx
  · exact n_hap h
  · intro i ci n hx; exact c_cn12 h (i, ci, n) hx
  · exact n_hag htl
  · exact c_n112 h
  · exact c_n212 h
  · intro t ci hx; exact c_at12 h (t, ci) hx
  · intro i n hx; exact c_kI12 h (i, n) hx
  · intro i n hx; exact c_kL12 h (i, n) hx
  · exact c_ob12 h ⟨by rw [hrm]; decide, by rw [hrm]; decide⟩
  · exact c_cp12 h
  · intro ins ct hx
    have g0 : q_Call C b_13_7 D tys n_KT 3 (.invokestatic 76) ct_164 := q_callS n_NWk h.2.2.2.2.2 h.1 (m_164 C.2.1) ⟨h.2.1.1, h.2.1.2, h.2.2.1, h.2.2.2.1, h.2.2.2.2.1⟩ ⟨n_CB (y := y_13_4) (bytes := b_13_4) 1 h.2.2.2.2.1 n_w919 n_w917 n_w12 ⟨by decide, by decide, by decide +kernel⟩ rfl rfl ⟨by rw [hrm]; decide, by rw [hrm]; decide⟩, h.2.2.2.2.1 _ n_w918⟩ rfl
    have all : ∀ x ∈ [((.invokestatic 76 : Instr), ct_164)], q_Call C b_13_7 D tys n_KT 3 x.1 x.2 := (n_mem2 (g0) n_mem0)
    exact all (ins, ct) hx
def ct_203 : qCt := ((11, [[(0, (-6)), (2, 1)], [(0, 2147483647), (2, (-1))]], [(2, 40, [(1, 1)]), (0, 0, [(2, 1)])], [([(1, 1)], 40, 7, (0, 0, [])), ([(1, 1)], 40, 0, (2, 38, [(3, 1)])), ([(3, 1)], 38, 0, (2, 17, [(4, 1)])), ([(4, 1)], 17, 5, (2, 32, [(5, 1)])), ([(5, 1)], 32, 1, (0, 0, [])), ([(4, 1)], 17, 4, (2, 32, [(6, 1)])), ([(6, 1)], 32, 1, (0, 0, [])), ([(4, 1)], 17, 3, (2, 32, [(7, 1)])), ([(7, 1)], 32, 1, (0, 0, [])), ([(4, 1)], 17, 2, (2, 32, [(8, 1)])), ([(8, 1)], 32, 1, (0, 0, [])), ([(4, 1)], 17, 1, (2, 32, [(9, 1)])), ([(9, 1)], 32, 1, (0, 0, [])), ([(4, 1)], 17, 0, (2, 32, [(10, 1)])), ([(10, 1)], 32, 1, (0, 0, []))]), (11, [], [(0, 0, [(0, (-1))])], [([(1, 1)], 40, 7, (0, 0, [(0, 1)])), ([(1, 1)], 40, 0, (2, 38, [(3, 1)])), ([(3, 1)], 38, 0, (2, 17, [(4, 1)])), ([(4, 1)], 17, 5, (2, 32, [(5, 1)])), ([(4, 1)], 17, 4, (2, 32, [(6, 1)])), ([(4, 1)], 17, 3, (2, 32, [(7, 1)])), ([(4, 1)], 17, 2, (2, 32, [(8, 1)])), ([(4, 1)], 17, 1, (2, 32, [(9, 1)])), ([(4, 1)], 17, 0, (2, 32, [(10, 1)])), ([(5, 1)], 32, 1, (0, 0, [])), ([(6, 1)], 32, 1, (0, 0, [])), ([(7, 1)], 32, 1, (0, 0, [])), ([(8, 1)], 32, 1, (0, 0, [])), ([(9, 1)], 32, 1, (0, 0, [])), ([(10, 1)], 32, 1, (0, 0, []))], []), [], [(40, 7)], 0, 0)
def rm_203 : Room := { frames := 2, cells := 0, slots := 0, locals := 47 }
def e_203 : qEn := (k_1_3, (t_fg10, t_fp10, t_cn10), (t_na10, t_at10), (t_kI10, t_kL10, t_ob10, t_cp10), [(.invokevirtual 51, ct_184), (.invokevirtual 55, ct_14)], (q_k (-1), [], []))
def ts_203 : List (qTm × qCert × List qHx) := [((0, (11, [[(0, (-6)), (2, 1)], [(0, 2147483647), (2, (-1))]], [(0, (2, 40, [(1, 1)])), (1, (0, 0, [(2, 1)]))], [], [([(1, 1)], 40, 7, (0, 0, [])), ([(1, 1)], 40, 0, (2, 38, [(3, 1)])), ([(3, 1)], 38, 0, (2, 17, [(4, 1)])), ([(4, 1)], 17, 5, (2, 32, [(5, 1)])), ([(5, 1)], 32, 1, (0, 0, [])), ([(4, 1)], 17, 4, (2, 32, [(6, 1)])), ([(6, 1)], 32, 1, (0, 0, [])), ([(4, 1)], 17, 3, (2, 32, [(7, 1)])), ([(7, 1)], 32, 1, (0, 0, [])), ([(4, 1)], 17, 2, (2, 32, [(8, 1)])), ([(8, 1)], 32, 1, (0, 0, [])), ([(4, 1)], 17, 1, (2, 32, [(9, 1)])), ([(9, 1)], 32, 1, (0, 0, [])), ([(4, 1)], 17, 0, (2, 32, [(10, 1)])), ([(10, 1)], 32, 1, (0, 0, []))], 0, 0), []), (1, []), [(0, 0, [], [], []), (0, 0, [], [], []), (0, 0, [(1, [(0, 1)]), (1, [(1, 1)])], [[(1, 1)], [(2, 1)], [(3, 1)], [(4, 1)], [(5, 1)], [(6, 1)], [(7, 1)], [(8, 1)], [(9, 1)], [(10, 1)]], [0]), (0, 0, [], [], []), (0, 0, [], [], []), (0, 0, [], [], []), (0, 0, [], [], []), (0, 0, [], [], []), (0, 0, [], [[(1, 1)]], [1]), (5, 0, [], [], [])])]
set_option maxRecDepth 100000 in
theorem m_203 (l : Launch) : q_Met l vwCl n_TL n_NW n_KT y_1_3 (Cond.code y_1_3 b_1_3 4 (some .int) :: n_GW) rm_203 ct_203 := by
  refine q_method (E := e_203) ts_203 (by decide) rfl rfl rfl ?_ (by decide +kernel)
  intro C D tys htl hl hrm hm hml ho hts hnm hE
  have h : n_ctx C b_1_3 4 "BalanceCoder" D tys := ⟨htl, hm, hml, ho, fun w hw => hts w (List.mem_cons_of_mem _ hw), hE⟩
  refine ⟨⟨?_, ?_⟩, ⟨?_, ?_, ?_, ?_, ?_⟩, ⟨?_, ?_, ?_⟩, ⟨?_, ?_, ?_, ?_⟩, ?_⟩
  · intro i ins len hx; exact kd_1_3 (i, ins, len) hx
  · exact n_at hE.1
  · intro i ci f hx; exact c_fg10 h (i, ci, f) hx
  · intro i ci f hx; exact c_fp10 h (i, ci, f) hx
  · exact n_hap h
  · intro i ci n hx; exact c_cn10 h (i, ci, n) hx
  · exact n_hag htl
  · exact c_n110 h
  · exact c_n210 h
  · intro t ci hx; exact c_at10 h (t, ci) hx
  · intro i n hx; exact c_kI10 h (i, n) hx
  · intro i n hx; exact c_kL10 h (i, n) hx
  · exact c_ob10 h ⟨by rw [hrm]; decide, by rw [hrm]; decide⟩
  · exact c_cp10 h
  · intro ins ct hx
    have g0 : q_Call C b_1_3 D tys n_KT 4 (.invokevirtual 51) ct_184 := q_callV n_NWk h.2.2.2.2.2 h.1 (m_184 C.2.1) ⟨h.2.1.1, h.2.1.2, h.2.2.1, h.2.2.2.1, h.2.2.2.2.1⟩ ⟨n_CB (y := y_1_29) (bytes := b_1_29) 1 h.2.2.2.2.1 n_w305 n_w302 n_w1 ⟨by decide, by decide, by decide +kernel⟩ rfl rfl ⟨by rw [hrm]; decide, by rw [hrm]; decide⟩, h.2.2.2.2.1 _ n_w304, h.2.2.2.2.1 _ n_s0⟩ (Cn := RX10) ⟨40, 10, _, _, _, _, TX10, 8, rfl, rfl, rfl⟩ rfl
    have g1 : q_Call C b_1_3 D tys n_KT 4 (.invokevirtual 55) ct_14 := q_callV n_NWk h.2.2.2.2.2 h.1 (m_14 C.2.1) ⟨h.2.1.1, h.2.1.2, h.2.2.1, h.2.2.2.1, h.2.2.2.2.1⟩ ⟨n_CB (y := y_1_27) (bytes := b_1_27) 1 h.2.2.2.2.1 n_w309 n_w306 n_w1 ⟨by decide, by decide, by decide +kernel⟩ rfl rfl ⟨by rw [hrm]; decide, by rw [hrm]; decide⟩, h.2.2.2.2.1 _ n_w308, h.2.2.2.2.1 _ n_s1⟩ (Cn := RX10) ⟨40, 10, _, _, _, _, TX10, 8, rfl, rfl, rfl⟩ rfl
    have all : ∀ x ∈ [((.invokevirtual 51 : Instr), ct_184), ((.invokevirtual 55 : Instr), ct_14)], q_Call C b_1_3 D tys n_KT 4 x.1 x.2 := (n_mem2 (g0) (n_mem2 (g1) n_mem0))
    exact all (ins, ct) hx
def ct_204 : qCt := ((5, [[(0, (-6)), (2, 1)], [(0, 2147483647), (2, (-1))]], [(2, 44, [(1, 1)]), (0, 0, [(2, 1)])], [([(1, 1)], 44, 0, (2, 42, [(3, 1)])), ([(3, 1)], 42, 0, (2, 7, [(4, 1)])), ([(4, 1)], 7, 0, (0, 0, [])), ([(4, 1)], 7, 1, (0, 0, [])), ([(4, 1)], 7, 2, (0, 0, [])), ([(4, 1)], 7, 3, (0, 0, [])), ([(4, 1)], 7, 4, (0, 0, [])), ([(4, 1)], 7, 5, (0, 0, [])), ([(1, 1)], 44, 3, (0, 0, []))]), (5, [], [(0, 0, [(0, (-1))])], [([(1, 1)], 44, 3, (0, 0, [(0, 1)])), ([(1, 1)], 44, 0, (2, 42, [(3, 1)])), ([(3, 1)], 42, 0, (2, 7, [(4, 1)])), ([(4, 1)], 7, 0, (0, 0, [])), ([(4, 1)], 7, 1, (0, 0, [])), ([(4, 1)], 7, 2, (0, 0, [])), ([(4, 1)], 7, 3, (0, 0, [])), ([(4, 1)], 7, 4, (0, 0, [])), ([(4, 1)], 7, 5, (0, 0, []))], []), [], [(44, 3)], 0, 0)
def rm_204 : Room := { frames := 3, cells := 0, slots := 0, locals := 71 }
def e_204 : qEn := (k_13_7, (t_fg12, t_fp12, t_cn12), (t_na12, t_at12), (t_kI12, t_kL12, t_ob12, t_cp12), [(.invokestatic 76, ct_187), (.invokevirtual 82, ct_18)], (q_k (-1), [], []))
def ts_204 : List (qTm × qCert × List qHx) := [((0, (5, [[(0, (-6)), (2, 1)], [(0, 2147483647), (2, (-1))]], [(0, (2, 44, [(1, 1)])), (1, (0, 0, [(2, 1)]))], [], [([(1, 1)], 44, 0, (2, 42, [(3, 1)])), ([(3, 1)], 42, 0, (2, 7, [(4, 1)])), ([(4, 1)], 7, 0, (0, 0, [])), ([(4, 1)], 7, 1, (0, 0, [])), ([(4, 1)], 7, 2, (0, 0, [])), ([(4, 1)], 7, 3, (0, 0, [])), ([(4, 1)], 7, 4, (0, 0, [])), ([(4, 1)], 7, 5, (0, 0, [])), ([(1, 1)], 44, 3, (0, 0, []))], 0, 0), []), (1, []), [(0, 0, [], [], []), (0, 0, [(1, [(0, 1)]), (1, [(1, 1)])], [[(2, 1)]], [0]), (0, 1, [(1, [])], [], []), (2, 0, [(1, [(2, 1)])], [], []), (0, 0, [], [], []), (0, 0, [], [], []), (0, 0, [], [[(1, 1)]], [1]), (5, 0, [], [], [])])]
set_option maxRecDepth 100000 in
theorem m_204 (l : Launch) : q_Met l vwCl n_TL n_NW n_KT y_13_7 (Cond.code y_13_7 b_13_7 3 (some .int) :: n_GW) rm_204 ct_204 := by
  refine q_method (E := e_204) ts_204 (by decide) rfl rfl rfl ?_ (by decide +kernel)
  intro C D tys htl hl hrm hm hml ho hts hnm hE
  have h : n_ctx C b_13_7 3 "BalanceCoderModel" D tys := ⟨htl, hm, hml, ho, fun w hw => hts w (List.mem_cons_of_mem _ hw), hE⟩
  refine ⟨⟨?_, ?_⟩, ⟨?_, ?_, ?_, ?_, ?_⟩, ⟨?_, ?_, ?_⟩, ⟨?_, ?_, ?_, ?_⟩, ?_⟩
  · intro i ins len hx; exact kd_13_7 (i, ins, len) hx
  · exact n_at hE.1
  · intro i ci f hx; exact c_fg12 h (i, ci, f) hx
  · intro i ci f hx; exact c_fp12 h (i, ci, f) hx
  · exact n_hap h
  · intro i ci n hx; exact c_cn12 h (i, ci, n) hx
  · exact n_hag htl
  · exact c_n112 h
  · exact c_n212 h
  · intro t ci hx; exact c_at12 h (t, ci) hx
  · intro i n hx; exact c_kI12 h (i, n) hx
  · intro i n hx; exact c_kL12 h (i, n) hx
  · exact c_ob12 h ⟨by rw [hrm]; decide, by rw [hrm]; decide⟩
  · exact c_cp12 h
  · intro ins ct hx
    have g0 : q_Call C b_13_7 D tys n_KT 3 (.invokestatic 76) ct_187 := q_callS n_NWk h.2.2.2.2.2 h.1 (m_187 C.2.1) ⟨h.2.1.1, h.2.1.2, h.2.2.1, h.2.2.2.1, h.2.2.2.2.1⟩ ⟨n_CB (y := y_13_4) (bytes := b_13_4) 1 h.2.2.2.2.1 n_w919 n_w917 n_w12 ⟨by decide, by decide, by decide +kernel⟩ rfl rfl ⟨by rw [hrm]; decide, by rw [hrm]; decide⟩, h.2.2.2.2.1 _ n_w918⟩ rfl
    have g1 : q_Call C b_13_7 D tys n_KT 3 (.invokevirtual 82) ct_18 := q_callV n_NWk h.2.2.2.2.2 h.1 (m_18 C.2.1) ⟨h.2.1.1, h.2.1.2, h.2.2.1, h.2.2.2.1, h.2.2.2.2.1⟩ ⟨n_CB (y := y_13_2) (bytes := b_13_2) 1 h.2.2.2.2.1 n_w928 n_w925 n_w12 ⟨by decide, by decide, by decide +kernel⟩ rfl rfl ⟨by rw [hrm]; decide, by rw [hrm]; decide⟩, h.2.2.2.2.1 _ n_w927, h.2.2.2.2.1 _ n_s27⟩ (Cn := RX12) ⟨44, 12, _, _, _, _, TX12, 31, rfl, rfl, rfl⟩ rfl
    have all : ∀ x ∈ [((.invokestatic 76 : Instr), ct_187), ((.invokevirtual 82 : Instr), ct_18)], q_Call C b_13_7 D tys n_KT 3 x.1 x.2 := (n_mem2 (g0) (n_mem2 (g1) n_mem0))
    exact all (ins, ct) hx
def ct_205 : qCt := ((18, [[(0, 2147483648), (2, 1)], [(0, (-1)), (2, (-1))], [(0, 2147483648), (3, 1)], [(0, 2147483647), (3, (-1))]], [(2, 40, [(1, 1)]), (0, 0, [(2, 1)]), (0, 0, [(3, 1)])], [([(1, 1)], 40, 7, (0, 0, [])), ([(1, 1)], 40, 0, (2, 38, [(4, 1)])), ([(4, 1)], 38, 0, (2, 17, [(5, 1)])), ([(5, 1)], 17, 5, (2, 32, [(6, 1)])), ([(6, 1)], 32, 1, (0, 0, [])), ([(6, 1)], 32, 0, (2, 0, [(7, 1)])), ([(5, 1)], 17, 4, (2, 32, [(8, 1)])), ([(8, 1)], 32, 1, (0, 0, [])), ([(8, 1)], 32, 0, (2, 0, [(9, 1)])), ([(5, 1)], 17, 3, (2, 32, [(10, 1)])), ([(10, 1)], 32, 1, (0, 0, [])), ([(10, 1)], 32, 0, (2, 0, [(11, 1)])), ([(5, 1)], 17, 2, (2, 32, [(12, 1)])), ([(12, 1)], 32, 1, (0, 0, [])), ([(12, 1)], 32, 0, (2, 0, [(13, 1)])), ([(5, 1)], 17, 1, (2, 32, [(14, 1)])), ([(14, 1)], 32, 1, (0, 0, [])), ([(14, 1)], 32, 0, (2, 0, [(15, 1)])), ([(5, 1)], 17, 0, (2, 32, [(16, 1)])), ([(16, 1)], 32, 1, (0, 0, [])), ([(16, 1)], 32, 0, (2, 0, [(17, 1)]))]), (18, [], [(0, 0, [(0, (-1))])], [([(1, 1)], 40, 7, (0, 0, [(0, 1)])), ([(1, 1)], 40, 0, (2, 38, [(4, 1)])), ([(4, 1)], 38, 0, (2, 17, [(5, 1)])), ([(5, 1)], 17, 5, (2, 32, [(6, 1)])), ([(5, 1)], 17, 4, (2, 32, [(8, 1)])), ([(5, 1)], 17, 3, (2, 32, [(10, 1)])), ([(5, 1)], 17, 2, (2, 32, [(12, 1)])), ([(5, 1)], 17, 1, (2, 32, [(14, 1)])), ([(5, 1)], 17, 0, (2, 32, [(16, 1)])), ([(6, 1)], 32, 1, (0, 0, [])), ([(6, 1)], 32, 0, (2, 0, [(7, 1)])), ([(8, 1)], 32, 1, (0, 0, [])), ([(8, 1)], 32, 0, (2, 0, [(9, 1)])), ([(10, 1)], 32, 1, (0, 0, [])), ([(10, 1)], 32, 0, (2, 0, [(11, 1)])), ([(12, 1)], 32, 1, (0, 0, [])), ([(12, 1)], 32, 0, (2, 0, [(13, 1)])), ([(14, 1)], 32, 1, (0, 0, [])), ([(14, 1)], 32, 0, (2, 0, [(15, 1)])), ([(16, 1)], 32, 1, (0, 0, [])), ([(16, 1)], 32, 0, (2, 0, [(17, 1)]))], []), [], [(40, 7)], 0, 0)
def rm_205 : Room := { frames := 2, cells := 0, slots := 0, locals := 47 }
def e_205 : qEn := (k_1_4, (t_fg10, t_fp10, t_cn10), (t_na10, t_at10), (t_kI10, t_kL10, t_ob10, t_cp10), [(.invokevirtual 51, ct_13), (.invokevirtual 55, ct_14)], (q_k (-1), [], []))
def ts_205 : List (qTm × qCert × List qHx) := [((0, (18, [[(0, 2147483648), (2, 1)], [(0, (-1)), (2, (-1))], [(0, 2147483648), (3, 1)], [(0, 2147483647), (3, (-1))]], [(0, (2, 40, [(1, 1)])), (1, (0, 0, [(2, 1)])), (2, (0, 0, [(3, 1)]))], [], [([(1, 1)], 40, 7, (0, 0, [])), ([(1, 1)], 40, 0, (2, 38, [(4, 1)])), ([(4, 1)], 38, 0, (2, 17, [(5, 1)])), ([(5, 1)], 17, 5, (2, 32, [(6, 1)])), ([(6, 1)], 32, 1, (0, 0, [])), ([(6, 1)], 32, 0, (2, 0, [(7, 1)])), ([(5, 1)], 17, 4, (2, 32, [(8, 1)])), ([(8, 1)], 32, 1, (0, 0, [])), ([(8, 1)], 32, 0, (2, 0, [(9, 1)])), ([(5, 1)], 17, 3, (2, 32, [(10, 1)])), ([(10, 1)], 32, 1, (0, 0, [])), ([(10, 1)], 32, 0, (2, 0, [(11, 1)])), ([(5, 1)], 17, 2, (2, 32, [(12, 1)])), ([(12, 1)], 32, 1, (0, 0, [])), ([(12, 1)], 32, 0, (2, 0, [(13, 1)])), ([(5, 1)], 17, 1, (2, 32, [(14, 1)])), ([(14, 1)], 32, 1, (0, 0, [])), ([(14, 1)], 32, 0, (2, 0, [(15, 1)])), ([(5, 1)], 17, 0, (2, 32, [(16, 1)])), ([(16, 1)], 32, 1, (0, 0, [])), ([(16, 1)], 32, 0, (2, 0, [(17, 1)]))], 0, 0), []), (1, []), [(0, 0, [], [], []), (0, 0, [], [], []), (0, 0, [(1, [(0, 1)]), (1, [(1, 1)])], [[(1, 1)], [(2, 1)], [(4, 1)], [(5, 1)], [(6, 1)], [(8, 1)], [(10, 1)], [(12, 1)], [(14, 1)], [(16, 1)]], [0]), (0, 0, [], [], []), (0, 0, [], [], []), (0, 0, [], [], []), (0, 0, [], [], []), (0, 0, [], [], []), (0, 0, [], [[(1, 1)]], [1]), (5, 0, [], [], [])])]
set_option maxRecDepth 100000 in
theorem m_205 (l : Launch) : q_Met l vwCl n_TL n_NW n_KT y_1_4 (Cond.code y_1_4 b_1_4 4 (some .int) :: n_GW) rm_205 ct_205 := by
  refine q_method (E := e_205) ts_205 (by decide) rfl rfl rfl ?_ (by decide +kernel)
  intro C D tys htl hl hrm hm hml ho hts hnm hE
  have h : n_ctx C b_1_4 4 "BalanceCoder" D tys := ⟨htl, hm, hml, ho, fun w hw => hts w (List.mem_cons_of_mem _ hw), hE⟩
  refine ⟨⟨?_, ?_⟩, ⟨?_, ?_, ?_, ?_, ?_⟩, ⟨?_, ?_, ?_⟩, ⟨?_, ?_, ?_, ?_⟩, ?_⟩
  · intro i ins len hx; exact kd_1_4 (i, ins, len) hx
  · exact n_at hE.1
  · intro i ci f hx; exact c_fg10 h (i, ci, f) hx
  · intro i ci f hx; exact c_fp10 h (i, ci, f) hx
  · exact n_hap h
  · intro i ci n hx; exact c_cn10 h (i, ci, n) hx
  · exact n_hag htl
  · exact c_n110 h
  · exact c_n210 h
  · intro t ci hx; exact c_at10 h (t, ci) hx
  · intro i n hx; exact c_kI10 h (i, n) hx
  · intro i n hx; exact c_kL10 h (i, n) hx
  · exact c_ob10 h ⟨by rw [hrm]; decide, by rw [hrm]; decide⟩
  · exact c_cp10 h
  · intro ins ct hx
    have g0 : q_Call C b_1_4 D tys n_KT 4 (.invokevirtual 51) ct_13 := q_callV n_NWk h.2.2.2.2.2 h.1 (m_13 C.2.1) ⟨h.2.1.1, h.2.1.2, h.2.2.1, h.2.2.2.1, h.2.2.2.2.1⟩ ⟨n_CB (y := y_1_29) (bytes := b_1_29) 1 h.2.2.2.2.1 n_w305 n_w302 n_w1 ⟨by decide, by decide, by decide +kernel⟩ rfl rfl ⟨by rw [hrm]; decide, by rw [hrm]; decide⟩, h.2.2.2.2.1 _ n_w304, h.2.2.2.2.1 _ n_s0⟩ (Cn := RX10) ⟨40, 10, _, _, _, _, TX10, 8, rfl, rfl, rfl⟩ rfl
    have g1 : q_Call C b_1_4 D tys n_KT 4 (.invokevirtual 55) ct_14 := q_callV n_NWk h.2.2.2.2.2 h.1 (m_14 C.2.1) ⟨h.2.1.1, h.2.1.2, h.2.2.1, h.2.2.2.1, h.2.2.2.2.1⟩ ⟨n_CB (y := y_1_27) (bytes := b_1_27) 1 h.2.2.2.2.1 n_w309 n_w306 n_w1 ⟨by decide, by decide, by decide +kernel⟩ rfl rfl ⟨by rw [hrm]; decide, by rw [hrm]; decide⟩, h.2.2.2.2.1 _ n_w308, h.2.2.2.2.1 _ n_s1⟩ (Cn := RX10) ⟨40, 10, _, _, _, _, TX10, 8, rfl, rfl, rfl⟩ rfl
    have all : ∀ x ∈ [((.invokevirtual 51 : Instr), ct_13), ((.invokevirtual 55 : Instr), ct_14)], q_Call C b_1_4 D tys n_KT 4 x.1 x.2 := (n_mem2 (g0) (n_mem2 (g1) n_mem0))
    exact all (ins, ct) hx
def ct_206 : qCt := ((7, [[(0, 2147483648), (2, 1)], [(0, (-1)), (2, (-1))], [(0, 2147483648), (3, 1)], [(0, 2147483647), (3, (-1))]], [(2, 44, [(1, 1)]), (0, 0, [(2, 1)]), (0, 0, [(3, 1)])], [([(1, 1)], 44, 0, (2, 42, [(4, 1)])), ([(4, 1)], 42, 1, (2, 8, [(5, 1)])), ([(4, 1)], 42, 0, (2, 7, [(6, 1)])), ([(6, 1)], 7, 0, (0, 0, [])), ([(6, 1)], 7, 1, (0, 0, [])), ([(6, 1)], 7, 2, (0, 0, [])), ([(6, 1)], 7, 3, (0, 0, [])), ([(6, 1)], 7, 4, (0, 0, [])), ([(6, 1)], 7, 5, (0, 0, [])), ([(1, 1)], 44, 3, (0, 0, []))]), (7, [], [(0, 0, [(0, (-1))])], [([(1, 1)], 44, 3, (0, 0, [(0, 1)])), ([(1, 1)], 44, 0, (2, 42, [(4, 1)])), ([(4, 1)], 42, 1, (2, 8, [(5, 1)])), ([(4, 1)], 42, 0, (2, 7, [(6, 1)])), ([(6, 1)], 7, 0, (0, 0, [])), ([(6, 1)], 7, 1, (0, 0, [])), ([(6, 1)], 7, 2, (0, 0, [])), ([(6, 1)], 7, 3, (0, 0, [])), ([(6, 1)], 7, 4, (0, 0, [])), ([(6, 1)], 7, 5, (0, 0, []))], []), [], [(44, 3)], 0, 0)
def rm_206 : Room := { frames := 3, cells := 0, slots := 0, locals := 71 }
def e_206 : qEn := (k_13_8, (t_fg12, t_fp12, t_cn12), (t_na12, t_at12), (t_kI12, t_kL12, t_ob12, t_cp12), [(.invokestatic 76, ct_17), (.invokevirtual 82, ct_18)], (q_k (-1), [], []))
def ts_206 : List (qTm × qCert × List qHx) := [((0, (7, [[(0, 2147483648), (2, 1)], [(0, (-1)), (2, (-1))], [(0, 2147483648), (3, 1)], [(0, 2147483647), (3, (-1))]], [(0, (2, 44, [(1, 1)])), (1, (0, 0, [(2, 1)])), (2, (0, 0, [(3, 1)]))], [], [([(1, 1)], 44, 0, (2, 42, [(4, 1)])), ([(4, 1)], 42, 1, (2, 8, [(5, 1)])), ([(4, 1)], 42, 0, (2, 7, [(6, 1)])), ([(6, 1)], 7, 0, (0, 0, [])), ([(6, 1)], 7, 1, (0, 0, [])), ([(6, 1)], 7, 2, (0, 0, [])), ([(6, 1)], 7, 3, (0, 0, [])), ([(6, 1)], 7, 4, (0, 0, [])), ([(6, 1)], 7, 5, (0, 0, [])), ([(1, 1)], 44, 3, (0, 0, []))], 0, 0), []), (1, []), [(0, 0, [], [], []), (0, 0, [(1, [(0, 1)]), (1, [(1, 1)])], [[(2, 1)]], [0]), (0, 1, [(1, [])], [], []), (0, 0, [], [], []), (0, 0, [], [], []), (0, 0, [], [[(1, 1)]], [1]), (5, 0, [], [], []), (2, 0, [(1, [(4, 1)])], [], [])])]
set_option maxRecDepth 100000 in
theorem m_206 (l : Launch) : q_Met l vwCl n_TL n_NW n_KT y_13_8 (Cond.code y_13_8 b_13_8 3 (some .int) :: n_GW) rm_206 ct_206 := by
  refine q_method (E := e_206) ts_206 (by decide) rfl rfl rfl ?_ (by decide +kernel)
  intro C D tys htl hl hrm hm hml ho hts hnm hE
  have h : n_ctx C b_13_8 3 "BalanceCoderModel" D tys := ⟨htl, hm, hml, ho, fun w hw => hts w (List.mem_cons_of_mem _ hw), hE⟩
  refine ⟨⟨?_, ?_⟩, ⟨?_, ?_, ?_, ?_, ?_⟩, ⟨?_, ?_, ?_⟩, ⟨?_, ?_, ?_, ?_⟩, ?_⟩
  · intro i ins len hx; exact kd_13_8 (i, ins, len) hx
  · exact n_at hE.1
  · intro i ci f hx; exact c_fg12 h (i, ci, f) hx
  · intro i ci f hx; exact c_fp12 h (i, ci, f) hx
  · exact n_hap h
  · intro i ci n hx; exact c_cn12 h (i, ci, n) hx
  · exact n_hag htl
  · exact c_n112 h
  · exact c_n212 h
  · intro t ci hx; exact c_at12 h (t, ci) hx
  · intro i n hx; exact c_kI12 h (i, n) hx
  · intro i n hx; exact c_kL12 h (i, n) hx
  · exact c_ob12 h ⟨by rw [hrm]; decide, by rw [hrm]; decide⟩
  · exact c_cp12 h
  · intro ins ct hx
    have g0 : q_Call C b_13_8 D tys n_KT 3 (.invokestatic 76) ct_17 := q_callS n_NWk h.2.2.2.2.2 h.1 (m_17 C.2.1) ⟨h.2.1.1, h.2.1.2, h.2.2.1, h.2.2.2.1, h.2.2.2.2.1⟩ ⟨n_CB (y := y_13_4) (bytes := b_13_4) 1 h.2.2.2.2.1 n_w919 n_w917 n_w12 ⟨by decide, by decide, by decide +kernel⟩ rfl rfl ⟨by rw [hrm]; decide, by rw [hrm]; decide⟩, h.2.2.2.2.1 _ n_w918⟩ rfl
    have g1 : q_Call C b_13_8 D tys n_KT 3 (.invokevirtual 82) ct_18 := q_callV n_NWk h.2.2.2.2.2 h.1 (m_18 C.2.1) ⟨h.2.1.1, h.2.1.2, h.2.2.1, h.2.2.2.1, h.2.2.2.2.1⟩ ⟨n_CB (y := y_13_2) (bytes := b_13_2) 1 h.2.2.2.2.1 n_w928 n_w925 n_w12 ⟨by decide, by decide, by decide +kernel⟩ rfl rfl ⟨by rw [hrm]; decide, by rw [hrm]; decide⟩, h.2.2.2.2.1 _ n_w927, h.2.2.2.2.1 _ n_s27⟩ (Cn := RX12) ⟨44, 12, _, _, _, _, TX12, 31, rfl, rfl, rfl⟩ rfl
    have all : ∀ x ∈ [((.invokestatic 76 : Instr), ct_17), ((.invokevirtual 82 : Instr), ct_18)], q_Call C b_13_8 D tys n_KT 3 x.1 x.2 := (n_mem2 (g0) (n_mem2 (g1) n_mem0))
    exact all (ins, ct) hx
def ct_207 : qCt := ((17, [[(0, 2147483648), (2, 1)], [(0, (-2)), (2, (-1))]], [(2, 40, [(1, 1)]), (0, 0, []), (0, 0, [(2, 1)])], [([(1, 1)], 40, 7, (0, 0, [])), ([(1, 1)], 40, 0, (2, 38, [(3, 1)])), ([(3, 1)], 38, 0, (2, 17, [(4, 1)])), ([(4, 1)], 17, 5, (2, 32, [(5, 1)])), ([(5, 1)], 32, 1, (0, 0, [])), ([(5, 1)], 32, 0, (2, 0, [(6, 1)])), ([(4, 1)], 17, 4, (2, 32, [(7, 1)])), ([(7, 1)], 32, 1, (0, 0, [])), ([(7, 1)], 32, 0, (2, 0, [(8, 1)])), ([(4, 1)], 17, 3, (2, 32, [(9, 1)])), ([(9, 1)], 32, 1, (0, 0, [])), ([(9, 1)], 32, 0, (2, 0, [(10, 1)])), ([(4, 1)], 17, 2, (2, 32, [(11, 1)])), ([(11, 1)], 32, 1, (0, 0, [])), ([(11, 1)], 32, 0, (2, 0, [(12, 1)])), ([(4, 1)], 17, 1, (2, 32, [(13, 1)])), ([(13, 1)], 32, 1, (0, 0, [])), ([(13, 1)], 32, 0, (2, 0, [(14, 1)])), ([(4, 1)], 17, 0, (2, 32, [(15, 1)])), ([(15, 1)], 32, 1, (0, 0, [])), ([(15, 1)], 32, 0, (2, 0, [(16, 1)]))]), (17, [], [(0, 0, [(0, (-1))])], [([(1, 1)], 40, 7, (0, 0, [(0, 1)])), ([(1, 1)], 40, 0, (2, 38, [(3, 1)])), ([(3, 1)], 38, 0, (2, 17, [(4, 1)])), ([(4, 1)], 17, 5, (2, 32, [(5, 1)])), ([(4, 1)], 17, 4, (2, 32, [(7, 1)])), ([(4, 1)], 17, 3, (2, 32, [(9, 1)])), ([(4, 1)], 17, 2, (2, 32, [(11, 1)])), ([(4, 1)], 17, 1, (2, 32, [(13, 1)])), ([(4, 1)], 17, 0, (2, 32, [(15, 1)])), ([(5, 1)], 32, 1, (0, 0, [])), ([(5, 1)], 32, 0, (2, 0, [(6, 1)])), ([(7, 1)], 32, 1, (0, 0, [])), ([(7, 1)], 32, 0, (2, 0, [(8, 1)])), ([(9, 1)], 32, 1, (0, 0, [])), ([(9, 1)], 32, 0, (2, 0, [(10, 1)])), ([(11, 1)], 32, 1, (0, 0, [])), ([(11, 1)], 32, 0, (2, 0, [(12, 1)])), ([(13, 1)], 32, 1, (0, 0, [])), ([(13, 1)], 32, 0, (2, 0, [(14, 1)])), ([(15, 1)], 32, 1, (0, 0, [])), ([(15, 1)], 32, 0, (2, 0, [(16, 1)]))], []), [], [(40, 7)], 0, 0)
def rm_207 : Room := { frames := 2, cells := 0, slots := 0, locals := 47 }
def e_207 : qEn := (k_1_4, (t_fg10, t_fp10, t_cn10), (t_na10, t_at10), (t_kI10, t_kL10, t_ob10, t_cp10), [(.invokevirtual 51, ct_20), (.invokevirtual 55, ct_14)], (q_k (-1), [], []))
def ts_207 : List (qTm × qCert × List qHx) := [((0, (17, [[(0, 2147483648), (2, 1)], [(0, (-2)), (2, (-1))]], [(0, (2, 40, [(1, 1)])), (1, (0, 0, [])), (2, (0, 0, [(2, 1)]))], [], [([(1, 1)], 40, 7, (0, 0, [])), ([(1, 1)], 40, 0, (2, 38, [(3, 1)])), ([(3, 1)], 38, 0, (2, 17, [(4, 1)])), ([(4, 1)], 17, 5, (2, 32, [(5, 1)])), ([(5, 1)], 32, 1, (0, 0, [])), ([(5, 1)], 32, 0, (2, 0, [(6, 1)])), ([(4, 1)], 17, 4, (2, 32, [(7, 1)])), ([(7, 1)], 32, 1, (0, 0, [])), ([(7, 1)], 32, 0, (2, 0, [(8, 1)])), ([(4, 1)], 17, 3, (2, 32, [(9, 1)])), ([(9, 1)], 32, 1, (0, 0, [])), ([(9, 1)], 32, 0, (2, 0, [(10, 1)])), ([(4, 1)], 17, 2, (2, 32, [(11, 1)])), ([(11, 1)], 32, 1, (0, 0, [])), ([(11, 1)], 32, 0, (2, 0, [(12, 1)])), ([(4, 1)], 17, 1, (2, 32, [(13, 1)])), ([(13, 1)], 32, 1, (0, 0, [])), ([(13, 1)], 32, 0, (2, 0, [(14, 1)])), ([(4, 1)], 17, 0, (2, 32, [(15, 1)])), ([(15, 1)], 32, 1, (0, 0, [])), ([(15, 1)], 32, 0, (2, 0, [(16, 1)]))], 0, 0), []), (1, []), [(0, 0, [], [], []), (0, 0, [], [], []), (0, 0, [], [[(1, 1)], [(3, 1)], [(4, 1)], [(5, 1)], [(7, 1)], [(9, 1)], [(11, 1)], [(13, 1)], [(15, 1)]], [0]), (0, 0, [], [], []), (0, 0, [], [], []), (0, 0, [], [], []), (0, 0, [], [], []), (0, 0, [], [], []), (0, 0, [], [], []), (0, 0, [], [], []), (0, 0, [], [], []), (0, 0, [], [[(1, 1)]], [1]), (5, 0, [], [], []), (2, 0, [(1, [(1, 1), (2, 1)])], [], [])])]
set_option maxRecDepth 100000 in
theorem m_207 (l : Launch) : q_Met l vwCl n_TL n_NW n_KT y_1_4 (Cond.code y_1_4 b_1_4 4 (some .int) :: n_GW) rm_207 ct_207 := by
  refine q_method (E := e_207) ts_207 (by decide) rfl rfl rfl ?_ (by decide +kernel)
  intro C D tys htl hl hrm hm hml ho hts hnm hE
  have h : n_ctx C b_1_4 4 "BalanceCoder" D tys := ⟨htl, hm, hml, ho, fun w hw => hts w (List.mem_cons_of_mem _ hw), hE⟩
  refine ⟨⟨?_, ?_⟩, ⟨?_, ?_, ?_, ?_, ?_⟩, ⟨?_, ?_, ?_⟩, ⟨?_, ?_, ?_, ?_⟩, ?_⟩
  · intro i ins len hx; exact kd_1_4 (i, ins, len) hx
  · exact n_at hE.1
  · intro i ci f hx; exact c_fg10 h (i, ci, f) hx
  · intro i ci f hx; exact c_fp10 h (i, ci, f) hx
  · exact n_hap h
  · intro i ci n hx; exact c_cn10 h (i, ci, n) hx
  · exact n_hag htl
  · exact c_n110 h
  · exact c_n210 h
  · intro t ci hx; exact c_at10 h (t, ci) hx
  · intro i n hx; exact c_kI10 h (i, n) hx
  · intro i n hx; exact c_kL10 h (i, n) hx
  · exact c_ob10 h ⟨by rw [hrm]; decide, by rw [hrm]; decide⟩
  · exact c_cp10 h
  · intro ins ct hx
    have g0 : q_Call C b_1_4 D tys n_KT 4 (.invokevirtual 51) ct_20 := q_callV n_NWk h.2.2.2.2.2 h.1 (m_20 C.2.1) ⟨h.2.1.1, h.2.1.2, h.2.2.1, h.2.2.2.1, h.2.2.2.2.1⟩ ⟨n_CB (y := y_1_29) (bytes := b_1_29) 1 h.2.2.2.2.1 n_w305 n_w302 n_w1 ⟨by decide, by decide, by decide +kernel⟩ rfl rfl ⟨by rw [hrm]; decide, by rw [hrm]; decide⟩, h.2.2.2.2.1 _ n_w304, h.2.2.2.2.1 _ n_s0⟩ (Cn := RX10) ⟨40, 10, _, _, _, _, TX10, 8, rfl, rfl, rfl⟩ rfl
    have g1 : q_Call C b_1_4 D tys n_KT 4 (.invokevirtual 55) ct_14 := q_callV n_NWk h.2.2.2.2.2 h.1 (m_14 C.2.1) ⟨h.2.1.1, h.2.1.2, h.2.2.1, h.2.2.2.1, h.2.2.2.2.1⟩ ⟨n_CB (y := y_1_27) (bytes := b_1_27) 1 h.2.2.2.2.1 n_w309 n_w306 n_w1 ⟨by decide, by decide, by decide +kernel⟩ rfl rfl ⟨by rw [hrm]; decide, by rw [hrm]; decide⟩, h.2.2.2.2.1 _ n_w308, h.2.2.2.2.1 _ n_s1⟩ (Cn := RX10) ⟨40, 10, _, _, _, _, TX10, 8, rfl, rfl, rfl⟩ rfl
    have all : ∀ x ∈ [((.invokevirtual 51 : Instr), ct_20), ((.invokevirtual 55 : Instr), ct_14)], q_Call C b_1_4 D tys n_KT 4 x.1 x.2 := (n_mem2 (g0) (n_mem2 (g1) n_mem0))
    exact all (ins, ct) hx
def ct_208 : qCt := ((2, [[(0, 2147483648), (1, 1)], [(0, (-2)), (1, (-1))]], [(5, 0, [(1, 1)]), (5, 0, [(0, (-1))]), (5, 0, [(0, (-1))])], []), (2, [], [(0, 0, [])], [], []), [], [], 0, 0)
def rm_208 : Room := { frames := 1, cells := 0, slots := 0, locals := 26 }
def e_208 : qEn := (k_13_3, (t_fg12, t_fp12, t_cn12), (t_na12, t_at12), (t_kI12, t_kL12, t_ob12, t_cp12), [], (q_k (-1), [], []))
def ts_208 : List (qTm × qCert × List qHx) := [((0, (2, [[(0, 2147483648), (1, 1)], [(0, (-2)), (1, (-1))]], [(0, (5, 0, [(1, 1)])), (2, (5, 0, [(0, (-1))])), (4, (5, 0, [(0, (-1))]))], [], [], 0, 0), []), (1, []), [(0, 0, [], [], []), (0, 0, [], [], []), (0, 3, [(1, [(1, 1)])], [], []), (0, 0, [], [], []), (0, 0, [], [], []), (5, 0, [(1, []), (1, [])], [], []), (2, 0, [(1, [(2, 1)])], [], [])])]
set_option maxRecDepth 100000 in
theorem m_208 (l : Launch) : q_Met l vwCl n_TL n_NW n_KT y_13_3 (Cond.code y_13_3 b_13_3 6 (some .boolean) :: n_GW) rm_208 ct_208 := by
  refine q_method (E := e_208) ts_208 (by decide) rfl rfl rfl ?_ (by decide +kernel)
  intro C D tys htl hl hrm hm hml ho hts hnm hE
  have h : n_ctx C b_13_3 6 "BalanceCoderModel" D tys := ⟨htl, hm, hml, ho, fun w hw => hts w (List.mem_cons_of_mem _ hw), hE⟩
  refine ⟨⟨?_, ?_⟩, ⟨?_, ?_, ?_, ?_, ?_⟩, ⟨?_, ?_, ?_⟩, ⟨?_, ?_, ?_, ?_⟩, ?_⟩
  · intro i ins len hx; exact kd_13_3 (i, ins, len) hx
  · exact n_at hE.1
  · intro i ci f hx; exact c_fg12 h (i, ci, f) hx
  · intro i ci f hx; exact c_fp12 h (i, ci, f) hx
  · exact n_hap h
  · intro i ci n hx; exact c_cn12 h (i, ci, n) hx
  · exact n_hag htl
  · exact c_n112 h
  · exact c_n212 h
  · intro t ci hx; exact c_at12 h (t, ci) hx
  · intro i n hx; exact c_kI12 h (i, n) hx
  · intro i n hx; exact c_kL12 h (i, n) hx
  · exact c_ob12 h ⟨by rw [hrm]; decide, by rw [hrm]; decide⟩
  · exact c_cp12 h
  · intro ins ct hx; cases hx
def ct_209 : qCt := ((6, [[(0, 2147483648), (2, 1)], [(0, (-2)), (2, (-1))]], [(2, 44, [(1, 1)]), (0, 0, []), (0, 0, [(2, 1)])], [([(1, 1)], 44, 0, (2, 42, [(3, 1)])), ([(3, 1)], 42, 1, (2, 8, [(4, 1)])), ([(3, 1)], 42, 0, (2, 7, [(5, 1)])), ([(5, 1)], 7, 0, (0, 0, [])), ([(5, 1)], 7, 1, (0, 0, [])), ([(5, 1)], 7, 2, (0, 0, [])), ([(5, 1)], 7, 3, (0, 0, [])), ([(5, 1)], 7, 4, (0, 0, [])), ([(5, 1)], 7, 5, (0, 0, [])), ([(1, 1)], 44, 3, (0, 0, []))]), (6, [], [(0, 0, [(0, (-1))])], [([(1, 1)], 44, 3, (0, 0, [(0, 1)])), ([(1, 1)], 44, 0, (2, 42, [(3, 1)])), ([(3, 1)], 42, 1, (2, 8, [(4, 1)])), ([(3, 1)], 42, 0, (2, 7, [(5, 1)])), ([(5, 1)], 7, 0, (0, 0, [])), ([(5, 1)], 7, 1, (0, 0, [])), ([(5, 1)], 7, 2, (0, 0, [])), ([(5, 1)], 7, 3, (0, 0, [])), ([(5, 1)], 7, 4, (0, 0, [])), ([(5, 1)], 7, 5, (0, 0, []))], []), [], [(44, 3)], 0, 0)
def rm_209 : Room := { frames := 3, cells := 0, slots := 0, locals := 71 }
def e_209 : qEn := (k_13_8, (t_fg12, t_fp12, t_cn12), (t_na12, t_at12), (t_kI12, t_kL12, t_ob12, t_cp12), [(.invokestatic 76, ct_23), (.invokestatic 69, ct_208), (.invokevirtual 82, ct_18)], (q_k (-1), [], []))
def ts_209 : List (qTm × qCert × List qHx) := [((0, (6, [[(0, 2147483648), (2, 1)], [(0, (-2)), (2, (-1))]], [(0, (2, 44, [(1, 1)])), (1, (0, 0, [])), (2, (0, 0, [(2, 1)]))], [], [([(1, 1)], 44, 0, (2, 42, [(3, 1)])), ([(3, 1)], 42, 1, (2, 8, [(4, 1)])), ([(3, 1)], 42, 0, (2, 7, [(5, 1)])), ([(5, 1)], 7, 0, (0, 0, [])), ([(5, 1)], 7, 1, (0, 0, [])), ([(5, 1)], 7, 2, (0, 0, [])), ([(5, 1)], 7, 3, (0, 0, [])), ([(5, 1)], 7, 4, (0, 0, [])), ([(5, 1)], 7, 5, (0, 0, [])), ([(1, 1)], 44, 3, (0, 0, []))], 0, 0), []), (1, []), [(0, 0, [], [], []), (0, 0, [], [], [0]), (0, 1, [(1, [])], [], []), (2, 0, [(1, [(3, 1)])], [], []), (0, 0, [], [], []), (0, 0, [], [], []), (0, 0, [], [], []), (0, 0, [], [], []), (0, 1, [], [], [0]), (0, 1, [], [], [2]), (0, 0, [], [], []), (0, 1, [], [], [3]), (0, 0, [], [], []), (0, 1, [(1, []), (1, [])], [], []), (0, 0, [], [], []), (0, 0, [(1, [(0, 1)]), (1, [(1, 1)])], [[(2, 1)]], [1]), (0, 1, [(1, [])], [], []), (2, 0, [(1, [(3, 1)])], [], []), (0, 0, [], [], []), (0, 0, [], [], []), (0, 0, [], [[(1, 1)]], [2]), (5, 0, [], [], [])])]
set_option maxRecDepth 100000 in
theorem m_209 (l : Launch) : q_Met l vwCl n_TL n_NW n_KT y_13_8 (Cond.code y_13_8 b_13_8 3 (some .int) :: n_GW) rm_209 ct_209 := by
  refine q_method (E := e_209) ts_209 (by decide) rfl rfl rfl ?_ (by decide +kernel)
  intro C D tys htl hl hrm hm hml ho hts hnm hE
  have h : n_ctx C b_13_8 3 "BalanceCoderModel" D tys := ⟨htl, hm, hml, ho, fun w hw => hts w (List.mem_cons_of_mem _ hw), hE⟩
  refine ⟨⟨?_, ?_⟩, ⟨?_, ?_, ?_, ?_, ?_⟩, ⟨?_, ?_, ?_⟩, ⟨?_, ?_, ?_, ?_⟩, ?_⟩
  · intro i ins len hx; exact kd_13_8 (i, ins, len) hx
  · exact n_at hE.1
  · intro i ci f hx; exact c_fg12 h (i, ci, f) hx
  · intro i ci f hx; exact c_fp12 h (i, ci, f) hx
  · exact n_hap h
  · intro i ci n hx; exact c_cn12 h (i, ci, n) hx
  · exact n_hag htl
  · exact c_n112 h
  · exact c_n212 h
  · intro t ci hx; exact c_at12 h (t, ci) hx
  · intro i n hx; exact c_kI12 h (i, n) hx
  · intro i n hx; exact c_kL12 h (i, n) hx
  · exact c_ob12 h ⟨by rw [hrm]; decide, by rw [hrm]; decide⟩
  · exact c_cp12 h
  · intro ins ct hx
    have g0 : q_Call C b_13_8 D tys n_KT 3 (.invokestatic 76) ct_23 := q_callS n_NWk h.2.2.2.2.2 h.1 (m_23 C.2.1) ⟨h.2.1.1, h.2.1.2, h.2.2.1, h.2.2.2.1, h.2.2.2.2.1⟩ ⟨n_CB (y := y_13_4) (bytes := b_13_4) 1 h.2.2.2.2.1 n_w919 n_w917 n_w12 ⟨by decide, by decide, by decide +kernel⟩ rfl rfl ⟨by rw [hrm]; decide, by rw [hrm]; decide⟩, h.2.2.2.2.1 _ n_w918⟩ rfl
    have g1 : q_Call C b_13_8 D tys n_KT 3 (.invokestatic 69) ct_208 := q_callS n_NWk h.2.2.2.2.2 h.1 (m_208 C.2.1) ⟨h.2.1.1, h.2.1.2, h.2.2.1, h.2.2.2.1, h.2.2.2.2.1⟩ ⟨n_CB (y := y_13_3) (bytes := b_13_3) 3 h.2.2.2.2.1 n_w923 n_w921 n_w12 ⟨by decide, by decide, by decide +kernel⟩ rfl rfl ⟨by rw [hrm]; decide, by rw [hrm]; decide⟩, h.2.2.2.2.1 _ n_w922⟩ rfl
    have g2 : q_Call C b_13_8 D tys n_KT 3 (.invokevirtual 82) ct_18 := q_callV n_NWk h.2.2.2.2.2 h.1 (m_18 C.2.1) ⟨h.2.1.1, h.2.1.2, h.2.2.1, h.2.2.2.1, h.2.2.2.2.1⟩ ⟨n_CB (y := y_13_2) (bytes := b_13_2) 1 h.2.2.2.2.1 n_w928 n_w925 n_w12 ⟨by decide, by decide, by decide +kernel⟩ rfl rfl ⟨by rw [hrm]; decide, by rw [hrm]; decide⟩, h.2.2.2.2.1 _ n_w927, h.2.2.2.2.1 _ n_s27⟩ (Cn := RX12) ⟨44, 12, _, _, _, _, TX12, 31, rfl, rfl, rfl⟩ rfl
    have all : ∀ x ∈ [((.invokestatic 76 : Instr), ct_23), ((.invokestatic 69 : Instr), ct_208), ((.invokevirtual 82 : Instr), ct_18)], q_Call C b_13_8 D tys n_KT 3 x.1 x.2 := (n_mem2 (g0) (n_mem2 (g1) (n_mem2 (g2) n_mem0)))
    exact all (ins, ct) hx
def ct_210 : qCt := ((16, [], [(2, 40, [(1, 1)]), (0, 0, []), (0, 0, [(0, (-1))])], [([(1, 1)], 40, 7, (0, 0, [])), ([(1, 1)], 40, 0, (2, 38, [(2, 1)])), ([(2, 1)], 38, 0, (2, 17, [(3, 1)])), ([(3, 1)], 17, 5, (2, 32, [(4, 1)])), ([(4, 1)], 32, 1, (0, 0, [])), ([(4, 1)], 32, 0, (2, 0, [(5, 1)])), ([(3, 1)], 17, 4, (2, 32, [(6, 1)])), ([(6, 1)], 32, 1, (0, 0, [])), ([(6, 1)], 32, 0, (2, 0, [(7, 1)])), ([(3, 1)], 17, 3, (2, 32, [(8, 1)])), ([(8, 1)], 32, 1, (0, 0, [])), ([(8, 1)], 32, 0, (2, 0, [(9, 1)])), ([(3, 1)], 17, 2, (2, 32, [(10, 1)])), ([(10, 1)], 32, 1, (0, 0, [])), ([(10, 1)], 32, 0, (2, 0, [(11, 1)])), ([(3, 1)], 17, 1, (2, 32, [(12, 1)])), ([(12, 1)], 32, 1, (0, 0, [])), ([(12, 1)], 32, 0, (2, 0, [(13, 1)])), ([(3, 1)], 17, 0, (2, 32, [(14, 1)])), ([(14, 1)], 32, 1, (0, 0, [])), ([(14, 1)], 32, 0, (2, 0, [(15, 1)]))]), (16, [], [(0, 0, [])], [([(1, 1)], 40, 0, (2, 38, [(2, 1)])), ([(2, 1)], 38, 0, (2, 17, [(3, 1)])), ([(3, 1)], 17, 5, (2, 32, [(4, 1)])), ([(3, 1)], 17, 4, (2, 32, [(6, 1)])), ([(3, 1)], 17, 3, (2, 32, [(8, 1)])), ([(3, 1)], 17, 2, (2, 32, [(10, 1)])), ([(3, 1)], 17, 1, (2, 32, [(12, 1)])), ([(3, 1)], 17, 0, (2, 32, [(14, 1)])), ([(1, 1)], 40, 7, (0, 0, [])), ([(4, 1)], 32, 1, (0, 0, [])), ([(4, 1)], 32, 0, (2, 0, [(5, 1)])), ([(6, 1)], 32, 1, (0, 0, [])), ([(6, 1)], 32, 0, (2, 0, [(7, 1)])), ([(8, 1)], 32, 1, (0, 0, [])), ([(8, 1)], 32, 0, (2, 0, [(9, 1)])), ([(10, 1)], 32, 1, (0, 0, [])), ([(10, 1)], 32, 0, (2, 0, [(11, 1)])), ([(12, 1)], 32, 1, (0, 0, [])), ([(12, 1)], 32, 0, (2, 0, [(13, 1)])), ([(14, 1)], 32, 1, (0, 0, [])), ([(14, 1)], 32, 0, (2, 0, [(15, 1)]))], []), [], [], 0, 0)
def rm_210 : Room := { frames := 2, cells := 0, slots := 0, locals := 47 }
def e_210 : qEn := (k_1_4, (t_fg10, t_fp10, t_cn10), (t_na10, t_at10), (t_kI10, t_kL10, t_ob10, t_cp10), [(.invokevirtual 51, ct_20)], (q_k (-1), [], []))
def ts_210 : List (qTm × qCert × List qHx) := [((0, (16, [], [(0, (2, 40, [(1, 1)])), (1, (0, 0, [])), (2, (0, 0, [(0, (-1))]))], [], [([(1, 1)], 40, 7, (0, 0, [])), ([(1, 1)], 40, 0, (2, 38, [(2, 1)])), ([(2, 1)], 38, 0, (2, 17, [(3, 1)])), ([(3, 1)], 17, 5, (2, 32, [(4, 1)])), ([(4, 1)], 32, 1, (0, 0, [])), ([(4, 1)], 32, 0, (2, 0, [(5, 1)])), ([(3, 1)], 17, 4, (2, 32, [(6, 1)])), ([(6, 1)], 32, 1, (0, 0, [])), ([(6, 1)], 32, 0, (2, 0, [(7, 1)])), ([(3, 1)], 17, 3, (2, 32, [(8, 1)])), ([(8, 1)], 32, 1, (0, 0, [])), ([(8, 1)], 32, 0, (2, 0, [(9, 1)])), ([(3, 1)], 17, 2, (2, 32, [(10, 1)])), ([(10, 1)], 32, 1, (0, 0, [])), ([(10, 1)], 32, 0, (2, 0, [(11, 1)])), ([(3, 1)], 17, 1, (2, 32, [(12, 1)])), ([(12, 1)], 32, 1, (0, 0, [])), ([(12, 1)], 32, 0, (2, 0, [(13, 1)])), ([(3, 1)], 17, 0, (2, 32, [(14, 1)])), ([(14, 1)], 32, 1, (0, 0, [])), ([(14, 1)], 32, 0, (2, 0, [(15, 1)]))], 0, 0), []), (1, []), [(0, 0, [], [], []), (0, 0, [], [], []), (0, 0, [], [[(1, 1)], [(2, 1)], [(3, 1)], [(4, 1)], [(6, 1)], [(8, 1)], [(10, 1)], [(12, 1)], [(14, 1)]], [0]), (0, 0, [], [], []), (0, 0, [], [], []), (0, 0, [], [], []), (0, 0, [], [], []), (0, 0, [], [], []), (0, 0, [], [], []), (2, 0, [(1, [(0, 1)])], [], []), (0, 0, [], [], []), (0, 0, [], [], []), (0, 1, [], [], [27]), (0, 0, [], [], []), (0, 0, [], [], []), (0, 0, [], [], []), (0, 1, [(1, [])], [], []), (2, 0, [(1, [(2, 1)])], [], []), (0, 0, [], [], []), (0, 1, [], [], [27]), (0, 0, [], [], []), (5, 0, [], [], []), (2, 0, [(1, [(1, 1)])], [], [])])]
set_option maxRecDepth 100000 in
theorem m_210 (l : Launch) : q_Met l vwCl n_TL n_NW n_KT y_1_4 (Cond.code y_1_4 b_1_4 4 (some .int) :: n_GW) rm_210 ct_210 := by
  refine q_method (E := e_210) ts_210 (by decide) rfl rfl rfl ?_ (by decide +kernel)
  intro C D tys htl hl hrm hm hml ho hts hnm hE
  have h : n_ctx C b_1_4 4 "BalanceCoder" D tys := ⟨htl, hm, hml, ho, fun w hw => hts w (List.mem_cons_of_mem _ hw), hE⟩
  refine ⟨⟨?_, ?_⟩, ⟨?_, ?_, ?_, ?_, ?_⟩, ⟨?_, ?_, ?_⟩, ⟨?_, ?_, ?_, ?_⟩, ?_⟩
  · intro i ins len hx; exact kd_1_4 (i, ins, len) hx
  · exact n_at hE.1
  · intro i ci f hx; exact c_fg10 h (i, ci, f) hx
  · intro i ci f hx; exact c_fp10 h (i, ci, f) hx
  · exact n_hap h
  · intro i ci n hx; exact c_cn10 h (i, ci, n) hx
  · exact n_hag htl
  · exact c_n110 h
  · exact c_n210 h
  · intro t ci hx; exact c_at10 h (t, ci) hx
  · intro i n hx; exact c_kI10 h (i, n) hx
  · intro i n hx; exact c_kL10 h (i, n) hx
  · exact c_ob10 h ⟨by rw [hrm]; decide, by rw [hrm]; decide⟩
  · exact c_cp10 h
  · intro ins ct hx
    have g0 : q_Call C b_1_4 D tys n_KT 4 (.invokevirtual 51) ct_20 := q_callV n_NWk h.2.2.2.2.2 h.1 (m_20 C.2.1) ⟨h.2.1.1, h.2.1.2, h.2.2.1, h.2.2.2.1, h.2.2.2.2.1⟩ ⟨n_CB (y := y_1_29) (bytes := b_1_29) 1 h.2.2.2.2.1 n_w305 n_w302 n_w1 ⟨by decide, by decide, by decide +kernel⟩ rfl rfl ⟨by rw [hrm]; decide, by rw [hrm]; decide⟩, h.2.2.2.2.1 _ n_w304, h.2.2.2.2.1 _ n_s0⟩ (Cn := RX10) ⟨40, 10, _, _, _, _, TX10, 8, rfl, rfl, rfl⟩ rfl
    have all : ∀ x ∈ [((.invokevirtual 51 : Instr), ct_20)], q_Call C b_1_4 D tys n_KT 4 x.1 x.2 := (n_mem2 (g0) n_mem0)
    exact all (ins, ct) hx
def ct_211 : qCt := ((1, [], [(5, 0, [(0, (-1))]), (5, 0, [(0, (-1))]), (5, 0, [(0, (-1))])], []), (1, [], [(0, 0, [(0, 1)])], [], []), [], [], 0, 0)
def rm_211 : Room := { frames := 1, cells := 0, slots := 0, locals := 26 }
def e_211 : qEn := (k_13_3, (t_fg12, t_fp12, t_cn12), (t_na12, t_at12), (t_kI12, t_kL12, t_ob12, t_cp12), [], (q_k (-1), [], []))
def ts_211 : List (qTm × qCert × List qHx) := [((0, (1, [], [(0, (5, 0, [(0, (-1))])), (2, (5, 0, [(0, (-1))])), (4, (5, 0, [(0, (-1))]))], [], [], 0, 0), []), (1, []), [(0, 0, [], [], []), (0, 0, [], [], []), (0, 2, [(1, []), (1, [])], [], []), (0, 0, [], [], []), (2, 0, [(1, [(0, 1)])], [], []), (0, 0, [], [], []), (0, 0, [], [], []), (0, 2, [(1, []), (1, [])], [], []), (0, 0, [], [], []), (2, 0, [(1, [(1, 1)])], [], []), (0, 0, [], [], []), (0, 0, [], [], []), (5, 0, [(1, []), (1, [])], [], [])])]
set_option maxRecDepth 100000 in
theorem m_211 (l : Launch) : q_Met l vwCl n_TL n_NW n_KT y_13_3 (Cond.code y_13_3 b_13_3 6 (some .boolean) :: n_GW) rm_211 ct_211 := by
  refine q_method (E := e_211) ts_211 (by decide) rfl rfl rfl ?_ (by decide +kernel)
  intro C D tys htl hl hrm hm hml ho hts hnm hE
  have h : n_ctx C b_13_3 6 "BalanceCoderModel" D tys := ⟨htl, hm, hml, ho, fun w hw => hts w (List.mem_cons_of_mem _ hw), hE⟩
  refine ⟨⟨?_, ?_⟩, ⟨?_, ?_, ?_, ?_, ?_⟩, ⟨?_, ?_, ?_⟩, ⟨?_, ?_, ?_, ?_⟩, ?_⟩
  · intro i ins len hx; exact kd_13_3 (i, ins, len) hx
  · exact n_at hE.1
  · intro i ci f hx; exact c_fg12 h (i, ci, f) hx
  · intro i ci f hx; exact c_fp12 h (i, ci, f) hx
  · exact n_hap h
  · intro i ci n hx; exact c_cn12 h (i, ci, n) hx
  · exact n_hag htl
  · exact c_n112 h
  · exact c_n212 h
  · intro t ci hx; exact c_at12 h (t, ci) hx
  · intro i n hx; exact c_kI12 h (i, n) hx
  · intro i n hx; exact c_kL12 h (i, n) hx
  · exact c_ob12 h ⟨by rw [hrm]; decide, by rw [hrm]; decide⟩
  · exact c_cp12 h
  · intro ins ct hx; cases hx
def ct_212 : qCt := ((5, [], [(2, 44, [(1, 1)]), (0, 0, []), (0, 0, [(0, (-1))])], [([(1, 1)], 44, 0, (2, 42, [(2, 1)])), ([(2, 1)], 42, 1, (2, 8, [(3, 1)])), ([(2, 1)], 42, 0, (2, 7, [(4, 1)])), ([(4, 1)], 7, 0, (0, 0, [])), ([(4, 1)], 7, 1, (0, 0, [])), ([(4, 1)], 7, 2, (0, 0, [])), ([(4, 1)], 7, 3, (0, 0, [])), ([(4, 1)], 7, 4, (0, 0, [])), ([(4, 1)], 7, 5, (0, 0, [])), ([(1, 1)], 44, 3, (0, 0, []))]), (5, [], [(0, 0, [])], [([(1, 1)], 44, 0, (2, 42, [(2, 1)])), ([(2, 1)], 42, 1, (2, 8, [(3, 1)])), ([(2, 1)], 42, 0, (2, 7, [(4, 1)])), ([(4, 1)], 7, 0, (0, 0, [])), ([(4, 1)], 7, 1, (0, 0, [])), ([(4, 1)], 7, 2, (0, 0, [])), ([(4, 1)], 7, 3, (0, 0, [])), ([(4, 1)], 7, 4, (0, 0, [])), ([(4, 1)], 7, 5, (0, 0, [])), ([(1, 1)], 44, 3, (0, 0, []))], []), [], [], 0, 0)
def rm_212 : Room := { frames := 3, cells := 0, slots := 0, locals := 71 }
def e_212 : qEn := (k_13_8, (t_fg12, t_fp12, t_cn12), (t_na12, t_at12), (t_kI12, t_kL12, t_ob12, t_cp12), [(.invokestatic 76, ct_23), (.invokestatic 69, ct_211)], (q_k (-1), [], []))
def ts_212 : List (qTm × qCert × List qHx) := [((0, (5, [], [(0, (2, 44, [(1, 1)])), (1, (0, 0, [])), (2, (0, 0, [(0, (-1))]))], [], [([(1, 1)], 44, 0, (2, 42, [(2, 1)])), ([(2, 1)], 42, 1, (2, 8, [(3, 1)])), ([(2, 1)], 42, 0, (2, 7, [(4, 1)])), ([(4, 1)], 7, 0, (0, 0, [])), ([(4, 1)], 7, 1, (0, 0, [])), ([(4, 1)], 7, 2, (0, 0, [])), ([(4, 1)], 7, 3, (0, 0, [])), ([(4, 1)], 7, 4, (0, 0, [])), ([(4, 1)], 7, 5, (0, 0, [])), ([(1, 1)], 44, 3, (0, 0, []))], 0, 0), []), (1, []), [(0, 0, [], [], []), (0, 0, [], [], [0]), (0, 1, [(1, [])], [], []), (2, 0, [(1, [(1, 1)])], [], []), (0, 0, [], [], []), (0, 0, [], [], []), (0, 0, [], [], []), (0, 0, [], [], []), (0, 1, [], [], [0]), (0, 1, [], [], [2]), (0, 0, [], [], []), (0, 1, [], [], [3]), (0, 0, [], [], []), (0, 1, [(1, []), (1, [])], [], []), (0, 0, [], [], []), (0, 0, [], [], [1]), (0, 1, [(1, [])], [], []), (0, 0, [], [], []), (0, 0, [], [], []), (2, 0, [(1, [(2, 1)])], [], []), (0, 0, [], [], []), (0, 1, [], [], [0]), (0, 1, [], [], [2]), (0, 0, [], [], []), (0, 1, [], [], [3]), (0, 0, [], [], []), (5, 0, [], [], []), (2, 0, [(1, [(2, 1)])], [], [])])]
set_option maxRecDepth 100000 in
theorem m_212 (l : Launch) : q_Met l vwCl n_TL n_NW n_KT y_13_8 (Cond.code y_13_8 b_13_8 3 (some .int) :: n_GW) rm_212 ct_212 := by
  refine q_method (E := e_212) ts_212 (by decide) rfl rfl rfl ?_ (by decide +kernel)
  intro C D tys htl hl hrm hm hml ho hts hnm hE
  have h : n_ctx C b_13_8 3 "BalanceCoderModel" D tys := ⟨htl, hm, hml, ho, fun w hw => hts w (List.mem_cons_of_mem _ hw), hE⟩
  refine ⟨⟨?_, ?_⟩, ⟨?_, ?_, ?_, ?_, ?_⟩, ⟨?_, ?_, ?_⟩, ⟨?_, ?_, ?_, ?_⟩, ?_⟩
  · intro i ins len hx; exact kd_13_8 (i, ins, len) hx
  · exact n_at hE.1
  · intro i ci f hx; exact c_fg12 h (i, ci, f) hx
  · intro i ci f hx; exact c_fp12 h (i, ci, f) hx
  · exact n_hap h
  · intro i ci n hx; exact c_cn12 h (i, ci, n) hx
  · exact n_hag htl
  · exact c_n112 h
  · exact c_n212 h
  · intro t ci hx; exact c_at12 h (t, ci) hx
  · intro i n hx; exact c_kI12 h (i, n) hx
  · intro i n hx; exact c_kL12 h (i, n) hx
  · exact c_ob12 h ⟨by rw [hrm]; decide, by rw [hrm]; decide⟩
  · exact c_cp12 h
  · intro ins ct hx
    have g0 : q_Call C b_13_8 D tys n_KT 3 (.invokestatic 76) ct_23 := q_callS n_NWk h.2.2.2.2.2 h.1 (m_23 C.2.1) ⟨h.2.1.1, h.2.1.2, h.2.2.1, h.2.2.2.1, h.2.2.2.2.1⟩ ⟨n_CB (y := y_13_4) (bytes := b_13_4) 1 h.2.2.2.2.1 n_w919 n_w917 n_w12 ⟨by decide, by decide, by decide +kernel⟩ rfl rfl ⟨by rw [hrm]; decide, by rw [hrm]; decide⟩, h.2.2.2.2.1 _ n_w918⟩ rfl
    have g1 : q_Call C b_13_8 D tys n_KT 3 (.invokestatic 69) ct_211 := q_callS n_NWk h.2.2.2.2.2 h.1 (m_211 C.2.1) ⟨h.2.1.1, h.2.1.2, h.2.2.1, h.2.2.2.1, h.2.2.2.2.1⟩ ⟨n_CB (y := y_13_3) (bytes := b_13_3) 3 h.2.2.2.2.1 n_w923 n_w921 n_w12 ⟨by decide, by decide, by decide +kernel⟩ rfl rfl ⟨by rw [hrm]; decide, by rw [hrm]; decide⟩, h.2.2.2.2.1 _ n_w922⟩ rfl
    have all : ∀ x ∈ [((.invokestatic 76 : Instr), ct_23), ((.invokestatic 69 : Instr), ct_211)], q_Call C b_13_8 D tys n_KT 3 x.1 x.2 := (n_mem2 (g0) (n_mem2 (g1) n_mem0))
    exact all (ins, ct) hx
def ct_213 : qCt := ((17, [[(2, 1)], [(0, 2147483647), (2, (-1))]], [(2, 40, [(1, 1)]), (0, 0, []), (0, 0, [(2, 1)])], [([(1, 1)], 40, 7, (0, 0, [])), ([(1, 1)], 40, 0, (2, 38, [(3, 1)])), ([(3, 1)], 38, 0, (2, 17, [(4, 1)])), ([(4, 1)], 17, 5, (2, 32, [(5, 1)])), ([(5, 1)], 32, 1, (0, 0, [])), ([(5, 1)], 32, 0, (2, 0, [(6, 1)])), ([(4, 1)], 17, 4, (2, 32, [(7, 1)])), ([(7, 1)], 32, 1, (0, 0, [])), ([(7, 1)], 32, 0, (2, 0, [(8, 1)])), ([(4, 1)], 17, 3, (2, 32, [(9, 1)])), ([(9, 1)], 32, 1, (0, 0, [])), ([(9, 1)], 32, 0, (2, 0, [(10, 1)])), ([(4, 1)], 17, 2, (2, 32, [(11, 1)])), ([(11, 1)], 32, 1, (0, 0, [])), ([(11, 1)], 32, 0, (2, 0, [(12, 1)])), ([(4, 1)], 17, 1, (2, 32, [(13, 1)])), ([(13, 1)], 32, 1, (0, 0, [])), ([(13, 1)], 32, 0, (2, 0, [(14, 1)])), ([(4, 1)], 17, 0, (2, 32, [(15, 1)])), ([(15, 1)], 32, 1, (0, 0, [])), ([(15, 1)], 32, 0, (2, 0, [(16, 1)]))]), (17, [], [(0, 0, [(0, (-1))])], [([(1, 1)], 40, 7, (0, 0, [(0, 1)])), ([(1, 1)], 40, 0, (2, 38, [(3, 1)])), ([(3, 1)], 38, 0, (2, 17, [(4, 1)])), ([(4, 1)], 17, 5, (2, 32, [(5, 1)])), ([(4, 1)], 17, 4, (2, 32, [(7, 1)])), ([(4, 1)], 17, 3, (2, 32, [(9, 1)])), ([(4, 1)], 17, 2, (2, 32, [(11, 1)])), ([(4, 1)], 17, 1, (2, 32, [(13, 1)])), ([(4, 1)], 17, 0, (2, 32, [(15, 1)])), ([(5, 1)], 32, 1, (0, 0, [])), ([(5, 1)], 32, 0, (2, 0, [(6, 1)])), ([(7, 1)], 32, 1, (0, 0, [])), ([(7, 1)], 32, 0, (2, 0, [(8, 1)])), ([(9, 1)], 32, 1, (0, 0, [])), ([(9, 1)], 32, 0, (2, 0, [(10, 1)])), ([(11, 1)], 32, 1, (0, 0, [])), ([(11, 1)], 32, 0, (2, 0, [(12, 1)])), ([(13, 1)], 32, 1, (0, 0, [])), ([(13, 1)], 32, 0, (2, 0, [(14, 1)])), ([(15, 1)], 32, 1, (0, 0, [])), ([(15, 1)], 32, 0, (2, 0, [(16, 1)]))], []), [], [(40, 7)], 0, 0)
def rm_213 : Room := { frames := 2, cells := 0, slots := 0, locals := 47 }
def e_213 : qEn := (k_1_4, (t_fg10, t_fp10, t_cn10), (t_na10, t_at10), (t_kI10, t_kL10, t_ob10, t_cp10), [(.invokevirtual 51, ct_20), (.invokevirtual 55, ct_14)], (q_k (-1), [], []))
def ts_213 : List (qTm × qCert × List qHx) := [((0, (17, [[(2, 1)], [(0, 2147483647), (2, (-1))]], [(0, (2, 40, [(1, 1)])), (1, (0, 0, [])), (2, (0, 0, [(2, 1)]))], [], [([(1, 1)], 40, 7, (0, 0, [])), ([(1, 1)], 40, 0, (2, 38, [(3, 1)])), ([(3, 1)], 38, 0, (2, 17, [(4, 1)])), ([(4, 1)], 17, 5, (2, 32, [(5, 1)])), ([(5, 1)], 32, 1, (0, 0, [])), ([(5, 1)], 32, 0, (2, 0, [(6, 1)])), ([(4, 1)], 17, 4, (2, 32, [(7, 1)])), ([(7, 1)], 32, 1, (0, 0, [])), ([(7, 1)], 32, 0, (2, 0, [(8, 1)])), ([(4, 1)], 17, 3, (2, 32, [(9, 1)])), ([(9, 1)], 32, 1, (0, 0, [])), ([(9, 1)], 32, 0, (2, 0, [(10, 1)])), ([(4, 1)], 17, 2, (2, 32, [(11, 1)])), ([(11, 1)], 32, 1, (0, 0, [])), ([(11, 1)], 32, 0, (2, 0, [(12, 1)])), ([(4, 1)], 17, 1, (2, 32, [(13, 1)])), ([(13, 1)], 32, 1, (0, 0, [])), ([(13, 1)], 32, 0, (2, 0, [(14, 1)])), ([(4, 1)], 17, 0, (2, 32, [(15, 1)])), ([(15, 1)], 32, 1, (0, 0, [])), ([(15, 1)], 32, 0, (2, 0, [(16, 1)]))], 0, 0), []), (1, []), [(0, 0, [], [], []), (0, 0, [], [], []), (0, 0, [], [[(1, 1)], [(3, 1)], [(4, 1)], [(5, 1)], [(7, 1)], [(9, 1)], [(11, 1)], [(13, 1)], [(15, 1)]], [0]), (0, 0, [], [], []), (0, 0, [], [], []), (0, 0, [], [], []), (0, 0, [], [], []), (0, 0, [], [], []), (0, 0, [], [], []), (2, 0, [(1, [(0, 1), (2, 1)])], [], []), (0, 0, [], [], []), (0, 0, [], [], []), (0, 1, [], [], [27]), (0, 0, [], [], []), (2, 0, [(1, [(0, 1), (3, 1)])], [], []), (0, 0, [], [], []), (0, 0, [], [], []), (0, 0, [], [[(1, 1)]], [1]), (5, 0, [], [], [])])]
set_option maxRecDepth 100000 in
theorem m_213 (l : Launch) : q_Met l vwCl n_TL n_NW n_KT y_1_4 (Cond.code y_1_4 b_1_4 4 (some .int) :: n_GW) rm_213 ct_213 := by
  refine q_method (E := e_213) ts_213 (by decide) rfl rfl rfl ?_ (by decide +kernel)
  intro C D tys htl hl hrm hm hml ho hts hnm hE
  have h : n_ctx C b_1_4 4 "BalanceCoder" D tys := ⟨htl, hm, hml, ho, fun w hw => hts w (List.mem_cons_of_mem _ hw), hE⟩
  refine ⟨⟨?_, ?_⟩, ⟨?_, ?_, ?_, ?_, ?_⟩, ⟨?_, ?_, ?_⟩, ⟨?_, ?_, ?_, ?_⟩, ?_⟩
  · intro i ins len hx; exact kd_1_4 (i, ins, len) hx
  · exact n_at hE.1
  · intro i ci f hx; exact c_fg10 h (i, ci, f) hx
  · intro i ci f hx; exact c_fp10 h (i, ci, f) hx
  · exact n_hap h
  · intro i ci n hx; exact c_cn10 h (i, ci, n) hx
  · exact n_hag htl
  · exact c_n110 h
  · exact c_n210 h
  · intro t ci hx; exact c_at10 h (t, ci) hx
  · intro i n hx; exact c_kI10 h (i, n) hx
  · intro i n hx; exact c_kL10 h (i, n) hx
  · exact c_ob10 h ⟨by rw [hrm]; decide, by rw [hrm]; decide⟩
  · exact c_cp10 h
  · intro ins ct hx
    have g0 : q_Call C b_1_4 D tys n_KT 4 (.invokevirtual 51) ct_20 := q_callV n_NWk h.2.2.2.2.2 h.1 (m_20 C.2.1) ⟨h.2.1.1, h.2.1.2, h.2.2.1, h.2.2.2.1, h.2.2.2.2.1⟩ ⟨n_CB (y := y_1_29) (bytes := b_1_29) 1 h.2.2.2.2.1 n_w305 n_w302 n_w1 ⟨by decide, by decide, by decide +kernel⟩ rfl rfl ⟨by rw [hrm]; decide, by rw [hrm]; decide⟩, h.2.2.2.2.1 _ n_w304, h.2.2.2.2.1 _ n_s0⟩ (Cn := RX10) ⟨40, 10, _, _, _, _, TX10, 8, rfl, rfl, rfl⟩ rfl
    have g1 : q_Call C b_1_4 D tys n_KT 4 (.invokevirtual 55) ct_14 := q_callV n_NWk h.2.2.2.2.2 h.1 (m_14 C.2.1) ⟨h.2.1.1, h.2.1.2, h.2.2.1, h.2.2.2.1, h.2.2.2.2.1⟩ ⟨n_CB (y := y_1_27) (bytes := b_1_27) 1 h.2.2.2.2.1 n_w309 n_w306 n_w1 ⟨by decide, by decide, by decide +kernel⟩ rfl rfl ⟨by rw [hrm]; decide, by rw [hrm]; decide⟩, h.2.2.2.2.1 _ n_w308, h.2.2.2.2.1 _ n_s1⟩ (Cn := RX10) ⟨40, 10, _, _, _, _, TX10, 8, rfl, rfl, rfl⟩ rfl
    have all : ∀ x ∈ [((.invokevirtual 51 : Instr), ct_20), ((.invokevirtual 55 : Instr), ct_14)], q_Call C b_1_4 D tys n_KT 4 x.1 x.2 := (n_mem2 (g0) (n_mem2 (g1) n_mem0))
    exact all (ins, ct) hx
def ct_214 : qCt := ((2, [[(1, 1)], [(0, 2147483647), (1, (-1))]], [(5, 0, [(1, 1)]), (5, 0, [(0, (-1))]), (5, 0, [(0, (-1))])], []), (2, [], [(0, 0, [])], [], []), [], [], 0, 0)
def rm_214 : Room := { frames := 1, cells := 0, slots := 0, locals := 26 }
def e_214 : qEn := (k_13_3, (t_fg12, t_fp12, t_cn12), (t_na12, t_at12), (t_kI12, t_kL12, t_ob12, t_cp12), [], (q_k (-1), [], []))
def ts_214 : List (qTm × qCert × List qHx) := [((0, (2, [[(1, 1)], [(0, 2147483647), (1, (-1))]], [(0, (5, 0, [(1, 1)])), (2, (5, 0, [(0, (-1))])), (4, (5, 0, [(0, (-1))]))], [], [], 0, 0), []), (1, []), [(0, 0, [], [], []), (0, 0, [], [], []), (0, 1, [(1, [(0, 1)])], [], []), (0, 0, [], [], []), (2, 0, [(1, [(2, 1)])], [], []), (0, 0, [], [], []), (0, 0, [], [], []), (0, 1, [(1, [(0, 1)])], [], []), (0, 0, [], [], []), (0, 0, [], [], []), (5, 0, [(1, []), (1, [])], [], []), (2, 0, [(1, [(3, 1)])], [], [])])]
set_option maxRecDepth 100000 in
theorem m_214 (l : Launch) : q_Met l vwCl n_TL n_NW n_KT y_13_3 (Cond.code y_13_3 b_13_3 6 (some .boolean) :: n_GW) rm_214 ct_214 := by
  refine q_method (E := e_214) ts_214 (by decide) rfl rfl rfl ?_ (by decide +kernel)
  intro C D tys htl hl hrm hm hml ho hts hnm hE
  have h : n_ctx C b_13_3 6 "BalanceCoderModel" D tys := ⟨htl, hm, hml, ho, fun w hw => hts w (List.mem_cons_of_mem _ hw), hE⟩
  refine ⟨⟨?_, ?_⟩, ⟨?_, ?_, ?_, ?_, ?_⟩, ⟨?_, ?_, ?_⟩, ⟨?_, ?_, ?_, ?_⟩, ?_⟩
  · intro i ins len hx; exact kd_13_3 (i, ins, len) hx
  · exact n_at hE.1
  · intro i ci f hx; exact c_fg12 h (i, ci, f) hx
  · intro i ci f hx; exact c_fp12 h (i, ci, f) hx
  · exact n_hap h
  · intro i ci n hx; exact c_cn12 h (i, ci, n) hx
  · exact n_hag htl
  · exact c_n112 h
  · exact c_n212 h
  · intro t ci hx; exact c_at12 h (t, ci) hx
  · intro i n hx; exact c_kI12 h (i, n) hx
  · intro i n hx; exact c_kL12 h (i, n) hx
  · exact c_ob12 h ⟨by rw [hrm]; decide, by rw [hrm]; decide⟩
  · exact c_cp12 h
  · intro ins ct hx; cases hx
def ct_215 : qCt := ((6, [[(2, 1)], [(0, 2147483647), (2, (-1))]], [(2, 44, [(1, 1)]), (0, 0, []), (0, 0, [(2, 1)])], [([(1, 1)], 44, 0, (2, 42, [(3, 1)])), ([(3, 1)], 42, 1, (2, 8, [(4, 1)])), ([(3, 1)], 42, 0, (2, 7, [(5, 1)])), ([(5, 1)], 7, 0, (0, 0, [])), ([(5, 1)], 7, 1, (0, 0, [])), ([(5, 1)], 7, 2, (0, 0, [])), ([(5, 1)], 7, 3, (0, 0, [])), ([(5, 1)], 7, 4, (0, 0, [])), ([(5, 1)], 7, 5, (0, 0, [])), ([(1, 1)], 44, 3, (0, 0, []))]), (6, [], [(0, 0, [(0, (-1))])], [([(1, 1)], 44, 3, (0, 0, [(0, 1)])), ([(1, 1)], 44, 0, (2, 42, [(3, 1)])), ([(3, 1)], 42, 1, (2, 8, [(4, 1)])), ([(3, 1)], 42, 0, (2, 7, [(5, 1)])), ([(5, 1)], 7, 0, (0, 0, [])), ([(5, 1)], 7, 1, (0, 0, [])), ([(5, 1)], 7, 2, (0, 0, [])), ([(5, 1)], 7, 3, (0, 0, [])), ([(5, 1)], 7, 4, (0, 0, [])), ([(5, 1)], 7, 5, (0, 0, []))], []), [], [(44, 3)], 0, 0)
def rm_215 : Room := { frames := 3, cells := 0, slots := 0, locals := 71 }
def e_215 : qEn := (k_13_8, (t_fg12, t_fp12, t_cn12), (t_na12, t_at12), (t_kI12, t_kL12, t_ob12, t_cp12), [(.invokestatic 76, ct_23), (.invokestatic 69, ct_214), (.invokevirtual 82, ct_18)], (q_k (-1), [], []))
def ts_215 : List (qTm × qCert × List qHx) := [((0, (6, [[(2, 1)], [(0, 2147483647), (2, (-1))]], [(0, (2, 44, [(1, 1)])), (1, (0, 0, [])), (2, (0, 0, [(2, 1)]))], [], [([(1, 1)], 44, 0, (2, 42, [(3, 1)])), ([(3, 1)], 42, 1, (2, 8, [(4, 1)])), ([(3, 1)], 42, 0, (2, 7, [(5, 1)])), ([(5, 1)], 7, 0, (0, 0, [])), ([(5, 1)], 7, 1, (0, 0, [])), ([(5, 1)], 7, 2, (0, 0, [])), ([(5, 1)], 7, 3, (0, 0, [])), ([(5, 1)], 7, 4, (0, 0, [])), ([(5, 1)], 7, 5, (0, 0, [])), ([(1, 1)], 44, 3, (0, 0, []))], 0, 0), []), (1, []), [(0, 0, [], [], []), (0, 0, [], [], [0]), (0, 1, [(1, [])], [], []), (2, 0, [(1, [(3, 1)])], [], []), (0, 0, [], [], []), (0, 0, [], [], []), (0, 0, [], [], []), (0, 0, [], [], []), (0, 1, [], [], [0]), (0, 1, [], [], [2]), (0, 0, [], [], []), (0, 1, [], [], [3]), (0, 0, [], [], []), (0, 1, [(1, []), (1, [])], [], []), (0, 0, [], [], []), (0, 0, [(1, [(0, 1)]), (1, [(1, 1)])], [[(2, 1)]], [1]), (0, 1, [(1, [])], [], []), (2, 0, [(1, [(3, 1)])], [], []), (0, 0, [], [], []), (0, 0, [], [], []), (0, 0, [], [[(1, 1)]], [2]), (5, 0, [], [], [])])]
set_option maxRecDepth 100000 in
theorem m_215 (l : Launch) : q_Met l vwCl n_TL n_NW n_KT y_13_8 (Cond.code y_13_8 b_13_8 3 (some .int) :: n_GW) rm_215 ct_215 := by
  refine q_method (E := e_215) ts_215 (by decide) rfl rfl rfl ?_ (by decide +kernel)
  intro C D tys htl hl hrm hm hml ho hts hnm hE
  have h : n_ctx C b_13_8 3 "BalanceCoderModel" D tys := ⟨htl, hm, hml, ho, fun w hw => hts w (List.mem_cons_of_mem _ hw), hE⟩
  refine ⟨⟨?_, ?_⟩, ⟨?_, ?_, ?_, ?_, ?_⟩, ⟨?_, ?_, ?_⟩, ⟨?_, ?_, ?_, ?_⟩, ?_⟩
  · intro i ins len hx; exact kd_13_8 (i, ins, len) hx
  · exact n_at hE.1
  · intro i ci f hx; exact c_fg12 h (i, ci, f) hx
  · intro i ci f hx; exact c_fp12 h (i, ci, f) hx
  · exact n_hap h
  · intro i ci n hx; exact c_cn12 h (i, ci, n) hx
  · exact n_hag htl
  · exact c_n112 h
  · exact c_n212 h
  · intro t ci hx; exact c_at12 h (t, ci) hx
  · intro i n hx; exact c_kI12 h (i, n) hx
  · intro i n hx; exact c_kL12 h (i, n) hx
  · exact c_ob12 h ⟨by rw [hrm]; decide, by rw [hrm]; decide⟩
  · exact c_cp12 h
  · intro ins ct hx
    have g0 : q_Call C b_13_8 D tys n_KT 3 (.invokestatic 76) ct_23 := q_callS n_NWk h.2.2.2.2.2 h.1 (m_23 C.2.1) ⟨h.2.1.1, h.2.1.2, h.2.2.1, h.2.2.2.1, h.2.2.2.2.1⟩ ⟨n_CB (y := y_13_4) (bytes := b_13_4) 1 h.2.2.2.2.1 n_w919 n_w917 n_w12 ⟨by decide, by decide, by decide +kernel⟩ rfl rfl ⟨by rw [hrm]; decide, by rw [hrm]; decide⟩, h.2.2.2.2.1 _ n_w918⟩ rfl
    have g1 : q_Call C b_13_8 D tys n_KT 3 (.invokestatic 69) ct_214 := q_callS n_NWk h.2.2.2.2.2 h.1 (m_214 C.2.1) ⟨h.2.1.1, h.2.1.2, h.2.2.1, h.2.2.2.1, h.2.2.2.2.1⟩ ⟨n_CB (y := y_13_3) (bytes := b_13_3) 3 h.2.2.2.2.1 n_w923 n_w921 n_w12 ⟨by decide, by decide, by decide +kernel⟩ rfl rfl ⟨by rw [hrm]; decide, by rw [hrm]; decide⟩, h.2.2.2.2.1 _ n_w922⟩ rfl
    have g2 : q_Call C b_13_8 D tys n_KT 3 (.invokevirtual 82) ct_18 := q_callV n_NWk h.2.2.2.2.2 h.1 (m_18 C.2.1) ⟨h.2.1.1, h.2.1.2, h.2.2.1, h.2.2.2.1, h.2.2.2.2.1⟩ ⟨n_CB (y := y_13_2) (bytes := b_13_2) 1 h.2.2.2.2.1 n_w928 n_w925 n_w12 ⟨by decide, by decide, by decide +kernel⟩ rfl rfl ⟨by rw [hrm]; decide, by rw [hrm]; decide⟩, h.2.2.2.2.1 _ n_w927, h.2.2.2.2.1 _ n_s27⟩ (Cn := RX12) ⟨44, 12, _, _, _, _, TX12, 31, rfl, rfl, rfl⟩ rfl
    have all : ∀ x ∈ [((.invokestatic 76 : Instr), ct_23), ((.invokestatic 69 : Instr), ct_214), ((.invokevirtual 82 : Instr), ct_18)], q_Call C b_13_8 D tys n_KT 3 x.1 x.2 := (n_mem2 (g0) (n_mem2 (g1) (n_mem2 (g2) n_mem0)))
    exact all (ins, ct) hx
def ct_216 : qCt := ((17, [[(0, 2147483648), (2, 1)], [(0, (-2)), (2, (-1))]], [(2, 40, [(1, 1)]), (0, 0, [(0, 1)]), (0, 0, [(2, 1)])], [([(1, 1)], 40, 7, (0, 0, [])), ([(1, 1)], 40, 0, (2, 38, [(3, 1)])), ([(3, 1)], 38, 0, (2, 17, [(4, 1)])), ([(4, 1)], 17, 5, (2, 32, [(5, 1)])), ([(5, 1)], 32, 1, (0, 0, [])), ([(5, 1)], 32, 0, (2, 0, [(6, 1)])), ([(4, 1)], 17, 4, (2, 32, [(7, 1)])), ([(7, 1)], 32, 1, (0, 0, [])), ([(7, 1)], 32, 0, (2, 0, [(8, 1)])), ([(4, 1)], 17, 3, (2, 32, [(9, 1)])), ([(9, 1)], 32, 1, (0, 0, [])), ([(9, 1)], 32, 0, (2, 0, [(10, 1)])), ([(4, 1)], 17, 2, (2, 32, [(11, 1)])), ([(11, 1)], 32, 1, (0, 0, [])), ([(11, 1)], 32, 0, (2, 0, [(12, 1)])), ([(4, 1)], 17, 1, (2, 32, [(13, 1)])), ([(13, 1)], 32, 1, (0, 0, [])), ([(13, 1)], 32, 0, (2, 0, [(14, 1)])), ([(4, 1)], 17, 0, (2, 32, [(15, 1)])), ([(15, 1)], 32, 1, (0, 0, [])), ([(15, 1)], 32, 0, (2, 0, [(16, 1)]))]), (17, [], [(0, 0, [(0, (-1))])], [([(1, 1)], 40, 7, (0, 0, [(0, 1)])), ([(1, 1)], 40, 0, (2, 38, [(3, 1)])), ([(3, 1)], 38, 0, (2, 17, [(4, 1)])), ([(4, 1)], 17, 5, (2, 32, [(5, 1)])), ([(4, 1)], 17, 4, (2, 32, [(7, 1)])), ([(4, 1)], 17, 3, (2, 32, [(9, 1)])), ([(4, 1)], 17, 2, (2, 32, [(11, 1)])), ([(4, 1)], 17, 1, (2, 32, [(13, 1)])), ([(4, 1)], 17, 0, (2, 32, [(15, 1)])), ([(5, 1)], 32, 1, (0, 0, [])), ([(5, 1)], 32, 0, (2, 0, [(6, 1)])), ([(7, 1)], 32, 1, (0, 0, [])), ([(7, 1)], 32, 0, (2, 0, [(8, 1)])), ([(9, 1)], 32, 1, (0, 0, [])), ([(9, 1)], 32, 0, (2, 0, [(10, 1)])), ([(11, 1)], 32, 1, (0, 0, [])), ([(11, 1)], 32, 0, (2, 0, [(12, 1)])), ([(13, 1)], 32, 1, (0, 0, [])), ([(13, 1)], 32, 0, (2, 0, [(14, 1)])), ([(15, 1)], 32, 1, (0, 0, [])), ([(15, 1)], 32, 0, (2, 0, [(16, 1)]))], []), [], [(40, 7)], 0, 0)
def rm_216 : Room := { frames := 2, cells := 0, slots := 0, locals := 47 }
def e_216 : qEn := (k_1_4, (t_fg10, t_fp10, t_cn10), (t_na10, t_at10), (t_kI10, t_kL10, t_ob10, t_cp10), [(.invokevirtual 51, ct_69), (.invokevirtual 55, ct_14)], (q_k (-1), [], []))
def ts_216 : List (qTm × qCert × List qHx) := [((0, (17, [[(0, 2147483648), (2, 1)], [(0, (-2)), (2, (-1))]], [(0, (2, 40, [(1, 1)])), (1, (0, 0, [(0, 1)])), (2, (0, 0, [(2, 1)]))], [], [([(1, 1)], 40, 7, (0, 0, [])), ([(1, 1)], 40, 0, (2, 38, [(3, 1)])), ([(3, 1)], 38, 0, (2, 17, [(4, 1)])), ([(4, 1)], 17, 5, (2, 32, [(5, 1)])), ([(5, 1)], 32, 1, (0, 0, [])), ([(5, 1)], 32, 0, (2, 0, [(6, 1)])), ([(4, 1)], 17, 4, (2, 32, [(7, 1)])), ([(7, 1)], 32, 1, (0, 0, [])), ([(7, 1)], 32, 0, (2, 0, [(8, 1)])), ([(4, 1)], 17, 3, (2, 32, [(9, 1)])), ([(9, 1)], 32, 1, (0, 0, [])), ([(9, 1)], 32, 0, (2, 0, [(10, 1)])), ([(4, 1)], 17, 2, (2, 32, [(11, 1)])), ([(11, 1)], 32, 1, (0, 0, [])), ([(11, 1)], 32, 0, (2, 0, [(12, 1)])), ([(4, 1)], 17, 1, (2, 32, [(13, 1)])), ([(13, 1)], 32, 1, (0, 0, [])), ([(13, 1)], 32, 0, (2, 0, [(14, 1)])), ([(4, 1)], 17, 0, (2, 32, [(15, 1)])), ([(15, 1)], 32, 1, (0, 0, [])), ([(15, 1)], 32, 0, (2, 0, [(16, 1)]))], 0, 0), []), (1, []), [(0, 0, [], [], []), (0, 0, [], [], []), (0, 0, [], [[(1, 1)], [(3, 1)], [(4, 1)], [(5, 1)], [(7, 1)], [(9, 1)], [(11, 1)], [(13, 1)], [(15, 1)]], [0]), (0, 0, [], [], []), (0, 0, [], [], []), (0, 0, [], [], []), (0, 0, [], [], []), (0, 0, [], [], []), (0, 0, [], [], []), (0, 0, [], [], []), (0, 0, [], [], []), (0, 0, [], [[(1, 1)]], [1]), (5, 0, [], [], []), (2, 0, [(1, [(1, 1), (2, 1)])], [], [])])]
set_option maxRecDepth 100000 in
theorem m_216 (l : Launch) : q_Met l vwCl n_TL n_NW n_KT y_1_4 (Cond.code y_1_4 b_1_4 4 (some .int) :: n_GW) rm_216 ct_216 := by
  refine q_method (E := e_216) ts_216 (by decide) rfl rfl rfl ?_ (by decide +kernel)
  intro C D tys htl hl hrm hm hml ho hts hnm hE
  have h : n_ctx C b_1_4 4 "BalanceCoder" D tys := ⟨htl, hm, hml, ho, fun w hw => hts w (List.mem_cons_of_mem _ hw), hE⟩
  refine ⟨⟨?_, ?_⟩, ⟨?_, ?_, ?_, ?_, ?_⟩, ⟨?_, ?_, ?_⟩, ⟨?_, ?_, ?_, ?_⟩, ?_⟩
  · intro i ins len hx; exact kd_1_4 (i, ins, len) hx
  · exact n_at hE.1
  · intro i ci f hx; exact c_fg10 h (i, ci, f) hx
  · intro i ci f hx; exact c_fp10 h (i, ci, f) hx
  · exact n_hap h
  · intro i ci n hx; exact c_cn10 h (i, ci, n) hx
  · exact n_hag htl
  · exact c_n110 h
  · exact c_n210 h
  · intro t ci hx; exact c_at10 h (t, ci) hx
  · intro i n hx; exact c_kI10 h (i, n) hx
  · intro i n hx; exact c_kL10 h (i, n) hx
  · exact c_ob10 h ⟨by rw [hrm]; decide, by rw [hrm]; decide⟩
  · exact c_cp10 h
  · intro ins ct hx
    have g0 : q_Call C b_1_4 D tys n_KT 4 (.invokevirtual 51) ct_69 := q_callV n_NWk h.2.2.2.2.2 h.1 (m_69 C.2.1) ⟨h.2.1.1, h.2.1.2, h.2.2.1, h.2.2.2.1, h.2.2.2.2.1⟩ ⟨n_CB (y := y_1_29) (bytes := b_1_29) 1 h.2.2.2.2.1 n_w305 n_w302 n_w1 ⟨by decide, by decide, by decide +kernel⟩ rfl rfl ⟨by rw [hrm]; decide, by rw [hrm]; decide⟩, h.2.2.2.2.1 _ n_w304, h.2.2.2.2.1 _ n_s0⟩ (Cn := RX10) ⟨40, 10, _, _, _, _, TX10, 8, rfl, rfl, rfl⟩ rfl
    have g1 : q_Call C b_1_4 D tys n_KT 4 (.invokevirtual 55) ct_14 := q_callV n_NWk h.2.2.2.2.2 h.1 (m_14 C.2.1) ⟨h.2.1.1, h.2.1.2, h.2.2.1, h.2.2.2.1, h.2.2.2.2.1⟩ ⟨n_CB (y := y_1_27) (bytes := b_1_27) 1 h.2.2.2.2.1 n_w309 n_w306 n_w1 ⟨by decide, by decide, by decide +kernel⟩ rfl rfl ⟨by rw [hrm]; decide, by rw [hrm]; decide⟩, h.2.2.2.2.1 _ n_w308, h.2.2.2.2.1 _ n_s1⟩ (Cn := RX10) ⟨40, 10, _, _, _, _, TX10, 8, rfl, rfl, rfl⟩ rfl
    have all : ∀ x ∈ [((.invokevirtual 51 : Instr), ct_69), ((.invokevirtual 55 : Instr), ct_14)], q_Call C b_1_4 D tys n_KT 4 x.1 x.2 := (n_mem2 (g0) (n_mem2 (g1) n_mem0))
    exact all (ins, ct) hx
def ct_217 : qCt := ((6, [[(0, 2147483648), (2, 1)], [(0, (-2)), (2, (-1))]], [(2, 44, [(1, 1)]), (0, 0, [(0, 1)]), (0, 0, [(2, 1)])], [([(1, 1)], 44, 0, (2, 42, [(3, 1)])), ([(3, 1)], 42, 1, (2, 8, [(4, 1)])), ([(3, 1)], 42, 0, (2, 7, [(5, 1)])), ([(5, 1)], 7, 0, (0, 0, [])), ([(5, 1)], 7, 1, (0, 0, [])), ([(5, 1)], 7, 2, (0, 0, [])), ([(5, 1)], 7, 3, (0, 0, [])), ([(5, 1)], 7, 4, (0, 0, [])), ([(5, 1)], 7, 5, (0, 0, [])), ([(1, 1)], 44, 3, (0, 0, []))]), (6, [], [(0, 0, [(0, (-1))])], [([(1, 1)], 44, 3, (0, 0, [(0, 1)])), ([(1, 1)], 44, 0, (2, 42, [(3, 1)])), ([(3, 1)], 42, 1, (2, 8, [(4, 1)])), ([(3, 1)], 42, 0, (2, 7, [(5, 1)])), ([(5, 1)], 7, 0, (0, 0, [])), ([(5, 1)], 7, 1, (0, 0, [])), ([(5, 1)], 7, 2, (0, 0, [])), ([(5, 1)], 7, 3, (0, 0, [])), ([(5, 1)], 7, 4, (0, 0, [])), ([(5, 1)], 7, 5, (0, 0, []))], []), [], [(44, 3)], 0, 0)
def rm_217 : Room := { frames := 3, cells := 0, slots := 0, locals := 71 }
def e_217 : qEn := (k_13_8, (t_fg12, t_fp12, t_cn12), (t_na12, t_at12), (t_kI12, t_kL12, t_ob12, t_cp12), [(.invokestatic 76, ct_72), (.invokestatic 69, ct_208), (.invokevirtual 82, ct_18)], (q_k (-1), [], []))
def ts_217 : List (qTm × qCert × List qHx) := [((0, (6, [[(0, 2147483648), (2, 1)], [(0, (-2)), (2, (-1))]], [(0, (2, 44, [(1, 1)])), (1, (0, 0, [(0, 1)])), (2, (0, 0, [(2, 1)]))], [], [([(1, 1)], 44, 0, (2, 42, [(3, 1)])), ([(3, 1)], 42, 1, (2, 8, [(4, 1)])), ([(3, 1)], 42, 0, (2, 7, [(5, 1)])), ([(5, 1)], 7, 0, (0, 0, [])), ([(5, 1)], 7, 1, (0, 0, [])), ([(5, 1)], 7, 2, (0, 0, [])), ([(5, 1)], 7, 3, (0, 0, [])), ([(5, 1)], 7, 4, (0, 0, [])), ([(5, 1)], 7, 5, (0, 0, [])), ([(1, 1)], 44, 3, (0, 0, []))], 0, 0), []), (1, []), [(0, 0, [], [], []), (0, 0, [], [], [0]), (0, 1, [(1, [])], [], []), (2, 0, [(1, [(3, 1)])], [], []), (0, 0, [], [], []), (0, 0, [], [], []), (0, 0, [], [], []), (0, 0, [], [], []), (0, 1, [], [], [0]), (0, 1, [], [], [2]), (0, 0, [], [], []), (0, 1, [], [], [4]), (0, 0, [], [], []), (0, 1, [(1, []), (1, [])], [], []), (0, 0, [], [], []), (0, 0, [(1, [(0, 1)]), (1, [(1, 1)])], [[(2, 1)]], [1]), (0, 1, [(1, [])], [], []), (2, 0, [(1, [(3, 1)])], [], []), (0, 0, [], [], []), (0, 0, [], [], []), (0, 0, [], [[(1, 1)]], [2]), (5, 0, [], [], [])])]
set_option maxRecDepth 100000 in
theorem m_217 (l : Launch) : q_Met l vwCl n_TL n_NW n_KT y_13_8 (Cond.code y_13_8 b_13_8 3 (some .int) :: n_GW) rm_217 ct_217 := by
  refine q_method (E := e_217) ts_217 (by decide) rfl rfl rfl ?_ (by decide +kernel)
  intro C D tys htl hl hrm hm hml ho hts hnm hE
  have h : n_ctx C b_13_8 3 "BalanceCoderModel" D tys := ⟨htl, hm, hml, ho, fun w hw => hts w (List.mem_cons_of_mem _ hw), hE⟩
  refine ⟨⟨?_, ?_⟩, ⟨?_, ?_, ?_, ?_, ?_⟩, ⟨?_, ?_, ?_⟩, ⟨?_, ?_, ?_, ?_⟩, ?_⟩
  · intro i ins len hx; exact kd_13_8 (i, ins, len) hx
  · exact n_at hE.1
  · intro i ci f hx; exact c_fg12 h (i, ci, f) hx
  · intro i ci f hx; exact c_fp12 h (i, ci, f) hx
  · exact n_hap h
  · intro i ci n hx; exact c_cn12 h (i, ci, n) hx
  · exact n_hag htl
  · exact c_n112 h
  · exact c_n212 h
  · intro t ci hx; exact c_at12 h (t, ci) hx
  · intro i n hx; exact c_kI12 h (i, n) hx
  · intro i n hx; exact c_kL12 h (i, n) hx
  · exact c_ob12 h ⟨by rw [hrm]; decide, by rw [hrm]; decide⟩
  · exact c_cp12 h
  · intro ins ct hx
    have g0 : q_Call C b_13_8 D tys n_KT 3 (.invokestatic 76) ct_72 := q_callS n_NWk h.2.2.2.2.2 h.1 (m_72 C.2.1) ⟨h.2.1.1, h.2.1.2, h.2.2.1, h.2.2.2.1, h.2.2.2.2.1⟩ ⟨n_CB (y := y_13_4) (bytes := b_13_4) 1 h.2.2.2.2.1 n_w919 n_w917 n_w12 ⟨by decide, by decide, by decide +kernel⟩ rfl rfl ⟨by rw [hrm]; decide, by rw [hrm]; decide⟩, h.2.2.2.2.1 _ n_w918⟩ rfl
    have g1 : q_Call C b_13_8 D tys n_KT 3 (.invokestatic 69) ct_208 := q_callS n_NWk h.2.2.2.2.2 h.1 (m_208 C.2.1) ⟨h.2.1.1, h.2.1.2, h.2.2.1, h.2.2.2.1, h.2.2.2.2.1⟩ ⟨n_CB (y := y_13_3) (bytes := b_13_3) 3 h.2.2.2.2.1 n_w923 n_w921 n_w12 ⟨by decide, by decide, by decide +kernel⟩ rfl rfl ⟨by rw [hrm]; decide, by rw [hrm]; decide⟩, h.2.2.2.2.1 _ n_w922⟩ rfl
    have g2 : q_Call C b_13_8 D tys n_KT 3 (.invokevirtual 82) ct_18 := q_callV n_NWk h.2.2.2.2.2 h.1 (m_18 C.2.1) ⟨h.2.1.1, h.2.1.2, h.2.2.1, h.2.2.2.1, h.2.2.2.2.1⟩ ⟨n_CB (y := y_13_2) (bytes := b_13_2) 1 h.2.2.2.2.1 n_w928 n_w925 n_w12 ⟨by decide, by decide, by decide +kernel⟩ rfl rfl ⟨by rw [hrm]; decide, by rw [hrm]; decide⟩, h.2.2.2.2.1 _ n_w927, h.2.2.2.2.1 _ n_s27⟩ (Cn := RX12) ⟨44, 12, _, _, _, _, TX12, 31, rfl, rfl, rfl⟩ rfl
    have all : ∀ x ∈ [((.invokestatic 76 : Instr), ct_72), ((.invokestatic 69 : Instr), ct_208), ((.invokevirtual 82 : Instr), ct_18)], q_Call C b_13_8 D tys n_KT 3 x.1 x.2 := (n_mem2 (g0) (n_mem2 (g1) (n_mem2 (g2) n_mem0)))
    exact all (ins, ct) hx
def ct_218 : qCt := ((16, [], [(2, 40, [(1, 1)]), (0, 0, [(0, 1)]), (0, 0, [(0, (-1))])], [([(1, 1)], 40, 7, (0, 0, [])), ([(1, 1)], 40, 0, (2, 38, [(2, 1)])), ([(2, 1)], 38, 0, (2, 17, [(3, 1)])), ([(3, 1)], 17, 5, (2, 32, [(4, 1)])), ([(4, 1)], 32, 1, (0, 0, [])), ([(4, 1)], 32, 0, (2, 0, [(5, 1)])), ([(3, 1)], 17, 4, (2, 32, [(6, 1)])), ([(6, 1)], 32, 1, (0, 0, [])), ([(6, 1)], 32, 0, (2, 0, [(7, 1)])), ([(3, 1)], 17, 3, (2, 32, [(8, 1)])), ([(8, 1)], 32, 1, (0, 0, [])), ([(8, 1)], 32, 0, (2, 0, [(9, 1)])), ([(3, 1)], 17, 2, (2, 32, [(10, 1)])), ([(10, 1)], 32, 1, (0, 0, [])), ([(10, 1)], 32, 0, (2, 0, [(11, 1)])), ([(3, 1)], 17, 1, (2, 32, [(12, 1)])), ([(12, 1)], 32, 1, (0, 0, [])), ([(12, 1)], 32, 0, (2, 0, [(13, 1)])), ([(3, 1)], 17, 0, (2, 32, [(14, 1)])), ([(14, 1)], 32, 1, (0, 0, [])), ([(14, 1)], 32, 0, (2, 0, [(15, 1)]))]), (16, [], [(0, 0, [])], [([(1, 1)], 40, 0, (2, 38, [(2, 1)])), ([(2, 1)], 38, 0, (2, 17, [(3, 1)])), ([(3, 1)], 17, 5, (2, 32, [(4, 1)])), ([(3, 1)], 17, 4, (2, 32, [(6, 1)])), ([(3, 1)], 17, 3, (2, 32, [(8, 1)])), ([(3, 1)], 17, 2, (2, 32, [(10, 1)])), ([(3, 1)], 17, 1, (2, 32, [(12, 1)])), ([(3, 1)], 17, 0, (2, 32, [(14, 1)])), ([(1, 1)], 40, 7, (0, 0, [])), ([(4, 1)], 32, 1, (0, 0, [])), ([(4, 1)], 32, 0, (2, 0, [(5, 1)])), ([(6, 1)], 32, 1, (0, 0, [])), ([(6, 1)], 32, 0, (2, 0, [(7, 1)])), ([(8, 1)], 32, 1, (0, 0, [])), ([(8, 1)], 32, 0, (2, 0, [(9, 1)])), ([(10, 1)], 32, 1, (0, 0, [])), ([(10, 1)], 32, 0, (2, 0, [(11, 1)])), ([(12, 1)], 32, 1, (0, 0, [])), ([(12, 1)], 32, 0, (2, 0, [(13, 1)])), ([(14, 1)], 32, 1, (0, 0, [])), ([(14, 1)], 32, 0, (2, 0, [(15, 1)]))], []), [], [], 0, 0)
def rm_218 : Room := { frames := 2, cells := 0, slots := 0, locals := 47 }
def e_218 : qEn := (k_1_4, (t_fg10, t_fp10, t_cn10), (t_na10, t_at10), (t_kI10, t_kL10, t_ob10, t_cp10), [(.invokevirtual 51, ct_69)], (q_k (-1), [], []))
def ts_218 : List (qTm × qCert × List qHx) := [((0, (16, [], [(0, (2, 40, [(1, 1)])), (1, (0, 0, [(0, 1)])), (2, (0, 0, [(0, (-1))]))], [], [([(1, 1)], 40, 7, (0, 0, [])), ([(1, 1)], 40, 0, (2, 38, [(2, 1)])), ([(2, 1)], 38, 0, (2, 17, [(3, 1)])), ([(3, 1)], 17, 5, (2, 32, [(4, 1)])), ([(4, 1)], 32, 1, (0, 0, [])), ([(4, 1)], 32, 0, (2, 0, [(5, 1)])), ([(3, 1)], 17, 4, (2, 32, [(6, 1)])), ([(6, 1)], 32, 1, (0, 0, [])), ([(6, 1)], 32, 0, (2, 0, [(7, 1)])), ([(3, 1)], 17, 3, (2, 32, [(8, 1)])), ([(8, 1)], 32, 1, (0, 0, [])), ([(8, 1)], 32, 0, (2, 0, [(9, 1)])), ([(3, 1)], 17, 2, (2, 32, [(10, 1)])), ([(10, 1)], 32, 1, (0, 0, [])), ([(10, 1)], 32, 0, (2, 0, [(11, 1)])), ([(3, 1)], 17, 1, (2, 32, [(12, 1)])), ([(12, 1)], 32, 1, (0, 0, [])), ([(12, 1)], 32, 0, (2, 0, [(13, 1)])), ([(3, 1)], 17, 0, (2, 32, [(14, 1)])), ([(14, 1)], 32, 1, (0, 0, [])), ([(14, 1)], 32, 0, (2, 0, [(15, 1)]))], 0, 0), []), (1, []), [(0, 0, [], [], []), (0, 0, [], [], []), (0, 0, [], [[(1, 1)], [(2, 1)], [(3, 1)], [(4, 1)], [(6, 1)], [(8, 1)], [(10, 1)], [(12, 1)], [(14, 1)]], [0]), (0, 0, [], [], []), (0, 0, [], [], []), (0, 0, [], [], []), (0, 0, [], [], []), (0, 0, [], [], []), (0, 0, [], [], []), (2, 0, [(1, [(0, 1)])], [], []), (0, 0, [], [], []), (0, 0, [], [], []), (0, 1, [], [], [24]), (0, 0, [], [], []), (0, 0, [], [], []), (0, 0, [], [], []), (0, 1, [(1, [])], [], []), (2, 0, [(1, [(2, 1)])], [], []), (0, 0, [], [], []), (0, 1, [], [], [24]), (0, 0, [], [], []), (5, 0, [], [], []), (2, 0, [(1, [(1, 1)])], [], [])])]
set_option maxRecDepth 100000 in
theorem m_218 (l : Launch) : q_Met l vwCl n_TL n_NW n_KT y_1_4 (Cond.code y_1_4 b_1_4 4 (some .int) :: n_GW) rm_218 ct_218 := by
  refine q_method (E := e_218) ts_218 (by decide) rfl rfl rfl ?_ (by decide +kernel)
  intro C D tys htl hl hrm hm hml ho hts hnm hE
  have h : n_ctx C b_1_4 4 "BalanceCoder" D tys := ⟨htl, hm, hml, ho, fun w hw => hts w (List.mem_cons_of_mem _ hw), hE⟩
  refine ⟨⟨?_, ?_⟩, ⟨?_, ?_, ?_, ?_, ?_⟩, ⟨?_, ?_, ?_⟩, ⟨?_, ?_, ?_, ?_⟩, ?_⟩
  · intro i ins len hx; exact kd_1_4 (i, ins, len) hx
  · exact n_at hE.1
  · intro i ci f hx; exact c_fg10 h (i, ci, f) hx
  · intro i ci f hx; exact c_fp10 h (i, ci, f) hx
  · exact n_hap h
  · intro i ci n hx; exact c_cn10 h (i, ci, n) hx
  · exact n_hag htl
  · exact c_n110 h
  · exact c_n210 h
  · intro t ci hx; exact c_at10 h (t, ci) hx
  · intro i n hx; exact c_kI10 h (i, n) hx
  · intro i n hx; exact c_kL10 h (i, n) hx
  · exact c_ob10 h ⟨by rw [hrm]; decide, by rw [hrm]; decide⟩
  · exact c_cp10 h
  · intro ins ct hx
    have g0 : q_Call C b_1_4 D tys n_KT 4 (.invokevirtual 51) ct_69 := q_callV n_NWk h.2.2.2.2.2 h.1 (m_69 C.2.1) ⟨h.2.1.1, h.2.1.2, h.2.2.1, h.2.2.2.1, h.2.2.2.2.1⟩ ⟨n_CB (y := y_1_29) (bytes := b_1_29) 1 h.2.2.2.2.1 n_w305 n_w302 n_w1 ⟨by decide, by decide, by decide +kernel⟩ rfl rfl ⟨by rw [hrm]; decide, by rw [hrm]; decide⟩, h.2.2.2.2.1 _ n_w304, h.2.2.2.2.1 _ n_s0⟩ (Cn := RX10) ⟨40, 10, _, _, _, _, TX10, 8, rfl, rfl, rfl⟩ rfl
    have all : ∀ x ∈ [((.invokevirtual 51 : Instr), ct_69)], q_Call C b_1_4 D tys n_KT 4 x.1 x.2 := (n_mem2 (g0) n_mem0)
    exact all (ins, ct) hx
def ct_219 : qCt := ((5, [], [(2, 44, [(1, 1)]), (0, 0, [(0, 1)]), (0, 0, [(0, (-1))])], [([(1, 1)], 44, 0, (2, 42, [(2, 1)])), ([(2, 1)], 42, 1, (2, 8, [(3, 1)])), ([(2, 1)], 42, 0, (2, 7, [(4, 1)])), ([(4, 1)], 7, 0, (0, 0, [])), ([(4, 1)], 7, 1, (0, 0, [])), ([(4, 1)], 7, 2, (0, 0, [])), ([(4, 1)], 7, 3, (0, 0, [])), ([(4, 1)], 7, 4, (0, 0, [])), ([(4, 1)], 7, 5, (0, 0, [])), ([(1, 1)], 44, 3, (0, 0, []))]), (5, [], [(0, 0, [])], [([(1, 1)], 44, 0, (2, 42, [(2, 1)])), ([(2, 1)], 42, 1, (2, 8, [(3, 1)])), ([(2, 1)], 42, 0, (2, 7, [(4, 1)])), ([(4, 1)], 7, 0, (0, 0, [])), ([(4, 1)], 7, 1, (0, 0, [])), ([(4, 1)], 7, 2, (0, 0, [])), ([(4, 1)], 7, 3, (0, 0, [])), ([(4, 1)], 7, 4, (0, 0, [])), ([(4, 1)], 7, 5, (0, 0, [])), ([(1, 1)], 44, 3, (0, 0, []))], []), [], [], 0, 0)
def rm_219 : Room := { frames := 3, cells := 0, slots := 0, locals := 71 }
def e_219 : qEn := (k_13_8, (t_fg12, t_fp12, t_cn12), (t_na12, t_at12), (t_kI12, t_kL12, t_ob12, t_cp12), [(.invokestatic 76, ct_72), (.invokestatic 69, ct_211)], (q_k (-1), [], []))
def ts_219 : List (qTm × qCert × List qHx) := [((0, (5, [], [(0, (2, 44, [(1, 1)])), (1, (0, 0, [(0, 1)])), (2, (0, 0, [(0, (-1))]))], [], [([(1, 1)], 44, 0, (2, 42, [(2, 1)])), ([(2, 1)], 42, 1, (2, 8, [(3, 1)])), ([(2, 1)], 42, 0, (2, 7, [(4, 1)])), ([(4, 1)], 7, 0, (0, 0, [])), ([(4, 1)], 7, 1, (0, 0, [])), ([(4, 1)], 7, 2, (0, 0, [])), ([(4, 1)], 7, 3, (0, 0, [])), ([(4, 1)], 7, 4, (0, 0, [])), ([(4, 1)], 7, 5, (0, 0, [])), ([(1, 1)], 44, 3, (0, 0, []))], 0, 0), []), (1, []), [(0, 0, [], [], []), (0, 0, [], [], [0]), (0, 1, [(1, [])], [], []), (2, 0, [(1, [(1, 1)])], [], []), (0, 0, [], [], []), (0, 0, [], [], []), (0, 0, [], [], []), (0, 0, [], [], []), (0, 1, [], [], [0]), (0, 1, [], [], [2]), (0, 0, [], [], []), (0, 1, [], [], [4]), (0, 0, [], [], []), (0, 1, [(1, []), (1, [])], [], []), (0, 0, [], [], []), (0, 0, [], [], [1]), (0, 1, [(1, [])], [], []), (0, 0, [], [], []), (0, 0, [], [], []), (2, 0, [(1, [(2, 1)])], [], []), (0, 0, [], [], []), (0, 1, [], [], [0]), (0, 1, [], [], [2]), (0, 0, [], [], []), (0, 1, [], [], [4]), (0, 0, [], [], []), (5, 0, [], [], []), (2, 0, [(1, [(2, 1)])], [], [])])]
set_option maxRecDepth 100000 in
theorem m_219 (l : Launch) : q_Met l vwCl n_TL n_NW n_KT y_13_8 (Cond.code y_13_8 b_13_8 3 (some .int) :: n_GW) rm_219 ct_219 := by
  refine q_method (E := e_219) ts_219 (by decide) rfl rfl rfl ?_ (by decide +kernel)
  intro C D tys htl hl hrm hm hml ho hts hnm hE
  have h : n_ctx C b_13_8 3 "BalanceCoderModel" D tys := ⟨htl, hm, hml, ho, fun w hw => hts w (List.mem_cons_of_mem _ hw), hE⟩
  refine ⟨⟨?_, ?_⟩, ⟨?_, ?_, ?_, ?_, ?_⟩, ⟨?_, ?_, ?_⟩, ⟨?_, ?_, ?_, ?_⟩, ?_⟩
  · intro i ins len hx; exact kd_13_8 (i, ins, len) hx
  · exact n_at hE.1
  · intro i ci f hx; exact c_fg12 h (i, ci, f) hx
  · intro i ci f hx; exact c_fp12 h (i, ci, f) hx
  · exact n_hap h
  · intro i ci n hx; exact c_cn12 h (i, ci, n) hx
  · exact n_hag htl
  · exact c_n112 h
  · exact c_n212 h
  · intro t ci hx; exact c_at12 h (t, ci) hx
  · intro i n hx; exact c_kI12 h (i, n) hx
  · intro i n hx; exact c_kL12 h (i, n) hx
  · exact c_ob12 h ⟨by rw [hrm]; decide, by rw [hrm]; decide⟩
  · exact c_cp12 h
  · intro ins ct hx
    have g0 : q_Call C b_13_8 D tys n_KT 3 (.invokestatic 76) ct_72 := q_callS n_NWk h.2.2.2.2.2 h.1 (m_72 C.2.1) ⟨h.2.1.1, h.2.1.2, h.2.2.1, h.2.2.2.1, h.2.2.2.2.1⟩ ⟨n_CB (y := y_13_4) (bytes := b_13_4) 1 h.2.2.2.2.1 n_w919 n_w917 n_w12 ⟨by decide, by decide, by decide +kernel⟩ rfl rfl ⟨by rw [hrm]; decide, by rw [hrm]; decide⟩, h.2.2.2.2.1 _ n_w918⟩ rfl
    have g1 : q_Call C b_13_8 D tys n_KT 3 (.invokestatic 69) ct_211 := q_callS n_NWk h.2.2.2.2.2 h.1 (m_211 C.2.1) ⟨h.2.1.1, h.2.1.2, h.2.2.1, h.2.2.2.1, h.2.2.2.2.1⟩ ⟨n_CB (y := y_13_3) (bytes := b_13_3) 3 h.2.2.2.2.1 n_w923 n_w921 n_w12 ⟨by decide, by decide, by decide +kernel⟩ rfl rfl ⟨by rw [hrm]; decide, by rw [hrm]; decide⟩, h.2.2.2.2.1 _ n_w922⟩ rfl
    have all : ∀ x ∈ [((.invokestatic 76 : Instr), ct_72), ((.invokestatic 69 : Instr), ct_211)], q_Call C b_13_8 D tys n_KT 3 x.1 x.2 := (n_mem2 (g0) (n_mem2 (g1) n_mem0))
    exact all (ins, ct) hx
def ct_220 : qCt := ((17, [[(2, 1)], [(0, 2147483647), (2, (-1))]], [(2, 40, [(1, 1)]), (0, 0, [(0, 1)]), (0, 0, [(2, 1)])], [([(1, 1)], 40, 7, (0, 0, [])), ([(1, 1)], 40, 0, (2, 38, [(3, 1)])), ([(3, 1)], 38, 0, (2, 17, [(4, 1)])), ([(4, 1)], 17, 5, (2, 32, [(5, 1)])), ([(5, 1)], 32, 1, (0, 0, [])), ([(5, 1)], 32, 0, (2, 0, [(6, 1)])), ([(4, 1)], 17, 4, (2, 32, [(7, 1)])), ([(7, 1)], 32, 1, (0, 0, [])), ([(7, 1)], 32, 0, (2, 0, [(8, 1)])), ([(4, 1)], 17, 3, (2, 32, [(9, 1)])), ([(9, 1)], 32, 1, (0, 0, [])), ([(9, 1)], 32, 0, (2, 0, [(10, 1)])), ([(4, 1)], 17, 2, (2, 32, [(11, 1)])), ([(11, 1)], 32, 1, (0, 0, [])), ([(11, 1)], 32, 0, (2, 0, [(12, 1)])), ([(4, 1)], 17, 1, (2, 32, [(13, 1)])), ([(13, 1)], 32, 1, (0, 0, [])), ([(13, 1)], 32, 0, (2, 0, [(14, 1)])), ([(4, 1)], 17, 0, (2, 32, [(15, 1)])), ([(15, 1)], 32, 1, (0, 0, [])), ([(15, 1)], 32, 0, (2, 0, [(16, 1)]))]), (17, [], [(0, 0, [(0, (-1))])], [([(1, 1)], 40, 7, (0, 0, [(0, 1)])), ([(1, 1)], 40, 0, (2, 38, [(3, 1)])), ([(3, 1)], 38, 0, (2, 17, [(4, 1)])), ([(4, 1)], 17, 5, (2, 32, [(5, 1)])), ([(4, 1)], 17, 4, (2, 32, [(7, 1)])), ([(4, 1)], 17, 3, (2, 32, [(9, 1)])), ([(4, 1)], 17, 2, (2, 32, [(11, 1)])), ([(4, 1)], 17, 1, (2, 32, [(13, 1)])), ([(4, 1)], 17, 0, (2, 32, [(15, 1)])), ([(5, 1)], 32, 1, (0, 0, [])), ([(5, 1)], 32, 0, (2, 0, [(6, 1)])), ([(7, 1)], 32, 1, (0, 0, [])), ([(7, 1)], 32, 0, (2, 0, [(8, 1)])), ([(9, 1)], 32, 1, (0, 0, [])), ([(9, 1)], 32, 0, (2, 0, [(10, 1)])), ([(11, 1)], 32, 1, (0, 0, [])), ([(11, 1)], 32, 0, (2, 0, [(12, 1)])), ([(13, 1)], 32, 1, (0, 0, [])), ([(13, 1)], 32, 0, (2, 0, [(14, 1)])), ([(15, 1)], 32, 1, (0, 0, [])), ([(15, 1)], 32, 0, (2, 0, [(16, 1)]))], []), [], [(40, 7)], 0, 0)
def rm_220 : Room := { frames := 2, cells := 0, slots := 0, locals := 47 }
def e_220 : qEn := (k_1_4, (t_fg10, t_fp10, t_cn10), (t_na10, t_at10), (t_kI10, t_kL10, t_ob10, t_cp10), [(.invokevirtual 51, ct_69), (.invokevirtual 55, ct_14)], (q_k (-1), [], []))
def ts_220 : List (qTm × qCert × List qHx) := [((0, (17, [[(2, 1)], [(0, 2147483647), (2, (-1))]], [(0, (2, 40, [(1, 1)])), (1, (0, 0, [(0, 1)])), (2, (0, 0, [(2, 1)]))], [], [([(1, 1)], 40, 7, (0, 0, [])), ([(1, 1)], 40, 0, (2, 38, [(3, 1)])), ([(3, 1)], 38, 0, (2, 17, [(4, 1)])), ([(4, 1)], 17, 5, (2, 32, [(5, 1)])), ([(5, 1)], 32, 1, (0, 0, [])), ([(5, 1)], 32, 0, (2, 0, [(6, 1)])), ([(4, 1)], 17, 4, (2, 32, [(7, 1)])), ([(7, 1)], 32, 1, (0, 0, [])), ([(7, 1)], 32, 0, (2, 0, [(8, 1)])), ([(4, 1)], 17, 3, (2, 32, [(9, 1)])), ([(9, 1)], 32, 1, (0, 0, [])), ([(9, 1)], 32, 0, (2, 0, [(10, 1)])), ([(4, 1)], 17, 2, (2, 32, [(11, 1)])), ([(11, 1)], 32, 1, (0, 0, [])), ([(11, 1)], 32, 0, (2, 0, [(12, 1)])), ([(4, 1)], 17, 1, (2, 32, [(13, 1)])), ([(13, 1)], 32, 1, (0, 0, [])), ([(13, 1)], 32, 0, (2, 0, [(14, 1)])), ([(4, 1)], 17, 0, (2, 32, [(15, 1)])), ([(15, 1)], 32, 1, (0, 0, [])), ([(15, 1)], 32, 0, (2, 0, [(16, 1)]))], 0, 0), []), (1, []), [(0, 0, [], [], []), (0, 0, [], [], []), (0, 0, [], [[(1, 1)], [(3, 1)], [(4, 1)], [(5, 1)], [(7, 1)], [(9, 1)], [(11, 1)], [(13, 1)], [(15, 1)]], [0]), (0, 0, [], [], []), (0, 0, [], [], []), (0, 0, [], [], []), (0, 0, [], [], []), (0, 0, [], [], []), (0, 0, [], [], []), (2, 0, [(1, [(0, 1), (2, 1)])], [], []), (0, 0, [], [], []), (0, 0, [], [], []), (0, 1, [], [], [24]), (0, 0, [], [], []), (2, 0, [(1, [(0, 1), (3, 1)])], [], []), (0, 0, [], [], []), (0, 0, [], [], []), (0, 0, [], [[(1, 1)]], [1]), (5, 0, [], [], [])])]
set_option maxRecDepth 100000 in
theorem m_220 (l : Launch) : q_Met l vwCl n_TL n_NW n_KT y_1_4 (Cond.code y_1_4 b_1_4 4 (some .int) :: n_GW) rm_220 ct_220 := by
  refine q_method (E := e_220) ts_220 (by decide) rfl rfl rfl ?_ (by decide +kernel)
  intro C D tys htl hl hrm hm hml ho hts hnm hE
  have h : n_ctx C b_1_4 4 "BalanceCoder" D tys := ⟨htl, hm, hml, ho, fun w hw => hts w (List.mem_cons_of_mem _ hw), hE⟩
  refine ⟨⟨?_, ?_⟩, ⟨?_, ?_, ?_, ?_, ?_⟩, ⟨?_, ?_, ?_⟩, ⟨?_, ?_, ?_, ?_⟩, ?_⟩
  · intro i ins len hx; exact kd_1_4 (i, ins, len) hx
  · exact n_at hE.1
  · intro i ci f hx; exact c_fg10 h (i, ci, f) hx
  · intro i ci f hx; exact c_fp10 h (i, ci, f) hx
  · exact n_hap h
  · intro i ci n hx; exact c_cn10 h (i, ci, n) hx
  · exact n_hag htl
  · exact c_n110 h
  · exact c_n210 h
  · intro t ci hx; exact c_at10 h (t, ci) hx
  · intro i n hx; exact c_kI10 h (i, n) hx
  · intro i n hx; exact c_kL10 h (i, n) hx
  · exact c_ob10 h ⟨by rw [hrm]; decide, by rw [hrm]; decide⟩
  · exact c_cp10 h
  · intro ins ct hx
    have g0 : q_Call C b_1_4 D tys n_KT 4 (.invokevirtual 51) ct_69 := q_callV n_NWk h.2.2.2.2.2 h.1 (m_69 C.2.1) ⟨h.2.1.1, h.2.1.2, h.2.2.1, h.2.2.2.1, h.2.2.2.2.1⟩ ⟨n_CB (y := y_1_29) (bytes := b_1_29) 1 h.2.2.2.2.1 n_w305 n_w302 n_w1 ⟨by decide, by decide, by decide +kernel⟩ rfl rfl ⟨by rw [hrm]; decide, by rw [hrm]; decide⟩, h.2.2.2.2.1 _ n_w304, h.2.2.2.2.1 _ n_s0⟩ (Cn := RX10) ⟨40, 10, _, _, _, _, TX10, 8, rfl, rfl, rfl⟩ rfl
    have g1 : q_Call C b_1_4 D tys n_KT 4 (.invokevirtual 55) ct_14 := q_callV n_NWk h.2.2.2.2.2 h.1 (m_14 C.2.1) ⟨h.2.1.1, h.2.1.2, h.2.2.1, h.2.2.2.1, h.2.2.2.2.1⟩ ⟨n_CB (y := y_1_27) (bytes := b_1_27) 1 h.2.2.2.2.1 n_w309 n_w306 n_w1 ⟨by decide, by decide, by decide +kernel⟩ rfl rfl ⟨by rw [hrm]; decide, by rw [hrm]; decide⟩, h.2.2.2.2.1 _ n_w308, h.2.2.2.2.1 _ n_s1⟩ (Cn := RX10) ⟨40, 10, _, _, _, _, TX10, 8, rfl, rfl, rfl⟩ rfl
    have all : ∀ x ∈ [((.invokevirtual 51 : Instr), ct_69), ((.invokevirtual 55 : Instr), ct_14)], q_Call C b_1_4 D tys n_KT 4 x.1 x.2 := (n_mem2 (g0) (n_mem2 (g1) n_mem0))
    exact all (ins, ct) hx
def ct_221 : qCt := ((6, [[(2, 1)], [(0, 2147483647), (2, (-1))]], [(2, 44, [(1, 1)]), (0, 0, [(0, 1)]), (0, 0, [(2, 1)])], [([(1, 1)], 44, 0, (2, 42, [(3, 1)])), ([(3, 1)], 42, 1, (2, 8, [(4, 1)])), ([(3, 1)], 42, 0, (2, 7, [(5, 1)])), ([(5, 1)], 7, 0, (0, 0, [])), ([(5, 1)], 7, 1, (0, 0, [])), ([(5, 1)], 7, 2, (0, 0, [])), ([(5, 1)], 7, 3, (0, 0, [])), ([(5, 1)], 7, 4, (0, 0, [])), ([(5, 1)], 7, 5, (0, 0, [])), ([(1, 1)], 44, 3, (0, 0, []))]), (6, [], [(0, 0, [(0, (-1))])], [([(1, 1)], 44, 3, (0, 0, [(0, 1)])), ([(1, 1)], 44, 0, (2, 42, [(3, 1)])), ([(3, 1)], 42, 1, (2, 8, [(4, 1)])), ([(3, 1)], 42, 0, (2, 7, [(5, 1)])), ([(5, 1)], 7, 0, (0, 0, [])), ([(5, 1)], 7, 1, (0, 0, [])), ([(5, 1)], 7, 2, (0, 0, [])), ([(5, 1)], 7, 3, (0, 0, [])), ([(5, 1)], 7, 4, (0, 0, [])), ([(5, 1)], 7, 5, (0, 0, []))], []), [], [(44, 3)], 0, 0)
def rm_221 : Room := { frames := 3, cells := 0, slots := 0, locals := 71 }
def e_221 : qEn := (k_13_8, (t_fg12, t_fp12, t_cn12), (t_na12, t_at12), (t_kI12, t_kL12, t_ob12, t_cp12), [(.invokestatic 76, ct_72), (.invokestatic 69, ct_214), (.invokevirtual 82, ct_18)], (q_k (-1), [], []))
def ts_221 : List (qTm × qCert × List qHx) := [((0, (6, [[(2, 1)], [(0, 2147483647), (2, (-1))]], [(0, (2, 44, [(1, 1)])), (1, (0, 0, [(0, 1)])), (2, (0, 0, [(2, 1)]))], [], [([(1, 1)], 44, 0, (2, 42, [(3, 1)])), ([(3, 1)], 42, 1, (2, 8, [(4, 1)])), ([(3, 1)], 42, 0, (2, 7, [(5, 1)])), ([(5, 1)], 7, 0, (0, 0, [])), ([(5, 1)], 7, 1, (0, 0, [])), ([(5, 1)], 7, 2, (0, 0, [])), ([(5, 1)], 7, 3, (0, 0, [])), ([(5, 1)], 7, 4, (0, 0, [])), ([(5, 1)], 7, 5, (0, 0, [])), ([(1, 1)], 44, 3, (0, 0, []))], 0, 0), []), (1, []), [(0, 0, [], [], []), (0, 0, [], [], [0]), (0, 1, [(1, [])], [], []), (2, 0, [(1, [(3, 1)])], [], []), (0, 0, [], [], []), (0, 0, [], [], []), (0, 0, [], [], []), (0, 0, [], [], []), (0, 1, [], [], [0]), (0, 1, [], [], [2]), (0, 0, [], [], []), (0, 1, [], [], [4]), (0, 0, [], [], []), (0, 1, [(1, []), (1, [])], [], []), (0, 0, [], [], []), (0, 0, [(1, [(0, 1)]), (1, [(1, 1)])], [[(2, 1)]], [1]), (0, 1, [(1, [])], [], []), (2, 0, [(1, [(3, 1)])], [], []), (0, 0, [], [], []), (0, 0, [], [], []), (0, 0, [], [[(1, 1)]], [2]), (5, 0, [], [], [])])]
set_option maxRecDepth 100000 in
theorem m_221 (l : Launch) : q_Met l vwCl n_TL n_NW n_KT y_13_8 (Cond.code y_13_8 b_13_8 3 (some .int) :: n_GW) rm_221 ct_221 := by
  refine q_method (E := e_221) ts_221 (by decide) rfl rfl rfl ?_ (by decide +kernel)
  intro C D tys htl hl hrm hm hml ho hts hnm hE
  have h : n_ctx C b_13_8 3 "BalanceCoderModel" D tys := ⟨htl, hm, hml, ho, fun w hw => hts w (List.mem_cons_of_mem _ hw), hE⟩
  refine ⟨⟨?_, ?_⟩, ⟨?_, ?_, ?_, ?_, ?_⟩, ⟨?_, ?_, ?_⟩, ⟨?_, ?_, ?_, ?_⟩, ?_⟩
  · intro i ins len hx; exact kd_13_8 (i, ins, len) hx
  · exact n_at hE.1
  · intro i ci f hx; exact c_fg12 h (i, ci, f) hx
  · intro i ci f hx; exact c_fp12 h (i, ci, f) hx
  · exact n_hap h
  · intro i ci n hx; exact c_cn12 h (i, ci, n) hx
  · exact n_hag htl
  · exact c_n112 h
  · exact c_n212 h
  · intro t ci hx; exact c_at12 h (t, ci) hx
  · intro i n hx; exact c_kI12 h (i, n) hx
  · intro i n hx; exact c_kL12 h (i, n) hx
  · exact c_ob12 h ⟨by rw [hrm]; decide, by rw [hrm]; decide⟩
  · exact c_cp12 h
  · intro ins ct hx
    have g0 : q_Call C b_13_8 D tys n_KT 3 (.invokestatic 76) ct_72 := q_callS n_NWk h.2.2.2.2.2 h.1 (m_72 C.2.1) ⟨h.2.1.1, h.2.1.2, h.2.2.1, h.2.2.2.1, h.2.2.2.2.1⟩ ⟨n_CB (y := y_13_4) (bytes := b_13_4) 1 h.2.2.2.2.1 n_w919 n_w917 n_w12 ⟨by decide, by decide, by decide +kernel⟩ rfl rfl ⟨by rw [hrm]; decide, by rw [hrm]; decide⟩, h.2.2.2.2.1 _ n_w918⟩ rfl
    have g1 : q_Call C b_13_8 D tys n_KT 3 (.invokestatic 69) ct_214 := q_callS n_NWk h.2.2.2.2.2 h.1 (m_214 C.2.1) ⟨h.2.1.1, h.2.1.2, h.2.2.1, h.2.2.2.1, h.2.2.2.2.1⟩ ⟨n_CB (y := y_13_3) (bytes := b_13_3) 3 h.2.2.2.2.1 n_w923 n_w921 n_w12 ⟨by decide, by decide, by decide +kernel⟩ rfl rfl ⟨by rw [hrm]; decide, by rw [hrm]; decide⟩, h.2.2.2.2.1 _ n_w922⟩ rfl
    have g2 : q_Call C b_13_8 D tys n_KT 3 (.invokevirtual 82) ct_18 := q_callV n_NWk h.2.2.2.2.2 h.1 (m_18 C.2.1) ⟨h.2.1.1, h.2.1.2, h.2.2.1, h.2.2.2.1, h.2.2.2.2.1⟩ ⟨n_CB (y := y_13_2) (bytes := b_13_2) 1 h.2.2.2.2.1 n_w928 n_w925 n_w12 ⟨by decide, by decide, by decide +kernel⟩ rfl rfl ⟨by rw [hrm]; decide, by rw [hrm]; decide⟩, h.2.2.2.2.1 _ n_w927, h.2.2.2.2.1 _ n_s27⟩ (Cn := RX12) ⟨44, 12, _, _, _, _, TX12, 31, rfl, rfl, rfl⟩ rfl
    have all : ∀ x ∈ [((.invokestatic 76 : Instr), ct_72), ((.invokestatic 69 : Instr), ct_214), ((.invokevirtual 82 : Instr), ct_18)], q_Call C b_13_8 D tys n_KT 3 x.1 x.2 := (n_mem2 (g0) (n_mem2 (g1) (n_mem2 (g2) n_mem0)))
    exact all (ins, ct) hx
def ct_222 : qCt := ((17, [[(0, 2147483648), (2, 1)], [(0, (-2)), (2, (-1))]], [(2, 40, [(1, 1)]), (0, 0, [(0, 2)]), (0, 0, [(2, 1)])], [([(1, 1)], 40, 7, (0, 0, [])), ([(1, 1)], 40, 0, (2, 38, [(3, 1)])), ([(3, 1)], 38, 0, (2, 17, [(4, 1)])), ([(4, 1)], 17, 5, (2, 32, [(5, 1)])), ([(5, 1)], 32, 1, (0, 0, [])), ([(5, 1)], 32, 0, (2, 0, [(6, 1)])), ([(4, 1)], 17, 4, (2, 32, [(7, 1)])), ([(7, 1)], 32, 1, (0, 0, [])), ([(7, 1)], 32, 0, (2, 0, [(8, 1)])), ([(4, 1)], 17, 3, (2, 32, [(9, 1)])), ([(9, 1)], 32, 1, (0, 0, [])), ([(9, 1)], 32, 0, (2, 0, [(10, 1)])), ([(4, 1)], 17, 2, (2, 32, [(11, 1)])), ([(11, 1)], 32, 1, (0, 0, [])), ([(11, 1)], 32, 0, (2, 0, [(12, 1)])), ([(4, 1)], 17, 1, (2, 32, [(13, 1)])), ([(13, 1)], 32, 1, (0, 0, [])), ([(13, 1)], 32, 0, (2, 0, [(14, 1)])), ([(4, 1)], 17, 0, (2, 32, [(15, 1)])), ([(15, 1)], 32, 1, (0, 0, [])), ([(15, 1)], 32, 0, (2, 0, [(16, 1)]))]), (17, [], [(0, 0, [(0, (-1))])], [([(1, 1)], 40, 7, (0, 0, [(0, 1)])), ([(1, 1)], 40, 0, (2, 38, [(3, 1)])), ([(3, 1)], 38, 0, (2, 17, [(4, 1)])), ([(4, 1)], 17, 5, (2, 32, [(5, 1)])), ([(4, 1)], 17, 4, (2, 32, [(7, 1)])), ([(4, 1)], 17, 3, (2, 32, [(9, 1)])), ([(4, 1)], 17, 2, (2, 32, [(11, 1)])), ([(4, 1)], 17, 1, (2, 32, [(13, 1)])), ([(4, 1)], 17, 0, (2, 32, [(15, 1)])), ([(5, 1)], 32, 1, (0, 0, [])), ([(5, 1)], 32, 0, (2, 0, [(6, 1)])), ([(7, 1)], 32, 1, (0, 0, [])), ([(7, 1)], 32, 0, (2, 0, [(8, 1)])), ([(9, 1)], 32, 1, (0, 0, [])), ([(9, 1)], 32, 0, (2, 0, [(10, 1)])), ([(11, 1)], 32, 1, (0, 0, [])), ([(11, 1)], 32, 0, (2, 0, [(12, 1)])), ([(13, 1)], 32, 1, (0, 0, [])), ([(13, 1)], 32, 0, (2, 0, [(14, 1)])), ([(15, 1)], 32, 1, (0, 0, [])), ([(15, 1)], 32, 0, (2, 0, [(16, 1)]))], []), [], [(40, 7)], 0, 0)
def rm_222 : Room := { frames := 2, cells := 0, slots := 0, locals := 47 }
def e_222 : qEn := (k_1_4, (t_fg10, t_fp10, t_cn10), (t_na10, t_at10), (t_kI10, t_kL10, t_ob10, t_cp10), [(.invokevirtual 51, ct_92), (.invokevirtual 55, ct_14)], (q_k (-1), [], []))
def ts_222 : List (qTm × qCert × List qHx) := [((0, (17, [[(0, 2147483648), (2, 1)], [(0, (-2)), (2, (-1))]], [(0, (2, 40, [(1, 1)])), (1, (0, 0, [(0, 2)])), (2, (0, 0, [(2, 1)]))], [], [([(1, 1)], 40, 7, (0, 0, [])), ([(1, 1)], 40, 0, (2, 38, [(3, 1)])), ([(3, 1)], 38, 0, (2, 17, [(4, 1)])), ([(4, 1)], 17, 5, (2, 32, [(5, 1)])), ([(5, 1)], 32, 1, (0, 0, [])), ([(5, 1)], 32, 0, (2, 0, [(6, 1)])), ([(4, 1)], 17, 4, (2, 32, [(7, 1)])), ([(7, 1)], 32, 1, (0, 0, [])), ([(7, 1)], 32, 0, (2, 0, [(8, 1)])), ([(4, 1)], 17, 3, (2, 32, [(9, 1)])), ([(9, 1)], 32, 1, (0, 0, [])), ([(9, 1)], 32, 0, (2, 0, [(10, 1)])), ([(4, 1)], 17, 2, (2, 32, [(11, 1)])), ([(11, 1)], 32, 1, (0, 0, [])), ([(11, 1)], 32, 0, (2, 0, [(12, 1)])), ([(4, 1)], 17, 1, (2, 32, [(13, 1)])), ([(13, 1)], 32, 1, (0, 0, [])), ([(13, 1)], 32, 0, (2, 0, [(14, 1)])), ([(4, 1)], 17, 0, (2, 32, [(15, 1)])), ([(15, 1)], 32, 1, (0, 0, [])), ([(15, 1)], 32, 0, (2, 0, [(16, 1)]))], 0, 0), []), (1, []), [(0, 0, [], [], []), (0, 0, [], [], []), (0, 0, [], [[(1, 1)], [(3, 1)], [(4, 1)], [(5, 1)], [(7, 1)], [(9, 1)], [(11, 1)], [(13, 1)], [(15, 1)]], [0]), (0, 0, [], [], []), (0, 0, [], [], []), (0, 0, [], [], []), (0, 0, [], [], []), (0, 0, [], [], []), (0, 0, [], [], []), (0, 0, [], [], []), (0, 0, [], [], []), (0, 0, [], [[(1, 1)]], [1]), (5, 0, [], [], []), (2, 0, [(1, [(1, 1), (2, 1)])], [], [])])]
set_option maxRecDepth 100000 in
theorem m_222 (l : Launch) : q_Met l vwCl n_TL n_NW n_KT y_1_4 (Cond.code y_1_4 b_1_4 4 (some .int) :: n_GW) rm_222 ct_222 := by
  refine q_method (E := e_222) ts_222 (by decide) rfl rfl rfl ?_ (by decide +kernel)
  intro C D tys htl hl hrm hm hml ho hts hnm hE
  have h : n_ctx C b_1_4 4 "BalanceCoder" D tys := ⟨htl, hm, hml, ho, fun w hw => hts w (List.mem_cons_of_mem _ hw), hE⟩
  refine ⟨⟨?_, ?_⟩, ⟨?_, ?_, ?_, ?_, ?_⟩, ⟨?_, ?_, ?_⟩, ⟨?_, ?_, ?_, ?_⟩, ?_⟩
  · intro i ins len hx; exact kd_1_4 (i, ins, len) hx
  · exact n_at hE.1
  · intro i ci f hx; exact c_fg10 h (i, ci, f) hx
  · intro i ci f hx; exact c_fp10 h (i, ci, f) hx
  · exact n_hap h
  · intro i ci n hx; exact c_cn10 h (i, ci, n) hx
  · exact n_hag htl
  · exact c_n110 h
  · exact c_n210 h
  · intro t ci hx; exact c_at10 h (t, ci) hx
  · intro i n hx; exact c_kI10 h (i, n) hx
  · intro i n hx; exact c_kL10 h (i, n) hx
  · exact c_ob10 h ⟨by rw [hrm]; decide, by rw [hrm]; decide⟩
  · exact c_cp10 h
  · intro ins ct hx
    have g0 : q_Call C b_1_4 D tys n_KT 4 (.invokevirtual 51) ct_92 := q_callV n_NWk h.2.2.2.2.2 h.1 (m_92 C.2.1) ⟨h.2.1.1, h.2.1.2, h.2.2.1, h.2.2.2.1, h.2.2.2.2.1⟩ ⟨n_CB (y := y_1_29) (bytes := b_1_29) 1 h.2.2.2.2.1 n_w305 n_w302 n_w1 ⟨by decide, by decide, by decide +kernel⟩ rfl rfl ⟨by rw [hrm]; decide, by rw [hrm]; decide⟩, h.2.2.2.2.1 _ n_w304, h.2.2.2.2.1 _ n_s0⟩ (Cn := RX10) ⟨40, 10, _, _, _, _, TX10, 8, rfl, rfl, rfl⟩ rfl
    have g1 : q_Call C b_1_4 D tys n_KT 4 (.invokevirtual 55) ct_14 := q_callV n_NWk h.2.2.2.2.2 h.1 (m_14 C.2.1) ⟨h.2.1.1, h.2.1.2, h.2.2.1, h.2.2.2.1, h.2.2.2.2.1⟩ ⟨n_CB (y := y_1_27) (bytes := b_1_27) 1 h.2.2.2.2.1 n_w309 n_w306 n_w1 ⟨by decide, by decide, by decide +kernel⟩ rfl rfl ⟨by rw [hrm]; decide, by rw [hrm]; decide⟩, h.2.2.2.2.1 _ n_w308, h.2.2.2.2.1 _ n_s1⟩ (Cn := RX10) ⟨40, 10, _, _, _, _, TX10, 8, rfl, rfl, rfl⟩ rfl
    have all : ∀ x ∈ [((.invokevirtual 51 : Instr), ct_92), ((.invokevirtual 55 : Instr), ct_14)], q_Call C b_1_4 D tys n_KT 4 x.1 x.2 := (n_mem2 (g0) (n_mem2 (g1) n_mem0))
    exact all (ins, ct) hx
def ct_223 : qCt := ((6, [[(0, 2147483648), (2, 1)], [(0, (-2)), (2, (-1))]], [(2, 44, [(1, 1)]), (0, 0, [(0, 2)]), (0, 0, [(2, 1)])], [([(1, 1)], 44, 0, (2, 42, [(3, 1)])), ([(3, 1)], 42, 1, (2, 8, [(4, 1)])), ([(3, 1)], 42, 0, (2, 7, [(5, 1)])), ([(5, 1)], 7, 0, (0, 0, [])), ([(5, 1)], 7, 1, (0, 0, [])), ([(5, 1)], 7, 2, (0, 0, [])), ([(5, 1)], 7, 3, (0, 0, [])), ([(5, 1)], 7, 4, (0, 0, [])), ([(5, 1)], 7, 5, (0, 0, [])), ([(1, 1)], 44, 3, (0, 0, []))]), (6, [], [(0, 0, [(0, (-1))])], [([(1, 1)], 44, 3, (0, 0, [(0, 1)])), ([(1, 1)], 44, 0, (2, 42, [(3, 1)])), ([(3, 1)], 42, 1, (2, 8, [(4, 1)])), ([(3, 1)], 42, 0, (2, 7, [(5, 1)])), ([(5, 1)], 7, 0, (0, 0, [])), ([(5, 1)], 7, 1, (0, 0, [])), ([(5, 1)], 7, 2, (0, 0, [])), ([(5, 1)], 7, 3, (0, 0, [])), ([(5, 1)], 7, 4, (0, 0, [])), ([(5, 1)], 7, 5, (0, 0, []))], []), [], [(44, 3)], 0, 0)
def rm_223 : Room := { frames := 3, cells := 0, slots := 0, locals := 71 }
def e_223 : qEn := (k_13_8, (t_fg12, t_fp12, t_cn12), (t_na12, t_at12), (t_kI12, t_kL12, t_ob12, t_cp12), [(.invokestatic 76, ct_95), (.invokestatic 69, ct_208), (.invokevirtual 82, ct_18)], (q_k (-1), [], []))
def ts_223 : List (qTm × qCert × List qHx) := [((0, (6, [[(0, 2147483648), (2, 1)], [(0, (-2)), (2, (-1))]], [(0, (2, 44, [(1, 1)])), (1, (0, 0, [(0, 2)])), (2, (0, 0, [(2, 1)]))], [], [([(1, 1)], 44, 0, (2, 42, [(3, 1)])), ([(3, 1)], 42, 1, (2, 8, [(4, 1)])), ([(3, 1)], 42, 0, (2, 7, [(5, 1)])), ([(5, 1)], 7, 0, (0, 0, [])), ([(5, 1)], 7, 1, (0, 0, [])), ([(5, 1)], 7, 2, (0, 0, [])), ([(5, 1)], 7, 3, (0, 0, [])), ([(5, 1)], 7, 4, (0, 0, [])), ([(5, 1)], 7, 5, (0, 0, [])), ([(1, 1)], 44, 3, (0, 0, []))], 0, 0), []), (1, []), [(0, 0, [], [], []), (0, 0, [], [], [0]), (0, 1, [(1, [])], [], []), (2, 0, [(1, [(3, 1)])], [], []), (0, 0, [], [], []), (0, 0, [], [], []), (0, 0, [], [], []), (0, 0, [], [], []), (0, 1, [], [], [0]), (0, 1, [], [], [2]), (0, 0, [], [], []), (0, 1, [], [], [5]), (0, 0, [], [], []), (0, 1, [(1, []), (1, [])], [], []), (0, 0, [], [], []), (0, 0, [(1, [(0, 1)]), (1, [(1, 1)])], [[(2, 1)]], [1]), (0, 1, [(1, [])], [], []), (2, 0, [(1, [(3, 1)])], [], []), (0, 0, [], [], []), (0, 0, [], [], []), (0, 0, [], [[(1, 1)]], [2]), (5, 0, [], [], [])])]
set_option maxRecDepth 100000 in
theorem m_223 (l : Launch) : q_Met l vwCl n_TL n_NW n_KT y_13_8 (Cond.code y_13_8 b_13_8 3 (some .int) :: n_GW) rm_223 ct_223 := by
  refine q_method (E := e_223) ts_223 (by decide) rfl rfl rfl ?_ (by decide +kernel)
  intro C D tys htl hl hrm hm hml ho hts hnm hE
  have h : n_ctx C b_13_8 3 "BalanceCoderModel" D tys := ⟨htl, hm, hml, ho, fun w hw => hts w (List.mem_cons_of_mem _ hw), hE⟩
  refine ⟨⟨?_, ?_⟩, ⟨?_, ?_, ?_, ?_, ?_⟩, ⟨?_, ?_, ?_⟩, ⟨?_, ?_, ?_, ?_⟩, ?_⟩
  · intro i ins len hx; exact kd_13_8 (i, ins, len) hx
  · exact n_at hE.1
  · intro i ci f hx; exact c_fg12 h (i, ci, f) hx
  · intro i ci f hx; exact c_fp12 h (i, ci, f) hx
  · exact n_hap h
  · intro i ci n hx; exact c_cn12 h (i, ci, n) hx
  · exact n_hag htl
  · exact c_n112 h
  · exact c_n212 h
  · intro t ci hx; exact c_at12 h (t, ci) hx
  · intro i n hx; exact c_kI12 h (i, n) hx
  · intro i n hx; exact c_kL12 h (i, n) hx
  · exact c_ob12 h ⟨by rw [hrm]; decide, by rw [hrm]; decide⟩
  · exact c_cp12 h
  · intro ins ct hx
    have g0 : q_Call C b_13_8 D tys n_KT 3 (.invokestatic 76) ct_95 := q_callS n_NWk h.2.2.2.2.2 h.1 (m_95 C.2.1) ⟨h.2.1.1, h.2.1.2, h.2.2.1, h.2.2.2.1, h.2.2.2.2.1⟩ ⟨n_CB (y := y_13_4) (bytes := b_13_4) 1 h.2.2.2.2.1 n_w919 n_w917 n_w12 ⟨by decide, by decide, by decide +kernel⟩ rfl rfl ⟨by rw [hrm]; decide, by rw [hrm]; decide⟩, h.2.2.2.2.1 _ n_w918⟩ rfl
    have g1 : q_Call C b_13_8 D tys n_KT 3 (.invokestatic 69) ct_208 := q_callS n_NWk h.2.2.2.2.2 h.1 (m_208 C.2.1) ⟨h.2.1.1, h.2.1.2, h.2.2.1, h.2.2.2.1, h.2.2.2.2.1⟩ ⟨n_CB (y := y_13_3) (bytes := b_13_3) 3 h.2.2.2.2.1 n_w923 n_w921 n_w12 ⟨by decide, by decide, by decide +kernel⟩ rfl rfl ⟨by rw [hrm]; decide, by rw [hrm]; decide⟩, h.2.2.2.2.1 _ n_w922⟩ rfl
    have g2 : q_Call C b_13_8 D tys n_KT 3 (.invokevirtual 82) ct_18 := q_callV n_NWk h.2.2.2.2.2 h.1 (m_18 C.2.1) ⟨h.2.1.1, h.2.1.2, h.2.2.1, h.2.2.2.1, h.2.2.2.2.1⟩ ⟨n_CB (y := y_13_2) (bytes := b_13_2) 1 h.2.2.2.2.1 n_w928 n_w925 n_w12 ⟨by decide, by decide, by decide +kernel⟩ rfl rfl ⟨by rw [hrm]; decide, by rw [hrm]; decide⟩, h.2.2.2.2.1 _ n_w927, h.2.2.2.2.1 _ n_s27⟩ (Cn := RX12) ⟨44, 12, _, _, _, _, TX12, 31, rfl, rfl, rfl⟩ rfl
    have all : ∀ x ∈ [((.invokestatic 76 : Instr), ct_95), ((.invokestatic 69 : Instr), ct_208), ((.invokevirtual 82 : Instr), ct_18)], q_Call C b_13_8 D tys n_KT 3 x.1 x.2 := (n_mem2 (g0) (n_mem2 (g1) (n_mem2 (g2) n_mem0)))
    exact all (ins, ct) hx
def ct_224 : qCt := ((16, [], [(2, 40, [(1, 1)]), (0, 0, [(0, 2)]), (0, 0, [(0, (-1))])], [([(1, 1)], 40, 7, (0, 0, [])), ([(1, 1)], 40, 0, (2, 38, [(2, 1)])), ([(2, 1)], 38, 0, (2, 17, [(3, 1)])), ([(3, 1)], 17, 5, (2, 32, [(4, 1)])), ([(4, 1)], 32, 1, (0, 0, [])), ([(4, 1)], 32, 0, (2, 0, [(5, 1)])), ([(3, 1)], 17, 4, (2, 32, [(6, 1)])), ([(6, 1)], 32, 1, (0, 0, [])), ([(6, 1)], 32, 0, (2, 0, [(7, 1)])), ([(3, 1)], 17, 3, (2, 32, [(8, 1)])), ([(8, 1)], 32, 1, (0, 0, [])), ([(8, 1)], 32, 0, (2, 0, [(9, 1)])), ([(3, 1)], 17, 2, (2, 32, [(10, 1)])), ([(10, 1)], 32, 1, (0, 0, [])), ([(10, 1)], 32, 0, (2, 0, [(11, 1)])), ([(3, 1)], 17, 1, (2, 32, [(12, 1)])), ([(12, 1)], 32, 1, (0, 0, [])), ([(12, 1)], 32, 0, (2, 0, [(13, 1)])), ([(3, 1)], 17, 0, (2, 32, [(14, 1)])), ([(14, 1)], 32, 1, (0, 0, [])), ([(14, 1)], 32, 0, (2, 0, [(15, 1)]))]), (16, [], [(0, 0, [])], [([(1, 1)], 40, 0, (2, 38, [(2, 1)])), ([(2, 1)], 38, 0, (2, 17, [(3, 1)])), ([(3, 1)], 17, 5, (2, 32, [(4, 1)])), ([(3, 1)], 17, 4, (2, 32, [(6, 1)])), ([(3, 1)], 17, 3, (2, 32, [(8, 1)])), ([(3, 1)], 17, 2, (2, 32, [(10, 1)])), ([(3, 1)], 17, 1, (2, 32, [(12, 1)])), ([(3, 1)], 17, 0, (2, 32, [(14, 1)])), ([(1, 1)], 40, 7, (0, 0, [])), ([(4, 1)], 32, 1, (0, 0, [])), ([(4, 1)], 32, 0, (2, 0, [(5, 1)])), ([(6, 1)], 32, 1, (0, 0, [])), ([(6, 1)], 32, 0, (2, 0, [(7, 1)])), ([(8, 1)], 32, 1, (0, 0, [])), ([(8, 1)], 32, 0, (2, 0, [(9, 1)])), ([(10, 1)], 32, 1, (0, 0, [])), ([(10, 1)], 32, 0, (2, 0, [(11, 1)])), ([(12, 1)], 32, 1, (0, 0, [])), ([(12, 1)], 32, 0, (2, 0, [(13, 1)])), ([(14, 1)], 32, 1, (0, 0, [])), ([(14, 1)], 32, 0, (2, 0, [(15, 1)]))], []), [], [], 0, 0)
def rm_224 : Room := { frames := 2, cells := 0, slots := 0, locals := 47 }
def e_224 : qEn := (k_1_4, (t_fg10, t_fp10, t_cn10), (t_na10, t_at10), (t_kI10, t_kL10, t_ob10, t_cp10), [(.invokevirtual 51, ct_92)], (q_k (-1), [], []))
def ts_224 : List (qTm × qCert × List qHx) := [((0, (16, [], [(0, (2, 40, [(1, 1)])), (1, (0, 0, [(0, 2)])), (2, (0, 0, [(0, (-1))]))], [], [([(1, 1)], 40, 7, (0, 0, [])), ([(1, 1)], 40, 0, (2, 38, [(2, 1)])), ([(2, 1)], 38, 0, (2, 17, [(3, 1)])), ([(3, 1)], 17, 5, (2, 32, [(4, 1)])), ([(4, 1)], 32, 1, (0, 0, [])), ([(4, 1)], 32, 0, (2, 0, [(5, 1)])), ([(3, 1)], 17, 4, (2, 32, [(6, 1)])), ([(6, 1)], 32, 1, (0, 0, [])), ([(6, 1)], 32, 0, (2, 0, [(7, 1)])), ([(3, 1)], 17, 3, (2, 32, [(8, 1)])), ([(8, 1)], 32, 1, (0, 0, [])), ([(8, 1)], 32, 0, (2, 0, [(9, 1)])), ([(3, 1)], 17, 2, (2, 32, [(10, 1)])), ([(10, 1)], 32, 1, (0, 0, [])), ([(10, 1)], 32, 0, (2, 0, [(11, 1)])), ([(3, 1)], 17, 1, (2, 32, [(12, 1)])), ([(12, 1)], 32, 1, (0, 0, [])), ([(12, 1)], 32, 0, (2, 0, [(13, 1)])), ([(3, 1)], 17, 0, (2, 32, [(14, 1)])), ([(14, 1)], 32, 1, (0, 0, [])), ([(14, 1)], 32, 0, (2, 0, [(15, 1)]))], 0, 0), []), (1, []), [(0, 0, [], [], []), (0, 0, [], [], []), (0, 0, [], [[(1, 1)], [(2, 1)], [(3, 1)], [(4, 1)], [(6, 1)], [(8, 1)], [(10, 1)], [(12, 1)], [(14, 1)]], [0]), (0, 0, [], [], []), (0, 0, [], [], []), (0, 0, [], [], []), (0, 0, [], [], []), (0, 0, [], [], []), (0, 0, [], [], []), (2, 0, [(1, [(0, 1)])], [], []), (0, 0, [], [], []), (0, 0, [], [], []), (0, 1, [], [], [21]), (0, 0, [], [], []), (0, 0, [], [], []), (0, 0, [], [], []), (0, 1, [(1, [])], [], []), (2, 0, [(1, [(2, 1)])], [], []), (0, 0, [], [], []), (0, 1, [], [], [21]), (0, 0, [], [], []), (5, 0, [], [], []), (2, 0, [(1, [(1, 1)])], [], [])])]
set_option maxRecDepth 100000 in
theorem m_224 (l : Launch) : q_Met l vwCl n_TL n_NW n_KT y_1_4 (Cond.code y_1_4 b_1_4 4 (some .int) :: n_GW) rm_224 ct_224 := by
  refine q_method (E := e_224) ts_224 (by decide) rfl rfl rfl ?_ (by decide +kernel)
  intro C D tys htl hl hrm hm hml ho hts hnm hE
  have h : n_ctx C b_1_4 4 "BalanceCoder" D tys := ⟨htl, hm, hml, ho, fun w hw => hts w (List.mem_cons_of_mem _ hw), hE⟩
  refine ⟨⟨?_, ?_⟩, ⟨?_, ?_, ?_, ?_, ?_⟩, ⟨?_, ?_, ?_⟩, ⟨?_, ?_, ?_, ?_⟩, ?_⟩
  · intro i ins len hx; exact kd_1_4 (i, ins, len) hx
  · exact n_at hE.1
  · intro i ci f hx; exact c_fg10 h (i, ci, f) hx
  · intro i ci f hx; exact c_fp10 h (i, ci, f) hx
  · exact n_hap h
  · intro i ci n hx; exact c_cn10 h (i, ci, n) hx
  · exact n_hag htl
  · exact c_n110 h
  · exact c_n210 h
  · intro t ci hx; exact c_at10 h (t, ci) hx
  · intro i n hx; exact c_kI10 h (i, n) hx
  · intro i n hx; exact c_kL10 h (i, n) hx
  · exact c_ob10 h ⟨by rw [hrm]; decide, by rw [hrm]; decide⟩
  · exact c_cp10 h
  · intro ins ct hx
    have g0 : q_Call C b_1_4 D tys n_KT 4 (.invokevirtual 51) ct_92 := q_callV n_NWk h.2.2.2.2.2 h.1 (m_92 C.2.1) ⟨h.2.1.1, h.2.1.2, h.2.2.1, h.2.2.2.1, h.2.2.2.2.1⟩ ⟨n_CB (y := y_1_29) (bytes := b_1_29) 1 h.2.2.2.2.1 n_w305 n_w302 n_w1 ⟨by decide, by decide, by decide +kernel⟩ rfl rfl ⟨by rw [hrm]; decide, by rw [hrm]; decide⟩, h.2.2.2.2.1 _ n_w304, h.2.2.2.2.1 _ n_s0⟩ (Cn := RX10) ⟨40, 10, _, _, _, _, TX10, 8, rfl, rfl, rfl⟩ rfl
    have all : ∀ x ∈ [((.invokevirtual 51 : Instr), ct_92)], q_Call C b_1_4 D tys n_KT 4 x.1 x.2 := (n_mem2 (g0) n_mem0)
    exact all (ins, ct) hx
def ct_225 : qCt := ((5, [], [(2, 44, [(1, 1)]), (0, 0, [(0, 2)]), (0, 0, [(0, (-1))])], [([(1, 1)], 44, 0, (2, 42, [(2, 1)])), ([(2, 1)], 42, 1, (2, 8, [(3, 1)])), ([(2, 1)], 42, 0, (2, 7, [(4, 1)])), ([(4, 1)], 7, 0, (0, 0, [])), ([(4, 1)], 7, 1, (0, 0, [])), ([(4, 1)], 7, 2, (0, 0, [])), ([(4, 1)], 7, 3, (0, 0, [])), ([(4, 1)], 7, 4, (0, 0, [])), ([(4, 1)], 7, 5, (0, 0, [])), ([(1, 1)], 44, 3, (0, 0, []))]), (5, [], [(0, 0, [])], [([(1, 1)], 44, 0, (2, 42, [(2, 1)])), ([(2, 1)], 42, 1, (2, 8, [(3, 1)])), ([(2, 1)], 42, 0, (2, 7, [(4, 1)])), ([(4, 1)], 7, 0, (0, 0, [])), ([(4, 1)], 7, 1, (0, 0, [])), ([(4, 1)], 7, 2, (0, 0, [])), ([(4, 1)], 7, 3, (0, 0, [])), ([(4, 1)], 7, 4, (0, 0, [])), ([(4, 1)], 7, 5, (0, 0, [])), ([(1, 1)], 44, 3, (0, 0, []))], []), [], [], 0, 0)
def rm_225 : Room := { frames := 3, cells := 0, slots := 0, locals := 71 }
def e_225 : qEn := (k_13_8, (t_fg12, t_fp12, t_cn12), (t_na12, t_at12), (t_kI12, t_kL12, t_ob12, t_cp12), [(.invokestatic 76, ct_95), (.invokestatic 69, ct_211)], (q_k (-1), [], []))
def ts_225 : List (qTm × qCert × List qHx) := [((0, (5, [], [(0, (2, 44, [(1, 1)])), (1, (0, 0, [(0, 2)])), (2, (0, 0, [(0, (-1))]))], [], [([(1, 1)], 44, 0, (2, 42, [(2, 1)])), ([(2, 1)], 42, 1, (2, 8, [(3, 1)])), ([(2, 1)], 42, 0, (2, 7, [(4, 1)])), ([(4, 1)], 7, 0, (0, 0, [])), ([(4, 1)], 7, 1, (0, 0, [])), ([(4, 1)], 7, 2, (0, 0, [])), ([(4, 1)], 7, 3, (0, 0, [])), ([(4, 1)], 7, 4, (0, 0, [])), ([(4, 1)], 7, 5, (0, 0, [])), ([(1, 1)], 44, 3, (0, 0, []))], 0, 0), []), (1, []), [(0, 0, [], [], []), (0, 0, [], [], [0]), (0, 1, [(1, [])], [], []), (2, 0, [(1, [(1, 1)])], [], []), (0, 0, [], [], []), (0, 0, [], [], []), (0, 0, [], [], []), (0, 0, [], [], []), (0, 1, [], [], [0]), (0, 1, [], [], [2]), (0, 0, [], [], []), (0, 1, [], [], [5]), (0, 0, [], [], []), (0, 1, [(1, []), (1, [])], [], []), (0, 0, [], [], []), (0, 0, [], [], [1]), (0, 1, [(1, [])], [], []), (0, 0, [], [], []), (0, 0, [], [], []), (2, 0, [(1, [(2, 1)])], [], []), (0, 0, [], [], []), (0, 1, [], [], [0]), (0, 1, [], [], [2]), (0, 0, [], [], []), (0, 1, [], [], [5]), (0, 0, [], [], []), (5, 0, [], [], []), (2, 0, [(1, [(2, 1)])], [], [])])]
set_option maxRecDepth 100000 in
theorem m_225 (l : Launch) : q_Met l vwCl n_TL n_NW n_KT y_13_8 (Cond.code y_13_8 b_13_8 3 (some .int) :: n_GW) rm_225 ct_225 := by
  refine q_method (E := e_225) ts_225 (by decide) rfl rfl rfl ?_ (by decide +kernel)
  intro C D tys htl hl hrm hm hml ho hts hnm hE
  have h : n_ctx C b_13_8 3 "BalanceCoderModel" D tys := ⟨htl, hm, hml, ho, fun w hw => hts w (List.mem_cons_of_mem _ hw), hE⟩
  refine ⟨⟨?_, ?_⟩, ⟨?_, ?_, ?_, ?_, ?_⟩, ⟨?_, ?_, ?_⟩, ⟨?_, ?_, ?_, ?_⟩, ?_⟩
  · intro i ins len hx; exact kd_13_8 (i, ins, len) hx
  · exact n_at hE.1
  · intro i ci f hx; exact c_fg12 h (i, ci, f) hx
  · intro i ci f hx; exact c_fp12 h (i, ci, f) hx
  · exact n_hap h
  · intro i ci n hx; exact c_cn12 h (i, ci, n) hx
  · exact n_hag htl
  · exact c_n112 h
  · exact c_n212 h
  · intro t ci hx; exact c_at12 h (t, ci) hx
  · intro i n hx; exact c_kI12 h (i, n) hx
  · intro i n hx; exact c_kL12 h (i, n) hx
  · exact c_ob12 h ⟨by rw [hrm]; decide, by rw [hrm]; decide⟩
  · exact c_cp12 h
  · intro ins ct hx
    have g0 : q_Call C b_13_8 D tys n_KT 3 (.invokestatic 76) ct_95 := q_callS n_NWk h.2.2.2.2.2 h.1 (m_95 C.2.1) ⟨h.2.1.1, h.2.1.2, h.2.2.1, h.2.2.2.1, h.2.2.2.2.1⟩ ⟨n_CB (y := y_13_4) (bytes := b_13_4) 1 h.2.2.2.2.1 n_w919 n_w917 n_w12 ⟨by decide, by decide, by decide +kernel⟩ rfl rfl ⟨by rw [hrm]; decide, by rw [hrm]; decide⟩, h.2.2.2.2.1 _ n_w918⟩ rfl
    have g1 : q_Call C b_13_8 D tys n_KT 3 (.invokestatic 69) ct_211 := q_callS n_NWk h.2.2.2.2.2 h.1 (m_211 C.2.1) ⟨h.2.1.1, h.2.1.2, h.2.2.1, h.2.2.2.1, h.2.2.2.2.1⟩ ⟨n_CB (y := y_13_3) (bytes := b_13_3) 3 h.2.2.2.2.1 n_w923 n_w921 n_w12 ⟨by decide, by decide, by decide +kernel⟩ rfl rfl ⟨by rw [hrm]; decide, by rw [hrm]; decide⟩, h.2.2.2.2.1 _ n_w922⟩ rfl
    have all : ∀ x ∈ [((.invokestatic 76 : Instr), ct_95), ((.invokestatic 69 : Instr), ct_211)], q_Call C b_13_8 D tys n_KT 3 x.1 x.2 := (n_mem2 (g0) (n_mem2 (g1) n_mem0))
    exact all (ins, ct) hx
def ct_226 : qCt := ((17, [[(2, 1)], [(0, 2147483647), (2, (-1))]], [(2, 40, [(1, 1)]), (0, 0, [(0, 2)]), (0, 0, [(2, 1)])], [([(1, 1)], 40, 7, (0, 0, [])), ([(1, 1)], 40, 0, (2, 38, [(3, 1)])), ([(3, 1)], 38, 0, (2, 17, [(4, 1)])), ([(4, 1)], 17, 5, (2, 32, [(5, 1)])), ([(5, 1)], 32, 1, (0, 0, [])), ([(5, 1)], 32, 0, (2, 0, [(6, 1)])), ([(4, 1)], 17, 4, (2, 32, [(7, 1)])), ([(7, 1)], 32, 1, (0, 0, [])), ([(7, 1)], 32, 0, (2, 0, [(8, 1)])), ([(4, 1)], 17, 3, (2, 32, [(9, 1)])), ([(9, 1)], 32, 1, (0, 0, [])), ([(9, 1)], 32, 0, (2, 0, [(10, 1)])), ([(4, 1)], 17, 2, (2, 32, [(11, 1)])), ([(11, 1)], 32, 1, (0, 0, [])), ([(11, 1)], 32, 0, (2, 0, [(12, 1)])), ([(4, 1)], 17, 1, (2, 32, [(13, 1)])), ([(13, 1)], 32, 1, (0, 0, [])), ([(13, 1)], 32, 0, (2, 0, [(14, 1)])), ([(4, 1)], 17, 0, (2, 32, [(15, 1)])), ([(15, 1)], 32, 1, (0, 0, [])), ([(15, 1)], 32, 0, (2, 0, [(16, 1)]))]), (17, [], [(0, 0, [(0, (-1))])], [([(1, 1)], 40, 7, (0, 0, [(0, 1)])), ([(1, 1)], 40, 0, (2, 38, [(3, 1)])), ([(3, 1)], 38, 0, (2, 17, [(4, 1)])), ([(4, 1)], 17, 5, (2, 32, [(5, 1)])), ([(4, 1)], 17, 4, (2, 32, [(7, 1)])), ([(4, 1)], 17, 3, (2, 32, [(9, 1)])), ([(4, 1)], 17, 2, (2, 32, [(11, 1)])), ([(4, 1)], 17, 1, (2, 32, [(13, 1)])), ([(4, 1)], 17, 0, (2, 32, [(15, 1)])), ([(5, 1)], 32, 1, (0, 0, [])), ([(5, 1)], 32, 0, (2, 0, [(6, 1)])), ([(7, 1)], 32, 1, (0, 0, [])), ([(7, 1)], 32, 0, (2, 0, [(8, 1)])), ([(9, 1)], 32, 1, (0, 0, [])), ([(9, 1)], 32, 0, (2, 0, [(10, 1)])), ([(11, 1)], 32, 1, (0, 0, [])), ([(11, 1)], 32, 0, (2, 0, [(12, 1)])), ([(13, 1)], 32, 1, (0, 0, [])), ([(13, 1)], 32, 0, (2, 0, [(14, 1)])), ([(15, 1)], 32, 1, (0, 0, [])), ([(15, 1)], 32, 0, (2, 0, [(16, 1)]))], []), [], [(40, 7)], 0, 0)
def rm_226 : Room := { frames := 2, cells := 0, slots := 0, locals := 47 }
def e_226 : qEn := (k_1_4, (t_fg10, t_fp10, t_cn10), (t_na10, t_at10), (t_kI10, t_kL10, t_ob10, t_cp10), [(.invokevirtual 51, ct_92), (.invokevirtual 55, ct_14)], (q_k (-1), [], []))
def ts_226 : List (qTm × qCert × List qHx) := [((0, (17, [[(2, 1)], [(0, 2147483647), (2, (-1))]], [(0, (2, 40, [(1, 1)])), (1, (0, 0, [(0, 2)])), (2, (0, 0, [(2, 1)]))], [], [([(1, 1)], 40, 7, (0, 0, [])), ([(1, 1)], 40, 0, (2, 38, [(3, 1)])), ([(3, 1)], 38, 0, (2, 17, [(4, 1)])), ([(4, 1)], 17, 5, (2, 32, [(5, 1)])), ([(5, 1)], 32, 1, (0, 0, [])), ([(5, 1)], 32, 0, (2, 0, [(6, 1)])), ([(4, 1)], 17, 4, (2, 32, [(7, 1)])), ([(7, 1)], 32, 1, (0, 0, [])), ([(7, 1)], 32, 0, (2, 0, [(8, 1)])), ([(4, 1)], 17, 3, (2, 32, [(9, 1)])), ([(9, 1)], 32, 1, (0, 0, [])), ([(9, 1)], 32, 0, (2, 0, [(10, 1)])), ([(4, 1)], 17, 2, (2, 32, [(11, 1)])), ([(11, 1)], 32, 1, (0, 0, [])), ([(11, 1)], 32, 0, (2, 0, [(12, 1)])), ([(4, 1)], 17, 1, (2, 32, [(13, 1)])), ([(13, 1)], 32, 1, (0, 0, [])), ([(13, 1)], 32, 0, (2, 0, [(14, 1)])), ([(4, 1)], 17, 0, (2, 32, [(15, 1)])), ([(15, 1)], 32, 1, (0, 0, [])), ([(15, 1)], 32, 0, (2, 0, [(16, 1)]))], 0, 0), []), (1, []), [(0, 0, [], [], []), (0, 0, [], [], []), (0, 0, [], [[(1, 1)], [(3, 1)], [(4, 1)], [(5, 1)], [(7, 1)], [(9, 1)], [(11, 1)], [(13, 1)], [(15, 1)]], [0]), (0, 0, [], [], []), (0, 0, [], [], []), (0, 0, [], [], []), (0, 0, [], [], []), (0, 0, [], [], []), (0, 0, [], [], []), (2, 0, [(1, [(0, 1), (2, 1)])], [], []), (0, 0, [], [], []), (0, 0, [], [], []), (0, 1, [], [], [21]), (0, 0, [], [], []), (2, 0, [(1, [(0, 1), (3, 1)])], [], []), (0, 0, [], [], []), (0, 0, [], [], []), (0, 0, [], [[(1, 1)]], [1]), (5, 0, [], [], [])])]
set_option maxRecDepth 100000 in
theorem m_226 (l : Launch) : q_Met l vwCl n_TL n_NW n_KT y_1_4 (Cond.code y_1_4 b_1_4 4 (some .int) :: n_GW) rm_226 ct_226 := by
  refine q_method (E := e_226) ts_226 (by decide) rfl rfl rfl ?_ (by decide +kernel)
  intro C D tys htl hl hrm hm hml ho hts hnm hE
  have h : n_ctx C b_1_4 4 "BalanceCoder" D tys := ⟨htl, hm, hml, ho, fun w hw => hts w (List.mem_cons_of_mem _ hw), hE⟩
  refine ⟨⟨?_, ?_⟩, ⟨?_, ?_, ?_, ?_, ?_⟩, ⟨?_, ?_, ?_⟩, ⟨?_, ?_, ?_, ?_⟩, ?_⟩
  · intro i ins len hx; exact kd_1_4 (i, ins, len) hx
  · exact n_at hE.1
  · intro i ci f hx; exact c_fg10 h (i, ci, f) hx
  · intro i ci f hx; exact c_fp10 h (i, ci, f) hx
  · exact n_hap h
  · intro i ci n hx; exact c_cn10 h (i, ci, n) hx
  · exact n_hag htl
  · exact c_n110 h
  · exact c_n210 h
  · intro t ci hx; exact c_at10 h (t, ci) hx
  · intro i n hx; exact c_kI10 h (i, n) hx
  · intro i n hx; exact c_kL10 h (i, n) hx
  · exact c_ob10 h ⟨by rw [hrm]; decide, by rw [hrm]; decide⟩
  · exact c_cp10 h
  · intro ins ct hx
    have g0 : q_Call C b_1_4 D tys n_KT 4 (.invokevirtual 51) ct_92 := q_callV n_NWk h.2.2.2.2.2 h.1 (m_92 C.2.1) ⟨h.2.1.1, h.2.1.2, h.2.2.1, h.2.2.2.1, h.2.2.2.2.1⟩ ⟨n_CB (y := y_1_29) (bytes := b_1_29) 1 h.2.2.2.2.1 n_w305 n_w302 n_w1 ⟨by decide, by decide, by decide +kernel⟩ rfl rfl ⟨by rw [hrm]; decide, by rw [hrm]; decide⟩, h.2.2.2.2.1 _ n_w304, h.2.2.2.2.1 _ n_s0⟩ (Cn := RX10) ⟨40, 10, _, _, _, _, TX10, 8, rfl, rfl, rfl⟩ rfl
    have g1 : q_Call C b_1_4 D tys n_KT 4 (.invokevirtual 55) ct_14 := q_callV n_NWk h.2.2.2.2.2 h.1 (m_14 C.2.1) ⟨h.2.1.1, h.2.1.2, h.2.2.1, h.2.2.2.1, h.2.2.2.2.1⟩ ⟨n_CB (y := y_1_27) (bytes := b_1_27) 1 h.2.2.2.2.1 n_w309 n_w306 n_w1 ⟨by decide, by decide, by decide +kernel⟩ rfl rfl ⟨by rw [hrm]; decide, by rw [hrm]; decide⟩, h.2.2.2.2.1 _ n_w308, h.2.2.2.2.1 _ n_s1⟩ (Cn := RX10) ⟨40, 10, _, _, _, _, TX10, 8, rfl, rfl, rfl⟩ rfl
    have all : ∀ x ∈ [((.invokevirtual 51 : Instr), ct_92), ((.invokevirtual 55 : Instr), ct_14)], q_Call C b_1_4 D tys n_KT 4 x.1 x.2 := (n_mem2 (g0) (n_mem2 (g1) n_mem0))
    exact all (ins, ct) hx
def ct_227 : qCt := ((6, [[(2, 1)], [(0, 2147483647), (2, (-1))]], [(2, 44, [(1, 1)]), (0, 0, [(0, 2)]), (0, 0, [(2, 1)])], [([(1, 1)], 44, 0, (2, 42, [(3, 1)])), ([(3, 1)], 42, 1, (2, 8, [(4, 1)])), ([(3, 1)], 42, 0, (2, 7, [(5, 1)])), ([(5, 1)], 7, 0, (0, 0, [])), ([(5, 1)], 7, 1, (0, 0, [])), ([(5, 1)], 7, 2, (0, 0, [])), ([(5, 1)], 7, 3, (0, 0, [])), ([(5, 1)], 7, 4, (0, 0, [])), ([(5, 1)], 7, 5, (0, 0, [])), ([(1, 1)], 44, 3, (0, 0, []))]), (6, [], [(0, 0, [(0, (-1))])], [([(1, 1)], 44, 3, (0, 0, [(0, 1)])), ([(1, 1)], 44, 0, (2, 42, [(3, 1)])), ([(3, 1)], 42, 1, (2, 8, [(4, 1)])), ([(3, 1)], 42, 0, (2, 7, [(5, 1)])), ([(5, 1)], 7, 0, (0, 0, [])), ([(5, 1)], 7, 1, (0, 0, [])), ([(5, 1)], 7, 2, (0, 0, [])), ([(5, 1)], 7, 3, (0, 0, [])), ([(5, 1)], 7, 4, (0, 0, [])), ([(5, 1)], 7, 5, (0, 0, []))], []), [], [(44, 3)], 0, 0)
def rm_227 : Room := { frames := 3, cells := 0, slots := 0, locals := 71 }
def e_227 : qEn := (k_13_8, (t_fg12, t_fp12, t_cn12), (t_na12, t_at12), (t_kI12, t_kL12, t_ob12, t_cp12), [(.invokestatic 76, ct_95), (.invokestatic 69, ct_214), (.invokevirtual 82, ct_18)], (q_k (-1), [], []))
def ts_227 : List (qTm × qCert × List qHx) := [((0, (6, [[(2, 1)], [(0, 2147483647), (2, (-1))]], [(0, (2, 44, [(1, 1)])), (1, (0, 0, [(0, 2)])), (2, (0, 0, [(2, 1)]))], [], [([(1, 1)], 44, 0, (2, 42, [(3, 1)])), ([(3, 1)], 42, 1, (2, 8, [(4, 1)])), ([(3, 1)], 42, 0, (2, 7, [(5, 1)])), ([(5, 1)], 7, 0, (0, 0, [])), ([(5, 1)], 7, 1, (0, 0, [])), ([(5, 1)], 7, 2, (0, 0, [])), ([(5, 1)], 7, 3, (0, 0, [])), ([(5, 1)], 7, 4, (0, 0, [])), ([(5, 1)], 7, 5, (0, 0, [])), ([(1, 1)], 44, 3, (0, 0, []))], 0, 0), []), (1, []), [(0, 0, [], [], []), (0, 0, [], [], [0]), (0, 1, [(1, [])], [], []), (2, 0, [(1, [(3, 1)])], [], []), (0, 0, [], [], []), (0, 0, [], [], []), (0, 0, [], [], []), (0, 0, [], [], []), (0, 1, [], [], [0]), (0, 1, [], [], [2]), (0, 0, [], [], []), (0, 1, [], [], [5]), (0, 0, [], [], []), (0, 1, [(1, []), (1, [])], [], []), (0, 0, [], [], []), (0, 0, [(1, [(0, 1)]), (1, [(1, 1)])], [[(2, 1)]], [1]), (0, 1, [(1, [])], [], []), (2, 0, [(1, [(3, 1)])], [], []), (0, 0, [], [], []), (0, 0, [], [], []), (0, 0, [], [[(1, 1)]], [2]), (5, 0, [], [], [])])]
set_option maxRecDepth 100000 in
theorem m_227 (l : Launch) : q_Met l vwCl n_TL n_NW n_KT y_13_8 (Cond.code y_13_8 b_13_8 3 (some .int) :: n_GW) rm_227 ct_227 := by
  refine q_method (E := e_227) ts_227 (by decide) rfl rfl rfl ?_ (by decide +kernel)
  intro C D tys htl hl hrm hm hml ho hts hnm hE
  have h : n_ctx C b_13_8 3 "BalanceCoderModel" D tys := ⟨htl, hm, hml, ho, fun w hw => hts w (List.mem_cons_of_mem _ hw), hE⟩
  refine ⟨⟨?_, ?_⟩, ⟨?_, ?_, ?_, ?_, ?_⟩, ⟨?_, ?_, ?_⟩, ⟨?_, ?_, ?_, ?_⟩, ?_⟩
  · intro i ins len hx; exact kd_13_8 (i, ins, len) hx
  · exact n_at hE.1
  · intro i ci f hx; exact c_fg12 h (i, ci, f) hx
  · intro i ci f hx; exact c_fp12 h (i, ci, f) hx
  · exact n_hap h
  · intro i ci n hx; exact c_cn12 h (i, ci, n) hx
  · exact n_hag htl
  · exact c_n112 h
  · exact c_n212 h
  · intro t ci hx; exact c_at12 h (t, ci) hx
  · intro i n hx; exact c_kI12 h (i, n) hx
  · intro i n hx; exact c_kL12 h (i, n) hx
  · exact c_ob12 h ⟨by rw [hrm]; decide, by rw [hrm]; decide⟩
  · exact c_cp12 h
  · intro ins ct hx
    have g0 : q_Call C b_13_8 D tys n_KT 3 (.invokestatic 76) ct_95 := q_callS n_NWk h.2.2.2.2.2 h.1 (m_95 C.2.1) ⟨h.2.1.1, h.2.1.2, h.2.2.1, h.2.2.2.1, h.2.2.2.2.1⟩ ⟨n_CB (y := y_13_4) (bytes := b_13_4) 1 h.2.2.2.2.1 n_w919 n_w917 n_w12 ⟨by decide, by decide, by decide +kernel⟩ rfl rfl ⟨by rw [hrm]; decide, by rw [hrm]; decide⟩, h.2.2.2.2.1 _ n_w918⟩ rfl
    have g1 : q_Call C b_13_8 D tys n_KT 3 (.invokestatic 69) ct_214 := q_callS n_NWk h.2.2.2.2.2 h.1 (m_214 C.2.1) ⟨h.2.1.1, h.2.1.2, h.2.2.1, h.2.2.2.1, h.2.2.2.2.1⟩ ⟨n_CB (y := y_13_3) (bytes := b_13_3) 3 h.2.2.2.2.1 n_w923 n_w921 n_w12 ⟨by decide, by decide, by decide +kernel⟩ rfl rfl ⟨by rw [hrm]; decide, by rw [hrm]; decide⟩, h.2.2.2.2.1 _ n_w922⟩ rfl
    have g2 : q_Call C b_13_8 D tys n_KT 3 (.invokevirtual 82) ct_18 := q_callV n_NWk h.2.2.2.2.2 h.1 (m_18 C.2.1) ⟨h.2.1.1, h.2.1.2, h.2.2.1, h.2.2.2.1, h.2.2.2.2.1⟩ ⟨n_CB (y := y_13_2) (bytes := b_13_2) 1 h.2.2.2.2.1 n_w928 n_w925 n_w12 ⟨by decide, by decide, by decide +kernel⟩ rfl rfl ⟨by rw [hrm]; decide, by rw [hrm]; decide⟩, h.2.2.2.2.1 _ n_w927, h.2.2.2.2.1 _ n_s27⟩ (Cn := RX12) ⟨44, 12, _, _, _, _, TX12, 31, rfl, rfl, rfl⟩ rfl
    have all : ∀ x ∈ [((.invokestatic 76 : Instr), ct_95), ((.invokestatic 69 : Instr), ct_214), ((.invokevirtual 82 : Instr), ct_18)], q_Call C b_13_8 D tys n_KT 3 x.1 x.2 := (n_mem2 (g0) (n_mem2 (g1) (n_mem2 (g2) n_mem0)))
    exact all (ins, ct) hx
def ct_228 : qCt := ((17, [[(0, 2147483648), (2, 1)], [(0, (-2)), (2, (-1))]], [(2, 40, [(1, 1)]), (0, 0, [(0, 3)]), (0, 0, [(2, 1)])], [([(1, 1)], 40, 7, (0, 0, [])), ([(1, 1)], 40, 0, (2, 38, [(3, 1)])), ([(3, 1)], 38, 0, (2, 17, [(4, 1)])), ([(4, 1)], 17, 5, (2, 32, [(5, 1)])), ([(5, 1)], 32, 1, (0, 0, [])), ([(5, 1)], 32, 0, (2, 0, [(6, 1)])), ([(4, 1)], 17, 4, (2, 32, [(7, 1)])), ([(7, 1)], 32, 1, (0, 0, [])), ([(7, 1)], 32, 0, (2, 0, [(8, 1)])), ([(4, 1)], 17, 3, (2, 32, [(9, 1)])), ([(9, 1)], 32, 1, (0, 0, [])), ([(9, 1)], 32, 0, (2, 0, [(10, 1)])), ([(4, 1)], 17, 2, (2, 32, [(11, 1)])), ([(11, 1)], 32, 1, (0, 0, [])), ([(11, 1)], 32, 0, (2, 0, [(12, 1)])), ([(4, 1)], 17, 1, (2, 32, [(13, 1)])), ([(13, 1)], 32, 1, (0, 0, [])), ([(13, 1)], 32, 0, (2, 0, [(14, 1)])), ([(4, 1)], 17, 0, (2, 32, [(15, 1)])), ([(15, 1)], 32, 1, (0, 0, [])), ([(15, 1)], 32, 0, (2, 0, [(16, 1)]))]), (17, [], [(0, 0, [(0, (-1))])], [([(1, 1)], 40, 7, (0, 0, [(0, 1)])), ([(1, 1)], 40, 0, (2, 38, [(3, 1)])), ([(3, 1)], 38, 0, (2, 17, [(4, 1)])), ([(4, 1)], 17, 5, (2, 32, [(5, 1)])), ([(4, 1)], 17, 4, (2, 32, [(7, 1)])), ([(4, 1)], 17, 3, (2, 32, [(9, 1)])), ([(4, 1)], 17, 2, (2, 32, [(11, 1)])), ([(4, 1)], 17, 1, (2, 32, [(13, 1)])), ([(4, 1)], 17, 0, (2, 32, [(15, 1)])), ([(5, 1)], 32, 1, (0, 0, [])), ([(5, 1)], 32, 0, (2, 0, [(6, 1)])), ([(7, 1)], 32, 1, (0, 0, [])), ([(7, 1)], 32, 0, (2, 0, [(8, 1)])), ([(9, 1)], 32, 1, (0, 0, [])), ([(9, 1)], 32, 0, (2, 0, [(10, 1)])), ([(11, 1)], 32, 1, (0, 0, [])), ([(11, 1)], 32, 0, (2, 0, [(12, 1)])), ([(13, 1)], 32, 1, (0, 0, [])), ([(13, 1)], 32, 0, (2, 0, [(14, 1)])), ([(15, 1)], 32, 1, (0, 0, [])), ([(15, 1)], 32, 0, (2, 0, [(16, 1)]))], []), [], [(40, 7)], 0, 0)
def rm_228 : Room := { frames := 2, cells := 0, slots := 0, locals := 47 }
def e_228 : qEn := (k_1_4, (t_fg10, t_fp10, t_cn10), (t_na10, t_at10), (t_kI10, t_kL10, t_ob10, t_cp10), [(.invokevirtual 51, ct_115), (.invokevirtual 55, ct_14)], (q_k (-1), [], []))
def ts_228 : List (qTm × qCert × List qHx) := [((0, (17, [[(0, 2147483648), (2, 1)], [(0, (-2)), (2, (-1))]], [(0, (2, 40, [(1, 1)])), (1, (0, 0, [(0, 3)])), (2, (0, 0, [(2, 1)]))], [], [([(1, 1)], 40, 7, (0, 0, [])), ([(1, 1)], 40, 0, (2, 38, [(3, 1)])), ([(3, 1)], 38, 0, (2, 17, [(4, 1)])), ([(4, 1)], 17, 5, (2, 32, [(5, 1)])), ([(5, 1)], 32, 1, (0, 0, [])), ([(5, 1)], 32, 0, (2, 0, [(6, 1)])), ([(4, 1)], 17, 4, (2, 32, [(7, 1)])), ([(7, 1)], 32, 1, (0, 0, [])), ([(7, 1)], 32, 0, (2, 0, [(8, 1)])), ([(4, 1)], 17, 3, (2, 32, [(9, 1)])), ([(9, 1)], 32, 1, (0, 0, [])), ([(9, 1)], 32, 0, (2, 0, [(10, 1)])), ([(4, 1)], 17, 2, (2, 32, [(11, 1)])), ([(11, 1)], 32, 1, (0, 0, [])), ([(11, 1)], 32, 0, (2, 0, [(12, 1)])), ([(4, 1)], 17, 1, (2, 32, [(13, 1)])), ([(13, 1)], 32, 1, (0, 0, [])), ([(13, 1)], 32, 0, (2, 0, [(14, 1)])), ([(4, 1)], 17, 0, (2, 32, [(15, 1)])), ([(15, 1)], 32, 1, (0, 0, [])), ([(15, 1)], 32, 0, (2, 0, [(16, 1)]))], 0, 0), []), (1, []), [(0, 0, [], [], []), (0, 0, [], [], []), (0, 0, [], [[(1, 1)], [(3, 1)], [(4, 1)], [(5, 1)], [(7, 1)], [(9, 1)], [(11, 1)], [(13, 1)], [(15, 1)]], [0]), (0, 0, [], [], []), (0, 0, [], [], []), (0, 0, [], [], []), (0, 0, [], [], []), (0, 0, [], [], []), (0, 0, [], [], []), (0, 0, [], [], []), (0, 0, [], [], []), (0, 0, [], [[(1, 1)]], [1]), (5, 0, [], [], []), (2, 0, [(1, [(1, 1), (2, 1)])], [], [])])]
set_option maxRecDepth 100000 in
theorem m_228 (l : Launch) : q_Met l vwCl n_TL n_NW n_KT y_1_4 (Cond.code y_1_4 b_1_4 4 (some .int) :: n_GW) rm_228 ct_228 := by
  refine q_method (E := e_228) ts_228 (by decide) rfl rfl rfl ?_ (by decide +kernel)
  intro C D tys htl hl hrm hm hml ho hts hnm hE
  have h : n_ctx C b_1_4 4 "BalanceCoder" D tys := ⟨htl, hm, hml, ho, fun w hw => hts w (List.mem_cons_of_mem _ hw), hE⟩
  refine ⟨⟨?_, ?_⟩, ⟨?_, ?_, ?_, ?_, ?_⟩, ⟨?_, ?_, ?_⟩, ⟨?_, ?_, ?_, ?_⟩, ?_⟩
  · intro i ins len hx; exact kd_1_4 (i, ins, len) hx
  · exact n_at hE.1
  · intro i ci f hx; exact c_fg10 h (i, ci, f) hx
  · intro i ci f hx; exact c_fp10 h (i, ci, f) hx
  · exact n_hap h
  · intro i ci n hx; exact c_cn10 h (i, ci, n) hx
  · exact n_hag htl
  · exact c_n110 h
  · exact c_n210 h
  · intro t ci hx; exact c_at10 h (t, ci) hx
  · intro i n hx; exact c_kI10 h (i, n) hx
  · intro i n hx; exact c_kL10 h (i, n) hx
  · exact c_ob10 h ⟨by rw [hrm]; decide, by rw [hrm]; decide⟩
  · exact c_cp10 h
  · intro ins ct hx
    have g0 : q_Call C b_1_4 D tys n_KT 4 (.invokevirtual 51) ct_115 := q_callV n_NWk h.2.2.2.2.2 h.1 (m_115 C.2.1) ⟨h.2.1.1, h.2.1.2, h.2.2.1, h.2.2.2.1, h.2.2.2.2.1⟩ ⟨n_CB (y := y_1_29) (bytes := b_1_29) 1 h.2.2.2.2.1 n_w305 n_w302 n_w1 ⟨by decide, by decide, by decide +kernel⟩ rfl rfl ⟨by rw [hrm]; decide, by rw [hrm]; decide⟩, h.2.2.2.2.1 _ n_w304, h.2.2.2.2.1 _ n_s0⟩ (Cn := RX10) ⟨40, 10, _, _, _, _, TX10, 8, rfl, rfl, rfl⟩ rfl
    have g1 : q_Call C b_1_4 D tys n_KT 4 (.invokevirtual 55) ct_14 := q_callV n_NWk h.2.2.2.2.2 h.1 (m_14 C.2.1) ⟨h.2.1.1, h.2.1.2, h.2.2.1, h.2.2.2.1, h.2.2.2.2.1⟩ ⟨n_CB (y := y_1_27) (bytes := b_1_27) 1 h.2.2.2.2.1 n_w309 n_w306 n_w1 ⟨by decide, by decide, by decide +kernel⟩ rfl rfl ⟨by rw [hrm]; decide, by rw [hrm]; decide⟩, h.2.2.2.2.1 _ n_w308, h.2.2.2.2.1 _ n_s1⟩ (Cn := RX10) ⟨40, 10, _, _, _, _, TX10, 8, rfl, rfl, rfl⟩ rfl
    have all : ∀ x ∈ [((.invokevirtual 51 : Instr), ct_115), ((.invokevirtual 55 : Instr), ct_14)], q_Call C b_1_4 D tys n_KT 4 x.1 x.2 := (n_mem2 (g0) (n_mem2 (g1) n_mem0))
    exact all (ins, ct) hx
def ct_229 : qCt := ((6, [[(0, 2147483648), (2, 1)], [(0, (-2)), (2, (-1))]], [(2, 44, [(1, 1)]), (0, 0, [(0, 3)]), (0, 0, [(2, 1)])], [([(1, 1)], 44, 0, (2, 42, [(3, 1)])), ([(3, 1)], 42, 1, (2, 8, [(4, 1)])), ([(3, 1)], 42, 0, (2, 7, [(5, 1)])), ([(5, 1)], 7, 0, (0, 0, [])), ([(5, 1)], 7, 1, (0, 0, [])), ([(5, 1)], 7, 2, (0, 0, [])), ([(5, 1)], 7, 3, (0, 0, [])), ([(5, 1)], 7, 4, (0, 0, [])), ([(5, 1)], 7, 5, (0, 0, [])), ([(1, 1)], 44, 3, (0, 0, []))]), (6, [], [(0, 0, [(0, (-1))])], [([(1, 1)], 44, 3, (0, 0, [(0, 1)])), ([(1, 1)], 44, 0, (2, 42, [(3, 1)])), ([(3, 1)], 42, 1, (2, 8, [(4, 1)])), ([(3, 1)], 42, 0, (2, 7, [(5, 1)])), ([(5, 1)], 7, 0, (0, 0, [])), ([(5, 1)], 7, 1, (0, 0, [])), ([(5, 1)], 7, 2, (0, 0, [])), ([(5, 1)], 7, 3, (0, 0, [])), ([(5, 1)], 7, 4, (0, 0, [])), ([(5, 1)], 7, 5, (0, 0, []))], []), [], [(44, 3)], 0, 0)
def rm_229 : Room := { frames := 3, cells := 0, slots := 0, locals := 71 }
def e_229 : qEn := (k_13_8, (t_fg12, t_fp12, t_cn12), (t_na12, t_at12), (t_kI12, t_kL12, t_ob12, t_cp12), [(.invokestatic 76, ct_118), (.invokestatic 69, ct_208), (.invokevirtual 82, ct_18)], (q_k (-1), [], []))
def ts_229 : List (qTm × qCert × List qHx) := [((0, (6, [[(0, 2147483648), (2, 1)], [(0, (-2)), (2, (-1))]], [(0, (2, 44, [(1, 1)])), (1, (0, 0, [(0, 3)])), (2, (0, 0, [(2, 1)]))], [], [([(1, 1)], 44, 0, (2, 42, [(3, 1)])), ([(3, 1)], 42, 1, (2, 8, [(4, 1)])), ([(3, 1)], 42, 0, (2, 7, [(5, 1)])), ([(5, 1)], 7, 0, (0, 0, [])), ([(5, 1)], 7, 1, (0, 0, [])), ([(5, 1)], 7, 2, (0, 0, [])), ([(5, 1)], 7, 3, (0, 0, [])), ([(5, 1)], 7, 4, (0, 0, [])), ([(5, 1)], 7, 5, (0, 0, [])), ([(1, 1)], 44, 3, (0, 0, []))], 0, 0), []), (1, []), [(0, 0, [], [], []), (0, 0, [], [], [0]), (0, 1, [(1, [])], [], []), (2, 0, [(1, [(3, 1)])], [], []), (0, 0, [], [], []), (0, 0, [], [], []), (0, 0, [], [], []), (0, 0, [], [], []), (0, 1, [], [], [0]), (0, 1, [], [], [2]), (0, 0, [], [], []), (0, 1, [], [], [6]), (0, 0, [], [], []), (0, 1, [(1, []), (1, [])], [], []), (0, 0, [], [], []), (0, 0, [(1, [(0, 1)]), (1, [(1, 1)])], [[(2, 1)]], [1]), (0, 1, [(1, [])], [], []), (2, 0, [(1, [(3, 1)])], [], []), (0, 0, [], [], []), (0, 0, [], [], []), (0, 0, [], [[(1, 1)]], [2]), (5, 0, [], [], [])])]
set_option maxRecDepth 100000 in
theorem m_229 (l : Launch) : q_Met l vwCl n_TL n_NW n_KT y_13_8 (Cond.code y_13_8 b_13_8 3 (some .int) :: n_GW) rm_229 ct_229 := by
  refine q_method (E := e_229) ts_229 (by decide) rfl rfl rfl ?_ (by decide +kernel)
  intro C D tys htl hl hrm hm hml ho hts hnm hE
  have h : n_ctx C b_13_8 3 "BalanceCoderModel" D tys := ⟨htl, hm, hml, ho, fun w hw => hts w (List.mem_cons_of_mem _ hw), hE⟩
  refine ⟨⟨?_, ?_⟩, ⟨?_, ?_, ?_, ?_, ?_⟩, ⟨?_, ?_, ?_⟩, ⟨?_, ?_, ?_, ?_⟩, ?_⟩
  · intro i ins len hx; exact kd_13_8 (i, ins, len) hx
  · exact n_at hE.1
  · intro i ci f hx; exact c_fg12 h (i, ci, f) hx
  · intro i ci f hx; exact c_fp12 h (i, ci, f) hx
  · exact n_hap h
  · intro i ci n hx; exact c_cn12 h (i, ci, n) hx
  · exact n_hag htl
  · exact c_n112 h
  · exact c_n212 h
  · intro t ci hx; exact c_at12 h (t, ci) hx
  · intro i n hx; exact c_kI12 h (i, n) hx
  · intro i n hx; exact c_kL12 h (i, n) hx
  · exact c_ob12 h ⟨by rw [hrm]; decide, by rw [hrm]; decide⟩
  · exact c_cp12 h
  · intro ins ct hx
    have g0 : q_Call C b_13_8 D tys n_KT 3 (.invokestatic 76) ct_118 := q_callS n_NWk h.2.2.2.2.2 h.1 (m_118 C.2.1) ⟨h.2.1.1, h.2.1.2, h.2.2.1, h.2.2.2.1, h.2.2.2.2.1⟩ ⟨n_CB (y := y_13_4) (bytes := b_13_4) 1 h.2.2.2.2.1 n_w919 n_w917 n_w12 ⟨by decide, by decide, by decide +kernel⟩ rfl rfl ⟨by rw [hrm]; decide, by rw [hrm]; decide⟩, h.2.2.2.2.1 _ n_w918⟩ rfl
    have g1 : q_Call C b_13_8 D tys n_KT 3 (.invokestatic 69) ct_208 := q_callS n_NWk h.2.2.2.2.2 h.1 (m_208 C.2.1) ⟨h.2.1.1, h.2.1.2, h.2.2.1, h.2.2.2.1, h.2.2.2.2.1⟩ ⟨n_CB (y := y_13_3) (bytes := b_13_3) 3 h.2.2.2.2.1 n_w923 n_w921 n_w12 ⟨by decide, by decide, by decide +kernel⟩ rfl rfl ⟨by rw [hrm]; decide, by rw [hrm]; decide⟩, h.2.2.2.2.1 _ n_w922⟩ rfl
    have g2 : q_Call C b_13_8 D tys n_KT 3 (.invokevirtual 82) ct_18 := q_callV n_NWk h.2.2.2.2.2 h.1 (m_18 C.2.1) ⟨h.2.1.1, h.2.1.2, h.2.2.1, h.2.2.2.1, h.2.2.2.2.1⟩ ⟨n_CB (y := y_13_2) (bytes := b_13_2) 1 h.2.2.2.2.1 n_w928 n_w925 n_w12 ⟨by decide, by decide, by decide +kernel⟩ rfl rfl ⟨by rw [hrm]; decide, by rw [hrm]; decide⟩, h.2.2.2.2.1 _ n_w927, h.2.2.2.2.1 _ n_s27⟩ (Cn := RX12) ⟨44, 12, _, _, _, _, TX12, 31, rfl, rfl, rfl⟩ rfl
    have all : ∀ x ∈ [((.invokestatic 76 : Instr), ct_118), ((.invokestatic 69 : Instr), ct_208), ((.invokevirtual 82 : Instr), ct_18)], q_Call C b_13_8 D tys n_KT 3 x.1 x.2 := (n_mem2 (g0) (n_mem2 (g1) (n_mem2 (g2) n_mem0)))
    exact all (ins, ct) hx
def ct_230 : qCt := ((16, [], [(2, 40, [(1, 1)]), (0, 0, [(0, 3)]), (0, 0, [(0, (-1))])], [([(1, 1)], 40, 7, (0, 0, [])), ([(1, 1)], 40, 0, (2, 38, [(2, 1)])), ([(2, 1)], 38, 0, (2, 17, [(3, 1)])), ([(3, 1)], 17, 5, (2, 32, [(4, 1)])), ([(4, 1)], 32, 1, (0, 0, [])), ([(4, 1)], 32, 0, (2, 0, [(5, 1)])), ([(3, 1)], 17, 4, (2, 32, [(6, 1)])), ([(6, 1)], 32, 1, (0, 0, [])), ([(6, 1)], 32, 0, (2, 0, [(7, 1)])), ([(3, 1)], 17, 3, (2, 32, [(8, 1)])), ([(8, 1)], 32, 1, (0, 0, [])), ([(8, 1)], 32, 0, (2, 0, [(9, 1)])), ([(3, 1)], 17, 2, (2, 32, [(10, 1)])), ([(10, 1)], 32, 1, (0, 0, [])), ([(10, 1)], 32, 0, (2, 0, [(11, 1)])), ([(3, 1)], 17, 1, (2, 32, [(12, 1)])), ([(12, 1)], 32, 1, (0, 0, [])), ([(12, 1)], 32, 0, (2, 0, [(13, 1)])), ([(3, 1)], 17, 0, (2, 32, [(14, 1)])), ([(14, 1)], 32, 1, (0, 0, [])), ([(14, 1)], 32, 0, (2, 0, [(15, 1)]))]), (16, [], [(0, 0, [])], [([(1, 1)], 40, 0, (2, 38, [(2, 1)])), ([(2, 1)], 38, 0, (2, 17, [(3, 1)])), ([(3, 1)], 17, 5, (2, 32, [(4, 1)])), ([(3, 1)], 17, 4, (2, 32, [(6, 1)])), ([(3, 1)], 17, 3, (2, 32, [(8, 1)])), ([(3, 1)], 17, 2, (2, 32, [(10, 1)])), ([(3, 1)], 17, 1, (2, 32, [(12, 1)])), ([(3, 1)], 17, 0, (2, 32, [(14, 1)])), ([(1, 1)], 40, 7, (0, 0, [])), ([(4, 1)], 32, 1, (0, 0, [])), ([(4, 1)], 32, 0, (2, 0, [(5, 1)])), ([(6, 1)], 32, 1, (0, 0, [])), ([(6, 1)], 32, 0, (2, 0, [(7, 1)])), ([(8, 1)], 32, 1, (0, 0, [])), ([(8, 1)], 32, 0, (2, 0, [(9, 1)])), ([(10, 1)], 32, 1, (0, 0, [])), ([(10, 1)], 32, 0, (2, 0, [(11, 1)])), ([(12, 1)], 32, 1, (0, 0, [])), ([(12, 1)], 32, 0, (2, 0, [(13, 1)])), ([(14, 1)], 32, 1, (0, 0, [])), ([(14, 1)], 32, 0, (2, 0, [(15, 1)]))], []), [], [], 0, 0)
def rm_230 : Room := { frames := 2, cells := 0, slots := 0, locals := 47 }
def e_230 : qEn := (k_1_4, (t_fg10, t_fp10, t_cn10), (t_na10, t_at10), (t_kI10, t_kL10, t_ob10, t_cp10), [(.invokevirtual 51, ct_115)], (q_k (-1), [], []))
def ts_230 : List (qTm × qCert × List qHx) := [((0, (16, [], [(0, (2, 40, [(1, 1)])), (1, (0, 0, [(0, 3)])), (2, (0, 0, [(0, (-1))]))], [], [([(1, 1)], 40, 7, (0, 0, [])), ([(1, 1)], 40, 0, (2, 38, [(2, 1)])), ([(2, 1)], 38, 0, (2, 17, [(3, 1)])), ([(3, 1)], 17, 5, (2, 32, [(4, 1)])), ([(4, 1)], 32, 1, (0, 0, [])), ([(4, 1)], 32, 0, (2, 0, [(5, 1)])), ([(3, 1)], 17, 4, (2, 32, [(6, 1)])), ([(6, 1)], 32, 1, (0, 0, [])), ([(6, 1)], 32, 0, (2, 0, [(7, 1)])), ([(3, 1)], 17, 3, (2, 32, [(8, 1)])), ([(8, 1)], 32, 1, (0, 0, [])), ([(8, 1)], 32, 0, (2, 0, [(9, 1)])), ([(3, 1)], 17, 2, (2, 32, [(10, 1)])), ([(10, 1)], 32, 1, (0, 0, [])), ([(10, 1)], 32, 0, (2, 0, [(11, 1)])), ([(3, 1)], 17, 1, (2, 32, [(12, 1)])), ([(12, 1)], 32, 1, (0, 0, [])), ([(12, 1)], 32, 0, (2, 0, [(13, 1)])), ([(3, 1)], 17, 0, (2, 32, [(14, 1)])), ([(14, 1)], 32, 1, (0, 0, [])), ([(14, 1)], 32, 0, (2, 0, [(15, 1)]))], 0, 0), []), (1, []), [(0, 0, [], [], []), (0, 0, [], [], []), (0, 0, [], [[(1, 1)], [(2, 1)], [(3, 1)], [(4, 1)], [(6, 1)], [(8, 1)], [(10, 1)], [(12, 1)], [(14, 1)]], [0]), (0, 0, [], [], []), (0, 0, [], [], []), (0, 0, [], [], []), (0, 0, [], [], []), (0, 0, [], [], []), (0, 0, [], [], []), (2, 0, [(1, [(0, 1)])], [], []), (0, 0, [], [], []), (0, 0, [], [], []), (0, 1, [], [], [18]), (0, 0, [], [], []), (0, 0, [], [], []), (0, 0, [], [], []), (0, 1, [(1, [])], [], []), (2, 0, [(1, [(2, 1)])], [], []), (0, 0, [], [], []), (0, 1, [], [], [18]), (0, 0, [], [], []), (5, 0, [], [], []), (2, 0, [(1, [(1, 1)])], [], [])])]
set_option maxRecDepth 100000 in
theorem m_230 (l : Launch) : q_Met l vwCl n_TL n_NW n_KT y_1_4 (Cond.code y_1_4 b_1_4 4 (some .int) :: n_GW) rm_230 ct_230 := by
  refine q_method (E := e_230) ts_230 (by decide) rfl rfl rfl ?_ (by decide +kernel)
  intro C D tys htl hl hrm hm hml ho hts hnm hE
  have h : n_ctx C b_1_4 4 "BalanceCoder" D tys := ⟨htl, hm, hml, ho, fun w hw => hts w (List.mem_cons_of_mem _ hw), hE⟩
  refine ⟨⟨?_, ?_⟩, ⟨?_, ?_, ?_, ?_, ?_⟩, ⟨?_, ?_, ?_⟩, ⟨?_, ?_, ?_, ?_⟩, ?_⟩
  · intro i ins len hx; exact kd_1_4 (i, ins, len) hx
  · exact n_at hE.1
  · intro i ci f hx; exact c_fg10 h (i, ci, f) hx
  · intro i ci f hx; exact c_fp10 h (i, ci, f) hx
  · exact n_hap h
  · intro i ci n hx; exact c_cn10 h (i, ci, n) hx
  · exact n_hag htl
  · exact c_n110 h
  · exact c_n210 h
  · intro t ci hx; exact c_at10 h (t, ci) hx
  · intro i n hx; exact c_kI10 h (i, n) hx
  · intro i n hx; exact c_kL10 h (i, n) hx
  · exact c_ob10 h ⟨by rw [hrm]; decide, by rw [hrm]; decide⟩
  · exact c_cp10 h
  · intro ins ct hx
    have g0 : q_Call C b_1_4 D tys n_KT 4 (.invokevirtual 51) ct_115 := q_callV n_NWk h.2.2.2.2.2 h.1 (m_115 C.2.1) ⟨h.2.1.1, h.2.1.2, h.2.2.1, h.2.2.2.1, h.2.2.2.2.1⟩ ⟨n_CB (y := y_1_29) (bytes := b_1_29) 1 h.2.2.2.2.1 n_w305 n_w302 n_w1 ⟨by decide, by decide, by decide +kernel⟩ rfl rfl ⟨by rw [hrm]; decide, by rw [hrm]; decide⟩, h.2.2.2.2.1 _ n_w304, h.2.2.2.2.1 _ n_s0⟩ (Cn := RX10) ⟨40, 10, _, _, _, _, TX10, 8, rfl, rfl, rfl⟩ rfl
    have all : ∀ x ∈ [((.invokevirtual 51 : Instr), ct_115)], q_Call C b_1_4 D tys n_KT 4 x.1 x.2 := (n_mem2 (g0) n_mem0)
    exact all (ins, ct) hx
def ct_231 : qCt := ((5, [], [(2, 44, [(1, 1)]), (0, 0, [(0, 3)]), (0, 0, [(0, (-1))])], [([(1, 1)], 44, 0, (2, 42, [(2, 1)])), ([(2, 1)], 42, 1, (2, 8, [(3, 1)])), ([(2, 1)], 42, 0, (2, 7, [(4, 1)])), ([(4, 1)], 7, 0, (0, 0, [])), ([(4, 1)], 7, 1, (0, 0, [])), ([(4, 1)], 7, 2, (0, 0, [])), ([(4, 1)], 7, 3, (0, 0, [])), ([(4, 1)], 7, 4, (0, 0, [])), ([(4, 1)], 7, 5, (0, 0, [])), ([(1, 1)], 44, 3, (0, 0, []))]), (5, [], [(0, 0, [])], [([(1, 1)], 44, 0, (2, 42, [(2, 1)])), ([(2, 1)], 42, 1, (2, 8, [(3, 1)])), ([(2, 1)], 42, 0, (2, 7, [(4, 1)])), ([(4, 1)], 7, 0, (0, 0, [])), ([(4, 1)], 7, 1, (0, 0, [])), ([(4, 1)], 7, 2, (0, 0, [])), ([(4, 1)], 7, 3, (0, 0, [])), ([(4, 1)], 7, 4, (0, 0, [])), ([(4, 1)], 7, 5, (0, 0, [])), ([(1, 1)], 44, 3, (0, 0, []))], []), [], [], 0, 0)
def rm_231 : Room := { frames := 3, cells := 0, slots := 0, locals := 71 }
def e_231 : qEn := (k_13_8, (t_fg12, t_fp12, t_cn12), (t_na12, t_at12), (t_kI12, t_kL12, t_ob12, t_cp12), [(.invokestatic 76, ct_118), (.invokestatic 69, ct_211)], (q_k (-1), [], []))
def ts_231 : List (qTm × qCert × List qHx) := [((0, (5, [], [(0, (2, 44, [(1, 1)])), (1, (0, 0, [(0, 3)])), (2, (0, 0, [(0, (-1))]))], [], [([(1, 1)], 44, 0, (2, 42, [(2, 1)])), ([(2, 1)], 42, 1, (2, 8, [(3, 1)])), ([(2, 1)], 42, 0, (2, 7, [(4, 1)])), ([(4, 1)], 7, 0, (0, 0, [])), ([(4, 1)], 7, 1, (0, 0, [])), ([(4, 1)], 7, 2, (0, 0, [])), ([(4, 1)], 7, 3, (0, 0, [])), ([(4, 1)], 7, 4, (0, 0, [])), ([(4, 1)], 7, 5, (0, 0, [])), ([(1, 1)], 44, 3, (0, 0, []))], 0, 0), []), (1, []), [(0, 0, [], [], []), (0, 0, [], [], [0]), (0, 1, [(1, [])], [], []), (2, 0, [(1, [(1, 1)])], [], []), (0, 0, [], [], []), (0, 0, [], [], []), (0, 0, [], [], []), (0, 0, [], [], []), (0, 1, [], [], [0]), (0, 1, [], [], [2]), (0, 0, [], [], []), (0, 1, [], [], [6]), (0, 0, [], [], []), (0, 1, [(1, []), (1, [])], [], []), (0, 0, [], [], []), (0, 0, [], [], [1]), (0, 1, [(1, [])], [], []), (0, 0, [], [], []), (0, 0, [], [], []), (2, 0, [(1, [(2, 1)])], [], []), (0, 0, [], [], []), (0, 1, [], [], [0]), (0, 1, [], [], [2]), (0, 0, [], [], []), (0, 1, [], [], [6]), (0, 0, [], [], []), (5, 0, [], [], []), (2, 0, [(1, [(2, 1)])], [], [])])]
set_option maxRecDepth 100000 in
theorem m_231 (l : Launch) : q_Met l vwCl n_TL n_NW n_KT y_13_8 (Cond.code y_13_8 b_13_8 3 (some .int) :: n_GW) rm_231 ct_231 := by
  refine q_method (E := e_231) ts_231 (by decide) rfl rfl rfl ?_ (by decide +kernel)
  intro C D tys htl hl hrm hm hml ho hts hnm hE
  have h : n_ctx C b_13_8 3 "BalanceCoderModel" D tys := ⟨htl, hm, hml, ho, fun w hw => hts w (List.mem_cons_of_mem _ hw), hE⟩
  refine ⟨⟨?_, ?_⟩, ⟨?_, ?_, ?_, ?_, ?_⟩, ⟨?_, ?_, ?_⟩, ⟨?_, ?_, ?_, ?_⟩, ?_⟩
  · intro i ins len hx; exact kd_13_8 (i, ins, len) hx
  · exact n_at hE.1
  · intro i ci f hx; exact c_fg12 h (i, ci, f) hx
  · intro i ci f hx; exact c_fp12 h (i, ci, f) hx
  · exact n_hap h
  · intro i ci n hx; exact c_cn12 h (i, ci, n) hx
  · exact n_hag htl
  · exact c_n112 h
  · exact c_n212 h
  · intro t ci hx; exact c_at12 h (t, ci) hx
  · intro i n hx; exact c_kI12 h (i, n) hx
  · intro i n hx; exact c_kL12 h (i, n) hx
  · exact c_ob12 h ⟨by rw [hrm]; decide, by rw [hrm]; decide⟩
  · exact c_cp12 h
  · intro ins ct hx
    have g0 : q_Call C b_13_8 D tys n_KT 3 (.invokestatic 76) ct_118 := q_callS n_NWk h.2.2.2.2.2 h.1 (m_118 C.2.1) ⟨h.2.1.1, h.2.1.2, h.2.2.1, h.2.2.2.1, h.2.2.2.2.1⟩ ⟨n_CB (y := y_13_4) (bytes := b_13_4) 1 h.2.2.2.2.1 n_w919 n_w917 n_w12 ⟨by decide, by decide, by decide +kernel⟩ rfl rfl ⟨by rw [hrm]; decide, by rw [hrm]; decide⟩, h.2.2.2.2.1 _ n_w918⟩ rfl
    have g1 : q_Call C b_13_8 D tys n_KT 3 (.invokestatic 69) ct_211 := q_callS n_NWk h.2.2.2.2.2 h.1 (m_211 C.2.1) ⟨h.2.1.1, h.2.1.2, h.2.2.1, h.2.2.2.1, h.2.2.2.2.1⟩ ⟨n_CB (y := y_13_3) (bytes := b_13_3) 3 h.2.2.2.2.1 n_w923 n_w921 n_w12 ⟨by decide, by decide, by decide +kernel⟩ rfl rfl ⟨by rw [hrm]; decide, by rw [hrm]; decide⟩, h.2.2.2.2.1 _ n_w922⟩ rfl
    have all : ∀ x ∈ [((.invokestatic 76 : Instr), ct_118), ((.invokestatic 69 : Instr), ct_211)], q_Call C b_13_8 D tys n_KT 3 x.1 x.2 := (n_mem2 (g0) (n_mem2 (g1) n_mem0))
    exact all (ins, ct) hx
def ct_232 : qCt := ((17, [[(2, 1)], [(0, 2147483647), (2, (-1))]], [(2, 40, [(1, 1)]), (0, 0, [(0, 3)]), (0, 0, [(2, 1)])], [([(1, 1)], 40, 7, (0, 0, [])), ([(1, 1)], 40, 0, (2, 38, [(3, 1)])), ([(3, 1)], 38, 0, (2, 17, [(4, 1)])), ([(4, 1)], 17, 5, (2, 32, [(5, 1)])), ([(5, 1)], 32, 1, (0, 0, [])), ([(5, 1)], 32, 0, (2, 0, [(6, 1)])), ([(4, 1)], 17, 4, (2, 32, [(7, 1)])), ([(7, 1)], 32, 1, (0, 0, [])), ([(7, 1)], 32, 0, (2, 0, [(8, 1)])), ([(4, 1)], 17, 3, (2, 32, [(9, 1)])), ([(9, 1)], 32, 1, (0, 0, [])), ([(9, 1)], 32, 0, (2, 0, [(10, 1)])), ([(4, 1)], 17, 2, (2, 32, [(11, 1)])), ([(11, 1)], 32, 1, (0, 0, [])), ([(11, 1)], 32, 0, (2, 0, [(12, 1)])), ([(4, 1)], 17, 1, (2, 32, [(13, 1)])), ([(13, 1)], 32, 1, (0, 0, [])), ([(13, 1)], 32, 0, (2, 0, [(14, 1)])), ([(4, 1)], 17, 0, (2, 32, [(15, 1)])), ([(15, 1)], 32, 1, (0, 0, [])), ([(15, 1)], 32, 0, (2, 0, [(16, 1)]))]), (17, [], [(0, 0, [(0, (-1))])], [([(1, 1)], 40, 7, (0, 0, [(0, 1)])), ([(1, 1)], 40, 0, (2, 38, [(3, 1)])), ([(3, 1)], 38, 0, (2, 17, [(4, 1)])), ([(4, 1)], 17, 5, (2, 32, [(5, 1)])), ([(4, 1)], 17, 4, (2, 32, [(7, 1)])), ([(4, 1)], 17, 3, (2, 32, [(9, 1)])), ([(4, 1)], 17, 2, (2, 32, [(11, 1)])), ([(4, 1)], 17, 1, (2, 32, [(13, 1)])), ([(4, 1)], 17, 0, (2, 32, [(15, 1)])), ([(5, 1)], 32, 1, (0, 0, [])), ([(5, 1)], 32, 0, (2, 0, [(6, 1)])), ([(7, 1)], 32, 1, (0, 0, [])), ([(7, 1)], 32, 0, (2, 0, [(8, 1)])), ([(9, 1)], 32, 1, (0, 0, [])), ([(9, 1)], 32, 0, (2, 0, [(10, 1)])), ([(11, 1)], 32, 1, (0, 0, [])), ([(11, 1)], 32, 0, (2, 0, [(12, 1)])), ([(13, 1)], 32, 1, (0, 0, [])), ([(13, 1)], 32, 0, (2, 0, [(14, 1)])), ([(15, 1)], 32, 1, (0, 0, [])), ([(15, 1)], 32, 0, (2, 0, [(16, 1)]))], []), [], [(40, 7)], 0, 0)
def rm_232 : Room := { frames := 2, cells := 0, slots := 0, locals := 47 }
def e_232 : qEn := (k_1_4, (t_fg10, t_fp10, t_cn10), (t_na10, t_at10), (t_kI10, t_kL10, t_ob10, t_cp10), [(.invokevirtual 51, ct_115), (.invokevirtual 55, ct_14)], (q_k (-1), [], []))
def ts_232 : List (qTm × qCert × List qHx) := [((0, (17, [[(2, 1)], [(0, 2147483647), (2, (-1))]], [(0, (2, 40, [(1, 1)])), (1, (0, 0, [(0, 3)])), (2, (0, 0, [(2, 1)]))], [], [([(1, 1)], 40, 7, (0, 0, [])), ([(1, 1)], 40, 0, (2, 38, [(3, 1)])), ([(3, 1)], 38, 0, (2, 17, [(4, 1)])), ([(4, 1)], 17, 5, (2, 32, [(5, 1)])), ([(5, 1)], 32, 1, (0, 0, [])), ([(5, 1)], 32, 0, (2, 0, [(6, 1)])), ([(4, 1)], 17, 4, (2, 32, [(7, 1)])), ([(7, 1)], 32, 1, (0, 0, [])), ([(7, 1)], 32, 0, (2, 0, [(8, 1)])), ([(4, 1)], 17, 3, (2, 32, [(9, 1)])), ([(9, 1)], 32, 1, (0, 0, [])), ([(9, 1)], 32, 0, (2, 0, [(10, 1)])), ([(4, 1)], 17, 2, (2, 32, [(11, 1)])), ([(11, 1)], 32, 1, (0, 0, [])), ([(11, 1)], 32, 0, (2, 0, [(12, 1)])), ([(4, 1)], 17, 1, (2, 32, [(13, 1)])), ([(13, 1)], 32, 1, (0, 0, [])), ([(13, 1)], 32, 0, (2, 0, [(14, 1)])), ([(4, 1)], 17, 0, (2, 32, [(15, 1)])), ([(15, 1)], 32, 1, (0, 0, [])), ([(15, 1)], 32, 0, (2, 0, [(16, 1)]))], 0, 0), []), (1, []), [(0, 0, [], [], []), (0, 0, [], [], []), (0, 0, [], [[(1, 1)], [(3, 1)], [(4, 1)], [(5, 1)], [(7, 1)], [(9, 1)], [(11, 1)], [(13, 1)], [(15, 1)]], [0]), (0, 0, [], [], []), (0, 0, [], [], []), (0, 0, [], [], []), (0, 0, [], [], []), (0, 0, [], [], []), (0, 0, [], [], []), (2, 0, [(1, [(0, 1), (2, 1)])], [], []), (0, 0, [], [], []), (0, 0, [], [], []), (0, 1, [], [], [18]), (0, 0, [], [], []), (2, 0, [(1, [(0, 1), (3, 1)])], [], []), (0, 0, [], [], []), (0, 0, [], [], []), (0, 0, [], [[(1, 1)]], [1]), (5, 0, [], [], [])])]
set_option maxRecDepth 100000 in
theorem m_232 (l : Launch) : q_Met l vwCl n_TL n_NW n_KT y_1_4 (Cond.code y_1_4 b_1_4 4 (some .int) :: n_GW) rm_232 ct_232 := by
  refine q_method (E := e_232) ts_232 (by decide) rfl rfl rfl ?_ (by decide +kernel)
  intro C D tys htl hl hrm hm hml ho hts hnm hE
  have h : n_ctx C b_1_4 4 "BalanceCoder" D tys := ⟨htl, hm, hml, ho, fun w hw => hts w (List.mem_cons_of_mem _ hw), hE⟩
  refine ⟨⟨?_, ?_⟩, ⟨?_, ?_, ?_, ?_, ?_⟩, ⟨?_, ?_, ?_⟩, ⟨?_, ?_, ?_, ?_⟩, ?_⟩
  · intro i ins len hx; exact kd_1_4 (i, ins, len) hx
  · exact n_at hE.1
  · intro i ci f hx; exact c_fg10 h (i, ci, f) hx
  · intro i ci f hx; exact c_fp10 h (i, ci, f) hx
  · exact n_hap h
  · intro i ci n hx; exact c_cn10 h (i, ci, n) hx
  · exact n_hag htl
  · exact c_n110 h
  · exact c_n210 h
  · intro t ci hx; exact c_at10 h (t, ci) hx
  · intro i n hx; exact c_kI10 h (i, n) hx
  · intro i n hx; exact c_kL10 h (i, n) hx
  · exact c_ob10 h ⟨by rw [hrm]; decide, by rw [hrm]; decide⟩
  · exact c_cp10 h
  · intro ins ct hx
    have g0 : q_Call C b_1_4 D tys n_KT 4 (.invokevirtual 51) ct_115 := q_callV n_NWk h.2.2.2.2.2 h.1 (m_115 C.2.1) ⟨h.2.1.1, h.2.1.2, h.2.2.1, h.2.2.2.1, h.2.2.2.2.1⟩ ⟨n_CB (y := y_1_29) (bytes := b_1_29) 1 h.2.2.2.2.1 n_w305 n_w302 n_w1 ⟨by decide, by decide, by decide +kernel⟩ rfl rfl ⟨by rw [hrm]; decide, by rw [hrm]; decide⟩, h.2.2.2.2.1 _ n_w304, h.2.2.2.2.1 _ n_s0⟩ (Cn := RX10) ⟨40, 10, _, _, _, _, TX10, 8, rfl, rfl, rfl⟩ rfl
    have g1 : q_Call C b_1_4 D tys n_KT 4 (.invokevirtual 55) ct_14 := q_callV n_NWk h.2.2.2.2.2 h.1 (m_14 C.2.1) ⟨h.2.1.1, h.2.1.2, h.2.2.1, h.2.2.2.1, h.2.2.2.2.1⟩ ⟨n_CB (y := y_1_27) (bytes := b_1_27) 1 h.2.2.2.2.1 n_w309 n_w306 n_w1 ⟨by decide, by decide, by decide +kernel⟩ rfl rfl ⟨by rw [hrm]; decide, by rw [hrm]; decide⟩, h.2.2.2.2.1 _ n_w308, h.2.2.2.2.1 _ n_s1⟩ (Cn := RX10) ⟨40, 10, _, _, _, _, TX10, 8, rfl, rfl, rfl⟩ rfl
    have all : ∀ x ∈ [((.invokevirtual 51 : Instr), ct_115), ((.invokevirtual 55 : Instr), ct_14)], q_Call C b_1_4 D tys n_KT 4 x.1 x.2 := (n_mem2 (g0) (n_mem2 (g1) n_mem0))
    exact all (ins, ct) hx
def ct_233 : qCt := ((6, [[(2, 1)], [(0, 2147483647), (2, (-1))]], [(2, 44, [(1, 1)]), (0, 0, [(0, 3)]), (0, 0, [(2, 1)])], [([(1, 1)], 44, 0, (2, 42, [(3, 1)])), ([(3, 1)], 42, 1, (2, 8, [(4, 1)])), ([(3, 1)], 42, 0, (2, 7, [(5, 1)])), ([(5, 1)], 7, 0, (0, 0, [])), ([(5, 1)], 7, 1, (0, 0, [])), ([(5, 1)], 7, 2, (0, 0, [])), ([(5, 1)], 7, 3, (0, 0, [])), ([(5, 1)], 7, 4, (0, 0, [])), ([(5, 1)], 7, 5, (0, 0, [])), ([(1, 1)], 44, 3, (0, 0, []))]), (6, [], [(0, 0, [(0, (-1))])], [([(1, 1)], 44, 3, (0, 0, [(0, 1)])), ([(1, 1)], 44, 0, (2, 42, [(3, 1)])), ([(3, 1)], 42, 1, (2, 8, [(4, 1)])), ([(3, 1)], 42, 0, (2, 7, [(5, 1)])), ([(5, 1)], 7, 0, (0, 0, [])), ([(5, 1)], 7, 1, (0, 0, [])), ([(5, 1)], 7, 2, (0, 0, [])), ([(5, 1)], 7, 3, (0, 0, [])), ([(5, 1)], 7, 4, (0, 0, [])), ([(5, 1)], 7, 5, (0, 0, []))], []), [], [(44, 3)], 0, 0)
def rm_233 : Room := { frames := 3, cells := 0, slots := 0, locals := 71 }
def e_233 : qEn := (k_13_8, (t_fg12, t_fp12, t_cn12), (t_na12, t_at12), (t_kI12, t_kL12, t_ob12, t_cp12), [(.invokestatic 76, ct_118), (.invokestatic 69, ct_214), (.invokevirtual 82, ct_18)], (q_k (-1), [], []))
def ts_233 : List (qTm × qCert × List qHx) := [((0, (6, [[(2, 1)], [(0, 2147483647), (2, (-1))]], [(0, (2, 44, [(1, 1)])), (1, (0, 0, [(0, 3)])), (2, (0, 0, [(2, 1)]))], [], [([(1, 1)], 44, 0, (2, 42, [(3, 1)])), ([(3, 1)], 42, 1, (2, 8, [(4, 1)])), ([(3, 1)], 42, 0, (2, 7, [(5, 1)])), ([(5, 1)], 7, 0, (0, 0, [])), ([(5, 1)], 7, 1, (0, 0, [])), ([(5, 1)], 7, 2, (0, 0, [])), ([(5, 1)], 7, 3, (0, 0, [])), ([(5, 1)], 7, 4, (0, 0, [])), ([(5, 1)], 7, 5, (0, 0, [])), ([(1, 1)], 44, 3, (0, 0, []))], 0, 0), []), (1, []), [(0, 0, [], [], []), (0, 0, [], [], [0]), (0, 1, [(1, [])], [], []), (2, 0, [(1, [(3, 1)])], [], []), (0, 0, [], [], []), (0, 0, [], [], []), (0, 0, [], [], []), (0, 0, [], [], []), (0, 1, [], [], [0]), (0, 1, [], [], [2]), (0, 0, [], [], []), (0, 1, [], [], [6]), (0, 0, [], [], []), (0, 1, [(1, []), (1, [])], [], []), (0, 0, [], [], []), (0, 0, [(1, [(0, 1)]), (1, [(1, 1)])], [[(2, 1)]], [1]), (0, 1, [(1, [])], [], []), (2, 0, [(1, [(3, 1)])], [], []), (0, 0, [], [], []), (0, 0, [], [], []), (0, 0, [], [[(1, 1)]], [2]), (5, 0, [], [], [])])]
set_option maxRecDepth 100000 in
theorem m_233 (l : Launch) : q_Met l vwCl n_TL n_NW n_KT y_13_8 (Cond.code y_13_8 b_13_8 3 (some .int) :: n_GW) rm_233 ct_233 := by
  refine q_method (E := e_233) ts_233 (by decide) rfl rfl rfl ?_ (by decide +kernel)
  intro C D tys htl hl hrm hm hml ho hts hnm hE
  have h : n_ctx C b_13_8 3 "BalanceCoderModel" D tys := ⟨htl, hm, hml, ho, fun w hw => hts w (List.mem_cons_of_mem _ hw), hE⟩
  refine ⟨⟨?_, ?_⟩, ⟨?_, ?_, ?_, ?_, ?_⟩, ⟨?_, ?_, ?_⟩, ⟨?_, ?_, ?_, ?_⟩, ?_⟩
  · intro i ins len hx; exact kd_13_8 (i, ins, len) hx
  · exact n_at hE.1
  · intro i ci f hx; exact c_fg12 h (i, ci, f) hx
  · intro i ci f hx; exact c_fp12 h (i, ci, f) hx
  · exact n_hap h
  · intro i ci n hx; exact c_cn12 h (i, ci, n) hx
  · exact n_hag htl
  · exact c_n112 h
  · exact c_n212 h
  · intro t ci hx; exact c_at12 h (t, ci) hx
  · intro i n hx; exact c_kI12 h (i, n) hx
  · intro i n hx; exact c_kL12 h (i, n) hx
  · exact c_ob12 h ⟨by rw [hrm]; decide, by rw [hrm]; decide⟩
  · exact c_cp12 h
  · intro ins ct hx
    have g0 : q_Call C b_13_8 D tys n_KT 3 (.invokestatic 76) ct_118 := q_callS n_NWk h.2.2.2.2.2 h.1 (m_118 C.2.1) ⟨h.2.1.1, h.2.1.2, h.2.2.1, h.2.2.2.1, h.2.2.2.2.1⟩ ⟨n_CB (y := y_13_4) (bytes := b_13_4) 1 h.2.2.2.2.1 n_w919 n_w917 n_w12 ⟨by decide, by decide, by decide +kernel⟩ rfl rfl ⟨by rw [hrm]; decide, by rw [hrm]; decide⟩, h.2.2.2.2.1 _ n_w918⟩ rfl
    have g1 : q_Call C b_13_8 D tys n_KT 3 (.invokestatic 69) ct_214 := q_callS n_NWk h.2.2.2.2.2 h.1 (m_214 C.2.1) ⟨h.2.1.1, h.2.1.2, h.2.2.1, h.2.2.2.1, h.2.2.2.2.1⟩ ⟨n_CB (y := y_13_3) (bytes := b_13_3) 3 h.2.2.2.2.1 n_w923 n_w921 n_w12 ⟨by decide, by decide, by decide +kernel⟩ rfl rfl ⟨by rw [hrm]; decide, by rw [hrm]; decide⟩, h.2.2.2.2.1 _ n_w922⟩ rfl
    have g2 : q_Call C b_13_8 D tys n_KT 3 (.invokevirtual 82) ct_18 := q_callV n_NWk h.2.2.2.2.2 h.1 (m_18 C.2.1) ⟨h.2.1.1, h.2.1.2, h.2.2.1, h.2.2.2.1, h.2.2.2.2.1⟩ ⟨n_CB (y := y_13_2) (bytes := b_13_2) 1 h.2.2.2.2.1 n_w928 n_w925 n_w12 ⟨by decide, by decide, by decide +kernel⟩ rfl rfl ⟨by rw [hrm]; decide, by rw [hrm]; decide⟩, h.2.2.2.2.1 _ n_w927, h.2.2.2.2.1 _ n_s27⟩ (Cn := RX12) ⟨44, 12, _, _, _, _, TX12, 31, rfl, rfl, rfl⟩ rfl
    have all : ∀ x ∈ [((.invokestatic 76 : Instr), ct_118), ((.invokestatic 69 : Instr), ct_214), ((.invokevirtual 82 : Instr), ct_18)], q_Call C b_13_8 D tys n_KT 3 x.1 x.2 := (n_mem2 (g0) (n_mem2 (g1) (n_mem2 (g2) n_mem0)))
    exact all (ins, ct) hx
def ct_234 : qCt := ((17, [[(0, 2147483648), (2, 1)], [(0, (-2)), (2, (-1))]], [(2, 40, [(1, 1)]), (0, 0, [(0, 4)]), (0, 0, [(2, 1)])], [([(1, 1)], 40, 7, (0, 0, [])), ([(1, 1)], 40, 0, (2, 38, [(3, 1)])), ([(3, 1)], 38, 0, (2, 17, [(4, 1)])), ([(4, 1)], 17, 5, (2, 32, [(5, 1)])), ([(5, 1)], 32, 1, (0, 0, [])), ([(5, 1)], 32, 0, (2, 0, [(6, 1)])), ([(4, 1)], 17, 4, (2, 32, [(7, 1)])), ([(7, 1)], 32, 1, (0, 0, [])), ([(7, 1)], 32, 0, (2, 0, [(8, 1)])), ([(4, 1)], 17, 3, (2, 32, [(9, 1)])), ([(9, 1)], 32, 1, (0, 0, [])), ([(9, 1)], 32, 0, (2, 0, [(10, 1)])), ([(4, 1)], 17, 2, (2, 32, [(11, 1)])), ([(11, 1)], 32, 1, (0, 0, [])), ([(11, 1)], 32, 0, (2, 0, [(12, 1)])), ([(4, 1)], 17, 1, (2, 32, [(13, 1)])), ([(13, 1)], 32, 1, (0, 0, [])), ([(13, 1)], 32, 0, (2, 0, [(14, 1)])), ([(4, 1)], 17, 0, (2, 32, [(15, 1)])), ([(15, 1)], 32, 1, (0, 0, [])), ([(15, 1)], 32, 0, (2, 0, [(16, 1)]))]), (17, [], [(0, 0, [(0, (-1))])], [([(1, 1)], 40, 7, (0, 0, [(0, 1)])), ([(1, 1)], 40, 0, (2, 38, [(3, 1)])), ([(3, 1)], 38, 0, (2, 17, [(4, 1)])), ([(4, 1)], 17, 5, (2, 32, [(5, 1)])), ([(4, 1)], 17, 4, (2, 32, [(7, 1)])), ([(4, 1)], 17, 3, (2, 32, [(9, 1)])), ([(4, 1)], 17, 2, (2, 32, [(11, 1)])), ([(4, 1)], 17, 1, (2, 32, [(13, 1)])), ([(4, 1)], 17, 0, (2, 32, [(15, 1)])), ([(5, 1)], 32, 1, (0, 0, [])), ([(5, 1)], 32, 0, (2, 0, [(6, 1)])), ([(7, 1)], 32, 1, (0, 0, [])), ([(7, 1)], 32, 0, (2, 0, [(8, 1)])), ([(9, 1)], 32, 1, (0, 0, [])), ([(9, 1)], 32, 0, (2, 0, [(10, 1)])), ([(11, 1)], 32, 1, (0, 0, [])), ([(11, 1)], 32, 0, (2, 0, [(12, 1)])), ([(13, 1)], 32, 1, (0, 0, [])), ([(13, 1)], 32, 0, (2, 0, [(14, 1)])), ([(15, 1)], 32, 1, (0, 0, [])), ([(15, 1)], 32, 0, (2, 0, [(16, 1)]))], []), [], [(40, 7)], 0, 0)
def rm_234 : Room := { frames := 2, cells := 0, slots := 0, locals := 47 }
def e_234 : qEn := (k_1_4, (t_fg10, t_fp10, t_cn10), (t_na10, t_at10), (t_kI10, t_kL10, t_ob10, t_cp10), [(.invokevirtual 51, ct_138), (.invokevirtual 55, ct_14)], (q_k (-1), [], []))
def ts_234 : List (qTm × qCert × List qHx) := [((0, (17, [[(0, 2147483648), (2, 1)], [(0, (-2)), (2, (-1))]], [(0, (2, 40, [(1, 1)])), (1, (0, 0, [(0, 4)])), (2, (0, 0, [(2, 1)]))], [], [([(1, 1)], 40, 7, (0, 0, [])), ([(1, 1)], 40, 0, (2, 38, [(3, 1)])), ([(3, 1)], 38, 0, (2, 17, [(4, 1)])), ([(4, 1)], 17, 5, (2, 32, [(5, 1)])), ([(5, 1)], 32, 1, (0, 0, [])), ([(5, 1)], 32, 0, (2, 0, [(6, 1)])), ([(4, 1)], 17, 4, (2, 32, [(7, 1)])), ([(7, 1)], 32, 1, (0, 0, [])), ([(7, 1)], 32, 0, (2, 0, [(8, 1)])), ([(4, 1)], 17, 3, (2, 32, [(9, 1)])), ([(9, 1)], 32, 1, (0, 0, [])), ([(9, 1)], 32, 0, (2, 0, [(10, 1)])), ([(4, 1)], 17, 2, (2, 32, [(11, 1)])), ([(11, 1)], 32, 1, (0, 0, [])), ([(11, 1)], 32, 0, (2, 0, [(12, 1)])), ([(4, 1)], 17, 1, (2, 32, [(13, 1)])), ([(13, 1)], 32, 1, (0, 0, [])), ([(13, 1)], 32, 0, (2, 0, [(14, 1)])), ([(4, 1)], 17, 0, (2, 32, [(15, 1)])), ([(15, 1)], 32, 1, (0, 0, [])), ([(15, 1)], 32, 0, (2, 0, [(16, 1)]))], 0, 0), []), (1, []), [(0, 0, [], [], []), (0, 0, [], [], []), (0, 0, [], [[(1, 1)], [(3, 1)], [(4, 1)], [(5, 1)], [(7, 1)], [(9, 1)], [(11, 1)], [(13, 1)], [(15, 1)]], [0]), (0, 0, [], [], []), (0, 0, [], [], []), (0, 0, [], [], []), (0, 0, [], [], []), (0, 0, [], [], []), (0, 0, [], [], []), (0, 0, [], [], []), (0, 0, [], [], []), (0, 0, [], [[(1, 1)]], [1]), (5, 0, [], [], []), (2, 0, [(1, [(1, 1), (2, 1)])], [], [])])]
set_option maxRecDepth 100000 in
theorem m_234 (l : Launch) : q_Met l vwCl n_TL n_NW n_KT y_1_4 (Cond.code y_1_4 b_1_4 4 (some .int) :: n_GW) rm_234 ct_234 := by
  refine q_method (E := e_234) ts_234 (by decide) rfl rfl rfl ?_ (by decide +kernel)
  intro C D tys htl hl hrm hm hml ho hts hnm hE
  have h : n_ctx C b_1_4 4 "BalanceCoder" D tys := ⟨htl, hm, hml, ho, fun w hw => hts w (List.mem_cons_of_mem _ hw), hE⟩
  refine ⟨⟨?_, ?_⟩, ⟨?_, ?_, ?_, ?_, ?_⟩, ⟨?_, ?_, ?_⟩, ⟨?_, ?_, ?_, ?_⟩, ?_⟩
  · intro i ins len hx; exact kd_1_4 (i, ins, len) hx
  · exact n_at hE.1
  · intro i ci f hx; exact c_fg10 h (i, ci, f) hx
  · intro i ci f hx; exact c_fp10 h (i, ci, f) hx
  · exact n_hap h
  · intro i ci n hx; exact c_cn10 h (i, ci, n) hx
  · exact n_hag htl
  · exact c_n110 h
  · exact c_n210 h
  · intro t ci hx; exact c_at10 h (t, ci) hx
  · intro i n hx; exact c_kI10 h (i, n) hx
  · intro i n hx; exact c_kL10 h (i, n) hx
  · exact c_ob10 h ⟨by rw [hrm]; decide, by rw [hrm]; decide⟩
  · exact c_cp10 h
  · intro ins ct hx
    have g0 : q_Call C b_1_4 D tys n_KT 4 (.invokevirtual 51) ct_138 := q_callV n_NWk h.2.2.2.2.2 h.1 (m_138 C.2.1) ⟨h.2.1.1, h.2.1.2, h.2.2.1, h.2.2.2.1, h.2.2.2.2.1⟩ ⟨n_CB (y := y_1_29) (bytes := b_1_29) 1 h.2.2.2.2.1 n_w305 n_w302 n_w1 ⟨by decide, by decide, by decide +kernel⟩ rfl rfl ⟨by rw [hrm]; decide, by rw [hrm]; decide⟩, h.2.2.2.2.1 _ n_w304, h.2.2.2.2.1 _ n_s0⟩ (Cn := RX10) ⟨40, 10, _, _, _, _, TX10, 8, rfl, rfl, rfl⟩ rfl
    have g1 : q_Call C b_1_4 D tys n_KT 4 (.invokevirtual 55) ct_14 := q_callV n_NWk h.2.2.2.2.2 h.1 (m_14 C.2.1) ⟨h.2.1.1, h.2.1.2, h.2.2.1, h.2.2.2.1, h.2.2.2.2.1⟩ ⟨n_CB (y := y_1_27) (bytes := b_1_27) 1 h.2.2.2.2.1 n_w309 n_w306 n_w1 ⟨by decide, by decide, by decide +kernel⟩ rfl rfl ⟨by rw [hrm]; decide, by rw [hrm]; decide⟩, h.2.2.2.2.1 _ n_w308, h.2.2.2.2.1 _ n_s1⟩ (Cn := RX10) ⟨40, 10, _, _, _, _, TX10, 8, rfl, rfl, rfl⟩ rfl
    have all : ∀ x ∈ [((.invokevirtual 51 : Instr), ct_138), ((.invokevirtual 55 : Instr), ct_14)], q_Call C b_1_4 D tys n_KT 4 x.1 x.2 := (n_mem2 (g0) (n_mem2 (g1) n_mem0))
    exact all (ins, ct) hx
def ct_235 : qCt := ((6, [[(0, 2147483648), (2, 1)], [(0, (-2)), (2, (-1))]], [(2, 44, [(1, 1)]), (0, 0, [(0, 4)]), (0, 0, [(2, 1)])], [([(1, 1)], 44, 0, (2, 42, [(3, 1)])), ([(3, 1)], 42, 1, (2, 8, [(4, 1)])), ([(3, 1)], 42, 0, (2, 7, [(5, 1)])), ([(5, 1)], 7, 0, (0, 0, [])), ([(5, 1)], 7, 1, (0, 0, [])), ([(5, 1)], 7, 2, (0, 0, [])), ([(5, 1)], 7, 3, (0, 0, [])), ([(5, 1)], 7, 4, (0, 0, [])), ([(5, 1)], 7, 5, (0, 0, [])), ([(1, 1)], 44, 3, (0, 0, []))]), (6, [], [(0, 0, [(0, (-1))])], [([(1, 1)], 44, 3, (0, 0, [(0, 1)])), ([(1, 1)], 44, 0, (2, 42, [(3, 1)])), ([(3, 1)], 42, 1, (2, 8, [(4, 1)])), ([(3, 1)], 42, 0, (2, 7, [(5, 1)])), ([(5, 1)], 7, 0, (0, 0, [])), ([(5, 1)], 7, 1, (0, 0, [])), ([(5, 1)], 7, 2, (0, 0, [])), ([(5, 1)], 7, 3, (0, 0, [])), ([(5, 1)], 7, 4, (0, 0, [])), ([(5, 1)], 7, 5, (0, 0, []))], []), [], [(44, 3)], 0, 0)
def rm_235 : Room := { frames := 3, cells := 0, slots := 0, locals := 71 }
def e_235 : qEn := (k_13_8, (t_fg12, t_fp12, t_cn12), (t_na12, t_at12), (t_kI12, t_kL12, t_ob12, t_cp12), [(.invokestatic 76, ct_141), (.invokestatic 69, ct_208), (.invokevirtual 82, ct_18)], (q_k (-1), [], []))
def ts_235 : List (qTm × qCert × List qHx) := [((0, (6, [[(0, 2147483648), (2, 1)], [(0, (-2)), (2, (-1))]], [(0, (2, 44, [(1, 1)])), (1, (0, 0, [(0, 4)])), (2, (0, 0, [(2, 1)]))], [], [([(1, 1)], 44, 0, (2, 42, [(3, 1)])), ([(3, 1)], 42, 1, (2, 8, [(4, 1)])), ([(3, 1)], 42, 0, (2, 7, [(5, 1)])), ([(5, 1)], 7, 0, (0, 0, [])), ([(5, 1)], 7, 1, (0, 0, [])), ([(5, 1)], 7, 2, (0, 0, [])), ([(5, 1)], 7, 3, (0, 0, [])), ([(5, 1)], 7, 4, (0, 0, [])), ([(5, 1)], 7, 5, (0, 0, [])), ([(1, 1)], 44, 3, (0, 0, []))], 0, 0), []), (1, []), [(0, 0, [], [], []), (0, 0, [], [], [0]), (0, 1, [(1, [])], [], []), (2, 0, [(1, [(3, 1)])], [], []), (0, 0, [], [], []), (0, 0, [], [], []), (0, 0, [], [], []), (0, 0, [], [], []), (0, 1, [], [], [0]), (0, 1, [], [], [2]), (0, 0, [], [], []), (0, 1, [], [], [7]), (0, 0, [], [], []), (0, 1, [(1, []), (1, [])], [], []), (0, 0, [], [], []), (0, 0, [(1, [(0, 1)]), (1, [(1, 1)])], [[(2, 1)]], [1]), (0, 1, [(1, [])], [], []), (2, 0, [(1, [(3, 1)])], [], []), (0, 0, [], [], []), (0, 0, [], [], []), (0, 0, [], [[(1, 1)]], [2]), (5, 0, [], [], [])])]
set_option maxRecDepth 100000 in
theorem m_235 (l : Launch) : q_Met l vwCl n_TL n_NW n_KT y_13_8 (Cond.code y_13_8 b_13_8 3 (some .int) :: n_GW) rm_235 ct_235 := by
  refine q_method (E := e_235) ts_235 (by decide) rfl rfl rfl ?_ (by decide +kernel)
  intro C D tys htl hl hrm hm hml ho hts hnm hE
  have h : n_ctx C b_13_8 3 "BalanceCoderModel" D tys := ⟨htl, hm, hml, ho, fun w hw => hts w (List.mem_cons_of_mem _ hw), hE⟩
  refine ⟨⟨?_, ?_⟩, ⟨?_, ?_, ?_, ?_, ?_⟩, ⟨?_, ?_, ?_⟩, ⟨?_, ?_, ?_, ?_⟩, ?_⟩
  · intro i ins len hx; exact kd_13_8 (i, ins, len) hx
  · exact n_at hE.1
  · intro i ci f hx; exact c_fg12 h (i, ci, f) hx
  · intro i ci f hx; exact c_fp12 h (i, ci, f) hx
  · exact n_hap h
  · intro i ci n hx; exact c_cn12 h (i, ci, n) hx
  · exact n_hag htl
  · exact c_n112 h
  · exact c_n212 h
  · intro t ci hx; exact c_at12 h (t, ci) hx
  · intro i n hx; exact c_kI12 h (i, n) hx
  · intro i n hx; exact c_kL12 h (i, n) hx
  · exact c_ob12 h ⟨by rw [hrm]; decide, by rw [hrm]; decide⟩
  · exact c_cp12 h
  · intro ins ct hx
    have g0 : q_Call C b_13_8 D tys n_KT 3 (.invokestatic 76) ct_141 := q_callS n_NWk h.2.2.2.2.2 h.1 (m_141 C.2.1) ⟨h.2.1.1, h.2.1.2, h.2.2.1, h.2.2.2.1, h.2.2.2.2.1⟩ ⟨n_CB (y := y_13_4) (bytes := b_13_4) 1 h.2.2.2.2.1 n_w919 n_w917 n_w12 ⟨by decide, by decide, by decide +kernel⟩ rfl rfl ⟨by rw [hrm]; decide, by rw [hrm]; decide⟩, h.2.2.2.2.1 _ n_w918⟩ rfl
    have g1 : q_Call C b_13_8 D tys n_KT 3 (.invokestatic 69) ct_208 := q_callS n_NWk h.2.2.2.2.2 h.1 (m_208 C.2.1) ⟨h.2.1.1, h.2.1.2, h.2.2.1, h.2.2.2.1, h.2.2.2.2.1⟩ ⟨n_CB (y := y_13_3) (bytes := b_13_3) 3 h.2.2.2.2.1 n_w923 n_w921 n_w12 ⟨by decide, by decide, by decide +kernel⟩ rfl rfl ⟨by rw [hrm]; decide, by rw [hrm]; decide⟩, h.2.2.2.2.1 _ n_w922⟩ rfl
    have g2 : q_Call C b_13_8 D tys n_KT 3 (.invokevirtual 82) ct_18 := q_callV n_NWk h.2.2.2.2.2 h.1 (m_18 C.2.1) ⟨h.2.1.1, h.2.1.2, h.2.2.1, h.2.2.2.1, h.2.2.2.2.1⟩ ⟨n_CB (y := y_13_2) (bytes := b_13_2) 1 h.2.2.2.2.1 n_w928 n_w925 n_w12 ⟨by decide, by decide, by decide +kernel⟩ rfl rfl ⟨by rw [hrm]; decide, by rw [hrm]; decide⟩, h.2.2.2.2.1 _ n_w927, h.2.2.2.2.1 _ n_s27⟩ (Cn := RX12) ⟨44, 12, _, _, _, _, TX12, 31, rfl, rfl, rfl⟩ rfl
    have all : ∀ x ∈ [((.invokestatic 76 : Instr), ct_141), ((.invokestatic 69 : Instr), ct_208), ((.invokevirtual 82 : Instr), ct_18)], q_Call C b_13_8 D tys n_KT 3 x.1 x.2 := (n_mem2 (g0) (n_mem2 (g1) (n_mem2 (g2) n_mem0)))
    exact all (ins, ct) hx
def ct_236 : qCt := ((16, [], [(2, 40, [(1, 1)]), (0, 0, [(0, 4)]), (0, 0, [(0, (-1))])], [([(1, 1)], 40, 7, (0, 0, [])), ([(1, 1)], 40, 0, (2, 38, [(2, 1)])), ([(2, 1)], 38, 0, (2, 17, [(3, 1)])), ([(3, 1)], 17, 5, (2, 32, [(4, 1)])), ([(4, 1)], 32, 1, (0, 0, [])), ([(4, 1)], 32, 0, (2, 0, [(5, 1)])), ([(3, 1)], 17, 4, (2, 32, [(6, 1)])), ([(6, 1)], 32, 1, (0, 0, [])), ([(6, 1)], 32, 0, (2, 0, [(7, 1)])), ([(3, 1)], 17, 3, (2, 32, [(8, 1)])), ([(8, 1)], 32, 1, (0, 0, [])), ([(8, 1)], 32, 0, (2, 0, [(9, 1)])), ([(3, 1)], 17, 2, (2, 32, [(10, 1)])), ([(10, 1)], 32, 1, (0, 0, [])), ([(10, 1)], 32, 0, (2, 0, [(11, 1)])), ([(3, 1)], 17, 1, (2, 32, [(12, 1)])), ([(12, 1)], 32, 1, (0, 0, [])), ([(12, 1)], 32, 0, (2, 0, [(13, 1)])), ([(3, 1)], 17, 0, (2, 32, [(14, 1)])), ([(14, 1)], 32, 1, (0, 0, [])), ([(14, 1)], 32, 0, (2, 0, [(15, 1)]))]), (16, [], [(0, 0, [])], [([(1, 1)], 40, 0, (2, 38, [(2, 1)])), ([(2, 1)], 38, 0, (2, 17, [(3, 1)])), ([(3, 1)], 17, 5, (2, 32, [(4, 1)])), ([(3, 1)], 17, 4, (2, 32, [(6, 1)])), ([(3, 1)], 17, 3, (2, 32, [(8, 1)])), ([(3, 1)], 17, 2, (2, 32, [(10, 1)])), ([(3, 1)], 17, 1, (2, 32, [(12, 1)])), ([(3, 1)], 17, 0, (2, 32, [(14, 1)])), ([(1, 1)], 40, 7, (0, 0, [])), ([(4, 1)], 32, 1, (0, 0, [])), ([(4, 1)], 32, 0, (2, 0, [(5, 1)])), ([(6, 1)], 32, 1, (0, 0, [])), ([(6, 1)], 32, 0, (2, 0, [(7, 1)])), ([(8, 1)], 32, 1, (0, 0, [])), ([(8, 1)], 32, 0, (2, 0, [(9, 1)])), ([(10, 1)], 32, 1, (0, 0, [])), ([(10, 1)], 32, 0, (2, 0, [(11, 1)])), ([(12, 1)], 32, 1, (0, 0, [])), ([(12, 1)], 32, 0, (2, 0, [(13, 1)])), ([(14, 1)], 32, 1, (0, 0, [])), ([(14, 1)], 32, 0, (2, 0, [(15, 1)]))], []), [], [], 0, 0)
def rm_236 : Room := { frames := 2, cells := 0, slots := 0, locals := 47 }
def e_236 : qEn := (k_1_4, (t_fg10, t_fp10, t_cn10), (t_na10, t_at10), (t_kI10, t_kL10, t_ob10, t_cp10), [(.invokevirtual 51, ct_138)], (q_k (-1), [], []))
def ts_236 : List (qTm × qCert × List qHx) := [((0, (16, [], [(0, (2, 40, [(1, 1)])), (1, (0, 0, [(0, 4)])), (2, (0, 0, [(0, (-1))]))], [], [([(1, 1)], 40, 7, (0, 0, [])), ([(1, 1)], 40, 0, (2, 38, [(2, 1)])), ([(2, 1)], 38, 0, (2, 17, [(3, 1)])), ([(3, 1)], 17, 5, (2, 32, [(4, 1)])), ([(4, 1)], 32, 1, (0, 0, [])), ([(4, 1)], 32, 0, (2, 0, [(5, 1)])), ([(3, 1)], 17, 4, (2, 32, [(6, 1)])), ([(6, 1)], 32, 1, (0, 0, [])), ([(6, 1)], 32, 0, (2, 0, [(7, 1)])), ([(3, 1)], 17, 3, (2, 32, [(8, 1)])), ([(8, 1)], 32, 1, (0, 0, [])), ([(8, 1)], 32, 0, (2, 0, [(9, 1)])), ([(3, 1)], 17, 2, (2, 32, [(10, 1)])), ([(10, 1)], 32, 1, (0, 0, [])), ([(10, 1)], 32, 0, (2, 0, [(11, 1)])), ([(3, 1)], 17, 1, (2, 32, [(12, 1)])), ([(12, 1)], 32, 1, (0, 0, [])), ([(12, 1)], 32, 0, (2, 0, [(13, 1)])), ([(3, 1)], 17, 0, (2, 32, [(14, 1)])), ([(14, 1)], 32, 1, (0, 0, [])), ([(14, 1)], 32, 0, (2, 0, [(15, 1)]))], 0, 0), []), (1, []), [(0, 0, [], [], []), (0, 0, [], [], []), (0, 0, [], [[(1, 1)], [(2, 1)], [(3, 1)], [(4, 1)], [(6, 1)], [(8, 1)], [(10, 1)], [(12, 1)], [(14, 1)]], [0]), (0, 0, [], [], []), (0, 0, [], [], []), (0, 0, [], [], []), (0, 0, [], [], []), (0, 0, [], [], []), (0, 0, [], [], []), (2, 0, [(1, [(0, 1)])], [], []), (0, 0, [], [], []), (0, 0, [], [], []), (0, 1, [], [], [15]), (0, 0, [], [], []), (0, 0, [], [], []), (0, 0, [], [], []), (0, 1, [(1, [])], [], []), (2, 0, [(1, [(2, 1)])], [], []), (0, 0, [], [], []), (0, 1, [], [], [15]), (0, 0, [], [], []), (5, 0, [], [], []), (2, 0, [(1, [(1, 1)])], [], [])])]
set_option maxRecDepth 100000 in
theorem m_236 (l : Launch) : q_Met l vwCl n_TL n_NW n_KT y_1_4 (Cond.code y_1_4 b_1_4 4 (some .int) :: n_GW) rm_236 ct_236 := by
  refine q_method (E := e_236) ts_236 (by decide) rfl rfl rfl ?_ (by decide +kernel)
  intro C D tys htl hl hrm hm hml ho hts hnm hE
  have h : n_ctx C b_1_4 4 "BalanceCoder" D tys := ⟨htl, hm, hml, ho, fun w hw => hts w (List.mem_cons_of_mem _ hw), hE⟩
  refine ⟨⟨?_, ?_⟩, ⟨?_, ?_, ?_, ?_, ?_⟩, ⟨?_, ?_, ?_⟩, ⟨?_, ?_, ?_, ?_⟩, ?_⟩
  · intro i ins len hx; exact kd_1_4 (i, ins, len) hx
  · exact n_at hE.1
  · intro i ci f hx; exact c_fg10 h (i, ci, f) hx
  · intro i ci f hx; exact c_fp10 h (i, ci, f) hx
  · exact n_hap h
  · intro i ci n hx; exact c_cn10 h (i, ci, n) hx
  · exact n_hag htl
  · exact c_n110 h
  · exact c_n210 h
  · intro t ci hx; exact c_at10 h (t, ci) hx
  · intro i n hx; exact c_kI10 h (i, n) hx
  · intro i n hx; exact c_kL10 h (i, n) hx
  · exact c_ob10 h ⟨by rw [hrm]; decide, by rw [hrm]; decide⟩
  · exact c_cp10 h
  · intro ins ct hx
    have g0 : q_Call C b_1_4 D tys n_KT 4 (.invokevirtual 51) ct_138 := q_callV n_NWk h.2.2.2.2.2 h.1 (m_138 C.2.1) ⟨h.2.1.1, h.2.1.2, h.2.2.1, h.2.2.2.1, h.2.2.2.2.1⟩ ⟨n_CB (y := y_1_29) (bytes := b_1_29) 1 h.2.2.2.2.1 n_w305 n_w302 n_w1 ⟨by decide, by decide, by decide +kernel⟩ rfl rfl ⟨by rw [hrm]; decide, by rw [hrm]; decide⟩, h.2.2.2.2.1 _ n_w304, h.2.2.2.2.1 _ n_s0⟩ (Cn := RX10) ⟨40, 10, _, _, _, _, TX10, 8, rfl, rfl, rfl⟩ rfl
    have all : ∀ x ∈ [((.invokevirtual 51 : Instr), ct_138)], q_Call C b_1_4 D tys n_KT 4 x.1 x.2 := (n_mem2 (g0) n_mem0)
    exact all (ins, ct) hx
def ct_237 : qCt := ((5, [], [(2, 44, [(1, 1)]), (0, 0, [(0, 4)]), (0, 0, [(0, (-1))])], [([(1, 1)], 44, 0, (2, 42, [(2, 1)])), ([(2, 1)], 42, 1, (2, 8, [(3, 1)])), ([(2, 1)], 42, 0, (2, 7, [(4, 1)])), ([(4, 1)], 7, 0, (0, 0, [])), ([(4, 1)], 7, 1, (0, 0, [])), ([(4, 1)], 7, 2, (0, 0, [])), ([(4, 1)], 7, 3, (0, 0, [])), ([(4, 1)], 7, 4, (0, 0, [])), ([(4, 1)], 7, 5, (0, 0, [])), ([(1, 1)], 44, 3, (0, 0, []))]), (5, [], [(0, 0, [])], [([(1, 1)], 44, 0, (2, 42, [(2, 1)])), ([(2, 1)], 42, 1, (2, 8, [(3, 1)])), ([(2, 1)], 42, 0, (2, 7, [(4, 1)])), ([(4, 1)], 7, 0, (0, 0, [])), ([(4, 1)], 7, 1, (0, 0, [])), ([(4, 1)], 7, 2, (0, 0, [])), ([(4, 1)], 7, 3, (0, 0, [])), ([(4, 1)], 7, 4, (0, 0, [])), ([(4, 1)], 7, 5, (0, 0, [])), ([(1, 1)], 44, 3, (0, 0, []))], []), [], [], 0, 0)
def rm_237 : Room := { frames := 3, cells := 0, slots := 0, locals := 71 }
def e_237 : qEn := (k_13_8, (t_fg12, t_fp12, t_cn12), (t_na12, t_at12), (t_kI12, t_kL12, t_ob12, t_cp12), [(.invokestatic 76, ct_141), (.invokestatic 69, ct_211)], (q_k (-1), [], []))
def ts_237 : List (qTm × qCert × List qHx) := [((0, (5, [], [(0, (2, 44, [(1, 1)])), (1, (0, 0, [(0, 4)])), (2, (0, 0, [(0, (-1))]))], [], [([(1, 1)], 44, 0, (2, 42, [(2, 1)])), ([(2, 1)], 42, 1, (2, 8, [(3, 1)])), ([(2, 1)], 42, 0, (2, 7, [(4, 1)])), ([(4, 1)], 7, 0, (0, 0, [])), ([(4, 1)], 7, 1, (0, 0, [])), ([(4, 1)], 7, 2, (0, 0, [])), ([(4, 1)], 7, 3, (0, 0, [])), ([(4, 1)], 7, 4, (0, 0, [])), ([(4, 1)], 7, 5, (0, 0, [])), ([(1, 1)], 44, 3, (0, 0, []))], 0, 0), []), (1, []), [(0, 0, [], [], []), (0, 0, [], [], [0]), (0, 1, [(1, [])], [], []), (2, 0, [(1, [(1, 1)])], [], []), (0, 0, [], [], []), (0, 0, [], [], []), (0, 0, [], [], []), (0, 0, [], [], []), (0, 1, [], [], [0]), (0, 1, [], [], [2]), (0, 0, [], [], []), (0, 1, [], [], [7]), (0, 0, [], [], []), (0, 1, [(1, []), (1, [])], [], []), (0, 0, [], [], []), (0, 0, [], [], [1]), (0, 1, [(1, [])], [], []), (0, 0, [], [], []), (0, 0, [], [], []), (2, 0, [(1, [(2, 1)])], [], []), (0, 0, [], [], []), (0, 1, [], [], [0]), (0, 1, [], [], [2]), (0, 0, [], [], []), (0, 1, [], [], [7]), (0, 0, [], [], []), (5, 0, [], [], []), (2, 0, [(1, [(2, 1)])], [], [])])]
set_option maxRecDepth 100000 in
theorem m_237 (l : Launch) : q_Met l vwCl n_TL n_NW n_KT y_13_8 (Cond.code y_13_8 b_13_8 3 (some .int) :: n_GW) rm_237 ct_237 := by
  refine q_method (E := e_237) ts_237 (by decide) rfl rfl rfl ?_ (by decide +kernel)
  intro C D tys htl hl hrm hm hml ho hts hnm hE
  have h : n_ctx C b_13_8 3 "BalanceCoderModel" D tys := ⟨htl, hm, hml, ho, fun w hw => hts w (List.mem_cons_of_mem _ hw), hE⟩
  refine ⟨⟨?_, ?_⟩, ⟨?_, ?_, ?_, ?_, ?_⟩, ⟨?_, ?_, ?_⟩, ⟨?_, ?_, ?_, ?_⟩, ?_⟩
  · intro i ins len hx; exact kd_13_8 (i, ins, len) hx
  · exact n_at hE.1
  · intro i ci f hx; exact c_fg12 h (i, ci, f) hx
  · intro i ci f hx; exact c_fp12 h (i, ci, f) hx
  · exact n_hap h
  · intro i ci n hx; exact c_cn12 h (i, ci, n) hx
  · exact n_hag htl
  · exact c_n112 h
  · exact c_n212 h
  · intro t ci hx; exact c_at12 h (t, ci) hx
  · intro i n hx; exact c_kI12 h (i, n) hx
  · intro i n hx; exact c_kL12 h (i, n) hx
  · exact c_ob12 h ⟨by rw [hrm]; decide, by rw [hrm]; decide⟩
  · exact c_cp12 h
  · intro ins ct hx
    have g0 : q_Call C b_13_8 D tys n_KT 3 (.invokestatic 76) ct_141 := q_callS n_NWk h.2.2.2.2.2 h.1 (m_141 C.2.1) ⟨h.2.1.1, h.2.1.2, h.2.2.1, h.2.2.2.1, h.2.2.2.2.1⟩ ⟨n_CB (y := y_13_4) (bytes := b_13_4) 1 h.2.2.2.2.1 n_w919 n_w917 n_w12 ⟨by decide, by decide, by decide +kernel⟩ rfl rfl ⟨by rw [hrm]; decide, by rw [hrm]; decide⟩, h.2.2.2.2.1 _ n_w918⟩ rfl
    have g1 : q_Call C b_13_8 D tys n_KT 3 (.invokestatic 69) ct_211 := q_callS n_NWk h.2.2.2.2.2 h.1 (m_211 C.2.1) ⟨h.2.1.1, h.2.1.2, h.2.2.1, h.2.2.2.1, h.2.2.2.2.1⟩ ⟨n_CB (y := y_13_3) (bytes := b_13_3) 3 h.2.2.2.2.1 n_w923 n_w921 n_w12 ⟨by decide, by decide, by decide +kernel⟩ rfl rfl ⟨by rw [hrm]; decide, by rw [hrm]; decide⟩, h.2.2.2.2.1 _ n_w922⟩ rfl
    have all : ∀ x ∈ [((.invokestatic 76 : Instr), ct_141), ((.invokestatic 69 : Instr), ct_211)], q_Call C b_13_8 D tys n_KT 3 x.1 x.2 := (n_mem2 (g0) (n_mem2 (g1) n_mem0))
    exact all (ins, ct) hx
def ct_238 : qCt := ((17, [[(2, 1)], [(0, 2147483647), (2, (-1))]], [(2, 40, [(1, 1)]), (0, 0, [(0, 4)]), (0, 0, [(2, 1)])], [([(1, 1)], 40, 7, (0, 0, [])), ([(1, 1)], 40, 0, (2, 38, [(3, 1)])), ([(3, 1)], 38, 0, (2, 17, [(4, 1)])), ([(4, 1)], 17, 5, (2, 32, [(5, 1)])), ([(5, 1)], 32, 1, (0, 0, [])), ([(5, 1)], 32, 0, (2, 0, [(6, 1)])), ([(4, 1)], 17, 4, (2, 32, [(7, 1)])), ([(7, 1)], 32, 1, (0, 0, [])), ([(7, 1)], 32, 0, (2, 0, [(8, 1)])), ([(4, 1)], 17, 3, (2, 32, [(9, 1)])), ([(9, 1)], 32, 1, (0, 0, [])), ([(9, 1)], 32, 0, (2, 0, [(10, 1)])), ([(4, 1)], 17, 2, (2, 32, [(11, 1)])), ([(11, 1)], 32, 1, (0, 0, [])), ([(11, 1)], 32, 0, (2, 0, [(12, 1)])), ([(4, 1)], 17, 1, (2, 32, [(13, 1)])), ([(13, 1)], 32, 1, (0, 0, [])), ([(13, 1)], 32, 0, (2, 0, [(14, 1)])), ([(4, 1)], 17, 0, (2, 32, [(15, 1)])), ([(15, 1)], 32, 1, (0, 0, [])), ([(15, 1)], 32, 0, (2, 0, [(16, 1)]))]), (17, [], [(0, 0, [(0, (-1))])], [([(1, 1)], 40, 7, (0, 0, [(0, 1)])), ([(1, 1)], 40, 0, (2, 38, [(3, 1)])), ([(3, 1)], 38, 0, (2, 17, [(4, 1)])), ([(4, 1)], 17, 5, (2, 32, [(5, 1)])), ([(4, 1)], 17, 4, (2, 32, [(7, 1)])), ([(4, 1)], 17, 3, (2, 32, [(9, 1)])), ([(4, 1)], 17, 2, (2, 32, [(11, 1)])), ([(4, 1)], 17, 1, (2, 32, [(13, 1)])), ([(4, 1)], 17, 0, (2, 32, [(15, 1)])), ([(5, 1)], 32, 1, (0, 0, [])), ([(5, 1)], 32, 0, (2, 0, [(6, 1)])), ([(7, 1)], 32, 1, (0, 0, [])), ([(7, 1)], 32, 0, (2, 0, [(8, 1)])), ([(9, 1)], 32, 1, (0, 0, [])), ([(9, 1)], 32, 0, (2, 0, [(10, 1)])), ([(11, 1)], 32, 1, (0, 0, [])), ([(11, 1)], 32, 0, (2, 0, [(12, 1)])), ([(13, 1)], 32, 1, (0, 0, [])), ([(13, 1)], 32, 0, (2, 0, [(14, 1)])), ([(15, 1)], 32, 1, (0, 0, [])), ([(15, 1)], 32, 0, (2, 0, [(16, 1)]))], []), [], [(40, 7)], 0, 0)
def rm_238 : Room := { frames := 2, cells := 0, slots := 0, locals := 47 }
def e_238 : qEn := (k_1_4, (t_fg10, t_fp10, t_cn10), (t_na10, t_at10), (t_kI10, t_kL10, t_ob10, t_cp10), [(.invokevirtual 51, ct_138), (.invokevirtual 55, ct_14)], (q_k (-1), [], []))
def ts_238 : List (qTm × qCert × List qHx) := [((0, (17, [[(2, 1)], [(0, 2147483647), (2, (-1))]], [(0, (2, 40, [(1, 1)])), (1, (0, 0, [(0, 4)])), (2, (0, 0, [(2, 1)]))], [], [([(1, 1)], 40, 7, (0, 0, [])), ([(1, 1)], 40, 0, (2, 38, [(3, 1)])), ([(3, 1)], 38, 0, (2, 17, [(4, 1)])), ([(4, 1)], 17, 5, (2, 32, [(5, 1)])), ([(5, 1)], 32, 1, (0, 0, [])), ([(5, 1)], 32, 0, (2, 0, [(6, 1)])), ([(4, 1)], 17, 4, (2, 32, [(7, 1)])), ([(7, 1)], 32, 1, (0, 0, [])), ([(7, 1)], 32, 0, (2, 0, [(8, 1)])), ([(4, 1)], 17, 3, (2, 32, [(9, 1)])), ([(9, 1)], 32, 1, (0, 0, [])), ([(9, 1)], 32, 0, (2, 0, [(10, 1)])), ([(4, 1)], 17, 2, (2, 32, [(11, 1)])), ([(11, 1)], 32, 1, (0, 0, [])), ([(11, 1)], 32, 0, (2, 0, [(12, 1)])), ([(4, 1)], 17, 1, (2, 32, [(13, 1)])), ([(13, 1)], 32, 1, (0, 0, [])), ([(13, 1)], 32, 0, (2, 0, [(14, 1)])), ([(4, 1)], 17, 0, (2, 32, [(15, 1)])), ([(15, 1)], 32, 1, (0, 0, [])), ([(15, 1)], 32, 0, (2, 0, [(16, 1)]))], 0, 0), []), (1, []), [(0, 0, [], [], []), (0, 0, [], [], []), (0, 0, [], [[(1, 1)], [(3, 1)], [(4, 1)], [(5, 1)], [(7, 1)], [(9, 1)], [(11, 1)], [(13, 1)], [(15, 1)]], [0]), (0, 0, [], [], []), (0, 0, [], [], []), (0, 0, [], [], []), (0, 0, [], [], []), (0, 0, [], [], []), (0, 0, [], [], []), (2, 0, [(1, [(0, 1), (2, 1)])], [], []), (0, 0, [], [], []), (0, 0, [], [], []), (0, 1, [], [], [15]), (0, 0, [], [], []), (2, 0, [(1, [(0, 1), (3, 1)])], [], []), (0, 0, [], [], []), (0, 0, [], [], []), (0, 0, [], [[(1, 1)]], [1]), (5, 0, [], [], [])])]
set_option maxRecDepth 100000 in
theorem m_238 (l : Launch) : q_Met l vwCl n_TL n_NW n_KT y_1_4 (Cond.code y_1_4 b_1_4 4 (some .int) :: n_GW) rm_238 ct_238 := by
  refine q_method (E := e_238) ts_238 (by decide) rfl rfl rfl ?_ (by decide +kernel)
  intro C D tys htl hl hrm hm hml ho hts hnm hE
  have h : n_ctx C b_1_4 4 "BalanceCoder" D tys := ⟨htl, hm, hml, ho, fun w hw => hts w (List.mem_cons_of_mem _ hw), hE⟩
  refine ⟨⟨?_, ?_⟩, ⟨?_, ?_, ?_, ?_, ?_⟩, ⟨?_, ?_, ?_⟩, ⟨?_, ?_, ?_, ?_⟩, ?_⟩
  · intro i ins len hx; exact kd_1_4 (i, ins, len) hx
  · exact n_at hE.1
  · intro i ci f hx; exact c_fg10 h (i, ci, f) hx
  · intro i ci f hx; exact c_fp10 h (i, ci, f) hx
  · exact n_hap h
  · intro i ci n hx; exact c_cn10 h (i, ci, n) hx
  · exact n_hag htl
  · exact c_n110 h
  · exact c_n210 h
  · intro t ci hx; exact c_at10 h (t, ci) hx
  · intro i n hx; exact c_kI10 h (i, n) hx
  · intro i n hx; exact c_kL10 h (i, n) hx
  · exact c_ob10 h ⟨by rw [hrm]; decide, by rw [hrm]; decide⟩
  · exact c_cp10 h
  · intro ins ct hx
    have g0 : q_Call C b_1_4 D tys n_KT 4 (.invokevirtual 51) ct_138 := q_callV n_NWk h.2.2.2.2.2 h.1 (m_138 C.2.1) ⟨h.2.1.1, h.2.1.2, h.2.2.1, h.2.2.2.1, h.2.2.2.2.1⟩ ⟨n_CB (y := y_1_29) (bytes := b_1_29) 1 h.2.2.2.2.1 n_w305 n_w302 n_w1 ⟨by decide, by decide, by decide +kernel⟩ rfl rfl ⟨by rw [hrm]; decide, by rw [hrm]; decide⟩, h.2.2.2.2.1 _ n_w304, h.2.2.2.2.1 _ n_s0⟩ (Cn := RX10) ⟨40, 10, _, _, _, _, TX10, 8, rfl, rfl, rfl⟩ rfl
    have g1 : q_Call C b_1_4 D tys n_KT 4 (.invokevirtual 55) ct_14 := q_callV n_NWk h.2.2.2.2.2 h.1 (m_14 C.2.1) ⟨h.2.1.1, h.2.1.2, h.2.2.1, h.2.2.2.1, h.2.2.2.2.1⟩ ⟨n_CB (y := y_1_27) (bytes := b_1_27) 1 h.2.2.2.2.1 n_w309 n_w306 n_w1 ⟨by decide, by decide, by decide +kernel⟩ rfl rfl ⟨by rw [hrm]; decide, by rw [hrm]; decide⟩, h.2.2.2.2.1 _ n_w308, h.2.2.2.2.1 _ n_s1⟩ (Cn := RX10) ⟨40, 10, _, _, _, _, TX10, 8, rfl, rfl, rfl⟩ rfl
    have all : ∀ x ∈ [((.invokevirtual 51 : Instr), ct_138), ((.invokevirtual 55 : Instr), ct_14)], q_Call C b_1_4 D tys n_KT 4 x.1 x.2 := (n_mem2 (g0) (n_mem2 (g1) n_mem0))
    exact all (ins, ct) hx
def ct_239 : qCt := ((6, [[(2, 1)], [(0, 2147483647), (2, (-1))]], [(2, 44, [(1, 1)]), (0, 0, [(0, 4)]), (0, 0, [(2, 1)])], [([(1, 1)], 44, 0, (2, 42, [(3, 1)])), ([(3, 1)], 42, 1, (2, 8, [(4, 1)])), ([(3, 1)], 42, 0, (2, 7, [(5, 1)])), ([(5, 1)], 7, 0, (0, 0, [])), ([(5, 1)], 7, 1, (0, 0, [])), ([(5, 1)], 7, 2, (0, 0, [])), ([(5, 1)], 7, 3, (0, 0, [])), ([(5, 1)], 7, 4, (0, 0, [])), ([(5, 1)], 7, 5, (0, 0, [])), ([(1, 1)], 44, 3, (0, 0, []))]), (6, [], [(0, 0, [(0, (-1))])], [([(1, 1)], 44, 3, (0, 0, [(0, 1)])), ([(1, 1)], 44, 0, (2, 42, [(3, 1)])), ([(3, 1)], 42, 1, (2, 8, [(4, 1)])), ([(3, 1)], 42, 0, (2, 7, [(5, 1)])), ([(5, 1)], 7, 0, (0, 0, [])), ([(5, 1)], 7, 1, (0, 0, [])), ([(5, 1)], 7, 2, (0, 0, [])), ([(5, 1)], 7, 3, (0, 0, [])), ([(5, 1)], 7, 4, (0, 0, [])), ([(5, 1)], 7, 5, (0, 0, []))], []), [], [(44, 3)], 0, 0)
def rm_239 : Room := { frames := 3, cells := 0, slots := 0, locals := 71 }
def e_239 : qEn := (k_13_8, (t_fg12, t_fp12, t_cn12), (t_na12, t_at12), (t_kI12, t_kL12, t_ob12, t_cp12), [(.invokestatic 76, ct_141), (.invokestatic 69, ct_214), (.invokevirtual 82, ct_18)], (q_k (-1), [], []))
def ts_239 : List (qTm × qCert × List qHx) := [((0, (6, [[(2, 1)], [(0, 2147483647), (2, (-1))]], [(0, (2, 44, [(1, 1)])), (1, (0, 0, [(0, 4)])), (2, (0, 0, [(2, 1)]))], [], [([(1, 1)], 44, 0, (2, 42, [(3, 1)])), ([(3, 1)], 42, 1, (2, 8, [(4, 1)])), ([(3, 1)], 42, 0, (2, 7, [(5, 1)])), ([(5, 1)], 7, 0, (0, 0, [])), ([(5, 1)], 7, 1, (0, 0, [])), ([(5, 1)], 7, 2, (0, 0, [])), ([(5, 1)], 7, 3, (0, 0, [])), ([(5, 1)], 7, 4, (0, 0, [])), ([(5, 1)], 7, 5, (0, 0, [])), ([(1, 1)], 44, 3, (0, 0, []))], 0, 0), []), (1, []), [(0, 0, [], [], []), (0, 0, [], [], [0]), (0, 1, [(1, [])], [], []), (2, 0, [(1, [(3, 1)])], [], []), (0, 0, [], [], []), (0, 0, [], [], []), (0, 0, [], [], []), (0, 0, [], [], []), (0, 1, [], [], [0]), (0, 1, [], [], [2]), (0, 0, [], [], []), (0, 1, [], [], [7]), (0, 0, [], [], []), (0, 1, [(1, []), (1, [])], [], []), (0, 0, [], [], []), (0, 0, [(1, [(0, 1)]), (1, [(1, 1)])], [[(2, 1)]], [1]), (0, 1, [(1, [])], [], []), (2, 0, [(1, [(3, 1)])], [], []), (0, 0, [], [], []), (0, 0, [], [], []), (0, 0, [], [[(1, 1)]], [2]), (5, 0, [], [], [])])]
set_option maxRecDepth 100000 in
theorem m_239 (l : Launch) : q_Met l vwCl n_TL n_NW n_KT y_13_8 (Cond.code y_13_8 b_13_8 3 (some .int) :: n_GW) rm_239 ct_239 := by
  refine q_method (E := e_239) ts_239 (by decide) rfl rfl rfl ?_ (by decide +kernel)
  intro C D tys htl hl hrm hm hml ho hts hnm hE
  have h : n_ctx C b_13_8 3 "BalanceCoderModel" D tys := ⟨htl, hm, hml, ho, fun w hw => hts w (List.mem_cons_of_mem _ hw), hE⟩
  refine ⟨⟨?_, ?_⟩, ⟨?_, ?_, ?_, ?_, ?_⟩, ⟨?_, ?_, ?_⟩, ⟨?_, ?_, ?_, ?_⟩, ?_⟩
  · intro i ins len hx; exact kd_13_8 (i, ins, len) hx
  · exact n_at hE.1
  · intro i ci f hx; exact c_fg12 h (i, ci, f) hx
  · intro i ci f hx; exact c_fp12 h (i, ci, f) hx
  · exact n_hap h
  · intro i ci n hx; exact c_cn12 h (i, ci, n) hx
  · exact n_hag htl
  · exact c_n112 h
  · exact c_n212 h
  · intro t ci hx; exact c_at12 h (t, ci) hx
  · intro i n hx; exact c_kI12 h (i, n) hx
  · intro i n hx; exact c_kL12 h (i, n) hx
  · exact c_ob12 h ⟨by rw [hrm]; decide, by rw [hrm]; decide⟩
  · exact c_cp12 h
  · intro ins ct hx
    have g0 : q_Call C b_13_8 D tys n_KT 3 (.invokestatic 76) ct_141 := q_callS n_NWk h.2.2.2.2.2 h.1 (m_141 C.2.1) ⟨h.2.1.1, h.2.1.2, h.2.2.1, h.2.2.2.1, h.2.2.2.2.1⟩ ⟨n_CB (y := y_13_4) (bytes := b_13_4) 1 h.2.2.2.2.1 n_w919 n_w917 n_w12 ⟨by decide, by decide, by decide +kernel⟩ rfl rfl ⟨by rw [hrm]; decide, by rw [hrm]; decide⟩, h.2.2.2.2.1 _ n_w918⟩ rfl
    have g1 : q_Call C b_13_8 D tys n_KT 3 (.invokestatic 69) ct_214 := q_callS n_NWk h.2.2.2.2.2 h.1 (m_214 C.2.1) ⟨h.2.1.1, h.2.1.2, h.2.2.1, h.2.2.2.1, h.2.2.2.2.1⟩ ⟨n_CB (y := y_13_3) (bytes := b_13_3) 3 h.2.2.2.2.1 n_w923 n_w921 n_w12 ⟨by decide, by decide, by decide +kernel⟩ rfl rfl ⟨by rw [hrm]; decide, by rw [hrm]; decide⟩, h.2.2.2.2.1 _ n_w922⟩ rfl
    have g2 : q_Call C b_13_8 D tys n_KT 3 (.invokevirtual 82) ct_18 := q_callV n_NWk h.2.2.2.2.2 h.1 (m_18 C.2.1) ⟨h.2.1.1, h.2.1.2, h.2.2.1, h.2.2.2.1, h.2.2.2.2.1⟩ ⟨n_CB (y := y_13_2) (bytes := b_13_2) 1 h.2.2.2.2.1 n_w928 n_w925 n_w12 ⟨by decide, by decide, by decide +kernel⟩ rfl rfl ⟨by rw [hrm]; decide, by rw [hrm]; decide⟩, h.2.2.2.2.1 _ n_w927, h.2.2.2.2.1 _ n_s27⟩ (Cn := RX12) ⟨44, 12, _, _, _, _, TX12, 31, rfl, rfl, rfl⟩ rfl
    have all : ∀ x ∈ [((.invokestatic 76 : Instr), ct_141), ((.invokestatic 69 : Instr), ct_214), ((.invokevirtual 82 : Instr), ct_18)], q_Call C b_13_8 D tys n_KT 3 x.1 x.2 := (n_mem2 (g0) (n_mem2 (g1) (n_mem2 (g2) n_mem0)))
    exact all (ins, ct) hx
def ct_240 : qCt := ((17, [[(0, 2147483648), (2, 1)], [(0, (-2)), (2, (-1))]], [(2, 40, [(1, 1)]), (0, 0, [(0, 5)]), (0, 0, [(2, 1)])], [([(1, 1)], 40, 7, (0, 0, [])), ([(1, 1)], 40, 0, (2, 38, [(3, 1)])), ([(3, 1)], 38, 0, (2, 17, [(4, 1)])), ([(4, 1)], 17, 5, (2, 32, [(5, 1)])), ([(5, 1)], 32, 1, (0, 0, [])), ([(5, 1)], 32, 0, (2, 0, [(6, 1)])), ([(4, 1)], 17, 4, (2, 32, [(7, 1)])), ([(7, 1)], 32, 1, (0, 0, [])), ([(7, 1)], 32, 0, (2, 0, [(8, 1)])), ([(4, 1)], 17, 3, (2, 32, [(9, 1)])), ([(9, 1)], 32, 1, (0, 0, [])), ([(9, 1)], 32, 0, (2, 0, [(10, 1)])), ([(4, 1)], 17, 2, (2, 32, [(11, 1)])), ([(11, 1)], 32, 1, (0, 0, [])), ([(11, 1)], 32, 0, (2, 0, [(12, 1)])), ([(4, 1)], 17, 1, (2, 32, [(13, 1)])), ([(13, 1)], 32, 1, (0, 0, [])), ([(13, 1)], 32, 0, (2, 0, [(14, 1)])), ([(4, 1)], 17, 0, (2, 32, [(15, 1)])), ([(15, 1)], 32, 1, (0, 0, [])), ([(15, 1)], 32, 0, (2, 0, [(16, 1)]))]), (17, [], [(0, 0, [(0, (-1))])], [([(1, 1)], 40, 7, (0, 0, [(0, 1)])), ([(1, 1)], 40, 0, (2, 38, [(3, 1)])), ([(3, 1)], 38, 0, (2, 17, [(4, 1)])), ([(4, 1)], 17, 5, (2, 32, [(5, 1)])), ([(4, 1)], 17, 4, (2, 32, [(7, 1)])), ([(4, 1)], 17, 3, (2, 32, [(9, 1)])), ([(4, 1)], 17, 2, (2, 32, [(11, 1)])), ([(4, 1)], 17, 1, (2, 32, [(13, 1)])), ([(4, 1)], 17, 0, (2, 32, [(15, 1)])), ([(5, 1)], 32, 1, (0, 0, [])), ([(5, 1)], 32, 0, (2, 0, [(6, 1)])), ([(7, 1)], 32, 1, (0, 0, [])), ([(7, 1)], 32, 0, (2, 0, [(8, 1)])), ([(9, 1)], 32, 1, (0, 0, [])), ([(9, 1)], 32, 0, (2, 0, [(10, 1)])), ([(11, 1)], 32, 1, (0, 0, [])), ([(11, 1)], 32, 0, (2, 0, [(12, 1)])), ([(13, 1)], 32, 1, (0, 0, [])), ([(13, 1)], 32, 0, (2, 0, [(14, 1)])), ([(15, 1)], 32, 1, (0, 0, [])), ([(15, 1)], 32, 0, (2, 0, [(16, 1)]))], []), [], [(40, 7)], 0, 0)
def rm_240 : Room := { frames := 2, cells := 0, slots := 0, locals := 47 }
def e_240 : qEn := (k_1_4, (t_fg10, t_fp10, t_cn10), (t_na10, t_at10), (t_kI10, t_kL10, t_ob10, t_cp10), [(.invokevirtual 51, ct_161), (.invokevirtual 55, ct_14)], (q_k (-1), [], []))
def ts_240 : List (qTm × qCert × List qHx) := [((0, (17, [[(0, 2147483648), (2, 1)], [(0, (-2)), (2, (-1))]], [(0, (2, 40, [(1, 1)])), (1, (0, 0, [(0, 5)])), (2, (0, 0, [(2, 1)]))], [], [([(1, 1)], 40, 7, (0, 0, [])), ([(1, 1)], 40, 0, (2, 38, [(3, 1)])), ([(3, 1)], 38, 0, (2, 17, [(4, 1)])), ([(4, 1)], 17, 5, (2, 32, [(5, 1)])), ([(5, 1)], 32, 1, (0, 0, [])), ([(5, 1)], 32, 0, (2, 0, [(6, 1)])), ([(4, 1)], 17, 4, (2, 32, [(7, 1)])), ([(7, 1)], 32, 1, (0, 0, [])), ([(7, 1)], 32, 0, (2, 0, [(8, 1)])), ([(4, 1)], 17, 3, (2, 32, [(9, 1)])), ([(9, 1)], 32, 1, (0, 0, [])), ([(9, 1)], 32, 0, (2, 0, [(10, 1)])), ([(4, 1)], 17, 2, (2, 32, [(11, 1)])), ([(11, 1)], 32, 1, (0, 0, [])), ([(11, 1)], 32, 0, (2, 0, [(12, 1)])), ([(4, 1)], 17, 1, (2, 32, [(13, 1)])), ([(13, 1)], 32, 1, (0, 0, [])), ([(13, 1)], 32, 0, (2, 0, [(14, 1)])), ([(4, 1)], 17, 0, (2, 32, [(15, 1)])), ([(15, 1)], 32, 1, (0, 0, [])), ([(15, 1)], 32, 0, (2, 0, [(16, 1)]))], 0, 0), []), (1, []), [(0, 0, [], [], []), (0, 0, [], [], []), (0, 0, [], [[(1, 1)], [(3, 1)], [(4, 1)], [(5, 1)], [(7, 1)], [(9, 1)], [(11, 1)], [(13, 1)], [(15, 1)]], [0]), (0, 0, [], [], []), (0, 0, [], [], []), (0, 0, [], [], []), (0, 0, [], [], []), (0, 0, [], [], []), (0, 0, [], [], []), (0, 0, [], [], []), (0, 0, [], [], []), (0, 0, [], [[(1, 1)]], [1]), (5, 0, [], [], []), (2, 0, [(1, [(1, 1), (2, 1)])], [], [])])]
set_option maxRecDepth 100000 in
theorem m_240 (l : Launch) : q_Met l vwCl n_TL n_NW n_KT y_1_4 (Cond.code y_1_4 b_1_4 4 (some .int) :: n_GW) rm_240 ct_240 := by
  refine q_method (E := e_240) ts_240 (by decide) rfl rfl rfl ?_ (by decide +kernel)
  intro C D tys htl hl hrm hm hml ho hts hnm hE
  have h : n_ctx C b_1_4 4 "BalanceCoder" D tys := ⟨htl, hm, hml, ho, fun w hw => hts w (List.mem_cons_of_mem _ hw), hE⟩
  refine ⟨⟨?_, ?_⟩, ⟨?_, ?_, ?_, ?_, ?_⟩, ⟨?_, ?_, ?_⟩, ⟨?_, ?_, ?_, ?_⟩, ?_⟩
  · intro i ins len hx; exact kd_1_4 (i, ins, len) hx
  · exact n_at hE.1
  · intro i ci f hx; exact c_fg10 h (i, ci, f) hx
  · intro i ci f hx; exact c_fp10 h (i, ci, f) hx
  · exact n_hap h
  · intro i ci n hx; exact c_cn10 h (i, ci, n) hx
  · exact n_hag htl
  · exact c_n110 h
  · exact c_n210 h
  · intro t ci hx; exact c_at10 h (t, ci) hx
  · intro i n hx; exact c_kI10 h (i, n) hx
  · intro i n hx; exact c_kL10 h (i, n) hx
  · exact c_ob10 h ⟨by rw [hrm]; decide, by rw [hrm]; decide⟩
  · exact c_cp10 h
  · intro ins ct hx
    have g0 : q_Call C b_1_4 D tys n_KT 4 (.invokevirtual 51) ct_161 := q_callV n_NWk h.2.2.2.2.2 h.1 (m_161 C.2.1) ⟨h.2.1.1, h.2.1.2, h.2.2.1, h.2.2.2.1, h.2.2.2.2.1⟩ ⟨n_CB (y := y_1_29) (bytes := b_1_29) 1 h.2.2.2.2.1 n_w305 n_w302 n_w1 ⟨by decide, by decide, by decide +kernel⟩ rfl rfl ⟨by rw [hrm]; decide, by rw [hrm]; decide⟩, h.2.2.2.2.1 _ n_w304, h.2.2.2.2.1 _ n_s0⟩ (Cn := RX10) ⟨40, 10, _, _, _, _, TX10, 8, rfl, rfl, rfl⟩ rfl
    have g1 : q_Call C b_1_4 D tys n_KT 4 (.invokevirtual 55) ct_14 := q_callV n_NWk h.2.2.2.2.2 h.1 (m_14 C.2.1) ⟨h.2.1.1, h.2.1.2, h.2.2.1, h.2.2.2.1, h.2.2.2.2.1⟩ ⟨n_CB (y := y_1_27) (bytes := b_1_27) 1 h.2.2.2.2.1 n_w309 n_w306 n_w1 ⟨by decide, by decide, by decide +kernel⟩ rfl rfl ⟨by rw [hrm]; decide, by rw [hrm]; decide⟩, h.2.2.2.2.1 _ n_w308, h.2.2.2.2.1 _ n_s1⟩ (Cn := RX10) ⟨40, 10, _, _, _, _, TX10, 8, rfl, rfl, rfl⟩ rfl
    have all : ∀ x ∈ [((.invokevirtual 51 : Instr), ct_161), ((.invokevirtual 55 : Instr), ct_14)], q_Call C b_1_4 D tys n_KT 4 x.1 x.2 := (n_mem2 (g0) (n_mem2 (g1) n_mem0))
    exact all (ins, ct) hx
def ct_241 : qCt := ((6, [[(0, 2147483648), (2, 1)], [(0, (-2)), (2, (-1))]], [(2, 44, [(1, 1)]), (0, 0, [(0, 5)]), (0, 0, [(2, 1)])], [([(1, 1)], 44, 0, (2, 42, [(3, 1)])), ([(3, 1)], 42, 1, (2, 8, [(4, 1)])), ([(3, 1)], 42, 0, (2, 7, [(5, 1)])), ([(5, 1)], 7, 0, (0, 0, [])), ([(5, 1)], 7, 1, (0, 0, [])), ([(5, 1)], 7, 2, (0, 0, [])), ([(5, 1)], 7, 3, (0, 0, [])), ([(5, 1)], 7, 4, (0, 0, [])), ([(5, 1)], 7, 5, (0, 0, [])), ([(1, 1)], 44, 3, (0, 0, []))]), (6, [], [(0, 0, [(0, (-1))])], [([(1, 1)], 44, 3, (0, 0, [(0, 1)])), ([(1, 1)], 44, 0, (2, 42, [(3, 1)])), ([(3, 1)], 42, 1, (2, 8, [(4, 1)])), ([(3, 1)], 42, 0, (2, 7, [(5, 1)])), ([(5, 1)], 7, 0, (0, 0, [])), ([(5, 1)], 7, 1, (0, 0, [])), ([(5, 1)], 7, 2, (0, 0, [])), ([(5, 1)], 7, 3, (0, 0, [])), ([(5, 1)], 7, 4, (0, 0, [])), ([(5, 1)], 7, 5, (0, 0, []))], []), [], [(44, 3)], 0, 0)
def rm_241 : Room := { frames := 3, cells := 0, slots := 0, locals := 71 }
def e_241 : qEn := (k_13_8, (t_fg12, t_fp12, t_cn12), (t_na12, t_at12), (t_kI12, t_kL12, t_ob12, t_cp12), [(.invokestatic 76, ct_164), (.invokestatic 69, ct_208), (.invokevirtual 82, ct_18)], (q_k (-1), [], []))
def ts_241 : List (qTm × qCert × List qHx) := [((0, (6, [[(0, 2147483648), (2, 1)], [(0, (-2)), (2, (-1))]], [(0, (2, 44, [(1, 1)])), (1, (0, 0, [(0, 5)])), (2, (0, 0, [(2, 1)]))], [], [([(1, 1)], 44, 0, (2, 42, [(3, 1)])), ([(3, 1)], 42, 1, (2, 8, [(4, 1)])), ([(3, 1)], 42, 0, (2, 7, [(5, 1)])), ([(5, 1)], 7, 0, (0, 0, [])), ([(5, 1)], 7, 1, (0, 0, [])), ([(5, 1)], 7, 2, (0, 0, [])), ([(5, 1)], 7, 3, (0, 0, [])), ([(5, 1)], 7, 4, (0, 0, [])), ([(5, 1)], 7, 5, (0, 0, [])), ([(1, 1)], 44, 3, (0, 0, []))], 0, 0), []), (1, []), [(0, 0, [], [], []), (0, 0, [], [], [0]), (0, 1, [(1, [])], [], []), (2, 0, [(1, [(3, 1)])], [], []), (0, 0, [], [], []), (0, 0, [], [], []), (0, 0, [], [], []), (0, 0, [], [], []), (0, 1, [], [], [0]), (0, 1, [], [], [2]), (0, 0, [], [], []), (0, 1, [], [], [8]), (0, 0, [], [], []), (0, 1, [(1, []), (1, [])], [], []), (0, 0, [], [], []), (0, 0, [(1, [(0, 1)]), (1, [(1, 1)])], [[(2, 1)]], [1]), (0, 1, [(1, [])], [], []), (2, 0, [(1, [(3, 1)])], [], []), (0, 0, [], [], []), (0, 0, [], [], []), (0, 0, [], [[(1, 1)]], [2]), (5, 0, [], [], [])])]
set_option maxRecDepth 100000 in
theorem m_241 (l : Launch) : q_Met l vwCl n_TL n_NW n_KT y_13_8 (Cond.code y_13_8 b_13_8 3 (some .int) :: n_GW) rm_241 ct_241 := by
  refine q_method (E := e_241) ts_241 (by decide) rfl rfl rfl ?_ (by decide +kernel)
  intro C D tys htl hl hrm hm hml ho hts hnm hE
  have h : n_ctx C b_13_8 3 "BalanceCoderModel" D tys := ⟨htl, hm, hml, ho, fun w hw => hts w (List.mem_cons_of_mem _ hw), hE⟩
  refine ⟨⟨?_, ?_⟩, ⟨?_, ?_, ?_, ?_, ?_⟩, ⟨?_, ?_, ?_⟩, ⟨?_, ?_, ?_, ?_⟩, ?_⟩
  · intro i ins len hx; exact kd_13_8 (i, ins, len) hx
  · exact n_at hE.1
  · intro i ci f hx; exact c_fg12 h (i, ci, f) hx
  · intro i ci f hx; exact c_fp12 h (i, ci, f) hx
  · exact n_hap h
  · intro i ci n hx; exact c_cn12 h (i, ci, n) hx
  · exact n_hag htl
  · exact c_n112 h
  · exact c_n212 h
  · intro t ci hx; exact c_at12 h (t, ci) hx
  · intro i n hx; exact c_kI12 h (i, n) hx
  · intro i n hx; exact c_kL12 h (i, n) hx
  · exact c_ob12 h ⟨by rw [hrm]; decide, by rw [hrm]; decide⟩
  · exact c_cp12 h
  · intro ins ct hx
    have g0 : q_Call C b_13_8 D tys n_KT 3 (.invokestatic 76) ct_164 := q_callS n_NWk h.2.2.2.2.2 h.1 (m_164 C.2.1) ⟨h.2.1.1, h.2.1.2, h.2.2.1, h.2.2.2.1, h.2.2.2.2.1⟩ ⟨n_CB (y := y_13_4) (bytes := b_13_4) 1 h.2.2.2.2.1 n_w919 n_w917 n_w12 ⟨by decide, by decide, by decide +kernel⟩ rfl rfl ⟨by rw [hrm]; decide, by rw [hrm]; decide⟩, h.2.2.2.2.1 _ n_w918⟩ rfl
    have g1 : q_Call C b_13_8 D tys n_KT 3 (.invokestatic 69) ct_208 := q_callS n_NWk h.2.2.2.2.2 h.1 (m_208 C.2.1) ⟨h.2.1.1, h.2.1.2, h.2.2.1, h.2.2.2.1, h.2.2.2.2.1⟩ ⟨n_CB (y := y_13_3) (bytes := b_13_3) 3 h.2.2.2.2.1 n_w923 n_w921 n_w12 ⟨by decide, by decide, by decide +kernel⟩ rfl rfl ⟨by rw [hrm]; decide, by rw [hrm]; decide⟩, h.2.2.2.2.1 _ n_w922⟩ rfl
    have g2 : q_Call C b_13_8 D tys n_KT 3 (.invokevirtual 82) ct_18 := q_callV n_NWk h.2.2.2.2.2 h.1 (m_18 C.2.1) ⟨h.2.1.1, h.2.1.2, h.2.2.1, h.2.2.2.1, h.2.2.2.2.1⟩ ⟨n_CB (y := y_13_2) (bytes := b_13_2) 1 h.2.2.2.2.1 n_w928 n_w925 n_w12 ⟨by decide, by decide, by decide +kernel⟩ rfl rfl ⟨by rw [hrm]; decide, by rw [hrm]; decide⟩, h.2.2.2.2.1 _ n_w927, h.2.2.2.2.1 _ n_s27⟩ (Cn := RX12) ⟨44, 12, _, _, _, _, TX12, 31, rfl, rfl, rfl⟩ rfl
    have all : ∀ x ∈ [((.invokestatic 76 : Instr), ct_164), ((.invokestatic 69 : Instr), ct_208), ((.invokevirtual 82 : Instr), ct_18)], q_Call C b_13_8 D tys n_KT 3 x.1 x.2 := (n_mem2 (g0) (n_mem2 (g1) (n_mem2 (g2) n_mem0)))
    exact all (ins, ct) hx
def ct_242 : qCt := ((16, [], [(2, 40, [(1, 1)]), (0, 0, [(0, 5)]), (0, 0, [(0, (-1))])], [([(1, 1)], 40, 7, (0, 0, [])), ([(1, 1)], 40, 0, (2, 38, [(2, 1)])), ([(2, 1)], 38, 0, (2, 17, [(3, 1)])), ([(3, 1)], 17, 5, (2, 32, [(4, 1)])), ([(4, 1)], 32, 1, (0, 0, [])), ([(4, 1)], 32, 0, (2, 0, [(5, 1)])), ([(3, 1)], 17, 4, (2, 32, [(6, 1)])), ([(6, 1)], 32, 1, (0, 0, [])), ([(6, 1)], 32, 0, (2, 0, [(7, 1)])), ([(3, 1)], 17, 3, (2, 32, [(8, 1)])), ([(8, 1)], 32, 1, (0, 0, [])), ([(8, 1)], 32, 0, (2, 0, [(9, 1)])), ([(3, 1)], 17, 2, (2, 32, [(10, 1)])), ([(10, 1)], 32, 1, (0, 0, [])), ([(10, 1)], 32, 0, (2, 0, [(11, 1)])), ([(3, 1)], 17, 1, (2, 32, [(12, 1)])), ([(12, 1)], 32, 1, (0, 0, [])), ([(12, 1)], 32, 0, (2, 0, [(13, 1)])), ([(3, 1)], 17, 0, (2, 32, [(14, 1)])), ([(14, 1)], 32, 1, (0, 0, [])), ([(14, 1)], 32, 0, (2, 0, [(15, 1)]))]), (16, [], [(0, 0, [])], [([(1, 1)], 40, 0, (2, 38, [(2, 1)])), ([(2, 1)], 38, 0, (2, 17, [(3, 1)])), ([(3, 1)], 17, 5, (2, 32, [(4, 1)])), ([(3, 1)], 17, 4, (2, 32, [(6, 1)])), ([(3, 1)], 17, 3, (2, 32, [(8, 1)])), ([(3, 1)], 17, 2, (2, 32, [(10, 1)])), ([(3, 1)], 17, 1, (2, 32, [(12, 1)])), ([(3, 1)], 17, 0, (2, 32, [(14, 1)])), ([(1, 1)], 40, 7, (0, 0, [])), ([(4, 1)], 32, 1, (0, 0, [])), ([(4, 1)], 32, 0, (2, 0, [(5, 1)])), ([(6, 1)], 32, 1, (0, 0, [])), ([(6, 1)], 32, 0, (2, 0, [(7, 1)])), ([(8, 1)], 32, 1, (0, 0, [])), ([(8, 1)], 32, 0, (2, 0, [(9, 1)])), ([(10, 1)], 32, 1, (0, 0, [])), ([(10, 1)], 32, 0, (2, 0, [(11, 1)])), ([(12, 1)], 32, 1, (0, 0, [])), ([(12, 1)], 32, 0, (2, 0, [(13, 1)])), ([(14, 1)], 32, 1, (0, 0, [])), ([(14, 1)], 32, 0, (2, 0, [(15, 1)]))], []), [], [], 0, 0)
def rm_242 : Room := { frames := 2, cells := 0, slots := 0, locals := 47 }
def e_242 : qEn := (k_1_4, (t_fg10, t_fp10, t_cn10), (t_na10, t_at10), (t_kI10, t_kL10, t_ob10, t_cp10), [(.invokevirtual 51, ct_161)], (q_k (-1), [], []))
def ts_242 : List (qTm × qCert × List qHx) := [((0, (16, [], [(0, (2, 40, [(1, 1)])), (1, (0, 0, [(0, 5)])), (2, (0, 0, [(0, (-1))]))], [], [([(1, 1)], 40, 7, (0, 0, [])), ([(1, 1)], 40, 0, (2, 38, [(2, 1)])), ([(2, 1)], 38, 0, (2, 17, [(3, 1)])), ([(3, 1)], 17, 5, (2, 32, [(4, 1)])), ([(4, 1)], 32, 1, (0, 0, [])), ([(4, 1)], 32, 0, (2, 0, [(5, 1)])), ([(3, 1)], 17, 4, (2, 32, [(6, 1)])), ([(6, 1)], 32, 1, (0, 0, [])), ([(6, 1)], 32, 0, (2, 0, [(7, 1)])), ([(3, 1)], 17, 3, (2, 32, [(8, 1)])), ([(8, 1)], 32, 1, (0, 0, [])), ([(8, 1)], 32, 0, (2, 0, [(9, 1)])), ([(3, 1)], 17, 2, (2, 32, [(10, 1)])), ([(10, 1)], 32, 1, (0, 0, [])), ([(10, 1)], 32, 0, (2, 0, [(11, 1)])), ([(3, 1)], 17, 1, (2, 32, [(12, 1)])), ([(12, 1)], 32, 1, (0, 0, [])), ([(12, 1)], 32, 0, (2, 0, [(13, 1)])), ([(3, 1)], 17, 0, (2, 32, [(14, 1)])), ([(14, 1)], 32, 1, (0, 0, [])), ([(14, 1)], 32, 0, (2, 0, [(15, 1)]))], 0, 0), []), (1, []), [(0, 0, [], [], []), (0, 0, [], [], []), (0, 0, [], [[(1, 1)], [(2, 1)], [(3, 1)], [(4, 1)], [(6, 1)], [(8, 1)], [(10, 1)], [(12, 1)], [(14, 1)]], [0]), (0, 0, [], [], []), (0, 0, [], [], []), (0, 0, [], [], []), (0, 0, [], [], []), (0, 0, [], [], []), (0, 0, [], [], []), (2, 0, [(1, [(0, 1)])], [], []), (0, 0, [], [], []), (0, 0, [], [], []), (0, 1, [], [], [12]), (0, 0, [], [], []), (0, 0, [], [], []), (0, 0, [], [], []), (0, 1, [(1, [])], [], []), (2, 0, [(1, [(2, 1)])], [], []), (0, 0, [], [], []), (0, 1, [], [], [12]), (0, 0, [], [], []), (5, 0, [], [], []), (2, 0, [(1, [(1, 1)])], [], [])])]
set_option maxRecDepth 100000 in
theorem m_242 (l : Launch) : q_Met l vwCl n_TL n_NW n_KT y_1_4 (Cond.code y_1_4 b_1_4 4 (some .int) :: n_GW) rm_242 ct_242 := by
  refine q_method (E := e_242) ts_242 (by decide) rfl rfl rfl ?_ (by decide +kernel)
  intro C D tys htl hl hrm hm hml ho hts hnm hE
  have h : n_ctx C b_1_4 4 "BalanceCoder" D tys := ⟨htl, hm, hml, ho, fun w hw => hts w (List.mem_cons_of_mem _ hw), hE⟩
  refine ⟨⟨?_, ?_⟩, ⟨?_, ?_, ?_, ?_, ?_⟩, ⟨?_, ?_, ?_⟩, ⟨?_, ?_, ?_, ?_⟩, ?_⟩
  · intro i ins len hx; exact kd_1_4 (i, ins, len) hx
  · exact n_at hE.1
  · intro i ci f hx; exact c_fg10 h (i, ci, f) hx
  · intro i ci f hx; exact c_fp10 h (i, ci, f) hx
  · exact n_hap h
  · intro i ci n hx; exact c_cn10 h (i, ci, n) hx
  · exact n_hag htl
  · exact c_n110 h
  · exact c_n210 h
  · intro t ci hx; exact c_at10 h (t, ci) hx
  · intro i n hx; exact c_kI10 h (i, n) hx
  · intro i n hx; exact c_kL10 h (i, n) hx
  · exact c_ob10 h ⟨by rw [hrm]; decide, by rw [hrm]; decide⟩
  · exact c_cp10 h
  · intro ins ct hx
    have g0 : q_Call C b_1_4 D tys n_KT 4 (.invokevirtual 51) ct_161 := q_callV n_NWk h.2.2.2.2.2 h.1 (m_161 C.2.1) ⟨h.2.1.1, h.2.1.2, h.2.2.1, h.2.2.2.1, h.2.2.2.2.1⟩ ⟨n_CB (y := y_1_29) (bytes := b_1_29) 1 h.2.2.2.2.1 n_w305 n_w302 n_w1 ⟨by decide, by decide, by decide +kernel⟩ rfl rfl ⟨by rw [hrm]; decide, by rw [hrm]; decide⟩, h.2.2.2.2.1 _ n_w304, h.2.2.2.2.1 _ n_s0⟩ (Cn := RX10) ⟨40, 10, _, _, _, _, TX10, 8, rfl, rfl, rfl⟩ rfl
    have all : ∀ x ∈ [((.invokevirtual 51 : Instr), ct_161)], q_Call C b_1_4 D tys n_KT 4 x.1 x.2 := (n_mem2 (g0) n_mem0)
    exact all (ins, ct) hx
def ct_243 : qCt := ((5, [], [(2, 44, [(1, 1)]), (0, 0, [(0, 5)]), (0, 0, [(0, (-1))])], [([(1, 1)], 44, 0, (2, 42, [(2, 1)])), ([(2, 1)], 42, 1, (2, 8, [(3, 1)])), ([(2, 1)], 42, 0, (2, 7, [(4, 1)])), ([(4, 1)], 7, 0, (0, 0, [])), ([(4, 1)], 7, 1, (0, 0, [])), ([(4, 1)], 7, 2, (0, 0, [])), ([(4, 1)], 7, 3, (0, 0, [])), ([(4, 1)], 7, 4, (0, 0, [])), ([(4, 1)], 7, 5, (0, 0, [])), ([(1, 1)], 44, 3, (0, 0, []))]), (5, [], [(0, 0, [])], [([(1, 1)], 44, 0, (2, 42, [(2, 1)])), ([(2, 1)], 42, 1, (2, 8, [(3, 1)])), ([(2, 1)], 42, 0, (2, 7, [(4, 1)])), ([(4, 1)], 7, 0, (0, 0, [])), ([(4, 1)], 7, 1, (0, 0, [])), ([(4, 1)], 7, 2, (0, 0, [])), ([(4, 1)], 7, 3, (0, 0, [])), ([(4, 1)], 7, 4, (0, 0, [])), ([(4, 1)], 7, 5, (0, 0, [])), ([(1, 1)], 44, 3, (0, 0, []))], []), [], [], 0, 0)
def rm_243 : Room := { frames := 3, cells := 0, slots := 0, locals := 71 }
def e_243 : qEn := (k_13_8, (t_fg12, t_fp12, t_cn12), (t_na12, t_at12), (t_kI12, t_kL12, t_ob12, t_cp12), [(.invokestatic 76, ct_164), (.invokestatic 69, ct_211)], (q_k (-1), [], []))
def ts_243 : List (qTm × qCert × List qHx) := [((0, (5, [], [(0, (2, 44, [(1, 1)])), (1, (0, 0, [(0, 5)])), (2, (0, 0, [(0, (-1))]))], [], [([(1, 1)], 44, 0, (2, 42, [(2, 1)])), ([(2, 1)], 42, 1, (2, 8, [(3, 1)])), ([(2, 1)], 42, 0, (2, 7, [(4, 1)])), ([(4, 1)], 7, 0, (0, 0, [])), ([(4, 1)], 7, 1, (0, 0, [])), ([(4, 1)], 7, 2, (0, 0, [])), ([(4, 1)], 7, 3, (0, 0, [])), ([(4, 1)], 7, 4, (0, 0, [])), ([(4, 1)], 7, 5, (0, 0, [])), ([(1, 1)], 44, 3, (0, 0, []))], 0, 0), []), (1, []), [(0, 0, [], [], []), (0, 0, [], [], [0]), (0, 1, [(1, [])], [], []), (2, 0, [(1, [(1, 1)])], [], []), (0, 0, [], [], []), (0, 0, [], [], []), (0, 0, [], [], []), (0, 0, [], [], []), (0, 1, [], [], [0]), (0, 1, [], [], [2]), (0, 0, [], [], []), (0, 1, [], [], [8]), (0, 0, [], [], []), (0, 1, [(1, []), (1, [])], [], []), (0, 0, [], [], []), (0, 0, [], [], [1]), (0, 1, [(1, [])], [], []), (0, 0, [], [], []), (0, 0, [], [], []), (2, 0, [(1, [(2, 1)])], [], []), (0, 0, [], [], []), (0, 1, [], [], [0]), (0, 1, [], [], [2]), (0, 0, [], [], []), (0, 1, [], [], [8]), (0, 0, [], [], []), (5, 0, [], [], []), (2, 0, [(1, [(2, 1)])], [], [])])]
set_option maxRecDepth 100000 in
theorem m_243 (l : Launch) : q_Met l vwCl n_TL n_NW n_KT y_13_8 (Cond.code y_13_8 b_13_8 3 (some .int) :: n_GW) rm_243 ct_243 := by
  refine q_method (E := e_243) ts_243 (by decide) rfl rfl rfl ?_ (by decide +kernel)
  intro C D tys htl hl hrm hm hml ho hts hnm hE
  have h : n_ctx C b_13_8 3 "BalanceCoderModel" D tys := ⟨htl, hm, hml, ho, fun w hw => hts w (List.mem_cons_of_mem _ hw), hE⟩
  refine ⟨⟨?_, ?_⟩, ⟨?_, ?_, ?_, ?_, ?_⟩, ⟨?_, ?_, ?_⟩, ⟨?_, ?_, ?_, ?_⟩, ?_⟩
  · intro i ins len hx; exact kd_13_8 (i, ins, len) hx
  · exact n_at hE.1
  · intro i ci f hx; exact c_fg12 h (i, ci, f) hx
  · intro i ci f hx; exact c_fp12 h (i, ci, f) hx
  · exact n_hap h
  · intro i ci n hx; exact c_cn12 h (i, ci, n) hx
  · exact n_hag htl
  · exact c_n112 h
  · exact c_n212 h
  · intro t ci hx; exact c_at12 h (t, ci) hx
  · intro i n hx; exact c_kI12 h (i, n) hx
  · intro i n hx; exact c_kL12 h (i, n) hx
  · exact c_ob12 h ⟨by rw [hrm]; decide, by rw [hrm]; decide⟩
  · exact c_cp12 h
  · intro ins ct hx
    have g0 : q_Call C b_13_8 D tys n_KT 3 (.invokestatic 76) ct_164 := q_callS n_NWk h.2.2.2.2.2 h.1 (m_164 C.2.1) ⟨h.2.1.1, h.2.1.2, h.2.2.1, h.2.2.2.1, h.2.2.2.2.1⟩ ⟨n_CB (y := y_13_4) (bytes := b_13_4) 1 h.2.2.2.2.1 n_w919 n_w917 n_w12 ⟨by decide, by decide, by decide +kernel⟩ rfl rfl ⟨by rw [hrm]; decide, by rw [hrm]; decide⟩, h.2.2.2.2.1 _ n_w918⟩ rfl
    have g1 : q_Call C b_13_8 D tys n_KT 3 (.invokestatic 69) ct_211 := q_callS n_NWk h.2.2.2.2.2 h.1 (m_211 C.2.1) ⟨h.2.1.1, h.2.1.2, h.2.2.1, h.2.2.2.1, h.2.2.2.2.1⟩ ⟨n_CB (y := y_13_3) (bytes := b_13_3) 3 h.2.2.2.2.1 n_w923 n_w921 n_w12 ⟨by decide, by decide, by decide +kernel⟩ rfl rfl ⟨by rw [hrm]; decide, by rw [hrm]; decide⟩, h.2.2.2.2.1 _ n_w922⟩ rfl
    have all : ∀ x ∈ [((.invokestatic 76 : Instr), ct_164), ((.invokestatic 69 : Instr), ct_211)], q_Call C b_13_8 D tys n_KT 3 x.1 x.2 := (n_mem2 (g0) (n_mem2 (g1) n_mem0))
    exact all (ins, ct) hx
def ct_244 : qCt := ((17, [[(2, 1)], [(0, 2147483647), (2, (-1))]], [(2, 40, [(1, 1)]), (0, 0, [(0, 5)]), (0, 0, [(2, 1)])], [([(1, 1)], 40, 7, (0, 0, [])), ([(1, 1)], 40, 0, (2, 38, [(3, 1)])), ([(3, 1)], 38, 0, (2, 17, [(4, 1)])), ([(4, 1)], 17, 5, (2, 32, [(5, 1)])), ([(5, 1)], 32, 1, (0, 0, [])), ([(5, 1)], 32, 0, (2, 0, [(6, 1)])), ([(4, 1)], 17, 4, (2, 32, [(7, 1)])), ([(7, 1)], 32, 1, (0, 0, [])), ([(7, 1)], 32, 0, (2, 0, [(8, 1)])), ([(4, 1)], 17, 3, (2, 32, [(9, 1)])), ([(9, 1)], 32, 1, (0, 0, [])), ([(9, 1)], 32, 0, (2, 0, [(10, 1)])), ([(4, 1)], 17, 2, (2, 32, [(11, 1)])), ([(11, 1)], 32, 1, (0, 0, [])), ([(11, 1)], 32, 0, (2, 0, [(12, 1)])), ([(4, 1)], 17, 1, (2, 32, [(13, 1)])), ([(13, 1)], 32, 1, (0, 0, [])), ([(13, 1)], 32, 0, (2, 0, [(14, 1)])), ([(4, 1)], 17, 0, (2, 32, [(15, 1)])), ([(15, 1)], 32, 1, (0, 0, [])), ([(15, 1)], 32, 0, (2, 0, [(16, 1)]))]), (17, [], [(0, 0, [(0, (-1))])], [([(1, 1)], 40, 7, (0, 0, [(0, 1)])), ([(1, 1)], 40, 0, (2, 38, [(3, 1)])), ([(3, 1)], 38, 0, (2, 17, [(4, 1)])), ([(4, 1)], 17, 5, (2, 32, [(5, 1)])), ([(4, 1)], 17, 4, (2, 32, [(7, 1)])), ([(4, 1)], 17, 3, (2, 32, [(9, 1)])), ([(4, 1)], 17, 2, (2, 32, [(11, 1)])), ([(4, 1)], 17, 1, (2, 32, [(13, 1)])), ([(4, 1)], 17, 0, (2, 32, [(15, 1)])), ([(5, 1)], 32, 1, (0, 0, [])), ([(5, 1)], 32, 0, (2, 0, [(6, 1)])), ([(7, 1)], 32, 1, (0, 0, [])), ([(7, 1)], 32, 0, (2, 0, [(8, 1)])), ([(9, 1)], 32, 1, (0, 0, [])), ([(9, 1)], 32, 0, (2, 0, [(10, 1)])), ([(11, 1)], 32, 1, (0, 0, [])), ([(11, 1)], 32, 0, (2, 0, [(12, 1)])), ([(13, 1)], 32, 1, (0, 0, [])), ([(13, 1)], 32, 0, (2, 0, [(14, 1)])), ([(15, 1)], 32, 1, (0, 0, [])), ([(15, 1)], 32, 0, (2, 0, [(16, 1)]))], []), [], [(40, 7)], 0, 0)
def rm_244 : Room := { frames := 2, cells := 0, slots := 0, locals := 47 }
def e_244 : qEn := (k_1_4, (t_fg10, t_fp10, t_cn10), (t_na10, t_at10), (t_kI10, t_kL10, t_ob10, t_cp10), [(.invokevirtual 51, ct_161), (.invokevirtual 55, ct_14)], (q_k (-1), [], []))
def ts_244 : List (qTm × qCert × List qHx) := [((0, (17, [[(2, 1)], [(0, 2147483647), (2, (-1))]], [(0, (2, 40, [(1, 1)])), (1, (0, 0, [(0, 5)])), (2, (0, 0, [(2, 1)]))], [], [([(1, 1)], 40, 7, (0, 0, [])), ([(1, 1)], 40, 0, (2, 38, [(3, 1)])), ([(3, 1)], 38, 0, (2, 17, [(4, 1)])), ([(4, 1)], 17, 5, (2, 32, [(5, 1)])), ([(5, 1)], 32, 1, (0, 0, [])), ([(5, 1)], 32, 0, (2, 0, [(6, 1)])), ([(4, 1)], 17, 4, (2, 32, [(7, 1)])), ([(7, 1)], 32, 1, (0, 0, [])), ([(7, 1)], 32, 0, (2, 0, [(8, 1)])), ([(4, 1)], 17, 3, (2, 32, [(9, 1)])), ([(9, 1)], 32, 1, (0, 0, [])), ([(9, 1)], 32, 0, (2, 0, [(10, 1)])), ([(4, 1)], 17, 2, (2, 32, [(11, 1)])), ([(11, 1)], 32, 1, (0, 0, [])), ([(11, 1)], 32, 0, (2, 0, [(12, 1)])), ([(4, 1)], 17, 1, (2, 32, [(13, 1)])), ([(13, 1)], 32, 1, (0, 0, [])), ([(13, 1)], 32, 0, (2, 0, [(14, 1)])), ([(4, 1)], 17, 0, (2, 32, [(15, 1)])), ([(15, 1)], 32, 1, (0, 0, [])), ([(15, 1)], 32, 0, (2, 0, [(16, 1)]))], 0, 0), []), (1, []), [(0, 0, [], [], []), (0, 0, [], [], []), (0, 0, [], [[(1, 1)], [(3, 1)], [(4, 1)], [(5, 1)], [(7, 1)], [(9, 1)], [(11, 1)], [(13, 1)], [(15, 1)]], [0]), (0, 0, [], [], []), (0, 0, [], [], []), (0, 0, [], [], []), (0, 0, [], [], []), (0, 0, [], [], []), (0, 0, [], [], []), (2, 0, [(1, [(0, 1), (2, 1)])], [], []), (0, 0, [], [], []), (0, 0, [], [], []), (0, 1, [], [], [12]), (0, 0, [], [], []), (2, 0, [(1, [(0, 1), (3, 1)])], [], []), (0, 0, [], [], []), (0, 0, [], [], []), (0, 0, [], [[(1, 1)]], [1]), (5, 0, [], [], [])])]
set_option maxRecDepth 100000 in
theorem m_244 (l : Launch) : q_Met l vwCl n_TL n_NW n_KT y_1_4 (Cond.code y_1_4 b_1_4 4 (some .int) :: n_GW) rm_244 ct_244 := by
  refine q_method (E := e_244) ts_244 (by decide) rfl rfl rfl ?_ (by decide +kernel)
  intro C D tys htl hl hrm hm hml ho hts hnm hE
  have h : n_ctx C b_1_4 4 "BalanceCoder" D tys := ⟨htl, hm, hml, ho, fun w hw => hts w (List.mem_cons_of_mem _ hw), hE⟩
  refine ⟨⟨?_, ?_⟩, ⟨?_, ?_, ?_, ?_, ?_⟩, ⟨?_, ?_, ?_⟩, ⟨?_, ?_, ?_, ?_⟩, ?_⟩
  · intro i ins len hx; exact kd_1_4 (i, ins, len) hx
  · exact n_at hE.1
  · intro i ci f hx; exact c_fg10 h (i, ci, f) hx
  · intro i ci f hx; exact c_fp10 h (i, ci, f) hx
  · exact n_hap h
  · intro i ci n hx; exact c_cn10 h (i, ci, n) hx
  · exact n_hag htl
  · exact c_n110 h
  · exact c_n210 h
  · intro t ci hx; exact c_at10 h (t, ci) hx
  · intro i n hx; exact c_kI10 h (i, n) hx
  · intro i n hx; exact c_kL10 h (i, n) hx
  · exact c_ob10 h ⟨by rw [hrm]; decide, by rw [hrm]; decide⟩
  · exact c_cp10 h
  · intro ins ct hx
    have g0 : q_Call C b_1_4 D tys n_KT 4 (.invokevirtual 51) ct_161 := q_callV n_NWk h.2.2.2.2.2 h.1 (m_161 C.2.1) ⟨h.2.1.1, h.2.1.2, h.2.2.1, h.2.2.2.1, h.2.2.2.2.1⟩ ⟨n_CB (y := y_1_29) (bytes := b_1_29) 1 h.2.2.2.2.1 n_w305 n_w302 n_w1 ⟨by decide, by decide, by decide +kernel⟩ rfl rfl ⟨by rw [hrm]; decide, by rw [hrm]; decide⟩, h.2.2.2.2.1 _ n_w304, h.2.2.2.2.1 _ n_s0⟩ (Cn := RX10) ⟨40, 10, _, _, _, _, TX10, 8, rfl, rfl, rfl⟩ rfl
    have g1 : q_Call C b_1_4 D tys n_KT 4 (.invokevirtual 55) ct_14 := q_callV n_NWk h.2.2.2.2.2 h.1 (m_14 C.2.1) ⟨h.2.1.1, h.2.1.2, h.2.2.1, h.2.2.2.1, h.2.2.2.2.1⟩ ⟨n_CB (y := y_1_27) (bytes := b_1_27) 1 h.2.2.2.2.1 n_w309 n_w306 n_w1 ⟨by decide, by decide, by decide +kernel⟩ rfl rfl ⟨by rw [hrm]; decide, by rw [hrm]; decide⟩, h.2.2.2.2.1 _ n_w308, h.2.2.2.2.1 _ n_s1⟩ (Cn := RX10) ⟨40, 10, _, _, _, _, TX10, 8, rfl, rfl, rfl⟩ rfl
    have all : ∀ x ∈ [((.invokevirtual 51 : Instr), ct_161), ((.invokevirtual 55 : Instr), ct_14)], q_Call C b_1_4 D tys n_KT 4 x.1 x.2 := (n_mem2 (g0) (n_mem2 (g1) n_mem0))
    exact all (ins, ct) hx
def ct_245 : qCt := ((6, [[(2, 1)], [(0, 2147483647), (2, (-1))]], [(2, 44, [(1, 1)]), (0, 0, [(0, 5)]), (0, 0, [(2, 1)])], [([(1, 1)], 44, 0, (2, 42, [(3, 1)])), ([(3, 1)], 42, 1, (2, 8, [(4, 1)])), ([(3, 1)], 42, 0, (2, 7, [(5, 1)])), ([(5, 1)], 7, 0, (0, 0, [])), ([(5, 1)], 7, 1, (0, 0, [])), ([(5, 1)], 7, 2, (0, 0, [])), ([(5, 1)], 7, 3, (0, 0, [])), ([(5, 1)], 7, 4, (0, 0, [])), ([(5, 1)], 7, 5, (0, 0, [])), ([(1, 1)], 44, 3, (0, 0, []))]), (6, [], [(0, 0, [(0, (-1))])], [([(1, 1)], 44, 3, (0, 0, [(0, 1)])), ([(1, 1)], 44, 0, (2, 42, [(3, 1)])), ([(3, 1)], 42, 1, (2, 8, [(4, 1)])), ([(3, 1)], 42, 0, (2, 7, [(5, 1)])), ([(5, 1)], 7, 0, (0, 0, [])), ([(5, 1)], 7, 1, (0, 0, [])), ([(5, 1)], 7, 2, (0, 0, [])), ([(5, 1)], 7, 3, (0, 0, [])), ([(5, 1)], 7, 4, (0, 0, [])), ([(5, 1)], 7, 5, (0, 0, []))], []), [], [(44, 3)], 0, 0)
def rm_245 : Room := { frames := 3, cells := 0, slots := 0, locals := 71 }
def e_245 : qEn := (k_13_8, (t_fg12, t_fp12, t_cn12), (t_na12, t_at12), (t_kI12, t_kL12, t_ob12, t_cp12), [(.invokestatic 76, ct_164), (.invokestatic 69, ct_214), (.invokevirtual 82, ct_18)], (q_k (-1), [], []))
def ts_245 : List (qTm × qCert × List qHx) := [((0, (6, [[(2, 1)], [(0, 2147483647), (2, (-1))]], [(0, (2, 44, [(1, 1)])), (1, (0, 0, [(0, 5)])), (2, (0, 0, [(2, 1)]))], [], [([(1, 1)], 44, 0, (2, 42, [(3, 1)])), ([(3, 1)], 42, 1, (2, 8, [(4, 1)])), ([(3, 1)], 42, 0, (2, 7, [(5, 1)])), ([(5, 1)], 7, 0, (0, 0, [])), ([(5, 1)], 7, 1, (0, 0, [])), ([(5, 1)], 7, 2, (0, 0, [])), ([(5, 1)], 7, 3, (0, 0, [])), ([(5, 1)], 7, 4, (0, 0, [])), ([(5, 1)], 7, 5, (0, 0, [])), ([(1, 1)], 44, 3, (0, 0, []))], 0, 0), []), (1, []), [(0, 0, [], [], []), (0, 0, [], [], [0]), (0, 1, [(1, [])], [], []), (2, 0, [(1, [(3, 1)])], [], []), (0, 0, [], [], []), (0, 0, [], [], []), (0, 0, [], [], []), (0, 0, [], [], []), (0, 1, [], [], [0]), (0, 1, [], [], [2]), (0, 0, [], [], []), (0, 1, [], [], [8]), (0, 0, [], [], []), (0, 1, [(1, []), (1, [])], [], []), (0, 0, [], [], []), (0, 0, [(1, [(0, 1)]), (1, [(1, 1)])], [[(2, 1)]], [1]), (0, 1, [(1, [])], [], []), (2, 0, [(1, [(3, 1)])], [], []), (0, 0, [], [], []), (0, 0, [], [], []), (0, 0, [], [[(1, 1)]], [2]), (5, 0, [], [], [])])]
set_option maxRecDepth 100000 in
theorem m_245 (l : Launch) : q_Met l vwCl n_TL n_NW n_KT y_13_8 (Cond.code y_13_8 b_13_8 3 (some .int) :: n_GW) rm_245 ct_245 := by
  refine q_method (E := e_245) ts_245 (by decide) rfl rfl rfl ?_ (by decide +kernel)
  intro C D tys htl hl hrm hm hml ho hts hnm hE
  have h : n_ctx C b_13_8 3 "BalanceCoderModel" D tys := ⟨htl, hm, hml, ho, fun w hw => hts w (List.mem_cons_of_mem _ hw), hE⟩
  refine ⟨⟨?_, ?_⟩, ⟨?_, ?_, ?_, ?_, ?_⟩, ⟨?_, ?_, ?_⟩, ⟨?_, ?_, ?_, ?_⟩, ?_⟩
  · intro i ins len hx; exact kd_13_8 (i, ins, len) hx
  · exact n_at hE.1
  · intro i ci f hx; exact c_fg12 h (i, ci, f) hx
  · intro i ci f hx; exact c_fp12 h (i, ci, f) hx
  · exact n_hap h
  · intro i ci n hx; exact c_cn12 h (i, ci, n) hx
  · exact n_hag htl
  · exact c_n112 h
  · exact c_n212 h
  · intro t ci hx; exact c_at12 h (t, ci) hx
  · intro i n hx; exact c_kI12 h (i, n) hx
  · intro i n hx; exact c_kL12 h (i, n) hx
  · exact c_ob12 h ⟨by rw [hrm]; decide, by rw [hrm]; decide⟩
  · exact c_cp12 h
  · intro ins ct hx
    have g0 : q_Call C b_13_8 D tys n_KT 3 (.invokestatic 76) ct_164 := q_callS n_NWk h.2.2.2.2.2 h.1 (m_164 C.2.1) ⟨h.2.1.1, h.2.1.2, h.2.2.1, h.2.2.2.1, h.2.2.2.2.1⟩ ⟨n_CB (y := y_13_4) (bytes := b_13_4) 1 h.2.2.2.2.1 n_w919 n_w917 n_w12 ⟨by decide, by decide, by decide +kernel⟩ rfl rfl ⟨by rw [hrm]; decide, by rw [hrm]; decide⟩, h.2.2.2.2.1 _ n_w918⟩ rfl
    have g1 : q_Call C b_13_8 D tys n_KT 3 (.invokestatic 69) ct_214 := q_callS n_NWk h.2.2.2.2.2 h.1 (m_214 C.2.1) ⟨h.2.1.1, h.2.1.2, h.2.2.1, h.2.2.2.1, h.2.2.2.2.1⟩ ⟨n_CB (y := y_13_3) (bytes := b_13_3) 3 h.2.2.2.2.1 n_w923 n_w921 n_w12 ⟨by decide, by decide, by decide +kernel⟩ rfl rfl ⟨by rw [hrm]; decide, by rw [hrm]; decide⟩, h.2.2.2.2.1 _ n_w922⟩ rfl
    have g2 : q_Call C b_13_8 D tys n_KT 3 (.invokevirtual 82) ct_18 := q_callV n_NWk h.2.2.2.2.2 h.1 (m_18 C.2.1) ⟨h.2.1.1, h.2.1.2, h.2.2.1, h.2.2.2.1, h.2.2.2.2.1⟩ ⟨n_CB (y := y_13_2) (bytes := b_13_2) 1 h.2.2.2.2.1 n_w928 n_w925 n_w12 ⟨by decide, by decide, by decide +kernel⟩ rfl rfl ⟨by rw [hrm]; decide, by rw [hrm]; decide⟩, h.2.2.2.2.1 _ n_w927, h.2.2.2.2.1 _ n_s27⟩ (Cn := RX12) ⟨44, 12, _, _, _, _, TX12, 31, rfl, rfl, rfl⟩ rfl
    have all : ∀ x ∈ [((.invokestatic 76 : Instr), ct_164), ((.invokestatic 69 : Instr), ct_214), ((.invokevirtual 82 : Instr), ct_18)], q_Call C b_13_8 D tys n_KT 3 x.1 x.2 := (n_mem2 (g0) (n_mem2 (g1) (n_mem2 (g2) n_mem0)))
    exact all (ins, ct) hx
def ct_246 : qCt := ((18, [[(0, (-6)), (2, 1)], [(0, 2147483647), (2, (-1))], [(0, 2147483648), (3, 1)], [(0, 2147483647), (3, (-1))]], [(2, 40, [(1, 1)]), (0, 0, [(2, 1)]), (0, 0, [(3, 1)])], [([(1, 1)], 40, 7, (0, 0, [])), ([(1, 1)], 40, 0, (2, 38, [(4, 1)])), ([(4, 1)], 38, 0, (2, 17, [(5, 1)])), ([(5, 1)], 17, 5, (2, 32, [(6, 1)])), ([(6, 1)], 32, 1, (0, 0, [])), ([(6, 1)], 32, 0, (2, 0, [(7, 1)])), ([(5, 1)], 17, 4, (2, 32, [(8, 1)])), ([(8, 1)], 32, 1, (0, 0, [])), ([(8, 1)], 32, 0, (2, 0, [(9, 1)])), ([(5, 1)], 17, 3, (2, 32, [(10, 1)])), ([(10, 1)], 32, 1, (0, 0, [])), ([(10, 1)], 32, 0, (2, 0, [(11, 1)])), ([(5, 1)], 17, 2, (2, 32, [(12, 1)])), ([(12, 1)], 32, 1, (0, 0, [])), ([(12, 1)], 32, 0, (2, 0, [(13, 1)])), ([(5, 1)], 17, 1, (2, 32, [(14, 1)])), ([(14, 1)], 32, 1, (0, 0, [])), ([(14, 1)], 32, 0, (2, 0, [(15, 1)])), ([(5, 1)], 17, 0, (2, 32, [(16, 1)])), ([(16, 1)], 32, 1, (0, 0, [])), ([(16, 1)], 32, 0, (2, 0, [(17, 1)]))]), (18, [], [(0, 0, [(0, (-1))])], [([(1, 1)], 40, 7, (0, 0, [(0, 1)])), ([(1, 1)], 40, 0, (2, 38, [(4, 1)])), ([(4, 1)], 38, 0, (2, 17, [(5, 1)])), ([(5, 1)], 17, 5, (2, 32, [(6, 1)])), ([(5, 1)], 17, 4, (2, 32, [(8, 1)])), ([(5, 1)], 17, 3, (2, 32, [(10, 1)])), ([(5, 1)], 17, 2, (2, 32, [(12, 1)])), ([(5, 1)], 17, 1, (2, 32, [(14, 1)])), ([(5, 1)], 17, 0, (2, 32, [(16, 1)])), ([(6, 1)], 32, 1, (0, 0, [])), ([(6, 1)], 32, 0, (2, 0, [(7, 1)])), ([(8, 1)], 32, 1, (0, 0, [])), ([(8, 1)], 32, 0, (2, 0, [(9, 1)])), ([(10, 1)], 32, 1, (0, 0, [])), ([(10, 1)], 32, 0, (2, 0, [(11, 1)])), ([(12, 1)], 32, 1, (0, 0, [])), ([(12, 1)], 32, 0, (2, 0, [(13, 1)])), ([(14, 1)], 32, 1, (0, 0, [])), ([(14, 1)], 32, 0, (2, 0, [(15, 1)])), ([(16, 1)], 32, 1, (0, 0, [])), ([(16, 1)], 32, 0, (2, 0, [(17, 1)]))], []), [], [(40, 7)], 0, 0)
def rm_246 : Room := { frames := 2, cells := 0, slots := 0, locals := 47 }
def e_246 : qEn := (k_1_4, (t_fg10, t_fp10, t_cn10), (t_na10, t_at10), (t_kI10, t_kL10, t_ob10, t_cp10), [(.invokevirtual 51, ct_184), (.invokevirtual 55, ct_14)], (q_k (-1), [], []))
def ts_246 : List (qTm × qCert × List qHx) := [((0, (18, [[(0, (-6)), (2, 1)], [(0, 2147483647), (2, (-1))], [(0, 2147483648), (3, 1)], [(0, 2147483647), (3, (-1))]], [(0, (2, 40, [(1, 1)])), (1, (0, 0, [(2, 1)])), (2, (0, 0, [(3, 1)]))], [], [([(1, 1)], 40, 7, (0, 0, [])), ([(1, 1)], 40, 0, (2, 38, [(4, 1)])), ([(4, 1)], 38, 0, (2, 17, [(5, 1)])), ([(5, 1)], 17, 5, (2, 32, [(6, 1)])), ([(6, 1)], 32, 1, (0, 0, [])), ([(6, 1)], 32, 0, (2, 0, [(7, 1)])), ([(5, 1)], 17, 4, (2, 32, [(8, 1)])), ([(8, 1)], 32, 1, (0, 0, [])), ([(8, 1)], 32, 0, (2, 0, [(9, 1)])), ([(5, 1)], 17, 3, (2, 32, [(10, 1)])), ([(10, 1)], 32, 1, (0, 0, [])), ([(10, 1)], 32, 0, (2, 0, [(11, 1)])), ([(5, 1)], 17, 2, (2, 32, [(12, 1)])), ([(12, 1)], 32, 1, (0, 0, [])), ([(12, 1)], 32, 0, (2, 0, [(13, 1)])), ([(5, 1)], 17, 1, (2, 32, [(14, 1)])), ([(14, 1)], 32, 1, (0, 0, [])), ([(14, 1)], 32, 0, (2, 0, [(15, 1)])), ([(5, 1)], 17, 0, (2, 32, [(16, 1)])), ([(16, 1)], 32, 1, (0, 0, [])), ([(16, 1)], 32, 0, (2, 0, [(17, 1)]))], 0, 0), []), (1, []), [(0, 0, [], [], []), (0, 0, [], [], []), (0, 0, [(1, [(0, 1)]), (1, [(1, 1)])], [[(1, 1)], [(2, 1)], [(4, 1)], [(5, 1)], [(6, 1)], [(8, 1)], [(10, 1)], [(12, 1)], [(14, 1)], [(16, 1)]], [0]), (0, 0, [], [], []), (0, 0, [], [], []), (0, 0, [], [], []), (0, 0, [], [], []), (0, 0, [], [], []), (0, 0, [], [[(1, 1)]], [1]), (5, 0, [], [], [])])]
set_option maxRecDepth 100000 in
theorem m_246 (l : Launch) : q_Met l vwCl n_TL n_NW n_KT y_1_4 (Cond.code y_1_4 b_1_4 4 (some .int) :: n_GW) rm_246 ct_246 := by
  refine q_method (E := e_246) ts_246 (by decide) rfl rfl rfl ?_ (by decide +kernel)
  intro C D tys htl hl hrm hm hml ho hts hnm hE
  have h : n_ctx C b_1_4 4 "BalanceCoder" D tys := ⟨htl, hm, hml, ho, fun w hw => hts w (List.mem_cons_of_mem _ hw), hE⟩
  refine ⟨⟨?_, ?_⟩, ⟨?_, ?_, ?_, ?_, ?_⟩, ⟨?_, ?_, ?_⟩, ⟨?_, ?_, ?_, ?_⟩, ?_⟩
  · intro i ins len hx; exact kd_1_4 (i, ins, len) hx
  · exact n_at hE.1
  · intro i ci f hx; exact c_fg10 h (i, ci, f) hx
  · intro i ci f hx; exact c_fp10 h (i, ci, f) hx
  · exact n_hap h
  · intro i ci n hx; exact c_cn10 h (i, ci, n) hx
  · exact n_hag htl
  · exact c_n110 h
  · exact c_n210 h
  · intro t ci hx; exact c_at10 h (t, ci) hx
  · intro i n hx; exact c_kI10 h (i, n) hx
  · intro i n hx; exact c_kL10 h (i, n) hx
  · exact c_ob10 h ⟨by rw [hrm]; decide, by rw [hrm]; decide⟩
  · exact c_cp10 h
  · intro ins ct hx
    have g0 : q_Call C b_1_4 D tys n_KT 4 (.invokevirtual 51) ct_184 := q_callV n_NWk h.2.2.2.2.2 h.1 (m_184 C.2.1) ⟨h.2.1.1, h.2.1.2, h.2.2.1, h.2.2.2.1, h.2.2.2.2.1⟩ ⟨n_CB (y := y_1_29) (bytes := b_1_29) 1 h.2.2.2.2.1 n_w305 n_w302 n_w1 ⟨by decide, by decide, by decide +kernel⟩ rfl rfl ⟨by rw [hrm]; decide, by rw [hrm]; decide⟩, h.2.2.2.2.1 _ n_w304, h.2.2.2.2.1 _ n_s0⟩ (Cn := RX10) ⟨40, 10, _, _, _, _, TX10, 8, rfl, rfl, rfl⟩ rfl
    have g1 : q_Call C b_1_4 D tys n_KT 4 (.invokevirtual 55) ct_14 := q_callV n_NWk h.2.2.2.2.2 h.1 (m_14 C.2.1) ⟨h.2.1.1, h.2.1.2, h.2.2.1, h.2.2.2.1, h.2.2.2.2.1⟩ ⟨n_CB (y := y_1_27) (bytes := b_1_27) 1 h.2.2.2.2.1 n_w309 n_w306 n_w1 ⟨by decide, by decide, by decide +kernel⟩ rfl rfl ⟨by rw [hrm]; decide, by rw [hrm]; decide⟩, h.2.2.2.2.1 _ n_w308, h.2.2.2.2.1 _ n_s1⟩ (Cn := RX10) ⟨40, 10, _, _, _, _, TX10, 8, rfl, rfl, rfl⟩ rfl
    have all : ∀ x ∈ [((.invokevirtual 51 : Instr), ct_184), ((.invokevirtual 55 : Instr), ct_14)], q_Call C b_1_4 D tys n_KT 4 x.1 x.2 := (n_mem2 (g0) (n_mem2 (g1) n_mem0))
    exact all (ins, ct) hx
def ct_247 : qCt := ((7, [[(0, (-6)), (2, 1)], [(0, 2147483647), (2, (-1))], [(0, 2147483648), (3, 1)], [(0, 2147483647), (3, (-1))]], [(2, 44, [(1, 1)]), (0, 0, [(2, 1)]), (0, 0, [(3, 1)])], [([(1, 1)], 44, 0, (2, 42, [(4, 1)])), ([(4, 1)], 42, 1, (2, 8, [(5, 1)])), ([(4, 1)], 42, 0, (2, 7, [(6, 1)])), ([(6, 1)], 7, 0, (0, 0, [])), ([(6, 1)], 7, 1, (0, 0, [])), ([(6, 1)], 7, 2, (0, 0, [])), ([(6, 1)], 7, 3, (0, 0, [])), ([(6, 1)], 7, 4, (0, 0, [])), ([(6, 1)], 7, 5, (0, 0, [])), ([(1, 1)], 44, 3, (0, 0, []))]), (7, [], [(0, 0, [(0, (-1))])], [([(1, 1)], 44, 3, (0, 0, [(0, 1)])), ([(1, 1)], 44, 0, (2, 42, [(4, 1)])), ([(4, 1)], 42, 1, (2, 8, [(5, 1)])), ([(4, 1)], 42, 0, (2, 7, [(6, 1)])), ([(6, 1)], 7, 0, (0, 0, [])), ([(6, 1)], 7, 1, (0, 0, [])), ([(6, 1)], 7, 2, (0, 0, [])), ([(6, 1)], 7, 3, (0, 0, [])), ([(6, 1)], 7, 4, (0, 0, [])), ([(6, 1)], 7, 5, (0, 0, []))], []), [], [(44, 3)], 0, 0)
def rm_247 : Room := { frames := 3, cells := 0, slots := 0, locals := 71 }
def e_247 : qEn := (k_13_8, (t_fg12, t_fp12, t_cn12), (t_na12, t_at12), (t_kI12, t_kL12, t_ob12, t_cp12), [(.invokestatic 76, ct_187), (.invokevirtual 82, ct_18)], (q_k (-1), [], []))
def ts_247 : List (qTm × qCert × List qHx) := [((0, (7, [[(0, (-6)), (2, 1)], [(0, 2147483647), (2, (-1))], [(0, 2147483648), (3, 1)], [(0, 2147483647), (3, (-1))]], [(0, (2, 44, [(1, 1)])), (1, (0, 0, [(2, 1)])), (2, (0, 0, [(3, 1)]))], [], [([(1, 1)], 44, 0, (2, 42, [(4, 1)])), ([(4, 1)], 42, 1, (2, 8, [(5, 1)])), ([(4, 1)], 42, 0, (2, 7, [(6, 1)])), ([(6, 1)], 7, 0, (0, 0, [])), ([(6, 1)], 7, 1, (0, 0, [])), ([(6, 1)], 7, 2, (0, 0, [])), ([(6, 1)], 7, 3, (0, 0, [])), ([(6, 1)], 7, 4, (0, 0, [])), ([(6, 1)], 7, 5, (0, 0, [])), ([(1, 1)], 44, 3, (0, 0, []))], 0, 0), []), (1, []), [(0, 0, [], [], []), (0, 0, [(1, [(0, 1)]), (1, [(1, 1)])], [[(2, 1)]], [0]), (0, 1, [(1, [])], [], []), (0, 0, [], [], []), (0, 0, [], [], []), (0, 0, [], [[(1, 1)]], [1]), (5, 0, [], [], []), (2, 0, [(1, [(4, 1)])], [], [])])]
set_option maxRecDepth 100000 in
theorem m_247 (l : Launch) : q_Met l vwCl n_TL n_NW n_KT y_13_8 (Cond.code y_13_8 b_13_8 3 (some .int) :: n_GW) rm_247 ct_247 := by
  refine q_method (E := e_247) ts_247 (by decide) rfl rfl rfl ?_ (by decide +kernel)
  intro C D tys htl hl hrm hm hml ho hts hnm hE
  have h : n_ctx C b_13_8 3 "BalanceCoderModel" D tys := ⟨htl, hm, hml, ho, fun w hw => hts w (List.mem_cons_of_mem _ hw), hE⟩
  refine ⟨⟨?_, ?_⟩, ⟨?_, ?_, ?_, ?_, ?_⟩, ⟨?_, ?_, ?_⟩, ⟨?_, ?_, ?_, ?_⟩, ?_⟩
  · intro i ins len hx; exact kd_13_8 (i, ins, len) hx
  · exact n_at hE.1
  · intro i ci f hx; exact c_fg12 h (i, ci, f) hx
  · intro i ci f hx; exact c_fp12 h (i, ci, f) hx
  · exact n_hap h
  · intro i ci n hx; exact c_cn12 h (i, ci, n) hx
  · exact n_hag htl
  · exact c_n112 h
  · exact c_n212 h
  · intro t ci hx; exact c_at12 h (t, ci) hx
  · intro i n hx; exact c_kI12 h (i, n) hx
  · intro i n hx; exact c_kL12 h (i, n) hx
  · exact c_ob12 h ⟨by rw [hrm]; decide, by rw [hrm]; decide⟩
  · exact c_cp12 h
  · intro ins ct hx
    have g0 : q_Call C b_13_8 D tys n_KT 3 (.invokestatic 76) ct_187 := q_callS n_NWk h.2.2.2.2.2 h.1 (m_187 C.2.1) ⟨h.2.1.1, h.2.1.2, h.2.2.1, h.2.2.2.1, h.2.2.2.2.1⟩ ⟨n_CB (y := y_13_4) (bytes := b_13_4) 1 h.2.2.2.2.1 n_w919 n_w917 n_w12 ⟨by decide, by decide, by decide +kernel⟩ rfl rfl ⟨by rw [hrm]; decide, by rw [hrm]; decide⟩, h.2.2.2.2.1 _ n_w918⟩ rfl
    have g1 : q_Call C b_13_8 D tys n_KT 3 (.invokevirtual 82) ct_18 := q_callV n_NWk h.2.2.2.2.2 h.1 (m_18 C.2.1) ⟨h.2.1.1, h.2.1.2, h.2.2.1, h.2.2.2.1, h.2.2.2.2.1⟩ ⟨n_CB (y := y_13_2) (bytes := b_13_2) 1 h.2.2.2.2.1 n_w928 n_w925 n_w12 ⟨by decide, by decide, by decide +kernel⟩ rfl rfl ⟨by rw [hrm]; decide, by rw [hrm]; decide⟩, h.2.2.2.2.1 _ n_w927, h.2.2.2.2.1 _ n_s27⟩ (Cn := RX12) ⟨44, 12, _, _, _, _, TX12, 31, rfl, rfl, rfl⟩ rfl
    have all : ∀ x ∈ [((.invokestatic 76 : Instr), ct_187), ((.invokevirtual 82 : Instr), ct_18)], q_Call C b_13_8 D tys n_KT 3 x.1 x.2 := (n_mem2 (g0) (n_mem2 (g1) n_mem0))
    exact all (ins, ct) hx
def ct_248 : qCt := ((20, [[(0, 2147483648), (2, 1)], [(0, (-1)), (2, (-1))], [(0, 2147483648), (3, 1)], [(0, 2147483647), (3, (-1))], [(0, 2147483648), (4, 1)], [(0, 2147483647), (4, (-1))], [(0, 2147483648), (5, 1)], [(0, (-1)), (5, (-1))]], [(2, 40, [(1, 1)]), (0, 0, [(2, 1)]), (0, 0, [(3, 1)]), (0, 0, [(4, 1)]), (0, 0, [(5, 1)])], [([(1, 1)], 40, 7, (0, 0, [])), ([(1, 1)], 40, 0, (2, 38, [(6, 1)])), ([(6, 1)], 38, 0, (2, 17, [(7, 1)])), ([(7, 1)], 17, 5, (2, 32, [(8, 1)])), ([(8, 1)], 32, 1, (0, 0, [])), ([(8, 1)], 32, 0, (2, 0, [(9, 1)])), ([(7, 1)], 17, 4, (2, 32, [(10, 1)])), ([(10, 1)], 32, 1, (0, 0, [])), ([(10, 1)], 32, 0, (2, 0, [(11, 1)])), ([(7, 1)], 17, 3, (2, 32, [(12, 1)])), ([(12, 1)], 32, 1, (0, 0, [])), ([(12, 1)], 32, 0, (2, 0, [(13, 1)])), ([(7, 1)], 17, 2, (2, 32, [(14, 1)])), ([(14, 1)], 32, 1, (0, 0, [])), ([(14, 1)], 32, 0, (2, 0, [(15, 1)])), ([(7, 1)], 17, 1, (2, 32, [(16, 1)])), ([(16, 1)], 32, 1, (0, 0, [])), ([(16, 1)], 32, 0, (2, 0, [(17, 1)])), ([(7, 1)], 17, 0, (2, 32, [(18, 1)])), ([(18, 1)], 32, 1, (0, 0, [])), ([(18, 1)], 32, 0, (2, 0, [(19, 1)]))]), (20, [], [(0, 0, [(0, (-1))])], [([(1, 1)], 40, 7, (0, 0, [(0, 1)])), ([(1, 1)], 40, 0, (2, 38, [(6, 1)])), ([(6, 1)], 38, 0, (2, 17, [(7, 1)])), ([(7, 1)], 17, 5, (2, 32, [(8, 1)])), ([(7, 1)], 17, 4, (2, 32, [(10, 1)])), ([(7, 1)], 17, 3, (2, 32, [(12, 1)])), ([(7, 1)], 17, 2, (2, 32, [(14, 1)])), ([(7, 1)], 17, 1, (2, 32, [(16, 1)])), ([(7, 1)], 17, 0, (2, 32, [(18, 1)])), ([(8, 1)], 32, 1, (0, 0, [])), ([(8, 1)], 32, 0, (2, 0, [(9, 1)])), ([(10, 1)], 32, 1, (0, 0, [])), ([(10, 1)], 32, 0, (2, 0, [(11, 1)])), ([(12, 1)], 32, 1, (0, 0, [])), ([(12, 1)], 32, 0, (2, 0, [(13, 1)])), ([(14, 1)], 32, 1, (0, 0, [])), ([(14, 1)], 32, 0, (2, 0, [(15, 1)])), ([(16, 1)], 32, 1, (0, 0, [])), ([(16, 1)], 32, 0, (2, 0, [(17, 1)])), ([(18, 1)], 32, 1, (0, 0, [])), ([(18, 1)], 32, 0, (2, 0, [(19, 1)]))], []), [], [(40, 7)], 0, 0)
def rm_248 : Room := { frames := 2, cells := 0, slots := 0, locals := 47 }
def e_248 : qEn := (k_1_5, (t_fg10, t_fp10, t_cn10), (t_na10, t_at10), (t_kI10, t_kL10, t_ob10, t_cp10), [(.invokevirtual 51, ct_13), (.invokevirtual 55, ct_14)], (q_k (-1), [], []))
def ts_248 : List (qTm × qCert × List qHx) := [((0, (20, [[(0, 2147483648), (2, 1)], [(0, (-1)), (2, (-1))], [(0, 2147483648), (3, 1)], [(0, 2147483647), (3, (-1))], [(0, 2147483648), (4, 1)], [(0, 2147483647), (4, (-1))], [(0, 2147483648), (5, 1)], [(0, (-1)), (5, (-1))]], [(0, (2, 40, [(1, 1)])), (1, (0, 0, [(2, 1)])), (2, (0, 0, [(3, 1)])), (3, (0, 0, [(4, 1)])), (4, (0, 0, [(5, 1)]))], [], [([(1, 1)], 40, 7, (0, 0, [])), ([(1, 1)], 40, 0, (2, 38, [(6, 1)])), ([(6, 1)], 38, 0, (2, 17, [(7, 1)])), ([(7, 1)], 17, 5, (2, 32, [(8, 1)])), ([(8, 1)], 32, 1, (0, 0, [])), ([(8, 1)], 32, 0, (2, 0, [(9, 1)])), ([(7, 1)], 17, 4, (2, 32, [(10, 1)])), ([(10, 1)], 32, 1, (0, 0, [])), ([(10, 1)], 32, 0, (2, 0, [(11, 1)])), ([(7, 1)], 17, 3, (2, 32, [(12, 1)])), ([(12, 1)], 32, 1, (0, 0, [])), ([(12, 1)], 32, 0, (2, 0, [(13, 1)])), ([(7, 1)], 17, 2, (2, 32, [(14, 1)])), ([(14, 1)], 32, 1, (0, 0, [])), ([(14, 1)], 32, 0, (2, 0, [(15, 1)])), ([(7, 1)], 17, 1, (2, 32, [(16, 1)])), ([(16, 1)], 32, 1, (0, 0, [])), ([(16, 1)], 32, 0, (2, 0, [(17, 1)])), ([(7, 1)], 17, 0, (2, 32, [(18, 1)])), ([(18, 1)], 32, 1, (0, 0, [])), ([(18, 1)], 32, 0, (2, 0, [(19, 1)]))], 0, 0), []), (1, []), [(0, 0, [], [], []), (0, 0, [], [], []), (0, 0, [(1, [(0, 1)]), (1, [(1, 1)])], [[(1, 1)], [(2, 1)], [(6, 1)], [(7, 1)], [(8, 1)], [(10, 1)], [(12, 1)], [(14, 1)], [(16, 1)], [(18, 1)]], [0]), (0, 0, [], [], []), (0, 0, [], [], []), (0, 0, [], [], []), (0, 0, [(1, [(6, 1)]), (1, [(7, 1)])], [[(1, 1)], [(5, 1)], [(6, 1)], [(7, 1)], [(8, 1)], [(10, 1)], [(12, 1)], [(14, 1)], [(16, 1)], [(18, 1)]], [0]), (0, 0, [], [], []), (0, 0, [], [], []), (0, 0, [], [], []), (0, 0, [], [], []), (0, 0, [], [], []), (0, 0, [], [[(1, 1)]], [1]), (5, 0, [], [], [])])]
set_option maxRecDepth 100000 in
theorem m_248 (l : Launch) : q_Met l vwCl n_TL n_NW n_KT y_1_5 (Cond.code y_1_5 b_1_5 8 (some .int) :: n_GW) rm_248 ct_248 := by
  refine q_method (E := e_248) ts_248 (by decide) rfl rfl rfl ?_ (by decide +kernel)
  intro C D tys htl hl hrm hm hml ho hts hnm hE
  have h : n_ctx C b_1_5 8 "BalanceCoder" D tys := ⟨htl, hm, hml, ho, fun w hw => hts w (List.mem_cons_of_mem _ hw), hE⟩
  refine ⟨⟨?_, ?_⟩, ⟨?_, ?_, ?_, ?_, ?_⟩, ⟨?_, ?_, ?_⟩, ⟨?_, ?_, ?_, ?_⟩, ?_⟩
  · intro i ins len hx; exact kd_1_5 (i, ins, len) hx
  · exact n_at hE.1
  · intro i ci f hx; exact c_fg10 h (i, ci, f) hx
  · intro i ci f hx; exact c_fp10 h (i, ci, f) hx
  · exact n_hap h
  · intro i ci n hx; exact c_cn10 h (i, ci, n) hx
  · exact n_hag htl
  · exact c_n110 h
  · exact c_n210 h
  · intro t ci hx; exact c_at10 h (t, ci) hx
  · intro i n hx; exact c_kI10 h (i, n) hx
  · intro i n hx; exact c_kL10 h (i, n) hx
  · exact c_ob10 h ⟨by rw [hrm]; decide, by rw [hrm]; decide⟩
  · exact c_cp10 h
  · intro ins ct hx
    have g0 : q_Call C b_1_5 D tys n_KT 8 (.invokevirtual 51) ct_13 := q_callV n_NWk h.2.2.2.2.2 h.1 (m_13 C.2.1) ⟨h.2.1.1, h.2.1.2, h.2.2.1, h.2.2.2.1, h.2.2.2.2.1⟩ ⟨n_CB (y := y_1_29) (bytes := b_1_29) 1 h.2.2.2.2.1 n_w305 n_w302 n_w1 ⟨by decide, by decide, by decide +kernel⟩ rfl rfl ⟨by rw [hrm]; decide, by rw [hrm]; decide⟩, h.2.2.2.2.1 _ n_w304, h.2.2.2.2.1 _ n_s0⟩ (Cn := RX10) ⟨40, 10, _, _, _, _, TX10, 8, rfl, rfl, rfl⟩ rfl
    have g1 : q_Call C b_1_5 D tys n_KT 8 (.invokevirtual 55) ct_14 := q_callV n_NWk h.2.2.2.2.2 h.1 (m_14 C.2.1) ⟨h.2.1.1, h.2.1.2, h.2.2.1, h.2.2.2.1, h.2.2.2.2.1⟩ ⟨n_CB (y := y_1_27) (bytes := b_1_27) 1 h.2.2.2.2.1 n_w309 n_w306 n_w1 ⟨by decide, by decide, by decide +kernel⟩ rfl rfl ⟨by rw [hrm]; decide, by rw [hrm]; decide⟩, h.2.2.2.2.1 _ n_w308, h.2.2.2.2.1 _ n_s1⟩ (Cn := RX10) ⟨40, 10, _, _, _, _, TX10, 8, rfl, rfl, rfl⟩ rfl
    have all : ∀ x ∈ [((.invokevirtual 51 : Instr), ct_13), ((.invokevirtual 55 : Instr), ct_14)], q_Call C b_1_5 D tys n_KT 8 x.1 x.2 := (n_mem2 (g0) (n_mem2 (g1) n_mem0))
    exact all (ins, ct) hx
def ct_249 : qCt := ((10, [[(0, 2147483648), (2, 1)], [(0, (-1)), (2, (-1))], [(0, 2147483648), (3, 1)], [(0, 2147483647), (3, (-1))], [(0, 2147483648), (4, 1)], [(0, 2147483647), (4, (-1))], [(0, 2147483648), (5, 1)], [(0, (-1)), (5, (-1))]], [(2, 44, [(1, 1)]), (0, 0, [(2, 1)]), (0, 0, [(3, 1)]), (0, 0, [(4, 1)]), (0, 0, [(5, 1)])], [([(1, 1)], 44, 6, (2, 0, [(6, 1)])), ([(1, 1)], 44, 0, (2, 42, [(7, 1)])), ([(7, 1)], 42, 1, (2, 8, [(8, 1)])), ([(7, 1)], 42, 0, (2, 7, [(9, 1)])), ([(9, 1)], 7, 0, (0, 0, [])), ([(9, 1)], 7, 1, (0, 0, [])), ([(9, 1)], 7, 2, (0, 0, [])), ([(9, 1)], 7, 3, (0, 0, [])), ([(9, 1)], 7, 4, (0, 0, [])), ([(9, 1)], 7, 5, (0, 0, [])), ([(1, 1)], 44, 3, (0, 0, []))]), (10, [], [(0, 0, [(0, (-1))])], [([(1, 1)], 44, 3, (0, 0, [(0, 1)])), ([(1, 1)], 44, 6, (2, 0, [(6, 1)])), ([(1, 1)], 44, 0, (2, 42, [(7, 1)])), ([(7, 1)], 42, 1, (2, 8, [(8, 1)])), ([(7, 1)], 42, 0, (2, 7, [(9, 1)])), ([(9, 1)], 7, 0, (0, 0, [])), ([(9, 1)], 7, 1, (0, 0, [])), ([(9, 1)], 7, 2, (0, 0, [])), ([(9, 1)], 7, 3, (0, 0, [])), ([(9, 1)], 7, 4, (0, 0, [])), ([(9, 1)], 7, 5, (0, 0, []))], []), [], [(44, 3)], 0, 0)
def rm_249 : Room := { frames := 3, cells := 0, slots := 0, locals := 71 }
def e_249 : qEn := (k_13_9, (t_fg12, t_fp12, t_cn12), (t_na12, t_at12), (t_kI12, t_kL12, t_ob12, t_cp12), [(.invokestatic 76, ct_17), (.invokevirtual 82, ct_18)], (q_k (-1), [], []))
def ts_249 : List (qTm × qCert × List qHx) := [((0, (10, [[(0, 2147483648), (2, 1)], [(0, (-1)), (2, (-1))], [(0, 2147483648), (3, 1)], [(0, 2147483647), (3, (-1))], [(0, 2147483648), (4, 1)], [(0, 2147483647), (4, (-1))], [(0, 2147483648), (5, 1)], [(0, (-1)), (5, (-1))]], [(0, (2, 44, [(1, 1)])), (1, (0, 0, [(2, 1)])), (2, (0, 0, [(3, 1)])), (3, (0, 0, [(4, 1)])), (4, (0, 0, [(5, 1)]))], [], [([(1, 1)], 44, 6, (2, 0, [(6, 1)])), ([(1, 1)], 44, 0, (2, 42, [(7, 1)])), ([(7, 1)], 42, 1, (2, 8, [(8, 1)])), ([(7, 1)], 42, 0, (2, 7, [(9, 1)])), ([(9, 1)], 7, 0, (0, 0, [])), ([(9, 1)], 7, 1, (0, 0, [])), ([(9, 1)], 7, 2, (0, 0, [])), ([(9, 1)], 7, 3, (0, 0, [])), ([(9, 1)], 7, 4, (0, 0, [])), ([(9, 1)], 7, 5, (0, 0, [])), ([(1, 1)], 44, 3, (0, 0, []))], 0, 0), []), (1, []), [(0, 0, [], [], []), (0, 0, [(1, [(0, 1)]), (1, [(1, 1)])], [[(2, 1)]], [0]), (0, 1, [(1, [])], [], []), (0, 0, [], [], []), (0, 0, [], [], []), (0, 0, [], [[(1, 1)]], [1]), (5, 0, [], [], []), (2, 0, [(1, [(8, 1)])], [], [])])]
set_option maxRecDepth 100000 in
theorem m_249 (l : Launch) : q_Met l vwCl n_TL n_NW n_KT y_13_9 (Cond.code y_13_9 b_13_9 6 (some .int) :: n_GW) rm_249 ct_249 := by
  refine q_method (E := e_249) ts_249 (by decide) rfl rfl rfl ?_ (by decide +kernel)
  intro C D tys htl hl hrm hm hml ho hts hnm hE
  have h : n_ctx C b_13_9 6 "BalanceCoderModel" D tys := ⟨htl, hm, hml, ho, fun w hw => hts w (List.mem_cons_of_mem _ hw), hE⟩
  refine ⟨⟨?_, ?_⟩, ⟨?_, ?_, ?_, ?_, ?_⟩, ⟨?_, ?_, ?_⟩, ⟨?_, ?_, ?_, ?_⟩, ?_⟩
  · intro i ins len hx; exact kd_13_9 (i, ins, len) hx
  · exact n_at hE.1
  · intro i ci f hx; exact c_fg12 h (i, ci, f) hx
  · intro i ci f hx; exact c_fp12 h (i, ci, f) hx
  · exact n_hap h
  · intro i ci n hx; exact c_cn12 h (i, ci, n) hx
  · exact n_hag htl
  · exact c_n112 h
  · exact c_n212 h
  · intro t ci hx; exact c_at12 h (t, ci) hx
  · intro i n hx; exact c_kI12 h (i, n) hx
  · intro i n hx; exact c_kL12 h (i, n) hx
  · exact c_ob12 h ⟨by rw [hrm]; decide, by rw [hrm]; decide⟩
  · exact c_cp12 h
  · intro ins ct hx
    have g0 : q_Call C b_13_9 D tys n_KT 6 (.invokestatic 76) ct_17 := q_callS n_NWk h.2.2.2.2.2 h.1 (m_17 C.2.1) ⟨h.2.1.1, h.2.1.2, h.2.2.1, h.2.2.2.1, h.2.2.2.2.1⟩ ⟨n_CB (y := y_13_4) (bytes := b_13_4) 1 h.2.2.2.2.1 n_w919 n_w917 n_w12 ⟨by decide, by decide, by decide +kernel⟩ rfl rfl ⟨by rw [hrm]; decide, by rw [hrm]; decide⟩, h.2.2.2.2.1 _ n_w918⟩ rfl
    have g1 : q_Call C b_13_9 D tys n_KT 6 (.invokevirtual 82) ct_18 := q_callV n_NWk h.2.2.2.2.2 h.1 (m_18 C.2.1) ⟨h.2.1.1, h.2.1.2, h.2.2.1, h.2.2.2.1, h.2.2.2.2.1⟩ ⟨n_CB (y := y_13_2) (bytes := b_13_2) 1 h.2.2.2.2.1 n_w928 n_w925 n_w12 ⟨by decide, by decide, by decide +kernel⟩ rfl rfl ⟨by rw [hrm]; decide, by rw [hrm]; decide⟩, h.2.2.2.2.1 _ n_w927, h.2.2.2.2.1 _ n_s27⟩ (Cn := RX12) ⟨44, 12, _, _, _, _, TX12, 31, rfl, rfl, rfl⟩ rfl
    have all : ∀ x ∈ [((.invokestatic 76 : Instr), ct_17), ((.invokevirtual 82 : Instr), ct_18)], q_Call C b_13_9 D tys n_KT 6 x.1 x.2 := (n_mem2 (g0) (n_mem2 (g1) n_mem0))
    exact all (ins, ct) hx
