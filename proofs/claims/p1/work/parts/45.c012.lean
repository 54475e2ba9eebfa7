def ct_600 : qCt := ((5, [[(0, 2147483648), (2, 1)], [(0, 2147483647), (2, (-1))]], [(2, 44, [(1, 1)]), (0, 0, []), (0, 0, [(2, 1)])], [([(1, 1)], 44, 0, (2, 42, [(3, 1)])), ([(3, 1)], 42, 8, (2, 5, [(4, 1)])), ([(3, 1)], 42, 7, (0, 0, [])), ([(3, 1)], 42, 9, (0, 0, [])), ([(3, 1)], 42, 10, (0, 0, [])), ([(1, 1)], 44, 3, (0, 0, []))]), (5, [], [(0, 0, [(0, (-1))])], [([(1, 1)], 44, 3, (0, 0, [(0, 1)])), ([(1, 1)], 44, 0, (2, 42, [(3, 1)])), ([(3, 1)], 42, 8, (2, 5, [(4, 1)])), ([(3, 1)], 42, 7, (0, 0, [])), ([(3, 1)], 42, 9, (0, 0, [])), ([(3, 1)], 42, 10, (0, 0, []))], []), [], [(44, 3)], 0, 0)
def rm_600 : Room := { frames := 2, cells := 0, slots := 0, locals := 51 }
def e_600 : qEn := (k_13_44, (t_fg12, t_fp12, t_cn12), (t_na12, t_at12), (t_kI12, t_kL12, t_ob12, t_cp12), [(.invokestatic 69, ct_490), (.invokevirtual 82, ct_18)], (q_k (-1), [], []))
def ts_600 : List (qTm × qCert × List qHx) := [((0, (5, [[(0, 2147483648), (2, 1)], [(0, 2147483647), (2, (-1))]], [(0, (2, 44, [(1, 1)])), (1, (0, 0, [])), (2, (0, 0, [(2, 1)]))], [], [([(1, 1)], 44, 0, (2, 42, [(3, 1)])), ([(3, 1)], 42, 8, (2, 5, [(4, 1)])), ([(3, 1)], 42, 7, (0, 0, [])), ([(3, 1)], 42, 9, (0, 0, [])), ([(3, 1)], 42, 10, (0, 0, [])), ([(1, 1)], 44, 3, (0, 0, []))], 0, 0), []), (1, []), [(0, 0, [], [], []), (0, 0, [], [], []), (0, 0, [], [], []), (0, 0, [], [], []), (0, 1, [], [], [0]), (0, 1, [], [], [2]), (0, 0, [], [], []), (0, 1, [(1, []), (1, [])], [], []), (0, 0, [], [], []), (0, 0, [], [], [0]), (0, 1, [(1, [])], [], []), (0, 0, [], [], []), (0, 0, [], [], []), (0, 0, [], [[(1, 1)]], [1]), (5, 0, [], [], []), (2, 0, [(1, [(2, 1)])], [], [])])]
set_option maxRecDepth 100000 in
theorem m_600 (l : Launch) : q_Met l vwCl n_TL n_NW n_KT y_13_44 (Cond.code y_13_44 b_13_44 3 (some .int) :: n_GW) rm_600 ct_600 := by
  refine q_method (E := e_600) ts_600 (by decide) rfl rfl rfl ?_ (by decide +kernel)
  intro C D tys htl hl hrm hm hml ho hts hnm hE
  have h : n_ctx C b_13_44 3 "BalanceCoderModel" D tys := ⟨htl, hm, hml, ho, fun w hw => hts w (List.mem_cons_of_mem _ hw), hE⟩
  refine ⟨⟨?_, ?_⟩, ⟨?_, ?_, ?_, ?_, ?_⟩, ⟨?_, ?_, ?_⟩, ⟨?_, ?_, ?_, ?_⟩, ?_⟩
  · intro i ins len hx; exact kd_13_44 (i, ins, len) hx
  · exact n_at hE.1
  · intro i ci f hx; exact c_fg12 h (i, ci, f) hx
  · intro i ci f hx; exact c_fp12 h (i, ci, f) hx
  · exact n_hap h
  · intro i ci n hx; exact c_cn12 h (i, ci, n) hx
  · exact n_hag htl
  · exact c_n112 h
  · exact c_n212 h
  · intro t ci hx; exact c_at12 h (t, ci) hx
  · intro i n hx; exact c_kI12 h (i, n) hx
  · intro i n hx; exact c_kL12 h (i, n) hx
  · exact c_ob12 h ⟨by rw [hrm]; decide, by rw [hrm]; decide⟩
  · exact c_cp12 h
  · intro ins ct hx
    have g0 : q_Call C b_13_44 D tys n_KT 3 (.invokestatic 69) ct_490 := q_callS n_NWk h.2.2.2.2.2 h.1 (m_490 C.2.1) ⟨h.2.1.1, h.2.1.2, h.2.2.1, h.2.2.2.1, h.2.2.2.2.1⟩ ⟨n_CB (y := y_13_3) (bytes := b_13_3) 3 h.2.2.2.2.1 n_w923 n_w921 n_w12 ⟨by decide, by decide, by decide +kernel⟩ rfl rfl ⟨by rw [hrm]; decide, by rw [hrm]; decide⟩, h.2.2.2.2.1 _ n_w922⟩ rfl
    have g1 : q_Call C b_13_44 D tys n_KT 3 (.invokevirtual 82) ct_18 := q_callV n_NWk h.2.2.2.2.2 h.1 (m_18 C.2.1) ⟨h.2.1.1, h.2.1.2, h.2.2.1, h.2.2.2.1, h.2.2.2.2.1⟩ ⟨n_CB (y := y_13_2) (bytes := b_13_2) 1 h.2.2.2.2.1 n_w928 n_w925 n_w12 ⟨by decide, by decide, by decide +kernel⟩ rfl rfl ⟨by rw [hrm]; decide, by rw [hrm]; decide⟩, h.2.2.2.2.1 _ n_w927, h.2.2.2.2.1 _ n_s27⟩ (Cn := RX12) ⟨44, 12, _, _, _, _, TX12, 31, rfl, rfl, rfl⟩ rfl
    have all : ∀ x ∈ [((.invokestatic 69 : Instr), ct_490), ((.invokevirtual 82 : Instr), ct_18)], q_Call C b_13_44 D tys n_KT 3 x.1 x.2 := (n_mem2 (g0) (n_mem2 (g1) n_mem0))
    exact all (ins, ct) hx
def ct_601 : qCt := ((6, [[(0, 2147483648), (2, 1)], [(0, (-401)), (2, (-1))]], [(2, 40, [(1, 1)]), (1, 0, []), (0, 0, [(2, 1)])], [([(1, 1)], 40, 7, (0, 0, [])), ([(1, 1)], 40, 0, (2, 38, [(3, 1)])), ([(3, 1)], 38, 3, (2, 22, [(4, 1)])), ([(4, 1)], 22, 4, (0, 0, [])), ([(4, 1)], 22, 2, (0, 0, [])), ([(4, 1)], 22, 1, (0, 0, [])), ([(4, 1)], 22, 0, (2, 5, [(5, 1)]))]), (6, [], [(0, 0, [(0, (-1))])], [([(1, 1)], 40, 7, (0, 0, [(0, 1)])), ([(1, 1)], 40, 0, (2, 38, [(3, 1)])), ([(3, 1)], 38, 3, (2, 22, [(4, 1)])), ([(4, 1)], 22, 4, (0, 0, [])), ([(4, 1)], 22, 2, (0, 0, [])), ([(4, 1)], 22, 1, (0, 0, [])), ([(4, 1)], 22, 0, (2, 5, [(5, 1)]))], []), [], [(40, 7)], 0, 0)
def rm_601 : Room := { frames := 2, cells := 0, slots := 0, locals := 47 }
def e_601 : qEn := (k_1_17, (t_fg10, t_fp10, t_cn10), (t_na10, t_at10), (t_kI10, t_kL10, t_ob10, t_cp10), [(.invokevirtual 55, ct_14)], (q_k (-1), [], []))
def ts_601 : List (qTm × qCert × List qHx) := [((0, (6, [[(0, 2147483648), (2, 1)], [(0, (-401)), (2, (-1))]], [(0, (2, 40, [(1, 1)])), (1, (1, 0, [])), (3, (0, 0, [(2, 1)]))], [], [([(1, 1)], 40, 7, (0, 0, [])), ([(1, 1)], 40, 0, (2, 38, [(3, 1)])), ([(3, 1)], 38, 3, (2, 22, [(4, 1)])), ([(4, 1)], 22, 4, (0, 0, [])), ([(4, 1)], 22, 2, (0, 0, [])), ([(4, 1)], 22, 1, (0, 0, [])), ([(4, 1)], 22, 0, (2, 5, [(5, 1)]))], 0, 0), []), (1, []), [(0, 0, [], [], []), (0, 1, [], [], [1]), (0, 1, [], [], [2]), (0, 0, [], [], []), (0, 0, [], [], []), (0, 0, [], [], []), (0, 0, [], [], []), (0, 0, [], [], []), (0, 0, [], [], []), (0, 0, [], [[(1, 1)]], [0]), (5, 0, [], [], []), (2, 0, [(1, [(1, 1), (2, 1)])], [], [])])]
set_option maxRecDepth 100000 in
theorem m_601 (l : Launch) : q_Met l vwCl n_TL n_NW n_KT y_1_17 (Cond.code y_1_17 b_1_17 6 (some .int) :: n_GW) rm_601 ct_601 := by
  refine q_method (E := e_601) ts_601 (by decide) rfl rfl rfl ?_ (by decide +kernel)
  intro C D tys htl hl hrm hm hml ho hts hnm hE
  have h : n_ctx C b_1_17 6 "BalanceCoder" D tys := ⟨htl, hm, hml, ho, fun w hw => hts w (List.mem_cons_of_mem _ hw), hE⟩
  refine ⟨⟨?_, ?_⟩, ⟨?_, ?_, ?_, ?_, ?_⟩, ⟨?_, ?_, ?_⟩, ⟨?_, ?_, ?_, ?_⟩, ?_⟩
  · intro i ins len hx; exact kd_1_17 (i, ins, len) hx
  · exact n_at hE.1
  · intro i ci f hx; exact c_fg10 h (i, ci, f) hx
  · intro i ci f hx; exact c_fp10 h (i, ci, f) hx
  · exact n_hap h
  · intro i ci n hx; exact c_cn10 h (i, ci, n) hx
  · exact n_hag htl
  · exact c_n110 h
  · exact c_n210 h
  · intro t ci hx; exact c_at10 h (t, ci) hx
  · intro i n hx; exact c_kI10 h (i, n) hx
  · intro i n hx; exact c_kL10 h (i, n) hx
  · exact c_ob10 h ⟨by rw [hrm]; decide, by rw [hrm]; decide⟩
  · exact c_cp10 h
  · intro ins ct hx
    have g0 : q_Call C b_1_17 D tys n_KT 6 (.invokevirtual 55) ct_14 := q_callV n_NWk h.2.2.2.2.2 h.1 (m_14 C.2.1) ⟨h.2.1.1, h.2.1.2, h.2.2.1, h.2.2.2.1, h.2.2.2.2.1⟩ ⟨n_CB (y := y_1_27) (bytes := b_1_27) 1 h.2.2.2.2.1 n_w309 n_w306 n_w1 ⟨by decide, by decide, by decide +kernel⟩ rfl rfl ⟨by rw [hrm]; decide, by rw [hrm]; decide⟩, h.2.2.2.2.1 _ n_w308, h.2.2.2.2.1 _ n_s1⟩ (Cn := RX10) ⟨40, 10, _, _, _, _, TX10, 8, rfl, rfl, rfl⟩ rfl
    have all : ∀ x ∈ [((.invokevirtual 55 : Instr), ct_14)], q_Call C b_1_17 D tys n_KT 6 x.1 x.2 := (n_mem2 (g0) n_mem0)
    exact all (ins, ct) hx
def ct_602 : qCt := ((2, [[(0, 2147483648), (1, 1)], [(0, (-401)), (1, (-1))]], [(5, 0, [(1, 1)]), (5, 0, [(0, (-400))]), (5, 0, [(0, 8)])], []), (2, [], [(0, 0, [])], [], []), [], [], 0, 0)
def rm_602 : Room := { frames := 1, cells := 0, slots := 0, locals := 26 }
def e_602 : qEn := (k_13_3, (t_fg12, t_fp12, t_cn12), (t_na12, t_at12), (t_kI12, t_kL12, t_ob12, t_cp12), [], (q_k (-1), [], []))
def ts_602 : List (qTm × qCert × List qHx) := [((0, (2, [[(0, 2147483648), (1, 1)], [(0, (-401)), (1, (-1))]], [(0, (5, 0, [(1, 1)])), (2, (5, 0, [(0, (-400))])), (4, (5, 0, [(0, 8)]))], [], [], 0, 0), []), (1, []), [(0, 0, [], [], []), (0, 0, [], [], []), (0, 3, [(1, [(1, 1)])], [], []), (0, 0, [], [], []), (0, 0, [], [], []), (5, 0, [(1, []), (1, [])], [], []), (2, 0, [(1, [(2, 1)])], [], [])])]
set_option maxRecDepth 100000 in
theorem m_602 (l : Launch) : q_Met l vwCl n_TL n_NW n_KT y_13_3 (Cond.code y_13_3 b_13_3 6 (some .boolean) :: n_GW) rm_602 ct_602 := by
  refine q_method (E := e_602) ts_602 (by decide) rfl rfl rfl ?_ (by decide +kernel)
  intro C D tys htl hl hrm hm hml ho hts hnm hE
  have h : n_ctx C b_13_3 6 "BalanceCoderModel" D tys := ⟨htl, hm, hml, ho, fun w hw => hts w (List.mem_cons_of_mem _ hw), hE⟩
  refine ⟨⟨?_, ?_⟩, ⟨?_, ?_, ?_, ?_, ?_⟩, ⟨?_, ?_, ?_⟩, ⟨?_, ?_, ?_, ?_⟩, ?_⟩
  · intro i ins len hx; exact kd_13_3 (i, ins, len) hx
  · exact n_at hE.1
  · intro i ci f hx; exact c_fg12 h (i, ci, f) hx
  · intro i ci f hx; exact c_fp12 h (i, ci, f) hx
  · exact n_hap h
  · intro i ci n hx; exact c_cn12 h (i, ci, n) hx
  · exact n_hag htl
  · exact c_n112 h
  · exact c_n212 h
  · intro t ci hx; exact c_at12 h (t, ci) hx
  · intro i n hx; exact c_kI12 h (i, n) hx
  · intro i n hx; exact c_kL12 h (i, n) hx
  · exact c_ob12 h ⟨by rw [hrm]; decide, by rw [hrm]; decide⟩
  · exact c_cp12 h
  · intro ins ct hx; cases hx
def ct_603 : qCt := ((5, [[(0, 2147483648), (2, 1)], [(0, (-401)), (2, (-1))]], [(2, 44, [(1, 1)]), (1, 0, []), (0, 0, [(2, 1)])], [([(1, 1)], 44, 0, (2, 42, [(3, 1)])), ([(3, 1)], 42, 8, (2, 5, [(4, 1)])), ([(3, 1)], 42, 7, (0, 0, [])), ([(3, 1)], 42, 9, (0, 0, [])), ([(3, 1)], 42, 10, (0, 0, [])), ([(1, 1)], 44, 3, (0, 0, []))]), (5, [], [(0, 0, [(0, (-1))])], [([(1, 1)], 44, 3, (0, 0, [(0, 1)])), ([(1, 1)], 44, 0, (2, 42, [(3, 1)])), ([(3, 1)], 42, 8, (2, 5, [(4, 1)])), ([(3, 1)], 42, 7, (0, 0, [])), ([(3, 1)], 42, 9, (0, 0, [])), ([(3, 1)], 42, 10, (0, 0, []))], []), [], [(44, 3)], 0, 0)
def rm_603 : Room := { frames := 2, cells := 0, slots := 0, locals := 51 }
def e_603 : qEn := (k_13_45, (t_fg12, t_fp12, t_cn12), (t_na12, t_at12), (t_kI12, t_kL12, t_ob12, t_cp12), [(.invokestatic 69, ct_602), (.invokevirtual 82, ct_18)], (q_k (-1), [], []))
def ts_603 : List (qTm × qCert × List qHx) := [((0, (5, [[(0, 2147483648), (2, 1)], [(0, (-401)), (2, (-1))]], [(0, (2, 44, [(1, 1)])), (1, (1, 0, [])), (3, (0, 0, [(2, 1)]))], [], [([(1, 1)], 44, 0, (2, 42, [(3, 1)])), ([(3, 1)], 42, 8, (2, 5, [(4, 1)])), ([(3, 1)], 42, 7, (0, 0, [])), ([(3, 1)], 42, 9, (0, 0, [])), ([(3, 1)], 42, 10, (0, 0, [])), ([(1, 1)], 44, 3, (0, 0, []))], 0, 0), []), (1, []), [(0, 0, [], [], []), (0, 0, [], [], []), (0, 0, [], [], []), (0, 0, [], [], []), (0, 0, [(1, [(0, 1)]), (1, [(1, 1)])], [[(2, 1)]], [0]), (0, 1, [(1, [])], [], []), (0, 0, [], [], []), (0, 0, [], [], []), (0, 0, [], [[(1, 1)]], [1]), (5, 0, [], [], []), (2, 0, [(1, [(2, 1)])], [], [])])]
set_option maxRecDepth 100000 in
theorem m_603 (l : Launch) : q_Met l vwCl n_TL n_NW n_KT y_13_45 (Cond.code y_13_45 b_13_45 5 (some .int) :: n_GW) rm_603 ct_603 := by
  refine q_method (E := e_603) ts_603 (by decide) rfl rfl rfl ?_ (by decide +kernel)
  intro C D tys htl hl hrm hm hml ho hts hnm hE
  have h : n_ctx C b_13_45 5 "BalanceCoderModel" D tys := ⟨htl, hm, hml, ho, fun w hw => hts w (List.mem_cons_of_mem _ hw), hE⟩
  refine ⟨⟨?_, ?_⟩, ⟨?_, ?_, ?_, ?_, ?_⟩, ⟨?_, ?_, ?_⟩, ⟨?_, ?_, ?_, ?_⟩, ?_⟩
  · intro i ins len hx; exact kd_13_45 (i, ins, len) hx
  · exact n_at hE.1
  · intro i ci f hx; exact c_fg12 h (i, ci, f) hx
  · intro i ci f hx; exact c_fp12 h (i, ci, f) hx
  · exact n_hap h
  · intro i ci n hx; exact c_cn12 h (i, ci, n) hx
  · exact n_hag htl
  · exact c_n112 h
  · exact c_n212 h
  · intro t ci hx; exact c_at12 h (t, ci) hx
  · intro i n hx; exact c_kI12 h (i, n) hx
  · intro i n hx; exact c_kL12 h (i, n) hx
  · exact c_ob12 h ⟨by rw [hrm]; decide, by rw [hrm]; decide⟩
  · exact c_cp12 h
  · intro ins ct hx
    have g0 : q_Call C b_13_45 D tys n_KT 5 (.invokestatic 69) ct_602 := q_callS n_NWk h.2.2.2.2.2 h.1 (m_602 C.2.1) ⟨h.2.1.1, h.2.1.2, h.2.2.1, h.2.2.2.1, h.2.2.2.2.1⟩ ⟨n_CB (y := y_13_3) (bytes := b_13_3) 3 h.2.2.2.2.1 n_w923 n_w921 n_w12 ⟨by decide, by decide, by decide +kernel⟩ rfl rfl ⟨by rw [hrm]; decide, by rw [hrm]; decide⟩, h.2.2.2.2.1 _ n_w922⟩ rfl
    have g1 : q_Call C b_13_45 D tys n_KT 5 (.invokevirtual 82) ct_18 := q_callV n_NWk h.2.2.2.2.2 h.1 (m_18 C.2.1) ⟨h.2.1.1, h.2.1.2, h.2.2.1, h.2.2.2.1, h.2.2.2.2.1⟩ ⟨n_CB (y := y_13_2) (bytes := b_13_2) 1 h.2.2.2.2.1 n_w928 n_w925 n_w12 ⟨by decide, by decide, by decide +kernel⟩ rfl rfl ⟨by rw [hrm]; decide, by rw [hrm]; decide⟩, h.2.2.2.2.1 _ n_w927, h.2.2.2.2.1 _ n_s27⟩ (Cn := RX12) ⟨44, 12, _, _, _, _, TX12, 31, rfl, rfl, rfl⟩ rfl
    have all : ∀ x ∈ [((.invokestatic 69 : Instr), ct_602), ((.invokevirtual 82 : Instr), ct_18)], q_Call C b_13_45 D tys n_KT 5 x.1 x.2 := (n_mem2 (g0) (n_mem2 (g1) n_mem0))
    exact all (ins, ct) hx
def ct_604 : qCt := ((5, [], [(2, 40, [(1, 1)]), (1, 0, []), (0, 0, [])], [([(1, 1)], 40, 7, (0, 0, [])), ([(1, 1)], 40, 0, (2, 38, [(2, 1)])), ([(2, 1)], 38, 3, (2, 22, [(3, 1)])), ([(3, 1)], 22, 4, (0, 0, [])), ([(3, 1)], 22, 2, (0, 0, [])), ([(3, 1)], 22, 1, (0, 0, [])), ([(3, 1)], 22, 0, (2, 5, [(4, 1)]))]), (5, [], [(0, 0, [(0, (-1))])], [([(1, 1)], 40, 7, (0, 0, [(0, 1)])), ([(1, 1)], 40, 0, (2, 38, [(2, 1)])), ([(2, 1)], 38, 3, (2, 22, [(3, 1)])), ([(3, 1)], 22, 4, (0, 0, [])), ([(3, 1)], 22, 2, (0, 0, [])), ([(3, 1)], 22, 1, (0, 0, [])), ([(3, 1)], 22, 0, (2, 5, [(4, 1)]))], []), [], [(40, 7)], 0, 0)
def rm_604 : Room := { frames := 2, cells := 0, slots := 0, locals := 47 }
def e_604 : qEn := (k_1_17, (t_fg10, t_fp10, t_cn10), (t_na10, t_at10), (t_kI10, t_kL10, t_ob10, t_cp10), [(.invokevirtual 55, ct_14)], (q_k (-1), [], []))
def ts_604 : List (qTm × qCert × List qHx) := [((0, (5, [], [(0, (2, 40, [(1, 1)])), (1, (1, 0, [])), (3, (0, 0, []))], [], [([(1, 1)], 40, 7, (0, 0, [])), ([(1, 1)], 40, 0, (2, 38, [(2, 1)])), ([(2, 1)], 38, 3, (2, 22, [(3, 1)])), ([(3, 1)], 22, 4, (0, 0, [])), ([(3, 1)], 22, 2, (0, 0, [])), ([(3, 1)], 22, 1, (0, 0, [])), ([(3, 1)], 22, 0, (2, 5, [(4, 1)]))], 0, 0), []), (1, []), [(0, 0, [], [], []), (0, 1, [], [], [1]), (0, 1, [], [], [2]), (0, 0, [], [], []), (0, 0, [], [], []), (0, 0, [], [], []), (0, 0, [], [], []), (2, 0, [(1, [(0, 1)])], [], []), (0, 0, [], [], []), (0, 1, [(1, [])], [], []), (0, 0, [], [], []), (0, 0, [], [], []), (0, 0, [], [[(1, 1)]], [0]), (5, 0, [], [], []), (2, 0, [(1, [(1, 1)])], [], [])])]
set_option maxRecDepth 100000 in
theorem m_604 (l : Launch) : q_Met l vwCl n_TL n_NW n_KT y_1_17 (Cond.code y_1_17 b_1_17 6 (some .int) :: n_GW) rm_604 ct_604 := by
  refine q_method (E := e_604) ts_604 (by decide) rfl rfl rfl ?_ (by decide +kernel)
  intro C D tys htl hl hrm hm hml ho hts hnm hE
  have h : n_ctx C b_1_17 6 "BalanceCoder" D tys := ⟨htl, hm, hml, ho, fun w hw => hts w (List.mem_cons_of_mem _ hw), hE⟩
  refine ⟨⟨?_, ?_⟩, ⟨?_, ?_, ?_, ?_, ?_⟩, ⟨?_, ?_, ?_⟩, ⟨?_, ?_, ?_, ?_⟩, ?_⟩
  · intro i ins len hx; exact kd_1_17 (i, ins, len) hx
  · exact n_at hE.1
  · intro i ci f hx; exact c_fg10 h (i, ci, f) hx
  · intro i ci f hx; exact c_fp10 h (i, ci, f) hx
  · exact n_hap h
  · intro i ci n hx; exact c_cn10 h (i, ci, n) hx
  · exact n_hag htl
  · exact c_n110 h
  · exact c_n210 h
  · intro t ci hx; exact c_at10 h (t, ci) hx
  · intro i n hx; exact c_kI10 h (i, n) hx
  · intro i n hx; exact c_kL10 h (i, n) hx
  · exact c_ob10 h ⟨by rw [hrm]; decide, by rw [hrm]; decide⟩
  · exact c_cp10 h
  · intro ins ct hx
    have g0 : q_Call C b_1_17 D tys n_KT 6 (.invokevirtual 55) ct_14 := q_callV n_NWk h.2.2.2.2.2 h.1 (m_14 C.2.1) ⟨h.2.1.1, h.2.1.2, h.2.2.1, h.2.2.2.1, h.2.2.2.2.1⟩ ⟨n_CB (y := y_1_27) (bytes := b_1_27) 1 h.2.2.2.2.1 n_w309 n_w306 n_w1 ⟨by decide, by decide, by decide +kernel⟩ rfl rfl ⟨by rw [hrm]; decide, by rw [hrm]; decide⟩, h.2.2.2.2.1 _ n_w308, h.2.2.2.2.1 _ n_s1⟩ (Cn := RX10) ⟨40, 10, _, _, _, _, TX10, 8, rfl, rfl, rfl⟩ rfl
    have all : ∀ x ∈ [((.invokevirtual 55 : Instr), ct_14)], q_Call C b_1_17 D tys n_KT 6 x.1 x.2 := (n_mem2 (g0) n_mem0)
    exact all (ins, ct) hx
def ct_605 : qCt := ((1, [], [(5, 0, []), (5, 0, [(0, (-400))]), (5, 0, [(0, 8)])], []), (1, [], [(0, 0, [(0, 1)])], [], []), [], [], 0, 0)
def rm_605 : Room := { frames := 1, cells := 0, slots := 0, locals := 26 }
def e_605 : qEn := (k_13_3, (t_fg12, t_fp12, t_cn12), (t_na12, t_at12), (t_kI12, t_kL12, t_ob12, t_cp12), [], (q_k (-1), [], []))
def ts_605 : List (qTm × qCert × List qHx) := [((0, (1, [], [(0, (5, 0, [])), (2, (5, 0, [(0, (-400))])), (4, (5, 0, [(0, 8)]))], [], [], 0, 0), []), (1, []), [(0, 0, [], [], []), (0, 0, [], [], []), (0, 1, [(1, [])], [], []), (0, 0, [], [], []), (2, 0, [(1, [(0, 1)])], [], []), (0, 0, [], [], []), (0, 0, [], [], []), (0, 3, [(1, [])], [], []), (0, 0, [], [], []), (2, 0, [(1, [(1, 1)])], [], []), (0, 0, [], [], []), (0, 0, [], [], []), (5, 0, [(1, []), (1, [])], [], [])])]
set_option maxRecDepth 100000 in
theorem m_605 (l : Launch) : q_Met l vwCl n_TL n_NW n_KT y_13_3 (Cond.code y_13_3 b_13_3 6 (some .boolean) :: n_GW) rm_605 ct_605 := by
  refine q_method (E := e_605) ts_605 (by decide) rfl rfl rfl ?_ (by decide +kernel)
  intro C D tys htl hl hrm hm hml ho hts hnm hE
  have h : n_ctx C b_13_3 6 "BalanceCoderModel" D tys := ⟨htl, hm, hml, ho, fun w hw => hts w (List.mem_cons_of_mem _ hw), hE⟩
  refine ⟨⟨?_, ?_⟩, ⟨?_, ?_, ?_, ?_, ?_⟩, ⟨?_, ?_, ?_⟩, ⟨?_, ?_, ?_, ?_⟩, ?_⟩
  · intro i ins len hx; exact kd_13_3 (i, ins, len) hx
  · exact n_at hE.1
  · intro i ci f hx; exact c_fg12 h (i, ci, f) hx
  · intro i ci f hx; exact c_fp12 h (i, ci, f) hx
  · exact n_hap h
  · intro i ci n hx; exact c_cn12 h (i, ci, n) hx
  · exact n_hag htl
  · exact c_n112 h
  · exact c_n212 h
  · intro t ci hx; exact c_at12 h (t, ci) hx
  · intro i n hx; exact c_kI12 h (i, n) hx
  · intro i n hx; exact c_kL12 h (i, n) hx
  · exact c_ob12 h ⟨by rw [hrm]; decide, by rw [hrm]; decide⟩
  · exact c_cp12 h
  · intro ins ct hx; cases hx
def ct_606 : qCt := ((4, [], [(2, 44, [(1, 1)]), (1, 0, []), (0, 0, [])], [([(1, 1)], 44, 0, (2, 42, [(2, 1)])), ([(2, 1)], 42, 8, (2, 5, [(3, 1)])), ([(2, 1)], 42, 7, (0, 0, [])), ([(2, 1)], 42, 9, (0, 0, [])), ([(2, 1)], 42, 10, (0, 0, [])), ([(1, 1)], 44, 3, (0, 0, []))]), (4, [], [(0, 0, [(0, (-1))])], [([(1, 1)], 44, 3, (0, 0, [(0, 1)])), ([(1, 1)], 44, 0, (2, 42, [(2, 1)])), ([(2, 1)], 42, 8, (2, 5, [(3, 1)])), ([(2, 1)], 42, 7, (0, 0, [])), ([(2, 1)], 42, 9, (0, 0, [])), ([(2, 1)], 42, 10, (0, 0, []))], []), [], [(44, 3)], 0, 0)
def rm_606 : Room := { frames := 2, cells := 0, slots := 0, locals := 51 }
def e_606 : qEn := (k_13_45, (t_fg12, t_fp12, t_cn12), (t_na12, t_at12), (t_kI12, t_kL12, t_ob12, t_cp12), [(.invokestatic 69, ct_605), (.invokevirtual 82, ct_18)], (q_k (-1), [], []))
def ts_606 : List (qTm × qCert × List qHx) := [((0, (4, [], [(0, (2, 44, [(1, 1)])), (1, (1, 0, [])), (3, (0, 0, []))], [], [([(1, 1)], 44, 0, (2, 42, [(2, 1)])), ([(2, 1)], 42, 8, (2, 5, [(3, 1)])), ([(2, 1)], 42, 7, (0, 0, [])), ([(2, 1)], 42, 9, (0, 0, [])), ([(2, 1)], 42, 10, (0, 0, [])), ([(1, 1)], 44, 3, (0, 0, []))], 0, 0), []), (1, []), [(0, 0, [], [], []), (0, 0, [], [], []), (0, 0, [], [], []), (0, 0, [], [], []), (0, 0, [], [], [0]), (0, 1, [(1, [])], [], []), (2, 0, [(1, [(1, 1)])], [], []), (0, 0, [], [], []), (0, 1, [(1, [])], [], []), (0, 0, [], [], []), (0, 0, [], [], []), (0, 0, [], [[(1, 1)]], [1]), (5, 0, [], [], []), (2, 0, [(1, [(1, 1)])], [], [])])]
set_option maxRecDepth 100000 in
theorem m_606 (l : Launch) : q_Met l vwCl n_TL n_NW n_KT y_13_45 (Cond.code y_13_45 b_13_45 5 (some .int) :: n_GW) rm_606 ct_606 := by
  refine q_method (E := e_606) ts_606 (by decide) rfl rfl rfl ?_ (by decide +kernel)
  intro C D tys htl hl hrm hm hml ho hts hnm hE
  have h : n_ctx C b_13_45 5 "BalanceCoderModel" D tys := ⟨htl, hm, hml, ho, fun w hw => hts w (List.mem_cons_of_mem _ hw), hE⟩
  refine ⟨⟨?_, ?_⟩, ⟨?_, ?_, ?_, ?_, ?_⟩, ⟨?_, ?_, ?_⟩, ⟨?_, ?_, ?_, ?_⟩, ?_⟩
  · intro i ins len hx; exact kd_13_45 (i, ins, len) hx
  · exact n_at hE.1
  · intro i ci f hx; exact c_fg12 h (i, ci, f) hx
  · intro i ci f hx; exact c_fp12 h (i, ci, f) hx
  · exact n_hap h
  · intro i ci n hx; exact c_cn12 h (i, ci, n) hx
  · exact n_hag htl
  · exact c_n112 h
  · exact c_n212 h
  · intro t ci hx; exact c_at12 h (t, ci) hx
  · intro i n hx; exact c_kI12 h (i, n) hx
  · intro i n hx; exact c_kL12 h (i, n) hx
  · exact c_ob12 h ⟨by rw [hrm]; decide, by rw [hrm]; decide⟩
  · exact c_cp12 h
  · intro ins ct hx
    have g0 : q_Call C b_13_45 D tys n_KT 5 (.invokestatic 69) ct_605 := q_callS n_NWk h.2.2.2.2.2 h.1 (m_605 C.2.1) ⟨h.2.1.1, h.2.1.2, h.2.2.1, h.2.2.2.1, h.2.2.2.2.1⟩ ⟨n_CB (y := y_13_3) (bytes := b_13_3) 3 h.2.2.2.2.1 n_w923 n_w921 n_w12 ⟨by decide, by decide, by decide +kernel⟩ rfl rfl ⟨by rw [hrm]; decide, by rw [hrm]; decide⟩, h.2.2.2.2.1 _ n_w922⟩ rfl
    have g1 : q_Call C b_13_45 D tys n_KT 5 (.invokevirtual 82) ct_18 := q_callV n_NWk h.2.2.2.2.2 h.1 (m_18 C.2.1) ⟨h.2.1.1, h.2.1.2, h.2.2.1, h.2.2.2.1, h.2.2.2.2.1⟩ ⟨n_CB (y := y_13_2) (bytes := b_13_2) 1 h.2.2.2.2.1 n_w928 n_w925 n_w12 ⟨by decide, by decide, by decide +kernel⟩ rfl rfl ⟨by rw [hrm]; decide, by rw [hrm]; decide⟩, h.2.2.2.2.1 _ n_w927, h.2.2.2.2.1 _ n_s27⟩ (Cn := RX12) ⟨44, 12, _, _, _, _, TX12, 31, rfl, rfl, rfl⟩ rfl
    have all : ∀ x ∈ [((.invokestatic 69 : Instr), ct_605), ((.invokevirtual 82 : Instr), ct_18)], q_Call C b_13_45 D tys n_KT 5 x.1 x.2 := (n_mem2 (g0) (n_mem2 (g1) n_mem0))
    exact all (ins, ct) hx
def ct_607 : qCt := ((6, [[(0, (-9)), (2, 1)], [(0, 2147483647), (2, (-1))]], [(2, 40, [(1, 1)]), (1, 0, []), (0, 0, [(2, 1)])], [([(1, 1)], 40, 7, (0, 0, [])), ([(1, 1)], 40, 0, (2, 38, [(3, 1)])), ([(3, 1)], 38, 3, (2, 22, [(4, 1)])), ([(4, 1)], 22, 4, (0, 0, [])), ([(4, 1)], 22, 2, (0, 0, [])), ([(4, 1)], 22, 1, (0, 0, [])), ([(4, 1)], 22, 0, (2, 5, [(5, 1)]))]), (6, [], [(0, 0, [(0, (-1))])], [([(1, 1)], 40, 7, (0, 0, [(0, 1)])), ([(1, 1)], 40, 0, (2, 38, [(3, 1)])), ([(3, 1)], 38, 3, (2, 22, [(4, 1)])), ([(4, 1)], 22, 4, (0, 0, [])), ([(4, 1)], 22, 2, (0, 0, [])), ([(4, 1)], 22, 1, (0, 0, [])), ([(4, 1)], 22, 0, (2, 5, [(5, 1)]))], []), [], [(40, 7)], 0, 0)
def rm_607 : Room := { frames := 2, cells := 0, slots := 0, locals := 47 }
def e_607 : qEn := (k_1_17, (t_fg10, t_fp10, t_cn10), (t_na10, t_at10), (t_kI10, t_kL10, t_ob10, t_cp10), [(.invokevirtual 55, ct_14)], (q_k (-1), [], []))
def ts_607 : List (qTm × qCert × List qHx) := [((0, (6, [[(0, (-9)), (2, 1)], [(0, 2147483647), (2, (-1))]], [(0, (2, 40, [(1, 1)])), (1, (1, 0, [])), (3, (0, 0, [(2, 1)]))], [], [([(1, 1)], 40, 7, (0, 0, [])), ([(1, 1)], 40, 0, (2, 38, [(3, 1)])), ([(3, 1)], 38, 3, (2, 22, [(4, 1)])), ([(4, 1)], 22, 4, (0, 0, [])), ([(4, 1)], 22, 2, (0, 0, [])), ([(4, 1)], 22, 1, (0, 0, [])), ([(4, 1)], 22, 0, (2, 5, [(5, 1)]))], 0, 0), []), (1, []), [(0, 0, [], [], []), (0, 1, [], [], [1]), (0, 1, [], [], [2]), (0, 0, [], [], []), (0, 0, [], [], []), (0, 0, [], [], []), (0, 0, [], [], []), (2, 0, [(1, [(0, 1), (2, 1)])], [], []), (0, 0, [], [], []), (0, 1, [(1, [(0, 1)])], [], []), (2, 0, [(1, [(0, 1), (4, 1)])], [], []), (0, 0, [], [], []), (0, 0, [], [], []), (0, 0, [], [], []), (0, 0, [], [], []), (0, 0, [], [], []), (0, 0, [], [[(1, 1)]], [0]), (5, 0, [], [], []), (2, 0, [(1, [(0, 1), (4, 1)])], [], [])])]
set_option maxRecDepth 100000 in
theorem m_607 (l : Launch) : q_Met l vwCl n_TL n_NW n_KT y_1_17 (Cond.code y_1_17 b_1_17 6 (some .int) :: n_GW) rm_607 ct_607 := by
  refine q_method (E := e_607) ts_607 (by decide) rfl rfl rfl ?_ (by decide +kernel)
  intro C D tys htl hl hrm hm hml ho hts hnm hE
  have h : n_ctx C b_1_17 6 "BalanceCoder" D tys := ⟨htl, hm, hml, ho, fun w hw => hts w (List.mem_cons_of_mem _ hw), hE⟩
  refine ⟨⟨?_, ?_⟩, ⟨?_, ?_, ?_, ?_, ?_⟩, ⟨?_, ?_, ?_⟩, ⟨?_, ?_, ?_, ?_⟩, ?_⟩
  · intro i ins len hx; exact kd_1_17 (i, ins, len) hx
  · exact n_at hE.1
  · intro i ci f hx; exact c_fg10 h (i, ci, f) hx
  · intro i ci f hx; exact c_fp10 h (i, ci, f) hx
  · exact n_hap h
  · intro i ci n hx; exact c_cn10 h (i, ci, n) hx
  · exact n_hag htl
  · exact c_n110 h
  · exact c_n210 h
  · intro t ci hx; exact c_at10 h (t, ci) hx
  · intro i n hx; exact c_kI10 h (i, n) hx
  · intro i n hx; exact c_kL10 h (i, n) hx
  · exact c_ob10 h ⟨by rw [hrm]; decide, by rw [hrm]; decide⟩
  · exact c_cp10 h
  · intro ins ct hx
    have g0 : q_Call C b_1_17 D tys n_KT 6 (.invokevirtual 55) ct_14 := q_callV n_NWk h.2.2.2.2.2 h.1 (m_14 C.2.1) ⟨h.2.1.1, h.2.1.2, h.2.2.1, h.2.2.2.1, h.2.2.2.2.1⟩ ⟨n_CB (y := y_1_27) (bytes := b_1_27) 1 h.2.2.2.2.1 n_w309 n_w306 n_w1 ⟨by decide, by decide, by decide +kernel⟩ rfl rfl ⟨by rw [hrm]; decide, by rw [hrm]; decide⟩, h.2.2.2.2.1 _ n_w308, h.2.2.2.2.1 _ n_s1⟩ (Cn := RX10) ⟨40, 10, _, _, _, _, TX10, 8, rfl, rfl, rfl⟩ rfl
    have all : ∀ x ∈ [((.invokevirtual 55 : Instr), ct_14)], q_Call C b_1_17 D tys n_KT 6 x.1 x.2 := (n_mem2 (g0) n_mem0)
    exact all (ins, ct) hx
def ct_608 : qCt := ((2, [[(0, (-9)), (1, 1)], [(0, 2147483647), (1, (-1))]], [(5, 0, [(1, 1)]), (5, 0, [(0, (-400))]), (5, 0, [(0, 8)])], []), (2, [], [(0, 0, [])], [], []), [], [], 0, 0)
def rm_608 : Room := { frames := 1, cells := 0, slots := 0, locals := 26 }
def e_608 : qEn := (k_13_3, (t_fg12, t_fp12, t_cn12), (t_na12, t_at12), (t_kI12, t_kL12, t_ob12, t_cp12), [], (q_k (-1), [], []))
def ts_608 : List (qTm × qCert × List qHx) := [((0, (2, [[(0, (-9)), (1, 1)], [(0, 2147483647), (1, (-1))]], [(0, (5, 0, [(1, 1)])), (2, (5, 0, [(0, (-400))])), (4, (5, 0, [(0, 8)]))], [], [], 0, 0), []), (1, []), [(0, 0, [], [], []), (0, 0, [], [], []), (0, 1, [(1, [(0, 1)])], [], []), (0, 0, [], [], []), (2, 0, [(1, [(2, 1)])], [], []), (0, 0, [], [], []), (0, 0, [], [], []), (0, 1, [(1, [(0, 1)])], [], []), (0, 0, [], [], []), (0, 0, [], [], []), (5, 0, [(1, []), (1, [])], [], []), (2, 0, [(1, [(3, 1)])], [], [])])]
set_option maxRecDepth 100000 in
theorem m_608 (l : Launch) : q_Met l vwCl n_TL n_NW n_KT y_13_3 (Cond.code y_13_3 b_13_3 6 (some .boolean) :: n_GW) rm_608 ct_608 := by
  refine q_method (E := e_608) ts_608 (by decide) rfl rfl rfl ?_ (by decide +kernel)
  intro C D tys htl hl hrm hm hml ho hts hnm hE
  have h : n_ctx C b_13_3 6 "BalanceCoderModel" D tys := ⟨htl, hm, hml, ho, fun w hw => hts w (List.mem_cons_of_mem _ hw), hE⟩
  refine ⟨⟨?_, ?_⟩, ⟨?_, ?_, ?_, ?_, ?_⟩, ⟨?_, ?_, ?_⟩, ⟨?_, ?_, ?_, ?_⟩, ?_⟩
  · intro i ins len hx; exact kd_13_3 (i, ins, len) hx
  · exact n_at hE.1
  · intro i ci f hx; exact c_fg12 h (i, ci, f) hx
  · intro i ci f hx; exact c_fp12 h (i, ci, f) hx
  · exact n_hap h
  · intro i ci n hx; exact c_cn12 h (i, ci, n) hx
  · exact n_hag htl
  · exact c_n112 h
  · exact c_n212 h
  · intro t ci hx; exact c_at12 h (t, ci) hx
  · intro i n hx; exact c_kI12 h (i, n) hx
  · intro i n hx; exact c_kL12 h (i, n) hx
  · exact c_ob12 h ⟨by rw [hrm]; decide, by rw [hrm]; decide⟩
  · exact c_cp12 h
  · intro ins ct hx; cases hx
def ct_609 : qCt := ((5, [[(0, (-9)), (2, 1)], [(0, 2147483647), (2, (-1))]], [(2, 44, [(1, 1)]), (1, 0, []), (0, 0, [(2, 1)])], [([(1, 1)], 44, 0, (2, 42, [(3, 1)])), ([(3, 1)], 42, 8, (2, 5, [(4, 1)])), ([(3, 1)], 42, 7, (0, 0, [])), ([(3, 1)], 42, 9, (0, 0, [])), ([(3, 1)], 42, 10, (0, 0, [])), ([(1, 1)], 44, 3, (0, 0, []))]), (5, [], [(0, 0, [(0, (-1))])], [([(1, 1)], 44, 3, (0, 0, [(0, 1)])), ([(1, 1)], 44, 0, (2, 42, [(3, 1)])), ([(3, 1)], 42, 8, (2, 5, [(4, 1)])), ([(3, 1)], 42, 7, (0, 0, [])), ([(3, 1)], 42, 9, (0, 0, [])), ([(3, 1)], 42, 10, (0, 0, []))], []), [], [(44, 3)], 0, 0)
def rm_609 : Room := { frames := 2, cells := 0, slots := 0, locals := 51 }
def e_609 : qEn := (k_13_45, (t_fg12, t_fp12, t_cn12), (t_na12, t_at12), (t_kI12, t_kL12, t_ob12, t_cp12), [(.invokestatic 69, ct_608), (.invokevirtual 82, ct_18)], (q_k (-1), [], []))
def ts_609 : List (qTm × qCert × List qHx) := [((0, (5, [[(0, (-9)), (2, 1)], [(0, 2147483647), (2, (-1))]], [(0, (2, 44, [(1, 1)])), (1, (1, 0, [])), (3, (0, 0, [(2, 1)]))], [], [([(1, 1)], 44, 0, (2, 42, [(3, 1)])), ([(3, 1)], 42, 8, (2, 5, [(4, 1)])), ([(3, 1)], 42, 7, (0, 0, [])), ([(3, 1)], 42, 9, (0, 0, [])), ([(3, 1)], 42, 10, (0, 0, [])), ([(1, 1)], 44, 3, (0, 0, []))], 0, 0), []), (1, []), [(0, 0, [], [], []), (0, 0, [], [], []), (0, 0, [], [], []), (0, 0, [], [], []), (0, 0, [(1, [(0, 1)]), (1, [(1, 1)])], [[(2, 1)]], [0]), (0, 1, [(1, [])], [], []), (0, 0, [], [], []), (0, 0, [], [], []), (0, 0, [], [[(1, 1)]], [1]), (5, 0, [], [], []), (2, 0, [(1, [(2, 1)])], [], [])])]
set_option maxRecDepth 100000 in
theorem m_609 (l : Launch) : q_Met l vwCl n_TL n_NW n_KT y_13_45 (Cond.code y_13_45 b_13_45 5 (some .int) :: n_GW) rm_609 ct_609 := by
  refine q_method (E := e_609) ts_609 (by decide) rfl rfl rfl ?_ (by decide +kernel)
  intro C D tys htl hl hrm hm hml ho hts hnm hE
  have h : n_ctx C b_13_45 5 "BalanceCoderModel" D tys := ⟨htl, hm, hml, ho, fun w hw => hts w (List.mem_cons_of_mem _ hw), hE⟩
  refine ⟨⟨?_, ?_⟩, ⟨?_, ?_, ?_, ?_, ?_⟩, ⟨?_, ?_, ?_⟩, ⟨?_, ?_, ?_, ?_⟩, ?_⟩
  · intro i ins len hx; exact kd_13_45 (i, ins, len) hx
  · exact n_at hE.1
  · intro i ci f hx; exact c_fg12 h (i, ci, f) hx
  · intro i ci f hx; exact c_fp12 h (i, ci, f) hx
  · exact n_hap h
  · intro i ci n hx; exact c_cn12 h (i, ci, n) hx
  · exact n_hag htl
  · exact c_n112 h
  · exact c_n212 h
  · intro t ci hx; exact c_at12 h (t, ci) hx
  · intro i n hx; exact c_kI12 h (i, n) hx
  · intro i n hx; exact c_kL12 h (i, n) hx
  · exact c_ob12 h ⟨by rw [hrm]; decide, by rw [hrm]; decide⟩
  · exact c_cp12 h
  · intro ins ct hx
    have g0 : q_Call C b_13_45 D tys n_KT 5 (.invokestatic 69) ct_608 := q_callS n_NWk h.2.2.2.2.2 h.1 (m_608 C.2.1) ⟨h.2.1.1, h.2.1.2, h.2.2.1, h.2.2.2.1, h.2.2.2.2.1⟩ ⟨n_CB (y := y_13_3) (bytes := b_13_3) 3 h.2.2.2.2.1 n_w923 n_w921 n_w12 ⟨by decide, by decide, by decide +kernel⟩ rfl rfl ⟨by rw [hrm]; decide, by rw [hrm]; decide⟩, h.2.2.2.2.1 _ n_w922⟩ rfl
    have g1 : q_Call C b_13_45 D tys n_KT 5 (.invokevirtual 82) ct_18 := q_callV n_NWk h.2.2.2.2.2 h.1 (m_18 C.2.1) ⟨h.2.1.1, h.2.1.2, h.2.2.1, h.2.2.2.1, h.2.2.2.2.1⟩ ⟨n_CB (y := y_13_2) (bytes := b_13_2) 1 h.2.2.2.2.1 n_w928 n_w925 n_w12 ⟨by decide, by decide, by decide +kernel⟩ rfl rfl ⟨by rw [hrm]; decide, by rw [hrm]; decide⟩, h.2.2.2.2.1 _ n_w927, h.2.2.2.2.1 _ n_s27⟩ (Cn := RX12) ⟨44, 12, _, _, _, _, TX12, 31, rfl, rfl, rfl⟩ rfl
    have all : ∀ x ∈ [((.invokestatic 69 : Instr), ct_608), ((.invokevirtual 82 : Instr), ct_18)], q_Call C b_13_45 D tys n_KT 5 x.1 x.2 := (n_mem2 (g0) (n_mem2 (g1) n_mem0))
    exact all (ins, ct) hx
def ct_610 : qCt := ((4, [[(2, 1)], [(0, 255), (2, (-1))]], [(2, 22, [(1, 1)]), (0, 0, [(2, 1)]), (0, 0, [(0, 1)])], [([(1, 1)], 22, 1, (0, 0, [])), ([(1, 1)], 22, 0, (2, 5, [(3, 1)]))]), (4, [], [], [([(1, 1)], 22, 1, (0, 0, [(0, 1)])), ([(1, 1)], 22, 0, (2, 5, [(3, 1)]))], []), [], [(5, 0), (22, 1)], 0, 0)
def rm_610 : Room := { frames := 1, cells := 0, slots := 0, locals := 26 }
def e_610 : qEn := (k_3_6, (t_fg1, t_fp1, t_cn1), (t_na1, t_at1), (t_kI1, t_kL1, t_ob1, t_cp1), [], (q_k (-1), [], []))
def ts_610 : List (qTm × qCert × List qHx) := [((0, (4, [[(2, 1)], [(0, 255), (2, (-1))]], [(0, (2, 22, [(1, 1)])), (1, (0, 0, [(2, 1)])), (2, (0, 0, [(0, 1)]))], [], [([(1, 1)], 22, 1, (0, 0, [])), ([(1, 1)], 22, 0, (2, 5, [(3, 1)]))], 0, 0), []), (1, []), [(0, 0, [], [], []), (0, 0, [], [], []), (0, 1, [(1, []), (1, [])], [], []), (0, 0, [], [], []), (0, 0, [], [], []), (0, 0, [], [], []), (2, 0, [(1, [(2, 1)])], [], []), (0, 0, [], [], []), (0, 1, [], [], [0]), (0, 0, [], [], []), (0, 0, [], [], []), (2, 0, [(1, [(3, 1)])], [], []), (0, 0, [], [], []), (0, 1, [], [], [1]), (0, 0, [], [], []), (0, 1, [], [], [0]), (0, 0, [], [], []), (0, 0, [], [], []), (0, 0, [], [], []), (0, 1, [(1, []), (1, [])], [], []), (0, 0, [], [], []), (0, 0, [], [], []), (0, 1, [], [], []), (0, 0, [(1, [(6, 1)]), (1, [(7, 1)]), (1, []), (1, [])], [], []), (0, 0, [], [], []), (0, 0, [], [], []), (0, 1, [], [], [0]), (0, 0, [], [], []), (0, 1, [(1, []), (1, [])], [], []), (0, 2, [(1, []), (1, [])], [], []), (0, 1, [(1, []), (1, [])], [], []), (0, 0, [], [], []), (0, 0, [], [], []), (0, 0, [], [], []), (5, 0, [], [], []), (2, 0, [(1, [(8, 1)])], [], [])])]
set_option maxRecDepth 100000 in
theorem m_610 (l : Launch) : q_Met l vwCl n_TL n_NW n_KT y_3_6 (Cond.code y_3_6 b_3_6 4 none :: n_GW) rm_610 ct_610 := by
  refine q_method (E := e_610) ts_610 (by decide) rfl rfl rfl ?_ (by decide +kernel)
  intro C D tys htl hl hrm hm hml ho hts hnm hE
  have h : n_ctx C b_3_6 4 "BalanceCoder$Block" D tys := ⟨htl, hm, hml, ho, fun w hw => hts w (List.mem_cons_of_mem _ hw), hE⟩
  refine ⟨⟨?_, ?_⟩, ⟨?_, ?_, ?_, ?_, ?_⟩, ⟨?_, ?_, ?_⟩, ⟨?_, ?_, ?_, ?_⟩, ?_⟩
  · intro i ins len hx; exact kd_3_6 (i, ins, len) hx
  · exact n_at hE.1
  · intro i ci f hx; exact c_fg1 h (i, ci, f) hx
  · intro i ci f hx; exact c_fp1 h (i, ci, f) hx
  · exact n_hap h
  · intro i ci n hx; exact c_cn1 h (i, ci, n) hx
  · exact n_hag htl
  · exact c_n11 h
  · exact c_n21 h
  · intro t ci hx; exact c_at1 h (t, ci) hx
  · intro i n hx; exact c_kI1 h (i, n) hx
  · intro i n hx; exact c_kL1 h (i, n) hx
  · exact c_ob1 h ⟨by rw [hrm]; decide, by rw [hrm]; decide⟩
  · exact c_cp1 h ⟨by rw [hrm]; decide, by rw [hrm]; decide +kernel⟩
  · intro ins ct hx; cases hx
def ct_611 : qCt := ((2, [], [(2, 22, [(1, 1)])], [([(1, 1)], 22, 4, (0, 0, [])), ([(1, 1)], 22, 2, (0, 0, []))]), (2, [], [], [([(1, 1)], 22, 4, (0, 0, [])), ([(1, 1)], 22, 2, (0, 0, []))], []), [], [(22, 2), (22, 4)], 0, 0)
def rm_611 : Room := { frames := 1, cells := 0, slots := 0, locals := 26 }
def e_611 : qEn := (k_3_4, (t_fg1, t_fp1, t_cn1), (t_na1, t_at1), (t_kI1, t_kL1, t_ob1, t_cp1), [], (q_k (-1), [], []))
def ts_611 : List (qTm × qCert × List qHx) := [((0, (2, [], [(0, (2, 22, [(1, 1)]))], [], [([(1, 1)], 22, 4, (0, 0, [])), ([(1, 1)], 22, 2, (0, 0, []))], 0, 0), []), (1, []), [(0, 0, [], [], []), (0, 0, [], [], []), (0, 2, [(1, []), (1, [])], [], []), (0, 0, [], [], []), (0, 0, [], [], []), (0, 2, [(1, []), (1, [])], [], []), (5, 0, [], [], [])])]
set_option maxRecDepth 100000 in
theorem m_611 (l : Launch) : q_Met l vwCl n_TL n_NW n_KT y_3_4 (Cond.code y_3_4 b_3_4 1 none :: n_GW) rm_611 ct_611 := by
  refine q_method (E := e_611) ts_611 (by decide) rfl rfl rfl ?_ (by decide +kernel)
  intro C D tys htl hl hrm hm hml ho hts hnm hE
  have h : n_ctx C b_3_4 1 "BalanceCoder$Block" D tys := ⟨htl, hm, hml, ho, fun w hw => hts w (List.mem_cons_of_mem _ hw), hE⟩
  refine ⟨⟨?_, ?_⟩, ⟨?_, ?_, ?_, ?_, ?_⟩, ⟨?_, ?_, ?_⟩, ⟨?_, ?_, ?_, ?_⟩, ?_⟩
  · intro i ins len hx; exact kd_3_4 (i, ins, len) hx
  · exact n_at hE.1
  · intro i ci f hx; exact c_fg1 h (i, ci, f) hx
  · intro i ci f hx; exact c_fp1 h (i, ci, f) hx
  · exact n_hap h
  · intro i ci n hx; exact c_cn1 h (i, ci, n) hx
  · exact n_hag htl
  · exact c_n11 h
  · exact c_n21 h
  · intro t ci hx; exact c_at1 h (t, ci) hx
  · intro i n hx; exact c_kI1 h (i, n) hx
  · intro i n hx; exact c_kL1 h (i, n) hx
  · exact c_ob1 h ⟨by rw [hrm]; decide, by rw [hrm]; decide⟩
  · exact c_cp1 h ⟨by rw [hrm]; decide, by rw [hrm]; decide +kernel⟩
  · intro ins ct hx; cases hx
def ct_612 : qCt := ((5, [], [(2, 40, [(1, 1)]), (1, 0, []), (0, 0, [(0, 1)])], [([(1, 1)], 40, 7, (0, 0, [])), ([(1, 1)], 40, 0, (2, 38, [(2, 1)])), ([(2, 1)], 38, 3, (2, 22, [(3, 1)])), ([(3, 1)], 22, 4, (0, 0, [])), ([(3, 1)], 22, 2, (0, 0, [])), ([(3, 1)], 22, 1, (0, 0, [])), ([(3, 1)], 22, 0, (2, 5, [(4, 1)]))]), (5, [], [(0, 0, [(0, 1)])], [([(3, 1)], 22, 4, (0, 0, [])), ([(3, 1)], 22, 2, (0, 0, [])), ([(3, 1)], 22, 1, (0, 0, [(0, 1)])), ([(3, 1)], 22, 0, (2, 5, [(4, 1)])), ([(1, 1)], 40, 7, (0, 0, [])), ([(1, 1)], 40, 0, (2, 38, [(2, 1)])), ([(2, 1)], 38, 3, (2, 22, [(3, 1)]))], []), [], [(5, 0), (22, 1), (22, 2), (22, 4)], 0, 0)
def rm_612 : Room := { frames := 2, cells := 0, slots := 0, locals := 49 }
def e_612 : qEn := (k_1_17, (t_fg10, t_fp10, t_cn10), (t_na10, t_at10), (t_kI10, t_kL10, t_ob10, t_cp10), [(.invokestatic 64, ct_26), (.invokevirtual 189, ct_610), (.invokevirtual 186, ct_611)], (q_k (-1), [], []))
def ts_612 : List (qTm × qCert × List qHx) := [((0, (5, [], [(0, (2, 40, [(1, 1)])), (1, (1, 0, [])), (3, (0, 0, [(0, 1)]))], [], [([(1, 1)], 40, 7, (0, 0, [])), ([(1, 1)], 40, 0, (2, 38, [(2, 1)])), ([(2, 1)], 38, 3, (2, 22, [(3, 1)])), ([(3, 1)], 22, 4, (0, 0, [])), ([(3, 1)], 22, 2, (0, 0, [])), ([(3, 1)], 22, 1, (0, 0, [])), ([(3, 1)], 22, 0, (2, 5, [(4, 1)]))], 0, 0), []), (1, []), [(0, 0, [], [], []), (0, 1, [], [], [1]), (0, 1, [], [], [2]), (0, 0, [], [], []), (0, 0, [], [], []), (0, 0, [], [], []), (0, 0, [], [], []), (2, 0, [(1, [(0, 1)])], [], []), (0, 0, [], [], []), (0, 1, [(1, [])], [], []), (2, 0, [(1, [(2, 1)])], [], []), (0, 0, [], [], []), (0, 0, [], [], []), (0, 0, [], [], []), (2, 0, [(1, [(2, 1)])], [], []), (0, 0, [], [], []), (0, 0, [], [], []), (0, 1, [], [], [5]), (0, 1, [(1, [])], [], []), (0, 0, [], [], []), (0, 0, [], [], []), (0, 0, [], [], []), (0, 0, [], [], []), (0, 1, [], [], [5]), (0, 1, [(1, []), (1, [])], [], []), (0, 0, [], [], []), (0, 0, [], [], []), (0, 0, [], [], []), (0, 0, [], [], []), (0, 0, [], [], []), (0, 1, [(1, []), (1, [])], [], []), (0, 0, [], [], []), (0, 0, [], [], []), (0, 0, [], [], []), (2, 0, [(1, [(6, 1)])], [], []), (0, 0, [], [], []), (0, 0, [], [], []), (0, 0, [], [], []), (0, 0, [], [], [0]), (0, 0, [], [], []), (0, 0, [(1, [(7, 1)]), (1, [(8, 1)])], [[(3, 1)], [(5, 1)], [(4, 1)]], [1]), (0, 1, [(1, []), (1, [])], [], []), (0, 0, [], [], []), (0, 0, [], [], []), (0, 0, [], [], []), (0, 0, [], [], []), (0, 0, [], [[(3, 1)]], [2]), (0, 0, [], [], []), (0, 1, [], [], [2]), (5, 0, [], [], []), (2, 0, [(1, [(9, 1)])], [], []), (2, 0, [(1, [(5, 1)])], [], []), (2, 0, [(1, [(4, 1)])], [], []), (2, 0, [(1, [(3, 1)])], [], [])])]
set_option maxRecDepth 100000 in
theorem m_612 (l : Launch) : q_Met l vwCl n_TL n_NW n_KT y_1_17 (Cond.code y_1_17 b_1_17 6 (some .int) :: n_GW) rm_612 ct_612 := by
  refine q_method (E := e_612) ts_612 (by decide) rfl rfl rfl ?_ (by decide +kernel)
  intro C D tys htl hl hrm hm hml ho hts hnm hE
  have h : n_ctx C b_1_17 6 "BalanceCoder" D tys := ⟨htl, hm, hml, ho, fun w hw => hts w (List.mem_cons_of_mem _ hw), hE⟩
  refine ⟨⟨?_, ?_⟩, ⟨?_, ?_, ?_, ?_, ?_⟩, ⟨?_, ?_, ?_⟩, ⟨?_, ?_, ?_, ?_⟩, ?_⟩
  · intro i ins len hx; exact kd_1_17 (i, ins, len) hx
  · exact n_at hE.1
  · intro i ci f hx; exact c_fg10 h (i, ci, f) hx
  · intro i ci f hx; exact c_fp10 h (i, ci, f) hx
  · exact n_hap h
  · intro i ci n hx; exact c_cn10 h (i, ci, n) hx
  · exact n_hag htl
  · exact c_n110 h
  · exact c_n210 h
  · intro t ci hx; exact c_at10 h (t, ci) hx
  · intro i n hx; exact c_kI10 h (i, n) hx
  · intro i n hx; exact c_kL10 h (i, n) hx
  · exact c_ob10 h ⟨by rw [hrm]; decide, by rw [hrm]; decide⟩
  · exact c_cp10 h
  · intro ins ct hx
    have g0 : q_Call C b_1_17 D tys n_KT 6 (.invokestatic 64) ct_26 := q_callS n_NWk h.2.2.2.2.2 h.1 (m_26 C.2.1) ⟨h.2.1.1, h.2.1.2, h.2.2.1, h.2.2.2.1, h.2.2.2.2.1⟩ ⟨n_CB (y := y_1_33) (bytes := b_1_33) 2 h.2.2.2.2.1 n_w312 n_w310 n_w1 ⟨by decide, by decide, by decide +kernel⟩ rfl rfl ⟨by rw [hrm]; decide, by rw [hrm]; decide⟩, h.2.2.2.2.1 _ n_w311⟩ rfl
    have g1 : q_Call C b_1_17 D tys n_KT 6 (.invokevirtual 189) ct_610 := q_callV n_NWk h.2.2.2.2.2 h.1 (m_610 C.2.1) ⟨h.2.1.1, h.2.1.2, h.2.2.1, h.2.2.2.1, h.2.2.2.2.1⟩ ⟨n_CB (y := y_3_6) (bytes := b_3_6) 2 h.2.2.2.2.1 n_w568 n_w676 n_w3 ⟨by decide, by decide, by decide +kernel⟩ rfl rfl ⟨by rw [hrm]; decide, by rw [hrm]; decide⟩, h.2.2.2.2.1 _ n_w566, h.2.2.2.2.1 _ n_w567⟩ (Cn := RX1) ⟨22, 1, _, _, _, _, TX1, 5, rfl, rfl, rfl⟩ rfl
    have g2 : q_Call C b_1_17 D tys n_KT 6 (.invokevirtual 186) ct_611 := q_callV n_NWk h.2.2.2.2.2 h.1 (m_611 C.2.1) ⟨h.2.1.1, h.2.1.2, h.2.2.1, h.2.2.2.1, h.2.2.2.2.1⟩ ⟨n_CB (y := y_3_4) (bytes := b_3_4) 0 h.2.2.2.2.1 n_w671 n_w668 n_w3 ⟨by decide, by decide, by decide +kernel⟩ rfl rfl ⟨by rw [hrm]; decide, by rw [hrm]; decide⟩, h.2.2.2.2.1 _ n_w669, h.2.2.2.2.1 _ n_w670⟩ (Cn := RX1) ⟨22, 1, _, _, _, _, TX1, 5, rfl, rfl, rfl⟩ rfl
    have all : ∀ x ∈ [((.invokestatic 64 : Instr), ct_26), ((.invokevirtual 189 : Instr), ct_610), ((.invokevirtual 186 : Instr), ct_611)], q_Call C b_1_17 D tys n_KT 6 x.1 x.2 := (n_mem2 (g0) (n_mem2 (g1) (n_mem2 (g2) n_mem0)))
    exact all (ins, ct) hx
def ct_613 : qCt := ((1, [], [(5, 0, [(0, 1)]), (5, 0, [(0, (-400))]), (5, 0, [(0, 8)])], []), (1, [], [(0, 0, [(0, 1)])], [], []), [], [], 0, 0)
def rm_613 : Room := { frames := 1, cells := 0, slots := 0, locals := 26 }
def e_613 : qEn := (k_13_3, (t_fg12, t_fp12, t_cn12), (t_na12, t_at12), (t_kI12, t_kL12, t_ob12, t_cp12), [], (q_k (-1), [], []))
def ts_613 : List (qTm × qCert × List qHx) := [((0, (1, [], [(0, (5, 0, [(0, 1)])), (2, (5, 0, [(0, (-400))])), (4, (5, 0, [(0, 8)]))], [], [], 0, 0), []), (1, []), [(0, 0, [], [], []), (0, 0, [], [], []), (0, 1, [(1, [])], [], []), (0, 0, [], [], []), (2, 0, [(1, [(0, 1)])], [], []), (0, 0, [], [], []), (0, 0, [], [], []), (0, 3, [(1, [])], [], []), (0, 0, [], [], []), (2, 0, [(1, [(1, 1)])], [], []), (0, 0, [], [], []), (0, 0, [], [], []), (5, 0, [(1, []), (1, [])], [], [])])]
set_option maxRecDepth 100000 in
theorem m_613 (l : Launch) : q_Met l vwCl n_TL n_NW n_KT y_13_3 (Cond.code y_13_3 b_13_3 6 (some .boolean) :: n_GW) rm_613 ct_613 := by
  refine q_method (E := e_613) ts_613 (by decide) rfl rfl rfl ?_ (by decide +kernel)
  intro C D tys htl hl hrm hm hml ho hts hnm hE
  have h : n_ctx C b_13_3 6 "BalanceCoderModel" D tys := ⟨htl, hm, hml, ho, fun w hw => hts w (List.mem_cons_of_mem _ hw), hE⟩
  refine ⟨⟨?_, ?_⟩, ⟨?_, ?_, ?_, ?_, ?_⟩, ⟨?_, ?_, ?_⟩, ⟨?_, ?_, ?_, ?_⟩, ?_⟩
  · intro i ins len hx; exact kd_13_3 (i, ins, len) hx
  · exact n_at hE.1
  · intro i ci f hx; exact c_fg12 h (i, ci, f) hx
  · intro i ci f hx; exact c_fp12 h (i, ci, f) hx
  · exact n_hap h
  · intro i ci n hx; exact c_cn12 h (i, ci, n) hx
  · exact n_hag htl
  · exact c_n112 h
  · exact c_n212 h
  · intro t ci hx; exact c_at12 h (t, ci) hx
  · intro i n hx; exact c_kI12 h (i, n) hx
  · intro i n hx; exact c_kL12 h (i, n) hx
  · exact c_ob12 h ⟨by rw [hrm]; decide, by rw [hrm]; decide⟩
  · exact c_cp12 h
  · intro ins ct hx; cases hx
def ct_614 : qCt := ((3, [], [(2, 44, [(1, 1)])], [([(1, 1)], 44, 0, (2, 42, [(2, 1)])), ([(2, 1)], 42, 9, (0, 0, [])), ([(2, 1)], 42, 10, (0, 0, []))]), (3, [], [], [([(2, 1)], 42, 10, (0, 0, [])), ([(2, 1)], 42, 9, (0, 0, [])), ([(1, 1)], 44, 0, (2, 42, [(2, 1)]))], []), [], [(42, 9), (42, 10)], 0, 0)
def rm_614 : Room := { frames := 1, cells := 0, slots := 0, locals := 26 }
def e_614 : qEn := (k_13_43, (t_fg12, t_fp12, t_cn12), (t_na12, t_at12), (t_kI12, t_kL12, t_ob12, t_cp12), [], (q_k (-1), [], []))
def ts_614 : List (qTm × qCert × List qHx) := [((0, (3, [], [(0, (2, 44, [(1, 1)]))], [], [([(1, 1)], 44, 0, (2, 42, [(2, 1)])), ([(2, 1)], 42, 9, (0, 0, [])), ([(2, 1)], 42, 10, (0, 0, []))], 0, 0), []), (1, []), [(0, 0, [], [], []), (0, 1, [], [], [0]), (0, 0, [], [], []), (0, 2, [(1, []), (1, [])], [], []), (0, 0, [], [], []), (0, 1, [], [], [1]), (0, 0, [], [], []), (0, 2, [(1, []), (1, [])], [], []), (5, 0, [], [], [])])]
set_option maxRecDepth 100000 in
theorem m_614 (l : Launch) : q_Met l vwCl n_TL n_NW n_KT y_13_43 (Cond.code y_13_43 b_13_43 1 none :: n_GW) rm_614 ct_614 := by
  refine q_method (E := e_614) ts_614 (by decide) rfl rfl rfl ?_ (by decide +kernel)
  intro C D tys htl hl hrm hm hml ho hts hnm hE
  have h : n_ctx C b_13_43 1 "BalanceCoderModel" D tys := ⟨htl, hm, hml, ho, fun w hw => hts w (List.mem_cons_of_mem _ hw), hE⟩
  refine ⟨⟨?_, ?_⟩, ⟨?_, ?_, ?_, ?_, ?_⟩, ⟨?_, ?_, ?_⟩, ⟨?_, ?_, ?_, ?_⟩, ?_⟩
  · intro i ins len hx; exact kd_13_43 (i, ins, len) hx
  · exact n_at hE.1
  · intro i ci f hx; exact c_fg12 h (i, ci, f) hx
  · intro i ci f hx; exact c_fp12 h (i, ci, f) hx
  · exact n_hap h
  · intro i ci n hx; exact c_cn12 h (i, ci, n) hx
  · exact n_hag htl
  · exact c_n112 h
  · exact c_n212 h
  · intro t ci hx; exact c_at12 h (t, ci) hx
  · intro i n hx; exact c_kI12 h (i, n) hx
  · intro i n hx; exact c_kL12 h (i, n) hx
  · exact c_ob12 h ⟨by rw [hrm]; decide, by rw [hrm]; decide⟩
  · exact c_cp12 h
  · intro ins ct hx; cases hx
def ct_615 : qCt := ((4, [], [(2, 44, [(1, 1)]), (1, 0, []), (0, 0, [(0, 1)])], [([(1, 1)], 44, 0, (2, 42, [(2, 1)])), ([(2, 1)], 42, 8, (2, 5, [(3, 1)])), ([(2, 1)], 42, 7, (0, 0, [])), ([(2, 1)], 42, 9, (0, 0, [])), ([(2, 1)], 42, 10, (0, 0, [])), ([(1, 1)], 44, 3, (0, 0, []))]), (4, [], [(0, 0, [(0, 1)])], [([(2, 1)], 42, 10, (0, 0, [])), ([(2, 1)], 42, 9, (0, 0, [])), ([(1, 1)], 44, 0, (2, 42, [(2, 1)])), ([(2, 1)], 42, 7, (0, 0, [(0, 1)])), ([(2, 1)], 42, 8, (2, 5, [(3, 1)])), ([(1, 1)], 44, 3, (0, 0, []))], []), [], [(5, 0), (42, 7), (42, 9), (42, 10)], 0, 0)
def rm_615 : Room := { frames := 2, cells := 0, slots := 0, locals := 51 }
def e_615 : qEn := (k_13_45, (t_fg12, t_fp12, t_cn12), (t_na12, t_at12), (t_kI12, t_kL12, t_ob12, t_cp12), [(.invokestatic 69, ct_613), (.invokevirtual 254, ct_614)], (q_k (-1), [], []))
def ts_615 : List (qTm × qCert × List qHx) := [((0, (4, [], [(0, (2, 44, [(1, 1)])), (1, (1, 0, [])), (3, (0, 0, [(0, 1)]))], [], [([(1, 1)], 44, 0, (2, 42, [(2, 1)])), ([(2, 1)], 42, 8, (2, 5, [(3, 1)])), ([(2, 1)], 42, 7, (0, 0, [])), ([(2, 1)], 42, 9, (0, 0, [])), ([(2, 1)], 42, 10, (0, 0, [])), ([(1, 1)], 44, 3, (0, 0, []))], 0, 0), []), (1, []), [(0, 0, [], [], []), (0, 0, [], [], []), (0, 0, [], [], []), (0, 0, [], [], []), (0, 0, [], [], [0]), (0, 1, [(1, [])], [], []), (2, 0, [(1, [(1, 1)])], [], []), (0, 0, [], [], []), (0, 1, [(1, [])], [], []), (2, 0, [(1, [(2, 1)])], [], []), (0, 0, [], [], []), (0, 0, [], [], []), (0, 0, [], [], []), (0, 1, [], [], [0]), (0, 1, [], [], [2]), (0, 0, [], [], []), (0, 1, [(1, []), (1, [])], [], []), (0, 0, [], [], []), (0, 0, [], [], []), (0, 0, [], [], []), (0, 0, [], [], []), (0, 1, [(1, []), (1, [])], [], []), (0, 0, [], [], []), (0, 0, [], [], []), (0, 0, [], [], []), (2, 0, [(1, [(4, 1)])], [], []), (0, 0, [], [], []), (0, 1, [], [], [0]), (0, 1, [], [], [1]), (0, 0, [], [], []), (0, 1, [], [], [0]), (0, 1, [], [], [2]), (0, 0, [], [], []), (0, 1, [(1, []), (1, [])], [], []), (0, 0, [], [], []), (0, 1, [(1, []), (1, [])], [], []), (0, 0, [], [], []), (0, 1, [(1, []), (1, [])], [], []), (0, 0, [], [], []), (0, 0, [], [], []), (0, 0, [], [], []), (0, 1, [(1, []), (1, [])], [], []), (0, 0, [], [], []), (0, 0, [], [], []), (0, 0, [], [], []), (0, 0, [], [], []), (0, 0, [(1, [(5, 1)]), (1, [(6, 1)]), (1, []), (1, [])], [], []), (0, 1, [(1, []), (1, [])], [], []), (0, 0, [], [], []), (0, 0, [], [], []), (0, 0, [], [], []), (0, 0, [], [], []), (0, 1, [], [], [0]), (0, 0, [], [], []), (0, 1, [], [], [2]), (0, 0, [], [], []), (0, 1, [(1, []), (1, [])], [], []), (0, 2, [(1, []), (1, [])], [], []), (0, 0, [], [], []), (0, 0, [], [[(1, 1)], [(2, 1)]], [1]), (0, 0, [], [], []), (0, 1, [], [], [2]), (0, 1, [], [], [3]), (5, 0, [], [], []), (2, 0, [(1, [(7, 1)])], [], []), (2, 0, [(1, [(3, 1)])], [], []), (2, 0, [(1, [(2, 1)])], [], [])])]
set_option maxRecDepth 100000 in
theorem m_615 (l : Launch) : q_Met l vwCl n_TL n_NW n_KT y_13_45 (Cond.code y_13_45 b_13_45 5 (some .int) :: n_GW) rm_615 ct_615 := by
  refine q_method (E := e_615) ts_615 (by decide) rfl rfl rfl ?_ (by decide +kernel)
  intro C D tys htl hl hrm hm hml ho hts hnm hE
  have h : n_ctx C b_13_45 5 "BalanceCoderModel" D tys := ⟨htl, hm, hml, ho, fun w hw => hts w (List.mem_cons_of_mem _ hw), hE⟩
  refine ⟨⟨?_, ?_⟩, ⟨?_, ?_, ?_, ?_, ?_⟩, ⟨?_, ?_, ?_⟩, ⟨?_, ?_, ?_, ?_⟩, ?_⟩
  · intro i ins len hx; exact kd_13_45 (i, ins, len) hx
  · exact n_at hE.1
  · intro i ci f hx; exact c_fg12 h (i, ci, f) hx
  · intro i ci f hx; exact c_fp12 h (i, ci, f) hx
  · exact n_hap h
  · intro i ci n hx; exact c_cn12 h (i, ci, n) hx
  · exact n_hag htl
  · exact c_n112 h
  · exact c_n212 h
  · intro t ci hx; exact c_at12 h (t, ci) hx
  · intro i n hx; exact c_kI12 h (i, n) hx
  · intro i n hx; exact c_kL12 h (i, n) hx
  · exact c_ob12 h ⟨by rw [hrm]; decide, by rw [hrm]; decide⟩
  · exact c_cp12 h
  · intro ins ct hx
    have g0 : q_Call C b_13_45 D tys n_KT 5 (.invokestatic 69) ct_613 := q_callS n_NWk h.2.2.2.2.2 h.1 (m_613 C.2.1) ⟨h.2.1.1, h.2.1.2, h.2.2.1, h.2.2.2.1, h.2.2.2.2.1⟩ ⟨n_CB (y := y_13_3) (bytes := b_13_3) 3 h.2.2.2.2.1 n_w923 n_w921 n_w12 ⟨by decide, by decide, by decide +kernel⟩ rfl rfl ⟨by rw [hrm]; decide, by rw [hrm]; decide⟩, h.2.2.2.2.1 _ n_w922⟩ rfl
    have g1 : q_Call C b_13_45 D tys n_KT 5 (.invokevirtual 254) ct_614 := q_callV n_NWk h.2.2.2.2.2 h.1 (m_614 C.2.1) ⟨h.2.1.1, h.2.1.2, h.2.2.1, h.2.2.2.1, h.2.2.2.2.1⟩ ⟨n_CB (y := y_13_43) (bytes := b_13_43) 0 h.2.2.2.2.1 n_w1091 n_w1088 n_w12 ⟨by decide, by decide, by decide +kernel⟩ rfl rfl ⟨by rw [hrm]; decide, by rw [hrm]; decide⟩, h.2.2.2.2.1 _ n_w1090, h.2.2.2.2.1 _ n_s49⟩ (Cn := RX12) ⟨44, 12, _, _, _, _, TX12, 31, rfl, rfl, rfl⟩ rfl
    have all : ∀ x ∈ [((.invokestatic 69 : Instr), ct_613), ((.invokevirtual 254 : Instr), ct_614)], q_Call C b_13_45 D tys n_KT 5 x.1 x.2 := (n_mem2 (g0) (n_mem2 (g1) n_mem0))
    exact all (ins, ct) hx
def ct_616 : qCt := ((4, [[(2, 1)], [(0, 255), (2, (-1))]], [(2, 22, [(1, 1)]), (0, 0, [(2, 1)]), (0, 0, [(0, 1)])], [([(1, 1)], 22, 1, (0, 0, [(0, 1)])), ([(1, 1)], 22, 0, (2, 5, [(3, 1)]))]), (4, [], [], [([(1, 1)], 22, 1, (0, 0, [(0, 2)])), ([(1, 1)], 22, 0, (2, 5, [(3, 1)]))], []), [], [(5, 0), (22, 1)], 0, 0)
def rm_616 : Room := { frames := 1, cells := 0, slots := 0, locals := 26 }
def e_616 : qEn := (k_3_6, (t_fg1, t_fp1, t_cn1), (t_na1, t_at1), (t_kI1, t_kL1, t_ob1, t_cp1), [], (q_k (-1), [], []))
def ts_616 : List (qTm × qCert × List qHx) := [((0, (4, [[(2, 1)], [(0, 255), (2, (-1))]], [(0, (2, 22, [(1, 1)])), (1, (0, 0, [(2, 1)])), (2, (0, 0, [(0, 1)]))], [], [([(1, 1)], 22, 1, (0, 0, [(0, 1)])), ([(1, 1)], 22, 0, (2, 5, [(3, 1)]))], 0, 0), []), (1, []), [(0, 0, [], [], []), (0, 0, [], [], []), (0, 1, [(1, []), (1, [])], [], []), (0, 0, [], [], []), (0, 0, [], [], []), (0, 0, [], [], []), (2, 0, [(1, [(2, 1)])], [], []), (0, 0, [], [], []), (0, 1, [], [], [0]), (0, 0, [], [], []), (0, 0, [], [], []), (2, 0, [(1, [(3, 1)])], [], []), (0, 0, [], [], []), (0, 1, [], [], [1]), (0, 0, [], [], []), (0, 1, [], [], [0]), (0, 0, [], [], []), (0, 0, [], [], []), (0, 0, [], [], []), (0, 1, [(1, []), (1, [])], [], []), (0, 0, [], [], []), (0, 0, [], [], []), (0, 1, [], [], []), (0, 0, [(1, [(6, 1)]), (1, [(7, 1)]), (1, []), (1, [])], [], []), (0, 0, [], [], []), (0, 0, [], [], []), (0, 1, [], [], [0]), (0, 0, [], [], []), (0, 1, [(1, []), (1, [])], [], []), (0, 2, [(1, []), (1, [])], [], []), (0, 1, [(1, []), (1, [])], [], []), (0, 0, [], [], []), (0, 0, [], [], []), (0, 0, [], [], []), (5, 0, [], [], []), (2, 0, [(1, [(8, 1)])], [], [])])]
set_option maxRecDepth 100000 in
theorem m_616 (l : Launch) : q_Met l vwCl n_TL n_NW n_KT y_3_6 (Cond.code y_3_6 b_3_6 4 none :: n_GW) rm_616 ct_616 := by
  refine q_method (E := e_616) ts_616 (by decide) rfl rfl rfl ?_ (by decide +kernel)
  intro C D tys htl hl hrm hm hml ho hts hnm hE
  have h : n_ctx C b_3_6 4 "BalanceCoder$Block" D tys := ⟨htl, hm, hml, ho, fun w hw => hts w (List.mem_cons_of_mem _ hw), hE⟩
  refine ⟨⟨?_, ?_⟩, ⟨?_, ?_, ?_, ?_, ?_⟩, ⟨?_, ?_, ?_⟩, ⟨?_, ?_, ?_, ?_⟩, ?_⟩
  · intro i ins len hx; exact kd_3_6 (i, ins, len) hx
  · exact n_at hE.1
  · intro i ci f hx; exact c_fg1 h (i, ci, f) hx
  · intro i ci f hx; exact c_fp1 h (i, ci, f) hx
  · exact n_hap h
  · intro i ci n hx; exact c_cn1 h (i, ci, n) hx
  · exact n_hag htl
  · exact c_n11 h
  · exact c_n21 h
  · intro t ci hx; exact c_at1 h (t, ci) hx
  · intro i n hx; exact c_kI1 h (i, n) hx
  · intro i n hx; exact c_kL1 h (i, n) hx
  · exact c_ob1 h ⟨by rw [hrm]; decide, by rw [hrm]; decide⟩
  · exact c_cp1 h ⟨by rw [hrm]; decide, by rw [hrm]; decide +kernel⟩
  · intro ins ct hx; cases hx
def ct_617 : qCt := ((5, [], [(2, 40, [(1, 1)]), (1, 0, []), (0, 0, [(0, 2)])], [([(1, 1)], 40, 7, (0, 0, [])), ([(1, 1)], 40, 0, (2, 38, [(2, 1)])), ([(2, 1)], 38, 3, (2, 22, [(3, 1)])), ([(3, 1)], 22, 4, (0, 0, [])), ([(3, 1)], 22, 2, (0, 0, [])), ([(3, 1)], 22, 1, (0, 0, [])), ([(3, 1)], 22, 0, (2, 5, [(4, 1)]))]), (5, [], [(0, 0, [(0, 2)])], [([(3, 1)], 22, 4, (0, 0, [])), ([(3, 1)], 22, 2, (0, 0, [])), ([(3, 1)], 22, 1, (0, 0, [(0, 2)])), ([(3, 1)], 22, 0, (2, 5, [(4, 1)])), ([(1, 1)], 40, 7, (0, 0, [])), ([(1, 1)], 40, 0, (2, 38, [(2, 1)])), ([(2, 1)], 38, 3, (2, 22, [(3, 1)]))], []), [], [(5, 0), (22, 1), (22, 2), (22, 4)], 0, 0)
def rm_617 : Room := { frames := 2, cells := 0, slots := 0, locals := 49 }
def e_617 : qEn := (k_1_17, (t_fg10, t_fp10, t_cn10), (t_na10, t_at10), (t_kI10, t_kL10, t_ob10, t_cp10), [(.invokestatic 64, ct_31), (.invokevirtual 189, ct_610), (.invokestatic 64, ct_26), (.invokevirtual 189, ct_616), (.invokevirtual 186, ct_611)], (q_k (-1), [], []))
def ts_617 : List (qTm × qCert × List qHx) := [((0, (5, [], [(0, (2, 40, [(1, 1)])), (1, (1, 0, [])), (3, (0, 0, [(0, 2)]))], [], [([(1, 1)], 40, 7, (0, 0, [])), ([(1, 1)], 40, 0, (2, 38, [(2, 1)])), ([(2, 1)], 38, 3, (2, 22, [(3, 1)])), ([(3, 1)], 22, 4, (0, 0, [])), ([(3, 1)], 22, 2, (0, 0, [])), ([(3, 1)], 22, 1, (0, 0, [])), ([(3, 1)], 22, 0, (2, 5, [(4, 1)]))], 0, 0), []), (1, []), [(0, 0, [], [], []), (0, 1, [], [], [1]), (0, 1, [], [], [2]), (0, 0, [], [], []), (0, 0, [], [], []), (0, 0, [], [], []), (0, 0, [], [], []), (2, 0, [(1, [(0, 1)])], [], []), (0, 0, [], [], []), (0, 1, [(1, [])], [], []), (2, 0, [(1, [(2, 1)])], [], []), (0, 0, [], [], []), (0, 0, [], [], []), (0, 0, [], [], []), (2, 0, [(1, [(2, 1)])], [], []), (0, 0, [], [], []), (0, 0, [], [], []), (0, 1, [], [], [5]), (0, 1, [(1, [])], [], []), (0, 0, [], [], []), (0, 0, [], [], []), (0, 0, [], [], []), (0, 0, [], [], []), (0, 1, [], [], [5]), (0, 1, [(1, []), (1, [])], [], []), (0, 0, [], [], []), (0, 0, [], [], []), (0, 0, [], [], []), (0, 0, [], [], []), (0, 0, [], [], []), (0, 1, [(1, []), (1, [])], [], []), (0, 0, [], [], []), (0, 0, [], [], []), (0, 0, [], [], []), (2, 0, [(1, [(6, 1)])], [], []), (0, 0, [], [], []), (0, 0, [], [], []), (0, 0, [], [], []), (0, 0, [], [], [0]), (0, 0, [], [], []), (0, 0, [(1, [(7, 1)]), (1, [(8, 1)])], [[(3, 1)], [(5, 1)], [(4, 1)]], [1]), (0, 1, [(1, []), (1, [])], [], []), (0, 0, [], [], []), (0, 0, [], [], []), (0, 0, [], [], []), (2, 0, [(1, [(9, 1)])], [], []), (0, 0, [], [], []), (0, 0, [], [], []), (0, 0, [], [], []), (0, 0, [], [], [2]), (0, 0, [], [], []), (0, 0, [(1, [(10, 1)]), (1, [(11, 1)])], [[(3, 1)], [(6, 1)], [(4, 1)]], [3]), (0, 1, [(1, []), (1, [])], [], []), (0, 0, [], [], []), (0, 0, [], [], []), (0, 0, [], [], []), (0, 0, [], [], []), (0, 0, [], [[(3, 1)]], [4]), (0, 0, [], [], []), (0, 1, [], [], [2]), (5, 0, [], [], []), (2, 0, [(1, [(12, 1)])], [], []), (2, 0, [(1, [(5, 1)])], [], []), (2, 0, [(1, [(4, 1)])], [], []), (2, 0, [(1, [(3, 1)])], [], [])])]
set_option maxRecDepth 100000 in
theorem m_617 (l : Launch) : q_Met l vwCl n_TL n_NW n_KT y_1_17 (Cond.code y_1_17 b_1_17 6 (some .int) :: n_GW) rm_617 ct_617 := by
  refine q_method (E := e_617) ts_617 (by decide) rfl rfl rfl ?_ (by decide +kernel)
  intro C D tys htl hl hrm hm hml ho hts hnm hE
  have h : n_ctx C b_1_17 6 "BalanceCoder" D tys := ⟨htl, hm, hml, ho, fun w hw => hts w (List.mem_cons_of_mem _ hw), hE⟩
  refine ⟨⟨?_, ?_⟩, ⟨?_, ?_, ?_, ?_, ?_⟩, ⟨?_, ?_, ?_⟩, ⟨?_, ?_, ?_, ?_⟩, ?_⟩
  · intro i ins len hx; exact kd_1_17 (i, ins, len) hx
  · exact n_at hE.1
  · intro i ci f hx; exact c_fg10 h (i, ci, f) hx
  · intro i ci f hx; exact c_fp10 h (i, ci, f) hx
  · exact n_hap h
  · intro i ci n hx; exact c_cn10 h (i, ci, n) hx
  · exact n_hag htl
  · exact c_n110 h
  · exact c_n210 h
  · intro t ci hx; exact c_at10 h (t, ci) hx
  · intro i n hx; exact c_kI10 h (i, n) hx
  · intro i n hx; exact c_kL10 h (i, n) hx
  · exact c_ob10 h ⟨by rw [hrm]; decide, by rw [hrm]; decide⟩
  · exact c_cp10 h
  · intro ins ct hx
    have g0 : q_Call C b_1_17 D tys n_KT 6 (.invokestatic 64) ct_31 := q_callS n_NWk h.2.2.2.2.2 h.1 (m_31 C.2.1) ⟨h.2.1.1, h.2.1.2, h.2.2.1, h.2.2.2.1, h.2.2.2.2.1⟩ ⟨n_CB (y := y_1_33) (bytes := b_1_33) 2 h.2.2.2.2.1 n_w312 n_w310 n_w1 ⟨by decide, by decide, by decide +kernel⟩ rfl rfl ⟨by rw [hrm]; decide, by rw [hrm]; decide⟩, h.2.2.2.2.1 _ n_w311⟩ rfl
    have g1 : q_Call C b_1_17 D tys n_KT 6 (.invokevirtual 189) ct_610 := q_callV n_NWk h.2.2.2.2.2 h.1 (m_610 C.2.1) ⟨h.2.1.1, h.2.1.2, h.2.2.1, h.2.2.2.1, h.2.2.2.2.1⟩ ⟨n_CB (y := y_3_6) (bytes := b_3_6) 2 h.2.2.2.2.1 n_w568 n_w676 n_w3 ⟨by decide, by decide, by decide +kernel⟩ rfl rfl ⟨by rw [hrm]; decide, by rw [hrm]; decide⟩, h.2.2.2.2.1 _ n_w566, h.2.2.2.2.1 _ n_w567⟩ (Cn := RX1) ⟨22, 1, _, _, _, _, TX1, 5, rfl, rfl, rfl⟩ rfl
    have g2 : q_Call C b_1_17 D tys n_KT 6 (.invokestatic 64) ct_26 := q_callS n_NWk h.2.2.2.2.2 h.1 (m_26 C.2.1) ⟨h.2.1.1, h.2.1.2, h.2.2.1, h.2.2.2.1, h.2.2.2.2.1⟩ ⟨n_CB (y := y_1_33) (bytes := b_1_33) 2 h.2.2.2.2.1 n_w312 n_w310 n_w1 ⟨by decide, by decide, by decide +kernel⟩ rfl rfl ⟨by rw [hrm]; decide, by rw [hrm]; decide⟩, h.2.2.2.2.1 _ n_w311⟩ rfl
    have g3 : q_Call C b_1_17 D tys n_KT 6 (.invokevirtual 189) ct_616 := q_callV n_NWk h.2.2.2.2.2 h.1 (m_616 C.2.1) ⟨h.2.1.1, h.2.1.2, h.2.2.1, h.2.2.2.1, h.2.2.2.2.1⟩ ⟨n_CB (y := y_3_6) (bytes := b_3_6) 2 h.2.2.2.2.1 n_w568 n_w676 n_w3 ⟨by decide, by decide, by decide +kernel⟩ rfl rfl ⟨by rw [hrm]; decide, by rw [hrm]; decide⟩, h.2.2.2.2.1 _ n_w566, h.2.2.2.2.1 _ n_w567⟩ (Cn := RX1) ⟨22, 1, _, _, _, _, TX1, 5, rfl, rfl, rfl⟩ rfl
    have g4 : q_Call C b_1_17 D tys n_KT 6 (.invokevirtual 186) ct_611 := q_callV n_NWk h.2.2.2.2.2 h.1 (m_611 C.2.1) ⟨h.2.1.1, h.2.1.2, h.2.2.1, h.2.2.2.1, h.2.2.2.2.1⟩ ⟨n_CB (y := y_3_4) (bytes := b_3_4) 0 h.2.2.2.2.1 n_w671 n_w668 n_w3 ⟨by decide, by decide, by decide +kernel⟩ rfl rfl ⟨by rw [hrm]; decide, by rw [hrm]; decide⟩, h.2.2.2.2.1 _ n_w669, h.2.2.2.2.1 _ n_w670⟩ (Cn := RX1) ⟨22, 1, _, _, _, _, TX1, 5, rfl, rfl, rfl⟩ rfl
    have all : ∀ x ∈ [((.invokestatic 64 : Instr), ct_31), ((.invokevirtual 189 : Instr), ct_610), ((.invokestatic 64 : Instr), ct_26), ((.invokevirtual 189 : Instr), ct_616), ((.invokevirtual 186 : Instr), ct_611)], q_Call C b_1_17 D tys n_KT 6 x.1 x.2 := (n_mem2 (g0) (n_mem2 (g1) (n_mem2 (g2) (n_mem2 (g3) (n_mem2 (g4) n_mem0)))))
    exact all (ins, ct) hx
def ct_618 : qCt := ((1, [], [(5, 0, [(0, 2)]), (5, 0, [(0, (-400))]), (5, 0, [(0, 8)])], []), (1, [], [(0, 0, [(0, 1)])], [], []), [], [], 0, 0)
def rm_618 : Room := { frames := 1, cells := 0, slots := 0, locals := 26 }
def e_618 : qEn := (k_13_3, (t_fg12, t_fp12, t_cn12), (t_na12, t_at12), (t_kI12, t_kL12, t_ob12, t_cp12), [], (q_k (-1), [], []))
def ts_618 : List (qTm × qCert × List qHx) := [((0, (1, [], [(0, (5, 0, [(0, 2)])), (2, (5, 0, [(0, (-400))])), (4, (5, 0, [(0, 8)]))], [], [], 0, 0), []), (1, []), [(0, 0, [], [], []), (0, 0, [], [], []), (0, 1, [(1, [])], [], []), (0, 0, [], [], []), (2, 0, [(1, [(0, 1)])], [], []), (0, 0, [], [], []), (0, 0, [], [], []), (0, 3, [(1, [])], [], []), (0, 0, [], [], []), (2, 0, [(1, [(1, 1)])], [], []), (0, 0, [], [], []), (0, 0, [], [], []), (5, 0, [(1, []), (1, [])], [], [])])]
set_option maxRecDepth 100000 in
theorem m_618 (l : Launch) : q_Met l vwCl n_TL n_NW n_KT y_13_3 (Cond.code y_13_3 b_13_3 6 (some .boolean) :: n_GW) rm_618 ct_618 := by
  refine q_method (E := e_618) ts_618 (by decide) rfl rfl rfl ?_ (by decide +kernel)
  intro C D tys htl hl hrm hm hml ho hts hnm hE
  have h : n_ctx C b_13_3 6 "BalanceCoderModel" D tys := ⟨htl, hm, hml, ho, fun w hw => hts w (List.mem_cons_of_mem _ hw), hE⟩
  refine ⟨⟨?_, ?_⟩, ⟨?_, ?_, ?_, ?_, ?_⟩, ⟨?_, ?_, ?_⟩, ⟨?_, ?_, ?_, ?_⟩, ?_⟩
  · intro i ins len hx; exact kd_13_3 (i, ins, len) hx
  · exact n_at hE.1
  · intro i ci f hx; exact c_fg12 h (i, ci, f) hx
  · intro i ci f hx; exact c_fp12 h (i, ci, f) hx
  · exact n_hap h
  · intro i ci n hx; exact c_cn12 h (i, ci, n) hx
  · exact n_hag htl
  · exact c_n112 h
  · exact c_n212 h
  · intro t ci hx; exact c_at12 h (t, ci) hx
  · intro i n hx; exact c_kI12 h (i, n) hx
  · intro i n hx; exact c_kL12 h (i, n) hx
  · exact c_ob12 h ⟨by rw [hrm]; decide, by rw [hrm]; decide⟩
  · exact c_cp12 h
  · intro ins ct hx; cases hx
def ct_619 : qCt := ((4, [], [(2, 44, [(1, 1)]), (1, 0, []), (0, 0, [(0, 2)])], [([(1, 1)], 44, 0, (2, 42, [(2, 1)])), ([(2, 1)], 42, 8, (2, 5, [(3, 1)])), ([(2, 1)], 42, 7, (0, 0, [])), ([(2, 1)], 42, 9, (0, 0, [])), ([(2, 1)], 42, 10, (0, 0, [])), ([(1, 1)], 44, 3, (0, 0, []))]), (4, [], [(0, 0, [(0, 2)])], [([(2, 1)], 42, 10, (0, 0, [])), ([(2, 1)], 42, 9, (0, 0, [])), ([(1, 1)], 44, 0, (2, 42, [(2, 1)])), ([(2, 1)], 42, 7, (0, 0, [(0, 2)])), ([(2, 1)], 42, 8, (2, 5, [(3, 1)])), ([(1, 1)], 44, 3, (0, 0, []))], []), [], [(5, 0), (42, 7), (42, 9), (42, 10)], 0, 0)
def rm_619 : Room := { frames := 2, cells := 0, slots := 0, locals := 51 }
def e_619 : qEn := (k_13_45, (t_fg12, t_fp12, t_cn12), (t_na12, t_at12), (t_kI12, t_kL12, t_ob12, t_cp12), [(.invokestatic 69, ct_618), (.invokevirtual 254, ct_614)], (q_k (-1), [], []))
def ts_619 : List (qTm × qCert × List qHx) := [((0, (4, [], [(0, (2, 44, [(1, 1)])), (1, (1, 0, [])), (3, (0, 0, [(0, 2)]))], [], [([(1, 1)], 44, 0, (2, 42, [(2, 1)])), ([(2, 1)], 42, 8, (2, 5, [(3, 1)])), ([(2, 1)], 42, 7, (0, 0, [])), ([(2, 1)], 42, 9, (0, 0, [])), ([(2, 1)], 42, 10, (0, 0, [])), ([(1, 1)], 44, 3, (0, 0, []))], 0, 0), []), (1, []), [(0, 0, [], [], []), (0, 0, [], [], []), (0, 0, [], [], []), (0, 0, [], [], []), (0, 0, [], [], [0]), (0, 1, [(1, [])], [], []), (2, 0, [(1, [(1, 1)])], [], []), (0, 0, [], [], []), (0, 1, [(1, [])], [], []), (2, 0, [(1, [(2, 1)])], [], []), (0, 0, [], [], []), (0, 0, [], [], []), (0, 0, [], [], []), (0, 1, [], [], [0]), (0, 1, [], [], [2]), (0, 0, [], [], []), (0, 1, [(1, []), (1, [])], [], []), (0, 0, [], [], []), (0, 0, [], [], []), (0, 0, [], [], []), (0, 0, [], [], []), (0, 1, [(1, []), (1, [])], [], []), (0, 0, [], [], []), (0, 0, [], [], []), (0, 0, [], [], []), (2, 0, [(1, [(4, 1)])], [], []), (0, 0, [], [], []), (0, 1, [], [], [0]), (0, 1, [], [], [1]), (0, 0, [], [], []), (0, 1, [], [], [0]), (0, 1, [], [], [2]), (0, 0, [], [], []), (0, 1, [(1, []), (1, [])], [], []), (0, 0, [], [], []), (0, 1, [(1, []), (1, [])], [], []), (0, 0, [], [], []), (0, 1, [(1, []), (1, [])], [], []), (0, 0, [], [], []), (0, 0, [], [], []), (0, 0, [], [], []), (0, 1, [(1, []), (1, [])], [], []), (0, 0, [], [], []), (0, 0, [], [], []), (0, 0, [], [], []), (0, 0, [], [], []), (0, 0, [(1, [(5, 1)]), (1, [(6, 1)]), (1, []), (1, [])], [], []), (0, 1, [(1, []), (1, [])], [], []), (0, 0, [], [], []), (0, 0, [], [], []), (0, 0, [], [], []), (2, 0, [(1, [(7, 1)])], [], []), (0, 0, [], [], []), (0, 1, [], [], [0]), (0, 1, [], [], [1]), (0, 0, [], [], []), (0, 1, [], [], [0]), (0, 1, [], [], [2]), (0, 0, [], [], []), (0, 1, [(1, []), (1, [])], [], []), (0, 0, [], [], []), (0, 1, [(1, []), (1, [])], [], []), (0, 0, [], [], []), (0, 1, [(1, []), (1, [])], [], []), (0, 0, [], [], []), (0, 0, [], [], []), (0, 0, [], [], []), (0, 1, [(1, []), (1, [])], [], []), (0, 0, [], [], []), (0, 0, [], [], []), (0, 0, [], [], []), (0, 0, [], [], []), (0, 0, [(1, [(8, 1)]), (1, [(9, 1)]), (1, []), (1, [])], [], []), (0, 1, [(1, []), (1, [])], [], []), (0, 0, [], [], []), (0, 0, [], [], []), (0, 0, [], [], []), (0, 0, [], [], []), (0, 1, [], [], [0]), (0, 0, [], [], []), (0, 1, [], [], [2]), (0, 0, [], [], []), (0, 1, [(1, []), (1, [])], [], []), (0, 2, [(1, []), (1, [])], [], []), (0, 0, [], [], []), (0, 0, [], [[(1, 1)], [(2, 1)]], [1]), (0, 0, [], [], []), (0, 1, [], [], [2]), (0, 1, [], [], [3]), (5, 0, [], [], []), (2, 0, [(1, [(10, 1)])], [], []), (2, 0, [(1, [(3, 1)])], [], []), (2, 0, [(1, [(2, 1)])], [], [])])]
set_option maxRecDepth 100000 in
theorem m_619 (l : Launch) : q_Met l vwCl n_TL n_NW n_KT y_13_45 (Cond.code y_13_45 b_13_45 5 (some .int) :: n_GW) rm_619 ct_619 := by
  refine q_method (E := e_619) ts_619 (by decide) rfl rfl rfl ?_ (by decide +kernel)
  intro C D tys htl hl hrm hm hml ho hts hnm hE
  have h : n_ctx C b_13_45 5 "BalanceCoderModel" D tys := ⟨htl, hm, hml, ho, fun w hw => hts w (List.mem_cons_of_mem _ hw), hE⟩
  refine ⟨⟨?_, ?_⟩, ⟨?_, ?_, ?_, ?_, ?_⟩, ⟨?_, ?_, ?_⟩, ⟨?_, ?_, ?_, ?_⟩, ?_⟩
  · intro i ins len hx; exact kd_13_45 (i, ins, len) hx
  · exact n_at hE.1
  · intro i ci f hx; exact c_fg12 h (i, ci, f) hx
  · intro i ci f hx; exact c_fp12 h (i, ci, f) hx
  · exact n_hap h
  · intro i ci n hx; exact c_cn12 h (i, ci, n) hx
  · exact n_hag htl
  · exact c_n112 h
  · exact c_n212 h
  · intro t ci hx; exact c_at12 h (t, ci) hx
  · intro i n hx; exact c_kI12 h (i, n) hx
  · intro i n hx; exact c_kL12 h (i, n) hx
  · exact c_ob12 h ⟨by rw [hrm]; decide, by rw [hrm]; decide⟩
  · exact c_cp12 h
  · intro ins ct hx
    have g0 : q_Call C b_13_45 D tys n_KT 5 (.invokestatic 69) ct_618 := q_callS n_NWk h.2.2.2.2.2 h.1 (m_618 C.2.1) ⟨h.2.1.1, h.2.1.2, h.2.2.1, h.2.2.2.1, h.2.2.2.2.1⟩ ⟨n_CB (y := y_13_3) (bytes := b_13_3) 3 h.2.2.2.2.1 n_w923 n_w921 n_w12 ⟨by decide, by decide, by decide +kernel⟩ rfl rfl ⟨by rw [hrm]; decide, by rw [hrm]; decide⟩, h.2.2.2.2.1 _ n_w922⟩ rfl
    have g1 : q_Call C b_13_45 D tys n_KT 5 (.invokevirtual 254) ct_614 := q_callV n_NWk h.2.2.2.2.2 h.1 (m_614 C.2.1) ⟨h.2.1.1, h.2.1.2, h.2.2.1, h.2.2.2.1, h.2.2.2.2.1⟩ ⟨n_CB (y := y_13_43) (bytes := b_13_43) 0 h.2.2.2.2.1 n_w1091 n_w1088 n_w12 ⟨by decide, by decide, by decide +kernel⟩ rfl rfl ⟨by rw [hrm]; decide, by rw [hrm]; decide⟩, h.2.2.2.2.1 _ n_w1090, h.2.2.2.2.1 _ n_s49⟩ (Cn := RX12) ⟨44, 12, _, _, _, _, TX12, 31, rfl, rfl, rfl⟩ rfl
    have all : ∀ x ∈ [((.invokestatic 69 : Instr), ct_618), ((.invokevirtual 254 : Instr), ct_614)], q_Call C b_13_45 D tys n_KT 5 x.1 x.2 := (n_mem2 (g0) (n_mem2 (g1) n_mem0))
    exact all (ins, ct) hx
def ct_620 : qCt := ((4, [[(2, 1)], [(0, 255), (2, (-1))]], [(2, 22, [(1, 1)]), (0, 0, [(2, 1)]), (0, 0, [(0, 1)])], [([(1, 1)], 22, 1, (0, 0, [(0, 2)])), ([(1, 1)], 22, 0, (2, 5, [(3, 1)]))]), (4, [], [], [([(1, 1)], 22, 1, (0, 0, [(0, 3)])), ([(1, 1)], 22, 0, (2, 5, [(3, 1)]))], []), [], [(5, 0), (22, 1)], 0, 0)
def rm_620 : Room := { frames := 1, cells := 0, slots := 0, locals := 26 }
def e_620 : qEn := (k_3_6, (t_fg1, t_fp1, t_cn1), (t_na1, t_at1), (t_kI1, t_kL1, t_ob1, t_cp1), [], (q_k (-1), [], []))
def ts_620 : List (qTm × qCert × List qHx) := [((0, (4, [[(2, 1)], [(0, 255), (2, (-1))]], [(0, (2, 22, [(1, 1)])), (1, (0, 0, [(2, 1)])), (2, (0, 0, [(0, 1)]))], [], [([(1, 1)], 22, 1, (0, 0, [(0, 2)])), ([(1, 1)], 22, 0, (2, 5, [(3, 1)]))], 0, 0), []), (1, []), [(0, 0, [], [], []), (0, 0, [], [], []), (0, 1, [(1, []), (1, [])], [], []), (0, 0, [], [], []), (0, 0, [], [], []), (0, 0, [], [], []), (2, 0, [(1, [(2, 1)])], [], []), (0, 0, [], [], []), (0, 1, [], [], [0]), (0, 0, [], [], []), (0, 0, [], [], []), (2, 0, [(1, [(3, 1)])], [], []), (0, 0, [], [], []), (0, 1, [], [], [1]), (0, 0, [], [], []), (0, 1, [], [], [0]), (0, 0, [], [], []), (0, 0, [], [], []), (0, 0, [], [], []), (0, 1, [(1, []), (1, [])], [], []), (0, 0, [], [], []), (0, 0, [], [], []), (0, 1, [], [], []), (0, 0, [(1, [(6, 1)]), (1, [(7, 1)]), (1, []), (1, [])], [], []), (0, 0, [], [], []), (0, 0, [], [], []), (0, 1, [], [], [0]), (0, 0, [], [], []), (0, 1, [(1, []), (1, [])], [], []), (0, 2, [(1, []), (1, [])], [], []), (0, 1, [(1, []), (1, [])], [], []), (0, 0, [], [], []), (0, 0, [], [], []), (0, 0, [], [], []), (5, 0, [], [], []), (2, 0, [(1, [(8, 1)])], [], [])])]
set_option maxRecDepth 100000 in
theorem m_620 (l : Launch) : q_Met l vwCl n_TL n_NW n_KT y_3_6 (Cond.code y_3_6 b_3_6 4 none :: n_GW) rm_620 ct_620 := by
  refine q_method (E := e_620) ts_620 (by decide) rfl rfl rfl ?_ (by decide +kernel)
  intro C D tys htl hl hrm hm hml ho hts hnm hE
  have h : n_ctx C b_3_6 4 "BalanceCoder$Block" D tys := ⟨htl, hm, hml, ho, fun w hw => hts w (List.mem_cons_of_mem _ hw), hE⟩
  refine ⟨⟨?_, ?_⟩, ⟨?_, ?_, ?_, ?_, ?_⟩, ⟨?_, ?_, ?_⟩, ⟨?_, ?_, ?_, ?_⟩, ?_⟩
  · intro i ins len hx; exact kd_3_6 (i, ins, len) hx
  · exact n_at hE.1
  · intro i ci f hx; exact c_fg1 h (i, ci, f) hx
  · intro i ci f hx; exact c_fp1 h (i, ci, f) hx
  · exact n_hap h
  · intro i ci n hx; exact c_cn1 h (i, ci, n) hx
  · exact n_hag htl
  · exact c_n11 h
  · exact c_n21 h
  · intro t ci hx; exact c_at1 h (t, ci) hx
  · intro i n hx; exact c_kI1 h (i, n) hx
  · intro i n hx; exact c_kL1 h (i, n) hx
  · exact c_ob1 h ⟨by rw [hrm]; decide, by rw [hrm]; decide⟩
  · exact c_cp1 h ⟨by rw [hrm]; decide, by rw [hrm]; decide +kernel⟩
  · intro ins ct hx; cases hx
def ct_621 : qCt := ((5, [], [(2, 40, [(1, 1)]), (1, 0, []), (0, 0, [(0, 3)])], [([(1, 1)], 40, 7, (0, 0, [])), ([(1, 1)], 40, 0, (2, 38, [(2, 1)])), ([(2, 1)], 38, 3, (2, 22, [(3, 1)])), ([(3, 1)], 22, 4, (0, 0, [])), ([(3, 1)], 22, 2, (0, 0, [])), ([(3, 1)], 22, 1, (0, 0, [])), ([(3, 1)], 22, 0, (2, 5, [(4, 1)]))]), (5, [], [(0, 0, [(0, 3)])], [([(3, 1)], 22, 4, (0, 0, [])), ([(3, 1)], 22, 2, (0, 0, [])), ([(3, 1)], 22, 1, (0, 0, [(0, 3)])), ([(3, 1)], 22, 0, (2, 5, [(4, 1)])), ([(1, 1)], 40, 7, (0, 0, [])), ([(1, 1)], 40, 0, (2, 38, [(2, 1)])), ([(2, 1)], 38, 3, (2, 22, [(3, 1)]))], []), [], [(5, 0), (22, 1), (22, 2), (22, 4)], 0, 0)
def rm_621 : Room := { frames := 2, cells := 0, slots := 0, locals := 49 }
def e_621 : qEn := (k_1_17, (t_fg10, t_fp10, t_cn10), (t_na10, t_at10), (t_kI10, t_kL10, t_ob10, t_cp10), [(.invokestatic 64, ct_36), (.invokevirtual 189, ct_610), (.invokestatic 64, ct_31), (.invokevirtual 189, ct_616), (.invokestatic 64, ct_26), (.invokevirtual 189, ct_620), (.invokevirtual 186, ct_611)], (q_k (-1), [], []))
def ts_621 : List (qTm × qCert × List qHx) := [((0, (5, [], [(0, (2, 40, [(1, 1)])), (1, (1, 0, [])), (3, (0, 0, [(0, 3)]))], [], [([(1, 1)], 40, 7, (0, 0, [])), ([(1, 1)], 40, 0, (2, 38, [(2, 1)])), ([(2, 1)], 38, 3, (2, 22, [(3, 1)])), ([(3, 1)], 22, 4, (0, 0, [])), ([(3, 1)], 22, 2, (0, 0, [])), ([(3, 1)], 22, 1, (0, 0, [])), ([(3, 1)], 22, 0, (2, 5, [(4, 1)]))], 0, 0), []), (1, []), [(0, 0, [], [], []), (0, 1, [], [], [1]), (0, 1, [], [], [2]), (0, 0, [], [], []), (0, 0, [], [], []), (0, 0, [], [], []), (0, 0, [], [], []), (2, 0, [(1, [(0, 1)])], [], []), (0, 0, [], [], []), (0, 1, [(1, [])], [], []), (2, 0, [(1, [(2, 1)])], [], []), (0, 0, [], [], []), (0, 0, [], [], []), (0, 0, [], [], []), (2, 0, [(1, [(2, 1)])], [], []), (0, 0, [], [], []), (0, 0, [], [], []), (0, 1, [], [], [5]), (0, 1, [(1, [])], [], []), (0, 0, [], [], []), (0, 0, [], [], []), (0, 0, [], [], []), (0, 0, [], [], []), (0, 1, [], [], [5]), (0, 1, [(1, []), (1, [])], [], []), (0, 0, [], [], []), (0, 0, [], [], []), (0, 0, [], [], []), (0, 0, [], [], []), (0, 0, [], [], []), (0, 1, [(1, []), (1, [])], [], []), (0, 0, [], [], []), (0, 0, [], [], []), (0, 0, [], [], []), (2, 0, [(1, [(6, 1)])], [], []), (0, 0, [], [], []), (0, 0, [], [], []), (0, 0, [], [], []), (0, 0, [], [], [0]), (0, 0, [], [], []), (0, 0, [(1, [(7, 1)]), (1, [(8, 1)])], [[(3, 1)], [(5, 1)], [(4, 1)]], [1]), (0, 1, [(1, []), (1, [])], [], []), (0, 0, [], [], []), (0, 0, [], [], []), (0, 0, [], [], []), (2, 0, [(1, [(9, 1)])], [], []), (0, 0, [], [], []), (0, 0, [], [], []), (0, 0, [], [], []), (0, 0, [], [], [2]), (0, 0, [], [], []), (0, 0, [(1, [(10, 1)]), (1, [(11, 1)])], [[(3, 1)], [(6, 1)], [(4, 1)]], [3]), (0, 1, [(1, []), (1, [])], [], []), (0, 0, [], [], []), (0, 0, [], [], []), (0, 0, [], [], []), (2, 0, [(1, [(12, 1)])], [], []), (0, 0, [], [], []), (0, 0, [], [], []), (0, 0, [], [], []), (0, 0, [], [], [4]), (0, 0, [], [], []), (0, 0, [(1, [(13, 1)]), (1, [(14, 1)])], [[(3, 1)], [(7, 1)], [(4, 1)]], [5]), (0, 1, [(1, []), (1, [])], [], []), (0, 0, [], [], []), (0, 0, [], [], []), (0, 0, [], [], []), (0, 0, [], [], []), (0, 0, [], [[(3, 1)]], [6]), (0, 0, [], [], []), (0, 1, [], [], [2]), (5, 0, [], [], []), (2, 0, [(1, [(15, 1)])], [], []), (2, 0, [(1, [(5, 1)])], [], []), (2, 0, [(1, [(4, 1)])], [], []), (2, 0, [(1, [(3, 1)])], [], [])])]
set_option maxRecDepth 100000 in
theorem m_621 (l : Launch) : q_Met l vwCl n_TL n_NW n_KT y_1_17 (Cond.code y_1_17 b_1_17 6 (some .int) :: n_GW) rm_621 ct_621 := by
  refine q_method (E := e_621) ts_621 (by decide) rfl rfl rfl ?_ (by decide +kernel)
  intro C D tys htl hl hrm hm hml ho hts hnm hE
  have h : n_ctx C b_1_17 6 "BalanceCoder" D tys := ⟨htl, hm, hml, ho, fun w hw => hts w (List.mem_cons_of_mem _ hw), hE⟩
  refine ⟨⟨?_, ?_⟩, ⟨?_, ?_, ?_, ?_, ?_⟩, ⟨?_, ?_, ?_⟩, ⟨?_, ?_, ?_, ?_⟩, ?_⟩
  · intro i ins len hx; exact kd_1_17 (i, ins, len) hx
  · exact n_at hE.1
  · intro i ci f hx; exact c_fg10 h (i, ci, f) hx
  · intro i ci f hx; exact c_fp10 h (i, ci, f) hx
  · exact n_hap h
  · intro i ci n hx; exact c_cn10 h (i, ci, n) hx
  · exact n_hag htl
  · exact c_n110 h
  · exact c_n210 h
  · intro t ci hx; exact c_at10 h (t, ci) hx
  · intro i n hx; exact c_kI10 h (i, n) hx
  · intro i n hx; exact c_kL10 h (i, n) hx
  · exact c_ob10 h ⟨by rw [hrm]; decide, by rw [hrm]; decide⟩
  · exact c_cp10 h
  · intro ins ct hx
    have g0 : q_Call C b_1_17 D tys n_KT 6 (.invokestatic 64) ct_36 := q_callS n_NWk h.2.2.2.2.2 h.1 (m_36 C.2.1) ⟨h.2.1.1, h.2.1.2, h.2.2.1, h.2.2.2.1, h.2.2.2.2.1⟩ ⟨n_CB (y := y_1_33) (bytes := b_1_33) 2 h.2.2.2.2.1 n_w312 n_w310 n_w1 ⟨by decide, by decide, by decide +kernel⟩ rfl rfl ⟨by rw [hrm]; decide, by rw [hrm]; decide⟩, h.2.2.2.2.1 _ n_w311⟩ rfl
    have g1 : q_Call C b_1_17 D tys n_KT 6 (.invokevirtual 189) ct_610 := q_callV n_NWk h.2.2.2.2.2 h.1 (m_610 C.2.1) ⟨h.2.1.1, h.2.1.2, h.2.2.1, h.2.2.2.1, h.2.2.2.2.1⟩ ⟨n_CB (y := y_3_6) (bytes := b_3_6) 2 h.2.2.2.2.1 n_w568 n_w676 n_w3 ⟨by decide, by decide, by decide +kernel⟩ rfl rfl ⟨by rw [hrm]; decide, by rw [hrm]; decide⟩, h.2.2.2.2.1 _ n_w566, h.2.2.2.2.1 _ n_w567⟩ (Cn := RX1) ⟨22, 1, _, _, _, _, TX1, 5, rfl, rfl, rfl⟩ rfl
    have g2 : q_Call C b_1_17 D tys n_KT 6 (.invokestatic 64) ct_31 := q_callS n_NWk h.2.2.2.2.2 h.1 (m_31 C.2.1) ⟨h.2.1.1, h.2.1.2, h.2.2.1, h.2.2.2.1, h.2.2.2.2.1⟩ ⟨n_CB (y := y_1_33) (bytes := b_1_33) 2 h.2.2.2.2.1 n_w312 n_w310 n_w1 ⟨by decide, by decide, by decide +kernel⟩ rfl rfl ⟨by rw [hrm]; decide, by rw [hrm]; decide⟩, h.2.2.2.2.1 _ n_w311⟩ rfl
    have g3 : q_Call C b_1_17 D tys n_KT 6 (.invokevirtual 189) ct_616 := q_callV n_NWk h.2.2.2.2.2 h.1 (m_616 C.2.1) ⟨h.2.1.1, h.2.1.2, h.2.2.1, h.2.2.2.1, h.2.2.2.2.1⟩ ⟨n_CB (y := y_3_6) (bytes := b_3_6) 2 h.2.2.2.2.1 n_w568 n_w676 n_w3 ⟨by decide, by decide, by decide +kernel⟩ rfl rfl ⟨by rw [hrm]; decide, by rw [hrm]; decide⟩, h.2.2.2.2.1 _ n_w566, h.2.2.2.2.1 _ n_w567⟩ (Cn := RX1) ⟨22, 1, _, _, _, _, TX1, 5, rfl, rfl, rfl⟩ rfl
    have g4 : q_Call C b_1_17 D tys n_KT 6 (.invokestatic 64) ct_26 := q_callS n_NWk h.2.2.2.2.2 h.1 (m_26 C.2.1) ⟨h.2.1.1, h.2.1.2, h.2.2.1, h.2.2.2.1, h.2.2.2.2.1⟩ ⟨n_CB (y := y_1_33) (bytes := b_1_33) 2 h.2.2.2.2.1 n_w312 n_w310 n_w1 ⟨by decide, by decide, by decide +kernel⟩ rfl rfl ⟨by rw [hrm]; decide, by rw [hrm]; decide⟩, h.2.2.2.2.1 _ n_w311⟩ rfl
    have g5 : q_Call C b_1_17 D tys n_KT 6 (.invokevirtual 189) ct_620 := q_callV n_NWk h.2.2.2.2.2 h.1 (m_620 C.2.1) ⟨h.2.1.1, h.2.1.2, h.2.2.1, h.2.2.2.1, h.2.2.2.2.1⟩ ⟨n_CB (y := y_3_6) (bytes := b_3_6) 2 h.2.2.2.2.1 n_w568 n_w676 n_w3 ⟨by decide, by decide, by decide +kernel⟩ rfl rfl ⟨by rw [hrm]; decide, by rw [hrm]; decide⟩, h.2.2.2.2.1 _ n_w566, h.2.2.2.2.1 _ n_w567⟩ (Cn := RX1) ⟨22, 1, _, _, _, _, TX1, 5, rfl, rfl, rfl⟩ rfl
    have g6 : q_Call C b_1_17 D tys n_KT 6 (.invokevirtual 186) ct_611 := q_callV n_NWk h.2.2.2.2.2 h.1 (m_611 C.2.1) ⟨h.2.1.1, h.2.1.2, h.2.2.1, h.2.2.2.1, h.2.2.2.2.1⟩ ⟨n_CB (y := y_3_4) (bytes := b_3_4) 0 h.2.2.2.2.1 n_w671 n_w668 n_w3 ⟨by decide, by decide, by decide +kernel⟩ rfl rfl ⟨by rw [hrm]; decide, by rw [hrm]; decide⟩, h.2.2.2.2.1 _ n_w669, h.2.2.2.2.1 _ n_w670⟩ (Cn := RX1) ⟨22, 1, _, _, _, _, TX1, 5, rfl, rfl, rfl⟩ rfl
    have all : ∀ x ∈ [((.invokestatic 64 : Instr), ct_36), ((.invokevirtual 189 : Instr), ct_610), ((.invokestatic 64 : Instr), ct_31), ((.invokevirtual 189 : Instr), ct_616), ((.invokestatic 64 : Instr), ct_26), ((.invokevirtual 189 : Instr), ct_620), ((.invokevirtual 186 : Instr), ct_611)], q_Call C b_1_17 D tys n_KT 6 x.1 x.2 := (n_mem2 (g0) (n_mem2 (g1) (n_mem2 (g2) (n_mem2 (g3) (n_mem2 (g4) (n_mem2 (g5) (n_mem2 (g6) n_mem0)))))))
    exact all (ins, ct) hx
def ct_622 : qCt := ((1, [], [(5, 0, [(0, 3)]), (5, 0, [(0, (-400))]), (5, 0, [(0, 8)])], []), (1, [], [(0, 0, [(0, 1)])], [], []), [], [], 0, 0)
def rm_622 : Room := { frames := 1, cells := 0, slots := 0, locals := 26 }
def e_622 : qEn := (k_13_3, (t_fg12, t_fp12, t_cn12), (t_na12, t_at12), (t_kI12, t_kL12, t_ob12, t_cp12), [], (q_k (-1), [], []))
def ts_622 : List (qTm × qCert × List qHx) := [((0, (1, [], [(0, (5, 0, [(0, 3)])), (2, (5, 0, [(0, (-400))])), (4, (5, 0, [(0, 8)]))], [], [], 0, 0), []), (1, []), [(0, 0, [], [], []), (0, 0, [], [], []), (0, 1, [(1, [])], [], []), (0, 0, [], [], []), (2, 0, [(1, [(0, 1)])], [], []), (0, 0, [], [], []), (0, 0, [], [], []), (0, 3, [(1, [])], [], []), (0, 0, [], [], []), (2, 0, [(1, [(1, 1)])], [], []), (0, 0, [], [], []), (0, 0, [], [], []), (5, 0, [(1, []), (1, [])], [], [])])]
set_option maxRecDepth 100000 in
theorem m_622 (l : Launch) : q_Met l vwCl n_TL n_NW n_KT y_13_3 (Cond.code y_13_3 b_13_3 6 (some .boolean) :: n_GW) rm_622 ct_622 := by
  refine q_method (E := e_622) ts_622 (by decide) rfl rfl rfl ?_ (by decide +kernel)
  intro C D tys htl hl hrm hm hml ho hts hnm hE
  have h : n_ctx C b_13_3 6 "BalanceCoderModel" D tys := ⟨htl, hm, hml, ho, fun w hw => hts w (List.mem_cons_of_mem _ hw), hE⟩
  refine ⟨⟨?_, ?_⟩, ⟨?_, ?_, ?_, ?_, ?_⟩, ⟨?_, ?_, ?_⟩, ⟨?_, ?_, ?_, ?_⟩, ?_⟩
  · intro i ins len hx; exact kd_13_3 (i, ins, len) hx
  · exact n_at hE.1
  · intro i ci f hx; exact c_fg12 h (i, ci, f) hx
  · intro i ci f hx; exact c_fp12 h (i, ci, f) hx
  · exact n_hap h
  · intro i ci n hx; exact c_cn12 h (i, ci, n) hx
  · exact n_hag htl
  · exact c_n112 h
  · exact c_n212 h
  · intro t ci hx; exact c_at12 h (t, ci) hx
  · intro i n hx; exact c_kI12 h (i, n) hx
  · intro i n hx; exact c_kL12 h (i, n) hx
  · exact c_ob12 h ⟨by rw [hrm]; decide, by rw [hrm]; decide⟩
  · exact c_cp12 h
  · intro ins ct hx; cases hx
def ct_623 : qCt := ((4, [], [(2, 44, [(1, 1)]), (1, 0, []), (0, 0, [(0, 3)])], [([(1, 1)], 44, 0, (2, 42, [(2, 1)])), ([(2, 1)], 42, 8, (2, 5, [(3, 1)])), ([(2, 1)], 42, 7, (0, 0, [])), ([(2, 1)], 42, 9, (0, 0, [])), ([(2, 1)], 42, 10, (0, 0, [])), ([(1, 1)], 44, 3, (0, 0, []))]), (4, [], [(0, 0, [(0, 3)])], [([(2, 1)], 42, 10, (0, 0, [])), ([(2, 1)], 42, 9, (0, 0, [])), ([(1, 1)], 44, 0, (2, 42, [(2, 1)])), ([(2, 1)], 42, 7, (0, 0, [(0, 3)])), ([(2, 1)], 42, 8, (2, 5, [(3, 1)])), ([(1, 1)], 44, 3, (0, 0, []))], []), [], [(5, 0), (42, 7), (42, 9), (42, 10)], 0, 0)
def rm_623 : Room := { frames := 2, cells := 0, slots := 0, locals := 51 }
def e_623 : qEn := (k_13_45, (t_fg12, t_fp12, t_cn12), (t_na12, t_at12), (t_kI12, t_kL12, t_ob12, t_cp12), [(.invokestatic 69, ct_622), (.invokevirtual 254, ct_614)], (q_k (-1), [], []))
def ts_623 : List (qTm × qCert × List qHx) := [((0, (4, [], [(0, (2, 44, [(1, 1)])), (1, (1, 0, [])), (3, (0, 0, [(0, 3)]))], [], [([(1, 1)], 44, 0, (2, 42, [(2, 1)])), ([(2, 1)], 42, 8, (2, 5, [(3, 1)])), ([(2, 1)], 42, 7, (0, 0, [])), ([(2, 1)], 42, 9, (0, 0, [])), ([(2, 1)], 42, 10, (0, 0, [])), ([(1, 1)], 44, 3, (0, 0, []))], 0, 0), []), (1, []), [(0, 0, [], [], []), (0, 0, [], [], []), (0, 0, [], [], []), (0, 0, [], [], []), (0, 0, [], [], [0]), (0, 1, [(1, [])], [], []), (2, 0, [(1, [(1, 1)])], [], []), (0, 0, [], [], []), (0, 1, [(1, [])], [], []), (2, 0, [(1, [(2, 1)])], [], []), (0, 0, [], [], []), (0, 0, [], [], []), (0, 0, [], [], []), (0, 1, [], [], [0]), (0, 1, [], [], [2]), (0, 0, [], [], []), (0, 1, [(1, []), (1, [])], [], []), (0, 0, [], [], []), (0, 0, [], [], []), (0, 0, [], [], []), (0, 0, [], [], []), (0, 1, [(1, []), (1, [])], [], []), (0, 0, [], [], []), (0, 0, [], [], []), (0, 0, [], [], []), (2, 0, [(1, [(4, 1)])], [], []), (0, 0, [], [], []), (0, 1, [], [], [0]), (0, 1, [], [], [1]), (0, 0, [], [], []), (0, 1, [], [], [0]), (0, 1, [], [], [2]), (0, 0, [], [], []), (0, 1, [(1, []), (1, [])], [], []), (0, 0, [], [], []), (0, 1, [(1, []), (1, [])], [], []), (0, 0, [], [], []), (0, 1, [(1, []), (1, [])], [], []), (0, 0, [], [], []), (0, 0, [], [], []), (0, 0, [], [], []), (0, 1, [(1, []), (1, [])], [], []), (0, 0, [], [], []), (0, 0, [], [], []), (0, 0, [], [], []), (0, 0, [], [], []), (0, 0, [(1, [(5, 1)]), (1, [(6, 1)]), (1, []), (1, [])], [], []), (0, 1, [(1, []), (1, [])], [], []), (0, 0, [], [], []), (0, 0, [], [], []), (0, 0, [], [], []), (2, 0, [(1, [(7, 1)])], [], []), (0, 0, [], [], []), (0, 1, [], [], [0]), (0, 1, [], [], [1]), (0, 0, [], [], []), (0, 1, [], [], [0]), (0, 1, [], [], [2]), (0, 0, [], [], []), (0, 1, [(1, []), (1, [])], [], []), (0, 0, [], [], []), (0, 1, [(1, []), (1, [])], [], []), (0, 0, [], [], []), (0, 1, [(1, []), (1, [])], [], []), (0, 0, [], [], []), (0, 0, [], [], []), (0, 0, [], [], []), (0, 1, [(1, []), (1, [])], [], []), (0, 0, [], [], []), (0, 0, [], [], []), (0, 0, [], [], []), (0, 0, [], [], []), (0, 0, [(1, [(8, 1)]), (1, [(9, 1)]), (1, []), (1, [])], [], []), (0, 1, [(1, []), (1, [])], [], []), (0, 0, [], [], []), (0, 0, [], [], []), (0, 0, [], [], []), (2, 0, [(1, [(10, 1)])], [], []), (0, 0, [], [], []), (0, 1, [], [], [0]), (0, 1, [], [], [1]), (0, 0, [], [], []), (0, 1, [], [], [0]), (0, 1, [], [], [2]), (0, 0, [], [], []), (0, 1, [(1, []), (1, [])], [], []), (0, 0, [], [], []), (0, 1, [(1, []), (1, [])], [], []), (0, 0, [], [], []), (0, 1, [(1, []), (1, [])], [], []), (0, 0, [], [], []), (0, 0, [], [], []), (0, 0, [], [], []), (0, 1, [(1, []), (1, [])], [], []), (0, 0, [], [], []), (0, 0, [], [], []), (0, 0, [], [], []), (0, 0, [], [], []), (0, 0, [(1, [(11, 1)]), (1, [(12, 1)]), (1, []), (1, [])], [], []), (0, 1, [(1, []), (1, [])], [], []), (0, 0, [], [], []), (0, 0, [], [], []), (0, 0, [], [], []), (0, 0, [], [], []), (0, 1, [], [], [0]), (0, 0, [], [], []), (0, 1, [], [], [2]), (0, 0, [], [], []), (0, 1, [(1, []), (1, [])], [], []), (0, 2, [(1, []), (1, [])], [], []), (0, 0, [], [], []), (0, 0, [], [[(1, 1)], [(2, 1)]], [1]), (0, 0, [], [], []), (0, 1, [], [], [2]), (0, 1, [], [], [3]), (5, 0, [], [], []), (2, 0, [(1, [(13, 1)])], [], []), (2, 0, [(1, [(3, 1)])], [], []), (2, 0, [(1, [(2, 1)])], [], [])])]
set_option maxRecDepth 100000 in
theorem m_623 (l : Launch) : q_Met l vwCl n_TL n_NW n_KT y_13_45 (Cond.code y_13_45 b_13_45 5 (some .int) :: n_GW) rm_623 ct_623 := by
  refine q_method (E := e_623) ts_623 (by decide) rfl rfl rfl ?_ (by decide +kernel)
  intro C D tys htl hl hrm hm hml ho hts hnm hE
  have h : n_ctx C b_13_45 5 "BalanceCoderModel" D tys := ⟨htl, hm, hml, ho, fun w hw => hts w (List.mem_cons_of_mem _ hw), hE⟩
  refine ⟨⟨?_, ?_⟩, ⟨?_, ?_, ?_, ?_, ?_⟩, ⟨?_, ?_, ?_⟩, ⟨?_, ?_, ?_, ?_⟩, ?_⟩
  · intro i ins len hx; exact kd_13_45 (i, ins, len) hx
  · exact n_at hE.1
  · intro i ci f hx; exact c_fg12 h (i, ci, f) hx
  · intro i ci f hx; exact c_fp12 h (i, ci, f) hx
  · exact n_hap h
  · intro i ci n hx; exact c_cn12 h (i, ci, n) hx
  · exact n_hag htl
  · exact c_n112 h
  · exact c_n212 h
  · intro t ci hx; exact c_at12 h (t, ci) hx
  · intro i n hx; exact c_kI12 h (i, n) hx
  · intro i n hx; exact c_kL12 h (i, n) hx
  · exact c_ob12 h ⟨by rw [hrm]; decide, by rw [hrm]; decide⟩
  · exact c_cp12 h
  · intro ins ct hx
    have g0 : q_Call C b_13_45 D tys n_KT 5 (.invokestatic 69) ct_622 := q_callS n_NWk h.2.2.2.2.2 h.1 (m_622 C.2.1) ⟨h.2.1.1, h.2.1.2, h.2.2.1, h.2.2.2.1, h.2.2.2.2.1⟩ ⟨n_CB (y := y_13_3) (bytes := b_13_3) 3 h.2.2.2.2.1 n_w923 n_w921 n_w12 ⟨by decide, by decide, by decide +kernel⟩ rfl rfl ⟨by rw [hrm]; decide, by rw [hrm]; decide⟩, h.2.2.2.2.1 _ n_w922⟩ rfl
    have g1 : q_Call C b_13_45 D tys n_KT 5 (.invokevirtual 254) ct_614 := q_callV n_NWk h.2.2.2.2.2 h.1 (m_614 C.2.1) ⟨h.2.1.1, h.2.1.2, h.2.2.1, h.2.2.2.1, h.2.2.2.2.1⟩ ⟨n_CB (y := y_13_43) (bytes := b_13_43) 0 h.2.2.2.2.1 n_w1091 n_w1088 n_w12 ⟨by decide, by decide, by decide +kernel⟩ rfl rfl ⟨by rw [hrm]; decide, by rw [hrm]; decide⟩, h.2.2.2.2.1 _ n_w1090, h.2.2.2.2.1 _ n_s49⟩ (Cn := RX12) ⟨44, 12, _, _, _, _, TX12, 31, rfl, rfl, rfl⟩ rfl
    have all : ∀ x ∈ [((.invokestatic 69 : Instr), ct_622), ((.invokevirtual 254 : Instr), ct_614)], q_Call C b_13_45 D tys n_KT 5 x.1 x.2 := (n_mem2 (g0) (n_mem2 (g1) n_mem0))
    exact all (ins, ct) hx
def ct_624 : qCt := ((4, [[(2, 1)], [(0, 255), (2, (-1))]], [(2, 22, [(1, 1)]), (0, 0, [(2, 1)]), (0, 0, [(0, 1)])], [([(1, 1)], 22, 1, (0, 0, [(0, 3)])), ([(1, 1)], 22, 0, (2, 5, [(3, 1)]))]), (4, [], [], [([(1, 1)], 22, 1, (0, 0, [(0, 4)])), ([(1, 1)], 22, 0, (2, 5, [(3, 1)]))], []), [], [(5, 0), (22, 1)], 0, 0)
def rm_624 : Room := { frames := 1, cells := 0, slots := 0, locals := 26 }
def e_624 : qEn := (k_3_6, (t_fg1, t_fp1, t_cn1), (t_na1, t_at1), (t_kI1, t_kL1, t_ob1, t_cp1), [], (q_k (-1), [], []))
def ts_624 : List (qTm × qCert × List qHx) := [((0, (4, [[(2, 1)], [(0, 255), (2, (-1))]], [(0, (2, 22, [(1, 1)])), (1, (0, 0, [(2, 1)])), (2, (0, 0, [(0, 1)]))], [], [([(1, 1)], 22, 1, (0, 0, [(0, 3)])), ([(1, 1)], 22, 0, (2, 5, [(3, 1)]))], 0, 0), []), (1, []), [(0, 0, [], [], []), (0, 0, [], [], []), (0, 1, [(1, []), (1, [])], [], []), (0, 0, [], [], []), (0, 0, [], [], []), (0, 0, [], [], []), (2, 0, [(1, [(2, 1)])], [], []), (0, 0, [], [], []), (0, 1, [], [], [0]), (0, 0, [], [], []), (0, 0, [], [], []), (2, 0, [(1, [(3, 1)])], [], []), (0, 0, [], [], []), (0, 1, [], [], [1]), (0, 0, [], [], []), (0, 1, [], [], [0]), (0, 0, [], [], []), (0, 0, [], [], []), (0, 0, [], [], []), (0, 1, [(1, []), (1, [])], [], []), (0, 0, [], [], []), (0, 0, [], [], []), (0, 1, [], [], []), (0, 0, [(1, [(6, 1)]), (1, [(7, 1)]), (1, []), (1, [])], [], []), (0, 0, [], [], []), (0, 0, [], [], []), (0, 1, [], [], [0]), (0, 0, [], [], []), (0, 1, [(1, []), (1, [])], [], []), (0, 2, [(1, []), (1, [])], [], []), (0, 1, [(1, []), (1, [])], [], []), (0, 0, [], [], []), (0, 0, [], [], []), (0, 0, [], [], []), (5, 0, [], [], []), (2, 0, [(1, [(8, 1)])], [], [])])]
set_option maxRecDepth 100000 in
theorem m_624 (l : Launch) : q_Met l vwCl n_TL n_NW n_KT y_3_6 (Cond.code y_3_6 b_3_6 4 none :: n_GW) rm_624 ct_624 := by
  refine q_method (E := e_624) ts_624 (by decide) rfl rfl rfl ?_ (by decide +kernel)
  intro C D tys htl hl hrm hm hml ho hts hnm hE
  have h : n_ctx C b_3_6 4 "BalanceCoder$Block" D tys := ⟨htl, hm, hml, ho, fun w hw => hts w (List.mem_cons_of_mem _ hw), hE⟩
  refine ⟨⟨?_, ?_⟩, ⟨?_, ?_, ?_, ?_, ?_⟩, ⟨?_, ?_, ?_⟩, ⟨?_, ?_, ?_, ?_⟩, ?_⟩
  · intro i ins len hx; exact kd_3_6 (i, ins, len) hx
  · exact n_at hE.1
  · intro i ci f hx; exact c_fg1 h (i, ci, f) hx
  · intro i ci f hx; exact c_fp1 h (i, ci, f) hx
  · exact n_hap h
  · intro i ci n hx; exact c_cn1 h (i, ci, n) hx
  · exact n_hag htl
  · exact c_n11 h
  · exact c_n21 h
  · intro t ci hx; exact c_at1 h (t, ci) hx
  · intro i n hx; exact c_kI1 h (i, n) hx
  · intro i n hx; exact c_kL1 h (i, n) hx
  · exact c_ob1 h ⟨by rw [hrm]; decide, by rw [hrm]; decide⟩
  · exact c_cp1 h ⟨by rw [hrm]; decide, by rw [hrm]; decide +kernel⟩
  · intro ins ct hx; cases hx
def ct_625 : qCt := ((5, [], [(2, 40, [(1, 1)]), (1, 0, []), (0, 0, [(0, 4)])], [([(1, 1)], 40, 7, (0, 0, [])), ([(1, 1)], 40, 0, (2, 38, [(2, 1)])), ([(2, 1)], 38, 3, (2, 22, [(3, 1)])), ([(3, 1)], 22, 4, (0, 0, [])), ([(3, 1)], 22, 2, (0, 0, [])), ([(3, 1)], 22, 1, (0, 0, [])), ([(3, 1)], 22, 0, (2, 5, [(4, 1)]))]), (5, [], [(0, 0, [(0, 4)])], [([(3, 1)], 22, 4, (0, 0, [])), ([(3, 1)], 22, 2, (0, 0, [])), ([(3, 1)], 22, 1, (0, 0, [(0, 4)])), ([(3, 1)], 22, 0, (2, 5, [(4, 1)])), ([(1, 1)], 40, 7, (0, 0, [])), ([(1, 1)], 40, 0, (2, 38, [(2, 1)])), ([(2, 1)], 38, 3, (2, 22, [(3, 1)]))], []), [], [(5, 0), (22, 1), (22, 2), (22, 4)], 0, 0)
def rm_625 : Room := { frames := 2, cells := 0, slots := 0, locals := 49 }
def e_625 : qEn := (k_1_17, (t_fg10, t_fp10, t_cn10), (t_na10, t_at10), (t_kI10, t_kL10, t_ob10, t_cp10), [(.invokestatic 64, ct_41), (.invokevirtual 189, ct_610), (.invokestatic 64, ct_36), (.invokevirtual 189, ct_616), (.invokestatic 64, ct_31), (.invokevirtual 189, ct_620), (.invokestatic 64, ct_26), (.invokevirtual 189, ct_624), (.invokevirtual 186, ct_611)], (q_k (-1), [], []))
def ts_625 : List (qTm × qCert × List qHx) := [((0, (5, [], [(0, (2, 40, [(1, 1)])), (1, (1, 0, [])), (3, (0, 0, [(0, 4)]))], [], [([(1, 1)], 40, 7, (0, 0, [])), ([(1, 1)], 40, 0, (2, 38, [(2, 1)])), ([(2, 1)], 38, 3, (2, 22, [(3, 1)])), ([(3, 1)], 22, 4, (0, 0, [])), ([(3, 1)], 22, 2, (0, 0, [])), ([(3, 1)], 22, 1, (0, 0, [])), ([(3, 1)], 22, 0, (2, 5, [(4, 1)]))], 0, 0), []), (1, []), [(0, 0, [], [], []), (0, 1, [], [], [1]), (0, 1, [], [], [2]), (0, 0, [], [], []), (0, 0, [], [], []), (0, 0, [], [], []), (0, 0, [], [], []), (2, 0, [(1, [(0, 1)])], [], []), (0, 0, [], [], []), (0, 1, [(1, [])], [], []), (2, 0, [(1, [(2, 1)])], [], []), (0, 0, [], [], []), (0, 0, [], [], []), (0, 0, [], [], []), (2, 0, [(1, [(2, 1)])], [], []), (0, 0, [], [], []), (0, 0, [], [], []), (0, 1, [], [], [5]), (0, 1, [(1, [])], [], []), (0, 0, [], [], []), (0, 0, [], [], []), (0, 0, [], [], []), (0, 0, [], [], []), (0, 1, [], [], [5]), (0, 1, [(1, []), (1, [])], [], []), (0, 0, [], [], []), (0, 0, [], [], []), (0, 0, [], [], []), (0, 0, [], [], []), (0, 0, [], [], []), (0, 1, [(1, []), (1, [])], [], []), (0, 0, [], [], []), (0, 0, [], [], []), (0, 0, [], [], []), (2, 0, [(1, [(6, 1)])], [], []), (0, 0, [], [], []), (0, 0, [], [], []), (0, 0, [], [], []), (0, 0, [], [], [0]), (0, 0, [], [], []), (0, 0, [(1, [(7, 1)]), (1, [(8, 1)])], [[(3, 1)], [(5, 1)], [(4, 1)]], [1]), (0, 1, [(1, []), (1, [])], [], []), (0, 0, [], [], []), (0, 0, [], [], []), (0, 0, [], [], []), (2, 0, [(1, [(9, 1)])], [], []), (0, 0, [], [], []), (0, 0, [], [], []), (0, 0, [], [], []), (0, 0, [], [], [2]), (0, 0, [], [], []), (0, 0, [(1, [(10, 1)]), (1, [(11, 1)])], [[(3, 1)], [(6, 1)], [(4, 1)]], [3]), (0, 1, [(1, []), (1, [])], [], []), (0, 0, [], [], []), (0, 0, [], [], []), (0, 0, [], [], []), (2, 0, [(1, [(12, 1)])], [], []), (0, 0, [], [], []), (0, 0, [], [], []), (0, 0, [], [], []), (0, 0, [], [], [4]), (0, 0, [], [], []), (0, 0, [(1, [(13, 1)]), (1, [(14, 1)])], [[(3, 1)], [(7, 1)], [(4, 1)]], [5]), (0, 1, [(1, []), (1, [])], [], []), (0, 0, [], [], []), (0, 0, [], [], []), (0, 0, [], [], []), (2, 0, [(1, [(15, 1)])], [], []), (0, 0, [], [], []), (0, 0, [], [], []), (0, 0, [], [], []), (0, 0, [], [], [6]), (0, 0, [], [], []), (0, 0, [(1, [(16, 1)]), (1, [(17, 1)])], [[(3, 1)], [(8, 1)], [(4, 1)]], [7]), (0, 1, [(1, []), (1, [])], [], []), (0, 0, [], [], []), (0, 0, [], [], []), (0, 0, [], [], []), (0, 0, [], [], []), (0, 0, [], [[(3, 1)]], [8]), (0, 0, [], [], []), (0, 1, [], [], [2]), (5, 0, [], [], []), (2, 0, [(1, [(18, 1)])], [], []), (2, 0, [(1, [(5, 1)])], [], []), (2, 0, [(1, [(4, 1)])], [], []), (2, 0, [(1, [(3, 1)])], [], [])])]
set_option maxRecDepth 100000 in
theorem m_625 (l : Launch) : q_Met l vwCl n_TL n_NW n_KT y_1_17 (Cond.code y_1_17 b_1_17 6 (some .int) :: n_GW) rm_625 ct_625 := by
  refine q_method (E := e_625) ts_625 (by decide) rfl rfl rfl ?_ (by decide +kernel)
  intro C D tys htl hl hrm hm hml ho hts hnm hE
  have h : n_ctx C b_1_17 6 "BalanceCoder" D tys := ⟨htl, hm, hml, ho, fun w hw => hts w (List.mem_cons_of_mem _ hw), hE⟩
  refine ⟨⟨?_, ?_⟩, ⟨?_, ?_, ?_, ?_, ?_⟩, ⟨?_, ?_, ?_⟩, ⟨?_, ?_, ?_, ?_⟩, ?_⟩
  · intro i ins len hx; exact kd_1_17 (i, ins, len) hx
  · exact n_at hE.1
  · intro i ci f hx; exact c_fg10 h (i, ci, f) hx
  · intro i ci f hx; exact c_fp10 h (i, ci, f) hx
  · exact n_hap h
  · intro i ci n hx; exact c_cn10 h (i, ci, n) hx
  · exact n_hag htl
  · exact c_n110 h
  · exact c_n210 h
  · intro t ci hx; exact c_at10 h (t, ci) hx
  · intro i n hx; exact c_kI10 h (i, n) hx
  · intro i n hx; exact c_kL10 h (i, n) hx
  · exact c_ob10 h ⟨by rw [hrm]; decide, by rw [hrm]; decide⟩
  · exact c_cp10 h
  · intro ins ct hx
    have g0 : q_Call C b_1_17 D tys n_KT 6 (.invokestatic 64) ct_41 := q_callS n_NWk h.2.2.2.2.2 h.1 (m_41 C.2.1) ⟨h.2.1.1, h.2.1.2, h.2.2.1, h.2.2.2.1, h.2.2.2.2.1⟩ ⟨n_CB (y := y_1_33) (bytes := b_1_33) 2 h.2.2.2.2.1 n_w312 n_w310 n_w1 ⟨by decide, by decide, by decide +kernel⟩ rfl rfl ⟨by rw [hrm]; decide, by rw [hrm]; decide⟩, h.2.2.2.2.1 _ n_w311⟩ rfl
    have g1 : q_Call C b_1_17 D tys n_KT 6 (.invokevirtual 189) ct_610 := q_callV n_NWk h.2.2.2.2.2 h.1 (m_610 C.2.1) ⟨h.2.1.1, h.2.1.2, h.2.2.1, h.2.2.2.1, h.2.2.2.2.1⟩ ⟨n_CB (y := y_3_6) (bytes := b_3_6) 2 h.2.2.2.2.1 n_w568 n_w676 n_w3 ⟨by decide, by decide, by decide +kernel⟩ rfl rfl ⟨by rw [hrm]; decide, by rw [hrm]; decide⟩, h.2.2.2.2.1 _ n_w566, h.2.2.2.2.1 _ n_w567⟩ (Cn := RX1) ⟨22, 1, _, _, _, _, TX1, 5, rfl, rfl, rfl⟩ rfl
    have g2 : q_Call C b_1_17 D tys n_KT 6 (.invokestatic 64) ct_36 := q_callS n_NWk h.2.2.2.2.2 h.1 (m_36 C.2.1) ⟨h.2.1.1, h.2.1.2, h.2.2.1, h.2.2.2.1, h.2.2.2.2.1⟩ ⟨n_CB (y := y_1_33) (bytes := b_1_33) 2 h.2.2.2.2.1 n_w312 n_w310 n_w1 ⟨by decide, by decide, by decide +kernel⟩ rfl rfl ⟨by rw [hrm]; decide, by rw [hrm]; decide⟩, h.2.2.2.2.1 _ n_w311⟩ rfl
    have g3 : q_Call C b_1_17 D tys n_KT 6 (.invokevirtual 189) ct_616 := q_callV n_NWk h.2.2.2.2.2 h.1 (m_616 C.2.1) ⟨h.2.1.1, h.2.1.2, h.2.2.1, h.2.2.2.1, h.2.2.2.2.1⟩ ⟨n_CB (y := y_3_6) (bytes := b_3_6) 2 h.2.2.2.2.1 n_w568 n_w676 n_w3 ⟨by decide, by decide, by decide +kernel⟩ rfl rfl ⟨by rw [hrm]; decide, by rw [hrm]; decide⟩, h.2.2.2.2.1 _ n_w566, h.2.2.2.2.1 _ n_w567⟩ (Cn := RX1) ⟨22, 1, _, _, _, _, TX1, 5, rfl, rfl, rfl⟩ rfl
    have g4 : q_Call C b_1_17 D tys n_KT 6 (.invokestatic 64) ct_31 := q_callS n_NWk h.2.2.2.2.2 h.1 (m_31 C.2.1) ⟨h.2.1.1, h.2.1.2, h.2.2.1, h.2.2.2.1, h.2.2.2.2.1⟩ ⟨n_CB (y := y_1_33) (bytes := b_1_33) 2 h.2.2.2.2.1 n_w312 n_w310 n_w1 ⟨by decide, by decide, by decide +kernel⟩ rfl rfl ⟨by rw [hrm]; decide, by rw [hrm]; decide⟩, h.2.2.2.2.1 _ n_w311⟩ rfl
    have g5 : q_Call C b_1_17 D tys n_KT 6 (.invokevirtual 189) ct_620 := q_callV n_NWk h.2.2.2.2.2 h.1 (m_620 C.2.1) ⟨h.2.1.1, h.2.1.2, h.2.2.1, h.2.2.2.1, h.2.2.2.2.1⟩ ⟨n_CB (y := y_3_6) (bytes := b_3_6) 2 h.2.2.2.2.1 n_w568 n_w676 n_w3 ⟨by decide, by decide, by decide +kernel⟩ rfl rfl ⟨by rw [hrm]; decide, by rw [hrm]; decide⟩, h.2.2.2.2.1 _ n_w566, h.2.2.2.2.1 _ n_w567⟩ (Cn := RX1) ⟨22, 1, _, _, _, _, TX1, 5, rfl, rfl, rfl⟩ rfl
    have g6 : q_Call C b_1_17 D tys n_KT 6 (.invokestatic 64) ct_26 := q_callS n_NWk h.2.2.2.2.2 h.1 (m_26 C.2.1) ⟨h.2.1.1, h.2.1.2, h.2.2.1, h.2.2.2.1, h.2.2.2.2.1⟩ ⟨n_CB (y := y_1_33) (bytes := b_1_33) 2 h.2.2.2.2.1 n_w312 n_w310 n_w1 ⟨by decide, by decide, by decide +kernel⟩ rfl rfl ⟨by rw [hrm]; decide, by rw [hrm]; decide⟩, h.2.2.2.2.1 _ n_w311⟩ rfl
    have g7 : q_Call C b_1_17 D tys n_KT 6 (.invokevirtual 189) ct_624 := q_callV n_NWk h.2.2.2.2.2 h.1 (m_624 C.2.1) ⟨h.2.1.1, h.2.1.2, h.2.2.1, h.2.2.2.1, h.2.2.2.2.1⟩ ⟨n_CB (y := y_3_6) (bytes := b_3_6) 2 h.2.2.2.2.1 n_w568 n_w676 n_w3 ⟨by decide, by decide, by decide +kernel⟩ rfl rfl ⟨by rw [hrm]; decide, by rw [hrm]; decide⟩, h.2.2.2.2.1 _ n_w566, h.2.2.2.2.1 _ n_w567⟩ (Cn := RX1) ⟨22, 1, _, _, _, _, TX1, 5, rfl, rfl, rfl⟩ rfl
    have g8 : q_Call C b_1_17 D tys n_KT 6 (.invokevirtual 186) ct_611 := q_callV n_NWk h.2.2.2.2.2 h.1 (m_611 C.2.1) ⟨h.2.1.1, h.2.1.2, h.2.2.1, h.2.2.2.1, h.2.2.2.2.1⟩ ⟨n_CB (y := y_3_4) (bytes := b_3_4) 0 h.2.2.2.2.1 n_w671 n_w668 n_w3 ⟨by decide, by decide, by decide +kernel⟩ rfl rfl ⟨by rw [hrm]; decide, by rw [hrm]; decide⟩, h.2.2.2.2.1 _ n_w669, h.2.2.2.2.1 _ n_w670⟩ (Cn := RX1) ⟨22, 1, _, _, _, _, TX1, 5, rfl, rfl, rfl⟩ rfl
    have all : ∀ x ∈ [((.invokestatic 64 : Instr), ct_41), ((.invokevirtual 189 : Instr), ct_610), ((.invokestatic 64 : Instr), ct_36), ((.invokevirtual 189 : Instr), ct_616), ((.invokestatic 64 : Instr), ct_31), ((.invokevirtual 189 : Instr), ct_620), ((.invokestatic 64 : Instr), ct_26), ((.invokevirtual 189 : Instr), ct_624), ((.invokevirtual 186 : Instr), ct_611)], q_Call C b_1_17 D tys n_KT 6 x.1 x.2 := (n_mem2 (g0) (n_mem2 (g1) (n_mem2 (g2) (n_mem2 (g3) (n_mem2 (g4) (n_mem2 (g5) (n_mem2 (g6) (n_mem2 (g7) (n_mem2 (g8) n_mem0)))))))))
    exact all (ins, ct) hx
def ct_626 : qCt := ((1, [], [(5, 0, [(0, 4)]), (5, 0, [(0, (-400))]), (5, 0, [(0, 8)])], []), (1, [], [(0, 0, [(0, 1)])], [], []), [], [], 0, 0)
def rm_626 : Room := { frames := 1, cells := 0, slots := 0, locals := 26 }
def e_626 : qEn := (k_13_3, (t_fg12, t_fp12, t_cn12), (t_na12, t_at12), (t_kI12, t_kL12, t_ob12, t_cp12), [], (q_k (-1), [], []))
def ts_626 : List (qTm × qCert × List qHx) := [((0, (1, [], [(0, (5, 0, [(0, 4)])), (2, (5, 0, [(0, (-400))])), (4, (5, 0, [(0, 8)]))], [], [], 0, 0), []), (1, []), [(0, 0, [], [], []), (0, 0, [], [], []), (0, 1, [(1, [])], [], []), (0, 0, [], [], []), (2, 0, [(1, [(0, 1)])], [], []), (0, 0, [], [], []), (0, 0, [], [], []), (0, 3, [(1, [])], [], []), (0, 0, [], [], []), (2, 0, [(1, [(1, 1)])], [], []), (0, 0, [], [], []), (0, 0, [], [], []), (5, 0, [(1, []), (1, [])], [], [])])]
set_option maxRecDepth 100000 in
theorem m_626 (l : Launch) : q_Met l vwCl n_TL n_NW n_KT y_13_3 (Cond.code y_13_3 b_13_3 6 (some .boolean) :: n_GW) rm_626 ct_626 := by
  refine q_method (E := e_626) ts_626 (by decide) rfl rfl rfl ?_ (by decide +kernel)
  intro C D tys htl hl hrm hm hml ho hts hnm hE
  have h : n_ctx C b_13_3 6 "BalanceCoderModel" D tys := ⟨htl, hm, hml, ho, fun w hw => hts w (List.mem_cons_of_mem _ hw), hE⟩
  refine ⟨⟨?_, ?_⟩, ⟨?_, ?_, ?_, ?_, ?_⟩, ⟨?_, ?_, ?_⟩, ⟨?_, ?_, ?_, ?_⟩, ?_⟩
  · intro i ins len hx; exact kd_13_3 (i, ins, len) hx
  · exact n_at hE.1
  · intro i ci f hx; exact c_fg12 h (i, ci, f) hx
  · intro i ci f hx; exact c_fp12 h (i, ci, f) hx
  · exact n_hap h
  · intro i ci n hx; exact c_cn12 h (i, ci, n) hx
  · exact n_hag htl
  · exact c_n112 h
  · exact c_n212 h
  · intro t ci hx; exact c_at12 h (t, ci) hx
  · intro i n hx; exact c_kI12 h (i, n) hx
  · intro i n hx; exact c_kL12 h (i, n) hx
  · exact c_ob12 h ⟨by rw [hrm]; decide, by rw [hrm]; decide⟩
  · exact c_cp12 h
  · intro ins ct hx; cases hx
def ct_627 : qCt := ((4, [], [(2, 44, [(1, 1)]), (1, 0, []), (0, 0, [(0, 4)])], [([(1, 1)], 44, 0, (2, 42, [(2, 1)])), ([(2, 1)], 42, 8, (2, 5, [(3, 1)])), ([(2, 1)], 42, 7, (0, 0, [])), ([(2, 1)], 42, 9, (0, 0, [])), ([(2, 1)], 42, 10, (0, 0, [])), ([(1, 1)], 44, 3, (0, 0, []))]), (4, [], [(0, 0, [(0, 4)])], [([(2, 1)], 42, 10, (0, 0, [])), ([(2, 1)], 42, 9, (0, 0, [])), ([(1, 1)], 44, 0, (2, 42, [(2, 1)])), ([(2, 1)], 42, 7, (0, 0, [(0, 4)])), ([(2, 1)], 42, 8, (2, 5, [(3, 1)])), ([(1, 1)], 44, 3, (0, 0, []))], []), [], [(5, 0), (42, 7), (42, 9), (42, 10)], 0, 0)
def rm_627 : Room := { frames := 2, cells := 0, slots := 0, locals := 51 }
def e_627 : qEn := (k_13_45, (t_fg12, t_fp12, t_cn12), (t_na12, t_at12), (t_kI12, t_kL12, t_ob12, t_cp12), [(.invokestatic 69, ct_626), (.invokevirtual 254, ct_614)], (q_k (-1), [], []))
def ts_627 : List (qTm × qCert × List qHx) := [((0, (4, [], [(0, (2, 44, [(1, 1)])), (1, (1, 0, [])), (3, (0, 0, [(0, 4)]))], [], [([(1, 1)], 44, 0, (2, 42, [(2, 1)])), ([(2, 1)], 42, 8, (2, 5, [(3, 1)])), ([(2, 1)], 42, 7, (0, 0, [])), ([(2, 1)], 42, 9, (0, 0, [])), ([(2, 1)], 42, 10, (0, 0, [])), ([(1, 1)], 44, 3, (0, 0, []))], 0, 0), []), (1, []), [(0, 0, [], [], []), (0, 0, [], [], []), (0, 0, [], [], []), (0, 0, [], [], []), (0, 0, [], [], [0]), (0, 1, [(1, [])], [], []), (2, 0, [(1, [(1, 1)])], [], []), (0, 0, [], [], []), (0, 1, [(1, [])], [], []), (2, 0, [(1, [(2, 1)])], [], []), (0, 0, [], [], []), (0, 0, [], [], []), (0, 0, [], [], []), (0, 1, [], [], [0]), (0, 1, [], [], [2]), (0, 0, [], [], []), (0, 1, [(1, []), (1, [])], [], []), (0, 0, [], [], []), (0, 0, [], [], []), (0, 0, [], [], []), (0, 0, [], [], []), (0, 1, [(1, []), (1, [])], [], []), (0, 0, [], [], []), (0, 0, [], [], []), (0, 0, [], [], []), (2, 0, [(1, [(4, 1)])], [], []), (0, 0, [], [], []), (0, 1, [], [], [0]), (0, 1, [], [], [1]), (0, 0, [], [], []), (0, 1, [], [], [0]), (0, 1, [], [], [2]), (0, 0, [], [], []), (0, 1, [(1, []), (1, [])], [], []), (0, 0, [], [], []), (0, 1, [(1, []), (1, [])], [], []), (0, 0, [], [], []), (0, 1, [(1, []), (1, [])], [], []), (0, 0, [], [], []), (0, 0, [], [], []), (0, 0, [], [], []), (0, 1, [(1, []), (1, [])], [], []), (0, 0, [], [], []), (0, 0, [], [], []), (0, 0, [], [], []), (0, 0, [], [], []), (0, 0, [(1, [(5, 1)]), (1, [(6, 1)]), (1, []), (1, [])], [], []), (0, 1, [(1, []), (1, [])], [], []), (0, 0, [], [], []), (0, 0, [], [], []), (0, 0, [], [], []), (2, 0, [(1, [(7, 1)])], [], []), (0, 0, [], [], []), (0, 1, [], [], [0]), (0, 1, [], [], [1]), (0, 0, [], [], []), (0, 1, [], [], [0]), (0, 1, [], [], [2]), (0, 0, [], [], []), (0, 1, [(1, []), (1, [])], [], []), (0, 0, [], [], []), (0, 1, [(1, []), (1, [])], [], []), (0, 0, [], [], []), (0, 1, [(1, []), (1, [])], [], []), (0, 0, [], [], []), (0, 0, [], [], []), (0, 0, [], [], []), (0, 1, [(1, []), (1, [])], [], []), (0, 0, [], [], []), (0, 0, [], [], []), (0, 0, [], [], []), (0, 0, [], [], []), (0, 0, [(1, [(8, 1)]), (1, [(9, 1)]), (1, []), (1, [])], [], []), (0, 1, [(1, []), (1, [])], [], []), (0, 0, [], [], []), (0, 0, [], [], []), (0, 0, [], [], []), (2, 0, [(1, [(10, 1)])], [], []), (0, 0, [], [], []), (0, 1, [], [], [0]), (0, 1, [], [], [1]), (0, 0, [], [], []), (0, 1, [], [], [0]), (0, 1, [], [], [2]), (0, 0, [], [], []), (0, 1, [(1, []), (1, [])], [], []), (0, 0, [], [], []), (0, 1, [(1, []), (1, [])], [], []), (0, 0, [], [], []), (0, 1, [(1, []), (1, [])], [], []), (0, 0, [], [], []), (0, 0, [], [], []), (0, 0, [], [], []), (0, 1, [(1, []), (1, [])], [], []), (0, 0, [], [], []), (0, 0, [], [], []), (0, 0, [], [], []), (0, 0, [], [], []), (0, 0, [(1, [(11, 1)]), (1, [(12, 1)]), (1, []), (1, [])], [], []), (0, 1, [(1, []), (1, [])], [], []), (0, 0, [], [], []), (0, 0, [], [], []), (0, 0, [], [], []), (2, 0, [(1, [(13, 1)])], [], []), (0, 0, [], [], []), (0, 1, [], [], [0]), (0, 1, [], [], [1]), (0, 0, [], [], []), (0, 1, [], [], [0]), (0, 1, [], [], [2]), (0, 0, [], [], []), (0, 1, [(1, []), (1, [])], [], []), (0, 0, [], [], []), (0, 1, [(1, []), (1, [])], [], []), (0, 0, [], [], []), (0, 1, [(1, []), (1, [])], [], []), (0, 0, [], [], []), (0, 0, [], [], []), (0, 0, [], [], []), (0, 1, [(1, []), (1, [])], [], []), (0, 0, [], [], []), (0, 0, [], [], []), (0, 0, [], [], []), (0, 0, [], [], []), (0, 0, [(1, [(14, 1)]), (1, [(15, 1)]), (1, []), (1, [])], [], []), (0, 1, [(1, []), (1, [])], [], []), (0, 0, [], [], []), (0, 0, [], [], []), (0, 0, [], [], []), (0, 0, [], [], []), (0, 1, [], [], [0]), (0, 0, [], [], []), (0, 1, [], [], [2]), (0, 0, [], [], []), (0, 1, [(1, []), (1, [])], [], []), (0, 2, [(1, []), (1, [])], [], []), (0, 0, [], [], []), (0, 0, [], [[(1, 1)], [(2, 1)]], [1]), (0, 0, [], [], []), (0, 1, [], [], [2]), (0, 1, [], [], [3]), (5, 0, [], [], []), (2, 0, [(1, [(16, 1)])], [], []), (2, 0, [(1, [(3, 1)])], [], []), (2, 0, [(1, [(2, 1)])], [], [])])]
set_option maxRecDepth 100000 in
theorem m_627 (l : Launch) : q_Met l vwCl n_TL n_NW n_KT y_13_45 (Cond.code y_13_45 b_13_45 5 (some .int) :: n_GW) rm_627 ct_627 := by
  refine q_method (E := e_627) ts_627 (by decide) rfl rfl rfl ?_ (by decide +kernel)
  intro C D tys htl hl hrm hm hml ho hts hnm hE
  have h : n_ctx C b_13_45 5 "BalanceCoderModel" D tys := ⟨htl, hm, hml, ho, fun w hw => hts w (List.mem_cons_of_mem _ hw), hE⟩
  refine ⟨⟨?_, ?_⟩, ⟨?_, ?_, ?_, ?_, ?_⟩, ⟨?_, ?_, ?_⟩, ⟨?_, ?_, ?_, ?_⟩, ?_⟩
  · intro i ins len hx; exact kd_13_45 (i, ins, len) hx
  · exact n_at hE.1
  · intro i ci f hx; exact c_fg12 h (i, ci, f) hx
  · intro i ci f hx; exact c_fp12 h (i, ci, f) hx
  · exact n_hap h
  · intro i ci n hx; exact c_cn12 h (i, ci, n) hx
  · exact n_hag htl
  · exact c_n112 h
  · exact c_n212 h
  · intro t ci hx; exact c_at12 h (t, ci) hx
  · intro i n hx; exact c_kI12 h (i, n) hx
  · intro i n hx; exact c_kL12 h (i, n) hx
  · exact c_ob12 h ⟨by rw [hrm]; decide, by rw [hrm]; decide⟩
  · exact c_cp12 h
  · intro ins ct hx
    have g0 : q_Call C b_13_45 D tys n_KT 5 (.invokestatic 69) ct_626 := q_callS n_NWk h.2.2.2.2.2 h.1 (m_626 C.2.1) ⟨h.2.1.1, h.2.1.2, h.2.2.1, h.2.2.2.1, h.2.2.2.2.1⟩ ⟨n_CB (y := y_13_3) (bytes := b_13_3) 3 h.2.2.2.2.1 n_w923 n_w921 n_w12 ⟨by decide, by decide, by decide +kernel⟩ rfl rfl ⟨by rw [hrm]; decide, by rw [hrm]; decide⟩, h.2.2.2.2.1 _ n_w922⟩ rfl
    have g1 : q_Call C b_13_45 D tys n_KT 5 (.invokevirtual 254) ct_614 := q_callV n_NWk h.2.2.2.2.2 h.1 (m_614 C.2.1) ⟨h.2.1.1, h.2.1.2, h.2.2.1, h.2.2.2.1, h.2.2.2.2.1⟩ ⟨n_CB (y := y_13_43) (bytes := b_13_43) 0 h.2.2.2.2.1 n_w1091 n_w1088 n_w12 ⟨by decide, by decide, by decide +kernel⟩ rfl rfl ⟨by rw [hrm]; decide, by rw [hrm]; decide⟩, h.2.2.2.2.1 _ n_w1090, h.2.2.2.2.1 _ n_s49⟩ (Cn := RX12) ⟨44, 12, _, _, _, _, TX12, 31, rfl, rfl, rfl⟩ rfl
    have all : ∀ x ∈ [((.invokestatic 69 : Instr), ct_626), ((.invokevirtual 254 : Instr), ct_614)], q_Call C b_13_45 D tys n_KT 5 x.1 x.2 := (n_mem2 (g0) (n_mem2 (g1) n_mem0))
    exact all (ins, ct) hx
def ct_628 : qCt := ((4, [[(2, 1)], [(0, 255), (2, (-1))]], [(2, 22, [(1, 1)]), (0, 0, [(2, 1)]), (0, 0, [(0, 1)])], [([(1, 1)], 22, 1, (0, 0, [(0, 4)])), ([(1, 1)], 22, 0, (2, 5, [(3, 1)]))]), (4, [], [], [([(1, 1)], 22, 1, (0, 0, [(0, 5)])), ([(1, 1)], 22, 0, (2, 5, [(3, 1)]))], []), [], [(5, 0), (22, 1)], 0, 0)
def rm_628 : Room := { frames := 1, cells := 0, slots := 0, locals := 26 }
def e_628 : qEn := (k_3_6, (t_fg1, t_fp1, t_cn1), (t_na1, t_at1), (t_kI1, t_kL1, t_ob1, t_cp1), [], (q_k (-1), [], []))
def ts_628 : List (qTm × qCert × List qHx) := [((0, (4, [[(2, 1)], [(0, 255), (2, (-1))]], [(0, (2, 22, [(1, 1)])), (1, (0, 0, [(2, 1)])), (2, (0, 0, [(0, 1)]))], [], [([(1, 1)], 22, 1, (0, 0, [(0, 4)])), ([(1, 1)], 22, 0, (2, 5, [(3, 1)]))], 0, 0), []), (1, []), [(0, 0, [], [], []), (0, 0, [], [], []), (0, 1, [(1, []), (1, [])], [], []), (0, 0, [], [], []), (0, 0, [], [], []), (0, 0, [], [], []), (2, 0, [(1, [(2, 1)])], [], []), (0, 0, [], [], []), (0, 1, [], [], [0]), (0, 0, [], [], []), (0, 0, [], [], []), (2, 0, [(1, [(3, 1)])], [], []), (0, 0, [], [], []), (0, 1, [], [], [1]), (0, 0, [], [], []), (0, 1, [], [], [0]), (0, 0, [], [], []), (0, 0, [], [], []), (0, 0, [], [], []), (0, 1, [(1, []), (1, [])], [], []), (0, 0, [], [], []), (0, 0, [], [], []), (0, 1, [], [], []), (0, 0, [(1, [(6, 1)]), (1, [(7, 1)]), (1, []), (1, [])], [], []), (0, 0, [], [], []), (0, 0, [], [], []), (0, 1, [], [], [0]), (0, 0, [], [], []), (0, 1, [(1, []), (1, [])], [], []), (0, 2, [(1, []), (1, [])], [], []), (0, 1, [(1, []), (1, [])], [], []), (0, 0, [], [], []), (0, 0, [], [], []), (0, 0, [], [], []), (5, 0, [], [], []), (2, 0, [(1, [(8, 1)])], [], [])])]
set_option maxRecDepth 100000 in
theorem m_628 (l : Launch) : q_Met l vwCl n_TL n_NW n_KT y_3_6 (Cond.code y_3_6 b_3_6 4 none :: n_GW) rm_628 ct_628 := by
  refine q_method (E := e_628) ts_628 (by decide) rfl rfl rfl ?_ (by decide +kernel)
  intro C D tys htl hl hrm hm hml ho hts hnm hE
  have h : n_ctx C b_3_6 4 "BalanceCoder$Block" D tys := ⟨htl, hm, hml, ho, fun w hw => hts w (List.mem_cons_of_mem _ hw), hE⟩
  refine ⟨⟨?_, ?_⟩, ⟨?_, ?_, ?_, ?_, ?_⟩, ⟨?_, ?_, ?_⟩, ⟨?_, ?_, ?_, ?_⟩, ?_⟩
  · intro i ins len hx; exact kd_3_6 (i, ins, len) hx
  · exact n_at hE.1
  · intro i ci f hx; exact c_fg1 h (i, ci, f) hx
  · intro i ci f hx; exact c_fp1 h (i, ci, f) hx
  · exact n_hap h
  · intro i ci n hx; exact c_cn1 h (i, ci, n) hx
  · exact n_hag htl
  · exact c_n11 h
  · exact c_n21 h
  · intro t ci hx; exact c_at1 h (t, ci) hx
  · intro i n hx; exact c_kI1 h (i, n) hx
  · intro i n hx; exact c_kL1 h (i, n) hx
  · exact c_ob1 h ⟨by rw [hrm]; decide, by rw [hrm]; decide⟩
  · exact c_cp1 h ⟨by rw [hrm]; decide, by rw [hrm]; decide +kernel⟩
  · intro ins ct hx; cases hx
def ct_629 : qCt := ((5, [], [(2, 40, [(1, 1)]), (1, 0, []), (0, 0, [(0, 5)])], [([(1, 1)], 40, 7, (0, 0, [])), ([(1, 1)], 40, 0, (2, 38, [(2, 1)])), ([(2, 1)], 38, 3, (2, 22, [(3, 1)])), ([(3, 1)], 22, 4, (0, 0, [])), ([(3, 1)], 22, 2, (0, 0, [])), ([(3, 1)], 22, 1, (0, 0, [])), ([(3, 1)], 22, 0, (2, 5, [(4, 1)]))]), (5, [], [(0, 0, [(0, 5)])], [([(3, 1)], 22, 4, (0, 0, [])), ([(3, 1)], 22, 2, (0, 0, [])), ([(3, 1)], 22, 1, (0, 0, [(0, 5)])), ([(3, 1)], 22, 0, (2, 5, [(4, 1)])), ([(1, 1)], 40, 7, (0, 0, [])), ([(1, 1)], 40, 0, (2, 38, [(2, 1)])), ([(2, 1)], 38, 3, (2, 22, [(3, 1)]))], []), [], [(5, 0), (22, 1), (22, 2), (22, 4)], 0, 0)
def rm_629 : Room := { frames := 2, cells := 0, slots := 0, locals := 49 }
def e_629 : qEn := (k_1_17, (t_fg10, t_fp10, t_cn10), (t_na10, t_at10), (t_kI10, t_kL10, t_ob10, t_cp10), [(.invokestatic 64, ct_46), (.invokevirtual 189, ct_610), (.invokestatic 64, ct_41), (.invokevirtual 189, ct_616), (.invokestatic 64, ct_36), (.invokevirtual 189, ct_620), (.invokestatic 64, ct_31), (.invokevirtual 189, ct_624), (.invokestatic 64, ct_26), (.invokevirtual 189, ct_628), (.invokevirtual 186, ct_611)], (q_k (-1), [], []))
def ts_629 : List (qTm × qCert × List qHx) := [((0, (5, [], [(0, (2, 40, [(1, 1)])), (1, (1, 0, [])), (3, (0, 0, [(0, 5)]))], [], [([(1, 1)], 40, 7, (0, 0, [])), ([(1, 1)], 40, 0, (2, 38, [(2, 1)])), ([(2, 1)], 38, 3, (2, 22, [(3, 1)])), ([(3, 1)], 22, 4, (0, 0, [])), ([(3, 1)], 22, 2, (0, 0, [])), ([(3, 1)], 22, 1, (0, 0, [])), ([(3, 1)], 22, 0, (2, 5, [(4, 1)]))], 0, 0), []), (1, []), [(0, 0, [], [], []), (0, 1, [], [], [1]), (0, 1, [], [], [2]), (0, 0, [], [], []), (0, 0, [], [], []), (0, 0, [], [], []), (0, 0, [], [], []), (2, 0, [(1, [(0, 1)])], [], []), (0, 0, [], [], []), (0, 1, [(1, [])], [], []), (2, 0, [(1, [(2, 1)])], [], []), (0, 0, [], [], []), (0, 0, [], [], []), (0, 0, [], [], []), (2, 0, [(1, [(2, 1)])], [], []), (0, 0, [], [], []), (0, 0, [], [], []), (0, 1, [], [], [5]), (0, 1, [(1, [])], [], []), (0, 0, [], [], []), (0, 0, [], [], []), (0, 0, [], [], []), (0, 0, [], [], []), (0, 1, [], [], [5]), (0, 1, [(1, []), (1, [])], [], []), (0, 0, [], [], []), (0, 0, [], [], []), (0, 0, [], [], []), (0, 0, [], [], []), (0, 0, [], [], []), (0, 1, [(1, []), (1, [])], [], []), (0, 0, [], [], []), (0, 0, [], [], []), (0, 0, [], [], []), (2, 0, [(1, [(6, 1)])], [], []), (0, 0, [], [], []), (0, 0, [], [], []), (0, 0, [], [], []), (0, 0, [], [], [0]), (0, 0, [], [], []), (0, 0, [(1, [(7, 1)]), (1, [(8, 1)])], [[(3, 1)], [(5, 1)], [(4, 1)]], [1]), (0, 1, [(1, []), (1, [])], [], []), (0, 0, [], [], []), (0, 0, [], [], []), (0, 0, [], [], []), (2, 0, [(1, [(9, 1)])], [], []), (0, 0, [], [], []), (0, 0, [], [], []), (0, 0, [], [], []), (0, 0, [], [], [2]), (0, 0, [], [], []), (0, 0, [(1, [(10, 1)]), (1, [(11, 1)])], [[(3, 1)], [(6, 1)], [(4, 1)]], [3]), (0, 1, [(1, []), (1, [])], [], []), (0, 0, [], [], []), (0, 0, [], [], []), (0, 0, [], [], []), (2, 0, [(1, [(12, 1)])], [], []), (0, 0, [], [], []), (0, 0, [], [], []), (0, 0, [], [], []), (0, 0, [], [], [4]), (0, 0, [], [], []), (0, 0, [(1, [(13, 1)]), (1, [(14, 1)])], [[(3, 1)], [(7, 1)], [(4, 1)]], [5]), (0, 1, [(1, []), (1, [])], [], []), (0, 0, [], [], []), (0, 0, [], [], []), (0, 0, [], [], []), (2, 0, [(1, [(15, 1)])], [], []), (0, 0, [], [], []), (0, 0, [], [], []), (0, 0, [], [], []), (0, 0, [], [], [6]), (0, 0, [], [], []), (0, 0, [(1, [(16, 1)]), (1, [(17, 1)])], [[(3, 1)], [(8, 1)], [(4, 1)]], [7]), (0, 1, [(1, []), (1, [])], [], []), (0, 0, [], [], []), (0, 0, [], [], []), (0, 0, [], [], []), (2, 0, [(1, [(18, 1)])], [], []), (0, 0, [], [], []), (0, 0, [], [], []), (0, 0, [], [], []), (0, 0, [], [], [8]), (0, 0, [], [], []), (0, 0, [(1, [(19, 1)]), (1, [(20, 1)])], [[(3, 1)], [(9, 1)], [(4, 1)]], [9]), (0, 1, [(1, []), (1, [])], [], []), (0, 0, [], [], []), (0, 0, [], [], []), (0, 0, [], [], []), (0, 0, [], [], []), (0, 0, [], [[(3, 1)]], [10]), (0, 0, [], [], []), (0, 1, [], [], [2]), (5, 0, [], [], []), (2, 0, [(1, [(21, 1)])], [], []), (2, 0, [(1, [(5, 1)])], [], []), (2, 0, [(1, [(4, 1)])], [], []), (2, 0, [(1, [(3, 1)])], [], [])])]
set_option maxRecDepth 100000 in
theorem m_629 (l : Launch) : q_Met l vwCl n_TL n_NW n_KT y_1_17 (Cond.code y_1_17 b_1_17 6 (some .int) :: n_GW) rm_629 ct_629 := by
  refine q_method (E := e_629) ts_629 (by decide) rfl rfl rfl ?_ (by decide +kernel)
  intro C D tys htl hl hrm hm hml ho hts hnm hE
  have h : n_ctx C b_1_17 6 "BalanceCoder" D tys := ⟨htl, hm, hml, ho, fun w hw => hts w (List.mem_cons_of_mem _ hw), hE⟩
  refine ⟨⟨?_, ?_⟩, ⟨?_, ?_, ?_, ?_, ?_⟩, ⟨?_, ?_, ?_⟩, ⟨?_, ?_, ?_, ?_⟩, ?_⟩
  · intro i ins len hx; exact kd_1_17 (i, ins, len) hx
  · exact n_at hE.1
  · intro i ci f hx; exact c_fg10 h (i, ci, f) hx
  · intro i ci f hx; exact c_fp10 h (i, ci, f) hx
  · exact n_hap h
  · intro i ci n hx; exact c_cn10 h (i, ci, n) hx
  · exact n_hag htl
  · exact c_n110 h
  · exact c_n210 h
  · intro t ci hx; exact c_at10 h (t, ci) hx
  · intro i n hx; exact c_kI10 h (i, n) hx
  · intro i n hx; exact c_kL10 h (i, n) hx
  · exact c_ob10 h ⟨by rw [hrm]; decide, by rw [hrm]; decide⟩
  · exact c_cp10 h
  · intro ins ct hx
    have g0 : q_Call C b_1_17 D tys n_KT 6 (.invokestatic 64) ct_46 := q_callS n_NWk h.2.2.2.2.2 h.1 (m_46 C.2.1) ⟨h.2.1.1, h.2.1.2, h.2.2.1, h.2.2.2.1, h.2.2.2.2.1⟩ ⟨n_CB (y := y_1_33) (bytes := b_1_33) 2 h.2.2.2.2.1 n_w312 n_w310 n_w1 ⟨by decide, by decide, by decide +kernel⟩ rfl rfl ⟨by rw [hrm]; decide, by rw [hrm]; decide⟩, h.2.2.2.2.1 _ n_w311⟩ rfl
    have g1 : q_Call C b_1_17 D tys n_KT 6 (.invokevirtual 189) ct_610 := q_callV n_NWk h.2.2.2.2.2 h.1 (m_610 C.2.1) ⟨h.2.1.1, h.2.1.2, h.2.2.1, h.2.2.2.1, h.2.2.2.2.1⟩ ⟨n_CB (y := y_3_6) (bytes := b_3_6) 2 h.2.2.2.2.1 n_w568 n_w676 n_w3 ⟨by decide, by decide, by decide +kernel⟩ rfl rfl ⟨by rw [hrm]; decide, by rw [hrm]; decide⟩, h.2.2.2.2.1 _ n_w566, h.2.2.2.2.1 _ n_w567⟩ (Cn := RX1) ⟨22, 1, _, _, _, _, TX1, 5, rfl, rfl, rfl⟩ rfl
    have g2 : q_Call C b_1_17 D tys n_KT 6 (.invokestatic 64) ct_41 := q_callS n_NWk h.2.2.2.2.2 h.1 (m_41 C.2.1) ⟨h.2.1.1, h.2.1.2, h.2.2.1, h.2.2.2.1, h.2.2.2.2.1⟩ ⟨n_CB (y := y_1_33) (bytes := b_1_33) 2 h.2.2.2.2.1 n_w312 n_w310 n_w1 ⟨by decide, by decide, by decide +kernel⟩ rfl rfl ⟨by rw [hrm]; decide, by rw [hrm]; decide⟩, h.2.2.2.2.1 _ n_w311⟩ rfl
    have g3 : q_Call C b_1_17 D tys n_KT 6 (.invokevirtual 189) ct_616 := q_callV n_NWk h.2.2.2.2.2 h.1 (m_616 C.2.1) ⟨h.2.1.1, h.2.1.2, h.2.2.1, h.2.2.2.1, h.2.2.2.2.1⟩ ⟨n_CB (y := y_3_6) (bytes := b_3_6) 2 h.2.2.2.2.1 n_w568 n_w676 n_w3 ⟨by decide, by decide, by decide +kernel⟩ rfl rfl ⟨by rw [hrm]; decide, by rw [hrm]; decide⟩, h.2.2.2.2.1 _ n_w566, h.2.2.2.2.1 _ n_w567⟩ (Cn := RX1) ⟨22, 1, _, _, _, _, TX1, 5, rfl, rfl, rfl⟩ rfl
    have g4 : q_Call C b_1_17 D tys n_KT 6 (.invokestatic 64) ct_36 := q_callS n_NWk h.2.2.2.2.2 h.1 (m_36 C.2.1) ⟨h.2.1.1, h.2.1.2, h.2.2.1, h.2.2.2.1, h.2.2.2.2.1⟩ ⟨n_CB (y := y_1_33) (bytes := b_1_33) 2 h.2.2.2.2.1 n_w312 n_w310 n_w1 ⟨by decide, by decide, by decide +kernel⟩ rfl rfl ⟨by rw [hrm]; decide, by rw [hrm]; decide⟩, h.2.2.2.2.1 _ n_w311⟩ rfl
    have g5 : q_Call C b_1_17 D tys n_KT 6 (.invokevirtual 189) ct_620 := q_callV n_NWk h.2.2.2.2.2 h.1 (m_620 C.2.1) ⟨h.2.1.1, h.2.1.2, h.2.2.1, h.2.2.2.1, h.2.2.2.2.1⟩ ⟨n_CB (y := y_3_6) (bytes := b_3_6) 2 h.2.2.2.2.1 n_w568 n_w676 n_w3 ⟨by decide, by decide, by decide +kernel⟩ rfl rfl ⟨by rw [hrm]; decide, by rw [hrm]; decide⟩, h.2.2.2.2.1 _ n_w566, h.2.2.2.2.1 _ n_w567⟩ (Cn := RX1) ⟨22, 1, _, _, _, _, TX1, 5, rfl, rfl, rfl⟩ rfl
    have g6 : q_Call C b_1_17 D tys n_KT 6 (.invokestatic 64) ct_31 := q_callS n_NWk h.2.2.2.2.2 h.1 (m_31 C.2.1) ⟨h.2.1.1, h.2.1.2, h.2.2.1, h.2.2.2.1, h.2.2.2.2.1⟩ ⟨n_CB (y := y_1_33) (bytes := b_1_33) 2 h.2.2.2.2.1 n_w312 n_w310 n_w1 ⟨by decide, by decide, by decide +kernel⟩ rfl rfl ⟨by rw [hrm]; decide, by rw [hrm]; decide⟩, h.2.2.2.2.1 _ n_w311⟩ rfl
    have g7 : q_Call C b_1_17 D tys n_KT 6 (.invokevirtual 189) ct_624 := q_callV n_NWk h.2.2.2.2.2 h.1 (m_624 C.2.1) ⟨h.2.1.1, h.2.1.2, h.2.2.1, h.2.2.2.1, h.2.2.2.2.1⟩ ⟨n_CB (y := y_3_6) (bytes := b_3_6) 2 h.2.2.2.2.1 n_w568 n_w676 n_w3 ⟨by decide, by decide, by decide +kernel⟩ rfl rfl ⟨by rw [hrm]; decide, by rw [hrm]; decide⟩, h.2.2.2.2.1 _ n_w566, h.2.2.2.2.1 _ n_w567⟩ (Cn := RX1) ⟨22, 1, _, _, _, _, TX1, 5, rfl, rfl, rfl⟩ rfl
    have g8 : q_Call C b_1_17 D tys n_KT 6 (.invokestatic 64) ct_26 := q_callS n_NWk h.2.2.2.2.2 h.1 (m_26 C.2.1) ⟨h.2.1.1, h.2.1.2, h.2.2.1, h.2.2.2.1, h.2.2.2.2.1⟩ ⟨n_CB (y := y_1_33) (bytes := b_1_33) 2 h.2.2.2.2.1 n_w312 n_w310 n_w1 ⟨by decide, by decide, by decide +kernel⟩ rfl rfl ⟨by rw [hrm]; decide, by rw [hrm]; decide⟩, h.2.2.2.2.1 _ n_w311⟩ rfl
    have g9 : q_Call C b_1_17 D tys n_KT 6 (.invokevirtual 189) ct_628 := q_callV n_NWk h.2.2.2.2.2 h.1 (m_628 C.2.1) ⟨h.2.1.1, h.2.1.2, h.2.2.1, h.2.2.2.1, h.2.2.2.2.1⟩ ⟨n_CB (y := y_3_6) (bytes := b_3_6) 2 h.2.2.2.2.1 n_w568 n_w676 n_w3 ⟨by decide, by decide, by decide +kernel⟩ rfl rfl ⟨by rw [hrm]; decide, by rw [hrm]; decide⟩, h.2.2.2.2.1 _ n_w566, h.2.2.2.2.1 _ n_w567⟩ (Cn := RX1) ⟨22, 1, _, _, _, _, TX1, 5, rfl, rfl, rfl⟩ rfl
    have g10 : q_Call C b_1_17 D tys n_KT 6 (.invokevirtual 186) ct_611 := q_callV n_NWk h.2.2.2.2.2 h.1 (m_611 C.2.1) ⟨h.2.1.1, h.2.1.2, h.2.2.1, h.2.2.2.1, h.2.2.2.2.1⟩ ⟨n_CB (y := y_3_4) (bytes := b_3_4) 0 h.2.2.2.2.1 n_w671 n_w668 n_w3 ⟨by decide, by decide, by decide +kernel⟩ rfl rfl ⟨by rw [hrm]; decide, by rw [hrm]; decide⟩, h.2.2.2.2.1 _ n_w669, h.2.2.2.2.1 _ n_w670⟩ (Cn := RX1) ⟨22, 1, _, _, _, _, TX1, 5, rfl, rfl, rfl⟩ rfl
    have all : ∀ x ∈ [((.invokestatic 64 : Instr), ct_46), ((.invokevirtual 189 : Instr), ct_610), ((.invokestatic 64 : Instr), ct_41), ((.invokevirtual 189 : Instr), ct_616), ((.invokestatic 64 : Instr), ct_36), ((.invokevirtual 189 : Instr), ct_620), ((.invokestatic 64 : Instr), ct_31), ((.invokevirtual 189 : Instr), ct_624), ((.invokestatic 64 : Instr), ct_26), ((.invokevirtual 189 : Instr), ct_628), ((.invokevirtual 186 : Instr), ct_611)], q_Call C b_1_17 D tys n_KT 6 x.1 x.2 := (n_mem2 (g0) (n_mem2 (g1) (n_mem2 (g2) (n_mem2 (g3) (n_mem2 (g4) (n_mem2 (g5) (n_mem2 (g6) (n_mem2 (g7) (n_mem2 (g8) (n_mem2 (g9) (n_mem2 (g10) n_mem0)))))))))))
    exact all (ins, ct) hx
def ct_630 : qCt := ((1, [], [(5, 0, [(0, 5)]), (5, 0, [(0, (-400))]), (5, 0, [(0, 8)])], []), (1, [], [(0, 0, [(0, 1)])], [], []), [], [], 0, 0)
def rm_630 : Room := { frames := 1, cells := 0, slots := 0, locals := 26 }
def e_630 : qEn := (k_13_3, (t_fg12, t_fp12, t_cn12), (t_na12, t_at12), (t_kI12, t_kL12, t_ob12, t_cp12), [], (q_k (-1), [], []))
def ts_630 : List (qTm × qCert × List qHx) := [((0, (1, [], [(0, (5, 0, [(0, 5)])), (2, (5, 0, [(0, (-400))])), (4, (5, 0, [(0, 8)]))], [], [], 0, 0), []), (1, []), [(0, 0, [], [], []), (0, 0, [], [], []), (0, 1, [(1, [])], [], []), (0, 0, [], [], []), (2, 0, [(1, [(0, 1)])], [], []), (0, 0, [], [], []), (0, 0, [], [], []), (0, 3, [(1, [])], [], []), (0, 0, [], [], []), (2, 0, [(1, [(1, 1)])], [], []), (0, 0, [], [], []), (0, 0, [], [], []), (5, 0, [(1, []), (1, [])], [], [])])]
set_option maxRecDepth 100000 in
theorem m_630 (l : Launch) : q_Met l vwCl n_TL n_NW n_KT y_13_3 (Cond.code y_13_3 b_13_3 6 (some .boolean) :: n_GW) rm_630 ct_630 := by
  refine q_method (E := e_630) ts_630 (by decide) rfl rfl rfl ?_ (by decide +kernel)
  intro C D tys htl hl hrm hm hml ho hts hnm hE
  have h : n_ctx C b_13_3 6 "BalanceCoderModel" D tys := ⟨htl, hm, hml, ho, fun w hw => hts w (List.mem_cons_of_mem _ hw), hE⟩
  refine ⟨⟨?_, ?_⟩, ⟨?_, ?_, ?_, ?_, ?_⟩, ⟨?_, ?_, ?_⟩, ⟨?_, ?_, ?_, ?_⟩, ?_⟩
  · intro i ins len hx; exact kd_13_3 (i, ins, len) hx
  · exact n_at hE.1
  · intro i ci f hx; exact c_fg12 h (i, ci, f) hx
  · intro i ci f hx; exact c_fp12 h (i, ci, f) hx
  · exact n_hap h
  · intro i ci n hx; exact c_cn12 h (i, ci, n) hx
  · exact n_hag htl
  · exact c_n112 h
  · exact c_n212 h
  · intro t ci hx; exact c_at12 h (t, ci) hx
  · intro i n hx; exact c_kI12 h (i, n) hx
  · intro i n hx; exact c_kL12 h (i, n) hx
  · exact c_ob12 h ⟨by rw [hrm]; decide, by rw [hrm]; decide⟩
  · exact c_cp12 h
  · intro ins ct hx; cases hx
def ct_631 : qCt := ((4, [], [(2, 44, [(1, 1)]), (1, 0, []), (0, 0, [(0, 5)])], [([(1, 1)], 44, 0, (2, 42, [(2, 1)])), ([(2, 1)], 42, 8, (2, 5, [(3, 1)])), ([(2, 1)], 42, 7, (0, 0, [])), ([(2, 1)], 42, 9, (0, 0, [])), ([(2, 1)], 42, 10, (0, 0, [])), ([(1, 1)], 44, 3, (0, 0, []))]), (4, [], [(0, 0, [(0, 5)])], [([(2, 1)], 42, 10, (0, 0, [])), ([(2, 1)], 42, 9, (0, 0, [])), ([(1, 1)], 44, 0, (2, 42, [(2, 1)])), ([(2, 1)], 42, 7, (0, 0, [(0, 5)])), ([(2, 1)], 42, 8, (2, 5, [(3, 1)])), ([(1, 1)], 44, 3, (0, 0, []))], []), [], [(5, 0), (42, 7), (42, 9), (42, 10)], 0, 0)
def rm_631 : Room := { frames := 2, cells := 0, slots := 0, locals := 51 }
def e_631 : qEn := (k_13_45, (t_fg12, t_fp12, t_cn12), (t_na12, t_at12), (t_kI12, t_kL12, t_ob12, t_cp12), [(.invokestatic 69, ct_630), (.invokevirtual 254, ct_614)], (q_k (-1), [], []))
def ts_631 : List (qTm × qCert × List qHx) := [((0, (4, [], [(0, (2, 44, [(1, 1)])), (1, (1, 0, [])), (3, (0, 0, [(0, 5)]))], [], [([(1, 1)], 44, 0, (2, 42, [(2, 1)])), ([(2, 1)], 42, 8, (2, 5, [(3, 1)])), ([(2, 1)], 42, 7, (0, 0, [])), ([(2, 1)], 42, 9, (0, 0, [])), ([(2, 1)], 42, 10, (0, 0, [])), ([(1, 1)], 44, 3, (0, 0, []))], 0, 0), []), (1, []), [(0, 0, [], [], []), (0, 0, [], [], []), (0, 0, [], [], []), (0, 0, [], [], []), (0, 0, [], [], [0]), (0, 1, [(1, [])], [], []), (2, 0, [(1, [(1, 1)])], [], []), (0, 0, [], [], []), (0, 1, [(1, [])], [], []), (2, 0, [(1, [(2, 1)])], [], []), (0, 0, [], [], []), (0, 0, [], [], []), (0, 0, [], [], []), (0, 1, [], [], [0]), (0, 1, [], [], [2]), (0, 0, [], [], []), (0, 1, [(1, []), (1, [])], [], []), (0, 0, [], [], []), (0, 0, [], [], []), (0, 0, [], [], []), (0, 0, [], [], []), (0, 1, [(1, []), (1, [])], [], []), (0, 0, [], [], []), (0, 0, [], [], []), (0, 0, [], [], []), (2, 0, [(1, [(4, 1)])], [], []), (0, 0, [], [], []), (0, 1, [], [], [0]), (0, 1, [], [], [1]), (0, 0, [], [], []), (0, 1, [], [], [0]), (0, 1, [], [], [2]), (0, 0, [], [], []), (0, 1, [(1, []), (1, [])], [], []), (0, 0, [], [], []), (0, 1, [(1, []), (1, [])], [], []), (0, 0, [], [], []), (0, 1, [(1, []), (1, [])], [], []), (0, 0, [], [], []), (0, 0, [], [], []), (0, 0, [], [], []), (0, 1, [(1, []), (1, [])], [], []), (0, 0, [], [], []), (0, 0, [], [], []), (0, 0, [], [], []), (0, 0, [], [], []), (0, 0, [(1, [(5, 1)]), (1, [(6, 1)]), (1, []), (1, [])], [], []), (0, 1, [(1, []), (1, [])], [], []), (0, 0, [], [], []), (0, 0, [], [], []), (0, 0, [], [], []), (2, 0, [(1, [(7, 1)])], [], []), (0, 0, [], [], []), (0, 1, [], [], [0]), (0, 1, [], [], [1]), (0, 0, [], [], []), (0, 1, [], [], [0]), (0, 1, [], [], [2]), (0, 0, [], [], []), (0, 1, [(1, []), (1, [])], [], []), (0, 0, [], [], []), (0, 1, [(1, []), (1, [])], [], []), (0, 0, [], [], []), (0, 1, [(1, []), (1, [])], [], []), (0, 0, [], [], []), (0, 0, [], [], []), (0, 0, [], [], []), (0, 1, [(1, []), (1, [])], [], []), (0, 0, [], [], []), (0, 0, [], [], []), (0, 0, [], [], []), (0, 0, [], [], []), (0, 0, [(1, [(8, 1)]), (1, [(9, 1)]), (1, []), (1, [])], [], []), (0, 1, [(1, []), (1, [])], [], []), (0, 0, [], [], []), (0, 0, [], [], []), (0, 0, [], [], []), (2, 0, [(1, [(10, 1)])], [], []), (0, 0, [], [], []), (0, 1, [], [], [0]), (0, 1, [], [], [1]), (0, 0, [], [], []), (0, 1, [], [], [0]), (0, 1, [], [], [2]), (0, 0, [], [], []), (0, 1, [(1, []), (1, [])], [], []), (0, 0, [], [], []), (0, 1, [(1, []), (1, [])], [], []), (0, 0, [], [], []), (0, 1, [(1, []), (1, [])], [], []), (0, 0, [], [], []), (0, 0, [], [], []), (0, 0, [], [], []), (0, 1, [(1, []), (1, [])], [], []), (0, 0, [], [], []), (0, 0, [], [], []), (0, 0, [], [], []), (0, 0, [], [], []), (0, 0, [(1, [(11, 1)]), (1, [(12, 1)]), (1, []), (1, [])], [], []), (0, 1, [(1, []), (1, [])], [], []), (0, 0, [], [], []), (0, 0, [], [], []), (0, 0, [], [], []), (2, 0, [(1, [(13, 1)])], [], []), (0, 0, [], [], []), (0, 1, [], [], [0]), (0, 1, [], [], [1]), (0, 0, [], [], []), (0, 1, [], [], [0]), (0, 1, [], [], [2]), (0, 0, [], [], []), (0, 1, [(1, []), (1, [])], [], []), (0, 0, [], [], []), (0, 1, [(1, []), (1, [])], [], []), (0, 0, [], [], []), (0, 1, [(1, []), (1, [])], [], []), (0, 0, [], [], []), (0, 0, [], [], []), (0, 0, [], [], []), (0, 1, [(1, []), (1, [])], [], []), (0, 0, [], [], []), (0, 0, [], [], []), (0, 0, [], [], []), (0, 0, [], [], []), (0, 0, [(1, [(14, 1)]), (1, [(15, 1)]), (1, []), (1, [])], [], []), (0, 1, [(1, []), (1, [])], [], []), (0, 0, [], [], []), (0, 0, [], [], []), (0, 0, [], [], []), (2, 0, [(1, [(16, 1)])], [], []), (0, 0, [], [], []), (0, 1, [], [], [0]), (0, 1, [], [], [1]), (0, 0, [], [], []), (0, 1, [], [], [0]), (0, 1, [], [], [2]), (0, 0, [], [], []), (0, 1, [(1, []), (1, [])], [], []), (0, 0, [], [], []), (0, 1, [(1, []), (1, [])], [], []), (0, 0, [], [], []), (0, 1, [(1, []), (1, [])], [], []), (0, 0, [], [], []), (0, 0, [], [], []), (0, 0, [], [], []), (0, 1, [(1, []), (1, [])], [], []), (0, 0, [], [], []), (0, 0, [], [], []), (0, 0, [], [], []), (0, 0, [], [], []), (0, 0, [(1, [(17, 1)]), (1, [(18, 1)]), (1, []), (1, [])], [], []), (0, 1, [(1, []), (1, [])], [], []), (0, 0, [], [], []), (0, 0, [], [], []), (0, 0, [], [], []), (0, 0, [], [], []), (0, 1, [], [], [0]), (0, 0, [], [], []), (0, 1, [], [], [2]), (0, 0, [], [], []), (0, 1, [(1, []), (1, [])], [], []), (0, 2, [(1, []), (1, [])], [], []), (0, 0, [], [], []), (0, 0, [], [[(1, 1)], [(2, 1)]], [1]), (0, 0, [], [], []), (0, 1, [], [], [2]), (0, 1, [], [], [3]), (5, 0, [], [], []), (2, 0, [(1, [(19, 1)])], [], []), (2, 0, [(1, [(3, 1)])], [], []), (2, 0, [(1, [(2, 1)])], [], [])])]
set_option maxRecDepth 100000 in
theorem m_631 (l : Launch) : q_Met l vwCl n_TL n_NW n_KT y_13_45 (Cond.code y_13_45 b_13_45 5 (some .int) :: n_GW) rm_631 ct_631 := by
  refine q_method (E := e_631) ts_631 (by decide) rfl rfl rfl ?_ (by decide +kernel)
  intro C D tys htl hl hrm hm hml ho hts hnm hE
  have h : n_ctx C b_13_45 5 "BalanceCoderModel" D tys := ⟨htl, hm, hml, ho, fun w hw => hts w (List.mem_cons_of_mem _ hw), hE⟩
  refine ⟨⟨?_, ?_⟩, ⟨?_, ?_, ?_, ?_, ?_⟩, ⟨?_, ?_, ?_⟩, ⟨?_, ?_, ?_, ?_⟩, ?_⟩
  · intro i ins len hx; exact kd_13_45 (i, ins, len) hx
  · exact n_at hE.1
  · intro i ci f hx; exact c_fg12 h (i, ci, f) hx
  · intro i ci f hx; exact c_fp12 h (i, ci, f) hx
  · exact n_hap h
  · intro i ci n hx; exact c_cn12 h (i, ci, n) hx
  · exact n_hag htl
  · exact c_n112 h
  · exact c_n212 h
  · intro t ci hx; exact c_at12 h (t, ci) hx
  · intro i n hx; exact c_kI12 h (i, n) hx
  · intro i n hx; exact c_kL12 h (i, n) hx
  · exact c_ob12 h ⟨by rw [hrm]; decide, by rw [hrm]; decide⟩
  · exact c_cp12 h
  · intro ins ct hx
    have g0 : q_Call C b_13_45 D tys n_KT 5 (.invokestatic 69) ct_630 := q_callS n_NWk h.2.2.2.2.2 h.1 (m_630 C.2.1) ⟨h.2.1.1, h.2.1.2, h.2.2.1, h.2.2.2.1, h.2.2.2.2.1⟩ ⟨n_CB (y := y_13_3) (bytes := b_13_3) 3 h.2.2.2.2.1 n_w923 n_w921 n_w12 ⟨by decide, by decide, by decide +kernel⟩ rfl rfl ⟨by rw [hrm]; decide, by rw [hrm]; decide⟩, h.2.2.2.2.1 _ n_w922⟩ rfl
    have g1 : q_Call C b_13_45 D tys n_KT 5 (.invokevirtual 254) ct_614 := q_callV n_NWk h.2.2.2.2.2 h.1 (m_614 C.2.1) ⟨h.2.1.1, h.2.1.2, h.2.2.1, h.2.2.2.1, h.2.2.2.2.1⟩ ⟨n_CB (y := y_13_43) (bytes := b_13_43) 0 h.2.2.2.2.1 n_w1091 n_w1088 n_w12 ⟨by decide, by decide, by decide +kernel⟩ rfl rfl ⟨by rw [hrm]; decide, by rw [hrm]; decide⟩, h.2.2.2.2.1 _ n_w1090, h.2.2.2.2.1 _ n_s49⟩ (Cn := RX12) ⟨44, 12, _, _, _, _, TX12, 31, rfl, rfl, rfl⟩ rfl
    have all : ∀ x ∈ [((.invokestatic 69 : Instr), ct_630), ((.invokevirtual 254 : Instr), ct_614)], q_Call C b_13_45 D tys n_KT 5 x.1 x.2 := (n_mem2 (g0) (n_mem2 (g1) n_mem0))
    exact all (ins, ct) hx
def ct_632 : qCt := ((4, [[(2, 1)], [(0, 255), (2, (-1))]], [(2, 22, [(1, 1)]), (0, 0, [(2, 1)]), (0, 0, [(0, 1)])], [([(1, 1)], 22, 1, (0, 0, [(0, 5)])), ([(1, 1)], 22, 0, (2, 5, [(3, 1)]))]), (4, [], [], [([(1, 1)], 22, 1, (0, 0, [(0, 6)])), ([(1, 1)], 22, 0, (2, 5, [(3, 1)]))], []), [], [(5, 0), (22, 1)], 0, 0)
def rm_632 : Room := { frames := 1, cells := 0, slots := 0, locals := 26 }
def e_632 : qEn := (k_3_6, (t_fg1, t_fp1, t_cn1), (t_na1, t_at1), (t_kI1, t_kL1, t_ob1, t_cp1), [], (q_k (-1), [], []))
def ts_632 : List (qTm × qCert × List qHx) := [((0, (4, [[(2, 1)], [(0, 255), (2, (-1))]], [(0, (2, 22, [(1, 1)])), (1, (0, 0, [(2, 1)])), (2, (0, 0, [(0, 1)]))], [], [([(1, 1)], 22, 1, (0, 0, [(0, 5)])), ([(1, 1)], 22, 0, (2, 5, [(3, 1)]))], 0, 0), []), (1, []), [(0, 0, [], [], []), (0, 0, [], [], []), (0, 1, [(1, []), (1, [])], [], []), (0, 0, [], [], []), (0, 0, [], [], []), (0, 0, [], [], []), (2, 0, [(1, [(2, 1)])], [], []), (0, 0, [], [], []), (0, 1, [], [], [0]), (0, 0, [], [], []), (0, 0, [], [], []), (2, 0, [(1, [(3, 1)])], [], []), (0, 0, [], [], []), (0, 1, [], [], [1]), (0, 0, [], [], []), (0, 1, [], [], [0]), (0, 0, [], [], []), (0, 0, [], [], []), (0, 0, [], [], []), (0, 1, [(1, []), (1, [])], [], []), (0, 0, [], [], []), (0, 0, [], [], []), (0, 1, [], [], []), (0, 0, [(1, [(6, 1)]), (1, [(7, 1)]), (1, []), (1, [])], [], []), (0, 0, [], [], []), (0, 0, [], [], []), (0, 1, [], [], [0]), (0, 0, [], [], []), (0, 1, [(1, []), (1, [])], [], []), (0, 2, [(1, []), (1, [])], [], []), (0, 1, [(1, []), (1, [])], [], []), (0, 0, [], [], []), (0, 0, [], [], []), (0, 0, [], [], []), (5, 0, [], [], []), (2, 0, [(1, [(8, 1)])], [], [])])]
set_option maxRecDepth 100000 in
theorem m_632 (l : Launch) : q_Met l vwCl n_TL n_NW n_KT y_3_6 (Cond.code y_3_6 b_3_6 4 none :: n_GW) rm_632 ct_632 := by
  refine q_method (E := e_632) ts_632 (by decide) rfl rfl rfl ?_ (by decide +kernel)
  intro C D tys htl hl hrm hm hml ho hts hnm hE
  have h : n_ctx C b_3_6 4 "BalanceCoder$Block" D tys := ⟨htl, hm, hml, ho, fun w hw => hts w (List.mem_cons_of_mem _ hw), hE⟩
  refine ⟨⟨?_, ?_⟩, ⟨?_, ?_, ?_, ?_, ?_⟩, ⟨?_, ?_, ?_⟩, ⟨?_, ?_, ?_, ?_⟩, ?_⟩
  · intro i ins len hx; exact kd_3_6 (i, ins, len) hx
  · exact n_at hE.1
  · intro i ci f hx; exact c_fg1 h (i, ci, f) hx
  · intro i ci f hx; exact c_fp1 h (i, ci, f) hx
  · exact n_hap h
  · intro i ci n hx; exact c_cn1 h (i, ci, n) hx
  · exact n_hag htl
  · exact c_n11 h
  · exact c_n21 h
  · intro t ci hx; exact c_at1 h (t, ci) hx
  · intro i n hx; exact c_kI1 h (i, n) hx
  · intro i n hx; exact c_kL1 h (i, n) hx
  · exact c_ob1 h ⟨by rw [hrm]; decide, by rw [hrm]; decide⟩
  · exact c_cp1 h ⟨by rw [hrm]; decide, by rw [hrm]; decide +kernel⟩
  · intro ins ct hx; cases hx
def ct_633 : qCt := ((5, [], [(2, 40, [(1, 1)]), (1, 0, []), (0, 0, [(0, 6)])], [([(1, 1)], 40, 7, (0, 0, [])), ([(1, 1)], 40, 0, (2, 38, [(2, 1)])), ([(2, 1)], 38, 3, (2, 22, [(3, 1)])), ([(3, 1)], 22, 4, (0, 0, [])), ([(3, 1)], 22, 2, (0, 0, [])), ([(3, 1)], 22, 1, (0, 0, [])), ([(3, 1)], 22, 0, (2, 5, [(4, 1)]))]), (5, [], [(0, 0, [(0, 6)])], [([(3, 1)], 22, 4, (0, 0, [])), ([(3, 1)], 22, 2, (0, 0, [])), ([(3, 1)], 22, 1, (0, 0, [(0, 6)])), ([(3, 1)], 22, 0, (2, 5, [(4, 1)])), ([(1, 1)], 40, 7, (0, 0, [])), ([(1, 1)], 40, 0, (2, 38, [(2, 1)])), ([(2, 1)], 38, 3, (2, 22, [(3, 1)]))], []), [], [(5, 0), (22, 1), (22, 2), (22, 4)], 0, 0)
def rm_633 : Room := { frames := 2, cells := 0, slots := 0, locals := 49 }
def e_633 : qEn := (k_1_17, (t_fg10, t_fp10, t_cn10), (t_na10, t_at10), (t_kI10, t_kL10, t_ob10, t_cp10), [(.invokestatic 64, ct_51), (.invokevirtual 189, ct_610), (.invokestatic 64, ct_46), (.invokevirtual 189, ct_616), (.invokestatic 64, ct_41), (.invokevirtual 189, ct_620), (.invokestatic 64, ct_36), (.invokevirtual 189, ct_624), (.invokestatic 64, ct_31), (.invokevirtual 189, ct_628), (.invokestatic 64, ct_26), (.invokevirtual 189, ct_632), (.invokevirtual 186, ct_611)], (q_k (-1), [], []))
def ts_633 : List (qTm × qCert × List qHx) := [((0, (5, [], [(0, (2, 40, [(1, 1)])), (1, (1, 0, [])), (3, (0, 0, [(0, 6)]))], [], [([(1, 1)], 40, 7, (0, 0, [])), ([(1, 1)], 40, 0, (2, 38, [(2, 1)])), ([(2, 1)], 38, 3, (2, 22, [(3, 1)])), ([(3, 1)], 22, 4, (0, 0, [])), ([(3, 1)], 22, 2, (0, 0, [])), ([(3, 1)], 22, 1, (0, 0, [])), ([(3, 1)], 22, 0, (2, 5, [(4, 1)]))], 0, 0), []), (1, []), [(0, 0, [], [], []), (0, 1, [], [], [1]), (0, 1, [], [], [2]), (0, 0, [], [], []), (0, 0, [], [], []), (0, 0, [], [], []), (0, 0, [], [], []), (2, 0, [(1, [(0, 1)])], [], []), (0, 0, [], [], []), (0, 1, [(1, [])], [], []), (2, 0, [(1, [(2, 1)])], [], []), (0, 0, [], [], []), (0, 0, [], [], []), (0, 0, [], [], []), (2, 0, [(1, [(2, 1)])], [], []), (0, 0, [], [], []), (0, 0, [], [], []), (0, 1, [], [], [5]), (0, 1, [(1, [])], [], []), (0, 0, [], [], []), (0, 0, [], [], []), (0, 0, [], [], []), (0, 0, [], [], []), (0, 1, [], [], [5]), (0, 1, [(1, []), (1, [])], [], []), (0, 0, [], [], []), (0, 0, [], [], []), (0, 0, [], [], []), (0, 0, [], [], []), (0, 0, [], [], []), (0, 1, [(1, []), (1, [])], [], []), (0, 0, [], [], []), (0, 0, [], [], []), (0, 0, [], [], []), (2, 0, [(1, [(6, 1)])], [], []), (0, 0, [], [], []), (0, 0, [], [], []), (0, 0, [], [], []), (0, 0, [], [], [0]), (0, 0, [], [], []), (0, 0, [(1, [(7, 1)]), (1, [(8, 1)])], [[(3, 1)], [(5, 1)], [(4, 1)]], [1]), (0, 1, [(1, []), (1, [])], [], []), (0, 0, [], [], []), (0, 0, [], [], []), (0, 0, [], [], []), (2, 0, [(1, [(9, 1)])], [], []), (0, 0, [], [], []), (0, 0, [], [], []), (0, 0, [], [], []), (0, 0, [], [], [2]), (0, 0, [], [], []), (0, 0, [(1, [(10, 1)]), (1, [(11, 1)])], [[(3, 1)], [(6, 1)], [(4, 1)]], [3]), (0, 1, [(1, []), (1, [])], [], []), (0, 0, [], [], []), (0, 0, [], [], []), (0, 0, [], [], []), (2, 0, [(1, [(12, 1)])], [], []), (0, 0, [], [], []), (0, 0, [], [], []), (0, 0, [], [], []), (0, 0, [], [], [4]), (0, 0, [], [], []), (0, 0, [(1, [(13, 1)]), (1, [(14, 1)])], [[(3, 1)], [(7, 1)], [(4, 1)]], [5]), (0, 1, [(1, []), (1, [])], [], []), (0, 0, [], [], []), (0, 0, [], [], []), (0, 0, [], [], []), (2, 0, [(1, [(15, 1)])], [], []), (0, 0, [], [], []), (0, 0, [], [], []), (0, 0, [], [], []), (0, 0, [], [], [6]), (0, 0, [], [], []), (0, 0, [(1, [(16, 1)]), (1, [(17, 1)])], [[(3, 1)], [(8, 1)], [(4, 1)]], [7]), (0, 1, [(1, []), (1, [])], [], []), (0, 0, [], [], []), (0, 0, [], [], []), (0, 0, [], [], []), (2, 0, [(1, [(18, 1)])], [], []), (0, 0, [], [], []), (0, 0, [], [], []), (0, 0, [], [], []), (0, 0, [], [], [8]), (0, 0, [], [], []), (0, 0, [(1, [(19, 1)]), (1, [(20, 1)])], [[(3, 1)], [(9, 1)], [(4, 1)]], [9]), (0, 1, [(1, []), (1, [])], [], []), (0, 0, [], [], []), (0, 0, [], [], []), (0, 0, [], [], []), (2, 0, [(1, [(21, 1)])], [], []), (0, 0, [], [], []), (0, 0, [], [], []), (0, 0, [], [], []), (0, 0, [], [], [10]), (0, 0, [], [], []), (0, 0, [(1, [(22, 1)]), (1, [(23, 1)])], [[(3, 1)], [(10, 1)], [(4, 1)]], [11]), (0, 1, [(1, []), (1, [])], [], []), (0, 0, [], [], []), (0, 0, [], [], []), (0, 0, [], [], []), (0, 0, [], [], []), (0, 0, [], [[(3, 1)]], [12]), (0, 0, [], [], []), (0, 1, [], [], [2]), (5, 0, [], [], []), (2, 0, [(1, [(24, 1)])], [], []), (2, 0, [(1, [(5, 1)])], [], []), (2, 0, [(1, [(4, 1)])], [], []), (2, 0, [(1, [(3, 1)])], [], [])])]
set_option maxRecDepth 100000 in
theorem m_633 (l : Launch) : q_Met l vwCl n_TL n_NW n_KT y_1_17 (Cond.code y_1_17 b_1_17 6 (some .int) :: n_GW) rm_633 ct_633 := by
  refine q_method (E := e_633) ts_633 (by decide) rfl rfl rfl ?_ (by decide +kernel)
  intro C D tys htl hl hrm hm hml ho hts hnm hE
  have h : n_ctx C b_1_17 6 "BalanceCoder" D tys := ⟨htl, hm, hml, ho, fun w hw => hts w (List.mem_cons_of_mem _ hw), hE⟩
  refine ⟨⟨?_, ?_⟩, ⟨?_, ?_, ?_, ?_, ?_⟩, ⟨?_, ?_, ?_⟩, ⟨?_, ?_, ?_, ?_⟩, ?_⟩
  · intro i ins len hx; exact kd_1_17 (i, ins, len) hx
  · exact n_at hE.1
  · intro i ci f hx; exact c_fg10 h (i, ci, f) hx
  · intro i ci f hx; exact c_fp10 h (i, ci, f) hx
  · exact n_hap h
  · intro i ci n hx; exact c_cn10 h (i, ci, n) hx
  · exact n_hag htl
  · exact c_n110 h
  · exact c_n210 h
  · intro t ci hx; exact c_at10 h (t, ci) hx
  · intro i n hx; exact c_kI10 h (i, n) hx
  · intro i n hx; exact c_kL10 h (i, n) hx
  · exact c_ob10 h ⟨by rw [hrm]; decide, by rw [hrm]; decide⟩
  · exact c_cp10 h
  · intro ins ct hx
    have g0 : q_Call C b_1_17 D tys n_KT 6 (.invokestatic 64) ct_51 := q_callS n_NWk h.2.2.2.2.2 h.1 (m_51 C.2.1) ⟨h.2.1.1, h.2.1.2, h.2.2.1, h.2.2.2.1, h.2.2.2.2.1⟩ ⟨n_CB (y := y_1_33) (bytes := b_1_33) 2 h.2.2.2.2.1 n_w312 n_w310 n_w1 ⟨by decide, by decide, by decide +kernel⟩ rfl rfl ⟨by rw [hrm]; decide, by rw [hrm]; decide⟩, h.2.2.2.2.1 _ n_w311⟩ rfl
    have g1 : q_Call C b_1_17 D tys n_KT 6 (.invokevirtual 189) ct_610 := q_callV n_NWk h.2.2.2.2.2 h.1 (m_610 C.2.1) ⟨h.2.1.1, h.2.1.2, h.2.2.1, h.2.2.2.1, h.2.2.2.2.1⟩ ⟨n_CB (y := y_3_6) (bytes := b_3_6) 2 h.2.2.2.2.1 n_w568 n_w676 n_w3 ⟨by decide, by decide, by decide +kernel⟩ rfl rfl ⟨by rw [hrm]; decide, by rw [hrm]; decide⟩, h.2.2.2.2.1 _ n_w566, h.2.2.2.2.1 _ n_w567⟩ (Cn := RX1) ⟨22, 1, _, _, _, _, TX1, 5, rfl, rfl, rfl⟩ rfl
    have g2 : q_Call C b_1_17 D tys n_KT 6 (.invokestatic 64) ct_46 := q_callS n_NWk h.2.2.2.2.2 h.1 (m_46 C.2.1) ⟨h.2.1.1, h.2.1.2, h.2.2.1, h.2.2.2.1, h.2.2.2.2.1⟩ ⟨n_CB (y := y_1_33) (bytes := b_1_33) 2 h.2.2.2.2.1 n_w312 n_w310 n_w1 ⟨by decide, by decide, by decide +kernel⟩ rfl rfl ⟨by rw [hrm]; decide, by rw [hrm]; decide⟩, h.2.2.2.2.1 _ n_w311⟩ rfl
    have g3 : q_Call C b_1_17 D tys n_KT 6 (.invokevirtual 189) ct_616 := q_callV n_NWk h.2.2.2.2.2 h.1 (m_616 C.2.1) ⟨h.2.1.1, h.2.1.2, h.2.2.1, h.2.2.2.1, h.2.2.2.2.1⟩ ⟨n_CB (y := y_3_6) (bytes := b_3_6) 2 h.2.2.2.2.1 n_w568 n_w676 n_w3 ⟨by decide, by decide, by decide +kernel⟩ rfl rfl ⟨by rw [hrm]; decide, by rw [hrm]; decide⟩, h.2.2.2.2.1 _ n_w566, h.2.2.2.2.1 _ n_w567⟩ (Cn := RX1) ⟨22, 1, _, _, _, _, TX1, 5, rfl, rfl, rfl⟩ rfl
    have g4 : q_Call C b_1_17 D tys n_KT 6 (.invokestatic 64) ct_41 := q_callS n_NWk h.2.2.2.2.2 h.1 (m_41 C.2.1) ⟨h.2.1.1, h.2.1.2, h.2.2.1, h.2.2.2.1, h.2.2.2.2.1⟩ ⟨n_CB (y := y_1_33) (bytes := b_1_33) 2 h.2.2.2.2.1 n_w312 n_w310 n_w1 ⟨by decide, by decide, by decide +kernel⟩ rfl rfl ⟨by rw [hrm]; decide, by rw [hrm]; decide⟩, h.2.2.2.2.1 _ n_w311⟩ rfl
    have g5 : q_Call C b_1_17 D tys n_KT 6 (.invokevirtual 189) ct_620 := q_callV n_NWk h.2.2.2.2.2 h.1 (m_620 C.2.1) ⟨h.2.1.1, h.2.1.2, h.2.2.1, h.2.2.2.1, h.2.2.2.2.1⟩ ⟨n_CB (y := y_3_6) (bytes := b_3_6) 2 h.2.2.2.2.1 n_w568 n_w676 n_w3 ⟨by decide, by decide, by decide +kernel⟩ rfl rfl ⟨by rw [hrm]; decide, by rw [hrm]; decide⟩, h.2.2.2.2.1 _ n_w566, h.2.2.2.2.1 _ n_w567⟩ (Cn := RX1) ⟨22, 1, _, _, _, _, TX1, 5, rfl, rfl, rfl⟩ rfl
    have g6 : q_Call C b_1_17 D tys n_KT 6 (.invokestatic 64) ct_36 := q_callS n_NWk h.2.2.2.2.2 h.1 (m_36 C.2.1) ⟨h.2.1.1, h.2.1.2, h.2.2.1, h.2.2.2.1, h.2.2.2.2.1⟩ ⟨n_CB (y := y_1_33) (bytes := b_1_33) 2 h.2.2.2.2.1 n_w312 n_w310 n_w1 ⟨by decide, by decide, by decide +kernel⟩ rfl rfl ⟨by rw [hrm]; decide, by rw [hrm]; decide⟩, h.2.2.2.2.1 _ n_w311⟩ rfl
    have g7 : q_Call C b_1_17 D tys n_KT 6 (.invokevirtual 189) ct_624 := q_callV n_NWk h.2.2.2.2.2 h.1 (m_624 C.2.1) ⟨h.2.1.1, h.2.1.2, h.2.2.1, h.2.2.2.1, h.2.2.2.2.1⟩ ⟨n_CB (y := y_3_6) (bytes := b_3_6) 2 h.2.2.2.2.1 n_w568 n_w676 n_w3 ⟨by decide, by decide, by decide +kernel⟩ rfl rfl ⟨by rw [hrm]; decide, by rw [hrm]; decide⟩, h.2.2.2.2.1 _ n_w566, h.2.2.2.2.1 _ n_w567⟩ (Cn := RX1) ⟨22, 1, _, _, _, _, TX1, 5, rfl, rfl, rfl⟩ rfl
    have g8 : q_Call C b_1_17 D tys n_KT 6 (.invokestatic 64) ct_31 := q_callS n_NWk h.2.2.2.2.2 h.1 (m_31 C.2.1) ⟨h.2.1.1, h.2.1.2, h.2.2.1, h.2.2.2.1, h.2.2.2.2.1⟩ ⟨n_CB (y := y_1_33) (bytes := b_1_33) 2 h.2.2.2.2.1 n_w312 n_w310 n_w1 ⟨by decide, by decide, by decide +kernel⟩ rfl rfl ⟨by rw [hrm]; decide, by rw [hrm]; decide⟩, h.2.2.2.2.1 _ n_w311⟩ rfl
    have g9 : q_Call C b_1_17 D tys n_KT 6 (.invokevirtual 189) ct_628 := q_callV n_NWk h.2.2.2.2.2 h.1 (m_628 C.2.1) ⟨h.2.1.1, h.2.1.2, h.2.2.1, h.2.2.2.1, h.2.2.2.2.1⟩ ⟨n_CB (y := y_3_6) (bytes := b_3_6) 2 h.2.2.2.2.1 n_w568 n_w676 n_w3 ⟨by decide, by decide, by decide +kernel⟩ rfl rfl ⟨by rw [hrm]; decide, by rw [hrm]; decide⟩, h.2.2.2.2.1 _ n_w566, h.2.2.2.2.1 _ n_w567⟩ (Cn := RX1) ⟨22, 1, _, _, _, _, TX1, 5, rfl, rfl, rfl⟩ rfl
    have g10 : q_Call C b_1_17 D tys n_KT 6 (.invokestatic 64) ct_26 := q_callS n_NWk h.2.2.2.2.2 h.1 (m_26 C.2.1) ⟨h.2.1.1, h.2.1.2, h.2.2.1, h.2.2.2.1, h.2.2.2.2.1⟩ ⟨n_CB (y := y_1_33) (bytes := b_1_33) 2 h.2.2.2.2.1 n_w312 n_w310 n_w1 ⟨by decide, by decide, by decide +kernel⟩ rfl rfl ⟨by rw [hrm]; decide, by rw [hrm]; decide⟩, h.2.2.2.2.1 _ n_w311⟩ rfl
    have g11 : q_Call C b_1_17 D tys n_KT 6 (.invokevirtual 189) ct_632 := q_callV n_NWk h.2.2.2.2.2 h.1 (m_632 C.2.1) ⟨h.2.1.1, h.2.1.2, h.2.2.1, h.2.2.2.1, h.2.2.2.2.1⟩ ⟨n_CB (y := y_3_6) (bytes := b_3_6) 2 h.2.2.2.2.1 n_w568 n_w676 n_w3 ⟨by decide, by decide, by decide +kernel⟩ rfl rfl ⟨by rw [hrm]; decide, by rw [hrm]; decide⟩, h.2.2.2.2.1 _ n_w566, h.2.2.2.2.1 _ n_w567⟩ (Cn := RX1) ⟨22, 1, _, _, _, _, TX1, 5, rfl, rfl, rfl⟩ rfl
    have g12 : q_Call C b_1_17 D tys n_KT 6 (.invokevirtual 186) ct_611 := q_callV n_NWk h.2.2.2.2.2 h.1 (m_611 C.2.1) ⟨h.2.1.1, h.2.1.2, h.2.2.1, h.2.2.2.1, h.2.2.2.2.1⟩ ⟨n_CB (y := y_3_4) (bytes := b_3_4) 0 h.2.2.2.2.1 n_w671 n_w668 n_w3 ⟨by decide, by decide, by decide +kernel⟩ rfl rfl ⟨by rw [hrm]; decide, by rw [hrm]; decide⟩, h.2.2.2.2.1 _ n_w669, h.2.2.2.2.1 _ n_w670⟩ (Cn := RX1) ⟨22, 1, _, _, _, _, TX1, 5, rfl, rfl, rfl⟩ rfl
    have all : ∀ x ∈ [((.invokestatic 64 : Instr), ct_51), ((.invokevirtual 189 : Instr), ct_610), ((.invokestatic 64 : Instr), ct_46), ((.invokevirtual 189 : Instr), ct_616), ((.invokestatic 64 : Instr), ct_41), ((.invokevirtual 189 : Instr), ct_620), ((.invokestatic 64 : Instr), ct_36), ((.invokevirtual 189 : Instr), ct_624), ((.invokestatic 64 : Instr), ct_31), ((.invokevirtual 189 : Instr), ct_628), ((.invokestatic 64 : Instr), ct_26), ((.invokevirtual 189 : Instr), ct_632), ((.invokevirtual 186 : Instr), ct_611)], q_Call C b_1_17 D tys n_KT 6 x.1 x.2 := (n_mem2 (g0) (n_mem2 (g1) (n_mem2 (g2) (n_mem2 (g3) (n_mem2 (g4) (n_mem2 (g5) (n_mem2 (g6) (n_mem2 (g7) (n_mem2 (g8) (n_mem2 (g9) (n_mem2 (g10) (n_mem2 (g11) (n_mem2 (g12) n_mem0)))))))))))))
    exact all (ins, ct) hx
def ct_634 : qCt := ((1, [], [(5, 0, [(0, 6)]), (5, 0, [(0, (-400))]), (5, 0, [(0, 8)])], []), (1, [], [(0, 0, [(0, 1)])], [], []), [], [], 0, 0)
def rm_634 : Room := { frames := 1, cells := 0, slots := 0, locals := 26 }
def e_634 : qEn := (k_13_3, (t_fg12, t_fp12, t_cn12), (t_na12, t_at12), (t_kI12, t_kL12, t_ob12, t_cp12), [], (q_k (-1), [], []))
def ts_634 : List (qTm × qCert × List qHx) := [((0, (1, [], [(0, (5, 0, [(0, 6)])), (2, (5, 0, [(0, (-400))])), (4, (5, 0, [(0, 8)]))], [], [], 0, 0), []), (1, []), [(0, 0, [], [], []), (0, 0, [], [], []), (0, 1, [(1, [])], [], []), (0, 0, [], [], []), (2, 0, [(1, [(0, 1)])], [], []), (0, 0, [], [], []), (0, 0, [], [], []), (0, 3, [(1, [])], [], []), (0, 0, [], [], []), (2, 0, [(1, [(1, 1)])], [], []), (0, 0, [], [], []), (0, 0, [], [], []), (5, 0, [(1, []), (1, [])], [], [])])]
set_option maxRecDepth 100000 in
theorem m_634 (l : Launch) : q_Met l vwCl n_TL n_NW n_KT y_13_3 (Cond.code y_13_3 b_13_3 6 (some .boolean) :: n_GW) rm_634 ct_634 := by
  refine q_method (E := e_634) ts_634 (by decide) rfl rfl rfl ?_ (by decide +kernel)
  intro C D tys htl hl hrm hm hml ho hts hnm hE
  have h : n_ctx C b_13_3 6 "BalanceCoderModel" D tys := ⟨htl, hm, hml, ho, fun w hw => hts w (List.mem_cons_of_mem _ hw), hE⟩
  refine ⟨⟨?_, ?_⟩, ⟨?_, ?_, ?_, ?_, ?_⟩, ⟨?_, ?_, ?_⟩, ⟨?_, ?_, ?_, ?_⟩, ?_⟩
  · intro i ins len hx; exact kd_13_3 (i, ins, len) hx
  · exact n_at hE.1
  · intro i ci f hx; exact c_fg12 h (i, ci, f) hx
  · intro i ci f hx; exact c_fp12 h (i, ci, f) hx
  · exact n_hap h
  · intro i ci n hx; exact c_cn12 h (i, ci, n) hx
  · exact n_hag htl
  · exact c_n112 h
  · exact c_n212 h
  · intro t ci hx; exact c_at12 h (t, ci) hx
  · intro i n hx; exact c_kI12 h (i, n) hx
  · intro i n hx; exact c_kL12 h (i, n) hx
  · exact c_ob12 h ⟨by rw [hrm]; decide, by rw [hrm]; decide⟩
  · exact c_cp12 h
  · intro ins ct hx; cases hx
def ct_635 : qCt := ((4, [], [(2, 44, [(1, 1)]), (1, 0, []), (0, 0, [(0, 6)])], [([(1, 1)], 44, 0, (2, 42, [(2, 1)])), ([(2, 1)], 42, 8, (2, 5, [(3, 1)])), ([(2, 1)], 42, 7, (0, 0, [])), ([(2, 1)], 42, 9, (0, 0, [])), ([(2, 1)], 42, 10, (0, 0, [])), ([(1, 1)], 44, 3, (0, 0, []))]), (4, [], [(0, 0, [(0, 6)])], [([(2, 1)], 42, 10, (0, 0, [])), ([(2, 1)], 42, 9, (0, 0, [])), ([(1, 1)], 44, 0, (2, 42, [(2, 1)])), ([(2, 1)], 42, 7, (0, 0, [(0, 6)])), ([(2, 1)], 42, 8, (2, 5, [(3, 1)])), ([(1, 1)], 44, 3, (0, 0, []))], []), [], [(5, 0), (42, 7), (42, 9), (42, 10)], 0, 0)
def rm_635 : Room := { frames := 2, cells := 0, slots := 0, locals := 51 }
def e_635 : qEn := (k_13_45, (t_fg12, t_fp12, t_cn12), (t_na12, t_at12), (t_kI12, t_kL12, t_ob12, t_cp12), [(.invokestatic 69, ct_634), (.invokevirtual 254, ct_614)], (q_k (-1), [], []))
def ts_635 : List (qTm × qCert × List qHx) := [((0, (4, [], [(0, (2, 44, [(1, 1)])), (1, (1, 0, [])), (3, (0, 0, [(0, 6)]))], [], [([(1, 1)], 44, 0, (2, 42, [(2, 1)])), ([(2, 1)], 42, 8, (2, 5, [(3, 1)])), ([(2, 1)], 42, 7, (0, 0, [])), ([(2, 1)], 42, 9, (0, 0, [])), ([(2, 1)], 42, 10, (0, 0, [])), ([(1, 1)], 44, 3, (0, 0, []))], 0, 0), []), (1, []), [(0, 0, [], [], []), (0, 0, [], [], []), (0, 0, [], [], []), (0, 0, [], [], []), (0, 0, [], [], [0]), (0, 1, [(1, [])], [], []), (2, 0, [(1, [(1, 1)])], [], []), (0, 0, [], [], []), (0, 1, [(1, [])], [], []), (2, 0, [(1, [(2, 1)])], [], []), (0, 0, [], [], []), (0, 0, [], [], []), (0, 0, [], [], []), (0, 1, [], [], [0]), (0, 1, [], [], [2]), (0, 0, [], [], []), (0, 1, [(1, []), (1, [])], [], []), (0, 0, [], [], []), (0, 0, [], [], []), (0, 0, [], [], []), (0, 0, [], [], []), (0, 1, [(1, []), (1, [])], [], []), (0, 0, [], [], []), (0, 0, [], [], []), (0, 0, [], [], []), (2, 0, [(1, [(4, 1)])], [], []), (0, 0, [], [], []), (0, 1, [], [], [0]), (0, 1, [], [], [1]), (0, 0, [], [], []), (0, 1, [], [], [0]), (0, 1, [], [], [2]), (0, 0, [], [], []), (0, 1, [(1, []), (1, [])], [], []), (0, 0, [], [], []), (0, 1, [(1, []), (1, [])], [], []), (0, 0, [], [], []), (0, 1, [(1, []), (1, [])], [], []), (0, 0, [], [], []), (0, 0, [], [], []), (0, 0, [], [], []), (0, 1, [(1, []), (1, [])], [], []), (0, 0, [], [], []), (0, 0, [], [], []), (0, 0, [], [], []), (0, 0, [], [], []), (0, 0, [(1, [(5, 1)]), (1, [(6, 1)]), (1, []), (1, [])], [], []), (0, 1, [(1, []), (1, [])], [], []), (0, 0, [], [], []), (0, 0, [], [], []), (0, 0, [], [], []), (2, 0, [(1, [(7, 1)])], [], []), (0, 0, [], [], []), (0, 1, [], [], [0]), (0, 1, [], [], [1]), (0, 0, [], [], []), (0, 1, [], [], [0]), (0, 1, [], [], [2]), (0, 0, [], [], []), (0, 1, [(1, []), (1, [])], [], []), (0, 0, [], [], []), (0, 1, [(1, []), (1, [])], [], []), (0, 0, [], [], []), (0, 1, [(1, []), (1, [])], [], []), (0, 0, [], [], []), (0, 0, [], [], []), (0, 0, [], [], []), (0, 1, [(1, []), (1, [])], [], []), (0, 0, [], [], []), (0, 0, [], [], []), (0, 0, [], [], []), (0, 0, [], [], []), (0, 0, [(1, [(8, 1)]), (1, [(9, 1)]), (1, []), (1, [])], [], []), (0, 1, [(1, []), (1, [])], [], []), (0, 0, [], [], []), (0, 0, [], [], []), (0, 0, [], [], []), (2, 0, [(1, [(10, 1)])], [], []), (0, 0, [], [], []), (0, 1, [], [], [0]), (0, 1, [], [], [1]), (0, 0, [], [], []), (0, 1, [], [], [0]), (0, 1, [], [], [2]), (0, 0, [], [], []), (0, 1, [(1, []), (1, [])], [], []), (0, 0, [], [], []), (0, 1, [(1, []), (1, [])], [], []), (0, 0, [], [], []), (0, 1, [(1, []), (1, [])], [], []), (0, 0, [], [], []), (0, 0, [], [], []), (0, 0, [], [], []), (0, 1, [(1, []), (1, [])], [], []), (0, 0, [], [], []), (0, 0, [], [], []), (0, 0, [], [], []), (0, 0, [], [], []), (0, 0, [(1, [(11, 1)]), (1, [(12, 1)]), (1, []), (1, [])], [], []), (0, 1, [(1, []), (1, [])], [], []), (0, 0, [], [], []), (0, 0, [], [], []), (0, 0, [], [], []), (2, 0, [(1, [(13, 1)])], [], []), (0, 0, [], [], []), (0, 1, [], [], [0]), (0, 1, [], [], [1]), (0, 0, [], [], []), (0, 1, [], [], [0]), (0, 1, [], [], [2]), (0, 0, [], [], []), (0, 1, [(1, []), (1, [])], [], []), (0, 0, [], [], []), (0, 1, [(1, []), (1, [])], [], []), (0, 0, [], [], []), (0, 1, [(1, []), (1, [])], [], []), (0, 0, [], [], []), (0, 0, [], [], []), (0, 0, [], [], []), (0, 1, [(1, []), (1, [])], [], []), (0, 0, [], [], []), (0, 0, [], [], []), (0, 0, [], [], []), (0, 0, [], [], []), (0, 0, [(1, [(14, 1)]), (1, [(15, 1)]), (1, []), (1, [])], [], []), (0, 1, [(1, []), (1, [])], [], []), (0, 0, [], [], []), (0, 0, [], [], []), (0, 0, [], [], []), (2, 0, [(1, [(16, 1)])], [], []), (0, 0, [], [], []), (0, 1, [], [], [0]), (0, 1, [], [], [1]), (0, 0, [], [], []), (0, 1, [], [], [0]), (0, 1, [], [], [2]), (0, 0, [], [], []), (0, 1, [(1, []), (1, [])], [], []), (0, 0, [], [], []), (0, 1, [(1, []), (1, [])], [], []), (0, 0, [], [], []), (0, 1, [(1, []), (1, [])], [], []), (0, 0, [], [], []), (0, 0, [], [], []), (0, 0, [], [], []), (0, 1, [(1, []), (1, [])], [], []), (0, 0, [], [], []), (0, 0, [], [], []), (0, 0, [], [], []), (0, 0, [], [], []), (0, 0, [(1, [(17, 1)]), (1, [(18, 1)]), (1, []), (1, [])], [], []), (0, 1, [(1, []), (1, [])], [], []), (0, 0, [], [], []), (0, 0, [], [], []), (0, 0, [], [], []), (2, 0, [(1, [(19, 1)])], [], []), (0, 0, [], [], []), (0, 1, [], [], [0]), (0, 1, [], [], [1]), (0, 0, [], [], []), (0, 1, [], [], [0]), (0, 1, [], [], [2]), (0, 0, [], [], []), (0, 1, [(1, []), (1, [])], [], []), (0, 0, [], [], []), (0, 1, [(1, []), (1, [])], [], []), (0, 0, [], [], []), (0, 1, [(1, []), (1, [])], [], []), (0, 0, [], [], []), (0, 0, [], [], []), (0, 0, [], [], []), (0, 1, [(1, []), (1, [])], [], []), (0, 0, [], [], []), (0, 0, [], [], []), (0, 0, [], [], []), (0, 0, [], [], []), (0, 0, [(1, [(20, 1)]), (1, [(21, 1)]), (1, []), (1, [])], [], []), (0, 1, [(1, []), (1, [])], [], []), (0, 0, [], [], []), (0, 0, [], [], []), (0, 0, [], [], []), (0, 0, [], [], []), (0, 1, [], [], [0]), (0, 0, [], [], []), (0, 1, [], [], [2]), (0, 0, [], [], []), (0, 1, [(1, []), (1, [])], [], []), (0, 2, [(1, []), (1, [])], [], []), (0, 0, [], [], []), (0, 0, [], [[(1, 1)], [(2, 1)]], [1]), (0, 0, [], [], []), (0, 1, [], [], [2]), (0, 1, [], [], [3]), (5, 0, [], [], []), (2, 0, [(1, [(22, 1)])], [], []), (2, 0, [(1, [(3, 1)])], [], []), (2, 0, [(1, [(2, 1)])], [], [])])]
set_option maxRecDepth 100000 in
theorem m_635 (l : Launch) : q_Met l vwCl n_TL n_NW n_KT y_13_45 (Cond.code y_13_45 b_13_45 5 (some .int) :: n_GW) rm_635 ct_635 := by
  refine q_method (E := e_635) ts_635 (by decide) rfl rfl rfl ?_ (by decide +kernel)
  intro C D tys htl hl hrm hm hml ho hts hnm hE
  have h : n_ctx C b_13_45 5 "BalanceCoderModel" D tys := ⟨htl, hm, hml, ho, fun w hw => hts w (List.mem_cons_of_mem _ hw), hE⟩
  refine ⟨⟨?_, ?_⟩, ⟨?_, ?_, ?_, ?_, ?_⟩, ⟨?_, ?_, ?_⟩, ⟨?_, ?_, ?_, ?_⟩, ?_⟩
  · intro i ins len hx; exact kd_13_45 (i, ins, len) hx
  · exact n_at hE.1
  · intro i ci f hx; exact c_fg12 h (i, ci, f) hx
  · intro i ci f hx; exact c_fp12 h (i, ci, f) hx
  · exact n_hap h
  · intro i ci n hx; exact c_cn12 h (i, ci, n) hx
  · exact n_hag htl
  · exact c_n112 h
  · exact c_n212 h
  · intro t ci hx; exact c_at12 h (t, ci) hx
  · intro i n hx; exact c_kI12 h (i, n) hx
  · intro i n hx; exact c_kL12 h (i, n) hx
  · exact c_ob12 h ⟨by rw [hrm]; decide, by rw [hrm]; decide⟩
  · exact c_cp12 h
  · intro ins ct hx
    have g0 : q_Call C b_13_45 D tys n_KT 5 (.invokestatic 69) ct_634 := q_callS n_NWk h.2.2.2.2.2 h.1 (m_634 C.2.1) ⟨h.2.1.1, h.2.1.2, h.2.2.1, h.2.2.2.1, h.2.2.2.2.1⟩ ⟨n_CB (y := y_13_3) (bytes := b_13_3) 3 h.2.2.2.2.1 n_w923 n_w921 n_w12 ⟨by decide, by decide, by decide +kernel⟩ rfl rfl ⟨by rw [hrm]; decide, by rw [hrm]; decide⟩, h.2.2.2.2.1 _ n_w922⟩ rfl
    have g1 : q_Call C b_13_45 D tys n_KT 5 (.invokevirtual 254) ct_614 := q_callV n_NWk h.2.2.2.2.2 h.1 (m_614 C.2.1) ⟨h.2.1.1, h.2.1.2, h.2.2.1, h.2.2.2.1, h.2.2.2.2.1⟩ ⟨n_CB (y := y_13_43) (bytes := b_13_43) 0 h.2.2.2.2.1 n_w1091 n_w1088 n_w12 ⟨by decide, by decide, by decide +kernel⟩ rfl rfl ⟨by rw [hrm]; decide, by rw [hrm]; decide⟩, h.2.2.2.2.1 _ n_w1090, h.2.2.2.2.1 _ n_s49⟩ (Cn := RX12) ⟨44, 12, _, _, _, _, TX12, 31, rfl, rfl, rfl⟩ rfl
    have all : ∀ x ∈ [((.invokestatic 69 : Instr), ct_634), ((.invokevirtual 254 : Instr), ct_614)], q_Call C b_13_45 D tys n_KT 5 x.1 x.2 := (n_mem2 (g0) (n_mem2 (g1) n_mem0))
    exact all (ins, ct) hx
def ct_636 : qCt := ((4, [[(2, 1)], [(0, 255), (2, (-1))]], [(2, 22, [(1, 1)]), (0, 0, [(2, 1)]), (0, 0, [(0, 1)])], [([(1, 1)], 22, 1, (0, 0, [(0, 6)])), ([(1, 1)], 22, 0, (2, 5, [(3, 1)]))]), (4, [], [], [([(1, 1)], 22, 1, (0, 0, [(0, 7)])), ([(1, 1)], 22, 0, (2, 5, [(3, 1)]))], []), [], [(5, 0), (22, 1)], 0, 0)
def rm_636 : Room := { frames := 1, cells := 0, slots := 0, locals := 26 }
def e_636 : qEn := (k_3_6, (t_fg1, t_fp1, t_cn1), (t_na1, t_at1), (t_kI1, t_kL1, t_ob1, t_cp1), [], (q_k (-1), [], []))
def ts_636 : List (qTm × qCert × List qHx) := [((0, (4, [[(2, 1)], [(0, 255), (2, (-1))]], [(0, (2, 22, [(1, 1)])), (1, (0, 0, [(2, 1)])), (2, (0, 0, [(0, 1)]))], [], [([(1, 1)], 22, 1, (0, 0, [(0, 6)])), ([(1, 1)], 22, 0, (2, 5, [(3, 1)]))], 0, 0), []), (1, []), [(0, 0, [], [], []), (0, 0, [], [], []), (0, 1, [(1, []), (1, [])], [], []), (0, 0, [], [], []), (0, 0, [], [], []), (0, 0, [], [], []), (2, 0, [(1, [(2, 1)])], [], []), (0, 0, [], [], []), (0, 1, [], [], [0]), (0, 0, [], [], []), (0, 0, [], [], []), (2, 0, [(1, [(3, 1)])], [], []), (0, 0, [], [], []), (0, 1, [], [], [1]), (0, 0, [], [], []), (0, 1, [], [], [0]), (0, 0, [], [], []), (0, 0, [], [], []), (0, 0, [], [], []), (0, 1, [(1, []), (1, [])], [], []), (0, 0, [], [], []), (0, 0, [], [], []), (0, 1, [], [], []), (0, 0, [(1, [(6, 1)]), (1, [(7, 1)]), (1, []), (1, [])], [], []), (0, 0, [], [], []), (0, 0, [], [], []), (0, 1, [], [], [0]), (0, 0, [], [], []), (0, 1, [(1, []), (1, [])], [], []), (0, 2, [(1, []), (1, [])], [], []), (0, 1, [(1, []), (1, [])], [], []), (0, 0, [], [], []), (0, 0, [], [], []), (0, 0, [], [], []), (5, 0, [], [], []), (2, 0, [(1, [(8, 1)])], [], [])])]
set_option maxRecDepth 100000 in
theorem m_636 (l : Launch) : q_Met l vwCl n_TL n_NW n_KT y_3_6 (Cond.code y_3_6 b_3_6 4 none :: n_GW) rm_636 ct_636 := by
  refine q_method (E := e_636) ts_636 (by decide) rfl rfl rfl ?_ (by decide +kernel)
  intro C D tys htl hl hrm hm hml ho hts hnm hE
  have h : n_ctx C b_3_6 4 "BalanceCoder$Block" D tys := ⟨htl, hm, hml, ho, fun w hw => hts w (List.mem_cons_of_mem _ hw), hE⟩
  refine ⟨⟨?_, ?_⟩, ⟨?_, ?_, ?_, ?_, ?_⟩, ⟨?_, ?_, ?_⟩, ⟨?_, ?_, ?_, ?_⟩, ?_⟩
  · intro i ins len hx; exact kd_3_6 (i, ins, len) hx
  · exact n_at hE.1
  · intro i ci f hx; exact c_fg1 h (i, ci, f) hx
  · intro i ci f hx; exact c_fp1 h (i, ci, f) hx
  · exact n_hap h
  · intro i ci n hx; exact c_cn1 h (i, ci, n) hx
  · exact n_hag htl
  · exact c_n11 h
  · exact c_n21 h
  · intro t ci hx; exact c_at1 h (t, ci) hx
  · intro i n hx; exact c_kI1 h (i, n) hx
  · intro i n hx; exact c_kL1 h (i, n) hx
  · exact c_ob1 h ⟨by rw [hrm]; decide, by rw [hrm]; decide⟩
  · exact c_cp1 h ⟨by rw [hrm]; decide, by rw [hrm]; decide +kernel⟩
  · intro ins ct hx; cases hx
def ct_637 : qCt := ((5, [], [(2, 40, [(1, 1)]), (1, 0, []), (0, 0, [(0, 7)])], [([(1, 1)], 40, 7, (0, 0, [])), ([(1, 1)], 40, 0, (2, 38, [(2, 1)])), ([(2, 1)], 38, 3, (2, 22, [(3, 1)])), ([(3, 1)], 22, 4, (0, 0, [])), ([(3, 1)], 22, 2, (0, 0, [])), ([(3, 1)], 22, 1, (0, 0, [])), ([(3, 1)], 22, 0, (2, 5, [(4, 1)]))]), (5, [], [(0, 0, [(0, 7)])], [([(3, 1)], 22, 4, (0, 0, [])), ([(3, 1)], 22, 2, (0, 0, [])), ([(3, 1)], 22, 1, (0, 0, [(0, 7)])), ([(3, 1)], 22, 0, (2, 5, [(4, 1)])), ([(1, 1)], 40, 7, (0, 0, [])), ([(1, 1)], 40, 0, (2, 38, [(2, 1)])), ([(2, 1)], 38, 3, (2, 22, [(3, 1)]))], []), [], [(5, 0), (22, 1), (22, 2), (22, 4)], 0, 0)
def rm_637 : Room := { frames := 2, cells := 0, slots := 0, locals := 49 }
def e_637 : qEn := (k_1_17, (t_fg10, t_fp10, t_cn10), (t_na10, t_at10), (t_kI10, t_kL10, t_ob10, t_cp10), [(.invokestatic 64, ct_56), (.invokevirtual 189, ct_610), (.invokestatic 64, ct_51), (.invokevirtual 189, ct_616), (.invokestatic 64, ct_46), (.invokevirtual 189, ct_620), (.invokestatic 64, ct_41), (.invokevirtual 189, ct_624), (.invokestatic 64, ct_36), (.invokevirtual 189, ct_628), (.invokestatic 64, ct_31), (.invokevirtual 189, ct_632), (.invokestatic 64, ct_26), (.invokevirtual 189, ct_636), (.invokevirtual 186, ct_611)], (q_k (-1), [], []))
def ts_637 : List (qTm × qCert × List qHx) := [((0, (5, [], [(0, (2, 40, [(1, 1)])), (1, (1, 0, [])), (3, (0, 0, [(0, 7)]))], [], [([(1, 1)], 40, 7, (0, 0, [])), ([(1, 1)], 40, 0, (2, 38, [(2, 1)])), ([(2, 1)], 38, 3, (2, 22, [(3, 1)])), ([(3, 1)], 22, 4, (0, 0, [])), ([(3, 1)], 22, 2, (0, 0, [])), ([(3, 1)], 22, 1, (0, 0, [])), ([(3, 1)], 22, 0, (2, 5, [(4, 1)]))], 0, 0), []), (1, []), [(0, 0, [], [], []), (0, 1, [], [], [1]), (0, 1, [], [], [2]), (0, 0, [], [], []), (0, 0, [], [], []), (0, 0, [], [], []), (0, 0, [], [], []), (2, 0, [(1, [(0, 1)])], [], []), (0, 0, [], [], []), (0, 1, [(1, [])], [], []), (2, 0, [(1, [(2, 1)])], [], []), (0, 0, [], [], []), (0, 0, [], [], []), (0, 0, [], [], []), (2, 0, [(1, [(2, 1)])], [], []), (0, 0, [], [], []), (0, 0, [], [], []), (0, 1, [], [], [5]), (0, 1, [(1, [])], [], []), (0, 0, [], [], []), (0, 0, [], [], []), (0, 0, [], [], []), (0, 0, [], [], []), (0, 1, [], [], [5]), (0, 1, [(1, []), (1, [])], [], []), (0, 0, [], [], []), (0, 0, [], [], []), (0, 0, [], [], []), (0, 0, [], [], []), (0, 0, [], [], []), (0, 1, [(1, []), (1, [])], [], []), (0, 0, [], [], []), (0, 0, [], [], []), (0, 0, [], [], []), (2, 0, [(1, [(6, 1)])], [], []), (0, 0, [], [], []), (0, 0, [], [], []), (0, 0, [], [], []), (0, 0, [], [], [0]), (0, 0, [], [], []), (0, 0, [(1, [(7, 1)]), (1, [(8, 1)])], [[(3, 1)], [(5, 1)], [(4, 1)]], [1]), (0, 1, [(1, []), (1, [])], [], []), (0, 0, [], [], []), (0, 0, [], [], []), (0, 0, [], [], []), (2, 0, [(1, [(9, 1)])], [], []), (0, 0, [], [], []), (0, 0, [], [], []), (0, 0, [], [], []), (0, 0, [], [], [2]), (0, 0, [], [], []), (0, 0, [(1, [(10, 1)]), (1, [(11, 1)])], [[(3, 1)], [(6, 1)], [(4, 1)]], [3]), (0, 1, [(1, []), (1, [])], [], []), (0, 0, [], [], []), (0, 0, [], [], []), (0, 0, [], [], []), (2, 0, [(1, [(12, 1)])], [], []), (0, 0, [], [], []), (0, 0, [], [], []), (0, 0, [], [], []), (0, 0, [], [], [4]), (0, 0, [], [], []), (0, 0, [(1, [(13, 1)]), (1, [(14, 1)])], [[(3, 1)], [(7, 1)], [(4, 1)]], [5]), (0, 1, [(1, []), (1, [])], [], []), (0, 0, [], [], []), (0, 0, [], [], []), (0, 0, [], [], []), (2, 0, [(1, [(15, 1)])], [], []), (0, 0, [], [], []), (0, 0, [], [], []), (0, 0, [], [], []), (0, 0, [], [], [6]), (0, 0, [], [], []), (0, 0, [(1, [(16, 1)]), (1, [(17, 1)])], [[(3, 1)], [(8, 1)], [(4, 1)]], [7]), (0, 1, [(1, []), (1, [])], [], []), (0, 0, [], [], []), (0, 0, [], [], []), (0, 0, [], [], []), (2, 0, [(1, [(18, 1)])], [], []), (0, 0, [], [], []), (0, 0, [], [], []), (0, 0, [], [], []), (0, 0, [], [], [8]), (0, 0, [], [], []), (0, 0, [(1, [(19, 1)]), (1, [(20, 1)])], [[(3, 1)], [(9, 1)], [(4, 1)]], [9]), (0, 1, [(1, []), (1, [])], [], []), (0, 0, [], [], []), (0, 0, [], [], []), (0, 0, [], [], []), (2, 0, [(1, [(21, 1)])], [], []), (0, 0, [], [], []), (0, 0, [], [], []), (0, 0, [], [], []), (0, 0, [], [], [10]), (0, 0, [], [], []), (0, 0, [(1, [(22, 1)]), (1, [(23, 1)])], [[(3, 1)], [(10, 1)], [(4, 1)]], [11]), (0, 1, [(1, []), (1, [])], [], []), (0, 0, [], [], []), (0, 0, [], [], []), (0, 0, [], [], []), (2, 0, [(1, [(24, 1)])], [], []), (0, 0, [], [], []), (0, 0, [], [], []), (0, 0, [], [], []), (0, 0, [], [], [12]), (0, 0, [], [], []), (0, 0, [(1, [(25, 1)]), (1, [(26, 1)])], [[(3, 1)], [(11, 1)], [(4, 1)]], [13]), (0, 1, [(1, []), (1, [])], [], []), (0, 0, [], [], []), (0, 0, [], [], []), (0, 0, [], [], []), (0, 0, [], [], []), (0, 0, [], [[(3, 1)]], [14]), (0, 0, [], [], []), (0, 1, [], [], [2]), (5, 0, [], [], []), (2, 0, [(1, [(27, 1)])], [], []), (2, 0, [(1, [(5, 1)])], [], []), (2, 0, [(1, [(4, 1)])], [], []), (2, 0, [(1, [(3, 1)])], [], [])])]
set_option maxRecDepth 100000 in
theorem m_637 (l : Launch) : q_Met l vwCl n_TL n_NW n_KT y_1_17 (Cond.code y_1_17 b_1_17 6 (some .int) :: n_GW) rm_637 ct_637 := by
  refine q_method (E := e_637) ts_637 (by decide) rfl rfl rfl ?_ (by decide +kernel)
  intro C D tys htl hl hrm hm hml ho hts hnm hE
  have h : n_ctx C b_1_17 6 "BalanceCoder" D tys := ⟨htl, hm, hml, ho, fun w hw => hts w (List.mem_cons_of_mem _ hw), hE⟩
  refine ⟨⟨?_, ?_⟩, ⟨?_, ?_, ?_, ?_, ?_⟩, ⟨?_, ?_, ?_⟩, ⟨?_, ?_, ?_, ?_⟩, ?_⟩
  · intro i ins len hx; exact kd_1_17 (i, ins, len) hx
  · exact n_at hE.1
  · intro i ci f hx; exact c_fg10 h (i, ci, f) hx
  · intro i ci f hx; exact c_fp10 h (i, ci, f) hx
  · exact n_hap h
  · intro i ci n hx; exact c_cn10 h (i, ci, n) hx
  · exact n_hag htl
  · exact c_n110 h
  · exact c_n210 h
  · intro t ci hx; exact c_at10 h (t, ci) hx
  · intro i n hx; exact c_kI10 h (i, n) hx
  · intro i n hx; exact c_kL10 h (i, n) hx
  · exact c_ob10 h ⟨by rw [hrm]; decide, by rw [hrm]; decide⟩
  · exact c_cp10 h
  · intro ins ct hx
    have g0 : q_Call C b_1_17 D tys n_KT 6 (.invokestatic 64) ct_56 := q_callS n_NWk h.2.2.2.2.2 h.1 (m_56 C.2.1) ⟨h.2.1.1, h.2.1.2, h.2.2.1, h.2.2.2.1, h.2.2.2.2.1⟩ ⟨n_CB (y := y_1_33) (bytes := b_1_33) 2 h.2.2.2.2.1 n_w312 n_w310 n_w1 ⟨by decide, by decide, by decide +kernel⟩ rfl rfl ⟨by rw [hrm]; decide, by rw [hrm]; decide⟩, h.2.2.2.2.1 _ n_w311⟩ rfl
    have g1 : q_Call C b_1_17 D tys n_KT 6 (.invokevirtual 189) ct_610 := q_callV n_NWk h.2.2.2.2.2 h.1 (m_610 C.2.1) ⟨h.2.1.1, h.2.1.2, h.2.2.1, h.2.2.2.1, h.2.2.2.2.1⟩ ⟨n_CB (y := y_3_6) (bytes := b_3_6) 2 h.2.2.2.2.1 n_w568 n_w676 n_w3 ⟨by decide, by decide, by decide +kernel⟩ rfl rfl ⟨by rw [hrm]; decide, by rw [hrm]; decide⟩, h.2.2.2.2.1 _ n_w566, h.2.2.2.2.1 _ n_w567⟩ (Cn := RX1) ⟨22, 1, _, _, _, _, TX1, 5, rfl, rfl, rfl⟩ rfl
    have g2 : q_Call C b_1_17 D tys n_KT 6 (.invokestatic 64) ct_51 := q_callS n_NWk h.2.2.2.2.2 h.1 (m_51 C.2.1) ⟨h.2.1.1, h.2.1.2, h.2.2.1, h.2.2.2.1, h.2.2.2.2.1⟩ ⟨n_CB (y := y_1_33) (bytes := b_1_33) 2 h.2.2.2.2.1 n_w312 n_w310 n_w1 ⟨by decide, by decide, by decide +kernel⟩ rfl rfl ⟨by rw [hrm]; decide, by rw [hrm]; decide⟩, h.2.2.2.2.1 _ n_w311⟩ rfl
    have g3 : q_Call C b_1_17 D tys n_KT 6 (.invokevirtual 189) ct_616 := q_callV n_NWk h.2.2.2.2.2 h.1 (m_616 C.2.1) ⟨h.2.1.1, h.2.1.2, h.2.2.1, h.2.2.2.1, h.2.2.2.2.1⟩ ⟨n_CB (y := y_3_6) (bytes := b_3_6) 2 h.2.2.2.2.1 n_w568 n_w676 n_w3 ⟨by decide, by decide, by decide +kernel⟩ rfl rfl ⟨by rw [hrm]; decide, by rw [hrm]; decide⟩, h.2.2.2.2.1 _ n_w566, h.2.2.2.2.1 _ n_w567⟩ (Cn := RX1) ⟨22, 1, _, _, _, _, TX1, 5, rfl, rfl, rfl⟩ rfl
    have g4 : q_Call C b_1_17 D tys n_KT 6 (.invokestatic 64) ct_46 := q_callS n_NWk h.2.2.2.2.2 h.1 (m_46 C.2.1) ⟨h.2.1.1, h.2.1.2, h.2.2.1, h.2.2.2.1, h.2.2.2.2.1⟩ ⟨n_CB (y := y_1_33) (bytes := b_1_33) 2 h.2.2.2.2.1 n_w312 n_w310 n_w1 ⟨by decide, by decide, by decide +kernel⟩ rfl rfl ⟨by rw [hrm]; decide, by rw [hrm]; decide⟩, h.2.2.2.2.1 _ n_w311⟩ rfl
    have g5 : q_Call C b_1_17 D tys n_KT 6 (.invokevirtual 189) ct_620 := q_callV n_NWk h.2.2.2.2.2 h.1 (m_620 C.2.1) ⟨h.2.1.1, h.2.1.2, h.2.2.1, h.2.2.2.1, h.2.2.2.2.1⟩ ⟨n_CB (y := y_3_6) (bytes := b_3_6) 2 h.2.2.2.2.1 n_w568 n_w676 n_w3 ⟨by decide, by decide, by decide +kernel⟩ rfl rfl ⟨by rw [hrm]; decide, by rw [hrm]; decide⟩, h.2.2.2.2.1 _ n_w566, h.2.2.2.2.1 _ n_w567⟩ (Cn := RX1) ⟨22, 1, _, _, _, _, TX1, 5, rfl, rfl, rfl⟩ rfl
    have g6 : q_Call C b_1_17 D tys n_KT 6 (.invokestatic 64) ct_41 := q_callS n_NWk h.2.2.2.2.2 h.1 (m_41 C.2.1) ⟨h.2.1.1, h.2.1.2, h.2.2.1, h.2.2.2.1, h.2.2.2.2.1⟩ ⟨n_CB (y := y_1_33) (bytes := b_1_33) 2 h.2.2.2.2.1 n_w312 n_w310 n_w1 ⟨by decide, by decide, by decide +kernel⟩ rfl rfl ⟨by rw [hrm]; decide, by rw [hrm]; decide⟩, h.2.2.2.2.1 _ n_w311⟩ rfl
    have g7 : q_Call C b_1_17 D tys n_KT 6 (.invokevirtual 189) ct_624 := q_callV n_NWk h.2.2.2.2.2 h.1 (m_624 C.2.1) ⟨h.2.1.1, h.2.1.2, h.2.2.1, h.2.2.2.1, h.2.2.2.2.1⟩ ⟨n_CB (y := y_3_6) (bytes := b_3_6) 2 h.2.2.2.2.1 n_w568 n_w676 n_w3 ⟨by decide, by decide, by decide +kernel⟩ rfl rfl ⟨by rw [hrm]; decide, by rw [hrm]; decide⟩, h.2.2.2.2.1 _ n_w566, h.2.2.2.2.1 _ n_w567⟩ (Cn := RX1) ⟨22, 1, _, _, _, _, TX1, 5, rfl, rfl, rfl⟩ rfl
    have g8 : q_Call C b_1_17 D tys n_KT 6 (.invokestatic 64) ct_36 := q_callS n_NWk h.2.2.2.2.2 h.1 (m_36 C.2.1) ⟨h.2.1.1, h.2.1.2, h.2.2.1, h.2.2.2.1, h.2.2.2.2.1⟩ ⟨n_CB (y := y_1_33) (bytes := b_1_33) 2 h.2.2.2.2.1 n_w312 n_w310 n_w1 ⟨by decide, by decide, by decide +kernel⟩ rfl rfl ⟨by rw [hrm]; decide, by rw [hrm]; decide⟩, h.2.2.2.2.1 _ n_w311⟩ rfl
    have g9 : q_Call C b_1_17 D tys n_KT 6 (.invokevirtual 189) ct_628 := q_callV n_NWk h.2.2.2.2.2 h.1 (m_628 C.2.1) ⟨h.2.1.1, h.2.1.2, h.2.2.1, h.2.2.2.1, h.2.2.2.2.1⟩ ⟨n_CB (y := y_3_6) (bytes := b_3_6) 2 h.2.2.2.2.1 n_w568 n_w676 n_w3 ⟨by decide, by decide, by decide +kernel⟩ rfl rfl ⟨by rw [hrm]; decide, by rw [hrm]; decide⟩, h.2.2.2.2.1 _ n_w566, h.2.2.2.2.1 _ n_w567⟩ (Cn := RX1) ⟨22, 1, _, _, _, _, TX1, 5, rfl, rfl, rfl⟩ rfl
    have g10 : q_Call C b_1_17 D tys n_KT 6 (.invokestatic 64) ct_31 := q_callS n_NWk h.2.2.2.2.2 h.1 (m_31 C.2.1) ⟨h.2.1.1, h.2.1.2, h.2.2.1, h.2.2.2.1, h.2.2.2.2.1⟩ ⟨n_CB (y := y_1_33) (bytes := b_1_33) 2 h.2.2.2.2.1 n_w312 n_w310 n_w1 ⟨by decide, by decide, by decide +kernel⟩ rfl rfl ⟨by rw [hrm]; decide, by rw [hrm]; decide⟩, h.2.2.2.2.1 _ n_w311⟩ rfl
    have g11 : q_Call C b_1_17 D tys n_KT 6 (.invokevirtual 189) ct_632 := q_callV n_NWk h.2.2.2.2.2 h.1 (m_632 C.2.1) ⟨h.2.1.1, h.2.1.2, h.2.2.1, h.2.2.2.1, h.2.2.2.2.1⟩ ⟨n_CB (y := y_3_6) (bytes := b_3_6) 2 h.2.2.2.2.1 n_w568 n_w676 n_w3 ⟨by decide, by decide, by decide +kernel⟩ rfl rfl ⟨by rw [hrm]; decide, by rw [hrm]; decide⟩, h.2.2.2.2.1 _ n_w566, h.2.2.2.2.1 _ n_w567⟩ (Cn := RX1) ⟨22, 1, _, _, _, _, TX1, 5, rfl, rfl, rfl⟩ rfl
    have g12 : q_Call C b_1_17 D tys n_KT 6 (.invokestatic 64) ct_26 := q_callS n_NWk h.2.2.2.2.2 h.1 (m_26 C.2.1) ⟨h.2.1.1, h.2.1.2, h.2.2.1, h.2.2.2.1, h.2.2.2.2.1⟩ ⟨n_CB (y := y_1_33) (bytes := b_1_33) 2 h.2.2.2.2.1 n_w312 n_w310 n_w1 ⟨by decide, by decide, by decide +kernel⟩ rfl rfl ⟨by rw [hrm]; decide, by rw [hrm]; decide⟩, h.2.2.2.2.1 _ n_w311⟩ rfl
    have g13 : q_Call C b_1_17 D tys n_KT 6 (.invokevirtual 189) ct_636 := q_callV n_NWk h.2.2.2.2.2 h.1 (m_636 C.2.1) ⟨h.2.1.1, h.2.1.2, h.2.2.1, h.2.2.2.1, h.2.2.2.2.1⟩ ⟨n_CB (y := y_3_6) (bytes := b_3_6) 2 h.2.2.2.2.1 n_w568 n_w676 n_w3 ⟨by decide, by decide, by decide +kernel⟩ rfl rfl ⟨by rw [hrm]; decide, by rw [hrm]; decide⟩, h.2.2.2.2.1 _ n_w566, h.2.2.2.2.1 _ n_w567⟩ (Cn := RX1) ⟨22, 1, _, _, _, _, TX1, 5, rfl, rfl, rfl⟩ rfl
    have g14 : q_Call C b_1_17 D tys n_KT 6 (.invokevirtual 186) ct_611 := q_callV n_NWk h.2.2.2.2.2 h.1 (m_611 C.2.1) ⟨h.2.1.1, h.2.1.2, h.2.2.1, h.2.2.2.1, h.2.2.2.2.1⟩ ⟨n_CB (y := y_3_4) (bytes := b_3_4) 0 h.2.2.2.2.1 n_w671 n_w668 n_w3 ⟨by decide, by decide, by decide +kernel⟩ rfl rfl ⟨by rw [hrm]; decide, by rw [hrm]; decide⟩, h.2.2.2.2.1 _ n_w669, h.2.2.2.2.1 _ n_w670⟩ (Cn := RX1) ⟨22, 1, _, _, _, _, TX1, 5, rfl, rfl, rfl⟩ rfl
    have all : ∀ x ∈ [((.invokestatic 64 : Instr), ct_56), ((.invokevirtual 189 : Instr), ct_610), ((.invokestatic 64 : Instr), ct_51), ((.invokevirtual 189 : Instr), ct_616), ((.invokestatic 64 : Instr), ct_46), ((.invokevirtual 189 : Instr), ct_620), ((.invokestatic 64 : Instr), ct_41), ((.invokevirtual 189 : Instr), ct_624), ((.invokestatic 64 : Instr), ct_36), ((.invokevirtual 189 : Instr), ct_628), ((.invokestatic 64 : Instr), ct_31), ((.invokevirtual 189 : Instr), ct_632), ((.invokestatic 64 : Instr), ct_26), ((.invokevirtual 189 : Instr), ct_636), ((.invokevirtual 186 : Instr), ct_611)], q_Call C b_1_17 D tys n_KT 6 x.1 x.2 := (n_mem2 (g0) (n_mem2 (g1) (n_mem2 (g2) (n_mem2 (g3) (n_mem2 (g4) (n_mem2 (g5) (n_mem2 (g6) (n_mem2 (g7) (n_mem2 (g8) (n_mem2 (g9) (n_mem2 (g10) (n_mem2 (g11) (n_mem2 (g12) (n_mem2 (g13) (n_mem2 (g14) n_mem0)))))))))))))))
    exact all (ins, ct) hx
def ct_638 : qCt := ((1, [], [(5, 0, [(0, 7)]), (5, 0, [(0, (-400))]), (5, 0, [(0, 8)])], []), (1, [], [(0, 0, [(0, 1)])], [], []), [], [], 0, 0)
def rm_638 : Room := { frames := 1, cells := 0, slots := 0, locals := 26 }
def e_638 : qEn := (k_13_3, (t_fg12, t_fp12, t_cn12), (t_na12, t_at12), (t_kI12, t_kL12, t_ob12, t_cp12), [], (q_k (-1), [], []))
def ts_638 : List (qTm × qCert × List qHx) := [((0, (1, [], [(0, (5, 0, [(0, 7)])), (2, (5, 0, [(0, (-400))])), (4, (5, 0, [(0, 8)]))], [], [], 0, 0), []), (1, []), [(0, 0, [], [], []), (0, 0, [], [], []), (0, 1, [(1, [])], [], []), (0, 0, [], [], []), (2, 0, [(1, [(0, 1)])], [], []), (0, 0, [], [], []), (0, 0, [], [], []), (0, 3, [(1, [])], [], []), (0, 0, [], [], []), (2, 0, [(1, [(1, 1)])], [], []), (0, 0, [], [], []), (0, 0, [], [], []), (5, 0, [(1, []), (1, [])], [], [])])]
set_option maxRecDepth 100000 in
theorem m_638 (l : Launch) : q_Met l vwCl n_TL n_NW n_KT y_13_3 (Cond.code y_13_3 b_13_3 6 (some .boolean) :: n_GW) rm_638 ct_638 := by
  refine q_method (E := e_638) ts_638 (by decide) rfl rfl rfl ?_ (by decide +kernel)
  intro C D tys htl hl hrm hm hml ho hts hnm hE
  have h : n_ctx C b_13_3 6 "BalanceCoderModel" D tys := ⟨htl, hm, hml, ho, fun w hw => hts w (List.mem_cons_of_mem _ hw), hE⟩
  refine ⟨⟨?_, ?_⟩, ⟨?_, ?_, ?_, ?_, ?_⟩, ⟨?_, ?_, ?_⟩, ⟨?_, ?_, ?_, ?_⟩, ?_⟩
  · intro i ins len hx; exact kd_13_3 (i, ins, len) hx
  · exact n_at hE.1
  · intro i ci f hx; exact c_fg12 h (i, ci, f) hx
  · intro i ci f hx; exact c_fp12 h (i, ci, f) hx
  · exact n_hap h
  · intro i ci n hx; exact c_cn12 h (i, ci, n) hx
  · exact n_hag htl
  · exact c_n112 h
  · exact c_n212 h
  · intro t ci hx; exact c_at12 h (t, ci) hx
  · intro i n hx; exact c_kI12 h (i, n) hx
  · intro i n hx; exact c_kL12 h (i, n) hx
  · exact c_ob12 h ⟨by rw [hrm]; decide, by rw [hrm]; decide⟩
  · exact c_cp12 h
  · intro ins ct hx; cases hx
def ct_639 : qCt := ((4, [], [(2, 44, [(1, 1)]), (1, 0, []), (0, 0, [(0, 7)])], [([(1, 1)], 44, 0, (2, 42, [(2, 1)])), ([(2, 1)], 42, 8, (2, 5, [(3, 1)])), ([(2, 1)], 42, 7, (0, 0, [])), ([(2, 1)], 42, 9, (0, 0, [])), ([(2, 1)], 42, 10, (0, 0, [])), ([(1, 1)], 44, 3, (0, 0, []))]), (4, [], [(0, 0, [(0, 7)])], [([(2, 1)], 42, 10, (0, 0, [])), ([(2, 1)], 42, 9, (0, 0, [])), ([(1, 1)], 44, 0, (2, 42, [(2, 1)])), ([(2, 1)], 42, 7, (0, 0, [(0, 7)])), ([(2, 1)], 42, 8, (2, 5, [(3, 1)])), ([(1, 1)], 44, 3, (0, 0, []))], []), [], [(5, 0), (42, 7), (42, 9), (42, 10)], 0, 0)
def rm_639 : Room := { frames := 2, cells := 0, slots := 0, locals := 51 }
def e_639 : qEn := (k_13_45, (t_fg12, t_fp12, t_cn12), (t_na12, t_at12), (t_kI12, t_kL12, t_ob12, t_cp12), [(.invokestatic 69, ct_638), (.invokevirtual 254, ct_614)], (q_k (-1), [], []))
def ts_639 : List (qTm × qCert × List qHx) := [((0, (4, [], [(0, (2, 44, [(1, 1)])), (1, (1, 0, [])), (3, (0, 0, [(0, 7)]))], [], [([(1, 1)], 44, 0, (2, 42, [(2, 1)])), ([(2, 1)], 42, 8, (2, 5, [(3, 1)])), ([(2, 1)], 42, 7, (0, 0, [])), ([(2, 1)], 42, 9, (0, 0, [])), ([(2, 1)], 42, 10, (0, 0, [])), ([(1, 1)], 44, 3, (0, 0, []))], 0, 0), []), (1, []), [(0, 0, [], [], []), (0, 0, [], [], []), (0, 0, [], [], []), (0, 0, [], [], []), (0, 0, [], [], [0]), (0, 1, [(1, [])], [], []), (2, 0, [(1, [(1, 1)])], [], []), (0, 0, [], [], []), (0, 1, [(1, [])], [], []), (2, 0, [(1, [(2, 1)])], [], []), (0, 0, [], [], []), (0, 0, [], [], []), (0, 0, [], [], []), (0, 1, [], [], [0]), (0, 1, [], [], [2]), (0, 0, [], [], []), (0, 1, [(1, []), (1, [])], [], []), (0, 0, [], [], []), (0, 0, [], [], []), (0, 0, [], [], []), (0, 0, [], [], []), (0, 1, [(1, []), (1, [])], [], []), (0, 0, [], [], []), (0, 0, [], [], []), (0, 0, [], [], []), (2, 0, [(1, [(4, 1)])], [], []), (0, 0, [], [], []), (0, 1, [], [], [0]), (0, 1, [], [], [1]), (0, 0, [], [], []), (0, 1, [], [], [0]), (0, 1, [], [], [2]), (0, 0, [], [], []), (0, 1, [(1, []), (1, [])], [], []), (0, 0, [], [], []), (0, 1, [(1, []), (1, [])], [], []), (0, 0, [], [], []), (0, 1, [(1, []), (1, [])], [], []), (0, 0, [], [], []), (0, 0, [], [], []), (0, 0, [], [], []), (0, 1, [(1, []), (1, [])], [], []), (0, 0, [], [], []), (0, 0, [], [], []), (0, 0, [], [], []), (0, 0, [], [], []), (0, 0, [(1, [(5, 1)]), (1, [(6, 1)]), (1, []), (1, [])], [], []), (0, 1, [(1, []), (1, [])], [], []), (0, 0, [], [], []), (0, 0, [], [], []), (0, 0, [], [], []), (2, 0, [(1, [(7, 1)])], [], []), (0, 0, [], [], []), (0, 1, [], [], [0]), (0, 1, [], [], [1]), (0, 0, [], [], []), (0, 1, [], [], [0]), (0, 1, [], [], [2]), (0, 0, [], [], []), (0, 1, [(1, []), (1, [])], [], []), (0, 0, [], [], []), (0, 1, [(1, []), (1, [])], [], []), (0, 0, [], [], []), (0, 1, [(1, []), (1, [])], [], []), (0, 0, [], [], []), (0, 0, [], [], []), (0, 0, [], [], []), (0, 1, [(1, []), (1, [])], [], []), (0, 0, [], [], []), (0, 0, [], [], []), (0, 0, [], [], []), (0, 0, [], [], []), (0, 0, [(1, [(8, 1)]), (1, [(9, 1)]), (1, []), (1, [])], [], []), (0, 1, [(1, []), (1, [])], [], []), (0, 0, [], [], []), (0, 0, [], [], []), (0, 0, [], [], []), (2, 0, [(1, [(10, 1)])], [], []), (0, 0, [], [], []), (0, 1, [], [], [0]), (0, 1, [], [], [1]), (0, 0, [], [], []), (0, 1, [], [], [0]), (0, 1, [], [], [2]), (0, 0, [], [], []), (0, 1, [(1, []), (1, [])], [], []), (0, 0, [], [], []), (0, 1, [(1, []), (1, [])], [], []), (0, 0, [], [], []), (0, 1, [(1, []), (1, [])], [], []), (0, 0, [], [], []), (0, 0, [], [], []), (0, 0, [], [], []), (0, 1, [(1, []), (1, [])], [], []), (0, 0, [], [], []), (0, 0, [], [], []), (0, 0, [], [], []), (0, 0, [], [], []), (0, 0, [(1, [(11, 1)]), (1, [(12, 1)]), (1, []), (1, [])], [], []), (0, 1, [(1, []), (1, [])], [], []), (0, 0, [], [], []), (0, 0, [], [], []), (0, 0, [], [], []), (2, 0, [(1, [(13, 1)])], [], []), (0, 0, [], [], []), (0, 1, [], [], [0]), (0, 1, [], [], [1]), (0, 0, [], [], []), (0, 1, [], [], [0]), (0, 1, [], [], [2]), (0, 0, [], [], []), (0, 1, [(1, []), (1, [])], [], []), (0, 0, [], [], []), (0, 1, [(1, []), (1, [])], [], []), (0, 0, [], [], []), (0, 1, [(1, []), (1, [])], [], []), (0, 0, [], [], []), (0, 0, [], [], []), (0, 0, [], [], []), (0, 1, [(1, []), (1, [])], [], []), (0, 0, [], [], []), (0, 0, [], [], []), (0, 0, [], [], []), (0, 0, [], [], []), (0, 0, [(1, [(14, 1)]), (1, [(15, 1)]), (1, []), (1, [])], [], []), (0, 1, [(1, []), (1, [])], [], []), (0, 0, [], [], []), (0, 0, [], [], []), (0, 0, [], [], []), (2, 0, [(1, [(16, 1)])], [], []), (0, 0, [], [], []), (0, 1, [], [], [0]), (0, 1, [], [], [1]), (0, 0, [], [], []), (0, 1, [], [], [0]), (0, 1, [], [], [2]), (0, 0, [], [], []), (0, 1, [(1, []), (1, [])], [], []), (0, 0, [], [], []), (0, 1, [(1, []), (1, [])], [], []), (0, 0, [], [], []), (0, 1, [(1, []), (1, [])], [], []), (0, 0, [], [], []), (0, 0, [], [], []), (0, 0, [], [], []), (0, 1, [(1, []), (1, [])], [], []), (0, 0, [], [], []), (0, 0, [], [], []), (0, 0, [], [], []), (0, 0, [], [], []), (0, 0, [(1, [(17, 1)]), (1, [(18, 1)]), (1, []), (1, [])], [], []), (0, 1, [(1, []), (1, [])], [], []), (0, 0, [], [], []), (0, 0, [], [], []), (0, 0, [], [], []), (2, 0, [(1, [(19, 1)])], [], []), (0, 0, [], [], []), (0, 1, [], [], [0]), (0, 1, [], [], [1]), (0, 0, [], [], []), (0, 1, [], [], [0]), (0, 1, [], [], [2]), (0, 0, [], [], []), (0, 1, [(1, []), (1, [])], [], []), (0, 0, [], [], []), (0, 1, [(1, []), (1, [])], [], []), (0, 0, [], [], []), (0, 1, [(1, []), (1, [])], [], []), (0, 0, [], [], []), (0, 0, [], [], []), (0, 0, [], [], []), (0, 1, [(1, []), (1, [])], [], []), (0, 0, [], [], []), (0, 0, [], [], []), (0, 0, [], [], []), (0, 0, [], [], []), (0, 0, [(1, [(20, 1)]), (1, [(21, 1)]), (1, []), (1, [])], [], []), (0, 1, [(1, []), (1, [])], [], []), (0, 0, [], [], []), (0, 0, [], [], []), (0, 0, [], [], []), (2, 0, [(1, [(22, 1)])], [], []), (0, 0, [], [], []), (0, 1, [], [], [0]), (0, 1, [], [], [1]), (0, 0, [], [], []), (0, 1, [], [], [0]), (0, 1, [], [], [2]), (0, 0, [], [], []), (0, 1, [(1, []), (1, [])], [], []), (0, 0, [], [], []), (0, 1, [(1, []), (1, [])], [], []), (0, 0, [], [], []), (0, 1, [(1, []), (1, [])], [], []), (0, 0, [], [], []), (0, 0, [], [], []), (0, 0, [], [], []), (0, 1, [(1, []), (1, [])], [], []), (0, 0, [], [], []), (0, 0, [], [], []), (0, 0, [], [], []), (0, 0, [], [], []), (0, 0, [(1, [(23, 1)]), (1, [(24, 1)]), (1, []), (1, [])], [], []), (0, 1, [(1, []), (1, [])], [], []), (0, 0, [], [], []), (0, 0, [], [], []), (0, 0, [], [], []), (0, 0, [], [], []), (0, 1, [], [], [0]), (0, 0, [], [], []), (0, 1, [], [], [2]), (0, 0, [], [], []), (0, 1, [(1, []), (1, [])], [], []), (0, 2, [(1, []), (1, [])], [], []), (0, 0, [], [], []), (0, 0, [], [[(1, 1)], [(2, 1)]], [1]), (0, 0, [], [], []), (0, 1, [], [], [2]), (0, 1, [], [], [3]), (5, 0, [], [], []), (2, 0, [(1, [(25, 1)])], [], []), (2, 0, [(1, [(3, 1)])], [], []), (2, 0, [(1, [(2, 1)])], [], [])])]
set_option maxRecDepth 100000 in
theorem m_639 (l : Launch) : q_Met l vwCl n_TL n_NW n_KT y_13_45 (Cond.code y_13_45 b_13_45 5 (some .int) :: n_GW) rm_639 ct_639 := by
  refine q_method (E := e_639) ts_639 (by decide) rfl rfl rfl ?_ (by decide +kernel)
  intro C D tys htl hl hrm hm hml ho hts hnm hE
  have h : n_ctx C b_13_45 5 "BalanceCoderModel" D tys := ⟨htl, hm, hml, ho, fun w hw => hts w (List.mem_cons_of_mem _ hw), hE⟩
  refine ⟨⟨?_, ?_⟩, ⟨?_, ?_, ?_, ?_, ?_⟩, ⟨?_, ?_, ?_⟩, ⟨?_, ?_, ?_, ?_⟩, ?_⟩
  · intro i ins len hx; exact kd_13_45 (i, ins, len) hx
  · exact n_at hE.1
  · intro i ci f hx; exact c_fg12 h (i, ci, f) hx
  · intro i ci f hx; exact c_fp12 h (i, ci, f) hx
  · exact n_hap h
  · intro i ci n hx; exact c_cn12 h (i, ci, n) hx
  · exact n_hag htl
  · exact c_n112 h
  · exact c_n212 h
  · intro t ci hx; exact c_at12 h (t, ci) hx
  · intro i n hx; exact c_kI12 h (i, n) hx
  · intro i n hx; exact c_kL12 h (i, n) hx
  · exact c_ob12 h ⟨by rw [hrm]; decide, by rw [hrm]; decide⟩
  · exact c_cp12 h
  · intro ins ct hx
    have g0 : q_Call C b_13_45 D tys n_KT 5 (.invokestatic 69) ct_638 := q_callS n_NWk h.2.2.2.2.2 h.1 (m_638 C.2.1) ⟨h.2.1.1, h.2.1.2, h.2.2.1, h.2.2.2.1, h.2.2.2.2.1⟩ ⟨n_CB (y := y_13_3) (bytes := b_13_3) 3 h.2.2.2.2.1 n_w923 n_w921 n_w12 ⟨by decide, by decide, by decide +kernel⟩ rfl rfl ⟨by rw [hrm]; decide, by rw [hrm]; decide⟩, h.2.2.2.2.1 _ n_w922⟩ rfl
    have g1 : q_Call C b_13_45 D tys n_KT 5 (.invokevirtual 254) ct_614 := q_callV n_NWk h.2.2.2.2.2 h.1 (m_614 C.2.1) ⟨h.2.1.1, h.2.1.2, h.2.2.1, h.2.2.2.1, h.2.2.2.2.1⟩ ⟨n_CB (y := y_13_43) (bytes := b_13_43) 0 h.2.2.2.2.1 n_w1091 n_w1088 n_w12 ⟨by decide, by decide, by decide +kernel⟩ rfl rfl ⟨by rw [hrm]; decide, by rw [hrm]; decide⟩, h.2.2.2.2.1 _ n_w1090, h.2.2.2.2.1 _ n_s49⟩ (Cn := RX12) ⟨44, 12, _, _, _, _, TX12, 31, rfl, rfl, rfl⟩ rfl
    have all : ∀ x ∈ [((.invokestatic 69 : Instr), ct_638), ((.invokevirtual 254 : Instr), ct_614)], q_Call C b_13_45 D tys n_KT 5 x.1 x.2 := (n_mem2 (g0) (n_mem2 (g1) n_mem0))
    exact all (ins, ct) hx
def ct_640 : qCt := ((4, [[(2, 1)], [(0, 255), (2, (-1))]], [(2, 22, [(1, 1)]), (0, 0, [(2, 1)]), (0, 0, [(0, 1)])], [([(1, 1)], 22, 1, (0, 0, [(0, 7)])), ([(1, 1)], 22, 0, (2, 5, [(3, 1)]))]), (4, [], [], [([(1, 1)], 22, 1, (0, 0, [(0, 8)])), ([(1, 1)], 22, 0, (2, 5, [(3, 1)]))], []), [], [(5, 0), (22, 1)], 0, 0)
def rm_640 : Room := { frames := 1, cells := 0, slots := 0, locals := 26 }
def e_640 : qEn := (k_3_6, (t_fg1, t_fp1, t_cn1), (t_na1, t_at1), (t_kI1, t_kL1, t_ob1, t_cp1), [], (q_k (-1), [], []))
def ts_640 : List (qTm × qCert × List qHx) := [((0, (4, [[(2, 1)], [(0, 255), (2, (-1))]], [(0, (2, 22, [(1, 1)])), (1, (0, 0, [(2, 1)])), (2, (0, 0, [(0, 1)]))], [], [([(1, 1)], 22, 1, (0, 0, [(0, 7)])), ([(1, 1)], 22, 0, (2, 5, [(3, 1)]))], 0, 0), []), (1, []), [(0, 0, [], [], []), (0, 0, [], [], []), (0, 1, [(1, []), (1, [])], [], []), (0, 0, [], [], []), (0, 0, [], [], []), (0, 0, [], [], []), (2, 0, [(1, [(2, 1)])], [], []), (0, 0, [], [], []), (0, 1, [], [], [0]), (0, 0, [], [], []), (0, 0, [], [], []), (2, 0, [(1, [(3, 1)])], [], []), (0, 0, [], [], []), (0, 1, [], [], [1]), (0, 0, [], [], []), (0, 1, [], [], [0]), (0, 0, [], [], []), (0, 0, [], [], []), (0, 0, [], [], []), (0, 1, [(1, []), (1, [])], [], []), (0, 0, [], [], []), (0, 0, [], [], []), (0, 1, [], [], []), (0, 0, [(1, [(6, 1)]), (1, [(7, 1)]), (1, []), (1, [])], [], []), (0, 0, [], [], []), (0, 0, [], [], []), (0, 1, [], [], [0]), (0, 0, [], [], []), (0, 1, [(1, []), (1, [])], [], []), (0, 2, [(1, []), (1, [])], [], []), (0, 1, [(1, []), (1, [])], [], []), (0, 0, [], [], []), (0, 0, [], [], []), (0, 0, [], [], []), (5, 0, [], [], []), (2, 0, [(1, [(8, 1)])], [], [])])]
set_option maxRecDepth 100000 in
theorem m_640 (l : Launch) : q_Met l vwCl n_TL n_NW n_KT y_3_6 (Cond.code y_3_6 b_3_6 4 none :: n_GW) rm_640 ct_640 := by
  refine q_method (E := e_640) ts_640 (by decide) rfl rfl rfl ?_ (by decide +kernel)
  intro C D tys htl hl hrm hm hml ho hts hnm hE
  have h : n_ctx C b_3_6 4 "BalanceCoder$Block" D tys := ⟨htl, hm, hml, ho, fun w hw => hts w (List.mem_cons_of_mem _ hw), hE⟩
  refine ⟨⟨?_, ?_⟩, ⟨?_, ?_, ?_, ?_, ?_⟩, ⟨?_, ?_, ?_⟩, ⟨?_, ?_, ?_, ?_⟩, ?_⟩
  · intro i ins len hx; exact kd_3_6 (i, ins, len) hx
  · exact n_at hE.1
  · intro i ci f hx; exact c_fg1 h (i, ci, f) hx
  · intro i ci f hx; exact c_fp1 h (i, ci, f) hx
  · exact n_hap h
  · intro i ci n hx; exact c_cn1 h (i, ci, n) hx
  · exact n_hag htl
  · exact c_n11 h
  · exact c_n21 h
  · intro t ci hx; exact c_at1 h (t, ci) hx
  · intro i n hx; exact c_kI1 h (i, n) hx
  · intro i n hx; exact c_kL1 h (i, n) hx
  · exact c_ob1 h ⟨by rw [hrm]; decide, by rw [hrm]; decide⟩
  · exact c_cp1 h ⟨by rw [hrm]; decide, by rw [hrm]; decide +kernel⟩
  · intro ins ct hx; cases hx
def ct_641 : qCt := ((5, [], [(2, 40, [(1, 1)]), (1, 0, []), (0, 0, [(0, 8)])], [([(1, 1)], 40, 7, (0, 0, [])), ([(1, 1)], 40, 0, (2, 38, [(2, 1)])), ([(2, 1)], 38, 3, (2, 22, [(3, 1)])), ([(3, 1)], 22, 4, (0, 0, [])), ([(3, 1)], 22, 2, (0, 0, [])), ([(3, 1)], 22, 1, (0, 0, [])), ([(3, 1)], 22, 0, (2, 5, [(4, 1)]))]), (5, [], [(0, 0, [(0, 8)])], [([(3, 1)], 22, 4, (0, 0, [])), ([(3, 1)], 22, 2, (0, 0, [])), ([(3, 1)], 22, 1, (0, 0, [(0, 8)])), ([(3, 1)], 22, 0, (2, 5, [(4, 1)])), ([(1, 1)], 40, 7, (0, 0, [])), ([(1, 1)], 40, 0, (2, 38, [(2, 1)])), ([(2, 1)], 38, 3, (2, 22, [(3, 1)]))], []), [], [(5, 0), (22, 1), (22, 2), (22, 4)], 0, 0)
def rm_641 : Room := { frames := 2, cells := 0, slots := 0, locals := 49 }
def e_641 : qEn := (k_1_17, (t_fg10, t_fp10, t_cn10), (t_na10, t_at10), (t_kI10, t_kL10, t_ob10, t_cp10), [(.invokestatic 64, ct_61), (.invokevirtual 189, ct_610), (.invokestatic 64, ct_56), (.invokevirtual 189, ct_616), (.invokestatic 64, ct_51), (.invokevirtual 189, ct_620), (.invokestatic 64, ct_46), (.invokevirtual 189, ct_624), (.invokestatic 64, ct_41), (.invokevirtual 189, ct_628), (.invokestatic 64, ct_36), (.invokevirtual 189, ct_632), (.invokestatic 64, ct_31), (.invokevirtual 189, ct_636), (.invokestatic 64, ct_26), (.invokevirtual 189, ct_640), (.invokevirtual 186, ct_611)], (q_k (-1), [], []))
def ts_641 : List (qTm × qCert × List qHx) := [((0, (5, [], [(0, (2, 40, [(1, 1)])), (1, (1, 0, [])), (3, (0, 0, [(0, 8)]))], [], [([(1, 1)], 40, 7, (0, 0, [])), ([(1, 1)], 40, 0, (2, 38, [(2, 1)])), ([(2, 1)], 38, 3, (2, 22, [(3, 1)])), ([(3, 1)], 22, 4, (0, 0, [])), ([(3, 1)], 22, 2, (0, 0, [])), ([(3, 1)], 22, 1, (0, 0, [])), ([(3, 1)], 22, 0, (2, 5, [(4, 1)]))], 0, 0), []), (1, []), [(0, 0, [], [], []), (0, 1, [], [], [1]), (0, 1, [], [], [2]), (0, 0, [], [], []), (0, 0, [], [], []), (0, 0, [], [], []), (0, 0, [], [], []), (2, 0, [(1, [(0, 1)])], [], []), (0, 0, [], [], []), (0, 1, [(1, [])], [], []), (2, 0, [(1, [(2, 1)])], [], []), (0, 0, [], [], []), (0, 0, [], [], []), (0, 0, [], [], []), (2, 0, [(1, [(2, 1)])], [], []), (0, 0, [], [], []), (0, 0, [], [], []), (0, 1, [], [], [5]), (0, 1, [(1, [])], [], []), (0, 0, [], [], []), (0, 0, [], [], []), (0, 0, [], [], []), (0, 0, [], [], []), (0, 1, [], [], [5]), (0, 1, [(1, []), (1, [])], [], []), (0, 0, [], [], []), (0, 0, [], [], []), (0, 0, [], [], []), (0, 0, [], [], []), (0, 0, [], [], []), (0, 1, [(1, []), (1, [])], [], []), (0, 0, [], [], []), (0, 0, [], [], []), (0, 0, [], [], []), (2, 0, [(1, [(6, 1)])], [], []), (0, 0, [], [], []), (0, 0, [], [], []), (0, 0, [], [], []), (0, 0, [], [], [0]), (0, 0, [], [], []), (0, 0, [(1, [(7, 1)]), (1, [(8, 1)])], [[(3, 1)], [(5, 1)], [(4, 1)]], [1]), (0, 1, [(1, []), (1, [])], [], []), (0, 0, [], [], []), (0, 0, [], [], []), (0, 0, [], [], []), (2, 0, [(1, [(9, 1)])], [], []), (0, 0, [], [], []), (0, 0, [], [], []), (0, 0, [], [], []), (0, 0, [], [], [2]), (0, 0, [], [], []), (0, 0, [(1, [(10, 1)]), (1, [(11, 1)])], [[(3, 1)], [(6, 1)], [(4, 1)]], [3]), (0, 1, [(1, []), (1, [])], [], []), (0, 0, [], [], []), (0, 0, [], [], []), (0, 0, [], [], []), (2, 0, [(1, [(12, 1)])], [], []), (0, 0, [], [], []), (0, 0, [], [], []), (0, 0, [], [], []), (0, 0, [], [], [4]), (0, 0, [], [], []), (0, 0, [(1, [(13, 1)]), (1, [(14, 1)])], [[(3, 1)], [(7, 1)], [(4, 1)]], [5]), (0, 1, [(1, []), (1, [])], [], []), (0, 0, [], [], []), (0, 0, [], [], []), (0, 0, [], [], []), (2, 0, [(1, [(15, 1)])], [], []), (0, 0, [], [], []), (0, 0, [], [], []), (0, 0, [], [], []), (0, 0, [], [], [6]), (0, 0, [], [], []), (0, 0, [(1, [(16, 1)]), (1, [(17, 1)])], [[(3, 1)], [(8, 1)], [(4, 1)]], [7]), (0, 1, [(1, []), (1, [])], [], []), (0, 0, [], [], []), (0, 0, [], [], []), (0, 0, [], [], []), (2, 0, [(1, [(18, 1)])], [], []), (0, 0, [], [], []), (0, 0, [], [], []), (0, 0, [], [], []), (0, 0, [], [], [8]), (0, 0, [], [], []), (0, 0, [(1, [(19, 1)]), (1, [(20, 1)])], [[(3, 1)], [(9, 1)], [(4, 1)]], [9]), (0, 1, [(1, []), (1, [])], [], []), (0, 0, [], [], []), (0, 0, [], [], []), (0, 0, [], [], []), (2, 0, [(1, [(21, 1)])], [], []), (0, 0, [], [], []), (0, 0, [], [], []), (0, 0, [], [], []), (0, 0, [], [], [10]), (0, 0, [], [], []), (0, 0, [(1, [(22, 1)]), (1, [(23, 1)])], [[(3, 1)], [(10, 1)], [(4, 1)]], [11]), (0, 1, [(1, []), (1, [])], [], []), (0, 0, [], [], []), (0, 0, [], [], []), (0, 0, [], [], []), (2, 0, [(1, [(24, 1)])], [], []), (0, 0, [], [], []), (0, 0, [], [], []), (0, 0, [], [], []), (0, 0, [], [], [12]), (0, 0, [], [], []), (0, 0, [(1, [(25, 1)]), (1, [(26, 1)])], [[(3, 1)], [(11, 1)], [(4, 1)]], [13]), (0, 1, [(1, []), (1, [])], [], []), (0, 0, [], [], []), (0, 0, [], [], []), (0, 0, [], [], []), (2, 0, [(1, [(27, 1)])], [], []), (0, 0, [], [], []), (0, 0, [], [], []), (0, 0, [], [], []), (0, 0, [], [], [14]), (0, 0, [], [], []), (0, 0, [(1, [(28, 1)]), (1, [(29, 1)])], [[(3, 1)], [(12, 1)], [(4, 1)]], [15]), (0, 1, [(1, []), (1, [])], [], []), (0, 0, [], [], []), (0, 0, [], [], []), (0, 0, [], [], []), (0, 0, [], [], []), (0, 0, [], [[(3, 1)]], [16]), (0, 0, [], [], []), (0, 1, [], [], [2]), (5, 0, [], [], []), (2, 0, [(1, [(30, 1)])], [], []), (2, 0, [(1, [(5, 1)])], [], []), (2, 0, [(1, [(4, 1)])], [], []), (2, 0, [(1, [(3, 1)])], [], [])])]
set_option maxRecDepth 100000 in
theorem m_641 (l : Launch) : q_Met l vwCl n_TL n_NW n_KT y_1_17 (Cond.code y_1_17 b_1_17 6 (some .int) :: n_GW) rm_641 ct_641 := by
  refine q_method (E := e_641) ts_641 (by decide) rfl rfl rfl ?_ (by decide +kernel)
  intro C D tys htl hl hrm hm hml ho hts hnm hE
  have h : n_ctx C b_1_17 6 "BalanceCoder" D tys := ⟨htl, hm, hml, ho, fun w hw => hts w (List.mem_cons_of_mem _ hw), hE⟩
  refine ⟨⟨?_, ?_⟩, ⟨?_, ?_, ?_, ?_, ?_⟩, ⟨?_, ?_, ?_⟩, ⟨?_, ?_, ?_, ?_⟩, ?_⟩
  · intro i ins len hx; exact kd_1_17 (i, ins, len) hx
  · exact n_at hE.1
  · intro i ci f hx; exact c_fg10 h (i, ci, f) hx
  · intro i ci f hx; exact c_fp10 h (i, ci, f) hx
  · exact n_hap h
  · intro i ci n hx; exact c_cn10 h (i, ci, n) hx
  · exact n_hag htl
  · exact c_n110 h
  · exact c_n210 h
  · intro t ci hx; exact c_at10 h (t, ci) hx
  · intro i n hx; exact c_kI10 h (i, n) hx
  · intro i n hx; exact c_kL10 h (i, n) hx
  · exact c_ob10 h ⟨by rw [hrm]; decide, by rw [hrm]; decide⟩
  · exact c_cp10 h
  · intro ins ct hx
    have g0 : q_Call C b_1_17 D tys n_KT 6 (.invokestatic 64) ct_61 := q_callS n_NWk h.2.2.2.2.2 h.1 (m_61 C.2.1) ⟨h.2.1.1, h.2.1.2, h.2.2.1, h.2.2.2.1, h.2.2.2.2.1⟩ ⟨n_CB (y := y_1_33) (bytes := b_1_33) 2 h.2.2.2.2.1 n_w312 n_w310 n_w1 ⟨by decide, by decide, by decide +kernel⟩ rfl rfl ⟨by rw [hrm]; decide, by rw [hrm]; decide⟩, h.2.2.2.2.1 _ n_w311⟩ rfl
    have g1 : q_Call C b_1_17 D tys n_KT 6 (.invokevirtual 189) ct_610 := q_callV n_NWk h.2.2.2.2.2 h.1 (m_610 C.2.1) ⟨h.2.1.1, h.2.1.2, h.2.2.1, h.2.2.2.1, h.2.2.2.2.1⟩ ⟨n_CB (y := y_3_6) (bytes := b_3_6) 2 h.2.2.2.2.1 n_w568 n_w676 n_w3 ⟨by decide, by decide, by decide +kernel⟩ rfl rfl ⟨by rw [hrm]; decide, by rw [hrm]; decide⟩, h.2.2.2.2.1 _ n_w566, h.2.2.2.2.1 _ n_w567⟩ (Cn := RX1) ⟨22, 1, _, _, _, _, TX1, 5, rfl, rfl, rfl⟩ rfl
    have g2 : q_Call C b_1_17 D tys n_KT 6 (.invokestatic 64) ct_56 := q_callS n_NWk h.2.2.2.2.2 h.1 (m_56 C.2.1) ⟨h.2.1.1, h.2.1.2, h.2.2.1, h.2.2.2.1, h.2.2.2.2.1⟩ ⟨n_CB (y := y_1_33) (bytes := b_1_33) 2 h.2.2.2.2.1 n_w312 n_w310 n_w1 ⟨by decide, by decide, by decide +kernel⟩ rfl rfl ⟨by rw [hrm]; decide, by rw [hrm]; decide⟩, h.2.2.2.2.1 _ n_w311⟩ rfl
    have g3 : q_Call C b_1_17 D tys n_KT 6 (.invokevirtual 189) ct_616 := q_callV n_NWk h.2.2.2.2.2 h.1 (m_616 C.2.1) ⟨h.2.1.1, h.2.1.2, h.2.2.1, h.2.2.2.1, h.2.2.2.2.1⟩ ⟨n_CB (y := y_3_6) (bytes := b_3_6) 2 h.2.2.2.2.1 n_w568 n_w676 n_w3 ⟨by decide, by decide, by decide +kernel⟩ rfl rfl ⟨by rw [hrm]; decide, by rw [hrm]; decide⟩, h.2.2.2.2.1 _ n_w566, h.2.2.2.2.1 _ n_w567⟩ (Cn := RX1) ⟨22, 1, _, _, _, _, TX1, 5, rfl, rfl, rfl⟩ rfl
    have g4 : q_Call C b_1_17 D tys n_KT 6 (.invokestatic 64) ct_51 := q_callS n_NWk h.2.2.2.2.2 h.1 (m_51 C.2.1) ⟨h.2.1.1, h.2.1.2, h.2.2.1, h.2.2.2.1, h.2.2.2.2.1⟩ ⟨n_CB (y := y_1_33) (bytes := b_1_33) 2 h.2.2.2.2.1 n_w312 n_w310 n_w1 ⟨by decide, by decide, by decide +kernel⟩ rfl rfl ⟨by rw [hrm]; decide, by rw [hrm]; decide⟩, h.2.2.2.2.1 _ n_w311⟩ rfl
    have g5 : q_Call C b_1_17 D tys n_KT 6 (.invokevirtual 189) ct_620 := q_callV n_NWk h.2.2.2.2.2 h.1 (m_620 C.2.1) ⟨h.2.1.1, h.2.1.2, h.2.2.1, h.2.2.2.1, h.2.2.2.2.1⟩ ⟨n_CB (y := y_3_6) (bytes := b_3_6) 2 h.2.2.2.2.1 n_w568 n_w676 n_w3 ⟨by decide, by decide, by decide +kernel⟩ rfl rfl ⟨by rw [hrm]; decide, by rw [hrm]; decide⟩, h.2.2.2.2.1 _ n_w566, h.2.2.2.2.1 _ n_w567⟩ (Cn := RX1) ⟨22, 1, _, _, _, _, TX1, 5, rfl, rfl, rfl⟩ rfl
    have g6 : q_Call C b_1_17 D tys n_KT 6 (.invokestatic 64) ct_46 := q_callS n_NWk h.2.2.2.2.2 h.1 (m_46 C.2.1) ⟨h.2.1.1, h.2.1.2, h.2.2.1, h.2.2.2.1, h.2.2.2.2.1⟩ ⟨n_CB (y := y_1_33) (bytes := b_1_33) 2 h.2.2.2.2.1 n_w312 n_w310 n_w1 ⟨by decide, by decide, by decide +kernel⟩ rfl rfl ⟨by rw [hrm]; decide, by rw [hrm]; decide⟩, h.2.2.2.2.1 _ n_w311⟩ rfl
    have g7 : q_Call C b_1_17 D tys n_KT 6 (.invokevirtual 189) ct_624 := q_callV n_NWk h.2.2.2.2.2 h.1 (m_624 C.2.1) ⟨h.2.1.1, h.2.1.2, h.2.2.1, h.2.2.2.1, h.2.2.2.2.1⟩ ⟨n_CB (y := y_3_6) (bytes := b_3_6) 2 h.2.2.2.2.1 n_w568 n_w676 n_w3 ⟨by decide, by decide, by decide +kernel⟩ rfl rfl ⟨by rw [hrm]; decide, by rw [hrm]; decide⟩, h.2.2.2.2.1 _ n_w566, h.2.2.2.2.1 _ n_w567⟩ (Cn := RX1) ⟨22, 1, _, _, _, _, TX1, 5, rfl, rfl, rfl⟩ rfl
    have g8 : q_Call C b_1_17 D tys n_KT 6 (.invokestatic 64) ct_41 := q_callS n_NWk h.2.2.2.2.2 h.1 (m_41 C.2.1) ⟨h.2.1.1, h.2.1.2, h.2.2.1, h.2.2.2.1, h.2.2.2.2.1⟩ ⟨n_CB (y := y_1_33) (bytes := b_1_33) 2 h.2.2.2.2.1 n_w312 n_w310 n_w1 ⟨by decide, by decide, by decide +kernel⟩ rfl rfl ⟨by rw [hrm]; decide, by rw [hrm]; decide⟩, h.2.2.2.2.1 _ n_w311⟩ rfl
    have g9 : q_Call C b_1_17 D tys n_KT 6 (.invokevirtual 189) ct_628 := q_callV n_NWk h.2.2.2.2.2 h.1 (m_628 C.2.1) ⟨h.2.1.1, h.2.1.2, h.2.2.1, h.2.2.2.1, h.2.2.2.2.1⟩ ⟨n_CB (y := y_3_6) (bytes := b_3_6) 2 h.2.2.2.2.1 n_w568 n_w676 n_w3 ⟨by decide, by decide, by decide +kernel⟩ rfl rfl ⟨by rw [hrm]; decide, by rw [hrm]; decide⟩, h.2.2.2.2.1 _ n_w566, h.2.2.2.2.1 _ n_w567⟩ (Cn := RX1) ⟨22, 1, _, _, _, _, TX1, 5, rfl, rfl, rfl⟩ rfl
    have g10 : q_Call C b_1_17 D tys n_KT 6 (.invokestatic 64) ct_36 := q_callS n_NWk h.2.2.2.2.2 h.1 (m_36 C.2.1) ⟨h.2.1.1, h.2.1.2, h.2.2.1, h.2.2.2.1, h.2.2.2.2.1⟩ ⟨n_CB (y := y_1_33) (bytes := b_1_33) 2 h.2.2.2.2.1 n_w312 n_w310 n_w1 ⟨by decide, by decide, by decide +kernel⟩ rfl rfl ⟨by rw [hrm]; decide, by rw [hrm]; decide⟩, h.2.2.2.2.1 _ n_w311⟩ rfl
    have g11 : q_Call C b_1_17 D tys n_KT 6 (.invokevirtual 189) ct_632 := q_callV n_NWk h.2.2.2.2.2 h.1 (m_632 C.2.1) ⟨h.2.1.1, h.2.1.2, h.2.2.1, h.2.2.2.1, h.2.2.2.2.1⟩ ⟨n_CB (y := y_3_6) (bytes := b_3_6) 2 h.2.2.2.2.1 n_w568 n_w676 n_w3 ⟨by decide, by decide, by decide +kernel⟩ rfl rfl ⟨by rw [hrm]; decide, by rw [hrm]; decide⟩, h.2.2.2.2.1 _ n_w566, h.2.2.2.2.1 _ n_w567⟩ (Cn := RX1) ⟨22, 1, _, _, _, _, TX1, 5, rfl, rfl, rfl⟩ rfl
    have g12 : q_Call C b_1_17 D tys n_KT 6 (.invokestatic 64) ct_31 := q_callS n_NWk h.2.2.2.2.2 h.1 (m_31 C.2.1) ⟨h.2.1.1, h.2.1.2, h.2.2.1, h.2.2.2.1, h.2.2.2.2.1⟩ ⟨n_CB (y := y_1_33) (bytes := b_1_33) 2 h.2.2.2.2.1 n_w312 n_w310 n_w1 ⟨by decide, by decide, by decide +kernel⟩ rfl rfl ⟨by rw [hrm]; decide, by rw [hrm]; decide⟩, h.2.2.2.2.1 _ n_w311⟩ rfl
    have g13 : q_Call C b_1_17 D tys n_KT 6 (.invokevirtual 189) ct_636 := q_callV n_NWk h.2.2.2.2.2 h.1 (m_636 C.2.1) ⟨h.2.1.1, h.2.1.2, h.2.2.1, h.2.2.2.1, h.2.2.2.2.1⟩ ⟨n_CB (y := y_3_6) (bytes := b_3_6) 2 h.2.2.2.2.1 n_w568 n_w676 n_w3 ⟨by decide, by decide, by decide +kernel⟩ rfl rfl ⟨by rw [hrm]; decide, by rw [hrm]; decide⟩, h.2.2.2.2.1 _ n_w566, h.2.2.2.2.1 _ n_w567⟩ (Cn := RX1) ⟨22, 1, _, _, _, _, TX1, 5, rfl, rfl, rfl⟩ rfl
    have g14 : q_Call C b_1_17 D tys n_KT 6 (.invokestatic 64) ct_26 := q_callS n_NWk h.2.2.2.2.2 h.1 (m_26 C.2.1) ⟨h.2.1.1, h.2.1.2, h.2.2.1, h.2.2.2.1, h.2.2.2.2.1⟩ ⟨n_CB (y := y_1_33) (bytes := b_1_33) 2 h.2.2.2.2.1 n_w312 n_w310 n_w1 ⟨by decide, by decide, by decide +kernel⟩ rfl rfl ⟨by rw [hrm]; decide, by rw [hrm]; decide⟩, h.2.2.2.2.1 _ n_w311⟩ rfl
    have g15 : q_Call C b_1_17 D tys n_KT 6 (.invokevirtual 189) ct_640 := q_callV n_NWk h.2.2.2.2.2 h.1 (m_640 C.2.1) ⟨h.2.1.1, h.2.1.2, h.2.2.1, h.2.2.2.1, h.2.2.2.2.1⟩ ⟨n_CB (y := y_3_6) (bytes := b_3_6) 2 h.2.2.2.2.1 n_w568 n_w676 n_w3 ⟨by decide, by decide, by decide +kernel⟩ rfl rfl ⟨by rw [hrm]; decide, by rw [hrm]; decide⟩, h.2.2.2.2.1 _ n_w566, h.2.2.2.2.1 _ n_w567⟩ (Cn := RX1) ⟨22, 1, _, _, _, _, TX1, 5, rfl, rfl, rfl⟩ rfl
    have g16 : q_Call C b_1_17 D tys n_KT 6 (.invokevirtual 186) ct_611 := q_callV n_NWk h.2.2.2.2.2 h.1 (m_611 C.2.1) ⟨h.2.1.1, h.2.1.2, h.2.2.1, h.2.2.2.1, h.2.2.2.2.1⟩ ⟨n_CB (y := y_3_4) (bytes := b_3_4) 0 h.2.2.2.2.1 n_w671 n_w668 n_w3 ⟨by decide, by decide, by decide +kernel⟩ rfl rfl ⟨by rw [hrm]; decide, by rw [hrm]; decide⟩, h.2.2.2.2.1 _ n_w669, h.2.2.2.2.1 _ n_w670⟩ (Cn := RX1) ⟨22, 1, _, _, _, _, TX1, 5, rfl, rfl, rfl⟩ rfl
    have all : ∀ x ∈ [((.invokestatic 64 : Instr), ct_61), ((.invokevirtual 189 : Instr), ct_610), ((.invokestatic 64 : Instr), ct_56), ((.invokevirtual 189 : Instr), ct_616), ((.invokestatic 64 : Instr), ct_51), ((.invokevirtual 189 : Instr), ct_620), ((.invokestatic 64 : Instr), ct_46), ((.invokevirtual 189 : Instr), ct_624), ((.invokestatic 64 : Instr), ct_41), ((.invokevirtual 189 : Instr), ct_628), ((.invokestatic 64 : Instr), ct_36), ((.invokevirtual 189 : Instr), ct_632), ((.invokestatic 64 : Instr), ct_31), ((.invokevirtual 189 : Instr), ct_636), ((.invokestatic 64 : Instr), ct_26), ((.invokevirtual 189 : Instr), ct_640), ((.invokevirtual 186 : Instr), ct_611)], q_Call C b_1_17 D tys n_KT 6 x.1 x.2 := (n_mem2 (g0) (n_mem2 (g1) (n_mem2 (g2) (n_mem2 (g3) (n_mem2 (g4) (n_mem2 (g5) (n_mem2 (g6) (n_mem2 (g7) (n_mem2 (g8) (n_mem2 (g9) (n_mem2 (g10) (n_mem2 (g11) (n_mem2 (g12) (n_mem2 (g13) (n_mem2 (g14) (n_mem2 (g15) (n_mem2 (g16) n_mem0)))))))))))))))))
    exact all (ins, ct) hx
def ct_642 : qCt := ((1, [], [(5, 0, [(0, 8)]), (5, 0, [(0, (-400))]), (5, 0, [(0, 8)])], []), (1, [], [(0, 0, [(0, 1)])], [], []), [], [], 0, 0)
def rm_642 : Room := { frames := 1, cells := 0, slots := 0, locals := 26 }
def e_642 : qEn := (k_13_3, (t_fg12, t_fp12, t_cn12), (t_na12, t_at12), (t_kI12, t_kL12, t_ob12, t_cp12), [], (q_k (-1), [], []))
def ts_642 : List (qTm × qCert × List qHx) := [((0, (1, [], [(0, (5, 0, [(0, 8)])), (2, (5, 0, [(0, (-400))])), (4, (5, 0, [(0, 8)]))], [], [], 0, 0), []), (1, []), [(0, 0, [], [], []), (0, 0, [], [], []), (0, 1, [(1, [])], [], []), (0, 0, [], [], []), (2, 0, [(1, [(0, 1)])], [], []), (0, 0, [], [], []), (0, 0, [], [], []), (0, 2, [(1, []), (1, [])], [], []), (0, 0, [], [], []), (2, 0, [(1, [(1, 1)])], [], []), (0, 0, [], [], []), (0, 0, [], [], []), (5, 0, [(1, []), (1, [])], [], [])])]
set_option maxRecDepth 100000 in
theorem m_642 (l : Launch) : q_Met l vwCl n_TL n_NW n_KT y_13_3 (Cond.code y_13_3 b_13_3 6 (some .boolean) :: n_GW) rm_642 ct_642 := by
  refine q_method (E := e_642) ts_642 (by decide) rfl rfl rfl ?_ (by decide +kernel)
  intro C D tys htl hl hrm hm hml ho hts hnm hE
  have h : n_ctx C b_13_3 6 "BalanceCoderModel" D tys := ⟨htl, hm, hml, ho, fun w hw => hts w (List.mem_cons_of_mem _ hw), hE⟩
  refine ⟨⟨?_, ?_⟩, ⟨?_, ?_, ?_, ?_, ?_⟩, ⟨?_, ?_, ?_⟩, ⟨?_, ?_, ?_, ?_⟩, ?_⟩
  · intro i ins len hx; exact kd_13_3 (i, ins, len) hx
  · exact n_at hE.1
  · intro i ci f hx; exact c_fg12 h (i, ci, f) hx
  · intro i ci f hx; exact c_fp12 h (i, ci, f) hx
  · exact n_hap h
  · intro i ci n hx; exact c_cn12 h (i, ci, n) hx
  · exact n_hag htl
  · exact c_n112 h
  · exact c_n212 h
  · intro t ci hx; exact c_at12 h (t, ci) hx
  · intro i n hx; exact c_kI12 h (i, n) hx
  · intro i n hx; exact c_kL12 h (i, n) hx
  · exact c_ob12 h ⟨by rw [hrm]; decide, by rw [hrm]; decide⟩
  · exact c_cp12 h
  · intro ins ct hx; cases hx
def ct_643 : qCt := ((4, [], [(2, 44, [(1, 1)]), (1, 0, []), (0, 0, [(0, 8)])], [([(1, 1)], 44, 0, (2, 42, [(2, 1)])), ([(2, 1)], 42, 8, (2, 5, [(3, 1)])), ([(2, 1)], 42, 7, (0, 0, [])), ([(2, 1)], 42, 9, (0, 0, [])), ([(2, 1)], 42, 10, (0, 0, [])), ([(1, 1)], 44, 3, (0, 0, []))]), (4, [], [(0, 0, [(0, 8)])], [([(2, 1)], 42, 10, (0, 0, [])), ([(2, 1)], 42, 9, (0, 0, [])), ([(1, 1)], 44, 0, (2, 42, [(2, 1)])), ([(2, 1)], 42, 7, (0, 0, [(0, 8)])), ([(2, 1)], 42, 8, (2, 5, [(3, 1)])), ([(1, 1)], 44, 3, (0, 0, []))], []), [], [(5, 0), (42, 7), (42, 9), (42, 10)], 0, 0)
def rm_643 : Room := { frames := 2, cells := 0, slots := 0, locals := 51 }
def e_643 : qEn := (k_13_45, (t_fg12, t_fp12, t_cn12), (t_na12, t_at12), (t_kI12, t_kL12, t_ob12, t_cp12), [(.invokestatic 69, ct_642), (.invokevirtual 254, ct_614)], (q_k (-1), [], []))
def ts_643 : List (qTm × qCert × List qHx) := [((0, (4, [], [(0, (2, 44, [(1, 1)])), (1, (1, 0, [])), (3, (0, 0, [(0, 8)]))], [], [([(1, 1)], 44, 0, (2, 42, [(2, 1)])), ([(2, 1)], 42, 8, (2, 5, [(3, 1)])), ([(2, 1)], 42, 7, (0, 0, [])), ([(2, 1)], 42, 9, (0, 0, [])), ([(2, 1)], 42, 10, (0, 0, [])), ([(1, 1)], 44, 3, (0, 0, []))], 0, 0), []), (1, []), [(0, 0, [], [], []), (0, 0, [], [], []), (0, 0, [], [], []), (0, 0, [], [], []), (0, 0, [], [], [0]), (0, 1, [(1, [])], [], []), (2, 0, [(1, [(1, 1)])], [], []), (0, 0, [], [], []), (0, 1, [(1, [])], [], []), (2, 0, [(1, [(2, 1)])], [], []), (0, 0, [], [], []), (0, 0, [], [], []), (0, 0, [], [], []), (0, 1, [], [], [0]), (0, 1, [], [], [2]), (0, 0, [], [], []), (0, 1, [(1, []), (1, [])], [], []), (0, 0, [], [], []), (0, 0, [], [], []), (0, 0, [], [], []), (0, 0, [], [], []), (0, 1, [(1, []), (1, [])], [], []), (0, 0, [], [], []), (0, 0, [], [], []), (0, 0, [], [], []), (2, 0, [(1, [(4, 1)])], [], []), (0, 0, [], [], []), (0, 1, [], [], [0]), (0, 1, [], [], [1]), (0, 0, [], [], []), (0, 1, [], [], [0]), (0, 1, [], [], [2]), (0, 0, [], [], []), (0, 1, [(1, []), (1, [])], [], []), (0, 0, [], [], []), (0, 1, [(1, []), (1, [])], [], []), (0, 0, [], [], []), (0, 1, [(1, []), (1, [])], [], []), (0, 0, [], [], []), (0, 0, [], [], []), (0, 0, [], [], []), (0, 1, [(1, []), (1, [])], [], []), (0, 0, [], [], []), (0, 0, [], [], []), (0, 0, [], [], []), (0, 0, [], [], []), (0, 0, [(1, [(5, 1)]), (1, [(6, 1)]), (1, []), (1, [])], [], []), (0, 1, [(1, []), (1, [])], [], []), (0, 0, [], [], []), (0, 0, [], [], []), (0, 0, [], [], []), (2, 0, [(1, [(7, 1)])], [], []), (0, 0, [], [], []), (0, 1, [], [], [0]), (0, 1, [], [], [1]), (0, 0, [], [], []), (0, 1, [], [], [0]), (0, 1, [], [], [2]), (0, 0, [], [], []), (0, 1, [(1, []), (1, [])], [], []), (0, 0, [], [], []), (0, 1, [(1, []), (1, [])], [], []), (0, 0, [], [], []), (0, 1, [(1, []), (1, [])], [], []), (0, 0, [], [], []), (0, 0, [], [], []), (0, 0, [], [], []), (0, 1, [(1, []), (1, [])], [], []), (0, 0, [], [], []), (0, 0, [], [], []), (0, 0, [], [], []), (0, 0, [], [], []), (0, 0, [(1, [(8, 1)]), (1, [(9, 1)]), (1, []), (1, [])], [], []), (0, 1, [(1, []), (1, [])], [], []), (0, 0, [], [], []), (0, 0, [], [], []), (0, 0, [], [], []), (2, 0, [(1, [(10, 1)])], [], []), (0, 0, [], [], []), (0, 1, [], [], [0]), (0, 1, [], [], [1]), (0, 0, [], [], []), (0, 1, [], [], [0]), (0, 1, [], [], [2]), (0, 0, [], [], []), (0, 1, [(1, []), (1, [])], [], []), (0, 0, [], [], []), (0, 1, [(1, []), (1, [])], [], []), (0, 0, [], [], []), (0, 1, [(1, []), (1, [])], [], []), (0, 0, [], [], []), (0, 0, [], [], []), (0, 0, [], [], []), (0, 1, [(1, []), (1, [])], [], []), (0, 0, [], [], []), (0, 0, [], [], []), (0, 0, [], [], []), (0, 0, [], [], []), (0, 0, [(1, [(11, 1)]), (1, [(12, 1)]), (1, []), (1, [])], [], []), (0, 1, [(1, []), (1, [])], [], []), (0, 0, [], [], []), (0, 0, [], [], []), (0, 0, [], [], []), (2, 0, [(1, [(13, 1)])], [], []), (0, 0, [], [], []), (0, 1, [], [], [0]), (0, 1, [], [], [1]), (0, 0, [], [], []), (0, 1, [], [], [0]), (0, 1, [], [], [2]), (0, 0, [], [], []), (0, 1, [(1, []), (1, [])], [], []), (0, 0, [], [], []), (0, 1, [(1, []), (1, [])], [], []), (0, 0, [], [], []), (0, 1, [(1, []), (1, [])], [], []), (0, 0, [], [], []), (0, 0, [], [], []), (0, 0, [], [], []), (0, 1, [(1, []), (1, [])], [], []), (0, 0, [], [], []), (0, 0, [], [], []), (0, 0, [], [], []), (0, 0, [], [], []), (0, 0, [(1, [(14, 1)]), (1, [(15, 1)]), (1, []), (1, [])], [], []), (0, 1, [(1, []), (1, [])], [], []), (0, 0, [], [], []), (0, 0, [], [], []), (0, 0, [], [], []), (2, 0, [(1, [(16, 1)])], [], []), (0, 0, [], [], []), (0, 1, [], [], [0]), (0, 1, [], [], [1]), (0, 0, [], [], []), (0, 1, [], [], [0]), (0, 1, [], [], [2]), (0, 0, [], [], []), (0, 1, [(1, []), (1, [])], [], []), (0, 0, [], [], []), (0, 1, [(1, []), (1, [])], [], []), (0, 0, [], [], []), (0, 1, [(1, []), (1, [])], [], []), (0, 0, [], [], []), (0, 0, [], [], []), (0, 0, [], [], []), (0, 1, [(1, []), (1, [])], [], []), (0, 0, [], [], []), (0, 0, [], [], []), (0, 0, [], [], []), (0, 0, [], [], []), (0, 0, [(1, [(17, 1)]), (1, [(18, 1)]), (1, []), (1, [])], [], []), (0, 1, [(1, []), (1, [])], [], []), (0, 0, [], [], []), (0, 0, [], [], []), (0, 0, [], [], []), (2, 0, [(1, [(19, 1)])], [], []), (0, 0, [], [], []), (0, 1, [], [], [0]), (0, 1, [], [], [1]), (0, 0, [], [], []), (0, 1, [], [], [0]), (0, 1, [], [], [2]), (0, 0, [], [], []), (0, 1, [(1, []), (1, [])], [], []), (0, 0, [], [], []), (0, 1, [(1, []), (1, [])], [], []), (0, 0, [], [], []), (0, 1, [(1, []), (1, [])], [], []), (0, 0, [], [], []), (0, 0, [], [], []), (0, 0, [], [], []), (0, 1, [(1, []), (1, [])], [], []), (0, 0, [], [], []), (0, 0, [], [], []), (0, 0, [], [], []), (0, 0, [], [], []), (0, 0, [(1, [(20, 1)]), (1, [(21, 1)]), (1, []), (1, [])], [], []), (0, 1, [(1, []), (1, [])], [], []), (0, 0, [], [], []), (0, 0, [], [], []), (0, 0, [], [], []), (2, 0, [(1, [(22, 1)])], [], []), (0, 0, [], [], []), (0, 1, [], [], [0]), (0, 1, [], [], [1]), (0, 0, [], [], []), (0, 1, [], [], [0]), (0, 1, [], [], [2]), (0, 0, [], [], []), (0, 1, [(1, []), (1, [])], [], []), (0, 0, [], [], []), (0, 1, [(1, []), (1, [])], [], []), (0, 0, [], [], []), (0, 1, [(1, []), (1, [])], [], []), (0, 0, [], [], []), (0, 0, [], [], []), (0, 0, [], [], []), (0, 1, [(1, []), (1, [])], [], []), (0, 0, [], [], []), (0, 0, [], [], []), (0, 0, [], [], []), (0, 0, [], [], []), (0, 0, [(1, [(23, 1)]), (1, [(24, 1)]), (1, []), (1, [])], [], []), (0, 1, [(1, []), (1, [])], [], []), (0, 0, [], [], []), (0, 0, [], [], []), (0, 0, [], [], []), (2, 0, [(1, [(25, 1)])], [], []), (0, 0, [], [], []), (0, 1, [], [], [0]), (0, 1, [], [], [1]), (0, 0, [], [], []), (0, 1, [], [], [0]), (0, 1, [], [], [2]), (0, 0, [], [], []), (0, 1, [(1, []), (1, [])], [], []), (0, 0, [], [], []), (0, 1, [(1, []), (1, [])], [], []), (0, 0, [], [], []), (0, 1, [(1, []), (1, [])], [], []), (0, 0, [], [], []), (0, 0, [], [], []), (0, 0, [], [], []), (0, 1, [(1, []), (1, [])], [], []), (0, 0, [], [], []), (0, 0, [], [], []), (0, 0, [], [], []), (0, 0, [], [], []), (0, 0, [(1, [(26, 1)]), (1, [(27, 1)]), (1, []), (1, [])], [], []), (0, 1, [(1, []), (1, [])], [], []), (0, 0, [], [], []), (0, 0, [], [], []), (0, 0, [], [], []), (0, 0, [], [], []), (0, 1, [], [], [0]), (0, 0, [], [], []), (0, 1, [], [], [2]), (0, 0, [], [], []), (0, 1, [(1, []), (1, [])], [], []), (0, 2, [(1, []), (1, [])], [], []), (0, 0, [], [], []), (0, 0, [], [[(1, 1)], [(2, 1)]], [1]), (0, 0, [], [], []), (0, 1, [], [], [2]), (0, 1, [], [], [3]), (5, 0, [], [], []), (2, 0, [(1, [(28, 1)])], [], []), (2, 0, [(1, [(3, 1)])], [], []), (2, 0, [(1, [(2, 1)])], [], [])])]
set_option maxRecDepth 100000 in
theorem m_643 (l : Launch) : q_Met l vwCl n_TL n_NW n_KT y_13_45 (Cond.code y_13_45 b_13_45 5 (some .int) :: n_GW) rm_643 ct_643 := by
  refine q_method (E := e_643) ts_643 (by decide) rfl rfl rfl ?_ (by decide +kernel)
  intro C D tys htl hl hrm hm hml ho hts hnm hE
  have h : n_ctx C b_13_45 5 "BalanceCoderModel" D tys := ⟨htl, hm, hml, ho, fun w hw => hts w (List.mem_cons_of_mem _ hw), hE⟩
  refine ⟨⟨?_, ?_⟩, ⟨?_, ?_, ?_, ?_, ?_⟩, ⟨?_, ?_, ?_⟩, ⟨?_, ?_, ?_, ?_⟩, ?_⟩
  · intro i ins len hx; exact kd_13_45 (i, ins, len) hx
  · exact n_at hE.1
  · intro i ci f hx; exact c_fg12 h (i, ci, f) hx
  · intro i ci f hx; exact c_fp12 h (i, ci, f) hx
  · exact n_hap h
  · intro i ci n hx; exact c_cn12 h (i, ci, n) hx
  · exact n_hag htl
  · exact c_n112 h
  · exact c_n212 h
  · intro t ci hx; exact c_at12 h (t, ci) hx
  · intro i n hx; exact c_kI12 h (i, n) hx
  · intro i n hx; exact c_kL12 h (i, n) hx
  · exact c_ob12 h ⟨by rw [hrm]; decide, by rw [hrm]; decide⟩
  · exact c_cp12 h
  · intro ins ct hx
    have g0 : q_Call C b_13_45 D tys n_KT 5 (.invokestatic 69) ct_642 := q_callS n_NWk h.2.2.2.2.2 h.1 (m_642 C.2.1) ⟨h.2.1.1, h.2.1.2, h.2.2.1, h.2.2.2.1, h.2.2.2.2.1⟩ ⟨n_CB (y := y_13_3) (bytes := b_13_3) 3 h.2.2.2.2.1 n_w923 n_w921 n_w12 ⟨by decide, by decide, by decide +kernel⟩ rfl rfl ⟨by rw [hrm]; decide, by rw [hrm]; decide⟩, h.2.2.2.2.1 _ n_w922⟩ rfl
    have g1 : q_Call C b_13_45 D tys n_KT 5 (.invokevirtual 254) ct_614 := q_callV n_NWk h.2.2.2.2.2 h.1 (m_614 C.2.1) ⟨h.2.1.1, h.2.1.2, h.2.2.1, h.2.2.2.1, h.2.2.2.2.1⟩ ⟨n_CB (y := y_13_43) (bytes := b_13_43) 0 h.2.2.2.2.1 n_w1091 n_w1088 n_w12 ⟨by decide, by decide, by decide +kernel⟩ rfl rfl ⟨by rw [hrm]; decide, by rw [hrm]; decide⟩, h.2.2.2.2.1 _ n_w1090, h.2.2.2.2.1 _ n_s49⟩ (Cn := RX12) ⟨44, 12, _, _, _, _, TX12, 31, rfl, rfl, rfl⟩ rfl
    have all : ∀ x ∈ [((.invokestatic 69 : Instr), ct_642), ((.invokevirtual 254 : Instr), ct_614)], q_Call C b_13_45 D tys n_KT 5 x.1 x.2 := (n_mem2 (g0) (n_mem2 (g1) n_mem0))
    exact all (ins, ct) hx
def ct_644 : qCt := ((6, [[(0, 400), (2, 1)], [(0, (-1)), (2, (-1))]], [(2, 40, [(1, 1)]), (1, 0, []), (0, 0, [(2, 1)])], [([(1, 1)], 40, 7, (0, 0, [])), ([(1, 1)], 40, 0, (2, 38, [(3, 1)])), ([(3, 1)], 38, 3, (2, 22, [(4, 1)])), ([(4, 1)], 22, 4, (0, 0, [])), ([(4, 1)], 22, 2, (0, 0, [])), ([(4, 1)], 22, 1, (0, 0, [])), ([(4, 1)], 22, 0, (2, 5, [(5, 1)]))]), (6, [], [(0, 0, [(0, (-1))])], [([(1, 1)], 40, 7, (0, 0, [(0, 1)])), ([(1, 1)], 40, 0, (2, 38, [(3, 1)])), ([(3, 1)], 38, 3, (2, 22, [(4, 1)])), ([(4, 1)], 22, 4, (0, 0, [])), ([(4, 1)], 22, 2, (0, 0, [])), ([(4, 1)], 22, 1, (0, 0, [])), ([(4, 1)], 22, 0, (2, 5, [(5, 1)]))], []), [], [(40, 7)], 0, 0)
def rm_644 : Room := { frames := 2, cells := 0, slots := 0, locals := 47 }
def e_644 : qEn := (k_1_17, (t_fg10, t_fp10, t_cn10), (t_na10, t_at10), (t_kI10, t_kL10, t_ob10, t_cp10), [(.invokevirtual 55, ct_14)], (q_k (-1), [], []))
def ts_644 : List (qTm × qCert × List qHx) := [((0, (6, [[(0, 400), (2, 1)], [(0, (-1)), (2, (-1))]], [(0, (2, 40, [(1, 1)])), (1, (1, 0, [])), (3, (0, 0, [(2, 1)]))], [], [([(1, 1)], 40, 7, (0, 0, [])), ([(1, 1)], 40, 0, (2, 38, [(3, 1)])), ([(3, 1)], 38, 3, (2, 22, [(4, 1)])), ([(4, 1)], 22, 4, (0, 0, [])), ([(4, 1)], 22, 2, (0, 0, [])), ([(4, 1)], 22, 1, (0, 0, [])), ([(4, 1)], 22, 0, (2, 5, [(5, 1)]))], 0, 0), []), (1, []), [(0, 0, [], [], []), (0, 1, [], [], [1]), (0, 1, [], [], [2]), (0, 0, [], [], []), (0, 0, [], [], []), (0, 0, [], [], []), (0, 0, [], [], []), (2, 0, [(1, [(0, 1), (2, 1)])], [], []), (0, 0, [], [], []), (0, 2, [(1, [(1, 1)])], [], []), (2, 0, [(1, [(1, 1), (3, 1)])], [], []), (0, 0, [], [], []), (0, 0, [], [], []), (0, 0, [], [], []), (2, 0, [(1, [(3, 1), (4, 1)])], [], []), (0, 0, [], [], []), (0, 0, [], [], []), (0, 1, [], [], [5]), (0, 1, [(1, [])], [], []), (0, 0, [], [], []), (2, 0, [(1, [(3, 1), (5, 1)])], [], []), (0, 0, [], [], []), (0, 0, [], [], []), (0, 0, [], [[(1, 1)]], [0]), (5, 0, [], [], [])])]
set_option maxRecDepth 100000 in
theorem m_644 (l : Launch) : q_Met l vwCl n_TL n_NW n_KT y_1_17 (Cond.code y_1_17 b_1_17 6 (some .int) :: n_GW) rm_644 ct_644 := by
  refine q_method (E := e_644) ts_644 (by decide) rfl rfl rfl ?_ (by decide +kernel)
  intro C D tys htl hl hrm hm hml ho hts hnm hE
  have h : n_ctx C b_1_17 6 "BalanceCoder" D tys := ⟨htl, hm, hml, ho, fun w hw => hts w (List.mem_cons_of_mem _ hw), hE⟩
  refine ⟨⟨?_, ?_⟩, ⟨?_, ?_, ?_, ?_, ?_⟩, ⟨?_, ?_, ?_⟩, ⟨?_, ?_, ?_, ?_⟩, ?_⟩
  · intro i ins len hx; exact kd_1_17 (i, ins, len) hx
  · exact n_at hE.1
  · intro i ci f hx; exact c_fg10 h (i, ci, f) hx
  · intro i ci f hx; exact c_fp10 h (i, ci, f) hx
  · exact n_hap h
  · intro i ci n hx; exact c_cn10 h (i, ci, n) hx
  · exact n_hag htl
  · exact c_n110 h
  · exact c_n210 h
  · intro t ci hx; exact c_at10 h (t, ci) hx
  · intro i n hx; exact c_kI10 h (i, n) hx
  · intro i n hx; exact c_kL10 h (i, n) hx
  · exact c_ob10 h ⟨by rw [hrm]; decide, by rw [hrm]; decide⟩
  · exact c_cp10 h
  · intro ins ct hx
    have g0 : q_Call C b_1_17 D tys n_KT 6 (.invokevirtual 55) ct_14 := q_callV n_NWk h.2.2.2.2.2 h.1 (m_14 C.2.1) ⟨h.2.1.1, h.2.1.2, h.2.2.1, h.2.2.2.1, h.2.2.2.2.1⟩ ⟨n_CB (y := y_1_27) (bytes := b_1_27) 1 h.2.2.2.2.1 n_w309 n_w306 n_w1 ⟨by decide, by decide, by decide +kernel⟩ rfl rfl ⟨by rw [hrm]; decide, by rw [hrm]; decide⟩, h.2.2.2.2.1 _ n_w308, h.2.2.2.2.1 _ n_s1⟩ (Cn := RX10) ⟨40, 10, _, _, _, _, TX10, 8, rfl, rfl, rfl⟩ rfl
    have all : ∀ x ∈ [((.invokevirtual 55 : Instr), ct_14)], q_Call C b_1_17 D tys n_KT 6 x.1 x.2 := (n_mem2 (g0) n_mem0)
    exact all (ins, ct) hx
def ct_645 : qCt := ((2, [[(0, 399), (1, 1)], [(0, (-1)), (1, (-1))]], [(5, 0, [(1, 1)]), (5, 0, [(0, (-400))]), (5, 0, [(0, 8)])], []), (2, [], [(0, 0, [(0, 1)])], [], []), [], [], 0, 0)
def rm_645 : Room := { frames := 1, cells := 0, slots := 0, locals := 26 }
def e_645 : qEn := (k_13_3, (t_fg12, t_fp12, t_cn12), (t_na12, t_at12), (t_kI12, t_kL12, t_ob12, t_cp12), [], (q_k (-1), [], []))
def ts_645 : List (qTm × qCert × List qHx) := [((0, (2, [[(0, 399), (1, 1)], [(0, (-1)), (1, (-1))]], [(0, (5, 0, [(1, 1)])), (2, (5, 0, [(0, (-400))])), (4, (5, 0, [(0, 8)]))], [], [], 0, 0), []), (1, []), [(0, 0, [], [], []), (0, 0, [], [], []), (0, 1, [(1, [(0, 1)])], [], []), (0, 0, [], [], []), (2, 0, [(1, [(2, 1)])], [], []), (0, 0, [], [], []), (0, 0, [], [], []), (0, 3, [(1, [(1, 1)])], [], []), (0, 0, [], [], []), (2, 0, [(1, [(3, 1)])], [], []), (0, 0, [], [], []), (0, 0, [], [], []), (5, 0, [(1, []), (1, [])], [], [])])]
set_option maxRecDepth 100000 in
theorem m_645 (l : Launch) : q_Met l vwCl n_TL n_NW n_KT y_13_3 (Cond.code y_13_3 b_13_3 6 (some .boolean) :: n_GW) rm_645 ct_645 := by
  refine q_method (E := e_645) ts_645 (by decide) rfl rfl rfl ?_ (by decide +kernel)
  intro C D tys htl hl hrm hm hml ho hts hnm hE
  have h : n_ctx C b_13_3 6 "BalanceCoderModel" D tys := ⟨htl, hm, hml, ho, fun w hw => hts w (List.mem_cons_of_mem _ hw), hE⟩
  refine ⟨⟨?_, ?_⟩, ⟨?_, ?_, ?_, ?_, ?_⟩, ⟨?_, ?_, ?_⟩, ⟨?_, ?_, ?_, ?_⟩, ?_⟩
  · intro i ins len hx; exact kd_13_3 (i, ins, len) hx
  · exact n_at hE.1
  · intro i ci f hx; exact c_fg12 h (i, ci, f) hx
  · intro i ci f hx; exact c_fp12 h (i, ci, f) hx
  · exact n_hap h
  · intro i ci n hx; exact c_cn12 h (i, ci, n) hx
  · exact n_hag htl
  · exact c_n112 h
  · exact c_n212 h
  · intro t ci hx; exact c_at12 h (t, ci) hx
  · intro i n hx; exact c_kI12 h (i, n) hx
  · intro i n hx; exact c_kL12 h (i, n) hx
  · exact c_ob12 h ⟨by rw [hrm]; decide, by rw [hrm]; decide⟩
  · exact c_cp12 h
  · intro ins ct hx; cases hx
def ct_646 : qCt := ((5, [[(0, 399), (2, 1)], [(0, (-1)), (2, (-1))]], [(2, 44, [(1, 1)]), (1, 0, []), (0, 0, [(2, 1)])], [([(1, 1)], 44, 0, (2, 42, [(3, 1)])), ([(3, 1)], 42, 8, (2, 5, [(4, 1)])), ([(3, 1)], 42, 7, (0, 0, [])), ([(3, 1)], 42, 9, (0, 0, [])), ([(3, 1)], 42, 10, (0, 0, [])), ([(1, 1)], 44, 3, (0, 0, []))]), (5, [], [(0, 0, [(0, (-1))])], [([(1, 1)], 44, 3, (0, 0, [(0, 1)])), ([(1, 1)], 44, 0, (2, 42, [(3, 1)])), ([(3, 1)], 42, 8, (2, 5, [(4, 1)])), ([(3, 1)], 42, 7, (0, 0, [])), ([(3, 1)], 42, 9, (0, 0, [])), ([(3, 1)], 42, 10, (0, 0, []))], []), [], [(44, 3)], 0, 0)
def rm_646 : Room := { frames := 2, cells := 0, slots := 0, locals := 51 }
def e_646 : qEn := (k_13_45, (t_fg12, t_fp12, t_cn12), (t_na12, t_at12), (t_kI12, t_kL12, t_ob12, t_cp12), [(.invokestatic 69, ct_645), (.invokevirtual 82, ct_18)], (q_k (-1), [], []))
def ts_646 : List (qTm × qCert × List qHx) := [((0, (5, [[(0, 399), (2, 1)], [(0, (-1)), (2, (-1))]], [(0, (2, 44, [(1, 1)])), (1, (1, 0, [])), (3, (0, 0, [(2, 1)]))], [], [([(1, 1)], 44, 0, (2, 42, [(3, 1)])), ([(3, 1)], 42, 8, (2, 5, [(4, 1)])), ([(3, 1)], 42, 7, (0, 0, [])), ([(3, 1)], 42, 9, (0, 0, [])), ([(3, 1)], 42, 10, (0, 0, [])), ([(1, 1)], 44, 3, (0, 0, []))], 0, 0), []), (1, []), [(0, 0, [], [], []), (0, 0, [], [], []), (0, 0, [], [], []), (0, 0, [], [], []), (0, 0, [(1, [(0, 1)]), (1, [(1, 1)])], [[(2, 1)]], [0]), (0, 1, [(1, [])], [], []), (2, 0, [(1, [(3, 1)])], [], []), (0, 0, [], [], []), (0, 2, [(1, [(1, 1)])], [], []), (2, 0, [(1, [(1, 1), (3, 1)])], [], []), (0, 0, [], [], []), (0, 0, [], [], []), (2, 0, [(1, [(3, 1), (4, 1)])], [], []), (0, 0, [], [], []), (0, 1, [(1, [(0, 1)])], [], []), (0, 0, [], [], []), (0, 1, [], [], [0]), (0, 1, [], [], [2]), (0, 0, [], [], []), (2, 0, [(1, [(4, 1), (5, 1)])], [], []), (0, 0, [], [], []), (0, 0, [], [], []), (0, 0, [], [[(1, 1)]], [1]), (5, 0, [], [], [])])]
set_option maxRecDepth 100000 in
theorem m_646 (l : Launch) : q_Met l vwCl n_TL n_NW n_KT y_13_45 (Cond.code y_13_45 b_13_45 5 (some .int) :: n_GW) rm_646 ct_646 := by
  refine q_method (E := e_646) ts_646 (by decide) rfl rfl rfl ?_ (by decide +kernel)
  intro C D tys htl hl hrm hm hml ho hts hnm hE
  have h : n_ctx C b_13_45 5 "BalanceCoderModel" D tys := ⟨htl, hm, hml, ho, fun w hw => hts w (List.mem_cons_of_mem _ hw), hE⟩
  refine ⟨⟨?_, ?_⟩, ⟨?_, ?_, ?_, ?_, ?_⟩, ⟨?_, ?_, ?_⟩, ⟨?_, ?_, ?_, ?_⟩, ?_⟩
  · intro i ins len hx; exact kd_13_45 (i, ins, len) hx
  · exact n_at hE.1
  · intro i ci f hx; exact c_fg12 h (i, ci, f) hx
  · intro i ci f hx; exact c_fp12 h (i, ci, f) hx
  · exact n_hap h
  · intro i ci n hx; exact c_cn12 h (i, ci, n) hx
  · exact n_hag htl
  · exact c_n112 h
  · exact c_n212 h
  · intro t ci hx; exact c_at12 h (t, ci) hx
  · intro i n hx; exact c_kI12 h (i, n) hx
  · intro i n hx; exact c_kL12 h (i, n) hx
  · exact c_ob12 h ⟨by rw [hrm]; decide, by rw [hrm]; decide⟩
  · exact c_cp12 h
  · intro ins ct hx
    have g0 : q_Call C b_13_45 D tys n_KT 5 (.invokestatic 69) ct_645 := q_callS n_NWk h.2.2.2.2.2 h.1 (m_645 C.2.1) ⟨h.2.1.1, h.2.1.2, h.2.2.1, h.2.2.2.1, h.2.2.2.2.1⟩ ⟨n_CB (y := y_13_3) (bytes := b_13_3) 3 h.2.2.2.2.1 n_w923 n_w921 n_w12 ⟨by decide, by decide, by decide +kernel⟩ rfl rfl ⟨by rw [hrm]; decide, by rw [hrm]; decide⟩, h.2.2.2.2.1 _ n_w922⟩ rfl
    have g1 : q_Call C b_13_45 D tys n_KT 5 (.invokevirtual 82) ct_18 := q_callV n_NWk h.2.2.2.2.2 h.1 (m_18 C.2.1) ⟨h.2.1.1, h.2.1.2, h.2.2.1, h.2.2.2.1, h.2.2.2.2.1⟩ ⟨n_CB (y := y_13_2) (bytes := b_13_2) 1 h.2.2.2.2.1 n_w928 n_w925 n_w12 ⟨by decide, by decide, by decide +kernel⟩ rfl rfl ⟨by rw [hrm]; decide, by rw [hrm]; decide⟩, h.2.2.2.2.1 _ n_w927, h.2.2.2.2.1 _ n_s27⟩ (Cn := RX12) ⟨44, 12, _, _, _, _, TX12, 31, rfl, rfl, rfl⟩ rfl
    have all : ∀ x ∈ [((.invokestatic 69 : Instr), ct_645), ((.invokevirtual 82 : Instr), ct_18)], q_Call C b_13_45 D tys n_KT 5 x.1 x.2 := (n_mem2 (g0) (n_mem2 (g1) n_mem0))
    exact all (ins, ct) hx
def ct_647 : qCt := ((1, [], [(5, 0, [(0, (-400))]), (5, 0, [(0, (-400))]), (5, 0, [(0, 8)])], []), (1, [], [(0, 0, [(0, 1)])], [], []), [], [], 0, 0)
def rm_647 : Room := { frames := 1, cells := 0, slots := 0, locals := 26 }
def e_647 : qEn := (k_13_3, (t_fg12, t_fp12, t_cn12), (t_na12, t_at12), (t_kI12, t_kL12, t_ob12, t_cp12), [], (q_k (-1), [], []))
def ts_647 : List (qTm × qCert × List qHx) := [((0, (1, [], [(0, (5, 0, [(0, (-400))])), (2, (5, 0, [(0, (-400))])), (4, (5, 0, [(0, 8)]))], [], [], 0, 0), []), (1, []), [(0, 0, [], [], []), (0, 0, [], [], []), (0, 2, [(1, []), (1, [])], [], []), (0, 0, [], [], []), (2, 0, [(1, [(0, 1)])], [], []), (0, 0, [], [], []), (0, 0, [], [], []), (0, 3, [(1, [])], [], []), (0, 0, [], [], []), (2, 0, [(1, [(1, 1)])], [], []), (0, 0, [], [], []), (0, 0, [], [], []), (5, 0, [(1, []), (1, [])], [], [])])]
set_option maxRecDepth 100000 in
theorem m_647 (l : Launch) : q_Met l vwCl n_TL n_NW n_KT y_13_3 (Cond.code y_13_3 b_13_3 6 (some .boolean) :: n_GW) rm_647 ct_647 := by
  refine q_method (E := e_647) ts_647 (by decide) rfl rfl rfl ?_ (by decide +kernel)
  intro C D tys htl hl hrm hm hml ho hts hnm hE
  have h : n_ctx C b_13_3 6 "BalanceCoderModel" D tys := ⟨htl, hm, hml, ho, fun w hw => hts w (List.mem_cons_of_mem _ hw), hE⟩
  refine ⟨⟨?_, ?_⟩, ⟨?_, ?_, ?_, ?_, ?_⟩, ⟨?_, ?_, ?_⟩, ⟨?_, ?_, ?_, ?_⟩, ?_⟩
  · intro i ins len hx; exact kd_13_3 (i, ins, len) hx
  · exact n_at hE.1
  · intro i ci f hx; exact c_fg12 h (i, ci, f) hx
  · intro i ci f hx; exact c_fp12 h (i, ci, f) hx
  · exact n_hap h
  · intro i ci n hx; exact c_cn12 h (i, ci, n) hx
  · exact n_hag htl
  · exact c_n112 h
  · exact c_n212 h
  · intro t ci hx; exact c_at12 h (t, ci) hx
  · intro i n hx; exact c_kI12 h (i, n) hx
  · intro i n hx; exact c_kL12 h (i, n) hx
  · exact c_ob12 h ⟨by rw [hrm]; decide, by rw [hrm]; decide⟩
  · exact c_cp12 h
  · intro ins ct hx; cases hx
def ct_648 : qCt := ((4, [], [(2, 44, [(1, 1)]), (1, 0, []), (0, 0, [(0, (-400))])], [([(1, 1)], 44, 0, (2, 42, [(2, 1)])), ([(2, 1)], 42, 8, (2, 5, [(3, 1)])), ([(2, 1)], 42, 7, (0, 0, [])), ([(2, 1)], 42, 9, (0, 0, [])), ([(2, 1)], 42, 10, (0, 0, [])), ([(1, 1)], 44, 3, (0, 0, []))]), (4, [], [(0, 0, [(0, (-1))])], [([(1, 1)], 44, 3, (0, 0, [(0, 1)])), ([(1, 1)], 44, 0, (2, 42, [(2, 1)])), ([(2, 1)], 42, 8, (2, 5, [(3, 1)])), ([(2, 1)], 42, 7, (0, 0, [])), ([(2, 1)], 42, 9, (0, 0, [])), ([(2, 1)], 42, 10, (0, 0, []))], []), [], [(44, 3)], 0, 0)
def rm_648 : Room := { frames := 2, cells := 0, slots := 0, locals := 51 }
def e_648 : qEn := (k_13_45, (t_fg12, t_fp12, t_cn12), (t_na12, t_at12), (t_kI12, t_kL12, t_ob12, t_cp12), [(.invokestatic 69, ct_647), (.invokevirtual 82, ct_18)], (q_k (-1), [], []))
def ts_648 : List (qTm × qCert × List qHx) := [((0, (4, [], [(0, (2, 44, [(1, 1)])), (1, (1, 0, [])), (3, (0, 0, [(0, (-400))]))], [], [([(1, 1)], 44, 0, (2, 42, [(2, 1)])), ([(2, 1)], 42, 8, (2, 5, [(3, 1)])), ([(2, 1)], 42, 7, (0, 0, [])), ([(2, 1)], 42, 9, (0, 0, [])), ([(2, 1)], 42, 10, (0, 0, [])), ([(1, 1)], 44, 3, (0, 0, []))], 0, 0), []), (1, []), [(0, 0, [], [], []), (0, 0, [], [], []), (0, 0, [], [], []), (0, 0, [], [], []), (0, 0, [], [], [0]), (0, 1, [(1, [])], [], []), (2, 0, [(1, [(1, 1)])], [], []), (0, 0, [], [], []), (0, 2, [(1, [])], [], []), (2, 0, [(1, [(1, 1)])], [], []), (0, 0, [], [], []), (0, 0, [], [], []), (2, 0, [(1, [(2, 1)])], [], []), (0, 0, [], [], []), (0, 1, [(1, [])], [], []), (0, 0, [], [], []), (0, 1, [], [], [0]), (0, 1, [], [], [2]), (0, 0, [], [], []), (2, 0, [(1, [(3, 1)])], [], []), (0, 0, [], [], []), (0, 0, [], [], []), (0, 0, [], [[(1, 1)]], [1]), (5, 0, [], [], [])])]
set_option maxRecDepth 100000 in
theorem m_648 (l : Launch) : q_Met l vwCl n_TL n_NW n_KT y_13_45 (Cond.code y_13_45 b_13_45 5 (some .int) :: n_GW) rm_648 ct_648 := by
  refine q_method (E := e_648) ts_648 (by decide) rfl rfl rfl ?_ (by decide +kernel)
  intro C D tys htl hl hrm hm hml ho hts hnm hE
  have h : n_ctx C b_13_45 5 "BalanceCoderModel" D tys := ⟨htl, hm, hml, ho, fun w hw => hts w (List.mem_cons_of_mem _ hw), hE⟩
  refine ⟨⟨?_, ?_⟩, ⟨?_, ?_, ?_, ?_, ?_⟩, ⟨?_, ?_, ?_⟩, ⟨?_, ?_, ?_, ?_⟩, ?_⟩
  · intro i ins len hx; exact kd_13_45 (i, ins, len) hx
  · exact n_at hE.1
  · intro i ci f hx; exact c_fg12 h (i, ci, f) hx
  · intro i ci f hx; exact c_fp12 h (i, ci, f) hx
  · exact n_hap h
  · intro i ci n hx; exact c_cn12 h (i, ci, n) hx
  · exact n_hag htl
  · exact c_n112 h
  · exact c_n212 h
  · intro t ci hx; exact c_at12 h (t, ci) hx
  · intro i n hx; exact c_kI12 h (i, n) hx
  · intro i n hx; exact c_kL12 h (i, n) hx
  · exact c_ob12 h ⟨by rw [hrm]; decide, by rw [hrm]; decide⟩
  · exact c_cp12 h
  · intro ins ct hx
    have g0 : q_Call C b_13_45 D tys n_KT 5 (.invokestatic 69) ct_647 := q_callS n_NWk h.2.2.2.2.2 h.1 (m_647 C.2.1) ⟨h.2.1.1, h.2.1.2, h.2.2.1, h.2.2.2.1, h.2.2.2.2.1⟩ ⟨n_CB (y := y_13_3) (bytes := b_13_3) 3 h.2.2.2.2.1 n_w923 n_w921 n_w12 ⟨by decide, by decide, by decide +kernel⟩ rfl rfl ⟨by rw [hrm]; decide, by rw [hrm]; decide⟩, h.2.2.2.2.1 _ n_w922⟩ rfl
    have g1 : q_Call C b_13_45 D tys n_KT 5 (.invokevirtual 82) ct_18 := q_callV n_NWk h.2.2.2.2.2 h.1 (m_18 C.2.1) ⟨h.2.1.1, h.2.1.2, h.2.2.1, h.2.2.2.1, h.2.2.2.2.1⟩ ⟨n_CB (y := y_13_2) (bytes := b_13_2) 1 h.2.2.2.2.1 n_w928 n_w925 n_w12 ⟨by decide, by decide, by decide +kernel⟩ rfl rfl ⟨by rw [hrm]; decide, by rw [hrm]; decide⟩, h.2.2.2.2.1 _ n_w927, h.2.2.2.2.1 _ n_s27⟩ (Cn := RX12) ⟨44, 12, _, _, _, _, TX12, 31, rfl, rfl, rfl⟩ rfl
    have all : ∀ x ∈ [((.invokestatic 69 : Instr), ct_647), ((.invokevirtual 82 : Instr), ct_18)], q_Call C b_13_45 D tys n_KT 5 x.1 x.2 := (n_mem2 (g0) (n_mem2 (g1) n_mem0))
    exact all (ins, ct) hx
def ct_649 : qCt := ((50, [[(0, 2147483648), (2, 1)], [(0, (-1)), (2, (-1))]], [(2, 40, [(1, 1)]), (0, 0, [(2, 1)])], [([(1, 1)], 40, 7, (0, 0, [])), ([(1, 1)], 40, 3, (2, 26, [(3, 1)])), ([(3, 1)], 26, 2, (0, 0, [])), ([(3, 1)], 26, 1, (2, 2, [(4, 1)])), ([(3, 1)], 26, 0, (2, 2, [(5, 1)])), ([(1, 1)], 40, 2, (2, 20, [(6, 1)])), ([(6, 1)], 20, 5, (0, 0, [])), ([(6, 1)], 20, 4, (2, 4, [(7, 1)])), ([(6, 1)], 20, 3, (2, 3, [(8, 1)])), ([(8, 1)], 3, 0, (0, 0, [])), ([(8, 1)], 3, 1, (0, 0, [])), ([(8, 1)], 3, 2, (0, 0, [])), ([(8, 1)], 3, 3, (0, 0, [])), ([(6, 1)], 20, 2, (2, 34, [(9, 1)])), ([(9, 1)], 34, 5, (0, 0, [])), ([(9, 1)], 34, 4, (2, 0, [(10, 1)])), ([(9, 1)], 34, 3, (2, 0, [(11, 1)])), ([(9, 1)], 34, 2, (2, 0, [(12, 1)])), ([(9, 1)], 34, 1, (2, 0, [(13, 1)])), ([(9, 1)], 34, 0, (2, 0, [(14, 1)])), ([(6, 1)], 20, 1, (2, 28, [(15, 1)])), ([(15, 1)], 28, 1, (0, 0, [])), ([(15, 1)], 28, 0, (2, 24, [(16, 1)])), ([(16, 1)], 24, 0, (2, 1, [(17, 1)])), ([(6, 1)], 20, 0, (2, 36, [(18, 1)])), ([(18, 1)], 36, 2, (0, 0, [(0, 8)])), ([(18, 1)], 36, 1, (0, 0, [(0, 1)])), ([(18, 1)], 36, 0, (2, 18, [(19, 1)])), ([(19, 1)], 18, 3, (2, 24, [(20, 1)])), ([(20, 1)], 24, 0, (2, 1, [(21, 1)])), ([(19, 1)], 18, 2, (2, 24, [(22, 1)])), ([(22, 1)], 24, 0, (2, 1, [(23, 1)])), ([(19, 1)], 18, 1, (2, 24, [(24, 1)])), ([(24, 1)], 24, 0, (2, 1, [(25, 1)])), ([(19, 1)], 18, 0, (2, 24, [(26, 1)])), ([(26, 1)], 24, 0, (2, 1, [(27, 1)])), ([(1, 1)], 40, 0, (2, 38, [(28, 1)])), ([(28, 1)], 38, 3, (2, 22, [(29, 1)])), ([(29, 1)], 22, 4, (0, 0, [])), ([(29, 1)], 22, 3, (2, 34, [(30, 1)])), ([(30, 1)], 34, 5, (0, 0, [])), ([(30, 1)], 34, 4, (2, 0, [(31, 1)])), ([(30, 1)], 34, 3, (2, 0, [(32, 1)])), ([(30, 1)], 34, 2, (2, 0, [(33, 1)])), ([(30, 1)], 34, 1, (2, 0, [(34, 1)])), ([(30, 1)], 34, 0, (2, 0, [(35, 1)])), ([(29, 1)], 22, 2, (0, 0, [])), ([(29, 1)], 22, 1, (0, 0, [])), ([(29, 1)], 22, 0, (2, 5, [(36, 1)])), ([(28, 1)], 38, 0, (2, 17, [(37, 1)])), ([(37, 1)], 17, 5, (2, 32, [(38, 1)])), ([(38, 1)], 32, 1, (0, 0, [])), ([(38, 1)], 32, 0, (2, 0, [(39, 1)])), ([(37, 1)], 17, 4, (2, 32, [(40, 1)])), ([(40, 1)], 32, 1, (0, 0, [])), ([(40, 1)], 32, 0, (2, 0, [(41, 1)])), ([(37, 1)], 17, 3, (2, 32, [(42, 1)])), ([(42, 1)], 32, 1, (0, 0, [])), ([(42, 1)], 32, 0, (2, 0, [(43, 1)])), ([(37, 1)], 17, 2, (2, 32, [(44, 1)])), ([(44, 1)], 32, 1, (0, 0, [])), ([(44, 1)], 32, 0, (2, 0, [(45, 1)])), ([(37, 1)], 17, 1, (2, 32, [(46, 1)])), ([(46, 1)], 32, 1, (0, 0, [])), ([(46, 1)], 32, 0, (2, 0, [(47, 1)])), ([(37, 1)], 17, 0, (2, 32, [(48, 1)])), ([(48, 1)], 32, 1, (0, 0, [])), ([(48, 1)], 32, 0, (2, 0, [(49, 1)]))]), (50, [], [(0, 0, [(0, (-1))])], [([(1, 1)], 40, 7, (0, 0, [(0, 1)])), ([(1, 1)], 40, 0, (2, 38, [(28, 1)])), ([(28, 1)], 38, 0, (2, 17, [(37, 1)])), ([(37, 1)], 17, 5, (2, 32, [(38, 1)])), ([(37, 1)], 17, 4, (2, 32, [(40, 1)])), ([(37, 1)], 17, 3, (2, 32, [(42, 1)])), ([(37, 1)], 17, 2, (2, 32, [(44, 1)])), ([(37, 1)], 17, 1, (2, 32, [(46, 1)])), ([(37, 1)], 17, 0, (2, 32, [(48, 1)])), ([(1, 1)], 40, 3, (2, 26, [(3, 1)])), ([(3, 1)], 26, 2, (0, 0, [])), ([(3, 1)], 26, 1, (2, 2, [(4, 1)])), ([(3, 1)], 26, 0, (2, 2, [(5, 1)])), ([(1, 1)], 40, 2, (2, 20, [(6, 1)])), ([(6, 1)], 20, 5, (0, 0, [])), ([(6, 1)], 20, 4, (2, 4, [(7, 1)])), ([(6, 1)], 20, 3, (2, 3, [(8, 1)])), ([(8, 1)], 3, 0, (0, 0, [])), ([(8, 1)], 3, 1, (0, 0, [])), ([(8, 1)], 3, 2, (0, 0, [])), ([(8, 1)], 3, 3, (0, 0, [])), ([(6, 1)], 20, 2, (2, 34, [(9, 1)])), ([(9, 1)], 34, 5, (0, 0, [])), ([(9, 1)], 34, 4, (2, 0, [(10, 1)])), ([(9, 1)], 34, 3, (2, 0, [(11, 1)])), ([(9, 1)], 34, 2, (2, 0, [(12, 1)])), ([(9, 1)], 34, 1, (2, 0, [(13, 1)])), ([(9, 1)], 34, 0, (2, 0, [(14, 1)])), ([(6, 1)], 20, 1, (2, 28, [(15, 1)])), ([(15, 1)], 28, 1, (0, 0, [])), ([(15, 1)], 28, 0, (2, 24, [(16, 1)])), ([(16, 1)], 24, 0, (2, 1, [(17, 1)])), ([(6, 1)], 20, 0, (2, 36, [(18, 1)])), ([(18, 1)], 36, 2, (0, 0, [(0, 8)])), ([(18, 1)], 36, 1, (0, 0, [(0, 1)])), ([(18, 1)], 36, 0, (2, 18, [(19, 1)])), ([(19, 1)], 18, 3, (2, 24, [(20, 1)])), ([(20, 1)], 24, 0, (2, 1, [(21, 1)])), ([(19, 1)], 18, 2, (2, 24, [(22, 1)])), ([(22, 1)], 24, 0, (2, 1, [(23, 1)])), ([(19, 1)], 18, 1, (2, 24, [(24, 1)])), ([(24, 1)], 24, 0, (2, 1, [(25, 1)])), ([(19, 1)], 18, 0, (2, 24, [(26, 1)])), ([(26, 1)], 24, 0, (2, 1, [(27, 1)])), ([(28, 1)], 38, 3, (2, 22, [(29, 1)])), ([(29, 1)], 22, 4, (0, 0, [])), ([(29, 1)], 22, 3, (2, 34, [(30, 1)])), ([(30, 1)], 34, 5, (0, 0, [])), ([(30, 1)], 34, 4, (2, 0, [(31, 1)])), ([(30, 1)], 34, 3, (2, 0, [(32, 1)])), ([(30, 1)], 34, 2, (2, 0, [(33, 1)])), ([(30, 1)], 34, 1, (2, 0, [(34, 1)])), ([(30, 1)], 34, 0, (2, 0, [(35, 1)])), ([(29, 1)], 22, 2, (0, 0, [])), ([(29, 1)], 22, 1, (0, 0, [])), ([(29, 1)], 22, 0, (2, 5, [(36, 1)])), ([(38, 1)], 32, 1, (0, 0, [])), ([(38, 1)], 32, 0, (2, 0, [(39, 1)])), ([(40, 1)], 32, 1, (0, 0, [])), ([(40, 1)], 32, 0, (2, 0, [(41, 1)])), ([(42, 1)], 32, 1, (0, 0, [])), ([(42, 1)], 32, 0, (2, 0, [(43, 1)])), ([(44, 1)], 32, 1, (0, 0, [])), ([(44, 1)], 32, 0, (2, 0, [(45, 1)])), ([(46, 1)], 32, 1, (0, 0, [])), ([(46, 1)], 32, 0, (2, 0, [(47, 1)])), ([(48, 1)], 32, 1, (0, 0, [])), ([(48, 1)], 32, 0, (2, 0, [(49, 1)]))], []), [], [(40, 7)], 0, 0)
def rm_649 : Room := { frames := 2, cells := 0, slots := 0, locals := 47 }
def e_649 : qEn := (k_1_18, (t_fg10, t_fp10, t_cn10), (t_na10, t_at10), (t_kI10, t_kL10, t_ob10, t_cp10), [(.invokevirtual 51, ct_13), (.invokevirtual 55, ct_14)], (q_k (-1), [], []))
def ts_649 : List (qTm × qCert × List qHx) := [((0, (50, [[(0, 2147483648), (2, 1)], [(0, (-1)), (2, (-1))]], [(0, (2, 40, [(1, 1)])), (1, (0, 0, [(2, 1)]))], [], [([(1, 1)], 40, 7, (0, 0, [])), ([(1, 1)], 40, 3, (2, 26, [(3, 1)])), ([(3, 1)], 26, 2, (0, 0, [])), ([(3, 1)], 26, 1, (2, 2, [(4, 1)])), ([(3, 1)], 26, 0, (2, 2, [(5, 1)])), ([(1, 1)], 40, 2, (2, 20, [(6, 1)])), ([(6, 1)], 20, 5, (0, 0, [])), ([(6, 1)], 20, 4, (2, 4, [(7, 1)])), ([(6, 1)], 20, 3, (2, 3, [(8, 1)])), ([(8, 1)], 3, 0, (0, 0, [])), ([(8, 1)], 3, 1, (0, 0, [])), ([(8, 1)], 3, 2, (0, 0, [])), ([(8, 1)], 3, 3, (0, 0, [])), ([(6, 1)], 20, 2, (2, 34, [(9, 1)])), ([(9, 1)], 34, 5, (0, 0, [])), ([(9, 1)], 34, 4, (2, 0, [(10, 1)])), ([(9, 1)], 34, 3, (2, 0, [(11, 1)])), ([(9, 1)], 34, 2, (2, 0, [(12, 1)])), ([(9, 1)], 34, 1, (2, 0, [(13, 1)])), ([(9, 1)], 34, 0, (2, 0, [(14, 1)])), ([(6, 1)], 20, 1, (2, 28, [(15, 1)])), ([(15, 1)], 28, 1, (0, 0, [])), ([(15, 1)], 28, 0, (2, 24, [(16, 1)])), ([(16, 1)], 24, 0, (2, 1, [(17, 1)])), ([(6, 1)], 20, 0, (2, 36, [(18, 1)])), ([(18, 1)], 36, 2, (0, 0, [(0, 8)])), ([(18, 1)], 36, 1, (0, 0, [(0, 1)])), ([(18, 1)], 36, 0, (2, 18, [(19, 1)])), ([(19, 1)], 18, 3, (2, 24, [(20, 1)])), ([(20, 1)], 24, 0, (2, 1, [(21, 1)])), ([(19, 1)], 18, 2, (2, 24, [(22, 1)])), ([(22, 1)], 24, 0, (2, 1, [(23, 1)])), ([(19, 1)], 18, 1, (2, 24, [(24, 1)])), ([(24, 1)], 24, 0, (2, 1, [(25, 1)])), ([(19, 1)], 18, 0, (2, 24, [(26, 1)])), ([(26, 1)], 24, 0, (2, 1, [(27, 1)])), ([(1, 1)], 40, 0, (2, 38, [(28, 1)])), ([(28, 1)], 38, 3, (2, 22, [(29, 1)])), ([(29, 1)], 22, 4, (0, 0, [])), ([(29, 1)], 22, 3, (2, 34, [(30, 1)])), ([(30, 1)], 34, 5, (0, 0, [])), ([(30, 1)], 34, 4, (2, 0, [(31, 1)])), ([(30, 1)], 34, 3, (2, 0, [(32, 1)])), ([(30, 1)], 34, 2, (2, 0, [(33, 1)])), ([(30, 1)], 34, 1, (2, 0, [(34, 1)])), ([(30, 1)], 34, 0, (2, 0, [(35, 1)])), ([(29, 1)], 22, 2, (0, 0, [])), ([(29, 1)], 22, 1, (0, 0, [])), ([(29, 1)], 22, 0, (2, 5, [(36, 1)])), ([(28, 1)], 38, 0, (2, 17, [(37, 1)])), ([(37, 1)], 17, 5, (2, 32, [(38, 1)])), ([(38, 1)], 32, 1, (0, 0, [])), ([(38, 1)], 32, 0, (2, 0, [(39, 1)])), ([(37, 1)], 17, 4, (2, 32, [(40, 1)])), ([(40, 1)], 32, 1, (0, 0, [])), ([(40, 1)], 32, 0, (2, 0, [(41, 1)])), ([(37, 1)], 17, 3, (2, 32, [(42, 1)])), ([(42, 1)], 32, 1, (0, 0, [])), ([(42, 1)], 32, 0, (2, 0, [(43, 1)])), ([(37, 1)], 17, 2, (2, 32, [(44, 1)])), ([(44, 1)], 32, 1, (0, 0, [])), ([(44, 1)], 32, 0, (2, 0, [(45, 1)])), ([(37, 1)], 17, 1, (2, 32, [(46, 1)])), ([(46, 1)], 32, 1, (0, 0, [])), ([(46, 1)], 32, 0, (2, 0, [(47, 1)])), ([(37, 1)], 17, 0, (2, 32, [(48, 1)])), ([(48, 1)], 32, 1, (0, 0, [])), ([(48, 1)], 32, 0, (2, 0, [(49, 1)]))], 0, 0), []), (1, []), [(0, 0, [], [], []), (0, 0, [], [], []), (0, 0, [(1, [(0, 1)]), (1, [(1, 1)])], [[(1, 1)], [(2, 1)], [(28, 1)], [(37, 1)], [(38, 1)], [(40, 1)], [(42, 1)], [(44, 1)], [(46, 1)], [(48, 1)]], [0]), (0, 0, [], [], []), (0, 0, [], [], []), (0, 0, [], [], []), (0, 0, [], [], []), (0, 0, [], [], []), (0, 0, [], [[(1, 1)]], [1]), (5, 0, [], [], [])])]
set_option maxRecDepth 100000 in
theorem m_649 (l : Launch) : q_Met l vwCl n_TL n_NW n_KT y_1_18 (Cond.code y_1_18 b_1_18 6 (some .int) :: n_GW) rm_649 ct_649 := by
  refine q_method (E := e_649) ts_649 (by decide) rfl rfl rfl ?_ (by decide +kernel)
  intro C D tys htl hl hrm hm hml ho hts hnm hE
  have h : n_ctx C b_1_18 6 "BalanceCoder" D tys := ⟨htl, hm, hml, ho, fun w hw => hts w (List.mem_cons_of_mem _ hw), hE⟩
  refine ⟨⟨?_, ?_⟩, ⟨?_, ?_, ?_, ?_, ?_⟩, ⟨?_, ?_, ?_⟩, ⟨?_, ?_, ?_, ?_⟩, ?_⟩
  · intro i ins len hx; exact kd_1_18 (i, ins, len) hx
  · exact n_at hE.1
  · intro i ci f hx; exact c_fg10 h (i, ci, f) hx
  · intro i ci f hx; exact c_fp10 h (i, ci, f) hx
  · exact n_hap h
  · intro i ci n hx; exact c_cn10 h (i, ci, n) hx
  · exact n_hag htl
  · exact c_n110 h
  · exact c_n210 h
  · intro t ci hx; exact c_at10 h (t, ci) hx
  · intro i n hx; exact c_kI10 h (i, n) hx
  · intro i n hx; exact c_kL10 h (i, n) hx
  · exact c_ob10 h ⟨by rw [hrm]; decide, by rw [hrm]; decide⟩
  · exact c_cp10 h
  · intro ins ct hx
    have g0 : q_Call C b_1_18 D tys n_KT 6 (.invokevirtual 51) ct_13 := q_callV n_NWk h.2.2.2.2.2 h.1 (m_13 C.2.1) ⟨h.2.1.1, h.2.1.2, h.2.2.1, h.2.2.2.1, h.2.2.2.2.1⟩ ⟨n_CB (y := y_1_29) (bytes := b_1_29) 1 h.2.2.2.2.1 n_w305 n_w302 n_w1 ⟨by decide, by decide, by decide +kernel⟩ rfl rfl ⟨by rw [hrm]; decide, by rw [hrm]; decide⟩, h.2.2.2.2.1 _ n_w304, h.2.2.2.2.1 _ n_s0⟩ (Cn := RX10) ⟨40, 10, _, _, _, _, TX10, 8, rfl, rfl, rfl⟩ rfl
    have g1 : q_Call C b_1_18 D tys n_KT 6 (.invokevirtual 55) ct_14 := q_callV n_NWk h.2.2.2.2.2 h.1 (m_14 C.2.1) ⟨h.2.1.1, h.2.1.2, h.2.2.1, h.2.2.2.1, h.2.2.2.2.1⟩ ⟨n_CB (y := y_1_27) (bytes := b_1_27) 1 h.2.2.2.2.1 n_w309 n_w306 n_w1 ⟨by decide, by decide, by decide +kernel⟩ rfl rfl ⟨by rw [hrm]; decide, by rw [hrm]; decide⟩, h.2.2.2.2.1 _ n_w308, h.2.2.2.2.1 _ n_s1⟩ (Cn := RX10) ⟨40, 10, _, _, _, _, TX10, 8, rfl, rfl, rfl⟩ rfl
    have all : ∀ x ∈ [((.invokevirtual 51 : Instr), ct_13), ((.invokevirtual 55 : Instr), ct_14)], q_Call C b_1_18 D tys n_KT 6 x.1 x.2 := (n_mem2 (g0) (n_mem2 (g1) n_mem0))
    exact all (ins, ct) hx
