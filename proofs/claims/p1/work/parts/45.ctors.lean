def ct_0 : qCt := ((2, [], [(2, 35, [(1, 1)])], [([(1, 1)], 35, 0, (3, 0, [])), ([(1, 1)], 35, 1, (3, 0, [])), ([(1, 1)], 35, 2, (3, 0, [])), ([(1, 1)], 35, 3, (3, 0, [])), ([(1, 1)], 35, 4, (3, 0, [])), ([(1, 1)], 35, 5, (0, 0, []))]), (7, [], [], [([(1, 1)], 34, 5, (0, 0, [])), ([(1, 1)], 34, 4, (2, 0, [(2, 1)])), ([(1, 1)], 34, 3, (2, 0, [(3, 1)])), ([(1, 1)], 34, 2, (2, 0, [(4, 1)])), ([(1, 1)], 34, 1, (2, 0, [(5, 1)])), ([(1, 1)], 34, 0, (2, 0, [(6, 1)]))], [([(1, 1)], 34)]), [35], [(35, 0), (35, 1), (35, 2), (35, 3), (35, 4), (35, 5)], 5, 2000)
def rm_0 : Room := { frames := 1, cells := 5, slots := 2000, locals := 20 }
def e_0 : qEn := (k_9_1, (t_fg7, t_fi7, t_cn7), (t_na7, t_at7), (t_kI7, t_kL7, t_ob7, t_cp7), [], (q_k (-1), [], []))
def ts_0 : List (qTm × qCert × List qHx) := [((0, (2, [], [(0, (2, 35, [(1, 1)]))], [], [([(1, 1)], 35, 0, (3, 0, [])), ([(1, 1)], 35, 1, (3, 0, [])), ([(1, 1)], 35, 2, (3, 0, [])), ([(1, 1)], 35, 3, (3, 0, [])), ([(1, 1)], 35, 4, (3, 0, [])), ([(1, 1)], 35, 5, (0, 0, []))], 0, 0), []), (1, []), [(0, 0, [], [], []), (0, 7, [], [], []), (0, 0, [], [], []), (0, 0, [], [], []), (0, 0, [], [], [0]), (0, 2, [], [], []), (0, 0, [], [], []), (0, 0, [], [], []), (0, 0, [], [], [0]), (0, 2, [], [], []), (0, 0, [], [], []), (0, 0, [], [], []), (0, 0, [], [], [0]), (0, 2, [], [], []), (0, 0, [], [], []), (0, 0, [], [], []), (0, 0, [], [], [0]), (0, 2, [], [], []), (0, 0, [], [], []), (0, 0, [], [], []), (0, 0, [], [], [0]), (0, 2, [], [], []), (0, 0, [], [], []), (0, 0, [], [], []), (0, 2, [(1, []), (1, [])], [], []), (3, 0, [], [[(1, 1)]], [35, 34]), (5, 0, [], [[(6, 1)], [(5, 1)], [(4, 1)], [(3, 1)], [(2, 1)]], [])])]
set_option maxRecDepth 100000 in
theorem m_0 (l : Launch) : q_Met l vwCl n_TL n_NW n_KT y_9_1 (Cond.code y_9_1 b_9_1 1 none :: n_GW) rm_0 ct_0 := by
  refine q_method (E := e_0) ts_0 (by decide) rfl rfl rfl ?_ (by decide +kernel)
  intro C D tys htl hl hrm hm hml ho hts hnm hE
  have h : n_ctx C b_9_1 1 "BalanceCoder$Steps" D tys := ⟨htl, hm, hml, ho, fun w hw => hts w (List.mem_cons_of_mem _ hw), hE⟩
  refine ⟨⟨?_, ?_⟩, ⟨?_, ?_, ?_, ?_, ?_⟩, ⟨?_, ?_, ?_⟩, ⟨?_, ?_, ?_, ?_⟩, ?_⟩
  · intro i ins len hx; exact kd_9_1 (i, ins, len) hx
  · exact n_at hE.1
  · intro i ci f hx; exact c_fg7 h (i, ci, f) hx
  · intro i ci f hx; exact c_fi7 h hnm (i, ci, f) hx
  · exact n_hap h
  · intro i ci n hx; exact c_cn7 h (i, ci, n) hx
  · exact n_hag htl
  · exact c_n17 h
  · exact c_n27 h
  · intro t ci hx; exact c_at7 h (t, ci) hx
  · intro i n hx; exact c_kI7 h (i, n) hx
  · intro i n hx; exact c_kL7 h (i, n) hx
  · exact c_ob7 h ⟨by rw [hrm]; decide, by rw [hrm]; decide⟩
  · exact c_cp7 h
  · intro ins ct hx; cases hx
