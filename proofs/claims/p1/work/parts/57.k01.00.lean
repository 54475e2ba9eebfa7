def l_h1_0 : List qHx := [(0, 1, [(1, []), (1, [])], [], []), (0, 0, [], [], []), (0, 0, [], [], []), (0, 0, [], [], []), (0, 0, [], [], []), (0, 0, [], [], []), (0, 1, [(1, [(0, 1)]), (1, [(1, 1)])], [], []), (0, 0, [], [], []), (0, 0, [], [], []), (5, 0, [], [], []), (2, 0, [(1, [(1, 1), (16, 1)])], [], [])]
set_option maxRecDepth 100000 in
theorem l_z1_0 {C : qCx} {G : qGx} (h : l_LC C G) : ∀ x ∈ [l_i1], q_ok C G x.1 x.2 := q_run_ok (f := l_f) h (hs := l_h1_0) (xs := [l_i1]) (by decide +kernel)
theorem l_k1 {C : qCx} {G : qGx} (h : l_LC C G) : q_ok C G l_i1.1 l_i1.2 := l_z1_0 h _ List.mem_cons_self
