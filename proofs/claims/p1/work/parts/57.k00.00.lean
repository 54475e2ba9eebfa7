def l_h0_0 : List qHx := [(2, 0, [(1, [(13, 1), (15, 1)])], [], [])]
set_option maxRecDepth 100000 in
theorem l_z0_0 {C : qCx} {G : qGx} (h : l_LC C G) : ∀ x ∈ [l_i0], q_ok C G x.1 x.2 := q_run_ok (f := l_f) h (hs := l_h0_0) (xs := [l_i0]) (by decide +kernel)
theorem l_k0 {C : qCx} {G : qGx} (h : l_LC C G) : q_ok C G l_i0.1 l_i0.2 := l_z0_0 h _ List.mem_cons_self
