theorem l_k0 {C : qCx} {G : qGx} (h : l_LC C G) : q_ok C G l_i0.1 l_i0.2 := sorry
