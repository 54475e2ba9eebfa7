theorem l_k22 {C : qCx} {G : qGx} (h : l_LC C G) : q_ok C G l_i22.1 l_i22.2 := sorry
