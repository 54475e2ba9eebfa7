theorem l_k4 {C : qCx} {G : qGx} (h : l_LC C G) : q_ok C G l_i4.1 l_i4.2 := sorry
