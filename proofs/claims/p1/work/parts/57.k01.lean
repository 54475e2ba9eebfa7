theorem l_k1 {C : qCx} {G : qGx} (h : l_LC C G) : q_ok C G l_i1.1 l_i1.2 := sorry
