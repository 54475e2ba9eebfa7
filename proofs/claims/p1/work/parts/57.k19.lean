theorem l_k19 {C : qCx} {G : qGx} (h : l_LC C G) : q_ok C G l_i19.1 l_i19.2 := sorry
