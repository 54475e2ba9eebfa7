theorem l_k5 {C : qCx} {G : qGx} (h : l_LC C G) : q_ok C G l_i5.1 l_i5.2 := sorry
