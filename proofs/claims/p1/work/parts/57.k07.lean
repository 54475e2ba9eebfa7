theorem l_k7 {C : qCx} {G : qGx} (h : l_LC C G) : q_ok C G l_i7.1 l_i7.2 := sorry
