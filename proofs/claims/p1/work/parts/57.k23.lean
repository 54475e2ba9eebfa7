theorem l_k23 {C : qCx} {G : qGx} (h : l_LC C G) : q_ok C G l_i23.1 l_i23.2 := sorry
