theorem l_k17 {C : qCx} {G : qGx} (h : l_LC C G) : q_ok C G l_i17.1 l_i17.2 := sorry
