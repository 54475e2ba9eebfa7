theorem l_k13 {C : qCx} {G : qGx} (h : l_LC C G) : q_ok C G l_i13.1 l_i13.2 := sorry
