theorem l_k14 {C : qCx} {G : qGx} (h : l_LC C G) : q_ok C G l_i14.1 l_i14.2 := sorry
