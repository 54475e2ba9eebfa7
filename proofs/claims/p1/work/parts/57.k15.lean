theorem l_k15 {C : qCx} {G : qGx} (h : l_LC C G) : q_ok C G l_i15.1 l_i15.2 := sorry
