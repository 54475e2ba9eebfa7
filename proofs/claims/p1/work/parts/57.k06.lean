theorem l_k6 {C : qCx} {G : qGx} (h : l_LC C G) : q_ok C G l_i6.1 l_i6.2 := sorry
