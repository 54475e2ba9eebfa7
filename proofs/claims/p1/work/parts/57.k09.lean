theorem l_k9 {C : qCx} {G : qGx} (h : l_LC C G) : q_ok C G l_i9.1 l_i9.2 := sorry
