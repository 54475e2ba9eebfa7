theorem l_k24 {C : qCx} {G : qGx} (h : l_LC C G) : q_ok C G l_i24.1 l_i24.2 := sorry
