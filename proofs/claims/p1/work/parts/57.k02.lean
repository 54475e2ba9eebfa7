theorem l_k2 {C : qCx} {G : qGx} (h : l_LC C G) : q_ok C G l_i2.1 l_i2.2 := sorry
