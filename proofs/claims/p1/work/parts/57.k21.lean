theorem l_k21 {C : qCx} {G : qGx} (h : l_LC C G) : q_ok C G l_i21.1 l_i21.2 := sorry
