theorem l_k20 {C : qCx} {G : qGx} (h : l_LC C G) : q_ok C G l_i20.1 l_i20.2 := sorry
