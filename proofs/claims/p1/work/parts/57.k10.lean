theorem l_k10 {C : qCx} {G : qGx} (h : l_LC C G) : q_ok C G l_i10.1 l_i10.2 := sorry
