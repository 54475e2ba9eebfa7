theorem l_k12 {C : qCx} {G : qGx} (h : l_LC C G) : q_ok C G l_i12.1 l_i12.2 := sorry
