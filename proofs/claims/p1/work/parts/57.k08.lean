theorem l_k8 {C : qCx} {G : qGx} (h : l_LC C G) : q_ok C G l_i8.1 l_i8.2 := sorry
