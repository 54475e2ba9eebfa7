theorem l_k26 {C : qCx} {G : qGx} (h : l_LC C G) : q_ok C G l_i26.1 l_i26.2 := sorry
