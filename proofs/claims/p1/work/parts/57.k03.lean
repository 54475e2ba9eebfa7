theorem l_k3 {C : qCx} {G : qGx} (h : l_LC C G) : q_ok C G l_i3.1 l_i3.2 := sorry
