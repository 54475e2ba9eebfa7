theorem l_k16 {C : qCx} {G : qGx} (h : l_LC C G) : q_ok C G l_i16.1 l_i16.2 := sorry
