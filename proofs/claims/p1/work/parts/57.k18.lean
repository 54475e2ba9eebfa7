theorem l_k18 {C : qCx} {G : qGx} (h : l_LC C G) : q_ok C G l_i18.1 l_i18.2 := sorry
