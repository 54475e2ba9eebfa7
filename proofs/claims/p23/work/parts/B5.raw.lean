/-! THE SCRIPT: a cell that has no name -/
def j_scr (xs : Nat → Int32) (i : Int) : Int := (xs i.toNat).toInt
theorem j_scr_bd (xs : Nat → Int32) (i : Int) : -2147483648 ≤ j_scr xs i ∧ j_scr xs i ≤ 2147483647 := ⟨q_min _, q_max _⟩
def j_X (C : qCx) (G : jG) (b L : Nat) (xs : Nat → Int32) : Prop := va_X b L xs (q_s C) G.2.2.1 ∧ b < G.2.2.1.size ∧ ¬ j_A G b ∧ L ≤ 2560
section JR
variable {KT : List qKD} {nL : Nat} {C : qCx} {G : jG} {cc : ByteArray} {pc : Nat} {lo : List (Nat × jV)} {sk : List jV} {S : jS} {V : jH} {nc ns : Nat}
theorem j_aload_nR (E : j_E C cc G) {k : Fin 4} {i : Nat} {n : Int} (hd : decode cc pc = .ok (.aload_n k, 1)) (hi : (k : Nat) = i) (p : Nat) (hp : lo[p]? = some (i, (9, n))) (h : j_ok KT nL C G (pc + 1) lo ((9, n) :: sk) S V nc ns) : j_ok KT nL C G pc lo sk S V nc ns := by
  refine j_pure h (fun ad ls vs H locs h2 h3 kk => ?_)
  obtain ⟨v, e1, e2⟩ := h2.get (List.mem_of_getElem? hp)
  have e3 : v = .ref n.toNat := e2
  subst e3
  exact lv_aload_n E.1.1 E.1.2 hd hi e1 (kk ls _ h2 ⟨e2, h3⟩)
theorem j_rld {b L : Nat} {xs : Nat → Int32} {i : Int} (E : j_E C cc G) (hX : j_X C G b L xs) (hd : decode cc pc = .ok (.iaload, 1)) (h0 : 0 ≤ i) (h1 : i < (L : Int)) (h : j_ok KT nL C G (pc + 1) lo ((0, j_scr xs i) :: sk) S V nc ns) : j_ok KT nL C G pc lo ((0, i) :: (9, (b : Int)) :: sk) S V nc ns := by
  intro ad ls vs H locs g1 g2 g3 g4
  obtain ⟨v, ws, rfl, ⟨y, rfl, ey⟩, g3'⟩ := g3.cons
  obtain ⟨v2, ws2, rfl, e2, g3''⟩ := g3'.cons
  have e2 : v2 = .ref b := e2
  have ey : y.toInt = i := ey
  subst e2
  refine va_sld (A := j_A G) E.1.1 E.1.2 hX.1 hX.2.1 hX.2.2.1 g4.1 (vp_in_iff.mpr ⟨by omega, by omega⟩) hd ?_
  refine h ad ls _ H locs g1 g2 ⟨⟨xs y.toNatClampNeg, rfl, ?_⟩, g3''⟩ g4
  show (xs y.toNatClampNeg).toInt = (xs i.toNat).toInt
  rw [show y.toNatClampNeg = i.toNat from by show y.toInt.toNat = i.toNat; rw [ey]]
theorem j_rlen {b L : Nat} {xs : Nat → Int32} (E : j_E C cc G) (hX : j_X C G b L xs) (hd : decode cc pc = .ok (.arraylength, 1)) (h : j_ok KT nL C G (pc + 1) lo ((0, (L : Int)) :: sk) S V nc ns) : j_ok KT nL C G pc lo ((9, (b : Int)) :: sk) S V nc ns := by
  intro ad ls vs H locs g1 g2 g3 g4
  obtain ⟨v2, ws2, rfl, e2, g3''⟩ := g3.cons
  have e2 : v2 = .ref b := e2
  subst e2
  have hL := hX.2.2.2
  refine va_slen (A := j_A G) E.1.1 E.1.2 hX.1 hX.2.1 hX.2.2.1 g4.1 hd ?_
  refine h ad ls _ H locs g1 g2 ⟨⟨Int32.ofNat L, rfl, ?_⟩, g3''⟩ g4
  show (Int32.ofNat L).toInt = (L : Int)
  rw [Int32.toInt_ofNat_of_lt (by omega)]
end JR
