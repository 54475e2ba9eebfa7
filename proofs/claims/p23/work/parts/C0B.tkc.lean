/-! TAKING looks at the lanes' states and at the deals alone -/
theorem j_D_B {k r : Int} {B B' : Int → Int → Int} {w : Int → Int} {i : Int} (hB : ∀ p j : Int, 0 ≤ p → p < j_parts k → 0 ≤ j → j ≤ 256 → B' p j = B p j) {j : Int} (j0 : 0 ≤ j) (j1 : j ≤ 256) : j_D k r B' w i j = j_D k r B w i j := by
  unfold j_D
  by_cases c4 : k = 4
  · rw [if_pos c4, if_pos c4]
  · rw [if_neg c4, if_neg c4]
    by_cases c3 : k = 3
    · rw [if_pos c3, if_pos c3]
      exact hB _ j (Int.emod_nonneg _ (by omega)) (by unfold j_parts; rw [if_pos c3]; exact Int.emod_lt_of_pos _ (by omega)) j0 j1
    · rw [if_neg c3, if_neg c3]
      exact hB 0 j (by omega) (by have := j_parts_bd k; omega) j0 j1
theorem j_sg_rng (b : Int → Int) (x : Int) : 0 ≤ j_sg b x ∧ j_sg b x < 256 := by
  have : ∀ n : Nat, 0 ≤ j_sgN b x (n + 1) ∧ j_sgN b x (n + 1) < ((n + 1 : Nat) : Int) := by
    intro n
    induction n with
    | zero =>
      show 0 ≤ (if b ((0 : Nat) : Int) ≤ x then ((0 : Nat) : Int) else 0) ∧ (if b ((0 : Nat) : Int) ≤ x then ((0 : Nat) : Int) else 0) < ((0 + 1 : Nat) : Int)
      split <;> omega
    | succ n ih =>
      show 0 ≤ (if b ((n + 1 : Nat) : Int) ≤ x then ((n + 1 : Nat) : Int) else j_sgN b x (n + 1)) ∧ (if b ((n + 1 : Nat) : Int) ≤ x then ((n + 1 : Nat) : Int) else j_sgN b x (n + 1)) < ((n + 1 + 1 : Nat) : Int)
      split <;> omega
  exact this 255
theorem j_tk_c {F : Int → Int} {len st M la k r : Int} {B B' : Int → Int → Int} {X X' : Int → Int} {u : Int} (l0 : 1 ≤ la) (hX : ∀ l : Int, 0 ≤ l → l < la → X' l = X l) (hB : ∀ p j : Int, 0 ≤ p → p < j_parts k → 0 ≤ j → j ≤ 256 → B' p j = B p j) : ∀ n : Nat, (j_tk F len st M la k r B X u n = none ∧ j_tk F len st M la k r B' X' u n = none) ∨ ∃ (Y Y' : Int → Int) (v : Int) (w : Int → Int), j_tk F len st M la k r B X u n = some (Y, v, w) ∧ j_tk F len st M la k r B' X' u n = some (Y', v, w) ∧ ∀ l : Int, 0 ≤ l → l < la → Y' l = Y l
  | 0 => Or.inr ⟨X, X', u, fun _ => 0, rfl, rfl, hX⟩
  | n + 1 => by
    have e : j_tk F len st M la k r B X u (n + 1) = (j_tk F len st M la k r B X u n).bind (j_tk1 F len st M la k r B n) := rfl
    have e' : j_tk F len st M la k r B' X' u (n + 1) = (j_tk F len st M la k r B' X' u n).bind (j_tk1 F len st M la k r B' n) := rfl
    rw [e, e']
    rcases j_tk_c (F := F) (len := len) (st := st) (M := M) (r := r) (u := u) l0 hX hB n with ⟨h1, h2⟩ | ⟨Y, Y', v, w, h1, h2, hY⟩
    · rw [h1, h2]; exact Or.inl ⟨rfl, rfl⟩
    · rw [h1, h2]
      show (j_tk1 F len st M la k r B n (Y, v, w) = none ∧ j_tk1 F len st M la k r B' n (Y', v, w) = none) ∨ _
      have m0 : 0 ≤ (n : Int) % la := Int.emod_nonneg _ (by omega)
      have m1 : (n : Int) % la < la := Int.emod_lt_of_pos _ (by omega)
      have eY := hY _ m0 m1
      have sg : j_sg (j_D k r B' w n) (Y ((n : Int) % la) % M) = j_sg (j_D k r B w n) (Y ((n : Int) % la) % M) := j_sgN_congr 256 (fun j j0 j1 => j_D_B hB j0 (by omega))
      have sb := j_sg_rng (j_D k r B w n) (Y ((n : Int) % la) % M)
      have sh : j_sh (j_D k r B' w n) (j_sg (j_D k r B w n) (Y ((n : Int) % la) % M)) = j_sh (j_D k r B w n) (j_sg (j_D k r B w n) (Y ((n : Int) % la) % M)) := by
        show j_D k r B' w n _ - j_D k r B' w n _ = j_D k r B w n _ - j_D k r B w n _
        rw [j_D_B hB (by omega) (by omega), j_D_B hB sb.1 (by omega)]
      have db : j_D k r B' w n (j_sg (j_D k r B w n) (Y ((n : Int) % la) % M)) = j_D k r B w n (j_sg (j_D k r B w n) (Y ((n : Int) % la) % M)) := j_D_B hB sb.1 (by omega)
      have t' : j_tk1 F len st M la k r B' n (Y', v, w) = (j_refl F len st M 2 (j_sh (j_D k r B w n) (j_sg (j_D k r B w n) (Y ((n : Int) % la) % M)) * (Y ((n : Int) % la) / M) + Y ((n : Int) % la) % M - j_D k r B w n (j_sg (j_D k r B w n) (Y ((n : Int) % la) % M))) v).map (fun z => (j_u Y' ((n : Int) % la) z.1, z.2, j_u w n (j_sg (j_D k r B w n) (Y ((n : Int) % la) % M)))) := by
        unfold j_tk1
        dsimp only
        rw [eY, sg, sh, db]
      have t : j_tk1 F len st M la k r B n (Y, v, w) = (j_refl F len st M 2 (j_sh (j_D k r B w n) (j_sg (j_D k r B w n) (Y ((n : Int) % la) % M)) * (Y ((n : Int) % la) / M) + Y ((n : Int) % la) % M - j_D k r B w n (j_sg (j_D k r B w n) (Y ((n : Int) % la) % M))) v).map (fun z => (j_u Y ((n : Int) % la) z.1, z.2, j_u w n (j_sg (j_D k r B w n) (Y ((n : Int) % la) % M)))) := rfl
      show _ ∨ ∃ (Z Z' : Int → Int) (v' : Int) (w' : Int → Int), j_tk1 F len st M la k r B n (Y, v, w) = some (Z, v', w') ∧ j_tk1 F len st M la k r B' n (Y', v, w) = some (Z', v', w') ∧ ∀ l : Int, 0 ≤ l → l < la → Z' l = Z l
      rw [t, t']
      cases j_refl F len st M 2 (j_sh (j_D k r B w n) (j_sg (j_D k r B w n) (Y ((n : Int) % la) % M)) * (Y ((n : Int) % la) / M) + Y ((n : Int) % la) % M - j_D k r B w n (j_sg (j_D k r B w n) (Y ((n : Int) % la) % M))) v with
      | none => exact Or.inl ⟨rfl, rfl⟩
      | some z =>
        refine Or.inr ⟨_, _, _, _, rfl, rfl, fun l q0 q1 => ?_⟩
        by_cases el : l = (n : Int) % la
        · rw [el, j_u_at, j_u_at]
        · rw [j_u_ne el, j_u_ne el]; exact hY l q0 q1
