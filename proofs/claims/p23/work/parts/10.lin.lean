/-! LINEAR FORMS over numbered unknowns (unknown 0 is 1), and a check of 'so many times the goal is a sum of known ones' -/
abbrev qLin : Type := List (Nat × Int)
def q_ev (r : Nat → Int) : qLin → Int
  | [] => 0
  | p :: t => p.2 * r p.1 + q_ev r t
def q_ins (i : Nat) (c : Int) : qLin → qLin
  | [] => if c = 0 then [] else [(i, c)]
  | p :: t => if i < p.1 then (if c = 0 then p :: t else (i, c) :: p :: t) else if i = p.1 then (if c + p.2 = 0 then t else (i, c + p.2) :: t) else p :: q_ins i c t
theorem q_ev_ins (r : Nat → Int) (i : Nat) (c : Int) : ∀ e : qLin, q_ev r (q_ins i c e) = c * r i + q_ev r e
  | [] => by
    unfold q_ins
    split
    · rename_i h; subst h; simp [q_ev]
    · simp [q_ev]
  | p :: t => by
    unfold q_ins
    split
    · split
      · rename_i h; subst h; simp [q_ev]
      · simp [q_ev]
    · split
      · rename_i h
        subst h
        split
        · rename_i h2
          have h3 : c = - p.2 := by omega
          subst h3
          simp only [q_ev]
          rw [Int.neg_mul]
          omega
        · simp only [q_ev]
          rw [Int.add_mul]
          omega
      · simp only [q_ev]
        rw [q_ev_ins r i c t]
        omega
def q_add (a b : qLin) : qLin := a.foldr (fun p acc => q_ins p.1 p.2 acc) b
theorem q_ev_add (r : Nat → Int) (a b : qLin) : q_ev r (q_add a b) = q_ev r a + q_ev r b := by
  induction a with
  | nil => simp [q_add, q_ev]
  | cons p t ih =>
    show q_ev r (q_ins p.1 p.2 (q_add t b)) = _
    rw [q_ev_ins, ih]
    simp only [q_ev]
    omega
def q_sc (k : Int) (e : qLin) : qLin := if k = 0 then [] else e.map (fun p => (p.1, k * p.2))
theorem q_ev_sc (r : Nat → Int) (k : Int) (e : qLin) : q_ev r (q_sc k e) = k * q_ev r e := by
  unfold q_sc
  split
  · rename_i h; subst h; simp [q_ev]
  · induction e with
    | nil => simp [q_ev]
    | cons p t ih =>
      simp only [List.map_cons, q_ev]
      rw [ih, Int.mul_add, Int.mul_assoc]
def q_sub (a b : qLin) : qLin := q_add a (q_sc (-1) b)
theorem q_ev_sub (r : Nat → Int) (a b : qLin) : q_ev r (q_sub a b) = q_ev r a - q_ev r b := by
  unfold q_sub
  rw [q_ev_add, q_ev_sc]
  omega
def q_k (c : Int) : qLin := if c = 0 then [] else [(0, c)]
theorem q_ev_k {r : Nat → Int} (h0 : r 0 = 1) (c : Int) : q_ev r (q_k c) = c := by
  unfold q_k
  split
  · rename_i h; subst h; rfl
  · simp [q_ev, h0]
def q_x (i : Nat) : qLin := [(i, 1)]
theorem q_ev_x (r : Nat → Int) (i : Nat) : q_ev r (q_x i) = r i := by simp [q_x, q_ev]
def q_wf (n : Nat) (e : qLin) : Bool := e.all (fun p => decide (p.1 < n))
theorem q_ev_wf {n : Nat} {r r' : Nat → Int} (h : ∀ i, i < n → r' i = r i) : ∀ e : qLin, q_wf n e = true → q_ev r' e = q_ev r e
  | [], _ => rfl
  | p :: t, hw => by
    simp only [q_wf, List.all_cons, Bool.and_eq_true, decide_eq_true_eq] at hw
    simp only [q_ev]
    rw [h p.1 hw.1, q_ev_wf h t (by unfold q_wf; exact hw.2)]
/-- a substitution -/
def q_su (g : List qLin) (e : qLin) : qLin := e.foldr (fun p acc => q_add (q_sc p.2 (g.getD p.1 [])) acc) []
def q_rs (r : Nat → Int) (g : List qLin) : Nat → Int := fun i => q_ev r (g.getD i [])
theorem q_ev_su (r : Nat → Int) (g : List qLin) (e : qLin) : q_ev r (q_su g e) = q_ev (q_rs r g) e := by
  induction e with
  | nil => rfl
  | cons p t ih =>
    show q_ev r (q_add (q_sc p.2 (g.getD p.1 [])) (q_su g t)) = _
    rw [q_ev_add, q_ev_sc, ih]
    rfl
/-- a certificate: how many times the goal, and so many times which known ones -/
abbrev qCert : Type := Nat × List (Nat × Nat)
def q_cmb (hy : List qLin) : List (Nat × Nat) → qLin
  | [] => []
  | p :: t => q_add (q_sc (p.2 : Int) (hy.getD p.1 [])) (q_cmb hy t)
theorem q_cmb_pos {r : Nat → Int} {hy : List qLin} (h : ∀ e ∈ hy, 0 ≤ q_ev r e) : ∀ l : List (Nat × Nat), 0 ≤ q_ev r (q_cmb hy l)
  | [] => by simp [q_cmb, q_ev]
  | p :: t => by
    simp only [q_cmb]
    rw [q_ev_add, q_ev_sc]
    have h1 := q_cmb_pos h t
    have h2 : 0 ≤ q_ev r (hy.getD p.1 []) := by
      by_cases hl : p.1 < hy.length
      · have : hy.getD p.1 [] = hy[p.1] := by simp [List.getD, hl]
        rw [this]
        exact h _ (List.getElem_mem hl)
      · have : hy.getD p.1 [] = [] := by simp [List.getD, List.getElem?_eq_none (Nat.not_lt.mp hl)]
        rw [this]
        exact Int.le_refl 0
    have h3 : 0 ≤ (p.2 : Int) * q_ev r (hy.getD p.1 []) := Int.mul_nonneg (Int.natCast_nonneg _) h2
    omega
def q_fk (hy : List qLin) (g : qLin) (c : qCert) : Bool :=
  decide (0 < c.1) && (match q_sub (q_sc (c.1 : Int) g) (q_cmb hy c.2) with
    | [] => true
    | [p] => decide (p.1 = 0) && decide (0 < p.2 + (c.1 : Int))
    | _ => false)
theorem q_fk_ok {r : Nat → Int} (h0 : r 0 = 1) {hy : List qLin} (h : ∀ e ∈ hy, 0 ≤ q_ev r e) {g : qLin} {c : qCert} (hc : q_fk hy g c = true) : 0 ≤ q_ev r g := by
  unfold q_fk at hc
  rw [Bool.and_eq_true, decide_eq_true_eq] at hc
  obtain ⟨hm, hc⟩ := hc
  have hp := q_cmb_pos h c.2
  have he : q_ev r (q_sub (q_sc (c.1 : Int) g) (q_cmb hy c.2)) = (c.1 : Int) * q_ev r g - q_ev r (q_cmb hy c.2) := by rw [q_ev_sub, q_ev_sc]
  have key : 0 < (c.1 : Int) * q_ev r g + (c.1 : Int) → 0 ≤ q_ev r g := by
    intro hk
    rcases Int.lt_or_le (q_ev r g) 0 with hn | hn
    · exfalso
      have h1 : (c.1 : Int) * (q_ev r g + 1) ≤ 0 := Int.mul_nonpos_of_nonneg_of_nonpos (Int.natCast_nonneg _) (by omega)
      rw [Int.mul_add, Int.mul_one] at h1
      omega
    · exact hn
  split at hc
  · rename_i hx
    rw [hx] at he
    simp only [q_ev] at he
    exact key (by omega)
  · rename_i p hx
    rw [hx] at he
    simp only [q_ev] at he
    rw [Bool.and_eq_true, decide_eq_true_eq, decide_eq_true_eq] at hc
    rw [hc.1, h0] at he
    exact key (by omega)
  · cases hc
