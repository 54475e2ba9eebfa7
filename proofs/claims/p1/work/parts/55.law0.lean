def l_U : List Nat := [21, 23, 25, 27, 29, 31, 33, 35, 37, 39, 41, 43, 45, 49, 51, 53, 55]
def l_M : List (Nat × Nat) := [(0, 0), (1, 0), (5, 0), (7, 0), (8, 0), (9, 0), (10, 0), (16, 0), (17, 0), (18, 0), (19, 0), (21, 0), (21, 1), (21, 2), (21, 3), (21, 4), (21, 5), (22, 1), (22, 2), (22, 4), (23, 0), (23, 1), (23, 2), (23, 3), (23, 4), (25, 0), (27, 0), (27, 1), (27, 2), (27, 3), (29, 0), (29, 1), (30, 0), (30, 1), (31, 0), (31, 1), (32, 1), (33, 0), (33, 1), (35, 0), (35, 1), (35, 2), (35, 3), (35, 4), (35, 5), (36, 1), (36, 2), (37, 0), (37, 1), (37, 2), (38, 2), (39, 0), (39, 1), (39, 2), (39, 3), (39, 4), (39, 5), (40, 1), (40, 6), (40, 7), (41, 0), (41, 1), (41, 2), (41, 3), (41, 4), (41, 5), (41, 6), (41, 7), (42, 2), (42, 7), (42, 9), (42, 10), (42, 11), (42, 12), (42, 13), (43, 0), (43, 1), (43, 3), (43, 4), (43, 5), (43, 6), (43, 8), (44, 2), (44, 3), (44, 4), (44, 9), (44, 22), (45, 0), (45, 1), (45, 5), (45, 6), (45, 7), (45, 8), (45, 11), (45, 14), (45, 15), (45, 16), (45, 17), (45, 19), (45, 21), (45, 28), (45, 29), (45, 30), (46, 0), (48, 1), (48, 2), (48, 4), (49, 0), (49, 1), (49, 2), (49, 3), (49, 4), (50, 1), (51, 0), (51, 1), (52, 5), (53, 0), (53, 1), (53, 2), (53, 3), (53, 4), (53, 5), (54, 2), (54, 4), (54, 5), (55, 0), (55, 1), (55, 2), (55, 3), (55, 4), (55, 5)]
/-! THE LAW: how its runs are put together -/
def q_runR (f : qHx → Nat → qSt → qSuc) : List qHx → List (Nat × qSt) → Option (List (Nat × qSt))
  | [], xs => some xs
  | _ :: _, [] => some []
  | h :: hs, x :: rest => (match f h x.1 x.2 with
    | some ss => q_runR f hs (ss ++ rest)
    | none => none)
theorem q_runR_ok {C : qCx} {G : qGx} {f : qHx → Nat → qSt → qSuc} (hf : ∀ h pc st ss, f h pc st = some ss → (∀ x ∈ ss, q_ok C G x.1 x.2) → q_ok C G pc st) : ∀ {hs : List qHx} {xs ys : List (Nat × qSt)}, q_runR f hs xs = some ys → (∀ y ∈ ys, q_ok C G y.1 y.2) → ∀ x ∈ xs, q_ok C G x.1 x.2
  | [], xs, ys, h, hy, x, hx => by cases h; exact hy x hx
  | _ :: _, [], _, _, _, x, hx => by cases hx
  | h :: hs, z :: rest, ys, hr, hy, x, hx => by
    unfold q_runR at hr
    split at hr
    · rename_i ss hss
      have ih := q_runR_ok hf hr hy
      rcases List.mem_cons.mp hx with rfl | hx
      · exact hf h _ _ ss hss (fun z hz => ih z (List.mem_append_left _ hz))
      · exact ih x (List.mem_append_right _ hx)
    · cases hr
def q_seqs : List (Nat × qSt) → List (Nat × qSt) → Bool
  | [], [] => true
  | a :: s, b :: t => decide (a.1 = b.1) && q_seq a.2 b.2 && q_seqs s t
  | _, _ => false
theorem q_seqs_ok : ∀ {a b : List (Nat × qSt)}, q_seqs a b = true → a = b
  | [], [], _ => rfl
  | a :: s, b :: t, h => by
    simp only [q_seqs, Bool.and_eq_true, decide_eq_true_eq] at h
    rw [q_seqs_ok h.2, show a = b from Prod.ext h.1.1 (q_seq_ok h.1.2)]
def q_runC (f : qHx → Nat → qSt → qSuc) (hs : List qHx) (xs ys : List (Nat × qSt)) : Bool := match q_runR f hs xs with
  | some zs => q_seqs zs ys
  | none => false
theorem q_runC_ok {C : qCx} {G : qGx} {f : qHx → Nat → qSt → qSuc} (hf : ∀ h pc st ss, f h pc st = some ss → (∀ x ∈ ss, q_ok C G x.1 x.2) → q_ok C G pc st) {hs : List qHx} {xs ys : List (Nat × qSt)} (h : q_runC f hs xs ys = true) (hy : ∀ y ∈ ys, q_ok C G y.1 y.2) : ∀ x ∈ xs, q_ok C G x.1 x.2 := by
  unfold q_runC at h
  split at h
  · rename_i zs hz
    rw [q_seqs_ok h] at hz
    exact q_runR_ok hf hz hy
  · cases h
/-- the law's end: true, within the room -/
def l_rt (pc : Nat) (st : qSt) (_ : qHint) : Bool := match q_lkc k_law pc with
  | some (.ireturn, 1) => decide (q_sk st = [(0, 0, q_k 1)]) && decide (st.2.2.2.2.2.1 ≤ 600000) && decide (st.2.2.2.2.2.2 ≤ 7302250)
  | _ => false
def e_law : qEn := (k_law, (t_fgL, t_fpL, t_cnL), (t_naL, t_atL), (t_kIL, t_kLL, t_obL, t_cpL), l_ca, (q_x 1, [q_x 3, q_x 4, q_x 5, q_x 6, q_x 7], q_x 2))
def l_f : qHx → Nat → qSt → qSuc := q_do n_KT l_U l_M 4 600000 7302250 e_law 8 [] [] l_rt
def l_LC (C : qCx) (G : qGx) : Prop := ∀ h pc st ss, l_f h pc st = some ss → (∀ x ∈ ss, q_ok C G x.1 x.2) → q_ok C G pc st
