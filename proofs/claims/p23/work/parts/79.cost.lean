/-! THE CLASS: costs -/
/-- the sum of 1000000 / i for i below k -/
def j_csum (k : Int) : Int := j_pre (fun i => if i = 0 then 0 else 1000000 / i) k
theorem j_csum_bd {k : Int} (h : 0 ≤ k) (h1 : k ≤ 4096) : 0 ≤ j_csum k ∧ j_csum k ≤ 140000000 := by
  have p : ∀ m : Nat, m ≤ 4096 → 0 ≤ j_csum m ∧ j_csum m ≤ 140000000 := by
    intro m hm
    have a : ∀ n : Nat, 0 ≤ j_csum n ∧ (n ≤ 91 → j_csum n ≤ 1000000 * n) ∧ (91 ≤ n → j_csum n ≤ 91000000 + 10989 * ((n : Int) - 91)) := by
      intro n
      induction n with
      | zero => exact ⟨by show (0 : Int) ≤ 0; omega, fun _ => by show (0 : Int) ≤ 1000000 * ((0 : Nat) : Int); omega, fun z => absurd z (by omega)⟩
      | succ n ih =>
        have es : j_csum ((n + 1 : Nat) : Int) = j_csum n + (if (n : Int) = 0 then 0 else 1000000 / (n : Int)) := by
          unfold j_csum
          rw [show ((n + 1 : Nat) : Int) = (n : Int) + 1 by omega, j_pre_s _ (by omega)]
        rw [es]
        by_cases e : (n : Int) = 0
        · rw [if_pos e]
          exact ⟨by omega, fun _ => by have := ih.2.1 (by omega); omega, fun z => absurd z (by omega)⟩
        · rw [if_neg e]
          have d0 : 0 ≤ 1000000 / (n : Int) := Int.ediv_nonneg (by omega) (by omega)
          have d1 := j_div_anti (a := 1) (b := (n : Int)) (by omega) (by omega)
          refine ⟨by omega, fun z => by have := ih.2.1 (by omega); omega, fun z => ?_⟩
          by_cases c : n < 91
          · have := ih.2.1 (by omega)
            omega
          · have d2 := j_div_anti (a := 91) (b := (n : Int)) (by omega) (by omega)
            have := ih.2.2 (by omega)
            omega
    have am := a m
    refine ⟨am.1, ?_⟩
    by_cases c : m ≤ 91
    · have := am.2.1 c; omega
    · have := am.2.2 (by omega)
      omega
  have := p k.toNat (by omega)
  rw [show ((k.toNat : Nat) : Int) = k by omega] at this
  omega
/-- the sums are there -/
def j_sumsOK (S : jS) (V : jH) (a : Int) : Prop := S.2 a 3 = a + 3 ∧ S.1 (a + 3) = 7 ∧ ∀ k : Int, 0 ≤ k → k ≤ 4096 → V (a + 3) k = j_csum k
theorem m5_10 (l : Launch) : M5_10 l 0 0 (fun a S V => 0 ≤ a ∧ j_sumsOK S V a) (fun a S V r S' V' => S' = S ∧ V' = V ∧ r = a + 3) := by
  refine e5_10 ?_
  rintro C G h hrm hcs hl hn a S V ha ⟨a0, s1, s2, s3⟩ R
  refine t5_10_0 h ha (fun _ _ => t5_10_52 h ha R ⟨rfl, rfl, s1⟩ (Nat.le_refl _) (Nat.le_refl _)) (fun q => absurd q (by omega))
theorem m5_10n (l : Launch) : M5_10 l 1 4097 (fun a S V => 0 ≤ a ∧ S.2 a 3 = -1 ∧ S.1 (a + 3) = 0) (fun a S V r S' V' => S' = j_sp (j_ns S (a + 3) 7) a 3 (a + 3) ∧ r = a + 3 ∧ j_sumsOK S' V' a ∧ ∀ c : Int, c ≠ a + 3 → V' c = V c) := by
  refine e5_10 ?_
  rintro C G h hrm hcs hl hn a S V ha ⟨a0, s1, s2⟩ R
  have ea : (j_ns S (a + 3) 7).1 a = 24 := j_nsk s2 ha (by decide)
  have er : (j_sp (j_ns S (a + 3) 7) a 3 (a + 3)).2 a 3 = a + 3 := by show j_up _ a 3 (a + 3) a 3 = a + 3; rw [j_up_at]
  have ek : (j_sp (j_ns S (a + 3) 7) a 3 (a + 3)).1 (a + 3) = 7 := j_nsa S (a + 3) 7
  have ea' : (j_sp (j_ns S (a + 3) 7) a 3 (a + 3)).1 a = 24 := ea
  refine t5_10_0 h ha (fun q _ => absurd q (by omega)) (fun _ => ?_)
  refine t5_10_7 (a1 := a + 3) h (by omega) s2 (by rw [hcs.1]; omega) (by rw [hcs.2]; omega) ea ?_
  generalize j_sp (j_ns S (a + 3) 7) a 3 (a + 3) = S1 at *
  have loop : ∀ (i : Int) (V2 : jH), (1 ≤ i ∧ i ≤ 4096 ∧ (∀ k : Int, 0 ≤ k → k ≤ i → V2 (a + 3) k = j_csum k) ∧ ∀ c : Int, c ≠ a + 3 → V2 c = V c) → j_ok n_KT 3 C G 22 [(0, (2, a)), (1, (0, 4096)), (2, (0, i))] [] S1 V2 1 4097 := by
    refine j_loop (N := 4096) (fun i V2 hi hI kk => ?_) (fun i V2 hi hI => ?_)
    · obtain ⟨g0, g1, g2, g3⟩ := hI
      have b1 := j_csum_bd (show 0 ≤ i by omega) g1
      have d0 : 0 ≤ 1000000 / i := Int.ediv_nonneg (by omega) (by omega)
      have d1 := j_div_anti (a := 1) (b := i) (by omega) g0
      have ei := g2 i (by omega) (Int.le_refl _)
      refine t5_10_22 h (fun q => absurd q (by omega)) (fun _ => ?_)
      refine t5_10_27 (n_S2l03 := 4097) h ea' (by omega) (by rw [er]; exact j_arr_of ek (by decide) rfl) (by omega) (by omega) g0 (by rw [er, ei]; omega) (by omega) (by omega) ?_
      rw [er]
      refine kk _ ⟨by omega, by omega, fun k k0 k1 => ?_, fun c hc => by rw [j_up_ne hc]; exact g3 c hc⟩
      by_cases e : k = i + 1
      · rw [e, j_up_at, ei]
        unfold j_csum
        rw [j_pre_s _ (by omega), if_neg (by omega)]
      · rw [j_up_off e]
        exact g2 k k0 (by omega)
    · obtain ⟨g0, g1, g2, g3⟩ := hI
      have ei : i = 4096 := by omega
      rw [ei] at g2
      refine t5_10_22 h (fun _ => t5_10_52 h ea' R ⟨rfl, er, ⟨er, ek, g2⟩, g3⟩ (Nat.le_refl _) (Nat.le_refl _)) (fun q => absurd q (by omega))
  refine loop 1 _ ⟨by omega, by omega, fun k k0 k1 => ?_, fun c hc => if_neg hc⟩
  have : k = 0 ∨ k = 1 := by omega
  rcases this with e | e <;> rw [e] <;> (show (if a + 3 = a + 3 then fun _ => (0 : Int) else V (a + 3)) _ = _) <;> rw [if_pos rfl] <;> rfl
