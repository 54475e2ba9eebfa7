/-! THE CLASS: the cost of a row -/
def j_cost (b : Int → Int) (M : Int) (w : Int → Int) (n : Int) : Int := j_pre (fun i => j_csum M - j_csum (j_sh b (w i))) n
theorem j_cost_run {C : qCx} {G : jG} {S : jS} {V : jH} {nc ns mc ms : Nat} {qf : Int → jS → jH → Prop} {a d M w : Int} (h : x5_9 C G) (hrm : C.2.2.2.1.frames = 2 ∧ C.2.2.2.1.locals = 48) (L : j_L S) (ok : j_sumsOK S V a) (hd : S.1 d = 23) (hw : S.1 w = 27) (M0 : 0 ≤ M) (M1 : M ≤ 4096) (hD : j_dl (V (d + 1)) 0 M) (hr : j_rowOK V w)
    (R : j_Rl n_KT 8 C G b_5_9 mc ms qf) (q : qf (j_cost (V (d + 1)) M (V (w + 1)) (V w 1)) S V) (hc : nc ≤ mc) (hs : ns ≤ ms) (hc' : nc ≤ C.2.2.2.1.cells) (hs' : ns ≤ C.2.2.2.1.slots) : j_ok n_KT 8 C G 4 [(1, (2, d)), (2, (0, M)), (3, (2, w))] [(2, a + 3)] S V nc ns := by
  obtain ⟨s1, s2, s3⟩ := ok
  obtain ⟨r0, r1, r2⟩ := hr
  refine t5_9_4 h ?_
  have loop : ∀ (i : Int) (z : Int), (0 ≤ i ∧ i ≤ V w 1 ∧ z = j_cost (V (d + 1)) M (V (w + 1)) i ∧ -140000000 * i ≤ z ∧ z ≤ 140000000 * i) → j_ok n_KT 8 C G 12 [(1, (2, d)), (2, (0, M)), (3, (2, w)), (4, (2, a + 3)), (5, (1, z)), (7, (0, i))] [] S V nc ns := by
    refine j_loop (N := V w 1) (fun i z hi hI kk => ?_) (fun i z hi hI => ?_)
    · obtain ⟨g0, g1, g2, g3, g4⟩ := hI
      have hs := r2 i g0 hi
      have b0 := j_dl_bd hD M1 _ hs.1 (by omega)
      have b1 := j_dl_bd hD M1 (V (w + 1) i + 1) (by omega) (by omega)
      have b2 := hD.2.2 _ hs.1 hs.2
      have hsh : j_sh (V (d + 1)) (V (w + 1) i) = V (d + 1) (V (w + 1) i + 1) - V (d + 1) (V (w + 1) i) := rfl
      refine t5_9_12 h hw (fun q => absurd q (by omega)) (fun _ => ?_)
      refine t5_9_21 (n_l4 := 4097) h L hrm (j_arr_of s2 (by decide) rfl) M0 (by omega) hw g0 (by omega) hd (m4_2 C.2.1) ⟨L, hs.1, hs.2, by constructor <;> omega⟩ hc' hs' ?_
      rintro r S1 V1 ⟨e0, e1, er⟩
      subst e0
      subst e1
      change r = j_sh (V1 (d + 1)) (V1 (w + 1) i) at er
      have c1 := s3 r (by omega) (by omega)
      have c2 := s3 M M0 M1
      have k1 := j_csum_bd (k := r) (by omega) (by omega)
      have k2 := j_csum_bd M0 M1
      refine t5_9_40 (n_s1 := 4097) h (j_arr_of s2 (by decide) rfl) (by omega) (by omega) (by rw [c1, c2]; omega) (by rw [c1, c2]; omega) (by omega) (kk _ ⟨by omega, by omega, ?_, by rw [c1, c2]; omega, by rw [c1, c2]; omega⟩)
      unfold j_cost at g2 ⊢
      rw [j_pre_s _ g0, c1, c2, g2, er]
    · obtain ⟨g0, g1, g2, g3, g4⟩ := hI
      have ei : i = V w 1 := by omega
      rw [ei] at g2
      rw [← g2] at q
      exact t5_9_12 h hw (fun _ => t5_9_52 h R q hc hs) (fun q => absurd q (by omega))
  exact loop 0 0 ⟨by omega, r0, rfl, by omega, by omega⟩
theorem m5_9 (l : Launch) : M5_9 l 0 0 (fun a d M w S V => j_L S ∧ 0 ≤ a ∧ j_sumsOK S V a ∧ S.1 d = 23 ∧ S.1 w = 27 ∧ 0 ≤ M ∧ M ≤ 4096 ∧ j_dl (V (d + 1)) 0 M ∧ j_rowOK V w) (fun a d M w S V r S' V' => S' = S ∧ V' = V ∧ r = j_cost (V (d + 1)) M (V (w + 1)) (V w 1)) := by
  refine e5_9 ?_
  rintro C G h hrm hcs hl hn a d M w S V ha ⟨L, a0, ok, hd, hw, M0, M1, hD, hr⟩ R
  refine t5_9_0 h hrm ha (m5_10 C.2.1) ⟨a0, ok⟩ (Nat.zero_le _) (Nat.zero_le _) ?_
  rintro r S1 V1 ⟨e0, e1, er⟩
  subst e0
  subst e1
  rw [er]
  exact j_cost_run h hrm L ok hd hw M0 M1 hD hr R ⟨rfl, rfl, rfl⟩ (Nat.le_refl _) (Nat.le_refl _) (Nat.zero_le _) (Nat.zero_le _)
theorem j_L_sums {S : jS} {a : Int} (L : j_L S) (ha : S.1 a = 24) (h0 : S.1 (a + 3) = 0) : j_L (j_sp (j_ns S (a + 3) 7) a 3 (a + 3)) := by
  have e1 : ∀ c : Int, (j_sp (j_ns S (a + 3) 7) a 3 (a + 3)).1 c = if c = a + 3 then 7 else S.1 c := fun c => rfl
  refine j_L_mono L (fun c hc => ?_) (fun c hc => ?_) (fun c i hc _ h24 _ => ?_)
  · rw [e1, if_neg (fun z => hc (by rw [z]; exact h0))]
  · rw [e1] at hc ⊢
    by_cases z : c = a + 3
    · rw [if_pos z] at hc; omega
    · rw [if_neg z]
  · show j_up (j_ns S (a + 3) 7).2 a 3 (a + 3) c i = S.2 c i
    have n1 : c ≠ a + 3 := fun z => by rw [z, h0] at hc; omega
    have e2 : (j_ns S (a + 3) 7).2 c = S.2 c := if_neg n1
    by_cases z : c = a
    · rw [z] at h24 e2 ⊢
      rw [j_up_off (fun y => h24 ⟨ha, y⟩), e2]
    · rw [j_up_ne z, e2]
theorem m5_9n (l : Launch) : M5_9 l 1 4097 (fun a d M w S V => j_L S ∧ 0 ≤ a ∧ S.2 a 3 = -1 ∧ S.1 (a + 3) = 0 ∧ S.1 d = 23 ∧ S.1 w = 27 ∧ 0 ≤ M ∧ M ≤ 4096 ∧ j_dl (V (d + 1)) 0 M ∧ j_rowOK V w) (fun a d M w S V r S' V' => S' = j_sp (j_ns S (a + 3) 7) a 3 (a + 3) ∧ j_L S' ∧ j_sumsOK S' V' a ∧ (∀ c : Int, c ≠ a + 3 → V' c = V c) ∧ r = j_cost (V (d + 1)) M (V (w + 1)) (V w 1)) := by
  refine e5_9 ?_
  rintro C G h hrm hcs hl hn a d M w S V ha ⟨L, a0, q1, q2, hd, hw, M0, M1, hD, hr⟩ R
  refine t5_9_0 h hrm ha (m5_10n C.2.1) ⟨a0, q1, q2⟩ (by rw [hcs.1]; omega) (by rw [hcs.2]; omega) ?_
  rintro r S1 V1 ⟨e0, er, ok, fr⟩
  have L1 : j_L S1 := by rw [e0]; exact j_L_sums L ha q2
  have nn : ∀ {c : Int}, S.1 c ≠ 0 → c ≠ a + 3 := fun {c} hc z => hc (by rw [z]; exact q2)
  have kk : ∀ {c : Int} {k : Nat}, S.1 c = k → k ≠ 0 → S1.1 c = k := fun {c k} hc hk => by
    rw [e0]
    show (if c = a + 3 then 7 else S.1 c) = k
    rw [if_neg (nn (by rw [hc]; exact hk))]; exact hc
  have fd : V1 (d + 1) = V (d + 1) := fr _ (nn (by rw [L2_0k L hd]; decide))
  have fw : V1 w = V w := fr _ (nn (by rw [hw]; decide))
  have fw1 : V1 (w + 1) = V (w + 1) := fr _ (nn (by rw [L6_0k L hw]; decide))
  rw [er]
  refine j_cost_run h hrm L1 ok (kk hd (by decide)) (kk hw (by decide)) M0 M1 (by rw [fd]; exact hD) (by rw [j_rowOK, fw, fw1]; exact hr) R ⟨e0, L1, ok, fr, by rw [fd, fw, fw1]⟩ (by omega) (by omega) (by rw [hcs.1]; omega) (by rw [hcs.2]; omega)
