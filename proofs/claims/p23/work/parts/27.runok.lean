/-! THE RUN is right -/
def q_Sem (C : qCx) (G : qGx) (cc : ByteArray) (kx sx : Nat) (E : qEn) : Prop :=
  (q_mc C cc ∧ (∀ i ins len, (i, ins, len) ∈ e_code E → decode cc i = .ok (ins, len)) ∧ (∀ q, (q_H0 G).size ≤ q → q_A G q) ∧ (q_c0 G + kx ≤ C.2.2.2.1.cells ∧ q_s0 G + sx ≤ C.2.2.2.1.slots) ∧ q_AT C.2.2.2.2.1 (q_tys G)) ∧
  ((∀ i ci f, (i, ci, f) ∈ e_fg E → q_Fget C cc (q_D G) i ci f) ∧ (∀ i ci f, (i, ci, f) ∈ e_fp E → ∃ ty, q_Fput C cc (q_D G) i ci f ty ∧ q_ktf (q_KT G) ci f ty = true) ∧
    (∀ (k ci n : Nat) (fts : List qFT), (q_KT G)[k]? = some (0, ci, n, fts) → ∀ x y, x < fts.length → y < fts.length → x ≠ y → (q_D G).2 ci x ≠ (q_D G).2 ci y) ∧
    (∀ i ci n, (i, ci, n) ∈ e_cn E → ∃ tyf : Nat → FieldType, q_Fnew C cc (q_D G) i ci n tyf ∧ ∀ f, f < n → q_ktf (q_KT G) ci f (tyf f) = true) ∧
    (∀ (g t n : Nat) (fts : List qFT) (k : Nat), (q_KT G)[k]? = some (g + 1, t, n, fts) → ∀ cA ty, (q_tys G)[t]? = some (cA, ty) → q_aty (g + 1) ty)) ∧
  ((∀ a t, (q_aky a, t) ∈ e_na E → ∃ cA ty, (q_tys G)[t]? = some (cA, ty) ∧ q_Fna C cc (.newarray a) cA ty) ∧ (∀ i t, (100 + i, t) ∈ e_na E → ∃ cA ty, (q_tys G)[t]? = some (cA, ty) ∧ q_Fna C cc (.anewarray i) cA ty) ∧ (∀ t ci, (t, ci) ∈ e_at E → q_AR C.2.2.2.2.1 (q_D G) (q_tys G) t ci)) ∧
  ((∀ i n, (i, n) ∈ e_kI E → ∃ v : Int32, v.toInt = n ∧ q_Kld C cc (.ldc i) (.int v)) ∧ (∀ i n, (i, n) ∈ e_kL E → ∃ v : Int64, v.toInt = n ∧ q_Kld C cc (.ldc2_w i) (.long v)) ∧ (∀ i ∈ e_ob E, q_Kob C cc (q_nL G) i) ∧ (∀ i ∈ e_cp E, q_Kcp C cc (q_nL G) i)) ∧
  (∀ ins ct, (ins, ct) ∈ e_ca E → q_Call C cc (q_D G) (q_tys G) (q_KT G) (q_nL G) ins ct) ∧ (e_sb E = q_k (-1) ∨ q_Ksc C cc G (e_sb E) (e_sc E) (e_sl E))
theorem q_or_cases {a b : qSuc} {ss : List (Nat × qSt)} (h : q_or a b = some ss) : a = some ss ∨ b = some ss := by
  unfold q_or at h
  split at h
  · exact Or.inl h
  · exact Or.inr h
section QP14
variable {C : qCx} {G : qGx} {cc : ByteArray} {pc : Nat} {st : qSt} {kx sx : Nat} {E : qEn}
theorem q_stK_ok {ins : Instr} {ss : List (Nat × qSt)} (hS : q_Sem C G cc kx sx E) (hd : decode cc pc = .ok (ins, q_len ins)) (h : q_stK E ins pc st = some ss) (hk : ∀ x ∈ ss, q_ok C G x.1 x.2) : q_ok C G pc st := by
  obtain ⟨-, -, -, ⟨hI, hL, -, -⟩, -, -⟩ := hS
  unfold q_stK at h
  split at h
  · split at h
    · rename_i i n hi
      cases h
      obtain ⟨v, hv, hrow⟩ := hI _ _ (q_lk1_ok hi)
      exact q_s_int (q_h1 hk) hv (fun k => hrow _ _ _ _ _ _ _ hd k)
    · cases h
  · split at h
    · rename_i i n hi
      cases h
      obtain ⟨v, hv, hrow⟩ := hL _ _ (q_lk1_ok hi)
      exact q_s_long (q_h1 hk) hv (fun k => hrow _ _ _ _ _ _ _ hd k)
    · cases h
  · cases h
theorem q_stO_ok {idx : Nat} {ss : List (Nat × qSt)} (hS : q_Sem C G cc kx sx E) (hd : decode cc pc = .ok (.invokespecial idx, 3)) (h : q_stO E idx pc st = some ss) (hk : ∀ x ∈ ss, q_ok C G x.1 x.2) : q_ok C G pc st := by
  obtain ⟨-, -, -, ⟨-, -, hO, -⟩, -, -⟩ := hS
  unfold q_stO at h
  split at h
  · rename_i k e xs hsk
    split at h
    · rename_i hc
      cases h
      refine q_ok.pure (q_h1 hk) rfl (fun r T ls sk H locs cells slots ha hf kk => ?_)
      have h4 : q_stk r T (q_sk st) sk := ha.2.2.2.1
      rw [hsk] at h4
      obtain ⟨v, vs, rfl, ⟨b, rfl, -, -⟩, hvs⟩ := h4.cons
      obtain ⟨lv, l1, -⟩ := ha.2.2.1
      exact hO idx hc.1 pc H locs cells slots ls vs b hd l1.1 (by rw [hvs.cats]; exact hc.2) (kk r ls vs (ha.setk hvs) hf)
    · cases h
  · cases h
theorem q_stY_ok {idx : Nat} {ss : List (Nat × qSt)} (hS : q_Sem C G cc kx sx E) (hd : decode cc pc = .ok (.invokestatic idx, 3)) (h : q_stY (q_KT G) E idx pc st = some ss) (hk : ∀ x ∈ ss, q_ok C G x.1 x.2) : q_ok C G pc st := by
  obtain ⟨⟨-, -, -, -, hA⟩, -, -, ⟨-, -, -, hP⟩, -, -⟩ := hS
  unfold q_stY at h
  split at h
  · rename_i j0 j1 k1 e1 j2 k0 e0 xs hsk
    split at h
    · rename_i t0 n0 f0 t1 n1 f1 hK0 hK1
      split at h
      · rename_i hc
        cases h
        have hk := q_h1 hk
        intro r T ls sk H locs ha hf
        have h4 : q_stk r T (q_sk st) sk := ha.2.2.2.1
        rw [hsk] at h4
        obtain ⟨v0, vs0, rfl, ⟨x0, rfl, h0⟩, hv0⟩ := h4.cons
        obtain ⟨v1, vs1, rfl, ⟨x1, rfl, h1⟩, hv1⟩ := hv0.cons
        obtain ⟨v2, vs2, rfl, ⟨a, rfl, ha1, -⟩, hv2⟩ := hv1.cons
        obtain ⟨v3, vs3, rfl, ⟨x2, rfl, h2⟩, hv3⟩ := hv2.cons
        obtain ⟨v4, vs, rfl, ⟨a0, rfl, ha0, -⟩, hvs⟩ := hv3.cons
        obtain ⟨lv, l1, -⟩ := ha.2.2.1
        obtain ⟨d, cell, d1, d2, d3⟩ := ha.2.2.2.2.1 a k1 ha1
        cases hK1.symm.trans d1
        obtain ⟨cA, ty, z, p1, p2, p3, p4⟩ := d3
        obtain ⟨d', cell', d1', d2', d3'⟩ := ha.2.2.2.2.1 a0 k0 ha0
        cases hK0.symm.trans d1'
        obtain ⟨cA', ty', z', p1', p2', p3', p4'⟩ := d3'
        cases (show ty = .int from p2)
        cases (show ty' = .int from p2')
        refine hP idx hc.1 pc H locs _ _ ls vs a a0 cA' cA _ _ z' z x0 x1 x2 hd l1.1 (by rw [hvs.cats]; exact hc.2) (hA _ _ p1') (hA _ _ p1) (by rw [d2', p3']) (by rw [d2, p3]) h0 h1 h2 (fun L hL => ?_)
        obtain ⟨f1, f2, f3, f4, f5, f6⟩ := hf
        exact hk r T ls vs H (locs ++ L) (ha.setk hvs) ⟨f1, f2, ⟨f3.1, f3.2.1, fun q hq => by
          rcases List.mem_append.mp hq with hq | hq
          · exact f3.2.2 q hq
          · rw [hL q hq]; exact f4 a k1 ha1⟩, f4, f5, f6⟩
      · cases h
    · cases h
  · cases h
theorem q_stR_ok {ins : Instr} {ht : qHint} {ss : List (Nat × qSt)} (hS : q_Sem C G cc kx sx E) (hd : decode cc pc = .ok (ins, q_len ins)) (h : q_stR E ins pc st ht = some ss) (hk : ∀ x ∈ ss, q_ok C G x.1 x.2) : q_ok C G pc st := by
  obtain ⟨-, -, -, -, -, hs⟩ := hS
  have no : ∀ {r : Nat → Int} {b : Nat}, r 0 = 1 → e_sb E = q_k (-1) → ¬ (b : Int) = q_ev r (e_sb E) := by
    intro r b h0 he hb
    rw [he, q_ev_k h0] at hb
    omega
  unfold q_stR at h
  split at h
  · split at h
    · rename_i k0 ei k1 eb xs hsk
      split at h
      · rename_i j hj
        split at h
        · rename_i e he
          split at h
          · rename_i hc
            obtain ⟨c1, rfl, c3⟩ := hc
            cases h
            have hk := q_h1 hk
            intro r T ls sk H locs ha hf
            have h4 : q_stk r T (q_sk st) sk := ha.2.2.2.1
            rw [hsk] at h4
            obtain ⟨v0, vs0, rfl, ⟨y, rfl, hy⟩, hv0⟩ := h4.cons
            obtain ⟨v1, vs, rfl, ⟨b, rfl, hb⟩, hvs⟩ := hv0.cons
            have hy : y.toInt = q_ev r ei := hy
            rw [q_kv_ok ha.1 hj] at hy
            have g1 := q_vc_ok ha.1 ha.2.1 c3
            rw [q_ev_sub, q_ev_sub, q_ev_k ha.1, q_ev_k ha.1] at g1
            rcases hs with hs | hs
            · exact absurd hb (no ha.1 hs)
            · exact (hs pc st.1 H locs _ _ ls vs r T b hf hb).1 j.toNat e y he (by omega) (by omega) hd (fun v hv => hk r T ls _ H locs (ha.setk ⟨⟨v, rfl, hv⟩, hvs⟩) hf)
          · cases h
        · cases h
      · cases h
    · cases h
  · split at h
    · rename_i k1 eb xs hsk
      split at h
      · rename_i hc
        subst hc
        cases h
        have hk := q_h1 hk
        intro r T ls sk H locs ha hf
        have h4 : q_stk r T (q_sk st) sk := ha.2.2.2.1
        rw [hsk] at h4
        obtain ⟨v, vs, rfl, ⟨b, rfl, hb⟩, hvs⟩ := h4.cons
        rcases hs with hs | hs
        · exact absurd hb (no ha.1 hs)
        · exact (hs pc st.1 H locs _ _ ls vs r T b hf hb).2 hd (fun v hv => hk r T ls _ H locs (ha.setk ⟨⟨v, rfl, hv⟩, hvs⟩) hf)
      · cases h
    · cases h
  · cases h
theorem q_inv__ok {ins : Instr} {ht : qHint} {ss : List (Nat × qSt)} (hS : q_Sem C G cc kx sx E) (hd : decode cc pc = .ok (ins, 3)) (h : q_inv_ (q_KT G) (q_U G) (q_M G) kx sx E ins pc st ht = some ss) (hk : ∀ x ∈ ss, q_ok C G x.1 x.2) : q_ok C G pc st := by
  obtain ⟨⟨-, -, hA2, hR, -⟩, -, -, -, hC, -⟩ := hS
  unfold q_inv_ at h
  split at h
  · rename_i ins' ct hi
    split at h
    · rename_i he
      subst he
      exact q_stC_ok hA2 hR (hC _ _ (List.mem_of_getElem? hi)) hd h hk
    · cases h
  · cases h
theorem q_step_ok {ins : Instr} {ht : qHint} {ss : List (Nat × qSt)} (hS : q_Sem C G cc kx sx E) (hd : decode cc pc = .ok (ins, q_len ins)) (h : q_step (q_KT G) (q_U G) (q_M G) (q_nL G) kx sx E ins pc st ht = some ss) (hk : ∀ x ∈ ss, q_ok C G x.1 x.2) : q_ok C G pc st := by
  obtain ⟨⟨hm, hcode, hA2, hR, hA⟩, ⟨hfg, hfp, hap, hcn, hag⟩, ⟨hn1, hn2, hat⟩, -, -, -⟩ := id hS
  unfold q_step at h
  split at h
  · exact q_stG_ok hfg hd h hk
  · exact q_stP_ok hfp hap hd h hk
  · rcases q_or_cases h with h | h
    · exact q_stN_ok hm hA hd h hk
    · exact q_stR_ok hS hd h hk
  · rcases q_or_cases h with h | h
    · exact q_stLc_ok hm hA hd h hk
    rcases q_or_cases h with h | h
    · exact q_stL_ok hm hA hd h hk
    · exact q_stR_ok hS hd h hk
  · exact q_stW_ok hA2 hR hcn hd h hk
  · exact q_stV_ok hA2 hR (fun t ht => hn1 _ t ht) hd h hag hk
  · exact q_stV_ok hA2 hR (fun t ht => hn2 _ t ht) hd h hag hk
  · exact q_inv__ok hS hd h hk
  · split at h
    · exact q_stO_ok hS hd h hk
    · exact q_inv__ok hS hd h hk
  · split at h
    · exact q_stY_ok hS hd h hk
    · exact q_inv__ok hS hd h hk
  · rcases q_or_cases h with h | h
    · exact q_stX_ok hm hd h hk
    rcases q_or_cases h with h | h
    · exact q_st1_ok hm hd h hk
    rcases q_or_cases h with h | h
    · exact q_st2_ok hm hd h hk
    rcases q_or_cases h with h | h
    · exact q_st3_ok hm hd h hk
    rcases q_or_cases h with h | h
    · exact q_st4_ok hm hd h hk
    rcases q_or_cases h with h | h
    · exact q_st5_ok hm hd h hk
    rcases q_or_cases h with h | h
    · exact q_stLc_ok hm hA hd h hk
    rcases q_or_cases h with h | h
    · exact q_stL_ok hm hA hd h hk
    rcases q_or_cases h with h | h
    · exact q_stS_ok hm hA hat hd h hk
    exact q_stK_ok hS hd h hk
end QP14
/-- what a run needs of the end -/
def q_do_ok_rt (C : qCx) (G : qGx) (rt : Nat → qSt → qHint → Bool) : Prop := ∀ pc st ht, rt pc st ht = true → q_ok C G pc st
theorem q_do_ok {C : qCx} {G : qGx} {cc : ByteArray} {kx sx npre n0 : Nat} {rp r0 : Nat → Int} {E : qEn} {mu0 : qLin} {tms : List qTm} {rt : Nat → qSt → qHint → Bool} (hS : q_Sem C (q_re G n0 r0) cc kx sx E) (hrt : q_do_ok_rt C (q_re G n0 r0) rt)
    (IH : ∀ tm ∈ tms, ∀ r1 : Nat → Int, (∀ i, i < npre → r1 i = rp i) → q_ev r1 tm.2.2 < q_ev r0 mu0 → q_okB C G tm r1) (hag : ∀ i, i < npre → r0 i = rp i) (hnp : npre ≤ n0) (h00 : 0 < npre) (hw : q_wf n0 mu0 = true) :
    ∀ h pc st ss, q_do (q_KT G) (q_U G) (q_M G) (q_nL G) kx sx E npre mu0 tms rt h pc st = some ss → (∀ x ∈ ss, q_ok C (q_re G n0 r0) x.1 x.2) → q_ok C (q_re G n0 r0) pc st := by
  intro h pc st ss hd hk
  unfold q_do at hd
  split at hd
  · split at hd
    · rename_i ins len hl
      have hdc := hS.1.2.1 _ _ _ (q_lkc_ok hl)
      split at hd
      · rename_i he
        subst he
        exact q_step_ok hS hdc hd hk
      · exact q_stT_ok hS.1.1 hdc hd hk
    · cases hd
  · split at hd
    · rename_i tm htm
      split at hd
      · rename_i ha
        exact q_arr_ok (IH tm (List.mem_of_getElem? htm)) hag hnp h00 hw ha
      · cases hd
    · cases hd
  · split at hd
    · rename_i ha
      exact q_dead_ok ha
    · cases hd
  · exact q_upg_ok (G := q_re G n0 r0) hd hk
  · exact q_spl_ok hd hk
  · exact q_rpe_ok hd hk
  · split at hd
    · rename_i ha
      exact hrt _ _ _ ha
    · cases hd
