/-! THE LAW from its entry -/
theorem n_prim {s : State} {args : Array Value} {ty : FieldType} (h : (Cond.arrayClass ty).before args s = true) (hra : ∀ cA, s.vm.findClass ("[" ++ ty.toString) = some cA → va_RA s cA ty) : ∃ cA, ArrOfT s cA ty ∧ va_RA s cA ty := by
  obtain ⟨cA, kA, comp, h1, h2, h3⟩ := Cond.arrayClass_spec h
  exact ⟨cA, fun N z => ⟨(fun k h => by cases h), kA, h2, comp, h3⟩, hra cA h1⟩
theorem n_refa {s : State} {args : Array Value} {Cn : String} (h : (Cond.arrayOver (.object Cn)).before args s = true) : ∃ cA, ArrOfT s cA (.object Cn) ∧ va_RA s cA (.object Cn) := by
  obtain ⟨comp, cA, kA, h1, -, h2, h3, h4⟩ := Cond.arrayOver_spec h
  exact ⟨cA, fun N z => ⟨(fun k h => by cases h), kA, h2, comp, h3⟩, kA, comp, h2, h3, h1, h4⟩
theorem n_nwof {w : Cond} (hw : q_nwk w = true) {A : Array Value} {s : State} (h : w.before A s = true) : va_Nw w s := by
  unfold q_nwk at hw
  split at hw
  · exact va_Nw.of rfl h
  · exact va_Nw.of rfl h
  · exact va_AO.of h
  · cases hw
theorem n_NWin : ∀ w ∈ n_NW, w ∈ lw_tbl := by decide +kernel
def j_S0 : jS := (fun _ => 0, fun _ _ => 0)
theorem lw_Rz {p : Program} {l : Launch} {e : Env} {s : State} {m : MethodId} {below : List Frame} {meth : Method} {c : Code} {b : Nat} {D : va_G} {tys : List (ClassId × FieldType)} (hx : p.tables.exec = Jvm.exec) (hb : c.code = code) (hr : meth.sig.returnType = ret) (hlocks : meth.locks = false) :
    j_Rz n_KT 4 (p, l, e, room_1, s, m, #[Value.ref b], below, meth, c, lw_Z below #[Value.ref b] s) (D, tys, s.heap, (fun _ => 0), j_S0) b_L 600000 7302250 (fun r _ _ => r = 1) := by
  intro pc lo r S V nc ns hd hz hq hc hs ad ls vs H locs h1 h2 h3 h4
  have hq : r = 1 := hq
  subst hq
  obtain ⟨v, ws, rfl, ⟨y, rfl, ey⟩, h3'⟩ := h3.cons
  have e0 := h3'.nil
  subst e0
  have ey : y.toInt = 1 := ey
  have hy1 : y = 1 := Int32.toInt_inj.mp (by rw [ey]; rfl)
  subst hy1
  refine W.widen (k := 600000) (n := 7302250) hc hs ?_
  refine va_forget (fun q hq => ?_) ?_
  · rcases h4.1.2.2 q hq with ⟨b', hb', _⟩ | hq'
    · exact absurd rfl hb'
    · exact hq'
  · exact lw_ret hx hb hr hlocks hd
theorem lw_first {C : qCx} {G : jG} {b L : Nat} {xs : Nat → Int32} (h : xL C G) (hX : j_X C G b L xs) (hrm : C.2.2.2.1.frames = 10 ∧ C.2.2.2.1.locals = 396) (hcs : C.2.2.2.1.cells = 600000 ∧ C.2.2.2.1.slots = 7302250) (R : j_Rz n_KT 4 C G b_L 600000 7302250 (fun r _ _ => r = 1)) : j_ok n_KT 4 C G 0 [(0, (9, (b : Int)))] [] j_S0 (fun _ _ => 0) 0 0 := by
  have hL := hX.2.2.2
  have z0 : ∀ x : Int, j_S0.1 x = 0 := fun _ => rfl
  refine tL_0 (a1 := 0) h hX hrm (by omega) rfl (by rw [hcs.1]; omega) (by rw [hcs.2]; omega) (m1_1 C.2.1) ⟨by omega, fun x hx => j_Lat_tr (Or.inl ?_), fun c c0 c1 => ?_⟩ (by rw [hcs.1]; omega) (by rw [hcs.2]; omega) ?_
  · rw [j_ns1e _ _ _ hx, z0]; decide
  · rw [j_ns1e _ _ _ (by omega), z0]
  rintro S1 V1 ⟨hc1, k1, v6, v7, v12, vr, vb1, vb2, fr1⟩
  have f1 : ∀ c : Int, 500 < c → S1.1 c = 0 := fun c hc => by rw [(fr1 c (by omega)).1, j_ns1e _ _ _ (by omega), z0]
  refine tL_7 (a1 := 1000) h hX hrm (by omega) (f1 _ (by omega)) (by rw [hcs.1]; omega) (by rw [hcs.2]; omega) (m13_1 C.2.1) ⟨by omega, fun x hx => ?_, fun c c0 c1 => ?_, fun j => ?_⟩ (by rw [hcs.1]; omega) (by rw [hcs.2]; omega) ?_
  · refine j_Lat_mono (S := S1) (fun y hy => ?_) (j_ns1e _ _ _ hx) (j_ns2e _ _ _ hx) (j_L_at hc1.1 x)
    have : y ≠ 1000 := fun z => hy (by rw [z]; exact f1 _ (by omega))
    exact j_ns1e _ _ _ this
  · rw [j_ns1e _ _ _ (by omega)]; exact f1 c (by omega)
  · simp [j_nv]
  rintro S2 V2 ⟨k33, L2, fr2, z2⟩
  have f2 : ∀ c : Int, c < 1000 → S2.1 c = S1.1 c ∧ S2.2 c = S1.2 c ∧ V2 c = V1 c := fun c hc => by
    obtain ⟨q1, q2, q3⟩ := fr2 c (by omega)
    exact ⟨q1.trans (j_ns1e _ _ _ (by omega)), q2.trans (j_ns2e _ _ _ (by omega)), q3.trans (j_nve _ _ (by omega))⟩
  have f0 := f2 0 (by omega)
  have hc2 : j_cI S2 V2 0 := by
    obtain ⟨-, ht, a0, hw, hk, hd, h6, h7⟩ := hc1
    refine ⟨L2, by rw [f0.1]; exact ht, a0, j_wI_congr2 (fun c c0 c1 => f2 c (by omega)) hw, ?_, j_dI_congr2 (fun c c0 c1 => f2 c (by omega)) hd, by rw [f0.2.2]; exact h6, by rw [f0.2.2]; exact h7⟩
    rcases hk with ⟨g1, g2⟩ | ⟨g1, g2⟩
    · exact Or.inl ⟨by rw [f0.2.1]; exact g1, fun c c0 c1 => by rw [(f2 c (by omega)).1]; exact g2 c c0 c1⟩
    · rw [k1] at g1
      exact absurd g1 (by decide)
  refine tL_15 h hX (lw_loop h hX hrm hcs R 2560 0 S2 V2 _ _ (by omega) (by omega) ⟨hc2, j_mI_0 L2 k33 (by omega) z2, ?_, ?_, by omega, by omega, by omega, fun _ => ⟨by omega, by omega⟩, ⟨⟨?_, ?_⟩, ⟨?_, fun t t0 t1 => ?_⟩, fun y => ?_⟩, ?_⟩)
  · rw [f0.2.2, v7]; decide
  · rw [z2 1000 3 (by omega) (by omega)]; decide
  · rw [f0.2.1, k1, z2 1000 2 (by omega) (by omega)]; exact ⟨fun _ => rfl, fun _ => rfl⟩
  · rw [f0.2.2, v6, z2 1000 4 (by omega) (by omega)]
  · have v12 : V1 1 2 = 0 := v12
    rw [(f2 1 (by omega)).2.2, v12, z2 1001 2 (by omega) (by omega)]
  · rw [z2 1001 2 (by omega) (by omega)] at t1; omega
  · exact absurd (z2 1000 2 (by omega) (by omega)) y
  · refine j_Q_0 (by rw [f0.2.2, v6]) (fun p p0 p1 => ?_) ⟨?_, ?_⟩ (fun c j c0 c1 => z2 c j (by omega) (by omega))
    · have vr : ∀ p : Int, 0 ≤ p → p < 6 → V1 (0 + 3 + 2 * p) 1 = 0 := vr
      rw [(f2 (3 + 2 * p) (by omega)).2.2, ← vr p p0 p1, show (0 : Int) + 3 + 2 * p = 3 + 2 * p by omega]
    · have vb1 : V1 16 1 = 0 := vb1
      rw [(f2 16 (by omega)).2.2, vb1]
    · have vb2 : V1 16 2 = 0 := vb2
      rw [(f2 16 (by omega)).2.2, vb2]
set_option maxHeartbeats 8000000 in
set_option maxRecDepth 100000 in
/-- THE LAW, from its entry -/
theorem whole_start {p : Program} {e : Env} {s : State} {m : MethodId} {below : List Frame} {meth : Method} {c : Code} (l : Launch) {b L : Nat} {xs : Nat → Int32} (hL : L ≤ 2560) (C0 : lw_At p s m meth c b L xs) : W p l e room_1 s m #[Value.ref b] below meth c s.heap [] 0 0 (lw_Z below #[Value.ref b] s) (entryFrame m ([Value.ref b] : List Value).toArray 4) := by
  obtain ⟨hx, hb, hr, hml, hown, hts, hX, hbl, hlocks, hgv⟩ := id C0
  have hg : ∀ w ∈ n_GW, w.before #[Value.ref b] s = true := fun w hw => hts w (List.mem_filter.mp hw).1
  obtain ⟨c0, iS0, hKn0⟩ := u_known (C := RX0) (T := TX0) (N := 6) (n := 6) hg n_u0 (hts _ (List.mem_of_getElem? (i := 204) (by decide +kernel)))
  obtain ⟨c1, iS1, hKn1⟩ := u_known (C := RX1) (T := TX1) (N := 5) (n := 5) hg n_u1 (hts _ (List.mem_of_getElem? (i := 87) (by decide +kernel)))
  obtain ⟨c2, iS2, hKn2⟩ := u_known (C := RX2) (T := TX2) (N := 1) (n := 1) hg n_u2 (hts _ (List.mem_of_getElem? (i := 217) (by decide +kernel)))
  obtain ⟨c3, iS3, hKn3⟩ := u_known (C := RX3) (T := TX3) (N := 4) (n := 4) hg n_u3 (hts _ (List.mem_of_getElem? (i := 293) (by decide +kernel)))
  obtain ⟨c4, iS4, hKn4⟩ := u_known (C := RX4) (T := TX4) (N := 2) (n := 2) hg n_u4 (hts _ (List.mem_of_getElem? (i := 249) (by decide +kernel)))
  obtain ⟨c5, iS5, hKn5⟩ := u_known (C := RX5) (T := TX5) (N := 2) (n := 2) hg n_u5 (hts _ (List.mem_of_getElem? (i := 312) (by decide +kernel)))
  obtain ⟨c6, iS6, hKn6⟩ := u_known (C := RX6) (T := TX6) (N := 2) (n := 2) hg n_u6 (hts _ (List.mem_of_getElem? (i := 158) (by decide +kernel)))
  obtain ⟨c7, iS7, hKn7⟩ := u_known (C := RX7) (T := TX7) (N := 6) (n := 6) hg n_u7 (hts _ (List.mem_of_getElem? (i := 93) (by decide +kernel)))
  obtain ⟨c8, iS8, hKn8⟩ := u_known (C := RX8) (T := TX8) (N := 3) (n := 3) hg n_u8 (hts _ (List.mem_of_getElem? (i := 210) (by decide +kernel)))
  obtain ⟨c9, iS9, hKn9⟩ := u_known (C := RX9) (T := TX9) (N := 6) (n := 6) hg n_u9 (hts _ (List.mem_of_getElem? (i := 77) (by decide +kernel)))
  obtain ⟨c10, iS10, hKn10⟩ := u_known (C := RX10) (T := TX10) (N := 8) (n := 8) hg n_u10 (hts _ (List.mem_of_getElem? (i := 69) (by decide +kernel)))
  obtain ⟨c11, iS11, hKn11⟩ := u_known (C := RX11) (T := TX11) (N := 14) (n := 14) hg n_u11 (hts _ (List.mem_of_getElem? (i := 806) (by decide +kernel)))
  obtain ⟨c12, iS12, hKn12⟩ := u_known (C := RX12) (T := TX12) (N := 31) (n := 31) hg n_u12 (hts _ (List.mem_of_getElem? (i := 800) (by decide +kernel)))
  obtain ⟨dC, dI, hKc⟩ : ∃ (dC : Nat → ClassId) (dI : Nat → Nat → Nat), ∀ (k : Nat) (q : vw_C), vwCl[k]? = some q → u_Kn s q.1 q.2.1 q.2.2 (dC k) (dI k) := by
    refine ⟨fun k => [c0, c1, c2, c3, c4, c5, c6, c7, c8, c9, c10, c11, c12].getD k 0, fun k => ([iS0, iS1, iS2, iS3, iS4, iS5, iS6, iS7, iS8, iS9, iS10, iS11, iS12] : List (Nat → Nat)).getD k (fun _ => 0), ?_⟩
    intro k q hq
    match k, hq with
    | 0, hq => cases hq; exact hKn0
    | 1, hq => cases hq; exact hKn1
    | 2, hq => cases hq; exact hKn2
    | 3, hq => cases hq; exact hKn3
    | 4, hq => cases hq; exact hKn4
    | 5, hq => cases hq; exact hKn5
    | 6, hq => cases hq; exact hKn6
    | 7, hq => cases hq; exact hKn7
    | 8, hq => cases hq; exact hKn8
    | 9, hq => cases hq; exact hKn9
    | 10, hq => cases hq; exact hKn10
    | 11, hq => cases hq; exact hKn11
    | 12, hq => cases hq; exact hKn12
    | k + 13, hq => simp [vwCl] at hq
  obtain ⟨a0, hA0, hR0⟩ := n_prim (ty := .int) (hg _ n_w81) (fun _ h => h)
  obtain ⟨a1, hA1, hR1⟩ := n_prim (ty := .long) (hg _ n_w912) (fun _ h => h)
  obtain ⟨a2, hA2, hR2⟩ := n_prim (ty := .boolean) (hg _ n_w817) (fun _ h => h)
  obtain ⟨a3, hA3, hR3⟩ := n_refa (Cn := "BalanceCoder$Row") (hts _ (List.mem_of_getElem? (i := 83) (by decide +kernel)))
  obtain ⟨a4, hA4, hR4⟩ := n_refa (Cn := "BalanceCoder$Deal") (hts _ (List.mem_of_getElem? (i := 216) (by decide +kernel)))
  obtain ⟨a5, hA5, hR5⟩ := n_refa (Cn := "BalanceCoder$Table") (hts _ (List.mem_of_getElem? (i := 85) (by decide +kernel)))
  obtain ⟨tys, htys⟩ : ∃ tys : List (ClassId × FieldType), tys = [(a0, .int), (a1, .long), (a2, .boolean), (a3, .object "BalanceCoder$Row"), (a4, .object "BalanceCoder$Deal"), (a5, .object "BalanceCoder$Table")] := ⟨_, rfl⟩
  have hK : va_K (dC, dI) vwCl tys s := by
    refine ⟨hKc, fun k q hq => ?_⟩
    rw [htys] at hq
    match k, hq with
    | 0, hq => cases hq; exact ⟨hA0, hR0⟩
    | 1, hq => cases hq; exact ⟨hA1, hR1⟩
    | 2, hq => cases hq; exact ⟨hA2, hR2⟩
    | 3, hq => cases hq; exact ⟨hA3, hR3⟩
    | 4, hq => cases hq; exact ⟨hA4, hR4⟩
    | 5, hq => cases hq; exact ⟨hA5, hR5⟩
    | k + 6, hq => simp at hq
  have htl : tys.map Prod.snd = n_TL := by rw [htys]; rfl
  have hE : q_env (dC, dI) vwCl tys n_NW s := ⟨hK, fun w hw => n_nwof (List.all_eq_true.mp n_NWk w hw) (hts w (n_NWin w hw))⟩
  obtain ⟨C, hC⟩ : ∃ C : qCx, C = (p, l, e, room_1, s, m, #[Value.ref b], below, meth, c, lw_Z below #[Value.ref b] s) := ⟨_, rfl⟩
  obtain ⟨G, hG⟩ : ∃ G : jG, G = ((dC, dI), tys, s.heap, (fun _ => 0), j_S0) := ⟨_, rfl⟩
  have h : xL C G := by rw [hC, hG]; exact ⟨htl, ⟨hx, hb⟩, hml, hown, hg, hE⟩
  have hrm : C.2.2.2.1.frames = 10 ∧ C.2.2.2.1.locals = 396 := by rw [hC]; exact ⟨rfl, rfl⟩
  have hcs : C.2.2.2.1.cells = 600000 ∧ C.2.2.2.1.slots = 7302250 := by rw [hC]; exact ⟨rfl, rfl⟩
  have hXX : j_X C G b L xs := by
    rw [hC, hG]
    refine ⟨hX, hbl, fun z => ?_, hL⟩
    rcases z with ⟨b', hb', _⟩ | z
    · exact absurd rfl hb'
    · have z : s.heap.size ≤ b := z
      omega
  have R : j_Rz n_KT 4 C G b_L 600000 7302250 (fun r _ _ => r = 1) := by rw [hC, hG]; exact lw_Rz hx hb hr hlocks
  have ok0 := lw_first h hXX hrm hcs R
  have hl := lv_entry ([.ref b]) (n := 4) (Nat.le_of_ble_eq_true rfl)
  rw [lg_entry_eq]
  generalize (lg_sl ([.ref b]) ++ List.replicate (4 - (lg_sl ([.ref b])).length) Slot.unset).toArray = ls at hl ⊢
  have hlo : j_lo 4 (fun _ => 0) j_S0 [(0, (9, (b : Int)))] ls := ⟨_, hl, ⟨rfl, rfl⟩, trivial⟩
  have hfr : j_fr G (fun _ => 0) j_S0 s.heap [] := by
    rw [hG]
    exact ⟨va_S.rf, fun a ha => absurd rfl ha, fun a ha => absurd rfl ha⟩
  have hW := ok0 (fun _ => 0) ls [] s.heap [] ⟨fun a ha => absurd rfl ha, fun a b' ha => absurd rfl ha⟩ hlo trivial hfr
  rw [hC] at hW
  exact hW
