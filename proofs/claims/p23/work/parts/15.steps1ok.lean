/-! STEPS 1 are right -/
def q_len (ins : Instr) : Nat := match ins with
  | .bipush _ => 2
  | .sipush _ => 3
  | .iload _ => 2
  | .lload _ => 2
  | .aload _ => 2
  | .istore _ => 2
  | .astore _ => 2
  | .lstore _ => 2
  | .iinc _ _ => 3
  | .goto _ => 3
  | .ifCond _ _ => 3
  | .if_icmp _ _ => 3
  | .ifnull _ => 3
  | .ifnonnull _ => 3
  | .getfield _ => 3
  | .putfield _ => 3
  | .new _ => 3
  | .newarray _ => 2
  | .anewarray _ => 3
  | .ldc _ => 2
  | .ldc_w _ => 3
  | .ldc2_w _ => 3
  | .invokevirtual _ => 3
  | .invokespecial _ => 3
  | .invokestatic _ => 3
  | _ => 1
section QP1
variable {C : qCx} {G : qGx} {cc : ByteArray} {pc : Nat} {st : qSt}
theorem q_h1 {a : Nat} {s' : qSt} (h : ∀ x ∈ [(a, s')], q_ok C G x.1 x.2) : q_ok C G a s' := h (a, s') List.mem_cons_self
theorem q_ld_ok {pc' i : Nat} {srt : qAV → Bool} {ss : List (Nat × qSt)} (h : q_ld pc' i srt st = some ss) (hk : ∀ x ∈ ss, q_ok C G x.1 x.2)
    (row : ∀ {x : qAV}, srt x = true → ∀ {r : Nat → Int} {T : qTy} {H : Heap} {locs : List Loc} {cells slots : Nat} {ls : Array Slot} {sk : List Value} {v : Value}, q_av r T x v → ls[i]? = some (.val v) → q_W C H locs cells slots pc' ls (v :: sk) → q_W C H locs cells slots pc ls sk) : q_ok C G pc st := by
  unfold q_ld at h
  split at h
  · rename_i x hx
    split at h
    · rename_i hs
      cases h
      exact q_s_load hx (q_h1 hk) (row hs)
    · cases h
  · cases h
theorem q_sto_ok {pc' i : Nat} {srt : qAV → Bool} {ss : List (Nat × qSt)} (h : q_sto pc' i (q_nL G) srt st = some ss) (hk : ∀ x ∈ ss, q_ok C G x.1 x.2)
    (row : ∀ {x : qAV}, srt x = true → i < q_nL G → ∀ {r : Nat → Int} {T : qTy} {H : Heap} {locs : List Loc} {cells slots : Nat} {ls : Array Slot} {sk : List Value} {v : Value} {lv : List (Nat × Value)}, q_av r T x v → lv_has ls (q_nL G) lv → (∀ ls' : Array Slot, lv_has ls' (q_nL G) ((i, v) :: lv.filter (fun q => !(q.1 == i) && !(q.1 + 1 == i && q.2.category == 2))) → q_W C H locs cells slots pc' ls' sk) → q_W C H locs cells slots pc ls (v :: sk)) : q_ok C G pc st := by
  unfold q_sto at h
  split at h
  · rename_i x xs hx
    split at h
    · rename_i hs
      cases h
      exact q_s_store1 hx (q_h1 hk) (row hs.1 hs.2)
    · cases h
  · cases h
theorem q_stoL_ok {pc' i : Nat} {ss : List (Nat × qSt)} (h : q_stoL pc' i (q_nL G) st = some ss) (hk : ∀ x ∈ ss, q_ok C G x.1 x.2)
    (row : i + 1 < q_nL G → ∀ {H : Heap} {locs : List Loc} {cells slots : Nat} {ls : Array Slot} {sk : List Value} {v : Int64} {lv : List (Nat × Value)}, lv_has ls (q_nL G) lv → (∀ ls' : Array Slot, lv_has ls' (q_nL G) ((i, .long v) :: lv.filter (fun q => !(q.1 == i) && (!(q.1 == i + 1) && !(q.1 + 1 == i && q.2.category == 2)))) → q_W C H locs cells slots pc' ls' sk) → q_W C H locs cells slots pc ls (.long v :: sk)) : q_ok C G pc st := by
  unfold q_stoL at h
  split at h
  · rename_i x xs hx
    split at h
    · rename_i hs
      cases h
      refine q_s_store2 hx (q_h1 hk) (fun hv hl k => ?_)
      obtain ⟨y, rfl⟩ := hv.L hs.1
      exact row hs.2 hl k
    · cases h
  · cases h
theorem q_ll_ok {pc' : Nat} {srt : qAV → Bool} {ss : List (Nat × qSt)} (h : q_ll pc' srt st = some ss) (hk : ∀ x ∈ ss, q_ok C G x.1 x.2)
    (row : ∀ {x : qAV}, srt x = true → ∀ {r : Nat → Int} {T : qTy} {H : Heap} {locs : List Loc} {cells slots : Nat} {ls : Array Slot} {sk : List Value} {v : Value} {w : Int64}, q_av r T x v → (∀ u : Int64, q_W C H locs cells slots pc' ls (.long u :: sk)) → q_W C H locs cells slots pc ls (v :: .long w :: sk)) : q_ok C G pc st := by
  unfold q_ll at h
  split at h
  · rename_i x y xs hx
    split at h
    · rename_i hs
      cases h
      refine q_s_two hx (q_h1 hk) (fun hv hw k => ?_)
      obtain ⟨y, rfl⟩ := hw.L hs.2
      exact row hs.1 hv (fun u => k _ ⟨u, rfl⟩)
    · cases h
  · cases h
theorem q_isI0 {x : qAV} (h : q_isI x = true) : x.1 = 0 := by simpa [q_isI] using h
set_option maxHeartbeats 4000000 in
theorem q_st1_ok {kI kL : List (Nat × Int)} {ins : Instr} {ss : List (Nat × qSt)} (hm : q_mc C cc) (hd : decode cc pc = .ok (ins, q_len ins)) (h : q_st1 (q_nL G) kI kL ins pc st = some ss) (hk : ∀ x ∈ ss, q_ok C G x.1 x.2) : q_ok C G pc st := by
  obtain ⟨hx, hb⟩ := hm
  unfold q_st1 at h
  split at h
  · split at h
    · rename_i n hc; cases h; exact q_s_int (q_h1 hk) (q_k32 hc) (fun k => lv_iconst hx hb hd rfl k)
    · cases h
  · split at h
    · rename_i n hc; cases h; exact q_s_int (q_h1 hk) (q_k8 hc) (fun k => lv_bipush hx hb hd rfl k)
    · cases h
  · split at h
    · rename_i n hc; cases h; exact q_s_int (q_h1 hk) (q_k16 hc) (fun k => lv_sipush hx hb hd rfl k)
    · cases h
  · exact q_ld_ok h hk (fun hs => fun hv hl k => by obtain ⟨y, rfl, -⟩ := hv.I (q_isI0 hs); exact lv_iload_n hx hb hd rfl hl k)
  · exact q_ld_ok h hk (fun hs => fun hv hl k => by obtain ⟨y, rfl, -⟩ := hv.I (q_isI0 hs); exact lv_iload hx hb hd hl k)
  · exact q_ld_ok h hk (fun hs => fun hv hl k => by obtain ⟨y, rfl⟩ := hv.L hs; exact lv_lload_n hx hb hd rfl hl k)
  · exact q_ld_ok h hk (fun hs => fun hv hl k => by obtain ⟨y, rfl⟩ := hv.L hs; exact lv_lload hx hb hd hl k)
  · exact q_ld_ok h hk (fun hs => fun hv hl k => by
      rcases hv.A hs with rfl | ⟨y, rfl⟩
      · exact lv_aload_nN hx hb hd rfl hl k
      · exact lv_aload_n hx hb hd rfl hl k)
  · exact q_ld_ok h hk (fun hs => fun hv hl k => by
      rcases hv.A hs with rfl | ⟨y, rfl⟩
      · exact lv_aloadN hx hb hd hl k
      · exact lv_aload hx hb hd hl k)
  · exact q_sto_ok h hk (fun hs hi => fun hv hl k => by obtain ⟨y, rfl, -⟩ := hv.I (q_isI0 hs); exact lv_istore_n hx hb hd rfl hl hi rfl k)
  · exact q_sto_ok h hk (fun hs hi => fun hv hl k => by obtain ⟨y, rfl, -⟩ := hv.I (q_isI0 hs); exact lv_istore hx hb hd hl hi rfl k)
  · exact q_sto_ok h hk (fun hs hi => fun hv hl k => by
      rcases hv.A hs with rfl | ⟨y, rfl⟩
      · exact lv_astore_nN hx hb hd rfl hl hi rfl k
      · exact lv_astore_n hx hb hd rfl hl hi rfl k)
  · exact q_sto_ok h hk (fun hs hi => fun hv hl k => by
      rcases hv.A hs with rfl | ⟨y, rfl⟩
      · exact lv_astoreN hx hb hd hl hi rfl k
      · exact lv_astore hx hb hd hl hi rfl k)
  · exact q_stoL_ok h hk (fun hi => fun hl k => lv_lstore_n hx hb hd rfl hl hi rfl k)
  · exact q_stoL_ok h hk (fun hi => fun hl k => lv_lstore hx hb hd hl hi rfl k)
  · cases h; exact q_s_push (q_h1 hk) (fun r T ls sk H locs cells slots ha k => lv_null hx hb hd (k .null rfl))
  · rename_i n
    cases h
    refine q_s_long (q_h1 hk) (y := Int64.ofNat (n : Nat)) ?_ (fun k => lv_lconst hx hb hd rfl k)
    obtain ⟨n, hn⟩ := n
    match n, hn with
    | 0, _ => rfl
    | 1, _ => rfl
  · exact q_ll_ok h hk (fun hs => fun hv k => by obtain ⟨y, rfl⟩ := hv.L hs; exact lv_ladd hx hb hd (k _))
  · exact q_ll_ok h hk (fun hs => fun hv k => by obtain ⟨y, rfl⟩ := hv.L hs; exact lv_lsub hx hb hd (k _))
  · exact q_ll_ok h hk (fun hs => fun hv k => by obtain ⟨y, rfl⟩ := hv.L hs; exact lv_lmul hx hb hd (k _))
  · exact q_ll_ok h hk (fun hs => fun hv k => by obtain ⟨y, rfl⟩ := hv.L hs; exact lv_land hx hb hd (k _))
  · exact q_ll_ok h hk (fun hs => fun hv k => by obtain ⟨y, rfl⟩ := hv.L hs; exact lv_lor hx hb hd (k _))
  · exact q_ll_ok h hk (fun hs => fun hv k => by obtain ⟨y, rfl⟩ := hv.L hs; exact lv_lxor hx hb hd (k _))
  · exact q_ll_ok h hk (fun hs => fun hv k => by obtain ⟨y, rfl, -⟩ := hv.I (q_isI0 hs); exact lv_lushr hx hb hd rfl (k _))
  · exact q_ll_ok h hk (fun hs => fun hv k => by obtain ⟨y, rfl, -⟩ := hv.I (q_isI0 hs); exact lv_lshl hx hb hd rfl (k _))
  · exact q_ll_ok h hk (fun hs => fun hv k => by obtain ⟨y, rfl, -⟩ := hv.I (q_isI0 hs); exact lv_lshr hx hb hd rfl (k _))
  · split at h
    · rename_i x xs hsk
      split at h
      · rename_i hs
        cases h
        refine q_s_one hsk (q_h1 hk) (fun hv k => ?_)
        obtain ⟨y, rfl, -⟩ := hv.I (q_isI0 hs)
        exact lv_i2l hx hb hd rfl (k _ ⟨_, rfl⟩)
      · cases h
    · cases h
  · split at h
    · rename_i x xs hsk
      split at h
      · rename_i hs
        unfold q_one at h
        split at h
        · rename_i st' hp
          cases h
          refine q_s_any1 hsk hp (q_h1 hk) (fun hv k => ?_)
          obtain ⟨y, rfl⟩ := hv.L hs
          exact lv_l2i hx hb hd rfl (k _)
        · cases h
      · cases h
    · cases h
  · split at h
    · rename_i x xs hsk
      split at h
      · rename_i hs
        cases h
        refine q_ok.pure (q_h1 hk) rfl (fun r T ls sk H locs cells slots ha hf k => ?_)
        have h4 : q_stk r T (q_sk st) sk := ha.2.2.2.1
        rw [hsk] at h4
        obtain ⟨v, vs, rfl, hv, hvs⟩ := h4.cons
        exact lv_dup hx hb hd (by rw [hv.cat]; exact hs) (k r ls _ (ha.setk ⟨hv, hv, hvs⟩) hf)
      · cases h
    · cases h
  · split at h
    · rename_i x xs hsk
      split at h
      · rename_i hs
        cases h
        refine q_ok.pure (q_h1 hk) rfl (fun r T ls sk H locs cells slots ha hf k => ?_)
        have h4 : q_stk r T (q_sk st) sk := ha.2.2.2.1
        rw [hsk] at h4
        obtain ⟨v, vs, rfl, hv, hvs⟩ := h4.cons
        exact lv_pop hx hb hd (by rw [hv.cat]; exact hs) (k r ls _ (ha.setk hvs) hf)
      · cases h
    · cases h
  · split at h
    · rename_i x y xs hsk
      split at h
      · rename_i hs
        cases h
        refine q_ok.pure (q_h1 hk) rfl (fun r T ls sk H locs cells slots ha hf k => ?_)
        have h4 : q_stk r T (q_sk st) sk := ha.2.2.2.1
        rw [hsk] at h4
        obtain ⟨v, vs, rfl, hv, hvs⟩ := h4.cons
        obtain ⟨w, ws, rfl, hw, hws⟩ := hvs.cons
        exact lv_dup2_11 hx hb hd (by rw [hv.cat]; exact hs.1) (by rw [hw.cat]; exact hs.2) (k r ls _ (ha.setk ⟨hv, hw, hv, hw, hws⟩) hf)
      · cases h
    · cases h
  · split at h
    · rename_i off hc
      cases h
      exact q_ok.pure (q_h1 hk) rfl (fun r T ls sk H locs cells slots ha hf k => lv_goto hx hb hd hc (k r ls sk ha hf))
    · cases h
  · cases h
end QP1
