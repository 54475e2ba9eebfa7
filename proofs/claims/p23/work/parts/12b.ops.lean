/-! OPERATIONS on two ints: the result's form, or what is known of it -/
abbrev qHint : Type := Nat × List qCert × List qLin × List Int
def q_vc (hy : List qLin) (g : qLin) (cs : List qCert) (i : Nat) : Bool := match cs[i]? with
  | some c => q_fk hy g c
  | none => false
theorem q_vc_ok {r : Nat → Int} (h0 : r 0 = 1) {hy : List qLin} (h : ∀ e ∈ hy, 0 ≤ q_ev r e) {g : qLin} {cs : List qCert} {i : Nat} (hc : q_vc hy g cs i = true) : 0 ≤ q_ev r g := by
  unfold q_vc at hc
  split at hc
  · exact q_fk_ok h0 h hc
  · cases hc
def q_kv (e : qLin) : Option Int := match e with
  | [] => some 0
  | [p] => if p.1 = 0 then some p.2 else none
  | _ => none
theorem q_kv_ok {r : Nat → Int} (h0 : r 0 = 1) {e : qLin} {c : Int} (h : q_kv e = some c) : q_ev r e = c := by
  unfold q_kv at h
  split at h
  · cases h; rfl
  · rename_i p
    split at h
    · rename_i hp
      cases h
      simp [q_ev, hp, h0]
    · cases h
  · cases h
def q_rng (n : Nat) (lo hi : Int) : List qLin := [q_sub (q_x n) (q_k lo), q_sub (q_k hi) (q_x n)]
theorem q_rng_ok {r : Nat → Int} (h0 : r 0 = 1) {n : Nat} {lo hi : Int} (h1 : lo ≤ r n) (h2 : r n ≤ hi) : ∀ e ∈ q_rng n lo hi, 0 ≤ q_ev r e := by
  intro e he
  simp only [q_rng, List.mem_cons, List.not_mem_nil, or_false] at he
  rcases he with rfl | rfl
  · rw [q_ev_sub, q_ev_x, q_ev_k h0]; omega
  · rw [q_ev_sub, q_ev_x, q_ev_k h0]; omega
theorem q_min (y : Int32) : (-2147483648 : Int) ≤ y.toInt := Int32.le_toInt y
theorem q_max (y : Int32) : y.toInt ≤ (2147483647 : Int) := Int32.toInt_le y
/-- within an int -/
def q_in (hy : List qLin) (e : qLin) (cs : List qCert) : Bool := q_vc hy (q_sub e (q_k (-2147483648))) cs 0 && q_vc hy (q_sub (q_k 2147483647) e) cs 1
theorem q_in_ok {r : Nat → Int} (h0 : r 0 = 1) {hy : List qLin} (h : ∀ e ∈ hy, 0 ≤ q_ev r e) {e : qLin} {cs : List qCert} (hc : q_in hy e cs = true) : -2147483648 ≤ q_ev r e ∧ q_ev r e ≤ 2147483647 := by
  unfold q_in at hc
  rw [Bool.and_eq_true] at hc
  have h1 := q_vc_ok h0 h hc.1
  have h2 := q_vc_ok h0 h hc.2
  rw [q_ev_sub, q_ev_k h0] at h1 h2
  omega
def q_fn (op : Nat) (x y : Int32) : Int32 := match op with
  | 0 => x + y
  | 1 => x - y
  | 2 => x * y
  | 3 => x &&& y
  | 4 => x ||| y
  | 5 => x ^^^ y
  | 6 => x <<< (y &&& 31)
  | 7 => x >>> (y &&& 31)
  | 8 => (x.toUInt32 >>> (y.toUInt32 &&& Int32.toUInt32 31)).toInt32
  | 9 => x / y
  | _ => x - x / y * y
abbrev qRes : Type := Bool × qLin × List qLin
/-- what an operation's result is: a form (true), or an unknown n of which so much is known (false) -/
abbrev q_RS (n : Nat) (r : Nat → Int) (z : Int32) (res : qRes) : Prop := (res.1 = true → z.toInt = q_ev r res.2.1) ∧ (res.1 = false → ∀ r' : Nat → Int, (∀ i, i < n → r' i = r i) → r' 0 = 1 → r' n = z.toInt → ∀ f ∈ res.2.2, 0 ≤ q_ev r' f)
theorem q_RS.ex {n : Nat} {r : Nat → Int} {z : Int32} {e : qLin} (h : z.toInt = q_ev r e) : q_RS n r z (true, e, []) := ⟨fun _ => h, fun h => by cases h⟩
theorem q_RS.rng {n : Nat} {r : Nat → Int} {z : Int32} {lo hi : Int} (h1 : lo ≤ z.toInt) (h2 : z.toInt ≤ hi) : q_RS n r z (false, [], q_rng n lo hi) :=
  ⟨fun h => (by cases h), fun _ r' _ h0 hn => q_rng_ok h0 (by rw [hn]; exact h1) (by rw [hn]; exact h2)⟩
theorem q_RS.fa {n : Nat} {r : Nat → Int} {z : Int32} {fs : List qLin} (h : ∀ r' : Nat → Int, (∀ i, i < n → r' i = r i) → r' 0 = 1 → r' n = z.toInt → ∀ f ∈ fs, 0 ≤ q_ev r' f) : q_RS n r z (false, [], fs) := ⟨fun h => (by cases h), fun _ => h⟩
def q_any (n : Nat) : Option qRes := some (false, [], q_rng n (-2147483648) 2147483647)
theorem q_any_ok {n : Nat} {r : Nat → Int} {z : Int32} {res : qRes} (h : q_any n = some res) : q_RS n r z res := by
  unfold q_any at h
  cases h
  exact q_RS.rng (q_min z) (q_max z)
def q_exa (hy : List qLin) (e : qLin) (cs : List qCert) : Option qRes := if q_in hy e cs = true then some (true, e, []) else none
def q_mul (hy : List qLin) (k : Option Int) (e : qLin) (cs : List qCert) : Option qRes := match k with
  | some c => q_exa hy (q_sc c e) cs
  | none => none
def q_msk (n : Nat) (k : Option Int) : Option qRes := match k with
  | some c => if 0 ≤ c then some (false, [], q_rng n 0 c) else none
  | none => none
def q_shl1 (n : Nat) (hy : List qLin) (e1 e2 : qLin) (cs : List qCert) (a b : Nat) : Option qRes :=
  if e1 = q_k 1 ∧ b ≤ 30 ∧ q_vc hy (q_sub e2 (q_k (a : Int))) cs 0 = true ∧ q_vc hy (q_sub (q_k (b : Int)) e2) cs 1 = true then some (false, [], q_rng n ((2 ^ a : Nat) : Int) ((2 ^ b : Nat) : Int)) else none
/-- c times the unknown is not above e, and e is below that and c more -/
def q_dvf (n : Nat) (c : Int) (e : qLin) : List qLin := [q_sub e (q_sc c (q_x n)), q_sub (q_add (q_sc c (q_x n)) (q_k (c - 1))) e]
def q_shr1 (n : Nat) (hy : List qLin) (e1 e2 : qLin) (cs : List qCert) (k : Nat) : Option qRes :=
  if e2 = q_k (k : Int) ∧ k < 32 ∧ q_wf n e1 = true ∧ q_vc hy e1 cs 0 = true then some (false, [], q_dvf n ((2 ^ k : Nat) : Int) e1) else none
def q_div1 (n : Nat) (hy : List qLin) (e1 e2 : qLin) (cs : List qCert) (c : Int) : Option qRes :=
  if e2 = q_k c ∧ 1 ≤ c ∧ q_wf n e1 = true ∧ q_vc hy e1 cs 0 = true then some (false, [], q_dvf n c e1) else none
def q_div2 (n : Nat) (hy : List qLin) (e1 e2 : qLin) (cs : List qCert) : Option qRes :=
  if q_wf n e1 = true ∧ q_vc hy e1 cs 0 = true ∧ q_vc hy (q_sub e2 (q_k 1)) cs 1 = true then some (false, [], [q_x n, q_sub e1 (q_x n)]) else none
def q_rem1 (n : Nat) (hy : List qLin) (e1 e2 : qLin) (cs : List qCert) : Option qRes :=
  if q_wf n e1 = true ∧ q_wf n e2 = true ∧ q_vc hy e1 cs 0 = true ∧ q_vc hy (q_sub e2 (q_k 1)) cs 1 = true then some (false, [], [q_x n, q_sub (q_sub e2 (q_k 1)) (q_x n), q_sub e1 (q_x n)]) else none
def q_rem2 (n : Nat) (hy : List qLin) (e2 : qLin) (cs : List qCert) : Option qRes :=
  if q_wf n e2 = true ∧ q_vc hy (q_sub e2 (q_k 1)) cs 0 = true then some (false, [], [q_add (q_x n) (q_sub e2 (q_k 1)), q_sub (q_sub e2 (q_k 1)) (q_x n)]) else none
def q_ar (op mode n : Nat) (hy : List qLin) (e1 e2 : qLin) (cs : List qCert) (is : List Int) : Option qRes := match op with
  | 0 => if mode = 1 then q_exa hy (q_add e1 e2) cs else q_any n
  | 1 => if mode = 1 then q_exa hy (q_sub e1 e2) cs else q_any n
  | 2 => if mode = 1 then q_mul hy (q_kv e1) e2 cs else if mode = 2 then q_mul hy (q_kv e2) e1 cs else q_any n
  | 3 => if mode = 1 then q_msk n (q_kv e2) else if mode = 2 then q_msk n (q_kv e1) else q_any n
  | 6 => if mode = 1 then q_shl1 n hy e1 e2 cs (is.getD 0 0).toNat (is.getD 1 0).toNat else q_any n
  | 7 => if mode = 1 then q_shr1 n hy e1 e2 cs (is.getD 0 0).toNat else q_any n
  | 9 => if mode = 1 then q_div1 n hy e1 e2 cs (is.getD 0 0) else if mode = 2 then q_div2 n hy e1 e2 cs else if q_vc hy (q_sub e2 (q_k 1)) cs 0 = true then q_any n else none
  | 10 => if mode = 1 then q_rem1 n hy e1 e2 cs else q_rem2 n hy e2 cs
  | 4 => q_any n
  | 5 => q_any n
  | 8 => q_any n
  | _ => none
theorem q_exa_ok {n : Nat} {r : Nat → Int} (h0 : r 0 = 1) {hy : List qLin} (hh : ∀ e ∈ hy, 0 ≤ q_ev r e) {e : qLin} {cs : List qCert} {res : qRes} (h : q_exa hy e cs = some res) {z : Int32} (hz : -2147483648 ≤ q_ev r e → q_ev r e ≤ 2147483647 → z.toInt = q_ev r e) : q_RS n r z res := by
  unfold q_exa at h
  split at h
  · rename_i hc
    cases h
    obtain ⟨h1, h2⟩ := q_in_ok h0 hh hc
    exact q_RS.ex (hz h1 h2)
  · cases h
theorem q_dvf_ok {n : Nat} {r r' : Nat → Int} (hr : ∀ i, i < n → r' i = r i) (h0 : r' 0 = 1) {e : qLin} (hw : q_wf n e = true) {c : Int} (hc : 1 ≤ c) (hn : r' n = q_ev r e / c) : ∀ f ∈ q_dvf n c e, 0 ≤ q_ev r' f := by
  intro f hf
  have he := q_ev_wf hr e hw
  have h1 : c * (q_ev r e / c) + q_ev r e % c = q_ev r e := Int.mul_ediv_add_emod _ _
  have h2 : 0 ≤ q_ev r e % c := Int.emod_nonneg _ (by omega)
  have h3 : q_ev r e % c < c := Int.emod_lt_of_pos _ (by omega)
  simp only [q_dvf, List.mem_cons, List.not_mem_nil, or_false] at hf
  rcases hf with rfl | rfl
  · rw [q_ev_sub, q_ev_sc, q_ev_x, he, hn]; omega
  · rw [q_ev_sub, q_ev_add, q_ev_sc, q_ev_x, q_ev_k h0, he, hn]; omega
theorem q_ar_ok {op mode n : Nat} {hy : List qLin} {e1 e2 : qLin} {cs : List qCert} {is : List Int} {res : qRes} (h : q_ar op mode n hy e1 e2 cs is = some res) {r : Nat → Int} (h0 : r 0 = 1) (hh : ∀ e ∈ hy, 0 ≤ q_ev r e) {x y : Int32} (hx : x.toInt = q_ev r e1) (hy2 : y.toInt = q_ev r e2) :
    (9 ≤ op → ¬ y = 0) ∧ q_RS n r (q_fn op x y) res := by
  have kk : ∀ {e : qLin} {c : Int}, e = q_k c → q_ev r e = c := fun he => by rw [he]; exact q_ev_k h0 _
  unfold q_ar at h
  split at h
  · refine ⟨fun q => absurd q (by decide), ?_⟩
    split at h
    · exact q_exa_ok h0 hh h (fun a b => by rw [q_ev_add] at *; rw [← hx, ← hy2] at *; exact q_iadd a b)
    · exact q_any_ok h
  · refine ⟨fun q => absurd q (by decide), ?_⟩
    split at h
    · exact q_exa_ok h0 hh h (fun a b => by rw [q_ev_sub] at *; rw [← hx, ← hy2] at *; exact q_isub a b)
    · exact q_any_ok h
  · refine ⟨fun q => absurd q (by decide), ?_⟩
    split at h
    · unfold q_mul at h
      split at h
      · rename_i c hc
        have hk := q_kv_ok h0 hc
        exact q_exa_ok h0 hh h (fun a b => by rw [q_ev_sc, ← hk, ← hx, ← hy2] at *; exact q_imul a b)
      · cases h
    · split at h
      · unfold q_mul at h
        split at h
        · rename_i c hc
          have hk := q_kv_ok h0 hc
          exact q_exa_ok h0 hh h (fun a b => by rw [q_ev_sc, ← hk, ← hx, ← hy2, Int.mul_comm] at *; exact q_imul a b)
        · cases h
      · exact q_any_ok h
  · refine ⟨fun q => absurd q (by decide), ?_⟩
    split at h
    · unfold q_msk at h
      split at h
      · rename_i c hc
        have hk := q_kv_ok h0 hc
        split at h
        · rename_i hp
          cases h
          obtain ⟨g1, g2⟩ := q_iand (x := x) (m := y) (by rw [hy2, hk]; exact hp)
          exact q_RS.rng g1 (by rw [hy2, hk] at g2; exact g2)
        · cases h
      · cases h
    · split at h
      · unfold q_msk at h
        split at h
        · rename_i c hc
          have hk := q_kv_ok h0 hc
          split at h
          · rename_i hp
            cases h
            obtain ⟨g1, g2⟩ := q_iandL (x := y) (m := x) (by rw [hx, hk]; exact hp)
            exact q_RS.rng g1 (by rw [hx, hk] at g2; exact g2)
          · cases h
        · cases h
      · exact q_any_ok h
  · refine ⟨fun q => absurd q (by decide), ?_⟩
    split at h
    · unfold q_shl1 at h
      split at h
      · rename_i hc
        obtain ⟨c1, c2, c3, c4⟩ := hc
        cases h
        have g1 := q_vc_ok h0 hh c3
        have g2 := q_vc_ok h0 hh c4
        rw [q_ev_sub, q_ev_k h0] at g1 g2
        have hx1 : x = 1 := Int32.toInt_inj.mp (by rw [hx, kk c1]; rfl)
        obtain ⟨m, hm, hym, hme⟩ := q_nn (x := y) (by omega)
        subst hx1
        have hz := q_ishl1 hym (by omega)
        exact q_RS.rng (by show _ ≤ ((1 : Int32) <<< (y &&& 31)).toInt; rw [hz]; exact q_pow2 (by omega)) (by show ((1 : Int32) <<< (y &&& 31)).toInt ≤ _; rw [hz]; exact q_pow2 (by omega))
      · cases h
    · exact q_any_ok h
  · refine ⟨fun q => absurd q (by decide), ?_⟩
    split at h
    · unfold q_shr1 at h
      split at h
      · rename_i hc
        obtain ⟨c1, c2, c3, c4⟩ := hc
        cases h
        have g1 := q_vc_ok h0 hh c4
        obtain ⟨m, hm, hxm, hme⟩ := q_nn (x := x) (by omega)
        have hyk : y = nI (is.getD 0 0).toNat := Int32.toInt_inj.mp (by rw [hy2, kk c1, nI_toInt (by omega)])
        have hz : (q_fn 7 x y).toInt = ((m / 2 ^ (is.getD 0 0).toNat : Nat) : Int) := by
          show (x >>> (y &&& 31)).toInt = _
          rw [hyk]
          exact q_ishr hxm hm c2
        refine q_RS.fa (fun r' hr h0' hn => q_dvf_ok hr h0' c3 ?_ ?_)
        · have : 0 < 2 ^ (is.getD 0 0).toNat := Nat.pow_pos (by decide)
          omega
        · rw [hn, hz, ← hx, hme]
          exact Int.natCast_ediv _ _
      · cases h
    · exact q_any_ok h
  · split at h
    · unfold q_div1 at h
      split at h
      · rename_i hc
        obtain ⟨c1, c2, c3, c4⟩ := hc
        cases h
        have g1 := q_vc_ok h0 hh c4
        have g2 := kk c1
        refine ⟨fun _ => q_ne0 (Or.inl (by omega)), q_RS.fa (fun r' hr h0' hn => q_dvf_ok hr h0' c3 c2 ?_)⟩
        rw [hn]
        show (x / y).toInt = _
        rw [q_idiv (by omega) (by omega), hx, hy2, g2]
      · cases h
    · split at h
      · unfold q_div2 at h
        split at h
        · rename_i hc
          obtain ⟨c1, c3, c4⟩ := hc
          cases h
          have g1 := q_vc_ok h0 hh c3
          have g2 := q_vc_ok h0 hh c4
          rw [q_ev_sub, q_ev_k h0] at g2
          refine ⟨fun _ => q_ne0 (Or.inl (by omega)), q_RS.fa (fun r' hr h0' hn f hf => ?_)⟩
          have he := q_ev_wf hr e1 c1
          have hz : (q_fn 9 x y).toInt = x.toInt / y.toInt := q_idiv (by omega) (by omega)
          have b1 : 0 ≤ x.toInt / y.toInt := Int.ediv_nonneg (by omega) (by omega)
          have b2 : x.toInt / y.toInt ≤ x.toInt := Int.ediv_le_self _ (by omega)
          simp only [List.mem_cons, List.not_mem_nil, or_false] at hf
          rcases hf with rfl | rfl
          · rw [q_ev_x, hn, hz]; exact b1
          · rw [q_ev_sub, q_ev_x, hn, hz, he, ← hx]; omega
        · cases h
      · split at h
        · rename_i hc
          have g2 := q_vc_ok h0 hh hc
          rw [q_ev_sub, q_ev_k h0] at g2
          exact ⟨fun _ => q_ne0 (Or.inl (by omega)), q_any_ok h⟩
        · cases h
  · split at h
    · unfold q_rem1 at h
      split at h
      · rename_i hc
        obtain ⟨c1, c2, c3, c4⟩ := hc
        cases h
        have g1 := q_vc_ok h0 hh c3
        have g2 := q_vc_ok h0 hh c4
        rw [q_ev_sub, q_ev_k h0] at g2
        refine ⟨fun _ => q_ne0 (Or.inl (by omega)), q_RS.fa (fun r' hr h0' hn f hf => ?_)⟩
        have he1 := q_ev_wf hr e1 c1
        have he2 := q_ev_wf hr e2 c2
        have hz : (q_fn 10 x y).toInt = x.toInt % y.toInt := q_irem (by omega) (by omega)
        have b1 : 0 ≤ x.toInt % y.toInt := Int.emod_nonneg _ (by omega)
        have b2 : x.toInt % y.toInt < y.toInt := Int.emod_lt_of_pos _ (by omega)
        have q1 : y.toInt * (x.toInt / y.toInt) + x.toInt % y.toInt = x.toInt := Int.mul_ediv_add_emod _ _
        have q2 : 0 ≤ y.toInt * (x.toInt / y.toInt) := Int.mul_nonneg (by omega) (Int.ediv_nonneg (by omega) (by omega))
        have b3 : x.toInt % y.toInt ≤ x.toInt := by omega
        simp only [List.mem_cons, List.not_mem_nil, or_false] at hf
        rcases hf with rfl | rfl | rfl
        · rw [q_ev_x, hn, hz]; exact b1
        · rw [q_ev_sub, q_ev_sub, q_ev_x, q_ev_k h0', hn, hz, he2, ← hy2]; omega
        · rw [q_ev_sub, q_ev_x, hn, hz, he1, ← hx]; omega
      · cases h
    · unfold q_rem2 at h
      split at h
      · rename_i hc
        obtain ⟨c2, c4⟩ := hc
        cases h
        have g2 := q_vc_ok h0 hh c4
        rw [q_ev_sub, q_ev_k h0] at g2
        refine ⟨fun _ => q_ne0 (Or.inl (by omega)), q_RS.fa (fun r' hr h0' hn f hf => ?_)⟩
        have he2 := q_ev_wf hr e2 c2
        obtain ⟨b1, b2⟩ := q_iremA (x := x) (y := y) (by omega)
        have hz : (q_fn 10 x y).toInt = (x - x / y * y).toInt := rfl
        simp only [List.mem_cons, List.not_mem_nil, or_false] at hf
        rcases hf with rfl | rfl
        · rw [q_ev_add, q_ev_sub, q_ev_x, q_ev_k h0', hn, hz, he2, ← hy2]; omega
        · rw [q_ev_sub, q_ev_sub, q_ev_x, q_ev_k h0', hn, hz, he2, ← hy2]; omega
      · cases h
  · exact ⟨fun q => absurd q (by decide), q_any_ok h⟩
  · exact ⟨fun q => absurd q (by decide), q_any_ok h⟩
  · exact ⟨fun q => absurd q (by decide), q_any_ok h⟩
  · cases h
