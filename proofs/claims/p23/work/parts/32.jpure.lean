/-! ARITHMETIC over numbers -/
theorem j_nn64 {x : Int64} (h : 0 ≤ x.toInt) : ∃ n : Nat, n < 2 ^ 63 ∧ x = lN n ∧ x.toInt = (n : Int) := by
  obtain ⟨k, hk, e⟩ := pk_lOf (x := x) (fun q => by rw [Int64.lt_iff_toInt_lt] at q; have : ¬ x.toInt < (0 : Int64).toInt := by show ¬ x.toInt < 0; omega
                                                    exact this q)
  exact ⟨k, hk, e, by rw [e]; exact pk_lT hk⟩
theorem j_bv32 (x : Int32) : x.toInt = if 2 * x.toBitVec.toNat < 4294967296 then (x.toBitVec.toNat : Int) else (x.toBitVec.toNat : Int) - 4294967296 := by
  show x.toBitVec.toInt = _
  rw [BitVec.toInt_eq_toNat_cond]
  rfl
theorem j_bv64 (x : Int64) : x.toInt = if 2 * x.toBitVec.toNat < 18446744073709551616 then (x.toBitVec.toNat : Int) else (x.toBitVec.toNat : Int) - 18446744073709551616 := by
  show x.toBitVec.toInt = _
  rw [BitVec.toInt_eq_toNat_cond]
  rfl
theorem j_bl32 (x : Int32) : x.toBitVec.toNat < 4294967296 := x.toBitVec.isLt
theorem j_bl64 (x : Int64) : x.toBitVec.toNat < 18446744073709551616 := x.toBitVec.isLt
theorem j_and255 {x y : Int32} (hy : y.toInt = 255) : (x &&& y).toInt = x.toInt % 256 := by
  have e : y = 255 := Int32.toInt_inj.mp (by rw [hy]; rfl)
  subst e
  rw [pk_and x 8 (by decide), nI_toInt (by have := Nat.mod_lt x.toBitVec.toNat (show 0 < 2 ^ 8 by decide); omega)]
  have h1 := j_bv32 x
  have h2 := j_bl32 x
  show ((x.toBitVec.toNat % 256 : Nat) : Int) = _
  split at h1 <;> omega
theorem j_and3 {x y : Int32} (hy : y.toInt = 3) : (x &&& y).toInt = x.toInt % 4 := by
  have e : y = 3 := Int32.toInt_inj.mp (by rw [hy]; rfl)
  subst e
  rw [pk_and x 2 (by decide), nI_toInt (by have := Nat.mod_lt x.toBitVec.toNat (show 0 < 2 ^ 2 by decide); omega)]
  have h1 := j_bv32 x
  have h2 := j_bl32 x
  show ((x.toBitVec.toNat % 4 : Nat) : Int) = _
  split at h1 <;> omega
theorem j_and31 {x y : Int32} (hy : y.toInt = 31) : (x &&& y).toInt = x.toInt % 32 := by
  have e : y = 31 := Int32.toInt_inj.mp (by rw [hy]; rfl)
  subst e
  rw [pk_and x 5 (by decide), nI_toInt (by have := Nat.mod_lt x.toBitVec.toNat (show 0 < 2 ^ 5 by decide); omega)]
  have h1 := j_bv32 x
  have h2 := j_bl32 x
  show ((x.toBitVec.toNat % 32 : Nat) : Int) = _
  split at h1 <;> omega
theorem j_or {x y : Int32} (hx : 0 ≤ x.toInt) (hm : x.toInt % 256 = 0) (h0 : 0 ≤ y.toInt) (h1 : y.toInt < 256) (hr : x.toInt + y.toInt ≤ 2147483647) : (x ||| y).toInt = x.toInt + y.toInt := by
  obtain ⟨a, ha, rfl, ea⟩ := q_nn hx
  obtain ⟨b, hb, rfl, eb⟩ := q_nn h0
  rw [ea] at hx hm hr ⊢
  rw [eb] at h0 h1 hr ⊢
  have e : nI a ||| nI b = nI (a + b) := by
    obtain ⟨c, rfl⟩ : ∃ c, a = 2 ^ 8 * c := ⟨a / 256, by omega⟩
    apply Int32.toBitVec_inj.1
    rw [Nat.two_pow_add_eq_or_of_lt (by omega)]
    show BitVec.ofNat 32 _ ||| BitVec.ofNat 32 b = BitVec.ofNat 32 _
    apply BitVec.eq_of_getLsbD_eq
    intro i hi
    simp [hi]
  rw [e, nI_toInt (by omega)]
  omega
def j_xor (a b : Int) : Int := ((a.toNat ^^^ b.toNat : Nat) : Int)
theorem j_xor_ok {x y : Int32} (hx : 0 ≤ x.toInt) (hy : 0 ≤ y.toInt) : (x ^^^ y).toInt = j_xor x.toInt y.toInt := by
  obtain ⟨a, ha, rfl, ea⟩ := q_nn hx
  obtain ⟨b, hb, rfl, eb⟩ := q_nn hy
  rw [ea, eb]
  have e : nI a ^^^ nI b = nI (a ^^^ b) := by
    apply Int32.toBitVec_inj.1
    show BitVec.ofNat 32 a ^^^ BitVec.ofNat 32 b = BitVec.ofNat 32 (a ^^^ b)
    apply BitVec.eq_of_getLsbD_eq
    intro i hi
    simp [hi]
  rw [e, nI_toInt (Nat.xor_lt_two_pow ha hb)]
  rfl
theorem j_shl8 {x y : Int32} (hy : y.toInt = 8) (hx : 0 ≤ x.toInt) (hr : x.toInt ≤ 8388607) : (x <<< (y &&& 31)).toInt = 256 * x.toInt := by
  have e : y = 8 := Int32.toInt_inj.mp (by rw [hy]; rfl)
  subst e
  obtain ⟨a, ha, rfl, ea⟩ := q_nn hx
  rw [pk_shlN (n := a) ((8 : Int32) &&& 31) 8 (by decide) (by omega), nI_toInt (by omega), ea]
  omega
theorem j_shl1 {x y : Int32} (hx : x.toInt = 1) (h0 : 0 ≤ y.toInt) (h1 : y.toInt ≤ 30) : (x <<< (y &&& 31)).toInt = 2 ^ y.toInt.toNat := by
  have e : x = 1 := Int32.toInt_inj.mp (by rw [hx]; rfl)
  subst e
  obtain ⟨a, ha, rfl, ea⟩ := q_nn h0
  rw [q_ishl1 rfl (by omega), ea]
  simp
theorem j_shr {x y : Int32} (hx : 0 ≤ x.toInt) (h0 : 0 ≤ y.toInt) (h1 : y.toInt ≤ 31) : (x >>> (y &&& 31)).toInt = x.toInt / 2 ^ y.toInt.toNat := by
  obtain ⟨a, ha, rfl, ea⟩ := q_nn hx
  obtain ⟨b, hb, rfl, eb⟩ := q_nn h0
  rw [q_ishr rfl ha (by omega), ea, eb]
  simp
theorem j_cu : ∀ k : Fin 32, (((nI k.val).toUInt32 &&& Int32.toUInt32 31).toBitVec % 32).toNat = k.val := by decide +kernel
theorem j_ushr {x y : Int32} (hx : 0 ≤ x.toInt) (h0 : 0 ≤ y.toInt) (h1 : y.toInt ≤ 31) : ((x.toUInt32 >>> (y.toUInt32 &&& Int32.toUInt32 31)).toInt32).toInt = x.toInt / 2 ^ y.toInt.toNat := by
  obtain ⟨a, ha, rfl, ea⟩ := q_nn hx
  obtain ⟨b, hb, rfl, eb⟩ := q_nn h0
  have hd : a / 2 ^ b ≤ a := Nat.div_le_self _ _
  rw [pk_ushrN (by omega) (nI b) b (j_cu ⟨b, by omega⟩), nI_toInt (by omega), ea, eb]
  simp
theorem j_lsub64 {x y : Int64} (h1 : -9223372036854775808 ≤ x.toInt - y.toInt) (h2 : x.toInt - y.toInt ≤ 9223372036854775807) : (x - y).toInt = x.toInt - y.toInt := by rw [Int64.toInt_sub, q_bm64 h1 h2]
theorem j_lmul64 {x y : Int64} (h1 : -9223372036854775808 ≤ x.toInt * y.toInt) (h2 : x.toInt * y.toInt ≤ 9223372036854775807) : (x * y).toInt = x.toInt * y.toInt := by rw [Int64.toInt_mul, q_bm64 h1 h2]
theorem j_ldiv64 {x y : Int64} (hx : 0 ≤ x.toInt) (hy : 1 ≤ y.toInt) : (x / y).toInt = x.toInt / y.toInt := by
  obtain ⟨a, ha, rfl, ea⟩ := j_nn64 hx
  obtain ⟨b, hb, rfl, eb⟩ := j_nn64 (x := y) (by omega)
  have hd : a / b ≤ a := Nat.div_le_self _ _
  rw [pk_lDiv ha (by omega) hb, pk_lT (by omega), ea, eb]
  rfl
theorem j_lrem64 {x y : Int64} (hx : 0 ≤ x.toInt) (hy : 1 ≤ y.toInt) : (x - x / y * y).toInt = x.toInt % y.toInt := by
  obtain ⟨a, ha, rfl, ea⟩ := j_nn64 hx
  obtain ⟨b, hb, rfl, eb⟩ := j_nn64 (x := y) (by omega)
  have hd : a % b < b := Nat.mod_lt _ (by omega)
  rw [pk_lRem ha (by omega) hb, pk_lT (by omega), ea, eb]
  rfl
theorem j_ne64 {y : Int64} (h : 1 ≤ y.toInt) : ¬ y = 0 := fun e => by
  rw [e] at h
  exact absurd h (by decide)
theorem j_bmod_emod (n : Int) (k : Nat) (hk : k ≤ 64) : n.bmod (2 ^ 64) % 2 ^ k = n % 2 ^ k := by
  rw [Int.bmod_def]
  have hdv : ((2 : Int) ^ k) ∣ ((2 ^ 64 : Nat) : Int) := ⟨2 ^ (64 - k), by rw [← Int.pow_add, show k + (64 - k) = 64 by omega]; rfl⟩
  split
  · exact Int.emod_emod_of_dvd _ hdv
  · rw [Int.sub_emod, Int.emod_eq_zero_of_dvd hdv, Int.sub_zero, Int.emod_emod_of_dvd _ (Int.dvd_refl _), Int.emod_emod_of_dvd _ hdv]
theorem j_land64_8 {x y : Int64} (hy : y.toInt = 255) : (x &&& y).toInt = x.toInt % 256 := by
  have e : y = 255 := Int64.toInt_inj.mp (by rw [hy]; rfl)
  subst e
  have h1 := j_bv64 x
  have h2 := j_bl64 x
  have h3 : (x &&& 255).toBitVec.toNat = x.toBitVec.toNat % 256 := by
    show (x.toBitVec &&& (BitVec.ofNat 64 255)).toNat = _
    rw [BitVec.toNat_and]
    exact Nat.and_two_pow_sub_one_eq_mod x.toBitVec.toNat 8
  have h4 := j_bv64 (x &&& 255)
  rw [h3] at h4
  have h5 := Nat.mod_lt x.toBitVec.toNat (show 0 < 256 by decide)
  rw [if_pos (by omega)] at h4
  rw [h4]
  split at h1 <;> omega
theorem j_land64_32 {x y : Int64} (hy : y.toInt = 4294967295) : (x &&& y).toInt = x.toInt % 4294967296 := by
  have e : y = 4294967295 := Int64.toInt_inj.mp (by rw [hy]; rfl)
  subst e
  have h1 := j_bv64 x
  have h2 := j_bl64 x
  have h3 : (x &&& 4294967295).toBitVec.toNat = x.toBitVec.toNat % 4294967296 := by
    show (x.toBitVec &&& (BitVec.ofNat 64 4294967295)).toNat = _
    rw [BitVec.toNat_and]
    exact Nat.and_two_pow_sub_one_eq_mod x.toBitVec.toNat 32
  have h4 := j_bv64 (x &&& 4294967295)
  rw [h3] at h4
  have h5 := Nat.mod_lt x.toBitVec.toNat (show 0 < 4294967296 by decide)
  rw [if_pos (by omega)] at h4
  rw [h4]
  split at h1 <;> omega
def j_w32 (n : Int) : Int := (n + 2147483648) % 4294967296 - 2147483648
theorem j_w32_in {n : Int} (h1 : -2147483648 ≤ n) (h2 : n ≤ 2147483647) : j_w32 n = n := by
  unfold j_w32
  omega
theorem j_l2i_ok (x : Int64) : x.toInt32.toInt = j_w32 x.toInt := by
  have h1 := j_bv64 x
  have h2 := j_bl64 x
  have h3 : x.toInt32.toBitVec.toNat = x.toBitVec.toNat % 4294967296 := by
    show (BitVec.signExtend 32 x.toBitVec).toNat = _
    rw [BitVec.signExtend_eq_setWidth_of_le _ (by decide), BitVec.toNat_setWidth]
  have h4 := j_bv32 x.toInt32
  rw [h3] at h4
  unfold j_w32
  rw [h4]
  split at h1 <;> split <;> omega
theorem j_cs : ∀ k : Fin 64, (((nI k.val).toInt64 &&& 63).toBitVec.smod 64).toNat = k.val := by decide +kernel
theorem j_lshr_ok {x : Int64} {y : Int32} (h0 : 0 ≤ y.toInt) (h1 : y.toInt ≤ 63) : (x >>> (y.toInt64 &&& 63)).toInt = x.toInt / 2 ^ y.toInt.toNat := by
  obtain ⟨b, hb, rfl, eb⟩ := q_nn h0
  have hk := j_cs ⟨b, by omega⟩
  show (x.toBitVec.sshiftRight' (((nI b).toInt64 &&& 63).toBitVec.smod 64)).toInt = _
  rw [BitVec.sshiftRight', BitVec.toInt_sshiftRight, hk, eb, Int.shiftRight_eq_div_pow]
  simp
theorem j_lshl_ok {x : Int64} {y : Int32} (hy : y.toInt = 32) (h0 : -2147483648 ≤ x.toInt) (h1 : x.toInt ≤ 2147483647) : (x <<< (y.toInt64 &&& 63)).toInt = 4294967296 * x.toInt := by
  have e : y = 32 := Int32.toInt_inj.mp (by rw [hy]; rfl)
  subst e
  have h2 := j_bv64 x
  have h3 := j_bl64 x
  have h4 : (x <<< ((32 : Int32).toInt64 &&& 63)).toBitVec.toNat = x.toBitVec.toNat * 4294967296 % 18446744073709551616 := by
    show (x.toBitVec <<< (BitVec.ofNat 64 32)).toNat = _
    rw [BitVec.shiftLeft_eq', BitVec.toNat_shiftLeft, Nat.shiftLeft_eq]
    rfl
  have h5 := j_bv64 (x <<< ((32 : Int32).toInt64 &&& 63))
  rw [h4] at h5
  rw [h5]
  split at h2 <;> split <;> omega
theorem j_lor_ok {x y : Int64} (hm : x.toInt % 4294967296 = 0) (h0 : 0 ≤ y.toInt) (h1 : y.toInt < 4294967296) : (x ||| y).toInt = x.toInt + y.toInt := by
  have h2 := j_bv64 x
  have h3 := j_bl64 x
  have h4 := j_bv64 y
  have h5 := j_bl64 y
  have hy : y.toBitVec.toNat < 4294967296 := by split at h4 <;> omega
  obtain ⟨c, hc⟩ : ∃ c, x.toBitVec.toNat = 2 ^ 32 * c := ⟨x.toBitVec.toNat / 4294967296, by split at h2 <;> omega⟩
  have h6 : (x ||| y).toBitVec.toNat = x.toBitVec.toNat + y.toBitVec.toNat := by
    show (x.toBitVec ||| y.toBitVec).toNat = _
    rw [BitVec.toNat_or, hc, Nat.two_pow_add_eq_or_of_lt (by omega)]
  have h7 := j_bv64 (x ||| y)
  rw [h6] at h7
  rw [h7]
  rw [if_pos (by split at h4 <;> omega)] at h4
  split at h2 <;> split <;> omega
/-- a long shifted to the right as bits -/
def j_us (n : Int) (k : Nat) : Int := if k = 0 then n else n % 18446744073709551616 / 2 ^ k
theorem j_cv : ∀ k : Fin 64, ((nI k.val).toInt64.toUInt64 &&& Int64.toUInt64 63).toNat % 64 = k.val := by decide +kernel
theorem j_lushr_ok {x : Int64} {y : Int32} (h0 : 0 ≤ y.toInt) (h1 : y.toInt ≤ 63) : ((x.toUInt64 >>> (y.toInt64.toUInt64 &&& Int64.toUInt64 63)).toInt64).toInt = j_us x.toInt y.toInt.toNat := by
  obtain ⟨b, hb, rfl, eb⟩ := q_nn h0
  have hk := j_cv ⟨b, by omega⟩
  have hk : ((nI b).toInt64.toUInt64 &&& Int64.toUInt64 63).toNat % 64 = b := hk
  have h2 := j_bv64 x
  have h3 := j_bl64 x
  have h4 : ((x.toUInt64 >>> ((nI b).toInt64.toUInt64 &&& Int64.toUInt64 63)).toInt64).toBitVec.toNat = x.toBitVec.toNat / 2 ^ b := by
    show (x.toUInt64 >>> ((nI b).toInt64.toUInt64 &&& Int64.toUInt64 63)).toNat = _
    rw [UInt64.toNat_shiftRight, hk, Nat.shiftRight_eq_div_pow]
    rfl
  have h5 := j_bv64 ((x.toUInt64 >>> ((nI b).toInt64.toUInt64 &&& Int64.toUInt64 63)).toInt64)
  rw [h4] at h5
  rw [h5, eb]
  show _ = j_us x.toInt b
  unfold j_us
  have hx : x.toInt % 18446744073709551616 = (x.toBitVec.toNat : Int) := by split at h2 <;> omega
  by_cases hb0 : b = 0
  · subst hb0
    rw [if_pos (show (0 : Nat) = 0 from rfl)]
    simp only [Nat.pow_zero, Nat.div_one]
    exact h2.symm
  · rw [if_neg hb0]
    have h6 : 2 ^ 1 ≤ 2 ^ b := Nat.pow_le_pow_right (by decide) (by omega)
    have h7 : x.toBitVec.toNat / 2 ^ b ≤ x.toBitVec.toNat / 2 := Nat.div_le_div_left h6 (by decide)
    rw [if_pos (by omega), hx]
    simp
def j_cmp (a b : Int) : Int := if b < a then 1 else if b = a then 0 else -1
theorem j_cmp_ok (x y : Int64) : (lg_cmp x y).toInt = j_cmp x.toInt y.toInt := by
  unfold j_cmp
  split
  · exact q_cmpG (by assumption)
  · split
    · exact q_cmpE (by assumption)
    · exact q_cmpL (by omega)
theorem j_cmp_lt {a b : Int} : j_cmp a b < 0 ↔ a < b := by unfold j_cmp; split <;> (try split) <;> omega
theorem j_cmp_le {a b : Int} : j_cmp a b ≤ 0 ↔ a ≤ b := by unfold j_cmp; split <;> (try split) <;> omega
theorem j_cmp_eq {a b : Int} : j_cmp a b = 0 ↔ a = b := by unfold j_cmp; split <;> (try split) <;> omega
/-! ROWS that leave the heap -/
section JR
variable {KT : List qKD} {nL : Nat} {C : qCx} {G : jG} {cc : ByteArray} {pc : Nat} {lo : List (Nat × jV)} {sk : List jV} {S : jS} {V : jH} {nc ns : Nat}
theorem j_push {pc' : Nat} {x : jV} (h : j_ok KT nL C G pc' lo (x :: sk) S V nc ns) (row : ∀ {H : Heap} {locs : List Loc} {ls : Array Slot} {vs : List Value} {ad : Int → Nat}, (∀ v : Value, j_v ad S x v → q_W C H locs nc ns pc' ls (v :: vs)) → q_W C H locs nc ns pc ls vs) : j_ok KT nL C G pc lo sk S V nc ns :=
  j_pure h (fun ad ls vs H locs h2 h3 k => row (fun v hv => k ls (v :: vs) h2 ⟨hv, h3⟩))
theorem j_iconst (E : j_E C cc G) {n : Int} (hd : decode cc pc = .ok (.iconst n, 1)) (hr : -2147483648 ≤ n ∧ n ≤ 2147483647) (h : j_ok KT nL C G (pc + 1) lo ((0, n) :: sk) S V nc ns) : j_ok KT nL C G pc lo sk S V nc ns :=
  j_push h (fun k => lv_iconst E.1.1 E.1.2 hd rfl (k _ ⟨_, rfl, q_k32 hr⟩))
theorem j_bipush (E : j_E C cc G) {n : Int} (hd : decode cc pc = .ok (.bipush n, 2)) (hr : -128 ≤ n ∧ n ≤ 127) (h : j_ok KT nL C G (pc + 2) lo ((0, n) :: sk) S V nc ns) : j_ok KT nL C G pc lo sk S V nc ns :=
  j_push h (fun k => lv_bipush E.1.1 E.1.2 hd rfl (k _ ⟨_, rfl, q_k8 hr⟩))
theorem j_sipush (E : j_E C cc G) {n : Int} (hd : decode cc pc = .ok (.sipush n, 3)) (hr : -32768 ≤ n ∧ n ≤ 32767) (h : j_ok KT nL C G (pc + 3) lo ((0, n) :: sk) S V nc ns) : j_ok KT nL C G pc lo sk S V nc ns :=
  j_push h (fun k => lv_sipush E.1.1 E.1.2 hd rfl (k _ ⟨_, rfl, q_k16 hr⟩))
theorem j_lconst (E : j_E C cc G) {n : Fin 2} (hd : decode cc pc = .ok (.lconst n, 1)) (h : j_ok KT nL C G (pc + 1) lo ((1, ((n : Nat) : Int)) :: sk) S V nc ns) : j_ok KT nL C G pc lo sk S V nc ns :=
  j_push h (fun k => lv_lconst E.1.1 E.1.2 hd rfl (k _ ⟨_, rfl, by match n with | 0 => rfl | 1 => rfl⟩))
theorem j_ldc {i : Nat} {v : Int32} {n : Int} (hF : q_Kld C cc (.ldc i) (.int v)) (hv : v.toInt = n) (hd : decode cc pc = .ok (.ldc i, 2)) (h : j_ok KT nL C G (pc + 2) lo ((0, n) :: sk) S V nc ns) : j_ok KT nL C G pc lo sk S V nc ns :=
  j_push h (fun k => hF pc _ _ _ _ _ _ hd (k _ ⟨_, rfl, hv⟩))
theorem j_ldc2 {i : Nat} {v : Int64} {n : Int} (hF : q_Kld C cc (.ldc2_w i) (.long v)) (hv : v.toInt = n) (hd : decode cc pc = .ok (.ldc2_w i, 3)) (h : j_ok KT nL C G (pc + 3) lo ((1, n) :: sk) S V nc ns) : j_ok KT nL C G pc lo sk S V nc ns :=
  j_push h (fun k => hF pc _ _ _ _ _ _ hd (k _ ⟨_, rfl, hv⟩))
theorem j_null (E : j_E C cc G) (hd : decode cc pc = .ok (.aconst_null, 1)) (h : j_ok KT nL C G (pc + 1) lo ((2, -1) :: sk) S V nc ns) : j_ok KT nL C G pc lo sk S V nc ns :=
  j_push h (fun k => lv_null E.1.1 E.1.2 hd (k _ (Or.inl ⟨rfl, rfl⟩)))
theorem j_iload_n (E : j_E C cc G) {k : Fin 4} {i : Nat} {n : Int} (hd : decode cc pc = .ok (.iload_n k, 1)) (hi : (k : Nat) = i) (p : Nat) (hp : lo[p]? = some (i, (0, n))) (h : j_ok KT nL C G (pc + 1) lo ((0, n) :: sk) S V nc ns) : j_ok KT nL C G pc lo sk S V nc ns := by
  refine j_pure h (fun ad ls vs H locs h2 h3 kk => ?_)
  obtain ⟨v, e1, e2⟩ := h2.get (List.mem_of_getElem? hp)
  obtain ⟨y, rfl, e3⟩ := id e2
  exact lv_iload_n E.1.1 E.1.2 hd hi e1 (kk ls _ h2 ⟨e2, h3⟩)
theorem j_iload (E : j_E C cc G) {i : Nat} {n : Int} (hd : decode cc pc = .ok (.iload i, 2)) (p : Nat) (hp : lo[p]? = some (i, (0, n))) (h : j_ok KT nL C G (pc + 2) lo ((0, n) :: sk) S V nc ns) : j_ok KT nL C G pc lo sk S V nc ns := by
  refine j_pure h (fun ad ls vs H locs h2 h3 kk => ?_)
  obtain ⟨v, e1, e2⟩ := h2.get (List.mem_of_getElem? hp)
  obtain ⟨y, rfl, e3⟩ := id e2
  exact lv_iload E.1.1 E.1.2 hd e1 (kk ls _ h2 ⟨e2, h3⟩)
theorem j_lload_n (E : j_E C cc G) {k : Fin 4} {i : Nat} {n : Int} (hd : decode cc pc = .ok (.lload_n k, 1)) (hi : (k : Nat) = i) (p : Nat) (hp : lo[p]? = some (i, (1, n))) (h : j_ok KT nL C G (pc + 1) lo ((1, n) :: sk) S V nc ns) : j_ok KT nL C G pc lo sk S V nc ns := by
  refine j_pure h (fun ad ls vs H locs h2 h3 kk => ?_)
  obtain ⟨v, e1, e2⟩ := h2.get (List.mem_of_getElem? hp)
  obtain ⟨y, rfl, e3⟩ := id e2
  exact lv_lload_n E.1.1 E.1.2 hd hi e1 (kk ls _ h2 ⟨e2, h3⟩)
theorem j_lload (E : j_E C cc G) {i : Nat} {n : Int} (hd : decode cc pc = .ok (.lload i, 2)) (p : Nat) (hp : lo[p]? = some (i, (1, n))) (h : j_ok KT nL C G (pc + 2) lo ((1, n) :: sk) S V nc ns) : j_ok KT nL C G pc lo sk S V nc ns := by
  refine j_pure h (fun ad ls vs H locs h2 h3 kk => ?_)
  obtain ⟨v, e1, e2⟩ := h2.get (List.mem_of_getElem? hp)
  obtain ⟨y, rfl, e3⟩ := id e2
  exact lv_lload E.1.1 E.1.2 hd e1 (kk ls _ h2 ⟨e2, h3⟩)
theorem j_aload_n (E : j_E C cc G) {k : Fin 4} {i : Nat} {n : Int} (hd : decode cc pc = .ok (.aload_n k, 1)) (hi : (k : Nat) = i) (p : Nat) (hp : lo[p]? = some (i, (2, n))) (h : j_ok KT nL C G (pc + 1) lo ((2, n) :: sk) S V nc ns) : j_ok KT nL C G pc lo sk S V nc ns := by
  refine j_pure h (fun ad ls vs H locs h2 h3 kk => ?_)
  obtain ⟨v, e1, e2⟩ := h2.get (List.mem_of_getElem? hp)
  rcases id e2 with ⟨rfl, -⟩ | ⟨rfl, -⟩
  · exact lv_aload_nN E.1.1 E.1.2 hd hi e1 (kk ls _ h2 ⟨e2, h3⟩)
  · exact lv_aload_n E.1.1 E.1.2 hd hi e1 (kk ls _ h2 ⟨e2, h3⟩)
theorem j_aload (E : j_E C cc G) {i : Nat} {n : Int} (hd : decode cc pc = .ok (.aload i, 2)) (p : Nat) (hp : lo[p]? = some (i, (2, n))) (h : j_ok KT nL C G (pc + 2) lo ((2, n) :: sk) S V nc ns) : j_ok KT nL C G pc lo sk S V nc ns := by
  refine j_pure h (fun ad ls vs H locs h2 h3 kk => ?_)
  obtain ⟨v, e1, e2⟩ := h2.get (List.mem_of_getElem? hp)
  rcases id e2 with ⟨rfl, -⟩ | ⟨rfl, -⟩
  · exact lv_aloadN E.1.1 E.1.2 hd e1 (kk ls _ h2 ⟨e2, h3⟩)
  · exact lv_aload E.1.1 E.1.2 hd e1 (kk ls _ h2 ⟨e2, h3⟩)
theorem j_istore_n (E : j_E C cc G) {k : Fin 4} {i : Nat} {n : Int} (hd : decode cc pc = .ok (.istore_n k, 1)) (hi : (k : Nat) = i) (hn : i < nL) {lo1 : List (Nat × jV)} (hl : lo.filter (j_lof1 i) = lo1) (h : j_ok KT nL C G (pc + 1) ((i, (0, n)) :: lo1) sk S V nc ns) : j_ok KT nL C G pc lo ((0, n) :: sk) S V nc ns := by
  subst hl
  refine j_pure h (fun ad ls vs H locs h2 h3 kk => ?_)
  obtain ⟨v, ws, rfl, e2, h3_1⟩ := h3.cons
  obtain ⟨lv, l1, l2⟩ := h2
  obtain ⟨y, rfl, e3⟩ := id e2
  exact lv_istore_n E.1.1 E.1.2 hd hi l1 hn rfl (fun ls' hl' => kk ls' ws ⟨_, hl', ⟨rfl, e2⟩, l2.f1 i⟩ h3_1)
theorem j_istore (E : j_E C cc G) {i : Nat} {n : Int} (hd : decode cc pc = .ok (.istore i, 2)) (hn : i < nL) {lo1 : List (Nat × jV)} (hl : lo.filter (j_lof1 i) = lo1) (h : j_ok KT nL C G (pc + 2) ((i, (0, n)) :: lo1) sk S V nc ns) : j_ok KT nL C G pc lo ((0, n) :: sk) S V nc ns := by
  subst hl
  refine j_pure h (fun ad ls vs H locs h2 h3 kk => ?_)
  obtain ⟨v, ws, rfl, e2, h3_1⟩ := h3.cons
  obtain ⟨lv, l1, l2⟩ := h2
  obtain ⟨y, rfl, e3⟩ := id e2
  exact lv_istore E.1.1 E.1.2 hd l1 hn rfl (fun ls' hl' => kk ls' ws ⟨_, hl', ⟨rfl, e2⟩, l2.f1 i⟩ h3_1)
theorem j_lstore_n (E : j_E C cc G) {k : Fin 4} {i : Nat} {n : Int} (hd : decode cc pc = .ok (.lstore_n k, 1)) (hi : (k : Nat) = i) (hn : i + 1 < nL) {lo1 : List (Nat × jV)} (hl : lo.filter (j_lof2 i) = lo1) (h : j_ok KT nL C G (pc + 1) ((i, (1, n)) :: lo1) sk S V nc ns) : j_ok KT nL C G pc lo ((1, n) :: sk) S V nc ns := by
  subst hl
  refine j_pure h (fun ad ls vs H locs h2 h3 kk => ?_)
  obtain ⟨v, ws, rfl, e2, h3_1⟩ := h3.cons
  obtain ⟨lv, l1, l2⟩ := h2
  obtain ⟨y, rfl, e3⟩ := id e2
  exact lv_lstore_n E.1.1 E.1.2 hd hi l1 hn rfl (fun ls' hl' => kk ls' ws ⟨_, hl', ⟨rfl, e2⟩, l2.f2 i⟩ h3_1)
theorem j_lstore (E : j_E C cc G) {i : Nat} {n : Int} (hd : decode cc pc = .ok (.lstore i, 2)) (hn : i + 1 < nL) {lo1 : List (Nat × jV)} (hl : lo.filter (j_lof2 i) = lo1) (h : j_ok KT nL C G (pc + 2) ((i, (1, n)) :: lo1) sk S V nc ns) : j_ok KT nL C G pc lo ((1, n) :: sk) S V nc ns := by
  subst hl
  refine j_pure h (fun ad ls vs H locs h2 h3 kk => ?_)
  obtain ⟨v, ws, rfl, e2, h3_1⟩ := h3.cons
  obtain ⟨lv, l1, l2⟩ := h2
  obtain ⟨y, rfl, e3⟩ := id e2
  exact lv_lstore E.1.1 E.1.2 hd l1 hn rfl (fun ls' hl' => kk ls' ws ⟨_, hl', ⟨rfl, e2⟩, l2.f2 i⟩ h3_1)
theorem j_astore_n (E : j_E C cc G) {k : Fin 4} {i : Nat} {n : Int} (hd : decode cc pc = .ok (.astore_n k, 1)) (hi : (k : Nat) = i) (hn : i < nL) {lo1 : List (Nat × jV)} (hl : lo.filter (j_lof1 i) = lo1) (h : j_ok KT nL C G (pc + 1) ((i, (2, n)) :: lo1) sk S V nc ns) : j_ok KT nL C G pc lo ((2, n) :: sk) S V nc ns := by
  subst hl
  refine j_pure h (fun ad ls vs H locs h2 h3 kk => ?_)
  obtain ⟨v, ws, rfl, e2, h3_1⟩ := h3.cons
  obtain ⟨lv, l1, l2⟩ := h2
  rcases id e2 with ⟨rfl, -⟩ | ⟨rfl, -⟩
  · exact lv_astore_nN E.1.1 E.1.2 hd hi l1 hn rfl (fun ls' hl' => kk ls' ws ⟨_, hl', ⟨rfl, e2⟩, l2.f1 i⟩ h3_1)
  · exact lv_astore_n E.1.1 E.1.2 hd hi l1 hn rfl (fun ls' hl' => kk ls' ws ⟨_, hl', ⟨rfl, e2⟩, l2.f1 i⟩ h3_1)
theorem j_astore (E : j_E C cc G) {i : Nat} {n : Int} (hd : decode cc pc = .ok (.astore i, 2)) (hn : i < nL) {lo1 : List (Nat × jV)} (hl : lo.filter (j_lof1 i) = lo1) (h : j_ok KT nL C G (pc + 2) ((i, (2, n)) :: lo1) sk S V nc ns) : j_ok KT nL C G pc lo ((2, n) :: sk) S V nc ns := by
  subst hl
  refine j_pure h (fun ad ls vs H locs h2 h3 kk => ?_)
  obtain ⟨v, ws, rfl, e2, h3_1⟩ := h3.cons
  obtain ⟨lv, l1, l2⟩ := h2
  rcases id e2 with ⟨rfl, -⟩ | ⟨rfl, -⟩
  · exact lv_astoreN E.1.1 E.1.2 hd l1 hn rfl (fun ls' hl' => kk ls' ws ⟨_, hl', ⟨rfl, e2⟩, l2.f1 i⟩ h3_1)
  · exact lv_astore E.1.1 E.1.2 hd l1 hn rfl (fun ls' hl' => kk ls' ws ⟨_, hl', ⟨rfl, e2⟩, l2.f1 i⟩ h3_1)
theorem j_lvs.ix {ad : Int → Nat} {S : jS} : ∀ {xs : List (Nat × jV)} {vs : List (Nat × Value)}, j_lvs ad S xs vs → ∀ {k i : Nat} {x : jV}, xs[k]? = some (i, x) → ∃ v, vs[k]? = some (i, v) ∧ j_v ad S x v
  | [], [], _, k, i, x, hk => by simp at hk
  | y :: ys, w :: ws, h, 0, i, x, hk => by
    simp only [List.getElem?_cons_zero, Option.some.injEq] at hk
    subst hk
    obtain ⟨⟨h1, h2⟩, -⟩ := h
    refine ⟨w.2, ?_, h2⟩
    simp only [List.getElem?_cons_zero]
    rw [show i = w.1 from h1]
  | y :: ys, w :: ws, h, k + 1, i, x, hk => by
    rw [List.getElem?_cons_succ] at hk
    obtain ⟨v, h1, h2⟩ := j_lvs.ix h.2 hk
    exact ⟨v, by rw [List.getElem?_cons_succ]; exact h1, h2⟩
theorem j_iinc (E : j_E C cc G) {i : Nat} {n x : Int} (hd : decode cc pc = .ok (.iinc i n, 3)) (hn : i < nL) (hc : -2147483648 ≤ n ∧ n ≤ 2147483647) (p : Nat) (hp : lo[p]? = some (i, (0, x))) {lo1 : List (Nat × jV)} (hl : lo.filter (j_lof1 i) = lo1) (hr : -2147483648 ≤ x + n ∧ x + n ≤ 2147483647) (h : j_ok KT nL C G (pc + 3) ((i, (0, x + n)) :: lo1) sk S V nc ns) : j_ok KT nL C G pc lo sk S V nc ns := by
  subst hl
  refine j_pure h (fun ad ls vs H locs h2 h3 kk => ?_)
  obtain ⟨lv, l1, l2⟩ := h2
  obtain ⟨v, e1, e2⟩ := l2.ix hp
  obtain ⟨y, rfl, e3⟩ := e2
  have e3 : y.toInt = x := e3
  have e4 : (y + Int32.ofInt n).toInt = x + n := by
    rw [q_iadd (by rw [q_k32 hc, e3]; exact hr.1) (by rw [q_k32 hc, e3]; exact hr.2), q_k32 hc, e3]
  exact lv_iinc E.1.1 E.1.2 hd l1 e1 rfl hn rfl (fun ls' hl' => kk ls' vs ⟨_, hl', ⟨rfl, ⟨_, rfl, e4⟩⟩, l2.f1 i⟩ h3)
theorem j_iadd (E : j_E C cc G) {a b : Int} (hd : decode cc pc = .ok (.iadd, 1)) (hr : -2147483648 ≤ a + b ∧ a + b ≤ 2147483647) (h : j_ok KT nL C G (pc + 1) lo ((0, a + b) :: sk) S V nc ns) : j_ok KT nL C G pc lo ((0, b) :: (0, a) :: sk) S V nc ns := by
  refine j_pure h (fun ad ls vs H locs h2 h3 kk => ?_)
  obtain ⟨v, ws, rfl, e2, h3_1⟩ := h3.cons
  obtain ⟨w, us, rfl, e3, h3_2⟩ := h3_1.cons
  obtain ⟨y, rfl, e2⟩ := e2
  obtain ⟨x, rfl, e3⟩ := e3
  have e2 : y.toInt = b := e2
  have e3 : x.toInt = a := e3
  subst e2
  subst e3
  exact lv_iadd E.1.1 E.1.2 hd (kk ls _ h2 ⟨⟨_, rfl, q_iadd hr.1 hr.2⟩, h3_2⟩)
theorem j_isub (E : j_E C cc G) {a b : Int} (hd : decode cc pc = .ok (.isub, 1)) (hr : -2147483648 ≤ a - b ∧ a - b ≤ 2147483647) (h : j_ok KT nL C G (pc + 1) lo ((0, a - b) :: sk) S V nc ns) : j_ok KT nL C G pc lo ((0, b) :: (0, a) :: sk) S V nc ns := by
  refine j_pure h (fun ad ls vs H locs h2 h3 kk => ?_)
  obtain ⟨v, ws, rfl, e2, h3_1⟩ := h3.cons
  obtain ⟨w, us, rfl, e3, h3_2⟩ := h3_1.cons
  obtain ⟨y, rfl, e2⟩ := e2
  obtain ⟨x, rfl, e3⟩ := e3
  have e2 : y.toInt = b := e2
  have e3 : x.toInt = a := e3
  subst e2
  subst e3
  exact lv_isub E.1.1 E.1.2 hd (kk ls _ h2 ⟨⟨_, rfl, q_isub hr.1 hr.2⟩, h3_2⟩)
theorem j_imul (E : j_E C cc G) {a b : Int} (hd : decode cc pc = .ok (.imul, 1)) (hr : -2147483648 ≤ a * b ∧ a * b ≤ 2147483647) (h : j_ok KT nL C G (pc + 1) lo ((0, a * b) :: sk) S V nc ns) : j_ok KT nL C G pc lo ((0, b) :: (0, a) :: sk) S V nc ns := by
  refine j_pure h (fun ad ls vs H locs h2 h3 kk => ?_)
  obtain ⟨v, ws, rfl, e2, h3_1⟩ := h3.cons
  obtain ⟨w, us, rfl, e3, h3_2⟩ := h3_1.cons
  obtain ⟨y, rfl, e2⟩ := e2
  obtain ⟨x, rfl, e3⟩ := e3
  have e2 : y.toInt = b := e2
  have e3 : x.toInt = a := e3
  subst e2
  subst e3
  exact lv_imul E.1.1 E.1.2 hd (kk ls _ h2 ⟨⟨_, rfl, q_imul hr.1 hr.2⟩, h3_2⟩)
theorem j_idiv (E : j_E C cc G) {a b : Int} (hd : decode cc pc = .ok (.idiv, 1)) (ha : 0 ≤ a) (hb : 1 ≤ b) (h : j_ok KT nL C G (pc + 1) lo ((0, a / b) :: sk) S V nc ns) : j_ok KT nL C G pc lo ((0, b) :: (0, a) :: sk) S V nc ns := by
  refine j_pure h (fun ad ls vs H locs h2 h3 kk => ?_)
  obtain ⟨v, ws, rfl, e2, h3_1⟩ := h3.cons
  obtain ⟨w, us, rfl, e3, h3_2⟩ := h3_1.cons
  obtain ⟨y, rfl, e2⟩ := e2
  obtain ⟨x, rfl, e3⟩ := e3
  have e2 : y.toInt = b := e2
  have e3 : x.toInt = a := e3
  subst e2
  subst e3
  exact lv_idiv E.1.1 E.1.2 hd (q_ne0 (Or.inl hb)) (kk ls _ h2 ⟨⟨_, rfl, q_idiv ha hb⟩, h3_2⟩)
theorem j_irem (E : j_E C cc G) {a b : Int} (hd : decode cc pc = .ok (.irem, 1)) (ha : 0 ≤ a) (hb : 1 ≤ b) (h : j_ok KT nL C G (pc + 1) lo ((0, a % b) :: sk) S V nc ns) : j_ok KT nL C G pc lo ((0, b) :: (0, a) :: sk) S V nc ns := by
  refine j_pure h (fun ad ls vs H locs h2 h3 kk => ?_)
  obtain ⟨v, ws, rfl, e2, h3_1⟩ := h3.cons
  obtain ⟨w, us, rfl, e3, h3_2⟩ := h3_1.cons
  obtain ⟨y, rfl, e2⟩ := e2
  obtain ⟨x, rfl, e3⟩ := e3
  have e2 : y.toInt = b := e2
  have e3 : x.toInt = a := e3
  subst e2
  subst e3
  exact lv_irem E.1.1 E.1.2 hd (q_ne0 (Or.inl hb)) (kk ls _ h2 ⟨⟨_, rfl, q_irem ha hb⟩, h3_2⟩)
theorem j_iand255 (E : j_E C cc G) {a b : Int} (hd : decode cc pc = .ok (.iand, 1)) (hb : b = 255) (h : j_ok KT nL C G (pc + 1) lo ((0, a % 256) :: sk) S V nc ns) : j_ok KT nL C G pc lo ((0, b) :: (0, a) :: sk) S V nc ns := by
  refine j_pure h (fun ad ls vs H locs h2 h3 kk => ?_)
  obtain ⟨v, ws, rfl, e2, h3_1⟩ := h3.cons
  obtain ⟨w, us, rfl, e3, h3_2⟩ := h3_1.cons
  obtain ⟨y, rfl, e2⟩ := e2
  obtain ⟨x, rfl, e3⟩ := e3
  have e2 : y.toInt = b := e2
  have e3 : x.toInt = a := e3
  subst e2
  subst e3
  exact lv_iand E.1.1 E.1.2 hd (kk ls _ h2 ⟨⟨_, rfl, j_and255 hb⟩, h3_2⟩)
theorem j_iand3 (E : j_E C cc G) {a b : Int} (hd : decode cc pc = .ok (.iand, 1)) (hb : b = 3) (h : j_ok KT nL C G (pc + 1) lo ((0, a % 4) :: sk) S V nc ns) : j_ok KT nL C G pc lo ((0, b) :: (0, a) :: sk) S V nc ns := by
  refine j_pure h (fun ad ls vs H locs h2 h3 kk => ?_)
  obtain ⟨v, ws, rfl, e2, h3_1⟩ := h3.cons
  obtain ⟨w, us, rfl, e3, h3_2⟩ := h3_1.cons
  obtain ⟨y, rfl, e2⟩ := e2
  obtain ⟨x, rfl, e3⟩ := e3
  have e2 : y.toInt = b := e2
  have e3 : x.toInt = a := e3
  subst e2
  subst e3
  exact lv_iand E.1.1 E.1.2 hd (kk ls _ h2 ⟨⟨_, rfl, j_and3 hb⟩, h3_2⟩)
theorem j_iand31 (E : j_E C cc G) {a b : Int} (hd : decode cc pc = .ok (.iand, 1)) (hb : b = 31) (h : j_ok KT nL C G (pc + 1) lo ((0, a % 32) :: sk) S V nc ns) : j_ok KT nL C G pc lo ((0, b) :: (0, a) :: sk) S V nc ns := by
  refine j_pure h (fun ad ls vs H locs h2 h3 kk => ?_)
  obtain ⟨v, ws, rfl, e2, h3_1⟩ := h3.cons
  obtain ⟨w, us, rfl, e3, h3_2⟩ := h3_1.cons
  obtain ⟨y, rfl, e2⟩ := e2
  obtain ⟨x, rfl, e3⟩ := e3
  have e2 : y.toInt = b := e2
  have e3 : x.toInt = a := e3
  subst e2
  subst e3
  exact lv_iand E.1.1 E.1.2 hd (kk ls _ h2 ⟨⟨_, rfl, j_and31 hb⟩, h3_2⟩)
theorem j_ior (E : j_E C cc G) {a b : Int} (hd : decode cc pc = .ok (.ior, 1)) (ha : 0 ≤ a) (hm : a % 256 = 0) (h0 : 0 ≤ b) (h1 : b < 256) (hr : a + b ≤ 2147483647) (h : j_ok KT nL C G (pc + 1) lo ((0, a + b) :: sk) S V nc ns) : j_ok KT nL C G pc lo ((0, b) :: (0, a) :: sk) S V nc ns := by
  refine j_pure h (fun ad ls vs H locs h2 h3 kk => ?_)
  obtain ⟨v, ws, rfl, e2, h3_1⟩ := h3.cons
  obtain ⟨w, us, rfl, e3, h3_2⟩ := h3_1.cons
  obtain ⟨y, rfl, e2⟩ := e2
  obtain ⟨x, rfl, e3⟩ := e3
  have e2 : y.toInt = b := e2
  have e3 : x.toInt = a := e3
  subst e2
  subst e3
  exact lv_ior E.1.1 E.1.2 hd (kk ls _ h2 ⟨⟨_, rfl, j_or ha hm h0 h1 hr⟩, h3_2⟩)
theorem j_ixor (E : j_E C cc G) {a b : Int} (hd : decode cc pc = .ok (.ixor, 1)) (ha : 0 ≤ a) (hb : 0 ≤ b) (h : j_ok KT nL C G (pc + 1) lo ((0, j_xor a b) :: sk) S V nc ns) : j_ok KT nL C G pc lo ((0, b) :: (0, a) :: sk) S V nc ns := by
  refine j_pure h (fun ad ls vs H locs h2 h3 kk => ?_)
  obtain ⟨v, ws, rfl, e2, h3_1⟩ := h3.cons
  obtain ⟨w, us, rfl, e3, h3_2⟩ := h3_1.cons
  obtain ⟨y, rfl, e2⟩ := e2
  obtain ⟨x, rfl, e3⟩ := e3
  have e2 : y.toInt = b := e2
  have e3 : x.toInt = a := e3
  subst e2
  subst e3
  exact lv_ixor E.1.1 E.1.2 hd (kk ls _ h2 ⟨⟨_, rfl, j_xor_ok ha hb⟩, h3_2⟩)
theorem j_ishl8 (E : j_E C cc G) {a b : Int} (hd : decode cc pc = .ok (.ishl, 1)) (hb : b = 8) (ha : 0 ≤ a) (hr : a ≤ 8388607) (h : j_ok KT nL C G (pc + 1) lo ((0, 256 * a) :: sk) S V nc ns) : j_ok KT nL C G pc lo ((0, b) :: (0, a) :: sk) S V nc ns := by
  refine j_pure h (fun ad ls vs H locs h2 h3 kk => ?_)
  obtain ⟨v, ws, rfl, e2, h3_1⟩ := h3.cons
  obtain ⟨w, us, rfl, e3, h3_2⟩ := h3_1.cons
  obtain ⟨y, rfl, e2⟩ := e2
  obtain ⟨x, rfl, e3⟩ := e3
  have e2 : y.toInt = b := e2
  have e3 : x.toInt = a := e3
  subst e2
  subst e3
  exact lv_ishl E.1.1 E.1.2 hd (kk ls _ h2 ⟨⟨_, rfl, j_shl8 hb ha hr⟩, h3_2⟩)
theorem j_ishl1 (E : j_E C cc G) {a b : Int} (hd : decode cc pc = .ok (.ishl, 1)) (ha : a = 1) (h0 : 0 ≤ b) (h1 : b ≤ 30) (h : j_ok KT nL C G (pc + 1) lo ((0, 2 ^ b.toNat) :: sk) S V nc ns) : j_ok KT nL C G pc lo ((0, b) :: (0, a) :: sk) S V nc ns := by
  refine j_pure h (fun ad ls vs H locs h2 h3 kk => ?_)
  obtain ⟨v, ws, rfl, e2, h3_1⟩ := h3.cons
  obtain ⟨w, us, rfl, e3, h3_2⟩ := h3_1.cons
  obtain ⟨y, rfl, e2⟩ := e2
  obtain ⟨x, rfl, e3⟩ := e3
  have e2 : y.toInt = b := e2
  have e3 : x.toInt = a := e3
  subst e2
  subst e3
  exact lv_ishl E.1.1 E.1.2 hd (kk ls _ h2 ⟨⟨_, rfl, j_shl1 ha h0 h1⟩, h3_2⟩)
theorem j_ishr (E : j_E C cc G) {a b : Int} (hd : decode cc pc = .ok (.ishr, 1)) (ha : 0 ≤ a) (h0 : 0 ≤ b) (h1 : b ≤ 31) (h : j_ok KT nL C G (pc + 1) lo ((0, a / 2 ^ b.toNat) :: sk) S V nc ns) : j_ok KT nL C G pc lo ((0, b) :: (0, a) :: sk) S V nc ns := by
  refine j_pure h (fun ad ls vs H locs h2 h3 kk => ?_)
  obtain ⟨v, ws, rfl, e2, h3_1⟩ := h3.cons
  obtain ⟨w, us, rfl, e3, h3_2⟩ := h3_1.cons
  obtain ⟨y, rfl, e2⟩ := e2
  obtain ⟨x, rfl, e3⟩ := e3
  have e2 : y.toInt = b := e2
  have e3 : x.toInt = a := e3
  subst e2
  subst e3
  exact lv_ishr E.1.1 E.1.2 hd (kk ls _ h2 ⟨⟨_, rfl, j_shr ha h0 h1⟩, h3_2⟩)
theorem j_iushr (E : j_E C cc G) {a b : Int} (hd : decode cc pc = .ok (.iushr, 1)) (ha : 0 ≤ a) (h0 : 0 ≤ b) (h1 : b ≤ 31) (h : j_ok KT nL C G (pc + 1) lo ((0, a / 2 ^ b.toNat) :: sk) S V nc ns) : j_ok KT nL C G pc lo ((0, b) :: (0, a) :: sk) S V nc ns := by
  refine j_pure h (fun ad ls vs H locs h2 h3 kk => ?_)
  obtain ⟨v, ws, rfl, e2, h3_1⟩ := h3.cons
  obtain ⟨w, us, rfl, e3, h3_2⟩ := h3_1.cons
  obtain ⟨y, rfl, e2⟩ := e2
  obtain ⟨x, rfl, e3⟩ := e3
  have e2 : y.toInt = b := e2
  have e3 : x.toInt = a := e3
  subst e2
  subst e3
  exact lv_iushr E.1.1 E.1.2 hd rfl (kk ls _ h2 ⟨⟨_, rfl, j_ushr ha h0 h1⟩, h3_2⟩)
theorem j_ladd (E : j_E C cc G) {a b : Int} (hd : decode cc pc = .ok (.ladd, 1)) (hr : -9223372036854775808 ≤ a + b ∧ a + b ≤ 9223372036854775807) (h : j_ok KT nL C G (pc + 1) lo ((1, a + b) :: sk) S V nc ns) : j_ok KT nL C G pc lo ((1, b) :: (1, a) :: sk) S V nc ns := by
  refine j_pure h (fun ad ls vs H locs h2 h3 kk => ?_)
  obtain ⟨v, ws, rfl, e2, h3_1⟩ := h3.cons
  obtain ⟨w, us, rfl, e3, h3_2⟩ := h3_1.cons
  obtain ⟨y, rfl, e2⟩ := e2
  obtain ⟨x, rfl, e3⟩ := e3
  have e2 : y.toInt = b := e2
  have e3 : x.toInt = a := e3
  subst e2
  subst e3
  exact lv_ladd E.1.1 E.1.2 hd (kk ls _ h2 ⟨⟨_, rfl, q_ladd64 hr.1 hr.2⟩, h3_2⟩)
theorem j_lsub (E : j_E C cc G) {a b : Int} (hd : decode cc pc = .ok (.lsub, 1)) (hr : -9223372036854775808 ≤ a - b ∧ a - b ≤ 9223372036854775807) (h : j_ok KT nL C G (pc + 1) lo ((1, a - b) :: sk) S V nc ns) : j_ok KT nL C G pc lo ((1, b) :: (1, a) :: sk) S V nc ns := by
  refine j_pure h (fun ad ls vs H locs h2 h3 kk => ?_)
  obtain ⟨v, ws, rfl, e2, h3_1⟩ := h3.cons
  obtain ⟨w, us, rfl, e3, h3_2⟩ := h3_1.cons
  obtain ⟨y, rfl, e2⟩ := e2
  obtain ⟨x, rfl, e3⟩ := e3
  have e2 : y.toInt = b := e2
  have e3 : x.toInt = a := e3
  subst e2
  subst e3
  exact lv_lsub E.1.1 E.1.2 hd (kk ls _ h2 ⟨⟨_, rfl, j_lsub64 hr.1 hr.2⟩, h3_2⟩)
theorem j_lmul (E : j_E C cc G) {a b : Int} (hd : decode cc pc = .ok (.lmul, 1)) (hr : -9223372036854775808 ≤ a * b ∧ a * b ≤ 9223372036854775807) (h : j_ok KT nL C G (pc + 1) lo ((1, a * b) :: sk) S V nc ns) : j_ok KT nL C G pc lo ((1, b) :: (1, a) :: sk) S V nc ns := by
  refine j_pure h (fun ad ls vs H locs h2 h3 kk => ?_)
  obtain ⟨v, ws, rfl, e2, h3_1⟩ := h3.cons
  obtain ⟨w, us, rfl, e3, h3_2⟩ := h3_1.cons
  obtain ⟨y, rfl, e2⟩ := e2
  obtain ⟨x, rfl, e3⟩ := e3
  have e2 : y.toInt = b := e2
  have e3 : x.toInt = a := e3
  subst e2
  subst e3
  exact lv_lmul E.1.1 E.1.2 hd (kk ls _ h2 ⟨⟨_, rfl, j_lmul64 hr.1 hr.2⟩, h3_2⟩)
theorem j_ldiv (E : j_E C cc G) {a b : Int} (hd : decode cc pc = .ok (.ldiv, 1)) (ha : 0 ≤ a) (hb : 1 ≤ b) (h : j_ok KT nL C G (pc + 1) lo ((1, a / b) :: sk) S V nc ns) : j_ok KT nL C G pc lo ((1, b) :: (1, a) :: sk) S V nc ns := by
  refine j_pure h (fun ad ls vs H locs h2 h3 kk => ?_)
  obtain ⟨v, ws, rfl, e2, h3_1⟩ := h3.cons
  obtain ⟨w, us, rfl, e3, h3_2⟩ := h3_1.cons
  obtain ⟨y, rfl, e2⟩ := e2
  obtain ⟨x, rfl, e3⟩ := e3
  have e2 : y.toInt = b := e2
  have e3 : x.toInt = a := e3
  subst e2
  subst e3
  exact lv_ldiv E.1.1 E.1.2 hd (j_ne64 hb) (kk ls _ h2 ⟨⟨_, rfl, j_ldiv64 ha hb⟩, h3_2⟩)
theorem j_lrem (E : j_E C cc G) {a b : Int} (hd : decode cc pc = .ok (.lrem, 1)) (ha : 0 ≤ a) (hb : 1 ≤ b) (h : j_ok KT nL C G (pc + 1) lo ((1, a % b) :: sk) S V nc ns) : j_ok KT nL C G pc lo ((1, b) :: (1, a) :: sk) S V nc ns := by
  refine j_pure h (fun ad ls vs H locs h2 h3 kk => ?_)
  obtain ⟨v, ws, rfl, e2, h3_1⟩ := h3.cons
  obtain ⟨w, us, rfl, e3, h3_2⟩ := h3_1.cons
  obtain ⟨y, rfl, e2⟩ := e2
  obtain ⟨x, rfl, e3⟩ := e3
  have e2 : y.toInt = b := e2
  have e3 : x.toInt = a := e3
  subst e2
  subst e3
  exact lv_lrem E.1.1 E.1.2 hd (j_ne64 hb) (kk ls _ h2 ⟨⟨_, rfl, j_lrem64 ha hb⟩, h3_2⟩)
theorem j_land8 (E : j_E C cc G) {a b : Int} (hd : decode cc pc = .ok (.land, 1)) (hb : b = 255) (h : j_ok KT nL C G (pc + 1) lo ((1, a % 256) :: sk) S V nc ns) : j_ok KT nL C G pc lo ((1, b) :: (1, a) :: sk) S V nc ns := by
  refine j_pure h (fun ad ls vs H locs h2 h3 kk => ?_)
  obtain ⟨v, ws, rfl, e2, h3_1⟩ := h3.cons
  obtain ⟨w, us, rfl, e3, h3_2⟩ := h3_1.cons
  obtain ⟨y, rfl, e2⟩ := e2
  obtain ⟨x, rfl, e3⟩ := e3
  have e2 : y.toInt = b := e2
  have e3 : x.toInt = a := e3
  subst e2
  subst e3
  exact lv_land E.1.1 E.1.2 hd (kk ls _ h2 ⟨⟨_, rfl, j_land64_8 hb⟩, h3_2⟩)
theorem j_land32 (E : j_E C cc G) {a b : Int} (hd : decode cc pc = .ok (.land, 1)) (hb : b = 4294967295) (h : j_ok KT nL C G (pc + 1) lo ((1, a % 4294967296) :: sk) S V nc ns) : j_ok KT nL C G pc lo ((1, b) :: (1, a) :: sk) S V nc ns := by
  refine j_pure h (fun ad ls vs H locs h2 h3 kk => ?_)
  obtain ⟨v, ws, rfl, e2, h3_1⟩ := h3.cons
  obtain ⟨w, us, rfl, e3, h3_2⟩ := h3_1.cons
  obtain ⟨y, rfl, e2⟩ := e2
  obtain ⟨x, rfl, e3⟩ := e3
  have e2 : y.toInt = b := e2
  have e3 : x.toInt = a := e3
  subst e2
  subst e3
  exact lv_land E.1.1 E.1.2 hd (kk ls _ h2 ⟨⟨_, rfl, j_land64_32 hb⟩, h3_2⟩)
theorem j_lor (E : j_E C cc G) {a b : Int} (hd : decode cc pc = .ok (.lor, 1)) (hm : a % 4294967296 = 0) (h0 : 0 ≤ b) (h1 : b < 4294967296) (h : j_ok KT nL C G (pc + 1) lo ((1, a + b) :: sk) S V nc ns) : j_ok KT nL C G pc lo ((1, b) :: (1, a) :: sk) S V nc ns := by
  refine j_pure h (fun ad ls vs H locs h2 h3 kk => ?_)
  obtain ⟨v, ws, rfl, e2, h3_1⟩ := h3.cons
  obtain ⟨w, us, rfl, e3, h3_2⟩ := h3_1.cons
  obtain ⟨y, rfl, e2⟩ := e2
  obtain ⟨x, rfl, e3⟩ := e3
  have e2 : y.toInt = b := e2
  have e3 : x.toInt = a := e3
  subst e2
  subst e3
  exact lv_lor E.1.1 E.1.2 hd (kk ls _ h2 ⟨⟨_, rfl, j_lor_ok hm h0 h1⟩, h3_2⟩)
theorem j_lshl (E : j_E C cc G) {a b : Int} (hd : decode cc pc = .ok (.lshl, 1)) (hb : b = 32) (h0 : -2147483648 ≤ a) (h1 : a ≤ 2147483647) (h : j_ok KT nL C G (pc + 1) lo ((1, 4294967296 * a) :: sk) S V nc ns) : j_ok KT nL C G pc lo ((0, b) :: (1, a) :: sk) S V nc ns := by
  refine j_pure h (fun ad ls vs H locs h2 h3 kk => ?_)
  obtain ⟨v, ws, rfl, e2, h3_1⟩ := h3.cons
  obtain ⟨w, us, rfl, e3, h3_2⟩ := h3_1.cons
  obtain ⟨y, rfl, e2⟩ := e2
  obtain ⟨x, rfl, e3⟩ := e3
  have e2 : y.toInt = b := e2
  have e3 : x.toInt = a := e3
  subst e2
  subst e3
  exact lv_lshl E.1.1 E.1.2 hd rfl (kk ls _ h2 ⟨⟨_, rfl, j_lshl_ok hb h0 h1⟩, h3_2⟩)
theorem j_lshr (E : j_E C cc G) {a b : Int} (hd : decode cc pc = .ok (.lshr, 1)) (h0 : 0 ≤ b) (h1 : b ≤ 63) (h : j_ok KT nL C G (pc + 1) lo ((1, a / 2 ^ b.toNat) :: sk) S V nc ns) : j_ok KT nL C G pc lo ((0, b) :: (1, a) :: sk) S V nc ns := by
  refine j_pure h (fun ad ls vs H locs h2 h3 kk => ?_)
  obtain ⟨v, ws, rfl, e2, h3_1⟩ := h3.cons
  obtain ⟨w, us, rfl, e3, h3_2⟩ := h3_1.cons
  obtain ⟨y, rfl, e2⟩ := e2
  obtain ⟨x, rfl, e3⟩ := e3
  have e2 : y.toInt = b := e2
  have e3 : x.toInt = a := e3
  subst e2
  subst e3
  exact lv_lshr E.1.1 E.1.2 hd rfl (kk ls _ h2 ⟨⟨_, rfl, j_lshr_ok h0 h1⟩, h3_2⟩)
theorem j_lushr (E : j_E C cc G) {a b : Int} (hd : decode cc pc = .ok (.lushr, 1)) (h0 : 0 ≤ b) (h1 : b ≤ 63) (h : j_ok KT nL C G (pc + 1) lo ((1, j_us a b.toNat) :: sk) S V nc ns) : j_ok KT nL C G pc lo ((0, b) :: (1, a) :: sk) S V nc ns := by
  refine j_pure h (fun ad ls vs H locs h2 h3 kk => ?_)
  obtain ⟨v, ws, rfl, e2, h3_1⟩ := h3.cons
  obtain ⟨w, us, rfl, e3, h3_2⟩ := h3_1.cons
  obtain ⟨y, rfl, e2⟩ := e2
  obtain ⟨x, rfl, e3⟩ := e3
  have e2 : y.toInt = b := e2
  have e3 : x.toInt = a := e3
  subst e2
  subst e3
  exact lv_lushr E.1.1 E.1.2 hd rfl (kk ls _ h2 ⟨⟨_, rfl, j_lushr_ok h0 h1⟩, h3_2⟩)
theorem j_lcmp (E : j_E C cc G) {a b : Int} (hd : decode cc pc = .ok (.lcmp, 1)) (h : j_ok KT nL C G (pc + 1) lo ((0, j_cmp a b) :: sk) S V nc ns) : j_ok KT nL C G pc lo ((1, b) :: (1, a) :: sk) S V nc ns := by
  refine j_pure h (fun ad ls vs H locs h2 h3 kk => ?_)
  obtain ⟨v, ws, rfl, e2, h3_1⟩ := h3.cons
  obtain ⟨w, us, rfl, e3, h3_2⟩ := h3_1.cons
  obtain ⟨y, rfl, e2⟩ := e2
  obtain ⟨x, rfl, e3⟩ := e3
  have e2 : y.toInt = b := e2
  have e3 : x.toInt = a := e3
  subst e2
  subst e3
  exact W.lcmp E.1.1 E.1.2 hd (kk ls _ h2 ⟨⟨_, rfl, j_cmp_ok x y⟩, h3_2⟩)
theorem j_ineg (E : j_E C cc G) {a : Int} (hd : decode cc pc = .ok (.ineg, 1)) (ha : -2147483647 ≤ a) (h : j_ok KT nL C G (pc + 1) lo ((0, -a) :: sk) S V nc ns) : j_ok KT nL C G pc lo ((0, a) :: sk) S V nc ns := by
  refine j_pure h (fun ad ls vs H locs h2 h3 kk => ?_)
  obtain ⟨v, ws, rfl, e2, h3_1⟩ := h3.cons
  obtain ⟨x, rfl, e2⟩ := e2
  have e2 : x.toInt = a := e2
  subst e2
  exact lv_ineg E.1.1 E.1.2 hd (kk ls _ h2 ⟨⟨_, rfl, q_ineg ha⟩, h3_1⟩)
theorem j_i2l (E : j_E C cc G) {a : Int} (hd : decode cc pc = .ok (.i2l, 1)) (h : j_ok KT nL C G (pc + 1) lo ((1, a) :: sk) S V nc ns) : j_ok KT nL C G pc lo ((0, a) :: sk) S V nc ns := by
  refine j_pure h (fun ad ls vs H locs h2 h3 kk => ?_)
  obtain ⟨v, ws, rfl, e2, h3_1⟩ := h3.cons
  obtain ⟨x, rfl, e2⟩ := e2
  have e2 : x.toInt = a := e2
  subst e2
  exact lv_i2l E.1.1 E.1.2 hd rfl (kk ls _ h2 ⟨⟨_, rfl, Int32.toInt_toInt64 x⟩, h3_1⟩)
theorem j_l2i (E : j_E C cc G) {a : Int} (hd : decode cc pc = .ok (.l2i, 1)) (h : j_ok KT nL C G (pc + 1) lo ((0, j_w32 a) :: sk) S V nc ns) : j_ok KT nL C G pc lo ((1, a) :: sk) S V nc ns := by
  refine j_pure h (fun ad ls vs H locs h2 h3 kk => ?_)
  obtain ⟨v, ws, rfl, e2, h3_1⟩ := h3.cons
  obtain ⟨x, rfl, e2⟩ := e2
  have e2 : x.toInt = a := e2
  subst e2
  exact lv_l2i E.1.1 E.1.2 hd rfl (kk ls _ h2 ⟨⟨_, rfl, j_l2i_ok x⟩, h3_1⟩)
theorem j_dup (E : j_E C cc G) {x : jV} (hd : decode cc pc = .ok (.dup, 1)) (hx : j_cat x = 1) (h : j_ok KT nL C G (pc + 1) lo (x :: x :: sk) S V nc ns) : j_ok KT nL C G pc lo (x :: sk) S V nc ns := by
  refine j_pure h (fun ad ls vs H locs h2 h3 kk => ?_)
  obtain ⟨v, ws, rfl, e2, h3_1⟩ := h3.cons
  exact lv_dup E.1.1 E.1.2 hd (e2.cat.trans hx) (kk ls _ h2 ⟨e2, e2, h3_1⟩)
theorem j_pop (E : j_E C cc G) {x : jV} (hd : decode cc pc = .ok (.pop, 1)) (hx : j_cat x = 1) (h : j_ok KT nL C G (pc + 1) lo sk S V nc ns) : j_ok KT nL C G pc lo (x :: sk) S V nc ns := by
  refine j_pure h (fun ad ls vs H locs h2 h3 kk => ?_)
  obtain ⟨v, ws, rfl, e2, h3_1⟩ := h3.cons
  exact lv_pop E.1.1 E.1.2 hd (e2.cat.trans hx) (kk ls _ h2 h3_1)
theorem j_dup2 (E : j_E C cc G) {x y : jV} (hd : decode cc pc = .ok (.dup2, 1)) (hx : j_cat x = 1) (hy : j_cat y = 1) (h : j_ok KT nL C G (pc + 1) lo (x :: y :: x :: y :: sk) S V nc ns) : j_ok KT nL C G pc lo (x :: y :: sk) S V nc ns := by
  refine j_pure h (fun ad ls vs H locs h2 h3 kk => ?_)
  obtain ⟨v, ws, rfl, e2, h3_1⟩ := h3.cons
  obtain ⟨w, us, rfl, e3, h3_2⟩ := h3_1.cons
  exact lv_dup2_11 E.1.1 E.1.2 hd (e2.cat.trans hx) (e3.cat.trans hy) (kk ls _ h2 ⟨e2, e3, e2, e3, h3_2⟩)
theorem j_pop2 (E : j_E C cc G) {x : jV} (hd : decode cc pc = .ok (.pop2, 1)) (hx : j_cat x = 2) (h : j_ok KT nL C G (pc + 1) lo sk S V nc ns) : j_ok KT nL C G pc lo (x :: sk) S V nc ns := by
  refine j_pure h (fun ad ls vs H locs h2 h3 kk => ?_)
  obtain ⟨v, ws, rfl, e2, h3_1⟩ := h3.cons
  exact lv_pop2_2 E.1.1 E.1.2 hd (e2.cat.trans hx) (kk ls _ h2 h3_1)
theorem j_goto (E : j_E C cc G) {off : Int} {t : Nat} (hd : decode cc pc = .ok (.goto off, 3)) (ht : (pc : Int) + off = (t : Int)) (h : j_ok KT nL C G t lo sk S V nc ns) : j_ok KT nL C G pc lo sk S V nc ns :=
  j_pure h (fun ad ls vs H locs h2 h3 kk => lv_goto E.1.1 E.1.2 hd ht (kk ls vs h2 h3))
theorem j_if_eq (E : j_E C cc G) {a : Int} {off : Int} {t : Nat} (hd : decode cc pc = .ok (.ifCond .eq off, 3)) (ht : (pc : Int) + off = (t : Int)) (h : a = 0 → j_ok KT nL C G t lo sk S V nc ns) (h' : ¬ a = 0 → j_ok KT nL C G (pc + 3) lo sk S V nc ns) : j_ok KT nL C G pc lo ((0, a) :: sk) S V nc ns := by
  intro ad ls vs H locs h1 h2 h3 h4
  obtain ⟨v, ws, rfl, ⟨x, rfl, e2⟩, h3_1⟩ := h3.cons
  have e2 : x.toInt = a := e2
  have e0 : (0 : Int32).toInt = 0 := rfl
  exact lv_if_eq E.1.1 E.1.2 hd ht (fun hP => h (by (try rw [← Int32.toInt_inj] at hP); (try rw [Int32.lt_iff_toInt_lt] at hP); (try rw [Int32.le_iff_toInt_le] at hP); (try simp only [e0] at hP); omega) ad ls ws H locs h1 h2 h3_1 h4) (fun hP => h' (by (try rw [← Int32.toInt_inj] at hP); (try rw [Int32.lt_iff_toInt_lt] at hP); (try rw [Int32.le_iff_toInt_le] at hP); (try simp only [e0] at hP); omega) ad ls ws H locs h1 h2 h3_1 h4)
theorem j_icmp_eq (E : j_E C cc G) {a b : Int} {off : Int} {t : Nat} (hd : decode cc pc = .ok (.if_icmp .eq off, 3)) (ht : (pc : Int) + off = (t : Int)) (h : a = b → j_ok KT nL C G t lo sk S V nc ns) (h' : ¬ a = b → j_ok KT nL C G (pc + 3) lo sk S V nc ns) : j_ok KT nL C G pc lo ((0, b) :: (0, a) :: sk) S V nc ns := by
  intro ad ls vs H locs h1 h2 h3 h4
  obtain ⟨v, ws, rfl, ⟨y, rfl, e1⟩, h3_1⟩ := h3.cons
  obtain ⟨w, us, rfl, ⟨x, rfl, e2⟩, h3_2⟩ := h3_1.cons
  have e1 : y.toInt = b := e1
  have e2 : x.toInt = a := e2
  exact lv_icmp_eq E.1.1 E.1.2 hd ht (fun hP => h (by (try rw [← Int32.toInt_inj] at hP); (try rw [Int32.lt_iff_toInt_lt] at hP); (try rw [Int32.le_iff_toInt_le] at hP); omega) ad ls us H locs h1 h2 h3_2 h4) (fun hP => h' (by (try rw [← Int32.toInt_inj] at hP); (try rw [Int32.lt_iff_toInt_lt] at hP); (try rw [Int32.le_iff_toInt_le] at hP); omega) ad ls us H locs h1 h2 h3_2 h4)
theorem j_if_ne (E : j_E C cc G) {a : Int} {off : Int} {t : Nat} (hd : decode cc pc = .ok (.ifCond .ne off, 3)) (ht : (pc : Int) + off = (t : Int)) (h : ¬ a = 0 → j_ok KT nL C G t lo sk S V nc ns) (h' : a = 0 → j_ok KT nL C G (pc + 3) lo sk S V nc ns) : j_ok KT nL C G pc lo ((0, a) :: sk) S V nc ns := by
  intro ad ls vs H locs h1 h2 h3 h4
  obtain ⟨v, ws, rfl, ⟨x, rfl, e2⟩, h3_1⟩ := h3.cons
  have e2 : x.toInt = a := e2
  have e0 : (0 : Int32).toInt = 0 := rfl
  exact lv_if_ne E.1.1 E.1.2 hd ht (fun hP => h (by (try rw [← Int32.toInt_inj] at hP); (try rw [Int32.lt_iff_toInt_lt] at hP); (try rw [Int32.le_iff_toInt_le] at hP); (try simp only [e0] at hP); omega) ad ls ws H locs h1 h2 h3_1 h4) (fun hP => h' (by (try rw [← Int32.toInt_inj] at hP); (try rw [Int32.lt_iff_toInt_lt] at hP); (try rw [Int32.le_iff_toInt_le] at hP); (try simp only [e0] at hP); omega) ad ls ws H locs h1 h2 h3_1 h4)
theorem j_icmp_ne (E : j_E C cc G) {a b : Int} {off : Int} {t : Nat} (hd : decode cc pc = .ok (.if_icmp .ne off, 3)) (ht : (pc : Int) + off = (t : Int)) (h : ¬ a = b → j_ok KT nL C G t lo sk S V nc ns) (h' : a = b → j_ok KT nL C G (pc + 3) lo sk S V nc ns) : j_ok KT nL C G pc lo ((0, b) :: (0, a) :: sk) S V nc ns := by
  intro ad ls vs H locs h1 h2 h3 h4
  obtain ⟨v, ws, rfl, ⟨y, rfl, e1⟩, h3_1⟩ := h3.cons
  obtain ⟨w, us, rfl, ⟨x, rfl, e2⟩, h3_2⟩ := h3_1.cons
  have e1 : y.toInt = b := e1
  have e2 : x.toInt = a := e2
  exact lv_icmp_ne E.1.1 E.1.2 hd ht (fun hP => h (by (try rw [← Int32.toInt_inj] at hP); (try rw [Int32.lt_iff_toInt_lt] at hP); (try rw [Int32.le_iff_toInt_le] at hP); omega) ad ls us H locs h1 h2 h3_2 h4) (fun hP => h' (by (try rw [← Int32.toInt_inj] at hP); (try rw [Int32.lt_iff_toInt_lt] at hP); (try rw [Int32.le_iff_toInt_le] at hP); omega) ad ls us H locs h1 h2 h3_2 h4)
theorem j_if_lt (E : j_E C cc G) {a : Int} {off : Int} {t : Nat} (hd : decode cc pc = .ok (.ifCond .lt off, 3)) (ht : (pc : Int) + off = (t : Int)) (h : a < 0 → j_ok KT nL C G t lo sk S V nc ns) (h' : 0 ≤ a → j_ok KT nL C G (pc + 3) lo sk S V nc ns) : j_ok KT nL C G pc lo ((0, a) :: sk) S V nc ns := by
  intro ad ls vs H locs h1 h2 h3 h4
  obtain ⟨v, ws, rfl, ⟨x, rfl, e2⟩, h3_1⟩ := h3.cons
  have e2 : x.toInt = a := e2
  have e0 : (0 : Int32).toInt = 0 := rfl
  exact lv_if_lt E.1.1 E.1.2 hd ht (fun hP => h (by (try rw [← Int32.toInt_inj] at hP); (try rw [Int32.lt_iff_toInt_lt] at hP); (try rw [Int32.le_iff_toInt_le] at hP); (try simp only [e0] at hP); omega) ad ls ws H locs h1 h2 h3_1 h4) (fun hP => h' (by (try rw [← Int32.toInt_inj] at hP); (try rw [Int32.lt_iff_toInt_lt] at hP); (try rw [Int32.le_iff_toInt_le] at hP); (try simp only [e0] at hP); omega) ad ls ws H locs h1 h2 h3_1 h4)
theorem j_icmp_lt (E : j_E C cc G) {a b : Int} {off : Int} {t : Nat} (hd : decode cc pc = .ok (.if_icmp .lt off, 3)) (ht : (pc : Int) + off = (t : Int)) (h : a < b → j_ok KT nL C G t lo sk S V nc ns) (h' : b ≤ a → j_ok KT nL C G (pc + 3) lo sk S V nc ns) : j_ok KT nL C G pc lo ((0, b) :: (0, a) :: sk) S V nc ns := by
  intro ad ls vs H locs h1 h2 h3 h4
  obtain ⟨v, ws, rfl, ⟨y, rfl, e1⟩, h3_1⟩ := h3.cons
  obtain ⟨w, us, rfl, ⟨x, rfl, e2⟩, h3_2⟩ := h3_1.cons
  have e1 : y.toInt = b := e1
  have e2 : x.toInt = a := e2
  exact lv_icmp_lt E.1.1 E.1.2 hd ht (fun hP => h (by (try rw [← Int32.toInt_inj] at hP); (try rw [Int32.lt_iff_toInt_lt] at hP); (try rw [Int32.le_iff_toInt_le] at hP); omega) ad ls us H locs h1 h2 h3_2 h4) (fun hP => h' (by (try rw [← Int32.toInt_inj] at hP); (try rw [Int32.lt_iff_toInt_lt] at hP); (try rw [Int32.le_iff_toInt_le] at hP); omega) ad ls us H locs h1 h2 h3_2 h4)
theorem j_if_ge (E : j_E C cc G) {a : Int} {off : Int} {t : Nat} (hd : decode cc pc = .ok (.ifCond .ge off, 3)) (ht : (pc : Int) + off = (t : Int)) (h : 0 ≤ a → j_ok KT nL C G t lo sk S V nc ns) (h' : a < 0 → j_ok KT nL C G (pc + 3) lo sk S V nc ns) : j_ok KT nL C G pc lo ((0, a) :: sk) S V nc ns := by
  intro ad ls vs H locs h1 h2 h3 h4
  obtain ⟨v, ws, rfl, ⟨x, rfl, e2⟩, h3_1⟩ := h3.cons
  have e2 : x.toInt = a := e2
  have e0 : (0 : Int32).toInt = 0 := rfl
  exact lv_if_ge E.1.1 E.1.2 hd ht (fun hP => h (by (try rw [← Int32.toInt_inj] at hP); (try rw [Int32.lt_iff_toInt_lt] at hP); (try rw [Int32.le_iff_toInt_le] at hP); (try simp only [e0] at hP); omega) ad ls ws H locs h1 h2 h3_1 h4) (fun hP => h' (by (try rw [← Int32.toInt_inj] at hP); (try rw [Int32.lt_iff_toInt_lt] at hP); (try rw [Int32.le_iff_toInt_le] at hP); (try simp only [e0] at hP); omega) ad ls ws H locs h1 h2 h3_1 h4)
theorem j_icmp_ge (E : j_E C cc G) {a b : Int} {off : Int} {t : Nat} (hd : decode cc pc = .ok (.if_icmp .ge off, 3)) (ht : (pc : Int) + off = (t : Int)) (h : b ≤ a → j_ok KT nL C G t lo sk S V nc ns) (h' : a < b → j_ok KT nL C G (pc + 3) lo sk S V nc ns) : j_ok KT nL C G pc lo ((0, b) :: (0, a) :: sk) S V nc ns := by
  intro ad ls vs H locs h1 h2 h3 h4
  obtain ⟨v, ws, rfl, ⟨y, rfl, e1⟩, h3_1⟩ := h3.cons
  obtain ⟨w, us, rfl, ⟨x, rfl, e2⟩, h3_2⟩ := h3_1.cons
  have e1 : y.toInt = b := e1
  have e2 : x.toInt = a := e2
  exact lv_icmp_ge E.1.1 E.1.2 hd ht (fun hP => h (by (try rw [← Int32.toInt_inj] at hP); (try rw [Int32.lt_iff_toInt_lt] at hP); (try rw [Int32.le_iff_toInt_le] at hP); omega) ad ls us H locs h1 h2 h3_2 h4) (fun hP => h' (by (try rw [← Int32.toInt_inj] at hP); (try rw [Int32.lt_iff_toInt_lt] at hP); (try rw [Int32.le_iff_toInt_le] at hP); omega) ad ls us H locs h1 h2 h3_2 h4)
theorem j_if_gt (E : j_E C cc G) {a : Int} {off : Int} {t : Nat} (hd : decode cc pc = .ok (.ifCond .gt off, 3)) (ht : (pc : Int) + off = (t : Int)) (h : 0 < a → j_ok KT nL C G t lo sk S V nc ns) (h' : a ≤ 0 → j_ok KT nL C G (pc + 3) lo sk S V nc ns) : j_ok KT nL C G pc lo ((0, a) :: sk) S V nc ns := by
  intro ad ls vs H locs h1 h2 h3 h4
  obtain ⟨v, ws, rfl, ⟨x, rfl, e2⟩, h3_1⟩ := h3.cons
  have e2 : x.toInt = a := e2
  have e0 : (0 : Int32).toInt = 0 := rfl
  exact lv_if_gt E.1.1 E.1.2 hd ht (fun hP => h (by (try rw [← Int32.toInt_inj] at hP); (try rw [Int32.lt_iff_toInt_lt] at hP); (try rw [Int32.le_iff_toInt_le] at hP); (try simp only [e0] at hP); omega) ad ls ws H locs h1 h2 h3_1 h4) (fun hP => h' (by (try rw [← Int32.toInt_inj] at hP); (try rw [Int32.lt_iff_toInt_lt] at hP); (try rw [Int32.le_iff_toInt_le] at hP); (try simp only [e0] at hP); omega) ad ls ws H locs h1 h2 h3_1 h4)
theorem j_icmp_gt (E : j_E C cc G) {a b : Int} {off : Int} {t : Nat} (hd : decode cc pc = .ok (.if_icmp .gt off, 3)) (ht : (pc : Int) + off = (t : Int)) (h : b < a → j_ok KT nL C G t lo sk S V nc ns) (h' : a ≤ b → j_ok KT nL C G (pc + 3) lo sk S V nc ns) : j_ok KT nL C G pc lo ((0, b) :: (0, a) :: sk) S V nc ns := by
  intro ad ls vs H locs h1 h2 h3 h4
  obtain ⟨v, ws, rfl, ⟨y, rfl, e1⟩, h3_1⟩ := h3.cons
  obtain ⟨w, us, rfl, ⟨x, rfl, e2⟩, h3_2⟩ := h3_1.cons
  have e1 : y.toInt = b := e1
  have e2 : x.toInt = a := e2
  exact lv_icmp_gt E.1.1 E.1.2 hd ht (fun hP => h (by (try rw [← Int32.toInt_inj] at hP); (try rw [Int32.lt_iff_toInt_lt] at hP); (try rw [Int32.le_iff_toInt_le] at hP); omega) ad ls us H locs h1 h2 h3_2 h4) (fun hP => h' (by (try rw [← Int32.toInt_inj] at hP); (try rw [Int32.lt_iff_toInt_lt] at hP); (try rw [Int32.le_iff_toInt_le] at hP); omega) ad ls us H locs h1 h2 h3_2 h4)
theorem j_if_le (E : j_E C cc G) {a : Int} {off : Int} {t : Nat} (hd : decode cc pc = .ok (.ifCond .le off, 3)) (ht : (pc : Int) + off = (t : Int)) (h : a ≤ 0 → j_ok KT nL C G t lo sk S V nc ns) (h' : 0 < a → j_ok KT nL C G (pc + 3) lo sk S V nc ns) : j_ok KT nL C G pc lo ((0, a) :: sk) S V nc ns := by
  intro ad ls vs H locs h1 h2 h3 h4
  obtain ⟨v, ws, rfl, ⟨x, rfl, e2⟩, h3_1⟩ := h3.cons
  have e2 : x.toInt = a := e2
  have e0 : (0 : Int32).toInt = 0 := rfl
  exact lv_if_le E.1.1 E.1.2 hd ht (fun hP => h (by (try rw [← Int32.toInt_inj] at hP); (try rw [Int32.lt_iff_toInt_lt] at hP); (try rw [Int32.le_iff_toInt_le] at hP); (try simp only [e0] at hP); omega) ad ls ws H locs h1 h2 h3_1 h4) (fun hP => h' (by (try rw [← Int32.toInt_inj] at hP); (try rw [Int32.lt_iff_toInt_lt] at hP); (try rw [Int32.le_iff_toInt_le] at hP); (try simp only [e0] at hP); omega) ad ls ws H locs h1 h2 h3_1 h4)
theorem j_icmp_le (E : j_E C cc G) {a b : Int} {off : Int} {t : Nat} (hd : decode cc pc = .ok (.if_icmp .le off, 3)) (ht : (pc : Int) + off = (t : Int)) (h : a ≤ b → j_ok KT nL C G t lo sk S V nc ns) (h' : b < a → j_ok KT nL C G (pc + 3) lo sk S V nc ns) : j_ok KT nL C G pc lo ((0, b) :: (0, a) :: sk) S V nc ns := by
  intro ad ls vs H locs h1 h2 h3 h4
  obtain ⟨v, ws, rfl, ⟨y, rfl, e1⟩, h3_1⟩ := h3.cons
  obtain ⟨w, us, rfl, ⟨x, rfl, e2⟩, h3_2⟩ := h3_1.cons
  have e1 : y.toInt = b := e1
  have e2 : x.toInt = a := e2
  exact lv_icmp_le E.1.1 E.1.2 hd ht (fun hP => h (by (try rw [← Int32.toInt_inj] at hP); (try rw [Int32.lt_iff_toInt_lt] at hP); (try rw [Int32.le_iff_toInt_le] at hP); omega) ad ls us H locs h1 h2 h3_2 h4) (fun hP => h' (by (try rw [← Int32.toInt_inj] at hP); (try rw [Int32.lt_iff_toInt_lt] at hP); (try rw [Int32.le_iff_toInt_le] at hP); omega) ad ls us H locs h1 h2 h3_2 h4)
theorem j_ifnull (E : j_E C cc G) {n off : Int} {t : Nat} (hd : decode cc pc = .ok (.ifnull off, 3)) (ht : (pc : Int) + off = (t : Int)) (h : n = -1 → j_ok KT nL C G t lo sk S V nc ns) (h' : 0 ≤ n → S.1 n ≠ 0 → j_ok KT nL C G (pc + 3) lo sk S V nc ns) : j_ok KT nL C G pc lo ((2, n) :: sk) S V nc ns := by
  intro ad ls vs H locs h1 h2 h3 h4
  obtain ⟨v, ws, rfl, e2, h3_1⟩ := h3.cons
  rcases e2 with ⟨rfl, e2⟩ | ⟨rfl, e2, e3⟩
  · exact lv_ifnullN E.1.1 E.1.2 hd ht (h e2 ad ls ws H locs h1 h2 h3_1 h4)
  · exact lv_ifnull E.1.1 E.1.2 hd (h' e2 e3 ad ls ws H locs h1 h2 h3_1 h4)
theorem j_ifnonnull (E : j_E C cc G) {n off : Int} {t : Nat} (hd : decode cc pc = .ok (.ifnonnull off, 3)) (ht : (pc : Int) + off = (t : Int)) (h : 0 ≤ n → S.1 n ≠ 0 → j_ok KT nL C G t lo sk S V nc ns) (h' : n = -1 → j_ok KT nL C G (pc + 3) lo sk S V nc ns) : j_ok KT nL C G pc lo ((2, n) :: sk) S V nc ns := by
  intro ad ls vs H locs h1 h2 h3 h4
  obtain ⟨v, ws, rfl, e2, h3_1⟩ := h3.cons
  rcases e2 with ⟨rfl, e2⟩ | ⟨rfl, e2, e3⟩
  · exact lv_ifnonnullN E.1.1 E.1.2 hd (h' e2 ad ls ws H locs h1 h2 h3_1 h4)
  · exact lv_ifnonnull E.1.1 E.1.2 hd ht (h e2 e3 ad ls ws H locs h1 h2 h3_1 h4)
theorem j_tableOut (E : j_E C cc G) {n dflt lw hg : Int} {offs : Array Int} {len t : Nat} (hd : decode cc pc = .ok (.tableswitch dflt lw hg offs, len)) (ho : n < lw ∨ hg < n) (ht : (pc : Int) + dflt = (t : Int)) (h : j_ok KT nL C G t lo sk S V nc ns) : j_ok KT nL C G pc lo ((0, n) :: sk) S V nc ns := by
  refine j_pure h (fun ad ls vs H locs h2 h3 kk => ?_)
  obtain ⟨v, ws, rfl, ⟨x, rfl, e2⟩, h3_1⟩ := h3.cons
  have e2 : x.toInt = n := e2
  subst e2
  exact lv_tableOut E.1.1 E.1.2 hd ho ht (kk ls ws h2 h3_1)
theorem j_tableIn (E : j_E C cc G) {n dflt lw hg off : Int} {offs : Array Int} {len t : Nat} (hd : decode cc pc = .ok (.tableswitch dflt lw hg offs, len)) (h1 : lw ≤ n) (h1' : n ≤ hg) (ho : offs[(n - lw).toNat]? = some off) (ht : (pc : Int) + off = (t : Int)) (h : j_ok KT nL C G t lo sk S V nc ns) : j_ok KT nL C G pc lo ((0, n) :: sk) S V nc ns := by
  refine j_pure h (fun ad ls vs H locs h2 h3 kk => ?_)
  obtain ⟨v, ws, rfl, ⟨x, rfl, e2⟩, h3_1⟩ := h3.cons
  have e2 : x.toInt = n := e2
  subst e2
  exact lv_tableIn E.1.1 E.1.2 hd (by omega) (by omega) ho ht (kk ls ws h2 h3_1)
end JR
