/-! ARITHMETIC of the machine's ints by their numbers -/
theorem q_bm {n : Int} (h1 : -2147483648 ≤ n) (h2 : n ≤ 2147483647) : n.bmod (2 ^ 32) = n := Int.bmod_eq_of_le (by simp; omega) (by simp; omega)
theorem q_iadd {x y : Int32} (h1 : -2147483648 ≤ x.toInt + y.toInt) (h2 : x.toInt + y.toInt ≤ 2147483647) : (x + y).toInt = x.toInt + y.toInt := by rw [Int32.toInt_add, q_bm h1 h2]
theorem q_isub {x y : Int32} (h1 : -2147483648 ≤ x.toInt - y.toInt) (h2 : x.toInt - y.toInt ≤ 2147483647) : (x - y).toInt = x.toInt - y.toInt := by rw [Int32.toInt_sub, q_bm h1 h2]
theorem q_imul {x y : Int32} (h1 : -2147483648 ≤ x.toInt * y.toInt) (h2 : x.toInt * y.toInt ≤ 2147483647) : (x * y).toInt = x.toInt * y.toInt := by rw [Int32.toInt_mul, q_bm h1 h2]
theorem q_ineg {x : Int32} (h : -2147483647 ≤ x.toInt) : (-x).toInt = - x.toInt := by
  rw [Int32.toInt_neg]
  have hm : x.toInt ≤ (2147483647 : Int) := Int32.toInt_le x
  exact q_bm (by omega) (by omega)
theorem q_idiv {x y : Int32} (hx : 0 ≤ x.toInt) (hy : 1 ≤ y.toInt) : (x / y).toInt = x.toInt / y.toInt := by
  rw [Int32.toInt_div_of_ne_right x y (fun h => by rw [h] at hy; exact absurd hy (by decide)), Int.tdiv_eq_ediv_of_nonneg hx]
theorem q_ne0 {y : Int32} (h : 1 ≤ y.toInt ∨ y.toInt ≤ -1) : ¬ y = 0 := fun e => by
  subst e
  rcases h with h | h
  · exact absurd h (by decide)
  · exact absurd h (by decide)
theorem q_irem {x y : Int32} (hx : 0 ≤ x.toInt) (hy : 1 ≤ y.toInt) : (x - x / y * y).toInt = x.toInt % y.toInt := by
  have hd := q_idiv hx hy
  have hmx : x.toInt ≤ 2147483647 := Int32.toInt_le x
  have h1 : y.toInt * (x.toInt / y.toInt) + x.toInt % y.toInt = x.toInt := Int.mul_ediv_add_emod _ _
  have h2 : 0 ≤ x.toInt % y.toInt := Int.emod_nonneg _ (by omega)
  have h3 : 0 ≤ x.toInt / y.toInt := Int.ediv_nonneg hx (by omega)
  have h4 : 0 ≤ y.toInt * (x.toInt / y.toInt) := Int.mul_nonneg (by omega) h3
  have hm : (x / y * y).toInt = y.toInt * (x.toInt / y.toInt) := by
    rw [q_imul, hd, Int.mul_comm]
    · rw [hd, Int.mul_comm]; omega
    · rw [hd, Int.mul_comm]; omega
  rw [q_isub, hm]
  · omega
  · rw [hm]; omega
  · rw [hm]; omega
/-- the rest of any number by one above 0 -/
theorem q_iremA {x y : Int32} (hy : 1 ≤ y.toInt) : -(y.toInt - 1) ≤ (x - x / y * y).toInt ∧ (x - x / y * y).toInt ≤ y.toInt - 1 := by
  have hmx : x.toInt ≤ 2147483647 := Int32.toInt_le x
  have hmn : -2147483648 ≤ x.toInt := Int32.le_toInt x
  have hmy : y.toInt ≤ 2147483647 := Int32.toInt_le y
  have hd : (x / y).toInt = x.toInt.tdiv y.toInt := Int32.toInt_div_of_ne_right x y (fun h => by rw [h] at hy; exact absurd hy (by decide))
  have h1 : y.toInt * (x.toInt.tdiv y.toInt) + x.toInt.tmod y.toInt = x.toInt := Int.mul_tdiv_add_tmod _ _
  have h2 : x.toInt.tmod y.toInt < y.toInt := Int.tmod_lt_of_pos _ (by omega)
  have h3 : -y.toInt < x.toInt.tmod y.toInt := by
    rcases Int.lt_or_le x.toInt 0 with h | h
    · have h5 : (-x.toInt).tmod y.toInt < y.toInt := Int.tmod_lt_of_pos _ (by omega)
      rw [Int.neg_tmod] at h5
      omega
    · have := Int.tmod_nonneg y.toInt h
      omega
  have hb : -2147483648 ≤ y.toInt * (x.toInt.tdiv y.toInt) ∧ y.toInt * (x.toInt.tdiv y.toInt) ≤ 2147483647 := by
    rcases Int.lt_or_le x.toInt 0 with h | h
    · have h6 : x.toInt.tmod y.toInt ≤ 0 := by
        have h5 := Int.tmod_nonneg y.toInt (show 0 ≤ -x.toInt by omega)
        rw [Int.neg_tmod] at h5
        omega
      have h7 : y.toInt * (x.toInt.tdiv y.toInt) ≤ 0 := by
        have h8 : 0 ≤ (-x.toInt).tdiv y.toInt := Int.tdiv_nonneg (by omega) (by omega)
        rw [Int.neg_tdiv] at h8
        exact Int.mul_nonpos_of_nonneg_of_nonpos (by omega) (by omega)
      omega
    · have h6 := Int.tmod_nonneg y.toInt h
      have h7 : 0 ≤ y.toInt * (x.toInt.tdiv y.toInt) := Int.mul_nonneg (by omega) (Int.tdiv_nonneg h (by omega))
      omega
  have hm : (x / y * y).toInt = y.toInt * (x.toInt.tdiv y.toInt) := by
    rw [q_imul, hd, Int.mul_comm]
    · rw [hd, Int.mul_comm]; omega
    · rw [hd, Int.mul_comm]; omega
  have hs : (x - x / y * y).toInt = x.toInt.tmod y.toInt := by
    rw [q_isub, hm]
    · omega
    · rw [hm]; omega
    · rw [hm]; omega
  rw [hs]
  omega
theorem q_nn {x : Int32} (h : 0 ≤ x.toInt) : ∃ n : Nat, n < 2 ^ 31 ∧ x = nI n ∧ x.toInt = (n : Int) := by
  obtain ⟨j, hj, rfl⟩ := nI_of (x := x) (fun q => by rw [Int32.lt_iff_toInt_lt] at q; exact absurd q (by show ¬ x.toInt < 0; omega))
  exact ⟨j, hj, rfl, nI_toInt hj⟩
/-- what a mask leaves -/
theorem q_iand {x m : Int32} (hm : 0 ≤ m.toInt) : 0 ≤ (x &&& m).toInt ∧ (x &&& m).toInt ≤ m.toInt := by
  obtain ⟨n, hn, rfl, he⟩ := q_nn hm
  have h1 : (x &&& nI n).toBitVec.toNat = x.toBitVec.toNat &&& n := by
    rw [Int32.toBitVec_and, BitVec.toNat_and, pk_tn (by omega)]
  have h2 : x.toBitVec.toNat &&& n ≤ n := Nat.and_le_right
  have h3 : (x &&& nI n).toInt = ((x.toBitVec.toNat &&& n : Nat) : Int) := by
    show (x &&& nI n).toBitVec.toInt = _
    rw [BitVec.toInt_eq_toNat_of_lt (by rw [h1]; omega), h1]
  rw [h3, he]
  omega
theorem q_iandL {x m : Int32} (hm : 0 ≤ m.toInt) : 0 ≤ (m &&& x).toInt ∧ (m &&& x).toInt ≤ m.toInt := by
  have : m &&& x = x &&& m := Int32.toBitVec_inj.mp (by rw [Int32.toBitVec_and, Int32.toBitVec_and, BitVec.and_comm])
  rw [this]
  exact q_iand hm
/-- 1 shifted by a to b -/
theorem q_ishl1 {y : Int32} {n : Nat} (hy : y = nI n) (hn : n ≤ 30) : ((1 : Int32) <<< (y &&& 31)).toInt = ((2 ^ n : Nat) : Int) := by
  subst hy
  have : ∀ n, n < 31 → ((1 : Int32) <<< (nI n &&& 31)).toInt = ((2 ^ n : Nat) : Int) := by decide +kernel
  exact this n (by omega)
theorem q_pow2 {a b : Nat} (h : a ≤ b) : ((2 ^ a : Nat) : Int) ≤ ((2 ^ b : Nat) : Int) := Int.ofNat_le.mpr (Nat.pow_le_pow_right (by omega) h)
theorem q_ishr {x : Int32} {k n : Nat} (hx : x = nI n) (hn : n < 2 ^ 31) (hk : k < 32) : (x >>> (nI k &&& 31)).toInt = ((n / 2 ^ k : Nat) : Int) := by
  subst hx
  have h31 : ∀ k, k < 32 → ((nI k &&& 31).toBitVec.smod 32).toNat = k := by decide +kernel
  rw [pk_shrN hn _ k (h31 k hk)]
  exact nI_toInt (Nat.lt_of_le_of_lt (Nat.div_le_self _ _) hn)
