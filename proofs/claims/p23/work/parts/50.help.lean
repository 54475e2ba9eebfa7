/-! WORDS for what the methods do: rows of numbers -/
def j_row (V : jH) (a : Int) (f : Int → Int) : jH := fun b => if b = a then f else V b
def j_u (f : Int → Int) (i x : Int) : Int → Int := fun j => if j = i then x else f j
theorem j_row_at (V : jH) (a : Int) (f : Int → Int) : j_row V a f a = f := by simp [j_row]
theorem j_row_ne {V : jH} {a b : Int} {f : Int → Int} (h : b ≠ a) : j_row V a f b = V b := by simp [j_row, h]
theorem j_row_self (V : jH) (a : Int) : j_row V a (V a) = V := by
  funext b
  by_cases h : b = a
  · subst h; exact j_row_at _ _ _
  · exact j_row_ne h
theorem j_row_row (V : jH) (a : Int) (f g : Int → Int) : j_row (j_row V a f) a g = j_row V a g := by
  funext b
  by_cases h : b = a
  · subst h; rw [j_row_at, j_row_at]
  · rw [j_row_ne h, j_row_ne h, j_row_ne h]
theorem j_row_comm {V : jH} {a b : Int} {f g : Int → Int} (h : a ≠ b) : j_row (j_row V a f) b g = j_row (j_row V b g) a f := by
  funext c
  by_cases h1 : c = b
  · subst h1; rw [j_row_at, j_row_ne (Ne.symm h), j_row_at]
  · by_cases h2 : c = a
    · subst h2; rw [j_row_ne h1, j_row_at, j_row_at]
    · rw [j_row_ne h1, j_row_ne h2, j_row_ne h2, j_row_ne h1]
theorem j_up_row (V : jH) (a i x : Int) : j_up V a i x = j_row V a (j_u (V a) i x) := by
  funext b j
  by_cases h : b = a
  · subst h; rw [j_row_at]; simp [j_up, j_u]
  · rw [j_row_ne h]; simp [j_up, h]
theorem j_row_up (V : jH) (a i x : Int) (f : Int → Int) : j_up (j_row V a f) a i x = j_row V a (j_u f i x) := by
  rw [j_up_row, j_row_at, j_row_row]
theorem j_cpy_row (V : jH) (src sp dst dp n : Int) : j_cpy V src sp dst dp n = j_row V dst (fun j => if dp ≤ j ∧ j < dp + n then V src (sp + (j - dp)) else V dst j) := by
  funext b j
  by_cases h : b = dst
  · subst h; rw [j_row_at]; simp [j_cpy]
  · rw [j_row_ne h]; simp [j_cpy, h]
theorem j_u_at (f : Int → Int) (i x : Int) : j_u f i x i = x := by simp [j_u]
theorem j_u_ne {f : Int → Int} {i x j : Int} (h : j ≠ i) : j_u f i x j = f j := by simp [j_u, h]
theorem j_mulb {a b A B : Int} (ha : 0 ≤ a) (hA : a ≤ A) (hb : 0 ≤ b) (hB : b ≤ B) : 0 ≤ a * b ∧ a * b ≤ A * B :=
  ⟨Int.mul_nonneg ha hb, Int.mul_le_mul hA hB hb (by omega)⟩
/-- a loop that counts up -/
theorem j_loop {σ : Type} {N : Int} {I W : Int → σ → Prop} (hs : ∀ i s, i < N → I i s → (∀ s', I (i + 1) s' → W (i + 1) s') → W i s) (he : ∀ i s, N ≤ i → I i s → W i s) : ∀ i s, I i s → W i s := by
  have main : ∀ n : Nat, ∀ i s, N ≤ i + (n : Int) → I i s → W i s := by
    intro n
    induction n with
    | zero => intro i s h hI; exact he i s (by omega) hI
    | succ n ih =>
      intro i s h hI
      by_cases hi : i < N
      · exact hs i s hi hI (fun s' hI' => ih (i + 1) s' (by omega) hI')
      · exact he i s (by omega) hI
  intro i s hI
  exact main (N - i).toNat i s (by omega) hI
/-- a loop that counts down -/
theorem j_loopD {σ : Type} {N : Int} {I W : Int → σ → Prop} (hs : ∀ i s, N ≤ i → I i s → (∀ s', I (i - 1) s' → W (i - 1) s') → W i s) (he : ∀ i s, i < N → I i s → W i s) : ∀ i s, I i s → W i s := by
  have main : ∀ n : Nat, ∀ i s, i < N + (n : Int) → I i s → W i s := by
    intro n
    induction n with
    | zero => intro i s h hI; exact he i s (by omega) hI
    | succ n ih =>
      intro i s h hI
      by_cases hi : N ≤ i
      · exact hs i s hi hI (fun s' hI' => ih (i - 1) s' (by omega) hI')
      · exact he i s (by omega) hI
  intro i s hI
  exact main (i + 1 - N).toNat i s (by omega) hI
/-- the sum of the first n -/
def j_sum (f : Int → Int) : Nat → Int
  | 0 => 0
  | n + 1 => j_sum f n + f (n : Int)
/-- the sum of those below i -/
def j_pre (f : Int → Int) (i : Int) : Int := j_sum f i.toNat
theorem j_pre_0 (f : Int → Int) : j_pre f 0 = 0 := rfl
theorem j_pre_s (f : Int → Int) {i : Int} (h : 0 ≤ i) : j_pre f (i + 1) = j_pre f i + f i := by
  unfold j_pre
  rw [show (i + 1).toNat = i.toNat + 1 by omega]
  show j_sum f i.toNat + f (i.toNat : Int) = _
  rw [show ((i.toNat : Nat) : Int) = i by omega]
theorem j_sum_congr {f g : Int → Int} : ∀ {n : Nat}, (∀ i : Int, 0 ≤ i → i < (n : Int) → f i = g i) → j_sum f n = j_sum g n
  | 0, _ => rfl
  | n + 1, h => by
    show j_sum f n + f n = j_sum g n + g n
    rw [j_sum_congr (fun i h0 h1 => h i h0 (by omega)), h n (by omega) (by omega)]
theorem j_pre_congr {f g : Int → Int} {i : Int} (h : ∀ k : Int, 0 ≤ k → k < i → f k = g k) : j_pre f i = j_pre g i :=
  j_sum_congr (fun k h0 h1 => h k h0 (by omega))
theorem j_sum_bd {f : Int → Int} {B : Int} (hB : 0 ≤ B) : ∀ {n : Nat}, (∀ i : Int, 0 ≤ i → i < (n : Int) → 0 ≤ f i ∧ f i ≤ B) → 0 ≤ j_sum f n ∧ j_sum f n ≤ n * B
  | 0, _ => by simp [j_sum]
  | n + 1, h => by
    have ih := j_sum_bd hB (n := n) (fun i h0 h1 => h i h0 (by omega))
    have h1 := h n (by omega) (by omega)
    have e : ((n + 1 : Nat) : Int) * B = n * B + B := by rw [Int.natCast_add, Int.add_mul]; simp
    show 0 ≤ j_sum f n + f n ∧ j_sum f n + f n ≤ ((n + 1 : Nat) : Int) * B
    rw [e]
    omega
theorem j_pre_bd {f : Int → Int} {B i : Int} (hB : 0 ≤ B) (hi : 0 ≤ i) (h : ∀ k : Int, 0 ≤ k → k < i → 0 ≤ f k ∧ f k ≤ B) : 0 ≤ j_pre f i ∧ j_pre f i ≤ i * B := by
  have := j_sum_bd hB (n := i.toNat) (f := f) (fun k h0 h1 => h k h0 (by omega))
  rw [show ((i.toNat : Nat) : Int) = i by omega] at this
  exact this
abbrev j_I32 (x : Int) : Prop := -2147483648 ≤ x ∧ x ≤ 2147483647
