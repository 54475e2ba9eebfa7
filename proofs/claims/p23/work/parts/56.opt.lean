/-! DEALING at the least cost: what a deal by counts is -/
/-- what the share behind the k-th brings -/
def j_gn (c : Int → Int) (s k : Int) : Int := c s * (1000000 / k)
/-- how many shares of a sign gain so much at least; its first one is a must -/
def j_wa (c : Int → Int) (g al s : Int) : Int := if c s < 1 then 0 else 1 + min (al - 1) (1000000 / max 1 ((g + c s - 1) / c s))
/-- a deal by counts -/
def j_opt (c : Int → Int) (al : Int) (sh : Int → Int) : Prop :=
  (∀ s : Int, 0 ≤ s → s < 256 → c s ≤ 0 → sh s = 0) ∧ (∀ s : Int, 0 ≤ s → s < 256 → 0 < c s → 1 ≤ sh s) ∧ j_pre sh 256 = al ∧
  ∀ s t : Int, 0 ≤ s → s < 256 → 0 ≤ t → t < 256 → s ≠ t → 0 < c s → 0 < c t → 2 ≤ sh t → j_gn c s (sh s) < j_gn c t (sh t - 1) ∨ (j_gn c s (sh s) = j_gn c t (sh t - 1) ∧ t < s)
theorem j_div_anti {a b : Int} (ha : 1 ≤ a) (hb : a ≤ b) : 1000000 / b ≤ 1000000 / a := by
  have h1 : b * (1000000 / b) ≤ 1000000 := by have := Int.mul_ediv_add_emod 1000000 b; have := Int.emod_nonneg 1000000 (show b ≠ 0 by omega); omega
  have h2 : 0 ≤ (1000000 : Int) / b := Int.ediv_nonneg (by decide) (by omega)
  have h3 : a * (1000000 / b) ≤ b * (1000000 / b) := Int.mul_le_mul_of_nonneg_right hb h2
  exact Int.le_ediv_of_mul_le (by omega) (by rw [Int.mul_comm]; omega)
theorem j_gn_anti {c : Int → Int} {s k k' : Int} (hc : 0 ≤ c s) (h1 : 1 ≤ k) (h2 : k ≤ k') : j_gn c s k' ≤ j_gn c s k :=
  Int.mul_le_mul_of_nonneg_left (j_div_anti h1 h2) hc
theorem j_wa_0 {c : Int → Int} {g al s : Int} (h : c s ≤ 0) : j_wa c g al s = 0 := by unfold j_wa; rw [if_pos (by omega)]
theorem j_wa_bd {c : Int → Int} {g al s : Int} (hal : 1 ≤ al) : 0 ≤ j_wa c g al s ∧ j_wa c g al s ≤ al ∧ (0 < c s → 1 ≤ j_wa c g al s) := by
  unfold j_wa
  split
  · omega
  · have : 0 ≤ (1000000 : Int) / max 1 ((g + c s - 1) / c s) := Int.ediv_nonneg (by decide) (by omega)
    omega
/-- the k + 1-st share is wanted just when it gains so much -/
theorem j_wa_iff {c : Int → Int} {g al s k : Int} (hc : 0 < c s) (hg : 0 ≤ g) (h1 : 1 ≤ k) (h2 : k ≤ al - 1) (hal : al ≤ 1000000) : k < j_wa c g al s ↔ g ≤ j_gn c s k := by
  unfold j_wa
  rw [if_neg (by omega)]
  have hn : 1 ≤ max 1 ((g + c s - 1) / c s) := by omega
  have e1 : k ≤ 1000000 / max 1 ((g + c s - 1) / c s) ↔ max 1 ((g + c s - 1) / c s) ≤ 1000000 / k := by
    rw [Int.le_ediv_iff_mul_le (by omega), Int.le_ediv_iff_mul_le (by omega), Int.mul_comm]
  have h3 : 1 ≤ 1000000 / k := Int.le_ediv_of_mul_le (by omega) (by omega)
  have e2 : (g + c s - 1) / c s ≤ 1000000 / k ↔ g ≤ c s * (1000000 / k) := by
    constructor
    · intro h
      have h4 : g + c s - 1 < ((g + c s - 1) / c s + 1) * c s := Int.lt_ediv_add_one_mul_self _ hc
      have h5 : ((g + c s - 1) / c s + 1) * c s ≤ (1000000 / k + 1) * c s := Int.mul_le_mul_of_nonneg_right (by omega) (by omega)
      rw [Int.add_mul (1000000 / k) 1 (c s), Int.one_mul, Int.mul_comm (1000000 / k)] at h5
      omega
    · intro h
      have h4 : (g + c s - 1) / c s * c s ≤ g + c s - 1 := Int.ediv_mul_le _ (by omega)
      rcases Int.lt_or_le (1000000 / k) ((g + c s - 1) / c s) with h5 | h5
      · exfalso
        have h6 : (1000000 / k + 1) * c s ≤ (g + c s - 1) / c s * c s := Int.mul_le_mul_of_nonneg_right (by omega) (by omega)
        rw [Int.add_mul (1000000 / k) 1 (c s), Int.one_mul, Int.mul_comm (1000000 / k)] at h6
        omega
      · exact h5
  unfold j_gn
  omega
theorem j_wa_anti {c : Int → Int} {g g' al s : Int} (hg : 0 ≤ g) (h : g ≤ g') (hal : 1 ≤ al) (hal2 : al ≤ 1000000) : j_wa c g' al s ≤ j_wa c g al s := by
  rcases Int.lt_or_le 0 (c s) with hc | hc
  · have b1 := j_wa_bd (c := c) (g := g) (s := s) hal
    have b2 := j_wa_bd (c := c) (g := g') (s := s) hal
    rcases Int.lt_or_le (j_wa c g al s) (j_wa c g' al s) with h1 | h1
    · exfalso
      have h2 := (j_wa_iff (g := g') hc (by omega) (b1.2.2 hc) (by omega) hal2).mp h1
      have h3 := (j_wa_iff (g := g) hc hg (b1.2.2 hc) (by omega) hal2).mpr (by omega)
      omega
    · exact h1
  · rw [j_wa_0 hc, j_wa_0 hc]
    exact Int.le_refl 0
theorem j_pre_le {f g : Int → Int} {i : Int} (h : ∀ k : Int, 0 ≤ k → k < i → f k ≤ g k) : j_pre f i ≤ j_pre g i := by
  unfold j_pre
  have : ∀ n : Nat, (∀ k : Int, 0 ≤ k → k < (n : Int) → f k ≤ g k) → j_sum f n ≤ j_sum g n := by
    intro n
    induction n with
    | zero => intro _; exact Int.le_refl 0
    | succ n ih =>
      intro hh
      have := ih (fun k k0 k1 => hh k k0 (by omega))
      have := hh n (by omega) (by omega)
      show j_sum f n + f n ≤ j_sum g n + g n
      omega
  exact this _ (fun k k0 k1 => h k k0 (by omega))
theorem j_pre_add (f g : Int → Int) (i : Int) : j_pre (fun s => f s + g s) i = j_pre f i + j_pre g i := by
  unfold j_pre
  induction i.toNat with
  | zero => rfl
  | succ n ih =>
    show j_sum _ n + (f n + g n) = (j_sum f n + f n) + (j_sum g n + g n)
    rw [ih]
    omega
theorem j_pre_sub (f g : Int → Int) (i : Int) : j_pre (fun s => f s - g s) i = j_pre f i - j_pre g i := by
  unfold j_pre
  induction i.toNat with
  | zero => rfl
  | succ n ih =>
    show j_sum _ n + (f n - g n) = (j_sum f n + f n) - (j_sum g n + g n)
    rw [ih]
    omega
theorem j_pre_tel (r : Int → Int) {i : Int} (h : 0 ≤ i) : j_pre (fun s => r s - r (s + 1)) i = r 0 - r i := by
  obtain ⟨n, rfl⟩ : ∃ n : Nat, i = n := ⟨i.toNat, by omega⟩
  induction n with
  | zero => simp [j_pre, j_sum]
  | succ n ih =>
    have e : ((n + 1 : Nat) : Int) = (n : Int) + 1 := by omega
    rw [e, j_pre_s _ (by omega), ih (by omega)]
    omega
theorem j_pre_mono {f : Int → Int} (h : ∀ k : Int, 0 ≤ f k) {i j : Int} (h0 : 0 ≤ i) (h1 : i ≤ j) : j_pre f i ≤ j_pre f j := by
  obtain ⟨n, rfl⟩ : ∃ n : Nat, j = i + n := ⟨(j - i).toNat, by omega⟩
  induction n with
  | zero => simp
  | succ n ih =>
    have e : i + ((n + 1 : Nat) : Int) = (i + n) + 1 := by omega
    rw [e, j_pre_s _ (by omega)]
    have := ih (by omega)
    have := h (i + n)
    omega
/-- so many are left ahead of a sign, when left go to the lowest first -/
def j_rest (left : Int) (D : Int → Int) (s : Int) : Int := max 0 (left - j_pre D s)
/-- all higher gains, and of just this one what is left, to the lowest first -/
def j_dealt (c : Int → Int) (g al left s : Int) : Int := j_wa c (g + 1) al s + (j_rest left (fun k => j_wa c g al k - j_wa c (g + 1) al k) s - j_rest left (fun k => j_wa c g al k - j_wa c (g + 1) al k) (s + 1))
theorem j_rest_s {left : Int} {D : Int → Int} {s : Int} (h0 : 0 ≤ s) (hD : 0 ≤ D s) : j_rest left D s - j_rest left D (s + 1) = min (j_rest left D s) (D s) := by
  unfold j_rest
  rw [j_pre_s _ h0]
  omega
theorem j_dealt_bd {c : Int → Int} {g al left s : Int} (hg : 0 ≤ g) (hal : 1 ≤ al) (hal2 : al ≤ 1000000) (h0 : 0 ≤ s) : j_wa c (g + 1) al s ≤ j_dealt c g al left s ∧ j_dealt c g al left s ≤ j_wa c g al s := by
  have hD := j_wa_anti (c := c) (s := s) hg (show g ≤ g + 1 by omega) hal hal2
  have := j_rest_s (left := left) (D := fun k => j_wa c g al k - j_wa c (g + 1) al k) h0 (by show 0 ≤ j_wa c g al s - j_wa c (g + 1) al s; omega)
  unfold j_dealt
  rw [this]
  have : 0 ≤ j_rest left (fun k => j_wa c g al k - j_wa c (g + 1) al k) s := by unfold j_rest; omega
  show _ ∧ _ + min _ (j_wa c g al s - j_wa c (g + 1) al s) ≤ _
  omega
theorem j_dealt_opt {c : Int → Int} {g al : Int} (hg : 0 ≤ g) (hal : 1 ≤ al) (hal2 : al ≤ 1000000) (h1 : al ≤ j_pre (j_wa c g al) 256) (h2 : j_pre (j_wa c (g + 1) al) 256 ≤ al) : j_opt c al (j_dealt c g al (al - j_pre (j_wa c (g + 1) al) 256)) := by
  generalize hL : al - j_pre (j_wa c (g + 1) al) 256 = left
  have hD : ∀ k : Int, 0 ≤ (fun k => j_wa c g al k - j_wa c (g + 1) al k) k := fun k => by
    have := j_wa_anti (c := c) (s := k) hg (show g ≤ g + 1 by omega) hal hal2
    show 0 ≤ j_wa c g al k - j_wa c (g + 1) al k
    omega
  have hsum : j_pre (j_dealt c g al left) 256 = al := by
    have e1 : j_pre (j_dealt c g al left) 256 = j_pre (j_wa c (g + 1) al) 256 + j_pre (fun s => j_rest left (fun k => j_wa c g al k - j_wa c (g + 1) al k) s - j_rest left (fun k => j_wa c g al k - j_wa c (g + 1) al k) (s + 1)) 256 := j_pre_add _ _ _
    have eD : j_pre (fun k => j_wa c g al k - j_wa c (g + 1) al k) 256 = j_pre (j_wa c g al) 256 - j_pre (j_wa c (g + 1) al) 256 := j_pre_sub _ _ _
    have e0 : j_pre (fun k => j_wa c g al k - j_wa c (g + 1) al k) 0 = 0 := rfl
    rw [e1, j_pre_tel _ (by decide)]
    unfold j_rest
    rw [eD, e0]
    omega
  have hb : ∀ s : Int, 0 ≤ s → j_wa c (g + 1) al s ≤ j_dealt c g al left s ∧ j_dealt c g al left s ≤ j_wa c g al s := fun s h0 => j_dealt_bd hg hal hal2 h0
  refine ⟨fun s s0 s1 hc => ?_, fun s s0 s1 hc => ?_, hsum, fun s t s0 s1 t0 t1 hst hcs hct ht2 => ?_⟩
  · have := hb s s0
    rw [j_wa_0 hc, j_wa_0 hc] at this
    omega
  · have := hb s s0
    have := (j_wa_bd (c := c) (g := g + 1) (s := s) hal).2.2 hc
    omega
  · have bs := hb s s0
    have bt := hb t t0
    have ws := j_wa_bd (c := c) (g := g) (s := s) hal
    have wt := j_wa_bd (c := c) (g := g) (s := t) hal
    have ws1 := (j_wa_bd (c := c) (g := g + 1) (s := s) hal).2.2 hcs
    -- the shares of s and t are not more than all
    have hpos : ∀ k : Int, 0 ≤ k → 0 ≤ j_dealt c g al left k := fun k k0 => by
      have := hb k k0
      have := j_wa_bd (c := c) (g := g + 1) (s := k) hal
      omega
    have two : j_dealt c g al left s + j_dealt c g al left t ≤ al := by
      have e := j_pre_le (i := 256) (f := fun k => (if k = s then j_dealt c g al left s else 0) + (if k = t then j_dealt c g al left t else 0)) (g := j_dealt c g al left) (fun k k0 k1 => by
        have := hpos k k0
        show (if k = s then _ else 0) + (if k = t then _ else 0) ≤ _
        by_cases e1 : k = s
        · subst e1; rw [if_pos rfl, if_neg hst]; omega
        · rw [if_neg e1]
          by_cases e2 : k = t
          · subst e2; rw [if_pos rfl]; omega
          · rw [if_neg e2]; omega)
      rw [hsum, j_pre_add] at e
      have one : ∀ (u x : Int), 0 ≤ u → u < 256 → j_pre (fun k => if k = u then x else 0) 256 = x := by
        intro u x u0 u1
        have key : ∀ n : Nat, j_sum (fun k => if k = u then x else 0) n = if u < (n : Int) then x else 0 := by
          intro n
          induction n with
          | zero => show (0 : Int) = _; rw [if_neg (by omega)]
          | succ n ih =>
            show j_sum _ n + (if (n : Int) = u then x else 0) = _
            rw [ih]
            by_cases e1 : (n : Int) = u
            · rw [if_pos e1, if_neg (by omega), if_pos (by omega)]; omega
            · rw [if_neg e1]
              by_cases e2 : u < (n : Int)
              · rw [if_pos e2, if_pos (by omega)]; omega
              · rw [if_neg e2, if_neg (by omega)]; omega
        show j_sum _ 256 = x
        rw [key 256, if_pos (by omega)]
      rw [one s _ s0 s1, one t _ t0 t1] at e
      exact e
    have k1 : g ≤ j_gn c t (j_dealt c g al left t - 1) := (j_wa_iff hct hg (by omega) (by omega) hal2).mp (by omega)
    have k2 : ¬ (g + 1 ≤ j_gn c s (j_dealt c g al left s)) := fun q => by
      have := (j_wa_iff (al := al) hcs (by omega) (by omega) (by omega) hal2).mpr q
      omega
    rcases Int.lt_or_le (j_gn c s (j_dealt c g al left s)) (j_gn c t (j_dealt c g al left t - 1)) with q | q
    · exact Or.inl q
    · have e1 : j_gn c s (j_dealt c g al left s) = g := by omega
      have e2 : j_gn c t (j_dealt c g al left t - 1) = g := by omega
      refine Or.inr ⟨by omega, ?_⟩
      have f1 : j_dealt c g al left s < j_wa c g al s := (j_wa_iff hcs hg (by omega) (by omega) hal2).mpr (by omega)
      have f2 : ¬ (j_dealt c g al left t - 1 < j_wa c (g + 1) al t) := fun z => by
        have := (j_wa_iff (al := al) (g := g + 1) hct (by omega) (by omega) (by omega) hal2).mp z
        omega
      have r1 := j_rest_s (left := left) (D := fun k => j_wa c g al k - j_wa c (g + 1) al k) s0 (hD s)
      have r2 := j_rest_s (left := left) (D := fun k => j_wa c g al k - j_wa c (g + 1) al k) t0 (hD t)
      have r1 : j_dealt c g al left s - j_wa c (g + 1) al s = min (j_rest left (fun k => j_wa c g al k - j_wa c (g + 1) al k) s) (j_wa c g al s - j_wa c (g + 1) al s) := by rw [← r1]; unfold j_dealt; omega
      have r2 : j_dealt c g al left t - j_wa c (g + 1) al t = min (j_rest left (fun k => j_wa c g al k - j_wa c (g + 1) al k) t) (j_wa c g al t - j_wa c (g + 1) al t) := by rw [← r2]; unfold j_dealt; omega
      rcases Int.lt_or_le t s with z | z
      · exact z
      · exfalso
        have m1 := j_pre_mono hD (i := s + 1) (j := t) (by omega) (by omega)
        have m2 := j_pre_s (fun k => j_wa c g al k - j_wa c (g + 1) al k) s0
        have r3 : 0 < j_rest left (fun k => j_wa c g al k - j_wa c (g + 1) al k) t := by omega
        have r4 : j_rest left (fun k => j_wa c g al k - j_wa c (g + 1) al k) s < j_wa c g al s - j_wa c (g + 1) al s := by omega
        unfold j_rest at r3 r4
        have m2 : j_pre (fun k => j_wa c g al k - j_wa c (g + 1) al k) (s + 1) = j_pre (fun k => j_wa c g al k - j_wa c (g + 1) al k) s + (j_wa c g al s - j_wa c (g + 1) al s) := m2
        omega
