/-! A DEAL BY COUNTS IS ONE -/
theorem j_opt_le {c sh sh' : Int → Int} {al : Int} (h : j_opt c al sh) (h' : j_opt c al sh') {s : Int} (s0 : 0 ≤ s) (s1 : s < 256) : sh s ≤ sh' s := by
  by_cases lt : sh s ≤ sh' s
  · exact lt
  exfalso
  obtain ⟨a1, a2, a3, a4⟩ := h
  obtain ⟨b1, b2, b3, b4⟩ := h'
  have cs : 0 < c s := by
    by_cases z : 0 < c s
    · exact z
    · have := a1 s s0 s1 (by omega); have := b1 s s0 s1 (by omega); omega
  by_cases ex : ∃ t : Int, 0 ≤ t ∧ t < 256 ∧ sh t < sh' t
  · obtain ⟨t, t0, t1, tl⟩ := ex
    have ct : 0 < c t := by
      by_cases z : 0 < c t
      · exact z
      · have := a1 t t0 t1 (by omega); have := b1 t t0 t1 (by omega); omega
    have ss := b2 s s0 s1 cs
    have tt := a2 t t0 t1 ct
    have ne : t ≠ s := fun e => by rw [e] at tl; omega
    have p1 := a4 t s t0 t1 s0 s1 ne ct cs (by omega)
    have p2 := b4 s t s0 s1 t0 t1 (fun e => ne e.symm) cs ct (by omega)
    have q1 := j_gn_anti (c := c) (s := t) (k := sh t) (k' := sh' t - 1) (by omega) tt (by omega)
    have q2 := j_gn_anti (c := c) (s := s) (k := sh' s) (k' := sh s - 1) (by omega) ss (by omega)
    omega
  · have ge : ∀ t : Int, 0 ≤ t → t < 256 → sh' t ≤ sh t := fun t t0 t1 => by
      by_cases z : sh' t ≤ sh t
      · exact z
      · exact absurd ⟨t, t0, t1, by omega⟩ ex
    have d := j_pre_sub sh sh' 256
    have o := j_pre_one (f := fun k => sh k - sh' k) 256 s (fun k k0 k1 => by have := ge k k0 k1; show 0 ≤ sh k - sh' k; omega) s0 s1
    have e256 : ((256 : Nat) : Int) = 256 := rfl
    rw [e256] at o
    rw [d, a3, b3] at o
    have o : sh s - sh' s ≤ al - al := o
    omega
theorem j_opt_one {c sh sh' : Int → Int} {al : Int} (h : j_opt c al sh) (h' : j_opt c al sh') {s : Int} (s0 : 0 ≤ s) (s1 : s < 256) : sh s = sh' s := by
  have := j_opt_le h h' s0 s1
  have := j_opt_le h' h s0 s1
  omega
theorem j_deal_one {c sh sh' : Int → Int} {al : Int} (h : j_deal c al sh) (h' : j_deal c al sh') {s : Int} (s0 : 0 ≤ s) (s1 : s < 256) : sh s = sh' s := by
  rcases h with ⟨h, t, t0, t1, ct⟩ | ⟨h1, h2⟩
  · rcases h' with ⟨h', _⟩ | ⟨g1, g2⟩
    · exact j_opt_one h h' s0 s1
    · have := g1 t t0 t1; omega
  · rcases h' with ⟨_, t, t0, t1, ct⟩ | ⟨g1, g2⟩
    · have := h1 t t0 t1; omega
    · rw [h2 s s0 s1, g2 s s0 s1]
